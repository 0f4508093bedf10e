
theorem cv_RX7_338 : pa_CV RX7 RX7 338 yX7_goDay cX7_goDay 4 none 0 := ⟨⟨rfl, by decide +kernel, by decide +kernel, by decide +kernel⟩, pa_m6 42 rfl rfl, pa_m6 44 rfl rfl, pa_ms4 14 rfl rfl, pa_m1 10 rfl rfl, pa_m6 45 rfl rfl⟩
theorem cv_RX7_341 : pa_CV RX7 RX7 341 yX7_goDays cX7_goDays 3 none 1 := ⟨⟨rfl, by decide +kernel, by decide +kernel, by decide +kernel⟩, pa_m6 38 rfl rfl, pa_m6 40 rfl rfl, pa_ms4 13 rfl rfl, pa_m1 10 rfl rfl, pa_m6 41 rfl rfl⟩
theorem cv_RX7_344 : pa_CV RX7 RX7 344 yX7_save cX7_save 2 none 0 := ⟨⟨rfl, by decide +kernel, by decide +kernel, by decide +kernel⟩, pa_m6 50 rfl rfl, pa_m6 52 rfl rfl, pa_ms4 15 rfl rfl, pa_m1 10 rfl rfl, pa_m6 53 rfl rfl⟩
theorem cv_RX7_347 : pa_CV RX7 RX7 347 yX7_putBack cX7_putBack 2 none 0 := ⟨⟨rfl, by decide +kernel, by decide +kernel, by decide +kernel⟩, pa_m6 54 rfl rfl, pa_m6 56 rfl rfl, pa_ms5 0 rfl rfl, pa_m1 10 rfl rfl, pa_m6 57 rfl rfl⟩
theorem cv_RX7_350 : pa_CV RX7 RX7 350 yX7_isFortune cX7_isFortune 2 (some .boolean) 1 := ⟨⟨rfl, by decide +kernel, by decide +kernel, by decide +kernel⟩, pa_m6 62 rfl rfl, pa_m6 64 rfl rfl, pa_ms5 1 rfl rfl, pa_m1 10 rfl rfl, pa_m6 65 rfl rfl⟩
theorem cv_RX7_353 : pa_CV RX7 RX7 353 yX7_fortunesIf cX7_fortunesIf 4 (some .int) 2 := ⟨⟨rfl, by decide +kernel, by decide +kernel, by decide +kernel⟩, pa_m6 78 rfl rfl, pa_m6 80 rfl rfl, pa_ms5 2 rfl rfl, pa_m1 10 rfl rfl, pa_m6 81 rfl rfl⟩
theorem cv_RX7_359 : pa_CV RX7 RX7 359 yX7_looked cX7_looked 2 (some .int) 0 := ⟨⟨rfl, by decide +kernel, by decide +kernel, by decide +kernel⟩, pa_m6 106 rfl rfl, pa_m6 87 rfl rfl, pa_m6 88 rfl rfl, pa_m1 10 rfl rfl, pa_m6 89 rfl rfl⟩
theorem cv_RX7_356 : pa_CV RX7 RX7 356 yX7_pairOf cX7_pairOf 6 (some .int) 3 := ⟨⟨rfl, by decide +kernel, by decide +kernel, by decide +kernel⟩, pa_m6 102 rfl rfl, pa_m6 104 rfl rfl, pa_ms5 5 rfl rfl, pa_m1 10 rfl rfl, pa_m6 105 rfl rfl⟩
theorem cv_RX7_362 : pa_CV RX7 RX7 362 yX7_layPairs cX7_layPairs 3 none 0 := ⟨⟨rfl, by decide +kernel, by decide +kernel, by decide +kernel⟩, pa_m6 94 rfl rfl, pa_m6 96 rfl rfl, pa_ms5 3 rfl rfl, pa_m1 10 rfl rfl, pa_m6 97 rfl rfl⟩
theorem cv_RX7_365 : pa_CV RX7 RX7 365 yX7_isBookBy cX7_isBookBy 4 (some .boolean) 2 := ⟨⟨rfl, by decide +kernel, by decide +kernel, by decide +kernel⟩, pa_m6 98 rfl rfl, pa_m6 100 rfl rfl, pa_ms5 4 rfl rfl, pa_m1 10 rfl rfl, pa_m6 101 rfl rfl⟩
theorem cv_RX7_368 : pa_CV RX7 RX7 368 yX7_isSeen cX7_isSeen 3 (some .boolean) 0 := ⟨⟨rfl, by decide +kernel, by decide +kernel, by decide +kernel⟩, pa_m6 115 rfl rfl, pa_m6 117 rfl rfl, pa_ms5 6 rfl rfl, pa_m1 10 rfl rfl, pa_m6 118 rfl rfl⟩
theorem cv_RX7_371 : pa_CV RX7 RX7 371 yX7_divisor cX7_divisor 6 (some .int) 2 := ⟨⟨rfl, by decide +kernel, by decide +kernel, by decide +kernel⟩, pa_m6 132 rfl rfl, pa_m6 134 rfl rfl, pa_ms5 8 rfl rfl, pa_m1 10 rfl rfl, pa_m6 135 rfl rfl⟩
theorem cv_RX7_376 : pa_CV RX7 RX7 376 yX7_lowest cX7_lowest 5 (some .long) 3 := ⟨⟨rfl, by decide +kernel, by decide +kernel, by decide +kernel⟩, pa_m6 128 rfl rfl, pa_m6 130 rfl rfl, pa_ms5 7 rfl rfl, pa_m1 10 rfl rfl, pa_m6 131 rfl rfl⟩
theorem cv_RX7_380 : pa_CV RX7 RX7 380 yX7_on cX7_on 4 (some .int) 2 := ⟨⟨rfl, by decide +kernel, by decide +kernel, by decide +kernel⟩, pa_m6 140 rfl rfl, pa_m6 47 rfl rfl, pa_m6 48 rfl rfl, pa_m1 10 rfl rfl, pa_m6 49 rfl rfl⟩
theorem cv_RX7_383 : pa_CV RX7 RX7 383 yX7_isTape cX7_isTape 2 (some .boolean) 1 := ⟨⟨rfl, by decide +kernel, by decide +kernel, by decide +kernel⟩, pa_m6 153 rfl rfl, pa_m6 155 rfl rfl, pa_ms5 9 rfl rfl, pa_m1 10 rfl rfl, pa_m6 156 rfl rfl⟩
theorem cv_RX7_386 : pa_CV RX7 RX7 386 yX7_body cX7_body 2 none 1 := ⟨⟨rfl, by decide +kernel, by decide +kernel, by decide +kernel⟩, pa_m6 173 rfl rfl, pa_m6 175 rfl rfl, pa_ms5 11 rfl rfl, pa_m1 10 rfl rfl, pa_m6 176 rfl rfl⟩
theorem cv_RX7_389 : pa_CV RX7 RX7 389 yX7_handLies cX7_handLies 3 (some .int) 2 := ⟨⟨rfl, by decide +kernel, by decide +kernel, by decide +kernel⟩, pa_m6 177 rfl rfl, pa_m6 179 rfl rfl, pa_ms5 12 rfl rfl, pa_m1 10 rfl rfl, pa_m6 180 rfl rfl⟩
theorem cv_RX7_392 : pa_CV RX7 RX7 392 yX7_liesAct cX7_liesAct 3 (some .int) 2 := ⟨⟨rfl, by decide +kernel, by decide +kernel, by decide +kernel⟩, pa_m6 169 rfl rfl, pa_m6 171 rfl rfl, pa_ms5 10 rfl rfl, pa_m1 10 rfl rfl, pa_m6 172 rfl rfl⟩
theorem cv_RX7_395 : pa_CV RX7 RX7 395 yX7_handReads cX7_handReads 3 (some .int) 2 := ⟨⟨rfl, by decide +kernel, by decide +kernel, by decide +kernel⟩, pa_m6 189 rfl rfl, pa_m6 191 rfl rfl, pa_ms5 15 rfl rfl, pa_m1 10 rfl rfl, pa_m6 192 rfl rfl⟩
theorem cv_RX7_398 : pa_CV RX7 RX7 398 yX7_softReads cX7_softReads 3 (some .int) 2 := ⟨⟨rfl, by decide +kernel, by decide +kernel, by decide +kernel⟩, pa_m6 185 rfl rfl, pa_m6 187 rfl rfl, pa_ms5 14 rfl rfl, pa_m1 10 rfl rfl, pa_m6 188 rfl rfl⟩
theorem cv_RX7_401 : pa_CV RX7 RX7 401 yX7_readsAct cX7_readsAct 4 (some .int) 2 := ⟨⟨rfl, by decide +kernel, by decide +kernel, by decide +kernel⟩, pa_m6 181 rfl rfl, pa_m6 183 rfl rfl, pa_ms5 13 rfl rfl, pa_m1 10 rfl rfl, pa_m6 184 rfl rfl⟩
theorem cv_RX7_404 : pa_CV RX7 RX7 404 yX7_handTells cX7_handTells 3 (some .int) 2 := ⟨⟨rfl, by decide +kernel, by decide +kernel, by decide +kernel⟩, pa_m6 197 rfl rfl, pa_m6 199 rfl rfl, pa_ms6 1 rfl rfl, pa_m1 10 rfl rfl, pa_m6 200 rfl rfl⟩
theorem cv_RX7_407 : pa_CV RX7 RX7 407 yX7_tellsAct cX7_tellsAct 4 (some .int) 2 := ⟨⟨rfl, by decide +kernel, by decide +kernel, by decide +kernel⟩, pa_m6 193 rfl rfl, pa_m6 195 rfl rfl, pa_ms6 0 rfl rfl, pa_m1 10 rfl rfl, pa_m6 196 rfl rfl⟩
theorem cv_RX7_410 : pa_CV RX7 RX7 410 yX7_narrow cX7_narrow 4 (some .long) 2 := ⟨⟨rfl, by decide +kernel, by decide +kernel, by decide +kernel⟩, pa_m6 221 rfl rfl, pa_m6 223 rfl rfl, pa_ms6 2 rfl rfl, pa_m1 10 rfl rfl, pa_m6 224 rfl rfl⟩
def wb_X7_goDay_18 (k2 : pa_S → Int32 → Prop) (k18 : pa_S → Int32 → Int32 → Int32 → Prop) (u0 : pa_S) (x1 : Int32) (x2 : Int32) (x3 : Int32) (post : pa_S → Prop) : Prop :=
  (if 3 ≤ x3 then ∀ v5 : Int32, v5 = x1 + 1 → k2 u0 v5 else (vp_in ((3 * x1) + x3) 15) ∧ (wp_X7_least0 u0 ((pa_A u0 28 0 ((3 * x1) + x3).toNatClampNeg) - x2) (fun (r7 : Int32) => (vp_in ((3 * x1) + x3) 15) ∧ ∀ u9 : pa_S, u9 = pa_sA u0 28 0 (upd (pa_A u0 28 0) ((3 * x1) + x3).toNatClampNeg r7) → ∀ v10 : Int32, v10 = x3 + 1 → k18 u9 x1 x2 v10)))
set_option maxRecDepth 100000 in
set_option maxHeartbeats 4000000 in
theorem tb_X7_goDay_18 {p : Program} {l : Launch} {e : Env} {s : State} {m : MethodId} {args : Array Value} {below : List Frame} {meth : Method} {c : Code} {A : Nat → Prop} {D : va_G} {g : pa_G} {q : Nat → Nat → Nat} {k2 : pa_S → Int32 → Prop} {k18 : pa_S → Int32 → Int32 → Int32 → Prop} {u0 : pa_S} {x1 : Int32} {x2 : Int32} {x3 : Int32} {post : pa_S → Prop} (hE : pa_Fx p s m args meth c A D g 4 cX7_goDay RX7) (hr : meth.sig.returnType = none) (hk2 : ∀ (u : pa_S)  (x1 : Int32), k2 u x1 → pa_At p l e (pa_rm 3) s m args below meth c (MQ below (pa_Qc g D q (fun (_ : Unit) => none) (fun (_ : Unit) u => post u) A) args s 0 0 A) A D g 4 0 0 q u 2 [(0, .ref (q 24 0)), (1, .int x1)] []) (hk18 : ∀ (u : pa_S)  (x1 : Int32) (x2 : Int32) (x3 : Int32), k18 u x1 x2 x3 → pa_At p l e (pa_rm 3) s m args below meth c (MQ below (pa_Qc g D q (fun (_ : Unit) => none) (fun (_ : Unit) u => post u) A) args s 0 0 A) A D g 4 0 0 q u 18 [(0, .ref (q 24 0)), (1, .int x1), (2, .int x2), (3, .int x3)] []) (hw : wb_X7_goDay_18 k2 k18 u0 x1 x2 x3 post) : pa_At p l e (pa_rm 3) s m args below meth c (MQ below (pa_Qc g D q (fun (_ : Unit) => none) (fun (_ : Unit) u => post u) A) args s 0 0 A) A D g 4 0 0 q u0 18 [(0, .ref (q 24 0)), (1, .int x1), (2, .int x2), (3, .int x3)] [] := by
  refine pa_iload_n hE dX7_goDay_18 rfl 3 rfl ?_
  refine pa_iconst hE dX7_goDay_19 (v := 3) (by decide) ?_
  refine pa_icmp_ge hE dX7_goDay_20 (tgt := 55) (by decide) (fun h4 => ?_) (fun h4 => ?_)
  · have hw := Eq.mp (if_pos h4) hw
    refine pa_iinc hE dX7_goDay_55 (v := 1) 1 rfl (by decide) (by decide) (lvr := [(0, .ref (q 24 0)), (2, .int x2), (3, .int x3)]) rfl (fun v5 ev5 => ?_)
    have hw := hw v5 ev5
    refine pa_goto hE dX7_goDay_58 (tgt := 2) (by decide) ?_
    exact pa_sub [1, 0] rfl (hk2 u0 v5 hw)
  · have hw := Eq.mp (if_neg h4) hw
    refine pa_aload_n hE dX7_goDay_23 rfl 0 rfl ?_
    refine pg_24_6 hE (pa_m4 127 rfl rfl) dX7_goDay_24 ?_
    refine pa_iconst hE dX7_goDay_27 (v := 3) (by decide) ?_
    refine pa_iload_n hE dX7_goDay_28 rfl 1 rfl ?_
    refine pa_imul hE dX7_goDay_29 ?_
    refine pa_iload_n hE dX7_goDay_30 rfl 3 rfl ?_
    refine pa_iadd hE dX7_goDay_31 ?_
    refine pa_aload_n hE dX7_goDay_32 rfl 0 rfl ?_
    refine pa_aload_n hE dX7_goDay_33 rfl 0 rfl ?_
    refine pg_24_6 hE (pa_m4 127 rfl rfl) dX7_goDay_34 ?_
    refine pa_iconst hE dX7_goDay_37 (v := 3) (by decide) ?_
    refine pa_iload_n hE dX7_goDay_38 rfl 1 rfl ?_
    refine pa_imul hE dX7_goDay_39 ?_
    refine pa_iload_n hE dX7_goDay_40 rfl 3 rfl ?_
    refine pa_iadd hE dX7_goDay_41 ?_
    obtain ⟨h6, hw⟩ := hw
    refine pl_28 hE h6 dX7_goDay_42 ?_
    refine pa_iload_n hE dX7_goDay_43 rfl 2 rfl ?_
    refine pa_isub hE dX7_goDay_44 ?_
    refine pa_callVri hE (ct_X7_least0 l g D q u0 ((pa_A u0 28 0 ((3 * x1) + x3).toNatClampNeg) - x2) _ hw) cv_RX7_305 pa_in24 rfl rfl rfl (pa_hR (by omega) (by decide)) rfl (Nat.le_of_ble_eq_true rfl) dX7_goDay_45 (fun r7 hw => ?_)
    obtain ⟨h8, hw⟩ := hw
    refine ps_28 hE h8 dX7_goDay_48 (fun u9 eu9 => ?_)
    have hw := hw u9 eu9
    refine pa_iinc hE dX7_goDay_49 (v := 1) 3 rfl (by decide) (by decide) (lvr := [(0, .ref (q 24 0)), (1, .int x1), (2, .int x2)]) rfl (fun v10 ev10 => ?_)
    have hw := hw v10 ev10
    refine pa_goto hE dX7_goDay_52 (tgt := 18) (by decide) ?_
    exact pa_sub [1, 2, 3, 0] rfl (hk18 u9 x1 x2 v10 hw)
def wl_X7_goDay_18 (k2 : pa_S → Int32 → Prop) (post : pa_S → Prop) : Nat → pa_S → Int32 → Int32 → Int32 → Prop
  | 0, _, _, _, _ => False
  | n + 1, u0, x1, x2, x3 => wb_X7_goDay_18 k2 (fun u0 x1 x2 x3 => wl_X7_goDay_18 k2 post n u0 x1 x2 x3) u0 x1 x2 x3 post
set_option maxRecDepth 100000 in
set_option maxHeartbeats 4000000 in
theorem tl_X7_goDay_18 {p : Program} {l : Launch} {e : Env} {s : State} {m : MethodId} {args : Array Value} {below : List Frame} {meth : Method} {c : Code} {A : Nat → Prop} {D : va_G} {g : pa_G} {q : Nat → Nat → Nat} {k2 : pa_S → Int32 → Prop} {post : pa_S → Prop} (hE : pa_Fx p s m args meth c A D g 4 cX7_goDay RX7) (hr : meth.sig.returnType = none) (hk2 : ∀ (u : pa_S)  (x1 : Int32), k2 u x1 → pa_At p l e (pa_rm 3) s m args below meth c (MQ below (pa_Qc g D q (fun (_ : Unit) => none) (fun (_ : Unit) u => post u) A) args s 0 0 A) A D g 4 0 0 q u 2 [(0, .ref (q 24 0)), (1, .int x1)] []) : ∀ (n : Nat) (u0 : pa_S) (x1 : Int32) (x2 : Int32) (x3 : Int32), wl_X7_goDay_18 k2 post n u0 x1 x2 x3 → pa_At p l e (pa_rm 3) s m args below meth c (MQ below (pa_Qc g D q (fun (_ : Unit) => none) (fun (_ : Unit) u => post u) A) args s 0 0 A) A D g 4 0 0 q u0 18 [(0, .ref (q 24 0)), (1, .int x1), (2, .int x2), (3, .int x3)] []
  | 0, _, _, _, _, hw => absurd hw (by simp only [wl_X7_goDay_18]; exact fun z => z)
  | n + 1, u0, x1, x2, x3, hw => tb_X7_goDay_18 hE hr hk2 (fun u0 x1 x2 x3  hw1 => tl_X7_goDay_18 hE hr hk2 n u0 x1 x2 x3  hw1) hw
def wb_X7_goDay_2 (k2 : pa_S → Int32 → Prop) (u0 : pa_S) (x1 : Int32) (post : pa_S → Prop) : Prop :=
  (if (pa_I u0 24 0 0) ≤ x1 then ∀ u2 : pa_S, u2 = pa_sI u0 24 0 1 ((pa_I u0 24 0 1) + 1) → post u2 else (wp_X7_fades u0 x1 (fun (r3 : Int32) => wl_X7_goDay_18 k2 post 5000 u0 x1 r3 0)))
set_option maxRecDepth 100000 in
set_option maxHeartbeats 4000000 in
theorem tb_X7_goDay_2 {p : Program} {l : Launch} {e : Env} {s : State} {m : MethodId} {args : Array Value} {below : List Frame} {meth : Method} {c : Code} {A : Nat → Prop} {D : va_G} {g : pa_G} {q : Nat → Nat → Nat} {k2 : pa_S → Int32 → Prop} {u0 : pa_S} {x1 : Int32} {post : pa_S → Prop} (hE : pa_Fx p s m args meth c A D g 4 cX7_goDay RX7) (hr : meth.sig.returnType = none) (hk2 : ∀ (u : pa_S)  (x1 : Int32), k2 u x1 → pa_At p l e (pa_rm 3) s m args below meth c (MQ below (pa_Qc g D q (fun (_ : Unit) => none) (fun (_ : Unit) u => post u) A) args s 0 0 A) A D g 4 0 0 q u 2 [(0, .ref (q 24 0)), (1, .int x1)] []) (hw : wb_X7_goDay_2 k2 u0 x1 post) : pa_At p l e (pa_rm 3) s m args below meth c (MQ below (pa_Qc g D q (fun (_ : Unit) => none) (fun (_ : Unit) u => post u) A) args s 0 0 A) A D g 4 0 0 q u0 2 [(0, .ref (q 24 0)), (1, .int x1)] [] := by
  refine pa_iload_n hE dX7_goDay_2 rfl 1 rfl ?_
  refine pa_aload_n hE dX7_goDay_3 rfl 0 rfl ?_
  refine pg_24_0 hE (pa_m4 121 rfl rfl) dX7_goDay_4 ?_
  refine pa_icmp_ge hE dX7_goDay_7 (tgt := 61) (by decide) (fun h1 => ?_) (fun h1 => ?_)
  · have hw := Eq.mp (if_pos h1) hw
    refine pa_aload_n hE dX7_goDay_61 rfl 0 rfl ?_
    refine pa_dup hE dX7_goDay_62 rfl ?_
    refine pg_24_1 hE (pa_m4 122 rfl rfl) dX7_goDay_63 ?_
    refine pa_iconst hE dX7_goDay_66 (v := 1) (by decide) ?_
    refine pa_iadd hE dX7_goDay_67 ?_
    refine pp_24_1 hE (pa_m4 122 rfl rfl) dX7_goDay_68 (fun u2 eu2 => ?_)
    have hw := hw u2 eu2
    exact pa_vret (r := ()) hE hr hw rfl dX7_goDay_71
  · have hw := Eq.mp (if_neg h1) hw
    refine pa_aload_n hE dX7_goDay_10 rfl 0 rfl ?_
    refine pa_iload_n hE dX7_goDay_11 rfl 1 rfl ?_
    refine pa_callVri hE (ct_X7_fades l g D q u0 x1 _ hw) cv_RX7_314 pa_in24 rfl rfl rfl (pa_hR (by omega) (by decide)) rfl (Nat.le_of_ble_eq_true rfl) dX7_goDay_12 (fun r3 hw => ?_)
    refine pa_istore_n hE dX7_goDay_15 rfl (by decide) (lvr := [(0, .ref (q 24 0)), (1, .int x1)]) rfl ?_
    refine pa_iconst hE dX7_goDay_16 (v := 0) (by decide) ?_
    refine pa_istore_n hE dX7_goDay_17 rfl (by decide) (lvr := [(2, .int r3), (0, .ref (q 24 0)), (1, .int x1)]) rfl ?_
    exact pa_sub [2, 3, 1, 0] rfl (tl_X7_goDay_18 hE hr hk2 5000 u0 x1 r3 0 hw)
def wl_X7_goDay_2 (post : pa_S → Prop) : Nat → pa_S → Int32 → Prop
  | 0, _, _ => False
  | n + 1, u0, x1 => wb_X7_goDay_2 (fun u0 x1 => wl_X7_goDay_2 post n u0 x1) u0 x1 post
set_option maxRecDepth 100000 in
set_option maxHeartbeats 4000000 in
theorem tl_X7_goDay_2 {p : Program} {l : Launch} {e : Env} {s : State} {m : MethodId} {args : Array Value} {below : List Frame} {meth : Method} {c : Code} {A : Nat → Prop} {D : va_G} {g : pa_G} {q : Nat → Nat → Nat} {post : pa_S → Prop} (hE : pa_Fx p s m args meth c A D g 4 cX7_goDay RX7) (hr : meth.sig.returnType = none) : ∀ (n : Nat) (u0 : pa_S) (x1 : Int32), wl_X7_goDay_2 post n u0 x1 → pa_At p l e (pa_rm 3) s m args below meth c (MQ below (pa_Qc g D q (fun (_ : Unit) => none) (fun (_ : Unit) u => post u) A) args s 0 0 A) A D g 4 0 0 q u0 2 [(0, .ref (q 24 0)), (1, .int x1)] []
  | 0, _, _, hw => absurd hw (by simp only [wl_X7_goDay_2]; exact fun z => z)
  | n + 1, u0, x1, hw => tb_X7_goDay_2 hE hr (fun u0 x1  hw1 => tl_X7_goDay_2 hE hr  n u0 x1  hw1) hw
def wb_X7_goDay_0 (u0 : pa_S) (post : pa_S → Prop) : Prop :=
  wl_X7_goDay_2 post 5000 u0 0
set_option maxRecDepth 100000 in
set_option maxHeartbeats 4000000 in
theorem tb_X7_goDay_0 {p : Program} {l : Launch} {e : Env} {s : State} {m : MethodId} {args : Array Value} {below : List Frame} {meth : Method} {c : Code} {A : Nat → Prop} {D : va_G} {g : pa_G} {q : Nat → Nat → Nat} {u0 : pa_S} {post : pa_S → Prop} (hE : pa_Fx p s m args meth c A D g 4 cX7_goDay RX7) (hr : meth.sig.returnType = none) (hw : wb_X7_goDay_0 u0 post) : pa_At p l e (pa_rm 3) s m args below meth c (MQ below (pa_Qc g D q (fun (_ : Unit) => none) (fun (_ : Unit) u => post u) A) args s 0 0 A) A D g 4 0 0 q u0 0 [(0, .ref (q 24 0))] [] := by
  refine pa_iconst hE dX7_goDay_0 (v := 0) (by decide) ?_
  refine pa_istore_n hE dX7_goDay_1 rfl (by decide) (lvr := [(0, .ref (q 24 0))]) rfl ?_
  exact pa_sub [1, 0] rfl (tl_X7_goDay_2 hE hr 5000 u0 0 hw)
def wp_X7_goDay (u0 : pa_S) (post : pa_S → Prop) : Prop := wb_X7_goDay_0 u0 post
theorem ct_X7_goDay (l : Launch) (g : pa_G) (D : va_G) (q : Nat → Nat → Nat) (u0 : pa_S) (post : pa_S → Prop)  (hw : wp_X7_goDay u0 post) : pa_Ct l yX7_goDay cX7_goDay 4 none 3 g D q u0 [.ref (q 24 0)] (fun (_ : Unit) => none) (fun (_ : Unit) u => post u) := pa_met rfl rfl (Nat.le_of_ble_eq_true rfl) rfl (fun p e s m args below meth c A hE hr => tb_X7_goDay_0 hE hr  hw)
def wb_X7_goDays_2 (k2 : pa_S → Int32 → Int32 → Prop) (u0 : pa_S) (x1 : Int32) (x2 : Int32) (post : pa_S → Prop) : Prop :=
  (if x1 ≤ x2 then post u0 else (wp_X7_goDay u0 (fun (u3 : pa_S) => ∀ v4 : Int32, v4 = x2 + 1 → k2 u3 x1 v4)))
set_option maxRecDepth 100000 in
set_option maxHeartbeats 4000000 in
theorem tb_X7_goDays_2 {p : Program} {l : Launch} {e : Env} {s : State} {m : MethodId} {args : Array Value} {below : List Frame} {meth : Method} {c : Code} {A : Nat → Prop} {D : va_G} {g : pa_G} {q : Nat → Nat → Nat} {k2 : pa_S → Int32 → Int32 → Prop} {u0 : pa_S} {x1 : Int32} {x2 : Int32} {post : pa_S → Prop} (hE : pa_Fx p s m args meth c A D g 3 cX7_goDays RX7) (hr : meth.sig.returnType = none) (hk2 : ∀ (u : pa_S)  (x1 : Int32) (x2 : Int32), k2 u x1 x2 → pa_At p l e (pa_rm 4) s m args below meth c (MQ below (pa_Qc g D q (fun (_ : Unit) => none) (fun (_ : Unit) u => post u) A) args s 0 0 A) A D g 3 0 0 q u 2 [(0, .ref (q 24 0)), (1, .int x1), (2, .int x2)] []) (hw : wb_X7_goDays_2 k2 u0 x1 x2 post) : pa_At p l e (pa_rm 4) s m args below meth c (MQ below (pa_Qc g D q (fun (_ : Unit) => none) (fun (_ : Unit) u => post u) A) args s 0 0 A) A D g 3 0 0 q u0 2 [(0, .ref (q 24 0)), (1, .int x1), (2, .int x2)] [] := by
  refine pa_iload_n hE dX7_goDays_2 rfl 2 rfl ?_
  refine pa_iload_n hE dX7_goDays_3 rfl 1 rfl ?_
  refine pa_icmp_ge hE dX7_goDays_4 (tgt := 17) (by decide) (fun h1 => ?_) (fun h1 => ?_)
  · have hw := Eq.mp (if_pos h1) hw
    exact pa_vret (r := ()) hE hr hw rfl dX7_goDays_17
  · have hw := Eq.mp (if_neg h1) hw
    refine pa_aload_n hE dX7_goDays_7 rfl 0 rfl ?_
    refine pa_callVv hE (ct_X7_goDay l g D q u0 _ hw) cv_RX7_338 pa_in24 rfl rfl rfl (pa_hR (by omega) (by decide)) rfl (Nat.le_of_ble_eq_true rfl) dX7_goDays_8 (fun u3 hw => ?_)
    refine pa_iinc hE dX7_goDays_11 (v := 1) 2 rfl (by decide) (by decide) (lvr := [(0, .ref (q 24 0)), (1, .int x1)]) rfl (fun v4 ev4 => ?_)
    have hw := hw v4 ev4
    refine pa_goto hE dX7_goDays_14 (tgt := 2) (by decide) ?_
    exact pa_sub [1, 2, 0] rfl (hk2 u3 x1 v4 hw)
def wl_X7_goDays_2 (post : pa_S → Prop) : Nat → pa_S → Int32 → Int32 → Prop
  | 0, _, _, _ => False
  | n + 1, u0, x1, x2 => wb_X7_goDays_2 (fun u0 x1 x2 => wl_X7_goDays_2 post n u0 x1 x2) u0 x1 x2 post
set_option maxRecDepth 100000 in
set_option maxHeartbeats 4000000 in
theorem tl_X7_goDays_2 {p : Program} {l : Launch} {e : Env} {s : State} {m : MethodId} {args : Array Value} {below : List Frame} {meth : Method} {c : Code} {A : Nat → Prop} {D : va_G} {g : pa_G} {q : Nat → Nat → Nat} {post : pa_S → Prop} (hE : pa_Fx p s m args meth c A D g 3 cX7_goDays RX7) (hr : meth.sig.returnType = none) : ∀ (n : Nat) (u0 : pa_S) (x1 : Int32) (x2 : Int32), wl_X7_goDays_2 post n u0 x1 x2 → pa_At p l e (pa_rm 4) s m args below meth c (MQ below (pa_Qc g D q (fun (_ : Unit) => none) (fun (_ : Unit) u => post u) A) args s 0 0 A) A D g 3 0 0 q u0 2 [(0, .ref (q 24 0)), (1, .int x1), (2, .int x2)] []
  | 0, _, _, _, hw => absurd hw (by simp only [wl_X7_goDays_2]; exact fun z => z)
  | n + 1, u0, x1, x2, hw => tb_X7_goDays_2 hE hr (fun u0 x1 x2  hw1 => tl_X7_goDays_2 hE hr  n u0 x1 x2  hw1) hw
def wb_X7_goDays_0 (u0 : pa_S) (x1 : Int32) (post : pa_S → Prop) : Prop :=
  wl_X7_goDays_2 post 5000 u0 x1 0
set_option maxRecDepth 100000 in
set_option maxHeartbeats 4000000 in
theorem tb_X7_goDays_0 {p : Program} {l : Launch} {e : Env} {s : State} {m : MethodId} {args : Array Value} {below : List Frame} {meth : Method} {c : Code} {A : Nat → Prop} {D : va_G} {g : pa_G} {q : Nat → Nat → Nat} {u0 : pa_S} {x1 : Int32} {post : pa_S → Prop} (hE : pa_Fx p s m args meth c A D g 3 cX7_goDays RX7) (hr : meth.sig.returnType = none) (hw : wb_X7_goDays_0 u0 x1 post) : pa_At p l e (pa_rm 4) s m args below meth c (MQ below (pa_Qc g D q (fun (_ : Unit) => none) (fun (_ : Unit) u => post u) A) args s 0 0 A) A D g 3 0 0 q u0 0 [(0, .ref (q 24 0)), (1, .int x1)] [] := by
  refine pa_iconst hE dX7_goDays_0 (v := 0) (by decide) ?_
  refine pa_istore_n hE dX7_goDays_1 rfl (by decide) (lvr := [(0, .ref (q 24 0)), (1, .int x1)]) rfl ?_
  exact pa_sub [1, 2, 0] rfl (tl_X7_goDays_2 hE hr 5000 u0 x1 0 hw)
def wp_X7_goDays (u0 : pa_S) (x1 : Int32) (post : pa_S → Prop) : Prop := wb_X7_goDays_0 u0 x1 post
theorem ct_X7_goDays (l : Launch) (g : pa_G) (D : va_G) (q : Nat → Nat → Nat) (u0 : pa_S) (x1 : Int32) (post : pa_S → Prop)  (hw : wp_X7_goDays u0 x1 post) : pa_Ct l yX7_goDays cX7_goDays 3 none 4 g D q u0 [.ref (q 24 0), .int x1] (fun (_ : Unit) => none) (fun (_ : Unit) u => post u) := pa_met rfl rfl (Nat.le_of_ble_eq_true rfl) rfl (fun p e s m args below meth c A hE hr => tb_X7_goDays_0 hE hr  hw)
def wb_X7_pass_0 (u0 : pa_S) (x1 : Int32) (post : Int32 → pa_S → Prop) : Prop :=
  (wp_X7_in u0 x1 0 60 (fun (r1 : Int32) => (if r1 = 0 then post (-2 : Int32) u0 else (if ((pa_I u0 24 0 1) + x1) ≤ 9999 then (wp_X7_goDays u0 x1 (fun (u5 : pa_S) => post (pa_I u5 24 0 1) u5)) else post (-3 : Int32) u0))))
set_option maxRecDepth 100000 in
set_option maxHeartbeats 4000000 in
theorem tb_X7_pass_0 {p : Program} {l : Launch} {e : Env} {s : State} {m : MethodId} {args : Array Value} {below : List Frame} {meth : Method} {c : Code} {A : Nat → Prop} {D : va_G} {g : pa_G} {q : Nat → Nat → Nat} {u0 : pa_S} {x1 : Int32} {post : Int32 → pa_S → Prop} (hE : pa_Fx p s m args meth c A D g 2 cX7_pass RX7) (hr : meth.sig.returnType = (some .int)) (hw : wb_X7_pass_0 u0 x1 post) : pa_At p l e (pa_rm 5) s m args below meth c (MQ below (pa_Qc g D q (fun r => some (.int r)) post A) args s 0 0 A) A D g 2 0 0 q u0 0 [(0, .ref (q 24 0)), (1, .int x1)] [] := by
  refine pa_aload_n hE dX7_pass_0 rfl 0 rfl ?_
  refine pa_iload_n hE dX7_pass_1 rfl 1 rfl ?_
  refine pa_iconst hE dX7_pass_2 (v := 0) (by decide) ?_
  refine pa_bipush hE dX7_pass_3 (v := 60) (by decide) ?_
  refine pa_callVri hE (ct_X7_in l g D q u0 x1 0 60 _ hw) cv_RX7_221 pa_in24 rfl rfl rfl (pa_hR (by omega) (by decide)) rfl (Nat.le_of_ble_eq_true rfl) dX7_pass_5 (fun r1 hw => ?_)
  refine pa_if_ne hE dX7_pass_8 (tgt := 14) (by decide) (fun h2 => ?_) (fun h2 => ?_)
  · have hw := Eq.mp (if_neg h2) hw
    refine pa_aload_n hE dX7_pass_14 rfl 0 rfl ?_
    refine pg_24_1 hE (pa_m4 122 rfl rfl) dX7_pass_15 ?_
    refine pa_iload_n hE dX7_pass_18 rfl 1 rfl ?_
    refine pa_iadd hE dX7_pass_19 ?_
    refine pa_sipush hE dX7_pass_20 (v := 9999) (by decide) ?_
    refine pa_icmp_le hE dX7_pass_23 (tgt := 29) (by decide) (fun h3 => ?_) (fun h3 => ?_)
    · have hw := Eq.mp (if_pos h3) hw
      refine pa_aload_n hE dX7_pass_29 rfl 0 rfl ?_
      refine pa_iload_n hE dX7_pass_30 rfl 1 rfl ?_
      refine pa_callVv hE (ct_X7_goDays l g D q u0 x1 _ hw) cv_RX7_341 pa_in24 rfl rfl rfl (pa_hR (by omega) (by decide)) rfl (Nat.le_of_ble_eq_true rfl) dX7_pass_31 (fun u5 hw => ?_)
      refine pa_aload_n hE dX7_pass_34 rfl 0 rfl ?_
      refine pg_24_1 hE (pa_m4 122 rfl rfl) dX7_pass_35 ?_
      exact pa_iret hE hr hw rfl dX7_pass_38
    · have hw := Eq.mp (if_neg h3) hw
      refine pa_bipush hE dX7_pass_26 (v := (-3 : Int32)) (by decide) ?_
      exact pa_iret hE hr hw rfl dX7_pass_28
  · have hw := Eq.mp (if_pos h2) hw
    refine pa_bipush hE dX7_pass_11 (v := (-2 : Int32)) (by decide) ?_
    exact pa_iret hE hr hw rfl dX7_pass_13
def wp_X7_pass (u0 : pa_S) (x1 : Int32) (post : Int32 → pa_S → Prop) : Prop := wb_X7_pass_0 u0 x1 post
theorem ct_X7_pass (l : Launch) (g : pa_G) (D : va_G) (q : Nat → Nat → Nat) (u0 : pa_S) (x1 : Int32) (post : Int32 → pa_S → Prop)  (hw : wp_X7_pass u0 x1 post) : pa_Ct l yX7_pass cX7_pass 2 (some .int) 5 g D q u0 [.ref (q 24 0), .int x1] (fun r => some (.int r)) post := pa_met rfl rfl (Nat.le_of_ble_eq_true rfl) rfl (fun p e s m args below meth c A hE hr => tb_X7_pass_0 hE hr  hw)
def wb_X7_save_43 (k43 : pa_S → Int32 → Prop) (u0 : pa_S) (x1 : Int32) (post : pa_S → Prop) : Prop :=
  (if 15 ≤ x1 then post u0 else (vp_in x1 15) ∧ (vp_in x1 15) ∧ ∀ u7 : pa_S, u7 = pa_sA u0 41 0 (upd (pa_A u0 41 0) x1.toNatClampNeg (pa_A u0 28 0 x1.toNatClampNeg)) → ∀ v8 : Int32, v8 = x1 + 1 → k43 u7 v8)
set_option maxRecDepth 100000 in
set_option maxHeartbeats 4000000 in
theorem tb_X7_save_43 {p : Program} {l : Launch} {e : Env} {s : State} {m : MethodId} {args : Array Value} {below : List Frame} {meth : Method} {c : Code} {A : Nat → Prop} {D : va_G} {g : pa_G} {q : Nat → Nat → Nat} {k43 : pa_S → Int32 → Prop} {u0 : pa_S} {x1 : Int32} {post : pa_S → Prop} (hE : pa_Fx p s m args meth c A D g 2 cX7_save RX7) (hr : meth.sig.returnType = none) (hk43 : ∀ (u : pa_S)  (x1 : Int32), k43 u x1 → pa_At p l e (pa_rm 2) s m args below meth c (MQ below (pa_Qc g D q (fun (_ : Unit) => none) (fun (_ : Unit) u => post u) A) args s 0 0 A) A D g 2 0 0 q u 43 [(0, .ref (q 24 0)), (1, .int x1)] []) (hw : wb_X7_save_43 k43 u0 x1 post) : pa_At p l e (pa_rm 2) s m args below meth c (MQ below (pa_Qc g D q (fun (_ : Unit) => none) (fun (_ : Unit) u => post u) A) args s 0 0 A) A D g 2 0 0 q u0 43 [(0, .ref (q 24 0)), (1, .int x1)] [] := by
  refine pa_iload_n hE dX7_save_43 rfl 1 rfl ?_
  refine pa_bipush hE dX7_save_44 (v := 15) (by decide) ?_
  refine pa_icmp_ge hE dX7_save_46 (tgt := 67) (by decide) (fun h4 => ?_) (fun h4 => ?_)
  · have hw := Eq.mp (if_pos h4) hw
    exact pa_vret (r := ()) hE hr hw rfl dX7_save_67
  · have hw := Eq.mp (if_neg h4) hw
    refine pa_aload_n hE dX7_save_49 rfl 0 rfl ?_
    refine pg_24_29 hE (pa_m4 150 rfl rfl) dX7_save_50 ?_
    refine pa_iload_n hE dX7_save_53 rfl 1 rfl ?_
    refine pa_aload_n hE dX7_save_54 rfl 0 rfl ?_
    refine pg_24_6 hE (pa_m4 127 rfl rfl) dX7_save_55 ?_
    refine pa_iload_n hE dX7_save_58 rfl 1 rfl ?_
    obtain ⟨h5, hw⟩ := hw
    refine pl_28 hE h5 dX7_save_59 ?_
    obtain ⟨h6, hw⟩ := hw
    refine ps_41 hE h6 dX7_save_60 (fun u7 eu7 => ?_)
    have hw := hw u7 eu7
    refine pa_iinc hE dX7_save_61 (v := 1) 1 rfl (by decide) (by decide) (lvr := [(0, .ref (q 24 0))]) rfl (fun v8 ev8 => ?_)
    have hw := hw v8 ev8
    refine pa_goto hE dX7_save_64 (tgt := 43) (by decide) ?_
    exact pa_sub [1, 0] rfl (hk43 u7 v8 hw)
def wl_X7_save_43 (post : pa_S → Prop) : Nat → pa_S → Int32 → Prop
  | 0, _, _ => False
  | n + 1, u0, x1 => wb_X7_save_43 (fun u0 x1 => wl_X7_save_43 post n u0 x1) u0 x1 post
set_option maxRecDepth 100000 in
set_option maxHeartbeats 4000000 in
theorem tl_X7_save_43 {p : Program} {l : Launch} {e : Env} {s : State} {m : MethodId} {args : Array Value} {below : List Frame} {meth : Method} {c : Code} {A : Nat → Prop} {D : va_G} {g : pa_G} {q : Nat → Nat → Nat} {post : pa_S → Prop} (hE : pa_Fx p s m args meth c A D g 2 cX7_save RX7) (hr : meth.sig.returnType = none) : ∀ (n : Nat) (u0 : pa_S) (x1 : Int32), wl_X7_save_43 post n u0 x1 → pa_At p l e (pa_rm 2) s m args below meth c (MQ below (pa_Qc g D q (fun (_ : Unit) => none) (fun (_ : Unit) u => post u) A) args s 0 0 A) A D g 2 0 0 q u0 43 [(0, .ref (q 24 0)), (1, .int x1)] []
  | 0, _, _, hw => absurd hw (by simp only [wl_X7_save_43]; exact fun z => z)
  | n + 1, u0, x1, hw => tb_X7_save_43 hE hr (fun u0 x1  hw1 => tl_X7_save_43 hE hr  n u0 x1  hw1) hw
def wb_X7_save_18 (k18 : pa_S → Int32 → Prop) (u0 : pa_S) (x1 : Int32) (post : pa_S → Prop) : Prop :=
  (if 5 ≤ x1 then wl_X7_save_43 post 5000 u0 0 else (vp_in x1 5) ∧ (vp_in x1 5) ∧ ∀ u11 : pa_S, u11 = pa_sA u0 40 0 (upd (pa_A u0 40 0) x1.toNatClampNeg (pa_A u0 27 0 x1.toNatClampNeg)) → ∀ v12 : Int32, v12 = x1 + 1 → k18 u11 v12)
set_option maxRecDepth 100000 in
set_option maxHeartbeats 4000000 in
theorem tb_X7_save_18 {p : Program} {l : Launch} {e : Env} {s : State} {m : MethodId} {args : Array Value} {below : List Frame} {meth : Method} {c : Code} {A : Nat → Prop} {D : va_G} {g : pa_G} {q : Nat → Nat → Nat} {k18 : pa_S → Int32 → Prop} {u0 : pa_S} {x1 : Int32} {post : pa_S → Prop} (hE : pa_Fx p s m args meth c A D g 2 cX7_save RX7) (hr : meth.sig.returnType = none) (hk18 : ∀ (u : pa_S)  (x1 : Int32), k18 u x1 → pa_At p l e (pa_rm 2) s m args below meth c (MQ below (pa_Qc g D q (fun (_ : Unit) => none) (fun (_ : Unit) u => post u) A) args s 0 0 A) A D g 2 0 0 q u 18 [(0, .ref (q 24 0)), (1, .int x1)] []) (hw : wb_X7_save_18 k18 u0 x1 post) : pa_At p l e (pa_rm 2) s m args below meth c (MQ below (pa_Qc g D q (fun (_ : Unit) => none) (fun (_ : Unit) u => post u) A) args s 0 0 A) A D g 2 0 0 q u0 18 [(0, .ref (q 24 0)), (1, .int x1)] [] := by
  refine pa_iload_n hE dX7_save_18 rfl 1 rfl ?_
  refine pa_iconst hE dX7_save_19 (v := 5) (by decide) ?_
  refine pa_icmp_ge hE dX7_save_20 (tgt := 41) (by decide) (fun h3 => ?_) (fun h3 => ?_)
  · have hw := Eq.mp (if_pos h3) hw
    refine pa_iconst hE dX7_save_41 (v := 0) (by decide) ?_
    refine pa_istore_n hE dX7_save_42 rfl (by decide) (lvr := [(0, .ref (q 24 0))]) rfl ?_
    exact pa_sub [1, 0] rfl (tl_X7_save_43 hE hr 5000 u0 0 hw)
  · have hw := Eq.mp (if_neg h3) hw
    refine pa_aload_n hE dX7_save_23 rfl 0 rfl ?_
    refine pg_24_28 hE (pa_m4 149 rfl rfl) dX7_save_24 ?_
    refine pa_iload_n hE dX7_save_27 rfl 1 rfl ?_
    refine pa_aload_n hE dX7_save_28 rfl 0 rfl ?_
    refine pg_24_5 hE (pa_m4 126 rfl rfl) dX7_save_29 ?_
    refine pa_iload_n hE dX7_save_32 rfl 1 rfl ?_
    obtain ⟨h9, hw⟩ := hw
    refine pl_27 hE h9 dX7_save_33 ?_
    obtain ⟨h10, hw⟩ := hw
    refine ps_40 hE h10 dX7_save_34 (fun u11 eu11 => ?_)
    have hw := hw u11 eu11
    refine pa_iinc hE dX7_save_35 (v := 1) 1 rfl (by decide) (by decide) (lvr := [(0, .ref (q 24 0))]) rfl (fun v12 ev12 => ?_)
    have hw := hw v12 ev12
    refine pa_goto hE dX7_save_38 (tgt := 18) (by decide) ?_
    exact pa_sub [1, 0] rfl (hk18 u11 v12 hw)
def wl_X7_save_18 (post : pa_S → Prop) : Nat → pa_S → Int32 → Prop
  | 0, _, _ => False
  | n + 1, u0, x1 => wb_X7_save_18 (fun u0 x1 => wl_X7_save_18 post n u0 x1) u0 x1 post
set_option maxRecDepth 100000 in
set_option maxHeartbeats 4000000 in
theorem tl_X7_save_18 {p : Program} {l : Launch} {e : Env} {s : State} {m : MethodId} {args : Array Value} {below : List Frame} {meth : Method} {c : Code} {A : Nat → Prop} {D : va_G} {g : pa_G} {q : Nat → Nat → Nat} {post : pa_S → Prop} (hE : pa_Fx p s m args meth c A D g 2 cX7_save RX7) (hr : meth.sig.returnType = none) : ∀ (n : Nat) (u0 : pa_S) (x1 : Int32), wl_X7_save_18 post n u0 x1 → pa_At p l e (pa_rm 2) s m args below meth c (MQ below (pa_Qc g D q (fun (_ : Unit) => none) (fun (_ : Unit) u => post u) A) args s 0 0 A) A D g 2 0 0 q u0 18 [(0, .ref (q 24 0)), (1, .int x1)] []
  | 0, _, _, hw => absurd hw (by simp only [wl_X7_save_18]; exact fun z => z)
  | n + 1, u0, x1, hw => tb_X7_save_18 hE hr (fun u0 x1  hw1 => tl_X7_save_18 hE hr  n u0 x1  hw1) hw
def wb_X7_save_0 (u0 : pa_S) (post : pa_S → Prop) : Prop :=
  ∀ u1 : pa_S, u1 = pa_sI u0 24 0 26 (pa_I u0 24 0 1) → ∀ u2 : pa_S, u2 = pa_sI u1 24 0 27 (pa_I u1 24 0 2) → wl_X7_save_18 post 5000 u2 0
set_option maxRecDepth 100000 in
set_option maxHeartbeats 4000000 in
theorem tb_X7_save_0 {p : Program} {l : Launch} {e : Env} {s : State} {m : MethodId} {args : Array Value} {below : List Frame} {meth : Method} {c : Code} {A : Nat → Prop} {D : va_G} {g : pa_G} {q : Nat → Nat → Nat} {u0 : pa_S} {post : pa_S → Prop} (hE : pa_Fx p s m args meth c A D g 2 cX7_save RX7) (hr : meth.sig.returnType = none) (hw : wb_X7_save_0 u0 post) : pa_At p l e (pa_rm 2) s m args below meth c (MQ below (pa_Qc g D q (fun (_ : Unit) => none) (fun (_ : Unit) u => post u) A) args s 0 0 A) A D g 2 0 0 q u0 0 [(0, .ref (q 24 0))] [] := by
  refine pa_aload_n hE dX7_save_0 rfl 0 rfl ?_
  refine pa_aload_n hE dX7_save_1 rfl 0 rfl ?_
  refine pg_24_1 hE (pa_m4 122 rfl rfl) dX7_save_2 ?_
  refine pp_24_26 hE (pa_m4 147 rfl rfl) dX7_save_5 (fun u1 eu1 => ?_)
  have hw := hw u1 eu1
  refine pa_aload_n hE dX7_save_8 rfl 0 rfl ?_
  refine pa_aload_n hE dX7_save_9 rfl 0 rfl ?_
  refine pg_24_2 hE (pa_m4 123 rfl rfl) dX7_save_10 ?_
  refine pp_24_27 hE (pa_m4 148 rfl rfl) dX7_save_13 (fun u2 eu2 => ?_)
  have hw := hw u2 eu2
  refine pa_iconst hE dX7_save_16 (v := 0) (by decide) ?_
  refine pa_istore_n hE dX7_save_17 rfl (by decide) (lvr := [(0, .ref (q 24 0))]) rfl ?_
  exact pa_sub [1, 0] rfl (tl_X7_save_18 hE hr 5000 u2 0 hw)
def wp_X7_save (u0 : pa_S) (post : pa_S → Prop) : Prop := wb_X7_save_0 u0 post
theorem ct_X7_save (l : Launch) (g : pa_G) (D : va_G) (q : Nat → Nat → Nat) (u0 : pa_S) (post : pa_S → Prop)  (hw : wp_X7_save u0 post) : pa_Ct l yX7_save cX7_save 2 none 2 g D q u0 [.ref (q 24 0)] (fun (_ : Unit) => none) (fun (_ : Unit) u => post u) := pa_met rfl rfl (Nat.le_of_ble_eq_true rfl) rfl (fun p e s m args below meth c A hE hr => tb_X7_save_0 hE hr  hw)
def wb_X7_putBack_43 (k43 : pa_S → Int32 → Prop) (u0 : pa_S) (x1 : Int32) (post : pa_S → Prop) : Prop :=
  (if 15 ≤ x1 then post u0 else (vp_in x1 15) ∧ (vp_in x1 15) ∧ ∀ u7 : pa_S, u7 = pa_sA u0 28 0 (upd (pa_A u0 28 0) x1.toNatClampNeg (pa_A u0 41 0 x1.toNatClampNeg)) → ∀ v8 : Int32, v8 = x1 + 1 → k43 u7 v8)
set_option maxRecDepth 100000 in
set_option maxHeartbeats 4000000 in
theorem tb_X7_putBack_43 {p : Program} {l : Launch} {e : Env} {s : State} {m : MethodId} {args : Array Value} {below : List Frame} {meth : Method} {c : Code} {A : Nat → Prop} {D : va_G} {g : pa_G} {q : Nat → Nat → Nat} {k43 : pa_S → Int32 → Prop} {u0 : pa_S} {x1 : Int32} {post : pa_S → Prop} (hE : pa_Fx p s m args meth c A D g 2 cX7_putBack RX7) (hr : meth.sig.returnType = none) (hk43 : ∀ (u : pa_S)  (x1 : Int32), k43 u x1 → pa_At p l e (pa_rm 2) s m args below meth c (MQ below (pa_Qc g D q (fun (_ : Unit) => none) (fun (_ : Unit) u => post u) A) args s 0 0 A) A D g 2 0 0 q u 43 [(0, .ref (q 24 0)), (1, .int x1)] []) (hw : wb_X7_putBack_43 k43 u0 x1 post) : pa_At p l e (pa_rm 2) s m args below meth c (MQ below (pa_Qc g D q (fun (_ : Unit) => none) (fun (_ : Unit) u => post u) A) args s 0 0 A) A D g 2 0 0 q u0 43 [(0, .ref (q 24 0)), (1, .int x1)] [] := by
  refine pa_iload_n hE dX7_putBack_43 rfl 1 rfl ?_
  refine pa_bipush hE dX7_putBack_44 (v := 15) (by decide) ?_
  refine pa_icmp_ge hE dX7_putBack_46 (tgt := 67) (by decide) (fun h4 => ?_) (fun h4 => ?_)
  · have hw := Eq.mp (if_pos h4) hw
    exact pa_vret (r := ()) hE hr hw rfl dX7_putBack_67
  · have hw := Eq.mp (if_neg h4) hw
    refine pa_aload_n hE dX7_putBack_49 rfl 0 rfl ?_
    refine pg_24_6 hE (pa_m4 127 rfl rfl) dX7_putBack_50 ?_
    refine pa_iload_n hE dX7_putBack_53 rfl 1 rfl ?_
    refine pa_aload_n hE dX7_putBack_54 rfl 0 rfl ?_
    refine pg_24_29 hE (pa_m4 150 rfl rfl) dX7_putBack_55 ?_
    refine pa_iload_n hE dX7_putBack_58 rfl 1 rfl ?_
    obtain ⟨h5, hw⟩ := hw
    refine pl_41 hE h5 dX7_putBack_59 ?_
    obtain ⟨h6, hw⟩ := hw
    refine ps_28 hE h6 dX7_putBack_60 (fun u7 eu7 => ?_)
    have hw := hw u7 eu7
    refine pa_iinc hE dX7_putBack_61 (v := 1) 1 rfl (by decide) (by decide) (lvr := [(0, .ref (q 24 0))]) rfl (fun v8 ev8 => ?_)
    have hw := hw v8 ev8
    refine pa_goto hE dX7_putBack_64 (tgt := 43) (by decide) ?_
    exact pa_sub [1, 0] rfl (hk43 u7 v8 hw)
def wl_X7_putBack_43 (post : pa_S → Prop) : Nat → pa_S → Int32 → Prop
  | 0, _, _ => False
  | n + 1, u0, x1 => wb_X7_putBack_43 (fun u0 x1 => wl_X7_putBack_43 post n u0 x1) u0 x1 post
set_option maxRecDepth 100000 in
set_option maxHeartbeats 4000000 in
theorem tl_X7_putBack_43 {p : Program} {l : Launch} {e : Env} {s : State} {m : MethodId} {args : Array Value} {below : List Frame} {meth : Method} {c : Code} {A : Nat → Prop} {D : va_G} {g : pa_G} {q : Nat → Nat → Nat} {post : pa_S → Prop} (hE : pa_Fx p s m args meth c A D g 2 cX7_putBack RX7) (hr : meth.sig.returnType = none) : ∀ (n : Nat) (u0 : pa_S) (x1 : Int32), wl_X7_putBack_43 post n u0 x1 → pa_At p l e (pa_rm 2) s m args below meth c (MQ below (pa_Qc g D q (fun (_ : Unit) => none) (fun (_ : Unit) u => post u) A) args s 0 0 A) A D g 2 0 0 q u0 43 [(0, .ref (q 24 0)), (1, .int x1)] []
  | 0, _, _, hw => absurd hw (by simp only [wl_X7_putBack_43]; exact fun z => z)
  | n + 1, u0, x1, hw => tb_X7_putBack_43 hE hr (fun u0 x1  hw1 => tl_X7_putBack_43 hE hr  n u0 x1  hw1) hw
def wb_X7_putBack_18 (k18 : pa_S → Int32 → Prop) (u0 : pa_S) (x1 : Int32) (post : pa_S → Prop) : Prop :=
  (if 5 ≤ x1 then wl_X7_putBack_43 post 5000 u0 0 else (vp_in x1 5) ∧ (vp_in x1 5) ∧ ∀ u11 : pa_S, u11 = pa_sA u0 27 0 (upd (pa_A u0 27 0) x1.toNatClampNeg (pa_A u0 40 0 x1.toNatClampNeg)) → ∀ v12 : Int32, v12 = x1 + 1 → k18 u11 v12)
set_option maxRecDepth 100000 in
set_option maxHeartbeats 4000000 in
theorem tb_X7_putBack_18 {p : Program} {l : Launch} {e : Env} {s : State} {m : MethodId} {args : Array Value} {below : List Frame} {meth : Method} {c : Code} {A : Nat → Prop} {D : va_G} {g : pa_G} {q : Nat → Nat → Nat} {k18 : pa_S → Int32 → Prop} {u0 : pa_S} {x1 : Int32} {post : pa_S → Prop} (hE : pa_Fx p s m args meth c A D g 2 cX7_putBack RX7) (hr : meth.sig.returnType = none) (hk18 : ∀ (u : pa_S)  (x1 : Int32), k18 u x1 → pa_At p l e (pa_rm 2) s m args below meth c (MQ below (pa_Qc g D q (fun (_ : Unit) => none) (fun (_ : Unit) u => post u) A) args s 0 0 A) A D g 2 0 0 q u 18 [(0, .ref (q 24 0)), (1, .int x1)] []) (hw : wb_X7_putBack_18 k18 u0 x1 post) : pa_At p l e (pa_rm 2) s m args below meth c (MQ below (pa_Qc g D q (fun (_ : Unit) => none) (fun (_ : Unit) u => post u) A) args s 0 0 A) A D g 2 0 0 q u0 18 [(0, .ref (q 24 0)), (1, .int x1)] [] := by
  refine pa_iload_n hE dX7_putBack_18 rfl 1 rfl ?_
  refine pa_iconst hE dX7_putBack_19 (v := 5) (by decide) ?_
  refine pa_icmp_ge hE dX7_putBack_20 (tgt := 41) (by decide) (fun h3 => ?_) (fun h3 => ?_)
  · have hw := Eq.mp (if_pos h3) hw
    refine pa_iconst hE dX7_putBack_41 (v := 0) (by decide) ?_
    refine pa_istore_n hE dX7_putBack_42 rfl (by decide) (lvr := [(0, .ref (q 24 0))]) rfl ?_
    exact pa_sub [1, 0] rfl (tl_X7_putBack_43 hE hr 5000 u0 0 hw)
  · have hw := Eq.mp (if_neg h3) hw
    refine pa_aload_n hE dX7_putBack_23 rfl 0 rfl ?_
    refine pg_24_5 hE (pa_m4 126 rfl rfl) dX7_putBack_24 ?_
    refine pa_iload_n hE dX7_putBack_27 rfl 1 rfl ?_
    refine pa_aload_n hE dX7_putBack_28 rfl 0 rfl ?_
    refine pg_24_28 hE (pa_m4 149 rfl rfl) dX7_putBack_29 ?_
    refine pa_iload_n hE dX7_putBack_32 rfl 1 rfl ?_
    obtain ⟨h9, hw⟩ := hw
    refine pl_40 hE h9 dX7_putBack_33 ?_
    obtain ⟨h10, hw⟩ := hw
    refine ps_27 hE h10 dX7_putBack_34 (fun u11 eu11 => ?_)
    have hw := hw u11 eu11
    refine pa_iinc hE dX7_putBack_35 (v := 1) 1 rfl (by decide) (by decide) (lvr := [(0, .ref (q 24 0))]) rfl (fun v12 ev12 => ?_)
    have hw := hw v12 ev12
    refine pa_goto hE dX7_putBack_38 (tgt := 18) (by decide) ?_
    exact pa_sub [1, 0] rfl (hk18 u11 v12 hw)
def wl_X7_putBack_18 (post : pa_S → Prop) : Nat → pa_S → Int32 → Prop
  | 0, _, _ => False
  | n + 1, u0, x1 => wb_X7_putBack_18 (fun u0 x1 => wl_X7_putBack_18 post n u0 x1) u0 x1 post
set_option maxRecDepth 100000 in
set_option maxHeartbeats 4000000 in
theorem tl_X7_putBack_18 {p : Program} {l : Launch} {e : Env} {s : State} {m : MethodId} {args : Array Value} {below : List Frame} {meth : Method} {c : Code} {A : Nat → Prop} {D : va_G} {g : pa_G} {q : Nat → Nat → Nat} {post : pa_S → Prop} (hE : pa_Fx p s m args meth c A D g 2 cX7_putBack RX7) (hr : meth.sig.returnType = none) : ∀ (n : Nat) (u0 : pa_S) (x1 : Int32), wl_X7_putBack_18 post n u0 x1 → pa_At p l e (pa_rm 2) s m args below meth c (MQ below (pa_Qc g D q (fun (_ : Unit) => none) (fun (_ : Unit) u => post u) A) args s 0 0 A) A D g 2 0 0 q u0 18 [(0, .ref (q 24 0)), (1, .int x1)] []
  | 0, _, _, hw => absurd hw (by simp only [wl_X7_putBack_18]; exact fun z => z)
  | n + 1, u0, x1, hw => tb_X7_putBack_18 hE hr (fun u0 x1  hw1 => tl_X7_putBack_18 hE hr  n u0 x1  hw1) hw
def wb_X7_putBack_0 (u0 : pa_S) (post : pa_S → Prop) : Prop :=
  ∀ u1 : pa_S, u1 = pa_sI u0 24 0 1 (pa_I u0 24 0 26) → ∀ u2 : pa_S, u2 = pa_sI u1 24 0 2 (pa_I u1 24 0 27) → wl_X7_putBack_18 post 5000 u2 0
set_option maxRecDepth 100000 in
set_option maxHeartbeats 4000000 in
theorem tb_X7_putBack_0 {p : Program} {l : Launch} {e : Env} {s : State} {m : MethodId} {args : Array Value} {below : List Frame} {meth : Method} {c : Code} {A : Nat → Prop} {D : va_G} {g : pa_G} {q : Nat → Nat → Nat} {u0 : pa_S} {post : pa_S → Prop} (hE : pa_Fx p s m args meth c A D g 2 cX7_putBack RX7) (hr : meth.sig.returnType = none) (hw : wb_X7_putBack_0 u0 post) : pa_At p l e (pa_rm 2) s m args below meth c (MQ below (pa_Qc g D q (fun (_ : Unit) => none) (fun (_ : Unit) u => post u) A) args s 0 0 A) A D g 2 0 0 q u0 0 [(0, .ref (q 24 0))] [] := by
  refine pa_aload_n hE dX7_putBack_0 rfl 0 rfl ?_
  refine pa_aload_n hE dX7_putBack_1 rfl 0 rfl ?_
  refine pg_24_26 hE (pa_m4 147 rfl rfl) dX7_putBack_2 ?_
  refine pp_24_1 hE (pa_m4 122 rfl rfl) dX7_putBack_5 (fun u1 eu1 => ?_)
  have hw := hw u1 eu1
  refine pa_aload_n hE dX7_putBack_8 rfl 0 rfl ?_
  refine pa_aload_n hE dX7_putBack_9 rfl 0 rfl ?_
  refine pg_24_27 hE (pa_m4 148 rfl rfl) dX7_putBack_10 ?_
  refine pp_24_2 hE (pa_m4 123 rfl rfl) dX7_putBack_13 (fun u2 eu2 => ?_)
  have hw := hw u2 eu2
  refine pa_iconst hE dX7_putBack_16 (v := 0) (by decide) ?_
  refine pa_istore_n hE dX7_putBack_17 rfl (by decide) (lvr := [(0, .ref (q 24 0))]) rfl ?_
  exact pa_sub [1, 0] rfl (tl_X7_putBack_18 hE hr 5000 u2 0 hw)
def wp_X7_putBack (u0 : pa_S) (post : pa_S → Prop) : Prop := wb_X7_putBack_0 u0 post
theorem ct_X7_putBack (l : Launch) (g : pa_G) (D : va_G) (q : Nat → Nat → Nat) (u0 : pa_S) (post : pa_S → Prop)  (hw : wp_X7_putBack u0 post) : pa_Ct l yX7_putBack cX7_putBack 2 none 2 g D q u0 [.ref (q 24 0)] (fun (_ : Unit) => none) (fun (_ : Unit) u => post u) := pa_met rfl rfl (Nat.le_of_ble_eq_true rfl) rfl (fun p e s m args below meth c A hE hr => tb_X7_putBack_0 hE hr  hw)
def wb_X7_on_102 (u0 : pa_S) (y0 : Int32) (post : Int32 → pa_S → Prop) : Prop :=
  (wp_X7_putBack u0 (fun (u12 : pa_S) => post y0 u12))
set_option maxRecDepth 100000 in
set_option maxHeartbeats 4000000 in
theorem tb_X7_on_102 {p : Program} {l : Launch} {e : Env} {s : State} {m : MethodId} {args : Array Value} {below : List Frame} {meth : Method} {c : Code} {A : Nat → Prop} {D : va_G} {g : pa_G} {q : Nat → Nat → Nat} {u0 : pa_S} {y0 : Int32} {post : Int32 → pa_S → Prop} (hE : pa_Fx p s m args meth c A D g 4 cX7_on RX7) (hr : meth.sig.returnType = (some .int)) (hw : wb_X7_on_102 u0 y0 post) : pa_At p l e (pa_rm 8) s m args below meth c (MQ below (pa_Qc g D q (fun r => some (.int r)) post A) args s 0 0 A) A D g 4 0 0 q u0 102 [(0, .ref (q 24 0))] [.int y0] := by
  refine pa_istore_n hE dX7_on_102 rfl (by decide) (lvr := [(0, .ref (q 24 0))]) rfl ?_
  refine pa_aload_n hE dX7_on_103 rfl 1 rfl ?_
  refine pa_callVv hE (ct_X7_putBack l g D q u0 _ hw) cv_RX7_347 pa_in24 rfl rfl rfl (pa_hR (by omega) (by decide)) rfl (Nat.le_of_ble_eq_true rfl) dX7_on_104 (fun u12 hw => ?_)
  refine pa_iload_n hE dX7_on_107 rfl 0 rfl ?_
  exact pa_iret hE hr hw rfl dX7_on_108
def wb_X7_on_42 (u0 : pa_S) (x1 : Int32) (x2 : Int32) (post : Int32 → pa_S → Prop) : Prop :=
  (wp_X7_in u0 x1 0 60 (fun (r2 : Int32) => (if r2 = 0 then post (-2 : Int32) u0 else (wp_X7_save u0 (fun (u5 : pa_S) => (wp_X7_goDays u5 x1 (fun (u7 : pa_S) => (if x2 = 0 then (wp_X7_allFortunes u7 (fun (r15 : Int32) (u16 : pa_S) => wb_X7_on_102 u16 r15 post)) else (if 20 ≤ x2 then (vp_in (x2 - 20) 15) ∧ wb_X7_on_102 u7 (pa_A u7 28 0 (x2 - 20).toNatClampNeg) post else (wp_X7_fortune u7 (x2 - 10) (fun (r13 : Int32) (u14 : pa_S) => wb_X7_on_102 u14 r13 post)))))))))))
set_option maxRecDepth 100000 in
set_option maxHeartbeats 4000000 in
theorem tb_X7_on_42 {p : Program} {l : Launch} {e : Env} {s : State} {m : MethodId} {args : Array Value} {below : List Frame} {meth : Method} {c : Code} {A : Nat → Prop} {D : va_G} {g : pa_G} {q : Nat → Nat → Nat} {u0 : pa_S} {x1 : Int32} {x2 : Int32} {post : Int32 → pa_S → Prop} (hE : pa_Fx p s m args meth c A D g 4 cX7_on RX7) (hr : meth.sig.returnType = (some .int)) (hw : wb_X7_on_42 u0 x1 x2 post) : pa_At p l e (pa_rm 8) s m args below meth c (MQ below (pa_Qc g D q (fun r => some (.int r)) post A) args s 0 0 A) A D g 4 0 0 q u0 42 [(0, .ref (q 24 0)), (1, .int x1), (2, .int x2)] [] := by
  refine pa_aload_n hE dX7_on_42 rfl 0 rfl ?_
  refine pa_iload_n hE dX7_on_43 rfl 1 rfl ?_
  refine pa_iconst hE dX7_on_44 (v := 0) (by decide) ?_
  refine pa_bipush hE dX7_on_45 (v := 60) (by decide) ?_
  refine pa_callVri hE (ct_X7_in l g D q u0 x1 0 60 _ hw) cv_RX7_221 pa_in24 rfl rfl rfl (pa_hR (by omega) (by decide)) rfl (Nat.le_of_ble_eq_true rfl) dX7_on_47 (fun r2 hw => ?_)
  refine pa_if_ne hE dX7_on_50 (tgt := 56) (by decide) (fun h3 => ?_) (fun h3 => ?_)
  · have hw := Eq.mp (if_neg h3) hw
    refine pa_aload_n hE dX7_on_56 rfl 0 rfl ?_
    refine pa_callVv hE (ct_X7_save l g D q u0 _ hw) cv_RX7_344 pa_in24 rfl rfl rfl (pa_hR (by omega) (by decide)) rfl (Nat.le_of_ble_eq_true rfl) dX7_on_57 (fun u5 hw => ?_)
    refine pa_aload_n hE dX7_on_60 rfl 0 rfl ?_
    refine pa_iload_n hE dX7_on_61 rfl 1 rfl ?_
    refine pa_callVv hE (ct_X7_goDays l g D q u5 x1 _ hw) cv_RX7_341 pa_in24 rfl rfl rfl (pa_hR (by omega) (by decide)) rfl (Nat.le_of_ble_eq_true rfl) dX7_on_62 (fun u7 hw => ?_)
    refine pa_iload_n hE dX7_on_65 rfl 2 rfl ?_
    refine pa_if_ne hE dX7_on_66 (tgt := 76) (by decide) (fun h8 => ?_) (fun h8 => ?_)
    · have hw := Eq.mp (if_neg h8) hw
      refine pa_iload_n hE dX7_on_76 rfl 2 rfl ?_
      refine pa_bipush hE dX7_on_77 (v := 20) (by decide) ?_
      refine pa_icmp_ge hE dX7_on_79 (tgt := 93) (by decide) (fun h9 => ?_) (fun h9 => ?_)
      · have hw := Eq.mp (if_pos h9) hw
        refine pa_aload_n hE dX7_on_93 rfl 0 rfl ?_
        refine pg_24_6 hE (pa_m4 127 rfl rfl) dX7_on_94 ?_
        refine pa_iload_n hE dX7_on_97 rfl 2 rfl ?_
        refine pa_bipush hE dX7_on_98 (v := 20) (by decide) ?_
        refine pa_isub hE dX7_on_100 ?_
        obtain ⟨h10, hw⟩ := hw
        refine pl_28 hE h10 dX7_on_101 ?_
        exact pa_sub [0] rfl (tb_X7_on_102 hE hr hw)
      · have hw := Eq.mp (if_neg h9) hw
        refine pa_aload_n hE dX7_on_82 rfl 0 rfl ?_
        refine pa_iload_n hE dX7_on_83 rfl 2 rfl ?_
        refine pa_bipush hE dX7_on_84 (v := 10) (by decide) ?_
        refine pa_isub hE dX7_on_86 ?_
        refine pa_callVi hE (ct_X7_fortune l g D q u7 (x2 - 10) _ hw) cv_RX7_311 pa_in24 rfl rfl rfl (pa_hR (by omega) (by decide)) rfl (Nat.le_of_ble_eq_true rfl) dX7_on_87 (fun r13 u14 hw => ?_)
        refine pa_goto hE dX7_on_90 (tgt := 102) (by decide) ?_
        exact pa_sub [0] rfl (tb_X7_on_102 hE hr hw)
    · have hw := Eq.mp (if_pos h8) hw
      refine pa_aload_n hE dX7_on_69 rfl 0 rfl ?_
      refine pa_callVi hE (ct_X7_allFortunes l g D q u7 _ hw) cv_RX7_323 pa_in24 rfl rfl rfl (pa_hR (by omega) (by decide)) rfl (Nat.le_of_ble_eq_true rfl) dX7_on_70 (fun r15 u16 hw => ?_)
      refine pa_goto hE dX7_on_73 (tgt := 102) (by decide) ?_
      exact pa_sub [0] rfl (tb_X7_on_102 hE hr hw)
  · have hw := Eq.mp (if_pos h3) hw
    refine pa_bipush hE dX7_on_53 (v := (-2 : Int32)) (by decide) ?_
    exact pa_iret hE hr hw rfl dX7_on_55
def wb_X7_on_0 (u0 : pa_S) (x1 : Int32) (x2 : Int32) (post : Int32 → pa_S → Prop) : Prop :=
  (if x2 = 0 then wb_X7_on_42 u0 x1 x2 post else (wp_X7_in u0 x2 10 (9 + (pa_I u0 24 0 0)) (fun (r17 : Int32) => (if r17 = 0 then (wp_X7_in u0 x2 20 (19 + (3 * (pa_I u0 24 0 0))) (fun (r19 : Int32) => (if r19 = 0 then post (-1 : Int32) u0 else wb_X7_on_42 u0 x1 x2 post))) else wb_X7_on_42 u0 x1 x2 post))))
set_option maxRecDepth 100000 in
set_option maxHeartbeats 4000000 in
theorem tb_X7_on_0 {p : Program} {l : Launch} {e : Env} {s : State} {m : MethodId} {args : Array Value} {below : List Frame} {meth : Method} {c : Code} {A : Nat → Prop} {D : va_G} {g : pa_G} {q : Nat → Nat → Nat} {u0 : pa_S} {x1 : Int32} {x2 : Int32} {post : Int32 → pa_S → Prop} (hE : pa_Fx p s m args meth c A D g 4 cX7_on RX7) (hr : meth.sig.returnType = (some .int)) (hw : wb_X7_on_0 u0 x1 x2 post) : pa_At p l e (pa_rm 8) s m args below meth c (MQ below (pa_Qc g D q (fun r => some (.int r)) post A) args s 0 0 A) A D g 4 0 0 q u0 0 [(0, .ref (q 24 0)), (1, .int x1), (2, .int x2)] [] := by
  refine pa_iload_n hE dX7_on_0 rfl 2 rfl ?_
  refine pa_if_eq hE dX7_on_1 (tgt := 42) (by decide) (fun h1 => ?_) (fun h1 => ?_)
  · have hw := Eq.mp (if_pos h1) hw
    exact pa_sub [0, 1, 2] rfl (tb_X7_on_42 hE hr hw)
  · have hw := Eq.mp (if_neg h1) hw
    refine pa_aload_n hE dX7_on_4 rfl 0 rfl ?_
    refine pa_iload_n hE dX7_on_5 rfl 2 rfl ?_
    refine pa_bipush hE dX7_on_6 (v := 10) (by decide) ?_
    refine pa_bipush hE dX7_on_8 (v := 9) (by decide) ?_
    refine pa_aload_n hE dX7_on_10 rfl 0 rfl ?_
    refine pg_24_0 hE (pa_m4 121 rfl rfl) dX7_on_11 ?_
    refine pa_iadd hE dX7_on_14 ?_
    refine pa_callVri hE (ct_X7_in l g D q u0 x2 10 (9 + (pa_I u0 24 0 0)) _ hw) cv_RX7_221 pa_in24 rfl rfl rfl (pa_hR (by omega) (by decide)) rfl (Nat.le_of_ble_eq_true rfl) dX7_on_15 (fun r17 hw => ?_)
    refine pa_if_ne hE dX7_on_18 (tgt := 42) (by decide) (fun h18 => ?_) (fun h18 => ?_)
    · have hw := Eq.mp (if_neg h18) hw
      exact pa_sub [0, 1, 2] rfl (tb_X7_on_42 hE hr hw)
    · have hw := Eq.mp (if_pos h18) hw
      refine pa_aload_n hE dX7_on_21 rfl 0 rfl ?_
      refine pa_iload_n hE dX7_on_22 rfl 2 rfl ?_
      refine pa_bipush hE dX7_on_23 (v := 20) (by decide) ?_
      refine pa_bipush hE dX7_on_25 (v := 19) (by decide) ?_
      refine pa_iconst hE dX7_on_27 (v := 3) (by decide) ?_
      refine pa_aload_n hE dX7_on_28 rfl 0 rfl ?_
      refine pg_24_0 hE (pa_m4 121 rfl rfl) dX7_on_29 ?_
      refine pa_imul hE dX7_on_32 ?_
      refine pa_iadd hE dX7_on_33 ?_
      refine pa_callVri hE (ct_X7_in l g D q u0 x2 20 (19 + (3 * (pa_I u0 24 0 0))) _ hw) cv_RX7_221 pa_in24 rfl rfl rfl (pa_hR (by omega) (by decide)) rfl (Nat.le_of_ble_eq_true rfl) dX7_on_34 (fun r19 hw => ?_)
      refine pa_if_ne hE dX7_on_37 (tgt := 42) (by decide) (fun h20 => ?_) (fun h20 => ?_)
      · have hw := Eq.mp (if_neg h20) hw
        exact pa_sub [0, 1, 2] rfl (tb_X7_on_42 hE hr hw)
      · have hw := Eq.mp (if_pos h20) hw
        refine pa_iconst hE dX7_on_40 (v := (-1 : Int32)) (by decide) ?_
        exact pa_iret hE hr hw rfl dX7_on_41
def wp_X7_on (u0 : pa_S) (x1 : Int32) (x2 : Int32) (post : Int32 → pa_S → Prop) : Prop := wb_X7_on_0 u0 x1 x2 post
theorem ct_X7_on (l : Launch) (g : pa_G) (D : va_G) (q : Nat → Nat → Nat) (u0 : pa_S) (x1 : Int32) (x2 : Int32) (post : Int32 → pa_S → Prop)  (hw : wp_X7_on u0 x1 x2 post) : pa_Ct l yX7_on cX7_on 4 (some .int) 8 g D q u0 [.ref (q 24 0), .int x1, .int x2] (fun r => some (.int r)) post := pa_met rfl rfl (Nat.le_of_ble_eq_true rfl) rfl (fun p e s m args below meth c A hE hr => tb_X7_on_0 hE hr  hw)
def wb_X7_lasts_52 (u0 : pa_S) (x3 : Int32) (post : Int32 → pa_S → Prop) : Prop :=
  (wp_X7_putBack u0 (fun (u9 : pa_S) => (if 61 ≤ x3 then post (-5 : Int32) u9 else post x3 u9)))
set_option maxRecDepth 100000 in
set_option maxHeartbeats 4000000 in
theorem tb_X7_lasts_52 {p : Program} {l : Launch} {e : Env} {s : State} {m : MethodId} {args : Array Value} {below : List Frame} {meth : Method} {c : Code} {A : Nat → Prop} {D : va_G} {g : pa_G} {q : Nat → Nat → Nat} {u0 : pa_S} {x3 : Int32} {post : Int32 → pa_S → Prop} (hE : pa_Fx p s m args meth c A D g 4 cX7_lasts RX7) (hr : meth.sig.returnType = (some .int)) (hw : wb_X7_lasts_52 u0 x3 post) : pa_At p l e (pa_rm 7) s m args below meth c (MQ below (pa_Qc g D q (fun r => some (.int r)) post A) args s 0 0 A) A D g 4 0 0 q u0 52 [(0, .ref (q 24 0)), (3, .int x3)] [] := by
  refine pa_aload_n hE dX7_lasts_52 rfl 0 rfl ?_
  refine pa_callVv hE (ct_X7_putBack l g D q u0 _ hw) cv_RX7_347 pa_in24 rfl rfl rfl (pa_hR (by omega) (by decide)) rfl (Nat.le_of_ble_eq_true rfl) dX7_lasts_53 (fun u9 hw => ?_)
  refine pa_iload_n hE dX7_lasts_56 rfl 1 rfl ?_
  refine pa_bipush hE dX7_lasts_57 (v := 61) (by decide) ?_
  refine pa_icmp_ge hE dX7_lasts_59 (tgt := 66) (by decide) (fun h10 => ?_) (fun h10 => ?_)
  · have hw := Eq.mp (if_pos h10) hw
    refine pa_bipush hE dX7_lasts_66 (v := (-5 : Int32)) (by decide) ?_
    exact pa_iret hE hr hw rfl dX7_lasts_68
  · have hw := Eq.mp (if_neg h10) hw
    refine pa_iload_n hE dX7_lasts_62 rfl 1 rfl ?_
    refine pa_goto hE dX7_lasts_63 (tgt := 68) (by decide) ?_
    exact pa_iret hE hr hw rfl dX7_lasts_68
def wb_X7_lasts_27 (k27 : pa_S → Int32 → Int32 → Int32 → Prop) (u0 : pa_S) (x1 : Int32) (x2 : Int32) (x3 : Int32) (post : Int32 → pa_S → Prop) : Prop :=
  (if 61 ≤ x3 then wb_X7_lasts_52 u0 x3 post else (wp_X7_fortune u0 x1 (fun (r11 : Int32) (u12 : pa_S) => (if r11 < x2 then wb_X7_lasts_52 u12 x3 post else (wp_X7_goDay u12 (fun (u15 : pa_S) => ∀ v16 : Int32, v16 = x3 + 1 → k27 u15 x1 x2 v16))))))
set_option maxRecDepth 100000 in
set_option maxHeartbeats 4000000 in
theorem tb_X7_lasts_27 {p : Program} {l : Launch} {e : Env} {s : State} {m : MethodId} {args : Array Value} {below : List Frame} {meth : Method} {c : Code} {A : Nat → Prop} {D : va_G} {g : pa_G} {q : Nat → Nat → Nat} {k27 : pa_S → Int32 → Int32 → Int32 → Prop} {u0 : pa_S} {x1 : Int32} {x2 : Int32} {x3 : Int32} {post : Int32 → pa_S → Prop} (hE : pa_Fx p s m args meth c A D g 4 cX7_lasts RX7) (hr : meth.sig.returnType = (some .int)) (hk27 : ∀ (u : pa_S)  (x1 : Int32) (x2 : Int32) (x3 : Int32), k27 u x1 x2 x3 → pa_At p l e (pa_rm 7) s m args below meth c (MQ below (pa_Qc g D q (fun r => some (.int r)) post A) args s 0 0 A) A D g 4 0 0 q u 27 [(0, .ref (q 24 0)), (1, .int x1), (2, .int x2), (3, .int x3)] []) (hw : wb_X7_lasts_27 k27 u0 x1 x2 x3 post) : pa_At p l e (pa_rm 7) s m args below meth c (MQ below (pa_Qc g D q (fun r => some (.int r)) post A) args s 0 0 A) A D g 4 0 0 q u0 27 [(0, .ref (q 24 0)), (1, .int x1), (2, .int x2), (3, .int x3)] [] := by
  refine pa_iload_n hE dX7_lasts_27 rfl 3 rfl ?_
  refine pa_bipush hE dX7_lasts_28 (v := 61) (by decide) ?_
  refine pa_icmp_ge hE dX7_lasts_30 (tgt := 52) (by decide) (fun h7 => ?_) (fun h7 => ?_)
  · have hw := Eq.mp (if_pos h7) hw
    exact pa_sub [0, 3] rfl (tb_X7_lasts_52 hE hr hw)
  · have hw := Eq.mp (if_neg h7) hw
    refine pa_aload_n hE dX7_lasts_33 rfl 0 rfl ?_
    refine pa_iload_n hE dX7_lasts_34 rfl 1 rfl ?_
    refine pa_callVi hE (ct_X7_fortune l g D q u0 x1 _ hw) cv_RX7_311 pa_in24 rfl rfl rfl (pa_hR (by omega) (by decide)) rfl (Nat.le_of_ble_eq_true rfl) dX7_lasts_35 (fun r11 u12 hw => ?_)
    refine pa_iload_n hE dX7_lasts_38 rfl 2 rfl ?_
    refine pa_icmp_lt hE dX7_lasts_39 (tgt := 52) (by decide) (fun h13 => ?_) (fun h13 => ?_)
    · have hw := Eq.mp (if_pos h13) hw
      exact pa_sub [0, 3] rfl (tb_X7_lasts_52 hE hr hw)
    · have hw := Eq.mp (if_neg h13) hw
      refine pa_aload_n hE dX7_lasts_42 rfl 0 rfl ?_
      refine pa_callVv hE (ct_X7_goDay l g D q u12 _ hw) cv_RX7_338 pa_in24 rfl rfl rfl (pa_hR (by omega) (by decide)) rfl (Nat.le_of_ble_eq_true rfl) dX7_lasts_43 (fun u15 hw => ?_)
      refine pa_iinc hE dX7_lasts_46 (v := 1) 3 rfl (by decide) (by decide) (lvr := [(0, .ref (q 24 0)), (1, .int x1), (2, .int x2)]) rfl (fun v16 ev16 => ?_)
      have hw := hw v16 ev16
      refine pa_goto hE dX7_lasts_49 (tgt := 27) (by decide) ?_
      exact pa_sub [1, 2, 3, 0] rfl (hk27 u15 x1 x2 v16 hw)
def wl_X7_lasts_27 (post : Int32 → pa_S → Prop) : Nat → pa_S → Int32 → Int32 → Int32 → Prop
  | 0, _, _, _, _ => False
  | n + 1, u0, x1, x2, x3 => wb_X7_lasts_27 (fun u0 x1 x2 x3 => wl_X7_lasts_27 post n u0 x1 x2 x3) u0 x1 x2 x3 post
set_option maxRecDepth 100000 in
set_option maxHeartbeats 4000000 in
theorem tl_X7_lasts_27 {p : Program} {l : Launch} {e : Env} {s : State} {m : MethodId} {args : Array Value} {below : List Frame} {meth : Method} {c : Code} {A : Nat → Prop} {D : va_G} {g : pa_G} {q : Nat → Nat → Nat} {post : Int32 → pa_S → Prop} (hE : pa_Fx p s m args meth c A D g 4 cX7_lasts RX7) (hr : meth.sig.returnType = (some .int)) : ∀ (n : Nat) (u0 : pa_S) (x1 : Int32) (x2 : Int32) (x3 : Int32), wl_X7_lasts_27 post n u0 x1 x2 x3 → pa_At p l e (pa_rm 7) s m args below meth c (MQ below (pa_Qc g D q (fun r => some (.int r)) post A) args s 0 0 A) A D g 4 0 0 q u0 27 [(0, .ref (q 24 0)), (1, .int x1), (2, .int x2), (3, .int x3)] []
  | 0, _, _, _, _, hw => absurd hw (by simp only [wl_X7_lasts_27]; exact fun z => z)
  | n + 1, u0, x1, x2, x3, hw => tb_X7_lasts_27 hE hr (fun u0 x1 x2 x3  hw1 => tl_X7_lasts_27 hE hr  n u0 x1 x2 x3  hw1) hw
def wb_X7_lasts_0 (u0 : pa_S) (x1 : Int32) (x2 : Int32) (post : Int32 → pa_S → Prop) : Prop :=
  (wp_X7_isHand u0 x1 (fun (r1 : Int32) => (if r1 = 0 then post (-1 : Int32) u0 else (wp_X7_isFortune u0 x2 (fun (r3 : Int32) => (if r3 = 0 then post (-2 : Int32) u0 else (wp_X7_save u0 (fun (u6 : pa_S) => wl_X7_lasts_27 post 5000 u6 x1 x2 0))))))))
set_option maxRecDepth 100000 in
set_option maxHeartbeats 4000000 in
theorem tb_X7_lasts_0 {p : Program} {l : Launch} {e : Env} {s : State} {m : MethodId} {args : Array Value} {below : List Frame} {meth : Method} {c : Code} {A : Nat → Prop} {D : va_G} {g : pa_G} {q : Nat → Nat → Nat} {u0 : pa_S} {x1 : Int32} {x2 : Int32} {post : Int32 → pa_S → Prop} (hE : pa_Fx p s m args meth c A D g 4 cX7_lasts RX7) (hr : meth.sig.returnType = (some .int)) (hw : wb_X7_lasts_0 u0 x1 x2 post) : pa_At p l e (pa_rm 7) s m args below meth c (MQ below (pa_Qc g D q (fun r => some (.int r)) post A) args s 0 0 A) A D g 4 0 0 q u0 0 [(0, .ref (q 24 0)), (1, .int x1), (2, .int x2)] [] := by
  refine pa_aload_n hE dX7_lasts_0 rfl 0 rfl ?_
  refine pa_iload_n hE dX7_lasts_1 rfl 1 rfl ?_
  refine pa_callVri hE (ct_X7_isHand l g D q u0 x1 _ hw) cv_RX7_229 pa_in24 rfl rfl rfl (pa_hR (by omega) (by decide)) rfl (Nat.le_of_ble_eq_true rfl) dX7_lasts_2 (fun r1 hw => ?_)
  refine pa_if_ne hE dX7_lasts_5 (tgt := 10) (by decide) (fun h2 => ?_) (fun h2 => ?_)
  · have hw := Eq.mp (if_neg h2) hw
    refine pa_aload_n hE dX7_lasts_10 rfl 0 rfl ?_
    refine pa_iload_n hE dX7_lasts_11 rfl 2 rfl ?_
    refine pa_callVri hE (ct_X7_isFortune l g D q u0 x2 _ hw) cv_RX7_350 pa_in24 rfl rfl rfl (pa_hR (by omega) (by decide)) rfl (Nat.le_of_ble_eq_true rfl) dX7_lasts_12 (fun r3 hw => ?_)
    refine pa_if_ne hE dX7_lasts_15 (tgt := 21) (by decide) (fun h4 => ?_) (fun h4 => ?_)
    · have hw := Eq.mp (if_neg h4) hw
      refine pa_aload_n hE dX7_lasts_21 rfl 0 rfl ?_
      refine pa_callVv hE (ct_X7_save l g D q u0 _ hw) cv_RX7_344 pa_in24 rfl rfl rfl (pa_hR (by omega) (by decide)) rfl (Nat.le_of_ble_eq_true rfl) dX7_lasts_22 (fun u6 hw => ?_)
      refine pa_iconst hE dX7_lasts_25 (v := 0) (by decide) ?_
      refine pa_istore_n hE dX7_lasts_26 rfl (by decide) (lvr := [(0, .ref (q 24 0)), (1, .int x1), (2, .int x2)]) rfl ?_
      exact pa_sub [1, 2, 3, 0] rfl (tl_X7_lasts_27 hE hr 5000 u6 x1 x2 0 hw)
    · have hw := Eq.mp (if_pos h4) hw
      refine pa_bipush hE dX7_lasts_18 (v := (-2 : Int32)) (by decide) ?_
      exact pa_iret hE hr hw rfl dX7_lasts_20
  · have hw := Eq.mp (if_pos h2) hw
    refine pa_iconst hE dX7_lasts_8 (v := (-1 : Int32)) (by decide) ?_
    exact pa_iret hE hr hw rfl dX7_lasts_9
def wp_X7_lasts (u0 : pa_S) (x1 : Int32) (x2 : Int32) (post : Int32 → pa_S → Prop) : Prop := wb_X7_lasts_0 u0 x1 x2 post
theorem ct_X7_lasts (l : Launch) (g : pa_G) (D : va_G) (q : Nat → Nat → Nat) (u0 : pa_S) (x1 : Int32) (x2 : Int32) (post : Int32 → pa_S → Prop)  (hw : wp_X7_lasts u0 x1 x2 post) : pa_Ct l yX7_lasts cX7_lasts 4 (some .int) 7 g D q u0 [.ref (q 24 0), .int x1, .int x2] (fun r => some (.int r)) post := pa_met rfl rfl (Nat.le_of_ble_eq_true rfl) rfl (fun p e s m args below meth c A hE hr => tb_X7_lasts_0 hE hr  hw)
def wb_X7_pen_79 (k32 : pa_S → Int32 → Int32 → Int32 → Int32 → Int32 → Prop) (u0 : pa_S) (x1 : Int32) (x2 : Int32) (x3 : Int32) (x4 : Int32) (x5 : Int32) (post : Int32 → pa_S → Prop) : Prop :=
  ∀ v15 : Int32, v15 = x5 + 1 → k32 u0 x1 x2 x3 x4 v15
set_option maxRecDepth 100000 in
set_option maxHeartbeats 4000000 in
theorem tb_X7_pen_79 {p : Program} {l : Launch} {e : Env} {s : State} {m : MethodId} {args : Array Value} {below : List Frame} {meth : Method} {c : Code} {A : Nat → Prop} {D : va_G} {g : pa_G} {q : Nat → Nat → Nat} {k32 : pa_S → Int32 → Int32 → Int32 → Int32 → Int32 → Prop} {u0 : pa_S} {x1 : Int32} {x2 : Int32} {x3 : Int32} {x4 : Int32} {x5 : Int32} {post : Int32 → pa_S → Prop} (hE : pa_Fx p s m args meth c A D g 7 cX7_pen RX7) (hr : meth.sig.returnType = (some .int)) (hk32 : ∀ (u : pa_S)  (x1 : Int32) (x2 : Int32) (x3 : Int32) (x4 : Int32) (x5 : Int32), k32 u x1 x2 x3 x4 x5 → pa_At p l e (pa_rm 7) s m args below meth c (MQ below (pa_Qc g D q (fun r => some (.int r)) post A) args s 0 0 A) A D g 7 0 0 q u 32 [(0, .ref (q 24 0)), (1, .int x1), (2, .int x2), (3, .int x3), (4, .int x4), (5, .int x5)] []) (hw : wb_X7_pen_79 k32 u0 x1 x2 x3 x4 x5 post) : pa_At p l e (pa_rm 7) s m args below meth c (MQ below (pa_Qc g D q (fun r => some (.int r)) post A) args s 0 0 A) A D g 7 0 0 q u0 79 [(0, .ref (q 24 0)), (1, .int x1), (2, .int x2), (3, .int x3), (4, .int x4), (5, .int x5)] [] := by
  refine pa_iinc hE dX7_pen_79 (v := 1) 5 rfl (by decide) (by decide) (lvr := [(0, .ref (q 24 0)), (1, .int x1), (2, .int x2), (3, .int x3), (4, .int x4)]) rfl (fun v15 ev15 => ?_)
  have hw := hw v15 ev15
  refine pa_goto hE dX7_pen_82 (tgt := 32) (by decide) ?_
  exact pa_sub [1, 2, 3, 4, 5, 0] rfl (hk32 u0 x1 x2 x3 x4 v15 hw)
def wb_X7_pen_32 (k32 : pa_S → Int32 → Int32 → Int32 → Int32 → Int32 → Prop) (u0 : pa_S) (x1 : Int32) (x2 : Int32) (x3 : Int32) (x4 : Int32) (x5 : Int32) (post : Int32 → pa_S → Prop) : Prop :=
  (if 3 ≤ x5 then post x3 u0 else (wp_X7_save u0 (fun (u7 : pa_S) => (wp_X7_draws u7 x1 x5 x2 (fun (r8 : Int32) (u9 : pa_S) => (wp_X7_fortune u9 x1 (fun (r10 : Int32) (u11 : pa_S) => (wp_X7_putBack u11 (fun (u13 : pa_S) => (if x4 < r10 then wb_X7_pen_79 k32 u13 x1 x2 x5 r10 x5 post else wb_X7_pen_79 k32 u13 x1 x2 x3 x4 x5 post))))))))))
set_option maxRecDepth 100000 in
set_option maxHeartbeats 4000000 in
theorem tb_X7_pen_32 {p : Program} {l : Launch} {e : Env} {s : State} {m : MethodId} {args : Array Value} {below : List Frame} {meth : Method} {c : Code} {A : Nat → Prop} {D : va_G} {g : pa_G} {q : Nat → Nat → Nat} {k32 : pa_S → Int32 → Int32 → Int32 → Int32 → Int32 → Prop} {u0 : pa_S} {x1 : Int32} {x2 : Int32} {x3 : Int32} {x4 : Int32} {x5 : Int32} {post : Int32 → pa_S → Prop} (hE : pa_Fx p s m args meth c A D g 7 cX7_pen RX7) (hr : meth.sig.returnType = (some .int)) (hk32 : ∀ (u : pa_S)  (x1 : Int32) (x2 : Int32) (x3 : Int32) (x4 : Int32) (x5 : Int32), k32 u x1 x2 x3 x4 x5 → pa_At p l e (pa_rm 7) s m args below meth c (MQ below (pa_Qc g D q (fun r => some (.int r)) post A) args s 0 0 A) A D g 7 0 0 q u 32 [(0, .ref (q 24 0)), (1, .int x1), (2, .int x2), (3, .int x3), (4, .int x4), (5, .int x5)] []) (hw : wb_X7_pen_32 k32 u0 x1 x2 x3 x4 x5 post) : pa_At p l e (pa_rm 7) s m args below meth c (MQ below (pa_Qc g D q (fun r => some (.int r)) post A) args s 0 0 A) A D g 7 0 0 q u0 32 [(0, .ref (q 24 0)), (1, .int x1), (2, .int x2), (3, .int x3), (4, .int x4), (5, .int x5)] [] := by
  refine pa_iload hE dX7_pen_32 5 rfl ?_
  refine pa_iconst hE dX7_pen_34 (v := 3) (by decide) ?_
  refine pa_icmp_ge hE dX7_pen_35 (tgt := 85) (by decide) (fun h5 => ?_) (fun h5 => ?_)
  · have hw := Eq.mp (if_pos h5) hw
    refine pa_iload_n hE dX7_pen_85 rfl 3 rfl ?_
    exact pa_iret hE hr hw rfl dX7_pen_86
  · have hw := Eq.mp (if_neg h5) hw
    refine pa_aload_n hE dX7_pen_38 rfl 0 rfl ?_
    refine pa_callVv hE (ct_X7_save l g D q u0 _ hw) cv_RX7_344 pa_in24 rfl rfl rfl (pa_hR (by omega) (by decide)) rfl (Nat.le_of_ble_eq_true rfl) dX7_pen_39 (fun u7 hw => ?_)
    refine pa_aload_n hE dX7_pen_42 rfl 0 rfl ?_
    refine pa_iload_n hE dX7_pen_43 rfl 1 rfl ?_
    refine pa_iload hE dX7_pen_44 5 rfl ?_
    refine pa_iload_n hE dX7_pen_46 rfl 2 rfl ?_
    refine pa_callVi hE (ct_X7_draws l g D q u7 x1 x5 x2 _ hw) cv_RX7_329 pa_in24 rfl rfl rfl (pa_hR (by omega) (by decide)) rfl (Nat.le_of_ble_eq_true rfl) dX7_pen_47 (fun r8 u9 hw => ?_)
    refine pa_pop hE dX7_pen_50 rfl ?_
    refine pa_aload_n hE dX7_pen_51 rfl 0 rfl ?_
    refine pa_iload_n hE dX7_pen_52 rfl 1 rfl ?_
    refine pa_callVi hE (ct_X7_fortune l g D q u9 x1 _ hw) cv_RX7_311 pa_in24 rfl rfl rfl (pa_hR (by omega) (by decide)) rfl (Nat.le_of_ble_eq_true rfl) dX7_pen_53 (fun r10 u11 hw => ?_)
    refine pa_istore hE dX7_pen_56 (by decide) (lvr := [(0, .ref (q 24 0)), (1, .int x1), (2, .int x2), (3, .int x3), (4, .int x4), (5, .int x5)]) rfl ?_
    refine pa_aload_n hE dX7_pen_58 rfl 1 rfl ?_
    refine pa_callVv hE (ct_X7_putBack l g D q u11 _ hw) cv_RX7_347 pa_in24 rfl rfl rfl (pa_hR (by omega) (by decide)) rfl (Nat.le_of_ble_eq_true rfl) dX7_pen_59 (fun u13 hw => ?_)
    refine pa_iload hE dX7_pen_62 0 rfl ?_
    refine pa_iload hE dX7_pen_64 5 rfl ?_
    refine pa_icmp_gt hE dX7_pen_66 (tgt := 72) (by decide) (fun h14 => ?_) (fun h14 => ?_)
    · have hw := Eq.mp (if_pos h14) hw
      refine pa_iload hE dX7_pen_72 6 rfl ?_
      refine pa_istore_n hE dX7_pen_74 rfl (by decide) (lvr := [(6, .int r10), (0, .ref (q 24 0)), (1, .int x1), (2, .int x2), (4, .int x4), (5, .int x5)]) rfl ?_
      refine pa_iload hE dX7_pen_75 1 rfl ?_
      refine pa_istore hE dX7_pen_77 (by decide) (lvr := [(3, .int x5), (6, .int r10), (0, .ref (q 24 0)), (1, .int x1), (2, .int x2), (5, .int x5)]) rfl ?_
      exact pa_sub [3, 4, 5, 1, 0, 6] rfl (tb_X7_pen_79 hE hr hk32 hw)
    · have hw := Eq.mp (if_neg h14) hw
      refine pa_goto hE dX7_pen_69 (tgt := 79) (by decide) ?_
      exact pa_sub [1, 2, 3, 4, 5, 6] rfl (tb_X7_pen_79 hE hr hk32 hw)
def wl_X7_pen_32 (post : Int32 → pa_S → Prop) : Nat → pa_S → Int32 → Int32 → Int32 → Int32 → Int32 → Prop
  | 0, _, _, _, _, _, _ => False
  | n + 1, u0, x1, x2, x3, x4, x5 => wb_X7_pen_32 (fun u0 x1 x2 x3 x4 x5 => wl_X7_pen_32 post n u0 x1 x2 x3 x4 x5) u0 x1 x2 x3 x4 x5 post
set_option maxRecDepth 100000 in
set_option maxHeartbeats 4000000 in
theorem tl_X7_pen_32 {p : Program} {l : Launch} {e : Env} {s : State} {m : MethodId} {args : Array Value} {below : List Frame} {meth : Method} {c : Code} {A : Nat → Prop} {D : va_G} {g : pa_G} {q : Nat → Nat → Nat} {post : Int32 → pa_S → Prop} (hE : pa_Fx p s m args meth c A D g 7 cX7_pen RX7) (hr : meth.sig.returnType = (some .int)) : ∀ (n : Nat) (u0 : pa_S) (x1 : Int32) (x2 : Int32) (x3 : Int32) (x4 : Int32) (x5 : Int32), wl_X7_pen_32 post n u0 x1 x2 x3 x4 x5 → pa_At p l e (pa_rm 7) s m args below meth c (MQ below (pa_Qc g D q (fun r => some (.int r)) post A) args s 0 0 A) A D g 7 0 0 q u0 32 [(0, .ref (q 24 0)), (1, .int x1), (2, .int x2), (3, .int x3), (4, .int x4), (5, .int x5)] []
  | 0, _, _, _, _, _, _, hw => absurd hw (by simp only [wl_X7_pen_32]; exact fun z => z)
  | n + 1, u0, x1, x2, x3, x4, x5, hw => tb_X7_pen_32 hE hr (fun u0 x1 x2 x3 x4 x5  hw1 => tl_X7_pen_32 hE hr  n u0 x1 x2 x3 x4 x5  hw1) hw
def wb_X7_pen_0 (u0 : pa_S) (x1 : Int32) (x2 : Int32) (post : Int32 → pa_S → Prop) : Prop :=
  (wp_X7_isHand u0 x1 (fun (r1 : Int32) => (if r1 = 0 then post (-1 : Int32) u0 else (wp_X7_in u0 x2 1 9 (fun (r3 : Int32) => (if r3 = 0 then post (-2 : Int32) u0 else wl_X7_pen_32 post 5000 u0 x1 x2 0 (-1 : Int32) 0))))))
set_option maxRecDepth 100000 in
set_option maxHeartbeats 4000000 in
theorem tb_X7_pen_0 {p : Program} {l : Launch} {e : Env} {s : State} {m : MethodId} {args : Array Value} {below : List Frame} {meth : Method} {c : Code} {A : Nat → Prop} {D : va_G} {g : pa_G} {q : Nat → Nat → Nat} {u0 : pa_S} {x1 : Int32} {x2 : Int32} {post : Int32 → pa_S → Prop} (hE : pa_Fx p s m args meth c A D g 7 cX7_pen RX7) (hr : meth.sig.returnType = (some .int)) (hw : wb_X7_pen_0 u0 x1 x2 post) : pa_At p l e (pa_rm 7) s m args below meth c (MQ below (pa_Qc g D q (fun r => some (.int r)) post A) args s 0 0 A) A D g 7 0 0 q u0 0 [(0, .ref (q 24 0)), (1, .int x1), (2, .int x2)] [] := by
  refine pa_aload_n hE dX7_pen_0 rfl 0 rfl ?_
  refine pa_iload_n hE dX7_pen_1 rfl 1 rfl ?_
  refine pa_callVri hE (ct_X7_isHand l g D q u0 x1 _ hw) cv_RX7_229 pa_in24 rfl rfl rfl (pa_hR (by omega) (by decide)) rfl (Nat.le_of_ble_eq_true rfl) dX7_pen_2 (fun r1 hw => ?_)
  refine pa_if_ne hE dX7_pen_5 (tgt := 10) (by decide) (fun h2 => ?_) (fun h2 => ?_)
  · have hw := Eq.mp (if_neg h2) hw
    refine pa_aload_n hE dX7_pen_10 rfl 0 rfl ?_
    refine pa_iload_n hE dX7_pen_11 rfl 2 rfl ?_
    refine pa_iconst hE dX7_pen_12 (v := 1) (by decide) ?_
    refine pa_bipush hE dX7_pen_13 (v := 9) (by decide) ?_
    refine pa_callVri hE (ct_X7_in l g D q u0 x2 1 9 _ hw) cv_RX7_221 pa_in24 rfl rfl rfl (pa_hR (by omega) (by decide)) rfl (Nat.le_of_ble_eq_true rfl) dX7_pen_15 (fun r3 hw => ?_)
    refine pa_if_ne hE dX7_pen_18 (tgt := 24) (by decide) (fun h4 => ?_) (fun h4 => ?_)
    · have hw := Eq.mp (if_neg h4) hw
      refine pa_iconst hE dX7_pen_24 (v := 0) (by decide) ?_
      refine pa_istore_n hE dX7_pen_25 rfl (by decide) (lvr := [(0, .ref (q 24 0)), (1, .int x1), (2, .int x2)]) rfl ?_
      refine pa_iconst hE dX7_pen_26 (v := (-1 : Int32)) (by decide) ?_
      refine pa_istore hE dX7_pen_27 (by decide) (lvr := [(3, .int 0), (0, .ref (q 24 0)), (1, .int x1), (2, .int x2)]) rfl ?_
      refine pa_iconst hE dX7_pen_29 (v := 0) (by decide) ?_
      refine pa_istore hE dX7_pen_30 (by decide) (lvr := [(4, .int (-1 : Int32)), (3, .int 0), (0, .ref (q 24 0)), (1, .int x1), (2, .int x2)]) rfl ?_
      exact pa_sub [3, 4, 5, 2, 1, 0] rfl (tl_X7_pen_32 hE hr 5000 u0 x1 x2 0 (-1 : Int32) 0 hw)
    · have hw := Eq.mp (if_pos h4) hw
      refine pa_bipush hE dX7_pen_21 (v := (-2 : Int32)) (by decide) ?_
      exact pa_iret hE hr hw rfl dX7_pen_23
  · have hw := Eq.mp (if_pos h2) hw
    refine pa_iconst hE dX7_pen_8 (v := (-1 : Int32)) (by decide) ?_
    exact pa_iret hE hr hw rfl dX7_pen_9
def wp_X7_pen (u0 : pa_S) (x1 : Int32) (x2 : Int32) (post : Int32 → pa_S → Prop) : Prop := wb_X7_pen_0 u0 x1 x2 post
theorem ct_X7_pen (l : Launch) (g : pa_G) (D : va_G) (q : Nat → Nat → Nat) (u0 : pa_S) (x1 : Int32) (x2 : Int32) (post : Int32 → pa_S → Prop)  (hw : wp_X7_pen u0 x1 x2 post) : pa_Ct l yX7_pen cX7_pen 7 (some .int) 7 g D q u0 [.ref (q 24 0), .int x1, .int x2] (fun r => some (.int r)) post := pa_met rfl rfl (Nat.le_of_ble_eq_true rfl) rfl (fun p e s m args below meth c A hE hr => tb_X7_pen_0 hE hr  hw)
def wb_X7_share_130 (k43 : pa_S → Int32 → Int32 → Int32 → Int32 → Int32 → Int32 → Prop) (k54 : pa_S → Int32 → Int32 → Int32 → Int32 → Int32 → Int32 → Int32 → Prop) (u0 : pa_S) (x1 : Int32) (x2 : Int32) (x3 : Int32) (x4 : Int32) (x5 : Int32) (x6 : Int32) (x7 : Int32) (post : Int32 → pa_S → Prop) : Prop :=
  ∀ v28 : Int32, v28 = x7 + (-1 : Int32) → k54 u0 x1 x2 x3 x4 x5 x6 v28
set_option maxRecDepth 100000 in
set_option maxHeartbeats 4000000 in
theorem tb_X7_share_130 {p : Program} {l : Launch} {e : Env} {s : State} {m : MethodId} {args : Array Value} {below : List Frame} {meth : Method} {c : Code} {A : Nat → Prop} {D : va_G} {g : pa_G} {q : Nat → Nat → Nat} {k43 : pa_S → Int32 → Int32 → Int32 → Int32 → Int32 → Int32 → Prop} {k54 : pa_S → Int32 → Int32 → Int32 → Int32 → Int32 → Int32 → Int32 → Prop} {u0 : pa_S} {x1 : Int32} {x2 : Int32} {x3 : Int32} {x4 : Int32} {x5 : Int32} {x6 : Int32} {x7 : Int32} {post : Int32 → pa_S → Prop} (hE : pa_Fx p s m args meth c A D g 9 cX7_share RX7) (hr : meth.sig.returnType = (some .int)) (hk43 : ∀ (u : pa_S)  (x1 : Int32) (x2 : Int32) (x3 : Int32) (x4 : Int32) (x5 : Int32) (x6 : Int32), k43 u x1 x2 x3 x4 x5 x6 → pa_At p l e (pa_rm 7) s m args below meth c (MQ below (pa_Qc g D q (fun r => some (.int r)) post A) args s 0 0 A) A D g 9 0 0 q u 43 [(0, .ref (q 24 0)), (1, .int x1), (2, .int x2), (3, .int x3), (4, .int x4), (5, .int x5), (6, .int x6)] []) (hk54 : ∀ (u : pa_S)  (x1 : Int32) (x2 : Int32) (x3 : Int32) (x4 : Int32) (x5 : Int32) (x6 : Int32) (x7 : Int32), k54 u x1 x2 x3 x4 x5 x6 x7 → pa_At p l e (pa_rm 7) s m args below meth c (MQ below (pa_Qc g D q (fun r => some (.int r)) post A) args s 0 0 A) A D g 9 0 0 q u 54 [(0, .ref (q 24 0)), (1, .int x1), (2, .int x2), (3, .int x3), (4, .int x4), (5, .int x5), (6, .int x6), (7, .int x7)] []) (hw : wb_X7_share_130 k43 k54 u0 x1 x2 x3 x4 x5 x6 x7 post) : pa_At p l e (pa_rm 7) s m args below meth c (MQ below (pa_Qc g D q (fun r => some (.int r)) post A) args s 0 0 A) A D g 9 0 0 q u0 130 [(0, .ref (q 24 0)), (1, .int x1), (2, .int x2), (3, .int x3), (4, .int x4), (5, .int x5), (6, .int x6), (7, .int x7)] [] := by
  refine pa_iinc hE dX7_share_130 (v := (-1 : Int32)) 7 rfl (by decide) (by decide) (lvr := [(0, .ref (q 24 0)), (1, .int x1), (2, .int x2), (3, .int x3), (4, .int x4), (5, .int x5), (6, .int x6)]) rfl (fun v28 ev28 => ?_)
  have hw := hw v28 ev28
  refine pa_goto hE dX7_share_133 (tgt := 54) (by decide) ?_
  exact pa_sub [1, 2, 3, 4, 5, 6, 7, 0] rfl (hk54 u0 x1 x2 x3 x4 x5 x6 v28 hw)
def wb_X7_share_54 (k43 : pa_S → Int32 → Int32 → Int32 → Int32 → Int32 → Int32 → Prop) (k54 : pa_S → Int32 → Int32 → Int32 → Int32 → Int32 → Int32 → Int32 → Prop) (u0 : pa_S) (x1 : Int32) (x2 : Int32) (x3 : Int32) (x4 : Int32) (x5 : Int32) (x6 : Int32) (x7 : Int32) (post : Int32 → pa_S → Prop) : Prop :=
  (if x7 < 0 then ∀ v13 : Int32, v13 = x6 + (-1 : Int32) → k43 u0 x1 x2 x3 x4 x5 v13 else (wp_X7_save u0 (fun (u15 : pa_S) => (wp_X7_draws u15 x1 0 x6 (fun (r16 : Int32) (u17 : pa_S) => (wp_X7_draws u17 x1 1 x7 (fun (r18 : Int32) (u19 : pa_S) => (wp_X7_draws u19 x1 2 ((x2 - x6) - x7) (fun (r20 : Int32) (u21 : pa_S) => (wp_X7_fortune u21 x1 (fun (r22 : Int32) (u23 : pa_S) => (wp_X7_putBack u23 (fun (u25 : pa_S) => (if x5 < r22 then ∀ v27 : Int32, v27 = ((100 * x6) + x7) → wb_X7_share_130 k43 k54 u25 x1 x2 x3 v27 r22 x6 x7 post else wb_X7_share_130 k43 k54 u25 x1 x2 x3 x4 x5 x6 x7 post))))))))))))))
set_option maxRecDepth 100000 in
set_option maxHeartbeats 4000000 in
theorem tb_X7_share_54 {p : Program} {l : Launch} {e : Env} {s : State} {m : MethodId} {args : Array Value} {below : List Frame} {meth : Method} {c : Code} {A : Nat → Prop} {D : va_G} {g : pa_G} {q : Nat → Nat → Nat} {k43 : pa_S → Int32 → Int32 → Int32 → Int32 → Int32 → Int32 → Prop} {k54 : pa_S → Int32 → Int32 → Int32 → Int32 → Int32 → Int32 → Int32 → Prop} {u0 : pa_S} {x1 : Int32} {x2 : Int32} {x3 : Int32} {x4 : Int32} {x5 : Int32} {x6 : Int32} {x7 : Int32} {post : Int32 → pa_S → Prop} (hE : pa_Fx p s m args meth c A D g 9 cX7_share RX7) (hr : meth.sig.returnType = (some .int)) (hk43 : ∀ (u : pa_S)  (x1 : Int32) (x2 : Int32) (x3 : Int32) (x4 : Int32) (x5 : Int32) (x6 : Int32), k43 u x1 x2 x3 x4 x5 x6 → pa_At p l e (pa_rm 7) s m args below meth c (MQ below (pa_Qc g D q (fun r => some (.int r)) post A) args s 0 0 A) A D g 9 0 0 q u 43 [(0, .ref (q 24 0)), (1, .int x1), (2, .int x2), (3, .int x3), (4, .int x4), (5, .int x5), (6, .int x6)] []) (hk54 : ∀ (u : pa_S)  (x1 : Int32) (x2 : Int32) (x3 : Int32) (x4 : Int32) (x5 : Int32) (x6 : Int32) (x7 : Int32), k54 u x1 x2 x3 x4 x5 x6 x7 → pa_At p l e (pa_rm 7) s m args below meth c (MQ below (pa_Qc g D q (fun r => some (.int r)) post A) args s 0 0 A) A D g 9 0 0 q u 54 [(0, .ref (q 24 0)), (1, .int x1), (2, .int x2), (3, .int x3), (4, .int x4), (5, .int x5), (6, .int x6), (7, .int x7)] []) (hw : wb_X7_share_54 k43 k54 u0 x1 x2 x3 x4 x5 x6 x7 post) : pa_At p l e (pa_rm 7) s m args below meth c (MQ below (pa_Qc g D q (fun r => some (.int r)) post A) args s 0 0 A) A D g 9 0 0 q u0 54 [(0, .ref (q 24 0)), (1, .int x1), (2, .int x2), (3, .int x3), (4, .int x4), (5, .int x5), (6, .int x6), (7, .int x7)] [] := by
  refine pa_iload hE dX7_share_54 7 rfl ?_
  refine pa_if_lt hE dX7_share_56 (tgt := 136) (by decide) (fun h12 => ?_) (fun h12 => ?_)
  · have hw := Eq.mp (if_pos h12) hw
    refine pa_iinc hE dX7_share_136 (v := (-1 : Int32)) 6 rfl (by decide) (by decide) (lvr := [(0, .ref (q 24 0)), (1, .int x1), (2, .int x2), (3, .int x3), (4, .int x4), (5, .int x5), (7, .int x7)]) rfl (fun v13 ev13 => ?_)
    have hw := hw v13 ev13
    refine pa_goto hE dX7_share_139 (tgt := 43) (by decide) ?_
    exact pa_sub [1, 2, 3, 4, 5, 6, 0] rfl (hk43 u0 x1 x2 x3 x4 x5 v13 hw)
  · have hw := Eq.mp (if_neg h12) hw
    refine pa_aload_n hE dX7_share_59 rfl 0 rfl ?_
    refine pa_callVv hE (ct_X7_save l g D q u0 _ hw) cv_RX7_344 pa_in24 rfl rfl rfl (pa_hR (by omega) (by decide)) rfl (Nat.le_of_ble_eq_true rfl) dX7_share_60 (fun u15 hw => ?_)
    refine pa_aload_n hE dX7_share_63 rfl 0 rfl ?_
    refine pa_iload_n hE dX7_share_64 rfl 1 rfl ?_
    refine pa_iconst hE dX7_share_65 (v := 0) (by decide) ?_
    refine pa_iload hE dX7_share_66 6 rfl ?_
    refine pa_callVi hE (ct_X7_draws l g D q u15 x1 0 x6 _ hw) cv_RX7_329 pa_in24 rfl rfl rfl (pa_hR (by omega) (by decide)) rfl (Nat.le_of_ble_eq_true rfl) dX7_share_68 (fun r16 u17 hw => ?_)
    refine pa_pop hE dX7_share_71 rfl ?_
    refine pa_aload_n hE dX7_share_72 rfl 0 rfl ?_
    refine pa_iload_n hE dX7_share_73 rfl 1 rfl ?_
    refine pa_iconst hE dX7_share_74 (v := 1) (by decide) ?_
    refine pa_iload hE dX7_share_75 7 rfl ?_
    refine pa_callVi hE (ct_X7_draws l g D q u17 x1 1 x7 _ hw) cv_RX7_329 pa_in24 rfl rfl rfl (pa_hR (by omega) (by decide)) rfl (Nat.le_of_ble_eq_true rfl) dX7_share_77 (fun r18 u19 hw => ?_)
    refine pa_pop hE dX7_share_80 rfl ?_
    refine pa_aload_n hE dX7_share_81 rfl 0 rfl ?_
    refine pa_iload_n hE dX7_share_82 rfl 1 rfl ?_
    refine pa_iconst hE dX7_share_83 (v := 2) (by decide) ?_
    refine pa_iload_n hE dX7_share_84 rfl 2 rfl ?_
    refine pa_iload hE dX7_share_85 6 rfl ?_
    refine pa_isub hE dX7_share_87 ?_
    refine pa_iload hE dX7_share_88 7 rfl ?_
    refine pa_isub hE dX7_share_90 ?_
    refine pa_callVi hE (ct_X7_draws l g D q u19 x1 2 ((x2 - x6) - x7) _ hw) cv_RX7_329 pa_in24 rfl rfl rfl (pa_hR (by omega) (by decide)) rfl (Nat.le_of_ble_eq_true rfl) dX7_share_91 (fun r20 u21 hw => ?_)
    refine pa_pop hE dX7_share_94 rfl ?_
    refine pa_aload_n hE dX7_share_95 rfl 0 rfl ?_
    refine pa_iload_n hE dX7_share_96 rfl 1 rfl ?_
    refine pa_callVi hE (ct_X7_fortune l g D q u21 x1 _ hw) cv_RX7_311 pa_in24 rfl rfl rfl (pa_hR (by omega) (by decide)) rfl (Nat.le_of_ble_eq_true rfl) dX7_share_97 (fun r22 u23 hw => ?_)
    refine pa_istore hE dX7_share_100 (by decide) (lvr := [(0, .ref (q 24 0)), (1, .int x1), (2, .int x2), (3, .int x3), (4, .int x4), (5, .int x5), (6, .int x6), (7, .int x7)]) rfl ?_
    refine pa_aload_n hE dX7_share_102 rfl 1 rfl ?_
    refine pa_callVv hE (ct_X7_putBack l g D q u23 _ hw) cv_RX7_347 pa_in24 rfl rfl rfl (pa_hR (by omega) (by decide)) rfl (Nat.le_of_ble_eq_true rfl) dX7_share_103 (fun u25 hw => ?_)
    refine pa_iload hE dX7_share_106 0 rfl ?_
    refine pa_iload hE dX7_share_108 6 rfl ?_
    refine pa_icmp_gt hE dX7_share_110 (tgt := 116) (by decide) (fun h26 => ?_) (fun h26 => ?_)
    · have hw := Eq.mp (if_pos h26) hw
      refine pa_bipush hE dX7_share_116 (v := 100) (by decide) ?_
      refine pa_iload hE dX7_share_118 7 rfl ?_
      refine pa_imul hE dX7_share_120 ?_
      refine pa_iload hE dX7_share_121 8 rfl ?_
      refine pa_iadd hE dX7_share_123 ?_
      refine pa_namei (fun v27 ev27 => ?_)
      have hw := hw v27 ev27
      refine pa_istore hE dX7_share_124 (by decide) (lvr := [(8, .int r22), (0, .ref (q 24 0)), (1, .int x1), (2, .int x2), (3, .int x3), (5, .int x5), (6, .int x6), (7, .int x7)]) rfl ?_
      refine pa_iload hE dX7_share_126 1 rfl ?_
      refine pa_istore hE dX7_share_128 (by decide) (lvr := [(4, .int v27), (8, .int r22), (0, .ref (q 24 0)), (1, .int x1), (2, .int x2), (3, .int x3), (6, .int x6), (7, .int x7)]) rfl ?_
      exact pa_sub [3, 4, 5, 6, 1, 0, 7, 8] rfl (tb_X7_share_130 hE hr hk43 hk54 hw)
    · have hw := Eq.mp (if_neg h26) hw
      refine pa_goto hE dX7_share_113 (tgt := 130) (by decide) ?_
      exact pa_sub [1, 2, 3, 4, 5, 6, 7, 8] rfl (tb_X7_share_130 hE hr hk43 hk54 hw)
def wl_X7_share_54 (k43 : pa_S → Int32 → Int32 → Int32 → Int32 → Int32 → Int32 → Prop) (post : Int32 → pa_S → Prop) : Nat → pa_S → Int32 → Int32 → Int32 → Int32 → Int32 → Int32 → Int32 → Prop
  | 0, _, _, _, _, _, _, _, _ => False
  | n + 1, u0, x1, x2, x3, x4, x5, x6, x7 => wb_X7_share_54 k43 (fun u0 x1 x2 x3 x4 x5 x6 x7 => wl_X7_share_54 k43 post n u0 x1 x2 x3 x4 x5 x6 x7) u0 x1 x2 x3 x4 x5 x6 x7 post
set_option maxRecDepth 100000 in
set_option maxHeartbeats 4000000 in
theorem tl_X7_share_54 {p : Program} {l : Launch} {e : Env} {s : State} {m : MethodId} {args : Array Value} {below : List Frame} {meth : Method} {c : Code} {A : Nat → Prop} {D : va_G} {g : pa_G} {q : Nat → Nat → Nat} {k43 : pa_S → Int32 → Int32 → Int32 → Int32 → Int32 → Int32 → Prop} {post : Int32 → pa_S → Prop} (hE : pa_Fx p s m args meth c A D g 9 cX7_share RX7) (hr : meth.sig.returnType = (some .int)) (hk43 : ∀ (u : pa_S)  (x1 : Int32) (x2 : Int32) (x3 : Int32) (x4 : Int32) (x5 : Int32) (x6 : Int32), k43 u x1 x2 x3 x4 x5 x6 → pa_At p l e (pa_rm 7) s m args below meth c (MQ below (pa_Qc g D q (fun r => some (.int r)) post A) args s 0 0 A) A D g 9 0 0 q u 43 [(0, .ref (q 24 0)), (1, .int x1), (2, .int x2), (3, .int x3), (4, .int x4), (5, .int x5), (6, .int x6)] []) : ∀ (n : Nat) (u0 : pa_S) (x1 : Int32) (x2 : Int32) (x3 : Int32) (x4 : Int32) (x5 : Int32) (x6 : Int32) (x7 : Int32), wl_X7_share_54 k43 post n u0 x1 x2 x3 x4 x5 x6 x7 → pa_At p l e (pa_rm 7) s m args below meth c (MQ below (pa_Qc g D q (fun r => some (.int r)) post A) args s 0 0 A) A D g 9 0 0 q u0 54 [(0, .ref (q 24 0)), (1, .int x1), (2, .int x2), (3, .int x3), (4, .int x4), (5, .int x5), (6, .int x6), (7, .int x7)] []
  | 0, _, _, _, _, _, _, _, _, hw => absurd hw (by simp only [wl_X7_share_54]; exact fun z => z)
  | n + 1, u0, x1, x2, x3, x4, x5, x6, x7, hw => tb_X7_share_54 hE hr hk43 (fun u0 x1 x2 x3 x4 x5 x6 x7  hw1 => tl_X7_share_54 hE hr hk43 n u0 x1 x2 x3 x4 x5 x6 x7  hw1) hw
def wb_X7_share_43 (k43 : pa_S → Int32 → Int32 → Int32 → Int32 → Int32 → Int32 → Prop) (u0 : pa_S) (x1 : Int32) (x2 : Int32) (x3 : Int32) (x4 : Int32) (x5 : Int32) (x6 : Int32) (post : Int32 → pa_S → Prop) : Prop :=
  (if x6 < 0 then (if 0 ≤ x3 then (if x3 = 0 then post (x4 / 100) u0 else (if x3 = 1 then post (pa_rem x4 100) u0 else post ((x2 - (x4 / 100)) - (pa_rem x4 100)) u0)) else post x5 u0) else ∀ v11 : Int32, v11 = (x2 - x6) → wl_X7_share_54 k43 post 5000 u0 x1 x2 x3 x4 x5 x6 v11)
set_option maxRecDepth 100000 in
set_option maxHeartbeats 4000000 in
theorem tb_X7_share_43 {p : Program} {l : Launch} {e : Env} {s : State} {m : MethodId} {args : Array Value} {below : List Frame} {meth : Method} {c : Code} {A : Nat → Prop} {D : va_G} {g : pa_G} {q : Nat → Nat → Nat} {k43 : pa_S → Int32 → Int32 → Int32 → Int32 → Int32 → Int32 → Prop} {u0 : pa_S} {x1 : Int32} {x2 : Int32} {x3 : Int32} {x4 : Int32} {x5 : Int32} {x6 : Int32} {post : Int32 → pa_S → Prop} (hE : pa_Fx p s m args meth c A D g 9 cX7_share RX7) (hr : meth.sig.returnType = (some .int)) (hk43 : ∀ (u : pa_S)  (x1 : Int32) (x2 : Int32) (x3 : Int32) (x4 : Int32) (x5 : Int32) (x6 : Int32), k43 u x1 x2 x3 x4 x5 x6 → pa_At p l e (pa_rm 7) s m args below meth c (MQ below (pa_Qc g D q (fun r => some (.int r)) post A) args s 0 0 A) A D g 9 0 0 q u 43 [(0, .ref (q 24 0)), (1, .int x1), (2, .int x2), (3, .int x3), (4, .int x4), (5, .int x5), (6, .int x6)] []) (hw : wb_X7_share_43 k43 u0 x1 x2 x3 x4 x5 x6 post) : pa_At p l e (pa_rm 7) s m args below meth c (MQ below (pa_Qc g D q (fun r => some (.int r)) post A) args s 0 0 A) A D g 9 0 0 q u0 43 [(0, .ref (q 24 0)), (1, .int x1), (2, .int x2), (3, .int x3), (4, .int x4), (5, .int x5), (6, .int x6)] [] := by
  refine pa_iload hE dX7_share_43 6 rfl ?_
  refine pa_if_lt hE dX7_share_45 (tgt := 142) (by decide) (fun h7 => ?_) (fun h7 => ?_)
  · have hw := Eq.mp (if_pos h7) hw
    refine pa_iload_n hE dX7_share_142 rfl 3 rfl ?_
    refine pa_if_ge hE dX7_share_143 (tgt := 151) (by decide) (fun h8 => ?_) (fun h8 => ?_)
    · have hw := Eq.mp (if_pos h8) hw
      refine pa_iload_n hE dX7_share_151 rfl 3 rfl ?_
      refine pa_if_ne hE dX7_share_152 (tgt := 163) (by decide) (fun h9 => ?_) (fun h9 => ?_)
      · have hw := Eq.mp (if_neg h9) hw
        refine pa_iload_n hE dX7_share_163 rfl 3 rfl ?_
        refine pa_iconst hE dX7_share_164 (v := 1) (by decide) ?_
        refine pa_icmp_ne hE dX7_share_165 (tgt := 176) (by decide) (fun h10 => ?_) (fun h10 => ?_)
        · have hw := Eq.mp (if_neg h10) hw
          refine pa_iload_n hE dX7_share_176 rfl 2 rfl ?_
          refine pa_iload hE dX7_share_177 4 rfl ?_
          refine pa_bipush hE dX7_share_179 (v := 100) (by decide) ?_
          refine pa_idiv hE dX7_share_181 (by decide) ?_
          refine pa_isub hE dX7_share_182 ?_
          refine pa_iload hE dX7_share_183 4 rfl ?_
          refine pa_bipush hE dX7_share_185 (v := 100) (by decide) ?_
          refine pa_irem hE dX7_share_187 (by decide) ?_
          refine pa_isub hE dX7_share_188 ?_
          exact pa_iret hE hr hw rfl dX7_share_189
        · have hw := Eq.mp (if_pos h10) hw
          refine pa_iload hE dX7_share_168 4 rfl ?_
          refine pa_bipush hE dX7_share_170 (v := 100) (by decide) ?_
          refine pa_irem hE dX7_share_172 (by decide) ?_
          refine pa_goto hE dX7_share_173 (tgt := 189) (by decide) ?_
          exact pa_iret hE hr hw rfl dX7_share_189
      · have hw := Eq.mp (if_pos h9) hw
        refine pa_iload hE dX7_share_155 4 rfl ?_
        refine pa_bipush hE dX7_share_157 (v := 100) (by decide) ?_
        refine pa_idiv hE dX7_share_159 (by decide) ?_
        refine pa_goto hE dX7_share_160 (tgt := 189) (by decide) ?_
        exact pa_iret hE hr hw rfl dX7_share_189
    · have hw := Eq.mp (if_neg h8) hw
      refine pa_iload hE dX7_share_146 5 rfl ?_
      refine pa_goto hE dX7_share_148 (tgt := 189) (by decide) ?_
      exact pa_iret hE hr hw rfl dX7_share_189
  · have hw := Eq.mp (if_neg h7) hw
    refine pa_iload_n hE dX7_share_48 rfl 2 rfl ?_
    refine pa_iload hE dX7_share_49 6 rfl ?_
    refine pa_isub hE dX7_share_51 ?_
    refine pa_namei (fun v11 ev11 => ?_)
    have hw := hw v11 ev11
    refine pa_istore hE dX7_share_52 (by decide) (lvr := [(0, .ref (q 24 0)), (1, .int x1), (2, .int x2), (3, .int x3), (4, .int x4), (5, .int x5), (6, .int x6)]) rfl ?_
    exact pa_sub [1, 2, 3, 4, 5, 6, 7, 0] rfl (tl_X7_share_54 hE hr hk43 5000 u0 x1 x2 x3 x4 x5 x6 v11 hw)
def wl_X7_share_43 (post : Int32 → pa_S → Prop) : Nat → pa_S → Int32 → Int32 → Int32 → Int32 → Int32 → Int32 → Prop
  | 0, _, _, _, _, _, _, _ => False
  | n + 1, u0, x1, x2, x3, x4, x5, x6 => wb_X7_share_43 (fun u0 x1 x2 x3 x4 x5 x6 => wl_X7_share_43 post n u0 x1 x2 x3 x4 x5 x6) u0 x1 x2 x3 x4 x5 x6 post
set_option maxRecDepth 100000 in
set_option maxHeartbeats 4000000 in
theorem tl_X7_share_43 {p : Program} {l : Launch} {e : Env} {s : State} {m : MethodId} {args : Array Value} {below : List Frame} {meth : Method} {c : Code} {A : Nat → Prop} {D : va_G} {g : pa_G} {q : Nat → Nat → Nat} {post : Int32 → pa_S → Prop} (hE : pa_Fx p s m args meth c A D g 9 cX7_share RX7) (hr : meth.sig.returnType = (some .int)) : ∀ (n : Nat) (u0 : pa_S) (x1 : Int32) (x2 : Int32) (x3 : Int32) (x4 : Int32) (x5 : Int32) (x6 : Int32), wl_X7_share_43 post n u0 x1 x2 x3 x4 x5 x6 → pa_At p l e (pa_rm 7) s m args below meth c (MQ below (pa_Qc g D q (fun r => some (.int r)) post A) args s 0 0 A) A D g 9 0 0 q u0 43 [(0, .ref (q 24 0)), (1, .int x1), (2, .int x2), (3, .int x3), (4, .int x4), (5, .int x5), (6, .int x6)] []
  | 0, _, _, _, _, _, _, _, hw => absurd hw (by simp only [wl_X7_share_43]; exact fun z => z)
  | n + 1, u0, x1, x2, x3, x4, x5, x6, hw => tb_X7_share_43 hE hr (fun u0 x1 x2 x3 x4 x5 x6  hw1 => tl_X7_share_43 hE hr  n u0 x1 x2 x3 x4 x5 x6  hw1) hw
def wb_X7_share_0 (u0 : pa_S) (x1 : Int32) (x2 : Int32) (x3 : Int32) (post : Int32 → pa_S → Prop) : Prop :=
  (wp_X7_isHand u0 x1 (fun (r1 : Int32) => (if r1 = 0 then post (-1 : Int32) u0 else (wp_X7_in u0 x3 (-1 : Int32) 2 (fun (r3 : Int32) => (if r3 = 0 then post (-1 : Int32) u0 else (wp_X7_in u0 x2 0 12 (fun (r5 : Int32) => (if r5 = 0 then post (-2 : Int32) u0 else wl_X7_share_43 post 5000 u0 x1 x2 x3 0 (-1 : Int32) x2)))))))))
set_option maxRecDepth 100000 in
set_option maxHeartbeats 4000000 in
theorem tb_X7_share_0 {p : Program} {l : Launch} {e : Env} {s : State} {m : MethodId} {args : Array Value} {below : List Frame} {meth : Method} {c : Code} {A : Nat → Prop} {D : va_G} {g : pa_G} {q : Nat → Nat → Nat} {u0 : pa_S} {x1 : Int32} {x2 : Int32} {x3 : Int32} {post : Int32 → pa_S → Prop} (hE : pa_Fx p s m args meth c A D g 9 cX7_share RX7) (hr : meth.sig.returnType = (some .int)) (hw : wb_X7_share_0 u0 x1 x2 x3 post) : pa_At p l e (pa_rm 7) s m args below meth c (MQ below (pa_Qc g D q (fun r => some (.int r)) post A) args s 0 0 A) A D g 9 0 0 q u0 0 [(0, .ref (q 24 0)), (1, .int x1), (2, .int x2), (3, .int x3)] [] := by
  refine pa_aload_n hE dX7_share_0 rfl 0 rfl ?_
  refine pa_iload_n hE dX7_share_1 rfl 1 rfl ?_
  refine pa_callVri hE (ct_X7_isHand l g D q u0 x1 _ hw) cv_RX7_229 pa_in24 rfl rfl rfl (pa_hR (by omega) (by decide)) rfl (Nat.le_of_ble_eq_true rfl) dX7_share_2 (fun r1 hw => ?_)
  refine pa_if_eq hE dX7_share_5 (tgt := 18) (by decide) (fun h2 => ?_) (fun h2 => ?_)
  · have hw := Eq.mp (if_pos h2) hw
    refine pa_iconst hE dX7_share_18 (v := (-1 : Int32)) (by decide) ?_
    exact pa_iret hE hr hw rfl dX7_share_19
  · have hw := Eq.mp (if_neg h2) hw
    refine pa_aload_n hE dX7_share_8 rfl 0 rfl ?_
    refine pa_iload_n hE dX7_share_9 rfl 3 rfl ?_
    refine pa_iconst hE dX7_share_10 (v := (-1 : Int32)) (by decide) ?_
    refine pa_iconst hE dX7_share_11 (v := 2) (by decide) ?_
    refine pa_callVri hE (ct_X7_in l g D q u0 x3 (-1 : Int32) 2 _ hw) cv_RX7_221 pa_in24 rfl rfl rfl (pa_hR (by omega) (by decide)) rfl (Nat.le_of_ble_eq_true rfl) dX7_share_12 (fun r3 hw => ?_)
    refine pa_if_ne hE dX7_share_15 (tgt := 20) (by decide) (fun h4 => ?_) (fun h4 => ?_)
    · have hw := Eq.mp (if_neg h4) hw
      refine pa_aload_n hE dX7_share_20 rfl 0 rfl ?_
      refine pa_iload_n hE dX7_share_21 rfl 2 rfl ?_
      refine pa_iconst hE dX7_share_22 (v := 0) (by decide) ?_
      refine pa_bipush hE dX7_share_23 (v := 12) (by decide) ?_
      refine pa_callVri hE (ct_X7_in l g D q u0 x2 0 12 _ hw) cv_RX7_221 pa_in24 rfl rfl rfl (pa_hR (by omega) (by decide)) rfl (Nat.le_of_ble_eq_true rfl) dX7_share_25 (fun r5 hw => ?_)
      refine pa_if_ne hE dX7_share_28 (tgt := 34) (by decide) (fun h6 => ?_) (fun h6 => ?_)
      · have hw := Eq.mp (if_neg h6) hw
        refine pa_iconst hE dX7_share_34 (v := 0) (by decide) ?_
        refine pa_istore hE dX7_share_35 (by decide) (lvr := [(0, .ref (q 24 0)), (1, .int x1), (2, .int x2), (3, .int x3)]) rfl ?_
        refine pa_iconst hE dX7_share_37 (v := (-1 : Int32)) (by decide) ?_
        refine pa_istore hE dX7_share_38 (by decide) (lvr := [(4, .int 0), (0, .ref (q 24 0)), (1, .int x1), (2, .int x2), (3, .int x3)]) rfl ?_
        refine pa_iload_n hE dX7_share_40 rfl 4 rfl ?_
        refine pa_istore hE dX7_share_41 (by decide) (lvr := [(5, .int (-1 : Int32)), (4, .int 0), (0, .ref (q 24 0)), (1, .int x1), (2, .int x2), (3, .int x3)]) rfl ?_
        exact pa_sub [3, 4, 5, 6, 2, 1, 0] rfl (tl_X7_share_43 hE hr 5000 u0 x1 x2 x3 0 (-1 : Int32) x2 hw)
      · have hw := Eq.mp (if_pos h6) hw
        refine pa_bipush hE dX7_share_31 (v := (-2 : Int32)) (by decide) ?_
        exact pa_iret hE hr hw rfl dX7_share_33
    · have hw := Eq.mp (if_pos h4) hw
      refine pa_iconst hE dX7_share_18 (v := (-1 : Int32)) (by decide) ?_
      exact pa_iret hE hr hw rfl dX7_share_19
def wp_X7_share (u0 : pa_S) (x1 : Int32) (x2 : Int32) (x3 : Int32) (post : Int32 → pa_S → Prop) : Prop := wb_X7_share_0 u0 x1 x2 x3 post
theorem ct_X7_share (l : Launch) (g : pa_G) (D : va_G) (q : Nat → Nat → Nat) (u0 : pa_S) (x1 : Int32) (x2 : Int32) (x3 : Int32) (post : Int32 → pa_S → Prop)  (hw : wp_X7_share u0 x1 x2 x3 post) : pa_Ct l yX7_share cX7_share 9 (some .int) 7 g D q u0 [.ref (q 24 0), .int x1, .int x2, .int x3] (fun r => some (.int r)) post := pa_met rfl rfl (Nat.le_of_ble_eq_true rfl) rfl (fun p e s m args below meth c A hE hr => tb_X7_share_0 hE hr  hw)
def wb_X7_fortunesIf_0 (u0 : pa_S) (x1 : Int32) (x2 : Int32) (post : Int32 → pa_S → Prop) : Prop :=
  (wp_X7_save u0 (fun (u2 : pa_S) => (wp_X7_prints u2 x1 x2 (fun (r3 : Int32) (u4 : pa_S) => (wp_X7_allFortunes u4 (fun (r5 : Int32) (u6 : pa_S) => (wp_X7_putBack u6 (fun (u8 : pa_S) => post r5 u8))))))))
set_option maxRecDepth 100000 in
set_option maxHeartbeats 4000000 in
theorem tb_X7_fortunesIf_0 {p : Program} {l : Launch} {e : Env} {s : State} {m : MethodId} {args : Array Value} {below : List Frame} {meth : Method} {c : Code} {A : Nat → Prop} {D : va_G} {g : pa_G} {q : Nat → Nat → Nat} {u0 : pa_S} {x1 : Int32} {x2 : Int32} {post : Int32 → pa_S → Prop} (hE : pa_Fx p s m args meth c A D g 4 cX7_fortunesIf RX7) (hr : meth.sig.returnType = (some .int)) (hw : wb_X7_fortunesIf_0 u0 x1 x2 post) : pa_At p l e (pa_rm 8) s m args below meth c (MQ below (pa_Qc g D q (fun r => some (.int r)) post A) args s 0 0 A) A D g 4 0 0 q u0 0 [(0, .ref (q 24 0)), (1, .int x1), (2, .int x2)] [] := by
  refine pa_aload_n hE dX7_fortunesIf_0 rfl 0 rfl ?_
  refine pa_callVv hE (ct_X7_save l g D q u0 _ hw) cv_RX7_344 pa_in24 rfl rfl rfl (pa_hR (by omega) (by decide)) rfl (Nat.le_of_ble_eq_true rfl) dX7_fortunesIf_1 (fun u2 hw => ?_)
  refine pa_aload_n hE dX7_fortunesIf_4 rfl 0 rfl ?_
  refine pa_iload_n hE dX7_fortunesIf_5 rfl 1 rfl ?_
  refine pa_iload_n hE dX7_fortunesIf_6 rfl 2 rfl ?_
  refine pa_callVi hE (ct_X7_prints l g D q u2 x1 x2 _ hw) cv_RX7_335 pa_in24 rfl rfl rfl (pa_hR (by omega) (by decide)) rfl (Nat.le_of_ble_eq_true rfl) dX7_fortunesIf_7 (fun r3 u4 hw => ?_)
  refine pa_pop hE dX7_fortunesIf_10 rfl ?_
  refine pa_aload_n hE dX7_fortunesIf_11 rfl 0 rfl ?_
  refine pa_callVi hE (ct_X7_allFortunes l g D q u4 _ hw) cv_RX7_323 pa_in24 rfl rfl rfl (pa_hR (by omega) (by decide)) rfl (Nat.le_of_ble_eq_true rfl) dX7_fortunesIf_12 (fun r5 u6 hw => ?_)
  refine pa_istore_n hE dX7_fortunesIf_15 rfl (by decide) (lvr := [(0, .ref (q 24 0)), (1, .int x1), (2, .int x2)]) rfl ?_
  refine pa_aload_n hE dX7_fortunesIf_16 rfl 1 rfl ?_
  refine pa_callVv hE (ct_X7_putBack l g D q u6 _ hw) cv_RX7_347 pa_in24 rfl rfl rfl (pa_hR (by omega) (by decide)) rfl (Nat.le_of_ble_eq_true rfl) dX7_fortunesIf_17 (fun u8 hw => ?_)
  refine pa_iload_n hE dX7_fortunesIf_20 rfl 0 rfl ?_
  exact pa_iret hE hr hw rfl dX7_fortunesIf_21
def wp_X7_fortunesIf (u0 : pa_S) (x1 : Int32) (x2 : Int32) (post : Int32 → pa_S → Prop) : Prop := wb_X7_fortunesIf_0 u0 x1 x2 post
theorem ct_X7_fortunesIf (l : Launch) (g : pa_G) (D : va_G) (q : Nat → Nat → Nat) (u0 : pa_S) (x1 : Int32) (x2 : Int32) (post : Int32 → pa_S → Prop)  (hw : wp_X7_fortunesIf u0 x1 x2 post) : pa_Ct l yX7_fortunesIf cX7_fortunesIf 4 (some .int) 8 g D q u0 [.ref (q 24 0), .int x1, .int x2] (fun r => some (.int r)) post := pa_met rfl rfl (Nat.le_of_ble_eq_true rfl) rfl (fun p e s m args below meth c A hE hr => tb_X7_fortunesIf_0 hE hr  hw)
def wb_X7_meet_61 (k10 : pa_S → Int32 → Int32 → Int32 → Prop) (k23 : pa_S → Int32 → Int32 → Int32 → Int32 → Prop) (u0 : pa_S) (x1 : Int32) (x2 : Int32) (x3 : Int32) (x4 : Int32) (post : Int32 → pa_S → Prop) : Prop :=
  ∀ v11 : Int32, v11 = x4 + 1 → k23 u0 x1 x2 x3 v11
set_option maxRecDepth 100000 in
set_option maxHeartbeats 4000000 in
theorem tb_X7_meet_61 {p : Program} {l : Launch} {e : Env} {s : State} {m : MethodId} {args : Array Value} {below : List Frame} {meth : Method} {c : Code} {A : Nat → Prop} {D : va_G} {g : pa_G} {q : Nat → Nat → Nat} {k10 : pa_S → Int32 → Int32 → Int32 → Prop} {k23 : pa_S → Int32 → Int32 → Int32 → Int32 → Prop} {u0 : pa_S} {x1 : Int32} {x2 : Int32} {x3 : Int32} {x4 : Int32} {post : Int32 → pa_S → Prop} (hE : pa_Fx p s m args meth c A D g 6 cX7_meet RX7) (hr : meth.sig.returnType = (some .int)) (hk10 : ∀ (u : pa_S)  (x1 : Int32) (x2 : Int32) (x3 : Int32), k10 u x1 x2 x3 → pa_At p l e (pa_rm 9) s m args below meth c (MQ below (pa_Qc g D q (fun r => some (.int r)) post A) args s 0 0 A) A D g 6 0 0 q u 10 [(0, .ref (q 24 0)), (1, .int x1), (2, .int x2), (3, .int x3)] []) (hk23 : ∀ (u : pa_S)  (x1 : Int32) (x2 : Int32) (x3 : Int32) (x4 : Int32), k23 u x1 x2 x3 x4 → pa_At p l e (pa_rm 9) s m args below meth c (MQ below (pa_Qc g D q (fun r => some (.int r)) post A) args s 0 0 A) A D g 6 0 0 q u 23 [(0, .ref (q 24 0)), (1, .int x1), (2, .int x2), (3, .int x3), (4, .int x4)] []) (hw : wb_X7_meet_61 k10 k23 u0 x1 x2 x3 x4 post) : pa_At p l e (pa_rm 9) s m args below meth c (MQ below (pa_Qc g D q (fun r => some (.int r)) post A) args s 0 0 A) A D g 6 0 0 q u0 61 [(0, .ref (q 24 0)), (1, .int x1), (2, .int x2), (3, .int x3), (4, .int x4)] [] := by
  refine pa_iinc hE dX7_meet_61 (v := 1) 4 rfl (by decide) (by decide) (lvr := [(0, .ref (q 24 0)), (1, .int x1), (2, .int x2), (3, .int x3)]) rfl (fun v11 ev11 => ?_)
  have hw := hw v11 ev11
  refine pa_goto hE dX7_meet_64 (tgt := 23) (by decide) ?_
  exact pa_sub [1, 2, 3, 4, 0] rfl (hk23 u0 x1 x2 x3 v11 hw)
def wb_X7_meet_23 (k10 : pa_S → Int32 → Int32 → Int32 → Prop) (k23 : pa_S → Int32 → Int32 → Int32 → Int32 → Prop) (u0 : pa_S) (x1 : Int32) (x2 : Int32) (x3 : Int32) (x4 : Int32) (post : Int32 → pa_S → Prop) : Prop :=
  (if (pa_I u0 24 0 0) ≤ x4 then ∀ v6 : Int32, v6 = x3 + 1 → k10 u0 x1 x2 v6 else (wp_X7_fortunesIf u0 x3 x4 (fun (r7 : Int32) (u8 : pa_S) => (if x2 < r7 then ∀ v10 : Int32, v10 = ((10 * x3) + x4) → wb_X7_meet_61 k10 k23 u8 v10 r7 x3 x4 post else wb_X7_meet_61 k10 k23 u8 x1 x2 x3 x4 post))))
set_option maxRecDepth 100000 in
set_option maxHeartbeats 4000000 in
theorem tb_X7_meet_23 {p : Program} {l : Launch} {e : Env} {s : State} {m : MethodId} {args : Array Value} {below : List Frame} {meth : Method} {c : Code} {A : Nat → Prop} {D : va_G} {g : pa_G} {q : Nat → Nat → Nat} {k10 : pa_S → Int32 → Int32 → Int32 → Prop} {k23 : pa_S → Int32 → Int32 → Int32 → Int32 → Prop} {u0 : pa_S} {x1 : Int32} {x2 : Int32} {x3 : Int32} {x4 : Int32} {post : Int32 → pa_S → Prop} (hE : pa_Fx p s m args meth c A D g 6 cX7_meet RX7) (hr : meth.sig.returnType = (some .int)) (hk10 : ∀ (u : pa_S)  (x1 : Int32) (x2 : Int32) (x3 : Int32), k10 u x1 x2 x3 → pa_At p l e (pa_rm 9) s m args below meth c (MQ below (pa_Qc g D q (fun r => some (.int r)) post A) args s 0 0 A) A D g 6 0 0 q u 10 [(0, .ref (q 24 0)), (1, .int x1), (2, .int x2), (3, .int x3)] []) (hk23 : ∀ (u : pa_S)  (x1 : Int32) (x2 : Int32) (x3 : Int32) (x4 : Int32), k23 u x1 x2 x3 x4 → pa_At p l e (pa_rm 9) s m args below meth c (MQ below (pa_Qc g D q (fun r => some (.int r)) post A) args s 0 0 A) A D g 6 0 0 q u 23 [(0, .ref (q 24 0)), (1, .int x1), (2, .int x2), (3, .int x3), (4, .int x4)] []) (hw : wb_X7_meet_23 k10 k23 u0 x1 x2 x3 x4 post) : pa_At p l e (pa_rm 9) s m args below meth c (MQ below (pa_Qc g D q (fun r => some (.int r)) post A) args s 0 0 A) A D g 6 0 0 q u0 23 [(0, .ref (q 24 0)), (1, .int x1), (2, .int x2), (3, .int x3), (4, .int x4)] [] := by
  refine pa_iload hE dX7_meet_23 4 rfl ?_
  refine pa_aload_n hE dX7_meet_25 rfl 0 rfl ?_
  refine pg_24_0 hE (pa_m4 121 rfl rfl) dX7_meet_26 ?_
  refine pa_icmp_ge hE dX7_meet_29 (tgt := 67) (by decide) (fun h5 => ?_) (fun h5 => ?_)
  · have hw := Eq.mp (if_pos h5) hw
    refine pa_iinc hE dX7_meet_67 (v := 1) 3 rfl (by decide) (by decide) (lvr := [(0, .ref (q 24 0)), (1, .int x1), (2, .int x2), (4, .int x4)]) rfl (fun v6 ev6 => ?_)
    have hw := hw v6 ev6
    refine pa_goto hE dX7_meet_70 (tgt := 10) (by decide) ?_
    exact pa_sub [1, 2, 3, 0] rfl (hk10 u0 x1 x2 v6 hw)
  · have hw := Eq.mp (if_neg h5) hw
    refine pa_aload_n hE dX7_meet_32 rfl 0 rfl ?_
    refine pa_iload_n hE dX7_meet_33 rfl 3 rfl ?_
    refine pa_iload hE dX7_meet_34 4 rfl ?_
    refine pa_callVi hE (ct_X7_fortunesIf l g D q u0 x3 x4 _ hw) cv_RX7_353 pa_in24 rfl rfl rfl (pa_hR (by omega) (by decide)) rfl (Nat.le_of_ble_eq_true rfl) dX7_meet_36 (fun r7 u8 hw => ?_)
    refine pa_istore hE dX7_meet_39 (by decide) (lvr := [(0, .ref (q 24 0)), (1, .int x1), (2, .int x2), (3, .int x3), (4, .int x4)]) rfl ?_
    refine pa_iload hE dX7_meet_41 0 rfl ?_
    refine pa_iload_n hE dX7_meet_43 rfl 3 rfl ?_
    refine pa_icmp_gt hE dX7_meet_44 (tgt := 50) (by decide) (fun h9 => ?_) (fun h9 => ?_)
    · have hw := Eq.mp (if_pos h9) hw
      refine pa_bipush hE dX7_meet_50 (v := 10) (by decide) ?_
      refine pa_iload_n hE dX7_meet_52 rfl 4 rfl ?_
      refine pa_imul hE dX7_meet_53 ?_
      refine pa_iload hE dX7_meet_54 5 rfl ?_
      refine pa_iadd hE dX7_meet_56 ?_
      refine pa_namei (fun v10 ev10 => ?_)
      have hw := hw v10 ev10
      refine pa_istore_n hE dX7_meet_57 rfl (by decide) (lvr := [(5, .int r7), (0, .ref (q 24 0)), (2, .int x2), (3, .int x3), (4, .int x4)]) rfl ?_
      refine pa_iload hE dX7_meet_58 1 rfl ?_
      refine pa_istore_n hE dX7_meet_60 rfl (by decide) (lvr := [(1, .int v10), (5, .int r7), (0, .ref (q 24 0)), (3, .int x3), (4, .int x4)]) rfl ?_
      exact pa_sub [3, 1, 0, 4, 5] rfl (tb_X7_meet_61 hE hr hk10 hk23 hw)
    · have hw := Eq.mp (if_neg h9) hw
      refine pa_goto hE dX7_meet_47 (tgt := 61) (by decide) ?_
      exact pa_sub [1, 2, 3, 4, 5] rfl (tb_X7_meet_61 hE hr hk10 hk23 hw)
def wl_X7_meet_23 (k10 : pa_S → Int32 → Int32 → Int32 → Prop) (post : Int32 → pa_S → Prop) : Nat → pa_S → Int32 → Int32 → Int32 → Int32 → Prop
  | 0, _, _, _, _, _ => False
  | n + 1, u0, x1, x2, x3, x4 => wb_X7_meet_23 k10 (fun u0 x1 x2 x3 x4 => wl_X7_meet_23 k10 post n u0 x1 x2 x3 x4) u0 x1 x2 x3 x4 post
set_option maxRecDepth 100000 in
set_option maxHeartbeats 4000000 in
theorem tl_X7_meet_23 {p : Program} {l : Launch} {e : Env} {s : State} {m : MethodId} {args : Array Value} {below : List Frame} {meth : Method} {c : Code} {A : Nat → Prop} {D : va_G} {g : pa_G} {q : Nat → Nat → Nat} {k10 : pa_S → Int32 → Int32 → Int32 → Prop} {post : Int32 → pa_S → Prop} (hE : pa_Fx p s m args meth c A D g 6 cX7_meet RX7) (hr : meth.sig.returnType = (some .int)) (hk10 : ∀ (u : pa_S)  (x1 : Int32) (x2 : Int32) (x3 : Int32), k10 u x1 x2 x3 → pa_At p l e (pa_rm 9) s m args below meth c (MQ below (pa_Qc g D q (fun r => some (.int r)) post A) args s 0 0 A) A D g 6 0 0 q u 10 [(0, .ref (q 24 0)), (1, .int x1), (2, .int x2), (3, .int x3)] []) : ∀ (n : Nat) (u0 : pa_S) (x1 : Int32) (x2 : Int32) (x3 : Int32) (x4 : Int32), wl_X7_meet_23 k10 post n u0 x1 x2 x3 x4 → pa_At p l e (pa_rm 9) s m args below meth c (MQ below (pa_Qc g D q (fun r => some (.int r)) post A) args s 0 0 A) A D g 6 0 0 q u0 23 [(0, .ref (q 24 0)), (1, .int x1), (2, .int x2), (3, .int x3), (4, .int x4)] []
  | 0, _, _, _, _, _, hw => absurd hw (by simp only [wl_X7_meet_23]; exact fun z => z)
  | n + 1, u0, x1, x2, x3, x4, hw => tb_X7_meet_23 hE hr hk10 (fun u0 x1 x2 x3 x4  hw1 => tl_X7_meet_23 hE hr hk10 n u0 x1 x2 x3 x4  hw1) hw
def wb_X7_meet_10 (k10 : pa_S → Int32 → Int32 → Int32 → Prop) (u0 : pa_S) (x1 : Int32) (x2 : Int32) (x3 : Int32) (post : Int32 → pa_S → Prop) : Prop :=
  (if (pa_I u0 24 0 0) ≤ x3 then post x1 u0 else ∀ v4 : Int32, v4 = (x3 + 1) → wl_X7_meet_23 k10 post 5000 u0 x1 x2 x3 v4)
set_option maxRecDepth 100000 in
set_option maxHeartbeats 4000000 in
theorem tb_X7_meet_10 {p : Program} {l : Launch} {e : Env} {s : State} {m : MethodId} {args : Array Value} {below : List Frame} {meth : Method} {c : Code} {A : Nat → Prop} {D : va_G} {g : pa_G} {q : Nat → Nat → Nat} {k10 : pa_S → Int32 → Int32 → Int32 → Prop} {u0 : pa_S} {x1 : Int32} {x2 : Int32} {x3 : Int32} {post : Int32 → pa_S → Prop} (hE : pa_Fx p s m args meth c A D g 6 cX7_meet RX7) (hr : meth.sig.returnType = (some .int)) (hk10 : ∀ (u : pa_S)  (x1 : Int32) (x2 : Int32) (x3 : Int32), k10 u x1 x2 x3 → pa_At p l e (pa_rm 9) s m args below meth c (MQ below (pa_Qc g D q (fun r => some (.int r)) post A) args s 0 0 A) A D g 6 0 0 q u 10 [(0, .ref (q 24 0)), (1, .int x1), (2, .int x2), (3, .int x3)] []) (hw : wb_X7_meet_10 k10 u0 x1 x2 x3 post) : pa_At p l e (pa_rm 9) s m args below meth c (MQ below (pa_Qc g D q (fun r => some (.int r)) post A) args s 0 0 A) A D g 6 0 0 q u0 10 [(0, .ref (q 24 0)), (1, .int x1), (2, .int x2), (3, .int x3)] [] := by
  refine pa_iload_n hE dX7_meet_10 rfl 3 rfl ?_
  refine pa_aload_n hE dX7_meet_11 rfl 0 rfl ?_
  refine pg_24_0 hE (pa_m4 121 rfl rfl) dX7_meet_12 ?_
  refine pa_icmp_ge hE dX7_meet_15 (tgt := 73) (by decide) (fun h3 => ?_) (fun h3 => ?_)
  · have hw := Eq.mp (if_pos h3) hw
    refine pa_iload_n hE dX7_meet_73 rfl 1 rfl ?_
    exact pa_iret hE hr hw rfl dX7_meet_74
  · have hw := Eq.mp (if_neg h3) hw
    refine pa_iload_n hE dX7_meet_18 rfl 3 rfl ?_
    refine pa_iconst hE dX7_meet_19 (v := 1) (by decide) ?_
    refine pa_iadd hE dX7_meet_20 ?_
    refine pa_namei (fun v4 ev4 => ?_)
    have hw := hw v4 ev4
    refine pa_istore hE dX7_meet_21 (by decide) (lvr := [(0, .ref (q 24 0)), (1, .int x1), (2, .int x2), (3, .int x3)]) rfl ?_
    exact pa_sub [1, 2, 3, 4, 0] rfl (tl_X7_meet_23 hE hr hk10 5000 u0 x1 x2 x3 v4 hw)
def wl_X7_meet_10 (post : Int32 → pa_S → Prop) : Nat → pa_S → Int32 → Int32 → Int32 → Prop
  | 0, _, _, _, _ => False
  | n + 1, u0, x1, x2, x3 => wb_X7_meet_10 (fun u0 x1 x2 x3 => wl_X7_meet_10 post n u0 x1 x2 x3) u0 x1 x2 x3 post
set_option maxRecDepth 100000 in
set_option maxHeartbeats 4000000 in
theorem tl_X7_meet_10 {p : Program} {l : Launch} {e : Env} {s : State} {m : MethodId} {args : Array Value} {below : List Frame} {meth : Method} {c : Code} {A : Nat → Prop} {D : va_G} {g : pa_G} {q : Nat → Nat → Nat} {post : Int32 → pa_S → Prop} (hE : pa_Fx p s m args meth c A D g 6 cX7_meet RX7) (hr : meth.sig.returnType = (some .int)) : ∀ (n : Nat) (u0 : pa_S) (x1 : Int32) (x2 : Int32) (x3 : Int32), wl_X7_meet_10 post n u0 x1 x2 x3 → pa_At p l e (pa_rm 9) s m args below meth c (MQ below (pa_Qc g D q (fun r => some (.int r)) post A) args s 0 0 A) A D g 6 0 0 q u0 10 [(0, .ref (q 24 0)), (1, .int x1), (2, .int x2), (3, .int x3)] []
  | 0, _, _, _, _, hw => absurd hw (by simp only [wl_X7_meet_10]; exact fun z => z)
  | n + 1, u0, x1, x2, x3, hw => tb_X7_meet_10 hE hr (fun u0 x1 x2 x3  hw1 => tl_X7_meet_10 hE hr  n u0 x1 x2 x3  hw1) hw
def wb_X7_meet_0 (u0 : pa_S) (post : Int32 → pa_S → Prop) : Prop :=
  (wp_X7_allFortunes u0 (fun (r1 : Int32) (u2 : pa_S) => wl_X7_meet_10 post 5000 u2 (-5 : Int32) r1 0))
set_option maxRecDepth 100000 in
set_option maxHeartbeats 4000000 in
theorem tb_X7_meet_0 {p : Program} {l : Launch} {e : Env} {s : State} {m : MethodId} {args : Array Value} {below : List Frame} {meth : Method} {c : Code} {A : Nat → Prop} {D : va_G} {g : pa_G} {q : Nat → Nat → Nat} {u0 : pa_S} {post : Int32 → pa_S → Prop} (hE : pa_Fx p s m args meth c A D g 6 cX7_meet RX7) (hr : meth.sig.returnType = (some .int)) (hw : wb_X7_meet_0 u0 post) : pa_At p l e (pa_rm 9) s m args below meth c (MQ below (pa_Qc g D q (fun r => some (.int r)) post A) args s 0 0 A) A D g 6 0 0 q u0 0 [(0, .ref (q 24 0))] [] := by
  refine pa_bipush hE dX7_meet_0 (v := (-5 : Int32)) (by decide) ?_
  refine pa_istore_n hE dX7_meet_2 rfl (by decide) (lvr := [(0, .ref (q 24 0))]) rfl ?_
  refine pa_aload_n hE dX7_meet_3 rfl 1 rfl ?_
  refine pa_callVi hE (ct_X7_allFortunes l g D q u0 _ hw) cv_RX7_323 pa_in24 rfl rfl rfl (pa_hR (by omega) (by decide)) rfl (Nat.le_of_ble_eq_true rfl) dX7_meet_4 (fun r1 u2 hw => ?_)
  refine pa_istore_n hE dX7_meet_7 rfl (by decide) (lvr := [(1, .int (-5 : Int32)), (0, .ref (q 24 0))]) rfl ?_
  refine pa_iconst hE dX7_meet_8 (v := 0) (by decide) ?_
  refine pa_istore_n hE dX7_meet_9 rfl (by decide) (lvr := [(2, .int r1), (1, .int (-5 : Int32)), (0, .ref (q 24 0))]) rfl ?_
  exact pa_sub [3, 2, 1, 0] rfl (tl_X7_meet_10 hE hr 5000 u2 (-5 : Int32) r1 0 hw)
def wp_X7_meet (u0 : pa_S) (post : Int32 → pa_S → Prop) : Prop := wb_X7_meet_0 u0 post
theorem ct_X7_meet (l : Launch) (g : pa_G) (D : va_G) (q : Nat → Nat → Nat) (u0 : pa_S) (post : Int32 → pa_S → Prop)  (hw : wp_X7_meet u0 post) : pa_Ct l yX7_meet cX7_meet 6 (some .int) 9 g D q u0 [.ref (q 24 0)] (fun r => some (.int r)) post := pa_met rfl rfl (Nat.le_of_ble_eq_true rfl) rfl (fun p e s m args below meth c A hE hr => tb_X7_meet_0 hE hr  hw)
def wb_X7_book_0 (u0 : pa_S) (x1 : Int32) (x2 : Int32) (x3 : Int32) (post : Int32 → pa_S → Prop) : Prop :=
  (if x1 = (-1 : Int32) then ∀ u14 : pa_S, u14 = pa_sI u0 24 0 30 0 → post 0 u14 else (wp_X7_isHand u0 x1 (fun (r2 : Int32) => (if r2 = 0 then post (-1 : Int32) u0 else (wp_X7_isLine u0 x2 (fun (r4 : Int32) => (if r4 = 0 then post (-1 : Int32) u0 else (wp_X7_isLength u0 x3 (fun (r6 : Int32) => (if r6 = 0 then post (-2 : Int32) u0 else (if (pa_I u0 24 0 30) = 8 then post (-4 : Int32) u0 else (vp_in (pa_I u0 24 0 30) 8) ∧ ∀ u10 : pa_S, u10 = pa_sA u0 42 0 (upd (pa_A u0 42 0) (pa_I u0 24 0 30).toNatClampNeg ((3 * x1) + x2)) → (vp_in (pa_I u10 24 0 30) 8) ∧ ∀ u12 : pa_S, u12 = pa_sA u10 43 0 (upd (pa_A u10 43 0) (pa_I u10 24 0 30).toNatClampNeg x3) → ∀ u13 : pa_S, u13 = pa_sI u12 24 0 30 ((pa_I u12 24 0 30) + 1) → post (pa_I u13 24 0 30) u13)))))))))))
set_option maxRecDepth 100000 in
set_option maxHeartbeats 4000000 in
theorem tb_X7_book_0 {p : Program} {l : Launch} {e : Env} {s : State} {m : MethodId} {args : Array Value} {below : List Frame} {meth : Method} {c : Code} {A : Nat → Prop} {D : va_G} {g : pa_G} {q : Nat → Nat → Nat} {u0 : pa_S} {x1 : Int32} {x2 : Int32} {x3 : Int32} {post : Int32 → pa_S → Prop} (hE : pa_Fx p s m args meth c A D g 4 cX7_book RX7) (hr : meth.sig.returnType = (some .int)) (hw : wb_X7_book_0 u0 x1 x2 x3 post) : pa_At p l e (pa_rm 4) s m args below meth c (MQ below (pa_Qc g D q (fun r => some (.int r)) post A) args s 0 0 A) A D g 4 0 0 q u0 0 [(0, .ref (q 24 0)), (1, .int x1), (2, .int x2), (3, .int x3)] [] := by
  refine pa_iload_n hE dX7_book_0 rfl 1 rfl ?_
  refine pa_iconst hE dX7_book_1 (v := (-1 : Int32)) (by decide) ?_
  refine pa_icmp_ne hE dX7_book_2 (tgt := 12) (by decide) (fun h1 => ?_) (fun h1 => ?_)
  · have hw := Eq.mp (if_neg h1) hw
    refine pa_aload_n hE dX7_book_12 rfl 0 rfl ?_
    refine pa_iload_n hE dX7_book_13 rfl 1 rfl ?_
    refine pa_callVri hE (ct_X7_isHand l g D q u0 x1 _ hw) cv_RX7_229 pa_in24 rfl rfl rfl (pa_hR (by omega) (by decide)) rfl (Nat.le_of_ble_eq_true rfl) dX7_book_14 (fun r2 hw => ?_)
    refine pa_if_eq hE dX7_book_17 (tgt := 28) (by decide) (fun h3 => ?_) (fun h3 => ?_)
    · have hw := Eq.mp (if_pos h3) hw
      refine pa_iconst hE dX7_book_28 (v := (-1 : Int32)) (by decide) ?_
      exact pa_iret hE hr hw rfl dX7_book_29
    · have hw := Eq.mp (if_neg h3) hw
      refine pa_aload_n hE dX7_book_20 rfl 0 rfl ?_
      refine pa_iload_n hE dX7_book_21 rfl 2 rfl ?_
      refine pa_callVri hE (ct_X7_isLine l g D q u0 x2 _ hw) cv_RX7_232 pa_in24 rfl rfl rfl (pa_hR (by omega) (by decide)) rfl (Nat.le_of_ble_eq_true rfl) dX7_book_22 (fun r4 hw => ?_)
      refine pa_if_ne hE dX7_book_25 (tgt := 30) (by decide) (fun h5 => ?_) (fun h5 => ?_)
      · have hw := Eq.mp (if_neg h5) hw
        refine pa_aload_n hE dX7_book_30 rfl 0 rfl ?_
        refine pa_iload_n hE dX7_book_31 rfl 3 rfl ?_
        refine pa_callVri hE (ct_X7_isLength l g D q u0 x3 _ hw) cv_RX7_225 pa_in24 rfl rfl rfl (pa_hR (by omega) (by decide)) rfl (Nat.le_of_ble_eq_true rfl) dX7_book_32 (fun r6 hw => ?_)
        refine pa_if_ne hE dX7_book_35 (tgt := 41) (by decide) (fun h7 => ?_) (fun h7 => ?_)
        · have hw := Eq.mp (if_neg h7) hw
          refine pa_aload_n hE dX7_book_41 rfl 0 rfl ?_
          refine pg_24_30 hE (pa_m4 151 rfl rfl) dX7_book_42 ?_
          refine pa_bipush hE dX7_book_45 (v := 8) (by decide) ?_
          refine pa_icmp_ne hE dX7_book_47 (tgt := 53) (by decide) (fun h8 => ?_) (fun h8 => ?_)
          · have hw := Eq.mp (if_neg h8) hw
            refine pa_aload_n hE dX7_book_53 rfl 0 rfl ?_
            refine pg_24_31 hE (pa_m4 152 rfl rfl) dX7_book_54 ?_
            refine pa_aload_n hE dX7_book_57 rfl 0 rfl ?_
            refine pg_24_30 hE (pa_m4 151 rfl rfl) dX7_book_58 ?_
            refine pa_iconst hE dX7_book_61 (v := 3) (by decide) ?_
            refine pa_iload_n hE dX7_book_62 rfl 1 rfl ?_
            refine pa_imul hE dX7_book_63 ?_
            refine pa_iload_n hE dX7_book_64 rfl 2 rfl ?_
            refine pa_iadd hE dX7_book_65 ?_
            obtain ⟨h9, hw⟩ := hw
            refine ps_42 hE h9 dX7_book_66 (fun u10 eu10 => ?_)
            have hw := hw u10 eu10
            refine pa_aload_n hE dX7_book_67 rfl 0 rfl ?_
            refine pg_24_32 hE (pa_m4 153 rfl rfl) dX7_book_68 ?_
            refine pa_aload_n hE dX7_book_71 rfl 0 rfl ?_
            refine pg_24_30 hE (pa_m4 151 rfl rfl) dX7_book_72 ?_
            refine pa_iload_n hE dX7_book_75 rfl 3 rfl ?_
            obtain ⟨h11, hw⟩ := hw
            refine ps_43 hE h11 dX7_book_76 (fun u12 eu12 => ?_)
            have hw := hw u12 eu12
            refine pa_aload_n hE dX7_book_77 rfl 0 rfl ?_
            refine pa_dup hE dX7_book_78 rfl ?_
            refine pg_24_30 hE (pa_m4 151 rfl rfl) dX7_book_79 ?_
            refine pa_iconst hE dX7_book_82 (v := 1) (by decide) ?_
            refine pa_iadd hE dX7_book_83 ?_
            refine pp_24_30 hE (pa_m4 151 rfl rfl) dX7_book_84 (fun u13 eu13 => ?_)
            have hw := hw u13 eu13
            refine pa_aload_n hE dX7_book_87 rfl 0 rfl ?_
            refine pg_24_30 hE (pa_m4 151 rfl rfl) dX7_book_88 ?_
            exact pa_iret hE hr hw rfl dX7_book_91
          · have hw := Eq.mp (if_pos h8) hw
            refine pa_bipush hE dX7_book_50 (v := (-4 : Int32)) (by decide) ?_
            exact pa_iret hE hr hw rfl dX7_book_52
        · have hw := Eq.mp (if_pos h7) hw
          refine pa_bipush hE dX7_book_38 (v := (-2 : Int32)) (by decide) ?_
          exact pa_iret hE hr hw rfl dX7_book_40
      · have hw := Eq.mp (if_pos h5) hw
        refine pa_iconst hE dX7_book_28 (v := (-1 : Int32)) (by decide) ?_
        exact pa_iret hE hr hw rfl dX7_book_29
  · have hw := Eq.mp (if_pos h1) hw
    refine pa_aload_n hE dX7_book_5 rfl 0 rfl ?_
    refine pa_iconst hE dX7_book_6 (v := 0) (by decide) ?_
    refine pp_24_30 hE (pa_m4 151 rfl rfl) dX7_book_7 (fun u14 eu14 => ?_)
    have hw := hw u14 eu14
    refine pa_iconst hE dX7_book_10 (v := 0) (by decide) ?_
    exact pa_iret hE hr hw rfl dX7_book_11
def wp_X7_book (u0 : pa_S) (x1 : Int32) (x2 : Int32) (x3 : Int32) (post : Int32 → pa_S → Prop) : Prop := wb_X7_book_0 u0 x1 x2 x3 post
theorem ct_X7_book (l : Launch) (g : pa_G) (D : va_G) (q : Nat → Nat → Nat) (u0 : pa_S) (x1 : Int32) (x2 : Int32) (x3 : Int32) (post : Int32 → pa_S → Prop)  (hw : wp_X7_book u0 x1 x2 x3 post) : pa_Ct l yX7_book cX7_book 4 (some .int) 4 g D q u0 [.ref (q 24 0), .int x1, .int x2, .int x3] (fun r => some (.int r)) post := pa_met rfl rfl (Nat.le_of_ble_eq_true rfl) rfl (fun p e s m args below meth c A hE hr => tb_X7_book_0 hE hr  hw)
def wb_X7_looked_2 (k2 : Int32 → Prop) (u0 : pa_S) (x1 : Int32) (post : Int32 → Prop) : Prop :=
  (if (pa_I u0 24 0 30) ≤ x1 then post (-5 : Int32) else (vp_in x1 8) ∧ (vp_in (pa_A u0 42 0 x1.toNatClampNeg) 15) ∧ (vp_in x1 8) ∧ (if (pa_A u0 28 0 (pa_A u0 42 0 x1.toNatClampNeg).toNatClampNeg) = (pa_A u0 43 0 x1.toNatClampNeg) then ∀ v6 : Int32, v6 = x1 + 1 → k2 v6 else post x1))
set_option maxRecDepth 100000 in
set_option maxHeartbeats 4000000 in
theorem tb_X7_looked_2 {p : Program} {l : Launch} {e : Env} {s : State} {m : MethodId} {args : Array Value} {below : List Frame} {meth : Method} {c : Code} {A : Nat → Prop} {D : va_G} {g : pa_G} {q : Nat → Nat → Nat} {k2 : Int32 → Prop} {u0 : pa_S} {x1 : Int32} {post : Int32 → Prop} (hE : pa_Fx p s m args meth c A D g 2 cX7_looked RX7) (hr : meth.sig.returnType = (some .int)) (hk2 : ∀ (x1 : Int32), k2 x1 → pa_At p l e (pa_rm 2) s m args below meth c (MQ below (pa_Qc g D q (fun r => some (.int r)) (fun r u => u = u0 ∧ post r) A) args s 0 0 A) A D g 2 0 0 q u0 2 [(0, .ref (q 24 0)), (1, .int x1)] []) (hw : wb_X7_looked_2 k2 u0 x1 post) : pa_At p l e (pa_rm 2) s m args below meth c (MQ below (pa_Qc g D q (fun r => some (.int r)) (fun r u => u = u0 ∧ post r) A) args s 0 0 A) A D g 2 0 0 q u0 2 [(0, .ref (q 24 0)), (1, .int x1)] [] := by
  refine pa_iload_n hE dX7_looked_2 rfl 1 rfl ?_
  refine pa_aload_n hE dX7_looked_3 rfl 0 rfl ?_
  refine pg_24_30 hE (pa_m4 151 rfl rfl) dX7_looked_4 ?_
  refine pa_icmp_ge hE dX7_looked_7 (tgt := 38) (by decide) (fun h1 => ?_) (fun h1 => ?_)
  · have hw := Eq.mp (if_pos h1) hw
    refine pa_bipush hE dX7_looked_38 (v := (-5 : Int32)) (by decide) ?_
    exact pa_iret hE hr ⟨rfl, hw⟩ rfl dX7_looked_40
  · have hw := Eq.mp (if_neg h1) hw
    refine pa_aload_n hE dX7_looked_10 rfl 0 rfl ?_
    refine pg_24_6 hE (pa_m4 127 rfl rfl) dX7_looked_11 ?_
    refine pa_aload_n hE dX7_looked_14 rfl 0 rfl ?_
    refine pg_24_31 hE (pa_m4 152 rfl rfl) dX7_looked_15 ?_
    refine pa_iload_n hE dX7_looked_18 rfl 1 rfl ?_
    obtain ⟨h2, hw⟩ := hw
    refine pl_42 hE h2 dX7_looked_19 ?_
    obtain ⟨h3, hw⟩ := hw
    refine pl_28 hE h3 dX7_looked_20 ?_
    refine pa_aload_n hE dX7_looked_21 rfl 0 rfl ?_
    refine pg_24_32 hE (pa_m4 153 rfl rfl) dX7_looked_22 ?_
    refine pa_iload_n hE dX7_looked_25 rfl 1 rfl ?_
    obtain ⟨h4, hw⟩ := hw
    refine pl_43 hE h4 dX7_looked_26 ?_
    refine pa_icmp_eq hE dX7_looked_27 (tgt := 32) (by decide) (fun h5 => ?_) (fun h5 => ?_)
    · have hw := Eq.mp (if_pos h5) hw
      refine pa_iinc hE dX7_looked_32 (v := 1) 1 rfl (by decide) (by decide) (lvr := [(0, .ref (q 24 0))]) rfl (fun v6 ev6 => ?_)
      have hw := hw v6 ev6
      refine pa_goto hE dX7_looked_35 (tgt := 2) (by decide) ?_
      exact pa_sub [1, 0] rfl (hk2 v6 hw)
    · have hw := Eq.mp (if_neg h5) hw
      refine pa_iload_n hE dX7_looked_30 rfl 1 rfl ?_
      exact pa_iret hE hr ⟨rfl, hw⟩ rfl dX7_looked_31
def wl_X7_looked_2 (post : Int32 → Prop) (u0 : pa_S) : Nat → Int32 → Prop
  | 0, _ => False
  | n + 1, x1 => wb_X7_looked_2 (fun x1 => wl_X7_looked_2 post u0 n x1) u0 x1 post
set_option maxRecDepth 100000 in
set_option maxHeartbeats 4000000 in
theorem tl_X7_looked_2 {p : Program} {l : Launch} {e : Env} {s : State} {m : MethodId} {args : Array Value} {below : List Frame} {meth : Method} {c : Code} {A : Nat → Prop} {D : va_G} {g : pa_G} {q : Nat → Nat → Nat} {u0 : pa_S} {post : Int32 → Prop} (hE : pa_Fx p s m args meth c A D g 2 cX7_looked RX7) (hr : meth.sig.returnType = (some .int)) : ∀ (n : Nat) (x1 : Int32), wl_X7_looked_2 post u0 n x1 → pa_At p l e (pa_rm 2) s m args below meth c (MQ below (pa_Qc g D q (fun r => some (.int r)) (fun r u => u = u0 ∧ post r) A) args s 0 0 A) A D g 2 0 0 q u0 2 [(0, .ref (q 24 0)), (1, .int x1)] []
  | 0, _, hw => absurd hw (by simp only [wl_X7_looked_2]; exact fun z => z)
  | n + 1, x1, hw => tb_X7_looked_2 hE hr (fun x1  hw1 => tl_X7_looked_2 hE hr  n x1  hw1) hw
def wb_X7_looked_0 (u0 : pa_S) (post : Int32 → Prop) : Prop :=
  wl_X7_looked_2 post u0 5000 0
set_option maxRecDepth 100000 in
set_option maxHeartbeats 4000000 in
theorem tb_X7_looked_0 {p : Program} {l : Launch} {e : Env} {s : State} {m : MethodId} {args : Array Value} {below : List Frame} {meth : Method} {c : Code} {A : Nat → Prop} {D : va_G} {g : pa_G} {q : Nat → Nat → Nat} {u0 : pa_S} {post : Int32 → Prop} (hE : pa_Fx p s m args meth c A D g 2 cX7_looked RX7) (hr : meth.sig.returnType = (some .int)) (hw : wb_X7_looked_0 u0 post) : pa_At p l e (pa_rm 2) s m args below meth c (MQ below (pa_Qc g D q (fun r => some (.int r)) (fun r u => u = u0 ∧ post r) A) args s 0 0 A) A D g 2 0 0 q u0 0 [(0, .ref (q 24 0))] [] := by
  refine pa_iconst hE dX7_looked_0 (v := 0) (by decide) ?_
  refine pa_istore_n hE dX7_looked_1 rfl (by decide) (lvr := [(0, .ref (q 24 0))]) rfl ?_
  exact pa_sub [1, 0] rfl (tl_X7_looked_2 hE hr 5000 0 hw)
def wp_X7_looked (u0 : pa_S) (post : Int32 → Prop) : Prop := wb_X7_looked_0 u0 post
theorem ct_X7_looked (l : Launch) (g : pa_G) (D : va_G) (q : Nat → Nat → Nat) (u0 : pa_S) (post : Int32 → Prop)  (hw : wp_X7_looked u0 post) : pa_Ct l yX7_looked cX7_looked 2 (some .int) 2 g D q u0 [.ref (q 24 0)] (fun r => some (.int r)) (fun r u => u = u0 ∧ post r) := pa_met rfl rfl (Nat.le_of_ble_eq_true rfl) rfl (fun p e s m args below meth c A hE hr => tb_X7_looked_0 hE hr  hw)
def wb_X7_layPairs_19 (k7 : pa_S → Int32 → Prop) (k19 : pa_S → Int32 → Int32 → Prop) (u0 : pa_S) (x1 : Int32) (x2 : Int32) (post : pa_S → Prop) : Prop :=
  (if (pa_I u0 24 0 0) ≤ x2 then ∀ v5 : Int32, v5 = x1 + 1 → k7 u0 v5 else (vp_in (pa_I u0 24 0 35) 10) ∧ ∀ u7 : pa_S, u7 = pa_sA u0 44 0 (upd (pa_A u0 44 0) (pa_I u0 24 0 35).toNatClampNeg x1) → (vp_in (pa_I u7 24 0 35) 10) ∧ ∀ u9 : pa_S, u9 = pa_sA u7 45 0 (upd (pa_A u7 45 0) (pa_I u7 24 0 35).toNatClampNeg x2) → ∀ u10 : pa_S, u10 = pa_sI u9 24 0 35 ((pa_I u9 24 0 35) + 1) → ∀ v11 : Int32, v11 = x2 + 1 → k19 u10 x1 v11)
set_option maxRecDepth 100000 in
set_option maxHeartbeats 4000000 in
theorem tb_X7_layPairs_19 {p : Program} {l : Launch} {e : Env} {s : State} {m : MethodId} {args : Array Value} {below : List Frame} {meth : Method} {c : Code} {A : Nat → Prop} {D : va_G} {g : pa_G} {q : Nat → Nat → Nat} {k7 : pa_S → Int32 → Prop} {k19 : pa_S → Int32 → Int32 → Prop} {u0 : pa_S} {x1 : Int32} {x2 : Int32} {post : pa_S → Prop} (hE : pa_Fx p s m args meth c A D g 3 cX7_layPairs RX7) (hr : meth.sig.returnType = none) (hk7 : ∀ (u : pa_S)  (x1 : Int32), k7 u x1 → pa_At p l e (pa_rm 2) s m args below meth c (MQ below (pa_Qc g D q (fun (_ : Unit) => none) (fun (_ : Unit) u => post u) A) args s 0 0 A) A D g 3 0 0 q u 7 [(0, .ref (q 24 0)), (1, .int x1)] []) (hk19 : ∀ (u : pa_S)  (x1 : Int32) (x2 : Int32), k19 u x1 x2 → pa_At p l e (pa_rm 2) s m args below meth c (MQ below (pa_Qc g D q (fun (_ : Unit) => none) (fun (_ : Unit) u => post u) A) args s 0 0 A) A D g 3 0 0 q u 19 [(0, .ref (q 24 0)), (1, .int x1), (2, .int x2)] []) (hw : wb_X7_layPairs_19 k7 k19 u0 x1 x2 post) : pa_At p l e (pa_rm 2) s m args below meth c (MQ below (pa_Qc g D q (fun (_ : Unit) => none) (fun (_ : Unit) u => post u) A) args s 0 0 A) A D g 3 0 0 q u0 19 [(0, .ref (q 24 0)), (1, .int x1), (2, .int x2)] [] := by
  refine pa_iload_n hE dX7_layPairs_19 rfl 2 rfl ?_
  refine pa_aload_n hE dX7_layPairs_20 rfl 0 rfl ?_
  refine pg_24_0 hE (pa_m4 121 rfl rfl) dX7_layPairs_21 ?_
  refine pa_icmp_ge hE dX7_layPairs_24 (tgt := 63) (by decide) (fun h4 => ?_) (fun h4 => ?_)
  · have hw := Eq.mp (if_pos h4) hw
    refine pa_iinc hE dX7_layPairs_63 (v := 1) 1 rfl (by decide) (by decide) (lvr := [(0, .ref (q 24 0)), (2, .int x2)]) rfl (fun v5 ev5 => ?_)
    have hw := hw v5 ev5
    refine pa_goto hE dX7_layPairs_66 (tgt := 7) (by decide) ?_
    exact pa_sub [1, 0] rfl (hk7 u0 v5 hw)
  · have hw := Eq.mp (if_neg h4) hw
    refine pa_aload_n hE dX7_layPairs_27 rfl 0 rfl ?_
    refine pg_24_33 hE (pa_m4 154 rfl rfl) dX7_layPairs_28 ?_
    refine pa_aload_n hE dX7_layPairs_31 rfl 0 rfl ?_
    refine pg_24_35 hE (pa_m4 156 rfl rfl) dX7_layPairs_32 ?_
    refine pa_iload_n hE dX7_layPairs_35 rfl 1 rfl ?_
    obtain ⟨h6, hw⟩ := hw
    refine ps_44 hE h6 dX7_layPairs_36 (fun u7 eu7 => ?_)
    have hw := hw u7 eu7
    refine pa_aload_n hE dX7_layPairs_37 rfl 0 rfl ?_
    refine pg_24_34 hE (pa_m4 155 rfl rfl) dX7_layPairs_38 ?_
    refine pa_aload_n hE dX7_layPairs_41 rfl 0 rfl ?_
    refine pg_24_35 hE (pa_m4 156 rfl rfl) dX7_layPairs_42 ?_
    refine pa_iload_n hE dX7_layPairs_45 rfl 2 rfl ?_
    obtain ⟨h8, hw⟩ := hw
    refine ps_45 hE h8 dX7_layPairs_46 (fun u9 eu9 => ?_)
    have hw := hw u9 eu9
    refine pa_aload_n hE dX7_layPairs_47 rfl 0 rfl ?_
    refine pa_dup hE dX7_layPairs_48 rfl ?_
    refine pg_24_35 hE (pa_m4 156 rfl rfl) dX7_layPairs_49 ?_
    refine pa_iconst hE dX7_layPairs_52 (v := 1) (by decide) ?_
    refine pa_iadd hE dX7_layPairs_53 ?_
    refine pp_24_35 hE (pa_m4 156 rfl rfl) dX7_layPairs_54 (fun u10 eu10 => ?_)
    have hw := hw u10 eu10
    refine pa_iinc hE dX7_layPairs_57 (v := 1) 2 rfl (by decide) (by decide) (lvr := [(0, .ref (q 24 0)), (1, .int x1)]) rfl (fun v11 ev11 => ?_)
    have hw := hw v11 ev11
    refine pa_goto hE dX7_layPairs_60 (tgt := 19) (by decide) ?_
    exact pa_sub [1, 2, 0] rfl (hk19 u10 x1 v11 hw)
def wl_X7_layPairs_19 (k7 : pa_S → Int32 → Prop) (post : pa_S → Prop) : Nat → pa_S → Int32 → Int32 → Prop
  | 0, _, _, _ => False
  | n + 1, u0, x1, x2 => wb_X7_layPairs_19 k7 (fun u0 x1 x2 => wl_X7_layPairs_19 k7 post n u0 x1 x2) u0 x1 x2 post
set_option maxRecDepth 100000 in
set_option maxHeartbeats 4000000 in
theorem tl_X7_layPairs_19 {p : Program} {l : Launch} {e : Env} {s : State} {m : MethodId} {args : Array Value} {below : List Frame} {meth : Method} {c : Code} {A : Nat → Prop} {D : va_G} {g : pa_G} {q : Nat → Nat → Nat} {k7 : pa_S → Int32 → Prop} {post : pa_S → Prop} (hE : pa_Fx p s m args meth c A D g 3 cX7_layPairs RX7) (hr : meth.sig.returnType = none) (hk7 : ∀ (u : pa_S)  (x1 : Int32), k7 u x1 → pa_At p l e (pa_rm 2) s m args below meth c (MQ below (pa_Qc g D q (fun (_ : Unit) => none) (fun (_ : Unit) u => post u) A) args s 0 0 A) A D g 3 0 0 q u 7 [(0, .ref (q 24 0)), (1, .int x1)] []) : ∀ (n : Nat) (u0 : pa_S) (x1 : Int32) (x2 : Int32), wl_X7_layPairs_19 k7 post n u0 x1 x2 → pa_At p l e (pa_rm 2) s m args below meth c (MQ below (pa_Qc g D q (fun (_ : Unit) => none) (fun (_ : Unit) u => post u) A) args s 0 0 A) A D g 3 0 0 q u0 19 [(0, .ref (q 24 0)), (1, .int x1), (2, .int x2)] []
  | 0, _, _, _, hw => absurd hw (by simp only [wl_X7_layPairs_19]; exact fun z => z)
  | n + 1, u0, x1, x2, hw => tb_X7_layPairs_19 hE hr hk7 (fun u0 x1 x2  hw1 => tl_X7_layPairs_19 hE hr hk7 n u0 x1 x2  hw1) hw
def wb_X7_layPairs_7 (k7 : pa_S → Int32 → Prop) (u0 : pa_S) (x1 : Int32) (post : pa_S → Prop) : Prop :=
  (if (pa_I u0 24 0 0) ≤ x1 then post u0 else ∀ v3 : Int32, v3 = (x1 + 1) → wl_X7_layPairs_19 k7 post 5000 u0 x1 v3)
set_option maxRecDepth 100000 in
set_option maxHeartbeats 4000000 in
theorem tb_X7_layPairs_7 {p : Program} {l : Launch} {e : Env} {s : State} {m : MethodId} {args : Array Value} {below : List Frame} {meth : Method} {c : Code} {A : Nat → Prop} {D : va_G} {g : pa_G} {q : Nat → Nat → Nat} {k7 : pa_S → Int32 → Prop} {u0 : pa_S} {x1 : Int32} {post : pa_S → Prop} (hE : pa_Fx p s m args meth c A D g 3 cX7_layPairs RX7) (hr : meth.sig.returnType = none) (hk7 : ∀ (u : pa_S)  (x1 : Int32), k7 u x1 → pa_At p l e (pa_rm 2) s m args below meth c (MQ below (pa_Qc g D q (fun (_ : Unit) => none) (fun (_ : Unit) u => post u) A) args s 0 0 A) A D g 3 0 0 q u 7 [(0, .ref (q 24 0)), (1, .int x1)] []) (hw : wb_X7_layPairs_7 k7 u0 x1 post) : pa_At p l e (pa_rm 2) s m args below meth c (MQ below (pa_Qc g D q (fun (_ : Unit) => none) (fun (_ : Unit) u => post u) A) args s 0 0 A) A D g 3 0 0 q u0 7 [(0, .ref (q 24 0)), (1, .int x1)] [] := by
  refine pa_iload_n hE dX7_layPairs_7 rfl 1 rfl ?_
  refine pa_aload_n hE dX7_layPairs_8 rfl 0 rfl ?_
  refine pg_24_0 hE (pa_m4 121 rfl rfl) dX7_layPairs_9 ?_
  refine pa_icmp_ge hE dX7_layPairs_12 (tgt := 69) (by decide) (fun h2 => ?_) (fun h2 => ?_)
  · have hw := Eq.mp (if_pos h2) hw
    exact pa_vret (r := ()) hE hr hw rfl dX7_layPairs_69
  · have hw := Eq.mp (if_neg h2) hw
    refine pa_iload_n hE dX7_layPairs_15 rfl 1 rfl ?_
    refine pa_iconst hE dX7_layPairs_16 (v := 1) (by decide) ?_
    refine pa_iadd hE dX7_layPairs_17 ?_
    refine pa_namei (fun v3 ev3 => ?_)
    have hw := hw v3 ev3
    refine pa_istore_n hE dX7_layPairs_18 rfl (by decide) (lvr := [(0, .ref (q 24 0)), (1, .int x1)]) rfl ?_
    exact pa_sub [1, 2, 0] rfl (tl_X7_layPairs_19 hE hr hk7 5000 u0 x1 v3 hw)
def wl_X7_layPairs_7 (post : pa_S → Prop) : Nat → pa_S → Int32 → Prop
  | 0, _, _ => False
  | n + 1, u0, x1 => wb_X7_layPairs_7 (fun u0 x1 => wl_X7_layPairs_7 post n u0 x1) u0 x1 post
set_option maxRecDepth 100000 in
set_option maxHeartbeats 4000000 in
theorem tl_X7_layPairs_7 {p : Program} {l : Launch} {e : Env} {s : State} {m : MethodId} {args : Array Value} {below : List Frame} {meth : Method} {c : Code} {A : Nat → Prop} {D : va_G} {g : pa_G} {q : Nat → Nat → Nat} {post : pa_S → Prop} (hE : pa_Fx p s m args meth c A D g 3 cX7_layPairs RX7) (hr : meth.sig.returnType = none) : ∀ (n : Nat) (u0 : pa_S) (x1 : Int32), wl_X7_layPairs_7 post n u0 x1 → pa_At p l e (pa_rm 2) s m args below meth c (MQ below (pa_Qc g D q (fun (_ : Unit) => none) (fun (_ : Unit) u => post u) A) args s 0 0 A) A D g 3 0 0 q u0 7 [(0, .ref (q 24 0)), (1, .int x1)] []
  | 0, _, _, hw => absurd hw (by simp only [wl_X7_layPairs_7]; exact fun z => z)
  | n + 1, u0, x1, hw => tb_X7_layPairs_7 hE hr (fun u0 x1  hw1 => tl_X7_layPairs_7 hE hr  n u0 x1  hw1) hw
def wb_X7_layPairs_0 (u0 : pa_S) (post : pa_S → Prop) : Prop :=
  ∀ u1 : pa_S, u1 = pa_sI u0 24 0 35 0 → wl_X7_layPairs_7 post 5000 u1 0
set_option maxRecDepth 100000 in
set_option maxHeartbeats 4000000 in
theorem tb_X7_layPairs_0 {p : Program} {l : Launch} {e : Env} {s : State} {m : MethodId} {args : Array Value} {below : List Frame} {meth : Method} {c : Code} {A : Nat → Prop} {D : va_G} {g : pa_G} {q : Nat → Nat → Nat} {u0 : pa_S} {post : pa_S → Prop} (hE : pa_Fx p s m args meth c A D g 3 cX7_layPairs RX7) (hr : meth.sig.returnType = none) (hw : wb_X7_layPairs_0 u0 post) : pa_At p l e (pa_rm 2) s m args below meth c (MQ below (pa_Qc g D q (fun (_ : Unit) => none) (fun (_ : Unit) u => post u) A) args s 0 0 A) A D g 3 0 0 q u0 0 [(0, .ref (q 24 0))] [] := by
  refine pa_aload_n hE dX7_layPairs_0 rfl 0 rfl ?_
  refine pa_iconst hE dX7_layPairs_1 (v := 0) (by decide) ?_
  refine pp_24_35 hE (pa_m4 156 rfl rfl) dX7_layPairs_2 (fun u1 eu1 => ?_)
  have hw := hw u1 eu1
  refine pa_iconst hE dX7_layPairs_5 (v := 0) (by decide) ?_
  refine pa_istore_n hE dX7_layPairs_6 rfl (by decide) (lvr := [(0, .ref (q 24 0))]) rfl ?_
  exact pa_sub [1, 0] rfl (tl_X7_layPairs_7 hE hr 5000 u1 0 hw)
def wp_X7_layPairs (u0 : pa_S) (post : pa_S → Prop) : Prop := wb_X7_layPairs_0 u0 post
theorem ct_X7_layPairs (l : Launch) (g : pa_G) (D : va_G) (q : Nat → Nat → Nat) (u0 : pa_S) (post : pa_S → Prop)  (hw : wp_X7_layPairs u0 post) : pa_Ct l yX7_layPairs cX7_layPairs 3 none 2 g D q u0 [.ref (q 24 0)] (fun (_ : Unit) => none) (fun (_ : Unit) u => post u) := pa_met rfl rfl (Nat.le_of_ble_eq_true rfl) rfl (fun p e s m args below meth c A hE hr => tb_X7_layPairs_0 hE hr  hw)
def wb_X7_pairOf_8 (k8 : Int32 → Int32 → Int32 → Int32 → Prop) (u0 : pa_S) (x1 : Int32) (x2 : Int32) (x4 : Int32) (x5 : Int32) (post : Int32 → Prop) : Prop :=
  (if x2 ≤ x5 then (¬ x4 = 0) ∧ (¬ (pa_I u0 24 0 35) = 0) ∧ post (pa_rem (x1 / x4) (pa_I u0 24 0 35)) else ∀ v5 : Int32, v5 = (x4 * (pa_I u0 24 0 35)) → ∀ v6 : Int32, v6 = x5 + 1 → k8 x1 x2 v5 v6)
set_option maxRecDepth 100000 in
set_option maxHeartbeats 4000000 in
theorem tb_X7_pairOf_8 {p : Program} {l : Launch} {e : Env} {s : State} {m : MethodId} {args : Array Value} {below : List Frame} {meth : Method} {c : Code} {A : Nat → Prop} {D : va_G} {g : pa_G} {q : Nat → Nat → Nat} {k8 : Int32 → Int32 → Int32 → Int32 → Prop} {u0 : pa_S} {x1 : Int32} {x2 : Int32} {x4 : Int32} {x5 : Int32} {post : Int32 → Prop} (hE : pa_Fx p s m args meth c A D g 6 cX7_pairOf RX7) (hr : meth.sig.returnType = (some .int)) (hk8 : ∀ (x1 : Int32) (x2 : Int32) (x4 : Int32) (x5 : Int32), k8 x1 x2 x4 x5 → pa_At p l e (pa_rm 2) s m args below meth c (MQ below (pa_Qc g D q (fun r => some (.int r)) (fun r u => u = u0 ∧ post r) A) args s 0 0 A) A D g 6 0 0 q u0 8 [(0, .ref (q 24 0)), (1, .int x1), (2, .int x2), (4, .int x4), (5, .int x5)] []) (hw : wb_X7_pairOf_8 k8 u0 x1 x2 x4 x5 post) : pa_At p l e (pa_rm 2) s m args below meth c (MQ below (pa_Qc g D q (fun r => some (.int r)) (fun r u => u = u0 ∧ post r) A) args s 0 0 A) A D g 6 0 0 q u0 8 [(0, .ref (q 24 0)), (1, .int x1), (2, .int x2), (4, .int x4), (5, .int x5)] [] := by
  refine pa_iload hE dX7_pairOf_8 4 rfl ?_
  refine pa_iload_n hE dX7_pairOf_10 rfl 2 rfl ?_
  refine pa_icmp_ge hE dX7_pairOf_11 (tgt := 29) (by decide) (fun h2 => ?_) (fun h2 => ?_)
  · have hw := Eq.mp (if_pos h2) hw
    refine pa_iload_n hE dX7_pairOf_29 rfl 1 rfl ?_
    refine pa_iload hE dX7_pairOf_30 3 rfl ?_
    obtain ⟨h3, hw⟩ := hw
    refine pa_idiv hE dX7_pairOf_32 h3 ?_
    refine pa_aload_n hE dX7_pairOf_33 rfl 0 rfl ?_
    refine pg_24_35 hE (pa_m4 156 rfl rfl) dX7_pairOf_34 ?_
    obtain ⟨h4, hw⟩ := hw
    refine pa_irem hE dX7_pairOf_37 h4 ?_
    exact pa_iret hE hr ⟨rfl, hw⟩ rfl dX7_pairOf_38
  · have hw := Eq.mp (if_neg h2) hw
    refine pa_iload hE dX7_pairOf_14 3 rfl ?_
    refine pa_aload_n hE dX7_pairOf_16 rfl 0 rfl ?_
    refine pg_24_35 hE (pa_m4 156 rfl rfl) dX7_pairOf_17 ?_
    refine pa_imul hE dX7_pairOf_20 ?_
    refine pa_namei (fun v5 ev5 => ?_)
    have hw := hw v5 ev5
    refine pa_istore hE dX7_pairOf_21 (by decide) (lvr := [(0, .ref (q 24 0)), (1, .int x1), (2, .int x2), (5, .int x5)]) rfl ?_
    refine pa_iinc hE dX7_pairOf_23 (v := 1) 4 rfl (by decide) (by decide) (lvr := [(4, .int v5), (0, .ref (q 24 0)), (1, .int x1), (2, .int x2)]) rfl (fun v6 ev6 => ?_)
    have hw := hw v6 ev6
    refine pa_goto hE dX7_pairOf_26 (tgt := 8) (by decide) ?_
    exact pa_sub [2, 3, 4, 1, 0] rfl (hk8 x1 x2 v5 v6 hw)
def wl_X7_pairOf_8 (post : Int32 → Prop) (u0 : pa_S) : Nat → Int32 → Int32 → Int32 → Int32 → Prop
  | 0, _, _, _, _ => False
  | n + 1, x1, x2, x4, x5 => wb_X7_pairOf_8 (fun x1 x2 x4 x5 => wl_X7_pairOf_8 post u0 n x1 x2 x4 x5) u0 x1 x2 x4 x5 post
set_option maxRecDepth 100000 in
set_option maxHeartbeats 4000000 in
theorem tl_X7_pairOf_8 {p : Program} {l : Launch} {e : Env} {s : State} {m : MethodId} {args : Array Value} {below : List Frame} {meth : Method} {c : Code} {A : Nat → Prop} {D : va_G} {g : pa_G} {q : Nat → Nat → Nat} {u0 : pa_S} {post : Int32 → Prop} (hE : pa_Fx p s m args meth c A D g 6 cX7_pairOf RX7) (hr : meth.sig.returnType = (some .int)) : ∀ (n : Nat) (x1 : Int32) (x2 : Int32) (x4 : Int32) (x5 : Int32), wl_X7_pairOf_8 post u0 n x1 x2 x4 x5 → pa_At p l e (pa_rm 2) s m args below meth c (MQ below (pa_Qc g D q (fun r => some (.int r)) (fun r u => u = u0 ∧ post r) A) args s 0 0 A) A D g 6 0 0 q u0 8 [(0, .ref (q 24 0)), (1, .int x1), (2, .int x2), (4, .int x4), (5, .int x5)] []
  | 0, _, _, _, _, hw => absurd hw (by simp only [wl_X7_pairOf_8]; exact fun z => z)
  | n + 1, x1, x2, x4, x5, hw => tb_X7_pairOf_8 hE hr (fun x1 x2 x4 x5  hw1 => tl_X7_pairOf_8 hE hr  n x1 x2 x4 x5  hw1) hw
def wb_X7_pairOf_0 (u0 : pa_S) (x1 : Int32) (x2 : Int32) (x3 : Int32) (post : Int32 → Prop) : Prop :=
  ∀ v1 : Int32, v1 = (x3 + 1) → wl_X7_pairOf_8 post u0 5000 x1 x2 1 v1
set_option maxRecDepth 100000 in
set_option maxHeartbeats 4000000 in
theorem tb_X7_pairOf_0 {p : Program} {l : Launch} {e : Env} {s : State} {m : MethodId} {args : Array Value} {below : List Frame} {meth : Method} {c : Code} {A : Nat → Prop} {D : va_G} {g : pa_G} {q : Nat → Nat → Nat} {u0 : pa_S} {x1 : Int32} {x2 : Int32} {x3 : Int32} {post : Int32 → Prop} (hE : pa_Fx p s m args meth c A D g 6 cX7_pairOf RX7) (hr : meth.sig.returnType = (some .int)) (hw : wb_X7_pairOf_0 u0 x1 x2 x3 post) : pa_At p l e (pa_rm 2) s m args below meth c (MQ below (pa_Qc g D q (fun r => some (.int r)) (fun r u => u = u0 ∧ post r) A) args s 0 0 A) A D g 6 0 0 q u0 0 [(0, .ref (q 24 0)), (1, .int x1), (2, .int x2), (3, .int x3)] [] := by
  refine pa_iconst hE dX7_pairOf_0 (v := 1) (by decide) ?_
  refine pa_istore hE dX7_pairOf_1 (by decide) (lvr := [(0, .ref (q 24 0)), (1, .int x1), (2, .int x2), (3, .int x3)]) rfl ?_
  refine pa_iload_n hE dX7_pairOf_3 rfl 4 rfl ?_
  refine pa_iconst hE dX7_pairOf_4 (v := 1) (by decide) ?_
  refine pa_iadd hE dX7_pairOf_5 ?_
  refine pa_namei (fun v1 ev1 => ?_)
  have hw := hw v1 ev1
  refine pa_istore hE dX7_pairOf_6 (by decide) (lvr := [(4, .int 1), (0, .ref (q 24 0)), (1, .int x1), (2, .int x2), (3, .int x3)]) rfl ?_
  exact pa_sub [2, 3, 4, 1, 0] rfl (tl_X7_pairOf_8 hE hr 5000 x1 x2 1 v1 hw)
def wp_X7_pairOf (u0 : pa_S) (x1 : Int32) (x2 : Int32) (x3 : Int32) (post : Int32 → Prop) : Prop := wb_X7_pairOf_0 u0 x1 x2 x3 post
theorem ct_X7_pairOf (l : Launch) (g : pa_G) (D : va_G) (q : Nat → Nat → Nat) (u0 : pa_S) (x1 : Int32) (x2 : Int32) (x3 : Int32) (post : Int32 → Prop)  (hw : wp_X7_pairOf u0 x1 x2 x3 post) : pa_Ct l yX7_pairOf cX7_pairOf 6 (some .int) 2 g D q u0 [.ref (q 24 0), .int x1, .int x2, .int x3] (fun r => some (.int r)) (fun r u => u = u0 ∧ post r) := pa_met rfl rfl (Nat.le_of_ble_eq_true rfl) rfl (fun p e s m args below meth c A hE hr => tb_X7_pairOf_0 hE hr  hw)
def wb_X7_isBookBy_60 (u0 : pa_S) (y0 : Int32) (post : Int32 → pa_S → Prop) : Prop :=
  (wp_X7_putBack u0 (fun (u7 : pa_S) => (y0 &&& 1 = y0) ∧ post y0 u7))
set_option maxRecDepth 100000 in
set_option maxHeartbeats 4000000 in
theorem tb_X7_isBookBy_60 {p : Program} {l : Launch} {e : Env} {s : State} {m : MethodId} {args : Array Value} {below : List Frame} {meth : Method} {c : Code} {A : Nat → Prop} {D : va_G} {g : pa_G} {q : Nat → Nat → Nat} {u0 : pa_S} {y0 : Int32} {post : Int32 → pa_S → Prop} (hE : pa_Fx p s m args meth c A D g 4 cX7_isBookBy RX7) (hr : meth.sig.returnType = (some .boolean)) (hw : wb_X7_isBookBy_60 u0 y0 post) : pa_At p l e (pa_rm 6) s m args below meth c (MQ below (pa_Qc g D q (fun r => some (.int r)) post A) args s 0 0 A) A D g 4 0 0 q u0 60 [(0, .ref (q 24 0))] [.int y0] := by
  refine pa_istore_n hE dX7_isBookBy_60 rfl (by decide) (lvr := [(0, .ref (q 24 0))]) rfl ?_
  refine pa_aload_n hE dX7_isBookBy_61 rfl 1 rfl ?_
  refine pa_callVv hE (ct_X7_putBack l g D q u0 _ hw) cv_RX7_347 pa_in24 rfl rfl rfl (pa_hR (by omega) (by decide)) rfl (Nat.le_of_ble_eq_true rfl) dX7_isBookBy_62 (fun u7 hw => ?_)
  refine pa_iload_n hE dX7_isBookBy_65 rfl 0 rfl ?_
  obtain ⟨h8, hw⟩ := hw
  exact pa_zret hE hr (congrArg Value.int h8) hw rfl dX7_isBookBy_66
def wb_X7_isBookBy_6 (k6 : pa_S → Int32 → Int32 → Int32 → Prop) (u0 : pa_S) (x1 : Int32) (x2 : Int32) (x3 : Int32) (post : Int32 → pa_S → Prop) : Prop :=
  (if x2 ≤ x3 then (wp_X7_looked u0 (fun (r4 : Int32) => (if r4 = (-5 : Int32) then wb_X7_isBookBy_60 u0 1 post else wb_X7_isBookBy_60 u0 0 post))) else (wp_X7_pairOf u0 x1 x2 x3 (fun (r9 : Int32) => (vp_in r9 10) ∧ (wp_X7_pairOf u0 x1 x2 x3 (fun (r11 : Int32) => (vp_in r11 10) ∧ (wp_X7_prints u0 (pa_A u0 44 0 r9.toNatClampNeg) (pa_A u0 45 0 r11.toNatClampNeg) (fun (r13 : Int32) (u14 : pa_S) => ∀ v15 : Int32, v15 = x3 + 1 → k6 u14 x1 x2 v15)))))))
set_option maxRecDepth 100000 in
set_option maxHeartbeats 4000000 in
theorem tb_X7_isBookBy_6 {p : Program} {l : Launch} {e : Env} {s : State} {m : MethodId} {args : Array Value} {below : List Frame} {meth : Method} {c : Code} {A : Nat → Prop} {D : va_G} {g : pa_G} {q : Nat → Nat → Nat} {k6 : pa_S → Int32 → Int32 → Int32 → Prop} {u0 : pa_S} {x1 : Int32} {x2 : Int32} {x3 : Int32} {post : Int32 → pa_S → Prop} (hE : pa_Fx p s m args meth c A D g 4 cX7_isBookBy RX7) (hr : meth.sig.returnType = (some .boolean)) (hk6 : ∀ (u : pa_S)  (x1 : Int32) (x2 : Int32) (x3 : Int32), k6 u x1 x2 x3 → pa_At p l e (pa_rm 6) s m args below meth c (MQ below (pa_Qc g D q (fun r => some (.int r)) post A) args s 0 0 A) A D g 4 0 0 q u 6 [(0, .ref (q 24 0)), (1, .int x1), (2, .int x2), (3, .int x3)] []) (hw : wb_X7_isBookBy_6 k6 u0 x1 x2 x3 post) : pa_At p l e (pa_rm 6) s m args below meth c (MQ below (pa_Qc g D q (fun r => some (.int r)) post A) args s 0 0 A) A D g 4 0 0 q u0 6 [(0, .ref (q 24 0)), (1, .int x1), (2, .int x2), (3, .int x3)] [] := by
  refine pa_iload_n hE dX7_isBookBy_6 rfl 3 rfl ?_
  refine pa_iload_n hE dX7_isBookBy_7 rfl 2 rfl ?_
  refine pa_icmp_ge hE dX7_isBookBy_8 (tgt := 46) (by decide) (fun h3 => ?_) (fun h3 => ?_)
  · have hw := Eq.mp (if_pos h3) hw
    refine pa_aload_n hE dX7_isBookBy_46 rfl 0 rfl ?_
    refine pa_callVri hE (ct_X7_looked l g D q u0 _ hw) cv_RX7_359 pa_in24 rfl rfl rfl (pa_hR (by omega) (by decide)) rfl (Nat.le_of_ble_eq_true rfl) dX7_isBookBy_47 (fun r4 hw => ?_)
    refine pa_bipush hE dX7_isBookBy_50 (v := (-5 : Int32)) (by decide) ?_
    refine pa_icmp_ne hE dX7_isBookBy_52 (tgt := 59) (by decide) (fun h5 => ?_) (fun h5 => ?_)
    · have hw := Eq.mp (if_neg h5) hw
      refine pa_iconst hE dX7_isBookBy_59 (v := 0) (by decide) ?_
      exact pa_sub [0] rfl (tb_X7_isBookBy_60 hE hr hw)
    · have hw := Eq.mp (if_pos h5) hw
      refine pa_iconst hE dX7_isBookBy_55 (v := 1) (by decide) ?_
      refine pa_goto hE dX7_isBookBy_56 (tgt := 60) (by decide) ?_
      exact pa_sub [0] rfl (tb_X7_isBookBy_60 hE hr hw)
  · have hw := Eq.mp (if_neg h3) hw
    refine pa_aload_n hE dX7_isBookBy_11 rfl 0 rfl ?_
    refine pa_aload_n hE dX7_isBookBy_12 rfl 0 rfl ?_
    refine pg_24_33 hE (pa_m4 154 rfl rfl) dX7_isBookBy_13 ?_
    refine pa_aload_n hE dX7_isBookBy_16 rfl 0 rfl ?_
    refine pa_iload_n hE dX7_isBookBy_17 rfl 1 rfl ?_
    refine pa_iload_n hE dX7_isBookBy_18 rfl 2 rfl ?_
    refine pa_iload_n hE dX7_isBookBy_19 rfl 3 rfl ?_
    refine pa_callVri hE (ct_X7_pairOf l g D q u0 x1 x2 x3 _ hw) cv_RX7_356 pa_in24 rfl rfl rfl (pa_hR (by omega) (by decide)) rfl (Nat.le_of_ble_eq_true rfl) dX7_isBookBy_20 (fun r9 hw => ?_)
    obtain ⟨h10, hw⟩ := hw
    refine pl_44 hE h10 dX7_isBookBy_23 ?_
    refine pa_aload_n hE dX7_isBookBy_24 rfl 0 rfl ?_
    refine pg_24_34 hE (pa_m4 155 rfl rfl) dX7_isBookBy_25 ?_
    refine pa_aload_n hE dX7_isBookBy_28 rfl 0 rfl ?_
    refine pa_iload_n hE dX7_isBookBy_29 rfl 1 rfl ?_
    refine pa_iload_n hE dX7_isBookBy_30 rfl 2 rfl ?_
    refine pa_iload_n hE dX7_isBookBy_31 rfl 3 rfl ?_
    refine pa_callVri hE (ct_X7_pairOf l g D q u0 x1 x2 x3 _ hw) cv_RX7_356 pa_in24 rfl rfl rfl (pa_hR (by omega) (by decide)) rfl (Nat.le_of_ble_eq_true rfl) dX7_isBookBy_32 (fun r11 hw => ?_)
    obtain ⟨h12, hw⟩ := hw
    refine pl_45 hE h12 dX7_isBookBy_35 ?_
    refine pa_callVi hE (ct_X7_prints l g D q u0 (pa_A u0 44 0 r9.toNatClampNeg) (pa_A u0 45 0 r11.toNatClampNeg) _ hw) cv_RX7_335 pa_in24 rfl rfl rfl (pa_hR (by omega) (by decide)) rfl (Nat.le_of_ble_eq_true rfl) dX7_isBookBy_36 (fun r13 u14 hw => ?_)
    refine pa_pop hE dX7_isBookBy_39 rfl ?_
    refine pa_iinc hE dX7_isBookBy_40 (v := 1) 3 rfl (by decide) (by decide) (lvr := [(0, .ref (q 24 0)), (1, .int x1), (2, .int x2)]) rfl (fun v15 ev15 => ?_)
    have hw := hw v15 ev15
    refine pa_goto hE dX7_isBookBy_43 (tgt := 6) (by decide) ?_
    exact pa_sub [1, 2, 3, 0] rfl (hk6 u14 x1 x2 v15 hw)
def wl_X7_isBookBy_6 (post : Int32 → pa_S → Prop) : Nat → pa_S → Int32 → Int32 → Int32 → Prop
  | 0, _, _, _, _ => False
  | n + 1, u0, x1, x2, x3 => wb_X7_isBookBy_6 (fun u0 x1 x2 x3 => wl_X7_isBookBy_6 post n u0 x1 x2 x3) u0 x1 x2 x3 post
set_option maxRecDepth 100000 in
set_option maxHeartbeats 4000000 in
theorem tl_X7_isBookBy_6 {p : Program} {l : Launch} {e : Env} {s : State} {m : MethodId} {args : Array Value} {below : List Frame} {meth : Method} {c : Code} {A : Nat → Prop} {D : va_G} {g : pa_G} {q : Nat → Nat → Nat} {post : Int32 → pa_S → Prop} (hE : pa_Fx p s m args meth c A D g 4 cX7_isBookBy RX7) (hr : meth.sig.returnType = (some .boolean)) : ∀ (n : Nat) (u0 : pa_S) (x1 : Int32) (x2 : Int32) (x3 : Int32), wl_X7_isBookBy_6 post n u0 x1 x2 x3 → pa_At p l e (pa_rm 6) s m args below meth c (MQ below (pa_Qc g D q (fun r => some (.int r)) post A) args s 0 0 A) A D g 4 0 0 q u0 6 [(0, .ref (q 24 0)), (1, .int x1), (2, .int x2), (3, .int x3)] []
  | 0, _, _, _, _, hw => absurd hw (by simp only [wl_X7_isBookBy_6]; exact fun z => z)
  | n + 1, u0, x1, x2, x3, hw => tb_X7_isBookBy_6 hE hr (fun u0 x1 x2 x3  hw1 => tl_X7_isBookBy_6 hE hr  n u0 x1 x2 x3  hw1) hw
def wb_X7_isBookBy_0 (u0 : pa_S) (x1 : Int32) (x2 : Int32) (post : Int32 → pa_S → Prop) : Prop :=
  (wp_X7_save u0 (fun (u2 : pa_S) => wl_X7_isBookBy_6 post 5000 u2 x1 x2 0))
set_option maxRecDepth 100000 in
set_option maxHeartbeats 4000000 in
theorem tb_X7_isBookBy_0 {p : Program} {l : Launch} {e : Env} {s : State} {m : MethodId} {args : Array Value} {below : List Frame} {meth : Method} {c : Code} {A : Nat → Prop} {D : va_G} {g : pa_G} {q : Nat → Nat → Nat} {u0 : pa_S} {x1 : Int32} {x2 : Int32} {post : Int32 → pa_S → Prop} (hE : pa_Fx p s m args meth c A D g 4 cX7_isBookBy RX7) (hr : meth.sig.returnType = (some .boolean)) (hw : wb_X7_isBookBy_0 u0 x1 x2 post) : pa_At p l e (pa_rm 6) s m args below meth c (MQ below (pa_Qc g D q (fun r => some (.int r)) post A) args s 0 0 A) A D g 4 0 0 q u0 0 [(0, .ref (q 24 0)), (1, .int x1), (2, .int x2)] [] := by
  refine pa_aload_n hE dX7_isBookBy_0 rfl 0 rfl ?_
  refine pa_callVv hE (ct_X7_save l g D q u0 _ hw) cv_RX7_344 pa_in24 rfl rfl rfl (pa_hR (by omega) (by decide)) rfl (Nat.le_of_ble_eq_true rfl) dX7_isBookBy_1 (fun u2 hw => ?_)
  refine pa_iconst hE dX7_isBookBy_4 (v := 0) (by decide) ?_
  refine pa_istore_n hE dX7_isBookBy_5 rfl (by decide) (lvr := [(0, .ref (q 24 0)), (1, .int x1), (2, .int x2)]) rfl ?_
  exact pa_sub [1, 2, 3, 0] rfl (tl_X7_isBookBy_6 hE hr 5000 u2 x1 x2 0 hw)
def wp_X7_isBookBy (u0 : pa_S) (x1 : Int32) (x2 : Int32) (post : Int32 → pa_S → Prop) : Prop := wb_X7_isBookBy_0 u0 x1 x2 post
theorem ct_X7_isBookBy (l : Launch) (g : pa_G) (D : va_G) (q : Nat → Nat → Nat) (u0 : pa_S) (x1 : Int32) (x2 : Int32) (post : Int32 → pa_S → Prop)  (hw : wp_X7_isBookBy u0 x1 x2 post) : pa_Ct l yX7_isBookBy cX7_isBookBy 4 (some .boolean) 6 g D q u0 [.ref (q 24 0), .int x1, .int x2] (fun r => some (.int r)) post := pa_met rfl rfl (Nat.le_of_ble_eq_true rfl) rfl (fun p e s m args below meth c A hE hr => tb_X7_isBookBy_0 hE hr  hw)
def wb_X7_shaken_28 (k20 : pa_S → Int32 → Int32 → Int32 → Prop) (k28 : pa_S → Int32 → Int32 → Int32 → Int32 → Prop) (u0 : pa_S) (x1 : Int32) (x2 : Int32) (x3 : Int32) (x4 : Int32) (post : Int32 → pa_S → Prop) : Prop :=
  (if x2 ≤ x4 then ∀ v7 : Int32, v7 = (x2 * (pa_I u0 24 0 35)) → ∀ v8 : Int32, v8 = x3 + 1 → k20 u0 x1 v7 v8 else (wp_X7_isBookBy u0 x4 x3 (fun (r9 : Int32) (u10 : pa_S) => (if r9 = 0 then ∀ v18 : Int32, v18 = x4 + 1 → k28 u10 x1 x2 x3 v18 else (if 0 ≤ x1 then (if x3 ≤ x1 then post (-5 : Int32) u10 else (wp_X7_pairOf u10 x4 x3 x1 (fun (r14 : Int32) => (vp_in r14 10) ∧ (wp_X7_pairOf u10 x4 x3 x1 (fun (r16 : Int32) => (vp_in r16 10) ∧ post ((10 * (pa_A u10 44 0 r14.toNatClampNeg)) + (pa_A u10 45 0 r16.toNatClampNeg)) u10))))) else post x3 u10)))))
set_option maxRecDepth 100000 in
set_option maxHeartbeats 4000000 in
theorem tb_X7_shaken_28 {p : Program} {l : Launch} {e : Env} {s : State} {m : MethodId} {args : Array Value} {below : List Frame} {meth : Method} {c : Code} {A : Nat → Prop} {D : va_G} {g : pa_G} {q : Nat → Nat → Nat} {k20 : pa_S → Int32 → Int32 → Int32 → Prop} {k28 : pa_S → Int32 → Int32 → Int32 → Int32 → Prop} {u0 : pa_S} {x1 : Int32} {x2 : Int32} {x3 : Int32} {x4 : Int32} {post : Int32 → pa_S → Prop} (hE : pa_Fx p s m args meth c A D g 5 cX7_shaken RX7) (hr : meth.sig.returnType = (some .int)) (hk20 : ∀ (u : pa_S)  (x1 : Int32) (x2 : Int32) (x3 : Int32), k20 u x1 x2 x3 → pa_At p l e (pa_rm 7) s m args below meth c (MQ below (pa_Qc g D q (fun r => some (.int r)) post A) args s 0 0 A) A D g 5 0 0 q u 20 [(0, .ref (q 24 0)), (1, .int x1), (2, .int x2), (3, .int x3)] []) (hk28 : ∀ (u : pa_S)  (x1 : Int32) (x2 : Int32) (x3 : Int32) (x4 : Int32), k28 u x1 x2 x3 x4 → pa_At p l e (pa_rm 7) s m args below meth c (MQ below (pa_Qc g D q (fun r => some (.int r)) post A) args s 0 0 A) A D g 5 0 0 q u 28 [(0, .ref (q 24 0)), (1, .int x1), (2, .int x2), (3, .int x3), (4, .int x4)] []) (hw : wb_X7_shaken_28 k20 k28 u0 x1 x2 x3 x4 post) : pa_At p l e (pa_rm 7) s m args below meth c (MQ below (pa_Qc g D q (fun r => some (.int r)) post A) args s 0 0 A) A D g 5 0 0 q u0 28 [(0, .ref (q 24 0)), (1, .int x1), (2, .int x2), (3, .int x3), (4, .int x4)] [] := by
  refine pa_iload hE dX7_shaken_28 4 rfl ?_
  refine pa_iload_n hE dX7_shaken_30 rfl 2 rfl ?_
  refine pa_icmp_ge hE dX7_shaken_31 (tgt := 100) (by decide) (fun h6 => ?_) (fun h6 => ?_)
  · have hw := Eq.mp (if_pos h6) hw
    refine pa_iload_n hE dX7_shaken_100 rfl 2 rfl ?_
    refine pa_aload_n hE dX7_shaken_101 rfl 0 rfl ?_
    refine pg_24_35 hE (pa_m4 156 rfl rfl) dX7_shaken_102 ?_
    refine pa_imul hE dX7_shaken_105 ?_
    refine pa_namei (fun v7 ev7 => ?_)
    have hw := hw v7 ev7
    refine pa_istore_n hE dX7_shaken_106 rfl (by decide) (lvr := [(0, .ref (q 24 0)), (1, .int x1), (3, .int x3), (4, .int x4)]) rfl ?_
    refine pa_iinc hE dX7_shaken_107 (v := 1) 3 rfl (by decide) (by decide) (lvr := [(2, .int v7), (0, .ref (q 24 0)), (1, .int x1), (4, .int x4)]) rfl (fun v8 ev8 => ?_)
    have hw := hw v8 ev8
    refine pa_goto hE dX7_shaken_110 (tgt := 20) (by decide) ?_
    exact pa_sub [2, 3, 1, 0] rfl (hk20 u0 x1 v7 v8 hw)
  · have hw := Eq.mp (if_neg h6) hw
    refine pa_aload_n hE dX7_shaken_34 rfl 0 rfl ?_
    refine pa_iload hE dX7_shaken_35 4 rfl ?_
    refine pa_iload_n hE dX7_shaken_37 rfl 3 rfl ?_
    refine pa_callVi hE (ct_X7_isBookBy l g D q u0 x4 x3 _ hw) cv_RX7_365 pa_in24 rfl rfl rfl (pa_hR (by omega) (by decide)) rfl (Nat.le_of_ble_eq_true rfl) dX7_shaken_38 (fun r9 u10 hw => ?_)
    refine pa_if_ne hE dX7_shaken_41 (tgt := 47) (by decide) (fun h11 => ?_) (fun h11 => ?_)
    · have hw := Eq.mp (if_neg h11) hw
      refine pa_iload_n hE dX7_shaken_47 rfl 1 rfl ?_
      refine pa_if_ge hE dX7_shaken_48 (tgt := 53) (by decide) (fun h12 => ?_) (fun h12 => ?_)
      · have hw := Eq.mp (if_pos h12) hw
        refine pa_iload_n hE dX7_shaken_53 rfl 1 rfl ?_
        refine pa_iload_n hE dX7_shaken_54 rfl 3 rfl ?_
        refine pa_icmp_ge hE dX7_shaken_55 (tgt := 91) (by decide) (fun h13 => ?_) (fun h13 => ?_)
        · have hw := Eq.mp (if_pos h13) hw
          refine pa_bipush hE dX7_shaken_91 (v := (-5 : Int32)) (by decide) ?_
          exact pa_iret hE hr hw rfl dX7_shaken_93
        · have hw := Eq.mp (if_neg h13) hw
          refine pa_bipush hE dX7_shaken_58 (v := 10) (by decide) ?_
          refine pa_aload_n hE dX7_shaken_60 rfl 0 rfl ?_
          refine pg_24_33 hE (pa_m4 154 rfl rfl) dX7_shaken_61 ?_
          refine pa_aload_n hE dX7_shaken_64 rfl 0 rfl ?_
          refine pa_iload hE dX7_shaken_65 4 rfl ?_
          refine pa_iload_n hE dX7_shaken_67 rfl 3 rfl ?_
          refine pa_iload_n hE dX7_shaken_68 rfl 1 rfl ?_
          refine pa_callVri hE (ct_X7_pairOf l g D q u10 x4 x3 x1 _ hw) cv_RX7_356 pa_in24 rfl rfl rfl (pa_hR (by omega) (by decide)) rfl (Nat.le_of_ble_eq_true rfl) dX7_shaken_69 (fun r14 hw => ?_)
          obtain ⟨h15, hw⟩ := hw
          refine pl_44 hE h15 dX7_shaken_72 ?_
          refine pa_imul hE dX7_shaken_73 ?_
          refine pa_aload_n hE dX7_shaken_74 rfl 0 rfl ?_
          refine pg_24_34 hE (pa_m4 155 rfl rfl) dX7_shaken_75 ?_
          refine pa_aload_n hE dX7_shaken_78 rfl 0 rfl ?_
          refine pa_iload hE dX7_shaken_79 4 rfl ?_
          refine pa_iload_n hE dX7_shaken_81 rfl 3 rfl ?_
          refine pa_iload_n hE dX7_shaken_82 rfl 1 rfl ?_
          refine pa_callVri hE (ct_X7_pairOf l g D q u10 x4 x3 x1 _ hw) cv_RX7_356 pa_in24 rfl rfl rfl (pa_hR (by omega) (by decide)) rfl (Nat.le_of_ble_eq_true rfl) dX7_shaken_83 (fun r16 hw => ?_)
          obtain ⟨h17, hw⟩ := hw
          refine pl_45 hE h17 dX7_shaken_86 ?_
          refine pa_iadd hE dX7_shaken_87 ?_
          refine pa_goto hE dX7_shaken_88 (tgt := 93) (by decide) ?_
          exact pa_iret hE hr hw rfl dX7_shaken_93
      · have hw := Eq.mp (if_neg h12) hw
        refine pa_iload_n hE dX7_shaken_51 rfl 3 rfl ?_
        exact pa_iret hE hr hw rfl dX7_shaken_52
    · have hw := Eq.mp (if_pos h11) hw
      refine pa_goto hE dX7_shaken_44 (tgt := 94) (by decide) ?_
      refine pa_iinc hE dX7_shaken_94 (v := 1) 4 rfl (by decide) (by decide) (lvr := [(0, .ref (q 24 0)), (1, .int x1), (2, .int x2), (3, .int x3)]) rfl (fun v18 ev18 => ?_)
      have hw := hw v18 ev18
      refine pa_goto hE dX7_shaken_97 (tgt := 28) (by decide) ?_
      exact pa_sub [1, 2, 3, 4, 0] rfl (hk28 u10 x1 x2 x3 v18 hw)
def wl_X7_shaken_28 (k20 : pa_S → Int32 → Int32 → Int32 → Prop) (post : Int32 → pa_S → Prop) : Nat → pa_S → Int32 → Int32 → Int32 → Int32 → Prop
  | 0, _, _, _, _, _ => False
  | n + 1, u0, x1, x2, x3, x4 => wb_X7_shaken_28 k20 (fun u0 x1 x2 x3 x4 => wl_X7_shaken_28 k20 post n u0 x1 x2 x3 x4) u0 x1 x2 x3 x4 post
set_option maxRecDepth 100000 in
set_option maxHeartbeats 4000000 in
theorem tl_X7_shaken_28 {p : Program} {l : Launch} {e : Env} {s : State} {m : MethodId} {args : Array Value} {below : List Frame} {meth : Method} {c : Code} {A : Nat → Prop} {D : va_G} {g : pa_G} {q : Nat → Nat → Nat} {k20 : pa_S → Int32 → Int32 → Int32 → Prop} {post : Int32 → pa_S → Prop} (hE : pa_Fx p s m args meth c A D g 5 cX7_shaken RX7) (hr : meth.sig.returnType = (some .int)) (hk20 : ∀ (u : pa_S)  (x1 : Int32) (x2 : Int32) (x3 : Int32), k20 u x1 x2 x3 → pa_At p l e (pa_rm 7) s m args below meth c (MQ below (pa_Qc g D q (fun r => some (.int r)) post A) args s 0 0 A) A D g 5 0 0 q u 20 [(0, .ref (q 24 0)), (1, .int x1), (2, .int x2), (3, .int x3)] []) : ∀ (n : Nat) (u0 : pa_S) (x1 : Int32) (x2 : Int32) (x3 : Int32) (x4 : Int32), wl_X7_shaken_28 k20 post n u0 x1 x2 x3 x4 → pa_At p l e (pa_rm 7) s m args below meth c (MQ below (pa_Qc g D q (fun r => some (.int r)) post A) args s 0 0 A) A D g 5 0 0 q u0 28 [(0, .ref (q 24 0)), (1, .int x1), (2, .int x2), (3, .int x3), (4, .int x4)] []
  | 0, _, _, _, _, _, hw => absurd hw (by simp only [wl_X7_shaken_28]; exact fun z => z)
  | n + 1, u0, x1, x2, x3, x4, hw => tb_X7_shaken_28 hE hr hk20 (fun u0 x1 x2 x3 x4  hw1 => tl_X7_shaken_28 hE hr hk20 n u0 x1 x2 x3 x4  hw1) hw
def wb_X7_shaken_20 (k20 : pa_S → Int32 → Int32 → Int32 → Prop) (u0 : pa_S) (x1 : Int32) (x2 : Int32) (x3 : Int32) (post : Int32 → pa_S → Prop) : Prop :=
  (if 4 ≤ x3 then post (-5 : Int32) u0 else wl_X7_shaken_28 k20 post 5000 u0 x1 x2 x3 0)
set_option maxRecDepth 100000 in
set_option maxHeartbeats 4000000 in
theorem tb_X7_shaken_20 {p : Program} {l : Launch} {e : Env} {s : State} {m : MethodId} {args : Array Value} {below : List Frame} {meth : Method} {c : Code} {A : Nat → Prop} {D : va_G} {g : pa_G} {q : Nat → Nat → Nat} {k20 : pa_S → Int32 → Int32 → Int32 → Prop} {u0 : pa_S} {x1 : Int32} {x2 : Int32} {x3 : Int32} {post : Int32 → pa_S → Prop} (hE : pa_Fx p s m args meth c A D g 5 cX7_shaken RX7) (hr : meth.sig.returnType = (some .int)) (hk20 : ∀ (u : pa_S)  (x1 : Int32) (x2 : Int32) (x3 : Int32), k20 u x1 x2 x3 → pa_At p l e (pa_rm 7) s m args below meth c (MQ below (pa_Qc g D q (fun r => some (.int r)) post A) args s 0 0 A) A D g 5 0 0 q u 20 [(0, .ref (q 24 0)), (1, .int x1), (2, .int x2), (3, .int x3)] []) (hw : wb_X7_shaken_20 k20 u0 x1 x2 x3 post) : pa_At p l e (pa_rm 7) s m args below meth c (MQ below (pa_Qc g D q (fun r => some (.int r)) post A) args s 0 0 A) A D g 5 0 0 q u0 20 [(0, .ref (q 24 0)), (1, .int x1), (2, .int x2), (3, .int x3)] [] := by
  refine pa_iload_n hE dX7_shaken_20 rfl 3 rfl ?_
  refine pa_iconst hE dX7_shaken_21 (v := 4) (by decide) ?_
  refine pa_icmp_ge hE dX7_shaken_22 (tgt := 113) (by decide) (fun h5 => ?_) (fun h5 => ?_)
  · have hw := Eq.mp (if_pos h5) hw
    refine pa_bipush hE dX7_shaken_113 (v := (-5 : Int32)) (by decide) ?_
    exact pa_iret hE hr hw rfl dX7_shaken_115
  · have hw := Eq.mp (if_neg h5) hw
    refine pa_iconst hE dX7_shaken_25 (v := 0) (by decide) ?_
    refine pa_istore hE dX7_shaken_26 (by decide) (lvr := [(0, .ref (q 24 0)), (1, .int x1), (2, .int x2), (3, .int x3)]) rfl ?_
    exact pa_sub [1, 2, 3, 4, 0] rfl (tl_X7_shaken_28 hE hr hk20 5000 u0 x1 x2 x3 0 hw)
def wl_X7_shaken_20 (post : Int32 → pa_S → Prop) : Nat → pa_S → Int32 → Int32 → Int32 → Prop
  | 0, _, _, _, _ => False
  | n + 1, u0, x1, x2, x3 => wb_X7_shaken_20 (fun u0 x1 x2 x3 => wl_X7_shaken_20 post n u0 x1 x2 x3) u0 x1 x2 x3 post
set_option maxRecDepth 100000 in
set_option maxHeartbeats 4000000 in
theorem tl_X7_shaken_20 {p : Program} {l : Launch} {e : Env} {s : State} {m : MethodId} {args : Array Value} {below : List Frame} {meth : Method} {c : Code} {A : Nat → Prop} {D : va_G} {g : pa_G} {q : Nat → Nat → Nat} {post : Int32 → pa_S → Prop} (hE : pa_Fx p s m args meth c A D g 5 cX7_shaken RX7) (hr : meth.sig.returnType = (some .int)) : ∀ (n : Nat) (u0 : pa_S) (x1 : Int32) (x2 : Int32) (x3 : Int32), wl_X7_shaken_20 post n u0 x1 x2 x3 → pa_At p l e (pa_rm 7) s m args below meth c (MQ below (pa_Qc g D q (fun r => some (.int r)) post A) args s 0 0 A) A D g 5 0 0 q u0 20 [(0, .ref (q 24 0)), (1, .int x1), (2, .int x2), (3, .int x3)] []
  | 0, _, _, _, _, hw => absurd hw (by simp only [wl_X7_shaken_20]; exact fun z => z)
  | n + 1, u0, x1, x2, x3, hw => tb_X7_shaken_20 hE hr (fun u0 x1 x2 x3  hw1 => tl_X7_shaken_20 hE hr  n u0 x1 x2 x3  hw1) hw
def wb_X7_shaken_0 (u0 : pa_S) (x1 : Int32) (post : Int32 → pa_S → Prop) : Prop :=
  (wp_X7_in u0 x1 (-1 : Int32) 2 (fun (r1 : Int32) => (if r1 = 0 then post (-1 : Int32) u0 else (wp_X7_layPairs u0 (fun (u4 : pa_S) => wl_X7_shaken_20 post 5000 u4 x1 1 0)))))
set_option maxRecDepth 100000 in
set_option maxHeartbeats 4000000 in
theorem tb_X7_shaken_0 {p : Program} {l : Launch} {e : Env} {s : State} {m : MethodId} {args : Array Value} {below : List Frame} {meth : Method} {c : Code} {A : Nat → Prop} {D : va_G} {g : pa_G} {q : Nat → Nat → Nat} {u0 : pa_S} {x1 : Int32} {post : Int32 → pa_S → Prop} (hE : pa_Fx p s m args meth c A D g 5 cX7_shaken RX7) (hr : meth.sig.returnType = (some .int)) (hw : wb_X7_shaken_0 u0 x1 post) : pa_At p l e (pa_rm 7) s m args below meth c (MQ below (pa_Qc g D q (fun r => some (.int r)) post A) args s 0 0 A) A D g 5 0 0 q u0 0 [(0, .ref (q 24 0)), (1, .int x1)] [] := by
  refine pa_aload_n hE dX7_shaken_0 rfl 0 rfl ?_
  refine pa_iload_n hE dX7_shaken_1 rfl 1 rfl ?_
  refine pa_iconst hE dX7_shaken_2 (v := (-1 : Int32)) (by decide) ?_
  refine pa_iconst hE dX7_shaken_3 (v := 2) (by decide) ?_
  refine pa_callVri hE (ct_X7_in l g D q u0 x1 (-1 : Int32) 2 _ hw) cv_RX7_221 pa_in24 rfl rfl rfl (pa_hR (by omega) (by decide)) rfl (Nat.le_of_ble_eq_true rfl) dX7_shaken_4 (fun r1 hw => ?_)
  refine pa_if_ne hE dX7_shaken_7 (tgt := 12) (by decide) (fun h2 => ?_) (fun h2 => ?_)
  · have hw := Eq.mp (if_neg h2) hw
    refine pa_aload_n hE dX7_shaken_12 rfl 0 rfl ?_
    refine pa_callVv hE (ct_X7_layPairs l g D q u0 _ hw) cv_RX7_362 pa_in24 rfl rfl rfl (pa_hR (by omega) (by decide)) rfl (Nat.le_of_ble_eq_true rfl) dX7_shaken_13 (fun u4 hw => ?_)
    refine pa_iconst hE dX7_shaken_16 (v := 1) (by decide) ?_
    refine pa_istore_n hE dX7_shaken_17 rfl (by decide) (lvr := [(0, .ref (q 24 0)), (1, .int x1)]) rfl ?_
    refine pa_iconst hE dX7_shaken_18 (v := 0) (by decide) ?_
    refine pa_istore_n hE dX7_shaken_19 rfl (by decide) (lvr := [(2, .int 1), (0, .ref (q 24 0)), (1, .int x1)]) rfl ?_
    exact pa_sub [2, 3, 1, 0] rfl (tl_X7_shaken_20 hE hr 5000 u4 x1 1 0 hw)
  · have hw := Eq.mp (if_pos h2) hw
    refine pa_iconst hE dX7_shaken_10 (v := (-1 : Int32)) (by decide) ?_
    exact pa_iret hE hr hw rfl dX7_shaken_11
def wp_X7_shaken (u0 : pa_S) (x1 : Int32) (post : Int32 → pa_S → Prop) : Prop := wb_X7_shaken_0 u0 x1 post
theorem ct_X7_shaken (l : Launch) (g : pa_G) (D : va_G) (q : Nat → Nat → Nat) (u0 : pa_S) (x1 : Int32) (post : Int32 → pa_S → Prop)  (hw : wp_X7_shaken u0 x1 post) : pa_Ct l yX7_shaken cX7_shaken 5 (some .int) 7 g D q u0 [.ref (q 24 0), .int x1] (fun r => some (.int r)) post := pa_met rfl rfl (Nat.le_of_ble_eq_true rfl) rfl (fun p e s m args below meth c A hE hr => tb_X7_shaken_0 hE hr  hw)
def wb_X7_see_0 (u0 : pa_S) (x1 : Int32) (x2 : Int32) (x3 : Int32) (x4 : Int32) (post : Int32 → pa_S → Prop) : Prop :=
  (if x1 = (-1 : Int32) then ∀ u18 : pa_S, u18 = pa_sI u0 24 0 36 0 → post 0 u18 else (wp_X7_isHand u0 x1 (fun (r2 : Int32) => (if r2 = 0 then post (-1 : Int32) u0 else (wp_X7_isLine u0 x2 (fun (r4 : Int32) => (if r4 = 0 then post (-1 : Int32) u0 else (wp_X7_isLength u0 x3 (fun (r6 : Int32) => (if r6 = 0 then post (-2 : Int32) u0 else (wp_X7_in u0 x4 0 20 (fun (r8 : Int32) => (if r8 = 0 then post (-2 : Int32) u0 else (if (pa_I u0 24 0 36) = 5 then post (-4 : Int32) u0 else (vp_in (pa_I u0 24 0 36) 5) ∧ ∀ u12 : pa_S, u12 = pa_sA u0 46 0 (upd (pa_A u0 46 0) (pa_I u0 24 0 36).toNatClampNeg ((3 * x1) + x2)) → (vp_in (pa_I u12 24 0 36) 5) ∧ ∀ u14 : pa_S, u14 = pa_sA u12 47 0 (upd (pa_A u12 47 0) (pa_I u12 24 0 36).toNatClampNeg x3) → (vp_in (pa_I u14 24 0 36) 5) ∧ ∀ u16 : pa_S, u16 = pa_sA u14 48 0 (upd (pa_A u14 48 0) (pa_I u14 24 0 36).toNatClampNeg x4) → ∀ u17 : pa_S, u17 = pa_sI u16 24 0 36 ((pa_I u16 24 0 36) + 1) → post (pa_I u17 24 0 36) u17))))))))))))))
set_option maxRecDepth 100000 in
set_option maxHeartbeats 4000000 in
theorem tb_X7_see_0 {p : Program} {l : Launch} {e : Env} {s : State} {m : MethodId} {args : Array Value} {below : List Frame} {meth : Method} {c : Code} {A : Nat → Prop} {D : va_G} {g : pa_G} {q : Nat → Nat → Nat} {u0 : pa_S} {x1 : Int32} {x2 : Int32} {x3 : Int32} {x4 : Int32} {post : Int32 → pa_S → Prop} (hE : pa_Fx p s m args meth c A D g 5 cX7_see RX7) (hr : meth.sig.returnType = (some .int)) (hw : wb_X7_see_0 u0 x1 x2 x3 x4 post) : pa_At p l e (pa_rm 4) s m args below meth c (MQ below (pa_Qc g D q (fun r => some (.int r)) post A) args s 0 0 A) A D g 5 0 0 q u0 0 [(0, .ref (q 24 0)), (1, .int x1), (2, .int x2), (3, .int x3), (4, .int x4)] [] := by
  refine pa_iload_n hE dX7_see_0 rfl 1 rfl ?_
  refine pa_iconst hE dX7_see_1 (v := (-1 : Int32)) (by decide) ?_
  refine pa_icmp_ne hE dX7_see_2 (tgt := 12) (by decide) (fun h1 => ?_) (fun h1 => ?_)
  · have hw := Eq.mp (if_neg h1) hw
    refine pa_aload_n hE dX7_see_12 rfl 0 rfl ?_
    refine pa_iload_n hE dX7_see_13 rfl 1 rfl ?_
    refine pa_callVri hE (ct_X7_isHand l g D q u0 x1 _ hw) cv_RX7_229 pa_in24 rfl rfl rfl (pa_hR (by omega) (by decide)) rfl (Nat.le_of_ble_eq_true rfl) dX7_see_14 (fun r2 hw => ?_)
    refine pa_if_eq hE dX7_see_17 (tgt := 28) (by decide) (fun h3 => ?_) (fun h3 => ?_)
    · have hw := Eq.mp (if_pos h3) hw
      refine pa_iconst hE dX7_see_28 (v := (-1 : Int32)) (by decide) ?_
      exact pa_iret hE hr hw rfl dX7_see_29
    · have hw := Eq.mp (if_neg h3) hw
      refine pa_aload_n hE dX7_see_20 rfl 0 rfl ?_
      refine pa_iload_n hE dX7_see_21 rfl 2 rfl ?_
      refine pa_callVri hE (ct_X7_isLine l g D q u0 x2 _ hw) cv_RX7_232 pa_in24 rfl rfl rfl (pa_hR (by omega) (by decide)) rfl (Nat.le_of_ble_eq_true rfl) dX7_see_22 (fun r4 hw => ?_)
      refine pa_if_ne hE dX7_see_25 (tgt := 30) (by decide) (fun h5 => ?_) (fun h5 => ?_)
      · have hw := Eq.mp (if_neg h5) hw
        refine pa_aload_n hE dX7_see_30 rfl 0 rfl ?_
        refine pa_iload_n hE dX7_see_31 rfl 3 rfl ?_
        refine pa_callVri hE (ct_X7_isLength l g D q u0 x3 _ hw) cv_RX7_225 pa_in24 rfl rfl rfl (pa_hR (by omega) (by decide)) rfl (Nat.le_of_ble_eq_true rfl) dX7_see_32 (fun r6 hw => ?_)
        refine pa_if_eq hE dX7_see_35 (tgt := 50) (by decide) (fun h7 => ?_) (fun h7 => ?_)
        · have hw := Eq.mp (if_pos h7) hw
          refine pa_bipush hE dX7_see_50 (v := (-2 : Int32)) (by decide) ?_
          exact pa_iret hE hr hw rfl dX7_see_52
        · have hw := Eq.mp (if_neg h7) hw
          refine pa_aload_n hE dX7_see_38 rfl 0 rfl ?_
          refine pa_iload hE dX7_see_39 4 rfl ?_
          refine pa_iconst hE dX7_see_41 (v := 0) (by decide) ?_
          refine pa_bipush hE dX7_see_42 (v := 20) (by decide) ?_
          refine pa_callVri hE (ct_X7_in l g D q u0 x4 0 20 _ hw) cv_RX7_221 pa_in24 rfl rfl rfl (pa_hR (by omega) (by decide)) rfl (Nat.le_of_ble_eq_true rfl) dX7_see_44 (fun r8 hw => ?_)
          refine pa_if_ne hE dX7_see_47 (tgt := 53) (by decide) (fun h9 => ?_) (fun h9 => ?_)
          · have hw := Eq.mp (if_neg h9) hw
            refine pa_aload_n hE dX7_see_53 rfl 0 rfl ?_
            refine pg_24_36 hE (pa_m4 157 rfl rfl) dX7_see_54 ?_
            refine pa_iconst hE dX7_see_57 (v := 5) (by decide) ?_
            refine pa_icmp_ne hE dX7_see_58 (tgt := 64) (by decide) (fun h10 => ?_) (fun h10 => ?_)
            · have hw := Eq.mp (if_neg h10) hw
              refine pa_aload_n hE dX7_see_64 rfl 0 rfl ?_
              refine pg_24_37 hE (pa_m4 158 rfl rfl) dX7_see_65 ?_
              refine pa_aload_n hE dX7_see_68 rfl 0 rfl ?_
              refine pg_24_36 hE (pa_m4 157 rfl rfl) dX7_see_69 ?_
              refine pa_iconst hE dX7_see_72 (v := 3) (by decide) ?_
              refine pa_iload_n hE dX7_see_73 rfl 1 rfl ?_
              refine pa_imul hE dX7_see_74 ?_
              refine pa_iload_n hE dX7_see_75 rfl 2 rfl ?_
              refine pa_iadd hE dX7_see_76 ?_
              obtain ⟨h11, hw⟩ := hw
              refine ps_46 hE h11 dX7_see_77 (fun u12 eu12 => ?_)
              have hw := hw u12 eu12
              refine pa_aload_n hE dX7_see_78 rfl 0 rfl ?_
              refine pg_24_38 hE (pa_m4 159 rfl rfl) dX7_see_79 ?_
              refine pa_aload_n hE dX7_see_82 rfl 0 rfl ?_
              refine pg_24_36 hE (pa_m4 157 rfl rfl) dX7_see_83 ?_
              refine pa_iload_n hE dX7_see_86 rfl 3 rfl ?_
              obtain ⟨h13, hw⟩ := hw
              refine ps_47 hE h13 dX7_see_87 (fun u14 eu14 => ?_)
              have hw := hw u14 eu14
              refine pa_aload_n hE dX7_see_88 rfl 0 rfl ?_
              refine pg_24_39 hE (pa_m4 160 rfl rfl) dX7_see_89 ?_
              refine pa_aload_n hE dX7_see_92 rfl 0 rfl ?_
              refine pg_24_36 hE (pa_m4 157 rfl rfl) dX7_see_93 ?_
              refine pa_iload hE dX7_see_96 4 rfl ?_
              obtain ⟨h15, hw⟩ := hw
              refine ps_48 hE h15 dX7_see_98 (fun u16 eu16 => ?_)
              have hw := hw u16 eu16
              refine pa_aload_n hE dX7_see_99 rfl 0 rfl ?_
              refine pa_dup hE dX7_see_100 rfl ?_
              refine pg_24_36 hE (pa_m4 157 rfl rfl) dX7_see_101 ?_
              refine pa_iconst hE dX7_see_104 (v := 1) (by decide) ?_
              refine pa_iadd hE dX7_see_105 ?_
              refine pp_24_36 hE (pa_m4 157 rfl rfl) dX7_see_106 (fun u17 eu17 => ?_)
              have hw := hw u17 eu17
              refine pa_aload_n hE dX7_see_109 rfl 0 rfl ?_
              refine pg_24_36 hE (pa_m4 157 rfl rfl) dX7_see_110 ?_
              exact pa_iret hE hr hw rfl dX7_see_113
            · have hw := Eq.mp (if_pos h10) hw
              refine pa_bipush hE dX7_see_61 (v := (-4 : Int32)) (by decide) ?_
              exact pa_iret hE hr hw rfl dX7_see_63
          · have hw := Eq.mp (if_pos h9) hw
            refine pa_bipush hE dX7_see_50 (v := (-2 : Int32)) (by decide) ?_
            exact pa_iret hE hr hw rfl dX7_see_52
      · have hw := Eq.mp (if_pos h5) hw
        refine pa_iconst hE dX7_see_28 (v := (-1 : Int32)) (by decide) ?_
        exact pa_iret hE hr hw rfl dX7_see_29
  · have hw := Eq.mp (if_pos h1) hw
    refine pa_aload_n hE dX7_see_5 rfl 0 rfl ?_
    refine pa_iconst hE dX7_see_6 (v := 0) (by decide) ?_
    refine pp_24_36 hE (pa_m4 157 rfl rfl) dX7_see_7 (fun u18 eu18 => ?_)
    have hw := hw u18 eu18
    refine pa_iconst hE dX7_see_10 (v := 0) (by decide) ?_
    exact pa_iret hE hr hw rfl dX7_see_11
def wp_X7_see (u0 : pa_S) (x1 : Int32) (x2 : Int32) (x3 : Int32) (x4 : Int32) (post : Int32 → pa_S → Prop) : Prop := wb_X7_see_0 u0 x1 x2 x3 x4 post
theorem ct_X7_see (l : Launch) (g : pa_G) (D : va_G) (q : Nat → Nat → Nat) (u0 : pa_S) (x1 : Int32) (x2 : Int32) (x3 : Int32) (x4 : Int32) (post : Int32 → pa_S → Prop)  (hw : wp_X7_see u0 x1 x2 x3 x4 post) : pa_Ct l yX7_see cX7_see 5 (some .int) 4 g D q u0 [.ref (q 24 0), .int x1, .int x2, .int x3, .int x4] (fun r => some (.int r)) post := pa_met rfl rfl (Nat.le_of_ble_eq_true rfl) rfl (fun p e s m args below meth c A hE hr => tb_X7_see_0 hE hr  hw)
def wb_X7_isSeen_55 (k4 : pa_S → Int32 → Int32 → Prop) (u0 : pa_S) (x2 : Int32) (y0 : Int32) (post : Int32 → pa_S → Prop) : Prop :=
  (wp_X7_putBack u0 (fun (u15 : pa_S) => ∀ v16 : Int32, v16 = x2 + 1 → k4 u15 y0 v16))
set_option maxRecDepth 100000 in
set_option maxHeartbeats 4000000 in
theorem tb_X7_isSeen_55 {p : Program} {l : Launch} {e : Env} {s : State} {m : MethodId} {args : Array Value} {below : List Frame} {meth : Method} {c : Code} {A : Nat → Prop} {D : va_G} {g : pa_G} {q : Nat → Nat → Nat} {k4 : pa_S → Int32 → Int32 → Prop} {u0 : pa_S} {x2 : Int32} {y0 : Int32} {post : Int32 → pa_S → Prop} (hE : pa_Fx p s m args meth c A D g 3 cX7_isSeen RX7) (hr : meth.sig.returnType = (some .boolean)) (hk4 : ∀ (u : pa_S)  (x1 : Int32) (x2 : Int32), k4 u x1 x2 → pa_At p l e (pa_rm 5) s m args below meth c (MQ below (pa_Qc g D q (fun r => some (.int r)) post A) args s 0 0 A) A D g 3 0 0 q u 4 [(0, .ref (q 24 0)), (1, .int x1), (2, .int x2)] []) (hw : wb_X7_isSeen_55 k4 u0 x2 y0 post) : pa_At p l e (pa_rm 5) s m args below meth c (MQ below (pa_Qc g D q (fun r => some (.int r)) post A) args s 0 0 A) A D g 3 0 0 q u0 55 [(0, .ref (q 24 0)), (2, .int x2)] [.int y0] := by
  refine pa_istore_n hE dX7_isSeen_55 rfl (by decide) (lvr := [(0, .ref (q 24 0)), (2, .int x2)]) rfl ?_
  refine pa_aload_n hE dX7_isSeen_56 rfl 1 rfl ?_
  refine pa_callVv hE (ct_X7_putBack l g D q u0 _ hw) cv_RX7_347 pa_in24 rfl rfl rfl (pa_hR (by omega) (by decide)) rfl (Nat.le_of_ble_eq_true rfl) dX7_isSeen_57 (fun u15 hw => ?_)
  refine pa_iinc hE dX7_isSeen_60 (v := 1) 2 rfl (by decide) (by decide) (lvr := [(1, .int y0), (0, .ref (q 24 0))]) rfl (fun v16 ev16 => ?_)
  have hw := hw v16 ev16
  refine pa_goto hE dX7_isSeen_63 (tgt := 4) (by decide) ?_
  exact pa_sub [2, 1, 0] rfl (hk4 u15 y0 v16 hw)
def wb_X7_isSeen_4 (k4 : pa_S → Int32 → Int32 → Prop) (u0 : pa_S) (x1 : Int32) (x2 : Int32) (post : Int32 → pa_S → Prop) : Prop :=
  (if (pa_I u0 24 0 36) ≤ x2 then (x1 &&& 1 = x1) ∧ post x1 u0 else (if x1 = 0 then (x1 &&& 1 = x1) ∧ post x1 u0 else (wp_X7_save u0 (fun (u6 : pa_S) => (vp_in x2 5) ∧ (wp_X7_goDays u6 (pa_A u6 48 0 x2.toNatClampNeg) (fun (u9 : pa_S) => (vp_in x2 5) ∧ (vp_in (pa_A u9 46 0 x2.toNatClampNeg) 15) ∧ (vp_in x2 5) ∧ (if (pa_A u9 28 0 (pa_A u9 46 0 x2.toNatClampNeg).toNatClampNeg) = (pa_A u9 47 0 x2.toNatClampNeg) then wb_X7_isSeen_55 k4 u9 x2 1 post else wb_X7_isSeen_55 k4 u9 x2 0 post)))))))
set_option maxRecDepth 100000 in
set_option maxHeartbeats 4000000 in
theorem tb_X7_isSeen_4 {p : Program} {l : Launch} {e : Env} {s : State} {m : MethodId} {args : Array Value} {below : List Frame} {meth : Method} {c : Code} {A : Nat → Prop} {D : va_G} {g : pa_G} {q : Nat → Nat → Nat} {k4 : pa_S → Int32 → Int32 → Prop} {u0 : pa_S} {x1 : Int32} {x2 : Int32} {post : Int32 → pa_S → Prop} (hE : pa_Fx p s m args meth c A D g 3 cX7_isSeen RX7) (hr : meth.sig.returnType = (some .boolean)) (hk4 : ∀ (u : pa_S)  (x1 : Int32) (x2 : Int32), k4 u x1 x2 → pa_At p l e (pa_rm 5) s m args below meth c (MQ below (pa_Qc g D q (fun r => some (.int r)) post A) args s 0 0 A) A D g 3 0 0 q u 4 [(0, .ref (q 24 0)), (1, .int x1), (2, .int x2)] []) (hw : wb_X7_isSeen_4 k4 u0 x1 x2 post) : pa_At p l e (pa_rm 5) s m args below meth c (MQ below (pa_Qc g D q (fun r => some (.int r)) post A) args s 0 0 A) A D g 3 0 0 q u0 4 [(0, .ref (q 24 0)), (1, .int x1), (2, .int x2)] [] := by
  refine pa_iload_n hE dX7_isSeen_4 rfl 2 rfl ?_
  refine pa_aload_n hE dX7_isSeen_5 rfl 0 rfl ?_
  refine pg_24_36 hE (pa_m4 157 rfl rfl) dX7_isSeen_6 ?_
  refine pa_icmp_ge hE dX7_isSeen_9 (tgt := 66) (by decide) (fun h1 => ?_) (fun h1 => ?_)
  · have hw := Eq.mp (if_pos h1) hw
    refine pa_iload_n hE dX7_isSeen_66 rfl 1 rfl ?_
    obtain ⟨h2, hw⟩ := hw
    exact pa_zret hE hr (congrArg Value.int h2) hw rfl dX7_isSeen_67
  · have hw := Eq.mp (if_neg h1) hw
    refine pa_iload_n hE dX7_isSeen_12 rfl 1 rfl ?_
    refine pa_if_eq hE dX7_isSeen_13 (tgt := 66) (by decide) (fun h3 => ?_) (fun h3 => ?_)
    · have hw := Eq.mp (if_pos h3) hw
      refine pa_iload_n hE dX7_isSeen_66 rfl 1 rfl ?_
      obtain ⟨h4, hw⟩ := hw
      exact pa_zret hE hr (congrArg Value.int h4) hw rfl dX7_isSeen_67
    · have hw := Eq.mp (if_neg h3) hw
      refine pa_aload_n hE dX7_isSeen_16 rfl 0 rfl ?_
      refine pa_callVv hE (ct_X7_save l g D q u0 _ hw) cv_RX7_344 pa_in24 rfl rfl rfl (pa_hR (by omega) (by decide)) rfl (Nat.le_of_ble_eq_true rfl) dX7_isSeen_17 (fun u6 hw => ?_)
      refine pa_aload_n hE dX7_isSeen_20 rfl 0 rfl ?_
      refine pa_aload_n hE dX7_isSeen_21 rfl 0 rfl ?_
      refine pg_24_39 hE (pa_m4 160 rfl rfl) dX7_isSeen_22 ?_
      refine pa_iload_n hE dX7_isSeen_25 rfl 2 rfl ?_
      obtain ⟨h7, hw⟩ := hw
      refine pl_48 hE h7 dX7_isSeen_26 ?_
      refine pa_callVv hE (ct_X7_goDays l g D q u6 (pa_A u6 48 0 x2.toNatClampNeg) _ hw) cv_RX7_341 pa_in24 rfl rfl rfl (pa_hR (by omega) (by decide)) rfl (Nat.le_of_ble_eq_true rfl) dX7_isSeen_27 (fun u9 hw => ?_)
      refine pa_aload_n hE dX7_isSeen_30 rfl 0 rfl ?_
      refine pg_24_6 hE (pa_m4 127 rfl rfl) dX7_isSeen_31 ?_
      refine pa_aload_n hE dX7_isSeen_34 rfl 0 rfl ?_
      refine pg_24_37 hE (pa_m4 158 rfl rfl) dX7_isSeen_35 ?_
      refine pa_iload_n hE dX7_isSeen_38 rfl 2 rfl ?_
      obtain ⟨h10, hw⟩ := hw
      refine pl_46 hE h10 dX7_isSeen_39 ?_
      obtain ⟨h11, hw⟩ := hw
      refine pl_28 hE h11 dX7_isSeen_40 ?_
      refine pa_aload_n hE dX7_isSeen_41 rfl 0 rfl ?_
      refine pg_24_38 hE (pa_m4 159 rfl rfl) dX7_isSeen_42 ?_
      refine pa_iload_n hE dX7_isSeen_45 rfl 2 rfl ?_
      obtain ⟨h12, hw⟩ := hw
      refine pl_47 hE h12 dX7_isSeen_46 ?_
      refine pa_icmp_ne hE dX7_isSeen_47 (tgt := 54) (by decide) (fun h13 => ?_) (fun h13 => ?_)
      · have hw := Eq.mp (if_neg h13) hw
        refine pa_iconst hE dX7_isSeen_54 (v := 0) (by decide) ?_
        exact pa_sub [0, 2] rfl (tb_X7_isSeen_55 hE hr hk4 hw)
      · have hw := Eq.mp (if_pos h13) hw
        refine pa_iconst hE dX7_isSeen_50 (v := 1) (by decide) ?_
        refine pa_goto hE dX7_isSeen_51 (tgt := 55) (by decide) ?_
        exact pa_sub [0, 2] rfl (tb_X7_isSeen_55 hE hr hk4 hw)
def wl_X7_isSeen_4 (post : Int32 → pa_S → Prop) : Nat → pa_S → Int32 → Int32 → Prop
  | 0, _, _, _ => False
  | n + 1, u0, x1, x2 => wb_X7_isSeen_4 (fun u0 x1 x2 => wl_X7_isSeen_4 post n u0 x1 x2) u0 x1 x2 post
set_option maxRecDepth 100000 in
set_option maxHeartbeats 4000000 in
theorem tl_X7_isSeen_4 {p : Program} {l : Launch} {e : Env} {s : State} {m : MethodId} {args : Array Value} {below : List Frame} {meth : Method} {c : Code} {A : Nat → Prop} {D : va_G} {g : pa_G} {q : Nat → Nat → Nat} {post : Int32 → pa_S → Prop} (hE : pa_Fx p s m args meth c A D g 3 cX7_isSeen RX7) (hr : meth.sig.returnType = (some .boolean)) : ∀ (n : Nat) (u0 : pa_S) (x1 : Int32) (x2 : Int32), wl_X7_isSeen_4 post n u0 x1 x2 → pa_At p l e (pa_rm 5) s m args below meth c (MQ below (pa_Qc g D q (fun r => some (.int r)) post A) args s 0 0 A) A D g 3 0 0 q u0 4 [(0, .ref (q 24 0)), (1, .int x1), (2, .int x2)] []
  | 0, _, _, _, hw => absurd hw (by simp only [wl_X7_isSeen_4]; exact fun z => z)
  | n + 1, u0, x1, x2, hw => tb_X7_isSeen_4 hE hr (fun u0 x1 x2  hw1 => tl_X7_isSeen_4 hE hr  n u0 x1 x2  hw1) hw
def wb_X7_isSeen_0 (u0 : pa_S) (post : Int32 → pa_S → Prop) : Prop :=
  wl_X7_isSeen_4 post 5000 u0 1 0
set_option maxRecDepth 100000 in
set_option maxHeartbeats 4000000 in
theorem tb_X7_isSeen_0 {p : Program} {l : Launch} {e : Env} {s : State} {m : MethodId} {args : Array Value} {below : List Frame} {meth : Method} {c : Code} {A : Nat → Prop} {D : va_G} {g : pa_G} {q : Nat → Nat → Nat} {u0 : pa_S} {post : Int32 → pa_S → Prop} (hE : pa_Fx p s m args meth c A D g 3 cX7_isSeen RX7) (hr : meth.sig.returnType = (some .boolean)) (hw : wb_X7_isSeen_0 u0 post) : pa_At p l e (pa_rm 5) s m args below meth c (MQ below (pa_Qc g D q (fun r => some (.int r)) post A) args s 0 0 A) A D g 3 0 0 q u0 0 [(0, .ref (q 24 0))] [] := by
  refine pa_iconst hE dX7_isSeen_0 (v := 1) (by decide) ?_
  refine pa_istore_n hE dX7_isSeen_1 rfl (by decide) (lvr := [(0, .ref (q 24 0))]) rfl ?_
  refine pa_iconst hE dX7_isSeen_2 (v := 0) (by decide) ?_
  refine pa_istore_n hE dX7_isSeen_3 rfl (by decide) (lvr := [(1, .int 1), (0, .ref (q 24 0))]) rfl ?_
  exact pa_sub [2, 1, 0] rfl (tl_X7_isSeen_4 hE hr 5000 u0 1 0 hw)
def wp_X7_isSeen (u0 : pa_S) (post : Int32 → pa_S → Prop) : Prop := wb_X7_isSeen_0 u0 post
theorem ct_X7_isSeen (l : Launch) (g : pa_G) (D : va_G) (q : Nat → Nat → Nat) (u0 : pa_S) (post : Int32 → pa_S → Prop)  (hw : wp_X7_isSeen u0 post) : pa_Ct l yX7_isSeen cX7_isSeen 3 (some .boolean) 5 g D q u0 [.ref (q 24 0)] (fun r => some (.int r)) post := pa_met rfl rfl (Nat.le_of_ble_eq_true rfl) rfl (fun p e s m args below meth c A hE hr => tb_X7_isSeen_0 hE hr  hw)
def wb_X7_was_85 (k51 : pa_S → Int32 → Int32 → Int32 → Int32 → Int32 → Int32 → Int32 → Prop) (u0 : pa_S) (x1 : Int32) (x2 : Int32) (x3 : Int32) (x4 : Int32) (x5 : Int32) (x6 : Int32) (x7 : Int32) (post : Int32 → pa_S → Prop) : Prop :=
  ∀ v19 : Int32, v19 = x7 + (-1 : Int32) → k51 u0 x1 x2 x3 x4 x5 x6 v19
set_option maxRecDepth 100000 in
set_option maxHeartbeats 4000000 in
theorem tb_X7_was_85 {p : Program} {l : Launch} {e : Env} {s : State} {m : MethodId} {args : Array Value} {below : List Frame} {meth : Method} {c : Code} {A : Nat → Prop} {D : va_G} {g : pa_G} {q : Nat → Nat → Nat} {k51 : pa_S → Int32 → Int32 → Int32 → Int32 → Int32 → Int32 → Int32 → Prop} {u0 : pa_S} {x1 : Int32} {x2 : Int32} {x3 : Int32} {x4 : Int32} {x5 : Int32} {x6 : Int32} {x7 : Int32} {post : Int32 → pa_S → Prop} (hE : pa_Fx p s m args meth c A D g 8 cX7_was RX7) (hr : meth.sig.returnType = (some .int)) (hk51 : ∀ (u : pa_S)  (x1 : Int32) (x2 : Int32) (x3 : Int32) (x4 : Int32) (x5 : Int32) (x6 : Int32) (x7 : Int32), k51 u x1 x2 x3 x4 x5 x6 x7 → pa_At p l e (pa_rm 6) s m args below meth c (MQ below (pa_Qc g D q (fun r => some (.int r)) post A) args s 0 0 A) A D g 8 0 0 q u 51 [(0, .ref (q 24 0)), (1, .int x1), (2, .int x2), (3, .int x3), (4, .int x4), (5, .int x5), (6, .int x6), (7, .int x7)] []) (hw : wb_X7_was_85 k51 u0 x1 x2 x3 x4 x5 x6 x7 post) : pa_At p l e (pa_rm 6) s m args below meth c (MQ below (pa_Qc g D q (fun r => some (.int r)) post A) args s 0 0 A) A D g 8 0 0 q u0 85 [(0, .ref (q 24 0)), (1, .int x1), (2, .int x2), (3, .int x3), (4, .int x4), (5, .int x5), (6, .int x6), (7, .int x7)] [] := by
  refine pa_iinc hE dX7_was_85 (v := (-1 : Int32)) 7 rfl (by decide) (by decide) (lvr := [(0, .ref (q 24 0)), (1, .int x1), (2, .int x2), (3, .int x3), (4, .int x4), (5, .int x5), (6, .int x6)]) rfl (fun v19 ev19 => ?_)
  have hw := hw v19 ev19
  refine pa_goto hE dX7_was_88 (tgt := 51) (by decide) ?_
  exact pa_sub [1, 2, 3, 4, 5, 6, 7, 0] rfl (hk51 u0 x1 x2 x3 x4 x5 x6 v19 hw)
def wb_X7_was_51 (k51 : pa_S → Int32 → Int32 → Int32 → Int32 → Int32 → Int32 → Int32 → Prop) (u0 : pa_S) (x1 : Int32) (x2 : Int32) (x3 : Int32) (x4 : Int32) (x5 : Int32) (x6 : Int32) (x7 : Int32) (post : Int32 → pa_S → Prop) : Prop :=
  (if x7 < 0 then (vp_in ((3 * x1) + x2) 15) ∧ ∀ u11 : pa_S, u11 = pa_sA u0 28 0 (upd (pa_A u0 28 0) ((3 * x1) + x2).toNatClampNeg x4) → (if x3 = 0 then post x5 u11 else post x6 u11) else (vp_in ((3 * x1) + x2) 15) ∧ ∀ u14 : pa_S, u14 = pa_sA u0 28 0 (upd (pa_A u0 28 0) ((3 * x1) + x2).toNatClampNeg x7) → (wp_X7_isSeen u14 (fun (r15 : Int32) (u16 : pa_S) => (if r15 = 0 then wb_X7_was_85 k51 u16 x1 x2 x3 x4 x5 x6 x7 post else ∀ v18 : Int32, v18 = x5 + 1 → wb_X7_was_85 k51 u16 x1 x2 x3 x4 v18 x7 x7 post))))
set_option maxRecDepth 100000 in
set_option maxHeartbeats 4000000 in
theorem tb_X7_was_51 {p : Program} {l : Launch} {e : Env} {s : State} {m : MethodId} {args : Array Value} {below : List Frame} {meth : Method} {c : Code} {A : Nat → Prop} {D : va_G} {g : pa_G} {q : Nat → Nat → Nat} {k51 : pa_S → Int32 → Int32 → Int32 → Int32 → Int32 → Int32 → Int32 → Prop} {u0 : pa_S} {x1 : Int32} {x2 : Int32} {x3 : Int32} {x4 : Int32} {x5 : Int32} {x6 : Int32} {x7 : Int32} {post : Int32 → pa_S → Prop} (hE : pa_Fx p s m args meth c A D g 8 cX7_was RX7) (hr : meth.sig.returnType = (some .int)) (hk51 : ∀ (u : pa_S)  (x1 : Int32) (x2 : Int32) (x3 : Int32) (x4 : Int32) (x5 : Int32) (x6 : Int32) (x7 : Int32), k51 u x1 x2 x3 x4 x5 x6 x7 → pa_At p l e (pa_rm 6) s m args below meth c (MQ below (pa_Qc g D q (fun r => some (.int r)) post A) args s 0 0 A) A D g 8 0 0 q u 51 [(0, .ref (q 24 0)), (1, .int x1), (2, .int x2), (3, .int x3), (4, .int x4), (5, .int x5), (6, .int x6), (7, .int x7)] []) (hw : wb_X7_was_51 k51 u0 x1 x2 x3 x4 x5 x6 x7 post) : pa_At p l e (pa_rm 6) s m args below meth c (MQ below (pa_Qc g D q (fun r => some (.int r)) post A) args s 0 0 A) A D g 8 0 0 q u0 51 [(0, .ref (q 24 0)), (1, .int x1), (2, .int x2), (3, .int x3), (4, .int x4), (5, .int x5), (6, .int x6), (7, .int x7)] [] := by
  refine pa_iload hE dX7_was_51 7 rfl ?_
  refine pa_if_lt hE dX7_was_53 (tgt := 91) (by decide) (fun h9 => ?_) (fun h9 => ?_)
  · have hw := Eq.mp (if_pos h9) hw
    refine pa_aload_n hE dX7_was_91 rfl 0 rfl ?_
    refine pg_24_6 hE (pa_m4 127 rfl rfl) dX7_was_92 ?_
    refine pa_iconst hE dX7_was_95 (v := 3) (by decide) ?_
    refine pa_iload_n hE dX7_was_96 rfl 1 rfl ?_
    refine pa_imul hE dX7_was_97 ?_
    refine pa_iload_n hE dX7_was_98 rfl 2 rfl ?_
    refine pa_iadd hE dX7_was_99 ?_
    refine pa_iload hE dX7_was_100 4 rfl ?_
    obtain ⟨h10, hw⟩ := hw
    refine ps_28 hE h10 dX7_was_102 (fun u11 eu11 => ?_)
    have hw := hw u11 eu11
    refine pa_iload_n hE dX7_was_103 rfl 3 rfl ?_
    refine pa_if_ne hE dX7_was_104 (tgt := 112) (by decide) (fun h12 => ?_) (fun h12 => ?_)
    · have hw := Eq.mp (if_neg h12) hw
      refine pa_iload hE dX7_was_112 6 rfl ?_
      exact pa_iret hE hr hw rfl dX7_was_114
    · have hw := Eq.mp (if_pos h12) hw
      refine pa_iload hE dX7_was_107 5 rfl ?_
      refine pa_goto hE dX7_was_109 (tgt := 114) (by decide) ?_
      exact pa_iret hE hr hw rfl dX7_was_114
  · have hw := Eq.mp (if_neg h9) hw
    refine pa_aload_n hE dX7_was_56 rfl 0 rfl ?_
    refine pg_24_6 hE (pa_m4 127 rfl rfl) dX7_was_57 ?_
    refine pa_iconst hE dX7_was_60 (v := 3) (by decide) ?_
    refine pa_iload_n hE dX7_was_61 rfl 1 rfl ?_
    refine pa_imul hE dX7_was_62 ?_
    refine pa_iload_n hE dX7_was_63 rfl 2 rfl ?_
    refine pa_iadd hE dX7_was_64 ?_
    refine pa_iload hE dX7_was_65 7 rfl ?_
    obtain ⟨h13, hw⟩ := hw
    refine ps_28 hE h13 dX7_was_67 (fun u14 eu14 => ?_)
    have hw := hw u14 eu14
    refine pa_aload_n hE dX7_was_68 rfl 0 rfl ?_
    refine pa_callVi hE (ct_X7_isSeen l g D q u14 _ hw) cv_RX7_368 pa_in24 rfl rfl rfl (pa_hR (by omega) (by decide)) rfl (Nat.le_of_ble_eq_true rfl) dX7_was_69 (fun r15 u16 hw => ?_)
    refine pa_if_ne hE dX7_was_72 (tgt := 78) (by decide) (fun h17 => ?_) (fun h17 => ?_)
    · have hw := Eq.mp (if_neg h17) hw
      refine pa_iinc hE dX7_was_78 (v := 1) 5 rfl (by decide) (by decide) (lvr := [(0, .ref (q 24 0)), (1, .int x1), (2, .int x2), (3, .int x3), (4, .int x4), (6, .int x6), (7, .int x7)]) rfl (fun v18 ev18 => ?_)
      have hw := hw v18 ev18
      refine pa_iload hE dX7_was_81 7 rfl ?_
      refine pa_istore hE dX7_was_83 (by decide) (lvr := [(5, .int v18), (0, .ref (q 24 0)), (1, .int x1), (2, .int x2), (3, .int x3), (4, .int x4), (7, .int x7)]) rfl ?_
      exact pa_sub [2, 3, 4, 5, 6, 1, 0, 7] rfl (tb_X7_was_85 hE hr hk51 hw)
    · have hw := Eq.mp (if_pos h17) hw
      refine pa_goto hE dX7_was_75 (tgt := 85) (by decide) ?_
      exact pa_sub [0, 1, 2, 3, 4, 5, 6, 7] rfl (tb_X7_was_85 hE hr hk51 hw)
def wl_X7_was_51 (post : Int32 → pa_S → Prop) : Nat → pa_S → Int32 → Int32 → Int32 → Int32 → Int32 → Int32 → Int32 → Prop
  | 0, _, _, _, _, _, _, _, _ => False
  | n + 1, u0, x1, x2, x3, x4, x5, x6, x7 => wb_X7_was_51 (fun u0 x1 x2 x3 x4 x5 x6 x7 => wl_X7_was_51 post n u0 x1 x2 x3 x4 x5 x6 x7) u0 x1 x2 x3 x4 x5 x6 x7 post
set_option maxRecDepth 100000 in
set_option maxHeartbeats 4000000 in
theorem tl_X7_was_51 {p : Program} {l : Launch} {e : Env} {s : State} {m : MethodId} {args : Array Value} {below : List Frame} {meth : Method} {c : Code} {A : Nat → Prop} {D : va_G} {g : pa_G} {q : Nat → Nat → Nat} {post : Int32 → pa_S → Prop} (hE : pa_Fx p s m args meth c A D g 8 cX7_was RX7) (hr : meth.sig.returnType = (some .int)) : ∀ (n : Nat) (u0 : pa_S) (x1 : Int32) (x2 : Int32) (x3 : Int32) (x4 : Int32) (x5 : Int32) (x6 : Int32) (x7 : Int32), wl_X7_was_51 post n u0 x1 x2 x3 x4 x5 x6 x7 → pa_At p l e (pa_rm 6) s m args below meth c (MQ below (pa_Qc g D q (fun r => some (.int r)) post A) args s 0 0 A) A D g 8 0 0 q u0 51 [(0, .ref (q 24 0)), (1, .int x1), (2, .int x2), (3, .int x3), (4, .int x4), (5, .int x5), (6, .int x6), (7, .int x7)] []
  | 0, _, _, _, _, _, _, _, _, hw => absurd hw (by simp only [wl_X7_was_51]; exact fun z => z)
  | n + 1, u0, x1, x2, x3, x4, x5, x6, x7, hw => tb_X7_was_51 hE hr (fun u0 x1 x2 x3 x4 x5 x6 x7  hw1 => tl_X7_was_51 hE hr  n u0 x1 x2 x3 x4 x5 x6 x7  hw1) hw
def wb_X7_was_0 (u0 : pa_S) (x1 : Int32) (x2 : Int32) (x3 : Int32) (post : Int32 → pa_S → Prop) : Prop :=
  (wp_X7_isHand u0 x1 (fun (r1 : Int32) => (if r1 = 0 then post (-1 : Int32) u0 else (wp_X7_isLine u0 x2 (fun (r3 : Int32) => (if r3 = 0 then post (-1 : Int32) u0 else (wp_X7_in u0 x3 0 1 (fun (r5 : Int32) => (if r5 = 0 then post (-1 : Int32) u0 else (vp_in ((3 * x1) + x2) 15) ∧ ∀ v8 : Int32, v8 = (pa_A u0 28 0 ((3 * x1) + x2).toNatClampNeg) → wl_X7_was_51 post 5000 u0 x1 x2 x3 v8 0 (-5 : Int32) 60)))))))))
set_option maxRecDepth 100000 in
set_option maxHeartbeats 4000000 in
theorem tb_X7_was_0 {p : Program} {l : Launch} {e : Env} {s : State} {m : MethodId} {args : Array Value} {below : List Frame} {meth : Method} {c : Code} {A : Nat → Prop} {D : va_G} {g : pa_G} {q : Nat → Nat → Nat} {u0 : pa_S} {x1 : Int32} {x2 : Int32} {x3 : Int32} {post : Int32 → pa_S → Prop} (hE : pa_Fx p s m args meth c A D g 8 cX7_was RX7) (hr : meth.sig.returnType = (some .int)) (hw : wb_X7_was_0 u0 x1 x2 x3 post) : pa_At p l e (pa_rm 6) s m args below meth c (MQ below (pa_Qc g D q (fun r => some (.int r)) post A) args s 0 0 A) A D g 8 0 0 q u0 0 [(0, .ref (q 24 0)), (1, .int x1), (2, .int x2), (3, .int x3)] [] := by
  refine pa_aload_n hE dX7_was_0 rfl 0 rfl ?_
  refine pa_iload_n hE dX7_was_1 rfl 1 rfl ?_
  refine pa_callVri hE (ct_X7_isHand l g D q u0 x1 _ hw) cv_RX7_229 pa_in24 rfl rfl rfl (pa_hR (by omega) (by decide)) rfl (Nat.le_of_ble_eq_true rfl) dX7_was_2 (fun r1 hw => ?_)
  refine pa_if_eq hE dX7_was_5 (tgt := 26) (by decide) (fun h2 => ?_) (fun h2 => ?_)
  · have hw := Eq.mp (if_pos h2) hw
    refine pa_iconst hE dX7_was_26 (v := (-1 : Int32)) (by decide) ?_
    exact pa_iret hE hr hw rfl dX7_was_27
  · have hw := Eq.mp (if_neg h2) hw
    refine pa_aload_n hE dX7_was_8 rfl 0 rfl ?_
    refine pa_iload_n hE dX7_was_9 rfl 2 rfl ?_
    refine pa_callVri hE (ct_X7_isLine l g D q u0 x2 _ hw) cv_RX7_232 pa_in24 rfl rfl rfl (pa_hR (by omega) (by decide)) rfl (Nat.le_of_ble_eq_true rfl) dX7_was_10 (fun r3 hw => ?_)
    refine pa_if_eq hE dX7_was_13 (tgt := 26) (by decide) (fun h4 => ?_) (fun h4 => ?_)
    · have hw := Eq.mp (if_pos h4) hw
      refine pa_iconst hE dX7_was_26 (v := (-1 : Int32)) (by decide) ?_
      exact pa_iret hE hr hw rfl dX7_was_27
    · have hw := Eq.mp (if_neg h4) hw
      refine pa_aload_n hE dX7_was_16 rfl 0 rfl ?_
      refine pa_iload_n hE dX7_was_17 rfl 3 rfl ?_
      refine pa_iconst hE dX7_was_18 (v := 0) (by decide) ?_
      refine pa_iconst hE dX7_was_19 (v := 1) (by decide) ?_
      refine pa_callVri hE (ct_X7_in l g D q u0 x3 0 1 _ hw) cv_RX7_221 pa_in24 rfl rfl rfl (pa_hR (by omega) (by decide)) rfl (Nat.le_of_ble_eq_true rfl) dX7_was_20 (fun r5 hw => ?_)
      refine pa_if_ne hE dX7_was_23 (tgt := 28) (by decide) (fun h6 => ?_) (fun h6 => ?_)
      · have hw := Eq.mp (if_neg h6) hw
        refine pa_aload_n hE dX7_was_28 rfl 0 rfl ?_
        refine pg_24_6 hE (pa_m4 127 rfl rfl) dX7_was_29 ?_
        refine pa_iconst hE dX7_was_32 (v := 3) (by decide) ?_
        refine pa_iload_n hE dX7_was_33 rfl 1 rfl ?_
        refine pa_imul hE dX7_was_34 ?_
        refine pa_iload_n hE dX7_was_35 rfl 2 rfl ?_
        refine pa_iadd hE dX7_was_36 ?_
        obtain ⟨h7, hw⟩ := hw
        refine pl_28 hE h7 dX7_was_37 ?_
        refine pa_namei (fun v8 ev8 => ?_)
        have hw := hw v8 ev8
        refine pa_istore hE dX7_was_38 (by decide) (lvr := [(0, .ref (q 24 0)), (1, .int x1), (2, .int x2), (3, .int x3)]) rfl ?_
        refine pa_iconst hE dX7_was_40 (v := 0) (by decide) ?_
        refine pa_istore hE dX7_was_41 (by decide) (lvr := [(4, .int v8), (0, .ref (q 24 0)), (1, .int x1), (2, .int x2), (3, .int x3)]) rfl ?_
        refine pa_bipush hE dX7_was_43 (v := (-5 : Int32)) (by decide) ?_
        refine pa_istore hE dX7_was_45 (by decide) (lvr := [(5, .int 0), (4, .int v8), (0, .ref (q 24 0)), (1, .int x1), (2, .int x2), (3, .int x3)]) rfl ?_
        refine pa_bipush hE dX7_was_47 (v := 60) (by decide) ?_
        refine pa_istore hE dX7_was_49 (by decide) (lvr := [(6, .int (-5 : Int32)), (5, .int 0), (4, .int v8), (0, .ref (q 24 0)), (1, .int x1), (2, .int x2), (3, .int x3)]) rfl ?_
        exact pa_sub [4, 5, 6, 7, 3, 2, 1, 0] rfl (tl_X7_was_51 hE hr 5000 u0 x1 x2 x3 v8 0 (-5 : Int32) 60 hw)
      · have hw := Eq.mp (if_pos h6) hw
        refine pa_iconst hE dX7_was_26 (v := (-1 : Int32)) (by decide) ?_
        exact pa_iret hE hr hw rfl dX7_was_27
def wp_X7_was (u0 : pa_S) (x1 : Int32) (x2 : Int32) (x3 : Int32) (post : Int32 → pa_S → Prop) : Prop := wb_X7_was_0 u0 x1 x2 x3 post
theorem ct_X7_was (l : Launch) (g : pa_G) (D : va_G) (q : Nat → Nat → Nat) (u0 : pa_S) (x1 : Int32) (x2 : Int32) (x3 : Int32) (post : Int32 → pa_S → Prop)  (hw : wp_X7_was u0 x1 x2 x3 post) : pa_Ct l yX7_was cX7_was 8 (some .int) 6 g D q u0 [.ref (q 24 0), .int x1, .int x2, .int x3] (fun r => some (.int r)) post := pa_met rfl rfl (Nat.le_of_ble_eq_true rfl) rfl (fun p e s m args below meth c A hE hr => tb_X7_was_0 hE hr  hw)
def wb_X7_can_68 (k38 : pa_S → Int32 → Int32 → Int32 → Int32 → Int32 → Int32 → Prop) (u0 : pa_S) (x1 : Int32) (x2 : Int32) (x3 : Int32) (x4 : Int32) (x5 : Int32) (x6 : Int32) (post : Int32 → pa_S → Prop) : Prop :=
  ∀ v17 : Int32, v17 = x6 + (-1 : Int32) → k38 u0 x1 x2 x3 x4 x5 v17
set_option maxRecDepth 100000 in
set_option maxHeartbeats 4000000 in
theorem tb_X7_can_68 {p : Program} {l : Launch} {e : Env} {s : State} {m : MethodId} {args : Array Value} {below : List Frame} {meth : Method} {c : Code} {A : Nat → Prop} {D : va_G} {g : pa_G} {q : Nat → Nat → Nat} {k38 : pa_S → Int32 → Int32 → Int32 → Int32 → Int32 → Int32 → Prop} {u0 : pa_S} {x1 : Int32} {x2 : Int32} {x3 : Int32} {x4 : Int32} {x5 : Int32} {x6 : Int32} {post : Int32 → pa_S → Prop} (hE : pa_Fx p s m args meth c A D g 7 cX7_can RX7) (hr : meth.sig.returnType = (some .int)) (hk38 : ∀ (u : pa_S)  (x1 : Int32) (x2 : Int32) (x3 : Int32) (x4 : Int32) (x5 : Int32) (x6 : Int32), k38 u x1 x2 x3 x4 x5 x6 → pa_At p l e (pa_rm 6) s m args below meth c (MQ below (pa_Qc g D q (fun r => some (.int r)) post A) args s 0 0 A) A D g 7 0 0 q u 38 [(0, .ref (q 24 0)), (1, .int x1), (2, .int x2), (3, .int x3), (4, .int x4), (5, .int x5), (6, .int x6)] []) (hw : wb_X7_can_68 k38 u0 x1 x2 x3 x4 x5 x6 post) : pa_At p l e (pa_rm 6) s m args below meth c (MQ below (pa_Qc g D q (fun r => some (.int r)) post A) args s 0 0 A) A D g 7 0 0 q u0 68 [(0, .ref (q 24 0)), (1, .int x1), (2, .int x2), (3, .int x3), (4, .int x4), (5, .int x5), (6, .int x6)] [] := by
  refine pa_iinc hE dX7_can_68 (v := (-1 : Int32)) 6 rfl (by decide) (by decide) (lvr := [(0, .ref (q 24 0)), (1, .int x1), (2, .int x2), (3, .int x3), (4, .int x4), (5, .int x5)]) rfl (fun v17 ev17 => ?_)
  have hw := hw v17 ev17
  refine pa_goto hE dX7_can_71 (tgt := 38) (by decide) ?_
  exact pa_sub [1, 2, 3, 4, 5, 6, 0] rfl (hk38 u0 x1 x2 x3 x4 x5 v17 hw)
def wb_X7_can_38 (k38 : pa_S → Int32 → Int32 → Int32 → Int32 → Int32 → Int32 → Prop) (u0 : pa_S) (x1 : Int32) (x2 : Int32) (x3 : Int32) (x4 : Int32) (x5 : Int32) (x6 : Int32) (post : Int32 → pa_S → Prop) : Prop :=
  (if x6 < 0 then (vp_in x1 5) ∧ ∀ u9 : pa_S, u9 = pa_sA u0 26 0 (upd (pa_A u0 26 0) x1.toNatClampNeg x3) → (if x2 = 0 then post x4 u9 else post x5 u9) else (vp_in x1 5) ∧ ∀ u12 : pa_S, u12 = pa_sA u0 26 0 (upd (pa_A u0 26 0) x1.toNatClampNeg x6) → (wp_X7_isSeen u12 (fun (r13 : Int32) (u14 : pa_S) => (if r13 = 0 then wb_X7_can_68 k38 u14 x1 x2 x3 x4 x5 x6 post else ∀ v16 : Int32, v16 = x4 + 1 → wb_X7_can_68 k38 u14 x1 x2 x3 v16 x6 x6 post))))
set_option maxRecDepth 100000 in
set_option maxHeartbeats 4000000 in
theorem tb_X7_can_38 {p : Program} {l : Launch} {e : Env} {s : State} {m : MethodId} {args : Array Value} {below : List Frame} {meth : Method} {c : Code} {A : Nat → Prop} {D : va_G} {g : pa_G} {q : Nat → Nat → Nat} {k38 : pa_S → Int32 → Int32 → Int32 → Int32 → Int32 → Int32 → Prop} {u0 : pa_S} {x1 : Int32} {x2 : Int32} {x3 : Int32} {x4 : Int32} {x5 : Int32} {x6 : Int32} {post : Int32 → pa_S → Prop} (hE : pa_Fx p s m args meth c A D g 7 cX7_can RX7) (hr : meth.sig.returnType = (some .int)) (hk38 : ∀ (u : pa_S)  (x1 : Int32) (x2 : Int32) (x3 : Int32) (x4 : Int32) (x5 : Int32) (x6 : Int32), k38 u x1 x2 x3 x4 x5 x6 → pa_At p l e (pa_rm 6) s m args below meth c (MQ below (pa_Qc g D q (fun r => some (.int r)) post A) args s 0 0 A) A D g 7 0 0 q u 38 [(0, .ref (q 24 0)), (1, .int x1), (2, .int x2), (3, .int x3), (4, .int x4), (5, .int x5), (6, .int x6)] []) (hw : wb_X7_can_38 k38 u0 x1 x2 x3 x4 x5 x6 post) : pa_At p l e (pa_rm 6) s m args below meth c (MQ below (pa_Qc g D q (fun r => some (.int r)) post A) args s 0 0 A) A D g 7 0 0 q u0 38 [(0, .ref (q 24 0)), (1, .int x1), (2, .int x2), (3, .int x3), (4, .int x4), (5, .int x5), (6, .int x6)] [] := by
  refine pa_iload hE dX7_can_38 6 rfl ?_
  refine pa_if_lt hE dX7_can_40 (tgt := 74) (by decide) (fun h7 => ?_) (fun h7 => ?_)
  · have hw := Eq.mp (if_pos h7) hw
    refine pa_aload_n hE dX7_can_74 rfl 0 rfl ?_
    refine pg_24_4 hE (pa_m4 125 rfl rfl) dX7_can_75 ?_
    refine pa_iload_n hE dX7_can_78 rfl 1 rfl ?_
    refine pa_iload_n hE dX7_can_79 rfl 3 rfl ?_
    obtain ⟨h8, hw⟩ := hw
    refine ps_26 hE h8 dX7_can_80 (fun u9 eu9 => ?_)
    have hw := hw u9 eu9
    refine pa_iload_n hE dX7_can_81 rfl 2 rfl ?_
    refine pa_if_ne hE dX7_can_82 (tgt := 90) (by decide) (fun h10 => ?_) (fun h10 => ?_)
    · have hw := Eq.mp (if_neg h10) hw
      refine pa_iload hE dX7_can_90 5 rfl ?_
      exact pa_iret hE hr hw rfl dX7_can_92
    · have hw := Eq.mp (if_pos h10) hw
      refine pa_iload hE dX7_can_85 4 rfl ?_
      refine pa_goto hE dX7_can_87 (tgt := 92) (by decide) ?_
      exact pa_iret hE hr hw rfl dX7_can_92
  · have hw := Eq.mp (if_neg h7) hw
    refine pa_aload_n hE dX7_can_43 rfl 0 rfl ?_
    refine pg_24_4 hE (pa_m4 125 rfl rfl) dX7_can_44 ?_
    refine pa_iload_n hE dX7_can_47 rfl 1 rfl ?_
    refine pa_iload hE dX7_can_48 6 rfl ?_
    obtain ⟨h11, hw⟩ := hw
    refine ps_26 hE h11 dX7_can_50 (fun u12 eu12 => ?_)
    have hw := hw u12 eu12
    refine pa_aload_n hE dX7_can_51 rfl 0 rfl ?_
    refine pa_callVi hE (ct_X7_isSeen l g D q u12 _ hw) cv_RX7_368 pa_in24 rfl rfl rfl (pa_hR (by omega) (by decide)) rfl (Nat.le_of_ble_eq_true rfl) dX7_can_52 (fun r13 u14 hw => ?_)
    refine pa_if_ne hE dX7_can_55 (tgt := 61) (by decide) (fun h15 => ?_) (fun h15 => ?_)
    · have hw := Eq.mp (if_neg h15) hw
      refine pa_iinc hE dX7_can_61 (v := 1) 4 rfl (by decide) (by decide) (lvr := [(0, .ref (q 24 0)), (1, .int x1), (2, .int x2), (3, .int x3), (5, .int x5), (6, .int x6)]) rfl (fun v16 ev16 => ?_)
      have hw := hw v16 ev16
      refine pa_iload hE dX7_can_64 6 rfl ?_
      refine pa_istore hE dX7_can_66 (by decide) (lvr := [(4, .int v16), (0, .ref (q 24 0)), (1, .int x1), (2, .int x2), (3, .int x3), (6, .int x6)]) rfl ?_
      exact pa_sub [2, 3, 4, 5, 1, 0, 6] rfl (tb_X7_can_68 hE hr hk38 hw)
    · have hw := Eq.mp (if_pos h15) hw
      refine pa_goto hE dX7_can_58 (tgt := 68) (by decide) ?_
      exact pa_sub [0, 1, 2, 3, 4, 5, 6] rfl (tb_X7_can_68 hE hr hk38 hw)
def wl_X7_can_38 (post : Int32 → pa_S → Prop) : Nat → pa_S → Int32 → Int32 → Int32 → Int32 → Int32 → Int32 → Prop
  | 0, _, _, _, _, _, _, _ => False
  | n + 1, u0, x1, x2, x3, x4, x5, x6 => wb_X7_can_38 (fun u0 x1 x2 x3 x4 x5 x6 => wl_X7_can_38 post n u0 x1 x2 x3 x4 x5 x6) u0 x1 x2 x3 x4 x5 x6 post
set_option maxRecDepth 100000 in
set_option maxHeartbeats 4000000 in
theorem tl_X7_can_38 {p : Program} {l : Launch} {e : Env} {s : State} {m : MethodId} {args : Array Value} {below : List Frame} {meth : Method} {c : Code} {A : Nat → Prop} {D : va_G} {g : pa_G} {q : Nat → Nat → Nat} {post : Int32 → pa_S → Prop} (hE : pa_Fx p s m args meth c A D g 7 cX7_can RX7) (hr : meth.sig.returnType = (some .int)) : ∀ (n : Nat) (u0 : pa_S) (x1 : Int32) (x2 : Int32) (x3 : Int32) (x4 : Int32) (x5 : Int32) (x6 : Int32), wl_X7_can_38 post n u0 x1 x2 x3 x4 x5 x6 → pa_At p l e (pa_rm 6) s m args below meth c (MQ below (pa_Qc g D q (fun r => some (.int r)) post A) args s 0 0 A) A D g 7 0 0 q u0 38 [(0, .ref (q 24 0)), (1, .int x1), (2, .int x2), (3, .int x3), (4, .int x4), (5, .int x5), (6, .int x6)] []
  | 0, _, _, _, _, _, _, _, hw => absurd hw (by simp only [wl_X7_can_38]; exact fun z => z)
  | n + 1, u0, x1, x2, x3, x4, x5, x6, hw => tb_X7_can_38 hE hr (fun u0 x1 x2 x3 x4 x5 x6  hw1 => tl_X7_can_38 hE hr  n u0 x1 x2 x3 x4 x5 x6  hw1) hw
def wb_X7_can_0 (u0 : pa_S) (x1 : Int32) (x2 : Int32) (post : Int32 → pa_S → Prop) : Prop :=
  (wp_X7_isHand u0 x1 (fun (r1 : Int32) => (if r1 = 0 then post (-1 : Int32) u0 else (wp_X7_in u0 x2 0 1 (fun (r3 : Int32) => (if r3 = 0 then post (-1 : Int32) u0 else (vp_in x1 5) ∧ ∀ v6 : Int32, v6 = (pa_A u0 26 0 x1.toNatClampNeg) → wl_X7_can_38 post 5000 u0 x1 x2 v6 0 (-5 : Int32) 9))))))
set_option maxRecDepth 100000 in
set_option maxHeartbeats 4000000 in
theorem tb_X7_can_0 {p : Program} {l : Launch} {e : Env} {s : State} {m : MethodId} {args : Array Value} {below : List Frame} {meth : Method} {c : Code} {A : Nat → Prop} {D : va_G} {g : pa_G} {q : Nat → Nat → Nat} {u0 : pa_S} {x1 : Int32} {x2 : Int32} {post : Int32 → pa_S → Prop} (hE : pa_Fx p s m args meth c A D g 7 cX7_can RX7) (hr : meth.sig.returnType = (some .int)) (hw : wb_X7_can_0 u0 x1 x2 post) : pa_At p l e (pa_rm 6) s m args below meth c (MQ below (pa_Qc g D q (fun r => some (.int r)) post A) args s 0 0 A) A D g 7 0 0 q u0 0 [(0, .ref (q 24 0)), (1, .int x1), (2, .int x2)] [] := by
  refine pa_aload_n hE dX7_can_0 rfl 0 rfl ?_
  refine pa_iload_n hE dX7_can_1 rfl 1 rfl ?_
  refine pa_callVri hE (ct_X7_isHand l g D q u0 x1 _ hw) cv_RX7_229 pa_in24 rfl rfl rfl (pa_hR (by omega) (by decide)) rfl (Nat.le_of_ble_eq_true rfl) dX7_can_2 (fun r1 hw => ?_)
  refine pa_if_eq hE dX7_can_5 (tgt := 18) (by decide) (fun h2 => ?_) (fun h2 => ?_)
  · have hw := Eq.mp (if_pos h2) hw
    refine pa_iconst hE dX7_can_18 (v := (-1 : Int32)) (by decide) ?_
    exact pa_iret hE hr hw rfl dX7_can_19
  · have hw := Eq.mp (if_neg h2) hw
    refine pa_aload_n hE dX7_can_8 rfl 0 rfl ?_
    refine pa_iload_n hE dX7_can_9 rfl 2 rfl ?_
    refine pa_iconst hE dX7_can_10 (v := 0) (by decide) ?_
    refine pa_iconst hE dX7_can_11 (v := 1) (by decide) ?_
    refine pa_callVri hE (ct_X7_in l g D q u0 x2 0 1 _ hw) cv_RX7_221 pa_in24 rfl rfl rfl (pa_hR (by omega) (by decide)) rfl (Nat.le_of_ble_eq_true rfl) dX7_can_12 (fun r3 hw => ?_)
    refine pa_if_ne hE dX7_can_15 (tgt := 20) (by decide) (fun h4 => ?_) (fun h4 => ?_)
    · have hw := Eq.mp (if_neg h4) hw
      refine pa_aload_n hE dX7_can_20 rfl 0 rfl ?_
      refine pg_24_4 hE (pa_m4 125 rfl rfl) dX7_can_21 ?_
      refine pa_iload_n hE dX7_can_24 rfl 1 rfl ?_
      obtain ⟨h5, hw⟩ := hw
      refine pl_26 hE h5 dX7_can_25 ?_
      refine pa_namei (fun v6 ev6 => ?_)
      have hw := hw v6 ev6
      refine pa_istore_n hE dX7_can_26 rfl (by decide) (lvr := [(0, .ref (q 24 0)), (1, .int x1), (2, .int x2)]) rfl ?_
      refine pa_iconst hE dX7_can_27 (v := 0) (by decide) ?_
      refine pa_istore hE dX7_can_28 (by decide) (lvr := [(3, .int v6), (0, .ref (q 24 0)), (1, .int x1), (2, .int x2)]) rfl ?_
      refine pa_bipush hE dX7_can_30 (v := (-5 : Int32)) (by decide) ?_
      refine pa_istore hE dX7_can_32 (by decide) (lvr := [(4, .int 0), (3, .int v6), (0, .ref (q 24 0)), (1, .int x1), (2, .int x2)]) rfl ?_
      refine pa_bipush hE dX7_can_34 (v := 9) (by decide) ?_
      refine pa_istore hE dX7_can_36 (by decide) (lvr := [(5, .int (-5 : Int32)), (4, .int 0), (3, .int v6), (0, .ref (q 24 0)), (1, .int x1), (2, .int x2)]) rfl ?_
      exact pa_sub [4, 5, 6, 3, 2, 1, 0] rfl (tl_X7_can_38 hE hr 5000 u0 x1 x2 v6 0 (-5 : Int32) 9 hw)
    · have hw := Eq.mp (if_pos h4) hw
      refine pa_iconst hE dX7_can_18 (v := (-1 : Int32)) (by decide) ?_
      exact pa_iret hE hr hw rfl dX7_can_19
def wp_X7_can (u0 : pa_S) (x1 : Int32) (x2 : Int32) (post : Int32 → pa_S → Prop) : Prop := wb_X7_can_0 u0 x1 x2 post
theorem ct_X7_can (l : Launch) (g : pa_G) (D : va_G) (q : Nat → Nat → Nat) (u0 : pa_S) (x1 : Int32) (x2 : Int32) (post : Int32 → pa_S → Prop)  (hw : wp_X7_can u0 x1 x2 post) : pa_Ct l yX7_can cX7_can 7 (some .int) 6 g D q u0 [.ref (q 24 0), .int x1, .int x2] (fun r => some (.int r)) post := pa_met rfl rfl (Nat.le_of_ble_eq_true rfl) rfl (fun p e s m args below meth c A hE hr => tb_X7_can_0 hE hr  hw)
def wb_X7_divisor_5 (k5 : Int32 → Int32 → Prop) (u0 : pa_S) (x3 : Int32) (x4 : Int32) (post : Int32 → Prop) : Prop :=
  (if x4 = 0 then post x3 else (¬ x4 = 0) ∧ ∀ v3 : Int32, v3 = (pa_rem x3 x4) → k5 x4 v3)
set_option maxRecDepth 100000 in
set_option maxHeartbeats 4000000 in
theorem tb_X7_divisor_5 {p : Program} {l : Launch} {e : Env} {s : State} {m : MethodId} {args : Array Value} {below : List Frame} {meth : Method} {c : Code} {A : Nat → Prop} {D : va_G} {g : pa_G} {q : Nat → Nat → Nat} {k5 : Int32 → Int32 → Prop} {u0 : pa_S} {x3 : Int32} {x4 : Int32} {post : Int32 → Prop} (hE : pa_Fx p s m args meth c A D g 6 cX7_divisor RX7) (hr : meth.sig.returnType = (some .int)) (hk5 : ∀ (x3 : Int32) (x4 : Int32), k5 x3 x4 → pa_At p l e (pa_rm 2) s m args below meth c (MQ below (pa_Qc g D q (fun r => some (.int r)) (fun r u => u = u0 ∧ post r) A) args s 0 0 A) A D g 6 0 0 q u0 5 [(3, .int x3), (4, .int x4)] []) (hw : wb_X7_divisor_5 k5 u0 x3 x4 post) : pa_At p l e (pa_rm 2) s m args below meth c (MQ below (pa_Qc g D q (fun r => some (.int r)) (fun r u => u = u0 ∧ post r) A) args s 0 0 A) A D g 6 0 0 q u0 5 [(3, .int x3), (4, .int x4)] [] := by
  refine pa_iload hE dX7_divisor_5 1 rfl ?_
  refine pa_if_eq hE dX7_divisor_7 (tgt := 26) (by decide) (fun h1 => ?_) (fun h1 => ?_)
  · have hw := Eq.mp (if_pos h1) hw
    refine pa_iload_n hE dX7_divisor_26 rfl 0 rfl ?_
    exact pa_iret hE hr ⟨rfl, hw⟩ rfl dX7_divisor_27
  · have hw := Eq.mp (if_neg h1) hw
    refine pa_iload_n hE dX7_divisor_10 rfl 0 rfl ?_
    refine pa_iload hE dX7_divisor_11 1 rfl ?_
    obtain ⟨h2, hw⟩ := hw
    refine pa_irem hE dX7_divisor_13 h2 ?_
    refine pa_namei (fun v3 ev3 => ?_)
    have hw := hw v3 ev3
    refine pa_istore hE dX7_divisor_14 (by decide) (lvr := [(3, .int x3), (4, .int x4)]) rfl ?_
    refine pa_iload hE dX7_divisor_16 2 rfl ?_
    refine pa_istore_n hE dX7_divisor_18 rfl (by decide) (lvr := [(5, .int v3), (4, .int x4)]) rfl ?_
    refine pa_iload hE dX7_divisor_19 1 rfl ?_
    refine pa_istore hE dX7_divisor_21 (by decide) (lvr := [(3, .int x4), (5, .int v3)]) rfl ?_
    refine pa_goto hE dX7_divisor_23 (tgt := 5) (by decide) ?_
    exact pa_sub [1, 0] rfl (hk5 x4 v3 hw)
def wl_X7_divisor_5 (post : Int32 → Prop) (u0 : pa_S) : Nat → Int32 → Int32 → Prop
  | 0, _, _ => False
  | n + 1, x3, x4 => wb_X7_divisor_5 (fun x3 x4 => wl_X7_divisor_5 post u0 n x3 x4) u0 x3 x4 post
set_option maxRecDepth 100000 in
set_option maxHeartbeats 4000000 in
theorem tl_X7_divisor_5 {p : Program} {l : Launch} {e : Env} {s : State} {m : MethodId} {args : Array Value} {below : List Frame} {meth : Method} {c : Code} {A : Nat → Prop} {D : va_G} {g : pa_G} {q : Nat → Nat → Nat} {u0 : pa_S} {post : Int32 → Prop} (hE : pa_Fx p s m args meth c A D g 6 cX7_divisor RX7) (hr : meth.sig.returnType = (some .int)) : ∀ (n : Nat) (x3 : Int32) (x4 : Int32), wl_X7_divisor_5 post u0 n x3 x4 → pa_At p l e (pa_rm 2) s m args below meth c (MQ below (pa_Qc g D q (fun r => some (.int r)) (fun r u => u = u0 ∧ post r) A) args s 0 0 A) A D g 6 0 0 q u0 5 [(3, .int x3), (4, .int x4)] []
  | 0, _, _, hw => absurd hw (by simp only [wl_X7_divisor_5]; exact fun z => z)
  | n + 1, x3, x4, hw => tb_X7_divisor_5 hE hr (fun x3 x4  hw1 => tl_X7_divisor_5 hE hr  n x3 x4  hw1) hw
def wb_X7_divisor_0 (u0 : pa_S) (x1 : Int32) (x2 : Int32) (post : Int32 → Prop) : Prop :=
  wl_X7_divisor_5 post u0 5000 x1 x2
set_option maxRecDepth 100000 in
set_option maxHeartbeats 4000000 in
theorem tb_X7_divisor_0 {p : Program} {l : Launch} {e : Env} {s : State} {m : MethodId} {args : Array Value} {below : List Frame} {meth : Method} {c : Code} {A : Nat → Prop} {D : va_G} {g : pa_G} {q : Nat → Nat → Nat} {u0 : pa_S} {x1 : Int32} {x2 : Int32} {post : Int32 → Prop} (hE : pa_Fx p s m args meth c A D g 6 cX7_divisor RX7) (hr : meth.sig.returnType = (some .int)) (hw : wb_X7_divisor_0 u0 x1 x2 post) : pa_At p l e (pa_rm 2) s m args below meth c (MQ below (pa_Qc g D q (fun r => some (.int r)) (fun r u => u = u0 ∧ post r) A) args s 0 0 A) A D g 6 0 0 q u0 0 [(0, .ref (q 24 0)), (1, .int x1), (2, .int x2)] [] := by
  refine pa_iload_n hE dX7_divisor_0 rfl 1 rfl ?_
  refine pa_istore_n hE dX7_divisor_1 rfl (by decide) (lvr := [(0, .ref (q 24 0)), (1, .int x1), (2, .int x2)]) rfl ?_
  refine pa_iload_n hE dX7_divisor_2 rfl 3 rfl ?_
  refine pa_istore hE dX7_divisor_3 (by decide) (lvr := [(3, .int x1), (0, .ref (q 24 0)), (1, .int x1), (2, .int x2)]) rfl ?_
  exact pa_sub [1, 0] rfl (tl_X7_divisor_5 hE hr 5000 x1 x2 hw)
def wp_X7_divisor (u0 : pa_S) (x1 : Int32) (x2 : Int32) (post : Int32 → Prop) : Prop := wb_X7_divisor_0 u0 x1 x2 post
theorem ct_X7_divisor (l : Launch) (g : pa_G) (D : va_G) (q : Nat → Nat → Nat) (u0 : pa_S) (x1 : Int32) (x2 : Int32) (post : Int32 → Prop)  (hw : wp_X7_divisor u0 x1 x2 post) : pa_Ct l yX7_divisor cX7_divisor 6 (some .int) 2 g D q u0 [.ref (q 24 0), .int x1, .int x2] (fun r => some (.int r)) (fun r u => u = u0 ∧ post r) := pa_met rfl rfl (Nat.le_of_ble_eq_true rfl) rfl (fun p e s m args below meth c A hE hr => tb_X7_divisor_0 hE hr  hw)
def wb_X7_lowest_0 (u0 : pa_S) (x1 : Int32) (x2 : Int32) (x3 : Int32) (post : Int64 → Prop) : Prop :=
  (wp_X7_divisor u0 x1 x2 (fun (r1 : Int32) => (if x3 = 0 then (¬ r1 = 0) ∧ post ((x1 / r1).toInt64) else (¬ r1 = 0) ∧ post ((x2 / r1).toInt64))))
set_option maxRecDepth 100000 in
set_option maxHeartbeats 4000000 in
theorem tb_X7_lowest_0 {p : Program} {l : Launch} {e : Env} {s : State} {m : MethodId} {args : Array Value} {below : List Frame} {meth : Method} {c : Code} {A : Nat → Prop} {D : va_G} {g : pa_G} {q : Nat → Nat → Nat} {u0 : pa_S} {x1 : Int32} {x2 : Int32} {x3 : Int32} {post : Int64 → Prop} (hE : pa_Fx p s m args meth c A D g 5 cX7_lowest RX7) (hr : meth.sig.returnType = (some .long)) (hw : wb_X7_lowest_0 u0 x1 x2 x3 post) : pa_At p l e (pa_rm 3) s m args below meth c (MQ below (pa_Qc g D q (fun r => some (.long r)) (fun r u => u = u0 ∧ post r) A) args s 0 0 A) A D g 5 0 0 q u0 0 [(0, .ref (q 24 0)), (1, .int x1), (2, .int x2), (3, .int x3)] [] := by
  refine pa_aload_n hE dX7_lowest_0 rfl 0 rfl ?_
  refine pa_iload_n hE dX7_lowest_1 rfl 1 rfl ?_
  refine pa_iload_n hE dX7_lowest_2 rfl 2 rfl ?_
  refine pa_callVri hE (ct_X7_divisor l g D q u0 x1 x2 _ hw) cv_RX7_371 pa_in24 rfl rfl rfl (pa_hR (by omega) (by decide)) rfl (Nat.le_of_ble_eq_true rfl) dX7_lowest_3 (fun r1 hw => ?_)
  refine pa_istore hE dX7_lowest_6 (by decide) (lvr := [(0, .ref (q 24 0)), (1, .int x1), (2, .int x2), (3, .int x3)]) rfl ?_
  refine pa_iload_n hE dX7_lowest_8 rfl 4 rfl ?_
  refine pa_if_ne hE dX7_lowest_9 (tgt := 20) (by decide) (fun h2 => ?_) (fun h2 => ?_)
  · have hw := Eq.mp (if_neg h2) hw
    refine pa_iload_n hE dX7_lowest_20 rfl 3 rfl ?_
    refine pa_iload hE dX7_lowest_21 0 rfl ?_
    obtain ⟨h3, hw⟩ := hw
    refine pa_idiv hE dX7_lowest_23 h3 ?_
    refine pa_i2l hE dX7_lowest_24 ?_
    exact pa_lret hE hr ⟨rfl, hw⟩ rfl dX7_lowest_25
  · have hw := Eq.mp (if_pos h2) hw
    refine pa_iload_n hE dX7_lowest_12 rfl 2 rfl ?_
    refine pa_iload hE dX7_lowest_13 0 rfl ?_
    obtain ⟨h4, hw⟩ := hw
    refine pa_idiv hE dX7_lowest_15 h4 ?_
    refine pa_i2l hE dX7_lowest_16 ?_
    refine pa_goto hE dX7_lowest_17 (tgt := 25) (by decide) ?_
    exact pa_lret hE hr ⟨rfl, hw⟩ rfl dX7_lowest_25
def wp_X7_lowest (u0 : pa_S) (x1 : Int32) (x2 : Int32) (x3 : Int32) (post : Int64 → Prop) : Prop := wb_X7_lowest_0 u0 x1 x2 x3 post
theorem ct_X7_lowest (l : Launch) (g : pa_G) (D : va_G) (q : Nat → Nat → Nat) (u0 : pa_S) (x1 : Int32) (x2 : Int32) (x3 : Int32) (post : Int64 → Prop)  (hw : wp_X7_lowest u0 x1 x2 x3 post) : pa_Ct l yX7_lowest cX7_lowest 5 (some .long) 3 g D q u0 [.ref (q 24 0), .int x1, .int x2, .int x3] (fun r => some (.long r)) (fun r u => u = u0 ∧ post r) := pa_met rfl rfl (Nat.le_of_ble_eq_true rfl) rfl (fun p e s m args below meth c A hE hr => tb_X7_lowest_0 hE hr  hw)
def wb_X7_odds_76 (k39 : pa_S → Int32 → Int32 → Int32 → Int32 → Prop) (u0 : pa_S) (x1 : Int32) (x2 : Int32) (x4 : Int32) (y0 : Int32) (y1 : Int32) (post : Int64 → pa_S → Prop) : Prop :=
  ∀ v15 : Int32, v15 = (y0 + y1) → ∀ v16 : Int32, v16 = x4 + 1 → k39 u0 x1 x2 v15 v16
set_option maxRecDepth 100000 in
set_option maxHeartbeats 4000000 in
theorem tb_X7_odds_76 {p : Program} {l : Launch} {e : Env} {s : State} {m : MethodId} {args : Array Value} {below : List Frame} {meth : Method} {c : Code} {A : Nat → Prop} {D : va_G} {g : pa_G} {q : Nat → Nat → Nat} {k39 : pa_S → Int32 → Int32 → Int32 → Int32 → Prop} {u0 : pa_S} {x1 : Int32} {x2 : Int32} {x4 : Int32} {y0 : Int32} {y1 : Int32} {post : Int64 → pa_S → Prop} (hE : pa_Fx p s m args meth c A D g 5 cX7_odds RX7) (hr : meth.sig.returnType = (some .long)) (hk39 : ∀ (u : pa_S)  (x1 : Int32) (x2 : Int32) (x3 : Int32) (x4 : Int32), k39 u x1 x2 x3 x4 → pa_At p l e (pa_rm 9) s m args below meth c (MQ below (pa_Qc g D q (fun r => some (.long r)) post A) args s 0 0 A) A D g 5 0 0 q u 39 [(0, .ref (q 24 0)), (1, .int x1), (2, .int x2), (3, .int x3), (4, .int x4)] []) (hw : wb_X7_odds_76 k39 u0 x1 x2 x4 y0 y1 post) : pa_At p l e (pa_rm 9) s m args below meth c (MQ below (pa_Qc g D q (fun r => some (.long r)) post A) args s 0 0 A) A D g 5 0 0 q u0 76 [(0, .ref (q 24 0)), (1, .int x1), (2, .int x2), (4, .int x4)] [.int y1, .int y0] := by
  refine pa_iadd hE dX7_odds_76 ?_
  refine pa_namei (fun v15 ev15 => ?_)
  have hw := hw v15 ev15
  refine pa_istore_n hE dX7_odds_77 rfl (by decide) (lvr := [(0, .ref (q 24 0)), (1, .int x1), (2, .int x2), (4, .int x4)]) rfl ?_
  refine pa_iinc hE dX7_odds_78 (v := 1) 4 rfl (by decide) (by decide) (lvr := [(3, .int v15), (0, .ref (q 24 0)), (1, .int x1), (2, .int x2)]) rfl (fun v16 ev16 => ?_)
  have hw := hw v16 ev16
  refine pa_goto hE dX7_odds_81 (tgt := 39) (by decide) ?_
  exact pa_sub [2, 3, 4, 1, 0] rfl (hk39 u0 x1 x2 v15 v16 hw)
def wb_X7_odds_39 (k39 : pa_S → Int32 → Int32 → Int32 → Int32 → Prop) (u0 : pa_S) (x1 : Int32) (x2 : Int32) (x3 : Int32) (x4 : Int32) (post : Int64 → pa_S → Prop) : Prop :=
  (if (pa_I u0 24 0 35) ≤ x4 then (wp_X7_lowest u0 x3 (pa_I u0 24 0 35) x2 (fun (r9 : Int64) => post r9 u0)) else (vp_in x4 10) ∧ (vp_in x4 10) ∧ (wp_X7_fortunesIf u0 (pa_A u0 44 0 x4.toNatClampNeg) (pa_A u0 45 0 x4.toNatClampNeg) (fun (r12 : Int32) (u13 : pa_S) => (if r12 < x1 then wb_X7_odds_76 k39 u13 x1 x2 x4 x3 0 post else wb_X7_odds_76 k39 u13 x1 x2 x4 x3 1 post))))
set_option maxRecDepth 100000 in
set_option maxHeartbeats 4000000 in
theorem tb_X7_odds_39 {p : Program} {l : Launch} {e : Env} {s : State} {m : MethodId} {args : Array Value} {below : List Frame} {meth : Method} {c : Code} {A : Nat → Prop} {D : va_G} {g : pa_G} {q : Nat → Nat → Nat} {k39 : pa_S → Int32 → Int32 → Int32 → Int32 → Prop} {u0 : pa_S} {x1 : Int32} {x2 : Int32} {x3 : Int32} {x4 : Int32} {post : Int64 → pa_S → Prop} (hE : pa_Fx p s m args meth c A D g 5 cX7_odds RX7) (hr : meth.sig.returnType = (some .long)) (hk39 : ∀ (u : pa_S)  (x1 : Int32) (x2 : Int32) (x3 : Int32) (x4 : Int32), k39 u x1 x2 x3 x4 → pa_At p l e (pa_rm 9) s m args below meth c (MQ below (pa_Qc g D q (fun r => some (.long r)) post A) args s 0 0 A) A D g 5 0 0 q u 39 [(0, .ref (q 24 0)), (1, .int x1), (2, .int x2), (3, .int x3), (4, .int x4)] []) (hw : wb_X7_odds_39 k39 u0 x1 x2 x3 x4 post) : pa_At p l e (pa_rm 9) s m args below meth c (MQ below (pa_Qc g D q (fun r => some (.long r)) post A) args s 0 0 A) A D g 5 0 0 q u0 39 [(0, .ref (q 24 0)), (1, .int x1), (2, .int x2), (3, .int x3), (4, .int x4)] [] := by
  refine pa_iload hE dX7_odds_39 4 rfl ?_
  refine pa_aload_n hE dX7_odds_41 rfl 0 rfl ?_
  refine pg_24_35 hE (pa_m4 156 rfl rfl) dX7_odds_42 ?_
  refine pa_icmp_ge hE dX7_odds_45 (tgt := 84) (by decide) (fun h8 => ?_) (fun h8 => ?_)
  · have hw := Eq.mp (if_pos h8) hw
    refine pa_aload_n hE dX7_odds_84 rfl 0 rfl ?_
    refine pa_iload_n hE dX7_odds_85 rfl 3 rfl ?_
    refine pa_aload_n hE dX7_odds_86 rfl 0 rfl ?_
    refine pg_24_35 hE (pa_m4 156 rfl rfl) dX7_odds_87 ?_
    refine pa_iload_n hE dX7_odds_90 rfl 2 rfl ?_
    refine pa_callVrl hE (ct_X7_lowest l g D q u0 x3 (pa_I u0 24 0 35) x2 _ hw) cv_RX7_376 pa_in24 rfl rfl rfl (pa_hR (by omega) (by decide)) rfl (Nat.le_of_ble_eq_true rfl) dX7_odds_91 (fun r9 hw => ?_)
    exact pa_lret hE hr hw rfl dX7_odds_94
  · have hw := Eq.mp (if_neg h8) hw
    refine pa_iload_n hE dX7_odds_48 rfl 3 rfl ?_
    refine pa_aload_n hE dX7_odds_49 rfl 0 rfl ?_
    refine pa_aload_n hE dX7_odds_50 rfl 0 rfl ?_
    refine pg_24_33 hE (pa_m4 154 rfl rfl) dX7_odds_51 ?_
    refine pa_iload hE dX7_odds_54 4 rfl ?_
    obtain ⟨h10, hw⟩ := hw
    refine pl_44 hE h10 dX7_odds_56 ?_
    refine pa_aload_n hE dX7_odds_57 rfl 0 rfl ?_
    refine pg_24_34 hE (pa_m4 155 rfl rfl) dX7_odds_58 ?_
    refine pa_iload hE dX7_odds_61 4 rfl ?_
    obtain ⟨h11, hw⟩ := hw
    refine pl_45 hE h11 dX7_odds_63 ?_
    refine pa_callVi hE (ct_X7_fortunesIf l g D q u0 (pa_A u0 44 0 x4.toNatClampNeg) (pa_A u0 45 0 x4.toNatClampNeg) _ hw) cv_RX7_353 pa_in24 rfl rfl rfl (pa_hR (by omega) (by decide)) rfl (Nat.le_of_ble_eq_true rfl) dX7_odds_64 (fun r12 u13 hw => ?_)
    refine pa_iload_n hE dX7_odds_67 rfl 1 rfl ?_
    refine pa_icmp_lt hE dX7_odds_68 (tgt := 75) (by decide) (fun h14 => ?_) (fun h14 => ?_)
    · have hw := Eq.mp (if_pos h14) hw
      refine pa_iconst hE dX7_odds_75 (v := 0) (by decide) ?_
      exact pa_sub [0, 1, 2, 4] rfl (tb_X7_odds_76 hE hr hk39 hw)
    · have hw := Eq.mp (if_neg h14) hw
      refine pa_iconst hE dX7_odds_71 (v := 1) (by decide) ?_
      refine pa_goto hE dX7_odds_72 (tgt := 76) (by decide) ?_
      exact pa_sub [0, 1, 2, 4] rfl (tb_X7_odds_76 hE hr hk39 hw)
def wl_X7_odds_39 (post : Int64 → pa_S → Prop) : Nat → pa_S → Int32 → Int32 → Int32 → Int32 → Prop
  | 0, _, _, _, _, _ => False
  | n + 1, u0, x1, x2, x3, x4 => wb_X7_odds_39 (fun u0 x1 x2 x3 x4 => wl_X7_odds_39 post n u0 x1 x2 x3 x4) u0 x1 x2 x3 x4 post
set_option maxRecDepth 100000 in
set_option maxHeartbeats 4000000 in
theorem tl_X7_odds_39 {p : Program} {l : Launch} {e : Env} {s : State} {m : MethodId} {args : Array Value} {below : List Frame} {meth : Method} {c : Code} {A : Nat → Prop} {D : va_G} {g : pa_G} {q : Nat → Nat → Nat} {post : Int64 → pa_S → Prop} (hE : pa_Fx p s m args meth c A D g 5 cX7_odds RX7) (hr : meth.sig.returnType = (some .long)) : ∀ (n : Nat) (u0 : pa_S) (x1 : Int32) (x2 : Int32) (x3 : Int32) (x4 : Int32), wl_X7_odds_39 post n u0 x1 x2 x3 x4 → pa_At p l e (pa_rm 9) s m args below meth c (MQ below (pa_Qc g D q (fun r => some (.long r)) post A) args s 0 0 A) A D g 5 0 0 q u0 39 [(0, .ref (q 24 0)), (1, .int x1), (2, .int x2), (3, .int x3), (4, .int x4)] []
  | 0, _, _, _, _, _, hw => absurd hw (by simp only [wl_X7_odds_39]; exact fun z => z)
  | n + 1, u0, x1, x2, x3, x4, hw => tb_X7_odds_39 hE hr (fun u0 x1 x2 x3 x4  hw1 => tl_X7_odds_39 hE hr  n u0 x1 x2 x3 x4  hw1) hw
def wb_X7_odds_0 (u0 : pa_S) (x1 : Int32) (x2 : Int32) (post : Int64 → pa_S → Prop) : Prop :=
  (wp_X7_isFortune u0 x1 (fun (r1 : Int32) => (if r1 = 0 then post (-9223372036854775808 : Int64) u0 else (wp_X7_in u0 x2 0 1 (fun (r3 : Int32) => (if r3 = 0 then post (-9223372036854775808 : Int64) u0 else (if 2 ≤ (pa_I u0 24 0 0) then (wp_X7_layPairs u0 (fun (u7 : pa_S) => wl_X7_odds_39 post 5000 u7 x1 x2 0 0)) else post (-9223372036854775808 : Int64) u0)))))))
set_option maxRecDepth 100000 in
set_option maxHeartbeats 4000000 in
theorem tb_X7_odds_0 {p : Program} {l : Launch} {e : Env} {s : State} {m : MethodId} {args : Array Value} {below : List Frame} {meth : Method} {c : Code} {A : Nat → Prop} {D : va_G} {g : pa_G} {q : Nat → Nat → Nat} {u0 : pa_S} {x1 : Int32} {x2 : Int32} {post : Int64 → pa_S → Prop} (hE : pa_Fx p s m args meth c A D g 5 cX7_odds RX7) (hr : meth.sig.returnType = (some .long)) (hw : wb_X7_odds_0 u0 x1 x2 post) : pa_At p l e (pa_rm 9) s m args below meth c (MQ below (pa_Qc g D q (fun r => some (.long r)) post A) args s 0 0 A) A D g 5 0 0 q u0 0 [(0, .ref (q 24 0)), (1, .int x1), (2, .int x2)] [] := by
  refine pa_aload_n hE dX7_odds_0 rfl 0 rfl ?_
  refine pa_iload_n hE dX7_odds_1 rfl 1 rfl ?_
  refine pa_callVri hE (ct_X7_isFortune l g D q u0 x1 _ hw) cv_RX7_350 pa_in24 rfl rfl rfl (pa_hR (by omega) (by decide)) rfl (Nat.le_of_ble_eq_true rfl) dX7_odds_2 (fun r1 hw => ?_)
  refine pa_if_eq hE dX7_odds_5 (tgt := 26) (by decide) (fun h2 => ?_) (fun h2 => ?_)
  · have hw := Eq.mp (if_pos h2) hw
    refine pa_ldc2 hE dX7_odds_26 (v := (-9223372036854775808 : Int64)) (pa_m6 127 rfl rfl) ?_
    exact pa_lret hE hr hw rfl dX7_odds_29
  · have hw := Eq.mp (if_neg h2) hw
    refine pa_aload_n hE dX7_odds_8 rfl 0 rfl ?_
    refine pa_iload_n hE dX7_odds_9 rfl 2 rfl ?_
    refine pa_iconst hE dX7_odds_10 (v := 0) (by decide) ?_
    refine pa_iconst hE dX7_odds_11 (v := 1) (by decide) ?_
    refine pa_callVri hE (ct_X7_in l g D q u0 x2 0 1 _ hw) cv_RX7_221 pa_in24 rfl rfl rfl (pa_hR (by omega) (by decide)) rfl (Nat.le_of_ble_eq_true rfl) dX7_odds_12 (fun r3 hw => ?_)
    refine pa_if_eq hE dX7_odds_15 (tgt := 26) (by decide) (fun h4 => ?_) (fun h4 => ?_)
    · have hw := Eq.mp (if_pos h4) hw
      refine pa_ldc2 hE dX7_odds_26 (v := (-9223372036854775808 : Int64)) (pa_m6 127 rfl rfl) ?_
      exact pa_lret hE hr hw rfl dX7_odds_29
    · have hw := Eq.mp (if_neg h4) hw
      refine pa_aload_n hE dX7_odds_18 rfl 0 rfl ?_
      refine pg_24_0 hE (pa_m4 121 rfl rfl) dX7_odds_19 ?_
      refine pa_iconst hE dX7_odds_22 (v := 2) (by decide) ?_
      refine pa_icmp_ge hE dX7_odds_23 (tgt := 30) (by decide) (fun h5 => ?_) (fun h5 => ?_)
      · have hw := Eq.mp (if_pos h5) hw
        refine pa_aload_n hE dX7_odds_30 rfl 0 rfl ?_
        refine pa_callVv hE (ct_X7_layPairs l g D q u0 _ hw) cv_RX7_362 pa_in24 rfl rfl rfl (pa_hR (by omega) (by decide)) rfl (Nat.le_of_ble_eq_true rfl) dX7_odds_31 (fun u7 hw => ?_)
        refine pa_iconst hE dX7_odds_34 (v := 0) (by decide) ?_
        refine pa_istore_n hE dX7_odds_35 rfl (by decide) (lvr := [(0, .ref (q 24 0)), (1, .int x1), (2, .int x2)]) rfl ?_
        refine pa_iconst hE dX7_odds_36 (v := 0) (by decide) ?_
        refine pa_istore hE dX7_odds_37 (by decide) (lvr := [(3, .int 0), (0, .ref (q 24 0)), (1, .int x1), (2, .int x2)]) rfl ?_
        exact pa_sub [2, 3, 4, 1, 0] rfl (tl_X7_odds_39 hE hr 5000 u7 x1 x2 0 0 hw)
      · have hw := Eq.mp (if_neg h5) hw
        refine pa_ldc2 hE dX7_odds_26 (v := (-9223372036854775808 : Int64)) (pa_m6 127 rfl rfl) ?_
        exact pa_lret hE hr hw rfl dX7_odds_29
def wp_X7_odds (u0 : pa_S) (x1 : Int32) (x2 : Int32) (post : Int64 → pa_S → Prop) : Prop := wb_X7_odds_0 u0 x1 x2 post
theorem ct_X7_odds (l : Launch) (g : pa_G) (D : va_G) (q : Nat → Nat → Nat) (u0 : pa_S) (x1 : Int32) (x2 : Int32) (post : Int64 → pa_S → Prop)  (hw : wp_X7_odds u0 x1 x2 post) : pa_Ct l yX7_odds cX7_odds 5 (some .long) 9 g D q u0 [.ref (q 24 0), .int x1, .int x2] (fun r => some (.long r)) post := pa_met rfl rfl (Nat.le_of_ble_eq_true rfl) rfl (fun p e s m args below meth c A hE hr => tb_X7_odds_0 hE hr  hw)
def wb_X7_mean_0 (u0 : pa_S) (x1 : Int32) (x2 : Int32) (post : Int64 → pa_S → Prop) : Prop :=
  (wp_X7_in u0 x1 0 60 (fun (r1 : Int32) => (if r1 = 0 then post (-9223372036854775808 : Int64) u0 else (wp_X7_in u0 x2 0 1 (fun (r3 : Int32) => (if r3 = 0 then post (-9223372036854775808 : Int64) u0 else (if (pa_I u0 24 0 0) ≤ 0 then post (-9223372036854775808 : Int64) u0 else (wp_X7_on u0 x1 0 (fun (r6 : Int32) (u7 : pa_S) => (wp_X7_lowest u7 r6 (pa_I u7 24 0 0) x2 (fun (r8 : Int64) => post r8 u7)))))))))))
set_option maxRecDepth 100000 in
set_option maxHeartbeats 4000000 in
theorem tb_X7_mean_0 {p : Program} {l : Launch} {e : Env} {s : State} {m : MethodId} {args : Array Value} {below : List Frame} {meth : Method} {c : Code} {A : Nat → Prop} {D : va_G} {g : pa_G} {q : Nat → Nat → Nat} {u0 : pa_S} {x1 : Int32} {x2 : Int32} {post : Int64 → pa_S → Prop} (hE : pa_Fx p s m args meth c A D g 3 cX7_mean RX7) (hr : meth.sig.returnType = (some .long)) (hw : wb_X7_mean_0 u0 x1 x2 post) : pa_At p l e (pa_rm 9) s m args below meth c (MQ below (pa_Qc g D q (fun r => some (.long r)) post A) args s 0 0 A) A D g 3 0 0 q u0 0 [(0, .ref (q 24 0)), (1, .int x1), (2, .int x2)] [] := by
  refine pa_aload_n hE dX7_mean_0 rfl 0 rfl ?_
  refine pa_iload_n hE dX7_mean_1 rfl 1 rfl ?_
  refine pa_iconst hE dX7_mean_2 (v := 0) (by decide) ?_
  refine pa_bipush hE dX7_mean_3 (v := 60) (by decide) ?_
  refine pa_callVri hE (ct_X7_in l g D q u0 x1 0 60 _ hw) cv_RX7_221 pa_in24 rfl rfl rfl (pa_hR (by omega) (by decide)) rfl (Nat.le_of_ble_eq_true rfl) dX7_mean_5 (fun r1 hw => ?_)
  refine pa_if_eq hE dX7_mean_8 (tgt := 46) (by decide) (fun h2 => ?_) (fun h2 => ?_)
  · have hw := Eq.mp (if_pos h2) hw
    refine pa_ldc2 hE dX7_mean_46 (v := (-9223372036854775808 : Int64)) (pa_m6 127 rfl rfl) ?_
    exact pa_lret hE hr hw rfl dX7_mean_49
  · have hw := Eq.mp (if_neg h2) hw
    refine pa_aload_n hE dX7_mean_11 rfl 0 rfl ?_
    refine pa_iload_n hE dX7_mean_12 rfl 2 rfl ?_
    refine pa_iconst hE dX7_mean_13 (v := 0) (by decide) ?_
    refine pa_iconst hE dX7_mean_14 (v := 1) (by decide) ?_
    refine pa_callVri hE (ct_X7_in l g D q u0 x2 0 1 _ hw) cv_RX7_221 pa_in24 rfl rfl rfl (pa_hR (by omega) (by decide)) rfl (Nat.le_of_ble_eq_true rfl) dX7_mean_15 (fun r3 hw => ?_)
    refine pa_if_eq hE dX7_mean_18 (tgt := 46) (by decide) (fun h4 => ?_) (fun h4 => ?_)
    · have hw := Eq.mp (if_pos h4) hw
      refine pa_ldc2 hE dX7_mean_46 (v := (-9223372036854775808 : Int64)) (pa_m6 127 rfl rfl) ?_
      exact pa_lret hE hr hw rfl dX7_mean_49
    · have hw := Eq.mp (if_neg h4) hw
      refine pa_aload_n hE dX7_mean_21 rfl 0 rfl ?_
      refine pg_24_0 hE (pa_m4 121 rfl rfl) dX7_mean_22 ?_
      refine pa_if_le hE dX7_mean_25 (tgt := 46) (by decide) (fun h5 => ?_) (fun h5 => ?_)
      · have hw := Eq.mp (if_pos h5) hw
        refine pa_ldc2 hE dX7_mean_46 (v := (-9223372036854775808 : Int64)) (pa_m6 127 rfl rfl) ?_
        exact pa_lret hE hr hw rfl dX7_mean_49
      · have hw := Eq.mp (if_neg h5) hw
        refine pa_aload_n hE dX7_mean_28 rfl 0 rfl ?_
        refine pa_aload_n hE dX7_mean_29 rfl 0 rfl ?_
        refine pa_iload_n hE dX7_mean_30 rfl 1 rfl ?_
        refine pa_iconst hE dX7_mean_31 (v := 0) (by decide) ?_
        refine pa_callVi hE (ct_X7_on l g D q u0 x1 0 _ hw) cv_RX7_380 pa_in24 rfl rfl rfl (pa_hR (by omega) (by decide)) rfl (Nat.le_of_ble_eq_true rfl) dX7_mean_32 (fun r6 u7 hw => ?_)
        refine pa_aload_n hE dX7_mean_35 rfl 0 rfl ?_
        refine pg_24_0 hE (pa_m4 121 rfl rfl) dX7_mean_36 ?_
        refine pa_iload_n hE dX7_mean_39 rfl 2 rfl ?_
        refine pa_callVrl hE (ct_X7_lowest l g D q u7 r6 (pa_I u7 24 0 0) x2 _ hw) cv_RX7_376 pa_in24 rfl rfl rfl (pa_hR (by omega) (by decide)) rfl (Nat.le_of_ble_eq_true rfl) dX7_mean_40 (fun r8 hw => ?_)
        refine pa_goto hE dX7_mean_43 (tgt := 49) (by decide) ?_
        exact pa_lret hE hr hw rfl dX7_mean_49
def wp_X7_mean (u0 : pa_S) (x1 : Int32) (x2 : Int32) (post : Int64 → pa_S → Prop) : Prop := wb_X7_mean_0 u0 x1 x2 post
theorem ct_X7_mean (l : Launch) (g : pa_G) (D : va_G) (q : Nat → Nat → Nat) (u0 : pa_S) (x1 : Int32) (x2 : Int32) (post : Int64 → pa_S → Prop)  (hw : wp_X7_mean u0 x1 x2 post) : pa_Ct l yX7_mean cX7_mean 3 (some .long) 9 g D q u0 [.ref (q 24 0), .int x1, .int x2] (fun r => some (.long r)) post := pa_met rfl rfl (Nat.le_of_ble_eq_true rfl) rfl (fun p e s m args below meth c A hE hr => tb_X7_mean_0 hE hr  hw)
def wb_X7_fair_88 (u0 : pa_S) (y1 : Int32) (y2 : Int32) (post : Int32 → pa_S → Prop) : Prop :=
  (vp_in y1 10) ∧ ∀ u9 : pa_S, u9 = pa_sA u0 50 0 (upd (pa_A u0 50 0) y1.toNatClampNeg y2) → ∀ u10 : pa_S, u10 = pa_sI u9 24 0 40 ((pa_I u9 24 0 40) + 1) → post (pa_I u10 24 0 40) u10
set_option maxRecDepth 100000 in
set_option maxHeartbeats 4000000 in
theorem tb_X7_fair_88 {p : Program} {l : Launch} {e : Env} {s : State} {m : MethodId} {args : Array Value} {below : List Frame} {meth : Method} {c : Code} {A : Nat → Prop} {D : va_G} {g : pa_G} {q : Nat → Nat → Nat} {u0 : pa_S} {y1 : Int32} {y2 : Int32} {post : Int32 → pa_S → Prop} (hE : pa_Fx p s m args meth c A D g 3 cX7_fair RX7) (hr : meth.sig.returnType = (some .int)) (hw : wb_X7_fair_88 u0 y1 y2 post) : pa_At p l e (pa_rm 4) s m args below meth c (MQ below (pa_Qc g D q (fun r => some (.int r)) post A) args s 0 0 A) A D g 3 0 0 q u0 88 [(0, .ref (q 24 0))] [.int y2, .int y1, .ref (q 50 0)] := by
  obtain ⟨h8, hw⟩ := hw
  refine ps_50 hE h8 dX7_fair_88 (fun u9 eu9 => ?_)
  have hw := hw u9 eu9
  refine pa_aload_n hE dX7_fair_89 rfl 0 rfl ?_
  refine pa_dup hE dX7_fair_90 rfl ?_
  refine pg_24_40 hE (pa_m4 161 rfl rfl) dX7_fair_91 ?_
  refine pa_iconst hE dX7_fair_94 (v := 1) (by decide) ?_
  refine pa_iadd hE dX7_fair_95 ?_
  refine pp_24_40 hE (pa_m4 161 rfl rfl) dX7_fair_96 (fun u10 eu10 => ?_)
  have hw := hw u10 eu10
  refine pa_aload_n hE dX7_fair_99 rfl 0 rfl ?_
  refine pg_24_40 hE (pa_m4 161 rfl rfl) dX7_fair_100 ?_
  exact pa_iret hE hr hw rfl dX7_fair_103
def wb_X7_fair_48 (u0 : pa_S) (x1 : Int32) (x2 : Int32) (post : Int32 → pa_S → Prop) : Prop :=
  (if (pa_I u0 24 0 40) = 10 then post (-4 : Int32) u0 else (vp_in (pa_I u0 24 0 40) 10) ∧ ∀ u6 : pa_S, u6 = pa_sA u0 49 0 (upd (pa_A u0 49 0) (pa_I u0 24 0 40).toNatClampNeg x1) → (if x1 = 5 then wb_X7_fair_88 u6 (pa_I u6 24 0 40) 0 post else wb_X7_fair_88 u6 (pa_I u6 24 0 40) x2 post))
set_option maxRecDepth 100000 in
set_option maxHeartbeats 4000000 in
theorem tb_X7_fair_48 {p : Program} {l : Launch} {e : Env} {s : State} {m : MethodId} {args : Array Value} {below : List Frame} {meth : Method} {c : Code} {A : Nat → Prop} {D : va_G} {g : pa_G} {q : Nat → Nat → Nat} {u0 : pa_S} {x1 : Int32} {x2 : Int32} {post : Int32 → pa_S → Prop} (hE : pa_Fx p s m args meth c A D g 3 cX7_fair RX7) (hr : meth.sig.returnType = (some .int)) (hw : wb_X7_fair_48 u0 x1 x2 post) : pa_At p l e (pa_rm 4) s m args below meth c (MQ below (pa_Qc g D q (fun r => some (.int r)) post A) args s 0 0 A) A D g 3 0 0 q u0 48 [(0, .ref (q 24 0)), (1, .int x1), (2, .int x2)] [] := by
  refine pa_aload_n hE dX7_fair_48 rfl 0 rfl ?_
  refine pg_24_40 hE (pa_m4 161 rfl rfl) dX7_fair_49 ?_
  refine pa_bipush hE dX7_fair_52 (v := 10) (by decide) ?_
  refine pa_icmp_ne hE dX7_fair_54 (tgt := 60) (by decide) (fun h4 => ?_) (fun h4 => ?_)
  · have hw := Eq.mp (if_neg h4) hw
    refine pa_aload_n hE dX7_fair_60 rfl 0 rfl ?_
    refine pg_24_41 hE (pa_m4 162 rfl rfl) dX7_fair_61 ?_
    refine pa_aload_n hE dX7_fair_64 rfl 0 rfl ?_
    refine pg_24_40 hE (pa_m4 161 rfl rfl) dX7_fair_65 ?_
    refine pa_iload_n hE dX7_fair_68 rfl 1 rfl ?_
    obtain ⟨h5, hw⟩ := hw
    refine ps_49 hE h5 dX7_fair_69 (fun u6 eu6 => ?_)
    have hw := hw u6 eu6
    refine pa_aload_n hE dX7_fair_70 rfl 0 rfl ?_
    refine pg_24_42 hE (pa_m4 163 rfl rfl) dX7_fair_71 ?_
    refine pa_aload_n hE dX7_fair_74 rfl 0 rfl ?_
    refine pg_24_40 hE (pa_m4 161 rfl rfl) dX7_fair_75 ?_
    refine pa_iload_n hE dX7_fair_78 rfl 1 rfl ?_
    refine pa_iconst hE dX7_fair_79 (v := 5) (by decide) ?_
    refine pa_icmp_ne hE dX7_fair_80 (tgt := 87) (by decide) (fun h7 => ?_) (fun h7 => ?_)
    · have hw := Eq.mp (if_neg h7) hw
      refine pa_iload_n hE dX7_fair_87 rfl 2 rfl ?_
      exact pa_sub [0] rfl (tb_X7_fair_88 hE hr hw)
    · have hw := Eq.mp (if_pos h7) hw
      refine pa_iconst hE dX7_fair_83 (v := 0) (by decide) ?_
      refine pa_goto hE dX7_fair_84 (tgt := 88) (by decide) ?_
      exact pa_sub [0] rfl (tb_X7_fair_88 hE hr hw)
  · have hw := Eq.mp (if_pos h4) hw
    refine pa_bipush hE dX7_fair_57 (v := (-4 : Int32)) (by decide) ?_
    exact pa_iret hE hr hw rfl dX7_fair_59
def wb_X7_fair_35 (u0 : pa_S) (x1 : Int32) (x2 : Int32) (post : Int32 → pa_S → Prop) : Prop :=
  (if x1 = 5 then wb_X7_fair_48 u0 x1 x2 post else (if x1 = x2 then post (-2 : Int32) u0 else wb_X7_fair_48 u0 x1 x2 post))
set_option maxRecDepth 100000 in
set_option maxHeartbeats 4000000 in
theorem tb_X7_fair_35 {p : Program} {l : Launch} {e : Env} {s : State} {m : MethodId} {args : Array Value} {below : List Frame} {meth : Method} {c : Code} {A : Nat → Prop} {D : va_G} {g : pa_G} {q : Nat → Nat → Nat} {u0 : pa_S} {x1 : Int32} {x2 : Int32} {post : Int32 → pa_S → Prop} (hE : pa_Fx p s m args meth c A D g 3 cX7_fair RX7) (hr : meth.sig.returnType = (some .int)) (hw : wb_X7_fair_35 u0 x1 x2 post) : pa_At p l e (pa_rm 4) s m args below meth c (MQ below (pa_Qc g D q (fun r => some (.int r)) post A) args s 0 0 A) A D g 3 0 0 q u0 35 [(0, .ref (q 24 0)), (1, .int x1), (2, .int x2)] [] := by
  refine pa_iload_n hE dX7_fair_35 rfl 1 rfl ?_
  refine pa_iconst hE dX7_fair_36 (v := 5) (by decide) ?_
  refine pa_icmp_eq hE dX7_fair_37 (tgt := 48) (by decide) (fun h3 => ?_) (fun h3 => ?_)
  · have hw := Eq.mp (if_pos h3) hw
    exact pa_sub [0, 1, 2] rfl (tb_X7_fair_48 hE hr hw)
  · have hw := Eq.mp (if_neg h3) hw
    refine pa_iload_n hE dX7_fair_40 rfl 1 rfl ?_
    refine pa_iload_n hE dX7_fair_41 rfl 2 rfl ?_
    refine pa_icmp_ne hE dX7_fair_42 (tgt := 48) (by decide) (fun h11 => ?_) (fun h11 => ?_)
    · have hw := Eq.mp (if_neg h11) hw
      exact pa_sub [0, 1, 2] rfl (tb_X7_fair_48 hE hr hw)
    · have hw := Eq.mp (if_pos h11) hw
      refine pa_bipush hE dX7_fair_45 (v := (-2 : Int32)) (by decide) ?_
      exact pa_iret hE hr hw rfl dX7_fair_47
def wb_X7_fair_0 (u0 : pa_S) (x1 : Int32) (x2 : Int32) (post : Int32 → pa_S → Prop) : Prop :=
  (if x1 = (-1 : Int32) then ∀ u16 : pa_S, u16 = pa_sI u0 24 0 40 0 → post 0 u16 else (if x1 = 5 then wb_X7_fair_35 u0 x1 x2 post else (wp_X7_isHand u0 x1 (fun (r12 : Int32) => (if r12 = 0 then post (-1 : Int32) u0 else (wp_X7_isHand u0 x2 (fun (r14 : Int32) => (if r14 = 0 then post (-1 : Int32) u0 else wb_X7_fair_35 u0 x1 x2 post))))))))
set_option maxRecDepth 100000 in
set_option maxHeartbeats 4000000 in
theorem tb_X7_fair_0 {p : Program} {l : Launch} {e : Env} {s : State} {m : MethodId} {args : Array Value} {below : List Frame} {meth : Method} {c : Code} {A : Nat → Prop} {D : va_G} {g : pa_G} {q : Nat → Nat → Nat} {u0 : pa_S} {x1 : Int32} {x2 : Int32} {post : Int32 → pa_S → Prop} (hE : pa_Fx p s m args meth c A D g 3 cX7_fair RX7) (hr : meth.sig.returnType = (some .int)) (hw : wb_X7_fair_0 u0 x1 x2 post) : pa_At p l e (pa_rm 4) s m args below meth c (MQ below (pa_Qc g D q (fun r => some (.int r)) post A) args s 0 0 A) A D g 3 0 0 q u0 0 [(0, .ref (q 24 0)), (1, .int x1), (2, .int x2)] [] := by
  refine pa_iload_n hE dX7_fair_0 rfl 1 rfl ?_
  refine pa_iconst hE dX7_fair_1 (v := (-1 : Int32)) (by decide) ?_
  refine pa_icmp_ne hE dX7_fair_2 (tgt := 12) (by decide) (fun h1 => ?_) (fun h1 => ?_)
  · have hw := Eq.mp (if_neg h1) hw
    refine pa_iload_n hE dX7_fair_12 rfl 1 rfl ?_
    refine pa_iconst hE dX7_fair_13 (v := 5) (by decide) ?_
    refine pa_icmp_eq hE dX7_fair_14 (tgt := 35) (by decide) (fun h2 => ?_) (fun h2 => ?_)
    · have hw := Eq.mp (if_pos h2) hw
      exact pa_sub [0, 1, 2] rfl (tb_X7_fair_35 hE hr hw)
    · have hw := Eq.mp (if_neg h2) hw
      refine pa_aload_n hE dX7_fair_17 rfl 0 rfl ?_
      refine pa_iload_n hE dX7_fair_18 rfl 1 rfl ?_
      refine pa_callVri hE (ct_X7_isHand l g D q u0 x1 _ hw) cv_RX7_229 pa_in24 rfl rfl rfl (pa_hR (by omega) (by decide)) rfl (Nat.le_of_ble_eq_true rfl) dX7_fair_19 (fun r12 hw => ?_)
      refine pa_if_eq hE dX7_fair_22 (tgt := 33) (by decide) (fun h13 => ?_) (fun h13 => ?_)
      · have hw := Eq.mp (if_pos h13) hw
        refine pa_iconst hE dX7_fair_33 (v := (-1 : Int32)) (by decide) ?_
        exact pa_iret hE hr hw rfl dX7_fair_34
      · have hw := Eq.mp (if_neg h13) hw
        refine pa_aload_n hE dX7_fair_25 rfl 0 rfl ?_
        refine pa_iload_n hE dX7_fair_26 rfl 2 rfl ?_
        refine pa_callVri hE (ct_X7_isHand l g D q u0 x2 _ hw) cv_RX7_229 pa_in24 rfl rfl rfl (pa_hR (by omega) (by decide)) rfl (Nat.le_of_ble_eq_true rfl) dX7_fair_27 (fun r14 hw => ?_)
        refine pa_if_ne hE dX7_fair_30 (tgt := 35) (by decide) (fun h15 => ?_) (fun h15 => ?_)
        · have hw := Eq.mp (if_neg h15) hw
          exact pa_sub [0, 1, 2] rfl (tb_X7_fair_35 hE hr hw)
        · have hw := Eq.mp (if_pos h15) hw
          refine pa_iconst hE dX7_fair_33 (v := (-1 : Int32)) (by decide) ?_
          exact pa_iret hE hr hw rfl dX7_fair_34
  · have hw := Eq.mp (if_pos h1) hw
    refine pa_aload_n hE dX7_fair_5 rfl 0 rfl ?_
    refine pa_iconst hE dX7_fair_6 (v := 0) (by decide) ?_
    refine pp_24_40 hE (pa_m4 161 rfl rfl) dX7_fair_7 (fun u16 eu16 => ?_)
    have hw := hw u16 eu16
    refine pa_iconst hE dX7_fair_10 (v := 0) (by decide) ?_
    exact pa_iret hE hr hw rfl dX7_fair_11
def wp_X7_fair (u0 : pa_S) (x1 : Int32) (x2 : Int32) (post : Int32 → pa_S → Prop) : Prop := wb_X7_fair_0 u0 x1 x2 post
theorem ct_X7_fair (l : Launch) (g : pa_G) (D : va_G) (q : Nat → Nat → Nat) (u0 : pa_S) (x1 : Int32) (x2 : Int32) (post : Int32 → pa_S → Prop)  (hw : wp_X7_fair u0 x1 x2 post) : pa_Ct l yX7_fair cX7_fair 3 (some .int) 4 g D q u0 [.ref (q 24 0), .int x1, .int x2] (fun r => some (.int r)) post := pa_met rfl rfl (Nat.le_of_ble_eq_true rfl) rfl (fun p e s m args below meth c A hE hr => tb_X7_fair_0 hE hr  hw)
def wb_X7_ends_81 (u0 : pa_S) (y0 : Int32) (post : Int32 → pa_S → Prop) : Prop :=
  (wp_X7_putBack u0 (fun (u9 : pa_S) => post y0 u9))
set_option maxRecDepth 100000 in
set_option maxHeartbeats 4000000 in
theorem tb_X7_ends_81 {p : Program} {l : Launch} {e : Env} {s : State} {m : MethodId} {args : Array Value} {below : List Frame} {meth : Method} {c : Code} {A : Nat → Prop} {D : va_G} {g : pa_G} {q : Nat → Nat → Nat} {u0 : pa_S} {y0 : Int32} {post : Int32 → pa_S → Prop} (hE : pa_Fx p s m args meth c A D g 3 cX7_ends RX7) (hr : meth.sig.returnType = (some .int)) (hw : wb_X7_ends_81 u0 y0 post) : pa_At p l e (pa_rm 8) s m args below meth c (MQ below (pa_Qc g D q (fun r => some (.int r)) post A) args s 0 0 A) A D g 3 0 0 q u0 81 [(0, .ref (q 24 0))] [.int y0] := by
  refine pa_istore_n hE dX7_ends_81 rfl (by decide) (lvr := [(0, .ref (q 24 0))]) rfl ?_
  refine pa_aload_n hE dX7_ends_82 rfl 1 rfl ?_
  refine pa_callVv hE (ct_X7_putBack l g D q u0 _ hw) cv_RX7_347 pa_in24 rfl rfl rfl (pa_hR (by omega) (by decide)) rfl (Nat.le_of_ble_eq_true rfl) dX7_ends_83 (fun u9 hw => ?_)
  refine pa_iload_n hE dX7_ends_86 rfl 0 rfl ?_
  exact pa_iret hE hr hw rfl dX7_ends_87
def wb_X7_ends_60 (k18 : pa_S → Int32 → Int32 → Prop) (u0 : pa_S) (x1 : Int32) (x2 : Int32) (post : Int32 → pa_S → Prop) : Prop :=
  ∀ v18 : Int32, v18 = x2 + 1 → k18 u0 x1 v18
set_option maxRecDepth 100000 in
set_option maxHeartbeats 4000000 in
theorem tb_X7_ends_60 {p : Program} {l : Launch} {e : Env} {s : State} {m : MethodId} {args : Array Value} {below : List Frame} {meth : Method} {c : Code} {A : Nat → Prop} {D : va_G} {g : pa_G} {q : Nat → Nat → Nat} {k18 : pa_S → Int32 → Int32 → Prop} {u0 : pa_S} {x1 : Int32} {x2 : Int32} {post : Int32 → pa_S → Prop} (hE : pa_Fx p s m args meth c A D g 3 cX7_ends RX7) (hr : meth.sig.returnType = (some .int)) (hk18 : ∀ (u : pa_S)  (x1 : Int32) (x2 : Int32), k18 u x1 x2 → pa_At p l e (pa_rm 8) s m args below meth c (MQ below (pa_Qc g D q (fun r => some (.int r)) post A) args s 0 0 A) A D g 3 0 0 q u 18 [(0, .ref (q 24 0)), (1, .int x1), (2, .int x2)] []) (hw : wb_X7_ends_60 k18 u0 x1 x2 post) : pa_At p l e (pa_rm 8) s m args below meth c (MQ below (pa_Qc g D q (fun r => some (.int r)) post A) args s 0 0 A) A D g 3 0 0 q u0 60 [(0, .ref (q 24 0)), (1, .int x1), (2, .int x2)] [] := by
  refine pa_iinc hE dX7_ends_60 (v := 1) 2 rfl (by decide) (by decide) (lvr := [(0, .ref (q 24 0)), (1, .int x1)]) rfl (fun v18 ev18 => ?_)
  have hw := hw v18 ev18
  refine pa_goto hE dX7_ends_63 (tgt := 18) (by decide) ?_
  exact pa_sub [1, 2, 0] rfl (hk18 u0 x1 v18 hw)
def wb_X7_ends_18 (k18 : pa_S → Int32 → Int32 → Prop) (u0 : pa_S) (x1 : Int32) (x2 : Int32) (post : Int32 → pa_S → Prop) : Prop :=
  (if (pa_I u0 24 0 40) ≤ x2 then (if x1 = 0 then (wp_X7_allFortunes u0 (fun (r10 : Int32) (u11 : pa_S) => wb_X7_ends_81 u11 r10 post)) else (wp_X7_allLengths u0 (fun (r7 : Int32) => wb_X7_ends_81 u0 r7 post))) else (vp_in x2 10) ∧ (if (pa_A u0 49 0 x2.toNatClampNeg) = 5 then (wp_X7_goDay u0 (fun (u20 : pa_S) => wb_X7_ends_60 k18 u20 x1 x2 post)) else (vp_in x2 10) ∧ (vp_in x2 10) ∧ (wp_X7_prints u0 (pa_A u0 49 0 x2.toNatClampNeg) (pa_A u0 50 0 x2.toNatClampNeg) (fun (r16 : Int32) (u17 : pa_S) => wb_X7_ends_60 k18 u17 x1 x2 post))))
set_option maxRecDepth 100000 in
set_option maxHeartbeats 4000000 in
theorem tb_X7_ends_18 {p : Program} {l : Launch} {e : Env} {s : State} {m : MethodId} {args : Array Value} {below : List Frame} {meth : Method} {c : Code} {A : Nat → Prop} {D : va_G} {g : pa_G} {q : Nat → Nat → Nat} {k18 : pa_S → Int32 → Int32 → Prop} {u0 : pa_S} {x1 : Int32} {x2 : Int32} {post : Int32 → pa_S → Prop} (hE : pa_Fx p s m args meth c A D g 3 cX7_ends RX7) (hr : meth.sig.returnType = (some .int)) (hk18 : ∀ (u : pa_S)  (x1 : Int32) (x2 : Int32), k18 u x1 x2 → pa_At p l e (pa_rm 8) s m args below meth c (MQ below (pa_Qc g D q (fun r => some (.int r)) post A) args s 0 0 A) A D g 3 0 0 q u 18 [(0, .ref (q 24 0)), (1, .int x1), (2, .int x2)] []) (hw : wb_X7_ends_18 k18 u0 x1 x2 post) : pa_At p l e (pa_rm 8) s m args below meth c (MQ below (pa_Qc g D q (fun r => some (.int r)) post A) args s 0 0 A) A D g 3 0 0 q u0 18 [(0, .ref (q 24 0)), (1, .int x1), (2, .int x2)] [] := by
  refine pa_iload_n hE dX7_ends_18 rfl 2 rfl ?_
  refine pa_aload_n hE dX7_ends_19 rfl 0 rfl ?_
  refine pg_24_40 hE (pa_m4 161 rfl rfl) dX7_ends_20 ?_
  refine pa_icmp_ge hE dX7_ends_23 (tgt := 66) (by decide) (fun h5 => ?_) (fun h5 => ?_)
  · have hw := Eq.mp (if_pos h5) hw
    refine pa_iload_n hE dX7_ends_66 rfl 1 rfl ?_
    refine pa_if_ne hE dX7_ends_67 (tgt := 77) (by decide) (fun h6 => ?_) (fun h6 => ?_)
    · have hw := Eq.mp (if_neg h6) hw
      refine pa_aload_n hE dX7_ends_77 rfl 0 rfl ?_
      refine pa_callVri hE (ct_X7_allLengths l g D q u0 _ hw) cv_RX7_326 pa_in24 rfl rfl rfl (pa_hR (by omega) (by decide)) rfl (Nat.le_of_ble_eq_true rfl) dX7_ends_78 (fun r7 hw => ?_)
      exact pa_sub [0] rfl (tb_X7_ends_81 hE hr hw)
    · have hw := Eq.mp (if_pos h6) hw
      refine pa_aload_n hE dX7_ends_70 rfl 0 rfl ?_
      refine pa_callVi hE (ct_X7_allFortunes l g D q u0 _ hw) cv_RX7_323 pa_in24 rfl rfl rfl (pa_hR (by omega) (by decide)) rfl (Nat.le_of_ble_eq_true rfl) dX7_ends_71 (fun r10 u11 hw => ?_)
      refine pa_goto hE dX7_ends_74 (tgt := 81) (by decide) ?_
      exact pa_sub [0] rfl (tb_X7_ends_81 hE hr hw)
  · have hw := Eq.mp (if_neg h5) hw
    refine pa_aload_n hE dX7_ends_26 rfl 0 rfl ?_
    refine pg_24_41 hE (pa_m4 162 rfl rfl) dX7_ends_27 ?_
    refine pa_iload_n hE dX7_ends_30 rfl 2 rfl ?_
    obtain ⟨h12, hw⟩ := hw
    refine pl_49 hE h12 dX7_ends_31 ?_
    refine pa_iconst hE dX7_ends_32 (v := 5) (by decide) ?_
    refine pa_icmp_ne hE dX7_ends_33 (tgt := 43) (by decide) (fun h13 => ?_) (fun h13 => ?_)
    · have hw := Eq.mp (if_neg h13) hw
      refine pa_aload_n hE dX7_ends_43 rfl 0 rfl ?_
      refine pa_aload_n hE dX7_ends_44 rfl 0 rfl ?_
      refine pg_24_41 hE (pa_m4 162 rfl rfl) dX7_ends_45 ?_
      refine pa_iload_n hE dX7_ends_48 rfl 2 rfl ?_
      obtain ⟨h14, hw⟩ := hw
      refine pl_49 hE h14 dX7_ends_49 ?_
      refine pa_aload_n hE dX7_ends_50 rfl 0 rfl ?_
      refine pg_24_42 hE (pa_m4 163 rfl rfl) dX7_ends_51 ?_
      refine pa_iload_n hE dX7_ends_54 rfl 2 rfl ?_
      obtain ⟨h15, hw⟩ := hw
      refine pl_50 hE h15 dX7_ends_55 ?_
      refine pa_callVi hE (ct_X7_prints l g D q u0 (pa_A u0 49 0 x2.toNatClampNeg) (pa_A u0 50 0 x2.toNatClampNeg) _ hw) cv_RX7_335 pa_in24 rfl rfl rfl (pa_hR (by omega) (by decide)) rfl (Nat.le_of_ble_eq_true rfl) dX7_ends_56 (fun r16 u17 hw => ?_)
      refine pa_pop hE dX7_ends_59 rfl ?_
      exact pa_sub [0, 1, 2] rfl (tb_X7_ends_60 hE hr hk18 hw)
    · have hw := Eq.mp (if_pos h13) hw
      refine pa_aload_n hE dX7_ends_36 rfl 0 rfl ?_
      refine pa_callVv hE (ct_X7_goDay l g D q u0 _ hw) cv_RX7_338 pa_in24 rfl rfl rfl (pa_hR (by omega) (by decide)) rfl (Nat.le_of_ble_eq_true rfl) dX7_ends_37 (fun u20 hw => ?_)
      refine pa_goto hE dX7_ends_40 (tgt := 60) (by decide) ?_
      exact pa_sub [0, 1, 2] rfl (tb_X7_ends_60 hE hr hk18 hw)
def wl_X7_ends_18 (post : Int32 → pa_S → Prop) : Nat → pa_S → Int32 → Int32 → Prop
  | 0, _, _, _ => False
  | n + 1, u0, x1, x2 => wb_X7_ends_18 (fun u0 x1 x2 => wl_X7_ends_18 post n u0 x1 x2) u0 x1 x2 post
set_option maxRecDepth 100000 in
set_option maxHeartbeats 4000000 in
theorem tl_X7_ends_18 {p : Program} {l : Launch} {e : Env} {s : State} {m : MethodId} {args : Array Value} {below : List Frame} {meth : Method} {c : Code} {A : Nat → Prop} {D : va_G} {g : pa_G} {q : Nat → Nat → Nat} {post : Int32 → pa_S → Prop} (hE : pa_Fx p s m args meth c A D g 3 cX7_ends RX7) (hr : meth.sig.returnType = (some .int)) : ∀ (n : Nat) (u0 : pa_S) (x1 : Int32) (x2 : Int32), wl_X7_ends_18 post n u0 x1 x2 → pa_At p l e (pa_rm 8) s m args below meth c (MQ below (pa_Qc g D q (fun r => some (.int r)) post A) args s 0 0 A) A D g 3 0 0 q u0 18 [(0, .ref (q 24 0)), (1, .int x1), (2, .int x2)] []
  | 0, _, _, _, hw => absurd hw (by simp only [wl_X7_ends_18]; exact fun z => z)
  | n + 1, u0, x1, x2, hw => tb_X7_ends_18 hE hr (fun u0 x1 x2  hw1 => tl_X7_ends_18 hE hr  n u0 x1 x2  hw1) hw
def wb_X7_ends_0 (u0 : pa_S) (x1 : Int32) (post : Int32 → pa_S → Prop) : Prop :=
  (wp_X7_in u0 x1 0 1 (fun (r1 : Int32) => (if r1 = 0 then post (-1 : Int32) u0 else (wp_X7_save u0 (fun (u4 : pa_S) => wl_X7_ends_18 post 5000 u4 x1 0)))))
set_option maxRecDepth 100000 in
set_option maxHeartbeats 4000000 in
theorem tb_X7_ends_0 {p : Program} {l : Launch} {e : Env} {s : State} {m : MethodId} {args : Array Value} {below : List Frame} {meth : Method} {c : Code} {A : Nat → Prop} {D : va_G} {g : pa_G} {q : Nat → Nat → Nat} {u0 : pa_S} {x1 : Int32} {post : Int32 → pa_S → Prop} (hE : pa_Fx p s m args meth c A D g 3 cX7_ends RX7) (hr : meth.sig.returnType = (some .int)) (hw : wb_X7_ends_0 u0 x1 post) : pa_At p l e (pa_rm 8) s m args below meth c (MQ below (pa_Qc g D q (fun r => some (.int r)) post A) args s 0 0 A) A D g 3 0 0 q u0 0 [(0, .ref (q 24 0)), (1, .int x1)] [] := by
  refine pa_aload_n hE dX7_ends_0 rfl 0 rfl ?_
  refine pa_iload_n hE dX7_ends_1 rfl 1 rfl ?_
  refine pa_iconst hE dX7_ends_2 (v := 0) (by decide) ?_
  refine pa_iconst hE dX7_ends_3 (v := 1) (by decide) ?_
  refine pa_callVri hE (ct_X7_in l g D q u0 x1 0 1 _ hw) cv_RX7_221 pa_in24 rfl rfl rfl (pa_hR (by omega) (by decide)) rfl (Nat.le_of_ble_eq_true rfl) dX7_ends_4 (fun r1 hw => ?_)
  refine pa_if_ne hE dX7_ends_7 (tgt := 12) (by decide) (fun h2 => ?_) (fun h2 => ?_)
  · have hw := Eq.mp (if_neg h2) hw
    refine pa_aload_n hE dX7_ends_12 rfl 0 rfl ?_
    refine pa_callVv hE (ct_X7_save l g D q u0 _ hw) cv_RX7_344 pa_in24 rfl rfl rfl (pa_hR (by omega) (by decide)) rfl (Nat.le_of_ble_eq_true rfl) dX7_ends_13 (fun u4 hw => ?_)
    refine pa_iconst hE dX7_ends_16 (v := 0) (by decide) ?_
    refine pa_istore_n hE dX7_ends_17 rfl (by decide) (lvr := [(0, .ref (q 24 0)), (1, .int x1)]) rfl ?_
    exact pa_sub [1, 2, 0] rfl (tl_X7_ends_18 hE hr 5000 u4 x1 0 hw)
  · have hw := Eq.mp (if_pos h2) hw
    refine pa_iconst hE dX7_ends_10 (v := (-1 : Int32)) (by decide) ?_
    exact pa_iret hE hr hw rfl dX7_ends_11
def wp_X7_ends (u0 : pa_S) (x1 : Int32) (post : Int32 → pa_S → Prop) : Prop := wb_X7_ends_0 u0 x1 post
theorem ct_X7_ends (l : Launch) (g : pa_G) (D : va_G) (q : Nat → Nat → Nat) (u0 : pa_S) (x1 : Int32) (post : Int32 → pa_S → Prop)  (hw : wp_X7_ends u0 x1 post) : pa_Ct l yX7_ends cX7_ends 3 (some .int) 8 g D q u0 [.ref (q 24 0), .int x1] (fun r => some (.int r)) post := pa_met rfl rfl (Nat.le_of_ble_eq_true rfl) rfl (fun p e s m args below meth c A hE hr => tb_X7_ends_0 hE hr  hw)
def wb_X7_isTape_0 (u0 : pa_S) (x1 : Int32) (post : Int32 → Prop) : Prop :=
  (wp_X7_in u0 x1 0 5 (fun (r1 : Int32) => (r1 &&& 1 = r1) ∧ post r1))
set_option maxRecDepth 100000 in
set_option maxHeartbeats 4000000 in
theorem tb_X7_isTape_0 {p : Program} {l : Launch} {e : Env} {s : State} {m : MethodId} {args : Array Value} {below : List Frame} {meth : Method} {c : Code} {A : Nat → Prop} {D : va_G} {g : pa_G} {q : Nat → Nat → Nat} {u0 : pa_S} {x1 : Int32} {post : Int32 → Prop} (hE : pa_Fx p s m args meth c A D g 2 cX7_isTape RX7) (hr : meth.sig.returnType = (some .boolean)) (hw : wb_X7_isTape_0 u0 x1 post) : pa_At p l e (pa_rm 3) s m args below meth c (MQ below (pa_Qc g D q (fun r => some (.int r)) (fun r u => u = u0 ∧ post r) A) args s 0 0 A) A D g 2 0 0 q u0 0 [(0, .ref (q 24 0)), (1, .int x1)] [] := by
  refine pa_aload_n hE dX7_isTape_0 rfl 0 rfl ?_
  refine pa_iload_n hE dX7_isTape_1 rfl 1 rfl ?_
  refine pa_iconst hE dX7_isTape_2 (v := 0) (by decide) ?_
  refine pa_iconst hE dX7_isTape_3 (v := 5) (by decide) ?_
  refine pa_callVri hE (ct_X7_in l g D q u0 x1 0 5 _ hw) cv_RX7_221 pa_in24 rfl rfl rfl (pa_hR (by omega) (by decide)) rfl (Nat.le_of_ble_eq_true rfl) dX7_isTape_4 (fun r1 hw => ?_)
  obtain ⟨h2, hw⟩ := hw
  exact pa_zret hE hr (congrArg Value.int h2) ⟨rfl, hw⟩ rfl dX7_isTape_7
def wp_X7_isTape (u0 : pa_S) (x1 : Int32) (post : Int32 → Prop) : Prop := wb_X7_isTape_0 u0 x1 post
theorem ct_X7_isTape (l : Launch) (g : pa_G) (D : va_G) (q : Nat → Nat → Nat) (u0 : pa_S) (x1 : Int32) (post : Int32 → Prop)  (hw : wp_X7_isTape u0 x1 post) : pa_Ct l yX7_isTape cX7_isTape 2 (some .boolean) 3 g D q u0 [.ref (q 24 0), .int x1] (fun r => some (.int r)) (fun r u => u = u0 ∧ post r) := pa_met rfl rfl (Nat.le_of_ble_eq_true rfl) rfl (fun p e s m args below meth c A hE hr => tb_X7_isTape_0 hE hr  hw)
def wb_X7_judge_24 (k24 : Int32 → Int32 → Int32 → Prop) (u0 : pa_S) (x1 : Int32) (x2 : Int32) (x3 : Int32) (post : Int32 → Prop) : Prop :=
  (if (3 * (pa_I u0 24 0 0)) ≤ x3 then post (-5 : Int32) else (vp_in x1 6) ∧ (if (pa_A u0 64 0 x1.toNatClampNeg) < 0 then post (100 + x3) else (if x2 < 0 then post (100 + x3) else (vp_in x1 6) ∧ (if x2 ≤ (((pa_A u0 65 0 x1.toNatClampNeg) - x3) - 1) then (vp_in (((60 * x1) + x2) + x3) 360) ∧ (vp_in x3 15) ∧ (if (lg_cmp (pa_L u0 66 0 (((60 * x1) + x2) + x3).toNatClampNeg) ((pa_A u0 28 0 x3.toNatClampNeg).toInt64)) = 0 then ∀ v14 : Int32, v14 = x3 + 1 → k24 x1 x2 v14 else post x3) else post (100 + x3)))))
set_option maxRecDepth 100000 in
set_option maxHeartbeats 4000000 in
theorem tb_X7_judge_24 {p : Program} {l : Launch} {e : Env} {s : State} {m : MethodId} {args : Array Value} {below : List Frame} {meth : Method} {c : Code} {A : Nat → Prop} {D : va_G} {g : pa_G} {q : Nat → Nat → Nat} {k24 : Int32 → Int32 → Int32 → Prop} {u0 : pa_S} {x1 : Int32} {x2 : Int32} {x3 : Int32} {post : Int32 → Prop} (hE : pa_Fx p s m args meth c A D g 4 cX7_judge RX7) (hr : meth.sig.returnType = (some .int)) (hk24 : ∀ (x1 : Int32) (x2 : Int32) (x3 : Int32), k24 x1 x2 x3 → pa_At p l e (pa_rm 4) s m args below meth c (MQ below (pa_Qc g D q (fun r => some (.int r)) (fun r u => u = u0 ∧ post r) A) args s 0 0 A) A D g 4 0 0 q u0 24 [(0, .ref (q 24 0)), (1, .int x1), (2, .int x2), (3, .int x3)] []) (hw : wb_X7_judge_24 k24 u0 x1 x2 x3 post) : pa_At p l e (pa_rm 4) s m args below meth c (MQ below (pa_Qc g D q (fun r => some (.int r)) (fun r u => u = u0 ∧ post r) A) args s 0 0 A) A D g 4 0 0 q u0 24 [(0, .ref (q 24 0)), (1, .int x1), (2, .int x2), (3, .int x3)] [] := by
  refine pa_iload_n hE dX7_judge_24 rfl 3 rfl ?_
  refine pa_iconst hE dX7_judge_25 (v := 3) (by decide) ?_
  refine pa_aload_n hE dX7_judge_26 rfl 0 rfl ?_
  refine pg_24_0 hE (pa_m4 121 rfl rfl) dX7_judge_27 ?_
  refine pa_imul hE dX7_judge_30 ?_
  refine pa_icmp_ge hE dX7_judge_31 (tgt := 98) (by decide) (fun h5 => ?_) (fun h5 => ?_)
  · have hw := Eq.mp (if_pos h5) hw
    refine pa_bipush hE dX7_judge_98 (v := (-5 : Int32)) (by decide) ?_
    exact pa_iret hE hr ⟨rfl, hw⟩ rfl dX7_judge_100
  · have hw := Eq.mp (if_neg h5) hw
    refine pa_aload_n hE dX7_judge_34 rfl 0 rfl ?_
    refine pg_24_65 hE (pa_m4 186 rfl rfl) dX7_judge_35 ?_
    refine pa_iload_n hE dX7_judge_38 rfl 1 rfl ?_
    obtain ⟨h6, hw⟩ := hw
    refine pl_64 hE h6 dX7_judge_39 ?_
    refine pa_if_lt hE dX7_judge_40 (tgt := 61) (by decide) (fun h7 => ?_) (fun h7 => ?_)
    · have hw := Eq.mp (if_pos h7) hw
      refine pa_bipush hE dX7_judge_61 (v := 100) (by decide) ?_
      refine pa_iload_n hE dX7_judge_63 rfl 3 rfl ?_
      refine pa_iadd hE dX7_judge_64 ?_
      exact pa_iret hE hr ⟨rfl, hw⟩ rfl dX7_judge_65
    · have hw := Eq.mp (if_neg h7) hw
      refine pa_iload_n hE dX7_judge_43 rfl 2 rfl ?_
      refine pa_if_lt hE dX7_judge_44 (tgt := 61) (by decide) (fun h8 => ?_) (fun h8 => ?_)
      · have hw := Eq.mp (if_pos h8) hw
        refine pa_bipush hE dX7_judge_61 (v := 100) (by decide) ?_
        refine pa_iload_n hE dX7_judge_63 rfl 3 rfl ?_
        refine pa_iadd hE dX7_judge_64 ?_
        exact pa_iret hE hr ⟨rfl, hw⟩ rfl dX7_judge_65
      · have hw := Eq.mp (if_neg h8) hw
        refine pa_iload_n hE dX7_judge_47 rfl 2 rfl ?_
        refine pa_aload_n hE dX7_judge_48 rfl 0 rfl ?_
        refine pg_24_66 hE (pa_m4 187 rfl rfl) dX7_judge_49 ?_
        refine pa_iload_n hE dX7_judge_52 rfl 1 rfl ?_
        obtain ⟨h9, hw⟩ := hw
        refine pl_65 hE h9 dX7_judge_53 ?_
        refine pa_iload_n hE dX7_judge_54 rfl 3 rfl ?_
        refine pa_isub hE dX7_judge_55 ?_
        refine pa_iconst hE dX7_judge_56 (v := 1) (by decide) ?_
        refine pa_isub hE dX7_judge_57 ?_
        refine pa_icmp_le hE dX7_judge_58 (tgt := 66) (by decide) (fun h10 => ?_) (fun h10 => ?_)
        · have hw := Eq.mp (if_pos h10) hw
          refine pa_aload_n hE dX7_judge_66 rfl 0 rfl ?_
          refine pg_24_67 hE (pa_m4 188 rfl rfl) dX7_judge_67 ?_
          refine pa_bipush hE dX7_judge_70 (v := 60) (by decide) ?_
          refine pa_iload_n hE dX7_judge_72 rfl 1 rfl ?_
          refine pa_imul hE dX7_judge_73 ?_
          refine pa_iload_n hE dX7_judge_74 rfl 2 rfl ?_
          refine pa_iadd hE dX7_judge_75 ?_
          refine pa_iload_n hE dX7_judge_76 rfl 3 rfl ?_
          refine pa_iadd hE dX7_judge_77 ?_
          obtain ⟨h11, hw⟩ := hw
          refine pl_66 hE h11 dX7_judge_78 ?_
          refine pa_aload_n hE dX7_judge_79 rfl 0 rfl ?_
          refine pg_24_6 hE (pa_m4 127 rfl rfl) dX7_judge_80 ?_
          refine pa_iload_n hE dX7_judge_83 rfl 3 rfl ?_
          obtain ⟨h12, hw⟩ := hw
          refine pl_28 hE h12 dX7_judge_84 ?_
          refine pa_i2l hE dX7_judge_85 ?_
          refine pa_lcmp hE dX7_judge_86 ?_
          refine pa_if_eq hE dX7_judge_87 (tgt := 92) (by decide) (fun h13 => ?_) (fun h13 => ?_)
          · have hw := Eq.mp (if_pos h13) hw
            refine pa_iinc hE dX7_judge_92 (v := 1) 3 rfl (by decide) (by decide) (lvr := [(0, .ref (q 24 0)), (1, .int x1), (2, .int x2)]) rfl (fun v14 ev14 => ?_)
            have hw := hw v14 ev14
            refine pa_goto hE dX7_judge_95 (tgt := 24) (by decide) ?_
            exact pa_sub [1, 2, 3, 0] rfl (hk24 x1 x2 v14 hw)
          · have hw := Eq.mp (if_neg h13) hw
            refine pa_iload_n hE dX7_judge_90 rfl 3 rfl ?_
            exact pa_iret hE hr ⟨rfl, hw⟩ rfl dX7_judge_91
        · have hw := Eq.mp (if_neg h10) hw
          refine pa_bipush hE dX7_judge_61 (v := 100) (by decide) ?_
          refine pa_iload_n hE dX7_judge_63 rfl 3 rfl ?_
          refine pa_iadd hE dX7_judge_64 ?_
          exact pa_iret hE hr ⟨rfl, hw⟩ rfl dX7_judge_65
def wl_X7_judge_24 (post : Int32 → Prop) (u0 : pa_S) : Nat → Int32 → Int32 → Int32 → Prop
  | 0, _, _, _ => False
  | n + 1, x1, x2, x3 => wb_X7_judge_24 (fun x1 x2 x3 => wl_X7_judge_24 post u0 n x1 x2 x3) u0 x1 x2 x3 post
set_option maxRecDepth 100000 in
set_option maxHeartbeats 4000000 in
theorem tl_X7_judge_24 {p : Program} {l : Launch} {e : Env} {s : State} {m : MethodId} {args : Array Value} {below : List Frame} {meth : Method} {c : Code} {A : Nat → Prop} {D : va_G} {g : pa_G} {q : Nat → Nat → Nat} {u0 : pa_S} {post : Int32 → Prop} (hE : pa_Fx p s m args meth c A D g 4 cX7_judge RX7) (hr : meth.sig.returnType = (some .int)) : ∀ (n : Nat) (x1 : Int32) (x2 : Int32) (x3 : Int32), wl_X7_judge_24 post u0 n x1 x2 x3 → pa_At p l e (pa_rm 4) s m args below meth c (MQ below (pa_Qc g D q (fun r => some (.int r)) (fun r u => u = u0 ∧ post r) A) args s 0 0 A) A D g 4 0 0 q u0 24 [(0, .ref (q 24 0)), (1, .int x1), (2, .int x2), (3, .int x3)] []
  | 0, _, _, _, hw => absurd hw (by simp only [wl_X7_judge_24]; exact fun z => z)
  | n + 1, x1, x2, x3, hw => tb_X7_judge_24 hE hr (fun x1 x2 x3  hw1 => tl_X7_judge_24 hE hr  n x1 x2 x3  hw1) hw
def wb_X7_judge_0 (u0 : pa_S) (x1 : Int32) (x2 : Int32) (post : Int32 → Prop) : Prop :=
  (wp_X7_isTape u0 x1 (fun (r1 : Int32) => (if r1 = 0 then post (-1 : Int32) else (vp_in x1 6) ∧ (if (pa_A u0 64 0 x1.toNatClampNeg) ≤ 0 then wl_X7_judge_24 post u0 5000 x1 x2 0 else post (-12 : Int32)))))
set_option maxRecDepth 100000 in
set_option maxHeartbeats 4000000 in
theorem tb_X7_judge_0 {p : Program} {l : Launch} {e : Env} {s : State} {m : MethodId} {args : Array Value} {below : List Frame} {meth : Method} {c : Code} {A : Nat → Prop} {D : va_G} {g : pa_G} {q : Nat → Nat → Nat} {u0 : pa_S} {x1 : Int32} {x2 : Int32} {post : Int32 → Prop} (hE : pa_Fx p s m args meth c A D g 4 cX7_judge RX7) (hr : meth.sig.returnType = (some .int)) (hw : wb_X7_judge_0 u0 x1 x2 post) : pa_At p l e (pa_rm 4) s m args below meth c (MQ below (pa_Qc g D q (fun r => some (.int r)) (fun r u => u = u0 ∧ post r) A) args s 0 0 A) A D g 4 0 0 q u0 0 [(0, .ref (q 24 0)), (1, .int x1), (2, .int x2)] [] := by
  refine pa_aload_n hE dX7_judge_0 rfl 0 rfl ?_
  refine pa_iload_n hE dX7_judge_1 rfl 1 rfl ?_
  refine pa_callVri hE (ct_X7_isTape l g D q u0 x1 _ hw) cv_RX7_383 pa_in24 rfl rfl rfl (pa_hR (by omega) (by decide)) rfl (Nat.le_of_ble_eq_true rfl) dX7_judge_2 (fun r1 hw => ?_)
  refine pa_if_ne hE dX7_judge_5 (tgt := 10) (by decide) (fun h2 => ?_) (fun h2 => ?_)
  · have hw := Eq.mp (if_neg h2) hw
    refine pa_aload_n hE dX7_judge_10 rfl 0 rfl ?_
    refine pg_24_65 hE (pa_m4 186 rfl rfl) dX7_judge_11 ?_
    refine pa_iload_n hE dX7_judge_14 rfl 1 rfl ?_
    obtain ⟨h3, hw⟩ := hw
    refine pl_64 hE h3 dX7_judge_15 ?_
    refine pa_if_le hE dX7_judge_16 (tgt := 22) (by decide) (fun h4 => ?_) (fun h4 => ?_)
    · have hw := Eq.mp (if_pos h4) hw
      refine pa_iconst hE dX7_judge_22 (v := 0) (by decide) ?_
      refine pa_istore_n hE dX7_judge_23 rfl (by decide) (lvr := [(0, .ref (q 24 0)), (1, .int x1), (2, .int x2)]) rfl ?_
      exact pa_sub [1, 2, 3, 0] rfl (tl_X7_judge_24 hE hr 5000 x1 x2 0 hw)
    · have hw := Eq.mp (if_neg h4) hw
      refine pa_bipush hE dX7_judge_19 (v := (-12 : Int32)) (by decide) ?_
      exact pa_iret hE hr ⟨rfl, hw⟩ rfl dX7_judge_21
  · have hw := Eq.mp (if_pos h2) hw
    refine pa_iconst hE dX7_judge_8 (v := (-1 : Int32)) (by decide) ?_
    exact pa_iret hE hr ⟨rfl, hw⟩ rfl dX7_judge_9
def wp_X7_judge (u0 : pa_S) (x1 : Int32) (x2 : Int32) (post : Int32 → Prop) : Prop := wb_X7_judge_0 u0 x1 x2 post
theorem ct_X7_judge (l : Launch) (g : pa_G) (D : va_G) (q : Nat → Nat → Nat) (u0 : pa_S) (x1 : Int32) (x2 : Int32) (post : Int32 → Prop)  (hw : wp_X7_judge u0 x1 x2 post) : pa_Ct l yX7_judge cX7_judge 4 (some .int) 4 g D q u0 [.ref (q 24 0), .int x1, .int x2] (fun r => some (.int r)) (fun r u => u = u0 ∧ post r) := pa_met rfl rfl (Nat.le_of_ble_eq_true rfl) rfl (fun p e s m args below meth c A hE hr => tb_X7_judge_0 hE hr  hw)
def wb_X7_image_238 (k238 : pa_S → Int32 → Prop) (u0 : pa_S) (x1 : Int32) (post : Int32 → pa_S → Prop) : Prop :=
  (if 8 ≤ x1 then post (pa_I u0 24 0 0) u0 else (vp_in x1 8) ∧ (vp_in x1 8) ∧ ∀ u16 : pa_S, u16 = pa_sA u0 61 0 (upd (pa_A u0 61 0) x1.toNatClampNeg (pa_A u0 42 0 x1.toNatClampNeg)) → (vp_in x1 8) ∧ (vp_in x1 8) ∧ ∀ u19 : pa_S, u19 = pa_sA u16 62 0 (upd (pa_A u16 62 0) x1.toNatClampNeg (pa_A u16 43 0 x1.toNatClampNeg)) → ∀ v20 : Int32, v20 = x1 + 1 → k238 u19 v20)
set_option maxRecDepth 100000 in
set_option maxHeartbeats 4000000 in
theorem tb_X7_image_238 {p : Program} {l : Launch} {e : Env} {s : State} {m : MethodId} {args : Array Value} {below : List Frame} {meth : Method} {c : Code} {A : Nat → Prop} {D : va_G} {g : pa_G} {q : Nat → Nat → Nat} {k238 : pa_S → Int32 → Prop} {u0 : pa_S} {x1 : Int32} {post : Int32 → pa_S → Prop} (hE : pa_Fx p s m args meth c A D g 2 cX7_image RX7) (hr : meth.sig.returnType = (some .int)) (hk238 : ∀ (u : pa_S)  (x1 : Int32), k238 u x1 → pa_At p l e (pa_rm 2) s m args below meth c (MQ below (pa_Qc g D q (fun r => some (.int r)) post A) args s 0 0 A) A D g 2 0 0 q u 238 [(0, .ref (q 24 0)), (1, .int x1)] []) (hw : wb_X7_image_238 k238 u0 x1 post) : pa_At p l e (pa_rm 2) s m args below meth c (MQ below (pa_Qc g D q (fun r => some (.int r)) post A) args s 0 0 A) A D g 2 0 0 q u0 238 [(0, .ref (q 24 0)), (1, .int x1)] [] := by
  refine pa_iload_n hE dX7_image_238 rfl 1 rfl ?_
  refine pa_bipush hE dX7_image_239 (v := 8) (by decide) ?_
  refine pa_icmp_ge hE dX7_image_241 (tgt := 274) (by decide) (fun h13 => ?_) (fun h13 => ?_)
  · have hw := Eq.mp (if_pos h13) hw
    refine pa_aload_n hE dX7_image_274 rfl 0 rfl ?_
    refine pg_24_0 hE (pa_m4 121 rfl rfl) dX7_image_275 ?_
    exact pa_iret hE hr hw rfl dX7_image_278
  · have hw := Eq.mp (if_neg h13) hw
    refine pa_aload_n hE dX7_image_244 rfl 0 rfl ?_
    refine pg_24_61 hE (pa_m4 182 rfl rfl) dX7_image_245 ?_
    refine pa_iload_n hE dX7_image_248 rfl 1 rfl ?_
    refine pa_aload_n hE dX7_image_249 rfl 0 rfl ?_
    refine pg_24_31 hE (pa_m4 152 rfl rfl) dX7_image_250 ?_
    refine pa_iload_n hE dX7_image_253 rfl 1 rfl ?_
    obtain ⟨h14, hw⟩ := hw
    refine pl_42 hE h14 dX7_image_254 ?_
    obtain ⟨h15, hw⟩ := hw
    refine ps_61 hE h15 dX7_image_255 (fun u16 eu16 => ?_)
    have hw := hw u16 eu16
    refine pa_aload_n hE dX7_image_256 rfl 0 rfl ?_
    refine pg_24_62 hE (pa_m4 183 rfl rfl) dX7_image_257 ?_
    refine pa_iload_n hE dX7_image_260 rfl 1 rfl ?_
    refine pa_aload_n hE dX7_image_261 rfl 0 rfl ?_
    refine pg_24_32 hE (pa_m4 153 rfl rfl) dX7_image_262 ?_
    refine pa_iload_n hE dX7_image_265 rfl 1 rfl ?_
    obtain ⟨h17, hw⟩ := hw
    refine pl_43 hE h17 dX7_image_266 ?_
    obtain ⟨h18, hw⟩ := hw
    refine ps_62 hE h18 dX7_image_267 (fun u19 eu19 => ?_)
    have hw := hw u19 eu19
    refine pa_iinc hE dX7_image_268 (v := 1) 1 rfl (by decide) (by decide) (lvr := [(0, .ref (q 24 0))]) rfl (fun v20 ev20 => ?_)
    have hw := hw v20 ev20
    refine pa_goto hE dX7_image_271 (tgt := 238) (by decide) ?_
    exact pa_sub [1, 0] rfl (hk238 u19 v20 hw)
def wl_X7_image_238 (post : Int32 → pa_S → Prop) : Nat → pa_S → Int32 → Prop
  | 0, _, _ => False
  | n + 1, u0, x1 => wb_X7_image_238 (fun u0 x1 => wl_X7_image_238 post n u0 x1) u0 x1 post
set_option maxRecDepth 100000 in
set_option maxHeartbeats 4000000 in
theorem tl_X7_image_238 {p : Program} {l : Launch} {e : Env} {s : State} {m : MethodId} {args : Array Value} {below : List Frame} {meth : Method} {c : Code} {A : Nat → Prop} {D : va_G} {g : pa_G} {q : Nat → Nat → Nat} {post : Int32 → pa_S → Prop} (hE : pa_Fx p s m args meth c A D g 2 cX7_image RX7) (hr : meth.sig.returnType = (some .int)) : ∀ (n : Nat) (u0 : pa_S) (x1 : Int32), wl_X7_image_238 post n u0 x1 → pa_At p l e (pa_rm 2) s m args below meth c (MQ below (pa_Qc g D q (fun r => some (.int r)) post A) args s 0 0 A) A D g 2 0 0 q u0 238 [(0, .ref (q 24 0)), (1, .int x1)] []
  | 0, _, _, hw => absurd hw (by simp only [wl_X7_image_238]; exact fun z => z)
  | n + 1, u0, x1, hw => tb_X7_image_238 hE hr (fun u0 x1  hw1 => tl_X7_image_238 hE hr  n u0 x1  hw1) hw
def wb_X7_image_200 (k200 : pa_S → Int32 → Prop) (u0 : pa_S) (x1 : Int32) (post : Int32 → pa_S → Prop) : Prop :=
  (if 10 ≤ x1 then wl_X7_image_238 post 5000 u0 0 else (vp_in x1 10) ∧ (vp_in x1 10) ∧ ∀ u23 : pa_S, u23 = pa_sA u0 59 0 (upd (pa_A u0 59 0) x1.toNatClampNeg (pa_A u0 49 0 x1.toNatClampNeg)) → (vp_in x1 10) ∧ (vp_in x1 10) ∧ ∀ u26 : pa_S, u26 = pa_sA u23 60 0 (upd (pa_A u23 60 0) x1.toNatClampNeg (pa_A u23 50 0 x1.toNatClampNeg)) → ∀ v27 : Int32, v27 = x1 + 1 → k200 u26 v27)
set_option maxRecDepth 100000 in
set_option maxHeartbeats 4000000 in
theorem tb_X7_image_200 {p : Program} {l : Launch} {e : Env} {s : State} {m : MethodId} {args : Array Value} {below : List Frame} {meth : Method} {c : Code} {A : Nat → Prop} {D : va_G} {g : pa_G} {q : Nat → Nat → Nat} {k200 : pa_S → Int32 → Prop} {u0 : pa_S} {x1 : Int32} {post : Int32 → pa_S → Prop} (hE : pa_Fx p s m args meth c A D g 2 cX7_image RX7) (hr : meth.sig.returnType = (some .int)) (hk200 : ∀ (u : pa_S)  (x1 : Int32), k200 u x1 → pa_At p l e (pa_rm 2) s m args below meth c (MQ below (pa_Qc g D q (fun r => some (.int r)) post A) args s 0 0 A) A D g 2 0 0 q u 200 [(0, .ref (q 24 0)), (1, .int x1)] []) (hw : wb_X7_image_200 k200 u0 x1 post) : pa_At p l e (pa_rm 2) s m args below meth c (MQ below (pa_Qc g D q (fun r => some (.int r)) post A) args s 0 0 A) A D g 2 0 0 q u0 200 [(0, .ref (q 24 0)), (1, .int x1)] [] := by
  refine pa_iload_n hE dX7_image_200 rfl 1 rfl ?_
  refine pa_bipush hE dX7_image_201 (v := 10) (by decide) ?_
  refine pa_icmp_ge hE dX7_image_203 (tgt := 236) (by decide) (fun h12 => ?_) (fun h12 => ?_)
  · have hw := Eq.mp (if_pos h12) hw
    refine pa_iconst hE dX7_image_236 (v := 0) (by decide) ?_
    refine pa_istore_n hE dX7_image_237 rfl (by decide) (lvr := [(0, .ref (q 24 0))]) rfl ?_
    exact pa_sub [1, 0] rfl (tl_X7_image_238 hE hr 5000 u0 0 hw)
  · have hw := Eq.mp (if_neg h12) hw
    refine pa_aload_n hE dX7_image_206 rfl 0 rfl ?_
    refine pg_24_59 hE (pa_m4 180 rfl rfl) dX7_image_207 ?_
    refine pa_iload_n hE dX7_image_210 rfl 1 rfl ?_
    refine pa_aload_n hE dX7_image_211 rfl 0 rfl ?_
    refine pg_24_41 hE (pa_m4 162 rfl rfl) dX7_image_212 ?_
    refine pa_iload_n hE dX7_image_215 rfl 1 rfl ?_
    obtain ⟨h21, hw⟩ := hw
    refine pl_49 hE h21 dX7_image_216 ?_
    obtain ⟨h22, hw⟩ := hw
    refine ps_59 hE h22 dX7_image_217 (fun u23 eu23 => ?_)
    have hw := hw u23 eu23
    refine pa_aload_n hE dX7_image_218 rfl 0 rfl ?_
    refine pg_24_60 hE (pa_m4 181 rfl rfl) dX7_image_219 ?_
    refine pa_iload_n hE dX7_image_222 rfl 1 rfl ?_
    refine pa_aload_n hE dX7_image_223 rfl 0 rfl ?_
    refine pg_24_42 hE (pa_m4 163 rfl rfl) dX7_image_224 ?_
    refine pa_iload_n hE dX7_image_227 rfl 1 rfl ?_
    obtain ⟨h24, hw⟩ := hw
    refine pl_50 hE h24 dX7_image_228 ?_
    obtain ⟨h25, hw⟩ := hw
    refine ps_60 hE h25 dX7_image_229 (fun u26 eu26 => ?_)
    have hw := hw u26 eu26
    refine pa_iinc hE dX7_image_230 (v := 1) 1 rfl (by decide) (by decide) (lvr := [(0, .ref (q 24 0))]) rfl (fun v27 ev27 => ?_)
    have hw := hw v27 ev27
    refine pa_goto hE dX7_image_233 (tgt := 200) (by decide) ?_
    exact pa_sub [1, 0] rfl (hk200 u26 v27 hw)
def wl_X7_image_200 (post : Int32 → pa_S → Prop) : Nat → pa_S → Int32 → Prop
  | 0, _, _ => False
  | n + 1, u0, x1 => wb_X7_image_200 (fun u0 x1 => wl_X7_image_200 post n u0 x1) u0 x1 post
set_option maxRecDepth 100000 in
set_option maxHeartbeats 4000000 in
theorem tl_X7_image_200 {p : Program} {l : Launch} {e : Env} {s : State} {m : MethodId} {args : Array Value} {below : List Frame} {meth : Method} {c : Code} {A : Nat → Prop} {D : va_G} {g : pa_G} {q : Nat → Nat → Nat} {post : Int32 → pa_S → Prop} (hE : pa_Fx p s m args meth c A D g 2 cX7_image RX7) (hr : meth.sig.returnType = (some .int)) : ∀ (n : Nat) (u0 : pa_S) (x1 : Int32), wl_X7_image_200 post n u0 x1 → pa_At p l e (pa_rm 2) s m args below meth c (MQ below (pa_Qc g D q (fun r => some (.int r)) post A) args s 0 0 A) A D g 2 0 0 q u0 200 [(0, .ref (q 24 0)), (1, .int x1)] []
  | 0, _, _, hw => absurd hw (by simp only [wl_X7_image_200]; exact fun z => z)
  | n + 1, u0, x1, hw => tb_X7_image_200 hE hr (fun u0 x1  hw1 => tl_X7_image_200 hE hr  n u0 x1  hw1) hw
def wb_X7_image_174 (k174 : pa_S → Int32 → Prop) (u0 : pa_S) (x1 : Int32) (post : Int32 → pa_S → Prop) : Prop :=
  (if 20 ≤ x1 then wl_X7_image_200 post 5000 u0 0 else (vp_in x1 20) ∧ (vp_in x1 20) ∧ ∀ u30 : pa_S, u30 = pa_sA u0 55 0 (upd (pa_A u0 55 0) x1.toNatClampNeg (pa_A u0 29 0 x1.toNatClampNeg)) → ∀ v31 : Int32, v31 = x1 + 1 → k174 u30 v31)
set_option maxRecDepth 100000 in
set_option maxHeartbeats 4000000 in
theorem tb_X7_image_174 {p : Program} {l : Launch} {e : Env} {s : State} {m : MethodId} {args : Array Value} {below : List Frame} {meth : Method} {c : Code} {A : Nat → Prop} {D : va_G} {g : pa_G} {q : Nat → Nat → Nat} {k174 : pa_S → Int32 → Prop} {u0 : pa_S} {x1 : Int32} {post : Int32 → pa_S → Prop} (hE : pa_Fx p s m args meth c A D g 2 cX7_image RX7) (hr : meth.sig.returnType = (some .int)) (hk174 : ∀ (u : pa_S)  (x1 : Int32), k174 u x1 → pa_At p l e (pa_rm 2) s m args below meth c (MQ below (pa_Qc g D q (fun r => some (.int r)) post A) args s 0 0 A) A D g 2 0 0 q u 174 [(0, .ref (q 24 0)), (1, .int x1)] []) (hw : wb_X7_image_174 k174 u0 x1 post) : pa_At p l e (pa_rm 2) s m args below meth c (MQ below (pa_Qc g D q (fun r => some (.int r)) post A) args s 0 0 A) A D g 2 0 0 q u0 174 [(0, .ref (q 24 0)), (1, .int x1)] [] := by
  refine pa_iload_n hE dX7_image_174 rfl 1 rfl ?_
  refine pa_bipush hE dX7_image_175 (v := 20) (by decide) ?_
  refine pa_icmp_ge hE dX7_image_177 (tgt := 198) (by decide) (fun h11 => ?_) (fun h11 => ?_)
  · have hw := Eq.mp (if_pos h11) hw
    refine pa_iconst hE dX7_image_198 (v := 0) (by decide) ?_
    refine pa_istore_n hE dX7_image_199 rfl (by decide) (lvr := [(0, .ref (q 24 0))]) rfl ?_
    exact pa_sub [1, 0] rfl (tl_X7_image_200 hE hr 5000 u0 0 hw)
  · have hw := Eq.mp (if_neg h11) hw
    refine pa_aload_n hE dX7_image_180 rfl 0 rfl ?_
    refine pg_24_55 hE (pa_m4 176 rfl rfl) dX7_image_181 ?_
    refine pa_iload_n hE dX7_image_184 rfl 1 rfl ?_
    refine pa_aload_n hE dX7_image_185 rfl 0 rfl ?_
    refine pg_24_7 hE (pa_m4 128 rfl rfl) dX7_image_186 ?_
    refine pa_iload_n hE dX7_image_189 rfl 1 rfl ?_
    obtain ⟨h28, hw⟩ := hw
    refine pl_29 hE h28 dX7_image_190 ?_
    obtain ⟨h29, hw⟩ := hw
    refine ps_55 hE h29 dX7_image_191 (fun u30 eu30 => ?_)
    have hw := hw u30 eu30
    refine pa_iinc hE dX7_image_192 (v := 1) 1 rfl (by decide) (by decide) (lvr := [(0, .ref (q 24 0))]) rfl (fun v31 ev31 => ?_)
    have hw := hw v31 ev31
    refine pa_goto hE dX7_image_195 (tgt := 174) (by decide) ?_
    exact pa_sub [1, 0] rfl (hk174 u30 v31 hw)
def wl_X7_image_174 (post : Int32 → pa_S → Prop) : Nat → pa_S → Int32 → Prop
  | 0, _, _ => False
  | n + 1, u0, x1 => wb_X7_image_174 (fun u0 x1 => wl_X7_image_174 post n u0 x1) u0 x1 post
set_option maxRecDepth 100000 in
set_option maxHeartbeats 4000000 in
theorem tl_X7_image_174 {p : Program} {l : Launch} {e : Env} {s : State} {m : MethodId} {args : Array Value} {below : List Frame} {meth : Method} {c : Code} {A : Nat → Prop} {D : va_G} {g : pa_G} {q : Nat → Nat → Nat} {post : Int32 → pa_S → Prop} (hE : pa_Fx p s m args meth c A D g 2 cX7_image RX7) (hr : meth.sig.returnType = (some .int)) : ∀ (n : Nat) (u0 : pa_S) (x1 : Int32), wl_X7_image_174 post n u0 x1 → pa_At p l e (pa_rm 2) s m args below meth c (MQ below (pa_Qc g D q (fun r => some (.int r)) post A) args s 0 0 A) A D g 2 0 0 q u0 174 [(0, .ref (q 24 0)), (1, .int x1)] []
  | 0, _, _, hw => absurd hw (by simp only [wl_X7_image_174]; exact fun z => z)
  | n + 1, u0, x1, hw => tb_X7_image_174 hE hr (fun u0 x1  hw1 => tl_X7_image_174 hE hr  n u0 x1  hw1) hw
def wb_X7_image_148 (k148 : pa_S → Int32 → Prop) (u0 : pa_S) (x1 : Int32) (post : Int32 → pa_S → Prop) : Prop :=
  (if 15 ≤ x1 then wl_X7_image_174 post 5000 u0 0 else (vp_in x1 15) ∧ (vp_in x1 15) ∧ ∀ u34 : pa_S, u34 = pa_sA u0 54 0 (upd (pa_A u0 54 0) x1.toNatClampNeg (pa_A u0 28 0 x1.toNatClampNeg)) → ∀ v35 : Int32, v35 = x1 + 1 → k148 u34 v35)
set_option maxRecDepth 100000 in
set_option maxHeartbeats 4000000 in
theorem tb_X7_image_148 {p : Program} {l : Launch} {e : Env} {s : State} {m : MethodId} {args : Array Value} {below : List Frame} {meth : Method} {c : Code} {A : Nat → Prop} {D : va_G} {g : pa_G} {q : Nat → Nat → Nat} {k148 : pa_S → Int32 → Prop} {u0 : pa_S} {x1 : Int32} {post : Int32 → pa_S → Prop} (hE : pa_Fx p s m args meth c A D g 2 cX7_image RX7) (hr : meth.sig.returnType = (some .int)) (hk148 : ∀ (u : pa_S)  (x1 : Int32), k148 u x1 → pa_At p l e (pa_rm 2) s m args below meth c (MQ below (pa_Qc g D q (fun r => some (.int r)) post A) args s 0 0 A) A D g 2 0 0 q u 148 [(0, .ref (q 24 0)), (1, .int x1)] []) (hw : wb_X7_image_148 k148 u0 x1 post) : pa_At p l e (pa_rm 2) s m args below meth c (MQ below (pa_Qc g D q (fun r => some (.int r)) post A) args s 0 0 A) A D g 2 0 0 q u0 148 [(0, .ref (q 24 0)), (1, .int x1)] [] := by
  refine pa_iload_n hE dX7_image_148 rfl 1 rfl ?_
  refine pa_bipush hE dX7_image_149 (v := 15) (by decide) ?_
  refine pa_icmp_ge hE dX7_image_151 (tgt := 172) (by decide) (fun h10 => ?_) (fun h10 => ?_)
  · have hw := Eq.mp (if_pos h10) hw
    refine pa_iconst hE dX7_image_172 (v := 0) (by decide) ?_
    refine pa_istore_n hE dX7_image_173 rfl (by decide) (lvr := [(0, .ref (q 24 0))]) rfl ?_
    exact pa_sub [1, 0] rfl (tl_X7_image_174 hE hr 5000 u0 0 hw)
  · have hw := Eq.mp (if_neg h10) hw
    refine pa_aload_n hE dX7_image_154 rfl 0 rfl ?_
    refine pg_24_54 hE (pa_m4 175 rfl rfl) dX7_image_155 ?_
    refine pa_iload_n hE dX7_image_158 rfl 1 rfl ?_
    refine pa_aload_n hE dX7_image_159 rfl 0 rfl ?_
    refine pg_24_6 hE (pa_m4 127 rfl rfl) dX7_image_160 ?_
    refine pa_iload_n hE dX7_image_163 rfl 1 rfl ?_
    obtain ⟨h32, hw⟩ := hw
    refine pl_28 hE h32 dX7_image_164 ?_
    obtain ⟨h33, hw⟩ := hw
    refine ps_54 hE h33 dX7_image_165 (fun u34 eu34 => ?_)
    have hw := hw u34 eu34
    refine pa_iinc hE dX7_image_166 (v := 1) 1 rfl (by decide) (by decide) (lvr := [(0, .ref (q 24 0))]) rfl (fun v35 ev35 => ?_)
    have hw := hw v35 ev35
    refine pa_goto hE dX7_image_169 (tgt := 148) (by decide) ?_
    exact pa_sub [1, 0] rfl (hk148 u34 v35 hw)
def wl_X7_image_148 (post : Int32 → pa_S → Prop) : Nat → pa_S → Int32 → Prop
  | 0, _, _ => False
  | n + 1, u0, x1 => wb_X7_image_148 (fun u0 x1 => wl_X7_image_148 post n u0 x1) u0 x1 post
set_option maxRecDepth 100000 in
set_option maxHeartbeats 4000000 in
theorem tl_X7_image_148 {p : Program} {l : Launch} {e : Env} {s : State} {m : MethodId} {args : Array Value} {below : List Frame} {meth : Method} {c : Code} {A : Nat → Prop} {D : va_G} {g : pa_G} {q : Nat → Nat → Nat} {post : Int32 → pa_S → Prop} (hE : pa_Fx p s m args meth c A D g 2 cX7_image RX7) (hr : meth.sig.returnType = (some .int)) : ∀ (n : Nat) (u0 : pa_S) (x1 : Int32), wl_X7_image_148 post n u0 x1 → pa_At p l e (pa_rm 2) s m args below meth c (MQ below (pa_Qc g D q (fun r => some (.int r)) post A) args s 0 0 A) A D g 2 0 0 q u0 148 [(0, .ref (q 24 0)), (1, .int x1)] []
  | 0, _, _, hw => absurd hw (by simp only [wl_X7_image_148]; exact fun z => z)
  | n + 1, u0, x1, hw => tb_X7_image_148 hE hr (fun u0 x1  hw1 => tl_X7_image_148 hE hr  n u0 x1  hw1) hw
def wb_X7_image_63 (k63 : pa_S → Int32 → Prop) (u0 : pa_S) (x1 : Int32) (post : Int32 → pa_S → Prop) : Prop :=
  (if 5 ≤ x1 then wl_X7_image_148 post 5000 u0 0 else (vp_in x1 5) ∧ (vp_in x1 5) ∧ ∀ u38 : pa_S, u38 = pa_sA u0 51 0 (upd (pa_A u0 51 0) x1.toNatClampNeg (pa_A u0 25 0 x1.toNatClampNeg)) → (vp_in x1 5) ∧ (vp_in x1 5) ∧ ∀ u41 : pa_S, u41 = pa_sA u38 52 0 (upd (pa_A u38 52 0) x1.toNatClampNeg (pa_A u38 26 0 x1.toNatClampNeg)) → (vp_in x1 5) ∧ (vp_in x1 5) ∧ ∀ u44 : pa_S, u44 = pa_sA u41 53 0 (upd (pa_A u41 53 0) x1.toNatClampNeg (pa_A u41 27 0 x1.toNatClampNeg)) → (vp_in x1 5) ∧ (vp_in x1 5) ∧ ∀ u47 : pa_S, u47 = pa_sA u44 56 0 (upd (pa_A u44 56 0) x1.toNatClampNeg (pa_A u44 46 0 x1.toNatClampNeg)) → (vp_in x1 5) ∧ (vp_in x1 5) ∧ ∀ u50 : pa_S, u50 = pa_sA u47 57 0 (upd (pa_A u47 57 0) x1.toNatClampNeg (pa_A u47 47 0 x1.toNatClampNeg)) → (vp_in x1 5) ∧ (vp_in x1 5) ∧ ∀ u53 : pa_S, u53 = pa_sA u50 58 0 (upd (pa_A u50 58 0) x1.toNatClampNeg (pa_A u50 48 0 x1.toNatClampNeg)) → ∀ v54 : Int32, v54 = x1 + 1 → k63 u53 v54)
set_option maxRecDepth 100000 in
set_option maxHeartbeats 4000000 in
theorem tb_X7_image_63 {p : Program} {l : Launch} {e : Env} {s : State} {m : MethodId} {args : Array Value} {below : List Frame} {meth : Method} {c : Code} {A : Nat → Prop} {D : va_G} {g : pa_G} {q : Nat → Nat → Nat} {k63 : pa_S → Int32 → Prop} {u0 : pa_S} {x1 : Int32} {post : Int32 → pa_S → Prop} (hE : pa_Fx p s m args meth c A D g 2 cX7_image RX7) (hr : meth.sig.returnType = (some .int)) (hk63 : ∀ (u : pa_S)  (x1 : Int32), k63 u x1 → pa_At p l e (pa_rm 2) s m args below meth c (MQ below (pa_Qc g D q (fun r => some (.int r)) post A) args s 0 0 A) A D g 2 0 0 q u 63 [(0, .ref (q 24 0)), (1, .int x1)] []) (hw : wb_X7_image_63 k63 u0 x1 post) : pa_At p l e (pa_rm 2) s m args below meth c (MQ below (pa_Qc g D q (fun r => some (.int r)) post A) args s 0 0 A) A D g 2 0 0 q u0 63 [(0, .ref (q 24 0)), (1, .int x1)] [] := by
  refine pa_iload_n hE dX7_image_63 rfl 1 rfl ?_
  refine pa_iconst hE dX7_image_64 (v := 5) (by decide) ?_
  refine pa_icmp_ge hE dX7_image_65 (tgt := 146) (by decide) (fun h9 => ?_) (fun h9 => ?_)
  · have hw := Eq.mp (if_pos h9) hw
    refine pa_iconst hE dX7_image_146 (v := 0) (by decide) ?_
    refine pa_istore_n hE dX7_image_147 rfl (by decide) (lvr := [(0, .ref (q 24 0))]) rfl ?_
    exact pa_sub [1, 0] rfl (tl_X7_image_148 hE hr 5000 u0 0 hw)
  · have hw := Eq.mp (if_neg h9) hw
    refine pa_aload_n hE dX7_image_68 rfl 0 rfl ?_
    refine pg_24_51 hE (pa_m4 172 rfl rfl) dX7_image_69 ?_
    refine pa_iload_n hE dX7_image_72 rfl 1 rfl ?_
    refine pa_aload_n hE dX7_image_73 rfl 0 rfl ?_
    refine pg_24_3 hE (pa_m4 124 rfl rfl) dX7_image_74 ?_
    refine pa_iload_n hE dX7_image_77 rfl 1 rfl ?_
    obtain ⟨h36, hw⟩ := hw
    refine pl_25 hE h36 dX7_image_78 ?_
    obtain ⟨h37, hw⟩ := hw
    refine ps_51 hE h37 dX7_image_79 (fun u38 eu38 => ?_)
    have hw := hw u38 eu38
    refine pa_aload_n hE dX7_image_80 rfl 0 rfl ?_
    refine pg_24_52 hE (pa_m4 173 rfl rfl) dX7_image_81 ?_
    refine pa_iload_n hE dX7_image_84 rfl 1 rfl ?_
    refine pa_aload_n hE dX7_image_85 rfl 0 rfl ?_
    refine pg_24_4 hE (pa_m4 125 rfl rfl) dX7_image_86 ?_
    refine pa_iload_n hE dX7_image_89 rfl 1 rfl ?_
    obtain ⟨h39, hw⟩ := hw
    refine pl_26 hE h39 dX7_image_90 ?_
    obtain ⟨h40, hw⟩ := hw
    refine ps_52 hE h40 dX7_image_91 (fun u41 eu41 => ?_)
    have hw := hw u41 eu41
    refine pa_aload_n hE dX7_image_92 rfl 0 rfl ?_
    refine pg_24_53 hE (pa_m4 174 rfl rfl) dX7_image_93 ?_
    refine pa_iload_n hE dX7_image_96 rfl 1 rfl ?_
    refine pa_aload_n hE dX7_image_97 rfl 0 rfl ?_
    refine pg_24_5 hE (pa_m4 126 rfl rfl) dX7_image_98 ?_
    refine pa_iload_n hE dX7_image_101 rfl 1 rfl ?_
    obtain ⟨h42, hw⟩ := hw
    refine pl_27 hE h42 dX7_image_102 ?_
    obtain ⟨h43, hw⟩ := hw
    refine ps_53 hE h43 dX7_image_103 (fun u44 eu44 => ?_)
    have hw := hw u44 eu44
    refine pa_aload_n hE dX7_image_104 rfl 0 rfl ?_
    refine pg_24_56 hE (pa_m4 177 rfl rfl) dX7_image_105 ?_
    refine pa_iload_n hE dX7_image_108 rfl 1 rfl ?_
    refine pa_aload_n hE dX7_image_109 rfl 0 rfl ?_
    refine pg_24_37 hE (pa_m4 158 rfl rfl) dX7_image_110 ?_
    refine pa_iload_n hE dX7_image_113 rfl 1 rfl ?_
    obtain ⟨h45, hw⟩ := hw
    refine pl_46 hE h45 dX7_image_114 ?_
    obtain ⟨h46, hw⟩ := hw
    refine ps_56 hE h46 dX7_image_115 (fun u47 eu47 => ?_)
    have hw := hw u47 eu47
    refine pa_aload_n hE dX7_image_116 rfl 0 rfl ?_
    refine pg_24_57 hE (pa_m4 178 rfl rfl) dX7_image_117 ?_
    refine pa_iload_n hE dX7_image_120 rfl 1 rfl ?_
    refine pa_aload_n hE dX7_image_121 rfl 0 rfl ?_
    refine pg_24_38 hE (pa_m4 159 rfl rfl) dX7_image_122 ?_
    refine pa_iload_n hE dX7_image_125 rfl 1 rfl ?_
    obtain ⟨h48, hw⟩ := hw
    refine pl_47 hE h48 dX7_image_126 ?_
    obtain ⟨h49, hw⟩ := hw
    refine ps_57 hE h49 dX7_image_127 (fun u50 eu50 => ?_)
    have hw := hw u50 eu50
    refine pa_aload_n hE dX7_image_128 rfl 0 rfl ?_
    refine pg_24_58 hE (pa_m4 179 rfl rfl) dX7_image_129 ?_
    refine pa_iload_n hE dX7_image_132 rfl 1 rfl ?_
    refine pa_aload_n hE dX7_image_133 rfl 0 rfl ?_
    refine pg_24_39 hE (pa_m4 160 rfl rfl) dX7_image_134 ?_
    refine pa_iload_n hE dX7_image_137 rfl 1 rfl ?_
    obtain ⟨h51, hw⟩ := hw
    refine pl_48 hE h51 dX7_image_138 ?_
    obtain ⟨h52, hw⟩ := hw
    refine ps_58 hE h52 dX7_image_139 (fun u53 eu53 => ?_)
    have hw := hw u53 eu53
    refine pa_iinc hE dX7_image_140 (v := 1) 1 rfl (by decide) (by decide) (lvr := [(0, .ref (q 24 0))]) rfl (fun v54 ev54 => ?_)
    have hw := hw v54 ev54
    refine pa_goto hE dX7_image_143 (tgt := 63) (by decide) ?_
    exact pa_sub [1, 0] rfl (hk63 u53 v54 hw)
def wl_X7_image_63 (post : Int32 → pa_S → Prop) : Nat → pa_S → Int32 → Prop
  | 0, _, _ => False
  | n + 1, u0, x1 => wb_X7_image_63 (fun u0 x1 => wl_X7_image_63 post n u0 x1) u0 x1 post
set_option maxRecDepth 100000 in
set_option maxHeartbeats 4000000 in
theorem tl_X7_image_63 {p : Program} {l : Launch} {e : Env} {s : State} {m : MethodId} {args : Array Value} {below : List Frame} {meth : Method} {c : Code} {A : Nat → Prop} {D : va_G} {g : pa_G} {q : Nat → Nat → Nat} {post : Int32 → pa_S → Prop} (hE : pa_Fx p s m args meth c A D g 2 cX7_image RX7) (hr : meth.sig.returnType = (some .int)) : ∀ (n : Nat) (u0 : pa_S) (x1 : Int32), wl_X7_image_63 post n u0 x1 → pa_At p l e (pa_rm 2) s m args below meth c (MQ below (pa_Qc g D q (fun r => some (.int r)) post A) args s 0 0 A) A D g 2 0 0 q u0 63 [(0, .ref (q 24 0)), (1, .int x1)] []
  | 0, _, _, hw => absurd hw (by simp only [wl_X7_image_63]; exact fun z => z)
  | n + 1, u0, x1, hw => tb_X7_image_63 hE hr (fun u0 x1  hw1 => tl_X7_image_63 hE hr  n u0 x1  hw1) hw
def wb_X7_image_0 (u0 : pa_S) (post : Int32 → pa_S → Prop) : Prop :=
  ∀ u1 : pa_S, u1 = pa_sI u0 24 0 43 1 → ∀ u2 : pa_S, u2 = pa_sI u1 24 0 44 (pa_I u1 24 0 9) → ∀ u3 : pa_S, u3 = pa_sI u2 24 0 45 (pa_I u2 24 0 0) → ∀ u4 : pa_S, u4 = pa_sI u3 24 0 46 (pa_I u3 24 0 1) → ∀ u5 : pa_S, u5 = pa_sI u4 24 0 47 (pa_I u4 24 0 2) → ∀ u6 : pa_S, u6 = pa_sI u5 24 0 48 (pa_I u5 24 0 36) → ∀ u7 : pa_S, u7 = pa_sI u6 24 0 49 (pa_I u6 24 0 40) → ∀ u8 : pa_S, u8 = pa_sI u7 24 0 50 (pa_I u7 24 0 30) → wl_X7_image_63 post 5000 u8 0
set_option maxRecDepth 100000 in
set_option maxHeartbeats 4000000 in
theorem tb_X7_image_0 {p : Program} {l : Launch} {e : Env} {s : State} {m : MethodId} {args : Array Value} {below : List Frame} {meth : Method} {c : Code} {A : Nat → Prop} {D : va_G} {g : pa_G} {q : Nat → Nat → Nat} {u0 : pa_S} {post : Int32 → pa_S → Prop} (hE : pa_Fx p s m args meth c A D g 2 cX7_image RX7) (hr : meth.sig.returnType = (some .int)) (hw : wb_X7_image_0 u0 post) : pa_At p l e (pa_rm 2) s m args below meth c (MQ below (pa_Qc g D q (fun r => some (.int r)) post A) args s 0 0 A) A D g 2 0 0 q u0 0 [(0, .ref (q 24 0))] [] := by
  refine pa_aload_n hE dX7_image_0 rfl 0 rfl ?_
  refine pa_iconst hE dX7_image_1 (v := 1) (by decide) ?_
  refine pp_24_43 (by decide) (by decide) hE (pa_m4 164 rfl rfl) dX7_image_2 (fun u1 eu1 => ?_)
  have hw := hw u1 eu1
  refine pa_aload_n hE dX7_image_5 rfl 0 rfl ?_
  refine pa_aload_n hE dX7_image_6 rfl 0 rfl ?_
  refine pg_24_9 hE (pa_m4 130 rfl rfl) dX7_image_7 ?_
  refine pp_24_44 hE (pa_m4 165 rfl rfl) dX7_image_10 (fun u2 eu2 => ?_)
  have hw := hw u2 eu2
  refine pa_aload_n hE dX7_image_13 rfl 0 rfl ?_
  refine pa_aload_n hE dX7_image_14 rfl 0 rfl ?_
  refine pg_24_0 hE (pa_m4 121 rfl rfl) dX7_image_15 ?_
  refine pp_24_45 hE (pa_m4 166 rfl rfl) dX7_image_18 (fun u3 eu3 => ?_)
  have hw := hw u3 eu3
  refine pa_aload_n hE dX7_image_21 rfl 0 rfl ?_
  refine pa_aload_n hE dX7_image_22 rfl 0 rfl ?_
  refine pg_24_1 hE (pa_m4 122 rfl rfl) dX7_image_23 ?_
  refine pp_24_46 hE (pa_m4 167 rfl rfl) dX7_image_26 (fun u4 eu4 => ?_)
  have hw := hw u4 eu4
  refine pa_aload_n hE dX7_image_29 rfl 0 rfl ?_
  refine pa_aload_n hE dX7_image_30 rfl 0 rfl ?_
  refine pg_24_2 hE (pa_m4 123 rfl rfl) dX7_image_31 ?_
  refine pp_24_47 hE (pa_m4 168 rfl rfl) dX7_image_34 (fun u5 eu5 => ?_)
  have hw := hw u5 eu5
  refine pa_aload_n hE dX7_image_37 rfl 0 rfl ?_
  refine pa_aload_n hE dX7_image_38 rfl 0 rfl ?_
  refine pg_24_36 hE (pa_m4 157 rfl rfl) dX7_image_39 ?_
  refine pp_24_48 hE (pa_m4 169 rfl rfl) dX7_image_42 (fun u6 eu6 => ?_)
  have hw := hw u6 eu6
  refine pa_aload_n hE dX7_image_45 rfl 0 rfl ?_
  refine pa_aload_n hE dX7_image_46 rfl 0 rfl ?_
  refine pg_24_40 hE (pa_m4 161 rfl rfl) dX7_image_47 ?_
  refine pp_24_49 hE (pa_m4 170 rfl rfl) dX7_image_50 (fun u7 eu7 => ?_)
  have hw := hw u7 eu7
  refine pa_aload_n hE dX7_image_53 rfl 0 rfl ?_
  refine pa_aload_n hE dX7_image_54 rfl 0 rfl ?_
  refine pg_24_30 hE (pa_m4 151 rfl rfl) dX7_image_55 ?_
  refine pp_24_50 hE (pa_m4 171 rfl rfl) dX7_image_58 (fun u8 eu8 => ?_)
  have hw := hw u8 eu8
  refine pa_iconst hE dX7_image_61 (v := 0) (by decide) ?_
  refine pa_istore_n hE dX7_image_62 rfl (by decide) (lvr := [(0, .ref (q 24 0))]) rfl ?_
  exact pa_sub [1, 0] rfl (tl_X7_image_63 hE hr 5000 u8 0 hw)
def wp_X7_image (u0 : pa_S) (post : Int32 → pa_S → Prop) : Prop := wb_X7_image_0 u0 post
theorem ct_X7_image (l : Launch) (g : pa_G) (D : va_G) (q : Nat → Nat → Nat) (u0 : pa_S) (post : Int32 → pa_S → Prop)  (hw : wp_X7_image u0 post) : pa_Ct l yX7_image cX7_image 2 (some .int) 2 g D q u0 [.ref (q 24 0)] (fun r => some (.int r)) post := pa_met rfl rfl (Nat.le_of_ble_eq_true rfl) rfl (fun p e s m args below meth c A hE hr => tb_X7_image_0 hE hr  hw)
def wb_X7_undo_243 (k243 : pa_S → Int32 → Prop) (u0 : pa_S) (x1 : Int32) (post : Int32 → pa_S → Prop) : Prop :=
  (if 8 ≤ x1 then post (pa_I u0 24 0 0) u0 else (vp_in x1 8) ∧ (vp_in x1 8) ∧ ∀ u16 : pa_S, u16 = pa_sA u0 42 0 (upd (pa_A u0 42 0) x1.toNatClampNeg (pa_A u0 61 0 x1.toNatClampNeg)) → (vp_in x1 8) ∧ (vp_in x1 8) ∧ ∀ u19 : pa_S, u19 = pa_sA u16 43 0 (upd (pa_A u16 43 0) x1.toNatClampNeg (pa_A u16 62 0 x1.toNatClampNeg)) → ∀ v20 : Int32, v20 = x1 + 1 → k243 u19 v20)
set_option maxRecDepth 100000 in
set_option maxHeartbeats 4000000 in
theorem tb_X7_undo_243 {p : Program} {l : Launch} {e : Env} {s : State} {m : MethodId} {args : Array Value} {below : List Frame} {meth : Method} {c : Code} {A : Nat → Prop} {D : va_G} {g : pa_G} {q : Nat → Nat → Nat} {k243 : pa_S → Int32 → Prop} {u0 : pa_S} {x1 : Int32} {post : Int32 → pa_S → Prop} (hE : pa_Fx p s m args meth c A D g 2 cX7_undo RX7) (hr : meth.sig.returnType = (some .int)) (hk243 : ∀ (u : pa_S)  (x1 : Int32), k243 u x1 → pa_At p l e (pa_rm 2) s m args below meth c (MQ below (pa_Qc g D q (fun r => some (.int r)) post A) args s 0 0 A) A D g 2 0 0 q u 243 [(0, .ref (q 24 0)), (1, .int x1)] []) (hw : wb_X7_undo_243 k243 u0 x1 post) : pa_At p l e (pa_rm 2) s m args below meth c (MQ below (pa_Qc g D q (fun r => some (.int r)) post A) args s 0 0 A) A D g 2 0 0 q u0 243 [(0, .ref (q 24 0)), (1, .int x1)] [] := by
  refine pa_iload_n hE dX7_undo_243 rfl 1 rfl ?_
  refine pa_bipush hE dX7_undo_244 (v := 8) (by decide) ?_
  refine pa_icmp_ge hE dX7_undo_246 (tgt := 279) (by decide) (fun h13 => ?_) (fun h13 => ?_)
  · have hw := Eq.mp (if_pos h13) hw
    refine pa_aload_n hE dX7_undo_279 rfl 0 rfl ?_
    refine pg_24_0 hE (pa_m4 121 rfl rfl) dX7_undo_280 ?_
    exact pa_iret hE hr hw rfl dX7_undo_283
  · have hw := Eq.mp (if_neg h13) hw
    refine pa_aload_n hE dX7_undo_249 rfl 0 rfl ?_
    refine pg_24_31 hE (pa_m4 152 rfl rfl) dX7_undo_250 ?_
    refine pa_iload_n hE dX7_undo_253 rfl 1 rfl ?_
    refine pa_aload_n hE dX7_undo_254 rfl 0 rfl ?_
    refine pg_24_61 hE (pa_m4 182 rfl rfl) dX7_undo_255 ?_
    refine pa_iload_n hE dX7_undo_258 rfl 1 rfl ?_
    obtain ⟨h14, hw⟩ := hw
    refine pl_61 hE h14 dX7_undo_259 ?_
    obtain ⟨h15, hw⟩ := hw
    refine ps_42 hE h15 dX7_undo_260 (fun u16 eu16 => ?_)
    have hw := hw u16 eu16
    refine pa_aload_n hE dX7_undo_261 rfl 0 rfl ?_
    refine pg_24_32 hE (pa_m4 153 rfl rfl) dX7_undo_262 ?_
    refine pa_iload_n hE dX7_undo_265 rfl 1 rfl ?_
    refine pa_aload_n hE dX7_undo_266 rfl 0 rfl ?_
    refine pg_24_62 hE (pa_m4 183 rfl rfl) dX7_undo_267 ?_
    refine pa_iload_n hE dX7_undo_270 rfl 1 rfl ?_
    obtain ⟨h17, hw⟩ := hw
    refine pl_62 hE h17 dX7_undo_271 ?_
    obtain ⟨h18, hw⟩ := hw
    refine ps_43 hE h18 dX7_undo_272 (fun u19 eu19 => ?_)
    have hw := hw u19 eu19
    refine pa_iinc hE dX7_undo_273 (v := 1) 1 rfl (by decide) (by decide) (lvr := [(0, .ref (q 24 0))]) rfl (fun v20 ev20 => ?_)
    have hw := hw v20 ev20
    refine pa_goto hE dX7_undo_276 (tgt := 243) (by decide) ?_
    exact pa_sub [1, 0] rfl (hk243 u19 v20 hw)
def wl_X7_undo_243 (post : Int32 → pa_S → Prop) : Nat → pa_S → Int32 → Prop
  | 0, _, _ => False
  | n + 1, u0, x1 => wb_X7_undo_243 (fun u0 x1 => wl_X7_undo_243 post n u0 x1) u0 x1 post
set_option maxRecDepth 100000 in
set_option maxHeartbeats 4000000 in
theorem tl_X7_undo_243 {p : Program} {l : Launch} {e : Env} {s : State} {m : MethodId} {args : Array Value} {below : List Frame} {meth : Method} {c : Code} {A : Nat → Prop} {D : va_G} {g : pa_G} {q : Nat → Nat → Nat} {post : Int32 → pa_S → Prop} (hE : pa_Fx p s m args meth c A D g 2 cX7_undo RX7) (hr : meth.sig.returnType = (some .int)) : ∀ (n : Nat) (u0 : pa_S) (x1 : Int32), wl_X7_undo_243 post n u0 x1 → pa_At p l e (pa_rm 2) s m args below meth c (MQ below (pa_Qc g D q (fun r => some (.int r)) post A) args s 0 0 A) A D g 2 0 0 q u0 243 [(0, .ref (q 24 0)), (1, .int x1)] []
  | 0, _, _, hw => absurd hw (by simp only [wl_X7_undo_243]; exact fun z => z)
  | n + 1, u0, x1, hw => tb_X7_undo_243 hE hr (fun u0 x1  hw1 => tl_X7_undo_243 hE hr  n u0 x1  hw1) hw
def wb_X7_undo_205 (k205 : pa_S → Int32 → Prop) (u0 : pa_S) (x1 : Int32) (post : Int32 → pa_S → Prop) : Prop :=
  (if 10 ≤ x1 then wl_X7_undo_243 post 5000 u0 0 else (vp_in x1 10) ∧ (vp_in x1 10) ∧ ∀ u23 : pa_S, u23 = pa_sA u0 49 0 (upd (pa_A u0 49 0) x1.toNatClampNeg (pa_A u0 59 0 x1.toNatClampNeg)) → (vp_in x1 10) ∧ (vp_in x1 10) ∧ ∀ u26 : pa_S, u26 = pa_sA u23 50 0 (upd (pa_A u23 50 0) x1.toNatClampNeg (pa_A u23 60 0 x1.toNatClampNeg)) → ∀ v27 : Int32, v27 = x1 + 1 → k205 u26 v27)
set_option maxRecDepth 100000 in
set_option maxHeartbeats 4000000 in
theorem tb_X7_undo_205 {p : Program} {l : Launch} {e : Env} {s : State} {m : MethodId} {args : Array Value} {below : List Frame} {meth : Method} {c : Code} {A : Nat → Prop} {D : va_G} {g : pa_G} {q : Nat → Nat → Nat} {k205 : pa_S → Int32 → Prop} {u0 : pa_S} {x1 : Int32} {post : Int32 → pa_S → Prop} (hE : pa_Fx p s m args meth c A D g 2 cX7_undo RX7) (hr : meth.sig.returnType = (some .int)) (hk205 : ∀ (u : pa_S)  (x1 : Int32), k205 u x1 → pa_At p l e (pa_rm 2) s m args below meth c (MQ below (pa_Qc g D q (fun r => some (.int r)) post A) args s 0 0 A) A D g 2 0 0 q u 205 [(0, .ref (q 24 0)), (1, .int x1)] []) (hw : wb_X7_undo_205 k205 u0 x1 post) : pa_At p l e (pa_rm 2) s m args below meth c (MQ below (pa_Qc g D q (fun r => some (.int r)) post A) args s 0 0 A) A D g 2 0 0 q u0 205 [(0, .ref (q 24 0)), (1, .int x1)] [] := by
  refine pa_iload_n hE dX7_undo_205 rfl 1 rfl ?_
  refine pa_bipush hE dX7_undo_206 (v := 10) (by decide) ?_
  refine pa_icmp_ge hE dX7_undo_208 (tgt := 241) (by decide) (fun h12 => ?_) (fun h12 => ?_)
  · have hw := Eq.mp (if_pos h12) hw
    refine pa_iconst hE dX7_undo_241 (v := 0) (by decide) ?_
    refine pa_istore_n hE dX7_undo_242 rfl (by decide) (lvr := [(0, .ref (q 24 0))]) rfl ?_
    exact pa_sub [1, 0] rfl (tl_X7_undo_243 hE hr 5000 u0 0 hw)
  · have hw := Eq.mp (if_neg h12) hw
    refine pa_aload_n hE dX7_undo_211 rfl 0 rfl ?_
    refine pg_24_41 hE (pa_m4 162 rfl rfl) dX7_undo_212 ?_
    refine pa_iload_n hE dX7_undo_215 rfl 1 rfl ?_
    refine pa_aload_n hE dX7_undo_216 rfl 0 rfl ?_
    refine pg_24_59 hE (pa_m4 180 rfl rfl) dX7_undo_217 ?_
    refine pa_iload_n hE dX7_undo_220 rfl 1 rfl ?_
    obtain ⟨h21, hw⟩ := hw
    refine pl_59 hE h21 dX7_undo_221 ?_
    obtain ⟨h22, hw⟩ := hw
    refine ps_49 hE h22 dX7_undo_222 (fun u23 eu23 => ?_)
    have hw := hw u23 eu23
    refine pa_aload_n hE dX7_undo_223 rfl 0 rfl ?_
    refine pg_24_42 hE (pa_m4 163 rfl rfl) dX7_undo_224 ?_
    refine pa_iload_n hE dX7_undo_227 rfl 1 rfl ?_
    refine pa_aload_n hE dX7_undo_228 rfl 0 rfl ?_
    refine pg_24_60 hE (pa_m4 181 rfl rfl) dX7_undo_229 ?_
    refine pa_iload_n hE dX7_undo_232 rfl 1 rfl ?_
    obtain ⟨h24, hw⟩ := hw
    refine pl_60 hE h24 dX7_undo_233 ?_
    obtain ⟨h25, hw⟩ := hw
    refine ps_50 hE h25 dX7_undo_234 (fun u26 eu26 => ?_)
    have hw := hw u26 eu26
    refine pa_iinc hE dX7_undo_235 (v := 1) 1 rfl (by decide) (by decide) (lvr := [(0, .ref (q 24 0))]) rfl (fun v27 ev27 => ?_)
    have hw := hw v27 ev27
    refine pa_goto hE dX7_undo_238 (tgt := 205) (by decide) ?_
    exact pa_sub [1, 0] rfl (hk205 u26 v27 hw)
def wl_X7_undo_205 (post : Int32 → pa_S → Prop) : Nat → pa_S → Int32 → Prop
  | 0, _, _ => False
  | n + 1, u0, x1 => wb_X7_undo_205 (fun u0 x1 => wl_X7_undo_205 post n u0 x1) u0 x1 post
set_option maxRecDepth 100000 in
set_option maxHeartbeats 4000000 in
theorem tl_X7_undo_205 {p : Program} {l : Launch} {e : Env} {s : State} {m : MethodId} {args : Array Value} {below : List Frame} {meth : Method} {c : Code} {A : Nat → Prop} {D : va_G} {g : pa_G} {q : Nat → Nat → Nat} {post : Int32 → pa_S → Prop} (hE : pa_Fx p s m args meth c A D g 2 cX7_undo RX7) (hr : meth.sig.returnType = (some .int)) : ∀ (n : Nat) (u0 : pa_S) (x1 : Int32), wl_X7_undo_205 post n u0 x1 → pa_At p l e (pa_rm 2) s m args below meth c (MQ below (pa_Qc g D q (fun r => some (.int r)) post A) args s 0 0 A) A D g 2 0 0 q u0 205 [(0, .ref (q 24 0)), (1, .int x1)] []
  | 0, _, _, hw => absurd hw (by simp only [wl_X7_undo_205]; exact fun z => z)
  | n + 1, u0, x1, hw => tb_X7_undo_205 hE hr (fun u0 x1  hw1 => tl_X7_undo_205 hE hr  n u0 x1  hw1) hw
def wb_X7_undo_179 (k179 : pa_S → Int32 → Prop) (u0 : pa_S) (x1 : Int32) (post : Int32 → pa_S → Prop) : Prop :=
  (if 20 ≤ x1 then wl_X7_undo_205 post 5000 u0 0 else (vp_in x1 20) ∧ (vp_in x1 20) ∧ ∀ u30 : pa_S, u30 = pa_sA u0 29 0 (upd (pa_A u0 29 0) x1.toNatClampNeg (pa_A u0 55 0 x1.toNatClampNeg)) → ∀ v31 : Int32, v31 = x1 + 1 → k179 u30 v31)
set_option maxRecDepth 100000 in
set_option maxHeartbeats 4000000 in
theorem tb_X7_undo_179 {p : Program} {l : Launch} {e : Env} {s : State} {m : MethodId} {args : Array Value} {below : List Frame} {meth : Method} {c : Code} {A : Nat → Prop} {D : va_G} {g : pa_G} {q : Nat → Nat → Nat} {k179 : pa_S → Int32 → Prop} {u0 : pa_S} {x1 : Int32} {post : Int32 → pa_S → Prop} (hE : pa_Fx p s m args meth c A D g 2 cX7_undo RX7) (hr : meth.sig.returnType = (some .int)) (hk179 : ∀ (u : pa_S)  (x1 : Int32), k179 u x1 → pa_At p l e (pa_rm 2) s m args below meth c (MQ below (pa_Qc g D q (fun r => some (.int r)) post A) args s 0 0 A) A D g 2 0 0 q u 179 [(0, .ref (q 24 0)), (1, .int x1)] []) (hw : wb_X7_undo_179 k179 u0 x1 post) : pa_At p l e (pa_rm 2) s m args below meth c (MQ below (pa_Qc g D q (fun r => some (.int r)) post A) args s 0 0 A) A D g 2 0 0 q u0 179 [(0, .ref (q 24 0)), (1, .int x1)] [] := by
  refine pa_iload_n hE dX7_undo_179 rfl 1 rfl ?_
  refine pa_bipush hE dX7_undo_180 (v := 20) (by decide) ?_
  refine pa_icmp_ge hE dX7_undo_182 (tgt := 203) (by decide) (fun h11 => ?_) (fun h11 => ?_)
  · have hw := Eq.mp (if_pos h11) hw
    refine pa_iconst hE dX7_undo_203 (v := 0) (by decide) ?_
    refine pa_istore_n hE dX7_undo_204 rfl (by decide) (lvr := [(0, .ref (q 24 0))]) rfl ?_
    exact pa_sub [1, 0] rfl (tl_X7_undo_205 hE hr 5000 u0 0 hw)
  · have hw := Eq.mp (if_neg h11) hw
    refine pa_aload_n hE dX7_undo_185 rfl 0 rfl ?_
    refine pg_24_7 hE (pa_m4 128 rfl rfl) dX7_undo_186 ?_
    refine pa_iload_n hE dX7_undo_189 rfl 1 rfl ?_
    refine pa_aload_n hE dX7_undo_190 rfl 0 rfl ?_
    refine pg_24_55 hE (pa_m4 176 rfl rfl) dX7_undo_191 ?_
    refine pa_iload_n hE dX7_undo_194 rfl 1 rfl ?_
    obtain ⟨h28, hw⟩ := hw
    refine pl_55 hE h28 dX7_undo_195 ?_
    obtain ⟨h29, hw⟩ := hw
    refine ps_29 hE h29 dX7_undo_196 (fun u30 eu30 => ?_)
    have hw := hw u30 eu30
    refine pa_iinc hE dX7_undo_197 (v := 1) 1 rfl (by decide) (by decide) (lvr := [(0, .ref (q 24 0))]) rfl (fun v31 ev31 => ?_)
    have hw := hw v31 ev31
    refine pa_goto hE dX7_undo_200 (tgt := 179) (by decide) ?_
    exact pa_sub [1, 0] rfl (hk179 u30 v31 hw)
def wl_X7_undo_179 (post : Int32 → pa_S → Prop) : Nat → pa_S → Int32 → Prop
  | 0, _, _ => False
  | n + 1, u0, x1 => wb_X7_undo_179 (fun u0 x1 => wl_X7_undo_179 post n u0 x1) u0 x1 post
set_option maxRecDepth 100000 in
set_option maxHeartbeats 4000000 in
theorem tl_X7_undo_179 {p : Program} {l : Launch} {e : Env} {s : State} {m : MethodId} {args : Array Value} {below : List Frame} {meth : Method} {c : Code} {A : Nat → Prop} {D : va_G} {g : pa_G} {q : Nat → Nat → Nat} {post : Int32 → pa_S → Prop} (hE : pa_Fx p s m args meth c A D g 2 cX7_undo RX7) (hr : meth.sig.returnType = (some .int)) : ∀ (n : Nat) (u0 : pa_S) (x1 : Int32), wl_X7_undo_179 post n u0 x1 → pa_At p l e (pa_rm 2) s m args below meth c (MQ below (pa_Qc g D q (fun r => some (.int r)) post A) args s 0 0 A) A D g 2 0 0 q u0 179 [(0, .ref (q 24 0)), (1, .int x1)] []
  | 0, _, _, hw => absurd hw (by simp only [wl_X7_undo_179]; exact fun z => z)
  | n + 1, u0, x1, hw => tb_X7_undo_179 hE hr (fun u0 x1  hw1 => tl_X7_undo_179 hE hr  n u0 x1  hw1) hw
def wb_X7_undo_153 (k153 : pa_S → Int32 → Prop) (u0 : pa_S) (x1 : Int32) (post : Int32 → pa_S → Prop) : Prop :=
  (if 15 ≤ x1 then wl_X7_undo_179 post 5000 u0 0 else (vp_in x1 15) ∧ (vp_in x1 15) ∧ ∀ u34 : pa_S, u34 = pa_sA u0 28 0 (upd (pa_A u0 28 0) x1.toNatClampNeg (pa_A u0 54 0 x1.toNatClampNeg)) → ∀ v35 : Int32, v35 = x1 + 1 → k153 u34 v35)
set_option maxRecDepth 100000 in
set_option maxHeartbeats 4000000 in
theorem tb_X7_undo_153 {p : Program} {l : Launch} {e : Env} {s : State} {m : MethodId} {args : Array Value} {below : List Frame} {meth : Method} {c : Code} {A : Nat → Prop} {D : va_G} {g : pa_G} {q : Nat → Nat → Nat} {k153 : pa_S → Int32 → Prop} {u0 : pa_S} {x1 : Int32} {post : Int32 → pa_S → Prop} (hE : pa_Fx p s m args meth c A D g 2 cX7_undo RX7) (hr : meth.sig.returnType = (some .int)) (hk153 : ∀ (u : pa_S)  (x1 : Int32), k153 u x1 → pa_At p l e (pa_rm 2) s m args below meth c (MQ below (pa_Qc g D q (fun r => some (.int r)) post A) args s 0 0 A) A D g 2 0 0 q u 153 [(0, .ref (q 24 0)), (1, .int x1)] []) (hw : wb_X7_undo_153 k153 u0 x1 post) : pa_At p l e (pa_rm 2) s m args below meth c (MQ below (pa_Qc g D q (fun r => some (.int r)) post A) args s 0 0 A) A D g 2 0 0 q u0 153 [(0, .ref (q 24 0)), (1, .int x1)] [] := by
  refine pa_iload_n hE dX7_undo_153 rfl 1 rfl ?_
  refine pa_bipush hE dX7_undo_154 (v := 15) (by decide) ?_
  refine pa_icmp_ge hE dX7_undo_156 (tgt := 177) (by decide) (fun h10 => ?_) (fun h10 => ?_)
  · have hw := Eq.mp (if_pos h10) hw
    refine pa_iconst hE dX7_undo_177 (v := 0) (by decide) ?_
    refine pa_istore_n hE dX7_undo_178 rfl (by decide) (lvr := [(0, .ref (q 24 0))]) rfl ?_
    exact pa_sub [1, 0] rfl (tl_X7_undo_179 hE hr 5000 u0 0 hw)
  · have hw := Eq.mp (if_neg h10) hw
    refine pa_aload_n hE dX7_undo_159 rfl 0 rfl ?_
    refine pg_24_6 hE (pa_m4 127 rfl rfl) dX7_undo_160 ?_
    refine pa_iload_n hE dX7_undo_163 rfl 1 rfl ?_
    refine pa_aload_n hE dX7_undo_164 rfl 0 rfl ?_
    refine pg_24_54 hE (pa_m4 175 rfl rfl) dX7_undo_165 ?_
    refine pa_iload_n hE dX7_undo_168 rfl 1 rfl ?_
    obtain ⟨h32, hw⟩ := hw
    refine pl_54 hE h32 dX7_undo_169 ?_
    obtain ⟨h33, hw⟩ := hw
    refine ps_28 hE h33 dX7_undo_170 (fun u34 eu34 => ?_)
    have hw := hw u34 eu34
    refine pa_iinc hE dX7_undo_171 (v := 1) 1 rfl (by decide) (by decide) (lvr := [(0, .ref (q 24 0))]) rfl (fun v35 ev35 => ?_)
    have hw := hw v35 ev35
    refine pa_goto hE dX7_undo_174 (tgt := 153) (by decide) ?_
    exact pa_sub [1, 0] rfl (hk153 u34 v35 hw)
def wl_X7_undo_153 (post : Int32 → pa_S → Prop) : Nat → pa_S → Int32 → Prop
  | 0, _, _ => False
  | n + 1, u0, x1 => wb_X7_undo_153 (fun u0 x1 => wl_X7_undo_153 post n u0 x1) u0 x1 post
set_option maxRecDepth 100000 in
set_option maxHeartbeats 4000000 in
theorem tl_X7_undo_153 {p : Program} {l : Launch} {e : Env} {s : State} {m : MethodId} {args : Array Value} {below : List Frame} {meth : Method} {c : Code} {A : Nat → Prop} {D : va_G} {g : pa_G} {q : Nat → Nat → Nat} {post : Int32 → pa_S → Prop} (hE : pa_Fx p s m args meth c A D g 2 cX7_undo RX7) (hr : meth.sig.returnType = (some .int)) : ∀ (n : Nat) (u0 : pa_S) (x1 : Int32), wl_X7_undo_153 post n u0 x1 → pa_At p l e (pa_rm 2) s m args below meth c (MQ below (pa_Qc g D q (fun r => some (.int r)) post A) args s 0 0 A) A D g 2 0 0 q u0 153 [(0, .ref (q 24 0)), (1, .int x1)] []
  | 0, _, _, hw => absurd hw (by simp only [wl_X7_undo_153]; exact fun z => z)
  | n + 1, u0, x1, hw => tb_X7_undo_153 hE hr (fun u0 x1  hw1 => tl_X7_undo_153 hE hr  n u0 x1  hw1) hw
def wb_X7_undo_68 (k68 : pa_S → Int32 → Prop) (u0 : pa_S) (x1 : Int32) (post : Int32 → pa_S → Prop) : Prop :=
  (if 5 ≤ x1 then wl_X7_undo_153 post 5000 u0 0 else (vp_in x1 5) ∧ (vp_in x1 5) ∧ ∀ u38 : pa_S, u38 = pa_sA u0 25 0 (upd (pa_A u0 25 0) x1.toNatClampNeg (pa_A u0 51 0 x1.toNatClampNeg)) → (vp_in x1 5) ∧ (vp_in x1 5) ∧ ∀ u41 : pa_S, u41 = pa_sA u38 26 0 (upd (pa_A u38 26 0) x1.toNatClampNeg (pa_A u38 52 0 x1.toNatClampNeg)) → (vp_in x1 5) ∧ (vp_in x1 5) ∧ ∀ u44 : pa_S, u44 = pa_sA u41 27 0 (upd (pa_A u41 27 0) x1.toNatClampNeg (pa_A u41 53 0 x1.toNatClampNeg)) → (vp_in x1 5) ∧ (vp_in x1 5) ∧ ∀ u47 : pa_S, u47 = pa_sA u44 46 0 (upd (pa_A u44 46 0) x1.toNatClampNeg (pa_A u44 56 0 x1.toNatClampNeg)) → (vp_in x1 5) ∧ (vp_in x1 5) ∧ ∀ u50 : pa_S, u50 = pa_sA u47 47 0 (upd (pa_A u47 47 0) x1.toNatClampNeg (pa_A u47 57 0 x1.toNatClampNeg)) → (vp_in x1 5) ∧ (vp_in x1 5) ∧ ∀ u53 : pa_S, u53 = pa_sA u50 48 0 (upd (pa_A u50 48 0) x1.toNatClampNeg (pa_A u50 58 0 x1.toNatClampNeg)) → ∀ v54 : Int32, v54 = x1 + 1 → k68 u53 v54)
set_option maxRecDepth 100000 in
set_option maxHeartbeats 4000000 in
theorem tb_X7_undo_68 {p : Program} {l : Launch} {e : Env} {s : State} {m : MethodId} {args : Array Value} {below : List Frame} {meth : Method} {c : Code} {A : Nat → Prop} {D : va_G} {g : pa_G} {q : Nat → Nat → Nat} {k68 : pa_S → Int32 → Prop} {u0 : pa_S} {x1 : Int32} {post : Int32 → pa_S → Prop} (hE : pa_Fx p s m args meth c A D g 2 cX7_undo RX7) (hr : meth.sig.returnType = (some .int)) (hk68 : ∀ (u : pa_S)  (x1 : Int32), k68 u x1 → pa_At p l e (pa_rm 2) s m args below meth c (MQ below (pa_Qc g D q (fun r => some (.int r)) post A) args s 0 0 A) A D g 2 0 0 q u 68 [(0, .ref (q 24 0)), (1, .int x1)] []) (hw : wb_X7_undo_68 k68 u0 x1 post) : pa_At p l e (pa_rm 2) s m args below meth c (MQ below (pa_Qc g D q (fun r => some (.int r)) post A) args s 0 0 A) A D g 2 0 0 q u0 68 [(0, .ref (q 24 0)), (1, .int x1)] [] := by
  refine pa_iload_n hE dX7_undo_68 rfl 1 rfl ?_
  refine pa_iconst hE dX7_undo_69 (v := 5) (by decide) ?_
  refine pa_icmp_ge hE dX7_undo_70 (tgt := 151) (by decide) (fun h9 => ?_) (fun h9 => ?_)
  · have hw := Eq.mp (if_pos h9) hw
    refine pa_iconst hE dX7_undo_151 (v := 0) (by decide) ?_
    refine pa_istore_n hE dX7_undo_152 rfl (by decide) (lvr := [(0, .ref (q 24 0))]) rfl ?_
    exact pa_sub [1, 0] rfl (tl_X7_undo_153 hE hr 5000 u0 0 hw)
  · have hw := Eq.mp (if_neg h9) hw
    refine pa_aload_n hE dX7_undo_73 rfl 0 rfl ?_
    refine pg_24_3 hE (pa_m4 124 rfl rfl) dX7_undo_74 ?_
    refine pa_iload_n hE dX7_undo_77 rfl 1 rfl ?_
    refine pa_aload_n hE dX7_undo_78 rfl 0 rfl ?_
    refine pg_24_51 hE (pa_m4 172 rfl rfl) dX7_undo_79 ?_
    refine pa_iload_n hE dX7_undo_82 rfl 1 rfl ?_
    obtain ⟨h36, hw⟩ := hw
    refine pl_51 hE h36 dX7_undo_83 ?_
    obtain ⟨h37, hw⟩ := hw
    refine ps_25 hE h37 dX7_undo_84 (fun u38 eu38 => ?_)
    have hw := hw u38 eu38
    refine pa_aload_n hE dX7_undo_85 rfl 0 rfl ?_
    refine pg_24_4 hE (pa_m4 125 rfl rfl) dX7_undo_86 ?_
    refine pa_iload_n hE dX7_undo_89 rfl 1 rfl ?_
    refine pa_aload_n hE dX7_undo_90 rfl 0 rfl ?_
    refine pg_24_52 hE (pa_m4 173 rfl rfl) dX7_undo_91 ?_
    refine pa_iload_n hE dX7_undo_94 rfl 1 rfl ?_
    obtain ⟨h39, hw⟩ := hw
    refine pl_52 hE h39 dX7_undo_95 ?_
    obtain ⟨h40, hw⟩ := hw
    refine ps_26 hE h40 dX7_undo_96 (fun u41 eu41 => ?_)
    have hw := hw u41 eu41
    refine pa_aload_n hE dX7_undo_97 rfl 0 rfl ?_
    refine pg_24_5 hE (pa_m4 126 rfl rfl) dX7_undo_98 ?_
    refine pa_iload_n hE dX7_undo_101 rfl 1 rfl ?_
    refine pa_aload_n hE dX7_undo_102 rfl 0 rfl ?_
    refine pg_24_53 hE (pa_m4 174 rfl rfl) dX7_undo_103 ?_
    refine pa_iload_n hE dX7_undo_106 rfl 1 rfl ?_
    obtain ⟨h42, hw⟩ := hw
    refine pl_53 hE h42 dX7_undo_107 ?_
    obtain ⟨h43, hw⟩ := hw
    refine ps_27 hE h43 dX7_undo_108 (fun u44 eu44 => ?_)
    have hw := hw u44 eu44
    refine pa_aload_n hE dX7_undo_109 rfl 0 rfl ?_
    refine pg_24_37 hE (pa_m4 158 rfl rfl) dX7_undo_110 ?_
    refine pa_iload_n hE dX7_undo_113 rfl 1 rfl ?_
    refine pa_aload_n hE dX7_undo_114 rfl 0 rfl ?_
    refine pg_24_56 hE (pa_m4 177 rfl rfl) dX7_undo_115 ?_
    refine pa_iload_n hE dX7_undo_118 rfl 1 rfl ?_
    obtain ⟨h45, hw⟩ := hw
    refine pl_56 hE h45 dX7_undo_119 ?_
    obtain ⟨h46, hw⟩ := hw
    refine ps_46 hE h46 dX7_undo_120 (fun u47 eu47 => ?_)
    have hw := hw u47 eu47
    refine pa_aload_n hE dX7_undo_121 rfl 0 rfl ?_
    refine pg_24_38 hE (pa_m4 159 rfl rfl) dX7_undo_122 ?_
    refine pa_iload_n hE dX7_undo_125 rfl 1 rfl ?_
    refine pa_aload_n hE dX7_undo_126 rfl 0 rfl ?_
    refine pg_24_57 hE (pa_m4 178 rfl rfl) dX7_undo_127 ?_
    refine pa_iload_n hE dX7_undo_130 rfl 1 rfl ?_
    obtain ⟨h48, hw⟩ := hw
    refine pl_57 hE h48 dX7_undo_131 ?_
    obtain ⟨h49, hw⟩ := hw
    refine ps_47 hE h49 dX7_undo_132 (fun u50 eu50 => ?_)
    have hw := hw u50 eu50
    refine pa_aload_n hE dX7_undo_133 rfl 0 rfl ?_
    refine pg_24_39 hE (pa_m4 160 rfl rfl) dX7_undo_134 ?_
    refine pa_iload_n hE dX7_undo_137 rfl 1 rfl ?_
    refine pa_aload_n hE dX7_undo_138 rfl 0 rfl ?_
    refine pg_24_58 hE (pa_m4 179 rfl rfl) dX7_undo_139 ?_
    refine pa_iload_n hE dX7_undo_142 rfl 1 rfl ?_
    obtain ⟨h51, hw⟩ := hw
    refine pl_58 hE h51 dX7_undo_143 ?_
    obtain ⟨h52, hw⟩ := hw
    refine ps_48 hE h52 dX7_undo_144 (fun u53 eu53 => ?_)
    have hw := hw u53 eu53
    refine pa_iinc hE dX7_undo_145 (v := 1) 1 rfl (by decide) (by decide) (lvr := [(0, .ref (q 24 0))]) rfl (fun v54 ev54 => ?_)
    have hw := hw v54 ev54
    refine pa_goto hE dX7_undo_148 (tgt := 68) (by decide) ?_
    exact pa_sub [1, 0] rfl (hk68 u53 v54 hw)
def wl_X7_undo_68 (post : Int32 → pa_S → Prop) : Nat → pa_S → Int32 → Prop
  | 0, _, _ => False
  | n + 1, u0, x1 => wb_X7_undo_68 (fun u0 x1 => wl_X7_undo_68 post n u0 x1) u0 x1 post
set_option maxRecDepth 100000 in
set_option maxHeartbeats 4000000 in
theorem tl_X7_undo_68 {p : Program} {l : Launch} {e : Env} {s : State} {m : MethodId} {args : Array Value} {below : List Frame} {meth : Method} {c : Code} {A : Nat → Prop} {D : va_G} {g : pa_G} {q : Nat → Nat → Nat} {post : Int32 → pa_S → Prop} (hE : pa_Fx p s m args meth c A D g 2 cX7_undo RX7) (hr : meth.sig.returnType = (some .int)) : ∀ (n : Nat) (u0 : pa_S) (x1 : Int32), wl_X7_undo_68 post n u0 x1 → pa_At p l e (pa_rm 2) s m args below meth c (MQ below (pa_Qc g D q (fun r => some (.int r)) post A) args s 0 0 A) A D g 2 0 0 q u0 68 [(0, .ref (q 24 0)), (1, .int x1)] []
  | 0, _, _, hw => absurd hw (by simp only [wl_X7_undo_68]; exact fun z => z)
  | n + 1, u0, x1, hw => tb_X7_undo_68 hE hr (fun u0 x1  hw1 => tl_X7_undo_68 hE hr  n u0 x1  hw1) hw
def wb_X7_undo_0 (u0 : pa_S) (post : Int32 → pa_S → Prop) : Prop :=
  (if (pa_I u0 24 0 43) = 0 then post (-3 : Int32) u0 else ∀ u2 : pa_S, u2 = pa_sI u0 24 0 9 (pa_I u0 24 0 44) → ∀ u3 : pa_S, u3 = pa_sI u2 24 0 0 (pa_I u2 24 0 45) → ∀ u4 : pa_S, u4 = pa_sI u3 24 0 1 (pa_I u3 24 0 46) → ∀ u5 : pa_S, u5 = pa_sI u4 24 0 2 (pa_I u4 24 0 47) → ∀ u6 : pa_S, u6 = pa_sI u5 24 0 36 (pa_I u5 24 0 48) → ∀ u7 : pa_S, u7 = pa_sI u6 24 0 40 (pa_I u6 24 0 49) → ∀ u8 : pa_S, u8 = pa_sI u7 24 0 30 (pa_I u7 24 0 50) → wl_X7_undo_68 post 5000 u8 0)
set_option maxRecDepth 100000 in
set_option maxHeartbeats 4000000 in
theorem tb_X7_undo_0 {p : Program} {l : Launch} {e : Env} {s : State} {m : MethodId} {args : Array Value} {below : List Frame} {meth : Method} {c : Code} {A : Nat → Prop} {D : va_G} {g : pa_G} {q : Nat → Nat → Nat} {u0 : pa_S} {post : Int32 → pa_S → Prop} (hE : pa_Fx p s m args meth c A D g 2 cX7_undo RX7) (hr : meth.sig.returnType = (some .int)) (hw : wb_X7_undo_0 u0 post) : pa_At p l e (pa_rm 2) s m args below meth c (MQ below (pa_Qc g D q (fun r => some (.int r)) post A) args s 0 0 A) A D g 2 0 0 q u0 0 [(0, .ref (q 24 0))] [] := by
  refine pa_aload_n hE dX7_undo_0 rfl 0 rfl ?_
  refine pg_24_43 hE (pa_m4 164 rfl rfl) dX7_undo_1 ?_
  refine pa_if_ne hE dX7_undo_4 (tgt := 10) (by decide) (fun h1 => ?_) (fun h1 => ?_)
  · have hw := Eq.mp (if_neg h1) hw
    refine pa_aload_n hE dX7_undo_10 rfl 0 rfl ?_
    refine pa_aload_n hE dX7_undo_11 rfl 0 rfl ?_
    refine pg_24_44 hE (pa_m4 165 rfl rfl) dX7_undo_12 ?_
    refine pp_24_9 hE (pa_m4 130 rfl rfl) dX7_undo_15 (fun u2 eu2 => ?_)
    have hw := hw u2 eu2
    refine pa_aload_n hE dX7_undo_18 rfl 0 rfl ?_
    refine pa_aload_n hE dX7_undo_19 rfl 0 rfl ?_
    refine pg_24_45 hE (pa_m4 166 rfl rfl) dX7_undo_20 ?_
    refine pp_24_0 hE (pa_m4 121 rfl rfl) dX7_undo_23 (fun u3 eu3 => ?_)
    have hw := hw u3 eu3
    refine pa_aload_n hE dX7_undo_26 rfl 0 rfl ?_
    refine pa_aload_n hE dX7_undo_27 rfl 0 rfl ?_
    refine pg_24_46 hE (pa_m4 167 rfl rfl) dX7_undo_28 ?_
    refine pp_24_1 hE (pa_m4 122 rfl rfl) dX7_undo_31 (fun u4 eu4 => ?_)
    have hw := hw u4 eu4
    refine pa_aload_n hE dX7_undo_34 rfl 0 rfl ?_
    refine pa_aload_n hE dX7_undo_35 rfl 0 rfl ?_
    refine pg_24_47 hE (pa_m4 168 rfl rfl) dX7_undo_36 ?_
    refine pp_24_2 hE (pa_m4 123 rfl rfl) dX7_undo_39 (fun u5 eu5 => ?_)
    have hw := hw u5 eu5
    refine pa_aload_n hE dX7_undo_42 rfl 0 rfl ?_
    refine pa_aload_n hE dX7_undo_43 rfl 0 rfl ?_
    refine pg_24_48 hE (pa_m4 169 rfl rfl) dX7_undo_44 ?_
    refine pp_24_36 hE (pa_m4 157 rfl rfl) dX7_undo_47 (fun u6 eu6 => ?_)
    have hw := hw u6 eu6
    refine pa_aload_n hE dX7_undo_50 rfl 0 rfl ?_
    refine pa_aload_n hE dX7_undo_51 rfl 0 rfl ?_
    refine pg_24_49 hE (pa_m4 170 rfl rfl) dX7_undo_52 ?_
    refine pp_24_40 hE (pa_m4 161 rfl rfl) dX7_undo_55 (fun u7 eu7 => ?_)
    have hw := hw u7 eu7
    refine pa_aload_n hE dX7_undo_58 rfl 0 rfl ?_
    refine pa_aload_n hE dX7_undo_59 rfl 0 rfl ?_
    refine pg_24_50 hE (pa_m4 171 rfl rfl) dX7_undo_60 ?_
    refine pp_24_30 hE (pa_m4 151 rfl rfl) dX7_undo_63 (fun u8 eu8 => ?_)
    have hw := hw u8 eu8
    refine pa_iconst hE dX7_undo_66 (v := 0) (by decide) ?_
    refine pa_istore_n hE dX7_undo_67 rfl (by decide) (lvr := [(0, .ref (q 24 0))]) rfl ?_
    exact pa_sub [1, 0] rfl (tl_X7_undo_68 hE hr 5000 u8 0 hw)
  · have hw := Eq.mp (if_pos h1) hw
    refine pa_bipush hE dX7_undo_7 (v := (-3 : Int32)) (by decide) ?_
    exact pa_iret hE hr hw rfl dX7_undo_9
def wp_X7_undo (u0 : pa_S) (post : Int32 → pa_S → Prop) : Prop := wb_X7_undo_0 u0 post
theorem ct_X7_undo (l : Launch) (g : pa_G) (D : va_G) (q : Nat → Nat → Nat) (u0 : pa_S) (post : Int32 → pa_S → Prop)  (hw : wp_X7_undo u0 post) : pa_Ct l yX7_undo cX7_undo 2 (some .int) 2 g D q u0 [.ref (q 24 0)] (fun r => some (.int r)) post := pa_met rfl rfl (Nat.le_of_ble_eq_true rfl) rfl (fun p e s m args below meth c A hE hr => tb_X7_undo_0 hE hr  hw)
def wb_X7_body_19 (u0 : pa_S) (post : pa_S → Prop) : Prop :=
  ∀ u2 : pa_S, u2 = pa_sI u0 24 0 63 ((pa_I u0 24 0 63) + 1) → post u2
set_option maxRecDepth 100000 in
set_option maxHeartbeats 4000000 in
theorem tb_X7_body_19 {p : Program} {l : Launch} {e : Env} {s : State} {m : MethodId} {args : Array Value} {below : List Frame} {meth : Method} {c : Code} {A : Nat → Prop} {D : va_G} {g : pa_G} {q : Nat → Nat → Nat} {u0 : pa_S} {post : pa_S → Prop} (hE : pa_Fx p s m args meth c A D g 2 cX7_body RX7) (hr : meth.sig.returnType = none) (hw : wb_X7_body_19 u0 post) : pa_At p l e (pa_rm 2) s m args below meth c (MQ below (pa_Qc g D q (fun (_ : Unit) => none) (fun (_ : Unit) u => post u) A) args s 0 0 A) A D g 2 0 0 q u0 19 [(0, .ref (q 24 0))] [] := by
  refine pa_aload_n hE dX7_body_19 rfl 0 rfl ?_
  refine pa_dup hE dX7_body_20 rfl ?_
  refine pg_24_63 hE (pa_m4 184 rfl rfl) dX7_body_21 ?_
  refine pa_iconst hE dX7_body_24 (v := 1) (by decide) ?_
  refine pa_iadd hE dX7_body_25 ?_
  refine pp_24_63 hE (pa_m4 184 rfl rfl) dX7_body_26 (fun u2 eu2 => ?_)
  have hw := hw u2 eu2
  exact pa_vret (r := ()) hE hr hw rfl dX7_body_29
def wb_X7_body_0 (u0 : pa_S) (x1 : Int32) (post : pa_S → Prop) : Prop :=
  (if 20 ≤ (pa_I u0 24 0 63) then wb_X7_body_19 u0 post else (vp_in (pa_I u0 24 0 63) 20) ∧ ∀ u4 : pa_S, u4 = pa_sA u0 63 0 (upd (pa_A u0 63 0) (pa_I u0 24 0 63).toNatClampNeg x1) → wb_X7_body_19 u4 post)
set_option maxRecDepth 100000 in
set_option maxHeartbeats 4000000 in
theorem tb_X7_body_0 {p : Program} {l : Launch} {e : Env} {s : State} {m : MethodId} {args : Array Value} {below : List Frame} {meth : Method} {c : Code} {A : Nat → Prop} {D : va_G} {g : pa_G} {q : Nat → Nat → Nat} {u0 : pa_S} {x1 : Int32} {post : pa_S → Prop} (hE : pa_Fx p s m args meth c A D g 2 cX7_body RX7) (hr : meth.sig.returnType = none) (hw : wb_X7_body_0 u0 x1 post) : pa_At p l e (pa_rm 2) s m args below meth c (MQ below (pa_Qc g D q (fun (_ : Unit) => none) (fun (_ : Unit) u => post u) A) args s 0 0 A) A D g 2 0 0 q u0 0 [(0, .ref (q 24 0)), (1, .int x1)] [] := by
  refine pa_aload_n hE dX7_body_0 rfl 0 rfl ?_
  refine pg_24_63 hE (pa_m4 184 rfl rfl) dX7_body_1 ?_
  refine pa_bipush hE dX7_body_4 (v := 20) (by decide) ?_
  refine pa_icmp_ge hE dX7_body_6 (tgt := 19) (by decide) (fun h1 => ?_) (fun h1 => ?_)
  · have hw := Eq.mp (if_pos h1) hw
    exact pa_sub [0] rfl (tb_X7_body_19 hE hr hw)
  · have hw := Eq.mp (if_neg h1) hw
    refine pa_aload_n hE dX7_body_9 rfl 0 rfl ?_
    refine pg_24_64 hE (pa_m4 185 rfl rfl) dX7_body_10 ?_
    refine pa_aload_n hE dX7_body_13 rfl 0 rfl ?_
    refine pg_24_63 hE (pa_m4 184 rfl rfl) dX7_body_14 ?_
    refine pa_iload_n hE dX7_body_17 rfl 1 rfl ?_
    obtain ⟨h3, hw⟩ := hw
    refine ps_63 hE h3 dX7_body_18 (fun u4 eu4 => ?_)
    have hw := hw u4 eu4
    exact pa_sub [0] rfl (tb_X7_body_19 hE hr hw)
def wp_X7_body (u0 : pa_S) (x1 : Int32) (post : pa_S → Prop) : Prop := wb_X7_body_0 u0 x1 post
theorem ct_X7_body (l : Launch) (g : pa_G) (D : va_G) (q : Nat → Nat → Nat) (u0 : pa_S) (x1 : Int32) (post : pa_S → Prop)  (hw : wp_X7_body u0 x1 post) : pa_Ct l yX7_body cX7_body 2 none 2 g D q u0 [.ref (q 24 0), .int x1] (fun (_ : Unit) => none) (fun (_ : Unit) u => post u) := pa_met rfl rfl (Nat.le_of_ble_eq_true rfl) rfl (fun p e s m args below meth c A hE hr => tb_X7_body_0 hE hr  hw)
def wb_X7_handLies_0 (u0 : pa_S) (x1 : Int32) (x2 : Int32) (post : Int32 → pa_S → Prop) : Prop :=
  (wp_X7_body u0 10 (fun (u2 : pa_S) => post (x2 + x1) u2))
set_option maxRecDepth 100000 in
set_option maxHeartbeats 4000000 in
theorem tb_X7_handLies_0 {p : Program} {l : Launch} {e : Env} {s : State} {m : MethodId} {args : Array Value} {below : List Frame} {meth : Method} {c : Code} {A : Nat → Prop} {D : va_G} {g : pa_G} {q : Nat → Nat → Nat} {u0 : pa_S} {x1 : Int32} {x2 : Int32} {post : Int32 → pa_S → Prop} (hE : pa_Fx p s m args meth c A D g 3 cX7_handLies RX7) (hr : meth.sig.returnType = (some .int)) (hw : wb_X7_handLies_0 u0 x1 x2 post) : pa_At p l e (pa_rm 3) s m args below meth c (MQ below (pa_Qc g D q (fun r => some (.int r)) post A) args s 0 0 A) A D g 3 0 0 q u0 0 [(0, .ref (q 24 0)), (1, .int x1), (2, .int x2)] [] := by
  refine pa_aload_n hE dX7_handLies_0 rfl 0 rfl ?_
  refine pa_bipush hE dX7_handLies_1 (v := 10) (by decide) ?_
  refine pa_callVv hE (ct_X7_body l g D q u0 10 _ hw) cv_RX7_386 pa_in24 rfl rfl rfl (pa_hR (by omega) (by decide)) rfl (Nat.le_of_ble_eq_true rfl) dX7_handLies_3 (fun u2 hw => ?_)
  refine pa_iload_n hE dX7_handLies_6 rfl 2 rfl ?_
  refine pa_iload_n hE dX7_handLies_7 rfl 1 rfl ?_
  refine pa_iadd hE dX7_handLies_8 ?_
  exact pa_iret hE hr hw rfl dX7_handLies_9
def wp_X7_handLies (u0 : pa_S) (x1 : Int32) (x2 : Int32) (post : Int32 → pa_S → Prop) : Prop := wb_X7_handLies_0 u0 x1 x2 post
theorem ct_X7_handLies (l : Launch) (g : pa_G) (D : va_G) (q : Nat → Nat → Nat) (u0 : pa_S) (x1 : Int32) (x2 : Int32) (post : Int32 → pa_S → Prop)  (hw : wp_X7_handLies u0 x1 x2 post) : pa_Ct l yX7_handLies cX7_handLies 3 (some .int) 3 g D q u0 [.ref (q 24 0), .int x1, .int x2] (fun r => some (.int r)) post := pa_met rfl rfl (Nat.le_of_ble_eq_true rfl) rfl (fun p e s m args below meth c A hE hr => tb_X7_handLies_0 hE hr  hw)
def wb_X7_liesAct_0 (u0 : pa_S) (x1 : Int32) (x2 : Int32) (post : Int32 → pa_S → Prop) : Prop :=
  (vp_in x1 5) ∧ (if (pa_A u0 25 0 x1.toNatClampNeg) = 2 then (wp_X7_body u0 30 (fun (u8 : pa_S) => (wp_X7_handLies u8 x1 (x2 * 3) (fun (r9 : Int32) (u10 : pa_S) => post r9 u10)))) else (if (pa_A u0 25 0 x1.toNatClampNeg) = 3 then (wp_X7_handLies u0 x1 x2 (fun (r11 : Int32) (u12 : pa_S) => post r11 u12)) else (if (pa_A u0 25 0 x1.toNatClampNeg) = 4 then (wp_X7_body u0 50 (fun (u14 : pa_S) => (wp_X7_handLies u14 x1 x2 (fun (r15 : Int32) (u16 : pa_S) => post (-r15) u16)))) else (if (pa_A u0 25 0 x1.toNatClampNeg) = 5 then (wp_X7_body u0 30 (fun (u18 : pa_S) => (wp_X7_handLies u18 x1 (x2 * 3) (fun (r19 : Int32) (u20 : pa_S) => post r19 u20)))) else (if (pa_A u0 25 0 x1.toNatClampNeg) = 6 then (wp_X7_body u0 71 (fun (u22 : pa_S) => (wp_X7_handLies u22 x1 x2 (fun (r23 : Int32) (u24 : pa_S) => (vp_in x1 5) ∧ post (r23 ^^^ (pa_A u24 26 0 x1.toNatClampNeg)) u24)))) else (wp_X7_handLies u0 x1 x2 (fun (r26 : Int32) (u27 : pa_S) => post r26 u27)))))))
set_option maxRecDepth 100000 in
set_option maxHeartbeats 4000000 in
theorem tb_X7_liesAct_0 {p : Program} {l : Launch} {e : Env} {s : State} {m : MethodId} {args : Array Value} {below : List Frame} {meth : Method} {c : Code} {A : Nat → Prop} {D : va_G} {g : pa_G} {q : Nat → Nat → Nat} {u0 : pa_S} {x1 : Int32} {x2 : Int32} {post : Int32 → pa_S → Prop} (hE : pa_Fx p s m args meth c A D g 3 cX7_liesAct RX7) (hr : meth.sig.returnType = (some .int)) (hw : wb_X7_liesAct_0 u0 x1 x2 post) : pa_At p l e (pa_rm 4) s m args below meth c (MQ below (pa_Qc g D q (fun r => some (.int r)) post A) args s 0 0 A) A D g 3 0 0 q u0 0 [(0, .ref (q 24 0)), (1, .int x1), (2, .int x2)] [] := by
  refine pa_aload_n hE dX7_liesAct_0 rfl 0 rfl ?_
  refine pg_24_3 hE (pa_m4 124 rfl rfl) dX7_liesAct_1 ?_
  refine pa_iload_n hE dX7_liesAct_4 rfl 1 rfl ?_
  obtain ⟨h1, hw⟩ := hw
  refine pl_25 hE h1 dX7_liesAct_5 ?_
  by_cases h2 : (pa_A u0 25 0 x1.toNatClampNeg) = 2
  · have hw := Eq.mp (if_pos h2) hw
    refine pa_tswIn hE dX7_liesAct_6 (z := 2) h2 (by decide) (by decide) rfl (tgt := 40) (by decide) ?_
    refine pa_aload_n hE dX7_liesAct_40 rfl 0 rfl ?_
    refine pa_bipush hE dX7_liesAct_41 (v := 30) (by decide) ?_
    refine pa_callVv hE (ct_X7_body l g D q u0 30 _ hw) cv_RX7_386 pa_in24 rfl rfl rfl (pa_hR (by omega) (by decide)) rfl (Nat.le_of_ble_eq_true rfl) dX7_liesAct_43 (fun u8 hw => ?_)
    refine pa_aload_n hE dX7_liesAct_46 rfl 0 rfl ?_
    refine pa_iload_n hE dX7_liesAct_47 rfl 1 rfl ?_
    refine pa_iload_n hE dX7_liesAct_48 rfl 2 rfl ?_
    refine pa_iconst hE dX7_liesAct_49 (v := 3) (by decide) ?_
    refine pa_imul hE dX7_liesAct_50 ?_
    refine pa_callVi hE (ct_X7_handLies l g D q u8 x1 (x2 * 3) _ hw) cv_RX7_389 pa_in24 rfl rfl rfl (pa_hR (by omega) (by decide)) rfl (Nat.le_of_ble_eq_true rfl) dX7_liesAct_51 (fun r9 u10 hw => ?_)
    exact pa_iret hE hr hw rfl dX7_liesAct_54
  · have hw := Eq.mp (if_neg h2) hw
    by_cases h3 : (pa_A u0 25 0 x1.toNatClampNeg) = 3
    · have hw := Eq.mp (if_pos h3) hw
      refine pa_tswIn hE dX7_liesAct_6 (z := 3) h3 (by decide) (by decide) rfl (tgt := 89) (by decide) ?_
      refine pa_aload_n hE dX7_liesAct_89 rfl 0 rfl ?_
      refine pa_iload_n hE dX7_liesAct_90 rfl 1 rfl ?_
      refine pa_iload_n hE dX7_liesAct_91 rfl 2 rfl ?_
      refine pa_callVi hE (ct_X7_handLies l g D q u0 x1 x2 _ hw) cv_RX7_389 pa_in24 rfl rfl rfl (pa_hR (by omega) (by decide)) rfl (Nat.le_of_ble_eq_true rfl) dX7_liesAct_92 (fun r11 u12 hw => ?_)
      exact pa_iret hE hr hw rfl dX7_liesAct_95
    · have hw := Eq.mp (if_neg h3) hw
      by_cases h4 : (pa_A u0 25 0 x1.toNatClampNeg) = 4
      · have hw := Eq.mp (if_pos h4) hw
        refine pa_tswIn hE dX7_liesAct_6 (z := 4) h4 (by decide) (by decide) rfl (tgt := 55) (by decide) ?_
        refine pa_aload_n hE dX7_liesAct_55 rfl 0 rfl ?_
        refine pa_bipush hE dX7_liesAct_56 (v := 50) (by decide) ?_
        refine pa_callVv hE (ct_X7_body l g D q u0 50 _ hw) cv_RX7_386 pa_in24 rfl rfl rfl (pa_hR (by omega) (by decide)) rfl (Nat.le_of_ble_eq_true rfl) dX7_liesAct_58 (fun u14 hw => ?_)
        refine pa_aload_n hE dX7_liesAct_61 rfl 0 rfl ?_
        refine pa_iload_n hE dX7_liesAct_62 rfl 1 rfl ?_
        refine pa_iload_n hE dX7_liesAct_63 rfl 2 rfl ?_
        refine pa_callVi hE (ct_X7_handLies l g D q u14 x1 x2 _ hw) cv_RX7_389 pa_in24 rfl rfl rfl (pa_hR (by omega) (by decide)) rfl (Nat.le_of_ble_eq_true rfl) dX7_liesAct_64 (fun r15 u16 hw => ?_)
        refine pa_ineg hE dX7_liesAct_67 ?_
        exact pa_iret hE hr hw rfl dX7_liesAct_68
      · have hw := Eq.mp (if_neg h4) hw
        by_cases h5 : (pa_A u0 25 0 x1.toNatClampNeg) = 5
        · have hw := Eq.mp (if_pos h5) hw
          refine pa_tswIn hE dX7_liesAct_6 (z := 5) h5 (by decide) (by decide) rfl (tgt := 40) (by decide) ?_
          refine pa_aload_n hE dX7_liesAct_40 rfl 0 rfl ?_
          refine pa_bipush hE dX7_liesAct_41 (v := 30) (by decide) ?_
          refine pa_callVv hE (ct_X7_body l g D q u0 30 _ hw) cv_RX7_386 pa_in24 rfl rfl rfl (pa_hR (by omega) (by decide)) rfl (Nat.le_of_ble_eq_true rfl) dX7_liesAct_43 (fun u18 hw => ?_)
          refine pa_aload_n hE dX7_liesAct_46 rfl 0 rfl ?_
          refine pa_iload_n hE dX7_liesAct_47 rfl 1 rfl ?_
          refine pa_iload_n hE dX7_liesAct_48 rfl 2 rfl ?_
          refine pa_iconst hE dX7_liesAct_49 (v := 3) (by decide) ?_
          refine pa_imul hE dX7_liesAct_50 ?_
          refine pa_callVi hE (ct_X7_handLies l g D q u18 x1 (x2 * 3) _ hw) cv_RX7_389 pa_in24 rfl rfl rfl (pa_hR (by omega) (by decide)) rfl (Nat.le_of_ble_eq_true rfl) dX7_liesAct_51 (fun r19 u20 hw => ?_)
          exact pa_iret hE hr hw rfl dX7_liesAct_54
        · have hw := Eq.mp (if_neg h5) hw
          by_cases h6 : (pa_A u0 25 0 x1.toNatClampNeg) = 6
          · have hw := Eq.mp (if_pos h6) hw
            refine pa_tswIn hE dX7_liesAct_6 (z := 6) h6 (by decide) (by decide) rfl (tgt := 69) (by decide) ?_
            refine pa_aload_n hE dX7_liesAct_69 rfl 0 rfl ?_
            refine pa_bipush hE dX7_liesAct_70 (v := 71) (by decide) ?_
            refine pa_callVv hE (ct_X7_body l g D q u0 71 _ hw) cv_RX7_386 pa_in24 rfl rfl rfl (pa_hR (by omega) (by decide)) rfl (Nat.le_of_ble_eq_true rfl) dX7_liesAct_72 (fun u22 hw => ?_)
            refine pa_aload_n hE dX7_liesAct_75 rfl 0 rfl ?_
            refine pa_iload_n hE dX7_liesAct_76 rfl 1 rfl ?_
            refine pa_iload_n hE dX7_liesAct_77 rfl 2 rfl ?_
            refine pa_callVi hE (ct_X7_handLies l g D q u22 x1 x2 _ hw) cv_RX7_389 pa_in24 rfl rfl rfl (pa_hR (by omega) (by decide)) rfl (Nat.le_of_ble_eq_true rfl) dX7_liesAct_78 (fun r23 u24 hw => ?_)
            refine pa_aload_n hE dX7_liesAct_81 rfl 0 rfl ?_
            refine pg_24_4 hE (pa_m4 125 rfl rfl) dX7_liesAct_82 ?_
            refine pa_iload_n hE dX7_liesAct_85 rfl 1 rfl ?_
            obtain ⟨h25, hw⟩ := hw
            refine pl_26 hE h25 dX7_liesAct_86 ?_
            refine pa_ixor hE dX7_liesAct_87 ?_
            exact pa_iret hE hr hw rfl dX7_liesAct_88
          · have hw := Eq.mp (if_neg h6) hw
            refine pa_tswOut hE dX7_liesAct_6 (by have eh2 := pa_neL h2 (by decide : (2 : Int32).toInt = 2); have eh3 := pa_neL h3 (by decide : (3 : Int32).toInt = 3); have eh4 := pa_neL h4 (by decide : (4 : Int32).toInt = 4); have eh5 := pa_neL h5 (by decide : (5 : Int32).toInt = 5); have eh6 := pa_neL h6 (by decide : (6 : Int32).toInt = 6); omega) (tgt := 89) (by decide) ?_
            refine pa_aload_n hE dX7_liesAct_89 rfl 0 rfl ?_
            refine pa_iload_n hE dX7_liesAct_90 rfl 1 rfl ?_
            refine pa_iload_n hE dX7_liesAct_91 rfl 2 rfl ?_
            refine pa_callVi hE (ct_X7_handLies l g D q u0 x1 x2 _ hw) cv_RX7_389 pa_in24 rfl rfl rfl (pa_hR (by omega) (by decide)) rfl (Nat.le_of_ble_eq_true rfl) dX7_liesAct_92 (fun r26 u27 hw => ?_)
            exact pa_iret hE hr hw rfl dX7_liesAct_95
def wp_X7_liesAct (u0 : pa_S) (x1 : Int32) (x2 : Int32) (post : Int32 → pa_S → Prop) : Prop := wb_X7_liesAct_0 u0 x1 x2 post
theorem ct_X7_liesAct (l : Launch) (g : pa_G) (D : va_G) (q : Nat → Nat → Nat) (u0 : pa_S) (x1 : Int32) (x2 : Int32) (post : Int32 → pa_S → Prop)  (hw : wp_X7_liesAct u0 x1 x2 post) : pa_Ct l yX7_liesAct cX7_liesAct 3 (some .int) 4 g D q u0 [.ref (q 24 0), .int x1, .int x2] (fun r => some (.int r)) post := pa_met rfl rfl (Nat.le_of_ble_eq_true rfl) rfl (fun p e s m args below meth c A hE hr => tb_X7_liesAct_0 hE hr  hw)
def wb_X7_handReads_0 (u0 : pa_S) (x1 : Int32) (x2 : Int32) (post : Int32 → pa_S → Prop) : Prop :=
  (wp_X7_body u0 11 (fun (u2 : pa_S) => (wp_X7_liesAct u2 x1 x2 (fun (r3 : Int32) (u4 : pa_S) => (vp_in x1 5) ∧ post (r3 - (pa_A u4 26 0 x1.toNatClampNeg)) u4))))
set_option maxRecDepth 100000 in
set_option maxHeartbeats 4000000 in
theorem tb_X7_handReads_0 {p : Program} {l : Launch} {e : Env} {s : State} {m : MethodId} {args : Array Value} {below : List Frame} {meth : Method} {c : Code} {A : Nat → Prop} {D : va_G} {g : pa_G} {q : Nat → Nat → Nat} {u0 : pa_S} {x1 : Int32} {x2 : Int32} {post : Int32 → pa_S → Prop} (hE : pa_Fx p s m args meth c A D g 3 cX7_handReads RX7) (hr : meth.sig.returnType = (some .int)) (hw : wb_X7_handReads_0 u0 x1 x2 post) : pa_At p l e (pa_rm 5) s m args below meth c (MQ below (pa_Qc g D q (fun r => some (.int r)) post A) args s 0 0 A) A D g 3 0 0 q u0 0 [(0, .ref (q 24 0)), (1, .int x1), (2, .int x2)] [] := by
  refine pa_aload_n hE dX7_handReads_0 rfl 0 rfl ?_
  refine pa_bipush hE dX7_handReads_1 (v := 11) (by decide) ?_
  refine pa_callVv hE (ct_X7_body l g D q u0 11 _ hw) cv_RX7_386 pa_in24 rfl rfl rfl (pa_hR (by omega) (by decide)) rfl (Nat.le_of_ble_eq_true rfl) dX7_handReads_3 (fun u2 hw => ?_)
  refine pa_aload_n hE dX7_handReads_6 rfl 0 rfl ?_
  refine pa_iload_n hE dX7_handReads_7 rfl 1 rfl ?_
  refine pa_iload_n hE dX7_handReads_8 rfl 2 rfl ?_
  refine pa_callVi hE (ct_X7_liesAct l g D q u2 x1 x2 _ hw) cv_RX7_392 pa_in24 rfl rfl rfl (pa_hR (by omega) (by decide)) rfl (Nat.le_of_ble_eq_true rfl) dX7_handReads_9 (fun r3 u4 hw => ?_)
  refine pa_aload_n hE dX7_handReads_12 rfl 0 rfl ?_
  refine pg_24_4 hE (pa_m4 125 rfl rfl) dX7_handReads_13 ?_
  refine pa_iload_n hE dX7_handReads_16 rfl 1 rfl ?_
  obtain ⟨h5, hw⟩ := hw
  refine pl_26 hE h5 dX7_handReads_17 ?_
  refine pa_isub hE dX7_handReads_18 ?_
  exact pa_iret hE hr hw rfl dX7_handReads_19
def wp_X7_handReads (u0 : pa_S) (x1 : Int32) (x2 : Int32) (post : Int32 → pa_S → Prop) : Prop := wb_X7_handReads_0 u0 x1 x2 post
theorem ct_X7_handReads (l : Launch) (g : pa_G) (D : va_G) (q : Nat → Nat → Nat) (u0 : pa_S) (x1 : Int32) (x2 : Int32) (post : Int32 → pa_S → Prop)  (hw : wp_X7_handReads u0 x1 x2 post) : pa_Ct l yX7_handReads cX7_handReads 3 (some .int) 5 g D q u0 [.ref (q 24 0), .int x1, .int x2] (fun r => some (.int r)) post := pa_met rfl rfl (Nat.le_of_ble_eq_true rfl) rfl (fun p e s m args below meth c A hE hr => tb_X7_handReads_0 hE hr  hw)
def wb_X7_softReads_0 (u0 : pa_S) (x1 : Int32) (x2 : Int32) (post : Int32 → pa_S → Prop) : Prop :=
  (wp_X7_body u0 20 (fun (u2 : pa_S) => (wp_X7_handReads u2 x1 x2 (fun (r3 : Int32) (u4 : pa_S) => post (r3 ^^^ 6) u4))))
set_option maxRecDepth 100000 in
set_option maxHeartbeats 4000000 in
theorem tb_X7_softReads_0 {p : Program} {l : Launch} {e : Env} {s : State} {m : MethodId} {args : Array Value} {below : List Frame} {meth : Method} {c : Code} {A : Nat → Prop} {D : va_G} {g : pa_G} {q : Nat → Nat → Nat} {u0 : pa_S} {x1 : Int32} {x2 : Int32} {post : Int32 → pa_S → Prop} (hE : pa_Fx p s m args meth c A D g 3 cX7_softReads RX7) (hr : meth.sig.returnType = (some .int)) (hw : wb_X7_softReads_0 u0 x1 x2 post) : pa_At p l e (pa_rm 6) s m args below meth c (MQ below (pa_Qc g D q (fun r => some (.int r)) post A) args s 0 0 A) A D g 3 0 0 q u0 0 [(0, .ref (q 24 0)), (1, .int x1), (2, .int x2)] [] := by
  refine pa_aload_n hE dX7_softReads_0 rfl 0 rfl ?_
  refine pa_bipush hE dX7_softReads_1 (v := 20) (by decide) ?_
  refine pa_callVv hE (ct_X7_body l g D q u0 20 _ hw) cv_RX7_386 pa_in24 rfl rfl rfl (pa_hR (by omega) (by decide)) rfl (Nat.le_of_ble_eq_true rfl) dX7_softReads_3 (fun u2 hw => ?_)
  refine pa_aload_n hE dX7_softReads_6 rfl 0 rfl ?_
  refine pa_iload_n hE dX7_softReads_7 rfl 1 rfl ?_
  refine pa_iload_n hE dX7_softReads_8 rfl 2 rfl ?_
  refine pa_callVi hE (ct_X7_handReads l g D q u2 x1 x2 _ hw) cv_RX7_395 pa_in24 rfl rfl rfl (pa_hR (by omega) (by decide)) rfl (Nat.le_of_ble_eq_true rfl) dX7_softReads_9 (fun r3 u4 hw => ?_)
  refine pa_bipush hE dX7_softReads_12 (v := 6) (by decide) ?_
  refine pa_ixor hE dX7_softReads_14 ?_
  exact pa_iret hE hr hw rfl dX7_softReads_15
def wp_X7_softReads (u0 : pa_S) (x1 : Int32) (x2 : Int32) (post : Int32 → pa_S → Prop) : Prop := wb_X7_softReads_0 u0 x1 x2 post
theorem ct_X7_softReads (l : Launch) (g : pa_G) (D : va_G) (q : Nat → Nat → Nat) (u0 : pa_S) (x1 : Int32) (x2 : Int32) (post : Int32 → pa_S → Prop)  (hw : wp_X7_softReads u0 x1 x2 post) : pa_Ct l yX7_softReads cX7_softReads 3 (some .int) 6 g D q u0 [.ref (q 24 0), .int x1, .int x2] (fun r => some (.int r)) post := pa_met rfl rfl (Nat.le_of_ble_eq_true rfl) rfl (fun p e s m args below meth c A hE hr => tb_X7_softReads_0 hE hr  hw)
def wb_X7_readsAct_0 (u0 : pa_S) (x1 : Int32) (x2 : Int32) (post : Int32 → pa_S → Prop) : Prop :=
  (vp_in x1 5) ∧ (if (pa_A u0 25 0 x1.toNatClampNeg) = 1 then (wp_X7_softReads u0 x1 x2 (fun (r5 : Int32) (u6 : pa_S) => post r5 u6)) else (if (pa_A u0 25 0 x1.toNatClampNeg) = 4 then (wp_X7_body u0 51 (fun (u8 : pa_S) => (wp_X7_softReads u8 x1 (x2 + 1) (fun (r9 : Int32) (u10 : pa_S) => post r9 u10)))) else (if (pa_A u0 25 0 x1.toNatClampNeg) = 6 then (wp_X7_body u0 70 (fun (u12 : pa_S) => (wp_X7_handReads u12 x1 x2 (fun (r13 : Int32) (u14 : pa_S) => (wp_X7_handLies u14 x1 2 (fun (r15 : Int32) (u16 : pa_S) => post (r13 + r15) u16)))))) else (wp_X7_handReads u0 x1 x2 (fun (r17 : Int32) (u18 : pa_S) => post r17 u18)))))
set_option maxRecDepth 100000 in
set_option maxHeartbeats 4000000 in
theorem tb_X7_readsAct_0 {p : Program} {l : Launch} {e : Env} {s : State} {m : MethodId} {args : Array Value} {below : List Frame} {meth : Method} {c : Code} {A : Nat → Prop} {D : va_G} {g : pa_G} {q : Nat → Nat → Nat} {u0 : pa_S} {x1 : Int32} {x2 : Int32} {post : Int32 → pa_S → Prop} (hE : pa_Fx p s m args meth c A D g 4 cX7_readsAct RX7) (hr : meth.sig.returnType = (some .int)) (hw : wb_X7_readsAct_0 u0 x1 x2 post) : pa_At p l e (pa_rm 7) s m args below meth c (MQ below (pa_Qc g D q (fun r => some (.int r)) post A) args s 0 0 A) A D g 4 0 0 q u0 0 [(0, .ref (q 24 0)), (1, .int x1), (2, .int x2)] [] := by
  refine pa_aload_n hE dX7_readsAct_0 rfl 0 rfl ?_
  refine pg_24_3 hE (pa_m4 124 rfl rfl) dX7_readsAct_1 ?_
  refine pa_iload_n hE dX7_readsAct_4 rfl 1 rfl ?_
  obtain ⟨h1, hw⟩ := hw
  refine pl_25 hE h1 dX7_readsAct_5 ?_
  by_cases h2 : (pa_A u0 25 0 x1.toNatClampNeg) = 1
  · have hw := Eq.mp (if_pos h2) hw
    refine pa_lsw hE dX7_readsAct_6 (by decide) (by rw [h2]; first | done | decide) (tgt := 40) (by decide) ?_
    refine pa_aload_n hE dX7_readsAct_40 rfl 0 rfl ?_
    refine pa_iload_n hE dX7_readsAct_41 rfl 1 rfl ?_
    refine pa_iload_n hE dX7_readsAct_42 rfl 2 rfl ?_
    refine pa_callVi hE (ct_X7_softReads l g D q u0 x1 x2 _ hw) cv_RX7_398 pa_in24 rfl rfl rfl (pa_hR (by omega) (by decide)) rfl (Nat.le_of_ble_eq_true rfl) dX7_readsAct_43 (fun r5 u6 hw => ?_)
    exact pa_iret hE hr hw rfl dX7_readsAct_46
  · have hw := Eq.mp (if_neg h2) hw
    by_cases h3 : (pa_A u0 25 0 x1.toNatClampNeg) = 4
    · have hw := Eq.mp (if_pos h3) hw
      refine pa_lsw hE dX7_readsAct_6 (by decide) (by rw [h3]; first | done | decide) (tgt := 47) (by decide) ?_
      refine pa_aload_n hE dX7_readsAct_47 rfl 0 rfl ?_
      refine pa_bipush hE dX7_readsAct_48 (v := 51) (by decide) ?_
      refine pa_callVv hE (ct_X7_body l g D q u0 51 _ hw) cv_RX7_386 pa_in24 rfl rfl rfl (pa_hR (by omega) (by decide)) rfl (Nat.le_of_ble_eq_true rfl) dX7_readsAct_50 (fun u8 hw => ?_)
      refine pa_aload_n hE dX7_readsAct_53 rfl 0 rfl ?_
      refine pa_iload_n hE dX7_readsAct_54 rfl 1 rfl ?_
      refine pa_iload_n hE dX7_readsAct_55 rfl 2 rfl ?_
      refine pa_iconst hE dX7_readsAct_56 (v := 1) (by decide) ?_
      refine pa_iadd hE dX7_readsAct_57 ?_
      refine pa_callVi hE (ct_X7_softReads l g D q u8 x1 (x2 + 1) _ hw) cv_RX7_398 pa_in24 rfl rfl rfl (pa_hR (by omega) (by decide)) rfl (Nat.le_of_ble_eq_true rfl) dX7_readsAct_58 (fun r9 u10 hw => ?_)
      exact pa_iret hE hr hw rfl dX7_readsAct_61
    · have hw := Eq.mp (if_neg h3) hw
      by_cases h4 : (pa_A u0 25 0 x1.toNatClampNeg) = 6
      · have hw := Eq.mp (if_pos h4) hw
        refine pa_lsw hE dX7_readsAct_6 (by decide) (by rw [h4]; first | done | decide) (tgt := 62) (by decide) ?_
        refine pa_aload_n hE dX7_readsAct_62 rfl 0 rfl ?_
        refine pa_bipush hE dX7_readsAct_63 (v := 70) (by decide) ?_
        refine pa_callVv hE (ct_X7_body l g D q u0 70 _ hw) cv_RX7_386 pa_in24 rfl rfl rfl (pa_hR (by omega) (by decide)) rfl (Nat.le_of_ble_eq_true rfl) dX7_readsAct_65 (fun u12 hw => ?_)
        refine pa_aload_n hE dX7_readsAct_68 rfl 0 rfl ?_
        refine pa_iload_n hE dX7_readsAct_69 rfl 1 rfl ?_
        refine pa_iload_n hE dX7_readsAct_70 rfl 2 rfl ?_
        refine pa_callVi hE (ct_X7_handReads l g D q u12 x1 x2 _ hw) cv_RX7_395 pa_in24 rfl rfl rfl (pa_hR (by omega) (by decide)) rfl (Nat.le_of_ble_eq_true rfl) dX7_readsAct_71 (fun r13 u14 hw => ?_)
        refine pa_istore_n hE dX7_readsAct_74 rfl (by decide) (lvr := [(0, .ref (q 24 0)), (1, .int x1), (2, .int x2)]) rfl ?_
        refine pa_iload_n hE dX7_readsAct_75 rfl 0 rfl ?_
        refine pa_aload_n hE dX7_readsAct_76 rfl 1 rfl ?_
        refine pa_iload_n hE dX7_readsAct_77 rfl 2 rfl ?_
        refine pa_iconst hE dX7_readsAct_78 (v := 2) (by decide) ?_
        refine pa_callVi hE (ct_X7_handLies l g D q u14 x1 2 _ hw) cv_RX7_389 pa_in24 rfl rfl rfl (pa_hR (by omega) (by decide)) rfl (Nat.le_of_ble_eq_true rfl) dX7_readsAct_79 (fun r15 u16 hw => ?_)
        refine pa_iadd hE dX7_readsAct_82 ?_
        exact pa_iret hE hr hw rfl dX7_readsAct_83
      · have hw := Eq.mp (if_neg h4) hw
        refine pa_lsw hE dX7_readsAct_6 (by decide) (by rw [Op.lookupswitch.offset_cons, if_neg (fun z => h2 (pa_toI (c := 1) (by decide) z)), Op.lookupswitch.offset_cons, if_neg (fun z => h3 (pa_toI (c := 4) (by decide) z)), Op.lookupswitch.offset_cons, if_neg (fun z => h4 (pa_toI (c := 6) (by decide) z)), Op.lookupswitch.offset_nil]) (tgt := 84) (by decide) ?_
        refine pa_aload_n hE dX7_readsAct_84 rfl 0 rfl ?_
        refine pa_iload_n hE dX7_readsAct_85 rfl 1 rfl ?_
        refine pa_iload_n hE dX7_readsAct_86 rfl 2 rfl ?_
        refine pa_callVi hE (ct_X7_handReads l g D q u0 x1 x2 _ hw) cv_RX7_395 pa_in24 rfl rfl rfl (pa_hR (by omega) (by decide)) rfl (Nat.le_of_ble_eq_true rfl) dX7_readsAct_87 (fun r17 u18 hw => ?_)
        exact pa_iret hE hr hw rfl dX7_readsAct_90
def wp_X7_readsAct (u0 : pa_S) (x1 : Int32) (x2 : Int32) (post : Int32 → pa_S → Prop) : Prop := wb_X7_readsAct_0 u0 x1 x2 post
theorem ct_X7_readsAct (l : Launch) (g : pa_G) (D : va_G) (q : Nat → Nat → Nat) (u0 : pa_S) (x1 : Int32) (x2 : Int32) (post : Int32 → pa_S → Prop)  (hw : wp_X7_readsAct u0 x1 x2 post) : pa_Ct l yX7_readsAct cX7_readsAct 4 (some .int) 7 g D q u0 [.ref (q 24 0), .int x1, .int x2] (fun r => some (.int r)) post := pa_met rfl rfl (Nat.le_of_ble_eq_true rfl) rfl (fun p e s m args below meth c A hE hr => tb_X7_readsAct_0 hE hr  hw)
def wb_X7_handTells_0 (u0 : pa_S) (x1 : Int32) (x2 : Int32) (post : Int32 → pa_S → Prop) : Prop :=
  (wp_X7_body u0 12 (fun (u2 : pa_S) => (wp_X7_readsAct u2 x1 x2 (fun (r3 : Int32) (u4 : pa_S) => post (r3 * 2) u4))))
set_option maxRecDepth 100000 in
set_option maxHeartbeats 4000000 in
theorem tb_X7_handTells_0 {p : Program} {l : Launch} {e : Env} {s : State} {m : MethodId} {args : Array Value} {below : List Frame} {meth : Method} {c : Code} {A : Nat → Prop} {D : va_G} {g : pa_G} {q : Nat → Nat → Nat} {u0 : pa_S} {x1 : Int32} {x2 : Int32} {post : Int32 → pa_S → Prop} (hE : pa_Fx p s m args meth c A D g 3 cX7_handTells RX7) (hr : meth.sig.returnType = (some .int)) (hw : wb_X7_handTells_0 u0 x1 x2 post) : pa_At p l e (pa_rm 8) s m args below meth c (MQ below (pa_Qc g D q (fun r => some (.int r)) post A) args s 0 0 A) A D g 3 0 0 q u0 0 [(0, .ref (q 24 0)), (1, .int x1), (2, .int x2)] [] := by
  refine pa_aload_n hE dX7_handTells_0 rfl 0 rfl ?_
  refine pa_bipush hE dX7_handTells_1 (v := 12) (by decide) ?_
  refine pa_callVv hE (ct_X7_body l g D q u0 12 _ hw) cv_RX7_386 pa_in24 rfl rfl rfl (pa_hR (by omega) (by decide)) rfl (Nat.le_of_ble_eq_true rfl) dX7_handTells_3 (fun u2 hw => ?_)
  refine pa_aload_n hE dX7_handTells_6 rfl 0 rfl ?_
  refine pa_iload_n hE dX7_handTells_7 rfl 1 rfl ?_
  refine pa_iload_n hE dX7_handTells_8 rfl 2 rfl ?_
  refine pa_callVi hE (ct_X7_readsAct l g D q u2 x1 x2 _ hw) cv_RX7_401 pa_in24 rfl rfl rfl (pa_hR (by omega) (by decide)) rfl (Nat.le_of_ble_eq_true rfl) dX7_handTells_9 (fun r3 u4 hw => ?_)
  refine pa_iconst hE dX7_handTells_12 (v := 2) (by decide) ?_
  refine pa_imul hE dX7_handTells_13 ?_
  exact pa_iret hE hr hw rfl dX7_handTells_14
def wp_X7_handTells (u0 : pa_S) (x1 : Int32) (x2 : Int32) (post : Int32 → pa_S → Prop) : Prop := wb_X7_handTells_0 u0 x1 x2 post
theorem ct_X7_handTells (l : Launch) (g : pa_G) (D : va_G) (q : Nat → Nat → Nat) (u0 : pa_S) (x1 : Int32) (x2 : Int32) (post : Int32 → pa_S → Prop)  (hw : wp_X7_handTells u0 x1 x2 post) : pa_Ct l yX7_handTells cX7_handTells 3 (some .int) 8 g D q u0 [.ref (q 24 0), .int x1, .int x2] (fun r => some (.int r)) post := pa_met rfl rfl (Nat.le_of_ble_eq_true rfl) rfl (fun p e s m args below meth c A hE hr => tb_X7_handTells_0 hE hr  hw)
def wb_X7_tellsAct_0 (u0 : pa_S) (x1 : Int32) (x2 : Int32) (post : Int32 → pa_S → Prop) : Prop :=
  (vp_in x1 5) ∧ (if (pa_A u0 25 0 x1.toNatClampNeg) = 3 then (wp_X7_body u0 40 (fun (u7 : pa_S) => (wp_X7_handTells u7 x1 x2 (fun (r8 : Int32) (u9 : pa_S) => (wp_X7_readsAct u9 x1 1 (fun (r10 : Int32) (u11 : pa_S) => post (r8 + r10) u11)))))) else (if (pa_A u0 25 0 x1.toNatClampNeg) = 4 then (wp_X7_handTells u0 x1 x2 (fun (r12 : Int32) (u13 : pa_S) => post r12 u13)) else (if (pa_A u0 25 0 x1.toNatClampNeg) = 5 then (wp_X7_body u0 60 (fun (u15 : pa_S) => (wp_X7_handTells u15 x1 (x2 - x1) (fun (r16 : Int32) (u17 : pa_S) => post r16 u17)))) else (if (pa_A u0 25 0 x1.toNatClampNeg) = 6 then (wp_X7_body u0 40 (fun (u19 : pa_S) => (wp_X7_handTells u19 x1 x2 (fun (r20 : Int32) (u21 : pa_S) => (wp_X7_readsAct u21 x1 1 (fun (r22 : Int32) (u23 : pa_S) => post (r20 + r22) u23)))))) else (wp_X7_handTells u0 x1 x2 (fun (r24 : Int32) (u25 : pa_S) => post r24 u25))))))
set_option maxRecDepth 100000 in
set_option maxHeartbeats 4000000 in
theorem tb_X7_tellsAct_0 {p : Program} {l : Launch} {e : Env} {s : State} {m : MethodId} {args : Array Value} {below : List Frame} {meth : Method} {c : Code} {A : Nat → Prop} {D : va_G} {g : pa_G} {q : Nat → Nat → Nat} {u0 : pa_S} {x1 : Int32} {x2 : Int32} {post : Int32 → pa_S → Prop} (hE : pa_Fx p s m args meth c A D g 4 cX7_tellsAct RX7) (hr : meth.sig.returnType = (some .int)) (hw : wb_X7_tellsAct_0 u0 x1 x2 post) : pa_At p l e (pa_rm 9) s m args below meth c (MQ below (pa_Qc g D q (fun r => some (.int r)) post A) args s 0 0 A) A D g 4 0 0 q u0 0 [(0, .ref (q 24 0)), (1, .int x1), (2, .int x2)] [] := by
  refine pa_aload_n hE dX7_tellsAct_0 rfl 0 rfl ?_
  refine pg_24_3 hE (pa_m4 124 rfl rfl) dX7_tellsAct_1 ?_
  refine pa_iload_n hE dX7_tellsAct_4 rfl 1 rfl ?_
  obtain ⟨h1, hw⟩ := hw
  refine pl_25 hE h1 dX7_tellsAct_5 ?_
  by_cases h2 : (pa_A u0 25 0 x1.toNatClampNeg) = 3
  · have hw := Eq.mp (if_pos h2) hw
    refine pa_tswIn hE dX7_tellsAct_6 (z := 3) h2 (by decide) (by decide) rfl (tgt := 36) (by decide) ?_
    refine pa_aload_n hE dX7_tellsAct_36 rfl 0 rfl ?_
    refine pa_bipush hE dX7_tellsAct_37 (v := 40) (by decide) ?_
    refine pa_callVv hE (ct_X7_body l g D q u0 40 _ hw) cv_RX7_386 pa_in24 rfl rfl rfl (pa_hR (by omega) (by decide)) rfl (Nat.le_of_ble_eq_true rfl) dX7_tellsAct_39 (fun u7 hw => ?_)
    refine pa_aload_n hE dX7_tellsAct_42 rfl 0 rfl ?_
    refine pa_iload_n hE dX7_tellsAct_43 rfl 1 rfl ?_
    refine pa_iload_n hE dX7_tellsAct_44 rfl 2 rfl ?_
    refine pa_callVi hE (ct_X7_handTells l g D q u7 x1 x2 _ hw) cv_RX7_404 pa_in24 rfl rfl rfl (pa_hR (by omega) (by decide)) rfl (Nat.le_of_ble_eq_true rfl) dX7_tellsAct_45 (fun r8 u9 hw => ?_)
    refine pa_istore_n hE dX7_tellsAct_48 rfl (by decide) (lvr := [(0, .ref (q 24 0)), (1, .int x1), (2, .int x2)]) rfl ?_
    refine pa_iload_n hE dX7_tellsAct_49 rfl 0 rfl ?_
    refine pa_aload_n hE dX7_tellsAct_50 rfl 1 rfl ?_
    refine pa_iload_n hE dX7_tellsAct_51 rfl 2 rfl ?_
    refine pa_iconst hE dX7_tellsAct_52 (v := 1) (by decide) ?_
    refine pa_callVi hE (ct_X7_readsAct l g D q u9 x1 1 _ hw) cv_RX7_401 pa_in24 rfl rfl rfl (pa_hR (by omega) (by decide)) rfl (Nat.le_of_ble_eq_true rfl) dX7_tellsAct_53 (fun r10 u11 hw => ?_)
    refine pa_iadd hE dX7_tellsAct_56 ?_
    exact pa_iret hE hr hw rfl dX7_tellsAct_57
  · have hw := Eq.mp (if_neg h2) hw
    by_cases h3 : (pa_A u0 25 0 x1.toNatClampNeg) = 4
    · have hw := Eq.mp (if_pos h3) hw
      refine pa_tswIn hE dX7_tellsAct_6 (z := 4) h3 (by decide) (by decide) rfl (tgt := 73) (by decide) ?_
      refine pa_aload_n hE dX7_tellsAct_73 rfl 0 rfl ?_
      refine pa_iload_n hE dX7_tellsAct_74 rfl 1 rfl ?_
      refine pa_iload_n hE dX7_tellsAct_75 rfl 2 rfl ?_
      refine pa_callVi hE (ct_X7_handTells l g D q u0 x1 x2 _ hw) cv_RX7_404 pa_in24 rfl rfl rfl (pa_hR (by omega) (by decide)) rfl (Nat.le_of_ble_eq_true rfl) dX7_tellsAct_76 (fun r12 u13 hw => ?_)
      exact pa_iret hE hr hw rfl dX7_tellsAct_79
    · have hw := Eq.mp (if_neg h3) hw
      by_cases h4 : (pa_A u0 25 0 x1.toNatClampNeg) = 5
      · have hw := Eq.mp (if_pos h4) hw
        refine pa_tswIn hE dX7_tellsAct_6 (z := 5) h4 (by decide) (by decide) rfl (tgt := 58) (by decide) ?_
        refine pa_aload_n hE dX7_tellsAct_58 rfl 0 rfl ?_
        refine pa_bipush hE dX7_tellsAct_59 (v := 60) (by decide) ?_
        refine pa_callVv hE (ct_X7_body l g D q u0 60 _ hw) cv_RX7_386 pa_in24 rfl rfl rfl (pa_hR (by omega) (by decide)) rfl (Nat.le_of_ble_eq_true rfl) dX7_tellsAct_61 (fun u15 hw => ?_)
        refine pa_aload_n hE dX7_tellsAct_64 rfl 0 rfl ?_
        refine pa_iload_n hE dX7_tellsAct_65 rfl 1 rfl ?_
        refine pa_iload_n hE dX7_tellsAct_66 rfl 2 rfl ?_
        refine pa_iload_n hE dX7_tellsAct_67 rfl 1 rfl ?_
        refine pa_isub hE dX7_tellsAct_68 ?_
        refine pa_callVi hE (ct_X7_handTells l g D q u15 x1 (x2 - x1) _ hw) cv_RX7_404 pa_in24 rfl rfl rfl (pa_hR (by omega) (by decide)) rfl (Nat.le_of_ble_eq_true rfl) dX7_tellsAct_69 (fun r16 u17 hw => ?_)
        exact pa_iret hE hr hw rfl dX7_tellsAct_72
      · have hw := Eq.mp (if_neg h4) hw
        by_cases h5 : (pa_A u0 25 0 x1.toNatClampNeg) = 6
        · have hw := Eq.mp (if_pos h5) hw
          refine pa_tswIn hE dX7_tellsAct_6 (z := 6) h5 (by decide) (by decide) rfl (tgt := 36) (by decide) ?_
          refine pa_aload_n hE dX7_tellsAct_36 rfl 0 rfl ?_
          refine pa_bipush hE dX7_tellsAct_37 (v := 40) (by decide) ?_
          refine pa_callVv hE (ct_X7_body l g D q u0 40 _ hw) cv_RX7_386 pa_in24 rfl rfl rfl (pa_hR (by omega) (by decide)) rfl (Nat.le_of_ble_eq_true rfl) dX7_tellsAct_39 (fun u19 hw => ?_)
          refine pa_aload_n hE dX7_tellsAct_42 rfl 0 rfl ?_
          refine pa_iload_n hE dX7_tellsAct_43 rfl 1 rfl ?_
          refine pa_iload_n hE dX7_tellsAct_44 rfl 2 rfl ?_
          refine pa_callVi hE (ct_X7_handTells l g D q u19 x1 x2 _ hw) cv_RX7_404 pa_in24 rfl rfl rfl (pa_hR (by omega) (by decide)) rfl (Nat.le_of_ble_eq_true rfl) dX7_tellsAct_45 (fun r20 u21 hw => ?_)
          refine pa_istore_n hE dX7_tellsAct_48 rfl (by decide) (lvr := [(0, .ref (q 24 0)), (1, .int x1), (2, .int x2)]) rfl ?_
          refine pa_iload_n hE dX7_tellsAct_49 rfl 0 rfl ?_
          refine pa_aload_n hE dX7_tellsAct_50 rfl 1 rfl ?_
          refine pa_iload_n hE dX7_tellsAct_51 rfl 2 rfl ?_
          refine pa_iconst hE dX7_tellsAct_52 (v := 1) (by decide) ?_
          refine pa_callVi hE (ct_X7_readsAct l g D q u21 x1 1 _ hw) cv_RX7_401 pa_in24 rfl rfl rfl (pa_hR (by omega) (by decide)) rfl (Nat.le_of_ble_eq_true rfl) dX7_tellsAct_53 (fun r22 u23 hw => ?_)
          refine pa_iadd hE dX7_tellsAct_56 ?_
          exact pa_iret hE hr hw rfl dX7_tellsAct_57
        · have hw := Eq.mp (if_neg h5) hw
          refine pa_tswOut hE dX7_tellsAct_6 (by have eh2 := pa_neL h2 (by decide : (3 : Int32).toInt = 3); have eh3 := pa_neL h3 (by decide : (4 : Int32).toInt = 4); have eh4 := pa_neL h4 (by decide : (5 : Int32).toInt = 5); have eh5 := pa_neL h5 (by decide : (6 : Int32).toInt = 6); omega) (tgt := 73) (by decide) ?_
          refine pa_aload_n hE dX7_tellsAct_73 rfl 0 rfl ?_
          refine pa_iload_n hE dX7_tellsAct_74 rfl 1 rfl ?_
          refine pa_iload_n hE dX7_tellsAct_75 rfl 2 rfl ?_
          refine pa_callVi hE (ct_X7_handTells l g D q u0 x1 x2 _ hw) cv_RX7_404 pa_in24 rfl rfl rfl (pa_hR (by omega) (by decide)) rfl (Nat.le_of_ble_eq_true rfl) dX7_tellsAct_76 (fun r24 u25 hw => ?_)
          exact pa_iret hE hr hw rfl dX7_tellsAct_79
def wp_X7_tellsAct (u0 : pa_S) (x1 : Int32) (x2 : Int32) (post : Int32 → pa_S → Prop) : Prop := wb_X7_tellsAct_0 u0 x1 x2 post
theorem ct_X7_tellsAct (l : Launch) (g : pa_G) (D : va_G) (q : Nat → Nat → Nat) (u0 : pa_S) (x1 : Int32) (x2 : Int32) (post : Int32 → pa_S → Prop)  (hw : wp_X7_tellsAct u0 x1 x2 post) : pa_Ct l yX7_tellsAct cX7_tellsAct 4 (some .int) 9 g D q u0 [.ref (q 24 0), .int x1, .int x2] (fun r => some (.int r)) post := pa_met rfl rfl (Nat.le_of_ble_eq_true rfl) rfl (fun p e s m args below meth c A hE hr => tb_X7_tellsAct_0 hE hr  hw)
def wb_X7_act_0 (u0 : pa_S) (x1 : Int32) (x2 : Int32) (x3 : Int32) (post : Int32 → pa_S → Prop) : Prop :=
  ∀ u1 : pa_S, u1 = pa_sI u0 24 0 63 0 → (wp_X7_isHand u1 x1 (fun (r2 : Int32) => (if r2 = 0 then post 0 u1 else (wp_X7_in u1 x2 0 2 (fun (r4 : Int32) => (if r4 = 0 then post 0 u1 else (if x2 = 0 then (wp_X7_liesAct u1 x1 x3 (fun (r12 : Int32) (u13 : pa_S) => post r12 u13)) else (if x2 = 1 then (wp_X7_readsAct u1 x1 x3 (fun (r10 : Int32) (u11 : pa_S) => post r10 u11)) else (wp_X7_tellsAct u1 x1 x3 (fun (r8 : Int32) (u9 : pa_S) => post r8 u9))))))))))
set_option maxRecDepth 100000 in
set_option maxHeartbeats 4000000 in
theorem tb_X7_act_0 {p : Program} {l : Launch} {e : Env} {s : State} {m : MethodId} {args : Array Value} {below : List Frame} {meth : Method} {c : Code} {A : Nat → Prop} {D : va_G} {g : pa_G} {q : Nat → Nat → Nat} {u0 : pa_S} {x1 : Int32} {x2 : Int32} {x3 : Int32} {post : Int32 → pa_S → Prop} (hE : pa_Fx p s m args meth c A D g 4 cX7_act RX7) (hr : meth.sig.returnType = (some .int)) (hw : wb_X7_act_0 u0 x1 x2 x3 post) : pa_At p l e (pa_rm 10) s m args below meth c (MQ below (pa_Qc g D q (fun r => some (.int r)) post A) args s 0 0 A) A D g 4 0 0 q u0 0 [(0, .ref (q 24 0)), (1, .int x1), (2, .int x2), (3, .int x3)] [] := by
  refine pa_aload_n hE dX7_act_0 rfl 0 rfl ?_
  refine pa_iconst hE dX7_act_1 (v := 0) (by decide) ?_
  refine pp_24_63 hE (pa_m4 184 rfl rfl) dX7_act_2 (fun u1 eu1 => ?_)
  have hw := hw u1 eu1
  refine pa_aload_n hE dX7_act_5 rfl 0 rfl ?_
  refine pa_iload_n hE dX7_act_6 rfl 1 rfl ?_
  refine pa_callVri hE (ct_X7_isHand l g D q u1 x1 _ hw) cv_RX7_229 pa_in24 rfl rfl rfl (pa_hR (by omega) (by decide)) rfl (Nat.le_of_ble_eq_true rfl) dX7_act_7 (fun r2 hw => ?_)
  refine pa_if_eq hE dX7_act_10 (tgt := 23) (by decide) (fun h3 => ?_) (fun h3 => ?_)
  · have hw := Eq.mp (if_pos h3) hw
    refine pa_iconst hE dX7_act_23 (v := 0) (by decide) ?_
    exact pa_iret hE hr hw rfl dX7_act_24
  · have hw := Eq.mp (if_neg h3) hw
    refine pa_aload_n hE dX7_act_13 rfl 0 rfl ?_
    refine pa_iload_n hE dX7_act_14 rfl 2 rfl ?_
    refine pa_iconst hE dX7_act_15 (v := 0) (by decide) ?_
    refine pa_iconst hE dX7_act_16 (v := 2) (by decide) ?_
    refine pa_callVri hE (ct_X7_in l g D q u1 x2 0 2 _ hw) cv_RX7_221 pa_in24 rfl rfl rfl (pa_hR (by omega) (by decide)) rfl (Nat.le_of_ble_eq_true rfl) dX7_act_17 (fun r4 hw => ?_)
    refine pa_if_ne hE dX7_act_20 (tgt := 25) (by decide) (fun h5 => ?_) (fun h5 => ?_)
    · have hw := Eq.mp (if_neg h5) hw
      refine pa_iload_n hE dX7_act_25 rfl 2 rfl ?_
      refine pa_if_ne hE dX7_act_26 (tgt := 38) (by decide) (fun h6 => ?_) (fun h6 => ?_)
      · have hw := Eq.mp (if_neg h6) hw
        refine pa_iload_n hE dX7_act_38 rfl 2 rfl ?_
        refine pa_iconst hE dX7_act_39 (v := 1) (by decide) ?_
        refine pa_icmp_ne hE dX7_act_40 (tgt := 52) (by decide) (fun h7 => ?_) (fun h7 => ?_)
        · have hw := Eq.mp (if_neg h7) hw
          refine pa_aload_n hE dX7_act_52 rfl 0 rfl ?_
          refine pa_iload_n hE dX7_act_53 rfl 1 rfl ?_
          refine pa_iload_n hE dX7_act_54 rfl 3 rfl ?_
          refine pa_callVi hE (ct_X7_tellsAct l g D q u1 x1 x3 _ hw) cv_RX7_407 pa_in24 rfl rfl rfl (pa_hR (by omega) (by decide)) rfl (Nat.le_of_ble_eq_true rfl) dX7_act_55 (fun r8 u9 hw => ?_)
          exact pa_iret hE hr hw rfl dX7_act_58
        · have hw := Eq.mp (if_pos h7) hw
          refine pa_aload_n hE dX7_act_43 rfl 0 rfl ?_
          refine pa_iload_n hE dX7_act_44 rfl 1 rfl ?_
          refine pa_iload_n hE dX7_act_45 rfl 3 rfl ?_
          refine pa_callVi hE (ct_X7_readsAct l g D q u1 x1 x3 _ hw) cv_RX7_401 pa_in24 rfl rfl rfl (pa_hR (by omega) (by decide)) rfl (Nat.le_of_ble_eq_true rfl) dX7_act_46 (fun r10 u11 hw => ?_)
          refine pa_goto hE dX7_act_49 (tgt := 58) (by decide) ?_
          exact pa_iret hE hr hw rfl dX7_act_58
      · have hw := Eq.mp (if_pos h6) hw
        refine pa_aload_n hE dX7_act_29 rfl 0 rfl ?_
        refine pa_iload_n hE dX7_act_30 rfl 1 rfl ?_
        refine pa_iload_n hE dX7_act_31 rfl 3 rfl ?_
        refine pa_callVi hE (ct_X7_liesAct l g D q u1 x1 x3 _ hw) cv_RX7_392 pa_in24 rfl rfl rfl (pa_hR (by omega) (by decide)) rfl (Nat.le_of_ble_eq_true rfl) dX7_act_32 (fun r12 u13 hw => ?_)
        refine pa_goto hE dX7_act_35 (tgt := 58) (by decide) ?_
        exact pa_iret hE hr hw rfl dX7_act_58
    · have hw := Eq.mp (if_pos h5) hw
      refine pa_iconst hE dX7_act_23 (v := 0) (by decide) ?_
      exact pa_iret hE hr hw rfl dX7_act_24
def wp_X7_act (u0 : pa_S) (x1 : Int32) (x2 : Int32) (x3 : Int32) (post : Int32 → pa_S → Prop) : Prop := wb_X7_act_0 u0 x1 x2 x3 post
theorem ct_X7_act (l : Launch) (g : pa_G) (D : va_G) (q : Nat → Nat → Nat) (u0 : pa_S) (x1 : Int32) (x2 : Int32) (x3 : Int32) (post : Int32 → pa_S → Prop)  (hw : wp_X7_act u0 x1 x2 x3 post) : pa_Ct l yX7_act cX7_act 4 (some .int) 10 g D q u0 [.ref (q 24 0), .int x1, .int x2, .int x3] (fun r => some (.int r)) post := pa_met rfl rfl (Nat.le_of_ble_eq_true rfl) rfl (fun p e s m args below meth c A hE hr => tb_X7_act_0 hE hr  hw)
def wb_X7_trace_0 (u0 : pa_S) (x1 : Int32) (post : Int32 → Prop) : Prop :=
  (wp_X7_in u0 x1 0 19 (fun (r1 : Int32) => (if r1 = 0 then post (-1 : Int32) else (if (pa_I u0 24 0 63) ≤ x1 then post (-1 : Int32) else (vp_in x1 20) ∧ post (pa_A u0 63 0 x1.toNatClampNeg)))))
set_option maxRecDepth 100000 in
set_option maxHeartbeats 4000000 in
theorem tb_X7_trace_0 {p : Program} {l : Launch} {e : Env} {s : State} {m : MethodId} {args : Array Value} {below : List Frame} {meth : Method} {c : Code} {A : Nat → Prop} {D : va_G} {g : pa_G} {q : Nat → Nat → Nat} {u0 : pa_S} {x1 : Int32} {post : Int32 → Prop} (hE : pa_Fx p s m args meth c A D g 2 cX7_trace RX7) (hr : meth.sig.returnType = (some .int)) (hw : wb_X7_trace_0 u0 x1 post) : pa_At p l e (pa_rm 3) s m args below meth c (MQ below (pa_Qc g D q (fun r => some (.int r)) (fun r u => u = u0 ∧ post r) A) args s 0 0 A) A D g 2 0 0 q u0 0 [(0, .ref (q 24 0)), (1, .int x1)] [] := by
  refine pa_aload_n hE dX7_trace_0 rfl 0 rfl ?_
  refine pa_iload_n hE dX7_trace_1 rfl 1 rfl ?_
  refine pa_iconst hE dX7_trace_2 (v := 0) (by decide) ?_
  refine pa_bipush hE dX7_trace_3 (v := 19) (by decide) ?_
  refine pa_callVri hE (ct_X7_in l g D q u0 x1 0 19 _ hw) cv_RX7_221 pa_in24 rfl rfl rfl (pa_hR (by omega) (by decide)) rfl (Nat.le_of_ble_eq_true rfl) dX7_trace_5 (fun r1 hw => ?_)
  refine pa_if_eq hE dX7_trace_8 (tgt := 28) (by decide) (fun h2 => ?_) (fun h2 => ?_)
  · have hw := Eq.mp (if_pos h2) hw
    refine pa_iconst hE dX7_trace_28 (v := (-1 : Int32)) (by decide) ?_
    exact pa_iret hE hr ⟨rfl, hw⟩ rfl dX7_trace_29
  · have hw := Eq.mp (if_neg h2) hw
    refine pa_iload_n hE dX7_trace_11 rfl 1 rfl ?_
    refine pa_aload_n hE dX7_trace_12 rfl 0 rfl ?_
    refine pg_24_63 hE (pa_m4 184 rfl rfl) dX7_trace_13 ?_
    refine pa_icmp_ge hE dX7_trace_16 (tgt := 28) (by decide) (fun h3 => ?_) (fun h3 => ?_)
    · have hw := Eq.mp (if_pos h3) hw
      refine pa_iconst hE dX7_trace_28 (v := (-1 : Int32)) (by decide) ?_
      exact pa_iret hE hr ⟨rfl, hw⟩ rfl dX7_trace_29
    · have hw := Eq.mp (if_neg h3) hw
      refine pa_aload_n hE dX7_trace_19 rfl 0 rfl ?_
      refine pg_24_64 hE (pa_m4 185 rfl rfl) dX7_trace_20 ?_
      refine pa_iload_n hE dX7_trace_23 rfl 1 rfl ?_
      obtain ⟨h4, hw⟩ := hw
      refine pl_63 hE h4 dX7_trace_24 ?_
      refine pa_goto hE dX7_trace_25 (tgt := 29) (by decide) ?_
      exact pa_iret hE hr ⟨rfl, hw⟩ rfl dX7_trace_29
def wp_X7_trace (u0 : pa_S) (x1 : Int32) (post : Int32 → Prop) : Prop := wb_X7_trace_0 u0 x1 post
theorem ct_X7_trace (l : Launch) (g : pa_G) (D : va_G) (q : Nat → Nat → Nat) (u0 : pa_S) (x1 : Int32) (post : Int32 → Prop)  (hw : wp_X7_trace u0 x1 post) : pa_Ct l yX7_trace cX7_trace 2 (some .int) 3 g D q u0 [.ref (q 24 0), .int x1] (fun r => some (.int r)) (fun r u => u = u0 ∧ post r) := pa_met rfl rfl (Nat.le_of_ble_eq_true rfl) rfl (fun p e s m args below meth c A hE hr => tb_X7_trace_0 hE hr  hw)
def wb_X7_taken_61 (u0 : pa_S) (x2 : Int32) (x3 : Int32) (post : Int32 → Prop) : Prop :=
  (if x2 = 3 then (if x3 = 6 then post x3 else post (-12 : Int32)) else post (-12 : Int32))
set_option maxRecDepth 100000 in
set_option maxHeartbeats 4000000 in
theorem tb_X7_taken_61 {p : Program} {l : Launch} {e : Env} {s : State} {m : MethodId} {args : Array Value} {below : List Frame} {meth : Method} {c : Code} {A : Nat → Prop} {D : va_G} {g : pa_G} {q : Nat → Nat → Nat} {u0 : pa_S} {x2 : Int32} {x3 : Int32} {post : Int32 → Prop} (hE : pa_Fx p s m args meth c A D g 4 cX7_taken RX7) (hr : meth.sig.returnType = (some .int)) (hw : wb_X7_taken_61 u0 x2 x3 post) : pa_At p l e (pa_rm 4) s m args below meth c (MQ below (pa_Qc g D q (fun r => some (.int r)) (fun r u => u = u0 ∧ post r) A) args s 0 0 A) A D g 4 0 0 q u0 61 [(2, .int x2), (3, .int x3)] [] := by
  refine pa_iload_n hE dX7_taken_61 rfl 0 rfl ?_
  refine pa_iconst hE dX7_taken_62 (v := 3) (by decide) ?_
  refine pa_icmp_ne hE dX7_taken_63 (tgt := 76) (by decide) (fun h11 => ?_) (fun h11 => ?_)
  · have hw := Eq.mp (if_neg h11) hw
    refine pa_bipush hE dX7_taken_76 (v := (-12 : Int32)) (by decide) ?_
    exact pa_iret hE hr ⟨rfl, hw⟩ rfl dX7_taken_78
  · have hw := Eq.mp (if_pos h11) hw
    refine pa_iload_n hE dX7_taken_66 rfl 1 rfl ?_
    refine pa_bipush hE dX7_taken_67 (v := 6) (by decide) ?_
    refine pa_icmp_ne hE dX7_taken_69 (tgt := 76) (by decide) (fun h12 => ?_) (fun h12 => ?_)
    · have hw := Eq.mp (if_neg h12) hw
      refine pa_bipush hE dX7_taken_76 (v := (-12 : Int32)) (by decide) ?_
      exact pa_iret hE hr ⟨rfl, hw⟩ rfl dX7_taken_78
    · have hw := Eq.mp (if_pos h12) hw
      refine pa_iload_n hE dX7_taken_72 rfl 1 rfl ?_
      refine pa_goto hE dX7_taken_73 (tgt := 78) (by decide) ?_
      exact pa_iret hE hr ⟨rfl, hw⟩ rfl dX7_taken_78
def wb_X7_taken_51 (u0 : pa_S) (x2 : Int32) (x3 : Int32) (post : Int32 → Prop) : Prop :=
  (if x2 = 2 then (if x3 = 5 then post x3 else wb_X7_taken_61 u0 x2 x3 post) else wb_X7_taken_61 u0 x2 x3 post)
set_option maxRecDepth 100000 in
set_option maxHeartbeats 4000000 in
theorem tb_X7_taken_51 {p : Program} {l : Launch} {e : Env} {s : State} {m : MethodId} {args : Array Value} {below : List Frame} {meth : Method} {c : Code} {A : Nat → Prop} {D : va_G} {g : pa_G} {q : Nat → Nat → Nat} {u0 : pa_S} {x2 : Int32} {x3 : Int32} {post : Int32 → Prop} (hE : pa_Fx p s m args meth c A D g 4 cX7_taken RX7) (hr : meth.sig.returnType = (some .int)) (hw : wb_X7_taken_51 u0 x2 x3 post) : pa_At p l e (pa_rm 4) s m args below meth c (MQ below (pa_Qc g D q (fun r => some (.int r)) (fun r u => u = u0 ∧ post r) A) args s 0 0 A) A D g 4 0 0 q u0 51 [(2, .int x2), (3, .int x3)] [] := by
  refine pa_iload_n hE dX7_taken_51 rfl 0 rfl ?_
  refine pa_iconst hE dX7_taken_52 (v := 2) (by decide) ?_
  refine pa_icmp_ne hE dX7_taken_53 (tgt := 61) (by decide) (fun h10 => ?_) (fun h10 => ?_)
  · have hw := Eq.mp (if_neg h10) hw
    exact pa_sub [0, 1] rfl (tb_X7_taken_61 hE hr hw)
  · have hw := Eq.mp (if_pos h10) hw
    refine pa_iload_n hE dX7_taken_56 rfl 1 rfl ?_
    refine pa_iconst hE dX7_taken_57 (v := 5) (by decide) ?_
    refine pa_icmp_eq hE dX7_taken_58 (tgt := 72) (by decide) (fun h13 => ?_) (fun h13 => ?_)
    · have hw := Eq.mp (if_pos h13) hw
      refine pa_iload_n hE dX7_taken_72 rfl 1 rfl ?_
      refine pa_goto hE dX7_taken_73 (tgt := 78) (by decide) ?_
      exact pa_iret hE hr ⟨rfl, hw⟩ rfl dX7_taken_78
    · have hw := Eq.mp (if_neg h13) hw
      exact pa_sub [0, 1] rfl (tb_X7_taken_61 hE hr hw)
def wb_X7_taken_0 (u0 : pa_S) (x1 : Int32) (x2 : Int32) (post : Int32 → Prop) : Prop :=
  (wp_X7_in u0 x2 0 6 (fun (r1 : Int32) => (if r1 = 0 then post (-2 : Int32) else (wp_X7_isHand u0 x1 (fun (r3 : Int32) => (if r3 = 0 then post (-11 : Int32) else (vp_in x1 5) ∧ ∀ v6 : Int32, v6 = (pa_A u0 25 0 x1.toNatClampNeg) → (if x2 = 0 then post v6 else (if v6 = x2 then post v6 else (if x2 = 1 then (if v6 = 4 then post v6 else wb_X7_taken_51 u0 x2 v6 post) else wb_X7_taken_51 u0 x2 v6 post)))))))))
set_option maxRecDepth 100000 in
set_option maxHeartbeats 4000000 in
theorem tb_X7_taken_0 {p : Program} {l : Launch} {e : Env} {s : State} {m : MethodId} {args : Array Value} {below : List Frame} {meth : Method} {c : Code} {A : Nat → Prop} {D : va_G} {g : pa_G} {q : Nat → Nat → Nat} {u0 : pa_S} {x1 : Int32} {x2 : Int32} {post : Int32 → Prop} (hE : pa_Fx p s m args meth c A D g 4 cX7_taken RX7) (hr : meth.sig.returnType = (some .int)) (hw : wb_X7_taken_0 u0 x1 x2 post) : pa_At p l e (pa_rm 4) s m args below meth c (MQ below (pa_Qc g D q (fun r => some (.int r)) (fun r u => u = u0 ∧ post r) A) args s 0 0 A) A D g 4 0 0 q u0 0 [(0, .ref (q 24 0)), (1, .int x1), (2, .int x2)] [] := by
  refine pa_aload_n hE dX7_taken_0 rfl 0 rfl ?_
  refine pa_iload_n hE dX7_taken_1 rfl 2 rfl ?_
  refine pa_iconst hE dX7_taken_2 (v := 0) (by decide) ?_
  refine pa_bipush hE dX7_taken_3 (v := 6) (by decide) ?_
  refine pa_callVri hE (ct_X7_in l g D q u0 x2 0 6 _ hw) cv_RX7_221 pa_in24 rfl rfl rfl (pa_hR (by omega) (by decide)) rfl (Nat.le_of_ble_eq_true rfl) dX7_taken_5 (fun r1 hw => ?_)
  refine pa_if_ne hE dX7_taken_8 (tgt := 14) (by decide) (fun h2 => ?_) (fun h2 => ?_)
  · have hw := Eq.mp (if_neg h2) hw
    refine pa_aload_n hE dX7_taken_14 rfl 0 rfl ?_
    refine pa_iload_n hE dX7_taken_15 rfl 1 rfl ?_
    refine pa_callVri hE (ct_X7_isHand l g D q u0 x1 _ hw) cv_RX7_229 pa_in24 rfl rfl rfl (pa_hR (by omega) (by decide)) rfl (Nat.le_of_ble_eq_true rfl) dX7_taken_16 (fun r3 hw => ?_)
    refine pa_if_ne hE dX7_taken_19 (tgt := 25) (by decide) (fun h4 => ?_) (fun h4 => ?_)
    · have hw := Eq.mp (if_neg h4) hw
      refine pa_aload_n hE dX7_taken_25 rfl 0 rfl ?_
      refine pg_24_3 hE (pa_m4 124 rfl rfl) dX7_taken_26 ?_
      refine pa_iload_n hE dX7_taken_29 rfl 1 rfl ?_
      obtain ⟨h5, hw⟩ := hw
      refine pl_25 hE h5 dX7_taken_30 ?_
      refine pa_namei (fun v6 ev6 => ?_)
      have hw := hw v6 ev6
      refine pa_istore_n hE dX7_taken_31 rfl (by decide) (lvr := [(0, .ref (q 24 0)), (1, .int x1), (2, .int x2)]) rfl ?_
      refine pa_iload_n hE dX7_taken_32 rfl 3 rfl ?_
      refine pa_if_eq hE dX7_taken_33 (tgt := 72) (by decide) (fun h7 => ?_) (fun h7 => ?_)
      · have hw := Eq.mp (if_pos h7) hw
        refine pa_iload_n hE dX7_taken_72 rfl 0 rfl ?_
        refine pa_goto hE dX7_taken_73 (tgt := 78) (by decide) ?_
        exact pa_iret hE hr ⟨rfl, hw⟩ rfl dX7_taken_78
      · have hw := Eq.mp (if_neg h7) hw
        refine pa_iload_n hE dX7_taken_36 rfl 0 rfl ?_
        refine pa_iload_n hE dX7_taken_37 rfl 3 rfl ?_
        refine pa_icmp_eq hE dX7_taken_38 (tgt := 72) (by decide) (fun h8 => ?_) (fun h8 => ?_)
        · have hw := Eq.mp (if_pos h8) hw
          refine pa_iload_n hE dX7_taken_72 rfl 0 rfl ?_
          refine pa_goto hE dX7_taken_73 (tgt := 78) (by decide) ?_
          exact pa_iret hE hr ⟨rfl, hw⟩ rfl dX7_taken_78
        · have hw := Eq.mp (if_neg h8) hw
          refine pa_iload_n hE dX7_taken_41 rfl 3 rfl ?_
          refine pa_iconst hE dX7_taken_42 (v := 1) (by decide) ?_
          refine pa_icmp_ne hE dX7_taken_43 (tgt := 51) (by decide) (fun h9 => ?_) (fun h9 => ?_)
          · have hw := Eq.mp (if_neg h9) hw
            exact pa_sub [3, 0] rfl (tb_X7_taken_51 hE hr hw)
          · have hw := Eq.mp (if_pos h9) hw
            refine pa_iload_n hE dX7_taken_46 rfl 0 rfl ?_
            refine pa_iconst hE dX7_taken_47 (v := 4) (by decide) ?_
            refine pa_icmp_eq hE dX7_taken_48 (tgt := 72) (by decide) (fun h14 => ?_) (fun h14 => ?_)
            · have hw := Eq.mp (if_pos h14) hw
              refine pa_iload_n hE dX7_taken_72 rfl 0 rfl ?_
              refine pa_goto hE dX7_taken_73 (tgt := 78) (by decide) ?_
              exact pa_iret hE hr ⟨rfl, hw⟩ rfl dX7_taken_78
            · have hw := Eq.mp (if_neg h14) hw
              exact pa_sub [3, 0] rfl (tb_X7_taken_51 hE hr hw)
    · have hw := Eq.mp (if_pos h4) hw
      refine pa_bipush hE dX7_taken_22 (v := (-11 : Int32)) (by decide) ?_
      exact pa_iret hE hr ⟨rfl, hw⟩ rfl dX7_taken_24
  · have hw := Eq.mp (if_pos h2) hw
    refine pa_bipush hE dX7_taken_11 (v := (-2 : Int32)) (by decide) ?_
    exact pa_iret hE hr ⟨rfl, hw⟩ rfl dX7_taken_13
def wp_X7_taken (u0 : pa_S) (x1 : Int32) (x2 : Int32) (post : Int32 → Prop) : Prop := wb_X7_taken_0 u0 x1 x2 post
theorem ct_X7_taken (l : Launch) (g : pa_G) (D : va_G) (q : Nat → Nat → Nat) (u0 : pa_S) (x1 : Int32) (x2 : Int32) (post : Int32 → Prop)  (hw : wp_X7_taken u0 x1 x2 post) : pa_Ct l yX7_taken cX7_taken 4 (some .int) 4 g D q u0 [.ref (q 24 0), .int x1, .int x2] (fun r => some (.int r)) (fun r u => u = u0 ∧ post r) := pa_met rfl rfl (Nat.le_of_ble_eq_true rfl) rfl (fun p e s m args below meth c A hE hr => tb_X7_taken_0 hE hr  hw)
def wb_X7_count_0 (u0 : pa_S) (x1 : Int32) (post : Int32 → Prop) : Prop :=
  (if x1 = 0 then post (pa_I u0 24 0 0) else (if x1 = 1 then post (pa_I u0 24 0 8) else (if x1 = 2 then post (pa_I u0 24 0 36) else (if x1 = 3 then post (pa_I u0 24 0 40) else (if x1 = 4 then post (pa_I u0 24 0 30) else (if x1 = 5 then post (pa_I u0 24 0 10) else (if x1 = 6 then post (pa_I u0 24 0 63) else post (-2 : Int32))))))))
set_option maxRecDepth 100000 in
set_option maxHeartbeats 4000000 in
theorem tb_X7_count_0 {p : Program} {l : Launch} {e : Env} {s : State} {m : MethodId} {args : Array Value} {below : List Frame} {meth : Method} {c : Code} {A : Nat → Prop} {D : va_G} {g : pa_G} {q : Nat → Nat → Nat} {u0 : pa_S} {x1 : Int32} {post : Int32 → Prop} (hE : pa_Fx p s m args meth c A D g 2 cX7_count RX7) (hr : meth.sig.returnType = (some .int)) (hw : wb_X7_count_0 u0 x1 post) : pa_At p l e (pa_rm 2) s m args below meth c (MQ below (pa_Qc g D q (fun r => some (.int r)) (fun r u => u = u0 ∧ post r) A) args s 0 0 A) A D g 2 0 0 q u0 0 [(0, .ref (q 24 0)), (1, .int x1)] [] := by
  refine pa_iload_n hE dX7_count_0 rfl 1 rfl ?_
  by_cases h1 : x1 = 0
  · have hw := Eq.mp (if_pos h1) hw
    refine pa_tswIn hE dX7_count_1 (z := 0) h1 (by decide) (by decide) rfl (tgt := 44) (by decide) ?_
    refine pa_aload_n hE dX7_count_44 rfl 0 rfl ?_
    refine pg_24_0 hE (pa_m4 121 rfl rfl) dX7_count_45 ?_
    exact pa_iret hE hr ⟨rfl, hw⟩ rfl dX7_count_48
  · have hw := Eq.mp (if_neg h1) hw
    by_cases h2 : x1 = 1
    · have hw := Eq.mp (if_pos h2) hw
      refine pa_tswIn hE dX7_count_1 (z := 1) h2 (by decide) (by decide) rfl (tgt := 49) (by decide) ?_
      refine pa_aload_n hE dX7_count_49 rfl 0 rfl ?_
      refine pg_24_8 hE (pa_m4 129 rfl rfl) dX7_count_50 ?_
      exact pa_iret hE hr ⟨rfl, hw⟩ rfl dX7_count_53
    · have hw := Eq.mp (if_neg h2) hw
      by_cases h3 : x1 = 2
      · have hw := Eq.mp (if_pos h3) hw
        refine pa_tswIn hE dX7_count_1 (z := 2) h3 (by decide) (by decide) rfl (tgt := 54) (by decide) ?_
        refine pa_aload_n hE dX7_count_54 rfl 0 rfl ?_
        refine pg_24_36 hE (pa_m4 157 rfl rfl) dX7_count_55 ?_
        exact pa_iret hE hr ⟨rfl, hw⟩ rfl dX7_count_58
      · have hw := Eq.mp (if_neg h3) hw
        by_cases h4 : x1 = 3
        · have hw := Eq.mp (if_pos h4) hw
          refine pa_tswIn hE dX7_count_1 (z := 3) h4 (by decide) (by decide) rfl (tgt := 59) (by decide) ?_
          refine pa_aload_n hE dX7_count_59 rfl 0 rfl ?_
          refine pg_24_40 hE (pa_m4 161 rfl rfl) dX7_count_60 ?_
          exact pa_iret hE hr ⟨rfl, hw⟩ rfl dX7_count_63
        · have hw := Eq.mp (if_neg h4) hw
          by_cases h5 : x1 = 4
          · have hw := Eq.mp (if_pos h5) hw
            refine pa_tswIn hE dX7_count_1 (z := 4) h5 (by decide) (by decide) rfl (tgt := 64) (by decide) ?_
            refine pa_aload_n hE dX7_count_64 rfl 0 rfl ?_
            refine pg_24_30 hE (pa_m4 151 rfl rfl) dX7_count_65 ?_
            exact pa_iret hE hr ⟨rfl, hw⟩ rfl dX7_count_68
          · have hw := Eq.mp (if_neg h5) hw
            by_cases h6 : x1 = 5
            · have hw := Eq.mp (if_pos h6) hw
              refine pa_tswIn hE dX7_count_1 (z := 5) h6 (by decide) (by decide) rfl (tgt := 69) (by decide) ?_
              refine pa_aload_n hE dX7_count_69 rfl 0 rfl ?_
              refine pg_24_10 hE (pa_m4 131 rfl rfl) dX7_count_70 ?_
              exact pa_iret hE hr ⟨rfl, hw⟩ rfl dX7_count_73
            · have hw := Eq.mp (if_neg h6) hw
              by_cases h7 : x1 = 6
              · have hw := Eq.mp (if_pos h7) hw
                refine pa_tswIn hE dX7_count_1 (z := 6) h7 (by decide) (by decide) rfl (tgt := 74) (by decide) ?_
                refine pa_aload_n hE dX7_count_74 rfl 0 rfl ?_
                refine pg_24_63 hE (pa_m4 184 rfl rfl) dX7_count_75 ?_
                exact pa_iret hE hr ⟨rfl, hw⟩ rfl dX7_count_78
              · have hw := Eq.mp (if_neg h7) hw
                refine pa_tswOut hE dX7_count_1 (by have eh1 := pa_neL h1 (by decide : (0 : Int32).toInt = 0); have eh2 := pa_neL h2 (by decide : (1 : Int32).toInt = 1); have eh3 := pa_neL h3 (by decide : (2 : Int32).toInt = 2); have eh4 := pa_neL h4 (by decide : (3 : Int32).toInt = 3); have eh5 := pa_neL h5 (by decide : (4 : Int32).toInt = 4); have eh6 := pa_neL h6 (by decide : (5 : Int32).toInt = 5); have eh7 := pa_neL h7 (by decide : (6 : Int32).toInt = 6); omega) (tgt := 79) (by decide) ?_
                refine pa_bipush hE dX7_count_79 (v := (-2 : Int32)) (by decide) ?_
                exact pa_iret hE hr ⟨rfl, hw⟩ rfl dX7_count_81
def wp_X7_count (u0 : pa_S) (x1 : Int32) (post : Int32 → Prop) : Prop := wb_X7_count_0 u0 x1 post
theorem ct_X7_count (l : Launch) (g : pa_G) (D : va_G) (q : Nat → Nat → Nat) (u0 : pa_S) (x1 : Int32) (post : Int32 → Prop)  (hw : wp_X7_count u0 x1 post) : pa_Ct l yX7_count cX7_count 2 (some .int) 2 g D q u0 [.ref (q 24 0), .int x1] (fun r => some (.int r)) (fun r u => u = u0 ∧ post r) := pa_met rfl rfl (Nat.le_of_ble_eq_true rfl) rfl (fun p e s m args below meth c A hE hr => tb_X7_count_0 hE hr  hw)
def wb_X7_tape_69 (k69 : pa_S → Int32 → Int32 → Prop) (u0 : pa_S) (x1 : Int32) (x4 : Int32) (post : Int32 → pa_S → Prop) : Prop :=
  (if 60 ≤ x4 then post 1 u0 else (vp_in ((60 * x1) + x4) 360) ∧ ∀ u14 : pa_S, u14 = pa_sL u0 66 0 (vp_updL (pa_L u0 66 0) ((60 * x1) + x4).toNatClampNeg 0) → ∀ v15 : Int32, v15 = x4 + 1 → k69 u14 x1 v15)
set_option maxRecDepth 100000 in
set_option maxHeartbeats 4000000 in
theorem tb_X7_tape_69 {p : Program} {l : Launch} {e : Env} {s : State} {m : MethodId} {args : Array Value} {below : List Frame} {meth : Method} {c : Code} {A : Nat → Prop} {D : va_G} {g : pa_G} {q : Nat → Nat → Nat} {k69 : pa_S → Int32 → Int32 → Prop} {u0 : pa_S} {x1 : Int32} {x4 : Int32} {post : Int32 → pa_S → Prop} (hE : pa_Fx p s m args meth c A D g 5 cX7_tape RX7) (hr : meth.sig.returnType = (some .int)) (hk69 : ∀ (u : pa_S)  (x1 : Int32) (x4 : Int32), k69 u x1 x4 → pa_At p l e (pa_rm 4) s m args below meth c (MQ below (pa_Qc g D q (fun r => some (.int r)) post A) args s 0 0 A) A D g 5 0 0 q u 69 [(0, .ref (q 24 0)), (1, .int x1), (4, .int x4)] []) (hw : wb_X7_tape_69 k69 u0 x1 x4 post) : pa_At p l e (pa_rm 4) s m args below meth c (MQ below (pa_Qc g D q (fun r => some (.int r)) post A) args s 0 0 A) A D g 5 0 0 q u0 69 [(0, .ref (q 24 0)), (1, .int x1), (4, .int x4)] [] := by
  refine pa_iload hE dX7_tape_69 2 rfl ?_
  refine pa_bipush hE dX7_tape_71 (v := 60) (by decide) ?_
  refine pa_icmp_ge hE dX7_tape_73 (tgt := 95) (by decide) (fun h12 => ?_) (fun h12 => ?_)
  · have hw := Eq.mp (if_pos h12) hw
    refine pa_iconst hE dX7_tape_95 (v := 1) (by decide) ?_
    exact pa_iret hE hr hw rfl dX7_tape_96
  · have hw := Eq.mp (if_neg h12) hw
    refine pa_aload_n hE dX7_tape_76 rfl 0 rfl ?_
    refine pg_24_67 hE (pa_m4 188 rfl rfl) dX7_tape_77 ?_
    refine pa_bipush hE dX7_tape_80 (v := 60) (by decide) ?_
    refine pa_iload_n hE dX7_tape_82 rfl 1 rfl ?_
    refine pa_imul hE dX7_tape_83 ?_
    refine pa_iload hE dX7_tape_84 2 rfl ?_
    refine pa_iadd hE dX7_tape_86 ?_
    refine pa_lconst hE dX7_tape_87 (v := 0) (by decide) ?_
    obtain ⟨h13, hw⟩ := hw
    refine ps_66 hE h13 dX7_tape_88 (fun u14 eu14 => ?_)
    have hw := hw u14 eu14
    refine pa_iinc hE dX7_tape_89 (v := 1) 2 rfl (by decide) (by decide) (lvr := [(0, .ref (q 24 0)), (1, .int x1)]) rfl (fun v15 ev15 => ?_)
    have hw := hw v15 ev15
    refine pa_goto hE dX7_tape_92 (tgt := 69) (by decide) ?_
    exact pa_sub [1, 2, 0] rfl (hk69 u14 x1 v15 hw)
def wl_X7_tape_69 (post : Int32 → pa_S → Prop) : Nat → pa_S → Int32 → Int32 → Prop
  | 0, _, _, _ => False
  | n + 1, u0, x1, x4 => wb_X7_tape_69 (fun u0 x1 x4 => wl_X7_tape_69 post n u0 x1 x4) u0 x1 x4 post
set_option maxRecDepth 100000 in
set_option maxHeartbeats 4000000 in
theorem tl_X7_tape_69 {p : Program} {l : Launch} {e : Env} {s : State} {m : MethodId} {args : Array Value} {below : List Frame} {meth : Method} {c : Code} {A : Nat → Prop} {D : va_G} {g : pa_G} {q : Nat → Nat → Nat} {post : Int32 → pa_S → Prop} (hE : pa_Fx p s m args meth c A D g 5 cX7_tape RX7) (hr : meth.sig.returnType = (some .int)) : ∀ (n : Nat) (u0 : pa_S) (x1 : Int32) (x4 : Int32), wl_X7_tape_69 post n u0 x1 x4 → pa_At p l e (pa_rm 4) s m args below meth c (MQ below (pa_Qc g D q (fun r => some (.int r)) post A) args s 0 0 A) A D g 5 0 0 q u0 69 [(0, .ref (q 24 0)), (1, .int x1), (4, .int x4)] []
  | 0, _, _, _, hw => absurd hw (by simp only [wl_X7_tape_69]; exact fun z => z)
  | n + 1, u0, x1, x4, hw => tb_X7_tape_69 hE hr (fun u0 x1 x4  hw1 => tl_X7_tape_69 hE hr  n u0 x1 x4  hw1) hw
def wb_X7_tape_65 (u0 : pa_S) (x1 : Int32) (y1 : Int32) (y2 : Int32) (post : Int32 → pa_S → Prop) : Prop :=
  (vp_in y1 6) ∧ ∀ u11 : pa_S, u11 = pa_sA u0 65 0 (upd (pa_A u0 65 0) y1.toNatClampNeg y2) → wl_X7_tape_69 post 5000 u11 x1 0
set_option maxRecDepth 100000 in
set_option maxHeartbeats 4000000 in
theorem tb_X7_tape_65 {p : Program} {l : Launch} {e : Env} {s : State} {m : MethodId} {args : Array Value} {below : List Frame} {meth : Method} {c : Code} {A : Nat → Prop} {D : va_G} {g : pa_G} {q : Nat → Nat → Nat} {u0 : pa_S} {x1 : Int32} {y1 : Int32} {y2 : Int32} {post : Int32 → pa_S → Prop} (hE : pa_Fx p s m args meth c A D g 5 cX7_tape RX7) (hr : meth.sig.returnType = (some .int)) (hw : wb_X7_tape_65 u0 x1 y1 y2 post) : pa_At p l e (pa_rm 4) s m args below meth c (MQ below (pa_Qc g D q (fun r => some (.int r)) post A) args s 0 0 A) A D g 5 0 0 q u0 65 [(0, .ref (q 24 0)), (1, .int x1)] [.int y2, .int y1, .ref (q 65 0)] := by
  obtain ⟨h10, hw⟩ := hw
  refine ps_65 hE h10 dX7_tape_65 (fun u11 eu11 => ?_)
  have hw := hw u11 eu11
  refine pa_iconst hE dX7_tape_66 (v := 0) (by decide) ?_
  refine pa_istore hE dX7_tape_67 (by decide) (lvr := [(0, .ref (q 24 0)), (1, .int x1)]) rfl ?_
  exact pa_sub [1, 2, 0] rfl (tl_X7_tape_69 hE hr 5000 u11 x1 0 hw)
def wb_X7_tape_44 (u0 : pa_S) (x1 : Int32) (x2 : Int32) (x3 : Int32) (post : Int32 → pa_S → Prop) : Prop :=
  (vp_in x1 6) ∧ ∀ u8 : pa_S, u8 = pa_sA u0 64 0 (upd (pa_A u0 64 0) x1.toNatClampNeg x2) → (if 0 ≤ x2 then wb_X7_tape_65 u8 x1 x1 x3 post else wb_X7_tape_65 u8 x1 x1 0 post)
set_option maxRecDepth 100000 in
set_option maxHeartbeats 4000000 in
theorem tb_X7_tape_44 {p : Program} {l : Launch} {e : Env} {s : State} {m : MethodId} {args : Array Value} {below : List Frame} {meth : Method} {c : Code} {A : Nat → Prop} {D : va_G} {g : pa_G} {q : Nat → Nat → Nat} {u0 : pa_S} {x1 : Int32} {x2 : Int32} {x3 : Int32} {post : Int32 → pa_S → Prop} (hE : pa_Fx p s m args meth c A D g 5 cX7_tape RX7) (hr : meth.sig.returnType = (some .int)) (hw : wb_X7_tape_44 u0 x1 x2 x3 post) : pa_At p l e (pa_rm 4) s m args below meth c (MQ below (pa_Qc g D q (fun r => some (.int r)) post A) args s 0 0 A) A D g 5 0 0 q u0 44 [(0, .ref (q 24 0)), (1, .int x1), (2, .int x2), (3, .int x3)] [] := by
  refine pa_aload_n hE dX7_tape_44 rfl 0 rfl ?_
  refine pg_24_65 hE (pa_m4 186 rfl rfl) dX7_tape_45 ?_
  refine pa_iload_n hE dX7_tape_48 rfl 1 rfl ?_
  refine pa_iload_n hE dX7_tape_49 rfl 2 rfl ?_
  obtain ⟨h7, hw⟩ := hw
  refine ps_64 hE h7 dX7_tape_50 (fun u8 eu8 => ?_)
  have hw := hw u8 eu8
  refine pa_aload_n hE dX7_tape_51 rfl 0 rfl ?_
  refine pg_24_66 hE (pa_m4 187 rfl rfl) dX7_tape_52 ?_
  refine pa_iload_n hE dX7_tape_55 rfl 1 rfl ?_
  refine pa_iload_n hE dX7_tape_56 rfl 2 rfl ?_
  refine pa_if_ge hE dX7_tape_57 (tgt := 64) (by decide) (fun h9 => ?_) (fun h9 => ?_)
  · have hw := Eq.mp (if_pos h9) hw
    refine pa_iload_n hE dX7_tape_64 rfl 3 rfl ?_
    exact pa_sub [0, 1] rfl (tb_X7_tape_65 hE hr hw)
  · have hw := Eq.mp (if_neg h9) hw
    refine pa_iconst hE dX7_tape_60 (v := 0) (by decide) ?_
    refine pa_goto hE dX7_tape_61 (tgt := 65) (by decide) ?_
    exact pa_sub [0, 1] rfl (tb_X7_tape_65 hE hr hw)
def wb_X7_tape_33 (u0 : pa_S) (x1 : Int32) (x2 : Int32) (x3 : Int32) (post : Int32 → pa_S → Prop) : Prop :=
  (if x2 < 0 then wb_X7_tape_44 u0 x1 x2 x3 post else (if 0 ≤ x3 then wb_X7_tape_44 u0 x1 x2 x3 post else post (-14 : Int32) u0))
set_option maxRecDepth 100000 in
set_option maxHeartbeats 4000000 in
theorem tb_X7_tape_33 {p : Program} {l : Launch} {e : Env} {s : State} {m : MethodId} {args : Array Value} {below : List Frame} {meth : Method} {c : Code} {A : Nat → Prop} {D : va_G} {g : pa_G} {q : Nat → Nat → Nat} {u0 : pa_S} {x1 : Int32} {x2 : Int32} {x3 : Int32} {post : Int32 → pa_S → Prop} (hE : pa_Fx p s m args meth c A D g 5 cX7_tape RX7) (hr : meth.sig.returnType = (some .int)) (hw : wb_X7_tape_33 u0 x1 x2 x3 post) : pa_At p l e (pa_rm 4) s m args below meth c (MQ below (pa_Qc g D q (fun r => some (.int r)) post A) args s 0 0 A) A D g 5 0 0 q u0 33 [(0, .ref (q 24 0)), (1, .int x1), (2, .int x2), (3, .int x3)] [] := by
  refine pa_iload_n hE dX7_tape_33 rfl 2 rfl ?_
  refine pa_if_lt hE dX7_tape_34 (tgt := 44) (by decide) (fun h6 => ?_) (fun h6 => ?_)
  · have hw := Eq.mp (if_pos h6) hw
    exact pa_sub [0, 1, 2, 3] rfl (tb_X7_tape_44 hE hr hw)
  · have hw := Eq.mp (if_neg h6) hw
    refine pa_iload_n hE dX7_tape_37 rfl 3 rfl ?_
    refine pa_if_ge hE dX7_tape_38 (tgt := 44) (by decide) (fun h16 => ?_) (fun h16 => ?_)
    · have hw := Eq.mp (if_pos h16) hw
      exact pa_sub [0, 1, 2, 3] rfl (tb_X7_tape_44 hE hr hw)
    · have hw := Eq.mp (if_neg h16) hw
      refine pa_bipush hE dX7_tape_41 (v := (-14 : Int32)) (by decide) ?_
      exact pa_iret hE hr hw rfl dX7_tape_43
def wb_X7_tape_0 (u0 : pa_S) (x1 : Int32) (x2 : Int32) (x3 : Int32) (post : Int32 → pa_S → Prop) : Prop :=
  (wp_X7_isTape u0 x1 (fun (r1 : Int32) => (if r1 = 0 then post (-1 : Int32) u0 else (wp_X7_in u0 x2 (-1 : Int32) 4 (fun (r3 : Int32) => (if r3 = 0 then post (-2 : Int32) u0 else (if x2 < 0 then wb_X7_tape_33 u0 x1 x2 x3 post else (if x3 ≤ 60 then wb_X7_tape_33 u0 x1 x2 x3 post else post (-2 : Int32) u0))))))))
set_option maxRecDepth 100000 in
set_option maxHeartbeats 4000000 in
theorem tb_X7_tape_0 {p : Program} {l : Launch} {e : Env} {s : State} {m : MethodId} {args : Array Value} {below : List Frame} {meth : Method} {c : Code} {A : Nat → Prop} {D : va_G} {g : pa_G} {q : Nat → Nat → Nat} {u0 : pa_S} {x1 : Int32} {x2 : Int32} {x3 : Int32} {post : Int32 → pa_S → Prop} (hE : pa_Fx p s m args meth c A D g 5 cX7_tape RX7) (hr : meth.sig.returnType = (some .int)) (hw : wb_X7_tape_0 u0 x1 x2 x3 post) : pa_At p l e (pa_rm 4) s m args below meth c (MQ below (pa_Qc g D q (fun r => some (.int r)) post A) args s 0 0 A) A D g 5 0 0 q u0 0 [(0, .ref (q 24 0)), (1, .int x1), (2, .int x2), (3, .int x3)] [] := by
  refine pa_aload_n hE dX7_tape_0 rfl 0 rfl ?_
  refine pa_iload_n hE dX7_tape_1 rfl 1 rfl ?_
  refine pa_callVri hE (ct_X7_isTape l g D q u0 x1 _ hw) cv_RX7_383 pa_in24 rfl rfl rfl (pa_hR (by omega) (by decide)) rfl (Nat.le_of_ble_eq_true rfl) dX7_tape_2 (fun r1 hw => ?_)
  refine pa_if_ne hE dX7_tape_5 (tgt := 10) (by decide) (fun h2 => ?_) (fun h2 => ?_)
  · have hw := Eq.mp (if_neg h2) hw
    refine pa_aload_n hE dX7_tape_10 rfl 0 rfl ?_
    refine pa_iload_n hE dX7_tape_11 rfl 2 rfl ?_
    refine pa_iconst hE dX7_tape_12 (v := (-1 : Int32)) (by decide) ?_
    refine pa_iconst hE dX7_tape_13 (v := 4) (by decide) ?_
    refine pa_callVri hE (ct_X7_in l g D q u0 x2 (-1 : Int32) 4 _ hw) cv_RX7_221 pa_in24 rfl rfl rfl (pa_hR (by omega) (by decide)) rfl (Nat.le_of_ble_eq_true rfl) dX7_tape_14 (fun r3 hw => ?_)
    refine pa_if_eq hE dX7_tape_17 (tgt := 30) (by decide) (fun h4 => ?_) (fun h4 => ?_)
    · have hw := Eq.mp (if_pos h4) hw
      refine pa_bipush hE dX7_tape_30 (v := (-2 : Int32)) (by decide) ?_
      exact pa_iret hE hr hw rfl dX7_tape_32
    · have hw := Eq.mp (if_neg h4) hw
      refine pa_iload_n hE dX7_tape_20 rfl 2 rfl ?_
      refine pa_if_lt hE dX7_tape_21 (tgt := 33) (by decide) (fun h5 => ?_) (fun h5 => ?_)
      · have hw := Eq.mp (if_pos h5) hw
        exact pa_sub [0, 1, 2, 3] rfl (tb_X7_tape_33 hE hr hw)
      · have hw := Eq.mp (if_neg h5) hw
        refine pa_iload_n hE dX7_tape_24 rfl 3 rfl ?_
        refine pa_bipush hE dX7_tape_25 (v := 60) (by decide) ?_
        refine pa_icmp_le hE dX7_tape_27 (tgt := 33) (by decide) (fun h17 => ?_) (fun h17 => ?_)
        · have hw := Eq.mp (if_pos h17) hw
          exact pa_sub [0, 1, 2, 3] rfl (tb_X7_tape_33 hE hr hw)
        · have hw := Eq.mp (if_neg h17) hw
          refine pa_bipush hE dX7_tape_30 (v := (-2 : Int32)) (by decide) ?_
          exact pa_iret hE hr hw rfl dX7_tape_32
  · have hw := Eq.mp (if_pos h2) hw
    refine pa_iconst hE dX7_tape_8 (v := (-1 : Int32)) (by decide) ?_
    exact pa_iret hE hr hw rfl dX7_tape_9
def wp_X7_tape (u0 : pa_S) (x1 : Int32) (x2 : Int32) (x3 : Int32) (post : Int32 → pa_S → Prop) : Prop := wb_X7_tape_0 u0 x1 x2 x3 post
theorem ct_X7_tape (l : Launch) (g : pa_G) (D : va_G) (q : Nat → Nat → Nat) (u0 : pa_S) (x1 : Int32) (x2 : Int32) (x3 : Int32) (post : Int32 → pa_S → Prop)  (hw : wp_X7_tape u0 x1 x2 x3 post) : pa_Ct l yX7_tape cX7_tape 5 (some .int) 4 g D q u0 [.ref (q 24 0), .int x1, .int x2, .int x3] (fun r => some (.int r)) post := pa_met rfl rfl (Nat.le_of_ble_eq_true rfl) rfl (fun p e s m args below meth c A hE hr => tb_X7_tape_0 hE hr  hw)
def wb_X7_narrow_0 (u0 : pa_S) (x1 : Int32) (x2 : Int64) (post : Int64 → Prop) : Prop :=
  (if x1 = 0 then post (((x2.toInt32).toInt8.toInt32).toInt64) else (if x1 = 1 then post (((x2.toInt32).toInt16.toInt32).toInt64) else (if x1 = 2 then post ((x2.toInt32).toInt64) else (if x1 = 4 then (if (lg_cmp x2 0) = 0 then post 0 else post 1) else post x2))))
set_option maxRecDepth 100000 in
set_option maxHeartbeats 4000000 in
theorem tb_X7_narrow_0 {p : Program} {l : Launch} {e : Env} {s : State} {m : MethodId} {args : Array Value} {below : List Frame} {meth : Method} {c : Code} {A : Nat → Prop} {D : va_G} {g : pa_G} {q : Nat → Nat → Nat} {u0 : pa_S} {x1 : Int32} {x2 : Int64} {post : Int64 → Prop} (hE : pa_Fx p s m args meth c A D g 4 cX7_narrow RX7) (hr : meth.sig.returnType = (some .long)) (hw : wb_X7_narrow_0 u0 x1 x2 post) : pa_At p l e (pa_rm 2) s m args below meth c (MQ below (pa_Qc g D q (fun r => some (.long r)) (fun r u => u = u0 ∧ post r) A) args s 0 0 A) A D g 4 0 0 q u0 0 [(0, .ref (q 24 0)), (1, .int x1), (2, .long x2)] [] := by
  refine pa_iload_n hE dX7_narrow_0 rfl 1 rfl ?_
  refine pa_if_ne hE dX7_narrow_1 (tgt := 11) (by decide) (fun h1 => ?_) (fun h1 => ?_)
  · have hw := Eq.mp (if_neg h1) hw
    refine pa_iload_n hE dX7_narrow_11 rfl 1 rfl ?_
    refine pa_iconst hE dX7_narrow_12 (v := 1) (by decide) ?_
    refine pa_icmp_ne hE dX7_narrow_13 (tgt := 23) (by decide) (fun h2 => ?_) (fun h2 => ?_)
    · have hw := Eq.mp (if_neg h2) hw
      refine pa_iload_n hE dX7_narrow_23 rfl 1 rfl ?_
      refine pa_iconst hE dX7_narrow_24 (v := 2) (by decide) ?_
      refine pa_icmp_ne hE dX7_narrow_25 (tgt := 34) (by decide) (fun h3 => ?_) (fun h3 => ?_)
      · have hw := Eq.mp (if_neg h3) hw
        refine pa_iload_n hE dX7_narrow_34 rfl 1 rfl ?_
        refine pa_iconst hE dX7_narrow_35 (v := 4) (by decide) ?_
        refine pa_icmp_ne hE dX7_narrow_36 (tgt := 53) (by decide) (fun h4 => ?_) (fun h4 => ?_)
        · have hw := Eq.mp (if_neg h4) hw
          refine pa_lload_n hE dX7_narrow_53 rfl 2 rfl ?_
          exact pa_lret hE hr ⟨rfl, hw⟩ rfl dX7_narrow_54
        · have hw := Eq.mp (if_pos h4) hw
          refine pa_lload_n hE dX7_narrow_39 rfl 2 rfl ?_
          refine pa_lconst hE dX7_narrow_40 (v := 0) (by decide) ?_
          refine pa_lcmp hE dX7_narrow_41 ?_
          refine pa_if_eq hE dX7_narrow_42 (tgt := 49) (by decide) (fun h5 => ?_) (fun h5 => ?_)
          · have hw := Eq.mp (if_pos h5) hw
            refine pa_lconst hE dX7_narrow_49 (v := 0) (by decide) ?_
            refine pa_goto hE dX7_narrow_50 (tgt := 54) (by decide) ?_
            exact pa_lret hE hr ⟨rfl, hw⟩ rfl dX7_narrow_54
          · have hw := Eq.mp (if_neg h5) hw
            refine pa_lconst hE dX7_narrow_45 (v := 1) (by decide) ?_
            refine pa_goto hE dX7_narrow_46 (tgt := 54) (by decide) ?_
            exact pa_lret hE hr ⟨rfl, hw⟩ rfl dX7_narrow_54
      · have hw := Eq.mp (if_pos h3) hw
        refine pa_lload_n hE dX7_narrow_28 rfl 2 rfl ?_
        refine pa_l2i hE dX7_narrow_29 ?_
        refine pa_i2l hE dX7_narrow_30 ?_
        refine pa_goto hE dX7_narrow_31 (tgt := 54) (by decide) ?_
        exact pa_lret hE hr ⟨rfl, hw⟩ rfl dX7_narrow_54
    · have hw := Eq.mp (if_pos h2) hw
      refine pa_lload_n hE dX7_narrow_16 rfl 2 rfl ?_
      refine pa_l2i hE dX7_narrow_17 ?_
      refine pa_i2s hE dX7_narrow_18 ?_
      refine pa_i2l hE dX7_narrow_19 ?_
      refine pa_goto hE dX7_narrow_20 (tgt := 54) (by decide) ?_
      exact pa_lret hE hr ⟨rfl, hw⟩ rfl dX7_narrow_54
  · have hw := Eq.mp (if_pos h1) hw
    refine pa_lload_n hE dX7_narrow_4 rfl 2 rfl ?_
    refine pa_l2i hE dX7_narrow_5 ?_
    refine pa_i2b hE dX7_narrow_6 ?_
    refine pa_i2l hE dX7_narrow_7 ?_
    refine pa_goto hE dX7_narrow_8 (tgt := 54) (by decide) ?_
    exact pa_lret hE hr ⟨rfl, hw⟩ rfl dX7_narrow_54
def wp_X7_narrow (u0 : pa_S) (x1 : Int32) (x2 : Int64) (post : Int64 → Prop) : Prop := wb_X7_narrow_0 u0 x1 x2 post
theorem ct_X7_narrow (l : Launch) (g : pa_G) (D : va_G) (q : Nat → Nat → Nat) (u0 : pa_S) (x1 : Int32) (x2 : Int64) (post : Int64 → Prop)  (hw : wp_X7_narrow u0 x1 x2 post) : pa_Ct l yX7_narrow cX7_narrow 4 (some .long) 2 g D q u0 [.ref (q 24 0), .int x1, .long x2] (fun r => some (.long r)) (fun r u => u = u0 ∧ post r) := pa_met rfl rfl (Nat.le_of_ble_eq_true rfl) rfl (fun p e s m args below meth c A hE hr => tb_X7_narrow_0 hE hr  hw)
def wb_X7_item_0 (u0 : pa_S) (x1 : Int32) (x2 : Int32) (x3 : Int64) (post : Int32 → pa_S → Prop) : Prop :=
  (wp_X7_isTape u0 x1 (fun (r1 : Int32) => (if r1 = 0 then post (-1 : Int32) u0 else (vp_in x1 6) ∧ (if 0 ≤ (pa_A u0 64 0 x1.toNatClampNeg) then (vp_in x1 6) ∧ (wp_X7_in u0 x2 0 ((pa_A u0 65 0 x1.toNatClampNeg) - 1) (fun (r6 : Int32) => (if r6 = 0 then post (-13 : Int32) u0 else (vp_in x1 6) ∧ (wp_X7_narrow u0 (pa_A u0 64 0 x1.toNatClampNeg) x3 (fun (r9 : Int64) => (vp_in ((60 * x1) + x2) 360) ∧ ∀ u11 : pa_S, u11 = pa_sL u0 66 0 (vp_updL (pa_L u0 66 0) ((60 * x1) + x2).toNatClampNeg r9) → post 1 u11))))) else post (-11 : Int32) u0))))
set_option maxRecDepth 100000 in
set_option maxHeartbeats 4000000 in
theorem tb_X7_item_0 {p : Program} {l : Launch} {e : Env} {s : State} {m : MethodId} {args : Array Value} {below : List Frame} {meth : Method} {c : Code} {A : Nat → Prop} {D : va_G} {g : pa_G} {q : Nat → Nat → Nat} {u0 : pa_S} {x1 : Int32} {x2 : Int32} {x3 : Int64} {post : Int32 → pa_S → Prop} (hE : pa_Fx p s m args meth c A D g 5 cX7_item RX7) (hr : meth.sig.returnType = (some .int)) (hw : wb_X7_item_0 u0 x1 x2 x3 post) : pa_At p l e (pa_rm 4) s m args below meth c (MQ below (pa_Qc g D q (fun r => some (.int r)) post A) args s 0 0 A) A D g 5 0 0 q u0 0 [(0, .ref (q 24 0)), (1, .int x1), (2, .int x2), (3, .long x3)] [] := by
  refine pa_aload_n hE dX7_item_0 rfl 0 rfl ?_
  refine pa_iload_n hE dX7_item_1 rfl 1 rfl ?_
  refine pa_callVri hE (ct_X7_isTape l g D q u0 x1 _ hw) cv_RX7_383 pa_in24 rfl rfl rfl (pa_hR (by omega) (by decide)) rfl (Nat.le_of_ble_eq_true rfl) dX7_item_2 (fun r1 hw => ?_)
  refine pa_if_ne hE dX7_item_5 (tgt := 10) (by decide) (fun h2 => ?_) (fun h2 => ?_)
  · have hw := Eq.mp (if_neg h2) hw
    refine pa_aload_n hE dX7_item_10 rfl 0 rfl ?_
    refine pg_24_65 hE (pa_m4 186 rfl rfl) dX7_item_11 ?_
    refine pa_iload_n hE dX7_item_14 rfl 1 rfl ?_
    obtain ⟨h3, hw⟩ := hw
    refine pl_64 hE h3 dX7_item_15 ?_
    refine pa_if_ge hE dX7_item_16 (tgt := 22) (by decide) (fun h4 => ?_) (fun h4 => ?_)
    · have hw := Eq.mp (if_pos h4) hw
      refine pa_aload_n hE dX7_item_22 rfl 0 rfl ?_
      refine pa_iload_n hE dX7_item_23 rfl 2 rfl ?_
      refine pa_iconst hE dX7_item_24 (v := 0) (by decide) ?_
      refine pa_aload_n hE dX7_item_25 rfl 0 rfl ?_
      refine pg_24_66 hE (pa_m4 187 rfl rfl) dX7_item_26 ?_
      refine pa_iload_n hE dX7_item_29 rfl 1 rfl ?_
      obtain ⟨h5, hw⟩ := hw
      refine pl_65 hE h5 dX7_item_30 ?_
      refine pa_iconst hE dX7_item_31 (v := 1) (by decide) ?_
      refine pa_isub hE dX7_item_32 ?_
      refine pa_callVri hE (ct_X7_in l g D q u0 x2 0 ((pa_A u0 65 0 x1.toNatClampNeg) - 1) _ hw) cv_RX7_221 pa_in24 rfl rfl rfl (pa_hR (by omega) (by decide)) rfl (Nat.le_of_ble_eq_true rfl) dX7_item_33 (fun r6 hw => ?_)
      refine pa_if_ne hE dX7_item_36 (tgt := 42) (by decide) (fun h7 => ?_) (fun h7 => ?_)
      · have hw := Eq.mp (if_neg h7) hw
        refine pa_aload_n hE dX7_item_42 rfl 0 rfl ?_
        refine pg_24_67 hE (pa_m4 188 rfl rfl) dX7_item_43 ?_
        refine pa_bipush hE dX7_item_46 (v := 60) (by decide) ?_
        refine pa_iload_n hE dX7_item_48 rfl 1 rfl ?_
        refine pa_imul hE dX7_item_49 ?_
        refine pa_iload_n hE dX7_item_50 rfl 2 rfl ?_
        refine pa_iadd hE dX7_item_51 ?_
        refine pa_aload_n hE dX7_item_52 rfl 0 rfl ?_
        refine pa_aload_n hE dX7_item_53 rfl 0 rfl ?_
        refine pg_24_65 hE (pa_m4 186 rfl rfl) dX7_item_54 ?_
        refine pa_iload_n hE dX7_item_57 rfl 1 rfl ?_
        obtain ⟨h8, hw⟩ := hw
        refine pl_64 hE h8 dX7_item_58 ?_
        refine pa_lload_n hE dX7_item_59 rfl 3 rfl ?_
        refine pa_callVrl hE (ct_X7_narrow l g D q u0 (pa_A u0 64 0 x1.toNatClampNeg) x3 _ hw) cv_RX7_410 pa_in24 rfl rfl rfl (pa_hR (by omega) (by decide)) rfl (Nat.le_of_ble_eq_true rfl) dX7_item_60 (fun r9 hw => ?_)
        obtain ⟨h10, hw⟩ := hw
        refine ps_66 hE h10 dX7_item_63 (fun u11 eu11 => ?_)
        have hw := hw u11 eu11
        refine pa_iconst hE dX7_item_64 (v := 1) (by decide) ?_
        exact pa_iret hE hr hw rfl dX7_item_65
      · have hw := Eq.mp (if_pos h7) hw
        refine pa_bipush hE dX7_item_39 (v := (-13 : Int32)) (by decide) ?_
        exact pa_iret hE hr hw rfl dX7_item_41
    · have hw := Eq.mp (if_neg h4) hw
      refine pa_bipush hE dX7_item_19 (v := (-11 : Int32)) (by decide) ?_
      exact pa_iret hE hr hw rfl dX7_item_21
  · have hw := Eq.mp (if_pos h2) hw
    refine pa_iconst hE dX7_item_8 (v := (-1 : Int32)) (by decide) ?_
    exact pa_iret hE hr hw rfl dX7_item_9
def wp_X7_item (u0 : pa_S) (x1 : Int32) (x2 : Int32) (x3 : Int64) (post : Int32 → pa_S → Prop) : Prop := wb_X7_item_0 u0 x1 x2 x3 post
theorem ct_X7_item (l : Launch) (g : pa_G) (D : va_G) (q : Nat → Nat → Nat) (u0 : pa_S) (x1 : Int32) (x2 : Int32) (x3 : Int64) (post : Int32 → pa_S → Prop)  (hw : wp_X7_item u0 x1 x2 x3 post) : pa_Ct l yX7_item cX7_item 5 (some .int) 4 g D q u0 [.ref (q 24 0), .int x1, .int x2, .long x3] (fun r => some (.int r)) post := pa_met rfl rfl (Nat.le_of_ble_eq_true rfl) rfl (fun p e s m args below meth c A hE hr => tb_X7_item_0 hE hr  hw)
def wb_X7_read_0 (u0 : pa_S) (x1 : Int32) (x2 : Int32) (post : Int64 → Prop) : Prop :=
  (wp_X7_isTape u0 x1 (fun (r1 : Int32) => (if r1 = 0 then post (-9223372036854775808 : Int64) else (vp_in x1 6) ∧ (if (pa_A u0 64 0 x1.toNatClampNeg) < 0 then post (-9223372036854775808 : Int64) else (vp_in x1 6) ∧ (wp_X7_in u0 x2 0 ((pa_A u0 65 0 x1.toNatClampNeg) - 1) (fun (r6 : Int32) => (if r6 = 0 then post (-9223372036854775808 : Int64) else (vp_in ((60 * x1) + x2) 360) ∧ post (pa_L u0 66 0 ((60 * x1) + x2).toNatClampNeg))))))))
set_option maxRecDepth 100000 in
set_option maxHeartbeats 4000000 in
theorem tb_X7_read_0 {p : Program} {l : Launch} {e : Env} {s : State} {m : MethodId} {args : Array Value} {below : List Frame} {meth : Method} {c : Code} {A : Nat → Prop} {D : va_G} {g : pa_G} {q : Nat → Nat → Nat} {u0 : pa_S} {x1 : Int32} {x2 : Int32} {post : Int64 → Prop} (hE : pa_Fx p s m args meth c A D g 3 cX7_read RX7) (hr : meth.sig.returnType = (some .long)) (hw : wb_X7_read_0 u0 x1 x2 post) : pa_At p l e (pa_rm 4) s m args below meth c (MQ below (pa_Qc g D q (fun r => some (.long r)) (fun r u => u = u0 ∧ post r) A) args s 0 0 A) A D g 3 0 0 q u0 0 [(0, .ref (q 24 0)), (1, .int x1), (2, .int x2)] [] := by
  refine pa_aload_n hE dX7_read_0 rfl 0 rfl ?_
  refine pa_iload_n hE dX7_read_1 rfl 1 rfl ?_
  refine pa_callVri hE (ct_X7_isTape l g D q u0 x1 _ hw) cv_RX7_383 pa_in24 rfl rfl rfl (pa_hR (by omega) (by decide)) rfl (Nat.le_of_ble_eq_true rfl) dX7_read_2 (fun r1 hw => ?_)
  refine pa_if_eq hE dX7_read_5 (tgt := 34) (by decide) (fun h2 => ?_) (fun h2 => ?_)
  · have hw := Eq.mp (if_pos h2) hw
    refine pa_ldc2 hE dX7_read_34 (v := (-9223372036854775808 : Int64)) (pa_m6 127 rfl rfl) ?_
    refine pa_goto hE dX7_read_37 (tgt := 51) (by decide) ?_
    exact pa_lret hE hr ⟨rfl, hw⟩ rfl dX7_read_51
  · have hw := Eq.mp (if_neg h2) hw
    refine pa_aload_n hE dX7_read_8 rfl 0 rfl ?_
    refine pg_24_65 hE (pa_m4 186 rfl rfl) dX7_read_9 ?_
    refine pa_iload_n hE dX7_read_12 rfl 1 rfl ?_
    obtain ⟨h3, hw⟩ := hw
    refine pl_64 hE h3 dX7_read_13 ?_
    refine pa_if_lt hE dX7_read_14 (tgt := 34) (by decide) (fun h4 => ?_) (fun h4 => ?_)
    · have hw := Eq.mp (if_pos h4) hw
      refine pa_ldc2 hE dX7_read_34 (v := (-9223372036854775808 : Int64)) (pa_m6 127 rfl rfl) ?_
      refine pa_goto hE dX7_read_37 (tgt := 51) (by decide) ?_
      exact pa_lret hE hr ⟨rfl, hw⟩ rfl dX7_read_51
    · have hw := Eq.mp (if_neg h4) hw
      refine pa_aload_n hE dX7_read_17 rfl 0 rfl ?_
      refine pa_iload_n hE dX7_read_18 rfl 2 rfl ?_
      refine pa_iconst hE dX7_read_19 (v := 0) (by decide) ?_
      refine pa_aload_n hE dX7_read_20 rfl 0 rfl ?_
      refine pg_24_66 hE (pa_m4 187 rfl rfl) dX7_read_21 ?_
      refine pa_iload_n hE dX7_read_24 rfl 1 rfl ?_
      obtain ⟨h5, hw⟩ := hw
      refine pl_65 hE h5 dX7_read_25 ?_
      refine pa_iconst hE dX7_read_26 (v := 1) (by decide) ?_
      refine pa_isub hE dX7_read_27 ?_
      refine pa_callVri hE (ct_X7_in l g D q u0 x2 0 ((pa_A u0 65 0 x1.toNatClampNeg) - 1) _ hw) cv_RX7_221 pa_in24 rfl rfl rfl (pa_hR (by omega) (by decide)) rfl (Nat.le_of_ble_eq_true rfl) dX7_read_28 (fun r6 hw => ?_)
      refine pa_if_ne hE dX7_read_31 (tgt := 40) (by decide) (fun h7 => ?_) (fun h7 => ?_)
      · have hw := Eq.mp (if_neg h7) hw
        refine pa_aload_n hE dX7_read_40 rfl 0 rfl ?_
        refine pg_24_67 hE (pa_m4 188 rfl rfl) dX7_read_41 ?_
        refine pa_bipush hE dX7_read_44 (v := 60) (by decide) ?_
        refine pa_iload_n hE dX7_read_46 rfl 1 rfl ?_
        refine pa_imul hE dX7_read_47 ?_
        refine pa_iload_n hE dX7_read_48 rfl 2 rfl ?_
        refine pa_iadd hE dX7_read_49 ?_
        obtain ⟨h8, hw⟩ := hw
        refine pl_66 hE h8 dX7_read_50 ?_
        exact pa_lret hE hr ⟨rfl, hw⟩ rfl dX7_read_51
      · have hw := Eq.mp (if_pos h7) hw
        refine pa_ldc2 hE dX7_read_34 (v := (-9223372036854775808 : Int64)) (pa_m6 127 rfl rfl) ?_
        refine pa_goto hE dX7_read_37 (tgt := 51) (by decide) ?_
        exact pa_lret hE hr ⟨rfl, hw⟩ rfl dX7_read_51
def wp_X7_read (u0 : pa_S) (x1 : Int32) (x2 : Int32) (post : Int64 → Prop) : Prop := wb_X7_read_0 u0 x1 x2 post
theorem ct_X7_read (l : Launch) (g : pa_G) (D : va_G) (q : Nat → Nat → Nat) (u0 : pa_S) (x1 : Int32) (x2 : Int32) (post : Int64 → Prop)  (hw : wp_X7_read u0 x1 x2 post) : pa_Ct l yX7_read cX7_read 3 (some .long) 4 g D q u0 [.ref (q 24 0), .int x1, .int x2] (fun r => some (.long r)) (fun r u => u = u0 ∧ post r) := pa_met rfl rfl (Nat.le_of_ble_eq_true rfl) rfl (fun p e s m args below meth c A hE hr => tb_X7_read_0 hE hr  hw)
def wb_X7_shift_141 (k141 : pa_S → Int32 → Int32 → Int32 → Int32 → Prop) (u0 : pa_S) (x3 : Int32) (x4 : Int32) (x5 : Int32) (x6 : Int32) (post : Int32 → pa_S → Prop) : Prop :=
  (if x5 ≤ x6 then post x5 u0 else (vp_in x6 60) ∧ (vp_in (((60 * x3) + x4) + x6) 360) ∧ ∀ u23 : pa_S, u23 = pa_sL u0 66 0 (vp_updL (pa_L u0 66 0) (((60 * x3) + x4) + x6).toNatClampNeg (pa_L u0 67 0 x6.toNatClampNeg)) → ∀ v24 : Int32, v24 = x6 + 1 → k141 u23 x3 x4 x5 v24)
set_option maxRecDepth 100000 in
set_option maxHeartbeats 4000000 in
theorem tb_X7_shift_141 {p : Program} {l : Launch} {e : Env} {s : State} {m : MethodId} {args : Array Value} {below : List Frame} {meth : Method} {c : Code} {A : Nat → Prop} {D : va_G} {g : pa_G} {q : Nat → Nat → Nat} {k141 : pa_S → Int32 → Int32 → Int32 → Int32 → Prop} {u0 : pa_S} {x3 : Int32} {x4 : Int32} {x5 : Int32} {x6 : Int32} {post : Int32 → pa_S → Prop} (hE : pa_Fx p s m args meth c A D g 7 cX7_shift RX7) (hr : meth.sig.returnType = (some .int)) (hk141 : ∀ (u : pa_S)  (x3 : Int32) (x4 : Int32) (x5 : Int32) (x6 : Int32), k141 u x3 x4 x5 x6 → pa_At p l e (pa_rm 4) s m args below meth c (MQ below (pa_Qc g D q (fun r => some (.int r)) post A) args s 0 0 A) A D g 7 0 0 q u 141 [(0, .ref (q 24 0)), (3, .int x3), (4, .int x4), (5, .int x5), (6, .int x6)] []) (hw : wb_X7_shift_141 k141 u0 x3 x4 x5 x6 post) : pa_At p l e (pa_rm 4) s m args below meth c (MQ below (pa_Qc g D q (fun r => some (.int r)) post A) args s 0 0 A) A D g 7 0 0 q u0 141 [(0, .ref (q 24 0)), (3, .int x3), (4, .int x4), (5, .int x5), (6, .int x6)] [] := by
  refine pa_iload hE dX7_shift_141 4 rfl ?_
  refine pa_iload hE dX7_shift_143 3 rfl ?_
  refine pa_icmp_ge hE dX7_shift_145 (tgt := 176) (by decide) (fun h20 => ?_) (fun h20 => ?_)
  · have hw := Eq.mp (if_pos h20) hw
    refine pa_iload hE dX7_shift_176 3 rfl ?_
    exact pa_iret hE hr hw rfl dX7_shift_178
  · have hw := Eq.mp (if_neg h20) hw
    refine pa_aload_n hE dX7_shift_148 rfl 0 rfl ?_
    refine pg_24_67 hE (pa_m4 188 rfl rfl) dX7_shift_149 ?_
    refine pa_bipush hE dX7_shift_152 (v := 60) (by decide) ?_
    refine pa_iload_n hE dX7_shift_154 rfl 1 rfl ?_
    refine pa_imul hE dX7_shift_155 ?_
    refine pa_iload hE dX7_shift_156 2 rfl ?_
    refine pa_iadd hE dX7_shift_158 ?_
    refine pa_iload hE dX7_shift_159 4 rfl ?_
    refine pa_iadd hE dX7_shift_161 ?_
    refine pa_aload_n hE dX7_shift_162 rfl 0 rfl ?_
    refine pg_24_68 hE (pa_m4 189 rfl rfl) dX7_shift_163 ?_
    refine pa_iload hE dX7_shift_166 4 rfl ?_
    obtain ⟨h21, hw⟩ := hw
    refine pl_67 hE h21 dX7_shift_168 ?_
    obtain ⟨h22, hw⟩ := hw
    refine ps_66 hE h22 dX7_shift_169 (fun u23 eu23 => ?_)
    have hw := hw u23 eu23
    refine pa_iinc hE dX7_shift_170 (v := 1) 4 rfl (by decide) (by decide) (lvr := [(0, .ref (q 24 0)), (3, .int x3), (4, .int x4), (5, .int x5)]) rfl (fun v24 ev24 => ?_)
    have hw := hw v24 ev24
    refine pa_goto hE dX7_shift_173 (tgt := 141) (by decide) ?_
    exact pa_sub [1, 2, 3, 4, 0] rfl (hk141 u23 x3 x4 x5 v24 hw)
def wl_X7_shift_141 (post : Int32 → pa_S → Prop) : Nat → pa_S → Int32 → Int32 → Int32 → Int32 → Prop
  | 0, _, _, _, _, _ => False
  | n + 1, u0, x3, x4, x5, x6 => wb_X7_shift_141 (fun u0 x3 x4 x5 x6 => wl_X7_shift_141 post n u0 x3 x4 x5 x6) u0 x3 x4 x5 x6 post
set_option maxRecDepth 100000 in
set_option maxHeartbeats 4000000 in
theorem tl_X7_shift_141 {p : Program} {l : Launch} {e : Env} {s : State} {m : MethodId} {args : Array Value} {below : List Frame} {meth : Method} {c : Code} {A : Nat → Prop} {D : va_G} {g : pa_G} {q : Nat → Nat → Nat} {post : Int32 → pa_S → Prop} (hE : pa_Fx p s m args meth c A D g 7 cX7_shift RX7) (hr : meth.sig.returnType = (some .int)) : ∀ (n : Nat) (u0 : pa_S) (x3 : Int32) (x4 : Int32) (x5 : Int32) (x6 : Int32), wl_X7_shift_141 post n u0 x3 x4 x5 x6 → pa_At p l e (pa_rm 4) s m args below meth c (MQ below (pa_Qc g D q (fun r => some (.int r)) post A) args s 0 0 A) A D g 7 0 0 q u0 141 [(0, .ref (q 24 0)), (3, .int x3), (4, .int x4), (5, .int x5), (6, .int x6)] []
  | 0, _, _, _, _, _, hw => absurd hw (by simp only [wl_X7_shift_141]; exact fun z => z)
  | n + 1, u0, x3, x4, x5, x6, hw => tb_X7_shift_141 hE hr (fun u0 x3 x4 x5 x6  hw1 => tl_X7_shift_141 hE hr  n u0 x3 x4 x5 x6  hw1) hw
def wb_X7_shift_104 (k104 : pa_S → Int32 → Int32 → Int32 → Int32 → Int32 → Int32 → Prop) (u0 : pa_S) (x1 : Int32) (x2 : Int32) (x3 : Int32) (x4 : Int32) (x5 : Int32) (x6 : Int32) (post : Int32 → pa_S → Prop) : Prop :=
  (if x5 ≤ x6 then wl_X7_shift_141 post 5000 u0 x3 x4 x5 0 else (vp_in (((60 * x1) + x2) + x6) 360) ∧ (vp_in x6 60) ∧ ∀ u27 : pa_S, u27 = pa_sL u0 67 0 (vp_updL (pa_L u0 67 0) x6.toNatClampNeg (pa_L u0 66 0 (((60 * x1) + x2) + x6).toNatClampNeg)) → ∀ v28 : Int32, v28 = x6 + 1 → k104 u27 x1 x2 x3 x4 x5 v28)
set_option maxRecDepth 100000 in
set_option maxHeartbeats 4000000 in
theorem tb_X7_shift_104 {p : Program} {l : Launch} {e : Env} {s : State} {m : MethodId} {args : Array Value} {below : List Frame} {meth : Method} {c : Code} {A : Nat → Prop} {D : va_G} {g : pa_G} {q : Nat → Nat → Nat} {k104 : pa_S → Int32 → Int32 → Int32 → Int32 → Int32 → Int32 → Prop} {u0 : pa_S} {x1 : Int32} {x2 : Int32} {x3 : Int32} {x4 : Int32} {x5 : Int32} {x6 : Int32} {post : Int32 → pa_S → Prop} (hE : pa_Fx p s m args meth c A D g 7 cX7_shift RX7) (hr : meth.sig.returnType = (some .int)) (hk104 : ∀ (u : pa_S)  (x1 : Int32) (x2 : Int32) (x3 : Int32) (x4 : Int32) (x5 : Int32) (x6 : Int32), k104 u x1 x2 x3 x4 x5 x6 → pa_At p l e (pa_rm 4) s m args below meth c (MQ below (pa_Qc g D q (fun r => some (.int r)) post A) args s 0 0 A) A D g 7 0 0 q u 104 [(0, .ref (q 24 0)), (1, .int x1), (2, .int x2), (3, .int x3), (4, .int x4), (5, .int x5), (6, .int x6)] []) (hw : wb_X7_shift_104 k104 u0 x1 x2 x3 x4 x5 x6 post) : pa_At p l e (pa_rm 4) s m args below meth c (MQ below (pa_Qc g D q (fun r => some (.int r)) post A) args s 0 0 A) A D g 7 0 0 q u0 104 [(0, .ref (q 24 0)), (1, .int x1), (2, .int x2), (3, .int x3), (4, .int x4), (5, .int x5), (6, .int x6)] [] := by
  refine pa_iload hE dX7_shift_104 6 rfl ?_
  refine pa_iload hE dX7_shift_106 5 rfl ?_
  refine pa_icmp_ge hE dX7_shift_108 (tgt := 138) (by decide) (fun h19 => ?_) (fun h19 => ?_)
  · have hw := Eq.mp (if_pos h19) hw
    refine pa_iconst hE dX7_shift_138 (v := 0) (by decide) ?_
    refine pa_istore hE dX7_shift_139 (by decide) (lvr := [(0, .ref (q 24 0)), (1, .int x1), (2, .int x2), (3, .int x3), (4, .int x4), (5, .int x5)]) rfl ?_
    exact pa_sub [1, 4, 5, 6, 0] rfl (tl_X7_shift_141 hE hr 5000 u0 x3 x4 x5 0 hw)
  · have hw := Eq.mp (if_neg h19) hw
    refine pa_aload_n hE dX7_shift_111 rfl 0 rfl ?_
    refine pg_24_68 hE (pa_m4 189 rfl rfl) dX7_shift_112 ?_
    refine pa_iload hE dX7_shift_115 6 rfl ?_
    refine pa_aload_n hE dX7_shift_117 rfl 0 rfl ?_
    refine pg_24_67 hE (pa_m4 188 rfl rfl) dX7_shift_118 ?_
    refine pa_bipush hE dX7_shift_121 (v := 60) (by decide) ?_
    refine pa_iload_n hE dX7_shift_123 rfl 1 rfl ?_
    refine pa_imul hE dX7_shift_124 ?_
    refine pa_iload_n hE dX7_shift_125 rfl 2 rfl ?_
    refine pa_iadd hE dX7_shift_126 ?_
    refine pa_iload hE dX7_shift_127 6 rfl ?_
    refine pa_iadd hE dX7_shift_129 ?_
    obtain ⟨h25, hw⟩ := hw
    refine pl_66 hE h25 dX7_shift_130 ?_
    obtain ⟨h26, hw⟩ := hw
    refine ps_67 hE h26 dX7_shift_131 (fun u27 eu27 => ?_)
    have hw := hw u27 eu27
    refine pa_iinc hE dX7_shift_132 (v := 1) 6 rfl (by decide) (by decide) (lvr := [(0, .ref (q 24 0)), (1, .int x1), (2, .int x2), (3, .int x3), (4, .int x4), (5, .int x5)]) rfl (fun v28 ev28 => ?_)
    have hw := hw v28 ev28
    refine pa_goto hE dX7_shift_135 (tgt := 104) (by decide) ?_
    exact pa_sub [1, 2, 3, 4, 5, 6, 0] rfl (hk104 u27 x1 x2 x3 x4 x5 v28 hw)
def wl_X7_shift_104 (post : Int32 → pa_S → Prop) : Nat → pa_S → Int32 → Int32 → Int32 → Int32 → Int32 → Int32 → Prop
  | 0, _, _, _, _, _, _, _ => False
  | n + 1, u0, x1, x2, x3, x4, x5, x6 => wb_X7_shift_104 (fun u0 x1 x2 x3 x4 x5 x6 => wl_X7_shift_104 post n u0 x1 x2 x3 x4 x5 x6) u0 x1 x2 x3 x4 x5 x6 post
set_option maxRecDepth 100000 in
set_option maxHeartbeats 4000000 in
theorem tl_X7_shift_104 {p : Program} {l : Launch} {e : Env} {s : State} {m : MethodId} {args : Array Value} {below : List Frame} {meth : Method} {c : Code} {A : Nat → Prop} {D : va_G} {g : pa_G} {q : Nat → Nat → Nat} {post : Int32 → pa_S → Prop} (hE : pa_Fx p s m args meth c A D g 7 cX7_shift RX7) (hr : meth.sig.returnType = (some .int)) : ∀ (n : Nat) (u0 : pa_S) (x1 : Int32) (x2 : Int32) (x3 : Int32) (x4 : Int32) (x5 : Int32) (x6 : Int32), wl_X7_shift_104 post n u0 x1 x2 x3 x4 x5 x6 → pa_At p l e (pa_rm 4) s m args below meth c (MQ below (pa_Qc g D q (fun r => some (.int r)) post A) args s 0 0 A) A D g 7 0 0 q u0 104 [(0, .ref (q 24 0)), (1, .int x1), (2, .int x2), (3, .int x3), (4, .int x4), (5, .int x5), (6, .int x6)] []
  | 0, _, _, _, _, _, _, _, hw => absurd hw (by simp only [wl_X7_shift_104]; exact fun z => z)
  | n + 1, u0, x1, x2, x3, x4, x5, x6, hw => tb_X7_shift_104 hE hr (fun u0 x1 x2 x3 x4 x5 x6  hw1 => tl_X7_shift_104 hE hr  n u0 x1 x2 x3 x4 x5 x6  hw1) hw
def wb_X7_shift_0 (u0 : pa_S) (x1 : Int32) (x2 : Int32) (x3 : Int32) (x4 : Int32) (x5 : Int32) (post : Int32 → pa_S → Prop) : Prop :=
  (wp_X7_isTape u0 x1 (fun (r1 : Int32) => (if r1 = 0 then post (-1 : Int32) u0 else (wp_X7_isTape u0 x3 (fun (r3 : Int32) => (if r3 = 0 then post (-1 : Int32) u0 else (vp_in x1 6) ∧ (if (pa_A u0 64 0 x1.toNatClampNeg) < 0 then post (-11 : Int32) u0 else (vp_in x3 6) ∧ (if 0 ≤ (pa_A u0 64 0 x3.toNatClampNeg) then (vp_in x1 6) ∧ (vp_in x3 6) ∧ (if (pa_A u0 64 0 x1.toNatClampNeg) = (pa_A u0 64 0 x3.toNatClampNeg) then (if x5 < 0 then post (-13 : Int32) u0 else (if x2 < 0 then post (-13 : Int32) u0 else (if x4 < 0 then post (-13 : Int32) u0 else (vp_in x1 6) ∧ (if ((pa_A u0 65 0 x1.toNatClampNeg) - x5) < x2 then post (-13 : Int32) u0 else (vp_in x3 6) ∧ (if x4 ≤ ((pa_A u0 65 0 x3.toNatClampNeg) - x5) then wl_X7_shift_104 post 5000 u0 x1 x2 x3 x4 x5 0 else post (-13 : Int32) u0))))) else post (-12 : Int32) u0) else post (-11 : Int32) u0))))))))
set_option maxRecDepth 100000 in
set_option maxHeartbeats 4000000 in
theorem tb_X7_shift_0 {p : Program} {l : Launch} {e : Env} {s : State} {m : MethodId} {args : Array Value} {below : List Frame} {meth : Method} {c : Code} {A : Nat → Prop} {D : va_G} {g : pa_G} {q : Nat → Nat → Nat} {u0 : pa_S} {x1 : Int32} {x2 : Int32} {x3 : Int32} {x4 : Int32} {x5 : Int32} {post : Int32 → pa_S → Prop} (hE : pa_Fx p s m args meth c A D g 7 cX7_shift RX7) (hr : meth.sig.returnType = (some .int)) (hw : wb_X7_shift_0 u0 x1 x2 x3 x4 x5 post) : pa_At p l e (pa_rm 4) s m args below meth c (MQ below (pa_Qc g D q (fun r => some (.int r)) post A) args s 0 0 A) A D g 7 0 0 q u0 0 [(0, .ref (q 24 0)), (1, .int x1), (2, .int x2), (3, .int x3), (4, .int x4), (5, .int x5)] [] := by
  refine pa_aload_n hE dX7_shift_0 rfl 0 rfl ?_
  refine pa_iload_n hE dX7_shift_1 rfl 1 rfl ?_
  refine pa_callVri hE (ct_X7_isTape l g D q u0 x1 _ hw) cv_RX7_383 pa_in24 rfl rfl rfl (pa_hR (by omega) (by decide)) rfl (Nat.le_of_ble_eq_true rfl) dX7_shift_2 (fun r1 hw => ?_)
  refine pa_if_eq hE dX7_shift_5 (tgt := 16) (by decide) (fun h2 => ?_) (fun h2 => ?_)
  · have hw := Eq.mp (if_pos h2) hw
    refine pa_iconst hE dX7_shift_16 (v := (-1 : Int32)) (by decide) ?_
    exact pa_iret hE hr hw rfl dX7_shift_17
  · have hw := Eq.mp (if_neg h2) hw
    refine pa_aload_n hE dX7_shift_8 rfl 0 rfl ?_
    refine pa_iload_n hE dX7_shift_9 rfl 3 rfl ?_
    refine pa_callVri hE (ct_X7_isTape l g D q u0 x3 _ hw) cv_RX7_383 pa_in24 rfl rfl rfl (pa_hR (by omega) (by decide)) rfl (Nat.le_of_ble_eq_true rfl) dX7_shift_10 (fun r3 hw => ?_)
    refine pa_if_ne hE dX7_shift_13 (tgt := 18) (by decide) (fun h4 => ?_) (fun h4 => ?_)
    · have hw := Eq.mp (if_neg h4) hw
      refine pa_aload_n hE dX7_shift_18 rfl 0 rfl ?_
      refine pg_24_65 hE (pa_m4 186 rfl rfl) dX7_shift_19 ?_
      refine pa_iload_n hE dX7_shift_22 rfl 1 rfl ?_
      obtain ⟨h5, hw⟩ := hw
      refine pl_64 hE h5 dX7_shift_23 ?_
      refine pa_if_lt hE dX7_shift_24 (tgt := 36) (by decide) (fun h6 => ?_) (fun h6 => ?_)
      · have hw := Eq.mp (if_pos h6) hw
        refine pa_bipush hE dX7_shift_36 (v := (-11 : Int32)) (by decide) ?_
        exact pa_iret hE hr hw rfl dX7_shift_38
      · have hw := Eq.mp (if_neg h6) hw
        refine pa_aload_n hE dX7_shift_27 rfl 0 rfl ?_
        refine pg_24_65 hE (pa_m4 186 rfl rfl) dX7_shift_28 ?_
        refine pa_iload_n hE dX7_shift_31 rfl 3 rfl ?_
        obtain ⟨h7, hw⟩ := hw
        refine pl_64 hE h7 dX7_shift_32 ?_
        refine pa_if_ge hE dX7_shift_33 (tgt := 39) (by decide) (fun h8 => ?_) (fun h8 => ?_)
        · have hw := Eq.mp (if_pos h8) hw
          refine pa_aload_n hE dX7_shift_39 rfl 0 rfl ?_
          refine pg_24_65 hE (pa_m4 186 rfl rfl) dX7_shift_40 ?_
          refine pa_iload_n hE dX7_shift_43 rfl 1 rfl ?_
          obtain ⟨h9, hw⟩ := hw
          refine pl_64 hE h9 dX7_shift_44 ?_
          refine pa_aload_n hE dX7_shift_45 rfl 0 rfl ?_
          refine pg_24_65 hE (pa_m4 186 rfl rfl) dX7_shift_46 ?_
          refine pa_iload_n hE dX7_shift_49 rfl 3 rfl ?_
          obtain ⟨h10, hw⟩ := hw
          refine pl_64 hE h10 dX7_shift_50 ?_
          refine pa_icmp_eq hE dX7_shift_51 (tgt := 57) (by decide) (fun h11 => ?_) (fun h11 => ?_)
          · have hw := Eq.mp (if_pos h11) hw
            refine pa_iload hE dX7_shift_57 5 rfl ?_
            refine pa_if_lt hE dX7_shift_59 (tgt := 98) (by decide) (fun h12 => ?_) (fun h12 => ?_)
            · have hw := Eq.mp (if_pos h12) hw
              refine pa_bipush hE dX7_shift_98 (v := (-13 : Int32)) (by decide) ?_
              exact pa_iret hE hr hw rfl dX7_shift_100
            · have hw := Eq.mp (if_neg h12) hw
              refine pa_iload_n hE dX7_shift_62 rfl 2 rfl ?_
              refine pa_if_lt hE dX7_shift_63 (tgt := 98) (by decide) (fun h13 => ?_) (fun h13 => ?_)
              · have hw := Eq.mp (if_pos h13) hw
                refine pa_bipush hE dX7_shift_98 (v := (-13 : Int32)) (by decide) ?_
                exact pa_iret hE hr hw rfl dX7_shift_100
              · have hw := Eq.mp (if_neg h13) hw
                refine pa_iload hE dX7_shift_66 4 rfl ?_
                refine pa_if_lt hE dX7_shift_68 (tgt := 98) (by decide) (fun h14 => ?_) (fun h14 => ?_)
                · have hw := Eq.mp (if_pos h14) hw
                  refine pa_bipush hE dX7_shift_98 (v := (-13 : Int32)) (by decide) ?_
                  exact pa_iret hE hr hw rfl dX7_shift_100
                · have hw := Eq.mp (if_neg h14) hw
                  refine pa_iload_n hE dX7_shift_71 rfl 2 rfl ?_
                  refine pa_aload_n hE dX7_shift_72 rfl 0 rfl ?_
                  refine pg_24_66 hE (pa_m4 187 rfl rfl) dX7_shift_73 ?_
                  refine pa_iload_n hE dX7_shift_76 rfl 1 rfl ?_
                  obtain ⟨h15, hw⟩ := hw
                  refine pl_65 hE h15 dX7_shift_77 ?_
                  refine pa_iload hE dX7_shift_78 5 rfl ?_
                  refine pa_isub hE dX7_shift_80 ?_
                  refine pa_icmp_gt hE dX7_shift_81 (tgt := 98) (by decide) (fun h16 => ?_) (fun h16 => ?_)
                  · have hw := Eq.mp (if_pos h16) hw
                    refine pa_bipush hE dX7_shift_98 (v := (-13 : Int32)) (by decide) ?_
                    exact pa_iret hE hr hw rfl dX7_shift_100
                  · have hw := Eq.mp (if_neg h16) hw
                    refine pa_iload hE dX7_shift_84 4 rfl ?_
                    refine pa_aload_n hE dX7_shift_86 rfl 0 rfl ?_
                    refine pg_24_66 hE (pa_m4 187 rfl rfl) dX7_shift_87 ?_
                    refine pa_iload_n hE dX7_shift_90 rfl 3 rfl ?_
                    obtain ⟨h17, hw⟩ := hw
                    refine pl_65 hE h17 dX7_shift_91 ?_
                    refine pa_iload hE dX7_shift_92 5 rfl ?_
                    refine pa_isub hE dX7_shift_94 ?_
                    refine pa_icmp_le hE dX7_shift_95 (tgt := 101) (by decide) (fun h18 => ?_) (fun h18 => ?_)
                    · have hw := Eq.mp (if_pos h18) hw
                      refine pa_iconst hE dX7_shift_101 (v := 0) (by decide) ?_
                      refine pa_istore hE dX7_shift_102 (by decide) (lvr := [(0, .ref (q 24 0)), (1, .int x1), (2, .int x2), (3, .int x3), (4, .int x4), (5, .int x5)]) rfl ?_
                      exact pa_sub [1, 2, 3, 4, 5, 6, 0] rfl (tl_X7_shift_104 hE hr 5000 u0 x1 x2 x3 x4 x5 0 hw)
                    · have hw := Eq.mp (if_neg h18) hw
                      refine pa_bipush hE dX7_shift_98 (v := (-13 : Int32)) (by decide) ?_
                      exact pa_iret hE hr hw rfl dX7_shift_100
          · have hw := Eq.mp (if_neg h11) hw
            refine pa_bipush hE dX7_shift_54 (v := (-12 : Int32)) (by decide) ?_
            exact pa_iret hE hr hw rfl dX7_shift_56
        · have hw := Eq.mp (if_neg h8) hw
          refine pa_bipush hE dX7_shift_36 (v := (-11 : Int32)) (by decide) ?_
          exact pa_iret hE hr hw rfl dX7_shift_38
    · have hw := Eq.mp (if_pos h4) hw
      refine pa_iconst hE dX7_shift_16 (v := (-1 : Int32)) (by decide) ?_
      exact pa_iret hE hr hw rfl dX7_shift_17
def wp_X7_shift (u0 : pa_S) (x1 : Int32) (x2 : Int32) (x3 : Int32) (x4 : Int32) (x5 : Int32) (post : Int32 → pa_S → Prop) : Prop := wb_X7_shift_0 u0 x1 x2 x3 x4 x5 post
theorem ct_X7_shift (l : Launch) (g : pa_G) (D : va_G) (q : Nat → Nat → Nat) (u0 : pa_S) (x1 : Int32) (x2 : Int32) (x3 : Int32) (x4 : Int32) (x5 : Int32) (post : Int32 → pa_S → Prop)  (hw : wp_X7_shift u0 x1 x2 x3 x4 x5 post) : pa_Ct l yX7_shift cX7_shift 7 (some .int) 4 g D q u0 [.ref (q 24 0), .int x1, .int x2, .int x3, .int x4, .int x5] (fun r => some (.int r)) post := pa_met rfl rfl (Nat.le_of_ble_eq_true rfl) rfl (fun p e s m args below meth c A hE hr => tb_X7_shift_0 hE hr  hw)
