def R_law : String := "PalmsAlteredLaw"
def lw_P (b : Addr) (xs : List Int32) (args : Array Value) (s : State) : Prop := args = #[.ref b] ∧ s.IntsAt b xs ∧ xs.length ≤ 3072 ∧ (Jvm.Cond.and given_1 narrow_1).before args s = true
def lw_Q (_ : Array Value) (s : State) (o : Outcome) (t : State) : Prop := o = .returned (some (.int 1)) ∧ Framed s o t [] 600000 7302250
def lw_Z (below : List Frame) (a : Array Value) (s : State) : State → Prop := fun t => ∃ o, t.status = .running ∧ Ended t below o ∧ lw_Q a s o t
/-- the law's own end, with 1 on the stack, nothing written that was there before, its room as the claim has it -/
theorem lw_ret {p : Program} {l : Launch} {e : Env} {s : State} {m : MethodId} {below : List Frame} {meth : Method} {c : Code} {b : Nat} (hx : p.tables.exec = Jvm.exec) (hb : c.code = code) (hr : meth.sig.returnType = ret) (hlocks : meth.locks = false) {pc : Nat} {H : Heap} {ls : Array Slot} (hdg : decode code pc = .ok (.ireturn, 1)) : W p l e room_1 s m #[Value.ref b] below meth c H [] 600000 7302250 (lw_Z below #[Value.ref b] s) (F0 m pc ls [.int 1]) := by
  intro T hT X
  obtain ⟨fs, hret, hrun, hended, hW, hframe⟩ := X.leave (v := some (.int 1)) (hlocks := hlocks) (fun h => by rw [hr] at h; cases h)
  have hmeth' : T.vm.method? m = some meth := X.method'
  refine ⟨T.setFrames fs, ?_, .returned (some (.int 1)), hrun, hended, rfl, ⟨_, rfl⟩, hW, hframe⟩
  jvm_step X.here [X.here.top, hx, hb, hdg, hmeth', hr, ret, narrow_b1]
  (try refine ⟨rfl, ?_⟩); (try refine ⟨rfl, ?_⟩)
  first | (intro acts; rw [hret _ acts rfl rfl rfl]) | rw [hret _ _ rfl rfl rfl]
  exact Steps.refl _
/-- what holds at the law's entry: the machine, the code, the tables' words (any of lw_tbl by 'hts w (by decide +kernel)'), the script of L ints xs at the cell b, what the Statement gives of the start (any of its parts by flat_of_before) -/
def lw_At (p : Program) (s : State) (m : MethodId) (meth : Method) (c : Code) (b L : Nat) (xs : Nat → Int32) : Prop :=
  p.tables.exec = Jvm.exec ∧ c.code = code ∧ meth.sig.returnType = ret ∧ c.maxLocals = 4 ∧ s.vm.findClass R_law = some m.cls ∧ (∀ w ∈ lw_tbl, w.before #[Value.ref b] s = true) ∧ va_X b L xs s s.heap ∧ b < s.heap.size ∧ meth.locks = false ∧ (Jvm.Cond.and given_1 narrow_1).before #[Value.ref b] s = true

theorem pa_widen {p : Program} {l : Launch} {e : Env} {R : Room} {s : State} {m : MethodId} {args : Array Value} {below : List Frame} {meth : Method} {c : Code} {Q : State → Prop} {A : Nat → Prop} {D : va_G} {g : pa_G} {nL kc ks k n : Nat} {q : Nat → Nat → Nat} {σ : pa_S} {pc : Nat} {lv : List (Nat × Value)} {st : List Value} (h1 : kc ≤ k) (h2 : ks ≤ n) (kk : pa_At p l e R s m args below meth c Q A D g nL k n q σ pc lv st) : pa_At p l e R s m args below meth c Q A D g nL kc ks q σ pc lv st := fun H locs ls hP hD hS hl => W.widen h1 h2 (kk H locs ls hP hD hS hl)
theorem pa_sldX {p : Program} {l : Launch} {e : Env} {R : Room} {s : State} {m : MethodId} {args : Array Value} {below : List Frame} {meth : Method} {c : Code} {Q : State → Prop} {A : Nat → Prop} {D : va_G} {g : pa_G} {nL kc ks b L : Nat} {xs : Nat → Int32} {own : String} {cc : ByteArray} {q : Nat → Nat → Nat} {σ : pa_S} {pc : Nat} {lv : List (Nat × Value)} {st : List Value} {i : Int32} (hE : pa_Fx p s m args meth c A D g nL cc own) (hX : va_X b L xs s s.heap) (hbl : b < s.heap.size) (hbA : ¬ A b) (hin : vp_in i L) (hd : decode cc pc = .ok (.iaload, 1)) (kk : pa_At p l e R s m args below meth c Q A D g nL kc ks q σ (pc + 1) lv (.int (xs i.toNatClampNeg) :: st)) : pa_At p l e R s m args below meth c Q A D g nL kc ks q σ pc lv (.int i :: .ref b :: st) :=
  fun H locs ls hP hD hS hl => va_sld hE.1 hE.2.1 hX hbl hbA hS hin hd (kk H locs ls hP hD hS hl)
theorem pa_slenX {p : Program} {l : Launch} {e : Env} {R : Room} {s : State} {m : MethodId} {args : Array Value} {below : List Frame} {meth : Method} {c : Code} {Q : State → Prop} {A : Nat → Prop} {D : va_G} {g : pa_G} {nL kc ks b L : Nat} {xs : Nat → Int32} {own : String} {cc : ByteArray} {q : Nat → Nat → Nat} {σ : pa_S} {pc : Nat} {lv : List (Nat × Value)} {st : List Value} (hE : pa_Fx p s m args meth c A D g nL cc own) (hX : va_X b L xs s s.heap) (hbl : b < s.heap.size) (hbA : ¬ A b) (hd : decode cc pc = .ok (.arraylength, 1)) (kk : pa_At p l e R s m args below meth c Q A D g nL kc ks q σ (pc + 1) lv (.int (nI L) :: st)) : pa_At p l e R s m args below meth c Q A D g nL kc ks q σ pc lv (.ref b :: st) :=
  fun H locs ls hP hD hS hl => va_slen hE.1 hE.2.1 hX hbl hbA hS hd (kk H locs ls hP hD hS hl)
theorem pa_hRL {h maxL kc ks : Nat} (hh : h + 1 ≤ 1000) (hm : maxL ≤ 41) (h1 : kc ≤ 600000) (h2 : ks ≤ 7302250) : h + 1 ≤ room_1.frames ∧ 8 + (maxL + 11) + 60 * h ≤ room_1.locals ∧ kc ≤ room_1.cells ∧ ks ≤ room_1.slots := by
  refine ⟨?_, ?_, h1, h2⟩
  · show h + 1 ≤ 2048; omega
  · show 8 + (maxL + 11) + 60 * h ≤ 84000; omega
theorem pa_cmp0 {r r' : Int64} (h : r = r') : lg_cmp r r' = 0 := by
  subst h
  unfold lg_cmp
  rw [if_neg (by show ¬ r < r; rw [Int64.lt_iff_toInt_lt]; omega), if_pos rfl]
/-- one call of the law on both sides: the answers are the same, and Inv holds again -/
def pa_case (Inv : pa_S → Prop) (u : pa_S) (a1 a2 a3 a4 a5 : Int32) : Nat → Prop
  | 0 => wp_X6_hand u a1 a2 a3 (fun (r : Int32) (u1 : pa_S) => (wp_X7_hand u1 a1 a2 a3 (fun (r' : Int32) (u2 : pa_S) => r = r' ∧ Inv u2)))
  | 1 => wp_X6_of u a1 a2 (fun (r : Int32) (u1 : pa_S) => (wp_X7_of u1 a1 a2 (fun (r' : Int32) (u2 : pa_S) => r = r' ∧ Inv u2)))
  | 2 => wp_X6_set u a1 a2 a3 (fun (r : Int32) (u1 : pa_S) => (wp_X7_set u1 a1 a2 a3 (fun (r' : Int32) (u2 : pa_S) => r = r' ∧ Inv u2)))
  | 3 => wp_X6_row u a1 a2 a3 (fun (r : Int32) (u1 : pa_S) => (wp_X7_row u1 a1 a2 a3 (fun (r' : Int32) (u2 : pa_S) => r = r' ∧ Inv u2)))
  | 4 => wp_X6_ink u a1 (fun (r : Int32) (u1 : pa_S) => (wp_X7_ink u1 a1 (fun (r' : Int32) (u2 : pa_S) => r = r' ∧ Inv u2)))
  | 5 => wp_X6_draw u a1 a2 a3 (fun (r : Int32) (u1 : pa_S) => (wp_X7_draw u1 a1 a2 a3 (fun (r' : Int32) (u2 : pa_S) => r = r' ∧ Inv u2)))
  | 6 => wp_X6_shake u a1 a2 (fun (r : Int32) (u1 : pa_S) => (wp_X7_shake u1 a1 a2 (fun (r' : Int32) (u2 : pa_S) => r = r' ∧ Inv u2)))
  | 7 => wp_X6_feed u a1 (fun (r : Int32) (u1 : pa_S) => (wp_X7_feed u1 a1 (fun (r' : Int32) (u2 : pa_S) => r = r' ∧ Inv u2)))
  | 8 => wp_X6_booth u (fun (r : Int32) (u1 : pa_S) => (wp_X7_booth u1 (fun (r' : Int32) (u2 : pa_S) => r = r' ∧ Inv u2)))
  | 9 => wp_X6_told u a1 (fun (r : Int32) (u1 : pa_S) => (wp_X7_told u1 a1 (fun (r' : Int32) (u2 : pa_S) => r = r' ∧ Inv u2)))
  | 10 => wp_X6_pass u a1 (fun (r : Int32) (u1 : pa_S) => (wp_X7_pass u1 a1 (fun (r' : Int32) (u2 : pa_S) => r = r' ∧ Inv u2)))
  | 11 => wp_X6_on u a1 a2 (fun (r : Int32) (u1 : pa_S) => (wp_X7_on u1 a1 a2 (fun (r' : Int32) (u2 : pa_S) => r = r' ∧ Inv u2)))
  | 12 => wp_X6_lasts u a1 a2 (fun (r : Int32) (u1 : pa_S) => (wp_X7_lasts u1 a1 a2 (fun (r' : Int32) (u2 : pa_S) => r = r' ∧ Inv u2)))
  | 13 => wp_X6_pen u a1 a2 (fun (r : Int32) (u1 : pa_S) => (wp_X7_pen u1 a1 a2 (fun (r' : Int32) (u2 : pa_S) => r = r' ∧ Inv u2)))
  | 14 => wp_X6_share u a1 a2 a3 (fun (r : Int32) (u1 : pa_S) => (wp_X7_share u1 a1 a2 a3 (fun (r' : Int32) (u2 : pa_S) => r = r' ∧ Inv u2)))
  | 15 => wp_X6_meet u (fun (r : Int32) (u1 : pa_S) => (wp_X7_meet u1 (fun (r' : Int32) (u2 : pa_S) => r = r' ∧ Inv u2)))
  | 16 => wp_X6_book u a1 a2 a3 (fun (r : Int32) (u1 : pa_S) => (wp_X7_book u1 a1 a2 a3 (fun (r' : Int32) (u2 : pa_S) => r = r' ∧ Inv u2)))
  | 17 => wp_X6_looked u (fun (r : Int32) => (wp_X7_looked u (fun (r' : Int32) => r = r' ∧ Inv u)))
  | 18 => wp_X6_shaken u a1 (fun (r : Int32) (u1 : pa_S) => (wp_X7_shaken u1 a1 (fun (r' : Int32) (u2 : pa_S) => r = r' ∧ Inv u2)))
  | 19 => wp_X6_see u a1 a2 a3 a4 (fun (r : Int32) (u1 : pa_S) => (wp_X7_see u1 a1 a2 a3 a4 (fun (r' : Int32) (u2 : pa_S) => r = r' ∧ Inv u2)))
  | 20 => wp_X6_was u a1 a2 a3 (fun (r : Int32) (u1 : pa_S) => (wp_X7_was u1 a1 a2 a3 (fun (r' : Int32) (u2 : pa_S) => r = r' ∧ Inv u2)))
  | 21 => wp_X6_can u a1 a2 (fun (r : Int32) (u1 : pa_S) => (wp_X7_can u1 a1 a2 (fun (r' : Int32) (u2 : pa_S) => r = r' ∧ Inv u2)))
  | 22 => wp_X6_odds u a1 a2 (fun (r : Int64) (u1 : pa_S) => (wp_X7_odds u1 a1 a2 (fun (r' : Int64) (u2 : pa_S) => r = r' ∧ Inv u2)))
  | 23 => wp_X6_mean u a1 a2 (fun (r : Int64) (u1 : pa_S) => (wp_X7_mean u1 a1 a2 (fun (r' : Int64) (u2 : pa_S) => r = r' ∧ Inv u2)))
  | 24 => wp_X6_fair u a1 a2 (fun (r : Int32) (u1 : pa_S) => (wp_X7_fair u1 a1 a2 (fun (r' : Int32) (u2 : pa_S) => r = r' ∧ Inv u2)))
  | 25 => wp_X6_ends u a1 (fun (r : Int32) (u1 : pa_S) => (wp_X7_ends u1 a1 (fun (r' : Int32) (u2 : pa_S) => r = r' ∧ Inv u2)))
  | 26 => wp_X6_judge u a1 a2 (fun (r : Int32) => (wp_X7_judge u a1 a2 (fun (r' : Int32) => r = r' ∧ Inv u)))
  | 27 => wp_X6_image u (fun (r : Int32) (u1 : pa_S) => (wp_X7_image u1 (fun (r' : Int32) (u2 : pa_S) => r = r' ∧ Inv u2)))
  | 28 => wp_X6_undo u (fun (r : Int32) (u1 : pa_S) => (wp_X7_undo u1 (fun (r' : Int32) (u2 : pa_S) => r = r' ∧ Inv u2)))
  | 29 => wp_X6_act u a1 a2 a3 (fun (r : Int32) (u1 : pa_S) => (wp_X7_act u1 a1 a2 a3 (fun (r' : Int32) (u2 : pa_S) => r = r' ∧ Inv u2)))
  | 30 => wp_X6_trace u a1 (fun (r : Int32) => (wp_X7_trace u a1 (fun (r' : Int32) => r = r' ∧ Inv u)))
  | 31 => wp_X6_taken u a1 a2 (fun (r : Int32) => (wp_X7_taken u a1 a2 (fun (r' : Int32) => r = r' ∧ Inv u)))
  | 32 => wp_X6_count u a1 (fun (r : Int32) => (wp_X7_count u a1 (fun (r' : Int32) => r = r' ∧ Inv u)))
  | 33 => wp_X6_tape u a1 a2 a3 (fun (r : Int32) (u1 : pa_S) => (wp_X7_tape u1 a1 a2 a3 (fun (r' : Int32) (u2 : pa_S) => r = r' ∧ Inv u2)))
  | 34 => wp_X6_item u a1 a2 (((a3.toInt64) <<< ((32 : Int32).toInt64 &&& 63)) ||| ((a4.toInt64) &&& 4294967295)) (fun (r : Int32) (u1 : pa_S) => (wp_X7_item u1 a1 a2 (((a3.toInt64) <<< ((32 : Int32).toInt64 &&& 63)) ||| ((a4.toInt64) &&& 4294967295)) (fun (r' : Int32) (u2 : pa_S) => r = r' ∧ Inv u2)))
  | 35 => wp_X6_read u a1 a2 (fun (r : Int64) => (wp_X7_read u a1 a2 (fun (r' : Int64) => r = r' ∧ Inv u)))
  | 36 => wp_X6_shift u a1 a2 a3 a4 a5 (fun (r : Int32) (u1 : pa_S) => (wp_X7_shift u1 a1 a2 a3 a4 a5 (fun (r' : Int32) (u2 : pa_S) => r = r' ∧ Inv u2)))
  | _ => True
theorem cv_RL_13 : pa_CV R_law RX6 13 yX6_hand cX6_hand 4 (some .int) 3 := ⟨⟨rfl, by decide +kernel, by decide +kernel, by decide +kernel⟩, pa_m2 2 rfl rfl, pa_m2 3 rfl rfl, pa_m2 4 rfl rfl, pa_m1 1 rfl rfl, pa_m2 5 rfl rfl⟩
theorem cv_RL_17 : pa_CV R_law RX7 17 yX7_hand cX7_hand 5 (some .int) 3 := ⟨⟨rfl, by decide +kernel, by decide +kernel, by decide +kernel⟩, pa_m5 90 rfl rfl, pa_m5 91 rfl rfl, pa_m5 92 rfl rfl, pa_m1 10 rfl rfl, pa_m5 93 rfl rfl⟩
theorem cv_RL_18 : pa_CV R_law RX6 18 yX6_of cX6_of 3 (some .int) 2 := ⟨⟨rfl, by decide +kernel, by decide +kernel, by decide +kernel⟩, pa_m2 25 rfl rfl, pa_m2 26 rfl rfl, pa_m2 27 rfl rfl, pa_m1 1 rfl rfl, pa_m2 28 rfl rfl⟩
theorem cv_RL_22 : pa_CV R_law RX7 22 yX7_of cX7_of 3 (some .int) 2 := ⟨⟨rfl, by decide +kernel, by decide +kernel, by decide +kernel⟩, pa_m5 186 rfl rfl, pa_m5 187 rfl rfl, pa_m5 188 rfl rfl, pa_m1 10 rfl rfl, pa_m5 189 rfl rfl⟩
theorem cv_RL_23 : pa_CV R_law RX6 23 yX6_set cX6_set 5 (some .int) 3 := ⟨⟨rfl, by decide +kernel, by decide +kernel, by decide +kernel⟩, pa_m2 88 rfl rfl, pa_m2 89 rfl rfl, pa_m2 90 rfl rfl, pa_m1 1 rfl rfl, pa_m2 91 rfl rfl⟩
theorem cv_RL_26 : pa_CV R_law RX7 26 yX7_set cX7_set 5 (some .int) 3 := ⟨⟨rfl, by decide +kernel, by decide +kernel, by decide +kernel⟩, pa_m5 102 rfl rfl, pa_m5 103 rfl rfl, pa_m5 104 rfl rfl, pa_m1 10 rfl rfl, pa_m5 105 rfl rfl⟩
theorem cv_RL_27 : pa_CV R_law RX6 27 yX6_row cX6_row 5 (some .int) 3 := ⟨⟨rfl, by decide +kernel, by decide +kernel, by decide +kernel⟩, pa_m2 93 rfl rfl, pa_m2 94 rfl rfl, pa_m2 95 rfl rfl, pa_m1 1 rfl rfl, pa_m2 96 rfl rfl⟩
theorem cv_RL_30 : pa_CV R_law RX7 30 yX7_row cX7_row 5 (some .int) 3 := ⟨⟨rfl, by decide +kernel, by decide +kernel, by decide +kernel⟩, pa_m5 114 rfl rfl, pa_m5 115 rfl rfl, pa_m5 116 rfl rfl, pa_m1 10 rfl rfl, pa_m5 117 rfl rfl⟩
theorem cv_RL_31 : pa_CV R_law RX6 31 yX6_ink cX6_ink 3 (some .int) 1 := ⟨⟨rfl, by decide +kernel, by decide +kernel, by decide +kernel⟩, pa_m2 102 rfl rfl, pa_m2 103 rfl rfl, pa_m2 104 rfl rfl, pa_m1 1 rfl rfl, pa_m2 105 rfl rfl⟩
theorem cv_RL_35 : pa_CV R_law RX7 35 yX7_ink cX7_ink 3 (some .int) 1 := ⟨⟨rfl, by decide +kernel, by decide +kernel, by decide +kernel⟩, pa_m5 118 rfl rfl, pa_m5 119 rfl rfl, pa_m5 120 rfl rfl, pa_m1 10 rfl rfl, pa_m5 121 rfl rfl⟩
theorem cv_RL_36 : pa_CV R_law RX6 36 yX6_draw cX6_draw 4 (some .int) 3 := ⟨⟨rfl, by decide +kernel, by decide +kernel, by decide +kernel⟩, pa_m2 106 rfl rfl, pa_m2 107 rfl rfl, pa_m2 108 rfl rfl, pa_m1 1 rfl rfl, pa_m2 109 rfl rfl⟩
theorem cv_RL_39 : pa_CV R_law RX7 39 yX7_draw cX7_draw 4 (some .int) 3 := ⟨⟨rfl, by decide +kernel, by decide +kernel, by decide +kernel⟩, pa_m6 14 rfl rfl, pa_m6 15 rfl rfl, pa_m6 16 rfl rfl, pa_m1 10 rfl rfl, pa_m6 17 rfl rfl⟩
theorem cv_RL_40 : pa_CV R_law RX6 40 yX6_shake cX6_shake 3 (some .int) 2 := ⟨⟨rfl, by decide +kernel, by decide +kernel, by decide +kernel⟩, pa_m2 115 rfl rfl, pa_m2 116 rfl rfl, pa_m2 117 rfl rfl, pa_m1 1 rfl rfl, pa_m2 118 rfl rfl⟩
theorem cv_RL_43 : pa_CV R_law RX7 43 yX7_shake cX7_shake 3 (some .int) 2 := ⟨⟨rfl, by decide +kernel, by decide +kernel, by decide +kernel⟩, pa_m6 22 rfl rfl, pa_m6 23 rfl rfl, pa_m6 24 rfl rfl, pa_m1 10 rfl rfl, pa_m6 25 rfl rfl⟩
theorem cv_RL_44 : pa_CV R_law RX6 44 yX6_feed cX6_feed 2 (some .int) 1 := ⟨⟨rfl, by decide +kernel, by decide +kernel, by decide +kernel⟩, pa_m2 134 rfl rfl, pa_m2 135 rfl rfl, pa_m2 136 rfl rfl, pa_m1 1 rfl rfl, pa_m2 137 rfl rfl⟩
theorem cv_RL_47 : pa_CV R_law RX7 47 yX7_feed cX7_feed 2 (some .int) 1 := ⟨⟨rfl, by decide +kernel, by decide +kernel, by decide +kernel⟩, pa_m5 122 rfl rfl, pa_m5 123 rfl rfl, pa_m5 124 rfl rfl, pa_m1 10 rfl rfl, pa_m5 125 rfl rfl⟩
theorem cv_RL_48 : pa_CV R_law RX6 48 yX6_booth cX6_booth 2 (some .int) 0 := ⟨⟨rfl, by decide +kernel, by decide +kernel, by decide +kernel⟩, pa_m2 146 rfl rfl, pa_m2 147 rfl rfl, pa_m2 148 rfl rfl, pa_m1 1 rfl rfl, pa_m2 149 rfl rfl⟩
theorem cv_RL_52 : pa_CV R_law RX7 52 yX7_booth cX7_booth 2 (some .int) 0 := ⟨⟨rfl, by decide +kernel, by decide +kernel, by decide +kernel⟩, pa_m5 126 rfl rfl, pa_m5 127 rfl rfl, pa_m5 128 rfl rfl, pa_m1 10 rfl rfl, pa_m5 129 rfl rfl⟩
theorem cv_RL_53 : pa_CV R_law RX6 53 yX6_told cX6_told 2 (some .int) 1 := ⟨⟨rfl, by decide +kernel, by decide +kernel, by decide +kernel⟩, pa_m3 84 rfl rfl, pa_m3 85 rfl rfl, pa_m3 86 rfl rfl, pa_m1 1 rfl rfl, pa_m3 87 rfl rfl⟩
theorem cv_RL_56 : pa_CV R_law RX7 56 yX7_told cX7_told 2 (some .int) 1 := ⟨⟨rfl, by decide +kernel, by decide +kernel, by decide +kernel⟩, pa_m5 226 rfl rfl, pa_m5 227 rfl rfl, pa_m5 228 rfl rfl, pa_m1 10 rfl rfl, pa_m5 229 rfl rfl⟩
theorem cv_RL_57 : pa_CV R_law RX6 57 yX6_pass cX6_pass 2 (some .int) 1 := ⟨⟨rfl, by decide +kernel, by decide +kernel, by decide +kernel⟩, pa_m3 97 rfl rfl, pa_m3 98 rfl rfl, pa_m3 99 rfl rfl, pa_m1 1 rfl rfl, pa_m3 100 rfl rfl⟩
theorem cv_RL_60 : pa_CV R_law RX7 60 yX7_pass cX7_pass 2 (some .int) 1 := ⟨⟨rfl, by decide +kernel, by decide +kernel, by decide +kernel⟩, pa_m6 34 rfl rfl, pa_m6 35 rfl rfl, pa_m6 36 rfl rfl, pa_m1 10 rfl rfl, pa_m6 37 rfl rfl⟩
theorem cv_RL_61 : pa_CV R_law RX6 61 yX6_on cX6_on 7 (some .int) 2 := ⟨⟨rfl, by decide +kernel, by decide +kernel, by decide +kernel⟩, pa_m3 110 rfl rfl, pa_m3 111 rfl rfl, pa_m3 112 rfl rfl, pa_m1 1 rfl rfl, pa_m3 113 rfl rfl⟩
theorem cv_RL_64 : pa_CV R_law RX7 64 yX7_on cX7_on 4 (some .int) 2 := ⟨⟨rfl, by decide +kernel, by decide +kernel, by decide +kernel⟩, pa_m6 46 rfl rfl, pa_m6 47 rfl rfl, pa_m6 48 rfl rfl, pa_m1 10 rfl rfl, pa_m6 49 rfl rfl⟩
theorem cv_RL_65 : pa_CV R_law RX6 65 yX6_lasts cX6_lasts 5 (some .int) 2 := ⟨⟨rfl, by decide +kernel, by decide +kernel, by decide +kernel⟩, pa_m3 119 rfl rfl, pa_m3 120 rfl rfl, pa_m3 121 rfl rfl, pa_m1 1 rfl rfl, pa_m3 122 rfl rfl⟩
theorem cv_RL_68 : pa_CV R_law RX7 68 yX7_lasts cX7_lasts 4 (some .int) 2 := ⟨⟨rfl, by decide +kernel, by decide +kernel, by decide +kernel⟩, pa_m6 58 rfl rfl, pa_m6 59 rfl rfl, pa_m6 60 rfl rfl, pa_m1 10 rfl rfl, pa_m6 61 rfl rfl⟩
theorem cv_RL_69 : pa_CV R_law RX6 69 yX6_pen cX6_pen 8 (some .int) 2 := ⟨⟨rfl, by decide +kernel, by decide +kernel, by decide +kernel⟩, pa_m3 123 rfl rfl, pa_m3 124 rfl rfl, pa_m3 125 rfl rfl, pa_m1 1 rfl rfl, pa_m3 126 rfl rfl⟩
theorem cv_RL_72 : pa_CV R_law RX7 72 yX7_pen cX7_pen 7 (some .int) 2 := ⟨⟨rfl, by decide +kernel, by decide +kernel, by decide +kernel⟩, pa_m6 66 rfl rfl, pa_m6 67 rfl rfl, pa_m6 68 rfl rfl, pa_m1 10 rfl rfl, pa_m6 69 rfl rfl⟩
theorem cv_RL_73 : pa_CV R_law RX6 73 yX6_share cX6_share 10 (some .int) 3 := ⟨⟨rfl, by decide +kernel, by decide +kernel, by decide +kernel⟩, pa_m3 127 rfl rfl, pa_m3 128 rfl rfl, pa_m3 129 rfl rfl, pa_m1 1 rfl rfl, pa_m3 130 rfl rfl⟩
theorem cv_RL_76 : pa_CV R_law RX7 76 yX7_share cX7_share 9 (some .int) 3 := ⟨⟨rfl, by decide +kernel, by decide +kernel, by decide +kernel⟩, pa_m6 70 rfl rfl, pa_m6 71 rfl rfl, pa_m6 72 rfl rfl, pa_m1 10 rfl rfl, pa_m6 73 rfl rfl⟩
theorem cv_RL_77 : pa_CV R_law RX6 77 yX6_meet cX6_meet 6 (some .int) 0 := ⟨⟨rfl, by decide +kernel, by decide +kernel, by decide +kernel⟩, pa_m3 135 rfl rfl, pa_m3 136 rfl rfl, pa_m3 137 rfl rfl, pa_m1 1 rfl rfl, pa_m3 138 rfl rfl⟩
theorem cv_RL_80 : pa_CV R_law RX7 80 yX7_meet cX7_meet 6 (some .int) 0 := ⟨⟨rfl, by decide +kernel, by decide +kernel, by decide +kernel⟩, pa_m6 74 rfl rfl, pa_m6 75 rfl rfl, pa_m6 76 rfl rfl, pa_m1 10 rfl rfl, pa_m6 77 rfl rfl⟩
theorem cv_RL_81 : pa_CV R_law RX6 81 yX6_book cX6_book 4 (some .int) 3 := ⟨⟨rfl, by decide +kernel, by decide +kernel, by decide +kernel⟩, pa_m3 143 rfl rfl, pa_m3 144 rfl rfl, pa_m3 145 rfl rfl, pa_m1 1 rfl rfl, pa_m3 146 rfl rfl⟩
theorem cv_RL_84 : pa_CV R_law RX7 84 yX7_book cX7_book 4 (some .int) 3 := ⟨⟨rfl, by decide +kernel, by decide +kernel, by decide +kernel⟩, pa_m6 82 rfl rfl, pa_m6 83 rfl rfl, pa_m6 84 rfl rfl, pa_m1 10 rfl rfl, pa_m6 85 rfl rfl⟩
theorem cv_RL_85 : pa_CV R_law RX6 85 yX6_looked cX6_looked 1 (some .int) 0 := ⟨⟨rfl, by decide +kernel, by decide +kernel, by decide +kernel⟩, pa_m3 155 rfl rfl, pa_m3 156 rfl rfl, pa_m3 157 rfl rfl, pa_m1 1 rfl rfl, pa_m3 158 rfl rfl⟩
theorem cv_RL_88 : pa_CV R_law RX7 88 yX7_looked cX7_looked 2 (some .int) 0 := ⟨⟨rfl, by decide +kernel, by decide +kernel, by decide +kernel⟩, pa_m6 86 rfl rfl, pa_m6 87 rfl rfl, pa_m6 88 rfl rfl, pa_m1 10 rfl rfl, pa_m6 89 rfl rfl⟩
theorem cv_RL_89 : pa_CV R_law RX6 89 yX6_shaken cX6_shaken 3 (some .int) 1 := ⟨⟨rfl, by decide +kernel, by decide +kernel, by decide +kernel⟩, pa_m3 167 rfl rfl, pa_m3 168 rfl rfl, pa_m3 169 rfl rfl, pa_m1 1 rfl rfl, pa_m3 170 rfl rfl⟩
theorem cv_RL_92 : pa_CV R_law RX7 92 yX7_shaken cX7_shaken 5 (some .int) 1 := ⟨⟨rfl, by decide +kernel, by decide +kernel, by decide +kernel⟩, pa_m6 90 rfl rfl, pa_m6 91 rfl rfl, pa_m6 92 rfl rfl, pa_m1 10 rfl rfl, pa_m6 93 rfl rfl⟩
theorem cv_RL_93 : pa_CV R_law RX6 93 yX6_see cX6_see 5 (some .int) 4 := ⟨⟨rfl, by decide +kernel, by decide +kernel, by decide +kernel⟩, pa_m3 175 rfl rfl, pa_m3 176 rfl rfl, pa_m3 177 rfl rfl, pa_m1 1 rfl rfl, pa_m3 178 rfl rfl⟩
theorem cv_RL_97 : pa_CV R_law RX7 97 yX7_see cX7_see 5 (some .int) 4 := ⟨⟨rfl, by decide +kernel, by decide +kernel, by decide +kernel⟩, pa_m6 107 rfl rfl, pa_m6 108 rfl rfl, pa_m6 109 rfl rfl, pa_m1 10 rfl rfl, pa_m6 110 rfl rfl⟩
theorem cv_RL_98 : pa_CV R_law RX6 98 yX6_was cX6_was 8 (some .int) 3 := ⟨⟨rfl, by decide +kernel, by decide +kernel, by decide +kernel⟩, pa_m3 179 rfl rfl, pa_m3 180 rfl rfl, pa_m3 181 rfl rfl, pa_m1 1 rfl rfl, pa_m3 182 rfl rfl⟩
theorem cv_RL_101 : pa_CV R_law RX7 101 yX7_was cX7_was 8 (some .int) 3 := ⟨⟨rfl, by decide +kernel, by decide +kernel, by decide +kernel⟩, pa_m6 111 rfl rfl, pa_m6 112 rfl rfl, pa_m6 113 rfl rfl, pa_m1 10 rfl rfl, pa_m6 114 rfl rfl⟩
theorem cv_RL_102 : pa_CV R_law RX6 102 yX6_can cX6_can 7 (some .int) 2 := ⟨⟨rfl, by decide +kernel, by decide +kernel, by decide +kernel⟩, pa_m3 191 rfl rfl, pa_m3 192 rfl rfl, pa_m3 193 rfl rfl, pa_m1 1 rfl rfl, pa_m3 194 rfl rfl⟩
theorem cv_RL_105 : pa_CV R_law RX7 105 yX7_can cX7_can 7 (some .int) 2 := ⟨⟨rfl, by decide +kernel, by decide +kernel, by decide +kernel⟩, pa_m6 119 rfl rfl, pa_m6 120 rfl rfl, pa_m6 121 rfl rfl, pa_m1 10 rfl rfl, pa_m6 122 rfl rfl⟩
theorem cv_RL_106 : pa_CV R_law RX6 106 yX6_odds cX6_odds 7 (some .long) 2 := ⟨⟨rfl, by decide +kernel, by decide +kernel, by decide +kernel⟩, pa_m3 199 rfl rfl, pa_m3 200 rfl rfl, pa_m3 201 rfl rfl, pa_m1 1 rfl rfl, pa_m3 202 rfl rfl⟩
theorem cv_RL_110 : pa_CV R_law RX7 110 yX7_odds cX7_odds 5 (some .long) 2 := ⟨⟨rfl, by decide +kernel, by decide +kernel, by decide +kernel⟩, pa_m6 123 rfl rfl, pa_m6 124 rfl rfl, pa_m6 125 rfl rfl, pa_m1 10 rfl rfl, pa_m6 126 rfl rfl⟩
theorem cv_RL_111 : pa_CV R_law RX6 111 yX6_mean cX6_mean 4 (some .long) 2 := ⟨⟨rfl, by decide +kernel, by decide +kernel, by decide +kernel⟩, pa_m3 207 rfl rfl, pa_m3 208 rfl rfl, pa_m3 209 rfl rfl, pa_m1 1 rfl rfl, pa_m3 210 rfl rfl⟩
theorem cv_RL_114 : pa_CV R_law RX7 114 yX7_mean cX7_mean 3 (some .long) 2 := ⟨⟨rfl, by decide +kernel, by decide +kernel, by decide +kernel⟩, pa_m6 136 rfl rfl, pa_m6 137 rfl rfl, pa_m6 138 rfl rfl, pa_m1 10 rfl rfl, pa_m6 139 rfl rfl⟩
theorem cv_RL_115 : pa_CV R_law RX6 115 yX6_fair cX6_fair 3 (some .int) 2 := ⟨⟨rfl, by decide +kernel, by decide +kernel, by decide +kernel⟩, pa_m3 211 rfl rfl, pa_m3 212 rfl rfl, pa_m3 213 rfl rfl, pa_m1 1 rfl rfl, pa_m3 214 rfl rfl⟩
theorem cv_RL_118 : pa_CV R_law RX7 118 yX7_fair cX7_fair 3 (some .int) 2 := ⟨⟨rfl, by decide +kernel, by decide +kernel, by decide +kernel⟩, pa_m6 141 rfl rfl, pa_m6 142 rfl rfl, pa_m6 143 rfl rfl, pa_m1 10 rfl rfl, pa_m6 144 rfl rfl⟩
theorem cv_RL_119 : pa_CV R_law RX6 119 yX6_ends cX6_ends 4 (some .int) 1 := ⟨⟨rfl, by decide +kernel, by decide +kernel, by decide +kernel⟩, pa_m3 215 rfl rfl, pa_m3 216 rfl rfl, pa_m3 217 rfl rfl, pa_m1 1 rfl rfl, pa_m3 218 rfl rfl⟩
theorem cv_RL_122 : pa_CV R_law RX7 122 yX7_ends cX7_ends 3 (some .int) 1 := ⟨⟨rfl, by decide +kernel, by decide +kernel, by decide +kernel⟩, pa_m6 145 rfl rfl, pa_m6 146 rfl rfl, pa_m6 147 rfl rfl, pa_m1 10 rfl rfl, pa_m6 148 rfl rfl⟩
theorem cv_RL_123 : pa_CV R_law RX6 123 yX6_judge cX6_judge 5 (some .int) 2 := ⟨⟨rfl, by decide +kernel, by decide +kernel, by decide +kernel⟩, pa_m3 219 rfl rfl, pa_m3 220 rfl rfl, pa_m3 221 rfl rfl, pa_m1 1 rfl rfl, pa_m3 222 rfl rfl⟩
theorem cv_RL_126 : pa_CV R_law RX7 126 yX7_judge cX7_judge 4 (some .int) 2 := ⟨⟨rfl, by decide +kernel, by decide +kernel, by decide +kernel⟩, pa_m6 149 rfl rfl, pa_m6 150 rfl rfl, pa_m6 151 rfl rfl, pa_m1 10 rfl rfl, pa_m6 152 rfl rfl⟩
theorem cv_RL_127 : pa_CV R_law RX6 127 yX6_image cX6_image 1 (some .int) 0 := ⟨⟨rfl, by decide +kernel, by decide +kernel, by decide +kernel⟩, pa_m3 239 rfl rfl, pa_m4 0 rfl rfl, pa_m4 1 rfl rfl, pa_m1 1 rfl rfl, pa_m4 2 rfl rfl⟩
theorem cv_RL_130 : pa_CV R_law RX7 130 yX7_image cX7_image 2 (some .int) 0 := ⟨⟨rfl, by decide +kernel, by decide +kernel, by decide +kernel⟩, pa_m6 157 rfl rfl, pa_m6 158 rfl rfl, pa_m6 159 rfl rfl, pa_m1 10 rfl rfl, pa_m6 160 rfl rfl⟩
theorem cv_RL_131 : pa_CV R_law RX6 131 yX6_undo cX6_undo 1 (some .int) 0 := ⟨⟨rfl, by decide +kernel, by decide +kernel, by decide +kernel⟩, pa_m4 8 rfl rfl, pa_m4 9 rfl rfl, pa_m4 10 rfl rfl, pa_m1 1 rfl rfl, pa_m4 11 rfl rfl⟩
theorem cv_RL_134 : pa_CV R_law RX7 134 yX7_undo cX7_undo 2 (some .int) 0 := ⟨⟨rfl, by decide +kernel, by decide +kernel, by decide +kernel⟩, pa_m6 161 rfl rfl, pa_m6 162 rfl rfl, pa_m6 163 rfl rfl, pa_m1 10 rfl rfl, pa_m6 164 rfl rfl⟩
theorem cv_RL_135 : pa_CV R_law RX6 135 yX6_act cX6_act 4 (some .int) 3 := ⟨⟨rfl, by decide +kernel, by decide +kernel, by decide +kernel⟩, pa_m4 12 rfl rfl, pa_m4 13 rfl rfl, pa_m4 14 rfl rfl, pa_m1 1 rfl rfl, pa_m4 15 rfl rfl⟩
theorem cv_RL_138 : pa_CV R_law RX7 138 yX7_act cX7_act 4 (some .int) 3 := ⟨⟨rfl, by decide +kernel, by decide +kernel, by decide +kernel⟩, pa_m6 165 rfl rfl, pa_m6 166 rfl rfl, pa_m6 167 rfl rfl, pa_m1 10 rfl rfl, pa_m6 168 rfl rfl⟩
theorem cv_RL_139 : pa_CV R_law RX6 139 yX6_trace cX6_trace 2 (some .int) 1 := ⟨⟨rfl, by decide +kernel, by decide +kernel, by decide +kernel⟩, pa_m4 47 rfl rfl, pa_m4 48 rfl rfl, pa_m4 49 rfl rfl, pa_m1 1 rfl rfl, pa_m4 50 rfl rfl⟩
theorem cv_RL_142 : pa_CV R_law RX7 142 yX7_trace cX7_trace 2 (some .int) 1 := ⟨⟨rfl, by decide +kernel, by decide +kernel, by decide +kernel⟩, pa_m6 201 rfl rfl, pa_m6 202 rfl rfl, pa_m6 203 rfl rfl, pa_m1 10 rfl rfl, pa_m6 204 rfl rfl⟩
theorem cv_RL_143 : pa_CV R_law RX6 143 yX6_taken cX6_taken 6 (some .int) 2 := ⟨⟨rfl, by decide +kernel, by decide +kernel, by decide +kernel⟩, pa_m4 60 rfl rfl, pa_m4 61 rfl rfl, pa_m4 62 rfl rfl, pa_m1 1 rfl rfl, pa_m4 63 rfl rfl⟩
theorem cv_RL_146 : pa_CV R_law RX7 146 yX7_taken cX7_taken 4 (some .int) 2 := ⟨⟨rfl, by decide +kernel, by decide +kernel, by decide +kernel⟩, pa_m6 205 rfl rfl, pa_m6 206 rfl rfl, pa_m6 207 rfl rfl, pa_m1 10 rfl rfl, pa_m6 208 rfl rfl⟩
theorem cv_RL_147 : pa_CV R_law RX6 147 yX6_count cX6_count 2 (some .int) 1 := ⟨⟨rfl, by decide +kernel, by decide +kernel, by decide +kernel⟩, pa_m4 65 rfl rfl, pa_m4 66 rfl rfl, pa_m4 67 rfl rfl, pa_m1 1 rfl rfl, pa_m4 68 rfl rfl⟩
theorem cv_RL_150 : pa_CV R_law RX7 150 yX7_count cX7_count 2 (some .int) 1 := ⟨⟨rfl, by decide +kernel, by decide +kernel, by decide +kernel⟩, pa_m6 209 rfl rfl, pa_m6 210 rfl rfl, pa_m6 211 rfl rfl, pa_m1 10 rfl rfl, pa_m6 212 rfl rfl⟩
theorem cv_RL_151 : pa_CV R_law RX6 151 yX6_tape cX6_tape 4 (some .int) 3 := ⟨⟨rfl, by decide +kernel, by decide +kernel, by decide +kernel⟩, pa_m4 77 rfl rfl, pa_m4 78 rfl rfl, pa_m4 79 rfl rfl, pa_m1 1 rfl rfl, pa_m4 80 rfl rfl⟩
theorem cv_RL_154 : pa_CV R_law RX7 154 yX7_tape cX7_tape 5 (some .int) 3 := ⟨⟨rfl, by decide +kernel, by decide +kernel, by decide +kernel⟩, pa_m6 213 rfl rfl, pa_m6 214 rfl rfl, pa_m6 215 rfl rfl, pa_m1 10 rfl rfl, pa_m6 216 rfl rfl⟩
theorem cv_RL_157 : pa_CV R_law RX6 157 yX6_item cX6_item 5 (some .int) 3 := ⟨⟨rfl, by decide +kernel, by decide +kernel, by decide +kernel⟩, pa_m4 90 rfl rfl, pa_m4 91 rfl rfl, pa_m4 92 rfl rfl, pa_m1 1 rfl rfl, pa_m4 93 rfl rfl⟩
theorem cv_RL_161 : pa_CV R_law RX7 161 yX7_item cX7_item 5 (some .int) 3 := ⟨⟨rfl, by decide +kernel, by decide +kernel, by decide +kernel⟩, pa_m6 217 rfl rfl, pa_m6 218 rfl rfl, pa_m6 219 rfl rfl, pa_m1 10 rfl rfl, pa_m6 220 rfl rfl⟩
theorem cv_RL_162 : pa_CV R_law RX6 162 yX6_read cX6_read 3 (some .long) 2 := ⟨⟨rfl, by decide +kernel, by decide +kernel, by decide +kernel⟩, pa_m4 102 rfl rfl, pa_m4 103 rfl rfl, pa_m4 104 rfl rfl, pa_m1 1 rfl rfl, pa_m4 105 rfl rfl⟩
theorem cv_RL_165 : pa_CV R_law RX7 165 yX7_read cX7_read 3 (some .long) 2 := ⟨⟨rfl, by decide +kernel, by decide +kernel, by decide +kernel⟩, pa_m6 225 rfl rfl, pa_m6 226 rfl rfl, pa_m6 227 rfl rfl, pa_m1 10 rfl rfl, pa_m6 228 rfl rfl⟩
theorem cv_RL_166 : pa_CV R_law RX6 166 yX6_shift cX6_shift 8 (some .int) 5 := ⟨⟨rfl, by decide +kernel, by decide +kernel, by decide +kernel⟩, pa_m4 106 rfl rfl, pa_m4 107 rfl rfl, pa_m4 108 rfl rfl, pa_m1 1 rfl rfl, pa_m4 109 rfl rfl⟩
theorem cv_RL_170 : pa_CV R_law RX7 170 yX7_shift cX7_shift 7 (some .int) 5 := ⟨⟨rfl, by decide +kernel, by decide +kernel, by decide +kernel⟩, pa_m6 229 rfl rfl, pa_m6 230 rfl rfl, pa_m6 231 rfl rfl, pa_m1 10 rfl rfl, pa_m6 232 rfl rfl⟩
set_option maxRecDepth 100000 in
set_option maxHeartbeats 4000000 in
theorem lc_0 {Inv : pa_S → Prop} {p : Program} {l : Launch} {e : Env} {s : State} {m : MethodId} {below : List Frame} {meth : Method} {c : Code} {D : va_G} {g : pa_G} {q : Nat → Nat → Nat} {kc ks b L : Nat} {xs : Nat → Int32} {u : pa_S} {x3 : Int32} (hE : pa_Fx p s m #[Value.ref b] meth c (fun q : Nat => s.heap.size ≤ q) D g 4 cL_law R_law) (hX : va_X b L xs s s.heap) (hbl : b < s.heap.size) (hbA : ¬ s.heap.size ≤ b) (hin1 : vp_in (x3 + 1) L) (hin2 : vp_in (x3 + 2) L) (hin3 : vp_in (x3 + 3) L) (hk : kc + 3 ≤ 600000) (hs : ks + 204 ≤ 7302250) (hw : pa_case Inv u (xs (x3 + 1).toNatClampNeg) (xs (x3 + 2).toNatClampNeg) (xs (x3 + 3).toNatClampNeg) (xs (x3 + 4).toNatClampNeg) (xs (x3 + 5).toNatClampNeg) 0) (kl : ∀ (q : Nat → Nat → Nat) (u : pa_S), Inv u → pa_At p l e room_1 s m #[Value.ref b] below meth c (lw_Z below #[Value.ref b] s) (fun q : Nat => s.heap.size ≤ q) D g 4 (kc + 3) (ks + 204) q u 1420 [(3, .int x3), (1, .ref (q 0 0)), (2, .ref (q 24 0)), (0, .ref b)] []) : pa_At p l e room_1 s m #[Value.ref b] below meth c (lw_Z below #[Value.ref b] s) (fun q : Nat => s.heap.size ≤ q) D g 4 kc ks q u 196 [(3, .int x3), (1, .ref (q 0 0)), (2, .ref (q 24 0)), (0, .ref b)] [] := by
  have hw : wp_X6_hand u (xs (x3 + 1).toNatClampNeg) (xs (x3 + 2).toNatClampNeg) (xs (x3 + 3).toNatClampNeg) (fun (r : Int32) (u1 : pa_S) => (wp_X7_hand u1 (xs (x3 + 1).toNatClampNeg) (xs (x3 + 2).toNatClampNeg) (xs (x3 + 3).toNatClampNeg) (fun (r' : Int32) (u2 : pa_S) => r = r' ∧ Inv u2))) := hw
  refine pa_aload_n hE dL_law_196 rfl 1 rfl ?_
  refine pa_aload_n hE dL_law_197 rfl 3 rfl ?_
  refine pa_iload_n hE dL_law_198 rfl 0 rfl ?_
  refine pa_iconst hE dL_law_199 (v := 1) (by decide) ?_
  refine pa_iadd hE dL_law_200 ?_
  refine pa_sldX hE hX hbl hbA (hin1) dL_law_201 ?_
  refine pa_aload_n hE dL_law_202 rfl 3 rfl ?_
  refine pa_iload_n hE dL_law_203 rfl 0 rfl ?_
  refine pa_iconst hE dL_law_204 (v := 2) (by decide) ?_
  refine pa_iadd hE dL_law_205 ?_
  refine pa_sldX hE hX hbl hbA (hin2) dL_law_206 ?_
  refine pa_aload_n hE dL_law_207 rfl 3 rfl ?_
  refine pa_iload_n hE dL_law_208 rfl 0 rfl ?_
  refine pa_iconst hE dL_law_209 (v := 3) (by decide) ?_
  refine pa_iadd hE dL_law_210 ?_
  refine pa_sldX hE hX hbl hbA (hin3) dL_law_211 ?_
  refine pa_callVi hE (ct_X6_hand l g D q u (xs (x3 + 1).toNatClampNeg) (xs (x3 + 2).toNatClampNeg) (xs (x3 + 3).toNatClampNeg) _ hw) cv_RL_13 pa_in0 rfl rfl rfl (pa_hRL (by decide) (by decide) (by omega) (by omega)) rfl (Nat.le_of_ble_eq_true rfl) dL_law_212 (fun r u1 hw => ?_)
  refine pa_aload_n hE dL_law_215 rfl 2 rfl ?_
  refine pa_aload_n hE dL_law_216 rfl 3 rfl ?_
  refine pa_iload_n hE dL_law_217 rfl 0 rfl ?_
  refine pa_iconst hE dL_law_218 (v := 1) (by decide) ?_
  refine pa_iadd hE dL_law_219 ?_
  refine pa_sldX hE hX hbl hbA (hin1) dL_law_220 ?_
  refine pa_aload_n hE dL_law_221 rfl 3 rfl ?_
  refine pa_iload_n hE dL_law_222 rfl 0 rfl ?_
  refine pa_iconst hE dL_law_223 (v := 2) (by decide) ?_
  refine pa_iadd hE dL_law_224 ?_
  refine pa_sldX hE hX hbl hbA (hin2) dL_law_225 ?_
  refine pa_aload_n hE dL_law_226 rfl 3 rfl ?_
  refine pa_iload_n hE dL_law_227 rfl 0 rfl ?_
  refine pa_iconst hE dL_law_228 (v := 3) (by decide) ?_
  refine pa_iadd hE dL_law_229 ?_
  refine pa_sldX hE hX hbl hbA (hin3) dL_law_230 ?_
  refine pa_callVi hE (ct_X7_hand l g D q u1 (xs (x3 + 1).toNatClampNeg) (xs (x3 + 2).toNatClampNeg) (xs (x3 + 3).toNatClampNeg) _ hw) cv_RL_17 pa_in24 rfl rfl rfl (pa_hRL (by decide) (by decide) (by omega) (by omega)) rfl (Nat.le_of_ble_eq_true rfl) dL_law_231 (fun r' u2 hw => ?_)
  exact pa_icmp_eq hE dL_law_234 (tgt := 1420) (by decide) (fun _ => pa_widen (k := kc + 3) (n := ks + 204) (by omega) (by omega) (kl q u2 hw.2)) (fun z => absurd hw.1 z)
set_option maxRecDepth 100000 in
set_option maxHeartbeats 4000000 in
theorem lc_1 {Inv : pa_S → Prop} {p : Program} {l : Launch} {e : Env} {s : State} {m : MethodId} {below : List Frame} {meth : Method} {c : Code} {D : va_G} {g : pa_G} {q : Nat → Nat → Nat} {kc ks b L : Nat} {xs : Nat → Int32} {u : pa_S} {x3 : Int32} (hE : pa_Fx p s m #[Value.ref b] meth c (fun q : Nat => s.heap.size ≤ q) D g 4 cL_law R_law) (hX : va_X b L xs s s.heap) (hbl : b < s.heap.size) (hbA : ¬ s.heap.size ≤ b) (hin1 : vp_in (x3 + 1) L) (hin2 : vp_in (x3 + 2) L) (hk : kc + 3 ≤ 600000) (hs : ks + 204 ≤ 7302250) (hw : pa_case Inv u (xs (x3 + 1).toNatClampNeg) (xs (x3 + 2).toNatClampNeg) (xs (x3 + 3).toNatClampNeg) (xs (x3 + 4).toNatClampNeg) (xs (x3 + 5).toNatClampNeg) 1) (kl : ∀ (q : Nat → Nat → Nat) (u : pa_S), Inv u → pa_At p l e room_1 s m #[Value.ref b] below meth c (lw_Z below #[Value.ref b] s) (fun q : Nat => s.heap.size ≤ q) D g 4 (kc + 3) (ks + 204) q u 1420 [(3, .int x3), (1, .ref (q 0 0)), (2, .ref (q 24 0)), (0, .ref b)] []) : pa_At p l e room_1 s m #[Value.ref b] below meth c (lw_Z below #[Value.ref b] s) (fun q : Nat => s.heap.size ≤ q) D g 4 kc ks q u 239 [(3, .int x3), (1, .ref (q 0 0)), (2, .ref (q 24 0)), (0, .ref b)] [] := by
  have hw : wp_X6_of u (xs (x3 + 1).toNatClampNeg) (xs (x3 + 2).toNatClampNeg) (fun (r : Int32) (u1 : pa_S) => (wp_X7_of u1 (xs (x3 + 1).toNatClampNeg) (xs (x3 + 2).toNatClampNeg) (fun (r' : Int32) (u2 : pa_S) => r = r' ∧ Inv u2))) := hw
  refine pa_aload_n hE dL_law_239 rfl 1 rfl ?_
  refine pa_aload_n hE dL_law_240 rfl 3 rfl ?_
  refine pa_iload_n hE dL_law_241 rfl 0 rfl ?_
  refine pa_iconst hE dL_law_242 (v := 1) (by decide) ?_
  refine pa_iadd hE dL_law_243 ?_
  refine pa_sldX hE hX hbl hbA (hin1) dL_law_244 ?_
  refine pa_aload_n hE dL_law_245 rfl 3 rfl ?_
  refine pa_iload_n hE dL_law_246 rfl 0 rfl ?_
  refine pa_iconst hE dL_law_247 (v := 2) (by decide) ?_
  refine pa_iadd hE dL_law_248 ?_
  refine pa_sldX hE hX hbl hbA (hin2) dL_law_249 ?_
  refine pa_callVi hE (ct_X6_of l g D q u (xs (x3 + 1).toNatClampNeg) (xs (x3 + 2).toNatClampNeg) _ hw) cv_RL_18 pa_in0 rfl rfl rfl (pa_hRL (by decide) (by decide) (by omega) (by omega)) rfl (Nat.le_of_ble_eq_true rfl) dL_law_250 (fun r u1 hw => ?_)
  refine pa_aload_n hE dL_law_253 rfl 2 rfl ?_
  refine pa_aload_n hE dL_law_254 rfl 3 rfl ?_
  refine pa_iload_n hE dL_law_255 rfl 0 rfl ?_
  refine pa_iconst hE dL_law_256 (v := 1) (by decide) ?_
  refine pa_iadd hE dL_law_257 ?_
  refine pa_sldX hE hX hbl hbA (hin1) dL_law_258 ?_
  refine pa_aload_n hE dL_law_259 rfl 3 rfl ?_
  refine pa_iload_n hE dL_law_260 rfl 0 rfl ?_
  refine pa_iconst hE dL_law_261 (v := 2) (by decide) ?_
  refine pa_iadd hE dL_law_262 ?_
  refine pa_sldX hE hX hbl hbA (hin2) dL_law_263 ?_
  refine pa_callVi hE (ct_X7_of l g D q u1 (xs (x3 + 1).toNatClampNeg) (xs (x3 + 2).toNatClampNeg) _ hw) cv_RL_22 pa_in24 rfl rfl rfl (pa_hRL (by decide) (by decide) (by omega) (by omega)) rfl (Nat.le_of_ble_eq_true rfl) dL_law_264 (fun r' u2 hw => ?_)
  exact pa_icmp_eq hE dL_law_267 (tgt := 1420) (by decide) (fun _ => pa_widen (k := kc + 3) (n := ks + 204) (by omega) (by omega) (kl q u2 hw.2)) (fun z => absurd hw.1 z)
set_option maxRecDepth 100000 in
set_option maxHeartbeats 4000000 in
theorem lc_2 {Inv : pa_S → Prop} {p : Program} {l : Launch} {e : Env} {s : State} {m : MethodId} {below : List Frame} {meth : Method} {c : Code} {D : va_G} {g : pa_G} {q : Nat → Nat → Nat} {kc ks b L : Nat} {xs : Nat → Int32} {u : pa_S} {x3 : Int32} (hE : pa_Fx p s m #[Value.ref b] meth c (fun q : Nat => s.heap.size ≤ q) D g 4 cL_law R_law) (hX : va_X b L xs s s.heap) (hbl : b < s.heap.size) (hbA : ¬ s.heap.size ≤ b) (hin1 : vp_in (x3 + 1) L) (hin2 : vp_in (x3 + 2) L) (hin3 : vp_in (x3 + 3) L) (hk : kc + 3 ≤ 600000) (hs : ks + 204 ≤ 7302250) (hw : pa_case Inv u (xs (x3 + 1).toNatClampNeg) (xs (x3 + 2).toNatClampNeg) (xs (x3 + 3).toNatClampNeg) (xs (x3 + 4).toNatClampNeg) (xs (x3 + 5).toNatClampNeg) 2) (kl : ∀ (q : Nat → Nat → Nat) (u : pa_S), Inv u → pa_At p l e room_1 s m #[Value.ref b] below meth c (lw_Z below #[Value.ref b] s) (fun q : Nat => s.heap.size ≤ q) D g 4 (kc + 3) (ks + 204) q u 1420 [(3, .int x3), (1, .ref (q 0 0)), (2, .ref (q 24 0)), (0, .ref b)] []) : pa_At p l e room_1 s m #[Value.ref b] below meth c (lw_Z below #[Value.ref b] s) (fun q : Nat => s.heap.size ≤ q) D g 4 kc ks q u 272 [(3, .int x3), (1, .ref (q 0 0)), (2, .ref (q 24 0)), (0, .ref b)] [] := by
  have hw : wp_X6_set u (xs (x3 + 1).toNatClampNeg) (xs (x3 + 2).toNatClampNeg) (xs (x3 + 3).toNatClampNeg) (fun (r : Int32) (u1 : pa_S) => (wp_X7_set u1 (xs (x3 + 1).toNatClampNeg) (xs (x3 + 2).toNatClampNeg) (xs (x3 + 3).toNatClampNeg) (fun (r' : Int32) (u2 : pa_S) => r = r' ∧ Inv u2))) := hw
  refine pa_aload_n hE dL_law_272 rfl 1 rfl ?_
  refine pa_aload_n hE dL_law_273 rfl 3 rfl ?_
  refine pa_iload_n hE dL_law_274 rfl 0 rfl ?_
  refine pa_iconst hE dL_law_275 (v := 1) (by decide) ?_
  refine pa_iadd hE dL_law_276 ?_
  refine pa_sldX hE hX hbl hbA (hin1) dL_law_277 ?_
  refine pa_aload_n hE dL_law_278 rfl 3 rfl ?_
  refine pa_iload_n hE dL_law_279 rfl 0 rfl ?_
  refine pa_iconst hE dL_law_280 (v := 2) (by decide) ?_
  refine pa_iadd hE dL_law_281 ?_
  refine pa_sldX hE hX hbl hbA (hin2) dL_law_282 ?_
  refine pa_aload_n hE dL_law_283 rfl 3 rfl ?_
  refine pa_iload_n hE dL_law_284 rfl 0 rfl ?_
  refine pa_iconst hE dL_law_285 (v := 3) (by decide) ?_
  refine pa_iadd hE dL_law_286 ?_
  refine pa_sldX hE hX hbl hbA (hin3) dL_law_287 ?_
  refine pa_callVi hE (ct_X6_set l g D q u (xs (x3 + 1).toNatClampNeg) (xs (x3 + 2).toNatClampNeg) (xs (x3 + 3).toNatClampNeg) _ hw) cv_RL_23 pa_in0 rfl rfl rfl (pa_hRL (by decide) (by decide) (by omega) (by omega)) rfl (Nat.le_of_ble_eq_true rfl) dL_law_288 (fun r u1 hw => ?_)
  refine pa_aload_n hE dL_law_291 rfl 2 rfl ?_
  refine pa_aload_n hE dL_law_292 rfl 3 rfl ?_
  refine pa_iload_n hE dL_law_293 rfl 0 rfl ?_
  refine pa_iconst hE dL_law_294 (v := 1) (by decide) ?_
  refine pa_iadd hE dL_law_295 ?_
  refine pa_sldX hE hX hbl hbA (hin1) dL_law_296 ?_
  refine pa_aload_n hE dL_law_297 rfl 3 rfl ?_
  refine pa_iload_n hE dL_law_298 rfl 0 rfl ?_
  refine pa_iconst hE dL_law_299 (v := 2) (by decide) ?_
  refine pa_iadd hE dL_law_300 ?_
  refine pa_sldX hE hX hbl hbA (hin2) dL_law_301 ?_
  refine pa_aload_n hE dL_law_302 rfl 3 rfl ?_
  refine pa_iload_n hE dL_law_303 rfl 0 rfl ?_
  refine pa_iconst hE dL_law_304 (v := 3) (by decide) ?_
  refine pa_iadd hE dL_law_305 ?_
  refine pa_sldX hE hX hbl hbA (hin3) dL_law_306 ?_
  refine pa_callVi hE (ct_X7_set l g D q u1 (xs (x3 + 1).toNatClampNeg) (xs (x3 + 2).toNatClampNeg) (xs (x3 + 3).toNatClampNeg) _ hw) cv_RL_26 pa_in24 rfl rfl rfl (pa_hRL (by decide) (by decide) (by omega) (by omega)) rfl (Nat.le_of_ble_eq_true rfl) dL_law_307 (fun r' u2 hw => ?_)
  exact pa_icmp_eq hE dL_law_310 (tgt := 1420) (by decide) (fun _ => pa_widen (k := kc + 3) (n := ks + 204) (by omega) (by omega) (kl q u2 hw.2)) (fun z => absurd hw.1 z)
set_option maxRecDepth 100000 in
set_option maxHeartbeats 4000000 in
theorem lc_3 {Inv : pa_S → Prop} {p : Program} {l : Launch} {e : Env} {s : State} {m : MethodId} {below : List Frame} {meth : Method} {c : Code} {D : va_G} {g : pa_G} {q : Nat → Nat → Nat} {kc ks b L : Nat} {xs : Nat → Int32} {u : pa_S} {x3 : Int32} (hE : pa_Fx p s m #[Value.ref b] meth c (fun q : Nat => s.heap.size ≤ q) D g 4 cL_law R_law) (hX : va_X b L xs s s.heap) (hbl : b < s.heap.size) (hbA : ¬ s.heap.size ≤ b) (hin1 : vp_in (x3 + 1) L) (hin2 : vp_in (x3 + 2) L) (hin3 : vp_in (x3 + 3) L) (hk : kc + 3 ≤ 600000) (hs : ks + 204 ≤ 7302250) (hw : pa_case Inv u (xs (x3 + 1).toNatClampNeg) (xs (x3 + 2).toNatClampNeg) (xs (x3 + 3).toNatClampNeg) (xs (x3 + 4).toNatClampNeg) (xs (x3 + 5).toNatClampNeg) 3) (kl : ∀ (q : Nat → Nat → Nat) (u : pa_S), Inv u → pa_At p l e room_1 s m #[Value.ref b] below meth c (lw_Z below #[Value.ref b] s) (fun q : Nat => s.heap.size ≤ q) D g 4 (kc + 3) (ks + 204) q u 1420 [(3, .int x3), (1, .ref (q 0 0)), (2, .ref (q 24 0)), (0, .ref b)] []) : pa_At p l e room_1 s m #[Value.ref b] below meth c (lw_Z below #[Value.ref b] s) (fun q : Nat => s.heap.size ≤ q) D g 4 kc ks q u 315 [(3, .int x3), (1, .ref (q 0 0)), (2, .ref (q 24 0)), (0, .ref b)] [] := by
  have hw : wp_X6_row u (xs (x3 + 1).toNatClampNeg) (xs (x3 + 2).toNatClampNeg) (xs (x3 + 3).toNatClampNeg) (fun (r : Int32) (u1 : pa_S) => (wp_X7_row u1 (xs (x3 + 1).toNatClampNeg) (xs (x3 + 2).toNatClampNeg) (xs (x3 + 3).toNatClampNeg) (fun (r' : Int32) (u2 : pa_S) => r = r' ∧ Inv u2))) := hw
  refine pa_aload_n hE dL_law_315 rfl 1 rfl ?_
  refine pa_aload_n hE dL_law_316 rfl 3 rfl ?_
  refine pa_iload_n hE dL_law_317 rfl 0 rfl ?_
  refine pa_iconst hE dL_law_318 (v := 1) (by decide) ?_
  refine pa_iadd hE dL_law_319 ?_
  refine pa_sldX hE hX hbl hbA (hin1) dL_law_320 ?_
  refine pa_aload_n hE dL_law_321 rfl 3 rfl ?_
  refine pa_iload_n hE dL_law_322 rfl 0 rfl ?_
  refine pa_iconst hE dL_law_323 (v := 2) (by decide) ?_
  refine pa_iadd hE dL_law_324 ?_
  refine pa_sldX hE hX hbl hbA (hin2) dL_law_325 ?_
  refine pa_aload_n hE dL_law_326 rfl 3 rfl ?_
  refine pa_iload_n hE dL_law_327 rfl 0 rfl ?_
  refine pa_iconst hE dL_law_328 (v := 3) (by decide) ?_
  refine pa_iadd hE dL_law_329 ?_
  refine pa_sldX hE hX hbl hbA (hin3) dL_law_330 ?_
  refine pa_callVi hE (ct_X6_row l g D q u (xs (x3 + 1).toNatClampNeg) (xs (x3 + 2).toNatClampNeg) (xs (x3 + 3).toNatClampNeg) _ hw) cv_RL_27 pa_in0 rfl rfl rfl (pa_hRL (by decide) (by decide) (by omega) (by omega)) rfl (Nat.le_of_ble_eq_true rfl) dL_law_331 (fun r u1 hw => ?_)
  refine pa_aload_n hE dL_law_334 rfl 2 rfl ?_
  refine pa_aload_n hE dL_law_335 rfl 3 rfl ?_
  refine pa_iload_n hE dL_law_336 rfl 0 rfl ?_
  refine pa_iconst hE dL_law_337 (v := 1) (by decide) ?_
  refine pa_iadd hE dL_law_338 ?_
  refine pa_sldX hE hX hbl hbA (hin1) dL_law_339 ?_
  refine pa_aload_n hE dL_law_340 rfl 3 rfl ?_
  refine pa_iload_n hE dL_law_341 rfl 0 rfl ?_
  refine pa_iconst hE dL_law_342 (v := 2) (by decide) ?_
  refine pa_iadd hE dL_law_343 ?_
  refine pa_sldX hE hX hbl hbA (hin2) dL_law_344 ?_
  refine pa_aload_n hE dL_law_345 rfl 3 rfl ?_
  refine pa_iload_n hE dL_law_346 rfl 0 rfl ?_
  refine pa_iconst hE dL_law_347 (v := 3) (by decide) ?_
  refine pa_iadd hE dL_law_348 ?_
  refine pa_sldX hE hX hbl hbA (hin3) dL_law_349 ?_
  refine pa_callVi hE (ct_X7_row l g D q u1 (xs (x3 + 1).toNatClampNeg) (xs (x3 + 2).toNatClampNeg) (xs (x3 + 3).toNatClampNeg) _ hw) cv_RL_30 pa_in24 rfl rfl rfl (pa_hRL (by decide) (by decide) (by omega) (by omega)) rfl (Nat.le_of_ble_eq_true rfl) dL_law_350 (fun r' u2 hw => ?_)
  exact pa_icmp_eq hE dL_law_353 (tgt := 1420) (by decide) (fun _ => pa_widen (k := kc + 3) (n := ks + 204) (by omega) (by omega) (kl q u2 hw.2)) (fun z => absurd hw.1 z)
set_option maxRecDepth 100000 in
set_option maxHeartbeats 4000000 in
theorem lc_4 {Inv : pa_S → Prop} {p : Program} {l : Launch} {e : Env} {s : State} {m : MethodId} {below : List Frame} {meth : Method} {c : Code} {D : va_G} {g : pa_G} {q : Nat → Nat → Nat} {kc ks b L : Nat} {xs : Nat → Int32} {u : pa_S} {x3 : Int32} (hE : pa_Fx p s m #[Value.ref b] meth c (fun q : Nat => s.heap.size ≤ q) D g 4 cL_law R_law) (hX : va_X b L xs s s.heap) (hbl : b < s.heap.size) (hbA : ¬ s.heap.size ≤ b) (hin1 : vp_in (x3 + 1) L) (hk : kc + 3 ≤ 600000) (hs : ks + 204 ≤ 7302250) (hw : pa_case Inv u (xs (x3 + 1).toNatClampNeg) (xs (x3 + 2).toNatClampNeg) (xs (x3 + 3).toNatClampNeg) (xs (x3 + 4).toNatClampNeg) (xs (x3 + 5).toNatClampNeg) 4) (kl : ∀ (q : Nat → Nat → Nat) (u : pa_S), Inv u → pa_At p l e room_1 s m #[Value.ref b] below meth c (lw_Z below #[Value.ref b] s) (fun q : Nat => s.heap.size ≤ q) D g 4 (kc + 3) (ks + 204) q u 1420 [(3, .int x3), (1, .ref (q 0 0)), (2, .ref (q 24 0)), (0, .ref b)] []) : pa_At p l e room_1 s m #[Value.ref b] below meth c (lw_Z below #[Value.ref b] s) (fun q : Nat => s.heap.size ≤ q) D g 4 kc ks q u 358 [(3, .int x3), (1, .ref (q 0 0)), (2, .ref (q 24 0)), (0, .ref b)] [] := by
  have hw : wp_X6_ink u (xs (x3 + 1).toNatClampNeg) (fun (r : Int32) (u1 : pa_S) => (wp_X7_ink u1 (xs (x3 + 1).toNatClampNeg) (fun (r' : Int32) (u2 : pa_S) => r = r' ∧ Inv u2))) := hw
  refine pa_aload_n hE dL_law_358 rfl 1 rfl ?_
  refine pa_aload_n hE dL_law_359 rfl 3 rfl ?_
  refine pa_iload_n hE dL_law_360 rfl 0 rfl ?_
  refine pa_iconst hE dL_law_361 (v := 1) (by decide) ?_
  refine pa_iadd hE dL_law_362 ?_
  refine pa_sldX hE hX hbl hbA (hin1) dL_law_363 ?_
  refine pa_callVi hE (ct_X6_ink l g D q u (xs (x3 + 1).toNatClampNeg) _ hw) cv_RL_31 pa_in0 rfl rfl rfl (pa_hRL (by decide) (by decide) (by omega) (by omega)) rfl (Nat.le_of_ble_eq_true rfl) dL_law_364 (fun r u1 hw => ?_)
  refine pa_aload_n hE dL_law_367 rfl 2 rfl ?_
  refine pa_aload_n hE dL_law_368 rfl 3 rfl ?_
  refine pa_iload_n hE dL_law_369 rfl 0 rfl ?_
  refine pa_iconst hE dL_law_370 (v := 1) (by decide) ?_
  refine pa_iadd hE dL_law_371 ?_
  refine pa_sldX hE hX hbl hbA (hin1) dL_law_372 ?_
  refine pa_callVi hE (ct_X7_ink l g D q u1 (xs (x3 + 1).toNatClampNeg) _ hw) cv_RL_35 pa_in24 rfl rfl rfl (pa_hRL (by decide) (by decide) (by omega) (by omega)) rfl (Nat.le_of_ble_eq_true rfl) dL_law_373 (fun r' u2 hw => ?_)
  exact pa_icmp_eq hE dL_law_376 (tgt := 1420) (by decide) (fun _ => pa_widen (k := kc + 3) (n := ks + 204) (by omega) (by omega) (kl q u2 hw.2)) (fun z => absurd hw.1 z)
set_option maxRecDepth 100000 in
set_option maxHeartbeats 4000000 in
theorem lc_5 {Inv : pa_S → Prop} {p : Program} {l : Launch} {e : Env} {s : State} {m : MethodId} {below : List Frame} {meth : Method} {c : Code} {D : va_G} {g : pa_G} {q : Nat → Nat → Nat} {kc ks b L : Nat} {xs : Nat → Int32} {u : pa_S} {x3 : Int32} (hE : pa_Fx p s m #[Value.ref b] meth c (fun q : Nat => s.heap.size ≤ q) D g 4 cL_law R_law) (hX : va_X b L xs s s.heap) (hbl : b < s.heap.size) (hbA : ¬ s.heap.size ≤ b) (hin1 : vp_in (x3 + 1) L) (hin2 : vp_in (x3 + 2) L) (hin3 : vp_in (x3 + 3) L) (hk : kc + 3 ≤ 600000) (hs : ks + 204 ≤ 7302250) (hw : pa_case Inv u (xs (x3 + 1).toNatClampNeg) (xs (x3 + 2).toNatClampNeg) (xs (x3 + 3).toNatClampNeg) (xs (x3 + 4).toNatClampNeg) (xs (x3 + 5).toNatClampNeg) 5) (kl : ∀ (q : Nat → Nat → Nat) (u : pa_S), Inv u → pa_At p l e room_1 s m #[Value.ref b] below meth c (lw_Z below #[Value.ref b] s) (fun q : Nat => s.heap.size ≤ q) D g 4 (kc + 3) (ks + 204) q u 1420 [(3, .int x3), (1, .ref (q 0 0)), (2, .ref (q 24 0)), (0, .ref b)] []) : pa_At p l e room_1 s m #[Value.ref b] below meth c (lw_Z below #[Value.ref b] s) (fun q : Nat => s.heap.size ≤ q) D g 4 kc ks q u 381 [(3, .int x3), (1, .ref (q 0 0)), (2, .ref (q 24 0)), (0, .ref b)] [] := by
  have hw : wp_X6_draw u (xs (x3 + 1).toNatClampNeg) (xs (x3 + 2).toNatClampNeg) (xs (x3 + 3).toNatClampNeg) (fun (r : Int32) (u1 : pa_S) => (wp_X7_draw u1 (xs (x3 + 1).toNatClampNeg) (xs (x3 + 2).toNatClampNeg) (xs (x3 + 3).toNatClampNeg) (fun (r' : Int32) (u2 : pa_S) => r = r' ∧ Inv u2))) := hw
  refine pa_aload_n hE dL_law_381 rfl 1 rfl ?_
  refine pa_aload_n hE dL_law_382 rfl 3 rfl ?_
  refine pa_iload_n hE dL_law_383 rfl 0 rfl ?_
  refine pa_iconst hE dL_law_384 (v := 1) (by decide) ?_
  refine pa_iadd hE dL_law_385 ?_
  refine pa_sldX hE hX hbl hbA (hin1) dL_law_386 ?_
  refine pa_aload_n hE dL_law_387 rfl 3 rfl ?_
  refine pa_iload_n hE dL_law_388 rfl 0 rfl ?_
  refine pa_iconst hE dL_law_389 (v := 2) (by decide) ?_
  refine pa_iadd hE dL_law_390 ?_
  refine pa_sldX hE hX hbl hbA (hin2) dL_law_391 ?_
  refine pa_aload_n hE dL_law_392 rfl 3 rfl ?_
  refine pa_iload_n hE dL_law_393 rfl 0 rfl ?_
  refine pa_iconst hE dL_law_394 (v := 3) (by decide) ?_
  refine pa_iadd hE dL_law_395 ?_
  refine pa_sldX hE hX hbl hbA (hin3) dL_law_396 ?_
  refine pa_callVi hE (ct_X6_draw l g D q u (xs (x3 + 1).toNatClampNeg) (xs (x3 + 2).toNatClampNeg) (xs (x3 + 3).toNatClampNeg) _ hw) cv_RL_36 pa_in0 rfl rfl rfl (pa_hRL (by decide) (by decide) (by omega) (by omega)) rfl (Nat.le_of_ble_eq_true rfl) dL_law_397 (fun r u1 hw => ?_)
  refine pa_aload_n hE dL_law_400 rfl 2 rfl ?_
  refine pa_aload_n hE dL_law_401 rfl 3 rfl ?_
  refine pa_iload_n hE dL_law_402 rfl 0 rfl ?_
  refine pa_iconst hE dL_law_403 (v := 1) (by decide) ?_
  refine pa_iadd hE dL_law_404 ?_
  refine pa_sldX hE hX hbl hbA (hin1) dL_law_405 ?_
  refine pa_aload_n hE dL_law_406 rfl 3 rfl ?_
  refine pa_iload_n hE dL_law_407 rfl 0 rfl ?_
  refine pa_iconst hE dL_law_408 (v := 2) (by decide) ?_
  refine pa_iadd hE dL_law_409 ?_
  refine pa_sldX hE hX hbl hbA (hin2) dL_law_410 ?_
  refine pa_aload_n hE dL_law_411 rfl 3 rfl ?_
  refine pa_iload_n hE dL_law_412 rfl 0 rfl ?_
  refine pa_iconst hE dL_law_413 (v := 3) (by decide) ?_
  refine pa_iadd hE dL_law_414 ?_
  refine pa_sldX hE hX hbl hbA (hin3) dL_law_415 ?_
  refine pa_callVi hE (ct_X7_draw l g D q u1 (xs (x3 + 1).toNatClampNeg) (xs (x3 + 2).toNatClampNeg) (xs (x3 + 3).toNatClampNeg) _ hw) cv_RL_39 pa_in24 rfl rfl rfl (pa_hRL (by decide) (by decide) (by omega) (by omega)) rfl (Nat.le_of_ble_eq_true rfl) dL_law_416 (fun r' u2 hw => ?_)
  exact pa_icmp_eq hE dL_law_419 (tgt := 1420) (by decide) (fun _ => pa_widen (k := kc + 3) (n := ks + 204) (by omega) (by omega) (kl q u2 hw.2)) (fun z => absurd hw.1 z)
set_option maxRecDepth 100000 in
set_option maxHeartbeats 4000000 in
theorem lc_6 {Inv : pa_S → Prop} {p : Program} {l : Launch} {e : Env} {s : State} {m : MethodId} {below : List Frame} {meth : Method} {c : Code} {D : va_G} {g : pa_G} {q : Nat → Nat → Nat} {kc ks b L : Nat} {xs : Nat → Int32} {u : pa_S} {x3 : Int32} (hE : pa_Fx p s m #[Value.ref b] meth c (fun q : Nat => s.heap.size ≤ q) D g 4 cL_law R_law) (hX : va_X b L xs s s.heap) (hbl : b < s.heap.size) (hbA : ¬ s.heap.size ≤ b) (hin1 : vp_in (x3 + 1) L) (hin2 : vp_in (x3 + 2) L) (hk : kc + 3 ≤ 600000) (hs : ks + 204 ≤ 7302250) (hw : pa_case Inv u (xs (x3 + 1).toNatClampNeg) (xs (x3 + 2).toNatClampNeg) (xs (x3 + 3).toNatClampNeg) (xs (x3 + 4).toNatClampNeg) (xs (x3 + 5).toNatClampNeg) 6) (kl : ∀ (q : Nat → Nat → Nat) (u : pa_S), Inv u → pa_At p l e room_1 s m #[Value.ref b] below meth c (lw_Z below #[Value.ref b] s) (fun q : Nat => s.heap.size ≤ q) D g 4 (kc + 3) (ks + 204) q u 1420 [(3, .int x3), (1, .ref (q 0 0)), (2, .ref (q 24 0)), (0, .ref b)] []) : pa_At p l e room_1 s m #[Value.ref b] below meth c (lw_Z below #[Value.ref b] s) (fun q : Nat => s.heap.size ≤ q) D g 4 kc ks q u 424 [(3, .int x3), (1, .ref (q 0 0)), (2, .ref (q 24 0)), (0, .ref b)] [] := by
  have hw : wp_X6_shake u (xs (x3 + 1).toNatClampNeg) (xs (x3 + 2).toNatClampNeg) (fun (r : Int32) (u1 : pa_S) => (wp_X7_shake u1 (xs (x3 + 1).toNatClampNeg) (xs (x3 + 2).toNatClampNeg) (fun (r' : Int32) (u2 : pa_S) => r = r' ∧ Inv u2))) := hw
  refine pa_aload_n hE dL_law_424 rfl 1 rfl ?_
  refine pa_aload_n hE dL_law_425 rfl 3 rfl ?_
  refine pa_iload_n hE dL_law_426 rfl 0 rfl ?_
  refine pa_iconst hE dL_law_427 (v := 1) (by decide) ?_
  refine pa_iadd hE dL_law_428 ?_
  refine pa_sldX hE hX hbl hbA (hin1) dL_law_429 ?_
  refine pa_aload_n hE dL_law_430 rfl 3 rfl ?_
  refine pa_iload_n hE dL_law_431 rfl 0 rfl ?_
  refine pa_iconst hE dL_law_432 (v := 2) (by decide) ?_
  refine pa_iadd hE dL_law_433 ?_
  refine pa_sldX hE hX hbl hbA (hin2) dL_law_434 ?_
  refine pa_callVi hE (ct_X6_shake l g D q u (xs (x3 + 1).toNatClampNeg) (xs (x3 + 2).toNatClampNeg) _ hw) cv_RL_40 pa_in0 rfl rfl rfl (pa_hRL (by decide) (by decide) (by omega) (by omega)) rfl (Nat.le_of_ble_eq_true rfl) dL_law_435 (fun r u1 hw => ?_)
  refine pa_aload_n hE dL_law_438 rfl 2 rfl ?_
  refine pa_aload_n hE dL_law_439 rfl 3 rfl ?_
  refine pa_iload_n hE dL_law_440 rfl 0 rfl ?_
  refine pa_iconst hE dL_law_441 (v := 1) (by decide) ?_
  refine pa_iadd hE dL_law_442 ?_
  refine pa_sldX hE hX hbl hbA (hin1) dL_law_443 ?_
  refine pa_aload_n hE dL_law_444 rfl 3 rfl ?_
  refine pa_iload_n hE dL_law_445 rfl 0 rfl ?_
  refine pa_iconst hE dL_law_446 (v := 2) (by decide) ?_
  refine pa_iadd hE dL_law_447 ?_
  refine pa_sldX hE hX hbl hbA (hin2) dL_law_448 ?_
  refine pa_callVi hE (ct_X7_shake l g D q u1 (xs (x3 + 1).toNatClampNeg) (xs (x3 + 2).toNatClampNeg) _ hw) cv_RL_43 pa_in24 rfl rfl rfl (pa_hRL (by decide) (by decide) (by omega) (by omega)) rfl (Nat.le_of_ble_eq_true rfl) dL_law_449 (fun r' u2 hw => ?_)
  exact pa_icmp_eq hE dL_law_452 (tgt := 1420) (by decide) (fun _ => pa_widen (k := kc + 3) (n := ks + 204) (by omega) (by omega) (kl q u2 hw.2)) (fun z => absurd hw.1 z)
set_option maxRecDepth 100000 in
set_option maxHeartbeats 4000000 in
theorem lc_7 {Inv : pa_S → Prop} {p : Program} {l : Launch} {e : Env} {s : State} {m : MethodId} {below : List Frame} {meth : Method} {c : Code} {D : va_G} {g : pa_G} {q : Nat → Nat → Nat} {kc ks b L : Nat} {xs : Nat → Int32} {u : pa_S} {x3 : Int32} (hE : pa_Fx p s m #[Value.ref b] meth c (fun q : Nat => s.heap.size ≤ q) D g 4 cL_law R_law) (hX : va_X b L xs s s.heap) (hbl : b < s.heap.size) (hbA : ¬ s.heap.size ≤ b) (hin1 : vp_in (x3 + 1) L) (hk : kc + 3 ≤ 600000) (hs : ks + 204 ≤ 7302250) (hw : pa_case Inv u (xs (x3 + 1).toNatClampNeg) (xs (x3 + 2).toNatClampNeg) (xs (x3 + 3).toNatClampNeg) (xs (x3 + 4).toNatClampNeg) (xs (x3 + 5).toNatClampNeg) 7) (kl : ∀ (q : Nat → Nat → Nat) (u : pa_S), Inv u → pa_At p l e room_1 s m #[Value.ref b] below meth c (lw_Z below #[Value.ref b] s) (fun q : Nat => s.heap.size ≤ q) D g 4 (kc + 3) (ks + 204) q u 1420 [(3, .int x3), (1, .ref (q 0 0)), (2, .ref (q 24 0)), (0, .ref b)] []) : pa_At p l e room_1 s m #[Value.ref b] below meth c (lw_Z below #[Value.ref b] s) (fun q : Nat => s.heap.size ≤ q) D g 4 kc ks q u 457 [(3, .int x3), (1, .ref (q 0 0)), (2, .ref (q 24 0)), (0, .ref b)] [] := by
  have hw : wp_X6_feed u (xs (x3 + 1).toNatClampNeg) (fun (r : Int32) (u1 : pa_S) => (wp_X7_feed u1 (xs (x3 + 1).toNatClampNeg) (fun (r' : Int32) (u2 : pa_S) => r = r' ∧ Inv u2))) := hw
  refine pa_aload_n hE dL_law_457 rfl 1 rfl ?_
  refine pa_aload_n hE dL_law_458 rfl 3 rfl ?_
  refine pa_iload_n hE dL_law_459 rfl 0 rfl ?_
  refine pa_iconst hE dL_law_460 (v := 1) (by decide) ?_
  refine pa_iadd hE dL_law_461 ?_
  refine pa_sldX hE hX hbl hbA (hin1) dL_law_462 ?_
  refine pa_callVi hE (ct_X6_feed l g D q u (xs (x3 + 1).toNatClampNeg) _ hw) cv_RL_44 pa_in0 rfl rfl rfl (pa_hRL (by decide) (by decide) (by omega) (by omega)) rfl (Nat.le_of_ble_eq_true rfl) dL_law_463 (fun r u1 hw => ?_)
  refine pa_aload_n hE dL_law_466 rfl 2 rfl ?_
  refine pa_aload_n hE dL_law_467 rfl 3 rfl ?_
  refine pa_iload_n hE dL_law_468 rfl 0 rfl ?_
  refine pa_iconst hE dL_law_469 (v := 1) (by decide) ?_
  refine pa_iadd hE dL_law_470 ?_
  refine pa_sldX hE hX hbl hbA (hin1) dL_law_471 ?_
  refine pa_callVi hE (ct_X7_feed l g D q u1 (xs (x3 + 1).toNatClampNeg) _ hw) cv_RL_47 pa_in24 rfl rfl rfl (pa_hRL (by decide) (by decide) (by omega) (by omega)) rfl (Nat.le_of_ble_eq_true rfl) dL_law_472 (fun r' u2 hw => ?_)
  exact pa_icmp_eq hE dL_law_475 (tgt := 1420) (by decide) (fun _ => pa_widen (k := kc + 3) (n := ks + 204) (by omega) (by omega) (kl q u2 hw.2)) (fun z => absurd hw.1 z)
set_option maxRecDepth 100000 in
set_option maxHeartbeats 4000000 in
theorem lc_8 {Inv : pa_S → Prop} {p : Program} {l : Launch} {e : Env} {s : State} {m : MethodId} {below : List Frame} {meth : Method} {c : Code} {D : va_G} {g : pa_G} {q : Nat → Nat → Nat} {kc ks b L : Nat} {xs : Nat → Int32} {u : pa_S} {x3 : Int32} (hE : pa_Fx p s m #[Value.ref b] meth c (fun q : Nat => s.heap.size ≤ q) D g 4 cL_law R_law) (hX : va_X b L xs s s.heap) (hbl : b < s.heap.size) (hbA : ¬ s.heap.size ≤ b)  (hk : kc + 3 ≤ 600000) (hs : ks + 204 ≤ 7302250) (hw : pa_case Inv u (xs (x3 + 1).toNatClampNeg) (xs (x3 + 2).toNatClampNeg) (xs (x3 + 3).toNatClampNeg) (xs (x3 + 4).toNatClampNeg) (xs (x3 + 5).toNatClampNeg) 8) (kl : ∀ (q : Nat → Nat → Nat) (u : pa_S), Inv u → pa_At p l e room_1 s m #[Value.ref b] below meth c (lw_Z below #[Value.ref b] s) (fun q : Nat => s.heap.size ≤ q) D g 4 (kc + 3) (ks + 204) q u 1420 [(3, .int x3), (1, .ref (q 0 0)), (2, .ref (q 24 0)), (0, .ref b)] []) : pa_At p l e room_1 s m #[Value.ref b] below meth c (lw_Z below #[Value.ref b] s) (fun q : Nat => s.heap.size ≤ q) D g 4 kc ks q u 480 [(3, .int x3), (1, .ref (q 0 0)), (2, .ref (q 24 0)), (0, .ref b)] [] := by
  have hw : wp_X6_booth u (fun (r : Int32) (u1 : pa_S) => (wp_X7_booth u1 (fun (r' : Int32) (u2 : pa_S) => r = r' ∧ Inv u2))) := hw
  refine pa_aload_n hE dL_law_480 rfl 1 rfl ?_
  refine pa_ofb ?_
  refine pb_callVg hE (ct_X6_booth l g D q u _ hw) cv_RL_48 (fun H locs hP hS => ?_) rfl ⟨Nat.le_of_ble_eq_true rfl, Nat.le_of_ble_eq_true rfl, hk, hs⟩ rfl (Nat.le_of_ble_eq_true rfl) dL_law_481 (fun r w e1 => ?_)
  · obtain ⟨b0, -, hb0⟩ := pa_look (g := g) (q := q) (pa_in0 (σ := u))
    exact va_recv (ci := 6) (q := (RX6, TX6, 15)) hE.2.2.2.2.2.1 hP rfl hb0
  obtain ⟨q', u1, ew, hw, hq⟩ := e1
  subst ew
  have e00 : q 0 0 = q' 0 0 := (hq 0 0 (by decide)).symm
  have e24 : q 24 0 = q' 24 0 := (hq 24 0 (by decide)).symm
  rw [e00, e24]
  refine pa_tob ?_
  refine pa_aload_n hE dL_law_484 rfl 2 rfl ?_
  refine pa_callVi hE (ct_X7_booth l g D q' u1  _ hw) cv_RL_52 pa_in24 rfl rfl rfl (pa_hRL (by decide) (by decide) (by omega) (by omega)) rfl (Nat.le_of_ble_eq_true rfl) dL_law_485 (fun r' u2 hw => ?_)
  exact pa_icmp_eq hE dL_law_488 (tgt := 1420) (by decide) (fun _ => pa_widen (k := kc + 3) (n := ks + 204) (by omega) (by omega) (kl q' u2 hw.2)) (fun z => absurd hw.1 z)
set_option maxRecDepth 100000 in
set_option maxHeartbeats 4000000 in
theorem lc_9 {Inv : pa_S → Prop} {p : Program} {l : Launch} {e : Env} {s : State} {m : MethodId} {below : List Frame} {meth : Method} {c : Code} {D : va_G} {g : pa_G} {q : Nat → Nat → Nat} {kc ks b L : Nat} {xs : Nat → Int32} {u : pa_S} {x3 : Int32} (hE : pa_Fx p s m #[Value.ref b] meth c (fun q : Nat => s.heap.size ≤ q) D g 4 cL_law R_law) (hX : va_X b L xs s s.heap) (hbl : b < s.heap.size) (hbA : ¬ s.heap.size ≤ b) (hin1 : vp_in (x3 + 1) L) (hk : kc + 3 ≤ 600000) (hs : ks + 204 ≤ 7302250) (hw : pa_case Inv u (xs (x3 + 1).toNatClampNeg) (xs (x3 + 2).toNatClampNeg) (xs (x3 + 3).toNatClampNeg) (xs (x3 + 4).toNatClampNeg) (xs (x3 + 5).toNatClampNeg) 9) (kl : ∀ (q : Nat → Nat → Nat) (u : pa_S), Inv u → pa_At p l e room_1 s m #[Value.ref b] below meth c (lw_Z below #[Value.ref b] s) (fun q : Nat => s.heap.size ≤ q) D g 4 (kc + 3) (ks + 204) q u 1420 [(3, .int x3), (1, .ref (q 0 0)), (2, .ref (q 24 0)), (0, .ref b)] []) : pa_At p l e room_1 s m #[Value.ref b] below meth c (lw_Z below #[Value.ref b] s) (fun q : Nat => s.heap.size ≤ q) D g 4 kc ks q u 493 [(3, .int x3), (1, .ref (q 0 0)), (2, .ref (q 24 0)), (0, .ref b)] [] := by
  have hw : wp_X6_told u (xs (x3 + 1).toNatClampNeg) (fun (r : Int32) (u1 : pa_S) => (wp_X7_told u1 (xs (x3 + 1).toNatClampNeg) (fun (r' : Int32) (u2 : pa_S) => r = r' ∧ Inv u2))) := hw
  refine pa_aload_n hE dL_law_493 rfl 1 rfl ?_
  refine pa_aload_n hE dL_law_494 rfl 3 rfl ?_
  refine pa_iload_n hE dL_law_495 rfl 0 rfl ?_
  refine pa_iconst hE dL_law_496 (v := 1) (by decide) ?_
  refine pa_iadd hE dL_law_497 ?_
  refine pa_sldX hE hX hbl hbA (hin1) dL_law_498 ?_
  refine pa_callVi hE (ct_X6_told l g D q u (xs (x3 + 1).toNatClampNeg) _ hw) cv_RL_53 pa_in0 rfl rfl rfl (pa_hRL (by decide) (by decide) (by omega) (by omega)) rfl (Nat.le_of_ble_eq_true rfl) dL_law_499 (fun r u1 hw => ?_)
  refine pa_aload_n hE dL_law_502 rfl 2 rfl ?_
  refine pa_aload_n hE dL_law_503 rfl 3 rfl ?_
  refine pa_iload_n hE dL_law_504 rfl 0 rfl ?_
  refine pa_iconst hE dL_law_505 (v := 1) (by decide) ?_
  refine pa_iadd hE dL_law_506 ?_
  refine pa_sldX hE hX hbl hbA (hin1) dL_law_507 ?_
  refine pa_callVi hE (ct_X7_told l g D q u1 (xs (x3 + 1).toNatClampNeg) _ hw) cv_RL_56 pa_in24 rfl rfl rfl (pa_hRL (by decide) (by decide) (by omega) (by omega)) rfl (Nat.le_of_ble_eq_true rfl) dL_law_508 (fun r' u2 hw => ?_)
  exact pa_icmp_eq hE dL_law_511 (tgt := 1420) (by decide) (fun _ => pa_widen (k := kc + 3) (n := ks + 204) (by omega) (by omega) (kl q u2 hw.2)) (fun z => absurd hw.1 z)
set_option maxRecDepth 100000 in
set_option maxHeartbeats 4000000 in
theorem lc_10 {Inv : pa_S → Prop} {p : Program} {l : Launch} {e : Env} {s : State} {m : MethodId} {below : List Frame} {meth : Method} {c : Code} {D : va_G} {g : pa_G} {q : Nat → Nat → Nat} {kc ks b L : Nat} {xs : Nat → Int32} {u : pa_S} {x3 : Int32} (hE : pa_Fx p s m #[Value.ref b] meth c (fun q : Nat => s.heap.size ≤ q) D g 4 cL_law R_law) (hX : va_X b L xs s s.heap) (hbl : b < s.heap.size) (hbA : ¬ s.heap.size ≤ b) (hin1 : vp_in (x3 + 1) L) (hk : kc + 3 ≤ 600000) (hs : ks + 204 ≤ 7302250) (hw : pa_case Inv u (xs (x3 + 1).toNatClampNeg) (xs (x3 + 2).toNatClampNeg) (xs (x3 + 3).toNatClampNeg) (xs (x3 + 4).toNatClampNeg) (xs (x3 + 5).toNatClampNeg) 10) (kl : ∀ (q : Nat → Nat → Nat) (u : pa_S), Inv u → pa_At p l e room_1 s m #[Value.ref b] below meth c (lw_Z below #[Value.ref b] s) (fun q : Nat => s.heap.size ≤ q) D g 4 (kc + 3) (ks + 204) q u 1420 [(3, .int x3), (1, .ref (q 0 0)), (2, .ref (q 24 0)), (0, .ref b)] []) : pa_At p l e room_1 s m #[Value.ref b] below meth c (lw_Z below #[Value.ref b] s) (fun q : Nat => s.heap.size ≤ q) D g 4 kc ks q u 516 [(3, .int x3), (1, .ref (q 0 0)), (2, .ref (q 24 0)), (0, .ref b)] [] := by
  have hw : wp_X6_pass u (xs (x3 + 1).toNatClampNeg) (fun (r : Int32) (u1 : pa_S) => (wp_X7_pass u1 (xs (x3 + 1).toNatClampNeg) (fun (r' : Int32) (u2 : pa_S) => r = r' ∧ Inv u2))) := hw
  refine pa_aload_n hE dL_law_516 rfl 1 rfl ?_
  refine pa_aload_n hE dL_law_517 rfl 3 rfl ?_
  refine pa_iload_n hE dL_law_518 rfl 0 rfl ?_
  refine pa_iconst hE dL_law_519 (v := 1) (by decide) ?_
  refine pa_iadd hE dL_law_520 ?_
  refine pa_sldX hE hX hbl hbA (hin1) dL_law_521 ?_
  refine pa_callVi hE (ct_X6_pass l g D q u (xs (x3 + 1).toNatClampNeg) _ hw) cv_RL_57 pa_in0 rfl rfl rfl (pa_hRL (by decide) (by decide) (by omega) (by omega)) rfl (Nat.le_of_ble_eq_true rfl) dL_law_522 (fun r u1 hw => ?_)
  refine pa_aload_n hE dL_law_525 rfl 2 rfl ?_
  refine pa_aload_n hE dL_law_526 rfl 3 rfl ?_
  refine pa_iload_n hE dL_law_527 rfl 0 rfl ?_
  refine pa_iconst hE dL_law_528 (v := 1) (by decide) ?_
  refine pa_iadd hE dL_law_529 ?_
  refine pa_sldX hE hX hbl hbA (hin1) dL_law_530 ?_
  refine pa_callVi hE (ct_X7_pass l g D q u1 (xs (x3 + 1).toNatClampNeg) _ hw) cv_RL_60 pa_in24 rfl rfl rfl (pa_hRL (by decide) (by decide) (by omega) (by omega)) rfl (Nat.le_of_ble_eq_true rfl) dL_law_531 (fun r' u2 hw => ?_)
  exact pa_icmp_eq hE dL_law_534 (tgt := 1420) (by decide) (fun _ => pa_widen (k := kc + 3) (n := ks + 204) (by omega) (by omega) (kl q u2 hw.2)) (fun z => absurd hw.1 z)
set_option maxRecDepth 100000 in
set_option maxHeartbeats 4000000 in
theorem lc_11 {Inv : pa_S → Prop} {p : Program} {l : Launch} {e : Env} {s : State} {m : MethodId} {below : List Frame} {meth : Method} {c : Code} {D : va_G} {g : pa_G} {q : Nat → Nat → Nat} {kc ks b L : Nat} {xs : Nat → Int32} {u : pa_S} {x3 : Int32} (hE : pa_Fx p s m #[Value.ref b] meth c (fun q : Nat => s.heap.size ≤ q) D g 4 cL_law R_law) (hX : va_X b L xs s s.heap) (hbl : b < s.heap.size) (hbA : ¬ s.heap.size ≤ b) (hin1 : vp_in (x3 + 1) L) (hin2 : vp_in (x3 + 2) L) (hk : kc + 3 ≤ 600000) (hs : ks + 204 ≤ 7302250) (hw : pa_case Inv u (xs (x3 + 1).toNatClampNeg) (xs (x3 + 2).toNatClampNeg) (xs (x3 + 3).toNatClampNeg) (xs (x3 + 4).toNatClampNeg) (xs (x3 + 5).toNatClampNeg) 11) (kl : ∀ (q : Nat → Nat → Nat) (u : pa_S), Inv u → pa_At p l e room_1 s m #[Value.ref b] below meth c (lw_Z below #[Value.ref b] s) (fun q : Nat => s.heap.size ≤ q) D g 4 (kc + 3) (ks + 204) q u 1420 [(3, .int x3), (1, .ref (q 0 0)), (2, .ref (q 24 0)), (0, .ref b)] []) : pa_At p l e room_1 s m #[Value.ref b] below meth c (lw_Z below #[Value.ref b] s) (fun q : Nat => s.heap.size ≤ q) D g 4 kc ks q u 539 [(3, .int x3), (1, .ref (q 0 0)), (2, .ref (q 24 0)), (0, .ref b)] [] := by
  have hw : wp_X6_on u (xs (x3 + 1).toNatClampNeg) (xs (x3 + 2).toNatClampNeg) (fun (r : Int32) (u1 : pa_S) => (wp_X7_on u1 (xs (x3 + 1).toNatClampNeg) (xs (x3 + 2).toNatClampNeg) (fun (r' : Int32) (u2 : pa_S) => r = r' ∧ Inv u2))) := hw
  refine pa_aload_n hE dL_law_539 rfl 1 rfl ?_
  refine pa_aload_n hE dL_law_540 rfl 3 rfl ?_
  refine pa_iload_n hE dL_law_541 rfl 0 rfl ?_
  refine pa_iconst hE dL_law_542 (v := 1) (by decide) ?_
  refine pa_iadd hE dL_law_543 ?_
  refine pa_sldX hE hX hbl hbA (hin1) dL_law_544 ?_
  refine pa_aload_n hE dL_law_545 rfl 3 rfl ?_
  refine pa_iload_n hE dL_law_546 rfl 0 rfl ?_
  refine pa_iconst hE dL_law_547 (v := 2) (by decide) ?_
  refine pa_iadd hE dL_law_548 ?_
  refine pa_sldX hE hX hbl hbA (hin2) dL_law_549 ?_
  refine pa_callVi hE (ct_X6_on l g D q u (xs (x3 + 1).toNatClampNeg) (xs (x3 + 2).toNatClampNeg) _ hw) cv_RL_61 pa_in0 rfl rfl rfl (pa_hRL (by decide) (by decide) (by omega) (by omega)) rfl (Nat.le_of_ble_eq_true rfl) dL_law_550 (fun r u1 hw => ?_)
  refine pa_aload_n hE dL_law_553 rfl 2 rfl ?_
  refine pa_aload_n hE dL_law_554 rfl 3 rfl ?_
  refine pa_iload_n hE dL_law_555 rfl 0 rfl ?_
  refine pa_iconst hE dL_law_556 (v := 1) (by decide) ?_
  refine pa_iadd hE dL_law_557 ?_
  refine pa_sldX hE hX hbl hbA (hin1) dL_law_558 ?_
  refine pa_aload_n hE dL_law_559 rfl 3 rfl ?_
  refine pa_iload_n hE dL_law_560 rfl 0 rfl ?_
  refine pa_iconst hE dL_law_561 (v := 2) (by decide) ?_
  refine pa_iadd hE dL_law_562 ?_
  refine pa_sldX hE hX hbl hbA (hin2) dL_law_563 ?_
  refine pa_callVi hE (ct_X7_on l g D q u1 (xs (x3 + 1).toNatClampNeg) (xs (x3 + 2).toNatClampNeg) _ hw) cv_RL_64 pa_in24 rfl rfl rfl (pa_hRL (by decide) (by decide) (by omega) (by omega)) rfl (Nat.le_of_ble_eq_true rfl) dL_law_564 (fun r' u2 hw => ?_)
  exact pa_icmp_eq hE dL_law_567 (tgt := 1420) (by decide) (fun _ => pa_widen (k := kc + 3) (n := ks + 204) (by omega) (by omega) (kl q u2 hw.2)) (fun z => absurd hw.1 z)
set_option maxRecDepth 100000 in
set_option maxHeartbeats 4000000 in
theorem lc_12 {Inv : pa_S → Prop} {p : Program} {l : Launch} {e : Env} {s : State} {m : MethodId} {below : List Frame} {meth : Method} {c : Code} {D : va_G} {g : pa_G} {q : Nat → Nat → Nat} {kc ks b L : Nat} {xs : Nat → Int32} {u : pa_S} {x3 : Int32} (hE : pa_Fx p s m #[Value.ref b] meth c (fun q : Nat => s.heap.size ≤ q) D g 4 cL_law R_law) (hX : va_X b L xs s s.heap) (hbl : b < s.heap.size) (hbA : ¬ s.heap.size ≤ b) (hin1 : vp_in (x3 + 1) L) (hin2 : vp_in (x3 + 2) L) (hk : kc + 3 ≤ 600000) (hs : ks + 204 ≤ 7302250) (hw : pa_case Inv u (xs (x3 + 1).toNatClampNeg) (xs (x3 + 2).toNatClampNeg) (xs (x3 + 3).toNatClampNeg) (xs (x3 + 4).toNatClampNeg) (xs (x3 + 5).toNatClampNeg) 12) (kl : ∀ (q : Nat → Nat → Nat) (u : pa_S), Inv u → pa_At p l e room_1 s m #[Value.ref b] below meth c (lw_Z below #[Value.ref b] s) (fun q : Nat => s.heap.size ≤ q) D g 4 (kc + 3) (ks + 204) q u 1420 [(3, .int x3), (1, .ref (q 0 0)), (2, .ref (q 24 0)), (0, .ref b)] []) : pa_At p l e room_1 s m #[Value.ref b] below meth c (lw_Z below #[Value.ref b] s) (fun q : Nat => s.heap.size ≤ q) D g 4 kc ks q u 572 [(3, .int x3), (1, .ref (q 0 0)), (2, .ref (q 24 0)), (0, .ref b)] [] := by
  have hw : wp_X6_lasts u (xs (x3 + 1).toNatClampNeg) (xs (x3 + 2).toNatClampNeg) (fun (r : Int32) (u1 : pa_S) => (wp_X7_lasts u1 (xs (x3 + 1).toNatClampNeg) (xs (x3 + 2).toNatClampNeg) (fun (r' : Int32) (u2 : pa_S) => r = r' ∧ Inv u2))) := hw
  refine pa_aload_n hE dL_law_572 rfl 1 rfl ?_
  refine pa_aload_n hE dL_law_573 rfl 3 rfl ?_
  refine pa_iload_n hE dL_law_574 rfl 0 rfl ?_
  refine pa_iconst hE dL_law_575 (v := 1) (by decide) ?_
  refine pa_iadd hE dL_law_576 ?_
  refine pa_sldX hE hX hbl hbA (hin1) dL_law_577 ?_
  refine pa_aload_n hE dL_law_578 rfl 3 rfl ?_
  refine pa_iload_n hE dL_law_579 rfl 0 rfl ?_
  refine pa_iconst hE dL_law_580 (v := 2) (by decide) ?_
  refine pa_iadd hE dL_law_581 ?_
  refine pa_sldX hE hX hbl hbA (hin2) dL_law_582 ?_
  refine pa_callVi hE (ct_X6_lasts l g D q u (xs (x3 + 1).toNatClampNeg) (xs (x3 + 2).toNatClampNeg) _ hw) cv_RL_65 pa_in0 rfl rfl rfl (pa_hRL (by decide) (by decide) (by omega) (by omega)) rfl (Nat.le_of_ble_eq_true rfl) dL_law_583 (fun r u1 hw => ?_)
  refine pa_aload_n hE dL_law_586 rfl 2 rfl ?_
  refine pa_aload_n hE dL_law_587 rfl 3 rfl ?_
  refine pa_iload_n hE dL_law_588 rfl 0 rfl ?_
  refine pa_iconst hE dL_law_589 (v := 1) (by decide) ?_
  refine pa_iadd hE dL_law_590 ?_
  refine pa_sldX hE hX hbl hbA (hin1) dL_law_591 ?_
  refine pa_aload_n hE dL_law_592 rfl 3 rfl ?_
  refine pa_iload_n hE dL_law_593 rfl 0 rfl ?_
  refine pa_iconst hE dL_law_594 (v := 2) (by decide) ?_
  refine pa_iadd hE dL_law_595 ?_
  refine pa_sldX hE hX hbl hbA (hin2) dL_law_596 ?_
  refine pa_callVi hE (ct_X7_lasts l g D q u1 (xs (x3 + 1).toNatClampNeg) (xs (x3 + 2).toNatClampNeg) _ hw) cv_RL_68 pa_in24 rfl rfl rfl (pa_hRL (by decide) (by decide) (by omega) (by omega)) rfl (Nat.le_of_ble_eq_true rfl) dL_law_597 (fun r' u2 hw => ?_)
  exact pa_icmp_eq hE dL_law_600 (tgt := 1420) (by decide) (fun _ => pa_widen (k := kc + 3) (n := ks + 204) (by omega) (by omega) (kl q u2 hw.2)) (fun z => absurd hw.1 z)
set_option maxRecDepth 100000 in
set_option maxHeartbeats 4000000 in
theorem lc_13 {Inv : pa_S → Prop} {p : Program} {l : Launch} {e : Env} {s : State} {m : MethodId} {below : List Frame} {meth : Method} {c : Code} {D : va_G} {g : pa_G} {q : Nat → Nat → Nat} {kc ks b L : Nat} {xs : Nat → Int32} {u : pa_S} {x3 : Int32} (hE : pa_Fx p s m #[Value.ref b] meth c (fun q : Nat => s.heap.size ≤ q) D g 4 cL_law R_law) (hX : va_X b L xs s s.heap) (hbl : b < s.heap.size) (hbA : ¬ s.heap.size ≤ b) (hin1 : vp_in (x3 + 1) L) (hin2 : vp_in (x3 + 2) L) (hk : kc + 3 ≤ 600000) (hs : ks + 204 ≤ 7302250) (hw : pa_case Inv u (xs (x3 + 1).toNatClampNeg) (xs (x3 + 2).toNatClampNeg) (xs (x3 + 3).toNatClampNeg) (xs (x3 + 4).toNatClampNeg) (xs (x3 + 5).toNatClampNeg) 13) (kl : ∀ (q : Nat → Nat → Nat) (u : pa_S), Inv u → pa_At p l e room_1 s m #[Value.ref b] below meth c (lw_Z below #[Value.ref b] s) (fun q : Nat => s.heap.size ≤ q) D g 4 (kc + 3) (ks + 204) q u 1420 [(3, .int x3), (1, .ref (q 0 0)), (2, .ref (q 24 0)), (0, .ref b)] []) : pa_At p l e room_1 s m #[Value.ref b] below meth c (lw_Z below #[Value.ref b] s) (fun q : Nat => s.heap.size ≤ q) D g 4 kc ks q u 605 [(3, .int x3), (1, .ref (q 0 0)), (2, .ref (q 24 0)), (0, .ref b)] [] := by
  have hw : wp_X6_pen u (xs (x3 + 1).toNatClampNeg) (xs (x3 + 2).toNatClampNeg) (fun (r : Int32) (u1 : pa_S) => (wp_X7_pen u1 (xs (x3 + 1).toNatClampNeg) (xs (x3 + 2).toNatClampNeg) (fun (r' : Int32) (u2 : pa_S) => r = r' ∧ Inv u2))) := hw
  refine pa_aload_n hE dL_law_605 rfl 1 rfl ?_
  refine pa_aload_n hE dL_law_606 rfl 3 rfl ?_
  refine pa_iload_n hE dL_law_607 rfl 0 rfl ?_
  refine pa_iconst hE dL_law_608 (v := 1) (by decide) ?_
  refine pa_iadd hE dL_law_609 ?_
  refine pa_sldX hE hX hbl hbA (hin1) dL_law_610 ?_
  refine pa_aload_n hE dL_law_611 rfl 3 rfl ?_
  refine pa_iload_n hE dL_law_612 rfl 0 rfl ?_
  refine pa_iconst hE dL_law_613 (v := 2) (by decide) ?_
  refine pa_iadd hE dL_law_614 ?_
  refine pa_sldX hE hX hbl hbA (hin2) dL_law_615 ?_
  refine pa_callVi hE (ct_X6_pen l g D q u (xs (x3 + 1).toNatClampNeg) (xs (x3 + 2).toNatClampNeg) _ hw) cv_RL_69 pa_in0 rfl rfl rfl (pa_hRL (by decide) (by decide) (by omega) (by omega)) rfl (Nat.le_of_ble_eq_true rfl) dL_law_616 (fun r u1 hw => ?_)
  refine pa_aload_n hE dL_law_619 rfl 2 rfl ?_
  refine pa_aload_n hE dL_law_620 rfl 3 rfl ?_
  refine pa_iload_n hE dL_law_621 rfl 0 rfl ?_
  refine pa_iconst hE dL_law_622 (v := 1) (by decide) ?_
  refine pa_iadd hE dL_law_623 ?_
  refine pa_sldX hE hX hbl hbA (hin1) dL_law_624 ?_
  refine pa_aload_n hE dL_law_625 rfl 3 rfl ?_
  refine pa_iload_n hE dL_law_626 rfl 0 rfl ?_
  refine pa_iconst hE dL_law_627 (v := 2) (by decide) ?_
  refine pa_iadd hE dL_law_628 ?_
  refine pa_sldX hE hX hbl hbA (hin2) dL_law_629 ?_
  refine pa_callVi hE (ct_X7_pen l g D q u1 (xs (x3 + 1).toNatClampNeg) (xs (x3 + 2).toNatClampNeg) _ hw) cv_RL_72 pa_in24 rfl rfl rfl (pa_hRL (by decide) (by decide) (by omega) (by omega)) rfl (Nat.le_of_ble_eq_true rfl) dL_law_630 (fun r' u2 hw => ?_)
  exact pa_icmp_eq hE dL_law_633 (tgt := 1420) (by decide) (fun _ => pa_widen (k := kc + 3) (n := ks + 204) (by omega) (by omega) (kl q u2 hw.2)) (fun z => absurd hw.1 z)
set_option maxRecDepth 100000 in
set_option maxHeartbeats 4000000 in
theorem lc_14 {Inv : pa_S → Prop} {p : Program} {l : Launch} {e : Env} {s : State} {m : MethodId} {below : List Frame} {meth : Method} {c : Code} {D : va_G} {g : pa_G} {q : Nat → Nat → Nat} {kc ks b L : Nat} {xs : Nat → Int32} {u : pa_S} {x3 : Int32} (hE : pa_Fx p s m #[Value.ref b] meth c (fun q : Nat => s.heap.size ≤ q) D g 4 cL_law R_law) (hX : va_X b L xs s s.heap) (hbl : b < s.heap.size) (hbA : ¬ s.heap.size ≤ b) (hin1 : vp_in (x3 + 1) L) (hin2 : vp_in (x3 + 2) L) (hin3 : vp_in (x3 + 3) L) (hk : kc + 3 ≤ 600000) (hs : ks + 204 ≤ 7302250) (hw : pa_case Inv u (xs (x3 + 1).toNatClampNeg) (xs (x3 + 2).toNatClampNeg) (xs (x3 + 3).toNatClampNeg) (xs (x3 + 4).toNatClampNeg) (xs (x3 + 5).toNatClampNeg) 14) (kl : ∀ (q : Nat → Nat → Nat) (u : pa_S), Inv u → pa_At p l e room_1 s m #[Value.ref b] below meth c (lw_Z below #[Value.ref b] s) (fun q : Nat => s.heap.size ≤ q) D g 4 (kc + 3) (ks + 204) q u 1420 [(3, .int x3), (1, .ref (q 0 0)), (2, .ref (q 24 0)), (0, .ref b)] []) : pa_At p l e room_1 s m #[Value.ref b] below meth c (lw_Z below #[Value.ref b] s) (fun q : Nat => s.heap.size ≤ q) D g 4 kc ks q u 638 [(3, .int x3), (1, .ref (q 0 0)), (2, .ref (q 24 0)), (0, .ref b)] [] := by
  have hw : wp_X6_share u (xs (x3 + 1).toNatClampNeg) (xs (x3 + 2).toNatClampNeg) (xs (x3 + 3).toNatClampNeg) (fun (r : Int32) (u1 : pa_S) => (wp_X7_share u1 (xs (x3 + 1).toNatClampNeg) (xs (x3 + 2).toNatClampNeg) (xs (x3 + 3).toNatClampNeg) (fun (r' : Int32) (u2 : pa_S) => r = r' ∧ Inv u2))) := hw
  refine pa_aload_n hE dL_law_638 rfl 1 rfl ?_
  refine pa_aload_n hE dL_law_639 rfl 3 rfl ?_
  refine pa_iload_n hE dL_law_640 rfl 0 rfl ?_
  refine pa_iconst hE dL_law_641 (v := 1) (by decide) ?_
  refine pa_iadd hE dL_law_642 ?_
  refine pa_sldX hE hX hbl hbA (hin1) dL_law_643 ?_
  refine pa_aload_n hE dL_law_644 rfl 3 rfl ?_
  refine pa_iload_n hE dL_law_645 rfl 0 rfl ?_
  refine pa_iconst hE dL_law_646 (v := 2) (by decide) ?_
  refine pa_iadd hE dL_law_647 ?_
  refine pa_sldX hE hX hbl hbA (hin2) dL_law_648 ?_
  refine pa_aload_n hE dL_law_649 rfl 3 rfl ?_
  refine pa_iload_n hE dL_law_650 rfl 0 rfl ?_
  refine pa_iconst hE dL_law_651 (v := 3) (by decide) ?_
  refine pa_iadd hE dL_law_652 ?_
  refine pa_sldX hE hX hbl hbA (hin3) dL_law_653 ?_
  refine pa_callVi hE (ct_X6_share l g D q u (xs (x3 + 1).toNatClampNeg) (xs (x3 + 2).toNatClampNeg) (xs (x3 + 3).toNatClampNeg) _ hw) cv_RL_73 pa_in0 rfl rfl rfl (pa_hRL (by decide) (by decide) (by omega) (by omega)) rfl (Nat.le_of_ble_eq_true rfl) dL_law_654 (fun r u1 hw => ?_)
  refine pa_aload_n hE dL_law_657 rfl 2 rfl ?_
  refine pa_aload_n hE dL_law_658 rfl 3 rfl ?_
  refine pa_iload_n hE dL_law_659 rfl 0 rfl ?_
  refine pa_iconst hE dL_law_660 (v := 1) (by decide) ?_
  refine pa_iadd hE dL_law_661 ?_
  refine pa_sldX hE hX hbl hbA (hin1) dL_law_662 ?_
  refine pa_aload_n hE dL_law_663 rfl 3 rfl ?_
  refine pa_iload_n hE dL_law_664 rfl 0 rfl ?_
  refine pa_iconst hE dL_law_665 (v := 2) (by decide) ?_
  refine pa_iadd hE dL_law_666 ?_
  refine pa_sldX hE hX hbl hbA (hin2) dL_law_667 ?_
  refine pa_aload_n hE dL_law_668 rfl 3 rfl ?_
  refine pa_iload_n hE dL_law_669 rfl 0 rfl ?_
  refine pa_iconst hE dL_law_670 (v := 3) (by decide) ?_
  refine pa_iadd hE dL_law_671 ?_
  refine pa_sldX hE hX hbl hbA (hin3) dL_law_672 ?_
  refine pa_callVi hE (ct_X7_share l g D q u1 (xs (x3 + 1).toNatClampNeg) (xs (x3 + 2).toNatClampNeg) (xs (x3 + 3).toNatClampNeg) _ hw) cv_RL_76 pa_in24 rfl rfl rfl (pa_hRL (by decide) (by decide) (by omega) (by omega)) rfl (Nat.le_of_ble_eq_true rfl) dL_law_673 (fun r' u2 hw => ?_)
  exact pa_icmp_eq hE dL_law_676 (tgt := 1420) (by decide) (fun _ => pa_widen (k := kc + 3) (n := ks + 204) (by omega) (by omega) (kl q u2 hw.2)) (fun z => absurd hw.1 z)
set_option maxRecDepth 100000 in
set_option maxHeartbeats 4000000 in
theorem lc_15 {Inv : pa_S → Prop} {p : Program} {l : Launch} {e : Env} {s : State} {m : MethodId} {below : List Frame} {meth : Method} {c : Code} {D : va_G} {g : pa_G} {q : Nat → Nat → Nat} {kc ks b L : Nat} {xs : Nat → Int32} {u : pa_S} {x3 : Int32} (hE : pa_Fx p s m #[Value.ref b] meth c (fun q : Nat => s.heap.size ≤ q) D g 4 cL_law R_law) (hX : va_X b L xs s s.heap) (hbl : b < s.heap.size) (hbA : ¬ s.heap.size ≤ b)  (hk : kc + 3 ≤ 600000) (hs : ks + 204 ≤ 7302250) (hw : pa_case Inv u (xs (x3 + 1).toNatClampNeg) (xs (x3 + 2).toNatClampNeg) (xs (x3 + 3).toNatClampNeg) (xs (x3 + 4).toNatClampNeg) (xs (x3 + 5).toNatClampNeg) 15) (kl : ∀ (q : Nat → Nat → Nat) (u : pa_S), Inv u → pa_At p l e room_1 s m #[Value.ref b] below meth c (lw_Z below #[Value.ref b] s) (fun q : Nat => s.heap.size ≤ q) D g 4 (kc + 3) (ks + 204) q u 1420 [(3, .int x3), (1, .ref (q 0 0)), (2, .ref (q 24 0)), (0, .ref b)] []) : pa_At p l e room_1 s m #[Value.ref b] below meth c (lw_Z below #[Value.ref b] s) (fun q : Nat => s.heap.size ≤ q) D g 4 kc ks q u 681 [(3, .int x3), (1, .ref (q 0 0)), (2, .ref (q 24 0)), (0, .ref b)] [] := by
  have hw : wp_X6_meet u (fun (r : Int32) (u1 : pa_S) => (wp_X7_meet u1 (fun (r' : Int32) (u2 : pa_S) => r = r' ∧ Inv u2))) := hw
  refine pa_aload_n hE dL_law_681 rfl 1 rfl ?_
  refine pa_callVi hE (ct_X6_meet l g D q u  _ hw) cv_RL_77 pa_in0 rfl rfl rfl (pa_hRL (by decide) (by decide) (by omega) (by omega)) rfl (Nat.le_of_ble_eq_true rfl) dL_law_682 (fun r u1 hw => ?_)
  refine pa_aload_n hE dL_law_685 rfl 2 rfl ?_
  refine pa_callVi hE (ct_X7_meet l g D q u1  _ hw) cv_RL_80 pa_in24 rfl rfl rfl (pa_hRL (by decide) (by decide) (by omega) (by omega)) rfl (Nat.le_of_ble_eq_true rfl) dL_law_686 (fun r' u2 hw => ?_)
  exact pa_icmp_eq hE dL_law_689 (tgt := 1420) (by decide) (fun _ => pa_widen (k := kc + 3) (n := ks + 204) (by omega) (by omega) (kl q u2 hw.2)) (fun z => absurd hw.1 z)
set_option maxRecDepth 100000 in
set_option maxHeartbeats 4000000 in
theorem lc_16 {Inv : pa_S → Prop} {p : Program} {l : Launch} {e : Env} {s : State} {m : MethodId} {below : List Frame} {meth : Method} {c : Code} {D : va_G} {g : pa_G} {q : Nat → Nat → Nat} {kc ks b L : Nat} {xs : Nat → Int32} {u : pa_S} {x3 : Int32} (hE : pa_Fx p s m #[Value.ref b] meth c (fun q : Nat => s.heap.size ≤ q) D g 4 cL_law R_law) (hX : va_X b L xs s s.heap) (hbl : b < s.heap.size) (hbA : ¬ s.heap.size ≤ b) (hin1 : vp_in (x3 + 1) L) (hin2 : vp_in (x3 + 2) L) (hin3 : vp_in (x3 + 3) L) (hk : kc + 3 ≤ 600000) (hs : ks + 204 ≤ 7302250) (hw : pa_case Inv u (xs (x3 + 1).toNatClampNeg) (xs (x3 + 2).toNatClampNeg) (xs (x3 + 3).toNatClampNeg) (xs (x3 + 4).toNatClampNeg) (xs (x3 + 5).toNatClampNeg) 16) (kl : ∀ (q : Nat → Nat → Nat) (u : pa_S), Inv u → pa_At p l e room_1 s m #[Value.ref b] below meth c (lw_Z below #[Value.ref b] s) (fun q : Nat => s.heap.size ≤ q) D g 4 (kc + 3) (ks + 204) q u 1420 [(3, .int x3), (1, .ref (q 0 0)), (2, .ref (q 24 0)), (0, .ref b)] []) : pa_At p l e room_1 s m #[Value.ref b] below meth c (lw_Z below #[Value.ref b] s) (fun q : Nat => s.heap.size ≤ q) D g 4 kc ks q u 694 [(3, .int x3), (1, .ref (q 0 0)), (2, .ref (q 24 0)), (0, .ref b)] [] := by
  have hw : wp_X6_book u (xs (x3 + 1).toNatClampNeg) (xs (x3 + 2).toNatClampNeg) (xs (x3 + 3).toNatClampNeg) (fun (r : Int32) (u1 : pa_S) => (wp_X7_book u1 (xs (x3 + 1).toNatClampNeg) (xs (x3 + 2).toNatClampNeg) (xs (x3 + 3).toNatClampNeg) (fun (r' : Int32) (u2 : pa_S) => r = r' ∧ Inv u2))) := hw
  refine pa_aload_n hE dL_law_694 rfl 1 rfl ?_
  refine pa_aload_n hE dL_law_695 rfl 3 rfl ?_
  refine pa_iload_n hE dL_law_696 rfl 0 rfl ?_
  refine pa_iconst hE dL_law_697 (v := 1) (by decide) ?_
  refine pa_iadd hE dL_law_698 ?_
  refine pa_sldX hE hX hbl hbA (hin1) dL_law_699 ?_
  refine pa_aload_n hE dL_law_700 rfl 3 rfl ?_
  refine pa_iload_n hE dL_law_701 rfl 0 rfl ?_
  refine pa_iconst hE dL_law_702 (v := 2) (by decide) ?_
  refine pa_iadd hE dL_law_703 ?_
  refine pa_sldX hE hX hbl hbA (hin2) dL_law_704 ?_
  refine pa_aload_n hE dL_law_705 rfl 3 rfl ?_
  refine pa_iload_n hE dL_law_706 rfl 0 rfl ?_
  refine pa_iconst hE dL_law_707 (v := 3) (by decide) ?_
  refine pa_iadd hE dL_law_708 ?_
  refine pa_sldX hE hX hbl hbA (hin3) dL_law_709 ?_
  refine pa_callVi hE (ct_X6_book l g D q u (xs (x3 + 1).toNatClampNeg) (xs (x3 + 2).toNatClampNeg) (xs (x3 + 3).toNatClampNeg) _ hw) cv_RL_81 pa_in0 rfl rfl rfl (pa_hRL (by decide) (by decide) (by omega) (by omega)) rfl (Nat.le_of_ble_eq_true rfl) dL_law_710 (fun r u1 hw => ?_)
  refine pa_aload_n hE dL_law_713 rfl 2 rfl ?_
  refine pa_aload_n hE dL_law_714 rfl 3 rfl ?_
  refine pa_iload_n hE dL_law_715 rfl 0 rfl ?_
  refine pa_iconst hE dL_law_716 (v := 1) (by decide) ?_
  refine pa_iadd hE dL_law_717 ?_
  refine pa_sldX hE hX hbl hbA (hin1) dL_law_718 ?_
  refine pa_aload_n hE dL_law_719 rfl 3 rfl ?_
  refine pa_iload_n hE dL_law_720 rfl 0 rfl ?_
  refine pa_iconst hE dL_law_721 (v := 2) (by decide) ?_
  refine pa_iadd hE dL_law_722 ?_
  refine pa_sldX hE hX hbl hbA (hin2) dL_law_723 ?_
  refine pa_aload_n hE dL_law_724 rfl 3 rfl ?_
  refine pa_iload_n hE dL_law_725 rfl 0 rfl ?_
  refine pa_iconst hE dL_law_726 (v := 3) (by decide) ?_
  refine pa_iadd hE dL_law_727 ?_
  refine pa_sldX hE hX hbl hbA (hin3) dL_law_728 ?_
  refine pa_callVi hE (ct_X7_book l g D q u1 (xs (x3 + 1).toNatClampNeg) (xs (x3 + 2).toNatClampNeg) (xs (x3 + 3).toNatClampNeg) _ hw) cv_RL_84 pa_in24 rfl rfl rfl (pa_hRL (by decide) (by decide) (by omega) (by omega)) rfl (Nat.le_of_ble_eq_true rfl) dL_law_729 (fun r' u2 hw => ?_)
  exact pa_icmp_eq hE dL_law_732 (tgt := 1420) (by decide) (fun _ => pa_widen (k := kc + 3) (n := ks + 204) (by omega) (by omega) (kl q u2 hw.2)) (fun z => absurd hw.1 z)
set_option maxRecDepth 100000 in
set_option maxHeartbeats 4000000 in
theorem lc_17 {Inv : pa_S → Prop} {p : Program} {l : Launch} {e : Env} {s : State} {m : MethodId} {below : List Frame} {meth : Method} {c : Code} {D : va_G} {g : pa_G} {q : Nat → Nat → Nat} {kc ks b L : Nat} {xs : Nat → Int32} {u : pa_S} {x3 : Int32} (hE : pa_Fx p s m #[Value.ref b] meth c (fun q : Nat => s.heap.size ≤ q) D g 4 cL_law R_law) (hX : va_X b L xs s s.heap) (hbl : b < s.heap.size) (hbA : ¬ s.heap.size ≤ b)  (hk : kc + 3 ≤ 600000) (hs : ks + 204 ≤ 7302250) (hw : pa_case Inv u (xs (x3 + 1).toNatClampNeg) (xs (x3 + 2).toNatClampNeg) (xs (x3 + 3).toNatClampNeg) (xs (x3 + 4).toNatClampNeg) (xs (x3 + 5).toNatClampNeg) 17) (kl : ∀ (q : Nat → Nat → Nat) (u : pa_S), Inv u → pa_At p l e room_1 s m #[Value.ref b] below meth c (lw_Z below #[Value.ref b] s) (fun q : Nat => s.heap.size ≤ q) D g 4 (kc + 3) (ks + 204) q u 1420 [(3, .int x3), (1, .ref (q 0 0)), (2, .ref (q 24 0)), (0, .ref b)] []) : pa_At p l e room_1 s m #[Value.ref b] below meth c (lw_Z below #[Value.ref b] s) (fun q : Nat => s.heap.size ≤ q) D g 4 kc ks q u 737 [(3, .int x3), (1, .ref (q 0 0)), (2, .ref (q 24 0)), (0, .ref b)] [] := by
  have hw : wp_X6_looked u (fun (r : Int32) => (wp_X7_looked u (fun (r' : Int32) => r = r' ∧ Inv u))) := hw
  refine pa_aload_n hE dL_law_737 rfl 1 rfl ?_
  refine pa_callVri hE (ct_X6_looked l g D q u  _ hw) cv_RL_85 pa_in0 rfl rfl rfl (pa_hRL (by decide) (by decide) (by omega) (by omega)) rfl (Nat.le_of_ble_eq_true rfl) dL_law_738 (fun r hw => ?_)
  refine pa_aload_n hE dL_law_741 rfl 2 rfl ?_
  refine pa_callVri hE (ct_X7_looked l g D q u  _ hw) cv_RL_88 pa_in24 rfl rfl rfl (pa_hRL (by decide) (by decide) (by omega) (by omega)) rfl (Nat.le_of_ble_eq_true rfl) dL_law_742 (fun r' hw => ?_)
  exact pa_icmp_eq hE dL_law_745 (tgt := 1420) (by decide) (fun _ => pa_widen (k := kc + 3) (n := ks + 204) (by omega) (by omega) (kl q u hw.2)) (fun z => absurd hw.1 z)
set_option maxRecDepth 100000 in
set_option maxHeartbeats 4000000 in
theorem lc_18 {Inv : pa_S → Prop} {p : Program} {l : Launch} {e : Env} {s : State} {m : MethodId} {below : List Frame} {meth : Method} {c : Code} {D : va_G} {g : pa_G} {q : Nat → Nat → Nat} {kc ks b L : Nat} {xs : Nat → Int32} {u : pa_S} {x3 : Int32} (hE : pa_Fx p s m #[Value.ref b] meth c (fun q : Nat => s.heap.size ≤ q) D g 4 cL_law R_law) (hX : va_X b L xs s s.heap) (hbl : b < s.heap.size) (hbA : ¬ s.heap.size ≤ b) (hin1 : vp_in (x3 + 1) L) (hk : kc + 3 ≤ 600000) (hs : ks + 204 ≤ 7302250) (hw : pa_case Inv u (xs (x3 + 1).toNatClampNeg) (xs (x3 + 2).toNatClampNeg) (xs (x3 + 3).toNatClampNeg) (xs (x3 + 4).toNatClampNeg) (xs (x3 + 5).toNatClampNeg) 18) (kl : ∀ (q : Nat → Nat → Nat) (u : pa_S), Inv u → pa_At p l e room_1 s m #[Value.ref b] below meth c (lw_Z below #[Value.ref b] s) (fun q : Nat => s.heap.size ≤ q) D g 4 (kc + 3) (ks + 204) q u 1420 [(3, .int x3), (1, .ref (q 0 0)), (2, .ref (q 24 0)), (0, .ref b)] []) : pa_At p l e room_1 s m #[Value.ref b] below meth c (lw_Z below #[Value.ref b] s) (fun q : Nat => s.heap.size ≤ q) D g 4 kc ks q u 750 [(3, .int x3), (1, .ref (q 0 0)), (2, .ref (q 24 0)), (0, .ref b)] [] := by
  have hw : wp_X6_shaken u (xs (x3 + 1).toNatClampNeg) (fun (r : Int32) (u1 : pa_S) => (wp_X7_shaken u1 (xs (x3 + 1).toNatClampNeg) (fun (r' : Int32) (u2 : pa_S) => r = r' ∧ Inv u2))) := hw
  refine pa_aload_n hE dL_law_750 rfl 1 rfl ?_
  refine pa_aload_n hE dL_law_751 rfl 3 rfl ?_
  refine pa_iload_n hE dL_law_752 rfl 0 rfl ?_
  refine pa_iconst hE dL_law_753 (v := 1) (by decide) ?_
  refine pa_iadd hE dL_law_754 ?_
  refine pa_sldX hE hX hbl hbA (hin1) dL_law_755 ?_
  refine pa_callVi hE (ct_X6_shaken l g D q u (xs (x3 + 1).toNatClampNeg) _ hw) cv_RL_89 pa_in0 rfl rfl rfl (pa_hRL (by decide) (by decide) (by omega) (by omega)) rfl (Nat.le_of_ble_eq_true rfl) dL_law_756 (fun r u1 hw => ?_)
  refine pa_aload_n hE dL_law_759 rfl 2 rfl ?_
  refine pa_aload_n hE dL_law_760 rfl 3 rfl ?_
  refine pa_iload_n hE dL_law_761 rfl 0 rfl ?_
  refine pa_iconst hE dL_law_762 (v := 1) (by decide) ?_
  refine pa_iadd hE dL_law_763 ?_
  refine pa_sldX hE hX hbl hbA (hin1) dL_law_764 ?_
  refine pa_callVi hE (ct_X7_shaken l g D q u1 (xs (x3 + 1).toNatClampNeg) _ hw) cv_RL_92 pa_in24 rfl rfl rfl (pa_hRL (by decide) (by decide) (by omega) (by omega)) rfl (Nat.le_of_ble_eq_true rfl) dL_law_765 (fun r' u2 hw => ?_)
  exact pa_icmp_eq hE dL_law_768 (tgt := 1420) (by decide) (fun _ => pa_widen (k := kc + 3) (n := ks + 204) (by omega) (by omega) (kl q u2 hw.2)) (fun z => absurd hw.1 z)
set_option maxRecDepth 100000 in
set_option maxHeartbeats 4000000 in
theorem lc_19 {Inv : pa_S → Prop} {p : Program} {l : Launch} {e : Env} {s : State} {m : MethodId} {below : List Frame} {meth : Method} {c : Code} {D : va_G} {g : pa_G} {q : Nat → Nat → Nat} {kc ks b L : Nat} {xs : Nat → Int32} {u : pa_S} {x3 : Int32} (hE : pa_Fx p s m #[Value.ref b] meth c (fun q : Nat => s.heap.size ≤ q) D g 4 cL_law R_law) (hX : va_X b L xs s s.heap) (hbl : b < s.heap.size) (hbA : ¬ s.heap.size ≤ b) (hin1 : vp_in (x3 + 1) L) (hin2 : vp_in (x3 + 2) L) (hin3 : vp_in (x3 + 3) L) (hin4 : vp_in (x3 + 4) L) (hk : kc + 3 ≤ 600000) (hs : ks + 204 ≤ 7302250) (hw : pa_case Inv u (xs (x3 + 1).toNatClampNeg) (xs (x3 + 2).toNatClampNeg) (xs (x3 + 3).toNatClampNeg) (xs (x3 + 4).toNatClampNeg) (xs (x3 + 5).toNatClampNeg) 19) (kl : ∀ (q : Nat → Nat → Nat) (u : pa_S), Inv u → pa_At p l e room_1 s m #[Value.ref b] below meth c (lw_Z below #[Value.ref b] s) (fun q : Nat => s.heap.size ≤ q) D g 4 (kc + 3) (ks + 204) q u 1420 [(3, .int x3), (1, .ref (q 0 0)), (2, .ref (q 24 0)), (0, .ref b)] []) : pa_At p l e room_1 s m #[Value.ref b] below meth c (lw_Z below #[Value.ref b] s) (fun q : Nat => s.heap.size ≤ q) D g 4 kc ks q u 773 [(3, .int x3), (1, .ref (q 0 0)), (2, .ref (q 24 0)), (0, .ref b)] [] := by
  have hw : wp_X6_see u (xs (x3 + 1).toNatClampNeg) (xs (x3 + 2).toNatClampNeg) (xs (x3 + 3).toNatClampNeg) (xs (x3 + 4).toNatClampNeg) (fun (r : Int32) (u1 : pa_S) => (wp_X7_see u1 (xs (x3 + 1).toNatClampNeg) (xs (x3 + 2).toNatClampNeg) (xs (x3 + 3).toNatClampNeg) (xs (x3 + 4).toNatClampNeg) (fun (r' : Int32) (u2 : pa_S) => r = r' ∧ Inv u2))) := hw
  refine pa_aload_n hE dL_law_773 rfl 1 rfl ?_
  refine pa_aload_n hE dL_law_774 rfl 3 rfl ?_
  refine pa_iload_n hE dL_law_775 rfl 0 rfl ?_
  refine pa_iconst hE dL_law_776 (v := 1) (by decide) ?_
  refine pa_iadd hE dL_law_777 ?_
  refine pa_sldX hE hX hbl hbA (hin1) dL_law_778 ?_
  refine pa_aload_n hE dL_law_779 rfl 3 rfl ?_
  refine pa_iload_n hE dL_law_780 rfl 0 rfl ?_
  refine pa_iconst hE dL_law_781 (v := 2) (by decide) ?_
  refine pa_iadd hE dL_law_782 ?_
  refine pa_sldX hE hX hbl hbA (hin2) dL_law_783 ?_
  refine pa_aload_n hE dL_law_784 rfl 3 rfl ?_
  refine pa_iload_n hE dL_law_785 rfl 0 rfl ?_
  refine pa_iconst hE dL_law_786 (v := 3) (by decide) ?_
  refine pa_iadd hE dL_law_787 ?_
  refine pa_sldX hE hX hbl hbA (hin3) dL_law_788 ?_
  refine pa_aload_n hE dL_law_789 rfl 3 rfl ?_
  refine pa_iload_n hE dL_law_790 rfl 0 rfl ?_
  refine pa_iconst hE dL_law_791 (v := 4) (by decide) ?_
  refine pa_iadd hE dL_law_792 ?_
  refine pa_sldX hE hX hbl hbA (hin4) dL_law_793 ?_
  refine pa_callVi hE (ct_X6_see l g D q u (xs (x3 + 1).toNatClampNeg) (xs (x3 + 2).toNatClampNeg) (xs (x3 + 3).toNatClampNeg) (xs (x3 + 4).toNatClampNeg) _ hw) cv_RL_93 pa_in0 rfl rfl rfl (pa_hRL (by decide) (by decide) (by omega) (by omega)) rfl (Nat.le_of_ble_eq_true rfl) dL_law_794 (fun r u1 hw => ?_)
  refine pa_aload_n hE dL_law_797 rfl 2 rfl ?_
  refine pa_aload_n hE dL_law_798 rfl 3 rfl ?_
  refine pa_iload_n hE dL_law_799 rfl 0 rfl ?_
  refine pa_iconst hE dL_law_800 (v := 1) (by decide) ?_
  refine pa_iadd hE dL_law_801 ?_
  refine pa_sldX hE hX hbl hbA (hin1) dL_law_802 ?_
  refine pa_aload_n hE dL_law_803 rfl 3 rfl ?_
  refine pa_iload_n hE dL_law_804 rfl 0 rfl ?_
  refine pa_iconst hE dL_law_805 (v := 2) (by decide) ?_
  refine pa_iadd hE dL_law_806 ?_
  refine pa_sldX hE hX hbl hbA (hin2) dL_law_807 ?_
  refine pa_aload_n hE dL_law_808 rfl 3 rfl ?_
  refine pa_iload_n hE dL_law_809 rfl 0 rfl ?_
  refine pa_iconst hE dL_law_810 (v := 3) (by decide) ?_
  refine pa_iadd hE dL_law_811 ?_
  refine pa_sldX hE hX hbl hbA (hin3) dL_law_812 ?_
  refine pa_aload_n hE dL_law_813 rfl 3 rfl ?_
  refine pa_iload_n hE dL_law_814 rfl 0 rfl ?_
  refine pa_iconst hE dL_law_815 (v := 4) (by decide) ?_
  refine pa_iadd hE dL_law_816 ?_
  refine pa_sldX hE hX hbl hbA (hin4) dL_law_817 ?_
  refine pa_callVi hE (ct_X7_see l g D q u1 (xs (x3 + 1).toNatClampNeg) (xs (x3 + 2).toNatClampNeg) (xs (x3 + 3).toNatClampNeg) (xs (x3 + 4).toNatClampNeg) _ hw) cv_RL_97 pa_in24 rfl rfl rfl (pa_hRL (by decide) (by decide) (by omega) (by omega)) rfl (Nat.le_of_ble_eq_true rfl) dL_law_818 (fun r' u2 hw => ?_)
  exact pa_icmp_eq hE dL_law_821 (tgt := 1420) (by decide) (fun _ => pa_widen (k := kc + 3) (n := ks + 204) (by omega) (by omega) (kl q u2 hw.2)) (fun z => absurd hw.1 z)
set_option maxRecDepth 100000 in
set_option maxHeartbeats 4000000 in
theorem lc_20 {Inv : pa_S → Prop} {p : Program} {l : Launch} {e : Env} {s : State} {m : MethodId} {below : List Frame} {meth : Method} {c : Code} {D : va_G} {g : pa_G} {q : Nat → Nat → Nat} {kc ks b L : Nat} {xs : Nat → Int32} {u : pa_S} {x3 : Int32} (hE : pa_Fx p s m #[Value.ref b] meth c (fun q : Nat => s.heap.size ≤ q) D g 4 cL_law R_law) (hX : va_X b L xs s s.heap) (hbl : b < s.heap.size) (hbA : ¬ s.heap.size ≤ b) (hin1 : vp_in (x3 + 1) L) (hin2 : vp_in (x3 + 2) L) (hin3 : vp_in (x3 + 3) L) (hk : kc + 3 ≤ 600000) (hs : ks + 204 ≤ 7302250) (hw : pa_case Inv u (xs (x3 + 1).toNatClampNeg) (xs (x3 + 2).toNatClampNeg) (xs (x3 + 3).toNatClampNeg) (xs (x3 + 4).toNatClampNeg) (xs (x3 + 5).toNatClampNeg) 20) (kl : ∀ (q : Nat → Nat → Nat) (u : pa_S), Inv u → pa_At p l e room_1 s m #[Value.ref b] below meth c (lw_Z below #[Value.ref b] s) (fun q : Nat => s.heap.size ≤ q) D g 4 (kc + 3) (ks + 204) q u 1420 [(3, .int x3), (1, .ref (q 0 0)), (2, .ref (q 24 0)), (0, .ref b)] []) : pa_At p l e room_1 s m #[Value.ref b] below meth c (lw_Z below #[Value.ref b] s) (fun q : Nat => s.heap.size ≤ q) D g 4 kc ks q u 826 [(3, .int x3), (1, .ref (q 0 0)), (2, .ref (q 24 0)), (0, .ref b)] [] := by
  have hw : wp_X6_was u (xs (x3 + 1).toNatClampNeg) (xs (x3 + 2).toNatClampNeg) (xs (x3 + 3).toNatClampNeg) (fun (r : Int32) (u1 : pa_S) => (wp_X7_was u1 (xs (x3 + 1).toNatClampNeg) (xs (x3 + 2).toNatClampNeg) (xs (x3 + 3).toNatClampNeg) (fun (r' : Int32) (u2 : pa_S) => r = r' ∧ Inv u2))) := hw
  refine pa_aload_n hE dL_law_826 rfl 1 rfl ?_
  refine pa_aload_n hE dL_law_827 rfl 3 rfl ?_
  refine pa_iload_n hE dL_law_828 rfl 0 rfl ?_
  refine pa_iconst hE dL_law_829 (v := 1) (by decide) ?_
  refine pa_iadd hE dL_law_830 ?_
  refine pa_sldX hE hX hbl hbA (hin1) dL_law_831 ?_
  refine pa_aload_n hE dL_law_832 rfl 3 rfl ?_
  refine pa_iload_n hE dL_law_833 rfl 0 rfl ?_
  refine pa_iconst hE dL_law_834 (v := 2) (by decide) ?_
  refine pa_iadd hE dL_law_835 ?_
  refine pa_sldX hE hX hbl hbA (hin2) dL_law_836 ?_
  refine pa_aload_n hE dL_law_837 rfl 3 rfl ?_
  refine pa_iload_n hE dL_law_838 rfl 0 rfl ?_
  refine pa_iconst hE dL_law_839 (v := 3) (by decide) ?_
  refine pa_iadd hE dL_law_840 ?_
  refine pa_sldX hE hX hbl hbA (hin3) dL_law_841 ?_
  refine pa_callVi hE (ct_X6_was l g D q u (xs (x3 + 1).toNatClampNeg) (xs (x3 + 2).toNatClampNeg) (xs (x3 + 3).toNatClampNeg) _ hw) cv_RL_98 pa_in0 rfl rfl rfl (pa_hRL (by decide) (by decide) (by omega) (by omega)) rfl (Nat.le_of_ble_eq_true rfl) dL_law_842 (fun r u1 hw => ?_)
  refine pa_aload_n hE dL_law_845 rfl 2 rfl ?_
  refine pa_aload_n hE dL_law_846 rfl 3 rfl ?_
  refine pa_iload_n hE dL_law_847 rfl 0 rfl ?_
  refine pa_iconst hE dL_law_848 (v := 1) (by decide) ?_
  refine pa_iadd hE dL_law_849 ?_
  refine pa_sldX hE hX hbl hbA (hin1) dL_law_850 ?_
  refine pa_aload_n hE dL_law_851 rfl 3 rfl ?_
  refine pa_iload_n hE dL_law_852 rfl 0 rfl ?_
  refine pa_iconst hE dL_law_853 (v := 2) (by decide) ?_
  refine pa_iadd hE dL_law_854 ?_
  refine pa_sldX hE hX hbl hbA (hin2) dL_law_855 ?_
  refine pa_aload_n hE dL_law_856 rfl 3 rfl ?_
  refine pa_iload_n hE dL_law_857 rfl 0 rfl ?_
  refine pa_iconst hE dL_law_858 (v := 3) (by decide) ?_
  refine pa_iadd hE dL_law_859 ?_
  refine pa_sldX hE hX hbl hbA (hin3) dL_law_860 ?_
  refine pa_callVi hE (ct_X7_was l g D q u1 (xs (x3 + 1).toNatClampNeg) (xs (x3 + 2).toNatClampNeg) (xs (x3 + 3).toNatClampNeg) _ hw) cv_RL_101 pa_in24 rfl rfl rfl (pa_hRL (by decide) (by decide) (by omega) (by omega)) rfl (Nat.le_of_ble_eq_true rfl) dL_law_861 (fun r' u2 hw => ?_)
  exact pa_icmp_eq hE dL_law_864 (tgt := 1420) (by decide) (fun _ => pa_widen (k := kc + 3) (n := ks + 204) (by omega) (by omega) (kl q u2 hw.2)) (fun z => absurd hw.1 z)
set_option maxRecDepth 100000 in
set_option maxHeartbeats 4000000 in
theorem lc_21 {Inv : pa_S → Prop} {p : Program} {l : Launch} {e : Env} {s : State} {m : MethodId} {below : List Frame} {meth : Method} {c : Code} {D : va_G} {g : pa_G} {q : Nat → Nat → Nat} {kc ks b L : Nat} {xs : Nat → Int32} {u : pa_S} {x3 : Int32} (hE : pa_Fx p s m #[Value.ref b] meth c (fun q : Nat => s.heap.size ≤ q) D g 4 cL_law R_law) (hX : va_X b L xs s s.heap) (hbl : b < s.heap.size) (hbA : ¬ s.heap.size ≤ b) (hin1 : vp_in (x3 + 1) L) (hin2 : vp_in (x3 + 2) L) (hk : kc + 3 ≤ 600000) (hs : ks + 204 ≤ 7302250) (hw : pa_case Inv u (xs (x3 + 1).toNatClampNeg) (xs (x3 + 2).toNatClampNeg) (xs (x3 + 3).toNatClampNeg) (xs (x3 + 4).toNatClampNeg) (xs (x3 + 5).toNatClampNeg) 21) (kl : ∀ (q : Nat → Nat → Nat) (u : pa_S), Inv u → pa_At p l e room_1 s m #[Value.ref b] below meth c (lw_Z below #[Value.ref b] s) (fun q : Nat => s.heap.size ≤ q) D g 4 (kc + 3) (ks + 204) q u 1420 [(3, .int x3), (1, .ref (q 0 0)), (2, .ref (q 24 0)), (0, .ref b)] []) : pa_At p l e room_1 s m #[Value.ref b] below meth c (lw_Z below #[Value.ref b] s) (fun q : Nat => s.heap.size ≤ q) D g 4 kc ks q u 869 [(3, .int x3), (1, .ref (q 0 0)), (2, .ref (q 24 0)), (0, .ref b)] [] := by
  have hw : wp_X6_can u (xs (x3 + 1).toNatClampNeg) (xs (x3 + 2).toNatClampNeg) (fun (r : Int32) (u1 : pa_S) => (wp_X7_can u1 (xs (x3 + 1).toNatClampNeg) (xs (x3 + 2).toNatClampNeg) (fun (r' : Int32) (u2 : pa_S) => r = r' ∧ Inv u2))) := hw
  refine pa_aload_n hE dL_law_869 rfl 1 rfl ?_
  refine pa_aload_n hE dL_law_870 rfl 3 rfl ?_
  refine pa_iload_n hE dL_law_871 rfl 0 rfl ?_
  refine pa_iconst hE dL_law_872 (v := 1) (by decide) ?_
  refine pa_iadd hE dL_law_873 ?_
  refine pa_sldX hE hX hbl hbA (hin1) dL_law_874 ?_
  refine pa_aload_n hE dL_law_875 rfl 3 rfl ?_
  refine pa_iload_n hE dL_law_876 rfl 0 rfl ?_
  refine pa_iconst hE dL_law_877 (v := 2) (by decide) ?_
  refine pa_iadd hE dL_law_878 ?_
  refine pa_sldX hE hX hbl hbA (hin2) dL_law_879 ?_
  refine pa_callVi hE (ct_X6_can l g D q u (xs (x3 + 1).toNatClampNeg) (xs (x3 + 2).toNatClampNeg) _ hw) cv_RL_102 pa_in0 rfl rfl rfl (pa_hRL (by decide) (by decide) (by omega) (by omega)) rfl (Nat.le_of_ble_eq_true rfl) dL_law_880 (fun r u1 hw => ?_)
  refine pa_aload_n hE dL_law_883 rfl 2 rfl ?_
  refine pa_aload_n hE dL_law_884 rfl 3 rfl ?_
  refine pa_iload_n hE dL_law_885 rfl 0 rfl ?_
  refine pa_iconst hE dL_law_886 (v := 1) (by decide) ?_
  refine pa_iadd hE dL_law_887 ?_
  refine pa_sldX hE hX hbl hbA (hin1) dL_law_888 ?_
  refine pa_aload_n hE dL_law_889 rfl 3 rfl ?_
  refine pa_iload_n hE dL_law_890 rfl 0 rfl ?_
  refine pa_iconst hE dL_law_891 (v := 2) (by decide) ?_
  refine pa_iadd hE dL_law_892 ?_
  refine pa_sldX hE hX hbl hbA (hin2) dL_law_893 ?_
  refine pa_callVi hE (ct_X7_can l g D q u1 (xs (x3 + 1).toNatClampNeg) (xs (x3 + 2).toNatClampNeg) _ hw) cv_RL_105 pa_in24 rfl rfl rfl (pa_hRL (by decide) (by decide) (by omega) (by omega)) rfl (Nat.le_of_ble_eq_true rfl) dL_law_894 (fun r' u2 hw => ?_)
  exact pa_icmp_eq hE dL_law_897 (tgt := 1420) (by decide) (fun _ => pa_widen (k := kc + 3) (n := ks + 204) (by omega) (by omega) (kl q u2 hw.2)) (fun z => absurd hw.1 z)
set_option maxRecDepth 100000 in
set_option maxHeartbeats 4000000 in
theorem lc_22 {Inv : pa_S → Prop} {p : Program} {l : Launch} {e : Env} {s : State} {m : MethodId} {below : List Frame} {meth : Method} {c : Code} {D : va_G} {g : pa_G} {q : Nat → Nat → Nat} {kc ks b L : Nat} {xs : Nat → Int32} {u : pa_S} {x3 : Int32} (hE : pa_Fx p s m #[Value.ref b] meth c (fun q : Nat => s.heap.size ≤ q) D g 4 cL_law R_law) (hX : va_X b L xs s s.heap) (hbl : b < s.heap.size) (hbA : ¬ s.heap.size ≤ b) (hin1 : vp_in (x3 + 1) L) (hin2 : vp_in (x3 + 2) L) (hk : kc + 3 ≤ 600000) (hs : ks + 204 ≤ 7302250) (hw : pa_case Inv u (xs (x3 + 1).toNatClampNeg) (xs (x3 + 2).toNatClampNeg) (xs (x3 + 3).toNatClampNeg) (xs (x3 + 4).toNatClampNeg) (xs (x3 + 5).toNatClampNeg) 22) (kl : ∀ (q : Nat → Nat → Nat) (u : pa_S), Inv u → pa_At p l e room_1 s m #[Value.ref b] below meth c (lw_Z below #[Value.ref b] s) (fun q : Nat => s.heap.size ≤ q) D g 4 (kc + 3) (ks + 204) q u 1420 [(3, .int x3), (1, .ref (q 0 0)), (2, .ref (q 24 0)), (0, .ref b)] []) : pa_At p l e room_1 s m #[Value.ref b] below meth c (lw_Z below #[Value.ref b] s) (fun q : Nat => s.heap.size ≤ q) D g 4 kc ks q u 902 [(3, .int x3), (1, .ref (q 0 0)), (2, .ref (q 24 0)), (0, .ref b)] [] := by
  have hw : wp_X6_odds u (xs (x3 + 1).toNatClampNeg) (xs (x3 + 2).toNatClampNeg) (fun (r : Int64) (u1 : pa_S) => (wp_X7_odds u1 (xs (x3 + 1).toNatClampNeg) (xs (x3 + 2).toNatClampNeg) (fun (r' : Int64) (u2 : pa_S) => r = r' ∧ Inv u2))) := hw
  refine pa_aload_n hE dL_law_902 rfl 1 rfl ?_
  refine pa_aload_n hE dL_law_903 rfl 3 rfl ?_
  refine pa_iload_n hE dL_law_904 rfl 0 rfl ?_
  refine pa_iconst hE dL_law_905 (v := 1) (by decide) ?_
  refine pa_iadd hE dL_law_906 ?_
  refine pa_sldX hE hX hbl hbA (hin1) dL_law_907 ?_
  refine pa_aload_n hE dL_law_908 rfl 3 rfl ?_
  refine pa_iload_n hE dL_law_909 rfl 0 rfl ?_
  refine pa_iconst hE dL_law_910 (v := 2) (by decide) ?_
  refine pa_iadd hE dL_law_911 ?_
  refine pa_sldX hE hX hbl hbA (hin2) dL_law_912 ?_
  refine pa_callVl hE (ct_X6_odds l g D q u (xs (x3 + 1).toNatClampNeg) (xs (x3 + 2).toNatClampNeg) _ hw) cv_RL_106 pa_in0 rfl rfl rfl (pa_hRL (by decide) (by decide) (by omega) (by omega)) rfl (Nat.le_of_ble_eq_true rfl) dL_law_913 (fun r u1 hw => ?_)
  refine pa_aload_n hE dL_law_916 rfl 2 rfl ?_
  refine pa_aload_n hE dL_law_917 rfl 3 rfl ?_
  refine pa_iload_n hE dL_law_918 rfl 0 rfl ?_
  refine pa_iconst hE dL_law_919 (v := 1) (by decide) ?_
  refine pa_iadd hE dL_law_920 ?_
  refine pa_sldX hE hX hbl hbA (hin1) dL_law_921 ?_
  refine pa_aload_n hE dL_law_922 rfl 3 rfl ?_
  refine pa_iload_n hE dL_law_923 rfl 0 rfl ?_
  refine pa_iconst hE dL_law_924 (v := 2) (by decide) ?_
  refine pa_iadd hE dL_law_925 ?_
  refine pa_sldX hE hX hbl hbA (hin2) dL_law_926 ?_
  refine pa_callVl hE (ct_X7_odds l g D q u1 (xs (x3 + 1).toNatClampNeg) (xs (x3 + 2).toNatClampNeg) _ hw) cv_RL_110 pa_in24 rfl rfl rfl (pa_hRL (by decide) (by decide) (by omega) (by omega)) rfl (Nat.le_of_ble_eq_true rfl) dL_law_927 (fun r' u2 hw => ?_)
  refine pa_lcmp hE dL_law_930 ?_
  exact pa_if_eq hE dL_law_931 (tgt := 1420) (by decide) (fun _ => pa_widen (k := kc + 3) (n := ks + 204) (by omega) (by omega) (kl q u2 hw.2)) (fun z => absurd (pa_cmp0 hw.1) z)
set_option maxRecDepth 100000 in
set_option maxHeartbeats 4000000 in
theorem lc_23 {Inv : pa_S → Prop} {p : Program} {l : Launch} {e : Env} {s : State} {m : MethodId} {below : List Frame} {meth : Method} {c : Code} {D : va_G} {g : pa_G} {q : Nat → Nat → Nat} {kc ks b L : Nat} {xs : Nat → Int32} {u : pa_S} {x3 : Int32} (hE : pa_Fx p s m #[Value.ref b] meth c (fun q : Nat => s.heap.size ≤ q) D g 4 cL_law R_law) (hX : va_X b L xs s s.heap) (hbl : b < s.heap.size) (hbA : ¬ s.heap.size ≤ b) (hin1 : vp_in (x3 + 1) L) (hin2 : vp_in (x3 + 2) L) (hk : kc + 3 ≤ 600000) (hs : ks + 204 ≤ 7302250) (hw : pa_case Inv u (xs (x3 + 1).toNatClampNeg) (xs (x3 + 2).toNatClampNeg) (xs (x3 + 3).toNatClampNeg) (xs (x3 + 4).toNatClampNeg) (xs (x3 + 5).toNatClampNeg) 23) (kl : ∀ (q : Nat → Nat → Nat) (u : pa_S), Inv u → pa_At p l e room_1 s m #[Value.ref b] below meth c (lw_Z below #[Value.ref b] s) (fun q : Nat => s.heap.size ≤ q) D g 4 (kc + 3) (ks + 204) q u 1420 [(3, .int x3), (1, .ref (q 0 0)), (2, .ref (q 24 0)), (0, .ref b)] []) : pa_At p l e room_1 s m #[Value.ref b] below meth c (lw_Z below #[Value.ref b] s) (fun q : Nat => s.heap.size ≤ q) D g 4 kc ks q u 936 [(3, .int x3), (1, .ref (q 0 0)), (2, .ref (q 24 0)), (0, .ref b)] [] := by
  have hw : wp_X6_mean u (xs (x3 + 1).toNatClampNeg) (xs (x3 + 2).toNatClampNeg) (fun (r : Int64) (u1 : pa_S) => (wp_X7_mean u1 (xs (x3 + 1).toNatClampNeg) (xs (x3 + 2).toNatClampNeg) (fun (r' : Int64) (u2 : pa_S) => r = r' ∧ Inv u2))) := hw
  refine pa_aload_n hE dL_law_936 rfl 1 rfl ?_
  refine pa_aload_n hE dL_law_937 rfl 3 rfl ?_
  refine pa_iload_n hE dL_law_938 rfl 0 rfl ?_
  refine pa_iconst hE dL_law_939 (v := 1) (by decide) ?_
  refine pa_iadd hE dL_law_940 ?_
  refine pa_sldX hE hX hbl hbA (hin1) dL_law_941 ?_
  refine pa_aload_n hE dL_law_942 rfl 3 rfl ?_
  refine pa_iload_n hE dL_law_943 rfl 0 rfl ?_
  refine pa_iconst hE dL_law_944 (v := 2) (by decide) ?_
  refine pa_iadd hE dL_law_945 ?_
  refine pa_sldX hE hX hbl hbA (hin2) dL_law_946 ?_
  refine pa_callVl hE (ct_X6_mean l g D q u (xs (x3 + 1).toNatClampNeg) (xs (x3 + 2).toNatClampNeg) _ hw) cv_RL_111 pa_in0 rfl rfl rfl (pa_hRL (by decide) (by decide) (by omega) (by omega)) rfl (Nat.le_of_ble_eq_true rfl) dL_law_947 (fun r u1 hw => ?_)
  refine pa_aload_n hE dL_law_950 rfl 2 rfl ?_
  refine pa_aload_n hE dL_law_951 rfl 3 rfl ?_
  refine pa_iload_n hE dL_law_952 rfl 0 rfl ?_
  refine pa_iconst hE dL_law_953 (v := 1) (by decide) ?_
  refine pa_iadd hE dL_law_954 ?_
  refine pa_sldX hE hX hbl hbA (hin1) dL_law_955 ?_
  refine pa_aload_n hE dL_law_956 rfl 3 rfl ?_
  refine pa_iload_n hE dL_law_957 rfl 0 rfl ?_
  refine pa_iconst hE dL_law_958 (v := 2) (by decide) ?_
  refine pa_iadd hE dL_law_959 ?_
  refine pa_sldX hE hX hbl hbA (hin2) dL_law_960 ?_
  refine pa_callVl hE (ct_X7_mean l g D q u1 (xs (x3 + 1).toNatClampNeg) (xs (x3 + 2).toNatClampNeg) _ hw) cv_RL_114 pa_in24 rfl rfl rfl (pa_hRL (by decide) (by decide) (by omega) (by omega)) rfl (Nat.le_of_ble_eq_true rfl) dL_law_961 (fun r' u2 hw => ?_)
  refine pa_lcmp hE dL_law_964 ?_
  exact pa_if_eq hE dL_law_965 (tgt := 1420) (by decide) (fun _ => pa_widen (k := kc + 3) (n := ks + 204) (by omega) (by omega) (kl q u2 hw.2)) (fun z => absurd (pa_cmp0 hw.1) z)
set_option maxRecDepth 100000 in
set_option maxHeartbeats 4000000 in
theorem lc_24 {Inv : pa_S → Prop} {p : Program} {l : Launch} {e : Env} {s : State} {m : MethodId} {below : List Frame} {meth : Method} {c : Code} {D : va_G} {g : pa_G} {q : Nat → Nat → Nat} {kc ks b L : Nat} {xs : Nat → Int32} {u : pa_S} {x3 : Int32} (hE : pa_Fx p s m #[Value.ref b] meth c (fun q : Nat => s.heap.size ≤ q) D g 4 cL_law R_law) (hX : va_X b L xs s s.heap) (hbl : b < s.heap.size) (hbA : ¬ s.heap.size ≤ b) (hin1 : vp_in (x3 + 1) L) (hin2 : vp_in (x3 + 2) L) (hk : kc + 3 ≤ 600000) (hs : ks + 204 ≤ 7302250) (hw : pa_case Inv u (xs (x3 + 1).toNatClampNeg) (xs (x3 + 2).toNatClampNeg) (xs (x3 + 3).toNatClampNeg) (xs (x3 + 4).toNatClampNeg) (xs (x3 + 5).toNatClampNeg) 24) (kl : ∀ (q : Nat → Nat → Nat) (u : pa_S), Inv u → pa_At p l e room_1 s m #[Value.ref b] below meth c (lw_Z below #[Value.ref b] s) (fun q : Nat => s.heap.size ≤ q) D g 4 (kc + 3) (ks + 204) q u 1420 [(3, .int x3), (1, .ref (q 0 0)), (2, .ref (q 24 0)), (0, .ref b)] []) : pa_At p l e room_1 s m #[Value.ref b] below meth c (lw_Z below #[Value.ref b] s) (fun q : Nat => s.heap.size ≤ q) D g 4 kc ks q u 970 [(3, .int x3), (1, .ref (q 0 0)), (2, .ref (q 24 0)), (0, .ref b)] [] := by
  have hw : wp_X6_fair u (xs (x3 + 1).toNatClampNeg) (xs (x3 + 2).toNatClampNeg) (fun (r : Int32) (u1 : pa_S) => (wp_X7_fair u1 (xs (x3 + 1).toNatClampNeg) (xs (x3 + 2).toNatClampNeg) (fun (r' : Int32) (u2 : pa_S) => r = r' ∧ Inv u2))) := hw
  refine pa_aload_n hE dL_law_970 rfl 1 rfl ?_
  refine pa_aload_n hE dL_law_971 rfl 3 rfl ?_
  refine pa_iload_n hE dL_law_972 rfl 0 rfl ?_
  refine pa_iconst hE dL_law_973 (v := 1) (by decide) ?_
  refine pa_iadd hE dL_law_974 ?_
  refine pa_sldX hE hX hbl hbA (hin1) dL_law_975 ?_
  refine pa_aload_n hE dL_law_976 rfl 3 rfl ?_
  refine pa_iload_n hE dL_law_977 rfl 0 rfl ?_
  refine pa_iconst hE dL_law_978 (v := 2) (by decide) ?_
  refine pa_iadd hE dL_law_979 ?_
  refine pa_sldX hE hX hbl hbA (hin2) dL_law_980 ?_
  refine pa_callVi hE (ct_X6_fair l g D q u (xs (x3 + 1).toNatClampNeg) (xs (x3 + 2).toNatClampNeg) _ hw) cv_RL_115 pa_in0 rfl rfl rfl (pa_hRL (by decide) (by decide) (by omega) (by omega)) rfl (Nat.le_of_ble_eq_true rfl) dL_law_981 (fun r u1 hw => ?_)
  refine pa_aload_n hE dL_law_984 rfl 2 rfl ?_
  refine pa_aload_n hE dL_law_985 rfl 3 rfl ?_
  refine pa_iload_n hE dL_law_986 rfl 0 rfl ?_
  refine pa_iconst hE dL_law_987 (v := 1) (by decide) ?_
  refine pa_iadd hE dL_law_988 ?_
  refine pa_sldX hE hX hbl hbA (hin1) dL_law_989 ?_
  refine pa_aload_n hE dL_law_990 rfl 3 rfl ?_
  refine pa_iload_n hE dL_law_991 rfl 0 rfl ?_
  refine pa_iconst hE dL_law_992 (v := 2) (by decide) ?_
  refine pa_iadd hE dL_law_993 ?_
  refine pa_sldX hE hX hbl hbA (hin2) dL_law_994 ?_
  refine pa_callVi hE (ct_X7_fair l g D q u1 (xs (x3 + 1).toNatClampNeg) (xs (x3 + 2).toNatClampNeg) _ hw) cv_RL_118 pa_in24 rfl rfl rfl (pa_hRL (by decide) (by decide) (by omega) (by omega)) rfl (Nat.le_of_ble_eq_true rfl) dL_law_995 (fun r' u2 hw => ?_)
  exact pa_icmp_eq hE dL_law_998 (tgt := 1420) (by decide) (fun _ => pa_widen (k := kc + 3) (n := ks + 204) (by omega) (by omega) (kl q u2 hw.2)) (fun z => absurd hw.1 z)
set_option maxRecDepth 100000 in
set_option maxHeartbeats 4000000 in
theorem lc_25 {Inv : pa_S → Prop} {p : Program} {l : Launch} {e : Env} {s : State} {m : MethodId} {below : List Frame} {meth : Method} {c : Code} {D : va_G} {g : pa_G} {q : Nat → Nat → Nat} {kc ks b L : Nat} {xs : Nat → Int32} {u : pa_S} {x3 : Int32} (hE : pa_Fx p s m #[Value.ref b] meth c (fun q : Nat => s.heap.size ≤ q) D g 4 cL_law R_law) (hX : va_X b L xs s s.heap) (hbl : b < s.heap.size) (hbA : ¬ s.heap.size ≤ b) (hin1 : vp_in (x3 + 1) L) (hk : kc + 3 ≤ 600000) (hs : ks + 204 ≤ 7302250) (hw : pa_case Inv u (xs (x3 + 1).toNatClampNeg) (xs (x3 + 2).toNatClampNeg) (xs (x3 + 3).toNatClampNeg) (xs (x3 + 4).toNatClampNeg) (xs (x3 + 5).toNatClampNeg) 25) (kl : ∀ (q : Nat → Nat → Nat) (u : pa_S), Inv u → pa_At p l e room_1 s m #[Value.ref b] below meth c (lw_Z below #[Value.ref b] s) (fun q : Nat => s.heap.size ≤ q) D g 4 (kc + 3) (ks + 204) q u 1420 [(3, .int x3), (1, .ref (q 0 0)), (2, .ref (q 24 0)), (0, .ref b)] []) : pa_At p l e room_1 s m #[Value.ref b] below meth c (lw_Z below #[Value.ref b] s) (fun q : Nat => s.heap.size ≤ q) D g 4 kc ks q u 1003 [(3, .int x3), (1, .ref (q 0 0)), (2, .ref (q 24 0)), (0, .ref b)] [] := by
  have hw : wp_X6_ends u (xs (x3 + 1).toNatClampNeg) (fun (r : Int32) (u1 : pa_S) => (wp_X7_ends u1 (xs (x3 + 1).toNatClampNeg) (fun (r' : Int32) (u2 : pa_S) => r = r' ∧ Inv u2))) := hw
  refine pa_aload_n hE dL_law_1003 rfl 1 rfl ?_
  refine pa_aload_n hE dL_law_1004 rfl 3 rfl ?_
  refine pa_iload_n hE dL_law_1005 rfl 0 rfl ?_
  refine pa_iconst hE dL_law_1006 (v := 1) (by decide) ?_
  refine pa_iadd hE dL_law_1007 ?_
  refine pa_sldX hE hX hbl hbA (hin1) dL_law_1008 ?_
  refine pa_callVi hE (ct_X6_ends l g D q u (xs (x3 + 1).toNatClampNeg) _ hw) cv_RL_119 pa_in0 rfl rfl rfl (pa_hRL (by decide) (by decide) (by omega) (by omega)) rfl (Nat.le_of_ble_eq_true rfl) dL_law_1009 (fun r u1 hw => ?_)
  refine pa_aload_n hE dL_law_1012 rfl 2 rfl ?_
  refine pa_aload_n hE dL_law_1013 rfl 3 rfl ?_
  refine pa_iload_n hE dL_law_1014 rfl 0 rfl ?_
  refine pa_iconst hE dL_law_1015 (v := 1) (by decide) ?_
  refine pa_iadd hE dL_law_1016 ?_
  refine pa_sldX hE hX hbl hbA (hin1) dL_law_1017 ?_
  refine pa_callVi hE (ct_X7_ends l g D q u1 (xs (x3 + 1).toNatClampNeg) _ hw) cv_RL_122 pa_in24 rfl rfl rfl (pa_hRL (by decide) (by decide) (by omega) (by omega)) rfl (Nat.le_of_ble_eq_true rfl) dL_law_1018 (fun r' u2 hw => ?_)
  exact pa_icmp_eq hE dL_law_1021 (tgt := 1420) (by decide) (fun _ => pa_widen (k := kc + 3) (n := ks + 204) (by omega) (by omega) (kl q u2 hw.2)) (fun z => absurd hw.1 z)
set_option maxRecDepth 100000 in
set_option maxHeartbeats 4000000 in
theorem lc_26 {Inv : pa_S → Prop} {p : Program} {l : Launch} {e : Env} {s : State} {m : MethodId} {below : List Frame} {meth : Method} {c : Code} {D : va_G} {g : pa_G} {q : Nat → Nat → Nat} {kc ks b L : Nat} {xs : Nat → Int32} {u : pa_S} {x3 : Int32} (hE : pa_Fx p s m #[Value.ref b] meth c (fun q : Nat => s.heap.size ≤ q) D g 4 cL_law R_law) (hX : va_X b L xs s s.heap) (hbl : b < s.heap.size) (hbA : ¬ s.heap.size ≤ b) (hin1 : vp_in (x3 + 1) L) (hin2 : vp_in (x3 + 2) L) (hk : kc + 3 ≤ 600000) (hs : ks + 204 ≤ 7302250) (hw : pa_case Inv u (xs (x3 + 1).toNatClampNeg) (xs (x3 + 2).toNatClampNeg) (xs (x3 + 3).toNatClampNeg) (xs (x3 + 4).toNatClampNeg) (xs (x3 + 5).toNatClampNeg) 26) (kl : ∀ (q : Nat → Nat → Nat) (u : pa_S), Inv u → pa_At p l e room_1 s m #[Value.ref b] below meth c (lw_Z below #[Value.ref b] s) (fun q : Nat => s.heap.size ≤ q) D g 4 (kc + 3) (ks + 204) q u 1420 [(3, .int x3), (1, .ref (q 0 0)), (2, .ref (q 24 0)), (0, .ref b)] []) : pa_At p l e room_1 s m #[Value.ref b] below meth c (lw_Z below #[Value.ref b] s) (fun q : Nat => s.heap.size ≤ q) D g 4 kc ks q u 1026 [(3, .int x3), (1, .ref (q 0 0)), (2, .ref (q 24 0)), (0, .ref b)] [] := by
  have hw : wp_X6_judge u (xs (x3 + 1).toNatClampNeg) (xs (x3 + 2).toNatClampNeg) (fun (r : Int32) => (wp_X7_judge u (xs (x3 + 1).toNatClampNeg) (xs (x3 + 2).toNatClampNeg) (fun (r' : Int32) => r = r' ∧ Inv u))) := hw
  refine pa_aload_n hE dL_law_1026 rfl 1 rfl ?_
  refine pa_aload_n hE dL_law_1027 rfl 3 rfl ?_
  refine pa_iload_n hE dL_law_1028 rfl 0 rfl ?_
  refine pa_iconst hE dL_law_1029 (v := 1) (by decide) ?_
  refine pa_iadd hE dL_law_1030 ?_
  refine pa_sldX hE hX hbl hbA (hin1) dL_law_1031 ?_
  refine pa_aload_n hE dL_law_1032 rfl 3 rfl ?_
  refine pa_iload_n hE dL_law_1033 rfl 0 rfl ?_
  refine pa_iconst hE dL_law_1034 (v := 2) (by decide) ?_
  refine pa_iadd hE dL_law_1035 ?_
  refine pa_sldX hE hX hbl hbA (hin2) dL_law_1036 ?_
  refine pa_callVri hE (ct_X6_judge l g D q u (xs (x3 + 1).toNatClampNeg) (xs (x3 + 2).toNatClampNeg) _ hw) cv_RL_123 pa_in0 rfl rfl rfl (pa_hRL (by decide) (by decide) (by omega) (by omega)) rfl (Nat.le_of_ble_eq_true rfl) dL_law_1037 (fun r hw => ?_)
  refine pa_aload_n hE dL_law_1040 rfl 2 rfl ?_
  refine pa_aload_n hE dL_law_1041 rfl 3 rfl ?_
  refine pa_iload_n hE dL_law_1042 rfl 0 rfl ?_
  refine pa_iconst hE dL_law_1043 (v := 1) (by decide) ?_
  refine pa_iadd hE dL_law_1044 ?_
  refine pa_sldX hE hX hbl hbA (hin1) dL_law_1045 ?_
  refine pa_aload_n hE dL_law_1046 rfl 3 rfl ?_
  refine pa_iload_n hE dL_law_1047 rfl 0 rfl ?_
  refine pa_iconst hE dL_law_1048 (v := 2) (by decide) ?_
  refine pa_iadd hE dL_law_1049 ?_
  refine pa_sldX hE hX hbl hbA (hin2) dL_law_1050 ?_
  refine pa_callVri hE (ct_X7_judge l g D q u (xs (x3 + 1).toNatClampNeg) (xs (x3 + 2).toNatClampNeg) _ hw) cv_RL_126 pa_in24 rfl rfl rfl (pa_hRL (by decide) (by decide) (by omega) (by omega)) rfl (Nat.le_of_ble_eq_true rfl) dL_law_1051 (fun r' hw => ?_)
  exact pa_icmp_eq hE dL_law_1054 (tgt := 1420) (by decide) (fun _ => pa_widen (k := kc + 3) (n := ks + 204) (by omega) (by omega) (kl q u hw.2)) (fun z => absurd hw.1 z)
set_option maxRecDepth 100000 in
set_option maxHeartbeats 4000000 in
theorem lc_27 {Inv : pa_S → Prop} {p : Program} {l : Launch} {e : Env} {s : State} {m : MethodId} {below : List Frame} {meth : Method} {c : Code} {D : va_G} {g : pa_G} {q : Nat → Nat → Nat} {kc ks b L : Nat} {xs : Nat → Int32} {u : pa_S} {x3 : Int32} (hE : pa_Fx p s m #[Value.ref b] meth c (fun q : Nat => s.heap.size ≤ q) D g 4 cL_law R_law) (hX : va_X b L xs s s.heap) (hbl : b < s.heap.size) (hbA : ¬ s.heap.size ≤ b)  (hk : kc + 3 ≤ 600000) (hs : ks + 204 ≤ 7302250) (hw : pa_case Inv u (xs (x3 + 1).toNatClampNeg) (xs (x3 + 2).toNatClampNeg) (xs (x3 + 3).toNatClampNeg) (xs (x3 + 4).toNatClampNeg) (xs (x3 + 5).toNatClampNeg) 27) (kl : ∀ (q : Nat → Nat → Nat) (u : pa_S), Inv u → pa_At p l e room_1 s m #[Value.ref b] below meth c (lw_Z below #[Value.ref b] s) (fun q : Nat => s.heap.size ≤ q) D g 4 (kc + 3) (ks + 204) q u 1420 [(3, .int x3), (1, .ref (q 0 0)), (2, .ref (q 24 0)), (0, .ref b)] []) : pa_At p l e room_1 s m #[Value.ref b] below meth c (lw_Z below #[Value.ref b] s) (fun q : Nat => s.heap.size ≤ q) D g 4 kc ks q u 1059 [(3, .int x3), (1, .ref (q 0 0)), (2, .ref (q 24 0)), (0, .ref b)] [] := by
  have hw : wp_X6_image u (fun (r : Int32) (u1 : pa_S) => (wp_X7_image u1 (fun (r' : Int32) (u2 : pa_S) => r = r' ∧ Inv u2))) := hw
  refine pa_aload_n hE dL_law_1059 rfl 1 rfl ?_
  refine pa_callVi hE (ct_X6_image l g D q u  _ hw) cv_RL_127 pa_in0 rfl rfl rfl (pa_hRL (by decide) (by decide) (by omega) (by omega)) rfl (Nat.le_of_ble_eq_true rfl) dL_law_1060 (fun r u1 hw => ?_)
  refine pa_aload_n hE dL_law_1063 rfl 2 rfl ?_
  refine pa_callVi hE (ct_X7_image l g D q u1  _ hw) cv_RL_130 pa_in24 rfl rfl rfl (pa_hRL (by decide) (by decide) (by omega) (by omega)) rfl (Nat.le_of_ble_eq_true rfl) dL_law_1064 (fun r' u2 hw => ?_)
  exact pa_icmp_eq hE dL_law_1067 (tgt := 1420) (by decide) (fun _ => pa_widen (k := kc + 3) (n := ks + 204) (by omega) (by omega) (kl q u2 hw.2)) (fun z => absurd hw.1 z)
set_option maxRecDepth 100000 in
set_option maxHeartbeats 4000000 in
theorem lc_28 {Inv : pa_S → Prop} {p : Program} {l : Launch} {e : Env} {s : State} {m : MethodId} {below : List Frame} {meth : Method} {c : Code} {D : va_G} {g : pa_G} {q : Nat → Nat → Nat} {kc ks b L : Nat} {xs : Nat → Int32} {u : pa_S} {x3 : Int32} (hE : pa_Fx p s m #[Value.ref b] meth c (fun q : Nat => s.heap.size ≤ q) D g 4 cL_law R_law) (hX : va_X b L xs s s.heap) (hbl : b < s.heap.size) (hbA : ¬ s.heap.size ≤ b)  (hk : kc + 3 ≤ 600000) (hs : ks + 204 ≤ 7302250) (hw : pa_case Inv u (xs (x3 + 1).toNatClampNeg) (xs (x3 + 2).toNatClampNeg) (xs (x3 + 3).toNatClampNeg) (xs (x3 + 4).toNatClampNeg) (xs (x3 + 5).toNatClampNeg) 28) (kl : ∀ (q : Nat → Nat → Nat) (u : pa_S), Inv u → pa_At p l e room_1 s m #[Value.ref b] below meth c (lw_Z below #[Value.ref b] s) (fun q : Nat => s.heap.size ≤ q) D g 4 (kc + 3) (ks + 204) q u 1420 [(3, .int x3), (1, .ref (q 0 0)), (2, .ref (q 24 0)), (0, .ref b)] []) : pa_At p l e room_1 s m #[Value.ref b] below meth c (lw_Z below #[Value.ref b] s) (fun q : Nat => s.heap.size ≤ q) D g 4 kc ks q u 1072 [(3, .int x3), (1, .ref (q 0 0)), (2, .ref (q 24 0)), (0, .ref b)] [] := by
  have hw : wp_X6_undo u (fun (r : Int32) (u1 : pa_S) => (wp_X7_undo u1 (fun (r' : Int32) (u2 : pa_S) => r = r' ∧ Inv u2))) := hw
  refine pa_aload_n hE dL_law_1072 rfl 1 rfl ?_
  refine pa_callVi hE (ct_X6_undo l g D q u  _ hw) cv_RL_131 pa_in0 rfl rfl rfl (pa_hRL (by decide) (by decide) (by omega) (by omega)) rfl (Nat.le_of_ble_eq_true rfl) dL_law_1073 (fun r u1 hw => ?_)
  refine pa_aload_n hE dL_law_1076 rfl 2 rfl ?_
  refine pa_callVi hE (ct_X7_undo l g D q u1  _ hw) cv_RL_134 pa_in24 rfl rfl rfl (pa_hRL (by decide) (by decide) (by omega) (by omega)) rfl (Nat.le_of_ble_eq_true rfl) dL_law_1077 (fun r' u2 hw => ?_)
  exact pa_icmp_eq hE dL_law_1080 (tgt := 1420) (by decide) (fun _ => pa_widen (k := kc + 3) (n := ks + 204) (by omega) (by omega) (kl q u2 hw.2)) (fun z => absurd hw.1 z)
set_option maxRecDepth 100000 in
set_option maxHeartbeats 4000000 in
theorem lc_29 {Inv : pa_S → Prop} {p : Program} {l : Launch} {e : Env} {s : State} {m : MethodId} {below : List Frame} {meth : Method} {c : Code} {D : va_G} {g : pa_G} {q : Nat → Nat → Nat} {kc ks b L : Nat} {xs : Nat → Int32} {u : pa_S} {x3 : Int32} (hE : pa_Fx p s m #[Value.ref b] meth c (fun q : Nat => s.heap.size ≤ q) D g 4 cL_law R_law) (hX : va_X b L xs s s.heap) (hbl : b < s.heap.size) (hbA : ¬ s.heap.size ≤ b) (hin1 : vp_in (x3 + 1) L) (hin2 : vp_in (x3 + 2) L) (hin3 : vp_in (x3 + 3) L) (hk : kc + 3 ≤ 600000) (hs : ks + 204 ≤ 7302250) (hw : pa_case Inv u (xs (x3 + 1).toNatClampNeg) (xs (x3 + 2).toNatClampNeg) (xs (x3 + 3).toNatClampNeg) (xs (x3 + 4).toNatClampNeg) (xs (x3 + 5).toNatClampNeg) 29) (kl : ∀ (q : Nat → Nat → Nat) (u : pa_S), Inv u → pa_At p l e room_1 s m #[Value.ref b] below meth c (lw_Z below #[Value.ref b] s) (fun q : Nat => s.heap.size ≤ q) D g 4 (kc + 3) (ks + 204) q u 1420 [(3, .int x3), (1, .ref (q 0 0)), (2, .ref (q 24 0)), (0, .ref b)] []) : pa_At p l e room_1 s m #[Value.ref b] below meth c (lw_Z below #[Value.ref b] s) (fun q : Nat => s.heap.size ≤ q) D g 4 kc ks q u 1085 [(3, .int x3), (1, .ref (q 0 0)), (2, .ref (q 24 0)), (0, .ref b)] [] := by
  have hw : wp_X6_act u (xs (x3 + 1).toNatClampNeg) (xs (x3 + 2).toNatClampNeg) (xs (x3 + 3).toNatClampNeg) (fun (r : Int32) (u1 : pa_S) => (wp_X7_act u1 (xs (x3 + 1).toNatClampNeg) (xs (x3 + 2).toNatClampNeg) (xs (x3 + 3).toNatClampNeg) (fun (r' : Int32) (u2 : pa_S) => r = r' ∧ Inv u2))) := hw
  refine pa_aload_n hE dL_law_1085 rfl 1 rfl ?_
  refine pa_aload_n hE dL_law_1086 rfl 3 rfl ?_
  refine pa_iload_n hE dL_law_1087 rfl 0 rfl ?_
  refine pa_iconst hE dL_law_1088 (v := 1) (by decide) ?_
  refine pa_iadd hE dL_law_1089 ?_
  refine pa_sldX hE hX hbl hbA (hin1) dL_law_1090 ?_
  refine pa_aload_n hE dL_law_1091 rfl 3 rfl ?_
  refine pa_iload_n hE dL_law_1092 rfl 0 rfl ?_
  refine pa_iconst hE dL_law_1093 (v := 2) (by decide) ?_
  refine pa_iadd hE dL_law_1094 ?_
  refine pa_sldX hE hX hbl hbA (hin2) dL_law_1095 ?_
  refine pa_aload_n hE dL_law_1096 rfl 3 rfl ?_
  refine pa_iload_n hE dL_law_1097 rfl 0 rfl ?_
  refine pa_iconst hE dL_law_1098 (v := 3) (by decide) ?_
  refine pa_iadd hE dL_law_1099 ?_
  refine pa_sldX hE hX hbl hbA (hin3) dL_law_1100 ?_
  refine pa_callVi hE (ct_X6_act l g D q u (xs (x3 + 1).toNatClampNeg) (xs (x3 + 2).toNatClampNeg) (xs (x3 + 3).toNatClampNeg) _ hw) cv_RL_135 pa_in0 rfl rfl rfl (pa_hRL (by decide) (by decide) (by omega) (by omega)) rfl (Nat.le_of_ble_eq_true rfl) dL_law_1101 (fun r u1 hw => ?_)
  refine pa_aload_n hE dL_law_1104 rfl 2 rfl ?_
  refine pa_aload_n hE dL_law_1105 rfl 3 rfl ?_
  refine pa_iload_n hE dL_law_1106 rfl 0 rfl ?_
  refine pa_iconst hE dL_law_1107 (v := 1) (by decide) ?_
  refine pa_iadd hE dL_law_1108 ?_
  refine pa_sldX hE hX hbl hbA (hin1) dL_law_1109 ?_
  refine pa_aload_n hE dL_law_1110 rfl 3 rfl ?_
  refine pa_iload_n hE dL_law_1111 rfl 0 rfl ?_
  refine pa_iconst hE dL_law_1112 (v := 2) (by decide) ?_
  refine pa_iadd hE dL_law_1113 ?_
  refine pa_sldX hE hX hbl hbA (hin2) dL_law_1114 ?_
  refine pa_aload_n hE dL_law_1115 rfl 3 rfl ?_
  refine pa_iload_n hE dL_law_1116 rfl 0 rfl ?_
  refine pa_iconst hE dL_law_1117 (v := 3) (by decide) ?_
  refine pa_iadd hE dL_law_1118 ?_
  refine pa_sldX hE hX hbl hbA (hin3) dL_law_1119 ?_
  refine pa_callVi hE (ct_X7_act l g D q u1 (xs (x3 + 1).toNatClampNeg) (xs (x3 + 2).toNatClampNeg) (xs (x3 + 3).toNatClampNeg) _ hw) cv_RL_138 pa_in24 rfl rfl rfl (pa_hRL (by decide) (by decide) (by omega) (by omega)) rfl (Nat.le_of_ble_eq_true rfl) dL_law_1120 (fun r' u2 hw => ?_)
  exact pa_icmp_eq hE dL_law_1123 (tgt := 1420) (by decide) (fun _ => pa_widen (k := kc + 3) (n := ks + 204) (by omega) (by omega) (kl q u2 hw.2)) (fun z => absurd hw.1 z)
set_option maxRecDepth 100000 in
set_option maxHeartbeats 4000000 in
theorem lc_30 {Inv : pa_S → Prop} {p : Program} {l : Launch} {e : Env} {s : State} {m : MethodId} {below : List Frame} {meth : Method} {c : Code} {D : va_G} {g : pa_G} {q : Nat → Nat → Nat} {kc ks b L : Nat} {xs : Nat → Int32} {u : pa_S} {x3 : Int32} (hE : pa_Fx p s m #[Value.ref b] meth c (fun q : Nat => s.heap.size ≤ q) D g 4 cL_law R_law) (hX : va_X b L xs s s.heap) (hbl : b < s.heap.size) (hbA : ¬ s.heap.size ≤ b) (hin1 : vp_in (x3 + 1) L) (hk : kc + 3 ≤ 600000) (hs : ks + 204 ≤ 7302250) (hw : pa_case Inv u (xs (x3 + 1).toNatClampNeg) (xs (x3 + 2).toNatClampNeg) (xs (x3 + 3).toNatClampNeg) (xs (x3 + 4).toNatClampNeg) (xs (x3 + 5).toNatClampNeg) 30) (kl : ∀ (q : Nat → Nat → Nat) (u : pa_S), Inv u → pa_At p l e room_1 s m #[Value.ref b] below meth c (lw_Z below #[Value.ref b] s) (fun q : Nat => s.heap.size ≤ q) D g 4 (kc + 3) (ks + 204) q u 1420 [(3, .int x3), (1, .ref (q 0 0)), (2, .ref (q 24 0)), (0, .ref b)] []) : pa_At p l e room_1 s m #[Value.ref b] below meth c (lw_Z below #[Value.ref b] s) (fun q : Nat => s.heap.size ≤ q) D g 4 kc ks q u 1128 [(3, .int x3), (1, .ref (q 0 0)), (2, .ref (q 24 0)), (0, .ref b)] [] := by
  have hw : wp_X6_trace u (xs (x3 + 1).toNatClampNeg) (fun (r : Int32) => (wp_X7_trace u (xs (x3 + 1).toNatClampNeg) (fun (r' : Int32) => r = r' ∧ Inv u))) := hw
  refine pa_aload_n hE dL_law_1128 rfl 1 rfl ?_
  refine pa_aload_n hE dL_law_1129 rfl 3 rfl ?_
  refine pa_iload_n hE dL_law_1130 rfl 0 rfl ?_
  refine pa_iconst hE dL_law_1131 (v := 1) (by decide) ?_
  refine pa_iadd hE dL_law_1132 ?_
  refine pa_sldX hE hX hbl hbA (hin1) dL_law_1133 ?_
  refine pa_callVri hE (ct_X6_trace l g D q u (xs (x3 + 1).toNatClampNeg) _ hw) cv_RL_139 pa_in0 rfl rfl rfl (pa_hRL (by decide) (by decide) (by omega) (by omega)) rfl (Nat.le_of_ble_eq_true rfl) dL_law_1134 (fun r hw => ?_)
  refine pa_aload_n hE dL_law_1137 rfl 2 rfl ?_
  refine pa_aload_n hE dL_law_1138 rfl 3 rfl ?_
  refine pa_iload_n hE dL_law_1139 rfl 0 rfl ?_
  refine pa_iconst hE dL_law_1140 (v := 1) (by decide) ?_
  refine pa_iadd hE dL_law_1141 ?_
  refine pa_sldX hE hX hbl hbA (hin1) dL_law_1142 ?_
  refine pa_callVri hE (ct_X7_trace l g D q u (xs (x3 + 1).toNatClampNeg) _ hw) cv_RL_142 pa_in24 rfl rfl rfl (pa_hRL (by decide) (by decide) (by omega) (by omega)) rfl (Nat.le_of_ble_eq_true rfl) dL_law_1143 (fun r' hw => ?_)
  exact pa_icmp_eq hE dL_law_1146 (tgt := 1420) (by decide) (fun _ => pa_widen (k := kc + 3) (n := ks + 204) (by omega) (by omega) (kl q u hw.2)) (fun z => absurd hw.1 z)
set_option maxRecDepth 100000 in
set_option maxHeartbeats 4000000 in
theorem lc_31 {Inv : pa_S → Prop} {p : Program} {l : Launch} {e : Env} {s : State} {m : MethodId} {below : List Frame} {meth : Method} {c : Code} {D : va_G} {g : pa_G} {q : Nat → Nat → Nat} {kc ks b L : Nat} {xs : Nat → Int32} {u : pa_S} {x3 : Int32} (hE : pa_Fx p s m #[Value.ref b] meth c (fun q : Nat => s.heap.size ≤ q) D g 4 cL_law R_law) (hX : va_X b L xs s s.heap) (hbl : b < s.heap.size) (hbA : ¬ s.heap.size ≤ b) (hin1 : vp_in (x3 + 1) L) (hin2 : vp_in (x3 + 2) L) (hk : kc + 3 ≤ 600000) (hs : ks + 204 ≤ 7302250) (hw : pa_case Inv u (xs (x3 + 1).toNatClampNeg) (xs (x3 + 2).toNatClampNeg) (xs (x3 + 3).toNatClampNeg) (xs (x3 + 4).toNatClampNeg) (xs (x3 + 5).toNatClampNeg) 31) (kl : ∀ (q : Nat → Nat → Nat) (u : pa_S), Inv u → pa_At p l e room_1 s m #[Value.ref b] below meth c (lw_Z below #[Value.ref b] s) (fun q : Nat => s.heap.size ≤ q) D g 4 (kc + 3) (ks + 204) q u 1420 [(3, .int x3), (1, .ref (q 0 0)), (2, .ref (q 24 0)), (0, .ref b)] []) : pa_At p l e room_1 s m #[Value.ref b] below meth c (lw_Z below #[Value.ref b] s) (fun q : Nat => s.heap.size ≤ q) D g 4 kc ks q u 1151 [(3, .int x3), (1, .ref (q 0 0)), (2, .ref (q 24 0)), (0, .ref b)] [] := by
  have hw : wp_X6_taken u (xs (x3 + 1).toNatClampNeg) (xs (x3 + 2).toNatClampNeg) (fun (r : Int32) => (wp_X7_taken u (xs (x3 + 1).toNatClampNeg) (xs (x3 + 2).toNatClampNeg) (fun (r' : Int32) => r = r' ∧ Inv u))) := hw
  refine pa_aload_n hE dL_law_1151 rfl 1 rfl ?_
  refine pa_aload_n hE dL_law_1152 rfl 3 rfl ?_
  refine pa_iload_n hE dL_law_1153 rfl 0 rfl ?_
  refine pa_iconst hE dL_law_1154 (v := 1) (by decide) ?_
  refine pa_iadd hE dL_law_1155 ?_
  refine pa_sldX hE hX hbl hbA (hin1) dL_law_1156 ?_
  refine pa_aload_n hE dL_law_1157 rfl 3 rfl ?_
  refine pa_iload_n hE dL_law_1158 rfl 0 rfl ?_
  refine pa_iconst hE dL_law_1159 (v := 2) (by decide) ?_
  refine pa_iadd hE dL_law_1160 ?_
  refine pa_sldX hE hX hbl hbA (hin2) dL_law_1161 ?_
  refine pa_callVri hE (ct_X6_taken l g D q u (xs (x3 + 1).toNatClampNeg) (xs (x3 + 2).toNatClampNeg) _ hw) cv_RL_143 pa_in0 rfl rfl rfl (pa_hRL (by decide) (by decide) (by omega) (by omega)) rfl (Nat.le_of_ble_eq_true rfl) dL_law_1162 (fun r hw => ?_)
  refine pa_aload_n hE dL_law_1165 rfl 2 rfl ?_
  refine pa_aload_n hE dL_law_1166 rfl 3 rfl ?_
  refine pa_iload_n hE dL_law_1167 rfl 0 rfl ?_
  refine pa_iconst hE dL_law_1168 (v := 1) (by decide) ?_
  refine pa_iadd hE dL_law_1169 ?_
  refine pa_sldX hE hX hbl hbA (hin1) dL_law_1170 ?_
  refine pa_aload_n hE dL_law_1171 rfl 3 rfl ?_
  refine pa_iload_n hE dL_law_1172 rfl 0 rfl ?_
  refine pa_iconst hE dL_law_1173 (v := 2) (by decide) ?_
  refine pa_iadd hE dL_law_1174 ?_
  refine pa_sldX hE hX hbl hbA (hin2) dL_law_1175 ?_
  refine pa_callVri hE (ct_X7_taken l g D q u (xs (x3 + 1).toNatClampNeg) (xs (x3 + 2).toNatClampNeg) _ hw) cv_RL_146 pa_in24 rfl rfl rfl (pa_hRL (by decide) (by decide) (by omega) (by omega)) rfl (Nat.le_of_ble_eq_true rfl) dL_law_1176 (fun r' hw => ?_)
  exact pa_icmp_eq hE dL_law_1179 (tgt := 1420) (by decide) (fun _ => pa_widen (k := kc + 3) (n := ks + 204) (by omega) (by omega) (kl q u hw.2)) (fun z => absurd hw.1 z)
set_option maxRecDepth 100000 in
set_option maxHeartbeats 4000000 in
theorem lc_32 {Inv : pa_S → Prop} {p : Program} {l : Launch} {e : Env} {s : State} {m : MethodId} {below : List Frame} {meth : Method} {c : Code} {D : va_G} {g : pa_G} {q : Nat → Nat → Nat} {kc ks b L : Nat} {xs : Nat → Int32} {u : pa_S} {x3 : Int32} (hE : pa_Fx p s m #[Value.ref b] meth c (fun q : Nat => s.heap.size ≤ q) D g 4 cL_law R_law) (hX : va_X b L xs s s.heap) (hbl : b < s.heap.size) (hbA : ¬ s.heap.size ≤ b) (hin1 : vp_in (x3 + 1) L) (hk : kc + 3 ≤ 600000) (hs : ks + 204 ≤ 7302250) (hw : pa_case Inv u (xs (x3 + 1).toNatClampNeg) (xs (x3 + 2).toNatClampNeg) (xs (x3 + 3).toNatClampNeg) (xs (x3 + 4).toNatClampNeg) (xs (x3 + 5).toNatClampNeg) 32) (kl : ∀ (q : Nat → Nat → Nat) (u : pa_S), Inv u → pa_At p l e room_1 s m #[Value.ref b] below meth c (lw_Z below #[Value.ref b] s) (fun q : Nat => s.heap.size ≤ q) D g 4 (kc + 3) (ks + 204) q u 1420 [(3, .int x3), (1, .ref (q 0 0)), (2, .ref (q 24 0)), (0, .ref b)] []) : pa_At p l e room_1 s m #[Value.ref b] below meth c (lw_Z below #[Value.ref b] s) (fun q : Nat => s.heap.size ≤ q) D g 4 kc ks q u 1184 [(3, .int x3), (1, .ref (q 0 0)), (2, .ref (q 24 0)), (0, .ref b)] [] := by
  have hw : wp_X6_count u (xs (x3 + 1).toNatClampNeg) (fun (r : Int32) => (wp_X7_count u (xs (x3 + 1).toNatClampNeg) (fun (r' : Int32) => r = r' ∧ Inv u))) := hw
  refine pa_aload_n hE dL_law_1184 rfl 1 rfl ?_
  refine pa_aload_n hE dL_law_1185 rfl 3 rfl ?_
  refine pa_iload_n hE dL_law_1186 rfl 0 rfl ?_
  refine pa_iconst hE dL_law_1187 (v := 1) (by decide) ?_
  refine pa_iadd hE dL_law_1188 ?_
  refine pa_sldX hE hX hbl hbA (hin1) dL_law_1189 ?_
  refine pa_callVri hE (ct_X6_count l g D q u (xs (x3 + 1).toNatClampNeg) _ hw) cv_RL_147 pa_in0 rfl rfl rfl (pa_hRL (by decide) (by decide) (by omega) (by omega)) rfl (Nat.le_of_ble_eq_true rfl) dL_law_1190 (fun r hw => ?_)
  refine pa_aload_n hE dL_law_1193 rfl 2 rfl ?_
  refine pa_aload_n hE dL_law_1194 rfl 3 rfl ?_
  refine pa_iload_n hE dL_law_1195 rfl 0 rfl ?_
  refine pa_iconst hE dL_law_1196 (v := 1) (by decide) ?_
  refine pa_iadd hE dL_law_1197 ?_
  refine pa_sldX hE hX hbl hbA (hin1) dL_law_1198 ?_
  refine pa_callVri hE (ct_X7_count l g D q u (xs (x3 + 1).toNatClampNeg) _ hw) cv_RL_150 pa_in24 rfl rfl rfl (pa_hRL (by decide) (by decide) (by omega) (by omega)) rfl (Nat.le_of_ble_eq_true rfl) dL_law_1199 (fun r' hw => ?_)
  exact pa_icmp_eq hE dL_law_1202 (tgt := 1420) (by decide) (fun _ => pa_widen (k := kc + 3) (n := ks + 204) (by omega) (by omega) (kl q u hw.2)) (fun z => absurd hw.1 z)
set_option maxRecDepth 100000 in
set_option maxHeartbeats 4000000 in
theorem lc_33 {Inv : pa_S → Prop} {p : Program} {l : Launch} {e : Env} {s : State} {m : MethodId} {below : List Frame} {meth : Method} {c : Code} {D : va_G} {g : pa_G} {q : Nat → Nat → Nat} {kc ks b L : Nat} {xs : Nat → Int32} {u : pa_S} {x3 : Int32} (hE : pa_Fx p s m #[Value.ref b] meth c (fun q : Nat => s.heap.size ≤ q) D g 4 cL_law R_law) (hX : va_X b L xs s s.heap) (hbl : b < s.heap.size) (hbA : ¬ s.heap.size ≤ b) (hin1 : vp_in (x3 + 1) L) (hin2 : vp_in (x3 + 2) L) (hin3 : vp_in (x3 + 3) L) (hk : kc + 3 ≤ 600000) (hs : ks + 204 ≤ 7302250) (hw : pa_case Inv u (xs (x3 + 1).toNatClampNeg) (xs (x3 + 2).toNatClampNeg) (xs (x3 + 3).toNatClampNeg) (xs (x3 + 4).toNatClampNeg) (xs (x3 + 5).toNatClampNeg) 33) (kl : ∀ (q : Nat → Nat → Nat) (u : pa_S), Inv u → pa_At p l e room_1 s m #[Value.ref b] below meth c (lw_Z below #[Value.ref b] s) (fun q : Nat => s.heap.size ≤ q) D g 4 (kc + 3) (ks + 204) q u 1420 [(3, .int x3), (1, .ref (q 0 0)), (2, .ref (q 24 0)), (0, .ref b)] []) : pa_At p l e room_1 s m #[Value.ref b] below meth c (lw_Z below #[Value.ref b] s) (fun q : Nat => s.heap.size ≤ q) D g 4 kc ks q u 1207 [(3, .int x3), (1, .ref (q 0 0)), (2, .ref (q 24 0)), (0, .ref b)] [] := by
  have hw : wp_X6_tape u (xs (x3 + 1).toNatClampNeg) (xs (x3 + 2).toNatClampNeg) (xs (x3 + 3).toNatClampNeg) (fun (r : Int32) (u1 : pa_S) => (wp_X7_tape u1 (xs (x3 + 1).toNatClampNeg) (xs (x3 + 2).toNatClampNeg) (xs (x3 + 3).toNatClampNeg) (fun (r' : Int32) (u2 : pa_S) => r = r' ∧ Inv u2))) := hw
  refine pa_aload_n hE dL_law_1207 rfl 1 rfl ?_
  refine pa_aload_n hE dL_law_1208 rfl 3 rfl ?_
  refine pa_iload_n hE dL_law_1209 rfl 0 rfl ?_
  refine pa_iconst hE dL_law_1210 (v := 1) (by decide) ?_
  refine pa_iadd hE dL_law_1211 ?_
  refine pa_sldX hE hX hbl hbA (hin1) dL_law_1212 ?_
  refine pa_aload_n hE dL_law_1213 rfl 3 rfl ?_
  refine pa_iload_n hE dL_law_1214 rfl 0 rfl ?_
  refine pa_iconst hE dL_law_1215 (v := 2) (by decide) ?_
  refine pa_iadd hE dL_law_1216 ?_
  refine pa_sldX hE hX hbl hbA (hin2) dL_law_1217 ?_
  refine pa_aload_n hE dL_law_1218 rfl 3 rfl ?_
  refine pa_iload_n hE dL_law_1219 rfl 0 rfl ?_
  refine pa_iconst hE dL_law_1220 (v := 3) (by decide) ?_
  refine pa_iadd hE dL_law_1221 ?_
  refine pa_sldX hE hX hbl hbA (hin3) dL_law_1222 ?_
  refine pa_callVi hE (ct_X6_tape l g D q u (xs (x3 + 1).toNatClampNeg) (xs (x3 + 2).toNatClampNeg) (xs (x3 + 3).toNatClampNeg) _ hw) cv_RL_151 pa_in0 rfl rfl rfl (pa_hRL (by decide) (by decide) (by omega) (by omega)) rfl (Nat.le_of_ble_eq_true rfl) dL_law_1223 (fun r u1 hw => ?_)
  refine pa_aload_n hE dL_law_1226 rfl 2 rfl ?_
  refine pa_aload_n hE dL_law_1227 rfl 3 rfl ?_
  refine pa_iload_n hE dL_law_1228 rfl 0 rfl ?_
  refine pa_iconst hE dL_law_1229 (v := 1) (by decide) ?_
  refine pa_iadd hE dL_law_1230 ?_
  refine pa_sldX hE hX hbl hbA (hin1) dL_law_1231 ?_
  refine pa_aload_n hE dL_law_1232 rfl 3 rfl ?_
  refine pa_iload_n hE dL_law_1233 rfl 0 rfl ?_
  refine pa_iconst hE dL_law_1234 (v := 2) (by decide) ?_
  refine pa_iadd hE dL_law_1235 ?_
  refine pa_sldX hE hX hbl hbA (hin2) dL_law_1236 ?_
  refine pa_aload_n hE dL_law_1237 rfl 3 rfl ?_
  refine pa_iload_n hE dL_law_1238 rfl 0 rfl ?_
  refine pa_iconst hE dL_law_1239 (v := 3) (by decide) ?_
  refine pa_iadd hE dL_law_1240 ?_
  refine pa_sldX hE hX hbl hbA (hin3) dL_law_1241 ?_
  refine pa_callVi hE (ct_X7_tape l g D q u1 (xs (x3 + 1).toNatClampNeg) (xs (x3 + 2).toNatClampNeg) (xs (x3 + 3).toNatClampNeg) _ hw) cv_RL_154 pa_in24 rfl rfl rfl (pa_hRL (by decide) (by decide) (by omega) (by omega)) rfl (Nat.le_of_ble_eq_true rfl) dL_law_1242 (fun r' u2 hw => ?_)
  exact pa_icmp_eq hE dL_law_1245 (tgt := 1420) (by decide) (fun _ => pa_widen (k := kc + 3) (n := ks + 204) (by omega) (by omega) (kl q u2 hw.2)) (fun z => absurd hw.1 z)
set_option maxRecDepth 100000 in
set_option maxHeartbeats 4000000 in
theorem lc_34 {Inv : pa_S → Prop} {p : Program} {l : Launch} {e : Env} {s : State} {m : MethodId} {below : List Frame} {meth : Method} {c : Code} {D : va_G} {g : pa_G} {q : Nat → Nat → Nat} {kc ks b L : Nat} {xs : Nat → Int32} {u : pa_S} {x3 : Int32} (hE : pa_Fx p s m #[Value.ref b] meth c (fun q : Nat => s.heap.size ≤ q) D g 4 cL_law R_law) (hX : va_X b L xs s s.heap) (hbl : b < s.heap.size) (hbA : ¬ s.heap.size ≤ b) (hin1 : vp_in (x3 + 1) L) (hin2 : vp_in (x3 + 2) L) (hin3 : vp_in (x3 + 3) L) (hin4 : vp_in (x3 + 4) L) (hk : kc + 3 ≤ 600000) (hs : ks + 204 ≤ 7302250) (hw : pa_case Inv u (xs (x3 + 1).toNatClampNeg) (xs (x3 + 2).toNatClampNeg) (xs (x3 + 3).toNatClampNeg) (xs (x3 + 4).toNatClampNeg) (xs (x3 + 5).toNatClampNeg) 34) (kl : ∀ (q : Nat → Nat → Nat) (u : pa_S), Inv u → pa_At p l e room_1 s m #[Value.ref b] below meth c (lw_Z below #[Value.ref b] s) (fun q : Nat => s.heap.size ≤ q) D g 4 (kc + 3) (ks + 204) q u 1420 [(3, .int x3), (1, .ref (q 0 0)), (2, .ref (q 24 0)), (0, .ref b)] []) : pa_At p l e room_1 s m #[Value.ref b] below meth c (lw_Z below #[Value.ref b] s) (fun q : Nat => s.heap.size ≤ q) D g 4 kc ks q u 1250 [(3, .int x3), (1, .ref (q 0 0)), (2, .ref (q 24 0)), (0, .ref b)] [] := by
  have hw : wp_X6_item u (xs (x3 + 1).toNatClampNeg) (xs (x3 + 2).toNatClampNeg) ((((xs (x3 + 3).toNatClampNeg).toInt64) <<< ((32 : Int32).toInt64 &&& 63)) ||| (((xs (x3 + 4).toNatClampNeg).toInt64) &&& 4294967295)) (fun (r : Int32) (u1 : pa_S) => (wp_X7_item u1 (xs (x3 + 1).toNatClampNeg) (xs (x3 + 2).toNatClampNeg) ((((xs (x3 + 3).toNatClampNeg).toInt64) <<< ((32 : Int32).toInt64 &&& 63)) ||| (((xs (x3 + 4).toNatClampNeg).toInt64) &&& 4294967295)) (fun (r' : Int32) (u2 : pa_S) => r = r' ∧ Inv u2))) := hw
  refine pa_aload_n hE dL_law_1250 rfl 1 rfl ?_
  refine pa_aload_n hE dL_law_1251 rfl 3 rfl ?_
  refine pa_iload_n hE dL_law_1252 rfl 0 rfl ?_
  refine pa_iconst hE dL_law_1253 (v := 1) (by decide) ?_
  refine pa_iadd hE dL_law_1254 ?_
  refine pa_sldX hE hX hbl hbA (hin1) dL_law_1255 ?_
  refine pa_aload_n hE dL_law_1256 rfl 3 rfl ?_
  refine pa_iload_n hE dL_law_1257 rfl 0 rfl ?_
  refine pa_iconst hE dL_law_1258 (v := 2) (by decide) ?_
  refine pa_iadd hE dL_law_1259 ?_
  refine pa_sldX hE hX hbl hbA (hin2) dL_law_1260 ?_
  refine pa_aload_n hE dL_law_1261 rfl 3 rfl ?_
  refine pa_iload_n hE dL_law_1262 rfl 0 rfl ?_
  refine pa_iconst hE dL_law_1263 (v := 3) (by decide) ?_
  refine pa_iadd hE dL_law_1264 ?_
  refine pa_sldX hE hX hbl hbA (hin3) dL_law_1265 ?_
  refine pa_i2l hE dL_law_1266 ?_
  refine pa_bipush hE dL_law_1267 (v := 32) (by decide) ?_
  refine pa_lshl hE dL_law_1269 ?_
  refine pa_aload_n hE dL_law_1270 rfl 3 rfl ?_
  refine pa_iload_n hE dL_law_1271 rfl 0 rfl ?_
  refine pa_iconst hE dL_law_1272 (v := 4) (by decide) ?_
  refine pa_iadd hE dL_law_1273 ?_
  refine pa_sldX hE hX hbl hbA (hin4) dL_law_1274 ?_
  refine pa_i2l hE dL_law_1275 ?_
  refine pa_ldc2 hE dL_law_1276 (v := 4294967295) (pa_m6 233 rfl rfl) ?_
  refine pa_land hE dL_law_1279 ?_
  refine pa_lor hE dL_law_1280 ?_
  refine pa_callVi hE (ct_X6_item l g D q u (xs (x3 + 1).toNatClampNeg) (xs (x3 + 2).toNatClampNeg) ((((xs (x3 + 3).toNatClampNeg).toInt64) <<< ((32 : Int32).toInt64 &&& 63)) ||| (((xs (x3 + 4).toNatClampNeg).toInt64) &&& 4294967295)) _ hw) cv_RL_157 pa_in0 rfl rfl rfl (pa_hRL (by decide) (by decide) (by omega) (by omega)) rfl (Nat.le_of_ble_eq_true rfl) dL_law_1281 (fun r u1 hw => ?_)
  refine pa_aload_n hE dL_law_1284 rfl 2 rfl ?_
  refine pa_aload_n hE dL_law_1285 rfl 3 rfl ?_
  refine pa_iload_n hE dL_law_1286 rfl 0 rfl ?_
  refine pa_iconst hE dL_law_1287 (v := 1) (by decide) ?_
  refine pa_iadd hE dL_law_1288 ?_
  refine pa_sldX hE hX hbl hbA (hin1) dL_law_1289 ?_
  refine pa_aload_n hE dL_law_1290 rfl 3 rfl ?_
  refine pa_iload_n hE dL_law_1291 rfl 0 rfl ?_
  refine pa_iconst hE dL_law_1292 (v := 2) (by decide) ?_
  refine pa_iadd hE dL_law_1293 ?_
  refine pa_sldX hE hX hbl hbA (hin2) dL_law_1294 ?_
  refine pa_aload_n hE dL_law_1295 rfl 3 rfl ?_
  refine pa_iload_n hE dL_law_1296 rfl 0 rfl ?_
  refine pa_iconst hE dL_law_1297 (v := 3) (by decide) ?_
  refine pa_iadd hE dL_law_1298 ?_
  refine pa_sldX hE hX hbl hbA (hin3) dL_law_1299 ?_
  refine pa_i2l hE dL_law_1300 ?_
  refine pa_bipush hE dL_law_1301 (v := 32) (by decide) ?_
  refine pa_lshl hE dL_law_1303 ?_
  refine pa_aload_n hE dL_law_1304 rfl 3 rfl ?_
  refine pa_iload_n hE dL_law_1305 rfl 0 rfl ?_
  refine pa_iconst hE dL_law_1306 (v := 4) (by decide) ?_
  refine pa_iadd hE dL_law_1307 ?_
  refine pa_sldX hE hX hbl hbA (hin4) dL_law_1308 ?_
  refine pa_i2l hE dL_law_1309 ?_
  refine pa_ldc2 hE dL_law_1310 (v := 4294967295) (pa_m6 233 rfl rfl) ?_
  refine pa_land hE dL_law_1313 ?_
  refine pa_lor hE dL_law_1314 ?_
  refine pa_callVi hE (ct_X7_item l g D q u1 (xs (x3 + 1).toNatClampNeg) (xs (x3 + 2).toNatClampNeg) ((((xs (x3 + 3).toNatClampNeg).toInt64) <<< ((32 : Int32).toInt64 &&& 63)) ||| (((xs (x3 + 4).toNatClampNeg).toInt64) &&& 4294967295)) _ hw) cv_RL_161 pa_in24 rfl rfl rfl (pa_hRL (by decide) (by decide) (by omega) (by omega)) rfl (Nat.le_of_ble_eq_true rfl) dL_law_1315 (fun r' u2 hw => ?_)
  exact pa_icmp_eq hE dL_law_1318 (tgt := 1420) (by decide) (fun _ => pa_widen (k := kc + 3) (n := ks + 204) (by omega) (by omega) (kl q u2 hw.2)) (fun z => absurd hw.1 z)
set_option maxRecDepth 100000 in
set_option maxHeartbeats 4000000 in
theorem lc_35 {Inv : pa_S → Prop} {p : Program} {l : Launch} {e : Env} {s : State} {m : MethodId} {below : List Frame} {meth : Method} {c : Code} {D : va_G} {g : pa_G} {q : Nat → Nat → Nat} {kc ks b L : Nat} {xs : Nat → Int32} {u : pa_S} {x3 : Int32} (hE : pa_Fx p s m #[Value.ref b] meth c (fun q : Nat => s.heap.size ≤ q) D g 4 cL_law R_law) (hX : va_X b L xs s s.heap) (hbl : b < s.heap.size) (hbA : ¬ s.heap.size ≤ b) (hin1 : vp_in (x3 + 1) L) (hin2 : vp_in (x3 + 2) L) (hk : kc + 3 ≤ 600000) (hs : ks + 204 ≤ 7302250) (hw : pa_case Inv u (xs (x3 + 1).toNatClampNeg) (xs (x3 + 2).toNatClampNeg) (xs (x3 + 3).toNatClampNeg) (xs (x3 + 4).toNatClampNeg) (xs (x3 + 5).toNatClampNeg) 35) (kl : ∀ (q : Nat → Nat → Nat) (u : pa_S), Inv u → pa_At p l e room_1 s m #[Value.ref b] below meth c (lw_Z below #[Value.ref b] s) (fun q : Nat => s.heap.size ≤ q) D g 4 (kc + 3) (ks + 204) q u 1420 [(3, .int x3), (1, .ref (q 0 0)), (2, .ref (q 24 0)), (0, .ref b)] []) : pa_At p l e room_1 s m #[Value.ref b] below meth c (lw_Z below #[Value.ref b] s) (fun q : Nat => s.heap.size ≤ q) D g 4 kc ks q u 1323 [(3, .int x3), (1, .ref (q 0 0)), (2, .ref (q 24 0)), (0, .ref b)] [] := by
  have hw : wp_X6_read u (xs (x3 + 1).toNatClampNeg) (xs (x3 + 2).toNatClampNeg) (fun (r : Int64) => (wp_X7_read u (xs (x3 + 1).toNatClampNeg) (xs (x3 + 2).toNatClampNeg) (fun (r' : Int64) => r = r' ∧ Inv u))) := hw
  refine pa_aload_n hE dL_law_1323 rfl 1 rfl ?_
  refine pa_aload_n hE dL_law_1324 rfl 3 rfl ?_
  refine pa_iload_n hE dL_law_1325 rfl 0 rfl ?_
  refine pa_iconst hE dL_law_1326 (v := 1) (by decide) ?_
  refine pa_iadd hE dL_law_1327 ?_
  refine pa_sldX hE hX hbl hbA (hin1) dL_law_1328 ?_
  refine pa_aload_n hE dL_law_1329 rfl 3 rfl ?_
  refine pa_iload_n hE dL_law_1330 rfl 0 rfl ?_
  refine pa_iconst hE dL_law_1331 (v := 2) (by decide) ?_
  refine pa_iadd hE dL_law_1332 ?_
  refine pa_sldX hE hX hbl hbA (hin2) dL_law_1333 ?_
  refine pa_callVrl hE (ct_X6_read l g D q u (xs (x3 + 1).toNatClampNeg) (xs (x3 + 2).toNatClampNeg) _ hw) cv_RL_162 pa_in0 rfl rfl rfl (pa_hRL (by decide) (by decide) (by omega) (by omega)) rfl (Nat.le_of_ble_eq_true rfl) dL_law_1334 (fun r hw => ?_)
  refine pa_aload_n hE dL_law_1337 rfl 2 rfl ?_
  refine pa_aload_n hE dL_law_1338 rfl 3 rfl ?_
  refine pa_iload_n hE dL_law_1339 rfl 0 rfl ?_
  refine pa_iconst hE dL_law_1340 (v := 1) (by decide) ?_
  refine pa_iadd hE dL_law_1341 ?_
  refine pa_sldX hE hX hbl hbA (hin1) dL_law_1342 ?_
  refine pa_aload_n hE dL_law_1343 rfl 3 rfl ?_
  refine pa_iload_n hE dL_law_1344 rfl 0 rfl ?_
  refine pa_iconst hE dL_law_1345 (v := 2) (by decide) ?_
  refine pa_iadd hE dL_law_1346 ?_
  refine pa_sldX hE hX hbl hbA (hin2) dL_law_1347 ?_
  refine pa_callVrl hE (ct_X7_read l g D q u (xs (x3 + 1).toNatClampNeg) (xs (x3 + 2).toNatClampNeg) _ hw) cv_RL_165 pa_in24 rfl rfl rfl (pa_hRL (by decide) (by decide) (by omega) (by omega)) rfl (Nat.le_of_ble_eq_true rfl) dL_law_1348 (fun r' hw => ?_)
  refine pa_lcmp hE dL_law_1351 ?_
  exact pa_if_eq hE dL_law_1352 (tgt := 1420) (by decide) (fun _ => pa_widen (k := kc + 3) (n := ks + 204) (by omega) (by omega) (kl q u hw.2)) (fun z => absurd (pa_cmp0 hw.1) z)
set_option maxRecDepth 100000 in
set_option maxHeartbeats 4000000 in
theorem lc_36 {Inv : pa_S → Prop} {p : Program} {l : Launch} {e : Env} {s : State} {m : MethodId} {below : List Frame} {meth : Method} {c : Code} {D : va_G} {g : pa_G} {q : Nat → Nat → Nat} {kc ks b L : Nat} {xs : Nat → Int32} {u : pa_S} {x3 : Int32} (hE : pa_Fx p s m #[Value.ref b] meth c (fun q : Nat => s.heap.size ≤ q) D g 4 cL_law R_law) (hX : va_X b L xs s s.heap) (hbl : b < s.heap.size) (hbA : ¬ s.heap.size ≤ b) (hin1 : vp_in (x3 + 1) L) (hin2 : vp_in (x3 + 2) L) (hin3 : vp_in (x3 + 3) L) (hin4 : vp_in (x3 + 4) L) (hin5 : vp_in (x3 + 5) L) (hk : kc + 3 ≤ 600000) (hs : ks + 204 ≤ 7302250) (hw : pa_case Inv u (xs (x3 + 1).toNatClampNeg) (xs (x3 + 2).toNatClampNeg) (xs (x3 + 3).toNatClampNeg) (xs (x3 + 4).toNatClampNeg) (xs (x3 + 5).toNatClampNeg) 36) (kl : ∀ (q : Nat → Nat → Nat) (u : pa_S), Inv u → pa_At p l e room_1 s m #[Value.ref b] below meth c (lw_Z below #[Value.ref b] s) (fun q : Nat => s.heap.size ≤ q) D g 4 (kc + 3) (ks + 204) q u 1420 [(3, .int x3), (1, .ref (q 0 0)), (2, .ref (q 24 0)), (0, .ref b)] []) : pa_At p l e room_1 s m #[Value.ref b] below meth c (lw_Z below #[Value.ref b] s) (fun q : Nat => s.heap.size ≤ q) D g 4 kc ks q u 1357 [(3, .int x3), (1, .ref (q 0 0)), (2, .ref (q 24 0)), (0, .ref b)] [] := by
  have hw : wp_X6_shift u (xs (x3 + 1).toNatClampNeg) (xs (x3 + 2).toNatClampNeg) (xs (x3 + 3).toNatClampNeg) (xs (x3 + 4).toNatClampNeg) (xs (x3 + 5).toNatClampNeg) (fun (r : Int32) (u1 : pa_S) => (wp_X7_shift u1 (xs (x3 + 1).toNatClampNeg) (xs (x3 + 2).toNatClampNeg) (xs (x3 + 3).toNatClampNeg) (xs (x3 + 4).toNatClampNeg) (xs (x3 + 5).toNatClampNeg) (fun (r' : Int32) (u2 : pa_S) => r = r' ∧ Inv u2))) := hw
  refine pa_aload_n hE dL_law_1357 rfl 1 rfl ?_
  refine pa_aload_n hE dL_law_1358 rfl 3 rfl ?_
  refine pa_iload_n hE dL_law_1359 rfl 0 rfl ?_
  refine pa_iconst hE dL_law_1360 (v := 1) (by decide) ?_
  refine pa_iadd hE dL_law_1361 ?_
  refine pa_sldX hE hX hbl hbA (hin1) dL_law_1362 ?_
  refine pa_aload_n hE dL_law_1363 rfl 3 rfl ?_
  refine pa_iload_n hE dL_law_1364 rfl 0 rfl ?_
  refine pa_iconst hE dL_law_1365 (v := 2) (by decide) ?_
  refine pa_iadd hE dL_law_1366 ?_
  refine pa_sldX hE hX hbl hbA (hin2) dL_law_1367 ?_
  refine pa_aload_n hE dL_law_1368 rfl 3 rfl ?_
  refine pa_iload_n hE dL_law_1369 rfl 0 rfl ?_
  refine pa_iconst hE dL_law_1370 (v := 3) (by decide) ?_
  refine pa_iadd hE dL_law_1371 ?_
  refine pa_sldX hE hX hbl hbA (hin3) dL_law_1372 ?_
  refine pa_aload_n hE dL_law_1373 rfl 3 rfl ?_
  refine pa_iload_n hE dL_law_1374 rfl 0 rfl ?_
  refine pa_iconst hE dL_law_1375 (v := 4) (by decide) ?_
  refine pa_iadd hE dL_law_1376 ?_
  refine pa_sldX hE hX hbl hbA (hin4) dL_law_1377 ?_
  refine pa_aload_n hE dL_law_1378 rfl 3 rfl ?_
  refine pa_iload_n hE dL_law_1379 rfl 0 rfl ?_
  refine pa_iconst hE dL_law_1380 (v := 5) (by decide) ?_
  refine pa_iadd hE dL_law_1381 ?_
  refine pa_sldX hE hX hbl hbA (hin5) dL_law_1382 ?_
  refine pa_callVi hE (ct_X6_shift l g D q u (xs (x3 + 1).toNatClampNeg) (xs (x3 + 2).toNatClampNeg) (xs (x3 + 3).toNatClampNeg) (xs (x3 + 4).toNatClampNeg) (xs (x3 + 5).toNatClampNeg) _ hw) cv_RL_166 pa_in0 rfl rfl rfl (pa_hRL (by decide) (by decide) (by omega) (by omega)) rfl (Nat.le_of_ble_eq_true rfl) dL_law_1383 (fun r u1 hw => ?_)
  refine pa_aload_n hE dL_law_1386 rfl 2 rfl ?_
  refine pa_aload_n hE dL_law_1387 rfl 3 rfl ?_
  refine pa_iload_n hE dL_law_1388 rfl 0 rfl ?_
  refine pa_iconst hE dL_law_1389 (v := 1) (by decide) ?_
  refine pa_iadd hE dL_law_1390 ?_
  refine pa_sldX hE hX hbl hbA (hin1) dL_law_1391 ?_
  refine pa_aload_n hE dL_law_1392 rfl 3 rfl ?_
  refine pa_iload_n hE dL_law_1393 rfl 0 rfl ?_
  refine pa_iconst hE dL_law_1394 (v := 2) (by decide) ?_
  refine pa_iadd hE dL_law_1395 ?_
  refine pa_sldX hE hX hbl hbA (hin2) dL_law_1396 ?_
  refine pa_aload_n hE dL_law_1397 rfl 3 rfl ?_
  refine pa_iload_n hE dL_law_1398 rfl 0 rfl ?_
  refine pa_iconst hE dL_law_1399 (v := 3) (by decide) ?_
  refine pa_iadd hE dL_law_1400 ?_
  refine pa_sldX hE hX hbl hbA (hin3) dL_law_1401 ?_
  refine pa_aload_n hE dL_law_1402 rfl 3 rfl ?_
  refine pa_iload_n hE dL_law_1403 rfl 0 rfl ?_
  refine pa_iconst hE dL_law_1404 (v := 4) (by decide) ?_
  refine pa_iadd hE dL_law_1405 ?_
  refine pa_sldX hE hX hbl hbA (hin4) dL_law_1406 ?_
  refine pa_aload_n hE dL_law_1407 rfl 3 rfl ?_
  refine pa_iload_n hE dL_law_1408 rfl 0 rfl ?_
  refine pa_iconst hE dL_law_1409 (v := 5) (by decide) ?_
  refine pa_iadd hE dL_law_1410 ?_
  refine pa_sldX hE hX hbl hbA (hin5) dL_law_1411 ?_
  refine pa_callVi hE (ct_X7_shift l g D q u1 (xs (x3 + 1).toNatClampNeg) (xs (x3 + 2).toNatClampNeg) (xs (x3 + 3).toNatClampNeg) (xs (x3 + 4).toNatClampNeg) (xs (x3 + 5).toNatClampNeg) _ hw) cv_RL_170 pa_in24 rfl rfl rfl (pa_hRL (by decide) (by decide) (by omega) (by omega)) rfl (Nat.le_of_ble_eq_true rfl) dL_law_1412 (fun r' u2 hw => ?_)
  exact pa_icmp_eq hE dL_law_1415 (tgt := 1420) (by decide) (fun _ => pa_widen (k := kc + 3) (n := ks + 204) (by omega) (by omega) (kl q u2 hw.2)) (fun z => absurd hw.1 z)
set_option maxRecDepth 100000 in
set_option maxHeartbeats 40000000 in
theorem law_loop {Inv : pa_S → Prop} {p : Program} {l : Launch} {e : Env} {s : State} {m : MethodId} {below : List Frame} {meth : Method} {c : Code} {D : va_G} {g : pa_G} {b L : Nat} {xs : Nat → Int32} (hcase : ∀ (u : pa_S) (a1 a2 a3 a4 a5 : Int32) (k : Nat), Inv u → pa_case Inv u a1 a2 a3 a4 a5 k) (hE : pa_Fx p s m #[Value.ref b] meth c (fun q : Nat => s.heap.size ≤ q) D g 4 cL_law R_law) (hr : meth.sig.returnType = ret) (hL : L ≤ 3072) (hX : va_X b L xs s s.heap) (hbl : b < s.heap.size) : ∀ (n j kc ks : Nat) (q : Nat → Nat → Nat) (u : pa_S), L + 6 ≤ 6 * (j + n) → 6 * j ≤ L → kc + 3 * n ≤ 600000 → ks + 204 * n ≤ 7302250 → Inv u → pa_At p l e room_1 s m #[Value.ref b] below meth c (lw_Z below #[Value.ref b] s) (fun q : Nat => s.heap.size ≤ q) D g 4 kc ks q u 18 [(3, .int (nI (6 * j))), (1, .ref (q 0 0)), (2, .ref (q 24 0)), (0, .ref b)] [] := by
  have hbA : ¬ s.heap.size ≤ b := Nat.not_le.mpr hbl
  intro n
  induction n with
  | zero => intro j kc ks q u h1 h2; omega
  | succ n ih =>
    intro j kc ks q u h1 h2 h3 h4 hI
    refine pa_iload_n hE dL_law_18 rfl 0 rfl ?_
    refine pa_aload_n hE dL_law_19 rfl 3 rfl ?_
    refine pa_slenX hE hX hbl hbA dL_law_20 ?_
    refine pa_bipush hE dL_law_21 (v := 6) (by decide) ?_
    refine pa_isub hE dL_law_23 ?_
    have e6 : (nI L - 6).toInt = (L : Int) - 6 := pk_sub_toInt (a := L) (b := 6) (by omega) (by omega)
    have ej : (nI (6 * j)).toInt = ((6 * j : Nat) : Int) := nI_toInt (by omega)
    refine pa_icmp_gt hE dL_law_24 (tgt := 1426) (by decide) (fun _ => ?_) (fun hle => ?_)
    · refine pa_iconst hE dL_law_1426 (v := 1) (by decide) ?_
      intro H locs ls hP hD hS hl
      exact va_forget (fun q hq => hS.2.2 q hq) (W.widen (by omega) (by omega) (lw_ret hE.1 hE.2.1 hr hE.2.2.2.2.2.2.1 dL_law_1427))
    · have hle : 6 * (j + 1) ≤ L := by
        rw [Int32.lt_iff_toInt_lt, e6, ej] at hle
        omega
      have hx : ∀ k, k < 6 → nI (6 * j) + nI k = nI (6 * j + k) := fun k hk => nI_add _ _
      have hin0 : vp_in (nI (6 * j)) L := vp_in_nI (by omega) (by omega)
      have hin1 : vp_in (nI (6 * j) + 1) L := by rw [show (1 : Int32) = nI 1 from rfl, hx 1 (by omega)]; exact vp_in_nI (by omega) (by omega)
      have hin2 : vp_in (nI (6 * j) + 2) L := by rw [show (2 : Int32) = nI 2 from rfl, hx 2 (by omega)]; exact vp_in_nI (by omega) (by omega)
      have hin3 : vp_in (nI (6 * j) + 3) L := by rw [show (3 : Int32) = nI 3 from rfl, hx 3 (by omega)]; exact vp_in_nI (by omega) (by omega)
      have hin4 : vp_in (nI (6 * j) + 4) L := by rw [show (4 : Int32) = nI 4 from rfl, hx 4 (by omega)]; exact vp_in_nI (by omega) (by omega)
      have hin5 : vp_in (nI (6 * j) + 5) L := by rw [show (5 : Int32) = nI 5 from rfl, hx 5 (by omega)]; exact vp_in_nI (by omega) (by omega)
      have kl : ∀ (q : Nat → Nat → Nat) (u : pa_S), Inv u → pa_At p l e room_1 s m #[Value.ref b] below meth c (lw_Z below #[Value.ref b] s) (fun q : Nat => s.heap.size ≤ q) D g 4 (kc + 3) (ks + 204) q u 1420 [(3, .int (nI (6 * j))), (1, .ref (q 0 0)), (2, .ref (q 24 0)), (0, .ref b)] [] := by
        intro q u hI
        refine pa_iinc hE dL_law_1420 (v := 6) 0 rfl (by decide) (by decide) (lvr := [(1, .ref (q 0 0)), (2, .ref (q 24 0)), (0, .ref b)]) rfl (fun y ey => ?_)
        have ey : y = nI (6 * (j + 1)) := by rw [ey, show (6 : Int32) = nI 6 from rfl, nI_add]; congr 1
        subst ey
        refine pa_goto hE dL_law_1423 (tgt := 18) (by decide) ?_
        exact ih (j + 1) (kc + 3) (ks + 204) q u (by omega) hle (by omega) (by omega) hI
      refine pa_aload_n hE dL_law_27 rfl 3 rfl ?_
      refine pa_iload_n hE dL_law_28 rfl 0 rfl ?_
      refine pa_sldX hE hX hbl hbA hin0 dL_law_29 ?_
      refine pa_bipush hE dL_law_30 (v := 63) (by decide) ?_
      refine pa_iand hE dL_law_32 ?_
      refine pa_namei (fun z ez => ?_)
      by_cases h0 : z = 0
      · refine pa_tswIn hE dL_law_33 (z := 0) h0 (by decide) (by decide) rfl (tgt := 196) (by decide) ?_
        exact lc_0 hE hX hbl hbA hin1 hin2 hin3 (by omega) (by omega) (hcase u _ _ _ _ _ 0 hI) kl
      by_cases h1 : z = 1
      · refine pa_tswIn hE dL_law_33 (z := 1) h1 (by decide) (by decide) rfl (tgt := 239) (by decide) ?_
        exact lc_1 hE hX hbl hbA hin1 hin2 (by omega) (by omega) (hcase u _ _ _ _ _ 1 hI) kl
      by_cases h2 : z = 2
      · refine pa_tswIn hE dL_law_33 (z := 2) h2 (by decide) (by decide) rfl (tgt := 272) (by decide) ?_
        exact lc_2 hE hX hbl hbA hin1 hin2 hin3 (by omega) (by omega) (hcase u _ _ _ _ _ 2 hI) kl
      by_cases h3 : z = 3
      · refine pa_tswIn hE dL_law_33 (z := 3) h3 (by decide) (by decide) rfl (tgt := 315) (by decide) ?_
        exact lc_3 hE hX hbl hbA hin1 hin2 hin3 (by omega) (by omega) (hcase u _ _ _ _ _ 3 hI) kl
      by_cases h4 : z = 4
      · refine pa_tswIn hE dL_law_33 (z := 4) h4 (by decide) (by decide) rfl (tgt := 358) (by decide) ?_
        exact lc_4 hE hX hbl hbA hin1 (by omega) (by omega) (hcase u _ _ _ _ _ 4 hI) kl
      by_cases h5 : z = 5
      · refine pa_tswIn hE dL_law_33 (z := 5) h5 (by decide) (by decide) rfl (tgt := 381) (by decide) ?_
        exact lc_5 hE hX hbl hbA hin1 hin2 hin3 (by omega) (by omega) (hcase u _ _ _ _ _ 5 hI) kl
      by_cases h6 : z = 6
      · refine pa_tswIn hE dL_law_33 (z := 6) h6 (by decide) (by decide) rfl (tgt := 424) (by decide) ?_
        exact lc_6 hE hX hbl hbA hin1 hin2 (by omega) (by omega) (hcase u _ _ _ _ _ 6 hI) kl
      by_cases h7 : z = 7
      · refine pa_tswIn hE dL_law_33 (z := 7) h7 (by decide) (by decide) rfl (tgt := 457) (by decide) ?_
        exact lc_7 hE hX hbl hbA hin1 (by omega) (by omega) (hcase u _ _ _ _ _ 7 hI) kl
      by_cases h8 : z = 8
      · refine pa_tswIn hE dL_law_33 (z := 8) h8 (by decide) (by decide) rfl (tgt := 480) (by decide) ?_
        exact lc_8 hE hX hbl hbA  (by omega) (by omega) (hcase u _ _ _ _ _ 8 hI) kl
      by_cases h9 : z = 9
      · refine pa_tswIn hE dL_law_33 (z := 9) h9 (by decide) (by decide) rfl (tgt := 493) (by decide) ?_
        exact lc_9 hE hX hbl hbA hin1 (by omega) (by omega) (hcase u _ _ _ _ _ 9 hI) kl
      by_cases h10 : z = 10
      · refine pa_tswIn hE dL_law_33 (z := 10) h10 (by decide) (by decide) rfl (tgt := 516) (by decide) ?_
        exact lc_10 hE hX hbl hbA hin1 (by omega) (by omega) (hcase u _ _ _ _ _ 10 hI) kl
      by_cases h11 : z = 11
      · refine pa_tswIn hE dL_law_33 (z := 11) h11 (by decide) (by decide) rfl (tgt := 539) (by decide) ?_
        exact lc_11 hE hX hbl hbA hin1 hin2 (by omega) (by omega) (hcase u _ _ _ _ _ 11 hI) kl
      by_cases h12 : z = 12
      · refine pa_tswIn hE dL_law_33 (z := 12) h12 (by decide) (by decide) rfl (tgt := 572) (by decide) ?_
        exact lc_12 hE hX hbl hbA hin1 hin2 (by omega) (by omega) (hcase u _ _ _ _ _ 12 hI) kl
      by_cases h13 : z = 13
      · refine pa_tswIn hE dL_law_33 (z := 13) h13 (by decide) (by decide) rfl (tgt := 605) (by decide) ?_
        exact lc_13 hE hX hbl hbA hin1 hin2 (by omega) (by omega) (hcase u _ _ _ _ _ 13 hI) kl
      by_cases h14 : z = 14
      · refine pa_tswIn hE dL_law_33 (z := 14) h14 (by decide) (by decide) rfl (tgt := 638) (by decide) ?_
        exact lc_14 hE hX hbl hbA hin1 hin2 hin3 (by omega) (by omega) (hcase u _ _ _ _ _ 14 hI) kl
      by_cases h15 : z = 15
      · refine pa_tswIn hE dL_law_33 (z := 15) h15 (by decide) (by decide) rfl (tgt := 681) (by decide) ?_
        exact lc_15 hE hX hbl hbA  (by omega) (by omega) (hcase u _ _ _ _ _ 15 hI) kl
      by_cases h16 : z = 16
      · refine pa_tswIn hE dL_law_33 (z := 16) h16 (by decide) (by decide) rfl (tgt := 694) (by decide) ?_
        exact lc_16 hE hX hbl hbA hin1 hin2 hin3 (by omega) (by omega) (hcase u _ _ _ _ _ 16 hI) kl
      by_cases h17 : z = 17
      · refine pa_tswIn hE dL_law_33 (z := 17) h17 (by decide) (by decide) rfl (tgt := 737) (by decide) ?_
        exact lc_17 hE hX hbl hbA  (by omega) (by omega) (hcase u _ _ _ _ _ 17 hI) kl
      by_cases h18 : z = 18
      · refine pa_tswIn hE dL_law_33 (z := 18) h18 (by decide) (by decide) rfl (tgt := 750) (by decide) ?_
        exact lc_18 hE hX hbl hbA hin1 (by omega) (by omega) (hcase u _ _ _ _ _ 18 hI) kl
      by_cases h19 : z = 19
      · refine pa_tswIn hE dL_law_33 (z := 19) h19 (by decide) (by decide) rfl (tgt := 773) (by decide) ?_
        exact lc_19 hE hX hbl hbA hin1 hin2 hin3 hin4 (by omega) (by omega) (hcase u _ _ _ _ _ 19 hI) kl
      by_cases h20 : z = 20
      · refine pa_tswIn hE dL_law_33 (z := 20) h20 (by decide) (by decide) rfl (tgt := 826) (by decide) ?_
        exact lc_20 hE hX hbl hbA hin1 hin2 hin3 (by omega) (by omega) (hcase u _ _ _ _ _ 20 hI) kl
      by_cases h21 : z = 21
      · refine pa_tswIn hE dL_law_33 (z := 21) h21 (by decide) (by decide) rfl (tgt := 869) (by decide) ?_
        exact lc_21 hE hX hbl hbA hin1 hin2 (by omega) (by omega) (hcase u _ _ _ _ _ 21 hI) kl
      by_cases h22 : z = 22
      · refine pa_tswIn hE dL_law_33 (z := 22) h22 (by decide) (by decide) rfl (tgt := 902) (by decide) ?_
        exact lc_22 hE hX hbl hbA hin1 hin2 (by omega) (by omega) (hcase u _ _ _ _ _ 22 hI) kl
      by_cases h23 : z = 23
      · refine pa_tswIn hE dL_law_33 (z := 23) h23 (by decide) (by decide) rfl (tgt := 936) (by decide) ?_
        exact lc_23 hE hX hbl hbA hin1 hin2 (by omega) (by omega) (hcase u _ _ _ _ _ 23 hI) kl
      by_cases h24 : z = 24
      · refine pa_tswIn hE dL_law_33 (z := 24) h24 (by decide) (by decide) rfl (tgt := 970) (by decide) ?_
        exact lc_24 hE hX hbl hbA hin1 hin2 (by omega) (by omega) (hcase u _ _ _ _ _ 24 hI) kl
      by_cases h25 : z = 25
      · refine pa_tswIn hE dL_law_33 (z := 25) h25 (by decide) (by decide) rfl (tgt := 1003) (by decide) ?_
        exact lc_25 hE hX hbl hbA hin1 (by omega) (by omega) (hcase u _ _ _ _ _ 25 hI) kl
      by_cases h26 : z = 26
      · refine pa_tswIn hE dL_law_33 (z := 26) h26 (by decide) (by decide) rfl (tgt := 1026) (by decide) ?_
        exact lc_26 hE hX hbl hbA hin1 hin2 (by omega) (by omega) (hcase u _ _ _ _ _ 26 hI) kl
      by_cases h27 : z = 27
      · refine pa_tswIn hE dL_law_33 (z := 27) h27 (by decide) (by decide) rfl (tgt := 1059) (by decide) ?_
        exact lc_27 hE hX hbl hbA  (by omega) (by omega) (hcase u _ _ _ _ _ 27 hI) kl
      by_cases h28 : z = 28
      · refine pa_tswIn hE dL_law_33 (z := 28) h28 (by decide) (by decide) rfl (tgt := 1072) (by decide) ?_
        exact lc_28 hE hX hbl hbA  (by omega) (by omega) (hcase u _ _ _ _ _ 28 hI) kl
      by_cases h29 : z = 29
      · refine pa_tswIn hE dL_law_33 (z := 29) h29 (by decide) (by decide) rfl (tgt := 1085) (by decide) ?_
        exact lc_29 hE hX hbl hbA hin1 hin2 hin3 (by omega) (by omega) (hcase u _ _ _ _ _ 29 hI) kl
      by_cases h30 : z = 30
      · refine pa_tswIn hE dL_law_33 (z := 30) h30 (by decide) (by decide) rfl (tgt := 1128) (by decide) ?_
        exact lc_30 hE hX hbl hbA hin1 (by omega) (by omega) (hcase u _ _ _ _ _ 30 hI) kl
      by_cases h31 : z = 31
      · refine pa_tswIn hE dL_law_33 (z := 31) h31 (by decide) (by decide) rfl (tgt := 1151) (by decide) ?_
        exact lc_31 hE hX hbl hbA hin1 hin2 (by omega) (by omega) (hcase u _ _ _ _ _ 31 hI) kl
      by_cases h32 : z = 32
      · refine pa_tswIn hE dL_law_33 (z := 32) h32 (by decide) (by decide) rfl (tgt := 1184) (by decide) ?_
        exact lc_32 hE hX hbl hbA hin1 (by omega) (by omega) (hcase u _ _ _ _ _ 32 hI) kl
      by_cases h33 : z = 33
      · refine pa_tswIn hE dL_law_33 (z := 33) h33 (by decide) (by decide) rfl (tgt := 1207) (by decide) ?_
        exact lc_33 hE hX hbl hbA hin1 hin2 hin3 (by omega) (by omega) (hcase u _ _ _ _ _ 33 hI) kl
      by_cases h34 : z = 34
      · refine pa_tswIn hE dL_law_33 (z := 34) h34 (by decide) (by decide) rfl (tgt := 1250) (by decide) ?_
        exact lc_34 hE hX hbl hbA hin1 hin2 hin3 hin4 (by omega) (by omega) (hcase u _ _ _ _ _ 34 hI) kl
      by_cases h35 : z = 35
      · refine pa_tswIn hE dL_law_33 (z := 35) h35 (by decide) (by decide) rfl (tgt := 1323) (by decide) ?_
        exact lc_35 hE hX hbl hbA hin1 hin2 (by omega) (by omega) (hcase u _ _ _ _ _ 35 hI) kl
      by_cases h36 : z = 36
      · refine pa_tswIn hE dL_law_33 (z := 36) h36 (by decide) (by decide) rfl (tgt := 1357) (by decide) ?_
        exact lc_36 hE hX hbl hbA hin1 hin2 hin3 hin4 hin5 (by omega) (by omega) (hcase u _ _ _ _ _ 36 hI) kl
      refine pa_tswOut hE dL_law_33 (by have e0 := pa_neL h0 (by decide : (0 : Int32).toInt = 0); have e1 := pa_neL h1 (by decide : (1 : Int32).toInt = 1); have e2 := pa_neL h2 (by decide : (2 : Int32).toInt = 2); have e3 := pa_neL h3 (by decide : (3 : Int32).toInt = 3); have e4 := pa_neL h4 (by decide : (4 : Int32).toInt = 4); have e5 := pa_neL h5 (by decide : (5 : Int32).toInt = 5); have e6 := pa_neL h6 (by decide : (6 : Int32).toInt = 6); have e7 := pa_neL h7 (by decide : (7 : Int32).toInt = 7); have e8 := pa_neL h8 (by decide : (8 : Int32).toInt = 8); have e9 := pa_neL h9 (by decide : (9 : Int32).toInt = 9); have e10 := pa_neL h10 (by decide : (10 : Int32).toInt = 10); have e11 := pa_neL h11 (by decide : (11 : Int32).toInt = 11); have e12 := pa_neL h12 (by decide : (12 : Int32).toInt = 12); have e13 := pa_neL h13 (by decide : (13 : Int32).toInt = 13); have e14 := pa_neL h14 (by decide : (14 : Int32).toInt = 14); have e15 := pa_neL h15 (by decide : (15 : Int32).toInt = 15); have e16 := pa_neL h16 (by decide : (16 : Int32).toInt = 16); have e17 := pa_neL h17 (by decide : (17 : Int32).toInt = 17); have e18 := pa_neL h18 (by decide : (18 : Int32).toInt = 18); have e19 := pa_neL h19 (by decide : (19 : Int32).toInt = 19); have e20 := pa_neL h20 (by decide : (20 : Int32).toInt = 20); have e21 := pa_neL h21 (by decide : (21 : Int32).toInt = 21); have e22 := pa_neL h22 (by decide : (22 : Int32).toInt = 22); have e23 := pa_neL h23 (by decide : (23 : Int32).toInt = 23); have e24 := pa_neL h24 (by decide : (24 : Int32).toInt = 24); have e25 := pa_neL h25 (by decide : (25 : Int32).toInt = 25); have e26 := pa_neL h26 (by decide : (26 : Int32).toInt = 26); have e27 := pa_neL h27 (by decide : (27 : Int32).toInt = 27); have e28 := pa_neL h28 (by decide : (28 : Int32).toInt = 28); have e29 := pa_neL h29 (by decide : (29 : Int32).toInt = 29); have e30 := pa_neL h30 (by decide : (30 : Int32).toInt = 30); have e31 := pa_neL h31 (by decide : (31 : Int32).toInt = 31); have e32 := pa_neL h32 (by decide : (32 : Int32).toInt = 32); have e33 := pa_neL h33 (by decide : (33 : Int32).toInt = 33); have e34 := pa_neL h34 (by decide : (34 : Int32).toInt = 34); have e35 := pa_neL h35 (by decide : (35 : Int32).toInt = 35); have e36 := pa_neL h36 (by decide : (36 : Int32).toInt = 36); omega) (tgt := 1420) (by decide) ?_
      exact pa_widen (k := kc + 3) (n := ks + 204) (by omega) (by omega) (kl q u hI)
