/-! the law's entry: what its walk stands on -/
theorem lt_1 {w : Cond} (i : Nat) (h : tables_1_1[i]? = some w) : w ∈ lw_tbl := List.mem_append_right _ (List.mem_append_left _ (List.mem_of_getElem? h))
theorem lt_2 {w : Cond} (i : Nat) (h : tables_1_2[i]? = some w) : w ∈ lw_tbl := List.mem_append_right _ (List.mem_append_right _ (List.mem_append_left _ (List.mem_of_getElem? h)))
theorem lt_3 {w : Cond} (i : Nat) (h : tables_1_3[i]? = some w) : w ∈ lw_tbl := List.mem_append_right _ (List.mem_append_right _ (List.mem_append_right _ (List.mem_append_left _ (List.mem_of_getElem? h))))
theorem lt_4 {w : Cond} (i : Nat) (h : tables_1_4[i]? = some w) : w ∈ lw_tbl := List.mem_append_right _ (List.mem_append_right _ (List.mem_append_right _ (List.mem_append_right _ (List.mem_append_left _ (List.mem_of_getElem? h)))))
theorem lt_5 {w : Cond} (i : Nat) (h : tables_1_5[i]? = some w) : w ∈ lw_tbl := List.mem_append_right _ (List.mem_append_right _ (List.mem_append_right _ (List.mem_append_right _ (List.mem_append_right _ (List.mem_append_left _ (List.mem_of_getElem? h))))))
section ENTRY
variable {args : Array Value} {s : State}
theorem ea_int (h : (Cond.arrayClass .int).before args s = true) : ∃ cA : ClassId, ArrOfT s cA .int ∧ va_RA s cA .int := by
  obtain ⟨cA, kA, comp, h1, h2, h3⟩ := Cond.arrayClass_spec h
  exact ⟨cA, fun n z => ⟨fun k h => (by cases h), kA, h2, comp, h3⟩, h1⟩
theorem ea_byte (h : (Cond.arrayClass .byte).before args s = true) : ∃ cA : ClassId, ArrOfT s cA .byte ∧ va_RA s cA .byte := by
  obtain ⟨cA, kA, comp, h1, h2, h3⟩ := Cond.arrayClass_spec h
  exact ⟨cA, fun n z => ⟨fun k h => (by cases h), kA, h2, comp, h3⟩, h1⟩
theorem ea_long (h : (Cond.arrayClass .long).before args s = true) : ∃ cA : ClassId, ArrOfT s cA .long ∧ va_RA s cA .long := by
  obtain ⟨cA, kA, comp, h1, h2, h3⟩ := Cond.arrayClass_spec h
  exact ⟨cA, fun n z => ⟨fun k h => (by cases h), kA, h2, comp, h3⟩, h1⟩
theorem ea_bool (h : (Cond.arrayClass .boolean).before args s = true) : ∃ cA : ClassId, ArrOfT s cA .boolean ∧ va_RA s cA .boolean := by
  obtain ⟨cA, kA, comp, h1, h2, h3⟩ := Cond.arrayClass_spec h
  exact ⟨cA, fun n z => ⟨fun k h => (by cases h), kA, h2, comp, h3⟩, h1⟩
theorem ea_obj {C : String} (h : (Cond.arrayOver (.object C)).before args s = true) : ∃ cA : ClassId, ArrOfT s cA (.object C) ∧ va_RA s cA (.object C) := by
  obtain ⟨comp, c, k, h1, h2, h3, h4, h5⟩ := Cond.arrayOver_spec h
  exact ⟨c, fun n z => ⟨fun k h => (by cases h), k, h3, comp, h4⟩, k, comp, h3, h4, h1, h5⟩
theorem et_D (hts : ∀ w ∈ lw_tbl, w.before args s = true) : ∃ D : va_G, ∀ (k : Nat) (q : vw_C), vwCl[k]? = some q → u_Kn s q.1 q.2.1 q.2.2 (D.1 k) (D.2 k) := by
  have U : ∀ {C : String} {T : u_T} {N : Nat}, (∀ w ∈ u_ws C T N, w ∈ pa_tb) → Cond.instantiable C N ∈ lw_tbl → ∃ (cC : ClassId) (iS : Nat → Nat), u_Kn s C T N cC iS := fun h1 h2 => u_known hts (fun w hw => pa_tbAll w (h1 w hw)) (hts _ h2)
  obtain ⟨c0, i0, k0⟩ := U pa_uX0 (lt_1 73 rfl)
  obtain ⟨c1, i1, k1⟩ := U pa_uX1 (lt_1 97 rfl)
  obtain ⟨c2, i2, k2⟩ := U pa_uX2 (lt_1 26 rfl)
  obtain ⟨c3, i3, k3⟩ := U pa_uX3 (lt_1 126 rfl)
  obtain ⟨c4, i4, k4⟩ := U pa_uX4 (lt_1 178 rfl)
  obtain ⟨c5, i5, k5⟩ := U pa_uX5 (lt_1 41 rfl)
  obtain ⟨c6, i6, k6⟩ := U pa_uX6 (lt_1 18 rfl)
  obtain ⟨c7, i7, k7⟩ := U pa_uX7 (lt_4 116 rfl)
  refine ⟨(fun k => match k with | 0 => c0 | 1 => c1 | 2 => c2 | 3 => c3 | 4 => c4 | 5 => c5 | 6 => c6 | _ => c7, fun k => match k with | 0 => i0 | 1 => i1 | 2 => i2 | 3 => i3 | 4 => i4 | 5 => i5 | 6 => i6 | _ => i7), fun k q hq => ?_⟩
  match k, hq with
  | 0, hq => cases hq; exact k0
  | 1, hq => cases hq; exact k1
  | 2, hq => cases hq; exact k2
  | 3, hq => cases hq; exact k3
  | 4, hq => cases hq; exact k4
  | 5, hq => cases hq; exact k5
  | 6, hq => cases hq; exact k6
  | 7, hq => cases hq; exact k7
  | k + 8, hq => exact absurd hq (by simp [vwCl])
theorem et_A (hts : ∀ w ∈ lw_tbl, w.before args s = true) : ∃ f : Nat → ClassId, ∀ (k : Nat) (q : ClassId × FieldType), [(f 0, FieldType.byte), (f 1, .int), (f 2, .long), (f 3, .boolean), (f 4, .object "PalmsAltered$Scene"), (f 5, .object "PalmsAltered$Tape")][k]? = some q → ArrOfT s q.1 q.2 ∧ va_RA s q.1 q.2 := by
  obtain ⟨c0, h0⟩ := ea_byte (hts _ (lt_1 71 rfl))
  obtain ⟨c1, h1⟩ := ea_int (hts _ (lt_1 39 rfl))
  obtain ⟨c2, h2⟩ := ea_long (hts _ (lt_1 195 rfl))
  obtain ⟨c3, h3⟩ := ea_bool (hts _ (lt_5 89 rfl))
  obtain ⟨c4, h4⟩ := ea_obj (C := "PalmsAltered$Scene") (hts _ (lt_1 177 rfl))
  obtain ⟨c5, h5⟩ := ea_obj (C := "PalmsAltered$Tape") (hts _ (lt_1 95 rfl))
  refine ⟨fun k => match k with | 0 => c0 | 1 => c1 | 2 => c2 | 3 => c3 | 4 => c4 | _ => c5, fun k q hq => ?_⟩
  match k, hq with
  | 0, hq => cases hq; exact h0
  | 1, hq => cases hq; exact h1
  | 2, hq => cases hq; exact h2
  | 3, hq => cases hq; exact h3
  | 4, hq => cases hq; exact h4
  | 5, hq => cases hq; exact h5
  | k + 6, hq => exact absurd hq (by simp)
def et_tm (i : Nat) : Term := match i with
  | 0 => .string "PalmsAltered$Scene" 29
  | 1 => .string "PalmsAltered$Text" 55
  | 2 => .string "PalmsAltered$Text" 65
  | 3 => .string "PalmsAltered$Text" 67
  | 4 => .string "PalmsAltered$Text" 69
  | 5 => .string "PalmsAltered$Text" 71
  | _ => .string "PalmsAltered$Text" 96
def et_kab : Term := .static "PalmsAltered" "KIND_ABOVE" "[I"
def et_bod : Term := .static "PalmsAltered$Acts" "BODIES" "[I"
abbrev et_fl : List Cond := flatC (Jvm.Cond.and given_1 narrow_1)
theorem et_1 : ∀ j, j < 7 → Cond.eq (.elem et_kab (.int (Int32.ofNat j))) (.int (pa_kab.getD j 0)) ∈ et_fl := by decide +kernel
theorem et_2 : ∀ j, j < 21 → Cond.eq (.elem et_bod (.int (Int32.ofNat j))) (.int (pa_bod.getD j 0)) ∈ et_fl := by decide +kernel
theorem et_3 : Cond.arrayOf et_kab .int ∈ et_fl ∧ Cond.arrayOf et_bod .int ∈ et_fl ∧ Cond.eq (.length et_kab) (.int (Int32.ofNat 7)) ∈ et_fl ∧ Cond.eq (.length et_bod) (.int (Int32.ofNat 21)) ∈ et_fl := by decide +kernel
theorem et_4 : Cond.eq (.static "java/lang/String" "COMPACT_STRINGS" "Z") (.int 1) ∈ et_fl ∧ Cond.isRef (.static "jdk/internal/util/Preconditions" "SIOOBE_FORMATTER" "Ljava/util/function/BiFunction;") ∈ et_fl := by decide +kernel
theorem et_5 : ∀ i, i < 7 → Cond.exactly (et_tm i) "java/lang/String" ∈ et_fl ∧ Cond.eq (.field (et_tm i) "java/lang/String" "coder" "B") (.int 0) ∈ et_fl ∧ Cond.arrayOf (.field (et_tm i) "java/lang/String" "value" "[B") .byte ∈ et_fl ∧ Cond.eq (.length (.field (et_tm i) "java/lang/String" "value" "[B")) (.int (Int32.ofNat (pa_slen.getD i 0))) ∈ et_fl := by decide +kernel
theorem et_6 : ∀ i, i < 7 → ∀ j, j < pa_slen.getD i 0 → Cond.eq (.elem (.field (et_tm i) "java/lang/String" "value" "[B") (.int (Int32.ofNat j))) (.int ((pa_sbyt.getD i []).getD j 0)) ∈ et_fl := by decide +kernel
theorem et_7 : ∀ i, i < 7 → ∀ j, j < 7 → i ≠ j → Cond.not (Cond.eq (et_tm i) (et_tm j)) ∈ et_fl ∨ Cond.not (Cond.eq (et_tm j) (et_tm i)) ∈ et_fl := by decide +kernel
theorem et_8 : Cond.eq (et_tm 0) (.string "PalmsAltered$Text" 90) ∈ et_fl := by decide +kernel
theorem et_9 : ∀ i, i < 7 → pa_slen.getD i 0 < 2 ^ 31 := by decide +kernel
theorem et_S (hts : ∀ w ∈ lw_tbl, w.before args s = true) (hs : ∀ w ∈ et_fl, w.before args s = true) (f : Nat → ClassId) {A : Nat → Prop} (hA : ∀ a : Nat, a < s.heap.size → ¬ A a) : ∃ g : pa_G, g.1 = f ∧ pa_St g A s s.heap := by
  obtain ⟨tk, ek, Tk⟩ := va_Tof (tm := et_kab) (ty := .int) (N := 7) (f := fun j => .int (pa_kab.getD j 0)) (A := A) (by decide) (hs _ et_3.1) (va_eqt (hs _ et_3.2.2.1)) (fun j hj => va_eqt (hs _ (et_1 j hj))) hA
  obtain ⟨tb, eb, Tb⟩ := va_Tof (tm := et_bod) (ty := .int) (N := 21) (f := fun j => .int (pa_bod.getD j 0)) (A := A) (by decide) (hs _ et_3.2.1) (va_eqt (hs _ et_3.2.2.2)) (fun j hj => va_eqt (hs _ (et_2 j hj))) hA
  obtain ⟨adK, adV, hv, he⟩ := vk_Sof (args := args) (s := s) (N := 7) (tm := et_tm) (len := pa_slen) (byt := pa_sbyt) (A := A) et_9 (fun i hi => hs _ (et_5 i hi).1) (fun i hi => hs _ (et_5 i hi).2.1) (fun i hi => hs _ (et_5 i hi).2.2.1) (fun i hi => hs _ (et_5 i hi).2.2.2) (fun i hi j hj => hs _ (et_6 i hi j hj)) (fun i j hi hj hn => (et_7 i hi j hj hn).imp (fun h => hs _ h) (fun h => hs _ h)) hA
  refine ⟨(f, (fun k => match k with | 0 => tk | _ => tb), adK, adV), rfl, va_Zref (hts _ (lt_4 34 rfl)) (hts _ (lt_1 1 rfl)) ek hA, Tk, va_Zref (hts _ (lt_4 32 rfl)) (hts _ (lt_1 4 rfl)) eb hA, Tb, va_Zof (hts _ (lt_1 141 rfl)) (hts _ (lt_1 8 rfl)) (va_eqt (hs _ et_4.1)) hA, hv,
    ⟨va_Nw.of rfl (hts _ (lt_4 33 rfl)), va_Nw.of rfl (hts _ (lt_1 27 rfl)), va_Nw.of rfl (hts _ (lt_1 42 rfl)), va_Nw.of rfl (hts _ (lt_1 74 rfl)), va_Nw.of rfl (hts _ (lt_1 179 rfl)), va_AO.of (hts _ (lt_1 177 rfl)), va_AO.of (hts _ (lt_1 95 rfl))⟩,
    va_Zqof (hts _ (lt_2 183 rfl)) (hts _ (lt_1 12 rfl)) (hs _ et_4.2) hA, fun i x hx => ?_⟩
  match i, hx with
  | 0, hx => cases hx; exact vk_R.of (hts _ (lt_1 131 rfl)) (he 0 (by decide))
  | 1, hx => cases hx; exact vk_R.of (hts _ (lt_2 162 rfl)) (he 1 (by decide))
  | 2, hx => cases hx; exact vk_R.of (hts _ (lt_2 211 rfl)) (he 2 (by decide))
  | 3, hx => cases hx; exact vk_R.of (hts _ (lt_2 212 rfl)) (he 3 (by decide))
  | 4, hx => cases hx; exact vk_R.of (hts _ (lt_2 213 rfl)) (he 4 (by decide))
  | 5, hx => cases hx; exact vk_R.of (hts _ (lt_2 214 rfl)) (he 5 (by decide))
  | 6, hx => cases hx; exact vk_R.of (hts _ (lt_2 235 rfl)) (va_eqR (hs _ et_8) (he 0 (by decide)))
  | 7, hx => cases hx; exact vk_R.of (hts _ (lt_3 55 rfl)) (he 6 (by decide))
  | i + 8, hx => exact absurd hx (by simp [pa_sown])
end ENTRY
theorem iv_case {u : pa_S} {a1 a2 a3 a4 a5 : Int32} (hi : iv_I u) : ∀ k : Nat, pa_case iv_I u a1 a2 a3 a4 a5 k
  | 0 => case_k0 hi
  | 1 => case_k1 hi
  | 2 => case_k2 hi
  | 3 => case_k3 hi
  | 4 => case_k4 hi
  | 5 => case_k5 hi
  | 6 => case_k6 hi
  | 7 => case_k7 hi
  | 8 => case_k8 hi
  | 9 => case_k9 hi
  | 10 => case_k10 hi
  | 11 => case_k11 hi
  | 12 => case_k12 hi
  | 13 => case_k13 hi
  | 14 => case_k14 hi
  | 15 => case_k15 hi
  | 16 => case_k16 hi
  | 17 => case_k17 hi
  | 18 => case_k18 hi
  | 19 => case_k19 hi
  | 20 => case_k20 hi
  | 21 => case_k21 hi
  | 22 => case_k22 hi
  | 23 => case_k23 hi
  | 24 => case_k24 hi
  | 25 => case_k25 hi
  | 26 => case_k26 hi
  | 27 => case_k27 hi
  | 28 => case_k28 hi
  | 29 => case_k29 hi
  | 30 => case_k30 hi
  | 31 => case_k31 hi
  | 32 => case_k32 hi
  | 33 => case_k33 hi
  | 34 => case_k34 hi
  | 35 => case_k35 hi
  | 36 => case_k36 hi
  | _ + 37 => trivial
