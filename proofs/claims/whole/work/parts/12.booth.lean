theorem cs_RX5_46 : pa_CS RX5 46 yJ7_copyOf_59c91 cJ7_copyOf_59c91 3 (some (.array .int)) 2 := ⟨⟨by decide +kernel, by decide +kernel, by decide +kernel⟩, pa_m3 61 rfl rfl, pa_m3 62 rfl rfl, pa_m1 15 rfl rfl, pa_m3 63 rfl rfl⟩
theorem cm_RJ7_304 : Cond.methodLink RJ7 304 Lib.Math.min.name ∈ pa_tb ∧ Cond.static Lib.Math.min.name ∈ pa_tb ∧ Cond.initialized "java/lang/Math" ∈ pa_tb ∧ Cond.code Lib.Math.min.name Lib.Math.min.code 2 (some .int) ∈ pa_tb := ⟨pa_m3 71 rfl rfl, pa_m1 103 rfl rfl, pa_m1 6 rfl rfl, pa_m1 104 rfl rfl⟩
theorem ca_RJ7_150 : Cond.methodLink RJ7 150 arraycopyName ∈ pa_tb ∧ Cond.native arraycopyName ∈ pa_tb ∧ Cond.static arraycopyName ∈ pa_tb ∧ Cond.initialized "java/lang/System" ∈ pa_tb := ⟨pa_m3 72 rfl rfl, pa_m3 74 rfl rfl, pa_m3 73 rfl rfl, pa_m1 16 rfl rfl⟩
theorem ci_RX5_X1_init : pb_CI RX5 52 yX1_init cX1_init 5 4 := ⟨⟨by decide +kernel, by decide +kernel, by decide +kernel⟩, rfl, pa_m3 75 rfl rfl, pa_m1 99 rfl rfl, pa_m1 5 rfl rfl, pa_m1 100 rfl rfl⟩
theorem cv_RX6_160 : pa_CV RX6 RX5 160 yX5_isBooth cX5_isBooth 2 (some .boolean) 0 := ⟨⟨rfl, by decide +kernel, by decide +kernel, by decide +kernel⟩, pa_m2 150 rfl rfl, pa_m2 151 rfl rfl, pa_m2 152 rfl rfl, pa_m1 3 rfl rfl, pa_m2 153 rfl rfl⟩
theorem cv_RX6_163 : pa_CV RX6 RX5 163 yX5_lastBooth cX5_lastBooth 1 (some (.object "PalmsAltered$Booth")) 0 := ⟨⟨rfl, by decide +kernel, by decide +kernel, by decide +kernel⟩, pa_m3 56 rfl rfl, pa_m3 57 rfl rfl, pa_m3 58 rfl rfl, pa_m1 3 rfl rfl, pa_m3 59 rfl rfl⟩
theorem cv_RX6_171 : pa_CV RX6 RX5 171 yX5_place cX5_place 1 (some .int) 0 := ⟨⟨rfl, by decide +kernel, by decide +kernel, by decide +kernel⟩, pa_m3 76 rfl rfl, pa_m3 77 rfl rfl, pa_m3 78 rfl rfl, pa_m1 3 rfl rfl, pa_m3 79 rfl rfl⟩
theorem cv_RX6_175 : pa_CV RX6 RX5 175 yX5_clear cX5_clear 1 none 0 := ⟨⟨rfl, by decide +kernel, by decide +kernel, by decide +kernel⟩, pa_m3 80 rfl rfl, pa_m3 81 rfl rfl, pa_m3 82 rfl rfl, pa_m1 3 rfl rfl, pa_m3 83 rfl rfl⟩
theorem pa_ofb {p : Program} {l : Launch} {e : Env} {R : Room} {s : State} {m : MethodId} {args : Array Value} {below : List Frame} {meth : Method} {c : Code} {Q : State → Prop} {A : Nat → Prop} {D : va_G} {g : pa_G} {nL kc ks : Nat} {q : Nat → Nat → Nat} {σ : pa_S} {pc : Nat} {lv : List (Nat × Value)} {st : List Value} (k : pb_At p l e R s m args below meth c Q A D nL kc ks (pa_ws g q σ) pc lv st) : pa_At p l e R s m args below meth c Q A D g nL kc ks q σ pc lv st := k
theorem pa_tob {p : Program} {l : Launch} {e : Env} {R : Room} {s : State} {m : MethodId} {args : Array Value} {below : List Frame} {meth : Method} {c : Code} {Q : State → Prop} {A : Nat → Prop} {D : va_G} {g : pa_G} {nL kc ks : Nat} {q : Nat → Nat → Nat} {σ : pa_S} {pc : Nat} {lv : List (Nat × Value)} {st : List Value} (k : pa_At p l e R s m args below meth c Q A D g nL kc ks q σ pc lv st) : pb_At p l e R s m args below meth c Q A D nL kc ks (pa_ws g q σ) pc lv st := k
set_option maxRecDepth 100000 in
set_option maxHeartbeats 4000000 in
theorem ct_J7_copyOf_59c91 (l : Launch) (g : pa_G) (D : va_G) (ws : va_W) (k0 a0 n0 : Nat) (f : Nat → Int32) (n : Int32) (N : Nat) (hk : ws[k0]? = some (a0, .inl (g.1 1, n0, .inl f))) (hN : n = nI N) (hlt : N < n0) (hn0 : n0 ≤ 1000) : pb_Ct l yJ7_copyOf_59c91 cJ7_copyOf_59c91 3 (some (.array .int)) 2 1 N g D ws [.ref a0, .int n] (fun a => some (.ref a)) (fun a w => w = ws ++ [(a, .inl (g.1 1, N, .inl (va_cpy f (fun _ => 0) 0 0 N)))]) := by
  subst hN
  refine pb_met rfl rfl (Nat.le_of_ble_eq_true rfl) rfl (fun p e s m args below meth c A hE hr hnm => ?_)
  have hne : ¬ nI N = nI n0 := fun z => by have := (nI_eq (by omega) (by omega)).mp z; omega
  have hcl : (nI N).toNatClampNeg = N := nI_clamp (by omega)
  refine pb_iload_n hE dJ7_copyOf_59c91_0 rfl 1 rfl ?_
  refine pb_aload_n hE dJ7_copyOf_59c91_1 rfl 0 rfl ?_
  refine pb_alen (t0 := 1) hE hk rfl (v := nI n0) rfl dJ7_copyOf_59c91_2 ?_
  refine pb_icmp_ne hE dJ7_copyOf_59c91_3 (tgt := 14) (by decide) (fun _ => ?_) (fun z => absurd z hne)
  refine pb_iload_n hE dJ7_copyOf_59c91_14 rfl 1 rfl ?_
  refine pb_newI hE dJ7_copyOf_59c91_15 (pa_m1 39 rfl rfl) (nI_pos (by omega)) (N := N) hcl (by omega) (Nat.le_of_ble_eq_true rfl) (Nat.le_of_eq (Nat.zero_add N)) (fun a1 w1 e1 => ?_)
  refine pb_astore_n hE dJ7_copyOf_59c91_17 rfl (by decide) (lvr := [(0, .ref a0), (1, .int (nI N))]) rfl ?_
  refine pb_aload_n hE dJ7_copyOf_59c91_18 rfl 1 rfl ?_
  refine pb_iconst hE dJ7_copyOf_59c91_19 (v := 0) (by decide) ?_
  refine pb_aload_n hE dJ7_copyOf_59c91_20 rfl 0 rfl ?_
  refine pb_iconst hE dJ7_copyOf_59c91_21 (v := 0) (by decide) ?_
  refine pb_aload_n hE dJ7_copyOf_59c91_22 rfl 1 rfl ?_
  have hk1 : w1[k0]? = some (a0, .inl (g.1 1, n0, .inl f)) := by rw [e1]; exact pb_fa hk
  have hk2 : w1[ws.length]? = some (a1, .inl (g.1 1, N, .inl (fun _ => 0))) := by rw [e1]; exact pb_fl
  refine pb_alen (t0 := 1) hE hk1 rfl (v := nI n0) rfl dJ7_copyOf_59c91_23 ?_
  refine pb_iload_n hE dJ7_copyOf_59c91_24 rfl 2 rfl ?_
  refine pb_mmin hE dJ7_copyOf_59c91_25 cm_RJ7_304 ⟨Nat.le_of_ble_eq_true rfl, Nat.le_of_ble_eq_true rfl, Nat.le_of_ble_eq_true rfl, Nat.le_of_eq (Nat.zero_add N)⟩ (Nat.le_of_ble_eq_true rfl) ?_
  have hm : pa_min (nI n0) (nI N) = nI N := if_pos ((nI_ltI (by omega) (by omega)).mpr hlt)
  rw [hm]
  refine pb_copyi hE ca_RJ7_150 hk1 hk2 (by decide) (by decide) (nI_pos (by omega)) (by rw [hcl]; show 0 + N ≤ n0; omega) (by rw [hcl]; show 0 + N ≤ N; omega) ⟨Nat.le_of_ble_eq_true rfl, Nat.le_of_ble_eq_true rfl⟩ (Nat.le_of_ble_eq_true rfl) dJ7_copyOf_59c91_28 (fun w2 e2 => ?_)
  refine pb_aload_n hE dJ7_copyOf_59c91_31 rfl 0 rfl ?_
  refine pb_widen (k := 1) (n := N) (by omega) (by omega) ?_
  refine pb_aret (r := a1) hE hr (Or.inr ⟨_, rfl⟩) ?_ rfl dJ7_copyOf_59c91_32
  rw [e2, e1, hcl, List.set_append_right _ _ (Nat.le_refl _), Nat.sub_self]
  rfl
def pa_qg (q : Nat → Nat → Nat) (nb a0 a1 a2 : Nat) : Nat → Nat → Nat := pa_up2 (pa_up2 (pa_up2 q 14 nb a0) 15 nb a1) 16 nb a2
theorem pa_qg_ne {q : Nat → Nat → Nat} {nb a0 a1 a2 t i : Nat} (h : ¬ ((t = 14 ∨ t = 15 ∨ t = 16) ∧ i = nb)) : pa_qg q nb a0 a1 a2 t i = q t i := by
  unfold pa_qg
  rw [pa_up2_ne _ _ (fun z => h ⟨Or.inr (Or.inr z.1), z.2⟩), pa_up2_ne _ _ (fun z => h ⟨Or.inr (Or.inl z.1), z.2⟩), pa_up2_ne _ _ (fun z => h ⟨Or.inl z.1, z.2⟩)]
def pa_grow (σ : pa_S) (N : Nat) (f1 f2 : Nat → Int32) (r pr : Int32) : pa_S := pa_sN (pa_sN (pa_sN (pa_sA (pa_sA (pa_sI (pa_sI σ 14 (pa_N σ 70 0) 2 r) 14 (pa_N σ 70 0) 3 pr) 15 (pa_N σ 70 0) f1) 16 (pa_N σ 70 0) f2) 15 (pa_N σ 70 0) N) 16 (pa_N σ 70 0) N) 70 0 (pa_N σ 70 0 + 1)
set_option maxRecDepth 100000 in
theorem pa_cellq {g : pa_G} {q : Nat → Nat → Nat} {nb a0 a1 a2 i n : Nat} {I A : Nat → Int32} {L : Nat → Int64} : ∀ t : Nat, t < 68 → t ≠ 1 → t ≠ 14 → pa_cell g (pa_qg q nb a0 a1 a2) t i I A L n = pa_cell g q t i I A L n
  | 0, _, h1, h2 => rfl
  | 1, _, h1, h2 => absurd rfl h1
  | 2, _, h1, h2 => rfl
  | 3, _, h1, h2 => rfl
  | 4, _, h1, h2 => rfl
  | 5, _, h1, h2 => rfl
  | 6, _, h1, h2 => rfl
  | 7, _, h1, h2 => rfl
  | 8, _, h1, h2 => rfl
  | 9, _, h1, h2 => rfl
  | 10, _, h1, h2 => rfl
  | 11, _, h1, h2 => rfl
  | 12, _, h1, h2 => rfl
  | 13, _, h1, h2 => rfl
  | 14, _, h1, h2 => absurd rfl h2
  | 15, _, h1, h2 => rfl
  | 16, _, h1, h2 => rfl
  | 17, _, h1, h2 => rfl
  | 18, _, h1, h2 => rfl
  | 19, _, h1, h2 => rfl
  | 20, _, h1, h2 => rfl
  | 21, _, h1, h2 => rfl
  | 22, _, h1, h2 => rfl
  | 23, _, h1, h2 => rfl
  | 24, _, h1, h2 => rfl
  | 25, _, h1, h2 => rfl
  | 26, _, h1, h2 => rfl
  | 27, _, h1, h2 => rfl
  | 28, _, h1, h2 => rfl
  | 29, _, h1, h2 => rfl
  | 30, _, h1, h2 => rfl
  | 31, _, h1, h2 => rfl
  | 32, _, h1, h2 => rfl
  | 33, _, h1, h2 => rfl
  | 34, _, h1, h2 => rfl
  | 35, _, h1, h2 => rfl
  | 36, _, h1, h2 => rfl
  | 37, _, h1, h2 => rfl
  | 38, _, h1, h2 => rfl
  | 39, _, h1, h2 => rfl
  | 40, _, h1, h2 => rfl
  | 41, _, h1, h2 => rfl
  | 42, _, h1, h2 => rfl
  | 43, _, h1, h2 => rfl
  | 44, _, h1, h2 => rfl
  | 45, _, h1, h2 => rfl
  | 46, _, h1, h2 => rfl
  | 47, _, h1, h2 => rfl
  | 48, _, h1, h2 => rfl
  | 49, _, h1, h2 => rfl
  | 50, _, h1, h2 => rfl
  | 51, _, h1, h2 => rfl
  | 52, _, h1, h2 => rfl
  | 53, _, h1, h2 => rfl
  | 54, _, h1, h2 => rfl
  | 55, _, h1, h2 => rfl
  | 56, _, h1, h2 => rfl
  | 57, _, h1, h2 => rfl
  | 58, _, h1, h2 => rfl
  | 59, _, h1, h2 => rfl
  | 60, _, h1, h2 => rfl
  | 61, _, h1, h2 => rfl
  | 62, _, h1, h2 => rfl
  | 63, _, h1, h2 => rfl
  | 64, _, h1, h2 => rfl
  | 65, _, h1, h2 => rfl
  | 66, _, h1, h2 => rfl
  | 67, _, h1, h2 => rfl
  | n + 68, h, _, _ => absurd h (by omega)
theorem pa_L0tags : ∀ a ∈ pa_L0, a.1 < 68 ∧ a.1 ≠ 14 ∧ a.1 ≠ 15 ∧ a.1 ≠ 16 ∧ (a.1 = 1 → a.2 < 6) := by decide +kernel
theorem pa_Ls_cases {σ : pa_S} {a : Nat × Nat} (h : a ∈ pa_Ls σ) : (a.1 < 68 ∧ a.1 ≠ 14 ∧ a.1 ≠ 15 ∧ a.1 ≠ 16 ∧ (a.1 = 1 → a.2 < 6)) ∨ ((a.1 = 14 ∨ a.1 = 15 ∨ a.1 = 16) ∧ a.2 < pa_N σ 70 0) := by
  rcases List.mem_append.mp h with h | h
  · exact Or.inl (pa_L0tags a h)
  · obtain ⟨b, hb, h⟩ := List.mem_flatMap.mp h
    have hb := List.mem_range.mp hb
    simp only [List.mem_cons, List.not_mem_nil, or_false] at h
    rcases h with rfl | rfl | rfl
    · exact Or.inr ⟨Or.inl rfl, hb⟩
    · exact Or.inr ⟨Or.inr (Or.inl rfl), hb⟩
    · exact Or.inr ⟨Or.inr (Or.inr rfl), hb⟩
theorem pa_grow_views {σ : pa_S} {N t i : Nat} {f1 f2 : Nat → Int32} {r pr : Int32} (h : ¬ ((t = 14 ∨ t = 15 ∨ t = 16) ∧ i = pa_N σ 70 0)) (h2 : t ≠ 70) : pa_I (pa_grow σ N f1 f2 r pr) t i = pa_I σ t i ∧ pa_A (pa_grow σ N f1 f2 r pr) t i = pa_A σ t i ∧ pa_L (pa_grow σ N f1 f2 r pr) t i = pa_L σ t i ∧ pa_N (pa_grow σ N f1 f2 r pr) t i = pa_N σ t i := by
  have n4 : ¬ (t = 14 ∧ i = pa_N σ 70 0) := fun z => h ⟨Or.inl z.1, z.2⟩
  have n5 : ¬ (t = 15 ∧ i = pa_N σ 70 0) := fun z => h ⟨Or.inr (Or.inl z.1), z.2⟩
  have n6 : ¬ (t = 16 ∧ i = pa_N σ 70 0) := fun z => h ⟨Or.inr (Or.inr z.1), z.2⟩
  refine ⟨?_, ?_, rfl, ?_⟩
  · show pa_I (pa_sI (pa_sI σ 14 (pa_N σ 70 0) 2 r) 14 (pa_N σ 70 0) 3 pr) t i = _
    rw [pa_I_sI_ne n4, pa_I_sI_ne n4]
  · show pa_A (pa_sA (pa_sA (pa_sI (pa_sI σ 14 (pa_N σ 70 0) 2 r) 14 (pa_N σ 70 0) 3 pr) 15 (pa_N σ 70 0) f1) 16 (pa_N σ 70 0) f2) t i = _
    rw [pa_A_sA_ne n6, pa_A_sA_ne n5]
    rfl
  · unfold pa_grow
    rw [pa_N_sN_ne (fun z => h2 z.1), pa_N_sN_ne n6, pa_N_sN_ne n5]
    rfl
theorem pa_Ls_grow {σ : pa_S} {N : Nat} {f1 f2 : Nat → Int32} {r pr : Int32} : pa_Ls (pa_grow σ N f1 f2 r pr) = pa_Ls σ ++ [(14, pa_N σ 70 0), (15, pa_N σ 70 0), (16, pa_N σ 70 0)] := by
  have e : pa_N (pa_grow σ N f1 f2 r pr) 70 0 = pa_N σ 70 0 + 1 := by unfold pa_grow; rw [pa_N_sN_self]
  unfold pa_Ls
  rw [e, List.range_succ, List.flatMap_append, List.append_assoc]
  rfl
set_option maxRecDepth 100000 in
set_option maxHeartbeats 4000000 in
theorem pa_ws_grow {g : pa_G} {q : Nat → Nat → Nat} {σ : pa_S} {N a0 a1 a2 : Nat} {f1 f2 : Nat → Int32} {r pr : Int32} (hh : ∀ i, i < 6 → pa_N σ 1 i < pa_N σ 70 0) :
    pa_ws g q σ ++ [(a0, .inr (1, [.ref a1, .ref a2, .int r, .int pr])), (a1, .inl (g.1 1, N, .inl f1)), (a2, .inl (g.1 1, N, .inl f2))] = pa_ws g (pa_qg q (pa_N σ 70 0) a0 a1 a2) (pa_grow σ N f1 f2 r pr) := by
  have q4 : pa_qg q (pa_N σ 70 0) a0 a1 a2 14 (pa_N σ 70 0) = a0 := by unfold pa_qg; rw [pa_up2_ne _ _ (by simp), pa_up2_ne _ _ (by simp), pa_up2_self]
  have q5 : pa_qg q (pa_N σ 70 0) a0 a1 a2 15 (pa_N σ 70 0) = a1 := by unfold pa_qg; rw [pa_up2_ne _ _ (by simp), pa_up2_self]
  have q6 : pa_qg q (pa_N σ 70 0) a0 a1 a2 16 (pa_N σ 70 0) = a2 := by unfold pa_qg; rw [pa_up2_self]
  have i4 : pa_I (pa_grow σ N f1 f2 r pr) 14 (pa_N σ 70 0) = upd (upd (pa_I σ 14 (pa_N σ 70 0)) 2 r) 3 pr := by
    show pa_I (pa_sI (pa_sI σ 14 (pa_N σ 70 0) 2 r) 14 (pa_N σ 70 0) 3 pr) 14 (pa_N σ 70 0) = _
    rw [pa_I_sI_self, pa_I_sI_self]
  have i5 : pa_A (pa_grow σ N f1 f2 r pr) 15 (pa_N σ 70 0) = f1 := by
    show pa_A (pa_sA (pa_sA (pa_sI (pa_sI σ 14 (pa_N σ 70 0) 2 r) 14 (pa_N σ 70 0) 3 pr) 15 (pa_N σ 70 0) f1) 16 (pa_N σ 70 0) f2) 15 (pa_N σ 70 0) = _
    rw [pa_A_sA_ne (by simp), pa_A_sA_self]
  have i6 : pa_A (pa_grow σ N f1 f2 r pr) 16 (pa_N σ 70 0) = f2 := by
    show pa_A (pa_sA (pa_sA (pa_sI (pa_sI σ 14 (pa_N σ 70 0) 2 r) 14 (pa_N σ 70 0) 3 pr) 15 (pa_N σ 70 0) f1) 16 (pa_N σ 70 0) f2) 16 (pa_N σ 70 0) = _
    rw [pa_A_sA_self]
  have m5 : pa_N (pa_grow σ N f1 f2 r pr) 15 (pa_N σ 70 0) = N := by unfold pa_grow; rw [pa_N_sN_ne (by simp), pa_N_sN_ne (by simp), pa_N_sN_self]
  have m6 : pa_N (pa_grow σ N f1 f2 r pr) 16 (pa_N σ 70 0) = N := by unfold pa_grow; rw [pa_N_sN_ne (by simp), pa_N_sN_self]
  unfold pa_ws
  rw [pa_Ls_grow, List.map_append]
  congr 1
  · refine List.map_congr_left (fun a ha => ?_)
    have hc := pa_Ls_cases ha
    have h1 : ¬ ((a.1 = 14 ∨ a.1 = 15 ∨ a.1 = 16) ∧ a.2 = pa_N σ 70 0) := by
      rcases hc with ⟨_, h4, h5, h6, _⟩ | ⟨_, hb⟩
      · rintro ⟨z | z | z, _⟩
        · exact h4 z
        · exact h5 z
        · exact h6 z
      · rintro ⟨_, z⟩; omega
    have h70 : a.1 ≠ 70 := by
      rcases hc with ⟨h, _⟩ | ⟨h, _⟩ <;> omega
    obtain ⟨v1, v2, v3, v4⟩ := pa_grow_views (N := N) (f1 := f1) (f2 := f2) (r := r) (pr := pr) h1 h70
    rw [pa_qg_ne h1]
    unfold pa_ce
    rw [v1, v2, v3, v4]
    congr 1
    obtain ⟨t, i⟩ := a
    dsimp only at *
    by_cases ht1 : t = 1
    · subst ht1
      have hi : i < 6 := by
        rcases hc with ⟨_, _, _, _, h⟩ | ⟨h, _⟩
        · exact h rfl
        · omega
      have e := pa_qg_ne (q := q) (a0 := a0) (a1 := a1) (a2 := a2) (t := 14) (i := pa_N σ 1 i) (nb := pa_N σ 70 0) (fun z => by have := hh i hi; omega)
      have key : ∀ x, x = q 14 (pa_N σ 1 i) → (.inr (3, [.ref (q 2 i), .ref (q 3 i), .ref (q 4 i), .ref (q 5 i), .ref (q 6 i), .ref (q 7 i), .int (pa_I σ 1 i 6), .int (pa_I σ 1 i 7), .int (pa_I σ 1 i 8), .ref (q 14 (pa_N σ 1 i))]) : va_E) = .inr (3, [.ref (q 2 i), .ref (q 3 i), .ref (q 4 i), .ref (q 5 i), .ref (q 6 i), .ref (q 7 i), .int (pa_I σ 1 i 6), .int (pa_I σ 1 i 7), .int (pa_I σ 1 i 8), .ref x]) := fun x hx => by rw [hx]
      exact key _ e
    · by_cases ht4 : t = 14
      · subst ht4
        have hb : i < pa_N σ 70 0 := by
          rcases hc with ⟨_, h, _⟩ | ⟨_, h⟩
          · exact absurd rfl h
          · exact h
        have e5 := pa_qg_ne (q := q) (a0 := a0) (a1 := a1) (a2 := a2) (t := 15) (i := i) (nb := pa_N σ 70 0) (fun z => by omega)
        have e6 := pa_qg_ne (q := q) (a0 := a0) (a1 := a1) (a2 := a2) (t := 16) (i := i) (nb := pa_N σ 70 0) (fun z => by omega)
        have key : ∀ x y, x = q 15 i → y = q 16 i → (.inr (1, [.ref (q 15 i), .ref (q 16 i), .int (pa_I σ 14 i 2), .int (pa_I σ 14 i 3)]) : va_E) = .inr (1, [.ref x, .ref y, .int (pa_I σ 14 i 2), .int (pa_I σ 14 i 3)]) := fun x y hx hy => by rw [hx, hy]
        exact key _ _ e5 e6
      · have hlt : t < 68 := by
          rcases hc with ⟨h, _⟩ | ⟨h, _⟩ <;> omega
        exact (pa_cellq t hlt ht1 ht4).symm
  · show _ = [(pa_qg q (pa_N σ 70 0) a0 a1 a2 14 (pa_N σ 70 0), pa_ce g _ _ 14 _), (pa_qg q (pa_N σ 70 0) a0 a1 a2 15 (pa_N σ 70 0), pa_ce g _ _ 15 _), (pa_qg q (pa_N σ 70 0) a0 a1 a2 16 (pa_N σ 70 0), pa_ce g _ _ 16 _)]
    unfold pa_ce
    rw [q4, q5, q6, i4, i5, i6, m5, m6]
    have key : ∀ x y, x = a1 → y = a2 → ([(a0, .inr (1, [.ref a1, .ref a2, .int r, .int pr])), (a1, .inl (g.1 1, N, .inl f1)), (a2, .inl (g.1 1, N, .inl f2))] : va_W) = [(a0, .inr (1, [.ref x, .ref y, .int r, .int pr])), (a1, .inl (g.1 1, N, .inl f1)), (a2, .inl (g.1 1, N, .inl f2))] := fun x y hx hy => by rw [hx, hy]
    exact key _ _ q5 q6
def pa_grown (u : pa_S) (N : Nat) : pa_S := pa_grow u N (va_cpy (pa_A u 12 0) (fun _ => 0) 0 0 N) (va_cpy (pa_A u 13 0) (fun _ => 0) 0 0 N) (pa_min 60 (pa_I u 10 0 6)) (pa_max 1 (pa_I u 10 0 7))
def wp_X5_lastBooth (u0 : pa_S) (post : pa_S → Prop) : Prop := (∀ i, i < 6 → pa_N u0 1 i < pa_N u0 70 0) ∧ ∃ N : Nat, pa_I u0 10 0 5 = nI N ∧ N < 100 ∧ post (pa_grown u0 N)
set_option maxRecDepth 100000 in
set_option maxHeartbeats 4000000 in
theorem ct_X5_lastBooth (l : Launch) (g : pa_G) (D : va_G) (q : Nat → Nat → Nat) (u0 : pa_S) (post : pa_S → Prop) (hw : wp_X5_lastBooth u0 post) : pb_Ct l yX5_lastBooth cX5_lastBooth 1 (some (.object "PalmsAltered$Booth")) 4 3 204 g D (pa_ws g q u0) [.ref (q 10 0)] (fun a => some (.ref a)) (fun a w => ∃ (q' : Nat → Nat → Nat) (u' : pa_S), w = pa_ws g q' u' ∧ post u' ∧ a = q' 14 (pa_N u0 70 0) ∧ pa_N u' 70 0 = pa_N u0 70 0 + 1 ∧ ∀ t i, ¬ (t = 14 ∨ t = 15 ∨ t = 16) → q' t i = q t i) := by
  obtain ⟨hh, N, hN, hlt, hp⟩ := hw
  refine pb_met rfl rfl (Nat.le_of_ble_eq_true rfl) rfl (fun p e s m args below meth c A hE hr hnm => ?_)
  obtain ⟨kt, -, hkt⟩ := pa_look (g := g) (q := q) (pa_in10 (σ := u0))
  obtain ⟨k2, -, hk2⟩ := pa_look (g := g) (q := q) (pa_in12 (σ := u0))
  obtain ⟨k3, -, hk3⟩ := pa_look (g := g) (q := q) (pa_in13 (σ := u0))
  have hkt : (pa_ws g q u0)[kt]? = some (q 10 0, .inr (5, [.ref (q 11 0), .ref (q 12 0), .ref (q 13 0), .int (pa_I u0 10 0 3), .int (pa_I u0 10 0 4), .int (pa_I u0 10 0 5), .int (pa_I u0 10 0 6), .int (pa_I u0 10 0 7)])) := hkt
  have hk2 : (pa_ws g q u0)[k2]? = some (q 12 0, .inl (g.1 1, 100, .inl (pa_A u0 12 0))) := hk2
  have hk3 : (pa_ws g q u0)[k3]? = some (q 13 0, .inl (g.1 1, 100, .inl (pa_A u0 13 0))) := hk3
  refine pb_newO (C := RX1) (T := TX1) (N := 4) (ty := tyX1) (ci := 1) (fs := [.null, .null, .int 0, .int 0]) hE dX5_lastBooth_0 (pa_m3 60 rfl rfl) (pa_m1 97 rfl rfl) (pa_m1 5 rfl rfl) tyX1_ok pa_uX1 rfl (fun j hj => by rcases (show j = 0 ∨ j = 1 ∨ j = 2 ∨ j = 3 by omega) with rfl | rfl | rfl | rfl <;> rfl) (Nat.le_of_ble_eq_true rfl) (Nat.le_of_ble_eq_true rfl) (fun a0 w1 e1 => ?_)
  refine pb_dup hE dX5_lastBooth_3 rfl ?_
  refine pb_aload_n hE dX5_lastBooth_4 rfl 0 rfl ?_
  have t1 := pb_fa (x := [(a0, .inr (1, [.null, .null, .int 0, .int 0]))]) hkt
  rw [← e1] at t1
  have s1 := pb_fa (x := [(a0, .inr (1, [.null, .null, .int 0, .int 0]))]) hk2
  rw [← e1] at s1
  have n1 := pb_fa (x := [(a0, .inr (1, [.null, .null, .int 0, .int 0]))]) hk3
  rw [← e1] at n1
  refine pb_get (C := RX5) (T := TX5) (N := 8) (ci := 5) (v := .ref (q 12 0)) hE t1 rfl pa_uX5 1 (by decide) (pa_m1 47 rfl rfl) rfl dX5_lastBooth_5 ?_
  refine pb_aload_n hE dX5_lastBooth_8 rfl 0 rfl ?_
  refine pb_get (C := RX5) (T := TX5) (N := 8) (ci := 5) (v := .int (pa_I u0 10 0 5)) hE t1 rfl pa_uX5 5 (by decide) (pa_m1 51 rfl rfl) rfl dX5_lastBooth_9 ?_
  refine pb_callS hE (ct_J7_copyOf_59c91 l g D w1 k2 (q 12 0) 100 (pa_A u0 12 0) (pa_I u0 10 0 5) N s1 hN hlt (by decide)) cs_RX5_46 rfl ⟨Nat.le_of_ble_eq_true rfl, Nat.le_of_ble_eq_true rfl, Nat.le_of_ble_eq_true rfl, by show _ ≤ 204; omega⟩ rfl (Nat.le_of_ble_eq_true rfl) dX5_lastBooth_12 (fun a1 w2 e2 => ?_)
  refine pb_aload_n hE dX5_lastBooth_15 rfl 0 rfl ?_
  have t2 := pb_fa (x := [(a1, .inl (g.1 1, N, .inl (va_cpy (pa_A u0 12 0) (fun _ => 0) 0 0 N)))]) t1
  rw [← e2] at t2
  have n2 := pb_fa (x := [(a1, .inl (g.1 1, N, .inl (va_cpy (pa_A u0 12 0) (fun _ => 0) 0 0 N)))]) n1
  rw [← e2] at n2
  refine pb_get (C := RX5) (T := TX5) (N := 8) (ci := 5) (v := .ref (q 13 0)) hE t2 rfl pa_uX5 2 (by decide) (pa_m1 48 rfl rfl) rfl dX5_lastBooth_16 ?_
  refine pb_aload_n hE dX5_lastBooth_19 rfl 0 rfl ?_
  refine pb_get (C := RX5) (T := TX5) (N := 8) (ci := 5) (v := .int (pa_I u0 10 0 5)) hE t2 rfl pa_uX5 5 (by decide) (pa_m1 51 rfl rfl) rfl dX5_lastBooth_20 ?_
  refine pb_callS hE (ct_J7_copyOf_59c91 l g D w2 k3 (q 13 0) 100 (pa_A u0 13 0) (pa_I u0 10 0 5) N n2 hN hlt (by decide)) cs_RX5_46 rfl ⟨Nat.le_of_ble_eq_true rfl, Nat.le_of_ble_eq_true rfl, Nat.le_of_ble_eq_true rfl, by show _ ≤ 204; omega⟩ rfl (Nat.le_of_ble_eq_true rfl) dX5_lastBooth_23 (fun a2 w3 e3 => ?_)
  have t3 := pb_fa (x := [(a2, .inl (g.1 1, N, .inl (va_cpy (pa_A u0 13 0) (fun _ => 0) 0 0 N)))]) t2
  rw [← e3] at t3
  refine pb_aload_n hE dX5_lastBooth_26 rfl 0 rfl ?_
  refine pb_get (C := RX5) (T := TX5) (N := 8) (ci := 5) (v := .int (pa_I u0 10 0 6)) hE t3 rfl pa_uX5 6 (by decide) (pa_m1 52 rfl rfl) rfl dX5_lastBooth_27 ?_
  refine pb_aload_n hE dX5_lastBooth_30 rfl 0 rfl ?_
  refine pb_get (C := RX5) (T := TX5) (N := 8) (ci := 5) (v := .int (pa_I u0 10 0 7)) hE t3 rfl pa_uX5 7 (by decide) (pa_m1 53 rfl rfl) rfl dX5_lastBooth_31 ?_
  have ew : w3 = pa_ws g q u0 ++ ((a0, .inr (1, [.null, .null, .int 0, .int 0])) :: [(a1, .inl (g.1 1, N, .inl (va_cpy (pa_A u0 12 0) (fun _ => 0) 0 0 N))), (a2, .inl (g.1 1, N, .inl (va_cpy (pa_A u0 13 0) (fun _ => 0) 0 0 N)))]) := by
    rw [e3, e2, e1, List.append_assoc, List.append_assoc]
    rfl
  refine pb_world ew.symm ?_
  refine pb_callI hE (ct_X1_init l g D (pa_ws g q u0) a0 a1 a2 (pa_I u0 10 0 6) (pa_I u0 10 0 7) [(a1, .inl (g.1 1, N, .inl (va_cpy (pa_A u0 12 0) (fun _ => 0) 0 0 N))), (a2, .inl (g.1 1, N, .inl (va_cpy (pa_A u0 13 0) (fun _ => 0) 0 0 N)))]) ci_RX5_X1_init rfl ⟨Nat.le_of_ble_eq_true rfl, Nat.le_of_ble_eq_true rfl, Nat.le_of_ble_eq_true rfl, by show _ ≤ 204; omega⟩ rfl (Nat.le_of_ble_eq_true rfl) dX5_lastBooth_34 (fun w4 e4 => ?_)
  refine pb_widen (k := 3) (n := 204) (by omega) (by omega) ?_
  refine pb_aret (r := a0) hE hr (Or.inl ⟨_, rfl⟩) ?_ rfl dX5_lastBooth_37
  refine ⟨pa_qg q (pa_N u0 70 0) a0 a1 a2, pa_grown u0 N, e4.trans (pa_ws_grow hh), hp, ?_, ?_, fun t i ht => pa_qg_ne (fun z => ht z.1)⟩
  · unfold pa_qg; rw [pa_up2_ne _ _ (by simp), pa_up2_ne _ _ (by simp), pa_up2_self]
  · unfold pa_grown pa_grow; rw [pa_N_sN_self]
def wp_X6_booth (u0 : pa_S) (post : Int32 → pa_S → Prop) : Prop :=
  if pa_I u0 0 0 12 < 6 then wp_X5_isBooth u0 (fun r u1 => if r = 0 then wp_X5_place u1 (fun r2 => wp_X5_clear u1 (fun u2 => post ((-10 : Int32) - r2) u2)) else wp_X5_lastBooth u1 (fun u2 => ∀ u3, u3 = pa_sN u2 1 0 (pa_N u1 70 0) → ∀ u4, u4 = pa_sI u3 0 0 12 (pa_I u3 0 0 12 + 1) → wp_X5_clear u4 (fun u5 => post (pa_I u0 0 0 12) u5)))
  else post (-4 : Int32) u0
set_option maxRecDepth 100000 in
set_option maxHeartbeats 4000000 in
theorem ct_X6_booth (l : Launch) (g : pa_G) (D : va_G) (q : Nat → Nat → Nat) (u0 : pa_S) (post : Int32 → pa_S → Prop) (hw : wp_X6_booth u0 post) : pb_Ct l yX6_booth cX6_booth 2 (some .int) 51 3 204 g D (pa_ws g q u0) [.ref (q 0 0)] (fun r => some (.int r)) (fun r w => ∃ (q' : Nat → Nat → Nat) (u' : pa_S), w = pa_ws g q' u' ∧ post r u' ∧ ∀ t i, ¬ (t = 14 ∨ t = 15 ∨ t = 16) → q' t i = q t i) := by
  refine pb_met rfl rfl (Nat.le_of_ble_eq_true rfl) rfl (fun p e s m args below meth c A hE hr hnm => pa_tob ?_)
  unfold wp_X6_booth at hw
  refine pa_aload_n hE dX6_booth_0 rfl 0 rfl ?_
  refine pg_0_12 hE (pa_m1 208 rfl rfl) dX6_booth_1 ?_
  refine pa_bipush hE dX6_booth_4 (v := 6) (by decide) ?_
  refine pa_icmp_lt hE dX6_booth_6 (tgt := 12) (by decide) (fun h1 => ?_) (fun h1 => ?_)
  · have hw := Eq.mp (if_pos h1) hw
    refine pa_aload_n hE dX6_booth_12 rfl 0 rfl ?_
    refine pg_0_12 hE (pa_m1 208 rfl rfl) dX6_booth_13 ?_
    refine pa_istore_n hE dX6_booth_16 rfl (by decide) (lvr := [(0, .ref (q 0 0))]) rfl ?_
    refine pa_aload_n hE dX6_booth_17 rfl 1 rfl ?_
    refine pg_0_11 hE (pa_m1 207 rfl rfl) dX6_booth_18 ?_
    refine pa_callVi hE (ct_X5_isBooth l g D q u0 _ hw) cv_RX6_160 pa_in10 rfl rfl rfl ⟨Nat.le_of_ble_eq_true rfl, Nat.le_of_ble_eq_true rfl, Nat.le_of_ble_eq_true rfl, Nat.le_of_ble_eq_true rfl⟩ rfl (Nat.le_of_ble_eq_true rfl) dX6_booth_21 (fun r u1 hw => ?_)
    refine pa_if_eq hE dX6_booth_24 (tgt := 54) (by decide) (fun h2 => ?_) (fun h2 => ?_)
    · have hw := Eq.mp (if_pos h2) hw
      refine pa_bipush hE dX6_booth_54 (v := (-10 : Int32)) (by decide) ?_
      refine pa_aload_n hE dX6_booth_56 rfl 1 rfl ?_
      refine pg_0_11 hE (pa_m1 207 rfl rfl) dX6_booth_57 ?_
      refine pa_callVri hE (ct_X5_place l g D q u1 _ hw) cv_RX6_171 pa_in10 rfl rfl rfl ⟨Nat.le_of_ble_eq_true rfl, Nat.le_of_ble_eq_true rfl, Nat.le_of_ble_eq_true rfl, Nat.le_of_ble_eq_true rfl⟩ rfl (Nat.le_of_ble_eq_true rfl) dX6_booth_60 (fun r2 hw => ?_)
      refine pa_isub hE dX6_booth_63 ?_
      refine pa_istore_n hE dX6_booth_64 rfl (by decide) (lvr := [(0, .ref (q 0 0))]) rfl ?_
      refine pa_aload_n hE dX6_booth_65 rfl 1 rfl ?_
      refine pg_0_11 hE (pa_m1 207 rfl rfl) dX6_booth_66 ?_
      refine pa_callVv hE (ct_X5_clear l g D q u1 _ hw) cv_RX6_175 pa_in10 rfl rfl rfl ⟨Nat.le_of_ble_eq_true rfl, Nat.le_of_ble_eq_true rfl, Nat.le_of_ble_eq_true rfl, Nat.le_of_ble_eq_true rfl⟩ rfl (Nat.le_of_ble_eq_true rfl) dX6_booth_69 (fun u2 hw => ?_)
      refine pa_iload_n hE dX6_booth_72 rfl 0 rfl ?_
      exact pa_ofb (pb_widen (k := 3) (n := 204) (by omega) (by omega) (pb_iret (r := (-10 : Int32) - r2) hE hr ⟨q, u2, rfl, hw, fun _ _ _ => rfl⟩ rfl dX6_booth_73))
    · have hw := Eq.mp (if_neg h2) hw
      refine pa_aload_n hE dX6_booth_27 rfl 1 rfl ?_
      refine pg_0_0 hE (pa_m1 196 rfl rfl) dX6_booth_28 ?_
      refine pa_aload_n hE dX6_booth_31 rfl 1 rfl ?_
      refine pg_0_11 hE (pa_m1 207 rfl rfl) dX6_booth_32 ?_
      refine pa_ofb ?_
      refine pb_callVg hE (ct_X5_lastBooth l g D q u1 _ hw) cv_RX6_163 (fun H locs hP hS => ?_) rfl ⟨Nat.le_of_ble_eq_true rfl, Nat.le_of_ble_eq_true rfl, Nat.le_of_ble_eq_true rfl, Nat.le_of_ble_eq_true rfl⟩ rfl (Nat.le_of_ble_eq_true rfl) dX6_booth_35 (fun a w e1 => ?_)
      · obtain ⟨b, -, hb⟩ := pa_look (g := g) (q := q) (pa_in10 (σ := u1))
        exact va_recv (ci := 5) (q := (RX5, TX5, 8)) hE.2.2.2.2.2.1 hP rfl hb
      · obtain ⟨q', u', ew, hw, ea, enb, hq⟩ := e1
        subst ew ea
        have e00 : q 0 0 = q' 0 0 := (hq 0 0 (by decide)).symm
        have e10 : q 1 0 = q' 1 0 := (hq 1 0 (by decide)).symm
        rw [e00, e10]
        refine pa_tob ?_
        have hb : pa_N u1 70 0 < pa_N u' 70 0 := by omega
        refine pp_1_9 (pa_in1 (by decide)) (pa_in14 hb) hE (pa_m1 155 rfl rfl) dX6_booth_38 (fun u3 e3 => ?_)
        have hw := hw u3 e3
        refine pa_aload_n hE dX6_booth_41 rfl 1 rfl ?_
        refine pa_dup hE dX6_booth_42 rfl ?_
        refine pg_0_12 hE (pa_m1 208 rfl rfl) dX6_booth_43 ?_
        refine pa_iconst hE dX6_booth_46 (v := 1) (by decide) ?_
        refine pa_iadd hE dX6_booth_47 ?_
        refine pp_0_12 hE (pa_m1 208 rfl rfl) dX6_booth_48 (fun u4 e4 => ?_)
        have hw := hw u4 e4
        refine pa_goto hE dX6_booth_51 (tgt := 65) (by decide) ?_
        refine pa_aload_n hE dX6_booth_65 rfl 1 rfl ?_
        refine pg_0_11 hE (pa_m1 207 rfl rfl) dX6_booth_66 ?_
        refine pa_callVv hE (ct_X5_clear l g D q' u4 _ hw) cv_RX6_175 pa_in10 rfl rfl rfl ⟨Nat.le_of_ble_eq_true rfl, Nat.le_of_ble_eq_true rfl, Nat.le_of_ble_eq_true rfl, Nat.le_of_ble_eq_true rfl⟩ rfl (Nat.le_of_ble_eq_true rfl) dX6_booth_69 (fun u5 hw => ?_)
        refine pa_iload_n hE dX6_booth_72 rfl 0 rfl ?_
        exact pa_ofb (pb_iret (r := pa_I u0 0 0 12) hE hr ⟨q', u5, rfl, hw, hq⟩ rfl dX6_booth_73)
  · have hw := Eq.mp (if_neg h1) hw
    refine pa_bipush hE dX6_booth_9 (v := (-4 : Int32)) (by decide) ?_
    exact pa_ofb (pb_widen (k := 3) (n := 204) (by omega) (by omega) (pb_iret (r := (-4 : Int32)) hE hr ⟨q, u0, rfl, hw, fun _ _ _ => rfl⟩ rfl dX6_booth_11))
