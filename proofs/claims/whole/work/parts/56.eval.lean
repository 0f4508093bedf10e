/-! what a booth says: grace, room, press -/
def ev_b (F : Nat → Nat) (c : List (Nat × Nat)) : Bool := match ru F c [] with
  | some (b :: _) => b
  | _ => false
def ev_1 (F : Nat → Nat) (c : pw_Cl) : Int := if c.1 < 2 then (if ev_b F c.2.2 = true then (if c.1 = 0 then (c.2.1 : Int) else -(c.2.1 : Int)) else 0) else 0
def ev_s (F : Nat → Nat) : List pw_Cl → Int
  | [] => 0
  | c :: cs => ev_1 F c + ev_s F cs
def gC (c : pw_Cl) : Prop := c.1 ≤ 3 ∧ c.2.1 ≤ 99 ∧ (2 ≤ c.1 → c.2.2 = []) ∧ (c.1 < 2 → ∀ F, ∃ b, ru F c.2.2 [] = some [b])
theorem ev_1_le {F : Nat → Nat} {c : pw_Cl} (h : gC c) : -99 ≤ ev_1 F c ∧ ev_1 F c ≤ 99 := by
  have := h.2.1
  unfold ev_1
  repeat' split
  all_goals omega
theorem ev_s_le {F : Nat → Nat} : ∀ CS : List pw_Cl, (∀ c, c ∈ CS → gC c) → -99 * (CS.length : Int) ≤ ev_s F CS ∧ ev_s F CS ≤ 99 * (CS.length : Int)
  | [], _ => ⟨by unfold ev_s; rw [List.length_nil]; omega, by unfold ev_s; rw [List.length_nil]; omega⟩
  | c :: cs, h => by
    have a := ev_1_le (F := F) (h c List.mem_cons_self)
    have b := ev_s_le (F := F) cs (fun d hd => h d (List.mem_cons_of_mem _ hd))
    unfold ev_s
    rw [List.length_cons]
    omega
theorem cl_gC {T : Nat → Nat} {S p q : Nat} {c : pw_Cl} (h : clX T S p (true, q, c)) : gC c := by
  have w3 := hd_lt (T := T) (S := S) (p := p)
  rcases h with ⟨q', _, hr⟩ | ⟨q1, _, h⟩
  · exact Bool.noConfusion (show true = false from congrArg Prod.fst hr)
  · have nv : nu_k T S q1 ≠ 0 → nu_v T S q1 ≤ 99 := fun k => by rcases nu_le (T := T) (S := S) (p := q1) with y | y; exact y; exact absurd y k
    rcases h with ⟨_, hr⟩ | ⟨k, h⟩
    · exact Bool.noConfusion (show true = false from congrArg Prod.fst hr)
    · rcases h with ⟨w2, hr⟩ | ⟨w2, ⟨_, hr⟩ | ⟨_, ⟨q4, _, hr⟩ | ⟨q4, c4, hg, hr⟩⟩⟩
      · injection hr with _ hr; injection hr with _ hr; subst hr
        exact ⟨w3, nv k, fun _ => rfl, fun y => absurd (show hd_w T S p < 2 from y) (by omega)⟩
      · exact Bool.noConfusion (show true = false from congrArg Prod.fst hr)
      · exact Bool.noConfusion (show true = false from congrArg Prod.fst hr)
      · injection hr with _ hr; injection hr with _ hr; subst hr
        exact ⟨w3, nv k, fun y => absurd (show 2 ≤ hd_w T S p from y) (by omega), fun _ F => gR_ok hg F⟩
theorem tR_gC {T : Nat → Nat} {S : Nat} : ∀ (CS : List pw_Cl) (p : Nat), tR T S p CS → ∀ c, c ∈ CS → gC c
  | [], _, h, _, _ => absurd h (by unfold tR; exact fun y => y)
  | c :: cs, p, ⟨q, hX, hend⟩, d, hd => by
    rcases List.mem_cons.mp hd with rfl | hd
    · exact cl_gC hX
    · rcases hend with ⟨rfl, _⟩ | ⟨_, _, hr⟩
      · exact absurd hd (by simp)
      · exact tR_gC cs (q + 1) hr d hd
theorem ev_b_of {F : Nat → Nat} {c : List (Nat × Nat)} {b : Bool} (h : ru F c [] = some [b]) : ev_b F c = b := by unfold ev_b; rw [h]
theorem nS_add {a : Int} {n : Nat} (h1 : -100000 ≤ a) (h2 : a ≤ 100000) (hn : n ≤ 1000) : nS a + nI n = nS (a + n) := by
  unfold nS
  apply Int32.toInt_inj.mp
  rw [Int32.toInt_add, nI_toInt (by omega), Int32.toInt_ofInt, Int32.toInt_ofInt, show a.bmod Int32.size = a from Int.bmod_eq_of_le (by show -(2147483648 : Int) ≤ a; omega) (by show a < (2147483648 : Int); omega)]
theorem nS_sub {a : Int} {n : Nat} (h1 : -100000 ≤ a) (h2 : a ≤ 100000) (hn : n ≤ 1000) : nS a - nI n = nS (a - n) := by
  unfold nS
  apply Int32.toInt_inj.mp
  rw [Int32.toInt_sub, nI_toInt (by omega), Int32.toInt_ofInt, Int32.toInt_ofInt, show a.bmod Int32.size = a from Int.bmod_eq_of_le (by show -(2147483648 : Int) ≤ a; omega) (by show a < (2147483648 : Int); omega)]
theorem nS_0 : nS 0 = 0 := by decide
/-! the class: bits -/
def hb : List Bool → Nat
  | [] => 0
  | b :: r => 2 * hb r + (if b then 1 else 0)
theorem hb_lt : ∀ st : List Bool, hb st < 2 ^ st.length
  | [] => by decide
  | b :: r => by
    have := hb_lt r
    unfold hb
    rw [List.length_cons, Nat.pow_succ]
    split <;> omega
theorem hb_2048 {st : List Bool} (h : st.length ≤ 11) : hb st < 2048 := Nat.lt_of_lt_of_le (hb_lt st) (Nat.pow_le_pow_right (by omega) h)
theorem hb_1024 {st : List Bool} (h : st.length ≤ 10) : hb st < 1024 := Nat.lt_of_lt_of_le (hb_lt st) (Nat.pow_le_pow_right (by omega) h)
theorem hx_not : ∀ h : Fin 2048, (nI h.val ^^^ 1) = nI (if h.val % 2 = 0 then h.val + 1 else h.val - 1) := by decide +kernel
theorem hx_and : ∀ h : Fin 2048, ((nI h.val >>> ((1 : Int32) &&& 31)) &&& (nI h.val ||| (-2 : Int32))) = nI (2 * (h.val / 4) + (if h.val % 2 = 1 ∧ h.val / 2 % 2 = 1 then 1 else 0)) := by decide +kernel
theorem hx_or : ∀ h : Fin 2048, ((nI h.val >>> ((1 : Int32) &&& 31)) ||| (nI h.val &&& 1)) = nI (2 * (h.val / 4) + (if h.val % 2 = 1 ∨ h.val / 2 % 2 = 1 then 1 else 0)) := by decide +kernel
theorem hx_sh : ∀ h : Fin 1024, ((nI h.val <<< ((1 : Int32) &&& 31)) ||| 0) = nI (2 * h.val) ∧ ((nI h.val <<< ((1 : Int32) &&& 31)) ||| 1) = nI (2 * h.val + 1) := by decide +kernel
theorem hy_and {n : Nat} (h : n < 2048) : ((nI n >>> ((1 : Int32) &&& 31)) &&& (nI n ||| (-2 : Int32))) = nI (2 * (n / 4) + (if n % 2 = 1 ∧ n / 2 % 2 = 1 then 1 else 0)) := hx_and ⟨n, h⟩
theorem hy_or {n : Nat} (h : n < 2048) : ((nI n >>> ((1 : Int32) &&& 31)) ||| (nI n &&& 1)) = nI (2 * (n / 4) + (if n % 2 = 1 ∨ n / 2 % 2 = 1 then 1 else 0)) := hx_or ⟨n, h⟩
theorem hy_not {n : Nat} (h : n < 2048) : (nI n ^^^ 1) = nI (if n % 2 = 0 then n + 1 else n - 1) := hx_not ⟨n, h⟩
theorem hb_and {a b : Bool} {r : List Bool} (h : (a :: b :: r).length ≤ 11) : ((nI (hb (a :: b :: r)) >>> ((1 : Int32) &&& 31)) &&& (nI (hb (a :: b :: r)) ||| (-2 : Int32))) = nI (hb ((b && a) :: r)) := by
  rw [hy_and (hb_2048 h)]
  have e : hb (a :: b :: r) = 2 * (2 * hb r + (if b then 1 else 0)) + (if a then 1 else 0) := rfl
  have e2 : hb ((b && a) :: r) = 2 * hb r + (if (b && a) then 1 else 0) := rfl
  rw [e, e2]
  refine congrArg nI ?_
  cases a <;> cases b
  · show 2 * ((2 * (2 * hb r + 0) + 0) / 4) + (if (2 * (2 * hb r + 0) + 0) % 2 = 1 ∧ (2 * (2 * hb r + 0) + 0) / 2 % 2 = 1 then 1 else 0) = 2 * hb r + 0
    split <;> omega
  · show 2 * ((2 * (2 * hb r + 1) + 0) / 4) + (if (2 * (2 * hb r + 1) + 0) % 2 = 1 ∧ (2 * (2 * hb r + 1) + 0) / 2 % 2 = 1 then 1 else 0) = 2 * hb r + 0
    split <;> omega
  · show 2 * ((2 * (2 * hb r + 0) + 1) / 4) + (if (2 * (2 * hb r + 0) + 1) % 2 = 1 ∧ (2 * (2 * hb r + 0) + 1) / 2 % 2 = 1 then 1 else 0) = 2 * hb r + 0
    split <;> omega
  · show 2 * ((2 * (2 * hb r + 1) + 1) / 4) + (if (2 * (2 * hb r + 1) + 1) % 2 = 1 ∧ (2 * (2 * hb r + 1) + 1) / 2 % 2 = 1 then 1 else 0) = 2 * hb r + 1
    split <;> omega
theorem hb_or {a b : Bool} {r : List Bool} (h : (a :: b :: r).length ≤ 11) : ((nI (hb (a :: b :: r)) >>> ((1 : Int32) &&& 31)) ||| (nI (hb (a :: b :: r)) &&& 1)) = nI (hb ((b || a) :: r)) := by
  rw [hy_or (hb_2048 h)]
  have e : hb (a :: b :: r) = 2 * (2 * hb r + (if b then 1 else 0)) + (if a then 1 else 0) := rfl
  have e2 : hb ((b || a) :: r) = 2 * hb r + (if (b || a) then 1 else 0) := rfl
  rw [e, e2]
  refine congrArg nI ?_
  cases a <;> cases b
  · show 2 * ((2 * (2 * hb r + 0) + 0) / 4) + (if (2 * (2 * hb r + 0) + 0) % 2 = 1 ∨ (2 * (2 * hb r + 0) + 0) / 2 % 2 = 1 then 1 else 0) = 2 * hb r + 0
    split <;> omega
  · show 2 * ((2 * (2 * hb r + 1) + 0) / 4) + (if (2 * (2 * hb r + 1) + 0) % 2 = 1 ∨ (2 * (2 * hb r + 1) + 0) / 2 % 2 = 1 then 1 else 0) = 2 * hb r + 1
    split <;> omega
  · show 2 * ((2 * (2 * hb r + 0) + 1) / 4) + (if (2 * (2 * hb r + 0) + 1) % 2 = 1 ∨ (2 * (2 * hb r + 0) + 1) / 2 % 2 = 1 then 1 else 0) = 2 * hb r + 1
    split <;> omega
  · show 2 * ((2 * (2 * hb r + 1) + 1) / 4) + (if (2 * (2 * hb r + 1) + 1) % 2 = 1 ∨ (2 * (2 * hb r + 1) + 1) / 2 % 2 = 1 then 1 else 0) = 2 * hb r + 1
    split <;> omega
theorem hb_not {a : Bool} {r : List Bool} (h : (a :: r).length ≤ 11) : (nI (hb (a :: r)) ^^^ 1) = nI (hb ((!a) :: r)) := by
  rw [hy_not (hb_2048 h)]
  have e : hb (a :: r) = 2 * hb r + (if a then 1 else 0) := rfl
  have e2 : hb ((!a) :: r) = 2 * hb r + (if (!a) then 1 else 0) := rfl
  rw [e, e2]
  refine congrArg nI ?_
  cases a
  · show (if (2 * hb r + 0) % 2 = 0 then 2 * hb r + 0 + 1 else 2 * hb r + 0 - 1) = 2 * hb r + 1
    split <;> omega
  · show (if (2 * hb r + 1) % 2 = 0 then 2 * hb r + 1 + 1 else 2 * hb r + 1 - 1) = 2 * hb r + 0
    split <;> omega
/-- the class's booth b holds these steps -/
def bo_C (v : pa_S) (b : Nat) (L : List (Nat × Nat)) : Prop := pa_N v 15 b = L.length ∧ pa_N v 16 b = L.length ∧ L.length ≤ 100 ∧ ∀ j t, L[j]? = some t → pa_A v 15 b j = nI t.1 ∧ pa_A v 16 b j = nI t.2
section EVC
variable {v : pa_S} {b s : Nat} {F : Nat → Nat} {L : List (Nat × Nat)} {po : Int32 → Prop}
theorem sp_holds {t : Nat × Nat} (hF : ∀ j, j < 6 → pa_A v 7 s j = nI (F j)) (hF9 : ∀ j, j < 6 → F j ≤ 99) (ht : t.1 < 18) (h9 : t.2 ≤ 99) : wp_X1_holds v s (nI t.1) (nI t.2) po = po (if tv_b F t = true then 1 else 0) := by
  have h6 : t.1 / 3 < 6 := by omega
  have f9 := hF9 _ h6
  unfold wp_X1_holds wb_X1_holds_0
  simp only [forall_eq]
  rw [pw_n3, pk_div (by omega) (by omega) (by omega), if_neg (nI_pos (by omega)), if_pos (show nI (t.1 / 3) < 6 from nI_lt (b := 6) h6 (by omega)), pw_rem (by omega) (by omega) (by omega), pw_and (vp_in_nI h6 (by omega)), pw_and (vp_in_nI h6 (by omega)), pw_and (vp_in_nI h6 (by omega)), nI_clamp (by omega), hF _ h6]
  rcases (show t.1 % 3 = 0 ∨ t.1 % 3 = 1 ∨ t.1 % 3 = 2 by omega) with q | q | q
  · have tv : tv_b F t = decide (F (t.1 / 3) < t.2) := by unfold tv_b; rw [if_pos q]
    rw [tv, q, if_pos (show nI 0 = 0 from rfl)]
    by_cases z : F (t.1 / 3) < t.2
    · rw [if_neg (nI_ge z (by omega)), if_pos (decide_eq_true z)]
    · rw [if_pos (nI_le (by omega) (by omega)), if_neg (by rw [decide_eq_true_eq]; exact z)]
  · have tv : tv_b F t = decide (F (t.1 / 3) = t.2) := by unfold tv_b; rw [if_neg (by omega), if_pos q]
    rw [tv, q, if_neg (show ¬ nI 1 = 0 by decide), if_pos (show nI 1 = 1 from rfl)]
    by_cases z : F (t.1 / 3) = t.2
    · rw [if_pos (by rw [z]), if_pos (decide_eq_true z)]
    · rw [if_neg (fun y => z ((nI_eq (by omega) (by omega)).mp y)), if_neg (by rw [decide_eq_true_eq]; exact z)]
  · have tv : tv_b F t = decide (t.2 < F (t.1 / 3)) := by unfold tv_b; rw [if_neg (by omega), if_neg (by omega)]
    rw [tv, q, if_neg (show ¬ nI 2 = 0 by decide), if_neg (show ¬ nI 2 = 1 by decide)]
    by_cases z : t.2 < F (t.1 / 3)
    · rw [if_neg (nI_ge z (by omega)), if_pos (decide_eq_true z)]
    · rw [if_pos (nI_le (by omega) (by omega)), if_neg (by rw [decide_eq_true_eq]; exact z)]
theorem gr_at {f j : Nat} {x2 x3 : Int32} {t : Nat × Nat} (h : bo_C v b L) (hj : L[j]? = some t) : j < 100 ∧ vp_in (nI j) (pa_N v 15 b) ∧ vp_in (nI j) (pa_N v 16 b) ∧ ¬ (Int32.ofNat (pa_N v 15 b)) ≤ nI j ∧ ¬ (Int32.ofNat (pa_N v 16 b)) ≤ nI j ∧ pa_A v 15 b (nI j).toNatClampNeg = nI t.1 ∧ pa_A v 16 b (nI j).toNatClampNeg = nI t.2 := by
  have hl : j < L.length := by
    by_cases q : j < L.length
    · exact q
    · rw [List.getElem?_eq_none (by omega)] at hj; exact absurd hj (by simp)
  have h1 := h.2.2.1
  rw [h.1, h.2.1, nI_clamp (by omega)]
  exact ⟨by omega, vp_in_nI hl (by omega), vp_in_nI hl (by omega), nI_ge hl (by omega), nI_ge hl (by omega), h.2.2.2 j t hj⟩
theorem gr_step {f j : Nat} {x2 : Int32} {t : Nat × Nat} {st s1 : List Bool} (h : bo_C v b L) (hj : L[j]? = some t) (hF : ∀ j, j < 6 → pa_A v 7 s j = nI (F j)) (hF9 : ∀ j, j < 6 → F j ≤ 99) (hl : st.length ≤ 11) (hr : ru_t F t st = some s1) :
    wl_X1_grace_7 b s po v (f + 1) x2 (nI (hb st)) (nI j) = wl_X1_grace_7 b s po v f x2 (nI (hb s1)) (nI (j + 1)) := by
  obtain ⟨j1, i15, i16, n15, n16, a15, a16⟩ := gr_at (f := 0) (x2 := 0) (x3 := 0) h hj
  show wb_X1_grace_7 _ v b s x2 (nI (hb st)) (nI j) po = _
  unfold wb_X1_grace_7
  rw [if_neg n15, if_neg n16, pw_and i15, a15, a16, pw_and i16, pw_and i16, pw_and i15, pw_and i16]
  unfold ru_t at hr
  by_cases q : t.1 < 18
  · rw [if_pos q] at hr
    by_cases q2 : t.2 ≤ 99 ∧ st.length < 11
    · rw [if_pos q2] at hr
      obtain rfl := Option.some.inj hr
      have ne : ∀ k, 18 ≤ k → k < 100 → ¬ nI t.1 = nI k := fun k h1 h2 y => by
        have := (nI_eq (by omega) (by omega)).mp y
        omega
      have sh : ((nI (hb st) <<< ((1 : Int32) &&& 31)) ||| 0) = nI (2 * hb st) ∧ ((nI (hb st) <<< ((1 : Int32) &&& 31)) ||| 1) = nI (2 * hb st + 1) := hx_sh ⟨hb st, hb_1024 (by omega)⟩
      have e2 : hb (tv_b F t :: st) = 2 * hb st + (if tv_b F t then 1 else 0) := rfl
      rw [if_neg (show ¬ nI t.1 = 18 from ne 18 (by omega) (by omega)), if_neg (show ¬ nI t.1 = 19 from ne 19 (by omega) (by omega)), if_neg (show ¬ nI t.1 = 20 from ne 20 (by omega) (by omega)), if_neg (show ¬ nI t.1 = 21 from ne 21 (by omega) (by omega)), if_neg (show ¬ nI t.1 = 22 from ne 22 (by omega) (by omega)), sp_holds hF hF9 q q2.1]
      unfold wb_X1_grace_165 wb_X1_grace_167
      simp only [forall_eq, pw_n1, nI_add]
      by_cases z : tv_b F t = true
      · rw [if_pos z, if_neg (by decide), e2, if_pos z]
        show wl_X1_grace_7 b s po v f x2 ((nI (hb st) <<< ((1 : Int32) &&& 31)) ||| 1) (nI (j + 1)) = _
        rw [sh.2]
      · rw [if_neg z, if_pos rfl, e2, if_neg z]
        show wl_X1_grace_7 b s po v f x2 ((nI (hb st) <<< ((1 : Int32) &&& 31)) ||| 0) (nI (j + 1)) = _
        rw [sh.1]; rfl
    · rw [if_neg q2] at hr; simp at hr
  · rw [if_neg q] at hr
    by_cases q18 : t.1 = 18
    · rw [if_pos q18] at hr
      rcases st with _ | ⟨a, r⟩
      · simp at hr
      · obtain rfl := Option.some.inj hr
        rw [q18, if_pos (by decide)]
        simp only [forall_eq]
        rw [hb_not hl]
        unfold wb_X1_grace_167
        simp only [forall_eq, pw_n1, nI_add]
    · rw [if_neg q18] at hr
      by_cases q19 : t.1 = 19
      · rw [if_pos q19] at hr
        rcases st with _ | ⟨a, _ | ⟨b', r⟩⟩
        · simp at hr
        · simp at hr
        · obtain rfl := Option.some.inj hr
          rw [q19, if_neg (by decide), if_pos (by decide)]
          simp only [forall_eq]
          rw [hb_and hl]
          unfold wb_X1_grace_167
          simp only [forall_eq, pw_n1, nI_add]
      · rw [if_neg q19] at hr
        by_cases q20 : t.1 = 20
        · rw [if_pos q20] at hr
          rcases st with _ | ⟨a, _ | ⟨b', r⟩⟩
          · simp at hr
          · simp at hr
          · obtain rfl := Option.some.inj hr
            rw [q20, if_neg (by decide), if_neg (by decide), if_pos (by decide)]
            simp only [forall_eq]
            rw [hb_or hl]
            unfold wb_X1_grace_167
            simp only [forall_eq, pw_n1, nI_add]
        · rw [if_neg q20] at hr; simp at hr
theorem ru_t_len {t : Nat × Nat} {st s1 : List Bool} (hl : st.length ≤ 11) (hr : ru_t F t st = some s1) : s1.length ≤ 11 := by
  unfold ru_t at hr
  by_cases q : t.1 < 18
  · rw [if_pos q] at hr
    by_cases q2 : t.2 ≤ 99 ∧ st.length < 11
    · rw [if_pos q2] at hr
      obtain rfl := Option.some.inj hr
      rw [List.length_cons]; omega
    · rw [if_neg q2] at hr; simp at hr
  · rw [if_neg q] at hr
    by_cases q18 : t.1 = 18
    · rw [if_pos q18] at hr
      rcases st with _ | ⟨a, r⟩
      · simp at hr
      · obtain rfl := Option.some.inj hr; exact hl
    · rw [if_neg q18] at hr
      by_cases q19 : t.1 = 19
      · rw [if_pos q19] at hr
        rcases st with _ | ⟨a, _ | ⟨b', r⟩⟩
        · simp at hr
        · simp at hr
        · obtain rfl := Option.some.inj hr
          rw [List.length_cons, List.length_cons] at hl
          rw [List.length_cons]; omega
      · rw [if_neg q19] at hr
        by_cases q20 : t.1 = 20
        · rw [if_pos q20] at hr
          rcases st with _ | ⟨a, _ | ⟨b', r⟩⟩
          · simp at hr
          · simp at hr
          · obtain rfl := Option.some.inj hr
            rw [List.length_cons, List.length_cons] at hl
            rw [List.length_cons]; omega
        · rw [if_neg q20] at hr; simp at hr
theorem gr_code (h : bo_C v b L) (hF : ∀ j, j < 6 → pa_A v 7 s j = nI (F j)) (hF9 : ∀ j, j < 6 → F j ≤ 99) : ∀ (c : List (Nat × Nat)) (f j : Nat) (x2 : Int32) (st s1 : List Bool), (∀ i t, c[i]? = some t → L[j + i]? = some t) → st.length ≤ 11 → ru F c st = some s1 →
    wl_X1_grace_7 b s po v (f + c.length) x2 (nI (hb st)) (nI j) = wl_X1_grace_7 b s po v f x2 (nI (hb s1)) (nI (j + c.length))
  | [], f, j, x2, st, s1, _, _, hr => by
    obtain rfl := Option.some.inj (show some st = some s1 from hr)
    rfl
  | t :: c, f, j, x2, st, s1, hc, hl, hr => by
    unfold ru at hr
    cases ht : ru_t F t st with
    | none => rw [ht] at hr; exact absurd hr (by simp)
    | some s2 =>
      rw [ht] at hr
      rw [List.length_cons, show f + (c.length + 1) = f + c.length + 1 by omega, gr_step h (show L[j]? = some t from hc 0 t rfl) hF hF9 hl ht, gr_code h hF hF9 c f (j + 1) x2 s2 s1 (fun i t hi => by rw [show j + 1 + i = j + (i + 1) by omega]; exact hc (i + 1) t hi) (ru_t_len hl ht) hr, show j + 1 + c.length = j + (c.length + 1) by omega]
theorem gr_mark {f j w n : Nat} {tot : Int} {x : Bool} (h : bo_C v b L) (hj : L[j]? = some (21 + w, n)) (hw : w < 2) (hn : n ≤ 99) (h1 : -100000 ≤ tot) (h2 : tot ≤ 100000) :
    wl_X1_grace_7 b s po v (f + 1) (nS tot) (nI (hb [x])) (nI j) = wl_X1_grace_7 b s po v f (nS (tot + (if x = true then (if w = 0 then (n : Int) else -(n : Int)) else 0))) (nI (hb [])) (nI (j + 1)) := by
  obtain ⟨j1, i15, i16, n15, n16, a15, a16⟩ := gr_at (f := 0) (x2 := 0) (x3 := 0) h hj
  have a15 : pa_A v 15 b (nI j).toNatClampNeg = nI (21 + w) := a15
  have a16 : pa_A v 16 b (nI j).toNatClampNeg = nI n := a16
  have hx : (nI (hb [x]) &&& 1) * nI n = nI (if x = true then n else 0) := by
    cases x
    · rw [show (nI (hb [false]) &&& 1) = nI 0 by decide, pk_mul, Nat.zero_mul]; rfl
    · rw [show (nI (hb [true]) &&& 1) = nI 1 by decide, pk_mul, Nat.one_mul]; rfl
  show wb_X1_grace_7 _ v b s (nS tot) (nI (hb [x])) (nI j) po = _
  unfold wb_X1_grace_7
  rw [if_neg n15, if_neg n16, pw_and i15, a15, a16, pw_and i16, pw_and i16, pw_and i15, pw_and i16, hx]
  have bx : (if x = true then n else 0) ≤ 1000 := by split <;> omega
  rcases (show w = 0 ∨ w = 1 by omega) with rfl | rfl
  · rw [if_neg (show ¬ nI (21 + 0) = 18 by decide), if_neg (show ¬ nI (21 + 0) = 19 by decide), if_neg (show ¬ nI (21 + 0) = 20 by decide), if_pos (show nI (21 + 0) = 21 by decide)]
    unfold wb_X1_grace_167
    simp only [forall_eq, pw_n1, nI_add]
    rw [nS_add h1 h2 bx]
    cases x <;> rfl
  · rw [if_neg (show ¬ nI (21 + 1) = 18 by decide), if_neg (show ¬ nI (21 + 1) = 19 by decide), if_neg (show ¬ nI (21 + 1) = 20 by decide), if_neg (show ¬ nI (21 + 1) = 21 by decide), if_pos (show nI (21 + 1) = 22 by decide)]
    unfold wb_X1_grace_167
    simp only [forall_eq, pw_n1, nI_add]
    rw [nS_sub h1 h2 bx]
    cases x
    · show wl_X1_grace_7 b s po v f (nS (tot - (0 : Nat))) _ _ = wl_X1_grace_7 b s po v f (nS (tot + 0)) _ _
      rw [show tot - ((0 : Nat) : Int) = tot + 0 by omega]; rfl
    · show wl_X1_grace_7 b s po v f (nS (tot - (n : Nat))) _ _ = wl_X1_grace_7 b s po v f (nS (tot + -(n : Int))) _ _
      rw [show tot - (n : Int) = tot + -(n : Int) by omega]; rfl
theorem gr_all (h : bo_C v b L) (hF : ∀ j, j < 6 → pa_A v 7 s j = nI (F j)) (hF9 : ∀ j, j < 6 → F j ≤ 99) : ∀ (CS : List pw_Cl) (f j : Nat) (tot : Int), (∀ c, c ∈ CS → gC c) → (∀ i t, (cs_c CS)[i]? = some t → L[j + i]? = some t) → j + (cs_c CS).length = L.length → -99 * (10 - CS.length : Int) ≤ tot → tot ≤ 99 * (10 - CS.length : Int) → CS.length ≤ 10 → (cs_c CS).length < f →
    wl_X1_grace_7 b s po v f (nS tot) (nI (hb [])) (nI j) = po (nS (tot + ev_s F CS))
  | [], f, j, tot, _, _, hl, _, _, _, hf => by
    have h1 := h.2.2.1
    rw [show (cs_c []).length = 0 from rfl, Nat.add_zero] at hl
    obtain ⟨f, rfl⟩ : ∃ g, f = g + 1 := ⟨f - 1, by omega⟩
    show wb_X1_grace_7 _ v b s (nS tot) _ (nI j) po = _
    unfold wb_X1_grace_7
    rw [h.1, if_pos (show Int32.ofNat L.length ≤ nI j from nI_le (by omega) (by omega))]
    show _ = po (nS (tot + 0))
    rw [Int.add_zero]
  | c :: cs, f, j, tot, hg, hc, hl, h1, h2, h10, hf => by
    have g := hg c List.mem_cons_self
    rw [List.length_cons] at h1 h2 h10
    have e0 : cs_c (c :: cs) = cl_c c ++ cs_c cs := rfl
    rw [e0, List.length_append] at hl hf
    rw [e0] at hc
    have ev : ev_s F (c :: cs) = ev_1 F c + ev_s F cs := rfl
    by_cases w : c.1 < 2
    · have e1 : cl_c c = c.2.2 ++ [(21 + c.1, c.2.1)] := if_pos w
      rw [e1, List.length_append, List.length_singleton] at hl hf
      rw [e1] at hc
      obtain ⟨x, hx⟩ := g.2.2.2 w F
      have hcode : ∀ i t, c.2.2[i]? = some t → L[j + i]? = some t := fun i t hi => hc i t (by
        have hil : i < c.2.2.length := by
          by_cases q : i < c.2.2.length
          · exact q
          · rw [List.getElem?_eq_none (by omega)] at hi; exact absurd hi (by simp)
        rw [List.append_assoc, List.getElem?_append_left hil]; exact hi)
      have hmark : L[j + c.2.2.length]? = some (21 + c.1, c.2.1) := hc c.2.2.length _ (by
        rw [List.append_assoc, List.getElem?_append_right (Nat.le_refl _), Nat.sub_self]; rfl)
      have hrest : ∀ i t, (cs_c cs)[i]? = some t → L[j + c.2.2.length + 1 + i]? = some t := fun i t hi => by
        have := hc (c.2.2.length + 1 + i) t (by
          rw [List.getElem?_append_right (by rw [List.length_append, List.length_singleton]; omega), List.length_append, List.length_singleton, show c.2.2.length + 1 + i - (c.2.2.length + 1) = i by omega]; exact hi)
        rw [show j + c.2.2.length + 1 + i = j + (c.2.2.length + 1 + i) by omega]; exact this
      have e2 : ev_1 F c = if x = true then (if c.1 = 0 then (c.2.1 : Int) else -(c.2.1 : Int)) else 0 := by
        unfold ev_1
        rw [if_pos w, ev_b_of hx]
      have b2 := ev_1_le (F := F) g
      have hfe : f = (f - c.2.2.length - 1) + 1 + c.2.2.length := by omega
      rw [hfe, gr_code h hF hF9 c.2.2 _ j _ [] [x] hcode (by decide) hx, gr_mark h hmark w g.2.1 (by omega) (by omega), ← e2, gr_all h hF hF9 cs _ _ _ (fun d hd => hg d (List.mem_cons_of_mem _ hd)) hrest (by omega) (by omega) (by omega) (by omega) (by omega), ev, Int.add_assoc]
    · have e1 : cl_c c = [] := if_neg w
      rw [e1, List.length_nil, Nat.zero_add] at hl hf
      rw [e1, List.nil_append] at hc
      have e2 : ev_1 F c = 0 := if_neg w
      rw [gr_all h hF hF9 cs f j tot (fun d hd => hg d (List.mem_cons_of_mem _ hd)) hc hl (by omega) (by omega) (by omega) hf, ev, e2, Int.zero_add]
theorem sp_graceB {CS : List pw_Cl} (h : bo_C v b (cs_c CS)) (hF : ∀ j, j < 6 → pa_A v 7 s j = nI (F j)) (hF9 : ∀ j, j < 6 → F j ≤ 99) (hg : ∀ c, c ∈ CS → gC c) (h10 : CS.length ≤ 10) : wp_X1_grace v b s po = po (nS (ev_s F CS)) := by
  unfold wp_X1_grace wb_X1_grace_0
  have := gr_all (po := po) h hF hF9 CS 5000 0 0 hg (fun i t hi => by rw [Nat.zero_add]; exact hi) (by omega) (by omega) (by omega) h10 (by have := h.2.2.1; omega)
  rw [Int.zero_add, nS_0] at this
  exact this
end EVC
