/-! THE REFERENCE looks for the topmost box -/
def tv (T : tr_T) : Nat → Option Nat → List Nat
  | 0, _ => []
  | _ + 1, none => []
  | k + 1, some n => n :: tv T k (tr_nso T n)
theorem tv_ht {A : st_A} {x y : UInt64} : ∀ (k : Nat) (c best : Option Nat), ht_F A x y k c best = (tv (sa_T A) k c).foldl (ht_st A x y) best := by
  intro k
  induction k with
  | zero => intro c best; rfl
  | succ k ih =>
    intro c best
    cases c with
    | none => rfl
    | some n => simp only [ht_F, tv, List.foldl_cons]; exact ih _ _
theorem tv_lt {T : tr_T} (hw : tr_wf T) : ∀ (k : Nat) (c : Option Nat), (∀ n, c = some n → n < tr_N T) → ∀ n ∈ tv T k c, n < tr_N T := by
  intro k
  induction k with
  | zero => intro c _ n h; cases h
  | succ k ih =>
    intro c hc n h
    cases c with
    | none => cases h
    | some b =>
      simp only [tv] at h
      rcases List.mem_cons.mp h with rfl | h
      · exact hc _ rfl
      · exact ih _ (fun z hz => (tr_Rk_nso hw (hc b rfl) hz).1) n h
def tv_e (T : tr_T) (l : List Nat) : List Nat := l.filter (fun n => !decide (tr_kd T n = 4))
theorem tv_skip {A : st_A} (hw : st_wf A) {x y : UInt64} : ∀ (l : List Nat) (best : Option Nat), (∀ n ∈ l, n < tr_N (sa_T A)) → (tv_e (sa_T A) l).foldl (ht_st A x y) best = l.foldl (ht_st A x y) best := by
  intro l
  induction l with
  | nil => intro best _; rfl
  | cons n l ih =>
    intro best hl
    unfold tv_e at ih ⊢
    rw [List.filter_cons]
    by_cases h4 : tr_kd (sa_T A) n = 4
    · have hb : sa_B A n = none := by
        cases hb : sa_B A n with
        | none => rfl
        | some b =>
          have := (hw.2.2.2.2.2.2 n b (hl n List.mem_cons_self) hb).1
          unfold tr_el at this
          rw [h4] at this
          rcases this with z | z | z <;> exact absurd z (by decide)
      have e : ht_st A x y best n = best := by unfold ht_st; rw [hb]
      rw [decide_eq_true h4]
      simp only [Bool.not_true, Bool.false_eq_true, if_false, List.foldl_cons, e]
      exact ih best (fun z hz => hl z (List.mem_cons_of_mem _ hz))
    · rw [decide_eq_false h4]
      simp only [Bool.not_false, if_true, List.foldl_cons]
      exact ih _ (fun z hz => hl z (List.mem_cons_of_mem _ hz))
/-- what waits, the next one on top -/
def wt (m : Nat) (P : List Nat) (σ : en_S) : Prop := ∀ i c, P.reverse[i]? = some c → en_ai σ (m + 25) i = nI c
theorem wt_push {m : Nat} {P : List Nat} {σ : en_S} (h : wt m P σ) (c : Nat) : wt m (c :: P) (en_sai σ (m + 25) P.length (nI c)) := by
  intro i d hi
  rw [List.reverse_cons] at hi
  rw [eg_ai_sai]
  by_cases e : i = P.length
  · rw [e, List.getElem?_append_right (by rw [List.length_reverse]; exact Nat.le_refl _), List.length_reverse, Nat.sub_self] at hi
    rw [if_pos ⟨rfl, e⟩, Option.some.inj hi]
  · rw [if_neg (fun z => e z.2)]
    have hil := (List.getElem?_eq_some_iff.mp hi).1
    rw [List.length_append, List.length_reverse] at hil
    have hil : i < P.length + 1 := hil
    rw [List.getElem?_append_left (by rw [List.length_reverse]; omega)] at hi
    exact h i d hi
theorem wt_pop {m n : Nat} {P : List Nat} {σ : en_S} (h : wt m (n :: P) σ) : en_ai σ (m + 25) P.length = nI n ∧ wt m P σ := by
  refine ⟨h P.length n ?_, fun i c hi => h i c ?_⟩
  · rw [List.reverse_cons, List.getElem?_append_right (by rw [List.length_reverse]; exact Nat.le_refl _), List.length_reverse, Nat.sub_self]; rfl
  · have hil := (List.getElem?_eq_some_iff.mp hi).1
    rw [List.reverse_cons, List.getElem?_append_left hil]; exact hi
theorem wt_ag {m : Nat} {P : List Nat} {σ σ' : en_S} (h : wt m P σ) (e : en_ai σ' (m + 25) = en_ai σ (m + 25)) : wt m P σ' := by
  unfold wt
  rw [e]; exact h
def aF (f _ : Nat) : Prop := f ≠ 727
def aV (m a : Nat) : Prop := a ≠ m + 24 ∧ a ≠ m + 25
theorem rx_arr {m : Nat} {A : st_A} {σ σ' : en_S} (h : RX m A σ) (g : ag σ σ' aF (aV m)) (s : sz σ σ') : RX m A σ' := h.ag (g.mono (fun _ _ z => z.2.1) (fun a z => ⟨z.2.2.1, z.2.2.2⟩)) (s.fr (rs_fr h.1))
def od_l (m : Nat) (O : List Nat) (σ : en_S) : Prop := en_fi σ 727 m = nI O.length ∧ ∀ i c, O[i]? = some c → en_ai σ (m + 24) i = nI c
theorem od_l_add {m : Nat} {O : List Nat} {σ : en_S} (h : od_l m O σ) (n : Nat) : od_l m (O ++ [n]) (en_sfi (en_sai σ (m + 24) O.length (nI n)) 727 m (nI (O.length + 1))) := by
  refine ⟨by rw [eg_fi_sfi, if_pos ⟨rfl, rfl⟩, List.length_append]; rfl, fun i c hi => ?_⟩
  rw [eg_ai_sfi, eg_ai_sai]
  by_cases e : i = O.length
  · rw [e, List.getElem?_append_right (Nat.le_refl _), Nat.sub_self] at hi
    rw [if_pos ⟨rfl, e⟩, Option.some.inj hi]
  · rw [if_neg (fun z => e z.2)]
    have hil := (List.getElem?_eq_some_iff.mp hi).1
    rw [List.length_append] at hil
    have hil : i < O.length + 1 := hil
    rw [List.getElem?_append_left (by omega)] at hi
    exact h.2 i c hi
theorem od_len {T : tr_T} (hw : tr_wf T) : ∀ (P : List Nat), (∀ n ∈ P, n < tr_N T) → P.length ≤ od_W (tr_up T) (tr_N T) P := by
  intro P
  induction P with
  | nil => intro _; exact Nat.le_refl _
  | cons n P ih =>
    intro h
    rw [od_W_cons, List.length_cons]
    have := od_w_pos (od_okU hw) (h n List.mem_cons_self)
    have := ih (fun z hz => h z (List.mem_cons_of_mem _ hz))
    omega
theorem od_kp_lt {T : tr_T} (hw : tr_wf T) {n : Nat} (hn : n < tr_N T) : ∀ c ∈ tr_kp T n, c < tr_N T := fun c hc => ((od_okU hw).1 n c hn hc).1
theorem od_pend_lt {T : tr_T} (hw : tr_wf T) : ∀ (k n : Nat), n < tr_N T → ∀ c ∈ od_pend (tr_up T) (tr_kp T) k n, c < tr_N T := by
  intro k
  induction k with
  | zero => intro n _ c h; cases h
  | succ k ih =>
    intro n hn c h
    simp only [od_pend] at h
    cases hu : tr_up T n with
    | none => rw [hu] at h; cases h
    | some p =>
      rw [hu] at h
      have hpl := tr_up_lt hw hn hu
      rcases List.mem_append.mp h with z | z
      · exact od_kp_lt hw hpl c (od_suf_mem z)
      · exact ih p hpl c z
def P_X7_arrange (G : en_G)  (g : (Nat) × (st_A)) (as : List en_V) (σ : en_S) : Prop := (RX (g.1) (g.2) σ) ∧ as = [en_R (some (g.1))]
def C_X7_arrange (G : en_G)  : en_C := en_gh (P_X7_arrange G) (fun g as σ v σ' => RX (g.1) (g.2) σ' ∧ ag σ σ' aF (aV (g.1)) ∧ sz σ σ' ∧ v = none ∧ od_l (g.1) (tv_e (sa_T (g.2)) (tv (sa_T (g.2)) 24 (some 0))) σ')
theorem pr_X7_arrange {G : en_G}  : ∀ as σ, (C_X7_arrange G).1 as σ → ∃ b tl, as = en_R (some b) :: tl ∧ en_cl σ b = some 7 ∧ tl.length = 0 := fun as σ ⟨g, hp, h2⟩ => ⟨_, _, h2, rs_c hp.1, rfl⟩
theorem cu_X7_arrange {G : en_G}  {m : Nat} {A : st_A} {σ : en_S} (hp : RX m A σ) : en_Us (C_X7_arrange G) [en_R (some m)] σ (fun v σ' => RX m A σ' ∧ ag σ σ' aF (aV m) ∧ sz σ σ' ∧ v = none ∧ od_l m (tv_e (sa_T A) (tv (sa_T A) 24 (some 0))) σ') := ⟨⟨(m, A), hp, rfl⟩, fun v σ' q => q (m, A) ⟨hp, rfl⟩⟩
def ca_X7_arrange (G : en_G) : List (Nat × Nat × en_C) := []
def X_X7_arrange (G : en_G) (q : Option en_V → en_S → Prop) : en_X := en_mk G cX7_arrange (en_lk fl7) (en_lk nw7) (en_lk aw7) (en_lk dc7) (en_lk (ca_X7_arrange G)) 0 false q
theorem d_X7_arrange_0 : decode cX7_arrange 0 = .ok (.aload_n 0, 1) := by decide +kernel
theorem j_X7_arrange_0 {G : en_G} {q : Option en_V → en_S → Prop}  {l1 l2 l3 : en_V} {x0 : Option Nat} {σ : en_S} : en_J (X_X7_arrange G q) 0 [en_R x0, l1, l2, l3] [] σ ↔ en_J (X_X7_arrange G q) 1 [en_R x0, l1, l2, l3] [en_R x0] σ := en_j1 d_X7_arrange_0 rfl rfl
theorem d_X7_arrange_1 : decode cX7_arrange 1 = .ok (.iconst 0, 1) := by decide +kernel
theorem j_X7_arrange_1 {G : en_G} {q : Option en_V → en_S → Prop}  {l0 l1 l2 l3 : en_V} {a0 : Option Nat} {σ : en_S} : en_J (X_X7_arrange G q) 1 [l0, l1, l2, l3] [en_R a0] σ ↔ en_J (X_X7_arrange G q) 2 [l0, l1, l2, l3] [en_I 0, en_R a0] σ := ej_iconst d_X7_arrange_1 (by decide +kernel)
theorem d_X7_arrange_2 : decode cX7_arrange 2 = .ok (.putfield 265, 3) := by decide +kernel
theorem j_X7_arrange_2 {G : en_G} {q : Option en_V → en_S → Prop}  {l0 l1 l2 l3 : en_V} {a0 : Int32} {a1 : Option Nat} {σ : en_S} : en_J (X_X7_arrange G q) 2 [l0, l1, l2, l3] [en_I a0, en_R a1] σ ↔ ∃ a, a1 = some a ∧ en_cl σ a = some 7 ∧ en_J (X_X7_arrange G q) 5 [l0, l1, l2, l3] [] (en_sfi σ 727 a a0) := en_jg (st := fun o => [en_I a0, en_R o]) (st' := fun _ => []) (σ' := fun a => en_sfi σ 727 a a0) d_X7_arrange_2 rfl (fun a => rfl) (fun a => ⟨fun h => h.2.1, fun h => ⟨rfl, h, trivial, fun z => absurd z (by decide +kernel)⟩⟩)
theorem d_X7_arrange_5 : decode cX7_arrange 5 = .ok (.iconst 1, 1) := by decide +kernel
theorem j_X7_arrange_5 {G : en_G} {q : Option en_V → en_S → Prop}  {l0 l1 l2 l3 : en_V}  {σ : en_S} : en_J (X_X7_arrange G q) 5 [l0, l1, l2, l3] [] σ ↔ en_J (X_X7_arrange G q) 6 [l0, l1, l2, l3] [en_I 1] σ := ej_iconst d_X7_arrange_5 (by decide +kernel)
theorem d_X7_arrange_6 : decode cX7_arrange 6 = .ok (.istore_n 1, 1) := by decide +kernel
theorem j_X7_arrange_6 {G : en_G} {q : Option en_V → en_S → Prop}  {l0 l1 l2 l3 : en_V} {a0 : Int32} {σ : en_S} : en_J (X_X7_arrange G q) 6 [l0, l1, l2, l3] [en_I a0] σ ↔ en_J (X_X7_arrange G q) 7 [en_c2 l0, en_I a0, l2, l3] [] σ := en_j1 d_X7_arrange_6 rfl ⟨rfl, Nat.le_of_ble_eq_true rfl⟩
theorem d_X7_arrange_7 : decode cX7_arrange 7 = .ok (.aload_n 0, 1) := by decide +kernel
theorem j_X7_arrange_7 {G : en_G} {q : Option en_V → en_S → Prop}  {l1 l2 l3 : en_V} {x0 : Option Nat} {σ : en_S} : en_J (X_X7_arrange G q) 7 [en_R x0, l1, l2, l3] [] σ ↔ en_J (X_X7_arrange G q) 8 [en_R x0, l1, l2, l3] [en_R x0] σ := en_j1 d_X7_arrange_7 rfl rfl
theorem d_X7_arrange_8 : decode cX7_arrange 8 = .ok (.getfield 88, 3) := by decide +kernel
theorem j_X7_arrange_8 {G : en_G} {q : Option en_V → en_S → Prop}  {l0 l1 l2 l3 : en_V} {a0 : Option Nat} {σ : en_S} : en_J (X_X7_arrange G q) 8 [l0, l1, l2, l3] [en_R a0] σ ↔ ∃ a, a0 = some a ∧ en_cl σ a = some 7 ∧ en_J (X_X7_arrange G q) 11 [l0, l1, l2, l3] [en_R (en_fr σ 728 a)] σ := en_jg (st := fun o => [en_R o]) (st' := fun a => [en_R (en_fr σ 728 a)]) (σ' := fun _ => σ) d_X7_arrange_8 rfl (fun a => rfl) (fun a => ⟨fun h => h.2, fun h => ⟨rfl, h⟩⟩)
theorem d_X7_arrange_11 : decode cX7_arrange 11 = .ok (.iconst 0, 1) := by decide +kernel
theorem j_X7_arrange_11 {G : en_G} {q : Option en_V → en_S → Prop}  {l0 l1 l2 l3 : en_V} {a0 : Option Nat} {σ : en_S} : en_J (X_X7_arrange G q) 11 [l0, l1, l2, l3] [en_R a0] σ ↔ en_J (X_X7_arrange G q) 12 [l0, l1, l2, l3] [en_I 0, en_R a0] σ := ej_iconst d_X7_arrange_11 (by decide +kernel)
theorem d_X7_arrange_12 : decode cX7_arrange 12 = .ok (.iconst 0, 1) := by decide +kernel
theorem j_X7_arrange_12 {G : en_G} {q : Option en_V → en_S → Prop}  {l0 l1 l2 l3 : en_V} {a0 : Int32} {a1 : Option Nat} {σ : en_S} : en_J (X_X7_arrange G q) 12 [l0, l1, l2, l3] [en_I a0, en_R a1] σ ↔ en_J (X_X7_arrange G q) 13 [l0, l1, l2, l3] [en_I 0, en_I a0, en_R a1] σ := ej_iconst d_X7_arrange_12 (by decide +kernel)
theorem d_X7_arrange_13 : decode cX7_arrange 13 = .ok (.iastore, 1) := by decide +kernel
theorem j_X7_arrange_13 {G : en_G} {q : Option en_V → en_S → Prop}  {l0 l1 l2 l3 : en_V} {a0 : Int32} {a1 : Int32} {a2 : Option Nat} {σ : en_S} : en_J (X_X7_arrange G q) 13 [l0, l1, l2, l3] [en_I a0, en_I a1, en_R a2] σ ↔ ∃ a, a2 = some a ∧ (∃ k, en_al σ a = some (0, k) ∧ vp_in a1 k) ∧ en_J (X_X7_arrange G q) 14 [l0, l1, l2, l3] [] (en_sai σ a a1.toNatClampNeg a0) := ej_iastore d_X7_arrange_13
theorem d_X7_arrange_14 : decode cX7_arrange 14 = .ok (.iload_n 1, 1) := by decide +kernel
theorem j_X7_arrange_14 {G : en_G} {q : Option en_V → en_S → Prop}  {l0 l2 l3 : en_V} {x1 : Int32} {σ : en_S} : en_J (X_X7_arrange G q) 14 [l0, en_I x1, l2, l3] [] σ ↔ en_J (X_X7_arrange G q) 15 [l0, en_I x1, l2, l3] [en_I x1] σ := en_j1 d_X7_arrange_14 rfl rfl
theorem d_X7_arrange_15 : decode cX7_arrange 15 = .ok (.ifCond .le 109, 3) := by decide +kernel
theorem j_X7_arrange_15 {G : en_G} {q : Option en_V → en_S → Prop}  {l0 l1 l2 l3 : en_V} {a0 : Int32} {σ : en_S} : en_J (X_X7_arrange G q) 15 [l0, l1, l2, l3] [en_I a0] σ ↔ (a0 ≤ 0 → en_J (X_X7_arrange G q) 124 [l0, l1, l2, l3] [] σ) ∧ (¬ (a0 ≤ 0) → en_J (X_X7_arrange G q) 18 [l0, l1, l2, l3] [] σ) := en_jb d_X7_arrange_15 rfl ⟨rfl, by decide⟩
theorem d_X7_arrange_18 : decode cX7_arrange 18 = .ok (.iinc 1 (-1), 3) := by decide +kernel
theorem j_X7_arrange_18 {G : en_G} {q : Option en_V → en_S → Prop}  {l0 l2 l3 : en_V} {x1 : Int32} {σ : en_S} : en_J (X_X7_arrange G q) 18 [l0, en_I x1, l2, l3] [] σ ↔ en_J (X_X7_arrange G q) 21 [en_c2 l0, en_I (x1 + (-1)), l2, l3] [] σ := ej_iinc d_X7_arrange_18 rfl (by decide +kernel) rfl
theorem d_X7_arrange_21 : decode cX7_arrange 21 = .ok (.aload_n 0, 1) := by decide +kernel
theorem j_X7_arrange_21 {G : en_G} {q : Option en_V → en_S → Prop}  {l1 l2 l3 : en_V} {x0 : Option Nat} {σ : en_S} : en_J (X_X7_arrange G q) 21 [en_R x0, l1, l2, l3] [] σ ↔ en_J (X_X7_arrange G q) 22 [en_R x0, l1, l2, l3] [en_R x0] σ := en_j1 d_X7_arrange_21 rfl rfl
theorem d_X7_arrange_22 : decode cX7_arrange 22 = .ok (.getfield 88, 3) := by decide +kernel
theorem j_X7_arrange_22 {G : en_G} {q : Option en_V → en_S → Prop}  {l0 l1 l2 l3 : en_V} {a0 : Option Nat} {σ : en_S} : en_J (X_X7_arrange G q) 22 [l0, l1, l2, l3] [en_R a0] σ ↔ ∃ a, a0 = some a ∧ en_cl σ a = some 7 ∧ en_J (X_X7_arrange G q) 25 [l0, l1, l2, l3] [en_R (en_fr σ 728 a)] σ := en_jg (st := fun o => [en_R o]) (st' := fun a => [en_R (en_fr σ 728 a)]) (σ' := fun _ => σ) d_X7_arrange_22 rfl (fun a => rfl) (fun a => ⟨fun h => h.2, fun h => ⟨rfl, h⟩⟩)
theorem d_X7_arrange_25 : decode cX7_arrange 25 = .ok (.iload_n 1, 1) := by decide +kernel
theorem j_X7_arrange_25 {G : en_G} {q : Option en_V → en_S → Prop}  {l0 l2 l3 : en_V} {a0 : Option Nat} {x1 : Int32} {σ : en_S} : en_J (X_X7_arrange G q) 25 [l0, en_I x1, l2, l3] [en_R a0] σ ↔ en_J (X_X7_arrange G q) 26 [l0, en_I x1, l2, l3] [en_I x1, en_R a0] σ := en_j1 d_X7_arrange_25 rfl rfl
theorem d_X7_arrange_26 : decode cX7_arrange 26 = .ok (.iaload, 1) := by decide +kernel
theorem j_X7_arrange_26 {G : en_G} {q : Option en_V → en_S → Prop}  {l0 l1 l2 l3 : en_V} {a0 : Int32} {a1 : Option Nat} {σ : en_S} : en_J (X_X7_arrange G q) 26 [l0, l1, l2, l3] [en_I a0, en_R a1] σ ↔ ∃ a, a1 = some a ∧ (∃ k, en_al σ a = some (0, k) ∧ vp_in a0 k) ∧ en_J (X_X7_arrange G q) 27 [l0, l1, l2, l3] [en_I (en_ai σ a a0.toNatClampNeg)] σ := ej_iaload d_X7_arrange_26 rfl
theorem d_X7_arrange_27 : decode cX7_arrange 27 = .ok (.istore_n 2, 1) := by decide +kernel
theorem j_X7_arrange_27 {G : en_G} {q : Option en_V → en_S → Prop}  {l0 l1 l2 l3 : en_V} {a0 : Int32} {σ : en_S} : en_J (X_X7_arrange G q) 27 [l0, l1, l2, l3] [en_I a0] σ ↔ en_J (X_X7_arrange G q) 28 [l0, en_c2 l1, en_I a0, l3] [] σ := en_j1 d_X7_arrange_27 rfl ⟨rfl, Nat.le_of_ble_eq_true rfl⟩
theorem d_X7_arrange_28 : decode cX7_arrange 28 = .ok (.aload_n 0, 1) := by decide +kernel
theorem j_X7_arrange_28 {G : en_G} {q : Option en_V → en_S → Prop}  {l1 l2 l3 : en_V} {x0 : Option Nat} {σ : en_S} : en_J (X_X7_arrange G q) 28 [en_R x0, l1, l2, l3] [] σ ↔ en_J (X_X7_arrange G q) 29 [en_R x0, l1, l2, l3] [en_R x0] σ := en_j1 d_X7_arrange_28 rfl rfl
theorem d_X7_arrange_29 : decode cX7_arrange 29 = .ok (.getfield 13, 3) := by decide +kernel
theorem j_X7_arrange_29 {G : en_G} {q : Option en_V → en_S → Prop}  {l0 l1 l2 l3 : en_V} {a0 : Option Nat} {σ : en_S} : en_J (X_X7_arrange G q) 29 [l0, l1, l2, l3] [en_R a0] σ ↔ ∃ a, a0 = some a ∧ en_cl σ a = some 7 ∧ en_J (X_X7_arrange G q) 32 [l0, l1, l2, l3] [en_R (en_fr σ 702 a)] σ := en_jg (st := fun o => [en_R o]) (st' := fun a => [en_R (en_fr σ 702 a)]) (σ' := fun _ => σ) d_X7_arrange_29 rfl (fun a => rfl) (fun a => ⟨fun h => h.2, fun h => ⟨rfl, h⟩⟩)
theorem d_X7_arrange_32 : decode cX7_arrange 32 = .ok (.iload_n 2, 1) := by decide +kernel
theorem j_X7_arrange_32 {G : en_G} {q : Option en_V → en_S → Prop}  {l0 l1 l3 : en_V} {a0 : Option Nat} {x2 : Int32} {σ : en_S} : en_J (X_X7_arrange G q) 32 [l0, l1, en_I x2, l3] [en_R a0] σ ↔ en_J (X_X7_arrange G q) 33 [l0, l1, en_I x2, l3] [en_I x2, en_R a0] σ := en_j1 d_X7_arrange_32 rfl rfl
theorem d_X7_arrange_33 : decode cX7_arrange 33 = .ok (.iaload, 1) := by decide +kernel
theorem j_X7_arrange_33 {G : en_G} {q : Option en_V → en_S → Prop}  {l0 l1 l2 l3 : en_V} {a0 : Int32} {a1 : Option Nat} {σ : en_S} : en_J (X_X7_arrange G q) 33 [l0, l1, l2, l3] [en_I a0, en_R a1] σ ↔ ∃ a, a1 = some a ∧ (∃ k, en_al σ a = some (0, k) ∧ vp_in a0 k) ∧ en_J (X_X7_arrange G q) 34 [l0, l1, l2, l3] [en_I (en_ai σ a a0.toNatClampNeg)] σ := ej_iaload d_X7_arrange_33 rfl
theorem d_X7_arrange_34 : decode cX7_arrange 34 = .ok (.iconst 4, 1) := by decide +kernel
theorem j_X7_arrange_34 {G : en_G} {q : Option en_V → en_S → Prop}  {l0 l1 l2 l3 : en_V} {a0 : Int32} {σ : en_S} : en_J (X_X7_arrange G q) 34 [l0, l1, l2, l3] [en_I a0] σ ↔ en_J (X_X7_arrange G q) 35 [l0, l1, l2, l3] [en_I 4, en_I a0] σ := ej_iconst d_X7_arrange_34 (by decide +kernel)
theorem d_X7_arrange_35 : decode cX7_arrange 35 = .ok (.if_icmp .eq 23, 3) := by decide +kernel
theorem j_X7_arrange_35 {G : en_G} {q : Option en_V → en_S → Prop}  {l0 l1 l2 l3 : en_V} {a0 : Int32} {a1 : Int32} {σ : en_S} : en_J (X_X7_arrange G q) 35 [l0, l1, l2, l3] [en_I a0, en_I a1] σ ↔ (a1 = a0 → en_J (X_X7_arrange G q) 58 [l0, l1, l2, l3] [] σ) ∧ (¬ (a1 = a0) → en_J (X_X7_arrange G q) 38 [l0, l1, l2, l3] [] σ) := en_jb d_X7_arrange_35 rfl ⟨rfl, by decide⟩
theorem d_X7_arrange_38 : decode cX7_arrange 38 = .ok (.aload_n 0, 1) := by decide +kernel
theorem j_X7_arrange_38 {G : en_G} {q : Option en_V → en_S → Prop}  {l1 l2 l3 : en_V} {x0 : Option Nat} {σ : en_S} : en_J (X_X7_arrange G q) 38 [en_R x0, l1, l2, l3] [] σ ↔ en_J (X_X7_arrange G q) 39 [en_R x0, l1, l2, l3] [en_R x0] σ := en_j1 d_X7_arrange_38 rfl rfl
theorem d_X7_arrange_39 : decode cX7_arrange 39 = .ok (.getfield 85, 3) := by decide +kernel
theorem j_X7_arrange_39 {G : en_G} {q : Option en_V → en_S → Prop}  {l0 l1 l2 l3 : en_V} {a0 : Option Nat} {σ : en_S} : en_J (X_X7_arrange G q) 39 [l0, l1, l2, l3] [en_R a0] σ ↔ ∃ a, a0 = some a ∧ en_cl σ a = some 7 ∧ en_J (X_X7_arrange G q) 42 [l0, l1, l2, l3] [en_R (en_fr σ 726 a)] σ := en_jg (st := fun o => [en_R o]) (st' := fun a => [en_R (en_fr σ 726 a)]) (σ' := fun _ => σ) d_X7_arrange_39 rfl (fun a => rfl) (fun a => ⟨fun h => h.2, fun h => ⟨rfl, h⟩⟩)
theorem d_X7_arrange_42 : decode cX7_arrange 42 = .ok (.aload_n 0, 1) := by decide +kernel
theorem j_X7_arrange_42 {G : en_G} {q : Option en_V → en_S → Prop}  {l1 l2 l3 : en_V} {a0 : Option Nat} {x0 : Option Nat} {σ : en_S} : en_J (X_X7_arrange G q) 42 [en_R x0, l1, l2, l3] [en_R a0] σ ↔ en_J (X_X7_arrange G q) 43 [en_R x0, l1, l2, l3] [en_R x0, en_R a0] σ := en_j1 d_X7_arrange_42 rfl rfl
theorem d_X7_arrange_43 : decode cX7_arrange 43 = .ok (.getfield 265, 3) := by decide +kernel
theorem j_X7_arrange_43 {G : en_G} {q : Option en_V → en_S → Prop}  {l0 l1 l2 l3 : en_V} {a0 : Option Nat} {a1 : Option Nat} {σ : en_S} : en_J (X_X7_arrange G q) 43 [l0, l1, l2, l3] [en_R a0, en_R a1] σ ↔ ∃ a, a0 = some a ∧ en_cl σ a = some 7 ∧ en_J (X_X7_arrange G q) 46 [l0, l1, l2, l3] [en_I (en_fi σ 727 a), en_R a1] σ := en_jg (st := fun o => [en_R o, en_R a1]) (st' := fun a => [en_I (en_fi σ 727 a), en_R a1]) (σ' := fun _ => σ) d_X7_arrange_43 rfl (fun a => rfl) (fun a => ⟨fun h => h.2, fun h => ⟨rfl, h⟩⟩)
theorem d_X7_arrange_46 : decode cX7_arrange 46 = .ok (.iload_n 2, 1) := by decide +kernel
theorem j_X7_arrange_46 {G : en_G} {q : Option en_V → en_S → Prop}  {l0 l1 l3 : en_V} {a0 : Int32} {a1 : Option Nat} {x2 : Int32} {σ : en_S} : en_J (X_X7_arrange G q) 46 [l0, l1, en_I x2, l3] [en_I a0, en_R a1] σ ↔ en_J (X_X7_arrange G q) 47 [l0, l1, en_I x2, l3] [en_I x2, en_I a0, en_R a1] σ := en_j1 d_X7_arrange_46 rfl rfl
theorem d_X7_arrange_47 : decode cX7_arrange 47 = .ok (.iastore, 1) := by decide +kernel
theorem j_X7_arrange_47 {G : en_G} {q : Option en_V → en_S → Prop}  {l0 l1 l2 l3 : en_V} {a0 : Int32} {a1 : Int32} {a2 : Option Nat} {σ : en_S} : en_J (X_X7_arrange G q) 47 [l0, l1, l2, l3] [en_I a0, en_I a1, en_R a2] σ ↔ ∃ a, a2 = some a ∧ (∃ k, en_al σ a = some (0, k) ∧ vp_in a1 k) ∧ en_J (X_X7_arrange G q) 48 [l0, l1, l2, l3] [] (en_sai σ a a1.toNatClampNeg a0) := ej_iastore d_X7_arrange_47
theorem d_X7_arrange_48 : decode cX7_arrange 48 = .ok (.aload_n 0, 1) := by decide +kernel
theorem j_X7_arrange_48 {G : en_G} {q : Option en_V → en_S → Prop}  {l1 l2 l3 : en_V} {x0 : Option Nat} {σ : en_S} : en_J (X_X7_arrange G q) 48 [en_R x0, l1, l2, l3] [] σ ↔ en_J (X_X7_arrange G q) 49 [en_R x0, l1, l2, l3] [en_R x0] σ := en_j1 d_X7_arrange_48 rfl rfl
theorem d_X7_arrange_49 : decode cX7_arrange 49 = .ok (.dup, 1) := by decide +kernel
theorem j_X7_arrange_49 {G : en_G} {q : Option en_V → en_S → Prop}  {l0 l1 l2 l3 : en_V} {a0 : Option Nat} {σ : en_S} : en_J (X_X7_arrange G q) 49 [l0, l1, l2, l3] [en_R a0] σ ↔ en_J (X_X7_arrange G q) 50 [l0, l1, l2, l3] [en_R a0, en_R a0] σ := en_j1 d_X7_arrange_49 rfl rfl
theorem d_X7_arrange_50 : decode cX7_arrange 50 = .ok (.getfield 265, 3) := by decide +kernel
theorem j_X7_arrange_50 {G : en_G} {q : Option en_V → en_S → Prop}  {l0 l1 l2 l3 : en_V} {a0 : Option Nat} {a1 : Option Nat} {σ : en_S} : en_J (X_X7_arrange G q) 50 [l0, l1, l2, l3] [en_R a0, en_R a1] σ ↔ ∃ a, a0 = some a ∧ en_cl σ a = some 7 ∧ en_J (X_X7_arrange G q) 53 [l0, l1, l2, l3] [en_I (en_fi σ 727 a), en_R a1] σ := en_jg (st := fun o => [en_R o, en_R a1]) (st' := fun a => [en_I (en_fi σ 727 a), en_R a1]) (σ' := fun _ => σ) d_X7_arrange_50 rfl (fun a => rfl) (fun a => ⟨fun h => h.2, fun h => ⟨rfl, h⟩⟩)
theorem d_X7_arrange_53 : decode cX7_arrange 53 = .ok (.iconst 1, 1) := by decide +kernel
theorem j_X7_arrange_53 {G : en_G} {q : Option en_V → en_S → Prop}  {l0 l1 l2 l3 : en_V} {a0 : Int32} {a1 : Option Nat} {σ : en_S} : en_J (X_X7_arrange G q) 53 [l0, l1, l2, l3] [en_I a0, en_R a1] σ ↔ en_J (X_X7_arrange G q) 54 [l0, l1, l2, l3] [en_I 1, en_I a0, en_R a1] σ := ej_iconst d_X7_arrange_53 (by decide +kernel)
theorem d_X7_arrange_54 : decode cX7_arrange 54 = .ok (.iadd, 1) := by decide +kernel
theorem j_X7_arrange_54 {G : en_G} {q : Option en_V → en_S → Prop}  {l0 l1 l2 l3 : en_V} {a0 : Int32} {a1 : Int32} {a2 : Option Nat} {σ : en_S} : en_J (X_X7_arrange G q) 54 [l0, l1, l2, l3] [en_I a0, en_I a1, en_R a2] σ ↔ en_J (X_X7_arrange G q) 55 [l0, l1, l2, l3] [en_I (a1 + a0), en_R a2] σ := en_j1 d_X7_arrange_54 rfl ⟨rfl, trivial⟩
theorem d_X7_arrange_55 : decode cX7_arrange 55 = .ok (.putfield 265, 3) := by decide +kernel
theorem j_X7_arrange_55 {G : en_G} {q : Option en_V → en_S → Prop}  {l0 l1 l2 l3 : en_V} {a0 : Int32} {a1 : Option Nat} {σ : en_S} : en_J (X_X7_arrange G q) 55 [l0, l1, l2, l3] [en_I a0, en_R a1] σ ↔ ∃ a, a1 = some a ∧ en_cl σ a = some 7 ∧ en_J (X_X7_arrange G q) 58 [l0, l1, l2, l3] [] (en_sfi σ 727 a a0) := en_jg (st := fun o => [en_I a0, en_R o]) (st' := fun _ => []) (σ' := fun a => en_sfi σ 727 a a0) d_X7_arrange_55 rfl (fun a => rfl) (fun a => ⟨fun h => h.2.1, fun h => ⟨rfl, h, trivial, fun z => absurd z (by decide +kernel)⟩⟩)
theorem d_X7_arrange_58 : decode cX7_arrange 58 = .ok (.aload_n 0, 1) := by decide +kernel
theorem j_X7_arrange_58 {G : en_G} {q : Option en_V → en_S → Prop}  {l1 l2 l3 : en_V} {x0 : Option Nat} {σ : en_S} : en_J (X_X7_arrange G q) 58 [en_R x0, l1, l2, l3] [] σ ↔ en_J (X_X7_arrange G q) 59 [en_R x0, l1, l2, l3] [en_R x0] σ := en_j1 d_X7_arrange_58 rfl rfl
theorem d_X7_arrange_59 : decode cX7_arrange 59 = .ok (.getfield 33, 3) := by decide +kernel
theorem j_X7_arrange_59 {G : en_G} {q : Option en_V → en_S → Prop}  {l0 l1 l2 l3 : en_V} {a0 : Option Nat} {σ : en_S} : en_J (X_X7_arrange G q) 59 [l0, l1, l2, l3] [en_R a0] σ ↔ ∃ a, a0 = some a ∧ en_cl σ a = some 7 ∧ en_J (X_X7_arrange G q) 62 [l0, l1, l2, l3] [en_R (en_fr σ 708 a)] σ := en_jg (st := fun o => [en_R o]) (st' := fun a => [en_R (en_fr σ 708 a)]) (σ' := fun _ => σ) d_X7_arrange_59 rfl (fun a => rfl) (fun a => ⟨fun h => h.2, fun h => ⟨rfl, h⟩⟩)
theorem d_X7_arrange_62 : decode cX7_arrange 62 = .ok (.iload_n 2, 1) := by decide +kernel
theorem j_X7_arrange_62 {G : en_G} {q : Option en_V → en_S → Prop}  {l0 l1 l3 : en_V} {a0 : Option Nat} {x2 : Int32} {σ : en_S} : en_J (X_X7_arrange G q) 62 [l0, l1, en_I x2, l3] [en_R a0] σ ↔ en_J (X_X7_arrange G q) 63 [l0, l1, en_I x2, l3] [en_I x2, en_R a0] σ := en_j1 d_X7_arrange_62 rfl rfl
theorem d_X7_arrange_63 : decode cX7_arrange 63 = .ok (.iaload, 1) := by decide +kernel
theorem j_X7_arrange_63 {G : en_G} {q : Option en_V → en_S → Prop}  {l0 l1 l2 l3 : en_V} {a0 : Int32} {a1 : Option Nat} {σ : en_S} : en_J (X_X7_arrange G q) 63 [l0, l1, l2, l3] [en_I a0, en_R a1] σ ↔ ∃ a, a1 = some a ∧ (∃ k, en_al σ a = some (0, k) ∧ vp_in a0 k) ∧ en_J (X_X7_arrange G q) 64 [l0, l1, l2, l3] [en_I (en_ai σ a a0.toNatClampNeg)] σ := ej_iaload d_X7_arrange_63 rfl
theorem d_X7_arrange_64 : decode cX7_arrange 64 = .ok (.iconst 1, 1) := by decide +kernel
theorem j_X7_arrange_64 {G : en_G} {q : Option en_V → en_S → Prop}  {l0 l1 l2 l3 : en_V} {a0 : Int32} {σ : en_S} : en_J (X_X7_arrange G q) 64 [l0, l1, l2, l3] [en_I a0] σ ↔ en_J (X_X7_arrange G q) 65 [l0, l1, l2, l3] [en_I 1, en_I a0] σ := ej_iconst d_X7_arrange_64 (by decide +kernel)
theorem d_X7_arrange_65 : decode cX7_arrange 65 = .ok (.isub, 1) := by decide +kernel
theorem j_X7_arrange_65 {G : en_G} {q : Option en_V → en_S → Prop}  {l0 l1 l2 l3 : en_V} {a0 : Int32} {a1 : Int32} {σ : en_S} : en_J (X_X7_arrange G q) 65 [l0, l1, l2, l3] [en_I a0, en_I a1] σ ↔ en_J (X_X7_arrange G q) 66 [l0, l1, l2, l3] [en_I (a1 - a0)] σ := en_j1 d_X7_arrange_65 rfl ⟨rfl, trivial⟩
theorem d_X7_arrange_66 : decode cX7_arrange 66 = .ok (.istore_n 3, 1) := by decide +kernel
theorem j_X7_arrange_66 {G : en_G} {q : Option en_V → en_S → Prop}  {l0 l1 l2 l3 : en_V} {a0 : Int32} {σ : en_S} : en_J (X_X7_arrange G q) 66 [l0, l1, l2, l3] [en_I a0] σ ↔ en_J (X_X7_arrange G q) 67 [l0, l1, en_c2 l2, en_I a0] [] σ := en_j1 d_X7_arrange_66 rfl ⟨rfl, Nat.le_of_ble_eq_true rfl⟩
theorem d_X7_arrange_67 : decode cX7_arrange 67 = .ok (.iload_n 3, 1) := by decide +kernel
theorem j_X7_arrange_67 {G : en_G} {q : Option en_V → en_S → Prop}  {l0 l1 l2 : en_V} {x3 : Int32} {σ : en_S} : en_J (X_X7_arrange G q) 67 [l0, l1, l2, en_I x3] [] σ ↔ en_J (X_X7_arrange G q) 68 [l0, l1, l2, en_I x3] [en_I x3] σ := en_j1 d_X7_arrange_67 rfl rfl
theorem d_X7_arrange_68 : decode cX7_arrange 68 = .ok (.ifCond .lt 29, 3) := by decide +kernel
theorem j_X7_arrange_68 {G : en_G} {q : Option en_V → en_S → Prop}  {l0 l1 l2 l3 : en_V} {a0 : Int32} {σ : en_S} : en_J (X_X7_arrange G q) 68 [l0, l1, l2, l3] [en_I a0] σ ↔ (a0 < 0 → en_J (X_X7_arrange G q) 97 [l0, l1, l2, l3] [] σ) ∧ (¬ (a0 < 0) → en_J (X_X7_arrange G q) 71 [l0, l1, l2, l3] [] σ) := en_jb d_X7_arrange_68 rfl ⟨rfl, by decide⟩
theorem d_X7_arrange_71 : decode cX7_arrange 71 = .ok (.aload_n 0, 1) := by decide +kernel
theorem j_X7_arrange_71 {G : en_G} {q : Option en_V → en_S → Prop}  {l1 l2 l3 : en_V} {x0 : Option Nat} {σ : en_S} : en_J (X_X7_arrange G q) 71 [en_R x0, l1, l2, l3] [] σ ↔ en_J (X_X7_arrange G q) 72 [en_R x0, l1, l2, l3] [en_R x0] σ := en_j1 d_X7_arrange_71 rfl rfl
theorem d_X7_arrange_72 : decode cX7_arrange 72 = .ok (.getfield 88, 3) := by decide +kernel
theorem j_X7_arrange_72 {G : en_G} {q : Option en_V → en_S → Prop}  {l0 l1 l2 l3 : en_V} {a0 : Option Nat} {σ : en_S} : en_J (X_X7_arrange G q) 72 [l0, l1, l2, l3] [en_R a0] σ ↔ ∃ a, a0 = some a ∧ en_cl σ a = some 7 ∧ en_J (X_X7_arrange G q) 75 [l0, l1, l2, l3] [en_R (en_fr σ 728 a)] σ := en_jg (st := fun o => [en_R o]) (st' := fun a => [en_R (en_fr σ 728 a)]) (σ' := fun _ => σ) d_X7_arrange_72 rfl (fun a => rfl) (fun a => ⟨fun h => h.2, fun h => ⟨rfl, h⟩⟩)
theorem d_X7_arrange_75 : decode cX7_arrange 75 = .ok (.iload_n 1, 1) := by decide +kernel
theorem j_X7_arrange_75 {G : en_G} {q : Option en_V → en_S → Prop}  {l0 l2 l3 : en_V} {a0 : Option Nat} {x1 : Int32} {σ : en_S} : en_J (X_X7_arrange G q) 75 [l0, en_I x1, l2, l3] [en_R a0] σ ↔ en_J (X_X7_arrange G q) 76 [l0, en_I x1, l2, l3] [en_I x1, en_R a0] σ := en_j1 d_X7_arrange_75 rfl rfl
theorem d_X7_arrange_76 : decode cX7_arrange 76 = .ok (.aload_n 0, 1) := by decide +kernel
theorem j_X7_arrange_76 {G : en_G} {q : Option en_V → en_S → Prop}  {l1 l2 l3 : en_V} {a0 : Int32} {a1 : Option Nat} {x0 : Option Nat} {σ : en_S} : en_J (X_X7_arrange G q) 76 [en_R x0, l1, l2, l3] [en_I a0, en_R a1] σ ↔ en_J (X_X7_arrange G q) 77 [en_R x0, l1, l2, l3] [en_R x0, en_I a0, en_R a1] σ := en_j1 d_X7_arrange_76 rfl rfl
theorem d_X7_arrange_77 : decode cX7_arrange 77 = .ok (.getfield 36, 3) := by decide +kernel
theorem j_X7_arrange_77 {G : en_G} {q : Option en_V → en_S → Prop}  {l0 l1 l2 l3 : en_V} {a0 : Option Nat} {a1 : Int32} {a2 : Option Nat} {σ : en_S} : en_J (X_X7_arrange G q) 77 [l0, l1, l2, l3] [en_R a0, en_I a1, en_R a2] σ ↔ ∃ a, a0 = some a ∧ en_cl σ a = some 7 ∧ en_J (X_X7_arrange G q) 80 [l0, l1, l2, l3] [en_R (en_fr σ 709 a), en_I a1, en_R a2] σ := en_jg (st := fun o => [en_R o, en_I a1, en_R a2]) (st' := fun a => [en_R (en_fr σ 709 a), en_I a1, en_R a2]) (σ' := fun _ => σ) d_X7_arrange_77 rfl (fun a => rfl) (fun a => ⟨fun h => h.2, fun h => ⟨rfl, h⟩⟩)
theorem d_X7_arrange_80 : decode cX7_arrange 80 = .ok (.bipush 24, 2) := by decide +kernel
theorem j_X7_arrange_80 {G : en_G} {q : Option en_V → en_S → Prop}  {l0 l1 l2 l3 : en_V} {a0 : Option Nat} {a1 : Int32} {a2 : Option Nat} {σ : en_S} : en_J (X_X7_arrange G q) 80 [l0, l1, l2, l3] [en_R a0, en_I a1, en_R a2] σ ↔ en_J (X_X7_arrange G q) 82 [l0, l1, l2, l3] [en_I 24, en_R a0, en_I a1, en_R a2] σ := ej_bipush d_X7_arrange_80 (by decide +kernel)
theorem d_X7_arrange_82 : decode cX7_arrange 82 = .ok (.iload_n 2, 1) := by decide +kernel
theorem j_X7_arrange_82 {G : en_G} {q : Option en_V → en_S → Prop}  {l0 l1 l3 : en_V} {a0 : Int32} {a1 : Option Nat} {a2 : Int32} {a3 : Option Nat} {x2 : Int32} {σ : en_S} : en_J (X_X7_arrange G q) 82 [l0, l1, en_I x2, l3] [en_I a0, en_R a1, en_I a2, en_R a3] σ ↔ en_J (X_X7_arrange G q) 83 [l0, l1, en_I x2, l3] [en_I x2, en_I a0, en_R a1, en_I a2, en_R a3] σ := en_j1 d_X7_arrange_82 rfl rfl
theorem d_X7_arrange_83 : decode cX7_arrange 83 = .ok (.imul, 1) := by decide +kernel
theorem j_X7_arrange_83 {G : en_G} {q : Option en_V → en_S → Prop}  {l0 l1 l2 l3 : en_V} {a0 : Int32} {a1 : Int32} {a2 : Option Nat} {a3 : Int32} {a4 : Option Nat} {σ : en_S} : en_J (X_X7_arrange G q) 83 [l0, l1, l2, l3] [en_I a0, en_I a1, en_R a2, en_I a3, en_R a4] σ ↔ en_J (X_X7_arrange G q) 84 [l0, l1, l2, l3] [en_I (a1 * a0), en_R a2, en_I a3, en_R a4] σ := en_j1 d_X7_arrange_83 rfl ⟨rfl, trivial⟩
theorem d_X7_arrange_84 : decode cX7_arrange 84 = .ok (.iload_n 3, 1) := by decide +kernel
theorem j_X7_arrange_84 {G : en_G} {q : Option en_V → en_S → Prop}  {l0 l1 l2 : en_V} {a0 : Int32} {a1 : Option Nat} {a2 : Int32} {a3 : Option Nat} {x3 : Int32} {σ : en_S} : en_J (X_X7_arrange G q) 84 [l0, l1, l2, en_I x3] [en_I a0, en_R a1, en_I a2, en_R a3] σ ↔ en_J (X_X7_arrange G q) 85 [l0, l1, l2, en_I x3] [en_I x3, en_I a0, en_R a1, en_I a2, en_R a3] σ := en_j1 d_X7_arrange_84 rfl rfl
theorem d_X7_arrange_85 : decode cX7_arrange 85 = .ok (.iadd, 1) := by decide +kernel
theorem j_X7_arrange_85 {G : en_G} {q : Option en_V → en_S → Prop}  {l0 l1 l2 l3 : en_V} {a0 : Int32} {a1 : Int32} {a2 : Option Nat} {a3 : Int32} {a4 : Option Nat} {σ : en_S} : en_J (X_X7_arrange G q) 85 [l0, l1, l2, l3] [en_I a0, en_I a1, en_R a2, en_I a3, en_R a4] σ ↔ en_J (X_X7_arrange G q) 86 [l0, l1, l2, l3] [en_I (a1 + a0), en_R a2, en_I a3, en_R a4] σ := en_j1 d_X7_arrange_85 rfl ⟨rfl, trivial⟩
theorem d_X7_arrange_86 : decode cX7_arrange 86 = .ok (.iaload, 1) := by decide +kernel
theorem j_X7_arrange_86 {G : en_G} {q : Option en_V → en_S → Prop}  {l0 l1 l2 l3 : en_V} {a0 : Int32} {a1 : Option Nat} {a2 : Int32} {a3 : Option Nat} {σ : en_S} : en_J (X_X7_arrange G q) 86 [l0, l1, l2, l3] [en_I a0, en_R a1, en_I a2, en_R a3] σ ↔ ∃ a, a1 = some a ∧ (∃ k, en_al σ a = some (0, k) ∧ vp_in a0 k) ∧ en_J (X_X7_arrange G q) 87 [l0, l1, l2, l3] [en_I (en_ai σ a a0.toNatClampNeg), en_I a2, en_R a3] σ := ej_iaload d_X7_arrange_86 rfl
theorem d_X7_arrange_87 : decode cX7_arrange 87 = .ok (.iastore, 1) := by decide +kernel
theorem j_X7_arrange_87 {G : en_G} {q : Option en_V → en_S → Prop}  {l0 l1 l2 l3 : en_V} {a0 : Int32} {a1 : Int32} {a2 : Option Nat} {σ : en_S} : en_J (X_X7_arrange G q) 87 [l0, l1, l2, l3] [en_I a0, en_I a1, en_R a2] σ ↔ ∃ a, a2 = some a ∧ (∃ k, en_al σ a = some (0, k) ∧ vp_in a1 k) ∧ en_J (X_X7_arrange G q) 88 [l0, l1, l2, l3] [] (en_sai σ a a1.toNatClampNeg a0) := ej_iastore d_X7_arrange_87
theorem d_X7_arrange_88 : decode cX7_arrange 88 = .ok (.iinc 1 1, 3) := by decide +kernel
theorem j_X7_arrange_88 {G : en_G} {q : Option en_V → en_S → Prop}  {l0 l2 l3 : en_V} {x1 : Int32} {σ : en_S} : en_J (X_X7_arrange G q) 88 [l0, en_I x1, l2, l3] [] σ ↔ en_J (X_X7_arrange G q) 91 [en_c2 l0, en_I (x1 + 1), l2, l3] [] σ := ej_iinc d_X7_arrange_88 rfl (by decide +kernel) rfl
theorem d_X7_arrange_91 : decode cX7_arrange 91 = .ok (.iinc 3 (-1), 3) := by decide +kernel
theorem j_X7_arrange_91 {G : en_G} {q : Option en_V → en_S → Prop}  {l0 l1 l2 : en_V} {x3 : Int32} {σ : en_S} : en_J (X_X7_arrange G q) 91 [l0, l1, l2, en_I x3] [] σ ↔ en_J (X_X7_arrange G q) 94 [l0, l1, en_c2 l2, en_I (x3 + (-1))] [] σ := ej_iinc d_X7_arrange_91 rfl (by decide +kernel) rfl
theorem d_X7_arrange_94 : decode cX7_arrange 94 = .ok (.goto (-27), 3) := by decide +kernel
theorem j_X7_arrange_94 {G : en_G} {q : Option en_V → en_S → Prop}  {l0 l1 l2 l3 : en_V}  {σ : en_S} : en_J (X_X7_arrange G q) 94 [l0, l1, l2, l3] [] σ ↔ en_J (X_X7_arrange G q) 67 [l0, l1, l2, l3] [] σ := en_j1 d_X7_arrange_94 rfl ⟨rfl, by decide⟩
theorem d_X7_arrange_97 : decode cX7_arrange 97 = .ok (.aload_n 0, 1) := by decide +kernel
theorem j_X7_arrange_97 {G : en_G} {q : Option en_V → en_S → Prop}  {l1 l2 l3 : en_V} {x0 : Option Nat} {σ : en_S} : en_J (X_X7_arrange G q) 97 [en_R x0, l1, l2, l3] [] σ ↔ en_J (X_X7_arrange G q) 98 [en_R x0, l1, l2, l3] [en_R x0] σ := en_j1 d_X7_arrange_97 rfl rfl
theorem d_X7_arrange_98 : decode cX7_arrange 98 = .ok (.getfield 23, 3) := by decide +kernel
theorem j_X7_arrange_98 {G : en_G} {q : Option en_V → en_S → Prop}  {l0 l1 l2 l3 : en_V} {a0 : Option Nat} {σ : en_S} : en_J (X_X7_arrange G q) 98 [l0, l1, l2, l3] [en_R a0] σ ↔ ∃ a, a0 = some a ∧ en_cl σ a = some 7 ∧ en_J (X_X7_arrange G q) 101 [l0, l1, l2, l3] [en_R (en_fr σ 705 a)] σ := en_jg (st := fun o => [en_R o]) (st' := fun a => [en_R (en_fr σ 705 a)]) (σ' := fun _ => σ) d_X7_arrange_98 rfl (fun a => rfl) (fun a => ⟨fun h => h.2, fun h => ⟨rfl, h⟩⟩)
theorem d_X7_arrange_101 : decode cX7_arrange 101 = .ok (.iload_n 2, 1) := by decide +kernel
theorem j_X7_arrange_101 {G : en_G} {q : Option en_V → en_S → Prop}  {l0 l1 l3 : en_V} {a0 : Option Nat} {x2 : Int32} {σ : en_S} : en_J (X_X7_arrange G q) 101 [l0, l1, en_I x2, l3] [en_R a0] σ ↔ en_J (X_X7_arrange G q) 102 [l0, l1, en_I x2, l3] [en_I x2, en_R a0] σ := en_j1 d_X7_arrange_101 rfl rfl
theorem d_X7_arrange_102 : decode cX7_arrange 102 = .ok (.iaload, 1) := by decide +kernel
theorem j_X7_arrange_102 {G : en_G} {q : Option en_V → en_S → Prop}  {l0 l1 l2 l3 : en_V} {a0 : Int32} {a1 : Option Nat} {σ : en_S} : en_J (X_X7_arrange G q) 102 [l0, l1, l2, l3] [en_I a0, en_R a1] σ ↔ ∃ a, a1 = some a ∧ (∃ k, en_al σ a = some (0, k) ∧ vp_in a0 k) ∧ en_J (X_X7_arrange G q) 103 [l0, l1, l2, l3] [en_I (en_ai σ a a0.toNatClampNeg)] σ := ej_iaload d_X7_arrange_102 rfl
theorem d_X7_arrange_103 : decode cX7_arrange 103 = .ok (.ifCond .lt 18, 3) := by decide +kernel
theorem j_X7_arrange_103 {G : en_G} {q : Option en_V → en_S → Prop}  {l0 l1 l2 l3 : en_V} {a0 : Int32} {σ : en_S} : en_J (X_X7_arrange G q) 103 [l0, l1, l2, l3] [en_I a0] σ ↔ (a0 < 0 → en_J (X_X7_arrange G q) 121 [l0, l1, l2, l3] [] σ) ∧ (¬ (a0 < 0) → en_J (X_X7_arrange G q) 106 [l0, l1, l2, l3] [] σ) := en_jb d_X7_arrange_103 rfl ⟨rfl, by decide⟩
theorem d_X7_arrange_106 : decode cX7_arrange 106 = .ok (.aload_n 0, 1) := by decide +kernel
theorem j_X7_arrange_106 {G : en_G} {q : Option en_V → en_S → Prop}  {l1 l2 l3 : en_V} {x0 : Option Nat} {σ : en_S} : en_J (X_X7_arrange G q) 106 [en_R x0, l1, l2, l3] [] σ ↔ en_J (X_X7_arrange G q) 107 [en_R x0, l1, l2, l3] [en_R x0] σ := en_j1 d_X7_arrange_106 rfl rfl
theorem d_X7_arrange_107 : decode cX7_arrange 107 = .ok (.getfield 88, 3) := by decide +kernel
theorem j_X7_arrange_107 {G : en_G} {q : Option en_V → en_S → Prop}  {l0 l1 l2 l3 : en_V} {a0 : Option Nat} {σ : en_S} : en_J (X_X7_arrange G q) 107 [l0, l1, l2, l3] [en_R a0] σ ↔ ∃ a, a0 = some a ∧ en_cl σ a = some 7 ∧ en_J (X_X7_arrange G q) 110 [l0, l1, l2, l3] [en_R (en_fr σ 728 a)] σ := en_jg (st := fun o => [en_R o]) (st' := fun a => [en_R (en_fr σ 728 a)]) (σ' := fun _ => σ) d_X7_arrange_107 rfl (fun a => rfl) (fun a => ⟨fun h => h.2, fun h => ⟨rfl, h⟩⟩)
theorem d_X7_arrange_110 : decode cX7_arrange 110 = .ok (.iload_n 1, 1) := by decide +kernel
theorem j_X7_arrange_110 {G : en_G} {q : Option en_V → en_S → Prop}  {l0 l2 l3 : en_V} {a0 : Option Nat} {x1 : Int32} {σ : en_S} : en_J (X_X7_arrange G q) 110 [l0, en_I x1, l2, l3] [en_R a0] σ ↔ en_J (X_X7_arrange G q) 111 [l0, en_I x1, l2, l3] [en_I x1, en_R a0] σ := en_j1 d_X7_arrange_110 rfl rfl
theorem d_X7_arrange_111 : decode cX7_arrange 111 = .ok (.aload_n 0, 1) := by decide +kernel
theorem j_X7_arrange_111 {G : en_G} {q : Option en_V → en_S → Prop}  {l1 l2 l3 : en_V} {a0 : Int32} {a1 : Option Nat} {x0 : Option Nat} {σ : en_S} : en_J (X_X7_arrange G q) 111 [en_R x0, l1, l2, l3] [en_I a0, en_R a1] σ ↔ en_J (X_X7_arrange G q) 112 [en_R x0, l1, l2, l3] [en_R x0, en_I a0, en_R a1] σ := en_j1 d_X7_arrange_111 rfl rfl
theorem d_X7_arrange_112 : decode cX7_arrange 112 = .ok (.getfield 23, 3) := by decide +kernel
theorem j_X7_arrange_112 {G : en_G} {q : Option en_V → en_S → Prop}  {l0 l1 l2 l3 : en_V} {a0 : Option Nat} {a1 : Int32} {a2 : Option Nat} {σ : en_S} : en_J (X_X7_arrange G q) 112 [l0, l1, l2, l3] [en_R a0, en_I a1, en_R a2] σ ↔ ∃ a, a0 = some a ∧ en_cl σ a = some 7 ∧ en_J (X_X7_arrange G q) 115 [l0, l1, l2, l3] [en_R (en_fr σ 705 a), en_I a1, en_R a2] σ := en_jg (st := fun o => [en_R o, en_I a1, en_R a2]) (st' := fun a => [en_R (en_fr σ 705 a), en_I a1, en_R a2]) (σ' := fun _ => σ) d_X7_arrange_112 rfl (fun a => rfl) (fun a => ⟨fun h => h.2, fun h => ⟨rfl, h⟩⟩)
theorem d_X7_arrange_115 : decode cX7_arrange 115 = .ok (.iload_n 2, 1) := by decide +kernel
theorem j_X7_arrange_115 {G : en_G} {q : Option en_V → en_S → Prop}  {l0 l1 l3 : en_V} {a0 : Option Nat} {a1 : Int32} {a2 : Option Nat} {x2 : Int32} {σ : en_S} : en_J (X_X7_arrange G q) 115 [l0, l1, en_I x2, l3] [en_R a0, en_I a1, en_R a2] σ ↔ en_J (X_X7_arrange G q) 116 [l0, l1, en_I x2, l3] [en_I x2, en_R a0, en_I a1, en_R a2] σ := en_j1 d_X7_arrange_115 rfl rfl
theorem d_X7_arrange_116 : decode cX7_arrange 116 = .ok (.iaload, 1) := by decide +kernel
theorem j_X7_arrange_116 {G : en_G} {q : Option en_V → en_S → Prop}  {l0 l1 l2 l3 : en_V} {a0 : Int32} {a1 : Option Nat} {a2 : Int32} {a3 : Option Nat} {σ : en_S} : en_J (X_X7_arrange G q) 116 [l0, l1, l2, l3] [en_I a0, en_R a1, en_I a2, en_R a3] σ ↔ ∃ a, a1 = some a ∧ (∃ k, en_al σ a = some (0, k) ∧ vp_in a0 k) ∧ en_J (X_X7_arrange G q) 117 [l0, l1, l2, l3] [en_I (en_ai σ a a0.toNatClampNeg), en_I a2, en_R a3] σ := ej_iaload d_X7_arrange_116 rfl
theorem d_X7_arrange_117 : decode cX7_arrange 117 = .ok (.iastore, 1) := by decide +kernel
theorem j_X7_arrange_117 {G : en_G} {q : Option en_V → en_S → Prop}  {l0 l1 l2 l3 : en_V} {a0 : Int32} {a1 : Int32} {a2 : Option Nat} {σ : en_S} : en_J (X_X7_arrange G q) 117 [l0, l1, l2, l3] [en_I a0, en_I a1, en_R a2] σ ↔ ∃ a, a2 = some a ∧ (∃ k, en_al σ a = some (0, k) ∧ vp_in a1 k) ∧ en_J (X_X7_arrange G q) 118 [l0, l1, l2, l3] [] (en_sai σ a a1.toNatClampNeg a0) := ej_iastore d_X7_arrange_117
theorem d_X7_arrange_118 : decode cX7_arrange 118 = .ok (.iinc 1 1, 3) := by decide +kernel
theorem j_X7_arrange_118 {G : en_G} {q : Option en_V → en_S → Prop}  {l0 l2 l3 : en_V} {x1 : Int32} {σ : en_S} : en_J (X_X7_arrange G q) 118 [l0, en_I x1, l2, l3] [] σ ↔ en_J (X_X7_arrange G q) 121 [en_c2 l0, en_I (x1 + 1), l2, l3] [] σ := ej_iinc d_X7_arrange_118 rfl (by decide +kernel) rfl
theorem d_X7_arrange_121 : decode cX7_arrange 121 = .ok (.goto (-107), 3) := by decide +kernel
theorem j_X7_arrange_121 {G : en_G} {q : Option en_V → en_S → Prop}  {l0 l1 l2 l3 : en_V}  {σ : en_S} : en_J (X_X7_arrange G q) 121 [l0, l1, l2, l3] [] σ ↔ en_J (X_X7_arrange G q) 14 [l0, l1, l2, l3] [] σ := en_j1 d_X7_arrange_121 rfl ⟨rfl, by decide⟩
theorem d_X7_arrange_124 : decode cX7_arrange 124 = .ok (.return_, 1) := by decide +kernel
theorem j_X7_arrange_124 {G : en_G} {q : Option en_V → en_S → Prop}  {l0 l1 l2 l3 : en_V}  {σ : en_S} : en_J (X_X7_arrange G q) 124 [l0, l1, l2, l3] [] σ ↔ q none σ := en_jr d_X7_arrange_124 rfl ⟨fun h => h.2.2, fun h => ⟨rfl, rfl, h⟩⟩
theorem wc_X7_arrange : Jvm.Cond.code yX7_arrange cX7_arrange 4 none ∈ en_W := en_inW (List.mem_of_getElem? (i := 1021) (by decide +kernel)) (by decide +kernel)
theorem wi_X7_arrange : Jvm.Cond.instanceMethod yX7_arrange ∈ en_W := en_inW (List.mem_of_getElem? (i := 1020) (by decide +kernel)) (by decide +kernel)
theorem wx_X7_arrange : Jvm.Cond.selects RX7 yX7_arrange yX7_arrange ∈ en_W := en_inW (List.mem_of_getElem? (i := 37) (by decide +kernel)) (by decide +kernel)
theorem jk_X7_arrange {G : en_G} {q : Option en_V → en_S → Prop} {m : Nat} {A : st_A} {n : Nat} (hn : n < tr_N (sa_T A)) {P : List Nat} : ∀ (j : Nat) (σ : en_S), RX m A σ → j ≤ (tr_ch (sa_T A) n).length → P.length + (tr_ch (sa_T A) n).length ≤ 63 → wt m ((tr_ch (sa_T A) n).drop j ++ P) σ → (∀ σ', ag σ σ' TT (wV m) → sz σ σ' → RX m A σ' → wt m (tr_ch (sa_T A) n ++ P) σ' → en_J (X_X7_arrange G q) 97 [en_R (some m), en_I (nI (tr_ch (sa_T A) n ++ P).length), en_I (nI n), en_I (-1)] [] σ') → en_J (X_X7_arrange G q) 67 [en_R (some m), en_I (nI ((tr_ch (sa_T A) n).drop j ++ P).length), en_I (nI n), en_I (dn j)] [] σ := by
  intro j
  induction j with
  | zero =>
    intro σ hR _ _ hwt hq
    have z1 : (-1 : Int32) < 0 := by decide
    rw [List.drop_zero] at hwt ⊢
    have := hq σ ag.rf sz.rf hR hwt
    rw [j_X7_arrange_67]
    simp only [j_X7_arrange_0, j_X7_arrange_1, j_X7_arrange_2, j_X7_arrange_5, j_X7_arrange_6, j_X7_arrange_7, j_X7_arrange_8, j_X7_arrange_11, j_X7_arrange_12, j_X7_arrange_13, j_X7_arrange_14, j_X7_arrange_15, j_X7_arrange_18, j_X7_arrange_21, j_X7_arrange_22, j_X7_arrange_25, j_X7_arrange_26, j_X7_arrange_27, j_X7_arrange_28, j_X7_arrange_29, j_X7_arrange_32, j_X7_arrange_33, j_X7_arrange_34, j_X7_arrange_35, j_X7_arrange_38, j_X7_arrange_39, j_X7_arrange_42, j_X7_arrange_43, j_X7_arrange_46, j_X7_arrange_47, j_X7_arrange_48, j_X7_arrange_49, j_X7_arrange_50, j_X7_arrange_53, j_X7_arrange_54, j_X7_arrange_55, j_X7_arrange_58, j_X7_arrange_59, j_X7_arrange_62, j_X7_arrange_63, j_X7_arrange_64, j_X7_arrange_65, j_X7_arrange_66, j_X7_arrange_68, j_X7_arrange_71, j_X7_arrange_72, j_X7_arrange_75, j_X7_arrange_76, j_X7_arrange_77, j_X7_arrange_80, j_X7_arrange_82, j_X7_arrange_83, j_X7_arrange_84, j_X7_arrange_85, j_X7_arrange_86, j_X7_arrange_87, j_X7_arrange_88, j_X7_arrange_91, j_X7_arrange_94, j_X7_arrange_98, j_X7_arrange_101, j_X7_arrange_102, j_X7_arrange_103, j_X7_arrange_106, j_X7_arrange_107, j_X7_arrange_110, j_X7_arrange_111, j_X7_arrange_112, j_X7_arrange_115, j_X7_arrange_116, j_X7_arrange_117, j_X7_arrange_118, j_X7_arrange_121, j_X7_arrange_124, en_c2I, en_c2R, en_c2U, en_c2D, Option.some.injEq, exists_eq_left', exists_eq_left, Option.map_some, Option.map_none, not_true_eq_false, false_implies, true_implies, and_true, true_and, reduceCtorEq, not_false_eq_true, true_or, or_true, dn, z1]
    exact this
  | succ j ih =>
    intro σ hR hj hP hwt hq
    have hS := hR.1
    have hw := hR.2.2.2.2.2.2.2.2.2.1
    have hN := hw.1.2
    have hlen := tr_len hw hn
    have z1 : ¬ nI j < 0 := nI_pos (by omega)
    have hge : (tr_ch (sa_T A) n)[j]? = some (tr_ch (sa_T A) n)[j] := List.getElem?_eq_getElem (by omega)
    have r1 := (hR.2.1 n hn).2.2.2.2.2.2 j _ hge
    have hd : (tr_ch (sa_T A) n).drop j = (tr_ch (sa_T A) n)[j] :: (tr_ch (sa_T A) n).drop (j + 1) := List.drop_eq_getElem_cons (by omega)
    generalize hcd : (tr_ch (sa_T A) n)[j] = c at hge r1 hd
    have hl : ((tr_ch (sa_T A) n).drop (j + 1) ++ P).length = (tr_ch (sa_T A) n).length - (j + 1) + P.length := by rw [List.length_append, List.length_drop]
    have hl2 : ((tr_ch (sa_T A) n).drop j ++ P).length = ((tr_ch (sa_T A) n).drop (j + 1) ++ P).length + 1 := by rw [hd]; rfl
    have e1 := i24 n j
    have a3 : vp_in (nI (24 * n + j)) 576 := vp_in_nI (by omega) (by decide)
    have a4 : (nI (24 * n + j)).toNatClampNeg = 24 * n + j := nI_clamp (by omega)
    have g1 : ag σ (en_sai σ (m + 25) ((tr_ch (sa_T A) n).drop (j + 1) ++ P).length (nI c)) TT (wV m) := ag_sai (fun z => z rfl)
    have := ih (en_sai σ (m + 25) ((tr_ch (sa_T A) n).drop (j + 1) ++ P).length (nI c)) (rx_wait hR g1 ⟨rfl, rfl, rfl, rfl⟩) (by omega) hP (by rw [hd]; exact wt_push hwt c) (fun σ' g s => hq σ' (g1.tr g) (sz.tr ⟨rfl, rfl, rfl, rfl⟩ s))
    rw [hl2] at this
    have hdb : ((tr_ch (sa_T A) n).drop (j + 1) ++ P).length ≤ 63 := by omega
    generalize ((tr_ch (sa_T A) n).drop (j + 1) ++ P).length = d at this hdb ⊢
    have n3 : vp_in (nI d) 64 := vp_in_nI (by omega) (by decide)
    have n4 : (nI d).toNatClampNeg = d := nI_clamp (by omega)
    have e2 : nI d + 1 = nI (d + 1) := nI_1 _
    have e3 : nI j + (-1) = dn j := dn_m1 j
    rw [show dn (j + 1) = nI j from rfl, j_X7_arrange_67]
    simp only [j_X7_arrange_0, j_X7_arrange_1, j_X7_arrange_2, j_X7_arrange_5, j_X7_arrange_6, j_X7_arrange_7, j_X7_arrange_8, j_X7_arrange_11, j_X7_arrange_12, j_X7_arrange_13, j_X7_arrange_14, j_X7_arrange_15, j_X7_arrange_18, j_X7_arrange_21, j_X7_arrange_22, j_X7_arrange_25, j_X7_arrange_26, j_X7_arrange_27, j_X7_arrange_28, j_X7_arrange_29, j_X7_arrange_32, j_X7_arrange_33, j_X7_arrange_34, j_X7_arrange_35, j_X7_arrange_38, j_X7_arrange_39, j_X7_arrange_42, j_X7_arrange_43, j_X7_arrange_46, j_X7_arrange_47, j_X7_arrange_48, j_X7_arrange_49, j_X7_arrange_50, j_X7_arrange_53, j_X7_arrange_54, j_X7_arrange_55, j_X7_arrange_58, j_X7_arrange_59, j_X7_arrange_62, j_X7_arrange_63, j_X7_arrange_64, j_X7_arrange_65, j_X7_arrange_66, j_X7_arrange_68, j_X7_arrange_71, j_X7_arrange_72, j_X7_arrange_75, j_X7_arrange_76, j_X7_arrange_77, j_X7_arrange_80, j_X7_arrange_82, j_X7_arrange_83, j_X7_arrange_84, j_X7_arrange_85, j_X7_arrange_86, j_X7_arrange_87, j_X7_arrange_88, j_X7_arrange_91, j_X7_arrange_94, j_X7_arrange_98, j_X7_arrange_101, j_X7_arrange_102, j_X7_arrange_103, j_X7_arrange_106, j_X7_arrange_107, j_X7_arrange_110, j_X7_arrange_111, j_X7_arrange_112, j_X7_arrange_115, j_X7_arrange_116, j_X7_arrange_117, j_X7_arrange_118, j_X7_arrange_121, j_X7_arrange_124, en_c2I, en_c2R, en_c2U, en_c2D, Option.some.injEq, exists_eq_left', exists_eq_left, Option.map_some, Option.map_none, not_true_eq_false, false_implies, true_implies, and_true, true_and, reduceCtorEq, not_false_eq_true, true_or, or_true, eg_cl_sfi, eg_fi_sfi, eg_fr_sfi, eg_fd_sfi, eg_al_sfi, eg_ai_sfi, eg_ar_sfi, eg_ad_sfi, eg_aj_sfi, eg_nx_sfi, eg_ns_sfi, eg_cl_sfr, eg_fi_sfr, eg_fr_sfr, eg_fd_sfr, eg_al_sfr, eg_ai_sfr, eg_ar_sfr, eg_ad_sfr, eg_aj_sfr, eg_nx_sfr, eg_ns_sfr, eg_cl_sfd, eg_fi_sfd, eg_fr_sfd, eg_fd_sfd, eg_al_sfd, eg_ai_sfd, eg_ar_sfd, eg_ad_sfd, eg_aj_sfd, eg_nx_sfd, eg_ns_sfd, eg_cl_sai, eg_fi_sai, eg_fr_sai, eg_fd_sai, eg_al_sai, eg_ai_sai, eg_ar_sai, eg_ad_sai, eg_aj_sai, eg_nx_sai, eg_ns_sai, eg_cl_sar, eg_fi_sar, eg_fr_sar, eg_fd_sar, eg_al_sar, eg_ai_sar, eg_ar_sar, eg_ad_sar, eg_aj_sar, eg_nx_sar, eg_ns_sar, eg_cl_sad, eg_fi_sad, eg_fr_sad, eg_fd_sad, eg_al_sad, eg_ai_sad, eg_ar_sad, eg_ad_sad, eg_aj_sad, eg_nx_sad, eg_ns_sad, eg_cl_saj, eg_fi_saj, eg_fr_saj, eg_fd_saj, eg_al_saj, eg_ai_saj, eg_ar_saj, eg_ad_saj, eg_aj_saj, eg_nx_saj, eg_ns_saj, eg_cl_new, eg_fi_new, eg_fr_new, eg_fd_new, eg_al_new, eg_ai_new, eg_ar_new, eg_ad_new, eg_aj_new, eg_nx_new, eg_ns_new, eg_cl_newa, eg_fi_newa, eg_fr_newa, eg_fd_newa, eg_al_newa, eg_ai_newa, eg_ar_newa, eg_ad_newa, eg_aj_newa, eg_nx_newa, eg_ns_newa, eg_cl_bump, eg_fi_bump, eg_fr_bump, eg_fd_bump, eg_al_bump, eg_ai_bump, eg_ar_bump, eg_ad_bump, eg_aj_bump, eg_nx_bump, eg_ns_bump, rs_c hS, rs_f728 hS, rs_a25 hS, rs_f702 hS, rs_a1 hS, rs_f726 hS, rs_a24 hS, rs_f708 hS, rs_a7 hS, rs_f709 hS, rs_a8 hS, rs_f705 hS, rs_a4 hS, Prod.mk.injEq, z1, n3, n4, e1, a3, a4, r1, e2, e3]
    exact this
theorem jw_X7_arrange {G : en_G} {q : Option en_V → en_S → Prop} {m : Nat} {A : st_A} : ∀ (k : Nat) (P O : List Nat) (σ : en_S), RX m A σ → (P = [] ∨ ∃ n, n < tr_N (sa_T A) ∧ P = n :: od_pend (tr_up (sa_T A)) (tr_kp (sa_T A)) 24 n) → od_W (tr_up (sa_T A)) (tr_N (sa_T A)) P ≤ k → O.length + od_W (tr_up (sa_T A)) (tr_N (sa_T A)) P ≤ 24 → wt m P σ → od_l m O σ → (∀ σ', ag σ σ' aF (aV m) → sz σ σ' → RX m A σ' → od_l m (O ++ tv_e (sa_T A) (tv (sa_T A) k P.head?)) σ' → q none σ') → ∀ (l2 l3 : en_V), en_J (X_X7_arrange G q) 14 [en_R (some m), en_I (nI P.length), l2, l3] [] σ := by
  have hend : ∀ (O : List Nat) (σ : en_S) (k : Nat), RX m A σ → od_l m O σ → (∀ σ', ag σ σ' aF (aV m) → sz σ σ' → RX m A σ' → od_l m (O ++ tv_e (sa_T A) (tv (sa_T A) k none)) σ' → q none σ') → ∀ (l2 l3 : en_V), en_J (X_X7_arrange G q) 14 [en_R (some m), en_I (nI ([] : List Nat).length), l2, l3] [] σ := by
    intro O σ k hR hl hq l2 l3
    have z : (0 : Int32) ≤ 0 := by decide
    rw [show nI ([] : List Nat).length = 0 from by decide +kernel]
    have e : tv (sa_T A) k none = [] := by cases k <;> rfl
    rw [e] at hq
    have := hq σ ag.rf sz.rf hR (by show od_l m (O ++ []) σ; rw [List.append_nil]; exact hl)
    rw [j_X7_arrange_14]
    simp only [j_X7_arrange_0, j_X7_arrange_1, j_X7_arrange_2, j_X7_arrange_5, j_X7_arrange_6, j_X7_arrange_7, j_X7_arrange_8, j_X7_arrange_11, j_X7_arrange_12, j_X7_arrange_13, j_X7_arrange_15, j_X7_arrange_21, j_X7_arrange_22, j_X7_arrange_25, j_X7_arrange_26, j_X7_arrange_27, j_X7_arrange_28, j_X7_arrange_29, j_X7_arrange_32, j_X7_arrange_33, j_X7_arrange_34, j_X7_arrange_35, j_X7_arrange_38, j_X7_arrange_39, j_X7_arrange_42, j_X7_arrange_43, j_X7_arrange_46, j_X7_arrange_47, j_X7_arrange_48, j_X7_arrange_49, j_X7_arrange_50, j_X7_arrange_53, j_X7_arrange_54, j_X7_arrange_55, j_X7_arrange_58, j_X7_arrange_59, j_X7_arrange_62, j_X7_arrange_63, j_X7_arrange_64, j_X7_arrange_65, j_X7_arrange_66, j_X7_arrange_67, j_X7_arrange_68, j_X7_arrange_71, j_X7_arrange_72, j_X7_arrange_75, j_X7_arrange_76, j_X7_arrange_77, j_X7_arrange_80, j_X7_arrange_82, j_X7_arrange_83, j_X7_arrange_84, j_X7_arrange_85, j_X7_arrange_86, j_X7_arrange_87, j_X7_arrange_88, j_X7_arrange_91, j_X7_arrange_94, j_X7_arrange_97, j_X7_arrange_98, j_X7_arrange_101, j_X7_arrange_102, j_X7_arrange_103, j_X7_arrange_106, j_X7_arrange_107, j_X7_arrange_110, j_X7_arrange_111, j_X7_arrange_112, j_X7_arrange_115, j_X7_arrange_116, j_X7_arrange_117, j_X7_arrange_118, j_X7_arrange_121, j_X7_arrange_124, en_c2I, en_c2R, en_c2U, en_c2D, Option.some.injEq, exists_eq_left', exists_eq_left, Option.map_some, Option.map_none, not_true_eq_false, false_implies, true_implies, and_true, true_and, reduceCtorEq, not_false_eq_true, true_or, or_true, z]
    exact this
  intro k
  induction k with
  | zero =>
    intro P O σ hR hP hW hO hwt hl hq l2 l3
    have hw := hR.2.2.2.2.2.2.2.2.2.1
    rcases hP with rfl | ⟨n, hn, rfl⟩
    · exact hend O σ 0 hR hl hq l2 l3
    · rw [od_W_cons] at hW
      have := od_w_pos (od_okU hw) hn
      omega
  | succ k ih =>
    intro P O σ hR hP hW hO hwt hl hq l2 l3
    have hw := hR.2.2.2.2.2.2.2.2.2.1
    have hN := hw.1.2
    have hS := hR.1
    rcases hP with rfl | ⟨n, hn, rfl⟩
    · exact hend O σ (k + 1) hR hl hq l2 l3
    · generalize hPd : od_pend (tr_up (sa_T A)) (tr_kp (sa_T A)) 24 n = P at *
      have hPlt : ∀ c ∈ P, c < tr_N (sa_T A) := by rw [← hPd]; exact od_pend_lt hw 24 n hn
      have hWs : od_W (tr_up (sa_T A)) (tr_N (sa_T A)) (n :: P) = 1 + od_W (tr_up (sa_T A)) (tr_N (sa_T A)) (tr_kp (sa_T A) n ++ P) := by
        rw [od_W_cons, od_split (od_okU hw) hn, od_W_app]; omega
      have hlen2 : (tr_kp (sa_T A) n ++ P).length ≤ 23 := by
        have := od_len hw (tr_kp (sa_T A) n ++ P) (fun c hc => by
          rcases List.mem_append.mp hc with z | z
          · exact od_kp_lt hw hn c z
          · exact hPlt c z)
        omega
      have hkpl : (tr_kp (sa_T A) n ++ P).length = (tr_sh (sa_T A) n).toList.length + (tr_ch (sa_T A) n).length + P.length := by
        unfold tr_kp
        rw [List.length_append, List.length_append]
      have hnext : tr_kp (sa_T A) n ++ P = [] ∨ ∃ c, c < tr_N (sa_T A) ∧ tr_kp (sa_T A) n ++ P = c :: od_pend (tr_up (sa_T A)) (tr_kp (sa_T A)) 24 c := by
        cases hc : tr_kp (sa_T A) n ++ P with
        | nil => exact Or.inl rfl
        | cons c r =>
          obtain ⟨h1, h2⟩ := od_step (od_okU hw) hn (by rw [hPd]; exact hc)
          exact Or.inr ⟨c, h1, by rw [h2]⟩
      have hhead : tr_nso (sa_T A) n = (tr_kp (sa_T A) n ++ P).head? := by rw [← hPd]; exact od_nso hw hn
      obtain ⟨w1, w2⟩ := wt_pop hwt
      obtain ⟨r1, r2, r3, r4, r5, r6, r7⟩ := hR.2.1 n hn
      have n3 : vp_in (nI n) 24 := vp_in_nI (by omega) (by decide)
      have n4 : (nI n).toNatClampNeg = n := nI_clamp (by omega)
      have m3 : vp_in (nI P.length) 64 := vp_in_nI (by omega) (by decide)
      have m4 : (nI P.length).toNatClampNeg = P.length := nI_clamp (by omega)
      have z1 : ¬ nI (n :: P).length ≤ 0 := by
        rw [List.length_cons, show (0 : Int32) = nI 0 from by decide +kernel]
        exact nI_ge (by omega) (by omega)
      have e1 : nI (n :: P).length + (-1) = nI P.length := pk_m1 _
      -- from 58 on
      have tail : ∀ (O' : List Nat) (σ1 : en_S) (l3 : en_V), RX m A σ1 → wt m P σ1 → od_l m O' σ1 → O'.length + od_W (tr_up (sa_T A)) (tr_N (sa_T A)) (tr_kp (sa_T A) n ++ P) ≤ 24 → (∀ σ', ag σ1 σ' aF (aV m) → sz σ1 σ' → RX m A σ' → od_l m (O' ++ tv_e (sa_T A) (tv (sa_T A) k (tr_nso (sa_T A) n))) σ' → q none σ') → en_J (X_X7_arrange G q) 58 [en_R (some m), en_I (nI P.length), en_I (nI n), l3] [] σ1 := by
        intro O' σ1 l3 hR1 hwt1 hl1 hO1 hq1
        have hS1 := hR1.1
        have q6 := (hR1.2.1 n hn).2.2.2.2.2.1
        have hk := jk_X7_arrange (G := G) (q := q) (P := P) hn (tr_ch (sa_T A) n).length σ1 hR1 (Nat.le_refl _) (by omega) (by rw [List.drop_length]; exact hwt1) (fun σ2 g2 s2 hR2 hwt2 => by
          have hS2 := hR2.1
          have q4 := (hR2.2.1 n hn).2.2.2.1
          have hg2 : ag σ1 σ2 aF (aV m) := g2.mono (fun _ _ _ => trivial) (fun a z => z.2)
          have hl2 : od_l m O' σ2 := by
            unfold od_l
            have x := rs_nx hS1
            rw [((g2.2 (m + 24) (by omega)).2.2.2 (by unfold wV; omega)).1, ((g2.2 m (by omega)).2.2.1 727 trivial).1]
            exact hl1
          cases hs : tr_sh (sa_T A) n with
          | none =>
            rw [hs] at q4
            have hkp : tr_kp (sa_T A) n = tr_ch (sa_T A) n := by unfold tr_kp; rw [hs]; rfl
            rw [hkp] at hnext hhead hO1 hWs
            have := ih (tr_ch (sa_T A) n ++ P) O' σ2 hR2 hnext (by omega) hO1 hwt2 hl2 (fun σ' g s h1 h2 => hq1 σ' (hg2.tr g) (s2.tr s) h1 (by rw [hhead]; exact h2)) (en_I (nI n)) (en_I (-1))
            have z2 : (-1 : Int32) < 0 := by decide
            simp only [j_X7_arrange_0, j_X7_arrange_1, j_X7_arrange_2, j_X7_arrange_5, j_X7_arrange_6, j_X7_arrange_7, j_X7_arrange_8, j_X7_arrange_11, j_X7_arrange_12, j_X7_arrange_13, j_X7_arrange_15, j_X7_arrange_18, j_X7_arrange_21, j_X7_arrange_22, j_X7_arrange_25, j_X7_arrange_26, j_X7_arrange_27, j_X7_arrange_28, j_X7_arrange_29, j_X7_arrange_32, j_X7_arrange_33, j_X7_arrange_34, j_X7_arrange_35, j_X7_arrange_38, j_X7_arrange_39, j_X7_arrange_42, j_X7_arrange_43, j_X7_arrange_46, j_X7_arrange_47, j_X7_arrange_48, j_X7_arrange_49, j_X7_arrange_50, j_X7_arrange_53, j_X7_arrange_54, j_X7_arrange_55, j_X7_arrange_58, j_X7_arrange_59, j_X7_arrange_62, j_X7_arrange_63, j_X7_arrange_64, j_X7_arrange_65, j_X7_arrange_66, j_X7_arrange_68, j_X7_arrange_71, j_X7_arrange_72, j_X7_arrange_75, j_X7_arrange_76, j_X7_arrange_77, j_X7_arrange_80, j_X7_arrange_82, j_X7_arrange_83, j_X7_arrange_84, j_X7_arrange_85, j_X7_arrange_86, j_X7_arrange_87, j_X7_arrange_88, j_X7_arrange_91, j_X7_arrange_94, j_X7_arrange_97, j_X7_arrange_98, j_X7_arrange_101, j_X7_arrange_102, j_X7_arrange_103, j_X7_arrange_106, j_X7_arrange_107, j_X7_arrange_110, j_X7_arrange_111, j_X7_arrange_112, j_X7_arrange_115, j_X7_arrange_116, j_X7_arrange_117, j_X7_arrange_118, j_X7_arrange_121, j_X7_arrange_124, en_c2I, en_c2R, en_c2U, en_c2D, Option.some.injEq, exists_eq_left', exists_eq_left, Option.map_some, Option.map_none, not_true_eq_false, false_implies, true_implies, and_true, true_and, reduceCtorEq, not_false_eq_true, true_or, or_true, eg_cl_sfi, eg_fi_sfi, eg_fr_sfi, eg_fd_sfi, eg_al_sfi, eg_ai_sfi, eg_ar_sfi, eg_ad_sfi, eg_aj_sfi, eg_nx_sfi, eg_ns_sfi, eg_cl_sfr, eg_fi_sfr, eg_fr_sfr, eg_fd_sfr, eg_al_sfr, eg_ai_sfr, eg_ar_sfr, eg_ad_sfr, eg_aj_sfr, eg_nx_sfr, eg_ns_sfr, eg_cl_sfd, eg_fi_sfd, eg_fr_sfd, eg_fd_sfd, eg_al_sfd, eg_ai_sfd, eg_ar_sfd, eg_ad_sfd, eg_aj_sfd, eg_nx_sfd, eg_ns_sfd, eg_cl_sai, eg_fi_sai, eg_fr_sai, eg_fd_sai, eg_al_sai, eg_ai_sai, eg_ar_sai, eg_ad_sai, eg_aj_sai, eg_nx_sai, eg_ns_sai, eg_cl_sar, eg_fi_sar, eg_fr_sar, eg_fd_sar, eg_al_sar, eg_ai_sar, eg_ar_sar, eg_ad_sar, eg_aj_sar, eg_nx_sar, eg_ns_sar, eg_cl_sad, eg_fi_sad, eg_fr_sad, eg_fd_sad, eg_al_sad, eg_ai_sad, eg_ar_sad, eg_ad_sad, eg_aj_sad, eg_nx_sad, eg_ns_sad, eg_cl_saj, eg_fi_saj, eg_fr_saj, eg_fd_saj, eg_al_saj, eg_ai_saj, eg_ar_saj, eg_ad_saj, eg_aj_saj, eg_nx_saj, eg_ns_saj, eg_cl_new, eg_fi_new, eg_fr_new, eg_fd_new, eg_al_new, eg_ai_new, eg_ar_new, eg_ad_new, eg_aj_new, eg_nx_new, eg_ns_new, eg_cl_newa, eg_fi_newa, eg_fr_newa, eg_fd_newa, eg_al_newa, eg_ai_newa, eg_ar_newa, eg_ad_newa, eg_aj_newa, eg_nx_newa, eg_ns_newa, eg_cl_bump, eg_fi_bump, eg_fr_bump, eg_fd_bump, eg_al_bump, eg_ai_bump, eg_ar_bump, eg_ad_bump, eg_aj_bump, eg_nx_bump, eg_ns_bump, rs_c hS2, rs_f728 hS2, rs_a25 hS2, rs_f702 hS2, rs_a1 hS2, rs_f726 hS2, rs_a24 hS2, rs_f708 hS2, rs_a7 hS2, rs_f709 hS2, rs_a8 hS2, rs_f705 hS2, rs_a4 hS2, Prod.mk.injEq, n3, n4, q4, st_num_none, z2]
            exact this
          | some t =>
            rw [hs] at q4
            have ht := (hw.2.2.2.2.2.1 n t hn hs).1
            have hkp : tr_kp (sa_T A) n = t :: tr_ch (sa_T A) n := by unfold tr_kp; rw [hs]; rfl
            rw [hkp] at hnext hhead hO1 hWs hlen2
            have z2 : ¬ nI t < 0 := nI_pos (by omega)
            have hl3 : (tr_ch (sa_T A) n ++ P).length ≤ 23 := by
              rw [List.cons_append, List.length_cons] at hlen2; omega
            have b3 : vp_in (nI (tr_ch (sa_T A) n ++ P).length) 64 := vp_in_nI (by omega) (by decide)
            have b4 : (nI (tr_ch (sa_T A) n ++ P).length).toNatClampNeg = (tr_ch (sa_T A) n ++ P).length := nI_clamp (by omega)
            have e3 : nI (tr_ch (sa_T A) n ++ P).length + 1 = nI (t :: tr_ch (sa_T A) n ++ P).length := nI_1 _
            have g3 : ag σ2 (en_sai σ2 (m + 25) (tr_ch (sa_T A) n ++ P).length (nI t)) aF (aV m) := ag_sai (fun z => z.2 rfl)
            have := ih (t :: tr_ch (sa_T A) n ++ P) O' (en_sai σ2 (m + 25) (tr_ch (sa_T A) n ++ P).length (nI t)) (rx_arr hR2 g3 ⟨rfl, rfl, rfl, rfl⟩) hnext (by omega) hO1 (wt_push hwt2 t) ⟨by rw [eg_fi_sai]; exact hl2.1, fun i c hi => by rw [eg_ai_sai, if_neg (by omega)]; exact hl2.2 i c hi⟩ (fun σ' g s h1 h2 => hq1 σ' ((hg2.tr g3).tr g) (sz.tr s2 (sz.tr ⟨rfl, rfl, rfl, rfl⟩ s)) h1 (by rw [hhead]; exact h2)) (en_I (nI n)) (en_I (-1))
            simp only [j_X7_arrange_0, j_X7_arrange_1, j_X7_arrange_2, j_X7_arrange_5, j_X7_arrange_6, j_X7_arrange_7, j_X7_arrange_8, j_X7_arrange_11, j_X7_arrange_12, j_X7_arrange_13, j_X7_arrange_15, j_X7_arrange_18, j_X7_arrange_21, j_X7_arrange_22, j_X7_arrange_25, j_X7_arrange_26, j_X7_arrange_27, j_X7_arrange_28, j_X7_arrange_29, j_X7_arrange_32, j_X7_arrange_33, j_X7_arrange_34, j_X7_arrange_35, j_X7_arrange_38, j_X7_arrange_39, j_X7_arrange_42, j_X7_arrange_43, j_X7_arrange_46, j_X7_arrange_47, j_X7_arrange_48, j_X7_arrange_49, j_X7_arrange_50, j_X7_arrange_53, j_X7_arrange_54, j_X7_arrange_55, j_X7_arrange_58, j_X7_arrange_59, j_X7_arrange_62, j_X7_arrange_63, j_X7_arrange_64, j_X7_arrange_65, j_X7_arrange_66, j_X7_arrange_68, j_X7_arrange_71, j_X7_arrange_72, j_X7_arrange_75, j_X7_arrange_76, j_X7_arrange_77, j_X7_arrange_80, j_X7_arrange_82, j_X7_arrange_83, j_X7_arrange_84, j_X7_arrange_85, j_X7_arrange_86, j_X7_arrange_87, j_X7_arrange_88, j_X7_arrange_91, j_X7_arrange_94, j_X7_arrange_97, j_X7_arrange_98, j_X7_arrange_101, j_X7_arrange_102, j_X7_arrange_103, j_X7_arrange_106, j_X7_arrange_107, j_X7_arrange_110, j_X7_arrange_111, j_X7_arrange_112, j_X7_arrange_115, j_X7_arrange_116, j_X7_arrange_117, j_X7_arrange_118, j_X7_arrange_121, j_X7_arrange_124, en_c2I, en_c2R, en_c2U, en_c2D, Option.some.injEq, exists_eq_left', exists_eq_left, Option.map_some, Option.map_none, not_true_eq_false, false_implies, true_implies, and_true, true_and, reduceCtorEq, not_false_eq_true, true_or, or_true, eg_cl_sfi, eg_fi_sfi, eg_fr_sfi, eg_fd_sfi, eg_al_sfi, eg_ai_sfi, eg_ar_sfi, eg_ad_sfi, eg_aj_sfi, eg_nx_sfi, eg_ns_sfi, eg_cl_sfr, eg_fi_sfr, eg_fr_sfr, eg_fd_sfr, eg_al_sfr, eg_ai_sfr, eg_ar_sfr, eg_ad_sfr, eg_aj_sfr, eg_nx_sfr, eg_ns_sfr, eg_cl_sfd, eg_fi_sfd, eg_fr_sfd, eg_fd_sfd, eg_al_sfd, eg_ai_sfd, eg_ar_sfd, eg_ad_sfd, eg_aj_sfd, eg_nx_sfd, eg_ns_sfd, eg_cl_sai, eg_fi_sai, eg_fr_sai, eg_fd_sai, eg_al_sai, eg_ai_sai, eg_ar_sai, eg_ad_sai, eg_aj_sai, eg_nx_sai, eg_ns_sai, eg_cl_sar, eg_fi_sar, eg_fr_sar, eg_fd_sar, eg_al_sar, eg_ai_sar, eg_ar_sar, eg_ad_sar, eg_aj_sar, eg_nx_sar, eg_ns_sar, eg_cl_sad, eg_fi_sad, eg_fr_sad, eg_fd_sad, eg_al_sad, eg_ai_sad, eg_ar_sad, eg_ad_sad, eg_aj_sad, eg_nx_sad, eg_ns_sad, eg_cl_saj, eg_fi_saj, eg_fr_saj, eg_fd_saj, eg_al_saj, eg_ai_saj, eg_ar_saj, eg_ad_saj, eg_aj_saj, eg_nx_saj, eg_ns_saj, eg_cl_new, eg_fi_new, eg_fr_new, eg_fd_new, eg_al_new, eg_ai_new, eg_ar_new, eg_ad_new, eg_aj_new, eg_nx_new, eg_ns_new, eg_cl_newa, eg_fi_newa, eg_fr_newa, eg_fd_newa, eg_al_newa, eg_ai_newa, eg_ar_newa, eg_ad_newa, eg_aj_newa, eg_nx_newa, eg_ns_newa, eg_cl_bump, eg_fi_bump, eg_fr_bump, eg_fd_bump, eg_al_bump, eg_ai_bump, eg_ar_bump, eg_ad_bump, eg_aj_bump, eg_nx_bump, eg_ns_bump, rs_c hS2, rs_f728 hS2, rs_a25 hS2, rs_f702 hS2, rs_a1 hS2, rs_f726 hS2, rs_a24 hS2, rs_f708 hS2, rs_a7 hS2, rs_f709 hS2, rs_a8 hS2, rs_f705 hS2, rs_a4 hS2, Prod.mk.injEq, n3, n4, q4, st_num_some, z2, b3, b4, e3]
            exact this)
        rw [List.drop_length, List.nil_append] at hk
        simp only [j_X7_arrange_0, j_X7_arrange_1, j_X7_arrange_2, j_X7_arrange_5, j_X7_arrange_6, j_X7_arrange_7, j_X7_arrange_8, j_X7_arrange_11, j_X7_arrange_12, j_X7_arrange_13, j_X7_arrange_15, j_X7_arrange_18, j_X7_arrange_21, j_X7_arrange_22, j_X7_arrange_25, j_X7_arrange_26, j_X7_arrange_27, j_X7_arrange_28, j_X7_arrange_29, j_X7_arrange_32, j_X7_arrange_33, j_X7_arrange_34, j_X7_arrange_35, j_X7_arrange_38, j_X7_arrange_39, j_X7_arrange_42, j_X7_arrange_43, j_X7_arrange_46, j_X7_arrange_47, j_X7_arrange_48, j_X7_arrange_49, j_X7_arrange_50, j_X7_arrange_53, j_X7_arrange_54, j_X7_arrange_55, j_X7_arrange_58, j_X7_arrange_59, j_X7_arrange_62, j_X7_arrange_63, j_X7_arrange_64, j_X7_arrange_65, j_X7_arrange_66, j_X7_arrange_68, j_X7_arrange_71, j_X7_arrange_72, j_X7_arrange_75, j_X7_arrange_76, j_X7_arrange_77, j_X7_arrange_80, j_X7_arrange_82, j_X7_arrange_83, j_X7_arrange_84, j_X7_arrange_85, j_X7_arrange_86, j_X7_arrange_87, j_X7_arrange_88, j_X7_arrange_91, j_X7_arrange_94, j_X7_arrange_97, j_X7_arrange_98, j_X7_arrange_101, j_X7_arrange_102, j_X7_arrange_103, j_X7_arrange_106, j_X7_arrange_107, j_X7_arrange_110, j_X7_arrange_111, j_X7_arrange_112, j_X7_arrange_115, j_X7_arrange_116, j_X7_arrange_117, j_X7_arrange_118, j_X7_arrange_121, j_X7_arrange_124, en_c2I, en_c2R, en_c2U, en_c2D, Option.some.injEq, exists_eq_left', exists_eq_left, Option.map_some, Option.map_none, not_true_eq_false, false_implies, true_implies, and_true, true_and, reduceCtorEq, not_false_eq_true, true_or, or_true, eg_cl_sfi, eg_fi_sfi, eg_fr_sfi, eg_fd_sfi, eg_al_sfi, eg_ai_sfi, eg_ar_sfi, eg_ad_sfi, eg_aj_sfi, eg_nx_sfi, eg_ns_sfi, eg_cl_sfr, eg_fi_sfr, eg_fr_sfr, eg_fd_sfr, eg_al_sfr, eg_ai_sfr, eg_ar_sfr, eg_ad_sfr, eg_aj_sfr, eg_nx_sfr, eg_ns_sfr, eg_cl_sfd, eg_fi_sfd, eg_fr_sfd, eg_fd_sfd, eg_al_sfd, eg_ai_sfd, eg_ar_sfd, eg_ad_sfd, eg_aj_sfd, eg_nx_sfd, eg_ns_sfd, eg_cl_sai, eg_fi_sai, eg_fr_sai, eg_fd_sai, eg_al_sai, eg_ai_sai, eg_ar_sai, eg_ad_sai, eg_aj_sai, eg_nx_sai, eg_ns_sai, eg_cl_sar, eg_fi_sar, eg_fr_sar, eg_fd_sar, eg_al_sar, eg_ai_sar, eg_ar_sar, eg_ad_sar, eg_aj_sar, eg_nx_sar, eg_ns_sar, eg_cl_sad, eg_fi_sad, eg_fr_sad, eg_fd_sad, eg_al_sad, eg_ai_sad, eg_ar_sad, eg_ad_sad, eg_aj_sad, eg_nx_sad, eg_ns_sad, eg_cl_saj, eg_fi_saj, eg_fr_saj, eg_fd_saj, eg_al_saj, eg_ai_saj, eg_ar_saj, eg_ad_saj, eg_aj_saj, eg_nx_saj, eg_ns_saj, eg_cl_new, eg_fi_new, eg_fr_new, eg_fd_new, eg_al_new, eg_ai_new, eg_ar_new, eg_ad_new, eg_aj_new, eg_nx_new, eg_ns_new, eg_cl_newa, eg_fi_newa, eg_fr_newa, eg_fd_newa, eg_al_newa, eg_ai_newa, eg_ar_newa, eg_ad_newa, eg_aj_newa, eg_nx_newa, eg_ns_newa, eg_cl_bump, eg_fi_bump, eg_fr_bump, eg_fd_bump, eg_al_bump, eg_ai_bump, eg_ar_bump, eg_ad_bump, eg_aj_bump, eg_nx_bump, eg_ns_bump, rs_c hS1, rs_f728 hS1, rs_a25 hS1, rs_f702 hS1, rs_a1 hS1, rs_f726 hS1, rs_a24 hS1, rs_f708 hS1, rs_a7 hS1, rs_f709 hS1, rs_a8 hS1, rs_f705 hS1, rs_a4 hS1, Prod.mk.injEq, n3, n4, q6, dn_sub]
        exact hk
      have htv : tv (sa_T A) (k + 1) (n :: P).head? = n :: tv (sa_T A) k (tr_nso (sa_T A) n) := rfl
      rw [htv] at hq
      rw [j_X7_arrange_14]
      by_cases h4 : tr_kd (sa_T A) n = 4
      · have e4 : tv_e (sa_T A) (n :: tv (sa_T A) k (tr_nso (sa_T A) n)) = tv_e (sa_T A) (tv (sa_T A) k (tr_nso (sa_T A) n)) := by
          unfold tv_e
          rw [List.filter_cons, decide_eq_true h4]
          simp
        rw [e4] at hq
        have := tail O σ l3 hR w2 hl (by omega) hq
        simp only [j_X7_arrange_0, j_X7_arrange_1, j_X7_arrange_2, j_X7_arrange_5, j_X7_arrange_6, j_X7_arrange_7, j_X7_arrange_8, j_X7_arrange_11, j_X7_arrange_12, j_X7_arrange_13, j_X7_arrange_15, j_X7_arrange_18, j_X7_arrange_21, j_X7_arrange_22, j_X7_arrange_25, j_X7_arrange_26, j_X7_arrange_27, j_X7_arrange_28, j_X7_arrange_29, j_X7_arrange_32, j_X7_arrange_33, j_X7_arrange_34, j_X7_arrange_35, j_X7_arrange_38, j_X7_arrange_39, j_X7_arrange_42, j_X7_arrange_43, j_X7_arrange_46, j_X7_arrange_47, j_X7_arrange_48, j_X7_arrange_49, j_X7_arrange_50, j_X7_arrange_53, j_X7_arrange_54, j_X7_arrange_55, j_X7_arrange_59, j_X7_arrange_62, j_X7_arrange_63, j_X7_arrange_64, j_X7_arrange_65, j_X7_arrange_66, j_X7_arrange_67, j_X7_arrange_68, j_X7_arrange_71, j_X7_arrange_72, j_X7_arrange_75, j_X7_arrange_76, j_X7_arrange_77, j_X7_arrange_80, j_X7_arrange_82, j_X7_arrange_83, j_X7_arrange_84, j_X7_arrange_85, j_X7_arrange_86, j_X7_arrange_87, j_X7_arrange_88, j_X7_arrange_91, j_X7_arrange_94, j_X7_arrange_97, j_X7_arrange_98, j_X7_arrange_101, j_X7_arrange_102, j_X7_arrange_103, j_X7_arrange_106, j_X7_arrange_107, j_X7_arrange_110, j_X7_arrange_111, j_X7_arrange_112, j_X7_arrange_115, j_X7_arrange_116, j_X7_arrange_117, j_X7_arrange_118, j_X7_arrange_121, j_X7_arrange_124, en_c2I, en_c2R, en_c2U, en_c2D, Option.some.injEq, exists_eq_left', exists_eq_left, Option.map_some, Option.map_none, not_true_eq_false, false_implies, true_implies, and_true, true_and, reduceCtorEq, not_false_eq_true, true_or, or_true, eg_cl_sfi, eg_fi_sfi, eg_fr_sfi, eg_fd_sfi, eg_al_sfi, eg_ai_sfi, eg_ar_sfi, eg_ad_sfi, eg_aj_sfi, eg_nx_sfi, eg_ns_sfi, eg_cl_sfr, eg_fi_sfr, eg_fr_sfr, eg_fd_sfr, eg_al_sfr, eg_ai_sfr, eg_ar_sfr, eg_ad_sfr, eg_aj_sfr, eg_nx_sfr, eg_ns_sfr, eg_cl_sfd, eg_fi_sfd, eg_fr_sfd, eg_fd_sfd, eg_al_sfd, eg_ai_sfd, eg_ar_sfd, eg_ad_sfd, eg_aj_sfd, eg_nx_sfd, eg_ns_sfd, eg_cl_sai, eg_fi_sai, eg_fr_sai, eg_fd_sai, eg_al_sai, eg_ai_sai, eg_ar_sai, eg_ad_sai, eg_aj_sai, eg_nx_sai, eg_ns_sai, eg_cl_sar, eg_fi_sar, eg_fr_sar, eg_fd_sar, eg_al_sar, eg_ai_sar, eg_ar_sar, eg_ad_sar, eg_aj_sar, eg_nx_sar, eg_ns_sar, eg_cl_sad, eg_fi_sad, eg_fr_sad, eg_fd_sad, eg_al_sad, eg_ai_sad, eg_ar_sad, eg_ad_sad, eg_aj_sad, eg_nx_sad, eg_ns_sad, eg_cl_saj, eg_fi_saj, eg_fr_saj, eg_fd_saj, eg_al_saj, eg_ai_saj, eg_ar_saj, eg_ad_saj, eg_aj_saj, eg_nx_saj, eg_ns_saj, eg_cl_new, eg_fi_new, eg_fr_new, eg_fd_new, eg_al_new, eg_ai_new, eg_ar_new, eg_ad_new, eg_aj_new, eg_nx_new, eg_ns_new, eg_cl_newa, eg_fi_newa, eg_fr_newa, eg_fd_newa, eg_al_newa, eg_ai_newa, eg_ar_newa, eg_ad_newa, eg_aj_newa, eg_nx_newa, eg_ns_newa, eg_cl_bump, eg_fi_bump, eg_fr_bump, eg_fd_bump, eg_al_bump, eg_ai_bump, eg_ar_bump, eg_ad_bump, eg_aj_bump, eg_nx_bump, eg_ns_bump, rs_c hS, rs_f728 hS, rs_a25 hS, rs_f702 hS, rs_a1 hS, rs_f726 hS, rs_a24 hS, rs_f708 hS, rs_a7 hS, rs_f709 hS, rs_a8 hS, rs_f705 hS, rs_a4 hS, Prod.mk.injEq, z1, e1, m3, m4, w1, n3, n4, r1, eq_true h4]
        exact this
      · have e4 : O ++ tv_e (sa_T A) (n :: tv (sa_T A) k (tr_nso (sa_T A) n)) = (O ++ [n]) ++ tv_e (sa_T A) (tv (sa_T A) k (tr_nso (sa_T A) n)) := by
          unfold tv_e
          rw [List.filter_cons, decide_eq_false h4]
          simp
        rw [e4] at hq
        have k3 : vp_in (nI O.length) 24 := vp_in_nI (by omega) (by decide)
        have k4 : (nI O.length).toNatClampNeg = O.length := nI_clamp (by omega)
        have e5 : nI O.length + 1 = nI (O.length + 1) := nI_1 _
        have o7 := hl.1
        have g1 : ag σ (en_sfi (en_sai σ (m + 24) O.length (nI n)) 727 m (nI (O.length + 1))) aF (aV m) := (ag_sai (fun z => z.1 rfl)).tr (ag_sfi (fun a z => absurd rfl z))
        have := tail (O ++ [n]) (en_sfi (en_sai σ (m + 24) O.length (nI n)) 727 m (nI (O.length + 1))) l3 (rx_arr hR g1 ⟨rfl, rfl, rfl, rfl⟩) (fun i c hi => by rw [eg_ai_sfi, eg_ai_sai, if_neg (by omega)]; exact w2 i c hi) (od_l_add hl n) (by rw [List.length_append]; show O.length + 1 + _ ≤ 24; omega) (fun σ' g s => hq σ' (g1.tr g) (sz.tr ⟨rfl, rfl, rfl, rfl⟩ s))
        simp only [j_X7_arrange_0, j_X7_arrange_1, j_X7_arrange_2, j_X7_arrange_5, j_X7_arrange_6, j_X7_arrange_7, j_X7_arrange_8, j_X7_arrange_11, j_X7_arrange_12, j_X7_arrange_13, j_X7_arrange_15, j_X7_arrange_18, j_X7_arrange_21, j_X7_arrange_22, j_X7_arrange_25, j_X7_arrange_26, j_X7_arrange_27, j_X7_arrange_28, j_X7_arrange_29, j_X7_arrange_32, j_X7_arrange_33, j_X7_arrange_34, j_X7_arrange_35, j_X7_arrange_38, j_X7_arrange_39, j_X7_arrange_42, j_X7_arrange_43, j_X7_arrange_46, j_X7_arrange_47, j_X7_arrange_48, j_X7_arrange_49, j_X7_arrange_50, j_X7_arrange_53, j_X7_arrange_54, j_X7_arrange_55, j_X7_arrange_59, j_X7_arrange_62, j_X7_arrange_63, j_X7_arrange_64, j_X7_arrange_65, j_X7_arrange_66, j_X7_arrange_67, j_X7_arrange_68, j_X7_arrange_71, j_X7_arrange_72, j_X7_arrange_75, j_X7_arrange_76, j_X7_arrange_77, j_X7_arrange_80, j_X7_arrange_82, j_X7_arrange_83, j_X7_arrange_84, j_X7_arrange_85, j_X7_arrange_86, j_X7_arrange_87, j_X7_arrange_88, j_X7_arrange_91, j_X7_arrange_94, j_X7_arrange_97, j_X7_arrange_98, j_X7_arrange_101, j_X7_arrange_102, j_X7_arrange_103, j_X7_arrange_106, j_X7_arrange_107, j_X7_arrange_110, j_X7_arrange_111, j_X7_arrange_112, j_X7_arrange_115, j_X7_arrange_116, j_X7_arrange_117, j_X7_arrange_118, j_X7_arrange_121, j_X7_arrange_124, en_c2I, en_c2R, en_c2U, en_c2D, Option.some.injEq, exists_eq_left', exists_eq_left, Option.map_some, Option.map_none, not_true_eq_false, false_implies, true_implies, and_true, true_and, reduceCtorEq, not_false_eq_true, true_or, or_true, eg_cl_sfi, eg_fi_sfi, eg_fr_sfi, eg_fd_sfi, eg_al_sfi, eg_ai_sfi, eg_ar_sfi, eg_ad_sfi, eg_aj_sfi, eg_nx_sfi, eg_ns_sfi, eg_cl_sfr, eg_fi_sfr, eg_fr_sfr, eg_fd_sfr, eg_al_sfr, eg_ai_sfr, eg_ar_sfr, eg_ad_sfr, eg_aj_sfr, eg_nx_sfr, eg_ns_sfr, eg_cl_sfd, eg_fi_sfd, eg_fr_sfd, eg_fd_sfd, eg_al_sfd, eg_ai_sfd, eg_ar_sfd, eg_ad_sfd, eg_aj_sfd, eg_nx_sfd, eg_ns_sfd, eg_cl_sai, eg_fi_sai, eg_fr_sai, eg_fd_sai, eg_al_sai, eg_ai_sai, eg_ar_sai, eg_ad_sai, eg_aj_sai, eg_nx_sai, eg_ns_sai, eg_cl_sar, eg_fi_sar, eg_fr_sar, eg_fd_sar, eg_al_sar, eg_ai_sar, eg_ar_sar, eg_ad_sar, eg_aj_sar, eg_nx_sar, eg_ns_sar, eg_cl_sad, eg_fi_sad, eg_fr_sad, eg_fd_sad, eg_al_sad, eg_ai_sad, eg_ar_sad, eg_ad_sad, eg_aj_sad, eg_nx_sad, eg_ns_sad, eg_cl_saj, eg_fi_saj, eg_fr_saj, eg_fd_saj, eg_al_saj, eg_ai_saj, eg_ar_saj, eg_ad_saj, eg_aj_saj, eg_nx_saj, eg_ns_saj, eg_cl_new, eg_fi_new, eg_fr_new, eg_fd_new, eg_al_new, eg_ai_new, eg_ar_new, eg_ad_new, eg_aj_new, eg_nx_new, eg_ns_new, eg_cl_newa, eg_fi_newa, eg_fr_newa, eg_fd_newa, eg_al_newa, eg_ai_newa, eg_ar_newa, eg_ad_newa, eg_aj_newa, eg_nx_newa, eg_ns_newa, eg_cl_bump, eg_fi_bump, eg_fr_bump, eg_fd_bump, eg_al_bump, eg_ai_bump, eg_ar_bump, eg_ad_bump, eg_aj_bump, eg_nx_bump, eg_ns_bump, rs_c hS, rs_f728 hS, rs_a25 hS, rs_f702 hS, rs_a1 hS, rs_f726 hS, rs_a24 hS, rs_f708 hS, rs_a7 hS, rs_f709 hS, rs_a8 hS, rs_f705 hS, rs_a4 hS, Prod.mk.injEq, z1, e1, m3, m4, w1, n3, n4, r1, eq_false h4, o7, k3, k4, e5]
        exact this
theorem jl_X7_arrange {G : en_G}  {m : Nat} {A : st_A} {q : Option en_V → en_S → Prop} {σ : en_S} (hp : RX m A σ) (hq : ∀ v σ', (RX m A σ' ∧ ag σ σ' aF (aV m) ∧ sz σ σ' ∧ v = none ∧ od_l m (tv_e (sa_T A) (tv (sa_T A) 24 (some 0))) σ') → q v σ') : en_J (X_X7_arrange G q) 0 [en_R (some m), en_U, en_U, en_U] [] σ := by
  have hR := hp
  have hS := hR.1
  have hw := hR.2.2.2.2.2.2.2.2.2.1
  have h1 := hw.1.1
  have hup : tr_up (sa_T A) 0 = none := by
    have k0 := hw.2.2.2.2.2.2.2.1.1
    unfold tr_up
    cases hp : tr_pa (sa_T A) 0 with
    | some p =>
      have := (hw.2.1 0 p (by omega) hp).2.2
      unfold tr_el at this
      rw [k0] at this
      rcases this with z | z | z <;> exact absurd z (by decide)
    | none =>
      rw [if_pos rfl]
      cases hh : tr_ho (sa_T A) 0 with
      | none => rfl
      | some h =>
        have := (hw.2.2.2.2.1 0 h (by omega) hh).2.2
        rw [k0] at this
        exact absurd this (by decide)
  have hpe : od_pend (tr_up (sa_T A)) (tr_kp (sa_T A)) 24 0 = [] := by
    show (match tr_up (sa_T A) 0 with
      | none => []
      | some p => _) = []
    rw [hup]
  have hRk := tr_Rk_le hw (n := 0) (by omega)
  have hWr : od_W (tr_up (sa_T A)) (tr_N (sa_T A)) [0] ≤ 24 := by
    have : tr_Rk (sa_T A) 0 = od_W (tr_up (sa_T A)) (tr_N (sa_T A)) (0 :: od_pend (tr_up (sa_T A)) (tr_kp (sa_T A)) 24 0) := rfl
    rw [hpe] at this
    rw [← this]; exact hRk.2
  have n3 : vp_in (0 : Int32) 64 := by rw [show (0 : Int32) = nI 0 from by decide +kernel]; exact vp_in_nI (by omega) (by decide)
  have n4 : (0 : Int32).toNatClampNeg = 0 := by decide
  have g1 : ag σ (en_sai (en_sfi σ 727 m 0) (m + 25) 0 0) aF (aV m) := (ag_sfi (fun a z => absurd rfl z)).tr (ag_sai (fun z => z.2 rfl))
  have hw0 : wt m [] (en_sfi σ 727 m 0) := fun i c hi => by cases hi
  have key := jw_X7_arrange (G := G) (q := q) (A := A) (m := m) 24 [0] [] (en_sai (en_sfi σ 727 m 0) (m + 25) 0 0) (rx_arr hR g1 ⟨rfl, rfl, rfl, rfl⟩) (Or.inr ⟨0, by omega, by rw [hpe]⟩) hWr (by show 0 + _ ≤ 24; omega) (by have := wt_push hw0 0; rw [show nI 0 = 0 from by decide +kernel] at this; exact this) ⟨by rw [eg_fi_sai, eg_fi_sfi, if_pos ⟨rfl, rfl⟩]; decide +kernel, fun i c hi => by cases hi⟩ (fun σ' g s hR' hl => hq _ _ ⟨hR', g1.tr g, sz.tr ⟨rfl, rfl, rfl, rfl⟩ s, rfl, hl⟩) en_U en_U
  rw [show nI [0].length = 1 from by decide +kernel] at key
  simp only [j_X7_arrange_0, j_X7_arrange_1, j_X7_arrange_2, j_X7_arrange_5, j_X7_arrange_6, j_X7_arrange_7, j_X7_arrange_8, j_X7_arrange_11, j_X7_arrange_12, j_X7_arrange_13, j_X7_arrange_15, j_X7_arrange_21, j_X7_arrange_22, j_X7_arrange_25, j_X7_arrange_26, j_X7_arrange_27, j_X7_arrange_28, j_X7_arrange_29, j_X7_arrange_32, j_X7_arrange_33, j_X7_arrange_34, j_X7_arrange_35, j_X7_arrange_38, j_X7_arrange_39, j_X7_arrange_42, j_X7_arrange_43, j_X7_arrange_46, j_X7_arrange_47, j_X7_arrange_48, j_X7_arrange_49, j_X7_arrange_50, j_X7_arrange_53, j_X7_arrange_54, j_X7_arrange_55, j_X7_arrange_58, j_X7_arrange_59, j_X7_arrange_62, j_X7_arrange_63, j_X7_arrange_64, j_X7_arrange_65, j_X7_arrange_66, j_X7_arrange_67, j_X7_arrange_68, j_X7_arrange_71, j_X7_arrange_72, j_X7_arrange_75, j_X7_arrange_76, j_X7_arrange_77, j_X7_arrange_80, j_X7_arrange_82, j_X7_arrange_83, j_X7_arrange_84, j_X7_arrange_85, j_X7_arrange_86, j_X7_arrange_87, j_X7_arrange_88, j_X7_arrange_91, j_X7_arrange_94, j_X7_arrange_97, j_X7_arrange_98, j_X7_arrange_101, j_X7_arrange_102, j_X7_arrange_103, j_X7_arrange_106, j_X7_arrange_107, j_X7_arrange_110, j_X7_arrange_111, j_X7_arrange_112, j_X7_arrange_115, j_X7_arrange_116, j_X7_arrange_117, j_X7_arrange_118, j_X7_arrange_121, j_X7_arrange_124, en_c2I, en_c2R, en_c2U, en_c2D, Option.some.injEq, exists_eq_left', exists_eq_left, Option.map_some, Option.map_none, not_true_eq_false, false_implies, true_implies, and_true, true_and, reduceCtorEq, not_false_eq_true, true_or, or_true, eg_cl_sfi, eg_fi_sfi, eg_fr_sfi, eg_fd_sfi, eg_al_sfi, eg_ai_sfi, eg_ar_sfi, eg_ad_sfi, eg_aj_sfi, eg_nx_sfi, eg_ns_sfi, eg_cl_sfr, eg_fi_sfr, eg_fr_sfr, eg_fd_sfr, eg_al_sfr, eg_ai_sfr, eg_ar_sfr, eg_ad_sfr, eg_aj_sfr, eg_nx_sfr, eg_ns_sfr, eg_cl_sfd, eg_fi_sfd, eg_fr_sfd, eg_fd_sfd, eg_al_sfd, eg_ai_sfd, eg_ar_sfd, eg_ad_sfd, eg_aj_sfd, eg_nx_sfd, eg_ns_sfd, eg_cl_sai, eg_fi_sai, eg_fr_sai, eg_fd_sai, eg_al_sai, eg_ai_sai, eg_ar_sai, eg_ad_sai, eg_aj_sai, eg_nx_sai, eg_ns_sai, eg_cl_sar, eg_fi_sar, eg_fr_sar, eg_fd_sar, eg_al_sar, eg_ai_sar, eg_ar_sar, eg_ad_sar, eg_aj_sar, eg_nx_sar, eg_ns_sar, eg_cl_sad, eg_fi_sad, eg_fr_sad, eg_fd_sad, eg_al_sad, eg_ai_sad, eg_ar_sad, eg_ad_sad, eg_aj_sad, eg_nx_sad, eg_ns_sad, eg_cl_saj, eg_fi_saj, eg_fr_saj, eg_fd_saj, eg_al_saj, eg_ai_saj, eg_ar_saj, eg_ad_saj, eg_aj_saj, eg_nx_saj, eg_ns_saj, eg_cl_new, eg_fi_new, eg_fr_new, eg_fd_new, eg_al_new, eg_ai_new, eg_ar_new, eg_ad_new, eg_aj_new, eg_nx_new, eg_ns_new, eg_cl_newa, eg_fi_newa, eg_fr_newa, eg_fd_newa, eg_al_newa, eg_ai_newa, eg_ar_newa, eg_ad_newa, eg_aj_newa, eg_nx_newa, eg_ns_newa, eg_cl_bump, eg_fi_bump, eg_fr_bump, eg_fd_bump, eg_al_bump, eg_ai_bump, eg_ar_bump, eg_ad_bump, eg_aj_bump, eg_nx_bump, eg_ns_bump, rs_c hS, rs_f728 hS, rs_a25 hS, rs_f702 hS, rs_a1 hS, rs_f726 hS, rs_a24 hS, rs_f708 hS, rs_a7 hS, rs_f709 hS, rs_a8 hS, rs_f705 hS, rs_a4 hS, Prod.mk.injEq, n3, n4]
  exact key
theorem jp_X7_arrange {G : en_G}  : ∀ as σ, (C_X7_arrange G).1 as σ → (en_lc as).length ≤ 4 ∧ en_J (X_X7_arrange G (fun r σ' => (C_X7_arrange G).2 as σ r σ')) 0 (en_loc 4 as) [] σ := en_ghJ (fun g as σ h => by
  obtain ⟨hp, h2⟩ := h
  subst h2
  exact ⟨Nat.le_of_ble_eq_true rfl, jl_X7_arrange hp (fun _ _ h => h)⟩)
theorem ok_X7_arrange {G : en_G}  : en_Ok G 1 yX7_arrange cX7_arrange 4 none (C_X7_arrange G) :=
  en_met (own := RX7) (fl := en_lk fl7) (nw := en_lk nw7) (aw := en_lk aw7) (dc := en_lk dc7) (ca := en_lk (ca_X7_arrange G)) (rt := 0) (ini := false) (by decide +kernel) (Or.inl ⟨rfl, rfl⟩) (fun h => by cases h) rfl (fun q => en_LkF fl7_ok nw7_ok aw7_ok dc7_ok) (fun idx q hq => by cases hq) jp_X7_arrange
def P_X7_hit (G : en_G)  (g : (Nat) × (st_A) × (UInt64) × (UInt64)) (as : List en_V) (σ : en_S) : Prop := (RX (g.1) (g.2.1) σ) ∧ as = [en_R (some (g.1)), en_D (g.2.2.1), en_D (g.2.2.2)]
def C_X7_hit (G : en_G)  : en_C := en_gh (P_X7_hit G) (fun g as σ v σ' => RX (g.1) (g.2.1) σ' ∧ ag σ σ' (fun f _ => f ≠ 700 ∧ f ≠ 727) (aV (g.1)) ∧ sz σ σ' ∧ en_fi σ' 700 (g.1) = 0 ∧ v = some (en_I (st_num (ht_top (g.2.1) (g.2.2.1) (g.2.2.2)))))
theorem pr_X7_hit {G : en_G}  : ∀ as σ, (C_X7_hit G).1 as σ → ∃ b tl, as = en_R (some b) :: tl ∧ en_cl σ b = some 7 ∧ tl.length = 2 := fun as σ ⟨g, hp, h2⟩ => ⟨_, _, h2, rs_c hp.1, rfl⟩
theorem cu_X7_hit {G : en_G}  {m : Nat} {A : st_A} {px : UInt64} {py : UInt64} {σ : en_S} (hp : RX m A σ) : en_Us (C_X7_hit G) [en_R (some m), en_D px, en_D py] σ (fun v σ' => RX m A σ' ∧ ag σ σ' (fun f _ => f ≠ 700 ∧ f ≠ 727) (aV m) ∧ sz σ σ' ∧ en_fi σ' 700 m = 0 ∧ v = some (en_I (st_num (ht_top A px py)))) := ⟨⟨(m, A, px, py), hp, rfl⟩, fun v σ' q => q (m, A, px, py) ⟨hp, rfl⟩⟩
def ca_X7_hit (G : en_G) : List (Nat × Nat × en_C) := [(268, 5, (C_X7_arrange G)), (271, 17, (C_X7_holds G))]
def X_X7_hit (G : en_G) (q : Option en_V → en_S → Prop) : en_X := en_mk G cX7_hit (en_lk fl7) (en_lk nw7) (en_lk aw7) (en_lk dc7) (en_lk (ca_X7_hit G)) 1 false q
theorem d_X7_hit_0 : decode cX7_hit 0 = .ok (.aload_n 0, 1) := by decide +kernel
theorem j_X7_hit_0 {G : en_G} {q : Option en_V → en_S → Prop}  {l1 l2 l3 l4 l5 l6 l7 : en_V} {x0 : Option Nat} {σ : en_S} : en_J (X_X7_hit G q) 0 [en_R x0, l1, l2, l3, l4, l5, l6, l7] [] σ ↔ en_J (X_X7_hit G q) 1 [en_R x0, l1, l2, l3, l4, l5, l6, l7] [en_R x0] σ := en_j1 d_X7_hit_0 rfl rfl
theorem d_X7_hit_1 : decode cX7_hit 1 = .ok (.iconst 0, 1) := by decide +kernel
theorem j_X7_hit_1 {G : en_G} {q : Option en_V → en_S → Prop}  {l0 l1 l2 l3 l4 l5 l6 l7 : en_V} {a0 : Option Nat} {σ : en_S} : en_J (X_X7_hit G q) 1 [l0, l1, l2, l3, l4, l5, l6, l7] [en_R a0] σ ↔ en_J (X_X7_hit G q) 2 [l0, l1, l2, l3, l4, l5, l6, l7] [en_I 0, en_R a0] σ := ej_iconst d_X7_hit_1 (by decide +kernel)
theorem d_X7_hit_2 : decode cX7_hit 2 = .ok (.putfield 145, 3) := by decide +kernel
theorem j_X7_hit_2 {G : en_G} {q : Option en_V → en_S → Prop}  {l0 l1 l2 l3 l4 l5 l6 l7 : en_V} {a0 : Int32} {a1 : Option Nat} {σ : en_S} : en_J (X_X7_hit G q) 2 [l0, l1, l2, l3, l4, l5, l6, l7] [en_I a0, en_R a1] σ ↔ ∃ a, a1 = some a ∧ en_cl σ a = some 7 ∧ en_J (X_X7_hit G q) 5 [l0, l1, l2, l3, l4, l5, l6, l7] [] (en_sfi σ 700 a a0) := en_jg (st := fun o => [en_I a0, en_R o]) (st' := fun _ => []) (σ' := fun a => en_sfi σ 700 a a0) d_X7_hit_2 rfl (fun a => rfl) (fun a => ⟨fun h => h.2.1, fun h => ⟨rfl, h, trivial, fun z => absurd z (by decide +kernel)⟩⟩)
theorem d_X7_hit_5 : decode cX7_hit 5 = .ok (.aload_n 0, 1) := by decide +kernel
theorem j_X7_hit_5 {G : en_G} {q : Option en_V → en_S → Prop}  {l1 l2 l3 l4 l5 l6 l7 : en_V} {x0 : Option Nat} {σ : en_S} : en_J (X_X7_hit G q) 5 [en_R x0, l1, l2, l3, l4, l5, l6, l7] [] σ ↔ en_J (X_X7_hit G q) 6 [en_R x0, l1, l2, l3, l4, l5, l6, l7] [en_R x0] σ := en_j1 d_X7_hit_5 rfl rfl
theorem d_X7_hit_6 : decode cX7_hit 6 = .ok (.invokevirtual 268, 3) := by decide +kernel
theorem j_X7_hit_6 {G : en_G} {q : Option en_V → en_S → Prop}  {l0 l1 l2 l3 l4 l5 l6 l7 : en_V} {a0 : Option Nat} {σ : en_S} : en_J (X_X7_hit G q) 6 [l0, l1, l2, l3, l4, l5, l6, l7] [en_R a0] σ ↔ (C_X7_arrange G).1 [en_R a0] σ ∧ ∀ (r : Option en_V) (σ' : en_S), (C_X7_arrange G).2 [en_R a0] σ r σ' → en_J (X_X7_hit G q) 9 [l0, l1, l2, l3, l4, l5, l6, l7] (r.toList ++ []) σ' := en_jkC (C := (C_X7_arrange G)) (n' := 1) (k := 1) (idx := 268) d_X7_hit_6 rfl rfl (by decide) (Nat.le_of_ble_eq_true rfl) (Nat.le_of_ble_eq_true rfl)
theorem d_X7_hit_9 : decode cX7_hit 9 = .ok (.iconst (-1), 1) := by decide +kernel
theorem j_X7_hit_9 {G : en_G} {q : Option en_V → en_S → Prop}  {l0 l1 l2 l3 l4 l5 l6 l7 : en_V}  {σ : en_S} : en_J (X_X7_hit G q) 9 [l0, l1, l2, l3, l4, l5, l6, l7] [] σ ↔ en_J (X_X7_hit G q) 10 [l0, l1, l2, l3, l4, l5, l6, l7] [en_I (-1)] σ := ej_iconst d_X7_hit_9 (by decide +kernel)
theorem d_X7_hit_10 : decode cX7_hit 10 = .ok (.istore 5, 2) := by decide +kernel
theorem j_X7_hit_10 {G : en_G} {q : Option en_V → en_S → Prop}  {l0 l1 l2 l3 l4 l5 l6 l7 : en_V} {a0 : Int32} {σ : en_S} : en_J (X_X7_hit G q) 10 [l0, l1, l2, l3, l4, l5, l6, l7] [en_I a0] σ ↔ en_J (X_X7_hit G q) 12 [l0, l1, l2, l3, en_c2 l4, en_I a0, l6, l7] [] σ := en_j1 d_X7_hit_10 rfl ⟨rfl, Nat.le_of_ble_eq_true rfl⟩
theorem d_X7_hit_12 : decode cX7_hit 12 = .ok (.iconst 0, 1) := by decide +kernel
theorem j_X7_hit_12 {G : en_G} {q : Option en_V → en_S → Prop}  {l0 l1 l2 l3 l4 l5 l6 l7 : en_V}  {σ : en_S} : en_J (X_X7_hit G q) 12 [l0, l1, l2, l3, l4, l5, l6, l7] [] σ ↔ en_J (X_X7_hit G q) 13 [l0, l1, l2, l3, l4, l5, l6, l7] [en_I 0] σ := ej_iconst d_X7_hit_12 (by decide +kernel)
theorem d_X7_hit_13 : decode cX7_hit 13 = .ok (.istore 6, 2) := by decide +kernel
theorem j_X7_hit_13 {G : en_G} {q : Option en_V → en_S → Prop}  {l0 l1 l2 l3 l4 l5 l6 l7 : en_V} {a0 : Int32} {σ : en_S} : en_J (X_X7_hit G q) 13 [l0, l1, l2, l3, l4, l5, l6, l7] [en_I a0] σ ↔ en_J (X_X7_hit G q) 15 [l0, l1, l2, l3, l4, en_c2 l5, en_I a0, l7] [] σ := en_j1 d_X7_hit_13 rfl ⟨rfl, Nat.le_of_ble_eq_true rfl⟩
theorem d_X7_hit_15 : decode cX7_hit 15 = .ok (.iload 6, 2) := by decide +kernel
theorem j_X7_hit_15 {G : en_G} {q : Option en_V → en_S → Prop}  {l0 l1 l2 l3 l4 l5 l7 : en_V} {x6 : Int32} {σ : en_S} : en_J (X_X7_hit G q) 15 [l0, l1, l2, l3, l4, l5, en_I x6, l7] [] σ ↔ en_J (X_X7_hit G q) 17 [l0, l1, l2, l3, l4, l5, en_I x6, l7] [en_I x6] σ := en_j1 d_X7_hit_15 rfl rfl
theorem d_X7_hit_17 : decode cX7_hit 17 = .ok (.aload_n 0, 1) := by decide +kernel
theorem j_X7_hit_17 {G : en_G} {q : Option en_V → en_S → Prop}  {l1 l2 l3 l4 l5 l6 l7 : en_V} {a0 : Int32} {x0 : Option Nat} {σ : en_S} : en_J (X_X7_hit G q) 17 [en_R x0, l1, l2, l3, l4, l5, l6, l7] [en_I a0] σ ↔ en_J (X_X7_hit G q) 18 [en_R x0, l1, l2, l3, l4, l5, l6, l7] [en_R x0, en_I a0] σ := en_j1 d_X7_hit_17 rfl rfl
theorem d_X7_hit_18 : decode cX7_hit 18 = .ok (.getfield 265, 3) := by decide +kernel
theorem j_X7_hit_18 {G : en_G} {q : Option en_V → en_S → Prop}  {l0 l1 l2 l3 l4 l5 l6 l7 : en_V} {a0 : Option Nat} {a1 : Int32} {σ : en_S} : en_J (X_X7_hit G q) 18 [l0, l1, l2, l3, l4, l5, l6, l7] [en_R a0, en_I a1] σ ↔ ∃ a, a0 = some a ∧ en_cl σ a = some 7 ∧ en_J (X_X7_hit G q) 21 [l0, l1, l2, l3, l4, l5, l6, l7] [en_I (en_fi σ 727 a), en_I a1] σ := en_jg (st := fun o => [en_R o, en_I a1]) (st' := fun a => [en_I (en_fi σ 727 a), en_I a1]) (σ' := fun _ => σ) d_X7_hit_18 rfl (fun a => rfl) (fun a => ⟨fun h => h.2, fun h => ⟨rfl, h⟩⟩)
theorem d_X7_hit_21 : decode cX7_hit 21 = .ok (.if_icmp .ge 65, 3) := by decide +kernel
theorem j_X7_hit_21 {G : en_G} {q : Option en_V → en_S → Prop}  {l0 l1 l2 l3 l4 l5 l6 l7 : en_V} {a0 : Int32} {a1 : Int32} {σ : en_S} : en_J (X_X7_hit G q) 21 [l0, l1, l2, l3, l4, l5, l6, l7] [en_I a0, en_I a1] σ ↔ (a0 ≤ a1 → en_J (X_X7_hit G q) 86 [l0, l1, l2, l3, l4, l5, l6, l7] [] σ) ∧ (¬ (a0 ≤ a1) → en_J (X_X7_hit G q) 24 [l0, l1, l2, l3, l4, l5, l6, l7] [] σ) := en_jb d_X7_hit_21 rfl ⟨rfl, by decide⟩
theorem d_X7_hit_24 : decode cX7_hit 24 = .ok (.aload_n 0, 1) := by decide +kernel
theorem j_X7_hit_24 {G : en_G} {q : Option en_V → en_S → Prop}  {l1 l2 l3 l4 l5 l6 l7 : en_V} {x0 : Option Nat} {σ : en_S} : en_J (X_X7_hit G q) 24 [en_R x0, l1, l2, l3, l4, l5, l6, l7] [] σ ↔ en_J (X_X7_hit G q) 25 [en_R x0, l1, l2, l3, l4, l5, l6, l7] [en_R x0] σ := en_j1 d_X7_hit_24 rfl rfl
theorem d_X7_hit_25 : decode cX7_hit 25 = .ok (.getfield 85, 3) := by decide +kernel
theorem j_X7_hit_25 {G : en_G} {q : Option en_V → en_S → Prop}  {l0 l1 l2 l3 l4 l5 l6 l7 : en_V} {a0 : Option Nat} {σ : en_S} : en_J (X_X7_hit G q) 25 [l0, l1, l2, l3, l4, l5, l6, l7] [en_R a0] σ ↔ ∃ a, a0 = some a ∧ en_cl σ a = some 7 ∧ en_J (X_X7_hit G q) 28 [l0, l1, l2, l3, l4, l5, l6, l7] [en_R (en_fr σ 726 a)] σ := en_jg (st := fun o => [en_R o]) (st' := fun a => [en_R (en_fr σ 726 a)]) (σ' := fun _ => σ) d_X7_hit_25 rfl (fun a => rfl) (fun a => ⟨fun h => h.2, fun h => ⟨rfl, h⟩⟩)
theorem d_X7_hit_28 : decode cX7_hit 28 = .ok (.iload 6, 2) := by decide +kernel
theorem j_X7_hit_28 {G : en_G} {q : Option en_V → en_S → Prop}  {l0 l1 l2 l3 l4 l5 l7 : en_V} {a0 : Option Nat} {x6 : Int32} {σ : en_S} : en_J (X_X7_hit G q) 28 [l0, l1, l2, l3, l4, l5, en_I x6, l7] [en_R a0] σ ↔ en_J (X_X7_hit G q) 30 [l0, l1, l2, l3, l4, l5, en_I x6, l7] [en_I x6, en_R a0] σ := en_j1 d_X7_hit_28 rfl rfl
theorem d_X7_hit_30 : decode cX7_hit 30 = .ok (.iaload, 1) := by decide +kernel
theorem j_X7_hit_30 {G : en_G} {q : Option en_V → en_S → Prop}  {l0 l1 l2 l3 l4 l5 l6 l7 : en_V} {a0 : Int32} {a1 : Option Nat} {σ : en_S} : en_J (X_X7_hit G q) 30 [l0, l1, l2, l3, l4, l5, l6, l7] [en_I a0, en_R a1] σ ↔ ∃ a, a1 = some a ∧ (∃ k, en_al σ a = some (0, k) ∧ vp_in a0 k) ∧ en_J (X_X7_hit G q) 31 [l0, l1, l2, l3, l4, l5, l6, l7] [en_I (en_ai σ a a0.toNatClampNeg)] σ := ej_iaload d_X7_hit_30 rfl
theorem d_X7_hit_31 : decode cX7_hit 31 = .ok (.istore 7, 2) := by decide +kernel
theorem j_X7_hit_31 {G : en_G} {q : Option en_V → en_S → Prop}  {l0 l1 l2 l3 l4 l5 l6 l7 : en_V} {a0 : Int32} {σ : en_S} : en_J (X_X7_hit G q) 31 [l0, l1, l2, l3, l4, l5, l6, l7] [en_I a0] σ ↔ en_J (X_X7_hit G q) 33 [l0, l1, l2, l3, l4, l5, en_c2 l6, en_I a0] [] σ := en_j1 d_X7_hit_31 rfl ⟨rfl, Nat.le_of_ble_eq_true rfl⟩
theorem d_X7_hit_33 : decode cX7_hit 33 = .ok (.aload_n 0, 1) := by decide +kernel
theorem j_X7_hit_33 {G : en_G} {q : Option en_V → en_S → Prop}  {l1 l2 l3 l4 l5 l6 l7 : en_V} {x0 : Option Nat} {σ : en_S} : en_J (X_X7_hit G q) 33 [en_R x0, l1, l2, l3, l4, l5, l6, l7] [] σ ↔ en_J (X_X7_hit G q) 34 [en_R x0, l1, l2, l3, l4, l5, l6, l7] [en_R x0] σ := en_j1 d_X7_hit_33 rfl rfl
theorem d_X7_hit_34 : decode cX7_hit 34 = .ok (.getfield 63, 3) := by decide +kernel
theorem j_X7_hit_34 {G : en_G} {q : Option en_V → en_S → Prop}  {l0 l1 l2 l3 l4 l5 l6 l7 : en_V} {a0 : Option Nat} {σ : en_S} : en_J (X_X7_hit G q) 34 [l0, l1, l2, l3, l4, l5, l6, l7] [en_R a0] σ ↔ ∃ a, a0 = some a ∧ en_cl σ a = some 7 ∧ en_J (X_X7_hit G q) 37 [l0, l1, l2, l3, l4, l5, l6, l7] [en_R (en_fr σ 719 a)] σ := en_jg (st := fun o => [en_R o]) (st' := fun a => [en_R (en_fr σ 719 a)]) (σ' := fun _ => σ) d_X7_hit_34 rfl (fun a => rfl) (fun a => ⟨fun h => h.2, fun h => ⟨rfl, h⟩⟩)
theorem d_X7_hit_37 : decode cX7_hit 37 = .ok (.iload 7, 2) := by decide +kernel
theorem j_X7_hit_37 {G : en_G} {q : Option en_V → en_S → Prop}  {l0 l1 l2 l3 l4 l5 l6 : en_V} {a0 : Option Nat} {x7 : Int32} {σ : en_S} : en_J (X_X7_hit G q) 37 [l0, l1, l2, l3, l4, l5, l6, en_I x7] [en_R a0] σ ↔ en_J (X_X7_hit G q) 39 [l0, l1, l2, l3, l4, l5, l6, en_I x7] [en_I x7, en_R a0] σ := en_j1 d_X7_hit_37 rfl rfl
theorem d_X7_hit_39 : decode cX7_hit 39 = .ok (.baload, 1) := by decide +kernel
theorem j_X7_hit_39 {G : en_G} {q : Option en_V → en_S → Prop}  {l0 l1 l2 l3 l4 l5 l6 l7 : en_V} {a0 : Int32} {a1 : Option Nat} {σ : en_S} : en_J (X_X7_hit G q) 39 [l0, l1, l2, l3, l4, l5, l6, l7] [en_I a0, en_R a1] σ ↔ ∃ a, a1 = some a ∧ (∃ k, en_al σ a = some (1, k) ∧ vp_in a0 k) ∧ en_J (X_X7_hit G q) 40 [l0, l1, l2, l3, l4, l5, l6, l7] [en_I (en_ai σ a a0.toNatClampNeg)] σ := ej_baload d_X7_hit_39
theorem d_X7_hit_40 : decode cX7_hit 40 = .ok (.ifCond .eq 40, 3) := by decide +kernel
theorem j_X7_hit_40 {G : en_G} {q : Option en_V → en_S → Prop}  {l0 l1 l2 l3 l4 l5 l6 l7 : en_V} {a0 : Int32} {σ : en_S} : en_J (X_X7_hit G q) 40 [l0, l1, l2, l3, l4, l5, l6, l7] [en_I a0] σ ↔ (a0 = 0 → en_J (X_X7_hit G q) 80 [l0, l1, l2, l3, l4, l5, l6, l7] [] σ) ∧ (¬ (a0 = 0) → en_J (X_X7_hit G q) 43 [l0, l1, l2, l3, l4, l5, l6, l7] [] σ) := en_jb d_X7_hit_40 rfl ⟨rfl, by decide⟩
theorem d_X7_hit_43 : decode cX7_hit 43 = .ok (.iload 5, 2) := by decide +kernel
theorem j_X7_hit_43 {G : en_G} {q : Option en_V → en_S → Prop}  {l0 l1 l2 l3 l4 l6 l7 : en_V} {x5 : Int32} {σ : en_S} : en_J (X_X7_hit G q) 43 [l0, l1, l2, l3, l4, en_I x5, l6, l7] [] σ ↔ en_J (X_X7_hit G q) 45 [l0, l1, l2, l3, l4, en_I x5, l6, l7] [en_I x5] σ := en_j1 d_X7_hit_43 rfl rfl
theorem d_X7_hit_45 : decode cX7_hit 45 = .ok (.ifCond .lt 20, 3) := by decide +kernel
theorem j_X7_hit_45 {G : en_G} {q : Option en_V → en_S → Prop}  {l0 l1 l2 l3 l4 l5 l6 l7 : en_V} {a0 : Int32} {σ : en_S} : en_J (X_X7_hit G q) 45 [l0, l1, l2, l3, l4, l5, l6, l7] [en_I a0] σ ↔ (a0 < 0 → en_J (X_X7_hit G q) 65 [l0, l1, l2, l3, l4, l5, l6, l7] [] σ) ∧ (¬ (a0 < 0) → en_J (X_X7_hit G q) 48 [l0, l1, l2, l3, l4, l5, l6, l7] [] σ) := en_jb d_X7_hit_45 rfl ⟨rfl, by decide⟩
theorem d_X7_hit_48 : decode cX7_hit 48 = .ok (.aload_n 0, 1) := by decide +kernel
theorem j_X7_hit_48 {G : en_G} {q : Option en_V → en_S → Prop}  {l1 l2 l3 l4 l5 l6 l7 : en_V} {x0 : Option Nat} {σ : en_S} : en_J (X_X7_hit G q) 48 [en_R x0, l1, l2, l3, l4, l5, l6, l7] [] σ ↔ en_J (X_X7_hit G q) 49 [en_R x0, l1, l2, l3, l4, l5, l6, l7] [en_R x0] σ := en_j1 d_X7_hit_48 rfl rfl
theorem d_X7_hit_49 : decode cX7_hit 49 = .ok (.getfield 82, 3) := by decide +kernel
theorem j_X7_hit_49 {G : en_G} {q : Option en_V → en_S → Prop}  {l0 l1 l2 l3 l4 l5 l6 l7 : en_V} {a0 : Option Nat} {σ : en_S} : en_J (X_X7_hit G q) 49 [l0, l1, l2, l3, l4, l5, l6, l7] [en_R a0] σ ↔ ∃ a, a0 = some a ∧ en_cl σ a = some 7 ∧ en_J (X_X7_hit G q) 52 [l0, l1, l2, l3, l4, l5, l6, l7] [en_R (en_fr σ 725 a)] σ := en_jg (st := fun o => [en_R o]) (st' := fun a => [en_R (en_fr σ 725 a)]) (σ' := fun _ => σ) d_X7_hit_49 rfl (fun a => rfl) (fun a => ⟨fun h => h.2, fun h => ⟨rfl, h⟩⟩)
theorem d_X7_hit_52 : decode cX7_hit 52 = .ok (.iload 7, 2) := by decide +kernel
theorem j_X7_hit_52 {G : en_G} {q : Option en_V → en_S → Prop}  {l0 l1 l2 l3 l4 l5 l6 : en_V} {a0 : Option Nat} {x7 : Int32} {σ : en_S} : en_J (X_X7_hit G q) 52 [l0, l1, l2, l3, l4, l5, l6, en_I x7] [en_R a0] σ ↔ en_J (X_X7_hit G q) 54 [l0, l1, l2, l3, l4, l5, l6, en_I x7] [en_I x7, en_R a0] σ := en_j1 d_X7_hit_52 rfl rfl
theorem d_X7_hit_54 : decode cX7_hit 54 = .ok (.iaload, 1) := by decide +kernel
theorem j_X7_hit_54 {G : en_G} {q : Option en_V → en_S → Prop}  {l0 l1 l2 l3 l4 l5 l6 l7 : en_V} {a0 : Int32} {a1 : Option Nat} {σ : en_S} : en_J (X_X7_hit G q) 54 [l0, l1, l2, l3, l4, l5, l6, l7] [en_I a0, en_R a1] σ ↔ ∃ a, a1 = some a ∧ (∃ k, en_al σ a = some (0, k) ∧ vp_in a0 k) ∧ en_J (X_X7_hit G q) 55 [l0, l1, l2, l3, l4, l5, l6, l7] [en_I (en_ai σ a a0.toNatClampNeg)] σ := ej_iaload d_X7_hit_54 rfl
theorem d_X7_hit_55 : decode cX7_hit 55 = .ok (.aload_n 0, 1) := by decide +kernel
theorem j_X7_hit_55 {G : en_G} {q : Option en_V → en_S → Prop}  {l1 l2 l3 l4 l5 l6 l7 : en_V} {a0 : Int32} {x0 : Option Nat} {σ : en_S} : en_J (X_X7_hit G q) 55 [en_R x0, l1, l2, l3, l4, l5, l6, l7] [en_I a0] σ ↔ en_J (X_X7_hit G q) 56 [en_R x0, l1, l2, l3, l4, l5, l6, l7] [en_R x0, en_I a0] σ := en_j1 d_X7_hit_55 rfl rfl
theorem d_X7_hit_56 : decode cX7_hit 56 = .ok (.getfield 82, 3) := by decide +kernel
theorem j_X7_hit_56 {G : en_G} {q : Option en_V → en_S → Prop}  {l0 l1 l2 l3 l4 l5 l6 l7 : en_V} {a0 : Option Nat} {a1 : Int32} {σ : en_S} : en_J (X_X7_hit G q) 56 [l0, l1, l2, l3, l4, l5, l6, l7] [en_R a0, en_I a1] σ ↔ ∃ a, a0 = some a ∧ en_cl σ a = some 7 ∧ en_J (X_X7_hit G q) 59 [l0, l1, l2, l3, l4, l5, l6, l7] [en_R (en_fr σ 725 a), en_I a1] σ := en_jg (st := fun o => [en_R o, en_I a1]) (st' := fun a => [en_R (en_fr σ 725 a), en_I a1]) (σ' := fun _ => σ) d_X7_hit_56 rfl (fun a => rfl) (fun a => ⟨fun h => h.2, fun h => ⟨rfl, h⟩⟩)
theorem d_X7_hit_59 : decode cX7_hit 59 = .ok (.iload 5, 2) := by decide +kernel
theorem j_X7_hit_59 {G : en_G} {q : Option en_V → en_S → Prop}  {l0 l1 l2 l3 l4 l6 l7 : en_V} {a0 : Option Nat} {a1 : Int32} {x5 : Int32} {σ : en_S} : en_J (X_X7_hit G q) 59 [l0, l1, l2, l3, l4, en_I x5, l6, l7] [en_R a0, en_I a1] σ ↔ en_J (X_X7_hit G q) 61 [l0, l1, l2, l3, l4, en_I x5, l6, l7] [en_I x5, en_R a0, en_I a1] σ := en_j1 d_X7_hit_59 rfl rfl
theorem d_X7_hit_61 : decode cX7_hit 61 = .ok (.iaload, 1) := by decide +kernel
theorem j_X7_hit_61 {G : en_G} {q : Option en_V → en_S → Prop}  {l0 l1 l2 l3 l4 l5 l6 l7 : en_V} {a0 : Int32} {a1 : Option Nat} {a2 : Int32} {σ : en_S} : en_J (X_X7_hit G q) 61 [l0, l1, l2, l3, l4, l5, l6, l7] [en_I a0, en_R a1, en_I a2] σ ↔ ∃ a, a1 = some a ∧ (∃ k, en_al σ a = some (0, k) ∧ vp_in a0 k) ∧ en_J (X_X7_hit G q) 62 [l0, l1, l2, l3, l4, l5, l6, l7] [en_I (en_ai σ a a0.toNatClampNeg), en_I a2] σ := ej_iaload d_X7_hit_61 rfl
theorem d_X7_hit_62 : decode cX7_hit 62 = .ok (.if_icmp .lt 18, 3) := by decide +kernel
theorem j_X7_hit_62 {G : en_G} {q : Option en_V → en_S → Prop}  {l0 l1 l2 l3 l4 l5 l6 l7 : en_V} {a0 : Int32} {a1 : Int32} {σ : en_S} : en_J (X_X7_hit G q) 62 [l0, l1, l2, l3, l4, l5, l6, l7] [en_I a0, en_I a1] σ ↔ (a1 < a0 → en_J (X_X7_hit G q) 80 [l0, l1, l2, l3, l4, l5, l6, l7] [] σ) ∧ (¬ (a1 < a0) → en_J (X_X7_hit G q) 65 [l0, l1, l2, l3, l4, l5, l6, l7] [] σ) := en_jb d_X7_hit_62 rfl ⟨rfl, by decide⟩
theorem d_X7_hit_65 : decode cX7_hit 65 = .ok (.aload_n 0, 1) := by decide +kernel
theorem j_X7_hit_65 {G : en_G} {q : Option en_V → en_S → Prop}  {l1 l2 l3 l4 l5 l6 l7 : en_V} {x0 : Option Nat} {σ : en_S} : en_J (X_X7_hit G q) 65 [en_R x0, l1, l2, l3, l4, l5, l6, l7] [] σ ↔ en_J (X_X7_hit G q) 66 [en_R x0, l1, l2, l3, l4, l5, l6, l7] [en_R x0] σ := en_j1 d_X7_hit_65 rfl rfl
theorem d_X7_hit_66 : decode cX7_hit 66 = .ok (.iload 7, 2) := by decide +kernel
theorem j_X7_hit_66 {G : en_G} {q : Option en_V → en_S → Prop}  {l0 l1 l2 l3 l4 l5 l6 : en_V} {a0 : Option Nat} {x7 : Int32} {σ : en_S} : en_J (X_X7_hit G q) 66 [l0, l1, l2, l3, l4, l5, l6, en_I x7] [en_R a0] σ ↔ en_J (X_X7_hit G q) 68 [l0, l1, l2, l3, l4, l5, l6, en_I x7] [en_I x7, en_R a0] σ := en_j1 d_X7_hit_66 rfl rfl
theorem d_X7_hit_68 : decode cX7_hit 68 = .ok (.dload_n 1, 1) := by decide +kernel
theorem j_X7_hit_68 {G : en_G} {q : Option en_V → en_S → Prop}  {l0 l2 l3 l4 l5 l6 l7 : en_V} {a0 : Int32} {a1 : Option Nat} {x1 : UInt64} {σ : en_S} : en_J (X_X7_hit G q) 68 [l0, en_D x1, l2, l3, l4, l5, l6, l7] [en_I a0, en_R a1] σ ↔ en_J (X_X7_hit G q) 69 [l0, en_D x1, l2, l3, l4, l5, l6, l7] [en_D x1, en_I a0, en_R a1] σ := en_j1 d_X7_hit_68 rfl rfl
theorem d_X7_hit_69 : decode cX7_hit 69 = .ok (.dload_n 3, 1) := by decide +kernel
theorem j_X7_hit_69 {G : en_G} {q : Option en_V → en_S → Prop}  {l0 l1 l2 l4 l5 l6 l7 : en_V} {a0 : UInt64} {a1 : Int32} {a2 : Option Nat} {x3 : UInt64} {σ : en_S} : en_J (X_X7_hit G q) 69 [l0, l1, l2, en_D x3, l4, l5, l6, l7] [en_D a0, en_I a1, en_R a2] σ ↔ en_J (X_X7_hit G q) 70 [l0, l1, l2, en_D x3, l4, l5, l6, l7] [en_D x3, en_D a0, en_I a1, en_R a2] σ := en_j1 d_X7_hit_69 rfl rfl
theorem d_X7_hit_70 : decode cX7_hit 70 = .ok (.invokevirtual 271, 3) := by decide +kernel
theorem j_X7_hit_70 {G : en_G} {q : Option en_V → en_S → Prop}  {l0 l1 l2 l3 l4 l5 l6 l7 : en_V} {a0 : UInt64} {a1 : UInt64} {a2 : Int32} {a3 : Option Nat} {σ : en_S} : en_J (X_X7_hit G q) 70 [l0, l1, l2, l3, l4, l5, l6, l7] [en_D a0, en_D a1, en_I a2, en_R a3] σ ↔ (C_X7_holds G).1 [en_R a3, en_I a2, en_D a1, en_D a0] σ ∧ ∀ (r : Option en_V) (σ' : en_S), (C_X7_holds G).2 [en_R a3, en_I a2, en_D a1, en_D a0] σ r σ' → en_J (X_X7_hit G q) 73 [l0, l1, l2, l3, l4, l5, l6, l7] (r.toList ++ []) σ' := en_jkC (C := (C_X7_holds G)) (n' := 4) (k := 1) (idx := 271) d_X7_hit_70 rfl rfl (by decide) (Nat.le_of_ble_eq_true rfl) (Nat.le_of_ble_eq_true rfl)
theorem d_X7_hit_73 : decode cX7_hit 73 = .ok (.ifCond .eq 7, 3) := by decide +kernel
theorem j_X7_hit_73 {G : en_G} {q : Option en_V → en_S → Prop}  {l0 l1 l2 l3 l4 l5 l6 l7 : en_V} {a0 : Int32} {σ : en_S} : en_J (X_X7_hit G q) 73 [l0, l1, l2, l3, l4, l5, l6, l7] [en_I a0] σ ↔ (a0 = 0 → en_J (X_X7_hit G q) 80 [l0, l1, l2, l3, l4, l5, l6, l7] [] σ) ∧ (¬ (a0 = 0) → en_J (X_X7_hit G q) 76 [l0, l1, l2, l3, l4, l5, l6, l7] [] σ) := en_jb d_X7_hit_73 rfl ⟨rfl, by decide⟩
theorem d_X7_hit_76 : decode cX7_hit 76 = .ok (.iload 7, 2) := by decide +kernel
theorem j_X7_hit_76 {G : en_G} {q : Option en_V → en_S → Prop}  {l0 l1 l2 l3 l4 l5 l6 : en_V} {x7 : Int32} {σ : en_S} : en_J (X_X7_hit G q) 76 [l0, l1, l2, l3, l4, l5, l6, en_I x7] [] σ ↔ en_J (X_X7_hit G q) 78 [l0, l1, l2, l3, l4, l5, l6, en_I x7] [en_I x7] σ := en_j1 d_X7_hit_76 rfl rfl
theorem d_X7_hit_78 : decode cX7_hit 78 = .ok (.istore 5, 2) := by decide +kernel
theorem j_X7_hit_78 {G : en_G} {q : Option en_V → en_S → Prop}  {l0 l1 l2 l3 l4 l5 l6 l7 : en_V} {a0 : Int32} {σ : en_S} : en_J (X_X7_hit G q) 78 [l0, l1, l2, l3, l4, l5, l6, l7] [en_I a0] σ ↔ en_J (X_X7_hit G q) 80 [l0, l1, l2, l3, en_c2 l4, en_I a0, l6, l7] [] σ := en_j1 d_X7_hit_78 rfl ⟨rfl, Nat.le_of_ble_eq_true rfl⟩
theorem d_X7_hit_80 : decode cX7_hit 80 = .ok (.iinc 6 1, 3) := by decide +kernel
theorem j_X7_hit_80 {G : en_G} {q : Option en_V → en_S → Prop}  {l0 l1 l2 l3 l4 l5 l7 : en_V} {x6 : Int32} {σ : en_S} : en_J (X_X7_hit G q) 80 [l0, l1, l2, l3, l4, l5, en_I x6, l7] [] σ ↔ en_J (X_X7_hit G q) 83 [l0, l1, l2, l3, l4, en_c2 l5, en_I (x6 + 1), l7] [] σ := ej_iinc d_X7_hit_80 rfl (by decide +kernel) rfl
theorem d_X7_hit_83 : decode cX7_hit 83 = .ok (.goto (-68), 3) := by decide +kernel
theorem j_X7_hit_83 {G : en_G} {q : Option en_V → en_S → Prop}  {l0 l1 l2 l3 l4 l5 l6 l7 : en_V}  {σ : en_S} : en_J (X_X7_hit G q) 83 [l0, l1, l2, l3, l4, l5, l6, l7] [] σ ↔ en_J (X_X7_hit G q) 15 [l0, l1, l2, l3, l4, l5, l6, l7] [] σ := en_j1 d_X7_hit_83 rfl ⟨rfl, by decide⟩
theorem d_X7_hit_86 : decode cX7_hit 86 = .ok (.iload 5, 2) := by decide +kernel
theorem j_X7_hit_86 {G : en_G} {q : Option en_V → en_S → Prop}  {l0 l1 l2 l3 l4 l6 l7 : en_V} {x5 : Int32} {σ : en_S} : en_J (X_X7_hit G q) 86 [l0, l1, l2, l3, l4, en_I x5, l6, l7] [] σ ↔ en_J (X_X7_hit G q) 88 [l0, l1, l2, l3, l4, en_I x5, l6, l7] [en_I x5] σ := en_j1 d_X7_hit_86 rfl rfl
theorem d_X7_hit_88 : decode cX7_hit 88 = .ok (.ireturn, 1) := by decide +kernel
theorem j_X7_hit_88 {G : en_G} {q : Option en_V → en_S → Prop}  {l0 l1 l2 l3 l4 l5 l6 l7 : en_V} {a0 : Int32} {σ : en_S} : en_J (X_X7_hit G q) 88 [l0, l1, l2, l3, l4, l5, l6, l7] [en_I a0] σ ↔ q (some (en_I a0)) σ := en_jr d_X7_hit_88 rfl ⟨fun h => h.2.2, fun h => ⟨rfl, Or.inl rfl, h⟩⟩
theorem wc_X7_hit : Jvm.Cond.code yX7_hit cX7_hit 8 (some .int) ∈ en_W := en_inW (List.mem_of_getElem? (i := 1017) (by decide +kernel)) (by decide +kernel)
theorem wi_X7_hit : Jvm.Cond.instanceMethod yX7_hit ∈ en_W := en_inW (List.mem_of_getElem? (i := 1015) (by decide +kernel)) (by decide +kernel)
theorem wx_X7_hit : Jvm.Cond.selects RX7 yX7_hit yX7_hit ∈ en_W := en_inW (List.mem_of_getElem? (i := 1016) (by decide +kernel)) (by decide +kernel)
theorem jw_X7_hit {G : en_G} {q : Option en_V → en_S → Prop} {m : Nat} {A : st_A} {px py : UInt64} {O : List Nat} (hlt : ∀ n ∈ O, n < tr_N (sa_T A)) (hlen : O.length ≤ 24) : ∀ (j i : Nat) (best : Option Nat) (σ : en_S), RX m A σ → od_l m O σ → i + j = O.length → (∀ b, best = some b → b < tr_N (sa_T A) ∧ sa_B A b ≠ none) → (∀ σ' best', ag σ σ' TT (wV m) → sz σ σ' → RX m A σ' → best' = (O.drop i).foldl (ht_st A px py) best → q (some (en_I (st_num best'))) σ') → ∀ (l7 : en_V), en_J (X_X7_hit G q) 15 [en_R (some m), en_D px, en_U, en_D py, en_U, en_I (st_num best), en_I (nI i), l7] [] σ := by
  intro j
  induction j with
  | zero =>
    intro i best σ hR hl hi hb hq l7
    have hS := hR.1
    have o7 := hl.1
    have z1 : nI O.length ≤ nI i := nI_le (by omega) (by omega)
    have := hq σ best ag.rf sz.rf hR (by rw [List.drop_eq_nil_of_le (by omega)]; rfl)
    rw [j_X7_hit_15]
    simp only [j_X7_hit_0, j_X7_hit_1, j_X7_hit_2, j_X7_hit_5, j_X7_hit_6, j_X7_hit_9, j_X7_hit_10, j_X7_hit_12, j_X7_hit_13, j_X7_hit_17, j_X7_hit_18, j_X7_hit_21, j_X7_hit_24, j_X7_hit_25, j_X7_hit_28, j_X7_hit_30, j_X7_hit_31, j_X7_hit_33, j_X7_hit_34, j_X7_hit_37, j_X7_hit_39, j_X7_hit_40, j_X7_hit_43, j_X7_hit_45, j_X7_hit_48, j_X7_hit_49, j_X7_hit_52, j_X7_hit_54, j_X7_hit_55, j_X7_hit_56, j_X7_hit_59, j_X7_hit_61, j_X7_hit_62, j_X7_hit_65, j_X7_hit_66, j_X7_hit_68, j_X7_hit_69, j_X7_hit_70, j_X7_hit_73, j_X7_hit_76, j_X7_hit_78, j_X7_hit_80, j_X7_hit_83, j_X7_hit_86, j_X7_hit_88, en_c2I, en_c2R, en_c2U, en_c2D, Option.some.injEq, exists_eq_left', exists_eq_left, Option.map_some, Option.map_none, not_true_eq_false, false_implies, true_implies, and_true, true_and, reduceCtorEq, not_false_eq_true, true_or, or_true, rs_c hS, rs_f726 hS, rs_a24 hS, rs_f719 hS, rs_a17 hS, rs_f725 hS, rs_a23 hS, o7, z1]
    exact this
  | succ j ih =>
    intro i best σ hR hl hi hb hq l7
    have hS := hR.1
    have w := hR.2.2.2.2.2.2.2.2.2
    have hN := w.1.1.2
    have o7 := hl.1
    have z1 : ¬ nI O.length ≤ nI i := nI_ge (by omega) (by omega)
    have hge : O[i]? = some O[i] := List.getElem?_eq_getElem (by omega)
    have hn := hlt O[i] (List.getElem_mem _)
    have r0 := hl.2 i _ hge
    have hd : O.drop i = O[i] :: O.drop (i + 1) := List.drop_eq_getElem_cons (by omega)
    generalize hnd : O[i] = n at hge hn r0 hd
    rw [hd] at hq
    simp only [List.foldl_cons] at hq
    have n3 : vp_in (nI i) 24 := vp_in_nI (by omega) (by decide)
    have n4 : (nI i).toNatClampNeg = i := nI_clamp (by omega)
    have m3 : vp_in (nI n) 24 := vp_in_nI (by omega) (by decide)
    have m4 : (nI n).toNatClampNeg = n := nI_clamp (by omega)
    obtain ⟨r1, r2⟩ := hR.2.2.2.2.1 n hn
    have i1 : ¬ (1 : Int32) = 0 := by decide
    -- from 80 on, with what the node makes of best
    have next : ∀ (σ1 : en_S) (best1 : Option Nat), ag σ σ1 TT (wV m) → sz σ σ1 → RX m A σ1 → best1 = ht_st A px py best n → (∀ b, best1 = some b → b < tr_N (sa_T A) ∧ sa_B A b ≠ none) → en_J (X_X7_hit G q) 80 [en_R (some m), en_D px, en_U, en_D py, en_U, en_I (st_num best1), en_I (nI i), en_I (nI n)] [] σ1 := by
      intro σ1 best1 g1 s1 hR1 hb1 hb1'
      have x := rs_nx hS
      have hl1 : od_l m O σ1 := by
        unfold od_l
        rw [((g1.2 (m + 24) (by omega)).2.2.2 (by unfold wV; omega)).1, ((g1.2 m (by omega)).2.2.1 727 trivial).1]
        exact hl
      have e1 : nI i + 1 = nI (i + 1) := nI_1 _
      have := ih (i + 1) best1 σ1 hR1 hl1 (by omega) hb1' (fun σ' best' g s hR' he => hq σ' best' (g1.tr g) (s1.tr s) hR' (by rw [he, hb1])) (en_I (nI n))
      simp only [j_X7_hit_0, j_X7_hit_1, j_X7_hit_2, j_X7_hit_5, j_X7_hit_6, j_X7_hit_9, j_X7_hit_10, j_X7_hit_12, j_X7_hit_13, j_X7_hit_17, j_X7_hit_18, j_X7_hit_21, j_X7_hit_24, j_X7_hit_25, j_X7_hit_28, j_X7_hit_30, j_X7_hit_31, j_X7_hit_33, j_X7_hit_34, j_X7_hit_37, j_X7_hit_39, j_X7_hit_40, j_X7_hit_43, j_X7_hit_45, j_X7_hit_48, j_X7_hit_49, j_X7_hit_52, j_X7_hit_54, j_X7_hit_55, j_X7_hit_56, j_X7_hit_59, j_X7_hit_61, j_X7_hit_62, j_X7_hit_65, j_X7_hit_66, j_X7_hit_68, j_X7_hit_69, j_X7_hit_70, j_X7_hit_73, j_X7_hit_76, j_X7_hit_78, j_X7_hit_80, j_X7_hit_83, j_X7_hit_86, j_X7_hit_88, en_c2I, en_c2R, en_c2U, en_c2D, Option.some.injEq, exists_eq_left', exists_eq_left, Option.map_some, Option.map_none, not_true_eq_false, false_implies, true_implies, and_true, true_and, reduceCtorEq, not_false_eq_true, true_or, or_true, e1]
      exact this
    rw [j_X7_hit_15]
    cases hbx : sa_B A n with
    | none =>
      rw [hbx] at r1
      have := next σ best ag.rf sz.rf hR (by unfold ht_st; rw [hbx]) hb
      simp only [j_X7_hit_0, j_X7_hit_1, j_X7_hit_2, j_X7_hit_5, j_X7_hit_6, j_X7_hit_9, j_X7_hit_10, j_X7_hit_12, j_X7_hit_13, j_X7_hit_17, j_X7_hit_18, j_X7_hit_21, j_X7_hit_24, j_X7_hit_25, j_X7_hit_28, j_X7_hit_30, j_X7_hit_31, j_X7_hit_33, j_X7_hit_34, j_X7_hit_37, j_X7_hit_39, j_X7_hit_40, j_X7_hit_43, j_X7_hit_45, j_X7_hit_48, j_X7_hit_49, j_X7_hit_52, j_X7_hit_54, j_X7_hit_55, j_X7_hit_56, j_X7_hit_59, j_X7_hit_61, j_X7_hit_62, j_X7_hit_65, j_X7_hit_66, j_X7_hit_68, j_X7_hit_69, j_X7_hit_70, j_X7_hit_73, j_X7_hit_76, j_X7_hit_78, j_X7_hit_83, j_X7_hit_86, j_X7_hit_88, en_c2I, en_c2R, en_c2U, en_c2D, Option.some.injEq, exists_eq_left', exists_eq_left, Option.map_some, Option.map_none, not_true_eq_false, false_implies, true_implies, and_true, true_and, reduceCtorEq, not_false_eq_true, true_or, or_true, eg_cl_sfi, eg_fi_sfi, eg_fr_sfi, eg_fd_sfi, eg_al_sfi, eg_ai_sfi, eg_ar_sfi, eg_ad_sfi, eg_aj_sfi, eg_nx_sfi, eg_ns_sfi, eg_cl_sfr, eg_fi_sfr, eg_fr_sfr, eg_fd_sfr, eg_al_sfr, eg_ai_sfr, eg_ar_sfr, eg_ad_sfr, eg_aj_sfr, eg_nx_sfr, eg_ns_sfr, eg_cl_sfd, eg_fi_sfd, eg_fr_sfd, eg_fd_sfd, eg_al_sfd, eg_ai_sfd, eg_ar_sfd, eg_ad_sfd, eg_aj_sfd, eg_nx_sfd, eg_ns_sfd, eg_cl_sai, eg_fi_sai, eg_fr_sai, eg_fd_sai, eg_al_sai, eg_ai_sai, eg_ar_sai, eg_ad_sai, eg_aj_sai, eg_nx_sai, eg_ns_sai, eg_cl_sar, eg_fi_sar, eg_fr_sar, eg_fd_sar, eg_al_sar, eg_ai_sar, eg_ar_sar, eg_ad_sar, eg_aj_sar, eg_nx_sar, eg_ns_sar, eg_cl_sad, eg_fi_sad, eg_fr_sad, eg_fd_sad, eg_al_sad, eg_ai_sad, eg_ar_sad, eg_ad_sad, eg_aj_sad, eg_nx_sad, eg_ns_sad, eg_cl_saj, eg_fi_saj, eg_fr_saj, eg_fd_saj, eg_al_saj, eg_ai_saj, eg_ar_saj, eg_ad_saj, eg_aj_saj, eg_nx_saj, eg_ns_saj, eg_cl_new, eg_fi_new, eg_fr_new, eg_fd_new, eg_al_new, eg_ai_new, eg_ar_new, eg_ad_new, eg_aj_new, eg_nx_new, eg_ns_new, eg_cl_newa, eg_fi_newa, eg_fr_newa, eg_fd_newa, eg_al_newa, eg_ai_newa, eg_ar_newa, eg_ad_newa, eg_aj_newa, eg_nx_newa, eg_ns_newa, eg_cl_bump, eg_fi_bump, eg_fr_bump, eg_fd_bump, eg_al_bump, eg_ai_bump, eg_ar_bump, eg_ad_bump, eg_aj_bump, eg_nx_bump, eg_ns_bump, rs_c hS, rs_f726 hS, rs_a24 hS, rs_f719 hS, rs_a17 hS, rs_f725 hS, rs_a23 hS, Prod.mk.injEq, o7, z1, n3, n4, r0, m3, m4, r1, Option.isSome_none, st_bf]
      exact this
    | some b =>
      rw [hbx] at r1
      obtain ⟨c1, c2, c3, c4, c5, c6⟩ := r2 b hbx
      have hst : ht_st A px py best n = if ht_in b (ms_at A n) px py = true ∧ (best = none ∨ ht_lay A best ≤ b.2.2.2.2.2) then some n else best := by unfold ht_st; rw [hbx]
      -- at 65
      have test : (best = none ∨ ht_lay A best ≤ b.2.2.2.2.2) → en_J (X_X7_hit G q) 65 [en_R (some m), en_D px, en_U, en_D py, en_U, en_I (st_num best), en_I (nI i), en_I (nI n)] [] σ := by
        intro hc
        simp only [j_X7_hit_0, j_X7_hit_1, j_X7_hit_2, j_X7_hit_5, j_X7_hit_6, j_X7_hit_9, j_X7_hit_10, j_X7_hit_12, j_X7_hit_13, j_X7_hit_17, j_X7_hit_18, j_X7_hit_21, j_X7_hit_24, j_X7_hit_25, j_X7_hit_28, j_X7_hit_30, j_X7_hit_31, j_X7_hit_33, j_X7_hit_34, j_X7_hit_37, j_X7_hit_39, j_X7_hit_40, j_X7_hit_43, j_X7_hit_45, j_X7_hit_48, j_X7_hit_49, j_X7_hit_52, j_X7_hit_54, j_X7_hit_55, j_X7_hit_56, j_X7_hit_59, j_X7_hit_61, j_X7_hit_62, j_X7_hit_65, j_X7_hit_66, j_X7_hit_68, j_X7_hit_69, j_X7_hit_70, j_X7_hit_73, j_X7_hit_76, j_X7_hit_78, j_X7_hit_83, j_X7_hit_86, j_X7_hit_88, en_c2I, en_c2R, en_c2U, en_c2D, Option.some.injEq, exists_eq_left', exists_eq_left, Option.map_some, Option.map_none, not_true_eq_false, false_implies, true_implies, and_true, true_and, reduceCtorEq, not_false_eq_true, true_or, or_true]
        refine en_use (cu_X7_holds ⟨hR, hn, hbx⟩) ?_
        rintro v σ1 ⟨hR1, g1, s1, rfl⟩
        cases hh : ht_in b (ms_at A n) px py with
        | false =>
          have := next σ1 best g1 s1 hR1 (by rw [hst, if_neg (fun z => by rw [hh] at z; cases z.1)]) hb
          simp only [Option.toList, List.cons_append, List.nil_append, j_X7_hit_0, j_X7_hit_1, j_X7_hit_2, j_X7_hit_5, j_X7_hit_6, j_X7_hit_9, j_X7_hit_10, j_X7_hit_12, j_X7_hit_13, j_X7_hit_17, j_X7_hit_18, j_X7_hit_21, j_X7_hit_24, j_X7_hit_25, j_X7_hit_28, j_X7_hit_30, j_X7_hit_31, j_X7_hit_33, j_X7_hit_34, j_X7_hit_37, j_X7_hit_39, j_X7_hit_40, j_X7_hit_43, j_X7_hit_45, j_X7_hit_48, j_X7_hit_49, j_X7_hit_52, j_X7_hit_54, j_X7_hit_55, j_X7_hit_56, j_X7_hit_59, j_X7_hit_61, j_X7_hit_62, j_X7_hit_65, j_X7_hit_66, j_X7_hit_68, j_X7_hit_69, j_X7_hit_70, j_X7_hit_73, j_X7_hit_76, j_X7_hit_78, j_X7_hit_83, j_X7_hit_86, j_X7_hit_88, en_c2I, en_c2R, en_c2U, en_c2D, Option.some.injEq, exists_eq_left', exists_eq_left, Option.map_some, Option.map_none, not_true_eq_false, false_implies, true_implies, and_true, true_and, reduceCtorEq, not_false_eq_true, true_or, or_true, st_bf]
          exact this
        | true =>
          have := next σ1 (some n) g1 s1 hR1 (by rw [hst, if_pos ⟨hh, hc⟩]) (fun c hc => by cases hc; exact ⟨hn, by rw [hbx]; simp⟩)
          simp only [Option.toList, List.cons_append, List.nil_append, j_X7_hit_0, j_X7_hit_1, j_X7_hit_2, j_X7_hit_5, j_X7_hit_6, j_X7_hit_9, j_X7_hit_10, j_X7_hit_12, j_X7_hit_13, j_X7_hit_17, j_X7_hit_18, j_X7_hit_21, j_X7_hit_24, j_X7_hit_25, j_X7_hit_28, j_X7_hit_30, j_X7_hit_31, j_X7_hit_33, j_X7_hit_34, j_X7_hit_37, j_X7_hit_39, j_X7_hit_40, j_X7_hit_43, j_X7_hit_45, j_X7_hit_48, j_X7_hit_49, j_X7_hit_52, j_X7_hit_54, j_X7_hit_55, j_X7_hit_56, j_X7_hit_59, j_X7_hit_61, j_X7_hit_62, j_X7_hit_65, j_X7_hit_66, j_X7_hit_68, j_X7_hit_69, j_X7_hit_70, j_X7_hit_73, j_X7_hit_76, j_X7_hit_78, j_X7_hit_83, j_X7_hit_86, j_X7_hit_88, en_c2I, en_c2R, en_c2U, en_c2D, Option.some.injEq, exists_eq_left', exists_eq_left, Option.map_some, Option.map_none, not_true_eq_false, false_implies, true_implies, and_true, true_and, reduceCtorEq, not_false_eq_true, true_or, or_true, st_bt, i1]
          exact this
      cases hbest : best with
      | none =>
        rw [hbest] at test
        have := test (Or.inl rfl)
        have z2 : (-1 : Int32) < 0 := by decide
        simp only [j_X7_hit_0, j_X7_hit_1, j_X7_hit_2, j_X7_hit_5, j_X7_hit_6, j_X7_hit_9, j_X7_hit_10, j_X7_hit_12, j_X7_hit_13, j_X7_hit_17, j_X7_hit_18, j_X7_hit_21, j_X7_hit_24, j_X7_hit_25, j_X7_hit_28, j_X7_hit_30, j_X7_hit_31, j_X7_hit_33, j_X7_hit_34, j_X7_hit_37, j_X7_hit_39, j_X7_hit_40, j_X7_hit_43, j_X7_hit_45, j_X7_hit_48, j_X7_hit_49, j_X7_hit_52, j_X7_hit_54, j_X7_hit_55, j_X7_hit_56, j_X7_hit_59, j_X7_hit_61, j_X7_hit_62, j_X7_hit_66, j_X7_hit_68, j_X7_hit_69, j_X7_hit_70, j_X7_hit_73, j_X7_hit_76, j_X7_hit_78, j_X7_hit_83, j_X7_hit_86, j_X7_hit_88, en_c2I, en_c2R, en_c2U, en_c2D, Option.some.injEq, exists_eq_left', exists_eq_left, Option.map_some, Option.map_none, not_true_eq_false, false_implies, true_implies, and_true, true_and, reduceCtorEq, not_false_eq_true, true_or, or_true, eg_cl_sfi, eg_fi_sfi, eg_fr_sfi, eg_fd_sfi, eg_al_sfi, eg_ai_sfi, eg_ar_sfi, eg_ad_sfi, eg_aj_sfi, eg_nx_sfi, eg_ns_sfi, eg_cl_sfr, eg_fi_sfr, eg_fr_sfr, eg_fd_sfr, eg_al_sfr, eg_ai_sfr, eg_ar_sfr, eg_ad_sfr, eg_aj_sfr, eg_nx_sfr, eg_ns_sfr, eg_cl_sfd, eg_fi_sfd, eg_fr_sfd, eg_fd_sfd, eg_al_sfd, eg_ai_sfd, eg_ar_sfd, eg_ad_sfd, eg_aj_sfd, eg_nx_sfd, eg_ns_sfd, eg_cl_sai, eg_fi_sai, eg_fr_sai, eg_fd_sai, eg_al_sai, eg_ai_sai, eg_ar_sai, eg_ad_sai, eg_aj_sai, eg_nx_sai, eg_ns_sai, eg_cl_sar, eg_fi_sar, eg_fr_sar, eg_fd_sar, eg_al_sar, eg_ai_sar, eg_ar_sar, eg_ad_sar, eg_aj_sar, eg_nx_sar, eg_ns_sar, eg_cl_sad, eg_fi_sad, eg_fr_sad, eg_fd_sad, eg_al_sad, eg_ai_sad, eg_ar_sad, eg_ad_sad, eg_aj_sad, eg_nx_sad, eg_ns_sad, eg_cl_saj, eg_fi_saj, eg_fr_saj, eg_fd_saj, eg_al_saj, eg_ai_saj, eg_ar_saj, eg_ad_saj, eg_aj_saj, eg_nx_saj, eg_ns_saj, eg_cl_new, eg_fi_new, eg_fr_new, eg_fd_new, eg_al_new, eg_ai_new, eg_ar_new, eg_ad_new, eg_aj_new, eg_nx_new, eg_ns_new, eg_cl_newa, eg_fi_newa, eg_fr_newa, eg_fd_newa, eg_al_newa, eg_ai_newa, eg_ar_newa, eg_ad_newa, eg_aj_newa, eg_nx_newa, eg_ns_newa, eg_cl_bump, eg_fi_bump, eg_fr_bump, eg_fd_bump, eg_al_bump, eg_ai_bump, eg_ar_bump, eg_ad_bump, eg_aj_bump, eg_nx_bump, eg_ns_bump, rs_c hS, rs_f726 hS, rs_a24 hS, rs_f719 hS, rs_a17 hS, rs_f725 hS, rs_a23 hS, Prod.mk.injEq, o7, z1, n3, n4, r0, m3, m4, r1, Option.isSome_some, st_bt, i1, st_num_none, z2]
        exact this
      | some c =>
        obtain ⟨hc, hcb⟩ := hb c hbest
        have z2 : ¬ nI c < 0 := nI_pos (by omega)
        have k3 : vp_in (nI c) 24 := vp_in_nI (by omega) (by decide)
        have k4 : (nI c).toNatClampNeg = c := nI_clamp (by omega)
        cases hcx : sa_B A c with
        | none => exact absurd hcx hcb
        | some bc =>
          have d6 := ((hR.2.2.2.2.1 c hc).2 bc hcx).2.2.2.2.2
          have hlay : ht_lay A (some c) = bc.2.2.2.2.2 := by unfold ht_lay; simp only; rw [hcx]
          by_cases hle : b.2.2.2.2.2 < bc.2.2.2.2.2
          · have := next σ best ag.rf sz.rf hR (by
              rw [hst, if_neg]
              intro z
              rcases z.2 with z | z
              · rw [hbest] at z; cases z
              · rw [hbest, hlay] at z; exact absurd hle (Int32.not_lt.mpr z)) hb
            rw [hbest] at this
            simp only [j_X7_hit_0, j_X7_hit_1, j_X7_hit_2, j_X7_hit_5, j_X7_hit_6, j_X7_hit_9, j_X7_hit_10, j_X7_hit_12, j_X7_hit_13, j_X7_hit_17, j_X7_hit_18, j_X7_hit_21, j_X7_hit_24, j_X7_hit_25, j_X7_hit_28, j_X7_hit_30, j_X7_hit_31, j_X7_hit_33, j_X7_hit_34, j_X7_hit_37, j_X7_hit_39, j_X7_hit_40, j_X7_hit_43, j_X7_hit_45, j_X7_hit_48, j_X7_hit_49, j_X7_hit_52, j_X7_hit_54, j_X7_hit_55, j_X7_hit_56, j_X7_hit_59, j_X7_hit_61, j_X7_hit_62, j_X7_hit_66, j_X7_hit_68, j_X7_hit_69, j_X7_hit_70, j_X7_hit_73, j_X7_hit_76, j_X7_hit_78, j_X7_hit_83, j_X7_hit_86, j_X7_hit_88, en_c2I, en_c2R, en_c2U, en_c2D, Option.some.injEq, exists_eq_left', exists_eq_left, Option.map_some, Option.map_none, not_true_eq_false, false_implies, true_implies, and_true, true_and, reduceCtorEq, not_false_eq_true, true_or, or_true, eg_cl_sfi, eg_fi_sfi, eg_fr_sfi, eg_fd_sfi, eg_al_sfi, eg_ai_sfi, eg_ar_sfi, eg_ad_sfi, eg_aj_sfi, eg_nx_sfi, eg_ns_sfi, eg_cl_sfr, eg_fi_sfr, eg_fr_sfr, eg_fd_sfr, eg_al_sfr, eg_ai_sfr, eg_ar_sfr, eg_ad_sfr, eg_aj_sfr, eg_nx_sfr, eg_ns_sfr, eg_cl_sfd, eg_fi_sfd, eg_fr_sfd, eg_fd_sfd, eg_al_sfd, eg_ai_sfd, eg_ar_sfd, eg_ad_sfd, eg_aj_sfd, eg_nx_sfd, eg_ns_sfd, eg_cl_sai, eg_fi_sai, eg_fr_sai, eg_fd_sai, eg_al_sai, eg_ai_sai, eg_ar_sai, eg_ad_sai, eg_aj_sai, eg_nx_sai, eg_ns_sai, eg_cl_sar, eg_fi_sar, eg_fr_sar, eg_fd_sar, eg_al_sar, eg_ai_sar, eg_ar_sar, eg_ad_sar, eg_aj_sar, eg_nx_sar, eg_ns_sar, eg_cl_sad, eg_fi_sad, eg_fr_sad, eg_fd_sad, eg_al_sad, eg_ai_sad, eg_ar_sad, eg_ad_sad, eg_aj_sad, eg_nx_sad, eg_ns_sad, eg_cl_saj, eg_fi_saj, eg_fr_saj, eg_fd_saj, eg_al_saj, eg_ai_saj, eg_ar_saj, eg_ad_saj, eg_aj_saj, eg_nx_saj, eg_ns_saj, eg_cl_new, eg_fi_new, eg_fr_new, eg_fd_new, eg_al_new, eg_ai_new, eg_ar_new, eg_ad_new, eg_aj_new, eg_nx_new, eg_ns_new, eg_cl_newa, eg_fi_newa, eg_fr_newa, eg_fd_newa, eg_al_newa, eg_ai_newa, eg_ar_newa, eg_ad_newa, eg_aj_newa, eg_nx_newa, eg_ns_newa, eg_cl_bump, eg_fi_bump, eg_fr_bump, eg_fd_bump, eg_al_bump, eg_ai_bump, eg_ar_bump, eg_ad_bump, eg_aj_bump, eg_nx_bump, eg_ns_bump, rs_c hS, rs_f726 hS, rs_a24 hS, rs_f719 hS, rs_a17 hS, rs_f725 hS, rs_a23 hS, Prod.mk.injEq, o7, z1, n3, n4, r0, m3, m4, r1, Option.isSome_some, st_bt, i1, st_num_some, z2, k3, k4, c6, d6, hle]
            exact this
          · have := test (Or.inr (by rw [hbest, hlay]; exact Int32.not_lt.mp hle))
            rw [hbest] at this
            simp only [j_X7_hit_0, j_X7_hit_1, j_X7_hit_2, j_X7_hit_5, j_X7_hit_6, j_X7_hit_9, j_X7_hit_10, j_X7_hit_12, j_X7_hit_13, j_X7_hit_17, j_X7_hit_18, j_X7_hit_21, j_X7_hit_24, j_X7_hit_25, j_X7_hit_28, j_X7_hit_30, j_X7_hit_31, j_X7_hit_33, j_X7_hit_34, j_X7_hit_37, j_X7_hit_39, j_X7_hit_40, j_X7_hit_43, j_X7_hit_45, j_X7_hit_48, j_X7_hit_49, j_X7_hit_52, j_X7_hit_54, j_X7_hit_55, j_X7_hit_56, j_X7_hit_59, j_X7_hit_61, j_X7_hit_62, j_X7_hit_66, j_X7_hit_68, j_X7_hit_69, j_X7_hit_70, j_X7_hit_73, j_X7_hit_76, j_X7_hit_78, j_X7_hit_83, j_X7_hit_86, j_X7_hit_88, en_c2I, en_c2R, en_c2U, en_c2D, Option.some.injEq, exists_eq_left', exists_eq_left, Option.map_some, Option.map_none, not_true_eq_false, false_implies, true_implies, and_true, true_and, reduceCtorEq, not_false_eq_true, true_or, or_true, eg_cl_sfi, eg_fi_sfi, eg_fr_sfi, eg_fd_sfi, eg_al_sfi, eg_ai_sfi, eg_ar_sfi, eg_ad_sfi, eg_aj_sfi, eg_nx_sfi, eg_ns_sfi, eg_cl_sfr, eg_fi_sfr, eg_fr_sfr, eg_fd_sfr, eg_al_sfr, eg_ai_sfr, eg_ar_sfr, eg_ad_sfr, eg_aj_sfr, eg_nx_sfr, eg_ns_sfr, eg_cl_sfd, eg_fi_sfd, eg_fr_sfd, eg_fd_sfd, eg_al_sfd, eg_ai_sfd, eg_ar_sfd, eg_ad_sfd, eg_aj_sfd, eg_nx_sfd, eg_ns_sfd, eg_cl_sai, eg_fi_sai, eg_fr_sai, eg_fd_sai, eg_al_sai, eg_ai_sai, eg_ar_sai, eg_ad_sai, eg_aj_sai, eg_nx_sai, eg_ns_sai, eg_cl_sar, eg_fi_sar, eg_fr_sar, eg_fd_sar, eg_al_sar, eg_ai_sar, eg_ar_sar, eg_ad_sar, eg_aj_sar, eg_nx_sar, eg_ns_sar, eg_cl_sad, eg_fi_sad, eg_fr_sad, eg_fd_sad, eg_al_sad, eg_ai_sad, eg_ar_sad, eg_ad_sad, eg_aj_sad, eg_nx_sad, eg_ns_sad, eg_cl_saj, eg_fi_saj, eg_fr_saj, eg_fd_saj, eg_al_saj, eg_ai_saj, eg_ar_saj, eg_ad_saj, eg_aj_saj, eg_nx_saj, eg_ns_saj, eg_cl_new, eg_fi_new, eg_fr_new, eg_fd_new, eg_al_new, eg_ai_new, eg_ar_new, eg_ad_new, eg_aj_new, eg_nx_new, eg_ns_new, eg_cl_newa, eg_fi_newa, eg_fr_newa, eg_fd_newa, eg_al_newa, eg_ai_newa, eg_ar_newa, eg_ad_newa, eg_aj_newa, eg_nx_newa, eg_ns_newa, eg_cl_bump, eg_fi_bump, eg_fr_bump, eg_fd_bump, eg_al_bump, eg_ai_bump, eg_ar_bump, eg_ad_bump, eg_aj_bump, eg_nx_bump, eg_ns_bump, rs_c hS, rs_f726 hS, rs_a24 hS, rs_f719 hS, rs_a17 hS, rs_f725 hS, rs_a23 hS, Prod.mk.injEq, o7, z1, n3, n4, r0, m3, m4, r1, Option.isSome_some, st_bt, i1, st_num_some, z2, k3, k4, c6, d6, hle]
            exact this
theorem jl_X7_hit {G : en_G}  {m : Nat} {A : st_A} {px : UInt64} {py : UInt64} {q : Option en_V → en_S → Prop} {σ : en_S} (hp : RX m A σ) (hq : ∀ v σ', (RX m A σ' ∧ ag σ σ' (fun f _ => f ≠ 700 ∧ f ≠ 727) (aV m) ∧ sz σ σ' ∧ en_fi σ' 700 m = 0 ∧ v = some (en_I (st_num (ht_top A px py)))) → q v σ') : en_J (X_X7_hit G q) 0 [en_R (some m), en_D px, en_U, en_D py, en_U, en_U, en_U, en_U] [] σ := by
  have hR := hp
  have hS := hR.1
  have w := hR.2.2.2.2.2.2.2.2.2
  have g0 : ag σ (en_sfi σ 700 m 0) (fun f _ => f ≠ 700 ∧ f ≠ 727) (aV m) := ag_sfi (fun a z => absurd rfl z.1)
  have hR0 : RX m A (en_sfi σ 700 m 0) := hR.ag (ag_sfi (fun a z => absurd rfl z.1)) (rs_fr hS)
  simp only [j_X7_hit_0, j_X7_hit_1, j_X7_hit_2, j_X7_hit_5, j_X7_hit_6, j_X7_hit_9, j_X7_hit_10, j_X7_hit_12, j_X7_hit_13, j_X7_hit_17, j_X7_hit_18, j_X7_hit_21, j_X7_hit_24, j_X7_hit_25, j_X7_hit_28, j_X7_hit_30, j_X7_hit_31, j_X7_hit_33, j_X7_hit_34, j_X7_hit_37, j_X7_hit_39, j_X7_hit_40, j_X7_hit_43, j_X7_hit_45, j_X7_hit_48, j_X7_hit_49, j_X7_hit_52, j_X7_hit_54, j_X7_hit_55, j_X7_hit_56, j_X7_hit_59, j_X7_hit_61, j_X7_hit_62, j_X7_hit_65, j_X7_hit_66, j_X7_hit_68, j_X7_hit_69, j_X7_hit_70, j_X7_hit_73, j_X7_hit_76, j_X7_hit_78, j_X7_hit_80, j_X7_hit_83, j_X7_hit_86, j_X7_hit_88, en_c2I, en_c2R, en_c2U, en_c2D, Option.some.injEq, exists_eq_left', exists_eq_left, Option.map_some, Option.map_none, not_true_eq_false, false_implies, true_implies, and_true, true_and, reduceCtorEq, not_false_eq_true, true_or, or_true, rs_c hS, rs_f726 hS, rs_a24 hS, rs_f719 hS, rs_a17 hS, rs_f725 hS, rs_a23 hS]
  refine en_use (cu_X7_arrange hR0) ?_
  rintro v σ1 ⟨hR1, g1, s1, rfl, hl⟩
  have hlt := tv_lt w.1 24 (some 0) (fun n h => by cases h; exact w.1.1.1)
  have hlt' : ∀ n ∈ tv_e (sa_T A) (tv (sa_T A) 24 (some 0)), n < tr_N (sa_T A) := fun n hn => hlt n (List.mem_filter.mp hn).1
  have hlen : (tv_e (sa_T A) (tv (sa_T A) 24 (some 0))).length ≤ 24 := by
    refine Nat.le_trans (List.length_filter_le _ _) ?_
    have : ∀ (k : Nat) (c : Option Nat), (tv (sa_T A) k c).length ≤ k := by
      intro k
      induction k with
      | zero => intro c; exact Nat.le_refl _
      | succ k ih =>
        intro c
        cases c with
        | none => exact Nat.zero_le _
        | some n => simp only [tv, List.length_cons]; have := ih (tr_nso (sa_T A) n); omega
    exact this 24 _
  have x := rs_nx hS
  have h70 : en_fi σ1 700 m = 0 := by rw [((g1.2 m (by show m < en_nx σ; omega)).2.2.1 700 (by show 700 ≠ 727; decide)).1, eg_fi_sfi, if_pos ⟨rfl, rfl⟩]
  have key := jw_X7_hit (G := G) (q := q) (A := A) (m := m) (px := px) (py := py) (O := tv_e (sa_T A) (tv (sa_T A) 24 (some 0))) hlt' hlen (tv_e (sa_T A) (tv (sa_T A) 24 (some 0))).length 0 none σ1 hR1 hl (by omega) (fun b hb => by cases hb) (fun σ' best' g s hR' hbest => hq _ _ ⟨hR', (g0.tr (g1.mono (fun f a z => z.2) (fun a z => z))).tr (g.mono (fun f a z => trivial) (fun a z => z.2)), sz.tr ⟨rfl, rfl, rfl, rfl⟩ (s1.tr s), by rw [((g.2 m (by have := g1.1; have : en_nx (en_sfi σ 700 m 0) = en_nx σ := rfl; omega)).2.2.1 700 trivial).1]; exact h70, by
    rw [hbest, List.drop_zero, tv_skip w _ none hlt, ← tv_ht]; rfl⟩) en_U
  rw [show nI 0 = 0 from by decide +kernel] at key
  simp only [Option.toList, List.cons_append, List.nil_append, j_X7_hit_0, j_X7_hit_1, j_X7_hit_2, j_X7_hit_5, j_X7_hit_6, j_X7_hit_9, j_X7_hit_10, j_X7_hit_12, j_X7_hit_13, j_X7_hit_17, j_X7_hit_18, j_X7_hit_21, j_X7_hit_24, j_X7_hit_25, j_X7_hit_28, j_X7_hit_30, j_X7_hit_31, j_X7_hit_33, j_X7_hit_34, j_X7_hit_37, j_X7_hit_39, j_X7_hit_40, j_X7_hit_43, j_X7_hit_45, j_X7_hit_48, j_X7_hit_49, j_X7_hit_52, j_X7_hit_54, j_X7_hit_55, j_X7_hit_56, j_X7_hit_59, j_X7_hit_61, j_X7_hit_62, j_X7_hit_65, j_X7_hit_66, j_X7_hit_68, j_X7_hit_69, j_X7_hit_70, j_X7_hit_73, j_X7_hit_76, j_X7_hit_78, j_X7_hit_80, j_X7_hit_83, j_X7_hit_86, j_X7_hit_88, en_c2I, en_c2R, en_c2U, en_c2D, Option.some.injEq, exists_eq_left', exists_eq_left, Option.map_some, Option.map_none, not_true_eq_false, false_implies, true_implies, and_true, true_and, reduceCtorEq, not_false_eq_true, true_or, or_true]
  exact key
theorem jp_X7_hit {G : en_G}  : ∀ as σ, (C_X7_hit G).1 as σ → (en_lc as).length ≤ 8 ∧ en_J (X_X7_hit G (fun r σ' => (C_X7_hit G).2 as σ r σ')) 0 (en_loc 8 as) [] σ := en_ghJ (fun g as σ h => by
  obtain ⟨hp, h2⟩ := h
  subst h2
  exact ⟨Nat.le_of_ble_eq_true rfl, jl_X7_hit hp (fun _ _ h => h)⟩)
theorem wl_X7_hit_268 : Jvm.Cond.methodLink RX7 268 yX7_arrange ∈ en_W := en_inW (List.mem_of_getElem? (i := 1018) (by decide +kernel)) (by decide +kernel)
theorem wl_X7_hit_271 : Jvm.Cond.methodLink RX7 271 yX7_holds ∈ en_W := en_inW (List.mem_of_getElem? (i := 1022) (by decide +kernel)) (by decide +kernel)
theorem ok_X7_hit {G : en_G}  : en_Ok G 4 yX7_hit cX7_hit 8 (some .int) (C_X7_hit G) :=
  en_met (own := RX7) (fl := en_lk fl7) (nw := en_lk nw7) (aw := en_lk aw7) (dc := en_lk dc7) (ca := en_lk (ca_X7_hit G)) (rt := 1) (ini := false) (by decide +kernel) (Or.inr (Or.inl ⟨rfl, rfl⟩)) (fun h => by cases h) rfl (fun q => en_LkF fl7_ok nw7_ok aw7_ok dc7_ok) (by
    intro idx q hq
    have hm := en_lk_mem hq
    simp only [ca_X7_hit, List.mem_cons, Prod.mk.injEq, List.not_mem_nil, or_false] at hm
    rcases hm with ⟨rfl, rfl⟩ | ⟨rfl, rfl⟩
    · exact en_clV (r := (RX7, TX7, 53)) 7 0 ok_X7_arrange (by decide) (by decide) rfl rfl pr_X7_arrange wl_X7_hit_268 wi_X7_arrange wx_X7_arrange wz_7 wc_X7_arrange ⟨by decide +kernel, by decide +kernel, by decide +kernel⟩
    · exact en_clV (r := (RX7, TX7, 53)) 7 3 ok_X7_holds (by decide) (by decide) rfl rfl pr_X7_holds wl_X7_hit_271 wi_X7_holds wx_X7_holds wz_7 wc_X7_holds ⟨by decide +kernel, by decide +kernel, by decide +kernel⟩) jp_X7_hit
