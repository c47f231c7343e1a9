theorem dF_frm {x : Nat} {σ σ' : en_S} (h : tr_frm σ σ') : ag σ σ' (dF x 4) (dV x 4) := ag_frm h (fun f a z => by unfold dF at z; omega)
theorem ag_lim {σ σ' : en_S} {F : Nat → Nat → Prop} {V : Nat → Prop} (h : ag σ σ' (fun f a => F f a ∧ a < en_nx σ) V) : ag σ σ' F V := ⟨h.1, fun a ha => ⟨(h.2 a ha).1, (h.2 a ha).2.1, fun f hf => (h.2 a ha).2.2.1 f ⟨hf, ha⟩, (h.2 a ha).2.2.2⟩⟩
def P_X6_takeOut (G : en_G)  (g : (Nat) × (Nat → Nat) × (Nat → Nat) × (Nat → Nat) × (Nat) × (st_A) × (Option Nat)) (as : List en_V) (σ : en_S) : Prop := (CX G (g.1) (g.2.1) (g.2.2.1) (g.2.2.2.1) (g.2.2.2.2.1) (g.2.2.2.2.2.1) σ ∧ ∀ n, (g.2.2.2.2.2.2) = some n → n < tr_N (sa_T (g.2.2.2.2.2.1))) ∧ as = [en_R ((g.2.2.2.2.2.2).map (g.2.1))]
def C_X6_takeOut (G : en_G)  : en_C := en_gh (P_X6_takeOut G) (fun g as σ v σ' => CX G (g.1) (g.2.1) (g.2.2.1) (g.2.2.2.1) (g.2.2.2.2.1) (ds_outO (g.2.2.2.2.2.1) (g.2.2.2.2.2.2)) σ' ∧ ag σ σ' (dF (g.1) 4) (dV (g.1) 4) ∧ v = some (en_I (st_b (((g.2.2.2.2.2.2).map (fun n => (tr_pa (sa_T (g.2.2.2.2.2.1)) n).isSome)).getD false))))
theorem pr_X6_takeOut {G : en_G}  : ∀ as σ, (C_X6_takeOut G).1 as σ → as.length = 1 := fun as σ ⟨g, h1, h2⟩ => by rw [h2]; rfl
theorem cu_X6_takeOut {G : en_G}  {x : Nat} {na : Nat → Nat} {la : Nat → Nat} {ba : Nat → Nat} {rm : Nat} {A : st_A} {o : Option Nat} {σ : en_S} (hp : CX G x na la ba rm A σ ∧ ∀ n, o = some n → n < tr_N (sa_T A)) : en_Us (C_X6_takeOut G) [en_R (o.map na)] σ (fun v σ' => CX G x na la ba rm (ds_outO A o) σ' ∧ ag σ σ' (dF x 4) (dV x 4) ∧ v = some (en_I (st_b ((o.map (fun n => (tr_pa (sa_T A) n).isSome)).getD false)))) := ⟨⟨(x, na, la, ba, rm, A, o), hp, rfl⟩, fun v σ' q => q (x, na, la, ba, rm, A, o) ⟨hp, rfl⟩⟩
def ca_X6_takeOut (G : en_G) : List (Nat × Nat × en_C) := [(242, 5, C_X4_leave)]
def X_X6_takeOut (G : en_G) (q : Option en_V → en_S → Prop) : en_X := en_mk G cX6_takeOut (en_lk fl6) (en_lk nw6) (en_lk aw6) (en_lk dc6) (en_lk (ca_X6_takeOut G)) 2 false q
theorem d_X6_takeOut_0 : decode cX6_takeOut 0 = .ok (.aload_n 0, 1) := by decide +kernel
theorem j_X6_takeOut_0 {G : en_G} {q : Option en_V → en_S → Prop}  {x0 : Option Nat} {σ : en_S} : en_J (X_X6_takeOut G q) 0 [en_R x0] [] σ ↔ en_J (X_X6_takeOut G q) 1 [en_R x0] [en_R x0] σ := en_j1 d_X6_takeOut_0 rfl rfl
theorem d_X6_takeOut_1 : decode cX6_takeOut 1 = .ok (.ifnull 10, 3) := by decide +kernel
theorem j_X6_takeOut_1 {G : en_G} {q : Option en_V → en_S → Prop}  {l0 : en_V} {a0 : Option Nat} {σ : en_S} : en_J (X_X6_takeOut G q) 1 [l0] [en_R a0] σ ↔ (a0 = none → en_J (X_X6_takeOut G q) 11 [l0] [] σ) ∧ (¬ (a0 = none) → en_J (X_X6_takeOut G q) 4 [l0] [] σ) := en_jb d_X6_takeOut_1 rfl ⟨rfl, by decide⟩
theorem d_X6_takeOut_4 : decode cX6_takeOut 4 = .ok (.aload_n 0, 1) := by decide +kernel
theorem j_X6_takeOut_4 {G : en_G} {q : Option en_V → en_S → Prop}  {x0 : Option Nat} {σ : en_S} : en_J (X_X6_takeOut G q) 4 [en_R x0] [] σ ↔ en_J (X_X6_takeOut G q) 5 [en_R x0] [en_R x0] σ := en_j1 d_X6_takeOut_4 rfl rfl
theorem d_X6_takeOut_5 : decode cX6_takeOut 5 = .ok (.getfield 88, 3) := by decide +kernel
theorem j_X6_takeOut_5 {G : en_G} {q : Option en_V → en_S → Prop}  {l0 : en_V} {a0 : Option Nat} {σ : en_S} : en_J (X_X6_takeOut G q) 5 [l0] [en_R a0] σ ↔ ∃ a, a0 = some a ∧ en_cl σ a = some 4 ∧ en_J (X_X6_takeOut G q) 8 [l0] [en_R (en_fr σ 404 a)] σ := en_jg (st := fun o => [en_R o]) (st' := fun a => [en_R (en_fr σ 404 a)]) (σ' := fun _ => σ) d_X6_takeOut_5 rfl (fun a => rfl) (fun a => ⟨fun h => h.2, fun h => ⟨rfl, h⟩⟩)
theorem d_X6_takeOut_8 : decode cX6_takeOut 8 = .ok (.ifnonnull 5, 3) := by decide +kernel
theorem j_X6_takeOut_8 {G : en_G} {q : Option en_V → en_S → Prop}  {l0 : en_V} {a0 : Option Nat} {σ : en_S} : en_J (X_X6_takeOut G q) 8 [l0] [en_R a0] σ ↔ (¬ a0 = none → en_J (X_X6_takeOut G q) 13 [l0] [] σ) ∧ (¬ (¬ a0 = none) → en_J (X_X6_takeOut G q) 11 [l0] [] σ) := en_jb d_X6_takeOut_8 rfl ⟨rfl, by decide⟩
theorem d_X6_takeOut_11 : decode cX6_takeOut 11 = .ok (.iconst 0, 1) := by decide +kernel
theorem j_X6_takeOut_11 {G : en_G} {q : Option en_V → en_S → Prop}  {l0 : en_V}  {σ : en_S} : en_J (X_X6_takeOut G q) 11 [l0] [] σ ↔ en_J (X_X6_takeOut G q) 12 [l0] [en_I 0] σ := ej_iconst d_X6_takeOut_11 (by decide +kernel)
theorem d_X6_takeOut_12 : decode cX6_takeOut 12 = .ok (.ireturn, 1) := by decide +kernel
theorem j_X6_takeOut_12 {G : en_G} {q : Option en_V → en_S → Prop}  {l0 : en_V} {a0 : Int32} {σ : en_S} : en_J (X_X6_takeOut G q) 12 [l0] [en_I a0] σ ↔ (a0 = 0 ∨ a0 = 1) ∧ q (some (en_I a0)) σ := en_jr d_X6_takeOut_12 rfl ⟨fun h => ⟨h.2.1.elim (fun z => absurd (show (2 : Nat) = 1 from z) (by decide)) (fun z => z.2), h.2.2⟩, fun h => ⟨rfl, Or.inr ⟨rfl, h.1⟩, h.2⟩⟩
theorem d_X6_takeOut_13 : decode cX6_takeOut 13 = .ok (.aload_n 0, 1) := by decide +kernel
theorem j_X6_takeOut_13 {G : en_G} {q : Option en_V → en_S → Prop}  {x0 : Option Nat} {σ : en_S} : en_J (X_X6_takeOut G q) 13 [en_R x0] [] σ ↔ en_J (X_X6_takeOut G q) 14 [en_R x0] [en_R x0] σ := en_j1 d_X6_takeOut_13 rfl rfl
theorem d_X6_takeOut_14 : decode cX6_takeOut 14 = .ok (.invokevirtual 242, 3) := by decide +kernel
theorem j_X6_takeOut_14 {G : en_G} {q : Option en_V → en_S → Prop}  {l0 : en_V} {a0 : Option Nat} {σ : en_S} : en_J (X_X6_takeOut G q) 14 [l0] [en_R a0] σ ↔ C_X4_leave.1 [en_R a0] σ ∧ ∀ (r : Option en_V) (σ' : en_S), C_X4_leave.2 [en_R a0] σ r σ' → en_J (X_X6_takeOut G q) 17 [l0] (r.toList ++ []) σ' := en_jk d_X6_takeOut_14 rfl ⟨fun h => h.2.2.2.2, fun h => ⟨rfl, rfl, Nat.le_of_ble_eq_true rfl, Nat.le_of_ble_eq_true rfl, h⟩⟩
theorem d_X6_takeOut_17 : decode cX6_takeOut 17 = .ok (.iconst 1, 1) := by decide +kernel
theorem j_X6_takeOut_17 {G : en_G} {q : Option en_V → en_S → Prop}  {l0 : en_V}  {σ : en_S} : en_J (X_X6_takeOut G q) 17 [l0] [] σ ↔ en_J (X_X6_takeOut G q) 18 [l0] [en_I 1] σ := ej_iconst d_X6_takeOut_17 (by decide +kernel)
theorem d_X6_takeOut_18 : decode cX6_takeOut 18 = .ok (.ireturn, 1) := by decide +kernel
theorem j_X6_takeOut_18 {G : en_G} {q : Option en_V → en_S → Prop}  {l0 : en_V} {a0 : Int32} {σ : en_S} : en_J (X_X6_takeOut G q) 18 [l0] [en_I a0] σ ↔ (a0 = 0 ∨ a0 = 1) ∧ q (some (en_I a0)) σ := en_jr d_X6_takeOut_18 rfl ⟨fun h => ⟨h.2.1.elim (fun z => absurd (show (2 : Nat) = 1 from z) (by decide)) (fun z => z.2), h.2.2⟩, fun h => ⟨rfl, Or.inr ⟨rfl, h.1⟩, h.2⟩⟩
theorem wc_X6_takeOut : Jvm.Cond.code yX6_takeOut cX6_takeOut 1 (some .boolean) ∈ en_W := en_inW (List.mem_of_getElem? (i := 258) (by decide +kernel)) (by decide +kernel)
theorem ws_X6_takeOut : Jvm.Cond.static yX6_takeOut ∈ en_W := en_inW (List.mem_of_getElem? (i := 257) (by decide +kernel)) (by decide +kernel)
theorem jl_X6_takeOut {G : en_G}  {x : Nat} {na : Nat → Nat} {la : Nat → Nat} {ba : Nat → Nat} {rm : Nat} {A : st_A} {o : Option Nat} {σ : en_S} (hp : CX G x na la ba rm A σ ∧ ∀ n, o = some n → n < tr_N (sa_T A)) : en_J (X_X6_takeOut G (fun v σ' => CX G x na la ba rm (ds_outO A o) σ' ∧ ag σ σ' (dF x 4) (dV x 4) ∧ v = some (en_I (st_b ((o.map (fun n => (tr_pa (sa_T A) n).isSome)).getD false))))) 0 [en_R (o.map na)] [] σ := by
  obtain ⟨hC, ho⟩ := hp
  cases o with
  | none =>
    simp only [j_X6_takeOut_0, j_X6_takeOut_1, j_X6_takeOut_4, j_X6_takeOut_5, j_X6_takeOut_8, j_X6_takeOut_11, j_X6_takeOut_12, j_X6_takeOut_13, j_X6_takeOut_14, j_X6_takeOut_17, j_X6_takeOut_18, en_c2I, en_c2R, en_c2U, en_c2D, Option.some.injEq, exists_eq_left', exists_eq_left, Option.map_some, Option.map_none, not_true_eq_false, false_implies, true_implies, and_true, true_and, reduceCtorEq, not_false_eq_true]
    exact ⟨by simp, hC, ag.rf, rfl⟩
  | some n =>
    have hn := ho n rfl
    obtain ⟨c, tt, -⟩ := id hC
    obtain ⟨h1, h2, h3, h4, h5, h6, -⟩ := tt.1 n hn
    cases hpa : tr_pa (sa_T A) n with
    | none =>
      rw [hpa] at h6
      simp only [j_X6_takeOut_0, j_X6_takeOut_1, j_X6_takeOut_4, j_X6_takeOut_5, j_X6_takeOut_8, j_X6_takeOut_11, j_X6_takeOut_12, j_X6_takeOut_13, j_X6_takeOut_14, j_X6_takeOut_17, j_X6_takeOut_18, en_c2I, en_c2R, en_c2U, en_c2D, Option.some.injEq, exists_eq_left', exists_eq_left, Option.map_some, Option.map_none, not_true_eq_false, false_implies, true_implies, and_true, true_and, reduceCtorEq, not_false_eq_true, h1, h6]
      refine ⟨by simp, ?_, ag.rf, ?_⟩
      · show CX G x na la ba rm (su_T A (tr_leave (sa_T A) n)) σ
        rw [tr_leave_none hpa]; exact hC
      · simp [hpa, st_b]
    | some p =>
      rw [hpa] at h6
      simp only [j_X6_takeOut_0, j_X6_takeOut_1, j_X6_takeOut_4, j_X6_takeOut_5, j_X6_takeOut_8, j_X6_takeOut_11, j_X6_takeOut_12, j_X6_takeOut_13, j_X6_takeOut_14, j_X6_takeOut_17, j_X6_takeOut_18, en_c2I, en_c2R, en_c2U, en_c2D, Option.some.injEq, exists_eq_left', exists_eq_left, Option.map_some, Option.map_none, not_true_eq_false, false_implies, true_implies, and_true, true_and, reduceCtorEq, not_false_eq_true, h1, h6]
      refine en_use (cu_X4_leave tt hC.2.2.2.2.2.2.2.2.1.1 hn) ?_
      rintro v σ' ⟨rfl, hR, hfr⟩
      simp only [Option.toList, List.cons_append, List.nil_append, j_X6_takeOut_0, j_X6_takeOut_1, j_X6_takeOut_4, j_X6_takeOut_5, j_X6_takeOut_8, j_X6_takeOut_11, j_X6_takeOut_12, j_X6_takeOut_13, j_X6_takeOut_14, j_X6_takeOut_17, j_X6_takeOut_18, en_c2I, en_c2R, en_c2U, en_c2D, Option.some.injEq, exists_eq_left', exists_eq_left, Option.map_some, Option.map_none, not_true_eq_false, false_implies, true_implies, and_true, true_and, reduceCtorEq, not_false_eq_true]
      refine ⟨by simp, cx_tree hC hfr hR (st_go_leave hC.2.2.2.2.2.2.2.2.1 hn), dF_frm hfr, ?_⟩
      simp [hpa, st_b]
theorem jp_X6_takeOut {G : en_G}  : ∀ as σ, (C_X6_takeOut G).1 as σ → (en_lc as).length ≤ 1 ∧ en_J (X_X6_takeOut G (fun r σ' => (C_X6_takeOut G).2 as σ r σ')) 0 (en_loc 1 as) [] σ := en_ghJ (fun g as σ h => by
  obtain ⟨hp, h2⟩ := h
  subst h2
  exact ⟨Nat.le_of_ble_eq_true rfl, jl_X6_takeOut hp⟩)
theorem wl_X6_takeOut_242 : Jvm.Cond.methodLink RX6 242 yX4_leave ∈ en_W := en_inW (List.mem_of_getElem? (i := 259) (by decide +kernel)) (by decide +kernel)
theorem ok_X6_takeOut {G : en_G}  : en_Ok G 2 yX6_takeOut cX6_takeOut 1 (some .boolean) (C_X6_takeOut G) :=
  en_met (own := RX6) (fl := en_lk fl6) (nw := en_lk nw6) (aw := en_lk aw6) (dc := en_lk dc6) (ca := en_lk (ca_X6_takeOut G)) (rt := 2) (ini := false) (by decide +kernel) (Or.inr (Or.inr (Or.inl ⟨rfl, rfl⟩))) (fun h => by cases h) rfl (fun q => en_LkF fl6_ok nw6_ok aw6_ok dc6_ok) (by
    intro idx q hq
    have hm := en_lk_mem hq
    simp only [ca_X6_takeOut, List.mem_cons, Prod.mk.injEq, List.not_mem_nil, or_false] at hm
    rcases hm with ⟨rfl, rfl⟩
    · exact en_clV (r := (RX4, TX4, 12)) 4 0 ok_X4_leave (by decide) (by decide) rfl rfl pr_X4_leave wl_X6_takeOut_242 wi_X4_leave wx_X4_leave wz_4 wc_X4_leave ⟨by decide +kernel, by decide +kernel, by decide +kernel⟩) jp_X6_takeOut
def P_X6_move (G : en_G)  (g : (Nat) × (Nat → Nat) × (Nat → Nat) × (Nat → Nat) × (Nat) × (st_A) × (Option Nat) × (Nat)) (as : List en_V) (σ : en_S) : Prop := (CX G (g.1) (g.2.1) (g.2.2.1) (g.2.2.2.1) (g.2.2.2.2.1) (g.2.2.2.2.2.1) σ ∧ (∀ n, (g.2.2.2.2.2.2.1) = some n → n < tr_N (sa_T (g.2.2.2.2.2.1))) ∧ (g.2.2.2.2.2.2.2) < tr_N (sa_T (g.2.2.2.2.2.1))) ∧ as = [en_R ((g.2.2.2.2.2.2.1).map (g.2.1)), en_R (some ((g.2.1) (g.2.2.2.2.2.2.2)))]
def C_X6_move (G : en_G)  : en_C := en_gh (P_X6_move G) (fun g as σ v σ' => CX G (g.1) (g.2.1) (g.2.2.1) (g.2.2.2.1) (g.2.2.2.2.1) (ds_moveO (g.2.2.2.2.2.1) (g.2.2.2.2.2.2.1) (g.2.2.2.2.2.2.2)) σ' ∧ ag σ σ' (dF (g.1) 4) (dV (g.1) 4) ∧ v = none)
theorem pr_X6_move {G : en_G}  : ∀ as σ, (C_X6_move G).1 as σ → as.length = 2 := fun as σ ⟨g, h1, h2⟩ => by rw [h2]; rfl
theorem cu_X6_move {G : en_G}  {x : Nat} {na : Nat → Nat} {la : Nat → Nat} {ba : Nat → Nat} {rm : Nat} {A : st_A} {o : Option Nat} {p : Nat} {σ : en_S} (hp : CX G x na la ba rm A σ ∧ (∀ n, o = some n → n < tr_N (sa_T A)) ∧ p < tr_N (sa_T A)) : en_Us (C_X6_move G) [en_R (o.map na), en_R (some (na p))] σ (fun v σ' => CX G x na la ba rm (ds_moveO A o p) σ' ∧ ag σ σ' (dF x 4) (dV x 4) ∧ v = none) := ⟨⟨(x, na, la, ba, rm, A, o, p), hp, rfl⟩, fun v σ' q => q (x, na, la, ba, rm, A, o, p) ⟨hp, rfl⟩⟩
def ca_X6_move (G : en_G) : List (Nat × Nat × en_C) := [(75, 5, C_X4_isElement), (79, 9, C_X4_isAtOrOver), (96, 13, C_X4_settle)]
def X_X6_move (G : en_G) (q : Option en_V → en_S → Prop) : en_X := en_mk G cX6_move (en_lk fl6) (en_lk nw6) (en_lk aw6) (en_lk dc6) (en_lk (ca_X6_move G)) 0 false q
theorem d_X6_move_0 : decode cX6_move 0 = .ok (.aload_n 0, 1) := by decide +kernel
theorem j_X6_move_0 {G : en_G} {q : Option en_V → en_S → Prop}  {l1 : en_V} {x0 : Option Nat} {σ : en_S} : en_J (X_X6_move G q) 0 [en_R x0, l1] [] σ ↔ en_J (X_X6_move G q) 1 [en_R x0, l1] [en_R x0] σ := en_j1 d_X6_move_0 rfl rfl
theorem d_X6_move_1 : decode cX6_move 1 = .ok (.ifnull 24, 3) := by decide +kernel
theorem j_X6_move_1 {G : en_G} {q : Option en_V → en_S → Prop}  {l0 l1 : en_V} {a0 : Option Nat} {σ : en_S} : en_J (X_X6_move G q) 1 [l0, l1] [en_R a0] σ ↔ (a0 = none → en_J (X_X6_move G q) 25 [l0, l1] [] σ) ∧ (¬ (a0 = none) → en_J (X_X6_move G q) 4 [l0, l1] [] σ) := en_jb d_X6_move_1 rfl ⟨rfl, by decide⟩
theorem d_X6_move_4 : decode cX6_move 4 = .ok (.aload_n 0, 1) := by decide +kernel
theorem j_X6_move_4 {G : en_G} {q : Option en_V → en_S → Prop}  {l1 : en_V} {x0 : Option Nat} {σ : en_S} : en_J (X_X6_move G q) 4 [en_R x0, l1] [] σ ↔ en_J (X_X6_move G q) 5 [en_R x0, l1] [en_R x0] σ := en_j1 d_X6_move_4 rfl rfl
theorem d_X6_move_5 : decode cX6_move 5 = .ok (.invokevirtual 75, 3) := by decide +kernel
theorem j_X6_move_5 {G : en_G} {q : Option en_V → en_S → Prop}  {l0 l1 : en_V} {a0 : Option Nat} {σ : en_S} : en_J (X_X6_move G q) 5 [l0, l1] [en_R a0] σ ↔ C_X4_isElement.1 [en_R a0] σ ∧ ∀ (r : Option en_V) (σ' : en_S), C_X4_isElement.2 [en_R a0] σ r σ' → en_J (X_X6_move G q) 8 [l0, l1] (r.toList ++ []) σ' := en_jk d_X6_move_5 rfl ⟨fun h => h.2.2.2.2, fun h => ⟨rfl, rfl, Nat.le_of_ble_eq_true rfl, Nat.le_of_ble_eq_true rfl, h⟩⟩
theorem d_X6_move_8 : decode cX6_move 8 = .ok (.ifCond .eq 17, 3) := by decide +kernel
theorem j_X6_move_8 {G : en_G} {q : Option en_V → en_S → Prop}  {l0 l1 : en_V} {a0 : Int32} {σ : en_S} : en_J (X_X6_move G q) 8 [l0, l1] [en_I a0] σ ↔ (a0 = 0 → en_J (X_X6_move G q) 25 [l0, l1] [] σ) ∧ (¬ (a0 = 0) → en_J (X_X6_move G q) 11 [l0, l1] [] σ) := en_jb d_X6_move_8 rfl ⟨rfl, by decide⟩
theorem d_X6_move_11 : decode cX6_move 11 = .ok (.aload_n 0, 1) := by decide +kernel
theorem j_X6_move_11 {G : en_G} {q : Option en_V → en_S → Prop}  {l1 : en_V} {x0 : Option Nat} {σ : en_S} : en_J (X_X6_move G q) 11 [en_R x0, l1] [] σ ↔ en_J (X_X6_move G q) 12 [en_R x0, l1] [en_R x0] σ := en_j1 d_X6_move_11 rfl rfl
theorem d_X6_move_12 : decode cX6_move 12 = .ok (.aload_n 1, 1) := by decide +kernel
theorem j_X6_move_12 {G : en_G} {q : Option en_V → en_S → Prop}  {l0 : en_V} {a0 : Option Nat} {x1 : Option Nat} {σ : en_S} : en_J (X_X6_move G q) 12 [l0, en_R x1] [en_R a0] σ ↔ en_J (X_X6_move G q) 13 [l0, en_R x1] [en_R x1, en_R a0] σ := en_j1 d_X6_move_12 rfl rfl
theorem d_X6_move_13 : decode cX6_move 13 = .ok (.invokevirtual 79, 3) := by decide +kernel
theorem j_X6_move_13 {G : en_G} {q : Option en_V → en_S → Prop}  {l0 l1 : en_V} {a0 : Option Nat} {a1 : Option Nat} {σ : en_S} : en_J (X_X6_move G q) 13 [l0, l1] [en_R a0, en_R a1] σ ↔ C_X4_isAtOrOver.1 [en_R a1, en_R a0] σ ∧ ∀ (r : Option en_V) (σ' : en_S), C_X4_isAtOrOver.2 [en_R a1, en_R a0] σ r σ' → en_J (X_X6_move G q) 16 [l0, l1] (r.toList ++ []) σ' := en_jk d_X6_move_13 rfl ⟨fun h => h.2.2.2.2, fun h => ⟨rfl, rfl, Nat.le_of_ble_eq_true rfl, Nat.le_of_ble_eq_true rfl, h⟩⟩
theorem d_X6_move_16 : decode cX6_move 16 = .ok (.ifCond .ne 9, 3) := by decide +kernel
theorem j_X6_move_16 {G : en_G} {q : Option en_V → en_S → Prop}  {l0 l1 : en_V} {a0 : Int32} {σ : en_S} : en_J (X_X6_move G q) 16 [l0, l1] [en_I a0] σ ↔ (¬ a0 = 0 → en_J (X_X6_move G q) 25 [l0, l1] [] σ) ∧ (¬ (¬ a0 = 0) → en_J (X_X6_move G q) 19 [l0, l1] [] σ) := en_jb d_X6_move_16 rfl ⟨rfl, by decide⟩
theorem d_X6_move_19 : decode cX6_move 19 = .ok (.aload_n 0, 1) := by decide +kernel
theorem j_X6_move_19 {G : en_G} {q : Option en_V → en_S → Prop}  {l1 : en_V} {x0 : Option Nat} {σ : en_S} : en_J (X_X6_move G q) 19 [en_R x0, l1] [] σ ↔ en_J (X_X6_move G q) 20 [en_R x0, l1] [en_R x0] σ := en_j1 d_X6_move_19 rfl rfl
theorem d_X6_move_20 : decode cX6_move 20 = .ok (.aload_n 1, 1) := by decide +kernel
theorem j_X6_move_20 {G : en_G} {q : Option en_V → en_S → Prop}  {l0 : en_V} {a0 : Option Nat} {x1 : Option Nat} {σ : en_S} : en_J (X_X6_move G q) 20 [l0, en_R x1] [en_R a0] σ ↔ en_J (X_X6_move G q) 21 [l0, en_R x1] [en_R x1, en_R a0] σ := en_j1 d_X6_move_20 rfl rfl
theorem d_X6_move_21 : decode cX6_move 21 = .ok (.aconst_null, 1) := by decide +kernel
theorem j_X6_move_21 {G : en_G} {q : Option en_V → en_S → Prop}  {l0 l1 : en_V} {a0 : Option Nat} {a1 : Option Nat} {σ : en_S} : en_J (X_X6_move G q) 21 [l0, l1] [en_R a0, en_R a1] σ ↔ en_J (X_X6_move G q) 22 [l0, l1] [en_R none, en_R a0, en_R a1] σ := en_j1 d_X6_move_21 rfl rfl
theorem d_X6_move_22 : decode cX6_move 22 = .ok (.invokevirtual 96, 3) := by decide +kernel
theorem j_X6_move_22 {G : en_G} {q : Option en_V → en_S → Prop}  {l0 l1 : en_V} {a0 : Option Nat} {a1 : Option Nat} {a2 : Option Nat} {σ : en_S} : en_J (X_X6_move G q) 22 [l0, l1] [en_R a0, en_R a1, en_R a2] σ ↔ C_X4_settle.1 [en_R a2, en_R a1, en_R a0] σ ∧ ∀ (r : Option en_V) (σ' : en_S), C_X4_settle.2 [en_R a2, en_R a1, en_R a0] σ r σ' → en_J (X_X6_move G q) 25 [l0, l1] (r.toList ++ []) σ' := en_jk d_X6_move_22 rfl ⟨fun h => h.2.2.2.2, fun h => ⟨rfl, rfl, Nat.le_of_ble_eq_true rfl, Nat.le_of_ble_eq_true rfl, h⟩⟩
theorem d_X6_move_25 : decode cX6_move 25 = .ok (.return_, 1) := by decide +kernel
theorem j_X6_move_25 {G : en_G} {q : Option en_V → en_S → Prop}  {l0 l1 : en_V}  {σ : en_S} : en_J (X_X6_move G q) 25 [l0, l1] [] σ ↔ q none σ := en_jr d_X6_move_25 rfl ⟨fun h => h.2.2, fun h => ⟨rfl, rfl, h⟩⟩
theorem wc_X6_move : Jvm.Cond.code yX6_move cX6_move 2 none ∈ en_W := en_inW (List.mem_of_getElem? (i := 451) (by decide +kernel)) (by decide +kernel)
theorem ws_X6_move : Jvm.Cond.static yX6_move ∈ en_W := en_inW (List.mem_of_getElem? (i := 450) (by decide +kernel)) (by decide +kernel)
theorem jl_X6_move {G : en_G}  {x : Nat} {na : Nat → Nat} {la : Nat → Nat} {ba : Nat → Nat} {rm : Nat} {A : st_A} {o : Option Nat} {p : Nat} {σ : en_S} (hp : CX G x na la ba rm A σ ∧ (∀ n, o = some n → n < tr_N (sa_T A)) ∧ p < tr_N (sa_T A)) : en_J (X_X6_move G (fun v σ' => CX G x na la ba rm (ds_moveO A o p) σ' ∧ ag σ σ' (dF x 4) (dV x 4) ∧ v = none)) 0 [en_R (o.map na), en_R (some (na p))] [] σ := by
  obtain ⟨hC, ho, hpl⟩ := hp
  cases o with
  | none =>
    simp only [j_X6_move_0, j_X6_move_1, j_X6_move_4, j_X6_move_5, j_X6_move_8, j_X6_move_11, j_X6_move_12, j_X6_move_13, j_X6_move_16, j_X6_move_19, j_X6_move_20, j_X6_move_21, j_X6_move_22, j_X6_move_25, en_c2I, en_c2R, en_c2U, en_c2D, Option.some.injEq, exists_eq_left', exists_eq_left, Option.map_some, Option.map_none, not_true_eq_false, false_implies, true_implies, and_true, true_and, reduceCtorEq, not_false_eq_true]
    exact ⟨hC, ag.rf⟩
  | some n =>
    have hn := ho n rfl
    obtain ⟨c, tt, -⟩ := id hC
    have hw := hC.2.2.2.2.2.2.2.2.1
    obtain ⟨h1, h2, h3, h4, h5, h6, -⟩ := tt.1 n hn
    simp only [j_X6_move_0, j_X6_move_1, j_X6_move_4, j_X6_move_5, j_X6_move_8, j_X6_move_11, j_X6_move_12, j_X6_move_13, j_X6_move_16, j_X6_move_19, j_X6_move_20, j_X6_move_21, j_X6_move_22, j_X6_move_25, en_c2I, en_c2R, en_c2U, en_c2D, Option.some.injEq, exists_eq_left', exists_eq_left, Option.map_some, Option.map_none, not_true_eq_false, false_implies, true_implies, and_true, true_and, reduceCtorEq, not_false_eq_true, h1]
    refine en_use (cu_X4_isElement h1) ?_
    rintro v σ' ⟨rfl, rfl⟩
    rw [h3]
    by_cases hk : tr_kd (sa_T A) n ≤ 2
    · have i1 : ¬ (1 : Int32) = 0 := by decide
      simp only [Option.toList, List.cons_append, List.nil_append, j_X6_move_0, j_X6_move_1, j_X6_move_4, j_X6_move_5, j_X6_move_8, j_X6_move_11, j_X6_move_12, j_X6_move_13, j_X6_move_16, j_X6_move_19, j_X6_move_20, j_X6_move_21, j_X6_move_22, j_X6_move_25, en_c2I, en_c2R, en_c2U, en_c2D, Option.some.injEq, exists_eq_left', exists_eq_left, Option.map_some, Option.map_none, not_true_eq_false, false_implies, true_implies, and_true, true_and, reduceCtorEq, not_false_eq_true, if_pos hk, i1]
      refine en_use (cu_X4_isAtOrOver tt hw.1 hn hpl) ?_
      rintro v σ' ⟨rfl, rfl⟩
      cases hov : tr_over (sa_T A) n p with
      | true =>
        simp only [Option.toList, List.cons_append, List.nil_append, j_X6_move_0, j_X6_move_1, j_X6_move_4, j_X6_move_5, j_X6_move_8, j_X6_move_11, j_X6_move_12, j_X6_move_13, j_X6_move_16, j_X6_move_19, j_X6_move_20, j_X6_move_21, j_X6_move_22, j_X6_move_25, en_c2I, en_c2R, en_c2U, en_c2D, Option.some.injEq, exists_eq_left', exists_eq_left, Option.map_some, Option.map_none, not_true_eq_false, false_implies, true_implies, and_true, true_and, reduceCtorEq, not_false_eq_true, st_bt, i1]
        refine ⟨?_, ag.rf⟩
        show CX G x na la ba rm (if _ then _ else _) σ'
        rw [if_neg (by rw [hov]; simp)]; exact hC
      | false =>
        simp only [Option.toList, List.cons_append, List.nil_append, j_X6_move_0, j_X6_move_1, j_X6_move_4, j_X6_move_5, j_X6_move_8, j_X6_move_11, j_X6_move_12, j_X6_move_13, j_X6_move_16, j_X6_move_19, j_X6_move_20, j_X6_move_21, j_X6_move_22, j_X6_move_25, en_c2I, en_c2R, en_c2U, en_c2D, Option.some.injEq, exists_eq_left', exists_eq_left, Option.map_some, Option.map_none, not_true_eq_false, false_implies, true_implies, and_true, true_and, reduceCtorEq, not_false_eq_true, st_bf]
        have hne : p ≠ n := fun z => by
          rw [z] at hov
          simp [tr_over, tr_cov] at hov
        have hu := cu_X4_settle (fo := none) tt hw.1 hn hpl hne (fun f z => by cases z)
        simp only [Option.map_none] at hu
        refine en_use hu ?_
        rintro v σ'' ⟨rfl, hR, hfr⟩
        simp only [Option.toList, List.cons_append, List.nil_append, j_X6_move_0, j_X6_move_1, j_X6_move_4, j_X6_move_5, j_X6_move_8, j_X6_move_11, j_X6_move_12, j_X6_move_13, j_X6_move_16, j_X6_move_19, j_X6_move_20, j_X6_move_21, j_X6_move_22, j_X6_move_25, en_c2I, en_c2R, en_c2U, en_c2D, Option.some.injEq, exists_eq_left', exists_eq_left, Option.map_some, Option.map_none, not_true_eq_false, false_implies, true_implies, and_true, true_and, reduceCtorEq, not_false_eq_true]
        refine ⟨?_, dF_frm hfr⟩
        show CX G x na la ba rm (if _ then _ else _) σ''
        rw [if_pos ⟨hk, hov⟩]
        refine cx_tree hC hfr hR ?_
        exact st_go_T hw (tr_wf_ins hw.1 hn hpl ((tr_el_iff hw.1 hn).mpr hk) hov (fun f z => by cases z)) rfl rfl rfl rfl rfl
    · simp only [Option.toList, List.cons_append, List.nil_append, j_X6_move_0, j_X6_move_1, j_X6_move_4, j_X6_move_5, j_X6_move_8, j_X6_move_11, j_X6_move_12, j_X6_move_13, j_X6_move_16, j_X6_move_19, j_X6_move_20, j_X6_move_21, j_X6_move_22, j_X6_move_25, en_c2I, en_c2R, en_c2U, en_c2D, Option.some.injEq, exists_eq_left', exists_eq_left, Option.map_some, Option.map_none, not_true_eq_false, false_implies, true_implies, and_true, true_and, reduceCtorEq, not_false_eq_true, if_neg hk]
      refine ⟨?_, ag.rf⟩
      show CX G x na la ba rm (if _ then _ else _) σ'
      rw [if_neg (fun z => hk z.1)]; exact hC
theorem jp_X6_move {G : en_G}  : ∀ as σ, (C_X6_move G).1 as σ → (en_lc as).length ≤ 2 ∧ en_J (X_X6_move G (fun r σ' => (C_X6_move G).2 as σ r σ')) 0 (en_loc 2 as) [] σ := en_ghJ (fun g as σ h => by
  obtain ⟨hp, h2⟩ := h
  subst h2
  exact ⟨Nat.le_of_ble_eq_true rfl, jl_X6_move hp⟩)
theorem wl_X6_move_75 : Jvm.Cond.methodLink RX6 75 yX4_isElement ∈ en_W := en_inW (List.mem_of_getElem? (i := 452) (by decide +kernel)) (by decide +kernel)
theorem wl_X6_move_79 : Jvm.Cond.methodLink RX6 79 yX4_isAtOrOver ∈ en_W := en_inW (List.mem_of_getElem? (i := 456) (by decide +kernel)) (by decide +kernel)
theorem wl_X6_move_96 : Jvm.Cond.methodLink RX6 96 yX4_settle ∈ en_W := en_inW (List.mem_of_getElem? (i := 457) (by decide +kernel)) (by decide +kernel)
theorem ok_X6_move {G : en_G}  : en_Ok G 3 yX6_move cX6_move 2 none (C_X6_move G) :=
  en_met (own := RX6) (fl := en_lk fl6) (nw := en_lk nw6) (aw := en_lk aw6) (dc := en_lk dc6) (ca := en_lk (ca_X6_move G)) (rt := 0) (ini := false) (by decide +kernel) (Or.inl ⟨rfl, rfl⟩) (fun h => by cases h) rfl (fun q => en_LkF fl6_ok nw6_ok aw6_ok dc6_ok) (by
    intro idx q hq
    have hm := en_lk_mem hq
    simp only [ca_X6_move, List.mem_cons, Prod.mk.injEq, List.not_mem_nil, or_false] at hm
    rcases hm with ⟨rfl, rfl⟩ | ⟨rfl, rfl⟩ | ⟨rfl, rfl⟩
    · exact en_clV (r := (RX4, TX4, 12)) 4 0 ok_X4_isElement (by decide) (by decide) rfl rfl pr_X4_isElement wl_X6_move_75 wi_X4_isElement wx_X4_isElement wz_4 wc_X4_isElement ⟨by decide +kernel, by decide +kernel, by decide +kernel⟩
    · exact en_clV (r := (RX4, TX4, 12)) 4 1 ok_X4_isAtOrOver (by decide) (by decide) rfl rfl pr_X4_isAtOrOver wl_X6_move_79 wi_X4_isAtOrOver wx_X4_isAtOrOver wz_4 wc_X4_isAtOrOver ⟨by decide +kernel, by decide +kernel, by decide +kernel⟩
    · exact en_clV (r := (RX4, TX4, 12)) 4 2 ok_X4_settle (by decide) (by decide) rfl rfl pr_X4_settle wl_X6_move_96 wi_X4_settle wx_X4_settle wz_4 wc_X4_settle ⟨by decide +kernel, by decide +kernel, by decide +kernel⟩) jp_X6_move
def P_X6_hasListenerLike (G : en_G)  (g : (Nat) × (Nat → Nat) × (Nat → Nat) × (Nat → Nat) × (Nat) × (st_A) × (Nat) × (Int32) × (Nat) × (Nat)) (as : List en_V) (σ : en_S) : Prop := (CX G (g.1) (g.2.1) (g.2.2.1) (g.2.2.2.1) (g.2.2.2.2.1) (g.2.2.2.2.2.1) σ ∧ (g.2.2.2.2.2.2.1) < tr_N (sa_T (g.2.2.2.2.2.1)) ∧ (g.2.2.2.2.2.2.2.2.1) < 8 ∧ (g.2.2.2.2.2.2.2.2.2) < 8) ∧ as = [en_R (some (g.1)), en_R (some ((g.2.1) (g.2.2.2.2.2.2.1))), en_I (g.2.2.2.2.2.2.2.1), en_I (nI (g.2.2.2.2.2.2.2.2.1)), en_R (some ((g.1) + 8 + 3 * (g.2.2.2.2.2.2.2.2.2)))]
def C_X6_hasListenerLike (G : en_G)  : en_C := en_gh (P_X6_hasListenerLike G) (fun g as σ v σ' => σ' = σ ∧ v = some (en_I (st_b (ds_like (g.2.2.2.2.2.1) (g.2.2.2.2.2.2.1) (g.2.2.2.2.2.2.2.1) (g.2.2.2.2.2.2.2.2.1) (g.2.2.2.2.2.2.2.2.2) (sa_D (g.2.2.2.2.2.1) 0 0) 0))))
theorem pr_X6_hasListenerLike {G : en_G}  : ∀ as σ, (C_X6_hasListenerLike G).1 as σ → ∃ b tl, as = en_R (some b) :: tl ∧ en_cl σ b = some 6 ∧ tl.length = 4 := fun as σ ⟨g, hp, h2⟩ => ⟨_, _, h2, hp.1.1.1.1, rfl⟩
theorem cu_X6_hasListenerLike {G : en_G}  {x : Nat} {na : Nat → Nat} {la : Nat → Nat} {ba : Nat → Nat} {rm : Nat} {A : st_A} {n : Nat} {t : Int32} {o : Nat} {s : Nat} {σ : en_S} (hp : CX G x na la ba rm A σ ∧ n < tr_N (sa_T A) ∧ o < 8 ∧ s < 8) : en_Us (C_X6_hasListenerLike G) [en_R (some x), en_R (some (na n)), en_I t, en_I (nI o), en_R (some (x + 8 + 3 * s))] σ (fun v σ' => σ' = σ ∧ v = some (en_I (st_b (ds_like A n t o s (sa_D A 0 0) 0)))) := ⟨⟨(x, na, la, ba, rm, A, n, t, o, s), hp, rfl⟩, fun v σ' q => q (x, na, la, ba, rm, A, n, t, o, s) ⟨hp, rfl⟩⟩
def ca_X6_hasListenerLike (G : en_G) : List (Nat × Nat × en_C) := [(252, 9, (C_X6_listenerAt G)), (256, 17, C_X3_hears)]
def X_X6_hasListenerLike (G : en_G) (q : Option en_V → en_S → Prop) : en_X := en_mk G cX6_hasListenerLike (en_lk fl6) (en_lk nw6) (en_lk aw6) (en_lk dc6) (en_lk (ca_X6_hasListenerLike G)) 2 false q
theorem d_X6_hasListenerLike_0 : decode cX6_hasListenerLike 0 = .ok (.iload_n 3, 1) := by decide +kernel
theorem j_X6_hasListenerLike_0 {G : en_G} {q : Option en_V → en_S → Prop}  {l0 l1 l2 l4 l5 l6 l7 : en_V} {x3 : Int32} {σ : en_S} : en_J (X_X6_hasListenerLike G q) 0 [l0, l1, l2, en_I x3, l4, l5, l6, l7] [] σ ↔ en_J (X_X6_hasListenerLike G q) 1 [l0, l1, l2, en_I x3, l4, l5, l6, l7] [en_I x3] σ := en_j1 d_X6_hasListenerLike_0 rfl rfl
theorem d_X6_hasListenerLike_1 : decode cX6_hasListenerLike 1 = .ok (.iconst 1, 1) := by decide +kernel
theorem j_X6_hasListenerLike_1 {G : en_G} {q : Option en_V → en_S → Prop}  {l0 l1 l2 l3 l4 l5 l6 l7 : en_V} {a0 : Int32} {σ : en_S} : en_J (X_X6_hasListenerLike G q) 1 [l0, l1, l2, l3, l4, l5, l6, l7] [en_I a0] σ ↔ en_J (X_X6_hasListenerLike G q) 2 [l0, l1, l2, l3, l4, l5, l6, l7] [en_I 1, en_I a0] σ := ej_iconst d_X6_hasListenerLike_1 (by decide +kernel)
theorem d_X6_hasListenerLike_2 : decode cX6_hasListenerLike 2 = .ok (.iand, 1) := by decide +kernel
theorem j_X6_hasListenerLike_2 {G : en_G} {q : Option en_V → en_S → Prop}  {l0 l1 l2 l3 l4 l5 l6 l7 : en_V} {a0 : Int32} {a1 : Int32} {σ : en_S} : en_J (X_X6_hasListenerLike G q) 2 [l0, l1, l2, l3, l4, l5, l6, l7] [en_I a0, en_I a1] σ ↔ en_J (X_X6_hasListenerLike G q) 3 [l0, l1, l2, l3, l4, l5, l6, l7] [en_I (a1 &&& a0)] σ := en_j1 d_X6_hasListenerLike_2 rfl ⟨rfl, trivial⟩
theorem d_X6_hasListenerLike_3 : decode cX6_hasListenerLike 3 = .ok (.ifCond .eq 7, 3) := by decide +kernel
theorem j_X6_hasListenerLike_3 {G : en_G} {q : Option en_V → en_S → Prop}  {l0 l1 l2 l3 l4 l5 l6 l7 : en_V} {a0 : Int32} {σ : en_S} : en_J (X_X6_hasListenerLike G q) 3 [l0, l1, l2, l3, l4, l5, l6, l7] [en_I a0] σ ↔ (a0 = 0 → en_J (X_X6_hasListenerLike G q) 10 [l0, l1, l2, l3, l4, l5, l6, l7] [] σ) ∧ (¬ (a0 = 0) → en_J (X_X6_hasListenerLike G q) 6 [l0, l1, l2, l3, l4, l5, l6, l7] [] σ) := en_jb d_X6_hasListenerLike_3 rfl ⟨rfl, by decide⟩
theorem d_X6_hasListenerLike_6 : decode cX6_hasListenerLike 6 = .ok (.iconst 1, 1) := by decide +kernel
theorem j_X6_hasListenerLike_6 {G : en_G} {q : Option en_V → en_S → Prop}  {l0 l1 l2 l3 l4 l5 l6 l7 : en_V}  {σ : en_S} : en_J (X_X6_hasListenerLike G q) 6 [l0, l1, l2, l3, l4, l5, l6, l7] [] σ ↔ en_J (X_X6_hasListenerLike G q) 7 [l0, l1, l2, l3, l4, l5, l6, l7] [en_I 1] σ := ej_iconst d_X6_hasListenerLike_6 (by decide +kernel)
theorem d_X6_hasListenerLike_7 : decode cX6_hasListenerLike 7 = .ok (.goto 4, 3) := by decide +kernel
theorem j_X6_hasListenerLike_7 {G : en_G} {q : Option en_V → en_S → Prop}  {l0 l1 l2 l3 l4 l5 l6 l7 : en_V} {a0 : Int32} {σ : en_S} : en_J (X_X6_hasListenerLike G q) 7 [l0, l1, l2, l3, l4, l5, l6, l7] [en_I a0] σ ↔ en_J (X_X6_hasListenerLike G q) 11 [l0, l1, l2, l3, l4, l5, l6, l7] [en_I a0] σ := en_j1 d_X6_hasListenerLike_7 rfl ⟨rfl, by decide⟩
theorem d_X6_hasListenerLike_10 : decode cX6_hasListenerLike 10 = .ok (.iconst 0, 1) := by decide +kernel
theorem j_X6_hasListenerLike_10 {G : en_G} {q : Option en_V → en_S → Prop}  {l0 l1 l2 l3 l4 l5 l6 l7 : en_V}  {σ : en_S} : en_J (X_X6_hasListenerLike G q) 10 [l0, l1, l2, l3, l4, l5, l6, l7] [] σ ↔ en_J (X_X6_hasListenerLike G q) 11 [l0, l1, l2, l3, l4, l5, l6, l7] [en_I 0] σ := ej_iconst d_X6_hasListenerLike_10 (by decide +kernel)
theorem d_X6_hasListenerLike_11 : decode cX6_hasListenerLike 11 = .ok (.istore 5, 2) := by decide +kernel
theorem j_X6_hasListenerLike_11 {G : en_G} {q : Option en_V → en_S → Prop}  {l0 l1 l2 l3 l4 l5 l6 l7 : en_V} {a0 : Int32} {σ : en_S} : en_J (X_X6_hasListenerLike G q) 11 [l0, l1, l2, l3, l4, l5, l6, l7] [en_I a0] σ ↔ en_J (X_X6_hasListenerLike G q) 13 [l0, l1, l2, l3, en_c2 l4, en_I a0, l6, l7] [] σ := en_j1 d_X6_hasListenerLike_11 rfl ⟨rfl, Nat.le_of_ble_eq_true rfl⟩
theorem d_X6_hasListenerLike_13 : decode cX6_hasListenerLike 13 = .ok (.iconst 0, 1) := by decide +kernel
theorem j_X6_hasListenerLike_13 {G : en_G} {q : Option en_V → en_S → Prop}  {l0 l1 l2 l3 l4 l5 l6 l7 : en_V}  {σ : en_S} : en_J (X_X6_hasListenerLike G q) 13 [l0, l1, l2, l3, l4, l5, l6, l7] [] σ ↔ en_J (X_X6_hasListenerLike G q) 14 [l0, l1, l2, l3, l4, l5, l6, l7] [en_I 0] σ := ej_iconst d_X6_hasListenerLike_13 (by decide +kernel)
theorem d_X6_hasListenerLike_14 : decode cX6_hasListenerLike 14 = .ok (.istore 6, 2) := by decide +kernel
theorem j_X6_hasListenerLike_14 {G : en_G} {q : Option en_V → en_S → Prop}  {l0 l1 l2 l3 l4 l5 l6 l7 : en_V} {a0 : Int32} {σ : en_S} : en_J (X_X6_hasListenerLike G q) 14 [l0, l1, l2, l3, l4, l5, l6, l7] [en_I a0] σ ↔ en_J (X_X6_hasListenerLike G q) 16 [l0, l1, l2, l3, l4, en_c2 l5, en_I a0, l7] [] σ := en_j1 d_X6_hasListenerLike_14 rfl ⟨rfl, Nat.le_of_ble_eq_true rfl⟩
theorem d_X6_hasListenerLike_16 : decode cX6_hasListenerLike 16 = .ok (.iload 6, 2) := by decide +kernel
theorem j_X6_hasListenerLike_16 {G : en_G} {q : Option en_V → en_S → Prop}  {l0 l1 l2 l3 l4 l5 l7 : en_V} {x6 : Int32} {σ : en_S} : en_J (X_X6_hasListenerLike G q) 16 [l0, l1, l2, l3, l4, l5, en_I x6, l7] [] σ ↔ en_J (X_X6_hasListenerLike G q) 18 [l0, l1, l2, l3, l4, l5, en_I x6, l7] [en_I x6] σ := en_j1 d_X6_hasListenerLike_16 rfl rfl
theorem d_X6_hasListenerLike_18 : decode cX6_hasListenerLike 18 = .ok (.aload_n 0, 1) := by decide +kernel
theorem j_X6_hasListenerLike_18 {G : en_G} {q : Option en_V → en_S → Prop}  {l1 l2 l3 l4 l5 l6 l7 : en_V} {a0 : Int32} {x0 : Option Nat} {σ : en_S} : en_J (X_X6_hasListenerLike G q) 18 [en_R x0, l1, l2, l3, l4, l5, l6, l7] [en_I a0] σ ↔ en_J (X_X6_hasListenerLike G q) 19 [en_R x0, l1, l2, l3, l4, l5, l6, l7] [en_R x0, en_I a0] σ := en_j1 d_X6_hasListenerLike_18 rfl rfl
theorem d_X6_hasListenerLike_19 : decode cX6_hasListenerLike 19 = .ok (.getfield 226, 3) := by decide +kernel
theorem j_X6_hasListenerLike_19 {G : en_G} {q : Option en_V → en_S → Prop}  {l0 l1 l2 l3 l4 l5 l6 l7 : en_V} {a0 : Option Nat} {a1 : Int32} {σ : en_S} : en_J (X_X6_hasListenerLike G q) 19 [l0, l1, l2, l3, l4, l5, l6, l7] [en_R a0, en_I a1] σ ↔ ∃ a, a0 = some a ∧ en_cl σ a = some 6 ∧ en_J (X_X6_hasListenerLike G q) 22 [l0, l1, l2, l3, l4, l5, l6, l7] [en_I (en_fi σ 603 a), en_I a1] σ := en_jg (st := fun o => [en_R o, en_I a1]) (st' := fun a => [en_I (en_fi σ 603 a), en_I a1]) (σ' := fun _ => σ) d_X6_hasListenerLike_19 rfl (fun a => rfl) (fun a => ⟨fun h => h.2, fun h => ⟨rfl, h⟩⟩)
theorem d_X6_hasListenerLike_22 : decode cX6_hasListenerLike 22 = .ok (.if_icmp .ge 46, 3) := by decide +kernel
theorem j_X6_hasListenerLike_22 {G : en_G} {q : Option en_V → en_S → Prop}  {l0 l1 l2 l3 l4 l5 l6 l7 : en_V} {a0 : Int32} {a1 : Int32} {σ : en_S} : en_J (X_X6_hasListenerLike G q) 22 [l0, l1, l2, l3, l4, l5, l6, l7] [en_I a0, en_I a1] σ ↔ (a0 ≤ a1 → en_J (X_X6_hasListenerLike G q) 68 [l0, l1, l2, l3, l4, l5, l6, l7] [] σ) ∧ (¬ (a0 ≤ a1) → en_J (X_X6_hasListenerLike G q) 25 [l0, l1, l2, l3, l4, l5, l6, l7] [] σ) := en_jb d_X6_hasListenerLike_22 rfl ⟨rfl, by decide⟩
theorem d_X6_hasListenerLike_25 : decode cX6_hasListenerLike 25 = .ok (.aload_n 0, 1) := by decide +kernel
theorem j_X6_hasListenerLike_25 {G : en_G} {q : Option en_V → en_S → Prop}  {l1 l2 l3 l4 l5 l6 l7 : en_V} {x0 : Option Nat} {σ : en_S} : en_J (X_X6_hasListenerLike G q) 25 [en_R x0, l1, l2, l3, l4, l5, l6, l7] [] σ ↔ en_J (X_X6_hasListenerLike G q) 26 [en_R x0, l1, l2, l3, l4, l5, l6, l7] [en_R x0] σ := en_j1 d_X6_hasListenerLike_25 rfl rfl
theorem d_X6_hasListenerLike_26 : decode cX6_hasListenerLike 26 = .ok (.iload 6, 2) := by decide +kernel
theorem j_X6_hasListenerLike_26 {G : en_G} {q : Option en_V → en_S → Prop}  {l0 l1 l2 l3 l4 l5 l7 : en_V} {a0 : Option Nat} {x6 : Int32} {σ : en_S} : en_J (X_X6_hasListenerLike G q) 26 [l0, l1, l2, l3, l4, l5, en_I x6, l7] [en_R a0] σ ↔ en_J (X_X6_hasListenerLike G q) 28 [l0, l1, l2, l3, l4, l5, en_I x6, l7] [en_I x6, en_R a0] σ := en_j1 d_X6_hasListenerLike_26 rfl rfl
theorem d_X6_hasListenerLike_28 : decode cX6_hasListenerLike 28 = .ok (.invokevirtual 252, 3) := by decide +kernel
theorem j_X6_hasListenerLike_28 {G : en_G} {q : Option en_V → en_S → Prop}  {l0 l1 l2 l3 l4 l5 l6 l7 : en_V} {a0 : Int32} {a1 : Option Nat} {σ : en_S} : en_J (X_X6_hasListenerLike G q) 28 [l0, l1, l2, l3, l4, l5, l6, l7] [en_I a0, en_R a1] σ ↔ (C_X6_listenerAt G).1 [en_R a1, en_I a0] σ ∧ ∀ (r : Option en_V) (σ' : en_S), (C_X6_listenerAt G).2 [en_R a1, en_I a0] σ r σ' → en_J (X_X6_hasListenerLike G q) 31 [l0, l1, l2, l3, l4, l5, l6, l7] (r.toList ++ []) σ' := en_jkC (C := (C_X6_listenerAt G)) (n' := 2) (k := 1) (idx := 252) d_X6_hasListenerLike_28 rfl rfl (by decide) (Nat.le_of_ble_eq_true rfl) (Nat.le_of_ble_eq_true rfl)
theorem d_X6_hasListenerLike_31 : decode cX6_hasListenerLike 31 = .ok (.astore 7, 2) := by decide +kernel
theorem j_X6_hasListenerLike_31 {G : en_G} {q : Option en_V → en_S → Prop}  {l0 l1 l2 l3 l4 l5 l6 l7 : en_V} {a0 : Option Nat} {σ : en_S} : en_J (X_X6_hasListenerLike G q) 31 [l0, l1, l2, l3, l4, l5, l6, l7] [en_R a0] σ ↔ en_J (X_X6_hasListenerLike G q) 33 [l0, l1, l2, l3, l4, l5, en_c2 l6, en_R a0] [] σ := en_j1 d_X6_hasListenerLike_31 rfl ⟨rfl, Nat.le_of_ble_eq_true rfl⟩
theorem d_X6_hasListenerLike_33 : decode cX6_hasListenerLike 33 = .ok (.aload 7, 2) := by decide +kernel
theorem j_X6_hasListenerLike_33 {G : en_G} {q : Option en_V → en_S → Prop}  {l0 l1 l2 l3 l4 l5 l6 : en_V} {x7 : Option Nat} {σ : en_S} : en_J (X_X6_hasListenerLike G q) 33 [l0, l1, l2, l3, l4, l5, l6, en_R x7] [] σ ↔ en_J (X_X6_hasListenerLike G q) 35 [l0, l1, l2, l3, l4, l5, l6, en_R x7] [en_R x7] σ := en_j1 d_X6_hasListenerLike_33 rfl rfl
theorem d_X6_hasListenerLike_35 : decode cX6_hasListenerLike 35 = .ok (.ifnull 27, 3) := by decide +kernel
theorem j_X6_hasListenerLike_35 {G : en_G} {q : Option en_V → en_S → Prop}  {l0 l1 l2 l3 l4 l5 l6 l7 : en_V} {a0 : Option Nat} {σ : en_S} : en_J (X_X6_hasListenerLike G q) 35 [l0, l1, l2, l3, l4, l5, l6, l7] [en_R a0] σ ↔ (a0 = none → en_J (X_X6_hasListenerLike G q) 62 [l0, l1, l2, l3, l4, l5, l6, l7] [] σ) ∧ (¬ (a0 = none) → en_J (X_X6_hasListenerLike G q) 38 [l0, l1, l2, l3, l4, l5, l6, l7] [] σ) := en_jb d_X6_hasListenerLike_35 rfl ⟨rfl, by decide⟩
theorem d_X6_hasListenerLike_38 : decode cX6_hasListenerLike 38 = .ok (.aload 7, 2) := by decide +kernel
theorem j_X6_hasListenerLike_38 {G : en_G} {q : Option en_V → en_S → Prop}  {l0 l1 l2 l3 l4 l5 l6 : en_V} {x7 : Option Nat} {σ : en_S} : en_J (X_X6_hasListenerLike G q) 38 [l0, l1, l2, l3, l4, l5, l6, en_R x7] [] σ ↔ en_J (X_X6_hasListenerLike G q) 40 [l0, l1, l2, l3, l4, l5, l6, en_R x7] [en_R x7] σ := en_j1 d_X6_hasListenerLike_38 rfl rfl
theorem d_X6_hasListenerLike_40 : decode cX6_hasListenerLike 40 = .ok (.aload_n 1, 1) := by decide +kernel
theorem j_X6_hasListenerLike_40 {G : en_G} {q : Option en_V → en_S → Prop}  {l0 l2 l3 l4 l5 l6 l7 : en_V} {a0 : Option Nat} {x1 : Option Nat} {σ : en_S} : en_J (X_X6_hasListenerLike G q) 40 [l0, en_R x1, l2, l3, l4, l5, l6, l7] [en_R a0] σ ↔ en_J (X_X6_hasListenerLike G q) 41 [l0, en_R x1, l2, l3, l4, l5, l6, l7] [en_R x1, en_R a0] σ := en_j1 d_X6_hasListenerLike_40 rfl rfl
theorem d_X6_hasListenerLike_41 : decode cX6_hasListenerLike 41 = .ok (.iload_n 2, 1) := by decide +kernel
theorem j_X6_hasListenerLike_41 {G : en_G} {q : Option en_V → en_S → Prop}  {l0 l1 l3 l4 l5 l6 l7 : en_V} {a0 : Option Nat} {a1 : Option Nat} {x2 : Int32} {σ : en_S} : en_J (X_X6_hasListenerLike G q) 41 [l0, l1, en_I x2, l3, l4, l5, l6, l7] [en_R a0, en_R a1] σ ↔ en_J (X_X6_hasListenerLike G q) 42 [l0, l1, en_I x2, l3, l4, l5, l6, l7] [en_I x2, en_R a0, en_R a1] σ := en_j1 d_X6_hasListenerLike_41 rfl rfl
theorem d_X6_hasListenerLike_42 : decode cX6_hasListenerLike 42 = .ok (.iload 5, 2) := by decide +kernel
theorem j_X6_hasListenerLike_42 {G : en_G} {q : Option en_V → en_S → Prop}  {l0 l1 l2 l3 l4 l6 l7 : en_V} {a0 : Int32} {a1 : Option Nat} {a2 : Option Nat} {x5 : Int32} {σ : en_S} : en_J (X_X6_hasListenerLike G q) 42 [l0, l1, l2, l3, l4, en_I x5, l6, l7] [en_I a0, en_R a1, en_R a2] σ ↔ en_J (X_X6_hasListenerLike G q) 44 [l0, l1, l2, l3, l4, en_I x5, l6, l7] [en_I x5, en_I a0, en_R a1, en_R a2] σ := en_j1 d_X6_hasListenerLike_42 rfl rfl
theorem d_X6_hasListenerLike_44 : decode cX6_hasListenerLike 44 = .ok (.invokevirtual 256, 3) := by decide +kernel
theorem j_X6_hasListenerLike_44 {G : en_G} {q : Option en_V → en_S → Prop}  {l0 l1 l2 l3 l4 l5 l6 l7 : en_V} {a0 : Int32} {a1 : Int32} {a2 : Option Nat} {a3 : Option Nat} {σ : en_S} : en_J (X_X6_hasListenerLike G q) 44 [l0, l1, l2, l3, l4, l5, l6, l7] [en_I a0, en_I a1, en_R a2, en_R a3] σ ↔ C_X3_hears.1 [en_R a3, en_R a2, en_I a1, en_I a0] σ ∧ ∀ (r : Option en_V) (σ' : en_S), C_X3_hears.2 [en_R a3, en_R a2, en_I a1, en_I a0] σ r σ' → en_J (X_X6_hasListenerLike G q) 47 [l0, l1, l2, l3, l4, l5, l6, l7] (r.toList ++ []) σ' := en_jk d_X6_hasListenerLike_44 rfl ⟨fun h => h.2.2.2.2, fun h => ⟨rfl, rfl, Nat.le_of_ble_eq_true rfl, Nat.le_of_ble_eq_true rfl, h⟩⟩
theorem d_X6_hasListenerLike_47 : decode cX6_hasListenerLike 47 = .ok (.ifCond .eq 15, 3) := by decide +kernel
theorem j_X6_hasListenerLike_47 {G : en_G} {q : Option en_V → en_S → Prop}  {l0 l1 l2 l3 l4 l5 l6 l7 : en_V} {a0 : Int32} {σ : en_S} : en_J (X_X6_hasListenerLike G q) 47 [l0, l1, l2, l3, l4, l5, l6, l7] [en_I a0] σ ↔ (a0 = 0 → en_J (X_X6_hasListenerLike G q) 62 [l0, l1, l2, l3, l4, l5, l6, l7] [] σ) ∧ (¬ (a0 = 0) → en_J (X_X6_hasListenerLike G q) 50 [l0, l1, l2, l3, l4, l5, l6, l7] [] σ) := en_jb d_X6_hasListenerLike_47 rfl ⟨rfl, by decide⟩
theorem d_X6_hasListenerLike_50 : decode cX6_hasListenerLike 50 = .ok (.aload 7, 2) := by decide +kernel
theorem j_X6_hasListenerLike_50 {G : en_G} {q : Option en_V → en_S → Prop}  {l0 l1 l2 l3 l4 l5 l6 : en_V} {x7 : Option Nat} {σ : en_S} : en_J (X_X6_hasListenerLike G q) 50 [l0, l1, l2, l3, l4, l5, l6, en_R x7] [] σ ↔ en_J (X_X6_hasListenerLike G q) 52 [l0, l1, l2, l3, l4, l5, l6, en_R x7] [en_R x7] σ := en_j1 d_X6_hasListenerLike_50 rfl rfl
theorem d_X6_hasListenerLike_52 : decode cX6_hasListenerLike 52 = .ok (.getfield 260, 3) := by decide +kernel
theorem j_X6_hasListenerLike_52 {G : en_G} {q : Option en_V → en_S → Prop}  {l0 l1 l2 l3 l4 l5 l6 l7 : en_V} {a0 : Option Nat} {σ : en_S} : en_J (X_X6_hasListenerLike G q) 52 [l0, l1, l2, l3, l4, l5, l6, l7] [en_R a0] σ ↔ ∃ a, a0 = some a ∧ en_cl σ a = some 3 ∧ en_J (X_X6_hasListenerLike G q) 55 [l0, l1, l2, l3, l4, l5, l6, l7] [en_R (en_fr σ 303 a)] σ := en_jg (st := fun o => [en_R o]) (st' := fun a => [en_R (en_fr σ 303 a)]) (σ' := fun _ => σ) d_X6_hasListenerLike_52 rfl (fun a => rfl) (fun a => ⟨fun h => h.2, fun h => ⟨rfl, h⟩⟩)
theorem d_X6_hasListenerLike_55 : decode cX6_hasListenerLike 55 = .ok (.aload 4, 2) := by decide +kernel
theorem j_X6_hasListenerLike_55 {G : en_G} {q : Option en_V → en_S → Prop}  {l0 l1 l2 l3 l5 l6 l7 : en_V} {a0 : Option Nat} {x4 : Option Nat} {σ : en_S} : en_J (X_X6_hasListenerLike G q) 55 [l0, l1, l2, l3, en_R x4, l5, l6, l7] [en_R a0] σ ↔ en_J (X_X6_hasListenerLike G q) 57 [l0, l1, l2, l3, en_R x4, l5, l6, l7] [en_R x4, en_R a0] σ := en_j1 d_X6_hasListenerLike_55 rfl rfl
theorem d_X6_hasListenerLike_57 : decode cX6_hasListenerLike 57 = .ok (.if_acmp .ne 5, 3) := by decide +kernel
theorem j_X6_hasListenerLike_57 {G : en_G} {q : Option en_V → en_S → Prop}  {l0 l1 l2 l3 l4 l5 l6 l7 : en_V} {a0 : Option Nat} {a1 : Option Nat} {σ : en_S} : en_J (X_X6_hasListenerLike G q) 57 [l0, l1, l2, l3, l4, l5, l6, l7] [en_R a0, en_R a1] σ ↔ (¬ a1 = a0 → en_J (X_X6_hasListenerLike G q) 62 [l0, l1, l2, l3, l4, l5, l6, l7] [] σ) ∧ (¬ (¬ a1 = a0) → en_J (X_X6_hasListenerLike G q) 60 [l0, l1, l2, l3, l4, l5, l6, l7] [] σ) := en_jb d_X6_hasListenerLike_57 rfl ⟨rfl, by decide⟩
theorem d_X6_hasListenerLike_60 : decode cX6_hasListenerLike 60 = .ok (.iconst 1, 1) := by decide +kernel
theorem j_X6_hasListenerLike_60 {G : en_G} {q : Option en_V → en_S → Prop}  {l0 l1 l2 l3 l4 l5 l6 l7 : en_V}  {σ : en_S} : en_J (X_X6_hasListenerLike G q) 60 [l0, l1, l2, l3, l4, l5, l6, l7] [] σ ↔ en_J (X_X6_hasListenerLike G q) 61 [l0, l1, l2, l3, l4, l5, l6, l7] [en_I 1] σ := ej_iconst d_X6_hasListenerLike_60 (by decide +kernel)
theorem d_X6_hasListenerLike_61 : decode cX6_hasListenerLike 61 = .ok (.ireturn, 1) := by decide +kernel
theorem j_X6_hasListenerLike_61 {G : en_G} {q : Option en_V → en_S → Prop}  {l0 l1 l2 l3 l4 l5 l6 l7 : en_V} {a0 : Int32} {σ : en_S} : en_J (X_X6_hasListenerLike G q) 61 [l0, l1, l2, l3, l4, l5, l6, l7] [en_I a0] σ ↔ (a0 = 0 ∨ a0 = 1) ∧ q (some (en_I a0)) σ := en_jr d_X6_hasListenerLike_61 rfl ⟨fun h => ⟨h.2.1.elim (fun z => absurd (show (2 : Nat) = 1 from z) (by decide)) (fun z => z.2), h.2.2⟩, fun h => ⟨rfl, Or.inr ⟨rfl, h.1⟩, h.2⟩⟩
theorem d_X6_hasListenerLike_62 : decode cX6_hasListenerLike 62 = .ok (.iinc 6 1, 3) := by decide +kernel
theorem j_X6_hasListenerLike_62 {G : en_G} {q : Option en_V → en_S → Prop}  {l0 l1 l2 l3 l4 l5 l7 : en_V} {x6 : Int32} {σ : en_S} : en_J (X_X6_hasListenerLike G q) 62 [l0, l1, l2, l3, l4, l5, en_I x6, l7] [] σ ↔ en_J (X_X6_hasListenerLike G q) 65 [l0, l1, l2, l3, l4, en_c2 l5, en_I (x6 + 1), l7] [] σ := ej_iinc d_X6_hasListenerLike_62 rfl (by decide +kernel) rfl
theorem d_X6_hasListenerLike_65 : decode cX6_hasListenerLike 65 = .ok (.goto (-49), 3) := by decide +kernel
theorem j_X6_hasListenerLike_65 {G : en_G} {q : Option en_V → en_S → Prop}  {l0 l1 l2 l3 l4 l5 l6 l7 : en_V}  {σ : en_S} : en_J (X_X6_hasListenerLike G q) 65 [l0, l1, l2, l3, l4, l5, l6, l7] [] σ ↔ en_J (X_X6_hasListenerLike G q) 16 [l0, l1, l2, l3, l4, l5, l6, l7] [] σ := en_j1 d_X6_hasListenerLike_65 rfl ⟨rfl, by decide⟩
theorem d_X6_hasListenerLike_68 : decode cX6_hasListenerLike 68 = .ok (.iconst 0, 1) := by decide +kernel
theorem j_X6_hasListenerLike_68 {G : en_G} {q : Option en_V → en_S → Prop}  {l0 l1 l2 l3 l4 l5 l6 l7 : en_V}  {σ : en_S} : en_J (X_X6_hasListenerLike G q) 68 [l0, l1, l2, l3, l4, l5, l6, l7] [] σ ↔ en_J (X_X6_hasListenerLike G q) 69 [l0, l1, l2, l3, l4, l5, l6, l7] [en_I 0] σ := ej_iconst d_X6_hasListenerLike_68 (by decide +kernel)
theorem d_X6_hasListenerLike_69 : decode cX6_hasListenerLike 69 = .ok (.ireturn, 1) := by decide +kernel
theorem j_X6_hasListenerLike_69 {G : en_G} {q : Option en_V → en_S → Prop}  {l0 l1 l2 l3 l4 l5 l6 l7 : en_V} {a0 : Int32} {σ : en_S} : en_J (X_X6_hasListenerLike G q) 69 [l0, l1, l2, l3, l4, l5, l6, l7] [en_I a0] σ ↔ (a0 = 0 ∨ a0 = 1) ∧ q (some (en_I a0)) σ := en_jr d_X6_hasListenerLike_69 rfl ⟨fun h => ⟨h.2.1.elim (fun z => absurd (show (2 : Nat) = 1 from z) (by decide)) (fun z => z.2), h.2.2⟩, fun h => ⟨rfl, Or.inr ⟨rfl, h.1⟩, h.2⟩⟩
theorem wc_X6_hasListenerLike : Jvm.Cond.code yX6_hasListenerLike cX6_hasListenerLike 8 (some .boolean) ∈ en_W := en_inW (List.mem_of_getElem? (i := 293) (by decide +kernel)) (by decide +kernel)
theorem wi_X6_hasListenerLike : Jvm.Cond.instanceMethod yX6_hasListenerLike ∈ en_W := en_inW (List.mem_of_getElem? (i := 292) (by decide +kernel)) (by decide +kernel)
theorem wx_X6_hasListenerLike : Jvm.Cond.selects RX6 yX6_hasListenerLike yX6_hasListenerLike ∈ en_W := en_inW (List.mem_of_getElem? (i := 4) (by decide +kernel)) (by decide +kernel)
theorem jw_X6_hasListenerLike {G : en_G} {q : Option en_V → en_S → Prop} {x : Nat} {na la ba : Nat → Nat} {rm : Nat} {A : st_A} {σ : en_S} (hC : CX G x na la ba rm A σ) {n o s : Nat} {t : Int32} {l7 : en_V} (hn : n < tr_N (sa_T A)) (ho : o < 8) (hs : s < 8) : ∀ (j k : Nat), k + j = sa_D A 0 0 → q (some (en_I (st_b (ds_like A n t o s j k)))) σ → en_J (X_X6_hasListenerLike G q) 16 [en_R (some x), en_R (some (na n)), en_I t, en_I (nI o), en_R (some (x + 8 + 3 * s)), en_I (st_b (decide (o % 2 = 1))), en_I (nI k), l7] [] σ := by
  intro j
  obtain ⟨c, tt, nd, bx, l, sc, lo, ob, w, r⟩ := id hC
  obtain ⟨⟨a1, a2, a3, a4, a5, a6⟩, -⟩ := id c
  obtain ⟨o1, o2, o3, o4⟩ := ob
  have hL := w.2.1
  induction j generalizing l7 with
  | zero =>
    intro k hk hq
    have : k = sa_D A 0 0 := by omega
    subst this
    have n1 : nI (sa_D A 0 0) ≤ nI (sa_D A 0 0) := nI_le (Nat.le_refl _) (by omega)
    rw [j_X6_hasListenerLike_16]
    simp only [j_X6_hasListenerLike_0, j_X6_hasListenerLike_1, j_X6_hasListenerLike_2, j_X6_hasListenerLike_3, j_X6_hasListenerLike_6, j_X6_hasListenerLike_7, j_X6_hasListenerLike_10, j_X6_hasListenerLike_11, j_X6_hasListenerLike_13, j_X6_hasListenerLike_14, j_X6_hasListenerLike_18, j_X6_hasListenerLike_19, j_X6_hasListenerLike_22, j_X6_hasListenerLike_25, j_X6_hasListenerLike_26, j_X6_hasListenerLike_28, j_X6_hasListenerLike_31, j_X6_hasListenerLike_33, j_X6_hasListenerLike_35, j_X6_hasListenerLike_38, j_X6_hasListenerLike_40, j_X6_hasListenerLike_41, j_X6_hasListenerLike_42, j_X6_hasListenerLike_44, j_X6_hasListenerLike_47, j_X6_hasListenerLike_50, j_X6_hasListenerLike_52, j_X6_hasListenerLike_55, j_X6_hasListenerLike_57, j_X6_hasListenerLike_60, j_X6_hasListenerLike_61, j_X6_hasListenerLike_62, j_X6_hasListenerLike_65, j_X6_hasListenerLike_68, j_X6_hasListenerLike_69, en_c2I, en_c2R, en_c2U, en_c2D, Option.some.injEq, exists_eq_left', exists_eq_left, Option.map_some, Option.map_none, not_true_eq_false, false_implies, true_implies, and_true, true_and, reduceCtorEq, not_false_eq_true, a1, o2, n1]
    exact ⟨by simp, hq⟩
  | succ j ih =>
    intro k hk hq
    have hk' : k < sa_D A 0 0 := by omega
    have n1 : ¬ nI (sa_D A 0 0) ≤ nI k := nI_ge hk' (by omega)
    obtain ⟨l1, l2, l3, l4, l5, l6, -⟩ := l.1 k hk'
    rw [j_X6_hasListenerLike_16]
    simp only [j_X6_hasListenerLike_0, j_X6_hasListenerLike_1, j_X6_hasListenerLike_2, j_X6_hasListenerLike_3, j_X6_hasListenerLike_6, j_X6_hasListenerLike_7, j_X6_hasListenerLike_10, j_X6_hasListenerLike_11, j_X6_hasListenerLike_13, j_X6_hasListenerLike_14, j_X6_hasListenerLike_18, j_X6_hasListenerLike_19, j_X6_hasListenerLike_22, j_X6_hasListenerLike_25, j_X6_hasListenerLike_26, j_X6_hasListenerLike_28, j_X6_hasListenerLike_31, j_X6_hasListenerLike_33, j_X6_hasListenerLike_35, j_X6_hasListenerLike_38, j_X6_hasListenerLike_40, j_X6_hasListenerLike_41, j_X6_hasListenerLike_42, j_X6_hasListenerLike_44, j_X6_hasListenerLike_47, j_X6_hasListenerLike_50, j_X6_hasListenerLike_52, j_X6_hasListenerLike_55, j_X6_hasListenerLike_57, j_X6_hasListenerLike_60, j_X6_hasListenerLike_61, j_X6_hasListenerLike_62, j_X6_hasListenerLike_65, j_X6_hasListenerLike_68, j_X6_hasListenerLike_69, en_c2I, en_c2R, en_c2U, en_c2D, Option.some.injEq, exists_eq_left', exists_eq_left, Option.map_some, Option.map_none, not_true_eq_false, false_implies, true_implies, and_true, true_and, reduceCtorEq, not_false_eq_true, a1, o2, n1]
    refine en_use (cu_X6_listenerAt hC) ?_
    rintro v σ' ⟨rfl, rfl⟩
    rw [st_ix_nI (by omega) hk']
    simp only [Option.toList, List.cons_append, List.nil_append, j_X6_hasListenerLike_0, j_X6_hasListenerLike_1, j_X6_hasListenerLike_2, j_X6_hasListenerLike_3, j_X6_hasListenerLike_6, j_X6_hasListenerLike_7, j_X6_hasListenerLike_10, j_X6_hasListenerLike_11, j_X6_hasListenerLike_13, j_X6_hasListenerLike_14, j_X6_hasListenerLike_18, j_X6_hasListenerLike_19, j_X6_hasListenerLike_22, j_X6_hasListenerLike_25, j_X6_hasListenerLike_26, j_X6_hasListenerLike_28, j_X6_hasListenerLike_31, j_X6_hasListenerLike_33, j_X6_hasListenerLike_35, j_X6_hasListenerLike_38, j_X6_hasListenerLike_40, j_X6_hasListenerLike_41, j_X6_hasListenerLike_42, j_X6_hasListenerLike_44, j_X6_hasListenerLike_47, j_X6_hasListenerLike_50, j_X6_hasListenerLike_52, j_X6_hasListenerLike_55, j_X6_hasListenerLike_57, j_X6_hasListenerLike_60, j_X6_hasListenerLike_61, j_X6_hasListenerLike_62, j_X6_hasListenerLike_65, j_X6_hasListenerLike_68, j_X6_hasListenerLike_69, en_c2I, en_c2R, en_c2U, en_c2D, Option.some.injEq, exists_eq_left', exists_eq_left, Option.map_some, Option.map_none, not_true_eq_false, false_implies, true_implies, and_true, true_and, reduceCtorEq, not_false_eq_true]
    refine en_use (cu_hears hC hk' hn) ?_
    rintro v σ' ⟨rfl, rfl⟩
    have hinj : (some (x + 8 + 3 * sa_D A 2 k) = some (x + 8 + 3 * s)) ↔ sa_D A 2 k = s := by
      rw [Option.some.injEq]; omega
    have hinj' : (x + 8 + 3 * sa_D A 2 k = x + 8 + 3 * s) ↔ sa_D A 2 k = s := by omega
    have i1 : ¬ (1 : Int32) = 0 := by decide
    have e1 : nI k + 1 = nI (k + 1) := nI_1 k
    simp only [ds_like] at hq
    have hcap : (decide (sa_D A 3 k % 2 = 1) == decide (o % 2 = 1)) = decide (sa_D A 3 k % 2 = o % 2) := by
      have m1 : sa_D A 3 k % 2 = 0 ∨ sa_D A 3 k % 2 = 1 := by omega
      have m2 : o % 2 = 0 ∨ o % 2 = 1 := by omega
      rcases m1 with m1 | m1 <;> rcases m2 with m2 | m2 <;> simp [m1, m2]
    rw [← hcap] at hq
    cases hh : (!sa_K A 1 k && decide (sa_D A 1 k = n) && decide (sa_I A 0 k = t) && (decide (sa_D A 3 k % 2 = 1) == decide (o % 2 = 1))) with
    | false =>
      rw [hh] at hq
      simp only [Option.toList, List.cons_append, List.nil_append, j_X6_hasListenerLike_0, j_X6_hasListenerLike_1, j_X6_hasListenerLike_2, j_X6_hasListenerLike_3, j_X6_hasListenerLike_6, j_X6_hasListenerLike_7, j_X6_hasListenerLike_10, j_X6_hasListenerLike_11, j_X6_hasListenerLike_13, j_X6_hasListenerLike_14, j_X6_hasListenerLike_18, j_X6_hasListenerLike_19, j_X6_hasListenerLike_22, j_X6_hasListenerLike_25, j_X6_hasListenerLike_26, j_X6_hasListenerLike_28, j_X6_hasListenerLike_31, j_X6_hasListenerLike_33, j_X6_hasListenerLike_35, j_X6_hasListenerLike_38, j_X6_hasListenerLike_40, j_X6_hasListenerLike_41, j_X6_hasListenerLike_42, j_X6_hasListenerLike_44, j_X6_hasListenerLike_47, j_X6_hasListenerLike_50, j_X6_hasListenerLike_52, j_X6_hasListenerLike_55, j_X6_hasListenerLike_57, j_X6_hasListenerLike_60, j_X6_hasListenerLike_61, j_X6_hasListenerLike_62, j_X6_hasListenerLike_65, j_X6_hasListenerLike_68, j_X6_hasListenerLike_69, en_c2I, en_c2R, en_c2U, en_c2D, Option.some.injEq, exists_eq_left', exists_eq_left, Option.map_some, Option.map_none, not_true_eq_false, false_implies, true_implies, and_true, true_and, reduceCtorEq, not_false_eq_true, st_bf, e1]
      refine ih (k + 1) (by omega) ?_
      simpa using hq
    | true =>
      rw [hh] at hq
      by_cases hsd : sa_D A 2 k = s
      · simp only [Option.toList, List.cons_append, List.nil_append, j_X6_hasListenerLike_0, j_X6_hasListenerLike_1, j_X6_hasListenerLike_2, j_X6_hasListenerLike_3, j_X6_hasListenerLike_6, j_X6_hasListenerLike_7, j_X6_hasListenerLike_10, j_X6_hasListenerLike_11, j_X6_hasListenerLike_13, j_X6_hasListenerLike_14, j_X6_hasListenerLike_18, j_X6_hasListenerLike_19, j_X6_hasListenerLike_22, j_X6_hasListenerLike_25, j_X6_hasListenerLike_26, j_X6_hasListenerLike_28, j_X6_hasListenerLike_31, j_X6_hasListenerLike_33, j_X6_hasListenerLike_35, j_X6_hasListenerLike_38, j_X6_hasListenerLike_40, j_X6_hasListenerLike_41, j_X6_hasListenerLike_42, j_X6_hasListenerLike_44, j_X6_hasListenerLike_47, j_X6_hasListenerLike_50, j_X6_hasListenerLike_52, j_X6_hasListenerLike_55, j_X6_hasListenerLike_57, j_X6_hasListenerLike_60, j_X6_hasListenerLike_61, j_X6_hasListenerLike_62, j_X6_hasListenerLike_65, j_X6_hasListenerLike_68, j_X6_hasListenerLike_69, en_c2I, en_c2R, en_c2U, en_c2D, Option.some.injEq, exists_eq_left', exists_eq_left, Option.map_some, Option.map_none, not_true_eq_false, false_implies, true_implies, and_true, true_and, reduceCtorEq, not_false_eq_true, st_bt, i1, l1, l6, hsd]
        refine ⟨by simp, ?_⟩
        simpa [hsd, st_b] using hq
      · have h9 : ¬ x + 8 + 3 * sa_D A 2 k = x + 8 + 3 * s := fun z => hsd (hinj'.mp z)
        simp only [Option.toList, List.cons_append, List.nil_append, j_X6_hasListenerLike_0, j_X6_hasListenerLike_1, j_X6_hasListenerLike_2, j_X6_hasListenerLike_3, j_X6_hasListenerLike_6, j_X6_hasListenerLike_7, j_X6_hasListenerLike_10, j_X6_hasListenerLike_11, j_X6_hasListenerLike_13, j_X6_hasListenerLike_14, j_X6_hasListenerLike_18, j_X6_hasListenerLike_19, j_X6_hasListenerLike_22, j_X6_hasListenerLike_25, j_X6_hasListenerLike_26, j_X6_hasListenerLike_28, j_X6_hasListenerLike_31, j_X6_hasListenerLike_33, j_X6_hasListenerLike_35, j_X6_hasListenerLike_38, j_X6_hasListenerLike_40, j_X6_hasListenerLike_41, j_X6_hasListenerLike_42, j_X6_hasListenerLike_44, j_X6_hasListenerLike_47, j_X6_hasListenerLike_50, j_X6_hasListenerLike_52, j_X6_hasListenerLike_55, j_X6_hasListenerLike_57, j_X6_hasListenerLike_60, j_X6_hasListenerLike_61, j_X6_hasListenerLike_62, j_X6_hasListenerLike_65, j_X6_hasListenerLike_68, j_X6_hasListenerLike_69, en_c2I, en_c2R, en_c2U, en_c2D, Option.some.injEq, exists_eq_left', exists_eq_left, Option.map_some, Option.map_none, not_true_eq_false, false_implies, true_implies, and_true, true_and, reduceCtorEq, not_false_eq_true, st_bt, i1, l1, l6, h9, e1]
        refine ih (k + 1) (by omega) ?_
        simpa [hsd] using hq
theorem jl_X6_hasListenerLike {G : en_G}  {x : Nat} {na : Nat → Nat} {la : Nat → Nat} {ba : Nat → Nat} {rm : Nat} {A : st_A} {n : Nat} {t : Int32} {o : Nat} {s : Nat} {σ : en_S} (hp : CX G x na la ba rm A σ ∧ n < tr_N (sa_T A) ∧ o < 8 ∧ s < 8) : en_J (X_X6_hasListenerLike G (fun v σ' => σ' = σ ∧ v = some (en_I (st_b (ds_like A n t o s (sa_D A 0 0) 0))))) 0 [en_R (some x), en_R (some (na n)), en_I t, en_I (nI o), en_R (some (x + 8 + 3 * s)), en_U, en_U, en_U] [] σ := by
  obtain ⟨hC, hn, ho, hs⟩ := hp
  have hl := jw_X6_hasListenerLike (q := fun v σ' => σ' = σ ∧ v = some (en_I (st_b (ds_like A n t o s (sa_D A 0 0) 0)))) (l7 := en_U) hC hn ho hs (sa_D A 0 0) 0 (by omega) ⟨rfl, rfl⟩
  rw [show nI 0 = 0 from by decide +kernel] at hl
  have e1 := an1 o ho
  by_cases h2 : o % 2 = 0
  · have e2 := e1.mpr h2
    have e3 : decide (o % 2 = 1) = false := by simp [h2]
    rw [e3, st_bf] at hl
    simp only [j_X6_hasListenerLike_0, j_X6_hasListenerLike_1, j_X6_hasListenerLike_2, j_X6_hasListenerLike_3, j_X6_hasListenerLike_6, j_X6_hasListenerLike_7, j_X6_hasListenerLike_10, j_X6_hasListenerLike_11, j_X6_hasListenerLike_13, j_X6_hasListenerLike_14, j_X6_hasListenerLike_18, j_X6_hasListenerLike_19, j_X6_hasListenerLike_22, j_X6_hasListenerLike_25, j_X6_hasListenerLike_26, j_X6_hasListenerLike_28, j_X6_hasListenerLike_31, j_X6_hasListenerLike_33, j_X6_hasListenerLike_35, j_X6_hasListenerLike_38, j_X6_hasListenerLike_40, j_X6_hasListenerLike_41, j_X6_hasListenerLike_42, j_X6_hasListenerLike_44, j_X6_hasListenerLike_47, j_X6_hasListenerLike_50, j_X6_hasListenerLike_52, j_X6_hasListenerLike_55, j_X6_hasListenerLike_57, j_X6_hasListenerLike_60, j_X6_hasListenerLike_61, j_X6_hasListenerLike_62, j_X6_hasListenerLike_65, j_X6_hasListenerLike_68, j_X6_hasListenerLike_69, en_c2I, en_c2R, en_c2U, en_c2D, Option.some.injEq, exists_eq_left', exists_eq_left, Option.map_some, Option.map_none, not_true_eq_false, false_implies, true_implies, and_true, true_and, reduceCtorEq, not_false_eq_true, e2]
    exact hl
  · have e2 : ¬ nI o &&& 1 = 0 := fun z => h2 (e1.mp z)
    have e3 : decide (o % 2 = 1) = true := by simp; omega
    rw [e3, st_bt] at hl
    simp only [j_X6_hasListenerLike_0, j_X6_hasListenerLike_1, j_X6_hasListenerLike_2, j_X6_hasListenerLike_3, j_X6_hasListenerLike_6, j_X6_hasListenerLike_7, j_X6_hasListenerLike_10, j_X6_hasListenerLike_11, j_X6_hasListenerLike_13, j_X6_hasListenerLike_14, j_X6_hasListenerLike_18, j_X6_hasListenerLike_19, j_X6_hasListenerLike_22, j_X6_hasListenerLike_25, j_X6_hasListenerLike_26, j_X6_hasListenerLike_28, j_X6_hasListenerLike_31, j_X6_hasListenerLike_33, j_X6_hasListenerLike_35, j_X6_hasListenerLike_38, j_X6_hasListenerLike_40, j_X6_hasListenerLike_41, j_X6_hasListenerLike_42, j_X6_hasListenerLike_44, j_X6_hasListenerLike_47, j_X6_hasListenerLike_50, j_X6_hasListenerLike_52, j_X6_hasListenerLike_55, j_X6_hasListenerLike_57, j_X6_hasListenerLike_60, j_X6_hasListenerLike_61, j_X6_hasListenerLike_62, j_X6_hasListenerLike_65, j_X6_hasListenerLike_68, j_X6_hasListenerLike_69, en_c2I, en_c2R, en_c2U, en_c2D, Option.some.injEq, exists_eq_left', exists_eq_left, Option.map_some, Option.map_none, not_true_eq_false, false_implies, true_implies, and_true, true_and, reduceCtorEq, not_false_eq_true, e2]
    exact hl
theorem jp_X6_hasListenerLike {G : en_G}  : ∀ as σ, (C_X6_hasListenerLike G).1 as σ → (en_lc as).length ≤ 8 ∧ en_J (X_X6_hasListenerLike G (fun r σ' => (C_X6_hasListenerLike G).2 as σ r σ')) 0 (en_loc 8 as) [] σ := en_ghJ (fun g as σ h => by
  obtain ⟨hp, h2⟩ := h
  subst h2
  exact ⟨Nat.le_of_ble_eq_true rfl, jl_X6_hasListenerLike hp⟩)
theorem wl_X6_hasListenerLike_252 : Jvm.Cond.methodLink RX6 252 yX6_listenerAt ∈ en_W := en_inW (List.mem_of_getElem? (i := 294) (by decide +kernel)) (by decide +kernel)
theorem wl_X6_hasListenerLike_256 : Jvm.Cond.methodLink RX6 256 yX3_hears ∈ en_W := en_inW (List.mem_of_getElem? (i := 298) (by decide +kernel)) (by decide +kernel)
theorem ok_X6_hasListenerLike {G : en_G}  : en_Ok G 2 yX6_hasListenerLike cX6_hasListenerLike 8 (some .boolean) (C_X6_hasListenerLike G) :=
  en_met (own := RX6) (fl := en_lk fl6) (nw := en_lk nw6) (aw := en_lk aw6) (dc := en_lk dc6) (ca := en_lk (ca_X6_hasListenerLike G)) (rt := 2) (ini := false) (by decide +kernel) (Or.inr (Or.inr (Or.inl ⟨rfl, rfl⟩))) (fun h => by cases h) rfl (fun q => en_LkF fl6_ok nw6_ok aw6_ok dc6_ok) (by
    intro idx q hq
    have hm := en_lk_mem hq
    simp only [ca_X6_hasListenerLike, List.mem_cons, Prod.mk.injEq, List.not_mem_nil, or_false] at hm
    rcases hm with ⟨rfl, rfl⟩ | ⟨rfl, rfl⟩
    · exact en_clV (r := (RX6, TX6, 13)) 6 1 ok_X6_listenerAt (by decide) (by decide) rfl rfl pr_X6_listenerAt wl_X6_hasListenerLike_252 wi_X6_listenerAt wx_X6_listenerAt wz_6 wc_X6_listenerAt ⟨by decide +kernel, by decide +kernel, by decide +kernel⟩
    · exact en_clV (r := (RX3, TX3, 5)) 3 3 ok_X3_hears (by decide) (by decide) rfl rfl pr_X3_hears wl_X6_hasListenerLike_256 wi_X3_hears wx_X3_hears wz_3 wc_X3_hears ⟨by decide +kernel, by decide +kernel, by decide +kernel⟩) jp_X6_hasListenerLike
def P_X6_addListener (G : en_G)  (g : (Nat) × (Nat → Nat) × (Nat → Nat) × (Nat → Nat) × (Nat) × (st_A) × (Nat) × (Int32) × (Nat) × (Nat)) (as : List en_V) (σ : en_S) : Prop := (CX G (g.1) (g.2.1) (g.2.2.1) (g.2.2.2.1) (g.2.2.2.2.1) (g.2.2.2.2.2.1) σ ∧ (g.2.2.2.2.2.2.1) < tr_N (sa_T (g.2.2.2.2.2.1)) ∧ (g.2.2.2.2.2.2.2.2.1) < 8 ∧ (g.2.2.2.2.2.2.2.2.2) < 8) ∧ as = [en_R (some (g.1)), en_R (some ((g.2.1) (g.2.2.2.2.2.2.1))), en_I (g.2.2.2.2.2.2.2.1), en_I (nI (g.2.2.2.2.2.2.2.2.1)), en_R (some ((g.1) + 8 + 3 * (g.2.2.2.2.2.2.2.2.2)))]
def C_X6_addListener (G : en_G)  : en_C := en_gh (P_X6_addListener G) (fun g as σ v σ' => ∃ lb : Nat → Nat, (∀ k, k < sa_D (g.2.2.2.2.2.1) 0 0 → lb k = (g.2.2.1) k) ∧ CX G (g.1) (g.2.1) lb (g.2.2.2.1) (g.2.2.2.2.1) (ds_add (g.2.2.2.2.2.1) (g.2.2.2.2.2.2.1) (g.2.2.2.2.2.2.2.1) (g.2.2.2.2.2.2.2.2.1) (g.2.2.2.2.2.2.2.2.2)).1 σ' ∧ ag σ σ' (dF (g.1) 4) (dV (g.1) 4) ∧ v = some (en_I (ds_add (g.2.2.2.2.2.1) (g.2.2.2.2.2.2.1) (g.2.2.2.2.2.2.2.1) (g.2.2.2.2.2.2.2.2.1) (g.2.2.2.2.2.2.2.2.2)).2))
theorem pr_X6_addListener {G : en_G}  : ∀ as σ, (C_X6_addListener G).1 as σ → ∃ b tl, as = en_R (some b) :: tl ∧ en_cl σ b = some 6 ∧ tl.length = 4 := fun as σ ⟨g, hp, h2⟩ => ⟨_, _, h2, hp.1.1.1.1, rfl⟩
theorem cu_X6_addListener {G : en_G}  {x : Nat} {na : Nat → Nat} {la : Nat → Nat} {ba : Nat → Nat} {rm : Nat} {A : st_A} {n : Nat} {t : Int32} {o : Nat} {s : Nat} {σ : en_S} (hp : CX G x na la ba rm A σ ∧ n < tr_N (sa_T A) ∧ o < 8 ∧ s < 8) : en_Us (C_X6_addListener G) [en_R (some x), en_R (some (na n)), en_I t, en_I (nI o), en_R (some (x + 8 + 3 * s))] σ (fun v σ' => ∃ lb : Nat → Nat, (∀ k, k < sa_D A 0 0 → lb k = la k) ∧ CX G x na lb ba rm (ds_add A n t o s).1 σ' ∧ ag σ σ' (dF x 4) (dV x 4) ∧ v = some (en_I (ds_add A n t o s).2)) := ⟨⟨(x, na, la, ba, rm, A, n, t, o, s), hp, rfl⟩, fun v σ' q => q (x, na, la, ba, rm, A, n, t, o, s) ⟨hp, rfl⟩⟩
def ca_X6_addListener (G : en_G) : List (Nat × Nat × en_C) := [(245, 21, (C_X6_hasListenerLike G)), (249, 22, C_X3_init)]
def X_X6_addListener (G : en_G) (q : Option en_V → en_S → Prop) : en_X := en_mk G cX6_addListener (en_lk fl6) (en_lk nw6) (en_lk aw6) (en_lk dc6) (en_lk (ca_X6_addListener G)) 1 false q
theorem d_X6_addListener_0 : decode cX6_addListener 0 = .ok (.aload_n 0, 1) := by decide +kernel
theorem j_X6_addListener_0 {G : en_G} {q : Option en_V → en_S → Prop}  {l1 l2 l3 l4 : en_V} {x0 : Option Nat} {σ : en_S} : en_J (X_X6_addListener G q) 0 [en_R x0, l1, l2, l3, l4] [] σ ↔ en_J (X_X6_addListener G q) 1 [en_R x0, l1, l2, l3, l4] [en_R x0] σ := en_j1 d_X6_addListener_0 rfl rfl
theorem d_X6_addListener_1 : decode cX6_addListener 1 = .ok (.getfield 226, 3) := by decide +kernel
theorem j_X6_addListener_1 {G : en_G} {q : Option en_V → en_S → Prop}  {l0 l1 l2 l3 l4 : en_V} {a0 : Option Nat} {σ : en_S} : en_J (X_X6_addListener G q) 1 [l0, l1, l2, l3, l4] [en_R a0] σ ↔ ∃ a, a0 = some a ∧ en_cl σ a = some 6 ∧ en_J (X_X6_addListener G q) 4 [l0, l1, l2, l3, l4] [en_I (en_fi σ 603 a)] σ := en_jg (st := fun o => [en_R o]) (st' := fun a => [en_I (en_fi σ 603 a)]) (σ' := fun _ => σ) d_X6_addListener_1 rfl (fun a => rfl) (fun a => ⟨fun h => h.2, fun h => ⟨rfl, h⟩⟩)
theorem d_X6_addListener_4 : decode cX6_addListener 4 = .ok (.aload_n 0, 1) := by decide +kernel
theorem j_X6_addListener_4 {G : en_G} {q : Option en_V → en_S → Prop}  {l1 l2 l3 l4 : en_V} {a0 : Int32} {x0 : Option Nat} {σ : en_S} : en_J (X_X6_addListener G q) 4 [en_R x0, l1, l2, l3, l4] [en_I a0] σ ↔ en_J (X_X6_addListener G q) 5 [en_R x0, l1, l2, l3, l4] [en_R x0, en_I a0] σ := en_j1 d_X6_addListener_4 rfl rfl
theorem d_X6_addListener_5 : decode cX6_addListener 5 = .ok (.getfield 17, 3) := by decide +kernel
theorem j_X6_addListener_5 {G : en_G} {q : Option en_V → en_S → Prop}  {l0 l1 l2 l3 l4 : en_V} {a0 : Option Nat} {a1 : Int32} {σ : en_S} : en_J (X_X6_addListener G q) 5 [l0, l1, l2, l3, l4] [en_R a0, en_I a1] σ ↔ ∃ a, a0 = some a ∧ en_cl σ a = some 6 ∧ en_J (X_X6_addListener G q) 8 [l0, l1, l2, l3, l4] [en_R (en_fr σ 602 a), en_I a1] σ := en_jg (st := fun o => [en_R o, en_I a1]) (st' := fun a => [en_R (en_fr σ 602 a), en_I a1]) (σ' := fun _ => σ) d_X6_addListener_5 rfl (fun a => rfl) (fun a => ⟨fun h => h.2, fun h => ⟨rfl, h⟩⟩)
theorem d_X6_addListener_8 : decode cX6_addListener 8 = .ok (.arraylength, 1) := by decide +kernel
theorem j_X6_addListener_8 {G : en_G} {q : Option en_V → en_S → Prop}  {l0 l1 l2 l3 l4 : en_V} {a0 : Option Nat} {a1 : Int32} {σ : en_S} : en_J (X_X6_addListener G q) 8 [l0, l1, l2, l3, l4] [en_R a0, en_I a1] σ ↔ ∃ a, a0 = some a ∧ (en_al σ a).isSome = true ∧ en_J (X_X6_addListener G q) 9 [l0, l1, l2, l3, l4] [en_I (nI ((en_al σ a).getD (0, 0)).2), en_I a1] σ := ej_alen d_X6_addListener_8 rfl
theorem d_X6_addListener_9 : decode cX6_addListener 9 = .ok (.if_icmp .ge 15, 3) := by decide +kernel
theorem j_X6_addListener_9 {G : en_G} {q : Option en_V → en_S → Prop}  {l0 l1 l2 l3 l4 : en_V} {a0 : Int32} {a1 : Int32} {σ : en_S} : en_J (X_X6_addListener G q) 9 [l0, l1, l2, l3, l4] [en_I a0, en_I a1] σ ↔ (a0 ≤ a1 → en_J (X_X6_addListener G q) 24 [l0, l1, l2, l3, l4] [] σ) ∧ (¬ (a0 ≤ a1) → en_J (X_X6_addListener G q) 12 [l0, l1, l2, l3, l4] [] σ) := en_jb d_X6_addListener_9 rfl ⟨rfl, by decide⟩
theorem d_X6_addListener_12 : decode cX6_addListener 12 = .ok (.aload_n 0, 1) := by decide +kernel
theorem j_X6_addListener_12 {G : en_G} {q : Option en_V → en_S → Prop}  {l1 l2 l3 l4 : en_V} {x0 : Option Nat} {σ : en_S} : en_J (X_X6_addListener G q) 12 [en_R x0, l1, l2, l3, l4] [] σ ↔ en_J (X_X6_addListener G q) 13 [en_R x0, l1, l2, l3, l4] [en_R x0] σ := en_j1 d_X6_addListener_12 rfl rfl
theorem d_X6_addListener_13 : decode cX6_addListener 13 = .ok (.aload_n 1, 1) := by decide +kernel
theorem j_X6_addListener_13 {G : en_G} {q : Option en_V → en_S → Prop}  {l0 l2 l3 l4 : en_V} {a0 : Option Nat} {x1 : Option Nat} {σ : en_S} : en_J (X_X6_addListener G q) 13 [l0, en_R x1, l2, l3, l4] [en_R a0] σ ↔ en_J (X_X6_addListener G q) 14 [l0, en_R x1, l2, l3, l4] [en_R x1, en_R a0] σ := en_j1 d_X6_addListener_13 rfl rfl
theorem d_X6_addListener_14 : decode cX6_addListener 14 = .ok (.iload_n 2, 1) := by decide +kernel
theorem j_X6_addListener_14 {G : en_G} {q : Option en_V → en_S → Prop}  {l0 l1 l3 l4 : en_V} {a0 : Option Nat} {a1 : Option Nat} {x2 : Int32} {σ : en_S} : en_J (X_X6_addListener G q) 14 [l0, l1, en_I x2, l3, l4] [en_R a0, en_R a1] σ ↔ en_J (X_X6_addListener G q) 15 [l0, l1, en_I x2, l3, l4] [en_I x2, en_R a0, en_R a1] σ := en_j1 d_X6_addListener_14 rfl rfl
theorem d_X6_addListener_15 : decode cX6_addListener 15 = .ok (.iload_n 3, 1) := by decide +kernel
theorem j_X6_addListener_15 {G : en_G} {q : Option en_V → en_S → Prop}  {l0 l1 l2 l4 : en_V} {a0 : Int32} {a1 : Option Nat} {a2 : Option Nat} {x3 : Int32} {σ : en_S} : en_J (X_X6_addListener G q) 15 [l0, l1, l2, en_I x3, l4] [en_I a0, en_R a1, en_R a2] σ ↔ en_J (X_X6_addListener G q) 16 [l0, l1, l2, en_I x3, l4] [en_I x3, en_I a0, en_R a1, en_R a2] σ := en_j1 d_X6_addListener_15 rfl rfl
theorem d_X6_addListener_16 : decode cX6_addListener 16 = .ok (.aload 4, 2) := by decide +kernel
theorem j_X6_addListener_16 {G : en_G} {q : Option en_V → en_S → Prop}  {l0 l1 l2 l3 : en_V} {a0 : Int32} {a1 : Int32} {a2 : Option Nat} {a3 : Option Nat} {x4 : Option Nat} {σ : en_S} : en_J (X_X6_addListener G q) 16 [l0, l1, l2, l3, en_R x4] [en_I a0, en_I a1, en_R a2, en_R a3] σ ↔ en_J (X_X6_addListener G q) 18 [l0, l1, l2, l3, en_R x4] [en_R x4, en_I a0, en_I a1, en_R a2, en_R a3] σ := en_j1 d_X6_addListener_16 rfl rfl
theorem d_X6_addListener_18 : decode cX6_addListener 18 = .ok (.invokevirtual 245, 3) := by decide +kernel
theorem j_X6_addListener_18 {G : en_G} {q : Option en_V → en_S → Prop}  {l0 l1 l2 l3 l4 : en_V} {a0 : Option Nat} {a1 : Int32} {a2 : Int32} {a3 : Option Nat} {a4 : Option Nat} {σ : en_S} : en_J (X_X6_addListener G q) 18 [l0, l1, l2, l3, l4] [en_R a0, en_I a1, en_I a2, en_R a3, en_R a4] σ ↔ (C_X6_hasListenerLike G).1 [en_R a4, en_R a3, en_I a2, en_I a1, en_R a0] σ ∧ ∀ (r : Option en_V) (σ' : en_S), (C_X6_hasListenerLike G).2 [en_R a4, en_R a3, en_I a2, en_I a1, en_R a0] σ r σ' → en_J (X_X6_addListener G q) 21 [l0, l1, l2, l3, l4] (r.toList ++ []) σ' := en_jkC (C := (C_X6_hasListenerLike G)) (n' := 5) (k := 1) (idx := 245) d_X6_addListener_18 rfl rfl (by decide) (Nat.le_of_ble_eq_true rfl) (Nat.le_of_ble_eq_true rfl)
theorem d_X6_addListener_21 : decode cX6_addListener 21 = .ok (.ifCond .eq 5, 3) := by decide +kernel
theorem j_X6_addListener_21 {G : en_G} {q : Option en_V → en_S → Prop}  {l0 l1 l2 l3 l4 : en_V} {a0 : Int32} {σ : en_S} : en_J (X_X6_addListener G q) 21 [l0, l1, l2, l3, l4] [en_I a0] σ ↔ (a0 = 0 → en_J (X_X6_addListener G q) 26 [l0, l1, l2, l3, l4] [] σ) ∧ (¬ (a0 = 0) → en_J (X_X6_addListener G q) 24 [l0, l1, l2, l3, l4] [] σ) := en_jb d_X6_addListener_21 rfl ⟨rfl, by decide⟩
theorem d_X6_addListener_24 : decode cX6_addListener 24 = .ok (.iconst (-1), 1) := by decide +kernel
theorem j_X6_addListener_24 {G : en_G} {q : Option en_V → en_S → Prop}  {l0 l1 l2 l3 l4 : en_V}  {σ : en_S} : en_J (X_X6_addListener G q) 24 [l0, l1, l2, l3, l4] [] σ ↔ en_J (X_X6_addListener G q) 25 [l0, l1, l2, l3, l4] [en_I (-1)] σ := ej_iconst d_X6_addListener_24 (by decide +kernel)
theorem d_X6_addListener_25 : decode cX6_addListener 25 = .ok (.ireturn, 1) := by decide +kernel
theorem j_X6_addListener_25 {G : en_G} {q : Option en_V → en_S → Prop}  {l0 l1 l2 l3 l4 : en_V} {a0 : Int32} {σ : en_S} : en_J (X_X6_addListener G q) 25 [l0, l1, l2, l3, l4] [en_I a0] σ ↔ q (some (en_I a0)) σ := en_jr d_X6_addListener_25 rfl ⟨fun h => h.2.2, fun h => ⟨rfl, Or.inl rfl, h⟩⟩
theorem d_X6_addListener_26 : decode cX6_addListener 26 = .ok (.aload_n 0, 1) := by decide +kernel
theorem j_X6_addListener_26 {G : en_G} {q : Option en_V → en_S → Prop}  {l1 l2 l3 l4 : en_V} {x0 : Option Nat} {σ : en_S} : en_J (X_X6_addListener G q) 26 [en_R x0, l1, l2, l3, l4] [] σ ↔ en_J (X_X6_addListener G q) 27 [en_R x0, l1, l2, l3, l4] [en_R x0] σ := en_j1 d_X6_addListener_26 rfl rfl
theorem d_X6_addListener_27 : decode cX6_addListener 27 = .ok (.getfield 17, 3) := by decide +kernel
theorem j_X6_addListener_27 {G : en_G} {q : Option en_V → en_S → Prop}  {l0 l1 l2 l3 l4 : en_V} {a0 : Option Nat} {σ : en_S} : en_J (X_X6_addListener G q) 27 [l0, l1, l2, l3, l4] [en_R a0] σ ↔ ∃ a, a0 = some a ∧ en_cl σ a = some 6 ∧ en_J (X_X6_addListener G q) 30 [l0, l1, l2, l3, l4] [en_R (en_fr σ 602 a)] σ := en_jg (st := fun o => [en_R o]) (st' := fun a => [en_R (en_fr σ 602 a)]) (σ' := fun _ => σ) d_X6_addListener_27 rfl (fun a => rfl) (fun a => ⟨fun h => h.2, fun h => ⟨rfl, h⟩⟩)
theorem d_X6_addListener_30 : decode cX6_addListener 30 = .ok (.aload_n 0, 1) := by decide +kernel
theorem j_X6_addListener_30 {G : en_G} {q : Option en_V → en_S → Prop}  {l1 l2 l3 l4 : en_V} {a0 : Option Nat} {x0 : Option Nat} {σ : en_S} : en_J (X_X6_addListener G q) 30 [en_R x0, l1, l2, l3, l4] [en_R a0] σ ↔ en_J (X_X6_addListener G q) 31 [en_R x0, l1, l2, l3, l4] [en_R x0, en_R a0] σ := en_j1 d_X6_addListener_30 rfl rfl
theorem d_X6_addListener_31 : decode cX6_addListener 31 = .ok (.getfield 226, 3) := by decide +kernel
theorem j_X6_addListener_31 {G : en_G} {q : Option en_V → en_S → Prop}  {l0 l1 l2 l3 l4 : en_V} {a0 : Option Nat} {a1 : Option Nat} {σ : en_S} : en_J (X_X6_addListener G q) 31 [l0, l1, l2, l3, l4] [en_R a0, en_R a1] σ ↔ ∃ a, a0 = some a ∧ en_cl σ a = some 6 ∧ en_J (X_X6_addListener G q) 34 [l0, l1, l2, l3, l4] [en_I (en_fi σ 603 a), en_R a1] σ := en_jg (st := fun o => [en_R o, en_R a1]) (st' := fun a => [en_I (en_fi σ 603 a), en_R a1]) (σ' := fun _ => σ) d_X6_addListener_31 rfl (fun a => rfl) (fun a => ⟨fun h => h.2, fun h => ⟨rfl, h⟩⟩)
theorem d_X6_addListener_34 : decode cX6_addListener 34 = .ok (.new 15, 3) := by decide +kernel
theorem j_X6_addListener_34 {G : en_G} {q : Option en_V → en_S → Prop}  {l0 l1 l2 l3 l4 : en_V} {a0 : Int32} {a1 : Option Nat} {σ : en_S} : en_J (X_X6_addListener G q) 34 [l0, l1, l2, l3, l4] [en_I a0, en_R a1] σ ↔ (en_nx σ + 1 ≤ G.2.2.2.2.1 ∧ en_ns σ + 5 ≤ G.2.2.2.2.2) ∧ en_J (X_X6_addListener G q) 37 [l0, l1, l2, l3, l4] [en_R (some (en_nx σ)), en_I a0, en_R a1] (en_new σ 3 5) := en_jc d_X6_addListener_34 rfl ⟨fun h => h.2, fun h => ⟨rfl, h⟩⟩
theorem d_X6_addListener_37 : decode cX6_addListener 37 = .ok (.dup, 1) := by decide +kernel
theorem j_X6_addListener_37 {G : en_G} {q : Option en_V → en_S → Prop}  {l0 l1 l2 l3 l4 : en_V} {a0 : Option Nat} {a1 : Int32} {a2 : Option Nat} {σ : en_S} : en_J (X_X6_addListener G q) 37 [l0, l1, l2, l3, l4] [en_R a0, en_I a1, en_R a2] σ ↔ en_J (X_X6_addListener G q) 38 [l0, l1, l2, l3, l4] [en_R a0, en_R a0, en_I a1, en_R a2] σ := en_j1 d_X6_addListener_37 rfl rfl
theorem d_X6_addListener_38 : decode cX6_addListener 38 = .ok (.aload_n 1, 1) := by decide +kernel
theorem j_X6_addListener_38 {G : en_G} {q : Option en_V → en_S → Prop}  {l0 l2 l3 l4 : en_V} {a0 : Option Nat} {a1 : Option Nat} {a2 : Int32} {a3 : Option Nat} {x1 : Option Nat} {σ : en_S} : en_J (X_X6_addListener G q) 38 [l0, en_R x1, l2, l3, l4] [en_R a0, en_R a1, en_I a2, en_R a3] σ ↔ en_J (X_X6_addListener G q) 39 [l0, en_R x1, l2, l3, l4] [en_R x1, en_R a0, en_R a1, en_I a2, en_R a3] σ := en_j1 d_X6_addListener_38 rfl rfl
theorem d_X6_addListener_39 : decode cX6_addListener 39 = .ok (.iload_n 2, 1) := by decide +kernel
theorem j_X6_addListener_39 {G : en_G} {q : Option en_V → en_S → Prop}  {l0 l1 l3 l4 : en_V} {a0 : Option Nat} {a1 : Option Nat} {a2 : Option Nat} {a3 : Int32} {a4 : Option Nat} {x2 : Int32} {σ : en_S} : en_J (X_X6_addListener G q) 39 [l0, l1, en_I x2, l3, l4] [en_R a0, en_R a1, en_R a2, en_I a3, en_R a4] σ ↔ en_J (X_X6_addListener G q) 40 [l0, l1, en_I x2, l3, l4] [en_I x2, en_R a0, en_R a1, en_R a2, en_I a3, en_R a4] σ := en_j1 d_X6_addListener_39 rfl rfl
theorem d_X6_addListener_40 : decode cX6_addListener 40 = .ok (.iload_n 3, 1) := by decide +kernel
theorem j_X6_addListener_40 {G : en_G} {q : Option en_V → en_S → Prop}  {l0 l1 l2 l4 : en_V} {a0 : Int32} {a1 : Option Nat} {a2 : Option Nat} {a3 : Option Nat} {a4 : Int32} {a5 : Option Nat} {x3 : Int32} {σ : en_S} : en_J (X_X6_addListener G q) 40 [l0, l1, l2, en_I x3, l4] [en_I a0, en_R a1, en_R a2, en_R a3, en_I a4, en_R a5] σ ↔ en_J (X_X6_addListener G q) 41 [l0, l1, l2, en_I x3, l4] [en_I x3, en_I a0, en_R a1, en_R a2, en_R a3, en_I a4, en_R a5] σ := en_j1 d_X6_addListener_40 rfl rfl
theorem d_X6_addListener_41 : decode cX6_addListener 41 = .ok (.aload 4, 2) := by decide +kernel
theorem j_X6_addListener_41 {G : en_G} {q : Option en_V → en_S → Prop}  {l0 l1 l2 l3 : en_V} {a0 : Int32} {a1 : Int32} {a2 : Option Nat} {a3 : Option Nat} {a4 : Option Nat} {a5 : Int32} {a6 : Option Nat} {x4 : Option Nat} {σ : en_S} : en_J (X_X6_addListener G q) 41 [l0, l1, l2, l3, en_R x4] [en_I a0, en_I a1, en_R a2, en_R a3, en_R a4, en_I a5, en_R a6] σ ↔ en_J (X_X6_addListener G q) 43 [l0, l1, l2, l3, en_R x4] [en_R x4, en_I a0, en_I a1, en_R a2, en_R a3, en_R a4, en_I a5, en_R a6] σ := en_j1 d_X6_addListener_41 rfl rfl
theorem d_X6_addListener_43 : decode cX6_addListener 43 = .ok (.invokespecial 249, 3) := by decide +kernel
theorem j_X6_addListener_43 {G : en_G} {q : Option en_V → en_S → Prop}  {l0 l1 l2 l3 l4 : en_V} {a0 : Option Nat} {a1 : Int32} {a2 : Int32} {a3 : Option Nat} {a4 : Option Nat} {a5 : Option Nat} {a6 : Int32} {a7 : Option Nat} {σ : en_S} : en_J (X_X6_addListener G q) 43 [l0, l1, l2, l3, l4] [en_R a0, en_I a1, en_I a2, en_R a3, en_R a4, en_R a5, en_I a6, en_R a7] σ ↔ C_X3_init.1 [en_R a4, en_R a3, en_I a2, en_I a1, en_R a0] σ ∧ ∀ (r : Option en_V) (σ' : en_S), C_X3_init.2 [en_R a4, en_R a3, en_I a2, en_I a1, en_R a0] σ r σ' → en_J (X_X6_addListener G q) 46 [l0, l1, l2, l3, l4] (r.toList ++ [en_R a5, en_I a6, en_R a7]) σ' := en_jk d_X6_addListener_43 rfl ⟨fun h => h.2.2.2.2, fun h => ⟨rfl, rfl, Nat.le_of_ble_eq_true rfl, Nat.le_of_ble_eq_true rfl, h⟩⟩
theorem d_X6_addListener_46 : decode cX6_addListener 46 = .ok (.aastore, 1) := by decide +kernel
theorem j_X6_addListener_46 {G : en_G} {q : Option en_V → en_S → Prop}  {l0 l1 l2 l3 l4 : en_V} {a0 : Option Nat} {a1 : Int32} {a2 : Option Nat} {σ : en_S} : en_J (X_X6_addListener G q) 46 [l0, l1, l2, l3, l4] [en_R a0, en_I a1, en_R a2] σ ↔ ∃ a, a2 = some a ∧ (∃ t k, en_al σ a = some (t, k) ∧ 4 ≤ t ∧ vp_in a1 k ∧ ∀ b, a0 = some b → en_cl σ b = some (en_ec t)) ∧ en_J (X_X6_addListener G q) 47 [l0, l1, l2, l3, l4] [] (en_sar σ a a1.toNatClampNeg a0) := ej_aastore d_X6_addListener_46
theorem d_X6_addListener_47 : decode cX6_addListener 47 = .ok (.aload_n 0, 1) := by decide +kernel
theorem j_X6_addListener_47 {G : en_G} {q : Option en_V → en_S → Prop}  {l1 l2 l3 l4 : en_V} {x0 : Option Nat} {σ : en_S} : en_J (X_X6_addListener G q) 47 [en_R x0, l1, l2, l3, l4] [] σ ↔ en_J (X_X6_addListener G q) 48 [en_R x0, l1, l2, l3, l4] [en_R x0] σ := en_j1 d_X6_addListener_47 rfl rfl
theorem d_X6_addListener_48 : decode cX6_addListener 48 = .ok (.dup, 1) := by decide +kernel
theorem j_X6_addListener_48 {G : en_G} {q : Option en_V → en_S → Prop}  {l0 l1 l2 l3 l4 : en_V} {a0 : Option Nat} {σ : en_S} : en_J (X_X6_addListener G q) 48 [l0, l1, l2, l3, l4] [en_R a0] σ ↔ en_J (X_X6_addListener G q) 49 [l0, l1, l2, l3, l4] [en_R a0, en_R a0] σ := en_j1 d_X6_addListener_48 rfl rfl
theorem d_X6_addListener_49 : decode cX6_addListener 49 = .ok (.getfield 226, 3) := by decide +kernel
theorem j_X6_addListener_49 {G : en_G} {q : Option en_V → en_S → Prop}  {l0 l1 l2 l3 l4 : en_V} {a0 : Option Nat} {a1 : Option Nat} {σ : en_S} : en_J (X_X6_addListener G q) 49 [l0, l1, l2, l3, l4] [en_R a0, en_R a1] σ ↔ ∃ a, a0 = some a ∧ en_cl σ a = some 6 ∧ en_J (X_X6_addListener G q) 52 [l0, l1, l2, l3, l4] [en_I (en_fi σ 603 a), en_R a1] σ := en_jg (st := fun o => [en_R o, en_R a1]) (st' := fun a => [en_I (en_fi σ 603 a), en_R a1]) (σ' := fun _ => σ) d_X6_addListener_49 rfl (fun a => rfl) (fun a => ⟨fun h => h.2, fun h => ⟨rfl, h⟩⟩)
theorem d_X6_addListener_52 : decode cX6_addListener 52 = .ok (.iconst 1, 1) := by decide +kernel
theorem j_X6_addListener_52 {G : en_G} {q : Option en_V → en_S → Prop}  {l0 l1 l2 l3 l4 : en_V} {a0 : Int32} {a1 : Option Nat} {σ : en_S} : en_J (X_X6_addListener G q) 52 [l0, l1, l2, l3, l4] [en_I a0, en_R a1] σ ↔ en_J (X_X6_addListener G q) 53 [l0, l1, l2, l3, l4] [en_I 1, en_I a0, en_R a1] σ := ej_iconst d_X6_addListener_52 (by decide +kernel)
theorem d_X6_addListener_53 : decode cX6_addListener 53 = .ok (.iadd, 1) := by decide +kernel
theorem j_X6_addListener_53 {G : en_G} {q : Option en_V → en_S → Prop}  {l0 l1 l2 l3 l4 : en_V} {a0 : Int32} {a1 : Int32} {a2 : Option Nat} {σ : en_S} : en_J (X_X6_addListener G q) 53 [l0, l1, l2, l3, l4] [en_I a0, en_I a1, en_R a2] σ ↔ en_J (X_X6_addListener G q) 54 [l0, l1, l2, l3, l4] [en_I (a1 + a0), en_R a2] σ := en_j1 d_X6_addListener_53 rfl ⟨rfl, trivial⟩
theorem d_X6_addListener_54 : decode cX6_addListener 54 = .ok (.putfield 226, 3) := by decide +kernel
theorem j_X6_addListener_54 {G : en_G} {q : Option en_V → en_S → Prop}  {l0 l1 l2 l3 l4 : en_V} {a0 : Int32} {a1 : Option Nat} {σ : en_S} : en_J (X_X6_addListener G q) 54 [l0, l1, l2, l3, l4] [en_I a0, en_R a1] σ ↔ ∃ a, a1 = some a ∧ en_cl σ a = some 6 ∧ en_J (X_X6_addListener G q) 57 [l0, l1, l2, l3, l4] [] (en_sfi σ 603 a a0) := en_jg (st := fun o => [en_I a0, en_R o]) (st' := fun _ => []) (σ' := fun a => en_sfi σ 603 a a0) d_X6_addListener_54 rfl (fun a => rfl) (fun a => ⟨fun h => h.2.1, fun h => ⟨rfl, h, trivial, fun z => absurd z (by decide +kernel)⟩⟩)
theorem d_X6_addListener_57 : decode cX6_addListener 57 = .ok (.aload_n 0, 1) := by decide +kernel
theorem j_X6_addListener_57 {G : en_G} {q : Option en_V → en_S → Prop}  {l1 l2 l3 l4 : en_V} {x0 : Option Nat} {σ : en_S} : en_J (X_X6_addListener G q) 57 [en_R x0, l1, l2, l3, l4] [] σ ↔ en_J (X_X6_addListener G q) 58 [en_R x0, l1, l2, l3, l4] [en_R x0] σ := en_j1 d_X6_addListener_57 rfl rfl
theorem d_X6_addListener_58 : decode cX6_addListener 58 = .ok (.getfield 226, 3) := by decide +kernel
theorem j_X6_addListener_58 {G : en_G} {q : Option en_V → en_S → Prop}  {l0 l1 l2 l3 l4 : en_V} {a0 : Option Nat} {σ : en_S} : en_J (X_X6_addListener G q) 58 [l0, l1, l2, l3, l4] [en_R a0] σ ↔ ∃ a, a0 = some a ∧ en_cl σ a = some 6 ∧ en_J (X_X6_addListener G q) 61 [l0, l1, l2, l3, l4] [en_I (en_fi σ 603 a)] σ := en_jg (st := fun o => [en_R o]) (st' := fun a => [en_I (en_fi σ 603 a)]) (σ' := fun _ => σ) d_X6_addListener_58 rfl (fun a => rfl) (fun a => ⟨fun h => h.2, fun h => ⟨rfl, h⟩⟩)
theorem d_X6_addListener_61 : decode cX6_addListener 61 = .ok (.iconst 1, 1) := by decide +kernel
theorem j_X6_addListener_61 {G : en_G} {q : Option en_V → en_S → Prop}  {l0 l1 l2 l3 l4 : en_V} {a0 : Int32} {σ : en_S} : en_J (X_X6_addListener G q) 61 [l0, l1, l2, l3, l4] [en_I a0] σ ↔ en_J (X_X6_addListener G q) 62 [l0, l1, l2, l3, l4] [en_I 1, en_I a0] σ := ej_iconst d_X6_addListener_61 (by decide +kernel)
theorem d_X6_addListener_62 : decode cX6_addListener 62 = .ok (.isub, 1) := by decide +kernel
theorem j_X6_addListener_62 {G : en_G} {q : Option en_V → en_S → Prop}  {l0 l1 l2 l3 l4 : en_V} {a0 : Int32} {a1 : Int32} {σ : en_S} : en_J (X_X6_addListener G q) 62 [l0, l1, l2, l3, l4] [en_I a0, en_I a1] σ ↔ en_J (X_X6_addListener G q) 63 [l0, l1, l2, l3, l4] [en_I (a1 - a0)] σ := en_j1 d_X6_addListener_62 rfl ⟨rfl, trivial⟩
theorem d_X6_addListener_63 : decode cX6_addListener 63 = .ok (.ireturn, 1) := by decide +kernel
theorem j_X6_addListener_63 {G : en_G} {q : Option en_V → en_S → Prop}  {l0 l1 l2 l3 l4 : en_V} {a0 : Int32} {σ : en_S} : en_J (X_X6_addListener G q) 63 [l0, l1, l2, l3, l4] [en_I a0] σ ↔ q (some (en_I a0)) σ := en_jr d_X6_addListener_63 rfl ⟨fun h => h.2.2, fun h => ⟨rfl, Or.inl rfl, h⟩⟩
theorem wc_X6_addListener : Jvm.Cond.code yX6_addListener cX6_addListener 5 (some .int) ∈ en_W := en_inW (List.mem_of_getElem? (i := 289) (by decide +kernel)) (by decide +kernel)
theorem wi_X6_addListener : Jvm.Cond.instanceMethod yX6_addListener ∈ en_W := en_inW (List.mem_of_getElem? (i := 288) (by decide +kernel)) (by decide +kernel)
theorem wx_X6_addListener : Jvm.Cond.selects RX6 yX6_addListener yX6_addListener ∈ en_W := en_inW (List.mem_of_getElem? (i := 3) (by decide +kernel)) (by decide +kernel)
theorem jl_X6_addListener {G : en_G}  {x : Nat} {na : Nat → Nat} {la : Nat → Nat} {ba : Nat → Nat} {rm : Nat} {A : st_A} {n : Nat} {t : Int32} {o : Nat} {s : Nat} {σ : en_S} (hp : CX G x na la ba rm A σ ∧ n < tr_N (sa_T A) ∧ o < 8 ∧ s < 8) : en_J (X_X6_addListener G (fun v σ' => ∃ lb : Nat → Nat, (∀ k, k < sa_D A 0 0 → lb k = la k) ∧ CX G x na lb ba rm (ds_add A n t o s).1 σ' ∧ ag σ σ' (dF x 4) (dV x 4) ∧ v = some (en_I (ds_add A n t o s).2))) 0 [en_R (some x), en_R (some (na n)), en_I t, en_I (nI o), en_R (some (x + 8 + 3 * s))] [] σ := by
  obtain ⟨hC, hn, ho, hs⟩ := hp
  obtain ⟨c, tt, nd, bx, l, sc, lo, ob, w, r⟩ := id hC
  obtain ⟨⟨a1, a2, a3, a4, a5, a6⟩, ⟨b1, b2, b3, b4⟩, c3, d, e, kk, f⟩ := id c
  obtain ⟨o1, o2, o3, o4⟩ := ob
  have hL := w.2.1
  by_cases h40 : 40 ≤ sa_D A 0 0
  · have n1 : nI 40 ≤ nI (sa_D A 0 0) := nI_le h40 (by omega)
    simp only [j_X6_addListener_0, j_X6_addListener_1, j_X6_addListener_4, j_X6_addListener_5, j_X6_addListener_8, j_X6_addListener_9, j_X6_addListener_12, j_X6_addListener_13, j_X6_addListener_14, j_X6_addListener_15, j_X6_addListener_16, j_X6_addListener_18, j_X6_addListener_21, j_X6_addListener_24, j_X6_addListener_25, j_X6_addListener_26, j_X6_addListener_27, j_X6_addListener_30, j_X6_addListener_31, j_X6_addListener_34, j_X6_addListener_37, j_X6_addListener_38, j_X6_addListener_39, j_X6_addListener_40, j_X6_addListener_41, j_X6_addListener_43, j_X6_addListener_46, j_X6_addListener_47, j_X6_addListener_48, j_X6_addListener_49, j_X6_addListener_52, j_X6_addListener_53, j_X6_addListener_54, j_X6_addListener_57, j_X6_addListener_58, j_X6_addListener_61, j_X6_addListener_62, j_X6_addListener_63, en_c2I, en_c2R, en_c2U, en_c2D, Option.some.injEq, exists_eq_left', exists_eq_left, Option.map_some, Option.map_none, not_true_eq_false, false_implies, true_implies, and_true, true_and, reduceCtorEq, not_false_eq_true, a1, a3, o2, b2, Option.isSome_some, Option.getD_some, n1]
    refine ⟨la, fun _ _ => rfl, ?_, ag.rf, ?_⟩
    · unfold ds_add; rw [if_pos (Or.inl h40)]; exact hC
    · unfold ds_add; rw [if_pos (Or.inl h40)]
  · have n1 : ¬ nI 40 ≤ nI (sa_D A 0 0) := nI_ge (by omega) (by decide)
    simp only [j_X6_addListener_0, j_X6_addListener_1, j_X6_addListener_4, j_X6_addListener_5, j_X6_addListener_8, j_X6_addListener_9, j_X6_addListener_12, j_X6_addListener_13, j_X6_addListener_14, j_X6_addListener_15, j_X6_addListener_16, j_X6_addListener_18, j_X6_addListener_21, j_X6_addListener_24, j_X6_addListener_25, j_X6_addListener_26, j_X6_addListener_27, j_X6_addListener_30, j_X6_addListener_31, j_X6_addListener_34, j_X6_addListener_37, j_X6_addListener_38, j_X6_addListener_39, j_X6_addListener_40, j_X6_addListener_41, j_X6_addListener_43, j_X6_addListener_46, j_X6_addListener_47, j_X6_addListener_48, j_X6_addListener_49, j_X6_addListener_52, j_X6_addListener_53, j_X6_addListener_54, j_X6_addListener_57, j_X6_addListener_58, j_X6_addListener_61, j_X6_addListener_62, j_X6_addListener_63, en_c2I, en_c2R, en_c2U, en_c2D, Option.some.injEq, exists_eq_left', exists_eq_left, Option.map_some, Option.map_none, not_true_eq_false, false_implies, true_implies, and_true, true_and, reduceCtorEq, not_false_eq_true, a1, a3, o2, b2, Option.isSome_some, Option.getD_some, n1]
    refine en_use (cu_X6_hasListenerLike ⟨hC, hn, ho, hs⟩) ?_
    rintro v σ' ⟨rfl, rfl⟩
    have i1 : ¬ (1 : Int32) = 0 := by decide
    cases hlk : ds_like A n t o s (sa_D A 0 0) 0 with
    | true =>
      simp only [Option.toList, List.cons_append, List.nil_append, j_X6_addListener_0, j_X6_addListener_1, j_X6_addListener_4, j_X6_addListener_5, j_X6_addListener_8, j_X6_addListener_9, j_X6_addListener_12, j_X6_addListener_13, j_X6_addListener_14, j_X6_addListener_15, j_X6_addListener_16, j_X6_addListener_18, j_X6_addListener_21, j_X6_addListener_24, j_X6_addListener_25, j_X6_addListener_26, j_X6_addListener_27, j_X6_addListener_30, j_X6_addListener_31, j_X6_addListener_34, j_X6_addListener_37, j_X6_addListener_38, j_X6_addListener_39, j_X6_addListener_40, j_X6_addListener_41, j_X6_addListener_43, j_X6_addListener_46, j_X6_addListener_47, j_X6_addListener_48, j_X6_addListener_49, j_X6_addListener_52, j_X6_addListener_53, j_X6_addListener_54, j_X6_addListener_57, j_X6_addListener_58, j_X6_addListener_61, j_X6_addListener_62, j_X6_addListener_63, en_c2I, en_c2R, en_c2U, en_c2D, Option.some.injEq, exists_eq_left', exists_eq_left, Option.map_some, Option.map_none, not_true_eq_false, false_implies, true_implies, and_true, true_and, reduceCtorEq, not_false_eq_true, st_bt, i1]
      refine ⟨la, fun _ _ => rfl, ?_, ag.rf, ?_⟩
      · unfold ds_add; rw [if_pos (Or.inr hlk)]; exact hC
      · unfold ds_add; rw [if_pos (Or.inr hlk)]
    | false =>
      have hc : ¬ (40 ≤ sa_D A 0 0 ∨ ds_like A n t o s (sa_D A 0 0) 0 = true) := by rw [hlk]; simp; omega
      have hcx := cx_add hC hn ho hs hc
      unfold cd_room at r
      have hr1 : en_nx σ' + 1 ≤ G.2.2.2.2.1 := by omega
      have hr2 : en_ns σ' + 5 ≤ G.2.2.2.2.2 := by omega
      simp only [Option.toList, List.cons_append, List.nil_append, j_X6_addListener_0, j_X6_addListener_1, j_X6_addListener_4, j_X6_addListener_5, j_X6_addListener_8, j_X6_addListener_9, j_X6_addListener_12, j_X6_addListener_13, j_X6_addListener_14, j_X6_addListener_15, j_X6_addListener_16, j_X6_addListener_18, j_X6_addListener_21, j_X6_addListener_24, j_X6_addListener_25, j_X6_addListener_26, j_X6_addListener_27, j_X6_addListener_30, j_X6_addListener_31, j_X6_addListener_34, j_X6_addListener_37, j_X6_addListener_38, j_X6_addListener_39, j_X6_addListener_40, j_X6_addListener_41, j_X6_addListener_43, j_X6_addListener_46, j_X6_addListener_47, j_X6_addListener_48, j_X6_addListener_49, j_X6_addListener_52, j_X6_addListener_53, j_X6_addListener_54, j_X6_addListener_57, j_X6_addListener_58, j_X6_addListener_61, j_X6_addListener_62, j_X6_addListener_63, en_c2I, en_c2R, en_c2U, en_c2D, Option.some.injEq, exists_eq_left', exists_eq_left, Option.map_some, Option.map_none, not_true_eq_false, false_implies, true_implies, and_true, true_and, reduceCtorEq, not_false_eq_true, st_bf, a1, a3, o2, hr1, hr2]
      refine en_use (cu_X3_init (by rw [eg_cl_new, if_pos rfl])) ?_
      rintro v σ'' ⟨rfl, rfl⟩
      have n3 : vp_in (nI (sa_D A 0 0)) 40 := vp_in_nI (by omega) (by decide)
      have n4 : (nI (sa_D A 0 0)).toNatClampNeg = sa_D A 0 0 := nI_clamp (by omega)
      have n5 : nI (sa_D A 0 0) + 1 = nI (sa_D A 0 0 + 1) := nI_1 _
      have n6 : nI (sa_D A 0 0 + 1) - 1 = nI (sa_D A 0 0) := nI_pred _
      have n7 : ¬ x = en_nx σ' := by omega
      have n8 : ¬ 603 = 303 := by decide
      simp only [Option.toList, List.cons_append, List.nil_append, j_X6_addListener_0, j_X6_addListener_1, j_X6_addListener_4, j_X6_addListener_5, j_X6_addListener_8, j_X6_addListener_9, j_X6_addListener_12, j_X6_addListener_13, j_X6_addListener_14, j_X6_addListener_15, j_X6_addListener_16, j_X6_addListener_18, j_X6_addListener_21, j_X6_addListener_24, j_X6_addListener_25, j_X6_addListener_26, j_X6_addListener_27, j_X6_addListener_30, j_X6_addListener_31, j_X6_addListener_34, j_X6_addListener_37, j_X6_addListener_38, j_X6_addListener_39, j_X6_addListener_40, j_X6_addListener_41, j_X6_addListener_43, j_X6_addListener_46, j_X6_addListener_47, j_X6_addListener_48, j_X6_addListener_49, j_X6_addListener_52, j_X6_addListener_53, j_X6_addListener_54, j_X6_addListener_57, j_X6_addListener_58, j_X6_addListener_61, j_X6_addListener_62, j_X6_addListener_63, en_c2I, en_c2R, en_c2U, en_c2D, Option.some.injEq, exists_eq_left', exists_eq_left, Option.map_some, Option.map_none, not_true_eq_false, false_implies, true_implies, and_true, true_and, reduceCtorEq, not_false_eq_true, eg_cl_sfi, eg_fi_sfi, eg_fr_sfi, eg_fd_sfi, eg_al_sfi, eg_ai_sfi, eg_ar_sfi, eg_ad_sfi, eg_aj_sfi, eg_nx_sfi, eg_ns_sfi, eg_cl_sfr, eg_fi_sfr, eg_fr_sfr, eg_fd_sfr, eg_al_sfr, eg_ai_sfr, eg_ar_sfr, eg_ad_sfr, eg_aj_sfr, eg_nx_sfr, eg_ns_sfr, eg_cl_sfd, eg_fi_sfd, eg_fr_sfd, eg_fd_sfd, eg_al_sfd, eg_ai_sfd, eg_ar_sfd, eg_ad_sfd, eg_aj_sfd, eg_nx_sfd, eg_ns_sfd, eg_cl_sai, eg_fi_sai, eg_fr_sai, eg_fd_sai, eg_al_sai, eg_ai_sai, eg_ar_sai, eg_ad_sai, eg_aj_sai, eg_nx_sai, eg_ns_sai, eg_cl_sar, eg_fi_sar, eg_fr_sar, eg_fd_sar, eg_al_sar, eg_ai_sar, eg_ar_sar, eg_ad_sar, eg_aj_sar, eg_nx_sar, eg_ns_sar, eg_cl_sad, eg_fi_sad, eg_fr_sad, eg_fd_sad, eg_al_sad, eg_ai_sad, eg_ar_sad, eg_ad_sad, eg_aj_sad, eg_nx_sad, eg_ns_sad, eg_cl_saj, eg_fi_saj, eg_fr_saj, eg_fd_saj, eg_al_saj, eg_ai_saj, eg_ar_saj, eg_ad_saj, eg_aj_saj, eg_nx_saj, eg_ns_saj, eg_cl_new, eg_fi_new, eg_fr_new, eg_fd_new, eg_al_new, eg_ai_new, eg_ar_new, eg_ad_new, eg_aj_new, eg_nx_new, eg_ns_new, eg_cl_newa, eg_fi_newa, eg_fr_newa, eg_fd_newa, eg_al_newa, eg_ai_newa, eg_ar_newa, eg_ad_newa, eg_aj_newa, eg_nx_newa, eg_ns_newa, eg_cl_bump, eg_fi_bump, eg_fr_bump, eg_fd_bump, eg_al_bump, eg_ai_bump, eg_ar_bump, eg_ad_bump, eg_aj_bump, eg_nx_bump, eg_ns_bump, a1, n7, o2, b2, n5, n4, Prod.mk.injEq, and_false, if_true, if_false, n6]
      refine ⟨⟨5, 40, ⟨rfl, rfl⟩, by decide, n3, fun b hb => ?_⟩, fun k => if k = sa_D A 0 0 then en_nx σ' else la k, fun k hk => if_neg (by omega), hcx, ?_, ?_⟩
      · simp [← hb, en_ec]
      · exact ag_lim (((((((ag_new).tr (ag_sfr (fun a z => by have := z.2; omega))).tr (ag_sfi (fun a z => by have := z.2; omega))).tr (ag_sfi (fun a z => by have := z.2; omega))).tr (ag_sfr (fun a z => by have := z.2; omega))).tr (ag_sar (fun z => by unfold dV at z; omega))).tr (ag_sfi (fun a z => by have := z.1; unfold dF at this; omega)))
      · unfold ds_add; rw [if_neg hc]
theorem jp_X6_addListener {G : en_G}  : ∀ as σ, (C_X6_addListener G).1 as σ → (en_lc as).length ≤ 5 ∧ en_J (X_X6_addListener G (fun r σ' => (C_X6_addListener G).2 as σ r σ')) 0 (en_loc 5 as) [] σ := en_ghJ (fun g as σ h => by
  obtain ⟨hp, h2⟩ := h
  subst h2
  exact ⟨Nat.le_of_ble_eq_true rfl, jl_X6_addListener hp⟩)
theorem wl_X6_addListener_245 : Jvm.Cond.methodLink RX6 245 yX6_hasListenerLike ∈ en_W := en_inW (List.mem_of_getElem? (i := 290) (by decide +kernel)) (by decide +kernel)
theorem wl_X6_addListener_249 : Jvm.Cond.methodLink RX6 249 yX3_init ∈ en_W := en_inW (List.mem_of_getElem? (i := 303) (by decide +kernel)) (by decide +kernel)
theorem ok_X6_addListener {G : en_G}  : en_Ok G 3 yX6_addListener cX6_addListener 5 (some .int) (C_X6_addListener G) :=
  en_met (own := RX6) (fl := en_lk fl6) (nw := en_lk nw6) (aw := en_lk aw6) (dc := en_lk dc6) (ca := en_lk (ca_X6_addListener G)) (rt := 1) (ini := false) (by decide +kernel) (Or.inr (Or.inl ⟨rfl, rfl⟩)) (fun h => by cases h) rfl (fun q => en_LkF fl6_ok nw6_ok aw6_ok dc6_ok) (by
    intro idx q hq
    have hm := en_lk_mem hq
    simp only [ca_X6_addListener, List.mem_cons, Prod.mk.injEq, List.not_mem_nil, or_false] at hm
    rcases hm with ⟨rfl, rfl⟩ | ⟨rfl, rfl⟩
    · exact en_clV (r := (RX6, TX6, 13)) 6 4 ok_X6_hasListenerLike (by decide) (by decide) rfl rfl pr_X6_hasListenerLike wl_X6_addListener_245 wi_X6_hasListenerLike wx_X6_hasListenerLike wz_6 wc_X6_hasListenerLike ⟨by decide +kernel, by decide +kernel, by decide +kernel⟩
    · exact en_clI 4 ok_X3_init (by decide) (by decide) pr_X3_init rfl wl_X6_addListener_249 wi_X3_init wz_3 wc_X3_init ⟨by decide +kernel, by decide +kernel, by decide +kernel⟩) jp_X6_addListener
def P_X6_removeListener (G : en_G)  (g : (Nat) × (Nat → Nat) × (Nat → Nat) × (Nat → Nat) × (Nat) × (st_A) × (Int32)) (as : List en_V) (σ : en_S) : Prop := (CX G (g.1) (g.2.1) (g.2.2.1) (g.2.2.2.1) (g.2.2.2.2.1) (g.2.2.2.2.2.1) σ) ∧ as = [en_R (some (g.1)), en_I (g.2.2.2.2.2.2)]
def C_X6_removeListener (G : en_G)  : en_C := en_gh (P_X6_removeListener G) (fun g as σ v σ' => CX G (g.1) (g.2.1) (g.2.2.1) (g.2.2.2.1) (g.2.2.2.2.1) (ds_rem (g.2.2.2.2.2.1) (g.2.2.2.2.2.2)) σ' ∧ ag σ σ' (dF (g.1) 4) (dV (g.1) 4) ∧ v = some (en_I (st_b (((st_ix (sa_D (g.2.2.2.2.2.1) 0 0) (g.2.2.2.2.2.2)).map (fun l => !sa_K (g.2.2.2.2.2.1) 1 l)).getD false))))
theorem pr_X6_removeListener {G : en_G}  : ∀ as σ, (C_X6_removeListener G).1 as σ → ∃ b tl, as = en_R (some b) :: tl ∧ en_cl σ b = some 6 ∧ tl.length = 1 := fun as σ ⟨g, hp, h2⟩ => ⟨_, _, h2, hp.1.1.1, rfl⟩
theorem cu_X6_removeListener {G : en_G}  {x : Nat} {na : Nat → Nat} {la : Nat → Nat} {ba : Nat → Nat} {rm : Nat} {A : st_A} {k : Int32} {σ : en_S} (hp : CX G x na la ba rm A σ) : en_Us (C_X6_removeListener G) [en_R (some x), en_I k] σ (fun v σ' => CX G x na la ba rm (ds_rem A k) σ' ∧ ag σ σ' (dF x 4) (dV x 4) ∧ v = some (en_I (st_b (((st_ix (sa_D A 0 0) k).map (fun l => !sa_K A 1 l)).getD false)))) := ⟨⟨(x, na, la, ba, rm, A, k), hp, rfl⟩, fun v σ' q => q (x, na, la, ba, rm, A, k) ⟨hp, rfl⟩⟩
def ca_X6_removeListener (G : en_G) : List (Nat × Nat × en_C) := [(252, 9, (C_X6_listenerAt G))]
def X_X6_removeListener (G : en_G) (q : Option en_V → en_S → Prop) : en_X := en_mk G cX6_removeListener (en_lk fl6) (en_lk nw6) (en_lk aw6) (en_lk dc6) (en_lk (ca_X6_removeListener G)) 2 false q
theorem d_X6_removeListener_0 : decode cX6_removeListener 0 = .ok (.aload_n 0, 1) := by decide +kernel
theorem j_X6_removeListener_0 {G : en_G} {q : Option en_V → en_S → Prop}  {l1 l2 : en_V} {x0 : Option Nat} {σ : en_S} : en_J (X_X6_removeListener G q) 0 [en_R x0, l1, l2] [] σ ↔ en_J (X_X6_removeListener G q) 1 [en_R x0, l1, l2] [en_R x0] σ := en_j1 d_X6_removeListener_0 rfl rfl
theorem d_X6_removeListener_1 : decode cX6_removeListener 1 = .ok (.iload_n 1, 1) := by decide +kernel
theorem j_X6_removeListener_1 {G : en_G} {q : Option en_V → en_S → Prop}  {l0 l2 : en_V} {a0 : Option Nat} {x1 : Int32} {σ : en_S} : en_J (X_X6_removeListener G q) 1 [l0, en_I x1, l2] [en_R a0] σ ↔ en_J (X_X6_removeListener G q) 2 [l0, en_I x1, l2] [en_I x1, en_R a0] σ := en_j1 d_X6_removeListener_1 rfl rfl
theorem d_X6_removeListener_2 : decode cX6_removeListener 2 = .ok (.invokevirtual 252, 3) := by decide +kernel
theorem j_X6_removeListener_2 {G : en_G} {q : Option en_V → en_S → Prop}  {l0 l1 l2 : en_V} {a0 : Int32} {a1 : Option Nat} {σ : en_S} : en_J (X_X6_removeListener G q) 2 [l0, l1, l2] [en_I a0, en_R a1] σ ↔ (C_X6_listenerAt G).1 [en_R a1, en_I a0] σ ∧ ∀ (r : Option en_V) (σ' : en_S), (C_X6_listenerAt G).2 [en_R a1, en_I a0] σ r σ' → en_J (X_X6_removeListener G q) 5 [l0, l1, l2] (r.toList ++ []) σ' := en_jkC (C := (C_X6_listenerAt G)) (n' := 2) (k := 1) (idx := 252) d_X6_removeListener_2 rfl rfl (by decide) (Nat.le_of_ble_eq_true rfl) (Nat.le_of_ble_eq_true rfl)
theorem d_X6_removeListener_5 : decode cX6_removeListener 5 = .ok (.astore_n 2, 1) := by decide +kernel
theorem j_X6_removeListener_5 {G : en_G} {q : Option en_V → en_S → Prop}  {l0 l1 l2 : en_V} {a0 : Option Nat} {σ : en_S} : en_J (X_X6_removeListener G q) 5 [l0, l1, l2] [en_R a0] σ ↔ en_J (X_X6_removeListener G q) 6 [l0, en_c2 l1, en_R a0] [] σ := en_j1 d_X6_removeListener_5 rfl ⟨rfl, Nat.le_of_ble_eq_true rfl⟩
theorem d_X6_removeListener_6 : decode cX6_removeListener 6 = .ok (.aload_n 2, 1) := by decide +kernel
theorem j_X6_removeListener_6 {G : en_G} {q : Option en_V → en_S → Prop}  {l0 l1 : en_V} {x2 : Option Nat} {σ : en_S} : en_J (X_X6_removeListener G q) 6 [l0, l1, en_R x2] [] σ ↔ en_J (X_X6_removeListener G q) 7 [l0, l1, en_R x2] [en_R x2] σ := en_j1 d_X6_removeListener_6 rfl rfl
theorem d_X6_removeListener_7 : decode cX6_removeListener 7 = .ok (.ifnull 10, 3) := by decide +kernel
theorem j_X6_removeListener_7 {G : en_G} {q : Option en_V → en_S → Prop}  {l0 l1 l2 : en_V} {a0 : Option Nat} {σ : en_S} : en_J (X_X6_removeListener G q) 7 [l0, l1, l2] [en_R a0] σ ↔ (a0 = none → en_J (X_X6_removeListener G q) 17 [l0, l1, l2] [] σ) ∧ (¬ (a0 = none) → en_J (X_X6_removeListener G q) 10 [l0, l1, l2] [] σ) := en_jb d_X6_removeListener_7 rfl ⟨rfl, by decide⟩
theorem d_X6_removeListener_10 : decode cX6_removeListener 10 = .ok (.aload_n 2, 1) := by decide +kernel
theorem j_X6_removeListener_10 {G : en_G} {q : Option en_V → en_S → Prop}  {l0 l1 : en_V} {x2 : Option Nat} {σ : en_S} : en_J (X_X6_removeListener G q) 10 [l0, l1, en_R x2] [] σ ↔ en_J (X_X6_removeListener G q) 11 [l0, l1, en_R x2] [en_R x2] σ := en_j1 d_X6_removeListener_10 rfl rfl
theorem d_X6_removeListener_11 : decode cX6_removeListener 11 = .ok (.getfield 264, 3) := by decide +kernel
theorem j_X6_removeListener_11 {G : en_G} {q : Option en_V → en_S → Prop}  {l0 l1 l2 : en_V} {a0 : Option Nat} {σ : en_S} : en_J (X_X6_removeListener G q) 11 [l0, l1, l2] [en_R a0] σ ↔ ∃ a, a0 = some a ∧ en_cl σ a = some 3 ∧ en_J (X_X6_removeListener G q) 14 [l0, l1, l2] [en_I (en_fi σ 304 a)] σ := en_jg (st := fun o => [en_R o]) (st' := fun a => [en_I (en_fi σ 304 a)]) (σ' := fun _ => σ) d_X6_removeListener_11 rfl (fun a => rfl) (fun a => ⟨fun h => h.2, fun h => ⟨rfl, h⟩⟩)
theorem d_X6_removeListener_14 : decode cX6_removeListener 14 = .ok (.ifCond .eq 5, 3) := by decide +kernel
theorem j_X6_removeListener_14 {G : en_G} {q : Option en_V → en_S → Prop}  {l0 l1 l2 : en_V} {a0 : Int32} {σ : en_S} : en_J (X_X6_removeListener G q) 14 [l0, l1, l2] [en_I a0] σ ↔ (a0 = 0 → en_J (X_X6_removeListener G q) 19 [l0, l1, l2] [] σ) ∧ (¬ (a0 = 0) → en_J (X_X6_removeListener G q) 17 [l0, l1, l2] [] σ) := en_jb d_X6_removeListener_14 rfl ⟨rfl, by decide⟩
theorem d_X6_removeListener_17 : decode cX6_removeListener 17 = .ok (.iconst 0, 1) := by decide +kernel
theorem j_X6_removeListener_17 {G : en_G} {q : Option en_V → en_S → Prop}  {l0 l1 l2 : en_V}  {σ : en_S} : en_J (X_X6_removeListener G q) 17 [l0, l1, l2] [] σ ↔ en_J (X_X6_removeListener G q) 18 [l0, l1, l2] [en_I 0] σ := ej_iconst d_X6_removeListener_17 (by decide +kernel)
theorem d_X6_removeListener_18 : decode cX6_removeListener 18 = .ok (.ireturn, 1) := by decide +kernel
theorem j_X6_removeListener_18 {G : en_G} {q : Option en_V → en_S → Prop}  {l0 l1 l2 : en_V} {a0 : Int32} {σ : en_S} : en_J (X_X6_removeListener G q) 18 [l0, l1, l2] [en_I a0] σ ↔ (a0 = 0 ∨ a0 = 1) ∧ q (some (en_I a0)) σ := en_jr d_X6_removeListener_18 rfl ⟨fun h => ⟨h.2.1.elim (fun z => absurd (show (2 : Nat) = 1 from z) (by decide)) (fun z => z.2), h.2.2⟩, fun h => ⟨rfl, Or.inr ⟨rfl, h.1⟩, h.2⟩⟩
theorem d_X6_removeListener_19 : decode cX6_removeListener 19 = .ok (.aload_n 2, 1) := by decide +kernel
theorem j_X6_removeListener_19 {G : en_G} {q : Option en_V → en_S → Prop}  {l0 l1 : en_V} {x2 : Option Nat} {σ : en_S} : en_J (X_X6_removeListener G q) 19 [l0, l1, en_R x2] [] σ ↔ en_J (X_X6_removeListener G q) 20 [l0, l1, en_R x2] [en_R x2] σ := en_j1 d_X6_removeListener_19 rfl rfl
theorem d_X6_removeListener_20 : decode cX6_removeListener 20 = .ok (.iconst 1, 1) := by decide +kernel
theorem j_X6_removeListener_20 {G : en_G} {q : Option en_V → en_S → Prop}  {l0 l1 l2 : en_V} {a0 : Option Nat} {σ : en_S} : en_J (X_X6_removeListener G q) 20 [l0, l1, l2] [en_R a0] σ ↔ en_J (X_X6_removeListener G q) 21 [l0, l1, l2] [en_I 1, en_R a0] σ := ej_iconst d_X6_removeListener_20 (by decide +kernel)
theorem d_X6_removeListener_21 : decode cX6_removeListener 21 = .ok (.putfield 264, 3) := by decide +kernel
theorem j_X6_removeListener_21 {G : en_G} {q : Option en_V → en_S → Prop}  {l0 l1 l2 : en_V} {a0 : Int32} {a1 : Option Nat} {σ : en_S} : en_J (X_X6_removeListener G q) 21 [l0, l1, l2] [en_I a0, en_R a1] σ ↔ ∃ a, a1 = some a ∧ (en_cl σ a = some 3 ∧ (a0 = 0 ∨ a0 = 1)) ∧ en_J (X_X6_removeListener G q) 24 [l0, l1, l2] [] (en_sfi σ 304 a a0) := en_jg (st := fun o => [en_I a0, en_R o]) (st' := fun _ => []) (σ' := fun a => en_sfi σ 304 a a0) d_X6_removeListener_21 rfl (fun a => rfl) (fun a => ⟨fun h => ⟨h.2.1, h.2.2.1⟩, fun h => ⟨rfl, h.1, h.2, fun z => absurd z (by decide +kernel)⟩⟩)
theorem d_X6_removeListener_24 : decode cX6_removeListener 24 = .ok (.iconst 1, 1) := by decide +kernel
theorem j_X6_removeListener_24 {G : en_G} {q : Option en_V → en_S → Prop}  {l0 l1 l2 : en_V}  {σ : en_S} : en_J (X_X6_removeListener G q) 24 [l0, l1, l2] [] σ ↔ en_J (X_X6_removeListener G q) 25 [l0, l1, l2] [en_I 1] σ := ej_iconst d_X6_removeListener_24 (by decide +kernel)
theorem d_X6_removeListener_25 : decode cX6_removeListener 25 = .ok (.ireturn, 1) := by decide +kernel
theorem j_X6_removeListener_25 {G : en_G} {q : Option en_V → en_S → Prop}  {l0 l1 l2 : en_V} {a0 : Int32} {σ : en_S} : en_J (X_X6_removeListener G q) 25 [l0, l1, l2] [en_I a0] σ ↔ (a0 = 0 ∨ a0 = 1) ∧ q (some (en_I a0)) σ := en_jr d_X6_removeListener_25 rfl ⟨fun h => ⟨h.2.1.elim (fun z => absurd (show (2 : Nat) = 1 from z) (by decide)) (fun z => z.2), h.2.2⟩, fun h => ⟨rfl, Or.inr ⟨rfl, h.1⟩, h.2⟩⟩
theorem wc_X6_removeListener : Jvm.Cond.code yX6_removeListener cX6_removeListener 3 (some .boolean) ∈ en_W := en_inW (List.mem_of_getElem? (i := 335) (by decide +kernel)) (by decide +kernel)
theorem wi_X6_removeListener : Jvm.Cond.instanceMethod yX6_removeListener ∈ en_W := en_inW (List.mem_of_getElem? (i := 334) (by decide +kernel)) (by decide +kernel)
theorem wx_X6_removeListener : Jvm.Cond.selects RX6 yX6_removeListener yX6_removeListener ∈ en_W := en_inW (List.mem_of_getElem? (i := 6) (by decide +kernel)) (by decide +kernel)
theorem jl_X6_removeListener {G : en_G}  {x : Nat} {na : Nat → Nat} {la : Nat → Nat} {ba : Nat → Nat} {rm : Nat} {A : st_A} {k : Int32} {σ : en_S} (hp : CX G x na la ba rm A σ) : en_J (X_X6_removeListener G (fun v σ' => CX G x na la ba rm (ds_rem A k) σ' ∧ ag σ σ' (dF x 4) (dV x 4) ∧ v = some (en_I (st_b (((st_ix (sa_D A 0 0) k).map (fun l => !sa_K A 1 l)).getD false))))) 0 [en_R (some x), en_I k, en_U] [] σ := by
  simp only [j_X6_removeListener_0, j_X6_removeListener_1, j_X6_removeListener_2, j_X6_removeListener_5, j_X6_removeListener_6, j_X6_removeListener_7, j_X6_removeListener_10, j_X6_removeListener_11, j_X6_removeListener_14, j_X6_removeListener_17, j_X6_removeListener_18, j_X6_removeListener_19, j_X6_removeListener_20, j_X6_removeListener_21, j_X6_removeListener_24, j_X6_removeListener_25, en_c2I, en_c2R, en_c2U, en_c2D, Option.some.injEq, exists_eq_left', exists_eq_left, Option.map_some, Option.map_none, not_true_eq_false, false_implies, true_implies, and_true, true_and, reduceCtorEq, not_false_eq_true]
  refine en_use (cu_X6_listenerAt hp) ?_
  rintro v σ' ⟨rfl, rfl⟩
  obtain ⟨c, tt, nd, bx, l, sc, lo, ob, w, r⟩ := id hp
  have hL := w.2.1
  have i1 : ¬ (1 : Int32) = 0 := by decide
  unfold ds_rem
  cases hx : st_ix (sa_D A 0 0) k with
  | none =>
    simp only [Option.toList, List.cons_append, List.nil_append, j_X6_removeListener_0, j_X6_removeListener_1, j_X6_removeListener_2, j_X6_removeListener_5, j_X6_removeListener_6, j_X6_removeListener_7, j_X6_removeListener_10, j_X6_removeListener_11, j_X6_removeListener_14, j_X6_removeListener_17, j_X6_removeListener_18, j_X6_removeListener_19, j_X6_removeListener_20, j_X6_removeListener_21, j_X6_removeListener_24, j_X6_removeListener_25, en_c2I, en_c2R, en_c2U, en_c2D, Option.some.injEq, exists_eq_left', exists_eq_left, Option.map_some, Option.map_none, not_true_eq_false, false_implies, true_implies, and_true, true_and, reduceCtorEq, not_false_eq_true]
    exact ⟨by simp, hp, ag.rf, rfl⟩
  | some j =>
    obtain ⟨hj, rfl⟩ := st_ix_some (by omega) hx
    obtain ⟨l1, l2, l3, l4, l5, l6, l7⟩ := l.1 j hj
    cases hk : sa_K A 1 j with
    | true =>
      rw [hk] at l7
      simp only [Option.toList, List.cons_append, List.nil_append, j_X6_removeListener_0, j_X6_removeListener_1, j_X6_removeListener_2, j_X6_removeListener_5, j_X6_removeListener_6, j_X6_removeListener_7, j_X6_removeListener_10, j_X6_removeListener_11, j_X6_removeListener_14, j_X6_removeListener_17, j_X6_removeListener_18, j_X6_removeListener_19, j_X6_removeListener_20, j_X6_removeListener_21, j_X6_removeListener_24, j_X6_removeListener_25, en_c2I, en_c2R, en_c2U, en_c2D, Option.some.injEq, exists_eq_left', exists_eq_left, Option.map_some, Option.map_none, not_true_eq_false, false_implies, true_implies, and_true, true_and, reduceCtorEq, not_false_eq_true, l1, l7, st_bt, i1]
      refine ⟨by simp, ?_, ag.rf, by simp [hk, st_b]⟩
      rw [su_K_same hk]; exact hp
    | false =>
      rw [hk] at l7
      simp only [Option.toList, List.cons_append, List.nil_append, j_X6_removeListener_0, j_X6_removeListener_1, j_X6_removeListener_2, j_X6_removeListener_5, j_X6_removeListener_6, j_X6_removeListener_7, j_X6_removeListener_10, j_X6_removeListener_11, j_X6_removeListener_14, j_X6_removeListener_17, j_X6_removeListener_18, j_X6_removeListener_19, j_X6_removeListener_20, j_X6_removeListener_21, j_X6_removeListener_24, j_X6_removeListener_25, en_c2I, en_c2R, en_c2U, en_c2D, Option.some.injEq, exists_eq_left', exists_eq_left, Option.map_some, Option.map_none, not_true_eq_false, false_implies, true_implies, and_true, true_and, reduceCtorEq, not_false_eq_true, l1, l7, st_bf, i1]
      exact ⟨by simp, by simp, cx_rem hp hj true, ag_sfi (fun a z => by unfold dF at z; omega), by simp [hk, st_b]⟩
theorem jp_X6_removeListener {G : en_G}  : ∀ as σ, (C_X6_removeListener G).1 as σ → (en_lc as).length ≤ 3 ∧ en_J (X_X6_removeListener G (fun r σ' => (C_X6_removeListener G).2 as σ r σ')) 0 (en_loc 3 as) [] σ := en_ghJ (fun g as σ h => by
  obtain ⟨hp, h2⟩ := h
  subst h2
  exact ⟨Nat.le_of_ble_eq_true rfl, jl_X6_removeListener hp⟩)
theorem wl_X6_removeListener_252 : Jvm.Cond.methodLink RX6 252 yX6_listenerAt ∈ en_W := en_inW (List.mem_of_getElem? (i := 294) (by decide +kernel)) (by decide +kernel)
theorem ok_X6_removeListener {G : en_G}  : en_Ok G 2 yX6_removeListener cX6_removeListener 3 (some .boolean) (C_X6_removeListener G) :=
  en_met (own := RX6) (fl := en_lk fl6) (nw := en_lk nw6) (aw := en_lk aw6) (dc := en_lk dc6) (ca := en_lk (ca_X6_removeListener G)) (rt := 2) (ini := false) (by decide +kernel) (Or.inr (Or.inr (Or.inl ⟨rfl, rfl⟩))) (fun h => by cases h) rfl (fun q => en_LkF fl6_ok nw6_ok aw6_ok dc6_ok) (by
    intro idx q hq
    have hm := en_lk_mem hq
    simp only [ca_X6_removeListener, List.mem_cons, Prod.mk.injEq, List.not_mem_nil, or_false] at hm
    rcases hm with ⟨rfl, rfl⟩
    · exact en_clV (r := (RX6, TX6, 13)) 6 1 ok_X6_listenerAt (by decide) (by decide) rfl rfl pr_X6_listenerAt wl_X6_removeListener_252 wi_X6_listenerAt wx_X6_listenerAt wz_6 wc_X6_listenerAt ⟨by decide +kernel, by decide +kernel, by decide +kernel⟩) jp_X6_removeListener
