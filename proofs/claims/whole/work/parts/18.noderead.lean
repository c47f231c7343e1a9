
theorem jl_X4_isAtOrOver {G : en_G} {q : Option en_V → en_S → Prop} {σ : en_S} {na : Nat → Nat} {T : tr_T} {n : Nat} {o1 : Option Nat} (hR : tr_R na T σ) (hw : tr_wf T) (hn : n < tr_N T) : ∀ (k m : Nat), tr_it T k m = none → m < tr_N T → q (some (en_I (if tr_cov T k n m then 1 else 0))) σ → en_J (X_X4_isAtOrOver G q) 2 [en_R (some (na n)), en_R o1, en_R (some (na m))] [] σ := by
  intro k
  induction k with
  | zero => intro m h; cases h
  | succ k ih =>
    intro m hk hm hq
    have hu := hR.upr hm
    have hc := (hR.1 m hm).1
    rw [j_X4_isAtOrOver_2]
    simp only [j_X4_isAtOrOver_0, j_X4_isAtOrOver_1, j_X4_isAtOrOver_3, j_X4_isAtOrOver_6, j_X4_isAtOrOver_7, j_X4_isAtOrOver_8, j_X4_isAtOrOver_11, j_X4_isAtOrOver_12, j_X4_isAtOrOver_13, j_X4_isAtOrOver_14, j_X4_isAtOrOver_17, j_X4_isAtOrOver_18, j_X4_isAtOrOver_21, j_X4_isAtOrOver_22, en_c2I, en_c2R, en_c2U, en_c2D, Option.some.injEq, exists_eq_left', exists_eq_left, reduceCtorEq, false_implies, not_false_eq_true, true_implies, true_and, C_X4_parentOrHost]
    refine ⟨fun hne => ⟨⟨_, rfl, hc⟩, ?_⟩, fun he => ⟨?_, ?_⟩⟩
    · rintro r σ' ⟨a, ha, rfl, rfl⟩
      simp only [List.cons.injEq, en_Rinj, Option.some.injEq, and_true] at ha
      subst ha
      rw [hu]
      have hnm : ¬ m = n := fun z => hne (by rw [z])
      simp only [tr_cov, if_neg hnm] at hq
      simp only [Option.toList, List.cons_append, List.nil_append, j_X4_isAtOrOver_3, j_X4_isAtOrOver_6, j_X4_isAtOrOver_7, j_X4_isAtOrOver_8, j_X4_isAtOrOver_11, j_X4_isAtOrOver_12, j_X4_isAtOrOver_13, j_X4_isAtOrOver_14, j_X4_isAtOrOver_17, j_X4_isAtOrOver_18, j_X4_isAtOrOver_21, j_X4_isAtOrOver_22, en_c2I, en_c2R, en_c2U, en_c2D, Option.some.injEq, exists_eq_left', exists_eq_left]
      cases hup : tr_up T m with
      | none =>
        rw [hup] at hq
        rw [j_X4_isAtOrOver_2]
        simp only [j_X4_isAtOrOver_0, j_X4_isAtOrOver_1, j_X4_isAtOrOver_3, j_X4_isAtOrOver_6, j_X4_isAtOrOver_7, j_X4_isAtOrOver_8, j_X4_isAtOrOver_11, j_X4_isAtOrOver_12, j_X4_isAtOrOver_13, j_X4_isAtOrOver_14, j_X4_isAtOrOver_17, j_X4_isAtOrOver_18, j_X4_isAtOrOver_21, j_X4_isAtOrOver_22, en_c2I, en_c2R, en_c2U, en_c2D, Option.some.injEq, exists_eq_left', exists_eq_left, Option.map_none, not_true_eq_false, false_implies, true_implies, and_true, true_and, reduceCtorEq]
        exact ⟨Or.inl trivial, hq⟩
      | some p =>
        rw [hup] at hq
        exact ih p (tr_it_up hk hup) (tr_up_lt hw hm hup) hq
    · exact Or.inr trivial
    · have hnm : m = n := hR.2 m n hm hn (Classical.not_not.mp he)
      simp only [tr_cov, if_pos hnm] at hq
      exact hq
theorem jg_X4_isAtOrOver {G : en_G} : ∀ (g : (Nat → Nat) × tr_T × Nat × Nat) as σ, (tr_R g.1 g.2.1 σ ∧ tr_wf g.2.1 ∧ g.2.2.1 < tr_N g.2.1 ∧ g.2.2.2 < tr_N g.2.1 ∧ as = [en_R (some (g.1 g.2.2.1)), en_R (some (g.1 g.2.2.2))]) → (en_lc as).length ≤ 3 ∧ en_J (X_X4_isAtOrOver G (fun r σ' => σ' = σ ∧ r = some (en_I (if tr_over g.2.1 g.2.2.1 g.2.2.2 then 1 else 0)))) 0 (en_loc 3 as) [] σ := by
  rintro ⟨na, T, n, m⟩ as σ ⟨hR, hw, hn, hm, rfl⟩
  refine ⟨Nat.le_of_ble_eq_true rfl, ?_⟩
  show en_J _ 0 [en_R (some (na n)), en_R (some (na m)), en_U] [] σ
  simp only [j_X4_isAtOrOver_0, j_X4_isAtOrOver_1, en_c2I, en_c2R, en_c2U, en_c2D, Option.some.injEq, exists_eq_left', exists_eq_left]
  exact jl_X4_isAtOrOver hR hw hn 24 m (hw.2.2.2.2.2.2.2.2 m hm) hm ⟨rfl, rfl⟩
theorem jp_X4_isAtOrOver {G : en_G} : ∀ as σ, C_X4_isAtOrOver.1 as σ → (en_lc as).length ≤ 3 ∧ en_J (X_X4_isAtOrOver G (fun r σ' => C_X4_isAtOrOver.2 as σ r σ')) 0 (en_loc 3 as) [] σ := en_ghJ jg_X4_isAtOrOver
theorem wl_X4_isAtOrOver_28 : Jvm.Cond.methodLink RX4 28 yX4_parentOrHost ∈ en_W := en_inW (List.mem_of_getElem? (i := 354) (by decide +kernel)) (by decide +kernel)
theorem ok_X4_isAtOrOver {G : en_G}  : en_Ok G 2 yX4_isAtOrOver cX4_isAtOrOver 3 (some .boolean) C_X4_isAtOrOver :=
  en_met (own := RX4) (fl := en_lk fl4) (nw := en_lk nw4) (aw := en_lk aw4) (dc := en_lk dc4) (ca := en_lk (ca_X4_isAtOrOver G)) (rt := 2) (ini := false) (by decide +kernel) (Or.inr (Or.inr (Or.inl ⟨rfl, rfl⟩))) (fun h => by cases h) rfl (fun q => en_LkF fl4_ok nw4_ok aw4_ok dc4_ok) (by
    intro idx q hq
    have hm := en_lk_mem hq
    simp only [ca_X4_isAtOrOver, List.mem_cons, Prod.mk.injEq, List.not_mem_nil, or_false] at hm
    rcases hm with ⟨rfl, rfl⟩
    · exact en_clV (r := (RX4, TX4, 12)) 4 0 ok_X4_parentOrHost (by decide) (by decide) rfl rfl pr_X4_parentOrHost wl_X4_isAtOrOver_28 wi_X4_parentOrHost wx_X4_parentOrHost wz_4 wc_X4_parentOrHost ⟨by decide +kernel, by decide +kernel, by decide +kernel⟩) jp_X4_isAtOrOver

theorem jl_X4_root {G : en_G} {q : Option en_V → en_S → Prop} {σ : en_S} {na : Nat → Nat} {T : tr_T} {o0 : Option Nat} (hR : tr_R na T σ) (hw : tr_wf T) : ∀ (k m : Nat), tr_it T k m = none → m < tr_N T → q (some (en_R (some (na (tr_rootF T k m))))) σ → en_J (X_X4_root G q) 7 [en_R o0, en_R (some (na m)), en_R ((tr_pa T m).map na)] [] σ := by
  intro k
  induction k with
  | zero => intro m h; cases h
  | succ k ih =>
    intro m hk hm hq
    rw [j_X4_root_7]
    simp only [tr_rootF] at hq
    cases hp : tr_pa T m with
    | none =>
      rw [hp] at hq
      simp only [j_X4_root_0, j_X4_root_1, j_X4_root_2, j_X4_root_3, j_X4_root_6, j_X4_root_8, j_X4_root_11, j_X4_root_12, j_X4_root_13, j_X4_root_14, j_X4_root_17, j_X4_root_18, j_X4_root_21, j_X4_root_22, en_c2I, en_c2R, en_c2U, en_c2D, Option.some.injEq, exists_eq_left', exists_eq_left, Option.map_none, not_true_eq_false, false_implies, true_implies, and_true, true_and, reduceCtorEq]
      exact hq
    | some p =>
      rw [hp] at hq
      have hpl := tr_pa_lt hw hm hp
      obtain ⟨hc, -, -, -, -, hpa, -⟩ := hR.1 p hpl
      simp only [j_X4_root_0, j_X4_root_1, j_X4_root_2, j_X4_root_3, j_X4_root_6, j_X4_root_8, j_X4_root_11, j_X4_root_12, j_X4_root_13, j_X4_root_14, j_X4_root_17, j_X4_root_18, j_X4_root_21, j_X4_root_22, en_c2I, en_c2R, en_c2U, en_c2D, Option.some.injEq, exists_eq_left', exists_eq_left, Option.map_some, not_true_eq_false, false_implies, true_implies, and_true, true_and, reduceCtorEq, not_false_eq_true, hc, hpa]
      exact ih p (tr_it_pa hk hp) hpl hq
theorem jg_X4_root {G : en_G} : ∀ (g : (Nat → Nat) × tr_T × Nat) as σ, (tr_R g.1 g.2.1 σ ∧ tr_wf g.2.1 ∧ g.2.2 < tr_N g.2.1 ∧ as = [en_R (some (g.1 g.2.2))]) → (en_lc as).length ≤ 3 ∧ en_J (X_X4_root G (fun r σ' => σ' = σ ∧ r = some (en_R (some (g.1 (tr_root g.2.1 g.2.2)))))) 0 (en_loc 3 as) [] σ := by
  rintro ⟨na, T, n⟩ as σ ⟨hR, hw, hn, rfl⟩
  refine ⟨Nat.le_of_ble_eq_true rfl, ?_⟩
  show en_J _ 0 [en_R (some (na n)), en_U, en_U] [] σ
  obtain ⟨hc, -, -, -, hho, hpa, hfi, -, -, hnx, hsh⟩ := hR.1 n hn
  simp only [j_X4_root_0, j_X4_root_1, j_X4_root_2, j_X4_root_3, j_X4_root_6, en_c2I, en_c2R, en_c2U, en_c2D, Option.some.injEq, exists_eq_left', exists_eq_left, hc, true_and, hpa]
  exact jl_X4_root hR hw 24 n (hw.2.2.2.2.2.2.2.2 n hn) hn ⟨rfl, rfl⟩
theorem jp_X4_root {G : en_G} : ∀ as σ, C_X4_root.1 as σ → (en_lc as).length ≤ 3 ∧ en_J (X_X4_root G (fun r σ' => C_X4_root.2 as σ r σ')) 0 (en_loc 3 as) [] σ := en_ghJ jg_X4_root
theorem ok_X4_root {G : en_G}  : en_Ok G 1 yX4_root cX4_root 3 (some (.object "NodeStage$Node")) C_X4_root :=
  en_met (own := RX4) (fl := en_lk fl4) (nw := en_lk nw4) (aw := en_lk aw4) (dc := en_lk dc4) (ca := en_lk (ca_X4_root G)) (rt := 3) (ini := false) (by decide +kernel) (Or.inr (Or.inr (Or.inr (Or.inl ⟨rfl, _, rfl⟩)))) (fun h => by cases h) rfl (fun q => en_LkF fl4_ok nw4_ok aw4_ok dc4_ok) (fun idx q hq => by cases hq) jp_X4_root

theorem jl_X4_nto {G : en_G} {q : Option en_V → en_S → Prop} {σ : en_S} {na : Nat → Nat} {T : tr_T} {o0 : Option Nat} (hR : tr_R na T σ) (hw : tr_wf T) : ∀ (k m : Nat), tr_it T k m = none → m < tr_N T → q (some (en_R ((tr_climb T k m).map na))) σ → en_J (X_X4_nextInTreeOrder G q) 14 [en_R o0, en_R (some (na m))] [] σ := by
  intro k
  induction k with
  | zero => intro m h; cases h
  | succ k ih =>
    intro m hk hm hq
    rw [j_X4_nextInTreeOrder_14]
    obtain ⟨hc, -, -, -, -, hpa, -, -, -, hnx, -⟩ := hR.1 m hm
    simp only [tr_climb] at hq
    cases hx : tr_nx T m with
    | some c =>
      rw [hx] at hq hnx
      simp only [j_X4_nextInTreeOrder_0, j_X4_nextInTreeOrder_1, j_X4_nextInTreeOrder_4, j_X4_nextInTreeOrder_7, j_X4_nextInTreeOrder_8, j_X4_nextInTreeOrder_11, j_X4_nextInTreeOrder_12, j_X4_nextInTreeOrder_13, j_X4_nextInTreeOrder_15, j_X4_nextInTreeOrder_18, j_X4_nextInTreeOrder_19, j_X4_nextInTreeOrder_22, j_X4_nextInTreeOrder_25, j_X4_nextInTreeOrder_26, j_X4_nextInTreeOrder_29, j_X4_nextInTreeOrder_30, j_X4_nextInTreeOrder_31, j_X4_nextInTreeOrder_34, j_X4_nextInTreeOrder_35, j_X4_nextInTreeOrder_38, j_X4_nextInTreeOrder_39, en_c2I, en_c2R, en_c2U, en_c2D, Option.some.injEq, exists_eq_left', exists_eq_left, Option.map_some, not_true_eq_false, false_implies, true_implies, and_true, true_and, reduceCtorEq, not_false_eq_true, hc, hnx]
      exact hq
    | none =>
      rw [hx] at hq hnx
      cases hp : tr_pa T m with
      | none =>
        rw [hp] at hq hpa
        simp only [j_X4_nextInTreeOrder_0, j_X4_nextInTreeOrder_1, j_X4_nextInTreeOrder_4, j_X4_nextInTreeOrder_7, j_X4_nextInTreeOrder_8, j_X4_nextInTreeOrder_11, j_X4_nextInTreeOrder_12, j_X4_nextInTreeOrder_13, j_X4_nextInTreeOrder_15, j_X4_nextInTreeOrder_18, j_X4_nextInTreeOrder_19, j_X4_nextInTreeOrder_22, j_X4_nextInTreeOrder_25, j_X4_nextInTreeOrder_26, j_X4_nextInTreeOrder_29, j_X4_nextInTreeOrder_30, j_X4_nextInTreeOrder_31, j_X4_nextInTreeOrder_34, j_X4_nextInTreeOrder_35, j_X4_nextInTreeOrder_38, j_X4_nextInTreeOrder_39, en_c2I, en_c2R, en_c2U, en_c2D, Option.some.injEq, exists_eq_left', exists_eq_left, Option.map_none, not_true_eq_false, false_implies, true_implies, and_true, true_and, reduceCtorEq, not_false_eq_true, hc, hnx, hpa]
        rw [j_X4_nextInTreeOrder_14]
        simp only [j_X4_nextInTreeOrder_0, j_X4_nextInTreeOrder_1, j_X4_nextInTreeOrder_4, j_X4_nextInTreeOrder_7, j_X4_nextInTreeOrder_8, j_X4_nextInTreeOrder_11, j_X4_nextInTreeOrder_12, j_X4_nextInTreeOrder_13, j_X4_nextInTreeOrder_15, j_X4_nextInTreeOrder_18, j_X4_nextInTreeOrder_19, j_X4_nextInTreeOrder_22, j_X4_nextInTreeOrder_25, j_X4_nextInTreeOrder_26, j_X4_nextInTreeOrder_29, j_X4_nextInTreeOrder_30, j_X4_nextInTreeOrder_31, j_X4_nextInTreeOrder_34, j_X4_nextInTreeOrder_35, j_X4_nextInTreeOrder_38, j_X4_nextInTreeOrder_39, en_c2I, en_c2R, en_c2U, en_c2D, Option.some.injEq, exists_eq_left', exists_eq_left, Option.map_none, not_true_eq_false, false_implies, true_implies, and_true, true_and, reduceCtorEq, not_false_eq_true]
        exact hq
      | some p =>
        rw [hp] at hq hpa
        simp only [j_X4_nextInTreeOrder_0, j_X4_nextInTreeOrder_1, j_X4_nextInTreeOrder_4, j_X4_nextInTreeOrder_7, j_X4_nextInTreeOrder_8, j_X4_nextInTreeOrder_11, j_X4_nextInTreeOrder_12, j_X4_nextInTreeOrder_13, j_X4_nextInTreeOrder_15, j_X4_nextInTreeOrder_18, j_X4_nextInTreeOrder_19, j_X4_nextInTreeOrder_22, j_X4_nextInTreeOrder_25, j_X4_nextInTreeOrder_26, j_X4_nextInTreeOrder_29, j_X4_nextInTreeOrder_30, j_X4_nextInTreeOrder_31, j_X4_nextInTreeOrder_34, j_X4_nextInTreeOrder_35, j_X4_nextInTreeOrder_38, j_X4_nextInTreeOrder_39, en_c2I, en_c2R, en_c2U, en_c2D, Option.some.injEq, exists_eq_left', exists_eq_left, Option.map_some, Option.map_none, not_true_eq_false, false_implies, true_implies, and_true, true_and, reduceCtorEq, not_false_eq_true, hc, hnx, hpa]
        exact ih p (tr_it_pa hk hp) (tr_pa_lt hw hm hp) hq
theorem jg_X4_nextInTreeOrder {G : en_G} : ∀ (g : (Nat → Nat) × tr_T × Nat) as σ, (tr_R g.1 g.2.1 σ ∧ tr_wf g.2.1 ∧ g.2.2 < tr_N g.2.1 ∧ as = [en_R (some (g.1 g.2.2))]) → (en_lc as).length ≤ 2 ∧ en_J (X_X4_nextInTreeOrder G (fun r σ' => σ' = σ ∧ r = some (en_R ((tr_nto g.2.1 g.2.2).map g.1)))) 0 (en_loc 2 as) [] σ := by
  rintro ⟨na, T, n⟩ as σ ⟨hR, hw, hn, rfl⟩
  refine ⟨Nat.le_of_ble_eq_true rfl, ?_⟩
  show en_J _ 0 [en_R (some (na n)), en_U] [] σ
  obtain ⟨hc, -, -, -, hho, hpa, hfi, -, -, hnx, hsh⟩ := hR.1 n hn
  cases hh : (tr_ch T n).head? with
  | some c =>
    rw [hh] at hfi
    simp only [j_X4_nextInTreeOrder_0, j_X4_nextInTreeOrder_1, j_X4_nextInTreeOrder_4, j_X4_nextInTreeOrder_7, j_X4_nextInTreeOrder_8, j_X4_nextInTreeOrder_11, j_X4_nextInTreeOrder_12, j_X4_nextInTreeOrder_13, j_X4_nextInTreeOrder_15, j_X4_nextInTreeOrder_18, j_X4_nextInTreeOrder_19, j_X4_nextInTreeOrder_22, j_X4_nextInTreeOrder_25, j_X4_nextInTreeOrder_26, j_X4_nextInTreeOrder_29, j_X4_nextInTreeOrder_30, j_X4_nextInTreeOrder_31, j_X4_nextInTreeOrder_34, j_X4_nextInTreeOrder_35, j_X4_nextInTreeOrder_38, j_X4_nextInTreeOrder_39, en_c2I, en_c2R, en_c2U, en_c2D, Option.some.injEq, exists_eq_left', exists_eq_left, Option.map_some, not_true_eq_false, false_implies, true_implies, and_true, true_and, reduceCtorEq, not_false_eq_true, hc, hfi]
    simp only [tr_nto, hh, Option.map_some, true_and]
  | none =>
    rw [hh] at hfi
    simp only [j_X4_nextInTreeOrder_0, j_X4_nextInTreeOrder_1, j_X4_nextInTreeOrder_4, j_X4_nextInTreeOrder_7, j_X4_nextInTreeOrder_8, j_X4_nextInTreeOrder_11, j_X4_nextInTreeOrder_12, j_X4_nextInTreeOrder_13, j_X4_nextInTreeOrder_15, j_X4_nextInTreeOrder_18, j_X4_nextInTreeOrder_19, j_X4_nextInTreeOrder_22, j_X4_nextInTreeOrder_25, j_X4_nextInTreeOrder_26, j_X4_nextInTreeOrder_29, j_X4_nextInTreeOrder_30, j_X4_nextInTreeOrder_31, j_X4_nextInTreeOrder_34, j_X4_nextInTreeOrder_35, j_X4_nextInTreeOrder_38, j_X4_nextInTreeOrder_39, en_c2I, en_c2R, en_c2U, en_c2D, Option.some.injEq, exists_eq_left', exists_eq_left, Option.map_none, not_true_eq_false, false_implies, true_implies, and_true, true_and, reduceCtorEq, not_false_eq_true, hc, hfi]
    refine jl_X4_nto hR hw 24 n (hw.2.2.2.2.2.2.2.2 n hn) hn ⟨rfl, ?_⟩
    simp only [tr_nto, hh]
theorem jp_X4_nextInTreeOrder {G : en_G} : ∀ as σ, C_X4_nextInTreeOrder.1 as σ → (en_lc as).length ≤ 2 ∧ en_J (X_X4_nextInTreeOrder G (fun r σ' => C_X4_nextInTreeOrder.2 as σ r σ')) 0 (en_loc 2 as) [] σ := en_ghJ jg_X4_nextInTreeOrder
theorem ok_X4_nextInTreeOrder {G : en_G}  : en_Ok G 1 yX4_nextInTreeOrder cX4_nextInTreeOrder 2 (some (.object "NodeStage$Node")) C_X4_nextInTreeOrder :=
  en_met (own := RX4) (fl := en_lk fl4) (nw := en_lk nw4) (aw := en_lk aw4) (dc := en_lk dc4) (ca := en_lk (ca_X4_nextInTreeOrder G)) (rt := 3) (ini := false) (by decide +kernel) (Or.inr (Or.inr (Or.inr (Or.inl ⟨rfl, _, rfl⟩)))) (fun h => by cases h) rfl (fun q => en_LkF fl4_ok nw4_ok aw4_ok dc4_ok) (fun idx q hq => by cases hq) jp_X4_nextInTreeOrder
