def C_X4_isElement : en_C := (fun as σ => ∃ a, as = [en_R (some a)] ∧ en_cl σ a = some 4, fun as σ r σ' => ∃ a, as = [en_R (some a)] ∧ σ' = σ ∧ r = some (en_I (if en_fi σ 401 a ≤ 2 then 1 else 0)))
theorem pr_X4_isElement : ∀ as σ, C_X4_isElement.1 as σ → ∃ b tl, as = en_R (some b) :: tl ∧ en_cl σ b = some 4 ∧ tl.length = 0 := fun as σ ⟨a, h1, h2⟩ => ⟨a, [], h1, h2, rfl⟩
theorem jp_X4_isElement {G : en_G} : ∀ as σ, C_X4_isElement.1 as σ → (en_lc as).length ≤ 1 ∧ en_J (X_X4_isElement G (fun r σ' => C_X4_isElement.2 as σ r σ')) 0 (en_loc 1 as) [] σ := by
  rintro as σ ⟨a, rfl, hc⟩
  refine ⟨Nat.le_of_ble_eq_true rfl, ?_⟩
  show en_J _ 0 [en_R (some a)] [] σ
  simp only [j_X4_isElement_0, j_X4_isElement_1, j_X4_isElement_4, j_X4_isElement_5, j_X4_isElement_8, j_X4_isElement_9, j_X4_isElement_12, j_X4_isElement_13, en_c2I, en_c2R, en_c2U, en_c2D, Option.some.injEq, exists_eq_left', exists_eq_left, hc, true_and]
  refine ⟨fun h => ⟨Or.inl trivial, a, rfl, rfl, ?_⟩, fun h => ⟨Or.inr trivial, a, rfl, rfl, ?_⟩⟩
  · rw [if_neg (Int32.not_le.mpr h)]
  · rw [if_pos (Int32.not_lt.mp h)]
theorem ok_X4_isElement {G : en_G}  : en_Ok G 1 yX4_isElement cX4_isElement 1 (some .boolean) C_X4_isElement :=
  en_met (own := RX4) (fl := en_lk fl4) (nw := en_lk nw4) (aw := en_lk aw4) (dc := en_lk dc4) (ca := en_lk (ca_X4_isElement G)) (rt := 2) (ini := false) (by decide +kernel) (Or.inr (Or.inr (Or.inl ⟨rfl, rfl⟩))) (fun h => by cases h) rfl (fun q => en_LkF fl4_ok nw4_ok aw4_ok dc4_ok) (fun idx q hq => by cases hq) jp_X4_isElement
def C_X4_parentOrHost : en_C := (fun as σ => ∃ a, as = [en_R (some a)] ∧ en_cl σ a = some 4, fun as σ r σ' => ∃ a, as = [en_R (some a)] ∧ σ' = σ ∧ r = some (en_R (if en_fr σ 404 a = none then en_fr σ 403 a else en_fr σ 404 a)))
theorem pr_X4_parentOrHost : ∀ as σ, C_X4_parentOrHost.1 as σ → ∃ b tl, as = en_R (some b) :: tl ∧ en_cl σ b = some 4 ∧ tl.length = 0 := fun as σ ⟨a, h1, h2⟩ => ⟨a, [], h1, h2, rfl⟩
theorem jp_X4_parentOrHost {G : en_G} : ∀ as σ, C_X4_parentOrHost.1 as σ → (en_lc as).length ≤ 1 ∧ en_J (X_X4_parentOrHost G (fun r σ' => C_X4_parentOrHost.2 as σ r σ')) 0 (en_loc 1 as) [] σ := by
  rintro as σ ⟨a, rfl, hc⟩
  refine ⟨Nat.le_of_ble_eq_true rfl, ?_⟩
  show en_J _ 0 [en_R (some a)] [] σ
  simp only [j_X4_parentOrHost_0, j_X4_parentOrHost_1, j_X4_parentOrHost_4, j_X4_parentOrHost_7, j_X4_parentOrHost_8, j_X4_parentOrHost_11, j_X4_parentOrHost_14, j_X4_parentOrHost_15, j_X4_parentOrHost_18, en_c2I, en_c2R, en_c2U, en_c2D, Option.some.injEq, exists_eq_left', exists_eq_left, hc, true_and]
  refine ⟨fun h => ⟨a, rfl, rfl, ?_⟩, fun h => ⟨a, rfl, rfl, ?_⟩⟩
  · rw [if_pos h]
  · rw [if_neg h]
theorem ok_X4_parentOrHost {G : en_G}  : en_Ok G 1 yX4_parentOrHost cX4_parentOrHost 1 (some (.object "NodeStage$Node")) C_X4_parentOrHost :=
  en_met (own := RX4) (fl := en_lk fl4) (nw := en_lk nw4) (aw := en_lk aw4) (dc := en_lk dc4) (ca := en_lk (ca_X4_parentOrHost G)) (rt := 3) (ini := false) (by decide +kernel) (Or.inr (Or.inr (Or.inr (Or.inl ⟨rfl, _, rfl⟩)))) (fun h => by cases h) rfl (fun q => en_LkF fl4_ok nw4_ok aw4_ok dc4_ok) (fun idx q hq => by cases hq) jp_X4_parentOrHost
