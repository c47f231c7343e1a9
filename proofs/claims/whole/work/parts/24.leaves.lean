
theorem en_vin {k : Int32} {n : Nat} (hn : n < 2 ^ 31) (h0 : ¬ k < 0) (h1 : ¬ nI n ≤ k) : vp_in k n := by
  rw [vp_in_iff]
  have e0 : 0 ≤ k.toInt := by
    have := Int32.not_lt.mp h0
    rw [Int32.le_iff_toInt_le] at this
    simpa using this
  have e1 : k.toInt < (nI n).toInt := Int32.lt_iff_toInt_lt.mp (Int32.not_le.mp h1)
  rw [nI_toInt hn] at e1
  exact ⟨e0, e1⟩
def C_X6_numberOf : en_C := (fun as σ => ∃ (n : Option Nat), as = [en_R n] ∧ (∀ a, n = some a → en_cl σ a = some 4), fun as σ r σ' => ∃ (n : Option Nat), as = [en_R n] ∧ (σ' = σ ∧ r = some (en_I (match n with | none => -1 | some a => en_fi σ 400 a))))
theorem pr_X6_numberOf : ∀ as σ, C_X6_numberOf.1 as σ → as.length = 1 := fun as σ ⟨n, h1, h2⟩ => by rw [h1]; rfl
def ca_X6_numberOf (G : en_G) : List (Nat × Nat × en_C) := []
def X_X6_numberOf (G : en_G) (q : Option en_V → en_S → Prop) : en_X := en_mk G cX6_numberOf (en_lk fl6) (en_lk nw6) (en_lk aw6) (en_lk dc6) (en_lk (ca_X6_numberOf G)) 1 false q
theorem d_X6_numberOf_0 : decode cX6_numberOf 0 = .ok (.aload_n 0, 1) := by decide +kernel
theorem j_X6_numberOf_0 {G : en_G} {q : Option en_V → en_S → Prop}  {x0 : Option Nat} {σ : en_S} : en_J (X_X6_numberOf G q) 0 [en_R x0] [] σ ↔ en_J (X_X6_numberOf G q) 1 [en_R x0] [en_R x0] σ := en_j1 d_X6_numberOf_0 rfl rfl
theorem d_X6_numberOf_1 : decode cX6_numberOf 1 = .ok (.ifnonnull 7, 3) := by decide +kernel
theorem j_X6_numberOf_1 {G : en_G} {q : Option en_V → en_S → Prop}  {l0 : en_V} {a0 : Option Nat} {σ : en_S} : en_J (X_X6_numberOf G q) 1 [l0] [en_R a0] σ ↔ (¬ a0 = none → en_J (X_X6_numberOf G q) 8 [l0] [] σ) ∧ (¬ (¬ a0 = none) → en_J (X_X6_numberOf G q) 4 [l0] [] σ) := en_jb d_X6_numberOf_1 rfl ⟨rfl, by decide⟩
theorem d_X6_numberOf_4 : decode cX6_numberOf 4 = .ok (.iconst (-1), 1) := by decide +kernel
theorem j_X6_numberOf_4 {G : en_G} {q : Option en_V → en_S → Prop}  {l0 : en_V}  {σ : en_S} : en_J (X_X6_numberOf G q) 4 [l0] [] σ ↔ en_J (X_X6_numberOf G q) 5 [l0] [en_I (-1)] σ := ej_iconst d_X6_numberOf_4 (by decide +kernel)
theorem d_X6_numberOf_5 : decode cX6_numberOf 5 = .ok (.goto 7, 3) := by decide +kernel
theorem j_X6_numberOf_5 {G : en_G} {q : Option en_V → en_S → Prop}  {l0 : en_V} {a0 : Int32} {σ : en_S} : en_J (X_X6_numberOf G q) 5 [l0] [en_I a0] σ ↔ en_J (X_X6_numberOf G q) 12 [l0] [en_I a0] σ := en_j1 d_X6_numberOf_5 rfl ⟨rfl, by decide⟩
theorem d_X6_numberOf_8 : decode cX6_numberOf 8 = .ok (.aload_n 0, 1) := by decide +kernel
theorem j_X6_numberOf_8 {G : en_G} {q : Option en_V → en_S → Prop}  {x0 : Option Nat} {σ : en_S} : en_J (X_X6_numberOf G q) 8 [en_R x0] [] σ ↔ en_J (X_X6_numberOf G q) 9 [en_R x0] [en_R x0] σ := en_j1 d_X6_numberOf_8 rfl rfl
theorem d_X6_numberOf_9 : decode cX6_numberOf 9 = .ok (.getfield 235, 3) := by decide +kernel
theorem j_X6_numberOf_9 {G : en_G} {q : Option en_V → en_S → Prop}  {l0 : en_V} {a0 : Option Nat} {σ : en_S} : en_J (X_X6_numberOf G q) 9 [l0] [en_R a0] σ ↔ ∃ a, a0 = some a ∧ en_cl σ a = some 4 ∧ en_J (X_X6_numberOf G q) 12 [l0] [en_I (en_fi σ 400 a)] σ := en_jg (st := fun o => [en_R o]) (st' := fun a => [en_I (en_fi σ 400 a)]) (σ' := fun _ => σ) d_X6_numberOf_9 rfl (fun a => rfl) (fun a => ⟨fun h => h.2, fun h => ⟨rfl, h⟩⟩)
theorem d_X6_numberOf_12 : decode cX6_numberOf 12 = .ok (.ireturn, 1) := by decide +kernel
theorem j_X6_numberOf_12 {G : en_G} {q : Option en_V → en_S → Prop}  {l0 : en_V} {a0 : Int32} {σ : en_S} : en_J (X_X6_numberOf G q) 12 [l0] [en_I a0] σ ↔ q (some (en_I a0)) σ := en_jr d_X6_numberOf_12 rfl ⟨fun h => h.2.2, fun h => ⟨rfl, Or.inl rfl, h⟩⟩
theorem wc_X6_numberOf : Jvm.Cond.code yX6_numberOf cX6_numberOf 1 (some .int) ∈ en_W := en_inW (List.mem_of_getElem? (i := 243) (by decide +kernel)) (by decide +kernel)
theorem ws_X6_numberOf : Jvm.Cond.static yX6_numberOf ∈ en_W := en_inW (List.mem_of_getElem? (i := 242) (by decide +kernel)) (by decide +kernel)
theorem jp_X6_numberOf {G : en_G} : ∀ as σ, C_X6_numberOf.1 as σ → (en_lc as).length ≤ 1 ∧ en_J (X_X6_numberOf G (fun r σ' => C_X6_numberOf.2 as σ r σ')) 0 (en_loc 1 as) [] σ := by
  rintro as σ ⟨n, rfl, hc⟩
  refine ⟨Nat.le_of_ble_eq_true rfl, ?_⟩
  show en_J _ 0 [en_R n] [] σ
  cases n with
  | none =>
    simp only [j_X6_numberOf_0, j_X6_numberOf_1, j_X6_numberOf_4, j_X6_numberOf_5, j_X6_numberOf_8, j_X6_numberOf_9, j_X6_numberOf_12, en_c2I, en_c2R, en_c2U, en_c2D, Option.some.injEq, exists_eq_left', exists_eq_left, Option.map_some, Option.map_none, not_true_eq_false, false_implies, true_implies, and_true, true_and, reduceCtorEq, not_false_eq_true]
    exact ⟨none, rfl, rfl, rfl⟩
  | some a =>
    have hc := hc a rfl
    simp only [j_X6_numberOf_0, j_X6_numberOf_1, j_X6_numberOf_4, j_X6_numberOf_5, j_X6_numberOf_8, j_X6_numberOf_9, j_X6_numberOf_12, en_c2I, en_c2R, en_c2U, en_c2D, Option.some.injEq, exists_eq_left', exists_eq_left, Option.map_some, Option.map_none, not_true_eq_false, false_implies, true_implies, and_true, true_and, reduceCtorEq, not_false_eq_true, hc]
    exact ⟨some a, rfl, rfl, rfl⟩
theorem ok_X6_numberOf {G : en_G}  : en_Ok G 1 yX6_numberOf cX6_numberOf 1 (some .int) C_X6_numberOf :=
  en_met (own := RX6) (fl := en_lk fl6) (nw := en_lk nw6) (aw := en_lk aw6) (dc := en_lk dc6) (ca := en_lk (ca_X6_numberOf G)) (rt := 1) (ini := false) (by decide +kernel) (Or.inr (Or.inl ⟨rfl, rfl⟩)) (fun h => by cases h) rfl (fun q => en_LkF fl6_ok nw6_ok aw6_ok dc6_ok) (fun idx q hq => by cases hq) jp_X6_numberOf
def C_X6_isType : en_C := (fun as σ => ∃ (t : Int32), as = [en_I t] ∧ True, fun as σ r σ' => ∃ (t : Int32), as = [en_I t] ∧ (σ' = σ ∧ r = some (en_I (if 0 ≤ t ∧ t < 8 then 1 else 0))))
theorem pr_X6_isType : ∀ as σ, C_X6_isType.1 as σ → as.length = 1 := fun as σ ⟨t, h1, h2⟩ => by rw [h1]; rfl
def ca_X6_isType (G : en_G) : List (Nat × Nat × en_C) := []
def X_X6_isType (G : en_G) (q : Option en_V → en_S → Prop) : en_X := en_mk G cX6_isType (en_lk fl6) (en_lk nw6) (en_lk aw6) (en_lk dc6) (en_lk (ca_X6_isType G)) 2 false q
theorem d_X6_isType_0 : decode cX6_isType 0 = .ok (.iload_n 0, 1) := by decide +kernel
theorem j_X6_isType_0 {G : en_G} {q : Option en_V → en_S → Prop}  {x0 : Int32} {σ : en_S} : en_J (X_X6_isType G q) 0 [en_I x0] [] σ ↔ en_J (X_X6_isType G q) 1 [en_I x0] [en_I x0] σ := en_j1 d_X6_isType_0 rfl rfl
theorem d_X6_isType_1 : decode cX6_isType 1 = .ok (.ifCond .lt 13, 3) := by decide +kernel
theorem j_X6_isType_1 {G : en_G} {q : Option en_V → en_S → Prop}  {l0 : en_V} {a0 : Int32} {σ : en_S} : en_J (X_X6_isType G q) 1 [l0] [en_I a0] σ ↔ (a0 < 0 → en_J (X_X6_isType G q) 14 [l0] [] σ) ∧ (¬ (a0 < 0) → en_J (X_X6_isType G q) 4 [l0] [] σ) := en_jb d_X6_isType_1 rfl ⟨rfl, by decide⟩
theorem d_X6_isType_4 : decode cX6_isType 4 = .ok (.iload_n 0, 1) := by decide +kernel
theorem j_X6_isType_4 {G : en_G} {q : Option en_V → en_S → Prop}  {x0 : Int32} {σ : en_S} : en_J (X_X6_isType G q) 4 [en_I x0] [] σ ↔ en_J (X_X6_isType G q) 5 [en_I x0] [en_I x0] σ := en_j1 d_X6_isType_4 rfl rfl
theorem d_X6_isType_5 : decode cX6_isType 5 = .ok (.bipush 8, 2) := by decide +kernel
theorem j_X6_isType_5 {G : en_G} {q : Option en_V → en_S → Prop}  {l0 : en_V} {a0 : Int32} {σ : en_S} : en_J (X_X6_isType G q) 5 [l0] [en_I a0] σ ↔ en_J (X_X6_isType G q) 7 [l0] [en_I 8, en_I a0] σ := ej_bipush d_X6_isType_5 (by decide +kernel)
theorem d_X6_isType_7 : decode cX6_isType 7 = .ok (.if_icmp .ge 7, 3) := by decide +kernel
theorem j_X6_isType_7 {G : en_G} {q : Option en_V → en_S → Prop}  {l0 : en_V} {a0 : Int32} {a1 : Int32} {σ : en_S} : en_J (X_X6_isType G q) 7 [l0] [en_I a0, en_I a1] σ ↔ (a0 ≤ a1 → en_J (X_X6_isType G q) 14 [l0] [] σ) ∧ (¬ (a0 ≤ a1) → en_J (X_X6_isType G q) 10 [l0] [] σ) := en_jb d_X6_isType_7 rfl ⟨rfl, by decide⟩
theorem d_X6_isType_10 : decode cX6_isType 10 = .ok (.iconst 1, 1) := by decide +kernel
theorem j_X6_isType_10 {G : en_G} {q : Option en_V → en_S → Prop}  {l0 : en_V}  {σ : en_S} : en_J (X_X6_isType G q) 10 [l0] [] σ ↔ en_J (X_X6_isType G q) 11 [l0] [en_I 1] σ := ej_iconst d_X6_isType_10 (by decide +kernel)
theorem d_X6_isType_11 : decode cX6_isType 11 = .ok (.goto 4, 3) := by decide +kernel
theorem j_X6_isType_11 {G : en_G} {q : Option en_V → en_S → Prop}  {l0 : en_V} {a0 : Int32} {σ : en_S} : en_J (X_X6_isType G q) 11 [l0] [en_I a0] σ ↔ en_J (X_X6_isType G q) 15 [l0] [en_I a0] σ := en_j1 d_X6_isType_11 rfl ⟨rfl, by decide⟩
theorem d_X6_isType_14 : decode cX6_isType 14 = .ok (.iconst 0, 1) := by decide +kernel
theorem j_X6_isType_14 {G : en_G} {q : Option en_V → en_S → Prop}  {l0 : en_V}  {σ : en_S} : en_J (X_X6_isType G q) 14 [l0] [] σ ↔ en_J (X_X6_isType G q) 15 [l0] [en_I 0] σ := ej_iconst d_X6_isType_14 (by decide +kernel)
theorem d_X6_isType_15 : decode cX6_isType 15 = .ok (.ireturn, 1) := by decide +kernel
theorem j_X6_isType_15 {G : en_G} {q : Option en_V → en_S → Prop}  {l0 : en_V} {a0 : Int32} {σ : en_S} : en_J (X_X6_isType G q) 15 [l0] [en_I a0] σ ↔ (a0 = 0 ∨ a0 = 1) ∧ q (some (en_I a0)) σ := en_jr d_X6_isType_15 rfl ⟨fun h => ⟨h.2.1.elim (fun z => absurd (show (2 : Nat) = 1 from z) (by decide)) (fun z => z.2), h.2.2⟩, fun h => ⟨rfl, Or.inr ⟨rfl, h.1⟩, h.2⟩⟩
theorem wc_X6_isType : Jvm.Cond.code yX6_isType cX6_isType 1 (some .boolean) ∈ en_W := en_inW (List.mem_of_getElem? (i := 285) (by decide +kernel)) (by decide +kernel)
theorem ws_X6_isType : Jvm.Cond.static yX6_isType ∈ en_W := en_inW (List.mem_of_getElem? (i := 284) (by decide +kernel)) (by decide +kernel)
theorem jp_X6_isType {G : en_G} : ∀ as σ, C_X6_isType.1 as σ → (en_lc as).length ≤ 1 ∧ en_J (X_X6_isType G (fun r σ' => C_X6_isType.2 as σ r σ')) 0 (en_loc 1 as) [] σ := by
  rintro as σ ⟨t, rfl, hc⟩
  refine ⟨Nat.le_of_ble_eq_true rfl, ?_⟩
  show en_J _ 0 [en_I t] [] σ
  simp only [j_X6_isType_0, j_X6_isType_1, j_X6_isType_4, j_X6_isType_5, j_X6_isType_7, j_X6_isType_10, j_X6_isType_11, j_X6_isType_14, j_X6_isType_15, en_c2I, en_c2R, en_c2U, en_c2D, Option.some.injEq, exists_eq_left', exists_eq_left, Option.map_some, Option.map_none, not_true_eq_false, false_implies, true_implies, and_true, true_and, reduceCtorEq, not_false_eq_true]
  refine ⟨fun h => ⟨by simp, t, rfl, rfl, ?_⟩, fun h => ⟨fun h2 => ⟨by simp, t, rfl, rfl, ?_⟩, fun h2 => ⟨by simp, t, rfl, rfl, ?_⟩⟩⟩
  · rw [if_neg (fun z => Int32.not_le.mpr h z.1)]
  · rw [if_neg (fun z => Int32.not_lt.mpr h2 z.2)]
  · rw [if_pos ⟨Int32.not_lt.mp h, Int32.not_le.mp h2⟩]
theorem ok_X6_isType {G : en_G}  : en_Ok G 1 yX6_isType cX6_isType 1 (some .boolean) C_X6_isType :=
  en_met (own := RX6) (fl := en_lk fl6) (nw := en_lk nw6) (aw := en_lk aw6) (dc := en_lk dc6) (ca := en_lk (ca_X6_isType G)) (rt := 2) (ini := false) (by decide +kernel) (Or.inr (Or.inr (Or.inl ⟨rfl, rfl⟩))) (fun h => by cases h) rfl (fun q => en_LkF fl6_ok nw6_ok aw6_ok dc6_ok) (fun idx q hq => by cases hq) jp_X6_isType
def C_X6_countOf : en_C := (fun as σ => ∃ (n : Option Nat), as = [en_R n] ∧ True, fun as σ r σ' => ∃ (n : Option Nat), as = [en_R n] ∧ (σ' = σ ∧ r = some (en_I (if n = none then 0 else 1))))
theorem pr_X6_countOf : ∀ as σ, C_X6_countOf.1 as σ → as.length = 1 := fun as σ ⟨n, h1, h2⟩ => by rw [h1]; rfl
def ca_X6_countOf (G : en_G) : List (Nat × Nat × en_C) := []
def X_X6_countOf (G : en_G) (q : Option en_V → en_S → Prop) : en_X := en_mk G cX6_countOf (en_lk fl6) (en_lk nw6) (en_lk aw6) (en_lk dc6) (en_lk (ca_X6_countOf G)) 1 false q
theorem d_X6_countOf_0 : decode cX6_countOf 0 = .ok (.aload_n 0, 1) := by decide +kernel
theorem j_X6_countOf_0 {G : en_G} {q : Option en_V → en_S → Prop}  {x0 : Option Nat} {σ : en_S} : en_J (X_X6_countOf G q) 0 [en_R x0] [] σ ↔ en_J (X_X6_countOf G q) 1 [en_R x0] [en_R x0] σ := en_j1 d_X6_countOf_0 rfl rfl
theorem d_X6_countOf_1 : decode cX6_countOf 1 = .ok (.ifnonnull 7, 3) := by decide +kernel
theorem j_X6_countOf_1 {G : en_G} {q : Option en_V → en_S → Prop}  {l0 : en_V} {a0 : Option Nat} {σ : en_S} : en_J (X_X6_countOf G q) 1 [l0] [en_R a0] σ ↔ (¬ a0 = none → en_J (X_X6_countOf G q) 8 [l0] [] σ) ∧ (¬ (¬ a0 = none) → en_J (X_X6_countOf G q) 4 [l0] [] σ) := en_jb d_X6_countOf_1 rfl ⟨rfl, by decide⟩
theorem d_X6_countOf_4 : decode cX6_countOf 4 = .ok (.iconst 0, 1) := by decide +kernel
theorem j_X6_countOf_4 {G : en_G} {q : Option en_V → en_S → Prop}  {l0 : en_V}  {σ : en_S} : en_J (X_X6_countOf G q) 4 [l0] [] σ ↔ en_J (X_X6_countOf G q) 5 [l0] [en_I 0] σ := ej_iconst d_X6_countOf_4 (by decide +kernel)
theorem d_X6_countOf_5 : decode cX6_countOf 5 = .ok (.goto 4, 3) := by decide +kernel
theorem j_X6_countOf_5 {G : en_G} {q : Option en_V → en_S → Prop}  {l0 : en_V} {a0 : Int32} {σ : en_S} : en_J (X_X6_countOf G q) 5 [l0] [en_I a0] σ ↔ en_J (X_X6_countOf G q) 9 [l0] [en_I a0] σ := en_j1 d_X6_countOf_5 rfl ⟨rfl, by decide⟩
theorem d_X6_countOf_8 : decode cX6_countOf 8 = .ok (.iconst 1, 1) := by decide +kernel
theorem j_X6_countOf_8 {G : en_G} {q : Option en_V → en_S → Prop}  {l0 : en_V}  {σ : en_S} : en_J (X_X6_countOf G q) 8 [l0] [] σ ↔ en_J (X_X6_countOf G q) 9 [l0] [en_I 1] σ := ej_iconst d_X6_countOf_8 (by decide +kernel)
theorem d_X6_countOf_9 : decode cX6_countOf 9 = .ok (.ireturn, 1) := by decide +kernel
theorem j_X6_countOf_9 {G : en_G} {q : Option en_V → en_S → Prop}  {l0 : en_V} {a0 : Int32} {σ : en_S} : en_J (X_X6_countOf G q) 9 [l0] [en_I a0] σ ↔ q (some (en_I a0)) σ := en_jr d_X6_countOf_9 rfl ⟨fun h => h.2.2, fun h => ⟨rfl, Or.inl rfl, h⟩⟩
theorem wc_X6_countOf : Jvm.Cond.code yX6_countOf cX6_countOf 1 (some .int) ∈ en_W := en_inW (List.mem_of_getElem? (i := 464) (by decide +kernel)) (by decide +kernel)
theorem ws_X6_countOf : Jvm.Cond.static yX6_countOf ∈ en_W := en_inW (List.mem_of_getElem? (i := 463) (by decide +kernel)) (by decide +kernel)
theorem jp_X6_countOf {G : en_G} : ∀ as σ, C_X6_countOf.1 as σ → (en_lc as).length ≤ 1 ∧ en_J (X_X6_countOf G (fun r σ' => C_X6_countOf.2 as σ r σ')) 0 (en_loc 1 as) [] σ := by
  rintro as σ ⟨n, rfl, hc⟩
  refine ⟨Nat.le_of_ble_eq_true rfl, ?_⟩
  show en_J _ 0 [en_R n] [] σ
  cases n with
  | none =>
    simp only [j_X6_countOf_0, j_X6_countOf_1, j_X6_countOf_4, j_X6_countOf_5, j_X6_countOf_8, j_X6_countOf_9, en_c2I, en_c2R, en_c2U, en_c2D, Option.some.injEq, exists_eq_left', exists_eq_left, Option.map_some, Option.map_none, not_true_eq_false, false_implies, true_implies, and_true, true_and, reduceCtorEq, not_false_eq_true]
    exact ⟨none, rfl, rfl, rfl⟩
  | some a =>
    simp only [j_X6_countOf_0, j_X6_countOf_1, j_X6_countOf_4, j_X6_countOf_5, j_X6_countOf_8, j_X6_countOf_9, en_c2I, en_c2R, en_c2U, en_c2D, Option.some.injEq, exists_eq_left', exists_eq_left, Option.map_some, Option.map_none, not_true_eq_false, false_implies, true_implies, and_true, true_and, reduceCtorEq, not_false_eq_true]
    exact ⟨some a, rfl, rfl, rfl⟩
theorem ok_X6_countOf {G : en_G}  : en_Ok G 1 yX6_countOf cX6_countOf 1 (some .int) C_X6_countOf :=
  en_met (own := RX6) (fl := en_lk fl6) (nw := en_lk nw6) (aw := en_lk aw6) (dc := en_lk dc6) (ca := en_lk (ca_X6_countOf G)) (rt := 1) (ini := false) (by decide +kernel) (Or.inr (Or.inl ⟨rfl, rfl⟩)) (fun h => by cases h) rfl (fun q => en_LkF fl6_ok nw6_ok aw6_ok dc6_ok) (fun idx q hq => by cases hq) jp_X6_countOf
def C_X3_has : en_C := (fun as σ => ∃ (a : Nat) (k : Int32), as = [en_R (some a), en_I k] ∧ en_cl σ a = some 3, fun as σ r σ' => ∃ (a : Nat) (k : Int32), as = [en_R (some a), en_I k] ∧ (σ' = σ ∧ r = some (en_I (if en_fi σ 302 a &&& k = 0 then 0 else 1))))
theorem pr_X3_has : ∀ as σ, C_X3_has.1 as σ → ∃ b tl, as = en_R (some b) :: tl ∧ en_cl σ b = some 3 ∧ tl.length = 1 := fun as σ ⟨a, k, h1, h2⟩ => ⟨_, _, h1, h2, rfl⟩
def ca_X3_has (G : en_G) : List (Nat × Nat × en_C) := []
def X_X3_has (G : en_G) (q : Option en_V → en_S → Prop) : en_X := en_mk G cX3_has (en_lk fl3) (en_lk nw3) (en_lk aw3) (en_lk dc3) (en_lk (ca_X3_has G)) 2 false q
theorem d_X3_has_0 : decode cX3_has 0 = .ok (.aload_n 0, 1) := by decide +kernel
theorem j_X3_has_0 {G : en_G} {q : Option en_V → en_S → Prop}  {l1 : en_V} {x0 : Option Nat} {σ : en_S} : en_J (X_X3_has G q) 0 [en_R x0, l1] [] σ ↔ en_J (X_X3_has G q) 1 [en_R x0, l1] [en_R x0] σ := en_j1 d_X3_has_0 rfl rfl
theorem d_X3_has_1 : decode cX3_has 1 = .ok (.getfield 19, 3) := by decide +kernel
theorem j_X3_has_1 {G : en_G} {q : Option en_V → en_S → Prop}  {l0 l1 : en_V} {a0 : Option Nat} {σ : en_S} : en_J (X_X3_has G q) 1 [l0, l1] [en_R a0] σ ↔ ∃ a, a0 = some a ∧ en_cl σ a = some 3 ∧ en_J (X_X3_has G q) 4 [l0, l1] [en_I (en_fi σ 302 a)] σ := en_jg (st := fun o => [en_R o]) (st' := fun a => [en_I (en_fi σ 302 a)]) (σ' := fun _ => σ) d_X3_has_1 rfl (fun a => rfl) (fun a => ⟨fun h => h.2, fun h => ⟨rfl, h⟩⟩)
theorem d_X3_has_4 : decode cX3_has 4 = .ok (.iload_n 1, 1) := by decide +kernel
theorem j_X3_has_4 {G : en_G} {q : Option en_V → en_S → Prop}  {l0 : en_V} {a0 : Int32} {x1 : Int32} {σ : en_S} : en_J (X_X3_has G q) 4 [l0, en_I x1] [en_I a0] σ ↔ en_J (X_X3_has G q) 5 [l0, en_I x1] [en_I x1, en_I a0] σ := en_j1 d_X3_has_4 rfl rfl
theorem d_X3_has_5 : decode cX3_has 5 = .ok (.iand, 1) := by decide +kernel
theorem j_X3_has_5 {G : en_G} {q : Option en_V → en_S → Prop}  {l0 l1 : en_V} {a0 : Int32} {a1 : Int32} {σ : en_S} : en_J (X_X3_has G q) 5 [l0, l1] [en_I a0, en_I a1] σ ↔ en_J (X_X3_has G q) 6 [l0, l1] [en_I (a1 &&& a0)] σ := en_j1 d_X3_has_5 rfl ⟨rfl, trivial⟩
theorem d_X3_has_6 : decode cX3_has 6 = .ok (.ifCond .eq 7, 3) := by decide +kernel
theorem j_X3_has_6 {G : en_G} {q : Option en_V → en_S → Prop}  {l0 l1 : en_V} {a0 : Int32} {σ : en_S} : en_J (X_X3_has G q) 6 [l0, l1] [en_I a0] σ ↔ (a0 = 0 → en_J (X_X3_has G q) 13 [l0, l1] [] σ) ∧ (¬ (a0 = 0) → en_J (X_X3_has G q) 9 [l0, l1] [] σ) := en_jb d_X3_has_6 rfl ⟨rfl, by decide⟩
theorem d_X3_has_9 : decode cX3_has 9 = .ok (.iconst 1, 1) := by decide +kernel
theorem j_X3_has_9 {G : en_G} {q : Option en_V → en_S → Prop}  {l0 l1 : en_V}  {σ : en_S} : en_J (X_X3_has G q) 9 [l0, l1] [] σ ↔ en_J (X_X3_has G q) 10 [l0, l1] [en_I 1] σ := ej_iconst d_X3_has_9 (by decide +kernel)
theorem d_X3_has_10 : decode cX3_has 10 = .ok (.goto 4, 3) := by decide +kernel
theorem j_X3_has_10 {G : en_G} {q : Option en_V → en_S → Prop}  {l0 l1 : en_V} {a0 : Int32} {σ : en_S} : en_J (X_X3_has G q) 10 [l0, l1] [en_I a0] σ ↔ en_J (X_X3_has G q) 14 [l0, l1] [en_I a0] σ := en_j1 d_X3_has_10 rfl ⟨rfl, by decide⟩
theorem d_X3_has_13 : decode cX3_has 13 = .ok (.iconst 0, 1) := by decide +kernel
theorem j_X3_has_13 {G : en_G} {q : Option en_V → en_S → Prop}  {l0 l1 : en_V}  {σ : en_S} : en_J (X_X3_has G q) 13 [l0, l1] [] σ ↔ en_J (X_X3_has G q) 14 [l0, l1] [en_I 0] σ := ej_iconst d_X3_has_13 (by decide +kernel)
theorem d_X3_has_14 : decode cX3_has 14 = .ok (.ireturn, 1) := by decide +kernel
theorem j_X3_has_14 {G : en_G} {q : Option en_V → en_S → Prop}  {l0 l1 : en_V} {a0 : Int32} {σ : en_S} : en_J (X_X3_has G q) 14 [l0, l1] [en_I a0] σ ↔ (a0 = 0 ∨ a0 = 1) ∧ q (some (en_I a0)) σ := en_jr d_X3_has_14 rfl ⟨fun h => ⟨h.2.1.elim (fun z => absurd (show (2 : Nat) = 1 from z) (by decide)) (fun z => z.2), h.2.2⟩, fun h => ⟨rfl, Or.inr ⟨rfl, h.1⟩, h.2⟩⟩
theorem wc_X3_has : Jvm.Cond.code yX3_has cX3_has 2 (some .boolean) ∈ en_W := en_inW (List.mem_of_getElem? (i := 422) (by decide +kernel)) (by decide +kernel)
theorem wi_X3_has : Jvm.Cond.instanceMethod yX3_has ∈ en_W := en_inW (List.mem_of_getElem? (i := 420) (by decide +kernel)) (by decide +kernel)
theorem wx_X3_has : Jvm.Cond.selects RX3 yX3_has yX3_has ∈ en_W := en_inW (List.mem_of_getElem? (i := 421) (by decide +kernel)) (by decide +kernel)
theorem jp_X3_has {G : en_G} : ∀ as σ, C_X3_has.1 as σ → (en_lc as).length ≤ 2 ∧ en_J (X_X3_has G (fun r σ' => C_X3_has.2 as σ r σ')) 0 (en_loc 2 as) [] σ := by
  rintro as σ ⟨a, k, rfl, hc⟩
  refine ⟨Nat.le_of_ble_eq_true rfl, ?_⟩
  show en_J _ 0 [en_R (some a), en_I k] [] σ
  simp only [j_X3_has_0, j_X3_has_1, j_X3_has_4, j_X3_has_5, j_X3_has_6, j_X3_has_9, j_X3_has_10, j_X3_has_13, j_X3_has_14, en_c2I, en_c2R, en_c2U, en_c2D, Option.some.injEq, exists_eq_left', exists_eq_left, Option.map_some, Option.map_none, not_true_eq_false, false_implies, true_implies, and_true, true_and, reduceCtorEq, not_false_eq_true, hc]
  refine ⟨fun h => ⟨by simp, a, k, rfl, rfl, ?_⟩, fun h => ⟨by simp, a, k, rfl, rfl, ?_⟩⟩
  · rw [if_pos h]
  · rw [if_neg h]
theorem ok_X3_has {G : en_G}  : en_Ok G 1 yX3_has cX3_has 2 (some .boolean) C_X3_has :=
  en_met (own := RX3) (fl := en_lk fl3) (nw := en_lk nw3) (aw := en_lk aw3) (dc := en_lk dc3) (ca := en_lk (ca_X3_has G)) (rt := 2) (ini := false) (by decide +kernel) (Or.inr (Or.inr (Or.inl ⟨rfl, rfl⟩))) (fun h => by cases h) rfl (fun q => en_LkF fl3_ok nw3_ok aw3_ok dc3_ok) (fun idx q hq => by cases hq) jp_X3_has
def C_X3_hears : en_C := (fun as σ => ∃ (a : Nat) (n : Option Nat) (t c : Int32), as = [en_R (some a), en_R n, en_I t, en_I c] ∧ en_cl σ a = some 3 ∧ (en_fi σ 304 a = 0 ∨ en_fi σ 304 a = 1) ∧ (c = 0 ∨ c = 1), fun as σ r σ' => ∃ (a : Nat) (n : Option Nat) (t c : Int32), as = [en_R (some a), en_R n, en_I t, en_I c] ∧ (σ' = σ ∧ r = some (en_I (if en_fi σ 304 a = 0 ∧ en_fr σ 300 a = n ∧ en_fi σ 301 a = t ∧ ((en_fi σ 302 a &&& 1 = 0) ↔ c = 0) then 1 else 0))))
theorem pr_X3_hears : ∀ as σ, C_X3_hears.1 as σ → ∃ b tl, as = en_R (some b) :: tl ∧ en_cl σ b = some 3 ∧ tl.length = 3 := fun as σ ⟨a, n, t, c, h1, h2⟩ => ⟨_, _, h1, h2.1, rfl⟩
def ca_X3_hears (G : en_G) : List (Nat × Nat × en_C) := []
def X_X3_hears (G : en_G) (q : Option en_V → en_S → Prop) : en_X := en_mk G cX3_hears (en_lk fl3) (en_lk nw3) (en_lk aw3) (en_lk dc3) (en_lk (ca_X3_hears G)) 2 false q
theorem d_X3_hears_0 : decode cX3_hears 0 = .ok (.aload_n 0, 1) := by decide +kernel
theorem j_X3_hears_0 {G : en_G} {q : Option en_V → en_S → Prop}  {l1 l2 l3 l4 : en_V} {x0 : Option Nat} {σ : en_S} : en_J (X_X3_hears G q) 0 [en_R x0, l1, l2, l3, l4] [] σ ↔ en_J (X_X3_hears G q) 1 [en_R x0, l1, l2, l3, l4] [en_R x0] σ := en_j1 d_X3_hears_0 rfl rfl
theorem d_X3_hears_1 : decode cX3_hears 1 = .ok (.getfield 19, 3) := by decide +kernel
theorem j_X3_hears_1 {G : en_G} {q : Option en_V → en_S → Prop}  {l0 l1 l2 l3 l4 : en_V} {a0 : Option Nat} {σ : en_S} : en_J (X_X3_hears G q) 1 [l0, l1, l2, l3, l4] [en_R a0] σ ↔ ∃ a, a0 = some a ∧ en_cl σ a = some 3 ∧ en_J (X_X3_hears G q) 4 [l0, l1, l2, l3, l4] [en_I (en_fi σ 302 a)] σ := en_jg (st := fun o => [en_R o]) (st' := fun a => [en_I (en_fi σ 302 a)]) (σ' := fun _ => σ) d_X3_hears_1 rfl (fun a => rfl) (fun a => ⟨fun h => h.2, fun h => ⟨rfl, h⟩⟩)
theorem d_X3_hears_4 : decode cX3_hears 4 = .ok (.iconst 1, 1) := by decide +kernel
theorem j_X3_hears_4 {G : en_G} {q : Option en_V → en_S → Prop}  {l0 l1 l2 l3 l4 : en_V} {a0 : Int32} {σ : en_S} : en_J (X_X3_hears G q) 4 [l0, l1, l2, l3, l4] [en_I a0] σ ↔ en_J (X_X3_hears G q) 5 [l0, l1, l2, l3, l4] [en_I 1, en_I a0] σ := ej_iconst d_X3_hears_4 (by decide +kernel)
theorem d_X3_hears_5 : decode cX3_hears 5 = .ok (.iand, 1) := by decide +kernel
theorem j_X3_hears_5 {G : en_G} {q : Option en_V → en_S → Prop}  {l0 l1 l2 l3 l4 : en_V} {a0 : Int32} {a1 : Int32} {σ : en_S} : en_J (X_X3_hears G q) 5 [l0, l1, l2, l3, l4] [en_I a0, en_I a1] σ ↔ en_J (X_X3_hears G q) 6 [l0, l1, l2, l3, l4] [en_I (a1 &&& a0)] σ := en_j1 d_X3_hears_5 rfl ⟨rfl, trivial⟩
theorem d_X3_hears_6 : decode cX3_hears 6 = .ok (.ifCond .eq 7, 3) := by decide +kernel
theorem j_X3_hears_6 {G : en_G} {q : Option en_V → en_S → Prop}  {l0 l1 l2 l3 l4 : en_V} {a0 : Int32} {σ : en_S} : en_J (X_X3_hears G q) 6 [l0, l1, l2, l3, l4] [en_I a0] σ ↔ (a0 = 0 → en_J (X_X3_hears G q) 13 [l0, l1, l2, l3, l4] [] σ) ∧ (¬ (a0 = 0) → en_J (X_X3_hears G q) 9 [l0, l1, l2, l3, l4] [] σ) := en_jb d_X3_hears_6 rfl ⟨rfl, by decide⟩
theorem d_X3_hears_9 : decode cX3_hears 9 = .ok (.iconst 1, 1) := by decide +kernel
theorem j_X3_hears_9 {G : en_G} {q : Option en_V → en_S → Prop}  {l0 l1 l2 l3 l4 : en_V}  {σ : en_S} : en_J (X_X3_hears G q) 9 [l0, l1, l2, l3, l4] [] σ ↔ en_J (X_X3_hears G q) 10 [l0, l1, l2, l3, l4] [en_I 1] σ := ej_iconst d_X3_hears_9 (by decide +kernel)
theorem d_X3_hears_10 : decode cX3_hears 10 = .ok (.goto 4, 3) := by decide +kernel
theorem j_X3_hears_10 {G : en_G} {q : Option en_V → en_S → Prop}  {l0 l1 l2 l3 l4 : en_V} {a0 : Int32} {σ : en_S} : en_J (X_X3_hears G q) 10 [l0, l1, l2, l3, l4] [en_I a0] σ ↔ en_J (X_X3_hears G q) 14 [l0, l1, l2, l3, l4] [en_I a0] σ := en_j1 d_X3_hears_10 rfl ⟨rfl, by decide⟩
theorem d_X3_hears_13 : decode cX3_hears 13 = .ok (.iconst 0, 1) := by decide +kernel
theorem j_X3_hears_13 {G : en_G} {q : Option en_V → en_S → Prop}  {l0 l1 l2 l3 l4 : en_V}  {σ : en_S} : en_J (X_X3_hears G q) 13 [l0, l1, l2, l3, l4] [] σ ↔ en_J (X_X3_hears G q) 14 [l0, l1, l2, l3, l4] [en_I 0] σ := ej_iconst d_X3_hears_13 (by decide +kernel)
theorem d_X3_hears_14 : decode cX3_hears 14 = .ok (.istore 4, 2) := by decide +kernel
theorem j_X3_hears_14 {G : en_G} {q : Option en_V → en_S → Prop}  {l0 l1 l2 l3 l4 : en_V} {a0 : Int32} {σ : en_S} : en_J (X_X3_hears G q) 14 [l0, l1, l2, l3, l4] [en_I a0] σ ↔ en_J (X_X3_hears G q) 16 [l0, l1, l2, en_c2 l3, en_I a0] [] σ := en_j1 d_X3_hears_14 rfl ⟨rfl, Nat.le_of_ble_eq_true rfl⟩
theorem d_X3_hears_16 : decode cX3_hears 16 = .ok (.aload_n 0, 1) := by decide +kernel
theorem j_X3_hears_16 {G : en_G} {q : Option en_V → en_S → Prop}  {l1 l2 l3 l4 : en_V} {x0 : Option Nat} {σ : en_S} : en_J (X_X3_hears G q) 16 [en_R x0, l1, l2, l3, l4] [] σ ↔ en_J (X_X3_hears G q) 17 [en_R x0, l1, l2, l3, l4] [en_R x0] σ := en_j1 d_X3_hears_16 rfl rfl
theorem d_X3_hears_17 : decode cX3_hears 17 = .ok (.getfield 26, 3) := by decide +kernel
theorem j_X3_hears_17 {G : en_G} {q : Option en_V → en_S → Prop}  {l0 l1 l2 l3 l4 : en_V} {a0 : Option Nat} {σ : en_S} : en_J (X_X3_hears G q) 17 [l0, l1, l2, l3, l4] [en_R a0] σ ↔ ∃ a, a0 = some a ∧ en_cl σ a = some 3 ∧ en_J (X_X3_hears G q) 20 [l0, l1, l2, l3, l4] [en_I (en_fi σ 304 a)] σ := en_jg (st := fun o => [en_R o]) (st' := fun a => [en_I (en_fi σ 304 a)]) (σ' := fun _ => σ) d_X3_hears_17 rfl (fun a => rfl) (fun a => ⟨fun h => h.2, fun h => ⟨rfl, h⟩⟩)
theorem d_X3_hears_20 : decode cX3_hears 20 = .ok (.ifCond .ne 29, 3) := by decide +kernel
theorem j_X3_hears_20 {G : en_G} {q : Option en_V → en_S → Prop}  {l0 l1 l2 l3 l4 : en_V} {a0 : Int32} {σ : en_S} : en_J (X_X3_hears G q) 20 [l0, l1, l2, l3, l4] [en_I a0] σ ↔ (¬ a0 = 0 → en_J (X_X3_hears G q) 49 [l0, l1, l2, l3, l4] [] σ) ∧ (¬ (¬ a0 = 0) → en_J (X_X3_hears G q) 23 [l0, l1, l2, l3, l4] [] σ) := en_jb d_X3_hears_20 rfl ⟨rfl, by decide⟩
theorem d_X3_hears_23 : decode cX3_hears 23 = .ok (.aload_n 0, 1) := by decide +kernel
theorem j_X3_hears_23 {G : en_G} {q : Option en_V → en_S → Prop}  {l1 l2 l3 l4 : en_V} {x0 : Option Nat} {σ : en_S} : en_J (X_X3_hears G q) 23 [en_R x0, l1, l2, l3, l4] [] σ ↔ en_J (X_X3_hears G q) 24 [en_R x0, l1, l2, l3, l4] [en_R x0] σ := en_j1 d_X3_hears_23 rfl rfl
theorem d_X3_hears_24 : decode cX3_hears 24 = .ok (.getfield 9, 3) := by decide +kernel
theorem j_X3_hears_24 {G : en_G} {q : Option en_V → en_S → Prop}  {l0 l1 l2 l3 l4 : en_V} {a0 : Option Nat} {σ : en_S} : en_J (X_X3_hears G q) 24 [l0, l1, l2, l3, l4] [en_R a0] σ ↔ ∃ a, a0 = some a ∧ en_cl σ a = some 3 ∧ en_J (X_X3_hears G q) 27 [l0, l1, l2, l3, l4] [en_R (en_fr σ 300 a)] σ := en_jg (st := fun o => [en_R o]) (st' := fun a => [en_R (en_fr σ 300 a)]) (σ' := fun _ => σ) d_X3_hears_24 rfl (fun a => rfl) (fun a => ⟨fun h => h.2, fun h => ⟨rfl, h⟩⟩)
theorem d_X3_hears_27 : decode cX3_hears 27 = .ok (.aload_n 1, 1) := by decide +kernel
theorem j_X3_hears_27 {G : en_G} {q : Option en_V → en_S → Prop}  {l0 l2 l3 l4 : en_V} {a0 : Option Nat} {x1 : Option Nat} {σ : en_S} : en_J (X_X3_hears G q) 27 [l0, en_R x1, l2, l3, l4] [en_R a0] σ ↔ en_J (X_X3_hears G q) 28 [l0, en_R x1, l2, l3, l4] [en_R x1, en_R a0] σ := en_j1 d_X3_hears_27 rfl rfl
theorem d_X3_hears_28 : decode cX3_hears 28 = .ok (.if_acmp .ne 21, 3) := by decide +kernel
theorem j_X3_hears_28 {G : en_G} {q : Option en_V → en_S → Prop}  {l0 l1 l2 l3 l4 : en_V} {a0 : Option Nat} {a1 : Option Nat} {σ : en_S} : en_J (X_X3_hears G q) 28 [l0, l1, l2, l3, l4] [en_R a0, en_R a1] σ ↔ (¬ a1 = a0 → en_J (X_X3_hears G q) 49 [l0, l1, l2, l3, l4] [] σ) ∧ (¬ (¬ a1 = a0) → en_J (X_X3_hears G q) 31 [l0, l1, l2, l3, l4] [] σ) := en_jb d_X3_hears_28 rfl ⟨rfl, by decide⟩
theorem d_X3_hears_31 : decode cX3_hears 31 = .ok (.aload_n 0, 1) := by decide +kernel
theorem j_X3_hears_31 {G : en_G} {q : Option en_V → en_S → Prop}  {l1 l2 l3 l4 : en_V} {x0 : Option Nat} {σ : en_S} : en_J (X_X3_hears G q) 31 [en_R x0, l1, l2, l3, l4] [] σ ↔ en_J (X_X3_hears G q) 32 [en_R x0, l1, l2, l3, l4] [en_R x0] σ := en_j1 d_X3_hears_31 rfl rfl
theorem d_X3_hears_32 : decode cX3_hears 32 = .ok (.getfield 15, 3) := by decide +kernel
theorem j_X3_hears_32 {G : en_G} {q : Option en_V → en_S → Prop}  {l0 l1 l2 l3 l4 : en_V} {a0 : Option Nat} {σ : en_S} : en_J (X_X3_hears G q) 32 [l0, l1, l2, l3, l4] [en_R a0] σ ↔ ∃ a, a0 = some a ∧ en_cl σ a = some 3 ∧ en_J (X_X3_hears G q) 35 [l0, l1, l2, l3, l4] [en_I (en_fi σ 301 a)] σ := en_jg (st := fun o => [en_R o]) (st' := fun a => [en_I (en_fi σ 301 a)]) (σ' := fun _ => σ) d_X3_hears_32 rfl (fun a => rfl) (fun a => ⟨fun h => h.2, fun h => ⟨rfl, h⟩⟩)
theorem d_X3_hears_35 : decode cX3_hears 35 = .ok (.iload_n 2, 1) := by decide +kernel
theorem j_X3_hears_35 {G : en_G} {q : Option en_V → en_S → Prop}  {l0 l1 l3 l4 : en_V} {a0 : Int32} {x2 : Int32} {σ : en_S} : en_J (X_X3_hears G q) 35 [l0, l1, en_I x2, l3, l4] [en_I a0] σ ↔ en_J (X_X3_hears G q) 36 [l0, l1, en_I x2, l3, l4] [en_I x2, en_I a0] σ := en_j1 d_X3_hears_35 rfl rfl
theorem d_X3_hears_36 : decode cX3_hears 36 = .ok (.if_icmp .ne 13, 3) := by decide +kernel
theorem j_X3_hears_36 {G : en_G} {q : Option en_V → en_S → Prop}  {l0 l1 l2 l3 l4 : en_V} {a0 : Int32} {a1 : Int32} {σ : en_S} : en_J (X_X3_hears G q) 36 [l0, l1, l2, l3, l4] [en_I a0, en_I a1] σ ↔ (¬ a1 = a0 → en_J (X_X3_hears G q) 49 [l0, l1, l2, l3, l4] [] σ) ∧ (¬ (¬ a1 = a0) → en_J (X_X3_hears G q) 39 [l0, l1, l2, l3, l4] [] σ) := en_jb d_X3_hears_36 rfl ⟨rfl, by decide⟩
theorem d_X3_hears_39 : decode cX3_hears 39 = .ok (.iload 4, 2) := by decide +kernel
theorem j_X3_hears_39 {G : en_G} {q : Option en_V → en_S → Prop}  {l0 l1 l2 l3 : en_V} {x4 : Int32} {σ : en_S} : en_J (X_X3_hears G q) 39 [l0, l1, l2, l3, en_I x4] [] σ ↔ en_J (X_X3_hears G q) 41 [l0, l1, l2, l3, en_I x4] [en_I x4] σ := en_j1 d_X3_hears_39 rfl rfl
theorem d_X3_hears_41 : decode cX3_hears 41 = .ok (.iload_n 3, 1) := by decide +kernel
theorem j_X3_hears_41 {G : en_G} {q : Option en_V → en_S → Prop}  {l0 l1 l2 l4 : en_V} {a0 : Int32} {x3 : Int32} {σ : en_S} : en_J (X_X3_hears G q) 41 [l0, l1, l2, en_I x3, l4] [en_I a0] σ ↔ en_J (X_X3_hears G q) 42 [l0, l1, l2, en_I x3, l4] [en_I x3, en_I a0] σ := en_j1 d_X3_hears_41 rfl rfl
theorem d_X3_hears_42 : decode cX3_hears 42 = .ok (.if_icmp .ne 7, 3) := by decide +kernel
theorem j_X3_hears_42 {G : en_G} {q : Option en_V → en_S → Prop}  {l0 l1 l2 l3 l4 : en_V} {a0 : Int32} {a1 : Int32} {σ : en_S} : en_J (X_X3_hears G q) 42 [l0, l1, l2, l3, l4] [en_I a0, en_I a1] σ ↔ (¬ a1 = a0 → en_J (X_X3_hears G q) 49 [l0, l1, l2, l3, l4] [] σ) ∧ (¬ (¬ a1 = a0) → en_J (X_X3_hears G q) 45 [l0, l1, l2, l3, l4] [] σ) := en_jb d_X3_hears_42 rfl ⟨rfl, by decide⟩
theorem d_X3_hears_45 : decode cX3_hears 45 = .ok (.iconst 1, 1) := by decide +kernel
theorem j_X3_hears_45 {G : en_G} {q : Option en_V → en_S → Prop}  {l0 l1 l2 l3 l4 : en_V}  {σ : en_S} : en_J (X_X3_hears G q) 45 [l0, l1, l2, l3, l4] [] σ ↔ en_J (X_X3_hears G q) 46 [l0, l1, l2, l3, l4] [en_I 1] σ := ej_iconst d_X3_hears_45 (by decide +kernel)
theorem d_X3_hears_46 : decode cX3_hears 46 = .ok (.goto 4, 3) := by decide +kernel
theorem j_X3_hears_46 {G : en_G} {q : Option en_V → en_S → Prop}  {l0 l1 l2 l3 l4 : en_V} {a0 : Int32} {σ : en_S} : en_J (X_X3_hears G q) 46 [l0, l1, l2, l3, l4] [en_I a0] σ ↔ en_J (X_X3_hears G q) 50 [l0, l1, l2, l3, l4] [en_I a0] σ := en_j1 d_X3_hears_46 rfl ⟨rfl, by decide⟩
theorem d_X3_hears_49 : decode cX3_hears 49 = .ok (.iconst 0, 1) := by decide +kernel
theorem j_X3_hears_49 {G : en_G} {q : Option en_V → en_S → Prop}  {l0 l1 l2 l3 l4 : en_V}  {σ : en_S} : en_J (X_X3_hears G q) 49 [l0, l1, l2, l3, l4] [] σ ↔ en_J (X_X3_hears G q) 50 [l0, l1, l2, l3, l4] [en_I 0] σ := ej_iconst d_X3_hears_49 (by decide +kernel)
theorem d_X3_hears_50 : decode cX3_hears 50 = .ok (.ireturn, 1) := by decide +kernel
theorem j_X3_hears_50 {G : en_G} {q : Option en_V → en_S → Prop}  {l0 l1 l2 l3 l4 : en_V} {a0 : Int32} {σ : en_S} : en_J (X_X3_hears G q) 50 [l0, l1, l2, l3, l4] [en_I a0] σ ↔ (a0 = 0 ∨ a0 = 1) ∧ q (some (en_I a0)) σ := en_jr d_X3_hears_50 rfl ⟨fun h => ⟨h.2.1.elim (fun z => absurd (show (2 : Nat) = 1 from z) (by decide)) (fun z => z.2), h.2.2⟩, fun h => ⟨rfl, Or.inr ⟨rfl, h.1⟩, h.2⟩⟩
theorem wc_X3_hears : Jvm.Cond.code yX3_hears cX3_hears 5 (some .boolean) ∈ en_W := en_inW (List.mem_of_getElem? (i := 301) (by decide +kernel)) (by decide +kernel)
theorem wi_X3_hears : Jvm.Cond.instanceMethod yX3_hears ∈ en_W := en_inW (List.mem_of_getElem? (i := 299) (by decide +kernel)) (by decide +kernel)
theorem wx_X3_hears : Jvm.Cond.selects RX3 yX3_hears yX3_hears ∈ en_W := en_inW (List.mem_of_getElem? (i := 300) (by decide +kernel)) (by decide +kernel)
theorem jp_X3_hears {G : en_G} : ∀ as σ, C_X3_hears.1 as σ → (en_lc as).length ≤ 5 ∧ en_J (X_X3_hears G (fun r σ' => C_X3_hears.2 as σ r σ')) 0 (en_loc 5 as) [] σ := by
  rintro as σ ⟨a, n, t, c, rfl, hc⟩
  refine ⟨Nat.le_of_ble_eq_true rfl, ?_⟩
  show en_J _ 0 [en_R (some a), en_R n, en_I t, en_I c, en_U] [] σ
  simp only [j_X3_hears_0, j_X3_hears_1, j_X3_hears_4, j_X3_hears_5, j_X3_hears_6, j_X3_hears_9, j_X3_hears_10, j_X3_hears_13, j_X3_hears_14, j_X3_hears_16, j_X3_hears_17, j_X3_hears_20, j_X3_hears_23, j_X3_hears_24, j_X3_hears_27, j_X3_hears_28, j_X3_hears_31, j_X3_hears_32, j_X3_hears_35, j_X3_hears_36, j_X3_hears_39, j_X3_hears_41, j_X3_hears_42, j_X3_hears_45, j_X3_hears_46, j_X3_hears_49, j_X3_hears_50, en_c2I, en_c2R, en_c2U, en_c2D, Option.some.injEq, exists_eq_left', exists_eq_left, Option.map_some, Option.map_none, not_true_eq_false, false_implies, true_implies, and_true, true_and, reduceCtorEq, not_false_eq_true, hc.1]
  have fin : ∀ b : Int32, (b = 1 ∨ b = 0) → (b = 1 ↔ (en_fi σ 304 a = 0 ∧ en_fr σ 300 a = n ∧ en_fi σ 301 a = t ∧ ((en_fi σ 302 a &&& 1 = 0) ↔ c = 0))) → C_X3_hears.2 [en_R (some a), en_R n, en_I t, en_I c] σ (some (en_I b)) σ := by
    intro b hb hbi
    refine ⟨a, n, t, c, rfl, rfl, ?_⟩
    by_cases hz : en_fi σ 304 a = 0 ∧ en_fr σ 300 a = n ∧ en_fi σ 301 a = t ∧ ((en_fi σ 302 a &&& 1 = 0) ↔ c = 0)
    · rw [if_pos hz, hbi.mpr hz]
    · rw [if_neg hz]
      rcases hb with hb | hb
      · exact absurd (hbi.mp hb) hz
      · rw [hb]
  have f0 : ∀ hz : ¬ (en_fi σ 304 a = 0 ∧ en_fr σ 300 a = n ∧ en_fi σ 301 a = t ∧ ((en_fi σ 302 a &&& 1 = 0) ↔ c = 0)), C_X3_hears.2 [en_R (some a), en_R n, en_I t, en_I c] σ (some (en_I 0)) σ := fun hz => fin 0 (Or.inr rfl) ⟨fun z => absurd z (by decide), fun z => absurd z hz⟩
  have f1 : ∀ hz : (en_fi σ 304 a = 0 ∧ en_fr σ 300 a = n ∧ en_fi σ 301 a = t ∧ ((en_fi σ 302 a &&& 1 = 0) ↔ c = 0)), C_X3_hears.2 [en_R (some a), en_R n, en_I t, en_I c] σ (some (en_I 1)) σ := fun hz => fin 1 (Or.inl rfl) ⟨fun _ => hz, fun _ => rfl⟩
  have nn : ∀ {z : Prop}, ¬ ¬ z → z := fun h => Classical.not_not.mp h
  refine ⟨fun h1 => ⟨fun h2 => ⟨by simp, f0 (fun z => h2 z.1)⟩, fun h2 => ⟨fun h3 => ⟨by simp, f0 (fun z => h3 z.2.1)⟩, fun h3 => ⟨fun h4 => ⟨by simp, f0 (fun z => h4 z.2.2.1)⟩, fun h4 => ⟨fun h5 => ⟨by simp, f0 (fun z => h5 (z.2.2.2.mp h1).symm)⟩, fun h5 => ⟨by simp, f1 ⟨nn h2, nn h3, nn h4, fun _ => (nn h5).symm, fun _ => h1⟩⟩⟩⟩⟩⟩, fun h1 => ⟨fun h2 => ⟨by simp, f0 (fun z => h2 z.1)⟩, fun h2 => ⟨fun h3 => ⟨by simp, f0 (fun z => h3 z.2.1)⟩, fun h3 => ⟨fun h4 => ⟨by simp, f0 (fun z => h4 z.2.2.1)⟩, fun h4 => ⟨fun h5 => ⟨by simp, f0 (fun z => h5 ?_)⟩, fun h5 => ⟨by simp, f1 ⟨nn h2, nn h3, nn h4, fun z => absurd z h1, fun z => ?_⟩⟩⟩⟩⟩⟩⟩
  · rcases hc.2.2 with z0 | z0
    · exact absurd (z.2.2.2.mpr z0) h1
    · exact z0.symm
  · have := nn h5
    rw [z] at this
    exact absurd this (by decide)
theorem ok_X3_hears {G : en_G}  : en_Ok G 1 yX3_hears cX3_hears 5 (some .boolean) C_X3_hears :=
  en_met (own := RX3) (fl := en_lk fl3) (nw := en_lk nw3) (aw := en_lk aw3) (dc := en_lk dc3) (ca := en_lk (ca_X3_hears G)) (rt := 2) (ini := false) (by decide +kernel) (Or.inr (Or.inr (Or.inl ⟨rfl, rfl⟩))) (fun h => by cases h) rfl (fun q => en_LkF fl3_ok nw3_ok aw3_ok dc3_ok) (fun idx q hq => by cases hq) jp_X3_hears
def C_X5_commandAt : en_C := (fun as σ => ∃ (a c : Nat) (k : Int32), as = [en_R (some a), en_I k] ∧ en_cl σ a = some 5 ∧ en_fr σ 500 a = some c ∧ en_al σ c = some (0, 5), fun as σ r σ' => ∃ (a c : Nat) (k : Int32), as = [en_R (some a), en_I k] ∧ (σ' = σ ∧ en_fr σ 500 a = some c ∧ r = some (en_I (if 0 ≤ k ∧ k < 5 then en_ai σ c k.toNatClampNeg else -1))))
theorem pr_X5_commandAt : ∀ as σ, C_X5_commandAt.1 as σ → ∃ b tl, as = en_R (some b) :: tl ∧ en_cl σ b = some 5 ∧ tl.length = 1 := fun as σ ⟨a, c, k, h1, h2⟩ => ⟨_, _, h1, h2.1, rfl⟩
def ca_X5_commandAt (G : en_G) : List (Nat × Nat × en_C) := []
def X_X5_commandAt (G : en_G) (q : Option en_V → en_S → Prop) : en_X := en_mk G cX5_commandAt (en_lk fl5) (en_lk nw5) (en_lk aw5) (en_lk dc5) (en_lk (ca_X5_commandAt G)) 1 false q
theorem d_X5_commandAt_0 : decode cX5_commandAt 0 = .ok (.iload_n 1, 1) := by decide +kernel
theorem j_X5_commandAt_0 {G : en_G} {q : Option en_V → en_S → Prop}  {l0 : en_V} {x1 : Int32} {σ : en_S} : en_J (X_X5_commandAt G q) 0 [l0, en_I x1] [] σ ↔ en_J (X_X5_commandAt G q) 1 [l0, en_I x1] [en_I x1] σ := en_j1 d_X5_commandAt_0 rfl rfl
theorem d_X5_commandAt_1 : decode cX5_commandAt 1 = .ok (.ifCond .lt 21, 3) := by decide +kernel
theorem j_X5_commandAt_1 {G : en_G} {q : Option en_V → en_S → Prop}  {l0 l1 : en_V} {a0 : Int32} {σ : en_S} : en_J (X_X5_commandAt G q) 1 [l0, l1] [en_I a0] σ ↔ (a0 < 0 → en_J (X_X5_commandAt G q) 22 [l0, l1] [] σ) ∧ (¬ (a0 < 0) → en_J (X_X5_commandAt G q) 4 [l0, l1] [] σ) := en_jb d_X5_commandAt_1 rfl ⟨rfl, by decide⟩
theorem d_X5_commandAt_4 : decode cX5_commandAt 4 = .ok (.iload_n 1, 1) := by decide +kernel
theorem j_X5_commandAt_4 {G : en_G} {q : Option en_V → en_S → Prop}  {l0 : en_V} {x1 : Int32} {σ : en_S} : en_J (X_X5_commandAt G q) 4 [l0, en_I x1] [] σ ↔ en_J (X_X5_commandAt G q) 5 [l0, en_I x1] [en_I x1] σ := en_j1 d_X5_commandAt_4 rfl rfl
theorem d_X5_commandAt_5 : decode cX5_commandAt 5 = .ok (.aload_n 0, 1) := by decide +kernel
theorem j_X5_commandAt_5 {G : en_G} {q : Option en_V → en_S → Prop}  {l1 : en_V} {a0 : Int32} {x0 : Option Nat} {σ : en_S} : en_J (X_X5_commandAt G q) 5 [en_R x0, l1] [en_I a0] σ ↔ en_J (X_X5_commandAt G q) 6 [en_R x0, l1] [en_R x0, en_I a0] σ := en_j1 d_X5_commandAt_5 rfl rfl
theorem d_X5_commandAt_6 : decode cX5_commandAt 6 = .ok (.getfield 9, 3) := by decide +kernel
theorem j_X5_commandAt_6 {G : en_G} {q : Option en_V → en_S → Prop}  {l0 l1 : en_V} {a0 : Option Nat} {a1 : Int32} {σ : en_S} : en_J (X_X5_commandAt G q) 6 [l0, l1] [en_R a0, en_I a1] σ ↔ ∃ a, a0 = some a ∧ en_cl σ a = some 5 ∧ en_J (X_X5_commandAt G q) 9 [l0, l1] [en_R (en_fr σ 500 a), en_I a1] σ := en_jg (st := fun o => [en_R o, en_I a1]) (st' := fun a => [en_R (en_fr σ 500 a), en_I a1]) (σ' := fun _ => σ) d_X5_commandAt_6 rfl (fun a => rfl) (fun a => ⟨fun h => h.2, fun h => ⟨rfl, h⟩⟩)
theorem d_X5_commandAt_9 : decode cX5_commandAt 9 = .ok (.arraylength, 1) := by decide +kernel
theorem j_X5_commandAt_9 {G : en_G} {q : Option en_V → en_S → Prop}  {l0 l1 : en_V} {a0 : Option Nat} {a1 : Int32} {σ : en_S} : en_J (X_X5_commandAt G q) 9 [l0, l1] [en_R a0, en_I a1] σ ↔ ∃ a, a0 = some a ∧ (en_al σ a).isSome = true ∧ en_J (X_X5_commandAt G q) 10 [l0, l1] [en_I (nI ((en_al σ a).getD (0, 0)).2), en_I a1] σ := ej_alen d_X5_commandAt_9 rfl
theorem d_X5_commandAt_10 : decode cX5_commandAt 10 = .ok (.if_icmp .ge 12, 3) := by decide +kernel
theorem j_X5_commandAt_10 {G : en_G} {q : Option en_V → en_S → Prop}  {l0 l1 : en_V} {a0 : Int32} {a1 : Int32} {σ : en_S} : en_J (X_X5_commandAt G q) 10 [l0, l1] [en_I a0, en_I a1] σ ↔ (a0 ≤ a1 → en_J (X_X5_commandAt G q) 22 [l0, l1] [] σ) ∧ (¬ (a0 ≤ a1) → en_J (X_X5_commandAt G q) 13 [l0, l1] [] σ) := en_jb d_X5_commandAt_10 rfl ⟨rfl, by decide⟩
theorem d_X5_commandAt_13 : decode cX5_commandAt 13 = .ok (.aload_n 0, 1) := by decide +kernel
theorem j_X5_commandAt_13 {G : en_G} {q : Option en_V → en_S → Prop}  {l1 : en_V} {x0 : Option Nat} {σ : en_S} : en_J (X_X5_commandAt G q) 13 [en_R x0, l1] [] σ ↔ en_J (X_X5_commandAt G q) 14 [en_R x0, l1] [en_R x0] σ := en_j1 d_X5_commandAt_13 rfl rfl
theorem d_X5_commandAt_14 : decode cX5_commandAt 14 = .ok (.getfield 9, 3) := by decide +kernel
theorem j_X5_commandAt_14 {G : en_G} {q : Option en_V → en_S → Prop}  {l0 l1 : en_V} {a0 : Option Nat} {σ : en_S} : en_J (X_X5_commandAt G q) 14 [l0, l1] [en_R a0] σ ↔ ∃ a, a0 = some a ∧ en_cl σ a = some 5 ∧ en_J (X_X5_commandAt G q) 17 [l0, l1] [en_R (en_fr σ 500 a)] σ := en_jg (st := fun o => [en_R o]) (st' := fun a => [en_R (en_fr σ 500 a)]) (σ' := fun _ => σ) d_X5_commandAt_14 rfl (fun a => rfl) (fun a => ⟨fun h => h.2, fun h => ⟨rfl, h⟩⟩)
theorem d_X5_commandAt_17 : decode cX5_commandAt 17 = .ok (.iload_n 1, 1) := by decide +kernel
theorem j_X5_commandAt_17 {G : en_G} {q : Option en_V → en_S → Prop}  {l0 : en_V} {a0 : Option Nat} {x1 : Int32} {σ : en_S} : en_J (X_X5_commandAt G q) 17 [l0, en_I x1] [en_R a0] σ ↔ en_J (X_X5_commandAt G q) 18 [l0, en_I x1] [en_I x1, en_R a0] σ := en_j1 d_X5_commandAt_17 rfl rfl
theorem d_X5_commandAt_18 : decode cX5_commandAt 18 = .ok (.iaload, 1) := by decide +kernel
theorem j_X5_commandAt_18 {G : en_G} {q : Option en_V → en_S → Prop}  {l0 l1 : en_V} {a0 : Int32} {a1 : Option Nat} {σ : en_S} : en_J (X_X5_commandAt G q) 18 [l0, l1] [en_I a0, en_R a1] σ ↔ ∃ a, a1 = some a ∧ (∃ k, en_al σ a = some (0, k) ∧ vp_in a0 k) ∧ en_J (X_X5_commandAt G q) 19 [l0, l1] [en_I (en_ai σ a a0.toNatClampNeg)] σ := ej_iaload d_X5_commandAt_18 rfl
theorem d_X5_commandAt_19 : decode cX5_commandAt 19 = .ok (.goto 4, 3) := by decide +kernel
theorem j_X5_commandAt_19 {G : en_G} {q : Option en_V → en_S → Prop}  {l0 l1 : en_V} {a0 : Int32} {σ : en_S} : en_J (X_X5_commandAt G q) 19 [l0, l1] [en_I a0] σ ↔ en_J (X_X5_commandAt G q) 23 [l0, l1] [en_I a0] σ := en_j1 d_X5_commandAt_19 rfl ⟨rfl, by decide⟩
theorem d_X5_commandAt_22 : decode cX5_commandAt 22 = .ok (.iconst (-1), 1) := by decide +kernel
theorem j_X5_commandAt_22 {G : en_G} {q : Option en_V → en_S → Prop}  {l0 l1 : en_V}  {σ : en_S} : en_J (X_X5_commandAt G q) 22 [l0, l1] [] σ ↔ en_J (X_X5_commandAt G q) 23 [l0, l1] [en_I (-1)] σ := ej_iconst d_X5_commandAt_22 (by decide +kernel)
theorem d_X5_commandAt_23 : decode cX5_commandAt 23 = .ok (.ireturn, 1) := by decide +kernel
theorem j_X5_commandAt_23 {G : en_G} {q : Option en_V → en_S → Prop}  {l0 l1 : en_V} {a0 : Int32} {σ : en_S} : en_J (X_X5_commandAt G q) 23 [l0, l1] [en_I a0] σ ↔ q (some (en_I a0)) σ := en_jr d_X5_commandAt_23 rfl ⟨fun h => h.2.2, fun h => ⟨rfl, Or.inl rfl, h⟩⟩
theorem wc_X5_commandAt : Jvm.Cond.code yX5_commandAt cX5_commandAt 2 (some .int) ∈ en_W := en_inW (List.mem_of_getElem? (i := 440) (by decide +kernel)) (by decide +kernel)
theorem wi_X5_commandAt : Jvm.Cond.instanceMethod yX5_commandAt ∈ en_W := en_inW (List.mem_of_getElem? (i := 438) (by decide +kernel)) (by decide +kernel)
theorem wx_X5_commandAt : Jvm.Cond.selects RX5 yX5_commandAt yX5_commandAt ∈ en_W := en_inW (List.mem_of_getElem? (i := 439) (by decide +kernel)) (by decide +kernel)
theorem jp_X5_commandAt {G : en_G} : ∀ as σ, C_X5_commandAt.1 as σ → (en_lc as).length ≤ 2 ∧ en_J (X_X5_commandAt G (fun r σ' => C_X5_commandAt.2 as σ r σ')) 0 (en_loc 2 as) [] σ := by
  rintro as σ ⟨a, c, k, rfl, hc⟩
  refine ⟨Nat.le_of_ble_eq_true rfl, ?_⟩
  show en_J _ 0 [en_R (some a), en_I k] [] σ
  simp only [j_X5_commandAt_0, j_X5_commandAt_1, j_X5_commandAt_4, j_X5_commandAt_5, j_X5_commandAt_6, j_X5_commandAt_9, j_X5_commandAt_10, j_X5_commandAt_13, j_X5_commandAt_14, j_X5_commandAt_17, j_X5_commandAt_18, j_X5_commandAt_19, j_X5_commandAt_22, j_X5_commandAt_23, en_c2I, en_c2R, en_c2U, en_c2D, Option.some.injEq, exists_eq_left', exists_eq_left, Option.map_some, Option.map_none, not_true_eq_false, false_implies, true_implies, and_true, true_and, reduceCtorEq, not_false_eq_true, hc.1, hc.2.1, hc.2.2]
  refine ⟨fun h => ⟨a, c, k, rfl, rfl, hc.2.1, ?_⟩, fun h0 => ⟨rfl, fun h => ⟨a, c, k, rfl, rfl, hc.2.1, ?_⟩, fun h1 => ⟨⟨5, rfl, en_vin (n := 5) (by decide) h0 h1⟩, a, c, k, rfl, rfl, hc.2.1, ?_⟩⟩⟩
  · rw [if_neg (fun z => Int32.not_le.mpr h z.1)]
  · rw [if_neg (fun z => Int32.not_lt.mpr (show (5 : Int32) ≤ k from by rw [show (5 : Int32) = nI 5 from by decide +kernel]; exact h) z.2)]
  · rw [if_pos ⟨Int32.not_lt.mp h0, Int32.not_le.mp (fun z => h1 (by rw [show (5 : Int32) = nI 5 from by decide +kernel] at z; exact z))⟩]
theorem ok_X5_commandAt {G : en_G}  : en_Ok G 1 yX5_commandAt cX5_commandAt 2 (some .int) C_X5_commandAt :=
  en_met (own := RX5) (fl := en_lk fl5) (nw := en_lk nw5) (aw := en_lk aw5) (dc := en_lk dc5) (ca := en_lk (ca_X5_commandAt G)) (rt := 1) (ini := false) (by decide +kernel) (Or.inr (Or.inl ⟨rfl, rfl⟩)) (fun h => by cases h) rfl (fun q => en_LkF fl5_ok nw5_ok aw5_ok dc5_ok) (fun idx q hq => by cases hq) jp_X5_commandAt
def C_X5_numberAt : en_C := (fun as σ => ∃ (a c : Nat) (k : Int32), as = [en_R (some a), en_I k] ∧ en_cl σ a = some 5 ∧ en_fr σ 501 a = some c ∧ en_al σ c = some (0, 5), fun as σ r σ' => ∃ (a c : Nat) (k : Int32), as = [en_R (some a), en_I k] ∧ (σ' = σ ∧ en_fr σ 501 a = some c ∧ r = some (en_I (if 0 ≤ k ∧ k < 5 then en_ai σ c k.toNatClampNeg else -1))))
theorem pr_X5_numberAt : ∀ as σ, C_X5_numberAt.1 as σ → ∃ b tl, as = en_R (some b) :: tl ∧ en_cl σ b = some 5 ∧ tl.length = 1 := fun as σ ⟨a, c, k, h1, h2⟩ => ⟨_, _, h1, h2.1, rfl⟩
def ca_X5_numberAt (G : en_G) : List (Nat × Nat × en_C) := []
def X_X5_numberAt (G : en_G) (q : Option en_V → en_S → Prop) : en_X := en_mk G cX5_numberAt (en_lk fl5) (en_lk nw5) (en_lk aw5) (en_lk dc5) (en_lk (ca_X5_numberAt G)) 1 false q
theorem d_X5_numberAt_0 : decode cX5_numberAt 0 = .ok (.iload_n 1, 1) := by decide +kernel
theorem j_X5_numberAt_0 {G : en_G} {q : Option en_V → en_S → Prop}  {l0 : en_V} {x1 : Int32} {σ : en_S} : en_J (X_X5_numberAt G q) 0 [l0, en_I x1] [] σ ↔ en_J (X_X5_numberAt G q) 1 [l0, en_I x1] [en_I x1] σ := en_j1 d_X5_numberAt_0 rfl rfl
theorem d_X5_numberAt_1 : decode cX5_numberAt 1 = .ok (.ifCond .lt 21, 3) := by decide +kernel
theorem j_X5_numberAt_1 {G : en_G} {q : Option en_V → en_S → Prop}  {l0 l1 : en_V} {a0 : Int32} {σ : en_S} : en_J (X_X5_numberAt G q) 1 [l0, l1] [en_I a0] σ ↔ (a0 < 0 → en_J (X_X5_numberAt G q) 22 [l0, l1] [] σ) ∧ (¬ (a0 < 0) → en_J (X_X5_numberAt G q) 4 [l0, l1] [] σ) := en_jb d_X5_numberAt_1 rfl ⟨rfl, by decide⟩
theorem d_X5_numberAt_4 : decode cX5_numberAt 4 = .ok (.iload_n 1, 1) := by decide +kernel
theorem j_X5_numberAt_4 {G : en_G} {q : Option en_V → en_S → Prop}  {l0 : en_V} {x1 : Int32} {σ : en_S} : en_J (X_X5_numberAt G q) 4 [l0, en_I x1] [] σ ↔ en_J (X_X5_numberAt G q) 5 [l0, en_I x1] [en_I x1] σ := en_j1 d_X5_numberAt_4 rfl rfl
theorem d_X5_numberAt_5 : decode cX5_numberAt 5 = .ok (.aload_n 0, 1) := by decide +kernel
theorem j_X5_numberAt_5 {G : en_G} {q : Option en_V → en_S → Prop}  {l1 : en_V} {a0 : Int32} {x0 : Option Nat} {σ : en_S} : en_J (X_X5_numberAt G q) 5 [en_R x0, l1] [en_I a0] σ ↔ en_J (X_X5_numberAt G q) 6 [en_R x0, l1] [en_R x0, en_I a0] σ := en_j1 d_X5_numberAt_5 rfl rfl
theorem d_X5_numberAt_6 : decode cX5_numberAt 6 = .ok (.getfield 15, 3) := by decide +kernel
theorem j_X5_numberAt_6 {G : en_G} {q : Option en_V → en_S → Prop}  {l0 l1 : en_V} {a0 : Option Nat} {a1 : Int32} {σ : en_S} : en_J (X_X5_numberAt G q) 6 [l0, l1] [en_R a0, en_I a1] σ ↔ ∃ a, a0 = some a ∧ en_cl σ a = some 5 ∧ en_J (X_X5_numberAt G q) 9 [l0, l1] [en_R (en_fr σ 501 a), en_I a1] σ := en_jg (st := fun o => [en_R o, en_I a1]) (st' := fun a => [en_R (en_fr σ 501 a), en_I a1]) (σ' := fun _ => σ) d_X5_numberAt_6 rfl (fun a => rfl) (fun a => ⟨fun h => h.2, fun h => ⟨rfl, h⟩⟩)
theorem d_X5_numberAt_9 : decode cX5_numberAt 9 = .ok (.arraylength, 1) := by decide +kernel
theorem j_X5_numberAt_9 {G : en_G} {q : Option en_V → en_S → Prop}  {l0 l1 : en_V} {a0 : Option Nat} {a1 : Int32} {σ : en_S} : en_J (X_X5_numberAt G q) 9 [l0, l1] [en_R a0, en_I a1] σ ↔ ∃ a, a0 = some a ∧ (en_al σ a).isSome = true ∧ en_J (X_X5_numberAt G q) 10 [l0, l1] [en_I (nI ((en_al σ a).getD (0, 0)).2), en_I a1] σ := ej_alen d_X5_numberAt_9 rfl
theorem d_X5_numberAt_10 : decode cX5_numberAt 10 = .ok (.if_icmp .ge 12, 3) := by decide +kernel
theorem j_X5_numberAt_10 {G : en_G} {q : Option en_V → en_S → Prop}  {l0 l1 : en_V} {a0 : Int32} {a1 : Int32} {σ : en_S} : en_J (X_X5_numberAt G q) 10 [l0, l1] [en_I a0, en_I a1] σ ↔ (a0 ≤ a1 → en_J (X_X5_numberAt G q) 22 [l0, l1] [] σ) ∧ (¬ (a0 ≤ a1) → en_J (X_X5_numberAt G q) 13 [l0, l1] [] σ) := en_jb d_X5_numberAt_10 rfl ⟨rfl, by decide⟩
theorem d_X5_numberAt_13 : decode cX5_numberAt 13 = .ok (.aload_n 0, 1) := by decide +kernel
theorem j_X5_numberAt_13 {G : en_G} {q : Option en_V → en_S → Prop}  {l1 : en_V} {x0 : Option Nat} {σ : en_S} : en_J (X_X5_numberAt G q) 13 [en_R x0, l1] [] σ ↔ en_J (X_X5_numberAt G q) 14 [en_R x0, l1] [en_R x0] σ := en_j1 d_X5_numberAt_13 rfl rfl
theorem d_X5_numberAt_14 : decode cX5_numberAt 14 = .ok (.getfield 15, 3) := by decide +kernel
theorem j_X5_numberAt_14 {G : en_G} {q : Option en_V → en_S → Prop}  {l0 l1 : en_V} {a0 : Option Nat} {σ : en_S} : en_J (X_X5_numberAt G q) 14 [l0, l1] [en_R a0] σ ↔ ∃ a, a0 = some a ∧ en_cl σ a = some 5 ∧ en_J (X_X5_numberAt G q) 17 [l0, l1] [en_R (en_fr σ 501 a)] σ := en_jg (st := fun o => [en_R o]) (st' := fun a => [en_R (en_fr σ 501 a)]) (σ' := fun _ => σ) d_X5_numberAt_14 rfl (fun a => rfl) (fun a => ⟨fun h => h.2, fun h => ⟨rfl, h⟩⟩)
theorem d_X5_numberAt_17 : decode cX5_numberAt 17 = .ok (.iload_n 1, 1) := by decide +kernel
theorem j_X5_numberAt_17 {G : en_G} {q : Option en_V → en_S → Prop}  {l0 : en_V} {a0 : Option Nat} {x1 : Int32} {σ : en_S} : en_J (X_X5_numberAt G q) 17 [l0, en_I x1] [en_R a0] σ ↔ en_J (X_X5_numberAt G q) 18 [l0, en_I x1] [en_I x1, en_R a0] σ := en_j1 d_X5_numberAt_17 rfl rfl
theorem d_X5_numberAt_18 : decode cX5_numberAt 18 = .ok (.iaload, 1) := by decide +kernel
theorem j_X5_numberAt_18 {G : en_G} {q : Option en_V → en_S → Prop}  {l0 l1 : en_V} {a0 : Int32} {a1 : Option Nat} {σ : en_S} : en_J (X_X5_numberAt G q) 18 [l0, l1] [en_I a0, en_R a1] σ ↔ ∃ a, a1 = some a ∧ (∃ k, en_al σ a = some (0, k) ∧ vp_in a0 k) ∧ en_J (X_X5_numberAt G q) 19 [l0, l1] [en_I (en_ai σ a a0.toNatClampNeg)] σ := ej_iaload d_X5_numberAt_18 rfl
theorem d_X5_numberAt_19 : decode cX5_numberAt 19 = .ok (.goto 4, 3) := by decide +kernel
theorem j_X5_numberAt_19 {G : en_G} {q : Option en_V → en_S → Prop}  {l0 l1 : en_V} {a0 : Int32} {σ : en_S} : en_J (X_X5_numberAt G q) 19 [l0, l1] [en_I a0] σ ↔ en_J (X_X5_numberAt G q) 23 [l0, l1] [en_I a0] σ := en_j1 d_X5_numberAt_19 rfl ⟨rfl, by decide⟩
theorem d_X5_numberAt_22 : decode cX5_numberAt 22 = .ok (.iconst (-1), 1) := by decide +kernel
theorem j_X5_numberAt_22 {G : en_G} {q : Option en_V → en_S → Prop}  {l0 l1 : en_V}  {σ : en_S} : en_J (X_X5_numberAt G q) 22 [l0, l1] [] σ ↔ en_J (X_X5_numberAt G q) 23 [l0, l1] [en_I (-1)] σ := ej_iconst d_X5_numberAt_22 (by decide +kernel)
theorem d_X5_numberAt_23 : decode cX5_numberAt 23 = .ok (.ireturn, 1) := by decide +kernel
theorem j_X5_numberAt_23 {G : en_G} {q : Option en_V → en_S → Prop}  {l0 l1 : en_V} {a0 : Int32} {σ : en_S} : en_J (X_X5_numberAt G q) 23 [l0, l1] [en_I a0] σ ↔ q (some (en_I a0)) σ := en_jr d_X5_numberAt_23 rfl ⟨fun h => h.2.2, fun h => ⟨rfl, Or.inl rfl, h⟩⟩
theorem wc_X5_numberAt : Jvm.Cond.code yX5_numberAt cX5_numberAt 2 (some .int) ∈ en_W := en_inW (List.mem_of_getElem? (i := 444) (by decide +kernel)) (by decide +kernel)
theorem wi_X5_numberAt : Jvm.Cond.instanceMethod yX5_numberAt ∈ en_W := en_inW (List.mem_of_getElem? (i := 442) (by decide +kernel)) (by decide +kernel)
theorem wx_X5_numberAt : Jvm.Cond.selects RX5 yX5_numberAt yX5_numberAt ∈ en_W := en_inW (List.mem_of_getElem? (i := 443) (by decide +kernel)) (by decide +kernel)
theorem jp_X5_numberAt {G : en_G} : ∀ as σ, C_X5_numberAt.1 as σ → (en_lc as).length ≤ 2 ∧ en_J (X_X5_numberAt G (fun r σ' => C_X5_numberAt.2 as σ r σ')) 0 (en_loc 2 as) [] σ := by
  rintro as σ ⟨a, c, k, rfl, hc⟩
  refine ⟨Nat.le_of_ble_eq_true rfl, ?_⟩
  show en_J _ 0 [en_R (some a), en_I k] [] σ
  simp only [j_X5_numberAt_0, j_X5_numberAt_1, j_X5_numberAt_4, j_X5_numberAt_5, j_X5_numberAt_6, j_X5_numberAt_9, j_X5_numberAt_10, j_X5_numberAt_13, j_X5_numberAt_14, j_X5_numberAt_17, j_X5_numberAt_18, j_X5_numberAt_19, j_X5_numberAt_22, j_X5_numberAt_23, en_c2I, en_c2R, en_c2U, en_c2D, Option.some.injEq, exists_eq_left', exists_eq_left, Option.map_some, Option.map_none, not_true_eq_false, false_implies, true_implies, and_true, true_and, reduceCtorEq, not_false_eq_true, hc.1, hc.2.1, hc.2.2]
  refine ⟨fun h => ⟨a, c, k, rfl, rfl, hc.2.1, ?_⟩, fun h0 => ⟨rfl, fun h => ⟨a, c, k, rfl, rfl, hc.2.1, ?_⟩, fun h1 => ⟨⟨5, rfl, en_vin (n := 5) (by decide) h0 h1⟩, a, c, k, rfl, rfl, hc.2.1, ?_⟩⟩⟩
  · rw [if_neg (fun z => Int32.not_le.mpr h z.1)]
  · rw [if_neg (fun z => Int32.not_lt.mpr (show (5 : Int32) ≤ k from by rw [show (5 : Int32) = nI 5 from by decide +kernel]; exact h) z.2)]
  · rw [if_pos ⟨Int32.not_lt.mp h0, Int32.not_le.mp (fun z => h1 (by rw [show (5 : Int32) = nI 5 from by decide +kernel] at z; exact z))⟩]
theorem ok_X5_numberAt {G : en_G}  : en_Ok G 1 yX5_numberAt cX5_numberAt 2 (some .int) C_X5_numberAt :=
  en_met (own := RX5) (fl := en_lk fl5) (nw := en_lk nw5) (aw := en_lk aw5) (dc := en_lk dc5) (ca := en_lk (ca_X5_numberAt G)) (rt := 1) (ini := false) (by decide +kernel) (Or.inr (Or.inl ⟨rfl, rfl⟩)) (fun h => by cases h) rfl (fun q => en_LkF fl5_ok nw5_ok aw5_ok dc5_ok) (fun idx q hq => by cases hq) jp_X5_numberAt
def C_X2_nodeOf : en_C := (fun as σ => ∃ (a c : Nat) (k : Int32), as = [en_R (some a), en_I k] ∧ en_cl σ a = some 2 ∧ en_fr σ 200 a = some c ∧ en_al σ c = some (4, 24), fun as σ r σ' => ∃ (a c : Nat) (k : Int32), as = [en_R (some a), en_I k] ∧ (σ' = σ ∧ en_fr σ 200 a = some c ∧ r = some (en_R (if 0 ≤ k ∧ k < 24 then en_ar σ c k.toNatClampNeg else none))))
theorem pr_X2_nodeOf : ∀ as σ, C_X2_nodeOf.1 as σ → ∃ b tl, as = en_R (some b) :: tl ∧ en_cl σ b = some 2 ∧ tl.length = 1 := fun as σ ⟨a, c, k, h1, h2⟩ => ⟨_, _, h1, h2.1, rfl⟩
def ca_X2_nodeOf (G : en_G) : List (Nat × Nat × en_C) := []
def X_X2_nodeOf (G : en_G) (q : Option en_V → en_S → Prop) : en_X := en_mk G cX2_nodeOf (en_lk fl2) (en_lk nw2) (en_lk aw2) (en_lk dc2) (en_lk (ca_X2_nodeOf G)) 3 false q
theorem d_X2_nodeOf_0 : decode cX2_nodeOf 0 = .ok (.iload_n 1, 1) := by decide +kernel
theorem j_X2_nodeOf_0 {G : en_G} {q : Option en_V → en_S → Prop}  {l0 : en_V} {x1 : Int32} {σ : en_S} : en_J (X_X2_nodeOf G q) 0 [l0, en_I x1] [] σ ↔ en_J (X_X2_nodeOf G q) 1 [l0, en_I x1] [en_I x1] σ := en_j1 d_X2_nodeOf_0 rfl rfl
theorem d_X2_nodeOf_1 : decode cX2_nodeOf 1 = .ok (.ifCond .lt 21, 3) := by decide +kernel
theorem j_X2_nodeOf_1 {G : en_G} {q : Option en_V → en_S → Prop}  {l0 l1 : en_V} {a0 : Int32} {σ : en_S} : en_J (X_X2_nodeOf G q) 1 [l0, l1] [en_I a0] σ ↔ (a0 < 0 → en_J (X_X2_nodeOf G q) 22 [l0, l1] [] σ) ∧ (¬ (a0 < 0) → en_J (X_X2_nodeOf G q) 4 [l0, l1] [] σ) := en_jb d_X2_nodeOf_1 rfl ⟨rfl, by decide⟩
theorem d_X2_nodeOf_4 : decode cX2_nodeOf 4 = .ok (.iload_n 1, 1) := by decide +kernel
theorem j_X2_nodeOf_4 {G : en_G} {q : Option en_V → en_S → Prop}  {l0 : en_V} {x1 : Int32} {σ : en_S} : en_J (X_X2_nodeOf G q) 4 [l0, en_I x1] [] σ ↔ en_J (X_X2_nodeOf G q) 5 [l0, en_I x1] [en_I x1] σ := en_j1 d_X2_nodeOf_4 rfl rfl
theorem d_X2_nodeOf_5 : decode cX2_nodeOf 5 = .ok (.aload_n 0, 1) := by decide +kernel
theorem j_X2_nodeOf_5 {G : en_G} {q : Option en_V → en_S → Prop}  {l1 : en_V} {a0 : Int32} {x0 : Option Nat} {σ : en_S} : en_J (X_X2_nodeOf G q) 5 [en_R x0, l1] [en_I a0] σ ↔ en_J (X_X2_nodeOf G q) 6 [en_R x0, l1] [en_R x0, en_I a0] σ := en_j1 d_X2_nodeOf_5 rfl rfl
theorem d_X2_nodeOf_6 : decode cX2_nodeOf 6 = .ok (.getfield 11, 3) := by decide +kernel
theorem j_X2_nodeOf_6 {G : en_G} {q : Option en_V → en_S → Prop}  {l0 l1 : en_V} {a0 : Option Nat} {a1 : Int32} {σ : en_S} : en_J (X_X2_nodeOf G q) 6 [l0, l1] [en_R a0, en_I a1] σ ↔ ∃ a, a0 = some a ∧ en_cl σ a = some 2 ∧ en_J (X_X2_nodeOf G q) 9 [l0, l1] [en_R (en_fr σ 200 a), en_I a1] σ := en_jg (st := fun o => [en_R o, en_I a1]) (st' := fun a => [en_R (en_fr σ 200 a), en_I a1]) (σ' := fun _ => σ) d_X2_nodeOf_6 rfl (fun a => rfl) (fun a => ⟨fun h => h.2, fun h => ⟨rfl, h⟩⟩)
theorem d_X2_nodeOf_9 : decode cX2_nodeOf 9 = .ok (.arraylength, 1) := by decide +kernel
theorem j_X2_nodeOf_9 {G : en_G} {q : Option en_V → en_S → Prop}  {l0 l1 : en_V} {a0 : Option Nat} {a1 : Int32} {σ : en_S} : en_J (X_X2_nodeOf G q) 9 [l0, l1] [en_R a0, en_I a1] σ ↔ ∃ a, a0 = some a ∧ (en_al σ a).isSome = true ∧ en_J (X_X2_nodeOf G q) 10 [l0, l1] [en_I (nI ((en_al σ a).getD (0, 0)).2), en_I a1] σ := ej_alen d_X2_nodeOf_9 rfl
theorem d_X2_nodeOf_10 : decode cX2_nodeOf 10 = .ok (.if_icmp .ge 12, 3) := by decide +kernel
theorem j_X2_nodeOf_10 {G : en_G} {q : Option en_V → en_S → Prop}  {l0 l1 : en_V} {a0 : Int32} {a1 : Int32} {σ : en_S} : en_J (X_X2_nodeOf G q) 10 [l0, l1] [en_I a0, en_I a1] σ ↔ (a0 ≤ a1 → en_J (X_X2_nodeOf G q) 22 [l0, l1] [] σ) ∧ (¬ (a0 ≤ a1) → en_J (X_X2_nodeOf G q) 13 [l0, l1] [] σ) := en_jb d_X2_nodeOf_10 rfl ⟨rfl, by decide⟩
theorem d_X2_nodeOf_13 : decode cX2_nodeOf 13 = .ok (.aload_n 0, 1) := by decide +kernel
theorem j_X2_nodeOf_13 {G : en_G} {q : Option en_V → en_S → Prop}  {l1 : en_V} {x0 : Option Nat} {σ : en_S} : en_J (X_X2_nodeOf G q) 13 [en_R x0, l1] [] σ ↔ en_J (X_X2_nodeOf G q) 14 [en_R x0, l1] [en_R x0] σ := en_j1 d_X2_nodeOf_13 rfl rfl
theorem d_X2_nodeOf_14 : decode cX2_nodeOf 14 = .ok (.getfield 11, 3) := by decide +kernel
theorem j_X2_nodeOf_14 {G : en_G} {q : Option en_V → en_S → Prop}  {l0 l1 : en_V} {a0 : Option Nat} {σ : en_S} : en_J (X_X2_nodeOf G q) 14 [l0, l1] [en_R a0] σ ↔ ∃ a, a0 = some a ∧ en_cl σ a = some 2 ∧ en_J (X_X2_nodeOf G q) 17 [l0, l1] [en_R (en_fr σ 200 a)] σ := en_jg (st := fun o => [en_R o]) (st' := fun a => [en_R (en_fr σ 200 a)]) (σ' := fun _ => σ) d_X2_nodeOf_14 rfl (fun a => rfl) (fun a => ⟨fun h => h.2, fun h => ⟨rfl, h⟩⟩)
theorem d_X2_nodeOf_17 : decode cX2_nodeOf 17 = .ok (.iload_n 1, 1) := by decide +kernel
theorem j_X2_nodeOf_17 {G : en_G} {q : Option en_V → en_S → Prop}  {l0 : en_V} {a0 : Option Nat} {x1 : Int32} {σ : en_S} : en_J (X_X2_nodeOf G q) 17 [l0, en_I x1] [en_R a0] σ ↔ en_J (X_X2_nodeOf G q) 18 [l0, en_I x1] [en_I x1, en_R a0] σ := en_j1 d_X2_nodeOf_17 rfl rfl
theorem d_X2_nodeOf_18 : decode cX2_nodeOf 18 = .ok (.aaload, 1) := by decide +kernel
theorem j_X2_nodeOf_18 {G : en_G} {q : Option en_V → en_S → Prop}  {l0 l1 : en_V} {a0 : Int32} {a1 : Option Nat} {σ : en_S} : en_J (X_X2_nodeOf G q) 18 [l0, l1] [en_I a0, en_R a1] σ ↔ ∃ a, a1 = some a ∧ (∃ t k, en_al σ a = some (t, k) ∧ 4 ≤ t ∧ vp_in a0 k) ∧ en_J (X_X2_nodeOf G q) 19 [l0, l1] [en_R (en_ar σ a a0.toNatClampNeg)] σ := ej_aaload d_X2_nodeOf_18
theorem d_X2_nodeOf_19 : decode cX2_nodeOf 19 = .ok (.goto 4, 3) := by decide +kernel
theorem j_X2_nodeOf_19 {G : en_G} {q : Option en_V → en_S → Prop}  {l0 l1 : en_V} {a0 : Option Nat} {σ : en_S} : en_J (X_X2_nodeOf G q) 19 [l0, l1] [en_R a0] σ ↔ en_J (X_X2_nodeOf G q) 23 [l0, l1] [en_R a0] σ := en_j1 d_X2_nodeOf_19 rfl ⟨rfl, by decide⟩
theorem d_X2_nodeOf_22 : decode cX2_nodeOf 22 = .ok (.aconst_null, 1) := by decide +kernel
theorem j_X2_nodeOf_22 {G : en_G} {q : Option en_V → en_S → Prop}  {l0 l1 : en_V}  {σ : en_S} : en_J (X_X2_nodeOf G q) 22 [l0, l1] [] σ ↔ en_J (X_X2_nodeOf G q) 23 [l0, l1] [en_R none] σ := en_j1 d_X2_nodeOf_22 rfl rfl
theorem d_X2_nodeOf_23 : decode cX2_nodeOf 23 = .ok (.areturn, 1) := by decide +kernel
theorem j_X2_nodeOf_23 {G : en_G} {q : Option en_V → en_S → Prop}  {l0 l1 : en_V} {a0 : Option Nat} {σ : en_S} : en_J (X_X2_nodeOf G q) 23 [l0, l1] [en_R a0] σ ↔ q (some (en_R a0)) σ := en_jr d_X2_nodeOf_23 rfl ⟨fun h => h.2.2, fun h => ⟨rfl, rfl, h⟩⟩
theorem wc_X2_nodeOf : Jvm.Cond.code yX2_nodeOf cX2_nodeOf 2 (some (.object "NodeStage$Node")) ∈ en_W := en_inW (List.mem_of_getElem? (i := 409) (by decide +kernel)) (by decide +kernel)
theorem wi_X2_nodeOf : Jvm.Cond.instanceMethod yX2_nodeOf ∈ en_W := en_inW (List.mem_of_getElem? (i := 407) (by decide +kernel)) (by decide +kernel)
theorem wx_X2_nodeOf : Jvm.Cond.selects RX2 yX2_nodeOf yX2_nodeOf ∈ en_W := en_inW (List.mem_of_getElem? (i := 408) (by decide +kernel)) (by decide +kernel)
theorem jp_X2_nodeOf {G : en_G} : ∀ as σ, C_X2_nodeOf.1 as σ → (en_lc as).length ≤ 2 ∧ en_J (X_X2_nodeOf G (fun r σ' => C_X2_nodeOf.2 as σ r σ')) 0 (en_loc 2 as) [] σ := by
  rintro as σ ⟨a, c, k, rfl, hc⟩
  refine ⟨Nat.le_of_ble_eq_true rfl, ?_⟩
  show en_J _ 0 [en_R (some a), en_I k] [] σ
  simp only [j_X2_nodeOf_0, j_X2_nodeOf_1, j_X2_nodeOf_4, j_X2_nodeOf_5, j_X2_nodeOf_6, j_X2_nodeOf_9, j_X2_nodeOf_10, j_X2_nodeOf_13, j_X2_nodeOf_14, j_X2_nodeOf_17, j_X2_nodeOf_18, j_X2_nodeOf_19, j_X2_nodeOf_22, j_X2_nodeOf_23, en_c2I, en_c2R, en_c2U, en_c2D, Option.some.injEq, exists_eq_left', exists_eq_left, Option.map_some, Option.map_none, not_true_eq_false, false_implies, true_implies, and_true, true_and, reduceCtorEq, not_false_eq_true, hc.1, hc.2.1, hc.2.2]
  refine ⟨fun h => ⟨a, c, k, rfl, rfl, hc.2.1, ?_⟩, fun h0 => ⟨rfl, fun h => ⟨a, c, k, rfl, rfl, hc.2.1, ?_⟩, fun h1 => ⟨⟨4, 24, rfl, by decide, en_vin (n := 24) (by decide) h0 h1⟩, a, c, k, rfl, rfl, hc.2.1, ?_⟩⟩⟩
  · rw [if_neg (fun z => Int32.not_le.mpr h z.1)]
  · rw [if_neg (fun z => Int32.not_lt.mpr (show (24 : Int32) ≤ k from by rw [show (24 : Int32) = nI 24 from by decide +kernel]; exact h) z.2)]
  · rw [if_pos ⟨Int32.not_lt.mp h0, Int32.not_le.mp (fun z => h1 (by rw [show (24 : Int32) = nI 24 from by decide +kernel] at z; exact z))⟩]
theorem ok_X2_nodeOf {G : en_G}  : en_Ok G 1 yX2_nodeOf cX2_nodeOf 2 (some (.object "NodeStage$Node")) C_X2_nodeOf :=
  en_met (own := RX2) (fl := en_lk fl2) (nw := en_lk nw2) (aw := en_lk aw2) (dc := en_lk dc2) (ca := en_lk (ca_X2_nodeOf G)) (rt := 3) (ini := false) (by decide +kernel) (Or.inr (Or.inr (Or.inr (Or.inl ⟨rfl, _, rfl⟩)))) (fun h => by cases h) rfl (fun q => en_LkF fl2_ok nw2_ok aw2_ok dc2_ok) (fun idx q hq => by cases hq) jp_X2_nodeOf
def C_X2_targetOf : en_C := (fun as σ => ∃ (a c : Nat) (k : Int32), as = [en_R (some a), en_I k] ∧ en_cl σ a = some 2 ∧ en_fr σ 201 a = some c ∧ en_al σ c = some (4, 24), fun as σ r σ' => ∃ (a c : Nat) (k : Int32), as = [en_R (some a), en_I k] ∧ (σ' = σ ∧ en_fr σ 201 a = some c ∧ r = some (en_R (if 0 ≤ k ∧ k < 24 then en_ar σ c k.toNatClampNeg else none))))
theorem pr_X2_targetOf : ∀ as σ, C_X2_targetOf.1 as σ → ∃ b tl, as = en_R (some b) :: tl ∧ en_cl σ b = some 2 ∧ tl.length = 1 := fun as σ ⟨a, c, k, h1, h2⟩ => ⟨_, _, h1, h2.1, rfl⟩
def ca_X2_targetOf (G : en_G) : List (Nat × Nat × en_C) := []
def X_X2_targetOf (G : en_G) (q : Option en_V → en_S → Prop) : en_X := en_mk G cX2_targetOf (en_lk fl2) (en_lk nw2) (en_lk aw2) (en_lk dc2) (en_lk (ca_X2_targetOf G)) 3 false q
theorem d_X2_targetOf_0 : decode cX2_targetOf 0 = .ok (.iload_n 1, 1) := by decide +kernel
theorem j_X2_targetOf_0 {G : en_G} {q : Option en_V → en_S → Prop}  {l0 : en_V} {x1 : Int32} {σ : en_S} : en_J (X_X2_targetOf G q) 0 [l0, en_I x1] [] σ ↔ en_J (X_X2_targetOf G q) 1 [l0, en_I x1] [en_I x1] σ := en_j1 d_X2_targetOf_0 rfl rfl
theorem d_X2_targetOf_1 : decode cX2_targetOf 1 = .ok (.ifCond .lt 21, 3) := by decide +kernel
theorem j_X2_targetOf_1 {G : en_G} {q : Option en_V → en_S → Prop}  {l0 l1 : en_V} {a0 : Int32} {σ : en_S} : en_J (X_X2_targetOf G q) 1 [l0, l1] [en_I a0] σ ↔ (a0 < 0 → en_J (X_X2_targetOf G q) 22 [l0, l1] [] σ) ∧ (¬ (a0 < 0) → en_J (X_X2_targetOf G q) 4 [l0, l1] [] σ) := en_jb d_X2_targetOf_1 rfl ⟨rfl, by decide⟩
theorem d_X2_targetOf_4 : decode cX2_targetOf 4 = .ok (.iload_n 1, 1) := by decide +kernel
theorem j_X2_targetOf_4 {G : en_G} {q : Option en_V → en_S → Prop}  {l0 : en_V} {x1 : Int32} {σ : en_S} : en_J (X_X2_targetOf G q) 4 [l0, en_I x1] [] σ ↔ en_J (X_X2_targetOf G q) 5 [l0, en_I x1] [en_I x1] σ := en_j1 d_X2_targetOf_4 rfl rfl
theorem d_X2_targetOf_5 : decode cX2_targetOf 5 = .ok (.aload_n 0, 1) := by decide +kernel
theorem j_X2_targetOf_5 {G : en_G} {q : Option en_V → en_S → Prop}  {l1 : en_V} {a0 : Int32} {x0 : Option Nat} {σ : en_S} : en_J (X_X2_targetOf G q) 5 [en_R x0, l1] [en_I a0] σ ↔ en_J (X_X2_targetOf G q) 6 [en_R x0, l1] [en_R x0, en_I a0] σ := en_j1 d_X2_targetOf_5 rfl rfl
theorem d_X2_targetOf_6 : decode cX2_targetOf 6 = .ok (.getfield 17, 3) := by decide +kernel
theorem j_X2_targetOf_6 {G : en_G} {q : Option en_V → en_S → Prop}  {l0 l1 : en_V} {a0 : Option Nat} {a1 : Int32} {σ : en_S} : en_J (X_X2_targetOf G q) 6 [l0, l1] [en_R a0, en_I a1] σ ↔ ∃ a, a0 = some a ∧ en_cl σ a = some 2 ∧ en_J (X_X2_targetOf G q) 9 [l0, l1] [en_R (en_fr σ 201 a), en_I a1] σ := en_jg (st := fun o => [en_R o, en_I a1]) (st' := fun a => [en_R (en_fr σ 201 a), en_I a1]) (σ' := fun _ => σ) d_X2_targetOf_6 rfl (fun a => rfl) (fun a => ⟨fun h => h.2, fun h => ⟨rfl, h⟩⟩)
theorem d_X2_targetOf_9 : decode cX2_targetOf 9 = .ok (.arraylength, 1) := by decide +kernel
theorem j_X2_targetOf_9 {G : en_G} {q : Option en_V → en_S → Prop}  {l0 l1 : en_V} {a0 : Option Nat} {a1 : Int32} {σ : en_S} : en_J (X_X2_targetOf G q) 9 [l0, l1] [en_R a0, en_I a1] σ ↔ ∃ a, a0 = some a ∧ (en_al σ a).isSome = true ∧ en_J (X_X2_targetOf G q) 10 [l0, l1] [en_I (nI ((en_al σ a).getD (0, 0)).2), en_I a1] σ := ej_alen d_X2_targetOf_9 rfl
theorem d_X2_targetOf_10 : decode cX2_targetOf 10 = .ok (.if_icmp .ge 12, 3) := by decide +kernel
theorem j_X2_targetOf_10 {G : en_G} {q : Option en_V → en_S → Prop}  {l0 l1 : en_V} {a0 : Int32} {a1 : Int32} {σ : en_S} : en_J (X_X2_targetOf G q) 10 [l0, l1] [en_I a0, en_I a1] σ ↔ (a0 ≤ a1 → en_J (X_X2_targetOf G q) 22 [l0, l1] [] σ) ∧ (¬ (a0 ≤ a1) → en_J (X_X2_targetOf G q) 13 [l0, l1] [] σ) := en_jb d_X2_targetOf_10 rfl ⟨rfl, by decide⟩
theorem d_X2_targetOf_13 : decode cX2_targetOf 13 = .ok (.aload_n 0, 1) := by decide +kernel
theorem j_X2_targetOf_13 {G : en_G} {q : Option en_V → en_S → Prop}  {l1 : en_V} {x0 : Option Nat} {σ : en_S} : en_J (X_X2_targetOf G q) 13 [en_R x0, l1] [] σ ↔ en_J (X_X2_targetOf G q) 14 [en_R x0, l1] [en_R x0] σ := en_j1 d_X2_targetOf_13 rfl rfl
theorem d_X2_targetOf_14 : decode cX2_targetOf 14 = .ok (.getfield 17, 3) := by decide +kernel
theorem j_X2_targetOf_14 {G : en_G} {q : Option en_V → en_S → Prop}  {l0 l1 : en_V} {a0 : Option Nat} {σ : en_S} : en_J (X_X2_targetOf G q) 14 [l0, l1] [en_R a0] σ ↔ ∃ a, a0 = some a ∧ en_cl σ a = some 2 ∧ en_J (X_X2_targetOf G q) 17 [l0, l1] [en_R (en_fr σ 201 a)] σ := en_jg (st := fun o => [en_R o]) (st' := fun a => [en_R (en_fr σ 201 a)]) (σ' := fun _ => σ) d_X2_targetOf_14 rfl (fun a => rfl) (fun a => ⟨fun h => h.2, fun h => ⟨rfl, h⟩⟩)
theorem d_X2_targetOf_17 : decode cX2_targetOf 17 = .ok (.iload_n 1, 1) := by decide +kernel
theorem j_X2_targetOf_17 {G : en_G} {q : Option en_V → en_S → Prop}  {l0 : en_V} {a0 : Option Nat} {x1 : Int32} {σ : en_S} : en_J (X_X2_targetOf G q) 17 [l0, en_I x1] [en_R a0] σ ↔ en_J (X_X2_targetOf G q) 18 [l0, en_I x1] [en_I x1, en_R a0] σ := en_j1 d_X2_targetOf_17 rfl rfl
theorem d_X2_targetOf_18 : decode cX2_targetOf 18 = .ok (.aaload, 1) := by decide +kernel
theorem j_X2_targetOf_18 {G : en_G} {q : Option en_V → en_S → Prop}  {l0 l1 : en_V} {a0 : Int32} {a1 : Option Nat} {σ : en_S} : en_J (X_X2_targetOf G q) 18 [l0, l1] [en_I a0, en_R a1] σ ↔ ∃ a, a1 = some a ∧ (∃ t k, en_al σ a = some (t, k) ∧ 4 ≤ t ∧ vp_in a0 k) ∧ en_J (X_X2_targetOf G q) 19 [l0, l1] [en_R (en_ar σ a a0.toNatClampNeg)] σ := ej_aaload d_X2_targetOf_18
theorem d_X2_targetOf_19 : decode cX2_targetOf 19 = .ok (.goto 4, 3) := by decide +kernel
theorem j_X2_targetOf_19 {G : en_G} {q : Option en_V → en_S → Prop}  {l0 l1 : en_V} {a0 : Option Nat} {σ : en_S} : en_J (X_X2_targetOf G q) 19 [l0, l1] [en_R a0] σ ↔ en_J (X_X2_targetOf G q) 23 [l0, l1] [en_R a0] σ := en_j1 d_X2_targetOf_19 rfl ⟨rfl, by decide⟩
theorem d_X2_targetOf_22 : decode cX2_targetOf 22 = .ok (.aconst_null, 1) := by decide +kernel
theorem j_X2_targetOf_22 {G : en_G} {q : Option en_V → en_S → Prop}  {l0 l1 : en_V}  {σ : en_S} : en_J (X_X2_targetOf G q) 22 [l0, l1] [] σ ↔ en_J (X_X2_targetOf G q) 23 [l0, l1] [en_R none] σ := en_j1 d_X2_targetOf_22 rfl rfl
theorem d_X2_targetOf_23 : decode cX2_targetOf 23 = .ok (.areturn, 1) := by decide +kernel
theorem j_X2_targetOf_23 {G : en_G} {q : Option en_V → en_S → Prop}  {l0 l1 : en_V} {a0 : Option Nat} {σ : en_S} : en_J (X_X2_targetOf G q) 23 [l0, l1] [en_R a0] σ ↔ q (some (en_R a0)) σ := en_jr d_X2_targetOf_23 rfl ⟨fun h => h.2.2, fun h => ⟨rfl, rfl, h⟩⟩
theorem wc_X2_targetOf : Jvm.Cond.code yX2_targetOf cX2_targetOf 2 (some (.object "NodeStage$Node")) ∈ en_W := en_inW (List.mem_of_getElem? (i := 418) (by decide +kernel)) (by decide +kernel)
theorem wi_X2_targetOf : Jvm.Cond.instanceMethod yX2_targetOf ∈ en_W := en_inW (List.mem_of_getElem? (i := 416) (by decide +kernel)) (by decide +kernel)
theorem wx_X2_targetOf : Jvm.Cond.selects RX2 yX2_targetOf yX2_targetOf ∈ en_W := en_inW (List.mem_of_getElem? (i := 417) (by decide +kernel)) (by decide +kernel)
theorem jp_X2_targetOf {G : en_G} : ∀ as σ, C_X2_targetOf.1 as σ → (en_lc as).length ≤ 2 ∧ en_J (X_X2_targetOf G (fun r σ' => C_X2_targetOf.2 as σ r σ')) 0 (en_loc 2 as) [] σ := by
  rintro as σ ⟨a, c, k, rfl, hc⟩
  refine ⟨Nat.le_of_ble_eq_true rfl, ?_⟩
  show en_J _ 0 [en_R (some a), en_I k] [] σ
  simp only [j_X2_targetOf_0, j_X2_targetOf_1, j_X2_targetOf_4, j_X2_targetOf_5, j_X2_targetOf_6, j_X2_targetOf_9, j_X2_targetOf_10, j_X2_targetOf_13, j_X2_targetOf_14, j_X2_targetOf_17, j_X2_targetOf_18, j_X2_targetOf_19, j_X2_targetOf_22, j_X2_targetOf_23, en_c2I, en_c2R, en_c2U, en_c2D, Option.some.injEq, exists_eq_left', exists_eq_left, Option.map_some, Option.map_none, not_true_eq_false, false_implies, true_implies, and_true, true_and, reduceCtorEq, not_false_eq_true, hc.1, hc.2.1, hc.2.2]
  refine ⟨fun h => ⟨a, c, k, rfl, rfl, hc.2.1, ?_⟩, fun h0 => ⟨rfl, fun h => ⟨a, c, k, rfl, rfl, hc.2.1, ?_⟩, fun h1 => ⟨⟨4, 24, rfl, by decide, en_vin (n := 24) (by decide) h0 h1⟩, a, c, k, rfl, rfl, hc.2.1, ?_⟩⟩⟩
  · rw [if_neg (fun z => Int32.not_le.mpr h z.1)]
  · rw [if_neg (fun z => Int32.not_lt.mpr (show (24 : Int32) ≤ k from by rw [show (24 : Int32) = nI 24 from by decide +kernel]; exact h) z.2)]
  · rw [if_pos ⟨Int32.not_lt.mp h0, Int32.not_le.mp (fun z => h1 (by rw [show (24 : Int32) = nI 24 from by decide +kernel] at z; exact z))⟩]
theorem ok_X2_targetOf {G : en_G}  : en_Ok G 1 yX2_targetOf cX2_targetOf 2 (some (.object "NodeStage$Node")) C_X2_targetOf :=
  en_met (own := RX2) (fl := en_lk fl2) (nw := en_lk nw2) (aw := en_lk aw2) (dc := en_lk dc2) (ca := en_lk (ca_X2_targetOf G)) (rt := 3) (ini := false) (by decide +kernel) (Or.inr (Or.inr (Or.inr (Or.inl ⟨rfl, _, rfl⟩)))) (fun h => by cases h) rfl (fun q => en_LkF fl2_ok nw2_ok aw2_ok dc2_ok) (fun idx q hq => by cases hq) jp_X2_targetOf
