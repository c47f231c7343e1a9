/-! THE REFERENCE's reading methods -/
theorem i24 (p k : Nat) : (24 : Int32) * nI p + nI k = nI (24 * p + k) := by rw [show (24 : Int32) = nI 24 from by decide +kernel, pk_mul, nI_add]
theorem lt3 {k : Int32} : ¬ 3 ≤ k ↔ k ≤ 2 := by
  rw [Int32.not_le, Int32.lt_iff_toInt_lt, Int32.le_iff_toInt_le, show (3 : Int32).toInt = 3 from rfl, show (2 : Int32).toInt = 2 from rfl]
  omega
def P_X7_thrown (G : en_G)  (g : (Nat)) (as : List en_V) (σ : en_S) : Prop := (rs_ok (g) σ) ∧ as = [en_R (some (g))]
def C_X7_thrown (G : en_G)  : en_C := en_gh (P_X7_thrown G) (fun g as σ v σ' => σ' = σ ∧ v = some (en_I (en_fi σ 700 (g))))
theorem pr_X7_thrown {G : en_G}  : ∀ as σ, (C_X7_thrown G).1 as σ → ∃ b tl, as = en_R (some b) :: tl ∧ en_cl σ b = some 7 ∧ tl.length = 0 := fun as σ ⟨g, hp, h2⟩ => ⟨_, _, h2, rs_c hp, rfl⟩
theorem cu_X7_thrown {G : en_G}  {m : Nat} {σ : en_S} (hp : rs_ok m σ) : en_Us (C_X7_thrown G) [en_R (some m)] σ (fun v σ' => σ' = σ ∧ v = some (en_I (en_fi σ 700 m))) := ⟨⟨(m), hp, rfl⟩, fun v σ' q => q (m) ⟨hp, rfl⟩⟩
def ca_X7_thrown (G : en_G) : List (Nat × Nat × en_C) := []
def X_X7_thrown (G : en_G) (q : Option en_V → en_S → Prop) : en_X := en_mk G cX7_thrown (en_lk fl7) (en_lk nw7) (en_lk aw7) (en_lk dc7) (en_lk (ca_X7_thrown G)) 1 false q
theorem d_X7_thrown_0 : decode cX7_thrown 0 = .ok (.aload_n 0, 1) := by decide +kernel
theorem j_X7_thrown_0 {G : en_G} {q : Option en_V → en_S → Prop}  {x0 : Option Nat} {σ : en_S} : en_J (X_X7_thrown G q) 0 [en_R x0] [] σ ↔ en_J (X_X7_thrown G q) 1 [en_R x0] [en_R x0] σ := en_j1 d_X7_thrown_0 rfl rfl
theorem d_X7_thrown_1 : decode cX7_thrown 1 = .ok (.getfield 145, 3) := by decide +kernel
theorem j_X7_thrown_1 {G : en_G} {q : Option en_V → en_S → Prop}  {l0 : en_V} {a0 : Option Nat} {σ : en_S} : en_J (X_X7_thrown G q) 1 [l0] [en_R a0] σ ↔ ∃ a, a0 = some a ∧ en_cl σ a = some 7 ∧ en_J (X_X7_thrown G q) 4 [l0] [en_I (en_fi σ 700 a)] σ := en_jg (st := fun o => [en_R o]) (st' := fun a => [en_I (en_fi σ 700 a)]) (σ' := fun _ => σ) d_X7_thrown_1 rfl (fun a => rfl) (fun a => ⟨fun h => h.2, fun h => ⟨rfl, h⟩⟩)
theorem d_X7_thrown_4 : decode cX7_thrown 4 = .ok (.ireturn, 1) := by decide +kernel
theorem j_X7_thrown_4 {G : en_G} {q : Option en_V → en_S → Prop}  {l0 : en_V} {a0 : Int32} {σ : en_S} : en_J (X_X7_thrown G q) 4 [l0] [en_I a0] σ ↔ q (some (en_I a0)) σ := en_jr d_X7_thrown_4 rfl ⟨fun h => h.2.2, fun h => ⟨rfl, Or.inl rfl, h⟩⟩
theorem wc_X7_thrown : Jvm.Cond.code yX7_thrown cX7_thrown 1 (some .int) ∈ en_W := en_inW (List.mem_of_getElem? (i := 859) (by decide +kernel)) (by decide +kernel)
theorem wi_X7_thrown : Jvm.Cond.instanceMethod yX7_thrown ∈ en_W := en_inW (List.mem_of_getElem? (i := 857) (by decide +kernel)) (by decide +kernel)
theorem wx_X7_thrown : Jvm.Cond.selects RX7 yX7_thrown yX7_thrown ∈ en_W := en_inW (List.mem_of_getElem? (i := 858) (by decide +kernel)) (by decide +kernel)
theorem jl_X7_thrown {G : en_G}  {m : Nat} {q : Option en_V → en_S → Prop} {σ : en_S} (hp : rs_ok m σ) (hq : ∀ v σ', (σ' = σ ∧ v = some (en_I (en_fi σ 700 m))) → q v σ') : en_J (X_X7_thrown G q) 0 [en_R (some m)] [] σ := by
  have hS := hp
  simp only [j_X7_thrown_0, j_X7_thrown_1, j_X7_thrown_4, en_c2I, en_c2R, en_c2U, en_c2D, Option.some.injEq, exists_eq_left', exists_eq_left, Option.map_some, Option.map_none, not_true_eq_false, false_implies, true_implies, and_true, true_and, reduceCtorEq, not_false_eq_true, rs_c hS]
  exact hq _ _ ⟨rfl, rfl⟩
theorem jp_X7_thrown {G : en_G}  : ∀ as σ, (C_X7_thrown G).1 as σ → (en_lc as).length ≤ 1 ∧ en_J (X_X7_thrown G (fun r σ' => (C_X7_thrown G).2 as σ r σ')) 0 (en_loc 1 as) [] σ := en_ghJ (fun g as σ h => by
  obtain ⟨hp, h2⟩ := h
  subst h2
  exact ⟨Nat.le_of_ble_eq_true rfl, jl_X7_thrown hp (fun _ _ h => h)⟩)
theorem ok_X7_thrown {G : en_G}  : en_Ok G 1 yX7_thrown cX7_thrown 1 (some .int) (C_X7_thrown G) :=
  en_met (own := RX7) (fl := en_lk fl7) (nw := en_lk nw7) (aw := en_lk aw7) (dc := en_lk dc7) (ca := en_lk (ca_X7_thrown G)) (rt := 1) (ini := false) (by decide +kernel) (Or.inr (Or.inl ⟨rfl, rfl⟩)) (fun h => by cases h) rfl (fun q => en_LkF fl7_ok nw7_ok aw7_ok dc7_ok) (fun idx q hq => by cases hq) jp_X7_thrown
def P_X7_in (G : en_G)  (g : (Int32) × (Int32) × (Int32)) (as : List en_V) (σ : en_S) : Prop := (True) ∧ as = [en_I (g.1), en_I (g.2.1), en_I (g.2.2)]
def C_X7_in (G : en_G)  : en_C := en_gh (P_X7_in G) (fun g as σ v σ' => σ' = σ ∧ v = some (en_I (st_b (decide ((g.2.1) ≤ (g.1) ∧ (g.1) ≤ (g.2.2))))))
theorem pr_X7_in {G : en_G}  : ∀ as σ, (C_X7_in G).1 as σ → as.length = 3 := fun as σ ⟨g, h1, h2⟩ => by rw [h2]; rfl
theorem cu_X7_in {G : en_G}  {x : Int32} {lo : Int32} {hi : Int32} {σ : en_S} (hp : True) : en_Us (C_X7_in G) [en_I x, en_I lo, en_I hi] σ (fun v σ' => σ' = σ ∧ v = some (en_I (st_b (decide (lo ≤ x ∧ x ≤ hi))))) := ⟨⟨(x, lo, hi), hp, rfl⟩, fun v σ' q => q (x, lo, hi) ⟨hp, rfl⟩⟩
def ca_X7_in (G : en_G) : List (Nat × Nat × en_C) := []
def X_X7_in (G : en_G) (q : Option en_V → en_S → Prop) : en_X := en_mk G cX7_in (en_lk fl7) (en_lk nw7) (en_lk aw7) (en_lk dc7) (en_lk (ca_X7_in G)) 2 false q
theorem d_X7_in_0 : decode cX7_in 0 = .ok (.iload_n 0, 1) := by decide +kernel
theorem j_X7_in_0 {G : en_G} {q : Option en_V → en_S → Prop}  {l1 l2 : en_V} {x0 : Int32} {σ : en_S} : en_J (X_X7_in G q) 0 [en_I x0, l1, l2] [] σ ↔ en_J (X_X7_in G q) 1 [en_I x0, l1, l2] [en_I x0] σ := en_j1 d_X7_in_0 rfl rfl
theorem d_X7_in_1 : decode cX7_in 1 = .ok (.iload_n 1, 1) := by decide +kernel
theorem j_X7_in_1 {G : en_G} {q : Option en_V → en_S → Prop}  {l0 l2 : en_V} {a0 : Int32} {x1 : Int32} {σ : en_S} : en_J (X_X7_in G q) 1 [l0, en_I x1, l2] [en_I a0] σ ↔ en_J (X_X7_in G q) 2 [l0, en_I x1, l2] [en_I x1, en_I a0] σ := en_j1 d_X7_in_1 rfl rfl
theorem d_X7_in_2 : decode cX7_in 2 = .ok (.if_icmp .lt 12, 3) := by decide +kernel
theorem j_X7_in_2 {G : en_G} {q : Option en_V → en_S → Prop}  {l0 l1 l2 : en_V} {a0 : Int32} {a1 : Int32} {σ : en_S} : en_J (X_X7_in G q) 2 [l0, l1, l2] [en_I a0, en_I a1] σ ↔ (a1 < a0 → en_J (X_X7_in G q) 14 [l0, l1, l2] [] σ) ∧ (¬ (a1 < a0) → en_J (X_X7_in G q) 5 [l0, l1, l2] [] σ) := en_jb d_X7_in_2 rfl ⟨rfl, by decide⟩
theorem d_X7_in_5 : decode cX7_in 5 = .ok (.iload_n 0, 1) := by decide +kernel
theorem j_X7_in_5 {G : en_G} {q : Option en_V → en_S → Prop}  {l1 l2 : en_V} {x0 : Int32} {σ : en_S} : en_J (X_X7_in G q) 5 [en_I x0, l1, l2] [] σ ↔ en_J (X_X7_in G q) 6 [en_I x0, l1, l2] [en_I x0] σ := en_j1 d_X7_in_5 rfl rfl
theorem d_X7_in_6 : decode cX7_in 6 = .ok (.iload_n 2, 1) := by decide +kernel
theorem j_X7_in_6 {G : en_G} {q : Option en_V → en_S → Prop}  {l0 l1 : en_V} {a0 : Int32} {x2 : Int32} {σ : en_S} : en_J (X_X7_in G q) 6 [l0, l1, en_I x2] [en_I a0] σ ↔ en_J (X_X7_in G q) 7 [l0, l1, en_I x2] [en_I x2, en_I a0] σ := en_j1 d_X7_in_6 rfl rfl
theorem d_X7_in_7 : decode cX7_in 7 = .ok (.if_icmp .gt 7, 3) := by decide +kernel
theorem j_X7_in_7 {G : en_G} {q : Option en_V → en_S → Prop}  {l0 l1 l2 : en_V} {a0 : Int32} {a1 : Int32} {σ : en_S} : en_J (X_X7_in G q) 7 [l0, l1, l2] [en_I a0, en_I a1] σ ↔ (a0 < a1 → en_J (X_X7_in G q) 14 [l0, l1, l2] [] σ) ∧ (¬ (a0 < a1) → en_J (X_X7_in G q) 10 [l0, l1, l2] [] σ) := en_jb d_X7_in_7 rfl ⟨rfl, by decide⟩
theorem d_X7_in_10 : decode cX7_in 10 = .ok (.iconst 1, 1) := by decide +kernel
theorem j_X7_in_10 {G : en_G} {q : Option en_V → en_S → Prop}  {l0 l1 l2 : en_V}  {σ : en_S} : en_J (X_X7_in G q) 10 [l0, l1, l2] [] σ ↔ en_J (X_X7_in G q) 11 [l0, l1, l2] [en_I 1] σ := ej_iconst d_X7_in_10 (by decide +kernel)
theorem d_X7_in_11 : decode cX7_in 11 = .ok (.goto 4, 3) := by decide +kernel
theorem j_X7_in_11 {G : en_G} {q : Option en_V → en_S → Prop}  {l0 l1 l2 : en_V} {a0 : Int32} {σ : en_S} : en_J (X_X7_in G q) 11 [l0, l1, l2] [en_I a0] σ ↔ en_J (X_X7_in G q) 15 [l0, l1, l2] [en_I a0] σ := en_j1 d_X7_in_11 rfl ⟨rfl, by decide⟩
theorem d_X7_in_14 : decode cX7_in 14 = .ok (.iconst 0, 1) := by decide +kernel
theorem j_X7_in_14 {G : en_G} {q : Option en_V → en_S → Prop}  {l0 l1 l2 : en_V}  {σ : en_S} : en_J (X_X7_in G q) 14 [l0, l1, l2] [] σ ↔ en_J (X_X7_in G q) 15 [l0, l1, l2] [en_I 0] σ := ej_iconst d_X7_in_14 (by decide +kernel)
theorem d_X7_in_15 : decode cX7_in 15 = .ok (.ireturn, 1) := by decide +kernel
theorem j_X7_in_15 {G : en_G} {q : Option en_V → en_S → Prop}  {l0 l1 l2 : en_V} {a0 : Int32} {σ : en_S} : en_J (X_X7_in G q) 15 [l0, l1, l2] [en_I a0] σ ↔ (a0 = 0 ∨ a0 = 1) ∧ q (some (en_I a0)) σ := en_jr d_X7_in_15 rfl ⟨fun h => ⟨h.2.1.elim (fun z => absurd (show (2 : Nat) = 1 from z) (by decide)) (fun z => z.2), h.2.2⟩, fun h => ⟨rfl, Or.inr ⟨rfl, h.1⟩, h.2⟩⟩
theorem wc_X7_in : Jvm.Cond.code yX7_in cX7_in 3 (some .boolean) ∈ en_W := en_inW (List.mem_of_getElem? (i := 866) (by decide +kernel)) (by decide +kernel)
theorem ws_X7_in : Jvm.Cond.static yX7_in ∈ en_W := en_inW (List.mem_of_getElem? (i := 865) (by decide +kernel)) (by decide +kernel)
theorem jl_X7_in {G : en_G}  {x : Int32} {lo : Int32} {hi : Int32} {q : Option en_V → en_S → Prop} {σ : en_S} (hp : True) (hq : ∀ v σ', (σ' = σ ∧ v = some (en_I (st_b (decide (lo ≤ x ∧ x ≤ hi))))) → q v σ') : en_J (X_X7_in G q) 0 [en_I x, en_I lo, en_I hi] [] σ := by
  simp only [j_X7_in_0, j_X7_in_1, j_X7_in_2, j_X7_in_5, j_X7_in_6, j_X7_in_7, j_X7_in_10, j_X7_in_11, j_X7_in_14, j_X7_in_15, en_c2I, en_c2R, en_c2U, en_c2D, Option.some.injEq, exists_eq_left', exists_eq_left, Option.map_some, Option.map_none, not_true_eq_false, false_implies, true_implies, and_true, true_and, reduceCtorEq, not_false_eq_true, true_or, or_true]
  refine ⟨fun h => hq _ _ ⟨rfl, ?_⟩, fun h => ⟨fun h2 => hq _ _ ⟨rfl, ?_⟩, fun h2 => hq _ _ ⟨rfl, ?_⟩⟩⟩
  · rw [decide_eq_false (fun z => Int32.not_le.mpr h z.1)]; rfl
  · rw [decide_eq_false (fun z => Int32.not_le.mpr h2 z.2)]; rfl
  · rw [decide_eq_true ⟨Int32.not_lt.mp h, Int32.not_lt.mp h2⟩]; rfl
theorem jp_X7_in {G : en_G}  : ∀ as σ, (C_X7_in G).1 as σ → (en_lc as).length ≤ 3 ∧ en_J (X_X7_in G (fun r σ' => (C_X7_in G).2 as σ r σ')) 0 (en_loc 3 as) [] σ := en_ghJ (fun g as σ h => by
  obtain ⟨hp, h2⟩ := h
  subst h2
  exact ⟨Nat.le_of_ble_eq_true rfl, jl_X7_in hp (fun _ _ h => h)⟩)
theorem ok_X7_in {G : en_G}  : en_Ok G 1 yX7_in cX7_in 3 (some .boolean) (C_X7_in G) :=
  en_met (own := RX7) (fl := en_lk fl7) (nw := en_lk nw7) (aw := en_lk aw7) (dc := en_lk dc7) (ca := en_lk (ca_X7_in G)) (rt := 2) (ini := false) (by decide +kernel) (Or.inr (Or.inr (Or.inl ⟨rfl, rfl⟩))) (fun h => by cases h) rfl (fun q => en_LkF fl7_ok nw7_ok aw7_ok dc7_ok) (fun idx q hq => by cases hq) jp_X7_in
def P_X7_isNode (G : en_G)  (g : (Nat) × (st_A) × (Int32)) (as : List en_V) (σ : en_S) : Prop := (RX (g.1) (g.2.1) σ) ∧ as = [en_R (some (g.1)), en_I (g.2.2)]
def C_X7_isNode (G : en_G)  : en_C := en_gh (P_X7_isNode G) (fun g as σ v σ' => σ' = σ ∧ v = some (en_I (st_b (st_ix (tr_N (sa_T (g.2.1))) (g.2.2)).isSome)))
theorem pr_X7_isNode {G : en_G}  : ∀ as σ, (C_X7_isNode G).1 as σ → ∃ b tl, as = en_R (some b) :: tl ∧ en_cl σ b = some 7 ∧ tl.length = 1 := fun as σ ⟨g, hp, h2⟩ => ⟨_, _, h2, rs_c hp.1, rfl⟩
theorem cu_X7_isNode {G : en_G}  {m : Nat} {A : st_A} {k : Int32} {σ : en_S} (hp : RX m A σ) : en_Us (C_X7_isNode G) [en_R (some m), en_I k] σ (fun v σ' => σ' = σ ∧ v = some (en_I (st_b (st_ix (tr_N (sa_T A)) k).isSome))) := ⟨⟨(m, A, k), hp, rfl⟩, fun v σ' q => q (m, A, k) ⟨hp, rfl⟩⟩
def ca_X7_isNode (G : en_G) : List (Nat × Nat × en_C) := []
def X_X7_isNode (G : en_G) (q : Option en_V → en_S → Prop) : en_X := en_mk G cX7_isNode (en_lk fl7) (en_lk nw7) (en_lk aw7) (en_lk dc7) (en_lk (ca_X7_isNode G)) 2 false q
theorem d_X7_isNode_0 : decode cX7_isNode 0 = .ok (.iload_n 1, 1) := by decide +kernel
theorem j_X7_isNode_0 {G : en_G} {q : Option en_V → en_S → Prop}  {l0 : en_V} {x1 : Int32} {σ : en_S} : en_J (X_X7_isNode G q) 0 [l0, en_I x1] [] σ ↔ en_J (X_X7_isNode G q) 1 [l0, en_I x1] [en_I x1] σ := en_j1 d_X7_isNode_0 rfl rfl
theorem d_X7_isNode_1 : decode cX7_isNode 1 = .ok (.ifCond .lt 15, 3) := by decide +kernel
theorem j_X7_isNode_1 {G : en_G} {q : Option en_V → en_S → Prop}  {l0 l1 : en_V} {a0 : Int32} {σ : en_S} : en_J (X_X7_isNode G q) 1 [l0, l1] [en_I a0] σ ↔ (a0 < 0 → en_J (X_X7_isNode G q) 16 [l0, l1] [] σ) ∧ (¬ (a0 < 0) → en_J (X_X7_isNode G q) 4 [l0, l1] [] σ) := en_jb d_X7_isNode_1 rfl ⟨rfl, by decide⟩
theorem d_X7_isNode_4 : decode cX7_isNode 4 = .ok (.iload_n 1, 1) := by decide +kernel
theorem j_X7_isNode_4 {G : en_G} {q : Option en_V → en_S → Prop}  {l0 : en_V} {x1 : Int32} {σ : en_S} : en_J (X_X7_isNode G q) 4 [l0, en_I x1] [] σ ↔ en_J (X_X7_isNode G q) 5 [l0, en_I x1] [en_I x1] σ := en_j1 d_X7_isNode_4 rfl rfl
theorem d_X7_isNode_5 : decode cX7_isNode 5 = .ok (.aload_n 0, 1) := by decide +kernel
theorem j_X7_isNode_5 {G : en_G} {q : Option en_V → en_S → Prop}  {l1 : en_V} {a0 : Int32} {x0 : Option Nat} {σ : en_S} : en_J (X_X7_isNode G q) 5 [en_R x0, l1] [en_I a0] σ ↔ en_J (X_X7_isNode G q) 6 [en_R x0, l1] [en_R x0, en_I a0] σ := en_j1 d_X7_isNode_5 rfl rfl
theorem d_X7_isNode_6 : decode cX7_isNode 6 = .ok (.getfield 7, 3) := by decide +kernel
theorem j_X7_isNode_6 {G : en_G} {q : Option en_V → en_S → Prop}  {l0 l1 : en_V} {a0 : Option Nat} {a1 : Int32} {σ : en_S} : en_J (X_X7_isNode G q) 6 [l0, l1] [en_R a0, en_I a1] σ ↔ ∃ a, a0 = some a ∧ en_cl σ a = some 7 ∧ en_J (X_X7_isNode G q) 9 [l0, l1] [en_I (en_fi σ 701 a), en_I a1] σ := en_jg (st := fun o => [en_R o, en_I a1]) (st' := fun a => [en_I (en_fi σ 701 a), en_I a1]) (σ' := fun _ => σ) d_X7_isNode_6 rfl (fun a => rfl) (fun a => ⟨fun h => h.2, fun h => ⟨rfl, h⟩⟩)
theorem d_X7_isNode_9 : decode cX7_isNode 9 = .ok (.if_icmp .ge 7, 3) := by decide +kernel
theorem j_X7_isNode_9 {G : en_G} {q : Option en_V → en_S → Prop}  {l0 l1 : en_V} {a0 : Int32} {a1 : Int32} {σ : en_S} : en_J (X_X7_isNode G q) 9 [l0, l1] [en_I a0, en_I a1] σ ↔ (a0 ≤ a1 → en_J (X_X7_isNode G q) 16 [l0, l1] [] σ) ∧ (¬ (a0 ≤ a1) → en_J (X_X7_isNode G q) 12 [l0, l1] [] σ) := en_jb d_X7_isNode_9 rfl ⟨rfl, by decide⟩
theorem d_X7_isNode_12 : decode cX7_isNode 12 = .ok (.iconst 1, 1) := by decide +kernel
theorem j_X7_isNode_12 {G : en_G} {q : Option en_V → en_S → Prop}  {l0 l1 : en_V}  {σ : en_S} : en_J (X_X7_isNode G q) 12 [l0, l1] [] σ ↔ en_J (X_X7_isNode G q) 13 [l0, l1] [en_I 1] σ := ej_iconst d_X7_isNode_12 (by decide +kernel)
theorem d_X7_isNode_13 : decode cX7_isNode 13 = .ok (.goto 4, 3) := by decide +kernel
theorem j_X7_isNode_13 {G : en_G} {q : Option en_V → en_S → Prop}  {l0 l1 : en_V} {a0 : Int32} {σ : en_S} : en_J (X_X7_isNode G q) 13 [l0, l1] [en_I a0] σ ↔ en_J (X_X7_isNode G q) 17 [l0, l1] [en_I a0] σ := en_j1 d_X7_isNode_13 rfl ⟨rfl, by decide⟩
theorem d_X7_isNode_16 : decode cX7_isNode 16 = .ok (.iconst 0, 1) := by decide +kernel
theorem j_X7_isNode_16 {G : en_G} {q : Option en_V → en_S → Prop}  {l0 l1 : en_V}  {σ : en_S} : en_J (X_X7_isNode G q) 16 [l0, l1] [] σ ↔ en_J (X_X7_isNode G q) 17 [l0, l1] [en_I 0] σ := ej_iconst d_X7_isNode_16 (by decide +kernel)
theorem d_X7_isNode_17 : decode cX7_isNode 17 = .ok (.ireturn, 1) := by decide +kernel
theorem j_X7_isNode_17 {G : en_G} {q : Option en_V → en_S → Prop}  {l0 l1 : en_V} {a0 : Int32} {σ : en_S} : en_J (X_X7_isNode G q) 17 [l0, l1] [en_I a0] σ ↔ (a0 = 0 ∨ a0 = 1) ∧ q (some (en_I a0)) σ := en_jr d_X7_isNode_17 rfl ⟨fun h => ⟨h.2.1.elim (fun z => absurd (show (2 : Nat) = 1 from z) (by decide)) (fun z => z.2), h.2.2⟩, fun h => ⟨rfl, Or.inr ⟨rfl, h.1⟩, h.2⟩⟩
theorem wc_X7_isNode : Jvm.Cond.code yX7_isNode cX7_isNode 2 (some .boolean) ∈ en_W := en_inW (List.mem_of_getElem? (i := 878) (by decide +kernel)) (by decide +kernel)
theorem wi_X7_isNode : Jvm.Cond.instanceMethod yX7_isNode ∈ en_W := en_inW (List.mem_of_getElem? (i := 877) (by decide +kernel)) (by decide +kernel)
theorem wx_X7_isNode : Jvm.Cond.selects RX7 yX7_isNode yX7_isNode ∈ en_W := en_inW (List.mem_of_getElem? (i := 14) (by decide +kernel)) (by decide +kernel)
theorem jl_X7_isNode {G : en_G}  {m : Nat} {A : st_A} {k : Int32} {q : Option en_V → en_S → Prop} {σ : en_S} (hp : RX m A σ) (hq : ∀ v σ', (σ' = σ ∧ v = some (en_I (st_b (st_ix (tr_N (sa_T A)) k).isSome))) → q v σ') : en_J (X_X7_isNode G q) 0 [en_R (some m), en_I k] [] σ := by
  have hS := hp.1
  have o1 := hp.2.2.2.2.2.2.2.2.1.1
  have hN := hp.2.2.2.2.2.2.2.2.2.1.1.2
  cases hx : st_ix (tr_N (sa_T A)) k with
  | none =>
    have hno := st_ix_none hx
    rw [hx] at hq
    simp only [j_X7_isNode_0, j_X7_isNode_1, j_X7_isNode_4, j_X7_isNode_5, j_X7_isNode_6, j_X7_isNode_9, j_X7_isNode_12, j_X7_isNode_13, j_X7_isNode_16, j_X7_isNode_17, en_c2I, en_c2R, en_c2U, en_c2D, Option.some.injEq, exists_eq_left', exists_eq_left, Option.map_some, Option.map_none, not_true_eq_false, false_implies, true_implies, and_true, true_and, reduceCtorEq, not_false_eq_true, rs_c hS, o1, true_or]
    exact ⟨fun _ => hq _ _ ⟨rfl, rfl⟩, fun h1 => ⟨fun _ => hq _ _ ⟨rfl, rfl⟩, fun h2 => absurd ⟨Int32.not_lt.mp h1, Int32.not_le.mp h2⟩ hno⟩⟩
  | some j =>
    obtain ⟨hj, rfl⟩ := st_ix_some (by omega) hx
    have n0 : ¬ nI j < 0 := nI_pos (by omega)
    have n1 : ¬ nI (tr_N (sa_T A)) ≤ nI j := nI_ge hj (by omega)
    rw [hx] at hq
    simp only [j_X7_isNode_0, j_X7_isNode_1, j_X7_isNode_4, j_X7_isNode_5, j_X7_isNode_6, j_X7_isNode_9, j_X7_isNode_12, j_X7_isNode_13, j_X7_isNode_16, j_X7_isNode_17, en_c2I, en_c2R, en_c2U, en_c2D, Option.some.injEq, exists_eq_left', exists_eq_left, Option.map_some, Option.map_none, not_true_eq_false, false_implies, true_implies, and_true, true_and, reduceCtorEq, not_false_eq_true, rs_c hS, o1, n0, n1, or_true]
    exact hq _ _ ⟨rfl, rfl⟩
theorem jp_X7_isNode {G : en_G}  : ∀ as σ, (C_X7_isNode G).1 as σ → (en_lc as).length ≤ 2 ∧ en_J (X_X7_isNode G (fun r σ' => (C_X7_isNode G).2 as σ r σ')) 0 (en_loc 2 as) [] σ := en_ghJ (fun g as σ h => by
  obtain ⟨hp, h2⟩ := h
  subst h2
  exact ⟨Nat.le_of_ble_eq_true rfl, jl_X7_isNode hp (fun _ _ h => h)⟩)
theorem ok_X7_isNode {G : en_G}  : en_Ok G 1 yX7_isNode cX7_isNode 2 (some .boolean) (C_X7_isNode G) :=
  en_met (own := RX7) (fl := en_lk fl7) (nw := en_lk nw7) (aw := en_lk aw7) (dc := en_lk dc7) (ca := en_lk (ca_X7_isNode G)) (rt := 2) (ini := false) (by decide +kernel) (Or.inr (Or.inr (Or.inl ⟨rfl, rfl⟩))) (fun h => by cases h) rfl (fun q => en_LkF fl7_ok nw7_ok aw7_ok dc7_ok) (fun idx q hq => by cases hq) jp_X7_isNode
def P_X7_isElement (G : en_G)  (g : (Nat) × (st_A) × (Int32)) (as : List en_V) (σ : en_S) : Prop := (RX (g.1) (g.2.1) σ) ∧ as = [en_R (some (g.1)), en_I (g.2.2)]
def C_X7_isElement (G : en_G)  : en_C := en_gh (P_X7_isElement G) (fun g as σ v σ' => σ' = σ ∧ v = some (en_I (st_b (((st_ix (tr_N (sa_T (g.2.1))) (g.2.2)).map (fun n => decide (tr_kd (sa_T (g.2.1)) n ≤ 2))).getD false))))
theorem pr_X7_isElement {G : en_G}  : ∀ as σ, (C_X7_isElement G).1 as σ → ∃ b tl, as = en_R (some b) :: tl ∧ en_cl σ b = some 7 ∧ tl.length = 1 := fun as σ ⟨g, hp, h2⟩ => ⟨_, _, h2, rs_c hp.1, rfl⟩
theorem cu_X7_isElement {G : en_G}  {m : Nat} {A : st_A} {k : Int32} {σ : en_S} (hp : RX m A σ) : en_Us (C_X7_isElement G) [en_R (some m), en_I k] σ (fun v σ' => σ' = σ ∧ v = some (en_I (st_b (((st_ix (tr_N (sa_T A)) k).map (fun n => decide (tr_kd (sa_T A) n ≤ 2))).getD false)))) := ⟨⟨(m, A, k), hp, rfl⟩, fun v σ' q => q (m, A, k) ⟨hp, rfl⟩⟩
def ca_X7_isElement (G : en_G) : List (Nat × Nat × en_C) := [(148, 9, (C_X7_isNode G))]
def X_X7_isElement (G : en_G) (q : Option en_V → en_S → Prop) : en_X := en_mk G cX7_isElement (en_lk fl7) (en_lk nw7) (en_lk aw7) (en_lk dc7) (en_lk (ca_X7_isElement G)) 2 false q
theorem d_X7_isElement_0 : decode cX7_isElement 0 = .ok (.aload_n 0, 1) := by decide +kernel
theorem j_X7_isElement_0 {G : en_G} {q : Option en_V → en_S → Prop}  {l1 : en_V} {x0 : Option Nat} {σ : en_S} : en_J (X_X7_isElement G q) 0 [en_R x0, l1] [] σ ↔ en_J (X_X7_isElement G q) 1 [en_R x0, l1] [en_R x0] σ := en_j1 d_X7_isElement_0 rfl rfl
theorem d_X7_isElement_1 : decode cX7_isElement 1 = .ok (.iload_n 1, 1) := by decide +kernel
theorem j_X7_isElement_1 {G : en_G} {q : Option en_V → en_S → Prop}  {l0 : en_V} {a0 : Option Nat} {x1 : Int32} {σ : en_S} : en_J (X_X7_isElement G q) 1 [l0, en_I x1] [en_R a0] σ ↔ en_J (X_X7_isElement G q) 2 [l0, en_I x1] [en_I x1, en_R a0] σ := en_j1 d_X7_isElement_1 rfl rfl
theorem d_X7_isElement_2 : decode cX7_isElement 2 = .ok (.invokevirtual 148, 3) := by decide +kernel
theorem j_X7_isElement_2 {G : en_G} {q : Option en_V → en_S → Prop}  {l0 l1 : en_V} {a0 : Int32} {a1 : Option Nat} {σ : en_S} : en_J (X_X7_isElement G q) 2 [l0, l1] [en_I a0, en_R a1] σ ↔ (C_X7_isNode G).1 [en_R a1, en_I a0] σ ∧ ∀ (r : Option en_V) (σ' : en_S), (C_X7_isNode G).2 [en_R a1, en_I a0] σ r σ' → en_J (X_X7_isElement G q) 5 [l0, l1] (r.toList ++ []) σ' := en_jkC (C := (C_X7_isNode G)) (n' := 2) (k := 1) (idx := 148) d_X7_isElement_2 rfl rfl (by decide) (Nat.le_of_ble_eq_true rfl) (Nat.le_of_ble_eq_true rfl)
theorem d_X7_isElement_5 : decode cX7_isElement 5 = .ok (.ifCond .eq 17, 3) := by decide +kernel
theorem j_X7_isElement_5 {G : en_G} {q : Option en_V → en_S → Prop}  {l0 l1 : en_V} {a0 : Int32} {σ : en_S} : en_J (X_X7_isElement G q) 5 [l0, l1] [en_I a0] σ ↔ (a0 = 0 → en_J (X_X7_isElement G q) 22 [l0, l1] [] σ) ∧ (¬ (a0 = 0) → en_J (X_X7_isElement G q) 8 [l0, l1] [] σ) := en_jb d_X7_isElement_5 rfl ⟨rfl, by decide⟩
theorem d_X7_isElement_8 : decode cX7_isElement 8 = .ok (.aload_n 0, 1) := by decide +kernel
theorem j_X7_isElement_8 {G : en_G} {q : Option en_V → en_S → Prop}  {l1 : en_V} {x0 : Option Nat} {σ : en_S} : en_J (X_X7_isElement G q) 8 [en_R x0, l1] [] σ ↔ en_J (X_X7_isElement G q) 9 [en_R x0, l1] [en_R x0] σ := en_j1 d_X7_isElement_8 rfl rfl
theorem d_X7_isElement_9 : decode cX7_isElement 9 = .ok (.getfield 13, 3) := by decide +kernel
theorem j_X7_isElement_9 {G : en_G} {q : Option en_V → en_S → Prop}  {l0 l1 : en_V} {a0 : Option Nat} {σ : en_S} : en_J (X_X7_isElement G q) 9 [l0, l1] [en_R a0] σ ↔ ∃ a, a0 = some a ∧ en_cl σ a = some 7 ∧ en_J (X_X7_isElement G q) 12 [l0, l1] [en_R (en_fr σ 702 a)] σ := en_jg (st := fun o => [en_R o]) (st' := fun a => [en_R (en_fr σ 702 a)]) (σ' := fun _ => σ) d_X7_isElement_9 rfl (fun a => rfl) (fun a => ⟨fun h => h.2, fun h => ⟨rfl, h⟩⟩)
theorem d_X7_isElement_12 : decode cX7_isElement 12 = .ok (.iload_n 1, 1) := by decide +kernel
theorem j_X7_isElement_12 {G : en_G} {q : Option en_V → en_S → Prop}  {l0 : en_V} {a0 : Option Nat} {x1 : Int32} {σ : en_S} : en_J (X_X7_isElement G q) 12 [l0, en_I x1] [en_R a0] σ ↔ en_J (X_X7_isElement G q) 13 [l0, en_I x1] [en_I x1, en_R a0] σ := en_j1 d_X7_isElement_12 rfl rfl
theorem d_X7_isElement_13 : decode cX7_isElement 13 = .ok (.iaload, 1) := by decide +kernel
theorem j_X7_isElement_13 {G : en_G} {q : Option en_V → en_S → Prop}  {l0 l1 : en_V} {a0 : Int32} {a1 : Option Nat} {σ : en_S} : en_J (X_X7_isElement G q) 13 [l0, l1] [en_I a0, en_R a1] σ ↔ ∃ a, a1 = some a ∧ (∃ k, en_al σ a = some (0, k) ∧ vp_in a0 k) ∧ en_J (X_X7_isElement G q) 14 [l0, l1] [en_I (en_ai σ a a0.toNatClampNeg)] σ := ej_iaload d_X7_isElement_13 rfl
theorem d_X7_isElement_14 : decode cX7_isElement 14 = .ok (.iconst 3, 1) := by decide +kernel
theorem j_X7_isElement_14 {G : en_G} {q : Option en_V → en_S → Prop}  {l0 l1 : en_V} {a0 : Int32} {σ : en_S} : en_J (X_X7_isElement G q) 14 [l0, l1] [en_I a0] σ ↔ en_J (X_X7_isElement G q) 15 [l0, l1] [en_I 3, en_I a0] σ := ej_iconst d_X7_isElement_14 (by decide +kernel)
theorem d_X7_isElement_15 : decode cX7_isElement 15 = .ok (.if_icmp .ge 7, 3) := by decide +kernel
theorem j_X7_isElement_15 {G : en_G} {q : Option en_V → en_S → Prop}  {l0 l1 : en_V} {a0 : Int32} {a1 : Int32} {σ : en_S} : en_J (X_X7_isElement G q) 15 [l0, l1] [en_I a0, en_I a1] σ ↔ (a0 ≤ a1 → en_J (X_X7_isElement G q) 22 [l0, l1] [] σ) ∧ (¬ (a0 ≤ a1) → en_J (X_X7_isElement G q) 18 [l0, l1] [] σ) := en_jb d_X7_isElement_15 rfl ⟨rfl, by decide⟩
theorem d_X7_isElement_18 : decode cX7_isElement 18 = .ok (.iconst 1, 1) := by decide +kernel
theorem j_X7_isElement_18 {G : en_G} {q : Option en_V → en_S → Prop}  {l0 l1 : en_V}  {σ : en_S} : en_J (X_X7_isElement G q) 18 [l0, l1] [] σ ↔ en_J (X_X7_isElement G q) 19 [l0, l1] [en_I 1] σ := ej_iconst d_X7_isElement_18 (by decide +kernel)
theorem d_X7_isElement_19 : decode cX7_isElement 19 = .ok (.goto 4, 3) := by decide +kernel
theorem j_X7_isElement_19 {G : en_G} {q : Option en_V → en_S → Prop}  {l0 l1 : en_V} {a0 : Int32} {σ : en_S} : en_J (X_X7_isElement G q) 19 [l0, l1] [en_I a0] σ ↔ en_J (X_X7_isElement G q) 23 [l0, l1] [en_I a0] σ := en_j1 d_X7_isElement_19 rfl ⟨rfl, by decide⟩
theorem d_X7_isElement_22 : decode cX7_isElement 22 = .ok (.iconst 0, 1) := by decide +kernel
theorem j_X7_isElement_22 {G : en_G} {q : Option en_V → en_S → Prop}  {l0 l1 : en_V}  {σ : en_S} : en_J (X_X7_isElement G q) 22 [l0, l1] [] σ ↔ en_J (X_X7_isElement G q) 23 [l0, l1] [en_I 0] σ := ej_iconst d_X7_isElement_22 (by decide +kernel)
theorem d_X7_isElement_23 : decode cX7_isElement 23 = .ok (.ireturn, 1) := by decide +kernel
theorem j_X7_isElement_23 {G : en_G} {q : Option en_V → en_S → Prop}  {l0 l1 : en_V} {a0 : Int32} {σ : en_S} : en_J (X_X7_isElement G q) 23 [l0, l1] [en_I a0] σ ↔ (a0 = 0 ∨ a0 = 1) ∧ q (some (en_I a0)) σ := en_jr d_X7_isElement_23 rfl ⟨fun h => ⟨h.2.1.elim (fun z => absurd (show (2 : Nat) = 1 from z) (by decide)) (fun z => z.2), h.2.2⟩, fun h => ⟨rfl, Or.inr ⟨rfl, h.1⟩, h.2⟩⟩
theorem wc_X7_isElement : Jvm.Cond.code yX7_isElement cX7_isElement 2 (some .boolean) ∈ en_W := en_inW (List.mem_of_getElem? (i := 890) (by decide +kernel)) (by decide +kernel)
theorem wi_X7_isElement : Jvm.Cond.instanceMethod yX7_isElement ∈ en_W := en_inW (List.mem_of_getElem? (i := 889) (by decide +kernel)) (by decide +kernel)
theorem wx_X7_isElement : Jvm.Cond.selects RX7 yX7_isElement yX7_isElement ∈ en_W := en_inW (List.mem_of_getElem? (i := 16) (by decide +kernel)) (by decide +kernel)
theorem jl_X7_isElement {G : en_G}  {m : Nat} {A : st_A} {k : Int32} {q : Option en_V → en_S → Prop} {σ : en_S} (hp : RX m A σ) (hq : ∀ v σ', (σ' = σ ∧ v = some (en_I (st_b (((st_ix (tr_N (sa_T A)) k).map (fun n => decide (tr_kd (sa_T A) n ≤ 2))).getD false)))) → q v σ') : en_J (X_X7_isElement G q) 0 [en_R (some m), en_I k] [] σ := by
  have hS := hp.1
  have hN := hp.2.2.2.2.2.2.2.2.2.1.1.2
  have i1 : ¬ (1 : Int32) = 0 := by decide
  simp only [j_X7_isElement_0, j_X7_isElement_1, j_X7_isElement_2, j_X7_isElement_5, j_X7_isElement_8, j_X7_isElement_9, j_X7_isElement_12, j_X7_isElement_13, j_X7_isElement_14, j_X7_isElement_15, j_X7_isElement_18, j_X7_isElement_19, j_X7_isElement_22, j_X7_isElement_23, en_c2I, en_c2R, en_c2U, en_c2D, Option.some.injEq, exists_eq_left', exists_eq_left, Option.map_some, Option.map_none, not_true_eq_false, false_implies, true_implies, and_true, true_and, reduceCtorEq, not_false_eq_true]
  refine en_use (cu_X7_isNode hp) ?_
  rintro v σ' ⟨rfl, rfl⟩
  cases hx : st_ix (tr_N (sa_T A)) k with
  | none =>
    rw [hx] at hq
    simp only [Option.toList, List.cons_append, List.nil_append, j_X7_isElement_0, j_X7_isElement_1, j_X7_isElement_2, j_X7_isElement_5, j_X7_isElement_8, j_X7_isElement_9, j_X7_isElement_12, j_X7_isElement_13, j_X7_isElement_14, j_X7_isElement_15, j_X7_isElement_18, j_X7_isElement_19, j_X7_isElement_22, j_X7_isElement_23, en_c2I, en_c2R, en_c2U, en_c2D, Option.some.injEq, exists_eq_left', exists_eq_left, Option.map_some, Option.map_none, not_true_eq_false, false_implies, true_implies, and_true, true_and, reduceCtorEq, not_false_eq_true, Option.isSome_none, st_bf, true_or]
    exact hq _ _ ⟨rfl, rfl⟩
  | some j =>
    obtain ⟨hj, rfl⟩ := st_ix_some (by omega) hx
    rw [hx] at hq
    have n3 : vp_in (nI j) 24 := vp_in_nI (by omega) (by decide)
    have n4 : (nI j).toNatClampNeg = j := nI_clamp (by omega)
    have r1 := (hp.2.1 j hj).1
    by_cases hk : tr_kd (sa_T A) j ≤ 2
    · have h3 := lt3.mpr hk
      simp only [Option.toList, List.cons_append, List.nil_append, j_X7_isElement_0, j_X7_isElement_1, j_X7_isElement_2, j_X7_isElement_5, j_X7_isElement_8, j_X7_isElement_9, j_X7_isElement_12, j_X7_isElement_13, j_X7_isElement_14, j_X7_isElement_15, j_X7_isElement_18, j_X7_isElement_19, j_X7_isElement_22, j_X7_isElement_23, en_c2I, en_c2R, en_c2U, en_c2D, Option.some.injEq, exists_eq_left', exists_eq_left, Option.map_some, Option.map_none, not_true_eq_false, false_implies, true_implies, and_true, true_and, reduceCtorEq, not_false_eq_true, rs_c hS, rs_f702 hS, rs_a1 hS, Prod.mk.injEq, Option.isSome_some, st_bt, i1, n3, n4, r1, h3, or_true]
      exact hq _ _ ⟨rfl, by simp [hk, st_b]⟩
    · have h3 : 3 ≤ tr_kd (sa_T A) j := Classical.byContradiction (fun z => hk (lt3.mp z))
      simp only [Option.toList, List.cons_append, List.nil_append, j_X7_isElement_0, j_X7_isElement_1, j_X7_isElement_2, j_X7_isElement_5, j_X7_isElement_8, j_X7_isElement_9, j_X7_isElement_12, j_X7_isElement_13, j_X7_isElement_14, j_X7_isElement_15, j_X7_isElement_18, j_X7_isElement_19, j_X7_isElement_22, j_X7_isElement_23, en_c2I, en_c2R, en_c2U, en_c2D, Option.some.injEq, exists_eq_left', exists_eq_left, Option.map_some, Option.map_none, not_true_eq_false, false_implies, true_implies, and_true, true_and, reduceCtorEq, not_false_eq_true, rs_c hS, rs_f702 hS, rs_a1 hS, Prod.mk.injEq, Option.isSome_some, st_bt, i1, n3, n4, r1, h3, true_or]
      exact hq _ _ ⟨rfl, by simp [hk, st_b]⟩
theorem jp_X7_isElement {G : en_G}  : ∀ as σ, (C_X7_isElement G).1 as σ → (en_lc as).length ≤ 2 ∧ en_J (X_X7_isElement G (fun r σ' => (C_X7_isElement G).2 as σ r σ')) 0 (en_loc 2 as) [] σ := en_ghJ (fun g as σ h => by
  obtain ⟨hp, h2⟩ := h
  subst h2
  exact ⟨Nat.le_of_ble_eq_true rfl, jl_X7_isElement hp (fun _ _ h => h)⟩)
theorem wl_X7_isElement_148 : Jvm.Cond.methodLink RX7 148 yX7_isNode ∈ en_W := en_inW (List.mem_of_getElem? (i := 875) (by decide +kernel)) (by decide +kernel)
theorem ok_X7_isElement {G : en_G}  : en_Ok G 2 yX7_isElement cX7_isElement 2 (some .boolean) (C_X7_isElement G) :=
  en_met (own := RX7) (fl := en_lk fl7) (nw := en_lk nw7) (aw := en_lk aw7) (dc := en_lk dc7) (ca := en_lk (ca_X7_isElement G)) (rt := 2) (ini := false) (by decide +kernel) (Or.inr (Or.inr (Or.inl ⟨rfl, rfl⟩))) (fun h => by cases h) rfl (fun q => en_LkF fl7_ok nw7_ok aw7_ok dc7_ok) (by
    intro idx q hq
    have hm := en_lk_mem hq
    simp only [ca_X7_isElement, List.mem_cons, Prod.mk.injEq, List.not_mem_nil, or_false] at hm
    rcases hm with ⟨rfl, rfl⟩
    · exact en_clV (r := (RX7, TX7, 53)) 7 1 ok_X7_isNode (by decide) (by decide) rfl rfl pr_X7_isNode wl_X7_isElement_148 wi_X7_isNode wx_X7_isNode wz_7 wc_X7_isNode ⟨by decide +kernel, by decide +kernel, by decide +kernel⟩) jp_X7_isElement
def P_X7_up (G : en_G)  (g : (Nat) × (st_A) × (Nat)) (as : List en_V) (σ : en_S) : Prop := (RX (g.1) (g.2.1) σ ∧ (g.2.2) < tr_N (sa_T (g.2.1))) ∧ as = [en_R (some (g.1)), en_I (nI (g.2.2))]
def C_X7_up (G : en_G)  : en_C := en_gh (P_X7_up G) (fun g as σ v σ' => σ' = σ ∧ v = some (en_I (st_num (tr_up (sa_T (g.2.1)) (g.2.2)))))
theorem pr_X7_up {G : en_G}  : ∀ as σ, (C_X7_up G).1 as σ → ∃ b tl, as = en_R (some b) :: tl ∧ en_cl σ b = some 7 ∧ tl.length = 1 := fun as σ ⟨g, hp, h2⟩ => ⟨_, _, h2, rs_c hp.1.1, rfl⟩
theorem cu_X7_up {G : en_G}  {m : Nat} {A : st_A} {n : Nat} {σ : en_S} (hp : RX m A σ ∧ n < tr_N (sa_T A)) : en_Us (C_X7_up G) [en_R (some m), en_I (nI n)] σ (fun v σ' => σ' = σ ∧ v = some (en_I (st_num (tr_up (sa_T A) n)))) := ⟨⟨(m, A, n), hp, rfl⟩, fun v σ' q => q (m, A, n) ⟨hp, rfl⟩⟩
def ca_X7_up (G : en_G) : List (Nat × Nat × en_C) := []
def X_X7_up (G : en_G) (q : Option en_V → en_S → Prop) : en_X := en_mk G cX7_up (en_lk fl7) (en_lk nw7) (en_lk aw7) (en_lk dc7) (en_lk (ca_X7_up G)) 1 false q
theorem d_X7_up_0 : decode cX7_up 0 = .ok (.aload_n 0, 1) := by decide +kernel
theorem j_X7_up_0 {G : en_G} {q : Option en_V → en_S → Prop}  {l1 : en_V} {x0 : Option Nat} {σ : en_S} : en_J (X_X7_up G q) 0 [en_R x0, l1] [] σ ↔ en_J (X_X7_up G q) 1 [en_R x0, l1] [en_R x0] σ := en_j1 d_X7_up_0 rfl rfl
theorem d_X7_up_1 : decode cX7_up 1 = .ok (.getfield 13, 3) := by decide +kernel
theorem j_X7_up_1 {G : en_G} {q : Option en_V → en_S → Prop}  {l0 l1 : en_V} {a0 : Option Nat} {σ : en_S} : en_J (X_X7_up G q) 1 [l0, l1] [en_R a0] σ ↔ ∃ a, a0 = some a ∧ en_cl σ a = some 7 ∧ en_J (X_X7_up G q) 4 [l0, l1] [en_R (en_fr σ 702 a)] σ := en_jg (st := fun o => [en_R o]) (st' := fun a => [en_R (en_fr σ 702 a)]) (σ' := fun _ => σ) d_X7_up_1 rfl (fun a => rfl) (fun a => ⟨fun h => h.2, fun h => ⟨rfl, h⟩⟩)
theorem d_X7_up_4 : decode cX7_up 4 = .ok (.iload_n 1, 1) := by decide +kernel
theorem j_X7_up_4 {G : en_G} {q : Option en_V → en_S → Prop}  {l0 : en_V} {a0 : Option Nat} {x1 : Int32} {σ : en_S} : en_J (X_X7_up G q) 4 [l0, en_I x1] [en_R a0] σ ↔ en_J (X_X7_up G q) 5 [l0, en_I x1] [en_I x1, en_R a0] σ := en_j1 d_X7_up_4 rfl rfl
theorem d_X7_up_5 : decode cX7_up 5 = .ok (.iaload, 1) := by decide +kernel
theorem j_X7_up_5 {G : en_G} {q : Option en_V → en_S → Prop}  {l0 l1 : en_V} {a0 : Int32} {a1 : Option Nat} {σ : en_S} : en_J (X_X7_up G q) 5 [l0, l1] [en_I a0, en_R a1] σ ↔ ∃ a, a1 = some a ∧ (∃ k, en_al σ a = some (0, k) ∧ vp_in a0 k) ∧ en_J (X_X7_up G q) 6 [l0, l1] [en_I (en_ai σ a a0.toNatClampNeg)] σ := ej_iaload d_X7_up_5 rfl
theorem d_X7_up_6 : decode cX7_up 6 = .ok (.iconst 4, 1) := by decide +kernel
theorem j_X7_up_6 {G : en_G} {q : Option en_V → en_S → Prop}  {l0 l1 : en_V} {a0 : Int32} {σ : en_S} : en_J (X_X7_up G q) 6 [l0, l1] [en_I a0] σ ↔ en_J (X_X7_up G q) 7 [l0, l1] [en_I 4, en_I a0] σ := ej_iconst d_X7_up_6 (by decide +kernel)
theorem d_X7_up_7 : decode cX7_up 7 = .ok (.if_icmp .ne 12, 3) := by decide +kernel
theorem j_X7_up_7 {G : en_G} {q : Option en_V → en_S → Prop}  {l0 l1 : en_V} {a0 : Int32} {a1 : Int32} {σ : en_S} : en_J (X_X7_up G q) 7 [l0, l1] [en_I a0, en_I a1] σ ↔ (¬ a1 = a0 → en_J (X_X7_up G q) 19 [l0, l1] [] σ) ∧ (¬ (¬ a1 = a0) → en_J (X_X7_up G q) 10 [l0, l1] [] σ) := en_jb d_X7_up_7 rfl ⟨rfl, by decide⟩
theorem d_X7_up_10 : decode cX7_up 10 = .ok (.aload_n 0, 1) := by decide +kernel
theorem j_X7_up_10 {G : en_G} {q : Option en_V → en_S → Prop}  {l1 : en_V} {x0 : Option Nat} {σ : en_S} : en_J (X_X7_up G q) 10 [en_R x0, l1] [] σ ↔ en_J (X_X7_up G q) 11 [en_R x0, l1] [en_R x0] σ := en_j1 d_X7_up_10 rfl rfl
theorem d_X7_up_11 : decode cX7_up 11 = .ok (.getfield 26, 3) := by decide +kernel
theorem j_X7_up_11 {G : en_G} {q : Option en_V → en_S → Prop}  {l0 l1 : en_V} {a0 : Option Nat} {σ : en_S} : en_J (X_X7_up G q) 11 [l0, l1] [en_R a0] σ ↔ ∃ a, a0 = some a ∧ en_cl σ a = some 7 ∧ en_J (X_X7_up G q) 14 [l0, l1] [en_R (en_fr σ 706 a)] σ := en_jg (st := fun o => [en_R o]) (st' := fun a => [en_R (en_fr σ 706 a)]) (σ' := fun _ => σ) d_X7_up_11 rfl (fun a => rfl) (fun a => ⟨fun h => h.2, fun h => ⟨rfl, h⟩⟩)
theorem d_X7_up_14 : decode cX7_up 14 = .ok (.iload_n 1, 1) := by decide +kernel
theorem j_X7_up_14 {G : en_G} {q : Option en_V → en_S → Prop}  {l0 : en_V} {a0 : Option Nat} {x1 : Int32} {σ : en_S} : en_J (X_X7_up G q) 14 [l0, en_I x1] [en_R a0] σ ↔ en_J (X_X7_up G q) 15 [l0, en_I x1] [en_I x1, en_R a0] σ := en_j1 d_X7_up_14 rfl rfl
theorem d_X7_up_15 : decode cX7_up 15 = .ok (.iaload, 1) := by decide +kernel
theorem j_X7_up_15 {G : en_G} {q : Option en_V → en_S → Prop}  {l0 l1 : en_V} {a0 : Int32} {a1 : Option Nat} {σ : en_S} : en_J (X_X7_up G q) 15 [l0, l1] [en_I a0, en_R a1] σ ↔ ∃ a, a1 = some a ∧ (∃ k, en_al σ a = some (0, k) ∧ vp_in a0 k) ∧ en_J (X_X7_up G q) 16 [l0, l1] [en_I (en_ai σ a a0.toNatClampNeg)] σ := ej_iaload d_X7_up_15 rfl
theorem d_X7_up_16 : decode cX7_up 16 = .ok (.goto 9, 3) := by decide +kernel
theorem j_X7_up_16 {G : en_G} {q : Option en_V → en_S → Prop}  {l0 l1 : en_V} {a0 : Int32} {σ : en_S} : en_J (X_X7_up G q) 16 [l0, l1] [en_I a0] σ ↔ en_J (X_X7_up G q) 25 [l0, l1] [en_I a0] σ := en_j1 d_X7_up_16 rfl ⟨rfl, by decide⟩
theorem d_X7_up_19 : decode cX7_up 19 = .ok (.aload_n 0, 1) := by decide +kernel
theorem j_X7_up_19 {G : en_G} {q : Option en_V → en_S → Prop}  {l1 : en_V} {x0 : Option Nat} {σ : en_S} : en_J (X_X7_up G q) 19 [en_R x0, l1] [] σ ↔ en_J (X_X7_up G q) 20 [en_R x0, l1] [en_R x0] σ := en_j1 d_X7_up_19 rfl rfl
theorem d_X7_up_20 : decode cX7_up 20 = .ok (.getfield 20, 3) := by decide +kernel
theorem j_X7_up_20 {G : en_G} {q : Option en_V → en_S → Prop}  {l0 l1 : en_V} {a0 : Option Nat} {σ : en_S} : en_J (X_X7_up G q) 20 [l0, l1] [en_R a0] σ ↔ ∃ a, a0 = some a ∧ en_cl σ a = some 7 ∧ en_J (X_X7_up G q) 23 [l0, l1] [en_R (en_fr σ 704 a)] σ := en_jg (st := fun o => [en_R o]) (st' := fun a => [en_R (en_fr σ 704 a)]) (σ' := fun _ => σ) d_X7_up_20 rfl (fun a => rfl) (fun a => ⟨fun h => h.2, fun h => ⟨rfl, h⟩⟩)
theorem d_X7_up_23 : decode cX7_up 23 = .ok (.iload_n 1, 1) := by decide +kernel
theorem j_X7_up_23 {G : en_G} {q : Option en_V → en_S → Prop}  {l0 : en_V} {a0 : Option Nat} {x1 : Int32} {σ : en_S} : en_J (X_X7_up G q) 23 [l0, en_I x1] [en_R a0] σ ↔ en_J (X_X7_up G q) 24 [l0, en_I x1] [en_I x1, en_R a0] σ := en_j1 d_X7_up_23 rfl rfl
theorem d_X7_up_24 : decode cX7_up 24 = .ok (.iaload, 1) := by decide +kernel
theorem j_X7_up_24 {G : en_G} {q : Option en_V → en_S → Prop}  {l0 l1 : en_V} {a0 : Int32} {a1 : Option Nat} {σ : en_S} : en_J (X_X7_up G q) 24 [l0, l1] [en_I a0, en_R a1] σ ↔ ∃ a, a1 = some a ∧ (∃ k, en_al σ a = some (0, k) ∧ vp_in a0 k) ∧ en_J (X_X7_up G q) 25 [l0, l1] [en_I (en_ai σ a a0.toNatClampNeg)] σ := ej_iaload d_X7_up_24 rfl
theorem d_X7_up_25 : decode cX7_up 25 = .ok (.ireturn, 1) := by decide +kernel
theorem j_X7_up_25 {G : en_G} {q : Option en_V → en_S → Prop}  {l0 l1 : en_V} {a0 : Int32} {σ : en_S} : en_J (X_X7_up G q) 25 [l0, l1] [en_I a0] σ ↔ q (some (en_I a0)) σ := en_jr d_X7_up_25 rfl ⟨fun h => h.2.2, fun h => ⟨rfl, Or.inl rfl, h⟩⟩
theorem wc_X7_up : Jvm.Cond.code yX7_up cX7_up 2 (some .int) ∈ en_W := en_inW (List.mem_of_getElem? (i := 898) (by decide +kernel)) (by decide +kernel)
theorem wi_X7_up : Jvm.Cond.instanceMethod yX7_up ∈ en_W := en_inW (List.mem_of_getElem? (i := 897) (by decide +kernel)) (by decide +kernel)
theorem wx_X7_up : Jvm.Cond.selects RX7 yX7_up yX7_up ∈ en_W := en_inW (List.mem_of_getElem? (i := 18) (by decide +kernel)) (by decide +kernel)
theorem jl_X7_up {G : en_G}  {m : Nat} {A : st_A} {n : Nat} {q : Option en_V → en_S → Prop} {σ : en_S} (hp : RX m A σ ∧ n < tr_N (sa_T A)) (hq : ∀ v σ', (σ' = σ ∧ v = some (en_I (st_num (tr_up (sa_T A) n)))) → q v σ') : en_J (X_X7_up G q) 0 [en_R (some m), en_I (nI n)] [] σ := by
  obtain ⟨hp, hn⟩ := hp
  have hS := hp.1
  have hw := hp.2.2.2.2.2.2.2.2.2.1
  have hN := hw.1.2
  have n3 : vp_in (nI n) 24 := vp_in_nI (by omega) (by decide)
  have n4 : (nI n).toNatClampNeg = n := nI_clamp (by omega)
  obtain ⟨r1, r2, r3, r4, r5, r6, r7⟩ := hp.2.1 n hn
  by_cases hk : tr_kd (sa_T A) n = 4
  · have hpa : tr_pa (sa_T A) n = none := by
      cases hp : tr_pa (sa_T A) n with
      | none => rfl
      | some p =>
        have := (hw.2.1 n p hn hp).2.2
        unfold tr_el at this
        rw [hk] at this
        rcases this with z | z | z <;> exact absurd z (by decide)
    have hup : tr_up (sa_T A) n = tr_ho (sa_T A) n := by unfold tr_up; rw [if_pos hpa]
    rw [hup] at hq
    simp only [j_X7_up_0, j_X7_up_1, j_X7_up_4, j_X7_up_5, j_X7_up_6, j_X7_up_7, j_X7_up_10, j_X7_up_11, j_X7_up_14, j_X7_up_15, j_X7_up_16, j_X7_up_19, j_X7_up_20, j_X7_up_23, j_X7_up_24, j_X7_up_25, en_c2I, en_c2R, en_c2U, en_c2D, Option.some.injEq, exists_eq_left', exists_eq_left, Option.map_some, Option.map_none, not_true_eq_false, false_implies, true_implies, and_true, true_and, reduceCtorEq, not_false_eq_true, rs_c hS, rs_f702 hS, rs_a1 hS, rs_f706 hS, rs_a5 hS, rs_f704 hS, rs_a3 hS, Prod.mk.injEq, n3, n4, r1, hk, r5]
    exact hq _ _ ⟨rfl, rfl⟩
  · have hho : tr_ho (sa_T A) n = none := by
      cases hh : tr_ho (sa_T A) n with
      | none => rfl
      | some b => exact absurd (hw.2.2.2.2.1 n b hn hh).2.2 hk
    have hup : tr_up (sa_T A) n = tr_pa (sa_T A) n := by
      unfold tr_up
      cases hp : tr_pa (sa_T A) n with
      | none => rw [if_pos rfl, hho]
      | some p => rfl
    rw [hup] at hq
    simp only [j_X7_up_0, j_X7_up_1, j_X7_up_4, j_X7_up_5, j_X7_up_6, j_X7_up_7, j_X7_up_10, j_X7_up_11, j_X7_up_14, j_X7_up_15, j_X7_up_16, j_X7_up_19, j_X7_up_20, j_X7_up_23, j_X7_up_24, j_X7_up_25, en_c2I, en_c2R, en_c2U, en_c2D, Option.some.injEq, exists_eq_left', exists_eq_left, Option.map_some, Option.map_none, not_true_eq_false, false_implies, true_implies, and_true, true_and, reduceCtorEq, not_false_eq_true, rs_c hS, rs_f702 hS, rs_a1 hS, rs_f706 hS, rs_a5 hS, rs_f704 hS, rs_a3 hS, Prod.mk.injEq, n3, n4, r1, hk, r3]
    exact hq _ _ ⟨rfl, rfl⟩
theorem jp_X7_up {G : en_G}  : ∀ as σ, (C_X7_up G).1 as σ → (en_lc as).length ≤ 2 ∧ en_J (X_X7_up G (fun r σ' => (C_X7_up G).2 as σ r σ')) 0 (en_loc 2 as) [] σ := en_ghJ (fun g as σ h => by
  obtain ⟨hp, h2⟩ := h
  subst h2
  exact ⟨Nat.le_of_ble_eq_true rfl, jl_X7_up hp (fun _ _ h => h)⟩)
theorem ok_X7_up {G : en_G}  : en_Ok G 1 yX7_up cX7_up 2 (some .int) (C_X7_up G) :=
  en_met (own := RX7) (fl := en_lk fl7) (nw := en_lk nw7) (aw := en_lk aw7) (dc := en_lk dc7) (ca := en_lk (ca_X7_up G)) (rt := 1) (ini := false) (by decide +kernel) (Or.inr (Or.inl ⟨rfl, rfl⟩)) (fun h => by cases h) rfl (fun q => en_LkF fl7_ok nw7_ok aw7_ok dc7_ok) (fun idx q hq => by cases hq) jp_X7_up
def P_X7_covers (G : en_G)  (g : (Nat) × (st_A) × (Nat) × (Nat)) (as : List en_V) (σ : en_S) : Prop := (RX (g.1) (g.2.1) σ ∧ (g.2.2.1) < tr_N (sa_T (g.2.1)) ∧ (g.2.2.2) < tr_N (sa_T (g.2.1))) ∧ as = [en_R (some (g.1)), en_I (nI (g.2.2.1)), en_I (nI (g.2.2.2))]
def C_X7_covers (G : en_G)  : en_C := en_gh (P_X7_covers G) (fun g as σ v σ' => σ' = σ ∧ v = some (en_I (st_b (tr_over (sa_T (g.2.1)) (g.2.2.1) (g.2.2.2)))))
theorem pr_X7_covers {G : en_G}  : ∀ as σ, (C_X7_covers G).1 as σ → ∃ b tl, as = en_R (some b) :: tl ∧ en_cl σ b = some 7 ∧ tl.length = 2 := fun as σ ⟨g, hp, h2⟩ => ⟨_, _, h2, rs_c hp.1.1, rfl⟩
theorem cu_X7_covers {G : en_G}  {m : Nat} {A : st_A} {a : Nat} {n : Nat} {σ : en_S} (hp : RX m A σ ∧ a < tr_N (sa_T A) ∧ n < tr_N (sa_T A)) : en_Us (C_X7_covers G) [en_R (some m), en_I (nI a), en_I (nI n)] σ (fun v σ' => σ' = σ ∧ v = some (en_I (st_b (tr_over (sa_T A) a n)))) := ⟨⟨(m, A, a, n), hp, rfl⟩, fun v σ' q => q (m, A, a, n) ⟨hp, rfl⟩⟩
def ca_X7_covers (G : en_G) : List (Nat × Nat × en_C) := [(160, 9, (C_X7_up G))]
def X_X7_covers (G : en_G) (q : Option en_V → en_S → Prop) : en_X := en_mk G cX7_covers (en_lk fl7) (en_lk nw7) (en_lk aw7) (en_lk dc7) (en_lk (ca_X7_covers G)) 2 false q
theorem d_X7_covers_0 : decode cX7_covers 0 = .ok (.iload_n 2, 1) := by decide +kernel
theorem j_X7_covers_0 {G : en_G} {q : Option en_V → en_S → Prop}  {l0 l1 l3 : en_V} {x2 : Int32} {σ : en_S} : en_J (X_X7_covers G q) 0 [l0, l1, en_I x2, l3] [] σ ↔ en_J (X_X7_covers G q) 1 [l0, l1, en_I x2, l3] [en_I x2] σ := en_j1 d_X7_covers_0 rfl rfl
theorem d_X7_covers_1 : decode cX7_covers 1 = .ok (.istore_n 3, 1) := by decide +kernel
theorem j_X7_covers_1 {G : en_G} {q : Option en_V → en_S → Prop}  {l0 l1 l2 l3 : en_V} {a0 : Int32} {σ : en_S} : en_J (X_X7_covers G q) 1 [l0, l1, l2, l3] [en_I a0] σ ↔ en_J (X_X7_covers G q) 2 [l0, l1, en_c2 l2, en_I a0] [] σ := en_j1 d_X7_covers_1 rfl ⟨rfl, Nat.le_of_ble_eq_true rfl⟩
theorem d_X7_covers_2 : decode cX7_covers 2 = .ok (.iload_n 3, 1) := by decide +kernel
theorem j_X7_covers_2 {G : en_G} {q : Option en_V → en_S → Prop}  {l0 l1 l2 : en_V} {x3 : Int32} {σ : en_S} : en_J (X_X7_covers G q) 2 [l0, l1, l2, en_I x3] [] σ ↔ en_J (X_X7_covers G q) 3 [l0, l1, l2, en_I x3] [en_I x3] σ := en_j1 d_X7_covers_2 rfl rfl
theorem d_X7_covers_3 : decode cX7_covers 3 = .ok (.ifCond .lt 17, 3) := by decide +kernel
theorem j_X7_covers_3 {G : en_G} {q : Option en_V → en_S → Prop}  {l0 l1 l2 l3 : en_V} {a0 : Int32} {σ : en_S} : en_J (X_X7_covers G q) 3 [l0, l1, l2, l3] [en_I a0] σ ↔ (a0 < 0 → en_J (X_X7_covers G q) 20 [l0, l1, l2, l3] [] σ) ∧ (¬ (a0 < 0) → en_J (X_X7_covers G q) 6 [l0, l1, l2, l3] [] σ) := en_jb d_X7_covers_3 rfl ⟨rfl, by decide⟩
theorem d_X7_covers_6 : decode cX7_covers 6 = .ok (.iload_n 3, 1) := by decide +kernel
theorem j_X7_covers_6 {G : en_G} {q : Option en_V → en_S → Prop}  {l0 l1 l2 : en_V} {x3 : Int32} {σ : en_S} : en_J (X_X7_covers G q) 6 [l0, l1, l2, en_I x3] [] σ ↔ en_J (X_X7_covers G q) 7 [l0, l1, l2, en_I x3] [en_I x3] σ := en_j1 d_X7_covers_6 rfl rfl
theorem d_X7_covers_7 : decode cX7_covers 7 = .ok (.iload_n 1, 1) := by decide +kernel
theorem j_X7_covers_7 {G : en_G} {q : Option en_V → en_S → Prop}  {l0 l2 l3 : en_V} {a0 : Int32} {x1 : Int32} {σ : en_S} : en_J (X_X7_covers G q) 7 [l0, en_I x1, l2, l3] [en_I a0] σ ↔ en_J (X_X7_covers G q) 8 [l0, en_I x1, l2, l3] [en_I x1, en_I a0] σ := en_j1 d_X7_covers_7 rfl rfl
theorem d_X7_covers_8 : decode cX7_covers 8 = .ok (.if_icmp .eq 12, 3) := by decide +kernel
theorem j_X7_covers_8 {G : en_G} {q : Option en_V → en_S → Prop}  {l0 l1 l2 l3 : en_V} {a0 : Int32} {a1 : Int32} {σ : en_S} : en_J (X_X7_covers G q) 8 [l0, l1, l2, l3] [en_I a0, en_I a1] σ ↔ (a1 = a0 → en_J (X_X7_covers G q) 20 [l0, l1, l2, l3] [] σ) ∧ (¬ (a1 = a0) → en_J (X_X7_covers G q) 11 [l0, l1, l2, l3] [] σ) := en_jb d_X7_covers_8 rfl ⟨rfl, by decide⟩
theorem d_X7_covers_11 : decode cX7_covers 11 = .ok (.aload_n 0, 1) := by decide +kernel
theorem j_X7_covers_11 {G : en_G} {q : Option en_V → en_S → Prop}  {l1 l2 l3 : en_V} {x0 : Option Nat} {σ : en_S} : en_J (X_X7_covers G q) 11 [en_R x0, l1, l2, l3] [] σ ↔ en_J (X_X7_covers G q) 12 [en_R x0, l1, l2, l3] [en_R x0] σ := en_j1 d_X7_covers_11 rfl rfl
theorem d_X7_covers_12 : decode cX7_covers 12 = .ok (.iload_n 3, 1) := by decide +kernel
theorem j_X7_covers_12 {G : en_G} {q : Option en_V → en_S → Prop}  {l0 l1 l2 : en_V} {a0 : Option Nat} {x3 : Int32} {σ : en_S} : en_J (X_X7_covers G q) 12 [l0, l1, l2, en_I x3] [en_R a0] σ ↔ en_J (X_X7_covers G q) 13 [l0, l1, l2, en_I x3] [en_I x3, en_R a0] σ := en_j1 d_X7_covers_12 rfl rfl
theorem d_X7_covers_13 : decode cX7_covers 13 = .ok (.invokevirtual 160, 3) := by decide +kernel
theorem j_X7_covers_13 {G : en_G} {q : Option en_V → en_S → Prop}  {l0 l1 l2 l3 : en_V} {a0 : Int32} {a1 : Option Nat} {σ : en_S} : en_J (X_X7_covers G q) 13 [l0, l1, l2, l3] [en_I a0, en_R a1] σ ↔ (C_X7_up G).1 [en_R a1, en_I a0] σ ∧ ∀ (r : Option en_V) (σ' : en_S), (C_X7_up G).2 [en_R a1, en_I a0] σ r σ' → en_J (X_X7_covers G q) 16 [l0, l1, l2, l3] (r.toList ++ []) σ' := en_jkC (C := (C_X7_up G)) (n' := 2) (k := 1) (idx := 160) d_X7_covers_13 rfl rfl (by decide) (Nat.le_of_ble_eq_true rfl) (Nat.le_of_ble_eq_true rfl)
theorem d_X7_covers_16 : decode cX7_covers 16 = .ok (.istore_n 3, 1) := by decide +kernel
theorem j_X7_covers_16 {G : en_G} {q : Option en_V → en_S → Prop}  {l0 l1 l2 l3 : en_V} {a0 : Int32} {σ : en_S} : en_J (X_X7_covers G q) 16 [l0, l1, l2, l3] [en_I a0] σ ↔ en_J (X_X7_covers G q) 17 [l0, l1, en_c2 l2, en_I a0] [] σ := en_j1 d_X7_covers_16 rfl ⟨rfl, Nat.le_of_ble_eq_true rfl⟩
theorem d_X7_covers_17 : decode cX7_covers 17 = .ok (.goto (-15), 3) := by decide +kernel
theorem j_X7_covers_17 {G : en_G} {q : Option en_V → en_S → Prop}  {l0 l1 l2 l3 : en_V}  {σ : en_S} : en_J (X_X7_covers G q) 17 [l0, l1, l2, l3] [] σ ↔ en_J (X_X7_covers G q) 2 [l0, l1, l2, l3] [] σ := en_j1 d_X7_covers_17 rfl ⟨rfl, by decide⟩
theorem d_X7_covers_20 : decode cX7_covers 20 = .ok (.iload_n 3, 1) := by decide +kernel
theorem j_X7_covers_20 {G : en_G} {q : Option en_V → en_S → Prop}  {l0 l1 l2 : en_V} {x3 : Int32} {σ : en_S} : en_J (X_X7_covers G q) 20 [l0, l1, l2, en_I x3] [] σ ↔ en_J (X_X7_covers G q) 21 [l0, l1, l2, en_I x3] [en_I x3] σ := en_j1 d_X7_covers_20 rfl rfl
theorem d_X7_covers_21 : decode cX7_covers 21 = .ok (.iload_n 1, 1) := by decide +kernel
theorem j_X7_covers_21 {G : en_G} {q : Option en_V → en_S → Prop}  {l0 l2 l3 : en_V} {a0 : Int32} {x1 : Int32} {σ : en_S} : en_J (X_X7_covers G q) 21 [l0, en_I x1, l2, l3] [en_I a0] σ ↔ en_J (X_X7_covers G q) 22 [l0, en_I x1, l2, l3] [en_I x1, en_I a0] σ := en_j1 d_X7_covers_21 rfl rfl
theorem d_X7_covers_22 : decode cX7_covers 22 = .ok (.if_icmp .ne 7, 3) := by decide +kernel
theorem j_X7_covers_22 {G : en_G} {q : Option en_V → en_S → Prop}  {l0 l1 l2 l3 : en_V} {a0 : Int32} {a1 : Int32} {σ : en_S} : en_J (X_X7_covers G q) 22 [l0, l1, l2, l3] [en_I a0, en_I a1] σ ↔ (¬ a1 = a0 → en_J (X_X7_covers G q) 29 [l0, l1, l2, l3] [] σ) ∧ (¬ (¬ a1 = a0) → en_J (X_X7_covers G q) 25 [l0, l1, l2, l3] [] σ) := en_jb d_X7_covers_22 rfl ⟨rfl, by decide⟩
theorem d_X7_covers_25 : decode cX7_covers 25 = .ok (.iconst 1, 1) := by decide +kernel
theorem j_X7_covers_25 {G : en_G} {q : Option en_V → en_S → Prop}  {l0 l1 l2 l3 : en_V}  {σ : en_S} : en_J (X_X7_covers G q) 25 [l0, l1, l2, l3] [] σ ↔ en_J (X_X7_covers G q) 26 [l0, l1, l2, l3] [en_I 1] σ := ej_iconst d_X7_covers_25 (by decide +kernel)
theorem d_X7_covers_26 : decode cX7_covers 26 = .ok (.goto 4, 3) := by decide +kernel
theorem j_X7_covers_26 {G : en_G} {q : Option en_V → en_S → Prop}  {l0 l1 l2 l3 : en_V} {a0 : Int32} {σ : en_S} : en_J (X_X7_covers G q) 26 [l0, l1, l2, l3] [en_I a0] σ ↔ en_J (X_X7_covers G q) 30 [l0, l1, l2, l3] [en_I a0] σ := en_j1 d_X7_covers_26 rfl ⟨rfl, by decide⟩
theorem d_X7_covers_29 : decode cX7_covers 29 = .ok (.iconst 0, 1) := by decide +kernel
theorem j_X7_covers_29 {G : en_G} {q : Option en_V → en_S → Prop}  {l0 l1 l2 l3 : en_V}  {σ : en_S} : en_J (X_X7_covers G q) 29 [l0, l1, l2, l3] [] σ ↔ en_J (X_X7_covers G q) 30 [l0, l1, l2, l3] [en_I 0] σ := ej_iconst d_X7_covers_29 (by decide +kernel)
theorem d_X7_covers_30 : decode cX7_covers 30 = .ok (.ireturn, 1) := by decide +kernel
theorem j_X7_covers_30 {G : en_G} {q : Option en_V → en_S → Prop}  {l0 l1 l2 l3 : en_V} {a0 : Int32} {σ : en_S} : en_J (X_X7_covers G q) 30 [l0, l1, l2, l3] [en_I a0] σ ↔ (a0 = 0 ∨ a0 = 1) ∧ q (some (en_I a0)) σ := en_jr d_X7_covers_30 rfl ⟨fun h => ⟨h.2.1.elim (fun z => absurd (show (2 : Nat) = 1 from z) (by decide)) (fun z => z.2), h.2.2⟩, fun h => ⟨rfl, Or.inr ⟨rfl, h.1⟩, h.2⟩⟩
theorem wc_X7_covers : Jvm.Cond.code yX7_covers cX7_covers 4 (some .boolean) ∈ en_W := en_inW (List.mem_of_getElem? (i := 894) (by decide +kernel)) (by decide +kernel)
theorem wi_X7_covers : Jvm.Cond.instanceMethod yX7_covers ∈ en_W := en_inW (List.mem_of_getElem? (i := 893) (by decide +kernel)) (by decide +kernel)
theorem wx_X7_covers : Jvm.Cond.selects RX7 yX7_covers yX7_covers ∈ en_W := en_inW (List.mem_of_getElem? (i := 17) (by decide +kernel)) (by decide +kernel)
theorem jw_X7_covers {G : en_G} {q : Option en_V → en_S → Prop} {m : Nat} {A : st_A} {σ : en_S} (hR : RX m A σ) {a : Nat} {n0 : Int32} (ha : a < tr_N (sa_T A)) : ∀ (k : Nat) (cur : Option Nat), (∀ b, cur = some b → b < tr_N (sa_T A) ∧ tr_it (sa_T A) k b = none) → q (some (en_I (st_b ((cur.map (fun b => tr_cov (sa_T A) k a b)).getD false)))) σ → en_J (X_X7_covers G q) 2 [en_R (some m), en_I (nI a), en_I n0, en_I (st_num cur)] [] σ := by
  have hw := hR.2.2.2.2.2.2.2.2.2.1
  have hN := hw.1.2
  have z1 : (-1 : Int32) < 0 := by decide
  have z2 : ¬ (-1 : Int32) = nI a := fun z => by
    have := nI_pos (n := a) (by omega)
    rw [← z] at this
    exact this z1
  intro k
  induction k with
  | zero =>
    intro cur hc hq
    cases cur with
    | none =>
      rw [j_X7_covers_2]
      simp only [j_X7_covers_0, j_X7_covers_1, j_X7_covers_3, j_X7_covers_6, j_X7_covers_7, j_X7_covers_8, j_X7_covers_11, j_X7_covers_12, j_X7_covers_13, j_X7_covers_16, j_X7_covers_17, j_X7_covers_20, j_X7_covers_21, j_X7_covers_22, j_X7_covers_25, j_X7_covers_26, j_X7_covers_29, j_X7_covers_30, en_c2I, en_c2R, en_c2U, en_c2D, Option.some.injEq, exists_eq_left', exists_eq_left, Option.map_some, Option.map_none, not_true_eq_false, false_implies, true_implies, and_true, true_and, reduceCtorEq, not_false_eq_true, st_num_none, z1, z2, true_or]
      exact hq
    | some b => have := (hc b rfl).2; cases this
  | succ k ih =>
    intro cur hc hq
    cases cur with
    | none =>
      rw [j_X7_covers_2]
      simp only [j_X7_covers_0, j_X7_covers_1, j_X7_covers_3, j_X7_covers_6, j_X7_covers_7, j_X7_covers_8, j_X7_covers_11, j_X7_covers_12, j_X7_covers_13, j_X7_covers_16, j_X7_covers_17, j_X7_covers_20, j_X7_covers_21, j_X7_covers_22, j_X7_covers_25, j_X7_covers_26, j_X7_covers_29, j_X7_covers_30, en_c2I, en_c2R, en_c2U, en_c2D, Option.some.injEq, exists_eq_left', exists_eq_left, Option.map_some, Option.map_none, not_true_eq_false, false_implies, true_implies, and_true, true_and, reduceCtorEq, not_false_eq_true, st_num_none, z1, z2, true_or]
      exact hq
    | some b =>
      obtain ⟨hb, hit⟩ := hc b rfl
      have n0 : ¬ nI b < 0 := nI_pos (by omega)
      rw [j_X7_covers_2]
      simp only [Option.map_some, Option.getD_some, tr_cov] at hq
      by_cases hba : b = a
      · rw [if_pos hba] at hq
        subst hba
        simp only [j_X7_covers_0, j_X7_covers_1, j_X7_covers_3, j_X7_covers_6, j_X7_covers_7, j_X7_covers_8, j_X7_covers_11, j_X7_covers_12, j_X7_covers_13, j_X7_covers_16, j_X7_covers_17, j_X7_covers_20, j_X7_covers_21, j_X7_covers_22, j_X7_covers_25, j_X7_covers_26, j_X7_covers_29, j_X7_covers_30, en_c2I, en_c2R, en_c2U, en_c2D, Option.some.injEq, exists_eq_left', exists_eq_left, Option.map_some, Option.map_none, not_true_eq_false, false_implies, true_implies, and_true, true_and, reduceCtorEq, not_false_eq_true, st_num_some, n0, or_true]
        exact hq
      · rw [if_neg hba] at hq
        have hne : ¬ nI b = nI a := fun z => hba (nI_inj (by omega) (by omega) z)
        simp only [j_X7_covers_0, j_X7_covers_1, j_X7_covers_3, j_X7_covers_6, j_X7_covers_7, j_X7_covers_8, j_X7_covers_11, j_X7_covers_12, j_X7_covers_13, j_X7_covers_16, j_X7_covers_17, j_X7_covers_20, j_X7_covers_21, j_X7_covers_22, j_X7_covers_25, j_X7_covers_26, j_X7_covers_29, j_X7_covers_30, en_c2I, en_c2R, en_c2U, en_c2D, Option.some.injEq, exists_eq_left', exists_eq_left, Option.map_some, Option.map_none, not_true_eq_false, false_implies, true_implies, and_true, true_and, reduceCtorEq, not_false_eq_true, st_num_some, n0, hne]
        refine en_use (cu_X7_up ⟨hR, hb⟩) ?_
        rintro v σ' ⟨rfl, rfl⟩
        simp only [Option.toList, List.cons_append, List.nil_append, j_X7_covers_0, j_X7_covers_1, j_X7_covers_3, j_X7_covers_6, j_X7_covers_7, j_X7_covers_8, j_X7_covers_11, j_X7_covers_12, j_X7_covers_13, j_X7_covers_16, j_X7_covers_17, j_X7_covers_20, j_X7_covers_21, j_X7_covers_22, j_X7_covers_25, j_X7_covers_26, j_X7_covers_29, j_X7_covers_30, en_c2I, en_c2R, en_c2U, en_c2D, Option.some.injEq, exists_eq_left', exists_eq_left, Option.map_some, Option.map_none, not_true_eq_false, false_implies, true_implies, and_true, true_and, reduceCtorEq, not_false_eq_true]
        refine ih (tr_up (sa_T A) b) (fun c hc => ⟨tr_up_lt hw hb hc, tr_it_up hit hc⟩) ?_
        cases hu : tr_up (sa_T A) b with
        | none => rw [hu] at hq; exact hq
        | some c => rw [hu] at hq; exact hq
theorem jl_X7_covers {G : en_G}  {m : Nat} {A : st_A} {a : Nat} {n : Nat} {q : Option en_V → en_S → Prop} {σ : en_S} (hp : RX m A σ ∧ a < tr_N (sa_T A) ∧ n < tr_N (sa_T A)) (hq : ∀ v σ', (σ' = σ ∧ v = some (en_I (st_b (tr_over (sa_T A) a n)))) → q v σ') : en_J (X_X7_covers G q) 0 [en_R (some m), en_I (nI a), en_I (nI n), en_U] [] σ := by
  obtain ⟨hp, ha, hn⟩ := hp
  have hw := hp.2.2.2.2.2.2.2.2.2.1
  have := jw_X7_covers (G := G) (q := q) (n0 := nI n) hp ha 24 (some n) (fun b hb => by cases hb; exact ⟨hn, hw.2.2.2.2.2.2.2.2 n hn⟩) (hq _ _ ⟨rfl, rfl⟩)
  simp only [j_X7_covers_0, j_X7_covers_1, j_X7_covers_3, j_X7_covers_6, j_X7_covers_7, j_X7_covers_8, j_X7_covers_11, j_X7_covers_12, j_X7_covers_13, j_X7_covers_16, j_X7_covers_17, j_X7_covers_20, j_X7_covers_21, j_X7_covers_22, j_X7_covers_25, j_X7_covers_26, j_X7_covers_29, j_X7_covers_30, en_c2I, en_c2R, en_c2U, en_c2D, Option.some.injEq, exists_eq_left', exists_eq_left, Option.map_some, Option.map_none, not_true_eq_false, false_implies, true_implies, and_true, true_and, reduceCtorEq, not_false_eq_true]
  exact this
theorem jp_X7_covers {G : en_G}  : ∀ as σ, (C_X7_covers G).1 as σ → (en_lc as).length ≤ 4 ∧ en_J (X_X7_covers G (fun r σ' => (C_X7_covers G).2 as σ r σ')) 0 (en_loc 4 as) [] σ := en_ghJ (fun g as σ h => by
  obtain ⟨hp, h2⟩ := h
  subst h2
  exact ⟨Nat.le_of_ble_eq_true rfl, jl_X7_covers hp (fun _ _ h => h)⟩)
theorem wl_X7_covers_160 : Jvm.Cond.methodLink RX7 160 yX7_up ∈ en_W := en_inW (List.mem_of_getElem? (i := 895) (by decide +kernel)) (by decide +kernel)
theorem ok_X7_covers {G : en_G}  : en_Ok G 2 yX7_covers cX7_covers 4 (some .boolean) (C_X7_covers G) :=
  en_met (own := RX7) (fl := en_lk fl7) (nw := en_lk nw7) (aw := en_lk aw7) (dc := en_lk dc7) (ca := en_lk (ca_X7_covers G)) (rt := 2) (ini := false) (by decide +kernel) (Or.inr (Or.inr (Or.inl ⟨rfl, rfl⟩))) (fun h => by cases h) rfl (fun q => en_LkF fl7_ok nw7_ok aw7_ok dc7_ok) (by
    intro idx q hq
    have hm := en_lk_mem hq
    simp only [ca_X7_covers, List.mem_cons, Prod.mk.injEq, List.not_mem_nil, or_false] at hm
    rcases hm with ⟨rfl, rfl⟩
    · exact en_clV (r := (RX7, TX7, 53)) 7 1 ok_X7_up (by decide) (by decide) rfl rfl pr_X7_up wl_X7_covers_160 wi_X7_up wx_X7_up wz_7 wc_X7_up ⟨by decide +kernel, by decide +kernel, by decide +kernel⟩) jp_X7_covers
def P_X7_root (G : en_G)  (g : (Nat) × (st_A) × (Nat)) (as : List en_V) (σ : en_S) : Prop := (RX (g.1) (g.2.1) σ ∧ (g.2.2) < tr_N (sa_T (g.2.1))) ∧ as = [en_R (some (g.1)), en_I (nI (g.2.2))]
def C_X7_root (G : en_G)  : en_C := en_gh (P_X7_root G) (fun g as σ v σ' => σ' = σ ∧ v = some (en_I (nI (tr_root (sa_T (g.2.1)) (g.2.2)))))
theorem pr_X7_root {G : en_G}  : ∀ as σ, (C_X7_root G).1 as σ → ∃ b tl, as = en_R (some b) :: tl ∧ en_cl σ b = some 7 ∧ tl.length = 1 := fun as σ ⟨g, hp, h2⟩ => ⟨_, _, h2, rs_c hp.1.1, rfl⟩
theorem cu_X7_root {G : en_G}  {m : Nat} {A : st_A} {n : Nat} {σ : en_S} (hp : RX m A σ ∧ n < tr_N (sa_T A)) : en_Us (C_X7_root G) [en_R (some m), en_I (nI n)] σ (fun v σ' => σ' = σ ∧ v = some (en_I (nI (tr_root (sa_T A) n)))) := ⟨⟨(m, A, n), hp, rfl⟩, fun v σ' q => q (m, A, n) ⟨hp, rfl⟩⟩
def ca_X7_root (G : en_G) : List (Nat × Nat × en_C) := []
def X_X7_root (G : en_G) (q : Option en_V → en_S → Prop) : en_X := en_mk G cX7_root (en_lk fl7) (en_lk nw7) (en_lk aw7) (en_lk dc7) (en_lk (ca_X7_root G)) 1 false q
theorem d_X7_root_0 : decode cX7_root 0 = .ok (.iload_n 1, 1) := by decide +kernel
theorem j_X7_root_0 {G : en_G} {q : Option en_V → en_S → Prop}  {l0 l2 : en_V} {x1 : Int32} {σ : en_S} : en_J (X_X7_root G q) 0 [l0, en_I x1, l2] [] σ ↔ en_J (X_X7_root G q) 1 [l0, en_I x1, l2] [en_I x1] σ := en_j1 d_X7_root_0 rfl rfl
theorem d_X7_root_1 : decode cX7_root 1 = .ok (.istore_n 2, 1) := by decide +kernel
theorem j_X7_root_1 {G : en_G} {q : Option en_V → en_S → Prop}  {l0 l1 l2 : en_V} {a0 : Int32} {σ : en_S} : en_J (X_X7_root G q) 1 [l0, l1, l2] [en_I a0] σ ↔ en_J (X_X7_root G q) 2 [l0, en_c2 l1, en_I a0] [] σ := en_j1 d_X7_root_1 rfl ⟨rfl, Nat.le_of_ble_eq_true rfl⟩
theorem d_X7_root_2 : decode cX7_root 2 = .ok (.aload_n 0, 1) := by decide +kernel
theorem j_X7_root_2 {G : en_G} {q : Option en_V → en_S → Prop}  {l1 l2 : en_V} {x0 : Option Nat} {σ : en_S} : en_J (X_X7_root G q) 2 [en_R x0, l1, l2] [] σ ↔ en_J (X_X7_root G q) 3 [en_R x0, l1, l2] [en_R x0] σ := en_j1 d_X7_root_2 rfl rfl
theorem d_X7_root_3 : decode cX7_root 3 = .ok (.getfield 20, 3) := by decide +kernel
theorem j_X7_root_3 {G : en_G} {q : Option en_V → en_S → Prop}  {l0 l1 l2 : en_V} {a0 : Option Nat} {σ : en_S} : en_J (X_X7_root G q) 3 [l0, l1, l2] [en_R a0] σ ↔ ∃ a, a0 = some a ∧ en_cl σ a = some 7 ∧ en_J (X_X7_root G q) 6 [l0, l1, l2] [en_R (en_fr σ 704 a)] σ := en_jg (st := fun o => [en_R o]) (st' := fun a => [en_R (en_fr σ 704 a)]) (σ' := fun _ => σ) d_X7_root_3 rfl (fun a => rfl) (fun a => ⟨fun h => h.2, fun h => ⟨rfl, h⟩⟩)
theorem d_X7_root_6 : decode cX7_root 6 = .ok (.iload_n 2, 1) := by decide +kernel
theorem j_X7_root_6 {G : en_G} {q : Option en_V → en_S → Prop}  {l0 l1 : en_V} {a0 : Option Nat} {x2 : Int32} {σ : en_S} : en_J (X_X7_root G q) 6 [l0, l1, en_I x2] [en_R a0] σ ↔ en_J (X_X7_root G q) 7 [l0, l1, en_I x2] [en_I x2, en_R a0] σ := en_j1 d_X7_root_6 rfl rfl
theorem d_X7_root_7 : decode cX7_root 7 = .ok (.iaload, 1) := by decide +kernel
theorem j_X7_root_7 {G : en_G} {q : Option en_V → en_S → Prop}  {l0 l1 l2 : en_V} {a0 : Int32} {a1 : Option Nat} {σ : en_S} : en_J (X_X7_root G q) 7 [l0, l1, l2] [en_I a0, en_R a1] σ ↔ ∃ a, a1 = some a ∧ (∃ k, en_al σ a = some (0, k) ∧ vp_in a0 k) ∧ en_J (X_X7_root G q) 8 [l0, l1, l2] [en_I (en_ai σ a a0.toNatClampNeg)] σ := ej_iaload d_X7_root_7 rfl
theorem d_X7_root_8 : decode cX7_root 8 = .ok (.ifCond .lt 13, 3) := by decide +kernel
theorem j_X7_root_8 {G : en_G} {q : Option en_V → en_S → Prop}  {l0 l1 l2 : en_V} {a0 : Int32} {σ : en_S} : en_J (X_X7_root G q) 8 [l0, l1, l2] [en_I a0] σ ↔ (a0 < 0 → en_J (X_X7_root G q) 21 [l0, l1, l2] [] σ) ∧ (¬ (a0 < 0) → en_J (X_X7_root G q) 11 [l0, l1, l2] [] σ) := en_jb d_X7_root_8 rfl ⟨rfl, by decide⟩
theorem d_X7_root_11 : decode cX7_root 11 = .ok (.aload_n 0, 1) := by decide +kernel
theorem j_X7_root_11 {G : en_G} {q : Option en_V → en_S → Prop}  {l1 l2 : en_V} {x0 : Option Nat} {σ : en_S} : en_J (X_X7_root G q) 11 [en_R x0, l1, l2] [] σ ↔ en_J (X_X7_root G q) 12 [en_R x0, l1, l2] [en_R x0] σ := en_j1 d_X7_root_11 rfl rfl
theorem d_X7_root_12 : decode cX7_root 12 = .ok (.getfield 20, 3) := by decide +kernel
theorem j_X7_root_12 {G : en_G} {q : Option en_V → en_S → Prop}  {l0 l1 l2 : en_V} {a0 : Option Nat} {σ : en_S} : en_J (X_X7_root G q) 12 [l0, l1, l2] [en_R a0] σ ↔ ∃ a, a0 = some a ∧ en_cl σ a = some 7 ∧ en_J (X_X7_root G q) 15 [l0, l1, l2] [en_R (en_fr σ 704 a)] σ := en_jg (st := fun o => [en_R o]) (st' := fun a => [en_R (en_fr σ 704 a)]) (σ' := fun _ => σ) d_X7_root_12 rfl (fun a => rfl) (fun a => ⟨fun h => h.2, fun h => ⟨rfl, h⟩⟩)
theorem d_X7_root_15 : decode cX7_root 15 = .ok (.iload_n 2, 1) := by decide +kernel
theorem j_X7_root_15 {G : en_G} {q : Option en_V → en_S → Prop}  {l0 l1 : en_V} {a0 : Option Nat} {x2 : Int32} {σ : en_S} : en_J (X_X7_root G q) 15 [l0, l1, en_I x2] [en_R a0] σ ↔ en_J (X_X7_root G q) 16 [l0, l1, en_I x2] [en_I x2, en_R a0] σ := en_j1 d_X7_root_15 rfl rfl
theorem d_X7_root_16 : decode cX7_root 16 = .ok (.iaload, 1) := by decide +kernel
theorem j_X7_root_16 {G : en_G} {q : Option en_V → en_S → Prop}  {l0 l1 l2 : en_V} {a0 : Int32} {a1 : Option Nat} {σ : en_S} : en_J (X_X7_root G q) 16 [l0, l1, l2] [en_I a0, en_R a1] σ ↔ ∃ a, a1 = some a ∧ (∃ k, en_al σ a = some (0, k) ∧ vp_in a0 k) ∧ en_J (X_X7_root G q) 17 [l0, l1, l2] [en_I (en_ai σ a a0.toNatClampNeg)] σ := ej_iaload d_X7_root_16 rfl
theorem d_X7_root_17 : decode cX7_root 17 = .ok (.istore_n 2, 1) := by decide +kernel
theorem j_X7_root_17 {G : en_G} {q : Option en_V → en_S → Prop}  {l0 l1 l2 : en_V} {a0 : Int32} {σ : en_S} : en_J (X_X7_root G q) 17 [l0, l1, l2] [en_I a0] σ ↔ en_J (X_X7_root G q) 18 [l0, en_c2 l1, en_I a0] [] σ := en_j1 d_X7_root_17 rfl ⟨rfl, Nat.le_of_ble_eq_true rfl⟩
theorem d_X7_root_18 : decode cX7_root 18 = .ok (.goto (-16), 3) := by decide +kernel
theorem j_X7_root_18 {G : en_G} {q : Option en_V → en_S → Prop}  {l0 l1 l2 : en_V}  {σ : en_S} : en_J (X_X7_root G q) 18 [l0, l1, l2] [] σ ↔ en_J (X_X7_root G q) 2 [l0, l1, l2] [] σ := en_j1 d_X7_root_18 rfl ⟨rfl, by decide⟩
theorem d_X7_root_21 : decode cX7_root 21 = .ok (.iload_n 2, 1) := by decide +kernel
theorem j_X7_root_21 {G : en_G} {q : Option en_V → en_S → Prop}  {l0 l1 : en_V} {x2 : Int32} {σ : en_S} : en_J (X_X7_root G q) 21 [l0, l1, en_I x2] [] σ ↔ en_J (X_X7_root G q) 22 [l0, l1, en_I x2] [en_I x2] σ := en_j1 d_X7_root_21 rfl rfl
theorem d_X7_root_22 : decode cX7_root 22 = .ok (.ireturn, 1) := by decide +kernel
theorem j_X7_root_22 {G : en_G} {q : Option en_V → en_S → Prop}  {l0 l1 l2 : en_V} {a0 : Int32} {σ : en_S} : en_J (X_X7_root G q) 22 [l0, l1, l2] [en_I a0] σ ↔ q (some (en_I a0)) σ := en_jr d_X7_root_22 rfl ⟨fun h => h.2.2, fun h => ⟨rfl, Or.inl rfl, h⟩⟩
theorem wc_X7_root : Jvm.Cond.code yX7_root cX7_root 3 (some .int) ∈ en_W := en_inW (List.mem_of_getElem? (i := 954) (by decide +kernel)) (by decide +kernel)
theorem wi_X7_root : Jvm.Cond.instanceMethod yX7_root ∈ en_W := en_inW (List.mem_of_getElem? (i := 953) (by decide +kernel)) (by decide +kernel)
theorem wx_X7_root : Jvm.Cond.selects RX7 yX7_root yX7_root ∈ en_W := en_inW (List.mem_of_getElem? (i := 26) (by decide +kernel)) (by decide +kernel)
theorem jw_X7_root {G : en_G} {q : Option en_V → en_S → Prop} {m : Nat} {A : st_A} {σ : en_S} (hR : RX m A σ) {n0 : Int32} : ∀ (k n : Nat), n < tr_N (sa_T A) → tr_it (sa_T A) k n = none → q (some (en_I (nI (tr_rootF (sa_T A) k n)))) σ → en_J (X_X7_root G q) 2 [en_R (some m), en_I n0, en_I (nI n)] [] σ := by
  have hw := hR.2.2.2.2.2.2.2.2.2.1
  have hN := hw.1.2
  have hS := hR.1
  intro k
  induction k with
  | zero => intro n _ h _; cases h
  | succ k ih =>
    intro n hn hit hq
    have n3 : vp_in (nI n) 24 := vp_in_nI (by omega) (by decide)
    have n4 : (nI n).toNatClampNeg = n := nI_clamp (by omega)
    have r3 := (hR.2.1 n hn).2.2.1
    simp only [tr_rootF] at hq
    rw [j_X7_root_2]
    cases hp : tr_pa (sa_T A) n with
    | none =>
      rw [hp] at hq r3
      have z1 : (-1 : Int32) < 0 := by decide
      simp only [j_X7_root_0, j_X7_root_1, j_X7_root_3, j_X7_root_6, j_X7_root_7, j_X7_root_8, j_X7_root_11, j_X7_root_12, j_X7_root_15, j_X7_root_16, j_X7_root_17, j_X7_root_18, j_X7_root_21, j_X7_root_22, en_c2I, en_c2R, en_c2U, en_c2D, Option.some.injEq, exists_eq_left', exists_eq_left, Option.map_some, Option.map_none, not_true_eq_false, false_implies, true_implies, and_true, true_and, reduceCtorEq, not_false_eq_true, rs_c hS, rs_f704 hS, rs_a3 hS, Prod.mk.injEq, n3, n4, r3, st_num_none, z1]
      exact hq
    | some p =>
      rw [hp] at hq r3
      have hpl := tr_pa_lt hw hn hp
      have z1 : ¬ nI p < 0 := nI_pos (by omega)
      simp only [j_X7_root_0, j_X7_root_1, j_X7_root_3, j_X7_root_6, j_X7_root_7, j_X7_root_8, j_X7_root_11, j_X7_root_12, j_X7_root_15, j_X7_root_16, j_X7_root_17, j_X7_root_18, j_X7_root_21, j_X7_root_22, en_c2I, en_c2R, en_c2U, en_c2D, Option.some.injEq, exists_eq_left', exists_eq_left, Option.map_some, Option.map_none, not_true_eq_false, false_implies, true_implies, and_true, true_and, reduceCtorEq, not_false_eq_true, rs_c hS, rs_f704 hS, rs_a3 hS, Prod.mk.injEq, n3, n4, r3, st_num_some, z1]
      exact ih p hpl (tr_it_pa hit hp) hq
theorem jl_X7_root {G : en_G}  {m : Nat} {A : st_A} {n : Nat} {q : Option en_V → en_S → Prop} {σ : en_S} (hp : RX m A σ ∧ n < tr_N (sa_T A)) (hq : ∀ v σ', (σ' = σ ∧ v = some (en_I (nI (tr_root (sa_T A) n)))) → q v σ') : en_J (X_X7_root G q) 0 [en_R (some m), en_I (nI n), en_U] [] σ := by
  obtain ⟨hp, hn⟩ := hp
  have hw := hp.2.2.2.2.2.2.2.2.2.1
  have := jw_X7_root (G := G) (q := q) (n0 := nI n) hp 24 n hn (hw.2.2.2.2.2.2.2.2 n hn) (hq _ _ ⟨rfl, rfl⟩)
  simp only [j_X7_root_0, j_X7_root_1, j_X7_root_3, j_X7_root_6, j_X7_root_7, j_X7_root_8, j_X7_root_11, j_X7_root_12, j_X7_root_15, j_X7_root_16, j_X7_root_17, j_X7_root_18, j_X7_root_21, j_X7_root_22, en_c2I, en_c2R, en_c2U, en_c2D, Option.some.injEq, exists_eq_left', exists_eq_left, Option.map_some, Option.map_none, not_true_eq_false, false_implies, true_implies, and_true, true_and, reduceCtorEq, not_false_eq_true]
  exact this
theorem jp_X7_root {G : en_G}  : ∀ as σ, (C_X7_root G).1 as σ → (en_lc as).length ≤ 3 ∧ en_J (X_X7_root G (fun r σ' => (C_X7_root G).2 as σ r σ')) 0 (en_loc 3 as) [] σ := en_ghJ (fun g as σ h => by
  obtain ⟨hp, h2⟩ := h
  subst h2
  exact ⟨Nat.le_of_ble_eq_true rfl, jl_X7_root hp (fun _ _ h => h)⟩)
theorem ok_X7_root {G : en_G}  : en_Ok G 1 yX7_root cX7_root 3 (some .int) (C_X7_root G) :=
  en_met (own := RX7) (fl := en_lk fl7) (nw := en_lk nw7) (aw := en_lk aw7) (dc := en_lk dc7) (ca := en_lk (ca_X7_root G)) (rt := 1) (ini := false) (by decide +kernel) (Or.inr (Or.inl ⟨rfl, rfl⟩)) (fun h => by cases h) rfl (fun q => en_LkF fl7_ok nw7_ok aw7_ok dc7_ok) (fun idx q hq => by cases hq) jp_X7_root
def P_X7_placeOf (G : en_G)  (g : (Nat) × (Nat) × (Nat) × (List Nat)) (as : List en_V) (σ : en_S) : Prop := (rs_ok (g.1) σ ∧ (g.2.1) < 24 ∧ (g.2.2.1) < 24 ∧ en_ai σ ((g.1) + 3) (g.2.1) = nI (g.2.2.1) ∧ (∀ j c, (g.2.2.2)[j]? = some c → en_ai σ ((g.1) + 8) (24 * (g.2.2.1) + j) = nI c ∧ c < 24) ∧ (g.2.2.2).length ≤ 24 ∧ (g.2.1) ∈ (g.2.2.2)) ∧ as = [en_R (some (g.1)), en_I (nI (g.2.1))]
def C_X7_placeOf (G : en_G)  : en_C := en_gh (P_X7_placeOf G) (fun g as σ v σ' => σ' = σ ∧ ∃ pre suf, (g.2.2.2) = pre ++ (g.2.1) :: suf ∧ (g.2.1) ∉ pre ∧ v = some (en_I (nI pre.length)))
theorem pr_X7_placeOf {G : en_G}  : ∀ as σ, (C_X7_placeOf G).1 as σ → ∃ b tl, as = en_R (some b) :: tl ∧ en_cl σ b = some 7 ∧ tl.length = 1 := fun as σ ⟨g, hp, h2⟩ => ⟨_, _, h2, rs_c hp.1, rfl⟩
theorem cu_X7_placeOf {G : en_G}  {m : Nat} {n : Nat} {p : Nat} {l : List Nat} {σ : en_S} (hp : rs_ok m σ ∧ n < 24 ∧ p < 24 ∧ en_ai σ (m + 3) n = nI p ∧ (∀ j c, l[j]? = some c → en_ai σ (m + 8) (24 * p + j) = nI c ∧ c < 24) ∧ l.length ≤ 24 ∧ n ∈ l) : en_Us (C_X7_placeOf G) [en_R (some m), en_I (nI n)] σ (fun v σ' => σ' = σ ∧ ∃ pre suf, l = pre ++ n :: suf ∧ n ∉ pre ∧ v = some (en_I (nI pre.length))) := ⟨⟨(m, n, p, l), hp, rfl⟩, fun v σ' q => q (m, n, p, l) ⟨hp, rfl⟩⟩
def ca_X7_placeOf (G : en_G) : List (Nat × Nat × en_C) := []
def X_X7_placeOf (G : en_G) (q : Option en_V → en_S → Prop) : en_X := en_mk G cX7_placeOf (en_lk fl7) (en_lk nw7) (en_lk aw7) (en_lk dc7) (en_lk (ca_X7_placeOf G)) 1 false q
theorem d_X7_placeOf_0 : decode cX7_placeOf 0 = .ok (.aload_n 0, 1) := by decide +kernel
theorem j_X7_placeOf_0 {G : en_G} {q : Option en_V → en_S → Prop}  {l1 l2 l3 : en_V} {x0 : Option Nat} {σ : en_S} : en_J (X_X7_placeOf G q) 0 [en_R x0, l1, l2, l3] [] σ ↔ en_J (X_X7_placeOf G q) 1 [en_R x0, l1, l2, l3] [en_R x0] σ := en_j1 d_X7_placeOf_0 rfl rfl
theorem d_X7_placeOf_1 : decode cX7_placeOf 1 = .ok (.getfield 20, 3) := by decide +kernel
theorem j_X7_placeOf_1 {G : en_G} {q : Option en_V → en_S → Prop}  {l0 l1 l2 l3 : en_V} {a0 : Option Nat} {σ : en_S} : en_J (X_X7_placeOf G q) 1 [l0, l1, l2, l3] [en_R a0] σ ↔ ∃ a, a0 = some a ∧ en_cl σ a = some 7 ∧ en_J (X_X7_placeOf G q) 4 [l0, l1, l2, l3] [en_R (en_fr σ 704 a)] σ := en_jg (st := fun o => [en_R o]) (st' := fun a => [en_R (en_fr σ 704 a)]) (σ' := fun _ => σ) d_X7_placeOf_1 rfl (fun a => rfl) (fun a => ⟨fun h => h.2, fun h => ⟨rfl, h⟩⟩)
theorem d_X7_placeOf_4 : decode cX7_placeOf 4 = .ok (.iload_n 1, 1) := by decide +kernel
theorem j_X7_placeOf_4 {G : en_G} {q : Option en_V → en_S → Prop}  {l0 l2 l3 : en_V} {a0 : Option Nat} {x1 : Int32} {σ : en_S} : en_J (X_X7_placeOf G q) 4 [l0, en_I x1, l2, l3] [en_R a0] σ ↔ en_J (X_X7_placeOf G q) 5 [l0, en_I x1, l2, l3] [en_I x1, en_R a0] σ := en_j1 d_X7_placeOf_4 rfl rfl
theorem d_X7_placeOf_5 : decode cX7_placeOf 5 = .ok (.iaload, 1) := by decide +kernel
theorem j_X7_placeOf_5 {G : en_G} {q : Option en_V → en_S → Prop}  {l0 l1 l2 l3 : en_V} {a0 : Int32} {a1 : Option Nat} {σ : en_S} : en_J (X_X7_placeOf G q) 5 [l0, l1, l2, l3] [en_I a0, en_R a1] σ ↔ ∃ a, a1 = some a ∧ (∃ k, en_al σ a = some (0, k) ∧ vp_in a0 k) ∧ en_J (X_X7_placeOf G q) 6 [l0, l1, l2, l3] [en_I (en_ai σ a a0.toNatClampNeg)] σ := ej_iaload d_X7_placeOf_5 rfl
theorem d_X7_placeOf_6 : decode cX7_placeOf 6 = .ok (.istore_n 2, 1) := by decide +kernel
theorem j_X7_placeOf_6 {G : en_G} {q : Option en_V → en_S → Prop}  {l0 l1 l2 l3 : en_V} {a0 : Int32} {σ : en_S} : en_J (X_X7_placeOf G q) 6 [l0, l1, l2, l3] [en_I a0] σ ↔ en_J (X_X7_placeOf G q) 7 [l0, en_c2 l1, en_I a0, l3] [] σ := en_j1 d_X7_placeOf_6 rfl ⟨rfl, Nat.le_of_ble_eq_true rfl⟩
theorem d_X7_placeOf_7 : decode cX7_placeOf 7 = .ok (.iconst 0, 1) := by decide +kernel
theorem j_X7_placeOf_7 {G : en_G} {q : Option en_V → en_S → Prop}  {l0 l1 l2 l3 : en_V}  {σ : en_S} : en_J (X_X7_placeOf G q) 7 [l0, l1, l2, l3] [] σ ↔ en_J (X_X7_placeOf G q) 8 [l0, l1, l2, l3] [en_I 0] σ := ej_iconst d_X7_placeOf_7 (by decide +kernel)
theorem d_X7_placeOf_8 : decode cX7_placeOf 8 = .ok (.istore_n 3, 1) := by decide +kernel
theorem j_X7_placeOf_8 {G : en_G} {q : Option en_V → en_S → Prop}  {l0 l1 l2 l3 : en_V} {a0 : Int32} {σ : en_S} : en_J (X_X7_placeOf G q) 8 [l0, l1, l2, l3] [en_I a0] σ ↔ en_J (X_X7_placeOf G q) 9 [l0, l1, en_c2 l2, en_I a0] [] σ := en_j1 d_X7_placeOf_8 rfl ⟨rfl, Nat.le_of_ble_eq_true rfl⟩
theorem d_X7_placeOf_9 : decode cX7_placeOf 9 = .ok (.aload_n 0, 1) := by decide +kernel
theorem j_X7_placeOf_9 {G : en_G} {q : Option en_V → en_S → Prop}  {l1 l2 l3 : en_V} {x0 : Option Nat} {σ : en_S} : en_J (X_X7_placeOf G q) 9 [en_R x0, l1, l2, l3] [] σ ↔ en_J (X_X7_placeOf G q) 10 [en_R x0, l1, l2, l3] [en_R x0] σ := en_j1 d_X7_placeOf_9 rfl rfl
theorem d_X7_placeOf_10 : decode cX7_placeOf 10 = .ok (.getfield 36, 3) := by decide +kernel
theorem j_X7_placeOf_10 {G : en_G} {q : Option en_V → en_S → Prop}  {l0 l1 l2 l3 : en_V} {a0 : Option Nat} {σ : en_S} : en_J (X_X7_placeOf G q) 10 [l0, l1, l2, l3] [en_R a0] σ ↔ ∃ a, a0 = some a ∧ en_cl σ a = some 7 ∧ en_J (X_X7_placeOf G q) 13 [l0, l1, l2, l3] [en_R (en_fr σ 709 a)] σ := en_jg (st := fun o => [en_R o]) (st' := fun a => [en_R (en_fr σ 709 a)]) (σ' := fun _ => σ) d_X7_placeOf_10 rfl (fun a => rfl) (fun a => ⟨fun h => h.2, fun h => ⟨rfl, h⟩⟩)
theorem d_X7_placeOf_13 : decode cX7_placeOf 13 = .ok (.bipush 24, 2) := by decide +kernel
theorem j_X7_placeOf_13 {G : en_G} {q : Option en_V → en_S → Prop}  {l0 l1 l2 l3 : en_V} {a0 : Option Nat} {σ : en_S} : en_J (X_X7_placeOf G q) 13 [l0, l1, l2, l3] [en_R a0] σ ↔ en_J (X_X7_placeOf G q) 15 [l0, l1, l2, l3] [en_I 24, en_R a0] σ := ej_bipush d_X7_placeOf_13 (by decide +kernel)
theorem d_X7_placeOf_15 : decode cX7_placeOf 15 = .ok (.iload_n 2, 1) := by decide +kernel
theorem j_X7_placeOf_15 {G : en_G} {q : Option en_V → en_S → Prop}  {l0 l1 l3 : en_V} {a0 : Int32} {a1 : Option Nat} {x2 : Int32} {σ : en_S} : en_J (X_X7_placeOf G q) 15 [l0, l1, en_I x2, l3] [en_I a0, en_R a1] σ ↔ en_J (X_X7_placeOf G q) 16 [l0, l1, en_I x2, l3] [en_I x2, en_I a0, en_R a1] σ := en_j1 d_X7_placeOf_15 rfl rfl
theorem d_X7_placeOf_16 : decode cX7_placeOf 16 = .ok (.imul, 1) := by decide +kernel
theorem j_X7_placeOf_16 {G : en_G} {q : Option en_V → en_S → Prop}  {l0 l1 l2 l3 : en_V} {a0 : Int32} {a1 : Int32} {a2 : Option Nat} {σ : en_S} : en_J (X_X7_placeOf G q) 16 [l0, l1, l2, l3] [en_I a0, en_I a1, en_R a2] σ ↔ en_J (X_X7_placeOf G q) 17 [l0, l1, l2, l3] [en_I (a1 * a0), en_R a2] σ := en_j1 d_X7_placeOf_16 rfl ⟨rfl, trivial⟩
theorem d_X7_placeOf_17 : decode cX7_placeOf 17 = .ok (.iload_n 3, 1) := by decide +kernel
theorem j_X7_placeOf_17 {G : en_G} {q : Option en_V → en_S → Prop}  {l0 l1 l2 : en_V} {a0 : Int32} {a1 : Option Nat} {x3 : Int32} {σ : en_S} : en_J (X_X7_placeOf G q) 17 [l0, l1, l2, en_I x3] [en_I a0, en_R a1] σ ↔ en_J (X_X7_placeOf G q) 18 [l0, l1, l2, en_I x3] [en_I x3, en_I a0, en_R a1] σ := en_j1 d_X7_placeOf_17 rfl rfl
theorem d_X7_placeOf_18 : decode cX7_placeOf 18 = .ok (.iadd, 1) := by decide +kernel
theorem j_X7_placeOf_18 {G : en_G} {q : Option en_V → en_S → Prop}  {l0 l1 l2 l3 : en_V} {a0 : Int32} {a1 : Int32} {a2 : Option Nat} {σ : en_S} : en_J (X_X7_placeOf G q) 18 [l0, l1, l2, l3] [en_I a0, en_I a1, en_R a2] σ ↔ en_J (X_X7_placeOf G q) 19 [l0, l1, l2, l3] [en_I (a1 + a0), en_R a2] σ := en_j1 d_X7_placeOf_18 rfl ⟨rfl, trivial⟩
theorem d_X7_placeOf_19 : decode cX7_placeOf 19 = .ok (.iaload, 1) := by decide +kernel
theorem j_X7_placeOf_19 {G : en_G} {q : Option en_V → en_S → Prop}  {l0 l1 l2 l3 : en_V} {a0 : Int32} {a1 : Option Nat} {σ : en_S} : en_J (X_X7_placeOf G q) 19 [l0, l1, l2, l3] [en_I a0, en_R a1] σ ↔ ∃ a, a1 = some a ∧ (∃ k, en_al σ a = some (0, k) ∧ vp_in a0 k) ∧ en_J (X_X7_placeOf G q) 20 [l0, l1, l2, l3] [en_I (en_ai σ a a0.toNatClampNeg)] σ := ej_iaload d_X7_placeOf_19 rfl
theorem d_X7_placeOf_20 : decode cX7_placeOf 20 = .ok (.iload_n 1, 1) := by decide +kernel
theorem j_X7_placeOf_20 {G : en_G} {q : Option en_V → en_S → Prop}  {l0 l2 l3 : en_V} {a0 : Int32} {x1 : Int32} {σ : en_S} : en_J (X_X7_placeOf G q) 20 [l0, en_I x1, l2, l3] [en_I a0] σ ↔ en_J (X_X7_placeOf G q) 21 [l0, en_I x1, l2, l3] [en_I x1, en_I a0] σ := en_j1 d_X7_placeOf_20 rfl rfl
theorem d_X7_placeOf_21 : decode cX7_placeOf 21 = .ok (.if_icmp .eq 9, 3) := by decide +kernel
theorem j_X7_placeOf_21 {G : en_G} {q : Option en_V → en_S → Prop}  {l0 l1 l2 l3 : en_V} {a0 : Int32} {a1 : Int32} {σ : en_S} : en_J (X_X7_placeOf G q) 21 [l0, l1, l2, l3] [en_I a0, en_I a1] σ ↔ (a1 = a0 → en_J (X_X7_placeOf G q) 30 [l0, l1, l2, l3] [] σ) ∧ (¬ (a1 = a0) → en_J (X_X7_placeOf G q) 24 [l0, l1, l2, l3] [] σ) := en_jb d_X7_placeOf_21 rfl ⟨rfl, by decide⟩
theorem d_X7_placeOf_24 : decode cX7_placeOf 24 = .ok (.iinc 3 1, 3) := by decide +kernel
theorem j_X7_placeOf_24 {G : en_G} {q : Option en_V → en_S → Prop}  {l0 l1 l2 : en_V} {x3 : Int32} {σ : en_S} : en_J (X_X7_placeOf G q) 24 [l0, l1, l2, en_I x3] [] σ ↔ en_J (X_X7_placeOf G q) 27 [l0, l1, en_c2 l2, en_I (x3 + 1)] [] σ := ej_iinc d_X7_placeOf_24 rfl (by decide +kernel) rfl
theorem d_X7_placeOf_27 : decode cX7_placeOf 27 = .ok (.goto (-18), 3) := by decide +kernel
theorem j_X7_placeOf_27 {G : en_G} {q : Option en_V → en_S → Prop}  {l0 l1 l2 l3 : en_V}  {σ : en_S} : en_J (X_X7_placeOf G q) 27 [l0, l1, l2, l3] [] σ ↔ en_J (X_X7_placeOf G q) 9 [l0, l1, l2, l3] [] σ := en_j1 d_X7_placeOf_27 rfl ⟨rfl, by decide⟩
theorem d_X7_placeOf_30 : decode cX7_placeOf 30 = .ok (.iload_n 3, 1) := by decide +kernel
theorem j_X7_placeOf_30 {G : en_G} {q : Option en_V → en_S → Prop}  {l0 l1 l2 : en_V} {x3 : Int32} {σ : en_S} : en_J (X_X7_placeOf G q) 30 [l0, l1, l2, en_I x3] [] σ ↔ en_J (X_X7_placeOf G q) 31 [l0, l1, l2, en_I x3] [en_I x3] σ := en_j1 d_X7_placeOf_30 rfl rfl
theorem d_X7_placeOf_31 : decode cX7_placeOf 31 = .ok (.ireturn, 1) := by decide +kernel
theorem j_X7_placeOf_31 {G : en_G} {q : Option en_V → en_S → Prop}  {l0 l1 l2 l3 : en_V} {a0 : Int32} {σ : en_S} : en_J (X_X7_placeOf G q) 31 [l0, l1, l2, l3] [en_I a0] σ ↔ q (some (en_I a0)) σ := en_jr d_X7_placeOf_31 rfl ⟨fun h => h.2.2, fun h => ⟨rfl, Or.inl rfl, h⟩⟩
theorem wc_X7_placeOf : Jvm.Cond.code yX7_placeOf cX7_placeOf 4 (some .int) ∈ en_W := en_inW (List.mem_of_getElem? (i := 910) (by decide +kernel)) (by decide +kernel)
theorem wi_X7_placeOf : Jvm.Cond.instanceMethod yX7_placeOf ∈ en_W := en_inW (List.mem_of_getElem? (i := 909) (by decide +kernel)) (by decide +kernel)
theorem wx_X7_placeOf : Jvm.Cond.selects RX7 yX7_placeOf yX7_placeOf ∈ en_W := en_inW (List.mem_of_getElem? (i := 21) (by decide +kernel)) (by decide +kernel)
theorem jw_X7_placeOf {G : en_G} {q : Option en_V → en_S → Prop} {m : Nat} {σ : en_S} (hS : rs_ok m σ) {n p : Nat} {l : List Nat} (hn : n < 24) (hpl : p < 24) (hrow : ∀ j c, l[j]? = some c → en_ai σ (m + 8) (24 * p + j) = nI c ∧ c < 24) (hlen : l.length ≤ 24) : ∀ (rest pre : List Nat), l = pre ++ rest → n ∉ pre → n ∈ rest → (∀ pre suf, l = pre ++ n :: suf → n ∉ pre → q (some (en_I (nI pre.length))) σ) → en_J (X_X7_placeOf G q) 9 [en_R (some m), en_I (nI n), en_I (nI p), en_I (nI pre.length)] [] σ := by
  intro rest
  induction rest with
  | nil => intro pre _ _ h _; cases h
  | cons c rest ih =>
    intro pre hl hpre hmem hq
    have hge : l[pre.length]? = some c := by rw [hl]; simp
    obtain ⟨r1, r2⟩ := hrow _ _ hge
    have hll : pre.length < l.length := (List.getElem?_eq_some_iff.mp hge).1
    have e1 := i24 p pre.length
    have n3 : vp_in (nI (24 * p + pre.length)) 576 := vp_in_nI (by omega) (by decide)
    have n4 : (nI (24 * p + pre.length)).toNatClampNeg = 24 * p + pre.length := nI_clamp (by omega)
    rw [j_X7_placeOf_9]
    by_cases hc : c = n
    · subst hc
      simp only [j_X7_placeOf_0, j_X7_placeOf_1, j_X7_placeOf_4, j_X7_placeOf_5, j_X7_placeOf_6, j_X7_placeOf_7, j_X7_placeOf_8, j_X7_placeOf_10, j_X7_placeOf_13, j_X7_placeOf_15, j_X7_placeOf_16, j_X7_placeOf_17, j_X7_placeOf_18, j_X7_placeOf_19, j_X7_placeOf_20, j_X7_placeOf_21, j_X7_placeOf_24, j_X7_placeOf_27, j_X7_placeOf_30, j_X7_placeOf_31, en_c2I, en_c2R, en_c2U, en_c2D, Option.some.injEq, exists_eq_left', exists_eq_left, Option.map_some, Option.map_none, not_true_eq_false, false_implies, true_implies, and_true, true_and, reduceCtorEq, not_false_eq_true, rs_c hS, rs_f704 hS, rs_a3 hS, rs_f709 hS, rs_a8 hS, Prod.mk.injEq, e1, n3, n4, r1]
      exact hq pre rest hl hpre
    · have hne : ¬ nI c = nI n := fun z => hc (nI_inj (by omega) (by omega) z)
      have n5 : nI pre.length + 1 = nI (pre ++ [c]).length := by rw [List.length_append]; exact nI_1 _
      simp only [j_X7_placeOf_0, j_X7_placeOf_1, j_X7_placeOf_4, j_X7_placeOf_5, j_X7_placeOf_6, j_X7_placeOf_7, j_X7_placeOf_8, j_X7_placeOf_10, j_X7_placeOf_13, j_X7_placeOf_15, j_X7_placeOf_16, j_X7_placeOf_17, j_X7_placeOf_18, j_X7_placeOf_19, j_X7_placeOf_20, j_X7_placeOf_21, j_X7_placeOf_24, j_X7_placeOf_27, j_X7_placeOf_30, j_X7_placeOf_31, en_c2I, en_c2R, en_c2U, en_c2D, Option.some.injEq, exists_eq_left', exists_eq_left, Option.map_some, Option.map_none, not_true_eq_false, false_implies, true_implies, and_true, true_and, reduceCtorEq, not_false_eq_true, rs_c hS, rs_f704 hS, rs_a3 hS, rs_f709 hS, rs_a8 hS, Prod.mk.injEq, e1, n3, n4, r1, hne, n5]
      refine ih (pre ++ [c]) (by rw [hl]; simp) (fun z => ?_) ?_ hq
      · rcases List.mem_append.mp z with z | z
        · exact hpre z
        · exact hc (List.mem_singleton.mp z).symm
      · rcases List.mem_cons.mp hmem with z | z
        · exact absurd z.symm hc
        · exact z
theorem jl_X7_placeOf {G : en_G}  {m : Nat} {n : Nat} {p : Nat} {l : List Nat} {q : Option en_V → en_S → Prop} {σ : en_S} (hp : rs_ok m σ ∧ n < 24 ∧ p < 24 ∧ en_ai σ (m + 3) n = nI p ∧ (∀ j c, l[j]? = some c → en_ai σ (m + 8) (24 * p + j) = nI c ∧ c < 24) ∧ l.length ≤ 24 ∧ n ∈ l) (hq : ∀ v σ', (σ' = σ ∧ ∃ pre suf, l = pre ++ n :: suf ∧ n ∉ pre ∧ v = some (en_I (nI pre.length))) → q v σ') : en_J (X_X7_placeOf G q) 0 [en_R (some m), en_I (nI n), en_U, en_U] [] σ := by
  obtain ⟨hS, hn, hpl, r3, hrow, hlen, hmem⟩ := hp
  have n3 : vp_in (nI n) 24 := vp_in_nI (by omega) (by decide)
  have n4 : (nI n).toNatClampNeg = n := nI_clamp (by omega)
  have := jw_X7_placeOf (G := G) (q := q) hS hn hpl hrow hlen l [] rfl (fun z => by cases z) hmem (fun pre suf h1 h2 => hq _ _ ⟨rfl, pre, suf, h1, h2, rfl⟩)
  rw [show nI ([] : List Nat).length = 0 from by decide +kernel] at this
  simp only [j_X7_placeOf_0, j_X7_placeOf_1, j_X7_placeOf_4, j_X7_placeOf_5, j_X7_placeOf_6, j_X7_placeOf_7, j_X7_placeOf_8, j_X7_placeOf_10, j_X7_placeOf_13, j_X7_placeOf_15, j_X7_placeOf_16, j_X7_placeOf_17, j_X7_placeOf_18, j_X7_placeOf_19, j_X7_placeOf_20, j_X7_placeOf_21, j_X7_placeOf_24, j_X7_placeOf_27, j_X7_placeOf_30, j_X7_placeOf_31, en_c2I, en_c2R, en_c2U, en_c2D, Option.some.injEq, exists_eq_left', exists_eq_left, Option.map_some, Option.map_none, not_true_eq_false, false_implies, true_implies, and_true, true_and, reduceCtorEq, not_false_eq_true, rs_c hS, rs_f704 hS, rs_a3 hS, rs_f709 hS, rs_a8 hS, Prod.mk.injEq, n3, n4, r3]
  exact this
theorem jp_X7_placeOf {G : en_G}  : ∀ as σ, (C_X7_placeOf G).1 as σ → (en_lc as).length ≤ 4 ∧ en_J (X_X7_placeOf G (fun r σ' => (C_X7_placeOf G).2 as σ r σ')) 0 (en_loc 4 as) [] σ := en_ghJ (fun g as σ h => by
  obtain ⟨hp, h2⟩ := h
  subst h2
  exact ⟨Nat.le_of_ble_eq_true rfl, jl_X7_placeOf hp (fun _ _ h => h)⟩)
theorem ok_X7_placeOf {G : en_G}  : en_Ok G 1 yX7_placeOf cX7_placeOf 4 (some .int) (C_X7_placeOf G) :=
  en_met (own := RX7) (fl := en_lk fl7) (nw := en_lk nw7) (aw := en_lk aw7) (dc := en_lk dc7) (ca := en_lk (ca_X7_placeOf G)) (rt := 1) (ini := false) (by decide +kernel) (Or.inr (Or.inl ⟨rfl, rfl⟩)) (fun h => by cases h) rfl (fun q => en_LkF fl7_ok nw7_ok aw7_ok dc7_ok) (fun idx q hq => by cases hq) jp_X7_placeOf
