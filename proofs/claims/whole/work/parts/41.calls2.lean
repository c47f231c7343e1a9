theorem cu_X5_append {a c d k : Nat} {x y : Int32} {σ : en_S} (hp : en_cl σ a = some 5 ∧ en_fr σ 500 a = some c ∧ en_fr σ 501 a = some d ∧ en_al σ c = some (0, 5) ∧ en_al σ d = some (0, 5) ∧ en_fi σ 502 a = nI k ∧ k ≤ 5) : en_Us C_X5_append [en_R (some a), en_I x, en_I y] σ (fun v σ' => v = some (en_I (if k < 5 then 1 else 0)) ∧ σ' = (if k < 5 then en_sfi (en_sai (en_sai σ c k x) d k y) 502 a (nI (k + 1)) else σ)) := by
  refine ⟨⟨a, c, d, k, x, y, rfl, hp⟩, fun v σ' q => ?_⟩
  obtain ⟨a', c', d', k', x', y', e, q1, q2, q3, q4, q5, q6⟩ := q
  simp only [List.cons.injEq, en_Rinj, en_Iinj, Option.some.injEq, and_true] at e
  obtain ⟨rfl, rfl, rfl⟩ := e
  rw [hp.2.1] at q1
  rw [hp.2.2.1] at q2
  rw [hp.2.2.2.2.2.1] at q3
  cases q1
  cases q2
  have := nI_inj (by omega) (by omega) q3
  subst this
  exact ⟨q5, q6⟩
theorem cu_X1_startOf {a : Nat} {σ : en_S} (hp : a < 2 ^ 31) : en_Us C_X1_startOf [en_I (nI a)] σ (fun v σ' => σ' = σ ∧ v = some (en_I (nI (a % 32 * 5)))) := by
  refine ⟨⟨a, rfl, hp⟩, fun v σ' q => ?_⟩
  obtain ⟨a', e, q1, q2, q3⟩ := q
  simp only [List.cons.injEq, en_Iinj, and_true] at e
  have := nI_inj hp q2 e
  subst this
  exact ⟨q1, q3⟩
def P_X6_remove (G : en_G)  (g : (Nat) × (Nat) × (pb_S) × (Int32)) (as : List en_V) (σ : en_S) : Prop := (PZ G (g.1) ((g.2.1) + 64) (g.2.2.1) σ) ∧ as = [en_R (some (g.1)), en_I (g.2.2.2)]
def C_X6_remove (G : en_G)  : en_C := en_gh (P_X6_remove G) (fun g as σ v σ' => PZ G (g.1) (g.2.1) (op_remove (g.2.2.1) (g.2.2.2)).1 σ' ∧ ag σ σ' pF (pV (g.1)) ∧ v = some (en_I (op_remove (g.2.2.1) (g.2.2.2)).2))
theorem pr_X6_remove {G : en_G}  : ∀ as σ, (C_X6_remove G).1 as σ → ∃ b tl, as = en_R (some b) :: tl ∧ en_cl σ b = some 6 ∧ tl.length = 1 := fun as σ ⟨g, hp, h2⟩ => ⟨_, _, h2, hp.cl, rfl⟩
theorem cu_X6_remove {G : en_G}  {x : Nat} {rm : Nat} {S : pb_S} {k : Int32} {σ : en_S} (hp : PZ G x (rm + 64) S σ) : en_Us (C_X6_remove G) [en_R (some x), en_I k] σ (fun v σ' => PZ G x rm (op_remove S k).1 σ' ∧ ag σ σ' pF (pV x) ∧ v = some (en_I (op_remove S k).2)) := ⟨⟨(x, rm, S, k), hp, rfl⟩, fun v σ' q => q (x, rm, S, k) ⟨hp, rfl⟩⟩
def ca_X6_remove (G : en_G) : List (Nat × Nat × en_C) := [(57, 9, (C_X6_nodeAt G)), (100, 4, (C_X6_takeOut G))]
def X_X6_remove (G : en_G) (q : Option en_V → en_S → Prop) : en_X := en_mk G cX6_remove (en_lk fl6) (en_lk nw6) (en_lk aw6) (en_lk dc6) (en_lk (ca_X6_remove G)) 2 false q
theorem d_X6_remove_0 : decode cX6_remove 0 = .ok (.aload_n 0, 1) := by decide +kernel
theorem j_X6_remove_0 {G : en_G} {q : Option en_V → en_S → Prop}  {l1 : en_V} {x0 : Option Nat} {σ : en_S} : en_J (X_X6_remove G q) 0 [en_R x0, l1] [] σ ↔ en_J (X_X6_remove G q) 1 [en_R x0, l1] [en_R x0] σ := en_j1 d_X6_remove_0 rfl rfl
theorem d_X6_remove_1 : decode cX6_remove 1 = .ok (.iload_n 1, 1) := by decide +kernel
theorem j_X6_remove_1 {G : en_G} {q : Option en_V → en_S → Prop}  {l0 : en_V} {a0 : Option Nat} {x1 : Int32} {σ : en_S} : en_J (X_X6_remove G q) 1 [l0, en_I x1] [en_R a0] σ ↔ en_J (X_X6_remove G q) 2 [l0, en_I x1] [en_I x1, en_R a0] σ := en_j1 d_X6_remove_1 rfl rfl
theorem d_X6_remove_2 : decode cX6_remove 2 = .ok (.invokevirtual 57, 3) := by decide +kernel
theorem j_X6_remove_2 {G : en_G} {q : Option en_V → en_S → Prop}  {l0 l1 : en_V} {a0 : Int32} {a1 : Option Nat} {σ : en_S} : en_J (X_X6_remove G q) 2 [l0, l1] [en_I a0, en_R a1] σ ↔ (C_X6_nodeAt G).1 [en_R a1, en_I a0] σ ∧ ∀ (r : Option en_V) (σ' : en_S), (C_X6_nodeAt G).2 [en_R a1, en_I a0] σ r σ' → en_J (X_X6_remove G q) 5 [l0, l1] (r.toList ++ []) σ' := en_jkC (C := (C_X6_nodeAt G)) (n' := 2) (k := 1) (idx := 57) d_X6_remove_2 rfl rfl (by decide) (Nat.le_of_ble_eq_true rfl) (Nat.le_of_ble_eq_true rfl)
theorem d_X6_remove_5 : decode cX6_remove 5 = .ok (.invokestatic 100, 3) := by decide +kernel
theorem j_X6_remove_5 {G : en_G} {q : Option en_V → en_S → Prop}  {l0 l1 : en_V} {a0 : Option Nat} {σ : en_S} : en_J (X_X6_remove G q) 5 [l0, l1] [en_R a0] σ ↔ (C_X6_takeOut G).1 [en_R a0] σ ∧ ∀ (r : Option en_V) (σ' : en_S), (C_X6_takeOut G).2 [en_R a0] σ r σ' → en_J (X_X6_remove G q) 8 [l0, l1] (r.toList ++ []) σ' := en_jkC (C := (C_X6_takeOut G)) (n' := 1) (k := 0) (idx := 100) d_X6_remove_5 rfl rfl (by decide) (Nat.le_of_ble_eq_true rfl) (Nat.le_of_ble_eq_true rfl)
theorem d_X6_remove_8 : decode cX6_remove 8 = .ok (.ireturn, 1) := by decide +kernel
theorem j_X6_remove_8 {G : en_G} {q : Option en_V → en_S → Prop}  {l0 l1 : en_V} {a0 : Int32} {σ : en_S} : en_J (X_X6_remove G q) 8 [l0, l1] [en_I a0] σ ↔ (a0 = 0 ∨ a0 = 1) ∧ q (some (en_I a0)) σ := en_jr d_X6_remove_8 rfl ⟨fun h => ⟨h.2.1.elim (fun z => absurd (show (2 : Nat) = 1 from z) (by decide)) (fun z => z.2), h.2.2⟩, fun h => ⟨rfl, Or.inr ⟨rfl, h.1⟩, h.2⟩⟩
theorem wc_X6_remove : Jvm.Cond.code yX6_remove cX6_remove 2 (some .boolean) ∈ en_W := en_inW (List.mem_of_getElem? (i := 255) (by decide +kernel)) (by decide +kernel)
theorem wi_X6_remove : Jvm.Cond.instanceMethod yX6_remove ∈ en_W := en_inW (List.mem_of_getElem? (i := 253) (by decide +kernel)) (by decide +kernel)
theorem wx_X6_remove : Jvm.Cond.selects RX6 yX6_remove yX6_remove ∈ en_W := en_inW (List.mem_of_getElem? (i := 254) (by decide +kernel)) (by decide +kernel)
theorem jl_X6_remove {G : en_G}  {x : Nat} {rm : Nat} {S : pb_S} {k : Int32} {q : Option en_V → en_S → Prop} {σ : en_S} (hp : PZ G x (rm + 64) S σ) (hq : ∀ v σ', (PZ G x rm (op_remove S k).1 σ' ∧ ag σ σ' pF (pV x) ∧ v = some (en_I (op_remove S k).2)) → q v σ') : en_J (X_X6_remove G q) 0 [en_R (some x), en_I k] [] σ := by
  obtain ⟨na, la, ba, hP⟩ := hp
  have hC := hP.1
  have w := hC.2.2.2.2.2.2.2.2.1
  simp only [j_X6_remove_0, j_X6_remove_1, j_X6_remove_2, j_X6_remove_5, j_X6_remove_8, en_c2I, en_c2R, en_c2U, en_c2D, Option.some.injEq, exists_eq_left', exists_eq_left, Option.map_some, Option.map_none, not_true_eq_false, false_implies, true_implies, and_true, true_and, reduceCtorEq, not_false_eq_true]
  refine en_use (cu_X6_nodeAt hC) ?_
  rintro v σ' ⟨rfl, rfl⟩
  simp only [Option.toList, List.cons_append, List.nil_append, j_X6_remove_0, j_X6_remove_1, j_X6_remove_2, j_X6_remove_5, j_X6_remove_8, en_c2I, en_c2R, en_c2U, en_c2D, Option.some.injEq, exists_eq_left', exists_eq_left, Option.map_some, Option.map_none, not_true_eq_false, false_implies, true_implies, and_true, true_and, reduceCtorEq, not_false_eq_true]
  refine en_use (cu_X6_takeOut ⟨hC, fun n hn => (st_ix_some (by have := w.1.1.2; omega) hn).1⟩) ?_
  rintro v σ'' ⟨hC', hg, rfl⟩
  simp only [Option.toList, List.cons_append, List.nil_append, j_X6_remove_0, j_X6_remove_1, j_X6_remove_2, j_X6_remove_5, j_X6_remove_8, en_c2I, en_c2R, en_c2U, en_c2D, Option.some.injEq, exists_eq_left', exists_eq_left, Option.map_some, Option.map_none, not_true_eq_false, false_implies, true_implies, and_true, true_and, reduceCtorEq, not_false_eq_true]
  refine ⟨st_b01 _, hq _ _ ⟨(hP.q4 hC' hg ?_).z (by omega), pq4 hg, rfl⟩⟩
  cases st_ix (tr_N (sa_T S.1)) k <;> exact Nat.le_refl _
theorem jp_X6_remove {G : en_G}  : ∀ as σ, (C_X6_remove G).1 as σ → (en_lc as).length ≤ 2 ∧ en_J (X_X6_remove G (fun r σ' => (C_X6_remove G).2 as σ r σ')) 0 (en_loc 2 as) [] σ := en_ghJ (fun g as σ h => by
  obtain ⟨hp, h2⟩ := h
  subst h2
  exact ⟨Nat.le_of_ble_eq_true rfl, jl_X6_remove hp (fun _ _ h => h)⟩)
theorem wl_X6_remove_57 : Jvm.Cond.methodLink RX6 57 yX6_nodeAt ∈ en_W := en_inW (List.mem_of_getElem? (i := 248) (by decide +kernel)) (by decide +kernel)
theorem wl_X6_remove_100 : Jvm.Cond.methodLink RX6 100 yX6_takeOut ∈ en_W := en_inW (List.mem_of_getElem? (i := 256) (by decide +kernel)) (by decide +kernel)
theorem ok_X6_remove {G : en_G}  : en_Ok G 3 yX6_remove cX6_remove 2 (some .boolean) (C_X6_remove G) :=
  en_met (own := RX6) (fl := en_lk fl6) (nw := en_lk nw6) (aw := en_lk aw6) (dc := en_lk dc6) (ca := en_lk (ca_X6_remove G)) (rt := 2) (ini := false) (by decide +kernel) (Or.inr (Or.inr (Or.inl ⟨rfl, rfl⟩))) (fun h => by cases h) rfl (fun q => en_LkF fl6_ok nw6_ok aw6_ok dc6_ok) (by
    intro idx q hq
    have hm := en_lk_mem hq
    simp only [ca_X6_remove, List.mem_cons, Prod.mk.injEq, List.not_mem_nil, or_false] at hm
    rcases hm with ⟨rfl, rfl⟩ | ⟨rfl, rfl⟩
    · exact en_clV (r := (RX6, TX6, 13)) 6 1 ok_X6_nodeAt (by decide) (by decide) rfl rfl pr_X6_nodeAt wl_X6_remove_57 wi_X6_nodeAt wx_X6_nodeAt wz_6 wc_X6_nodeAt ⟨by decide +kernel, by decide +kernel, by decide +kernel⟩
    · exact en_clS 1 ok_X6_takeOut (by decide) (by decide) pr_X6_takeOut wl_X6_remove_100 ws_X6_takeOut wz_6 wc_X6_takeOut ⟨by decide +kernel, by decide +kernel, by decide +kernel⟩) jp_X6_remove
def P_X6_unlisten (G : en_G)  (g : (Nat) × (Nat) × (pb_S) × (Int32)) (as : List en_V) (σ : en_S) : Prop := (PZ G (g.1) ((g.2.1) + 64) (g.2.2.1) σ) ∧ as = [en_R (some (g.1)), en_I (g.2.2.2)]
def C_X6_unlisten (G : en_G)  : en_C := en_gh (P_X6_unlisten G) (fun g as σ v σ' => PZ G (g.1) (g.2.1) (op_unlisten (g.2.2.1) (g.2.2.2)).1 σ' ∧ ag σ σ' pF (pV (g.1)) ∧ v = some (en_I (op_unlisten (g.2.2.1) (g.2.2.2)).2))
theorem pr_X6_unlisten {G : en_G}  : ∀ as σ, (C_X6_unlisten G).1 as σ → ∃ b tl, as = en_R (some b) :: tl ∧ en_cl σ b = some 6 ∧ tl.length = 1 := fun as σ ⟨g, hp, h2⟩ => ⟨_, _, h2, hp.cl, rfl⟩
theorem cu_X6_unlisten {G : en_G}  {x : Nat} {rm : Nat} {S : pb_S} {k : Int32} {σ : en_S} (hp : PZ G x (rm + 64) S σ) : en_Us (C_X6_unlisten G) [en_R (some x), en_I k] σ (fun v σ' => PZ G x rm (op_unlisten S k).1 σ' ∧ ag σ σ' pF (pV x) ∧ v = some (en_I (op_unlisten S k).2)) := ⟨⟨(x, rm, S, k), hp, rfl⟩, fun v σ' q => q (x, rm, S, k) ⟨hp, rfl⟩⟩
def ca_X6_unlisten (G : en_G) : List (Nat × Nat × en_C) := [(122, 9, (C_X6_removeListener G))]
def X_X6_unlisten (G : en_G) (q : Option en_V → en_S → Prop) : en_X := en_mk G cX6_unlisten (en_lk fl6) (en_lk nw6) (en_lk aw6) (en_lk dc6) (en_lk (ca_X6_unlisten G)) 2 false q
theorem d_X6_unlisten_0 : decode cX6_unlisten 0 = .ok (.aload_n 0, 1) := by decide +kernel
theorem j_X6_unlisten_0 {G : en_G} {q : Option en_V → en_S → Prop}  {l1 : en_V} {x0 : Option Nat} {σ : en_S} : en_J (X_X6_unlisten G q) 0 [en_R x0, l1] [] σ ↔ en_J (X_X6_unlisten G q) 1 [en_R x0, l1] [en_R x0] σ := en_j1 d_X6_unlisten_0 rfl rfl
theorem d_X6_unlisten_1 : decode cX6_unlisten 1 = .ok (.iload_n 1, 1) := by decide +kernel
theorem j_X6_unlisten_1 {G : en_G} {q : Option en_V → en_S → Prop}  {l0 : en_V} {a0 : Option Nat} {x1 : Int32} {σ : en_S} : en_J (X_X6_unlisten G q) 1 [l0, en_I x1] [en_R a0] σ ↔ en_J (X_X6_unlisten G q) 2 [l0, en_I x1] [en_I x1, en_R a0] σ := en_j1 d_X6_unlisten_1 rfl rfl
theorem d_X6_unlisten_2 : decode cX6_unlisten 2 = .ok (.invokevirtual 122, 3) := by decide +kernel
theorem j_X6_unlisten_2 {G : en_G} {q : Option en_V → en_S → Prop}  {l0 l1 : en_V} {a0 : Int32} {a1 : Option Nat} {σ : en_S} : en_J (X_X6_unlisten G q) 2 [l0, l1] [en_I a0, en_R a1] σ ↔ (C_X6_removeListener G).1 [en_R a1, en_I a0] σ ∧ ∀ (r : Option en_V) (σ' : en_S), (C_X6_removeListener G).2 [en_R a1, en_I a0] σ r σ' → en_J (X_X6_unlisten G q) 5 [l0, l1] (r.toList ++ []) σ' := en_jkC (C := (C_X6_removeListener G)) (n' := 2) (k := 1) (idx := 122) d_X6_unlisten_2 rfl rfl (by decide) (Nat.le_of_ble_eq_true rfl) (Nat.le_of_ble_eq_true rfl)
theorem d_X6_unlisten_5 : decode cX6_unlisten 5 = .ok (.ireturn, 1) := by decide +kernel
theorem j_X6_unlisten_5 {G : en_G} {q : Option en_V → en_S → Prop}  {l0 l1 : en_V} {a0 : Int32} {σ : en_S} : en_J (X_X6_unlisten G q) 5 [l0, l1] [en_I a0] σ ↔ (a0 = 0 ∨ a0 = 1) ∧ q (some (en_I a0)) σ := en_jr d_X6_unlisten_5 rfl ⟨fun h => ⟨h.2.1.elim (fun z => absurd (show (2 : Nat) = 1 from z) (by decide)) (fun z => z.2), h.2.2⟩, fun h => ⟨rfl, Or.inr ⟨rfl, h.1⟩, h.2⟩⟩
theorem wc_X6_unlisten : Jvm.Cond.code yX6_unlisten cX6_unlisten 2 (some .boolean) ∈ en_W := en_inW (List.mem_of_getElem? (i := 331) (by decide +kernel)) (by decide +kernel)
theorem wi_X6_unlisten : Jvm.Cond.instanceMethod yX6_unlisten ∈ en_W := en_inW (List.mem_of_getElem? (i := 329) (by decide +kernel)) (by decide +kernel)
theorem wx_X6_unlisten : Jvm.Cond.selects RX6 yX6_unlisten yX6_unlisten ∈ en_W := en_inW (List.mem_of_getElem? (i := 330) (by decide +kernel)) (by decide +kernel)
theorem jl_X6_unlisten {G : en_G}  {x : Nat} {rm : Nat} {S : pb_S} {k : Int32} {q : Option en_V → en_S → Prop} {σ : en_S} (hp : PZ G x (rm + 64) S σ) (hq : ∀ v σ', (PZ G x rm (op_unlisten S k).1 σ' ∧ ag σ σ' pF (pV x) ∧ v = some (en_I (op_unlisten S k).2)) → q v σ') : en_J (X_X6_unlisten G q) 0 [en_R (some x), en_I k] [] σ := by
  obtain ⟨na, la, ba, hP⟩ := hp
  have hC := hP.1
  simp only [j_X6_unlisten_0, j_X6_unlisten_1, j_X6_unlisten_2, j_X6_unlisten_5, en_c2I, en_c2R, en_c2U, en_c2D, Option.some.injEq, exists_eq_left', exists_eq_left, Option.map_some, Option.map_none, not_true_eq_false, false_implies, true_implies, and_true, true_and, reduceCtorEq, not_false_eq_true]
  refine en_use (cu_X6_removeListener hC) ?_
  rintro v σ'' ⟨hC', hg, rfl⟩
  simp only [Option.toList, List.cons_append, List.nil_append, j_X6_unlisten_0, j_X6_unlisten_1, j_X6_unlisten_2, j_X6_unlisten_5, en_c2I, en_c2R, en_c2U, en_c2D, Option.some.injEq, exists_eq_left', exists_eq_left, Option.map_some, Option.map_none, not_true_eq_false, false_implies, true_implies, and_true, true_and, reduceCtorEq, not_false_eq_true]
  refine ⟨st_b01 _, hq _ _ ⟨(hP.q4 hC' hg ?_).z (by omega), pq4 hg, rfl⟩⟩
  unfold ds_rem
  cases st_ix (sa_D S.1 0 0) k <;> exact Nat.le_refl _
theorem jp_X6_unlisten {G : en_G}  : ∀ as σ, (C_X6_unlisten G).1 as σ → (en_lc as).length ≤ 2 ∧ en_J (X_X6_unlisten G (fun r σ' => (C_X6_unlisten G).2 as σ r σ')) 0 (en_loc 2 as) [] σ := en_ghJ (fun g as σ h => by
  obtain ⟨hp, h2⟩ := h
  subst h2
  exact ⟨Nat.le_of_ble_eq_true rfl, jl_X6_unlisten hp (fun _ _ h => h)⟩)
theorem wl_X6_unlisten_122 : Jvm.Cond.methodLink RX6 122 yX6_removeListener ∈ en_W := en_inW (List.mem_of_getElem? (i := 332) (by decide +kernel)) (by decide +kernel)
theorem ok_X6_unlisten {G : en_G}  : en_Ok G 3 yX6_unlisten cX6_unlisten 2 (some .boolean) (C_X6_unlisten G) :=
  en_met (own := RX6) (fl := en_lk fl6) (nw := en_lk nw6) (aw := en_lk aw6) (dc := en_lk dc6) (ca := en_lk (ca_X6_unlisten G)) (rt := 2) (ini := false) (by decide +kernel) (Or.inr (Or.inr (Or.inl ⟨rfl, rfl⟩))) (fun h => by cases h) rfl (fun q => en_LkF fl6_ok nw6_ok aw6_ok dc6_ok) (by
    intro idx q hq
    have hm := en_lk_mem hq
    simp only [ca_X6_unlisten, List.mem_cons, Prod.mk.injEq, List.not_mem_nil, or_false] at hm
    rcases hm with ⟨rfl, rfl⟩
    · exact en_clV (r := (RX6, TX6, 13)) 6 1 ok_X6_removeListener (by decide) (by decide) rfl rfl pr_X6_removeListener wl_X6_unlisten_122 wi_X6_removeListener wx_X6_removeListener wz_6 wc_X6_removeListener ⟨by decide +kernel, by decide +kernel, by decide +kernel⟩) jp_X6_unlisten
def P_X6_listen (G : en_G)  (g : (Nat) × (Nat) × (pb_S) × (Int32) × (Int32) × (Int32) × (Int32)) (as : List en_V) (σ : en_S) : Prop := (PZ G (g.1) ((g.2.1) + 64) (g.2.2.1) σ) ∧ as = [en_R (some (g.1)), en_I (g.2.2.2.1), en_I (g.2.2.2.2.1), en_I (g.2.2.2.2.2.1), en_I (g.2.2.2.2.2.2)]
def C_X6_listen (G : en_G)  : en_C := en_gh (P_X6_listen G) (fun g as σ v σ' => PZ G (g.1) (g.2.1) (op_listen (g.2.2.1) (g.2.2.2.1) (g.2.2.2.2.1) (g.2.2.2.2.2.1) (g.2.2.2.2.2.2)).1 σ' ∧ ag σ σ' pF (pV (g.1)) ∧ v = some (en_I (op_listen (g.2.2.1) (g.2.2.2.1) (g.2.2.2.2.1) (g.2.2.2.2.2.1) (g.2.2.2.2.2.2)).2))
theorem pr_X6_listen {G : en_G}  : ∀ as σ, (C_X6_listen G).1 as σ → ∃ b tl, as = en_R (some b) :: tl ∧ en_cl σ b = some 6 ∧ tl.length = 4 := fun as σ ⟨g, hp, h2⟩ => ⟨_, _, h2, hp.cl, rfl⟩
theorem cu_X6_listen {G : en_G}  {x : Nat} {rm : Nat} {S : pb_S} {n : Int32} {t : Int32} {o : Int32} {s : Int32} {σ : en_S} (hp : PZ G x (rm + 64) S σ) : en_Us (C_X6_listen G) [en_R (some x), en_I n, en_I t, en_I o, en_I s] σ (fun v σ' => PZ G x rm (op_listen S n t o s).1 σ' ∧ ag σ σ' pF (pV x) ∧ v = some (en_I (op_listen S n t o s).2)) := ⟨⟨(x, rm, S, n, t, o, s), hp, rfl⟩, fun v σ' q => q (x, rm, S, n, t, o, s) ⟨hp, rfl⟩⟩
def ca_X6_listen (G : en_G) : List (Nat × Nat × en_C) := [(57, 9, (C_X6_nodeAt G)), (103, 9, (C_X6_scriptAt G)), (114, 4, C_X6_isType), (118, 21, (C_X6_addListener G))]
def X_X6_listen (G : en_G) (q : Option en_V → en_S → Prop) : en_X := en_mk G cX6_listen (en_lk fl6) (en_lk nw6) (en_lk aw6) (en_lk dc6) (en_lk (ca_X6_listen G)) 1 false q
theorem d_X6_listen_0 : decode cX6_listen 0 = .ok (.aload_n 0, 1) := by decide +kernel
theorem j_X6_listen_0 {G : en_G} {q : Option en_V → en_S → Prop}  {l1 l2 l3 l4 l5 l6 : en_V} {x0 : Option Nat} {σ : en_S} : en_J (X_X6_listen G q) 0 [en_R x0, l1, l2, l3, l4, l5, l6] [] σ ↔ en_J (X_X6_listen G q) 1 [en_R x0, l1, l2, l3, l4, l5, l6] [en_R x0] σ := en_j1 d_X6_listen_0 rfl rfl
theorem d_X6_listen_1 : decode cX6_listen 1 = .ok (.iload_n 1, 1) := by decide +kernel
theorem j_X6_listen_1 {G : en_G} {q : Option en_V → en_S → Prop}  {l0 l2 l3 l4 l5 l6 : en_V} {a0 : Option Nat} {x1 : Int32} {σ : en_S} : en_J (X_X6_listen G q) 1 [l0, en_I x1, l2, l3, l4, l5, l6] [en_R a0] σ ↔ en_J (X_X6_listen G q) 2 [l0, en_I x1, l2, l3, l4, l5, l6] [en_I x1, en_R a0] σ := en_j1 d_X6_listen_1 rfl rfl
theorem d_X6_listen_2 : decode cX6_listen 2 = .ok (.invokevirtual 57, 3) := by decide +kernel
theorem j_X6_listen_2 {G : en_G} {q : Option en_V → en_S → Prop}  {l0 l1 l2 l3 l4 l5 l6 : en_V} {a0 : Int32} {a1 : Option Nat} {σ : en_S} : en_J (X_X6_listen G q) 2 [l0, l1, l2, l3, l4, l5, l6] [en_I a0, en_R a1] σ ↔ (C_X6_nodeAt G).1 [en_R a1, en_I a0] σ ∧ ∀ (r : Option en_V) (σ' : en_S), (C_X6_nodeAt G).2 [en_R a1, en_I a0] σ r σ' → en_J (X_X6_listen G q) 5 [l0, l1, l2, l3, l4, l5, l6] (r.toList ++ []) σ' := en_jkC (C := (C_X6_nodeAt G)) (n' := 2) (k := 1) (idx := 57) d_X6_listen_2 rfl rfl (by decide) (Nat.le_of_ble_eq_true rfl) (Nat.le_of_ble_eq_true rfl)
theorem d_X6_listen_5 : decode cX6_listen 5 = .ok (.astore 5, 2) := by decide +kernel
theorem j_X6_listen_5 {G : en_G} {q : Option en_V → en_S → Prop}  {l0 l1 l2 l3 l4 l5 l6 : en_V} {a0 : Option Nat} {σ : en_S} : en_J (X_X6_listen G q) 5 [l0, l1, l2, l3, l4, l5, l6] [en_R a0] σ ↔ en_J (X_X6_listen G q) 7 [l0, l1, l2, l3, en_c2 l4, en_R a0, l6] [] σ := en_j1 d_X6_listen_5 rfl ⟨rfl, Nat.le_of_ble_eq_true rfl⟩
theorem d_X6_listen_7 : decode cX6_listen 7 = .ok (.aload_n 0, 1) := by decide +kernel
theorem j_X6_listen_7 {G : en_G} {q : Option en_V → en_S → Prop}  {l1 l2 l3 l4 l5 l6 : en_V} {x0 : Option Nat} {σ : en_S} : en_J (X_X6_listen G q) 7 [en_R x0, l1, l2, l3, l4, l5, l6] [] σ ↔ en_J (X_X6_listen G q) 8 [en_R x0, l1, l2, l3, l4, l5, l6] [en_R x0] σ := en_j1 d_X6_listen_7 rfl rfl
theorem d_X6_listen_8 : decode cX6_listen 8 = .ok (.iload 4, 2) := by decide +kernel
theorem j_X6_listen_8 {G : en_G} {q : Option en_V → en_S → Prop}  {l0 l1 l2 l3 l5 l6 : en_V} {a0 : Option Nat} {x4 : Int32} {σ : en_S} : en_J (X_X6_listen G q) 8 [l0, l1, l2, l3, en_I x4, l5, l6] [en_R a0] σ ↔ en_J (X_X6_listen G q) 10 [l0, l1, l2, l3, en_I x4, l5, l6] [en_I x4, en_R a0] σ := en_j1 d_X6_listen_8 rfl rfl
theorem d_X6_listen_10 : decode cX6_listen 10 = .ok (.invokevirtual 103, 3) := by decide +kernel
theorem j_X6_listen_10 {G : en_G} {q : Option en_V → en_S → Prop}  {l0 l1 l2 l3 l4 l5 l6 : en_V} {a0 : Int32} {a1 : Option Nat} {σ : en_S} : en_J (X_X6_listen G q) 10 [l0, l1, l2, l3, l4, l5, l6] [en_I a0, en_R a1] σ ↔ (C_X6_scriptAt G).1 [en_R a1, en_I a0] σ ∧ ∀ (r : Option en_V) (σ' : en_S), (C_X6_scriptAt G).2 [en_R a1, en_I a0] σ r σ' → en_J (X_X6_listen G q) 13 [l0, l1, l2, l3, l4, l5, l6] (r.toList ++ []) σ' := en_jkC (C := (C_X6_scriptAt G)) (n' := 2) (k := 1) (idx := 103) d_X6_listen_10 rfl rfl (by decide) (Nat.le_of_ble_eq_true rfl) (Nat.le_of_ble_eq_true rfl)
theorem d_X6_listen_13 : decode cX6_listen 13 = .ok (.astore 6, 2) := by decide +kernel
theorem j_X6_listen_13 {G : en_G} {q : Option en_V → en_S → Prop}  {l0 l1 l2 l3 l4 l5 l6 : en_V} {a0 : Option Nat} {σ : en_S} : en_J (X_X6_listen G q) 13 [l0, l1, l2, l3, l4, l5, l6] [en_R a0] σ ↔ en_J (X_X6_listen G q) 15 [l0, l1, l2, l3, l4, en_c2 l5, en_R a0] [] σ := en_j1 d_X6_listen_13 rfl ⟨rfl, Nat.le_of_ble_eq_true rfl⟩
theorem d_X6_listen_15 : decode cX6_listen 15 = .ok (.aload 5, 2) := by decide +kernel
theorem j_X6_listen_15 {G : en_G} {q : Option en_V → en_S → Prop}  {l0 l1 l2 l3 l4 l6 : en_V} {x5 : Option Nat} {σ : en_S} : en_J (X_X6_listen G q) 15 [l0, l1, l2, l3, l4, en_R x5, l6] [] σ ↔ en_J (X_X6_listen G q) 17 [l0, l1, l2, l3, l4, en_R x5, l6] [en_R x5] σ := en_j1 d_X6_listen_15 rfl rfl
theorem d_X6_listen_17 : decode cX6_listen 17 = .ok (.ifnull 25, 3) := by decide +kernel
theorem j_X6_listen_17 {G : en_G} {q : Option en_V → en_S → Prop}  {l0 l1 l2 l3 l4 l5 l6 : en_V} {a0 : Option Nat} {σ : en_S} : en_J (X_X6_listen G q) 17 [l0, l1, l2, l3, l4, l5, l6] [en_R a0] σ ↔ (a0 = none → en_J (X_X6_listen G q) 42 [l0, l1, l2, l3, l4, l5, l6] [] σ) ∧ (¬ (a0 = none) → en_J (X_X6_listen G q) 20 [l0, l1, l2, l3, l4, l5, l6] [] σ) := en_jb d_X6_listen_17 rfl ⟨rfl, by decide⟩
theorem d_X6_listen_20 : decode cX6_listen 20 = .ok (.aload 6, 2) := by decide +kernel
theorem j_X6_listen_20 {G : en_G} {q : Option en_V → en_S → Prop}  {l0 l1 l2 l3 l4 l5 : en_V} {x6 : Option Nat} {σ : en_S} : en_J (X_X6_listen G q) 20 [l0, l1, l2, l3, l4, l5, en_R x6] [] σ ↔ en_J (X_X6_listen G q) 22 [l0, l1, l2, l3, l4, l5, en_R x6] [en_R x6] σ := en_j1 d_X6_listen_20 rfl rfl
theorem d_X6_listen_22 : decode cX6_listen 22 = .ok (.ifnull 20, 3) := by decide +kernel
theorem j_X6_listen_22 {G : en_G} {q : Option en_V → en_S → Prop}  {l0 l1 l2 l3 l4 l5 l6 : en_V} {a0 : Option Nat} {σ : en_S} : en_J (X_X6_listen G q) 22 [l0, l1, l2, l3, l4, l5, l6] [en_R a0] σ ↔ (a0 = none → en_J (X_X6_listen G q) 42 [l0, l1, l2, l3, l4, l5, l6] [] σ) ∧ (¬ (a0 = none) → en_J (X_X6_listen G q) 25 [l0, l1, l2, l3, l4, l5, l6] [] σ) := en_jb d_X6_listen_22 rfl ⟨rfl, by decide⟩
theorem d_X6_listen_25 : decode cX6_listen 25 = .ok (.iload_n 2, 1) := by decide +kernel
theorem j_X6_listen_25 {G : en_G} {q : Option en_V → en_S → Prop}  {l0 l1 l3 l4 l5 l6 : en_V} {x2 : Int32} {σ : en_S} : en_J (X_X6_listen G q) 25 [l0, l1, en_I x2, l3, l4, l5, l6] [] σ ↔ en_J (X_X6_listen G q) 26 [l0, l1, en_I x2, l3, l4, l5, l6] [en_I x2] σ := en_j1 d_X6_listen_25 rfl rfl
theorem d_X6_listen_26 : decode cX6_listen 26 = .ok (.invokestatic 114, 3) := by decide +kernel
theorem j_X6_listen_26 {G : en_G} {q : Option en_V → en_S → Prop}  {l0 l1 l2 l3 l4 l5 l6 : en_V} {a0 : Int32} {σ : en_S} : en_J (X_X6_listen G q) 26 [l0, l1, l2, l3, l4, l5, l6] [en_I a0] σ ↔ C_X6_isType.1 [en_I a0] σ ∧ ∀ (r : Option en_V) (σ' : en_S), C_X6_isType.2 [en_I a0] σ r σ' → en_J (X_X6_listen G q) 29 [l0, l1, l2, l3, l4, l5, l6] (r.toList ++ []) σ' := en_jk d_X6_listen_26 rfl ⟨fun h => h.2.2.2.2, fun h => ⟨rfl, rfl, Nat.le_of_ble_eq_true rfl, Nat.le_of_ble_eq_true rfl, h⟩⟩
theorem d_X6_listen_29 : decode cX6_listen 29 = .ok (.ifCond .eq 13, 3) := by decide +kernel
theorem j_X6_listen_29 {G : en_G} {q : Option en_V → en_S → Prop}  {l0 l1 l2 l3 l4 l5 l6 : en_V} {a0 : Int32} {σ : en_S} : en_J (X_X6_listen G q) 29 [l0, l1, l2, l3, l4, l5, l6] [en_I a0] σ ↔ (a0 = 0 → en_J (X_X6_listen G q) 42 [l0, l1, l2, l3, l4, l5, l6] [] σ) ∧ (¬ (a0 = 0) → en_J (X_X6_listen G q) 32 [l0, l1, l2, l3, l4, l5, l6] [] σ) := en_jb d_X6_listen_29 rfl ⟨rfl, by decide⟩
theorem d_X6_listen_32 : decode cX6_listen 32 = .ok (.iload_n 3, 1) := by decide +kernel
theorem j_X6_listen_32 {G : en_G} {q : Option en_V → en_S → Prop}  {l0 l1 l2 l4 l5 l6 : en_V} {x3 : Int32} {σ : en_S} : en_J (X_X6_listen G q) 32 [l0, l1, l2, en_I x3, l4, l5, l6] [] σ ↔ en_J (X_X6_listen G q) 33 [l0, l1, l2, en_I x3, l4, l5, l6] [en_I x3] σ := en_j1 d_X6_listen_32 rfl rfl
theorem d_X6_listen_33 : decode cX6_listen 33 = .ok (.ifCond .lt 9, 3) := by decide +kernel
theorem j_X6_listen_33 {G : en_G} {q : Option en_V → en_S → Prop}  {l0 l1 l2 l3 l4 l5 l6 : en_V} {a0 : Int32} {σ : en_S} : en_J (X_X6_listen G q) 33 [l0, l1, l2, l3, l4, l5, l6] [en_I a0] σ ↔ (a0 < 0 → en_J (X_X6_listen G q) 42 [l0, l1, l2, l3, l4, l5, l6] [] σ) ∧ (¬ (a0 < 0) → en_J (X_X6_listen G q) 36 [l0, l1, l2, l3, l4, l5, l6] [] σ) := en_jb d_X6_listen_33 rfl ⟨rfl, by decide⟩
theorem d_X6_listen_36 : decode cX6_listen 36 = .ok (.iload_n 3, 1) := by decide +kernel
theorem j_X6_listen_36 {G : en_G} {q : Option en_V → en_S → Prop}  {l0 l1 l2 l4 l5 l6 : en_V} {x3 : Int32} {σ : en_S} : en_J (X_X6_listen G q) 36 [l0, l1, l2, en_I x3, l4, l5, l6] [] σ ↔ en_J (X_X6_listen G q) 37 [l0, l1, l2, en_I x3, l4, l5, l6] [en_I x3] σ := en_j1 d_X6_listen_36 rfl rfl
theorem d_X6_listen_37 : decode cX6_listen 37 = .ok (.bipush 8, 2) := by decide +kernel
theorem j_X6_listen_37 {G : en_G} {q : Option en_V → en_S → Prop}  {l0 l1 l2 l3 l4 l5 l6 : en_V} {a0 : Int32} {σ : en_S} : en_J (X_X6_listen G q) 37 [l0, l1, l2, l3, l4, l5, l6] [en_I a0] σ ↔ en_J (X_X6_listen G q) 39 [l0, l1, l2, l3, l4, l5, l6] [en_I 8, en_I a0] σ := ej_bipush d_X6_listen_37 (by decide +kernel)
theorem d_X6_listen_39 : decode cX6_listen 39 = .ok (.if_icmp .lt 5, 3) := by decide +kernel
theorem j_X6_listen_39 {G : en_G} {q : Option en_V → en_S → Prop}  {l0 l1 l2 l3 l4 l5 l6 : en_V} {a0 : Int32} {a1 : Int32} {σ : en_S} : en_J (X_X6_listen G q) 39 [l0, l1, l2, l3, l4, l5, l6] [en_I a0, en_I a1] σ ↔ (a1 < a0 → en_J (X_X6_listen G q) 44 [l0, l1, l2, l3, l4, l5, l6] [] σ) ∧ (¬ (a1 < a0) → en_J (X_X6_listen G q) 42 [l0, l1, l2, l3, l4, l5, l6] [] σ) := en_jb d_X6_listen_39 rfl ⟨rfl, by decide⟩
theorem d_X6_listen_42 : decode cX6_listen 42 = .ok (.iconst (-1), 1) := by decide +kernel
theorem j_X6_listen_42 {G : en_G} {q : Option en_V → en_S → Prop}  {l0 l1 l2 l3 l4 l5 l6 : en_V}  {σ : en_S} : en_J (X_X6_listen G q) 42 [l0, l1, l2, l3, l4, l5, l6] [] σ ↔ en_J (X_X6_listen G q) 43 [l0, l1, l2, l3, l4, l5, l6] [en_I (-1)] σ := ej_iconst d_X6_listen_42 (by decide +kernel)
theorem d_X6_listen_43 : decode cX6_listen 43 = .ok (.ireturn, 1) := by decide +kernel
theorem j_X6_listen_43 {G : en_G} {q : Option en_V → en_S → Prop}  {l0 l1 l2 l3 l4 l5 l6 : en_V} {a0 : Int32} {σ : en_S} : en_J (X_X6_listen G q) 43 [l0, l1, l2, l3, l4, l5, l6] [en_I a0] σ ↔ q (some (en_I a0)) σ := en_jr d_X6_listen_43 rfl ⟨fun h => h.2.2, fun h => ⟨rfl, Or.inl rfl, h⟩⟩
theorem d_X6_listen_44 : decode cX6_listen 44 = .ok (.aload_n 0, 1) := by decide +kernel
theorem j_X6_listen_44 {G : en_G} {q : Option en_V → en_S → Prop}  {l1 l2 l3 l4 l5 l6 : en_V} {x0 : Option Nat} {σ : en_S} : en_J (X_X6_listen G q) 44 [en_R x0, l1, l2, l3, l4, l5, l6] [] σ ↔ en_J (X_X6_listen G q) 45 [en_R x0, l1, l2, l3, l4, l5, l6] [en_R x0] σ := en_j1 d_X6_listen_44 rfl rfl
theorem d_X6_listen_45 : decode cX6_listen 45 = .ok (.aload 5, 2) := by decide +kernel
theorem j_X6_listen_45 {G : en_G} {q : Option en_V → en_S → Prop}  {l0 l1 l2 l3 l4 l6 : en_V} {a0 : Option Nat} {x5 : Option Nat} {σ : en_S} : en_J (X_X6_listen G q) 45 [l0, l1, l2, l3, l4, en_R x5, l6] [en_R a0] σ ↔ en_J (X_X6_listen G q) 47 [l0, l1, l2, l3, l4, en_R x5, l6] [en_R x5, en_R a0] σ := en_j1 d_X6_listen_45 rfl rfl
theorem d_X6_listen_47 : decode cX6_listen 47 = .ok (.iload_n 2, 1) := by decide +kernel
theorem j_X6_listen_47 {G : en_G} {q : Option en_V → en_S → Prop}  {l0 l1 l3 l4 l5 l6 : en_V} {a0 : Option Nat} {a1 : Option Nat} {x2 : Int32} {σ : en_S} : en_J (X_X6_listen G q) 47 [l0, l1, en_I x2, l3, l4, l5, l6] [en_R a0, en_R a1] σ ↔ en_J (X_X6_listen G q) 48 [l0, l1, en_I x2, l3, l4, l5, l6] [en_I x2, en_R a0, en_R a1] σ := en_j1 d_X6_listen_47 rfl rfl
theorem d_X6_listen_48 : decode cX6_listen 48 = .ok (.iload_n 3, 1) := by decide +kernel
theorem j_X6_listen_48 {G : en_G} {q : Option en_V → en_S → Prop}  {l0 l1 l2 l4 l5 l6 : en_V} {a0 : Int32} {a1 : Option Nat} {a2 : Option Nat} {x3 : Int32} {σ : en_S} : en_J (X_X6_listen G q) 48 [l0, l1, l2, en_I x3, l4, l5, l6] [en_I a0, en_R a1, en_R a2] σ ↔ en_J (X_X6_listen G q) 49 [l0, l1, l2, en_I x3, l4, l5, l6] [en_I x3, en_I a0, en_R a1, en_R a2] σ := en_j1 d_X6_listen_48 rfl rfl
theorem d_X6_listen_49 : decode cX6_listen 49 = .ok (.aload 6, 2) := by decide +kernel
theorem j_X6_listen_49 {G : en_G} {q : Option en_V → en_S → Prop}  {l0 l1 l2 l3 l4 l5 : en_V} {a0 : Int32} {a1 : Int32} {a2 : Option Nat} {a3 : Option Nat} {x6 : Option Nat} {σ : en_S} : en_J (X_X6_listen G q) 49 [l0, l1, l2, l3, l4, l5, en_R x6] [en_I a0, en_I a1, en_R a2, en_R a3] σ ↔ en_J (X_X6_listen G q) 51 [l0, l1, l2, l3, l4, l5, en_R x6] [en_R x6, en_I a0, en_I a1, en_R a2, en_R a3] σ := en_j1 d_X6_listen_49 rfl rfl
theorem d_X6_listen_51 : decode cX6_listen 51 = .ok (.invokevirtual 118, 3) := by decide +kernel
theorem j_X6_listen_51 {G : en_G} {q : Option en_V → en_S → Prop}  {l0 l1 l2 l3 l4 l5 l6 : en_V} {a0 : Option Nat} {a1 : Int32} {a2 : Int32} {a3 : Option Nat} {a4 : Option Nat} {σ : en_S} : en_J (X_X6_listen G q) 51 [l0, l1, l2, l3, l4, l5, l6] [en_R a0, en_I a1, en_I a2, en_R a3, en_R a4] σ ↔ (C_X6_addListener G).1 [en_R a4, en_R a3, en_I a2, en_I a1, en_R a0] σ ∧ ∀ (r : Option en_V) (σ' : en_S), (C_X6_addListener G).2 [en_R a4, en_R a3, en_I a2, en_I a1, en_R a0] σ r σ' → en_J (X_X6_listen G q) 54 [l0, l1, l2, l3, l4, l5, l6] (r.toList ++ []) σ' := en_jkC (C := (C_X6_addListener G)) (n' := 5) (k := 1) (idx := 118) d_X6_listen_51 rfl rfl (by decide) (Nat.le_of_ble_eq_true rfl) (Nat.le_of_ble_eq_true rfl)
theorem d_X6_listen_54 : decode cX6_listen 54 = .ok (.ireturn, 1) := by decide +kernel
theorem j_X6_listen_54 {G : en_G} {q : Option en_V → en_S → Prop}  {l0 l1 l2 l3 l4 l5 l6 : en_V} {a0 : Int32} {σ : en_S} : en_J (X_X6_listen G q) 54 [l0, l1, l2, l3, l4, l5, l6] [en_I a0] σ ↔ q (some (en_I a0)) σ := en_jr d_X6_listen_54 rfl ⟨fun h => h.2.2, fun h => ⟨rfl, Or.inl rfl, h⟩⟩
theorem wc_X6_listen : Jvm.Cond.code yX6_listen cX6_listen 7 (some .int) ∈ en_W := en_inW (List.mem_of_getElem? (i := 282) (by decide +kernel)) (by decide +kernel)
theorem wi_X6_listen : Jvm.Cond.instanceMethod yX6_listen ∈ en_W := en_inW (List.mem_of_getElem? (i := 280) (by decide +kernel)) (by decide +kernel)
theorem wx_X6_listen : Jvm.Cond.selects RX6 yX6_listen yX6_listen ∈ en_W := en_inW (List.mem_of_getElem? (i := 281) (by decide +kernel)) (by decide +kernel)
theorem jl_X6_listen {G : en_G}  {x : Nat} {rm : Nat} {S : pb_S} {n : Int32} {t : Int32} {o : Int32} {s : Int32} {q : Option en_V → en_S → Prop} {σ : en_S} (hp : PZ G x (rm + 64) S σ) (hq : ∀ v σ', (PZ G x rm (op_listen S n t o s).1 σ' ∧ ag σ σ' pF (pV x) ∧ v = some (en_I (op_listen S n t o s).2)) → q v σ') : en_J (X_X6_listen G q) 0 [en_R (some x), en_I n, en_I t, en_I o, en_I s, en_U, en_U] [] σ := by
  obtain ⟨na, la, ba, hP⟩ := hp
  have hC := hP.1
  have w := hC.2.2.2.2.2.2.2.2.1
  have i1 : ¬ (1 : Int32) = 0 := by decide
  have fin : op_listen S n t o s = (S, -1) → q (some (en_I (-1))) σ := fun hop => hq _ _ ⟨by rw [hop]; exact hP.z (by omega), ag.rf, by rw [hop]⟩
  simp only [j_X6_listen_0, j_X6_listen_1, j_X6_listen_2, j_X6_listen_5, j_X6_listen_7, j_X6_listen_8, j_X6_listen_10, j_X6_listen_13, j_X6_listen_15, j_X6_listen_17, j_X6_listen_20, j_X6_listen_22, j_X6_listen_25, j_X6_listen_26, j_X6_listen_29, j_X6_listen_32, j_X6_listen_33, j_X6_listen_36, j_X6_listen_37, j_X6_listen_39, j_X6_listen_42, j_X6_listen_43, j_X6_listen_44, j_X6_listen_45, j_X6_listen_47, j_X6_listen_48, j_X6_listen_49, j_X6_listen_51, j_X6_listen_54, en_c2I, en_c2R, en_c2U, en_c2D, Option.some.injEq, exists_eq_left', exists_eq_left, Option.map_some, Option.map_none, not_true_eq_false, false_implies, true_implies, and_true, true_and, reduceCtorEq, not_false_eq_true]
  refine en_use (cu_X6_nodeAt hC) ?_
  rintro v σ' ⟨rfl, rfl⟩
  simp only [Option.toList, List.cons_append, List.nil_append, j_X6_listen_0, j_X6_listen_1, j_X6_listen_2, j_X6_listen_5, j_X6_listen_7, j_X6_listen_8, j_X6_listen_10, j_X6_listen_13, j_X6_listen_15, j_X6_listen_17, j_X6_listen_20, j_X6_listen_22, j_X6_listen_25, j_X6_listen_26, j_X6_listen_29, j_X6_listen_32, j_X6_listen_33, j_X6_listen_36, j_X6_listen_37, j_X6_listen_39, j_X6_listen_42, j_X6_listen_43, j_X6_listen_44, j_X6_listen_45, j_X6_listen_47, j_X6_listen_48, j_X6_listen_49, j_X6_listen_51, j_X6_listen_54, en_c2I, en_c2R, en_c2U, en_c2D, Option.some.injEq, exists_eq_left', exists_eq_left, Option.map_some, Option.map_none, not_true_eq_false, false_implies, true_implies, and_true, true_and, reduceCtorEq, not_false_eq_true]
  refine en_use (cu_X6_scriptAt hC) ?_
  rintro v σ' ⟨rfl, rfl⟩
  cases hx : st_ix (tr_N (sa_T S.1)) n with
  | none =>
    simp only [Option.toList, List.cons_append, List.nil_append, j_X6_listen_0, j_X6_listen_1, j_X6_listen_2, j_X6_listen_5, j_X6_listen_7, j_X6_listen_8, j_X6_listen_10, j_X6_listen_13, j_X6_listen_15, j_X6_listen_17, j_X6_listen_20, j_X6_listen_22, j_X6_listen_25, j_X6_listen_26, j_X6_listen_29, j_X6_listen_32, j_X6_listen_33, j_X6_listen_36, j_X6_listen_37, j_X6_listen_39, j_X6_listen_42, j_X6_listen_43, j_X6_listen_44, j_X6_listen_45, j_X6_listen_47, j_X6_listen_48, j_X6_listen_49, j_X6_listen_51, j_X6_listen_54, en_c2I, en_c2R, en_c2U, en_c2D, Option.some.injEq, exists_eq_left', exists_eq_left, Option.map_some, Option.map_none, not_true_eq_false, false_implies, true_implies, and_true, true_and, reduceCtorEq, not_false_eq_true]
    exact fin (by unfold op_listen; rw [hx])
  | some n' =>
    obtain ⟨hn, rfl⟩ := st_ix_some (by have := w.1.1.2; omega) hx
    cases hy : st_ix 8 s with
    | none =>
      simp only [Option.toList, List.cons_append, List.nil_append, j_X6_listen_0, j_X6_listen_1, j_X6_listen_2, j_X6_listen_5, j_X6_listen_7, j_X6_listen_8, j_X6_listen_10, j_X6_listen_13, j_X6_listen_15, j_X6_listen_17, j_X6_listen_20, j_X6_listen_22, j_X6_listen_25, j_X6_listen_26, j_X6_listen_29, j_X6_listen_32, j_X6_listen_33, j_X6_listen_36, j_X6_listen_37, j_X6_listen_39, j_X6_listen_42, j_X6_listen_43, j_X6_listen_44, j_X6_listen_45, j_X6_listen_47, j_X6_listen_48, j_X6_listen_49, j_X6_listen_51, j_X6_listen_54, en_c2I, en_c2R, en_c2U, en_c2D, Option.some.injEq, exists_eq_left', exists_eq_left, Option.map_some, Option.map_none, not_true_eq_false, false_implies, true_implies, and_true, true_and, reduceCtorEq, not_false_eq_true]
      exact fin (by unfold op_listen; rw [hx, hy])
    | some s' =>
      obtain ⟨hs, rfl⟩ := st_ix_some (by decide) hy
      simp only [Option.toList, List.cons_append, List.nil_append, j_X6_listen_0, j_X6_listen_1, j_X6_listen_2, j_X6_listen_5, j_X6_listen_7, j_X6_listen_8, j_X6_listen_10, j_X6_listen_13, j_X6_listen_15, j_X6_listen_17, j_X6_listen_20, j_X6_listen_22, j_X6_listen_25, j_X6_listen_26, j_X6_listen_29, j_X6_listen_32, j_X6_listen_33, j_X6_listen_36, j_X6_listen_37, j_X6_listen_39, j_X6_listen_42, j_X6_listen_43, j_X6_listen_44, j_X6_listen_45, j_X6_listen_47, j_X6_listen_48, j_X6_listen_49, j_X6_listen_51, j_X6_listen_54, en_c2I, en_c2R, en_c2U, en_c2D, Option.some.injEq, exists_eq_left', exists_eq_left, Option.map_some, Option.map_none, not_true_eq_false, false_implies, true_implies, and_true, true_and, reduceCtorEq, not_false_eq_true]
      refine en_use (cu_X6_isType trivial) ?_
      rintro v σ'' ⟨rfl, rfl⟩
      by_cases ht : 0 ≤ t ∧ t < 8
      · rw [if_pos ht]
        cases hz : st_ix 8 o with
        | none =>
          have hno := st_ix_none hz
          have c8 : nI 8 = 8 := by decide +kernel
          simp only [Option.toList, List.cons_append, List.nil_append, j_X6_listen_0, j_X6_listen_1, j_X6_listen_2, j_X6_listen_5, j_X6_listen_7, j_X6_listen_8, j_X6_listen_10, j_X6_listen_13, j_X6_listen_15, j_X6_listen_17, j_X6_listen_20, j_X6_listen_22, j_X6_listen_25, j_X6_listen_26, j_X6_listen_29, j_X6_listen_32, j_X6_listen_33, j_X6_listen_36, j_X6_listen_37, j_X6_listen_39, j_X6_listen_42, j_X6_listen_43, j_X6_listen_44, j_X6_listen_45, j_X6_listen_47, j_X6_listen_48, j_X6_listen_49, j_X6_listen_51, j_X6_listen_54, en_c2I, en_c2R, en_c2U, en_c2D, Option.some.injEq, exists_eq_left', exists_eq_left, Option.map_some, Option.map_none, not_true_eq_false, false_implies, true_implies, and_true, true_and, reduceCtorEq, not_false_eq_true, i1]
          have := fin (by unfold op_listen; rw [hx, hy, hz])
          exact ⟨fun _ => this, fun h1 => ⟨fun h2 => absurd ⟨Int32.not_lt.mp h1, by rw [c8]; exact h2⟩ hno, fun _ => this⟩⟩
        | some o' =>
          obtain ⟨ho, rfl⟩ := st_ix_some (by decide) hz
          have q1 : ¬ nI o' < 0 := nI_pos (by omega)
          have q2 : nI o' < 8 := by rw [show (8 : Int32) = nI 8 from by decide +kernel]; exact nI_lt ho (by decide)
          simp only [Option.toList, List.cons_append, List.nil_append, j_X6_listen_0, j_X6_listen_1, j_X6_listen_2, j_X6_listen_5, j_X6_listen_7, j_X6_listen_8, j_X6_listen_10, j_X6_listen_13, j_X6_listen_15, j_X6_listen_17, j_X6_listen_20, j_X6_listen_22, j_X6_listen_25, j_X6_listen_26, j_X6_listen_29, j_X6_listen_32, j_X6_listen_33, j_X6_listen_36, j_X6_listen_37, j_X6_listen_39, j_X6_listen_42, j_X6_listen_43, j_X6_listen_44, j_X6_listen_45, j_X6_listen_47, j_X6_listen_48, j_X6_listen_49, j_X6_listen_51, j_X6_listen_54, en_c2I, en_c2R, en_c2U, en_c2D, Option.some.injEq, exists_eq_left', exists_eq_left, Option.map_some, Option.map_none, not_true_eq_false, false_implies, true_implies, and_true, true_and, reduceCtorEq, not_false_eq_true, i1, q1, q2]
          refine en_use (cu_X6_addListener ⟨hC, hn, ho, hs⟩) ?_
          rintro v σ1 ⟨lb, hlb, hC', hg, rfl⟩
          simp only [Option.toList, List.cons_append, List.nil_append, j_X6_listen_0, j_X6_listen_1, j_X6_listen_2, j_X6_listen_5, j_X6_listen_7, j_X6_listen_8, j_X6_listen_10, j_X6_listen_13, j_X6_listen_15, j_X6_listen_17, j_X6_listen_20, j_X6_listen_22, j_X6_listen_25, j_X6_listen_26, j_X6_listen_29, j_X6_listen_32, j_X6_listen_33, j_X6_listen_36, j_X6_listen_37, j_X6_listen_39, j_X6_listen_42, j_X6_listen_43, j_X6_listen_44, j_X6_listen_45, j_X6_listen_47, j_X6_listen_48, j_X6_listen_49, j_X6_listen_51, j_X6_listen_54, en_c2I, en_c2R, en_c2U, en_c2D, Option.some.injEq, exists_eq_left', exists_eq_left, Option.map_some, Option.map_none, not_true_eq_false, false_implies, true_implies, and_true, true_and, reduceCtorEq, not_false_eq_true]
          have hop : op_listen S (nI n') t (nI o') (nI s') = (((ds_add S.1 n' t o' s').1, S.2), (ds_add S.1 n' t o' s').2) := by unfold op_listen; rw [hx, hy, hz]; simp only; rw [if_pos ht]
          rw [hop] at hq
          exact hq _ _ ⟨(hP.q4 hC' hg (Nat.le_of_eq (st_go_add w hn ho hs).2.1.1.symm)).z (by omega), pq4 hg, rfl⟩
      · rw [if_neg ht]
        simp only [Option.toList, List.cons_append, List.nil_append, j_X6_listen_0, j_X6_listen_1, j_X6_listen_2, j_X6_listen_5, j_X6_listen_7, j_X6_listen_8, j_X6_listen_10, j_X6_listen_13, j_X6_listen_15, j_X6_listen_17, j_X6_listen_20, j_X6_listen_22, j_X6_listen_25, j_X6_listen_26, j_X6_listen_29, j_X6_listen_32, j_X6_listen_33, j_X6_listen_36, j_X6_listen_37, j_X6_listen_39, j_X6_listen_42, j_X6_listen_43, j_X6_listen_44, j_X6_listen_45, j_X6_listen_47, j_X6_listen_48, j_X6_listen_49, j_X6_listen_51, j_X6_listen_54, en_c2I, en_c2R, en_c2U, en_c2D, Option.some.injEq, exists_eq_left', exists_eq_left, Option.map_some, Option.map_none, not_true_eq_false, false_implies, true_implies, and_true, true_and, reduceCtorEq, not_false_eq_true]
        refine fin ?_
        unfold op_listen
        rw [hx, hy]
        cases st_ix 8 o with
        | none => rfl
        | some o' => simp only; rw [if_neg ht]
theorem jp_X6_listen {G : en_G}  : ∀ as σ, (C_X6_listen G).1 as σ → (en_lc as).length ≤ 7 ∧ en_J (X_X6_listen G (fun r σ' => (C_X6_listen G).2 as σ r σ')) 0 (en_loc 7 as) [] σ := en_ghJ (fun g as σ h => by
  obtain ⟨hp, h2⟩ := h
  subst h2
  exact ⟨Nat.le_of_ble_eq_true rfl, jl_X6_listen hp (fun _ _ h => h)⟩)
theorem wl_X6_listen_57 : Jvm.Cond.methodLink RX6 57 yX6_nodeAt ∈ en_W := en_inW (List.mem_of_getElem? (i := 248) (by decide +kernel)) (by decide +kernel)
theorem wl_X6_listen_103 : Jvm.Cond.methodLink RX6 103 yX6_scriptAt ∈ en_W := en_inW (List.mem_of_getElem? (i := 267) (by decide +kernel)) (by decide +kernel)
theorem wl_X6_listen_114 : Jvm.Cond.methodLink RX6 114 yX6_isType ∈ en_W := en_inW (List.mem_of_getElem? (i := 283) (by decide +kernel)) (by decide +kernel)
theorem wl_X6_listen_118 : Jvm.Cond.methodLink RX6 118 yX6_addListener ∈ en_W := en_inW (List.mem_of_getElem? (i := 286) (by decide +kernel)) (by decide +kernel)
theorem ok_X6_listen {G : en_G}  : en_Ok G 4 yX6_listen cX6_listen 7 (some .int) (C_X6_listen G) :=
  en_met (own := RX6) (fl := en_lk fl6) (nw := en_lk nw6) (aw := en_lk aw6) (dc := en_lk dc6) (ca := en_lk (ca_X6_listen G)) (rt := 1) (ini := false) (by decide +kernel) (Or.inr (Or.inl ⟨rfl, rfl⟩)) (fun h => by cases h) rfl (fun q => en_LkF fl6_ok nw6_ok aw6_ok dc6_ok) (by
    intro idx q hq
    have hm := en_lk_mem hq
    simp only [ca_X6_listen, List.mem_cons, Prod.mk.injEq, List.not_mem_nil, or_false] at hm
    rcases hm with ⟨rfl, rfl⟩ | ⟨rfl, rfl⟩ | ⟨rfl, rfl⟩ | ⟨rfl, rfl⟩
    · exact en_clV (r := (RX6, TX6, 13)) 6 1 ok_X6_nodeAt (by decide) (by decide) rfl rfl pr_X6_nodeAt wl_X6_listen_57 wi_X6_nodeAt wx_X6_nodeAt wz_6 wc_X6_nodeAt ⟨by decide +kernel, by decide +kernel, by decide +kernel⟩
    · exact en_clV (r := (RX6, TX6, 13)) 6 1 ok_X6_scriptAt (by decide) (by decide) rfl rfl pr_X6_scriptAt wl_X6_listen_103 wi_X6_scriptAt wx_X6_scriptAt wz_6 wc_X6_scriptAt ⟨by decide +kernel, by decide +kernel, by decide +kernel⟩
    · exact en_clS 1 ok_X6_isType (by decide) (by decide) pr_X6_isType wl_X6_listen_114 ws_X6_isType wz_6 wc_X6_isType ⟨by decide +kernel, by decide +kernel, by decide +kernel⟩
    · exact en_clV (r := (RX6, TX6, 13)) 6 4 ok_X6_addListener (by decide) (by decide) rfl rfl pr_X6_addListener wl_X6_listen_118 wi_X6_addListener wx_X6_addListener wz_6 wc_X6_addListener ⟨by decide +kernel, by decide +kernel, by decide +kernel⟩) jp_X6_listen
def P_X6_command (G : en_G)  (g : (Nat) × (Nat) × (pb_S) × (Int32) × (Int32) × (Int32)) (as : List en_V) (σ : en_S) : Prop := (PZ G (g.1) ((g.2.1) + 64) (g.2.2.1) σ) ∧ as = [en_R (some (g.1)), en_I (g.2.2.2.1), en_I (g.2.2.2.2.1), en_I (g.2.2.2.2.2)]
def C_X6_command (G : en_G)  : en_C := en_gh (P_X6_command G) (fun g as σ v σ' => PZ G (g.1) (g.2.1) (op_command (g.2.2.1) (g.2.2.2.1) (g.2.2.2.2.1) (g.2.2.2.2.2)).1 σ' ∧ ag σ σ' pF (pV (g.1)) ∧ v = some (en_I (op_command (g.2.2.1) (g.2.2.2.1) (g.2.2.2.2.1) (g.2.2.2.2.2)).2))
theorem pr_X6_command {G : en_G}  : ∀ as σ, (C_X6_command G).1 as σ → ∃ b tl, as = en_R (some b) :: tl ∧ en_cl σ b = some 6 ∧ tl.length = 3 := fun as σ ⟨g, hp, h2⟩ => ⟨_, _, h2, hp.cl, rfl⟩
theorem cu_X6_command {G : en_G}  {x : Nat} {rm : Nat} {S : pb_S} {s : Int32} {c : Int32} {n : Int32} {σ : en_S} (hp : PZ G x (rm + 64) S σ) : en_Us (C_X6_command G) [en_R (some x), en_I s, en_I c, en_I n] σ (fun v σ' => PZ G x rm (op_command S s c n).1 σ' ∧ ag σ σ' pF (pV x) ∧ v = some (en_I (op_command S s c n).2)) := ⟨⟨(x, rm, S, s, c, n), hp, rfl⟩, fun v σ' q => q (x, rm, S, s, c, n) ⟨hp, rfl⟩⟩
def ca_X6_command (G : en_G) : List (Nat × Nat × en_C) := [(103, 9, (C_X6_scriptAt G)), (107, 13, C_X5_append)]
def X_X6_command (G : en_G) (q : Option en_V → en_S → Prop) : en_X := en_mk G cX6_command (en_lk fl6) (en_lk nw6) (en_lk aw6) (en_lk dc6) (en_lk (ca_X6_command G)) 2 false q
theorem d_X6_command_0 : decode cX6_command 0 = .ok (.aload_n 0, 1) := by decide +kernel
theorem j_X6_command_0 {G : en_G} {q : Option en_V → en_S → Prop}  {l1 l2 l3 l4 : en_V} {x0 : Option Nat} {σ : en_S} : en_J (X_X6_command G q) 0 [en_R x0, l1, l2, l3, l4] [] σ ↔ en_J (X_X6_command G q) 1 [en_R x0, l1, l2, l3, l4] [en_R x0] σ := en_j1 d_X6_command_0 rfl rfl
theorem d_X6_command_1 : decode cX6_command 1 = .ok (.iload_n 1, 1) := by decide +kernel
theorem j_X6_command_1 {G : en_G} {q : Option en_V → en_S → Prop}  {l0 l2 l3 l4 : en_V} {a0 : Option Nat} {x1 : Int32} {σ : en_S} : en_J (X_X6_command G q) 1 [l0, en_I x1, l2, l3, l4] [en_R a0] σ ↔ en_J (X_X6_command G q) 2 [l0, en_I x1, l2, l3, l4] [en_I x1, en_R a0] σ := en_j1 d_X6_command_1 rfl rfl
theorem d_X6_command_2 : decode cX6_command 2 = .ok (.invokevirtual 103, 3) := by decide +kernel
theorem j_X6_command_2 {G : en_G} {q : Option en_V → en_S → Prop}  {l0 l1 l2 l3 l4 : en_V} {a0 : Int32} {a1 : Option Nat} {σ : en_S} : en_J (X_X6_command G q) 2 [l0, l1, l2, l3, l4] [en_I a0, en_R a1] σ ↔ (C_X6_scriptAt G).1 [en_R a1, en_I a0] σ ∧ ∀ (r : Option en_V) (σ' : en_S), (C_X6_scriptAt G).2 [en_R a1, en_I a0] σ r σ' → en_J (X_X6_command G q) 5 [l0, l1, l2, l3, l4] (r.toList ++ []) σ' := en_jkC (C := (C_X6_scriptAt G)) (n' := 2) (k := 1) (idx := 103) d_X6_command_2 rfl rfl (by decide) (Nat.le_of_ble_eq_true rfl) (Nat.le_of_ble_eq_true rfl)
theorem d_X6_command_5 : decode cX6_command 5 = .ok (.astore 4, 2) := by decide +kernel
theorem j_X6_command_5 {G : en_G} {q : Option en_V → en_S → Prop}  {l0 l1 l2 l3 l4 : en_V} {a0 : Option Nat} {σ : en_S} : en_J (X_X6_command G q) 5 [l0, l1, l2, l3, l4] [en_R a0] σ ↔ en_J (X_X6_command G q) 7 [l0, l1, l2, en_c2 l3, en_R a0] [] σ := en_j1 d_X6_command_5 rfl ⟨rfl, Nat.le_of_ble_eq_true rfl⟩
theorem d_X6_command_7 : decode cX6_command 7 = .ok (.aload 4, 2) := by decide +kernel
theorem j_X6_command_7 {G : en_G} {q : Option en_V → en_S → Prop}  {l0 l1 l2 l3 : en_V} {x4 : Option Nat} {σ : en_S} : en_J (X_X6_command G q) 7 [l0, l1, l2, l3, en_R x4] [] σ ↔ en_J (X_X6_command G q) 9 [l0, l1, l2, l3, en_R x4] [en_R x4] σ := en_j1 d_X6_command_7 rfl rfl
theorem d_X6_command_9 : decode cX6_command 9 = .ok (.ifnull 27, 3) := by decide +kernel
theorem j_X6_command_9 {G : en_G} {q : Option en_V → en_S → Prop}  {l0 l1 l2 l3 l4 : en_V} {a0 : Option Nat} {σ : en_S} : en_J (X_X6_command G q) 9 [l0, l1, l2, l3, l4] [en_R a0] σ ↔ (a0 = none → en_J (X_X6_command G q) 36 [l0, l1, l2, l3, l4] [] σ) ∧ (¬ (a0 = none) → en_J (X_X6_command G q) 12 [l0, l1, l2, l3, l4] [] σ) := en_jb d_X6_command_9 rfl ⟨rfl, by decide⟩
theorem d_X6_command_12 : decode cX6_command 12 = .ok (.iload_n 2, 1) := by decide +kernel
theorem j_X6_command_12 {G : en_G} {q : Option en_V → en_S → Prop}  {l0 l1 l3 l4 : en_V} {x2 : Int32} {σ : en_S} : en_J (X_X6_command G q) 12 [l0, l1, en_I x2, l3, l4] [] σ ↔ en_J (X_X6_command G q) 13 [l0, l1, en_I x2, l3, l4] [en_I x2] σ := en_j1 d_X6_command_12 rfl rfl
theorem d_X6_command_13 : decode cX6_command 13 = .ok (.ifCond .lt 23, 3) := by decide +kernel
theorem j_X6_command_13 {G : en_G} {q : Option en_V → en_S → Prop}  {l0 l1 l2 l3 l4 : en_V} {a0 : Int32} {σ : en_S} : en_J (X_X6_command G q) 13 [l0, l1, l2, l3, l4] [en_I a0] σ ↔ (a0 < 0 → en_J (X_X6_command G q) 36 [l0, l1, l2, l3, l4] [] σ) ∧ (¬ (a0 < 0) → en_J (X_X6_command G q) 16 [l0, l1, l2, l3, l4] [] σ) := en_jb d_X6_command_13 rfl ⟨rfl, by decide⟩
theorem d_X6_command_16 : decode cX6_command 16 = .ok (.iload_n 2, 1) := by decide +kernel
theorem j_X6_command_16 {G : en_G} {q : Option en_V → en_S → Prop}  {l0 l1 l3 l4 : en_V} {x2 : Int32} {σ : en_S} : en_J (X_X6_command G q) 16 [l0, l1, en_I x2, l3, l4] [] σ ↔ en_J (X_X6_command G q) 17 [l0, l1, en_I x2, l3, l4] [en_I x2] σ := en_j1 d_X6_command_16 rfl rfl
theorem d_X6_command_17 : decode cX6_command 17 = .ok (.bipush 9, 2) := by decide +kernel
theorem j_X6_command_17 {G : en_G} {q : Option en_V → en_S → Prop}  {l0 l1 l2 l3 l4 : en_V} {a0 : Int32} {σ : en_S} : en_J (X_X6_command G q) 17 [l0, l1, l2, l3, l4] [en_I a0] σ ↔ en_J (X_X6_command G q) 19 [l0, l1, l2, l3, l4] [en_I 9, en_I a0] σ := ej_bipush d_X6_command_17 (by decide +kernel)
theorem d_X6_command_19 : decode cX6_command 19 = .ok (.if_icmp .ge 17, 3) := by decide +kernel
theorem j_X6_command_19 {G : en_G} {q : Option en_V → en_S → Prop}  {l0 l1 l2 l3 l4 : en_V} {a0 : Int32} {a1 : Int32} {σ : en_S} : en_J (X_X6_command G q) 19 [l0, l1, l2, l3, l4] [en_I a0, en_I a1] σ ↔ (a0 ≤ a1 → en_J (X_X6_command G q) 36 [l0, l1, l2, l3, l4] [] σ) ∧ (¬ (a0 ≤ a1) → en_J (X_X6_command G q) 22 [l0, l1, l2, l3, l4] [] σ) := en_jb d_X6_command_19 rfl ⟨rfl, by decide⟩
theorem d_X6_command_22 : decode cX6_command 22 = .ok (.aload 4, 2) := by decide +kernel
theorem j_X6_command_22 {G : en_G} {q : Option en_V → en_S → Prop}  {l0 l1 l2 l3 : en_V} {x4 : Option Nat} {σ : en_S} : en_J (X_X6_command G q) 22 [l0, l1, l2, l3, en_R x4] [] σ ↔ en_J (X_X6_command G q) 24 [l0, l1, l2, l3, en_R x4] [en_R x4] σ := en_j1 d_X6_command_22 rfl rfl
theorem d_X6_command_24 : decode cX6_command 24 = .ok (.iload_n 2, 1) := by decide +kernel
theorem j_X6_command_24 {G : en_G} {q : Option en_V → en_S → Prop}  {l0 l1 l3 l4 : en_V} {a0 : Option Nat} {x2 : Int32} {σ : en_S} : en_J (X_X6_command G q) 24 [l0, l1, en_I x2, l3, l4] [en_R a0] σ ↔ en_J (X_X6_command G q) 25 [l0, l1, en_I x2, l3, l4] [en_I x2, en_R a0] σ := en_j1 d_X6_command_24 rfl rfl
theorem d_X6_command_25 : decode cX6_command 25 = .ok (.iload_n 3, 1) := by decide +kernel
theorem j_X6_command_25 {G : en_G} {q : Option en_V → en_S → Prop}  {l0 l1 l2 l4 : en_V} {a0 : Int32} {a1 : Option Nat} {x3 : Int32} {σ : en_S} : en_J (X_X6_command G q) 25 [l0, l1, l2, en_I x3, l4] [en_I a0, en_R a1] σ ↔ en_J (X_X6_command G q) 26 [l0, l1, l2, en_I x3, l4] [en_I x3, en_I a0, en_R a1] σ := en_j1 d_X6_command_25 rfl rfl
theorem d_X6_command_26 : decode cX6_command 26 = .ok (.invokevirtual 107, 3) := by decide +kernel
theorem j_X6_command_26 {G : en_G} {q : Option en_V → en_S → Prop}  {l0 l1 l2 l3 l4 : en_V} {a0 : Int32} {a1 : Int32} {a2 : Option Nat} {σ : en_S} : en_J (X_X6_command G q) 26 [l0, l1, l2, l3, l4] [en_I a0, en_I a1, en_R a2] σ ↔ C_X5_append.1 [en_R a2, en_I a1, en_I a0] σ ∧ ∀ (r : Option en_V) (σ' : en_S), C_X5_append.2 [en_R a2, en_I a1, en_I a0] σ r σ' → en_J (X_X6_command G q) 29 [l0, l1, l2, l3, l4] (r.toList ++ []) σ' := en_jk d_X6_command_26 rfl ⟨fun h => h.2.2.2.2, fun h => ⟨rfl, rfl, Nat.le_of_ble_eq_true rfl, Nat.le_of_ble_eq_true rfl, h⟩⟩
theorem d_X6_command_29 : decode cX6_command 29 = .ok (.ifCond .eq 7, 3) := by decide +kernel
theorem j_X6_command_29 {G : en_G} {q : Option en_V → en_S → Prop}  {l0 l1 l2 l3 l4 : en_V} {a0 : Int32} {σ : en_S} : en_J (X_X6_command G q) 29 [l0, l1, l2, l3, l4] [en_I a0] σ ↔ (a0 = 0 → en_J (X_X6_command G q) 36 [l0, l1, l2, l3, l4] [] σ) ∧ (¬ (a0 = 0) → en_J (X_X6_command G q) 32 [l0, l1, l2, l3, l4] [] σ) := en_jb d_X6_command_29 rfl ⟨rfl, by decide⟩
theorem d_X6_command_32 : decode cX6_command 32 = .ok (.iconst 1, 1) := by decide +kernel
theorem j_X6_command_32 {G : en_G} {q : Option en_V → en_S → Prop}  {l0 l1 l2 l3 l4 : en_V}  {σ : en_S} : en_J (X_X6_command G q) 32 [l0, l1, l2, l3, l4] [] σ ↔ en_J (X_X6_command G q) 33 [l0, l1, l2, l3, l4] [en_I 1] σ := ej_iconst d_X6_command_32 (by decide +kernel)
theorem d_X6_command_33 : decode cX6_command 33 = .ok (.goto 4, 3) := by decide +kernel
theorem j_X6_command_33 {G : en_G} {q : Option en_V → en_S → Prop}  {l0 l1 l2 l3 l4 : en_V} {a0 : Int32} {σ : en_S} : en_J (X_X6_command G q) 33 [l0, l1, l2, l3, l4] [en_I a0] σ ↔ en_J (X_X6_command G q) 37 [l0, l1, l2, l3, l4] [en_I a0] σ := en_j1 d_X6_command_33 rfl ⟨rfl, by decide⟩
theorem d_X6_command_36 : decode cX6_command 36 = .ok (.iconst 0, 1) := by decide +kernel
theorem j_X6_command_36 {G : en_G} {q : Option en_V → en_S → Prop}  {l0 l1 l2 l3 l4 : en_V}  {σ : en_S} : en_J (X_X6_command G q) 36 [l0, l1, l2, l3, l4] [] σ ↔ en_J (X_X6_command G q) 37 [l0, l1, l2, l3, l4] [en_I 0] σ := ej_iconst d_X6_command_36 (by decide +kernel)
theorem d_X6_command_37 : decode cX6_command 37 = .ok (.ireturn, 1) := by decide +kernel
theorem j_X6_command_37 {G : en_G} {q : Option en_V → en_S → Prop}  {l0 l1 l2 l3 l4 : en_V} {a0 : Int32} {σ : en_S} : en_J (X_X6_command G q) 37 [l0, l1, l2, l3, l4] [en_I a0] σ ↔ (a0 = 0 ∨ a0 = 1) ∧ q (some (en_I a0)) σ := en_jr d_X6_command_37 rfl ⟨fun h => ⟨h.2.1.elim (fun z => absurd (show (2 : Nat) = 1 from z) (by decide)) (fun z => z.2), h.2.2⟩, fun h => ⟨rfl, Or.inr ⟨rfl, h.1⟩, h.2⟩⟩
theorem wc_X6_command : Jvm.Cond.code yX6_command cX6_command 5 (some .boolean) ∈ en_W := en_inW (List.mem_of_getElem? (i := 266) (by decide +kernel)) (by decide +kernel)
theorem wi_X6_command : Jvm.Cond.instanceMethod yX6_command ∈ en_W := en_inW (List.mem_of_getElem? (i := 264) (by decide +kernel)) (by decide +kernel)
theorem wx_X6_command : Jvm.Cond.selects RX6 yX6_command yX6_command ∈ en_W := en_inW (List.mem_of_getElem? (i := 265) (by decide +kernel)) (by decide +kernel)
theorem jl_X6_command {G : en_G}  {x : Nat} {rm : Nat} {S : pb_S} {s : Int32} {c : Int32} {n : Int32} {q : Option en_V → en_S → Prop} {σ : en_S} (hp : PZ G x (rm + 64) S σ) (hq : ∀ v σ', (PZ G x rm (op_command S s c n).1 σ' ∧ ag σ σ' pF (pV x) ∧ v = some (en_I (op_command S s c n).2)) → q v σ') : en_J (X_X6_command G q) 0 [en_R (some x), en_I s, en_I c, en_I n, en_U] [] σ := by
  obtain ⟨na, la, ba, hP⟩ := hp
  have hC := hP.1
  have w := hC.2.2.2.2.2.2.2.2.1
  have i1 : ¬ (1 : Int32) = 0 := by decide
  have fin : op_command S s c n = (S, 0) → q (some (en_I 0)) σ := fun hop => hq _ _ ⟨by rw [hop]; exact hP.z (by omega), ag.rf, by rw [hop]⟩
  simp only [j_X6_command_0, j_X6_command_1, j_X6_command_2, j_X6_command_5, j_X6_command_7, j_X6_command_9, j_X6_command_12, j_X6_command_13, j_X6_command_16, j_X6_command_17, j_X6_command_19, j_X6_command_22, j_X6_command_24, j_X6_command_25, j_X6_command_26, j_X6_command_29, j_X6_command_32, j_X6_command_33, j_X6_command_36, j_X6_command_37, en_c2I, en_c2R, en_c2U, en_c2D, Option.some.injEq, exists_eq_left', exists_eq_left, Option.map_some, Option.map_none, not_true_eq_false, false_implies, true_implies, and_true, true_and, reduceCtorEq, not_false_eq_true]
  refine en_use (cu_X6_scriptAt hC) ?_
  rintro v σ' ⟨rfl, rfl⟩
  cases hx : st_ix 8 s with
  | none =>
    simp only [Option.toList, List.cons_append, List.nil_append, j_X6_command_0, j_X6_command_1, j_X6_command_2, j_X6_command_5, j_X6_command_7, j_X6_command_9, j_X6_command_12, j_X6_command_13, j_X6_command_16, j_X6_command_17, j_X6_command_19, j_X6_command_22, j_X6_command_24, j_X6_command_25, j_X6_command_26, j_X6_command_29, j_X6_command_32, j_X6_command_33, j_X6_command_36, j_X6_command_37, en_c2I, en_c2R, en_c2U, en_c2D, Option.some.injEq, exists_eq_left', exists_eq_left, Option.map_some, Option.map_none, not_true_eq_false, false_implies, true_implies, and_true, true_and, reduceCtorEq, not_false_eq_true, true_or]
    exact fin (by unfold op_command; rw [hx])
  | some s' =>
    obtain ⟨hs, rfl⟩ := st_ix_some (by decide) hx
    cases hy : st_ix 9 c with
    | none =>
      have hno := st_ix_none hy
      have c9 : nI 9 = 9 := by decide +kernel
      have := fin (by unfold op_command; rw [hx, hy])
      simp only [Option.toList, List.cons_append, List.nil_append, j_X6_command_0, j_X6_command_1, j_X6_command_2, j_X6_command_5, j_X6_command_7, j_X6_command_9, j_X6_command_12, j_X6_command_13, j_X6_command_16, j_X6_command_17, j_X6_command_19, j_X6_command_22, j_X6_command_24, j_X6_command_25, j_X6_command_26, j_X6_command_29, j_X6_command_32, j_X6_command_33, j_X6_command_36, j_X6_command_37, en_c2I, en_c2R, en_c2U, en_c2D, Option.some.injEq, exists_eq_left', exists_eq_left, Option.map_some, Option.map_none, not_true_eq_false, false_implies, true_implies, and_true, true_and, reduceCtorEq, not_false_eq_true, true_or]
      exact ⟨fun _ => this, fun h1 => ⟨fun _ => this, fun h2 => absurd ⟨Int32.not_lt.mp h1, by rw [c9]; exact Int32.not_le.mp h2⟩ hno⟩⟩
    | some c' =>
      obtain ⟨hc, rfl⟩ := st_ix_some (by decide) hy
      have q1 : ¬ nI c' < 0 := nI_pos (by omega)
      have q2 : ¬ 9 ≤ nI c' := by rw [show (9 : Int32) = nI 9 from by decide +kernel]; exact nI_ge hc (by decide)
      obtain ⟨s1, s2, s3, s4, s5, s6⟩ := hC.1.2.2.2.1 s' hs
      obtain ⟨r1, r2⟩ := hC.2.2.2.2.2.1 s' hs
      have h5 := w.2.2.2.1 s' hs
      simp only [Option.toList, List.cons_append, List.nil_append, j_X6_command_0, j_X6_command_1, j_X6_command_2, j_X6_command_5, j_X6_command_7, j_X6_command_9, j_X6_command_12, j_X6_command_13, j_X6_command_16, j_X6_command_17, j_X6_command_19, j_X6_command_22, j_X6_command_24, j_X6_command_25, j_X6_command_26, j_X6_command_29, j_X6_command_32, j_X6_command_33, j_X6_command_36, j_X6_command_37, en_c2I, en_c2R, en_c2U, en_c2D, Option.some.injEq, exists_eq_left', exists_eq_left, Option.map_some, Option.map_none, not_true_eq_false, false_implies, true_implies, and_true, true_and, reduceCtorEq, not_false_eq_true, q1, q2]
      refine en_use (cu_X5_append ⟨s2, s3, s4, s5, s6, r1, h5⟩) ?_
      rintro v σ1 ⟨rfl, rfl⟩
      by_cases hl : sa_D S.1 4 s' < 5
      · rw [if_pos hl, if_pos hl]
        have hop : op_command S (nI s') (nI c') n = ((su_D (su_I (su_D S.1 5 (5 * s' + sa_D S.1 4 s') c') 1 (5 * s' + sa_D S.1 4 s') n) 4 s' (sa_D S.1 4 s' + 1), S.2), 1) := by unfold op_command; rw [hx, hy]; simp only; rw [if_pos hl]
        rw [hop] at hq
        have g : ∀ (F : Nat → Nat → Prop) (V : Nat → Prop), (∀ a, ¬ F 502 a) → ¬ V (x + 9 + 3 * s') → ¬ V (x + 10 + 3 * s') → ag σ' (en_sfi (en_sai (en_sai σ' (x + 9 + 3 * s') (sa_D S.1 4 s') (nI c')) (x + 10 + 3 * s') (sa_D S.1 4 s') n) 502 (x + 8 + 3 * s') (nI (sa_D S.1 4 s' + 1))) F V := fun F V f1 f2 f3 => ((ag_sai f2).tr (ag_sai f3)).tr (ag_sfi (fun a z => absurd z (f1 a)))
        have hD : ∀ f, f ≤ 3 → sa_D (su_D (su_I (su_D S.1 5 (5 * s' + sa_D S.1 4 s') c') 1 (5 * s' + sa_D S.1 4 s') n) 4 s' (sa_D S.1 4 s' + 1)) f = sa_D S.1 f := fun f hf => by
          funext j
          rw [sa_D_D, if_neg (by omega), sa_D_I, sa_D_D, if_neg (by omega)]
        have hI : ∀ f, f ≠ 1 → sa_I (su_D (su_I (su_D S.1 5 (5 * s' + sa_D S.1 4 s') c') 1 (5 * s' + sa_D S.1 4 s') n) 4 s' (sa_D S.1 4 s' + 1)) f = sa_I S.1 f := fun f hf => by
          funext j
          rw [sa_I_D, sa_I_I, if_neg (by omega)]; rfl
        have d4 : ∀ j, sa_D (su_D (su_I (su_D S.1 5 (5 * s' + sa_D S.1 4 s') c') 1 (5 * s' + sa_D S.1 4 s') n) 4 s' (sa_D S.1 4 s' + 1)) 4 j = if j = s' then sa_D S.1 4 s' + 1 else sa_D S.1 4 j := fun j => by simp [sa_D_D, sa_D_I]
        have d5 : ∀ j, sa_D (su_D (su_I (su_D S.1 5 (5 * s' + sa_D S.1 4 s') c') 1 (5 * s' + sa_D S.1 4 s') n) 4 s' (sa_D S.1 4 s' + 1)) 5 j = if j = 5 * s' + sa_D S.1 4 s' then c' else sa_D S.1 5 j := fun j => by simp [sa_D_D, sa_D_I]
        have j1 : ∀ j, sa_I (su_D (su_I (su_D S.1 5 (5 * s' + sa_D S.1 4 s') c') 1 (5 * s' + sa_D S.1 4 s') n) 4 s' (sa_D S.1 4 s' + 1)) 1 j = if j = 5 * s' + sa_D S.1 4 s' then n else sa_I S.1 1 j := fun j => by simp [sa_I_D, sa_I_I]
        have hwf : st_wf (su_D (su_I (su_D S.1 5 (5 * s' + sa_D S.1 4 s') c') 1 (5 * s' + sa_D S.1 4 s') n) 4 s' (sa_D S.1 4 s' + 1)) := by
          obtain ⟨w1, w2, w3, w4, w5, w6, w7⟩ := w
          refine ⟨w1, ?_, ?_, fun z hz => ?_, fun z j hz hj => ?_, ?_, w7⟩
          · rw [hD 0 (by decide)]; exact w2
          · rw [hD 0 (by decide), hD 1 (by decide), hD 2 (by decide), hD 3 (by decide)]; exact w3
          · rw [d4]; split
            · omega
            · exact w4 z hz
          · rw [d4] at hj
            rw [d5]
            split
            · omega
            · rename_i hne
              split at hj
              · rename_i hzs
                subst hzs
                exact w5 z j hz (by omega)
              · exact w5 z j hz hj
          · rw [hD 0 (by decide)]; exact w6
        have hC' := cx_scr hC hwf (g _ _ (fun a z => z rfl) (fun z => z ⟨by omega, by omega⟩) (fun z => z ⟨by omega, by omega⟩)) ⟨rfl, rfl, rfl, rfl⟩ rfl rfl rfl hD hI (fun z hz => by
          obtain ⟨t1, t2⟩ := hC.2.2.2.2.2.1 z hz
          refine ⟨?_, fun j hj => ⟨?_, ?_⟩⟩
          · rw [d4, eg_fi_sfi]
            by_cases e : z = s'
            · subst e; simp
            · have e' : ¬ x + 8 + 3 * z = x + 8 + 3 * s' := by omega
              simp only [e', and_false, if_false, if_neg e]
              exact t1
          · rw [d5]
            simp only [eg_ai_sfi, eg_ai_sai]
            have e0 : ¬ (x + 9 + 3 * z = x + 10 + 3 * s' ∧ j = sa_D S.1 4 s') := by omega
            rw [if_neg e0]
            by_cases e : 5 * z + j = 5 * s' + sa_D S.1 4 s'
            · rw [if_pos e, if_pos (by omega)]
            · rw [if_neg e, if_neg (by omega)]; exact (t2 j hj).1
          · rw [j1]
            simp only [eg_ai_sfi, eg_ai_sai]
            by_cases e : 5 * z + j = 5 * s' + sa_D S.1 4 s'
            · rw [if_pos e, if_pos (by omega)]
            · rw [if_neg e, if_neg (by omega), if_neg (by omega)]; exact (t2 j hj).2)
        simp only [Option.toList, List.cons_append, List.nil_append, j_X6_command_0, j_X6_command_1, j_X6_command_2, j_X6_command_5, j_X6_command_7, j_X6_command_9, j_X6_command_12, j_X6_command_13, j_X6_command_16, j_X6_command_17, j_X6_command_19, j_X6_command_22, j_X6_command_24, j_X6_command_25, j_X6_command_26, j_X6_command_29, j_X6_command_32, j_X6_command_33, j_X6_command_36, j_X6_command_37, en_c2I, en_c2R, en_c2U, en_c2D, Option.some.injEq, exists_eq_left', exists_eq_left, Option.map_some, Option.map_none, not_true_eq_false, false_implies, true_implies, and_true, true_and, reduceCtorEq, not_false_eq_true, i1, or_true]
        exact hq _ _ ⟨(hP.of hC' (g (fun f a => f ≠ 502) (fun a => x + 44 ≤ a) (fun a z => z rfl) (by omega) (by omega)) (fun f hf => by omega) (Nat.le_refl _)).z (by omega), (g (fun f a => f ≠ 502) (fun a => x + 44 ≤ a) (fun a z => z rfl) (by omega) (by omega)).mono (fun f a z => by unfold pF at z; omega) (fun a z => z), rfl⟩
      · rw [if_neg hl, if_neg hl]
        simp only [Option.toList, List.cons_append, List.nil_append, j_X6_command_0, j_X6_command_1, j_X6_command_2, j_X6_command_5, j_X6_command_7, j_X6_command_9, j_X6_command_12, j_X6_command_13, j_X6_command_16, j_X6_command_17, j_X6_command_19, j_X6_command_22, j_X6_command_24, j_X6_command_25, j_X6_command_26, j_X6_command_29, j_X6_command_32, j_X6_command_33, j_X6_command_36, j_X6_command_37, en_c2I, en_c2R, en_c2U, en_c2D, Option.some.injEq, exists_eq_left', exists_eq_left, Option.map_some, Option.map_none, not_true_eq_false, false_implies, true_implies, and_true, true_and, reduceCtorEq, not_false_eq_true, true_or]
        exact fin (by unfold op_command; rw [hx, hy]; simp only; rw [if_neg hl])
theorem jp_X6_command {G : en_G}  : ∀ as σ, (C_X6_command G).1 as σ → (en_lc as).length ≤ 5 ∧ en_J (X_X6_command G (fun r σ' => (C_X6_command G).2 as σ r σ')) 0 (en_loc 5 as) [] σ := en_ghJ (fun g as σ h => by
  obtain ⟨hp, h2⟩ := h
  subst h2
  exact ⟨Nat.le_of_ble_eq_true rfl, jl_X6_command hp (fun _ _ h => h)⟩)
theorem wl_X6_command_103 : Jvm.Cond.methodLink RX6 103 yX6_scriptAt ∈ en_W := en_inW (List.mem_of_getElem? (i := 267) (by decide +kernel)) (by decide +kernel)
theorem wl_X6_command_107 : Jvm.Cond.methodLink RX6 107 yX5_append ∈ en_W := en_inW (List.mem_of_getElem? (i := 271) (by decide +kernel)) (by decide +kernel)
theorem ok_X6_command {G : en_G}  : en_Ok G 3 yX6_command cX6_command 5 (some .boolean) (C_X6_command G) :=
  en_met (own := RX6) (fl := en_lk fl6) (nw := en_lk nw6) (aw := en_lk aw6) (dc := en_lk dc6) (ca := en_lk (ca_X6_command G)) (rt := 2) (ini := false) (by decide +kernel) (Or.inr (Or.inr (Or.inl ⟨rfl, rfl⟩))) (fun h => by cases h) rfl (fun q => en_LkF fl6_ok nw6_ok aw6_ok dc6_ok) (by
    intro idx q hq
    have hm := en_lk_mem hq
    simp only [ca_X6_command, List.mem_cons, Prod.mk.injEq, List.not_mem_nil, or_false] at hm
    rcases hm with ⟨rfl, rfl⟩ | ⟨rfl, rfl⟩
    · exact en_clV (r := (RX6, TX6, 13)) 6 1 ok_X6_scriptAt (by decide) (by decide) rfl rfl pr_X6_scriptAt wl_X6_command_103 wi_X6_scriptAt wx_X6_scriptAt wz_6 wc_X6_scriptAt ⟨by decide +kernel, by decide +kernel, by decide +kernel⟩
    · exact en_clV (r := (RX5, TX5, 3)) 5 2 ok_X5_append (by decide) (by decide) rfl rfl pr_X5_append wl_X6_command_107 wi_X5_append wx_X5_append wz_5 wc_X5_append ⟨by decide +kernel, by decide +kernel, by decide +kernel⟩) jp_X6_command
def P_X6_clear (G : en_G)  (g : (Nat) × (Nat) × (pb_S) × (Int32)) (as : List en_V) (σ : en_S) : Prop := (PZ G (g.1) ((g.2.1) + 64) (g.2.2.1) σ) ∧ as = [en_R (some (g.1)), en_I (g.2.2.2)]
def C_X6_clear (G : en_G)  : en_C := en_gh (P_X6_clear G) (fun g as σ v σ' => PZ G (g.1) (g.2.1) (op_clear (g.2.2.1) (g.2.2.2)).1 σ' ∧ ag σ σ' pF (pV (g.1)) ∧ v = some (en_I (op_clear (g.2.2.1) (g.2.2.2)).2))
theorem pr_X6_clear {G : en_G}  : ∀ as σ, (C_X6_clear G).1 as σ → ∃ b tl, as = en_R (some b) :: tl ∧ en_cl σ b = some 6 ∧ tl.length = 1 := fun as σ ⟨g, hp, h2⟩ => ⟨_, _, h2, hp.cl, rfl⟩
theorem cu_X6_clear {G : en_G}  {x : Nat} {rm : Nat} {S : pb_S} {s : Int32} {σ : en_S} (hp : PZ G x (rm + 64) S σ) : en_Us (C_X6_clear G) [en_R (some x), en_I s] σ (fun v σ' => PZ G x rm (op_clear S s).1 σ' ∧ ag σ σ' pF (pV x) ∧ v = some (en_I (op_clear S s).2)) := ⟨⟨(x, rm, S, s), hp, rfl⟩, fun v σ' q => q (x, rm, S, s) ⟨hp, rfl⟩⟩
def ca_X6_clear (G : en_G) : List (Nat × Nat × en_C) := [(103, 9, (C_X6_scriptAt G))]
def X_X6_clear (G : en_G) (q : Option en_V → en_S → Prop) : en_X := en_mk G cX6_clear (en_lk fl6) (en_lk nw6) (en_lk aw6) (en_lk dc6) (en_lk (ca_X6_clear G)) 2 false q
theorem d_X6_clear_0 : decode cX6_clear 0 = .ok (.aload_n 0, 1) := by decide +kernel
theorem j_X6_clear_0 {G : en_G} {q : Option en_V → en_S → Prop}  {l1 l2 : en_V} {x0 : Option Nat} {σ : en_S} : en_J (X_X6_clear G q) 0 [en_R x0, l1, l2] [] σ ↔ en_J (X_X6_clear G q) 1 [en_R x0, l1, l2] [en_R x0] σ := en_j1 d_X6_clear_0 rfl rfl
theorem d_X6_clear_1 : decode cX6_clear 1 = .ok (.iload_n 1, 1) := by decide +kernel
theorem j_X6_clear_1 {G : en_G} {q : Option en_V → en_S → Prop}  {l0 l2 : en_V} {a0 : Option Nat} {x1 : Int32} {σ : en_S} : en_J (X_X6_clear G q) 1 [l0, en_I x1, l2] [en_R a0] σ ↔ en_J (X_X6_clear G q) 2 [l0, en_I x1, l2] [en_I x1, en_R a0] σ := en_j1 d_X6_clear_1 rfl rfl
theorem d_X6_clear_2 : decode cX6_clear 2 = .ok (.invokevirtual 103, 3) := by decide +kernel
theorem j_X6_clear_2 {G : en_G} {q : Option en_V → en_S → Prop}  {l0 l1 l2 : en_V} {a0 : Int32} {a1 : Option Nat} {σ : en_S} : en_J (X_X6_clear G q) 2 [l0, l1, l2] [en_I a0, en_R a1] σ ↔ (C_X6_scriptAt G).1 [en_R a1, en_I a0] σ ∧ ∀ (r : Option en_V) (σ' : en_S), (C_X6_scriptAt G).2 [en_R a1, en_I a0] σ r σ' → en_J (X_X6_clear G q) 5 [l0, l1, l2] (r.toList ++ []) σ' := en_jkC (C := (C_X6_scriptAt G)) (n' := 2) (k := 1) (idx := 103) d_X6_clear_2 rfl rfl (by decide) (Nat.le_of_ble_eq_true rfl) (Nat.le_of_ble_eq_true rfl)
theorem d_X6_clear_5 : decode cX6_clear 5 = .ok (.astore_n 2, 1) := by decide +kernel
theorem j_X6_clear_5 {G : en_G} {q : Option en_V → en_S → Prop}  {l0 l1 l2 : en_V} {a0 : Option Nat} {σ : en_S} : en_J (X_X6_clear G q) 5 [l0, l1, l2] [en_R a0] σ ↔ en_J (X_X6_clear G q) 6 [l0, en_c2 l1, en_R a0] [] σ := en_j1 d_X6_clear_5 rfl ⟨rfl, Nat.le_of_ble_eq_true rfl⟩
theorem d_X6_clear_6 : decode cX6_clear 6 = .ok (.aload_n 2, 1) := by decide +kernel
theorem j_X6_clear_6 {G : en_G} {q : Option en_V → en_S → Prop}  {l0 l1 : en_V} {x2 : Option Nat} {σ : en_S} : en_J (X_X6_clear G q) 6 [l0, l1, en_R x2] [] σ ↔ en_J (X_X6_clear G q) 7 [l0, l1, en_R x2] [en_R x2] σ := en_j1 d_X6_clear_6 rfl rfl
theorem d_X6_clear_7 : decode cX6_clear 7 = .ok (.ifnonnull 5, 3) := by decide +kernel
theorem j_X6_clear_7 {G : en_G} {q : Option en_V → en_S → Prop}  {l0 l1 l2 : en_V} {a0 : Option Nat} {σ : en_S} : en_J (X_X6_clear G q) 7 [l0, l1, l2] [en_R a0] σ ↔ (¬ a0 = none → en_J (X_X6_clear G q) 12 [l0, l1, l2] [] σ) ∧ (¬ (¬ a0 = none) → en_J (X_X6_clear G q) 10 [l0, l1, l2] [] σ) := en_jb d_X6_clear_7 rfl ⟨rfl, by decide⟩
theorem d_X6_clear_10 : decode cX6_clear 10 = .ok (.iconst 0, 1) := by decide +kernel
theorem j_X6_clear_10 {G : en_G} {q : Option en_V → en_S → Prop}  {l0 l1 l2 : en_V}  {σ : en_S} : en_J (X_X6_clear G q) 10 [l0, l1, l2] [] σ ↔ en_J (X_X6_clear G q) 11 [l0, l1, l2] [en_I 0] σ := ej_iconst d_X6_clear_10 (by decide +kernel)
theorem d_X6_clear_11 : decode cX6_clear 11 = .ok (.ireturn, 1) := by decide +kernel
theorem j_X6_clear_11 {G : en_G} {q : Option en_V → en_S → Prop}  {l0 l1 l2 : en_V} {a0 : Int32} {σ : en_S} : en_J (X_X6_clear G q) 11 [l0, l1, l2] [en_I a0] σ ↔ (a0 = 0 ∨ a0 = 1) ∧ q (some (en_I a0)) σ := en_jr d_X6_clear_11 rfl ⟨fun h => ⟨h.2.1.elim (fun z => absurd (show (2 : Nat) = 1 from z) (by decide)) (fun z => z.2), h.2.2⟩, fun h => ⟨rfl, Or.inr ⟨rfl, h.1⟩, h.2⟩⟩
theorem d_X6_clear_12 : decode cX6_clear 12 = .ok (.aload_n 2, 1) := by decide +kernel
theorem j_X6_clear_12 {G : en_G} {q : Option en_V → en_S → Prop}  {l0 l1 : en_V} {x2 : Option Nat} {σ : en_S} : en_J (X_X6_clear G q) 12 [l0, l1, en_R x2] [] σ ↔ en_J (X_X6_clear G q) 13 [l0, l1, en_R x2] [en_R x2] σ := en_j1 d_X6_clear_12 rfl rfl
theorem d_X6_clear_13 : decode cX6_clear 13 = .ok (.iconst 0, 1) := by decide +kernel
theorem j_X6_clear_13 {G : en_G} {q : Option en_V → en_S → Prop}  {l0 l1 l2 : en_V} {a0 : Option Nat} {σ : en_S} : en_J (X_X6_clear G q) 13 [l0, l1, l2] [en_R a0] σ ↔ en_J (X_X6_clear G q) 14 [l0, l1, l2] [en_I 0, en_R a0] σ := ej_iconst d_X6_clear_13 (by decide +kernel)
theorem d_X6_clear_14 : decode cX6_clear 14 = .ok (.putfield 111, 3) := by decide +kernel
theorem j_X6_clear_14 {G : en_G} {q : Option en_V → en_S → Prop}  {l0 l1 l2 : en_V} {a0 : Int32} {a1 : Option Nat} {σ : en_S} : en_J (X_X6_clear G q) 14 [l0, l1, l2] [en_I a0, en_R a1] σ ↔ ∃ a, a1 = some a ∧ en_cl σ a = some 5 ∧ en_J (X_X6_clear G q) 17 [l0, l1, l2] [] (en_sfi σ 502 a a0) := en_jg (st := fun o => [en_I a0, en_R o]) (st' := fun _ => []) (σ' := fun a => en_sfi σ 502 a a0) d_X6_clear_14 rfl (fun a => rfl) (fun a => ⟨fun h => h.2.1, fun h => ⟨rfl, h, trivial, fun z => absurd z (by decide +kernel)⟩⟩)
theorem d_X6_clear_17 : decode cX6_clear 17 = .ok (.iconst 1, 1) := by decide +kernel
theorem j_X6_clear_17 {G : en_G} {q : Option en_V → en_S → Prop}  {l0 l1 l2 : en_V}  {σ : en_S} : en_J (X_X6_clear G q) 17 [l0, l1, l2] [] σ ↔ en_J (X_X6_clear G q) 18 [l0, l1, l2] [en_I 1] σ := ej_iconst d_X6_clear_17 (by decide +kernel)
theorem d_X6_clear_18 : decode cX6_clear 18 = .ok (.ireturn, 1) := by decide +kernel
theorem j_X6_clear_18 {G : en_G} {q : Option en_V → en_S → Prop}  {l0 l1 l2 : en_V} {a0 : Int32} {σ : en_S} : en_J (X_X6_clear G q) 18 [l0, l1, l2] [en_I a0] σ ↔ (a0 = 0 ∨ a0 = 1) ∧ q (some (en_I a0)) σ := en_jr d_X6_clear_18 rfl ⟨fun h => ⟨h.2.1.elim (fun z => absurd (show (2 : Nat) = 1 from z) (by decide)) (fun z => z.2), h.2.2⟩, fun h => ⟨rfl, Or.inr ⟨rfl, h.1⟩, h.2⟩⟩
theorem wc_X6_clear : Jvm.Cond.code yX6_clear cX6_clear 3 (some .boolean) ∈ en_W := en_inW (List.mem_of_getElem? (i := 278) (by decide +kernel)) (by decide +kernel)
theorem wi_X6_clear : Jvm.Cond.instanceMethod yX6_clear ∈ en_W := en_inW (List.mem_of_getElem? (i := 276) (by decide +kernel)) (by decide +kernel)
theorem wx_X6_clear : Jvm.Cond.selects RX6 yX6_clear yX6_clear ∈ en_W := en_inW (List.mem_of_getElem? (i := 277) (by decide +kernel)) (by decide +kernel)
theorem jl_X6_clear {G : en_G}  {x : Nat} {rm : Nat} {S : pb_S} {s : Int32} {q : Option en_V → en_S → Prop} {σ : en_S} (hp : PZ G x (rm + 64) S σ) (hq : ∀ v σ', (PZ G x rm (op_clear S s).1 σ' ∧ ag σ σ' pF (pV x) ∧ v = some (en_I (op_clear S s).2)) → q v σ') : en_J (X_X6_clear G q) 0 [en_R (some x), en_I s, en_U] [] σ := by
  obtain ⟨na, la, ba, hP⟩ := hp
  have hC := hP.1
  have w := hC.2.2.2.2.2.2.2.2.1
  simp only [j_X6_clear_0, j_X6_clear_1, j_X6_clear_2, j_X6_clear_5, j_X6_clear_6, j_X6_clear_7, j_X6_clear_10, j_X6_clear_11, j_X6_clear_12, j_X6_clear_13, j_X6_clear_14, j_X6_clear_17, j_X6_clear_18, en_c2I, en_c2R, en_c2U, en_c2D, Option.some.injEq, exists_eq_left', exists_eq_left, Option.map_some, Option.map_none, not_true_eq_false, false_implies, true_implies, and_true, true_and, reduceCtorEq, not_false_eq_true]
  refine en_use (cu_X6_scriptAt hC) ?_
  rintro v σ' ⟨rfl, rfl⟩
  cases hx : st_ix 8 s with
  | none =>
    have hop : op_clear S s = (S, 0) := by unfold op_clear; rw [hx]
    rw [hop] at hq
    simp only [Option.toList, List.cons_append, List.nil_append, j_X6_clear_0, j_X6_clear_1, j_X6_clear_2, j_X6_clear_5, j_X6_clear_6, j_X6_clear_7, j_X6_clear_10, j_X6_clear_11, j_X6_clear_12, j_X6_clear_13, j_X6_clear_14, j_X6_clear_17, j_X6_clear_18, en_c2I, en_c2R, en_c2U, en_c2D, Option.some.injEq, exists_eq_left', exists_eq_left, Option.map_some, Option.map_none, not_true_eq_false, false_implies, true_implies, and_true, true_and, reduceCtorEq, not_false_eq_true, true_or]
    exact hq _ _ ⟨hP.z (by omega), ag.rf, rfl⟩
  | some s' =>
    obtain ⟨hs, rfl⟩ := st_ix_some (by decide) hx
    have hop : op_clear S (nI s') = ((su_D S.1 4 s' 0, S.2), 1) := by unfold op_clear; rw [hx]
    rw [hop] at hq
    obtain ⟨s1, s2, s3, s4, s5, s6⟩ := hC.1.2.2.2.1 s' hs
    have g : ∀ (F : Nat → Nat → Prop) (V : Nat → Prop), (∀ a, ¬ F 502 a) → ag σ' (en_sfi σ' 502 (x + 8 + 3 * s') 0) F V := fun F V f1 => ag_sfi (fun a z => absurd z (f1 a))
    have hD : ∀ f, f ≤ 3 → sa_D (su_D S.1 4 s' 0) f = sa_D S.1 f := fun f hf => by
      funext j
      rw [sa_D_D, if_neg (by omega)]
    have d4 : ∀ j, sa_D (su_D S.1 4 s' 0) 4 j = if j = s' then 0 else sa_D S.1 4 j := fun j => by simp [sa_D_D]
    have d5 : ∀ j, sa_D (su_D S.1 4 s' 0) 5 j = sa_D S.1 5 j := fun j => by simp [sa_D_D]
    have hwf : st_wf (su_D S.1 4 s' 0) := by
      obtain ⟨w1, w2, w3, w4, w5, w6, w7⟩ := w
      refine ⟨w1, ?_, ?_, fun z hz => ?_, fun z j hz hj => ?_, ?_, w7⟩
      · rw [hD 0 (by decide)]; exact w2
      · rw [hD 0 (by decide), hD 1 (by decide), hD 2 (by decide), hD 3 (by decide)]; exact w3
      · rw [d4]; split
        · omega
        · exact w4 z hz
      · rw [d4] at hj
        rw [d5]
        split at hj
        · omega
        · exact w5 z j hz hj
      · rw [hD 0 (by decide)]; exact w6
    have hC' := cx_scr hC hwf (g _ _ (fun a z => z rfl)) ⟨rfl, rfl, rfl, rfl⟩ rfl rfl rfl hD (fun _ _ => rfl) (fun z hz => by
      obtain ⟨t1, t2⟩ := hC.2.2.2.2.2.1 z hz
      refine ⟨?_, fun j hj => ⟨?_, (t2 j hj).2⟩⟩
      · rw [d4, eg_fi_sfi]
        by_cases e : z = s'
        · subst e; simp only [true_and, if_true]; decide +kernel
        · have e' : ¬ x + 8 + 3 * z = x + 8 + 3 * s' := by omega
          simp only [e', and_false, if_false, if_neg e]
          exact t1
      · rw [d5]; exact (t2 j hj).1)
    simp only [Option.toList, List.cons_append, List.nil_append, j_X6_clear_0, j_X6_clear_1, j_X6_clear_2, j_X6_clear_5, j_X6_clear_6, j_X6_clear_7, j_X6_clear_10, j_X6_clear_11, j_X6_clear_12, j_X6_clear_13, j_X6_clear_14, j_X6_clear_17, j_X6_clear_18, en_c2I, en_c2R, en_c2U, en_c2D, Option.some.injEq, exists_eq_left', exists_eq_left, Option.map_some, Option.map_none, not_true_eq_false, false_implies, true_implies, and_true, true_and, reduceCtorEq, not_false_eq_true, s2, or_true]
    exact hq _ _ ⟨(hP.of hC' (g (fun f a => f ≠ 502) (fun a => x + 44 ≤ a) (fun a z => z rfl)) (fun f hf => by omega) (Nat.le_refl _)).z (by omega), (g (fun f a => f ≠ 502) (fun a => x + 44 ≤ a) (fun a z => z rfl)).mono (fun f a z => by unfold pF at z; omega) (fun a z => z), rfl⟩
theorem jp_X6_clear {G : en_G}  : ∀ as σ, (C_X6_clear G).1 as σ → (en_lc as).length ≤ 3 ∧ en_J (X_X6_clear G (fun r σ' => (C_X6_clear G).2 as σ r σ')) 0 (en_loc 3 as) [] σ := en_ghJ (fun g as σ h => by
  obtain ⟨hp, h2⟩ := h
  subst h2
  exact ⟨Nat.le_of_ble_eq_true rfl, jl_X6_clear hp (fun _ _ h => h)⟩)
theorem wl_X6_clear_103 : Jvm.Cond.methodLink RX6 103 yX6_scriptAt ∈ en_W := en_inW (List.mem_of_getElem? (i := 267) (by decide +kernel)) (by decide +kernel)
theorem ok_X6_clear {G : en_G}  : en_Ok G 2 yX6_clear cX6_clear 3 (some .boolean) (C_X6_clear G) :=
  en_met (own := RX6) (fl := en_lk fl6) (nw := en_lk nw6) (aw := en_lk aw6) (dc := en_lk dc6) (ca := en_lk (ca_X6_clear G)) (rt := 2) (ini := false) (by decide +kernel) (Or.inr (Or.inr (Or.inl ⟨rfl, rfl⟩))) (fun h => by cases h) rfl (fun q => en_LkF fl6_ok nw6_ok aw6_ok dc6_ok) (by
    intro idx q hq
    have hm := en_lk_mem hq
    simp only [ca_X6_clear, List.mem_cons, Prod.mk.injEq, List.not_mem_nil, or_false] at hm
    rcases hm with ⟨rfl, rfl⟩
    · exact en_clV (r := (RX6, TX6, 13)) 6 1 ok_X6_scriptAt (by decide) (by decide) rfl rfl pr_X6_scriptAt wl_X6_clear_103 wi_X6_scriptAt wx_X6_scriptAt wz_6 wc_X6_scriptAt ⟨by decide +kernel, by decide +kernel, by decide +kernel⟩) jp_X6_clear
