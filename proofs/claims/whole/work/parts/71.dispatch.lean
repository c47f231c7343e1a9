/-! THE CLASS throws: dispatch, place -/
def P_X6_dispatch (G : en_G) (g : (Nat) × (Nat) × (pb_S) × (Int32) × (Int32) × (Int32)) (as : List en_V) (σ : en_S) : Prop := (PZ G (g.1) ((g.2.1) + 64) (g.2.2.1) σ ∧ sa_D (g.2.2.1).1 0 1 < 2 ^ 20) ∧ as = [en_R (some (g.1)), en_I (g.2.2.2.1), en_I (g.2.2.2.2.1), en_I (g.2.2.2.2.2)]
def C_X6_dispatch (G : en_G) : en_C := en_gh (P_X6_dispatch G) (fun g as σ v σ' => PZ G (g.1) (g.2.1) (op_dispatch (g.2.2.1) (g.2.2.2.1) (g.2.2.2.2.1) (g.2.2.2.2.2)).1 σ' ∧ ag σ σ' pF (pV (g.1)) ∧ (op_dispatch (g.2.2.1) (g.2.2.2.1) (g.2.2.2.2.1) (g.2.2.2.2.2)).2.1 = 0 ∧ v = some (en_I (op_dispatch (g.2.2.1) (g.2.2.2.1) (g.2.2.2.2.1) (g.2.2.2.2.2)).2.2))
def XP_X6_dispatch (G : en_G) : en_XP := en_ghx (P_X6_dispatch G) (fun g as σ E σ' => PZ G (g.1) (g.2.1) (op_dispatch (g.2.2.1) (g.2.2.2.1) (g.2.2.2.2.1) (g.2.2.2.2.2)).1 σ' ∧ ag σ σ' pF (pV (g.1)) ∧ (((op_dispatch (g.2.2.1) (g.2.2.2.1) (g.2.2.2.2.1) (g.2.2.2.2.2)).2.1 = 1 ∧ E = en_NS) ∨ ((op_dispatch (g.2.2.1) (g.2.2.2.1) (g.2.2.2.2.1) (g.2.2.2.2.2)).2.1 = 2 ∧ E = en_IA)))
theorem pr_X6_dispatch {G : en_G} : ∀ as σ, (C_X6_dispatch G).1 as σ → ∃ b tl, as = en_R (some b) :: tl ∧ en_cl σ b = some 6 ∧ tl.length = 3 := fun as σ ⟨g, hp, h2⟩ => ⟨_, _, h2, hp.1.cl, rfl⟩
def ca_X6_dispatch (G : en_G) : List (Nat × Nat × en_C) := [(57, 9, (C_X6_nodeAt G)), (114, 4, C_X6_isType), (130, 17, (C_X6_send G 4))]
def xt_X6_dispatch : List (Nat × String) := [(12, en_NS), (39, en_IA)]
def X_X6_dispatch (G : en_G) (qx : String → en_S → Prop) (q : Option en_V → en_S → Prop) : en_X := en_mkX G cX6_dispatch (en_lk fl6) (en_lk nw6) (en_lk aw6) (en_lk dc6) (en_lk (ca_X6_dispatch G)) (en_lk xt_X6_dispatch) 2 false q qx
theorem d_X6_dispatch_0 : decode cX6_dispatch 0 = .ok (.aload_n 0, 1) := by decide +kernel
theorem j_X6_dispatch_0 {G : en_G} {q : Option en_V → en_S → Prop} {qx : String → en_S → Prop} {l1 l2 l3 l4 l5 : en_V} {x0 : Option Nat} {σ : en_S} : en_J (X_X6_dispatch G qx q) 0 [en_R x0, l1, l2, l3, l4, l5] [] σ ↔ en_J (X_X6_dispatch G qx q) 1 [en_R x0, l1, l2, l3, l4, l5] [en_R x0] σ := en_j1 d_X6_dispatch_0 rfl rfl
theorem d_X6_dispatch_1 : decode cX6_dispatch 1 = .ok (.iload_n 1, 1) := by decide +kernel
theorem j_X6_dispatch_1 {G : en_G} {q : Option en_V → en_S → Prop} {qx : String → en_S → Prop} {l0 l2 l3 l4 l5 : en_V} {a0 : Option Nat} {x1 : Int32} {σ : en_S} : en_J (X_X6_dispatch G qx q) 1 [l0, en_I x1, l2, l3, l4, l5] [en_R a0] σ ↔ en_J (X_X6_dispatch G qx q) 2 [l0, en_I x1, l2, l3, l4, l5] [en_I x1, en_R a0] σ := en_j1 d_X6_dispatch_1 rfl rfl
theorem d_X6_dispatch_2 : decode cX6_dispatch 2 = .ok (.invokevirtual 57, 3) := by decide +kernel
theorem j_X6_dispatch_2 {G : en_G} {q : Option en_V → en_S → Prop} {qx : String → en_S → Prop} {l0 l1 l2 l3 l4 l5 : en_V} {a0 : Int32} {a1 : Option Nat} {σ : en_S} : en_J (X_X6_dispatch G qx q) 2 [l0, l1, l2, l3, l4, l5] [en_I a0, en_R a1] σ ↔ (C_X6_nodeAt G).1 [en_R a1, en_I a0] σ ∧ ∀ (r : Option en_V) (σ' : en_S), (C_X6_nodeAt G).2 [en_R a1, en_I a0] σ r σ' → en_J (X_X6_dispatch G qx q) 5 [l0, l1, l2, l3, l4, l5] (r.toList ++ []) σ' := en_jkC (C := (C_X6_nodeAt G)) (n' := 2) (k := 1) (idx := 57) d_X6_dispatch_2 rfl rfl (by decide) (Nat.le_of_ble_eq_true rfl) (Nat.le_of_ble_eq_true rfl)
theorem d_X6_dispatch_5 : decode cX6_dispatch 5 = .ok (.astore 4, 2) := by decide +kernel
theorem j_X6_dispatch_5 {G : en_G} {q : Option en_V → en_S → Prop} {qx : String → en_S → Prop} {l0 l1 l2 l3 l4 l5 : en_V} {a0 : Option Nat} {σ : en_S} : en_J (X_X6_dispatch G qx q) 5 [l0, l1, l2, l3, l4, l5] [en_R a0] σ ↔ en_J (X_X6_dispatch G qx q) 7 [l0, l1, l2, en_c2 l3, en_R a0, l5] [] σ := en_j1 d_X6_dispatch_5 rfl ⟨rfl, Nat.le_of_ble_eq_true rfl⟩
theorem d_X6_dispatch_7 : decode cX6_dispatch 7 = .ok (.aload 4, 2) := by decide +kernel
theorem j_X6_dispatch_7 {G : en_G} {q : Option en_V → en_S → Prop} {qx : String → en_S → Prop} {l0 l1 l2 l3 l5 : en_V} {x4 : Option Nat} {σ : en_S} : en_J (X_X6_dispatch G qx q) 7 [l0, l1, l2, l3, en_R x4, l5] [] σ ↔ en_J (X_X6_dispatch G qx q) 9 [l0, l1, l2, l3, en_R x4, l5] [en_R x4] σ := en_j1 d_X6_dispatch_7 rfl rfl
theorem d_X6_dispatch_9 : decode cX6_dispatch 9 = .ok (.ifnonnull 13, 3) := by decide +kernel
theorem j_X6_dispatch_9 {G : en_G} {q : Option en_V → en_S → Prop} {qx : String → en_S → Prop} {l0 l1 l2 l3 l4 l5 : en_V} {a0 : Option Nat} {σ : en_S} : en_J (X_X6_dispatch G qx q) 9 [l0, l1, l2, l3, l4, l5] [en_R a0] σ ↔ (¬ a0 = none → en_J (X_X6_dispatch G qx q) 22 [l0, l1, l2, l3, l4, l5] [] σ) ∧ (¬ (¬ a0 = none) → en_J (X_X6_dispatch G qx q) 12 [l0, l1, l2, l3, l4, l5] [] σ) := en_jb d_X6_dispatch_9 rfl ⟨rfl, by decide⟩
theorem d_X6_dispatch_12 : decode cX6_dispatch 12 = .ok (.new 91, 3) := by decide +kernel
theorem d_X6_dispatch_15 : decode cX6_dispatch 15 = .ok (.dup, 1) := by decide +kernel
theorem j_X6_dispatch_15 {G : en_G} {q : Option en_V → en_S → Prop} {qx : String → en_S → Prop} {l0 l1 l2 l3 l4 l5 : en_V} {a0 : Option Nat} {σ : en_S} : en_J (X_X6_dispatch G qx q) 15 [l0, l1, l2, l3, l4, l5] [en_R a0] σ ↔ en_J (X_X6_dispatch G qx q) 16 [l0, l1, l2, l3, l4, l5] [en_R a0, en_R a0] σ := en_j1 d_X6_dispatch_15 rfl rfl
theorem d_X6_dispatch_16 : decode cX6_dispatch 16 = .ok (.ldc 70, 2) := by decide +kernel
theorem d_X6_dispatch_18 : decode cX6_dispatch 18 = .ok (.invokespecial 95, 3) := by decide +kernel
theorem d_X6_dispatch_21 : decode cX6_dispatch 21 = .ok (.athrow, 1) := by decide +kernel
theorem d_X6_dispatch_22 : decode cX6_dispatch 22 = .ok (.iload_n 2, 1) := by decide +kernel
theorem j_X6_dispatch_22 {G : en_G} {q : Option en_V → en_S → Prop} {qx : String → en_S → Prop} {l0 l1 l3 l4 l5 : en_V} {x2 : Int32} {σ : en_S} : en_J (X_X6_dispatch G qx q) 22 [l0, l1, en_I x2, l3, l4, l5] [] σ ↔ en_J (X_X6_dispatch G qx q) 23 [l0, l1, en_I x2, l3, l4, l5] [en_I x2] σ := en_j1 d_X6_dispatch_22 rfl rfl
theorem d_X6_dispatch_23 : decode cX6_dispatch 23 = .ok (.invokestatic 114, 3) := by decide +kernel
theorem j_X6_dispatch_23 {G : en_G} {q : Option en_V → en_S → Prop} {qx : String → en_S → Prop} {l0 l1 l2 l3 l4 l5 : en_V} {a0 : Int32} {σ : en_S} : en_J (X_X6_dispatch G qx q) 23 [l0, l1, l2, l3, l4, l5] [en_I a0] σ ↔ C_X6_isType.1 [en_I a0] σ ∧ ∀ (r : Option en_V) (σ' : en_S), C_X6_isType.2 [en_I a0] σ r σ' → en_J (X_X6_dispatch G qx q) 26 [l0, l1, l2, l3, l4, l5] (r.toList ++ []) σ' := en_jk d_X6_dispatch_23 rfl ⟨fun h => h.2.2.2.2, fun h => ⟨rfl, rfl, Nat.le_of_ble_eq_true rfl, Nat.le_of_ble_eq_true rfl, h⟩⟩
theorem d_X6_dispatch_26 : decode cX6_dispatch 26 = .ok (.ifCond .eq 13, 3) := by decide +kernel
theorem j_X6_dispatch_26 {G : en_G} {q : Option en_V → en_S → Prop} {qx : String → en_S → Prop} {l0 l1 l2 l3 l4 l5 : en_V} {a0 : Int32} {σ : en_S} : en_J (X_X6_dispatch G qx q) 26 [l0, l1, l2, l3, l4, l5] [en_I a0] σ ↔ (a0 = 0 → en_J (X_X6_dispatch G qx q) 39 [l0, l1, l2, l3, l4, l5] [] σ) ∧ (¬ (a0 = 0) → en_J (X_X6_dispatch G qx q) 29 [l0, l1, l2, l3, l4, l5] [] σ) := en_jb d_X6_dispatch_26 rfl ⟨rfl, by decide⟩
theorem d_X6_dispatch_29 : decode cX6_dispatch 29 = .ok (.iload_n 3, 1) := by decide +kernel
theorem j_X6_dispatch_29 {G : en_G} {q : Option en_V → en_S → Prop} {qx : String → en_S → Prop} {l0 l1 l2 l4 l5 : en_V} {x3 : Int32} {σ : en_S} : en_J (X_X6_dispatch G qx q) 29 [l0, l1, l2, en_I x3, l4, l5] [] σ ↔ en_J (X_X6_dispatch G qx q) 30 [l0, l1, l2, en_I x3, l4, l5] [en_I x3] σ := en_j1 d_X6_dispatch_29 rfl rfl
theorem d_X6_dispatch_30 : decode cX6_dispatch 30 = .ok (.ifCond .lt 9, 3) := by decide +kernel
theorem j_X6_dispatch_30 {G : en_G} {q : Option en_V → en_S → Prop} {qx : String → en_S → Prop} {l0 l1 l2 l3 l4 l5 : en_V} {a0 : Int32} {σ : en_S} : en_J (X_X6_dispatch G qx q) 30 [l0, l1, l2, l3, l4, l5] [en_I a0] σ ↔ (a0 < 0 → en_J (X_X6_dispatch G qx q) 39 [l0, l1, l2, l3, l4, l5] [] σ) ∧ (¬ (a0 < 0) → en_J (X_X6_dispatch G qx q) 33 [l0, l1, l2, l3, l4, l5] [] σ) := en_jb d_X6_dispatch_30 rfl ⟨rfl, by decide⟩
theorem d_X6_dispatch_33 : decode cX6_dispatch 33 = .ok (.iload_n 3, 1) := by decide +kernel
theorem j_X6_dispatch_33 {G : en_G} {q : Option en_V → en_S → Prop} {qx : String → en_S → Prop} {l0 l1 l2 l4 l5 : en_V} {x3 : Int32} {σ : en_S} : en_J (X_X6_dispatch G qx q) 33 [l0, l1, l2, en_I x3, l4, l5] [] σ ↔ en_J (X_X6_dispatch G qx q) 34 [l0, l1, l2, en_I x3, l4, l5] [en_I x3] σ := en_j1 d_X6_dispatch_33 rfl rfl
theorem d_X6_dispatch_34 : decode cX6_dispatch 34 = .ok (.bipush 8, 2) := by decide +kernel
theorem j_X6_dispatch_34 {G : en_G} {q : Option en_V → en_S → Prop} {qx : String → en_S → Prop} {l0 l1 l2 l3 l4 l5 : en_V} {a0 : Int32} {σ : en_S} : en_J (X_X6_dispatch G qx q) 34 [l0, l1, l2, l3, l4, l5] [en_I a0] σ ↔ en_J (X_X6_dispatch G qx q) 36 [l0, l1, l2, l3, l4, l5] [en_I 8, en_I a0] σ := ej_bipush d_X6_dispatch_34 (by decide +kernel)
theorem d_X6_dispatch_36 : decode cX6_dispatch 36 = .ok (.if_icmp .lt 13, 3) := by decide +kernel
theorem j_X6_dispatch_36 {G : en_G} {q : Option en_V → en_S → Prop} {qx : String → en_S → Prop} {l0 l1 l2 l3 l4 l5 : en_V} {a0 : Int32} {a1 : Int32} {σ : en_S} : en_J (X_X6_dispatch G qx q) 36 [l0, l1, l2, l3, l4, l5] [en_I a0, en_I a1] σ ↔ (a1 < a0 → en_J (X_X6_dispatch G qx q) 49 [l0, l1, l2, l3, l4, l5] [] σ) ∧ (¬ (a1 < a0) → en_J (X_X6_dispatch G qx q) 39 [l0, l1, l2, l3, l4, l5] [] σ) := en_jb d_X6_dispatch_36 rfl ⟨rfl, by decide⟩
theorem d_X6_dispatch_39 : decode cX6_dispatch 39 = .ok (.new 83, 3) := by decide +kernel
theorem d_X6_dispatch_42 : decode cX6_dispatch 42 = .ok (.dup, 1) := by decide +kernel
theorem j_X6_dispatch_42 {G : en_G} {q : Option en_V → en_S → Prop} {qx : String → en_S → Prop} {l0 l1 l2 l3 l4 l5 : en_V} {a0 : Option Nat} {σ : en_S} : en_J (X_X6_dispatch G qx q) 42 [l0, l1, l2, l3, l4, l5] [en_R a0] σ ↔ en_J (X_X6_dispatch G qx q) 43 [l0, l1, l2, l3, l4, l5] [en_R a0, en_R a0] σ := en_j1 d_X6_dispatch_42 rfl rfl
theorem d_X6_dispatch_43 : decode cX6_dispatch 43 = .ok (.ldc 125, 2) := by decide +kernel
theorem d_X6_dispatch_45 : decode cX6_dispatch 45 = .ok (.invokespecial 87, 3) := by decide +kernel
theorem d_X6_dispatch_48 : decode cX6_dispatch 48 = .ok (.athrow, 1) := by decide +kernel
theorem d_X6_dispatch_49 : decode cX6_dispatch 49 = .ok (.aload_n 0, 1) := by decide +kernel
theorem j_X6_dispatch_49 {G : en_G} {q : Option en_V → en_S → Prop} {qx : String → en_S → Prop} {l1 l2 l3 l4 l5 : en_V} {x0 : Option Nat} {σ : en_S} : en_J (X_X6_dispatch G qx q) 49 [en_R x0, l1, l2, l3, l4, l5] [] σ ↔ en_J (X_X6_dispatch G qx q) 50 [en_R x0, l1, l2, l3, l4, l5] [en_R x0] σ := en_j1 d_X6_dispatch_49 rfl rfl
theorem d_X6_dispatch_50 : decode cX6_dispatch 50 = .ok (.iconst 0, 1) := by decide +kernel
theorem j_X6_dispatch_50 {G : en_G} {q : Option en_V → en_S → Prop} {qx : String → en_S → Prop} {l0 l1 l2 l3 l4 l5 : en_V} {a0 : Option Nat} {σ : en_S} : en_J (X_X6_dispatch G qx q) 50 [l0, l1, l2, l3, l4, l5] [en_R a0] σ ↔ en_J (X_X6_dispatch G qx q) 51 [l0, l1, l2, l3, l4, l5] [en_I 0, en_R a0] σ := ej_iconst d_X6_dispatch_50 (by decide +kernel)
theorem d_X6_dispatch_51 : decode cX6_dispatch 51 = .ok (.putfield 127, 3) := by decide +kernel
theorem j_X6_dispatch_51 {G : en_G} {q : Option en_V → en_S → Prop} {qx : String → en_S → Prop} {l0 l1 l2 l3 l4 l5 : en_V} {a0 : Int32} {a1 : Option Nat} {σ : en_S} : en_J (X_X6_dispatch G qx q) 51 [l0, l1, l2, l3, l4, l5] [en_I a0, en_R a1] σ ↔ ∃ a, a1 = some a ∧ en_cl σ a = some 6 ∧ en_J (X_X6_dispatch G qx q) 54 [l0, l1, l2, l3, l4, l5] [] (en_sfi σ 607 a a0) := en_jg (st := fun o => [en_I a0, en_R o]) (st' := fun _ => []) (σ' := fun a => en_sfi σ 607 a a0) d_X6_dispatch_51 rfl (fun a => rfl) (fun a => ⟨fun h => h.2.1, fun h => ⟨rfl, h, trivial, fun z => absurd z (by decide +kernel)⟩⟩)
theorem d_X6_dispatch_54 : decode cX6_dispatch 54 = .ok (.aload_n 0, 1) := by decide +kernel
theorem j_X6_dispatch_54 {G : en_G} {q : Option en_V → en_S → Prop} {qx : String → en_S → Prop} {l1 l2 l3 l4 l5 : en_V} {x0 : Option Nat} {σ : en_S} : en_J (X_X6_dispatch G qx q) 54 [en_R x0, l1, l2, l3, l4, l5] [] σ ↔ en_J (X_X6_dispatch G qx q) 55 [en_R x0, l1, l2, l3, l4, l5] [en_R x0] σ := en_j1 d_X6_dispatch_54 rfl rfl
theorem d_X6_dispatch_55 : decode cX6_dispatch 55 = .ok (.aload 4, 2) := by decide +kernel
theorem j_X6_dispatch_55 {G : en_G} {q : Option en_V → en_S → Prop} {qx : String → en_S → Prop} {l0 l1 l2 l3 l5 : en_V} {a0 : Option Nat} {x4 : Option Nat} {σ : en_S} : en_J (X_X6_dispatch G qx q) 55 [l0, l1, l2, l3, en_R x4, l5] [en_R a0] σ ↔ en_J (X_X6_dispatch G qx q) 57 [l0, l1, l2, l3, en_R x4, l5] [en_R x4, en_R a0] σ := en_j1 d_X6_dispatch_55 rfl rfl
theorem d_X6_dispatch_57 : decode cX6_dispatch 57 = .ok (.iload_n 2, 1) := by decide +kernel
theorem j_X6_dispatch_57 {G : en_G} {q : Option en_V → en_S → Prop} {qx : String → en_S → Prop} {l0 l1 l3 l4 l5 : en_V} {a0 : Option Nat} {a1 : Option Nat} {x2 : Int32} {σ : en_S} : en_J (X_X6_dispatch G qx q) 57 [l0, l1, en_I x2, l3, l4, l5] [en_R a0, en_R a1] σ ↔ en_J (X_X6_dispatch G qx q) 58 [l0, l1, en_I x2, l3, l4, l5] [en_I x2, en_R a0, en_R a1] σ := en_j1 d_X6_dispatch_57 rfl rfl
theorem d_X6_dispatch_58 : decode cX6_dispatch 58 = .ok (.iload_n 3, 1) := by decide +kernel
theorem j_X6_dispatch_58 {G : en_G} {q : Option en_V → en_S → Prop} {qx : String → en_S → Prop} {l0 l1 l2 l4 l5 : en_V} {a0 : Int32} {a1 : Option Nat} {a2 : Option Nat} {x3 : Int32} {σ : en_S} : en_J (X_X6_dispatch G qx q) 58 [l0, l1, l2, en_I x3, l4, l5] [en_I a0, en_R a1, en_R a2] σ ↔ en_J (X_X6_dispatch G qx q) 59 [l0, l1, l2, en_I x3, l4, l5] [en_I x3, en_I a0, en_R a1, en_R a2] σ := en_j1 d_X6_dispatch_58 rfl rfl
theorem d_X6_dispatch_59 : decode cX6_dispatch 59 = .ok (.invokevirtual 130, 3) := by decide +kernel
theorem j_X6_dispatch_59 {G : en_G} {q : Option en_V → en_S → Prop} {qx : String → en_S → Prop} {l0 l1 l2 l3 l4 l5 : en_V} {a0 : Int32} {a1 : Int32} {a2 : Option Nat} {a3 : Option Nat} {σ : en_S} : en_J (X_X6_dispatch G qx q) 59 [l0, l1, l2, l3, l4, l5] [en_I a0, en_I a1, en_R a2, en_R a3] σ ↔ (C_X6_send G 4).1 [en_R a3, en_R a2, en_I a1, en_I a0] σ ∧ ∀ (r : Option en_V) (σ' : en_S), (C_X6_send G 4).2 [en_R a3, en_R a2, en_I a1, en_I a0] σ r σ' → en_J (X_X6_dispatch G qx q) 62 [l0, l1, l2, l3, l4, l5] (r.toList ++ []) σ' := en_jkC (C := (C_X6_send G 4)) (n' := 4) (k := 1) (idx := 130) d_X6_dispatch_59 rfl rfl (by decide) (Nat.le_of_ble_eq_true rfl) (Nat.le_of_ble_eq_true rfl)
theorem d_X6_dispatch_62 : decode cX6_dispatch 62 = .ok (.astore 5, 2) := by decide +kernel
theorem j_X6_dispatch_62 {G : en_G} {q : Option en_V → en_S → Prop} {qx : String → en_S → Prop} {l0 l1 l2 l3 l4 l5 : en_V} {a0 : Option Nat} {σ : en_S} : en_J (X_X6_dispatch G qx q) 62 [l0, l1, l2, l3, l4, l5] [en_R a0] σ ↔ en_J (X_X6_dispatch G qx q) 64 [l0, l1, l2, l3, en_c2 l4, en_R a0] [] σ := en_j1 d_X6_dispatch_62 rfl ⟨rfl, Nat.le_of_ble_eq_true rfl⟩
theorem d_X6_dispatch_64 : decode cX6_dispatch 64 = .ok (.aload 5, 2) := by decide +kernel
theorem j_X6_dispatch_64 {G : en_G} {q : Option en_V → en_S → Prop} {qx : String → en_S → Prop} {l0 l1 l2 l3 l4 : en_V} {x5 : Option Nat} {σ : en_S} : en_J (X_X6_dispatch G qx q) 64 [l0, l1, l2, l3, l4, en_R x5] [] σ ↔ en_J (X_X6_dispatch G qx q) 66 [l0, l1, l2, l3, l4, en_R x5] [en_R x5] σ := en_j1 d_X6_dispatch_64 rfl rfl
theorem d_X6_dispatch_66 : decode cX6_dispatch 66 = .ok (.ifnull 11, 3) := by decide +kernel
theorem j_X6_dispatch_66 {G : en_G} {q : Option en_V → en_S → Prop} {qx : String → en_S → Prop} {l0 l1 l2 l3 l4 l5 : en_V} {a0 : Option Nat} {σ : en_S} : en_J (X_X6_dispatch G qx q) 66 [l0, l1, l2, l3, l4, l5] [en_R a0] σ ↔ (a0 = none → en_J (X_X6_dispatch G qx q) 77 [l0, l1, l2, l3, l4, l5] [] σ) ∧ (¬ (a0 = none) → en_J (X_X6_dispatch G qx q) 69 [l0, l1, l2, l3, l4, l5] [] σ) := en_jb d_X6_dispatch_66 rfl ⟨rfl, by decide⟩
theorem d_X6_dispatch_69 : decode cX6_dispatch 69 = .ok (.aload 5, 2) := by decide +kernel
theorem j_X6_dispatch_69 {G : en_G} {q : Option en_V → en_S → Prop} {qx : String → en_S → Prop} {l0 l1 l2 l3 l4 : en_V} {x5 : Option Nat} {σ : en_S} : en_J (X_X6_dispatch G qx q) 69 [l0, l1, l2, l3, l4, en_R x5] [] σ ↔ en_J (X_X6_dispatch G qx q) 71 [l0, l1, l2, l3, l4, en_R x5] [en_R x5] σ := en_j1 d_X6_dispatch_69 rfl rfl
theorem d_X6_dispatch_71 : decode cX6_dispatch 71 = .ok (.getfield 134, 3) := by decide +kernel
theorem j_X6_dispatch_71 {G : en_G} {q : Option en_V → en_S → Prop} {qx : String → en_S → Prop} {l0 l1 l2 l3 l4 l5 : en_V} {a0 : Option Nat} {σ : en_S} : en_J (X_X6_dispatch G qx q) 71 [l0, l1, l2, l3, l4, l5] [en_R a0] σ ↔ ∃ a, a0 = some a ∧ en_cl σ a = some 2 ∧ en_J (X_X6_dispatch G qx q) 74 [l0, l1, l2, l3, l4, l5] [en_I (en_fi σ 208 a)] σ := en_jg (st := fun o => [en_R o]) (st' := fun a => [en_I (en_fi σ 208 a)]) (σ' := fun _ => σ) d_X6_dispatch_71 rfl (fun a => rfl) (fun a => ⟨fun h => h.2, fun h => ⟨rfl, h⟩⟩)
theorem d_X6_dispatch_74 : decode cX6_dispatch 74 = .ok (.ifCond .ne 7, 3) := by decide +kernel
theorem j_X6_dispatch_74 {G : en_G} {q : Option en_V → en_S → Prop} {qx : String → en_S → Prop} {l0 l1 l2 l3 l4 l5 : en_V} {a0 : Int32} {σ : en_S} : en_J (X_X6_dispatch G qx q) 74 [l0, l1, l2, l3, l4, l5] [en_I a0] σ ↔ (¬ a0 = 0 → en_J (X_X6_dispatch G qx q) 81 [l0, l1, l2, l3, l4, l5] [] σ) ∧ (¬ (¬ a0 = 0) → en_J (X_X6_dispatch G qx q) 77 [l0, l1, l2, l3, l4, l5] [] σ) := en_jb d_X6_dispatch_74 rfl ⟨rfl, by decide⟩
theorem d_X6_dispatch_77 : decode cX6_dispatch 77 = .ok (.iconst 1, 1) := by decide +kernel
theorem j_X6_dispatch_77 {G : en_G} {q : Option en_V → en_S → Prop} {qx : String → en_S → Prop} {l0 l1 l2 l3 l4 l5 : en_V}  {σ : en_S} : en_J (X_X6_dispatch G qx q) 77 [l0, l1, l2, l3, l4, l5] [] σ ↔ en_J (X_X6_dispatch G qx q) 78 [l0, l1, l2, l3, l4, l5] [en_I 1] σ := ej_iconst d_X6_dispatch_77 (by decide +kernel)
theorem d_X6_dispatch_78 : decode cX6_dispatch 78 = .ok (.goto 4, 3) := by decide +kernel
theorem j_X6_dispatch_78 {G : en_G} {q : Option en_V → en_S → Prop} {qx : String → en_S → Prop} {l0 l1 l2 l3 l4 l5 : en_V} {a0 : Int32} {σ : en_S} : en_J (X_X6_dispatch G qx q) 78 [l0, l1, l2, l3, l4, l5] [en_I a0] σ ↔ en_J (X_X6_dispatch G qx q) 82 [l0, l1, l2, l3, l4, l5] [en_I a0] σ := en_j1 d_X6_dispatch_78 rfl ⟨rfl, by decide⟩
theorem d_X6_dispatch_81 : decode cX6_dispatch 81 = .ok (.iconst 0, 1) := by decide +kernel
theorem j_X6_dispatch_81 {G : en_G} {q : Option en_V → en_S → Prop} {qx : String → en_S → Prop} {l0 l1 l2 l3 l4 l5 : en_V}  {σ : en_S} : en_J (X_X6_dispatch G qx q) 81 [l0, l1, l2, l3, l4, l5] [] σ ↔ en_J (X_X6_dispatch G qx q) 82 [l0, l1, l2, l3, l4, l5] [en_I 0] σ := ej_iconst d_X6_dispatch_81 (by decide +kernel)
theorem d_X6_dispatch_82 : decode cX6_dispatch 82 = .ok (.ireturn, 1) := by decide +kernel
theorem j_X6_dispatch_82 {G : en_G} {q : Option en_V → en_S → Prop} {qx : String → en_S → Prop} {l0 l1 l2 l3 l4 l5 : en_V} {a0 : Int32} {σ : en_S} : en_J (X_X6_dispatch G qx q) 82 [l0, l1, l2, l3, l4, l5] [en_I a0] σ ↔ (a0 = 0 ∨ a0 = 1) ∧ q (some (en_I a0)) σ := en_jr d_X6_dispatch_82 rfl ⟨fun h => ⟨h.2.1.elim (fun z => absurd (show (2 : Nat) = 1 from z) (by decide)) (fun z => z.2), h.2.2⟩, fun h => ⟨rfl, Or.inr ⟨rfl, h.1⟩, h.2⟩⟩
theorem j_X6_dispatch_12 {G : en_G} {q : Option en_V → en_S → Prop} {qx : String → en_S → Prop} {l0 l1 l2 l3 l4 l5 : en_V} {σ : en_S} : en_J (X_X6_dispatch G qx q) 12 [l0, l1, l2, l3, l4, l5] [] σ ↔ en_nx σ + 1 ≤ G.2.2.2.2.1 ∧ en_ns σ + 6 ≤ G.2.2.2.2.2 ∧ qx en_NS σ := ej_thr d_X6_dispatch_12 rfl
theorem j_X6_dispatch_39 {G : en_G} {q : Option en_V → en_S → Prop} {qx : String → en_S → Prop} {l0 l1 l2 l3 l4 l5 : en_V} {σ : en_S} : en_J (X_X6_dispatch G qx q) 39 [l0, l1, l2, l3, l4, l5] [] σ ↔ en_nx σ + 1 ≤ G.2.2.2.2.1 ∧ en_ns σ + 6 ≤ G.2.2.2.2.2 ∧ qx en_IA σ := ej_thr d_X6_dispatch_39 rfl
theorem wc_X6_dispatch : Jvm.Cond.code yX6_dispatch cX6_dispatch 6 (some .boolean) ∈ en_W := en_inW (List.mem_of_getElem? (i := 611) (by decide +kernel)) (by decide +kernel)
theorem wi_X6_dispatch : Jvm.Cond.instanceMethod yX6_dispatch ∈ en_W := en_inW (List.mem_of_getElem? (i := 609) (by decide +kernel)) (by decide +kernel)
theorem wx_X6_dispatch : Jvm.Cond.selects RX6 yX6_dispatch yX6_dispatch ∈ en_W := en_inW (List.mem_of_getElem? (i := 610) (by decide +kernel)) (by decide +kernel)
theorem th_X6_dispatch : ∀ pc E, en_lk xt_X6_dispatch pc = some E → en_thr cX6_dispatch pc E := by
  intro pc E hq
  have hm := en_lk_mem hq
  simp only [xt_X6_dispatch, List.mem_cons, Prod.mk.injEq, List.not_mem_nil, or_false] at hm
  rcases hm with ⟨rfl, rfl⟩ | ⟨rfl, rfl⟩
  · exact ⟨91, 70, 95, 13, xs_13, "there is no such node", by decide +kernel, by decide +kernel, by decide +kernel, by decide +kernel, by decide +kernel, xc_NS, xi_NS, by simp [en_str], xb_NS, xd_NS, xe_NS, by decide +kernel, by decide +kernel, by decide +kernel, by decide +kernel, by decide +kernel⟩
  · exact ⟨83, 125, 87, 7, Bundle.six, "there is no such type, or there are no such flags", by decide +kernel, by decide +kernel, by decide +kernel, by decide +kernel, by decide +kernel, xc_IA, xi_IA, by simp [en_str], xb_IA, xd_IA, xe_IA, by decide +kernel, by decide +kernel, by decide +kernel, by decide +kernel, by decide +kernel⟩
theorem jl_X6_dispatch {G : en_G} {x : Nat} {rm : Nat} {S : pb_S} {k : Int32} {ty : Int32} {fl : Int32} {q : Option en_V → en_S → Prop} {qx : String → en_S → Prop} {σ : en_S} (hp : PZ G x (rm + 64) S σ ∧ sa_D S.1 0 1 < 2 ^ 20) (hq : ∀ v σ', (PZ G x rm (op_dispatch S k ty fl).1 σ' ∧ ag σ σ' pF (pV x) ∧ (op_dispatch S k ty fl).2.1 = 0 ∧ v = some (en_I (op_dispatch S k ty fl).2.2)) → q v σ') (hx : ∀ E σ', (PZ G x rm (op_dispatch S k ty fl).1 σ' ∧ ag σ σ' pF (pV x) ∧ (((op_dispatch S k ty fl).2.1 = 1 ∧ E = en_NS) ∨ ((op_dispatch S k ty fl).2.1 = 2 ∧ E = en_IA))) → qx E σ') : en_J (X_X6_dispatch G qx q) 0 [en_R (some x), en_I k, en_I ty, en_I fl, en_U, en_U] [] σ := by
  obtain ⟨⟨na, la, ba, hP⟩, hlg⟩ := hp
  have hC := hP.1
  have w := hC.2.2.2.2.2.2.2.2.1
  have hN := w.1.1.2
  have i1 : ¬ (1 : Int32) = 0 := by decide
  obtain ⟨rm1, rm2⟩ := px_room hP
  have bad1 : op_dispatch S k ty fl = (S, 1, 0) → qx en_NS σ := fun h => hx _ _ ⟨by rw [h]; exact hP.z (by omega), ag.rf, Or.inl ⟨by rw [h], rfl⟩⟩
  have bad2 : op_dispatch S k ty fl = (S, 2, 0) → qx en_IA σ := fun h => hx _ _ ⟨by rw [h]; exact hP.z (by omega), ag.rf, Or.inr ⟨by rw [h], rfl⟩⟩
  simp only [j_X6_dispatch_0, j_X6_dispatch_1, j_X6_dispatch_2, j_X6_dispatch_5, j_X6_dispatch_7, j_X6_dispatch_9, j_X6_dispatch_15, j_X6_dispatch_23, j_X6_dispatch_26, j_X6_dispatch_29, j_X6_dispatch_30, j_X6_dispatch_33, j_X6_dispatch_34, j_X6_dispatch_36, j_X6_dispatch_39, j_X6_dispatch_42, j_X6_dispatch_49, j_X6_dispatch_50, j_X6_dispatch_51, j_X6_dispatch_54, j_X6_dispatch_55, j_X6_dispatch_57, j_X6_dispatch_58, j_X6_dispatch_59, j_X6_dispatch_62, j_X6_dispatch_64, j_X6_dispatch_66, j_X6_dispatch_69, j_X6_dispatch_71, j_X6_dispatch_74, j_X6_dispatch_77, j_X6_dispatch_78, j_X6_dispatch_81, j_X6_dispatch_82, en_c2I, en_c2R, en_c2U, en_c2D, Option.some.injEq, exists_eq_left', exists_eq_left, Option.map_some, Option.map_none, not_true_eq_false, false_implies, true_implies, and_true, true_and, reduceCtorEq, not_false_eq_true, true_or, or_true]
  refine en_use (cu_X6_nodeAt hC) ?_
  rintro v σ' ⟨rfl, rfl⟩
  cases hx1 : st_ix (tr_N (sa_T S.1)) k with
  | none =>
    have := bad1 (by unfold op_dispatch; rw [hx1])
    simp only [Option.toList, List.cons_append, List.nil_append, j_X6_dispatch_0, j_X6_dispatch_1, j_X6_dispatch_2, j_X6_dispatch_5, j_X6_dispatch_7, j_X6_dispatch_9, j_X6_dispatch_12, j_X6_dispatch_15, j_X6_dispatch_23, j_X6_dispatch_26, j_X6_dispatch_29, j_X6_dispatch_30, j_X6_dispatch_33, j_X6_dispatch_34, j_X6_dispatch_36, j_X6_dispatch_39, j_X6_dispatch_42, j_X6_dispatch_49, j_X6_dispatch_50, j_X6_dispatch_51, j_X6_dispatch_54, j_X6_dispatch_55, j_X6_dispatch_57, j_X6_dispatch_58, j_X6_dispatch_59, j_X6_dispatch_62, j_X6_dispatch_64, j_X6_dispatch_66, j_X6_dispatch_69, j_X6_dispatch_71, j_X6_dispatch_74, j_X6_dispatch_77, j_X6_dispatch_78, j_X6_dispatch_81, j_X6_dispatch_82, en_c2I, en_c2R, en_c2U, en_c2D, Option.some.injEq, exists_eq_left', exists_eq_left, Option.map_some, Option.map_none, not_true_eq_false, false_implies, true_implies, and_true, true_and, reduceCtorEq, not_false_eq_true, true_or, or_true]
    exact ⟨rm1, rm2, this⟩
  | some n =>
    obtain ⟨hn, rfl⟩ := st_ix_some (by omega) hx1
    simp only [Option.toList, List.cons_append, List.nil_append, j_X6_dispatch_0, j_X6_dispatch_1, j_X6_dispatch_2, j_X6_dispatch_5, j_X6_dispatch_7, j_X6_dispatch_9, j_X6_dispatch_12, j_X6_dispatch_15, j_X6_dispatch_22, j_X6_dispatch_23, j_X6_dispatch_26, j_X6_dispatch_29, j_X6_dispatch_30, j_X6_dispatch_33, j_X6_dispatch_34, j_X6_dispatch_36, j_X6_dispatch_42, j_X6_dispatch_50, j_X6_dispatch_51, j_X6_dispatch_54, j_X6_dispatch_55, j_X6_dispatch_57, j_X6_dispatch_58, j_X6_dispatch_59, j_X6_dispatch_62, j_X6_dispatch_64, j_X6_dispatch_66, j_X6_dispatch_69, j_X6_dispatch_71, j_X6_dispatch_74, j_X6_dispatch_77, j_X6_dispatch_78, j_X6_dispatch_81, j_X6_dispatch_82, en_c2I, en_c2R, en_c2U, en_c2D, Option.some.injEq, exists_eq_left', exists_eq_left, Option.map_some, Option.map_none, not_true_eq_false, false_implies, true_implies, and_true, true_and, reduceCtorEq, not_false_eq_true, true_or, or_true]
    refine en_use (cu_X6_isType trivial) ?_
    rintro v σ1 ⟨rfl, rfl⟩
    by_cases ht : 0 ≤ ty ∧ ty < 8
    · cases hf : st_ix 8 fl with
      | none =>
        have := bad2 (by unfold op_dispatch; rw [hx1]; simp only; rw [if_pos ht, hf])
        have hno := st_ix_none hf
        rw [show nI 8 = 8 from by decide +kernel] at hno
        by_cases h0 : fl < 0
        · simp only [Option.toList, List.cons_append, List.nil_append, j_X6_dispatch_0, j_X6_dispatch_1, j_X6_dispatch_2, j_X6_dispatch_5, j_X6_dispatch_7, j_X6_dispatch_9, j_X6_dispatch_12, j_X6_dispatch_15, j_X6_dispatch_22, j_X6_dispatch_23, j_X6_dispatch_26, j_X6_dispatch_29, j_X6_dispatch_30, j_X6_dispatch_33, j_X6_dispatch_34, j_X6_dispatch_36, j_X6_dispatch_39, j_X6_dispatch_42, j_X6_dispatch_50, j_X6_dispatch_51, j_X6_dispatch_54, j_X6_dispatch_55, j_X6_dispatch_57, j_X6_dispatch_58, j_X6_dispatch_59, j_X6_dispatch_62, j_X6_dispatch_64, j_X6_dispatch_66, j_X6_dispatch_69, j_X6_dispatch_71, j_X6_dispatch_74, j_X6_dispatch_77, j_X6_dispatch_78, j_X6_dispatch_81, j_X6_dispatch_82, en_c2I, en_c2R, en_c2U, en_c2D, Option.some.injEq, exists_eq_left', exists_eq_left, Option.map_some, Option.map_none, not_true_eq_false, false_implies, true_implies, and_true, true_and, reduceCtorEq, not_false_eq_true, true_or, or_true, if_pos ht, i1, h0]
          exact ⟨rm1, rm2, this⟩
        · have h8 : ¬ fl < 8 := fun z => hno ⟨Int32.not_lt.mp h0, z⟩
          simp only [Option.toList, List.cons_append, List.nil_append, j_X6_dispatch_0, j_X6_dispatch_1, j_X6_dispatch_2, j_X6_dispatch_5, j_X6_dispatch_7, j_X6_dispatch_9, j_X6_dispatch_12, j_X6_dispatch_15, j_X6_dispatch_22, j_X6_dispatch_23, j_X6_dispatch_26, j_X6_dispatch_29, j_X6_dispatch_30, j_X6_dispatch_33, j_X6_dispatch_34, j_X6_dispatch_36, j_X6_dispatch_39, j_X6_dispatch_42, j_X6_dispatch_50, j_X6_dispatch_51, j_X6_dispatch_54, j_X6_dispatch_55, j_X6_dispatch_57, j_X6_dispatch_58, j_X6_dispatch_59, j_X6_dispatch_62, j_X6_dispatch_64, j_X6_dispatch_66, j_X6_dispatch_69, j_X6_dispatch_71, j_X6_dispatch_74, j_X6_dispatch_77, j_X6_dispatch_78, j_X6_dispatch_81, j_X6_dispatch_82, en_c2I, en_c2R, en_c2U, en_c2D, Option.some.injEq, exists_eq_left', exists_eq_left, Option.map_some, Option.map_none, not_true_eq_false, false_implies, true_implies, and_true, true_and, reduceCtorEq, not_false_eq_true, true_or, or_true, if_pos ht, i1, h0, h8]
          exact ⟨rm1, rm2, this⟩
      | some f =>
        obtain ⟨hf8, rfl⟩ := st_ix_some (by decide) hf
        have h0 : ¬ nI f < 0 := nI_pos (by omega)
        have h8 : nI f < 8 := nI_lt hf8 (by decide)
        have a1 := hC.1.1.1
        have hop : op_dispatch S (nI n) ty (nI f) = (((ds_sendO 4 (su_D S.1 0 2 120) (some n) ty f).1, S.2), 0, st_b (!((ds_sendO 4 (su_D S.1 0 2 120) (some n) ty f).2.getD false))) := by unfold op_dispatch; rw [hx1]; simp only; rw [if_pos ht, hf]; rfl
        rw [hop] at hq
        have hC0 : CX G x na la ba (rm + 64) (su_D S.1 0 2 120) (en_sfi σ1 607 x 0) := cx_bud hC (Nat.le_refl _) (by decide +kernel)
        have hP0 : PX G x na la ba (rm + 64) (su_D S.1 0 2 120, S.2) (en_sfi σ1 607 x 0) := hP.of (F := fun f a => f ≠ 607) (V := fun _ => True) hC0 (ag_sfi (fun a z => absurd rfl z)) (fun f hf => by omega) (Nat.le_refl _)
        have hlog : sa_D (su_D S.1 0 2 120) 0 1 + sa_D (su_D S.1 0 2 120) 0 2 < 2 ^ 30 := by simp only [sa_D_D]; simp; omega
        have hgo := st_good_send 4 (su_D S.1 0 2 120) n ty f hC0.2.2.2.2.2.2.2.2.1 hn
        simp only [Option.toList, List.cons_append, List.nil_append, j_X6_dispatch_0, j_X6_dispatch_1, j_X6_dispatch_2, j_X6_dispatch_5, j_X6_dispatch_7, j_X6_dispatch_9, j_X6_dispatch_12, j_X6_dispatch_15, j_X6_dispatch_22, j_X6_dispatch_23, j_X6_dispatch_26, j_X6_dispatch_29, j_X6_dispatch_30, j_X6_dispatch_33, j_X6_dispatch_34, j_X6_dispatch_36, j_X6_dispatch_42, j_X6_dispatch_49, j_X6_dispatch_50, j_X6_dispatch_51, j_X6_dispatch_54, j_X6_dispatch_55, j_X6_dispatch_57, j_X6_dispatch_58, j_X6_dispatch_59, j_X6_dispatch_62, j_X6_dispatch_64, j_X6_dispatch_66, j_X6_dispatch_69, j_X6_dispatch_71, j_X6_dispatch_74, j_X6_dispatch_77, j_X6_dispatch_78, j_X6_dispatch_81, j_X6_dispatch_82, en_c2I, en_c2R, en_c2U, en_c2D, Option.some.injEq, exists_eq_left', exists_eq_left, Option.map_some, Option.map_none, not_true_eq_false, false_implies, true_implies, and_true, true_and, reduceCtorEq, not_false_eq_true, true_or, or_true, eg_cl_sfi, eg_fi_sfi, eg_fr_sfi, eg_fd_sfi, eg_al_sfi, eg_ai_sfi, eg_ar_sfi, eg_ad_sfi, eg_aj_sfi, eg_nx_sfi, eg_ns_sfi, eg_cl_sfr, eg_fi_sfr, eg_fr_sfr, eg_fd_sfr, eg_al_sfr, eg_ai_sfr, eg_ar_sfr, eg_ad_sfr, eg_aj_sfr, eg_nx_sfr, eg_ns_sfr, eg_cl_sfd, eg_fi_sfd, eg_fr_sfd, eg_fd_sfd, eg_al_sfd, eg_ai_sfd, eg_ar_sfd, eg_ad_sfd, eg_aj_sfd, eg_nx_sfd, eg_ns_sfd, eg_cl_sai, eg_fi_sai, eg_fr_sai, eg_fd_sai, eg_al_sai, eg_ai_sai, eg_ar_sai, eg_ad_sai, eg_aj_sai, eg_nx_sai, eg_ns_sai, eg_cl_sar, eg_fi_sar, eg_fr_sar, eg_fd_sar, eg_al_sar, eg_ai_sar, eg_ar_sar, eg_ad_sar, eg_aj_sar, eg_nx_sar, eg_ns_sar, eg_cl_sad, eg_fi_sad, eg_fr_sad, eg_fd_sad, eg_al_sad, eg_ai_sad, eg_ar_sad, eg_ad_sad, eg_aj_sad, eg_nx_sad, eg_ns_sad, eg_cl_saj, eg_fi_saj, eg_fr_saj, eg_fd_saj, eg_al_saj, eg_ai_saj, eg_ar_saj, eg_ad_saj, eg_aj_saj, eg_nx_saj, eg_ns_saj, eg_cl_new, eg_fi_new, eg_fr_new, eg_fd_new, eg_al_new, eg_ai_new, eg_ar_new, eg_ad_new, eg_aj_new, eg_nx_new, eg_ns_new, eg_cl_newa, eg_fi_newa, eg_fr_newa, eg_fd_newa, eg_al_newa, eg_ai_newa, eg_ar_newa, eg_ad_newa, eg_aj_newa, eg_nx_newa, eg_ns_newa, eg_cl_bump, eg_fi_bump, eg_fr_bump, eg_fd_bump, eg_al_bump, eg_ai_bump, eg_ar_bump, eg_ad_bump, eg_aj_bump, eg_nx_bump, eg_ns_bump, if_pos ht, i1, h0, h8, a1]
        refine en_use (cu_X6_send (e := 4) (d := 0) (o := some n) ⟨hC0, hP0.2.2.2.2.1, rfl, fun t z => by cases z; exact hn, hf8, hlog⟩) ?_
        rintro v σ2 ⟨lb, hlb, hC2, g2, h62, rfl, hpv⟩
        have x44 := cx_44 hC0
        have rr := (g2.2 x (by omega)).2.2.1
        have hP2 : PX G x na lb ba (rm + 64) ((ds_sendO 4 (su_D S.1 0 2 120) (some n) ty f).1, S.2) σ2 := ⟨hC2, by rw [(rr 610 (by unfold dE; omega)).2.1]; exact hP0.2.1, by rw [(rr 611 (by unfold dE; omega)).2.1]; exact hP0.2.2.1, by rw [(rr 612 (by unfold dE; omega)).1]; exact hP0.2.2.2.1, by rw [h62]; exact hP0.2.2.2.2.1, fun m hm => by show m < tr_N (sa_T (ds_send 4 (su_D S.1 0 2 120) n ty f).1); rw [hgo.2.1.1]; exact hP0.2.2.2.2.2.1 m hm, fun m hm => by show m < tr_N (sa_T (ds_send 4 (su_D S.1 0 2 120) n ty f).1); rw [hgo.2.1.1]; exact hP0.2.2.2.2.2.2 m hm⟩
        have gA : ag σ1 σ2 pF (pV x) := ag.tr (ag_sfi (fun a z => by unfold pF at z; omega)) (g2.mono (fun f a z => by unfold pF at z; unfold dE; omega) (fun a z => by unfold pV at z; unfold dV; omega))
        have fin := fun (b : Bool) (hb : (ds_sendO 4 (su_D S.1 0 2 120) (some n) ty f).2.getD false = b) => hq (some (en_I (st_b (!b)))) σ2 ⟨hP2.z (by omega), gA, rfl, by rw [hb]⟩
        have c2 := (hC2.1.2.2.2.2.1 0 (by decide)).2.1
        cases hr : (ds_sendO 4 (su_D S.1 0 2 120) (some n) ty f).2 with
        | none =>
          have := fin false (by rw [hr]; rfl)
          simp only [Option.toList, List.cons_append, List.nil_append, j_X6_dispatch_0, j_X6_dispatch_1, j_X6_dispatch_2, j_X6_dispatch_5, j_X6_dispatch_7, j_X6_dispatch_9, j_X6_dispatch_12, j_X6_dispatch_15, j_X6_dispatch_22, j_X6_dispatch_23, j_X6_dispatch_26, j_X6_dispatch_29, j_X6_dispatch_30, j_X6_dispatch_33, j_X6_dispatch_34, j_X6_dispatch_36, j_X6_dispatch_42, j_X6_dispatch_49, j_X6_dispatch_50, j_X6_dispatch_51, j_X6_dispatch_54, j_X6_dispatch_55, j_X6_dispatch_57, j_X6_dispatch_58, j_X6_dispatch_59, j_X6_dispatch_62, j_X6_dispatch_64, j_X6_dispatch_66, j_X6_dispatch_69, j_X6_dispatch_71, j_X6_dispatch_74, j_X6_dispatch_77, j_X6_dispatch_78, j_X6_dispatch_81, j_X6_dispatch_82, en_c2I, en_c2R, en_c2U, en_c2D, Option.some.injEq, exists_eq_left', exists_eq_left, Option.map_some, Option.map_none, not_true_eq_false, false_implies, true_implies, and_true, true_and, reduceCtorEq, not_false_eq_true, true_or, or_true]
          exact this
        | some b =>
          have hb := hpv b hr
          have := fin b (by rw [hr]; rfl)
          cases b with
          | true =>
            simp only [Option.toList, List.cons_append, List.nil_append, j_X6_dispatch_0, j_X6_dispatch_1, j_X6_dispatch_2, j_X6_dispatch_5, j_X6_dispatch_7, j_X6_dispatch_9, j_X6_dispatch_12, j_X6_dispatch_15, j_X6_dispatch_22, j_X6_dispatch_23, j_X6_dispatch_26, j_X6_dispatch_29, j_X6_dispatch_30, j_X6_dispatch_33, j_X6_dispatch_34, j_X6_dispatch_36, j_X6_dispatch_42, j_X6_dispatch_49, j_X6_dispatch_50, j_X6_dispatch_51, j_X6_dispatch_54, j_X6_dispatch_55, j_X6_dispatch_57, j_X6_dispatch_58, j_X6_dispatch_59, j_X6_dispatch_62, j_X6_dispatch_64, j_X6_dispatch_66, j_X6_dispatch_69, j_X6_dispatch_71, j_X6_dispatch_74, j_X6_dispatch_77, j_X6_dispatch_78, j_X6_dispatch_81, j_X6_dispatch_82, en_c2I, en_c2R, en_c2U, en_c2D, Option.some.injEq, exists_eq_left', exists_eq_left, Option.map_some, Option.map_none, not_true_eq_false, false_implies, true_implies, and_true, true_and, reduceCtorEq, not_false_eq_true, true_or, or_true, c2, hb, st_bt, i1]
            exact this
          | false =>
            simp only [Option.toList, List.cons_append, List.nil_append, j_X6_dispatch_0, j_X6_dispatch_1, j_X6_dispatch_2, j_X6_dispatch_5, j_X6_dispatch_7, j_X6_dispatch_9, j_X6_dispatch_12, j_X6_dispatch_15, j_X6_dispatch_22, j_X6_dispatch_23, j_X6_dispatch_26, j_X6_dispatch_29, j_X6_dispatch_30, j_X6_dispatch_33, j_X6_dispatch_34, j_X6_dispatch_36, j_X6_dispatch_42, j_X6_dispatch_49, j_X6_dispatch_50, j_X6_dispatch_51, j_X6_dispatch_54, j_X6_dispatch_55, j_X6_dispatch_57, j_X6_dispatch_58, j_X6_dispatch_59, j_X6_dispatch_62, j_X6_dispatch_64, j_X6_dispatch_66, j_X6_dispatch_69, j_X6_dispatch_71, j_X6_dispatch_74, j_X6_dispatch_77, j_X6_dispatch_78, j_X6_dispatch_81, j_X6_dispatch_82, en_c2I, en_c2R, en_c2U, en_c2D, Option.some.injEq, exists_eq_left', exists_eq_left, Option.map_some, Option.map_none, not_true_eq_false, false_implies, true_implies, and_true, true_and, reduceCtorEq, not_false_eq_true, true_or, or_true, c2, hb, st_bf]
            exact this
    · have := bad2 (by unfold op_dispatch; rw [hx1]; simp only; rw [if_neg ht])
      simp only [Option.toList, List.cons_append, List.nil_append, j_X6_dispatch_0, j_X6_dispatch_1, j_X6_dispatch_2, j_X6_dispatch_5, j_X6_dispatch_7, j_X6_dispatch_9, j_X6_dispatch_12, j_X6_dispatch_15, j_X6_dispatch_22, j_X6_dispatch_23, j_X6_dispatch_26, j_X6_dispatch_29, j_X6_dispatch_30, j_X6_dispatch_33, j_X6_dispatch_34, j_X6_dispatch_36, j_X6_dispatch_39, j_X6_dispatch_42, j_X6_dispatch_50, j_X6_dispatch_51, j_X6_dispatch_54, j_X6_dispatch_55, j_X6_dispatch_57, j_X6_dispatch_58, j_X6_dispatch_59, j_X6_dispatch_62, j_X6_dispatch_64, j_X6_dispatch_66, j_X6_dispatch_69, j_X6_dispatch_71, j_X6_dispatch_74, j_X6_dispatch_77, j_X6_dispatch_78, j_X6_dispatch_81, j_X6_dispatch_82, en_c2I, en_c2R, en_c2U, en_c2D, Option.some.injEq, exists_eq_left', exists_eq_left, Option.map_some, Option.map_none, not_true_eq_false, false_implies, true_implies, and_true, true_and, reduceCtorEq, not_false_eq_true, true_or, or_true, if_neg ht]
      exact ⟨rm1, rm2, this⟩
theorem jp_X6_dispatch {G : en_G} : ∀ as σ, (C_X6_dispatch G).1 as σ → (en_lc as).length ≤ 6 ∧ en_J (X_X6_dispatch G (fun E σ' => XP_X6_dispatch G as σ E σ') (fun r σ' => (C_X6_dispatch G).2 as σ r σ')) 0 (en_loc 6 as) [] σ := en_ghJX (fun g as σ h => by
  obtain ⟨hp, h2⟩ := h
  subst h2
  exact ⟨Nat.le_of_ble_eq_true rfl, jl_X6_dispatch hp (fun _ _ h => h) (fun _ _ h => h)⟩)
theorem wl_X6_dispatch_57 : Jvm.Cond.methodLink RX6 57 yX6_nodeAt ∈ en_W := en_inW (List.mem_of_getElem? (i := 248) (by decide +kernel)) (by decide +kernel)
theorem wl_X6_dispatch_114 : Jvm.Cond.methodLink RX6 114 yX6_isType ∈ en_W := en_inW (List.mem_of_getElem? (i := 283) (by decide +kernel)) (by decide +kernel)
theorem wl_X6_dispatch_130 : Jvm.Cond.methodLink RX6 130 yX6_send ∈ en_W := en_inW (List.mem_of_getElem? (i := 370) (by decide +kernel)) (by decide +kernel)
theorem okx_X6_dispatch {G : en_G} : en_OkX G 30 yX6_dispatch cX6_dispatch 6 (some .boolean) (C_X6_dispatch G) (XP_X6_dispatch G) :=
  en_metX (fl := en_lk fl6) (nw := en_lk nw6) (aw := en_lk aw6) (dc := en_lk dc6) (ca := en_lk (ca_X6_dispatch G)) (xt := en_lk xt_X6_dispatch) (rt := 2) (ini := false) (by decide +kernel) (Or.inr (Or.inr (Or.inl ⟨rfl, rfl⟩))) (fun h => by cases h) rfl (fun q qx => en_LkX fl6_ok nw6_ok aw6_ok dc6_ok) (by
    intro idx q hq
    have hm := en_lk_mem hq
    simp only [ca_X6_dispatch, List.mem_cons, Prod.mk.injEq, List.not_mem_nil, or_false] at hm
    rcases hm with ⟨rfl, rfl⟩ | ⟨rfl, rfl⟩ | ⟨rfl, rfl⟩
    · exact en_clV (r := (RX6, TX6, 13)) 6 1 ok_X6_nodeAt (by decide) (by decide) rfl rfl pr_X6_nodeAt wl_X6_dispatch_57 wi_X6_nodeAt wx_X6_nodeAt wz_6 wc_X6_nodeAt ⟨by decide +kernel, by decide +kernel, by decide +kernel⟩
    · exact en_clS 1 ok_X6_isType (by decide) (by decide) pr_X6_isType wl_X6_dispatch_114 ws_X6_isType wz_6 wc_X6_isType ⟨by decide +kernel, by decide +kernel, by decide +kernel⟩
    · exact en_clV (r := (RX6, TX6, 13)) 6 3 (okS 4) (by decide) (by decide) rfl rfl pr_X6_send wl_X6_dispatch_130 wi_X6_send wx_X6_send wz_6 wc_X6_send ⟨by decide +kernel, by decide +kernel, by decide +kernel⟩) (by decide) th_X6_dispatch jp_X6_dispatch
def P_X6_place (G : en_G) (g : (Nat) × (Nat) × (pb_S) × (Int32) × (Int32)) (as : List en_V) (σ : en_S) : Prop := (PZ G (g.1) ((g.2.1) + 64) (g.2.2.1) σ) ∧ as = [en_R (some (g.1)), en_I (g.2.2.2.1), en_I (g.2.2.2.2)]
def C_X6_place (G : en_G) : en_C := en_gh (P_X6_place G) (fun g as σ v σ' => PZ G (g.1) (g.2.1) (g.2.2.1) σ' ∧ ag σ σ' pF (pV (g.1)) ∧ (op_place (g.2.2.1) (g.2.2.2.1) (g.2.2.2.2)).1 = 0 ∧ v = some (en_D (op_place (g.2.2.1) (g.2.2.2.1) (g.2.2.2.2)).2))
def XP_X6_place (G : en_G) : en_XP := en_ghx (P_X6_place G) (fun g as σ E σ' => PZ G (g.1) (g.2.1) (g.2.2.1) σ' ∧ ag σ σ' pF (pV (g.1)) ∧ (((op_place (g.2.2.1) (g.2.2.2.1) (g.2.2.2.2)).1 = 1 ∧ E = en_NS) ∨ ((op_place (g.2.2.1) (g.2.2.2.1) (g.2.2.2.2)).1 = 2 ∧ E = en_IA)))
theorem pr_X6_place {G : en_G} : ∀ as σ, (C_X6_place G).1 as σ → ∃ b tl, as = en_R (some b) :: tl ∧ en_cl σ b = some 6 ∧ tl.length = 2 := fun as σ ⟨g, hp, h2⟩ => ⟨_, _, h2, hp.cl, rfl⟩
def ca_X6_place (G : en_G) : List (Nat × Nat × en_C) := [(57, 9, (C_X6_nodeAt G)), (168, 5, (C_X4_measuredBox G))]
def xt_X6_place : List (Nat × String) := [(25, en_NS), (82, en_IA)]
def X_X6_place (G : en_G) (qx : String → en_S → Prop) (q : Option en_V → en_S → Prop) : en_X := en_mkX G cX6_place (en_lk fl6) (en_lk nw6) (en_lk aw6) (en_lk dc6) (en_lk (ca_X6_place G)) (en_lk xt_X6_place) 4 false q qx
theorem d_X6_place_0 : decode cX6_place 0 = .ok (.aload_n 0, 1) := by decide +kernel
theorem j_X6_place_0 {G : en_G} {q : Option en_V → en_S → Prop} {qx : String → en_S → Prop} {l1 l2 l3 l4 : en_V} {x0 : Option Nat} {σ : en_S} : en_J (X_X6_place G qx q) 0 [en_R x0, l1, l2, l3, l4] [] σ ↔ en_J (X_X6_place G qx q) 1 [en_R x0, l1, l2, l3, l4] [en_R x0] σ := en_j1 d_X6_place_0 rfl rfl
theorem d_X6_place_1 : decode cX6_place 1 = .ok (.iload_n 1, 1) := by decide +kernel
theorem j_X6_place_1 {G : en_G} {q : Option en_V → en_S → Prop} {qx : String → en_S → Prop} {l0 l2 l3 l4 : en_V} {a0 : Option Nat} {x1 : Int32} {σ : en_S} : en_J (X_X6_place G qx q) 1 [l0, en_I x1, l2, l3, l4] [en_R a0] σ ↔ en_J (X_X6_place G qx q) 2 [l0, en_I x1, l2, l3, l4] [en_I x1, en_R a0] σ := en_j1 d_X6_place_1 rfl rfl
theorem d_X6_place_2 : decode cX6_place 2 = .ok (.invokevirtual 57, 3) := by decide +kernel
theorem j_X6_place_2 {G : en_G} {q : Option en_V → en_S → Prop} {qx : String → en_S → Prop} {l0 l1 l2 l3 l4 : en_V} {a0 : Int32} {a1 : Option Nat} {σ : en_S} : en_J (X_X6_place G qx q) 2 [l0, l1, l2, l3, l4] [en_I a0, en_R a1] σ ↔ (C_X6_nodeAt G).1 [en_R a1, en_I a0] σ ∧ ∀ (r : Option en_V) (σ' : en_S), (C_X6_nodeAt G).2 [en_R a1, en_I a0] σ r σ' → en_J (X_X6_place G qx q) 5 [l0, l1, l2, l3, l4] (r.toList ++ []) σ' := en_jkC (C := (C_X6_nodeAt G)) (n' := 2) (k := 1) (idx := 57) d_X6_place_2 rfl rfl (by decide) (Nat.le_of_ble_eq_true rfl) (Nat.le_of_ble_eq_true rfl)
theorem d_X6_place_5 : decode cX6_place 5 = .ok (.astore_n 3, 1) := by decide +kernel
theorem j_X6_place_5 {G : en_G} {q : Option en_V → en_S → Prop} {qx : String → en_S → Prop} {l0 l1 l2 l3 l4 : en_V} {a0 : Option Nat} {σ : en_S} : en_J (X_X6_place G qx q) 5 [l0, l1, l2, l3, l4] [en_R a0] σ ↔ en_J (X_X6_place G qx q) 6 [l0, l1, en_c2 l2, en_R a0, l4] [] σ := en_j1 d_X6_place_5 rfl ⟨rfl, Nat.le_of_ble_eq_true rfl⟩
theorem d_X6_place_6 : decode cX6_place 6 = .ok (.aload_n 3, 1) := by decide +kernel
theorem j_X6_place_6 {G : en_G} {q : Option en_V → en_S → Prop} {qx : String → en_S → Prop} {l0 l1 l2 l4 : en_V} {x3 : Option Nat} {σ : en_S} : en_J (X_X6_place G qx q) 6 [l0, l1, l2, en_R x3, l4] [] σ ↔ en_J (X_X6_place G qx q) 7 [l0, l1, l2, en_R x3, l4] [en_R x3] σ := en_j1 d_X6_place_6 rfl rfl
theorem d_X6_place_7 : decode cX6_place 7 = .ok (.ifnonnull 7, 3) := by decide +kernel
theorem j_X6_place_7 {G : en_G} {q : Option en_V → en_S → Prop} {qx : String → en_S → Prop} {l0 l1 l2 l3 l4 : en_V} {a0 : Option Nat} {σ : en_S} : en_J (X_X6_place G qx q) 7 [l0, l1, l2, l3, l4] [en_R a0] σ ↔ (¬ a0 = none → en_J (X_X6_place G qx q) 14 [l0, l1, l2, l3, l4] [] σ) ∧ (¬ (¬ a0 = none) → en_J (X_X6_place G qx q) 10 [l0, l1, l2, l3, l4] [] σ) := en_jb d_X6_place_7 rfl ⟨rfl, by decide⟩
theorem d_X6_place_10 : decode cX6_place 10 = .ok (.aconst_null, 1) := by decide +kernel
theorem j_X6_place_10 {G : en_G} {q : Option en_V → en_S → Prop} {qx : String → en_S → Prop} {l0 l1 l2 l3 l4 : en_V}  {σ : en_S} : en_J (X_X6_place G qx q) 10 [l0, l1, l2, l3, l4] [] σ ↔ en_J (X_X6_place G qx q) 11 [l0, l1, l2, l3, l4] [en_R none] σ := en_j1 d_X6_place_10 rfl rfl
theorem d_X6_place_11 : decode cX6_place 11 = .ok (.goto 7, 3) := by decide +kernel
theorem j_X6_place_11 {G : en_G} {q : Option en_V → en_S → Prop} {qx : String → en_S → Prop} {l0 l1 l2 l3 l4 : en_V} {a0 : Option Nat} {σ : en_S} : en_J (X_X6_place G qx q) 11 [l0, l1, l2, l3, l4] [en_R a0] σ ↔ en_J (X_X6_place G qx q) 18 [l0, l1, l2, l3, l4] [en_R a0] σ := en_j1 d_X6_place_11 rfl ⟨rfl, by decide⟩
theorem d_X6_place_14 : decode cX6_place 14 = .ok (.aload_n 3, 1) := by decide +kernel
theorem j_X6_place_14 {G : en_G} {q : Option en_V → en_S → Prop} {qx : String → en_S → Prop} {l0 l1 l2 l4 : en_V} {x3 : Option Nat} {σ : en_S} : en_J (X_X6_place G qx q) 14 [l0, l1, l2, en_R x3, l4] [] σ ↔ en_J (X_X6_place G qx q) 15 [l0, l1, l2, en_R x3, l4] [en_R x3] σ := en_j1 d_X6_place_14 rfl rfl
theorem d_X6_place_15 : decode cX6_place 15 = .ok (.invokevirtual 168, 3) := by decide +kernel
theorem j_X6_place_15 {G : en_G} {q : Option en_V → en_S → Prop} {qx : String → en_S → Prop} {l0 l1 l2 l3 l4 : en_V} {a0 : Option Nat} {σ : en_S} : en_J (X_X6_place G qx q) 15 [l0, l1, l2, l3, l4] [en_R a0] σ ↔ (C_X4_measuredBox G).1 [en_R a0] σ ∧ ∀ (r : Option en_V) (σ' : en_S), (C_X4_measuredBox G).2 [en_R a0] σ r σ' → en_J (X_X6_place G qx q) 18 [l0, l1, l2, l3, l4] (r.toList ++ []) σ' := en_jkC (C := (C_X4_measuredBox G)) (n' := 1) (k := 1) (idx := 168) d_X6_place_15 rfl rfl (by decide) (Nat.le_of_ble_eq_true rfl) (Nat.le_of_ble_eq_true rfl)
theorem d_X6_place_18 : decode cX6_place 18 = .ok (.astore 4, 2) := by decide +kernel
theorem j_X6_place_18 {G : en_G} {q : Option en_V → en_S → Prop} {qx : String → en_S → Prop} {l0 l1 l2 l3 l4 : en_V} {a0 : Option Nat} {σ : en_S} : en_J (X_X6_place G qx q) 18 [l0, l1, l2, l3, l4] [en_R a0] σ ↔ en_J (X_X6_place G qx q) 20 [l0, l1, l2, en_c2 l3, en_R a0] [] σ := en_j1 d_X6_place_18 rfl ⟨rfl, Nat.le_of_ble_eq_true rfl⟩
theorem d_X6_place_20 : decode cX6_place 20 = .ok (.aload 4, 2) := by decide +kernel
theorem j_X6_place_20 {G : en_G} {q : Option en_V → en_S → Prop} {qx : String → en_S → Prop} {l0 l1 l2 l3 : en_V} {x4 : Option Nat} {σ : en_S} : en_J (X_X6_place G qx q) 20 [l0, l1, l2, l3, en_R x4] [] σ ↔ en_J (X_X6_place G qx q) 22 [l0, l1, l2, l3, en_R x4] [en_R x4] σ := en_j1 d_X6_place_20 rfl rfl
theorem d_X6_place_22 : decode cX6_place 22 = .ok (.ifnonnull 13, 3) := by decide +kernel
theorem j_X6_place_22 {G : en_G} {q : Option en_V → en_S → Prop} {qx : String → en_S → Prop} {l0 l1 l2 l3 l4 : en_V} {a0 : Option Nat} {σ : en_S} : en_J (X_X6_place G qx q) 22 [l0, l1, l2, l3, l4] [en_R a0] σ ↔ (¬ a0 = none → en_J (X_X6_place G qx q) 35 [l0, l1, l2, l3, l4] [] σ) ∧ (¬ (¬ a0 = none) → en_J (X_X6_place G qx q) 25 [l0, l1, l2, l3, l4] [] σ) := en_jb d_X6_place_22 rfl ⟨rfl, by decide⟩
theorem d_X6_place_25 : decode cX6_place 25 = .ok (.new 91, 3) := by decide +kernel
theorem d_X6_place_28 : decode cX6_place 28 = .ok (.dup, 1) := by decide +kernel
theorem j_X6_place_28 {G : en_G} {q : Option en_V → en_S → Prop} {qx : String → en_S → Prop} {l0 l1 l2 l3 l4 : en_V} {a0 : Option Nat} {σ : en_S} : en_J (X_X6_place G qx q) 28 [l0, l1, l2, l3, l4] [en_R a0] σ ↔ en_J (X_X6_place G qx q) 29 [l0, l1, l2, l3, l4] [en_R a0, en_R a0] σ := en_j1 d_X6_place_28 rfl rfl
theorem d_X6_place_29 : decode cX6_place 29 = .ok (.ldc 172, 2) := by decide +kernel
theorem d_X6_place_31 : decode cX6_place 31 = .ok (.invokespecial 95, 3) := by decide +kernel
theorem d_X6_place_34 : decode cX6_place 34 = .ok (.athrow, 1) := by decide +kernel
theorem d_X6_place_35 : decode cX6_place 35 = .ok (.iload_n 2, 1) := by decide +kernel
theorem j_X6_place_35 {G : en_G} {q : Option en_V → en_S → Prop} {qx : String → en_S → Prop} {l0 l1 l3 l4 : en_V} {x2 : Int32} {σ : en_S} : en_J (X_X6_place G qx q) 35 [l0, l1, en_I x2, l3, l4] [] σ ↔ en_J (X_X6_place G qx q) 36 [l0, l1, en_I x2, l3, l4] [en_I x2] σ := en_j1 d_X6_place_35 rfl rfl
theorem d_X6_place_36 : decode cX6_place 36 = .ok (.tableswitch 46 0 2 #[28, 34, 40], 28) := by decide +kernel
theorem j_X6_place_36_0 {G : en_G} {q : Option en_V → en_S → Prop} {qx : String → en_S → Prop} {l0 l1 l2 l3 l4 : en_V} {σ : en_S} : en_J (X_X6_place G qx q) 36 [l0, l1, l2, l3, l4] [en_I 0] σ ↔ en_J (X_X6_place G qx q) 64 [l0, l1, l2, l3, l4] [] σ := ej_table d_X6_place_36 (by decide +kernel)
theorem j_X6_place_36_1 {G : en_G} {q : Option en_V → en_S → Prop} {qx : String → en_S → Prop} {l0 l1 l2 l3 l4 : en_V} {σ : en_S} : en_J (X_X6_place G qx q) 36 [l0, l1, l2, l3, l4] [en_I 1] σ ↔ en_J (X_X6_place G qx q) 70 [l0, l1, l2, l3, l4] [] σ := ej_table d_X6_place_36 (by decide +kernel)
theorem j_X6_place_36_2 {G : en_G} {q : Option en_V → en_S → Prop} {qx : String → en_S → Prop} {l0 l1 l2 l3 l4 : en_V} {σ : en_S} : en_J (X_X6_place G qx q) 36 [l0, l1, l2, l3, l4] [en_I 2] σ ↔ en_J (X_X6_place G qx q) 76 [l0, l1, l2, l3, l4] [] σ := ej_table d_X6_place_36 (by decide +kernel)
theorem j_X6_place_36_d {G : en_G} {q : Option en_V → en_S → Prop} {qx : String → en_S → Prop} {l0 l1 l2 l3 l4 : en_V} {σ : en_S} {x : Int32} (hx : x.toInt < 0 ∨ 2 < x.toInt) : en_J (X_X6_place G qx q) 36 [l0, l1, l2, l3, l4] [en_I x] σ ↔ en_J (X_X6_place G qx q) 82 [l0, l1, l2, l3, l4] [] σ := ej_table d_X6_place_36 (en_tswD hx (by decide +kernel))
theorem d_X6_place_64 : decode cX6_place 64 = .ok (.aload 4, 2) := by decide +kernel
theorem j_X6_place_64 {G : en_G} {q : Option en_V → en_S → Prop} {qx : String → en_S → Prop} {l0 l1 l2 l3 : en_V} {x4 : Option Nat} {σ : en_S} : en_J (X_X6_place G qx q) 64 [l0, l1, l2, l3, en_R x4] [] σ ↔ en_J (X_X6_place G qx q) 66 [l0, l1, l2, l3, en_R x4] [en_R x4] σ := en_j1 d_X6_place_64 rfl rfl
theorem d_X6_place_66 : decode cX6_place 66 = .ok (.getfield 174, 3) := by decide +kernel
theorem j_X6_place_66 {G : en_G} {q : Option en_V → en_S → Prop} {qx : String → en_S → Prop} {l0 l1 l2 l3 l4 : en_V} {a0 : Option Nat} {σ : en_S} : en_J (X_X6_place G qx q) 66 [l0, l1, l2, l3, l4] [en_R a0] σ ↔ ∃ a, a0 = some a ∧ en_cl σ a = some 0 ∧ en_J (X_X6_place G qx q) 69 [l0, l1, l2, l3, l4] [en_D (en_fd σ 6 a)] σ := en_jg (st := fun o => [en_R o]) (st' := fun a => [en_D (en_fd σ 6 a)]) (σ' := fun _ => σ) d_X6_place_66 rfl (fun a => rfl) (fun a => ⟨fun h => h.2, fun h => ⟨rfl, h⟩⟩)
theorem d_X6_place_69 : decode cX6_place 69 = .ok (.dreturn, 1) := by decide +kernel
theorem j_X6_place_69 {G : en_G} {q : Option en_V → en_S → Prop} {qx : String → en_S → Prop} {l0 l1 l2 l3 l4 : en_V} {a0 : UInt64} {σ : en_S} : en_J (X_X6_place G qx q) 69 [l0, l1, l2, l3, l4] [en_D a0] σ ↔ q (some (en_D a0)) σ := en_jr d_X6_place_69 rfl ⟨fun h => h.2.2, fun h => ⟨rfl, rfl, h⟩⟩
theorem d_X6_place_70 : decode cX6_place 70 = .ok (.aload 4, 2) := by decide +kernel
theorem j_X6_place_70 {G : en_G} {q : Option en_V → en_S → Prop} {qx : String → en_S → Prop} {l0 l1 l2 l3 : en_V} {x4 : Option Nat} {σ : en_S} : en_J (X_X6_place G qx q) 70 [l0, l1, l2, l3, en_R x4] [] σ ↔ en_J (X_X6_place G qx q) 72 [l0, l1, l2, l3, en_R x4] [en_R x4] σ := en_j1 d_X6_place_70 rfl rfl
theorem d_X6_place_72 : decode cX6_place 72 = .ok (.getfield 177, 3) := by decide +kernel
theorem j_X6_place_72 {G : en_G} {q : Option en_V → en_S → Prop} {qx : String → en_S → Prop} {l0 l1 l2 l3 l4 : en_V} {a0 : Option Nat} {σ : en_S} : en_J (X_X6_place G qx q) 72 [l0, l1, l2, l3, l4] [en_R a0] σ ↔ ∃ a, a0 = some a ∧ en_cl σ a = some 0 ∧ en_J (X_X6_place G qx q) 75 [l0, l1, l2, l3, l4] [en_D (en_fd σ 7 a)] σ := en_jg (st := fun o => [en_R o]) (st' := fun a => [en_D (en_fd σ 7 a)]) (σ' := fun _ => σ) d_X6_place_72 rfl (fun a => rfl) (fun a => ⟨fun h => h.2, fun h => ⟨rfl, h⟩⟩)
theorem d_X6_place_75 : decode cX6_place 75 = .ok (.dreturn, 1) := by decide +kernel
theorem j_X6_place_75 {G : en_G} {q : Option en_V → en_S → Prop} {qx : String → en_S → Prop} {l0 l1 l2 l3 l4 : en_V} {a0 : UInt64} {σ : en_S} : en_J (X_X6_place G qx q) 75 [l0, l1, l2, l3, l4] [en_D a0] σ ↔ q (some (en_D a0)) σ := en_jr d_X6_place_75 rfl ⟨fun h => h.2.2, fun h => ⟨rfl, rfl, h⟩⟩
theorem d_X6_place_76 : decode cX6_place 76 = .ok (.aload 4, 2) := by decide +kernel
theorem j_X6_place_76 {G : en_G} {q : Option en_V → en_S → Prop} {qx : String → en_S → Prop} {l0 l1 l2 l3 : en_V} {x4 : Option Nat} {σ : en_S} : en_J (X_X6_place G qx q) 76 [l0, l1, l2, l3, en_R x4] [] σ ↔ en_J (X_X6_place G qx q) 78 [l0, l1, l2, l3, en_R x4] [en_R x4] σ := en_j1 d_X6_place_76 rfl rfl
theorem d_X6_place_78 : decode cX6_place 78 = .ok (.getfield 180, 3) := by decide +kernel
theorem j_X6_place_78 {G : en_G} {q : Option en_V → en_S → Prop} {qx : String → en_S → Prop} {l0 l1 l2 l3 l4 : en_V} {a0 : Option Nat} {σ : en_S} : en_J (X_X6_place G qx q) 78 [l0, l1, l2, l3, l4] [en_R a0] σ ↔ ∃ a, a0 = some a ∧ en_cl σ a = some 0 ∧ en_J (X_X6_place G qx q) 81 [l0, l1, l2, l3, l4] [en_D (en_fd σ 8 a)] σ := en_jg (st := fun o => [en_R o]) (st' := fun a => [en_D (en_fd σ 8 a)]) (σ' := fun _ => σ) d_X6_place_78 rfl (fun a => rfl) (fun a => ⟨fun h => h.2, fun h => ⟨rfl, h⟩⟩)
theorem d_X6_place_81 : decode cX6_place 81 = .ok (.dreturn, 1) := by decide +kernel
theorem j_X6_place_81 {G : en_G} {q : Option en_V → en_S → Prop} {qx : String → en_S → Prop} {l0 l1 l2 l3 l4 : en_V} {a0 : UInt64} {σ : en_S} : en_J (X_X6_place G qx q) 81 [l0, l1, l2, l3, l4] [en_D a0] σ ↔ q (some (en_D a0)) σ := en_jr d_X6_place_81 rfl ⟨fun h => h.2.2, fun h => ⟨rfl, rfl, h⟩⟩
theorem d_X6_place_82 : decode cX6_place 82 = .ok (.new 83, 3) := by decide +kernel
theorem d_X6_place_85 : decode cX6_place 85 = .ok (.dup, 1) := by decide +kernel
theorem j_X6_place_85 {G : en_G} {q : Option en_V → en_S → Prop} {qx : String → en_S → Prop} {l0 l1 l2 l3 l4 : en_V} {a0 : Option Nat} {σ : en_S} : en_J (X_X6_place G qx q) 85 [l0, l1, l2, l3, l4] [en_R a0] σ ↔ en_J (X_X6_place G qx q) 86 [l0, l1, l2, l3, l4] [en_R a0, en_R a0] σ := en_j1 d_X6_place_85 rfl rfl
theorem d_X6_place_86 : decode cX6_place 86 = .ok (.ldc 183, 2) := by decide +kernel
theorem d_X6_place_88 : decode cX6_place 88 = .ok (.invokespecial 87, 3) := by decide +kernel
theorem d_X6_place_91 : decode cX6_place 91 = .ok (.athrow, 1) := by decide +kernel
theorem j_X6_place_25 {G : en_G} {q : Option en_V → en_S → Prop} {qx : String → en_S → Prop} {l0 l1 l2 l3 l4 : en_V} {σ : en_S} : en_J (X_X6_place G qx q) 25 [l0, l1, l2, l3, l4] [] σ ↔ en_nx σ + 1 ≤ G.2.2.2.2.1 ∧ en_ns σ + 6 ≤ G.2.2.2.2.2 ∧ qx en_NS σ := ej_thr d_X6_place_25 rfl
theorem j_X6_place_82 {G : en_G} {q : Option en_V → en_S → Prop} {qx : String → en_S → Prop} {l0 l1 l2 l3 l4 : en_V} {σ : en_S} : en_J (X_X6_place G qx q) 82 [l0, l1, l2, l3, l4] [] σ ↔ en_nx σ + 1 ≤ G.2.2.2.2.1 ∧ en_ns σ + 6 ≤ G.2.2.2.2.2 ∧ qx en_IA σ := ej_thr d_X6_place_82 rfl
theorem wc_X6_place : Jvm.Cond.code yX6_place cX6_place 5 (some .double) ∈ en_W := en_inW (List.mem_of_getElem? (i := 685) (by decide +kernel)) (by decide +kernel)
theorem wi_X6_place : Jvm.Cond.instanceMethod yX6_place ∈ en_W := en_inW (List.mem_of_getElem? (i := 683) (by decide +kernel)) (by decide +kernel)
theorem wx_X6_place : Jvm.Cond.selects RX6 yX6_place yX6_place ∈ en_W := en_inW (List.mem_of_getElem? (i := 684) (by decide +kernel)) (by decide +kernel)
theorem th_X6_place : ∀ pc E, en_lk xt_X6_place pc = some E → en_thr cX6_place pc E := by
  intro pc E hq
  have hm := en_lk_mem hq
  simp only [xt_X6_place, List.mem_cons, Prod.mk.injEq, List.not_mem_nil, or_false] at hm
  rcases hm with ⟨rfl, rfl⟩ | ⟨rfl, rfl⟩
  · exact ⟨91, 172, 95, 13, xs_13, "there is no box", by decide +kernel, by decide +kernel, by decide +kernel, by decide +kernel, by decide +kernel, xc_NS, xi_NS, by simp [en_str], xb_NS, xd_NS, xe_NS, by decide +kernel, by decide +kernel, by decide +kernel, by decide +kernel, by decide +kernel⟩
  · exact ⟨83, 183, 87, 7, Bundle.six, "what is not 0 .. 2", by decide +kernel, by decide +kernel, by decide +kernel, by decide +kernel, by decide +kernel, xc_IA, xi_IA, by simp [en_str], xb_IA, xd_IA, xe_IA, by decide +kernel, by decide +kernel, by decide +kernel, by decide +kernel, by decide +kernel⟩
theorem jl_X6_place {G : en_G} {x : Nat} {rm : Nat} {S : pb_S} {k : Int32} {u : Int32} {q : Option en_V → en_S → Prop} {qx : String → en_S → Prop} {σ : en_S} (hp : PZ G x (rm + 64) S σ) (hq : ∀ v σ', (PZ G x rm S σ' ∧ ag σ σ' pF (pV x) ∧ (op_place S k u).1 = 0 ∧ v = some (en_D (op_place S k u).2)) → q v σ') (hx : ∀ E σ', (PZ G x rm S σ' ∧ ag σ σ' pF (pV x) ∧ (((op_place S k u).1 = 1 ∧ E = en_NS) ∨ ((op_place S k u).1 = 2 ∧ E = en_IA))) → qx E σ') : en_J (X_X6_place G qx q) 0 [en_R (some x), en_I k, en_I u, en_U, en_U] [] σ := by
  obtain ⟨na, la, ba, hP⟩ := hp
  have hC := hP.1
  have w := hC.2.2.2.2.2.2.2.2.1
  have hN := w.1.1.2
  have i1 : ¬ (1 : Int32) = 0 := by decide
  obtain ⟨rm1, rm2⟩ := px_room hP
  simp only [j_X6_place_0, j_X6_place_1, j_X6_place_2, j_X6_place_5, j_X6_place_6, j_X6_place_7, j_X6_place_10, j_X6_place_11, j_X6_place_14, j_X6_place_15, j_X6_place_18, j_X6_place_20, j_X6_place_22, j_X6_place_28, j_X6_place_64, j_X6_place_66, j_X6_place_69, j_X6_place_70, j_X6_place_72, j_X6_place_75, j_X6_place_76, j_X6_place_78, j_X6_place_81, j_X6_place_82, j_X6_place_85, en_c2I, en_c2R, en_c2U, en_c2D, Option.some.injEq, exists_eq_left', exists_eq_left, Option.map_some, Option.map_none, not_true_eq_false, false_implies, true_implies, and_true, true_and, reduceCtorEq, not_false_eq_true, true_or, or_true]
  refine en_use (cu_X6_nodeAt hC) ?_
  rintro v σ' ⟨rfl, rfl⟩
  cases hx1 : st_ix (tr_N (sa_T S.1)) k with
  | none =>
    have : qx en_NS σ' := hx _ _ ⟨hP.z (by omega), ag.rf, Or.inl ⟨by unfold op_place; rw [hx1], rfl⟩⟩
    simp only [Option.toList, List.cons_append, List.nil_append, j_X6_place_0, j_X6_place_1, j_X6_place_2, j_X6_place_5, j_X6_place_6, j_X6_place_7, j_X6_place_10, j_X6_place_11, j_X6_place_14, j_X6_place_15, j_X6_place_18, j_X6_place_20, j_X6_place_22, j_X6_place_25, j_X6_place_28, j_X6_place_64, j_X6_place_66, j_X6_place_69, j_X6_place_70, j_X6_place_72, j_X6_place_75, j_X6_place_76, j_X6_place_78, j_X6_place_81, j_X6_place_82, j_X6_place_85, en_c2I, en_c2R, en_c2U, en_c2D, Option.some.injEq, exists_eq_left', exists_eq_left, Option.map_some, Option.map_none, not_true_eq_false, false_implies, true_implies, and_true, true_and, reduceCtorEq, not_false_eq_true, true_or, or_true]
    exact ⟨rm1, rm2, this⟩
  | some n =>
    obtain ⟨hn, rfl⟩ := st_ix_some (by omega) hx1
    simp only [Option.toList, List.cons_append, List.nil_append, j_X6_place_0, j_X6_place_1, j_X6_place_2, j_X6_place_5, j_X6_place_6, j_X6_place_7, j_X6_place_10, j_X6_place_11, j_X6_place_14, j_X6_place_15, j_X6_place_18, j_X6_place_20, j_X6_place_22, j_X6_place_28, j_X6_place_64, j_X6_place_66, j_X6_place_69, j_X6_place_70, j_X6_place_72, j_X6_place_75, j_X6_place_76, j_X6_place_78, j_X6_place_81, j_X6_place_82, j_X6_place_85, en_c2I, en_c2R, en_c2U, en_c2D, Option.some.injEq, exists_eq_left', exists_eq_left, Option.map_some, Option.map_none, not_true_eq_false, false_implies, true_implies, and_true, true_and, reduceCtorEq, not_false_eq_true, true_or, or_true]
    refine en_use (cu_X4_measuredBox ⟨hC, hn⟩) ?_
    rintro v σ1 ⟨hC1, g1, s1, rfl, hv⟩
    have hP1 := hP.b hC1 g1
    obtain ⟨rn1, rn2⟩ := px_room hP1
    cases hb : sa_B S.1 n with
    | none =>
      have : qx en_NS σ1 := hx _ _ ⟨hP1.z (by omega), pqb g1, Or.inl ⟨by unfold op_place; rw [hx1]; simp only; rw [if_pos hb], rfl⟩⟩
      simp only [Option.toList, List.cons_append, List.nil_append, j_X6_place_0, j_X6_place_1, j_X6_place_2, j_X6_place_5, j_X6_place_6, j_X6_place_7, j_X6_place_10, j_X6_place_11, j_X6_place_14, j_X6_place_15, j_X6_place_18, j_X6_place_20, j_X6_place_22, j_X6_place_25, j_X6_place_28, j_X6_place_64, j_X6_place_66, j_X6_place_69, j_X6_place_70, j_X6_place_72, j_X6_place_75, j_X6_place_76, j_X6_place_78, j_X6_place_81, j_X6_place_82, j_X6_place_85, en_c2I, en_c2R, en_c2U, en_c2D, Option.some.injEq, exists_eq_left', exists_eq_left, Option.map_some, Option.map_none, not_true_eq_false, false_implies, true_implies, and_true, true_and, reduceCtorEq, not_false_eq_true, true_or, or_true]
      exact ⟨rn1, rn2, this⟩
    | some b =>
      have hbn : ¬ sa_B S.1 n = none := by rw [hb]; simp
      obtain ⟨v1, v2, v3⟩ := hv hbn
      have hbc := (hC1.2.2.2.1.1 n b hn hb).1
      cases hy : st_ix 3 u with
      | none =>
        have : qx en_IA σ1 := hx _ _ ⟨hP1.z (by omega), pqb g1, Or.inr ⟨by unfold op_place; rw [hx1]; simp only; rw [if_neg hbn, hy], rfl⟩⟩
        have hno := st_ix_none hy
        have hd : u.toInt < 0 ∨ 2 < u.toInt := by
          apply Classical.byContradiction
          intro hz
          apply hno
          refine ⟨Int32.le_iff_toInt_le.mpr (by show (0 : Int) ≤ _; omega), Int32.lt_iff_toInt_lt.mpr ?_⟩
          rw [nI_toInt (by decide)]
          omega
        simp only [Option.toList, List.cons_append, List.nil_append, j_X6_place_0, j_X6_place_1, j_X6_place_2, j_X6_place_5, j_X6_place_6, j_X6_place_7, j_X6_place_10, j_X6_place_11, j_X6_place_14, j_X6_place_15, j_X6_place_18, j_X6_place_20, j_X6_place_22, j_X6_place_25, j_X6_place_28, j_X6_place_35, j_X6_place_64, j_X6_place_66, j_X6_place_69, j_X6_place_70, j_X6_place_72, j_X6_place_75, j_X6_place_76, j_X6_place_78, j_X6_place_81, j_X6_place_85, en_c2I, en_c2R, en_c2U, en_c2D, Option.some.injEq, exists_eq_left', exists_eq_left, Option.map_some, Option.map_none, not_true_eq_false, false_implies, true_implies, and_true, true_and, reduceCtorEq, not_false_eq_true, true_or, or_true]
        rw [j_X6_place_36_d hd]
        simp only [j_X6_place_0, j_X6_place_1, j_X6_place_2, j_X6_place_5, j_X6_place_6, j_X6_place_7, j_X6_place_10, j_X6_place_11, j_X6_place_14, j_X6_place_15, j_X6_place_18, j_X6_place_20, j_X6_place_22, j_X6_place_25, j_X6_place_28, j_X6_place_35, j_X6_place_64, j_X6_place_66, j_X6_place_69, j_X6_place_70, j_X6_place_72, j_X6_place_75, j_X6_place_76, j_X6_place_78, j_X6_place_81, j_X6_place_82, j_X6_place_85, en_c2I, en_c2R, en_c2U, en_c2D, Option.some.injEq, exists_eq_left', exists_eq_left, Option.map_some, Option.map_none, not_true_eq_false, false_implies, true_implies, and_true, true_and, reduceCtorEq, not_false_eq_true, true_or, or_true]
        exact ⟨rn1, rn2, this⟩
      | some u' =>
        obtain ⟨hu, rfl⟩ := st_ix_some (by decide) hy
        have hop : op_place S (nI n) (nI u') = (0, rk_v (nI u') (ms_at S.1 n)) := by unfold op_place; rw [hx1]; simp only; rw [if_neg hbn, hy]
        rw [hop] at hq
        have fin := fun (z : UInt64) (hz : rk_v (nI u') (ms_at S.1 n) = z) => hq (some (en_D z)) σ1 ⟨hP1.z (by omega), pqb g1, rfl, by rw [hz]⟩
        have hcc : u' = 0 ∨ u' = 1 ∨ u' = 2 := by omega
        rcases hcc with rfl | rfl | rfl
        · have := fin (ms_at S.1 n).1 (by unfold rk_v; rw [if_neg (by decide +kernel), if_pos (by decide +kernel)])
          rw [show nI 0 = 0 from by decide +kernel]
          simp only [Option.toList, List.cons_append, List.nil_append, j_X6_place_0, j_X6_place_1, j_X6_place_2, j_X6_place_5, j_X6_place_6, j_X6_place_7, j_X6_place_10, j_X6_place_11, j_X6_place_14, j_X6_place_15, j_X6_place_18, j_X6_place_20, j_X6_place_22, j_X6_place_25, j_X6_place_28, j_X6_place_35, j_X6_place_64, j_X6_place_66, j_X6_place_69, j_X6_place_70, j_X6_place_72, j_X6_place_75, j_X6_place_76, j_X6_place_78, j_X6_place_81, j_X6_place_82, j_X6_place_85, j_X6_place_36_0, j_X6_place_36_1, j_X6_place_36_2, en_c2I, en_c2R, en_c2U, en_c2D, Option.some.injEq, exists_eq_left', exists_eq_left, Option.map_some, Option.map_none, not_true_eq_false, false_implies, true_implies, and_true, true_and, reduceCtorEq, not_false_eq_true, true_or, or_true, hbc, v1]
          exact this
        · have := fin (ms_at S.1 n).2.1 (by unfold rk_v; rw [if_neg (by decide +kernel), if_neg (by decide +kernel)])
          rw [show nI 1 = 1 from by decide +kernel]
          simp only [Option.toList, List.cons_append, List.nil_append, j_X6_place_0, j_X6_place_1, j_X6_place_2, j_X6_place_5, j_X6_place_6, j_X6_place_7, j_X6_place_10, j_X6_place_11, j_X6_place_14, j_X6_place_15, j_X6_place_18, j_X6_place_20, j_X6_place_22, j_X6_place_25, j_X6_place_28, j_X6_place_35, j_X6_place_64, j_X6_place_66, j_X6_place_69, j_X6_place_70, j_X6_place_72, j_X6_place_75, j_X6_place_76, j_X6_place_78, j_X6_place_81, j_X6_place_82, j_X6_place_85, j_X6_place_36_0, j_X6_place_36_1, j_X6_place_36_2, en_c2I, en_c2R, en_c2U, en_c2D, Option.some.injEq, exists_eq_left', exists_eq_left, Option.map_some, Option.map_none, not_true_eq_false, false_implies, true_implies, and_true, true_and, reduceCtorEq, not_false_eq_true, true_or, or_true, hbc, v2]
          exact this
        · have := fin (ms_at S.1 n).2.2 (by unfold rk_v; rw [if_pos (by decide +kernel)])
          rw [show nI 2 = 2 from by decide +kernel]
          simp only [Option.toList, List.cons_append, List.nil_append, j_X6_place_0, j_X6_place_1, j_X6_place_2, j_X6_place_5, j_X6_place_6, j_X6_place_7, j_X6_place_10, j_X6_place_11, j_X6_place_14, j_X6_place_15, j_X6_place_18, j_X6_place_20, j_X6_place_22, j_X6_place_25, j_X6_place_28, j_X6_place_35, j_X6_place_64, j_X6_place_66, j_X6_place_69, j_X6_place_70, j_X6_place_72, j_X6_place_75, j_X6_place_76, j_X6_place_78, j_X6_place_81, j_X6_place_82, j_X6_place_85, j_X6_place_36_0, j_X6_place_36_1, j_X6_place_36_2, en_c2I, en_c2R, en_c2U, en_c2D, Option.some.injEq, exists_eq_left', exists_eq_left, Option.map_some, Option.map_none, not_true_eq_false, false_implies, true_implies, and_true, true_and, reduceCtorEq, not_false_eq_true, true_or, or_true, hbc, v3]
          exact this
theorem jp_X6_place {G : en_G} : ∀ as σ, (C_X6_place G).1 as σ → (en_lc as).length ≤ 5 ∧ en_J (X_X6_place G (fun E σ' => XP_X6_place G as σ E σ') (fun r σ' => (C_X6_place G).2 as σ r σ')) 0 (en_loc 5 as) [] σ := en_ghJX (fun g as σ h => by
  obtain ⟨hp, h2⟩ := h
  subst h2
  exact ⟨Nat.le_of_ble_eq_true rfl, jl_X6_place hp (fun _ _ h => h) (fun _ _ h => h)⟩)
theorem wl_X6_place_57 : Jvm.Cond.methodLink RX6 57 yX6_nodeAt ∈ en_W := en_inW (List.mem_of_getElem? (i := 248) (by decide +kernel)) (by decide +kernel)
theorem wl_X6_place_168 : Jvm.Cond.methodLink RX6 168 yX4_measuredBox ∈ en_W := en_inW (List.mem_of_getElem? (i := 350) (by decide +kernel)) (by decide +kernel)
theorem okx_X6_place {G : en_G} : en_OkX G 6 yX6_place cX6_place 5 (some .double) (C_X6_place G) (XP_X6_place G) :=
  en_metX (fl := en_lk fl6) (nw := en_lk nw6) (aw := en_lk aw6) (dc := en_lk dc6) (ca := en_lk (ca_X6_place G)) (xt := en_lk xt_X6_place) (rt := 4) (ini := false) (by decide +kernel) (Or.inr (Or.inr (Or.inr (Or.inr ⟨rfl, rfl⟩)))) (fun h => by cases h) rfl (fun q qx => en_LkX fl6_ok nw6_ok aw6_ok dc6_ok) (by
    intro idx q hq
    have hm := en_lk_mem hq
    simp only [ca_X6_place, List.mem_cons, Prod.mk.injEq, List.not_mem_nil, or_false] at hm
    rcases hm with ⟨rfl, rfl⟩ | ⟨rfl, rfl⟩
    · exact en_clV (r := (RX6, TX6, 13)) 6 1 ok_X6_nodeAt (by decide) (by decide) rfl rfl pr_X6_nodeAt wl_X6_place_57 wi_X6_nodeAt wx_X6_nodeAt wz_6 wc_X6_nodeAt ⟨by decide +kernel, by decide +kernel, by decide +kernel⟩
    · exact en_clV (r := (RX4, TX4, 12)) 4 0 ok_X4_measuredBox (by decide) (by decide) rfl rfl pr_X4_measuredBox wl_X6_place_168 wi_X4_measuredBox wx_X4_measuredBox wz_4 wc_X4_measuredBox ⟨by decide +kernel, by decide +kernel, by decide +kernel⟩) (by decide) th_X6_place jp_X6_place
