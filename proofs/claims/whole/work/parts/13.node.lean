/-! values -/
theorem en_Iinj {x y : Int32} : en_I x = en_I y ↔ x = y := ⟨fun h => by cases h; rfl, fun h => by rw [h]⟩
theorem en_Rinj {x y : Option Nat} : en_R x = en_R y ↔ x = y := ⟨fun h => by cases h; rfl, fun h => by rw [h]⟩
theorem en_Dinj {x y : UInt64} : en_D x = en_D y ↔ x = y := ⟨fun h => by cases h; rfl, fun h => by rw [h]⟩
theorem wz_0 : Jvm.Cond.initialized RX0 ∈ en_W := en_inW (List.mem_of_getElem? (i := 55) (by decide +kernel)) (by decide +kernel)
theorem wz_1 : Jvm.Cond.initialized RX1 ∈ en_W := en_inW (List.mem_of_getElem? (i := 42) (by decide +kernel)) (by decide +kernel)
theorem wz_2 : Jvm.Cond.initialized RX2 ∈ en_W := en_inW (List.mem_of_getElem? (i := 45) (by decide +kernel)) (by decide +kernel)
theorem wz_3 : Jvm.Cond.initialized RX3 ∈ en_W := en_inW (List.mem_of_getElem? (i := 53) (by decide +kernel)) (by decide +kernel)
theorem wz_4 : Jvm.Cond.initialized RX4 ∈ en_W := en_inW (List.mem_of_getElem? (i := 43) (by decide +kernel)) (by decide +kernel)
theorem wz_5 : Jvm.Cond.initialized RX5 ∈ en_W := en_inW (List.mem_of_getElem? (i := 44) (by decide +kernel)) (by decide +kernel)
theorem wz_6 : Jvm.Cond.initialized RX6 ∈ en_W := en_inW (List.mem_of_getElem? (i := 41) (by decide +kernel)) (by decide +kernel)
theorem wz_7 : Jvm.Cond.initialized RX7 ∈ en_W := en_inW (List.mem_of_getElem? (i := 46) (by decide +kernel)) (by decide +kernel)
def ca_X4_isElement (G : en_G) : List (Nat × Nat × en_C) := []
def X_X4_isElement (G : en_G) (q : Option en_V → en_S → Prop) : en_X := en_mk G cX4_isElement (en_lk fl4) (en_lk nw4) (en_lk aw4) (en_lk dc4) (en_lk (ca_X4_isElement G)) 2 false q
theorem d_X4_isElement_0 : decode cX4_isElement 0 = .ok (.aload_n 0, 1) := by decide +kernel
theorem j_X4_isElement_0 {G : en_G} {q : Option en_V → en_S → Prop}  {x0 : Option Nat} {σ : en_S} : en_J (X_X4_isElement G q) 0 [en_R x0] [] σ ↔ en_J (X_X4_isElement G q) 1 [en_R x0] [en_R x0] σ := en_j1 d_X4_isElement_0 rfl rfl
theorem d_X4_isElement_1 : decode cX4_isElement 1 = .ok (.getfield 15, 3) := by decide +kernel
theorem j_X4_isElement_1 {G : en_G} {q : Option en_V → en_S → Prop}  {l0 : en_V} {a0 : Option Nat} {σ : en_S} : en_J (X_X4_isElement G q) 1 [l0] [en_R a0] σ ↔ ∃ a, a0 = some a ∧ en_cl σ a = some 4 ∧ en_J (X_X4_isElement G q) 4 [l0] [en_I (en_fi σ 401 a)] σ := en_jg (st := fun o => [en_R o]) (st' := fun a => [en_I (en_fi σ 401 a)]) (σ' := fun _ => σ) d_X4_isElement_1 rfl (fun a => rfl) (fun a => ⟨fun h => h.2, fun h => ⟨rfl, h⟩⟩)
theorem d_X4_isElement_4 : decode cX4_isElement 4 = .ok (.iconst 2, 1) := by decide +kernel
theorem j_X4_isElement_4 {G : en_G} {q : Option en_V → en_S → Prop}  {l0 : en_V} {a0 : Int32} {σ : en_S} : en_J (X_X4_isElement G q) 4 [l0] [en_I a0] σ ↔ en_J (X_X4_isElement G q) 5 [l0] [en_I 2, en_I a0] σ := ej_iconst d_X4_isElement_4 (by decide +kernel)
theorem d_X4_isElement_5 : decode cX4_isElement 5 = .ok (.if_icmp .gt 7, 3) := by decide +kernel
theorem j_X4_isElement_5 {G : en_G} {q : Option en_V → en_S → Prop}  {l0 : en_V} {a0 : Int32} {a1 : Int32} {σ : en_S} : en_J (X_X4_isElement G q) 5 [l0] [en_I a0, en_I a1] σ ↔ (a0 < a1 → en_J (X_X4_isElement G q) 12 [l0] [] σ) ∧ (¬ (a0 < a1) → en_J (X_X4_isElement G q) 8 [l0] [] σ) := en_jb d_X4_isElement_5 rfl ⟨rfl, by decide⟩
theorem d_X4_isElement_8 : decode cX4_isElement 8 = .ok (.iconst 1, 1) := by decide +kernel
theorem j_X4_isElement_8 {G : en_G} {q : Option en_V → en_S → Prop}  {l0 : en_V}  {σ : en_S} : en_J (X_X4_isElement G q) 8 [l0] [] σ ↔ en_J (X_X4_isElement G q) 9 [l0] [en_I 1] σ := ej_iconst d_X4_isElement_8 (by decide +kernel)
theorem d_X4_isElement_9 : decode cX4_isElement 9 = .ok (.goto 4, 3) := by decide +kernel
theorem j_X4_isElement_9 {G : en_G} {q : Option en_V → en_S → Prop}  {l0 : en_V} {a0 : Int32} {σ : en_S} : en_J (X_X4_isElement G q) 9 [l0] [en_I a0] σ ↔ en_J (X_X4_isElement G q) 13 [l0] [en_I a0] σ := en_j1 d_X4_isElement_9 rfl ⟨rfl, by decide⟩
theorem d_X4_isElement_12 : decode cX4_isElement 12 = .ok (.iconst 0, 1) := by decide +kernel
theorem j_X4_isElement_12 {G : en_G} {q : Option en_V → en_S → Prop}  {l0 : en_V}  {σ : en_S} : en_J (X_X4_isElement G q) 12 [l0] [] σ ↔ en_J (X_X4_isElement G q) 13 [l0] [en_I 0] σ := ej_iconst d_X4_isElement_12 (by decide +kernel)
theorem d_X4_isElement_13 : decode cX4_isElement 13 = .ok (.ireturn, 1) := by decide +kernel
theorem j_X4_isElement_13 {G : en_G} {q : Option en_V → en_S → Prop}  {l0 : en_V} {a0 : Int32} {σ : en_S} : en_J (X_X4_isElement G q) 13 [l0] [en_I a0] σ ↔ (a0 = 0 ∨ a0 = 1) ∧ q (some (en_I a0)) σ := en_jr d_X4_isElement_13 rfl ⟨fun h => ⟨h.2.1.elim (fun z => absurd (show (2 : Nat) = 1 from z) (by decide)) (fun z => z.2), h.2.2⟩, fun h => ⟨rfl, Or.inr ⟨rfl, h.1⟩, h.2⟩⟩
theorem wc_X4_isElement : Jvm.Cond.code yX4_isElement cX4_isElement 1 (some .boolean) ∈ en_W := en_inW (List.mem_of_getElem? (i := 455) (by decide +kernel)) (by decide +kernel)
theorem wi_X4_isElement : Jvm.Cond.instanceMethod yX4_isElement ∈ en_W := en_inW (List.mem_of_getElem? (i := 453) (by decide +kernel)) (by decide +kernel)
theorem wx_X4_isElement : Jvm.Cond.selects RX4 yX4_isElement yX4_isElement ∈ en_W := en_inW (List.mem_of_getElem? (i := 454) (by decide +kernel)) (by decide +kernel)
def ca_X4_parentOrHost (G : en_G) : List (Nat × Nat × en_C) := []
def X_X4_parentOrHost (G : en_G) (q : Option en_V → en_S → Prop) : en_X := en_mk G cX4_parentOrHost (en_lk fl4) (en_lk nw4) (en_lk aw4) (en_lk dc4) (en_lk (ca_X4_parentOrHost G)) 3 false q
theorem d_X4_parentOrHost_0 : decode cX4_parentOrHost 0 = .ok (.aload_n 0, 1) := by decide +kernel
theorem j_X4_parentOrHost_0 {G : en_G} {q : Option en_V → en_S → Prop}  {x0 : Option Nat} {σ : en_S} : en_J (X_X4_parentOrHost G q) 0 [en_R x0] [] σ ↔ en_J (X_X4_parentOrHost G q) 1 [en_R x0] [en_R x0] σ := en_j1 d_X4_parentOrHost_0 rfl rfl
theorem d_X4_parentOrHost_1 : decode cX4_parentOrHost 1 = .ok (.getfield 25, 3) := by decide +kernel
theorem j_X4_parentOrHost_1 {G : en_G} {q : Option en_V → en_S → Prop}  {l0 : en_V} {a0 : Option Nat} {σ : en_S} : en_J (X_X4_parentOrHost G q) 1 [l0] [en_R a0] σ ↔ ∃ a, a0 = some a ∧ en_cl σ a = some 4 ∧ en_J (X_X4_parentOrHost G q) 4 [l0] [en_R (en_fr σ 404 a)] σ := en_jg (st := fun o => [en_R o]) (st' := fun a => [en_R (en_fr σ 404 a)]) (σ' := fun _ => σ) d_X4_parentOrHost_1 rfl (fun a => rfl) (fun a => ⟨fun h => h.2, fun h => ⟨rfl, h⟩⟩)
theorem d_X4_parentOrHost_4 : decode cX4_parentOrHost 4 = .ok (.ifnull 10, 3) := by decide +kernel
theorem j_X4_parentOrHost_4 {G : en_G} {q : Option en_V → en_S → Prop}  {l0 : en_V} {a0 : Option Nat} {σ : en_S} : en_J (X_X4_parentOrHost G q) 4 [l0] [en_R a0] σ ↔ (a0 = none → en_J (X_X4_parentOrHost G q) 14 [l0] [] σ) ∧ (¬ (a0 = none) → en_J (X_X4_parentOrHost G q) 7 [l0] [] σ) := en_jb d_X4_parentOrHost_4 rfl ⟨rfl, by decide⟩
theorem d_X4_parentOrHost_7 : decode cX4_parentOrHost 7 = .ok (.aload_n 0, 1) := by decide +kernel
theorem j_X4_parentOrHost_7 {G : en_G} {q : Option en_V → en_S → Prop}  {x0 : Option Nat} {σ : en_S} : en_J (X_X4_parentOrHost G q) 7 [en_R x0] [] σ ↔ en_J (X_X4_parentOrHost G q) 8 [en_R x0] [en_R x0] σ := en_j1 d_X4_parentOrHost_7 rfl rfl
theorem d_X4_parentOrHost_8 : decode cX4_parentOrHost 8 = .ok (.getfield 25, 3) := by decide +kernel
theorem j_X4_parentOrHost_8 {G : en_G} {q : Option en_V → en_S → Prop}  {l0 : en_V} {a0 : Option Nat} {σ : en_S} : en_J (X_X4_parentOrHost G q) 8 [l0] [en_R a0] σ ↔ ∃ a, a0 = some a ∧ en_cl σ a = some 4 ∧ en_J (X_X4_parentOrHost G q) 11 [l0] [en_R (en_fr σ 404 a)] σ := en_jg (st := fun o => [en_R o]) (st' := fun a => [en_R (en_fr σ 404 a)]) (σ' := fun _ => σ) d_X4_parentOrHost_8 rfl (fun a => rfl) (fun a => ⟨fun h => h.2, fun h => ⟨rfl, h⟩⟩)
theorem d_X4_parentOrHost_11 : decode cX4_parentOrHost 11 = .ok (.goto 7, 3) := by decide +kernel
theorem j_X4_parentOrHost_11 {G : en_G} {q : Option en_V → en_S → Prop}  {l0 : en_V} {a0 : Option Nat} {σ : en_S} : en_J (X_X4_parentOrHost G q) 11 [l0] [en_R a0] σ ↔ en_J (X_X4_parentOrHost G q) 18 [l0] [en_R a0] σ := en_j1 d_X4_parentOrHost_11 rfl ⟨rfl, by decide⟩
theorem d_X4_parentOrHost_14 : decode cX4_parentOrHost 14 = .ok (.aload_n 0, 1) := by decide +kernel
theorem j_X4_parentOrHost_14 {G : en_G} {q : Option en_V → en_S → Prop}  {x0 : Option Nat} {σ : en_S} : en_J (X_X4_parentOrHost G q) 14 [en_R x0] [] σ ↔ en_J (X_X4_parentOrHost G q) 15 [en_R x0] [en_R x0] σ := en_j1 d_X4_parentOrHost_14 rfl rfl
theorem d_X4_parentOrHost_15 : decode cX4_parentOrHost 15 = .ok (.getfield 21, 3) := by decide +kernel
theorem j_X4_parentOrHost_15 {G : en_G} {q : Option en_V → en_S → Prop}  {l0 : en_V} {a0 : Option Nat} {σ : en_S} : en_J (X_X4_parentOrHost G q) 15 [l0] [en_R a0] σ ↔ ∃ a, a0 = some a ∧ en_cl σ a = some 4 ∧ en_J (X_X4_parentOrHost G q) 18 [l0] [en_R (en_fr σ 403 a)] σ := en_jg (st := fun o => [en_R o]) (st' := fun a => [en_R (en_fr σ 403 a)]) (σ' := fun _ => σ) d_X4_parentOrHost_15 rfl (fun a => rfl) (fun a => ⟨fun h => h.2, fun h => ⟨rfl, h⟩⟩)
theorem d_X4_parentOrHost_18 : decode cX4_parentOrHost 18 = .ok (.areturn, 1) := by decide +kernel
theorem j_X4_parentOrHost_18 {G : en_G} {q : Option en_V → en_S → Prop}  {l0 : en_V} {a0 : Option Nat} {σ : en_S} : en_J (X_X4_parentOrHost G q) 18 [l0] [en_R a0] σ ↔ q (some (en_R a0)) σ := en_jr d_X4_parentOrHost_18 rfl ⟨fun h => h.2.2, fun h => ⟨rfl, rfl, h⟩⟩
theorem wc_X4_parentOrHost : Jvm.Cond.code yX4_parentOrHost cX4_parentOrHost 1 (some (.object "NodeStage$Node")) ∈ en_W := en_inW (List.mem_of_getElem? (i := 357) (by decide +kernel)) (by decide +kernel)
theorem wi_X4_parentOrHost : Jvm.Cond.instanceMethod yX4_parentOrHost ∈ en_W := en_inW (List.mem_of_getElem? (i := 355) (by decide +kernel)) (by decide +kernel)
theorem wx_X4_parentOrHost : Jvm.Cond.selects RX4 yX4_parentOrHost yX4_parentOrHost ∈ en_W := en_inW (List.mem_of_getElem? (i := 356) (by decide +kernel)) (by decide +kernel)
