/-! THE CLASS throws -/
theorem en_LkX {own : String} {G : en_G} {cc : ByteArray} {f : List (Nat × Nat)} {nw : List (Nat × Nat × Nat)} {aw : List (Nat × Nat)} {dc : List (Nat × UInt64)} {ca : Nat → Option (Nat × en_C)} {xt : Nat → Option String} {rt : Nat} {q : Option en_V → en_S → Prop} {qx : String → en_S → Prop} (h1 : en_flok own f) (h2 : en_nwok own nw) (h3 : en_awok own aw) (h4 : en_dcok own dc) : en_Lk own (en_mkX G cc (en_lk f) (en_lk nw) (en_lk aw) (en_lk dc) ca xt rt false q qx) :=
  ⟨fun idx g h => ⟨(h1 _ (en_lk_mem h)).1, (h1 _ (en_lk_mem h)).2.1, en_inW (h1 _ (en_lk_mem h)).2.2.1 (h1 _ (en_lk_mem h)).2.2.2, fun _ z => by cases z⟩, fun idx ci N h => h2 _ (en_lk_mem h), fun idx t h => h3 _ (en_lk_mem h), fun idx v h => en_inW (h4 _ (en_lk_mem h)).1 (h4 _ (en_lk_mem h)).2⟩
theorem xc_IO : Jvm.Cond.classLink RX6 68 en_IO ∈ en_W := en_inW (List.mem_of_getElem? (i := 505) (by decide +kernel)) (by decide +kernel)
theorem xi_IO : Jvm.Cond.initialized en_IO ∈ en_W := en_inW (List.mem_of_getElem? (i := 50) (by decide +kernel)) (by decide +kernel)
theorem xa_IO : ∀ w ∈ (xs_at RX6 72 en_IO 7 Bundle.six en_nm).filter goodWord, w ∈ lw_tbl := by decide +kernel
theorem xb_IO : ∀ w ∈ (xs_at RX6 72 en_IO 7 Bundle.six en_nm).filter goodWord, w ∈ en_W := fun w hw => List.mem_filter.mpr ⟨xa_IO w hw, (List.mem_filter.mp hw).2⟩
theorem xd_IO : ∀ w ∈ (xs_at RX6 72 en_IO 7 Bundle.six en_nm).filter (fun w => !goodWord w), w ∈ en_nw := by decide +kernel
theorem xe_IO : ∀ w ∈ xs_at RX6 72 en_IO 7 Bundle.six en_nm, vx_ot w = true := by decide +kernel
theorem xc_IA : Jvm.Cond.classLink RX6 83 en_IA ∈ en_W := en_inW (List.mem_of_getElem? (i := 573) (by decide +kernel)) (by decide +kernel)
theorem xi_IA : Jvm.Cond.initialized en_IA ∈ en_W := en_inW (List.mem_of_getElem? (i := 51) (by decide +kernel)) (by decide +kernel)
theorem xa_IA : ∀ w ∈ (xs_at RX6 87 en_IA 7 Bundle.six en_nm).filter goodWord, w ∈ lw_tbl := by decide +kernel
theorem xb_IA : ∀ w ∈ (xs_at RX6 87 en_IA 7 Bundle.six en_nm).filter goodWord, w ∈ en_W := fun w hw => List.mem_filter.mpr ⟨xa_IA w hw, (List.mem_filter.mp hw).2⟩
theorem xd_IA : ∀ w ∈ (xs_at RX6 87 en_IA 7 Bundle.six en_nm).filter (fun w => !goodWord w), w ∈ en_nw := by decide +kernel
theorem xe_IA : ∀ w ∈ xs_at RX6 87 en_IA 7 Bundle.six en_nm, vx_ot w = true := by decide +kernel
theorem xc_NS : Jvm.Cond.classLink RX6 91 en_NS ∈ en_W := en_inW (List.mem_of_getElem? (i := 589) (by decide +kernel)) (by decide +kernel)
theorem xi_NS : Jvm.Cond.initialized en_NS ∈ en_W := en_inW (List.mem_of_getElem? (i := 52) (by decide +kernel)) (by decide +kernel)
theorem xa_NS : ∀ w ∈ (xs_at RX6 95 en_NS 13 xs_13 en_nm).filter goodWord, w ∈ lw_tbl := by decide +kernel
theorem xb_NS : ∀ w ∈ (xs_at RX6 95 en_NS 13 xs_13 en_nm).filter goodWord, w ∈ en_W := fun w hw => List.mem_filter.mpr ⟨xa_NS w hw, (List.mem_filter.mp hw).2⟩
theorem xd_NS : ∀ w ∈ (xs_at RX6 95 en_NS 13 xs_13 en_nm).filter (fun w => !goodWord w), w ∈ en_nw := by decide +kernel
theorem xe_NS : ∀ w ∈ xs_at RX6 95 en_NS 13 xs_13 en_nm, vx_ot w = true := by decide +kernel
theorem px_room {G : en_G} {x rm : Nat} {na la ba : Nat → Nat} {S : pb_S} {σ : en_S} (h : PX G x na la ba (rm + 64) S σ) : en_nx σ + 1 ≤ G.2.2.2.2.1 ∧ en_ns σ + 6 ≤ G.2.2.2.2.2 := by
  have := h.1.2.2.2.2.2.2.2.2.2
  unfold cd_room at this
  omega
def P_X6_insert (G : en_G) (g : (Nat) × (Nat) × (pb_S) × (Int32) × (Int32) × (Int32)) (as : List en_V) (σ : en_S) : Prop := (PZ G (g.1) ((g.2.1) + 64) (g.2.2.1) σ) ∧ as = [en_R (some (g.1)), en_I (g.2.2.2.1), en_I (g.2.2.2.2.1), en_I (g.2.2.2.2.2)]
def C_X6_insert (G : en_G) : en_C := en_gh (P_X6_insert G) (fun g as σ v σ' => PZ G (g.1) (g.2.1) (op_insert (g.2.2.1) (g.2.2.2.1) (g.2.2.2.2.1) (g.2.2.2.2.2)).1 σ' ∧ ag σ σ' pF (pV (g.1)) ∧ (op_insert (g.2.2.1) (g.2.2.2.1) (g.2.2.2.2.1) (g.2.2.2.2.2)).2 = 0 ∧ v = none)
def XP_X6_insert (G : en_G) : en_XP := en_ghx (P_X6_insert G) (fun g as σ E σ' => PZ G (g.1) (g.2.1) (op_insert (g.2.2.1) (g.2.2.2.1) (g.2.2.2.2.1) (g.2.2.2.2.2)).1 σ' ∧ ag σ σ' pF (pV (g.1)) ∧ (((op_insert (g.2.2.1) (g.2.2.2.1) (g.2.2.2.2.1) (g.2.2.2.2.2)).2 = 1 ∧ E = en_IO) ∨ ((op_insert (g.2.2.1) (g.2.2.2.1) (g.2.2.2.2.1) (g.2.2.2.2.2)).2 = 2 ∧ E = en_IA) ∨ ((op_insert (g.2.2.1) (g.2.2.2.1) (g.2.2.2.2.1) (g.2.2.2.2.2)).2 = 3 ∧ E = en_NS)))
theorem pr_X6_insert {G : en_G} : ∀ as σ, (C_X6_insert G).1 as σ → ∃ b tl, as = en_R (some b) :: tl ∧ en_cl σ b = some 6 ∧ tl.length = 3 := fun as σ ⟨g, hp, h2⟩ => ⟨_, _, h2, hp.cl, rfl⟩
def ca_X6_insert (G : en_G) : List (Nat × Nat × en_C) := [(57, 9, (C_X6_nodeAt G)), (75, 5, C_X4_isElement), (79, 9, C_X4_isAtOrOver), (96, 13, C_X4_settle)]
def xt_X6_insert : List (Nat × String) := [(41, en_IO), (76, en_IA), (101, en_NS)]
def X_X6_insert (G : en_G) (qx : String → en_S → Prop) (q : Option en_V → en_S → Prop) : en_X := en_mkX G cX6_insert (en_lk fl6) (en_lk nw6) (en_lk aw6) (en_lk dc6) (en_lk (ca_X6_insert G)) (en_lk xt_X6_insert) 0 false q qx
theorem d_X6_insert_0 : decode cX6_insert 0 = .ok (.aload_n 0, 1) := by decide +kernel
theorem j_X6_insert_0 {G : en_G} {q : Option en_V → en_S → Prop} {qx : String → en_S → Prop} {l1 l2 l3 l4 l5 l6 : en_V} {x0 : Option Nat} {σ : en_S} : en_J (X_X6_insert G qx q) 0 [en_R x0, l1, l2, l3, l4, l5, l6] [] σ ↔ en_J (X_X6_insert G qx q) 1 [en_R x0, l1, l2, l3, l4, l5, l6] [en_R x0] σ := en_j1 d_X6_insert_0 rfl rfl
theorem d_X6_insert_1 : decode cX6_insert 1 = .ok (.iload_n 1, 1) := by decide +kernel
theorem j_X6_insert_1 {G : en_G} {q : Option en_V → en_S → Prop} {qx : String → en_S → Prop} {l0 l2 l3 l4 l5 l6 : en_V} {a0 : Option Nat} {x1 : Int32} {σ : en_S} : en_J (X_X6_insert G qx q) 1 [l0, en_I x1, l2, l3, l4, l5, l6] [en_R a0] σ ↔ en_J (X_X6_insert G qx q) 2 [l0, en_I x1, l2, l3, l4, l5, l6] [en_I x1, en_R a0] σ := en_j1 d_X6_insert_1 rfl rfl
theorem d_X6_insert_2 : decode cX6_insert 2 = .ok (.invokevirtual 57, 3) := by decide +kernel
theorem j_X6_insert_2 {G : en_G} {q : Option en_V → en_S → Prop} {qx : String → en_S → Prop} {l0 l1 l2 l3 l4 l5 l6 : en_V} {a0 : Int32} {a1 : Option Nat} {σ : en_S} : en_J (X_X6_insert G qx q) 2 [l0, l1, l2, l3, l4, l5, l6] [en_I a0, en_R a1] σ ↔ (C_X6_nodeAt G).1 [en_R a1, en_I a0] σ ∧ ∀ (r : Option en_V) (σ' : en_S), (C_X6_nodeAt G).2 [en_R a1, en_I a0] σ r σ' → en_J (X_X6_insert G qx q) 5 [l0, l1, l2, l3, l4, l5, l6] (r.toList ++ []) σ' := en_jkC (C := (C_X6_nodeAt G)) (n' := 2) (k := 1) (idx := 57) d_X6_insert_2 rfl rfl (by decide) (Nat.le_of_ble_eq_true rfl) (Nat.le_of_ble_eq_true rfl)
theorem d_X6_insert_5 : decode cX6_insert 5 = .ok (.astore 4, 2) := by decide +kernel
theorem j_X6_insert_5 {G : en_G} {q : Option en_V → en_S → Prop} {qx : String → en_S → Prop} {l0 l1 l2 l3 l4 l5 l6 : en_V} {a0 : Option Nat} {σ : en_S} : en_J (X_X6_insert G qx q) 5 [l0, l1, l2, l3, l4, l5, l6] [en_R a0] σ ↔ en_J (X_X6_insert G qx q) 7 [l0, l1, l2, en_c2 l3, en_R a0, l5, l6] [] σ := en_j1 d_X6_insert_5 rfl ⟨rfl, Nat.le_of_ble_eq_true rfl⟩
theorem d_X6_insert_7 : decode cX6_insert 7 = .ok (.aload_n 0, 1) := by decide +kernel
theorem j_X6_insert_7 {G : en_G} {q : Option en_V → en_S → Prop} {qx : String → en_S → Prop} {l1 l2 l3 l4 l5 l6 : en_V} {x0 : Option Nat} {σ : en_S} : en_J (X_X6_insert G qx q) 7 [en_R x0, l1, l2, l3, l4, l5, l6] [] σ ↔ en_J (X_X6_insert G qx q) 8 [en_R x0, l1, l2, l3, l4, l5, l6] [en_R x0] σ := en_j1 d_X6_insert_7 rfl rfl
theorem d_X6_insert_8 : decode cX6_insert 8 = .ok (.iload_n 2, 1) := by decide +kernel
theorem j_X6_insert_8 {G : en_G} {q : Option en_V → en_S → Prop} {qx : String → en_S → Prop} {l0 l1 l3 l4 l5 l6 : en_V} {a0 : Option Nat} {x2 : Int32} {σ : en_S} : en_J (X_X6_insert G qx q) 8 [l0, l1, en_I x2, l3, l4, l5, l6] [en_R a0] σ ↔ en_J (X_X6_insert G qx q) 9 [l0, l1, en_I x2, l3, l4, l5, l6] [en_I x2, en_R a0] σ := en_j1 d_X6_insert_8 rfl rfl
theorem d_X6_insert_9 : decode cX6_insert 9 = .ok (.invokevirtual 57, 3) := by decide +kernel
theorem j_X6_insert_9 {G : en_G} {q : Option en_V → en_S → Prop} {qx : String → en_S → Prop} {l0 l1 l2 l3 l4 l5 l6 : en_V} {a0 : Int32} {a1 : Option Nat} {σ : en_S} : en_J (X_X6_insert G qx q) 9 [l0, l1, l2, l3, l4, l5, l6] [en_I a0, en_R a1] σ ↔ (C_X6_nodeAt G).1 [en_R a1, en_I a0] σ ∧ ∀ (r : Option en_V) (σ' : en_S), (C_X6_nodeAt G).2 [en_R a1, en_I a0] σ r σ' → en_J (X_X6_insert G qx q) 12 [l0, l1, l2, l3, l4, l5, l6] (r.toList ++ []) σ' := en_jkC (C := (C_X6_nodeAt G)) (n' := 2) (k := 1) (idx := 57) d_X6_insert_9 rfl rfl (by decide) (Nat.le_of_ble_eq_true rfl) (Nat.le_of_ble_eq_true rfl)
theorem d_X6_insert_12 : decode cX6_insert 12 = .ok (.astore 5, 2) := by decide +kernel
theorem j_X6_insert_12 {G : en_G} {q : Option en_V → en_S → Prop} {qx : String → en_S → Prop} {l0 l1 l2 l3 l4 l5 l6 : en_V} {a0 : Option Nat} {σ : en_S} : en_J (X_X6_insert G qx q) 12 [l0, l1, l2, l3, l4, l5, l6] [en_R a0] σ ↔ en_J (X_X6_insert G qx q) 14 [l0, l1, l2, l3, en_c2 l4, en_R a0, l6] [] σ := en_j1 d_X6_insert_12 rfl ⟨rfl, Nat.le_of_ble_eq_true rfl⟩
theorem d_X6_insert_14 : decode cX6_insert 14 = .ok (.aload_n 0, 1) := by decide +kernel
theorem j_X6_insert_14 {G : en_G} {q : Option en_V → en_S → Prop} {qx : String → en_S → Prop} {l1 l2 l3 l4 l5 l6 : en_V} {x0 : Option Nat} {σ : en_S} : en_J (X_X6_insert G qx q) 14 [en_R x0, l1, l2, l3, l4, l5, l6] [] σ ↔ en_J (X_X6_insert G qx q) 15 [en_R x0, l1, l2, l3, l4, l5, l6] [en_R x0] σ := en_j1 d_X6_insert_14 rfl rfl
theorem d_X6_insert_15 : decode cX6_insert 15 = .ok (.iload_n 3, 1) := by decide +kernel
theorem j_X6_insert_15 {G : en_G} {q : Option en_V → en_S → Prop} {qx : String → en_S → Prop} {l0 l1 l2 l4 l5 l6 : en_V} {a0 : Option Nat} {x3 : Int32} {σ : en_S} : en_J (X_X6_insert G qx q) 15 [l0, l1, l2, en_I x3, l4, l5, l6] [en_R a0] σ ↔ en_J (X_X6_insert G qx q) 16 [l0, l1, l2, en_I x3, l4, l5, l6] [en_I x3, en_R a0] σ := en_j1 d_X6_insert_15 rfl rfl
theorem d_X6_insert_16 : decode cX6_insert 16 = .ok (.invokevirtual 57, 3) := by decide +kernel
theorem j_X6_insert_16 {G : en_G} {q : Option en_V → en_S → Prop} {qx : String → en_S → Prop} {l0 l1 l2 l3 l4 l5 l6 : en_V} {a0 : Int32} {a1 : Option Nat} {σ : en_S} : en_J (X_X6_insert G qx q) 16 [l0, l1, l2, l3, l4, l5, l6] [en_I a0, en_R a1] σ ↔ (C_X6_nodeAt G).1 [en_R a1, en_I a0] σ ∧ ∀ (r : Option en_V) (σ' : en_S), (C_X6_nodeAt G).2 [en_R a1, en_I a0] σ r σ' → en_J (X_X6_insert G qx q) 19 [l0, l1, l2, l3, l4, l5, l6] (r.toList ++ []) σ' := en_jkC (C := (C_X6_nodeAt G)) (n' := 2) (k := 1) (idx := 57) d_X6_insert_16 rfl rfl (by decide) (Nat.le_of_ble_eq_true rfl) (Nat.le_of_ble_eq_true rfl)
theorem d_X6_insert_19 : decode cX6_insert 19 = .ok (.astore 6, 2) := by decide +kernel
theorem j_X6_insert_19 {G : en_G} {q : Option en_V → en_S → Prop} {qx : String → en_S → Prop} {l0 l1 l2 l3 l4 l5 l6 : en_V} {a0 : Option Nat} {σ : en_S} : en_J (X_X6_insert G qx q) 19 [l0, l1, l2, l3, l4, l5, l6] [en_R a0] σ ↔ en_J (X_X6_insert G qx q) 21 [l0, l1, l2, l3, l4, en_c2 l5, en_R a0] [] σ := en_j1 d_X6_insert_19 rfl ⟨rfl, Nat.le_of_ble_eq_true rfl⟩
theorem d_X6_insert_21 : decode cX6_insert 21 = .ok (.aload 4, 2) := by decide +kernel
theorem j_X6_insert_21 {G : en_G} {q : Option en_V → en_S → Prop} {qx : String → en_S → Prop} {l0 l1 l2 l3 l5 l6 : en_V} {x4 : Option Nat} {σ : en_S} : en_J (X_X6_insert G qx q) 21 [l0, l1, l2, l3, en_R x4, l5, l6] [] σ ↔ en_J (X_X6_insert G qx q) 23 [l0, l1, l2, l3, en_R x4, l5, l6] [en_R x4] σ := en_j1 d_X6_insert_21 rfl rfl
theorem d_X6_insert_23 : decode cX6_insert 23 = .ok (.ifnull 18, 3) := by decide +kernel
theorem j_X6_insert_23 {G : en_G} {q : Option en_V → en_S → Prop} {qx : String → en_S → Prop} {l0 l1 l2 l3 l4 l5 l6 : en_V} {a0 : Option Nat} {σ : en_S} : en_J (X_X6_insert G qx q) 23 [l0, l1, l2, l3, l4, l5, l6] [en_R a0] σ ↔ (a0 = none → en_J (X_X6_insert G qx q) 41 [l0, l1, l2, l3, l4, l5, l6] [] σ) ∧ (¬ (a0 = none) → en_J (X_X6_insert G qx q) 26 [l0, l1, l2, l3, l4, l5, l6] [] σ) := en_jb d_X6_insert_23 rfl ⟨rfl, by decide⟩
theorem d_X6_insert_26 : decode cX6_insert 26 = .ok (.aload 5, 2) := by decide +kernel
theorem j_X6_insert_26 {G : en_G} {q : Option en_V → en_S → Prop} {qx : String → en_S → Prop} {l0 l1 l2 l3 l4 l6 : en_V} {x5 : Option Nat} {σ : en_S} : en_J (X_X6_insert G qx q) 26 [l0, l1, l2, l3, l4, en_R x5, l6] [] σ ↔ en_J (X_X6_insert G qx q) 28 [l0, l1, l2, l3, l4, en_R x5, l6] [en_R x5] σ := en_j1 d_X6_insert_26 rfl rfl
theorem d_X6_insert_28 : decode cX6_insert 28 = .ok (.ifnull 13, 3) := by decide +kernel
theorem j_X6_insert_28 {G : en_G} {q : Option en_V → en_S → Prop} {qx : String → en_S → Prop} {l0 l1 l2 l3 l4 l5 l6 : en_V} {a0 : Option Nat} {σ : en_S} : en_J (X_X6_insert G qx q) 28 [l0, l1, l2, l3, l4, l5, l6] [en_R a0] σ ↔ (a0 = none → en_J (X_X6_insert G qx q) 41 [l0, l1, l2, l3, l4, l5, l6] [] σ) ∧ (¬ (a0 = none) → en_J (X_X6_insert G qx q) 31 [l0, l1, l2, l3, l4, l5, l6] [] σ) := en_jb d_X6_insert_28 rfl ⟨rfl, by decide⟩
theorem d_X6_insert_31 : decode cX6_insert 31 = .ok (.aload 6, 2) := by decide +kernel
theorem j_X6_insert_31 {G : en_G} {q : Option en_V → en_S → Prop} {qx : String → en_S → Prop} {l0 l1 l2 l3 l4 l5 : en_V} {x6 : Option Nat} {σ : en_S} : en_J (X_X6_insert G qx q) 31 [l0, l1, l2, l3, l4, l5, en_R x6] [] σ ↔ en_J (X_X6_insert G qx q) 33 [l0, l1, l2, l3, l4, l5, en_R x6] [en_R x6] σ := en_j1 d_X6_insert_31 rfl rfl
theorem d_X6_insert_33 : decode cX6_insert 33 = .ok (.ifnonnull 18, 3) := by decide +kernel
theorem j_X6_insert_33 {G : en_G} {q : Option en_V → en_S → Prop} {qx : String → en_S → Prop} {l0 l1 l2 l3 l4 l5 l6 : en_V} {a0 : Option Nat} {σ : en_S} : en_J (X_X6_insert G qx q) 33 [l0, l1, l2, l3, l4, l5, l6] [en_R a0] σ ↔ (¬ a0 = none → en_J (X_X6_insert G qx q) 51 [l0, l1, l2, l3, l4, l5, l6] [] σ) ∧ (¬ (¬ a0 = none) → en_J (X_X6_insert G qx q) 36 [l0, l1, l2, l3, l4, l5, l6] [] σ) := en_jb d_X6_insert_33 rfl ⟨rfl, by decide⟩
theorem d_X6_insert_36 : decode cX6_insert 36 = .ok (.iload_n 3, 1) := by decide +kernel
theorem j_X6_insert_36 {G : en_G} {q : Option en_V → en_S → Prop} {qx : String → en_S → Prop} {l0 l1 l2 l4 l5 l6 : en_V} {x3 : Int32} {σ : en_S} : en_J (X_X6_insert G qx q) 36 [l0, l1, l2, en_I x3, l4, l5, l6] [] σ ↔ en_J (X_X6_insert G qx q) 37 [l0, l1, l2, en_I x3, l4, l5, l6] [en_I x3] σ := en_j1 d_X6_insert_36 rfl rfl
theorem d_X6_insert_37 : decode cX6_insert 37 = .ok (.iconst (-1), 1) := by decide +kernel
theorem j_X6_insert_37 {G : en_G} {q : Option en_V → en_S → Prop} {qx : String → en_S → Prop} {l0 l1 l2 l3 l4 l5 l6 : en_V} {a0 : Int32} {σ : en_S} : en_J (X_X6_insert G qx q) 37 [l0, l1, l2, l3, l4, l5, l6] [en_I a0] σ ↔ en_J (X_X6_insert G qx q) 38 [l0, l1, l2, l3, l4, l5, l6] [en_I (-1), en_I a0] σ := ej_iconst d_X6_insert_37 (by decide +kernel)
theorem d_X6_insert_38 : decode cX6_insert 38 = .ok (.if_icmp .eq 13, 3) := by decide +kernel
theorem j_X6_insert_38 {G : en_G} {q : Option en_V → en_S → Prop} {qx : String → en_S → Prop} {l0 l1 l2 l3 l4 l5 l6 : en_V} {a0 : Int32} {a1 : Int32} {σ : en_S} : en_J (X_X6_insert G qx q) 38 [l0, l1, l2, l3, l4, l5, l6] [en_I a0, en_I a1] σ ↔ (a1 = a0 → en_J (X_X6_insert G qx q) 51 [l0, l1, l2, l3, l4, l5, l6] [] σ) ∧ (¬ (a1 = a0) → en_J (X_X6_insert G qx q) 41 [l0, l1, l2, l3, l4, l5, l6] [] σ) := en_jb d_X6_insert_38 rfl ⟨rfl, by decide⟩
theorem d_X6_insert_41 : decode cX6_insert 41 = .ok (.new 68, 3) := by decide +kernel
theorem d_X6_insert_44 : decode cX6_insert 44 = .ok (.dup, 1) := by decide +kernel
theorem j_X6_insert_44 {G : en_G} {q : Option en_V → en_S → Prop} {qx : String → en_S → Prop} {l0 l1 l2 l3 l4 l5 l6 : en_V} {a0 : Option Nat} {σ : en_S} : en_J (X_X6_insert G qx q) 44 [l0, l1, l2, l3, l4, l5, l6] [en_R a0] σ ↔ en_J (X_X6_insert G qx q) 45 [l0, l1, l2, l3, l4, l5, l6] [en_R a0, en_R a0] σ := en_j1 d_X6_insert_44 rfl rfl
theorem d_X6_insert_45 : decode cX6_insert 45 = .ok (.ldc 70, 2) := by decide +kernel
theorem d_X6_insert_47 : decode cX6_insert 47 = .ok (.invokespecial 72, 3) := by decide +kernel
theorem d_X6_insert_50 : decode cX6_insert 50 = .ok (.athrow, 1) := by decide +kernel
theorem d_X6_insert_51 : decode cX6_insert 51 = .ok (.aload 5, 2) := by decide +kernel
theorem j_X6_insert_51 {G : en_G} {q : Option en_V → en_S → Prop} {qx : String → en_S → Prop} {l0 l1 l2 l3 l4 l6 : en_V} {x5 : Option Nat} {σ : en_S} : en_J (X_X6_insert G qx q) 51 [l0, l1, l2, l3, l4, en_R x5, l6] [] σ ↔ en_J (X_X6_insert G qx q) 53 [l0, l1, l2, l3, l4, en_R x5, l6] [en_R x5] σ := en_j1 d_X6_insert_51 rfl rfl
theorem d_X6_insert_53 : decode cX6_insert 53 = .ok (.invokevirtual 75, 3) := by decide +kernel
theorem j_X6_insert_53 {G : en_G} {q : Option en_V → en_S → Prop} {qx : String → en_S → Prop} {l0 l1 l2 l3 l4 l5 l6 : en_V} {a0 : Option Nat} {σ : en_S} : en_J (X_X6_insert G qx q) 53 [l0, l1, l2, l3, l4, l5, l6] [en_R a0] σ ↔ C_X4_isElement.1 [en_R a0] σ ∧ ∀ (r : Option en_V) (σ' : en_S), C_X4_isElement.2 [en_R a0] σ r σ' → en_J (X_X6_insert G qx q) 56 [l0, l1, l2, l3, l4, l5, l6] (r.toList ++ []) σ' := en_jk d_X6_insert_53 rfl ⟨fun h => h.2.2.2.2, fun h => ⟨rfl, rfl, Nat.le_of_ble_eq_true rfl, Nat.le_of_ble_eq_true rfl, h⟩⟩
theorem d_X6_insert_56 : decode cX6_insert 56 = .ok (.ifCond .eq 20, 3) := by decide +kernel
theorem j_X6_insert_56 {G : en_G} {q : Option en_V → en_S → Prop} {qx : String → en_S → Prop} {l0 l1 l2 l3 l4 l5 l6 : en_V} {a0 : Int32} {σ : en_S} : en_J (X_X6_insert G qx q) 56 [l0, l1, l2, l3, l4, l5, l6] [en_I a0] σ ↔ (a0 = 0 → en_J (X_X6_insert G qx q) 76 [l0, l1, l2, l3, l4, l5, l6] [] σ) ∧ (¬ (a0 = 0) → en_J (X_X6_insert G qx q) 59 [l0, l1, l2, l3, l4, l5, l6] [] σ) := en_jb d_X6_insert_56 rfl ⟨rfl, by decide⟩
theorem d_X6_insert_59 : decode cX6_insert 59 = .ok (.aload 5, 2) := by decide +kernel
theorem j_X6_insert_59 {G : en_G} {q : Option en_V → en_S → Prop} {qx : String → en_S → Prop} {l0 l1 l2 l3 l4 l6 : en_V} {x5 : Option Nat} {σ : en_S} : en_J (X_X6_insert G qx q) 59 [l0, l1, l2, l3, l4, en_R x5, l6] [] σ ↔ en_J (X_X6_insert G qx q) 61 [l0, l1, l2, l3, l4, en_R x5, l6] [en_R x5] σ := en_j1 d_X6_insert_59 rfl rfl
theorem d_X6_insert_61 : decode cX6_insert 61 = .ok (.aload 4, 2) := by decide +kernel
theorem j_X6_insert_61 {G : en_G} {q : Option en_V → en_S → Prop} {qx : String → en_S → Prop} {l0 l1 l2 l3 l5 l6 : en_V} {a0 : Option Nat} {x4 : Option Nat} {σ : en_S} : en_J (X_X6_insert G qx q) 61 [l0, l1, l2, l3, en_R x4, l5, l6] [en_R a0] σ ↔ en_J (X_X6_insert G qx q) 63 [l0, l1, l2, l3, en_R x4, l5, l6] [en_R x4, en_R a0] σ := en_j1 d_X6_insert_61 rfl rfl
theorem d_X6_insert_63 : decode cX6_insert 63 = .ok (.invokevirtual 79, 3) := by decide +kernel
theorem j_X6_insert_63 {G : en_G} {q : Option en_V → en_S → Prop} {qx : String → en_S → Prop} {l0 l1 l2 l3 l4 l5 l6 : en_V} {a0 : Option Nat} {a1 : Option Nat} {σ : en_S} : en_J (X_X6_insert G qx q) 63 [l0, l1, l2, l3, l4, l5, l6] [en_R a0, en_R a1] σ ↔ C_X4_isAtOrOver.1 [en_R a1, en_R a0] σ ∧ ∀ (r : Option en_V) (σ' : en_S), C_X4_isAtOrOver.2 [en_R a1, en_R a0] σ r σ' → en_J (X_X6_insert G qx q) 66 [l0, l1, l2, l3, l4, l5, l6] (r.toList ++ []) σ' := en_jk d_X6_insert_63 rfl ⟨fun h => h.2.2.2.2, fun h => ⟨rfl, rfl, Nat.le_of_ble_eq_true rfl, Nat.le_of_ble_eq_true rfl, h⟩⟩
theorem d_X6_insert_66 : decode cX6_insert 66 = .ok (.ifCond .ne 10, 3) := by decide +kernel
theorem j_X6_insert_66 {G : en_G} {q : Option en_V → en_S → Prop} {qx : String → en_S → Prop} {l0 l1 l2 l3 l4 l5 l6 : en_V} {a0 : Int32} {σ : en_S} : en_J (X_X6_insert G qx q) 66 [l0, l1, l2, l3, l4, l5, l6] [en_I a0] σ ↔ (¬ a0 = 0 → en_J (X_X6_insert G qx q) 76 [l0, l1, l2, l3, l4, l5, l6] [] σ) ∧ (¬ (¬ a0 = 0) → en_J (X_X6_insert G qx q) 69 [l0, l1, l2, l3, l4, l5, l6] [] σ) := en_jb d_X6_insert_66 rfl ⟨rfl, by decide⟩
theorem d_X6_insert_69 : decode cX6_insert 69 = .ok (.aload 6, 2) := by decide +kernel
theorem j_X6_insert_69 {G : en_G} {q : Option en_V → en_S → Prop} {qx : String → en_S → Prop} {l0 l1 l2 l3 l4 l5 : en_V} {x6 : Option Nat} {σ : en_S} : en_J (X_X6_insert G qx q) 69 [l0, l1, l2, l3, l4, l5, en_R x6] [] σ ↔ en_J (X_X6_insert G qx q) 71 [l0, l1, l2, l3, l4, l5, en_R x6] [en_R x6] σ := en_j1 d_X6_insert_69 rfl rfl
theorem d_X6_insert_71 : decode cX6_insert 71 = .ok (.aload 5, 2) := by decide +kernel
theorem j_X6_insert_71 {G : en_G} {q : Option en_V → en_S → Prop} {qx : String → en_S → Prop} {l0 l1 l2 l3 l4 l6 : en_V} {a0 : Option Nat} {x5 : Option Nat} {σ : en_S} : en_J (X_X6_insert G qx q) 71 [l0, l1, l2, l3, l4, en_R x5, l6] [en_R a0] σ ↔ en_J (X_X6_insert G qx q) 73 [l0, l1, l2, l3, l4, en_R x5, l6] [en_R x5, en_R a0] σ := en_j1 d_X6_insert_71 rfl rfl
theorem d_X6_insert_73 : decode cX6_insert 73 = .ok (.if_acmp .ne 13, 3) := by decide +kernel
theorem j_X6_insert_73 {G : en_G} {q : Option en_V → en_S → Prop} {qx : String → en_S → Prop} {l0 l1 l2 l3 l4 l5 l6 : en_V} {a0 : Option Nat} {a1 : Option Nat} {σ : en_S} : en_J (X_X6_insert G qx q) 73 [l0, l1, l2, l3, l4, l5, l6] [en_R a0, en_R a1] σ ↔ (¬ a1 = a0 → en_J (X_X6_insert G qx q) 86 [l0, l1, l2, l3, l4, l5, l6] [] σ) ∧ (¬ (¬ a1 = a0) → en_J (X_X6_insert G qx q) 76 [l0, l1, l2, l3, l4, l5, l6] [] σ) := en_jb d_X6_insert_73 rfl ⟨rfl, by decide⟩
theorem d_X6_insert_76 : decode cX6_insert 76 = .ok (.new 83, 3) := by decide +kernel
theorem d_X6_insert_79 : decode cX6_insert 79 = .ok (.dup, 1) := by decide +kernel
theorem j_X6_insert_79 {G : en_G} {q : Option en_V → en_S → Prop} {qx : String → en_S → Prop} {l0 l1 l2 l3 l4 l5 l6 : en_V} {a0 : Option Nat} {σ : en_S} : en_J (X_X6_insert G qx q) 79 [l0, l1, l2, l3, l4, l5, l6] [en_R a0] σ ↔ en_J (X_X6_insert G qx q) 80 [l0, l1, l2, l3, l4, l5, l6] [en_R a0, en_R a0] σ := en_j1 d_X6_insert_79 rfl rfl
theorem d_X6_insert_80 : decode cX6_insert 80 = .ok (.ldc 85, 2) := by decide +kernel
theorem d_X6_insert_82 : decode cX6_insert 82 = .ok (.invokespecial 87, 3) := by decide +kernel
theorem d_X6_insert_85 : decode cX6_insert 85 = .ok (.athrow, 1) := by decide +kernel
theorem d_X6_insert_86 : decode cX6_insert 86 = .ok (.aload 6, 2) := by decide +kernel
theorem j_X6_insert_86 {G : en_G} {q : Option en_V → en_S → Prop} {qx : String → en_S → Prop} {l0 l1 l2 l3 l4 l5 : en_V} {x6 : Option Nat} {σ : en_S} : en_J (X_X6_insert G qx q) 86 [l0, l1, l2, l3, l4, l5, en_R x6] [] σ ↔ en_J (X_X6_insert G qx q) 88 [l0, l1, l2, l3, l4, l5, en_R x6] [en_R x6] σ := en_j1 d_X6_insert_86 rfl rfl
theorem d_X6_insert_88 : decode cX6_insert 88 = .ok (.ifnull 23, 3) := by decide +kernel
theorem j_X6_insert_88 {G : en_G} {q : Option en_V → en_S → Prop} {qx : String → en_S → Prop} {l0 l1 l2 l3 l4 l5 l6 : en_V} {a0 : Option Nat} {σ : en_S} : en_J (X_X6_insert G qx q) 88 [l0, l1, l2, l3, l4, l5, l6] [en_R a0] σ ↔ (a0 = none → en_J (X_X6_insert G qx q) 111 [l0, l1, l2, l3, l4, l5, l6] [] σ) ∧ (¬ (a0 = none) → en_J (X_X6_insert G qx q) 91 [l0, l1, l2, l3, l4, l5, l6] [] σ) := en_jb d_X6_insert_88 rfl ⟨rfl, by decide⟩
theorem d_X6_insert_91 : decode cX6_insert 91 = .ok (.aload 6, 2) := by decide +kernel
theorem j_X6_insert_91 {G : en_G} {q : Option en_V → en_S → Prop} {qx : String → en_S → Prop} {l0 l1 l2 l3 l4 l5 : en_V} {x6 : Option Nat} {σ : en_S} : en_J (X_X6_insert G qx q) 91 [l0, l1, l2, l3, l4, l5, en_R x6] [] σ ↔ en_J (X_X6_insert G qx q) 93 [l0, l1, l2, l3, l4, l5, en_R x6] [en_R x6] σ := en_j1 d_X6_insert_91 rfl rfl
theorem d_X6_insert_93 : decode cX6_insert 93 = .ok (.getfield 88, 3) := by decide +kernel
theorem j_X6_insert_93 {G : en_G} {q : Option en_V → en_S → Prop} {qx : String → en_S → Prop} {l0 l1 l2 l3 l4 l5 l6 : en_V} {a0 : Option Nat} {σ : en_S} : en_J (X_X6_insert G qx q) 93 [l0, l1, l2, l3, l4, l5, l6] [en_R a0] σ ↔ ∃ a, a0 = some a ∧ en_cl σ a = some 4 ∧ en_J (X_X6_insert G qx q) 96 [l0, l1, l2, l3, l4, l5, l6] [en_R (en_fr σ 404 a)] σ := en_jg (st := fun o => [en_R o]) (st' := fun a => [en_R (en_fr σ 404 a)]) (σ' := fun _ => σ) d_X6_insert_93 rfl (fun a => rfl) (fun a => ⟨fun h => h.2, fun h => ⟨rfl, h⟩⟩)
theorem d_X6_insert_96 : decode cX6_insert 96 = .ok (.aload 4, 2) := by decide +kernel
theorem j_X6_insert_96 {G : en_G} {q : Option en_V → en_S → Prop} {qx : String → en_S → Prop} {l0 l1 l2 l3 l5 l6 : en_V} {a0 : Option Nat} {x4 : Option Nat} {σ : en_S} : en_J (X_X6_insert G qx q) 96 [l0, l1, l2, l3, en_R x4, l5, l6] [en_R a0] σ ↔ en_J (X_X6_insert G qx q) 98 [l0, l1, l2, l3, en_R x4, l5, l6] [en_R x4, en_R a0] σ := en_j1 d_X6_insert_96 rfl rfl
theorem d_X6_insert_98 : decode cX6_insert 98 = .ok (.if_acmp .eq 13, 3) := by decide +kernel
theorem j_X6_insert_98 {G : en_G} {q : Option en_V → en_S → Prop} {qx : String → en_S → Prop} {l0 l1 l2 l3 l4 l5 l6 : en_V} {a0 : Option Nat} {a1 : Option Nat} {σ : en_S} : en_J (X_X6_insert G qx q) 98 [l0, l1, l2, l3, l4, l5, l6] [en_R a0, en_R a1] σ ↔ (a1 = a0 → en_J (X_X6_insert G qx q) 111 [l0, l1, l2, l3, l4, l5, l6] [] σ) ∧ (¬ (a1 = a0) → en_J (X_X6_insert G qx q) 101 [l0, l1, l2, l3, l4, l5, l6] [] σ) := en_jb d_X6_insert_98 rfl ⟨rfl, by decide⟩
theorem d_X6_insert_101 : decode cX6_insert 101 = .ok (.new 91, 3) := by decide +kernel
theorem d_X6_insert_104 : decode cX6_insert 104 = .ok (.dup, 1) := by decide +kernel
theorem j_X6_insert_104 {G : en_G} {q : Option en_V → en_S → Prop} {qx : String → en_S → Prop} {l0 l1 l2 l3 l4 l5 l6 : en_V} {a0 : Option Nat} {σ : en_S} : en_J (X_X6_insert G qx q) 104 [l0, l1, l2, l3, l4, l5, l6] [en_R a0] σ ↔ en_J (X_X6_insert G qx q) 105 [l0, l1, l2, l3, l4, l5, l6] [en_R a0, en_R a0] σ := en_j1 d_X6_insert_104 rfl rfl
theorem d_X6_insert_105 : decode cX6_insert 105 = .ok (.ldc 93, 2) := by decide +kernel
theorem d_X6_insert_107 : decode cX6_insert 107 = .ok (.invokespecial 95, 3) := by decide +kernel
theorem d_X6_insert_110 : decode cX6_insert 110 = .ok (.athrow, 1) := by decide +kernel
theorem d_X6_insert_111 : decode cX6_insert 111 = .ok (.aload 5, 2) := by decide +kernel
theorem j_X6_insert_111 {G : en_G} {q : Option en_V → en_S → Prop} {qx : String → en_S → Prop} {l0 l1 l2 l3 l4 l6 : en_V} {x5 : Option Nat} {σ : en_S} : en_J (X_X6_insert G qx q) 111 [l0, l1, l2, l3, l4, en_R x5, l6] [] σ ↔ en_J (X_X6_insert G qx q) 113 [l0, l1, l2, l3, l4, en_R x5, l6] [en_R x5] σ := en_j1 d_X6_insert_111 rfl rfl
theorem d_X6_insert_113 : decode cX6_insert 113 = .ok (.aload 4, 2) := by decide +kernel
theorem j_X6_insert_113 {G : en_G} {q : Option en_V → en_S → Prop} {qx : String → en_S → Prop} {l0 l1 l2 l3 l5 l6 : en_V} {a0 : Option Nat} {x4 : Option Nat} {σ : en_S} : en_J (X_X6_insert G qx q) 113 [l0, l1, l2, l3, en_R x4, l5, l6] [en_R a0] σ ↔ en_J (X_X6_insert G qx q) 115 [l0, l1, l2, l3, en_R x4, l5, l6] [en_R x4, en_R a0] σ := en_j1 d_X6_insert_113 rfl rfl
theorem d_X6_insert_115 : decode cX6_insert 115 = .ok (.aload 6, 2) := by decide +kernel
theorem j_X6_insert_115 {G : en_G} {q : Option en_V → en_S → Prop} {qx : String → en_S → Prop} {l0 l1 l2 l3 l4 l5 : en_V} {a0 : Option Nat} {a1 : Option Nat} {x6 : Option Nat} {σ : en_S} : en_J (X_X6_insert G qx q) 115 [l0, l1, l2, l3, l4, l5, en_R x6] [en_R a0, en_R a1] σ ↔ en_J (X_X6_insert G qx q) 117 [l0, l1, l2, l3, l4, l5, en_R x6] [en_R x6, en_R a0, en_R a1] σ := en_j1 d_X6_insert_115 rfl rfl
theorem d_X6_insert_117 : decode cX6_insert 117 = .ok (.invokevirtual 96, 3) := by decide +kernel
theorem j_X6_insert_117 {G : en_G} {q : Option en_V → en_S → Prop} {qx : String → en_S → Prop} {l0 l1 l2 l3 l4 l5 l6 : en_V} {a0 : Option Nat} {a1 : Option Nat} {a2 : Option Nat} {σ : en_S} : en_J (X_X6_insert G qx q) 117 [l0, l1, l2, l3, l4, l5, l6] [en_R a0, en_R a1, en_R a2] σ ↔ C_X4_settle.1 [en_R a2, en_R a1, en_R a0] σ ∧ ∀ (r : Option en_V) (σ' : en_S), C_X4_settle.2 [en_R a2, en_R a1, en_R a0] σ r σ' → en_J (X_X6_insert G qx q) 120 [l0, l1, l2, l3, l4, l5, l6] (r.toList ++ []) σ' := en_jk d_X6_insert_117 rfl ⟨fun h => h.2.2.2.2, fun h => ⟨rfl, rfl, Nat.le_of_ble_eq_true rfl, Nat.le_of_ble_eq_true rfl, h⟩⟩
theorem d_X6_insert_120 : decode cX6_insert 120 = .ok (.return_, 1) := by decide +kernel
theorem j_X6_insert_120 {G : en_G} {q : Option en_V → en_S → Prop} {qx : String → en_S → Prop} {l0 l1 l2 l3 l4 l5 l6 : en_V}  {σ : en_S} : en_J (X_X6_insert G qx q) 120 [l0, l1, l2, l3, l4, l5, l6] [] σ ↔ q none σ := en_jr d_X6_insert_120 rfl ⟨fun h => h.2.2, fun h => ⟨rfl, rfl, h⟩⟩
theorem j_X6_insert_41 {G : en_G} {q : Option en_V → en_S → Prop} {qx : String → en_S → Prop} {l0 l1 l2 l3 l4 l5 l6 : en_V} {σ : en_S} : en_J (X_X6_insert G qx q) 41 [l0, l1, l2, l3, l4, l5, l6] [] σ ↔ en_nx σ + 1 ≤ G.2.2.2.2.1 ∧ en_ns σ + 6 ≤ G.2.2.2.2.2 ∧ qx en_IO σ := ej_thr d_X6_insert_41 rfl
theorem j_X6_insert_76 {G : en_G} {q : Option en_V → en_S → Prop} {qx : String → en_S → Prop} {l0 l1 l2 l3 l4 l5 l6 : en_V} {σ : en_S} : en_J (X_X6_insert G qx q) 76 [l0, l1, l2, l3, l4, l5, l6] [] σ ↔ en_nx σ + 1 ≤ G.2.2.2.2.1 ∧ en_ns σ + 6 ≤ G.2.2.2.2.2 ∧ qx en_IA σ := ej_thr d_X6_insert_76 rfl
theorem j_X6_insert_101 {G : en_G} {q : Option en_V → en_S → Prop} {qx : String → en_S → Prop} {l0 l1 l2 l3 l4 l5 l6 : en_V} {σ : en_S} : en_J (X_X6_insert G qx q) 101 [l0, l1, l2, l3, l4, l5, l6] [] σ ↔ en_nx σ + 1 ≤ G.2.2.2.2.1 ∧ en_ns σ + 6 ≤ G.2.2.2.2.2 ∧ qx en_NS σ := ej_thr d_X6_insert_101 rfl
theorem wc_X6_insert : Jvm.Cond.code yX6_insert cX6_insert 7 none ∈ en_W := en_inW (List.mem_of_getElem? (i := 504) (by decide +kernel)) (by decide +kernel)
theorem wi_X6_insert : Jvm.Cond.instanceMethod yX6_insert ∈ en_W := en_inW (List.mem_of_getElem? (i := 502) (by decide +kernel)) (by decide +kernel)
theorem wx_X6_insert : Jvm.Cond.selects RX6 yX6_insert yX6_insert ∈ en_W := en_inW (List.mem_of_getElem? (i := 503) (by decide +kernel)) (by decide +kernel)
theorem th_X6_insert : ∀ pc E, en_lk xt_X6_insert pc = some E → en_thr cX6_insert pc E := by
  intro pc E hq
  have hm := en_lk_mem hq
  simp only [xt_X6_insert, List.mem_cons, Prod.mk.injEq, List.not_mem_nil, or_false] at hm
  rcases hm with ⟨rfl, rfl⟩ | ⟨rfl, rfl⟩ | ⟨rfl, rfl⟩
  · exact ⟨68, 70, 72, 7, Bundle.six, "there is no such node", by decide +kernel, by decide +kernel, by decide +kernel, by decide +kernel, by decide +kernel, xc_IO, xi_IO, by simp [en_str], xb_IO, xd_IO, xe_IO, by decide +kernel, by decide +kernel, by decide +kernel, by decide +kernel, by decide +kernel⟩
  · exact ⟨83, 85, 87, 7, Bundle.six, "the element may not stand there", by decide +kernel, by decide +kernel, by decide +kernel, by decide +kernel, by decide +kernel, xc_IA, xi_IA, by simp [en_str], xb_IA, xd_IA, xe_IA, by decide +kernel, by decide +kernel, by decide +kernel, by decide +kernel, by decide +kernel⟩
  · exact ⟨91, 93, 95, 13, xs_13, "before is no child of the parent", by decide +kernel, by decide +kernel, by decide +kernel, by decide +kernel, by decide +kernel, xc_NS, xi_NS, by simp [en_str], xb_NS, xd_NS, xe_NS, by decide +kernel, by decide +kernel, by decide +kernel, by decide +kernel, by decide +kernel⟩
theorem jl_X6_insert {G : en_G} {x : Nat} {rm : Nat} {S : pb_S} {kp : Int32} {ke : Int32} {kb : Int32} {q : Option en_V → en_S → Prop} {qx : String → en_S → Prop} {σ : en_S} (hp : PZ G x (rm + 64) S σ) (hq : ∀ v σ', (PZ G x rm (op_insert S kp ke kb).1 σ' ∧ ag σ σ' pF (pV x) ∧ (op_insert S kp ke kb).2 = 0 ∧ v = none) → q v σ') (hx : ∀ E σ', (PZ G x rm (op_insert S kp ke kb).1 σ' ∧ ag σ σ' pF (pV x) ∧ (((op_insert S kp ke kb).2 = 1 ∧ E = en_IO) ∨ ((op_insert S kp ke kb).2 = 2 ∧ E = en_IA) ∨ ((op_insert S kp ke kb).2 = 3 ∧ E = en_NS))) → qx E σ') : en_J (X_X6_insert G qx q) 0 [en_R (some x), en_I kp, en_I ke, en_I kb, en_U, en_U, en_U] [] σ := by
  obtain ⟨na, la, ba, hP⟩ := hp
  have hC := hP.1
  have w := hC.2.2.2.2.2.2.2.2.1
  have hN := w.1.1.2
  have tt := hC.2.1
  have i1 : ¬ (1 : Int32) = 0 := by decide
  obtain ⟨rm1, rm2⟩ := px_room hP
  have bad1 : op_insert S kp ke kb = (S, 1) → qx en_IO σ := fun h => hx _ _ ⟨by rw [h]; exact hP.z (by omega), ag.rf, Or.inl ⟨by rw [h], rfl⟩⟩
  have bad2 : op_insert S kp ke kb = (S, 2) → qx en_IA σ := fun h => hx _ _ ⟨by rw [h]; exact hP.z (by omega), ag.rf, Or.inr (Or.inl ⟨by rw [h], rfl⟩)⟩
  have bad3 : op_insert S kp ke kb = (S, 3) → qx en_NS σ := fun h => hx _ _ ⟨by rw [h]; exact hP.z (by omega), ag.rf, Or.inr (Or.inr ⟨by rw [h], rfl⟩)⟩
  simp only [j_X6_insert_0, j_X6_insert_1, j_X6_insert_2, j_X6_insert_5, j_X6_insert_7, j_X6_insert_8, j_X6_insert_9, j_X6_insert_12, j_X6_insert_14, j_X6_insert_15, j_X6_insert_16, j_X6_insert_19, j_X6_insert_21, j_X6_insert_23, j_X6_insert_26, j_X6_insert_28, j_X6_insert_31, j_X6_insert_33, j_X6_insert_36, j_X6_insert_37, j_X6_insert_38, j_X6_insert_41, j_X6_insert_44, j_X6_insert_53, j_X6_insert_56, j_X6_insert_59, j_X6_insert_61, j_X6_insert_63, j_X6_insert_66, j_X6_insert_69, j_X6_insert_71, j_X6_insert_73, j_X6_insert_76, j_X6_insert_79, j_X6_insert_86, j_X6_insert_88, j_X6_insert_91, j_X6_insert_93, j_X6_insert_96, j_X6_insert_98, j_X6_insert_101, j_X6_insert_104, j_X6_insert_111, j_X6_insert_113, j_X6_insert_115, j_X6_insert_117, j_X6_insert_120, en_c2I, en_c2R, en_c2U, en_c2D, Option.some.injEq, exists_eq_left', exists_eq_left, Option.map_some, Option.map_none, not_true_eq_false, false_implies, true_implies, and_true, true_and, reduceCtorEq, not_false_eq_true, true_or, or_true]
  refine en_use (cu_X6_nodeAt hC) ?_
  rintro v σ' ⟨rfl, rfl⟩
  simp only [Option.toList, List.cons_append, List.nil_append, j_X6_insert_0, j_X6_insert_1, j_X6_insert_2, j_X6_insert_5, j_X6_insert_7, j_X6_insert_8, j_X6_insert_9, j_X6_insert_12, j_X6_insert_14, j_X6_insert_15, j_X6_insert_16, j_X6_insert_19, j_X6_insert_21, j_X6_insert_23, j_X6_insert_26, j_X6_insert_28, j_X6_insert_31, j_X6_insert_33, j_X6_insert_36, j_X6_insert_37, j_X6_insert_38, j_X6_insert_41, j_X6_insert_44, j_X6_insert_53, j_X6_insert_56, j_X6_insert_59, j_X6_insert_61, j_X6_insert_63, j_X6_insert_66, j_X6_insert_69, j_X6_insert_71, j_X6_insert_73, j_X6_insert_76, j_X6_insert_79, j_X6_insert_86, j_X6_insert_88, j_X6_insert_91, j_X6_insert_93, j_X6_insert_96, j_X6_insert_98, j_X6_insert_101, j_X6_insert_104, j_X6_insert_111, j_X6_insert_113, j_X6_insert_115, j_X6_insert_117, j_X6_insert_120, en_c2I, en_c2R, en_c2U, en_c2D, Option.some.injEq, exists_eq_left', exists_eq_left, Option.map_some, Option.map_none, not_true_eq_false, false_implies, true_implies, and_true, true_and, reduceCtorEq, not_false_eq_true, true_or, or_true]
  refine en_use (cu_X6_nodeAt hC) ?_
  rintro v σ' ⟨rfl, rfl⟩
  simp only [Option.toList, List.cons_append, List.nil_append, j_X6_insert_0, j_X6_insert_1, j_X6_insert_2, j_X6_insert_5, j_X6_insert_7, j_X6_insert_8, j_X6_insert_9, j_X6_insert_12, j_X6_insert_14, j_X6_insert_15, j_X6_insert_16, j_X6_insert_19, j_X6_insert_21, j_X6_insert_23, j_X6_insert_26, j_X6_insert_28, j_X6_insert_31, j_X6_insert_33, j_X6_insert_36, j_X6_insert_37, j_X6_insert_38, j_X6_insert_41, j_X6_insert_44, j_X6_insert_53, j_X6_insert_56, j_X6_insert_59, j_X6_insert_61, j_X6_insert_63, j_X6_insert_66, j_X6_insert_69, j_X6_insert_71, j_X6_insert_73, j_X6_insert_76, j_X6_insert_79, j_X6_insert_86, j_X6_insert_88, j_X6_insert_91, j_X6_insert_93, j_X6_insert_96, j_X6_insert_98, j_X6_insert_101, j_X6_insert_104, j_X6_insert_111, j_X6_insert_113, j_X6_insert_115, j_X6_insert_117, j_X6_insert_120, en_c2I, en_c2R, en_c2U, en_c2D, Option.some.injEq, exists_eq_left', exists_eq_left, Option.map_some, Option.map_none, not_true_eq_false, false_implies, true_implies, and_true, true_and, reduceCtorEq, not_false_eq_true, true_or, or_true]
  refine en_use (cu_X6_nodeAt hC) ?_
  rintro v σ' ⟨rfl, rfl⟩
  have t41 : op_insert S kp ke kb = (S, 1) → ∀ l4 l5 l6, en_J (X_X6_insert G qx q) 41 [en_R (some x), en_I kp, en_I ke, en_I kb, l4, l5, l6] [] σ' := fun h l4 l5 l6 => by
    rw [j_X6_insert_41]
    exact ⟨rm1, rm2, bad1 h⟩
  have t76 : op_insert S kp ke kb = (S, 2) → ∀ l4 l5 l6, en_J (X_X6_insert G qx q) 76 [en_R (some x), en_I kp, en_I ke, en_I kb, l4, l5, l6] [] σ' := fun h l4 l5 l6 => by
    rw [j_X6_insert_76]
    exact ⟨rm1, rm2, bad2 h⟩
  have t101 : op_insert S kp ke kb = (S, 3) → ∀ l4 l5 l6, en_J (X_X6_insert G qx q) 101 [en_R (some x), en_I kp, en_I ke, en_I kb, l4, l5, l6] [] σ' := fun h l4 l5 l6 => by
    rw [j_X6_insert_101]
    exact ⟨rm1, rm2, bad3 h⟩
  cases hx1 : st_ix (tr_N (sa_T S.1)) kp with
  | none =>
    have := t41 (by unfold op_insert; rw [hx1])
    simp only [Option.toList, List.cons_append, List.nil_append, j_X6_insert_0, j_X6_insert_1, j_X6_insert_2, j_X6_insert_5, j_X6_insert_7, j_X6_insert_8, j_X6_insert_9, j_X6_insert_12, j_X6_insert_14, j_X6_insert_15, j_X6_insert_16, j_X6_insert_19, j_X6_insert_21, j_X6_insert_23, j_X6_insert_28, j_X6_insert_31, j_X6_insert_33, j_X6_insert_36, j_X6_insert_37, j_X6_insert_38, j_X6_insert_44, j_X6_insert_53, j_X6_insert_56, j_X6_insert_59, j_X6_insert_61, j_X6_insert_63, j_X6_insert_66, j_X6_insert_69, j_X6_insert_71, j_X6_insert_73, j_X6_insert_76, j_X6_insert_79, j_X6_insert_86, j_X6_insert_88, j_X6_insert_91, j_X6_insert_93, j_X6_insert_96, j_X6_insert_98, j_X6_insert_101, j_X6_insert_104, j_X6_insert_111, j_X6_insert_113, j_X6_insert_115, j_X6_insert_117, j_X6_insert_120, en_c2I, en_c2R, en_c2U, en_c2D, Option.some.injEq, exists_eq_left', exists_eq_left, Option.map_some, Option.map_none, not_true_eq_false, false_implies, true_implies, and_true, true_and, reduceCtorEq, not_false_eq_true, true_or, or_true]
    exact this _ _ _
  | some p =>
    obtain ⟨hpl, rfl⟩ := st_ix_some (by omega) hx1
    cases hy : st_ix (tr_N (sa_T S.1)) ke with
    | none =>
      have := t41 (by unfold op_insert; rw [hx1, hy])
      simp only [Option.toList, List.cons_append, List.nil_append, j_X6_insert_0, j_X6_insert_1, j_X6_insert_2, j_X6_insert_5, j_X6_insert_7, j_X6_insert_8, j_X6_insert_9, j_X6_insert_12, j_X6_insert_14, j_X6_insert_15, j_X6_insert_16, j_X6_insert_19, j_X6_insert_21, j_X6_insert_23, j_X6_insert_26, j_X6_insert_28, j_X6_insert_33, j_X6_insert_36, j_X6_insert_37, j_X6_insert_38, j_X6_insert_44, j_X6_insert_53, j_X6_insert_56, j_X6_insert_59, j_X6_insert_61, j_X6_insert_63, j_X6_insert_66, j_X6_insert_69, j_X6_insert_71, j_X6_insert_73, j_X6_insert_76, j_X6_insert_79, j_X6_insert_86, j_X6_insert_88, j_X6_insert_91, j_X6_insert_93, j_X6_insert_96, j_X6_insert_98, j_X6_insert_101, j_X6_insert_104, j_X6_insert_111, j_X6_insert_113, j_X6_insert_115, j_X6_insert_117, j_X6_insert_120, en_c2I, en_c2R, en_c2U, en_c2D, Option.some.injEq, exists_eq_left', exists_eq_left, Option.map_some, Option.map_none, not_true_eq_false, false_implies, true_implies, and_true, true_and, reduceCtorEq, not_false_eq_true, true_or, or_true]
      exact this _ _ _
    | some n =>
      obtain ⟨hn, rfl⟩ := st_ix_some (by omega) hy
      have hi : op_insert S (nI p) (nI n) kb = ((if kb = -1 then (if tr_kd (sa_T S.1) n ≤ 2 ∧ tr_over (sa_T S.1) n p = false then ((su_T S.1 (tr_ins (sa_T S.1) n p none), S.2), 0) else (S, 2))
        else match st_ix (tr_N (sa_T S.1)) kb with
          | none => (S, 1)
          | some f => if tr_kd (sa_T S.1) n ≤ 2 ∧ tr_over (sa_T S.1) n p = false ∧ f ≠ n then (if tr_pa (sa_T S.1) f = some p then ((su_T S.1 (tr_ins (sa_T S.1) n p (some f)), S.2), 0) else (S, 3)) else (S, 2)) : pb_S × Int32) := by unfold op_insert; rw [hx1, hy]; rfl
      obtain ⟨h1, h2, h3, h4, h5, h6, -⟩ := tt.1 n hn
      -- from 51 on, with what stands before
      have main : ∀ (fo : Option Nat), (∀ f, fo = some f → f < tr_N (sa_T S.1)) → op_insert S (nI p) (nI n) kb = (if tr_kd (sa_T S.1) n ≤ 2 ∧ tr_over (sa_T S.1) n p = false ∧ fo ≠ some n then (if (∀ f, fo = some f → tr_pa (sa_T S.1) f = some p) then ((su_T S.1 (tr_ins (sa_T S.1) n p fo), S.2), 0) else (S, 3)) else (S, 2)) → en_J (X_X6_insert G qx q) 51 [en_R (some x), en_I (nI p), en_I (nI n), en_I kb, en_R (some (na p)), en_R (some (na n)), en_R (fo.map na)] [] σ' := by
        intro fo hfo hop
        simp only [j_X6_insert_0, j_X6_insert_1, j_X6_insert_2, j_X6_insert_5, j_X6_insert_7, j_X6_insert_8, j_X6_insert_9, j_X6_insert_12, j_X6_insert_14, j_X6_insert_15, j_X6_insert_16, j_X6_insert_19, j_X6_insert_21, j_X6_insert_23, j_X6_insert_26, j_X6_insert_28, j_X6_insert_31, j_X6_insert_33, j_X6_insert_36, j_X6_insert_37, j_X6_insert_38, j_X6_insert_41, j_X6_insert_44, j_X6_insert_51, j_X6_insert_53, j_X6_insert_56, j_X6_insert_59, j_X6_insert_61, j_X6_insert_63, j_X6_insert_66, j_X6_insert_69, j_X6_insert_71, j_X6_insert_73, j_X6_insert_79, j_X6_insert_88, j_X6_insert_91, j_X6_insert_93, j_X6_insert_96, j_X6_insert_98, j_X6_insert_101, j_X6_insert_104, j_X6_insert_111, j_X6_insert_113, j_X6_insert_115, j_X6_insert_117, j_X6_insert_120, en_c2I, en_c2R, en_c2U, en_c2D, Option.some.injEq, exists_eq_left', exists_eq_left, Option.map_some, Option.map_none, not_true_eq_false, false_implies, true_implies, and_true, true_and, reduceCtorEq, not_false_eq_true, true_or, or_true, h1]
        refine en_use (cu_X4_isElement h1) ?_
        rintro v σ1 ⟨rfl, rfl⟩
        rw [h3]
        by_cases hk : tr_kd (sa_T S.1) n ≤ 2
        · simp only [Option.toList, List.cons_append, List.nil_append, j_X6_insert_0, j_X6_insert_1, j_X6_insert_2, j_X6_insert_5, j_X6_insert_7, j_X6_insert_8, j_X6_insert_9, j_X6_insert_12, j_X6_insert_14, j_X6_insert_15, j_X6_insert_16, j_X6_insert_19, j_X6_insert_21, j_X6_insert_23, j_X6_insert_26, j_X6_insert_28, j_X6_insert_31, j_X6_insert_33, j_X6_insert_36, j_X6_insert_37, j_X6_insert_38, j_X6_insert_41, j_X6_insert_44, j_X6_insert_51, j_X6_insert_53, j_X6_insert_56, j_X6_insert_59, j_X6_insert_61, j_X6_insert_63, j_X6_insert_66, j_X6_insert_69, j_X6_insert_71, j_X6_insert_73, j_X6_insert_79, j_X6_insert_88, j_X6_insert_91, j_X6_insert_93, j_X6_insert_96, j_X6_insert_98, j_X6_insert_101, j_X6_insert_104, j_X6_insert_111, j_X6_insert_113, j_X6_insert_115, j_X6_insert_117, j_X6_insert_120, en_c2I, en_c2R, en_c2U, en_c2D, Option.some.injEq, exists_eq_left', exists_eq_left, Option.map_some, Option.map_none, not_true_eq_false, false_implies, true_implies, and_true, true_and, reduceCtorEq, not_false_eq_true, true_or, or_true, if_pos hk, i1]
          refine en_use (cu_X4_isAtOrOver tt w.1 hn hpl) ?_
          rintro v σ1 ⟨rfl, rfl⟩
          cases hov : tr_over (sa_T S.1) n p with
          | true =>
            have := t76 (by rw [hop, if_neg (fun z => by rw [hov] at z; cases z.2.1)])
            simp only [Option.toList, List.cons_append, List.nil_append, j_X6_insert_0, j_X6_insert_1, j_X6_insert_2, j_X6_insert_5, j_X6_insert_7, j_X6_insert_8, j_X6_insert_9, j_X6_insert_12, j_X6_insert_14, j_X6_insert_15, j_X6_insert_16, j_X6_insert_19, j_X6_insert_21, j_X6_insert_23, j_X6_insert_26, j_X6_insert_28, j_X6_insert_31, j_X6_insert_33, j_X6_insert_36, j_X6_insert_37, j_X6_insert_38, j_X6_insert_41, j_X6_insert_44, j_X6_insert_51, j_X6_insert_53, j_X6_insert_56, j_X6_insert_59, j_X6_insert_61, j_X6_insert_63, j_X6_insert_66, j_X6_insert_69, j_X6_insert_71, j_X6_insert_73, j_X6_insert_79, j_X6_insert_88, j_X6_insert_91, j_X6_insert_93, j_X6_insert_96, j_X6_insert_98, j_X6_insert_101, j_X6_insert_104, j_X6_insert_111, j_X6_insert_113, j_X6_insert_115, j_X6_insert_117, j_X6_insert_120, en_c2I, en_c2R, en_c2U, en_c2D, Option.some.injEq, exists_eq_left', exists_eq_left, Option.map_some, Option.map_none, not_true_eq_false, false_implies, true_implies, and_true, true_and, reduceCtorEq, not_false_eq_true, true_or, or_true, st_bt, i1]
            exact this _ _ _
          | false =>
            by_cases hfn : fo = some n
            · have := t76 (by rw [hop, if_neg (fun z => z.2.2 hfn)])
              subst hfn
              simp only [Option.toList, List.cons_append, List.nil_append, j_X6_insert_0, j_X6_insert_1, j_X6_insert_2, j_X6_insert_5, j_X6_insert_7, j_X6_insert_8, j_X6_insert_9, j_X6_insert_12, j_X6_insert_14, j_X6_insert_15, j_X6_insert_16, j_X6_insert_19, j_X6_insert_21, j_X6_insert_23, j_X6_insert_26, j_X6_insert_28, j_X6_insert_31, j_X6_insert_33, j_X6_insert_36, j_X6_insert_37, j_X6_insert_38, j_X6_insert_41, j_X6_insert_44, j_X6_insert_51, j_X6_insert_53, j_X6_insert_56, j_X6_insert_59, j_X6_insert_61, j_X6_insert_63, j_X6_insert_66, j_X6_insert_69, j_X6_insert_71, j_X6_insert_73, j_X6_insert_79, j_X6_insert_88, j_X6_insert_91, j_X6_insert_93, j_X6_insert_96, j_X6_insert_98, j_X6_insert_101, j_X6_insert_104, j_X6_insert_111, j_X6_insert_113, j_X6_insert_115, j_X6_insert_117, j_X6_insert_120, en_c2I, en_c2R, en_c2U, en_c2D, Option.some.injEq, exists_eq_left', exists_eq_left, Option.map_some, Option.map_none, not_true_eq_false, false_implies, true_implies, and_true, true_and, reduceCtorEq, not_false_eq_true, true_or, or_true, st_bf]
              exact this _ _ _
            · have hne : ¬ fo.map na = some (na n) := fun z => by
                cases fo with
                | none => cases z
                | some f => exact hfn (by rw [tt.2 f n (hfo f rfl) hn (Option.some.inj z)])
              have hpn : p ≠ n := fun z => by
                rw [z] at hov
                simp [tr_over, tr_cov] at hov
              -- put in
              have done : (∀ f, fo = some f → tr_pa (sa_T S.1) f = some p) → en_J (X_X6_insert G qx q) 111 [en_R (some x), en_I (nI p), en_I (nI n), en_I kb, en_R (some (na p)), en_R (some (na n)), en_R (fo.map na)] [] σ1 := by
                intro hpf
                have hop2 : op_insert S (nI p) (nI n) kb = ((su_T S.1 (tr_ins (sa_T S.1) n p fo), S.2), 0) := by rw [hop, if_pos ⟨hk, hov, hfn⟩, if_pos hpf]
                rw [hop2] at hq
                have hf2 : ∀ f, fo = some f → f ∈ tr_ch (sa_T S.1) p ∧ f ≠ n := fun f hf => ⟨(w.1.2.1 f p (hfo f hf) (hpf f hf)).2.1, fun z => hfn (by rw [hf, z])⟩
                simp only [j_X6_insert_0, j_X6_insert_1, j_X6_insert_2, j_X6_insert_5, j_X6_insert_7, j_X6_insert_8, j_X6_insert_9, j_X6_insert_12, j_X6_insert_14, j_X6_insert_15, j_X6_insert_16, j_X6_insert_19, j_X6_insert_21, j_X6_insert_23, j_X6_insert_26, j_X6_insert_28, j_X6_insert_31, j_X6_insert_33, j_X6_insert_36, j_X6_insert_37, j_X6_insert_38, j_X6_insert_41, j_X6_insert_44, j_X6_insert_51, j_X6_insert_53, j_X6_insert_56, j_X6_insert_59, j_X6_insert_61, j_X6_insert_63, j_X6_insert_66, j_X6_insert_69, j_X6_insert_71, j_X6_insert_73, j_X6_insert_76, j_X6_insert_79, j_X6_insert_86, j_X6_insert_88, j_X6_insert_91, j_X6_insert_93, j_X6_insert_96, j_X6_insert_98, j_X6_insert_101, j_X6_insert_104, j_X6_insert_111, j_X6_insert_113, j_X6_insert_115, j_X6_insert_117, j_X6_insert_120, en_c2I, en_c2R, en_c2U, en_c2D, Option.some.injEq, exists_eq_left', exists_eq_left, Option.map_some, Option.map_none, not_true_eq_false, false_implies, true_implies, and_true, true_and, reduceCtorEq, not_false_eq_true, true_or, or_true]
                refine en_use (cu_X4_settle (fo := fo) tt w.1 hn hpl hpn hf2) ?_
                rintro v σ2 ⟨rfl, hR, hfr⟩
                simp only [Option.toList, List.cons_append, List.nil_append, j_X6_insert_0, j_X6_insert_1, j_X6_insert_2, j_X6_insert_5, j_X6_insert_7, j_X6_insert_8, j_X6_insert_9, j_X6_insert_12, j_X6_insert_14, j_X6_insert_15, j_X6_insert_16, j_X6_insert_19, j_X6_insert_21, j_X6_insert_23, j_X6_insert_26, j_X6_insert_28, j_X6_insert_31, j_X6_insert_33, j_X6_insert_36, j_X6_insert_37, j_X6_insert_38, j_X6_insert_41, j_X6_insert_44, j_X6_insert_51, j_X6_insert_53, j_X6_insert_56, j_X6_insert_59, j_X6_insert_61, j_X6_insert_63, j_X6_insert_66, j_X6_insert_69, j_X6_insert_71, j_X6_insert_73, j_X6_insert_76, j_X6_insert_79, j_X6_insert_86, j_X6_insert_88, j_X6_insert_91, j_X6_insert_93, j_X6_insert_96, j_X6_insert_98, j_X6_insert_101, j_X6_insert_104, j_X6_insert_111, j_X6_insert_113, j_X6_insert_115, j_X6_insert_117, j_X6_insert_120, en_c2I, en_c2R, en_c2U, en_c2D, Option.some.injEq, exists_eq_left', exists_eq_left, Option.map_some, Option.map_none, not_true_eq_false, false_implies, true_implies, and_true, true_and, reduceCtorEq, not_false_eq_true, true_or, or_true]
                have hC2 := cx_tree hC hfr hR (st_go_T w (tr_wf_ins w.1 hn hpl ((tr_el_iff w.1 hn).mpr hk) hov hf2) rfl rfl rfl rfl rfl)
                exact hq _ _ ⟨(hP.q4 hC2 (dF_frm hfr) (Nat.le_refl _)).z (by omega), pq4 (dF_frm hfr), rfl, rfl⟩
              cases hfo2 : fo with
              | none =>
                have := done (fun f hf => by rw [hfo2] at hf; cases hf)
                rw [hfo2] at this hne
                simp only [Option.toList, List.cons_append, List.nil_append, j_X6_insert_0, j_X6_insert_1, j_X6_insert_2, j_X6_insert_5, j_X6_insert_7, j_X6_insert_8, j_X6_insert_9, j_X6_insert_12, j_X6_insert_14, j_X6_insert_15, j_X6_insert_16, j_X6_insert_19, j_X6_insert_21, j_X6_insert_23, j_X6_insert_26, j_X6_insert_28, j_X6_insert_31, j_X6_insert_33, j_X6_insert_36, j_X6_insert_37, j_X6_insert_38, j_X6_insert_41, j_X6_insert_44, j_X6_insert_51, j_X6_insert_53, j_X6_insert_56, j_X6_insert_59, j_X6_insert_61, j_X6_insert_63, j_X6_insert_66, j_X6_insert_69, j_X6_insert_71, j_X6_insert_73, j_X6_insert_79, j_X6_insert_86, j_X6_insert_88, j_X6_insert_93, j_X6_insert_96, j_X6_insert_98, j_X6_insert_104, j_X6_insert_113, j_X6_insert_115, j_X6_insert_117, j_X6_insert_120, en_c2I, en_c2R, en_c2U, en_c2D, Option.some.injEq, exists_eq_left', exists_eq_left, Option.map_some, Option.map_none, not_true_eq_false, false_implies, true_implies, and_true, true_and, reduceCtorEq, not_false_eq_true, true_or, or_true, st_bf]
                exact this
              | some f =>
                have hf := hfo f hfo2
                have hcf := (tt.1 f hf).1
                have hpf6 := (tt.1 f hf).2.2.2.2.2.1
                rw [hfo2] at hne
                have hne' : ¬ na f = na n := fun z => hne (by rw [← z]; rfl)
                by_cases hpp : tr_pa (sa_T S.1) f = some p
                · have := done (fun f' hf' => by rw [hfo2] at hf'; cases hf'; exact hpp)
                  rw [hfo2] at this
                  rw [hpp] at hpf6
                  simp only [Option.toList, List.cons_append, List.nil_append, j_X6_insert_0, j_X6_insert_1, j_X6_insert_2, j_X6_insert_5, j_X6_insert_7, j_X6_insert_8, j_X6_insert_9, j_X6_insert_12, j_X6_insert_14, j_X6_insert_15, j_X6_insert_16, j_X6_insert_19, j_X6_insert_21, j_X6_insert_23, j_X6_insert_26, j_X6_insert_28, j_X6_insert_31, j_X6_insert_33, j_X6_insert_36, j_X6_insert_37, j_X6_insert_38, j_X6_insert_41, j_X6_insert_44, j_X6_insert_51, j_X6_insert_53, j_X6_insert_56, j_X6_insert_59, j_X6_insert_61, j_X6_insert_63, j_X6_insert_66, j_X6_insert_69, j_X6_insert_71, j_X6_insert_73, j_X6_insert_79, j_X6_insert_86, j_X6_insert_88, j_X6_insert_91, j_X6_insert_93, j_X6_insert_96, j_X6_insert_98, j_X6_insert_104, j_X6_insert_113, j_X6_insert_115, j_X6_insert_117, j_X6_insert_120, en_c2I, en_c2R, en_c2U, en_c2D, Option.some.injEq, exists_eq_left', exists_eq_left, Option.map_some, Option.map_none, not_true_eq_false, false_implies, true_implies, and_true, true_and, reduceCtorEq, not_false_eq_true, true_or, or_true, st_bf, hne', hcf, hpf6]
                  exact this
                · have := t101 (by rw [hop, if_pos ⟨hk, hov, hfn⟩, if_neg (fun z => hpp (z f hfo2))])
                  have hnp : ¬ (tr_pa (sa_T S.1) f).map na = some (na p) := fun z => by
                    cases hq2 : tr_pa (sa_T S.1) f with
                    | none => rw [hq2] at z; cases z
                    | some r =>
                      rw [hq2] at z
                      have := tt.2 r p (tr_pa_lt w.1 hf hq2) hpl (Option.some.inj z)
                      rw [this] at hq2
                      exact hpp hq2
                  simp only [Option.toList, List.cons_append, List.nil_append, j_X6_insert_0, j_X6_insert_1, j_X6_insert_2, j_X6_insert_5, j_X6_insert_7, j_X6_insert_8, j_X6_insert_9, j_X6_insert_12, j_X6_insert_14, j_X6_insert_15, j_X6_insert_16, j_X6_insert_19, j_X6_insert_21, j_X6_insert_23, j_X6_insert_26, j_X6_insert_28, j_X6_insert_31, j_X6_insert_33, j_X6_insert_36, j_X6_insert_37, j_X6_insert_38, j_X6_insert_41, j_X6_insert_44, j_X6_insert_51, j_X6_insert_53, j_X6_insert_56, j_X6_insert_59, j_X6_insert_61, j_X6_insert_63, j_X6_insert_66, j_X6_insert_69, j_X6_insert_71, j_X6_insert_73, j_X6_insert_79, j_X6_insert_86, j_X6_insert_88, j_X6_insert_91, j_X6_insert_93, j_X6_insert_96, j_X6_insert_98, j_X6_insert_104, j_X6_insert_113, j_X6_insert_115, j_X6_insert_117, j_X6_insert_120, en_c2I, en_c2R, en_c2U, en_c2D, Option.some.injEq, exists_eq_left', exists_eq_left, Option.map_some, Option.map_none, not_true_eq_false, false_implies, true_implies, and_true, true_and, reduceCtorEq, not_false_eq_true, true_or, or_true, st_bf, hne', hcf, hpf6, hnp]
                  exact this _ _ _
        · have := t76 (by rw [hop, if_neg (fun z => hk z.1)])
          simp only [Option.toList, List.cons_append, List.nil_append, j_X6_insert_0, j_X6_insert_1, j_X6_insert_2, j_X6_insert_5, j_X6_insert_7, j_X6_insert_8, j_X6_insert_9, j_X6_insert_12, j_X6_insert_14, j_X6_insert_15, j_X6_insert_16, j_X6_insert_19, j_X6_insert_21, j_X6_insert_23, j_X6_insert_26, j_X6_insert_28, j_X6_insert_31, j_X6_insert_33, j_X6_insert_36, j_X6_insert_37, j_X6_insert_38, j_X6_insert_41, j_X6_insert_44, j_X6_insert_51, j_X6_insert_53, j_X6_insert_56, j_X6_insert_59, j_X6_insert_61, j_X6_insert_63, j_X6_insert_66, j_X6_insert_69, j_X6_insert_71, j_X6_insert_73, j_X6_insert_79, j_X6_insert_88, j_X6_insert_91, j_X6_insert_93, j_X6_insert_96, j_X6_insert_98, j_X6_insert_101, j_X6_insert_104, j_X6_insert_111, j_X6_insert_113, j_X6_insert_115, j_X6_insert_117, j_X6_insert_120, en_c2I, en_c2R, en_c2U, en_c2D, Option.some.injEq, exists_eq_left', exists_eq_left, Option.map_some, Option.map_none, not_true_eq_false, false_implies, true_implies, and_true, true_and, reduceCtorEq, not_false_eq_true, true_or, or_true, if_neg hk]
          exact this _ _ _
      by_cases hkb : kb = -1
      · have hz : st_ix (tr_N (sa_T S.1)) kb = none := by rw [hkb]; rfl
        rw [hz]
        have := main none (fun f hf => by cases hf) (by
          rw [hi, if_pos hkb]
          by_cases hc : tr_kd (sa_T S.1) n ≤ 2 ∧ tr_over (sa_T S.1) n p = false
          · rw [if_pos hc, if_pos ⟨hc.1, hc.2, by simp⟩, if_pos (fun f hf => by cases hf)]
          · rw [if_neg hc, if_neg (fun z => hc ⟨z.1, z.2.1⟩)])
        simp only [Option.toList, List.cons_append, List.nil_append, j_X6_insert_0, j_X6_insert_1, j_X6_insert_2, j_X6_insert_5, j_X6_insert_7, j_X6_insert_8, j_X6_insert_9, j_X6_insert_12, j_X6_insert_14, j_X6_insert_15, j_X6_insert_16, j_X6_insert_19, j_X6_insert_21, j_X6_insert_23, j_X6_insert_26, j_X6_insert_28, j_X6_insert_31, j_X6_insert_33, j_X6_insert_36, j_X6_insert_37, j_X6_insert_38, j_X6_insert_44, j_X6_insert_53, j_X6_insert_56, j_X6_insert_59, j_X6_insert_61, j_X6_insert_63, j_X6_insert_66, j_X6_insert_69, j_X6_insert_71, j_X6_insert_73, j_X6_insert_76, j_X6_insert_79, j_X6_insert_86, j_X6_insert_88, j_X6_insert_91, j_X6_insert_93, j_X6_insert_96, j_X6_insert_98, j_X6_insert_101, j_X6_insert_104, j_X6_insert_111, j_X6_insert_113, j_X6_insert_115, j_X6_insert_117, j_X6_insert_120, en_c2I, en_c2R, en_c2U, en_c2D, Option.some.injEq, exists_eq_left', exists_eq_left, Option.map_some, Option.map_none, not_true_eq_false, false_implies, true_implies, and_true, true_and, reduceCtorEq, not_false_eq_true, true_or, or_true, eq_true hkb]
        exact this
      · cases hz : st_ix (tr_N (sa_T S.1)) kb with
        | none =>
          have := t41 (by rw [hi, if_neg hkb, hz])
          simp only [Option.toList, List.cons_append, List.nil_append, j_X6_insert_0, j_X6_insert_1, j_X6_insert_2, j_X6_insert_5, j_X6_insert_7, j_X6_insert_8, j_X6_insert_9, j_X6_insert_12, j_X6_insert_14, j_X6_insert_15, j_X6_insert_16, j_X6_insert_19, j_X6_insert_21, j_X6_insert_23, j_X6_insert_26, j_X6_insert_28, j_X6_insert_31, j_X6_insert_33, j_X6_insert_36, j_X6_insert_37, j_X6_insert_38, j_X6_insert_44, j_X6_insert_53, j_X6_insert_56, j_X6_insert_59, j_X6_insert_61, j_X6_insert_63, j_X6_insert_66, j_X6_insert_69, j_X6_insert_71, j_X6_insert_73, j_X6_insert_76, j_X6_insert_79, j_X6_insert_86, j_X6_insert_88, j_X6_insert_91, j_X6_insert_93, j_X6_insert_96, j_X6_insert_98, j_X6_insert_101, j_X6_insert_104, j_X6_insert_111, j_X6_insert_113, j_X6_insert_115, j_X6_insert_117, j_X6_insert_120, en_c2I, en_c2R, en_c2U, en_c2D, Option.some.injEq, exists_eq_left', exists_eq_left, Option.map_some, Option.map_none, not_true_eq_false, false_implies, true_implies, and_true, true_and, reduceCtorEq, not_false_eq_true, true_or, or_true, eq_false hkb]
          exact this _ _ _
        | some f =>
          obtain ⟨hf, hkf⟩ := st_ix_some (by omega) hz
          have := main (some f) (fun f' hf' => by cases hf'; exact hf) (by
            rw [hi, if_neg hkb, hz]
            simp only
            by_cases hc : tr_kd (sa_T S.1) n ≤ 2 ∧ tr_over (sa_T S.1) n p = false ∧ f ≠ n
            · have c2 : tr_kd (sa_T S.1) n ≤ 2 ∧ tr_over (sa_T S.1) n p = false ∧ some f ≠ some n := ⟨hc.1, hc.2.1, fun z => hc.2.2 (Option.some.inj z)⟩
              by_cases hpf : tr_pa (sa_T S.1) f = some p
              · have c3 : ∀ f', some f = some f' → tr_pa (sa_T S.1) f' = some p := fun f' hf' => by cases hf'; exact hpf
                rw [if_pos hc, if_pos hpf, if_pos c2, if_pos c3]
              · have c3 : ¬ ∀ f', some f = some f' → tr_pa (sa_T S.1) f' = some p := fun z => hpf (z f rfl)
                rw [if_pos hc, if_neg hpf, if_pos c2, if_neg c3]
            · rw [if_neg hc, if_neg (fun z => hc ⟨z.1, z.2.1, fun y => z.2.2 (by rw [y])⟩)])
          simp only [Option.toList, List.cons_append, List.nil_append, j_X6_insert_0, j_X6_insert_1, j_X6_insert_2, j_X6_insert_5, j_X6_insert_7, j_X6_insert_8, j_X6_insert_9, j_X6_insert_12, j_X6_insert_14, j_X6_insert_15, j_X6_insert_16, j_X6_insert_19, j_X6_insert_21, j_X6_insert_23, j_X6_insert_26, j_X6_insert_28, j_X6_insert_31, j_X6_insert_33, j_X6_insert_36, j_X6_insert_37, j_X6_insert_38, j_X6_insert_44, j_X6_insert_53, j_X6_insert_56, j_X6_insert_59, j_X6_insert_61, j_X6_insert_63, j_X6_insert_66, j_X6_insert_69, j_X6_insert_71, j_X6_insert_73, j_X6_insert_76, j_X6_insert_79, j_X6_insert_86, j_X6_insert_88, j_X6_insert_91, j_X6_insert_93, j_X6_insert_96, j_X6_insert_98, j_X6_insert_101, j_X6_insert_104, j_X6_insert_111, j_X6_insert_113, j_X6_insert_115, j_X6_insert_117, j_X6_insert_120, en_c2I, en_c2R, en_c2U, en_c2D, Option.some.injEq, exists_eq_left', exists_eq_left, Option.map_some, Option.map_none, not_true_eq_false, false_implies, true_implies, and_true, true_and, reduceCtorEq, not_false_eq_true, true_or, or_true]
          exact this
theorem jp_X6_insert {G : en_G} : ∀ as σ, (C_X6_insert G).1 as σ → (en_lc as).length ≤ 7 ∧ en_J (X_X6_insert G (fun E σ' => XP_X6_insert G as σ E σ') (fun r σ' => (C_X6_insert G).2 as σ r σ')) 0 (en_loc 7 as) [] σ := en_ghJX (fun g as σ h => by
  obtain ⟨hp, h2⟩ := h
  subst h2
  exact ⟨Nat.le_of_ble_eq_true rfl, jl_X6_insert hp (fun _ _ h => h) (fun _ _ h => h)⟩)
theorem wl_X6_insert_57 : Jvm.Cond.methodLink RX6 57 yX6_nodeAt ∈ en_W := en_inW (List.mem_of_getElem? (i := 248) (by decide +kernel)) (by decide +kernel)
theorem wl_X6_insert_75 : Jvm.Cond.methodLink RX6 75 yX4_isElement ∈ en_W := en_inW (List.mem_of_getElem? (i := 452) (by decide +kernel)) (by decide +kernel)
theorem wl_X6_insert_79 : Jvm.Cond.methodLink RX6 79 yX4_isAtOrOver ∈ en_W := en_inW (List.mem_of_getElem? (i := 456) (by decide +kernel)) (by decide +kernel)
theorem wl_X6_insert_96 : Jvm.Cond.methodLink RX6 96 yX4_settle ∈ en_W := en_inW (List.mem_of_getElem? (i := 457) (by decide +kernel)) (by decide +kernel)
theorem okx_X6_insert {G : en_G} : en_OkX G 6 yX6_insert cX6_insert 7 none (C_X6_insert G) (XP_X6_insert G) :=
  en_metX (fl := en_lk fl6) (nw := en_lk nw6) (aw := en_lk aw6) (dc := en_lk dc6) (ca := en_lk (ca_X6_insert G)) (xt := en_lk xt_X6_insert) (rt := 0) (ini := false) (by decide +kernel) (Or.inl ⟨rfl, rfl⟩) (fun h => by cases h) rfl (fun q qx => en_LkX fl6_ok nw6_ok aw6_ok dc6_ok) (by
    intro idx q hq
    have hm := en_lk_mem hq
    simp only [ca_X6_insert, List.mem_cons, Prod.mk.injEq, List.not_mem_nil, or_false] at hm
    rcases hm with ⟨rfl, rfl⟩ | ⟨rfl, rfl⟩ | ⟨rfl, rfl⟩ | ⟨rfl, rfl⟩
    · exact en_clV (r := (RX6, TX6, 13)) 6 1 ok_X6_nodeAt (by decide) (by decide) rfl rfl pr_X6_nodeAt wl_X6_insert_57 wi_X6_nodeAt wx_X6_nodeAt wz_6 wc_X6_nodeAt ⟨by decide +kernel, by decide +kernel, by decide +kernel⟩
    · exact en_clV (r := (RX4, TX4, 12)) 4 0 ok_X4_isElement (by decide) (by decide) rfl rfl pr_X4_isElement wl_X6_insert_75 wi_X4_isElement wx_X4_isElement wz_4 wc_X4_isElement ⟨by decide +kernel, by decide +kernel, by decide +kernel⟩
    · exact en_clV (r := (RX4, TX4, 12)) 4 1 ok_X4_isAtOrOver (by decide) (by decide) rfl rfl pr_X4_isAtOrOver wl_X6_insert_79 wi_X4_isAtOrOver wx_X4_isAtOrOver wz_4 wc_X4_isAtOrOver ⟨by decide +kernel, by decide +kernel, by decide +kernel⟩
    · exact en_clV (r := (RX4, TX4, 12)) 4 2 ok_X4_settle (by decide) (by decide) rfl rfl pr_X4_settle wl_X6_insert_96 wi_X4_settle wx_X4_settle wz_4 wc_X4_settle ⟨by decide +kernel, by decide +kernel, by decide +kernel⟩) (by decide) th_X6_insert jp_X6_insert
