/-! THE REFERENCE moves nodes -/
def tkV (m a : Nat) : Prop := a ≠ m + 3 ∧ a ≠ m + 7 ∧ a ≠ m + 8
def TT (_ _ : Nat) : Prop := True
theorem rx_tree {m : Nat} {A : st_A} {σ σ' : en_S} (h : RX m A σ) {T : tr_T} (g : ag σ σ' TT (tkV m)) (s : sz σ σ') (hg : st_go A (su_T A T)) (ht : rd_tree m (su_T A T) σ') (h7 : ∀ n, tr_N (sa_T A) ≤ n → n < 24 → en_ai σ' (m + 7) n = 0) : RX m (su_T A T) σ' := by
  obtain ⟨c, h1, h2, h3, h4, h5, h6, h7', h8, w⟩ := h
  have x := rs_nx c
  have hN : tr_N T = tr_N (sa_T A) := hg.2.1.1
  have r : ∀ j, j < 42 → tkV m (m + j) → en_ai σ' (m + j) = en_ai σ (m + j) := fun j hj hv => ((g.2 _ (by omega)).2.2.2 hv).1
  refine ⟨c.ag g (s.fr (rs_fr c)) (fun _ _ => trivial), ht, fun n a b => ?_, fun n hn => ?_, fun n hn => ?_, h5.ag g x (fun j a b => by unfold tkV; omega), h6.ag g x (fun j a b => by unfold tkV; omega), h7'.ag g x trivial (by unfold tkV; omega), ?_, hg.1⟩
  · have a : tr_N (sa_T A) ≤ n := by rw [← hN]; exact a
    rw [r 6 (by decide) (by unfold tkV; omega), r 17 (by decide) (by unfold tkV; omega)]
    exact ⟨(h2 n a b).1, h7 n a b, (h2 n a b).2.2⟩
  · exact (h3.ag g x (by unfold tkV; omega)) n (by rw [← hN]; exact hn)
  · exact (h4.ag g x (fun j a b => by unfold tkV; omega)) n (by rw [← hN]; exact hn)
  · obtain ⟨q1, q2, q3⟩ := h8.ag g x ⟨trivial, trivial, trivial⟩
    exact ⟨by rw [q1]; show nI (tr_N (sa_T A)) = nI (tr_N T); rw [hN], q2, q3⟩
def P_X7_takeOut (G : en_G)  (g : (Nat) × (st_A) × (Nat)) (as : List en_V) (σ : en_S) : Prop := (RX (g.1) (g.2.1) σ ∧ (g.2.2) < tr_N (sa_T (g.2.1))) ∧ as = [en_R (some (g.1)), en_I (nI (g.2.2))]
def C_X7_takeOut (G : en_G)  : en_C := en_gh (P_X7_takeOut G) (fun g as σ v σ' => v = none ∧ RX (g.1) (su_T (g.2.1) (tr_leave (sa_T (g.2.1)) (g.2.2))) σ' ∧ ag σ σ' TT (tkV (g.1)) ∧ sz σ σ')
theorem pr_X7_takeOut {G : en_G}  : ∀ as σ, (C_X7_takeOut G).1 as σ → ∃ b tl, as = en_R (some b) :: tl ∧ en_cl σ b = some 7 ∧ tl.length = 1 := fun as σ ⟨g, hp, h2⟩ => ⟨_, _, h2, rs_c hp.1.1, rfl⟩
theorem cu_X7_takeOut {G : en_G}  {m : Nat} {A : st_A} {n : Nat} {σ : en_S} (hp : RX m A σ ∧ n < tr_N (sa_T A)) : en_Us (C_X7_takeOut G) [en_R (some m), en_I (nI n)] σ (fun v σ' => v = none ∧ RX m (su_T A (tr_leave (sa_T A) n)) σ' ∧ ag σ σ' TT (tkV m) ∧ sz σ σ') := ⟨⟨(m, A, n), hp, rfl⟩, fun v σ' q => q (m, A, n) ⟨hp, rfl⟩⟩
def ca_X7_takeOut (G : en_G) : List (Nat × Nat × en_C) := [(164, 9, (C_X7_placeOf G))]
def X_X7_takeOut (G : en_G) (q : Option en_V → en_S → Prop) : en_X := en_mk G cX7_takeOut (en_lk fl7) (en_lk nw7) (en_lk aw7) (en_lk dc7) (en_lk (ca_X7_takeOut G)) 0 false q
theorem d_X7_takeOut_0 : decode cX7_takeOut 0 = .ok (.aload_n 0, 1) := by decide +kernel
theorem j_X7_takeOut_0 {G : en_G} {q : Option en_V → en_S → Prop}  {l1 l2 l3 : en_V} {x0 : Option Nat} {σ : en_S} : en_J (X_X7_takeOut G q) 0 [en_R x0, l1, l2, l3] [] σ ↔ en_J (X_X7_takeOut G q) 1 [en_R x0, l1, l2, l3] [en_R x0] σ := en_j1 d_X7_takeOut_0 rfl rfl
theorem d_X7_takeOut_1 : decode cX7_takeOut 1 = .ok (.getfield 20, 3) := by decide +kernel
theorem j_X7_takeOut_1 {G : en_G} {q : Option en_V → en_S → Prop}  {l0 l1 l2 l3 : en_V} {a0 : Option Nat} {σ : en_S} : en_J (X_X7_takeOut G q) 1 [l0, l1, l2, l3] [en_R a0] σ ↔ ∃ a, a0 = some a ∧ en_cl σ a = some 7 ∧ en_J (X_X7_takeOut G q) 4 [l0, l1, l2, l3] [en_R (en_fr σ 704 a)] σ := en_jg (st := fun o => [en_R o]) (st' := fun a => [en_R (en_fr σ 704 a)]) (σ' := fun _ => σ) d_X7_takeOut_1 rfl (fun a => rfl) (fun a => ⟨fun h => h.2, fun h => ⟨rfl, h⟩⟩)
theorem d_X7_takeOut_4 : decode cX7_takeOut 4 = .ok (.iload_n 1, 1) := by decide +kernel
theorem j_X7_takeOut_4 {G : en_G} {q : Option en_V → en_S → Prop}  {l0 l2 l3 : en_V} {a0 : Option Nat} {x1 : Int32} {σ : en_S} : en_J (X_X7_takeOut G q) 4 [l0, en_I x1, l2, l3] [en_R a0] σ ↔ en_J (X_X7_takeOut G q) 5 [l0, en_I x1, l2, l3] [en_I x1, en_R a0] σ := en_j1 d_X7_takeOut_4 rfl rfl
theorem d_X7_takeOut_5 : decode cX7_takeOut 5 = .ok (.iaload, 1) := by decide +kernel
theorem j_X7_takeOut_5 {G : en_G} {q : Option en_V → en_S → Prop}  {l0 l1 l2 l3 : en_V} {a0 : Int32} {a1 : Option Nat} {σ : en_S} : en_J (X_X7_takeOut G q) 5 [l0, l1, l2, l3] [en_I a0, en_R a1] σ ↔ ∃ a, a1 = some a ∧ (∃ k, en_al σ a = some (0, k) ∧ vp_in a0 k) ∧ en_J (X_X7_takeOut G q) 6 [l0, l1, l2, l3] [en_I (en_ai σ a a0.toNatClampNeg)] σ := ej_iaload d_X7_takeOut_5 rfl
theorem d_X7_takeOut_6 : decode cX7_takeOut 6 = .ok (.istore_n 2, 1) := by decide +kernel
theorem j_X7_takeOut_6 {G : en_G} {q : Option en_V → en_S → Prop}  {l0 l1 l2 l3 : en_V} {a0 : Int32} {σ : en_S} : en_J (X_X7_takeOut G q) 6 [l0, l1, l2, l3] [en_I a0] σ ↔ en_J (X_X7_takeOut G q) 7 [l0, en_c2 l1, en_I a0, l3] [] σ := en_j1 d_X7_takeOut_6 rfl ⟨rfl, Nat.le_of_ble_eq_true rfl⟩
theorem d_X7_takeOut_7 : decode cX7_takeOut 7 = .ok (.iload_n 2, 1) := by decide +kernel
theorem j_X7_takeOut_7 {G : en_G} {q : Option en_V → en_S → Prop}  {l0 l1 l3 : en_V} {x2 : Int32} {σ : en_S} : en_J (X_X7_takeOut G q) 7 [l0, l1, en_I x2, l3] [] σ ↔ en_J (X_X7_takeOut G q) 8 [l0, l1, en_I x2, l3] [en_I x2] σ := en_j1 d_X7_takeOut_7 rfl rfl
theorem d_X7_takeOut_8 : decode cX7_takeOut 8 = .ok (.ifCond .ge 4, 3) := by decide +kernel
theorem j_X7_takeOut_8 {G : en_G} {q : Option en_V → en_S → Prop}  {l0 l1 l2 l3 : en_V} {a0 : Int32} {σ : en_S} : en_J (X_X7_takeOut G q) 8 [l0, l1, l2, l3] [en_I a0] σ ↔ (0 ≤ a0 → en_J (X_X7_takeOut G q) 12 [l0, l1, l2, l3] [] σ) ∧ (¬ (0 ≤ a0) → en_J (X_X7_takeOut G q) 11 [l0, l1, l2, l3] [] σ) := en_jb d_X7_takeOut_8 rfl ⟨rfl, by decide⟩
theorem d_X7_takeOut_11 : decode cX7_takeOut 11 = .ok (.return_, 1) := by decide +kernel
theorem j_X7_takeOut_11 {G : en_G} {q : Option en_V → en_S → Prop}  {l0 l1 l2 l3 : en_V}  {σ : en_S} : en_J (X_X7_takeOut G q) 11 [l0, l1, l2, l3] [] σ ↔ q none σ := en_jr d_X7_takeOut_11 rfl ⟨fun h => h.2.2, fun h => ⟨rfl, rfl, h⟩⟩
theorem d_X7_takeOut_12 : decode cX7_takeOut 12 = .ok (.aload_n 0, 1) := by decide +kernel
theorem j_X7_takeOut_12 {G : en_G} {q : Option en_V → en_S → Prop}  {l1 l2 l3 : en_V} {x0 : Option Nat} {σ : en_S} : en_J (X_X7_takeOut G q) 12 [en_R x0, l1, l2, l3] [] σ ↔ en_J (X_X7_takeOut G q) 13 [en_R x0, l1, l2, l3] [en_R x0] σ := en_j1 d_X7_takeOut_12 rfl rfl
theorem d_X7_takeOut_13 : decode cX7_takeOut 13 = .ok (.getfield 33, 3) := by decide +kernel
theorem j_X7_takeOut_13 {G : en_G} {q : Option en_V → en_S → Prop}  {l0 l1 l2 l3 : en_V} {a0 : Option Nat} {σ : en_S} : en_J (X_X7_takeOut G q) 13 [l0, l1, l2, l3] [en_R a0] σ ↔ ∃ a, a0 = some a ∧ en_cl σ a = some 7 ∧ en_J (X_X7_takeOut G q) 16 [l0, l1, l2, l3] [en_R (en_fr σ 708 a)] σ := en_jg (st := fun o => [en_R o]) (st' := fun a => [en_R (en_fr σ 708 a)]) (σ' := fun _ => σ) d_X7_takeOut_13 rfl (fun a => rfl) (fun a => ⟨fun h => h.2, fun h => ⟨rfl, h⟩⟩)
theorem d_X7_takeOut_16 : decode cX7_takeOut 16 = .ok (.iload_n 2, 1) := by decide +kernel
theorem j_X7_takeOut_16 {G : en_G} {q : Option en_V → en_S → Prop}  {l0 l1 l3 : en_V} {a0 : Option Nat} {x2 : Int32} {σ : en_S} : en_J (X_X7_takeOut G q) 16 [l0, l1, en_I x2, l3] [en_R a0] σ ↔ en_J (X_X7_takeOut G q) 17 [l0, l1, en_I x2, l3] [en_I x2, en_R a0] σ := en_j1 d_X7_takeOut_16 rfl rfl
theorem d_X7_takeOut_17 : decode cX7_takeOut 17 = .ok (.dup2, 1) := by decide +kernel
theorem j_X7_takeOut_17 {G : en_G} {q : Option en_V → en_S → Prop}  {l0 l1 l2 l3 : en_V} {a0 : Int32} {a1 : Option Nat} {σ : en_S} : en_J (X_X7_takeOut G q) 17 [l0, l1, l2, l3] [en_I a0, en_R a1] σ ↔ en_J (X_X7_takeOut G q) 18 [l0, l1, l2, l3] [en_I a0, en_R a1, en_I a0, en_R a1] σ := en_j1 d_X7_takeOut_17 rfl rfl
theorem d_X7_takeOut_18 : decode cX7_takeOut 18 = .ok (.iaload, 1) := by decide +kernel
theorem j_X7_takeOut_18 {G : en_G} {q : Option en_V → en_S → Prop}  {l0 l1 l2 l3 : en_V} {a0 : Int32} {a1 : Option Nat} {a2 : Int32} {a3 : Option Nat} {σ : en_S} : en_J (X_X7_takeOut G q) 18 [l0, l1, l2, l3] [en_I a0, en_R a1, en_I a2, en_R a3] σ ↔ ∃ a, a1 = some a ∧ (∃ k, en_al σ a = some (0, k) ∧ vp_in a0 k) ∧ en_J (X_X7_takeOut G q) 19 [l0, l1, l2, l3] [en_I (en_ai σ a a0.toNatClampNeg), en_I a2, en_R a3] σ := ej_iaload d_X7_takeOut_18 rfl
theorem d_X7_takeOut_19 : decode cX7_takeOut 19 = .ok (.iconst 1, 1) := by decide +kernel
theorem j_X7_takeOut_19 {G : en_G} {q : Option en_V → en_S → Prop}  {l0 l1 l2 l3 : en_V} {a0 : Int32} {a1 : Int32} {a2 : Option Nat} {σ : en_S} : en_J (X_X7_takeOut G q) 19 [l0, l1, l2, l3] [en_I a0, en_I a1, en_R a2] σ ↔ en_J (X_X7_takeOut G q) 20 [l0, l1, l2, l3] [en_I 1, en_I a0, en_I a1, en_R a2] σ := ej_iconst d_X7_takeOut_19 (by decide +kernel)
theorem d_X7_takeOut_20 : decode cX7_takeOut 20 = .ok (.isub, 1) := by decide +kernel
theorem j_X7_takeOut_20 {G : en_G} {q : Option en_V → en_S → Prop}  {l0 l1 l2 l3 : en_V} {a0 : Int32} {a1 : Int32} {a2 : Int32} {a3 : Option Nat} {σ : en_S} : en_J (X_X7_takeOut G q) 20 [l0, l1, l2, l3] [en_I a0, en_I a1, en_I a2, en_R a3] σ ↔ en_J (X_X7_takeOut G q) 21 [l0, l1, l2, l3] [en_I (a1 - a0), en_I a2, en_R a3] σ := en_j1 d_X7_takeOut_20 rfl ⟨rfl, trivial⟩
theorem d_X7_takeOut_21 : decode cX7_takeOut 21 = .ok (.iastore, 1) := by decide +kernel
theorem j_X7_takeOut_21 {G : en_G} {q : Option en_V → en_S → Prop}  {l0 l1 l2 l3 : en_V} {a0 : Int32} {a1 : Int32} {a2 : Option Nat} {σ : en_S} : en_J (X_X7_takeOut G q) 21 [l0, l1, l2, l3] [en_I a0, en_I a1, en_R a2] σ ↔ ∃ a, a2 = some a ∧ (∃ k, en_al σ a = some (0, k) ∧ vp_in a1 k) ∧ en_J (X_X7_takeOut G q) 22 [l0, l1, l2, l3] [] (en_sai σ a a1.toNatClampNeg a0) := ej_iastore d_X7_takeOut_21
theorem d_X7_takeOut_22 : decode cX7_takeOut 22 = .ok (.aload_n 0, 1) := by decide +kernel
theorem j_X7_takeOut_22 {G : en_G} {q : Option en_V → en_S → Prop}  {l1 l2 l3 : en_V} {x0 : Option Nat} {σ : en_S} : en_J (X_X7_takeOut G q) 22 [en_R x0, l1, l2, l3] [] σ ↔ en_J (X_X7_takeOut G q) 23 [en_R x0, l1, l2, l3] [en_R x0] σ := en_j1 d_X7_takeOut_22 rfl rfl
theorem d_X7_takeOut_23 : decode cX7_takeOut 23 = .ok (.iload_n 1, 1) := by decide +kernel
theorem j_X7_takeOut_23 {G : en_G} {q : Option en_V → en_S → Prop}  {l0 l2 l3 : en_V} {a0 : Option Nat} {x1 : Int32} {σ : en_S} : en_J (X_X7_takeOut G q) 23 [l0, en_I x1, l2, l3] [en_R a0] σ ↔ en_J (X_X7_takeOut G q) 24 [l0, en_I x1, l2, l3] [en_I x1, en_R a0] σ := en_j1 d_X7_takeOut_23 rfl rfl
theorem d_X7_takeOut_24 : decode cX7_takeOut 24 = .ok (.invokevirtual 164, 3) := by decide +kernel
theorem j_X7_takeOut_24 {G : en_G} {q : Option en_V → en_S → Prop}  {l0 l1 l2 l3 : en_V} {a0 : Int32} {a1 : Option Nat} {σ : en_S} : en_J (X_X7_takeOut G q) 24 [l0, l1, l2, l3] [en_I a0, en_R a1] σ ↔ (C_X7_placeOf G).1 [en_R a1, en_I a0] σ ∧ ∀ (r : Option en_V) (σ' : en_S), (C_X7_placeOf G).2 [en_R a1, en_I a0] σ r σ' → en_J (X_X7_takeOut G q) 27 [l0, l1, l2, l3] (r.toList ++ []) σ' := en_jkC (C := (C_X7_placeOf G)) (n' := 2) (k := 1) (idx := 164) d_X7_takeOut_24 rfl rfl (by decide) (Nat.le_of_ble_eq_true rfl) (Nat.le_of_ble_eq_true rfl)
theorem d_X7_takeOut_27 : decode cX7_takeOut 27 = .ok (.istore_n 3, 1) := by decide +kernel
theorem j_X7_takeOut_27 {G : en_G} {q : Option en_V → en_S → Prop}  {l0 l1 l2 l3 : en_V} {a0 : Int32} {σ : en_S} : en_J (X_X7_takeOut G q) 27 [l0, l1, l2, l3] [en_I a0] σ ↔ en_J (X_X7_takeOut G q) 28 [l0, l1, en_c2 l2, en_I a0] [] σ := en_j1 d_X7_takeOut_27 rfl ⟨rfl, Nat.le_of_ble_eq_true rfl⟩
theorem d_X7_takeOut_28 : decode cX7_takeOut 28 = .ok (.iload_n 3, 1) := by decide +kernel
theorem j_X7_takeOut_28 {G : en_G} {q : Option en_V → en_S → Prop}  {l0 l1 l2 : en_V} {x3 : Int32} {σ : en_S} : en_J (X_X7_takeOut G q) 28 [l0, l1, l2, en_I x3] [] σ ↔ en_J (X_X7_takeOut G q) 29 [l0, l1, l2, en_I x3] [en_I x3] σ := en_j1 d_X7_takeOut_28 rfl rfl
theorem d_X7_takeOut_29 : decode cX7_takeOut 29 = .ok (.aload_n 0, 1) := by decide +kernel
theorem j_X7_takeOut_29 {G : en_G} {q : Option en_V → en_S → Prop}  {l1 l2 l3 : en_V} {a0 : Int32} {x0 : Option Nat} {σ : en_S} : en_J (X_X7_takeOut G q) 29 [en_R x0, l1, l2, l3] [en_I a0] σ ↔ en_J (X_X7_takeOut G q) 30 [en_R x0, l1, l2, l3] [en_R x0, en_I a0] σ := en_j1 d_X7_takeOut_29 rfl rfl
theorem d_X7_takeOut_30 : decode cX7_takeOut 30 = .ok (.getfield 33, 3) := by decide +kernel
theorem j_X7_takeOut_30 {G : en_G} {q : Option en_V → en_S → Prop}  {l0 l1 l2 l3 : en_V} {a0 : Option Nat} {a1 : Int32} {σ : en_S} : en_J (X_X7_takeOut G q) 30 [l0, l1, l2, l3] [en_R a0, en_I a1] σ ↔ ∃ a, a0 = some a ∧ en_cl σ a = some 7 ∧ en_J (X_X7_takeOut G q) 33 [l0, l1, l2, l3] [en_R (en_fr σ 708 a), en_I a1] σ := en_jg (st := fun o => [en_R o, en_I a1]) (st' := fun a => [en_R (en_fr σ 708 a), en_I a1]) (σ' := fun _ => σ) d_X7_takeOut_30 rfl (fun a => rfl) (fun a => ⟨fun h => h.2, fun h => ⟨rfl, h⟩⟩)
theorem d_X7_takeOut_33 : decode cX7_takeOut 33 = .ok (.iload_n 2, 1) := by decide +kernel
theorem j_X7_takeOut_33 {G : en_G} {q : Option en_V → en_S → Prop}  {l0 l1 l3 : en_V} {a0 : Option Nat} {a1 : Int32} {x2 : Int32} {σ : en_S} : en_J (X_X7_takeOut G q) 33 [l0, l1, en_I x2, l3] [en_R a0, en_I a1] σ ↔ en_J (X_X7_takeOut G q) 34 [l0, l1, en_I x2, l3] [en_I x2, en_R a0, en_I a1] σ := en_j1 d_X7_takeOut_33 rfl rfl
theorem d_X7_takeOut_34 : decode cX7_takeOut 34 = .ok (.iaload, 1) := by decide +kernel
theorem j_X7_takeOut_34 {G : en_G} {q : Option en_V → en_S → Prop}  {l0 l1 l2 l3 : en_V} {a0 : Int32} {a1 : Option Nat} {a2 : Int32} {σ : en_S} : en_J (X_X7_takeOut G q) 34 [l0, l1, l2, l3] [en_I a0, en_R a1, en_I a2] σ ↔ ∃ a, a1 = some a ∧ (∃ k, en_al σ a = some (0, k) ∧ vp_in a0 k) ∧ en_J (X_X7_takeOut G q) 35 [l0, l1, l2, l3] [en_I (en_ai σ a a0.toNatClampNeg), en_I a2] σ := ej_iaload d_X7_takeOut_34 rfl
theorem d_X7_takeOut_35 : decode cX7_takeOut 35 = .ok (.if_icmp .ge 33, 3) := by decide +kernel
theorem j_X7_takeOut_35 {G : en_G} {q : Option en_V → en_S → Prop}  {l0 l1 l2 l3 : en_V} {a0 : Int32} {a1 : Int32} {σ : en_S} : en_J (X_X7_takeOut G q) 35 [l0, l1, l2, l3] [en_I a0, en_I a1] σ ↔ (a0 ≤ a1 → en_J (X_X7_takeOut G q) 68 [l0, l1, l2, l3] [] σ) ∧ (¬ (a0 ≤ a1) → en_J (X_X7_takeOut G q) 38 [l0, l1, l2, l3] [] σ) := en_jb d_X7_takeOut_35 rfl ⟨rfl, by decide⟩
theorem d_X7_takeOut_38 : decode cX7_takeOut 38 = .ok (.aload_n 0, 1) := by decide +kernel
theorem j_X7_takeOut_38 {G : en_G} {q : Option en_V → en_S → Prop}  {l1 l2 l3 : en_V} {x0 : Option Nat} {σ : en_S} : en_J (X_X7_takeOut G q) 38 [en_R x0, l1, l2, l3] [] σ ↔ en_J (X_X7_takeOut G q) 39 [en_R x0, l1, l2, l3] [en_R x0] σ := en_j1 d_X7_takeOut_38 rfl rfl
theorem d_X7_takeOut_39 : decode cX7_takeOut 39 = .ok (.getfield 36, 3) := by decide +kernel
theorem j_X7_takeOut_39 {G : en_G} {q : Option en_V → en_S → Prop}  {l0 l1 l2 l3 : en_V} {a0 : Option Nat} {σ : en_S} : en_J (X_X7_takeOut G q) 39 [l0, l1, l2, l3] [en_R a0] σ ↔ ∃ a, a0 = some a ∧ en_cl σ a = some 7 ∧ en_J (X_X7_takeOut G q) 42 [l0, l1, l2, l3] [en_R (en_fr σ 709 a)] σ := en_jg (st := fun o => [en_R o]) (st' := fun a => [en_R (en_fr σ 709 a)]) (σ' := fun _ => σ) d_X7_takeOut_39 rfl (fun a => rfl) (fun a => ⟨fun h => h.2, fun h => ⟨rfl, h⟩⟩)
theorem d_X7_takeOut_42 : decode cX7_takeOut 42 = .ok (.bipush 24, 2) := by decide +kernel
theorem j_X7_takeOut_42 {G : en_G} {q : Option en_V → en_S → Prop}  {l0 l1 l2 l3 : en_V} {a0 : Option Nat} {σ : en_S} : en_J (X_X7_takeOut G q) 42 [l0, l1, l2, l3] [en_R a0] σ ↔ en_J (X_X7_takeOut G q) 44 [l0, l1, l2, l3] [en_I 24, en_R a0] σ := ej_bipush d_X7_takeOut_42 (by decide +kernel)
theorem d_X7_takeOut_44 : decode cX7_takeOut 44 = .ok (.iload_n 2, 1) := by decide +kernel
theorem j_X7_takeOut_44 {G : en_G} {q : Option en_V → en_S → Prop}  {l0 l1 l3 : en_V} {a0 : Int32} {a1 : Option Nat} {x2 : Int32} {σ : en_S} : en_J (X_X7_takeOut G q) 44 [l0, l1, en_I x2, l3] [en_I a0, en_R a1] σ ↔ en_J (X_X7_takeOut G q) 45 [l0, l1, en_I x2, l3] [en_I x2, en_I a0, en_R a1] σ := en_j1 d_X7_takeOut_44 rfl rfl
theorem d_X7_takeOut_45 : decode cX7_takeOut 45 = .ok (.imul, 1) := by decide +kernel
theorem j_X7_takeOut_45 {G : en_G} {q : Option en_V → en_S → Prop}  {l0 l1 l2 l3 : en_V} {a0 : Int32} {a1 : Int32} {a2 : Option Nat} {σ : en_S} : en_J (X_X7_takeOut G q) 45 [l0, l1, l2, l3] [en_I a0, en_I a1, en_R a2] σ ↔ en_J (X_X7_takeOut G q) 46 [l0, l1, l2, l3] [en_I (a1 * a0), en_R a2] σ := en_j1 d_X7_takeOut_45 rfl ⟨rfl, trivial⟩
theorem d_X7_takeOut_46 : decode cX7_takeOut 46 = .ok (.iload_n 3, 1) := by decide +kernel
theorem j_X7_takeOut_46 {G : en_G} {q : Option en_V → en_S → Prop}  {l0 l1 l2 : en_V} {a0 : Int32} {a1 : Option Nat} {x3 : Int32} {σ : en_S} : en_J (X_X7_takeOut G q) 46 [l0, l1, l2, en_I x3] [en_I a0, en_R a1] σ ↔ en_J (X_X7_takeOut G q) 47 [l0, l1, l2, en_I x3] [en_I x3, en_I a0, en_R a1] σ := en_j1 d_X7_takeOut_46 rfl rfl
theorem d_X7_takeOut_47 : decode cX7_takeOut 47 = .ok (.iadd, 1) := by decide +kernel
theorem j_X7_takeOut_47 {G : en_G} {q : Option en_V → en_S → Prop}  {l0 l1 l2 l3 : en_V} {a0 : Int32} {a1 : Int32} {a2 : Option Nat} {σ : en_S} : en_J (X_X7_takeOut G q) 47 [l0, l1, l2, l3] [en_I a0, en_I a1, en_R a2] σ ↔ en_J (X_X7_takeOut G q) 48 [l0, l1, l2, l3] [en_I (a1 + a0), en_R a2] σ := en_j1 d_X7_takeOut_47 rfl ⟨rfl, trivial⟩
theorem d_X7_takeOut_48 : decode cX7_takeOut 48 = .ok (.aload_n 0, 1) := by decide +kernel
theorem j_X7_takeOut_48 {G : en_G} {q : Option en_V → en_S → Prop}  {l1 l2 l3 : en_V} {a0 : Int32} {a1 : Option Nat} {x0 : Option Nat} {σ : en_S} : en_J (X_X7_takeOut G q) 48 [en_R x0, l1, l2, l3] [en_I a0, en_R a1] σ ↔ en_J (X_X7_takeOut G q) 49 [en_R x0, l1, l2, l3] [en_R x0, en_I a0, en_R a1] σ := en_j1 d_X7_takeOut_48 rfl rfl
theorem d_X7_takeOut_49 : decode cX7_takeOut 49 = .ok (.getfield 36, 3) := by decide +kernel
theorem j_X7_takeOut_49 {G : en_G} {q : Option en_V → en_S → Prop}  {l0 l1 l2 l3 : en_V} {a0 : Option Nat} {a1 : Int32} {a2 : Option Nat} {σ : en_S} : en_J (X_X7_takeOut G q) 49 [l0, l1, l2, l3] [en_R a0, en_I a1, en_R a2] σ ↔ ∃ a, a0 = some a ∧ en_cl σ a = some 7 ∧ en_J (X_X7_takeOut G q) 52 [l0, l1, l2, l3] [en_R (en_fr σ 709 a), en_I a1, en_R a2] σ := en_jg (st := fun o => [en_R o, en_I a1, en_R a2]) (st' := fun a => [en_R (en_fr σ 709 a), en_I a1, en_R a2]) (σ' := fun _ => σ) d_X7_takeOut_49 rfl (fun a => rfl) (fun a => ⟨fun h => h.2, fun h => ⟨rfl, h⟩⟩)
theorem d_X7_takeOut_52 : decode cX7_takeOut 52 = .ok (.bipush 24, 2) := by decide +kernel
theorem j_X7_takeOut_52 {G : en_G} {q : Option en_V → en_S → Prop}  {l0 l1 l2 l3 : en_V} {a0 : Option Nat} {a1 : Int32} {a2 : Option Nat} {σ : en_S} : en_J (X_X7_takeOut G q) 52 [l0, l1, l2, l3] [en_R a0, en_I a1, en_R a2] σ ↔ en_J (X_X7_takeOut G q) 54 [l0, l1, l2, l3] [en_I 24, en_R a0, en_I a1, en_R a2] σ := ej_bipush d_X7_takeOut_52 (by decide +kernel)
theorem d_X7_takeOut_54 : decode cX7_takeOut 54 = .ok (.iload_n 2, 1) := by decide +kernel
theorem j_X7_takeOut_54 {G : en_G} {q : Option en_V → en_S → Prop}  {l0 l1 l3 : en_V} {a0 : Int32} {a1 : Option Nat} {a2 : Int32} {a3 : Option Nat} {x2 : Int32} {σ : en_S} : en_J (X_X7_takeOut G q) 54 [l0, l1, en_I x2, l3] [en_I a0, en_R a1, en_I a2, en_R a3] σ ↔ en_J (X_X7_takeOut G q) 55 [l0, l1, en_I x2, l3] [en_I x2, en_I a0, en_R a1, en_I a2, en_R a3] σ := en_j1 d_X7_takeOut_54 rfl rfl
theorem d_X7_takeOut_55 : decode cX7_takeOut 55 = .ok (.imul, 1) := by decide +kernel
theorem j_X7_takeOut_55 {G : en_G} {q : Option en_V → en_S → Prop}  {l0 l1 l2 l3 : en_V} {a0 : Int32} {a1 : Int32} {a2 : Option Nat} {a3 : Int32} {a4 : Option Nat} {σ : en_S} : en_J (X_X7_takeOut G q) 55 [l0, l1, l2, l3] [en_I a0, en_I a1, en_R a2, en_I a3, en_R a4] σ ↔ en_J (X_X7_takeOut G q) 56 [l0, l1, l2, l3] [en_I (a1 * a0), en_R a2, en_I a3, en_R a4] σ := en_j1 d_X7_takeOut_55 rfl ⟨rfl, trivial⟩
theorem d_X7_takeOut_56 : decode cX7_takeOut 56 = .ok (.iload_n 3, 1) := by decide +kernel
theorem j_X7_takeOut_56 {G : en_G} {q : Option en_V → en_S → Prop}  {l0 l1 l2 : en_V} {a0 : Int32} {a1 : Option Nat} {a2 : Int32} {a3 : Option Nat} {x3 : Int32} {σ : en_S} : en_J (X_X7_takeOut G q) 56 [l0, l1, l2, en_I x3] [en_I a0, en_R a1, en_I a2, en_R a3] σ ↔ en_J (X_X7_takeOut G q) 57 [l0, l1, l2, en_I x3] [en_I x3, en_I a0, en_R a1, en_I a2, en_R a3] σ := en_j1 d_X7_takeOut_56 rfl rfl
theorem d_X7_takeOut_57 : decode cX7_takeOut 57 = .ok (.iadd, 1) := by decide +kernel
theorem j_X7_takeOut_57 {G : en_G} {q : Option en_V → en_S → Prop}  {l0 l1 l2 l3 : en_V} {a0 : Int32} {a1 : Int32} {a2 : Option Nat} {a3 : Int32} {a4 : Option Nat} {σ : en_S} : en_J (X_X7_takeOut G q) 57 [l0, l1, l2, l3] [en_I a0, en_I a1, en_R a2, en_I a3, en_R a4] σ ↔ en_J (X_X7_takeOut G q) 58 [l0, l1, l2, l3] [en_I (a1 + a0), en_R a2, en_I a3, en_R a4] σ := en_j1 d_X7_takeOut_57 rfl ⟨rfl, trivial⟩
theorem d_X7_takeOut_58 : decode cX7_takeOut 58 = .ok (.iconst 1, 1) := by decide +kernel
theorem j_X7_takeOut_58 {G : en_G} {q : Option en_V → en_S → Prop}  {l0 l1 l2 l3 : en_V} {a0 : Int32} {a1 : Option Nat} {a2 : Int32} {a3 : Option Nat} {σ : en_S} : en_J (X_X7_takeOut G q) 58 [l0, l1, l2, l3] [en_I a0, en_R a1, en_I a2, en_R a3] σ ↔ en_J (X_X7_takeOut G q) 59 [l0, l1, l2, l3] [en_I 1, en_I a0, en_R a1, en_I a2, en_R a3] σ := ej_iconst d_X7_takeOut_58 (by decide +kernel)
theorem d_X7_takeOut_59 : decode cX7_takeOut 59 = .ok (.iadd, 1) := by decide +kernel
theorem j_X7_takeOut_59 {G : en_G} {q : Option en_V → en_S → Prop}  {l0 l1 l2 l3 : en_V} {a0 : Int32} {a1 : Int32} {a2 : Option Nat} {a3 : Int32} {a4 : Option Nat} {σ : en_S} : en_J (X_X7_takeOut G q) 59 [l0, l1, l2, l3] [en_I a0, en_I a1, en_R a2, en_I a3, en_R a4] σ ↔ en_J (X_X7_takeOut G q) 60 [l0, l1, l2, l3] [en_I (a1 + a0), en_R a2, en_I a3, en_R a4] σ := en_j1 d_X7_takeOut_59 rfl ⟨rfl, trivial⟩
theorem d_X7_takeOut_60 : decode cX7_takeOut 60 = .ok (.iaload, 1) := by decide +kernel
theorem j_X7_takeOut_60 {G : en_G} {q : Option en_V → en_S → Prop}  {l0 l1 l2 l3 : en_V} {a0 : Int32} {a1 : Option Nat} {a2 : Int32} {a3 : Option Nat} {σ : en_S} : en_J (X_X7_takeOut G q) 60 [l0, l1, l2, l3] [en_I a0, en_R a1, en_I a2, en_R a3] σ ↔ ∃ a, a1 = some a ∧ (∃ k, en_al σ a = some (0, k) ∧ vp_in a0 k) ∧ en_J (X_X7_takeOut G q) 61 [l0, l1, l2, l3] [en_I (en_ai σ a a0.toNatClampNeg), en_I a2, en_R a3] σ := ej_iaload d_X7_takeOut_60 rfl
theorem d_X7_takeOut_61 : decode cX7_takeOut 61 = .ok (.iastore, 1) := by decide +kernel
theorem j_X7_takeOut_61 {G : en_G} {q : Option en_V → en_S → Prop}  {l0 l1 l2 l3 : en_V} {a0 : Int32} {a1 : Int32} {a2 : Option Nat} {σ : en_S} : en_J (X_X7_takeOut G q) 61 [l0, l1, l2, l3] [en_I a0, en_I a1, en_R a2] σ ↔ ∃ a, a2 = some a ∧ (∃ k, en_al σ a = some (0, k) ∧ vp_in a1 k) ∧ en_J (X_X7_takeOut G q) 62 [l0, l1, l2, l3] [] (en_sai σ a a1.toNatClampNeg a0) := ej_iastore d_X7_takeOut_61
theorem d_X7_takeOut_62 : decode cX7_takeOut 62 = .ok (.iinc 3 1, 3) := by decide +kernel
theorem j_X7_takeOut_62 {G : en_G} {q : Option en_V → en_S → Prop}  {l0 l1 l2 : en_V} {x3 : Int32} {σ : en_S} : en_J (X_X7_takeOut G q) 62 [l0, l1, l2, en_I x3] [] σ ↔ en_J (X_X7_takeOut G q) 65 [l0, l1, en_c2 l2, en_I (x3 + 1)] [] σ := ej_iinc d_X7_takeOut_62 rfl (by decide +kernel) rfl
theorem d_X7_takeOut_65 : decode cX7_takeOut 65 = .ok (.goto (-37), 3) := by decide +kernel
theorem j_X7_takeOut_65 {G : en_G} {q : Option en_V → en_S → Prop}  {l0 l1 l2 l3 : en_V}  {σ : en_S} : en_J (X_X7_takeOut G q) 65 [l0, l1, l2, l3] [] σ ↔ en_J (X_X7_takeOut G q) 28 [l0, l1, l2, l3] [] σ := en_j1 d_X7_takeOut_65 rfl ⟨rfl, by decide⟩
theorem d_X7_takeOut_68 : decode cX7_takeOut 68 = .ok (.aload_n 0, 1) := by decide +kernel
theorem j_X7_takeOut_68 {G : en_G} {q : Option en_V → en_S → Prop}  {l1 l2 l3 : en_V} {x0 : Option Nat} {σ : en_S} : en_J (X_X7_takeOut G q) 68 [en_R x0, l1, l2, l3] [] σ ↔ en_J (X_X7_takeOut G q) 69 [en_R x0, l1, l2, l3] [en_R x0] σ := en_j1 d_X7_takeOut_68 rfl rfl
theorem d_X7_takeOut_69 : decode cX7_takeOut 69 = .ok (.getfield 20, 3) := by decide +kernel
theorem j_X7_takeOut_69 {G : en_G} {q : Option en_V → en_S → Prop}  {l0 l1 l2 l3 : en_V} {a0 : Option Nat} {σ : en_S} : en_J (X_X7_takeOut G q) 69 [l0, l1, l2, l3] [en_R a0] σ ↔ ∃ a, a0 = some a ∧ en_cl σ a = some 7 ∧ en_J (X_X7_takeOut G q) 72 [l0, l1, l2, l3] [en_R (en_fr σ 704 a)] σ := en_jg (st := fun o => [en_R o]) (st' := fun a => [en_R (en_fr σ 704 a)]) (σ' := fun _ => σ) d_X7_takeOut_69 rfl (fun a => rfl) (fun a => ⟨fun h => h.2, fun h => ⟨rfl, h⟩⟩)
theorem d_X7_takeOut_72 : decode cX7_takeOut 72 = .ok (.iload_n 1, 1) := by decide +kernel
theorem j_X7_takeOut_72 {G : en_G} {q : Option en_V → en_S → Prop}  {l0 l2 l3 : en_V} {a0 : Option Nat} {x1 : Int32} {σ : en_S} : en_J (X_X7_takeOut G q) 72 [l0, en_I x1, l2, l3] [en_R a0] σ ↔ en_J (X_X7_takeOut G q) 73 [l0, en_I x1, l2, l3] [en_I x1, en_R a0] σ := en_j1 d_X7_takeOut_72 rfl rfl
theorem d_X7_takeOut_73 : decode cX7_takeOut 73 = .ok (.iconst (-1), 1) := by decide +kernel
theorem j_X7_takeOut_73 {G : en_G} {q : Option en_V → en_S → Prop}  {l0 l1 l2 l3 : en_V} {a0 : Int32} {a1 : Option Nat} {σ : en_S} : en_J (X_X7_takeOut G q) 73 [l0, l1, l2, l3] [en_I a0, en_R a1] σ ↔ en_J (X_X7_takeOut G q) 74 [l0, l1, l2, l3] [en_I (-1), en_I a0, en_R a1] σ := ej_iconst d_X7_takeOut_73 (by decide +kernel)
theorem d_X7_takeOut_74 : decode cX7_takeOut 74 = .ok (.iastore, 1) := by decide +kernel
theorem j_X7_takeOut_74 {G : en_G} {q : Option en_V → en_S → Prop}  {l0 l1 l2 l3 : en_V} {a0 : Int32} {a1 : Int32} {a2 : Option Nat} {σ : en_S} : en_J (X_X7_takeOut G q) 74 [l0, l1, l2, l3] [en_I a0, en_I a1, en_R a2] σ ↔ ∃ a, a2 = some a ∧ (∃ k, en_al σ a = some (0, k) ∧ vp_in a1 k) ∧ en_J (X_X7_takeOut G q) 75 [l0, l1, l2, l3] [] (en_sai σ a a1.toNatClampNeg a0) := ej_iastore d_X7_takeOut_74
theorem d_X7_takeOut_75 : decode cX7_takeOut 75 = .ok (.return_, 1) := by decide +kernel
theorem j_X7_takeOut_75 {G : en_G} {q : Option en_V → en_S → Prop}  {l0 l1 l2 l3 : en_V}  {σ : en_S} : en_J (X_X7_takeOut G q) 75 [l0, l1, l2, l3] [] σ ↔ q none σ := en_jr d_X7_takeOut_75 rfl ⟨fun h => h.2.2, fun h => ⟨rfl, rfl, h⟩⟩
theorem wc_X7_takeOut : Jvm.Cond.code yX7_takeOut cX7_takeOut 4 none ∈ en_W := en_inW (List.mem_of_getElem? (i := 906) (by decide +kernel)) (by decide +kernel)
theorem wi_X7_takeOut : Jvm.Cond.instanceMethod yX7_takeOut ∈ en_W := en_inW (List.mem_of_getElem? (i := 905) (by decide +kernel)) (by decide +kernel)
theorem wx_X7_takeOut : Jvm.Cond.selects RX7 yX7_takeOut yX7_takeOut ∈ en_W := en_inW (List.mem_of_getElem? (i := 20) (by decide +kernel)) (by decide +kernel)
theorem jw_X7_takeOut {G : en_G} {q : Option en_V → en_S → Prop} {m : Nat} {A : st_A} {n p : Nat} {pre suf : List Nat} (hpl : p < tr_N (sa_T A)) (hn : n < tr_N (sa_T A)) (hl : tr_ch (sa_T A) p = pre ++ n :: suf) (hlen : (tr_ch (sa_T A) p).length ≤ 24) : ∀ (j k : Nat) (σ : en_S), rs_ok m σ → k + j = pre.length + suf.length → pre.length ≤ k → en_ai σ (m + 7) p = nI ((tr_ch (sa_T A) p).length - 1) → tr_N (sa_T A) ≤ 24 → (∀ i c, (if i < k then (pre ++ suf)[i]? else (tr_ch (sa_T A) p)[i]?) = some c → en_ai σ (m + 8) (24 * p + i) = nI c) → (∀ σ', ag σ σ' TT (tkV m) → sz σ σ' → (∀ i c, (pre ++ suf)[i]? = some c → en_ai σ' (m + 8) (24 * p + i) = nI c) → (∀ b i, (b ≠ m + 8 → en_ai σ' b i = en_ai σ b i) ∧ (¬ (24 * p ≤ i ∧ i < 24 * p + 24) → en_ai σ' b i = en_ai σ b i)) → q none (en_sai σ' (m + 3) n (-1))) → en_J (X_X7_takeOut G q) 28 [en_R (some m), en_I (nI n), en_I (nI p), en_I (nI k)] [] σ := by
  intro j
  induction j with
  | zero =>
    intro k σ hS hk hkp hkid hN hrow hq
    have hlenL : (tr_ch (sa_T A) p).length = pre.length + suf.length + 1 := by rw [hl]; simp; omega
    have m3 : vp_in (nI p) 24 := vp_in_nI (by omega) (by decide)
    have m4 : (nI p).toNatClampNeg = p := nI_clamp (by omega)
    have n3 : vp_in (nI n) 24 := vp_in_nI (by omega) (by decide)
    have n4 : (nI n).toNatClampNeg = n := nI_clamp (by omega)
    have n1 : nI ((tr_ch (sa_T A) p).length - 1) ≤ nI k := nI_le (by omega) (by omega)
    rw [j_X7_takeOut_28]
    simp only [j_X7_takeOut_0, j_X7_takeOut_1, j_X7_takeOut_4, j_X7_takeOut_5, j_X7_takeOut_6, j_X7_takeOut_7, j_X7_takeOut_8, j_X7_takeOut_11, j_X7_takeOut_12, j_X7_takeOut_13, j_X7_takeOut_16, j_X7_takeOut_17, j_X7_takeOut_18, j_X7_takeOut_19, j_X7_takeOut_20, j_X7_takeOut_21, j_X7_takeOut_22, j_X7_takeOut_23, j_X7_takeOut_24, j_X7_takeOut_27, j_X7_takeOut_29, j_X7_takeOut_30, j_X7_takeOut_33, j_X7_takeOut_34, j_X7_takeOut_35, j_X7_takeOut_38, j_X7_takeOut_39, j_X7_takeOut_42, j_X7_takeOut_44, j_X7_takeOut_45, j_X7_takeOut_46, j_X7_takeOut_47, j_X7_takeOut_48, j_X7_takeOut_49, j_X7_takeOut_52, j_X7_takeOut_54, j_X7_takeOut_55, j_X7_takeOut_56, j_X7_takeOut_57, j_X7_takeOut_58, j_X7_takeOut_59, j_X7_takeOut_60, j_X7_takeOut_61, j_X7_takeOut_62, j_X7_takeOut_65, j_X7_takeOut_68, j_X7_takeOut_69, j_X7_takeOut_72, j_X7_takeOut_73, j_X7_takeOut_74, j_X7_takeOut_75, en_c2I, en_c2R, en_c2U, en_c2D, Option.some.injEq, exists_eq_left', exists_eq_left, Option.map_some, Option.map_none, not_true_eq_false, false_implies, true_implies, and_true, true_and, reduceCtorEq, not_false_eq_true, rs_c hS, rs_f704 hS, rs_a3 hS, rs_f708 hS, rs_a7 hS, rs_f709 hS, rs_a8 hS, Prod.mk.injEq, m3, m4, n3, n4, hkid, n1]
    refine hq σ ag.rf sz.rf (fun i c hi => hrow i c ?_) (fun b i => ⟨fun _ => rfl, fun _ => rfl⟩)
    have hil := (List.getElem?_eq_some_iff.mp hi).1
    rw [List.length_append] at hil
    rw [if_pos (by omega)]; exact hi
  | succ j ih =>
    intro k σ hS hk hkp hkid hN hrow hq
    have hlenL : (tr_ch (sa_T A) p).length = pre.length + suf.length + 1 := by rw [hl]; simp; omega
    have m3 : vp_in (nI p) 24 := vp_in_nI (by omega) (by decide)
    have m4 : (nI p).toNatClampNeg = p := nI_clamp (by omega)
    have n1 : ¬ nI ((tr_ch (sa_T A) p).length - 1) ≤ nI k := nI_ge (by omega) (by omega)
    have e1 := i24 p k
    have e2 : nI (24 * p + k) + 1 = nI (24 * p + k + 1) := nI_1 _
    have a3 : vp_in (nI (24 * p + k)) 576 := vp_in_nI (by omega) (by decide)
    have a4 : (nI (24 * p + k)).toNatClampNeg = 24 * p + k := nI_clamp (by omega)
    have b3 : vp_in (nI (24 * p + k + 1)) 576 := vp_in_nI (by omega) (by decide)
    have b4 : (nI (24 * p + k + 1)).toNatClampNeg = 24 * p + k + 1 := nI_clamp (by omega)
    have n5 : nI k + 1 = nI (k + 1) := nI_1 _
    have hk1 : k + 1 < (tr_ch (sa_T A) p).length := by omega
    have hge : (tr_ch (sa_T A) p)[k + 1]? = some (tr_ch (sa_T A) p)[k + 1] := List.getElem?_eq_getElem hk1
    have hv := hrow (k + 1) _ (by rw [if_neg (by omega)]; exact hge)
    rw [show 24 * p + (k + 1) = 24 * p + k + 1 by omega] at hv
    have hsuf : (pre ++ suf)[k]? = some (tr_ch (sa_T A) p)[k + 1] := by
      rw [← hge, hl, List.getElem?_append_right hkp, List.getElem?_append_right (by omega), show k + 1 - pre.length = (k - pre.length) + 1 by omega, List.getElem?_cons_succ]
    rw [j_X7_takeOut_28]
    simp only [j_X7_takeOut_0, j_X7_takeOut_1, j_X7_takeOut_4, j_X7_takeOut_5, j_X7_takeOut_6, j_X7_takeOut_7, j_X7_takeOut_8, j_X7_takeOut_11, j_X7_takeOut_12, j_X7_takeOut_13, j_X7_takeOut_16, j_X7_takeOut_17, j_X7_takeOut_18, j_X7_takeOut_19, j_X7_takeOut_20, j_X7_takeOut_21, j_X7_takeOut_22, j_X7_takeOut_23, j_X7_takeOut_24, j_X7_takeOut_27, j_X7_takeOut_29, j_X7_takeOut_30, j_X7_takeOut_33, j_X7_takeOut_34, j_X7_takeOut_35, j_X7_takeOut_38, j_X7_takeOut_39, j_X7_takeOut_42, j_X7_takeOut_44, j_X7_takeOut_45, j_X7_takeOut_46, j_X7_takeOut_47, j_X7_takeOut_48, j_X7_takeOut_49, j_X7_takeOut_52, j_X7_takeOut_54, j_X7_takeOut_55, j_X7_takeOut_56, j_X7_takeOut_57, j_X7_takeOut_58, j_X7_takeOut_59, j_X7_takeOut_60, j_X7_takeOut_61, j_X7_takeOut_62, j_X7_takeOut_65, j_X7_takeOut_68, j_X7_takeOut_69, j_X7_takeOut_72, j_X7_takeOut_73, j_X7_takeOut_74, j_X7_takeOut_75, en_c2I, en_c2R, en_c2U, en_c2D, Option.some.injEq, exists_eq_left', exists_eq_left, Option.map_some, Option.map_none, not_true_eq_false, false_implies, true_implies, and_true, true_and, reduceCtorEq, not_false_eq_true, eg_cl_sfi, eg_fi_sfi, eg_fr_sfi, eg_fd_sfi, eg_al_sfi, eg_ai_sfi, eg_ar_sfi, eg_ad_sfi, eg_aj_sfi, eg_nx_sfi, eg_ns_sfi, eg_cl_sfr, eg_fi_sfr, eg_fr_sfr, eg_fd_sfr, eg_al_sfr, eg_ai_sfr, eg_ar_sfr, eg_ad_sfr, eg_aj_sfr, eg_nx_sfr, eg_ns_sfr, eg_cl_sfd, eg_fi_sfd, eg_fr_sfd, eg_fd_sfd, eg_al_sfd, eg_ai_sfd, eg_ar_sfd, eg_ad_sfd, eg_aj_sfd, eg_nx_sfd, eg_ns_sfd, eg_cl_sai, eg_fi_sai, eg_fr_sai, eg_fd_sai, eg_al_sai, eg_ai_sai, eg_ar_sai, eg_ad_sai, eg_aj_sai, eg_nx_sai, eg_ns_sai, eg_cl_sar, eg_fi_sar, eg_fr_sar, eg_fd_sar, eg_al_sar, eg_ai_sar, eg_ar_sar, eg_ad_sar, eg_aj_sar, eg_nx_sar, eg_ns_sar, eg_cl_sad, eg_fi_sad, eg_fr_sad, eg_fd_sad, eg_al_sad, eg_ai_sad, eg_ar_sad, eg_ad_sad, eg_aj_sad, eg_nx_sad, eg_ns_sad, eg_cl_saj, eg_fi_saj, eg_fr_saj, eg_fd_saj, eg_al_saj, eg_ai_saj, eg_ar_saj, eg_ad_saj, eg_aj_saj, eg_nx_saj, eg_ns_saj, eg_cl_new, eg_fi_new, eg_fr_new, eg_fd_new, eg_al_new, eg_ai_new, eg_ar_new, eg_ad_new, eg_aj_new, eg_nx_new, eg_ns_new, eg_cl_newa, eg_fi_newa, eg_fr_newa, eg_fd_newa, eg_al_newa, eg_ai_newa, eg_ar_newa, eg_ad_newa, eg_aj_newa, eg_nx_newa, eg_ns_newa, eg_cl_bump, eg_fi_bump, eg_fr_bump, eg_fd_bump, eg_al_bump, eg_ai_bump, eg_ar_bump, eg_ad_bump, eg_aj_bump, eg_nx_bump, eg_ns_bump, rs_c hS, rs_f704 hS, rs_a3 hS, rs_f708 hS, rs_a7 hS, rs_f709 hS, rs_a8 hS, Prod.mk.injEq, m3, m4, hkid, n1, e1, e2, a3, a4, b3, b4, n5, hv]
    have g1 : ag σ (en_sai σ (m + 8) (24 * p + k) (nI (tr_ch (sa_T A) p)[k + 1])) TT (tkV m) := ag_sai (fun z => by unfold tkV at z; omega)
    refine ih (k + 1) _ (hS.ag g1 (rs_fr hS) (fun _ _ => trivial)) (by omega) (by omega) (by rw [eg_ai_sai, if_neg (by omega)]; exact hkid) hN (fun i c hi => ?_) (fun σ' g2 s2 hr ho => ?_)
    · rw [eg_ai_sai]
      by_cases e : i = k
      · subst e
        rw [if_pos (by omega), hsuf] at hi
        rw [if_pos ⟨rfl, rfl⟩, Option.some.inj hi]
      · rw [if_neg (by omega)]
        refine hrow i c ?_
        by_cases e2 : i < k
        · rw [if_pos (by omega)] at hi; rw [if_pos e2]; exact hi
        · rw [if_neg (by omega)] at hi; rw [if_neg e2]; exact hi
    · refine hq σ' (g1.tr g2) (sz.tr ⟨rfl, rfl, rfl, rfl⟩ s2) hr (fun b i => ⟨fun hb => ?_, fun hi => ?_⟩)
      · rw [(ho b i).1 hb, eg_ai_sai, if_neg (fun z => hb z.1)]
      · rw [(ho b i).2 hi, eg_ai_sai, if_neg (by omega)]
theorem jl_X7_takeOut {G : en_G}  {m : Nat} {A : st_A} {n : Nat} {q : Option en_V → en_S → Prop} {σ : en_S} (hp : RX m A σ ∧ n < tr_N (sa_T A)) (hq : ∀ v σ', (v = none ∧ RX m (su_T A (tr_leave (sa_T A) n)) σ' ∧ ag σ σ' TT (tkV m) ∧ sz σ σ') → q v σ') : en_J (X_X7_takeOut G q) 0 [en_R (some m), en_I (nI n), en_U, en_U] [] σ := by
  obtain ⟨hR, hn⟩ := hp
  have hS := hR.1
  have w := hR.2.2.2.2.2.2.2.2.2
  have hw := w.1
  have hN := hw.1.2
  have n3 : vp_in (nI n) 24 := vp_in_nI (by omega) (by decide)
  have n4 : (nI n).toNatClampNeg = n := nI_clamp (by omega)
  obtain ⟨r1, r2, r3, r4, r5, r6, r7⟩ := hR.2.1 n hn
  cases hpa : tr_pa (sa_T A) n with
  | none =>
    rw [hpa] at r3
    rw [tr_leave_none hpa] at hq
    have z1 : ¬ (0 : Int32) ≤ -1 := by decide
    simp only [j_X7_takeOut_0, j_X7_takeOut_1, j_X7_takeOut_4, j_X7_takeOut_5, j_X7_takeOut_6, j_X7_takeOut_7, j_X7_takeOut_8, j_X7_takeOut_11, j_X7_takeOut_12, j_X7_takeOut_13, j_X7_takeOut_16, j_X7_takeOut_17, j_X7_takeOut_18, j_X7_takeOut_19, j_X7_takeOut_20, j_X7_takeOut_21, j_X7_takeOut_22, j_X7_takeOut_23, j_X7_takeOut_24, j_X7_takeOut_27, j_X7_takeOut_29, j_X7_takeOut_30, j_X7_takeOut_33, j_X7_takeOut_34, j_X7_takeOut_35, j_X7_takeOut_38, j_X7_takeOut_39, j_X7_takeOut_42, j_X7_takeOut_44, j_X7_takeOut_45, j_X7_takeOut_46, j_X7_takeOut_47, j_X7_takeOut_48, j_X7_takeOut_49, j_X7_takeOut_52, j_X7_takeOut_54, j_X7_takeOut_55, j_X7_takeOut_56, j_X7_takeOut_57, j_X7_takeOut_58, j_X7_takeOut_59, j_X7_takeOut_60, j_X7_takeOut_61, j_X7_takeOut_62, j_X7_takeOut_65, j_X7_takeOut_68, j_X7_takeOut_69, j_X7_takeOut_72, j_X7_takeOut_73, j_X7_takeOut_74, j_X7_takeOut_75, en_c2I, en_c2R, en_c2U, en_c2D, Option.some.injEq, exists_eq_left', exists_eq_left, Option.map_some, Option.map_none, not_true_eq_false, false_implies, true_implies, and_true, true_and, reduceCtorEq, not_false_eq_true, rs_c hS, rs_f704 hS, rs_a3 hS, rs_f708 hS, rs_a7 hS, rs_f709 hS, rs_a8 hS, Prod.mk.injEq, n3, n4, r3, st_num_none, z1]
    exact hq _ _ ⟨rfl, hR, ag.rf, sz.rf⟩
  | some p =>
    rw [hpa] at r3
    have hpl := tr_pa_lt hw hn hpa
    have hmem := (hw.2.1 n p hn hpa).2.1
    obtain ⟨p1, p2, p3, p4, p5, p6, p7⟩ := hR.2.1 p hpl
    have hlen := tr_len hw hpl
    have hl1 : 1 ≤ (tr_ch (sa_T A) p).length := List.length_pos_of_mem hmem
    have z1 : (0 : Int32) ≤ nI p := nI_pos' (by omega)
    have m3 : vp_in (nI p) 24 := vp_in_nI (by omega) (by decide)
    have m4 : (nI p).toNatClampNeg = p := nI_clamp (by omega)
    have e1 : nI (tr_ch (sa_T A) p).length - 1 = nI ((tr_ch (sa_T A) p).length - 1) := by
      rw [show (1 : Int32) = nI 1 from by decide +kernel]; exact pk_sub hl1
    have hchlt : ∀ j c, (tr_ch (sa_T A) p)[j]? = some c → c < tr_N (sa_T A) := fun j c hc => (hw.2.2.1 p c hpl (List.mem_of_getElem? hc)).1
    simp only [j_X7_takeOut_0, j_X7_takeOut_1, j_X7_takeOut_4, j_X7_takeOut_5, j_X7_takeOut_6, j_X7_takeOut_7, j_X7_takeOut_8, j_X7_takeOut_11, j_X7_takeOut_12, j_X7_takeOut_13, j_X7_takeOut_16, j_X7_takeOut_17, j_X7_takeOut_18, j_X7_takeOut_19, j_X7_takeOut_20, j_X7_takeOut_21, j_X7_takeOut_22, j_X7_takeOut_23, j_X7_takeOut_24, j_X7_takeOut_27, j_X7_takeOut_29, j_X7_takeOut_30, j_X7_takeOut_33, j_X7_takeOut_34, j_X7_takeOut_35, j_X7_takeOut_38, j_X7_takeOut_39, j_X7_takeOut_42, j_X7_takeOut_44, j_X7_takeOut_45, j_X7_takeOut_46, j_X7_takeOut_47, j_X7_takeOut_48, j_X7_takeOut_49, j_X7_takeOut_52, j_X7_takeOut_54, j_X7_takeOut_55, j_X7_takeOut_56, j_X7_takeOut_57, j_X7_takeOut_58, j_X7_takeOut_59, j_X7_takeOut_60, j_X7_takeOut_61, j_X7_takeOut_62, j_X7_takeOut_65, j_X7_takeOut_68, j_X7_takeOut_69, j_X7_takeOut_72, j_X7_takeOut_73, j_X7_takeOut_74, j_X7_takeOut_75, en_c2I, en_c2R, en_c2U, en_c2D, Option.some.injEq, exists_eq_left', exists_eq_left, Option.map_some, Option.map_none, not_true_eq_false, false_implies, true_implies, and_true, true_and, reduceCtorEq, not_false_eq_true, eg_cl_sfi, eg_fi_sfi, eg_fr_sfi, eg_fd_sfi, eg_al_sfi, eg_ai_sfi, eg_ar_sfi, eg_ad_sfi, eg_aj_sfi, eg_nx_sfi, eg_ns_sfi, eg_cl_sfr, eg_fi_sfr, eg_fr_sfr, eg_fd_sfr, eg_al_sfr, eg_ai_sfr, eg_ar_sfr, eg_ad_sfr, eg_aj_sfr, eg_nx_sfr, eg_ns_sfr, eg_cl_sfd, eg_fi_sfd, eg_fr_sfd, eg_fd_sfd, eg_al_sfd, eg_ai_sfd, eg_ar_sfd, eg_ad_sfd, eg_aj_sfd, eg_nx_sfd, eg_ns_sfd, eg_cl_sai, eg_fi_sai, eg_fr_sai, eg_fd_sai, eg_al_sai, eg_ai_sai, eg_ar_sai, eg_ad_sai, eg_aj_sai, eg_nx_sai, eg_ns_sai, eg_cl_sar, eg_fi_sar, eg_fr_sar, eg_fd_sar, eg_al_sar, eg_ai_sar, eg_ar_sar, eg_ad_sar, eg_aj_sar, eg_nx_sar, eg_ns_sar, eg_cl_sad, eg_fi_sad, eg_fr_sad, eg_fd_sad, eg_al_sad, eg_ai_sad, eg_ar_sad, eg_ad_sad, eg_aj_sad, eg_nx_sad, eg_ns_sad, eg_cl_saj, eg_fi_saj, eg_fr_saj, eg_fd_saj, eg_al_saj, eg_ai_saj, eg_ar_saj, eg_ad_saj, eg_aj_saj, eg_nx_saj, eg_ns_saj, eg_cl_new, eg_fi_new, eg_fr_new, eg_fd_new, eg_al_new, eg_ai_new, eg_ar_new, eg_ad_new, eg_aj_new, eg_nx_new, eg_ns_new, eg_cl_newa, eg_fi_newa, eg_fr_newa, eg_fd_newa, eg_al_newa, eg_ai_newa, eg_ar_newa, eg_ad_newa, eg_aj_newa, eg_nx_newa, eg_ns_newa, eg_cl_bump, eg_fi_bump, eg_fr_bump, eg_fd_bump, eg_al_bump, eg_ai_bump, eg_ar_bump, eg_ad_bump, eg_aj_bump, eg_nx_bump, eg_ns_bump, rs_c hS, rs_f704 hS, rs_a3 hS, rs_f708 hS, rs_a7 hS, rs_f709 hS, rs_a8 hS, Prod.mk.injEq, n3, n4, r3, st_num_some, z1, m3, m4, p6, e1]
    have g1 : ag σ (en_sai σ (m + 7) p (nI ((tr_ch (sa_T A) p).length - 1))) TT (tkV m) := ag_sai (fun z => by unfold tkV at z; omega)
    have hS1 : rs_ok m (en_sai σ (m + 7) p (nI ((tr_ch (sa_T A) p).length - 1))) := hS.ag g1 (rs_fr hS) (fun _ _ => trivial)
    have hu := cu_X7_placeOf (G := G) (n := n) (p := p) (l := tr_ch (sa_T A) p) (m := m) (σ := en_sai σ (m + 7) p (nI ((tr_ch (sa_T A) p).length - 1))) ⟨hS1, by omega, by omega, by rw [eg_ai_sai, if_neg (by omega)]; exact r3, fun j c hc => ⟨by rw [eg_ai_sai, if_neg (by omega)]; exact p7 j c hc, by have := hchlt j c hc; omega⟩, hlen, hmem⟩
    refine en_use hu ?_
    rintro v σ1 ⟨rfl, pre, suf, hl, hnp, rfl⟩
    have hnd := hw.2.2.2.1 p hpl
    have hlenL : (tr_ch (sa_T A) p).length = pre.length + suf.length + 1 := by rw [hl]; simp; omega
    simp only [Option.toList, List.cons_append, List.nil_append, j_X7_takeOut_0, j_X7_takeOut_1, j_X7_takeOut_4, j_X7_takeOut_5, j_X7_takeOut_6, j_X7_takeOut_7, j_X7_takeOut_8, j_X7_takeOut_11, j_X7_takeOut_12, j_X7_takeOut_13, j_X7_takeOut_16, j_X7_takeOut_17, j_X7_takeOut_18, j_X7_takeOut_19, j_X7_takeOut_20, j_X7_takeOut_21, j_X7_takeOut_22, j_X7_takeOut_23, j_X7_takeOut_24, j_X7_takeOut_27, j_X7_takeOut_29, j_X7_takeOut_30, j_X7_takeOut_33, j_X7_takeOut_34, j_X7_takeOut_35, j_X7_takeOut_38, j_X7_takeOut_39, j_X7_takeOut_42, j_X7_takeOut_44, j_X7_takeOut_45, j_X7_takeOut_46, j_X7_takeOut_47, j_X7_takeOut_48, j_X7_takeOut_49, j_X7_takeOut_52, j_X7_takeOut_54, j_X7_takeOut_55, j_X7_takeOut_56, j_X7_takeOut_57, j_X7_takeOut_58, j_X7_takeOut_59, j_X7_takeOut_60, j_X7_takeOut_61, j_X7_takeOut_62, j_X7_takeOut_65, j_X7_takeOut_68, j_X7_takeOut_69, j_X7_takeOut_72, j_X7_takeOut_73, j_X7_takeOut_74, j_X7_takeOut_75, en_c2I, en_c2R, en_c2U, en_c2D, Option.some.injEq, exists_eq_left', exists_eq_left, Option.map_some, Option.map_none, not_true_eq_false, false_implies, true_implies, and_true, true_and, reduceCtorEq, not_false_eq_true]
    refine jw_X7_takeOut (q := q) (n := n) hpl hn hl hlen suf.length pre.length (en_sai σ (m + 7) p (nI ((tr_ch (sa_T A) p).length - 1))) hS1 (by omega) (Nat.le_refl _) (by rw [eg_ai_sai, if_pos ⟨rfl, rfl⟩]) (by omega) (fun j c hj => ?_) ?_
    · split at hj
      · rename_i hlt
        rw [eg_ai_sai, if_neg (by omega)]
        refine p7 j c ?_
        rw [hl, List.getElem?_append_left hlt]
        rw [List.getElem?_append_left hlt] at hj
        exact hj
      · rw [eg_ai_sai, if_neg (by omega)]
        exact p7 j c hj
    intro σ2 g2 s2 hrow hoth
    have g12 : ag σ (en_sai σ2 (m + 3) n (-1)) TT (tkV m) := (g1.tr g2).tr (ag_sai (fun z => by unfold tkV at z; omega))
    have s12 : sz σ (en_sai σ2 (m + 3) n (-1)) := sz.tr ⟨rfl, rfl, rfl, rfl⟩ (sz.tr s2 ⟨rfl, rfl, rfl, rfl⟩)
    have x := rs_nx hS
    refine hq _ _ ⟨rfl, rx_tree hR g12 s12 (st_go_leave w hn) ?_ ?_, g12, s12⟩
    · intro k hk
      obtain ⟨k1, k2, k3, k4, k5, k6, k7⟩ := hR.2.1 k hk
      have rr : ∀ j, j < 42 → tkV m (m + j) → en_ai (en_sai σ2 (m + 3) n (-1)) (m + j) = en_ai σ (m + j) := fun j hj hv => ((g12.2 _ (by omega)).2.2.2 hv).1
      refine ⟨by rw [rr 1 (by decide) (by unfold tkV; omega)]; exact k1, fun he => by rw [rr 2 (by decide) (by unfold tkV; omega)]; exact k2 he, ?_, by rw [rr 4 (by decide) (by unfold tkV; omega)]; exact k4, by rw [rr 5 (by decide) (by unfold tkV; omega)]; exact k5, ?_, ?_⟩
      · show _ = st_num (if k = n then none else tr_pa (sa_T A) k)
        rw [eg_ai_sai, (hoth (m + 3) k).1 (by omega)]
        by_cases e : k = n
        · rw [if_pos ⟨rfl, e⟩, if_pos e]; rfl
        · rw [if_neg (fun z => e z.2), if_neg e, eg_ai_sai, if_neg (by omega)]; exact k3
      · show _ = nI (if tr_pa (sa_T A) n = some k then (tr_ch (sa_T A) k).erase n else tr_ch (sa_T A) k).length
        rw [eg_ai_sai, if_neg (by omega), (hoth (m + 7) k).1 (by omega), eg_ai_sai]
        by_cases e : k = p
        · subst e
          rw [if_pos ⟨rfl, rfl⟩, if_pos hpa, List.length_erase_of_mem hmem]
        · rw [if_neg (fun z => e z.2), if_neg (fun z => e (by rw [hpa] at z; exact (Option.some.inj z).symm))]; exact k6
      · intro j c hc
        have hc' : (if tr_pa (sa_T A) n = some k then (tr_ch (sa_T A) k).erase n else tr_ch (sa_T A) k)[j]? = some c := hc
        rw [eg_ai_sai, if_neg (by omega)]
        by_cases e : k = p
        · subst e
          rw [if_pos hpa, hl, tr_erase hnp] at hc'
          exact hrow j c hc'
        · rw [if_neg (fun z => e (by rw [hpa] at z; exact (Option.some.inj z).symm))] at hc'
          have hjl := (List.getElem?_eq_some_iff.mp hc').1
          have hkl := tr_len hw hk
          rw [(hoth (m + 8) (24 * k + j)).2 (by omega), eg_ai_sai, if_neg (by omega)]
          exact k7 j c hc'
    · intro k a b
      rw [eg_ai_sai, if_neg (by omega), (hoth (m + 7) k).1 (by omega), eg_ai_sai, if_neg (by omega)]
      exact (hR.2.2.1 k a b).2.1
theorem jp_X7_takeOut {G : en_G}  : ∀ as σ, (C_X7_takeOut G).1 as σ → (en_lc as).length ≤ 4 ∧ en_J (X_X7_takeOut G (fun r σ' => (C_X7_takeOut G).2 as σ r σ')) 0 (en_loc 4 as) [] σ := en_ghJ (fun g as σ h => by
  obtain ⟨hp, h2⟩ := h
  subst h2
  exact ⟨Nat.le_of_ble_eq_true rfl, jl_X7_takeOut hp (fun _ _ h => h)⟩)
theorem wl_X7_takeOut_164 : Jvm.Cond.methodLink RX7 164 yX7_placeOf ∈ en_W := en_inW (List.mem_of_getElem? (i := 907) (by decide +kernel)) (by decide +kernel)
theorem ok_X7_takeOut {G : en_G}  : en_Ok G 2 yX7_takeOut cX7_takeOut 4 none (C_X7_takeOut G) :=
  en_met (own := RX7) (fl := en_lk fl7) (nw := en_lk nw7) (aw := en_lk aw7) (dc := en_lk dc7) (ca := en_lk (ca_X7_takeOut G)) (rt := 0) (ini := false) (by decide +kernel) (Or.inl ⟨rfl, rfl⟩) (fun h => by cases h) rfl (fun q => en_LkF fl7_ok nw7_ok aw7_ok dc7_ok) (by
    intro idx q hq
    have hm := en_lk_mem hq
    simp only [ca_X7_takeOut, List.mem_cons, Prod.mk.injEq, List.not_mem_nil, or_false] at hm
    rcases hm with ⟨rfl, rfl⟩
    · exact en_clV (r := (RX7, TX7, 53)) 7 1 ok_X7_placeOf (by decide) (by decide) rfl rfl pr_X7_placeOf wl_X7_takeOut_164 wi_X7_placeOf wx_X7_placeOf wz_7 wc_X7_placeOf ⟨by decide +kernel, by decide +kernel, by decide +kernel⟩) jp_X7_takeOut
theorem tr_insB_split {pre suf : List Nat} {n f : Nat} (h : f ∉ pre) : tr_insB (pre ++ f :: suf) n f = pre ++ n :: f :: suf := by
  induction pre with
  | nil => simp [tr_insB]
  | cons a pre ih =>
    have h1 : ¬ a = f := fun z => h (by rw [z]; exact List.mem_cons_self)
    rw [List.cons_append, tr_insB, if_neg h1, ih (fun z => h (List.mem_cons_of_mem _ z))]
    rfl
def P_X7_putIn (G : en_G)  (g : (Nat) × (st_A) × (Nat) × (Nat) × (Option Nat)) (as : List en_V) (σ : en_S) : Prop := (RX (g.1) (g.2.1) σ ∧ (g.2.2.2.1) < tr_N (sa_T (g.2.1)) ∧ (g.2.2.1) < tr_N (sa_T (g.2.1)) ∧ tr_el (sa_T (g.2.1)) (g.2.2.2.1) ∧ tr_over (sa_T (g.2.1)) (g.2.2.2.1) (g.2.2.1) = false ∧ (∀ f, (g.2.2.2.2) = some f → f ∈ tr_ch (sa_T (g.2.1)) (g.2.2.1) ∧ f ≠ (g.2.2.2.1))) ∧ as = [en_R (some (g.1)), en_I (nI (g.2.2.1)), en_I (nI (g.2.2.2.1)), en_I (st_num (g.2.2.2.2))]
def C_X7_putIn (G : en_G)  : en_C := en_gh (P_X7_putIn G) (fun g as σ v σ' => v = none ∧ RX (g.1) (su_T (g.2.1) (tr_ins (sa_T (g.2.1)) (g.2.2.2.1) (g.2.2.1) (g.2.2.2.2))) σ' ∧ ag σ σ' TT (tkV (g.1)) ∧ sz σ σ')
theorem pr_X7_putIn {G : en_G}  : ∀ as σ, (C_X7_putIn G).1 as σ → ∃ b tl, as = en_R (some b) :: tl ∧ en_cl σ b = some 7 ∧ tl.length = 3 := fun as σ ⟨g, hp, h2⟩ => ⟨_, _, h2, rs_c hp.1.1, rfl⟩
theorem cu_X7_putIn {G : en_G}  {m : Nat} {A : st_A} {p : Nat} {n : Nat} {fo : Option Nat} {σ : en_S} (hp : RX m A σ ∧ n < tr_N (sa_T A) ∧ p < tr_N (sa_T A) ∧ tr_el (sa_T A) n ∧ tr_over (sa_T A) n p = false ∧ (∀ f, fo = some f → f ∈ tr_ch (sa_T A) p ∧ f ≠ n)) : en_Us (C_X7_putIn G) [en_R (some m), en_I (nI p), en_I (nI n), en_I (st_num fo)] σ (fun v σ' => v = none ∧ RX m (su_T A (tr_ins (sa_T A) n p fo)) σ' ∧ ag σ σ' TT (tkV m) ∧ sz σ σ') := ⟨⟨(m, A, p, n, fo), hp, rfl⟩, fun v σ' q => q (m, A, p, n, fo) ⟨hp, rfl⟩⟩
def ca_X7_putIn (G : en_G) : List (Nat × Nat × en_C) := [(167, 9, (C_X7_takeOut G)), (164, 9, (C_X7_placeOf G))]
def X_X7_putIn (G : en_G) (q : Option en_V → en_S → Prop) : en_X := en_mk G cX7_putIn (en_lk fl7) (en_lk nw7) (en_lk aw7) (en_lk dc7) (en_lk (ca_X7_putIn G)) 0 false q
theorem d_X7_putIn_0 : decode cX7_putIn 0 = .ok (.aload_n 0, 1) := by decide +kernel
theorem j_X7_putIn_0 {G : en_G} {q : Option en_V → en_S → Prop}  {l1 l2 l3 l4 l5 : en_V} {x0 : Option Nat} {σ : en_S} : en_J (X_X7_putIn G q) 0 [en_R x0, l1, l2, l3, l4, l5] [] σ ↔ en_J (X_X7_putIn G q) 1 [en_R x0, l1, l2, l3, l4, l5] [en_R x0] σ := en_j1 d_X7_putIn_0 rfl rfl
theorem d_X7_putIn_1 : decode cX7_putIn 1 = .ok (.iload_n 2, 1) := by decide +kernel
theorem j_X7_putIn_1 {G : en_G} {q : Option en_V → en_S → Prop}  {l0 l1 l3 l4 l5 : en_V} {a0 : Option Nat} {x2 : Int32} {σ : en_S} : en_J (X_X7_putIn G q) 1 [l0, l1, en_I x2, l3, l4, l5] [en_R a0] σ ↔ en_J (X_X7_putIn G q) 2 [l0, l1, en_I x2, l3, l4, l5] [en_I x2, en_R a0] σ := en_j1 d_X7_putIn_1 rfl rfl
theorem d_X7_putIn_2 : decode cX7_putIn 2 = .ok (.invokevirtual 167, 3) := by decide +kernel
theorem j_X7_putIn_2 {G : en_G} {q : Option en_V → en_S → Prop}  {l0 l1 l2 l3 l4 l5 : en_V} {a0 : Int32} {a1 : Option Nat} {σ : en_S} : en_J (X_X7_putIn G q) 2 [l0, l1, l2, l3, l4, l5] [en_I a0, en_R a1] σ ↔ (C_X7_takeOut G).1 [en_R a1, en_I a0] σ ∧ ∀ (r : Option en_V) (σ' : en_S), (C_X7_takeOut G).2 [en_R a1, en_I a0] σ r σ' → en_J (X_X7_putIn G q) 5 [l0, l1, l2, l3, l4, l5] (r.toList ++ []) σ' := en_jkC (C := (C_X7_takeOut G)) (n' := 2) (k := 1) (idx := 167) d_X7_putIn_2 rfl rfl (by decide) (Nat.le_of_ble_eq_true rfl) (Nat.le_of_ble_eq_true rfl)
theorem d_X7_putIn_5 : decode cX7_putIn 5 = .ok (.iload_n 3, 1) := by decide +kernel
theorem j_X7_putIn_5 {G : en_G} {q : Option en_V → en_S → Prop}  {l0 l1 l2 l4 l5 : en_V} {x3 : Int32} {σ : en_S} : en_J (X_X7_putIn G q) 5 [l0, l1, l2, en_I x3, l4, l5] [] σ ↔ en_J (X_X7_putIn G q) 6 [l0, l1, l2, en_I x3, l4, l5] [en_I x3] σ := en_j1 d_X7_putIn_5 rfl rfl
theorem d_X7_putIn_6 : decode cX7_putIn 6 = .ok (.ifCond .ge 12, 3) := by decide +kernel
theorem j_X7_putIn_6 {G : en_G} {q : Option en_V → en_S → Prop}  {l0 l1 l2 l3 l4 l5 : en_V} {a0 : Int32} {σ : en_S} : en_J (X_X7_putIn G q) 6 [l0, l1, l2, l3, l4, l5] [en_I a0] σ ↔ (0 ≤ a0 → en_J (X_X7_putIn G q) 18 [l0, l1, l2, l3, l4, l5] [] σ) ∧ (¬ (0 ≤ a0) → en_J (X_X7_putIn G q) 9 [l0, l1, l2, l3, l4, l5] [] σ) := en_jb d_X7_putIn_6 rfl ⟨rfl, by decide⟩
theorem d_X7_putIn_9 : decode cX7_putIn 9 = .ok (.aload_n 0, 1) := by decide +kernel
theorem j_X7_putIn_9 {G : en_G} {q : Option en_V → en_S → Prop}  {l1 l2 l3 l4 l5 : en_V} {x0 : Option Nat} {σ : en_S} : en_J (X_X7_putIn G q) 9 [en_R x0, l1, l2, l3, l4, l5] [] σ ↔ en_J (X_X7_putIn G q) 10 [en_R x0, l1, l2, l3, l4, l5] [en_R x0] σ := en_j1 d_X7_putIn_9 rfl rfl
theorem d_X7_putIn_10 : decode cX7_putIn 10 = .ok (.getfield 33, 3) := by decide +kernel
theorem j_X7_putIn_10 {G : en_G} {q : Option en_V → en_S → Prop}  {l0 l1 l2 l3 l4 l5 : en_V} {a0 : Option Nat} {σ : en_S} : en_J (X_X7_putIn G q) 10 [l0, l1, l2, l3, l4, l5] [en_R a0] σ ↔ ∃ a, a0 = some a ∧ en_cl σ a = some 7 ∧ en_J (X_X7_putIn G q) 13 [l0, l1, l2, l3, l4, l5] [en_R (en_fr σ 708 a)] σ := en_jg (st := fun o => [en_R o]) (st' := fun a => [en_R (en_fr σ 708 a)]) (σ' := fun _ => σ) d_X7_putIn_10 rfl (fun a => rfl) (fun a => ⟨fun h => h.2, fun h => ⟨rfl, h⟩⟩)
theorem d_X7_putIn_13 : decode cX7_putIn 13 = .ok (.iload_n 1, 1) := by decide +kernel
theorem j_X7_putIn_13 {G : en_G} {q : Option en_V → en_S → Prop}  {l0 l2 l3 l4 l5 : en_V} {a0 : Option Nat} {x1 : Int32} {σ : en_S} : en_J (X_X7_putIn G q) 13 [l0, en_I x1, l2, l3, l4, l5] [en_R a0] σ ↔ en_J (X_X7_putIn G q) 14 [l0, en_I x1, l2, l3, l4, l5] [en_I x1, en_R a0] σ := en_j1 d_X7_putIn_13 rfl rfl
theorem d_X7_putIn_14 : decode cX7_putIn 14 = .ok (.iaload, 1) := by decide +kernel
theorem j_X7_putIn_14 {G : en_G} {q : Option en_V → en_S → Prop}  {l0 l1 l2 l3 l4 l5 : en_V} {a0 : Int32} {a1 : Option Nat} {σ : en_S} : en_J (X_X7_putIn G q) 14 [l0, l1, l2, l3, l4, l5] [en_I a0, en_R a1] σ ↔ ∃ a, a1 = some a ∧ (∃ k, en_al σ a = some (0, k) ∧ vp_in a0 k) ∧ en_J (X_X7_putIn G q) 15 [l0, l1, l2, l3, l4, l5] [en_I (en_ai σ a a0.toNatClampNeg)] σ := ej_iaload d_X7_putIn_14 rfl
theorem d_X7_putIn_15 : decode cX7_putIn 15 = .ok (.goto 8, 3) := by decide +kernel
theorem j_X7_putIn_15 {G : en_G} {q : Option en_V → en_S → Prop}  {l0 l1 l2 l3 l4 l5 : en_V} {a0 : Int32} {σ : en_S} : en_J (X_X7_putIn G q) 15 [l0, l1, l2, l3, l4, l5] [en_I a0] σ ↔ en_J (X_X7_putIn G q) 23 [l0, l1, l2, l3, l4, l5] [en_I a0] σ := en_j1 d_X7_putIn_15 rfl ⟨rfl, by decide⟩
theorem d_X7_putIn_18 : decode cX7_putIn 18 = .ok (.aload_n 0, 1) := by decide +kernel
theorem j_X7_putIn_18 {G : en_G} {q : Option en_V → en_S → Prop}  {l1 l2 l3 l4 l5 : en_V} {x0 : Option Nat} {σ : en_S} : en_J (X_X7_putIn G q) 18 [en_R x0, l1, l2, l3, l4, l5] [] σ ↔ en_J (X_X7_putIn G q) 19 [en_R x0, l1, l2, l3, l4, l5] [en_R x0] σ := en_j1 d_X7_putIn_18 rfl rfl
theorem d_X7_putIn_19 : decode cX7_putIn 19 = .ok (.iload_n 3, 1) := by decide +kernel
theorem j_X7_putIn_19 {G : en_G} {q : Option en_V → en_S → Prop}  {l0 l1 l2 l4 l5 : en_V} {a0 : Option Nat} {x3 : Int32} {σ : en_S} : en_J (X_X7_putIn G q) 19 [l0, l1, l2, en_I x3, l4, l5] [en_R a0] σ ↔ en_J (X_X7_putIn G q) 20 [l0, l1, l2, en_I x3, l4, l5] [en_I x3, en_R a0] σ := en_j1 d_X7_putIn_19 rfl rfl
theorem d_X7_putIn_20 : decode cX7_putIn 20 = .ok (.invokevirtual 164, 3) := by decide +kernel
theorem j_X7_putIn_20 {G : en_G} {q : Option en_V → en_S → Prop}  {l0 l1 l2 l3 l4 l5 : en_V} {a0 : Int32} {a1 : Option Nat} {σ : en_S} : en_J (X_X7_putIn G q) 20 [l0, l1, l2, l3, l4, l5] [en_I a0, en_R a1] σ ↔ (C_X7_placeOf G).1 [en_R a1, en_I a0] σ ∧ ∀ (r : Option en_V) (σ' : en_S), (C_X7_placeOf G).2 [en_R a1, en_I a0] σ r σ' → en_J (X_X7_putIn G q) 23 [l0, l1, l2, l3, l4, l5] (r.toList ++ []) σ' := en_jkC (C := (C_X7_placeOf G)) (n' := 2) (k := 1) (idx := 164) d_X7_putIn_20 rfl rfl (by decide) (Nat.le_of_ble_eq_true rfl) (Nat.le_of_ble_eq_true rfl)
theorem d_X7_putIn_23 : decode cX7_putIn 23 = .ok (.istore 4, 2) := by decide +kernel
theorem j_X7_putIn_23 {G : en_G} {q : Option en_V → en_S → Prop}  {l0 l1 l2 l3 l4 l5 : en_V} {a0 : Int32} {σ : en_S} : en_J (X_X7_putIn G q) 23 [l0, l1, l2, l3, l4, l5] [en_I a0] σ ↔ en_J (X_X7_putIn G q) 25 [l0, l1, l2, en_c2 l3, en_I a0, l5] [] σ := en_j1 d_X7_putIn_23 rfl ⟨rfl, Nat.le_of_ble_eq_true rfl⟩
theorem d_X7_putIn_25 : decode cX7_putIn 25 = .ok (.aload_n 0, 1) := by decide +kernel
theorem j_X7_putIn_25 {G : en_G} {q : Option en_V → en_S → Prop}  {l1 l2 l3 l4 l5 : en_V} {x0 : Option Nat} {σ : en_S} : en_J (X_X7_putIn G q) 25 [en_R x0, l1, l2, l3, l4, l5] [] σ ↔ en_J (X_X7_putIn G q) 26 [en_R x0, l1, l2, l3, l4, l5] [en_R x0] σ := en_j1 d_X7_putIn_25 rfl rfl
theorem d_X7_putIn_26 : decode cX7_putIn 26 = .ok (.getfield 33, 3) := by decide +kernel
theorem j_X7_putIn_26 {G : en_G} {q : Option en_V → en_S → Prop}  {l0 l1 l2 l3 l4 l5 : en_V} {a0 : Option Nat} {σ : en_S} : en_J (X_X7_putIn G q) 26 [l0, l1, l2, l3, l4, l5] [en_R a0] σ ↔ ∃ a, a0 = some a ∧ en_cl σ a = some 7 ∧ en_J (X_X7_putIn G q) 29 [l0, l1, l2, l3, l4, l5] [en_R (en_fr σ 708 a)] σ := en_jg (st := fun o => [en_R o]) (st' := fun a => [en_R (en_fr σ 708 a)]) (σ' := fun _ => σ) d_X7_putIn_26 rfl (fun a => rfl) (fun a => ⟨fun h => h.2, fun h => ⟨rfl, h⟩⟩)
theorem d_X7_putIn_29 : decode cX7_putIn 29 = .ok (.iload_n 1, 1) := by decide +kernel
theorem j_X7_putIn_29 {G : en_G} {q : Option en_V → en_S → Prop}  {l0 l2 l3 l4 l5 : en_V} {a0 : Option Nat} {x1 : Int32} {σ : en_S} : en_J (X_X7_putIn G q) 29 [l0, en_I x1, l2, l3, l4, l5] [en_R a0] σ ↔ en_J (X_X7_putIn G q) 30 [l0, en_I x1, l2, l3, l4, l5] [en_I x1, en_R a0] σ := en_j1 d_X7_putIn_29 rfl rfl
theorem d_X7_putIn_30 : decode cX7_putIn 30 = .ok (.iaload, 1) := by decide +kernel
theorem j_X7_putIn_30 {G : en_G} {q : Option en_V → en_S → Prop}  {l0 l1 l2 l3 l4 l5 : en_V} {a0 : Int32} {a1 : Option Nat} {σ : en_S} : en_J (X_X7_putIn G q) 30 [l0, l1, l2, l3, l4, l5] [en_I a0, en_R a1] σ ↔ ∃ a, a1 = some a ∧ (∃ k, en_al σ a = some (0, k) ∧ vp_in a0 k) ∧ en_J (X_X7_putIn G q) 31 [l0, l1, l2, l3, l4, l5] [en_I (en_ai σ a a0.toNatClampNeg)] σ := ej_iaload d_X7_putIn_30 rfl
theorem d_X7_putIn_31 : decode cX7_putIn 31 = .ok (.istore 5, 2) := by decide +kernel
theorem j_X7_putIn_31 {G : en_G} {q : Option en_V → en_S → Prop}  {l0 l1 l2 l3 l4 l5 : en_V} {a0 : Int32} {σ : en_S} : en_J (X_X7_putIn G q) 31 [l0, l1, l2, l3, l4, l5] [en_I a0] σ ↔ en_J (X_X7_putIn G q) 33 [l0, l1, l2, l3, en_c2 l4, en_I a0] [] σ := en_j1 d_X7_putIn_31 rfl ⟨rfl, Nat.le_of_ble_eq_true rfl⟩
theorem d_X7_putIn_33 : decode cX7_putIn 33 = .ok (.iload 5, 2) := by decide +kernel
theorem j_X7_putIn_33 {G : en_G} {q : Option en_V → en_S → Prop}  {l0 l1 l2 l3 l4 : en_V} {x5 : Int32} {σ : en_S} : en_J (X_X7_putIn G q) 33 [l0, l1, l2, l3, l4, en_I x5] [] σ ↔ en_J (X_X7_putIn G q) 35 [l0, l1, l2, l3, l4, en_I x5] [en_I x5] σ := en_j1 d_X7_putIn_33 rfl rfl
theorem d_X7_putIn_35 : decode cX7_putIn 35 = .ok (.iload 4, 2) := by decide +kernel
theorem j_X7_putIn_35 {G : en_G} {q : Option en_V → en_S → Prop}  {l0 l1 l2 l3 l5 : en_V} {a0 : Int32} {x4 : Int32} {σ : en_S} : en_J (X_X7_putIn G q) 35 [l0, l1, l2, l3, en_I x4, l5] [en_I a0] σ ↔ en_J (X_X7_putIn G q) 37 [l0, l1, l2, l3, en_I x4, l5] [en_I x4, en_I a0] σ := en_j1 d_X7_putIn_35 rfl rfl
theorem d_X7_putIn_37 : decode cX7_putIn 37 = .ok (.if_icmp .le 35, 3) := by decide +kernel
theorem j_X7_putIn_37 {G : en_G} {q : Option en_V → en_S → Prop}  {l0 l1 l2 l3 l4 l5 : en_V} {a0 : Int32} {a1 : Int32} {σ : en_S} : en_J (X_X7_putIn G q) 37 [l0, l1, l2, l3, l4, l5] [en_I a0, en_I a1] σ ↔ (a1 ≤ a0 → en_J (X_X7_putIn G q) 72 [l0, l1, l2, l3, l4, l5] [] σ) ∧ (¬ (a1 ≤ a0) → en_J (X_X7_putIn G q) 40 [l0, l1, l2, l3, l4, l5] [] σ) := en_jb d_X7_putIn_37 rfl ⟨rfl, by decide⟩
theorem d_X7_putIn_40 : decode cX7_putIn 40 = .ok (.aload_n 0, 1) := by decide +kernel
theorem j_X7_putIn_40 {G : en_G} {q : Option en_V → en_S → Prop}  {l1 l2 l3 l4 l5 : en_V} {x0 : Option Nat} {σ : en_S} : en_J (X_X7_putIn G q) 40 [en_R x0, l1, l2, l3, l4, l5] [] σ ↔ en_J (X_X7_putIn G q) 41 [en_R x0, l1, l2, l3, l4, l5] [en_R x0] σ := en_j1 d_X7_putIn_40 rfl rfl
theorem d_X7_putIn_41 : decode cX7_putIn 41 = .ok (.getfield 36, 3) := by decide +kernel
theorem j_X7_putIn_41 {G : en_G} {q : Option en_V → en_S → Prop}  {l0 l1 l2 l3 l4 l5 : en_V} {a0 : Option Nat} {σ : en_S} : en_J (X_X7_putIn G q) 41 [l0, l1, l2, l3, l4, l5] [en_R a0] σ ↔ ∃ a, a0 = some a ∧ en_cl σ a = some 7 ∧ en_J (X_X7_putIn G q) 44 [l0, l1, l2, l3, l4, l5] [en_R (en_fr σ 709 a)] σ := en_jg (st := fun o => [en_R o]) (st' := fun a => [en_R (en_fr σ 709 a)]) (σ' := fun _ => σ) d_X7_putIn_41 rfl (fun a => rfl) (fun a => ⟨fun h => h.2, fun h => ⟨rfl, h⟩⟩)
theorem d_X7_putIn_44 : decode cX7_putIn 44 = .ok (.bipush 24, 2) := by decide +kernel
theorem j_X7_putIn_44 {G : en_G} {q : Option en_V → en_S → Prop}  {l0 l1 l2 l3 l4 l5 : en_V} {a0 : Option Nat} {σ : en_S} : en_J (X_X7_putIn G q) 44 [l0, l1, l2, l3, l4, l5] [en_R a0] σ ↔ en_J (X_X7_putIn G q) 46 [l0, l1, l2, l3, l4, l5] [en_I 24, en_R a0] σ := ej_bipush d_X7_putIn_44 (by decide +kernel)
theorem d_X7_putIn_46 : decode cX7_putIn 46 = .ok (.iload_n 1, 1) := by decide +kernel
theorem j_X7_putIn_46 {G : en_G} {q : Option en_V → en_S → Prop}  {l0 l2 l3 l4 l5 : en_V} {a0 : Int32} {a1 : Option Nat} {x1 : Int32} {σ : en_S} : en_J (X_X7_putIn G q) 46 [l0, en_I x1, l2, l3, l4, l5] [en_I a0, en_R a1] σ ↔ en_J (X_X7_putIn G q) 47 [l0, en_I x1, l2, l3, l4, l5] [en_I x1, en_I a0, en_R a1] σ := en_j1 d_X7_putIn_46 rfl rfl
theorem d_X7_putIn_47 : decode cX7_putIn 47 = .ok (.imul, 1) := by decide +kernel
theorem j_X7_putIn_47 {G : en_G} {q : Option en_V → en_S → Prop}  {l0 l1 l2 l3 l4 l5 : en_V} {a0 : Int32} {a1 : Int32} {a2 : Option Nat} {σ : en_S} : en_J (X_X7_putIn G q) 47 [l0, l1, l2, l3, l4, l5] [en_I a0, en_I a1, en_R a2] σ ↔ en_J (X_X7_putIn G q) 48 [l0, l1, l2, l3, l4, l5] [en_I (a1 * a0), en_R a2] σ := en_j1 d_X7_putIn_47 rfl ⟨rfl, trivial⟩
theorem d_X7_putIn_48 : decode cX7_putIn 48 = .ok (.iload 5, 2) := by decide +kernel
theorem j_X7_putIn_48 {G : en_G} {q : Option en_V → en_S → Prop}  {l0 l1 l2 l3 l4 : en_V} {a0 : Int32} {a1 : Option Nat} {x5 : Int32} {σ : en_S} : en_J (X_X7_putIn G q) 48 [l0, l1, l2, l3, l4, en_I x5] [en_I a0, en_R a1] σ ↔ en_J (X_X7_putIn G q) 50 [l0, l1, l2, l3, l4, en_I x5] [en_I x5, en_I a0, en_R a1] σ := en_j1 d_X7_putIn_48 rfl rfl
theorem d_X7_putIn_50 : decode cX7_putIn 50 = .ok (.iadd, 1) := by decide +kernel
theorem j_X7_putIn_50 {G : en_G} {q : Option en_V → en_S → Prop}  {l0 l1 l2 l3 l4 l5 : en_V} {a0 : Int32} {a1 : Int32} {a2 : Option Nat} {σ : en_S} : en_J (X_X7_putIn G q) 50 [l0, l1, l2, l3, l4, l5] [en_I a0, en_I a1, en_R a2] σ ↔ en_J (X_X7_putIn G q) 51 [l0, l1, l2, l3, l4, l5] [en_I (a1 + a0), en_R a2] σ := en_j1 d_X7_putIn_50 rfl ⟨rfl, trivial⟩
theorem d_X7_putIn_51 : decode cX7_putIn 51 = .ok (.aload_n 0, 1) := by decide +kernel
theorem j_X7_putIn_51 {G : en_G} {q : Option en_V → en_S → Prop}  {l1 l2 l3 l4 l5 : en_V} {a0 : Int32} {a1 : Option Nat} {x0 : Option Nat} {σ : en_S} : en_J (X_X7_putIn G q) 51 [en_R x0, l1, l2, l3, l4, l5] [en_I a0, en_R a1] σ ↔ en_J (X_X7_putIn G q) 52 [en_R x0, l1, l2, l3, l4, l5] [en_R x0, en_I a0, en_R a1] σ := en_j1 d_X7_putIn_51 rfl rfl
theorem d_X7_putIn_52 : decode cX7_putIn 52 = .ok (.getfield 36, 3) := by decide +kernel
theorem j_X7_putIn_52 {G : en_G} {q : Option en_V → en_S → Prop}  {l0 l1 l2 l3 l4 l5 : en_V} {a0 : Option Nat} {a1 : Int32} {a2 : Option Nat} {σ : en_S} : en_J (X_X7_putIn G q) 52 [l0, l1, l2, l3, l4, l5] [en_R a0, en_I a1, en_R a2] σ ↔ ∃ a, a0 = some a ∧ en_cl σ a = some 7 ∧ en_J (X_X7_putIn G q) 55 [l0, l1, l2, l3, l4, l5] [en_R (en_fr σ 709 a), en_I a1, en_R a2] σ := en_jg (st := fun o => [en_R o, en_I a1, en_R a2]) (st' := fun a => [en_R (en_fr σ 709 a), en_I a1, en_R a2]) (σ' := fun _ => σ) d_X7_putIn_52 rfl (fun a => rfl) (fun a => ⟨fun h => h.2, fun h => ⟨rfl, h⟩⟩)
theorem d_X7_putIn_55 : decode cX7_putIn 55 = .ok (.bipush 24, 2) := by decide +kernel
theorem j_X7_putIn_55 {G : en_G} {q : Option en_V → en_S → Prop}  {l0 l1 l2 l3 l4 l5 : en_V} {a0 : Option Nat} {a1 : Int32} {a2 : Option Nat} {σ : en_S} : en_J (X_X7_putIn G q) 55 [l0, l1, l2, l3, l4, l5] [en_R a0, en_I a1, en_R a2] σ ↔ en_J (X_X7_putIn G q) 57 [l0, l1, l2, l3, l4, l5] [en_I 24, en_R a0, en_I a1, en_R a2] σ := ej_bipush d_X7_putIn_55 (by decide +kernel)
theorem d_X7_putIn_57 : decode cX7_putIn 57 = .ok (.iload_n 1, 1) := by decide +kernel
theorem j_X7_putIn_57 {G : en_G} {q : Option en_V → en_S → Prop}  {l0 l2 l3 l4 l5 : en_V} {a0 : Int32} {a1 : Option Nat} {a2 : Int32} {a3 : Option Nat} {x1 : Int32} {σ : en_S} : en_J (X_X7_putIn G q) 57 [l0, en_I x1, l2, l3, l4, l5] [en_I a0, en_R a1, en_I a2, en_R a3] σ ↔ en_J (X_X7_putIn G q) 58 [l0, en_I x1, l2, l3, l4, l5] [en_I x1, en_I a0, en_R a1, en_I a2, en_R a3] σ := en_j1 d_X7_putIn_57 rfl rfl
theorem d_X7_putIn_58 : decode cX7_putIn 58 = .ok (.imul, 1) := by decide +kernel
theorem j_X7_putIn_58 {G : en_G} {q : Option en_V → en_S → Prop}  {l0 l1 l2 l3 l4 l5 : en_V} {a0 : Int32} {a1 : Int32} {a2 : Option Nat} {a3 : Int32} {a4 : Option Nat} {σ : en_S} : en_J (X_X7_putIn G q) 58 [l0, l1, l2, l3, l4, l5] [en_I a0, en_I a1, en_R a2, en_I a3, en_R a4] σ ↔ en_J (X_X7_putIn G q) 59 [l0, l1, l2, l3, l4, l5] [en_I (a1 * a0), en_R a2, en_I a3, en_R a4] σ := en_j1 d_X7_putIn_58 rfl ⟨rfl, trivial⟩
theorem d_X7_putIn_59 : decode cX7_putIn 59 = .ok (.iload 5, 2) := by decide +kernel
theorem j_X7_putIn_59 {G : en_G} {q : Option en_V → en_S → Prop}  {l0 l1 l2 l3 l4 : en_V} {a0 : Int32} {a1 : Option Nat} {a2 : Int32} {a3 : Option Nat} {x5 : Int32} {σ : en_S} : en_J (X_X7_putIn G q) 59 [l0, l1, l2, l3, l4, en_I x5] [en_I a0, en_R a1, en_I a2, en_R a3] σ ↔ en_J (X_X7_putIn G q) 61 [l0, l1, l2, l3, l4, en_I x5] [en_I x5, en_I a0, en_R a1, en_I a2, en_R a3] σ := en_j1 d_X7_putIn_59 rfl rfl
theorem d_X7_putIn_61 : decode cX7_putIn 61 = .ok (.iadd, 1) := by decide +kernel
theorem j_X7_putIn_61 {G : en_G} {q : Option en_V → en_S → Prop}  {l0 l1 l2 l3 l4 l5 : en_V} {a0 : Int32} {a1 : Int32} {a2 : Option Nat} {a3 : Int32} {a4 : Option Nat} {σ : en_S} : en_J (X_X7_putIn G q) 61 [l0, l1, l2, l3, l4, l5] [en_I a0, en_I a1, en_R a2, en_I a3, en_R a4] σ ↔ en_J (X_X7_putIn G q) 62 [l0, l1, l2, l3, l4, l5] [en_I (a1 + a0), en_R a2, en_I a3, en_R a4] σ := en_j1 d_X7_putIn_61 rfl ⟨rfl, trivial⟩
theorem d_X7_putIn_62 : decode cX7_putIn 62 = .ok (.iconst 1, 1) := by decide +kernel
theorem j_X7_putIn_62 {G : en_G} {q : Option en_V → en_S → Prop}  {l0 l1 l2 l3 l4 l5 : en_V} {a0 : Int32} {a1 : Option Nat} {a2 : Int32} {a3 : Option Nat} {σ : en_S} : en_J (X_X7_putIn G q) 62 [l0, l1, l2, l3, l4, l5] [en_I a0, en_R a1, en_I a2, en_R a3] σ ↔ en_J (X_X7_putIn G q) 63 [l0, l1, l2, l3, l4, l5] [en_I 1, en_I a0, en_R a1, en_I a2, en_R a3] σ := ej_iconst d_X7_putIn_62 (by decide +kernel)
theorem d_X7_putIn_63 : decode cX7_putIn 63 = .ok (.isub, 1) := by decide +kernel
theorem j_X7_putIn_63 {G : en_G} {q : Option en_V → en_S → Prop}  {l0 l1 l2 l3 l4 l5 : en_V} {a0 : Int32} {a1 : Int32} {a2 : Option Nat} {a3 : Int32} {a4 : Option Nat} {σ : en_S} : en_J (X_X7_putIn G q) 63 [l0, l1, l2, l3, l4, l5] [en_I a0, en_I a1, en_R a2, en_I a3, en_R a4] σ ↔ en_J (X_X7_putIn G q) 64 [l0, l1, l2, l3, l4, l5] [en_I (a1 - a0), en_R a2, en_I a3, en_R a4] σ := en_j1 d_X7_putIn_63 rfl ⟨rfl, trivial⟩
theorem d_X7_putIn_64 : decode cX7_putIn 64 = .ok (.iaload, 1) := by decide +kernel
theorem j_X7_putIn_64 {G : en_G} {q : Option en_V → en_S → Prop}  {l0 l1 l2 l3 l4 l5 : en_V} {a0 : Int32} {a1 : Option Nat} {a2 : Int32} {a3 : Option Nat} {σ : en_S} : en_J (X_X7_putIn G q) 64 [l0, l1, l2, l3, l4, l5] [en_I a0, en_R a1, en_I a2, en_R a3] σ ↔ ∃ a, a1 = some a ∧ (∃ k, en_al σ a = some (0, k) ∧ vp_in a0 k) ∧ en_J (X_X7_putIn G q) 65 [l0, l1, l2, l3, l4, l5] [en_I (en_ai σ a a0.toNatClampNeg), en_I a2, en_R a3] σ := ej_iaload d_X7_putIn_64 rfl
theorem d_X7_putIn_65 : decode cX7_putIn 65 = .ok (.iastore, 1) := by decide +kernel
theorem j_X7_putIn_65 {G : en_G} {q : Option en_V → en_S → Prop}  {l0 l1 l2 l3 l4 l5 : en_V} {a0 : Int32} {a1 : Int32} {a2 : Option Nat} {σ : en_S} : en_J (X_X7_putIn G q) 65 [l0, l1, l2, l3, l4, l5] [en_I a0, en_I a1, en_R a2] σ ↔ ∃ a, a2 = some a ∧ (∃ k, en_al σ a = some (0, k) ∧ vp_in a1 k) ∧ en_J (X_X7_putIn G q) 66 [l0, l1, l2, l3, l4, l5] [] (en_sai σ a a1.toNatClampNeg a0) := ej_iastore d_X7_putIn_65
theorem d_X7_putIn_66 : decode cX7_putIn 66 = .ok (.iinc 5 (-1), 3) := by decide +kernel
theorem j_X7_putIn_66 {G : en_G} {q : Option en_V → en_S → Prop}  {l0 l1 l2 l3 l4 : en_V} {x5 : Int32} {σ : en_S} : en_J (X_X7_putIn G q) 66 [l0, l1, l2, l3, l4, en_I x5] [] σ ↔ en_J (X_X7_putIn G q) 69 [l0, l1, l2, l3, en_c2 l4, en_I (x5 + (-1))] [] σ := ej_iinc d_X7_putIn_66 rfl (by decide +kernel) rfl
theorem d_X7_putIn_69 : decode cX7_putIn 69 = .ok (.goto (-36), 3) := by decide +kernel
theorem j_X7_putIn_69 {G : en_G} {q : Option en_V → en_S → Prop}  {l0 l1 l2 l3 l4 l5 : en_V}  {σ : en_S} : en_J (X_X7_putIn G q) 69 [l0, l1, l2, l3, l4, l5] [] σ ↔ en_J (X_X7_putIn G q) 33 [l0, l1, l2, l3, l4, l5] [] σ := en_j1 d_X7_putIn_69 rfl ⟨rfl, by decide⟩
theorem d_X7_putIn_72 : decode cX7_putIn 72 = .ok (.aload_n 0, 1) := by decide +kernel
theorem j_X7_putIn_72 {G : en_G} {q : Option en_V → en_S → Prop}  {l1 l2 l3 l4 l5 : en_V} {x0 : Option Nat} {σ : en_S} : en_J (X_X7_putIn G q) 72 [en_R x0, l1, l2, l3, l4, l5] [] σ ↔ en_J (X_X7_putIn G q) 73 [en_R x0, l1, l2, l3, l4, l5] [en_R x0] σ := en_j1 d_X7_putIn_72 rfl rfl
theorem d_X7_putIn_73 : decode cX7_putIn 73 = .ok (.getfield 36, 3) := by decide +kernel
theorem j_X7_putIn_73 {G : en_G} {q : Option en_V → en_S → Prop}  {l0 l1 l2 l3 l4 l5 : en_V} {a0 : Option Nat} {σ : en_S} : en_J (X_X7_putIn G q) 73 [l0, l1, l2, l3, l4, l5] [en_R a0] σ ↔ ∃ a, a0 = some a ∧ en_cl σ a = some 7 ∧ en_J (X_X7_putIn G q) 76 [l0, l1, l2, l3, l4, l5] [en_R (en_fr σ 709 a)] σ := en_jg (st := fun o => [en_R o]) (st' := fun a => [en_R (en_fr σ 709 a)]) (σ' := fun _ => σ) d_X7_putIn_73 rfl (fun a => rfl) (fun a => ⟨fun h => h.2, fun h => ⟨rfl, h⟩⟩)
theorem d_X7_putIn_76 : decode cX7_putIn 76 = .ok (.bipush 24, 2) := by decide +kernel
theorem j_X7_putIn_76 {G : en_G} {q : Option en_V → en_S → Prop}  {l0 l1 l2 l3 l4 l5 : en_V} {a0 : Option Nat} {σ : en_S} : en_J (X_X7_putIn G q) 76 [l0, l1, l2, l3, l4, l5] [en_R a0] σ ↔ en_J (X_X7_putIn G q) 78 [l0, l1, l2, l3, l4, l5] [en_I 24, en_R a0] σ := ej_bipush d_X7_putIn_76 (by decide +kernel)
theorem d_X7_putIn_78 : decode cX7_putIn 78 = .ok (.iload_n 1, 1) := by decide +kernel
theorem j_X7_putIn_78 {G : en_G} {q : Option en_V → en_S → Prop}  {l0 l2 l3 l4 l5 : en_V} {a0 : Int32} {a1 : Option Nat} {x1 : Int32} {σ : en_S} : en_J (X_X7_putIn G q) 78 [l0, en_I x1, l2, l3, l4, l5] [en_I a0, en_R a1] σ ↔ en_J (X_X7_putIn G q) 79 [l0, en_I x1, l2, l3, l4, l5] [en_I x1, en_I a0, en_R a1] σ := en_j1 d_X7_putIn_78 rfl rfl
theorem d_X7_putIn_79 : decode cX7_putIn 79 = .ok (.imul, 1) := by decide +kernel
theorem j_X7_putIn_79 {G : en_G} {q : Option en_V → en_S → Prop}  {l0 l1 l2 l3 l4 l5 : en_V} {a0 : Int32} {a1 : Int32} {a2 : Option Nat} {σ : en_S} : en_J (X_X7_putIn G q) 79 [l0, l1, l2, l3, l4, l5] [en_I a0, en_I a1, en_R a2] σ ↔ en_J (X_X7_putIn G q) 80 [l0, l1, l2, l3, l4, l5] [en_I (a1 * a0), en_R a2] σ := en_j1 d_X7_putIn_79 rfl ⟨rfl, trivial⟩
theorem d_X7_putIn_80 : decode cX7_putIn 80 = .ok (.iload 4, 2) := by decide +kernel
theorem j_X7_putIn_80 {G : en_G} {q : Option en_V → en_S → Prop}  {l0 l1 l2 l3 l5 : en_V} {a0 : Int32} {a1 : Option Nat} {x4 : Int32} {σ : en_S} : en_J (X_X7_putIn G q) 80 [l0, l1, l2, l3, en_I x4, l5] [en_I a0, en_R a1] σ ↔ en_J (X_X7_putIn G q) 82 [l0, l1, l2, l3, en_I x4, l5] [en_I x4, en_I a0, en_R a1] σ := en_j1 d_X7_putIn_80 rfl rfl
theorem d_X7_putIn_82 : decode cX7_putIn 82 = .ok (.iadd, 1) := by decide +kernel
theorem j_X7_putIn_82 {G : en_G} {q : Option en_V → en_S → Prop}  {l0 l1 l2 l3 l4 l5 : en_V} {a0 : Int32} {a1 : Int32} {a2 : Option Nat} {σ : en_S} : en_J (X_X7_putIn G q) 82 [l0, l1, l2, l3, l4, l5] [en_I a0, en_I a1, en_R a2] σ ↔ en_J (X_X7_putIn G q) 83 [l0, l1, l2, l3, l4, l5] [en_I (a1 + a0), en_R a2] σ := en_j1 d_X7_putIn_82 rfl ⟨rfl, trivial⟩
theorem d_X7_putIn_83 : decode cX7_putIn 83 = .ok (.iload_n 2, 1) := by decide +kernel
theorem j_X7_putIn_83 {G : en_G} {q : Option en_V → en_S → Prop}  {l0 l1 l3 l4 l5 : en_V} {a0 : Int32} {a1 : Option Nat} {x2 : Int32} {σ : en_S} : en_J (X_X7_putIn G q) 83 [l0, l1, en_I x2, l3, l4, l5] [en_I a0, en_R a1] σ ↔ en_J (X_X7_putIn G q) 84 [l0, l1, en_I x2, l3, l4, l5] [en_I x2, en_I a0, en_R a1] σ := en_j1 d_X7_putIn_83 rfl rfl
theorem d_X7_putIn_84 : decode cX7_putIn 84 = .ok (.iastore, 1) := by decide +kernel
theorem j_X7_putIn_84 {G : en_G} {q : Option en_V → en_S → Prop}  {l0 l1 l2 l3 l4 l5 : en_V} {a0 : Int32} {a1 : Int32} {a2 : Option Nat} {σ : en_S} : en_J (X_X7_putIn G q) 84 [l0, l1, l2, l3, l4, l5] [en_I a0, en_I a1, en_R a2] σ ↔ ∃ a, a2 = some a ∧ (∃ k, en_al σ a = some (0, k) ∧ vp_in a1 k) ∧ en_J (X_X7_putIn G q) 85 [l0, l1, l2, l3, l4, l5] [] (en_sai σ a a1.toNatClampNeg a0) := ej_iastore d_X7_putIn_84
theorem d_X7_putIn_85 : decode cX7_putIn 85 = .ok (.aload_n 0, 1) := by decide +kernel
theorem j_X7_putIn_85 {G : en_G} {q : Option en_V → en_S → Prop}  {l1 l2 l3 l4 l5 : en_V} {x0 : Option Nat} {σ : en_S} : en_J (X_X7_putIn G q) 85 [en_R x0, l1, l2, l3, l4, l5] [] σ ↔ en_J (X_X7_putIn G q) 86 [en_R x0, l1, l2, l3, l4, l5] [en_R x0] σ := en_j1 d_X7_putIn_85 rfl rfl
theorem d_X7_putIn_86 : decode cX7_putIn 86 = .ok (.getfield 33, 3) := by decide +kernel
theorem j_X7_putIn_86 {G : en_G} {q : Option en_V → en_S → Prop}  {l0 l1 l2 l3 l4 l5 : en_V} {a0 : Option Nat} {σ : en_S} : en_J (X_X7_putIn G q) 86 [l0, l1, l2, l3, l4, l5] [en_R a0] σ ↔ ∃ a, a0 = some a ∧ en_cl σ a = some 7 ∧ en_J (X_X7_putIn G q) 89 [l0, l1, l2, l3, l4, l5] [en_R (en_fr σ 708 a)] σ := en_jg (st := fun o => [en_R o]) (st' := fun a => [en_R (en_fr σ 708 a)]) (σ' := fun _ => σ) d_X7_putIn_86 rfl (fun a => rfl) (fun a => ⟨fun h => h.2, fun h => ⟨rfl, h⟩⟩)
theorem d_X7_putIn_89 : decode cX7_putIn 89 = .ok (.iload_n 1, 1) := by decide +kernel
theorem j_X7_putIn_89 {G : en_G} {q : Option en_V → en_S → Prop}  {l0 l2 l3 l4 l5 : en_V} {a0 : Option Nat} {x1 : Int32} {σ : en_S} : en_J (X_X7_putIn G q) 89 [l0, en_I x1, l2, l3, l4, l5] [en_R a0] σ ↔ en_J (X_X7_putIn G q) 90 [l0, en_I x1, l2, l3, l4, l5] [en_I x1, en_R a0] σ := en_j1 d_X7_putIn_89 rfl rfl
theorem d_X7_putIn_90 : decode cX7_putIn 90 = .ok (.dup2, 1) := by decide +kernel
theorem j_X7_putIn_90 {G : en_G} {q : Option en_V → en_S → Prop}  {l0 l1 l2 l3 l4 l5 : en_V} {a0 : Int32} {a1 : Option Nat} {σ : en_S} : en_J (X_X7_putIn G q) 90 [l0, l1, l2, l3, l4, l5] [en_I a0, en_R a1] σ ↔ en_J (X_X7_putIn G q) 91 [l0, l1, l2, l3, l4, l5] [en_I a0, en_R a1, en_I a0, en_R a1] σ := en_j1 d_X7_putIn_90 rfl rfl
theorem d_X7_putIn_91 : decode cX7_putIn 91 = .ok (.iaload, 1) := by decide +kernel
theorem j_X7_putIn_91 {G : en_G} {q : Option en_V → en_S → Prop}  {l0 l1 l2 l3 l4 l5 : en_V} {a0 : Int32} {a1 : Option Nat} {a2 : Int32} {a3 : Option Nat} {σ : en_S} : en_J (X_X7_putIn G q) 91 [l0, l1, l2, l3, l4, l5] [en_I a0, en_R a1, en_I a2, en_R a3] σ ↔ ∃ a, a1 = some a ∧ (∃ k, en_al σ a = some (0, k) ∧ vp_in a0 k) ∧ en_J (X_X7_putIn G q) 92 [l0, l1, l2, l3, l4, l5] [en_I (en_ai σ a a0.toNatClampNeg), en_I a2, en_R a3] σ := ej_iaload d_X7_putIn_91 rfl
theorem d_X7_putIn_92 : decode cX7_putIn 92 = .ok (.iconst 1, 1) := by decide +kernel
theorem j_X7_putIn_92 {G : en_G} {q : Option en_V → en_S → Prop}  {l0 l1 l2 l3 l4 l5 : en_V} {a0 : Int32} {a1 : Int32} {a2 : Option Nat} {σ : en_S} : en_J (X_X7_putIn G q) 92 [l0, l1, l2, l3, l4, l5] [en_I a0, en_I a1, en_R a2] σ ↔ en_J (X_X7_putIn G q) 93 [l0, l1, l2, l3, l4, l5] [en_I 1, en_I a0, en_I a1, en_R a2] σ := ej_iconst d_X7_putIn_92 (by decide +kernel)
theorem d_X7_putIn_93 : decode cX7_putIn 93 = .ok (.iadd, 1) := by decide +kernel
theorem j_X7_putIn_93 {G : en_G} {q : Option en_V → en_S → Prop}  {l0 l1 l2 l3 l4 l5 : en_V} {a0 : Int32} {a1 : Int32} {a2 : Int32} {a3 : Option Nat} {σ : en_S} : en_J (X_X7_putIn G q) 93 [l0, l1, l2, l3, l4, l5] [en_I a0, en_I a1, en_I a2, en_R a3] σ ↔ en_J (X_X7_putIn G q) 94 [l0, l1, l2, l3, l4, l5] [en_I (a1 + a0), en_I a2, en_R a3] σ := en_j1 d_X7_putIn_93 rfl ⟨rfl, trivial⟩
theorem d_X7_putIn_94 : decode cX7_putIn 94 = .ok (.iastore, 1) := by decide +kernel
theorem j_X7_putIn_94 {G : en_G} {q : Option en_V → en_S → Prop}  {l0 l1 l2 l3 l4 l5 : en_V} {a0 : Int32} {a1 : Int32} {a2 : Option Nat} {σ : en_S} : en_J (X_X7_putIn G q) 94 [l0, l1, l2, l3, l4, l5] [en_I a0, en_I a1, en_R a2] σ ↔ ∃ a, a2 = some a ∧ (∃ k, en_al σ a = some (0, k) ∧ vp_in a1 k) ∧ en_J (X_X7_putIn G q) 95 [l0, l1, l2, l3, l4, l5] [] (en_sai σ a a1.toNatClampNeg a0) := ej_iastore d_X7_putIn_94
theorem d_X7_putIn_95 : decode cX7_putIn 95 = .ok (.aload_n 0, 1) := by decide +kernel
theorem j_X7_putIn_95 {G : en_G} {q : Option en_V → en_S → Prop}  {l1 l2 l3 l4 l5 : en_V} {x0 : Option Nat} {σ : en_S} : en_J (X_X7_putIn G q) 95 [en_R x0, l1, l2, l3, l4, l5] [] σ ↔ en_J (X_X7_putIn G q) 96 [en_R x0, l1, l2, l3, l4, l5] [en_R x0] σ := en_j1 d_X7_putIn_95 rfl rfl
theorem d_X7_putIn_96 : decode cX7_putIn 96 = .ok (.getfield 20, 3) := by decide +kernel
theorem j_X7_putIn_96 {G : en_G} {q : Option en_V → en_S → Prop}  {l0 l1 l2 l3 l4 l5 : en_V} {a0 : Option Nat} {σ : en_S} : en_J (X_X7_putIn G q) 96 [l0, l1, l2, l3, l4, l5] [en_R a0] σ ↔ ∃ a, a0 = some a ∧ en_cl σ a = some 7 ∧ en_J (X_X7_putIn G q) 99 [l0, l1, l2, l3, l4, l5] [en_R (en_fr σ 704 a)] σ := en_jg (st := fun o => [en_R o]) (st' := fun a => [en_R (en_fr σ 704 a)]) (σ' := fun _ => σ) d_X7_putIn_96 rfl (fun a => rfl) (fun a => ⟨fun h => h.2, fun h => ⟨rfl, h⟩⟩)
theorem d_X7_putIn_99 : decode cX7_putIn 99 = .ok (.iload_n 2, 1) := by decide +kernel
theorem j_X7_putIn_99 {G : en_G} {q : Option en_V → en_S → Prop}  {l0 l1 l3 l4 l5 : en_V} {a0 : Option Nat} {x2 : Int32} {σ : en_S} : en_J (X_X7_putIn G q) 99 [l0, l1, en_I x2, l3, l4, l5] [en_R a0] σ ↔ en_J (X_X7_putIn G q) 100 [l0, l1, en_I x2, l3, l4, l5] [en_I x2, en_R a0] σ := en_j1 d_X7_putIn_99 rfl rfl
theorem d_X7_putIn_100 : decode cX7_putIn 100 = .ok (.iload_n 1, 1) := by decide +kernel
theorem j_X7_putIn_100 {G : en_G} {q : Option en_V → en_S → Prop}  {l0 l2 l3 l4 l5 : en_V} {a0 : Int32} {a1 : Option Nat} {x1 : Int32} {σ : en_S} : en_J (X_X7_putIn G q) 100 [l0, en_I x1, l2, l3, l4, l5] [en_I a0, en_R a1] σ ↔ en_J (X_X7_putIn G q) 101 [l0, en_I x1, l2, l3, l4, l5] [en_I x1, en_I a0, en_R a1] σ := en_j1 d_X7_putIn_100 rfl rfl
theorem d_X7_putIn_101 : decode cX7_putIn 101 = .ok (.iastore, 1) := by decide +kernel
theorem j_X7_putIn_101 {G : en_G} {q : Option en_V → en_S → Prop}  {l0 l1 l2 l3 l4 l5 : en_V} {a0 : Int32} {a1 : Int32} {a2 : Option Nat} {σ : en_S} : en_J (X_X7_putIn G q) 101 [l0, l1, l2, l3, l4, l5] [en_I a0, en_I a1, en_R a2] σ ↔ ∃ a, a2 = some a ∧ (∃ k, en_al σ a = some (0, k) ∧ vp_in a1 k) ∧ en_J (X_X7_putIn G q) 102 [l0, l1, l2, l3, l4, l5] [] (en_sai σ a a1.toNatClampNeg a0) := ej_iastore d_X7_putIn_101
theorem d_X7_putIn_102 : decode cX7_putIn 102 = .ok (.return_, 1) := by decide +kernel
theorem j_X7_putIn_102 {G : en_G} {q : Option en_V → en_S → Prop}  {l0 l1 l2 l3 l4 l5 : en_V}  {σ : en_S} : en_J (X_X7_putIn G q) 102 [l0, l1, l2, l3, l4, l5] [] σ ↔ q none σ := en_jr d_X7_putIn_102 rfl ⟨fun h => h.2.2, fun h => ⟨rfl, rfl, h⟩⟩
theorem wc_X7_putIn : Jvm.Cond.code yX7_putIn cX7_putIn 6 none ∈ en_W := en_inW (List.mem_of_getElem? (i := 902) (by decide +kernel)) (by decide +kernel)
theorem wi_X7_putIn : Jvm.Cond.instanceMethod yX7_putIn ∈ en_W := en_inW (List.mem_of_getElem? (i := 901) (by decide +kernel)) (by decide +kernel)
theorem wx_X7_putIn : Jvm.Cond.selects RX7 yX7_putIn yX7_putIn ∈ en_W := en_inW (List.mem_of_getElem? (i := 19) (by decide +kernel)) (by decide +kernel)
theorem jw_X7_putIn {G : en_G} {q : Option en_V → en_S → Prop} {m N n p : Nat} {b0 : Int32} {l pre suf : List Nat} (hpl : p < N) (hn : n < N) (hN : N ≤ 24) (hlen : pre.length + suf.length + 1 ≤ 24) (hl : l = pre ++ suf) : ∀ (j : Nat) (σ : en_S), rs_ok m σ → en_ai σ (m + 7) p = nI (pre.length + suf.length) → j = j → (∀ i c, i < pre.length + j → l[i]? = some c → en_ai σ (m + 8) (24 * p + i) = nI c) → (∀ i c, pre.length + j < i → (pre ++ n :: suf)[i]? = some c → en_ai σ (m + 8) (24 * p + i) = nI c) → (∀ σ', ag σ σ' TT (tkV m) → sz σ σ' → (∀ i c, (pre ++ n :: suf)[i]? = some c → en_ai σ' (m + 8) (24 * p + i) = nI c) → (∀ i, en_ai σ' (m + 3) i = (if i = n then nI p else en_ai σ (m + 3) i) ∧ en_ai σ' (m + 7) i = (if i = p then nI (pre.length + suf.length + 1) else en_ai σ (m + 7) i) ∧ (¬ (24 * p ≤ i ∧ i < 24 * p + 24) → en_ai σ' (m + 8) i = en_ai σ (m + 8) i)) → True → q none σ') → j ≤ suf.length → en_J (X_X7_putIn G q) 33 [en_R (some m), en_I (nI p), en_I (nI n), en_I b0, en_I (nI pre.length), en_I (nI (pre.length + j))] [] σ := by
  intro j
  have m3 : vp_in (nI p) 24 := vp_in_nI (by omega) (by decide)
  have m4 : (nI p).toNatClampNeg = p := nI_clamp (by omega)
  have n3 : vp_in (nI n) 24 := vp_in_nI (by omega) (by decide)
  have n4 : (nI n).toNatClampNeg = n := nI_clamp (by omega)
  induction j with
  | zero =>
    intro σ hS hkid _ hlo hhi hq hjs
    have n1 : nI (pre.length + 0) ≤ nI pre.length := nI_le (by omega) (by omega)
    have e1 := i24 p pre.length
    have a3 : vp_in (nI (24 * p + pre.length)) 576 := vp_in_nI (by omega) (by decide)
    have a4 : (nI (24 * p + pre.length)).toNatClampNeg = 24 * p + pre.length := nI_clamp (by omega)
    have n5 : nI (pre.length + suf.length) + 1 = nI (pre.length + suf.length + 1) := nI_1 _
    have d1 : ¬ m + 7 = m + 8 := by omega
    rw [j_X7_putIn_33]
    simp only [j_X7_putIn_0, j_X7_putIn_1, j_X7_putIn_2, j_X7_putIn_5, j_X7_putIn_6, j_X7_putIn_9, j_X7_putIn_10, j_X7_putIn_13, j_X7_putIn_14, j_X7_putIn_15, j_X7_putIn_18, j_X7_putIn_19, j_X7_putIn_20, j_X7_putIn_23, j_X7_putIn_25, j_X7_putIn_26, j_X7_putIn_29, j_X7_putIn_30, j_X7_putIn_31, j_X7_putIn_35, j_X7_putIn_37, j_X7_putIn_40, j_X7_putIn_41, j_X7_putIn_44, j_X7_putIn_46, j_X7_putIn_47, j_X7_putIn_48, j_X7_putIn_50, j_X7_putIn_51, j_X7_putIn_52, j_X7_putIn_55, j_X7_putIn_57, j_X7_putIn_58, j_X7_putIn_59, j_X7_putIn_61, j_X7_putIn_62, j_X7_putIn_63, j_X7_putIn_64, j_X7_putIn_65, j_X7_putIn_66, j_X7_putIn_69, j_X7_putIn_72, j_X7_putIn_73, j_X7_putIn_76, j_X7_putIn_78, j_X7_putIn_79, j_X7_putIn_80, j_X7_putIn_82, j_X7_putIn_83, j_X7_putIn_84, j_X7_putIn_85, j_X7_putIn_86, j_X7_putIn_89, j_X7_putIn_90, j_X7_putIn_91, j_X7_putIn_92, j_X7_putIn_93, j_X7_putIn_94, j_X7_putIn_95, j_X7_putIn_96, j_X7_putIn_99, j_X7_putIn_100, j_X7_putIn_101, j_X7_putIn_102, en_c2I, en_c2R, en_c2U, en_c2D, Option.some.injEq, exists_eq_left', exists_eq_left, Option.map_some, Option.map_none, not_true_eq_false, false_implies, true_implies, and_true, true_and, reduceCtorEq, not_false_eq_true, eg_cl_sfi, eg_fi_sfi, eg_fr_sfi, eg_fd_sfi, eg_al_sfi, eg_ai_sfi, eg_ar_sfi, eg_ad_sfi, eg_aj_sfi, eg_nx_sfi, eg_ns_sfi, eg_cl_sfr, eg_fi_sfr, eg_fr_sfr, eg_fd_sfr, eg_al_sfr, eg_ai_sfr, eg_ar_sfr, eg_ad_sfr, eg_aj_sfr, eg_nx_sfr, eg_ns_sfr, eg_cl_sfd, eg_fi_sfd, eg_fr_sfd, eg_fd_sfd, eg_al_sfd, eg_ai_sfd, eg_ar_sfd, eg_ad_sfd, eg_aj_sfd, eg_nx_sfd, eg_ns_sfd, eg_cl_sai, eg_fi_sai, eg_fr_sai, eg_fd_sai, eg_al_sai, eg_ai_sai, eg_ar_sai, eg_ad_sai, eg_aj_sai, eg_nx_sai, eg_ns_sai, eg_cl_sar, eg_fi_sar, eg_fr_sar, eg_fd_sar, eg_al_sar, eg_ai_sar, eg_ar_sar, eg_ad_sar, eg_aj_sar, eg_nx_sar, eg_ns_sar, eg_cl_sad, eg_fi_sad, eg_fr_sad, eg_fd_sad, eg_al_sad, eg_ai_sad, eg_ar_sad, eg_ad_sad, eg_aj_sad, eg_nx_sad, eg_ns_sad, eg_cl_saj, eg_fi_saj, eg_fr_saj, eg_fd_saj, eg_al_saj, eg_ai_saj, eg_ar_saj, eg_ad_saj, eg_aj_saj, eg_nx_saj, eg_ns_saj, eg_cl_new, eg_fi_new, eg_fr_new, eg_fd_new, eg_al_new, eg_ai_new, eg_ar_new, eg_ad_new, eg_aj_new, eg_nx_new, eg_ns_new, eg_cl_newa, eg_fi_newa, eg_fr_newa, eg_fd_newa, eg_al_newa, eg_ai_newa, eg_ar_newa, eg_ad_newa, eg_aj_newa, eg_nx_newa, eg_ns_newa, eg_cl_bump, eg_fi_bump, eg_fr_bump, eg_fd_bump, eg_al_bump, eg_ai_bump, eg_ar_bump, eg_ad_bump, eg_aj_bump, eg_nx_bump, eg_ns_bump, rs_c hS, rs_f708 hS, rs_a7 hS, rs_f709 hS, rs_a8 hS, rs_f704 hS, rs_a3 hS, Prod.mk.injEq, m3, m4, n3, n4, n1, e1, a3, a4, hkid, n5, d1, false_and, if_false]
    refine hq _ (((ag_sai (fun z => by unfold tkV at z; omega)).tr (ag_sai (fun z => by unfold tkV at z; omega))).tr (ag_sai (fun z => by unfold tkV at z; omega))) ⟨rfl, rfl, rfl, rfl⟩ (fun i c hi => ?_) (fun i => ⟨?_, ?_, fun hi => ?_⟩) trivial
    · rw [eg_ai_sai, if_neg (by omega), eg_ai_sai, if_neg (by omega), eg_ai_sai]
      by_cases e : i = pre.length
      · subst e
        rw [List.getElem?_append_right (Nat.le_refl _), Nat.sub_self] at hi
        simp at hi
        rw [if_pos ⟨rfl, rfl⟩, hi]
      · rw [if_neg (by omega)]
        by_cases e2 : i < pre.length
        · refine hlo i c (by omega) ?_
          rw [hl, List.getElem?_append_left e2]
          rw [List.getElem?_append_left e2] at hi
          exact hi
        · exact hhi i c (by omega) hi
    · rw [eg_ai_sai]
      by_cases e : i = n
      · rw [if_pos ⟨rfl, e⟩, if_pos e]
      · rw [if_neg (fun z => e z.2), if_neg e, eg_ai_sai, if_neg (by omega), eg_ai_sai, if_neg (by omega)]
    · rw [eg_ai_sai, if_neg (by omega), eg_ai_sai]
      by_cases e : i = p
      · rw [if_pos ⟨rfl, e⟩, if_pos e]
      · rw [if_neg (fun z => e z.2), if_neg e, eg_ai_sai, if_neg (by omega)]
    · rw [eg_ai_sai, if_neg (by omega), eg_ai_sai, if_neg (by omega), eg_ai_sai, if_neg (by omega)]
  | succ j ih =>
    intro σ hS hkid _ hlo hhi hq hjs
    have n1 : ¬ nI (pre.length + (j + 1)) ≤ nI pre.length := nI_ge (by omega) (by omega)
    have e1 := i24 p (pre.length + (j + 1))
    have e2 : nI (24 * p + (pre.length + (j + 1))) - 1 = nI (24 * p + (pre.length + j)) := by rw [show 24 * p + (pre.length + (j + 1)) = (24 * p + (pre.length + j)) + 1 by omega]; exact nI_pred _
    have a3 : vp_in (nI (24 * p + (pre.length + (j + 1)))) 576 := vp_in_nI (by omega) (by decide)
    have a4 : (nI (24 * p + (pre.length + (j + 1)))).toNatClampNeg = 24 * p + (pre.length + (j + 1)) := nI_clamp (by omega)
    have b3 : vp_in (nI (24 * p + (pre.length + j))) 576 := vp_in_nI (by omega) (by decide)
    have b4 : (nI (24 * p + (pre.length + j))).toNatClampNeg = 24 * p + (pre.length + j) := nI_clamp (by omega)
    have n5 : nI (pre.length + (j + 1)) + -1 = nI (pre.length + j) := by rw [show pre.length + (j + 1) = (pre.length + j) + 1 by omega]; exact pk_m1 _
    have hjl : pre.length + j < l.length := by rw [hl, List.length_append]; omega
    have hge : l[pre.length + j]? = some l[pre.length + j] := List.getElem?_eq_getElem hjl
    have hv := hlo (pre.length + j) _ (by omega) hge
    have hnew : (pre ++ n :: suf)[pre.length + (j + 1)]? = some l[pre.length + j] := by
      rw [← hge, hl, List.getElem?_append_right (by omega), List.getElem?_append_right (by omega), show pre.length + (j + 1) - pre.length = (pre.length + j - pre.length) + 1 by omega, List.getElem?_cons_succ]
    rw [j_X7_putIn_33]
    simp only [j_X7_putIn_0, j_X7_putIn_1, j_X7_putIn_2, j_X7_putIn_5, j_X7_putIn_6, j_X7_putIn_9, j_X7_putIn_10, j_X7_putIn_13, j_X7_putIn_14, j_X7_putIn_15, j_X7_putIn_18, j_X7_putIn_19, j_X7_putIn_20, j_X7_putIn_23, j_X7_putIn_25, j_X7_putIn_26, j_X7_putIn_29, j_X7_putIn_30, j_X7_putIn_31, j_X7_putIn_35, j_X7_putIn_37, j_X7_putIn_40, j_X7_putIn_41, j_X7_putIn_44, j_X7_putIn_46, j_X7_putIn_47, j_X7_putIn_48, j_X7_putIn_50, j_X7_putIn_51, j_X7_putIn_52, j_X7_putIn_55, j_X7_putIn_57, j_X7_putIn_58, j_X7_putIn_59, j_X7_putIn_61, j_X7_putIn_62, j_X7_putIn_63, j_X7_putIn_64, j_X7_putIn_65, j_X7_putIn_66, j_X7_putIn_69, j_X7_putIn_72, j_X7_putIn_73, j_X7_putIn_76, j_X7_putIn_78, j_X7_putIn_79, j_X7_putIn_80, j_X7_putIn_82, j_X7_putIn_83, j_X7_putIn_84, j_X7_putIn_85, j_X7_putIn_86, j_X7_putIn_89, j_X7_putIn_90, j_X7_putIn_91, j_X7_putIn_92, j_X7_putIn_93, j_X7_putIn_94, j_X7_putIn_95, j_X7_putIn_96, j_X7_putIn_99, j_X7_putIn_100, j_X7_putIn_101, j_X7_putIn_102, en_c2I, en_c2R, en_c2U, en_c2D, Option.some.injEq, exists_eq_left', exists_eq_left, Option.map_some, Option.map_none, not_true_eq_false, false_implies, true_implies, and_true, true_and, reduceCtorEq, not_false_eq_true, eg_cl_sfi, eg_fi_sfi, eg_fr_sfi, eg_fd_sfi, eg_al_sfi, eg_ai_sfi, eg_ar_sfi, eg_ad_sfi, eg_aj_sfi, eg_nx_sfi, eg_ns_sfi, eg_cl_sfr, eg_fi_sfr, eg_fr_sfr, eg_fd_sfr, eg_al_sfr, eg_ai_sfr, eg_ar_sfr, eg_ad_sfr, eg_aj_sfr, eg_nx_sfr, eg_ns_sfr, eg_cl_sfd, eg_fi_sfd, eg_fr_sfd, eg_fd_sfd, eg_al_sfd, eg_ai_sfd, eg_ar_sfd, eg_ad_sfd, eg_aj_sfd, eg_nx_sfd, eg_ns_sfd, eg_cl_sai, eg_fi_sai, eg_fr_sai, eg_fd_sai, eg_al_sai, eg_ai_sai, eg_ar_sai, eg_ad_sai, eg_aj_sai, eg_nx_sai, eg_ns_sai, eg_cl_sar, eg_fi_sar, eg_fr_sar, eg_fd_sar, eg_al_sar, eg_ai_sar, eg_ar_sar, eg_ad_sar, eg_aj_sar, eg_nx_sar, eg_ns_sar, eg_cl_sad, eg_fi_sad, eg_fr_sad, eg_fd_sad, eg_al_sad, eg_ai_sad, eg_ar_sad, eg_ad_sad, eg_aj_sad, eg_nx_sad, eg_ns_sad, eg_cl_saj, eg_fi_saj, eg_fr_saj, eg_fd_saj, eg_al_saj, eg_ai_saj, eg_ar_saj, eg_ad_saj, eg_aj_saj, eg_nx_saj, eg_ns_saj, eg_cl_new, eg_fi_new, eg_fr_new, eg_fd_new, eg_al_new, eg_ai_new, eg_ar_new, eg_ad_new, eg_aj_new, eg_nx_new, eg_ns_new, eg_cl_newa, eg_fi_newa, eg_fr_newa, eg_fd_newa, eg_al_newa, eg_ai_newa, eg_ar_newa, eg_ad_newa, eg_aj_newa, eg_nx_newa, eg_ns_newa, eg_cl_bump, eg_fi_bump, eg_fr_bump, eg_fd_bump, eg_al_bump, eg_ai_bump, eg_ar_bump, eg_ad_bump, eg_aj_bump, eg_nx_bump, eg_ns_bump, rs_c hS, rs_f708 hS, rs_a7 hS, rs_f709 hS, rs_a8 hS, rs_f704 hS, rs_a3 hS, Prod.mk.injEq, n1, e1, e2, a3, a4, b3, b4, hv, n5]
    have g1 : ag σ (en_sai σ (m + 8) (24 * p + (pre.length + (j + 1))) (nI l[pre.length + j])) TT (tkV m) := ag_sai (fun z => by unfold tkV at z; omega)
    refine ih _ (hS.ag g1 (rs_fr hS) (fun _ _ => trivial)) (by rw [eg_ai_sai, if_neg (by omega)]; exact hkid) rfl (fun i c hi hc => ?_) (fun i c hi hc => ?_) (fun σ' g2 s2 hr ho _ => ?_) (by omega)
    · rw [eg_ai_sai, if_neg (by omega)]
      exact hlo i c (by omega) hc
    · rw [eg_ai_sai]
      by_cases e : i = pre.length + (j + 1)
      · subst e
        rw [hnew] at hc
        rw [if_pos ⟨rfl, rfl⟩, Option.some.inj hc]
      · rw [if_neg (by omega)]
        exact hhi i c (by omega) hc
    · refine hq σ' (g1.tr g2) (sz.tr ⟨rfl, rfl, rfl, rfl⟩ s2) hr (fun i => ⟨?_, ?_, fun hi => ?_⟩) trivial
      · have e9 : ¬ (m + 3 = m + 8 ∧ i = 24 * p + (pre.length + (j + 1))) := by omega
        rw [(ho i).1, eg_ai_sai, if_neg e9]
      · have e9 : ¬ (m + 7 = m + 8 ∧ i = 24 * p + (pre.length + (j + 1))) := by omega
        rw [(ho i).2.1, eg_ai_sai, if_neg e9]
      · rw [(ho i).2.2 hi, eg_ai_sai, if_neg (by omega)]
theorem jl_X7_putIn {G : en_G}  {m : Nat} {A : st_A} {p : Nat} {n : Nat} {fo : Option Nat} {q : Option en_V → en_S → Prop} {σ : en_S} (hp : RX m A σ ∧ n < tr_N (sa_T A) ∧ p < tr_N (sa_T A) ∧ tr_el (sa_T A) n ∧ tr_over (sa_T A) n p = false ∧ (∀ f, fo = some f → f ∈ tr_ch (sa_T A) p ∧ f ≠ n)) (hq : ∀ v σ', (v = none ∧ RX m (su_T A (tr_ins (sa_T A) n p fo)) σ' ∧ ag σ σ' TT (tkV m) ∧ sz σ σ') → q v σ') : en_J (X_X7_putIn G q) 0 [en_R (some m), en_I (nI p), en_I (nI n), en_I (st_num fo), en_U, en_U] [] σ := by
  obtain ⟨hR, hn, hpl, hel, hov, hfo⟩ := hp
  have w := hR.2.2.2.2.2.2.2.2.2
  have hw := w.1
  have hN := hw.1.2
  have hgo : st_go A (su_T A (tr_ins (sa_T A) n p fo)) := st_go_T w (tr_wf_ins hw hn hpl hel hov hfo) rfl rfl rfl rfl rfl
  have hw1 := tr_wf_leave hw hn
  have m3 : vp_in (nI p) 24 := vp_in_nI (by omega) (by decide)
  have m4 : (nI p).toNatClampNeg = p := nI_clamp (by omega)
  have n3 : vp_in (nI n) 24 := vp_in_nI (by omega) (by decide)
  have n4 : (nI n).toNatClampNeg = n := nI_clamp (by omega)
  simp only [j_X7_putIn_0, j_X7_putIn_1, j_X7_putIn_2, j_X7_putIn_5, j_X7_putIn_6, j_X7_putIn_9, j_X7_putIn_10, j_X7_putIn_13, j_X7_putIn_14, j_X7_putIn_15, j_X7_putIn_18, j_X7_putIn_19, j_X7_putIn_20, j_X7_putIn_23, j_X7_putIn_25, j_X7_putIn_26, j_X7_putIn_29, j_X7_putIn_30, j_X7_putIn_31, j_X7_putIn_35, j_X7_putIn_37, j_X7_putIn_40, j_X7_putIn_41, j_X7_putIn_44, j_X7_putIn_46, j_X7_putIn_47, j_X7_putIn_48, j_X7_putIn_50, j_X7_putIn_51, j_X7_putIn_52, j_X7_putIn_55, j_X7_putIn_57, j_X7_putIn_58, j_X7_putIn_59, j_X7_putIn_61, j_X7_putIn_62, j_X7_putIn_63, j_X7_putIn_64, j_X7_putIn_65, j_X7_putIn_66, j_X7_putIn_69, j_X7_putIn_72, j_X7_putIn_73, j_X7_putIn_76, j_X7_putIn_78, j_X7_putIn_79, j_X7_putIn_80, j_X7_putIn_82, j_X7_putIn_83, j_X7_putIn_84, j_X7_putIn_85, j_X7_putIn_86, j_X7_putIn_89, j_X7_putIn_90, j_X7_putIn_91, j_X7_putIn_92, j_X7_putIn_93, j_X7_putIn_94, j_X7_putIn_95, j_X7_putIn_96, j_X7_putIn_99, j_X7_putIn_100, j_X7_putIn_101, j_X7_putIn_102, en_c2I, en_c2R, en_c2U, en_c2D, Option.some.injEq, exists_eq_left', exists_eq_left, Option.map_some, Option.map_none, not_true_eq_false, false_implies, true_implies, and_true, true_and, reduceCtorEq, not_false_eq_true]
  refine en_use (cu_X7_takeOut ⟨hR, hn⟩) ?_
  rintro v σ1 ⟨rfl, hR1, g1, s1⟩
  have hS1 := hR1.1
  have hpl1 : p < tr_N (sa_T (su_T A (tr_leave (sa_T A) n))) := hpl
  obtain ⟨p1, p2, p3, p4, p5, p6, p7⟩ := hR1.2.1 p hpl1
  have p6 : en_ai σ1 (m + 7) p = nI (tr_ch (tr_leave (sa_T A) n) p).length := p6
  have hnn : n ∉ tr_ch (tr_leave (sa_T A) n) p := fun z => by
    have := (hw1.2.2.1 p n hpl z).2
    have e : tr_pa (tr_leave (sa_T A) n) n = none := by show (if n = n then none else _) = none; rw [if_pos rfl]
    rw [e] at this; cases this
  have hlen1 : (tr_ch (tr_leave (sa_T A) n) p).length + 1 ≤ 24 := by
    have := tr_pigeon 24 (n :: tr_ch (tr_leave (sa_T A) n) p) (List.nodup_cons.mpr ⟨hnn, hw1.2.2.2.1 p hpl⟩) (fun a ha => by
      rcases List.mem_cons.mp ha with rfl | ha
      · omega
      · have := (hw1.2.2.1 p a hpl ha).1
        have e : tr_N (tr_leave (sa_T A) n) = tr_N (sa_T A) := rfl
        omega)
    rw [List.length_cons] at this; exact this
  have fin : ∀ (pre suf : List Nat), tr_ch (tr_leave (sa_T A) n) p = pre ++ suf → tr_insL (tr_ch (tr_leave (sa_T A) n) p) n fo = pre ++ n :: suf → en_J (X_X7_putIn G q) 23 [en_R (some m), en_I (nI p), en_I (nI n), en_I (st_num fo), en_U, en_U] [en_I (nI pre.length)] σ1 := by
    intro pre suf hl hins
    have hll : (tr_ch (tr_leave (sa_T A) n) p).length = pre.length + suf.length := by rw [hl, List.length_append]
    simp only [j_X7_putIn_0, j_X7_putIn_1, j_X7_putIn_2, j_X7_putIn_5, j_X7_putIn_6, j_X7_putIn_9, j_X7_putIn_10, j_X7_putIn_13, j_X7_putIn_14, j_X7_putIn_15, j_X7_putIn_18, j_X7_putIn_19, j_X7_putIn_20, j_X7_putIn_23, j_X7_putIn_25, j_X7_putIn_26, j_X7_putIn_29, j_X7_putIn_30, j_X7_putIn_31, j_X7_putIn_35, j_X7_putIn_37, j_X7_putIn_40, j_X7_putIn_41, j_X7_putIn_44, j_X7_putIn_46, j_X7_putIn_47, j_X7_putIn_48, j_X7_putIn_50, j_X7_putIn_51, j_X7_putIn_52, j_X7_putIn_55, j_X7_putIn_57, j_X7_putIn_58, j_X7_putIn_59, j_X7_putIn_61, j_X7_putIn_62, j_X7_putIn_63, j_X7_putIn_64, j_X7_putIn_65, j_X7_putIn_66, j_X7_putIn_69, j_X7_putIn_72, j_X7_putIn_73, j_X7_putIn_76, j_X7_putIn_78, j_X7_putIn_79, j_X7_putIn_80, j_X7_putIn_82, j_X7_putIn_83, j_X7_putIn_84, j_X7_putIn_85, j_X7_putIn_86, j_X7_putIn_89, j_X7_putIn_90, j_X7_putIn_91, j_X7_putIn_92, j_X7_putIn_93, j_X7_putIn_94, j_X7_putIn_95, j_X7_putIn_96, j_X7_putIn_99, j_X7_putIn_100, j_X7_putIn_101, j_X7_putIn_102, en_c2I, en_c2R, en_c2U, en_c2D, Option.some.injEq, exists_eq_left', exists_eq_left, Option.map_some, Option.map_none, not_true_eq_false, false_implies, true_implies, and_true, true_and, reduceCtorEq, not_false_eq_true, rs_c hS1, rs_f708 hS1, rs_a7 hS1, rs_f709 hS1, rs_a8 hS1, rs_f704 hS1, rs_a3 hS1, Prod.mk.injEq, m3, m4, p6]
    rw [hll]
    refine jw_X7_putIn (q := q) (n := n) hpl hn hN (by omega) (l := tr_ch (tr_leave (sa_T A) n) p) hl suf.length σ1 hS1 ?_ ?_ (fun i c _ hc => p7 i c hc) (fun i c hi hc => ?_) ?_ (Nat.le_refl _)
    · rw [p6, hll]
    · rfl
    · have := (List.getElem?_eq_some_iff.mp hc).1
      rw [List.length_append, List.length_cons] at this
      omega
    intro σ2 g2 s2 hrow hoth h7
    have g12 := g1.tr g2
    have s12 := s1.tr s2
    have x := rs_nx hR.1
    have hpan : ∀ k, tr_pa (tr_ins (sa_T A) n p fo) k = if k = n then some p else tr_pa (sa_T A) k := fun k => rfl
    have hchn : ∀ k, tr_ch (tr_ins (sa_T A) n p fo) k = if k = p then pre ++ n :: suf else tr_ch (tr_leave (sa_T A) n) k := fun k => by
      show (if k = p then tr_insL (tr_ch (tr_leave (sa_T A) n) p) n fo else tr_ch (tr_leave (sa_T A) n) k) = _
      rw [hins]
    refine hq _ _ ⟨rfl, rx_tree hR g12 s12 hgo ?_ ?_, g12, s12⟩
    · intro k hk
      have hk1 : k < tr_N (sa_T (su_T A (tr_leave (sa_T A) n))) := hk
      obtain ⟨k1, k2, k3, k4, k5, k6, k7⟩ := hR1.2.1 k hk1
      have rr : ∀ j, j < 42 → tkV m (m + j) → en_ai σ2 (m + j) = en_ai σ1 (m + j) := fun j hj hv => ((g2.2 _ (by have := rs_nx hS1; omega)).2.2.2 hv).1
      refine ⟨by rw [rr 1 (by decide) (by unfold tkV; omega)]; exact k1, fun he => by rw [rr 2 (by decide) (by unfold tkV; omega)]; exact k2 he, ?_, by rw [rr 4 (by decide) (by unfold tkV; omega)]; exact k4, by rw [rr 5 (by decide) (by unfold tkV; omega)]; exact k5, ?_, ?_⟩
      · show en_ai σ2 (m + 3) k = st_num (tr_pa (tr_ins (sa_T A) n p fo) k)
        rw [hpan, (hoth k).1]
        by_cases e : k = n
        · rw [if_pos e, if_pos e]; rfl
        · rw [if_neg e, if_neg e]
          have : tr_pa (tr_leave (sa_T A) n) k = tr_pa (sa_T A) k := by show (if k = n then none else _) = _; rw [if_neg e]
          rw [← this]; exact k3
      · show en_ai σ2 (m + 7) k = nI (tr_ch (tr_ins (sa_T A) n p fo) k).length
        rw [hchn, (hoth k).2.1]
        by_cases e : k = p
        · rw [if_pos e, if_pos e, List.length_append, List.length_cons]
          congr 1
        · rw [if_neg e, if_neg e]; exact k6
      · intro j c hc
        have hc' : (tr_ch (tr_ins (sa_T A) n p fo) k)[j]? = some c := hc
        rw [hchn] at hc'
        by_cases e : k = p
        · subst e
          rw [if_pos rfl] at hc'
          exact hrow j c hc'
        · rw [if_neg e] at hc'
          have hjl := (List.getElem?_eq_some_iff.mp hc').1
          have hkl := tr_len hw1 (show k < tr_N (tr_leave (sa_T A) n) from hk)
          rw [(hoth (24 * k + j)).2.2 (by omega)]
          exact k7 j c hc'
    · intro k a b
      rw [(hoth k).2.1, if_neg (by omega)]
      exact (hR1.2.2.1 k a b).2.1
  cases fo with
  | none =>
    have z1 : ¬ (0 : Int32) ≤ -1 := by decide
    have := fin (tr_ch (tr_leave (sa_T A) n) p) [] (by simp) rfl
    simp only [Option.toList, List.cons_append, List.nil_append, j_X7_putIn_0, j_X7_putIn_1, j_X7_putIn_2, j_X7_putIn_5, j_X7_putIn_6, j_X7_putIn_9, j_X7_putIn_10, j_X7_putIn_13, j_X7_putIn_14, j_X7_putIn_15, j_X7_putIn_18, j_X7_putIn_19, j_X7_putIn_20, j_X7_putIn_25, j_X7_putIn_26, j_X7_putIn_29, j_X7_putIn_30, j_X7_putIn_31, j_X7_putIn_35, j_X7_putIn_37, j_X7_putIn_40, j_X7_putIn_41, j_X7_putIn_44, j_X7_putIn_46, j_X7_putIn_47, j_X7_putIn_48, j_X7_putIn_50, j_X7_putIn_51, j_X7_putIn_52, j_X7_putIn_55, j_X7_putIn_57, j_X7_putIn_58, j_X7_putIn_59, j_X7_putIn_61, j_X7_putIn_62, j_X7_putIn_63, j_X7_putIn_64, j_X7_putIn_65, j_X7_putIn_66, j_X7_putIn_69, j_X7_putIn_72, j_X7_putIn_73, j_X7_putIn_76, j_X7_putIn_78, j_X7_putIn_79, j_X7_putIn_80, j_X7_putIn_82, j_X7_putIn_83, j_X7_putIn_84, j_X7_putIn_85, j_X7_putIn_86, j_X7_putIn_89, j_X7_putIn_90, j_X7_putIn_91, j_X7_putIn_92, j_X7_putIn_93, j_X7_putIn_94, j_X7_putIn_95, j_X7_putIn_96, j_X7_putIn_99, j_X7_putIn_100, j_X7_putIn_101, j_X7_putIn_102, en_c2I, en_c2R, en_c2U, en_c2D, Option.some.injEq, exists_eq_left', exists_eq_left, Option.map_some, Option.map_none, not_true_eq_false, false_implies, true_implies, and_true, true_and, reduceCtorEq, not_false_eq_true, rs_c hS1, rs_f708 hS1, rs_a7 hS1, rs_f709 hS1, rs_a8 hS1, rs_f704 hS1, rs_a3 hS1, Prod.mk.injEq, m3, m4, p6, st_num_none, z1]
    exact this
  | some f =>
    obtain ⟨hf1, hf2⟩ := hfo f rfl
    have hfl := (hw.2.2.1 p f hpl hf1).1
    have z1 : (0 : Int32) ≤ nI f := nI_pos' (by omega)
    have hf3 : f ∈ tr_ch (tr_leave (sa_T A) n) p := by
      have e : tr_ch (tr_leave (sa_T A) n) p = if tr_pa (sa_T A) n = some p then (tr_ch (sa_T A) p).erase n else tr_ch (sa_T A) p := rfl
      rw [e]
      by_cases h3 : tr_pa (sa_T A) n = some p
      · rw [if_pos h3]; exact (List.mem_erase_of_ne hf2).mpr hf1
      · rw [if_neg h3]; exact hf1
    have hpf := (hw1.2.2.1 p f hpl hf3).2
    have hr3 := (hR1.2.1 f hfl).2.2.1
    simp only [Option.toList, List.cons_append, List.nil_append, j_X7_putIn_0, j_X7_putIn_1, j_X7_putIn_2, j_X7_putIn_5, j_X7_putIn_6, j_X7_putIn_9, j_X7_putIn_10, j_X7_putIn_13, j_X7_putIn_14, j_X7_putIn_15, j_X7_putIn_18, j_X7_putIn_19, j_X7_putIn_20, j_X7_putIn_25, j_X7_putIn_26, j_X7_putIn_29, j_X7_putIn_30, j_X7_putIn_31, j_X7_putIn_35, j_X7_putIn_37, j_X7_putIn_40, j_X7_putIn_41, j_X7_putIn_44, j_X7_putIn_46, j_X7_putIn_47, j_X7_putIn_48, j_X7_putIn_50, j_X7_putIn_51, j_X7_putIn_52, j_X7_putIn_55, j_X7_putIn_57, j_X7_putIn_58, j_X7_putIn_59, j_X7_putIn_61, j_X7_putIn_62, j_X7_putIn_63, j_X7_putIn_64, j_X7_putIn_65, j_X7_putIn_66, j_X7_putIn_69, j_X7_putIn_72, j_X7_putIn_73, j_X7_putIn_76, j_X7_putIn_78, j_X7_putIn_79, j_X7_putIn_80, j_X7_putIn_82, j_X7_putIn_83, j_X7_putIn_84, j_X7_putIn_85, j_X7_putIn_86, j_X7_putIn_89, j_X7_putIn_90, j_X7_putIn_91, j_X7_putIn_92, j_X7_putIn_93, j_X7_putIn_94, j_X7_putIn_95, j_X7_putIn_96, j_X7_putIn_99, j_X7_putIn_100, j_X7_putIn_101, j_X7_putIn_102, en_c2I, en_c2R, en_c2U, en_c2D, Option.some.injEq, exists_eq_left', exists_eq_left, Option.map_some, Option.map_none, not_true_eq_false, false_implies, true_implies, and_true, true_and, reduceCtorEq, not_false_eq_true, st_num_some, z1]
    have hr3' : en_ai σ1 (m + 3) f = st_num (tr_pa (tr_leave (sa_T A) n) f) := hr3
    rw [hpf] at hr3'
    refine en_use (cu_X7_placeOf (n := f) (p := p) (l := tr_ch (tr_leave (sa_T A) n) p) ⟨hS1, by omega, by omega, hr3', fun j c hc => ⟨p7 j c hc, ?_⟩, by omega, hf3⟩) ?_
    · have := (hw1.2.2.1 p c hpl (List.mem_of_getElem? hc)).1
      have e : tr_N (tr_leave (sa_T A) n) = tr_N (sa_T A) := rfl
      omega
    rintro v σ2 ⟨rfl, pre, suf, hl, hnp, rfl⟩
    have := fin pre (f :: suf) hl (by rw [hl]; exact tr_insB_split hnp)
    exact this
theorem jp_X7_putIn {G : en_G}  : ∀ as σ, (C_X7_putIn G).1 as σ → (en_lc as).length ≤ 6 ∧ en_J (X_X7_putIn G (fun r σ' => (C_X7_putIn G).2 as σ r σ')) 0 (en_loc 6 as) [] σ := en_ghJ (fun g as σ h => by
  obtain ⟨hp, h2⟩ := h
  subst h2
  exact ⟨Nat.le_of_ble_eq_true rfl, jl_X7_putIn hp (fun _ _ h => h)⟩)
theorem wl_X7_putIn_167 : Jvm.Cond.methodLink RX7 167 yX7_takeOut ∈ en_W := en_inW (List.mem_of_getElem? (i := 903) (by decide +kernel)) (by decide +kernel)
theorem wl_X7_putIn_164 : Jvm.Cond.methodLink RX7 164 yX7_placeOf ∈ en_W := en_inW (List.mem_of_getElem? (i := 907) (by decide +kernel)) (by decide +kernel)
theorem ok_X7_putIn {G : en_G}  : en_Ok G 3 yX7_putIn cX7_putIn 6 none (C_X7_putIn G) :=
  en_met (own := RX7) (fl := en_lk fl7) (nw := en_lk nw7) (aw := en_lk aw7) (dc := en_lk dc7) (ca := en_lk (ca_X7_putIn G)) (rt := 0) (ini := false) (by decide +kernel) (Or.inl ⟨rfl, rfl⟩) (fun h => by cases h) rfl (fun q => en_LkF fl7_ok nw7_ok aw7_ok dc7_ok) (by
    intro idx q hq
    have hm := en_lk_mem hq
    simp only [ca_X7_putIn, List.mem_cons, Prod.mk.injEq, List.not_mem_nil, or_false] at hm
    rcases hm with ⟨rfl, rfl⟩ | ⟨rfl, rfl⟩
    · exact en_clV (r := (RX7, TX7, 53)) 7 1 ok_X7_takeOut (by decide) (by decide) rfl rfl pr_X7_takeOut wl_X7_putIn_167 wi_X7_takeOut wx_X7_takeOut wz_7 wc_X7_takeOut ⟨by decide +kernel, by decide +kernel, by decide +kernel⟩
    · exact en_clV (r := (RX7, TX7, 53)) 7 1 ok_X7_placeOf (by decide) (by decide) rfl rfl pr_X7_placeOf wl_X7_putIn_164 wi_X7_placeOf wx_X7_placeOf wz_7 wc_X7_placeOf ⟨by decide +kernel, by decide +kernel, by decide +kernel⟩) jp_X7_putIn
