/-! THE REFERENCE: the next in tree order; the slot -/
theorem od_suf_at {pre suf : List Nat} {x : Nat} (h : x ∉ pre) : od_suf (pre ++ x :: suf) x = suf := by
  rw [od_suf_app h]; simp [od_suf]
theorem rx_place {m : Nat} {A : st_A} {σ : en_S} (h : RX m A σ) {x p : Nat} (hx : x < tr_N (sa_T A)) (hp : tr_pa (sa_T A) x = some p) : rs_ok m σ ∧ x < 24 ∧ p < 24 ∧ en_ai σ (m + 3) x = nI p ∧ (∀ j c, (tr_ch (sa_T A) p)[j]? = some c → en_ai σ (m + 8) (24 * p + j) = nI c ∧ c < 24) ∧ (tr_ch (sa_T A) p).length ≤ 24 ∧ x ∈ tr_ch (sa_T A) p := by
  have hw := h.2.2.2.2.2.2.2.2.2.1
  have hN := hw.1.2
  have hpl := tr_pa_lt hw hx hp
  have r3 := (h.2.1 x hx).2.2.1
  rw [hp] at r3
  refine ⟨h.1, by omega, by omega, r3, fun j c hc => ⟨(h.2.1 p hpl).2.2.2.2.2.2 j c hc, ?_⟩, tr_len hw hpl, (hw.2.1 x p hx hp).2.1⟩
  have := (hw.2.2.1 p c hpl (List.mem_of_getElem? hc)).1
  omega
def P_X7_following (G : en_G)  (g : (Nat) × (st_A) × (Nat) × (Nat)) (as : List en_V) (σ : en_S) : Prop := (RX (g.1) (g.2.1) σ ∧ (g.2.2.1) < tr_N (sa_T (g.2.1)) ∧ tr_root (sa_T (g.2.1)) (g.2.2.1) = (g.2.2.2) ∧ tr_pa (sa_T (g.2.1)) (g.2.2.2) = none) ∧ as = [en_R (some (g.1)), en_I (nI (g.2.2.1)), en_I (nI (g.2.2.2))]
def C_X7_following (G : en_G)  : en_C := en_gh (P_X7_following G) (fun g as σ v σ' => σ' = σ ∧ v = some (en_I (st_num (tr_nto (sa_T (g.2.1)) (g.2.2.1)))))
theorem pr_X7_following {G : en_G}  : ∀ as σ, (C_X7_following G).1 as σ → ∃ b tl, as = en_R (some b) :: tl ∧ en_cl σ b = some 7 ∧ tl.length = 2 := fun as σ ⟨g, hp, h2⟩ => ⟨_, _, h2, rs_c hp.1.1, rfl⟩
theorem cu_X7_following {G : en_G}  {m : Nat} {A : st_A} {n : Nat} {top : Nat} {σ : en_S} (hp : RX m A σ ∧ n < tr_N (sa_T A) ∧ tr_root (sa_T A) n = top ∧ tr_pa (sa_T A) top = none) : en_Us (C_X7_following G) [en_R (some m), en_I (nI n), en_I (nI top)] σ (fun v σ' => σ' = σ ∧ v = some (en_I (st_num (tr_nto (sa_T A) n)))) := ⟨⟨(m, A, n, top), hp, rfl⟩, fun v σ' q => q (m, A, n, top) ⟨hp, rfl⟩⟩
def ca_X7_following (G : en_G) : List (Nat × Nat × en_C) := [(164, 9, (C_X7_placeOf G))]
def X_X7_following (G : en_G) (q : Option en_V → en_S → Prop) : en_X := en_mk G cX7_following (en_lk fl7) (en_lk nw7) (en_lk aw7) (en_lk dc7) (en_lk (ca_X7_following G)) 1 false q
theorem d_X7_following_0 : decode cX7_following 0 = .ok (.aload_n 0, 1) := by decide +kernel
theorem j_X7_following_0 {G : en_G} {q : Option en_V → en_S → Prop}  {l1 l2 l3 : en_V} {x0 : Option Nat} {σ : en_S} : en_J (X_X7_following G q) 0 [en_R x0, l1, l2, l3] [] σ ↔ en_J (X_X7_following G q) 1 [en_R x0, l1, l2, l3] [en_R x0] σ := en_j1 d_X7_following_0 rfl rfl
theorem d_X7_following_1 : decode cX7_following 1 = .ok (.getfield 33, 3) := by decide +kernel
theorem j_X7_following_1 {G : en_G} {q : Option en_V → en_S → Prop}  {l0 l1 l2 l3 : en_V} {a0 : Option Nat} {σ : en_S} : en_J (X_X7_following G q) 1 [l0, l1, l2, l3] [en_R a0] σ ↔ ∃ a, a0 = some a ∧ en_cl σ a = some 7 ∧ en_J (X_X7_following G q) 4 [l0, l1, l2, l3] [en_R (en_fr σ 708 a)] σ := en_jg (st := fun o => [en_R o]) (st' := fun a => [en_R (en_fr σ 708 a)]) (σ' := fun _ => σ) d_X7_following_1 rfl (fun a => rfl) (fun a => ⟨fun h => h.2, fun h => ⟨rfl, h⟩⟩)
theorem d_X7_following_4 : decode cX7_following 4 = .ok (.iload_n 1, 1) := by decide +kernel
theorem j_X7_following_4 {G : en_G} {q : Option en_V → en_S → Prop}  {l0 l2 l3 : en_V} {a0 : Option Nat} {x1 : Int32} {σ : en_S} : en_J (X_X7_following G q) 4 [l0, en_I x1, l2, l3] [en_R a0] σ ↔ en_J (X_X7_following G q) 5 [l0, en_I x1, l2, l3] [en_I x1, en_R a0] σ := en_j1 d_X7_following_4 rfl rfl
theorem d_X7_following_5 : decode cX7_following 5 = .ok (.iaload, 1) := by decide +kernel
theorem j_X7_following_5 {G : en_G} {q : Option en_V → en_S → Prop}  {l0 l1 l2 l3 : en_V} {a0 : Int32} {a1 : Option Nat} {σ : en_S} : en_J (X_X7_following G q) 5 [l0, l1, l2, l3] [en_I a0, en_R a1] σ ↔ ∃ a, a1 = some a ∧ (∃ k, en_al σ a = some (0, k) ∧ vp_in a0 k) ∧ en_J (X_X7_following G q) 6 [l0, l1, l2, l3] [en_I (en_ai σ a a0.toNatClampNeg)] σ := ej_iaload d_X7_following_5 rfl
theorem d_X7_following_6 : decode cX7_following 6 = .ok (.ifCond .le 13, 3) := by decide +kernel
theorem j_X7_following_6 {G : en_G} {q : Option en_V → en_S → Prop}  {l0 l1 l2 l3 : en_V} {a0 : Int32} {σ : en_S} : en_J (X_X7_following G q) 6 [l0, l1, l2, l3] [en_I a0] σ ↔ (a0 ≤ 0 → en_J (X_X7_following G q) 19 [l0, l1, l2, l3] [] σ) ∧ (¬ (a0 ≤ 0) → en_J (X_X7_following G q) 9 [l0, l1, l2, l3] [] σ) := en_jb d_X7_following_6 rfl ⟨rfl, by decide⟩
theorem d_X7_following_9 : decode cX7_following 9 = .ok (.aload_n 0, 1) := by decide +kernel
theorem j_X7_following_9 {G : en_G} {q : Option en_V → en_S → Prop}  {l1 l2 l3 : en_V} {x0 : Option Nat} {σ : en_S} : en_J (X_X7_following G q) 9 [en_R x0, l1, l2, l3] [] σ ↔ en_J (X_X7_following G q) 10 [en_R x0, l1, l2, l3] [en_R x0] σ := en_j1 d_X7_following_9 rfl rfl
theorem d_X7_following_10 : decode cX7_following 10 = .ok (.getfield 36, 3) := by decide +kernel
theorem j_X7_following_10 {G : en_G} {q : Option en_V → en_S → Prop}  {l0 l1 l2 l3 : en_V} {a0 : Option Nat} {σ : en_S} : en_J (X_X7_following G q) 10 [l0, l1, l2, l3] [en_R a0] σ ↔ ∃ a, a0 = some a ∧ en_cl σ a = some 7 ∧ en_J (X_X7_following G q) 13 [l0, l1, l2, l3] [en_R (en_fr σ 709 a)] σ := en_jg (st := fun o => [en_R o]) (st' := fun a => [en_R (en_fr σ 709 a)]) (σ' := fun _ => σ) d_X7_following_10 rfl (fun a => rfl) (fun a => ⟨fun h => h.2, fun h => ⟨rfl, h⟩⟩)
theorem d_X7_following_13 : decode cX7_following 13 = .ok (.bipush 24, 2) := by decide +kernel
theorem j_X7_following_13 {G : en_G} {q : Option en_V → en_S → Prop}  {l0 l1 l2 l3 : en_V} {a0 : Option Nat} {σ : en_S} : en_J (X_X7_following G q) 13 [l0, l1, l2, l3] [en_R a0] σ ↔ en_J (X_X7_following G q) 15 [l0, l1, l2, l3] [en_I 24, en_R a0] σ := ej_bipush d_X7_following_13 (by decide +kernel)
theorem d_X7_following_15 : decode cX7_following 15 = .ok (.iload_n 1, 1) := by decide +kernel
theorem j_X7_following_15 {G : en_G} {q : Option en_V → en_S → Prop}  {l0 l2 l3 : en_V} {a0 : Int32} {a1 : Option Nat} {x1 : Int32} {σ : en_S} : en_J (X_X7_following G q) 15 [l0, en_I x1, l2, l3] [en_I a0, en_R a1] σ ↔ en_J (X_X7_following G q) 16 [l0, en_I x1, l2, l3] [en_I x1, en_I a0, en_R a1] σ := en_j1 d_X7_following_15 rfl rfl
theorem d_X7_following_16 : decode cX7_following 16 = .ok (.imul, 1) := by decide +kernel
theorem j_X7_following_16 {G : en_G} {q : Option en_V → en_S → Prop}  {l0 l1 l2 l3 : en_V} {a0 : Int32} {a1 : Int32} {a2 : Option Nat} {σ : en_S} : en_J (X_X7_following G q) 16 [l0, l1, l2, l3] [en_I a0, en_I a1, en_R a2] σ ↔ en_J (X_X7_following G q) 17 [l0, l1, l2, l3] [en_I (a1 * a0), en_R a2] σ := en_j1 d_X7_following_16 rfl ⟨rfl, trivial⟩
theorem d_X7_following_17 : decode cX7_following 17 = .ok (.iaload, 1) := by decide +kernel
theorem j_X7_following_17 {G : en_G} {q : Option en_V → en_S → Prop}  {l0 l1 l2 l3 : en_V} {a0 : Int32} {a1 : Option Nat} {σ : en_S} : en_J (X_X7_following G q) 17 [l0, l1, l2, l3] [en_I a0, en_R a1] σ ↔ ∃ a, a1 = some a ∧ (∃ k, en_al σ a = some (0, k) ∧ vp_in a0 k) ∧ en_J (X_X7_following G q) 18 [l0, l1, l2, l3] [en_I (en_ai σ a a0.toNatClampNeg)] σ := ej_iaload d_X7_following_17 rfl
theorem d_X7_following_18 : decode cX7_following 18 = .ok (.ireturn, 1) := by decide +kernel
theorem j_X7_following_18 {G : en_G} {q : Option en_V → en_S → Prop}  {l0 l1 l2 l3 : en_V} {a0 : Int32} {σ : en_S} : en_J (X_X7_following G q) 18 [l0, l1, l2, l3] [en_I a0] σ ↔ q (some (en_I a0)) σ := en_jr d_X7_following_18 rfl ⟨fun h => h.2.2, fun h => ⟨rfl, Or.inl rfl, h⟩⟩
theorem d_X7_following_19 : decode cX7_following 19 = .ok (.iload_n 1, 1) := by decide +kernel
theorem j_X7_following_19 {G : en_G} {q : Option en_V → en_S → Prop}  {l0 l2 l3 : en_V} {x1 : Int32} {σ : en_S} : en_J (X_X7_following G q) 19 [l0, en_I x1, l2, l3] [] σ ↔ en_J (X_X7_following G q) 20 [l0, en_I x1, l2, l3] [en_I x1] σ := en_j1 d_X7_following_19 rfl rfl
theorem d_X7_following_20 : decode cX7_following 20 = .ok (.istore_n 3, 1) := by decide +kernel
theorem j_X7_following_20 {G : en_G} {q : Option en_V → en_S → Prop}  {l0 l1 l2 l3 : en_V} {a0 : Int32} {σ : en_S} : en_J (X_X7_following G q) 20 [l0, l1, l2, l3] [en_I a0] σ ↔ en_J (X_X7_following G q) 21 [l0, l1, en_c2 l2, en_I a0] [] σ := en_j1 d_X7_following_20 rfl ⟨rfl, Nat.le_of_ble_eq_true rfl⟩
theorem d_X7_following_21 : decode cX7_following 21 = .ok (.iload_n 3, 1) := by decide +kernel
theorem j_X7_following_21 {G : en_G} {q : Option en_V → en_S → Prop}  {l0 l1 l2 : en_V} {x3 : Int32} {σ : en_S} : en_J (X_X7_following G q) 21 [l0, l1, l2, en_I x3] [] σ ↔ en_J (X_X7_following G q) 22 [l0, l1, l2, en_I x3] [en_I x3] σ := en_j1 d_X7_following_21 rfl rfl
theorem d_X7_following_22 : decode cX7_following 22 = .ok (.iload_n 2, 1) := by decide +kernel
theorem j_X7_following_22 {G : en_G} {q : Option en_V → en_S → Prop}  {l0 l1 l3 : en_V} {a0 : Int32} {x2 : Int32} {σ : en_S} : en_J (X_X7_following G q) 22 [l0, l1, en_I x2, l3] [en_I a0] σ ↔ en_J (X_X7_following G q) 23 [l0, l1, en_I x2, l3] [en_I x2, en_I a0] σ := en_j1 d_X7_following_22 rfl rfl
theorem d_X7_following_23 : decode cX7_following 23 = .ok (.if_icmp .eq 34, 3) := by decide +kernel
theorem j_X7_following_23 {G : en_G} {q : Option en_V → en_S → Prop}  {l0 l1 l2 l3 : en_V} {a0 : Int32} {a1 : Int32} {σ : en_S} : en_J (X_X7_following G q) 23 [l0, l1, l2, l3] [en_I a0, en_I a1] σ ↔ (a1 = a0 → en_J (X_X7_following G q) 57 [l0, l1, l2, l3] [] σ) ∧ (¬ (a1 = a0) → en_J (X_X7_following G q) 26 [l0, l1, l2, l3] [] σ) := en_jb d_X7_following_23 rfl ⟨rfl, by decide⟩
theorem d_X7_following_26 : decode cX7_following 26 = .ok (.aload_n 0, 1) := by decide +kernel
theorem j_X7_following_26 {G : en_G} {q : Option en_V → en_S → Prop}  {l1 l2 l3 : en_V} {x0 : Option Nat} {σ : en_S} : en_J (X_X7_following G q) 26 [en_R x0, l1, l2, l3] [] σ ↔ en_J (X_X7_following G q) 27 [en_R x0, l1, l2, l3] [en_R x0] σ := en_j1 d_X7_following_26 rfl rfl
theorem d_X7_following_27 : decode cX7_following 27 = .ok (.iload_n 3, 1) := by decide +kernel
theorem j_X7_following_27 {G : en_G} {q : Option en_V → en_S → Prop}  {l0 l1 l2 : en_V} {a0 : Option Nat} {x3 : Int32} {σ : en_S} : en_J (X_X7_following G q) 27 [l0, l1, l2, en_I x3] [en_R a0] σ ↔ en_J (X_X7_following G q) 28 [l0, l1, l2, en_I x3] [en_I x3, en_R a0] σ := en_j1 d_X7_following_27 rfl rfl
theorem d_X7_following_28 : decode cX7_following 28 = .ok (.invokevirtual 164, 3) := by decide +kernel
theorem j_X7_following_28 {G : en_G} {q : Option en_V → en_S → Prop}  {l0 l1 l2 l3 : en_V} {a0 : Int32} {a1 : Option Nat} {σ : en_S} : en_J (X_X7_following G q) 28 [l0, l1, l2, l3] [en_I a0, en_R a1] σ ↔ (C_X7_placeOf G).1 [en_R a1, en_I a0] σ ∧ ∀ (r : Option en_V) (σ' : en_S), (C_X7_placeOf G).2 [en_R a1, en_I a0] σ r σ' → en_J (X_X7_following G q) 31 [l0, l1, l2, l3] (r.toList ++ []) σ' := en_jkC (C := (C_X7_placeOf G)) (n' := 2) (k := 1) (idx := 164) d_X7_following_28 rfl rfl (by decide) (Nat.le_of_ble_eq_true rfl) (Nat.le_of_ble_eq_true rfl)
theorem d_X7_following_31 : decode cX7_following 31 = .ok (.aload_n 0, 1) := by decide +kernel
theorem j_X7_following_31 {G : en_G} {q : Option en_V → en_S → Prop}  {l1 l2 l3 : en_V} {a0 : Int32} {x0 : Option Nat} {σ : en_S} : en_J (X_X7_following G q) 31 [en_R x0, l1, l2, l3] [en_I a0] σ ↔ en_J (X_X7_following G q) 32 [en_R x0, l1, l2, l3] [en_R x0, en_I a0] σ := en_j1 d_X7_following_31 rfl rfl
theorem d_X7_following_32 : decode cX7_following 32 = .ok (.getfield 33, 3) := by decide +kernel
theorem j_X7_following_32 {G : en_G} {q : Option en_V → en_S → Prop}  {l0 l1 l2 l3 : en_V} {a0 : Option Nat} {a1 : Int32} {σ : en_S} : en_J (X_X7_following G q) 32 [l0, l1, l2, l3] [en_R a0, en_I a1] σ ↔ ∃ a, a0 = some a ∧ en_cl σ a = some 7 ∧ en_J (X_X7_following G q) 35 [l0, l1, l2, l3] [en_R (en_fr σ 708 a), en_I a1] σ := en_jg (st := fun o => [en_R o, en_I a1]) (st' := fun a => [en_R (en_fr σ 708 a), en_I a1]) (σ' := fun _ => σ) d_X7_following_32 rfl (fun a => rfl) (fun a => ⟨fun h => h.2, fun h => ⟨rfl, h⟩⟩)
theorem d_X7_following_35 : decode cX7_following 35 = .ok (.aload_n 0, 1) := by decide +kernel
theorem j_X7_following_35 {G : en_G} {q : Option en_V → en_S → Prop}  {l1 l2 l3 : en_V} {a0 : Option Nat} {a1 : Int32} {x0 : Option Nat} {σ : en_S} : en_J (X_X7_following G q) 35 [en_R x0, l1, l2, l3] [en_R a0, en_I a1] σ ↔ en_J (X_X7_following G q) 36 [en_R x0, l1, l2, l3] [en_R x0, en_R a0, en_I a1] σ := en_j1 d_X7_following_35 rfl rfl
theorem d_X7_following_36 : decode cX7_following 36 = .ok (.getfield 20, 3) := by decide +kernel
theorem j_X7_following_36 {G : en_G} {q : Option en_V → en_S → Prop}  {l0 l1 l2 l3 : en_V} {a0 : Option Nat} {a1 : Option Nat} {a2 : Int32} {σ : en_S} : en_J (X_X7_following G q) 36 [l0, l1, l2, l3] [en_R a0, en_R a1, en_I a2] σ ↔ ∃ a, a0 = some a ∧ en_cl σ a = some 7 ∧ en_J (X_X7_following G q) 39 [l0, l1, l2, l3] [en_R (en_fr σ 704 a), en_R a1, en_I a2] σ := en_jg (st := fun o => [en_R o, en_R a1, en_I a2]) (st' := fun a => [en_R (en_fr σ 704 a), en_R a1, en_I a2]) (σ' := fun _ => σ) d_X7_following_36 rfl (fun a => rfl) (fun a => ⟨fun h => h.2, fun h => ⟨rfl, h⟩⟩)
theorem d_X7_following_39 : decode cX7_following 39 = .ok (.iload_n 3, 1) := by decide +kernel
theorem j_X7_following_39 {G : en_G} {q : Option en_V → en_S → Prop}  {l0 l1 l2 : en_V} {a0 : Option Nat} {a1 : Option Nat} {a2 : Int32} {x3 : Int32} {σ : en_S} : en_J (X_X7_following G q) 39 [l0, l1, l2, en_I x3] [en_R a0, en_R a1, en_I a2] σ ↔ en_J (X_X7_following G q) 40 [l0, l1, l2, en_I x3] [en_I x3, en_R a0, en_R a1, en_I a2] σ := en_j1 d_X7_following_39 rfl rfl
theorem d_X7_following_40 : decode cX7_following 40 = .ok (.iaload, 1) := by decide +kernel
theorem j_X7_following_40 {G : en_G} {q : Option en_V → en_S → Prop}  {l0 l1 l2 l3 : en_V} {a0 : Int32} {a1 : Option Nat} {a2 : Option Nat} {a3 : Int32} {σ : en_S} : en_J (X_X7_following G q) 40 [l0, l1, l2, l3] [en_I a0, en_R a1, en_R a2, en_I a3] σ ↔ ∃ a, a1 = some a ∧ (∃ k, en_al σ a = some (0, k) ∧ vp_in a0 k) ∧ en_J (X_X7_following G q) 41 [l0, l1, l2, l3] [en_I (en_ai σ a a0.toNatClampNeg), en_R a2, en_I a3] σ := ej_iaload d_X7_following_40 rfl
theorem d_X7_following_41 : decode cX7_following 41 = .ok (.iaload, 1) := by decide +kernel
theorem j_X7_following_41 {G : en_G} {q : Option en_V → en_S → Prop}  {l0 l1 l2 l3 : en_V} {a0 : Int32} {a1 : Option Nat} {a2 : Int32} {σ : en_S} : en_J (X_X7_following G q) 41 [l0, l1, l2, l3] [en_I a0, en_R a1, en_I a2] σ ↔ ∃ a, a1 = some a ∧ (∃ k, en_al σ a = some (0, k) ∧ vp_in a0 k) ∧ en_J (X_X7_following G q) 42 [l0, l1, l2, l3] [en_I (en_ai σ a a0.toNatClampNeg), en_I a2] σ := ej_iaload d_X7_following_41 rfl
theorem d_X7_following_42 : decode cX7_following 42 = .ok (.iconst 1, 1) := by decide +kernel
theorem j_X7_following_42 {G : en_G} {q : Option en_V → en_S → Prop}  {l0 l1 l2 l3 : en_V} {a0 : Int32} {a1 : Int32} {σ : en_S} : en_J (X_X7_following G q) 42 [l0, l1, l2, l3] [en_I a0, en_I a1] σ ↔ en_J (X_X7_following G q) 43 [l0, l1, l2, l3] [en_I 1, en_I a0, en_I a1] σ := ej_iconst d_X7_following_42 (by decide +kernel)
theorem d_X7_following_43 : decode cX7_following 43 = .ok (.isub, 1) := by decide +kernel
theorem j_X7_following_43 {G : en_G} {q : Option en_V → en_S → Prop}  {l0 l1 l2 l3 : en_V} {a0 : Int32} {a1 : Int32} {a2 : Int32} {σ : en_S} : en_J (X_X7_following G q) 43 [l0, l1, l2, l3] [en_I a0, en_I a1, en_I a2] σ ↔ en_J (X_X7_following G q) 44 [l0, l1, l2, l3] [en_I (a1 - a0), en_I a2] σ := en_j1 d_X7_following_43 rfl ⟨rfl, trivial⟩
theorem d_X7_following_44 : decode cX7_following 44 = .ok (.if_icmp .ne 13, 3) := by decide +kernel
theorem j_X7_following_44 {G : en_G} {q : Option en_V → en_S → Prop}  {l0 l1 l2 l3 : en_V} {a0 : Int32} {a1 : Int32} {σ : en_S} : en_J (X_X7_following G q) 44 [l0, l1, l2, l3] [en_I a0, en_I a1] σ ↔ (¬ a1 = a0 → en_J (X_X7_following G q) 57 [l0, l1, l2, l3] [] σ) ∧ (¬ (¬ a1 = a0) → en_J (X_X7_following G q) 47 [l0, l1, l2, l3] [] σ) := en_jb d_X7_following_44 rfl ⟨rfl, by decide⟩
theorem d_X7_following_47 : decode cX7_following 47 = .ok (.aload_n 0, 1) := by decide +kernel
theorem j_X7_following_47 {G : en_G} {q : Option en_V → en_S → Prop}  {l1 l2 l3 : en_V} {x0 : Option Nat} {σ : en_S} : en_J (X_X7_following G q) 47 [en_R x0, l1, l2, l3] [] σ ↔ en_J (X_X7_following G q) 48 [en_R x0, l1, l2, l3] [en_R x0] σ := en_j1 d_X7_following_47 rfl rfl
theorem d_X7_following_48 : decode cX7_following 48 = .ok (.getfield 20, 3) := by decide +kernel
theorem j_X7_following_48 {G : en_G} {q : Option en_V → en_S → Prop}  {l0 l1 l2 l3 : en_V} {a0 : Option Nat} {σ : en_S} : en_J (X_X7_following G q) 48 [l0, l1, l2, l3] [en_R a0] σ ↔ ∃ a, a0 = some a ∧ en_cl σ a = some 7 ∧ en_J (X_X7_following G q) 51 [l0, l1, l2, l3] [en_R (en_fr σ 704 a)] σ := en_jg (st := fun o => [en_R o]) (st' := fun a => [en_R (en_fr σ 704 a)]) (σ' := fun _ => σ) d_X7_following_48 rfl (fun a => rfl) (fun a => ⟨fun h => h.2, fun h => ⟨rfl, h⟩⟩)
theorem d_X7_following_51 : decode cX7_following 51 = .ok (.iload_n 3, 1) := by decide +kernel
theorem j_X7_following_51 {G : en_G} {q : Option en_V → en_S → Prop}  {l0 l1 l2 : en_V} {a0 : Option Nat} {x3 : Int32} {σ : en_S} : en_J (X_X7_following G q) 51 [l0, l1, l2, en_I x3] [en_R a0] σ ↔ en_J (X_X7_following G q) 52 [l0, l1, l2, en_I x3] [en_I x3, en_R a0] σ := en_j1 d_X7_following_51 rfl rfl
theorem d_X7_following_52 : decode cX7_following 52 = .ok (.iaload, 1) := by decide +kernel
theorem j_X7_following_52 {G : en_G} {q : Option en_V → en_S → Prop}  {l0 l1 l2 l3 : en_V} {a0 : Int32} {a1 : Option Nat} {σ : en_S} : en_J (X_X7_following G q) 52 [l0, l1, l2, l3] [en_I a0, en_R a1] σ ↔ ∃ a, a1 = some a ∧ (∃ k, en_al σ a = some (0, k) ∧ vp_in a0 k) ∧ en_J (X_X7_following G q) 53 [l0, l1, l2, l3] [en_I (en_ai σ a a0.toNatClampNeg)] σ := ej_iaload d_X7_following_52 rfl
theorem d_X7_following_53 : decode cX7_following 53 = .ok (.istore_n 3, 1) := by decide +kernel
theorem j_X7_following_53 {G : en_G} {q : Option en_V → en_S → Prop}  {l0 l1 l2 l3 : en_V} {a0 : Int32} {σ : en_S} : en_J (X_X7_following G q) 53 [l0, l1, l2, l3] [en_I a0] σ ↔ en_J (X_X7_following G q) 54 [l0, l1, en_c2 l2, en_I a0] [] σ := en_j1 d_X7_following_53 rfl ⟨rfl, Nat.le_of_ble_eq_true rfl⟩
theorem d_X7_following_54 : decode cX7_following 54 = .ok (.goto (-33), 3) := by decide +kernel
theorem j_X7_following_54 {G : en_G} {q : Option en_V → en_S → Prop}  {l0 l1 l2 l3 : en_V}  {σ : en_S} : en_J (X_X7_following G q) 54 [l0, l1, l2, l3] [] σ ↔ en_J (X_X7_following G q) 21 [l0, l1, l2, l3] [] σ := en_j1 d_X7_following_54 rfl ⟨rfl, by decide⟩
theorem d_X7_following_57 : decode cX7_following 57 = .ok (.iload_n 3, 1) := by decide +kernel
theorem j_X7_following_57 {G : en_G} {q : Option en_V → en_S → Prop}  {l0 l1 l2 : en_V} {x3 : Int32} {σ : en_S} : en_J (X_X7_following G q) 57 [l0, l1, l2, en_I x3] [] σ ↔ en_J (X_X7_following G q) 58 [l0, l1, l2, en_I x3] [en_I x3] σ := en_j1 d_X7_following_57 rfl rfl
theorem d_X7_following_58 : decode cX7_following 58 = .ok (.iload_n 2, 1) := by decide +kernel
theorem j_X7_following_58 {G : en_G} {q : Option en_V → en_S → Prop}  {l0 l1 l3 : en_V} {a0 : Int32} {x2 : Int32} {σ : en_S} : en_J (X_X7_following G q) 58 [l0, l1, en_I x2, l3] [en_I a0] σ ↔ en_J (X_X7_following G q) 59 [l0, l1, en_I x2, l3] [en_I x2, en_I a0] σ := en_j1 d_X7_following_58 rfl rfl
theorem d_X7_following_59 : decode cX7_following 59 = .ok (.if_icmp .ne 7, 3) := by decide +kernel
theorem j_X7_following_59 {G : en_G} {q : Option en_V → en_S → Prop}  {l0 l1 l2 l3 : en_V} {a0 : Int32} {a1 : Int32} {σ : en_S} : en_J (X_X7_following G q) 59 [l0, l1, l2, l3] [en_I a0, en_I a1] σ ↔ (¬ a1 = a0 → en_J (X_X7_following G q) 66 [l0, l1, l2, l3] [] σ) ∧ (¬ (¬ a1 = a0) → en_J (X_X7_following G q) 62 [l0, l1, l2, l3] [] σ) := en_jb d_X7_following_59 rfl ⟨rfl, by decide⟩
theorem d_X7_following_62 : decode cX7_following 62 = .ok (.iconst (-1), 1) := by decide +kernel
theorem j_X7_following_62 {G : en_G} {q : Option en_V → en_S → Prop}  {l0 l1 l2 l3 : en_V}  {σ : en_S} : en_J (X_X7_following G q) 62 [l0, l1, l2, l3] [] σ ↔ en_J (X_X7_following G q) 63 [l0, l1, l2, l3] [en_I (-1)] σ := ej_iconst d_X7_following_62 (by decide +kernel)
theorem d_X7_following_63 : decode cX7_following 63 = .ok (.goto 25, 3) := by decide +kernel
theorem j_X7_following_63 {G : en_G} {q : Option en_V → en_S → Prop}  {l0 l1 l2 l3 : en_V} {a0 : Int32} {σ : en_S} : en_J (X_X7_following G q) 63 [l0, l1, l2, l3] [en_I a0] σ ↔ en_J (X_X7_following G q) 88 [l0, l1, l2, l3] [en_I a0] σ := en_j1 d_X7_following_63 rfl ⟨rfl, by decide⟩
theorem d_X7_following_66 : decode cX7_following 66 = .ok (.aload_n 0, 1) := by decide +kernel
theorem j_X7_following_66 {G : en_G} {q : Option en_V → en_S → Prop}  {l1 l2 l3 : en_V} {x0 : Option Nat} {σ : en_S} : en_J (X_X7_following G q) 66 [en_R x0, l1, l2, l3] [] σ ↔ en_J (X_X7_following G q) 67 [en_R x0, l1, l2, l3] [en_R x0] σ := en_j1 d_X7_following_66 rfl rfl
theorem d_X7_following_67 : decode cX7_following 67 = .ok (.getfield 36, 3) := by decide +kernel
theorem j_X7_following_67 {G : en_G} {q : Option en_V → en_S → Prop}  {l0 l1 l2 l3 : en_V} {a0 : Option Nat} {σ : en_S} : en_J (X_X7_following G q) 67 [l0, l1, l2, l3] [en_R a0] σ ↔ ∃ a, a0 = some a ∧ en_cl σ a = some 7 ∧ en_J (X_X7_following G q) 70 [l0, l1, l2, l3] [en_R (en_fr σ 709 a)] σ := en_jg (st := fun o => [en_R o]) (st' := fun a => [en_R (en_fr σ 709 a)]) (σ' := fun _ => σ) d_X7_following_67 rfl (fun a => rfl) (fun a => ⟨fun h => h.2, fun h => ⟨rfl, h⟩⟩)
theorem d_X7_following_70 : decode cX7_following 70 = .ok (.bipush 24, 2) := by decide +kernel
theorem j_X7_following_70 {G : en_G} {q : Option en_V → en_S → Prop}  {l0 l1 l2 l3 : en_V} {a0 : Option Nat} {σ : en_S} : en_J (X_X7_following G q) 70 [l0, l1, l2, l3] [en_R a0] σ ↔ en_J (X_X7_following G q) 72 [l0, l1, l2, l3] [en_I 24, en_R a0] σ := ej_bipush d_X7_following_70 (by decide +kernel)
theorem d_X7_following_72 : decode cX7_following 72 = .ok (.aload_n 0, 1) := by decide +kernel
theorem j_X7_following_72 {G : en_G} {q : Option en_V → en_S → Prop}  {l1 l2 l3 : en_V} {a0 : Int32} {a1 : Option Nat} {x0 : Option Nat} {σ : en_S} : en_J (X_X7_following G q) 72 [en_R x0, l1, l2, l3] [en_I a0, en_R a1] σ ↔ en_J (X_X7_following G q) 73 [en_R x0, l1, l2, l3] [en_R x0, en_I a0, en_R a1] σ := en_j1 d_X7_following_72 rfl rfl
theorem d_X7_following_73 : decode cX7_following 73 = .ok (.getfield 20, 3) := by decide +kernel
theorem j_X7_following_73 {G : en_G} {q : Option en_V → en_S → Prop}  {l0 l1 l2 l3 : en_V} {a0 : Option Nat} {a1 : Int32} {a2 : Option Nat} {σ : en_S} : en_J (X_X7_following G q) 73 [l0, l1, l2, l3] [en_R a0, en_I a1, en_R a2] σ ↔ ∃ a, a0 = some a ∧ en_cl σ a = some 7 ∧ en_J (X_X7_following G q) 76 [l0, l1, l2, l3] [en_R (en_fr σ 704 a), en_I a1, en_R a2] σ := en_jg (st := fun o => [en_R o, en_I a1, en_R a2]) (st' := fun a => [en_R (en_fr σ 704 a), en_I a1, en_R a2]) (σ' := fun _ => σ) d_X7_following_73 rfl (fun a => rfl) (fun a => ⟨fun h => h.2, fun h => ⟨rfl, h⟩⟩)
theorem d_X7_following_76 : decode cX7_following 76 = .ok (.iload_n 3, 1) := by decide +kernel
theorem j_X7_following_76 {G : en_G} {q : Option en_V → en_S → Prop}  {l0 l1 l2 : en_V} {a0 : Option Nat} {a1 : Int32} {a2 : Option Nat} {x3 : Int32} {σ : en_S} : en_J (X_X7_following G q) 76 [l0, l1, l2, en_I x3] [en_R a0, en_I a1, en_R a2] σ ↔ en_J (X_X7_following G q) 77 [l0, l1, l2, en_I x3] [en_I x3, en_R a0, en_I a1, en_R a2] σ := en_j1 d_X7_following_76 rfl rfl
theorem d_X7_following_77 : decode cX7_following 77 = .ok (.iaload, 1) := by decide +kernel
theorem j_X7_following_77 {G : en_G} {q : Option en_V → en_S → Prop}  {l0 l1 l2 l3 : en_V} {a0 : Int32} {a1 : Option Nat} {a2 : Int32} {a3 : Option Nat} {σ : en_S} : en_J (X_X7_following G q) 77 [l0, l1, l2, l3] [en_I a0, en_R a1, en_I a2, en_R a3] σ ↔ ∃ a, a1 = some a ∧ (∃ k, en_al σ a = some (0, k) ∧ vp_in a0 k) ∧ en_J (X_X7_following G q) 78 [l0, l1, l2, l3] [en_I (en_ai σ a a0.toNatClampNeg), en_I a2, en_R a3] σ := ej_iaload d_X7_following_77 rfl
theorem d_X7_following_78 : decode cX7_following 78 = .ok (.imul, 1) := by decide +kernel
theorem j_X7_following_78 {G : en_G} {q : Option en_V → en_S → Prop}  {l0 l1 l2 l3 : en_V} {a0 : Int32} {a1 : Int32} {a2 : Option Nat} {σ : en_S} : en_J (X_X7_following G q) 78 [l0, l1, l2, l3] [en_I a0, en_I a1, en_R a2] σ ↔ en_J (X_X7_following G q) 79 [l0, l1, l2, l3] [en_I (a1 * a0), en_R a2] σ := en_j1 d_X7_following_78 rfl ⟨rfl, trivial⟩
theorem d_X7_following_79 : decode cX7_following 79 = .ok (.aload_n 0, 1) := by decide +kernel
theorem j_X7_following_79 {G : en_G} {q : Option en_V → en_S → Prop}  {l1 l2 l3 : en_V} {a0 : Int32} {a1 : Option Nat} {x0 : Option Nat} {σ : en_S} : en_J (X_X7_following G q) 79 [en_R x0, l1, l2, l3] [en_I a0, en_R a1] σ ↔ en_J (X_X7_following G q) 80 [en_R x0, l1, l2, l3] [en_R x0, en_I a0, en_R a1] σ := en_j1 d_X7_following_79 rfl rfl
theorem d_X7_following_80 : decode cX7_following 80 = .ok (.iload_n 3, 1) := by decide +kernel
theorem j_X7_following_80 {G : en_G} {q : Option en_V → en_S → Prop}  {l0 l1 l2 : en_V} {a0 : Option Nat} {a1 : Int32} {a2 : Option Nat} {x3 : Int32} {σ : en_S} : en_J (X_X7_following G q) 80 [l0, l1, l2, en_I x3] [en_R a0, en_I a1, en_R a2] σ ↔ en_J (X_X7_following G q) 81 [l0, l1, l2, en_I x3] [en_I x3, en_R a0, en_I a1, en_R a2] σ := en_j1 d_X7_following_80 rfl rfl
theorem d_X7_following_81 : decode cX7_following 81 = .ok (.invokevirtual 164, 3) := by decide +kernel
theorem j_X7_following_81 {G : en_G} {q : Option en_V → en_S → Prop}  {l0 l1 l2 l3 : en_V} {a0 : Int32} {a1 : Option Nat} {a2 : Int32} {a3 : Option Nat} {σ : en_S} : en_J (X_X7_following G q) 81 [l0, l1, l2, l3] [en_I a0, en_R a1, en_I a2, en_R a3] σ ↔ (C_X7_placeOf G).1 [en_R a1, en_I a0] σ ∧ ∀ (r : Option en_V) (σ' : en_S), (C_X7_placeOf G).2 [en_R a1, en_I a0] σ r σ' → en_J (X_X7_following G q) 84 [l0, l1, l2, l3] (r.toList ++ [en_I a2, en_R a3]) σ' := en_jkC (C := (C_X7_placeOf G)) (n' := 2) (k := 1) (idx := 164) d_X7_following_81 rfl rfl (by decide) (Nat.le_of_ble_eq_true rfl) (Nat.le_of_ble_eq_true rfl)
theorem d_X7_following_84 : decode cX7_following 84 = .ok (.iadd, 1) := by decide +kernel
theorem j_X7_following_84 {G : en_G} {q : Option en_V → en_S → Prop}  {l0 l1 l2 l3 : en_V} {a0 : Int32} {a1 : Int32} {a2 : Option Nat} {σ : en_S} : en_J (X_X7_following G q) 84 [l0, l1, l2, l3] [en_I a0, en_I a1, en_R a2] σ ↔ en_J (X_X7_following G q) 85 [l0, l1, l2, l3] [en_I (a1 + a0), en_R a2] σ := en_j1 d_X7_following_84 rfl ⟨rfl, trivial⟩
theorem d_X7_following_85 : decode cX7_following 85 = .ok (.iconst 1, 1) := by decide +kernel
theorem j_X7_following_85 {G : en_G} {q : Option en_V → en_S → Prop}  {l0 l1 l2 l3 : en_V} {a0 : Int32} {a1 : Option Nat} {σ : en_S} : en_J (X_X7_following G q) 85 [l0, l1, l2, l3] [en_I a0, en_R a1] σ ↔ en_J (X_X7_following G q) 86 [l0, l1, l2, l3] [en_I 1, en_I a0, en_R a1] σ := ej_iconst d_X7_following_85 (by decide +kernel)
theorem d_X7_following_86 : decode cX7_following 86 = .ok (.iadd, 1) := by decide +kernel
theorem j_X7_following_86 {G : en_G} {q : Option en_V → en_S → Prop}  {l0 l1 l2 l3 : en_V} {a0 : Int32} {a1 : Int32} {a2 : Option Nat} {σ : en_S} : en_J (X_X7_following G q) 86 [l0, l1, l2, l3] [en_I a0, en_I a1, en_R a2] σ ↔ en_J (X_X7_following G q) 87 [l0, l1, l2, l3] [en_I (a1 + a0), en_R a2] σ := en_j1 d_X7_following_86 rfl ⟨rfl, trivial⟩
theorem d_X7_following_87 : decode cX7_following 87 = .ok (.iaload, 1) := by decide +kernel
theorem j_X7_following_87 {G : en_G} {q : Option en_V → en_S → Prop}  {l0 l1 l2 l3 : en_V} {a0 : Int32} {a1 : Option Nat} {σ : en_S} : en_J (X_X7_following G q) 87 [l0, l1, l2, l3] [en_I a0, en_R a1] σ ↔ ∃ a, a1 = some a ∧ (∃ k, en_al σ a = some (0, k) ∧ vp_in a0 k) ∧ en_J (X_X7_following G q) 88 [l0, l1, l2, l3] [en_I (en_ai σ a a0.toNatClampNeg)] σ := ej_iaload d_X7_following_87 rfl
theorem d_X7_following_88 : decode cX7_following 88 = .ok (.ireturn, 1) := by decide +kernel
theorem j_X7_following_88 {G : en_G} {q : Option en_V → en_S → Prop}  {l0 l1 l2 l3 : en_V} {a0 : Int32} {σ : en_S} : en_J (X_X7_following G q) 88 [l0, l1, l2, l3] [en_I a0] σ ↔ q (some (en_I a0)) σ := en_jr d_X7_following_88 rfl ⟨fun h => h.2.2, fun h => ⟨rfl, Or.inl rfl, h⟩⟩
theorem wc_X7_following : Jvm.Cond.code yX7_following cX7_following 4 (some .int) ∈ en_W := en_inW (List.mem_of_getElem? (i := 962) (by decide +kernel)) (by decide +kernel)
theorem wi_X7_following : Jvm.Cond.instanceMethod yX7_following ∈ en_W := en_inW (List.mem_of_getElem? (i := 961) (by decide +kernel)) (by decide +kernel)
theorem wx_X7_following : Jvm.Cond.selects RX7 yX7_following yX7_following ∈ en_W := en_inW (List.mem_of_getElem? (i := 28) (by decide +kernel)) (by decide +kernel)
theorem jw_X7_following {G : en_G} {q : Option en_V → en_S → Prop} {m : Nat} {A : st_A} {σ : en_S} (hR : RX m A σ) {top : Nat} {n0 : Int32} (ht : tr_pa (sa_T A) top = none) : ∀ (k x : Nat), x < tr_N (sa_T A) → tr_it (sa_T A) k x = none → tr_root (sa_T A) x = top → q (some (en_I (st_num (tr_climb (sa_T A) k x)))) σ → en_J (X_X7_following G q) 21 [en_R (some m), en_I n0, en_I (nI top), en_I (nI x)] [] σ := by
  have hw := hR.2.2.2.2.2.2.2.2.2.1
  have hN := hw.1.2
  have hS := hR.1
  intro k
  induction k with
  | zero => intro x _ h; cases h
  | succ k ih =>
    intro x hx hit hr hq
    have n3 : vp_in (nI x) 24 := vp_in_nI (by omega) (by decide)
    have n4 : (nI x).toNatClampNeg = x := nI_clamp (by omega)
    simp only [tr_climb, tr_nx] at hq
    rw [j_X7_following_21]
    cases hp : tr_pa (sa_T A) x with
    | none =>
      rw [hp] at hq
      have e : top = x := by rw [← hr, od_root_0 hp]
      subst e
      simp only [j_X7_following_0, j_X7_following_1, j_X7_following_4, j_X7_following_5, j_X7_following_6, j_X7_following_9, j_X7_following_10, j_X7_following_13, j_X7_following_15, j_X7_following_16, j_X7_following_17, j_X7_following_18, j_X7_following_19, j_X7_following_20, j_X7_following_22, j_X7_following_23, j_X7_following_26, j_X7_following_27, j_X7_following_28, j_X7_following_31, j_X7_following_32, j_X7_following_35, j_X7_following_36, j_X7_following_39, j_X7_following_40, j_X7_following_41, j_X7_following_42, j_X7_following_43, j_X7_following_44, j_X7_following_47, j_X7_following_48, j_X7_following_51, j_X7_following_52, j_X7_following_53, j_X7_following_54, j_X7_following_57, j_X7_following_58, j_X7_following_59, j_X7_following_62, j_X7_following_63, j_X7_following_66, j_X7_following_67, j_X7_following_70, j_X7_following_72, j_X7_following_73, j_X7_following_76, j_X7_following_77, j_X7_following_78, j_X7_following_79, j_X7_following_80, j_X7_following_81, j_X7_following_84, j_X7_following_85, j_X7_following_86, j_X7_following_87, j_X7_following_88, en_c2I, en_c2R, en_c2U, en_c2D, Option.some.injEq, exists_eq_left', exists_eq_left, Option.map_some, Option.map_none, not_true_eq_false, false_implies, true_implies, and_true, true_and, reduceCtorEq, not_false_eq_true]
      exact hq
    | some p =>
      rw [hp] at hq
      simp only at hq
      have hpl := tr_pa_lt hw hx hp
      have hne : ¬ nI x = nI top := fun z => by
        have htl : top < tr_N (sa_T A) := by rw [← hr]; exact od_root_lt hw 24 x hx
        have := nI_inj (by omega) (by omega) z
        rw [this, ht] at hp; cases hp
      have r3 := (hR.2.1 x hx).2.2.1
      rw [hp] at r3
      obtain ⟨p1, p2, p3, p4, p5, p6, p7⟩ := hR.2.1 p hpl
      have m3 : vp_in (nI p) 24 := vp_in_nI (by omega) (by decide)
      have m4 : (nI p).toNatClampNeg = p := nI_clamp (by omega)
      have hlen := tr_len hw hpl
      have hl1 : 1 ≤ (tr_ch (sa_T A) p).length := List.length_pos_of_mem (hw.2.1 x p hx hp).2.1
      have e1 : nI (tr_ch (sa_T A) p).length - 1 = nI ((tr_ch (sa_T A) p).length - 1) := by
        rw [show (1 : Int32) = nI 1 from by decide +kernel]; exact pk_sub hl1
      simp only [j_X7_following_0, j_X7_following_1, j_X7_following_4, j_X7_following_5, j_X7_following_6, j_X7_following_9, j_X7_following_10, j_X7_following_13, j_X7_following_15, j_X7_following_16, j_X7_following_17, j_X7_following_18, j_X7_following_19, j_X7_following_20, j_X7_following_22, j_X7_following_23, j_X7_following_26, j_X7_following_27, j_X7_following_28, j_X7_following_31, j_X7_following_32, j_X7_following_35, j_X7_following_36, j_X7_following_39, j_X7_following_40, j_X7_following_41, j_X7_following_42, j_X7_following_43, j_X7_following_44, j_X7_following_47, j_X7_following_48, j_X7_following_51, j_X7_following_52, j_X7_following_53, j_X7_following_54, j_X7_following_57, j_X7_following_58, j_X7_following_59, j_X7_following_62, j_X7_following_63, j_X7_following_66, j_X7_following_67, j_X7_following_70, j_X7_following_72, j_X7_following_73, j_X7_following_76, j_X7_following_77, j_X7_following_78, j_X7_following_79, j_X7_following_80, j_X7_following_81, j_X7_following_84, j_X7_following_85, j_X7_following_86, j_X7_following_87, j_X7_following_88, en_c2I, en_c2R, en_c2U, en_c2D, Option.some.injEq, exists_eq_left', exists_eq_left, Option.map_some, Option.map_none, not_true_eq_false, false_implies, true_implies, and_true, true_and, reduceCtorEq, not_false_eq_true, eq_false hne]
      refine en_use (cu_X7_placeOf (rx_place hR hx hp)) ?_
      rintro v σ1 ⟨rfl, pre, suf, hl, hnp, rfl⟩
      have hs1 : od_suf (tr_ch (sa_T A) p) x = suf := by rw [hl]; exact od_suf_at hnp
      rw [od_after, hs1] at hq
      have hll : (tr_ch (sa_T A) p).length = pre.length + suf.length + 1 := by rw [hl]; simp; omega
      cases hsf : suf with
      | nil =>
        rw [hsf] at hq hll
        have e2 : nI pre.length = nI ((tr_ch (sa_T A) p).length - 1) := by rw [hll]; rfl
        simp only [Option.toList, List.cons_append, List.nil_append, j_X7_following_0, j_X7_following_1, j_X7_following_4, j_X7_following_5, j_X7_following_6, j_X7_following_9, j_X7_following_10, j_X7_following_13, j_X7_following_15, j_X7_following_16, j_X7_following_17, j_X7_following_18, j_X7_following_19, j_X7_following_20, j_X7_following_22, j_X7_following_23, j_X7_following_26, j_X7_following_27, j_X7_following_28, j_X7_following_31, j_X7_following_32, j_X7_following_35, j_X7_following_36, j_X7_following_39, j_X7_following_40, j_X7_following_41, j_X7_following_42, j_X7_following_43, j_X7_following_44, j_X7_following_47, j_X7_following_48, j_X7_following_51, j_X7_following_52, j_X7_following_53, j_X7_following_54, j_X7_following_57, j_X7_following_58, j_X7_following_59, j_X7_following_62, j_X7_following_63, j_X7_following_66, j_X7_following_67, j_X7_following_70, j_X7_following_72, j_X7_following_73, j_X7_following_76, j_X7_following_77, j_X7_following_78, j_X7_following_79, j_X7_following_80, j_X7_following_81, j_X7_following_84, j_X7_following_85, j_X7_following_86, j_X7_following_87, j_X7_following_88, en_c2I, en_c2R, en_c2U, en_c2D, Option.some.injEq, exists_eq_left', exists_eq_left, Option.map_some, Option.map_none, not_true_eq_false, false_implies, true_implies, and_true, true_and, reduceCtorEq, not_false_eq_true, rs_c hS, rs_f708 hS, rs_a7 hS, rs_f709 hS, rs_a8 hS, rs_f704 hS, rs_a3 hS, Prod.mk.injEq, n3, n4, r3, st_num_some, m3, m4, p6, e1, e2]
        exact ih p hpl (tr_it_pa hit hp) (by rw [← od_root_up hw hx hp]; exact hr) hq
      | cons c r =>
        rw [hsf] at hq hll
        rw [List.length_cons] at hll
        have e2 : ¬ nI pre.length = nI ((tr_ch (sa_T A) p).length - 1) := fun z => by
          have := nI_inj (by omega) (by omega) z
          omega
        have e24 : (24 : Int32) * nI p = nI (24 * p) := by rw [show (24 : Int32) = nI 24 from by decide +kernel, pk_mul]
        simp only [Option.toList, List.cons_append, List.nil_append, j_X7_following_0, j_X7_following_1, j_X7_following_4, j_X7_following_5, j_X7_following_6, j_X7_following_9, j_X7_following_10, j_X7_following_13, j_X7_following_15, j_X7_following_16, j_X7_following_17, j_X7_following_18, j_X7_following_19, j_X7_following_20, j_X7_following_22, j_X7_following_23, j_X7_following_26, j_X7_following_27, j_X7_following_28, j_X7_following_31, j_X7_following_32, j_X7_following_35, j_X7_following_36, j_X7_following_39, j_X7_following_40, j_X7_following_41, j_X7_following_42, j_X7_following_43, j_X7_following_44, j_X7_following_47, j_X7_following_48, j_X7_following_51, j_X7_following_52, j_X7_following_53, j_X7_following_54, j_X7_following_57, j_X7_following_58, j_X7_following_59, j_X7_following_62, j_X7_following_63, j_X7_following_66, j_X7_following_67, j_X7_following_70, j_X7_following_72, j_X7_following_73, j_X7_following_76, j_X7_following_77, j_X7_following_78, j_X7_following_79, j_X7_following_80, j_X7_following_81, j_X7_following_84, j_X7_following_85, j_X7_following_86, j_X7_following_87, j_X7_following_88, en_c2I, en_c2R, en_c2U, en_c2D, Option.some.injEq, exists_eq_left', exists_eq_left, Option.map_some, Option.map_none, not_true_eq_false, false_implies, true_implies, and_true, true_and, reduceCtorEq, not_false_eq_true, rs_c hS, rs_f708 hS, rs_a7 hS, rs_f709 hS, rs_a8 hS, rs_f704 hS, rs_a3 hS, Prod.mk.injEq, n3, n4, r3, st_num_some, m3, m4, p6, e1, eq_false e2, eq_false hne, e24]
        refine en_use (cu_X7_placeOf (rx_place hR hx hp)) ?_
        rintro v σ1 ⟨rfl, pre', suf', hl', hnp', rfl⟩
        have hs2 : od_suf (tr_ch (sa_T A) p) x = suf' := by rw [hl']; exact od_suf_at hnp'
        rw [hs1, hsf] at hs2
        subst hs2
        have hll' : (tr_ch (sa_T A) p).length = pre'.length + r.length + 2 := by rw [hl']; simp; omega
        have hge : (tr_ch (sa_T A) p)[pre'.length + 1]? = some c := by rw [hl', List.getElem?_append_right (by omega), show pre'.length + 1 - pre'.length = 0 + 1 by omega, List.getElem?_cons_succ]; rfl
        have r8 := p7 _ _ hge
        rw [show 24 * p + (pre'.length + 1) = 24 * p + pre'.length + 1 by omega] at r8
        have e3 : nI (24 * p) + nI pre'.length = nI (24 * p + pre'.length) := nI_add _ _
        have e4 : nI (24 * p + pre'.length) + 1 = nI (24 * p + pre'.length + 1) := nI_1 _
        have a3 : vp_in (nI (24 * p + pre'.length + 1)) 576 := vp_in_nI (by omega) (by decide)
        have a4 : (nI (24 * p + pre'.length + 1)).toNatClampNeg = 24 * p + pre'.length + 1 := nI_clamp (by omega)
        simp only [Option.toList, List.cons_append, List.nil_append, j_X7_following_0, j_X7_following_1, j_X7_following_4, j_X7_following_5, j_X7_following_6, j_X7_following_9, j_X7_following_10, j_X7_following_13, j_X7_following_15, j_X7_following_16, j_X7_following_17, j_X7_following_18, j_X7_following_19, j_X7_following_20, j_X7_following_22, j_X7_following_23, j_X7_following_26, j_X7_following_27, j_X7_following_28, j_X7_following_31, j_X7_following_32, j_X7_following_35, j_X7_following_36, j_X7_following_39, j_X7_following_40, j_X7_following_41, j_X7_following_42, j_X7_following_43, j_X7_following_44, j_X7_following_47, j_X7_following_48, j_X7_following_51, j_X7_following_52, j_X7_following_53, j_X7_following_54, j_X7_following_57, j_X7_following_58, j_X7_following_59, j_X7_following_62, j_X7_following_63, j_X7_following_66, j_X7_following_67, j_X7_following_70, j_X7_following_72, j_X7_following_73, j_X7_following_76, j_X7_following_77, j_X7_following_78, j_X7_following_79, j_X7_following_80, j_X7_following_81, j_X7_following_84, j_X7_following_85, j_X7_following_86, j_X7_following_87, j_X7_following_88, en_c2I, en_c2R, en_c2U, en_c2D, Option.some.injEq, exists_eq_left', exists_eq_left, Option.map_some, Option.map_none, not_true_eq_false, false_implies, true_implies, and_true, true_and, reduceCtorEq, not_false_eq_true, rs_c hS, rs_f708 hS, rs_a7 hS, rs_f709 hS, rs_a8 hS, rs_f704 hS, rs_a3 hS, Prod.mk.injEq, e3, e4, a3, a4, r8]
        exact hq
theorem jl_X7_following {G : en_G}  {m : Nat} {A : st_A} {n : Nat} {top : Nat} {q : Option en_V → en_S → Prop} {σ : en_S} (hp : RX m A σ ∧ n < tr_N (sa_T A) ∧ tr_root (sa_T A) n = top ∧ tr_pa (sa_T A) top = none) (hq : ∀ v σ', (σ' = σ ∧ v = some (en_I (st_num (tr_nto (sa_T A) n)))) → q v σ') : en_J (X_X7_following G q) 0 [en_R (some m), en_I (nI n), en_I (nI top), en_U] [] σ := by
  obtain ⟨hR, hn, hr, ht⟩ := hp
  have hS := hR.1
  have hw := hR.2.2.2.2.2.2.2.2.2.1
  have hN := hw.1.2
  have n3 : vp_in (nI n) 24 := vp_in_nI (by omega) (by decide)
  have n4 : (nI n).toNatClampNeg = n := nI_clamp (by omega)
  obtain ⟨r1, r2, r3, r4, r5, r6, r7⟩ := hR.2.1 n hn
  have hlen := tr_len hw hn
  cases hc : tr_ch (sa_T A) n with
  | nil =>
    have e : tr_nto (sa_T A) n = tr_climb (sa_T A) 24 n := by unfold tr_nto; rw [hc]; rfl
    rw [e] at hq
    have := jw_X7_following (G := G) (q := q) (n0 := nI n) hR ht 24 n hn (hw.2.2.2.2.2.2.2.2 n hn) hr (hq _ _ ⟨rfl, rfl⟩)
    rw [hc] at r6
    have z : nI ([] : List Nat).length ≤ 0 := by decide +kernel
    simp only [j_X7_following_0, j_X7_following_1, j_X7_following_4, j_X7_following_5, j_X7_following_6, j_X7_following_9, j_X7_following_10, j_X7_following_13, j_X7_following_15, j_X7_following_16, j_X7_following_17, j_X7_following_18, j_X7_following_19, j_X7_following_20, j_X7_following_22, j_X7_following_23, j_X7_following_26, j_X7_following_27, j_X7_following_28, j_X7_following_31, j_X7_following_32, j_X7_following_35, j_X7_following_36, j_X7_following_39, j_X7_following_40, j_X7_following_41, j_X7_following_42, j_X7_following_43, j_X7_following_44, j_X7_following_47, j_X7_following_48, j_X7_following_51, j_X7_following_52, j_X7_following_53, j_X7_following_54, j_X7_following_57, j_X7_following_58, j_X7_following_59, j_X7_following_62, j_X7_following_63, j_X7_following_66, j_X7_following_67, j_X7_following_70, j_X7_following_72, j_X7_following_73, j_X7_following_76, j_X7_following_77, j_X7_following_78, j_X7_following_79, j_X7_following_80, j_X7_following_81, j_X7_following_84, j_X7_following_85, j_X7_following_86, j_X7_following_87, j_X7_following_88, en_c2I, en_c2R, en_c2U, en_c2D, Option.some.injEq, exists_eq_left', exists_eq_left, Option.map_some, Option.map_none, not_true_eq_false, false_implies, true_implies, and_true, true_and, reduceCtorEq, not_false_eq_true, rs_c hS, rs_f708 hS, rs_a7 hS, rs_f709 hS, rs_a8 hS, rs_f704 hS, rs_a3 hS, Prod.mk.injEq, n3, n4, r6, z]
    exact this
  | cons c l =>
    have e : tr_nto (sa_T A) n = some c := by unfold tr_nto; rw [hc]; rfl
    rw [e] at hq
    rw [hc] at r6 r7 hlen
    have z : ¬ nI (c :: l).length ≤ 0 := by
      rw [List.length_cons] at hlen ⊢
      rw [show (0 : Int32) = nI 0 from by decide +kernel]
      exact nI_ge (by omega) (by omega)
    have e24 : (24 : Int32) * nI n = nI (24 * n) := by rw [show (24 : Int32) = nI 24 from by decide +kernel, pk_mul]
    have a3 : vp_in (nI (24 * n)) 576 := vp_in_nI (by omega) (by decide)
    have a4 : (nI (24 * n)).toNatClampNeg = 24 * n := nI_clamp (by omega)
    have r8 : en_ai σ (m + 8) (24 * n) = nI c := r7 0 c rfl
    simp only [j_X7_following_0, j_X7_following_1, j_X7_following_4, j_X7_following_5, j_X7_following_6, j_X7_following_9, j_X7_following_10, j_X7_following_13, j_X7_following_15, j_X7_following_16, j_X7_following_17, j_X7_following_18, j_X7_following_19, j_X7_following_20, j_X7_following_22, j_X7_following_23, j_X7_following_26, j_X7_following_27, j_X7_following_28, j_X7_following_31, j_X7_following_32, j_X7_following_35, j_X7_following_36, j_X7_following_39, j_X7_following_40, j_X7_following_41, j_X7_following_42, j_X7_following_43, j_X7_following_44, j_X7_following_47, j_X7_following_48, j_X7_following_51, j_X7_following_52, j_X7_following_53, j_X7_following_54, j_X7_following_57, j_X7_following_58, j_X7_following_59, j_X7_following_62, j_X7_following_63, j_X7_following_66, j_X7_following_67, j_X7_following_70, j_X7_following_72, j_X7_following_73, j_X7_following_76, j_X7_following_77, j_X7_following_78, j_X7_following_79, j_X7_following_80, j_X7_following_81, j_X7_following_84, j_X7_following_85, j_X7_following_86, j_X7_following_87, j_X7_following_88, en_c2I, en_c2R, en_c2U, en_c2D, Option.some.injEq, exists_eq_left', exists_eq_left, Option.map_some, Option.map_none, not_true_eq_false, false_implies, true_implies, and_true, true_and, reduceCtorEq, not_false_eq_true, rs_c hS, rs_f708 hS, rs_a7 hS, rs_f709 hS, rs_a8 hS, rs_f704 hS, rs_a3 hS, Prod.mk.injEq, n3, n4, r6, z, e24, a3, a4, r8]
    exact hq _ _ ⟨rfl, rfl⟩
theorem jp_X7_following {G : en_G}  : ∀ as σ, (C_X7_following G).1 as σ → (en_lc as).length ≤ 4 ∧ en_J (X_X7_following G (fun r σ' => (C_X7_following G).2 as σ r σ')) 0 (en_loc 4 as) [] σ := en_ghJ (fun g as σ h => by
  obtain ⟨hp, h2⟩ := h
  subst h2
  exact ⟨Nat.le_of_ble_eq_true rfl, jl_X7_following hp (fun _ _ h => h)⟩)
theorem wl_X7_following_164 : Jvm.Cond.methodLink RX7 164 yX7_placeOf ∈ en_W := en_inW (List.mem_of_getElem? (i := 907) (by decide +kernel)) (by decide +kernel)
theorem ok_X7_following {G : en_G}  : en_Ok G 2 yX7_following cX7_following 4 (some .int) (C_X7_following G) :=
  en_met (own := RX7) (fl := en_lk fl7) (nw := en_lk nw7) (aw := en_lk aw7) (dc := en_lk dc7) (ca := en_lk (ca_X7_following G)) (rt := 1) (ini := false) (by decide +kernel) (Or.inr (Or.inl ⟨rfl, rfl⟩)) (fun h => by cases h) rfl (fun q => en_LkF fl7_ok nw7_ok aw7_ok dc7_ok) (by
    intro idx q hq
    have hm := en_lk_mem hq
    simp only [ca_X7_following, List.mem_cons, Prod.mk.injEq, List.not_mem_nil, or_false] at hm
    rcases hm with ⟨rfl, rfl⟩
    · exact en_clV (r := (RX7, TX7, 53)) 7 1 ok_X7_placeOf (by decide) (by decide) rfl rfl pr_X7_placeOf wl_X7_following_164 wi_X7_placeOf wx_X7_placeOf wz_7 wc_X7_placeOf ⟨by decide +kernel, by decide +kernel, by decide +kernel⟩) jp_X7_following
def P_X7_assigned (G : en_G)  (g : (Nat) × (st_A) × (Nat)) (as : List en_V) (σ : en_S) : Prop := (RX (g.1) (g.2.1) σ ∧ (g.2.2) < tr_N (sa_T (g.2.1))) ∧ as = [en_R (some (g.1)), en_I (nI (g.2.2))]
def C_X7_assigned (G : en_G)  : en_C := en_gh (P_X7_assigned G) (fun g as σ v σ' => σ' = σ ∧ v = some (en_I (st_num (tr_as (sa_T (g.2.1)) (g.2.2)))))
theorem pr_X7_assigned {G : en_G}  : ∀ as σ, (C_X7_assigned G).1 as σ → ∃ b tl, as = en_R (some b) :: tl ∧ en_cl σ b = some 7 ∧ tl.length = 1 := fun as σ ⟨g, hp, h2⟩ => ⟨_, _, h2, rs_c hp.1.1, rfl⟩
theorem cu_X7_assigned {G : en_G}  {m : Nat} {A : st_A} {n : Nat} {σ : en_S} (hp : RX m A σ ∧ n < tr_N (sa_T A)) : en_Us (C_X7_assigned G) [en_R (some m), en_I (nI n)] σ (fun v σ' => σ' = σ ∧ v = some (en_I (st_num (tr_as (sa_T A) n)))) := ⟨⟨(m, A, n), hp, rfl⟩, fun v σ' q => q (m, A, n) ⟨hp, rfl⟩⟩
def ca_X7_assigned (G : en_G) : List (Nat × Nat × en_C) := [(171, 9, (C_X7_isElement G)), (185, 13, (C_X7_following G))]
def X_X7_assigned (G : en_G) (q : Option en_V → en_S → Prop) : en_X := en_mk G cX7_assigned (en_lk fl7) (en_lk nw7) (en_lk aw7) (en_lk dc7) (en_lk (ca_X7_assigned G)) 1 false q
theorem d_X7_assigned_0 : decode cX7_assigned 0 = .ok (.aload_n 0, 1) := by decide +kernel
theorem j_X7_assigned_0 {G : en_G} {q : Option en_V → en_S → Prop}  {l1 l2 l3 : en_V} {x0 : Option Nat} {σ : en_S} : en_J (X_X7_assigned G q) 0 [en_R x0, l1, l2, l3] [] σ ↔ en_J (X_X7_assigned G q) 1 [en_R x0, l1, l2, l3] [en_R x0] σ := en_j1 d_X7_assigned_0 rfl rfl
theorem d_X7_assigned_1 : decode cX7_assigned 1 = .ok (.iload_n 1, 1) := by decide +kernel
theorem j_X7_assigned_1 {G : en_G} {q : Option en_V → en_S → Prop}  {l0 l2 l3 : en_V} {a0 : Option Nat} {x1 : Int32} {σ : en_S} : en_J (X_X7_assigned G q) 1 [l0, en_I x1, l2, l3] [en_R a0] σ ↔ en_J (X_X7_assigned G q) 2 [l0, en_I x1, l2, l3] [en_I x1, en_R a0] σ := en_j1 d_X7_assigned_1 rfl rfl
theorem d_X7_assigned_2 : decode cX7_assigned 2 = .ok (.invokevirtual 171, 3) := by decide +kernel
theorem j_X7_assigned_2 {G : en_G} {q : Option en_V → en_S → Prop}  {l0 l1 l2 l3 : en_V} {a0 : Int32} {a1 : Option Nat} {σ : en_S} : en_J (X_X7_assigned G q) 2 [l0, l1, l2, l3] [en_I a0, en_R a1] σ ↔ (C_X7_isElement G).1 [en_R a1, en_I a0] σ ∧ ∀ (r : Option en_V) (σ' : en_S), (C_X7_isElement G).2 [en_R a1, en_I a0] σ r σ' → en_J (X_X7_assigned G q) 5 [l0, l1, l2, l3] (r.toList ++ []) σ' := en_jkC (C := (C_X7_isElement G)) (n' := 2) (k := 1) (idx := 171) d_X7_assigned_2 rfl rfl (by decide) (Nat.le_of_ble_eq_true rfl) (Nat.le_of_ble_eq_true rfl)
theorem d_X7_assigned_5 : decode cX7_assigned 5 = .ok (.ifCond .eq 26, 3) := by decide +kernel
theorem j_X7_assigned_5 {G : en_G} {q : Option en_V → en_S → Prop}  {l0 l1 l2 l3 : en_V} {a0 : Int32} {σ : en_S} : en_J (X_X7_assigned G q) 5 [l0, l1, l2, l3] [en_I a0] σ ↔ (a0 = 0 → en_J (X_X7_assigned G q) 31 [l0, l1, l2, l3] [] σ) ∧ (¬ (a0 = 0) → en_J (X_X7_assigned G q) 8 [l0, l1, l2, l3] [] σ) := en_jb d_X7_assigned_5 rfl ⟨rfl, by decide⟩
theorem d_X7_assigned_8 : decode cX7_assigned 8 = .ok (.aload_n 0, 1) := by decide +kernel
theorem j_X7_assigned_8 {G : en_G} {q : Option en_V → en_S → Prop}  {l1 l2 l3 : en_V} {x0 : Option Nat} {σ : en_S} : en_J (X_X7_assigned G q) 8 [en_R x0, l1, l2, l3] [] σ ↔ en_J (X_X7_assigned G q) 9 [en_R x0, l1, l2, l3] [en_R x0] σ := en_j1 d_X7_assigned_8 rfl rfl
theorem d_X7_assigned_9 : decode cX7_assigned 9 = .ok (.getfield 20, 3) := by decide +kernel
theorem j_X7_assigned_9 {G : en_G} {q : Option en_V → en_S → Prop}  {l0 l1 l2 l3 : en_V} {a0 : Option Nat} {σ : en_S} : en_J (X_X7_assigned G q) 9 [l0, l1, l2, l3] [en_R a0] σ ↔ ∃ a, a0 = some a ∧ en_cl σ a = some 7 ∧ en_J (X_X7_assigned G q) 12 [l0, l1, l2, l3] [en_R (en_fr σ 704 a)] σ := en_jg (st := fun o => [en_R o]) (st' := fun a => [en_R (en_fr σ 704 a)]) (σ' := fun _ => σ) d_X7_assigned_9 rfl (fun a => rfl) (fun a => ⟨fun h => h.2, fun h => ⟨rfl, h⟩⟩)
theorem d_X7_assigned_12 : decode cX7_assigned 12 = .ok (.iload_n 1, 1) := by decide +kernel
theorem j_X7_assigned_12 {G : en_G} {q : Option en_V → en_S → Prop}  {l0 l2 l3 : en_V} {a0 : Option Nat} {x1 : Int32} {σ : en_S} : en_J (X_X7_assigned G q) 12 [l0, en_I x1, l2, l3] [en_R a0] σ ↔ en_J (X_X7_assigned G q) 13 [l0, en_I x1, l2, l3] [en_I x1, en_R a0] σ := en_j1 d_X7_assigned_12 rfl rfl
theorem d_X7_assigned_13 : decode cX7_assigned 13 = .ok (.iaload, 1) := by decide +kernel
theorem j_X7_assigned_13 {G : en_G} {q : Option en_V → en_S → Prop}  {l0 l1 l2 l3 : en_V} {a0 : Int32} {a1 : Option Nat} {σ : en_S} : en_J (X_X7_assigned G q) 13 [l0, l1, l2, l3] [en_I a0, en_R a1] σ ↔ ∃ a, a1 = some a ∧ (∃ k, en_al σ a = some (0, k) ∧ vp_in a0 k) ∧ en_J (X_X7_assigned G q) 14 [l0, l1, l2, l3] [en_I (en_ai σ a a0.toNatClampNeg)] σ := ej_iaload d_X7_assigned_13 rfl
theorem d_X7_assigned_14 : decode cX7_assigned 14 = .ok (.ifCond .lt 17, 3) := by decide +kernel
theorem j_X7_assigned_14 {G : en_G} {q : Option en_V → en_S → Prop}  {l0 l1 l2 l3 : en_V} {a0 : Int32} {σ : en_S} : en_J (X_X7_assigned G q) 14 [l0, l1, l2, l3] [en_I a0] σ ↔ (a0 < 0 → en_J (X_X7_assigned G q) 31 [l0, l1, l2, l3] [] σ) ∧ (¬ (a0 < 0) → en_J (X_X7_assigned G q) 17 [l0, l1, l2, l3] [] σ) := en_jb d_X7_assigned_14 rfl ⟨rfl, by decide⟩
theorem d_X7_assigned_17 : decode cX7_assigned 17 = .ok (.aload_n 0, 1) := by decide +kernel
theorem j_X7_assigned_17 {G : en_G} {q : Option en_V → en_S → Prop}  {l1 l2 l3 : en_V} {x0 : Option Nat} {σ : en_S} : en_J (X_X7_assigned G q) 17 [en_R x0, l1, l2, l3] [] σ ↔ en_J (X_X7_assigned G q) 18 [en_R x0, l1, l2, l3] [en_R x0] σ := en_j1 d_X7_assigned_17 rfl rfl
theorem d_X7_assigned_18 : decode cX7_assigned 18 = .ok (.getfield 23, 3) := by decide +kernel
theorem j_X7_assigned_18 {G : en_G} {q : Option en_V → en_S → Prop}  {l0 l1 l2 l3 : en_V} {a0 : Option Nat} {σ : en_S} : en_J (X_X7_assigned G q) 18 [l0, l1, l2, l3] [en_R a0] σ ↔ ∃ a, a0 = some a ∧ en_cl σ a = some 7 ∧ en_J (X_X7_assigned G q) 21 [l0, l1, l2, l3] [en_R (en_fr σ 705 a)] σ := en_jg (st := fun o => [en_R o]) (st' := fun a => [en_R (en_fr σ 705 a)]) (σ' := fun _ => σ) d_X7_assigned_18 rfl (fun a => rfl) (fun a => ⟨fun h => h.2, fun h => ⟨rfl, h⟩⟩)
theorem d_X7_assigned_21 : decode cX7_assigned 21 = .ok (.aload_n 0, 1) := by decide +kernel
theorem j_X7_assigned_21 {G : en_G} {q : Option en_V → en_S → Prop}  {l1 l2 l3 : en_V} {a0 : Option Nat} {x0 : Option Nat} {σ : en_S} : en_J (X_X7_assigned G q) 21 [en_R x0, l1, l2, l3] [en_R a0] σ ↔ en_J (X_X7_assigned G q) 22 [en_R x0, l1, l2, l3] [en_R x0, en_R a0] σ := en_j1 d_X7_assigned_21 rfl rfl
theorem d_X7_assigned_22 : decode cX7_assigned 22 = .ok (.getfield 20, 3) := by decide +kernel
theorem j_X7_assigned_22 {G : en_G} {q : Option en_V → en_S → Prop}  {l0 l1 l2 l3 : en_V} {a0 : Option Nat} {a1 : Option Nat} {σ : en_S} : en_J (X_X7_assigned G q) 22 [l0, l1, l2, l3] [en_R a0, en_R a1] σ ↔ ∃ a, a0 = some a ∧ en_cl σ a = some 7 ∧ en_J (X_X7_assigned G q) 25 [l0, l1, l2, l3] [en_R (en_fr σ 704 a), en_R a1] σ := en_jg (st := fun o => [en_R o, en_R a1]) (st' := fun a => [en_R (en_fr σ 704 a), en_R a1]) (σ' := fun _ => σ) d_X7_assigned_22 rfl (fun a => rfl) (fun a => ⟨fun h => h.2, fun h => ⟨rfl, h⟩⟩)
theorem d_X7_assigned_25 : decode cX7_assigned 25 = .ok (.iload_n 1, 1) := by decide +kernel
theorem j_X7_assigned_25 {G : en_G} {q : Option en_V → en_S → Prop}  {l0 l2 l3 : en_V} {a0 : Option Nat} {a1 : Option Nat} {x1 : Int32} {σ : en_S} : en_J (X_X7_assigned G q) 25 [l0, en_I x1, l2, l3] [en_R a0, en_R a1] σ ↔ en_J (X_X7_assigned G q) 26 [l0, en_I x1, l2, l3] [en_I x1, en_R a0, en_R a1] σ := en_j1 d_X7_assigned_25 rfl rfl
theorem d_X7_assigned_26 : decode cX7_assigned 26 = .ok (.iaload, 1) := by decide +kernel
theorem j_X7_assigned_26 {G : en_G} {q : Option en_V → en_S → Prop}  {l0 l1 l2 l3 : en_V} {a0 : Int32} {a1 : Option Nat} {a2 : Option Nat} {σ : en_S} : en_J (X_X7_assigned G q) 26 [l0, l1, l2, l3] [en_I a0, en_R a1, en_R a2] σ ↔ ∃ a, a1 = some a ∧ (∃ k, en_al σ a = some (0, k) ∧ vp_in a0 k) ∧ en_J (X_X7_assigned G q) 27 [l0, l1, l2, l3] [en_I (en_ai σ a a0.toNatClampNeg), en_R a2] σ := ej_iaload d_X7_assigned_26 rfl
theorem d_X7_assigned_27 : decode cX7_assigned 27 = .ok (.iaload, 1) := by decide +kernel
theorem j_X7_assigned_27 {G : en_G} {q : Option en_V → en_S → Prop}  {l0 l1 l2 l3 : en_V} {a0 : Int32} {a1 : Option Nat} {σ : en_S} : en_J (X_X7_assigned G q) 27 [l0, l1, l2, l3] [en_I a0, en_R a1] σ ↔ ∃ a, a1 = some a ∧ (∃ k, en_al σ a = some (0, k) ∧ vp_in a0 k) ∧ en_J (X_X7_assigned G q) 28 [l0, l1, l2, l3] [en_I (en_ai σ a a0.toNatClampNeg)] σ := ej_iaload d_X7_assigned_27 rfl
theorem d_X7_assigned_28 : decode cX7_assigned 28 = .ok (.ifCond .ge 5, 3) := by decide +kernel
theorem j_X7_assigned_28 {G : en_G} {q : Option en_V → en_S → Prop}  {l0 l1 l2 l3 : en_V} {a0 : Int32} {σ : en_S} : en_J (X_X7_assigned G q) 28 [l0, l1, l2, l3] [en_I a0] σ ↔ (0 ≤ a0 → en_J (X_X7_assigned G q) 33 [l0, l1, l2, l3] [] σ) ∧ (¬ (0 ≤ a0) → en_J (X_X7_assigned G q) 31 [l0, l1, l2, l3] [] σ) := en_jb d_X7_assigned_28 rfl ⟨rfl, by decide⟩
theorem d_X7_assigned_31 : decode cX7_assigned 31 = .ok (.iconst (-1), 1) := by decide +kernel
theorem j_X7_assigned_31 {G : en_G} {q : Option en_V → en_S → Prop}  {l0 l1 l2 l3 : en_V}  {σ : en_S} : en_J (X_X7_assigned G q) 31 [l0, l1, l2, l3] [] σ ↔ en_J (X_X7_assigned G q) 32 [l0, l1, l2, l3] [en_I (-1)] σ := ej_iconst d_X7_assigned_31 (by decide +kernel)
theorem d_X7_assigned_32 : decode cX7_assigned 32 = .ok (.ireturn, 1) := by decide +kernel
theorem j_X7_assigned_32 {G : en_G} {q : Option en_V → en_S → Prop}  {l0 l1 l2 l3 : en_V} {a0 : Int32} {σ : en_S} : en_J (X_X7_assigned G q) 32 [l0, l1, l2, l3] [en_I a0] σ ↔ q (some (en_I a0)) σ := en_jr d_X7_assigned_32 rfl ⟨fun h => h.2.2, fun h => ⟨rfl, Or.inl rfl, h⟩⟩
theorem d_X7_assigned_33 : decode cX7_assigned 33 = .ok (.aload_n 0, 1) := by decide +kernel
theorem j_X7_assigned_33 {G : en_G} {q : Option en_V → en_S → Prop}  {l1 l2 l3 : en_V} {x0 : Option Nat} {σ : en_S} : en_J (X_X7_assigned G q) 33 [en_R x0, l1, l2, l3] [] σ ↔ en_J (X_X7_assigned G q) 34 [en_R x0, l1, l2, l3] [en_R x0] σ := en_j1 d_X7_assigned_33 rfl rfl
theorem d_X7_assigned_34 : decode cX7_assigned 34 = .ok (.getfield 23, 3) := by decide +kernel
theorem j_X7_assigned_34 {G : en_G} {q : Option en_V → en_S → Prop}  {l0 l1 l2 l3 : en_V} {a0 : Option Nat} {σ : en_S} : en_J (X_X7_assigned G q) 34 [l0, l1, l2, l3] [en_R a0] σ ↔ ∃ a, a0 = some a ∧ en_cl σ a = some 7 ∧ en_J (X_X7_assigned G q) 37 [l0, l1, l2, l3] [en_R (en_fr σ 705 a)] σ := en_jg (st := fun o => [en_R o]) (st' := fun a => [en_R (en_fr σ 705 a)]) (σ' := fun _ => σ) d_X7_assigned_34 rfl (fun a => rfl) (fun a => ⟨fun h => h.2, fun h => ⟨rfl, h⟩⟩)
theorem d_X7_assigned_37 : decode cX7_assigned 37 = .ok (.aload_n 0, 1) := by decide +kernel
theorem j_X7_assigned_37 {G : en_G} {q : Option en_V → en_S → Prop}  {l1 l2 l3 : en_V} {a0 : Option Nat} {x0 : Option Nat} {σ : en_S} : en_J (X_X7_assigned G q) 37 [en_R x0, l1, l2, l3] [en_R a0] σ ↔ en_J (X_X7_assigned G q) 38 [en_R x0, l1, l2, l3] [en_R x0, en_R a0] σ := en_j1 d_X7_assigned_37 rfl rfl
theorem d_X7_assigned_38 : decode cX7_assigned 38 = .ok (.getfield 20, 3) := by decide +kernel
theorem j_X7_assigned_38 {G : en_G} {q : Option en_V → en_S → Prop}  {l0 l1 l2 l3 : en_V} {a0 : Option Nat} {a1 : Option Nat} {σ : en_S} : en_J (X_X7_assigned G q) 38 [l0, l1, l2, l3] [en_R a0, en_R a1] σ ↔ ∃ a, a0 = some a ∧ en_cl σ a = some 7 ∧ en_J (X_X7_assigned G q) 41 [l0, l1, l2, l3] [en_R (en_fr σ 704 a), en_R a1] σ := en_jg (st := fun o => [en_R o, en_R a1]) (st' := fun a => [en_R (en_fr σ 704 a), en_R a1]) (σ' := fun _ => σ) d_X7_assigned_38 rfl (fun a => rfl) (fun a => ⟨fun h => h.2, fun h => ⟨rfl, h⟩⟩)
theorem d_X7_assigned_41 : decode cX7_assigned 41 = .ok (.iload_n 1, 1) := by decide +kernel
theorem j_X7_assigned_41 {G : en_G} {q : Option en_V → en_S → Prop}  {l0 l2 l3 : en_V} {a0 : Option Nat} {a1 : Option Nat} {x1 : Int32} {σ : en_S} : en_J (X_X7_assigned G q) 41 [l0, en_I x1, l2, l3] [en_R a0, en_R a1] σ ↔ en_J (X_X7_assigned G q) 42 [l0, en_I x1, l2, l3] [en_I x1, en_R a0, en_R a1] σ := en_j1 d_X7_assigned_41 rfl rfl
theorem d_X7_assigned_42 : decode cX7_assigned 42 = .ok (.iaload, 1) := by decide +kernel
theorem j_X7_assigned_42 {G : en_G} {q : Option en_V → en_S → Prop}  {l0 l1 l2 l3 : en_V} {a0 : Int32} {a1 : Option Nat} {a2 : Option Nat} {σ : en_S} : en_J (X_X7_assigned G q) 42 [l0, l1, l2, l3] [en_I a0, en_R a1, en_R a2] σ ↔ ∃ a, a1 = some a ∧ (∃ k, en_al σ a = some (0, k) ∧ vp_in a0 k) ∧ en_J (X_X7_assigned G q) 43 [l0, l1, l2, l3] [en_I (en_ai σ a a0.toNatClampNeg), en_R a2] σ := ej_iaload d_X7_assigned_42 rfl
theorem d_X7_assigned_43 : decode cX7_assigned 43 = .ok (.iaload, 1) := by decide +kernel
theorem j_X7_assigned_43 {G : en_G} {q : Option en_V → en_S → Prop}  {l0 l1 l2 l3 : en_V} {a0 : Int32} {a1 : Option Nat} {σ : en_S} : en_J (X_X7_assigned G q) 43 [l0, l1, l2, l3] [en_I a0, en_R a1] σ ↔ ∃ a, a1 = some a ∧ (∃ k, en_al σ a = some (0, k) ∧ vp_in a0 k) ∧ en_J (X_X7_assigned G q) 44 [l0, l1, l2, l3] [en_I (en_ai σ a a0.toNatClampNeg)] σ := ej_iaload d_X7_assigned_43 rfl
theorem d_X7_assigned_44 : decode cX7_assigned 44 = .ok (.istore_n 2, 1) := by decide +kernel
theorem j_X7_assigned_44 {G : en_G} {q : Option en_V → en_S → Prop}  {l0 l1 l2 l3 : en_V} {a0 : Int32} {σ : en_S} : en_J (X_X7_assigned G q) 44 [l0, l1, l2, l3] [en_I a0] σ ↔ en_J (X_X7_assigned G q) 45 [l0, en_c2 l1, en_I a0, l3] [] σ := en_j1 d_X7_assigned_44 rfl ⟨rfl, Nat.le_of_ble_eq_true rfl⟩
theorem d_X7_assigned_45 : decode cX7_assigned 45 = .ok (.aload_n 0, 1) := by decide +kernel
theorem j_X7_assigned_45 {G : en_G} {q : Option en_V → en_S → Prop}  {l1 l2 l3 : en_V} {x0 : Option Nat} {σ : en_S} : en_J (X_X7_assigned G q) 45 [en_R x0, l1, l2, l3] [] σ ↔ en_J (X_X7_assigned G q) 46 [en_R x0, l1, l2, l3] [en_R x0] σ := en_j1 d_X7_assigned_45 rfl rfl
theorem d_X7_assigned_46 : decode cX7_assigned 46 = .ok (.iload_n 2, 1) := by decide +kernel
theorem j_X7_assigned_46 {G : en_G} {q : Option en_V → en_S → Prop}  {l0 l1 l3 : en_V} {a0 : Option Nat} {x2 : Int32} {σ : en_S} : en_J (X_X7_assigned G q) 46 [l0, l1, en_I x2, l3] [en_R a0] σ ↔ en_J (X_X7_assigned G q) 47 [l0, l1, en_I x2, l3] [en_I x2, en_R a0] σ := en_j1 d_X7_assigned_46 rfl rfl
theorem d_X7_assigned_47 : decode cX7_assigned 47 = .ok (.iload_n 2, 1) := by decide +kernel
theorem j_X7_assigned_47 {G : en_G} {q : Option en_V → en_S → Prop}  {l0 l1 l3 : en_V} {a0 : Int32} {a1 : Option Nat} {x2 : Int32} {σ : en_S} : en_J (X_X7_assigned G q) 47 [l0, l1, en_I x2, l3] [en_I a0, en_R a1] σ ↔ en_J (X_X7_assigned G q) 48 [l0, l1, en_I x2, l3] [en_I x2, en_I a0, en_R a1] σ := en_j1 d_X7_assigned_47 rfl rfl
theorem d_X7_assigned_48 : decode cX7_assigned 48 = .ok (.invokevirtual 185, 3) := by decide +kernel
theorem j_X7_assigned_48 {G : en_G} {q : Option en_V → en_S → Prop}  {l0 l1 l2 l3 : en_V} {a0 : Int32} {a1 : Int32} {a2 : Option Nat} {σ : en_S} : en_J (X_X7_assigned G q) 48 [l0, l1, l2, l3] [en_I a0, en_I a1, en_R a2] σ ↔ (C_X7_following G).1 [en_R a2, en_I a1, en_I a0] σ ∧ ∀ (r : Option en_V) (σ' : en_S), (C_X7_following G).2 [en_R a2, en_I a1, en_I a0] σ r σ' → en_J (X_X7_assigned G q) 51 [l0, l1, l2, l3] (r.toList ++ []) σ' := en_jkC (C := (C_X7_following G)) (n' := 3) (k := 1) (idx := 185) d_X7_assigned_48 rfl rfl (by decide) (Nat.le_of_ble_eq_true rfl) (Nat.le_of_ble_eq_true rfl)
theorem d_X7_assigned_51 : decode cX7_assigned 51 = .ok (.istore_n 3, 1) := by decide +kernel
theorem j_X7_assigned_51 {G : en_G} {q : Option en_V → en_S → Prop}  {l0 l1 l2 l3 : en_V} {a0 : Int32} {σ : en_S} : en_J (X_X7_assigned G q) 51 [l0, l1, l2, l3] [en_I a0] σ ↔ en_J (X_X7_assigned G q) 52 [l0, l1, en_c2 l2, en_I a0] [] σ := en_j1 d_X7_assigned_51 rfl ⟨rfl, Nat.le_of_ble_eq_true rfl⟩
theorem d_X7_assigned_52 : decode cX7_assigned 52 = .ok (.iload_n 3, 1) := by decide +kernel
theorem j_X7_assigned_52 {G : en_G} {q : Option en_V → en_S → Prop}  {l0 l1 l2 : en_V} {x3 : Int32} {σ : en_S} : en_J (X_X7_assigned G q) 52 [l0, l1, l2, en_I x3] [] σ ↔ en_J (X_X7_assigned G q) 53 [l0, l1, l2, en_I x3] [en_I x3] σ := en_j1 d_X7_assigned_52 rfl rfl
theorem d_X7_assigned_53 : decode cX7_assigned 53 = .ok (.ifCond .lt 38, 3) := by decide +kernel
theorem j_X7_assigned_53 {G : en_G} {q : Option en_V → en_S → Prop}  {l0 l1 l2 l3 : en_V} {a0 : Int32} {σ : en_S} : en_J (X_X7_assigned G q) 53 [l0, l1, l2, l3] [en_I a0] σ ↔ (a0 < 0 → en_J (X_X7_assigned G q) 91 [l0, l1, l2, l3] [] σ) ∧ (¬ (a0 < 0) → en_J (X_X7_assigned G q) 56 [l0, l1, l2, l3] [] σ) := en_jb d_X7_assigned_53 rfl ⟨rfl, by decide⟩
theorem d_X7_assigned_56 : decode cX7_assigned 56 = .ok (.aload_n 0, 1) := by decide +kernel
theorem j_X7_assigned_56 {G : en_G} {q : Option en_V → en_S → Prop}  {l1 l2 l3 : en_V} {x0 : Option Nat} {σ : en_S} : en_J (X_X7_assigned G q) 56 [en_R x0, l1, l2, l3] [] σ ↔ en_J (X_X7_assigned G q) 57 [en_R x0, l1, l2, l3] [en_R x0] σ := en_j1 d_X7_assigned_56 rfl rfl
theorem d_X7_assigned_57 : decode cX7_assigned 57 = .ok (.getfield 13, 3) := by decide +kernel
theorem j_X7_assigned_57 {G : en_G} {q : Option en_V → en_S → Prop}  {l0 l1 l2 l3 : en_V} {a0 : Option Nat} {σ : en_S} : en_J (X_X7_assigned G q) 57 [l0, l1, l2, l3] [en_R a0] σ ↔ ∃ a, a0 = some a ∧ en_cl σ a = some 7 ∧ en_J (X_X7_assigned G q) 60 [l0, l1, l2, l3] [en_R (en_fr σ 702 a)] σ := en_jg (st := fun o => [en_R o]) (st' := fun a => [en_R (en_fr σ 702 a)]) (σ' := fun _ => σ) d_X7_assigned_57 rfl (fun a => rfl) (fun a => ⟨fun h => h.2, fun h => ⟨rfl, h⟩⟩)
theorem d_X7_assigned_60 : decode cX7_assigned 60 = .ok (.iload_n 3, 1) := by decide +kernel
theorem j_X7_assigned_60 {G : en_G} {q : Option en_V → en_S → Prop}  {l0 l1 l2 : en_V} {a0 : Option Nat} {x3 : Int32} {σ : en_S} : en_J (X_X7_assigned G q) 60 [l0, l1, l2, en_I x3] [en_R a0] σ ↔ en_J (X_X7_assigned G q) 61 [l0, l1, l2, en_I x3] [en_I x3, en_R a0] σ := en_j1 d_X7_assigned_60 rfl rfl
theorem d_X7_assigned_61 : decode cX7_assigned 61 = .ok (.iaload, 1) := by decide +kernel
theorem j_X7_assigned_61 {G : en_G} {q : Option en_V → en_S → Prop}  {l0 l1 l2 l3 : en_V} {a0 : Int32} {a1 : Option Nat} {σ : en_S} : en_J (X_X7_assigned G q) 61 [l0, l1, l2, l3] [en_I a0, en_R a1] σ ↔ ∃ a, a1 = some a ∧ (∃ k, en_al σ a = some (0, k) ∧ vp_in a0 k) ∧ en_J (X_X7_assigned G q) 62 [l0, l1, l2, l3] [en_I (en_ai σ a a0.toNatClampNeg)] σ := ej_iaload d_X7_assigned_61 rfl
theorem d_X7_assigned_62 : decode cX7_assigned 62 = .ok (.iconst 1, 1) := by decide +kernel
theorem j_X7_assigned_62 {G : en_G} {q : Option en_V → en_S → Prop}  {l0 l1 l2 l3 : en_V} {a0 : Int32} {σ : en_S} : en_J (X_X7_assigned G q) 62 [l0, l1, l2, l3] [en_I a0] σ ↔ en_J (X_X7_assigned G q) 63 [l0, l1, l2, l3] [en_I 1, en_I a0] σ := ej_iconst d_X7_assigned_62 (by decide +kernel)
theorem d_X7_assigned_63 : decode cX7_assigned 63 = .ok (.if_icmp .ne 18, 3) := by decide +kernel
theorem j_X7_assigned_63 {G : en_G} {q : Option en_V → en_S → Prop}  {l0 l1 l2 l3 : en_V} {a0 : Int32} {a1 : Int32} {σ : en_S} : en_J (X_X7_assigned G q) 63 [l0, l1, l2, l3] [en_I a0, en_I a1] σ ↔ (¬ a1 = a0 → en_J (X_X7_assigned G q) 81 [l0, l1, l2, l3] [] σ) ∧ (¬ (¬ a1 = a0) → en_J (X_X7_assigned G q) 66 [l0, l1, l2, l3] [] σ) := en_jb d_X7_assigned_63 rfl ⟨rfl, by decide⟩
theorem d_X7_assigned_66 : decode cX7_assigned 66 = .ok (.aload_n 0, 1) := by decide +kernel
theorem j_X7_assigned_66 {G : en_G} {q : Option en_V → en_S → Prop}  {l1 l2 l3 : en_V} {x0 : Option Nat} {σ : en_S} : en_J (X_X7_assigned G q) 66 [en_R x0, l1, l2, l3] [] σ ↔ en_J (X_X7_assigned G q) 67 [en_R x0, l1, l2, l3] [en_R x0] σ := en_j1 d_X7_assigned_66 rfl rfl
theorem d_X7_assigned_67 : decode cX7_assigned 67 = .ok (.getfield 17, 3) := by decide +kernel
theorem j_X7_assigned_67 {G : en_G} {q : Option en_V → en_S → Prop}  {l0 l1 l2 l3 : en_V} {a0 : Option Nat} {σ : en_S} : en_J (X_X7_assigned G q) 67 [l0, l1, l2, l3] [en_R a0] σ ↔ ∃ a, a0 = some a ∧ en_cl σ a = some 7 ∧ en_J (X_X7_assigned G q) 70 [l0, l1, l2, l3] [en_R (en_fr σ 703 a)] σ := en_jg (st := fun o => [en_R o]) (st' := fun a => [en_R (en_fr σ 703 a)]) (σ' := fun _ => σ) d_X7_assigned_67 rfl (fun a => rfl) (fun a => ⟨fun h => h.2, fun h => ⟨rfl, h⟩⟩)
theorem d_X7_assigned_70 : decode cX7_assigned 70 = .ok (.iload_n 3, 1) := by decide +kernel
theorem j_X7_assigned_70 {G : en_G} {q : Option en_V → en_S → Prop}  {l0 l1 l2 : en_V} {a0 : Option Nat} {x3 : Int32} {σ : en_S} : en_J (X_X7_assigned G q) 70 [l0, l1, l2, en_I x3] [en_R a0] σ ↔ en_J (X_X7_assigned G q) 71 [l0, l1, l2, en_I x3] [en_I x3, en_R a0] σ := en_j1 d_X7_assigned_70 rfl rfl
theorem d_X7_assigned_71 : decode cX7_assigned 71 = .ok (.iaload, 1) := by decide +kernel
theorem j_X7_assigned_71 {G : en_G} {q : Option en_V → en_S → Prop}  {l0 l1 l2 l3 : en_V} {a0 : Int32} {a1 : Option Nat} {σ : en_S} : en_J (X_X7_assigned G q) 71 [l0, l1, l2, l3] [en_I a0, en_R a1] σ ↔ ∃ a, a1 = some a ∧ (∃ k, en_al σ a = some (0, k) ∧ vp_in a0 k) ∧ en_J (X_X7_assigned G q) 72 [l0, l1, l2, l3] [en_I (en_ai σ a a0.toNatClampNeg)] σ := ej_iaload d_X7_assigned_71 rfl
theorem d_X7_assigned_72 : decode cX7_assigned 72 = .ok (.aload_n 0, 1) := by decide +kernel
theorem j_X7_assigned_72 {G : en_G} {q : Option en_V → en_S → Prop}  {l1 l2 l3 : en_V} {a0 : Int32} {x0 : Option Nat} {σ : en_S} : en_J (X_X7_assigned G q) 72 [en_R x0, l1, l2, l3] [en_I a0] σ ↔ en_J (X_X7_assigned G q) 73 [en_R x0, l1, l2, l3] [en_R x0, en_I a0] σ := en_j1 d_X7_assigned_72 rfl rfl
theorem d_X7_assigned_73 : decode cX7_assigned 73 = .ok (.getfield 17, 3) := by decide +kernel
theorem j_X7_assigned_73 {G : en_G} {q : Option en_V → en_S → Prop}  {l0 l1 l2 l3 : en_V} {a0 : Option Nat} {a1 : Int32} {σ : en_S} : en_J (X_X7_assigned G q) 73 [l0, l1, l2, l3] [en_R a0, en_I a1] σ ↔ ∃ a, a0 = some a ∧ en_cl σ a = some 7 ∧ en_J (X_X7_assigned G q) 76 [l0, l1, l2, l3] [en_R (en_fr σ 703 a), en_I a1] σ := en_jg (st := fun o => [en_R o, en_I a1]) (st' := fun a => [en_R (en_fr σ 703 a), en_I a1]) (σ' := fun _ => σ) d_X7_assigned_73 rfl (fun a => rfl) (fun a => ⟨fun h => h.2, fun h => ⟨rfl, h⟩⟩)
theorem d_X7_assigned_76 : decode cX7_assigned 76 = .ok (.iload_n 1, 1) := by decide +kernel
theorem j_X7_assigned_76 {G : en_G} {q : Option en_V → en_S → Prop}  {l0 l2 l3 : en_V} {a0 : Option Nat} {a1 : Int32} {x1 : Int32} {σ : en_S} : en_J (X_X7_assigned G q) 76 [l0, en_I x1, l2, l3] [en_R a0, en_I a1] σ ↔ en_J (X_X7_assigned G q) 77 [l0, en_I x1, l2, l3] [en_I x1, en_R a0, en_I a1] σ := en_j1 d_X7_assigned_76 rfl rfl
theorem d_X7_assigned_77 : decode cX7_assigned 77 = .ok (.iaload, 1) := by decide +kernel
theorem j_X7_assigned_77 {G : en_G} {q : Option en_V → en_S → Prop}  {l0 l1 l2 l3 : en_V} {a0 : Int32} {a1 : Option Nat} {a2 : Int32} {σ : en_S} : en_J (X_X7_assigned G q) 77 [l0, l1, l2, l3] [en_I a0, en_R a1, en_I a2] σ ↔ ∃ a, a1 = some a ∧ (∃ k, en_al σ a = some (0, k) ∧ vp_in a0 k) ∧ en_J (X_X7_assigned G q) 78 [l0, l1, l2, l3] [en_I (en_ai σ a a0.toNatClampNeg), en_I a2] σ := ej_iaload d_X7_assigned_77 rfl
theorem d_X7_assigned_78 : decode cX7_assigned 78 = .ok (.if_icmp .eq 13, 3) := by decide +kernel
theorem j_X7_assigned_78 {G : en_G} {q : Option en_V → en_S → Prop}  {l0 l1 l2 l3 : en_V} {a0 : Int32} {a1 : Int32} {σ : en_S} : en_J (X_X7_assigned G q) 78 [l0, l1, l2, l3] [en_I a0, en_I a1] σ ↔ (a1 = a0 → en_J (X_X7_assigned G q) 91 [l0, l1, l2, l3] [] σ) ∧ (¬ (a1 = a0) → en_J (X_X7_assigned G q) 81 [l0, l1, l2, l3] [] σ) := en_jb d_X7_assigned_78 rfl ⟨rfl, by decide⟩
theorem d_X7_assigned_81 : decode cX7_assigned 81 = .ok (.aload_n 0, 1) := by decide +kernel
theorem j_X7_assigned_81 {G : en_G} {q : Option en_V → en_S → Prop}  {l1 l2 l3 : en_V} {x0 : Option Nat} {σ : en_S} : en_J (X_X7_assigned G q) 81 [en_R x0, l1, l2, l3] [] σ ↔ en_J (X_X7_assigned G q) 82 [en_R x0, l1, l2, l3] [en_R x0] σ := en_j1 d_X7_assigned_81 rfl rfl
theorem d_X7_assigned_82 : decode cX7_assigned 82 = .ok (.iload_n 3, 1) := by decide +kernel
theorem j_X7_assigned_82 {G : en_G} {q : Option en_V → en_S → Prop}  {l0 l1 l2 : en_V} {a0 : Option Nat} {x3 : Int32} {σ : en_S} : en_J (X_X7_assigned G q) 82 [l0, l1, l2, en_I x3] [en_R a0] σ ↔ en_J (X_X7_assigned G q) 83 [l0, l1, l2, en_I x3] [en_I x3, en_R a0] σ := en_j1 d_X7_assigned_82 rfl rfl
theorem d_X7_assigned_83 : decode cX7_assigned 83 = .ok (.iload_n 2, 1) := by decide +kernel
theorem j_X7_assigned_83 {G : en_G} {q : Option en_V → en_S → Prop}  {l0 l1 l3 : en_V} {a0 : Int32} {a1 : Option Nat} {x2 : Int32} {σ : en_S} : en_J (X_X7_assigned G q) 83 [l0, l1, en_I x2, l3] [en_I a0, en_R a1] σ ↔ en_J (X_X7_assigned G q) 84 [l0, l1, en_I x2, l3] [en_I x2, en_I a0, en_R a1] σ := en_j1 d_X7_assigned_83 rfl rfl
theorem d_X7_assigned_84 : decode cX7_assigned 84 = .ok (.invokevirtual 185, 3) := by decide +kernel
theorem j_X7_assigned_84 {G : en_G} {q : Option en_V → en_S → Prop}  {l0 l1 l2 l3 : en_V} {a0 : Int32} {a1 : Int32} {a2 : Option Nat} {σ : en_S} : en_J (X_X7_assigned G q) 84 [l0, l1, l2, l3] [en_I a0, en_I a1, en_R a2] σ ↔ (C_X7_following G).1 [en_R a2, en_I a1, en_I a0] σ ∧ ∀ (r : Option en_V) (σ' : en_S), (C_X7_following G).2 [en_R a2, en_I a1, en_I a0] σ r σ' → en_J (X_X7_assigned G q) 87 [l0, l1, l2, l3] (r.toList ++ []) σ' := en_jkC (C := (C_X7_following G)) (n' := 3) (k := 1) (idx := 185) d_X7_assigned_84 rfl rfl (by decide) (Nat.le_of_ble_eq_true rfl) (Nat.le_of_ble_eq_true rfl)
theorem d_X7_assigned_87 : decode cX7_assigned 87 = .ok (.istore_n 3, 1) := by decide +kernel
theorem j_X7_assigned_87 {G : en_G} {q : Option en_V → en_S → Prop}  {l0 l1 l2 l3 : en_V} {a0 : Int32} {σ : en_S} : en_J (X_X7_assigned G q) 87 [l0, l1, l2, l3] [en_I a0] σ ↔ en_J (X_X7_assigned G q) 88 [l0, l1, en_c2 l2, en_I a0] [] σ := en_j1 d_X7_assigned_87 rfl ⟨rfl, Nat.le_of_ble_eq_true rfl⟩
theorem d_X7_assigned_88 : decode cX7_assigned 88 = .ok (.goto (-36), 3) := by decide +kernel
theorem j_X7_assigned_88 {G : en_G} {q : Option en_V → en_S → Prop}  {l0 l1 l2 l3 : en_V}  {σ : en_S} : en_J (X_X7_assigned G q) 88 [l0, l1, l2, l3] [] σ ↔ en_J (X_X7_assigned G q) 52 [l0, l1, l2, l3] [] σ := en_j1 d_X7_assigned_88 rfl ⟨rfl, by decide⟩
theorem d_X7_assigned_91 : decode cX7_assigned 91 = .ok (.iload_n 3, 1) := by decide +kernel
theorem j_X7_assigned_91 {G : en_G} {q : Option en_V → en_S → Prop}  {l0 l1 l2 : en_V} {x3 : Int32} {σ : en_S} : en_J (X_X7_assigned G q) 91 [l0, l1, l2, en_I x3] [] σ ↔ en_J (X_X7_assigned G q) 92 [l0, l1, l2, en_I x3] [en_I x3] σ := en_j1 d_X7_assigned_91 rfl rfl
theorem d_X7_assigned_92 : decode cX7_assigned 92 = .ok (.ireturn, 1) := by decide +kernel
theorem j_X7_assigned_92 {G : en_G} {q : Option en_V → en_S → Prop}  {l0 l1 l2 l3 : en_V} {a0 : Int32} {σ : en_S} : en_J (X_X7_assigned G q) 92 [l0, l1, l2, l3] [en_I a0] σ ↔ q (some (en_I a0)) σ := en_jr d_X7_assigned_92 rfl ⟨fun h => h.2.2, fun h => ⟨rfl, Or.inl rfl, h⟩⟩
theorem wc_X7_assigned : Jvm.Cond.code yX7_assigned cX7_assigned 4 (some .int) ∈ en_W := en_inW (List.mem_of_getElem? (i := 958) (by decide +kernel)) (by decide +kernel)
theorem wi_X7_assigned : Jvm.Cond.instanceMethod yX7_assigned ∈ en_W := en_inW (List.mem_of_getElem? (i := 957) (by decide +kernel)) (by decide +kernel)
theorem wx_X7_assigned : Jvm.Cond.selects RX7 yX7_assigned yX7_assigned ∈ en_W := en_inW (List.mem_of_getElem? (i := 27) (by decide +kernel)) (by decide +kernel)
theorem jw_X7_assigned {G : en_G} {q : Option en_V → en_S → Prop} {m : Nat} {A : st_A} {σ : en_S} (hR : RX m A σ) {t n : Nat} {w : Int32} (tp : tr_pa (sa_T A) t = none) (tr : tr_root (sa_T A) t = t) (hn : n < tr_N (sa_T A)) (hnm : en_ai σ (m + 2) n = w) : ∀ (k : Nat) (cur : Option Nat), (∀ x, cur = some x → x < tr_N (sa_T A) ∧ tr_root (sa_T A) x = t ∧ tr_pa (sa_T A) x ≠ none ∧ tr_Pk (sa_T A) x ≤ k) → q (some (en_I (st_num (tr_asF (sa_T A) w k cur)))) σ → en_J (X_X7_assigned G q) 52 [en_R (some m), en_I (nI n), en_I (nI t), en_I (st_num cur)] [] σ := by
  have hw := hR.2.2.2.2.2.2.2.2.2.1
  have hN := hw.1.2
  have hS := hR.1
  have z1 : (-1 : Int32) < 0 := by decide
  have n3 : vp_in (nI n) 24 := vp_in_nI (by omega) (by decide)
  have n4 : (nI n).toNatClampNeg = n := nI_clamp (by omega)
  intro k
  induction k with
  | zero =>
    intro cur hc hq
    cases cur with
    | none =>
      rw [j_X7_assigned_52]
      simp only [j_X7_assigned_0, j_X7_assigned_1, j_X7_assigned_2, j_X7_assigned_5, j_X7_assigned_8, j_X7_assigned_9, j_X7_assigned_12, j_X7_assigned_13, j_X7_assigned_14, j_X7_assigned_17, j_X7_assigned_18, j_X7_assigned_21, j_X7_assigned_22, j_X7_assigned_25, j_X7_assigned_26, j_X7_assigned_27, j_X7_assigned_28, j_X7_assigned_31, j_X7_assigned_32, j_X7_assigned_33, j_X7_assigned_34, j_X7_assigned_37, j_X7_assigned_38, j_X7_assigned_41, j_X7_assigned_42, j_X7_assigned_43, j_X7_assigned_44, j_X7_assigned_45, j_X7_assigned_46, j_X7_assigned_47, j_X7_assigned_48, j_X7_assigned_51, j_X7_assigned_53, j_X7_assigned_56, j_X7_assigned_57, j_X7_assigned_60, j_X7_assigned_61, j_X7_assigned_62, j_X7_assigned_63, j_X7_assigned_66, j_X7_assigned_67, j_X7_assigned_70, j_X7_assigned_71, j_X7_assigned_72, j_X7_assigned_73, j_X7_assigned_76, j_X7_assigned_77, j_X7_assigned_78, j_X7_assigned_81, j_X7_assigned_82, j_X7_assigned_83, j_X7_assigned_84, j_X7_assigned_87, j_X7_assigned_88, j_X7_assigned_91, j_X7_assigned_92, en_c2I, en_c2R, en_c2U, en_c2D, Option.some.injEq, exists_eq_left', exists_eq_left, Option.map_some, Option.map_none, not_true_eq_false, false_implies, true_implies, and_true, true_and, reduceCtorEq, not_false_eq_true, st_num_none, z1]
      exact hq
    | some x =>
      obtain ⟨h1, h2, h3, h4⟩ := hc x rfl
      have := tr_Pk_le hw h1
      omega
  | succ k ih =>
    intro cur hc hq
    cases cur with
    | none =>
      rw [j_X7_assigned_52]
      simp only [j_X7_assigned_0, j_X7_assigned_1, j_X7_assigned_2, j_X7_assigned_5, j_X7_assigned_8, j_X7_assigned_9, j_X7_assigned_12, j_X7_assigned_13, j_X7_assigned_14, j_X7_assigned_17, j_X7_assigned_18, j_X7_assigned_21, j_X7_assigned_22, j_X7_assigned_25, j_X7_assigned_26, j_X7_assigned_27, j_X7_assigned_28, j_X7_assigned_31, j_X7_assigned_32, j_X7_assigned_33, j_X7_assigned_34, j_X7_assigned_37, j_X7_assigned_38, j_X7_assigned_41, j_X7_assigned_42, j_X7_assigned_43, j_X7_assigned_44, j_X7_assigned_45, j_X7_assigned_46, j_X7_assigned_47, j_X7_assigned_48, j_X7_assigned_51, j_X7_assigned_53, j_X7_assigned_56, j_X7_assigned_57, j_X7_assigned_60, j_X7_assigned_61, j_X7_assigned_62, j_X7_assigned_63, j_X7_assigned_66, j_X7_assigned_67, j_X7_assigned_70, j_X7_assigned_71, j_X7_assigned_72, j_X7_assigned_73, j_X7_assigned_76, j_X7_assigned_77, j_X7_assigned_78, j_X7_assigned_81, j_X7_assigned_82, j_X7_assigned_83, j_X7_assigned_84, j_X7_assigned_87, j_X7_assigned_88, j_X7_assigned_91, j_X7_assigned_92, en_c2I, en_c2R, en_c2U, en_c2D, Option.some.injEq, exists_eq_left', exists_eq_left, Option.map_some, Option.map_none, not_true_eq_false, false_implies, true_implies, and_true, true_and, reduceCtorEq, not_false_eq_true, st_num_none, z1]
      exact hq
    | some x =>
      obtain ⟨h1, h2, h3, h4⟩ := hc x rfl
      have z2 : ¬ nI x < 0 := nI_pos (by omega)
      have x3 : vp_in (nI x) 24 := vp_in_nI (by omega) (by decide)
      have x4 : (nI x).toNatClampNeg = x := nI_clamp (by omega)
      obtain ⟨r1, r2, -⟩ := hR.2.1 x h1
      have hel : tr_el (sa_T A) x := by
        cases hp : tr_pa (sa_T A) x with
        | none => exact absurd hp h3
        | some p => exact (hw.2.1 x p h1 hp).2.2
      have r2 := r2 hel
      simp only [tr_asF] at hq
      rw [j_X7_assigned_52]
      have go : tr_asF (sa_T A) w (k + 1) (some x) = tr_asF (sa_T A) w k (tr_nto (sa_T A) x) → q (some (en_I (st_num (tr_asF (sa_T A) w k (tr_nto (sa_T A) x))))) σ → en_J (X_X7_assigned G q) 81 [en_R (some m), en_I (nI n), en_I (nI t), en_I (nI x)] [] σ := by
        intro _ hq
        simp only [j_X7_assigned_0, j_X7_assigned_1, j_X7_assigned_2, j_X7_assigned_5, j_X7_assigned_8, j_X7_assigned_9, j_X7_assigned_12, j_X7_assigned_13, j_X7_assigned_14, j_X7_assigned_17, j_X7_assigned_18, j_X7_assigned_21, j_X7_assigned_22, j_X7_assigned_25, j_X7_assigned_26, j_X7_assigned_27, j_X7_assigned_28, j_X7_assigned_31, j_X7_assigned_32, j_X7_assigned_33, j_X7_assigned_34, j_X7_assigned_37, j_X7_assigned_38, j_X7_assigned_41, j_X7_assigned_42, j_X7_assigned_43, j_X7_assigned_44, j_X7_assigned_45, j_X7_assigned_46, j_X7_assigned_47, j_X7_assigned_48, j_X7_assigned_51, j_X7_assigned_53, j_X7_assigned_56, j_X7_assigned_57, j_X7_assigned_60, j_X7_assigned_61, j_X7_assigned_62, j_X7_assigned_63, j_X7_assigned_66, j_X7_assigned_67, j_X7_assigned_70, j_X7_assigned_71, j_X7_assigned_72, j_X7_assigned_73, j_X7_assigned_76, j_X7_assigned_77, j_X7_assigned_78, j_X7_assigned_81, j_X7_assigned_82, j_X7_assigned_83, j_X7_assigned_84, j_X7_assigned_87, j_X7_assigned_88, j_X7_assigned_91, j_X7_assigned_92, en_c2I, en_c2R, en_c2U, en_c2D, Option.some.injEq, exists_eq_left', exists_eq_left, Option.map_some, Option.map_none, not_true_eq_false, false_implies, true_implies, and_true, true_and, reduceCtorEq, not_false_eq_true]
        refine en_use (cu_X7_following ⟨hR, h1, h2, tp⟩) ?_
        rintro v σ2 ⟨rfl, rfl⟩
        simp only [Option.toList, List.cons_append, List.nil_append, j_X7_assigned_0, j_X7_assigned_1, j_X7_assigned_2, j_X7_assigned_5, j_X7_assigned_8, j_X7_assigned_9, j_X7_assigned_12, j_X7_assigned_13, j_X7_assigned_14, j_X7_assigned_17, j_X7_assigned_18, j_X7_assigned_21, j_X7_assigned_22, j_X7_assigned_25, j_X7_assigned_26, j_X7_assigned_27, j_X7_assigned_28, j_X7_assigned_31, j_X7_assigned_32, j_X7_assigned_33, j_X7_assigned_34, j_X7_assigned_37, j_X7_assigned_38, j_X7_assigned_41, j_X7_assigned_42, j_X7_assigned_43, j_X7_assigned_44, j_X7_assigned_45, j_X7_assigned_46, j_X7_assigned_47, j_X7_assigned_48, j_X7_assigned_51, j_X7_assigned_53, j_X7_assigned_56, j_X7_assigned_57, j_X7_assigned_60, j_X7_assigned_61, j_X7_assigned_62, j_X7_assigned_63, j_X7_assigned_66, j_X7_assigned_67, j_X7_assigned_70, j_X7_assigned_71, j_X7_assigned_72, j_X7_assigned_73, j_X7_assigned_76, j_X7_assigned_77, j_X7_assigned_78, j_X7_assigned_81, j_X7_assigned_82, j_X7_assigned_83, j_X7_assigned_84, j_X7_assigned_87, j_X7_assigned_88, j_X7_assigned_91, j_X7_assigned_92, en_c2I, en_c2R, en_c2U, en_c2D, Option.some.injEq, exists_eq_left', exists_eq_left, Option.map_some, Option.map_none, not_true_eq_false, false_implies, true_implies, and_true, true_and, reduceCtorEq, not_false_eq_true]
        refine ih _ (fun y hy => ?_) hq
        obtain ⟨g1, g2, g3⟩ := od_nto_root hw h1 hy
        have := (tr_Pk_nto hw h1 hy).2
        exact ⟨g1, by rw [g2]; exact h2, g3, by omega⟩
      by_cases e1 : tr_kd (sa_T A) x = 1
      · by_cases e2 : tr_nm (sa_T A) x = w
        · rw [if_pos ⟨e1, e2⟩] at hq
          simp only [j_X7_assigned_0, j_X7_assigned_1, j_X7_assigned_2, j_X7_assigned_5, j_X7_assigned_8, j_X7_assigned_9, j_X7_assigned_12, j_X7_assigned_13, j_X7_assigned_14, j_X7_assigned_17, j_X7_assigned_18, j_X7_assigned_21, j_X7_assigned_22, j_X7_assigned_25, j_X7_assigned_26, j_X7_assigned_27, j_X7_assigned_28, j_X7_assigned_31, j_X7_assigned_32, j_X7_assigned_33, j_X7_assigned_34, j_X7_assigned_37, j_X7_assigned_38, j_X7_assigned_41, j_X7_assigned_42, j_X7_assigned_43, j_X7_assigned_44, j_X7_assigned_45, j_X7_assigned_46, j_X7_assigned_47, j_X7_assigned_48, j_X7_assigned_51, j_X7_assigned_53, j_X7_assigned_56, j_X7_assigned_57, j_X7_assigned_60, j_X7_assigned_61, j_X7_assigned_62, j_X7_assigned_63, j_X7_assigned_66, j_X7_assigned_67, j_X7_assigned_70, j_X7_assigned_71, j_X7_assigned_72, j_X7_assigned_73, j_X7_assigned_76, j_X7_assigned_77, j_X7_assigned_78, j_X7_assigned_81, j_X7_assigned_82, j_X7_assigned_83, j_X7_assigned_84, j_X7_assigned_87, j_X7_assigned_88, j_X7_assigned_91, j_X7_assigned_92, en_c2I, en_c2R, en_c2U, en_c2D, Option.some.injEq, exists_eq_left', exists_eq_left, Option.map_some, Option.map_none, not_true_eq_false, false_implies, true_implies, and_true, true_and, reduceCtorEq, not_false_eq_true, rs_c hS, rs_f704 hS, rs_a3 hS, rs_f705 hS, rs_a4 hS, rs_f702 hS, rs_a1 hS, rs_f703 hS, rs_a2 hS, Prod.mk.injEq, st_num_some, z2, x3, x4, n3, n4, r1, r2, hnm, eq_true e1, eq_true e2]
          exact hq
        · rw [if_neg (fun z => e2 z.2)] at hq
          have := go (by simp only [tr_asF]; rw [if_neg (fun z => e2 z.2)]) hq
          simp only [j_X7_assigned_0, j_X7_assigned_1, j_X7_assigned_2, j_X7_assigned_5, j_X7_assigned_8, j_X7_assigned_9, j_X7_assigned_12, j_X7_assigned_13, j_X7_assigned_14, j_X7_assigned_17, j_X7_assigned_18, j_X7_assigned_21, j_X7_assigned_22, j_X7_assigned_25, j_X7_assigned_26, j_X7_assigned_27, j_X7_assigned_28, j_X7_assigned_31, j_X7_assigned_32, j_X7_assigned_33, j_X7_assigned_34, j_X7_assigned_37, j_X7_assigned_38, j_X7_assigned_41, j_X7_assigned_42, j_X7_assigned_43, j_X7_assigned_44, j_X7_assigned_45, j_X7_assigned_46, j_X7_assigned_47, j_X7_assigned_48, j_X7_assigned_51, j_X7_assigned_53, j_X7_assigned_56, j_X7_assigned_57, j_X7_assigned_60, j_X7_assigned_61, j_X7_assigned_62, j_X7_assigned_63, j_X7_assigned_66, j_X7_assigned_67, j_X7_assigned_70, j_X7_assigned_71, j_X7_assigned_72, j_X7_assigned_73, j_X7_assigned_76, j_X7_assigned_77, j_X7_assigned_78, j_X7_assigned_82, j_X7_assigned_83, j_X7_assigned_84, j_X7_assigned_87, j_X7_assigned_88, j_X7_assigned_91, j_X7_assigned_92, en_c2I, en_c2R, en_c2U, en_c2D, Option.some.injEq, exists_eq_left', exists_eq_left, Option.map_some, Option.map_none, not_true_eq_false, false_implies, true_implies, and_true, true_and, reduceCtorEq, not_false_eq_true, rs_c hS, rs_f704 hS, rs_a3 hS, rs_f705 hS, rs_a4 hS, rs_f702 hS, rs_a1 hS, rs_f703 hS, rs_a2 hS, Prod.mk.injEq, st_num_some, z2, x3, x4, n3, n4, r1, r2, hnm, eq_true e1, eq_false e2]
          exact this
      · rw [if_neg (fun z => e1 z.1)] at hq
        have := go (by simp only [tr_asF]; rw [if_neg (fun z => e1 z.1)]) hq
        simp only [j_X7_assigned_0, j_X7_assigned_1, j_X7_assigned_2, j_X7_assigned_5, j_X7_assigned_8, j_X7_assigned_9, j_X7_assigned_12, j_X7_assigned_13, j_X7_assigned_14, j_X7_assigned_17, j_X7_assigned_18, j_X7_assigned_21, j_X7_assigned_22, j_X7_assigned_25, j_X7_assigned_26, j_X7_assigned_27, j_X7_assigned_28, j_X7_assigned_31, j_X7_assigned_32, j_X7_assigned_33, j_X7_assigned_34, j_X7_assigned_37, j_X7_assigned_38, j_X7_assigned_41, j_X7_assigned_42, j_X7_assigned_43, j_X7_assigned_44, j_X7_assigned_45, j_X7_assigned_46, j_X7_assigned_47, j_X7_assigned_48, j_X7_assigned_51, j_X7_assigned_53, j_X7_assigned_56, j_X7_assigned_57, j_X7_assigned_60, j_X7_assigned_61, j_X7_assigned_62, j_X7_assigned_63, j_X7_assigned_66, j_X7_assigned_67, j_X7_assigned_70, j_X7_assigned_71, j_X7_assigned_72, j_X7_assigned_73, j_X7_assigned_76, j_X7_assigned_77, j_X7_assigned_78, j_X7_assigned_82, j_X7_assigned_83, j_X7_assigned_84, j_X7_assigned_87, j_X7_assigned_88, j_X7_assigned_91, j_X7_assigned_92, en_c2I, en_c2R, en_c2U, en_c2D, Option.some.injEq, exists_eq_left', exists_eq_left, Option.map_some, Option.map_none, not_true_eq_false, false_implies, true_implies, and_true, true_and, reduceCtorEq, not_false_eq_true, rs_c hS, rs_f704 hS, rs_a3 hS, rs_f705 hS, rs_a4 hS, rs_f702 hS, rs_a1 hS, rs_f703 hS, rs_a2 hS, Prod.mk.injEq, st_num_some, z2, x3, x4, r1, eq_false e1]
        exact this
theorem jl_X7_assigned {G : en_G}  {m : Nat} {A : st_A} {n : Nat} {q : Option en_V → en_S → Prop} {σ : en_S} (hp : RX m A σ ∧ n < tr_N (sa_T A)) (hq : ∀ v σ', (σ' = σ ∧ v = some (en_I (st_num (tr_as (sa_T A) n)))) → q v σ') : en_J (X_X7_assigned G q) 0 [en_R (some m), en_I (nI n), en_U, en_U] [] σ := by
  obtain ⟨hR, hn⟩ := hp
  have hS := hR.1
  have hw := hR.2.2.2.2.2.2.2.2.2.1
  have hN := hw.1.2
  have n3 : vp_in (nI n) 24 := vp_in_nI (by omega) (by decide)
  have n4 : (nI n).toNatClampNeg = n := nI_clamp (by omega)
  have i1 : ¬ (1 : Int32) = 0 := by decide
  obtain ⟨r1, r2, r3, r4, r5, r6, r7⟩ := hR.2.1 n hn
  simp only [j_X7_assigned_0, j_X7_assigned_1, j_X7_assigned_2, j_X7_assigned_5, j_X7_assigned_8, j_X7_assigned_9, j_X7_assigned_12, j_X7_assigned_13, j_X7_assigned_14, j_X7_assigned_17, j_X7_assigned_18, j_X7_assigned_21, j_X7_assigned_22, j_X7_assigned_25, j_X7_assigned_26, j_X7_assigned_27, j_X7_assigned_28, j_X7_assigned_31, j_X7_assigned_32, j_X7_assigned_33, j_X7_assigned_34, j_X7_assigned_37, j_X7_assigned_38, j_X7_assigned_41, j_X7_assigned_42, j_X7_assigned_43, j_X7_assigned_44, j_X7_assigned_45, j_X7_assigned_46, j_X7_assigned_47, j_X7_assigned_48, j_X7_assigned_51, j_X7_assigned_53, j_X7_assigned_56, j_X7_assigned_57, j_X7_assigned_60, j_X7_assigned_61, j_X7_assigned_62, j_X7_assigned_63, j_X7_assigned_66, j_X7_assigned_67, j_X7_assigned_70, j_X7_assigned_71, j_X7_assigned_72, j_X7_assigned_73, j_X7_assigned_76, j_X7_assigned_77, j_X7_assigned_78, j_X7_assigned_81, j_X7_assigned_82, j_X7_assigned_83, j_X7_assigned_84, j_X7_assigned_87, j_X7_assigned_88, j_X7_assigned_91, j_X7_assigned_92, en_c2I, en_c2R, en_c2U, en_c2D, Option.some.injEq, exists_eq_left', exists_eq_left, Option.map_some, Option.map_none, not_true_eq_false, false_implies, true_implies, and_true, true_and, reduceCtorEq, not_false_eq_true]
  refine en_use (cu_X7_isElement (k := nI n) hR) ?_
  rintro v σ1 ⟨rfl, rfl⟩
  rw [st_ix_nI (by omega) hn]
  simp only [Option.map_some, Option.getD_some]
  cases hpa : tr_pa (sa_T A) n with
  | none =>
    have e : tr_as (sa_T A) n = none := by unfold tr_as; rw [hpa]
    rw [e] at hq
    rw [hpa] at r3
    have z1 : (-1 : Int32) < 0 := by decide
    by_cases hk : tr_kd (sa_T A) n ≤ 2
    · simp only [Option.toList, List.cons_append, List.nil_append, j_X7_assigned_0, j_X7_assigned_1, j_X7_assigned_2, j_X7_assigned_5, j_X7_assigned_8, j_X7_assigned_9, j_X7_assigned_12, j_X7_assigned_13, j_X7_assigned_14, j_X7_assigned_17, j_X7_assigned_18, j_X7_assigned_21, j_X7_assigned_22, j_X7_assigned_25, j_X7_assigned_26, j_X7_assigned_27, j_X7_assigned_28, j_X7_assigned_31, j_X7_assigned_32, j_X7_assigned_33, j_X7_assigned_34, j_X7_assigned_37, j_X7_assigned_38, j_X7_assigned_41, j_X7_assigned_42, j_X7_assigned_43, j_X7_assigned_44, j_X7_assigned_45, j_X7_assigned_46, j_X7_assigned_47, j_X7_assigned_48, j_X7_assigned_51, j_X7_assigned_53, j_X7_assigned_56, j_X7_assigned_57, j_X7_assigned_60, j_X7_assigned_61, j_X7_assigned_62, j_X7_assigned_63, j_X7_assigned_66, j_X7_assigned_67, j_X7_assigned_70, j_X7_assigned_71, j_X7_assigned_72, j_X7_assigned_73, j_X7_assigned_76, j_X7_assigned_77, j_X7_assigned_78, j_X7_assigned_81, j_X7_assigned_82, j_X7_assigned_83, j_X7_assigned_84, j_X7_assigned_87, j_X7_assigned_88, j_X7_assigned_91, j_X7_assigned_92, en_c2I, en_c2R, en_c2U, en_c2D, Option.some.injEq, exists_eq_left', exists_eq_left, Option.map_some, Option.map_none, not_true_eq_false, false_implies, true_implies, and_true, true_and, reduceCtorEq, not_false_eq_true, rs_c hS, rs_f704 hS, rs_a3 hS, rs_f705 hS, rs_a4 hS, rs_f702 hS, rs_a1 hS, rs_f703 hS, rs_a2 hS, Prod.mk.injEq, decide_eq_true hk, st_bt, i1, n3, n4, r3, st_num_none, z1]
      exact hq _ _ ⟨rfl, rfl⟩
    · simp only [Option.toList, List.cons_append, List.nil_append, j_X7_assigned_0, j_X7_assigned_1, j_X7_assigned_2, j_X7_assigned_5, j_X7_assigned_8, j_X7_assigned_9, j_X7_assigned_12, j_X7_assigned_13, j_X7_assigned_14, j_X7_assigned_17, j_X7_assigned_18, j_X7_assigned_21, j_X7_assigned_22, j_X7_assigned_25, j_X7_assigned_26, j_X7_assigned_27, j_X7_assigned_28, j_X7_assigned_31, j_X7_assigned_32, j_X7_assigned_33, j_X7_assigned_34, j_X7_assigned_37, j_X7_assigned_38, j_X7_assigned_41, j_X7_assigned_42, j_X7_assigned_43, j_X7_assigned_44, j_X7_assigned_45, j_X7_assigned_46, j_X7_assigned_47, j_X7_assigned_48, j_X7_assigned_51, j_X7_assigned_53, j_X7_assigned_56, j_X7_assigned_57, j_X7_assigned_60, j_X7_assigned_61, j_X7_assigned_62, j_X7_assigned_63, j_X7_assigned_66, j_X7_assigned_67, j_X7_assigned_70, j_X7_assigned_71, j_X7_assigned_72, j_X7_assigned_73, j_X7_assigned_76, j_X7_assigned_77, j_X7_assigned_78, j_X7_assigned_81, j_X7_assigned_82, j_X7_assigned_83, j_X7_assigned_84, j_X7_assigned_87, j_X7_assigned_88, j_X7_assigned_91, j_X7_assigned_92, en_c2I, en_c2R, en_c2U, en_c2D, Option.some.injEq, exists_eq_left', exists_eq_left, Option.map_some, Option.map_none, not_true_eq_false, false_implies, true_implies, and_true, true_and, reduceCtorEq, not_false_eq_true, decide_eq_false hk, st_bf]
      exact hq _ _ ⟨rfl, rfl⟩
  | some p =>
    have hel := (hw.2.1 n p hn hpa).2.2
    have hk := (tr_el_iff hw hn).mp hel
    have hpl := tr_pa_lt hw hn hpa
    rw [hpa] at r3
    have m3 : vp_in (nI p) 24 := vp_in_nI (by omega) (by decide)
    have m4 : (nI p).toNatClampNeg = p := nI_clamp (by omega)
    have z1 : ¬ nI p < 0 := nI_pos (by omega)
    have p4 := (hR.2.1 p hpl).2.2.2.1
    cases hs : tr_sh (sa_T A) p with
    | none =>
      have e : tr_as (sa_T A) n = none := by unfold tr_as; rw [hpa]; simp only; rw [hs]; rfl
      rw [e] at hq
      rw [hs] at p4
      have z2 : ¬ (0 : Int32) ≤ -1 := by decide
      simp only [Option.toList, List.cons_append, List.nil_append, j_X7_assigned_0, j_X7_assigned_1, j_X7_assigned_2, j_X7_assigned_5, j_X7_assigned_8, j_X7_assigned_9, j_X7_assigned_12, j_X7_assigned_13, j_X7_assigned_14, j_X7_assigned_17, j_X7_assigned_18, j_X7_assigned_21, j_X7_assigned_22, j_X7_assigned_25, j_X7_assigned_26, j_X7_assigned_27, j_X7_assigned_28, j_X7_assigned_31, j_X7_assigned_32, j_X7_assigned_33, j_X7_assigned_34, j_X7_assigned_37, j_X7_assigned_38, j_X7_assigned_41, j_X7_assigned_42, j_X7_assigned_43, j_X7_assigned_44, j_X7_assigned_45, j_X7_assigned_46, j_X7_assigned_47, j_X7_assigned_48, j_X7_assigned_51, j_X7_assigned_53, j_X7_assigned_56, j_X7_assigned_57, j_X7_assigned_60, j_X7_assigned_61, j_X7_assigned_62, j_X7_assigned_63, j_X7_assigned_66, j_X7_assigned_67, j_X7_assigned_70, j_X7_assigned_71, j_X7_assigned_72, j_X7_assigned_73, j_X7_assigned_76, j_X7_assigned_77, j_X7_assigned_78, j_X7_assigned_81, j_X7_assigned_82, j_X7_assigned_83, j_X7_assigned_84, j_X7_assigned_87, j_X7_assigned_88, j_X7_assigned_91, j_X7_assigned_92, en_c2I, en_c2R, en_c2U, en_c2D, Option.some.injEq, exists_eq_left', exists_eq_left, Option.map_some, Option.map_none, not_true_eq_false, false_implies, true_implies, and_true, true_and, reduceCtorEq, not_false_eq_true, rs_c hS, rs_f704 hS, rs_a3 hS, rs_f705 hS, rs_a4 hS, rs_f702 hS, rs_a1 hS, rs_f703 hS, rs_a2 hS, Prod.mk.injEq, decide_eq_true hk, st_bt, i1, n3, n4, r3, st_num_some, st_num_none, z1, m3, m4, p4, z2]
      exact hq _ _ ⟨rfl, rfl⟩
    | some t =>
      obtain ⟨t1, t2, t3⟩ := hw.2.2.2.2.2.1 p t hpl hs
      have tp := (od_sh hw t1 t2).1
      have tr := od_root_0 tp
      rw [hs] at p4
      have z2 : (0 : Int32) ≤ nI t := nI_pos' (by omega)
      have hk4 := (hw.2.2.2.2.1 t p t1 t2).2.2
      have e : tr_as (sa_T A) n = tr_asF (sa_T A) (tr_nm (sa_T A) n) 23 (tr_nto (sa_T A) t) := by
        unfold tr_as
        rw [hpa]
        simp only
        rw [hs]
        show (if tr_kd (sa_T A) t = 1 ∧ tr_nm (sa_T A) t = tr_nm (sa_T A) n then some t else _) = _
        rw [if_neg (fun z => by rw [hk4] at z; exact absurd z.1 (by decide))]
      rw [e] at hq
      simp only [Option.toList, List.cons_append, List.nil_append, j_X7_assigned_0, j_X7_assigned_1, j_X7_assigned_2, j_X7_assigned_5, j_X7_assigned_8, j_X7_assigned_9, j_X7_assigned_12, j_X7_assigned_13, j_X7_assigned_14, j_X7_assigned_17, j_X7_assigned_18, j_X7_assigned_21, j_X7_assigned_22, j_X7_assigned_25, j_X7_assigned_26, j_X7_assigned_27, j_X7_assigned_28, j_X7_assigned_31, j_X7_assigned_32, j_X7_assigned_33, j_X7_assigned_34, j_X7_assigned_37, j_X7_assigned_38, j_X7_assigned_41, j_X7_assigned_42, j_X7_assigned_43, j_X7_assigned_44, j_X7_assigned_45, j_X7_assigned_46, j_X7_assigned_47, j_X7_assigned_48, j_X7_assigned_51, j_X7_assigned_53, j_X7_assigned_56, j_X7_assigned_57, j_X7_assigned_60, j_X7_assigned_61, j_X7_assigned_62, j_X7_assigned_63, j_X7_assigned_66, j_X7_assigned_67, j_X7_assigned_70, j_X7_assigned_71, j_X7_assigned_72, j_X7_assigned_73, j_X7_assigned_76, j_X7_assigned_77, j_X7_assigned_78, j_X7_assigned_81, j_X7_assigned_82, j_X7_assigned_83, j_X7_assigned_84, j_X7_assigned_87, j_X7_assigned_88, j_X7_assigned_91, j_X7_assigned_92, en_c2I, en_c2R, en_c2U, en_c2D, Option.some.injEq, exists_eq_left', exists_eq_left, Option.map_some, Option.map_none, not_true_eq_false, false_implies, true_implies, and_true, true_and, reduceCtorEq, not_false_eq_true, rs_c hS, rs_f704 hS, rs_a3 hS, rs_f705 hS, rs_a4 hS, rs_f702 hS, rs_a1 hS, rs_f703 hS, rs_a2 hS, Prod.mk.injEq, decide_eq_true hk, st_bt, i1, n3, n4, r3, st_num_some, z1, m3, m4, p4, z2]
      refine en_use (cu_X7_following ⟨hR, t1, tr, tp⟩) ?_
      rintro v σ2 ⟨rfl, rfl⟩
      simp only [Option.toList, List.cons_append, List.nil_append, j_X7_assigned_0, j_X7_assigned_1, j_X7_assigned_2, j_X7_assigned_5, j_X7_assigned_8, j_X7_assigned_9, j_X7_assigned_12, j_X7_assigned_13, j_X7_assigned_14, j_X7_assigned_17, j_X7_assigned_18, j_X7_assigned_21, j_X7_assigned_22, j_X7_assigned_25, j_X7_assigned_26, j_X7_assigned_27, j_X7_assigned_28, j_X7_assigned_31, j_X7_assigned_32, j_X7_assigned_33, j_X7_assigned_34, j_X7_assigned_37, j_X7_assigned_38, j_X7_assigned_41, j_X7_assigned_42, j_X7_assigned_43, j_X7_assigned_44, j_X7_assigned_45, j_X7_assigned_46, j_X7_assigned_47, j_X7_assigned_48, j_X7_assigned_51, j_X7_assigned_53, j_X7_assigned_56, j_X7_assigned_57, j_X7_assigned_60, j_X7_assigned_61, j_X7_assigned_62, j_X7_assigned_63, j_X7_assigned_66, j_X7_assigned_67, j_X7_assigned_70, j_X7_assigned_71, j_X7_assigned_72, j_X7_assigned_73, j_X7_assigned_76, j_X7_assigned_77, j_X7_assigned_78, j_X7_assigned_81, j_X7_assigned_82, j_X7_assigned_83, j_X7_assigned_84, j_X7_assigned_87, j_X7_assigned_88, j_X7_assigned_91, j_X7_assigned_92, en_c2I, en_c2R, en_c2U, en_c2D, Option.some.injEq, exists_eq_left', exists_eq_left, Option.map_some, Option.map_none, not_true_eq_false, false_implies, true_implies, and_true, true_and, reduceCtorEq, not_false_eq_true]
      refine jw_X7_assigned (q := q) hR tp tr hn (r2 hel) 23 _ (fun x hx => ?_) (hq _ _ ⟨rfl, rfl⟩)
      obtain ⟨g1, g2, g3⟩ := od_nto_root hw t1 hx
      have := (tr_Pk_nto hw t1 hx).2
      have := tr_Pk_le hw t1
      exact ⟨g1, by rw [g2]; exact tr, g3, by omega⟩
theorem jp_X7_assigned {G : en_G}  : ∀ as σ, (C_X7_assigned G).1 as σ → (en_lc as).length ≤ 4 ∧ en_J (X_X7_assigned G (fun r σ' => (C_X7_assigned G).2 as σ r σ')) 0 (en_loc 4 as) [] σ := en_ghJ (fun g as σ h => by
  obtain ⟨hp, h2⟩ := h
  subst h2
  exact ⟨Nat.le_of_ble_eq_true rfl, jl_X7_assigned hp (fun _ _ h => h)⟩)
theorem wl_X7_assigned_171 : Jvm.Cond.methodLink RX7 171 yX7_isElement ∈ en_W := en_inW (List.mem_of_getElem? (i := 887) (by decide +kernel)) (by decide +kernel)
theorem wl_X7_assigned_185 : Jvm.Cond.methodLink RX7 185 yX7_following ∈ en_W := en_inW (List.mem_of_getElem? (i := 959) (by decide +kernel)) (by decide +kernel)
theorem ok_X7_assigned {G : en_G}  : en_Ok G 3 yX7_assigned cX7_assigned 4 (some .int) (C_X7_assigned G) :=
  en_met (own := RX7) (fl := en_lk fl7) (nw := en_lk nw7) (aw := en_lk aw7) (dc := en_lk dc7) (ca := en_lk (ca_X7_assigned G)) (rt := 1) (ini := false) (by decide +kernel) (Or.inr (Or.inl ⟨rfl, rfl⟩)) (fun h => by cases h) rfl (fun q => en_LkF fl7_ok nw7_ok aw7_ok dc7_ok) (by
    intro idx q hq
    have hm := en_lk_mem hq
    simp only [ca_X7_assigned, List.mem_cons, Prod.mk.injEq, List.not_mem_nil, or_false] at hm
    rcases hm with ⟨rfl, rfl⟩ | ⟨rfl, rfl⟩
    · exact en_clV (r := (RX7, TX7, 53)) 7 1 ok_X7_isElement (by decide) (by decide) rfl rfl pr_X7_isElement wl_X7_assigned_171 wi_X7_isElement wx_X7_isElement wz_7 wc_X7_isElement ⟨by decide +kernel, by decide +kernel, by decide +kernel⟩
    · exact en_clV (r := (RX7, TX7, 53)) 7 2 ok_X7_following (by decide) (by decide) rfl rfl pr_X7_following wl_X7_assigned_185 wi_X7_following wx_X7_following wz_7 wc_X7_following ⟨by decide +kernel, by decide +kernel, by decide +kernel⟩) jp_X7_assigned
