/-! THE REFERENCE sends: dispatch, pointer -/
theorem rx_bud {m : Nat} {A : st_A} {σ σ' : en_S} (h : RX m A σ) {n : Nat} (hn : n ≤ 120) (g : ag σ σ' (fun f _ => f ≠ 735) (fun _ => True)) (s : sz σ σ') : RX m (su_D A 0 2 n) σ' := by
  have h' : RX m A σ' := h.ag (g.mono (fun f a z => by unfold rxF at z; omega) (fun _ _ => trivial)) (s.fr (rs_fr h.1))
  obtain ⟨c, h1, h2, h3, h4, h5, h6, h7, h8, w⟩ := h'
  have e : ∀ f j, ¬ (f = 0 ∧ j = 2) → sa_D (su_D A 0 2 n) f j = sa_D A f j := fun f j hj => by rw [sa_D_D, if_neg hj]
  refine ⟨c, h1, h2, h3, h4, ?_, ?_, ?_, ?_, ?_⟩
  · refine ⟨fun k hk => ?_, fun k a b => ?_⟩
    · rw [e 0 0 (by omega)] at hk
      rw [e 1 k (by omega), e 3 k (by omega), e 2 k (by omega)]
      exact h5.1 k hk
    · rw [e 0 0 (by omega)] at a
      exact h5.2 k a b
  · intro s hs
    obtain ⟨q1, q2⟩ := h6 s hs
    refine ⟨by rw [e 4 s (by omega)]; exact q1, fun j hj => ?_⟩
    rw [e 5 _ (by omega)]
    exact q2 j hj
  · exact ⟨by rw [e 0 1 (by omega)]; exact h7.1, h7.2⟩
  · exact ⟨h8.1, by rw [e 0 0 (by omega)]; exact h8.2.1, h8.2.2⟩
  · obtain ⟨w1, w2, w3, w4, w5, w6, w7⟩ := w
    refine ⟨w1, by rw [e 0 0 (by omega)]; exact w2, fun k hk => ?_, fun s hs => by rw [e 4 s (by omega)]; exact w4 s hs, fun s j hs hj => ?_, by rw [sa_D_D, if_pos ⟨rfl, rfl⟩]; exact hn, w7⟩
    · rw [e 0 0 (by omega)] at hk
      rw [e 1 k (by omega), e 2 k (by omega), e 3 k (by omega)]
      exact w3 k hk
    · rw [e 4 s (by omega)] at hj
      rw [e 5 _ (by omega)]
      exact w5 s j hs hj
def op_dispatch (S : pb_S) (k ty fl : Int32) : pb_S × Int32 × Int32 := match st_ix (tr_N (sa_T S.1)) k with
  | none => (S, 1, 0)
  | some n => if 0 ≤ ty ∧ ty < 8 then (match st_ix 8 fl with
    | none => (S, 2, 0)
    | some f => (((ds_send 4 (su_D S.1 0 2 120) n ty f).1, S.2), 0, st_b (!((ds_send 4 (su_D S.1 0 2 120) n ty f).2.getD false)))) else (S, 2, 0)
theorem rz_sp {m : Nat} {S : pb_S} {σ σ' : en_S} (h : RZ m S σ) (hl : sa_D S.1 0 1 < 2 ^ 20) (g : ag σ σ' (fun f _ => f ≠ 735 ∧ f ≠ 700) (fun _ => True)) (s : sz σ σ') (h5 : en_fi σ' 735 m = 120) : SP m (su_D S.1 0 2 120) [] σ' := by
  have x := rs_nx h.1.1
  have hR : RX m (su_D S.1 0 2 120) σ' := by
    have := rx_bud h.1 (n := 120) (Nat.le_refl _) (σ' := σ) ag.rf sz.rf
    exact this.ag (g.mono (fun f a z => by unfold rxF at z; omega) (fun _ _ => trivial)) (s.fr (rs_fr h.1.1))
  refine ⟨hR, ?_, ?_, by simp, ?_, trivial⟩
  · rw [h5, sa_D_D, if_pos ⟨rfl, rfl⟩]; decide +kernel
  · rw [((g.2 m (by omega)).2.2.1 736 ⟨by decide, by decide⟩).1]; exact h.2.2.2.2.1
  · rw [sa_D_D, if_neg (by omega), sa_D_D, if_pos ⟨rfl, rfl⟩]; omega
theorem sp_rz {m : Nat} {A' : st_A} {ov pr : Option Nat} {dn : Bool} {σ : en_S} (h : SP m A' [] σ) (h1 : en_fi σ 729 m = st_num ov) (h2 : en_fi σ 730 m = st_num pr) (h3 : en_fi σ 731 m = st_b dn) (n1 : ∀ n, ov = some n → n < tr_N (sa_T A')) (n2 : ∀ n, pr = some n → n < tr_N (sa_T A')) : RZ m (A', ov, pr, dn) σ := ⟨h.1, h1, h2, h3, h.2.2.1, n1, n2⟩
theorem st_num_inj {a b : Option Nat} (ha : ∀ n, a = some n → n < 24) (hb : ∀ n, b = some n → n < 24) : st_num a = st_num b ↔ a = b := by
  constructor
  · intro h
    cases a with
    | none =>
      cases b with
      | none => rfl
      | some n =>
        have hn := hb n rfl
        have z1 := nI_pos (n := n) (by omega)
        rw [← show st_num (some n) = nI n from rfl, ← h] at z1
        exact absurd (by decide : (-1 : Int32) < 0) z1
    | some k =>
      have hk := ha k rfl
      cases b with
      | none =>
        have z1 := nI_pos (n := k) (by omega)
        rw [← show st_num (some k) = nI k from rfl, h] at z1
        exact absurd (by decide : (-1 : Int32) < 0) z1
      | some n =>
        have hn := hb n rfl
        rw [nI_inj (by omega) (by omega) h]
  · intro h; rw [h]
def P_X7_dispatch (G : en_G)  (g : (Nat) × (pb_S) × (Int32) × (Int32) × (Int32)) (as : List en_V) (σ : en_S) : Prop := (RZ (g.1) (g.2.1) σ ∧ sa_D (g.2.1).1 0 1 < 2 ^ 20) ∧ as = [en_R (some (g.1)), en_I (g.2.2.1), en_I (g.2.2.2.1), en_I (g.2.2.2.2)]
def C_X7_dispatch (G : en_G)  : en_C := en_gh (P_X7_dispatch G) (fun g as σ v σ' => RZ (g.1) (op_dispatch (g.2.1) (g.2.2.1) (g.2.2.2.1) (g.2.2.2.2)).1 σ' ∧ ag σ σ' rF (rV (g.1)) ∧ sz σ σ' ∧ en_fi σ' 700 (g.1) = (op_dispatch (g.2.1) (g.2.2.1) (g.2.2.2.1) (g.2.2.2.2)).2.1 ∧ v = some (en_I (op_dispatch (g.2.1) (g.2.2.1) (g.2.2.2.1) (g.2.2.2.2)).2.2))
theorem pr_X7_dispatch {G : en_G}  : ∀ as σ, (C_X7_dispatch G).1 as σ → ∃ b tl, as = en_R (some b) :: tl ∧ en_cl σ b = some 7 ∧ tl.length = 3 := fun as σ ⟨g, hp, h2⟩ => ⟨_, _, h2, rs_c hp.1.1.1, rfl⟩
theorem cu_X7_dispatch {G : en_G}  {m : Nat} {S : pb_S} {k : Int32} {ty : Int32} {fl : Int32} {σ : en_S} (hp : RZ m S σ ∧ sa_D S.1 0 1 < 2 ^ 20) : en_Us (C_X7_dispatch G) [en_R (some m), en_I k, en_I ty, en_I fl] σ (fun v σ' => RZ m (op_dispatch S k ty fl).1 σ' ∧ ag σ σ' rF (rV m) ∧ sz σ σ' ∧ en_fi σ' 700 m = (op_dispatch S k ty fl).2.1 ∧ v = some (en_I (op_dispatch S k ty fl).2.2)) := ⟨⟨(m, S, k, ty, fl), hp, rfl⟩, fun v σ' q => q (m, S, k, ty, fl) ⟨hp, rfl⟩⟩
def ca_X7_dispatch (G : en_G) : List (Nat × Nat × en_C) := [(148, 9, (C_X7_isNode G)), (152, 12, (C_X7_in G)), (246, 17, (C_X7_send G))]
def X_X7_dispatch (G : en_G) (q : Option en_V → en_S → Prop) : en_X := en_mk G cX7_dispatch (en_lk fl7) (en_lk nw7) (en_lk aw7) (en_lk dc7) (en_lk (ca_X7_dispatch G)) 2 false q
theorem d_X7_dispatch_0 : decode cX7_dispatch 0 = .ok (.aload_n 0, 1) := by decide +kernel
theorem j_X7_dispatch_0 {G : en_G} {q : Option en_V → en_S → Prop}  {l1 l2 l3 : en_V} {x0 : Option Nat} {σ : en_S} : en_J (X_X7_dispatch G q) 0 [en_R x0, l1, l2, l3] [] σ ↔ en_J (X_X7_dispatch G q) 1 [en_R x0, l1, l2, l3] [en_R x0] σ := en_j1 d_X7_dispatch_0 rfl rfl
theorem d_X7_dispatch_1 : decode cX7_dispatch 1 = .ok (.aload_n 0, 1) := by decide +kernel
theorem j_X7_dispatch_1 {G : en_G} {q : Option en_V → en_S → Prop}  {l1 l2 l3 : en_V} {a0 : Option Nat} {x0 : Option Nat} {σ : en_S} : en_J (X_X7_dispatch G q) 1 [en_R x0, l1, l2, l3] [en_R a0] σ ↔ en_J (X_X7_dispatch G q) 2 [en_R x0, l1, l2, l3] [en_R x0, en_R a0] σ := en_j1 d_X7_dispatch_1 rfl rfl
theorem d_X7_dispatch_2 : decode cX7_dispatch 2 = .ok (.iload_n 1, 1) := by decide +kernel
theorem j_X7_dispatch_2 {G : en_G} {q : Option en_V → en_S → Prop}  {l0 l2 l3 : en_V} {a0 : Option Nat} {a1 : Option Nat} {x1 : Int32} {σ : en_S} : en_J (X_X7_dispatch G q) 2 [l0, en_I x1, l2, l3] [en_R a0, en_R a1] σ ↔ en_J (X_X7_dispatch G q) 3 [l0, en_I x1, l2, l3] [en_I x1, en_R a0, en_R a1] σ := en_j1 d_X7_dispatch_2 rfl rfl
theorem d_X7_dispatch_3 : decode cX7_dispatch 3 = .ok (.invokevirtual 148, 3) := by decide +kernel
theorem j_X7_dispatch_3 {G : en_G} {q : Option en_V → en_S → Prop}  {l0 l1 l2 l3 : en_V} {a0 : Int32} {a1 : Option Nat} {a2 : Option Nat} {σ : en_S} : en_J (X_X7_dispatch G q) 3 [l0, l1, l2, l3] [en_I a0, en_R a1, en_R a2] σ ↔ (C_X7_isNode G).1 [en_R a1, en_I a0] σ ∧ ∀ (r : Option en_V) (σ' : en_S), (C_X7_isNode G).2 [en_R a1, en_I a0] σ r σ' → en_J (X_X7_dispatch G q) 6 [l0, l1, l2, l3] (r.toList ++ [en_R a2]) σ' := en_jkC (C := (C_X7_isNode G)) (n' := 2) (k := 1) (idx := 148) d_X7_dispatch_3 rfl rfl (by decide) (Nat.le_of_ble_eq_true rfl) (Nat.le_of_ble_eq_true rfl)
theorem d_X7_dispatch_6 : decode cX7_dispatch 6 = .ok (.ifCond .ne 7, 3) := by decide +kernel
theorem j_X7_dispatch_6 {G : en_G} {q : Option en_V → en_S → Prop}  {l0 l1 l2 l3 : en_V} {a0 : Int32} {a1 : Option Nat} {σ : en_S} : en_J (X_X7_dispatch G q) 6 [l0, l1, l2, l3] [en_I a0, en_R a1] σ ↔ (¬ a0 = 0 → en_J (X_X7_dispatch G q) 13 [l0, l1, l2, l3] [en_R a1] σ) ∧ (¬ (¬ a0 = 0) → en_J (X_X7_dispatch G q) 9 [l0, l1, l2, l3] [en_R a1] σ) := en_jb d_X7_dispatch_6 rfl ⟨rfl, by decide⟩
theorem d_X7_dispatch_9 : decode cX7_dispatch 9 = .ok (.iconst 1, 1) := by decide +kernel
theorem j_X7_dispatch_9 {G : en_G} {q : Option en_V → en_S → Prop}  {l0 l1 l2 l3 : en_V} {a0 : Option Nat} {σ : en_S} : en_J (X_X7_dispatch G q) 9 [l0, l1, l2, l3] [en_R a0] σ ↔ en_J (X_X7_dispatch G q) 10 [l0, l1, l2, l3] [en_I 1, en_R a0] σ := ej_iconst d_X7_dispatch_9 (by decide +kernel)
theorem d_X7_dispatch_10 : decode cX7_dispatch 10 = .ok (.goto 28, 3) := by decide +kernel
theorem j_X7_dispatch_10 {G : en_G} {q : Option en_V → en_S → Prop}  {l0 l1 l2 l3 : en_V} {a0 : Int32} {a1 : Option Nat} {σ : en_S} : en_J (X_X7_dispatch G q) 10 [l0, l1, l2, l3] [en_I a0, en_R a1] σ ↔ en_J (X_X7_dispatch G q) 38 [l0, l1, l2, l3] [en_I a0, en_R a1] σ := en_j1 d_X7_dispatch_10 rfl ⟨rfl, by decide⟩
theorem d_X7_dispatch_13 : decode cX7_dispatch 13 = .ok (.iload_n 2, 1) := by decide +kernel
theorem j_X7_dispatch_13 {G : en_G} {q : Option en_V → en_S → Prop}  {l0 l1 l3 : en_V} {a0 : Option Nat} {x2 : Int32} {σ : en_S} : en_J (X_X7_dispatch G q) 13 [l0, l1, en_I x2, l3] [en_R a0] σ ↔ en_J (X_X7_dispatch G q) 14 [l0, l1, en_I x2, l3] [en_I x2, en_R a0] σ := en_j1 d_X7_dispatch_13 rfl rfl
theorem d_X7_dispatch_14 : decode cX7_dispatch 14 = .ok (.iconst 0, 1) := by decide +kernel
theorem j_X7_dispatch_14 {G : en_G} {q : Option en_V → en_S → Prop}  {l0 l1 l2 l3 : en_V} {a0 : Int32} {a1 : Option Nat} {σ : en_S} : en_J (X_X7_dispatch G q) 14 [l0, l1, l2, l3] [en_I a0, en_R a1] σ ↔ en_J (X_X7_dispatch G q) 15 [l0, l1, l2, l3] [en_I 0, en_I a0, en_R a1] σ := ej_iconst d_X7_dispatch_14 (by decide +kernel)
theorem d_X7_dispatch_15 : decode cX7_dispatch 15 = .ok (.bipush 7, 2) := by decide +kernel
theorem j_X7_dispatch_15 {G : en_G} {q : Option en_V → en_S → Prop}  {l0 l1 l2 l3 : en_V} {a0 : Int32} {a1 : Int32} {a2 : Option Nat} {σ : en_S} : en_J (X_X7_dispatch G q) 15 [l0, l1, l2, l3] [en_I a0, en_I a1, en_R a2] σ ↔ en_J (X_X7_dispatch G q) 17 [l0, l1, l2, l3] [en_I 7, en_I a0, en_I a1, en_R a2] σ := ej_bipush d_X7_dispatch_15 (by decide +kernel)
theorem d_X7_dispatch_17 : decode cX7_dispatch 17 = .ok (.invokestatic 152, 3) := by decide +kernel
theorem j_X7_dispatch_17 {G : en_G} {q : Option en_V → en_S → Prop}  {l0 l1 l2 l3 : en_V} {a0 : Int32} {a1 : Int32} {a2 : Int32} {a3 : Option Nat} {σ : en_S} : en_J (X_X7_dispatch G q) 17 [l0, l1, l2, l3] [en_I a0, en_I a1, en_I a2, en_R a3] σ ↔ (C_X7_in G).1 [en_I a2, en_I a1, en_I a0] σ ∧ ∀ (r : Option en_V) (σ' : en_S), (C_X7_in G).2 [en_I a2, en_I a1, en_I a0] σ r σ' → en_J (X_X7_dispatch G q) 20 [l0, l1, l2, l3] (r.toList ++ [en_R a3]) σ' := en_jkC (C := (C_X7_in G)) (n' := 3) (k := 0) (idx := 152) d_X7_dispatch_17 rfl rfl (by decide) (Nat.le_of_ble_eq_true rfl) (Nat.le_of_ble_eq_true rfl)
theorem d_X7_dispatch_20 : decode cX7_dispatch 20 = .ok (.ifCond .eq 13, 3) := by decide +kernel
theorem j_X7_dispatch_20 {G : en_G} {q : Option en_V → en_S → Prop}  {l0 l1 l2 l3 : en_V} {a0 : Int32} {a1 : Option Nat} {σ : en_S} : en_J (X_X7_dispatch G q) 20 [l0, l1, l2, l3] [en_I a0, en_R a1] σ ↔ (a0 = 0 → en_J (X_X7_dispatch G q) 33 [l0, l1, l2, l3] [en_R a1] σ) ∧ (¬ (a0 = 0) → en_J (X_X7_dispatch G q) 23 [l0, l1, l2, l3] [en_R a1] σ) := en_jb d_X7_dispatch_20 rfl ⟨rfl, by decide⟩
theorem d_X7_dispatch_23 : decode cX7_dispatch 23 = .ok (.iload_n 3, 1) := by decide +kernel
theorem j_X7_dispatch_23 {G : en_G} {q : Option en_V → en_S → Prop}  {l0 l1 l2 : en_V} {a0 : Option Nat} {x3 : Int32} {σ : en_S} : en_J (X_X7_dispatch G q) 23 [l0, l1, l2, en_I x3] [en_R a0] σ ↔ en_J (X_X7_dispatch G q) 24 [l0, l1, l2, en_I x3] [en_I x3, en_R a0] σ := en_j1 d_X7_dispatch_23 rfl rfl
theorem d_X7_dispatch_24 : decode cX7_dispatch 24 = .ok (.iconst 0, 1) := by decide +kernel
theorem j_X7_dispatch_24 {G : en_G} {q : Option en_V → en_S → Prop}  {l0 l1 l2 l3 : en_V} {a0 : Int32} {a1 : Option Nat} {σ : en_S} : en_J (X_X7_dispatch G q) 24 [l0, l1, l2, l3] [en_I a0, en_R a1] σ ↔ en_J (X_X7_dispatch G q) 25 [l0, l1, l2, l3] [en_I 0, en_I a0, en_R a1] σ := ej_iconst d_X7_dispatch_24 (by decide +kernel)
theorem d_X7_dispatch_25 : decode cX7_dispatch 25 = .ok (.bipush 7, 2) := by decide +kernel
theorem j_X7_dispatch_25 {G : en_G} {q : Option en_V → en_S → Prop}  {l0 l1 l2 l3 : en_V} {a0 : Int32} {a1 : Int32} {a2 : Option Nat} {σ : en_S} : en_J (X_X7_dispatch G q) 25 [l0, l1, l2, l3] [en_I a0, en_I a1, en_R a2] σ ↔ en_J (X_X7_dispatch G q) 27 [l0, l1, l2, l3] [en_I 7, en_I a0, en_I a1, en_R a2] σ := ej_bipush d_X7_dispatch_25 (by decide +kernel)
theorem d_X7_dispatch_27 : decode cX7_dispatch 27 = .ok (.invokestatic 152, 3) := by decide +kernel
theorem j_X7_dispatch_27 {G : en_G} {q : Option en_V → en_S → Prop}  {l0 l1 l2 l3 : en_V} {a0 : Int32} {a1 : Int32} {a2 : Int32} {a3 : Option Nat} {σ : en_S} : en_J (X_X7_dispatch G q) 27 [l0, l1, l2, l3] [en_I a0, en_I a1, en_I a2, en_R a3] σ ↔ (C_X7_in G).1 [en_I a2, en_I a1, en_I a0] σ ∧ ∀ (r : Option en_V) (σ' : en_S), (C_X7_in G).2 [en_I a2, en_I a1, en_I a0] σ r σ' → en_J (X_X7_dispatch G q) 30 [l0, l1, l2, l3] (r.toList ++ [en_R a3]) σ' := en_jkC (C := (C_X7_in G)) (n' := 3) (k := 0) (idx := 152) d_X7_dispatch_27 rfl rfl (by decide) (Nat.le_of_ble_eq_true rfl) (Nat.le_of_ble_eq_true rfl)
theorem d_X7_dispatch_30 : decode cX7_dispatch 30 = .ok (.ifCond .ne 7, 3) := by decide +kernel
theorem j_X7_dispatch_30 {G : en_G} {q : Option en_V → en_S → Prop}  {l0 l1 l2 l3 : en_V} {a0 : Int32} {a1 : Option Nat} {σ : en_S} : en_J (X_X7_dispatch G q) 30 [l0, l1, l2, l3] [en_I a0, en_R a1] σ ↔ (¬ a0 = 0 → en_J (X_X7_dispatch G q) 37 [l0, l1, l2, l3] [en_R a1] σ) ∧ (¬ (¬ a0 = 0) → en_J (X_X7_dispatch G q) 33 [l0, l1, l2, l3] [en_R a1] σ) := en_jb d_X7_dispatch_30 rfl ⟨rfl, by decide⟩
theorem d_X7_dispatch_33 : decode cX7_dispatch 33 = .ok (.iconst 2, 1) := by decide +kernel
theorem j_X7_dispatch_33 {G : en_G} {q : Option en_V → en_S → Prop}  {l0 l1 l2 l3 : en_V} {a0 : Option Nat} {σ : en_S} : en_J (X_X7_dispatch G q) 33 [l0, l1, l2, l3] [en_R a0] σ ↔ en_J (X_X7_dispatch G q) 34 [l0, l1, l2, l3] [en_I 2, en_R a0] σ := ej_iconst d_X7_dispatch_33 (by decide +kernel)
theorem d_X7_dispatch_34 : decode cX7_dispatch 34 = .ok (.goto 4, 3) := by decide +kernel
theorem j_X7_dispatch_34 {G : en_G} {q : Option en_V → en_S → Prop}  {l0 l1 l2 l3 : en_V} {a0 : Int32} {a1 : Option Nat} {σ : en_S} : en_J (X_X7_dispatch G q) 34 [l0, l1, l2, l3] [en_I a0, en_R a1] σ ↔ en_J (X_X7_dispatch G q) 38 [l0, l1, l2, l3] [en_I a0, en_R a1] σ := en_j1 d_X7_dispatch_34 rfl ⟨rfl, by decide⟩
theorem d_X7_dispatch_37 : decode cX7_dispatch 37 = .ok (.iconst 0, 1) := by decide +kernel
theorem j_X7_dispatch_37 {G : en_G} {q : Option en_V → en_S → Prop}  {l0 l1 l2 l3 : en_V} {a0 : Option Nat} {σ : en_S} : en_J (X_X7_dispatch G q) 37 [l0, l1, l2, l3] [en_R a0] σ ↔ en_J (X_X7_dispatch G q) 38 [l0, l1, l2, l3] [en_I 0, en_R a0] σ := ej_iconst d_X7_dispatch_37 (by decide +kernel)
theorem d_X7_dispatch_38 : decode cX7_dispatch 38 = .ok (.putfield 145, 3) := by decide +kernel
theorem j_X7_dispatch_38 {G : en_G} {q : Option en_V → en_S → Prop}  {l0 l1 l2 l3 : en_V} {a0 : Int32} {a1 : Option Nat} {σ : en_S} : en_J (X_X7_dispatch G q) 38 [l0, l1, l2, l3] [en_I a0, en_R a1] σ ↔ ∃ a, a1 = some a ∧ en_cl σ a = some 7 ∧ en_J (X_X7_dispatch G q) 41 [l0, l1, l2, l3] [] (en_sfi σ 700 a a0) := en_jg (st := fun o => [en_I a0, en_R o]) (st' := fun _ => []) (σ' := fun a => en_sfi σ 700 a a0) d_X7_dispatch_38 rfl (fun a => rfl) (fun a => ⟨fun h => h.2.1, fun h => ⟨rfl, h, trivial, fun z => absurd z (by decide +kernel)⟩⟩)
theorem d_X7_dispatch_41 : decode cX7_dispatch 41 = .ok (.aload_n 0, 1) := by decide +kernel
theorem j_X7_dispatch_41 {G : en_G} {q : Option en_V → en_S → Prop}  {l1 l2 l3 : en_V} {x0 : Option Nat} {σ : en_S} : en_J (X_X7_dispatch G q) 41 [en_R x0, l1, l2, l3] [] σ ↔ en_J (X_X7_dispatch G q) 42 [en_R x0, l1, l2, l3] [en_R x0] σ := en_j1 d_X7_dispatch_41 rfl rfl
theorem d_X7_dispatch_42 : decode cX7_dispatch 42 = .ok (.getfield 145, 3) := by decide +kernel
theorem j_X7_dispatch_42 {G : en_G} {q : Option en_V → en_S → Prop}  {l0 l1 l2 l3 : en_V} {a0 : Option Nat} {σ : en_S} : en_J (X_X7_dispatch G q) 42 [l0, l1, l2, l3] [en_R a0] σ ↔ ∃ a, a0 = some a ∧ en_cl σ a = some 7 ∧ en_J (X_X7_dispatch G q) 45 [l0, l1, l2, l3] [en_I (en_fi σ 700 a)] σ := en_jg (st := fun o => [en_R o]) (st' := fun a => [en_I (en_fi σ 700 a)]) (σ' := fun _ => σ) d_X7_dispatch_42 rfl (fun a => rfl) (fun a => ⟨fun h => h.2, fun h => ⟨rfl, h⟩⟩)
theorem d_X7_dispatch_45 : decode cX7_dispatch 45 = .ok (.ifCond .le 5, 3) := by decide +kernel
theorem j_X7_dispatch_45 {G : en_G} {q : Option en_V → en_S → Prop}  {l0 l1 l2 l3 : en_V} {a0 : Int32} {σ : en_S} : en_J (X_X7_dispatch G q) 45 [l0, l1, l2, l3] [en_I a0] σ ↔ (a0 ≤ 0 → en_J (X_X7_dispatch G q) 50 [l0, l1, l2, l3] [] σ) ∧ (¬ (a0 ≤ 0) → en_J (X_X7_dispatch G q) 48 [l0, l1, l2, l3] [] σ) := en_jb d_X7_dispatch_45 rfl ⟨rfl, by decide⟩
theorem d_X7_dispatch_48 : decode cX7_dispatch 48 = .ok (.iconst 0, 1) := by decide +kernel
theorem j_X7_dispatch_48 {G : en_G} {q : Option en_V → en_S → Prop}  {l0 l1 l2 l3 : en_V}  {σ : en_S} : en_J (X_X7_dispatch G q) 48 [l0, l1, l2, l3] [] σ ↔ en_J (X_X7_dispatch G q) 49 [l0, l1, l2, l3] [en_I 0] σ := ej_iconst d_X7_dispatch_48 (by decide +kernel)
theorem d_X7_dispatch_49 : decode cX7_dispatch 49 = .ok (.ireturn, 1) := by decide +kernel
theorem j_X7_dispatch_49 {G : en_G} {q : Option en_V → en_S → Prop}  {l0 l1 l2 l3 : en_V} {a0 : Int32} {σ : en_S} : en_J (X_X7_dispatch G q) 49 [l0, l1, l2, l3] [en_I a0] σ ↔ (a0 = 0 ∨ a0 = 1) ∧ q (some (en_I a0)) σ := en_jr d_X7_dispatch_49 rfl ⟨fun h => ⟨h.2.1.elim (fun z => absurd (show (2 : Nat) = 1 from z) (by decide)) (fun z => z.2), h.2.2⟩, fun h => ⟨rfl, Or.inr ⟨rfl, h.1⟩, h.2⟩⟩
theorem d_X7_dispatch_50 : decode cX7_dispatch 50 = .ok (.aload_n 0, 1) := by decide +kernel
theorem j_X7_dispatch_50 {G : en_G} {q : Option en_V → en_S → Prop}  {l1 l2 l3 : en_V} {x0 : Option Nat} {σ : en_S} : en_J (X_X7_dispatch G q) 50 [en_R x0, l1, l2, l3] [] σ ↔ en_J (X_X7_dispatch G q) 51 [en_R x0, l1, l2, l3] [en_R x0] σ := en_j1 d_X7_dispatch_50 rfl rfl
theorem d_X7_dispatch_51 : decode cX7_dispatch 51 = .ok (.bipush 120, 2) := by decide +kernel
theorem j_X7_dispatch_51 {G : en_G} {q : Option en_V → en_S → Prop}  {l0 l1 l2 l3 : en_V} {a0 : Option Nat} {σ : en_S} : en_J (X_X7_dispatch G q) 51 [l0, l1, l2, l3] [en_R a0] σ ↔ en_J (X_X7_dispatch G q) 53 [l0, l1, l2, l3] [en_I 120, en_R a0] σ := ej_bipush d_X7_dispatch_51 (by decide +kernel)
theorem d_X7_dispatch_53 : decode cX7_dispatch 53 = .ok (.putfield 218, 3) := by decide +kernel
theorem j_X7_dispatch_53 {G : en_G} {q : Option en_V → en_S → Prop}  {l0 l1 l2 l3 : en_V} {a0 : Int32} {a1 : Option Nat} {σ : en_S} : en_J (X_X7_dispatch G q) 53 [l0, l1, l2, l3] [en_I a0, en_R a1] σ ↔ ∃ a, a1 = some a ∧ en_cl σ a = some 7 ∧ en_J (X_X7_dispatch G q) 56 [l0, l1, l2, l3] [] (en_sfi σ 735 a a0) := en_jg (st := fun o => [en_I a0, en_R o]) (st' := fun _ => []) (σ' := fun a => en_sfi σ 735 a a0) d_X7_dispatch_53 rfl (fun a => rfl) (fun a => ⟨fun h => h.2.1, fun h => ⟨rfl, h, trivial, fun z => absurd z (by decide +kernel)⟩⟩)
theorem d_X7_dispatch_56 : decode cX7_dispatch 56 = .ok (.aload_n 0, 1) := by decide +kernel
theorem j_X7_dispatch_56 {G : en_G} {q : Option en_V → en_S → Prop}  {l1 l2 l3 : en_V} {x0 : Option Nat} {σ : en_S} : en_J (X_X7_dispatch G q) 56 [en_R x0, l1, l2, l3] [] σ ↔ en_J (X_X7_dispatch G q) 57 [en_R x0, l1, l2, l3] [en_R x0] σ := en_j1 d_X7_dispatch_56 rfl rfl
theorem d_X7_dispatch_57 : decode cX7_dispatch 57 = .ok (.iload_n 1, 1) := by decide +kernel
theorem j_X7_dispatch_57 {G : en_G} {q : Option en_V → en_S → Prop}  {l0 l2 l3 : en_V} {a0 : Option Nat} {x1 : Int32} {σ : en_S} : en_J (X_X7_dispatch G q) 57 [l0, en_I x1, l2, l3] [en_R a0] σ ↔ en_J (X_X7_dispatch G q) 58 [l0, en_I x1, l2, l3] [en_I x1, en_R a0] σ := en_j1 d_X7_dispatch_57 rfl rfl
theorem d_X7_dispatch_58 : decode cX7_dispatch 58 = .ok (.iload_n 2, 1) := by decide +kernel
theorem j_X7_dispatch_58 {G : en_G} {q : Option en_V → en_S → Prop}  {l0 l1 l3 : en_V} {a0 : Int32} {a1 : Option Nat} {x2 : Int32} {σ : en_S} : en_J (X_X7_dispatch G q) 58 [l0, l1, en_I x2, l3] [en_I a0, en_R a1] σ ↔ en_J (X_X7_dispatch G q) 59 [l0, l1, en_I x2, l3] [en_I x2, en_I a0, en_R a1] σ := en_j1 d_X7_dispatch_58 rfl rfl
theorem d_X7_dispatch_59 : decode cX7_dispatch 59 = .ok (.iload_n 3, 1) := by decide +kernel
theorem j_X7_dispatch_59 {G : en_G} {q : Option en_V → en_S → Prop}  {l0 l1 l2 : en_V} {a0 : Int32} {a1 : Int32} {a2 : Option Nat} {x3 : Int32} {σ : en_S} : en_J (X_X7_dispatch G q) 59 [l0, l1, l2, en_I x3] [en_I a0, en_I a1, en_R a2] σ ↔ en_J (X_X7_dispatch G q) 60 [l0, l1, l2, en_I x3] [en_I x3, en_I a0, en_I a1, en_R a2] σ := en_j1 d_X7_dispatch_59 rfl rfl
theorem d_X7_dispatch_60 : decode cX7_dispatch 60 = .ok (.invokevirtual 246, 3) := by decide +kernel
theorem j_X7_dispatch_60 {G : en_G} {q : Option en_V → en_S → Prop}  {l0 l1 l2 l3 : en_V} {a0 : Int32} {a1 : Int32} {a2 : Int32} {a3 : Option Nat} {σ : en_S} : en_J (X_X7_dispatch G q) 60 [l0, l1, l2, l3] [en_I a0, en_I a1, en_I a2, en_R a3] σ ↔ (C_X7_send G).1 [en_R a3, en_I a2, en_I a1, en_I a0] σ ∧ ∀ (r : Option en_V) (σ' : en_S), (C_X7_send G).2 [en_R a3, en_I a2, en_I a1, en_I a0] σ r σ' → en_J (X_X7_dispatch G q) 63 [l0, l1, l2, l3] (r.toList ++ []) σ' := en_jkC (C := (C_X7_send G)) (n' := 4) (k := 1) (idx := 246) d_X7_dispatch_60 rfl rfl (by decide) (Nat.le_of_ble_eq_true rfl) (Nat.le_of_ble_eq_true rfl)
theorem d_X7_dispatch_63 : decode cX7_dispatch 63 = .ok (.ireturn, 1) := by decide +kernel
theorem j_X7_dispatch_63 {G : en_G} {q : Option en_V → en_S → Prop}  {l0 l1 l2 l3 : en_V} {a0 : Int32} {σ : en_S} : en_J (X_X7_dispatch G q) 63 [l0, l1, l2, l3] [en_I a0] σ ↔ (a0 = 0 ∨ a0 = 1) ∧ q (some (en_I a0)) σ := en_jr d_X7_dispatch_63 rfl ⟨fun h => ⟨h.2.1.elim (fun z => absurd (show (2 : Nat) = 1 from z) (by decide)) (fun z => z.2), h.2.2⟩, fun h => ⟨rfl, Or.inr ⟨rfl, h.1⟩, h.2⟩⟩
theorem wc_X7_dispatch : Jvm.Cond.code yX7_dispatch cX7_dispatch 4 (some .boolean) ∈ en_W := en_inW (List.mem_of_getElem? (i := 938) (by decide +kernel)) (by decide +kernel)
theorem wi_X7_dispatch : Jvm.Cond.instanceMethod yX7_dispatch ∈ en_W := en_inW (List.mem_of_getElem? (i := 936) (by decide +kernel)) (by decide +kernel)
theorem wx_X7_dispatch : Jvm.Cond.selects RX7 yX7_dispatch yX7_dispatch ∈ en_W := en_inW (List.mem_of_getElem? (i := 937) (by decide +kernel)) (by decide +kernel)
theorem jl_X7_dispatch {G : en_G}  {m : Nat} {S : pb_S} {k : Int32} {ty : Int32} {fl : Int32} {q : Option en_V → en_S → Prop} {σ : en_S} (hp : RZ m S σ ∧ sa_D S.1 0 1 < 2 ^ 20) (hq : ∀ v σ', (RZ m (op_dispatch S k ty fl).1 σ' ∧ ag σ σ' rF (rV m) ∧ sz σ σ' ∧ en_fi σ' 700 m = (op_dispatch S k ty fl).2.1 ∧ v = some (en_I (op_dispatch S k ty fl).2.2)) → q v σ') : en_J (X_X7_dispatch G q) 0 [en_R (some m), en_I k, en_I ty, en_I fl] [] σ := by
  obtain ⟨hp, hlg⟩ := hp
  have hR := hp.1
  have hS := hR.1
  have w := hR.2.2.2.2.2.2.2.2.2
  have hN := w.1.1.2
  have x := rs_nx hS
  have i1 : ¬ (1 : Int32) = 0 := by decide
  have i2 : ¬ (1 : Int32) ≤ 0 := by decide
  have i3 : ¬ (2 : Int32) ≤ 0 := by decide
  have i4 : (0 : Int32) ≤ 0 := by decide
  have fin : ∀ t : Int32, op_dispatch S k ty fl = (S, t, 0) → q (some (en_I 0)) (en_sfi σ 700 m t) := fun t hop => hq _ _ ⟨by rw [hop]; exact rz_700 hp t, rz_pre hp t, ⟨rfl, rfl, rfl, rfl⟩, by rw [hop, eg_fi_sfi, if_pos ⟨rfl, rfl⟩], by rw [hop]⟩
  simp only [j_X7_dispatch_0, j_X7_dispatch_1, j_X7_dispatch_2, j_X7_dispatch_3, j_X7_dispatch_6, j_X7_dispatch_9, j_X7_dispatch_10, j_X7_dispatch_13, j_X7_dispatch_14, j_X7_dispatch_15, j_X7_dispatch_17, j_X7_dispatch_20, j_X7_dispatch_23, j_X7_dispatch_24, j_X7_dispatch_25, j_X7_dispatch_27, j_X7_dispatch_30, j_X7_dispatch_33, j_X7_dispatch_34, j_X7_dispatch_37, j_X7_dispatch_38, j_X7_dispatch_41, j_X7_dispatch_42, j_X7_dispatch_45, j_X7_dispatch_48, j_X7_dispatch_49, j_X7_dispatch_50, j_X7_dispatch_51, j_X7_dispatch_53, j_X7_dispatch_56, j_X7_dispatch_57, j_X7_dispatch_58, j_X7_dispatch_59, j_X7_dispatch_60, j_X7_dispatch_63, en_c2I, en_c2R, en_c2U, en_c2D, Option.some.injEq, exists_eq_left', exists_eq_left, Option.map_some, Option.map_none, not_true_eq_false, false_implies, true_implies, and_true, true_and, reduceCtorEq, not_false_eq_true, true_or, or_true]
  refine en_use (cu_X7_isNode hR) ?_
  rintro v σ1 ⟨rfl, rfl⟩
  cases hx : st_ix (tr_N (sa_T S.1)) k with
  | none =>
    have := fin 1 (by unfold op_dispatch; rw [hx])
    simp only [Option.toList, List.cons_append, List.nil_append, j_X7_dispatch_0, j_X7_dispatch_1, j_X7_dispatch_2, j_X7_dispatch_3, j_X7_dispatch_6, j_X7_dispatch_9, j_X7_dispatch_10, j_X7_dispatch_13, j_X7_dispatch_14, j_X7_dispatch_15, j_X7_dispatch_17, j_X7_dispatch_20, j_X7_dispatch_23, j_X7_dispatch_24, j_X7_dispatch_25, j_X7_dispatch_27, j_X7_dispatch_30, j_X7_dispatch_33, j_X7_dispatch_34, j_X7_dispatch_37, j_X7_dispatch_38, j_X7_dispatch_41, j_X7_dispatch_42, j_X7_dispatch_45, j_X7_dispatch_48, j_X7_dispatch_49, j_X7_dispatch_50, j_X7_dispatch_51, j_X7_dispatch_53, j_X7_dispatch_56, j_X7_dispatch_57, j_X7_dispatch_58, j_X7_dispatch_59, j_X7_dispatch_60, j_X7_dispatch_63, en_c2I, en_c2R, en_c2U, en_c2D, Option.some.injEq, exists_eq_left', exists_eq_left, Option.map_some, Option.map_none, not_true_eq_false, false_implies, true_implies, and_true, true_and, reduceCtorEq, not_false_eq_true, true_or, or_true, eg_cl_sfi, eg_fi_sfi, eg_fr_sfi, eg_fd_sfi, eg_al_sfi, eg_ai_sfi, eg_ar_sfi, eg_ad_sfi, eg_aj_sfi, eg_nx_sfi, eg_ns_sfi, eg_cl_sfr, eg_fi_sfr, eg_fr_sfr, eg_fd_sfr, eg_al_sfr, eg_ai_sfr, eg_ar_sfr, eg_ad_sfr, eg_aj_sfr, eg_nx_sfr, eg_ns_sfr, eg_cl_sfd, eg_fi_sfd, eg_fr_sfd, eg_fd_sfd, eg_al_sfd, eg_ai_sfd, eg_ar_sfd, eg_ad_sfd, eg_aj_sfd, eg_nx_sfd, eg_ns_sfd, eg_cl_sai, eg_fi_sai, eg_fr_sai, eg_fd_sai, eg_al_sai, eg_ai_sai, eg_ar_sai, eg_ad_sai, eg_aj_sai, eg_nx_sai, eg_ns_sai, eg_cl_sar, eg_fi_sar, eg_fr_sar, eg_fd_sar, eg_al_sar, eg_ai_sar, eg_ar_sar, eg_ad_sar, eg_aj_sar, eg_nx_sar, eg_ns_sar, eg_cl_sad, eg_fi_sad, eg_fr_sad, eg_fd_sad, eg_al_sad, eg_ai_sad, eg_ar_sad, eg_ad_sad, eg_aj_sad, eg_nx_sad, eg_ns_sad, eg_cl_saj, eg_fi_saj, eg_fr_saj, eg_fd_saj, eg_al_saj, eg_ai_saj, eg_ar_saj, eg_ad_saj, eg_aj_saj, eg_nx_saj, eg_ns_saj, eg_cl_new, eg_fi_new, eg_fr_new, eg_fd_new, eg_al_new, eg_ai_new, eg_ar_new, eg_ad_new, eg_aj_new, eg_nx_new, eg_ns_new, eg_cl_newa, eg_fi_newa, eg_fr_newa, eg_fd_newa, eg_al_newa, eg_ai_newa, eg_ar_newa, eg_ad_newa, eg_aj_newa, eg_nx_newa, eg_ns_newa, eg_cl_bump, eg_fi_bump, eg_fr_bump, eg_fd_bump, eg_al_bump, eg_ai_bump, eg_ar_bump, eg_ad_bump, eg_aj_bump, eg_nx_bump, eg_ns_bump, rs_c hS, Option.isSome_none, st_bf, and_self, if_true, i2]
    exact this
  | some n =>
    obtain ⟨hn, rfl⟩ := st_ix_some (by omega) hx
    simp only [Option.toList, List.cons_append, List.nil_append, j_X7_dispatch_0, j_X7_dispatch_1, j_X7_dispatch_2, j_X7_dispatch_3, j_X7_dispatch_6, j_X7_dispatch_9, j_X7_dispatch_10, j_X7_dispatch_13, j_X7_dispatch_14, j_X7_dispatch_15, j_X7_dispatch_17, j_X7_dispatch_20, j_X7_dispatch_23, j_X7_dispatch_24, j_X7_dispatch_25, j_X7_dispatch_27, j_X7_dispatch_30, j_X7_dispatch_33, j_X7_dispatch_34, j_X7_dispatch_37, j_X7_dispatch_38, j_X7_dispatch_41, j_X7_dispatch_42, j_X7_dispatch_45, j_X7_dispatch_48, j_X7_dispatch_49, j_X7_dispatch_50, j_X7_dispatch_51, j_X7_dispatch_53, j_X7_dispatch_56, j_X7_dispatch_57, j_X7_dispatch_58, j_X7_dispatch_59, j_X7_dispatch_60, j_X7_dispatch_63, en_c2I, en_c2R, en_c2U, en_c2D, Option.some.injEq, exists_eq_left', exists_eq_left, Option.map_some, Option.map_none, not_true_eq_false, false_implies, true_implies, and_true, true_and, reduceCtorEq, not_false_eq_true, true_or, or_true, Option.isSome_some, st_bt, i1]
    refine en_use (cu_X7_in trivial) ?_
    rintro v σ1 ⟨rfl, rfl⟩
    by_cases ht : 0 ≤ ty ∧ ty ≤ 7
    · simp only [Option.toList, List.cons_append, List.nil_append, j_X7_dispatch_0, j_X7_dispatch_1, j_X7_dispatch_2, j_X7_dispatch_3, j_X7_dispatch_6, j_X7_dispatch_9, j_X7_dispatch_10, j_X7_dispatch_13, j_X7_dispatch_14, j_X7_dispatch_15, j_X7_dispatch_17, j_X7_dispatch_20, j_X7_dispatch_23, j_X7_dispatch_24, j_X7_dispatch_25, j_X7_dispatch_27, j_X7_dispatch_30, j_X7_dispatch_33, j_X7_dispatch_34, j_X7_dispatch_37, j_X7_dispatch_38, j_X7_dispatch_41, j_X7_dispatch_42, j_X7_dispatch_45, j_X7_dispatch_48, j_X7_dispatch_49, j_X7_dispatch_50, j_X7_dispatch_51, j_X7_dispatch_53, j_X7_dispatch_56, j_X7_dispatch_57, j_X7_dispatch_58, j_X7_dispatch_59, j_X7_dispatch_60, j_X7_dispatch_63, en_c2I, en_c2R, en_c2U, en_c2D, Option.some.injEq, exists_eq_left', exists_eq_left, Option.map_some, Option.map_none, not_true_eq_false, false_implies, true_implies, and_true, true_and, reduceCtorEq, not_false_eq_true, true_or, or_true, decide_eq_true ht, st_bt, i1]
      refine en_use (cu_X7_in trivial) ?_
      rintro v σ1 ⟨rfl, rfl⟩
      rw [in_8]
      cases hy : st_ix 8 fl with
      | none =>
        have := fin 2 (by unfold op_dispatch; rw [hx]; simp only; rw [if_pos (in_ty.mpr ht), hy])
        simp only [Option.toList, List.cons_append, List.nil_append, j_X7_dispatch_0, j_X7_dispatch_1, j_X7_dispatch_2, j_X7_dispatch_3, j_X7_dispatch_6, j_X7_dispatch_9, j_X7_dispatch_10, j_X7_dispatch_13, j_X7_dispatch_14, j_X7_dispatch_15, j_X7_dispatch_17, j_X7_dispatch_20, j_X7_dispatch_23, j_X7_dispatch_24, j_X7_dispatch_25, j_X7_dispatch_27, j_X7_dispatch_30, j_X7_dispatch_33, j_X7_dispatch_34, j_X7_dispatch_37, j_X7_dispatch_38, j_X7_dispatch_41, j_X7_dispatch_42, j_X7_dispatch_45, j_X7_dispatch_48, j_X7_dispatch_49, j_X7_dispatch_50, j_X7_dispatch_51, j_X7_dispatch_53, j_X7_dispatch_56, j_X7_dispatch_57, j_X7_dispatch_58, j_X7_dispatch_59, j_X7_dispatch_60, j_X7_dispatch_63, en_c2I, en_c2R, en_c2U, en_c2D, Option.some.injEq, exists_eq_left', exists_eq_left, Option.map_some, Option.map_none, not_true_eq_false, false_implies, true_implies, and_true, true_and, reduceCtorEq, not_false_eq_true, true_or, or_true, eg_cl_sfi, eg_fi_sfi, eg_fr_sfi, eg_fd_sfi, eg_al_sfi, eg_ai_sfi, eg_ar_sfi, eg_ad_sfi, eg_aj_sfi, eg_nx_sfi, eg_ns_sfi, eg_cl_sfr, eg_fi_sfr, eg_fr_sfr, eg_fd_sfr, eg_al_sfr, eg_ai_sfr, eg_ar_sfr, eg_ad_sfr, eg_aj_sfr, eg_nx_sfr, eg_ns_sfr, eg_cl_sfd, eg_fi_sfd, eg_fr_sfd, eg_fd_sfd, eg_al_sfd, eg_ai_sfd, eg_ar_sfd, eg_ad_sfd, eg_aj_sfd, eg_nx_sfd, eg_ns_sfd, eg_cl_sai, eg_fi_sai, eg_fr_sai, eg_fd_sai, eg_al_sai, eg_ai_sai, eg_ar_sai, eg_ad_sai, eg_aj_sai, eg_nx_sai, eg_ns_sai, eg_cl_sar, eg_fi_sar, eg_fr_sar, eg_fd_sar, eg_al_sar, eg_ai_sar, eg_ar_sar, eg_ad_sar, eg_aj_sar, eg_nx_sar, eg_ns_sar, eg_cl_sad, eg_fi_sad, eg_fr_sad, eg_fd_sad, eg_al_sad, eg_ai_sad, eg_ar_sad, eg_ad_sad, eg_aj_sad, eg_nx_sad, eg_ns_sad, eg_cl_saj, eg_fi_saj, eg_fr_saj, eg_fd_saj, eg_al_saj, eg_ai_saj, eg_ar_saj, eg_ad_saj, eg_aj_saj, eg_nx_saj, eg_ns_saj, eg_cl_new, eg_fi_new, eg_fr_new, eg_fd_new, eg_al_new, eg_ai_new, eg_ar_new, eg_ad_new, eg_aj_new, eg_nx_new, eg_ns_new, eg_cl_newa, eg_fi_newa, eg_fr_newa, eg_fd_newa, eg_al_newa, eg_ai_newa, eg_ar_newa, eg_ad_newa, eg_aj_newa, eg_nx_newa, eg_ns_newa, eg_cl_bump, eg_fi_bump, eg_fr_bump, eg_fd_bump, eg_al_bump, eg_ai_bump, eg_ar_bump, eg_ad_bump, eg_aj_bump, eg_nx_bump, eg_ns_bump, rs_c hS, Option.isSome_none, st_bf, and_self, if_true, i3]
        exact this
      | some f =>
        obtain ⟨hf, rfl⟩ := st_ix_some (by decide) hy
        have hop : op_dispatch S (nI n) ty (nI f) = (((ds_send 4 (su_D S.1 0 2 120) n ty f).1, S.2), 0, st_b (!((ds_send 4 (su_D S.1 0 2 120) n ty f).2.getD false))) := by unfold op_dispatch; rw [hx]; simp only; rw [if_pos (in_ty.mpr ht), hy]
        rw [hop] at hq
        simp only [Option.toList, List.cons_append, List.nil_append, j_X7_dispatch_0, j_X7_dispatch_1, j_X7_dispatch_2, j_X7_dispatch_3, j_X7_dispatch_6, j_X7_dispatch_9, j_X7_dispatch_10, j_X7_dispatch_13, j_X7_dispatch_14, j_X7_dispatch_15, j_X7_dispatch_17, j_X7_dispatch_20, j_X7_dispatch_23, j_X7_dispatch_24, j_X7_dispatch_25, j_X7_dispatch_27, j_X7_dispatch_30, j_X7_dispatch_33, j_X7_dispatch_34, j_X7_dispatch_37, j_X7_dispatch_38, j_X7_dispatch_41, j_X7_dispatch_42, j_X7_dispatch_45, j_X7_dispatch_48, j_X7_dispatch_49, j_X7_dispatch_50, j_X7_dispatch_51, j_X7_dispatch_53, j_X7_dispatch_56, j_X7_dispatch_57, j_X7_dispatch_58, j_X7_dispatch_59, j_X7_dispatch_60, j_X7_dispatch_63, en_c2I, en_c2R, en_c2U, en_c2D, Option.some.injEq, exists_eq_left', exists_eq_left, Option.map_some, Option.map_none, not_true_eq_false, false_implies, true_implies, and_true, true_and, reduceCtorEq, not_false_eq_true, true_or, or_true, eg_cl_sfi, eg_fi_sfi, eg_fr_sfi, eg_fd_sfi, eg_al_sfi, eg_ai_sfi, eg_ar_sfi, eg_ad_sfi, eg_aj_sfi, eg_nx_sfi, eg_ns_sfi, eg_cl_sfr, eg_fi_sfr, eg_fr_sfr, eg_fd_sfr, eg_al_sfr, eg_ai_sfr, eg_ar_sfr, eg_ad_sfr, eg_aj_sfr, eg_nx_sfr, eg_ns_sfr, eg_cl_sfd, eg_fi_sfd, eg_fr_sfd, eg_fd_sfd, eg_al_sfd, eg_ai_sfd, eg_ar_sfd, eg_ad_sfd, eg_aj_sfd, eg_nx_sfd, eg_ns_sfd, eg_cl_sai, eg_fi_sai, eg_fr_sai, eg_fd_sai, eg_al_sai, eg_ai_sai, eg_ar_sai, eg_ad_sai, eg_aj_sai, eg_nx_sai, eg_ns_sai, eg_cl_sar, eg_fi_sar, eg_fr_sar, eg_fd_sar, eg_al_sar, eg_ai_sar, eg_ar_sar, eg_ad_sar, eg_aj_sar, eg_nx_sar, eg_ns_sar, eg_cl_sad, eg_fi_sad, eg_fr_sad, eg_fd_sad, eg_al_sad, eg_ai_sad, eg_ar_sad, eg_ad_sad, eg_aj_sad, eg_nx_sad, eg_ns_sad, eg_cl_saj, eg_fi_saj, eg_fr_saj, eg_fd_saj, eg_al_saj, eg_ai_saj, eg_ar_saj, eg_ad_saj, eg_aj_saj, eg_nx_saj, eg_ns_saj, eg_cl_new, eg_fi_new, eg_fr_new, eg_fd_new, eg_al_new, eg_ai_new, eg_ar_new, eg_ad_new, eg_aj_new, eg_nx_new, eg_ns_new, eg_cl_newa, eg_fi_newa, eg_fr_newa, eg_fd_newa, eg_al_newa, eg_ai_newa, eg_ar_newa, eg_ad_newa, eg_aj_newa, eg_nx_newa, eg_ns_newa, eg_cl_bump, eg_fi_bump, eg_fr_bump, eg_fd_bump, eg_al_bump, eg_ai_bump, eg_ar_bump, eg_ad_bump, eg_aj_bump, eg_nx_bump, eg_ns_bump, rs_c hS, Option.isSome_some, st_bt, i1, and_self, if_true, i4]
        generalize hσ2 : en_sfi (en_sfi σ1 700 m 0) 735 m 120 = σ2
        have g2 : ag σ1 σ2 (fun f _ => f ≠ 735 ∧ f ≠ 700) (fun _ => True) := by rw [← hσ2]; exact (ag_sfi (fun a z => absurd rfl z.2)).tr (ag_sfi (fun a z => absurd rfl z.1))
        have s2 : sz σ1 σ2 := by rw [← hσ2]; exact ⟨rfl, rfl, rfl, rfl⟩
        have hP := rz_sp hp hlg g2 s2 (by rw [← hσ2, eg_fi_sfi, if_pos ⟨rfl, rfl⟩])
        refine en_use (cu_X7_send ⟨hP, hn, hf⟩) ?_
        rintro v σ3 ⟨hP3, g3, s3, xb, hxb, rfl⟩
        rw [hxb] at hq
        have hgo := st_good_send 4 (su_D S.1 0 2 120) n ty f hP.1.2.2.2.2.2.2.2.2.2 hn
        have hNN : tr_N (sa_T (ds_send 4 (su_D S.1 0 2 120) n ty f).1) = tr_N (sa_T S.1) := hgo.2.1.1
        have x2 : m < en_nx σ2 := by have := g2.1; omega
        have F3 : ∀ fd, gF fd m → fd ≠ 735 ∧ fd ≠ 700 → en_fi σ3 fd m = en_fi σ1 fd m := fun fd h1 h2 => by
          rw [((g3.2 m x2).2.2.1 fd h1).1, ((g2.2 m (by omega)).2.2.1 fd h2).1]
        simp only [Option.toList, List.cons_append, List.nil_append, j_X7_dispatch_0, j_X7_dispatch_1, j_X7_dispatch_2, j_X7_dispatch_3, j_X7_dispatch_6, j_X7_dispatch_9, j_X7_dispatch_10, j_X7_dispatch_13, j_X7_dispatch_14, j_X7_dispatch_15, j_X7_dispatch_17, j_X7_dispatch_20, j_X7_dispatch_23, j_X7_dispatch_24, j_X7_dispatch_25, j_X7_dispatch_27, j_X7_dispatch_30, j_X7_dispatch_33, j_X7_dispatch_34, j_X7_dispatch_37, j_X7_dispatch_38, j_X7_dispatch_41, j_X7_dispatch_42, j_X7_dispatch_45, j_X7_dispatch_48, j_X7_dispatch_49, j_X7_dispatch_50, j_X7_dispatch_51, j_X7_dispatch_53, j_X7_dispatch_56, j_X7_dispatch_57, j_X7_dispatch_58, j_X7_dispatch_59, j_X7_dispatch_60, j_X7_dispatch_63, en_c2I, en_c2R, en_c2U, en_c2D, Option.some.injEq, exists_eq_left', exists_eq_left, Option.map_some, Option.map_none, not_true_eq_false, false_implies, true_implies, and_true, true_and, reduceCtorEq, not_false_eq_true, true_or, or_true]
        refine ⟨st_b01 _, ?_⟩
        refine hq _ _ ⟨sp_rz hP3 ?_ ?_ ?_ (by rw [hNN]; exact hp.2.2.2.2.2.1) (by rw [hNN]; exact hp.2.2.2.2.2.2), ?_, s2.tr s3, ?_, rfl⟩
        · rw [F3 729 (by unfold gF; omega) (by omega)]; exact hp.2.1
        · rw [F3 730 (by unfold gF; omega) (by omega)]; exact hp.2.2.1
        · rw [F3 731 (by unfold gF; omega) (by omega)]; exact hp.2.2.2.1
        · exact (g2.mono (fun f a z => by unfold rF at z; omega) (fun a z => trivial)).tr (g3.mono (fun f a z => by unfold rF at z; unfold gF; omega) (fun a z => z))
        · rw [((g3.2 m x2).2.2.1 700 (by unfold gF; omega)).1, ← hσ2, eg_fi_sfi, if_neg (by omega), eg_fi_sfi, if_pos ⟨rfl, rfl⟩]
    · have := fin 2 (by unfold op_dispatch; rw [hx]; simp only; rw [if_neg (fun z => ht (in_ty.mp z))])
      simp only [Option.toList, List.cons_append, List.nil_append, j_X7_dispatch_0, j_X7_dispatch_1, j_X7_dispatch_2, j_X7_dispatch_3, j_X7_dispatch_6, j_X7_dispatch_9, j_X7_dispatch_10, j_X7_dispatch_13, j_X7_dispatch_14, j_X7_dispatch_15, j_X7_dispatch_17, j_X7_dispatch_20, j_X7_dispatch_23, j_X7_dispatch_24, j_X7_dispatch_25, j_X7_dispatch_27, j_X7_dispatch_30, j_X7_dispatch_33, j_X7_dispatch_34, j_X7_dispatch_37, j_X7_dispatch_38, j_X7_dispatch_41, j_X7_dispatch_42, j_X7_dispatch_45, j_X7_dispatch_48, j_X7_dispatch_49, j_X7_dispatch_50, j_X7_dispatch_51, j_X7_dispatch_53, j_X7_dispatch_56, j_X7_dispatch_57, j_X7_dispatch_58, j_X7_dispatch_59, j_X7_dispatch_60, j_X7_dispatch_63, en_c2I, en_c2R, en_c2U, en_c2D, Option.some.injEq, exists_eq_left', exists_eq_left, Option.map_some, Option.map_none, not_true_eq_false, false_implies, true_implies, and_true, true_and, reduceCtorEq, not_false_eq_true, true_or, or_true, eg_cl_sfi, eg_fi_sfi, eg_fr_sfi, eg_fd_sfi, eg_al_sfi, eg_ai_sfi, eg_ar_sfi, eg_ad_sfi, eg_aj_sfi, eg_nx_sfi, eg_ns_sfi, eg_cl_sfr, eg_fi_sfr, eg_fr_sfr, eg_fd_sfr, eg_al_sfr, eg_ai_sfr, eg_ar_sfr, eg_ad_sfr, eg_aj_sfr, eg_nx_sfr, eg_ns_sfr, eg_cl_sfd, eg_fi_sfd, eg_fr_sfd, eg_fd_sfd, eg_al_sfd, eg_ai_sfd, eg_ar_sfd, eg_ad_sfd, eg_aj_sfd, eg_nx_sfd, eg_ns_sfd, eg_cl_sai, eg_fi_sai, eg_fr_sai, eg_fd_sai, eg_al_sai, eg_ai_sai, eg_ar_sai, eg_ad_sai, eg_aj_sai, eg_nx_sai, eg_ns_sai, eg_cl_sar, eg_fi_sar, eg_fr_sar, eg_fd_sar, eg_al_sar, eg_ai_sar, eg_ar_sar, eg_ad_sar, eg_aj_sar, eg_nx_sar, eg_ns_sar, eg_cl_sad, eg_fi_sad, eg_fr_sad, eg_fd_sad, eg_al_sad, eg_ai_sad, eg_ar_sad, eg_ad_sad, eg_aj_sad, eg_nx_sad, eg_ns_sad, eg_cl_saj, eg_fi_saj, eg_fr_saj, eg_fd_saj, eg_al_saj, eg_ai_saj, eg_ar_saj, eg_ad_saj, eg_aj_saj, eg_nx_saj, eg_ns_saj, eg_cl_new, eg_fi_new, eg_fr_new, eg_fd_new, eg_al_new, eg_ai_new, eg_ar_new, eg_ad_new, eg_aj_new, eg_nx_new, eg_ns_new, eg_cl_newa, eg_fi_newa, eg_fr_newa, eg_fd_newa, eg_al_newa, eg_ai_newa, eg_ar_newa, eg_ad_newa, eg_aj_newa, eg_nx_newa, eg_ns_newa, eg_cl_bump, eg_fi_bump, eg_fr_bump, eg_fd_bump, eg_al_bump, eg_ai_bump, eg_ar_bump, eg_ad_bump, eg_aj_bump, eg_nx_bump, eg_ns_bump, rs_c hS, decide_eq_false ht, st_bf, and_self, if_true, i3]
      exact this
theorem jp_X7_dispatch {G : en_G}  : ∀ as σ, (C_X7_dispatch G).1 as σ → (en_lc as).length ≤ 4 ∧ en_J (X_X7_dispatch G (fun r σ' => (C_X7_dispatch G).2 as σ r σ')) 0 (en_loc 4 as) [] σ := en_ghJ (fun g as σ h => by
  obtain ⟨hp, h2⟩ := h
  subst h2
  exact ⟨Nat.le_of_ble_eq_true rfl, jl_X7_dispatch hp (fun _ _ h => h)⟩)
theorem wl_X7_dispatch_148 : Jvm.Cond.methodLink RX7 148 yX7_isNode ∈ en_W := en_inW (List.mem_of_getElem? (i := 875) (by decide +kernel)) (by decide +kernel)
theorem wl_X7_dispatch_152 : Jvm.Cond.methodLink RX7 152 yX7_in ∈ en_W := en_inW (List.mem_of_getElem? (i := 864) (by decide +kernel)) (by decide +kernel)
theorem wl_X7_dispatch_246 : Jvm.Cond.methodLink RX7 246 yX7_send ∈ en_W := en_inW (List.mem_of_getElem? (i := 939) (by decide +kernel)) (by decide +kernel)
theorem ok_X7_dispatch {G : en_G}  : en_Ok G 9 yX7_dispatch cX7_dispatch 4 (some .boolean) (C_X7_dispatch G) :=
  en_met (own := RX7) (fl := en_lk fl7) (nw := en_lk nw7) (aw := en_lk aw7) (dc := en_lk dc7) (ca := en_lk (ca_X7_dispatch G)) (rt := 2) (ini := false) (by decide +kernel) (Or.inr (Or.inr (Or.inl ⟨rfl, rfl⟩))) (fun h => by cases h) rfl (fun q => en_LkF fl7_ok nw7_ok aw7_ok dc7_ok) (by
    intro idx q hq
    have hm := en_lk_mem hq
    simp only [ca_X7_dispatch, List.mem_cons, Prod.mk.injEq, List.not_mem_nil, or_false] at hm
    rcases hm with ⟨rfl, rfl⟩ | ⟨rfl, rfl⟩ | ⟨rfl, rfl⟩
    · exact en_clV (r := (RX7, TX7, 53)) 7 1 ok_X7_isNode (by decide) (by decide) rfl rfl pr_X7_isNode wl_X7_dispatch_148 wi_X7_isNode wx_X7_isNode wz_7 wc_X7_isNode ⟨by decide +kernel, by decide +kernel, by decide +kernel⟩
    · exact en_clS 3 ok_X7_in (by decide) (by decide) pr_X7_in wl_X7_dispatch_152 ws_X7_in wz_7 wc_X7_in ⟨by decide +kernel, by decide +kernel, by decide +kernel⟩
    · exact en_clV (r := (RX7, TX7, 53)) 7 3 ok_X7_send (by decide) (by decide) rfl rfl pr_X7_send wl_X7_dispatch_246 wi_X7_send wx_X7_send wz_7 wc_X7_send ⟨by decide +kernel, by decide +kernel, by decide +kernel⟩) jp_X7_dispatch
def P_X7_tell (G : en_G)  (g : (Nat) × (st_A) × (Option Nat) × (Int32)) (as : List en_V) (σ : en_S) : Prop := (SP (g.1) (g.2.1) [] σ ∧ (∀ t, (g.2.2.1) = some t → t < tr_N (sa_T (g.2.1)))) ∧ as = [en_R (some (g.1)), en_I (st_num (g.2.2.1)), en_I (g.2.2.2)]
def C_X7_tell (G : en_G)  : en_C := en_gh (P_X7_tell G) (fun g as σ v σ' => SP (g.1) (pt_snd (g.2.1) (g.2.2.1) (g.2.2.2)).1 [] σ' ∧ ag σ σ' gF (rV (g.1)) ∧ sz σ σ' ∧ v = some (en_I (pt_snd (g.2.1) (g.2.2.1) (g.2.2.2)).2) ∧ st_go (g.2.1) (pt_snd (g.2.1) (g.2.2.1) (g.2.2.2)).1)
theorem pr_X7_tell {G : en_G}  : ∀ as σ, (C_X7_tell G).1 as σ → ∃ b tl, as = en_R (some b) :: tl ∧ en_cl σ b = some 7 ∧ tl.length = 2 := fun as σ ⟨g, hp, h2⟩ => ⟨_, _, h2, rs_c hp.1.1.1, rfl⟩
theorem cu_X7_tell {G : en_G}  {m : Nat} {A : st_A} {w : Option Nat} {ty : Int32} {σ : en_S} (hp : SP m A [] σ ∧ (∀ t, w = some t → t < tr_N (sa_T A))) : en_Us (C_X7_tell G) [en_R (some m), en_I (st_num w), en_I ty] σ (fun v σ' => SP m (pt_snd A w ty).1 [] σ' ∧ ag σ σ' gF (rV m) ∧ sz σ σ' ∧ v = some (en_I (pt_snd A w ty).2) ∧ st_go A (pt_snd A w ty).1) := ⟨⟨(m, A, w, ty), hp, rfl⟩, fun v σ' q => q (m, A, w, ty) ⟨hp, rfl⟩⟩
def ca_X7_tell (G : en_G) : List (Nat × Nat × en_C) := [(246, 17, (C_X7_send G))]
def X_X7_tell (G : en_G) (q : Option en_V → en_S → Prop) : en_X := en_mk G cX7_tell (en_lk fl7) (en_lk nw7) (en_lk aw7) (en_lk dc7) (en_lk (ca_X7_tell G)) 1 false q
theorem d_X7_tell_0 : decode cX7_tell 0 = .ok (.iload_n 1, 1) := by decide +kernel
theorem j_X7_tell_0 {G : en_G} {q : Option en_V → en_S → Prop}  {l0 l2 l3 : en_V} {x1 : Int32} {σ : en_S} : en_J (X_X7_tell G q) 0 [l0, en_I x1, l2, l3] [] σ ↔ en_J (X_X7_tell G q) 1 [l0, en_I x1, l2, l3] [en_I x1] σ := en_j1 d_X7_tell_0 rfl rfl
theorem d_X7_tell_1 : decode cX7_tell 1 = .ok (.ifCond .ge 5, 3) := by decide +kernel
theorem j_X7_tell_1 {G : en_G} {q : Option en_V → en_S → Prop}  {l0 l1 l2 l3 : en_V} {a0 : Int32} {σ : en_S} : en_J (X_X7_tell G q) 1 [l0, l1, l2, l3] [en_I a0] σ ↔ (0 ≤ a0 → en_J (X_X7_tell G q) 6 [l0, l1, l2, l3] [] σ) ∧ (¬ (0 ≤ a0) → en_J (X_X7_tell G q) 4 [l0, l1, l2, l3] [] σ) := en_jb d_X7_tell_1 rfl ⟨rfl, by decide⟩
theorem d_X7_tell_4 : decode cX7_tell 4 = .ok (.iconst 0, 1) := by decide +kernel
theorem j_X7_tell_4 {G : en_G} {q : Option en_V → en_S → Prop}  {l0 l1 l2 l3 : en_V}  {σ : en_S} : en_J (X_X7_tell G q) 4 [l0, l1, l2, l3] [] σ ↔ en_J (X_X7_tell G q) 5 [l0, l1, l2, l3] [en_I 0] σ := ej_iconst d_X7_tell_4 (by decide +kernel)
theorem d_X7_tell_5 : decode cX7_tell 5 = .ok (.ireturn, 1) := by decide +kernel
theorem j_X7_tell_5 {G : en_G} {q : Option en_V → en_S → Prop}  {l0 l1 l2 l3 : en_V} {a0 : Int32} {σ : en_S} : en_J (X_X7_tell G q) 5 [l0, l1, l2, l3] [en_I a0] σ ↔ q (some (en_I a0)) σ := en_jr d_X7_tell_5 rfl ⟨fun h => h.2.2, fun h => ⟨rfl, Or.inl rfl, h⟩⟩
theorem d_X7_tell_6 : decode cX7_tell 6 = .ok (.aload_n 0, 1) := by decide +kernel
theorem j_X7_tell_6 {G : en_G} {q : Option en_V → en_S → Prop}  {l1 l2 l3 : en_V} {x0 : Option Nat} {σ : en_S} : en_J (X_X7_tell G q) 6 [en_R x0, l1, l2, l3] [] σ ↔ en_J (X_X7_tell G q) 7 [en_R x0, l1, l2, l3] [en_R x0] σ := en_j1 d_X7_tell_6 rfl rfl
theorem d_X7_tell_7 : decode cX7_tell 7 = .ok (.iload_n 1, 1) := by decide +kernel
theorem j_X7_tell_7 {G : en_G} {q : Option en_V → en_S → Prop}  {l0 l2 l3 : en_V} {a0 : Option Nat} {x1 : Int32} {σ : en_S} : en_J (X_X7_tell G q) 7 [l0, en_I x1, l2, l3] [en_R a0] σ ↔ en_J (X_X7_tell G q) 8 [l0, en_I x1, l2, l3] [en_I x1, en_R a0] σ := en_j1 d_X7_tell_7 rfl rfl
theorem d_X7_tell_8 : decode cX7_tell 8 = .ok (.iload_n 2, 1) := by decide +kernel
theorem j_X7_tell_8 {G : en_G} {q : Option en_V → en_S → Prop}  {l0 l1 l3 : en_V} {a0 : Int32} {a1 : Option Nat} {x2 : Int32} {σ : en_S} : en_J (X_X7_tell G q) 8 [l0, l1, en_I x2, l3] [en_I a0, en_R a1] σ ↔ en_J (X_X7_tell G q) 9 [l0, l1, en_I x2, l3] [en_I x2, en_I a0, en_R a1] σ := en_j1 d_X7_tell_8 rfl rfl
theorem d_X7_tell_9 : decode cX7_tell 9 = .ok (.bipush 7, 2) := by decide +kernel
theorem j_X7_tell_9 {G : en_G} {q : Option en_V → en_S → Prop}  {l0 l1 l2 l3 : en_V} {a0 : Int32} {a1 : Int32} {a2 : Option Nat} {σ : en_S} : en_J (X_X7_tell G q) 9 [l0, l1, l2, l3] [en_I a0, en_I a1, en_R a2] σ ↔ en_J (X_X7_tell G q) 11 [l0, l1, l2, l3] [en_I 7, en_I a0, en_I a1, en_R a2] σ := ej_bipush d_X7_tell_9 (by decide +kernel)
theorem d_X7_tell_11 : decode cX7_tell 11 = .ok (.invokevirtual 246, 3) := by decide +kernel
theorem j_X7_tell_11 {G : en_G} {q : Option en_V → en_S → Prop}  {l0 l1 l2 l3 : en_V} {a0 : Int32} {a1 : Int32} {a2 : Int32} {a3 : Option Nat} {σ : en_S} : en_J (X_X7_tell G q) 11 [l0, l1, l2, l3] [en_I a0, en_I a1, en_I a2, en_R a3] σ ↔ (C_X7_send G).1 [en_R a3, en_I a2, en_I a1, en_I a0] σ ∧ ∀ (r : Option en_V) (σ' : en_S), (C_X7_send G).2 [en_R a3, en_I a2, en_I a1, en_I a0] σ r σ' → en_J (X_X7_tell G q) 14 [l0, l1, l2, l3] (r.toList ++ []) σ' := en_jkC (C := (C_X7_send G)) (n' := 4) (k := 1) (idx := 246) d_X7_tell_11 rfl rfl (by decide) (Nat.le_of_ble_eq_true rfl) (Nat.le_of_ble_eq_true rfl)
theorem d_X7_tell_14 : decode cX7_tell 14 = .ok (.istore_n 3, 1) := by decide +kernel
theorem j_X7_tell_14 {G : en_G} {q : Option en_V → en_S → Prop}  {l0 l1 l2 l3 : en_V} {a0 : Int32} {σ : en_S} : en_J (X_X7_tell G q) 14 [l0, l1, l2, l3] [en_I a0] σ ↔ en_J (X_X7_tell G q) 15 [l0, l1, en_c2 l2, en_I a0] [] σ := en_j1 d_X7_tell_14 rfl ⟨rfl, Nat.le_of_ble_eq_true rfl⟩
theorem d_X7_tell_15 : decode cX7_tell 15 = .ok (.iconst 1, 1) := by decide +kernel
theorem j_X7_tell_15 {G : en_G} {q : Option en_V → en_S → Prop}  {l0 l1 l2 l3 : en_V}  {σ : en_S} : en_J (X_X7_tell G q) 15 [l0, l1, l2, l3] [] σ ↔ en_J (X_X7_tell G q) 16 [l0, l1, l2, l3] [en_I 1] σ := ej_iconst d_X7_tell_15 (by decide +kernel)
theorem d_X7_tell_16 : decode cX7_tell 16 = .ok (.ireturn, 1) := by decide +kernel
theorem j_X7_tell_16 {G : en_G} {q : Option en_V → en_S → Prop}  {l0 l1 l2 l3 : en_V} {a0 : Int32} {σ : en_S} : en_J (X_X7_tell G q) 16 [l0, l1, l2, l3] [en_I a0] σ ↔ q (some (en_I a0)) σ := en_jr d_X7_tell_16 rfl ⟨fun h => h.2.2, fun h => ⟨rfl, Or.inl rfl, h⟩⟩
theorem wc_X7_tell : Jvm.Cond.code yX7_tell cX7_tell 4 (some .int) ∈ en_W := en_inW (List.mem_of_getElem? (i := 1034) (by decide +kernel)) (by decide +kernel)
theorem wi_X7_tell : Jvm.Cond.instanceMethod yX7_tell ∈ en_W := en_inW (List.mem_of_getElem? (i := 1033) (by decide +kernel)) (by decide +kernel)
theorem wx_X7_tell : Jvm.Cond.selects RX7 yX7_tell yX7_tell ∈ en_W := en_inW (List.mem_of_getElem? (i := 39) (by decide +kernel)) (by decide +kernel)
theorem jl_X7_tell {G : en_G}  {m : Nat} {A : st_A} {w : Option Nat} {ty : Int32} {q : Option en_V → en_S → Prop} {σ : en_S} (hp : SP m A [] σ ∧ (∀ t, w = some t → t < tr_N (sa_T A))) (hq : ∀ v σ', (SP m (pt_snd A w ty).1 [] σ' ∧ ag σ σ' gF (rV m) ∧ sz σ σ' ∧ v = some (en_I (pt_snd A w ty).2) ∧ st_go A (pt_snd A w ty).1) → q v σ') : en_J (X_X7_tell G q) 0 [en_R (some m), en_I (st_num w), en_I ty, en_U] [] σ := by
  obtain ⟨hP, hw⟩ := hp
  have w0 := hP.1.2.2.2.2.2.2.2.2.2
  have hN := w0.1.1.2
  cases w with
  | none =>
    have z : ¬ (0 : Int32) ≤ -1 := by decide
    simp only [j_X7_tell_0, j_X7_tell_1, j_X7_tell_4, j_X7_tell_5, j_X7_tell_6, j_X7_tell_7, j_X7_tell_8, j_X7_tell_9, j_X7_tell_11, j_X7_tell_14, j_X7_tell_15, j_X7_tell_16, en_c2I, en_c2R, en_c2U, en_c2D, Option.some.injEq, exists_eq_left', exists_eq_left, Option.map_some, Option.map_none, not_true_eq_false, false_implies, true_implies, and_true, true_and, reduceCtorEq, not_false_eq_true, true_or, or_true, st_num_none, z]
    exact hq _ _ ⟨hP, ag.rf, sz.rf, rfl, st_go.rf w0⟩
  | some t =>
    have ht := hw t rfl
    have z : (0 : Int32) ≤ nI t := nI_pos' (by omega)
    simp only [j_X7_tell_0, j_X7_tell_1, j_X7_tell_4, j_X7_tell_5, j_X7_tell_6, j_X7_tell_7, j_X7_tell_8, j_X7_tell_9, j_X7_tell_11, j_X7_tell_14, j_X7_tell_15, j_X7_tell_16, en_c2I, en_c2R, en_c2U, en_c2D, Option.some.injEq, exists_eq_left', exists_eq_left, Option.map_some, Option.map_none, not_true_eq_false, false_implies, true_implies, and_true, true_and, reduceCtorEq, not_false_eq_true, true_or, or_true, st_num_some, z]
    have hu := cu_X7_send (G := G) (ty := ty) (fl := 7) ⟨hP, ht, by decide⟩
    rw [show nI 7 = 7 from by decide +kernel] at hu
    refine en_use hu ?_
    rintro v σ1 ⟨hP1, g1, s1, xb, hxb, rfl⟩
    simp only [Option.toList, List.cons_append, List.nil_append, j_X7_tell_0, j_X7_tell_1, j_X7_tell_4, j_X7_tell_5, j_X7_tell_6, j_X7_tell_7, j_X7_tell_8, j_X7_tell_9, j_X7_tell_11, j_X7_tell_14, j_X7_tell_15, j_X7_tell_16, en_c2I, en_c2R, en_c2U, en_c2D, Option.some.injEq, exists_eq_left', exists_eq_left, Option.map_some, Option.map_none, not_true_eq_false, false_implies, true_implies, and_true, true_and, reduceCtorEq, not_false_eq_true, true_or, or_true]
    refine hq _ _ ⟨hP1, g1, s1, ?_, st_good_send 4 A t ty 7 w0 ht⟩
    unfold pt_snd ds_sendO
    simp only
    rw [hxb]; rfl
theorem jp_X7_tell {G : en_G}  : ∀ as σ, (C_X7_tell G).1 as σ → (en_lc as).length ≤ 4 ∧ en_J (X_X7_tell G (fun r σ' => (C_X7_tell G).2 as σ r σ')) 0 (en_loc 4 as) [] σ := en_ghJ (fun g as σ h => by
  obtain ⟨hp, h2⟩ := h
  subst h2
  exact ⟨Nat.le_of_ble_eq_true rfl, jl_X7_tell hp (fun _ _ h => h)⟩)
theorem wl_X7_tell_246 : Jvm.Cond.methodLink RX7 246 yX7_send ∈ en_W := en_inW (List.mem_of_getElem? (i := 939) (by decide +kernel)) (by decide +kernel)
theorem ok_X7_tell {G : en_G}  : en_Ok G 9 yX7_tell cX7_tell 4 (some .int) (C_X7_tell G) :=
  en_met (own := RX7) (fl := en_lk fl7) (nw := en_lk nw7) (aw := en_lk aw7) (dc := en_lk dc7) (ca := en_lk (ca_X7_tell G)) (rt := 1) (ini := false) (by decide +kernel) (Or.inr (Or.inl ⟨rfl, rfl⟩)) (fun h => by cases h) rfl (fun q => en_LkF fl7_ok nw7_ok aw7_ok dc7_ok) (by
    intro idx q hq
    have hm := en_lk_mem hq
    simp only [ca_X7_tell, List.mem_cons, Prod.mk.injEq, List.not_mem_nil, or_false] at hm
    rcases hm with ⟨rfl, rfl⟩
    · exact en_clV (r := (RX7, TX7, 53)) 7 3 ok_X7_send (by decide) (by decide) rfl rfl pr_X7_send wl_X7_tell_246 wi_X7_send wx_X7_send wz_7 wc_X7_send ⟨by decide +kernel, by decide +kernel, by decide +kernel⟩) jp_X7_tell
