theorem cx_boxw {G : en_G} {x : Nat} {na la ba : Nat → Nat} {rm : Nat} {A : st_A} {σ σ' : en_S} (hC : CX G x na la ba rm A σ) {n : Nat} {b b' : st_B} (hn : n < tr_N (sa_T A)) (hb : sa_B A n = some b) (hf : st_fin b') (g : ag σ σ' (fun f a => 10 ≤ f ∨ a ≠ ba n) (fun _ => True)) (s : sz σ σ') (h0 : en_fd σ' 0 (ba n) = b'.1 ∧ en_fd σ' 1 (ba n) = b'.2.1 ∧ en_fd σ' 2 (ba n) = b'.2.2.1 ∧ en_fd σ' 3 (ba n) = b'.2.2.2.1 ∧ en_fd σ' 4 (ba n) = b'.2.2.2.2.1 ∧ en_fi σ' 5 (ba n) = b'.2.2.2.2.2) : CX G x na la ba rm (su_B A n (some b')) σ' := by
  obtain ⟨c, t, nd, bx, l, sc, lo, ob, w, r⟩ := hC
  have fr := c.2.2.2.2.2.2
  have el := (w.2.2.2.2.2.2 n b hn hb).1
  have hb' : ∀ m, sa_B (su_B A n (some b')) m = if m = n then some b' else sa_B A m := fun m => rfl
  refine ⟨c.ag g (s.fr fr) (fun f hq a => Or.inl (by omega)) ⟨trivial, trivial⟩, t.ag g fr (fun q h1 h2 m hm => Or.inl (by omega)), fun m hm => ?_, ⟨fun m b2 hm hb2 => ?_, fun m k hm hk h1 h2 hq => ?_⟩, l.ag g c (fun q h1 h2 k hk => Or.inl (by omega)) trivial, sc.ag g c (fun a => Or.inl (by decide)) (fun _ _ => ⟨trivial, trivial⟩), lo.ag g c (fun a => Or.inl (by decide)) trivial, ob.ag g c ⟨Or.inl (by decide), Or.inl (by decide), Or.inl (by decide), Or.inl (by decide)⟩, ?_, ?_⟩
  · obtain ⟨h1, h2, h3⟩ := (nd.ag g c t (fun m hm => ⟨Or.inl (by decide), Or.inl (by decide)⟩) trivial) m hm
    refine ⟨h1, ?_, h3⟩
    rw [h2, hb']
    by_cases e : m = n
    · rw [if_pos e, e, hb]; rfl
    · rw [if_neg e]
  · rw [hb'] at hb2
    by_cases e : m = n
    · rw [if_pos e] at hb2
      cases hb2
      subst e
      refine ⟨?_, h0⟩
      rw [s.2.2.1]; exact (bx.1 m b hm hb).1
    · rw [if_neg e] at hb2
      obtain ⟨c1, c2, c3, c4, c5, c6, c7⟩ := bx.1 m b2 hm hb2
      have hne : ba m ≠ ba n := fun z => e (bx.2 m n hm hn (by rw [hb2]; simp) (by rw [hb]; simp) z)
      have rr := (g.2 (ba m) (fresh_cl fr c1)).2.2.1
      refine ⟨by rw [s.2.2.1]; exact c1, ?_, ?_, ?_, ?_, ?_, ?_⟩
      · rw [(rr 0 (Or.inr hne)).2.2]; exact c2
      · rw [(rr 1 (Or.inr hne)).2.2]; exact c3
      · rw [(rr 2 (Or.inr hne)).2.2]; exact c4
      · rw [(rr 3 (Or.inr hne)).2.2]; exact c5
      · rw [(rr 4 (Or.inr hne)).2.2]; exact c6
      · rw [(rr 5 (Or.inr hne)).1]; exact c7
  · rw [hb'] at h1 h2
    refine bx.2 m k hm hk ?_ ?_ hq
    · by_cases e : m = n
      · rw [e, hb]; simp
      · rw [if_neg e] at h1; exact h1
    · by_cases e : k = n
      · rw [e, hb]; simp
      · rw [if_neg e] at h2; exact h2
  · obtain ⟨w1, w2, w3, w4, w5, w6, w7⟩ := w
    refine ⟨w1, w2, w3, w4, w5, w6, fun m b2 hm hb2 => ?_⟩
    rw [hb'] at hb2
    by_cases e : m = n
    · rw [if_pos e] at hb2
      cases hb2
      rw [e]; exact ⟨el, hf⟩
    · rw [if_neg e] at hb2; exact w7 m b2 hm hb2
  · unfold cd_room at r ⊢
    rw [s.1, s.2.1]; exact r
def P_X6_zoom (G : en_G)  (g : (Nat) × (Nat) × (pb_S) × (Int32) × (UInt64) × (Int32)) (as : List en_V) (σ : en_S) : Prop := (PZ G (g.1) ((g.2.1) + 64) (g.2.2.1) σ ∧ fb (-21) (g.2.2.2.2.1)) ∧ as = [en_R (some (g.1)), en_I (g.2.2.2.1), en_D (g.2.2.2.2.1), en_I (g.2.2.2.2.2)]
def C_X6_zoom (G : en_G)  : en_C := en_gh (P_X6_zoom G) (fun g as σ v σ' => PZ G (g.1) (g.2.1) (op_zoom (g.2.2.1) (g.2.2.2.1) (g.2.2.2.2.1) (g.2.2.2.2.2)).1 σ' ∧ ag σ σ' pF (pV (g.1)) ∧ v = some (en_I (op_zoom (g.2.2.1) (g.2.2.2.1) (g.2.2.2.2.1) (g.2.2.2.2.2)).2))
theorem pr_X6_zoom {G : en_G}  : ∀ as σ, (C_X6_zoom G).1 as σ → ∃ b tl, as = en_R (some b) :: tl ∧ en_cl σ b = some 6 ∧ tl.length = 3 := fun as σ ⟨g, hp, h2⟩ => ⟨_, _, h2, hp.1.cl, rfl⟩
theorem cu_X6_zoom {G : en_G}  {x : Nat} {rm : Nat} {S : pb_S} {k : Int32} {sc : UInt64} {ly : Int32} {σ : en_S} (hp : PZ G x (rm + 64) S σ ∧ fb (-21) sc) : en_Us (C_X6_zoom G) [en_R (some x), en_I k, en_D sc, en_I ly] σ (fun v σ' => PZ G x rm (op_zoom S k sc ly).1 σ' ∧ ag σ σ' pF (pV x) ∧ v = some (en_I (op_zoom S k sc ly).2)) := ⟨⟨(x, rm, S, k, sc, ly), hp, rfl⟩, fun v σ' q => q (x, rm, S, k, sc, ly) ⟨hp, rfl⟩⟩
def ca_X6_zoom (G : en_G) : List (Nat × Nat × en_C) := [(57, 9, (C_X6_nodeAt G))]
def X_X6_zoom (G : en_G) (q : Option en_V → en_S → Prop) : en_X := en_mk G cX6_zoom (en_lk fl6) (en_lk nw6) (en_lk aw6) (en_lk dc6) (en_lk (ca_X6_zoom G)) 2 false q
theorem d_X6_zoom_0 : decode cX6_zoom 0 = .ok (.aload_n 0, 1) := by decide +kernel
theorem j_X6_zoom_0 {G : en_G} {q : Option en_V → en_S → Prop}  {l1 l2 l3 l4 l5 l6 : en_V} {x0 : Option Nat} {σ : en_S} : en_J (X_X6_zoom G q) 0 [en_R x0, l1, l2, l3, l4, l5, l6] [] σ ↔ en_J (X_X6_zoom G q) 1 [en_R x0, l1, l2, l3, l4, l5, l6] [en_R x0] σ := en_j1 d_X6_zoom_0 rfl rfl
theorem d_X6_zoom_1 : decode cX6_zoom 1 = .ok (.iload_n 1, 1) := by decide +kernel
theorem j_X6_zoom_1 {G : en_G} {q : Option en_V → en_S → Prop}  {l0 l2 l3 l4 l5 l6 : en_V} {a0 : Option Nat} {x1 : Int32} {σ : en_S} : en_J (X_X6_zoom G q) 1 [l0, en_I x1, l2, l3, l4, l5, l6] [en_R a0] σ ↔ en_J (X_X6_zoom G q) 2 [l0, en_I x1, l2, l3, l4, l5, l6] [en_I x1, en_R a0] σ := en_j1 d_X6_zoom_1 rfl rfl
theorem d_X6_zoom_2 : decode cX6_zoom 2 = .ok (.invokevirtual 57, 3) := by decide +kernel
theorem j_X6_zoom_2 {G : en_G} {q : Option en_V → en_S → Prop}  {l0 l1 l2 l3 l4 l5 l6 : en_V} {a0 : Int32} {a1 : Option Nat} {σ : en_S} : en_J (X_X6_zoom G q) 2 [l0, l1, l2, l3, l4, l5, l6] [en_I a0, en_R a1] σ ↔ (C_X6_nodeAt G).1 [en_R a1, en_I a0] σ ∧ ∀ (r : Option en_V) (σ' : en_S), (C_X6_nodeAt G).2 [en_R a1, en_I a0] σ r σ' → en_J (X_X6_zoom G q) 5 [l0, l1, l2, l3, l4, l5, l6] (r.toList ++ []) σ' := en_jkC (C := (C_X6_nodeAt G)) (n' := 2) (k := 1) (idx := 57) d_X6_zoom_2 rfl rfl (by decide) (Nat.le_of_ble_eq_true rfl) (Nat.le_of_ble_eq_true rfl)
theorem d_X6_zoom_5 : decode cX6_zoom 5 = .ok (.astore 5, 2) := by decide +kernel
theorem j_X6_zoom_5 {G : en_G} {q : Option en_V → en_S → Prop}  {l0 l1 l2 l3 l4 l5 l6 : en_V} {a0 : Option Nat} {σ : en_S} : en_J (X_X6_zoom G q) 5 [l0, l1, l2, l3, l4, l5, l6] [en_R a0] σ ↔ en_J (X_X6_zoom G q) 7 [l0, l1, l2, l3, en_c2 l4, en_R a0, l6] [] σ := en_j1 d_X6_zoom_5 rfl ⟨rfl, Nat.le_of_ble_eq_true rfl⟩
theorem d_X6_zoom_7 : decode cX6_zoom 7 = .ok (.dload_n 2, 1) := by decide +kernel
theorem j_X6_zoom_7 {G : en_G} {q : Option en_V → en_S → Prop}  {l0 l1 l3 l4 l5 l6 : en_V} {x2 : UInt64} {σ : en_S} : en_J (X_X6_zoom G q) 7 [l0, l1, en_D x2, l3, l4, l5, l6] [] σ ↔ en_J (X_X6_zoom G q) 8 [l0, l1, en_D x2, l3, l4, l5, l6] [en_D x2] σ := en_j1 d_X6_zoom_7 rfl rfl
theorem d_X6_zoom_8 : decode cX6_zoom 8 = .ok (.ldc2_w 157, 3) := by decide +kernel
theorem j_X6_zoom_8 {G : en_G} {q : Option en_V → en_S → Prop}  {l0 l1 l2 l3 l4 l5 l6 : en_V} {a0 : UInt64} {σ : en_S} : en_J (X_X6_zoom G q) 8 [l0, l1, l2, l3, l4, l5, l6] [en_D a0] σ ↔ en_J (X_X6_zoom G q) 11 [l0, l1, l2, l3, l4, l5, l6] [en_D 4593671619917905920, en_D a0] σ := en_j1 d_X6_zoom_8 rfl rfl
theorem d_X6_zoom_11 : decode cX6_zoom 11 = .ok (.dcmp .l, 1) := by decide +kernel
theorem j_X6_zoom_11 {G : en_G} {q : Option en_V → en_S → Prop}  {l0 l1 l2 l3 l4 l5 l6 : en_V} {a0 : UInt64} {a1 : UInt64} {σ : en_S} : en_J (X_X6_zoom G q) 11 [l0, l1, l2, l3, l4, l5, l6] [en_D a0, en_D a1] σ ↔ en_J (X_X6_zoom G q) 12 [l0, l1, l2, l3, l4, l5, l6] [en_I (Op.cmpValue (FP.dcmp a1 a0) .l)] σ := en_j1 d_X6_zoom_11 rfl rfl
theorem d_X6_zoom_12 : decode cX6_zoom 12 = .ok (.ifCond .lt 15, 3) := by decide +kernel
theorem j_X6_zoom_12 {G : en_G} {q : Option en_V → en_S → Prop}  {l0 l1 l2 l3 l4 l5 l6 : en_V} {a0 : Int32} {σ : en_S} : en_J (X_X6_zoom G q) 12 [l0, l1, l2, l3, l4, l5, l6] [en_I a0] σ ↔ (a0 < 0 → en_J (X_X6_zoom G q) 27 [l0, l1, l2, l3, l4, l5, l6] [] σ) ∧ (¬ (a0 < 0) → en_J (X_X6_zoom G q) 15 [l0, l1, l2, l3, l4, l5, l6] [] σ) := en_jb d_X6_zoom_12 rfl ⟨rfl, by decide⟩
theorem d_X6_zoom_15 : decode cX6_zoom 15 = .ok (.dload_n 2, 1) := by decide +kernel
theorem j_X6_zoom_15 {G : en_G} {q : Option en_V → en_S → Prop}  {l0 l1 l3 l4 l5 l6 : en_V} {x2 : UInt64} {σ : en_S} : en_J (X_X6_zoom G q) 15 [l0, l1, en_D x2, l3, l4, l5, l6] [] σ ↔ en_J (X_X6_zoom G q) 16 [l0, l1, en_D x2, l3, l4, l5, l6] [en_D x2] σ := en_j1 d_X6_zoom_15 rfl rfl
theorem d_X6_zoom_16 : decode cX6_zoom 16 = .ok (.ldc2_w 159, 3) := by decide +kernel
theorem j_X6_zoom_16 {G : en_G} {q : Option en_V → en_S → Prop}  {l0 l1 l2 l3 l4 l5 l6 : en_V} {a0 : UInt64} {σ : en_S} : en_J (X_X6_zoom G q) 16 [l0, l1, l2, l3, l4, l5, l6] [en_D a0] σ ↔ en_J (X_X6_zoom G q) 19 [l0, l1, l2, l3, l4, l5, l6] [en_D 4616189618054758400, en_D a0] σ := en_j1 d_X6_zoom_16 rfl rfl
theorem d_X6_zoom_19 : decode cX6_zoom 19 = .ok (.dcmp .g, 1) := by decide +kernel
theorem j_X6_zoom_19 {G : en_G} {q : Option en_V → en_S → Prop}  {l0 l1 l2 l3 l4 l5 l6 : en_V} {a0 : UInt64} {a1 : UInt64} {σ : en_S} : en_J (X_X6_zoom G q) 19 [l0, l1, l2, l3, l4, l5, l6] [en_D a0, en_D a1] σ ↔ en_J (X_X6_zoom G q) 20 [l0, l1, l2, l3, l4, l5, l6] [en_I (Op.cmpValue (FP.dcmp a1 a0) .g)] σ := en_j1 d_X6_zoom_19 rfl rfl
theorem d_X6_zoom_20 : decode cX6_zoom 20 = .ok (.ifCond .gt 7, 3) := by decide +kernel
theorem j_X6_zoom_20 {G : en_G} {q : Option en_V → en_S → Prop}  {l0 l1 l2 l3 l4 l5 l6 : en_V} {a0 : Int32} {σ : en_S} : en_J (X_X6_zoom G q) 20 [l0, l1, l2, l3, l4, l5, l6] [en_I a0] σ ↔ (0 < a0 → en_J (X_X6_zoom G q) 27 [l0, l1, l2, l3, l4, l5, l6] [] σ) ∧ (¬ (0 < a0) → en_J (X_X6_zoom G q) 23 [l0, l1, l2, l3, l4, l5, l6] [] σ) := en_jb d_X6_zoom_20 rfl ⟨rfl, by decide⟩
theorem d_X6_zoom_23 : decode cX6_zoom 23 = .ok (.iconst 1, 1) := by decide +kernel
theorem j_X6_zoom_23 {G : en_G} {q : Option en_V → en_S → Prop}  {l0 l1 l2 l3 l4 l5 l6 : en_V}  {σ : en_S} : en_J (X_X6_zoom G q) 23 [l0, l1, l2, l3, l4, l5, l6] [] σ ↔ en_J (X_X6_zoom G q) 24 [l0, l1, l2, l3, l4, l5, l6] [en_I 1] σ := ej_iconst d_X6_zoom_23 (by decide +kernel)
theorem d_X6_zoom_24 : decode cX6_zoom 24 = .ok (.goto 4, 3) := by decide +kernel
theorem j_X6_zoom_24 {G : en_G} {q : Option en_V → en_S → Prop}  {l0 l1 l2 l3 l4 l5 l6 : en_V} {a0 : Int32} {σ : en_S} : en_J (X_X6_zoom G q) 24 [l0, l1, l2, l3, l4, l5, l6] [en_I a0] σ ↔ en_J (X_X6_zoom G q) 28 [l0, l1, l2, l3, l4, l5, l6] [en_I a0] σ := en_j1 d_X6_zoom_24 rfl ⟨rfl, by decide⟩
theorem d_X6_zoom_27 : decode cX6_zoom 27 = .ok (.iconst 0, 1) := by decide +kernel
theorem j_X6_zoom_27 {G : en_G} {q : Option en_V → en_S → Prop}  {l0 l1 l2 l3 l4 l5 l6 : en_V}  {σ : en_S} : en_J (X_X6_zoom G q) 27 [l0, l1, l2, l3, l4, l5, l6] [] σ ↔ en_J (X_X6_zoom G q) 28 [l0, l1, l2, l3, l4, l5, l6] [en_I 0] σ := ej_iconst d_X6_zoom_27 (by decide +kernel)
theorem d_X6_zoom_28 : decode cX6_zoom 28 = .ok (.istore 6, 2) := by decide +kernel
theorem j_X6_zoom_28 {G : en_G} {q : Option en_V → en_S → Prop}  {l0 l1 l2 l3 l4 l5 l6 : en_V} {a0 : Int32} {σ : en_S} : en_J (X_X6_zoom G q) 28 [l0, l1, l2, l3, l4, l5, l6] [en_I a0] σ ↔ en_J (X_X6_zoom G q) 30 [l0, l1, l2, l3, l4, en_c2 l5, en_I a0] [] σ := en_j1 d_X6_zoom_28 rfl ⟨rfl, Nat.le_of_ble_eq_true rfl⟩
theorem d_X6_zoom_30 : decode cX6_zoom 30 = .ok (.aload 5, 2) := by decide +kernel
theorem j_X6_zoom_30 {G : en_G} {q : Option en_V → en_S → Prop}  {l0 l1 l2 l3 l4 l6 : en_V} {x5 : Option Nat} {σ : en_S} : en_J (X_X6_zoom G q) 30 [l0, l1, l2, l3, l4, en_R x5, l6] [] σ ↔ en_J (X_X6_zoom G q) 32 [l0, l1, l2, l3, l4, en_R x5, l6] [en_R x5] σ := en_j1 d_X6_zoom_30 rfl rfl
theorem d_X6_zoom_32 : decode cX6_zoom 32 = .ok (.ifnull 16, 3) := by decide +kernel
theorem j_X6_zoom_32 {G : en_G} {q : Option en_V → en_S → Prop}  {l0 l1 l2 l3 l4 l5 l6 : en_V} {a0 : Option Nat} {σ : en_S} : en_J (X_X6_zoom G q) 32 [l0, l1, l2, l3, l4, l5, l6] [en_R a0] σ ↔ (a0 = none → en_J (X_X6_zoom G q) 48 [l0, l1, l2, l3, l4, l5, l6] [] σ) ∧ (¬ (a0 = none) → en_J (X_X6_zoom G q) 35 [l0, l1, l2, l3, l4, l5, l6] [] σ) := en_jb d_X6_zoom_32 rfl ⟨rfl, by decide⟩
theorem d_X6_zoom_35 : decode cX6_zoom 35 = .ok (.aload 5, 2) := by decide +kernel
theorem j_X6_zoom_35 {G : en_G} {q : Option en_V → en_S → Prop}  {l0 l1 l2 l3 l4 l6 : en_V} {x5 : Option Nat} {σ : en_S} : en_J (X_X6_zoom G q) 35 [l0, l1, l2, l3, l4, en_R x5, l6] [] σ ↔ en_J (X_X6_zoom G q) 37 [l0, l1, l2, l3, l4, en_R x5, l6] [en_R x5] σ := en_j1 d_X6_zoom_35 rfl rfl
theorem d_X6_zoom_37 : decode cX6_zoom 37 = .ok (.getfield 146, 3) := by decide +kernel
theorem j_X6_zoom_37 {G : en_G} {q : Option en_V → en_S → Prop}  {l0 l1 l2 l3 l4 l5 l6 : en_V} {a0 : Option Nat} {σ : en_S} : en_J (X_X6_zoom G q) 37 [l0, l1, l2, l3, l4, l5, l6] [en_R a0] σ ↔ ∃ a, a0 = some a ∧ en_cl σ a = some 4 ∧ en_J (X_X6_zoom G q) 40 [l0, l1, l2, l3, l4, l5, l6] [en_R (en_fr σ 410 a)] σ := en_jg (st := fun o => [en_R o]) (st' := fun a => [en_R (en_fr σ 410 a)]) (σ' := fun _ => σ) d_X6_zoom_37 rfl (fun a => rfl) (fun a => ⟨fun h => h.2, fun h => ⟨rfl, h⟩⟩)
theorem d_X6_zoom_40 : decode cX6_zoom 40 = .ok (.ifnull 8, 3) := by decide +kernel
theorem j_X6_zoom_40 {G : en_G} {q : Option en_V → en_S → Prop}  {l0 l1 l2 l3 l4 l5 l6 : en_V} {a0 : Option Nat} {σ : en_S} : en_J (X_X6_zoom G q) 40 [l0, l1, l2, l3, l4, l5, l6] [en_R a0] σ ↔ (a0 = none → en_J (X_X6_zoom G q) 48 [l0, l1, l2, l3, l4, l5, l6] [] σ) ∧ (¬ (a0 = none) → en_J (X_X6_zoom G q) 43 [l0, l1, l2, l3, l4, l5, l6] [] σ) := en_jb d_X6_zoom_40 rfl ⟨rfl, by decide⟩
theorem d_X6_zoom_43 : decode cX6_zoom 43 = .ok (.iload 6, 2) := by decide +kernel
theorem j_X6_zoom_43 {G : en_G} {q : Option en_V → en_S → Prop}  {l0 l1 l2 l3 l4 l5 : en_V} {x6 : Int32} {σ : en_S} : en_J (X_X6_zoom G q) 43 [l0, l1, l2, l3, l4, l5, en_I x6] [] σ ↔ en_J (X_X6_zoom G q) 45 [l0, l1, l2, l3, l4, l5, en_I x6] [en_I x6] σ := en_j1 d_X6_zoom_43 rfl rfl
theorem d_X6_zoom_45 : decode cX6_zoom 45 = .ok (.ifCond .ne 5, 3) := by decide +kernel
theorem j_X6_zoom_45 {G : en_G} {q : Option en_V → en_S → Prop}  {l0 l1 l2 l3 l4 l5 l6 : en_V} {a0 : Int32} {σ : en_S} : en_J (X_X6_zoom G q) 45 [l0, l1, l2, l3, l4, l5, l6] [en_I a0] σ ↔ (¬ a0 = 0 → en_J (X_X6_zoom G q) 50 [l0, l1, l2, l3, l4, l5, l6] [] σ) ∧ (¬ (¬ a0 = 0) → en_J (X_X6_zoom G q) 48 [l0, l1, l2, l3, l4, l5, l6] [] σ) := en_jb d_X6_zoom_45 rfl ⟨rfl, by decide⟩
theorem d_X6_zoom_48 : decode cX6_zoom 48 = .ok (.iconst 0, 1) := by decide +kernel
theorem j_X6_zoom_48 {G : en_G} {q : Option en_V → en_S → Prop}  {l0 l1 l2 l3 l4 l5 l6 : en_V}  {σ : en_S} : en_J (X_X6_zoom G q) 48 [l0, l1, l2, l3, l4, l5, l6] [] σ ↔ en_J (X_X6_zoom G q) 49 [l0, l1, l2, l3, l4, l5, l6] [en_I 0] σ := ej_iconst d_X6_zoom_48 (by decide +kernel)
theorem d_X6_zoom_49 : decode cX6_zoom 49 = .ok (.ireturn, 1) := by decide +kernel
theorem j_X6_zoom_49 {G : en_G} {q : Option en_V → en_S → Prop}  {l0 l1 l2 l3 l4 l5 l6 : en_V} {a0 : Int32} {σ : en_S} : en_J (X_X6_zoom G q) 49 [l0, l1, l2, l3, l4, l5, l6] [en_I a0] σ ↔ (a0 = 0 ∨ a0 = 1) ∧ q (some (en_I a0)) σ := en_jr d_X6_zoom_49 rfl ⟨fun h => ⟨h.2.1.elim (fun z => absurd (show (2 : Nat) = 1 from z) (by decide)) (fun z => z.2), h.2.2⟩, fun h => ⟨rfl, Or.inr ⟨rfl, h.1⟩, h.2⟩⟩
theorem d_X6_zoom_50 : decode cX6_zoom 50 = .ok (.aload 5, 2) := by decide +kernel
theorem j_X6_zoom_50 {G : en_G} {q : Option en_V → en_S → Prop}  {l0 l1 l2 l3 l4 l6 : en_V} {x5 : Option Nat} {σ : en_S} : en_J (X_X6_zoom G q) 50 [l0, l1, l2, l3, l4, en_R x5, l6] [] σ ↔ en_J (X_X6_zoom G q) 52 [l0, l1, l2, l3, l4, en_R x5, l6] [en_R x5] σ := en_j1 d_X6_zoom_50 rfl rfl
theorem d_X6_zoom_52 : decode cX6_zoom 52 = .ok (.getfield 146, 3) := by decide +kernel
theorem j_X6_zoom_52 {G : en_G} {q : Option en_V → en_S → Prop}  {l0 l1 l2 l3 l4 l5 l6 : en_V} {a0 : Option Nat} {σ : en_S} : en_J (X_X6_zoom G q) 52 [l0, l1, l2, l3, l4, l5, l6] [en_R a0] σ ↔ ∃ a, a0 = some a ∧ en_cl σ a = some 4 ∧ en_J (X_X6_zoom G q) 55 [l0, l1, l2, l3, l4, l5, l6] [en_R (en_fr σ 410 a)] σ := en_jg (st := fun o => [en_R o]) (st' := fun a => [en_R (en_fr σ 410 a)]) (σ' := fun _ => σ) d_X6_zoom_52 rfl (fun a => rfl) (fun a => ⟨fun h => h.2, fun h => ⟨rfl, h⟩⟩)
theorem d_X6_zoom_55 : decode cX6_zoom 55 = .ok (.dload_n 2, 1) := by decide +kernel
theorem j_X6_zoom_55 {G : en_G} {q : Option en_V → en_S → Prop}  {l0 l1 l3 l4 l5 l6 : en_V} {a0 : Option Nat} {x2 : UInt64} {σ : en_S} : en_J (X_X6_zoom G q) 55 [l0, l1, en_D x2, l3, l4, l5, l6] [en_R a0] σ ↔ en_J (X_X6_zoom G q) 56 [l0, l1, en_D x2, l3, l4, l5, l6] [en_D x2, en_R a0] σ := en_j1 d_X6_zoom_55 rfl rfl
theorem d_X6_zoom_56 : decode cX6_zoom 56 = .ok (.putfield 161, 3) := by decide +kernel
theorem j_X6_zoom_56 {G : en_G} {q : Option en_V → en_S → Prop}  {l0 l1 l2 l3 l4 l5 l6 : en_V} {a0 : UInt64} {a1 : Option Nat} {σ : en_S} : en_J (X_X6_zoom G q) 56 [l0, l1, l2, l3, l4, l5, l6] [en_D a0, en_R a1] σ ↔ ∃ a, a1 = some a ∧ en_cl σ a = some 0 ∧ en_J (X_X6_zoom G q) 59 [l0, l1, l2, l3, l4, l5, l6] [] (en_sfd σ 4 a a0) := en_jg (st := fun o => [en_D a0, en_R o]) (st' := fun _ => []) (σ' := fun a => en_sfd σ 4 a a0) d_X6_zoom_56 rfl (fun a => rfl) (fun a => ⟨fun h => h.2.1, fun h => ⟨rfl, h, trivial, fun z => absurd z (by decide +kernel)⟩⟩)
theorem d_X6_zoom_59 : decode cX6_zoom 59 = .ok (.aload 5, 2) := by decide +kernel
theorem j_X6_zoom_59 {G : en_G} {q : Option en_V → en_S → Prop}  {l0 l1 l2 l3 l4 l6 : en_V} {x5 : Option Nat} {σ : en_S} : en_J (X_X6_zoom G q) 59 [l0, l1, l2, l3, l4, en_R x5, l6] [] σ ↔ en_J (X_X6_zoom G q) 61 [l0, l1, l2, l3, l4, en_R x5, l6] [en_R x5] σ := en_j1 d_X6_zoom_59 rfl rfl
theorem d_X6_zoom_61 : decode cX6_zoom 61 = .ok (.getfield 146, 3) := by decide +kernel
theorem j_X6_zoom_61 {G : en_G} {q : Option en_V → en_S → Prop}  {l0 l1 l2 l3 l4 l5 l6 : en_V} {a0 : Option Nat} {σ : en_S} : en_J (X_X6_zoom G q) 61 [l0, l1, l2, l3, l4, l5, l6] [en_R a0] σ ↔ ∃ a, a0 = some a ∧ en_cl σ a = some 4 ∧ en_J (X_X6_zoom G q) 64 [l0, l1, l2, l3, l4, l5, l6] [en_R (en_fr σ 410 a)] σ := en_jg (st := fun o => [en_R o]) (st' := fun a => [en_R (en_fr σ 410 a)]) (σ' := fun _ => σ) d_X6_zoom_61 rfl (fun a => rfl) (fun a => ⟨fun h => h.2, fun h => ⟨rfl, h⟩⟩)
theorem d_X6_zoom_64 : decode cX6_zoom 64 = .ok (.iload 4, 2) := by decide +kernel
theorem j_X6_zoom_64 {G : en_G} {q : Option en_V → en_S → Prop}  {l0 l1 l2 l3 l5 l6 : en_V} {a0 : Option Nat} {x4 : Int32} {σ : en_S} : en_J (X_X6_zoom G q) 64 [l0, l1, l2, l3, en_I x4, l5, l6] [en_R a0] σ ↔ en_J (X_X6_zoom G q) 66 [l0, l1, l2, l3, en_I x4, l5, l6] [en_I x4, en_R a0] σ := en_j1 d_X6_zoom_64 rfl rfl
theorem d_X6_zoom_66 : decode cX6_zoom 66 = .ok (.putfield 165, 3) := by decide +kernel
theorem j_X6_zoom_66 {G : en_G} {q : Option en_V → en_S → Prop}  {l0 l1 l2 l3 l4 l5 l6 : en_V} {a0 : Int32} {a1 : Option Nat} {σ : en_S} : en_J (X_X6_zoom G q) 66 [l0, l1, l2, l3, l4, l5, l6] [en_I a0, en_R a1] σ ↔ ∃ a, a1 = some a ∧ en_cl σ a = some 0 ∧ en_J (X_X6_zoom G q) 69 [l0, l1, l2, l3, l4, l5, l6] [] (en_sfi σ 5 a a0) := en_jg (st := fun o => [en_I a0, en_R o]) (st' := fun _ => []) (σ' := fun a => en_sfi σ 5 a a0) d_X6_zoom_66 rfl (fun a => rfl) (fun a => ⟨fun h => h.2.1, fun h => ⟨rfl, h, trivial, fun z => absurd z (by decide +kernel)⟩⟩)
theorem d_X6_zoom_69 : decode cX6_zoom 69 = .ok (.iconst 1, 1) := by decide +kernel
theorem j_X6_zoom_69 {G : en_G} {q : Option en_V → en_S → Prop}  {l0 l1 l2 l3 l4 l5 l6 : en_V}  {σ : en_S} : en_J (X_X6_zoom G q) 69 [l0, l1, l2, l3, l4, l5, l6] [] σ ↔ en_J (X_X6_zoom G q) 70 [l0, l1, l2, l3, l4, l5, l6] [en_I 1] σ := ej_iconst d_X6_zoom_69 (by decide +kernel)
theorem d_X6_zoom_70 : decode cX6_zoom 70 = .ok (.ireturn, 1) := by decide +kernel
theorem j_X6_zoom_70 {G : en_G} {q : Option en_V → en_S → Prop}  {l0 l1 l2 l3 l4 l5 l6 : en_V} {a0 : Int32} {σ : en_S} : en_J (X_X6_zoom G q) 70 [l0, l1, l2, l3, l4, l5, l6] [en_I a0] σ ↔ (a0 = 0 ∨ a0 = 1) ∧ q (some (en_I a0)) σ := en_jr d_X6_zoom_70 rfl ⟨fun h => ⟨h.2.1.elim (fun z => absurd (show (2 : Nat) = 1 from z) (by decide)) (fun z => z.2), h.2.2⟩, fun h => ⟨rfl, Or.inr ⟨rfl, h.1⟩, h.2⟩⟩
theorem wc_X6_zoom : Jvm.Cond.code yX6_zoom cX6_zoom 7 (some .boolean) ∈ en_W := en_inW (List.mem_of_getElem? (i := 339) (by decide +kernel)) (by decide +kernel)
theorem wi_X6_zoom : Jvm.Cond.instanceMethod yX6_zoom ∈ en_W := en_inW (List.mem_of_getElem? (i := 337) (by decide +kernel)) (by decide +kernel)
theorem wx_X6_zoom : Jvm.Cond.selects RX6 yX6_zoom yX6_zoom ∈ en_W := en_inW (List.mem_of_getElem? (i := 338) (by decide +kernel)) (by decide +kernel)
theorem jl_X6_zoom {G : en_G}  {x : Nat} {rm : Nat} {S : pb_S} {k : Int32} {sc : UInt64} {ly : Int32} {q : Option en_V → en_S → Prop} {σ : en_S} (hp : PZ G x (rm + 64) S σ ∧ fb (-21) sc) (hq : ∀ v σ', (PZ G x rm (op_zoom S k sc ly).1 σ' ∧ ag σ σ' pF (pV x) ∧ v = some (en_I (op_zoom S k sc ly).2)) → q v σ') : en_J (X_X6_zoom G q) 0 [en_R (some x), en_I k, en_D sc, en_U, en_I ly, en_U, en_U] [] σ := by
  obtain ⟨⟨na, la, ba, hP⟩, hsc⟩ := hp
  have hC := hP.1
  have w := hC.2.2.2.2.2.2.2.2.1
  have i1 : ¬ (1 : Int32) = 0 := by decide
  have fin : op_zoom S k sc ly = (S, 0) → q (some (en_I 0)) σ := fun hop => hq _ _ ⟨by rw [hop]; exact hP.z (by omega), ag.rf, by rw [hop]⟩
  simp only [j_X6_zoom_0, j_X6_zoom_1, j_X6_zoom_2, j_X6_zoom_5, j_X6_zoom_7, j_X6_zoom_8, j_X6_zoom_11, j_X6_zoom_12, j_X6_zoom_15, j_X6_zoom_16, j_X6_zoom_19, j_X6_zoom_20, j_X6_zoom_23, j_X6_zoom_24, j_X6_zoom_27, j_X6_zoom_28, j_X6_zoom_30, j_X6_zoom_32, j_X6_zoom_35, j_X6_zoom_37, j_X6_zoom_40, j_X6_zoom_43, j_X6_zoom_45, j_X6_zoom_48, j_X6_zoom_49, j_X6_zoom_50, j_X6_zoom_52, j_X6_zoom_55, j_X6_zoom_56, j_X6_zoom_59, j_X6_zoom_61, j_X6_zoom_64, j_X6_zoom_66, j_X6_zoom_69, j_X6_zoom_70, en_c2I, en_c2R, en_c2U, en_c2D, Option.some.injEq, exists_eq_left', exists_eq_left, Option.map_some, Option.map_none, not_true_eq_false, false_implies, true_implies, and_true, true_and, reduceCtorEq, not_false_eq_true]
  refine en_use (cu_X6_nodeAt hC) ?_
  rintro v σ' ⟨rfl, rfl⟩
  cases hx : st_ix (tr_N (sa_T S.1)) k with
  | none =>
    have := fin (by unfold op_zoom; rw [hx])
    simp only [Option.toList, List.cons_append, List.nil_append, j_X6_zoom_0, j_X6_zoom_1, j_X6_zoom_2, j_X6_zoom_5, j_X6_zoom_7, j_X6_zoom_8, j_X6_zoom_11, j_X6_zoom_12, j_X6_zoom_15, j_X6_zoom_16, j_X6_zoom_19, j_X6_zoom_20, j_X6_zoom_23, j_X6_zoom_24, j_X6_zoom_27, j_X6_zoom_28, j_X6_zoom_30, j_X6_zoom_32, j_X6_zoom_35, j_X6_zoom_37, j_X6_zoom_40, j_X6_zoom_43, j_X6_zoom_45, j_X6_zoom_48, j_X6_zoom_49, j_X6_zoom_50, j_X6_zoom_52, j_X6_zoom_55, j_X6_zoom_56, j_X6_zoom_59, j_X6_zoom_61, j_X6_zoom_64, j_X6_zoom_66, j_X6_zoom_69, j_X6_zoom_70, en_c2I, en_c2R, en_c2U, en_c2D, Option.some.injEq, exists_eq_left', exists_eq_left, Option.map_some, Option.map_none, not_true_eq_false, false_implies, true_implies, and_true, true_and, reduceCtorEq, not_false_eq_true, true_or]
    exact ⟨fun _ => this, fun _ => ⟨fun _ => this, fun _ => this⟩⟩
  | some n =>
    obtain ⟨hn, rfl⟩ := st_ix_some (by have := w.1.1.2; omega) hx
    have hcl := (hC.2.1.1 n hn).1
    have hbr := (hC.2.2.1 n hn).2.1
    cases hb : sa_B S.1 n with
    | none =>
      rw [hb] at hbr
      have := fin (by unfold op_zoom; rw [hx]; simp only; rw [hb])
      simp only [Option.toList, List.cons_append, List.nil_append, j_X6_zoom_0, j_X6_zoom_1, j_X6_zoom_2, j_X6_zoom_5, j_X6_zoom_7, j_X6_zoom_8, j_X6_zoom_11, j_X6_zoom_12, j_X6_zoom_15, j_X6_zoom_16, j_X6_zoom_19, j_X6_zoom_20, j_X6_zoom_23, j_X6_zoom_24, j_X6_zoom_27, j_X6_zoom_28, j_X6_zoom_30, j_X6_zoom_32, j_X6_zoom_35, j_X6_zoom_37, j_X6_zoom_40, j_X6_zoom_43, j_X6_zoom_45, j_X6_zoom_48, j_X6_zoom_49, j_X6_zoom_50, j_X6_zoom_52, j_X6_zoom_55, j_X6_zoom_56, j_X6_zoom_59, j_X6_zoom_61, j_X6_zoom_64, j_X6_zoom_66, j_X6_zoom_69, j_X6_zoom_70, en_c2I, en_c2R, en_c2U, en_c2D, Option.some.injEq, exists_eq_left', exists_eq_left, Option.map_some, Option.map_none, not_true_eq_false, false_implies, true_implies, and_true, true_and, reduceCtorEq, not_false_eq_true, true_or, hcl, hbr]
      exact ⟨fun _ => this, fun _ => ⟨fun _ => this, fun _ => this⟩⟩
    | some b =>
      rw [hb] at hbr
      have hbc := (hC.2.2.2.1.1 n b hn hb).1
      by_cases h1 : Op.cmpValue (FP.dcmp sc 4593671619917905920) .l < 0
      · have := fin (by unfold op_zoom; rw [hx]; simp only; rw [hb]; simp only; rw [if_neg (fun z => z.1 h1)])
        simp only [Option.toList, List.cons_append, List.nil_append, j_X6_zoom_0, j_X6_zoom_1, j_X6_zoom_2, j_X6_zoom_5, j_X6_zoom_7, j_X6_zoom_8, j_X6_zoom_11, j_X6_zoom_12, j_X6_zoom_15, j_X6_zoom_16, j_X6_zoom_19, j_X6_zoom_20, j_X6_zoom_23, j_X6_zoom_24, j_X6_zoom_27, j_X6_zoom_28, j_X6_zoom_30, j_X6_zoom_32, j_X6_zoom_35, j_X6_zoom_37, j_X6_zoom_40, j_X6_zoom_43, j_X6_zoom_45, j_X6_zoom_48, j_X6_zoom_49, j_X6_zoom_50, j_X6_zoom_52, j_X6_zoom_55, j_X6_zoom_56, j_X6_zoom_59, j_X6_zoom_61, j_X6_zoom_64, j_X6_zoom_66, j_X6_zoom_69, j_X6_zoom_70, en_c2I, en_c2R, en_c2U, en_c2D, Option.some.injEq, exists_eq_left', exists_eq_left, Option.map_some, Option.map_none, not_true_eq_false, false_implies, true_implies, and_true, true_and, reduceCtorEq, not_false_eq_true, true_or, hcl, hbr, h1]
        exact this
      · by_cases h2 : 0 < Op.cmpValue (FP.dcmp sc 4616189618054758400) .g
        · have := fin (by unfold op_zoom; rw [hx]; simp only; rw [hb]; simp only; rw [if_neg (fun z => z.2 h2)])
          simp only [Option.toList, List.cons_append, List.nil_append, j_X6_zoom_0, j_X6_zoom_1, j_X6_zoom_2, j_X6_zoom_5, j_X6_zoom_7, j_X6_zoom_8, j_X6_zoom_11, j_X6_zoom_12, j_X6_zoom_15, j_X6_zoom_16, j_X6_zoom_19, j_X6_zoom_20, j_X6_zoom_23, j_X6_zoom_24, j_X6_zoom_27, j_X6_zoom_28, j_X6_zoom_30, j_X6_zoom_32, j_X6_zoom_35, j_X6_zoom_37, j_X6_zoom_40, j_X6_zoom_43, j_X6_zoom_45, j_X6_zoom_48, j_X6_zoom_49, j_X6_zoom_50, j_X6_zoom_52, j_X6_zoom_55, j_X6_zoom_56, j_X6_zoom_59, j_X6_zoom_61, j_X6_zoom_64, j_X6_zoom_66, j_X6_zoom_69, j_X6_zoom_70, en_c2I, en_c2R, en_c2U, en_c2D, Option.some.injEq, exists_eq_left', exists_eq_left, Option.map_some, Option.map_none, not_true_eq_false, false_implies, true_implies, and_true, true_and, reduceCtorEq, not_false_eq_true, true_or, hcl, hbr, h1, h2]
          exact this
        · have hop : op_zoom S (nI n) sc ly = ((su_B S.1 n (some (b.1, b.2.1, b.2.2.1, b.2.2.2.1, sc, ly)), S.2), 1) := by unfold op_zoom; rw [hx]; simp only; rw [hb]; simp only; rw [if_pos ⟨h1, h2⟩]
          rw [hop] at hq
          have hfb := (w.2.2.2.2.2.2 n b hn hb).2
          obtain ⟨c1, c2, c3, c4, c5, c6, c7⟩ := hC.2.2.2.1.1 n b hn hb
          have g : ∀ (F : Nat → Nat → Prop) (V : Nat → Prop), (∀ f, f < 10 → ¬ F f (ba n)) → ag σ' (en_sfi (en_sfd σ' 4 (ba n) sc) 5 (ba n) ly) F V := fun F V f1 => (ag_sfd (fun a z e => f1 4 (by decide) (by rw [← e]; exact z))).tr (ag_sfi (fun a z e => f1 5 (by decide) (by rw [← e]; exact z)))
          have hC' := cx_boxw (b' := (b.1, b.2.1, b.2.2.1, b.2.2.2.1, sc, ly)) hC hn hb ⟨hfb.1, hfb.2.1, hfb.2.2.1, hfb.2.2.2.1, hsc⟩ (g _ _ (fun f hf z => by rcases z with z | z; omega; exact z rfl)) ⟨rfl, rfl, rfl, rfl⟩ ⟨by simp [eg_fd_sfi, eg_fd_sfd, c2], by simp [eg_fd_sfi, eg_fd_sfd, c3], by simp [eg_fd_sfi, eg_fd_sfd, c4], by simp [eg_fd_sfi, eg_fd_sfd, c5], by simp [eg_fd_sfi, eg_fd_sfd], by simp [eg_fi_sfi]⟩
          simp only [Option.toList, List.cons_append, List.nil_append, j_X6_zoom_0, j_X6_zoom_1, j_X6_zoom_2, j_X6_zoom_5, j_X6_zoom_7, j_X6_zoom_8, j_X6_zoom_11, j_X6_zoom_12, j_X6_zoom_15, j_X6_zoom_16, j_X6_zoom_19, j_X6_zoom_20, j_X6_zoom_23, j_X6_zoom_24, j_X6_zoom_27, j_X6_zoom_28, j_X6_zoom_30, j_X6_zoom_32, j_X6_zoom_35, j_X6_zoom_37, j_X6_zoom_40, j_X6_zoom_43, j_X6_zoom_45, j_X6_zoom_48, j_X6_zoom_49, j_X6_zoom_50, j_X6_zoom_52, j_X6_zoom_55, j_X6_zoom_56, j_X6_zoom_59, j_X6_zoom_61, j_X6_zoom_64, j_X6_zoom_66, j_X6_zoom_69, j_X6_zoom_70, en_c2I, en_c2R, en_c2U, en_c2D, Option.some.injEq, exists_eq_left', exists_eq_left, Option.map_some, Option.map_none, not_true_eq_false, false_implies, true_implies, and_true, true_and, reduceCtorEq, not_false_eq_true, eg_cl_sfi, eg_fi_sfi, eg_fr_sfi, eg_fd_sfi, eg_al_sfi, eg_ai_sfi, eg_ar_sfi, eg_ad_sfi, eg_aj_sfi, eg_nx_sfi, eg_ns_sfi, eg_cl_sfr, eg_fi_sfr, eg_fr_sfr, eg_fd_sfr, eg_al_sfr, eg_ai_sfr, eg_ar_sfr, eg_ad_sfr, eg_aj_sfr, eg_nx_sfr, eg_ns_sfr, eg_cl_sfd, eg_fi_sfd, eg_fr_sfd, eg_fd_sfd, eg_al_sfd, eg_ai_sfd, eg_ar_sfd, eg_ad_sfd, eg_aj_sfd, eg_nx_sfd, eg_ns_sfd, eg_cl_sai, eg_fi_sai, eg_fr_sai, eg_fd_sai, eg_al_sai, eg_ai_sai, eg_ar_sai, eg_ad_sai, eg_aj_sai, eg_nx_sai, eg_ns_sai, eg_cl_sar, eg_fi_sar, eg_fr_sar, eg_fd_sar, eg_al_sar, eg_ai_sar, eg_ar_sar, eg_ad_sar, eg_aj_sar, eg_nx_sar, eg_ns_sar, eg_cl_sad, eg_fi_sad, eg_fr_sad, eg_fd_sad, eg_al_sad, eg_ai_sad, eg_ar_sad, eg_ad_sad, eg_aj_sad, eg_nx_sad, eg_ns_sad, eg_cl_saj, eg_fi_saj, eg_fr_saj, eg_fd_saj, eg_al_saj, eg_ai_saj, eg_ar_saj, eg_ad_saj, eg_aj_saj, eg_nx_saj, eg_ns_saj, eg_cl_new, eg_fi_new, eg_fr_new, eg_fd_new, eg_al_new, eg_ai_new, eg_ar_new, eg_ad_new, eg_aj_new, eg_nx_new, eg_ns_new, eg_cl_newa, eg_fi_newa, eg_fr_newa, eg_fd_newa, eg_al_newa, eg_ai_newa, eg_ar_newa, eg_ad_newa, eg_aj_newa, eg_nx_newa, eg_ns_newa, eg_cl_bump, eg_fi_bump, eg_fr_bump, eg_fd_bump, eg_al_bump, eg_ai_bump, eg_ar_bump, eg_ad_bump, eg_aj_bump, eg_nx_bump, eg_ns_bump, true_or, or_true, hcl, hbr, hbc, h1, h2, i1]
          exact hq _ _ ⟨(hP.of hC' (g (fun f a => 10 ≤ f) (fun _ => True) (fun f hf z => by omega)) (fun f hf => by omega) (Nat.le_refl _)).z (by omega), (g (fun f a => 10 ≤ f) (fun _ => True) (fun f hf z => by omega)).mono (fun f a z => by unfold pF at z; omega) (fun a z => trivial), rfl⟩
theorem jp_X6_zoom {G : en_G}  : ∀ as σ, (C_X6_zoom G).1 as σ → (en_lc as).length ≤ 7 ∧ en_J (X_X6_zoom G (fun r σ' => (C_X6_zoom G).2 as σ r σ')) 0 (en_loc 7 as) [] σ := en_ghJ (fun g as σ h => by
  obtain ⟨hp, h2⟩ := h
  subst h2
  exact ⟨Nat.le_of_ble_eq_true rfl, jl_X6_zoom hp (fun _ _ h => h)⟩)
theorem wl_X6_zoom_57 : Jvm.Cond.methodLink RX6 57 yX6_nodeAt ∈ en_W := en_inW (List.mem_of_getElem? (i := 248) (by decide +kernel)) (by decide +kernel)
theorem ok_X6_zoom {G : en_G}  : en_Ok G 2 yX6_zoom cX6_zoom 7 (some .boolean) (C_X6_zoom G) :=
  en_met (own := RX6) (fl := en_lk fl6) (nw := en_lk nw6) (aw := en_lk aw6) (dc := en_lk dc6) (ca := en_lk (ca_X6_zoom G)) (rt := 2) (ini := false) (by decide +kernel) (Or.inr (Or.inr (Or.inl ⟨rfl, rfl⟩))) (fun h => by cases h) rfl (fun q => en_LkF fl6_ok nw6_ok aw6_ok dc6_ok) (by
    intro idx q hq
    have hm := en_lk_mem hq
    simp only [ca_X6_zoom, List.mem_cons, Prod.mk.injEq, List.not_mem_nil, or_false] at hm
    rcases hm with ⟨rfl, rfl⟩
    · exact en_clV (r := (RX6, TX6, 13)) 6 1 ok_X6_nodeAt (by decide) (by decide) rfl rfl pr_X6_nodeAt wl_X6_zoom_57 wi_X6_nodeAt wx_X6_nodeAt wz_6 wc_X6_nodeAt ⟨by decide +kernel, by decide +kernel, by decide +kernel⟩) jp_X6_zoom
def P_X6_node (G : en_G)  (g : (Nat) × (Nat → Nat) × (Nat → Nat) × (Nat → Nat) × (Nat) × (pb_S) × (Int32) × (Int32)) (as : List en_V) (σ : en_S) : Prop := (PX G (g.1) (g.2.1) (g.2.2.1) (g.2.2.2.1) (g.2.2.2.2.1) (g.2.2.2.2.2.1) σ) ∧ as = [en_R (some (g.1)), en_I (g.2.2.2.2.2.2.1), en_I (g.2.2.2.2.2.2.2)]
def C_X6_node (G : en_G)  : en_C := en_gh (P_X6_node G) (fun g as σ v σ' => σ' = σ ∧ v = some (en_I (op_node (g.2.2.2.2.2.1) (g.2.2.2.2.2.2.1) (g.2.2.2.2.2.2.2))))
theorem pr_X6_node {G : en_G}  : ∀ as σ, (C_X6_node G).1 as σ → ∃ b tl, as = en_R (some b) :: tl ∧ en_cl σ b = some 6 ∧ tl.length = 2 := fun as σ ⟨g, hp, h2⟩ => ⟨_, _, h2, hp.1.1.1.1, rfl⟩
theorem cu_X6_node {G : en_G}  {x : Nat} {na : Nat → Nat} {la : Nat → Nat} {ba : Nat → Nat} {rm : Nat} {S : pb_S} {k : Int32} {u : Int32} {σ : en_S} (hp : PX G x na la ba rm S σ) : en_Us (C_X6_node G) [en_R (some x), en_I k, en_I u] σ (fun v σ' => σ' = σ ∧ v = some (en_I (op_node S k u))) := ⟨⟨(x, na, la, ba, rm, S, k, u), hp, rfl⟩, fun v σ' q => q (x, na, la, ba, rm, S, k, u) ⟨hp, rfl⟩⟩
def ca_X6_node (G : en_G) : List (Nat × Nat × en_C) := [(57, 9, (C_X6_nodeAt G)), (53, 4, C_X6_numberOf), (202, 5, C_X4_assignedSlot), (209, 5, C_X4_childCount), (216, 5, C_X4_root)]
def X_X6_node (G : en_G) (q : Option en_V → en_S → Prop) : en_X := en_mk G cX6_node (en_lk fl6) (en_lk nw6) (en_lk aw6) (en_lk dc6) (en_lk (ca_X6_node G)) 1 false q
theorem d_X6_node_0 : decode cX6_node 0 = .ok (.aload_n 0, 1) := by decide +kernel
theorem j_X6_node_0 {G : en_G} {q : Option en_V → en_S → Prop}  {l1 l2 l3 : en_V} {x0 : Option Nat} {σ : en_S} : en_J (X_X6_node G q) 0 [en_R x0, l1, l2, l3] [] σ ↔ en_J (X_X6_node G q) 1 [en_R x0, l1, l2, l3] [en_R x0] σ := en_j1 d_X6_node_0 rfl rfl
theorem d_X6_node_1 : decode cX6_node 1 = .ok (.iload_n 1, 1) := by decide +kernel
theorem j_X6_node_1 {G : en_G} {q : Option en_V → en_S → Prop}  {l0 l2 l3 : en_V} {a0 : Option Nat} {x1 : Int32} {σ : en_S} : en_J (X_X6_node G q) 1 [l0, en_I x1, l2, l3] [en_R a0] σ ↔ en_J (X_X6_node G q) 2 [l0, en_I x1, l2, l3] [en_I x1, en_R a0] σ := en_j1 d_X6_node_1 rfl rfl
theorem d_X6_node_2 : decode cX6_node 2 = .ok (.invokevirtual 57, 3) := by decide +kernel
theorem j_X6_node_2 {G : en_G} {q : Option en_V → en_S → Prop}  {l0 l1 l2 l3 : en_V} {a0 : Int32} {a1 : Option Nat} {σ : en_S} : en_J (X_X6_node G q) 2 [l0, l1, l2, l3] [en_I a0, en_R a1] σ ↔ (C_X6_nodeAt G).1 [en_R a1, en_I a0] σ ∧ ∀ (r : Option en_V) (σ' : en_S), (C_X6_nodeAt G).2 [en_R a1, en_I a0] σ r σ' → en_J (X_X6_node G q) 5 [l0, l1, l2, l3] (r.toList ++ []) σ' := en_jkC (C := (C_X6_nodeAt G)) (n' := 2) (k := 1) (idx := 57) d_X6_node_2 rfl rfl (by decide) (Nat.le_of_ble_eq_true rfl) (Nat.le_of_ble_eq_true rfl)
theorem d_X6_node_5 : decode cX6_node 5 = .ok (.astore_n 3, 1) := by decide +kernel
theorem j_X6_node_5 {G : en_G} {q : Option en_V → en_S → Prop}  {l0 l1 l2 l3 : en_V} {a0 : Option Nat} {σ : en_S} : en_J (X_X6_node G q) 5 [l0, l1, l2, l3] [en_R a0] σ ↔ en_J (X_X6_node G q) 6 [l0, l1, en_c2 l2, en_R a0] [] σ := en_j1 d_X6_node_5 rfl ⟨rfl, Nat.le_of_ble_eq_true rfl⟩
theorem d_X6_node_6 : decode cX6_node 6 = .ok (.aload_n 3, 1) := by decide +kernel
theorem j_X6_node_6 {G : en_G} {q : Option en_V → en_S → Prop}  {l0 l1 l2 : en_V} {x3 : Option Nat} {σ : en_S} : en_J (X_X6_node G q) 6 [l0, l1, l2, en_R x3] [] σ ↔ en_J (X_X6_node G q) 7 [l0, l1, l2, en_R x3] [en_R x3] σ := en_j1 d_X6_node_6 rfl rfl
theorem d_X6_node_7 : decode cX6_node 7 = .ok (.ifnonnull 5, 3) := by decide +kernel
theorem j_X6_node_7 {G : en_G} {q : Option en_V → en_S → Prop}  {l0 l1 l2 l3 : en_V} {a0 : Option Nat} {σ : en_S} : en_J (X_X6_node G q) 7 [l0, l1, l2, l3] [en_R a0] σ ↔ (¬ a0 = none → en_J (X_X6_node G q) 12 [l0, l1, l2, l3] [] σ) ∧ (¬ (¬ a0 = none) → en_J (X_X6_node G q) 10 [l0, l1, l2, l3] [] σ) := en_jb d_X6_node_7 rfl ⟨rfl, by decide⟩
theorem d_X6_node_10 : decode cX6_node 10 = .ok (.iconst (-1), 1) := by decide +kernel
theorem j_X6_node_10 {G : en_G} {q : Option en_V → en_S → Prop}  {l0 l1 l2 l3 : en_V}  {σ : en_S} : en_J (X_X6_node G q) 10 [l0, l1, l2, l3] [] σ ↔ en_J (X_X6_node G q) 11 [l0, l1, l2, l3] [en_I (-1)] σ := ej_iconst d_X6_node_10 (by decide +kernel)
theorem d_X6_node_11 : decode cX6_node 11 = .ok (.ireturn, 1) := by decide +kernel
theorem j_X6_node_11 {G : en_G} {q : Option en_V → en_S → Prop}  {l0 l1 l2 l3 : en_V} {a0 : Int32} {σ : en_S} : en_J (X_X6_node G q) 11 [l0, l1, l2, l3] [en_I a0] σ ↔ q (some (en_I a0)) σ := en_jr d_X6_node_11 rfl ⟨fun h => h.2.2, fun h => ⟨rfl, Or.inl rfl, h⟩⟩
theorem d_X6_node_12 : decode cX6_node 12 = .ok (.iload_n 2, 1) := by decide +kernel
theorem j_X6_node_12 {G : en_G} {q : Option en_V → en_S → Prop}  {l0 l1 l3 : en_V} {x2 : Int32} {σ : en_S} : en_J (X_X6_node G q) 12 [l0, l1, en_I x2, l3] [] σ ↔ en_J (X_X6_node G q) 13 [l0, l1, en_I x2, l3] [en_I x2] σ := en_j1 d_X6_node_12 rfl rfl
theorem d_X6_node_13 : decode cX6_node 13 = .ok (.tableswitch 110 0 7 #[47, 52, 60, 68, 76, 84, 89, 102], 47) := by decide +kernel
theorem j_X6_node_13_0 {G : en_G} {q : Option en_V → en_S → Prop}  {l0 l1 l2 l3 : en_V} {σ : en_S} : en_J (X_X6_node G q) 13 [l0, l1, l2, l3] [en_I 0] σ ↔ en_J (X_X6_node G q) 60 [l0, l1, l2, l3] [] σ := ej_table d_X6_node_13 (by decide +kernel)
theorem j_X6_node_13_1 {G : en_G} {q : Option en_V → en_S → Prop}  {l0 l1 l2 l3 : en_V} {σ : en_S} : en_J (X_X6_node G q) 13 [l0, l1, l2, l3] [en_I 1] σ ↔ en_J (X_X6_node G q) 65 [l0, l1, l2, l3] [] σ := ej_table d_X6_node_13 (by decide +kernel)
theorem j_X6_node_13_2 {G : en_G} {q : Option en_V → en_S → Prop}  {l0 l1 l2 l3 : en_V} {σ : en_S} : en_J (X_X6_node G q) 13 [l0, l1, l2, l3] [en_I 2] σ ↔ en_J (X_X6_node G q) 73 [l0, l1, l2, l3] [] σ := ej_table d_X6_node_13 (by decide +kernel)
theorem j_X6_node_13_3 {G : en_G} {q : Option en_V → en_S → Prop}  {l0 l1 l2 l3 : en_V} {σ : en_S} : en_J (X_X6_node G q) 13 [l0, l1, l2, l3] [en_I 3] σ ↔ en_J (X_X6_node G q) 81 [l0, l1, l2, l3] [] σ := ej_table d_X6_node_13 (by decide +kernel)
theorem j_X6_node_13_4 {G : en_G} {q : Option en_V → en_S → Prop}  {l0 l1 l2 l3 : en_V} {σ : en_S} : en_J (X_X6_node G q) 13 [l0, l1, l2, l3] [en_I 4] σ ↔ en_J (X_X6_node G q) 89 [l0, l1, l2, l3] [] σ := ej_table d_X6_node_13 (by decide +kernel)
theorem j_X6_node_13_5 {G : en_G} {q : Option en_V → en_S → Prop}  {l0 l1 l2 l3 : en_V} {σ : en_S} : en_J (X_X6_node G q) 13 [l0, l1, l2, l3] [en_I 5] σ ↔ en_J (X_X6_node G q) 97 [l0, l1, l2, l3] [] σ := ej_table d_X6_node_13 (by decide +kernel)
theorem j_X6_node_13_6 {G : en_G} {q : Option en_V → en_S → Prop}  {l0 l1 l2 l3 : en_V} {σ : en_S} : en_J (X_X6_node G q) 13 [l0, l1, l2, l3] [en_I 6] σ ↔ en_J (X_X6_node G q) 102 [l0, l1, l2, l3] [] σ := ej_table d_X6_node_13 (by decide +kernel)
theorem j_X6_node_13_7 {G : en_G} {q : Option en_V → en_S → Prop}  {l0 l1 l2 l3 : en_V} {σ : en_S} : en_J (X_X6_node G q) 13 [l0, l1, l2, l3] [en_I 7] σ ↔ en_J (X_X6_node G q) 115 [l0, l1, l2, l3] [] σ := ej_table d_X6_node_13 (by decide +kernel)
theorem j_X6_node_13_d {G : en_G} {q : Option en_V → en_S → Prop}  {l0 l1 l2 l3 : en_V} {σ : en_S} {x : Int32} (hx : x.toInt < 0 ∨ 7 < x.toInt) : en_J (X_X6_node G q) 13 [l0, l1, l2, l3] [en_I x] σ ↔ en_J (X_X6_node G q) 123 [l0, l1, l2, l3] [] σ := ej_table d_X6_node_13 (en_tswD hx (by decide +kernel))
theorem d_X6_node_60 : decode cX6_node 60 = .ok (.aload_n 3, 1) := by decide +kernel
theorem j_X6_node_60 {G : en_G} {q : Option en_V → en_S → Prop}  {l0 l1 l2 : en_V} {x3 : Option Nat} {σ : en_S} : en_J (X_X6_node G q) 60 [l0, l1, l2, en_R x3] [] σ ↔ en_J (X_X6_node G q) 61 [l0, l1, l2, en_R x3] [en_R x3] σ := en_j1 d_X6_node_60 rfl rfl
theorem d_X6_node_61 : decode cX6_node 61 = .ok (.getfield 61, 3) := by decide +kernel
theorem j_X6_node_61 {G : en_G} {q : Option en_V → en_S → Prop}  {l0 l1 l2 l3 : en_V} {a0 : Option Nat} {σ : en_S} : en_J (X_X6_node G q) 61 [l0, l1, l2, l3] [en_R a0] σ ↔ ∃ a, a0 = some a ∧ en_cl σ a = some 4 ∧ en_J (X_X6_node G q) 64 [l0, l1, l2, l3] [en_I (en_fi σ 401 a)] σ := en_jg (st := fun o => [en_R o]) (st' := fun a => [en_I (en_fi σ 401 a)]) (σ' := fun _ => σ) d_X6_node_61 rfl (fun a => rfl) (fun a => ⟨fun h => h.2, fun h => ⟨rfl, h⟩⟩)
theorem d_X6_node_64 : decode cX6_node 64 = .ok (.ireturn, 1) := by decide +kernel
theorem j_X6_node_64 {G : en_G} {q : Option en_V → en_S → Prop}  {l0 l1 l2 l3 : en_V} {a0 : Int32} {σ : en_S} : en_J (X_X6_node G q) 64 [l0, l1, l2, l3] [en_I a0] σ ↔ q (some (en_I a0)) σ := en_jr d_X6_node_64 rfl ⟨fun h => h.2.2, fun h => ⟨rfl, Or.inl rfl, h⟩⟩
theorem d_X6_node_65 : decode cX6_node 65 = .ok (.aload_n 3, 1) := by decide +kernel
theorem j_X6_node_65 {G : en_G} {q : Option en_V → en_S → Prop}  {l0 l1 l2 : en_V} {x3 : Option Nat} {σ : en_S} : en_J (X_X6_node G q) 65 [l0, l1, l2, en_R x3] [] σ ↔ en_J (X_X6_node G q) 66 [l0, l1, l2, en_R x3] [en_R x3] σ := en_j1 d_X6_node_65 rfl rfl
theorem d_X6_node_66 : decode cX6_node 66 = .ok (.getfield 88, 3) := by decide +kernel
theorem j_X6_node_66 {G : en_G} {q : Option en_V → en_S → Prop}  {l0 l1 l2 l3 : en_V} {a0 : Option Nat} {σ : en_S} : en_J (X_X6_node G q) 66 [l0, l1, l2, l3] [en_R a0] σ ↔ ∃ a, a0 = some a ∧ en_cl σ a = some 4 ∧ en_J (X_X6_node G q) 69 [l0, l1, l2, l3] [en_R (en_fr σ 404 a)] σ := en_jg (st := fun o => [en_R o]) (st' := fun a => [en_R (en_fr σ 404 a)]) (σ' := fun _ => σ) d_X6_node_66 rfl (fun a => rfl) (fun a => ⟨fun h => h.2, fun h => ⟨rfl, h⟩⟩)
theorem d_X6_node_69 : decode cX6_node 69 = .ok (.invokestatic 53, 3) := by decide +kernel
theorem j_X6_node_69 {G : en_G} {q : Option en_V → en_S → Prop}  {l0 l1 l2 l3 : en_V} {a0 : Option Nat} {σ : en_S} : en_J (X_X6_node G q) 69 [l0, l1, l2, l3] [en_R a0] σ ↔ C_X6_numberOf.1 [en_R a0] σ ∧ ∀ (r : Option en_V) (σ' : en_S), C_X6_numberOf.2 [en_R a0] σ r σ' → en_J (X_X6_node G q) 72 [l0, l1, l2, l3] (r.toList ++ []) σ' := en_jk d_X6_node_69 rfl ⟨fun h => h.2.2.2.2, fun h => ⟨rfl, rfl, Nat.le_of_ble_eq_true rfl, Nat.le_of_ble_eq_true rfl, h⟩⟩
theorem d_X6_node_72 : decode cX6_node 72 = .ok (.ireturn, 1) := by decide +kernel
theorem j_X6_node_72 {G : en_G} {q : Option en_V → en_S → Prop}  {l0 l1 l2 l3 : en_V} {a0 : Int32} {σ : en_S} : en_J (X_X6_node G q) 72 [l0, l1, l2, l3] [en_I a0] σ ↔ q (some (en_I a0)) σ := en_jr d_X6_node_72 rfl ⟨fun h => h.2.2, fun h => ⟨rfl, Or.inl rfl, h⟩⟩
theorem d_X6_node_73 : decode cX6_node 73 = .ok (.aload_n 3, 1) := by decide +kernel
theorem j_X6_node_73 {G : en_G} {q : Option en_V → en_S → Prop}  {l0 l1 l2 : en_V} {x3 : Option Nat} {σ : en_S} : en_J (X_X6_node G q) 73 [l0, l1, l2, en_R x3] [] σ ↔ en_J (X_X6_node G q) 74 [l0, l1, l2, en_R x3] [en_R x3] σ := en_j1 d_X6_node_73 rfl rfl
theorem d_X6_node_74 : decode cX6_node 74 = .ok (.invokevirtual 202, 3) := by decide +kernel
theorem j_X6_node_74 {G : en_G} {q : Option en_V → en_S → Prop}  {l0 l1 l2 l3 : en_V} {a0 : Option Nat} {σ : en_S} : en_J (X_X6_node G q) 74 [l0, l1, l2, l3] [en_R a0] σ ↔ C_X4_assignedSlot.1 [en_R a0] σ ∧ ∀ (r : Option en_V) (σ' : en_S), C_X4_assignedSlot.2 [en_R a0] σ r σ' → en_J (X_X6_node G q) 77 [l0, l1, l2, l3] (r.toList ++ []) σ' := en_jk d_X6_node_74 rfl ⟨fun h => h.2.2.2.2, fun h => ⟨rfl, rfl, Nat.le_of_ble_eq_true rfl, Nat.le_of_ble_eq_true rfl, h⟩⟩
theorem d_X6_node_77 : decode cX6_node 77 = .ok (.invokestatic 53, 3) := by decide +kernel
theorem j_X6_node_77 {G : en_G} {q : Option en_V → en_S → Prop}  {l0 l1 l2 l3 : en_V} {a0 : Option Nat} {σ : en_S} : en_J (X_X6_node G q) 77 [l0, l1, l2, l3] [en_R a0] σ ↔ C_X6_numberOf.1 [en_R a0] σ ∧ ∀ (r : Option en_V) (σ' : en_S), C_X6_numberOf.2 [en_R a0] σ r σ' → en_J (X_X6_node G q) 80 [l0, l1, l2, l3] (r.toList ++ []) σ' := en_jk d_X6_node_77 rfl ⟨fun h => h.2.2.2.2, fun h => ⟨rfl, rfl, Nat.le_of_ble_eq_true rfl, Nat.le_of_ble_eq_true rfl, h⟩⟩
theorem d_X6_node_80 : decode cX6_node 80 = .ok (.ireturn, 1) := by decide +kernel
theorem j_X6_node_80 {G : en_G} {q : Option en_V → en_S → Prop}  {l0 l1 l2 l3 : en_V} {a0 : Int32} {σ : en_S} : en_J (X_X6_node G q) 80 [l0, l1, l2, l3] [en_I a0] σ ↔ q (some (en_I a0)) σ := en_jr d_X6_node_80 rfl ⟨fun h => h.2.2, fun h => ⟨rfl, Or.inl rfl, h⟩⟩
theorem d_X6_node_81 : decode cX6_node 81 = .ok (.aload_n 3, 1) := by decide +kernel
theorem j_X6_node_81 {G : en_G} {q : Option en_V → en_S → Prop}  {l0 l1 l2 : en_V} {x3 : Option Nat} {σ : en_S} : en_J (X_X6_node G q) 81 [l0, l1, l2, en_R x3] [] σ ↔ en_J (X_X6_node G q) 82 [l0, l1, l2, en_R x3] [en_R x3] σ := en_j1 d_X6_node_81 rfl rfl
theorem d_X6_node_82 : decode cX6_node 82 = .ok (.getfield 64, 3) := by decide +kernel
theorem j_X6_node_82 {G : en_G} {q : Option en_V → en_S → Prop}  {l0 l1 l2 l3 : en_V} {a0 : Option Nat} {σ : en_S} : en_J (X_X6_node G q) 82 [l0, l1, l2, l3] [en_R a0] σ ↔ ∃ a, a0 = some a ∧ en_cl σ a = some 4 ∧ en_J (X_X6_node G q) 85 [l0, l1, l2, l3] [en_R (en_fr σ 409 a)] σ := en_jg (st := fun o => [en_R o]) (st' := fun a => [en_R (en_fr σ 409 a)]) (σ' := fun _ => σ) d_X6_node_82 rfl (fun a => rfl) (fun a => ⟨fun h => h.2, fun h => ⟨rfl, h⟩⟩)
theorem d_X6_node_85 : decode cX6_node 85 = .ok (.invokestatic 53, 3) := by decide +kernel
theorem j_X6_node_85 {G : en_G} {q : Option en_V → en_S → Prop}  {l0 l1 l2 l3 : en_V} {a0 : Option Nat} {σ : en_S} : en_J (X_X6_node G q) 85 [l0, l1, l2, l3] [en_R a0] σ ↔ C_X6_numberOf.1 [en_R a0] σ ∧ ∀ (r : Option en_V) (σ' : en_S), C_X6_numberOf.2 [en_R a0] σ r σ' → en_J (X_X6_node G q) 88 [l0, l1, l2, l3] (r.toList ++ []) σ' := en_jk d_X6_node_85 rfl ⟨fun h => h.2.2.2.2, fun h => ⟨rfl, rfl, Nat.le_of_ble_eq_true rfl, Nat.le_of_ble_eq_true rfl, h⟩⟩
theorem d_X6_node_88 : decode cX6_node 88 = .ok (.ireturn, 1) := by decide +kernel
theorem j_X6_node_88 {G : en_G} {q : Option en_V → en_S → Prop}  {l0 l1 l2 l3 : en_V} {a0 : Int32} {σ : en_S} : en_J (X_X6_node G q) 88 [l0, l1, l2, l3] [en_I a0] σ ↔ q (some (en_I a0)) σ := en_jr d_X6_node_88 rfl ⟨fun h => h.2.2, fun h => ⟨rfl, Or.inl rfl, h⟩⟩
theorem d_X6_node_89 : decode cX6_node 89 = .ok (.aload_n 3, 1) := by decide +kernel
theorem j_X6_node_89 {G : en_G} {q : Option en_V → en_S → Prop}  {l0 l1 l2 : en_V} {x3 : Option Nat} {σ : en_S} : en_J (X_X6_node G q) 89 [l0, l1, l2, en_R x3] [] σ ↔ en_J (X_X6_node G q) 90 [l0, l1, l2, en_R x3] [en_R x3] σ := en_j1 d_X6_node_89 rfl rfl
theorem d_X6_node_90 : decode cX6_node 90 = .ok (.getfield 206, 3) := by decide +kernel
theorem j_X6_node_90 {G : en_G} {q : Option en_V → en_S → Prop}  {l0 l1 l2 l3 : en_V} {a0 : Option Nat} {σ : en_S} : en_J (X_X6_node G q) 90 [l0, l1, l2, l3] [en_R a0] σ ↔ ∃ a, a0 = some a ∧ en_cl σ a = some 4 ∧ en_J (X_X6_node G q) 93 [l0, l1, l2, l3] [en_R (en_fr σ 403 a)] σ := en_jg (st := fun o => [en_R o]) (st' := fun a => [en_R (en_fr σ 403 a)]) (σ' := fun _ => σ) d_X6_node_90 rfl (fun a => rfl) (fun a => ⟨fun h => h.2, fun h => ⟨rfl, h⟩⟩)
theorem d_X6_node_93 : decode cX6_node 93 = .ok (.invokestatic 53, 3) := by decide +kernel
theorem j_X6_node_93 {G : en_G} {q : Option en_V → en_S → Prop}  {l0 l1 l2 l3 : en_V} {a0 : Option Nat} {σ : en_S} : en_J (X_X6_node G q) 93 [l0, l1, l2, l3] [en_R a0] σ ↔ C_X6_numberOf.1 [en_R a0] σ ∧ ∀ (r : Option en_V) (σ' : en_S), C_X6_numberOf.2 [en_R a0] σ r σ' → en_J (X_X6_node G q) 96 [l0, l1, l2, l3] (r.toList ++ []) σ' := en_jk d_X6_node_93 rfl ⟨fun h => h.2.2.2.2, fun h => ⟨rfl, rfl, Nat.le_of_ble_eq_true rfl, Nat.le_of_ble_eq_true rfl, h⟩⟩
theorem d_X6_node_96 : decode cX6_node 96 = .ok (.ireturn, 1) := by decide +kernel
theorem j_X6_node_96 {G : en_G} {q : Option en_V → en_S → Prop}  {l0 l1 l2 l3 : en_V} {a0 : Int32} {σ : en_S} : en_J (X_X6_node G q) 96 [l0, l1, l2, l3] [en_I a0] σ ↔ q (some (en_I a0)) σ := en_jr d_X6_node_96 rfl ⟨fun h => h.2.2, fun h => ⟨rfl, Or.inl rfl, h⟩⟩
theorem d_X6_node_97 : decode cX6_node 97 = .ok (.aload_n 3, 1) := by decide +kernel
theorem j_X6_node_97 {G : en_G} {q : Option en_V → en_S → Prop}  {l0 l1 l2 : en_V} {x3 : Option Nat} {σ : en_S} : en_J (X_X6_node G q) 97 [l0, l1, l2, en_R x3] [] σ ↔ en_J (X_X6_node G q) 98 [l0, l1, l2, en_R x3] [en_R x3] σ := en_j1 d_X6_node_97 rfl rfl
theorem d_X6_node_98 : decode cX6_node 98 = .ok (.invokevirtual 209, 3) := by decide +kernel
theorem j_X6_node_98 {G : en_G} {q : Option en_V → en_S → Prop}  {l0 l1 l2 l3 : en_V} {a0 : Option Nat} {σ : en_S} : en_J (X_X6_node G q) 98 [l0, l1, l2, l3] [en_R a0] σ ↔ C_X4_childCount.1 [en_R a0] σ ∧ ∀ (r : Option en_V) (σ' : en_S), C_X4_childCount.2 [en_R a0] σ r σ' → en_J (X_X6_node G q) 101 [l0, l1, l2, l3] (r.toList ++ []) σ' := en_jk d_X6_node_98 rfl ⟨fun h => h.2.2.2.2, fun h => ⟨rfl, rfl, Nat.le_of_ble_eq_true rfl, Nat.le_of_ble_eq_true rfl, h⟩⟩
theorem d_X6_node_101 : decode cX6_node 101 = .ok (.ireturn, 1) := by decide +kernel
theorem j_X6_node_101 {G : en_G} {q : Option en_V → en_S → Prop}  {l0 l1 l2 l3 : en_V} {a0 : Int32} {σ : en_S} : en_J (X_X6_node G q) 101 [l0, l1, l2, l3] [en_I a0] σ ↔ q (some (en_I a0)) σ := en_jr d_X6_node_101 rfl ⟨fun h => h.2.2, fun h => ⟨rfl, Or.inl rfl, h⟩⟩
theorem d_X6_node_102 : decode cX6_node 102 = .ok (.aload_n 3, 1) := by decide +kernel
theorem j_X6_node_102 {G : en_G} {q : Option en_V → en_S → Prop}  {l0 l1 l2 : en_V} {x3 : Option Nat} {σ : en_S} : en_J (X_X6_node G q) 102 [l0, l1, l2, en_R x3] [] σ ↔ en_J (X_X6_node G q) 103 [l0, l1, l2, en_R x3] [en_R x3] σ := en_j1 d_X6_node_102 rfl rfl
theorem d_X6_node_103 : decode cX6_node 103 = .ok (.getfield 213, 3) := by decide +kernel
theorem j_X6_node_103 {G : en_G} {q : Option en_V → en_S → Prop}  {l0 l1 l2 l3 : en_V} {a0 : Option Nat} {σ : en_S} : en_J (X_X6_node G q) 103 [l0, l1, l2, l3] [en_R a0] σ ↔ ∃ a, a0 = some a ∧ en_cl σ a = some 4 ∧ en_J (X_X6_node G q) 106 [l0, l1, l2, l3] [en_I (en_fi σ 411 a)] σ := en_jg (st := fun o => [en_R o]) (st' := fun a => [en_I (en_fi σ 411 a)]) (σ' := fun _ => σ) d_X6_node_103 rfl (fun a => rfl) (fun a => ⟨fun h => h.2, fun h => ⟨rfl, h⟩⟩)
theorem d_X6_node_106 : decode cX6_node 106 = .ok (.ifCond .eq 7, 3) := by decide +kernel
theorem j_X6_node_106 {G : en_G} {q : Option en_V → en_S → Prop}  {l0 l1 l2 l3 : en_V} {a0 : Int32} {σ : en_S} : en_J (X_X6_node G q) 106 [l0, l1, l2, l3] [en_I a0] σ ↔ (a0 = 0 → en_J (X_X6_node G q) 113 [l0, l1, l2, l3] [] σ) ∧ (¬ (a0 = 0) → en_J (X_X6_node G q) 109 [l0, l1, l2, l3] [] σ) := en_jb d_X6_node_106 rfl ⟨rfl, by decide⟩
theorem d_X6_node_109 : decode cX6_node 109 = .ok (.iconst 1, 1) := by decide +kernel
theorem j_X6_node_109 {G : en_G} {q : Option en_V → en_S → Prop}  {l0 l1 l2 l3 : en_V}  {σ : en_S} : en_J (X_X6_node G q) 109 [l0, l1, l2, l3] [] σ ↔ en_J (X_X6_node G q) 110 [l0, l1, l2, l3] [en_I 1] σ := ej_iconst d_X6_node_109 (by decide +kernel)
theorem d_X6_node_110 : decode cX6_node 110 = .ok (.goto 4, 3) := by decide +kernel
theorem j_X6_node_110 {G : en_G} {q : Option en_V → en_S → Prop}  {l0 l1 l2 l3 : en_V} {a0 : Int32} {σ : en_S} : en_J (X_X6_node G q) 110 [l0, l1, l2, l3] [en_I a0] σ ↔ en_J (X_X6_node G q) 114 [l0, l1, l2, l3] [en_I a0] σ := en_j1 d_X6_node_110 rfl ⟨rfl, by decide⟩
theorem d_X6_node_113 : decode cX6_node 113 = .ok (.iconst 0, 1) := by decide +kernel
theorem j_X6_node_113 {G : en_G} {q : Option en_V → en_S → Prop}  {l0 l1 l2 l3 : en_V}  {σ : en_S} : en_J (X_X6_node G q) 113 [l0, l1, l2, l3] [] σ ↔ en_J (X_X6_node G q) 114 [l0, l1, l2, l3] [en_I 0] σ := ej_iconst d_X6_node_113 (by decide +kernel)
theorem d_X6_node_114 : decode cX6_node 114 = .ok (.ireturn, 1) := by decide +kernel
theorem j_X6_node_114 {G : en_G} {q : Option en_V → en_S → Prop}  {l0 l1 l2 l3 : en_V} {a0 : Int32} {σ : en_S} : en_J (X_X6_node G q) 114 [l0, l1, l2, l3] [en_I a0] σ ↔ q (some (en_I a0)) σ := en_jr d_X6_node_114 rfl ⟨fun h => h.2.2, fun h => ⟨rfl, Or.inl rfl, h⟩⟩
theorem d_X6_node_115 : decode cX6_node 115 = .ok (.aload_n 3, 1) := by decide +kernel
theorem j_X6_node_115 {G : en_G} {q : Option en_V → en_S → Prop}  {l0 l1 l2 : en_V} {x3 : Option Nat} {σ : en_S} : en_J (X_X6_node G q) 115 [l0, l1, l2, en_R x3] [] σ ↔ en_J (X_X6_node G q) 116 [l0, l1, l2, en_R x3] [en_R x3] σ := en_j1 d_X6_node_115 rfl rfl
theorem d_X6_node_116 : decode cX6_node 116 = .ok (.invokevirtual 216, 3) := by decide +kernel
theorem j_X6_node_116 {G : en_G} {q : Option en_V → en_S → Prop}  {l0 l1 l2 l3 : en_V} {a0 : Option Nat} {σ : en_S} : en_J (X_X6_node G q) 116 [l0, l1, l2, l3] [en_R a0] σ ↔ C_X4_root.1 [en_R a0] σ ∧ ∀ (r : Option en_V) (σ' : en_S), C_X4_root.2 [en_R a0] σ r σ' → en_J (X_X6_node G q) 119 [l0, l1, l2, l3] (r.toList ++ []) σ' := en_jk d_X6_node_116 rfl ⟨fun h => h.2.2.2.2, fun h => ⟨rfl, rfl, Nat.le_of_ble_eq_true rfl, Nat.le_of_ble_eq_true rfl, h⟩⟩
theorem d_X6_node_119 : decode cX6_node 119 = .ok (.invokestatic 53, 3) := by decide +kernel
theorem j_X6_node_119 {G : en_G} {q : Option en_V → en_S → Prop}  {l0 l1 l2 l3 : en_V} {a0 : Option Nat} {σ : en_S} : en_J (X_X6_node G q) 119 [l0, l1, l2, l3] [en_R a0] σ ↔ C_X6_numberOf.1 [en_R a0] σ ∧ ∀ (r : Option en_V) (σ' : en_S), C_X6_numberOf.2 [en_R a0] σ r σ' → en_J (X_X6_node G q) 122 [l0, l1, l2, l3] (r.toList ++ []) σ' := en_jk d_X6_node_119 rfl ⟨fun h => h.2.2.2.2, fun h => ⟨rfl, rfl, Nat.le_of_ble_eq_true rfl, Nat.le_of_ble_eq_true rfl, h⟩⟩
theorem d_X6_node_122 : decode cX6_node 122 = .ok (.ireturn, 1) := by decide +kernel
theorem j_X6_node_122 {G : en_G} {q : Option en_V → en_S → Prop}  {l0 l1 l2 l3 : en_V} {a0 : Int32} {σ : en_S} : en_J (X_X6_node G q) 122 [l0, l1, l2, l3] [en_I a0] σ ↔ q (some (en_I a0)) σ := en_jr d_X6_node_122 rfl ⟨fun h => h.2.2, fun h => ⟨rfl, Or.inl rfl, h⟩⟩
theorem d_X6_node_123 : decode cX6_node 123 = .ok (.iconst (-1), 1) := by decide +kernel
theorem j_X6_node_123 {G : en_G} {q : Option en_V → en_S → Prop}  {l0 l1 l2 l3 : en_V}  {σ : en_S} : en_J (X_X6_node G q) 123 [l0, l1, l2, l3] [] σ ↔ en_J (X_X6_node G q) 124 [l0, l1, l2, l3] [en_I (-1)] σ := ej_iconst d_X6_node_123 (by decide +kernel)
theorem d_X6_node_124 : decode cX6_node 124 = .ok (.ireturn, 1) := by decide +kernel
theorem j_X6_node_124 {G : en_G} {q : Option en_V → en_S → Prop}  {l0 l1 l2 l3 : en_V} {a0 : Int32} {σ : en_S} : en_J (X_X6_node G q) 124 [l0, l1, l2, l3] [en_I a0] σ ↔ q (some (en_I a0)) σ := en_jr d_X6_node_124 rfl ⟨fun h => h.2.2, fun h => ⟨rfl, Or.inl rfl, h⟩⟩
theorem wc_X6_node : Jvm.Cond.code yX6_node cX6_node 4 (some .int) ∈ en_W := en_inW (List.mem_of_getElem? (i := 468) (by decide +kernel)) (by decide +kernel)
theorem wi_X6_node : Jvm.Cond.instanceMethod yX6_node ∈ en_W := en_inW (List.mem_of_getElem? (i := 466) (by decide +kernel)) (by decide +kernel)
theorem wx_X6_node : Jvm.Cond.selects RX6 yX6_node yX6_node ∈ en_W := en_inW (List.mem_of_getElem? (i := 467) (by decide +kernel)) (by decide +kernel)
theorem jl_X6_node {G : en_G}  {x : Nat} {na : Nat → Nat} {la : Nat → Nat} {ba : Nat → Nat} {rm : Nat} {S : pb_S} {k : Int32} {u : Int32} {q : Option en_V → en_S → Prop} {σ : en_S} (hp : PX G x na la ba rm S σ) (hq : ∀ v σ', (σ' = σ ∧ v = some (en_I (op_node S k u))) → q v σ') : en_J (X_X6_node G q) 0 [en_R (some x), en_I k, en_I u, en_U] [] σ := by
  have hP := hp
  have hC := hP.1
  have w := hC.2.2.2.2.2.2.2.2.1
  have i1 : ¬ (1 : Int32) = 0 := by decide
  simp only [j_X6_node_0, j_X6_node_1, j_X6_node_2, j_X6_node_5, j_X6_node_6, j_X6_node_7, j_X6_node_10, j_X6_node_11, j_X6_node_12, j_X6_node_60, j_X6_node_61, j_X6_node_64, j_X6_node_65, j_X6_node_66, j_X6_node_69, j_X6_node_72, j_X6_node_73, j_X6_node_74, j_X6_node_77, j_X6_node_80, j_X6_node_81, j_X6_node_82, j_X6_node_85, j_X6_node_88, j_X6_node_89, j_X6_node_90, j_X6_node_93, j_X6_node_96, j_X6_node_97, j_X6_node_98, j_X6_node_101, j_X6_node_102, j_X6_node_103, j_X6_node_106, j_X6_node_109, j_X6_node_110, j_X6_node_113, j_X6_node_114, j_X6_node_115, j_X6_node_116, j_X6_node_119, j_X6_node_122, j_X6_node_123, j_X6_node_124, en_c2I, en_c2R, en_c2U, en_c2D, Option.some.injEq, exists_eq_left', exists_eq_left, Option.map_some, Option.map_none, not_true_eq_false, false_implies, true_implies, and_true, true_and, reduceCtorEq, not_false_eq_true]
  refine en_use (cu_X6_nodeAt hC) ?_
  rintro v σ' ⟨rfl, rfl⟩
  cases hx : st_ix (tr_N (sa_T S.1)) k with
  | none =>
    have hop : op_node S k u = -1 := by unfold op_node; rw [hx]
    rw [hop] at hq
    simp only [Option.toList, List.cons_append, List.nil_append, j_X6_node_0, j_X6_node_1, j_X6_node_2, j_X6_node_5, j_X6_node_6, j_X6_node_7, j_X6_node_10, j_X6_node_11, j_X6_node_12, j_X6_node_60, j_X6_node_61, j_X6_node_64, j_X6_node_65, j_X6_node_66, j_X6_node_69, j_X6_node_72, j_X6_node_73, j_X6_node_74, j_X6_node_77, j_X6_node_80, j_X6_node_81, j_X6_node_82, j_X6_node_85, j_X6_node_88, j_X6_node_89, j_X6_node_90, j_X6_node_93, j_X6_node_96, j_X6_node_97, j_X6_node_98, j_X6_node_101, j_X6_node_102, j_X6_node_103, j_X6_node_106, j_X6_node_109, j_X6_node_110, j_X6_node_113, j_X6_node_114, j_X6_node_115, j_X6_node_116, j_X6_node_119, j_X6_node_122, j_X6_node_123, j_X6_node_124, en_c2I, en_c2R, en_c2U, en_c2D, Option.some.injEq, exists_eq_left', exists_eq_left, Option.map_some, Option.map_none, not_true_eq_false, false_implies, true_implies, and_true, true_and, reduceCtorEq, not_false_eq_true]
    exact hq _ _ ⟨rfl, rfl⟩
  | some n =>
    obtain ⟨hn, rfl⟩ := st_ix_some (by have := w.1.1.2; omega) hx
    obtain ⟨r1, r2, r3, r4, r5, r6, r7, r8, r9, r10, r11⟩ := hC.2.1.1 n hn
    have hW := w.1
    cases hy : st_ix 8 u with
    | none =>
      have hop : op_node S (nI n) u = -1 := by unfold op_node; rw [hx, hy]
      rw [hop] at hq
      have hno := st_ix_none hy
      have hd : u.toInt < 0 ∨ 7 < u.toInt := by
        apply Classical.byContradiction
        intro hz
        apply hno
        refine ⟨Int32.le_iff_toInt_le.mpr (by show (0 : Int) ≤ _; omega), Int32.lt_iff_toInt_lt.mpr ?_⟩
        rw [nI_toInt (by decide)]
        omega
      simp only [Option.toList, List.cons_append, List.nil_append, j_X6_node_0, j_X6_node_1, j_X6_node_2, j_X6_node_5, j_X6_node_6, j_X6_node_7, j_X6_node_10, j_X6_node_11, j_X6_node_12, j_X6_node_60, j_X6_node_61, j_X6_node_64, j_X6_node_65, j_X6_node_66, j_X6_node_69, j_X6_node_72, j_X6_node_73, j_X6_node_74, j_X6_node_77, j_X6_node_80, j_X6_node_81, j_X6_node_82, j_X6_node_85, j_X6_node_88, j_X6_node_89, j_X6_node_90, j_X6_node_93, j_X6_node_96, j_X6_node_97, j_X6_node_98, j_X6_node_101, j_X6_node_102, j_X6_node_103, j_X6_node_106, j_X6_node_109, j_X6_node_110, j_X6_node_113, j_X6_node_114, j_X6_node_115, j_X6_node_116, j_X6_node_119, j_X6_node_122, j_X6_node_123, j_X6_node_124, en_c2I, en_c2R, en_c2U, en_c2D, Option.some.injEq, exists_eq_left', exists_eq_left, Option.map_some, Option.map_none, not_true_eq_false, false_implies, true_implies, and_true, true_and, reduceCtorEq, not_false_eq_true]
      rw [j_X6_node_13_d hd]
      simp only [j_X6_node_0, j_X6_node_1, j_X6_node_2, j_X6_node_5, j_X6_node_6, j_X6_node_7, j_X6_node_10, j_X6_node_11, j_X6_node_12, j_X6_node_60, j_X6_node_61, j_X6_node_64, j_X6_node_65, j_X6_node_66, j_X6_node_69, j_X6_node_72, j_X6_node_73, j_X6_node_74, j_X6_node_77, j_X6_node_80, j_X6_node_81, j_X6_node_82, j_X6_node_85, j_X6_node_88, j_X6_node_89, j_X6_node_90, j_X6_node_93, j_X6_node_96, j_X6_node_97, j_X6_node_98, j_X6_node_101, j_X6_node_102, j_X6_node_103, j_X6_node_106, j_X6_node_109, j_X6_node_110, j_X6_node_113, j_X6_node_114, j_X6_node_115, j_X6_node_116, j_X6_node_119, j_X6_node_122, j_X6_node_123, j_X6_node_124, en_c2I, en_c2R, en_c2U, en_c2D, Option.some.injEq, exists_eq_left', exists_eq_left, Option.map_some, Option.map_none, not_true_eq_false, false_implies, true_implies, and_true, true_and, reduceCtorEq, not_false_eq_true]
      exact hq _ _ ⟨rfl, rfl⟩
    | some u' =>
      obtain ⟨hu, rfl⟩ := st_ix_some (by decide) hy
      have hop : op_node S (nI n) (nI u') = op_nodeV S n u' := by unfold op_node; rw [hx, hy]
      rw [hop] at hq
      have hcc : u' = 0 ∨ u' = 1 ∨ u' = 2 ∨ u' = 3 ∨ u' = 4 ∨ u' = 5 ∨ u' = 6 ∨ u' = 7 := by omega
      have numq : ∀ (ob : Option Nat), (∀ m, ob = some m → m < tr_N (sa_T S.1)) → op_nodeV S n u' = st_num ob → en_Us C_X6_numberOf [en_R (ob.map na)] σ' (fun v σ1 => q v σ1) := fun ob hob he => by
        have hu := cu_num hC.2.1 hob
        exact ⟨hu.1, fun v σ1 z => hq _ _ ⟨(hu.2 v σ1 z).1, by rw [he]; exact (hu.2 v σ1 z).2⟩⟩
      rcases hcc with rfl | rfl | rfl | rfl | rfl | rfl | rfl | rfl
      · rw [show nI 0 = 0 from by decide +kernel]
        simp only [Option.toList, List.cons_append, List.nil_append, j_X6_node_0, j_X6_node_1, j_X6_node_2, j_X6_node_5, j_X6_node_6, j_X6_node_7, j_X6_node_10, j_X6_node_11, j_X6_node_12, j_X6_node_60, j_X6_node_61, j_X6_node_64, j_X6_node_65, j_X6_node_66, j_X6_node_69, j_X6_node_72, j_X6_node_73, j_X6_node_74, j_X6_node_77, j_X6_node_80, j_X6_node_81, j_X6_node_82, j_X6_node_85, j_X6_node_88, j_X6_node_89, j_X6_node_90, j_X6_node_93, j_X6_node_96, j_X6_node_97, j_X6_node_98, j_X6_node_101, j_X6_node_102, j_X6_node_103, j_X6_node_106, j_X6_node_109, j_X6_node_110, j_X6_node_113, j_X6_node_114, j_X6_node_115, j_X6_node_116, j_X6_node_119, j_X6_node_122, j_X6_node_123, j_X6_node_124, j_X6_node_13_0, j_X6_node_13_1, j_X6_node_13_2, j_X6_node_13_3, j_X6_node_13_4, j_X6_node_13_5, j_X6_node_13_6, j_X6_node_13_7, en_c2I, en_c2R, en_c2U, en_c2D, Option.some.injEq, exists_eq_left', exists_eq_left, Option.map_some, Option.map_none, not_true_eq_false, false_implies, true_implies, and_true, true_and, reduceCtorEq, not_false_eq_true, r1, r3]
        exact hq _ _ ⟨rfl, rfl⟩
      · rw [show nI 1 = 1 from by decide +kernel]
        simp only [Option.toList, List.cons_append, List.nil_append, j_X6_node_0, j_X6_node_1, j_X6_node_2, j_X6_node_5, j_X6_node_6, j_X6_node_7, j_X6_node_10, j_X6_node_11, j_X6_node_12, j_X6_node_60, j_X6_node_61, j_X6_node_64, j_X6_node_65, j_X6_node_66, j_X6_node_69, j_X6_node_72, j_X6_node_73, j_X6_node_74, j_X6_node_77, j_X6_node_80, j_X6_node_81, j_X6_node_82, j_X6_node_85, j_X6_node_88, j_X6_node_89, j_X6_node_90, j_X6_node_93, j_X6_node_96, j_X6_node_97, j_X6_node_98, j_X6_node_101, j_X6_node_102, j_X6_node_103, j_X6_node_106, j_X6_node_109, j_X6_node_110, j_X6_node_113, j_X6_node_114, j_X6_node_115, j_X6_node_116, j_X6_node_119, j_X6_node_122, j_X6_node_123, j_X6_node_124, j_X6_node_13_0, j_X6_node_13_1, j_X6_node_13_2, j_X6_node_13_3, j_X6_node_13_4, j_X6_node_13_5, j_X6_node_13_6, j_X6_node_13_7, en_c2I, en_c2R, en_c2U, en_c2D, Option.some.injEq, exists_eq_left', exists_eq_left, Option.map_some, Option.map_none, not_true_eq_false, false_implies, true_implies, and_true, true_and, reduceCtorEq, not_false_eq_true, r1, r6]
        refine en_use (cu_num hC.2.1 (fun m hm => tr_pa_lt hW hn hm)) ?_
        rintro v σ1 ⟨rfl, rfl⟩
        simp only [Option.toList, List.cons_append, List.nil_append, j_X6_node_0, j_X6_node_1, j_X6_node_2, j_X6_node_5, j_X6_node_6, j_X6_node_7, j_X6_node_10, j_X6_node_11, j_X6_node_12, j_X6_node_60, j_X6_node_61, j_X6_node_64, j_X6_node_65, j_X6_node_66, j_X6_node_69, j_X6_node_72, j_X6_node_73, j_X6_node_74, j_X6_node_77, j_X6_node_80, j_X6_node_81, j_X6_node_82, j_X6_node_85, j_X6_node_88, j_X6_node_89, j_X6_node_90, j_X6_node_93, j_X6_node_96, j_X6_node_97, j_X6_node_98, j_X6_node_101, j_X6_node_102, j_X6_node_103, j_X6_node_106, j_X6_node_109, j_X6_node_110, j_X6_node_113, j_X6_node_114, j_X6_node_115, j_X6_node_116, j_X6_node_119, j_X6_node_122, j_X6_node_123, j_X6_node_124, en_c2I, en_c2R, en_c2U, en_c2D, Option.some.injEq, exists_eq_left', exists_eq_left, Option.map_some, Option.map_none, not_true_eq_false, false_implies, true_implies, and_true, true_and, reduceCtorEq, not_false_eq_true]
        exact hq _ _ ⟨rfl, rfl⟩
      · rw [show nI 2 = 2 from by decide +kernel]
        simp only [Option.toList, List.cons_append, List.nil_append, j_X6_node_0, j_X6_node_1, j_X6_node_2, j_X6_node_5, j_X6_node_6, j_X6_node_7, j_X6_node_10, j_X6_node_11, j_X6_node_12, j_X6_node_60, j_X6_node_61, j_X6_node_64, j_X6_node_65, j_X6_node_66, j_X6_node_69, j_X6_node_72, j_X6_node_73, j_X6_node_74, j_X6_node_77, j_X6_node_80, j_X6_node_81, j_X6_node_82, j_X6_node_85, j_X6_node_88, j_X6_node_89, j_X6_node_90, j_X6_node_93, j_X6_node_96, j_X6_node_97, j_X6_node_98, j_X6_node_101, j_X6_node_102, j_X6_node_103, j_X6_node_106, j_X6_node_109, j_X6_node_110, j_X6_node_113, j_X6_node_114, j_X6_node_115, j_X6_node_116, j_X6_node_119, j_X6_node_122, j_X6_node_123, j_X6_node_124, j_X6_node_13_0, j_X6_node_13_1, j_X6_node_13_2, j_X6_node_13_3, j_X6_node_13_4, j_X6_node_13_5, j_X6_node_13_6, j_X6_node_13_7, en_c2I, en_c2R, en_c2U, en_c2D, Option.some.injEq, exists_eq_left', exists_eq_left, Option.map_some, Option.map_none, not_true_eq_false, false_implies, true_implies, and_true, true_and, reduceCtorEq, not_false_eq_true]
        refine en_use (cu_X4_assignedSlot hC.2.1 hW hn) ?_
        rintro v σ1 ⟨rfl, rfl⟩
        simp only [Option.toList, List.cons_append, List.nil_append, j_X6_node_0, j_X6_node_1, j_X6_node_2, j_X6_node_5, j_X6_node_6, j_X6_node_7, j_X6_node_10, j_X6_node_11, j_X6_node_12, j_X6_node_60, j_X6_node_61, j_X6_node_64, j_X6_node_65, j_X6_node_66, j_X6_node_69, j_X6_node_72, j_X6_node_73, j_X6_node_74, j_X6_node_77, j_X6_node_80, j_X6_node_81, j_X6_node_82, j_X6_node_85, j_X6_node_88, j_X6_node_89, j_X6_node_90, j_X6_node_93, j_X6_node_96, j_X6_node_97, j_X6_node_98, j_X6_node_101, j_X6_node_102, j_X6_node_103, j_X6_node_106, j_X6_node_109, j_X6_node_110, j_X6_node_113, j_X6_node_114, j_X6_node_115, j_X6_node_116, j_X6_node_119, j_X6_node_122, j_X6_node_123, j_X6_node_124, en_c2I, en_c2R, en_c2U, en_c2D, Option.some.injEq, exists_eq_left', exists_eq_left, Option.map_some, Option.map_none, not_true_eq_false, false_implies, true_implies, and_true, true_and, reduceCtorEq, not_false_eq_true]
        refine en_use (cu_num hC.2.1 (fun m hm => tr_as_lt hW hn hm)) ?_
        rintro v σ1 ⟨rfl, rfl⟩
        simp only [Option.toList, List.cons_append, List.nil_append, j_X6_node_0, j_X6_node_1, j_X6_node_2, j_X6_node_5, j_X6_node_6, j_X6_node_7, j_X6_node_10, j_X6_node_11, j_X6_node_12, j_X6_node_60, j_X6_node_61, j_X6_node_64, j_X6_node_65, j_X6_node_66, j_X6_node_69, j_X6_node_72, j_X6_node_73, j_X6_node_74, j_X6_node_77, j_X6_node_80, j_X6_node_81, j_X6_node_82, j_X6_node_85, j_X6_node_88, j_X6_node_89, j_X6_node_90, j_X6_node_93, j_X6_node_96, j_X6_node_97, j_X6_node_98, j_X6_node_101, j_X6_node_102, j_X6_node_103, j_X6_node_106, j_X6_node_109, j_X6_node_110, j_X6_node_113, j_X6_node_114, j_X6_node_115, j_X6_node_116, j_X6_node_119, j_X6_node_122, j_X6_node_123, j_X6_node_124, en_c2I, en_c2R, en_c2U, en_c2D, Option.some.injEq, exists_eq_left', exists_eq_left, Option.map_some, Option.map_none, not_true_eq_false, false_implies, true_implies, and_true, true_and, reduceCtorEq, not_false_eq_true]
        exact hq _ _ ⟨rfl, rfl⟩
      · rw [show nI 3 = 3 from by decide +kernel]
        simp only [Option.toList, List.cons_append, List.nil_append, j_X6_node_0, j_X6_node_1, j_X6_node_2, j_X6_node_5, j_X6_node_6, j_X6_node_7, j_X6_node_10, j_X6_node_11, j_X6_node_12, j_X6_node_60, j_X6_node_61, j_X6_node_64, j_X6_node_65, j_X6_node_66, j_X6_node_69, j_X6_node_72, j_X6_node_73, j_X6_node_74, j_X6_node_77, j_X6_node_80, j_X6_node_81, j_X6_node_82, j_X6_node_85, j_X6_node_88, j_X6_node_89, j_X6_node_90, j_X6_node_93, j_X6_node_96, j_X6_node_97, j_X6_node_98, j_X6_node_101, j_X6_node_102, j_X6_node_103, j_X6_node_106, j_X6_node_109, j_X6_node_110, j_X6_node_113, j_X6_node_114, j_X6_node_115, j_X6_node_116, j_X6_node_119, j_X6_node_122, j_X6_node_123, j_X6_node_124, j_X6_node_13_0, j_X6_node_13_1, j_X6_node_13_2, j_X6_node_13_3, j_X6_node_13_4, j_X6_node_13_5, j_X6_node_13_6, j_X6_node_13_7, en_c2I, en_c2R, en_c2U, en_c2D, Option.some.injEq, exists_eq_left', exists_eq_left, Option.map_some, Option.map_none, not_true_eq_false, false_implies, true_implies, and_true, true_and, reduceCtorEq, not_false_eq_true, r1, r11]
        refine en_use (cu_num hC.2.1 (fun m hm => (hW.2.2.2.2.2.1 n m hn hm).1)) ?_
        rintro v σ1 ⟨rfl, rfl⟩
        simp only [Option.toList, List.cons_append, List.nil_append, j_X6_node_0, j_X6_node_1, j_X6_node_2, j_X6_node_5, j_X6_node_6, j_X6_node_7, j_X6_node_10, j_X6_node_11, j_X6_node_12, j_X6_node_60, j_X6_node_61, j_X6_node_64, j_X6_node_65, j_X6_node_66, j_X6_node_69, j_X6_node_72, j_X6_node_73, j_X6_node_74, j_X6_node_77, j_X6_node_80, j_X6_node_81, j_X6_node_82, j_X6_node_85, j_X6_node_88, j_X6_node_89, j_X6_node_90, j_X6_node_93, j_X6_node_96, j_X6_node_97, j_X6_node_98, j_X6_node_101, j_X6_node_102, j_X6_node_103, j_X6_node_106, j_X6_node_109, j_X6_node_110, j_X6_node_113, j_X6_node_114, j_X6_node_115, j_X6_node_116, j_X6_node_119, j_X6_node_122, j_X6_node_123, j_X6_node_124, en_c2I, en_c2R, en_c2U, en_c2D, Option.some.injEq, exists_eq_left', exists_eq_left, Option.map_some, Option.map_none, not_true_eq_false, false_implies, true_implies, and_true, true_and, reduceCtorEq, not_false_eq_true]
        exact hq _ _ ⟨rfl, rfl⟩
      · rw [show nI 4 = 4 from by decide +kernel]
        simp only [Option.toList, List.cons_append, List.nil_append, j_X6_node_0, j_X6_node_1, j_X6_node_2, j_X6_node_5, j_X6_node_6, j_X6_node_7, j_X6_node_10, j_X6_node_11, j_X6_node_12, j_X6_node_60, j_X6_node_61, j_X6_node_64, j_X6_node_65, j_X6_node_66, j_X6_node_69, j_X6_node_72, j_X6_node_73, j_X6_node_74, j_X6_node_77, j_X6_node_80, j_X6_node_81, j_X6_node_82, j_X6_node_85, j_X6_node_88, j_X6_node_89, j_X6_node_90, j_X6_node_93, j_X6_node_96, j_X6_node_97, j_X6_node_98, j_X6_node_101, j_X6_node_102, j_X6_node_103, j_X6_node_106, j_X6_node_109, j_X6_node_110, j_X6_node_113, j_X6_node_114, j_X6_node_115, j_X6_node_116, j_X6_node_119, j_X6_node_122, j_X6_node_123, j_X6_node_124, j_X6_node_13_0, j_X6_node_13_1, j_X6_node_13_2, j_X6_node_13_3, j_X6_node_13_4, j_X6_node_13_5, j_X6_node_13_6, j_X6_node_13_7, en_c2I, en_c2R, en_c2U, en_c2D, Option.some.injEq, exists_eq_left', exists_eq_left, Option.map_some, Option.map_none, not_true_eq_false, false_implies, true_implies, and_true, true_and, reduceCtorEq, not_false_eq_true, r1, r5]
        refine en_use (cu_num hC.2.1 (fun m hm => (hW.2.2.2.2.1 n m hn hm).1)) ?_
        rintro v σ1 ⟨rfl, rfl⟩
        simp only [Option.toList, List.cons_append, List.nil_append, j_X6_node_0, j_X6_node_1, j_X6_node_2, j_X6_node_5, j_X6_node_6, j_X6_node_7, j_X6_node_10, j_X6_node_11, j_X6_node_12, j_X6_node_60, j_X6_node_61, j_X6_node_64, j_X6_node_65, j_X6_node_66, j_X6_node_69, j_X6_node_72, j_X6_node_73, j_X6_node_74, j_X6_node_77, j_X6_node_80, j_X6_node_81, j_X6_node_82, j_X6_node_85, j_X6_node_88, j_X6_node_89, j_X6_node_90, j_X6_node_93, j_X6_node_96, j_X6_node_97, j_X6_node_98, j_X6_node_101, j_X6_node_102, j_X6_node_103, j_X6_node_106, j_X6_node_109, j_X6_node_110, j_X6_node_113, j_X6_node_114, j_X6_node_115, j_X6_node_116, j_X6_node_119, j_X6_node_122, j_X6_node_123, j_X6_node_124, en_c2I, en_c2R, en_c2U, en_c2D, Option.some.injEq, exists_eq_left', exists_eq_left, Option.map_some, Option.map_none, not_true_eq_false, false_implies, true_implies, and_true, true_and, reduceCtorEq, not_false_eq_true]
        exact hq _ _ ⟨rfl, rfl⟩
      · rw [show nI 5 = 5 from by decide +kernel]
        simp only [Option.toList, List.cons_append, List.nil_append, j_X6_node_0, j_X6_node_1, j_X6_node_2, j_X6_node_5, j_X6_node_6, j_X6_node_7, j_X6_node_10, j_X6_node_11, j_X6_node_12, j_X6_node_60, j_X6_node_61, j_X6_node_64, j_X6_node_65, j_X6_node_66, j_X6_node_69, j_X6_node_72, j_X6_node_73, j_X6_node_74, j_X6_node_77, j_X6_node_80, j_X6_node_81, j_X6_node_82, j_X6_node_85, j_X6_node_88, j_X6_node_89, j_X6_node_90, j_X6_node_93, j_X6_node_96, j_X6_node_97, j_X6_node_98, j_X6_node_101, j_X6_node_102, j_X6_node_103, j_X6_node_106, j_X6_node_109, j_X6_node_110, j_X6_node_113, j_X6_node_114, j_X6_node_115, j_X6_node_116, j_X6_node_119, j_X6_node_122, j_X6_node_123, j_X6_node_124, j_X6_node_13_0, j_X6_node_13_1, j_X6_node_13_2, j_X6_node_13_3, j_X6_node_13_4, j_X6_node_13_5, j_X6_node_13_6, j_X6_node_13_7, en_c2I, en_c2R, en_c2U, en_c2D, Option.some.injEq, exists_eq_left', exists_eq_left, Option.map_some, Option.map_none, not_true_eq_false, false_implies, true_implies, and_true, true_and, reduceCtorEq, not_false_eq_true]
        refine en_use (cu_X4_childCount hC.2.1 hW hn) ?_
        rintro v σ1 ⟨rfl, rfl⟩
        simp only [Option.toList, List.cons_append, List.nil_append, j_X6_node_0, j_X6_node_1, j_X6_node_2, j_X6_node_5, j_X6_node_6, j_X6_node_7, j_X6_node_10, j_X6_node_11, j_X6_node_12, j_X6_node_60, j_X6_node_61, j_X6_node_64, j_X6_node_65, j_X6_node_66, j_X6_node_69, j_X6_node_72, j_X6_node_73, j_X6_node_74, j_X6_node_77, j_X6_node_80, j_X6_node_81, j_X6_node_82, j_X6_node_85, j_X6_node_88, j_X6_node_89, j_X6_node_90, j_X6_node_93, j_X6_node_96, j_X6_node_97, j_X6_node_98, j_X6_node_101, j_X6_node_102, j_X6_node_103, j_X6_node_106, j_X6_node_109, j_X6_node_110, j_X6_node_113, j_X6_node_114, j_X6_node_115, j_X6_node_116, j_X6_node_119, j_X6_node_122, j_X6_node_123, j_X6_node_124, en_c2I, en_c2R, en_c2U, en_c2D, Option.some.injEq, exists_eq_left', exists_eq_left, Option.map_some, Option.map_none, not_true_eq_false, false_implies, true_implies, and_true, true_and, reduceCtorEq, not_false_eq_true]
        exact hq _ _ ⟨rfl, rfl⟩
      · rw [show nI 6 = 6 from by decide +kernel]
        have r12 := (hC.2.2.1 n hn).1
        cases hm : sa_K S.1 0 n with
        | true =>
          rw [hm, st_bt] at r12
          simp only [Option.toList, List.cons_append, List.nil_append, j_X6_node_0, j_X6_node_1, j_X6_node_2, j_X6_node_5, j_X6_node_6, j_X6_node_7, j_X6_node_10, j_X6_node_11, j_X6_node_12, j_X6_node_60, j_X6_node_61, j_X6_node_64, j_X6_node_65, j_X6_node_66, j_X6_node_69, j_X6_node_72, j_X6_node_73, j_X6_node_74, j_X6_node_77, j_X6_node_80, j_X6_node_81, j_X6_node_82, j_X6_node_85, j_X6_node_88, j_X6_node_89, j_X6_node_90, j_X6_node_93, j_X6_node_96, j_X6_node_97, j_X6_node_98, j_X6_node_101, j_X6_node_102, j_X6_node_103, j_X6_node_106, j_X6_node_109, j_X6_node_110, j_X6_node_113, j_X6_node_114, j_X6_node_115, j_X6_node_116, j_X6_node_119, j_X6_node_122, j_X6_node_123, j_X6_node_124, j_X6_node_13_0, j_X6_node_13_1, j_X6_node_13_2, j_X6_node_13_3, j_X6_node_13_4, j_X6_node_13_5, j_X6_node_13_6, j_X6_node_13_7, en_c2I, en_c2R, en_c2U, en_c2D, Option.some.injEq, exists_eq_left', exists_eq_left, Option.map_some, Option.map_none, not_true_eq_false, false_implies, true_implies, and_true, true_and, reduceCtorEq, not_false_eq_true, r1, r12, i1]
          exact hq _ _ ⟨rfl, by show _ = some (en_I (st_b (sa_K S.1 0 n))); rw [hm]; rfl⟩
        | false =>
          rw [hm, st_bf] at r12
          simp only [Option.toList, List.cons_append, List.nil_append, j_X6_node_0, j_X6_node_1, j_X6_node_2, j_X6_node_5, j_X6_node_6, j_X6_node_7, j_X6_node_10, j_X6_node_11, j_X6_node_12, j_X6_node_60, j_X6_node_61, j_X6_node_64, j_X6_node_65, j_X6_node_66, j_X6_node_69, j_X6_node_72, j_X6_node_73, j_X6_node_74, j_X6_node_77, j_X6_node_80, j_X6_node_81, j_X6_node_82, j_X6_node_85, j_X6_node_88, j_X6_node_89, j_X6_node_90, j_X6_node_93, j_X6_node_96, j_X6_node_97, j_X6_node_98, j_X6_node_101, j_X6_node_102, j_X6_node_103, j_X6_node_106, j_X6_node_109, j_X6_node_110, j_X6_node_113, j_X6_node_114, j_X6_node_115, j_X6_node_116, j_X6_node_119, j_X6_node_122, j_X6_node_123, j_X6_node_124, j_X6_node_13_0, j_X6_node_13_1, j_X6_node_13_2, j_X6_node_13_3, j_X6_node_13_4, j_X6_node_13_5, j_X6_node_13_6, j_X6_node_13_7, en_c2I, en_c2R, en_c2U, en_c2D, Option.some.injEq, exists_eq_left', exists_eq_left, Option.map_some, Option.map_none, not_true_eq_false, false_implies, true_implies, and_true, true_and, reduceCtorEq, not_false_eq_true, r1, r12, i1]
          exact hq _ _ ⟨rfl, by show _ = some (en_I (st_b (sa_K S.1 0 n))); rw [hm]; rfl⟩
      · rw [show nI 7 = 7 from by decide +kernel]
        simp only [Option.toList, List.cons_append, List.nil_append, j_X6_node_0, j_X6_node_1, j_X6_node_2, j_X6_node_5, j_X6_node_6, j_X6_node_7, j_X6_node_10, j_X6_node_11, j_X6_node_12, j_X6_node_60, j_X6_node_61, j_X6_node_64, j_X6_node_65, j_X6_node_66, j_X6_node_69, j_X6_node_72, j_X6_node_73, j_X6_node_74, j_X6_node_77, j_X6_node_80, j_X6_node_81, j_X6_node_82, j_X6_node_85, j_X6_node_88, j_X6_node_89, j_X6_node_90, j_X6_node_93, j_X6_node_96, j_X6_node_97, j_X6_node_98, j_X6_node_101, j_X6_node_102, j_X6_node_103, j_X6_node_106, j_X6_node_109, j_X6_node_110, j_X6_node_113, j_X6_node_114, j_X6_node_115, j_X6_node_116, j_X6_node_119, j_X6_node_122, j_X6_node_123, j_X6_node_124, j_X6_node_13_0, j_X6_node_13_1, j_X6_node_13_2, j_X6_node_13_3, j_X6_node_13_4, j_X6_node_13_5, j_X6_node_13_6, j_X6_node_13_7, en_c2I, en_c2R, en_c2U, en_c2D, Option.some.injEq, exists_eq_left', exists_eq_left, Option.map_some, Option.map_none, not_true_eq_false, false_implies, true_implies, and_true, true_and, reduceCtorEq, not_false_eq_true]
        refine en_use (cu_X4_root hC.2.1 hW hn) ?_
        rintro v σ1 ⟨rfl, rfl⟩
        simp only [Option.toList, List.cons_append, List.nil_append, j_X6_node_0, j_X6_node_1, j_X6_node_2, j_X6_node_5, j_X6_node_6, j_X6_node_7, j_X6_node_10, j_X6_node_11, j_X6_node_12, j_X6_node_60, j_X6_node_61, j_X6_node_64, j_X6_node_65, j_X6_node_66, j_X6_node_69, j_X6_node_72, j_X6_node_73, j_X6_node_74, j_X6_node_77, j_X6_node_80, j_X6_node_81, j_X6_node_82, j_X6_node_85, j_X6_node_88, j_X6_node_89, j_X6_node_90, j_X6_node_93, j_X6_node_96, j_X6_node_97, j_X6_node_98, j_X6_node_101, j_X6_node_102, j_X6_node_103, j_X6_node_106, j_X6_node_109, j_X6_node_110, j_X6_node_113, j_X6_node_114, j_X6_node_115, j_X6_node_116, j_X6_node_119, j_X6_node_122, j_X6_node_123, j_X6_node_124, en_c2I, en_c2R, en_c2U, en_c2D, Option.some.injEq, exists_eq_left', exists_eq_left, Option.map_some, Option.map_none, not_true_eq_false, false_implies, true_implies, and_true, true_and, reduceCtorEq, not_false_eq_true]
        have hu := cu_num (o := some (tr_root (sa_T S.1) n)) hC.2.1 (fun m hm => by cases hm; exact tr_root_lt hW hn)
        simp only [Option.map_some] at hu
        refine en_use hu ?_
        rintro v σ1 ⟨rfl, rfl⟩
        simp only [Option.toList, List.cons_append, List.nil_append, j_X6_node_0, j_X6_node_1, j_X6_node_2, j_X6_node_5, j_X6_node_6, j_X6_node_7, j_X6_node_10, j_X6_node_11, j_X6_node_12, j_X6_node_60, j_X6_node_61, j_X6_node_64, j_X6_node_65, j_X6_node_66, j_X6_node_69, j_X6_node_72, j_X6_node_73, j_X6_node_74, j_X6_node_77, j_X6_node_80, j_X6_node_81, j_X6_node_82, j_X6_node_85, j_X6_node_88, j_X6_node_89, j_X6_node_90, j_X6_node_93, j_X6_node_96, j_X6_node_97, j_X6_node_98, j_X6_node_101, j_X6_node_102, j_X6_node_103, j_X6_node_106, j_X6_node_109, j_X6_node_110, j_X6_node_113, j_X6_node_114, j_X6_node_115, j_X6_node_116, j_X6_node_119, j_X6_node_122, j_X6_node_123, j_X6_node_124, en_c2I, en_c2R, en_c2U, en_c2D, Option.some.injEq, exists_eq_left', exists_eq_left, Option.map_some, Option.map_none, not_true_eq_false, false_implies, true_implies, and_true, true_and, reduceCtorEq, not_false_eq_true]
        exact hq _ _ ⟨rfl, rfl⟩
theorem jp_X6_node {G : en_G}  : ∀ as σ, (C_X6_node G).1 as σ → (en_lc as).length ≤ 4 ∧ en_J (X_X6_node G (fun r σ' => (C_X6_node G).2 as σ r σ')) 0 (en_loc 4 as) [] σ := en_ghJ (fun g as σ h => by
  obtain ⟨hp, h2⟩ := h
  subst h2
  exact ⟨Nat.le_of_ble_eq_true rfl, jl_X6_node hp (fun _ _ h => h)⟩)
theorem wl_X6_node_57 : Jvm.Cond.methodLink RX6 57 yX6_nodeAt ∈ en_W := en_inW (List.mem_of_getElem? (i := 248) (by decide +kernel)) (by decide +kernel)
theorem wl_X6_node_53 : Jvm.Cond.methodLink RX6 53 yX6_numberOf ∈ en_W := en_inW (List.mem_of_getElem? (i := 241) (by decide +kernel)) (by decide +kernel)
theorem wl_X6_node_202 : Jvm.Cond.methodLink RX6 202 yX4_assignedSlot ∈ en_W := en_inW (List.mem_of_getElem? (i := 469) (by decide +kernel)) (by decide +kernel)
theorem wl_X6_node_209 : Jvm.Cond.methodLink RX6 209 yX4_childCount ∈ en_W := en_inW (List.mem_of_getElem? (i := 470) (by decide +kernel)) (by decide +kernel)
theorem wl_X6_node_216 : Jvm.Cond.methodLink RX6 216 yX4_root ∈ en_W := en_inW (List.mem_of_getElem? (i := 474) (by decide +kernel)) (by decide +kernel)
theorem ok_X6_node {G : en_G}  : en_Ok G 3 yX6_node cX6_node 4 (some .int) (C_X6_node G) :=
  en_met (own := RX6) (fl := en_lk fl6) (nw := en_lk nw6) (aw := en_lk aw6) (dc := en_lk dc6) (ca := en_lk (ca_X6_node G)) (rt := 1) (ini := false) (by decide +kernel) (Or.inr (Or.inl ⟨rfl, rfl⟩)) (fun h => by cases h) rfl (fun q => en_LkF fl6_ok nw6_ok aw6_ok dc6_ok) (by
    intro idx q hq
    have hm := en_lk_mem hq
    simp only [ca_X6_node, List.mem_cons, Prod.mk.injEq, List.not_mem_nil, or_false] at hm
    rcases hm with ⟨rfl, rfl⟩ | ⟨rfl, rfl⟩ | ⟨rfl, rfl⟩ | ⟨rfl, rfl⟩ | ⟨rfl, rfl⟩
    · exact en_clV (r := (RX6, TX6, 13)) 6 1 ok_X6_nodeAt (by decide) (by decide) rfl rfl pr_X6_nodeAt wl_X6_node_57 wi_X6_nodeAt wx_X6_nodeAt wz_6 wc_X6_nodeAt ⟨by decide +kernel, by decide +kernel, by decide +kernel⟩
    · exact en_clS 1 ok_X6_numberOf (by decide) (by decide) pr_X6_numberOf wl_X6_node_53 ws_X6_numberOf wz_6 wc_X6_numberOf ⟨by decide +kernel, by decide +kernel, by decide +kernel⟩
    · exact en_clV (r := (RX4, TX4, 12)) 4 0 ok_X4_assignedSlot (by decide) (by decide) rfl rfl pr_X4_assignedSlot wl_X6_node_202 wi_X4_assignedSlot wx_X4_assignedSlot wz_4 wc_X4_assignedSlot ⟨by decide +kernel, by decide +kernel, by decide +kernel⟩
    · exact en_clV (r := (RX4, TX4, 12)) 4 0 ok_X4_childCount (by decide) (by decide) rfl rfl pr_X4_childCount wl_X6_node_209 wi_X4_childCount wx_X4_childCount wz_4 wc_X4_childCount ⟨by decide +kernel, by decide +kernel, by decide +kernel⟩
    · exact en_clV (r := (RX4, TX4, 12)) 4 0 ok_X4_root (by decide) (by decide) rfl rfl pr_X4_root wl_X6_node_216 wi_X4_root wx_X4_root wz_4 wc_X4_root ⟨by decide +kernel, by decide +kernel, by decide +kernel⟩) jp_X6_node
def P_X6_child (G : en_G)  (g : (Nat) × (Nat → Nat) × (Nat → Nat) × (Nat → Nat) × (Nat) × (pb_S) × (Int32) × (Int32)) (as : List en_V) (σ : en_S) : Prop := (PX G (g.1) (g.2.1) (g.2.2.1) (g.2.2.2.1) (g.2.2.2.2.1) (g.2.2.2.2.2.1) σ) ∧ as = [en_R (some (g.1)), en_I (g.2.2.2.2.2.2.1), en_I (g.2.2.2.2.2.2.2)]
def C_X6_child (G : en_G)  : en_C := en_gh (P_X6_child G) (fun g as σ v σ' => σ' = σ ∧ v = some (en_I (op_child (g.2.2.2.2.2.1) (g.2.2.2.2.2.2.1) (g.2.2.2.2.2.2.2))))
theorem pr_X6_child {G : en_G}  : ∀ as σ, (C_X6_child G).1 as σ → ∃ b tl, as = en_R (some b) :: tl ∧ en_cl σ b = some 6 ∧ tl.length = 2 := fun as σ ⟨g, hp, h2⟩ => ⟨_, _, h2, hp.1.1.1.1, rfl⟩
theorem cu_X6_child {G : en_G}  {x : Nat} {na : Nat → Nat} {la : Nat → Nat} {ba : Nat → Nat} {rm : Nat} {S : pb_S} {n : Int32} {k : Int32} {σ : en_S} (hp : PX G x na la ba rm S σ) : en_Us (C_X6_child G) [en_R (some x), en_I n, en_I k] σ (fun v σ' => σ' = σ ∧ v = some (en_I (op_child S n k))) := ⟨⟨(x, na, la, ba, rm, S, n, k), hp, rfl⟩, fun v σ' q => q (x, na, la, ba, rm, S, n, k) ⟨hp, rfl⟩⟩
def ca_X6_child (G : en_G) : List (Nat × Nat × en_C) := [(57, 9, (C_X6_nodeAt G)), (219, 9, C_X4_childAt), (53, 4, C_X6_numberOf)]
def X_X6_child (G : en_G) (q : Option en_V → en_S → Prop) : en_X := en_mk G cX6_child (en_lk fl6) (en_lk nw6) (en_lk aw6) (en_lk dc6) (en_lk (ca_X6_child G)) 1 false q
theorem d_X6_child_0 : decode cX6_child 0 = .ok (.aload_n 0, 1) := by decide +kernel
theorem j_X6_child_0 {G : en_G} {q : Option en_V → en_S → Prop}  {l1 l2 l3 : en_V} {x0 : Option Nat} {σ : en_S} : en_J (X_X6_child G q) 0 [en_R x0, l1, l2, l3] [] σ ↔ en_J (X_X6_child G q) 1 [en_R x0, l1, l2, l3] [en_R x0] σ := en_j1 d_X6_child_0 rfl rfl
theorem d_X6_child_1 : decode cX6_child 1 = .ok (.iload_n 1, 1) := by decide +kernel
theorem j_X6_child_1 {G : en_G} {q : Option en_V → en_S → Prop}  {l0 l2 l3 : en_V} {a0 : Option Nat} {x1 : Int32} {σ : en_S} : en_J (X_X6_child G q) 1 [l0, en_I x1, l2, l3] [en_R a0] σ ↔ en_J (X_X6_child G q) 2 [l0, en_I x1, l2, l3] [en_I x1, en_R a0] σ := en_j1 d_X6_child_1 rfl rfl
theorem d_X6_child_2 : decode cX6_child 2 = .ok (.invokevirtual 57, 3) := by decide +kernel
theorem j_X6_child_2 {G : en_G} {q : Option en_V → en_S → Prop}  {l0 l1 l2 l3 : en_V} {a0 : Int32} {a1 : Option Nat} {σ : en_S} : en_J (X_X6_child G q) 2 [l0, l1, l2, l3] [en_I a0, en_R a1] σ ↔ (C_X6_nodeAt G).1 [en_R a1, en_I a0] σ ∧ ∀ (r : Option en_V) (σ' : en_S), (C_X6_nodeAt G).2 [en_R a1, en_I a0] σ r σ' → en_J (X_X6_child G q) 5 [l0, l1, l2, l3] (r.toList ++ []) σ' := en_jkC (C := (C_X6_nodeAt G)) (n' := 2) (k := 1) (idx := 57) d_X6_child_2 rfl rfl (by decide) (Nat.le_of_ble_eq_true rfl) (Nat.le_of_ble_eq_true rfl)
theorem d_X6_child_5 : decode cX6_child 5 = .ok (.astore_n 3, 1) := by decide +kernel
theorem j_X6_child_5 {G : en_G} {q : Option en_V → en_S → Prop}  {l0 l1 l2 l3 : en_V} {a0 : Option Nat} {σ : en_S} : en_J (X_X6_child G q) 5 [l0, l1, l2, l3] [en_R a0] σ ↔ en_J (X_X6_child G q) 6 [l0, l1, en_c2 l2, en_R a0] [] σ := en_j1 d_X6_child_5 rfl ⟨rfl, Nat.le_of_ble_eq_true rfl⟩
theorem d_X6_child_6 : decode cX6_child 6 = .ok (.aload_n 3, 1) := by decide +kernel
theorem j_X6_child_6 {G : en_G} {q : Option en_V → en_S → Prop}  {l0 l1 l2 : en_V} {x3 : Option Nat} {σ : en_S} : en_J (X_X6_child G q) 6 [l0, l1, l2, en_R x3] [] σ ↔ en_J (X_X6_child G q) 7 [l0, l1, l2, en_R x3] [en_R x3] σ := en_j1 d_X6_child_6 rfl rfl
theorem d_X6_child_7 : decode cX6_child 7 = .ok (.ifnonnull 7, 3) := by decide +kernel
theorem j_X6_child_7 {G : en_G} {q : Option en_V → en_S → Prop}  {l0 l1 l2 l3 : en_V} {a0 : Option Nat} {σ : en_S} : en_J (X_X6_child G q) 7 [l0, l1, l2, l3] [en_R a0] σ ↔ (¬ a0 = none → en_J (X_X6_child G q) 14 [l0, l1, l2, l3] [] σ) ∧ (¬ (¬ a0 = none) → en_J (X_X6_child G q) 10 [l0, l1, l2, l3] [] σ) := en_jb d_X6_child_7 rfl ⟨rfl, by decide⟩
theorem d_X6_child_10 : decode cX6_child 10 = .ok (.iconst (-1), 1) := by decide +kernel
theorem j_X6_child_10 {G : en_G} {q : Option en_V → en_S → Prop}  {l0 l1 l2 l3 : en_V}  {σ : en_S} : en_J (X_X6_child G q) 10 [l0, l1, l2, l3] [] σ ↔ en_J (X_X6_child G q) 11 [l0, l1, l2, l3] [en_I (-1)] σ := ej_iconst d_X6_child_10 (by decide +kernel)
theorem d_X6_child_11 : decode cX6_child 11 = .ok (.goto 11, 3) := by decide +kernel
theorem j_X6_child_11 {G : en_G} {q : Option en_V → en_S → Prop}  {l0 l1 l2 l3 : en_V} {a0 : Int32} {σ : en_S} : en_J (X_X6_child G q) 11 [l0, l1, l2, l3] [en_I a0] σ ↔ en_J (X_X6_child G q) 22 [l0, l1, l2, l3] [en_I a0] σ := en_j1 d_X6_child_11 rfl ⟨rfl, by decide⟩
theorem d_X6_child_14 : decode cX6_child 14 = .ok (.aload_n 3, 1) := by decide +kernel
theorem j_X6_child_14 {G : en_G} {q : Option en_V → en_S → Prop}  {l0 l1 l2 : en_V} {x3 : Option Nat} {σ : en_S} : en_J (X_X6_child G q) 14 [l0, l1, l2, en_R x3] [] σ ↔ en_J (X_X6_child G q) 15 [l0, l1, l2, en_R x3] [en_R x3] σ := en_j1 d_X6_child_14 rfl rfl
theorem d_X6_child_15 : decode cX6_child 15 = .ok (.iload_n 2, 1) := by decide +kernel
theorem j_X6_child_15 {G : en_G} {q : Option en_V → en_S → Prop}  {l0 l1 l3 : en_V} {a0 : Option Nat} {x2 : Int32} {σ : en_S} : en_J (X_X6_child G q) 15 [l0, l1, en_I x2, l3] [en_R a0] σ ↔ en_J (X_X6_child G q) 16 [l0, l1, en_I x2, l3] [en_I x2, en_R a0] σ := en_j1 d_X6_child_15 rfl rfl
theorem d_X6_child_16 : decode cX6_child 16 = .ok (.invokevirtual 219, 3) := by decide +kernel
theorem j_X6_child_16 {G : en_G} {q : Option en_V → en_S → Prop}  {l0 l1 l2 l3 : en_V} {a0 : Int32} {a1 : Option Nat} {σ : en_S} : en_J (X_X6_child G q) 16 [l0, l1, l2, l3] [en_I a0, en_R a1] σ ↔ C_X4_childAt.1 [en_R a1, en_I a0] σ ∧ ∀ (r : Option en_V) (σ' : en_S), C_X4_childAt.2 [en_R a1, en_I a0] σ r σ' → en_J (X_X6_child G q) 19 [l0, l1, l2, l3] (r.toList ++ []) σ' := en_jk d_X6_child_16 rfl ⟨fun h => h.2.2.2.2, fun h => ⟨rfl, rfl, Nat.le_of_ble_eq_true rfl, Nat.le_of_ble_eq_true rfl, h⟩⟩
theorem d_X6_child_19 : decode cX6_child 19 = .ok (.invokestatic 53, 3) := by decide +kernel
theorem j_X6_child_19 {G : en_G} {q : Option en_V → en_S → Prop}  {l0 l1 l2 l3 : en_V} {a0 : Option Nat} {σ : en_S} : en_J (X_X6_child G q) 19 [l0, l1, l2, l3] [en_R a0] σ ↔ C_X6_numberOf.1 [en_R a0] σ ∧ ∀ (r : Option en_V) (σ' : en_S), C_X6_numberOf.2 [en_R a0] σ r σ' → en_J (X_X6_child G q) 22 [l0, l1, l2, l3] (r.toList ++ []) σ' := en_jk d_X6_child_19 rfl ⟨fun h => h.2.2.2.2, fun h => ⟨rfl, rfl, Nat.le_of_ble_eq_true rfl, Nat.le_of_ble_eq_true rfl, h⟩⟩
theorem d_X6_child_22 : decode cX6_child 22 = .ok (.ireturn, 1) := by decide +kernel
theorem j_X6_child_22 {G : en_G} {q : Option en_V → en_S → Prop}  {l0 l1 l2 l3 : en_V} {a0 : Int32} {σ : en_S} : en_J (X_X6_child G q) 22 [l0, l1, l2, l3] [en_I a0] σ ↔ q (some (en_I a0)) σ := en_jr d_X6_child_22 rfl ⟨fun h => h.2.2, fun h => ⟨rfl, Or.inl rfl, h⟩⟩
theorem wc_X6_child : Jvm.Cond.code yX6_child cX6_child 4 (some .int) ∈ en_W := en_inW (List.mem_of_getElem? (i := 478) (by decide +kernel)) (by decide +kernel)
theorem wi_X6_child : Jvm.Cond.instanceMethod yX6_child ∈ en_W := en_inW (List.mem_of_getElem? (i := 476) (by decide +kernel)) (by decide +kernel)
theorem wx_X6_child : Jvm.Cond.selects RX6 yX6_child yX6_child ∈ en_W := en_inW (List.mem_of_getElem? (i := 477) (by decide +kernel)) (by decide +kernel)
theorem jl_X6_child {G : en_G}  {x : Nat} {na : Nat → Nat} {la : Nat → Nat} {ba : Nat → Nat} {rm : Nat} {S : pb_S} {n : Int32} {k : Int32} {q : Option en_V → en_S → Prop} {σ : en_S} (hp : PX G x na la ba rm S σ) (hq : ∀ v σ', (σ' = σ ∧ v = some (en_I (op_child S n k))) → q v σ') : en_J (X_X6_child G q) 0 [en_R (some x), en_I n, en_I k, en_U] [] σ := by
  have hP := hp
  have hC := hP.1
  have w := hC.2.2.2.2.2.2.2.2.1
  simp only [j_X6_child_0, j_X6_child_1, j_X6_child_2, j_X6_child_5, j_X6_child_6, j_X6_child_7, j_X6_child_10, j_X6_child_11, j_X6_child_14, j_X6_child_15, j_X6_child_16, j_X6_child_19, j_X6_child_22, en_c2I, en_c2R, en_c2U, en_c2D, Option.some.injEq, exists_eq_left', exists_eq_left, Option.map_some, Option.map_none, not_true_eq_false, false_implies, true_implies, and_true, true_and, reduceCtorEq, not_false_eq_true]
  refine en_use (cu_X6_nodeAt hC) ?_
  rintro v σ' ⟨rfl, rfl⟩
  cases hx : st_ix (tr_N (sa_T S.1)) n with
  | none =>
    have hop : op_child S n k = -1 := by unfold op_child; rw [hx]
    rw [hop] at hq
    simp only [Option.toList, List.cons_append, List.nil_append, j_X6_child_0, j_X6_child_1, j_X6_child_2, j_X6_child_5, j_X6_child_6, j_X6_child_7, j_X6_child_10, j_X6_child_11, j_X6_child_14, j_X6_child_15, j_X6_child_16, j_X6_child_19, j_X6_child_22, en_c2I, en_c2R, en_c2U, en_c2D, Option.some.injEq, exists_eq_left', exists_eq_left, Option.map_some, Option.map_none, not_true_eq_false, false_implies, true_implies, and_true, true_and, reduceCtorEq, not_false_eq_true]
    exact hq _ _ ⟨rfl, rfl⟩
  | some n' =>
    obtain ⟨hn, rfl⟩ := st_ix_some (by have := w.1.1.2; omega) hx
    have hop : op_child S (nI n') k = st_num (if 0 ≤ k.toInt then (tr_ch (sa_T S.1) n')[k.toInt.toNat]? else none) := by unfold op_child; rw [hx]
    rw [hop] at hq
    simp only [Option.toList, List.cons_append, List.nil_append, j_X6_child_0, j_X6_child_1, j_X6_child_2, j_X6_child_5, j_X6_child_6, j_X6_child_7, j_X6_child_10, j_X6_child_11, j_X6_child_14, j_X6_child_15, j_X6_child_16, j_X6_child_19, j_X6_child_22, en_c2I, en_c2R, en_c2U, en_c2D, Option.some.injEq, exists_eq_left', exists_eq_left, Option.map_some, Option.map_none, not_true_eq_false, false_implies, true_implies, and_true, true_and, reduceCtorEq, not_false_eq_true]
    refine en_use (cu_X4_childAt hC.2.1 w.1 hn) ?_
    rintro v σ1 ⟨rfl, rfl⟩
    simp only [Option.toList, List.cons_append, List.nil_append, j_X6_child_0, j_X6_child_1, j_X6_child_2, j_X6_child_5, j_X6_child_6, j_X6_child_7, j_X6_child_10, j_X6_child_11, j_X6_child_14, j_X6_child_15, j_X6_child_16, j_X6_child_19, j_X6_child_22, en_c2I, en_c2R, en_c2U, en_c2D, Option.some.injEq, exists_eq_left', exists_eq_left, Option.map_some, Option.map_none, not_true_eq_false, false_implies, true_implies, and_true, true_and, reduceCtorEq, not_false_eq_true]
    refine en_use (cu_num hC.2.1 (fun m hm => ?_)) ?_
    · split at hm
      · exact (w.1.2.2.1 n' m hn (List.mem_of_getElem? hm)).1
      · cases hm
    rintro v σ1 ⟨rfl, rfl⟩
    simp only [Option.toList, List.cons_append, List.nil_append, j_X6_child_0, j_X6_child_1, j_X6_child_2, j_X6_child_5, j_X6_child_6, j_X6_child_7, j_X6_child_10, j_X6_child_11, j_X6_child_14, j_X6_child_15, j_X6_child_16, j_X6_child_19, j_X6_child_22, en_c2I, en_c2R, en_c2U, en_c2D, Option.some.injEq, exists_eq_left', exists_eq_left, Option.map_some, Option.map_none, not_true_eq_false, false_implies, true_implies, and_true, true_and, reduceCtorEq, not_false_eq_true]
    exact hq _ _ ⟨rfl, rfl⟩
theorem jp_X6_child {G : en_G}  : ∀ as σ, (C_X6_child G).1 as σ → (en_lc as).length ≤ 4 ∧ en_J (X_X6_child G (fun r σ' => (C_X6_child G).2 as σ r σ')) 0 (en_loc 4 as) [] σ := en_ghJ (fun g as σ h => by
  obtain ⟨hp, h2⟩ := h
  subst h2
  exact ⟨Nat.le_of_ble_eq_true rfl, jl_X6_child hp (fun _ _ h => h)⟩)
theorem wl_X6_child_57 : Jvm.Cond.methodLink RX6 57 yX6_nodeAt ∈ en_W := en_inW (List.mem_of_getElem? (i := 248) (by decide +kernel)) (by decide +kernel)
theorem wl_X6_child_219 : Jvm.Cond.methodLink RX6 219 yX4_childAt ∈ en_W := en_inW (List.mem_of_getElem? (i := 479) (by decide +kernel)) (by decide +kernel)
theorem wl_X6_child_53 : Jvm.Cond.methodLink RX6 53 yX6_numberOf ∈ en_W := en_inW (List.mem_of_getElem? (i := 241) (by decide +kernel)) (by decide +kernel)
theorem ok_X6_child {G : en_G}  : en_Ok G 3 yX6_child cX6_child 4 (some .int) (C_X6_child G) :=
  en_met (own := RX6) (fl := en_lk fl6) (nw := en_lk nw6) (aw := en_lk aw6) (dc := en_lk dc6) (ca := en_lk (ca_X6_child G)) (rt := 1) (ini := false) (by decide +kernel) (Or.inr (Or.inl ⟨rfl, rfl⟩)) (fun h => by cases h) rfl (fun q => en_LkF fl6_ok nw6_ok aw6_ok dc6_ok) (by
    intro idx q hq
    have hm := en_lk_mem hq
    simp only [ca_X6_child, List.mem_cons, Prod.mk.injEq, List.not_mem_nil, or_false] at hm
    rcases hm with ⟨rfl, rfl⟩ | ⟨rfl, rfl⟩ | ⟨rfl, rfl⟩
    · exact en_clV (r := (RX6, TX6, 13)) 6 1 ok_X6_nodeAt (by decide) (by decide) rfl rfl pr_X6_nodeAt wl_X6_child_57 wi_X6_nodeAt wx_X6_nodeAt wz_6 wc_X6_nodeAt ⟨by decide +kernel, by decide +kernel, by decide +kernel⟩
    · exact en_clV (r := (RX4, TX4, 12)) 4 1 ok_X4_childAt (by decide) (by decide) rfl rfl pr_X4_childAt wl_X6_child_219 wi_X4_childAt wx_X4_childAt wz_4 wc_X4_childAt ⟨by decide +kernel, by decide +kernel, by decide +kernel⟩
    · exact en_clS 1 ok_X6_numberOf (by decide) (by decide) pr_X6_numberOf wl_X6_child_53 ws_X6_numberOf wz_6 wc_X6_numberOf ⟨by decide +kernel, by decide +kernel, by decide +kernel⟩) jp_X6_child
def P_X1_read (G : en_G)  (g : (Nat) × (Nat → Nat) × (Nat → Nat) × (Nat → Nat) × (Nat) × (pb_S) × (Int32) × (Int32)) (as : List en_V) (σ : en_S) : Prop := (PX G (g.1) (g.2.1) (g.2.2.1) (g.2.2.2.1) (g.2.2.2.2.1) (g.2.2.2.2.2.1) σ ∧ sa_D (g.2.2.2.2.2.1).1 0 1 < 2 ^ 30) ∧ as = [en_R (some ((g.1) + 5)), en_I (g.2.2.2.2.2.2.1), en_I (g.2.2.2.2.2.2.2)]
def C_X1_read (G : en_G)  : en_C := en_gh (P_X1_read G) (fun g as σ v σ' => σ' = σ ∧ v = some (en_I (op_call (g.2.2.2.2.2.1) (g.2.2.2.2.2.2.1) (g.2.2.2.2.2.2.2))))
theorem pr_X1_read {G : en_G}  : ∀ as σ, (C_X1_read G).1 as σ → ∃ b tl, as = en_R (some b) :: tl ∧ en_cl σ b = some 1 ∧ tl.length = 2 := fun as σ ⟨g, hp, h2⟩ => ⟨_, _, h2, hp.1.1.1.2.2.1.1, rfl⟩
theorem cu_X1_read {G : en_G}  {x : Nat} {na : Nat → Nat} {la : Nat → Nat} {ba : Nat → Nat} {rm : Nat} {S : pb_S} {k : Int32} {u : Int32} {σ : en_S} (hp : PX G x na la ba rm S σ ∧ sa_D S.1 0 1 < 2 ^ 30) : en_Us (C_X1_read G) [en_R (some (x + 5)), en_I k, en_I u] σ (fun v σ' => σ' = σ ∧ v = some (en_I (op_call S k u))) := ⟨⟨(x, na, la, ba, rm, S, k, u), hp, rfl⟩, fun v σ' q => q (x, na, la, ba, rm, S, k, u) ⟨hp, rfl⟩⟩
def ca_X1_read (G : en_G) : List (Nat × Nat × en_C) := [(19, 4, C_X1_startOf)]
def X_X1_read (G : en_G) (q : Option en_V → en_S → Prop) : en_X := en_mk G cX1_read (en_lk fl1) (en_lk nw1) (en_lk aw1) (en_lk dc1) (en_lk (ca_X1_read G)) 1 false q
theorem d_X1_read_0 : decode cX1_read 0 = .ok (.iload_n 1, 1) := by decide +kernel
theorem j_X1_read_0 {G : en_G} {q : Option en_V → en_S → Prop}  {l0 l2 : en_V} {x1 : Int32} {σ : en_S} : en_J (X_X1_read G q) 0 [l0, en_I x1, l2] [] σ ↔ en_J (X_X1_read G q) 1 [l0, en_I x1, l2] [en_I x1] σ := en_j1 d_X1_read_0 rfl rfl
theorem d_X1_read_1 : decode cX1_read 1 = .ok (.ifCond .lt 26, 3) := by decide +kernel
theorem j_X1_read_1 {G : en_G} {q : Option en_V → en_S → Prop}  {l0 l1 l2 : en_V} {a0 : Int32} {σ : en_S} : en_J (X_X1_read G q) 1 [l0, l1, l2] [en_I a0] σ ↔ (a0 < 0 → en_J (X_X1_read G q) 27 [l0, l1, l2] [] σ) ∧ (¬ (a0 < 0) → en_J (X_X1_read G q) 4 [l0, l1, l2] [] σ) := en_jb d_X1_read_1 rfl ⟨rfl, by decide⟩
theorem d_X1_read_4 : decode cX1_read 4 = .ok (.iload_n 1, 1) := by decide +kernel
theorem j_X1_read_4 {G : en_G} {q : Option en_V → en_S → Prop}  {l0 l2 : en_V} {x1 : Int32} {σ : en_S} : en_J (X_X1_read G q) 4 [l0, en_I x1, l2] [] σ ↔ en_J (X_X1_read G q) 5 [l0, en_I x1, l2] [en_I x1] σ := en_j1 d_X1_read_4 rfl rfl
theorem d_X1_read_5 : decode cX1_read 5 = .ok (.bipush 32, 2) := by decide +kernel
theorem j_X1_read_5 {G : en_G} {q : Option en_V → en_S → Prop}  {l0 l1 l2 : en_V} {a0 : Int32} {σ : en_S} : en_J (X_X1_read G q) 5 [l0, l1, l2] [en_I a0] σ ↔ en_J (X_X1_read G q) 7 [l0, l1, l2] [en_I 32, en_I a0] σ := ej_bipush d_X1_read_5 (by decide +kernel)
theorem d_X1_read_7 : decode cX1_read 7 = .ok (.if_icmp .ge 20, 3) := by decide +kernel
theorem j_X1_read_7 {G : en_G} {q : Option en_V → en_S → Prop}  {l0 l1 l2 : en_V} {a0 : Int32} {a1 : Int32} {σ : en_S} : en_J (X_X1_read G q) 7 [l0, l1, l2] [en_I a0, en_I a1] σ ↔ (a0 ≤ a1 → en_J (X_X1_read G q) 27 [l0, l1, l2] [] σ) ∧ (¬ (a0 ≤ a1) → en_J (X_X1_read G q) 10 [l0, l1, l2] [] σ) := en_jb d_X1_read_7 rfl ⟨rfl, by decide⟩
theorem d_X1_read_10 : decode cX1_read 10 = .ok (.iload_n 1, 1) := by decide +kernel
theorem j_X1_read_10 {G : en_G} {q : Option en_V → en_S → Prop}  {l0 l2 : en_V} {x1 : Int32} {σ : en_S} : en_J (X_X1_read G q) 10 [l0, en_I x1, l2] [] σ ↔ en_J (X_X1_read G q) 11 [l0, en_I x1, l2] [en_I x1] σ := en_j1 d_X1_read_10 rfl rfl
theorem d_X1_read_11 : decode cX1_read 11 = .ok (.aload_n 0, 1) := by decide +kernel
theorem j_X1_read_11 {G : en_G} {q : Option en_V → en_S → Prop}  {l1 l2 : en_V} {a0 : Int32} {x0 : Option Nat} {σ : en_S} : en_J (X_X1_read G q) 11 [en_R x0, l1, l2] [en_I a0] σ ↔ en_J (X_X1_read G q) 12 [en_R x0, l1, l2] [en_R x0, en_I a0] σ := en_j1 d_X1_read_11 rfl rfl
theorem d_X1_read_12 : decode cX1_read 12 = .ok (.getfield 15, 3) := by decide +kernel
theorem j_X1_read_12 {G : en_G} {q : Option en_V → en_S → Prop}  {l0 l1 l2 : en_V} {a0 : Option Nat} {a1 : Int32} {σ : en_S} : en_J (X_X1_read G q) 12 [l0, l1, l2] [en_R a0, en_I a1] σ ↔ ∃ a, a0 = some a ∧ en_cl σ a = some 1 ∧ en_J (X_X1_read G q) 15 [l0, l1, l2] [en_I (en_fi σ 101 a), en_I a1] σ := en_jg (st := fun o => [en_R o, en_I a1]) (st' := fun a => [en_I (en_fi σ 101 a), en_I a1]) (σ' := fun _ => σ) d_X1_read_12 rfl (fun a => rfl) (fun a => ⟨fun h => h.2, fun h => ⟨rfl, h⟩⟩)
theorem d_X1_read_15 : decode cX1_read 15 = .ok (.if_icmp .ge 12, 3) := by decide +kernel
theorem j_X1_read_15 {G : en_G} {q : Option en_V → en_S → Prop}  {l0 l1 l2 : en_V} {a0 : Int32} {a1 : Int32} {σ : en_S} : en_J (X_X1_read G q) 15 [l0, l1, l2] [en_I a0, en_I a1] σ ↔ (a0 ≤ a1 → en_J (X_X1_read G q) 27 [l0, l1, l2] [] σ) ∧ (¬ (a0 ≤ a1) → en_J (X_X1_read G q) 18 [l0, l1, l2] [] σ) := en_jb d_X1_read_15 rfl ⟨rfl, by decide⟩
theorem d_X1_read_18 : decode cX1_read 18 = .ok (.iload_n 2, 1) := by decide +kernel
theorem j_X1_read_18 {G : en_G} {q : Option en_V → en_S → Prop}  {l0 l1 : en_V} {x2 : Int32} {σ : en_S} : en_J (X_X1_read G q) 18 [l0, l1, en_I x2] [] σ ↔ en_J (X_X1_read G q) 19 [l0, l1, en_I x2] [en_I x2] σ := en_j1 d_X1_read_18 rfl rfl
theorem d_X1_read_19 : decode cX1_read 19 = .ok (.ifCond .lt 8, 3) := by decide +kernel
theorem j_X1_read_19 {G : en_G} {q : Option en_V → en_S → Prop}  {l0 l1 l2 : en_V} {a0 : Int32} {σ : en_S} : en_J (X_X1_read G q) 19 [l0, l1, l2] [en_I a0] σ ↔ (a0 < 0 → en_J (X_X1_read G q) 27 [l0, l1, l2] [] σ) ∧ (¬ (a0 < 0) → en_J (X_X1_read G q) 22 [l0, l1, l2] [] σ) := en_jb d_X1_read_19 rfl ⟨rfl, by decide⟩
theorem d_X1_read_22 : decode cX1_read 22 = .ok (.iload_n 2, 1) := by decide +kernel
theorem j_X1_read_22 {G : en_G} {q : Option en_V → en_S → Prop}  {l0 l1 : en_V} {x2 : Int32} {σ : en_S} : en_J (X_X1_read G q) 22 [l0, l1, en_I x2] [] σ ↔ en_J (X_X1_read G q) 23 [l0, l1, en_I x2] [en_I x2] σ := en_j1 d_X1_read_22 rfl rfl
theorem d_X1_read_23 : decode cX1_read 23 = .ok (.iconst 5, 1) := by decide +kernel
theorem j_X1_read_23 {G : en_G} {q : Option en_V → en_S → Prop}  {l0 l1 l2 : en_V} {a0 : Int32} {σ : en_S} : en_J (X_X1_read G q) 23 [l0, l1, l2] [en_I a0] σ ↔ en_J (X_X1_read G q) 24 [l0, l1, l2] [en_I 5, en_I a0] σ := ej_iconst d_X1_read_23 (by decide +kernel)
theorem d_X1_read_24 : decode cX1_read 24 = .ok (.if_icmp .lt 5, 3) := by decide +kernel
theorem j_X1_read_24 {G : en_G} {q : Option en_V → en_S → Prop}  {l0 l1 l2 : en_V} {a0 : Int32} {a1 : Int32} {σ : en_S} : en_J (X_X1_read G q) 24 [l0, l1, l2] [en_I a0, en_I a1] σ ↔ (a1 < a0 → en_J (X_X1_read G q) 29 [l0, l1, l2] [] σ) ∧ (¬ (a1 < a0) → en_J (X_X1_read G q) 27 [l0, l1, l2] [] σ) := en_jb d_X1_read_24 rfl ⟨rfl, by decide⟩
theorem d_X1_read_27 : decode cX1_read 27 = .ok (.iconst (-1), 1) := by decide +kernel
theorem j_X1_read_27 {G : en_G} {q : Option en_V → en_S → Prop}  {l0 l1 l2 : en_V}  {σ : en_S} : en_J (X_X1_read G q) 27 [l0, l1, l2] [] σ ↔ en_J (X_X1_read G q) 28 [l0, l1, l2] [en_I (-1)] σ := ej_iconst d_X1_read_27 (by decide +kernel)
theorem d_X1_read_28 : decode cX1_read 28 = .ok (.ireturn, 1) := by decide +kernel
theorem j_X1_read_28 {G : en_G} {q : Option en_V → en_S → Prop}  {l0 l1 l2 : en_V} {a0 : Int32} {σ : en_S} : en_J (X_X1_read G q) 28 [l0, l1, l2] [en_I a0] σ ↔ q (some (en_I a0)) σ := en_jr d_X1_read_28 rfl ⟨fun h => h.2.2, fun h => ⟨rfl, Or.inl rfl, h⟩⟩
theorem d_X1_read_29 : decode cX1_read 29 = .ok (.aload_n 0, 1) := by decide +kernel
theorem j_X1_read_29 {G : en_G} {q : Option en_V → en_S → Prop}  {l1 l2 : en_V} {x0 : Option Nat} {σ : en_S} : en_J (X_X1_read G q) 29 [en_R x0, l1, l2] [] σ ↔ en_J (X_X1_read G q) 30 [en_R x0, l1, l2] [en_R x0] σ := en_j1 d_X1_read_29 rfl rfl
theorem d_X1_read_30 : decode cX1_read 30 = .ok (.getfield 9, 3) := by decide +kernel
theorem j_X1_read_30 {G : en_G} {q : Option en_V → en_S → Prop}  {l0 l1 l2 : en_V} {a0 : Option Nat} {σ : en_S} : en_J (X_X1_read G q) 30 [l0, l1, l2] [en_R a0] σ ↔ ∃ a, a0 = some a ∧ en_cl σ a = some 1 ∧ en_J (X_X1_read G q) 33 [l0, l1, l2] [en_R (en_fr σ 100 a)] σ := en_jg (st := fun o => [en_R o]) (st' := fun a => [en_R (en_fr σ 100 a)]) (σ' := fun _ => σ) d_X1_read_30 rfl (fun a => rfl) (fun a => ⟨fun h => h.2, fun h => ⟨rfl, h⟩⟩)
theorem d_X1_read_33 : decode cX1_read 33 = .ok (.aload_n 0, 1) := by decide +kernel
theorem j_X1_read_33 {G : en_G} {q : Option en_V → en_S → Prop}  {l1 l2 : en_V} {a0 : Option Nat} {x0 : Option Nat} {σ : en_S} : en_J (X_X1_read G q) 33 [en_R x0, l1, l2] [en_R a0] σ ↔ en_J (X_X1_read G q) 34 [en_R x0, l1, l2] [en_R x0, en_R a0] σ := en_j1 d_X1_read_33 rfl rfl
theorem d_X1_read_34 : decode cX1_read 34 = .ok (.getfield 15, 3) := by decide +kernel
theorem j_X1_read_34 {G : en_G} {q : Option en_V → en_S → Prop}  {l0 l1 l2 : en_V} {a0 : Option Nat} {a1 : Option Nat} {σ : en_S} : en_J (X_X1_read G q) 34 [l0, l1, l2] [en_R a0, en_R a1] σ ↔ ∃ a, a0 = some a ∧ en_cl σ a = some 1 ∧ en_J (X_X1_read G q) 37 [l0, l1, l2] [en_I (en_fi σ 101 a), en_R a1] σ := en_jg (st := fun o => [en_R o, en_R a1]) (st' := fun a => [en_I (en_fi σ 101 a), en_R a1]) (σ' := fun _ => σ) d_X1_read_34 rfl (fun a => rfl) (fun a => ⟨fun h => h.2, fun h => ⟨rfl, h⟩⟩)
theorem d_X1_read_37 : decode cX1_read 37 = .ok (.iconst 1, 1) := by decide +kernel
theorem j_X1_read_37 {G : en_G} {q : Option en_V → en_S → Prop}  {l0 l1 l2 : en_V} {a0 : Int32} {a1 : Option Nat} {σ : en_S} : en_J (X_X1_read G q) 37 [l0, l1, l2] [en_I a0, en_R a1] σ ↔ en_J (X_X1_read G q) 38 [l0, l1, l2] [en_I 1, en_I a0, en_R a1] σ := ej_iconst d_X1_read_37 (by decide +kernel)
theorem d_X1_read_38 : decode cX1_read 38 = .ok (.isub, 1) := by decide +kernel
theorem j_X1_read_38 {G : en_G} {q : Option en_V → en_S → Prop}  {l0 l1 l2 : en_V} {a0 : Int32} {a1 : Int32} {a2 : Option Nat} {σ : en_S} : en_J (X_X1_read G q) 38 [l0, l1, l2] [en_I a0, en_I a1, en_R a2] σ ↔ en_J (X_X1_read G q) 39 [l0, l1, l2] [en_I (a1 - a0), en_R a2] σ := en_j1 d_X1_read_38 rfl ⟨rfl, trivial⟩
theorem d_X1_read_39 : decode cX1_read 39 = .ok (.iload_n 1, 1) := by decide +kernel
theorem j_X1_read_39 {G : en_G} {q : Option en_V → en_S → Prop}  {l0 l2 : en_V} {a0 : Int32} {a1 : Option Nat} {x1 : Int32} {σ : en_S} : en_J (X_X1_read G q) 39 [l0, en_I x1, l2] [en_I a0, en_R a1] σ ↔ en_J (X_X1_read G q) 40 [l0, en_I x1, l2] [en_I x1, en_I a0, en_R a1] σ := en_j1 d_X1_read_39 rfl rfl
theorem d_X1_read_40 : decode cX1_read 40 = .ok (.isub, 1) := by decide +kernel
theorem j_X1_read_40 {G : en_G} {q : Option en_V → en_S → Prop}  {l0 l1 l2 : en_V} {a0 : Int32} {a1 : Int32} {a2 : Option Nat} {σ : en_S} : en_J (X_X1_read G q) 40 [l0, l1, l2] [en_I a0, en_I a1, en_R a2] σ ↔ en_J (X_X1_read G q) 41 [l0, l1, l2] [en_I (a1 - a0), en_R a2] σ := en_j1 d_X1_read_40 rfl ⟨rfl, trivial⟩
theorem d_X1_read_41 : decode cX1_read 41 = .ok (.invokestatic 19, 3) := by decide +kernel
theorem j_X1_read_41 {G : en_G} {q : Option en_V → en_S → Prop}  {l0 l1 l2 : en_V} {a0 : Int32} {a1 : Option Nat} {σ : en_S} : en_J (X_X1_read G q) 41 [l0, l1, l2] [en_I a0, en_R a1] σ ↔ C_X1_startOf.1 [en_I a0] σ ∧ ∀ (r : Option en_V) (σ' : en_S), C_X1_startOf.2 [en_I a0] σ r σ' → en_J (X_X1_read G q) 44 [l0, l1, l2] (r.toList ++ [en_R a1]) σ' := en_jk d_X1_read_41 rfl ⟨fun h => h.2.2.2.2, fun h => ⟨rfl, rfl, Nat.le_of_ble_eq_true rfl, Nat.le_of_ble_eq_true rfl, h⟩⟩
theorem d_X1_read_44 : decode cX1_read 44 = .ok (.iload_n 2, 1) := by decide +kernel
theorem j_X1_read_44 {G : en_G} {q : Option en_V → en_S → Prop}  {l0 l1 : en_V} {a0 : Int32} {a1 : Option Nat} {x2 : Int32} {σ : en_S} : en_J (X_X1_read G q) 44 [l0, l1, en_I x2] [en_I a0, en_R a1] σ ↔ en_J (X_X1_read G q) 45 [l0, l1, en_I x2] [en_I x2, en_I a0, en_R a1] σ := en_j1 d_X1_read_44 rfl rfl
theorem d_X1_read_45 : decode cX1_read 45 = .ok (.iadd, 1) := by decide +kernel
theorem j_X1_read_45 {G : en_G} {q : Option en_V → en_S → Prop}  {l0 l1 l2 : en_V} {a0 : Int32} {a1 : Int32} {a2 : Option Nat} {σ : en_S} : en_J (X_X1_read G q) 45 [l0, l1, l2] [en_I a0, en_I a1, en_R a2] σ ↔ en_J (X_X1_read G q) 46 [l0, l1, l2] [en_I (a1 + a0), en_R a2] σ := en_j1 d_X1_read_45 rfl ⟨rfl, trivial⟩
theorem d_X1_read_46 : decode cX1_read 46 = .ok (.iaload, 1) := by decide +kernel
theorem j_X1_read_46 {G : en_G} {q : Option en_V → en_S → Prop}  {l0 l1 l2 : en_V} {a0 : Int32} {a1 : Option Nat} {σ : en_S} : en_J (X_X1_read G q) 46 [l0, l1, l2] [en_I a0, en_R a1] σ ↔ ∃ a, a1 = some a ∧ (∃ k, en_al σ a = some (0, k) ∧ vp_in a0 k) ∧ en_J (X_X1_read G q) 47 [l0, l1, l2] [en_I (en_ai σ a a0.toNatClampNeg)] σ := ej_iaload d_X1_read_46 rfl
theorem d_X1_read_47 : decode cX1_read 47 = .ok (.ireturn, 1) := by decide +kernel
theorem j_X1_read_47 {G : en_G} {q : Option en_V → en_S → Prop}  {l0 l1 l2 : en_V} {a0 : Int32} {σ : en_S} : en_J (X_X1_read G q) 47 [l0, l1, l2] [en_I a0] σ ↔ q (some (en_I a0)) σ := en_jr d_X1_read_47 rfl ⟨fun h => h.2.2, fun h => ⟨rfl, Or.inl rfl, h⟩⟩
theorem wc_X1_read : Jvm.Cond.code yX1_read cX1_read 3 (some .int) ∈ en_W := en_inW (List.mem_of_getElem? (i := 490) (by decide +kernel)) (by decide +kernel)
theorem wi_X1_read : Jvm.Cond.instanceMethod yX1_read ∈ en_W := en_inW (List.mem_of_getElem? (i := 488) (by decide +kernel)) (by decide +kernel)
theorem wx_X1_read : Jvm.Cond.selects RX1 yX1_read yX1_read ∈ en_W := en_inW (List.mem_of_getElem? (i := 489) (by decide +kernel)) (by decide +kernel)
theorem jl_X1_read {G : en_G}  {x : Nat} {na : Nat → Nat} {la : Nat → Nat} {ba : Nat → Nat} {rm : Nat} {S : pb_S} {k : Int32} {u : Int32} {q : Option en_V → en_S → Prop} {σ : en_S} (hp : PX G x na la ba rm S σ ∧ sa_D S.1 0 1 < 2 ^ 30) (hq : ∀ v σ', (σ' = σ ∧ v = some (en_I (op_call S k u))) → q v σ') : en_J (X_X1_read G q) 0 [en_R (some (x + 5)), en_I k, en_I u] [] σ := by
  obtain ⟨hP, hlog⟩ := hp
  have hC := hP.1
  have lo := hC.2.2.2.2.2.2.1
  obtain ⟨c1, c2, c3⟩ := hC.1.2.2.1
  have fin : op_call S k u = -1 → q (some (en_I (-1))) σ := fun hop => hq _ _ ⟨rfl, by rw [hop]⟩
  have c32 : nI 32 = 32 := by decide +kernel
  have c5 : nI 5 = 5 := by decide +kernel
  cases hx : st_ix 32 k with
  | none =>
    have hno := st_ix_none hx
    have := fin (by unfold op_call; rw [hx])
    rw [c32] at hno
    simp only [j_X1_read_0, j_X1_read_1, j_X1_read_4, j_X1_read_5, j_X1_read_7, j_X1_read_10, j_X1_read_11, j_X1_read_12, j_X1_read_15, j_X1_read_18, j_X1_read_19, j_X1_read_22, j_X1_read_23, j_X1_read_24, j_X1_read_27, j_X1_read_28, j_X1_read_29, j_X1_read_30, j_X1_read_33, j_X1_read_34, j_X1_read_37, j_X1_read_38, j_X1_read_39, j_X1_read_40, j_X1_read_41, j_X1_read_44, j_X1_read_45, j_X1_read_46, j_X1_read_47, en_c2I, en_c2R, en_c2U, en_c2D, Option.some.injEq, exists_eq_left', exists_eq_left, Option.map_some, Option.map_none, not_true_eq_false, false_implies, true_implies, and_true, true_and, reduceCtorEq, not_false_eq_true, c1, lo.1]
    exact ⟨fun _ => this, fun h1 => ⟨fun _ => this, fun h2 => absurd ⟨Int32.not_lt.mp h1, Int32.not_le.mp h2⟩ hno⟩⟩
  | some k' =>
    obtain ⟨hk, rfl⟩ := st_ix_some (by decide) hx
    have q1 : ¬ nI k' < 0 := nI_pos (by omega)
    have q2 : ¬ 32 ≤ nI k' := by rw [← c32]; exact nI_ge hk (by decide)
    by_cases hkc : k' < sa_D S.1 0 1
    · have q3 : ¬ nI (sa_D S.1 0 1) ≤ nI k' := nI_ge hkc (by omega)
      cases hy : st_ix 5 u with
      | none =>
        have hno := st_ix_none hy
        have := fin (by unfold op_call; rw [hx, hy])
        rw [c5] at hno
        simp only [j_X1_read_0, j_X1_read_1, j_X1_read_4, j_X1_read_5, j_X1_read_7, j_X1_read_10, j_X1_read_11, j_X1_read_12, j_X1_read_15, j_X1_read_18, j_X1_read_19, j_X1_read_22, j_X1_read_23, j_X1_read_24, j_X1_read_27, j_X1_read_28, j_X1_read_29, j_X1_read_30, j_X1_read_33, j_X1_read_34, j_X1_read_37, j_X1_read_38, j_X1_read_39, j_X1_read_40, j_X1_read_41, j_X1_read_44, j_X1_read_45, j_X1_read_46, j_X1_read_47, en_c2I, en_c2R, en_c2U, en_c2D, Option.some.injEq, exists_eq_left', exists_eq_left, Option.map_some, Option.map_none, not_true_eq_false, false_implies, true_implies, and_true, true_and, reduceCtorEq, not_false_eq_true, c1, lo.1, q1, q2, q3]
        exact ⟨fun _ => this, fun h1 => ⟨fun h2 => absurd ⟨Int32.not_lt.mp h1, h2⟩ hno, fun _ => this⟩⟩
      | some u' =>
        obtain ⟨hu, rfl⟩ := st_ix_some (by decide) hy
        have q4 : ¬ nI u' < 0 := nI_pos (by omega)
        have q5 : nI u' < 5 := by rw [← c5]; exact nI_lt hu (by decide)
        have q6 : nI (sa_D S.1 0 1) - 1 - nI k' = nI (sa_D S.1 0 1 - 1 - k') := by
          rw [show (1 : Int32) = nI 1 from by decide +kernel, pk_sub (by omega), pk_sub (by omega)]
        have hop : op_call S (nI k') (nI u') = sa_I S.1 2 ((sa_D S.1 0 1 - 1 - k') % 32 * 5 + u') := by unfold op_call; rw [hx, hy]; simp only; rw [if_pos hkc]
        rw [hop] at hq
        simp only [j_X1_read_0, j_X1_read_1, j_X1_read_4, j_X1_read_5, j_X1_read_7, j_X1_read_10, j_X1_read_11, j_X1_read_12, j_X1_read_15, j_X1_read_18, j_X1_read_19, j_X1_read_22, j_X1_read_23, j_X1_read_24, j_X1_read_27, j_X1_read_28, j_X1_read_29, j_X1_read_30, j_X1_read_33, j_X1_read_34, j_X1_read_37, j_X1_read_38, j_X1_read_39, j_X1_read_40, j_X1_read_41, j_X1_read_44, j_X1_read_45, j_X1_read_46, j_X1_read_47, en_c2I, en_c2R, en_c2U, en_c2D, Option.some.injEq, exists_eq_left', exists_eq_left, Option.map_some, Option.map_none, not_true_eq_false, false_implies, true_implies, and_true, true_and, reduceCtorEq, not_false_eq_true, c1, c2, lo.1, q1, q2, q3, q4, q5, q6]
        refine en_use (cu_X1_startOf (by omega)) ?_
        rintro v σ1 ⟨rfl, rfl⟩
        have hm : (sa_D S.1 0 1 - 1 - k') % 32 < 32 := Nat.mod_lt _ (by decide)
        have q7 : nI ((sa_D S.1 0 1 - 1 - k') % 32 * 5) + nI u' = nI ((sa_D S.1 0 1 - 1 - k') % 32 * 5 + u') := nI_add _ _
        have q8 : vp_in (nI ((sa_D S.1 0 1 - 1 - k') % 32 * 5 + u')) 160 := vp_in_nI (by omega) (by decide)
        have q9 : (nI ((sa_D S.1 0 1 - 1 - k') % 32 * 5 + u')).toNatClampNeg = (sa_D S.1 0 1 - 1 - k') % 32 * 5 + u' := nI_clamp (by omega)
        simp only [Option.toList, List.cons_append, List.nil_append, j_X1_read_0, j_X1_read_1, j_X1_read_4, j_X1_read_5, j_X1_read_7, j_X1_read_10, j_X1_read_11, j_X1_read_12, j_X1_read_15, j_X1_read_18, j_X1_read_19, j_X1_read_22, j_X1_read_23, j_X1_read_24, j_X1_read_27, j_X1_read_28, j_X1_read_29, j_X1_read_30, j_X1_read_33, j_X1_read_34, j_X1_read_37, j_X1_read_38, j_X1_read_39, j_X1_read_40, j_X1_read_41, j_X1_read_44, j_X1_read_45, j_X1_read_46, j_X1_read_47, en_c2I, en_c2R, en_c2U, en_c2D, Option.some.injEq, exists_eq_left', exists_eq_left, Option.map_some, Option.map_none, not_true_eq_false, false_implies, true_implies, and_true, true_and, reduceCtorEq, not_false_eq_true, q7, q8, q9, c3, Prod.mk.injEq, lo.2 _ (show (sa_D S.1 0 1 - 1 - k') % 32 * 5 + u' < 160 by omega)]
        exact hq _ _ ⟨rfl, rfl⟩
    · have q3 : nI (sa_D S.1 0 1) ≤ nI k' := nI_le (by omega) (by omega)
      have hop : op_call S (nI k') u = -1 := by
        unfold op_call
        rw [hx]
        cases st_ix 5 u with
        | none => rfl
        | some u' => simp only; rw [if_neg hkc]
      simp only [j_X1_read_0, j_X1_read_1, j_X1_read_4, j_X1_read_5, j_X1_read_7, j_X1_read_10, j_X1_read_11, j_X1_read_12, j_X1_read_15, j_X1_read_18, j_X1_read_19, j_X1_read_22, j_X1_read_23, j_X1_read_24, j_X1_read_27, j_X1_read_28, j_X1_read_29, j_X1_read_30, j_X1_read_33, j_X1_read_34, j_X1_read_37, j_X1_read_38, j_X1_read_39, j_X1_read_40, j_X1_read_41, j_X1_read_44, j_X1_read_45, j_X1_read_46, j_X1_read_47, en_c2I, en_c2R, en_c2U, en_c2D, Option.some.injEq, exists_eq_left', exists_eq_left, Option.map_some, Option.map_none, not_true_eq_false, false_implies, true_implies, and_true, true_and, reduceCtorEq, not_false_eq_true, c1, lo.1, q1, q2, q3]
      exact fin hop
theorem jp_X1_read {G : en_G}  : ∀ as σ, (C_X1_read G).1 as σ → (en_lc as).length ≤ 3 ∧ en_J (X_X1_read G (fun r σ' => (C_X1_read G).2 as σ r σ')) 0 (en_loc 3 as) [] σ := en_ghJ (fun g as σ h => by
  obtain ⟨hp, h2⟩ := h
  subst h2
  exact ⟨Nat.le_of_ble_eq_true rfl, jl_X1_read hp (fun _ _ h => h)⟩)
theorem wl_X1_read_19 : Jvm.Cond.methodLink RX1 19 yX1_startOf ∈ en_W := en_inW (List.mem_of_getElem? (i := 427) (by decide +kernel)) (by decide +kernel)
theorem ok_X1_read {G : en_G}  : en_Ok G 3 yX1_read cX1_read 3 (some .int) (C_X1_read G) :=
  en_met (own := RX1) (fl := en_lk fl1) (nw := en_lk nw1) (aw := en_lk aw1) (dc := en_lk dc1) (ca := en_lk (ca_X1_read G)) (rt := 1) (ini := false) (by decide +kernel) (Or.inr (Or.inl ⟨rfl, rfl⟩)) (fun h => by cases h) rfl (fun q => en_LkF fl1_ok nw1_ok aw1_ok dc1_ok) (by
    intro idx q hq
    have hm := en_lk_mem hq
    simp only [ca_X1_read, List.mem_cons, Prod.mk.injEq, List.not_mem_nil, or_false] at hm
    rcases hm with ⟨rfl, rfl⟩
    · exact en_clS 1 ok_X1_startOf (by decide) (by decide) pr_X1_startOf wl_X1_read_19 ws_X1_startOf wz_1 wc_X1_startOf ⟨by decide +kernel, by decide +kernel, by decide +kernel⟩) jp_X1_read
def P_X6_call (G : en_G)  (g : (Nat) × (Nat → Nat) × (Nat → Nat) × (Nat → Nat) × (Nat) × (pb_S) × (Int32) × (Int32)) (as : List en_V) (σ : en_S) : Prop := (PX G (g.1) (g.2.1) (g.2.2.1) (g.2.2.2.1) (g.2.2.2.2.1) (g.2.2.2.2.2.1) σ ∧ sa_D (g.2.2.2.2.2.1).1 0 1 < 2 ^ 30) ∧ as = [en_R (some (g.1)), en_I (g.2.2.2.2.2.2.1), en_I (g.2.2.2.2.2.2.2)]
def C_X6_call (G : en_G)  : en_C := en_gh (P_X6_call G) (fun g as σ v σ' => σ' = σ ∧ v = some (en_I (op_call (g.2.2.2.2.2.1) (g.2.2.2.2.2.2.1) (g.2.2.2.2.2.2.2))))
theorem pr_X6_call {G : en_G}  : ∀ as σ, (C_X6_call G).1 as σ → ∃ b tl, as = en_R (some b) :: tl ∧ en_cl σ b = some 6 ∧ tl.length = 2 := fun as σ ⟨g, hp, h2⟩ => ⟨_, _, h2, hp.1.1.1.1.1, rfl⟩
theorem cu_X6_call {G : en_G}  {x : Nat} {na : Nat → Nat} {la : Nat → Nat} {ba : Nat → Nat} {rm : Nat} {S : pb_S} {k : Int32} {u : Int32} {σ : en_S} (hp : PX G x na la ba rm S σ ∧ sa_D S.1 0 1 < 2 ^ 30) : en_Us (C_X6_call G) [en_R (some x), en_I k, en_I u] σ (fun v σ' => σ' = σ ∧ v = some (en_I (op_call S k u))) := ⟨⟨(x, na, la, ba, rm, S, k, u), hp, rfl⟩, fun v σ' q => q (x, na, la, ba, rm, S, k, u) ⟨hp, rfl⟩⟩
def ca_X6_call (G : en_G) : List (Nat × Nat × en_C) := [(222, 13, (C_X1_read G))]
def X_X6_call (G : en_G) (q : Option en_V → en_S → Prop) : en_X := en_mk G cX6_call (en_lk fl6) (en_lk nw6) (en_lk aw6) (en_lk dc6) (en_lk (ca_X6_call G)) 1 false q
theorem d_X6_call_0 : decode cX6_call 0 = .ok (.aload_n 0, 1) := by decide +kernel
theorem j_X6_call_0 {G : en_G} {q : Option en_V → en_S → Prop}  {l1 l2 : en_V} {x0 : Option Nat} {σ : en_S} : en_J (X_X6_call G q) 0 [en_R x0, l1, l2] [] σ ↔ en_J (X_X6_call G q) 1 [en_R x0, l1, l2] [en_R x0] σ := en_j1 d_X6_call_0 rfl rfl
theorem d_X6_call_1 : decode cX6_call 1 = .ok (.getfield 36, 3) := by decide +kernel
theorem j_X6_call_1 {G : en_G} {q : Option en_V → en_S → Prop}  {l0 l1 l2 : en_V} {a0 : Option Nat} {σ : en_S} : en_J (X_X6_call G q) 1 [l0, l1, l2] [en_R a0] σ ↔ ∃ a, a0 = some a ∧ en_cl σ a = some 6 ∧ en_J (X_X6_call G q) 4 [l0, l1, l2] [en_R (en_fr σ 608 a)] σ := en_jg (st := fun o => [en_R o]) (st' := fun a => [en_R (en_fr σ 608 a)]) (σ' := fun _ => σ) d_X6_call_1 rfl (fun a => rfl) (fun a => ⟨fun h => h.2, fun h => ⟨rfl, h⟩⟩)
theorem d_X6_call_4 : decode cX6_call 4 = .ok (.iload_n 1, 1) := by decide +kernel
theorem j_X6_call_4 {G : en_G} {q : Option en_V → en_S → Prop}  {l0 l2 : en_V} {a0 : Option Nat} {x1 : Int32} {σ : en_S} : en_J (X_X6_call G q) 4 [l0, en_I x1, l2] [en_R a0] σ ↔ en_J (X_X6_call G q) 5 [l0, en_I x1, l2] [en_I x1, en_R a0] σ := en_j1 d_X6_call_4 rfl rfl
theorem d_X6_call_5 : decode cX6_call 5 = .ok (.iload_n 2, 1) := by decide +kernel
theorem j_X6_call_5 {G : en_G} {q : Option en_V → en_S → Prop}  {l0 l1 : en_V} {a0 : Int32} {a1 : Option Nat} {x2 : Int32} {σ : en_S} : en_J (X_X6_call G q) 5 [l0, l1, en_I x2] [en_I a0, en_R a1] σ ↔ en_J (X_X6_call G q) 6 [l0, l1, en_I x2] [en_I x2, en_I a0, en_R a1] σ := en_j1 d_X6_call_5 rfl rfl
theorem d_X6_call_6 : decode cX6_call 6 = .ok (.invokevirtual 222, 3) := by decide +kernel
theorem j_X6_call_6 {G : en_G} {q : Option en_V → en_S → Prop}  {l0 l1 l2 : en_V} {a0 : Int32} {a1 : Int32} {a2 : Option Nat} {σ : en_S} : en_J (X_X6_call G q) 6 [l0, l1, l2] [en_I a0, en_I a1, en_R a2] σ ↔ (C_X1_read G).1 [en_R a2, en_I a1, en_I a0] σ ∧ ∀ (r : Option en_V) (σ' : en_S), (C_X1_read G).2 [en_R a2, en_I a1, en_I a0] σ r σ' → en_J (X_X6_call G q) 9 [l0, l1, l2] (r.toList ++ []) σ' := en_jkC (C := (C_X1_read G)) (n' := 3) (k := 1) (idx := 222) d_X6_call_6 rfl rfl (by decide) (Nat.le_of_ble_eq_true rfl) (Nat.le_of_ble_eq_true rfl)
theorem d_X6_call_9 : decode cX6_call 9 = .ok (.ireturn, 1) := by decide +kernel
theorem j_X6_call_9 {G : en_G} {q : Option en_V → en_S → Prop}  {l0 l1 l2 : en_V} {a0 : Int32} {σ : en_S} : en_J (X_X6_call G q) 9 [l0, l1, l2] [en_I a0] σ ↔ q (some (en_I a0)) σ := en_jr d_X6_call_9 rfl ⟨fun h => h.2.2, fun h => ⟨rfl, Or.inl rfl, h⟩⟩
theorem wc_X6_call : Jvm.Cond.code yX6_call cX6_call 3 (some .int) ∈ en_W := en_inW (List.mem_of_getElem? (i := 486) (by decide +kernel)) (by decide +kernel)
theorem wi_X6_call : Jvm.Cond.instanceMethod yX6_call ∈ en_W := en_inW (List.mem_of_getElem? (i := 484) (by decide +kernel)) (by decide +kernel)
theorem wx_X6_call : Jvm.Cond.selects RX6 yX6_call yX6_call ∈ en_W := en_inW (List.mem_of_getElem? (i := 485) (by decide +kernel)) (by decide +kernel)
theorem jl_X6_call {G : en_G}  {x : Nat} {na : Nat → Nat} {la : Nat → Nat} {ba : Nat → Nat} {rm : Nat} {S : pb_S} {k : Int32} {u : Int32} {q : Option en_V → en_S → Prop} {σ : en_S} (hp : PX G x na la ba rm S σ ∧ sa_D S.1 0 1 < 2 ^ 30) (hq : ∀ v σ', (σ' = σ ∧ v = some (en_I (op_call S k u))) → q v σ') : en_J (X_X6_call G q) 0 [en_R (some x), en_I k, en_I u] [] σ := by
  obtain ⟨hP, hlog⟩ := hp
  have hC := hP.1
  obtain ⟨a1, a2, a3, a4, a5, a6⟩ := hC.1.1
  simp only [j_X6_call_0, j_X6_call_1, j_X6_call_4, j_X6_call_5, j_X6_call_6, j_X6_call_9, en_c2I, en_c2R, en_c2U, en_c2D, Option.some.injEq, exists_eq_left', exists_eq_left, Option.map_some, Option.map_none, not_true_eq_false, false_implies, true_implies, and_true, true_and, reduceCtorEq, not_false_eq_true, a1, a6]
  refine en_use (cu_X1_read ⟨hP, hlog⟩) ?_
  rintro v σ1 ⟨rfl, rfl⟩
  simp only [Option.toList, List.cons_append, List.nil_append, j_X6_call_0, j_X6_call_1, j_X6_call_4, j_X6_call_5, j_X6_call_6, j_X6_call_9, en_c2I, en_c2R, en_c2U, en_c2D, Option.some.injEq, exists_eq_left', exists_eq_left, Option.map_some, Option.map_none, not_true_eq_false, false_implies, true_implies, and_true, true_and, reduceCtorEq, not_false_eq_true]
  exact hq _ _ ⟨rfl, rfl⟩
theorem jp_X6_call {G : en_G}  : ∀ as σ, (C_X6_call G).1 as σ → (en_lc as).length ≤ 3 ∧ en_J (X_X6_call G (fun r σ' => (C_X6_call G).2 as σ r σ')) 0 (en_loc 3 as) [] σ := en_ghJ (fun g as σ h => by
  obtain ⟨hp, h2⟩ := h
  subst h2
  exact ⟨Nat.le_of_ble_eq_true rfl, jl_X6_call hp (fun _ _ h => h)⟩)
theorem wl_X6_call_222 : Jvm.Cond.methodLink RX6 222 yX1_read ∈ en_W := en_inW (List.mem_of_getElem? (i := 487) (by decide +kernel)) (by decide +kernel)
theorem ok_X6_call {G : en_G}  : en_Ok G 4 yX6_call cX6_call 3 (some .int) (C_X6_call G) :=
  en_met (own := RX6) (fl := en_lk fl6) (nw := en_lk nw6) (aw := en_lk aw6) (dc := en_lk dc6) (ca := en_lk (ca_X6_call G)) (rt := 1) (ini := false) (by decide +kernel) (Or.inr (Or.inl ⟨rfl, rfl⟩)) (fun h => by cases h) rfl (fun q => en_LkF fl6_ok nw6_ok aw6_ok dc6_ok) (by
    intro idx q hq
    have hm := en_lk_mem hq
    simp only [ca_X6_call, List.mem_cons, Prod.mk.injEq, List.not_mem_nil, or_false] at hm
    rcases hm with ⟨rfl, rfl⟩
    · exact en_clV (r := (RX1, TX1, 2)) 1 2 ok_X1_read (by decide) (by decide) rfl rfl pr_X1_read wl_X6_call_222 wi_X1_read wx_X1_read wz_1 wc_X1_read ⟨by decide +kernel, by decide +kernel, by decide +kernel⟩) jp_X6_call
def P_X6_look (G : en_G)  (g : (Nat) × (Nat → Nat) × (Nat → Nat) × (Nat → Nat) × (Nat) × (pb_S) × (Int32)) (as : List en_V) (σ : en_S) : Prop := (PX G (g.1) (g.2.1) (g.2.2.1) (g.2.2.2.1) (g.2.2.2.2.1) (g.2.2.2.2.2.1) σ) ∧ as = [en_R (some (g.1)), en_I (g.2.2.2.2.2.2)]
def C_X6_look (G : en_G)  : en_C := en_gh (P_X6_look G) (fun g as σ v σ' => σ' = σ ∧ v = some (en_I (op_look (g.2.2.2.2.2.1) (g.2.2.2.2.2.2))))
theorem pr_X6_look {G : en_G}  : ∀ as σ, (C_X6_look G).1 as σ → ∃ b tl, as = en_R (some b) :: tl ∧ en_cl σ b = some 6 ∧ tl.length = 1 := fun as σ ⟨g, hp, h2⟩ => ⟨_, _, h2, hp.1.1.1.1, rfl⟩
theorem cu_X6_look {G : en_G}  {x : Nat} {na : Nat → Nat} {la : Nat → Nat} {ba : Nat → Nat} {rm : Nat} {S : pb_S} {u : Int32} {σ : en_S} (hp : PX G x na la ba rm S σ) : en_Us (C_X6_look G) [en_R (some x), en_I u] σ (fun v σ' => σ' = σ ∧ v = some (en_I (op_look S u))) := ⟨⟨(x, na, la, ba, rm, S, u), hp, rfl⟩, fun v σ' q => q (x, na, la, ba, rm, S, u) ⟨hp, rfl⟩⟩
def ca_X6_look (G : en_G) : List (Nat × Nat × en_C) := [(53, 4, C_X6_numberOf)]
def X_X6_look (G : en_G) (q : Option en_V → en_S → Prop) : en_X := en_mk G cX6_look (en_lk fl6) (en_lk nw6) (en_lk aw6) (en_lk dc6) (en_lk (ca_X6_look G)) 1 false q
theorem d_X6_look_0 : decode cX6_look 0 = .ok (.iload_n 1, 1) := by decide +kernel
theorem j_X6_look_0 {G : en_G} {q : Option en_V → en_S → Prop}  {l0 : en_V} {x1 : Int32} {σ : en_S} : en_J (X_X6_look G q) 0 [l0, en_I x1] [] σ ↔ en_J (X_X6_look G q) 1 [l0, en_I x1] [en_I x1] σ := en_j1 d_X6_look_0 rfl rfl
theorem d_X6_look_1 : decode cX6_look 1 = .ok (.tableswitch 78 0 5 #[39, 44, 49, 57, 62, 70], 39) := by decide +kernel
theorem j_X6_look_1_0 {G : en_G} {q : Option en_V → en_S → Prop}  {l0 l1 : en_V} {σ : en_S} : en_J (X_X6_look G q) 1 [l0, l1] [en_I 0] σ ↔ en_J (X_X6_look G q) 40 [l0, l1] [] σ := ej_table d_X6_look_1 (by decide +kernel)
theorem j_X6_look_1_1 {G : en_G} {q : Option en_V → en_S → Prop}  {l0 l1 : en_V} {σ : en_S} : en_J (X_X6_look G q) 1 [l0, l1] [en_I 1] σ ↔ en_J (X_X6_look G q) 45 [l0, l1] [] σ := ej_table d_X6_look_1 (by decide +kernel)
theorem j_X6_look_1_2 {G : en_G} {q : Option en_V → en_S → Prop}  {l0 l1 : en_V} {σ : en_S} : en_J (X_X6_look G q) 1 [l0, l1] [en_I 2] σ ↔ en_J (X_X6_look G q) 50 [l0, l1] [] σ := ej_table d_X6_look_1 (by decide +kernel)
theorem j_X6_look_1_3 {G : en_G} {q : Option en_V → en_S → Prop}  {l0 l1 : en_V} {σ : en_S} : en_J (X_X6_look G q) 1 [l0, l1] [en_I 3] σ ↔ en_J (X_X6_look G q) 58 [l0, l1] [] σ := ej_table d_X6_look_1 (by decide +kernel)
theorem j_X6_look_1_4 {G : en_G} {q : Option en_V → en_S → Prop}  {l0 l1 : en_V} {σ : en_S} : en_J (X_X6_look G q) 1 [l0, l1] [en_I 4] σ ↔ en_J (X_X6_look G q) 63 [l0, l1] [] σ := ej_table d_X6_look_1 (by decide +kernel)
theorem j_X6_look_1_5 {G : en_G} {q : Option en_V → en_S → Prop}  {l0 l1 : en_V} {σ : en_S} : en_J (X_X6_look G q) 1 [l0, l1] [en_I 5] σ ↔ en_J (X_X6_look G q) 71 [l0, l1] [] σ := ej_table d_X6_look_1 (by decide +kernel)
theorem j_X6_look_1_d {G : en_G} {q : Option en_V → en_S → Prop}  {l0 l1 : en_V} {σ : en_S} {x : Int32} (hx : x.toInt < 0 ∨ 5 < x.toInt) : en_J (X_X6_look G q) 1 [l0, l1] [en_I x] σ ↔ en_J (X_X6_look G q) 79 [l0, l1] [] σ := ej_table d_X6_look_1 (en_tswD hx (by decide +kernel))
theorem d_X6_look_40 : decode cX6_look 40 = .ok (.aload_n 0, 1) := by decide +kernel
theorem j_X6_look_40 {G : en_G} {q : Option en_V → en_S → Prop}  {l1 : en_V} {x0 : Option Nat} {σ : en_S} : en_J (X_X6_look G q) 40 [en_R x0, l1] [] σ ↔ en_J (X_X6_look G q) 41 [en_R x0, l1] [en_R x0] σ := en_j1 d_X6_look_40 rfl rfl
theorem d_X6_look_41 : decode cX6_look 41 = .ok (.getfield 43, 3) := by decide +kernel
theorem j_X6_look_41 {G : en_G} {q : Option en_V → en_S → Prop}  {l0 l1 : en_V} {a0 : Option Nat} {σ : en_S} : en_J (X_X6_look G q) 41 [l0, l1] [en_R a0] σ ↔ ∃ a, a0 = some a ∧ en_cl σ a = some 6 ∧ en_J (X_X6_look G q) 44 [l0, l1] [en_I (en_fi σ 601 a)] σ := en_jg (st := fun o => [en_R o]) (st' := fun a => [en_I (en_fi σ 601 a)]) (σ' := fun _ => σ) d_X6_look_41 rfl (fun a => rfl) (fun a => ⟨fun h => h.2, fun h => ⟨rfl, h⟩⟩)
theorem d_X6_look_44 : decode cX6_look 44 = .ok (.ireturn, 1) := by decide +kernel
theorem j_X6_look_44 {G : en_G} {q : Option en_V → en_S → Prop}  {l0 l1 : en_V} {a0 : Int32} {σ : en_S} : en_J (X_X6_look G q) 44 [l0, l1] [en_I a0] σ ↔ q (some (en_I a0)) σ := en_jr d_X6_look_44 rfl ⟨fun h => h.2.2, fun h => ⟨rfl, Or.inl rfl, h⟩⟩
theorem d_X6_look_45 : decode cX6_look 45 = .ok (.aload_n 0, 1) := by decide +kernel
theorem j_X6_look_45 {G : en_G} {q : Option en_V → en_S → Prop}  {l1 : en_V} {x0 : Option Nat} {σ : en_S} : en_J (X_X6_look G q) 45 [en_R x0, l1] [] σ ↔ en_J (X_X6_look G q) 46 [en_R x0, l1] [en_R x0] σ := en_j1 d_X6_look_45 rfl rfl
theorem d_X6_look_46 : decode cX6_look 46 = .ok (.getfield 226, 3) := by decide +kernel
theorem j_X6_look_46 {G : en_G} {q : Option en_V → en_S → Prop}  {l0 l1 : en_V} {a0 : Option Nat} {σ : en_S} : en_J (X_X6_look G q) 46 [l0, l1] [en_R a0] σ ↔ ∃ a, a0 = some a ∧ en_cl σ a = some 6 ∧ en_J (X_X6_look G q) 49 [l0, l1] [en_I (en_fi σ 603 a)] σ := en_jg (st := fun o => [en_R o]) (st' := fun a => [en_I (en_fi σ 603 a)]) (σ' := fun _ => σ) d_X6_look_46 rfl (fun a => rfl) (fun a => ⟨fun h => h.2, fun h => ⟨rfl, h⟩⟩)
theorem d_X6_look_49 : decode cX6_look 49 = .ok (.ireturn, 1) := by decide +kernel
theorem j_X6_look_49 {G : en_G} {q : Option en_V → en_S → Prop}  {l0 l1 : en_V} {a0 : Int32} {σ : en_S} : en_J (X_X6_look G q) 49 [l0, l1] [en_I a0] σ ↔ q (some (en_I a0)) σ := en_jr d_X6_look_49 rfl ⟨fun h => h.2.2, fun h => ⟨rfl, Or.inl rfl, h⟩⟩
theorem d_X6_look_50 : decode cX6_look 50 = .ok (.aload_n 0, 1) := by decide +kernel
theorem j_X6_look_50 {G : en_G} {q : Option en_V → en_S → Prop}  {l1 : en_V} {x0 : Option Nat} {σ : en_S} : en_J (X_X6_look G q) 50 [en_R x0, l1] [] σ ↔ en_J (X_X6_look G q) 51 [en_R x0, l1] [en_R x0] σ := en_j1 d_X6_look_50 rfl rfl
theorem d_X6_look_51 : decode cX6_look 51 = .ok (.getfield 36, 3) := by decide +kernel
theorem j_X6_look_51 {G : en_G} {q : Option en_V → en_S → Prop}  {l0 l1 : en_V} {a0 : Option Nat} {σ : en_S} : en_J (X_X6_look G q) 51 [l0, l1] [en_R a0] σ ↔ ∃ a, a0 = some a ∧ en_cl σ a = some 6 ∧ en_J (X_X6_look G q) 54 [l0, l1] [en_R (en_fr σ 608 a)] σ := en_jg (st := fun o => [en_R o]) (st' := fun a => [en_R (en_fr σ 608 a)]) (σ' := fun _ => σ) d_X6_look_51 rfl (fun a => rfl) (fun a => ⟨fun h => h.2, fun h => ⟨rfl, h⟩⟩)
theorem d_X6_look_54 : decode cX6_look 54 = .ok (.getfield 229, 3) := by decide +kernel
theorem j_X6_look_54 {G : en_G} {q : Option en_V → en_S → Prop}  {l0 l1 : en_V} {a0 : Option Nat} {σ : en_S} : en_J (X_X6_look G q) 54 [l0, l1] [en_R a0] σ ↔ ∃ a, a0 = some a ∧ en_cl σ a = some 1 ∧ en_J (X_X6_look G q) 57 [l0, l1] [en_I (en_fi σ 101 a)] σ := en_jg (st := fun o => [en_R o]) (st' := fun a => [en_I (en_fi σ 101 a)]) (σ' := fun _ => σ) d_X6_look_54 rfl (fun a => rfl) (fun a => ⟨fun h => h.2, fun h => ⟨rfl, h⟩⟩)
theorem d_X6_look_57 : decode cX6_look 57 = .ok (.ireturn, 1) := by decide +kernel
theorem j_X6_look_57 {G : en_G} {q : Option en_V → en_S → Prop}  {l0 l1 : en_V} {a0 : Int32} {σ : en_S} : en_J (X_X6_look G q) 57 [l0, l1] [en_I a0] σ ↔ q (some (en_I a0)) σ := en_jr d_X6_look_57 rfl ⟨fun h => h.2.2, fun h => ⟨rfl, Or.inl rfl, h⟩⟩
theorem d_X6_look_58 : decode cX6_look 58 = .ok (.aload_n 0, 1) := by decide +kernel
theorem j_X6_look_58 {G : en_G} {q : Option en_V → en_S → Prop}  {l1 : en_V} {x0 : Option Nat} {σ : en_S} : en_J (X_X6_look G q) 58 [en_R x0, l1] [] σ ↔ en_J (X_X6_look G q) 59 [en_R x0, l1] [en_R x0] σ := en_j1 d_X6_look_58 rfl rfl
theorem d_X6_look_59 : decode cX6_look 59 = .ok (.getfield 232, 3) := by decide +kernel
theorem j_X6_look_59 {G : en_G} {q : Option en_V → en_S → Prop}  {l0 l1 : en_V} {a0 : Option Nat} {σ : en_S} : en_J (X_X6_look G q) 59 [l0, l1] [en_R a0] σ ↔ ∃ a, a0 = some a ∧ en_cl σ a = some 6 ∧ en_J (X_X6_look G q) 62 [l0, l1] [en_I (en_fi σ 609 a)] σ := en_jg (st := fun o => [en_R o]) (st' := fun a => [en_I (en_fi σ 609 a)]) (σ' := fun _ => σ) d_X6_look_59 rfl (fun a => rfl) (fun a => ⟨fun h => h.2, fun h => ⟨rfl, h⟩⟩)
theorem d_X6_look_62 : decode cX6_look 62 = .ok (.ireturn, 1) := by decide +kernel
theorem j_X6_look_62 {G : en_G} {q : Option en_V → en_S → Prop}  {l0 l1 : en_V} {a0 : Int32} {σ : en_S} : en_J (X_X6_look G q) 62 [l0, l1] [en_I a0] σ ↔ q (some (en_I a0)) σ := en_jr d_X6_look_62 rfl ⟨fun h => h.2.2, fun h => ⟨rfl, Or.inl rfl, h⟩⟩
theorem d_X6_look_63 : decode cX6_look 63 = .ok (.aload_n 0, 1) := by decide +kernel
theorem j_X6_look_63 {G : en_G} {q : Option en_V → en_S → Prop}  {l1 : en_V} {x0 : Option Nat} {σ : en_S} : en_J (X_X6_look G q) 63 [en_R x0, l1] [] σ ↔ en_J (X_X6_look G q) 64 [en_R x0, l1] [en_R x0] σ := en_j1 d_X6_look_63 rfl rfl
theorem d_X6_look_64 : decode cX6_look 64 = .ok (.getfield 189, 3) := by decide +kernel
theorem j_X6_look_64 {G : en_G} {q : Option en_V → en_S → Prop}  {l0 l1 : en_V} {a0 : Option Nat} {σ : en_S} : en_J (X_X6_look G q) 64 [l0, l1] [en_R a0] σ ↔ ∃ a, a0 = some a ∧ en_cl σ a = some 6 ∧ en_J (X_X6_look G q) 67 [l0, l1] [en_R (en_fr σ 610 a)] σ := en_jg (st := fun o => [en_R o]) (st' := fun a => [en_R (en_fr σ 610 a)]) (σ' := fun _ => σ) d_X6_look_64 rfl (fun a => rfl) (fun a => ⟨fun h => h.2, fun h => ⟨rfl, h⟩⟩)
theorem d_X6_look_67 : decode cX6_look 67 = .ok (.invokestatic 53, 3) := by decide +kernel
theorem j_X6_look_67 {G : en_G} {q : Option en_V → en_S → Prop}  {l0 l1 : en_V} {a0 : Option Nat} {σ : en_S} : en_J (X_X6_look G q) 67 [l0, l1] [en_R a0] σ ↔ C_X6_numberOf.1 [en_R a0] σ ∧ ∀ (r : Option en_V) (σ' : en_S), C_X6_numberOf.2 [en_R a0] σ r σ' → en_J (X_X6_look G q) 70 [l0, l1] (r.toList ++ []) σ' := en_jk d_X6_look_67 rfl ⟨fun h => h.2.2.2.2, fun h => ⟨rfl, rfl, Nat.le_of_ble_eq_true rfl, Nat.le_of_ble_eq_true rfl, h⟩⟩
theorem d_X6_look_70 : decode cX6_look 70 = .ok (.ireturn, 1) := by decide +kernel
theorem j_X6_look_70 {G : en_G} {q : Option en_V → en_S → Prop}  {l0 l1 : en_V} {a0 : Int32} {σ : en_S} : en_J (X_X6_look G q) 70 [l0, l1] [en_I a0] σ ↔ q (some (en_I a0)) σ := en_jr d_X6_look_70 rfl ⟨fun h => h.2.2, fun h => ⟨rfl, Or.inl rfl, h⟩⟩
theorem d_X6_look_71 : decode cX6_look 71 = .ok (.aload_n 0, 1) := by decide +kernel
theorem j_X6_look_71 {G : en_G} {q : Option en_V → en_S → Prop}  {l1 : en_V} {x0 : Option Nat} {σ : en_S} : en_J (X_X6_look G q) 71 [en_R x0, l1] [] σ ↔ en_J (X_X6_look G q) 72 [en_R x0, l1] [en_R x0] σ := en_j1 d_X6_look_71 rfl rfl
theorem d_X6_look_72 : decode cX6_look 72 = .ok (.getfield 195, 3) := by decide +kernel
theorem j_X6_look_72 {G : en_G} {q : Option en_V → en_S → Prop}  {l0 l1 : en_V} {a0 : Option Nat} {σ : en_S} : en_J (X_X6_look G q) 72 [l0, l1] [en_R a0] σ ↔ ∃ a, a0 = some a ∧ en_cl σ a = some 6 ∧ en_J (X_X6_look G q) 75 [l0, l1] [en_R (en_fr σ 611 a)] σ := en_jg (st := fun o => [en_R o]) (st' := fun a => [en_R (en_fr σ 611 a)]) (σ' := fun _ => σ) d_X6_look_72 rfl (fun a => rfl) (fun a => ⟨fun h => h.2, fun h => ⟨rfl, h⟩⟩)
theorem d_X6_look_75 : decode cX6_look 75 = .ok (.invokestatic 53, 3) := by decide +kernel
theorem j_X6_look_75 {G : en_G} {q : Option en_V → en_S → Prop}  {l0 l1 : en_V} {a0 : Option Nat} {σ : en_S} : en_J (X_X6_look G q) 75 [l0, l1] [en_R a0] σ ↔ C_X6_numberOf.1 [en_R a0] σ ∧ ∀ (r : Option en_V) (σ' : en_S), C_X6_numberOf.2 [en_R a0] σ r σ' → en_J (X_X6_look G q) 78 [l0, l1] (r.toList ++ []) σ' := en_jk d_X6_look_75 rfl ⟨fun h => h.2.2.2.2, fun h => ⟨rfl, rfl, Nat.le_of_ble_eq_true rfl, Nat.le_of_ble_eq_true rfl, h⟩⟩
theorem d_X6_look_78 : decode cX6_look 78 = .ok (.ireturn, 1) := by decide +kernel
theorem j_X6_look_78 {G : en_G} {q : Option en_V → en_S → Prop}  {l0 l1 : en_V} {a0 : Int32} {σ : en_S} : en_J (X_X6_look G q) 78 [l0, l1] [en_I a0] σ ↔ q (some (en_I a0)) σ := en_jr d_X6_look_78 rfl ⟨fun h => h.2.2, fun h => ⟨rfl, Or.inl rfl, h⟩⟩
theorem d_X6_look_79 : decode cX6_look 79 = .ok (.iconst (-1), 1) := by decide +kernel
theorem j_X6_look_79 {G : en_G} {q : Option en_V → en_S → Prop}  {l0 l1 : en_V}  {σ : en_S} : en_J (X_X6_look G q) 79 [l0, l1] [] σ ↔ en_J (X_X6_look G q) 80 [l0, l1] [en_I (-1)] σ := ej_iconst d_X6_look_79 (by decide +kernel)
theorem d_X6_look_80 : decode cX6_look 80 = .ok (.ireturn, 1) := by decide +kernel
theorem j_X6_look_80 {G : en_G} {q : Option en_V → en_S → Prop}  {l0 l1 : en_V} {a0 : Int32} {σ : en_S} : en_J (X_X6_look G q) 80 [l0, l1] [en_I a0] σ ↔ q (some (en_I a0)) σ := en_jr d_X6_look_80 rfl ⟨fun h => h.2.2, fun h => ⟨rfl, Or.inl rfl, h⟩⟩
theorem wc_X6_look : Jvm.Cond.code yX6_look cX6_look 2 (some .int) ∈ en_W := en_inW (List.mem_of_getElem? (i := 494) (by decide +kernel)) (by decide +kernel)
theorem wi_X6_look : Jvm.Cond.instanceMethod yX6_look ∈ en_W := en_inW (List.mem_of_getElem? (i := 492) (by decide +kernel)) (by decide +kernel)
theorem wx_X6_look : Jvm.Cond.selects RX6 yX6_look yX6_look ∈ en_W := en_inW (List.mem_of_getElem? (i := 493) (by decide +kernel)) (by decide +kernel)
theorem jl_X6_look {G : en_G}  {x : Nat} {na : Nat → Nat} {la : Nat → Nat} {ba : Nat → Nat} {rm : Nat} {S : pb_S} {u : Int32} {q : Option en_V → en_S → Prop} {σ : en_S} (hp : PX G x na la ba rm S σ) (hq : ∀ v σ', (σ' = σ ∧ v = some (en_I (op_look S u))) → q v σ') : en_J (X_X6_look G q) 0 [en_R (some x), en_I u] [] σ := by
  have hP := hp
  obtain ⟨hC, p1, p2, p3, p4, p5, p6⟩ := id hP
  obtain ⟨a1, a2, a3, a4, a5, a6⟩ := hC.1.1
  obtain ⟨o1, o2, o3, o4⟩ := hC.2.2.2.2.2.2.2.1
  have lo := hC.2.2.2.2.2.2.1.1
  have c1 := hC.1.2.2.1.1
  cases hy : st_ix 6 u with
  | none =>
    have hop : op_look S u = -1 := by unfold op_look; simp only [hy]
    rw [hop] at hq
    have hno := st_ix_none hy
    have hd : u.toInt < 0 ∨ 5 < u.toInt := by
      apply Classical.byContradiction
      intro hz
      apply hno
      refine ⟨Int32.le_iff_toInt_le.mpr (by show (0 : Int) ≤ _; omega), Int32.lt_iff_toInt_lt.mpr ?_⟩
      rw [nI_toInt (by decide)]
      omega
    simp only [j_X6_look_0, j_X6_look_40, j_X6_look_41, j_X6_look_44, j_X6_look_45, j_X6_look_46, j_X6_look_49, j_X6_look_50, j_X6_look_51, j_X6_look_54, j_X6_look_57, j_X6_look_58, j_X6_look_59, j_X6_look_62, j_X6_look_63, j_X6_look_64, j_X6_look_67, j_X6_look_70, j_X6_look_71, j_X6_look_72, j_X6_look_75, j_X6_look_78, j_X6_look_79, j_X6_look_80, en_c2I, en_c2R, en_c2U, en_c2D, Option.some.injEq, exists_eq_left', exists_eq_left, Option.map_some, Option.map_none, not_true_eq_false, false_implies, true_implies, and_true, true_and, reduceCtorEq, not_false_eq_true]
    rw [j_X6_look_1_d hd]
    simp only [j_X6_look_0, j_X6_look_40, j_X6_look_41, j_X6_look_44, j_X6_look_45, j_X6_look_46, j_X6_look_49, j_X6_look_50, j_X6_look_51, j_X6_look_54, j_X6_look_57, j_X6_look_58, j_X6_look_59, j_X6_look_62, j_X6_look_63, j_X6_look_64, j_X6_look_67, j_X6_look_70, j_X6_look_71, j_X6_look_72, j_X6_look_75, j_X6_look_78, j_X6_look_79, j_X6_look_80, en_c2I, en_c2R, en_c2U, en_c2D, Option.some.injEq, exists_eq_left', exists_eq_left, Option.map_some, Option.map_none, not_true_eq_false, false_implies, true_implies, and_true, true_and, reduceCtorEq, not_false_eq_true]
    exact hq _ _ ⟨rfl, rfl⟩
  | some u' =>
    obtain ⟨hu, rfl⟩ := st_ix_some (by decide) hy
    have hcc : u' = 0 ∨ u' = 1 ∨ u' = 2 ∨ u' = 3 ∨ u' = 4 ∨ u' = 5 := by omega
    rcases hcc with rfl | rfl | rfl | rfl | rfl | rfl
    · have hop : op_look S (nI 0) = nI (tr_N (sa_T S.1)) := by unfold op_look; simp only [hy]
      rw [hop] at hq
      rw [show nI 0 = 0 from by decide +kernel]
      simp only [j_X6_look_0, j_X6_look_40, j_X6_look_41, j_X6_look_44, j_X6_look_45, j_X6_look_46, j_X6_look_49, j_X6_look_50, j_X6_look_51, j_X6_look_54, j_X6_look_57, j_X6_look_58, j_X6_look_59, j_X6_look_62, j_X6_look_63, j_X6_look_64, j_X6_look_67, j_X6_look_70, j_X6_look_71, j_X6_look_72, j_X6_look_75, j_X6_look_78, j_X6_look_79, j_X6_look_80, j_X6_look_1_0, j_X6_look_1_1, j_X6_look_1_2, j_X6_look_1_3, j_X6_look_1_4, j_X6_look_1_5, en_c2I, en_c2R, en_c2U, en_c2D, Option.some.injEq, exists_eq_left', exists_eq_left, Option.map_some, Option.map_none, not_true_eq_false, false_implies, true_implies, and_true, true_and, reduceCtorEq, not_false_eq_true, a1, o1]
      exact hq _ _ ⟨rfl, rfl⟩
    · have hop : op_look S (nI 1) = nI (sa_D S.1 0 0) := by unfold op_look; simp only [hy]
      rw [hop] at hq
      rw [show nI 1 = 1 from by decide +kernel]
      simp only [j_X6_look_0, j_X6_look_40, j_X6_look_41, j_X6_look_44, j_X6_look_45, j_X6_look_46, j_X6_look_49, j_X6_look_50, j_X6_look_51, j_X6_look_54, j_X6_look_57, j_X6_look_58, j_X6_look_59, j_X6_look_62, j_X6_look_63, j_X6_look_64, j_X6_look_67, j_X6_look_70, j_X6_look_71, j_X6_look_72, j_X6_look_75, j_X6_look_78, j_X6_look_79, j_X6_look_80, j_X6_look_1_0, j_X6_look_1_1, j_X6_look_1_2, j_X6_look_1_3, j_X6_look_1_4, j_X6_look_1_5, en_c2I, en_c2R, en_c2U, en_c2D, Option.some.injEq, exists_eq_left', exists_eq_left, Option.map_some, Option.map_none, not_true_eq_false, false_implies, true_implies, and_true, true_and, reduceCtorEq, not_false_eq_true, a1, o2]
      exact hq _ _ ⟨rfl, rfl⟩
    · have hop : op_look S (nI 2) = nI (sa_D S.1 0 1) := by unfold op_look; simp only [hy]
      rw [hop] at hq
      rw [show nI 2 = 2 from by decide +kernel]
      simp only [j_X6_look_0, j_X6_look_40, j_X6_look_41, j_X6_look_44, j_X6_look_45, j_X6_look_46, j_X6_look_49, j_X6_look_50, j_X6_look_51, j_X6_look_54, j_X6_look_57, j_X6_look_58, j_X6_look_59, j_X6_look_62, j_X6_look_63, j_X6_look_64, j_X6_look_67, j_X6_look_70, j_X6_look_71, j_X6_look_72, j_X6_look_75, j_X6_look_78, j_X6_look_79, j_X6_look_80, j_X6_look_1_0, j_X6_look_1_1, j_X6_look_1_2, j_X6_look_1_3, j_X6_look_1_4, j_X6_look_1_5, en_c2I, en_c2R, en_c2U, en_c2D, Option.some.injEq, exists_eq_left', exists_eq_left, Option.map_some, Option.map_none, not_true_eq_false, false_implies, true_implies, and_true, true_and, reduceCtorEq, not_false_eq_true, a1, a6, c1, lo]
      exact hq _ _ ⟨rfl, rfl⟩
    · have hop : op_look S (nI 3) = sa_I S.1 3 0 := by unfold op_look; simp only [hy]
      rw [hop] at hq
      rw [show nI 3 = 3 from by decide +kernel]
      simp only [j_X6_look_0, j_X6_look_40, j_X6_look_41, j_X6_look_44, j_X6_look_45, j_X6_look_46, j_X6_look_49, j_X6_look_50, j_X6_look_51, j_X6_look_54, j_X6_look_57, j_X6_look_58, j_X6_look_59, j_X6_look_62, j_X6_look_63, j_X6_look_64, j_X6_look_67, j_X6_look_70, j_X6_look_71, j_X6_look_72, j_X6_look_75, j_X6_look_78, j_X6_look_79, j_X6_look_80, j_X6_look_1_0, j_X6_look_1_1, j_X6_look_1_2, j_X6_look_1_3, j_X6_look_1_4, j_X6_look_1_5, en_c2I, en_c2R, en_c2U, en_c2D, Option.some.injEq, exists_eq_left', exists_eq_left, Option.map_some, Option.map_none, not_true_eq_false, false_implies, true_implies, and_true, true_and, reduceCtorEq, not_false_eq_true, a1, o4]
      exact hq _ _ ⟨rfl, rfl⟩
    · have hop : op_look S (nI 4) = st_num S.2.1 := by unfold op_look; simp only [hy]
      rw [hop] at hq
      rw [show nI 4 = 4 from by decide +kernel]
      simp only [j_X6_look_0, j_X6_look_40, j_X6_look_41, j_X6_look_44, j_X6_look_45, j_X6_look_46, j_X6_look_49, j_X6_look_50, j_X6_look_51, j_X6_look_54, j_X6_look_57, j_X6_look_58, j_X6_look_59, j_X6_look_62, j_X6_look_63, j_X6_look_64, j_X6_look_67, j_X6_look_70, j_X6_look_71, j_X6_look_72, j_X6_look_75, j_X6_look_78, j_X6_look_79, j_X6_look_80, j_X6_look_1_0, j_X6_look_1_1, j_X6_look_1_2, j_X6_look_1_3, j_X6_look_1_4, j_X6_look_1_5, en_c2I, en_c2R, en_c2U, en_c2D, Option.some.injEq, exists_eq_left', exists_eq_left, Option.map_some, Option.map_none, not_true_eq_false, false_implies, true_implies, and_true, true_and, reduceCtorEq, not_false_eq_true, a1, p1]
      refine en_use (cu_num hC.2.1 p5) ?_
      rintro v σ1 ⟨rfl, rfl⟩
      simp only [Option.toList, List.cons_append, List.nil_append, j_X6_look_0, j_X6_look_40, j_X6_look_41, j_X6_look_44, j_X6_look_45, j_X6_look_46, j_X6_look_49, j_X6_look_50, j_X6_look_51, j_X6_look_54, j_X6_look_57, j_X6_look_58, j_X6_look_59, j_X6_look_62, j_X6_look_63, j_X6_look_64, j_X6_look_67, j_X6_look_70, j_X6_look_71, j_X6_look_72, j_X6_look_75, j_X6_look_78, j_X6_look_79, j_X6_look_80, en_c2I, en_c2R, en_c2U, en_c2D, Option.some.injEq, exists_eq_left', exists_eq_left, Option.map_some, Option.map_none, not_true_eq_false, false_implies, true_implies, and_true, true_and, reduceCtorEq, not_false_eq_true]
      exact hq _ _ ⟨rfl, rfl⟩
    · have hop : op_look S (nI 5) = st_num S.2.2.1 := by unfold op_look; simp only [hy]
      rw [hop] at hq
      rw [show nI 5 = 5 from by decide +kernel]
      simp only [j_X6_look_0, j_X6_look_40, j_X6_look_41, j_X6_look_44, j_X6_look_45, j_X6_look_46, j_X6_look_49, j_X6_look_50, j_X6_look_51, j_X6_look_54, j_X6_look_57, j_X6_look_58, j_X6_look_59, j_X6_look_62, j_X6_look_63, j_X6_look_64, j_X6_look_67, j_X6_look_70, j_X6_look_71, j_X6_look_72, j_X6_look_75, j_X6_look_78, j_X6_look_79, j_X6_look_80, j_X6_look_1_0, j_X6_look_1_1, j_X6_look_1_2, j_X6_look_1_3, j_X6_look_1_4, j_X6_look_1_5, en_c2I, en_c2R, en_c2U, en_c2D, Option.some.injEq, exists_eq_left', exists_eq_left, Option.map_some, Option.map_none, not_true_eq_false, false_implies, true_implies, and_true, true_and, reduceCtorEq, not_false_eq_true, a1, p2]
      refine en_use (cu_num hC.2.1 p6) ?_
      rintro v σ1 ⟨rfl, rfl⟩
      simp only [Option.toList, List.cons_append, List.nil_append, j_X6_look_0, j_X6_look_40, j_X6_look_41, j_X6_look_44, j_X6_look_45, j_X6_look_46, j_X6_look_49, j_X6_look_50, j_X6_look_51, j_X6_look_54, j_X6_look_57, j_X6_look_58, j_X6_look_59, j_X6_look_62, j_X6_look_63, j_X6_look_64, j_X6_look_67, j_X6_look_70, j_X6_look_71, j_X6_look_72, j_X6_look_75, j_X6_look_78, j_X6_look_79, j_X6_look_80, en_c2I, en_c2R, en_c2U, en_c2D, Option.some.injEq, exists_eq_left', exists_eq_left, Option.map_some, Option.map_none, not_true_eq_false, false_implies, true_implies, and_true, true_and, reduceCtorEq, not_false_eq_true]
      exact hq _ _ ⟨rfl, rfl⟩
theorem jp_X6_look {G : en_G}  : ∀ as σ, (C_X6_look G).1 as σ → (en_lc as).length ≤ 2 ∧ en_J (X_X6_look G (fun r σ' => (C_X6_look G).2 as σ r σ')) 0 (en_loc 2 as) [] σ := en_ghJ (fun g as σ h => by
  obtain ⟨hp, h2⟩ := h
  subst h2
  exact ⟨Nat.le_of_ble_eq_true rfl, jl_X6_look hp (fun _ _ h => h)⟩)
theorem wl_X6_look_53 : Jvm.Cond.methodLink RX6 53 yX6_numberOf ∈ en_W := en_inW (List.mem_of_getElem? (i := 241) (by decide +kernel)) (by decide +kernel)
theorem ok_X6_look {G : en_G}  : en_Ok G 2 yX6_look cX6_look 2 (some .int) (C_X6_look G) :=
  en_met (own := RX6) (fl := en_lk fl6) (nw := en_lk nw6) (aw := en_lk aw6) (dc := en_lk dc6) (ca := en_lk (ca_X6_look G)) (rt := 1) (ini := false) (by decide +kernel) (Or.inr (Or.inl ⟨rfl, rfl⟩)) (fun h => by cases h) rfl (fun q => en_LkF fl6_ok nw6_ok aw6_ok dc6_ok) (by
    intro idx q hq
    have hm := en_lk_mem hq
    simp only [ca_X6_look, List.mem_cons, Prod.mk.injEq, List.not_mem_nil, or_false] at hm
    rcases hm with ⟨rfl, rfl⟩
    · exact en_clS 1 ok_X6_numberOf (by decide) (by decide) pr_X6_numberOf wl_X6_look_53 ws_X6_numberOf wz_6 wc_X6_numberOf ⟨by decide +kernel, by decide +kernel, by decide +kernel⟩) jp_X6_look
