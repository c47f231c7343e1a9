/-! THE CLASS throws: box -/
theorem cu_X6_isNear {z : UInt64} {σ : en_S} (hp : True) : en_Us C_X6_isNear [en_D z] σ (fun v σ' => σ' = σ ∧ v = some (en_I (if ¬ Op.cmpValue (FP.dcmp z 13875379345695965184) .l < 0 ∧ ¬ 0 < Op.cmpValue (FP.dcmp z 4652007308841189376) .g then 1 else 0))) := by
  refine ⟨⟨z, rfl, hp⟩, fun v σ' q => ?_⟩
  obtain ⟨z', e, q⟩ := q
  simp only [List.cons.injEq, en_Rinj, en_Iinj, en_Dinj, Option.some.injEq, and_true] at e
  subst e
  exact q
theorem cu_X0_init {a : Nat} {σ : en_S} (hp : True) : en_Us C_X0_init [en_R (some a)] σ (fun v σ' => v = none ∧ σ' = σ) := by
  refine ⟨⟨a, rfl, hp⟩, fun v σ' q => ?_⟩
  obtain ⟨a', e, q⟩ := q
  simp only [List.cons.injEq, en_Rinj, en_Iinj, en_Dinj, Option.some.injEq, and_true] at e
  subst e
  exact q
theorem cu_X0_shape {a : Nat} {x : UInt64} {y : UInt64} {w : UInt64} {h : UInt64} {σ : en_S} (hp : en_cl σ a = some 0) : en_Us C_X0_shape [en_R (some a), en_D x, en_D y, en_D w, en_D h] σ (fun v σ' => v = none ∧ σ' = en_sfi (en_sfd (en_sfd (en_sfd (en_sfd (en_sfd σ 0 a x) 1 a y) 2 a w) 3 a h) 4 a FP.dconst1) 5 a 0) := by
  refine ⟨⟨a, x, y, w, h, rfl, hp⟩, fun v σ' q => ?_⟩
  obtain ⟨a', x', y', w', h', e, q⟩ := q
  simp only [List.cons.injEq, en_Rinj, en_Iinj, en_Dinj, Option.some.injEq, and_true] at e
  obtain ⟨rfl, rfl, rfl, rfl, rfl⟩ := e
  exact q
theorem cu_near {z : UInt64} {σ : en_S} : en_Us C_X6_isNear [en_D z] σ (fun v σ' => σ' = σ ∧ v = some (en_I (st_b (op_near z)))) := by
  have h := cu_X6_isNear (z := z) (σ := σ) trivial
  refine ⟨h.1, fun v σ' q => ?_⟩
  obtain ⟨h1, h2⟩ := h.2 v σ' q
  refine ⟨h1, ?_⟩
  rw [h2]
  unfold op_near
  by_cases c : ¬ Op.cmpValue (FP.dcmp z 13875379345695965184) .l < 0 ∧ ¬ 0 < Op.cmpValue (FP.dcmp z 4652007308841189376) .g
  · rw [if_pos c, decide_eq_true c]; rfl
  · rw [if_neg c, decide_eq_false c]; rfl
theorem fb_gl {P Q : Int} {x y : UInt64} (hx : fb P x) (hy : fb Q y) : Op.cmpValue (FP.dcmp x y) .g = Op.cmpValue (FP.dcmp x y) .l := by
  obtain ⟨s, c, q, h, -⟩ := hx
  obtain ⟨s', c', q', h', -⟩ := hy
  have e : ∃ o, FP.dcmp x y = some o := by
    show ∃ o, FP.Core.order (fbv x) (fbv y) = some o
    rw [h, h']
    exact ⟨_, rfl⟩
  obtain ⟨o, e⟩ := e
  rw [e]
  cases o <;> rfl
def bx_sh (σ : en_S) (a : Nat) (b1 b2 b3 b4 : UInt64) : en_S := en_sfi (en_sfd (en_sfd (en_sfd (en_sfd (en_sfd σ 0 a b1) 1 a b2) 2 a b3) 3 a b4) 4 a FP.dconst1) 5 a 0
theorem bx_shg {σ : en_S} {a : Nat} {b1 b2 b3 b4 : UInt64} {F : Nat → Nat → Prop} {V : Nat → Prop} (f1 : ∀ f, f < 10 → ¬ F f a) : ag σ (bx_sh σ a b1 b2 b3 b4) F V := (((((ag_sfd (fun a' z e => f1 0 (by decide) (by rw [← e]; exact z))).tr (ag_sfd (fun a' z e => f1 1 (by decide) (by rw [← e]; exact z)))).tr (ag_sfd (fun a' z e => f1 2 (by decide) (by rw [← e]; exact z)))).tr (ag_sfd (fun a' z e => f1 3 (by decide) (by rw [← e]; exact z)))).tr (ag_sfd (fun a' z e => f1 4 (by decide) (by rw [← e]; exact z)))).tr (ag_sfi (fun a' z e => f1 5 (by decide) (by rw [← e]; exact z)))
theorem bx_shv {σ : en_S} {a : Nat} {b1 b2 b3 b4 : UInt64} : en_fd (bx_sh σ a b1 b2 b3 b4) 0 a = b1 ∧ en_fd (bx_sh σ a b1 b2 b3 b4) 1 a = b2 ∧ en_fd (bx_sh σ a b1 b2 b3 b4) 2 a = b3 ∧ en_fd (bx_sh σ a b1 b2 b3 b4) 3 a = b4 ∧ en_fd (bx_sh σ a b1 b2 b3 b4) 4 a = FP.dconst1 ∧ en_fi (bx_sh σ a b1 b2 b3 b4) 5 a = 0 := by
  unfold bx_sh
  refine ⟨?_, ?_, ?_, ?_, ?_, ?_⟩ <;> simp [eg_fd_sfi, eg_fd_sfd, eg_fi_sfi]
/-- a box more -/
theorem cx_boxn {G : en_G} {x : Nat} {na la ba : Nat → Nat} {rm : Nat} {A : st_A} {σ : en_S} (hC : CX G x na la ba (rm + 1) A σ) {n : Nat} {b1 b2 b3 b4 : UInt64} (hn : n < tr_N (sa_T A)) (hb : sa_B A n = none) (hel : tr_el (sa_T A) n) (hf : st_fin (b1, b2, b3, b4, FP.dconst1, 0)) :
    CX G x na la (fun m => if m = n then en_nx σ else ba m) rm (su_B A n (some (b1, b2, b3, b4, FP.dconst1, 0))) (bx_sh (en_sfr (en_new σ 0 10) 410 (na n) (some (en_nx σ))) (en_nx σ) b1 b2 b3 b4) := by
  obtain ⟨c, t, nd, bx, l, sc, lo, ob, w, r⟩ := hC
  have fr := c.2.2.2.2.2.2
  have hnx : ∀ {a cc}, en_cl σ a = some cc → a ≠ en_nx σ := fun {a cc} hq z => by have := fresh_cl fr hq; omega
  have g : ag σ (bx_sh (en_sfr (en_new σ 0 10) 410 (na n) (some (en_nx σ))) (en_nx σ) b1 b2 b3 b4) (fun f a => (10 ≤ f ∨ a ≠ en_nx σ) ∧ (f ≠ 410 ∨ a ≠ na n)) (fun _ => True) := by
    refine ((ag_new).tr (ag_sfr (fun a z e => ?_))).tr (bx_shg (fun f hf z => ?_))
    · rcases z.2 with z | z
      · exact z rfl
      · exact z e
    · rcases z.1 with z | z
      · omega
      · exact z rfl
  have hfr : fresh (bx_sh (en_sfr (en_new σ 0 10) 410 (na n) (some (en_nx σ))) (en_nx σ) b1 b2 b3 b4) := fresh_new (c := 0) (k := 10) fr
  have x44 := c.2.2.2.2.2.1
  have hb' : ∀ m, sa_B (su_B A n (some (b1, b2, b3, b4, FP.dconst1, 0))) m = if m = n then some (b1, b2, b3, b4, FP.dconst1, 0) else sa_B A m := fun m => rfl
  refine ⟨c.ag g hfr (fun f hq a => ⟨Or.inl (by omega), Or.inl (by omega)⟩) ⟨trivial, trivial⟩, t.ag g fr (fun q h1 h2 m hm => ⟨Or.inl (by omega), Or.inl (by omega)⟩), fun m hm => ?_, ⟨fun m b2 hm hb2 => ?_, fun m k hm hk h1 h2 hq => ?_⟩, l.ag g c (fun q h1 h2 k hk => ⟨Or.inl (by omega), Or.inl (by omega)⟩) trivial, sc.ag g c (fun a => ⟨Or.inl (by decide), Or.inl (by decide)⟩) (fun _ _ => ⟨trivial, trivial⟩), lo.ag g c (fun a => ⟨Or.inl (by decide), Or.inl (by decide)⟩) trivial, ob.ag g c ⟨⟨Or.inl (by decide), Or.inl (by decide)⟩, ⟨Or.inl (by decide), Or.inl (by decide)⟩, ⟨Or.inl (by decide), Or.inl (by decide)⟩, ⟨Or.inl (by decide), Or.inl (by decide)⟩⟩, ?_, ?_⟩
  · have hm' : m < tr_N (sa_T A) := hm
    obtain ⟨h1, h2, h3⟩ := nd m hm'
    have hcm := (t.1 m hm').1
    obtain ⟨-, -, g3, -⟩ := g.2 _ (fresh_cl fr hcm)
    refine ⟨by rw [(g3 411 ⟨Or.inl (by decide), Or.inl (by decide)⟩).1]; exact h1, ?_, by rw [((g.2 _ (fresh_al fr c.2.1.1)).2.2.2 trivial).2.1]; exact h3⟩
    rw [hb']
    dsimp only
    by_cases e : m = n
    · rw [if_pos e, if_pos e, e]
      unfold bx_sh
      simp [eg_fr_sfi, eg_fr_sfd, eg_fr_sfr]
    · rw [if_neg e, if_neg e, (g3 410 ⟨Or.inl (by decide), Or.inr (fun z => e (t.2 m n hm' hn z))⟩).2.1]
      exact h2
  · have hm' : m < tr_N (sa_T A) := hm
    rw [hb'] at hb2
    dsimp only
    by_cases e : m = n
    · rw [if_pos e] at hb2 ⊢
      cases hb2
      refine ⟨?_, bx_shv⟩
      unfold bx_sh
      simp [eg_cl_sfi, eg_cl_sfd, eg_cl_sfr, eg_cl_new]
    · rw [if_neg e] at hb2 ⊢
      obtain ⟨c1, c2, c3, c4, c5, c6, c7⟩ := bx.1 m b2 hm' hb2
      obtain ⟨g1, -, rr, -⟩ := g.2 _ (fresh_cl fr c1)
      have hne := hnx c1
      refine ⟨by rw [g1]; exact c1, ?_, ?_, ?_, ?_, ?_, ?_⟩
      · rw [(rr 0 ⟨Or.inr hne, Or.inl (by decide)⟩).2.2]; exact c2
      · rw [(rr 1 ⟨Or.inr hne, Or.inl (by decide)⟩).2.2]; exact c3
      · rw [(rr 2 ⟨Or.inr hne, Or.inl (by decide)⟩).2.2]; exact c4
      · rw [(rr 3 ⟨Or.inr hne, Or.inl (by decide)⟩).2.2]; exact c5
      · rw [(rr 4 ⟨Or.inr hne, Or.inl (by decide)⟩).2.2]; exact c6
      · rw [(rr 5 ⟨Or.inr hne, Or.inl (by decide)⟩).1]; exact c7
  · have hm' : m < tr_N (sa_T A) := hm
    have hk' : k < tr_N (sa_T A) := hk
    rw [hb'] at h1 h2
    dsimp only at hq
    have old : ∀ j, j < tr_N (sa_T A) → sa_B A j ≠ none → ba j ≠ en_nx σ := fun j hj h => by
      cases hz : sa_B A j with
      | none => exact absurd hz h
      | some b => exact hnx (bx.1 j b hj hz).1
    by_cases e1 : m = n
    · by_cases e2 : k = n
      · rw [e1, e2]
      · rw [if_neg e2] at h2 hq
        rw [if_pos e1] at hq
        exact absurd hq.symm (old k hk' h2)
    · by_cases e2 : k = n
      · rw [if_neg e1] at h1 hq
        rw [if_pos e2] at hq
        exact absurd hq (old m hm' h1)
      · rw [if_neg e1] at h1 hq
        rw [if_neg e2] at h2 hq
        exact bx.2 m k hm' hk' h1 h2 hq
  · obtain ⟨w1, w2, w3, w4, w5, w6, w7⟩ := w
    refine ⟨w1, w2, w3, w4, w5, w6, fun m b hm hb2 => ?_⟩
    rw [hb'] at hb2
    by_cases e : m = n
    · rw [if_pos e] at hb2
      cases hb2
      rw [e]; exact ⟨hel, hf⟩
    · rw [if_neg e] at hb2; exact w7 m b hm hb2
  · unfold cd_room at r ⊢
    have e1 : en_nx (bx_sh (en_sfr (en_new σ 0 10) 410 (na n) (some (en_nx σ))) (en_nx σ) b1 b2 b3 b4) = en_nx σ + 1 := rfl
    have e2 : en_ns (bx_sh (en_sfr (en_new σ 0 10) 410 (na n) (some (en_nx σ))) (en_nx σ) b1 b2 b3 b4) = en_ns σ + 10 := rfl
    have e3 : sa_D (su_B A n (some (b1, b2, b3, b4, FP.dconst1, 0))) 0 0 = sa_D A 0 0 := rfl
    rw [e1, e2, e3]
    omega
def P_X6_box (G : en_G) (g : (Nat) × (Nat) × (pb_S) × (Int32) × (UInt64) × (UInt64) × (UInt64) × (UInt64)) (as : List en_V) (σ : en_S) : Prop := (PZ G (g.1) ((g.2.1) + 64) (g.2.2.1) σ ∧ fb (-21) (g.2.2.2.2.1) ∧ fb (-21) (g.2.2.2.2.2.1) ∧ fb (-21) (g.2.2.2.2.2.2.1) ∧ fb (-21) (g.2.2.2.2.2.2.2)) ∧ as = [en_R (some (g.1)), en_I (g.2.2.2.1), en_D (g.2.2.2.2.1), en_D (g.2.2.2.2.2.1), en_D (g.2.2.2.2.2.2.1), en_D (g.2.2.2.2.2.2.2)]
def C_X6_box (G : en_G) : en_C := en_gh (P_X6_box G) (fun g as σ v σ' => PZ G (g.1) (g.2.1) (op_box (g.2.2.1) (g.2.2.2.1) (g.2.2.2.2.1) (g.2.2.2.2.2.1) (g.2.2.2.2.2.2.1) (g.2.2.2.2.2.2.2)).1 σ' ∧ ag σ σ' pF (pV (g.1)) ∧ (op_box (g.2.2.1) (g.2.2.2.1) (g.2.2.2.2.1) (g.2.2.2.2.2.1) (g.2.2.2.2.2.2.1) (g.2.2.2.2.2.2.2)).2 = 0 ∧ v = none)
def XP_X6_box (G : en_G) : en_XP := en_ghx (P_X6_box G) (fun g as σ E σ' => PZ G (g.1) (g.2.1) (op_box (g.2.2.1) (g.2.2.2.1) (g.2.2.2.2.1) (g.2.2.2.2.2.1) (g.2.2.2.2.2.2.1) (g.2.2.2.2.2.2.2)).1 σ' ∧ ag σ σ' pF (pV (g.1)) ∧ (op_box (g.2.2.1) (g.2.2.2.1) (g.2.2.2.2.1) (g.2.2.2.2.2.1) (g.2.2.2.2.2.2.1) (g.2.2.2.2.2.2.2)).2 = 1 ∧ E = en_IA)
theorem pr_X6_box {G : en_G} : ∀ as σ, (C_X6_box G).1 as σ → ∃ b tl, as = en_R (some b) :: tl ∧ en_cl σ b = some 6 ∧ tl.length = 5 := fun as σ ⟨g, hp, h2⟩ => ⟨_, _, h2, hp.1.cl, rfl⟩
def ca_X6_box (G : en_G) : List (Nat × Nat × en_C) := [(57, 9, (C_X6_nodeAt G)), (75, 5, C_X4_isElement), (140, 4, C_X6_isNear), (152, 6, C_X0_init), (153, 21, C_X0_shape)]
def xt_X6_box : List (Nat × String) := [(20, en_IA), (87, en_IA)]
def X_X6_box (G : en_G) (qx : String → en_S → Prop) (q : Option en_V → en_S → Prop) : en_X := en_mkX G cX6_box (en_lk fl6) (en_lk nw6) (en_lk aw6) (en_lk dc6) (en_lk (ca_X6_box G)) (en_lk xt_X6_box) 0 false q qx
theorem d_X6_box_0 : decode cX6_box 0 = .ok (.aload_n 0, 1) := by decide +kernel
theorem j_X6_box_0 {G : en_G} {q : Option en_V → en_S → Prop} {qx : String → en_S → Prop} {l1 l2 l3 l4 l5 l6 l7 l8 l9 l10 l11 : en_V} {x0 : Option Nat} {σ : en_S} : en_J (X_X6_box G qx q) 0 [en_R x0, l1, l2, l3, l4, l5, l6, l7, l8, l9, l10, l11] [] σ ↔ en_J (X_X6_box G qx q) 1 [en_R x0, l1, l2, l3, l4, l5, l6, l7, l8, l9, l10, l11] [en_R x0] σ := en_j1 d_X6_box_0 rfl rfl
theorem d_X6_box_1 : decode cX6_box 1 = .ok (.iload_n 1, 1) := by decide +kernel
theorem j_X6_box_1 {G : en_G} {q : Option en_V → en_S → Prop} {qx : String → en_S → Prop} {l0 l2 l3 l4 l5 l6 l7 l8 l9 l10 l11 : en_V} {a0 : Option Nat} {x1 : Int32} {σ : en_S} : en_J (X_X6_box G qx q) 1 [l0, en_I x1, l2, l3, l4, l5, l6, l7, l8, l9, l10, l11] [en_R a0] σ ↔ en_J (X_X6_box G qx q) 2 [l0, en_I x1, l2, l3, l4, l5, l6, l7, l8, l9, l10, l11] [en_I x1, en_R a0] σ := en_j1 d_X6_box_1 rfl rfl
theorem d_X6_box_2 : decode cX6_box 2 = .ok (.invokevirtual 57, 3) := by decide +kernel
theorem j_X6_box_2 {G : en_G} {q : Option en_V → en_S → Prop} {qx : String → en_S → Prop} {l0 l1 l2 l3 l4 l5 l6 l7 l8 l9 l10 l11 : en_V} {a0 : Int32} {a1 : Option Nat} {σ : en_S} : en_J (X_X6_box G qx q) 2 [l0, l1, l2, l3, l4, l5, l6, l7, l8, l9, l10, l11] [en_I a0, en_R a1] σ ↔ (C_X6_nodeAt G).1 [en_R a1, en_I a0] σ ∧ ∀ (r : Option en_V) (σ' : en_S), (C_X6_nodeAt G).2 [en_R a1, en_I a0] σ r σ' → en_J (X_X6_box G qx q) 5 [l0, l1, l2, l3, l4, l5, l6, l7, l8, l9, l10, l11] (r.toList ++ []) σ' := en_jkC (C := (C_X6_nodeAt G)) (n' := 2) (k := 1) (idx := 57) d_X6_box_2 rfl rfl (by decide) (Nat.le_of_ble_eq_true rfl) (Nat.le_of_ble_eq_true rfl)
theorem d_X6_box_5 : decode cX6_box 5 = .ok (.astore 10, 2) := by decide +kernel
theorem j_X6_box_5 {G : en_G} {q : Option en_V → en_S → Prop} {qx : String → en_S → Prop} {l0 l1 l2 l3 l4 l5 l6 l7 l8 l9 l10 l11 : en_V} {a0 : Option Nat} {σ : en_S} : en_J (X_X6_box G qx q) 5 [l0, l1, l2, l3, l4, l5, l6, l7, l8, l9, l10, l11] [en_R a0] σ ↔ en_J (X_X6_box G qx q) 7 [l0, l1, l2, l3, l4, l5, l6, l7, l8, en_c2 l9, en_R a0, l11] [] σ := en_j1 d_X6_box_5 rfl ⟨rfl, Nat.le_of_ble_eq_true rfl⟩
theorem d_X6_box_7 : decode cX6_box 7 = .ok (.aload 10, 2) := by decide +kernel
theorem j_X6_box_7 {G : en_G} {q : Option en_V → en_S → Prop} {qx : String → en_S → Prop} {l0 l1 l2 l3 l4 l5 l6 l7 l8 l9 l11 : en_V} {x10 : Option Nat} {σ : en_S} : en_J (X_X6_box G qx q) 7 [l0, l1, l2, l3, l4, l5, l6, l7, l8, l9, en_R x10, l11] [] σ ↔ en_J (X_X6_box G qx q) 9 [l0, l1, l2, l3, l4, l5, l6, l7, l8, l9, en_R x10, l11] [en_R x10] σ := en_j1 d_X6_box_7 rfl rfl
theorem d_X6_box_9 : decode cX6_box 9 = .ok (.ifnull 11, 3) := by decide +kernel
theorem j_X6_box_9 {G : en_G} {q : Option en_V → en_S → Prop} {qx : String → en_S → Prop} {l0 l1 l2 l3 l4 l5 l6 l7 l8 l9 l10 l11 : en_V} {a0 : Option Nat} {σ : en_S} : en_J (X_X6_box G qx q) 9 [l0, l1, l2, l3, l4, l5, l6, l7, l8, l9, l10, l11] [en_R a0] σ ↔ (a0 = none → en_J (X_X6_box G qx q) 20 [l0, l1, l2, l3, l4, l5, l6, l7, l8, l9, l10, l11] [] σ) ∧ (¬ (a0 = none) → en_J (X_X6_box G qx q) 12 [l0, l1, l2, l3, l4, l5, l6, l7, l8, l9, l10, l11] [] σ) := en_jb d_X6_box_9 rfl ⟨rfl, by decide⟩
theorem d_X6_box_12 : decode cX6_box 12 = .ok (.aload 10, 2) := by decide +kernel
theorem j_X6_box_12 {G : en_G} {q : Option en_V → en_S → Prop} {qx : String → en_S → Prop} {l0 l1 l2 l3 l4 l5 l6 l7 l8 l9 l11 : en_V} {x10 : Option Nat} {σ : en_S} : en_J (X_X6_box G qx q) 12 [l0, l1, l2, l3, l4, l5, l6, l7, l8, l9, en_R x10, l11] [] σ ↔ en_J (X_X6_box G qx q) 14 [l0, l1, l2, l3, l4, l5, l6, l7, l8, l9, en_R x10, l11] [en_R x10] σ := en_j1 d_X6_box_12 rfl rfl
theorem d_X6_box_14 : decode cX6_box 14 = .ok (.invokevirtual 75, 3) := by decide +kernel
theorem j_X6_box_14 {G : en_G} {q : Option en_V → en_S → Prop} {qx : String → en_S → Prop} {l0 l1 l2 l3 l4 l5 l6 l7 l8 l9 l10 l11 : en_V} {a0 : Option Nat} {σ : en_S} : en_J (X_X6_box G qx q) 14 [l0, l1, l2, l3, l4, l5, l6, l7, l8, l9, l10, l11] [en_R a0] σ ↔ C_X4_isElement.1 [en_R a0] σ ∧ ∀ (r : Option en_V) (σ' : en_S), C_X4_isElement.2 [en_R a0] σ r σ' → en_J (X_X6_box G qx q) 17 [l0, l1, l2, l3, l4, l5, l6, l7, l8, l9, l10, l11] (r.toList ++ []) σ' := en_jk d_X6_box_14 rfl ⟨fun h => h.2.2.2.2, fun h => ⟨rfl, rfl, Nat.le_of_ble_eq_true rfl, Nat.le_of_ble_eq_true rfl, h⟩⟩
theorem d_X6_box_17 : decode cX6_box 17 = .ok (.ifCond .ne 13, 3) := by decide +kernel
theorem j_X6_box_17 {G : en_G} {q : Option en_V → en_S → Prop} {qx : String → en_S → Prop} {l0 l1 l2 l3 l4 l5 l6 l7 l8 l9 l10 l11 : en_V} {a0 : Int32} {σ : en_S} : en_J (X_X6_box G qx q) 17 [l0, l1, l2, l3, l4, l5, l6, l7, l8, l9, l10, l11] [en_I a0] σ ↔ (¬ a0 = 0 → en_J (X_X6_box G qx q) 30 [l0, l1, l2, l3, l4, l5, l6, l7, l8, l9, l10, l11] [] σ) ∧ (¬ (¬ a0 = 0) → en_J (X_X6_box G qx q) 20 [l0, l1, l2, l3, l4, l5, l6, l7, l8, l9, l10, l11] [] σ) := en_jb d_X6_box_17 rfl ⟨rfl, by decide⟩
theorem d_X6_box_20 : decode cX6_box 20 = .ok (.new 83, 3) := by decide +kernel
theorem d_X6_box_23 : decode cX6_box 23 = .ok (.dup, 1) := by decide +kernel
theorem j_X6_box_23 {G : en_G} {q : Option en_V → en_S → Prop} {qx : String → en_S → Prop} {l0 l1 l2 l3 l4 l5 l6 l7 l8 l9 l10 l11 : en_V} {a0 : Option Nat} {σ : en_S} : en_J (X_X6_box G qx q) 23 [l0, l1, l2, l3, l4, l5, l6, l7, l8, l9, l10, l11] [en_R a0] σ ↔ en_J (X_X6_box G qx q) 24 [l0, l1, l2, l3, l4, l5, l6, l7, l8, l9, l10, l11] [en_R a0, en_R a0] σ := en_j1 d_X6_box_23 rfl rfl
theorem d_X6_box_24 : decode cX6_box 24 = .ok (.ldc 138, 2) := by decide +kernel
theorem d_X6_box_26 : decode cX6_box 26 = .ok (.invokespecial 87, 3) := by decide +kernel
theorem d_X6_box_29 : decode cX6_box 29 = .ok (.athrow, 1) := by decide +kernel
theorem d_X6_box_30 : decode cX6_box 30 = .ok (.dload_n 2, 1) := by decide +kernel
theorem j_X6_box_30 {G : en_G} {q : Option en_V → en_S → Prop} {qx : String → en_S → Prop} {l0 l1 l3 l4 l5 l6 l7 l8 l9 l10 l11 : en_V} {x2 : UInt64} {σ : en_S} : en_J (X_X6_box G qx q) 30 [l0, l1, en_D x2, l3, l4, l5, l6, l7, l8, l9, l10, l11] [] σ ↔ en_J (X_X6_box G qx q) 31 [l0, l1, en_D x2, l3, l4, l5, l6, l7, l8, l9, l10, l11] [en_D x2] σ := en_j1 d_X6_box_30 rfl rfl
theorem d_X6_box_31 : decode cX6_box 31 = .ok (.invokestatic 140, 3) := by decide +kernel
theorem j_X6_box_31 {G : en_G} {q : Option en_V → en_S → Prop} {qx : String → en_S → Prop} {l0 l1 l2 l3 l4 l5 l6 l7 l8 l9 l10 l11 : en_V} {a0 : UInt64} {σ : en_S} : en_J (X_X6_box G qx q) 31 [l0, l1, l2, l3, l4, l5, l6, l7, l8, l9, l10, l11] [en_D a0] σ ↔ C_X6_isNear.1 [en_D a0] σ ∧ ∀ (r : Option en_V) (σ' : en_S), C_X6_isNear.2 [en_D a0] σ r σ' → en_J (X_X6_box G qx q) 34 [l0, l1, l2, l3, l4, l5, l6, l7, l8, l9, l10, l11] (r.toList ++ []) σ' := en_jk d_X6_box_31 rfl ⟨fun h => h.2.2.2.2, fun h => ⟨rfl, rfl, Nat.le_of_ble_eq_true rfl, Nat.le_of_ble_eq_true rfl, h⟩⟩
theorem d_X6_box_34 : decode cX6_box 34 = .ok (.ifCond .eq 31, 3) := by decide +kernel
theorem j_X6_box_34 {G : en_G} {q : Option en_V → en_S → Prop} {qx : String → en_S → Prop} {l0 l1 l2 l3 l4 l5 l6 l7 l8 l9 l10 l11 : en_V} {a0 : Int32} {σ : en_S} : en_J (X_X6_box G qx q) 34 [l0, l1, l2, l3, l4, l5, l6, l7, l8, l9, l10, l11] [en_I a0] σ ↔ (a0 = 0 → en_J (X_X6_box G qx q) 65 [l0, l1, l2, l3, l4, l5, l6, l7, l8, l9, l10, l11] [] σ) ∧ (¬ (a0 = 0) → en_J (X_X6_box G qx q) 37 [l0, l1, l2, l3, l4, l5, l6, l7, l8, l9, l10, l11] [] σ) := en_jb d_X6_box_34 rfl ⟨rfl, by decide⟩
theorem d_X6_box_37 : decode cX6_box 37 = .ok (.dload 4, 2) := by decide +kernel
theorem j_X6_box_37 {G : en_G} {q : Option en_V → en_S → Prop} {qx : String → en_S → Prop} {l0 l1 l2 l3 l5 l6 l7 l8 l9 l10 l11 : en_V} {x4 : UInt64} {σ : en_S} : en_J (X_X6_box G qx q) 37 [l0, l1, l2, l3, en_D x4, l5, l6, l7, l8, l9, l10, l11] [] σ ↔ en_J (X_X6_box G qx q) 39 [l0, l1, l2, l3, en_D x4, l5, l6, l7, l8, l9, l10, l11] [en_D x4] σ := en_j1 d_X6_box_37 rfl rfl
theorem d_X6_box_39 : decode cX6_box 39 = .ok (.invokestatic 140, 3) := by decide +kernel
theorem j_X6_box_39 {G : en_G} {q : Option en_V → en_S → Prop} {qx : String → en_S → Prop} {l0 l1 l2 l3 l4 l5 l6 l7 l8 l9 l10 l11 : en_V} {a0 : UInt64} {σ : en_S} : en_J (X_X6_box G qx q) 39 [l0, l1, l2, l3, l4, l5, l6, l7, l8, l9, l10, l11] [en_D a0] σ ↔ C_X6_isNear.1 [en_D a0] σ ∧ ∀ (r : Option en_V) (σ' : en_S), C_X6_isNear.2 [en_D a0] σ r σ' → en_J (X_X6_box G qx q) 42 [l0, l1, l2, l3, l4, l5, l6, l7, l8, l9, l10, l11] (r.toList ++ []) σ' := en_jk d_X6_box_39 rfl ⟨fun h => h.2.2.2.2, fun h => ⟨rfl, rfl, Nat.le_of_ble_eq_true rfl, Nat.le_of_ble_eq_true rfl, h⟩⟩
theorem d_X6_box_42 : decode cX6_box 42 = .ok (.ifCond .eq 23, 3) := by decide +kernel
theorem j_X6_box_42 {G : en_G} {q : Option en_V → en_S → Prop} {qx : String → en_S → Prop} {l0 l1 l2 l3 l4 l5 l6 l7 l8 l9 l10 l11 : en_V} {a0 : Int32} {σ : en_S} : en_J (X_X6_box G qx q) 42 [l0, l1, l2, l3, l4, l5, l6, l7, l8, l9, l10, l11] [en_I a0] σ ↔ (a0 = 0 → en_J (X_X6_box G qx q) 65 [l0, l1, l2, l3, l4, l5, l6, l7, l8, l9, l10, l11] [] σ) ∧ (¬ (a0 = 0) → en_J (X_X6_box G qx q) 45 [l0, l1, l2, l3, l4, l5, l6, l7, l8, l9, l10, l11] [] σ) := en_jb d_X6_box_42 rfl ⟨rfl, by decide⟩
theorem d_X6_box_45 : decode cX6_box 45 = .ok (.dload 6, 2) := by decide +kernel
theorem j_X6_box_45 {G : en_G} {q : Option en_V → en_S → Prop} {qx : String → en_S → Prop} {l0 l1 l2 l3 l4 l5 l7 l8 l9 l10 l11 : en_V} {x6 : UInt64} {σ : en_S} : en_J (X_X6_box G qx q) 45 [l0, l1, l2, l3, l4, l5, en_D x6, l7, l8, l9, l10, l11] [] σ ↔ en_J (X_X6_box G qx q) 47 [l0, l1, l2, l3, l4, l5, en_D x6, l7, l8, l9, l10, l11] [en_D x6] σ := en_j1 d_X6_box_45 rfl rfl
theorem d_X6_box_47 : decode cX6_box 47 = .ok (.invokestatic 140, 3) := by decide +kernel
theorem j_X6_box_47 {G : en_G} {q : Option en_V → en_S → Prop} {qx : String → en_S → Prop} {l0 l1 l2 l3 l4 l5 l6 l7 l8 l9 l10 l11 : en_V} {a0 : UInt64} {σ : en_S} : en_J (X_X6_box G qx q) 47 [l0, l1, l2, l3, l4, l5, l6, l7, l8, l9, l10, l11] [en_D a0] σ ↔ C_X6_isNear.1 [en_D a0] σ ∧ ∀ (r : Option en_V) (σ' : en_S), C_X6_isNear.2 [en_D a0] σ r σ' → en_J (X_X6_box G qx q) 50 [l0, l1, l2, l3, l4, l5, l6, l7, l8, l9, l10, l11] (r.toList ++ []) σ' := en_jk d_X6_box_47 rfl ⟨fun h => h.2.2.2.2, fun h => ⟨rfl, rfl, Nat.le_of_ble_eq_true rfl, Nat.le_of_ble_eq_true rfl, h⟩⟩
theorem d_X6_box_50 : decode cX6_box 50 = .ok (.ifCond .eq 15, 3) := by decide +kernel
theorem j_X6_box_50 {G : en_G} {q : Option en_V → en_S → Prop} {qx : String → en_S → Prop} {l0 l1 l2 l3 l4 l5 l6 l7 l8 l9 l10 l11 : en_V} {a0 : Int32} {σ : en_S} : en_J (X_X6_box G qx q) 50 [l0, l1, l2, l3, l4, l5, l6, l7, l8, l9, l10, l11] [en_I a0] σ ↔ (a0 = 0 → en_J (X_X6_box G qx q) 65 [l0, l1, l2, l3, l4, l5, l6, l7, l8, l9, l10, l11] [] σ) ∧ (¬ (a0 = 0) → en_J (X_X6_box G qx q) 53 [l0, l1, l2, l3, l4, l5, l6, l7, l8, l9, l10, l11] [] σ) := en_jb d_X6_box_50 rfl ⟨rfl, by decide⟩
theorem d_X6_box_53 : decode cX6_box 53 = .ok (.dload 8, 2) := by decide +kernel
theorem j_X6_box_53 {G : en_G} {q : Option en_V → en_S → Prop} {qx : String → en_S → Prop} {l0 l1 l2 l3 l4 l5 l6 l7 l9 l10 l11 : en_V} {x8 : UInt64} {σ : en_S} : en_J (X_X6_box G qx q) 53 [l0, l1, l2, l3, l4, l5, l6, l7, en_D x8, l9, l10, l11] [] σ ↔ en_J (X_X6_box G qx q) 55 [l0, l1, l2, l3, l4, l5, l6, l7, en_D x8, l9, l10, l11] [en_D x8] σ := en_j1 d_X6_box_53 rfl rfl
theorem d_X6_box_55 : decode cX6_box 55 = .ok (.invokestatic 140, 3) := by decide +kernel
theorem j_X6_box_55 {G : en_G} {q : Option en_V → en_S → Prop} {qx : String → en_S → Prop} {l0 l1 l2 l3 l4 l5 l6 l7 l8 l9 l10 l11 : en_V} {a0 : UInt64} {σ : en_S} : en_J (X_X6_box G qx q) 55 [l0, l1, l2, l3, l4, l5, l6, l7, l8, l9, l10, l11] [en_D a0] σ ↔ C_X6_isNear.1 [en_D a0] σ ∧ ∀ (r : Option en_V) (σ' : en_S), C_X6_isNear.2 [en_D a0] σ r σ' → en_J (X_X6_box G qx q) 58 [l0, l1, l2, l3, l4, l5, l6, l7, l8, l9, l10, l11] (r.toList ++ []) σ' := en_jk d_X6_box_55 rfl ⟨fun h => h.2.2.2.2, fun h => ⟨rfl, rfl, Nat.le_of_ble_eq_true rfl, Nat.le_of_ble_eq_true rfl, h⟩⟩
theorem d_X6_box_58 : decode cX6_box 58 = .ok (.ifCond .eq 7, 3) := by decide +kernel
theorem j_X6_box_58 {G : en_G} {q : Option en_V → en_S → Prop} {qx : String → en_S → Prop} {l0 l1 l2 l3 l4 l5 l6 l7 l8 l9 l10 l11 : en_V} {a0 : Int32} {σ : en_S} : en_J (X_X6_box G qx q) 58 [l0, l1, l2, l3, l4, l5, l6, l7, l8, l9, l10, l11] [en_I a0] σ ↔ (a0 = 0 → en_J (X_X6_box G qx q) 65 [l0, l1, l2, l3, l4, l5, l6, l7, l8, l9, l10, l11] [] σ) ∧ (¬ (a0 = 0) → en_J (X_X6_box G qx q) 61 [l0, l1, l2, l3, l4, l5, l6, l7, l8, l9, l10, l11] [] σ) := en_jb d_X6_box_58 rfl ⟨rfl, by decide⟩
theorem d_X6_box_61 : decode cX6_box 61 = .ok (.iconst 1, 1) := by decide +kernel
theorem j_X6_box_61 {G : en_G} {q : Option en_V → en_S → Prop} {qx : String → en_S → Prop} {l0 l1 l2 l3 l4 l5 l6 l7 l8 l9 l10 l11 : en_V}  {σ : en_S} : en_J (X_X6_box G qx q) 61 [l0, l1, l2, l3, l4, l5, l6, l7, l8, l9, l10, l11] [] σ ↔ en_J (X_X6_box G qx q) 62 [l0, l1, l2, l3, l4, l5, l6, l7, l8, l9, l10, l11] [en_I 1] σ := ej_iconst d_X6_box_61 (by decide +kernel)
theorem d_X6_box_62 : decode cX6_box 62 = .ok (.goto 4, 3) := by decide +kernel
theorem j_X6_box_62 {G : en_G} {q : Option en_V → en_S → Prop} {qx : String → en_S → Prop} {l0 l1 l2 l3 l4 l5 l6 l7 l8 l9 l10 l11 : en_V} {a0 : Int32} {σ : en_S} : en_J (X_X6_box G qx q) 62 [l0, l1, l2, l3, l4, l5, l6, l7, l8, l9, l10, l11] [en_I a0] σ ↔ en_J (X_X6_box G qx q) 66 [l0, l1, l2, l3, l4, l5, l6, l7, l8, l9, l10, l11] [en_I a0] σ := en_j1 d_X6_box_62 rfl ⟨rfl, by decide⟩
theorem d_X6_box_65 : decode cX6_box 65 = .ok (.iconst 0, 1) := by decide +kernel
theorem j_X6_box_65 {G : en_G} {q : Option en_V → en_S → Prop} {qx : String → en_S → Prop} {l0 l1 l2 l3 l4 l5 l6 l7 l8 l9 l10 l11 : en_V}  {σ : en_S} : en_J (X_X6_box G qx q) 65 [l0, l1, l2, l3, l4, l5, l6, l7, l8, l9, l10, l11] [] σ ↔ en_J (X_X6_box G qx q) 66 [l0, l1, l2, l3, l4, l5, l6, l7, l8, l9, l10, l11] [en_I 0] σ := ej_iconst d_X6_box_65 (by decide +kernel)
theorem d_X6_box_66 : decode cX6_box 66 = .ok (.istore 11, 2) := by decide +kernel
theorem j_X6_box_66 {G : en_G} {q : Option en_V → en_S → Prop} {qx : String → en_S → Prop} {l0 l1 l2 l3 l4 l5 l6 l7 l8 l9 l10 l11 : en_V} {a0 : Int32} {σ : en_S} : en_J (X_X6_box G qx q) 66 [l0, l1, l2, l3, l4, l5, l6, l7, l8, l9, l10, l11] [en_I a0] σ ↔ en_J (X_X6_box G qx q) 68 [l0, l1, l2, l3, l4, l5, l6, l7, l8, l9, en_c2 l10, en_I a0] [] σ := en_j1 d_X6_box_66 rfl ⟨rfl, Nat.le_of_ble_eq_true rfl⟩
theorem d_X6_box_68 : decode cX6_box 68 = .ok (.iload 11, 2) := by decide +kernel
theorem j_X6_box_68 {G : en_G} {q : Option en_V → en_S → Prop} {qx : String → en_S → Prop} {l0 l1 l2 l3 l4 l5 l6 l7 l8 l9 l10 : en_V} {x11 : Int32} {σ : en_S} : en_J (X_X6_box G qx q) 68 [l0, l1, l2, l3, l4, l5, l6, l7, l8, l9, l10, en_I x11] [] σ ↔ en_J (X_X6_box G qx q) 70 [l0, l1, l2, l3, l4, l5, l6, l7, l8, l9, l10, en_I x11] [en_I x11] σ := en_j1 d_X6_box_68 rfl rfl
theorem d_X6_box_70 : decode cX6_box 70 = .ok (.ifCond .eq 17, 3) := by decide +kernel
theorem j_X6_box_70 {G : en_G} {q : Option en_V → en_S → Prop} {qx : String → en_S → Prop} {l0 l1 l2 l3 l4 l5 l6 l7 l8 l9 l10 l11 : en_V} {a0 : Int32} {σ : en_S} : en_J (X_X6_box G qx q) 70 [l0, l1, l2, l3, l4, l5, l6, l7, l8, l9, l10, l11] [en_I a0] σ ↔ (a0 = 0 → en_J (X_X6_box G qx q) 87 [l0, l1, l2, l3, l4, l5, l6, l7, l8, l9, l10, l11] [] σ) ∧ (¬ (a0 = 0) → en_J (X_X6_box G qx q) 73 [l0, l1, l2, l3, l4, l5, l6, l7, l8, l9, l10, l11] [] σ) := en_jb d_X6_box_70 rfl ⟨rfl, by decide⟩
theorem d_X6_box_73 : decode cX6_box 73 = .ok (.dload 6, 2) := by decide +kernel
theorem j_X6_box_73 {G : en_G} {q : Option en_V → en_S → Prop} {qx : String → en_S → Prop} {l0 l1 l2 l3 l4 l5 l7 l8 l9 l10 l11 : en_V} {x6 : UInt64} {σ : en_S} : en_J (X_X6_box G qx q) 73 [l0, l1, l2, l3, l4, l5, en_D x6, l7, l8, l9, l10, l11] [] σ ↔ en_J (X_X6_box G qx q) 75 [l0, l1, l2, l3, l4, l5, en_D x6, l7, l8, l9, l10, l11] [en_D x6] σ := en_j1 d_X6_box_73 rfl rfl
theorem d_X6_box_75 : decode cX6_box 75 = .ok (.dconst 0, 1) := by decide +kernel
theorem j_X6_box_75 {G : en_G} {q : Option en_V → en_S → Prop} {qx : String → en_S → Prop} {l0 l1 l2 l3 l4 l5 l6 l7 l8 l9 l10 l11 : en_V} {a0 : UInt64} {σ : en_S} : en_J (X_X6_box G qx q) 75 [l0, l1, l2, l3, l4, l5, l6, l7, l8, l9, l10, l11] [en_D a0] σ ↔ en_J (X_X6_box G qx q) 76 [l0, l1, l2, l3, l4, l5, l6, l7, l8, l9, l10, l11] [en_D FP.dconst0, en_D a0] σ := en_j1 d_X6_box_75 rfl rfl
theorem d_X6_box_76 : decode cX6_box 76 = .ok (.dcmp .g, 1) := by decide +kernel
theorem j_X6_box_76 {G : en_G} {q : Option en_V → en_S → Prop} {qx : String → en_S → Prop} {l0 l1 l2 l3 l4 l5 l6 l7 l8 l9 l10 l11 : en_V} {a0 : UInt64} {a1 : UInt64} {σ : en_S} : en_J (X_X6_box G qx q) 76 [l0, l1, l2, l3, l4, l5, l6, l7, l8, l9, l10, l11] [en_D a0, en_D a1] σ ↔ en_J (X_X6_box G qx q) 77 [l0, l1, l2, l3, l4, l5, l6, l7, l8, l9, l10, l11] [en_I (Op.cmpValue (FP.dcmp a1 a0) .g)] σ := en_j1 d_X6_box_76 rfl rfl
theorem d_X6_box_77 : decode cX6_box 77 = .ok (.ifCond .le 10, 3) := by decide +kernel
theorem j_X6_box_77 {G : en_G} {q : Option en_V → en_S → Prop} {qx : String → en_S → Prop} {l0 l1 l2 l3 l4 l5 l6 l7 l8 l9 l10 l11 : en_V} {a0 : Int32} {σ : en_S} : en_J (X_X6_box G qx q) 77 [l0, l1, l2, l3, l4, l5, l6, l7, l8, l9, l10, l11] [en_I a0] σ ↔ (a0 ≤ 0 → en_J (X_X6_box G qx q) 87 [l0, l1, l2, l3, l4, l5, l6, l7, l8, l9, l10, l11] [] σ) ∧ (¬ (a0 ≤ 0) → en_J (X_X6_box G qx q) 80 [l0, l1, l2, l3, l4, l5, l6, l7, l8, l9, l10, l11] [] σ) := en_jb d_X6_box_77 rfl ⟨rfl, by decide⟩
theorem d_X6_box_80 : decode cX6_box 80 = .ok (.dload 8, 2) := by decide +kernel
theorem j_X6_box_80 {G : en_G} {q : Option en_V → en_S → Prop} {qx : String → en_S → Prop} {l0 l1 l2 l3 l4 l5 l6 l7 l9 l10 l11 : en_V} {x8 : UInt64} {σ : en_S} : en_J (X_X6_box G qx q) 80 [l0, l1, l2, l3, l4, l5, l6, l7, en_D x8, l9, l10, l11] [] σ ↔ en_J (X_X6_box G qx q) 82 [l0, l1, l2, l3, l4, l5, l6, l7, en_D x8, l9, l10, l11] [en_D x8] σ := en_j1 d_X6_box_80 rfl rfl
theorem d_X6_box_82 : decode cX6_box 82 = .ok (.dconst 0, 1) := by decide +kernel
theorem j_X6_box_82 {G : en_G} {q : Option en_V → en_S → Prop} {qx : String → en_S → Prop} {l0 l1 l2 l3 l4 l5 l6 l7 l8 l9 l10 l11 : en_V} {a0 : UInt64} {σ : en_S} : en_J (X_X6_box G qx q) 82 [l0, l1, l2, l3, l4, l5, l6, l7, l8, l9, l10, l11] [en_D a0] σ ↔ en_J (X_X6_box G qx q) 83 [l0, l1, l2, l3, l4, l5, l6, l7, l8, l9, l10, l11] [en_D FP.dconst0, en_D a0] σ := en_j1 d_X6_box_82 rfl rfl
theorem d_X6_box_83 : decode cX6_box 83 = .ok (.dcmp .g, 1) := by decide +kernel
theorem j_X6_box_83 {G : en_G} {q : Option en_V → en_S → Prop} {qx : String → en_S → Prop} {l0 l1 l2 l3 l4 l5 l6 l7 l8 l9 l10 l11 : en_V} {a0 : UInt64} {a1 : UInt64} {σ : en_S} : en_J (X_X6_box G qx q) 83 [l0, l1, l2, l3, l4, l5, l6, l7, l8, l9, l10, l11] [en_D a0, en_D a1] σ ↔ en_J (X_X6_box G qx q) 84 [l0, l1, l2, l3, l4, l5, l6, l7, l8, l9, l10, l11] [en_I (Op.cmpValue (FP.dcmp a1 a0) .g)] σ := en_j1 d_X6_box_83 rfl rfl
theorem d_X6_box_84 : decode cX6_box 84 = .ok (.ifCond .gt 13, 3) := by decide +kernel
theorem j_X6_box_84 {G : en_G} {q : Option en_V → en_S → Prop} {qx : String → en_S → Prop} {l0 l1 l2 l3 l4 l5 l6 l7 l8 l9 l10 l11 : en_V} {a0 : Int32} {σ : en_S} : en_J (X_X6_box G qx q) 84 [l0, l1, l2, l3, l4, l5, l6, l7, l8, l9, l10, l11] [en_I a0] σ ↔ (0 < a0 → en_J (X_X6_box G qx q) 97 [l0, l1, l2, l3, l4, l5, l6, l7, l8, l9, l10, l11] [] σ) ∧ (¬ (0 < a0) → en_J (X_X6_box G qx q) 87 [l0, l1, l2, l3, l4, l5, l6, l7, l8, l9, l10, l11] [] σ) := en_jb d_X6_box_84 rfl ⟨rfl, by decide⟩
theorem d_X6_box_87 : decode cX6_box 87 = .ok (.new 83, 3) := by decide +kernel
theorem d_X6_box_90 : decode cX6_box 90 = .ok (.dup, 1) := by decide +kernel
theorem j_X6_box_90 {G : en_G} {q : Option en_V → en_S → Prop} {qx : String → en_S → Prop} {l0 l1 l2 l3 l4 l5 l6 l7 l8 l9 l10 l11 : en_V} {a0 : Option Nat} {σ : en_S} : en_J (X_X6_box G qx q) 90 [l0, l1, l2, l3, l4, l5, l6, l7, l8, l9, l10, l11] [en_R a0] σ ↔ en_J (X_X6_box G qx q) 91 [l0, l1, l2, l3, l4, l5, l6, l7, l8, l9, l10, l11] [en_R a0, en_R a0] σ := en_j1 d_X6_box_90 rfl rfl
theorem d_X6_box_91 : decode cX6_box 91 = .ok (.ldc 144, 2) := by decide +kernel
theorem d_X6_box_93 : decode cX6_box 93 = .ok (.invokespecial 87, 3) := by decide +kernel
theorem d_X6_box_96 : decode cX6_box 96 = .ok (.athrow, 1) := by decide +kernel
theorem d_X6_box_97 : decode cX6_box 97 = .ok (.aload 10, 2) := by decide +kernel
theorem j_X6_box_97 {G : en_G} {q : Option en_V → en_S → Prop} {qx : String → en_S → Prop} {l0 l1 l2 l3 l4 l5 l6 l7 l8 l9 l11 : en_V} {x10 : Option Nat} {σ : en_S} : en_J (X_X6_box G qx q) 97 [l0, l1, l2, l3, l4, l5, l6, l7, l8, l9, en_R x10, l11] [] σ ↔ en_J (X_X6_box G qx q) 99 [l0, l1, l2, l3, l4, l5, l6, l7, l8, l9, en_R x10, l11] [en_R x10] σ := en_j1 d_X6_box_97 rfl rfl
theorem d_X6_box_99 : decode cX6_box 99 = .ok (.getfield 146, 3) := by decide +kernel
theorem j_X6_box_99 {G : en_G} {q : Option en_V → en_S → Prop} {qx : String → en_S → Prop} {l0 l1 l2 l3 l4 l5 l6 l7 l8 l9 l10 l11 : en_V} {a0 : Option Nat} {σ : en_S} : en_J (X_X6_box G qx q) 99 [l0, l1, l2, l3, l4, l5, l6, l7, l8, l9, l10, l11] [en_R a0] σ ↔ ∃ a, a0 = some a ∧ en_cl σ a = some 4 ∧ en_J (X_X6_box G qx q) 102 [l0, l1, l2, l3, l4, l5, l6, l7, l8, l9, l10, l11] [en_R (en_fr σ 410 a)] σ := en_jg (st := fun o => [en_R o]) (st' := fun a => [en_R (en_fr σ 410 a)]) (σ' := fun _ => σ) d_X6_box_99 rfl (fun a => rfl) (fun a => ⟨fun h => h.2, fun h => ⟨rfl, h⟩⟩)
theorem d_X6_box_102 : decode cX6_box 102 = .ok (.ifnonnull 15, 3) := by decide +kernel
theorem j_X6_box_102 {G : en_G} {q : Option en_V → en_S → Prop} {qx : String → en_S → Prop} {l0 l1 l2 l3 l4 l5 l6 l7 l8 l9 l10 l11 : en_V} {a0 : Option Nat} {σ : en_S} : en_J (X_X6_box G qx q) 102 [l0, l1, l2, l3, l4, l5, l6, l7, l8, l9, l10, l11] [en_R a0] σ ↔ (¬ a0 = none → en_J (X_X6_box G qx q) 117 [l0, l1, l2, l3, l4, l5, l6, l7, l8, l9, l10, l11] [] σ) ∧ (¬ (¬ a0 = none) → en_J (X_X6_box G qx q) 105 [l0, l1, l2, l3, l4, l5, l6, l7, l8, l9, l10, l11] [] σ) := en_jb d_X6_box_102 rfl ⟨rfl, by decide⟩
theorem d_X6_box_105 : decode cX6_box 105 = .ok (.aload 10, 2) := by decide +kernel
theorem j_X6_box_105 {G : en_G} {q : Option en_V → en_S → Prop} {qx : String → en_S → Prop} {l0 l1 l2 l3 l4 l5 l6 l7 l8 l9 l11 : en_V} {x10 : Option Nat} {σ : en_S} : en_J (X_X6_box G qx q) 105 [l0, l1, l2, l3, l4, l5, l6, l7, l8, l9, en_R x10, l11] [] σ ↔ en_J (X_X6_box G qx q) 107 [l0, l1, l2, l3, l4, l5, l6, l7, l8, l9, en_R x10, l11] [en_R x10] σ := en_j1 d_X6_box_105 rfl rfl
theorem d_X6_box_107 : decode cX6_box 107 = .ok (.new 150, 3) := by decide +kernel
theorem j_X6_box_107 {G : en_G} {q : Option en_V → en_S → Prop} {qx : String → en_S → Prop} {l0 l1 l2 l3 l4 l5 l6 l7 l8 l9 l10 l11 : en_V} {a0 : Option Nat} {σ : en_S} : en_J (X_X6_box G qx q) 107 [l0, l1, l2, l3, l4, l5, l6, l7, l8, l9, l10, l11] [en_R a0] σ ↔ (en_nx σ + 1 ≤ G.2.2.2.2.1 ∧ en_ns σ + 10 ≤ G.2.2.2.2.2) ∧ en_J (X_X6_box G qx q) 110 [l0, l1, l2, l3, l4, l5, l6, l7, l8, l9, l10, l11] [en_R (some (en_nx σ)), en_R a0] (en_new σ 0 10) := en_jc d_X6_box_107 rfl ⟨fun h => h.2, fun h => ⟨rfl, h⟩⟩
theorem d_X6_box_110 : decode cX6_box 110 = .ok (.dup, 1) := by decide +kernel
theorem j_X6_box_110 {G : en_G} {q : Option en_V → en_S → Prop} {qx : String → en_S → Prop} {l0 l1 l2 l3 l4 l5 l6 l7 l8 l9 l10 l11 : en_V} {a0 : Option Nat} {a1 : Option Nat} {σ : en_S} : en_J (X_X6_box G qx q) 110 [l0, l1, l2, l3, l4, l5, l6, l7, l8, l9, l10, l11] [en_R a0, en_R a1] σ ↔ en_J (X_X6_box G qx q) 111 [l0, l1, l2, l3, l4, l5, l6, l7, l8, l9, l10, l11] [en_R a0, en_R a0, en_R a1] σ := en_j1 d_X6_box_110 rfl rfl
theorem d_X6_box_111 : decode cX6_box 111 = .ok (.invokespecial 152, 3) := by decide +kernel
theorem j_X6_box_111 {G : en_G} {q : Option en_V → en_S → Prop} {qx : String → en_S → Prop} {l0 l1 l2 l3 l4 l5 l6 l7 l8 l9 l10 l11 : en_V} {a0 : Option Nat} {a1 : Option Nat} {a2 : Option Nat} {σ : en_S} : en_J (X_X6_box G qx q) 111 [l0, l1, l2, l3, l4, l5, l6, l7, l8, l9, l10, l11] [en_R a0, en_R a1, en_R a2] σ ↔ C_X0_init.1 [en_R a0] σ ∧ ∀ (r : Option en_V) (σ' : en_S), C_X0_init.2 [en_R a0] σ r σ' → en_J (X_X6_box G qx q) 114 [l0, l1, l2, l3, l4, l5, l6, l7, l8, l9, l10, l11] (r.toList ++ [en_R a1, en_R a2]) σ' := en_jk d_X6_box_111 rfl ⟨fun h => h.2.2.2.2, fun h => ⟨rfl, rfl, Nat.le_of_ble_eq_true rfl, Nat.le_of_ble_eq_true rfl, h⟩⟩
theorem d_X6_box_114 : decode cX6_box 114 = .ok (.putfield 146, 3) := by decide +kernel
theorem j_X6_box_114 {G : en_G} {q : Option en_V → en_S → Prop} {qx : String → en_S → Prop} {l0 l1 l2 l3 l4 l5 l6 l7 l8 l9 l10 l11 : en_V} {a0 : Option Nat} {a1 : Option Nat} {σ : en_S} : en_J (X_X6_box G qx q) 114 [l0, l1, l2, l3, l4, l5, l6, l7, l8, l9, l10, l11] [en_R a0, en_R a1] σ ↔ ∃ a, a1 = some a ∧ en_cl σ a = some 4 ∧ en_J (X_X6_box G qx q) 117 [l0, l1, l2, l3, l4, l5, l6, l7, l8, l9, l10, l11] [] (en_sfr σ 410 a a0) := en_jg (st := fun o => [en_R a0, en_R o]) (st' := fun _ => []) (σ' := fun a => en_sfr σ 410 a a0) d_X6_box_114 rfl (fun a => rfl) (fun a => ⟨fun h => h.2.1, fun h => ⟨rfl, h, trivial, fun z => absurd z (by decide +kernel)⟩⟩)
theorem d_X6_box_117 : decode cX6_box 117 = .ok (.aload 10, 2) := by decide +kernel
theorem j_X6_box_117 {G : en_G} {q : Option en_V → en_S → Prop} {qx : String → en_S → Prop} {l0 l1 l2 l3 l4 l5 l6 l7 l8 l9 l11 : en_V} {x10 : Option Nat} {σ : en_S} : en_J (X_X6_box G qx q) 117 [l0, l1, l2, l3, l4, l5, l6, l7, l8, l9, en_R x10, l11] [] σ ↔ en_J (X_X6_box G qx q) 119 [l0, l1, l2, l3, l4, l5, l6, l7, l8, l9, en_R x10, l11] [en_R x10] σ := en_j1 d_X6_box_117 rfl rfl
theorem d_X6_box_119 : decode cX6_box 119 = .ok (.getfield 146, 3) := by decide +kernel
theorem j_X6_box_119 {G : en_G} {q : Option en_V → en_S → Prop} {qx : String → en_S → Prop} {l0 l1 l2 l3 l4 l5 l6 l7 l8 l9 l10 l11 : en_V} {a0 : Option Nat} {σ : en_S} : en_J (X_X6_box G qx q) 119 [l0, l1, l2, l3, l4, l5, l6, l7, l8, l9, l10, l11] [en_R a0] σ ↔ ∃ a, a0 = some a ∧ en_cl σ a = some 4 ∧ en_J (X_X6_box G qx q) 122 [l0, l1, l2, l3, l4, l5, l6, l7, l8, l9, l10, l11] [en_R (en_fr σ 410 a)] σ := en_jg (st := fun o => [en_R o]) (st' := fun a => [en_R (en_fr σ 410 a)]) (σ' := fun _ => σ) d_X6_box_119 rfl (fun a => rfl) (fun a => ⟨fun h => h.2, fun h => ⟨rfl, h⟩⟩)
theorem d_X6_box_122 : decode cX6_box 122 = .ok (.dload_n 2, 1) := by decide +kernel
theorem j_X6_box_122 {G : en_G} {q : Option en_V → en_S → Prop} {qx : String → en_S → Prop} {l0 l1 l3 l4 l5 l6 l7 l8 l9 l10 l11 : en_V} {a0 : Option Nat} {x2 : UInt64} {σ : en_S} : en_J (X_X6_box G qx q) 122 [l0, l1, en_D x2, l3, l4, l5, l6, l7, l8, l9, l10, l11] [en_R a0] σ ↔ en_J (X_X6_box G qx q) 123 [l0, l1, en_D x2, l3, l4, l5, l6, l7, l8, l9, l10, l11] [en_D x2, en_R a0] σ := en_j1 d_X6_box_122 rfl rfl
theorem d_X6_box_123 : decode cX6_box 123 = .ok (.dload 4, 2) := by decide +kernel
theorem j_X6_box_123 {G : en_G} {q : Option en_V → en_S → Prop} {qx : String → en_S → Prop} {l0 l1 l2 l3 l5 l6 l7 l8 l9 l10 l11 : en_V} {a0 : UInt64} {a1 : Option Nat} {x4 : UInt64} {σ : en_S} : en_J (X_X6_box G qx q) 123 [l0, l1, l2, l3, en_D x4, l5, l6, l7, l8, l9, l10, l11] [en_D a0, en_R a1] σ ↔ en_J (X_X6_box G qx q) 125 [l0, l1, l2, l3, en_D x4, l5, l6, l7, l8, l9, l10, l11] [en_D x4, en_D a0, en_R a1] σ := en_j1 d_X6_box_123 rfl rfl
theorem d_X6_box_125 : decode cX6_box 125 = .ok (.dload 6, 2) := by decide +kernel
theorem j_X6_box_125 {G : en_G} {q : Option en_V → en_S → Prop} {qx : String → en_S → Prop} {l0 l1 l2 l3 l4 l5 l7 l8 l9 l10 l11 : en_V} {a0 : UInt64} {a1 : UInt64} {a2 : Option Nat} {x6 : UInt64} {σ : en_S} : en_J (X_X6_box G qx q) 125 [l0, l1, l2, l3, l4, l5, en_D x6, l7, l8, l9, l10, l11] [en_D a0, en_D a1, en_R a2] σ ↔ en_J (X_X6_box G qx q) 127 [l0, l1, l2, l3, l4, l5, en_D x6, l7, l8, l9, l10, l11] [en_D x6, en_D a0, en_D a1, en_R a2] σ := en_j1 d_X6_box_125 rfl rfl
theorem d_X6_box_127 : decode cX6_box 127 = .ok (.dload 8, 2) := by decide +kernel
theorem j_X6_box_127 {G : en_G} {q : Option en_V → en_S → Prop} {qx : String → en_S → Prop} {l0 l1 l2 l3 l4 l5 l6 l7 l9 l10 l11 : en_V} {a0 : UInt64} {a1 : UInt64} {a2 : UInt64} {a3 : Option Nat} {x8 : UInt64} {σ : en_S} : en_J (X_X6_box G qx q) 127 [l0, l1, l2, l3, l4, l5, l6, l7, en_D x8, l9, l10, l11] [en_D a0, en_D a1, en_D a2, en_R a3] σ ↔ en_J (X_X6_box G qx q) 129 [l0, l1, l2, l3, l4, l5, l6, l7, en_D x8, l9, l10, l11] [en_D x8, en_D a0, en_D a1, en_D a2, en_R a3] σ := en_j1 d_X6_box_127 rfl rfl
theorem d_X6_box_129 : decode cX6_box 129 = .ok (.invokevirtual 153, 3) := by decide +kernel
theorem j_X6_box_129 {G : en_G} {q : Option en_V → en_S → Prop} {qx : String → en_S → Prop} {l0 l1 l2 l3 l4 l5 l6 l7 l8 l9 l10 l11 : en_V} {a0 : UInt64} {a1 : UInt64} {a2 : UInt64} {a3 : UInt64} {a4 : Option Nat} {σ : en_S} : en_J (X_X6_box G qx q) 129 [l0, l1, l2, l3, l4, l5, l6, l7, l8, l9, l10, l11] [en_D a0, en_D a1, en_D a2, en_D a3, en_R a4] σ ↔ C_X0_shape.1 [en_R a4, en_D a3, en_D a2, en_D a1, en_D a0] σ ∧ ∀ (r : Option en_V) (σ' : en_S), C_X0_shape.2 [en_R a4, en_D a3, en_D a2, en_D a1, en_D a0] σ r σ' → en_J (X_X6_box G qx q) 132 [l0, l1, l2, l3, l4, l5, l6, l7, l8, l9, l10, l11] (r.toList ++ []) σ' := en_jk d_X6_box_129 rfl ⟨fun h => h.2.2.2.2, fun h => ⟨rfl, rfl, Nat.le_of_ble_eq_true rfl, Nat.le_of_ble_eq_true rfl, h⟩⟩
theorem d_X6_box_132 : decode cX6_box 132 = .ok (.return_, 1) := by decide +kernel
theorem j_X6_box_132 {G : en_G} {q : Option en_V → en_S → Prop} {qx : String → en_S → Prop} {l0 l1 l2 l3 l4 l5 l6 l7 l8 l9 l10 l11 : en_V}  {σ : en_S} : en_J (X_X6_box G qx q) 132 [l0, l1, l2, l3, l4, l5, l6, l7, l8, l9, l10, l11] [] σ ↔ q none σ := en_jr d_X6_box_132 rfl ⟨fun h => h.2.2, fun h => ⟨rfl, rfl, h⟩⟩
theorem j_X6_box_20 {G : en_G} {q : Option en_V → en_S → Prop} {qx : String → en_S → Prop} {l0 l1 l2 l3 l4 l5 l6 l7 l8 l9 l10 l11 : en_V} {σ : en_S} : en_J (X_X6_box G qx q) 20 [l0, l1, l2, l3, l4, l5, l6, l7, l8, l9, l10, l11] [] σ ↔ en_nx σ + 1 ≤ G.2.2.2.2.1 ∧ en_ns σ + 6 ≤ G.2.2.2.2.2 ∧ qx en_IA σ := ej_thr d_X6_box_20 rfl
theorem j_X6_box_87 {G : en_G} {q : Option en_V → en_S → Prop} {qx : String → en_S → Prop} {l0 l1 l2 l3 l4 l5 l6 l7 l8 l9 l10 l11 : en_V} {σ : en_S} : en_J (X_X6_box G qx q) 87 [l0, l1, l2, l3, l4, l5, l6, l7, l8, l9, l10, l11] [] σ ↔ en_nx σ + 1 ≤ G.2.2.2.2.1 ∧ en_ns σ + 6 ≤ G.2.2.2.2.2 ∧ qx en_IA σ := ej_thr d_X6_box_87 rfl
theorem wc_X6_box : Jvm.Cond.code yX6_box cX6_box 12 none ∈ en_W := en_inW (List.mem_of_getElem? (i := 619) (by decide +kernel)) (by decide +kernel)
theorem wi_X6_box : Jvm.Cond.instanceMethod yX6_box ∈ en_W := en_inW (List.mem_of_getElem? (i := 617) (by decide +kernel)) (by decide +kernel)
theorem wx_X6_box : Jvm.Cond.selects RX6 yX6_box yX6_box ∈ en_W := en_inW (List.mem_of_getElem? (i := 618) (by decide +kernel)) (by decide +kernel)
theorem th_X6_box : ∀ pc E, en_lk xt_X6_box pc = some E → en_thr cX6_box pc E := by
  intro pc E hq
  have hm := en_lk_mem hq
  simp only [xt_X6_box, List.mem_cons, Prod.mk.injEq, List.not_mem_nil, or_false] at hm
  rcases hm with ⟨rfl, rfl⟩ | ⟨rfl, rfl⟩
  · exact ⟨83, 138, 87, 7, Bundle.six, "there is no such element", by decide +kernel, by decide +kernel, by decide +kernel, by decide +kernel, by decide +kernel, xc_IA, xi_IA, by simp [en_str], xb_IA, xd_IA, xe_IA, by decide +kernel, by decide +kernel, by decide +kernel, by decide +kernel, by decide +kernel⟩
  · exact ⟨83, 144, 87, 7, Bundle.six, "a box is not so wide, so high or so far", by decide +kernel, by decide +kernel, by decide +kernel, by decide +kernel, by decide +kernel, xc_IA, xi_IA, by simp [en_str], xb_IA, xd_IA, xe_IA, by decide +kernel, by decide +kernel, by decide +kernel, by decide +kernel, by decide +kernel⟩
theorem jl_X6_box {G : en_G} {x : Nat} {rm : Nat} {S : pb_S} {k : Int32} {b1 : UInt64} {b2 : UInt64} {b3 : UInt64} {b4 : UInt64} {q : Option en_V → en_S → Prop} {qx : String → en_S → Prop} {σ : en_S} (hp : PZ G x (rm + 64) S σ ∧ fb (-21) b1 ∧ fb (-21) b2 ∧ fb (-21) b3 ∧ fb (-21) b4) (hq : ∀ v σ', (PZ G x rm (op_box S k b1 b2 b3 b4).1 σ' ∧ ag σ σ' pF (pV x) ∧ (op_box S k b1 b2 b3 b4).2 = 0 ∧ v = none) → q v σ') (hx : ∀ E σ', (PZ G x rm (op_box S k b1 b2 b3 b4).1 σ' ∧ ag σ σ' pF (pV x) ∧ (op_box S k b1 b2 b3 b4).2 = 1 ∧ E = en_IA) → qx E σ') : en_J (X_X6_box G qx q) 0 [en_R (some x), en_I k, en_D b1, en_U, en_D b2, en_U, en_D b3, en_U, en_D b4, en_U, en_U, en_U] [] σ := by
  obtain ⟨⟨na, la, ba, hP⟩, f1, f2, f3, f4⟩ := hp
  have hC := hP.1
  have w := hC.2.2.2.2.2.2.2.2.1
  have hN := w.1.1.2
  have i1 : ¬ (1 : Int32) = 0 := by decide
  obtain ⟨rm1, rm2⟩ := px_room hP
  have bad : op_box S k b1 b2 b3 b4 = (S, 1) → qx en_IA σ := fun h => hx _ _ ⟨by rw [h]; exact hP.z (by omega), ag.rf, by rw [h], rfl⟩
  simp only [j_X6_box_0, j_X6_box_1, j_X6_box_2, j_X6_box_5, j_X6_box_7, j_X6_box_9, j_X6_box_12, j_X6_box_14, j_X6_box_17, j_X6_box_23, j_X6_box_31, j_X6_box_34, j_X6_box_37, j_X6_box_39, j_X6_box_42, j_X6_box_45, j_X6_box_47, j_X6_box_50, j_X6_box_53, j_X6_box_55, j_X6_box_58, j_X6_box_61, j_X6_box_62, j_X6_box_65, j_X6_box_66, j_X6_box_68, j_X6_box_70, j_X6_box_73, j_X6_box_75, j_X6_box_76, j_X6_box_77, j_X6_box_80, j_X6_box_82, j_X6_box_83, j_X6_box_84, j_X6_box_87, j_X6_box_90, j_X6_box_97, j_X6_box_99, j_X6_box_102, j_X6_box_105, j_X6_box_107, j_X6_box_110, j_X6_box_111, j_X6_box_114, j_X6_box_117, j_X6_box_119, j_X6_box_122, j_X6_box_123, j_X6_box_125, j_X6_box_127, j_X6_box_129, j_X6_box_132, en_c2I, en_c2R, en_c2U, en_c2D, Option.some.injEq, exists_eq_left', exists_eq_left, Option.map_some, Option.map_none, not_true_eq_false, false_implies, true_implies, and_true, true_and, reduceCtorEq, not_false_eq_true, true_or, or_true]
  refine en_use (cu_X6_nodeAt hC) ?_
  rintro v σ' ⟨rfl, rfl⟩
  have t20 : op_box S k b1 b2 b3 b4 = (S, 1) → ∀ l10 l11, en_J (X_X6_box G qx q) 20 [en_R (some x), en_I k, en_D b1, en_U, en_D b2, en_U, en_D b3, en_U, en_D b4, en_U, l10, l11] [] σ' := fun h l10 l11 => by
    rw [j_X6_box_20]
    exact ⟨rm1, rm2, bad h⟩
  have t87 : op_box S k b1 b2 b3 b4 = (S, 1) → ∀ l10 l11, en_J (X_X6_box G qx q) 87 [en_R (some x), en_I k, en_D b1, en_U, en_D b2, en_U, en_D b3, en_U, en_D b4, en_U, l10, l11] [] σ' := fun h l10 l11 => by
    rw [j_X6_box_87]
    exact ⟨rm1, rm2, bad h⟩
  cases hx1 : st_ix (tr_N (sa_T S.1)) k with
  | none =>
    have := t20 (by unfold op_box; rw [hx1])
    simp only [Option.toList, List.cons_append, List.nil_append, j_X6_box_0, j_X6_box_1, j_X6_box_2, j_X6_box_5, j_X6_box_7, j_X6_box_9, j_X6_box_14, j_X6_box_17, j_X6_box_23, j_X6_box_31, j_X6_box_34, j_X6_box_37, j_X6_box_39, j_X6_box_42, j_X6_box_45, j_X6_box_47, j_X6_box_50, j_X6_box_53, j_X6_box_55, j_X6_box_58, j_X6_box_61, j_X6_box_62, j_X6_box_65, j_X6_box_66, j_X6_box_68, j_X6_box_70, j_X6_box_73, j_X6_box_75, j_X6_box_76, j_X6_box_77, j_X6_box_80, j_X6_box_82, j_X6_box_83, j_X6_box_84, j_X6_box_87, j_X6_box_90, j_X6_box_97, j_X6_box_99, j_X6_box_102, j_X6_box_105, j_X6_box_107, j_X6_box_110, j_X6_box_111, j_X6_box_114, j_X6_box_117, j_X6_box_119, j_X6_box_122, j_X6_box_123, j_X6_box_125, j_X6_box_127, j_X6_box_129, j_X6_box_132, en_c2I, en_c2R, en_c2U, en_c2D, Option.some.injEq, exists_eq_left', exists_eq_left, Option.map_some, Option.map_none, not_true_eq_false, false_implies, true_implies, and_true, true_and, reduceCtorEq, not_false_eq_true, true_or, or_true]
    exact this _ _
  | some n =>
    obtain ⟨hn, rfl⟩ := st_ix_some (by omega) hx1
    obtain ⟨h1, h2, h3, -⟩ := hC.2.1.1 n hn
    have hop1 : op_box S (nI n) b1 b2 b3 b4 = (if tr_kd (sa_T S.1) n ≤ 2 ∧ op_pos b3 = true ∧ op_pos b4 = true ∧ op_near b1 = true ∧ op_near b2 = true ∧ op_near b3 = true ∧ op_near b4 = true then ((su_B S.1 n (some (b1, b2, b3, b4, FP.dconst1, 0)), S.2), 0) else (S, 1)) := by unfold op_box; rw [hx1]
    simp only [Option.toList, List.cons_append, List.nil_append, j_X6_box_0, j_X6_box_1, j_X6_box_2, j_X6_box_5, j_X6_box_7, j_X6_box_9, j_X6_box_12, j_X6_box_14, j_X6_box_17, j_X6_box_23, j_X6_box_31, j_X6_box_34, j_X6_box_37, j_X6_box_39, j_X6_box_42, j_X6_box_45, j_X6_box_47, j_X6_box_50, j_X6_box_53, j_X6_box_55, j_X6_box_58, j_X6_box_61, j_X6_box_62, j_X6_box_65, j_X6_box_66, j_X6_box_68, j_X6_box_70, j_X6_box_73, j_X6_box_75, j_X6_box_76, j_X6_box_77, j_X6_box_80, j_X6_box_82, j_X6_box_83, j_X6_box_84, j_X6_box_87, j_X6_box_90, j_X6_box_97, j_X6_box_99, j_X6_box_102, j_X6_box_105, j_X6_box_107, j_X6_box_110, j_X6_box_111, j_X6_box_114, j_X6_box_117, j_X6_box_119, j_X6_box_122, j_X6_box_123, j_X6_box_125, j_X6_box_127, j_X6_box_129, j_X6_box_132, en_c2I, en_c2R, en_c2U, en_c2D, Option.some.injEq, exists_eq_left', exists_eq_left, Option.map_some, Option.map_none, not_true_eq_false, false_implies, true_implies, and_true, true_and, reduceCtorEq, not_false_eq_true, true_or, or_true]
    refine en_use (cu_X4_isElement h1) ?_
    rintro v σ1 ⟨rfl, rfl⟩
    rw [h3]
    by_cases hk : tr_kd (sa_T S.1) n ≤ 2
    · simp only [Option.toList, List.cons_append, List.nil_append, j_X6_box_0, j_X6_box_1, j_X6_box_2, j_X6_box_5, j_X6_box_7, j_X6_box_9, j_X6_box_12, j_X6_box_14, j_X6_box_17, j_X6_box_23, j_X6_box_30, j_X6_box_31, j_X6_box_34, j_X6_box_37, j_X6_box_39, j_X6_box_42, j_X6_box_45, j_X6_box_47, j_X6_box_50, j_X6_box_53, j_X6_box_55, j_X6_box_58, j_X6_box_61, j_X6_box_62, j_X6_box_68, j_X6_box_70, j_X6_box_73, j_X6_box_75, j_X6_box_76, j_X6_box_77, j_X6_box_80, j_X6_box_82, j_X6_box_83, j_X6_box_84, j_X6_box_87, j_X6_box_90, j_X6_box_97, j_X6_box_99, j_X6_box_102, j_X6_box_105, j_X6_box_107, j_X6_box_110, j_X6_box_111, j_X6_box_114, j_X6_box_117, j_X6_box_119, j_X6_box_122, j_X6_box_123, j_X6_box_125, j_X6_box_127, j_X6_box_129, j_X6_box_132, en_c2I, en_c2R, en_c2U, en_c2D, Option.some.injEq, exists_eq_left', exists_eq_left, Option.map_some, Option.map_none, not_true_eq_false, false_implies, true_implies, and_true, true_and, reduceCtorEq, not_false_eq_true, true_or, or_true, if_pos hk, i1]
      refine en_use cu_near ?_
      rintro v σ2 ⟨rfl, rfl⟩
      cases hn2 : op_near b1 with
      | false =>
        have := t87 (by rw [hop1, if_neg (fun z => by rw [hn2] at z; simp at z)])
        simp only [Option.toList, List.cons_append, List.nil_append, j_X6_box_0, j_X6_box_1, j_X6_box_2, j_X6_box_5, j_X6_box_7, j_X6_box_9, j_X6_box_12, j_X6_box_14, j_X6_box_17, j_X6_box_20, j_X6_box_23, j_X6_box_30, j_X6_box_31, j_X6_box_34, j_X6_box_37, j_X6_box_39, j_X6_box_42, j_X6_box_45, j_X6_box_47, j_X6_box_50, j_X6_box_53, j_X6_box_55, j_X6_box_58, j_X6_box_61, j_X6_box_62, j_X6_box_65, j_X6_box_66, j_X6_box_68, j_X6_box_70, j_X6_box_73, j_X6_box_75, j_X6_box_76, j_X6_box_77, j_X6_box_80, j_X6_box_82, j_X6_box_83, j_X6_box_84, j_X6_box_90, j_X6_box_97, j_X6_box_99, j_X6_box_102, j_X6_box_105, j_X6_box_107, j_X6_box_110, j_X6_box_111, j_X6_box_114, j_X6_box_117, j_X6_box_119, j_X6_box_122, j_X6_box_123, j_X6_box_125, j_X6_box_127, j_X6_box_129, j_X6_box_132, en_c2I, en_c2R, en_c2U, en_c2D, Option.some.injEq, exists_eq_left', exists_eq_left, Option.map_some, Option.map_none, not_true_eq_false, false_implies, true_implies, and_true, true_and, reduceCtorEq, not_false_eq_true, true_or, or_true, hn2, st_bf, i1]
        exact this _ _
      | true =>
        simp only [Option.toList, List.cons_append, List.nil_append, j_X6_box_0, j_X6_box_1, j_X6_box_2, j_X6_box_5, j_X6_box_7, j_X6_box_9, j_X6_box_12, j_X6_box_14, j_X6_box_17, j_X6_box_20, j_X6_box_23, j_X6_box_30, j_X6_box_31, j_X6_box_34, j_X6_box_37, j_X6_box_39, j_X6_box_42, j_X6_box_45, j_X6_box_47, j_X6_box_50, j_X6_box_53, j_X6_box_55, j_X6_box_58, j_X6_box_61, j_X6_box_62, j_X6_box_68, j_X6_box_70, j_X6_box_73, j_X6_box_75, j_X6_box_76, j_X6_box_77, j_X6_box_80, j_X6_box_82, j_X6_box_83, j_X6_box_84, j_X6_box_87, j_X6_box_90, j_X6_box_97, j_X6_box_99, j_X6_box_102, j_X6_box_105, j_X6_box_107, j_X6_box_110, j_X6_box_111, j_X6_box_114, j_X6_box_117, j_X6_box_119, j_X6_box_122, j_X6_box_123, j_X6_box_125, j_X6_box_127, j_X6_box_129, j_X6_box_132, en_c2I, en_c2R, en_c2U, en_c2D, Option.some.injEq, exists_eq_left', exists_eq_left, Option.map_some, Option.map_none, not_true_eq_false, false_implies, true_implies, and_true, true_and, reduceCtorEq, not_false_eq_true, true_or, or_true, st_bt, i1]
        refine en_use cu_near ?_
        rintro v σ3 ⟨rfl, rfl⟩
        cases hn3 : op_near b2 with
        | false =>
          have := t87 (by rw [hop1, if_neg (fun z => by rw [hn3] at z; simp at z)])
          simp only [Option.toList, List.cons_append, List.nil_append, j_X6_box_0, j_X6_box_1, j_X6_box_2, j_X6_box_5, j_X6_box_7, j_X6_box_9, j_X6_box_12, j_X6_box_14, j_X6_box_17, j_X6_box_20, j_X6_box_23, j_X6_box_30, j_X6_box_31, j_X6_box_34, j_X6_box_37, j_X6_box_39, j_X6_box_42, j_X6_box_45, j_X6_box_47, j_X6_box_50, j_X6_box_53, j_X6_box_55, j_X6_box_58, j_X6_box_61, j_X6_box_62, j_X6_box_65, j_X6_box_66, j_X6_box_68, j_X6_box_70, j_X6_box_73, j_X6_box_75, j_X6_box_76, j_X6_box_77, j_X6_box_80, j_X6_box_82, j_X6_box_83, j_X6_box_84, j_X6_box_90, j_X6_box_97, j_X6_box_99, j_X6_box_102, j_X6_box_105, j_X6_box_107, j_X6_box_110, j_X6_box_111, j_X6_box_114, j_X6_box_117, j_X6_box_119, j_X6_box_122, j_X6_box_123, j_X6_box_125, j_X6_box_127, j_X6_box_129, j_X6_box_132, en_c2I, en_c2R, en_c2U, en_c2D, Option.some.injEq, exists_eq_left', exists_eq_left, Option.map_some, Option.map_none, not_true_eq_false, false_implies, true_implies, and_true, true_and, reduceCtorEq, not_false_eq_true, true_or, or_true, hn3, st_bf, i1]
          exact this _ _
        | true =>
          simp only [Option.toList, List.cons_append, List.nil_append, j_X6_box_0, j_X6_box_1, j_X6_box_2, j_X6_box_5, j_X6_box_7, j_X6_box_9, j_X6_box_12, j_X6_box_14, j_X6_box_17, j_X6_box_20, j_X6_box_23, j_X6_box_30, j_X6_box_31, j_X6_box_34, j_X6_box_37, j_X6_box_39, j_X6_box_42, j_X6_box_45, j_X6_box_47, j_X6_box_50, j_X6_box_53, j_X6_box_55, j_X6_box_58, j_X6_box_61, j_X6_box_62, j_X6_box_68, j_X6_box_70, j_X6_box_73, j_X6_box_75, j_X6_box_76, j_X6_box_77, j_X6_box_80, j_X6_box_82, j_X6_box_83, j_X6_box_84, j_X6_box_87, j_X6_box_90, j_X6_box_97, j_X6_box_99, j_X6_box_102, j_X6_box_105, j_X6_box_107, j_X6_box_110, j_X6_box_111, j_X6_box_114, j_X6_box_117, j_X6_box_119, j_X6_box_122, j_X6_box_123, j_X6_box_125, j_X6_box_127, j_X6_box_129, j_X6_box_132, en_c2I, en_c2R, en_c2U, en_c2D, Option.some.injEq, exists_eq_left', exists_eq_left, Option.map_some, Option.map_none, not_true_eq_false, false_implies, true_implies, and_true, true_and, reduceCtorEq, not_false_eq_true, true_or, or_true, st_bt, i1]
          refine en_use cu_near ?_
          rintro v σ4 ⟨rfl, rfl⟩
          cases hn4 : op_near b3 with
          | false =>
            have := t87 (by rw [hop1, if_neg (fun z => by rw [hn4] at z; simp at z)])
            simp only [Option.toList, List.cons_append, List.nil_append, j_X6_box_0, j_X6_box_1, j_X6_box_2, j_X6_box_5, j_X6_box_7, j_X6_box_9, j_X6_box_12, j_X6_box_14, j_X6_box_17, j_X6_box_20, j_X6_box_23, j_X6_box_30, j_X6_box_31, j_X6_box_34, j_X6_box_37, j_X6_box_39, j_X6_box_42, j_X6_box_45, j_X6_box_47, j_X6_box_50, j_X6_box_53, j_X6_box_55, j_X6_box_58, j_X6_box_61, j_X6_box_62, j_X6_box_65, j_X6_box_66, j_X6_box_68, j_X6_box_70, j_X6_box_73, j_X6_box_75, j_X6_box_76, j_X6_box_77, j_X6_box_80, j_X6_box_82, j_X6_box_83, j_X6_box_84, j_X6_box_90, j_X6_box_97, j_X6_box_99, j_X6_box_102, j_X6_box_105, j_X6_box_107, j_X6_box_110, j_X6_box_111, j_X6_box_114, j_X6_box_117, j_X6_box_119, j_X6_box_122, j_X6_box_123, j_X6_box_125, j_X6_box_127, j_X6_box_129, j_X6_box_132, en_c2I, en_c2R, en_c2U, en_c2D, Option.some.injEq, exists_eq_left', exists_eq_left, Option.map_some, Option.map_none, not_true_eq_false, false_implies, true_implies, and_true, true_and, reduceCtorEq, not_false_eq_true, true_or, or_true, hn4, st_bf, i1]
            exact this _ _
          | true =>
            simp only [Option.toList, List.cons_append, List.nil_append, j_X6_box_0, j_X6_box_1, j_X6_box_2, j_X6_box_5, j_X6_box_7, j_X6_box_9, j_X6_box_12, j_X6_box_14, j_X6_box_17, j_X6_box_20, j_X6_box_23, j_X6_box_30, j_X6_box_31, j_X6_box_34, j_X6_box_37, j_X6_box_39, j_X6_box_42, j_X6_box_45, j_X6_box_47, j_X6_box_50, j_X6_box_53, j_X6_box_55, j_X6_box_58, j_X6_box_61, j_X6_box_62, j_X6_box_68, j_X6_box_70, j_X6_box_73, j_X6_box_75, j_X6_box_76, j_X6_box_77, j_X6_box_80, j_X6_box_82, j_X6_box_83, j_X6_box_84, j_X6_box_87, j_X6_box_90, j_X6_box_97, j_X6_box_99, j_X6_box_102, j_X6_box_105, j_X6_box_107, j_X6_box_110, j_X6_box_111, j_X6_box_114, j_X6_box_117, j_X6_box_119, j_X6_box_122, j_X6_box_123, j_X6_box_125, j_X6_box_127, j_X6_box_129, j_X6_box_132, en_c2I, en_c2R, en_c2U, en_c2D, Option.some.injEq, exists_eq_left', exists_eq_left, Option.map_some, Option.map_none, not_true_eq_false, false_implies, true_implies, and_true, true_and, reduceCtorEq, not_false_eq_true, true_or, or_true, st_bt, i1]
            refine en_use cu_near ?_
            rintro v σ5 ⟨rfl, rfl⟩
            cases hn5 : op_near b4 with
            | false =>
              have := t87 (by rw [hop1, if_neg (fun z => by rw [hn5] at z; simp at z)])
              simp only [Option.toList, List.cons_append, List.nil_append, j_X6_box_0, j_X6_box_1, j_X6_box_2, j_X6_box_5, j_X6_box_7, j_X6_box_9, j_X6_box_12, j_X6_box_14, j_X6_box_17, j_X6_box_20, j_X6_box_23, j_X6_box_30, j_X6_box_31, j_X6_box_34, j_X6_box_37, j_X6_box_39, j_X6_box_42, j_X6_box_45, j_X6_box_47, j_X6_box_50, j_X6_box_53, j_X6_box_55, j_X6_box_58, j_X6_box_61, j_X6_box_62, j_X6_box_65, j_X6_box_66, j_X6_box_68, j_X6_box_70, j_X6_box_73, j_X6_box_75, j_X6_box_76, j_X6_box_77, j_X6_box_80, j_X6_box_82, j_X6_box_83, j_X6_box_84, j_X6_box_90, j_X6_box_97, j_X6_box_99, j_X6_box_102, j_X6_box_105, j_X6_box_107, j_X6_box_110, j_X6_box_111, j_X6_box_114, j_X6_box_117, j_X6_box_119, j_X6_box_122, j_X6_box_123, j_X6_box_125, j_X6_box_127, j_X6_box_129, j_X6_box_132, en_c2I, en_c2R, en_c2U, en_c2D, Option.some.injEq, exists_eq_left', exists_eq_left, Option.map_some, Option.map_none, not_true_eq_false, false_implies, true_implies, and_true, true_and, reduceCtorEq, not_false_eq_true, true_or, or_true, hn5, st_bf, i1]
              exact this _ _
            | true =>
              have e3 := fb_gl f3 fb_zero
              have e4 := fb_gl f4 fb_zero
              by_cases p3 : 0 < Op.cmpValue (FP.dcmp b3 FP.dconst0) .l
              · by_cases p4 : 0 < Op.cmpValue (FP.dcmp b4 FP.dconst0) .l
                · have hop : op_box S (nI n) b1 b2 b3 b4 = ((su_B S.1 n (some (b1, b2, b3, b4, FP.dconst1, 0)), S.2), 0) := by rw [hop1, if_pos ⟨hk, decide_eq_true p3, decide_eq_true p4, hn2, hn3, hn4, hn5⟩]
                  rw [hop] at hq
                  have n3 : ¬ Op.cmpValue (FP.dcmp b3 FP.dconst0) .l ≤ 0 := Int32.not_le.mpr p3
                  have hfin : st_fin (b1, b2, b3, b4, FP.dconst1, 0) := ⟨f1, f2, f3, f4, fb_mono fb_one (by decide)⟩
                  have hel := (tr_el_iff w.1 hn).mpr hk
                  have hbr := (hC.2.2.1 n hn).2.1
                  cases hb : sa_B S.1 n with
                  | none =>
                    rw [hb] at hbr
                    have hC' := cx_boxn (rm := rm + 63) (b1 := b1) (b2 := b2) (b3 := b3) (b4 := b4) hC hn hb hel hfin
                    have r1 : en_nx σ5 + 1 ≤ G.2.2.2.2.1 ∧ en_ns σ5 + 10 ≤ G.2.2.2.2.2 := by
                      have := hC.2.2.2.2.2.2.2.2.2
                      unfold cd_room at this
                      omega
                    have hcn : ¬ na n = en_nx σ5 := fun z => by have := fresh_cl hC.1.2.2.2.2.2.2 h1; omega
                    simp only [Option.toList, List.cons_append, List.nil_append, j_X6_box_0, j_X6_box_1, j_X6_box_2, j_X6_box_5, j_X6_box_7, j_X6_box_9, j_X6_box_12, j_X6_box_14, j_X6_box_17, j_X6_box_20, j_X6_box_23, j_X6_box_30, j_X6_box_31, j_X6_box_34, j_X6_box_37, j_X6_box_39, j_X6_box_42, j_X6_box_45, j_X6_box_47, j_X6_box_50, j_X6_box_53, j_X6_box_55, j_X6_box_58, j_X6_box_61, j_X6_box_62, j_X6_box_66, j_X6_box_68, j_X6_box_70, j_X6_box_73, j_X6_box_75, j_X6_box_76, j_X6_box_77, j_X6_box_80, j_X6_box_82, j_X6_box_83, j_X6_box_84, j_X6_box_90, j_X6_box_97, j_X6_box_99, j_X6_box_102, j_X6_box_105, j_X6_box_107, j_X6_box_110, j_X6_box_111, j_X6_box_114, j_X6_box_119, j_X6_box_122, j_X6_box_123, j_X6_box_125, j_X6_box_127, j_X6_box_129, j_X6_box_132, en_c2I, en_c2R, en_c2U, en_c2D, Option.some.injEq, exists_eq_left', exists_eq_left, Option.map_some, Option.map_none, not_true_eq_false, false_implies, true_implies, and_true, true_and, reduceCtorEq, not_false_eq_true, true_or, or_true, hn5, st_bt, i1, e3, e4, n3, p4, h1, hbr, r1]
                    refine en_use (cu_X0_init trivial) ?_
                    rintro v σ6 ⟨rfl, rfl⟩
                    simp only [Option.toList, List.cons_append, List.nil_append, j_X6_box_0, j_X6_box_1, j_X6_box_2, j_X6_box_5, j_X6_box_7, j_X6_box_9, j_X6_box_12, j_X6_box_14, j_X6_box_17, j_X6_box_20, j_X6_box_23, j_X6_box_30, j_X6_box_31, j_X6_box_34, j_X6_box_37, j_X6_box_39, j_X6_box_42, j_X6_box_45, j_X6_box_47, j_X6_box_50, j_X6_box_53, j_X6_box_55, j_X6_box_58, j_X6_box_61, j_X6_box_62, j_X6_box_66, j_X6_box_68, j_X6_box_70, j_X6_box_73, j_X6_box_75, j_X6_box_76, j_X6_box_77, j_X6_box_80, j_X6_box_82, j_X6_box_83, j_X6_box_84, j_X6_box_90, j_X6_box_97, j_X6_box_99, j_X6_box_102, j_X6_box_105, j_X6_box_107, j_X6_box_110, j_X6_box_111, j_X6_box_114, j_X6_box_117, j_X6_box_119, j_X6_box_122, j_X6_box_123, j_X6_box_125, j_X6_box_127, j_X6_box_129, j_X6_box_132, en_c2I, en_c2R, en_c2U, en_c2D, Option.some.injEq, exists_eq_left', exists_eq_left, Option.map_some, Option.map_none, not_true_eq_false, false_implies, true_implies, and_true, true_and, reduceCtorEq, not_false_eq_true, true_or, or_true, eg_cl_new, eg_cl_sfr, if_neg hcn, h1, eg_fr_sfr]
                    refine en_use (cu_X0_shape (a := en_nx σ5) (by rw [eg_cl_sfr, eg_cl_new, if_pos rfl])) ?_
                    rintro v σ7 ⟨rfl, rfl⟩
                    simp only [Option.toList, List.cons_append, List.nil_append, j_X6_box_0, j_X6_box_1, j_X6_box_2, j_X6_box_5, j_X6_box_7, j_X6_box_9, j_X6_box_12, j_X6_box_14, j_X6_box_17, j_X6_box_20, j_X6_box_23, j_X6_box_30, j_X6_box_31, j_X6_box_34, j_X6_box_37, j_X6_box_39, j_X6_box_42, j_X6_box_45, j_X6_box_47, j_X6_box_50, j_X6_box_53, j_X6_box_55, j_X6_box_58, j_X6_box_61, j_X6_box_62, j_X6_box_66, j_X6_box_68, j_X6_box_70, j_X6_box_73, j_X6_box_75, j_X6_box_76, j_X6_box_77, j_X6_box_80, j_X6_box_82, j_X6_box_83, j_X6_box_84, j_X6_box_90, j_X6_box_97, j_X6_box_99, j_X6_box_102, j_X6_box_105, j_X6_box_107, j_X6_box_110, j_X6_box_111, j_X6_box_114, j_X6_box_117, j_X6_box_119, j_X6_box_122, j_X6_box_123, j_X6_box_125, j_X6_box_127, j_X6_box_129, j_X6_box_132, en_c2I, en_c2R, en_c2U, en_c2D, Option.some.injEq, exists_eq_left', exists_eq_left, Option.map_some, Option.map_none, not_true_eq_false, false_implies, true_implies, and_true, true_and, reduceCtorEq, not_false_eq_true, true_or, or_true]
                    have gg : ag σ5 (bx_sh (en_sfr (en_new σ5 0 10) 410 (na n) (some (en_nx σ5))) (en_nx σ5) b1 b2 b3 b4) (fun f a => 500 ≤ f) (fun _ => True) := ((ag_new).tr (ag_sfr (fun a z e => by omega))).tr (bx_shg (fun f hf z => by omega))
                    obtain ⟨-, p1, p2, p3', p4', p5, p6⟩ := hP
                    have x44 := cx_44 hC
                    have rr := (gg.2 x (by omega)).2.2.1
                    have hP' : PX G x na la (fun m => if m = n then en_nx σ5 else ba m) (rm + 63) (su_B S.1 n (some (b1, b2, b3, b4, FP.dconst1, 0)), S.2) (bx_sh (en_sfr (en_new σ5 0 10) 410 (na n) (some (en_nx σ5))) (en_nx σ5) b1 b2 b3 b4) := ⟨hC', by rw [(rr 610 (by omega)).2.1]; exact p1, by rw [(rr 611 (by omega)).2.1]; exact p2, by rw [(rr 612 (by omega)).1]; exact p3', by rw [(rr 606 (by omega)).1]; exact p4', p5, p6⟩
                    exact hq _ _ ⟨hP'.z (by omega), gg.mono (fun f a z => by unfold pF at z; omega) (fun a z => trivial), rfl, rfl⟩
                  | some b =>
                    rw [hb] at hbr
                    have hbc := (hC.2.2.2.1.1 n b hn hb).1
                    have g : ∀ (F : Nat → Nat → Prop) (V : Nat → Prop), (∀ f, f < 10 → ¬ F f (ba n)) → ag σ5 (bx_sh σ5 (ba n) b1 b2 b3 b4) F V := fun F V f1 => bx_shg f1
                    have hC' := cx_boxw (b' := (b1, b2, b3, b4, FP.dconst1, 0)) hC hn hb hfin (g _ _ (fun f hf z => by rcases z with z | z; omega; exact z rfl)) ⟨rfl, rfl, rfl, rfl⟩ bx_shv
                    simp only [Option.toList, List.cons_append, List.nil_append, j_X6_box_0, j_X6_box_1, j_X6_box_2, j_X6_box_5, j_X6_box_7, j_X6_box_9, j_X6_box_12, j_X6_box_14, j_X6_box_17, j_X6_box_20, j_X6_box_23, j_X6_box_30, j_X6_box_31, j_X6_box_34, j_X6_box_37, j_X6_box_39, j_X6_box_42, j_X6_box_45, j_X6_box_47, j_X6_box_50, j_X6_box_53, j_X6_box_55, j_X6_box_58, j_X6_box_61, j_X6_box_62, j_X6_box_66, j_X6_box_68, j_X6_box_70, j_X6_box_73, j_X6_box_75, j_X6_box_76, j_X6_box_77, j_X6_box_80, j_X6_box_82, j_X6_box_83, j_X6_box_84, j_X6_box_90, j_X6_box_97, j_X6_box_99, j_X6_box_102, j_X6_box_105, j_X6_box_107, j_X6_box_110, j_X6_box_111, j_X6_box_114, j_X6_box_117, j_X6_box_119, j_X6_box_122, j_X6_box_123, j_X6_box_125, j_X6_box_127, j_X6_box_129, j_X6_box_132, en_c2I, en_c2R, en_c2U, en_c2D, Option.some.injEq, exists_eq_left', exists_eq_left, Option.map_some, Option.map_none, not_true_eq_false, false_implies, true_implies, and_true, true_and, reduceCtorEq, not_false_eq_true, true_or, or_true, hn5, st_bt, i1, e3, e4, n3, p4, h1, hbr]
                    refine en_use (cu_X0_shape hbc) ?_
                    rintro v σ7 ⟨rfl, rfl⟩
                    simp only [Option.toList, List.cons_append, List.nil_append, j_X6_box_0, j_X6_box_1, j_X6_box_2, j_X6_box_5, j_X6_box_7, j_X6_box_9, j_X6_box_12, j_X6_box_14, j_X6_box_17, j_X6_box_20, j_X6_box_23, j_X6_box_30, j_X6_box_31, j_X6_box_34, j_X6_box_37, j_X6_box_39, j_X6_box_42, j_X6_box_45, j_X6_box_47, j_X6_box_50, j_X6_box_53, j_X6_box_55, j_X6_box_58, j_X6_box_61, j_X6_box_62, j_X6_box_66, j_X6_box_68, j_X6_box_70, j_X6_box_73, j_X6_box_75, j_X6_box_76, j_X6_box_77, j_X6_box_80, j_X6_box_82, j_X6_box_83, j_X6_box_84, j_X6_box_90, j_X6_box_97, j_X6_box_99, j_X6_box_102, j_X6_box_105, j_X6_box_107, j_X6_box_110, j_X6_box_111, j_X6_box_114, j_X6_box_117, j_X6_box_119, j_X6_box_122, j_X6_box_123, j_X6_box_125, j_X6_box_127, j_X6_box_129, j_X6_box_132, en_c2I, en_c2R, en_c2U, en_c2D, Option.some.injEq, exists_eq_left', exists_eq_left, Option.map_some, Option.map_none, not_true_eq_false, false_implies, true_implies, and_true, true_and, reduceCtorEq, not_false_eq_true, true_or, or_true]
                    exact hq _ _ ⟨(hP.of hC' (g (fun f a => 10 ≤ f) (fun _ => True) (fun f hf z => by omega)) (fun f hf => by omega) (Nat.le_refl _)).z (by omega), (g (fun f a => 10 ≤ f) (fun _ => True) (fun f hf z => by omega)).mono (fun f a z => by unfold pF at z; omega) (fun a z => trivial), rfl, rfl⟩
                · have := t87 (by rw [hop1, if_neg (fun z => p4 (of_decide_eq_true z.2.2.1))])
                  have n3 : ¬ Op.cmpValue (FP.dcmp b3 FP.dconst0) .l ≤ 0 := Int32.not_le.mpr p3
                  simp only [Option.toList, List.cons_append, List.nil_append, j_X6_box_0, j_X6_box_1, j_X6_box_2, j_X6_box_5, j_X6_box_7, j_X6_box_9, j_X6_box_12, j_X6_box_14, j_X6_box_17, j_X6_box_20, j_X6_box_23, j_X6_box_30, j_X6_box_31, j_X6_box_34, j_X6_box_37, j_X6_box_39, j_X6_box_42, j_X6_box_45, j_X6_box_47, j_X6_box_50, j_X6_box_53, j_X6_box_55, j_X6_box_58, j_X6_box_61, j_X6_box_62, j_X6_box_66, j_X6_box_68, j_X6_box_70, j_X6_box_73, j_X6_box_75, j_X6_box_76, j_X6_box_77, j_X6_box_80, j_X6_box_82, j_X6_box_83, j_X6_box_84, j_X6_box_90, j_X6_box_99, j_X6_box_102, j_X6_box_105, j_X6_box_107, j_X6_box_110, j_X6_box_111, j_X6_box_114, j_X6_box_117, j_X6_box_119, j_X6_box_122, j_X6_box_123, j_X6_box_125, j_X6_box_127, j_X6_box_129, j_X6_box_132, en_c2I, en_c2R, en_c2U, en_c2D, Option.some.injEq, exists_eq_left', exists_eq_left, Option.map_some, Option.map_none, not_true_eq_false, false_implies, true_implies, and_true, true_and, reduceCtorEq, not_false_eq_true, true_or, or_true, hn5, st_bt, i1, e3, e4, n3, p4]
                  exact this _ _
              · have := t87 (by rw [hop1, if_neg (fun z => p3 (of_decide_eq_true z.2.1))])
                have n3 : Op.cmpValue (FP.dcmp b3 FP.dconst0) .l ≤ 0 := Int32.not_lt.mp p3
                simp only [Option.toList, List.cons_append, List.nil_append, j_X6_box_0, j_X6_box_1, j_X6_box_2, j_X6_box_5, j_X6_box_7, j_X6_box_9, j_X6_box_12, j_X6_box_14, j_X6_box_17, j_X6_box_20, j_X6_box_23, j_X6_box_30, j_X6_box_31, j_X6_box_34, j_X6_box_37, j_X6_box_39, j_X6_box_42, j_X6_box_45, j_X6_box_47, j_X6_box_50, j_X6_box_53, j_X6_box_55, j_X6_box_58, j_X6_box_61, j_X6_box_62, j_X6_box_66, j_X6_box_68, j_X6_box_70, j_X6_box_73, j_X6_box_75, j_X6_box_76, j_X6_box_77, j_X6_box_80, j_X6_box_82, j_X6_box_83, j_X6_box_84, j_X6_box_90, j_X6_box_99, j_X6_box_102, j_X6_box_105, j_X6_box_107, j_X6_box_110, j_X6_box_111, j_X6_box_114, j_X6_box_117, j_X6_box_119, j_X6_box_122, j_X6_box_123, j_X6_box_125, j_X6_box_127, j_X6_box_129, j_X6_box_132, en_c2I, en_c2R, en_c2U, en_c2D, Option.some.injEq, exists_eq_left', exists_eq_left, Option.map_some, Option.map_none, not_true_eq_false, false_implies, true_implies, and_true, true_and, reduceCtorEq, not_false_eq_true, true_or, or_true, hn5, st_bt, i1, e3, e4, n3]
                exact this _ _
    · have := t20 (by rw [hop1, if_neg (fun z => hk z.1)])
      simp only [Option.toList, List.cons_append, List.nil_append, j_X6_box_0, j_X6_box_1, j_X6_box_2, j_X6_box_5, j_X6_box_7, j_X6_box_9, j_X6_box_12, j_X6_box_14, j_X6_box_17, j_X6_box_23, j_X6_box_31, j_X6_box_34, j_X6_box_37, j_X6_box_39, j_X6_box_42, j_X6_box_45, j_X6_box_47, j_X6_box_50, j_X6_box_53, j_X6_box_55, j_X6_box_58, j_X6_box_61, j_X6_box_62, j_X6_box_65, j_X6_box_66, j_X6_box_68, j_X6_box_70, j_X6_box_73, j_X6_box_75, j_X6_box_76, j_X6_box_77, j_X6_box_80, j_X6_box_82, j_X6_box_83, j_X6_box_84, j_X6_box_87, j_X6_box_90, j_X6_box_97, j_X6_box_99, j_X6_box_102, j_X6_box_105, j_X6_box_107, j_X6_box_110, j_X6_box_111, j_X6_box_114, j_X6_box_117, j_X6_box_119, j_X6_box_122, j_X6_box_123, j_X6_box_125, j_X6_box_127, j_X6_box_129, j_X6_box_132, en_c2I, en_c2R, en_c2U, en_c2D, Option.some.injEq, exists_eq_left', exists_eq_left, Option.map_some, Option.map_none, not_true_eq_false, false_implies, true_implies, and_true, true_and, reduceCtorEq, not_false_eq_true, true_or, or_true, if_neg hk]
      exact this _ _
theorem jp_X6_box {G : en_G} : ∀ as σ, (C_X6_box G).1 as σ → (en_lc as).length ≤ 12 ∧ en_J (X_X6_box G (fun E σ' => XP_X6_box G as σ E σ') (fun r σ' => (C_X6_box G).2 as σ r σ')) 0 (en_loc 12 as) [] σ := en_ghJX (fun g as σ h => by
  obtain ⟨hp, h2⟩ := h
  subst h2
  exact ⟨Nat.le_of_ble_eq_true rfl, jl_X6_box hp (fun _ _ h => h) (fun _ _ h => h)⟩)
theorem wl_X6_box_57 : Jvm.Cond.methodLink RX6 57 yX6_nodeAt ∈ en_W := en_inW (List.mem_of_getElem? (i := 248) (by decide +kernel)) (by decide +kernel)
theorem wl_X6_box_75 : Jvm.Cond.methodLink RX6 75 yX4_isElement ∈ en_W := en_inW (List.mem_of_getElem? (i := 452) (by decide +kernel)) (by decide +kernel)
theorem wl_X6_box_140 : Jvm.Cond.methodLink RX6 140 yX6_isNear ∈ en_W := en_inW (List.mem_of_getElem? (i := 621) (by decide +kernel)) (by decide +kernel)
theorem wl_X6_box_153 : Jvm.Cond.methodLink RX6 153 yX0_shape ∈ en_W := en_inW (List.mem_of_getElem? (i := 675) (by decide +kernel)) (by decide +kernel)
theorem okx_X6_box {G : en_G} : en_OkX G 6 yX6_box cX6_box 12 none (C_X6_box G) (XP_X6_box G) :=
  en_metX (fl := en_lk fl6) (nw := en_lk nw6) (aw := en_lk aw6) (dc := en_lk dc6) (ca := en_lk (ca_X6_box G)) (xt := en_lk xt_X6_box) (rt := 0) (ini := false) (by decide +kernel) (Or.inl ⟨rfl, rfl⟩) (fun h => by cases h) rfl (fun q qx => en_LkX fl6_ok nw6_ok aw6_ok dc6_ok) (by
    intro idx q hq
    have hm := en_lk_mem hq
    simp only [ca_X6_box, List.mem_cons, Prod.mk.injEq, List.not_mem_nil, or_false] at hm
    rcases hm with ⟨rfl, rfl⟩ | ⟨rfl, rfl⟩ | ⟨rfl, rfl⟩ | ⟨rfl, rfl⟩ | ⟨rfl, rfl⟩
    · exact en_clV (r := (RX6, TX6, 13)) 6 1 ok_X6_nodeAt (by decide) (by decide) rfl rfl pr_X6_nodeAt wl_X6_box_57 wi_X6_nodeAt wx_X6_nodeAt wz_6 wc_X6_nodeAt ⟨by decide +kernel, by decide +kernel, by decide +kernel⟩
    · exact en_clV (r := (RX4, TX4, 12)) 4 0 ok_X4_isElement (by decide) (by decide) rfl rfl pr_X4_isElement wl_X6_box_75 wi_X4_isElement wx_X4_isElement wz_4 wc_X4_isElement ⟨by decide +kernel, by decide +kernel, by decide +kernel⟩
    · exact en_clS 1 ok_X6_isNear (by decide) (by decide) pr_X6_isNear wl_X6_box_140 ws_X6_isNear wz_6 wc_X6_isNear ⟨by decide +kernel, by decide +kernel, by decide +kernel⟩
    · exact en_clN (host := RX6) 0 ok_X0_init (by decide) (by decide) pr_X0_init rfl (by simp [en_nest]) wi_X0_init wz_0 wc_X0_init ⟨by decide +kernel, by decide +kernel, by decide +kernel⟩
    · exact en_clV (r := (RX0, TX0, 10)) 0 4 ok_X0_shape (by decide) (by decide) rfl rfl pr_X0_shape wl_X6_box_153 wi_X0_shape wx_X0_shape wz_0 wc_X0_shape ⟨by decide +kernel, by decide +kernel, by decide +kernel⟩) (by decide) th_X6_box jp_X6_box
