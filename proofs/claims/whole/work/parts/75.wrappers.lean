/-! THE LAW: its four methods that catch -/
theorem CX.to {G G' : en_G} {x : Nat} {na la ba : Nat → Nat} {rm rm' kk n : Nat} {A : st_A} {σ : en_S} (h : CX G' x na la ba rm' A σ) (hk : en_nx σ ≤ kk) (r1 : kk + (40 - sa_D A 0 0) + rm ≤ G.2.2.2.2.1) (r2 : n + 5 * (40 - sa_D A 0 0) + 12 * rm ≤ G.2.2.2.2.2) : CX G x na la ba rm A (en_pad σ kk n) := by
  obtain ⟨⟨c1, c2, c3, c4, c5, c6, c7⟩, t, nd, bx, l, sc, lo, ob, w, r⟩ := h
  exact ⟨⟨c1, c2, c3, c4, c5, Nat.le_trans c6 hk, fun a ha => c7 a (Nat.le_trans hk ha)⟩, t, nd, bx, l, sc, lo, ob, w, r1, r2⟩
theorem CX.rg {G G' : en_G} {x : Nat} {na la ba : Nat → Nat} {rm rm' : Nat} {A : st_A} {σ : en_S} (h : CX G' x na la ba rm' A σ) (r : cd_room G rm A σ) : CX G x na la ba rm A σ := by
  obtain ⟨c, t, nd, bx, l, sc, lo, ob, w, -⟩ := h
  exact ⟨c, t, nd, bx, l, sc, lo, ob, w, r⟩
/-- the class's own room for one call -/
def wz_G (G : en_G) (σ : en_S) : en_G := (G.1, G.2.1, G.2.2.1, G.2.2.2.1, en_nx σ + 104, en_ns σ + 968)
theorem wz_enter {G : en_G} {x rm : Nat} {S : pb_S} {σ : en_S} (h : PZ G x (rm + 192) S σ) : (en_nx σ + 104 ≤ G.2.2.2.2.1 ∧ en_ns σ + 968 ≤ G.2.2.2.2.2) ∧ PZ (wz_G G σ) x (0 + 64) S σ := by
  obtain ⟨na, la, ba, hC, hr⟩ := h
  have r := hC.2.2.2.2.2.2.2.2.2
  unfold cd_room at r
  refine ⟨by omega, na, la, ba, hC.rg ?_, hr⟩
  unfold cd_room
  show en_nx σ + (40 - sa_D S.1 0 0) + (0 + 64) ≤ en_nx σ + 104 ∧ en_ns σ + 5 * (40 - sa_D S.1 0 0) + 12 * (0 + 64) ≤ en_ns σ + 968
  omega
theorem wz_back {G : en_G} {x rm : Nat} {S S' : pb_S} {σ σ' : en_S} (h : PZ G x (rm + 192) S σ) (k : PZ (wz_G G σ) x 0 S' σ') : PZ G x rm S' σ' := by
  obtain ⟨na, la, ba, hC, hr⟩ := h
  obtain ⟨na', la', ba', kC, kr⟩ := k
  have r := hC.2.2.2.2.2.2.2.2.2
  have q := kC.2.2.2.2.2.2.2.2.2
  unfold cd_room at r q
  have q1 : en_nx σ' + (40 - sa_D S'.1 0 0) + 0 ≤ en_nx σ + 104 := q.1
  have q2 : en_ns σ' + 5 * (40 - sa_D S'.1 0 0) + 12 * 0 ≤ en_ns σ + 968 := q.2
  refine ⟨na', la', ba', kC.rg ?_, kr⟩
  unfold cd_room
  omega
theorem wz_pad {G : en_G} {x rm kk n : Nat} {S S' : pb_S} {σ σ' : en_S} (h : PZ G x (rm + 192) S σ) (k : PZ (wz_G G σ) x 0 S' σ') (hk : en_nx σ' ≤ kk) (h1 : kk ≤ en_nx σ + 104) (h2 : n ≤ en_ns σ + 968) : PZ G x rm S' (en_pad σ' kk n) := by
  obtain ⟨na, la, ba, hC, hr⟩ := h
  obtain ⟨na', la', ba', kC, kr⟩ := k
  have r := hC.2.2.2.2.2.2.2.2.2
  unfold cd_room at r
  exact ⟨na', la', ba', kC.to hk (by omega) (by omega), kr⟩
theorem ag_pad {σ : en_S} {kk n : Nat} {F : Nat → Nat → Prop} {V : Nat → Prop} (hk : en_nx σ ≤ kk) : ag σ (en_pad σ kk n) F V := ⟨hk, fun _ _ => ⟨rfl, rfl, fun _ _ => ⟨rfl, rfl, rfl⟩, fun _ => ⟨rfl, rfl, rfl, rfl⟩⟩⟩
theorem PZ.fr {G : en_G} {x rm : Nat} {S : pb_S} {σ : en_S} (h : PZ G x rm S σ) : fresh σ := by
  obtain ⟨na, la, ba, hC, -⟩ := h
  exact hC.1.2.2.2.2.2.2
theorem PZ.x44 {G : en_G} {x rm : Nat} {S : pb_S} {σ : en_S} (h : PZ G x rm S σ) : x + 44 ≤ en_nx σ := by
  obtain ⟨na, la, ba, hC, -⟩ := h
  exact cx_44 hC
theorem PZ.ag {G : en_G} {x rm : Nat} {S : pb_S} {σ σ' : en_S} (h : PZ G x rm S σ) (g : ag σ σ' (fun f _ => f < 700) (fun a => a < x + 44)) (hf : fresh σ') (hx : en_nx σ' = en_nx σ) (hs : en_ns σ' = en_ns σ) : PZ G x rm S σ' := by
  obtain ⟨na, la, ba, hC, h1, h2, h3, h4, h5, h6⟩ := h
  have r := (g.2 x (by have := cx_44 hC; omega)).2.2.1
  refine ⟨na, la, ba, hC.ag (g.mono (fun f a z => z.2.2.1) (fun a z => by unfold cxV at z; omega)) hf hx hs, ?_, ?_, ?_, ?_, h5, h6⟩
  · rw [(r 610 (by omega)).2.1]; exact h1
  · rw [(r 611 (by omega)).2.1]; exact h2
  · rw [(r 612 (by omega)).1]; exact h3
  · rw [(r 606 (by omega)).1]; exact h4
theorem en_Lk0 {own : String} {G : en_G} {cc : ByteArray} {rt : Nat} {q : Option en_V → en_S → Prop} : en_Lk own (en_mk G cc (fun _ => none) (fun _ => none) (fun _ => none) (fun _ => none) (fun _ => none) rt false q) :=
  ⟨fun _ _ h => (by cases h), fun _ _ _ h => (by cases h), fun _ _ h => (by cases h), fun _ _ h => (by cases h)⟩
theorem lc_IO : Jvm.Cond.classLink RL 13 en_IO ∈ en_W := en_inW (List.mem_of_getElem? (i := 498) (by decide +kernel)) (by decide +kernel)
theorem lc_IA : Jvm.Cond.classLink RL 15 en_IA ∈ en_W := en_inW (List.mem_of_getElem? (i := 499) (by decide +kernel)) (by decide +kernel)
theorem lc_NS : Jvm.Cond.classLink RL 17 en_NS ∈ en_W := en_inW (List.mem_of_getElem? (i := 500) (by decide +kernel)) (by decide +kernel)
theorem wz_L : Jvm.Cond.initialized RL ∈ en_W := en_inW (List.mem_of_getElem? (i := 40) (by decide +kernel)) (by decide +kernel)
def hh_L_insert : List (Nat × Nat × Nat × Nat) := [(0, 7, 10, 13), (0, 7, 14, 15), (0, 7, 18, 17)]
theorem ct_insert_IO {args : Array Value} {s : State} {c : Code} (hts : ∀ w ∈ en_W, w.before args s = true) (hY : en_Y s) (htab : c.exceptionTable.toList = tableOf hh_L_insert) : en_catch RL args s c 4 en_IO 10 :=
  ⟨[], ⟨0, 7, 10, 13⟩, [⟨0, 7, 14, 15⟩, ⟨0, 7, 18, 17⟩], en_IO, htab, fun z hz => (by cases hz), by decide, by decide, hts _ lc_IO, va_Nw.use rfl (hY.1 _ (by simp [en_nw])), rfl⟩
theorem ct_insert_IA {args : Array Value} {s : State} {c : Code} (hts : ∀ w ∈ en_W, w.before args s = true) (hY : en_Y s) (htab : c.exceptionTable.toList = tableOf hh_L_insert) : en_catch RL args s c 4 en_IA 14 :=
  ⟨[⟨0, 7, 10, 13⟩], ⟨0, 7, 14, 15⟩, [⟨0, 7, 18, 17⟩], en_IA, htab, fun z hz => (by
    simp only [List.mem_cons, List.not_mem_nil, or_false] at hz
    rcases hz with rfl
    · exact Or.inr ⟨by decide, en_IO, hts _ lc_IO, hY.2.2 (en_IA, en_IO) (by simp [en_nc])⟩), by decide, by decide, hts _ lc_IA, va_Nw.use rfl (hY.1 _ (by simp [en_nw])), rfl⟩
theorem ct_insert_NS {args : Array Value} {s : State} {c : Code} (hts : ∀ w ∈ en_W, w.before args s = true) (hY : en_Y s) (htab : c.exceptionTable.toList = tableOf hh_L_insert) : en_catch RL args s c 4 en_NS 18 :=
  ⟨[⟨0, 7, 10, 13⟩, ⟨0, 7, 14, 15⟩], ⟨0, 7, 18, 17⟩, [], en_NS, htab, fun z hz => (by
    simp only [List.mem_cons, List.not_mem_nil, or_false] at hz
    rcases hz with rfl | rfl
    · exact Or.inr ⟨by decide, en_IO, hts _ lc_IO, hY.2.2 (en_NS, en_IO) (by simp [en_nc])⟩
    · exact Or.inr ⟨by decide, en_IA, hts _ lc_IA, hY.2.2 (en_NS, en_IA) (by simp [en_nc])⟩), by decide, by decide, hts _ lc_NS, va_Nw.use rfl (hY.1 _ (by simp [en_nw])), rfl⟩
def P_L_insert (G : en_G) (g : (Nat) × (Nat) × (pb_S) × (Int32) × (Int32) × (Int32)) (as : List en_V) (σ : en_S) : Prop := (PZ G (g.1) ((g.2.1) + 192) (g.2.2.1) σ) ∧ as = [en_R (some (g.1)), en_I (g.2.2.2.1), en_I (g.2.2.2.2.1), en_I (g.2.2.2.2.2)]
def C_L_insert (G : en_G) : en_C := en_gh (P_L_insert G) (fun g as σ v σ' => PZ G (g.1) (g.2.1) (op_insert (g.2.2.1) (g.2.2.2.1) (g.2.2.2.2.1) (g.2.2.2.2.2)).1 σ' ∧ ag σ σ' pF (pV (g.1)) ∧ v = some (en_I (op_insert (g.2.2.1) (g.2.2.2.1) (g.2.2.2.2.1) (g.2.2.2.2.2)).2))
theorem pr_L_insert {G : en_G} : ∀ as σ, (C_L_insert G).1 as σ → as.length = 4 := fun as σ ⟨g, h1, h2⟩ => by rw [h2]; rfl
theorem cu_L_insert {G : en_G} {x : Nat} {rm : Nat} {S : pb_S} {kp : Int32} {ke : Int32} {kb : Int32} {σ : en_S} (hp : PZ G x (rm + 192) S σ) : en_Us (C_L_insert G) [en_R (some x), en_I kp, en_I ke, en_I kb] σ (fun v σ' => PZ G x rm (op_insert S kp ke kb).1 σ' ∧ ag σ σ' pF (pV x) ∧ v = some (en_I (op_insert S kp ke kb).2)) := ⟨⟨(x, rm, S, kp, ke, kb), hp, rfl⟩, fun v σ' q => q (x, rm, S, kp, ke, kb) ⟨hp, rfl⟩⟩
def X_L_insert (G : en_G) (q : Option en_V → en_S → Prop) : en_X := en_mk G cL_insert (fun _ => none) (fun _ => none) (fun _ => none) (fun _ => none) (fun _ => none) 1 false q
theorem d_L_insert_0 : decode cL_insert 0 = .ok (.aload_n 0, 1) := by decide +kernel
theorem j_L_insert_0 {G : en_G} {q : Option en_V → en_S → Prop}  {l1 l2 l3 l4 : en_V} {x0 : Option Nat} {σ : en_S} : en_J (X_L_insert G q) 0 [en_R x0, l1, l2, l3, l4] [] σ ↔ en_J (X_L_insert G q) 1 [en_R x0, l1, l2, l3, l4] [en_R x0] σ := en_j1 d_L_insert_0 rfl rfl
theorem d_L_insert_1 : decode cL_insert 1 = .ok (.iload_n 1, 1) := by decide +kernel
theorem j_L_insert_1 {G : en_G} {q : Option en_V → en_S → Prop}  {l0 l2 l3 l4 : en_V} {a0 : Option Nat} {x1 : Int32} {σ : en_S} : en_J (X_L_insert G q) 1 [l0, en_I x1, l2, l3, l4] [en_R a0] σ ↔ en_J (X_L_insert G q) 2 [l0, en_I x1, l2, l3, l4] [en_I x1, en_R a0] σ := en_j1 d_L_insert_1 rfl rfl
theorem d_L_insert_2 : decode cL_insert 2 = .ok (.iload_n 2, 1) := by decide +kernel
theorem j_L_insert_2 {G : en_G} {q : Option en_V → en_S → Prop}  {l0 l1 l3 l4 : en_V} {a0 : Int32} {a1 : Option Nat} {x2 : Int32} {σ : en_S} : en_J (X_L_insert G q) 2 [l0, l1, en_I x2, l3, l4] [en_I a0, en_R a1] σ ↔ en_J (X_L_insert G q) 3 [l0, l1, en_I x2, l3, l4] [en_I x2, en_I a0, en_R a1] σ := en_j1 d_L_insert_2 rfl rfl
theorem d_L_insert_3 : decode cL_insert 3 = .ok (.iload_n 3, 1) := by decide +kernel
theorem j_L_insert_3 {G : en_G} {q : Option en_V → en_S → Prop}  {l0 l1 l2 l4 : en_V} {a0 : Int32} {a1 : Int32} {a2 : Option Nat} {x3 : Int32} {σ : en_S} : en_J (X_L_insert G q) 3 [l0, l1, l2, en_I x3, l4] [en_I a0, en_I a1, en_R a2] σ ↔ en_J (X_L_insert G q) 4 [l0, l1, l2, en_I x3, l4] [en_I x3, en_I a0, en_I a1, en_R a2] σ := en_j1 d_L_insert_3 rfl rfl
theorem d_L_insert_4 : decode cL_insert 4 = .ok (.invokevirtual 7, 3) := by decide +kernel
theorem d_L_insert_7 : decode cL_insert 7 = .ok (.goto 15, 3) := by decide +kernel
theorem j_L_insert_7 {G : en_G} {q : Option en_V → en_S → Prop}  {l0 l1 l2 l3 l4 : en_V}  {σ : en_S} : en_J (X_L_insert G q) 7 [l0, l1, l2, l3, l4] [] σ ↔ en_J (X_L_insert G q) 22 [l0, l1, l2, l3, l4] [] σ := en_j1 d_L_insert_7 rfl ⟨rfl, by decide⟩
theorem d_L_insert_10 : decode cL_insert 10 = .ok (.astore 4, 2) := by decide +kernel
theorem j_L_insert_10 {G : en_G} {q : Option en_V → en_S → Prop}  {l0 l1 l2 l3 l4 : en_V} {a0 : Option Nat} {σ : en_S} : en_J (X_L_insert G q) 10 [l0, l1, l2, l3, l4] [en_R a0] σ ↔ en_J (X_L_insert G q) 12 [l0, l1, l2, en_c2 l3, en_R a0] [] σ := en_j1 d_L_insert_10 rfl ⟨rfl, Nat.le_of_ble_eq_true rfl⟩
theorem d_L_insert_12 : decode cL_insert 12 = .ok (.iconst 1, 1) := by decide +kernel
theorem j_L_insert_12 {G : en_G} {q : Option en_V → en_S → Prop}  {l0 l1 l2 l3 l4 : en_V}  {σ : en_S} : en_J (X_L_insert G q) 12 [l0, l1, l2, l3, l4] [] σ ↔ en_J (X_L_insert G q) 13 [l0, l1, l2, l3, l4] [en_I 1] σ := ej_iconst d_L_insert_12 (by decide +kernel)
theorem d_L_insert_13 : decode cL_insert 13 = .ok (.ireturn, 1) := by decide +kernel
theorem j_L_insert_13 {G : en_G} {q : Option en_V → en_S → Prop}  {l0 l1 l2 l3 l4 : en_V} {a0 : Int32} {σ : en_S} : en_J (X_L_insert G q) 13 [l0, l1, l2, l3, l4] [en_I a0] σ ↔ q (some (en_I a0)) σ := en_jr d_L_insert_13 rfl ⟨fun h => h.2.2, fun h => ⟨rfl, Or.inl rfl, h⟩⟩
theorem d_L_insert_14 : decode cL_insert 14 = .ok (.astore 4, 2) := by decide +kernel
theorem j_L_insert_14 {G : en_G} {q : Option en_V → en_S → Prop}  {l0 l1 l2 l3 l4 : en_V} {a0 : Option Nat} {σ : en_S} : en_J (X_L_insert G q) 14 [l0, l1, l2, l3, l4] [en_R a0] σ ↔ en_J (X_L_insert G q) 16 [l0, l1, l2, en_c2 l3, en_R a0] [] σ := en_j1 d_L_insert_14 rfl ⟨rfl, Nat.le_of_ble_eq_true rfl⟩
theorem d_L_insert_16 : decode cL_insert 16 = .ok (.iconst 2, 1) := by decide +kernel
theorem j_L_insert_16 {G : en_G} {q : Option en_V → en_S → Prop}  {l0 l1 l2 l3 l4 : en_V}  {σ : en_S} : en_J (X_L_insert G q) 16 [l0, l1, l2, l3, l4] [] σ ↔ en_J (X_L_insert G q) 17 [l0, l1, l2, l3, l4] [en_I 2] σ := ej_iconst d_L_insert_16 (by decide +kernel)
theorem d_L_insert_17 : decode cL_insert 17 = .ok (.ireturn, 1) := by decide +kernel
theorem j_L_insert_17 {G : en_G} {q : Option en_V → en_S → Prop}  {l0 l1 l2 l3 l4 : en_V} {a0 : Int32} {σ : en_S} : en_J (X_L_insert G q) 17 [l0, l1, l2, l3, l4] [en_I a0] σ ↔ q (some (en_I a0)) σ := en_jr d_L_insert_17 rfl ⟨fun h => h.2.2, fun h => ⟨rfl, Or.inl rfl, h⟩⟩
theorem d_L_insert_18 : decode cL_insert 18 = .ok (.astore 4, 2) := by decide +kernel
theorem j_L_insert_18 {G : en_G} {q : Option en_V → en_S → Prop}  {l0 l1 l2 l3 l4 : en_V} {a0 : Option Nat} {σ : en_S} : en_J (X_L_insert G q) 18 [l0, l1, l2, l3, l4] [en_R a0] σ ↔ en_J (X_L_insert G q) 20 [l0, l1, l2, en_c2 l3, en_R a0] [] σ := en_j1 d_L_insert_18 rfl ⟨rfl, Nat.le_of_ble_eq_true rfl⟩
theorem d_L_insert_20 : decode cL_insert 20 = .ok (.iconst 3, 1) := by decide +kernel
theorem j_L_insert_20 {G : en_G} {q : Option en_V → en_S → Prop}  {l0 l1 l2 l3 l4 : en_V}  {σ : en_S} : en_J (X_L_insert G q) 20 [l0, l1, l2, l3, l4] [] σ ↔ en_J (X_L_insert G q) 21 [l0, l1, l2, l3, l4] [en_I 3] σ := ej_iconst d_L_insert_20 (by decide +kernel)
theorem d_L_insert_21 : decode cL_insert 21 = .ok (.ireturn, 1) := by decide +kernel
theorem j_L_insert_21 {G : en_G} {q : Option en_V → en_S → Prop}  {l0 l1 l2 l3 l4 : en_V} {a0 : Int32} {σ : en_S} : en_J (X_L_insert G q) 21 [l0, l1, l2, l3, l4] [en_I a0] σ ↔ q (some (en_I a0)) σ := en_jr d_L_insert_21 rfl ⟨fun h => h.2.2, fun h => ⟨rfl, Or.inl rfl, h⟩⟩
theorem d_L_insert_22 : decode cL_insert 22 = .ok (.iconst 0, 1) := by decide +kernel
theorem j_L_insert_22 {G : en_G} {q : Option en_V → en_S → Prop}  {l0 l1 l2 l3 l4 : en_V}  {σ : en_S} : en_J (X_L_insert G q) 22 [l0, l1, l2, l3, l4] [] σ ↔ en_J (X_L_insert G q) 23 [l0, l1, l2, l3, l4] [en_I 0] σ := ej_iconst d_L_insert_22 (by decide +kernel)
theorem d_L_insert_23 : decode cL_insert 23 = .ok (.ireturn, 1) := by decide +kernel
theorem j_L_insert_23 {G : en_G} {q : Option en_V → en_S → Prop}  {l0 l1 l2 l3 l4 : en_V} {a0 : Int32} {σ : en_S} : en_J (X_L_insert G q) 23 [l0, l1, l2, l3, l4] [en_I a0] σ ↔ q (some (en_I a0)) σ := en_jr d_L_insert_23 rfl ⟨fun h => h.2.2, fun h => ⟨rfl, Or.inl rfl, h⟩⟩
theorem wl_L_insert_7 : Jvm.Cond.methodLink RL 7 yX6_insert ∈ en_W := en_inW (List.mem_of_getElem? (i := 501) (by decide +kernel)) (by decide +kernel)
theorem ws_L_insert : Jvm.Cond.static yL_insert ∈ en_W := en_inW (List.mem_of_getElem? (i := 496) (by decide +kernel)) (by decide +kernel)
theorem wc_L_insert : Jvm.Cond.codeWith yL_insert cL_insert 5 (some .int) hh_L_insert ∈ en_W := en_inW (List.mem_of_getElem? (i := 497) (by decide +kernel)) (by decide +kernel)
theorem okw_insert {G : en_G} : en_OkW G 7 yL_insert cL_insert 5 (some .int) hh_L_insert (C_L_insert G) := by
  refine en_metW (own := RL) (fl := fun _ => none) (nw := fun _ => none) (aw := fun _ => none) (dc := fun _ => none) (rt := 1) (by decide +kernel) (Or.inr (Or.inl ⟨rfl, rfl⟩)) rfl (fun q => en_Lk0) ?_
  rintro as σ ⟨⟨x, rm, S, kp, ke, kb⟩, hp0, has⟩
  dsimp only at hp0 has
  subst has
  refine ⟨Nat.le_of_ble_eq_true rfl, ?_⟩
  intro p e R s m args below meth c Qf hW
  obtain ⟨Cx, B, hY, hZ, hst, htab⟩ := hW
  have hts := B.2.2.2.2.1
  have uni : ∀ g, P_L_insert G g [en_R (some x), en_I kp, en_I ke, en_I kb] σ → ∃ rm' S', PZ G x (rm' + 192) S' σ ∧ g = (x, rm', S', kp, ke, kb) := by
    rintro ⟨x', rm', S', kp', ke', kb'⟩ ⟨hp', has'⟩
    dsimp only at hp' has'
    simp only [List.cons.injEq, en_Rinj, en_Iinj, en_Dinj, Option.some.injEq, and_true] at has'
    obtain ⟨rfl, rfl, rfl, rfl⟩ := has'
    exact ⟨rm', S', hp', rfl⟩
  obtain ⟨w1, w2⟩ := (wz_enter hp0).1
  refine en_go (pc' := 1) (ls' := [en_R (some x), en_I kp, en_I ke, en_I kb, en_U]) (st' := [en_R (some x)]) (σ' := σ) Cx d_L_insert_0 rfl rfl ?_
  refine en_go (pc' := 2) (ls' := [en_R (some x), en_I kp, en_I ke, en_I kb, en_U]) (st' := [en_I kp, en_R (some x)]) (σ' := σ) Cx d_L_insert_1 rfl rfl ?_
  refine en_go (pc' := 3) (ls' := [en_R (some x), en_I kp, en_I ke, en_I kb, en_U]) (st' := [en_I ke, en_I kp, en_R (some x)]) (σ' := σ) Cx d_L_insert_2 rfl rfl ?_
  refine en_go (pc' := 4) (ls' := [en_R (some x), en_I kp, en_I ke, en_I kb, en_U]) (st' := [en_I kb, en_I ke, en_I kp, en_R (some x)]) (σ' := σ) Cx d_L_insert_3 rfl rfl ?_
  refine en_runX (h' := 6) (xl := en_nx σ + 104) (sl := en_ns σ + 968) (ci := 6) (k := 3) (r := (RX6, TX6, 13)) (b := x) (tl := [en_I kp, en_I ke, en_I kb]) (rest := []) (ls := [en_R (some x), en_I kp, en_I ke, en_I kb, en_U]) B hY hZ hst w1 w2 (okx_X6_insert (G := wz_G G σ)) (by decide) (by decide) rfl rfl wl_L_insert_7 wi_X6_insert wx_X6_insert wz_6 wc_X6_insert ⟨by decide +kernel, by decide +kernel, by decide +kernel⟩ hp0.cl rfl d_L_insert_4 (Nat.le_of_ble_eq_true rfl) ⟨(x, 0, S, kp, ke, kb), (wz_enter hp0).2, rfl⟩ (by omega) (by omega) ?_ ?_
  · intro v σ' hrel
    have hv := (hrel (x, 0, S, kp, ke, kb) ⟨(wz_enter hp0).2, rfl⟩).2.2.2
    subst hv
    refine en_sound Cx ?_
    show en_J (X_L_insert G _) 7 _ _ _
    simp only [Option.toList, List.cons_append, List.nil_append, j_L_insert_0, j_L_insert_1, j_L_insert_2, j_L_insert_3, j_L_insert_7, j_L_insert_10, j_L_insert_12, j_L_insert_13, j_L_insert_14, j_L_insert_16, j_L_insert_17, j_L_insert_18, j_L_insert_20, j_L_insert_21, j_L_insert_22, j_L_insert_23, en_c2I, en_c2R, en_c2U, en_c2D, Option.some.injEq, exists_eq_left', exists_eq_left, Option.map_some, Option.map_none, not_true_eq_false, false_implies, true_implies, and_true, true_and, reduceCtorEq, not_false_eq_true, true_or, or_true]
    intro g hg
    obtain ⟨rm', S', hp', rfl⟩ := uni g hg
    obtain ⟨q1, q2, q3, -⟩ := hrel (x, 0, S', kp, ke, kb) ⟨(wz_enter hp').2, rfl⟩
    exact ⟨wz_back hp' q1, q2, by rw [q3]⟩
  · intro E σ' kk n q0 hxp hk1 hk2 hk3
    obtain ⟨-, -, hE⟩ := hxp (x, 0, S, kp, ke, kb) ⟨(wz_enter hp0).2, rfl⟩
    rcases hE with ⟨-, rfl⟩ | ⟨-, rfl⟩ | ⟨-, rfl⟩
    · refine ⟨10, ct_insert_IO hts hY htab, en_sound Cx ?_⟩
      show en_J (X_L_insert G _) 10 _ _ _
      simp only [j_L_insert_0, j_L_insert_1, j_L_insert_2, j_L_insert_3, j_L_insert_7, j_L_insert_10, j_L_insert_12, j_L_insert_13, j_L_insert_14, j_L_insert_16, j_L_insert_17, j_L_insert_18, j_L_insert_20, j_L_insert_21, j_L_insert_22, j_L_insert_23, en_c2I, en_c2R, en_c2U, en_c2D, Option.some.injEq, exists_eq_left', exists_eq_left, Option.map_some, Option.map_none, not_true_eq_false, false_implies, true_implies, and_true, true_and, reduceCtorEq, not_false_eq_true]
      intro g hg
      obtain ⟨rm', S', hp', rfl⟩ := uni g hg
      obtain ⟨q1, q2, q3⟩ := hxp (x, 0, S', kp, ke, kb) ⟨(wz_enter hp').2, rfl⟩
      have hz : (op_insert S' kp ke kb).2 = 1 := (by rcases q3 with ⟨z, -⟩ | ⟨-, z⟩ | ⟨-, z⟩ <;> first | exact z | exact absurd z (by decide))
      exact ⟨wz_pad hp' q1 hk1 hk2 hk3, q2.tr (ag_pad hk1), by rw [hz]⟩
    · refine ⟨14, ct_insert_IA hts hY htab, en_sound Cx ?_⟩
      show en_J (X_L_insert G _) 14 _ _ _
      simp only [j_L_insert_0, j_L_insert_1, j_L_insert_2, j_L_insert_3, j_L_insert_7, j_L_insert_10, j_L_insert_12, j_L_insert_13, j_L_insert_14, j_L_insert_16, j_L_insert_17, j_L_insert_18, j_L_insert_20, j_L_insert_21, j_L_insert_22, j_L_insert_23, en_c2I, en_c2R, en_c2U, en_c2D, Option.some.injEq, exists_eq_left', exists_eq_left, Option.map_some, Option.map_none, not_true_eq_false, false_implies, true_implies, and_true, true_and, reduceCtorEq, not_false_eq_true]
      intro g hg
      obtain ⟨rm', S', hp', rfl⟩ := uni g hg
      obtain ⟨q1, q2, q3⟩ := hxp (x, 0, S', kp, ke, kb) ⟨(wz_enter hp').2, rfl⟩
      have hz : (op_insert S' kp ke kb).2 = 2 := (by rcases q3 with ⟨-, z⟩ | ⟨z, -⟩ | ⟨-, z⟩ <;> first | exact z | exact absurd z (by decide))
      exact ⟨wz_pad hp' q1 hk1 hk2 hk3, q2.tr (ag_pad hk1), by rw [hz]⟩
    · refine ⟨18, ct_insert_NS hts hY htab, en_sound Cx ?_⟩
      show en_J (X_L_insert G _) 18 _ _ _
      simp only [j_L_insert_0, j_L_insert_1, j_L_insert_2, j_L_insert_3, j_L_insert_7, j_L_insert_10, j_L_insert_12, j_L_insert_13, j_L_insert_14, j_L_insert_16, j_L_insert_17, j_L_insert_18, j_L_insert_20, j_L_insert_21, j_L_insert_22, j_L_insert_23, en_c2I, en_c2R, en_c2U, en_c2D, Option.some.injEq, exists_eq_left', exists_eq_left, Option.map_some, Option.map_none, not_true_eq_false, false_implies, true_implies, and_true, true_and, reduceCtorEq, not_false_eq_true]
      intro g hg
      obtain ⟨rm', S', hp', rfl⟩ := uni g hg
      obtain ⟨q1, q2, q3⟩ := hxp (x, 0, S', kp, ke, kb) ⟨(wz_enter hp').2, rfl⟩
      have hz : (op_insert S' kp ke kb).2 = 3 := (by rcases q3 with ⟨-, z⟩ | ⟨-, z⟩ | ⟨z, -⟩ <;> first | exact z | exact absurd z (by decide))
      exact ⟨wz_pad hp' q1 hk1 hk2 hk3, q2.tr (ag_pad hk1), by rw [hz]⟩
def hh_L_box : List (Nat × Nat × Nat × Nat) := [(0, 12, 15, 15)]
theorem ct_box_IA {args : Array Value} {s : State} {c : Code} (hts : ∀ w ∈ en_W, w.before args s = true) (hY : en_Y s) (htab : c.exceptionTable.toList = tableOf hh_L_box) : en_catch RL args s c 9 en_IA 15 :=
  ⟨[], ⟨0, 12, 15, 15⟩, [], en_IA, htab, fun z hz => (by cases hz), by decide, by decide, hts _ lc_IA, va_Nw.use rfl (hY.1 _ (by simp [en_nw])), rfl⟩
def P_L_box (G : en_G) (g : (Nat) × (Nat) × (pb_S) × (Int32) × (UInt64) × (UInt64) × (UInt64) × (UInt64)) (as : List en_V) (σ : en_S) : Prop := (PZ G (g.1) ((g.2.1) + 192) (g.2.2.1) σ ∧ fb (-21) (g.2.2.2.2.1) ∧ fb (-21) (g.2.2.2.2.2.1) ∧ fb (-21) (g.2.2.2.2.2.2.1) ∧ fb (-21) (g.2.2.2.2.2.2.2)) ∧ as = [en_R (some (g.1)), en_I (g.2.2.2.1), en_D (g.2.2.2.2.1), en_D (g.2.2.2.2.2.1), en_D (g.2.2.2.2.2.2.1), en_D (g.2.2.2.2.2.2.2)]
def C_L_box (G : en_G) : en_C := en_gh (P_L_box G) (fun g as σ v σ' => PZ G (g.1) (g.2.1) (op_box (g.2.2.1) (g.2.2.2.1) (g.2.2.2.2.1) (g.2.2.2.2.2.1) (g.2.2.2.2.2.2.1) (g.2.2.2.2.2.2.2)).1 σ' ∧ ag σ σ' pF (pV (g.1)) ∧ v = some (en_I (op_box (g.2.2.1) (g.2.2.2.1) (g.2.2.2.2.1) (g.2.2.2.2.2.1) (g.2.2.2.2.2.2.1) (g.2.2.2.2.2.2.2)).2))
theorem pr_L_box {G : en_G} : ∀ as σ, (C_L_box G).1 as σ → as.length = 6 := fun as σ ⟨g, h1, h2⟩ => by rw [h2]; rfl
theorem cu_L_box {G : en_G} {x : Nat} {rm : Nat} {S : pb_S} {k : Int32} {b1 : UInt64} {b2 : UInt64} {b3 : UInt64} {b4 : UInt64} {σ : en_S} (hp : PZ G x (rm + 192) S σ ∧ fb (-21) b1 ∧ fb (-21) b2 ∧ fb (-21) b3 ∧ fb (-21) b4) : en_Us (C_L_box G) [en_R (some x), en_I k, en_D b1, en_D b2, en_D b3, en_D b4] σ (fun v σ' => PZ G x rm (op_box S k b1 b2 b3 b4).1 σ' ∧ ag σ σ' pF (pV x) ∧ v = some (en_I (op_box S k b1 b2 b3 b4).2)) := ⟨⟨(x, rm, S, k, b1, b2, b3, b4), hp, rfl⟩, fun v σ' q => q (x, rm, S, k, b1, b2, b3, b4) ⟨hp, rfl⟩⟩
def X_L_box (G : en_G) (q : Option en_V → en_S → Prop) : en_X := en_mk G cL_box (fun _ => none) (fun _ => none) (fun _ => none) (fun _ => none) (fun _ => none) 1 false q
theorem d_L_box_0 : decode cL_box 0 = .ok (.aload_n 0, 1) := by decide +kernel
theorem j_L_box_0 {G : en_G} {q : Option en_V → en_S → Prop}  {l1 l2 l3 l4 l5 l6 l7 l8 l9 l10 : en_V} {x0 : Option Nat} {σ : en_S} : en_J (X_L_box G q) 0 [en_R x0, l1, l2, l3, l4, l5, l6, l7, l8, l9, l10] [] σ ↔ en_J (X_L_box G q) 1 [en_R x0, l1, l2, l3, l4, l5, l6, l7, l8, l9, l10] [en_R x0] σ := en_j1 d_L_box_0 rfl rfl
theorem d_L_box_1 : decode cL_box 1 = .ok (.iload_n 1, 1) := by decide +kernel
theorem j_L_box_1 {G : en_G} {q : Option en_V → en_S → Prop}  {l0 l2 l3 l4 l5 l6 l7 l8 l9 l10 : en_V} {a0 : Option Nat} {x1 : Int32} {σ : en_S} : en_J (X_L_box G q) 1 [l0, en_I x1, l2, l3, l4, l5, l6, l7, l8, l9, l10] [en_R a0] σ ↔ en_J (X_L_box G q) 2 [l0, en_I x1, l2, l3, l4, l5, l6, l7, l8, l9, l10] [en_I x1, en_R a0] σ := en_j1 d_L_box_1 rfl rfl
theorem d_L_box_2 : decode cL_box 2 = .ok (.dload_n 2, 1) := by decide +kernel
theorem j_L_box_2 {G : en_G} {q : Option en_V → en_S → Prop}  {l0 l1 l3 l4 l5 l6 l7 l8 l9 l10 : en_V} {a0 : Int32} {a1 : Option Nat} {x2 : UInt64} {σ : en_S} : en_J (X_L_box G q) 2 [l0, l1, en_D x2, l3, l4, l5, l6, l7, l8, l9, l10] [en_I a0, en_R a1] σ ↔ en_J (X_L_box G q) 3 [l0, l1, en_D x2, l3, l4, l5, l6, l7, l8, l9, l10] [en_D x2, en_I a0, en_R a1] σ := en_j1 d_L_box_2 rfl rfl
theorem d_L_box_3 : decode cL_box 3 = .ok (.dload 4, 2) := by decide +kernel
theorem j_L_box_3 {G : en_G} {q : Option en_V → en_S → Prop}  {l0 l1 l2 l3 l5 l6 l7 l8 l9 l10 : en_V} {a0 : UInt64} {a1 : Int32} {a2 : Option Nat} {x4 : UInt64} {σ : en_S} : en_J (X_L_box G q) 3 [l0, l1, l2, l3, en_D x4, l5, l6, l7, l8, l9, l10] [en_D a0, en_I a1, en_R a2] σ ↔ en_J (X_L_box G q) 5 [l0, l1, l2, l3, en_D x4, l5, l6, l7, l8, l9, l10] [en_D x4, en_D a0, en_I a1, en_R a2] σ := en_j1 d_L_box_3 rfl rfl
theorem d_L_box_5 : decode cL_box 5 = .ok (.dload 6, 2) := by decide +kernel
theorem j_L_box_5 {G : en_G} {q : Option en_V → en_S → Prop}  {l0 l1 l2 l3 l4 l5 l7 l8 l9 l10 : en_V} {a0 : UInt64} {a1 : UInt64} {a2 : Int32} {a3 : Option Nat} {x6 : UInt64} {σ : en_S} : en_J (X_L_box G q) 5 [l0, l1, l2, l3, l4, l5, en_D x6, l7, l8, l9, l10] [en_D a0, en_D a1, en_I a2, en_R a3] σ ↔ en_J (X_L_box G q) 7 [l0, l1, l2, l3, l4, l5, en_D x6, l7, l8, l9, l10] [en_D x6, en_D a0, en_D a1, en_I a2, en_R a3] σ := en_j1 d_L_box_5 rfl rfl
theorem d_L_box_7 : decode cL_box 7 = .ok (.dload 8, 2) := by decide +kernel
theorem j_L_box_7 {G : en_G} {q : Option en_V → en_S → Prop}  {l0 l1 l2 l3 l4 l5 l6 l7 l9 l10 : en_V} {a0 : UInt64} {a1 : UInt64} {a2 : UInt64} {a3 : Int32} {a4 : Option Nat} {x8 : UInt64} {σ : en_S} : en_J (X_L_box G q) 7 [l0, l1, l2, l3, l4, l5, l6, l7, en_D x8, l9, l10] [en_D a0, en_D a1, en_D a2, en_I a3, en_R a4] σ ↔ en_J (X_L_box G q) 9 [l0, l1, l2, l3, l4, l5, l6, l7, en_D x8, l9, l10] [en_D x8, en_D a0, en_D a1, en_D a2, en_I a3, en_R a4] σ := en_j1 d_L_box_7 rfl rfl
theorem d_L_box_9 : decode cL_box 9 = .ok (.invokevirtual 23, 3) := by decide +kernel
theorem d_L_box_12 : decode cL_box 12 = .ok (.goto 7, 3) := by decide +kernel
theorem j_L_box_12 {G : en_G} {q : Option en_V → en_S → Prop}  {l0 l1 l2 l3 l4 l5 l6 l7 l8 l9 l10 : en_V}  {σ : en_S} : en_J (X_L_box G q) 12 [l0, l1, l2, l3, l4, l5, l6, l7, l8, l9, l10] [] σ ↔ en_J (X_L_box G q) 19 [l0, l1, l2, l3, l4, l5, l6, l7, l8, l9, l10] [] σ := en_j1 d_L_box_12 rfl ⟨rfl, by decide⟩
theorem d_L_box_15 : decode cL_box 15 = .ok (.astore 10, 2) := by decide +kernel
theorem j_L_box_15 {G : en_G} {q : Option en_V → en_S → Prop}  {l0 l1 l2 l3 l4 l5 l6 l7 l8 l9 l10 : en_V} {a0 : Option Nat} {σ : en_S} : en_J (X_L_box G q) 15 [l0, l1, l2, l3, l4, l5, l6, l7, l8, l9, l10] [en_R a0] σ ↔ en_J (X_L_box G q) 17 [l0, l1, l2, l3, l4, l5, l6, l7, l8, en_c2 l9, en_R a0] [] σ := en_j1 d_L_box_15 rfl ⟨rfl, Nat.le_of_ble_eq_true rfl⟩
theorem d_L_box_17 : decode cL_box 17 = .ok (.iconst 1, 1) := by decide +kernel
theorem j_L_box_17 {G : en_G} {q : Option en_V → en_S → Prop}  {l0 l1 l2 l3 l4 l5 l6 l7 l8 l9 l10 : en_V}  {σ : en_S} : en_J (X_L_box G q) 17 [l0, l1, l2, l3, l4, l5, l6, l7, l8, l9, l10] [] σ ↔ en_J (X_L_box G q) 18 [l0, l1, l2, l3, l4, l5, l6, l7, l8, l9, l10] [en_I 1] σ := ej_iconst d_L_box_17 (by decide +kernel)
theorem d_L_box_18 : decode cL_box 18 = .ok (.ireturn, 1) := by decide +kernel
theorem j_L_box_18 {G : en_G} {q : Option en_V → en_S → Prop}  {l0 l1 l2 l3 l4 l5 l6 l7 l8 l9 l10 : en_V} {a0 : Int32} {σ : en_S} : en_J (X_L_box G q) 18 [l0, l1, l2, l3, l4, l5, l6, l7, l8, l9, l10] [en_I a0] σ ↔ q (some (en_I a0)) σ := en_jr d_L_box_18 rfl ⟨fun h => h.2.2, fun h => ⟨rfl, Or.inl rfl, h⟩⟩
theorem d_L_box_19 : decode cL_box 19 = .ok (.iconst 0, 1) := by decide +kernel
theorem j_L_box_19 {G : en_G} {q : Option en_V → en_S → Prop}  {l0 l1 l2 l3 l4 l5 l6 l7 l8 l9 l10 : en_V}  {σ : en_S} : en_J (X_L_box G q) 19 [l0, l1, l2, l3, l4, l5, l6, l7, l8, l9, l10] [] σ ↔ en_J (X_L_box G q) 20 [l0, l1, l2, l3, l4, l5, l6, l7, l8, l9, l10] [en_I 0] σ := ej_iconst d_L_box_19 (by decide +kernel)
theorem d_L_box_20 : decode cL_box 20 = .ok (.ireturn, 1) := by decide +kernel
theorem j_L_box_20 {G : en_G} {q : Option en_V → en_S → Prop}  {l0 l1 l2 l3 l4 l5 l6 l7 l8 l9 l10 : en_V} {a0 : Int32} {σ : en_S} : en_J (X_L_box G q) 20 [l0, l1, l2, l3, l4, l5, l6, l7, l8, l9, l10] [en_I a0] σ ↔ q (some (en_I a0)) σ := en_jr d_L_box_20 rfl ⟨fun h => h.2.2, fun h => ⟨rfl, Or.inl rfl, h⟩⟩
theorem wl_L_box_23 : Jvm.Cond.methodLink RL 23 yX6_box ∈ en_W := en_inW (List.mem_of_getElem? (i := 616) (by decide +kernel)) (by decide +kernel)
theorem ws_L_box : Jvm.Cond.static yL_box ∈ en_W := en_inW (List.mem_of_getElem? (i := 614) (by decide +kernel)) (by decide +kernel)
theorem wc_L_box : Jvm.Cond.codeWith yL_box cL_box 11 (some .int) hh_L_box ∈ en_W := en_inW (List.mem_of_getElem? (i := 615) (by decide +kernel)) (by decide +kernel)
theorem okw_box {G : en_G} : en_OkW G 7 yL_box cL_box 11 (some .int) hh_L_box (C_L_box G) := by
  refine en_metW (own := RL) (fl := fun _ => none) (nw := fun _ => none) (aw := fun _ => none) (dc := fun _ => none) (rt := 1) (by decide +kernel) (Or.inr (Or.inl ⟨rfl, rfl⟩)) rfl (fun q => en_Lk0) ?_
  rintro as σ ⟨⟨x, rm, S, k, b1, b2, b3, b4⟩, hp0, has⟩
  dsimp only at hp0 has
  subst has
  refine ⟨Nat.le_of_ble_eq_true rfl, ?_⟩
  intro p e R s m args below meth c Qf hW
  obtain ⟨Cx, B, hY, hZ, hst, htab⟩ := hW
  have hts := B.2.2.2.2.1
  have uni : ∀ g, P_L_box G g [en_R (some x), en_I k, en_D b1, en_D b2, en_D b3, en_D b4] σ → ∃ rm' S', (PZ G x (rm' + 192) S' σ ∧ fb (-21) b1 ∧ fb (-21) b2 ∧ fb (-21) b3 ∧ fb (-21) b4) ∧ g = (x, rm', S', k, b1, b2, b3, b4) := by
    rintro ⟨x', rm', S', k', b1', b2', b3', b4'⟩ ⟨hp', has'⟩
    dsimp only at hp' has'
    simp only [List.cons.injEq, en_Rinj, en_Iinj, en_Dinj, Option.some.injEq, and_true] at has'
    obtain ⟨rfl, rfl, rfl, rfl, rfl, rfl⟩ := has'
    exact ⟨rm', S', hp', rfl⟩
  obtain ⟨w1, w2⟩ := (wz_enter hp0.1).1
  refine en_go (pc' := 1) (ls' := [en_R (some x), en_I k, en_D b1, en_U, en_D b2, en_U, en_D b3, en_U, en_D b4, en_U, en_U]) (st' := [en_R (some x)]) (σ' := σ) Cx d_L_box_0 rfl rfl ?_
  refine en_go (pc' := 2) (ls' := [en_R (some x), en_I k, en_D b1, en_U, en_D b2, en_U, en_D b3, en_U, en_D b4, en_U, en_U]) (st' := [en_I k, en_R (some x)]) (σ' := σ) Cx d_L_box_1 rfl rfl ?_
  refine en_go (pc' := 3) (ls' := [en_R (some x), en_I k, en_D b1, en_U, en_D b2, en_U, en_D b3, en_U, en_D b4, en_U, en_U]) (st' := [en_D b1, en_I k, en_R (some x)]) (σ' := σ) Cx d_L_box_2 rfl rfl ?_
  refine en_go (pc' := 5) (ls' := [en_R (some x), en_I k, en_D b1, en_U, en_D b2, en_U, en_D b3, en_U, en_D b4, en_U, en_U]) (st' := [en_D b2, en_D b1, en_I k, en_R (some x)]) (σ' := σ) Cx d_L_box_3 rfl rfl ?_
  refine en_go (pc' := 7) (ls' := [en_R (some x), en_I k, en_D b1, en_U, en_D b2, en_U, en_D b3, en_U, en_D b4, en_U, en_U]) (st' := [en_D b3, en_D b2, en_D b1, en_I k, en_R (some x)]) (σ' := σ) Cx d_L_box_5 rfl rfl ?_
  refine en_go (pc' := 9) (ls' := [en_R (some x), en_I k, en_D b1, en_U, en_D b2, en_U, en_D b3, en_U, en_D b4, en_U, en_U]) (st' := [en_D b4, en_D b3, en_D b2, en_D b1, en_I k, en_R (some x)]) (σ' := σ) Cx d_L_box_7 rfl rfl ?_
  refine en_runX (h' := 6) (xl := en_nx σ + 104) (sl := en_ns σ + 968) (ci := 6) (k := 5) (r := (RX6, TX6, 13)) (b := x) (tl := [en_I k, en_D b1, en_D b2, en_D b3, en_D b4]) (rest := []) (ls := [en_R (some x), en_I k, en_D b1, en_U, en_D b2, en_U, en_D b3, en_U, en_D b4, en_U, en_U]) B hY hZ hst w1 w2 (okx_X6_box (G := wz_G G σ)) (by decide) (by decide) rfl rfl wl_L_box_23 wi_X6_box wx_X6_box wz_6 wc_X6_box ⟨by decide +kernel, by decide +kernel, by decide +kernel⟩ hp0.1.cl rfl d_L_box_9 (Nat.le_of_ble_eq_true rfl) ⟨(x, 0, S, k, b1, b2, b3, b4), ⟨(wz_enter hp0.1).2, hp0.2⟩, rfl⟩ (by omega) (by omega) ?_ ?_
  · intro v σ' hrel
    have hv := (hrel (x, 0, S, k, b1, b2, b3, b4) ⟨⟨(wz_enter hp0.1).2, hp0.2⟩, rfl⟩).2.2.2
    subst hv
    refine en_sound Cx ?_
    show en_J (X_L_box G _) 12 _ _ _
    simp only [Option.toList, List.cons_append, List.nil_append, j_L_box_0, j_L_box_1, j_L_box_2, j_L_box_3, j_L_box_5, j_L_box_7, j_L_box_12, j_L_box_15, j_L_box_17, j_L_box_18, j_L_box_19, j_L_box_20, en_c2I, en_c2R, en_c2U, en_c2D, Option.some.injEq, exists_eq_left', exists_eq_left, Option.map_some, Option.map_none, not_true_eq_false, false_implies, true_implies, and_true, true_and, reduceCtorEq, not_false_eq_true, true_or, or_true]
    intro g hg
    obtain ⟨rm', S', hp', rfl⟩ := uni g hg
    obtain ⟨q1, q2, q3, -⟩ := hrel (x, 0, S', k, b1, b2, b3, b4) ⟨⟨(wz_enter hp'.1).2, hp'.2⟩, rfl⟩
    exact ⟨wz_back hp'.1 q1, q2, by rw [q3]⟩
  · intro E σ' kk n q0 hxp hk1 hk2 hk3
    obtain ⟨-, -, hE⟩ := hxp (x, 0, S, k, b1, b2, b3, b4) ⟨⟨(wz_enter hp0.1).2, hp0.2⟩, rfl⟩
    obtain ⟨-, rfl⟩ := hE
    · refine ⟨15, ct_box_IA hts hY htab, en_sound Cx ?_⟩
      show en_J (X_L_box G _) 15 _ _ _
      simp only [j_L_box_0, j_L_box_1, j_L_box_2, j_L_box_3, j_L_box_5, j_L_box_7, j_L_box_12, j_L_box_15, j_L_box_17, j_L_box_18, j_L_box_19, j_L_box_20, en_c2I, en_c2R, en_c2U, en_c2D, Option.some.injEq, exists_eq_left', exists_eq_left, Option.map_some, Option.map_none, not_true_eq_false, false_implies, true_implies, and_true, true_and, reduceCtorEq, not_false_eq_true]
      intro g hg
      obtain ⟨rm', S', hp', rfl⟩ := uni g hg
      obtain ⟨q1, q2, q3⟩ := hxp (x, 0, S', k, b1, b2, b3, b4) ⟨⟨(wz_enter hp'.1).2, hp'.2⟩, rfl⟩
      have hz : (op_box S' k b1 b2 b3 b4).2 = 1 := q3.1
      exact ⟨wz_pad hp'.1 q1 hk1 hk2 hk3, q2.tr (ag_pad hk1), by rw [hz]⟩
theorem op_db (S : pb_S) (k ty fl : Int32) : (op_dispatch S k ty fl).2.2 = 0 ∨ (op_dispatch S k ty fl).2.2 = 1 := by
  unfold op_dispatch
  cases st_ix (tr_N (sa_T S.1)) k with
  | none => exact Or.inl rfl
  | some n =>
    simp only
    split
    · cases st_ix 8 fl with
      | none => exact Or.inl rfl
      | some f =>
        simp only
        cases ((ds_send 4 (su_D S.1 0 2 120) n ty f).2.getD false) <;> simp [st_b]
    · exact Or.inl rfl
def hh_L_dispatch : List (Nat × Nat × Nat × Nat) := [(0, 19, 22, 17), (0, 19, 26, 15)]
theorem ct_dispatch_NS {args : Array Value} {s : State} {c : Code} (hts : ∀ w ∈ en_W, w.before args s = true) (hY : en_Y s) (htab : c.exceptionTable.toList = tableOf hh_L_dispatch) : en_catch RL args s c 7 en_NS 22 :=
  ⟨[], ⟨0, 19, 22, 17⟩, [⟨0, 19, 26, 15⟩], en_NS, htab, fun z hz => (by cases hz), by decide, by decide, hts _ lc_NS, va_Nw.use rfl (hY.1 _ (by simp [en_nw])), rfl⟩
theorem ct_dispatch_IA {args : Array Value} {s : State} {c : Code} (hts : ∀ w ∈ en_W, w.before args s = true) (hY : en_Y s) (htab : c.exceptionTable.toList = tableOf hh_L_dispatch) : en_catch RL args s c 7 en_IA 26 :=
  ⟨[⟨0, 19, 22, 17⟩], ⟨0, 19, 26, 15⟩, [], en_IA, htab, fun z hz => (by
    simp only [List.mem_cons, List.not_mem_nil, or_false] at hz
    rcases hz with rfl
    · exact Or.inr ⟨by decide, en_NS, hts _ lc_NS, hY.2.2 (en_IA, en_NS) (by simp [en_nc])⟩), by decide, by decide, hts _ lc_IA, va_Nw.use rfl (hY.1 _ (by simp [en_nw])), rfl⟩
def P_L_dispatch (G : en_G) (g : (Nat) × (Nat) × (pb_S) × (Int32) × (Int32) × (Int32) × (Nat)) (as : List en_V) (σ : en_S) : Prop := (PZ G (g.1) ((g.2.1) + 192) (g.2.2.1) σ ∧ sa_D (g.2.2.1).1 0 1 < 2 ^ 20 ∧ en_al σ (g.2.2.2.2.2.2) = some (3, 1) ∧ (g.1) + 44 ≤ (g.2.2.2.2.2.2)) ∧ as = [en_R (some (g.1)), en_I (g.2.2.2.1), en_I (g.2.2.2.2.1), en_I (g.2.2.2.2.2.1), en_R (some (g.2.2.2.2.2.2))]
def C_L_dispatch (G : en_G) : en_C := en_gh (P_L_dispatch G) (fun g as σ v σ' => PZ G (g.1) (g.2.1) (op_dispatch (g.2.2.1) (g.2.2.2.1) (g.2.2.2.2.1) (g.2.2.2.2.2.1)).1 σ' ∧ ag σ σ' pF (fun a => (g.1) + 44 ≤ a ∧ a ≠ (g.2.2.2.2.2.2)) ∧ v = some (en_I (op_dispatch (g.2.2.1) (g.2.2.2.1) (g.2.2.2.2.1) (g.2.2.2.2.2.1)).2.1) ∧ ((op_dispatch (g.2.2.1) (g.2.2.2.1) (g.2.2.2.2.1) (g.2.2.2.2.2.1)).2.1 = 0 → en_aj σ' (g.2.2.2.2.2.2) 0 = if (op_dispatch (g.2.2.1) (g.2.2.2.1) (g.2.2.2.2.1) (g.2.2.2.2.2.1)).2.2 = 0 then 0 else 1))
theorem pr_L_dispatch {G : en_G} : ∀ as σ, (C_L_dispatch G).1 as σ → as.length = 5 := fun as σ ⟨g, h1, h2⟩ => by rw [h2]; rfl
theorem cu_L_dispatch {G : en_G} {x : Nat} {rm : Nat} {S : pb_S} {k : Int32} {ty : Int32} {fl : Int32} {oo : Nat} {σ : en_S} (hp : PZ G x (rm + 192) S σ ∧ sa_D S.1 0 1 < 2 ^ 20 ∧ en_al σ oo = some (3, 1) ∧ x + 44 ≤ oo) : en_Us (C_L_dispatch G) [en_R (some x), en_I k, en_I ty, en_I fl, en_R (some oo)] σ (fun v σ' => PZ G x rm (op_dispatch S k ty fl).1 σ' ∧ ag σ σ' pF (fun a => x + 44 ≤ a ∧ a ≠ oo) ∧ v = some (en_I (op_dispatch S k ty fl).2.1) ∧ ((op_dispatch S k ty fl).2.1 = 0 → en_aj σ' oo 0 = if (op_dispatch S k ty fl).2.2 = 0 then 0 else 1)) := ⟨⟨(x, rm, S, k, ty, fl, oo), hp, rfl⟩, fun v σ' q => q (x, rm, S, k, ty, fl, oo) ⟨hp, rfl⟩⟩
def X_L_dispatch (G : en_G) (q : Option en_V → en_S → Prop) : en_X := en_mk G cL_dispatch (fun _ => none) (fun _ => none) (fun _ => none) (fun _ => none) (fun _ => none) 1 false q
theorem d_L_dispatch_0 : decode cL_dispatch 0 = .ok (.aload 4, 2) := by decide +kernel
theorem j_L_dispatch_0 {G : en_G} {q : Option en_V → en_S → Prop}  {l0 l1 l2 l3 l5 : en_V} {x4 : Option Nat} {σ : en_S} : en_J (X_L_dispatch G q) 0 [l0, l1, l2, l3, en_R x4, l5] [] σ ↔ en_J (X_L_dispatch G q) 2 [l0, l1, l2, l3, en_R x4, l5] [en_R x4] σ := en_j1 d_L_dispatch_0 rfl rfl
theorem d_L_dispatch_2 : decode cL_dispatch 2 = .ok (.iconst 0, 1) := by decide +kernel
theorem j_L_dispatch_2 {G : en_G} {q : Option en_V → en_S → Prop}  {l0 l1 l2 l3 l4 l5 : en_V} {a0 : Option Nat} {σ : en_S} : en_J (X_L_dispatch G q) 2 [l0, l1, l2, l3, l4, l5] [en_R a0] σ ↔ en_J (X_L_dispatch G q) 3 [l0, l1, l2, l3, l4, l5] [en_I 0, en_R a0] σ := ej_iconst d_L_dispatch_2 (by decide +kernel)
theorem d_L_dispatch_3 : decode cL_dispatch 3 = .ok (.aload_n 0, 1) := by decide +kernel
theorem j_L_dispatch_3 {G : en_G} {q : Option en_V → en_S → Prop}  {l1 l2 l3 l4 l5 : en_V} {a0 : Int32} {a1 : Option Nat} {x0 : Option Nat} {σ : en_S} : en_J (X_L_dispatch G q) 3 [en_R x0, l1, l2, l3, l4, l5] [en_I a0, en_R a1] σ ↔ en_J (X_L_dispatch G q) 4 [en_R x0, l1, l2, l3, l4, l5] [en_R x0, en_I a0, en_R a1] σ := en_j1 d_L_dispatch_3 rfl rfl
theorem d_L_dispatch_4 : decode cL_dispatch 4 = .ok (.iload_n 1, 1) := by decide +kernel
theorem j_L_dispatch_4 {G : en_G} {q : Option en_V → en_S → Prop}  {l0 l2 l3 l4 l5 : en_V} {a0 : Option Nat} {a1 : Int32} {a2 : Option Nat} {x1 : Int32} {σ : en_S} : en_J (X_L_dispatch G q) 4 [l0, en_I x1, l2, l3, l4, l5] [en_R a0, en_I a1, en_R a2] σ ↔ en_J (X_L_dispatch G q) 5 [l0, en_I x1, l2, l3, l4, l5] [en_I x1, en_R a0, en_I a1, en_R a2] σ := en_j1 d_L_dispatch_4 rfl rfl
theorem d_L_dispatch_5 : decode cL_dispatch 5 = .ok (.iload_n 2, 1) := by decide +kernel
theorem j_L_dispatch_5 {G : en_G} {q : Option en_V → en_S → Prop}  {l0 l1 l3 l4 l5 : en_V} {a0 : Int32} {a1 : Option Nat} {a2 : Int32} {a3 : Option Nat} {x2 : Int32} {σ : en_S} : en_J (X_L_dispatch G q) 5 [l0, l1, en_I x2, l3, l4, l5] [en_I a0, en_R a1, en_I a2, en_R a3] σ ↔ en_J (X_L_dispatch G q) 6 [l0, l1, en_I x2, l3, l4, l5] [en_I x2, en_I a0, en_R a1, en_I a2, en_R a3] σ := en_j1 d_L_dispatch_5 rfl rfl
theorem d_L_dispatch_6 : decode cL_dispatch 6 = .ok (.iload_n 3, 1) := by decide +kernel
theorem j_L_dispatch_6 {G : en_G} {q : Option en_V → en_S → Prop}  {l0 l1 l2 l4 l5 : en_V} {a0 : Int32} {a1 : Int32} {a2 : Option Nat} {a3 : Int32} {a4 : Option Nat} {x3 : Int32} {σ : en_S} : en_J (X_L_dispatch G q) 6 [l0, l1, l2, en_I x3, l4, l5] [en_I a0, en_I a1, en_R a2, en_I a3, en_R a4] σ ↔ en_J (X_L_dispatch G q) 7 [l0, l1, l2, en_I x3, l4, l5] [en_I x3, en_I a0, en_I a1, en_R a2, en_I a3, en_R a4] σ := en_j1 d_L_dispatch_6 rfl rfl
theorem d_L_dispatch_7 : decode cL_dispatch 7 = .ok (.invokevirtual 19, 3) := by decide +kernel
theorem d_L_dispatch_10 : decode cL_dispatch 10 = .ok (.ifCond .eq 7, 3) := by decide +kernel
theorem j_L_dispatch_10 {G : en_G} {q : Option en_V → en_S → Prop}  {l0 l1 l2 l3 l4 l5 : en_V} {a0 : Int32} {a1 : Int32} {a2 : Option Nat} {σ : en_S} : en_J (X_L_dispatch G q) 10 [l0, l1, l2, l3, l4, l5] [en_I a0, en_I a1, en_R a2] σ ↔ (a0 = 0 → en_J (X_L_dispatch G q) 17 [l0, l1, l2, l3, l4, l5] [en_I a1, en_R a2] σ) ∧ (¬ (a0 = 0) → en_J (X_L_dispatch G q) 13 [l0, l1, l2, l3, l4, l5] [en_I a1, en_R a2] σ) := en_jb d_L_dispatch_10 rfl ⟨rfl, by decide⟩
theorem d_L_dispatch_13 : decode cL_dispatch 13 = .ok (.lconst 1, 1) := by decide +kernel
theorem j_L_dispatch_13 {G : en_G} {q : Option en_V → en_S → Prop}  {l0 l1 l2 l3 l4 l5 : en_V} {a0 : Int32} {a1 : Option Nat} {σ : en_S} : en_J (X_L_dispatch G q) 13 [l0, l1, l2, l3, l4, l5] [en_I a0, en_R a1] σ ↔ en_J (X_L_dispatch G q) 14 [l0, l1, l2, l3, l4, l5] [en_L 1, en_I a0, en_R a1] σ := en_j1 d_L_dispatch_13 rfl rfl
theorem d_L_dispatch_14 : decode cL_dispatch 14 = .ok (.goto 4, 3) := by decide +kernel
theorem j_L_dispatch_14 {G : en_G} {q : Option en_V → en_S → Prop}  {l0 l1 l2 l3 l4 l5 : en_V} {a0 : Int64} {a1 : Int32} {a2 : Option Nat} {σ : en_S} : en_J (X_L_dispatch G q) 14 [l0, l1, l2, l3, l4, l5] [en_L a0, en_I a1, en_R a2] σ ↔ en_J (X_L_dispatch G q) 18 [l0, l1, l2, l3, l4, l5] [en_L a0, en_I a1, en_R a2] σ := en_j1 d_L_dispatch_14 rfl ⟨rfl, by decide⟩
theorem d_L_dispatch_17 : decode cL_dispatch 17 = .ok (.lconst 0, 1) := by decide +kernel
theorem j_L_dispatch_17 {G : en_G} {q : Option en_V → en_S → Prop}  {l0 l1 l2 l3 l4 l5 : en_V} {a0 : Int32} {a1 : Option Nat} {σ : en_S} : en_J (X_L_dispatch G q) 17 [l0, l1, l2, l3, l4, l5] [en_I a0, en_R a1] σ ↔ en_J (X_L_dispatch G q) 18 [l0, l1, l2, l3, l4, l5] [en_L 0, en_I a0, en_R a1] σ := en_j1 d_L_dispatch_17 rfl rfl
theorem d_L_dispatch_18 : decode cL_dispatch 18 = .ok (.lastore, 1) := by decide +kernel
theorem j_L_dispatch_18 {G : en_G} {q : Option en_V → en_S → Prop}  {l0 l1 l2 l3 l4 l5 : en_V} {a0 : Int64} {a1 : Int32} {a2 : Option Nat} {σ : en_S} : en_J (X_L_dispatch G q) 18 [l0, l1, l2, l3, l4, l5] [en_L a0, en_I a1, en_R a2] σ ↔ ∃ a, a2 = some a ∧ (∃ k, en_al σ a = some (3, k) ∧ vp_in a1 k) ∧ en_J (X_L_dispatch G q) 19 [l0, l1, l2, l3, l4, l5] [] (en_saj σ a a1.toNatClampNeg a0) := ej_lastore d_L_dispatch_18
theorem d_L_dispatch_19 : decode cL_dispatch 19 = .ok (.goto 11, 3) := by decide +kernel
theorem j_L_dispatch_19 {G : en_G} {q : Option en_V → en_S → Prop}  {l0 l1 l2 l3 l4 l5 : en_V}  {σ : en_S} : en_J (X_L_dispatch G q) 19 [l0, l1, l2, l3, l4, l5] [] σ ↔ en_J (X_L_dispatch G q) 30 [l0, l1, l2, l3, l4, l5] [] σ := en_j1 d_L_dispatch_19 rfl ⟨rfl, by decide⟩
theorem d_L_dispatch_22 : decode cL_dispatch 22 = .ok (.astore 5, 2) := by decide +kernel
theorem j_L_dispatch_22 {G : en_G} {q : Option en_V → en_S → Prop}  {l0 l1 l2 l3 l4 l5 : en_V} {a0 : Option Nat} {σ : en_S} : en_J (X_L_dispatch G q) 22 [l0, l1, l2, l3, l4, l5] [en_R a0] σ ↔ en_J (X_L_dispatch G q) 24 [l0, l1, l2, l3, en_c2 l4, en_R a0] [] σ := en_j1 d_L_dispatch_22 rfl ⟨rfl, Nat.le_of_ble_eq_true rfl⟩
theorem d_L_dispatch_24 : decode cL_dispatch 24 = .ok (.iconst 1, 1) := by decide +kernel
theorem j_L_dispatch_24 {G : en_G} {q : Option en_V → en_S → Prop}  {l0 l1 l2 l3 l4 l5 : en_V}  {σ : en_S} : en_J (X_L_dispatch G q) 24 [l0, l1, l2, l3, l4, l5] [] σ ↔ en_J (X_L_dispatch G q) 25 [l0, l1, l2, l3, l4, l5] [en_I 1] σ := ej_iconst d_L_dispatch_24 (by decide +kernel)
theorem d_L_dispatch_25 : decode cL_dispatch 25 = .ok (.ireturn, 1) := by decide +kernel
theorem j_L_dispatch_25 {G : en_G} {q : Option en_V → en_S → Prop}  {l0 l1 l2 l3 l4 l5 : en_V} {a0 : Int32} {σ : en_S} : en_J (X_L_dispatch G q) 25 [l0, l1, l2, l3, l4, l5] [en_I a0] σ ↔ q (some (en_I a0)) σ := en_jr d_L_dispatch_25 rfl ⟨fun h => h.2.2, fun h => ⟨rfl, Or.inl rfl, h⟩⟩
theorem d_L_dispatch_26 : decode cL_dispatch 26 = .ok (.astore 5, 2) := by decide +kernel
theorem j_L_dispatch_26 {G : en_G} {q : Option en_V → en_S → Prop}  {l0 l1 l2 l3 l4 l5 : en_V} {a0 : Option Nat} {σ : en_S} : en_J (X_L_dispatch G q) 26 [l0, l1, l2, l3, l4, l5] [en_R a0] σ ↔ en_J (X_L_dispatch G q) 28 [l0, l1, l2, l3, en_c2 l4, en_R a0] [] σ := en_j1 d_L_dispatch_26 rfl ⟨rfl, Nat.le_of_ble_eq_true rfl⟩
theorem d_L_dispatch_28 : decode cL_dispatch 28 = .ok (.iconst 2, 1) := by decide +kernel
theorem j_L_dispatch_28 {G : en_G} {q : Option en_V → en_S → Prop}  {l0 l1 l2 l3 l4 l5 : en_V}  {σ : en_S} : en_J (X_L_dispatch G q) 28 [l0, l1, l2, l3, l4, l5] [] σ ↔ en_J (X_L_dispatch G q) 29 [l0, l1, l2, l3, l4, l5] [en_I 2] σ := ej_iconst d_L_dispatch_28 (by decide +kernel)
theorem d_L_dispatch_29 : decode cL_dispatch 29 = .ok (.ireturn, 1) := by decide +kernel
theorem j_L_dispatch_29 {G : en_G} {q : Option en_V → en_S → Prop}  {l0 l1 l2 l3 l4 l5 : en_V} {a0 : Int32} {σ : en_S} : en_J (X_L_dispatch G q) 29 [l0, l1, l2, l3, l4, l5] [en_I a0] σ ↔ q (some (en_I a0)) σ := en_jr d_L_dispatch_29 rfl ⟨fun h => h.2.2, fun h => ⟨rfl, Or.inl rfl, h⟩⟩
theorem d_L_dispatch_30 : decode cL_dispatch 30 = .ok (.iconst 0, 1) := by decide +kernel
theorem j_L_dispatch_30 {G : en_G} {q : Option en_V → en_S → Prop}  {l0 l1 l2 l3 l4 l5 : en_V}  {σ : en_S} : en_J (X_L_dispatch G q) 30 [l0, l1, l2, l3, l4, l5] [] σ ↔ en_J (X_L_dispatch G q) 31 [l0, l1, l2, l3, l4, l5] [en_I 0] σ := ej_iconst d_L_dispatch_30 (by decide +kernel)
theorem d_L_dispatch_31 : decode cL_dispatch 31 = .ok (.ireturn, 1) := by decide +kernel
theorem j_L_dispatch_31 {G : en_G} {q : Option en_V → en_S → Prop}  {l0 l1 l2 l3 l4 l5 : en_V} {a0 : Int32} {σ : en_S} : en_J (X_L_dispatch G q) 31 [l0, l1, l2, l3, l4, l5] [en_I a0] σ ↔ q (some (en_I a0)) σ := en_jr d_L_dispatch_31 rfl ⟨fun h => h.2.2, fun h => ⟨rfl, Or.inl rfl, h⟩⟩
theorem wl_L_dispatch_19 : Jvm.Cond.methodLink RL 19 yX6_dispatch ∈ en_W := en_inW (List.mem_of_getElem? (i := 608) (by decide +kernel)) (by decide +kernel)
theorem ws_L_dispatch : Jvm.Cond.static yL_dispatch ∈ en_W := en_inW (List.mem_of_getElem? (i := 606) (by decide +kernel)) (by decide +kernel)
theorem wc_L_dispatch : Jvm.Cond.codeWith yL_dispatch cL_dispatch 6 (some .int) hh_L_dispatch ∈ en_W := en_inW (List.mem_of_getElem? (i := 607) (by decide +kernel)) (by decide +kernel)
theorem okw_dispatch {G : en_G} : en_OkW G 31 yL_dispatch cL_dispatch 6 (some .int) hh_L_dispatch (C_L_dispatch G) := by
  refine en_metW (own := RL) (fl := fun _ => none) (nw := fun _ => none) (aw := fun _ => none) (dc := fun _ => none) (rt := 1) (by decide +kernel) (Or.inr (Or.inl ⟨rfl, rfl⟩)) rfl (fun q => en_Lk0) ?_
  rintro as σ ⟨⟨x, rm, S, k, ty, fl, oo⟩, hp0, has⟩
  dsimp only at hp0 has
  subst has
  refine ⟨Nat.le_of_ble_eq_true rfl, ?_⟩
  intro p e R s m args below meth c Qf hW
  obtain ⟨Cx, B, hY, hZ, hst, htab⟩ := hW
  have hts := B.2.2.2.2.1
  have uni : ∀ g, P_L_dispatch G g [en_R (some x), en_I k, en_I ty, en_I fl, en_R (some oo)] σ → ∃ rm' S', (PZ G x (rm' + 192) S' σ ∧ sa_D S'.1 0 1 < 2 ^ 20 ∧ en_al σ oo = some (3, 1) ∧ x + 44 ≤ oo) ∧ g = (x, rm', S', k, ty, fl, oo) := by
    rintro ⟨x', rm', S', k', ty', fl', oo'⟩ ⟨hp', has'⟩
    dsimp only at hp' has'
    simp only [List.cons.injEq, en_Rinj, en_Iinj, en_Dinj, Option.some.injEq, and_true] at has'
    obtain ⟨rfl, rfl, rfl, rfl, rfl⟩ := has'
    exact ⟨rm', S', hp', rfl⟩
  obtain ⟨w1, w2⟩ := (wz_enter hp0.1).1
  refine en_go (pc' := 2) (ls' := [en_R (some x), en_I k, en_I ty, en_I fl, en_R (some oo), en_U]) (st' := [en_R (some oo)]) (σ' := σ) Cx d_L_dispatch_0 rfl rfl ?_
  refine en_go (pc' := 3) (ls' := [en_R (some x), en_I k, en_I ty, en_I fl, en_R (some oo), en_U]) (st' := [en_I 0, en_R (some oo)]) (σ' := σ) Cx d_L_dispatch_2 rfl rfl ?_
  refine en_go (pc' := 4) (ls' := [en_R (some x), en_I k, en_I ty, en_I fl, en_R (some oo), en_U]) (st' := [en_R (some x), en_I 0, en_R (some oo)]) (σ' := σ) Cx d_L_dispatch_3 rfl rfl ?_
  refine en_go (pc' := 5) (ls' := [en_R (some x), en_I k, en_I ty, en_I fl, en_R (some oo), en_U]) (st' := [en_I k, en_R (some x), en_I 0, en_R (some oo)]) (σ' := σ) Cx d_L_dispatch_4 rfl rfl ?_
  refine en_go (pc' := 6) (ls' := [en_R (some x), en_I k, en_I ty, en_I fl, en_R (some oo), en_U]) (st' := [en_I ty, en_I k, en_R (some x), en_I 0, en_R (some oo)]) (σ' := σ) Cx d_L_dispatch_5 rfl rfl ?_
  refine en_go (pc' := 7) (ls' := [en_R (some x), en_I k, en_I ty, en_I fl, en_R (some oo), en_U]) (st' := [en_I fl, en_I ty, en_I k, en_R (some x), en_I 0, en_R (some oo)]) (σ' := σ) Cx d_L_dispatch_6 rfl rfl ?_
  refine en_runX (h' := 30) (xl := en_nx σ + 104) (sl := en_ns σ + 968) (ci := 6) (k := 3) (r := (RX6, TX6, 13)) (b := x) (tl := [en_I k, en_I ty, en_I fl]) (rest := [en_I 0, en_R (some oo)]) (ls := [en_R (some x), en_I k, en_I ty, en_I fl, en_R (some oo), en_U]) B hY hZ hst w1 w2 (okx_X6_dispatch (G := wz_G G σ)) (by decide) (by decide) rfl rfl wl_L_dispatch_19 wi_X6_dispatch wx_X6_dispatch wz_6 wc_X6_dispatch ⟨by decide +kernel, by decide +kernel, by decide +kernel⟩ hp0.1.cl rfl d_L_dispatch_7 (Nat.le_of_ble_eq_true rfl) ⟨(x, 0, S, k, ty, fl), ⟨(wz_enter hp0.1).2, hp0.2.1⟩, rfl⟩ (by omega) (by omega) ?_ ?_
  · intro v σ' hrel
    obtain ⟨k1, k2, k3, hv⟩ := hrel (x, 0, S, k, ty, fl) ⟨⟨(wz_enter hp0.1).2, hp0.2.1⟩, rfl⟩
    obtain ⟨d, hd⟩ : ∃ d : Int32, d = (op_dispatch S k ty fl).2.2 := ⟨_, rfl⟩
    have hd01 := op_db S k ty fl
    rw [← hd] at hv hd01
    subst hv
    have hol := fresh_al hp0.1.fr hp0.2.2.1
    have hal : en_al σ' oo = some (3, 1) := by rw [(k2.2 oo hol).2.1]; exact hp0.2.2.1
    have v0 : vp_in (0 : Int32) 1 := by unfold vp_in; decide
    have fin : ∀ z : Int64, (z = if d = 0 then 0 else 1) → ∀ g, P_L_dispatch G g [en_R (some x), en_I k, en_I ty, en_I fl, en_R (some oo)] σ → (fun (g : (Nat) × (Nat) × (pb_S) × (Int32) × (Int32) × (Int32) × (Nat)) (v : Option en_V) (σ' : en_S) => (PZ G g.1 g.2.1 (op_dispatch g.2.2.1 g.2.2.2.1 g.2.2.2.2.1 g.2.2.2.2.2.1).1 σ' ∧ ag σ σ' pF (fun a => g.1 + 44 ≤ a ∧ a ≠ g.2.2.2.2.2.2)) ∧ v = some (en_I (op_dispatch g.2.2.1 g.2.2.2.1 g.2.2.2.2.1 g.2.2.2.2.2.1).2.1) ∧ ((op_dispatch g.2.2.1 g.2.2.2.1 g.2.2.2.2.1 g.2.2.2.2.2.1).2.1 = 0 → en_aj σ' g.2.2.2.2.2.2 0 = if (op_dispatch g.2.2.1 g.2.2.2.1 g.2.2.2.2.1 g.2.2.2.2.2.1).2.2 = 0 then 0 else 1)) g (some (en_I 0)) (en_saj σ' oo 0 z) := by
      intro z hz g hg
      obtain ⟨rm', S', hp', rfl⟩ := uni g hg
      obtain ⟨q1, q2, q3, q4⟩ := hrel (x, 0, S', k, ty, fl) ⟨⟨(wz_enter hp'.1).2, hp'.2.1⟩, rfl⟩
      have hd' : d = (op_dispatch S' k ty fl).2.2 := by
        simp only [Option.some.injEq, en_Iinj] at q4
        exact q4
      have g9 : ag σ' (en_saj σ' oo 0 z) (fun f _ => f < 700) (fun a => a < x + 44) := ag_saj (by have := hp0.2.2.2; omega)
      refine ⟨⟨(wz_back hp'.1 q1).ag g9 (fun a ha => q1.fr a ha) rfl rfl, (q2.mono (fun f a z => z) (fun a z => z.1)).tr (ag_saj (fun z => z.2 rfl))⟩, by rw [q3], fun _ => ?_⟩
      rw [← hd', ← hz]
      simp [eg_aj_saj]
    refine en_sound Cx ?_
    show en_J (X_L_dispatch G _) 10 _ _ _
    rcases hd01 with rfl | rfl
    · have := fin 0 (by rw [if_pos rfl])
      simp only [Option.toList, List.cons_append, List.nil_append, j_L_dispatch_0, j_L_dispatch_2, j_L_dispatch_3, j_L_dispatch_4, j_L_dispatch_5, j_L_dispatch_6, j_L_dispatch_10, j_L_dispatch_13, j_L_dispatch_14, j_L_dispatch_17, j_L_dispatch_18, j_L_dispatch_19, j_L_dispatch_22, j_L_dispatch_24, j_L_dispatch_25, j_L_dispatch_26, j_L_dispatch_28, j_L_dispatch_29, j_L_dispatch_30, j_L_dispatch_31, en_c2I, en_c2R, en_c2U, en_c2D, Option.some.injEq, exists_eq_left', exists_eq_left, Option.map_some, Option.map_none, not_true_eq_false, false_implies, true_implies, and_true, true_and, reduceCtorEq, not_false_eq_true, true_or, or_true, hal, v0]
      exact ⟨⟨_, rfl, v0⟩, fun g hg => ⟨(this g hg).1.1, (this g hg).1.2, (this g hg).2⟩⟩
    · have := fin 1 (by rw [if_neg (by decide)])
      simp only [Option.toList, List.cons_append, List.nil_append, j_L_dispatch_0, j_L_dispatch_2, j_L_dispatch_3, j_L_dispatch_4, j_L_dispatch_5, j_L_dispatch_6, j_L_dispatch_10, j_L_dispatch_13, j_L_dispatch_14, j_L_dispatch_17, j_L_dispatch_18, j_L_dispatch_19, j_L_dispatch_22, j_L_dispatch_24, j_L_dispatch_25, j_L_dispatch_26, j_L_dispatch_28, j_L_dispatch_29, j_L_dispatch_30, j_L_dispatch_31, en_c2I, en_c2R, en_c2U, en_c2D, Option.some.injEq, exists_eq_left', exists_eq_left, Option.map_some, Option.map_none, not_true_eq_false, false_implies, true_implies, and_true, true_and, reduceCtorEq, not_false_eq_true, true_or, or_true, hal, v0, show ¬ (1 : Int32) = 0 from by decide]
      exact ⟨⟨_, rfl, v0⟩, fun g hg => ⟨(this g hg).1.1, (this g hg).1.2, (this g hg).2⟩⟩
  · intro E σ' kk n q0 hxp hk1 hk2 hk3
    obtain ⟨-, -, hE⟩ := hxp (x, 0, S, k, ty, fl) ⟨⟨(wz_enter hp0.1).2, hp0.2.1⟩, rfl⟩
    rcases hE with ⟨-, rfl⟩ | ⟨-, rfl⟩
    · refine ⟨22, ct_dispatch_NS hts hY htab, en_sound Cx ?_⟩
      show en_J (X_L_dispatch G _) 22 _ _ _
      simp only [j_L_dispatch_0, j_L_dispatch_2, j_L_dispatch_3, j_L_dispatch_4, j_L_dispatch_5, j_L_dispatch_6, j_L_dispatch_10, j_L_dispatch_13, j_L_dispatch_14, j_L_dispatch_17, j_L_dispatch_18, j_L_dispatch_19, j_L_dispatch_22, j_L_dispatch_24, j_L_dispatch_25, j_L_dispatch_26, j_L_dispatch_28, j_L_dispatch_29, j_L_dispatch_30, j_L_dispatch_31, en_c2I, en_c2R, en_c2U, en_c2D, Option.some.injEq, exists_eq_left', exists_eq_left, Option.map_some, Option.map_none, not_true_eq_false, false_implies, true_implies, and_true, true_and, reduceCtorEq, not_false_eq_true]
      intro g hg
      obtain ⟨rm', S', hp', rfl⟩ := uni g hg
      obtain ⟨q1, q2, q3⟩ := hxp (x, 0, S', k, ty, fl) ⟨⟨(wz_enter hp'.1).2, hp'.2.1⟩, rfl⟩
      have hz : (op_dispatch S' k ty fl).2.1 = 1 := (by rcases q3 with ⟨z, -⟩ | ⟨-, z⟩ <;> first | exact z | exact absurd z (by decide))
      exact ⟨wz_pad hp'.1 q1 hk1 hk2 hk3, (q2.mono (fun f a z => z) (fun a z => z.1)).tr (ag_pad hk1), by rw [hz], fun y => absurd (hz.symm.trans y) (by decide)⟩
    · refine ⟨26, ct_dispatch_IA hts hY htab, en_sound Cx ?_⟩
      show en_J (X_L_dispatch G _) 26 _ _ _
      simp only [j_L_dispatch_0, j_L_dispatch_2, j_L_dispatch_3, j_L_dispatch_4, j_L_dispatch_5, j_L_dispatch_6, j_L_dispatch_10, j_L_dispatch_13, j_L_dispatch_14, j_L_dispatch_17, j_L_dispatch_18, j_L_dispatch_19, j_L_dispatch_22, j_L_dispatch_24, j_L_dispatch_25, j_L_dispatch_26, j_L_dispatch_28, j_L_dispatch_29, j_L_dispatch_30, j_L_dispatch_31, en_c2I, en_c2R, en_c2U, en_c2D, Option.some.injEq, exists_eq_left', exists_eq_left, Option.map_some, Option.map_none, not_true_eq_false, false_implies, true_implies, and_true, true_and, reduceCtorEq, not_false_eq_true]
      intro g hg
      obtain ⟨rm', S', hp', rfl⟩ := uni g hg
      obtain ⟨q1, q2, q3⟩ := hxp (x, 0, S', k, ty, fl) ⟨⟨(wz_enter hp'.1).2, hp'.2.1⟩, rfl⟩
      have hz : (op_dispatch S' k ty fl).2.1 = 2 := (by rcases q3 with ⟨-, z⟩ | ⟨z, -⟩ <;> first | exact z | exact absurd z (by decide))
      exact ⟨wz_pad hp'.1 q1 hk1 hk2 hk3, (q2.mono (fun f a z => z) (fun a z => z.1)).tr (ag_pad hk1), by rw [hz], fun y => absurd (hz.symm.trans y) (by decide)⟩
def hh_L_place : List (Nat × Nat × Nat × Nat) := [(0, 9, 12, 17), (0, 9, 16, 15)]
theorem ct_place_NS {args : Array Value} {s : State} {c : Code} (hts : ∀ w ∈ en_W, w.before args s = true) (hY : en_Y s) (htab : c.exceptionTable.toList = tableOf hh_L_place) : en_catch RL args s c 5 en_NS 12 :=
  ⟨[], ⟨0, 9, 12, 17⟩, [⟨0, 9, 16, 15⟩], en_NS, htab, fun z hz => (by cases hz), by decide, by decide, hts _ lc_NS, va_Nw.use rfl (hY.1 _ (by simp [en_nw])), rfl⟩
theorem ct_place_IA {args : Array Value} {s : State} {c : Code} (hts : ∀ w ∈ en_W, w.before args s = true) (hY : en_Y s) (htab : c.exceptionTable.toList = tableOf hh_L_place) : en_catch RL args s c 5 en_IA 16 :=
  ⟨[⟨0, 9, 12, 17⟩], ⟨0, 9, 16, 15⟩, [], en_IA, htab, fun z hz => (by
    simp only [List.mem_cons, List.not_mem_nil, or_false] at hz
    rcases hz with rfl
    · exact Or.inr ⟨by decide, en_NS, hts _ lc_NS, hY.2.2 (en_IA, en_NS) (by simp [en_nc])⟩), by decide, by decide, hts _ lc_IA, va_Nw.use rfl (hY.1 _ (by simp [en_nw])), rfl⟩
def P_L_place (G : en_G) (g : (Nat) × (Nat) × (pb_S) × (Int32) × (Int32) × (Nat)) (as : List en_V) (σ : en_S) : Prop := (PZ G (g.1) ((g.2.1) + 192) (g.2.2.1) σ ∧ en_al σ (g.2.2.2.2.2) = some (2, 1) ∧ (g.1) + 44 ≤ (g.2.2.2.2.2)) ∧ as = [en_R (some (g.1)), en_I (g.2.2.2.1), en_I (g.2.2.2.2.1), en_R (some (g.2.2.2.2.2))]
def C_L_place (G : en_G) : en_C := en_gh (P_L_place G) (fun g as σ v σ' => PZ G (g.1) (g.2.1) (g.2.2.1) σ' ∧ ag σ σ' pF (fun a => (g.1) + 44 ≤ a ∧ a ≠ (g.2.2.2.2.2)) ∧ v = some (en_I (op_place (g.2.2.1) (g.2.2.2.1) (g.2.2.2.2.1)).1) ∧ ((op_place (g.2.2.1) (g.2.2.2.1) (g.2.2.2.2.1)).1 = 0 → en_ad σ' (g.2.2.2.2.2) 0 = (op_place (g.2.2.1) (g.2.2.2.1) (g.2.2.2.2.1)).2))
theorem pr_L_place {G : en_G} : ∀ as σ, (C_L_place G).1 as σ → as.length = 4 := fun as σ ⟨g, h1, h2⟩ => by rw [h2]; rfl
theorem cu_L_place {G : en_G} {x : Nat} {rm : Nat} {S : pb_S} {k : Int32} {u : Int32} {oo : Nat} {σ : en_S} (hp : PZ G x (rm + 192) S σ ∧ en_al σ oo = some (2, 1) ∧ x + 44 ≤ oo) : en_Us (C_L_place G) [en_R (some x), en_I k, en_I u, en_R (some oo)] σ (fun v σ' => PZ G x rm S σ' ∧ ag σ σ' pF (fun a => x + 44 ≤ a ∧ a ≠ oo) ∧ v = some (en_I (op_place S k u).1) ∧ ((op_place S k u).1 = 0 → en_ad σ' oo 0 = (op_place S k u).2)) := ⟨⟨(x, rm, S, k, u, oo), hp, rfl⟩, fun v σ' q => q (x, rm, S, k, u, oo) ⟨hp, rfl⟩⟩
def X_L_place (G : en_G) (q : Option en_V → en_S → Prop) : en_X := en_mk G cL_place (fun _ => none) (fun _ => none) (fun _ => none) (fun _ => none) (fun _ => none) 1 false q
theorem d_L_place_0 : decode cL_place 0 = .ok (.aload_n 3, 1) := by decide +kernel
theorem j_L_place_0 {G : en_G} {q : Option en_V → en_S → Prop}  {l0 l1 l2 l4 : en_V} {x3 : Option Nat} {σ : en_S} : en_J (X_L_place G q) 0 [l0, l1, l2, en_R x3, l4] [] σ ↔ en_J (X_L_place G q) 1 [l0, l1, l2, en_R x3, l4] [en_R x3] σ := en_j1 d_L_place_0 rfl rfl
theorem d_L_place_1 : decode cL_place 1 = .ok (.iconst 0, 1) := by decide +kernel
theorem j_L_place_1 {G : en_G} {q : Option en_V → en_S → Prop}  {l0 l1 l2 l3 l4 : en_V} {a0 : Option Nat} {σ : en_S} : en_J (X_L_place G q) 1 [l0, l1, l2, l3, l4] [en_R a0] σ ↔ en_J (X_L_place G q) 2 [l0, l1, l2, l3, l4] [en_I 0, en_R a0] σ := ej_iconst d_L_place_1 (by decide +kernel)
theorem d_L_place_2 : decode cL_place 2 = .ok (.aload_n 0, 1) := by decide +kernel
theorem j_L_place_2 {G : en_G} {q : Option en_V → en_S → Prop}  {l1 l2 l3 l4 : en_V} {a0 : Int32} {a1 : Option Nat} {x0 : Option Nat} {σ : en_S} : en_J (X_L_place G q) 2 [en_R x0, l1, l2, l3, l4] [en_I a0, en_R a1] σ ↔ en_J (X_L_place G q) 3 [en_R x0, l1, l2, l3, l4] [en_R x0, en_I a0, en_R a1] σ := en_j1 d_L_place_2 rfl rfl
theorem d_L_place_3 : decode cL_place 3 = .ok (.iload_n 1, 1) := by decide +kernel
theorem j_L_place_3 {G : en_G} {q : Option en_V → en_S → Prop}  {l0 l2 l3 l4 : en_V} {a0 : Option Nat} {a1 : Int32} {a2 : Option Nat} {x1 : Int32} {σ : en_S} : en_J (X_L_place G q) 3 [l0, en_I x1, l2, l3, l4] [en_R a0, en_I a1, en_R a2] σ ↔ en_J (X_L_place G q) 4 [l0, en_I x1, l2, l3, l4] [en_I x1, en_R a0, en_I a1, en_R a2] σ := en_j1 d_L_place_3 rfl rfl
theorem d_L_place_4 : decode cL_place 4 = .ok (.iload_n 2, 1) := by decide +kernel
theorem j_L_place_4 {G : en_G} {q : Option en_V → en_S → Prop}  {l0 l1 l3 l4 : en_V} {a0 : Int32} {a1 : Option Nat} {a2 : Int32} {a3 : Option Nat} {x2 : Int32} {σ : en_S} : en_J (X_L_place G q) 4 [l0, l1, en_I x2, l3, l4] [en_I a0, en_R a1, en_I a2, en_R a3] σ ↔ en_J (X_L_place G q) 5 [l0, l1, en_I x2, l3, l4] [en_I x2, en_I a0, en_R a1, en_I a2, en_R a3] σ := en_j1 d_L_place_4 rfl rfl
theorem d_L_place_5 : decode cL_place 5 = .ok (.invokevirtual 27, 3) := by decide +kernel
theorem d_L_place_8 : decode cL_place 8 = .ok (.dastore, 1) := by decide +kernel
theorem j_L_place_8 {G : en_G} {q : Option en_V → en_S → Prop}  {l0 l1 l2 l3 l4 : en_V} {a0 : UInt64} {a1 : Int32} {a2 : Option Nat} {σ : en_S} : en_J (X_L_place G q) 8 [l0, l1, l2, l3, l4] [en_D a0, en_I a1, en_R a2] σ ↔ ∃ a, a2 = some a ∧ (∃ k, en_al σ a = some (2, k) ∧ vp_in a1 k) ∧ en_J (X_L_place G q) 9 [l0, l1, l2, l3, l4] [] (en_sad σ a a1.toNatClampNeg a0) := ej_dastore d_L_place_8
theorem d_L_place_9 : decode cL_place 9 = .ok (.goto 11, 3) := by decide +kernel
theorem j_L_place_9 {G : en_G} {q : Option en_V → en_S → Prop}  {l0 l1 l2 l3 l4 : en_V}  {σ : en_S} : en_J (X_L_place G q) 9 [l0, l1, l2, l3, l4] [] σ ↔ en_J (X_L_place G q) 20 [l0, l1, l2, l3, l4] [] σ := en_j1 d_L_place_9 rfl ⟨rfl, by decide⟩
theorem d_L_place_12 : decode cL_place 12 = .ok (.astore 4, 2) := by decide +kernel
theorem j_L_place_12 {G : en_G} {q : Option en_V → en_S → Prop}  {l0 l1 l2 l3 l4 : en_V} {a0 : Option Nat} {σ : en_S} : en_J (X_L_place G q) 12 [l0, l1, l2, l3, l4] [en_R a0] σ ↔ en_J (X_L_place G q) 14 [l0, l1, l2, en_c2 l3, en_R a0] [] σ := en_j1 d_L_place_12 rfl ⟨rfl, Nat.le_of_ble_eq_true rfl⟩
theorem d_L_place_14 : decode cL_place 14 = .ok (.iconst 1, 1) := by decide +kernel
theorem j_L_place_14 {G : en_G} {q : Option en_V → en_S → Prop}  {l0 l1 l2 l3 l4 : en_V}  {σ : en_S} : en_J (X_L_place G q) 14 [l0, l1, l2, l3, l4] [] σ ↔ en_J (X_L_place G q) 15 [l0, l1, l2, l3, l4] [en_I 1] σ := ej_iconst d_L_place_14 (by decide +kernel)
theorem d_L_place_15 : decode cL_place 15 = .ok (.ireturn, 1) := by decide +kernel
theorem j_L_place_15 {G : en_G} {q : Option en_V → en_S → Prop}  {l0 l1 l2 l3 l4 : en_V} {a0 : Int32} {σ : en_S} : en_J (X_L_place G q) 15 [l0, l1, l2, l3, l4] [en_I a0] σ ↔ q (some (en_I a0)) σ := en_jr d_L_place_15 rfl ⟨fun h => h.2.2, fun h => ⟨rfl, Or.inl rfl, h⟩⟩
theorem d_L_place_16 : decode cL_place 16 = .ok (.astore 4, 2) := by decide +kernel
theorem j_L_place_16 {G : en_G} {q : Option en_V → en_S → Prop}  {l0 l1 l2 l3 l4 : en_V} {a0 : Option Nat} {σ : en_S} : en_J (X_L_place G q) 16 [l0, l1, l2, l3, l4] [en_R a0] σ ↔ en_J (X_L_place G q) 18 [l0, l1, l2, en_c2 l3, en_R a0] [] σ := en_j1 d_L_place_16 rfl ⟨rfl, Nat.le_of_ble_eq_true rfl⟩
theorem d_L_place_18 : decode cL_place 18 = .ok (.iconst 2, 1) := by decide +kernel
theorem j_L_place_18 {G : en_G} {q : Option en_V → en_S → Prop}  {l0 l1 l2 l3 l4 : en_V}  {σ : en_S} : en_J (X_L_place G q) 18 [l0, l1, l2, l3, l4] [] σ ↔ en_J (X_L_place G q) 19 [l0, l1, l2, l3, l4] [en_I 2] σ := ej_iconst d_L_place_18 (by decide +kernel)
theorem d_L_place_19 : decode cL_place 19 = .ok (.ireturn, 1) := by decide +kernel
theorem j_L_place_19 {G : en_G} {q : Option en_V → en_S → Prop}  {l0 l1 l2 l3 l4 : en_V} {a0 : Int32} {σ : en_S} : en_J (X_L_place G q) 19 [l0, l1, l2, l3, l4] [en_I a0] σ ↔ q (some (en_I a0)) σ := en_jr d_L_place_19 rfl ⟨fun h => h.2.2, fun h => ⟨rfl, Or.inl rfl, h⟩⟩
theorem d_L_place_20 : decode cL_place 20 = .ok (.iconst 0, 1) := by decide +kernel
theorem j_L_place_20 {G : en_G} {q : Option en_V → en_S → Prop}  {l0 l1 l2 l3 l4 : en_V}  {σ : en_S} : en_J (X_L_place G q) 20 [l0, l1, l2, l3, l4] [] σ ↔ en_J (X_L_place G q) 21 [l0, l1, l2, l3, l4] [en_I 0] σ := ej_iconst d_L_place_20 (by decide +kernel)
theorem d_L_place_21 : decode cL_place 21 = .ok (.ireturn, 1) := by decide +kernel
theorem j_L_place_21 {G : en_G} {q : Option en_V → en_S → Prop}  {l0 l1 l2 l3 l4 : en_V} {a0 : Int32} {σ : en_S} : en_J (X_L_place G q) 21 [l0, l1, l2, l3, l4] [en_I a0] σ ↔ q (some (en_I a0)) σ := en_jr d_L_place_21 rfl ⟨fun h => h.2.2, fun h => ⟨rfl, Or.inl rfl, h⟩⟩
theorem wl_L_place_27 : Jvm.Cond.methodLink RL 27 yX6_place ∈ en_W := en_inW (List.mem_of_getElem? (i := 682) (by decide +kernel)) (by decide +kernel)
theorem ws_L_place : Jvm.Cond.static yL_place ∈ en_W := en_inW (List.mem_of_getElem? (i := 680) (by decide +kernel)) (by decide +kernel)
theorem wc_L_place : Jvm.Cond.codeWith yL_place cL_place 5 (some .int) hh_L_place ∈ en_W := en_inW (List.mem_of_getElem? (i := 681) (by decide +kernel)) (by decide +kernel)
theorem okw_place {G : en_G} : en_OkW G 7 yL_place cL_place 5 (some .int) hh_L_place (C_L_place G) := by
  refine en_metW (own := RL) (fl := fun _ => none) (nw := fun _ => none) (aw := fun _ => none) (dc := fun _ => none) (rt := 1) (by decide +kernel) (Or.inr (Or.inl ⟨rfl, rfl⟩)) rfl (fun q => en_Lk0) ?_
  rintro as σ ⟨⟨x, rm, S, k, u, oo⟩, hp0, has⟩
  dsimp only at hp0 has
  subst has
  refine ⟨Nat.le_of_ble_eq_true rfl, ?_⟩
  intro p e R s m args below meth c Qf hW
  obtain ⟨Cx, B, hY, hZ, hst, htab⟩ := hW
  have hts := B.2.2.2.2.1
  have uni : ∀ g, P_L_place G g [en_R (some x), en_I k, en_I u, en_R (some oo)] σ → ∃ rm' S', (PZ G x (rm' + 192) S' σ ∧ en_al σ oo = some (2, 1) ∧ x + 44 ≤ oo) ∧ g = (x, rm', S', k, u, oo) := by
    rintro ⟨x', rm', S', k', u', oo'⟩ ⟨hp', has'⟩
    dsimp only at hp' has'
    simp only [List.cons.injEq, en_Rinj, en_Iinj, en_Dinj, Option.some.injEq, and_true] at has'
    obtain ⟨rfl, rfl, rfl, rfl⟩ := has'
    exact ⟨rm', S', hp', rfl⟩
  obtain ⟨w1, w2⟩ := (wz_enter hp0.1).1
  refine en_go (pc' := 1) (ls' := [en_R (some x), en_I k, en_I u, en_R (some oo), en_U]) (st' := [en_R (some oo)]) (σ' := σ) Cx d_L_place_0 rfl rfl ?_
  refine en_go (pc' := 2) (ls' := [en_R (some x), en_I k, en_I u, en_R (some oo), en_U]) (st' := [en_I 0, en_R (some oo)]) (σ' := σ) Cx d_L_place_1 rfl rfl ?_
  refine en_go (pc' := 3) (ls' := [en_R (some x), en_I k, en_I u, en_R (some oo), en_U]) (st' := [en_R (some x), en_I 0, en_R (some oo)]) (σ' := σ) Cx d_L_place_2 rfl rfl ?_
  refine en_go (pc' := 4) (ls' := [en_R (some x), en_I k, en_I u, en_R (some oo), en_U]) (st' := [en_I k, en_R (some x), en_I 0, en_R (some oo)]) (σ' := σ) Cx d_L_place_3 rfl rfl ?_
  refine en_go (pc' := 5) (ls' := [en_R (some x), en_I k, en_I u, en_R (some oo), en_U]) (st' := [en_I u, en_I k, en_R (some x), en_I 0, en_R (some oo)]) (σ' := σ) Cx d_L_place_4 rfl rfl ?_
  refine en_runX (h' := 6) (xl := en_nx σ + 104) (sl := en_ns σ + 968) (ci := 6) (k := 2) (r := (RX6, TX6, 13)) (b := x) (tl := [en_I k, en_I u]) (rest := [en_I 0, en_R (some oo)]) (ls := [en_R (some x), en_I k, en_I u, en_R (some oo), en_U]) B hY hZ hst w1 w2 (okx_X6_place (G := wz_G G σ)) (by decide) (by decide) rfl rfl wl_L_place_27 wi_X6_place wx_X6_place wz_6 wc_X6_place ⟨by decide +kernel, by decide +kernel, by decide +kernel⟩ hp0.1.cl rfl d_L_place_5 (Nat.le_of_ble_eq_true rfl) ⟨(x, 0, S, k, u), (wz_enter hp0.1).2, rfl⟩ (by omega) (by omega) ?_ ?_
  · intro v σ' hrel
    obtain ⟨k1, k2, k3, hv⟩ := hrel (x, 0, S, k, u) ⟨(wz_enter hp0.1).2, rfl⟩
    obtain ⟨d, hd⟩ : ∃ d : UInt64, d = (op_place S k u).2 := ⟨_, rfl⟩
    rw [← hd] at hv
    subst hv
    have hol := fresh_al hp0.1.fr hp0.2.1
    have hal : en_al σ' oo = some (2, 1) := by rw [(k2.2 oo hol).2.1]; exact hp0.2.1
    have v0 : vp_in (0 : Int32) 1 := by unfold vp_in; decide
    refine en_sound Cx ?_
    show en_J (X_L_place G _) 8 _ _ _
    simp only [Option.toList, List.cons_append, List.nil_append, j_L_place_0, j_L_place_1, j_L_place_2, j_L_place_3, j_L_place_4, j_L_place_8, j_L_place_9, j_L_place_12, j_L_place_14, j_L_place_15, j_L_place_16, j_L_place_18, j_L_place_19, j_L_place_20, j_L_place_21, en_c2I, en_c2R, en_c2U, en_c2D, Option.some.injEq, exists_eq_left', exists_eq_left, Option.map_some, Option.map_none, not_true_eq_false, false_implies, true_implies, and_true, true_and, reduceCtorEq, not_false_eq_true, true_or, or_true, hal, v0]
    refine ⟨⟨_, rfl, v0⟩, fun g hg => ?_⟩
    obtain ⟨rm', S', hp', rfl⟩ := uni g hg
    obtain ⟨q1, q2, q3, q4⟩ := hrel (x, 0, S', k, u) ⟨(wz_enter hp'.1).2, rfl⟩
    have hd' : d = (op_place S' k u).2 := by
      simp only [Option.some.injEq, en_Dinj] at q4
      exact q4
    have g9 : ag σ' (en_sad σ' oo 0 d) (fun f _ => f < 700) (fun a => a < x + 44) := ag_sad (by have := hp0.2.2; omega)
    refine ⟨(wz_back hp'.1 q1).ag g9 (fun a ha => q1.fr a ha) rfl rfl, (q2.mono (fun f a z => z) (fun a z => z.1)).tr (ag_sad (fun z => z.2 rfl)), by rw [q3], fun _ => ?_⟩
    show en_ad (en_sad σ' oo 0 d) oo 0 = (op_place S' k u).2
    rw [← hd']
    simp [eg_ad_sad]
  · intro E σ' kk n q0 hxp hk1 hk2 hk3
    obtain ⟨-, -, hE⟩ := hxp (x, 0, S, k, u) ⟨(wz_enter hp0.1).2, rfl⟩
    rcases hE with ⟨-, rfl⟩ | ⟨-, rfl⟩
    · refine ⟨12, ct_place_NS hts hY htab, en_sound Cx ?_⟩
      show en_J (X_L_place G _) 12 _ _ _
      simp only [j_L_place_0, j_L_place_1, j_L_place_2, j_L_place_3, j_L_place_4, j_L_place_8, j_L_place_9, j_L_place_12, j_L_place_14, j_L_place_15, j_L_place_16, j_L_place_18, j_L_place_19, j_L_place_20, j_L_place_21, en_c2I, en_c2R, en_c2U, en_c2D, Option.some.injEq, exists_eq_left', exists_eq_left, Option.map_some, Option.map_none, not_true_eq_false, false_implies, true_implies, and_true, true_and, reduceCtorEq, not_false_eq_true]
      intro g hg
      obtain ⟨rm', S', hp', rfl⟩ := uni g hg
      obtain ⟨q1, q2, q3⟩ := hxp (x, 0, S', k, u) ⟨(wz_enter hp'.1).2, rfl⟩
      have hz : (op_place S' k u).1 = 1 := (by rcases q3 with ⟨z, -⟩ | ⟨-, z⟩ <;> first | exact z | exact absurd z (by decide))
      exact ⟨wz_pad hp'.1 q1 hk1 hk2 hk3, (q2.mono (fun f a z => z) (fun a z => z.1)).tr (ag_pad hk1), by rw [hz], fun y => absurd (hz.symm.trans y) (by decide)⟩
    · refine ⟨16, ct_place_IA hts hY htab, en_sound Cx ?_⟩
      show en_J (X_L_place G _) 16 _ _ _
      simp only [j_L_place_0, j_L_place_1, j_L_place_2, j_L_place_3, j_L_place_4, j_L_place_8, j_L_place_9, j_L_place_12, j_L_place_14, j_L_place_15, j_L_place_16, j_L_place_18, j_L_place_19, j_L_place_20, j_L_place_21, en_c2I, en_c2R, en_c2U, en_c2D, Option.some.injEq, exists_eq_left', exists_eq_left, Option.map_some, Option.map_none, not_true_eq_false, false_implies, true_implies, and_true, true_and, reduceCtorEq, not_false_eq_true]
      intro g hg
      obtain ⟨rm', S', hp', rfl⟩ := uni g hg
      obtain ⟨q1, q2, q3⟩ := hxp (x, 0, S', k, u) ⟨(wz_enter hp'.1).2, rfl⟩
      have hz : (op_place S' k u).1 = 2 := (by rcases q3 with ⟨-, z⟩ | ⟨z, -⟩ <;> first | exact z | exact absurd z (by decide))
      exact ⟨wz_pad hp'.1 q1 hk1 hk2 hk3, (q2.mono (fun f a z => z) (fun a z => z.1)).tr (ag_pad hk1), by rw [hz], fun y => absurd (hz.symm.trans y) (by decide)⟩
