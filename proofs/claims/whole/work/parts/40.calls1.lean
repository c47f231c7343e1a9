/-! THE COption.map_some, Option.map_none, not_true_eq_false, false_implies, true_implies, and_true, true_and, reduceCtorEq, not_false_eq_trueS -/
theorem PZ.cl {G : en_G} {x rm : Nat} {S : pb_S} {σ : en_S} (h : PZ G x rm S σ) : en_cl σ x = some 6 := by
  obtain ⟨na, la, ba, h⟩ := h
  exact h.1.1.1.1
def op_make (S : pb_S) (kd nm : Int32) : pb_S × Int32 := if 0 ≤ kd ∧ kd ≤ 2 ∧ 0 ≤ nm ∧ nm < 4 ∧ tr_N (sa_T S.1) < 24 then ((st_mk S.1 kd nm none, S.2), nI (tr_N (sa_T S.1))) else (S, -1)
def op_attach (S : pb_S) (k : Int32) : pb_S × Int32 := match st_ix (tr_N (sa_T S.1)) k with
  | none => (S, -1)
  | some h => if tr_kd (sa_T S.1) h = 0 ∧ tr_sh (sa_T S.1) h = none ∧ tr_N (sa_T S.1) < 24 then ((st_mk S.1 4 (-1) (some h), S.2), nI (tr_N (sa_T S.1))) else (S, -1)
def op_remove (S : pb_S) (k : Int32) : pb_S × Int32 := ((ds_out S.1 k, S.2), st_b (((st_ix (tr_N (sa_T S.1)) k).map (fun n => (tr_pa (sa_T S.1) n).isSome)).getD false))
def op_command (S : pb_S) (s c n : Int32) : pb_S × Int32 := match st_ix 8 s, st_ix 9 c with
  | some s, some c => if sa_D S.1 4 s < 5 then ((su_D (su_I (su_D S.1 5 (5 * s + sa_D S.1 4 s) c) 1 (5 * s + sa_D S.1 4 s) n) 4 s (sa_D S.1 4 s + 1), S.2), 1) else (S, 0)
  | _, _ => (S, 0)
def op_clear (S : pb_S) (s : Int32) : pb_S × Int32 := match st_ix 8 s with
  | none => (S, 0)
  | some s => ((su_D S.1 4 s 0, S.2), 1)
def op_listen (S : pb_S) (n t o s : Int32) : pb_S × Int32 := match st_ix (tr_N (sa_T S.1)) n, st_ix 8 s, st_ix 8 o with
  | some n, some s, some o => if 0 ≤ t ∧ t < 8 then (((ds_add S.1 n t o s).1, S.2), (ds_add S.1 n t o s).2) else (S, -1)
  | _, _, _ => (S, -1)
def op_unlisten (S : pb_S) (k : Int32) : pb_S × Int32 := ((ds_rem S.1 k, S.2), st_b (((st_ix (sa_D S.1 0 0) k).map (fun l => !sa_K S.1 1 l)).getD false))
def op_zok (sc : UInt64) : Prop := ¬ Op.cmpValue (FP.dcmp sc 4593671619917905920) .l < 0 ∧ ¬ 0 < Op.cmpValue (FP.dcmp sc 4616189618054758400) .g
def op_zoom (S : pb_S) (k : Int32) (sc : UInt64) (ly : Int32) : pb_S × Int32 := match st_ix (tr_N (sa_T S.1)) k with
  | none => (S, 0)
  | some n => match sa_B S.1 n with
    | none => (S, 0)
    | some b => if ¬ Op.cmpValue (FP.dcmp sc 4593671619917905920) .l < 0 ∧ ¬ 0 < Op.cmpValue (FP.dcmp sc 4616189618054758400) .g then ((su_B S.1 n (some (b.1, b.2.1, b.2.2.1, b.2.2.2.1, sc, ly)), S.2), 1) else (S, 0)
def op_nodeV (S : pb_S) (n w : Nat) : Int32 := match w with
  | 0 => tr_kd (sa_T S.1) n
  | 1 => st_num (tr_pa (sa_T S.1) n)
  | 2 => st_num (tr_as (sa_T S.1) n)
  | 3 => st_num (tr_sh (sa_T S.1) n)
  | 4 => st_num (tr_ho (sa_T S.1) n)
  | 5 => nI (tr_ch (sa_T S.1) n).length
  | 6 => st_b (sa_K S.1 0 n)
  | _ => nI (tr_root (sa_T S.1) n)
def op_node (S : pb_S) (k w : Int32) : Int32 := match st_ix (tr_N (sa_T S.1)) k, st_ix 8 w with
  | some n, some w => op_nodeV S n w
  | _, _ => -1
def op_child (S : pb_S) (n k : Int32) : Int32 := match st_ix (tr_N (sa_T S.1)) n with
  | none => -1
  | some n => st_num (if 0 ≤ k.toInt then (tr_ch (sa_T S.1) n)[k.toInt.toNat]? else none)
def op_call (S : pb_S) (k w : Int32) : Int32 := match st_ix 32 k, st_ix 5 w with
  | some k, some w => if k < sa_D S.1 0 1 then sa_I S.1 2 ((sa_D S.1 0 1 - 1 - k) % 32 * 5 + w) else -1
  | _, _ => -1
def op_look (S : pb_S) (w : Int32) : Int32 := match st_ix 6 w with
  | none => -1
  | some 0 => nI (tr_N (sa_T S.1))
  | some 1 => nI (sa_D S.1 0 0)
  | some 2 => nI (sa_D S.1 0 1)
  | some 3 => sa_I S.1 3 0
  | some 4 => st_num S.2.1
  | some _ => st_num S.2.2.1
theorem cx_scr {G : en_G} {x : Nat} {na la ba : Nat → Nat} {rm : Nat} {A A' : st_A} {σ σ' : en_S} (hC : CX G x na la ba rm A σ) (hw : st_wf A') (g : ag σ σ' (fun f _ => f ≠ 502) (fun a => ¬ (x + 9 ≤ a ∧ a < x + 33))) (s : sz σ σ') (hT : sa_T A' = sa_T A) (hB : sa_B A' = sa_B A) (hK : sa_K A' = sa_K A) (hD : ∀ f, f ≤ 3 → sa_D A' f = sa_D A f) (hI : ∀ f, f ≠ 1 → sa_I A' f = sa_I A f) (hs : cd_scr x A' σ') : CX G x na la ba rm A' σ' := by
  obtain ⟨c, t, nd, bx, l, sc, lo, ob, w, r⟩ := hC
  have hf := c.2.2.2.2.2.2
  have D0 := hD 0 (by decide)
  have D1 := hD 1 (by decide)
  have D2 := hD 2 (by decide)
  have D3 := hD 3 (by decide)
  refine ⟨c.ag g (s.fr hf) (fun f hq a => by show f ≠ 502; omega) ⟨by omega, by omega⟩, ?_, ?_, ?_, ?_, hs, ?_, ?_, hw, ?_⟩
  · rw [hT]; exact t.ag g hf (fun q h1 h2 m hm => by show q ≠ 502; omega)
  · unfold cd_node; rw [hT, hB, hK]; exact nd.ag g c t (fun m hm => ⟨by show 410 ≠ 502; decide, by show 411 ≠ 502; decide⟩) (by omega)
  · unfold cd_box; rw [hT, hB]; exact bx.ag g hf (fun q h1 m hm hb => by show q ≠ 502; omega)
  · unfold cd_lis; rw [hK, D0, D1, D2, D3, hI 0 (by decide)]; exact l.ag g c (fun q h1 h2 k hk => by show q ≠ 502; omega) (by omega)
  · unfold cd_log; rw [D0, hI 2 (by decide)]; exact lo.ag g c (fun a => by show 101 ≠ 502; decide) (by omega)
  · unfold cd_obj; rw [hT, D0, hI 3 (by decide)]; exact ob.ag g c ⟨by decide, by decide, by decide, by decide⟩
  · unfold cd_room at r ⊢; rw [D0, s.1, s.2.1]; exact r
def P_X6_addNode (G : en_G)  (g : (Nat) × (Nat → Nat) × (Nat → Nat) × (Nat → Nat) × (Nat) × (st_A) × (Int32) × (Int32) × (Option Nat)) (as : List en_V) (σ : en_S) : Prop := (CX G (g.1) (g.2.1) (g.2.2.1) (g.2.2.2.1) ((g.2.2.2.2.1) + 1) (g.2.2.2.2.2.1) σ ∧ (∀ b, (g.2.2.2.2.2.2.2.2) = some b → b < tr_N (sa_T (g.2.2.2.2.2.1)))) ∧ as = [en_R (some (g.1)), en_I (g.2.2.2.2.2.2.1), en_I (g.2.2.2.2.2.2.2.1), en_R ((g.2.2.2.2.2.2.2.2).map (g.2.1))]
def C_X6_addNode (G : en_G)  : en_C := en_gh (P_X6_addNode G) (fun g as σ v σ' => (24 ≤ tr_N (sa_T (g.2.2.2.2.2.1)) → v = some (en_R none) ∧ σ' = σ) ∧ (tr_N (sa_T (g.2.2.2.2.2.1)) < 24 → v = some (en_R (some (en_nx σ))) ∧ σ' = cx_mkS σ (g.1) (g.2.2.2.2.2.2.1) (g.2.2.2.2.2.2.2.1) ((g.2.2.2.2.2.2.2.2).map (g.2.1)) (tr_N (sa_T (g.2.2.2.2.2.1)))))
theorem pr_X6_addNode {G : en_G}  : ∀ as σ, (C_X6_addNode G).1 as σ → ∃ b tl, as = en_R (some b) :: tl ∧ en_cl σ b = some 6 ∧ tl.length = 3 := fun as σ ⟨g, hp, h2⟩ => ⟨_, _, h2, hp.1.1.1.1, rfl⟩
theorem cu_X6_addNode {G : en_G}  {x : Nat} {na : Nat → Nat} {la : Nat → Nat} {ba : Nat → Nat} {rm : Nat} {A : st_A} {kd : Int32} {nm : Int32} {h : Option Nat} {σ : en_S} (hp : CX G x na la ba (rm + 1) A σ ∧ (∀ b, h = some b → b < tr_N (sa_T A))) : en_Us (C_X6_addNode G) [en_R (some x), en_I kd, en_I nm, en_R (h.map na)] σ (fun v σ' => (24 ≤ tr_N (sa_T A) → v = some (en_R none) ∧ σ' = σ) ∧ (tr_N (sa_T A) < 24 → v = some (en_R (some (en_nx σ))) ∧ σ' = cx_mkS σ x kd nm (h.map na) (tr_N (sa_T A)))) := ⟨⟨(x, na, la, ba, rm, A, kd, nm, h), hp, rfl⟩, fun v σ' q => q (x, na, la, ba, rm, A, kd, nm, h) ⟨hp, rfl⟩⟩
def ca_X6_addNode (G : en_G) : List (Nat × Nat × en_C) := [(40, 22, C_X4_init)]
def X_X6_addNode (G : en_G) (q : Option en_V → en_S → Prop) : en_X := en_mk G cX6_addNode (en_lk fl6) (en_lk nw6) (en_lk aw6) (en_lk dc6) (en_lk (ca_X6_addNode G)) 3 false q
theorem d_X6_addNode_0 : decode cX6_addNode 0 = .ok (.aload_n 0, 1) := by decide +kernel
theorem j_X6_addNode_0 {G : en_G} {q : Option en_V → en_S → Prop}  {l1 l2 l3 l4 : en_V} {x0 : Option Nat} {σ : en_S} : en_J (X_X6_addNode G q) 0 [en_R x0, l1, l2, l3, l4] [] σ ↔ en_J (X_X6_addNode G q) 1 [en_R x0, l1, l2, l3, l4] [en_R x0] σ := en_j1 d_X6_addNode_0 rfl rfl
theorem d_X6_addNode_1 : decode cX6_addNode 1 = .ok (.getfield 43, 3) := by decide +kernel
theorem j_X6_addNode_1 {G : en_G} {q : Option en_V → en_S → Prop}  {l0 l1 l2 l3 l4 : en_V} {a0 : Option Nat} {σ : en_S} : en_J (X_X6_addNode G q) 1 [l0, l1, l2, l3, l4] [en_R a0] σ ↔ ∃ a, a0 = some a ∧ en_cl σ a = some 6 ∧ en_J (X_X6_addNode G q) 4 [l0, l1, l2, l3, l4] [en_I (en_fi σ 601 a)] σ := en_jg (st := fun o => [en_R o]) (st' := fun a => [en_I (en_fi σ 601 a)]) (σ' := fun _ => σ) d_X6_addNode_1 rfl (fun a => rfl) (fun a => ⟨fun h => h.2, fun h => ⟨rfl, h⟩⟩)
theorem d_X6_addNode_4 : decode cX6_addNode 4 = .ok (.aload_n 0, 1) := by decide +kernel
theorem j_X6_addNode_4 {G : en_G} {q : Option en_V → en_S → Prop}  {l1 l2 l3 l4 : en_V} {a0 : Int32} {x0 : Option Nat} {σ : en_S} : en_J (X_X6_addNode G q) 4 [en_R x0, l1, l2, l3, l4] [en_I a0] σ ↔ en_J (X_X6_addNode G q) 5 [en_R x0, l1, l2, l3, l4] [en_R x0, en_I a0] σ := en_j1 d_X6_addNode_4 rfl rfl
theorem d_X6_addNode_5 : decode cX6_addNode 5 = .ok (.getfield 11, 3) := by decide +kernel
theorem j_X6_addNode_5 {G : en_G} {q : Option en_V → en_S → Prop}  {l0 l1 l2 l3 l4 : en_V} {a0 : Option Nat} {a1 : Int32} {σ : en_S} : en_J (X_X6_addNode G q) 5 [l0, l1, l2, l3, l4] [en_R a0, en_I a1] σ ↔ ∃ a, a0 = some a ∧ en_cl σ a = some 6 ∧ en_J (X_X6_addNode G q) 8 [l0, l1, l2, l3, l4] [en_R (en_fr σ 600 a), en_I a1] σ := en_jg (st := fun o => [en_R o, en_I a1]) (st' := fun a => [en_R (en_fr σ 600 a), en_I a1]) (σ' := fun _ => σ) d_X6_addNode_5 rfl (fun a => rfl) (fun a => ⟨fun h => h.2, fun h => ⟨rfl, h⟩⟩)
theorem d_X6_addNode_8 : decode cX6_addNode 8 = .ok (.arraylength, 1) := by decide +kernel
theorem j_X6_addNode_8 {G : en_G} {q : Option en_V → en_S → Prop}  {l0 l1 l2 l3 l4 : en_V} {a0 : Option Nat} {a1 : Int32} {σ : en_S} : en_J (X_X6_addNode G q) 8 [l0, l1, l2, l3, l4] [en_R a0, en_I a1] σ ↔ ∃ a, a0 = some a ∧ (en_al σ a).isSome = true ∧ en_J (X_X6_addNode G q) 9 [l0, l1, l2, l3, l4] [en_I (nI ((en_al σ a).getD (0, 0)).2), en_I a1] σ := ej_alen d_X6_addNode_8 rfl
theorem d_X6_addNode_9 : decode cX6_addNode 9 = .ok (.if_icmp .lt 5, 3) := by decide +kernel
theorem j_X6_addNode_9 {G : en_G} {q : Option en_V → en_S → Prop}  {l0 l1 l2 l3 l4 : en_V} {a0 : Int32} {a1 : Int32} {σ : en_S} : en_J (X_X6_addNode G q) 9 [l0, l1, l2, l3, l4] [en_I a0, en_I a1] σ ↔ (a1 < a0 → en_J (X_X6_addNode G q) 14 [l0, l1, l2, l3, l4] [] σ) ∧ (¬ (a1 < a0) → en_J (X_X6_addNode G q) 12 [l0, l1, l2, l3, l4] [] σ) := en_jb d_X6_addNode_9 rfl ⟨rfl, by decide⟩
theorem d_X6_addNode_12 : decode cX6_addNode 12 = .ok (.aconst_null, 1) := by decide +kernel
theorem j_X6_addNode_12 {G : en_G} {q : Option en_V → en_S → Prop}  {l0 l1 l2 l3 l4 : en_V}  {σ : en_S} : en_J (X_X6_addNode G q) 12 [l0, l1, l2, l3, l4] [] σ ↔ en_J (X_X6_addNode G q) 13 [l0, l1, l2, l3, l4] [en_R none] σ := en_j1 d_X6_addNode_12 rfl rfl
theorem d_X6_addNode_13 : decode cX6_addNode 13 = .ok (.areturn, 1) := by decide +kernel
theorem j_X6_addNode_13 {G : en_G} {q : Option en_V → en_S → Prop}  {l0 l1 l2 l3 l4 : en_V} {a0 : Option Nat} {σ : en_S} : en_J (X_X6_addNode G q) 13 [l0, l1, l2, l3, l4] [en_R a0] σ ↔ q (some (en_R a0)) σ := en_jr d_X6_addNode_13 rfl ⟨fun h => h.2.2, fun h => ⟨rfl, rfl, h⟩⟩
theorem d_X6_addNode_14 : decode cX6_addNode 14 = .ok (.new 9, 3) := by decide +kernel
theorem j_X6_addNode_14 {G : en_G} {q : Option en_V → en_S → Prop}  {l0 l1 l2 l3 l4 : en_V}  {σ : en_S} : en_J (X_X6_addNode G q) 14 [l0, l1, l2, l3, l4] [] σ ↔ (en_nx σ + 1 ≤ G.2.2.2.2.1 ∧ en_ns σ + 12 ≤ G.2.2.2.2.2) ∧ en_J (X_X6_addNode G q) 17 [l0, l1, l2, l3, l4] [en_R (some (en_nx σ))] (en_new σ 4 12) := en_jc d_X6_addNode_14 rfl ⟨fun h => h.2, fun h => ⟨rfl, h⟩⟩
theorem d_X6_addNode_17 : decode cX6_addNode 17 = .ok (.dup, 1) := by decide +kernel
theorem j_X6_addNode_17 {G : en_G} {q : Option en_V → en_S → Prop}  {l0 l1 l2 l3 l4 : en_V} {a0 : Option Nat} {σ : en_S} : en_J (X_X6_addNode G q) 17 [l0, l1, l2, l3, l4] [en_R a0] σ ↔ en_J (X_X6_addNode G q) 18 [l0, l1, l2, l3, l4] [en_R a0, en_R a0] σ := en_j1 d_X6_addNode_17 rfl rfl
theorem d_X6_addNode_18 : decode cX6_addNode 18 = .ok (.aload_n 0, 1) := by decide +kernel
theorem j_X6_addNode_18 {G : en_G} {q : Option en_V → en_S → Prop}  {l1 l2 l3 l4 : en_V} {a0 : Option Nat} {a1 : Option Nat} {x0 : Option Nat} {σ : en_S} : en_J (X_X6_addNode G q) 18 [en_R x0, l1, l2, l3, l4] [en_R a0, en_R a1] σ ↔ en_J (X_X6_addNode G q) 19 [en_R x0, l1, l2, l3, l4] [en_R x0, en_R a0, en_R a1] σ := en_j1 d_X6_addNode_18 rfl rfl
theorem d_X6_addNode_19 : decode cX6_addNode 19 = .ok (.getfield 43, 3) := by decide +kernel
theorem j_X6_addNode_19 {G : en_G} {q : Option en_V → en_S → Prop}  {l0 l1 l2 l3 l4 : en_V} {a0 : Option Nat} {a1 : Option Nat} {a2 : Option Nat} {σ : en_S} : en_J (X_X6_addNode G q) 19 [l0, l1, l2, l3, l4] [en_R a0, en_R a1, en_R a2] σ ↔ ∃ a, a0 = some a ∧ en_cl σ a = some 6 ∧ en_J (X_X6_addNode G q) 22 [l0, l1, l2, l3, l4] [en_I (en_fi σ 601 a), en_R a1, en_R a2] σ := en_jg (st := fun o => [en_R o, en_R a1, en_R a2]) (st' := fun a => [en_I (en_fi σ 601 a), en_R a1, en_R a2]) (σ' := fun _ => σ) d_X6_addNode_19 rfl (fun a => rfl) (fun a => ⟨fun h => h.2, fun h => ⟨rfl, h⟩⟩)
theorem d_X6_addNode_22 : decode cX6_addNode 22 = .ok (.iload_n 1, 1) := by decide +kernel
theorem j_X6_addNode_22 {G : en_G} {q : Option en_V → en_S → Prop}  {l0 l2 l3 l4 : en_V} {a0 : Int32} {a1 : Option Nat} {a2 : Option Nat} {x1 : Int32} {σ : en_S} : en_J (X_X6_addNode G q) 22 [l0, en_I x1, l2, l3, l4] [en_I a0, en_R a1, en_R a2] σ ↔ en_J (X_X6_addNode G q) 23 [l0, en_I x1, l2, l3, l4] [en_I x1, en_I a0, en_R a1, en_R a2] σ := en_j1 d_X6_addNode_22 rfl rfl
theorem d_X6_addNode_23 : decode cX6_addNode 23 = .ok (.iload_n 2, 1) := by decide +kernel
theorem j_X6_addNode_23 {G : en_G} {q : Option en_V → en_S → Prop}  {l0 l1 l3 l4 : en_V} {a0 : Int32} {a1 : Int32} {a2 : Option Nat} {a3 : Option Nat} {x2 : Int32} {σ : en_S} : en_J (X_X6_addNode G q) 23 [l0, l1, en_I x2, l3, l4] [en_I a0, en_I a1, en_R a2, en_R a3] σ ↔ en_J (X_X6_addNode G q) 24 [l0, l1, en_I x2, l3, l4] [en_I x2, en_I a0, en_I a1, en_R a2, en_R a3] σ := en_j1 d_X6_addNode_23 rfl rfl
theorem d_X6_addNode_24 : decode cX6_addNode 24 = .ok (.aload_n 3, 1) := by decide +kernel
theorem j_X6_addNode_24 {G : en_G} {q : Option en_V → en_S → Prop}  {l0 l1 l2 l4 : en_V} {a0 : Int32} {a1 : Int32} {a2 : Int32} {a3 : Option Nat} {a4 : Option Nat} {x3 : Option Nat} {σ : en_S} : en_J (X_X6_addNode G q) 24 [l0, l1, l2, en_R x3, l4] [en_I a0, en_I a1, en_I a2, en_R a3, en_R a4] σ ↔ en_J (X_X6_addNode G q) 25 [l0, l1, l2, en_R x3, l4] [en_R x3, en_I a0, en_I a1, en_I a2, en_R a3, en_R a4] σ := en_j1 d_X6_addNode_24 rfl rfl
theorem d_X6_addNode_25 : decode cX6_addNode 25 = .ok (.invokespecial 40, 3) := by decide +kernel
theorem j_X6_addNode_25 {G : en_G} {q : Option en_V → en_S → Prop}  {l0 l1 l2 l3 l4 : en_V} {a0 : Option Nat} {a1 : Int32} {a2 : Int32} {a3 : Int32} {a4 : Option Nat} {a5 : Option Nat} {σ : en_S} : en_J (X_X6_addNode G q) 25 [l0, l1, l2, l3, l4] [en_R a0, en_I a1, en_I a2, en_I a3, en_R a4, en_R a5] σ ↔ C_X4_init.1 [en_R a4, en_I a3, en_I a2, en_I a1, en_R a0] σ ∧ ∀ (r : Option en_V) (σ' : en_S), C_X4_init.2 [en_R a4, en_I a3, en_I a2, en_I a1, en_R a0] σ r σ' → en_J (X_X6_addNode G q) 28 [l0, l1, l2, l3, l4] (r.toList ++ [en_R a5]) σ' := en_jk d_X6_addNode_25 rfl ⟨fun h => h.2.2.2.2, fun h => ⟨rfl, rfl, Nat.le_of_ble_eq_true rfl, Nat.le_of_ble_eq_true rfl, h⟩⟩
theorem d_X6_addNode_28 : decode cX6_addNode 28 = .ok (.astore 4, 2) := by decide +kernel
theorem j_X6_addNode_28 {G : en_G} {q : Option en_V → en_S → Prop}  {l0 l1 l2 l3 l4 : en_V} {a0 : Option Nat} {σ : en_S} : en_J (X_X6_addNode G q) 28 [l0, l1, l2, l3, l4] [en_R a0] σ ↔ en_J (X_X6_addNode G q) 30 [l0, l1, l2, en_c2 l3, en_R a0] [] σ := en_j1 d_X6_addNode_28 rfl ⟨rfl, Nat.le_of_ble_eq_true rfl⟩
theorem d_X6_addNode_30 : decode cX6_addNode 30 = .ok (.aload_n 0, 1) := by decide +kernel
theorem j_X6_addNode_30 {G : en_G} {q : Option en_V → en_S → Prop}  {l1 l2 l3 l4 : en_V} {x0 : Option Nat} {σ : en_S} : en_J (X_X6_addNode G q) 30 [en_R x0, l1, l2, l3, l4] [] σ ↔ en_J (X_X6_addNode G q) 31 [en_R x0, l1, l2, l3, l4] [en_R x0] σ := en_j1 d_X6_addNode_30 rfl rfl
theorem d_X6_addNode_31 : decode cX6_addNode 31 = .ok (.getfield 11, 3) := by decide +kernel
theorem j_X6_addNode_31 {G : en_G} {q : Option en_V → en_S → Prop}  {l0 l1 l2 l3 l4 : en_V} {a0 : Option Nat} {σ : en_S} : en_J (X_X6_addNode G q) 31 [l0, l1, l2, l3, l4] [en_R a0] σ ↔ ∃ a, a0 = some a ∧ en_cl σ a = some 6 ∧ en_J (X_X6_addNode G q) 34 [l0, l1, l2, l3, l4] [en_R (en_fr σ 600 a)] σ := en_jg (st := fun o => [en_R o]) (st' := fun a => [en_R (en_fr σ 600 a)]) (σ' := fun _ => σ) d_X6_addNode_31 rfl (fun a => rfl) (fun a => ⟨fun h => h.2, fun h => ⟨rfl, h⟩⟩)
theorem d_X6_addNode_34 : decode cX6_addNode 34 = .ok (.aload_n 0, 1) := by decide +kernel
theorem j_X6_addNode_34 {G : en_G} {q : Option en_V → en_S → Prop}  {l1 l2 l3 l4 : en_V} {a0 : Option Nat} {x0 : Option Nat} {σ : en_S} : en_J (X_X6_addNode G q) 34 [en_R x0, l1, l2, l3, l4] [en_R a0] σ ↔ en_J (X_X6_addNode G q) 35 [en_R x0, l1, l2, l3, l4] [en_R x0, en_R a0] σ := en_j1 d_X6_addNode_34 rfl rfl
theorem d_X6_addNode_35 : decode cX6_addNode 35 = .ok (.getfield 43, 3) := by decide +kernel
theorem j_X6_addNode_35 {G : en_G} {q : Option en_V → en_S → Prop}  {l0 l1 l2 l3 l4 : en_V} {a0 : Option Nat} {a1 : Option Nat} {σ : en_S} : en_J (X_X6_addNode G q) 35 [l0, l1, l2, l3, l4] [en_R a0, en_R a1] σ ↔ ∃ a, a0 = some a ∧ en_cl σ a = some 6 ∧ en_J (X_X6_addNode G q) 38 [l0, l1, l2, l3, l4] [en_I (en_fi σ 601 a), en_R a1] σ := en_jg (st := fun o => [en_R o, en_R a1]) (st' := fun a => [en_I (en_fi σ 601 a), en_R a1]) (σ' := fun _ => σ) d_X6_addNode_35 rfl (fun a => rfl) (fun a => ⟨fun h => h.2, fun h => ⟨rfl, h⟩⟩)
theorem d_X6_addNode_38 : decode cX6_addNode 38 = .ok (.aload 4, 2) := by decide +kernel
theorem j_X6_addNode_38 {G : en_G} {q : Option en_V → en_S → Prop}  {l0 l1 l2 l3 : en_V} {a0 : Int32} {a1 : Option Nat} {x4 : Option Nat} {σ : en_S} : en_J (X_X6_addNode G q) 38 [l0, l1, l2, l3, en_R x4] [en_I a0, en_R a1] σ ↔ en_J (X_X6_addNode G q) 40 [l0, l1, l2, l3, en_R x4] [en_R x4, en_I a0, en_R a1] σ := en_j1 d_X6_addNode_38 rfl rfl
theorem d_X6_addNode_40 : decode cX6_addNode 40 = .ok (.aastore, 1) := by decide +kernel
theorem j_X6_addNode_40 {G : en_G} {q : Option en_V → en_S → Prop}  {l0 l1 l2 l3 l4 : en_V} {a0 : Option Nat} {a1 : Int32} {a2 : Option Nat} {σ : en_S} : en_J (X_X6_addNode G q) 40 [l0, l1, l2, l3, l4] [en_R a0, en_I a1, en_R a2] σ ↔ ∃ a, a2 = some a ∧ (∃ t k, en_al σ a = some (t, k) ∧ 4 ≤ t ∧ vp_in a1 k ∧ ∀ b, a0 = some b → en_cl σ b = some (en_ec t)) ∧ en_J (X_X6_addNode G q) 41 [l0, l1, l2, l3, l4] [] (en_sar σ a a1.toNatClampNeg a0) := ej_aastore d_X6_addNode_40
theorem d_X6_addNode_41 : decode cX6_addNode 41 = .ok (.aload_n 0, 1) := by decide +kernel
theorem j_X6_addNode_41 {G : en_G} {q : Option en_V → en_S → Prop}  {l1 l2 l3 l4 : en_V} {x0 : Option Nat} {σ : en_S} : en_J (X_X6_addNode G q) 41 [en_R x0, l1, l2, l3, l4] [] σ ↔ en_J (X_X6_addNode G q) 42 [en_R x0, l1, l2, l3, l4] [en_R x0] σ := en_j1 d_X6_addNode_41 rfl rfl
theorem d_X6_addNode_42 : decode cX6_addNode 42 = .ok (.dup, 1) := by decide +kernel
theorem j_X6_addNode_42 {G : en_G} {q : Option en_V → en_S → Prop}  {l0 l1 l2 l3 l4 : en_V} {a0 : Option Nat} {σ : en_S} : en_J (X_X6_addNode G q) 42 [l0, l1, l2, l3, l4] [en_R a0] σ ↔ en_J (X_X6_addNode G q) 43 [l0, l1, l2, l3, l4] [en_R a0, en_R a0] σ := en_j1 d_X6_addNode_42 rfl rfl
theorem d_X6_addNode_43 : decode cX6_addNode 43 = .ok (.getfield 43, 3) := by decide +kernel
theorem j_X6_addNode_43 {G : en_G} {q : Option en_V → en_S → Prop}  {l0 l1 l2 l3 l4 : en_V} {a0 : Option Nat} {a1 : Option Nat} {σ : en_S} : en_J (X_X6_addNode G q) 43 [l0, l1, l2, l3, l4] [en_R a0, en_R a1] σ ↔ ∃ a, a0 = some a ∧ en_cl σ a = some 6 ∧ en_J (X_X6_addNode G q) 46 [l0, l1, l2, l3, l4] [en_I (en_fi σ 601 a), en_R a1] σ := en_jg (st := fun o => [en_R o, en_R a1]) (st' := fun a => [en_I (en_fi σ 601 a), en_R a1]) (σ' := fun _ => σ) d_X6_addNode_43 rfl (fun a => rfl) (fun a => ⟨fun h => h.2, fun h => ⟨rfl, h⟩⟩)
theorem d_X6_addNode_46 : decode cX6_addNode 46 = .ok (.iconst 1, 1) := by decide +kernel
theorem j_X6_addNode_46 {G : en_G} {q : Option en_V → en_S → Prop}  {l0 l1 l2 l3 l4 : en_V} {a0 : Int32} {a1 : Option Nat} {σ : en_S} : en_J (X_X6_addNode G q) 46 [l0, l1, l2, l3, l4] [en_I a0, en_R a1] σ ↔ en_J (X_X6_addNode G q) 47 [l0, l1, l2, l3, l4] [en_I 1, en_I a0, en_R a1] σ := ej_iconst d_X6_addNode_46 (by decide +kernel)
theorem d_X6_addNode_47 : decode cX6_addNode 47 = .ok (.iadd, 1) := by decide +kernel
theorem j_X6_addNode_47 {G : en_G} {q : Option en_V → en_S → Prop}  {l0 l1 l2 l3 l4 : en_V} {a0 : Int32} {a1 : Int32} {a2 : Option Nat} {σ : en_S} : en_J (X_X6_addNode G q) 47 [l0, l1, l2, l3, l4] [en_I a0, en_I a1, en_R a2] σ ↔ en_J (X_X6_addNode G q) 48 [l0, l1, l2, l3, l4] [en_I (a1 + a0), en_R a2] σ := en_j1 d_X6_addNode_47 rfl ⟨rfl, trivial⟩
theorem d_X6_addNode_48 : decode cX6_addNode 48 = .ok (.putfield 43, 3) := by decide +kernel
theorem j_X6_addNode_48 {G : en_G} {q : Option en_V → en_S → Prop}  {l0 l1 l2 l3 l4 : en_V} {a0 : Int32} {a1 : Option Nat} {σ : en_S} : en_J (X_X6_addNode G q) 48 [l0, l1, l2, l3, l4] [en_I a0, en_R a1] σ ↔ ∃ a, a1 = some a ∧ en_cl σ a = some 6 ∧ en_J (X_X6_addNode G q) 51 [l0, l1, l2, l3, l4] [] (en_sfi σ 601 a a0) := en_jg (st := fun o => [en_I a0, en_R o]) (st' := fun _ => []) (σ' := fun a => en_sfi σ 601 a a0) d_X6_addNode_48 rfl (fun a => rfl) (fun a => ⟨fun h => h.2.1, fun h => ⟨rfl, h, trivial, fun z => absurd z (by decide +kernel)⟩⟩)
theorem d_X6_addNode_51 : decode cX6_addNode 51 = .ok (.aload 4, 2) := by decide +kernel
theorem j_X6_addNode_51 {G : en_G} {q : Option en_V → en_S → Prop}  {l0 l1 l2 l3 : en_V} {x4 : Option Nat} {σ : en_S} : en_J (X_X6_addNode G q) 51 [l0, l1, l2, l3, en_R x4] [] σ ↔ en_J (X_X6_addNode G q) 53 [l0, l1, l2, l3, en_R x4] [en_R x4] σ := en_j1 d_X6_addNode_51 rfl rfl
theorem d_X6_addNode_53 : decode cX6_addNode 53 = .ok (.areturn, 1) := by decide +kernel
theorem j_X6_addNode_53 {G : en_G} {q : Option en_V → en_S → Prop}  {l0 l1 l2 l3 l4 : en_V} {a0 : Option Nat} {σ : en_S} : en_J (X_X6_addNode G q) 53 [l0, l1, l2, l3, l4] [en_R a0] σ ↔ q (some (en_R a0)) σ := en_jr d_X6_addNode_53 rfl ⟨fun h => h.2.2, fun h => ⟨rfl, rfl, h⟩⟩
theorem wc_X6_addNode : Jvm.Cond.code yX6_addNode cX6_addNode 5 (some (.object "NodeStage$Node")) ∈ en_W := en_inW (List.mem_of_getElem? (i := 240) (by decide +kernel)) (by decide +kernel)
theorem wi_X6_addNode : Jvm.Cond.instanceMethod yX6_addNode ∈ en_W := en_inW (List.mem_of_getElem? (i := 239) (by decide +kernel)) (by decide +kernel)
theorem wx_X6_addNode : Jvm.Cond.selects RX6 yX6_addNode yX6_addNode ∈ en_W := en_inW (List.mem_of_getElem? (i := 0) (by decide +kernel)) (by decide +kernel)
theorem jl_X6_addNode {G : en_G}  {x : Nat} {na : Nat → Nat} {la : Nat → Nat} {ba : Nat → Nat} {rm : Nat} {A : st_A} {kd : Int32} {nm : Int32} {h : Option Nat} {q : Option en_V → en_S → Prop} {σ : en_S} (hp : CX G x na la ba (rm + 1) A σ ∧ (∀ b, h = some b → b < tr_N (sa_T A))) (hq : ∀ v σ', ((24 ≤ tr_N (sa_T A) → v = some (en_R none) ∧ σ' = σ) ∧ (tr_N (sa_T A) < 24 → v = some (en_R (some (en_nx σ))) ∧ σ' = cx_mkS σ x kd nm (h.map na) (tr_N (sa_T A)))) → q v σ') : en_J (X_X6_addNode G q) 0 [en_R (some x), en_I kd, en_I nm, en_R (h.map na), en_U] [] σ := by
  obtain ⟨hC, hh⟩ := hp
  obtain ⟨c, tt, nd, bx, l, sc, lo, ob, w, r⟩ := id hC
  obtain ⟨⟨a1, a2, a3, a4, a5, a6⟩, ⟨b1, b2, b3, b4⟩, -, -, -, x44, -⟩ := id c
  have o1 := ob.1
  by_cases hN : tr_N (sa_T A) < 24
  · have n1 : nI (tr_N (sa_T A)) < nI 24 := nI_lt hN (by decide)
    unfold cd_room at r
    have hr1 : en_nx σ + 1 ≤ G.2.2.2.2.1 := by omega
    have hr2 : en_ns σ + 12 ≤ G.2.2.2.2.2 := by omega
    have e1 : ¬ x = en_nx σ := by omega
    simp only [j_X6_addNode_0, j_X6_addNode_1, j_X6_addNode_4, j_X6_addNode_5, j_X6_addNode_8, j_X6_addNode_9, j_X6_addNode_12, j_X6_addNode_13, j_X6_addNode_14, j_X6_addNode_17, j_X6_addNode_18, j_X6_addNode_19, j_X6_addNode_22, j_X6_addNode_23, j_X6_addNode_24, j_X6_addNode_25, j_X6_addNode_28, j_X6_addNode_30, j_X6_addNode_31, j_X6_addNode_34, j_X6_addNode_35, j_X6_addNode_38, j_X6_addNode_40, j_X6_addNode_41, j_X6_addNode_42, j_X6_addNode_43, j_X6_addNode_46, j_X6_addNode_47, j_X6_addNode_48, j_X6_addNode_51, j_X6_addNode_53, en_c2I, en_c2R, en_c2U, en_c2D, Option.some.injEq, exists_eq_left', exists_eq_left, Option.map_some, Option.map_none, not_true_eq_false, false_implies, true_implies, and_true, true_and, reduceCtorEq, not_false_eq_true, eg_cl_sfi, eg_fi_sfi, eg_fr_sfi, eg_fd_sfi, eg_al_sfi, eg_ai_sfi, eg_ar_sfi, eg_ad_sfi, eg_aj_sfi, eg_nx_sfi, eg_ns_sfi, eg_cl_sfr, eg_fi_sfr, eg_fr_sfr, eg_fd_sfr, eg_al_sfr, eg_ai_sfr, eg_ar_sfr, eg_ad_sfr, eg_aj_sfr, eg_nx_sfr, eg_ns_sfr, eg_cl_sfd, eg_fi_sfd, eg_fr_sfd, eg_fd_sfd, eg_al_sfd, eg_ai_sfd, eg_ar_sfd, eg_ad_sfd, eg_aj_sfd, eg_nx_sfd, eg_ns_sfd, eg_cl_sai, eg_fi_sai, eg_fr_sai, eg_fd_sai, eg_al_sai, eg_ai_sai, eg_ar_sai, eg_ad_sai, eg_aj_sai, eg_nx_sai, eg_ns_sai, eg_cl_sar, eg_fi_sar, eg_fr_sar, eg_fd_sar, eg_al_sar, eg_ai_sar, eg_ar_sar, eg_ad_sar, eg_aj_sar, eg_nx_sar, eg_ns_sar, eg_cl_sad, eg_fi_sad, eg_fr_sad, eg_fd_sad, eg_al_sad, eg_ai_sad, eg_ar_sad, eg_ad_sad, eg_aj_sad, eg_nx_sad, eg_ns_sad, eg_cl_saj, eg_fi_saj, eg_fr_saj, eg_fd_saj, eg_al_saj, eg_ai_saj, eg_ar_saj, eg_ad_saj, eg_aj_saj, eg_nx_saj, eg_ns_saj, eg_cl_new, eg_fi_new, eg_fr_new, eg_fd_new, eg_al_new, eg_ai_new, eg_ar_new, eg_ad_new, eg_aj_new, eg_nx_new, eg_ns_new, eg_cl_newa, eg_fi_newa, eg_fr_newa, eg_fd_newa, eg_al_newa, eg_ai_newa, eg_ar_newa, eg_ad_newa, eg_aj_newa, eg_nx_newa, eg_ns_newa, eg_cl_bump, eg_fi_bump, eg_fr_bump, eg_fd_bump, eg_al_bump, eg_ai_bump, eg_ar_bump, eg_ad_bump, eg_aj_bump, eg_nx_bump, eg_ns_bump, a1, a2, b1, o1, e1, if_false, Option.isSome_some, Option.getD_some, n1, hr1, hr2]
    refine en_use (cu_X4_init (by rw [eg_cl_new, if_pos rfl])) ?_
    rintro v σ' ⟨rfl, rfl⟩
    have n3 : vp_in (nI (tr_N (sa_T A))) 24 := vp_in_nI hN (by decide)
    have n4 : (nI (tr_N (sa_T A))).toNatClampNeg = tr_N (sa_T A) := nI_clamp (by omega)
    have n5 : nI (tr_N (sa_T A)) + 1 = nI (tr_N (sa_T A) + 1) := nI_1 _
    simp only [Option.toList, List.cons_append, List.nil_append, j_X6_addNode_0, j_X6_addNode_1, j_X6_addNode_4, j_X6_addNode_5, j_X6_addNode_8, j_X6_addNode_9, j_X6_addNode_12, j_X6_addNode_13, j_X6_addNode_14, j_X6_addNode_17, j_X6_addNode_18, j_X6_addNode_19, j_X6_addNode_22, j_X6_addNode_23, j_X6_addNode_24, j_X6_addNode_25, j_X6_addNode_28, j_X6_addNode_30, j_X6_addNode_31, j_X6_addNode_34, j_X6_addNode_35, j_X6_addNode_38, j_X6_addNode_40, j_X6_addNode_41, j_X6_addNode_42, j_X6_addNode_43, j_X6_addNode_46, j_X6_addNode_47, j_X6_addNode_48, j_X6_addNode_51, j_X6_addNode_53, en_c2I, en_c2R, en_c2U, en_c2D, Option.some.injEq, exists_eq_left', exists_eq_left, Option.map_some, Option.map_none, not_true_eq_false, false_implies, true_implies, and_true, true_and, reduceCtorEq, not_false_eq_true, eg_cl_sfi, eg_fi_sfi, eg_fr_sfi, eg_fd_sfi, eg_al_sfi, eg_ai_sfi, eg_ar_sfi, eg_ad_sfi, eg_aj_sfi, eg_nx_sfi, eg_ns_sfi, eg_cl_sfr, eg_fi_sfr, eg_fr_sfr, eg_fd_sfr, eg_al_sfr, eg_ai_sfr, eg_ar_sfr, eg_ad_sfr, eg_aj_sfr, eg_nx_sfr, eg_ns_sfr, eg_cl_sfd, eg_fi_sfd, eg_fr_sfd, eg_fd_sfd, eg_al_sfd, eg_ai_sfd, eg_ar_sfd, eg_ad_sfd, eg_aj_sfd, eg_nx_sfd, eg_ns_sfd, eg_cl_sai, eg_fi_sai, eg_fr_sai, eg_fd_sai, eg_al_sai, eg_ai_sai, eg_ar_sai, eg_ad_sai, eg_aj_sai, eg_nx_sai, eg_ns_sai, eg_cl_sar, eg_fi_sar, eg_fr_sar, eg_fd_sar, eg_al_sar, eg_ai_sar, eg_ar_sar, eg_ad_sar, eg_aj_sar, eg_nx_sar, eg_ns_sar, eg_cl_sad, eg_fi_sad, eg_fr_sad, eg_fd_sad, eg_al_sad, eg_ai_sad, eg_ar_sad, eg_ad_sad, eg_aj_sad, eg_nx_sad, eg_ns_sad, eg_cl_saj, eg_fi_saj, eg_fr_saj, eg_fd_saj, eg_al_saj, eg_ai_saj, eg_ar_saj, eg_ad_saj, eg_aj_saj, eg_nx_saj, eg_ns_saj, eg_cl_new, eg_fi_new, eg_fr_new, eg_fd_new, eg_al_new, eg_ai_new, eg_ar_new, eg_ad_new, eg_aj_new, eg_nx_new, eg_ns_new, eg_cl_newa, eg_fi_newa, eg_fr_newa, eg_fd_newa, eg_al_newa, eg_ai_newa, eg_ar_newa, eg_ad_newa, eg_aj_newa, eg_nx_newa, eg_ns_newa, eg_cl_bump, eg_fi_bump, eg_fr_bump, eg_fd_bump, eg_al_bump, eg_ai_bump, eg_ar_bump, eg_ad_bump, eg_aj_bump, eg_nx_bump, eg_ns_bump, a1, a2, e1, o1, b1, n5, n4, Prod.mk.injEq, and_false, if_true, if_false]
    refine ⟨⟨4, 24, ⟨rfl, rfl⟩, by decide, n3, fun b hb => ?_⟩, hq _ _ ⟨fun z => by omega, fun _ => ⟨rfl, rfl⟩⟩⟩
    simp [← hb, en_ec]
  · have n1 : ¬ nI (tr_N (sa_T A)) < nI 24 := nI_nlt (by omega) (by have := w.1.1.2; omega)
    simp only [j_X6_addNode_0, j_X6_addNode_1, j_X6_addNode_4, j_X6_addNode_5, j_X6_addNode_8, j_X6_addNode_9, j_X6_addNode_12, j_X6_addNode_13, j_X6_addNode_14, j_X6_addNode_17, j_X6_addNode_18, j_X6_addNode_19, j_X6_addNode_22, j_X6_addNode_23, j_X6_addNode_24, j_X6_addNode_25, j_X6_addNode_28, j_X6_addNode_30, j_X6_addNode_31, j_X6_addNode_34, j_X6_addNode_35, j_X6_addNode_38, j_X6_addNode_40, j_X6_addNode_41, j_X6_addNode_42, j_X6_addNode_43, j_X6_addNode_46, j_X6_addNode_47, j_X6_addNode_48, j_X6_addNode_51, j_X6_addNode_53, en_c2I, en_c2R, en_c2U, en_c2D, Option.some.injEq, exists_eq_left', exists_eq_left, Option.map_some, Option.map_none, not_true_eq_false, false_implies, true_implies, and_true, true_and, reduceCtorEq, not_false_eq_true, a1, a2, b1, o1, Option.isSome_some, Option.getD_some, n1]
    exact hq _ _ ⟨fun _ => ⟨rfl, rfl⟩, fun z => absurd z hN⟩
theorem jp_X6_addNode {G : en_G}  : ∀ as σ, (C_X6_addNode G).1 as σ → (en_lc as).length ≤ 5 ∧ en_J (X_X6_addNode G (fun r σ' => (C_X6_addNode G).2 as σ r σ')) 0 (en_loc 5 as) [] σ := en_ghJ (fun g as σ h => by
  obtain ⟨hp, h2⟩ := h
  subst h2
  exact ⟨Nat.le_of_ble_eq_true rfl, jl_X6_addNode hp (fun _ _ h => h)⟩)
theorem wl_X6_addNode_40 : Jvm.Cond.methodLink RX6 40 yX4_init ∈ en_W := en_inW (List.mem_of_getElem? (i := 88) (by decide +kernel)) (by decide +kernel)
theorem ok_X6_addNode {G : en_G}  : en_Ok G 2 yX6_addNode cX6_addNode 5 (some (.object "NodeStage$Node")) (C_X6_addNode G) :=
  en_met (own := RX6) (fl := en_lk fl6) (nw := en_lk nw6) (aw := en_lk aw6) (dc := en_lk dc6) (ca := en_lk (ca_X6_addNode G)) (rt := 3) (ini := false) (by decide +kernel) (Or.inr (Or.inr (Or.inr (Or.inl ⟨rfl, _, rfl⟩)))) (fun h => by cases h) rfl (fun q => en_LkF fl6_ok nw6_ok aw6_ok dc6_ok) (by
    intro idx q hq
    have hm := en_lk_mem hq
    simp only [ca_X6_addNode, List.mem_cons, Prod.mk.injEq, List.not_mem_nil, or_false] at hm
    rcases hm with ⟨rfl, rfl⟩
    · exact en_clI 4 ok_X4_init (by decide) (by decide) pr_X4_init rfl wl_X6_addNode_40 wi_X4_init wz_4 wc_X4_init ⟨by decide +kernel, by decide +kernel, by decide +kernel⟩) jp_X6_addNode
def P_X6_make (G : en_G)  (g : (Nat) × (Nat) × (pb_S) × (Int32) × (Int32)) (as : List en_V) (σ : en_S) : Prop := (PZ G (g.1) ((g.2.1) + 64) (g.2.2.1) σ) ∧ as = [en_R (some (g.1)), en_I (g.2.2.2.1), en_I (g.2.2.2.2)]
def C_X6_make (G : en_G)  : en_C := en_gh (P_X6_make G) (fun g as σ v σ' => PZ G (g.1) (g.2.1) (op_make (g.2.2.1) (g.2.2.2.1) (g.2.2.2.2)).1 σ' ∧ ag σ σ' pF (pV (g.1)) ∧ v = some (en_I (op_make (g.2.2.1) (g.2.2.2.1) (g.2.2.2.2)).2))
theorem pr_X6_make {G : en_G}  : ∀ as σ, (C_X6_make G).1 as σ → ∃ b tl, as = en_R (some b) :: tl ∧ en_cl σ b = some 6 ∧ tl.length = 2 := fun as σ ⟨g, hp, h2⟩ => ⟨_, _, h2, hp.cl, rfl⟩
theorem cu_X6_make {G : en_G}  {x : Nat} {rm : Nat} {S : pb_S} {kd : Int32} {nm : Int32} {σ : en_S} (hp : PZ G x (rm + 64) S σ) : en_Us (C_X6_make G) [en_R (some x), en_I kd, en_I nm] σ (fun v σ' => PZ G x rm (op_make S kd nm).1 σ' ∧ ag σ σ' pF (pV x) ∧ v = some (en_I (op_make S kd nm).2)) := ⟨⟨(x, rm, S, kd, nm), hp, rfl⟩, fun v σ' q => q (x, rm, S, kd, nm) ⟨hp, rfl⟩⟩
def ca_X6_make (G : en_G) : List (Nat × Nat × en_C) := [(49, 17, (C_X6_addNode G)), (53, 4, C_X6_numberOf)]
def X_X6_make (G : en_G) (q : Option en_V → en_S → Prop) : en_X := en_mk G cX6_make (en_lk fl6) (en_lk nw6) (en_lk aw6) (en_lk dc6) (en_lk (ca_X6_make G)) 1 false q
theorem d_X6_make_0 : decode cX6_make 0 = .ok (.iload_n 1, 1) := by decide +kernel
theorem j_X6_make_0 {G : en_G} {q : Option en_V → en_S → Prop}  {l0 l2 : en_V} {x1 : Int32} {σ : en_S} : en_J (X_X6_make G q) 0 [l0, en_I x1, l2] [] σ ↔ en_J (X_X6_make G q) 1 [l0, en_I x1, l2] [en_I x1] σ := en_j1 d_X6_make_0 rfl rfl
theorem d_X6_make_1 : decode cX6_make 1 = .ok (.ifCond .lt 17, 3) := by decide +kernel
theorem j_X6_make_1 {G : en_G} {q : Option en_V → en_S → Prop}  {l0 l1 l2 : en_V} {a0 : Int32} {σ : en_S} : en_J (X_X6_make G q) 1 [l0, l1, l2] [en_I a0] σ ↔ (a0 < 0 → en_J (X_X6_make G q) 18 [l0, l1, l2] [] σ) ∧ (¬ (a0 < 0) → en_J (X_X6_make G q) 4 [l0, l1, l2] [] σ) := en_jb d_X6_make_1 rfl ⟨rfl, by decide⟩
theorem d_X6_make_4 : decode cX6_make 4 = .ok (.iload_n 1, 1) := by decide +kernel
theorem j_X6_make_4 {G : en_G} {q : Option en_V → en_S → Prop}  {l0 l2 : en_V} {x1 : Int32} {σ : en_S} : en_J (X_X6_make G q) 4 [l0, en_I x1, l2] [] σ ↔ en_J (X_X6_make G q) 5 [l0, en_I x1, l2] [en_I x1] σ := en_j1 d_X6_make_4 rfl rfl
theorem d_X6_make_5 : decode cX6_make 5 = .ok (.iconst 2, 1) := by decide +kernel
theorem j_X6_make_5 {G : en_G} {q : Option en_V → en_S → Prop}  {l0 l1 l2 : en_V} {a0 : Int32} {σ : en_S} : en_J (X_X6_make G q) 5 [l0, l1, l2] [en_I a0] σ ↔ en_J (X_X6_make G q) 6 [l0, l1, l2] [en_I 2, en_I a0] σ := ej_iconst d_X6_make_5 (by decide +kernel)
theorem d_X6_make_6 : decode cX6_make 6 = .ok (.if_icmp .gt 12, 3) := by decide +kernel
theorem j_X6_make_6 {G : en_G} {q : Option en_V → en_S → Prop}  {l0 l1 l2 : en_V} {a0 : Int32} {a1 : Int32} {σ : en_S} : en_J (X_X6_make G q) 6 [l0, l1, l2] [en_I a0, en_I a1] σ ↔ (a0 < a1 → en_J (X_X6_make G q) 18 [l0, l1, l2] [] σ) ∧ (¬ (a0 < a1) → en_J (X_X6_make G q) 9 [l0, l1, l2] [] σ) := en_jb d_X6_make_6 rfl ⟨rfl, by decide⟩
theorem d_X6_make_9 : decode cX6_make 9 = .ok (.iload_n 2, 1) := by decide +kernel
theorem j_X6_make_9 {G : en_G} {q : Option en_V → en_S → Prop}  {l0 l1 : en_V} {x2 : Int32} {σ : en_S} : en_J (X_X6_make G q) 9 [l0, l1, en_I x2] [] σ ↔ en_J (X_X6_make G q) 10 [l0, l1, en_I x2] [en_I x2] σ := en_j1 d_X6_make_9 rfl rfl
theorem d_X6_make_10 : decode cX6_make 10 = .ok (.ifCond .lt 8, 3) := by decide +kernel
theorem j_X6_make_10 {G : en_G} {q : Option en_V → en_S → Prop}  {l0 l1 l2 : en_V} {a0 : Int32} {σ : en_S} : en_J (X_X6_make G q) 10 [l0, l1, l2] [en_I a0] σ ↔ (a0 < 0 → en_J (X_X6_make G q) 18 [l0, l1, l2] [] σ) ∧ (¬ (a0 < 0) → en_J (X_X6_make G q) 13 [l0, l1, l2] [] σ) := en_jb d_X6_make_10 rfl ⟨rfl, by decide⟩
theorem d_X6_make_13 : decode cX6_make 13 = .ok (.iload_n 2, 1) := by decide +kernel
theorem j_X6_make_13 {G : en_G} {q : Option en_V → en_S → Prop}  {l0 l1 : en_V} {x2 : Int32} {σ : en_S} : en_J (X_X6_make G q) 13 [l0, l1, en_I x2] [] σ ↔ en_J (X_X6_make G q) 14 [l0, l1, en_I x2] [en_I x2] σ := en_j1 d_X6_make_13 rfl rfl
theorem d_X6_make_14 : decode cX6_make 14 = .ok (.iconst 4, 1) := by decide +kernel
theorem j_X6_make_14 {G : en_G} {q : Option en_V → en_S → Prop}  {l0 l1 l2 : en_V} {a0 : Int32} {σ : en_S} : en_J (X_X6_make G q) 14 [l0, l1, l2] [en_I a0] σ ↔ en_J (X_X6_make G q) 15 [l0, l1, l2] [en_I 4, en_I a0] σ := ej_iconst d_X6_make_14 (by decide +kernel)
theorem d_X6_make_15 : decode cX6_make 15 = .ok (.if_icmp .lt 5, 3) := by decide +kernel
theorem j_X6_make_15 {G : en_G} {q : Option en_V → en_S → Prop}  {l0 l1 l2 : en_V} {a0 : Int32} {a1 : Int32} {σ : en_S} : en_J (X_X6_make G q) 15 [l0, l1, l2] [en_I a0, en_I a1] σ ↔ (a1 < a0 → en_J (X_X6_make G q) 20 [l0, l1, l2] [] σ) ∧ (¬ (a1 < a0) → en_J (X_X6_make G q) 18 [l0, l1, l2] [] σ) := en_jb d_X6_make_15 rfl ⟨rfl, by decide⟩
theorem d_X6_make_18 : decode cX6_make 18 = .ok (.iconst (-1), 1) := by decide +kernel
theorem j_X6_make_18 {G : en_G} {q : Option en_V → en_S → Prop}  {l0 l1 l2 : en_V}  {σ : en_S} : en_J (X_X6_make G q) 18 [l0, l1, l2] [] σ ↔ en_J (X_X6_make G q) 19 [l0, l1, l2] [en_I (-1)] σ := ej_iconst d_X6_make_18 (by decide +kernel)
theorem d_X6_make_19 : decode cX6_make 19 = .ok (.ireturn, 1) := by decide +kernel
theorem j_X6_make_19 {G : en_G} {q : Option en_V → en_S → Prop}  {l0 l1 l2 : en_V} {a0 : Int32} {σ : en_S} : en_J (X_X6_make G q) 19 [l0, l1, l2] [en_I a0] σ ↔ q (some (en_I a0)) σ := en_jr d_X6_make_19 rfl ⟨fun h => h.2.2, fun h => ⟨rfl, Or.inl rfl, h⟩⟩
theorem d_X6_make_20 : decode cX6_make 20 = .ok (.aload_n 0, 1) := by decide +kernel
theorem j_X6_make_20 {G : en_G} {q : Option en_V → en_S → Prop}  {l1 l2 : en_V} {x0 : Option Nat} {σ : en_S} : en_J (X_X6_make G q) 20 [en_R x0, l1, l2] [] σ ↔ en_J (X_X6_make G q) 21 [en_R x0, l1, l2] [en_R x0] σ := en_j1 d_X6_make_20 rfl rfl
theorem d_X6_make_21 : decode cX6_make 21 = .ok (.iload_n 1, 1) := by decide +kernel
theorem j_X6_make_21 {G : en_G} {q : Option en_V → en_S → Prop}  {l0 l2 : en_V} {a0 : Option Nat} {x1 : Int32} {σ : en_S} : en_J (X_X6_make G q) 21 [l0, en_I x1, l2] [en_R a0] σ ↔ en_J (X_X6_make G q) 22 [l0, en_I x1, l2] [en_I x1, en_R a0] σ := en_j1 d_X6_make_21 rfl rfl
theorem d_X6_make_22 : decode cX6_make 22 = .ok (.iload_n 2, 1) := by decide +kernel
theorem j_X6_make_22 {G : en_G} {q : Option en_V → en_S → Prop}  {l0 l1 : en_V} {a0 : Int32} {a1 : Option Nat} {x2 : Int32} {σ : en_S} : en_J (X_X6_make G q) 22 [l0, l1, en_I x2] [en_I a0, en_R a1] σ ↔ en_J (X_X6_make G q) 23 [l0, l1, en_I x2] [en_I x2, en_I a0, en_R a1] σ := en_j1 d_X6_make_22 rfl rfl
theorem d_X6_make_23 : decode cX6_make 23 = .ok (.aconst_null, 1) := by decide +kernel
theorem j_X6_make_23 {G : en_G} {q : Option en_V → en_S → Prop}  {l0 l1 l2 : en_V} {a0 : Int32} {a1 : Int32} {a2 : Option Nat} {σ : en_S} : en_J (X_X6_make G q) 23 [l0, l1, l2] [en_I a0, en_I a1, en_R a2] σ ↔ en_J (X_X6_make G q) 24 [l0, l1, l2] [en_R none, en_I a0, en_I a1, en_R a2] σ := en_j1 d_X6_make_23 rfl rfl
theorem d_X6_make_24 : decode cX6_make 24 = .ok (.invokevirtual 49, 3) := by decide +kernel
theorem j_X6_make_24 {G : en_G} {q : Option en_V → en_S → Prop}  {l0 l1 l2 : en_V} {a0 : Option Nat} {a1 : Int32} {a2 : Int32} {a3 : Option Nat} {σ : en_S} : en_J (X_X6_make G q) 24 [l0, l1, l2] [en_R a0, en_I a1, en_I a2, en_R a3] σ ↔ (C_X6_addNode G).1 [en_R a3, en_I a2, en_I a1, en_R a0] σ ∧ ∀ (r : Option en_V) (σ' : en_S), (C_X6_addNode G).2 [en_R a3, en_I a2, en_I a1, en_R a0] σ r σ' → en_J (X_X6_make G q) 27 [l0, l1, l2] (r.toList ++ []) σ' := en_jkC (C := (C_X6_addNode G)) (n' := 4) (k := 1) (idx := 49) d_X6_make_24 rfl rfl (by decide) (Nat.le_of_ble_eq_true rfl) (Nat.le_of_ble_eq_true rfl)
theorem d_X6_make_27 : decode cX6_make 27 = .ok (.invokestatic 53, 3) := by decide +kernel
theorem j_X6_make_27 {G : en_G} {q : Option en_V → en_S → Prop}  {l0 l1 l2 : en_V} {a0 : Option Nat} {σ : en_S} : en_J (X_X6_make G q) 27 [l0, l1, l2] [en_R a0] σ ↔ C_X6_numberOf.1 [en_R a0] σ ∧ ∀ (r : Option en_V) (σ' : en_S), C_X6_numberOf.2 [en_R a0] σ r σ' → en_J (X_X6_make G q) 30 [l0, l1, l2] (r.toList ++ []) σ' := en_jk d_X6_make_27 rfl ⟨fun h => h.2.2.2.2, fun h => ⟨rfl, rfl, Nat.le_of_ble_eq_true rfl, Nat.le_of_ble_eq_true rfl, h⟩⟩
theorem d_X6_make_30 : decode cX6_make 30 = .ok (.ireturn, 1) := by decide +kernel
theorem j_X6_make_30 {G : en_G} {q : Option en_V → en_S → Prop}  {l0 l1 l2 : en_V} {a0 : Int32} {σ : en_S} : en_J (X_X6_make G q) 30 [l0, l1, l2] [en_I a0] σ ↔ q (some (en_I a0)) σ := en_jr d_X6_make_30 rfl ⟨fun h => h.2.2, fun h => ⟨rfl, Or.inl rfl, h⟩⟩
theorem wc_X6_make : Jvm.Cond.code yX6_make cX6_make 3 (some .int) ∈ en_W := en_inW (List.mem_of_getElem? (i := 236) (by decide +kernel)) (by decide +kernel)
theorem wi_X6_make : Jvm.Cond.instanceMethod yX6_make ∈ en_W := en_inW (List.mem_of_getElem? (i := 234) (by decide +kernel)) (by decide +kernel)
theorem wx_X6_make : Jvm.Cond.selects RX6 yX6_make yX6_make ∈ en_W := en_inW (List.mem_of_getElem? (i := 235) (by decide +kernel)) (by decide +kernel)
theorem jl_X6_make {G : en_G}  {x : Nat} {rm : Nat} {S : pb_S} {kd : Int32} {nm : Int32} {q : Option en_V → en_S → Prop} {σ : en_S} (hp : PZ G x (rm + 64) S σ) (hq : ∀ v σ', (PZ G x rm (op_make S kd nm).1 σ' ∧ ag σ σ' pF (pV x) ∧ v = some (en_I (op_make S kd nm).2)) → q v σ') : en_J (X_X6_make G q) 0 [en_R (some x), en_I kd, en_I nm] [] σ := by
  obtain ⟨na, la, ba, hP⟩ := hp
  have hC := hP.1
  have w := hC.2.2.2.2.2.2.2.2.1
  by_cases hc : 0 ≤ kd ∧ kd ≤ 2 ∧ 0 ≤ nm ∧ nm < 4
  · obtain ⟨c1, c2, c3, c4⟩ := hc
    have q1 : ¬ kd < 0 := Int32.not_lt.mpr c1
    have q2 : ¬ 2 < kd := Int32.not_lt.mpr c2
    have q3 : ¬ nm < 0 := Int32.not_lt.mpr c3
    simp only [j_X6_make_0, j_X6_make_1, j_X6_make_4, j_X6_make_5, j_X6_make_6, j_X6_make_9, j_X6_make_10, j_X6_make_13, j_X6_make_14, j_X6_make_15, j_X6_make_18, j_X6_make_19, j_X6_make_20, j_X6_make_21, j_X6_make_22, j_X6_make_23, j_X6_make_24, j_X6_make_27, j_X6_make_30, en_c2I, en_c2R, en_c2U, en_c2D, Option.some.injEq, exists_eq_left', exists_eq_left, Option.map_some, Option.map_none, not_true_eq_false, false_implies, true_implies, and_true, true_and, reduceCtorEq, not_false_eq_true, q1, q2, q3, c4]
    have hu := cu_X6_addNode (kd := kd) (nm := nm) (h := none) ⟨hC.rm (show rm + 1 ≤ rm + 64 by omega), fun b z => by cases z⟩
    simp only [Option.map_none] at hu
    refine en_use hu ?_
    rintro v σ' ⟨h1, h2⟩
    by_cases hN : tr_N (sa_T S.1) < 24
    · obtain ⟨rfl, rfl⟩ := h2 hN
      have hk : kd = 0 ∨ kd = 1 ∨ kd = 2 := by
        have z1 := Int32.le_iff_toInt_le.mp c1
        have z2 := Int32.le_iff_toInt_le.mp c2
        have z3 : (0 : Int32).toInt = 0 := rfl
        have z4 : (2 : Int32).toInt = 2 := rfl
        rw [z3] at z1
        rw [z4] at z2
        have : kd.toInt = 0 ∨ kd.toInt = 1 ∨ kd.toInt = 2 := by omega
        rcases this with z | z | z
        · exact Or.inl (Int32.toInt_inj.mp (z.trans rfl))
        · exact Or.inr (Or.inl (Int32.toInt_inj.mp (z.trans rfl)))
        · exact Or.inr (Or.inr (Int32.toInt_inj.mp (z.trans rfl)))
      have hCm := cx_mk (nm := nm) (kd := kd) (h := none) (hC.rm (show rm + 1 ≤ rm + 64 by omega)) hN (Or.inl ⟨rfl, hk⟩)
      have hcl : en_cl (cx_mkS σ x kd nm none (tr_N (sa_T S.1))) (en_nx σ) = some 4 := by simp [cx_mkS, eg_cl_sfi, eg_cl_sar, eg_cl_sfr, eg_cl_new]
      have h400 : en_fi (cx_mkS σ x kd nm none (tr_N (sa_T S.1))) 400 (en_nx σ) = nI (tr_N (sa_T S.1)) := by
        have : ¬ en_nx σ = x := by have := cx_44 hC; omega
        simp [cx_mkS, eg_fi_sfi, eg_fi_sar, eg_fi_sfr, eg_fi_new, this]
      simp only [Option.toList, List.cons_append, List.nil_append, j_X6_make_0, j_X6_make_1, j_X6_make_4, j_X6_make_5, j_X6_make_6, j_X6_make_9, j_X6_make_10, j_X6_make_13, j_X6_make_14, j_X6_make_15, j_X6_make_18, j_X6_make_19, j_X6_make_20, j_X6_make_21, j_X6_make_22, j_X6_make_23, j_X6_make_24, j_X6_make_27, j_X6_make_30, en_c2I, en_c2R, en_c2U, en_c2D, Option.some.injEq, exists_eq_left', exists_eq_left, Option.map_some, Option.map_none, not_true_eq_false, false_implies, true_implies, and_true, true_and, reduceCtorEq, not_false_eq_true]
      refine en_use (cu_X6_numberOf (fun a ha => by cases ha; exact hcl)) ?_
      rintro v σ' ⟨rfl, rfl⟩
      simp only [Option.toList, List.cons_append, List.nil_append, j_X6_make_0, j_X6_make_1, j_X6_make_4, j_X6_make_5, j_X6_make_6, j_X6_make_9, j_X6_make_10, j_X6_make_13, j_X6_make_14, j_X6_make_15, j_X6_make_18, j_X6_make_19, j_X6_make_20, j_X6_make_21, j_X6_make_22, j_X6_make_23, j_X6_make_24, j_X6_make_27, j_X6_make_30, en_c2I, en_c2R, en_c2U, en_c2D, Option.some.injEq, exists_eq_left', exists_eq_left, Option.map_some, Option.map_none, not_true_eq_false, false_implies, true_implies, and_true, true_and, reduceCtorEq, not_false_eq_true, Option.getD_some, h400]
      have hop : op_make S kd nm = ((st_mk S.1 kd nm none, S.2), nI (tr_N (sa_T S.1))) := by unfold op_make; rw [if_pos ⟨c1, c2, c3, c4, hN⟩]
      rw [hop] at hq
      have g : ag σ (cx_mkS σ x kd nm none (tr_N (sa_T S.1))) (fun f a => f ≠ 601 ∧ f ≠ 409) (fun q => q ≠ x + 1) := cx_mkG (na := na) (h := none) (fun a z => z.1 rfl) (fun a z => z.2 rfl) (fun z => z rfl)
      refine hq _ _ ⟨⟨_, la, ba, hCm, ?_⟩, g.mono (fun f a z => by unfold pF at z; omega) (fun a z => by unfold pV at z; omega), rfl⟩
      obtain ⟨h1, h2, h3, h4, h5, h6, h7⟩ := hP
      have r := (g.2 x (by have := cx_44 h1; omega)).2.2.1
      have mapc : ∀ (o : Option Nat), (∀ m, o = some m → m < tr_N (sa_T S.1)) → o.map (fun n => if n = tr_N (sa_T S.1) then en_nx σ else na n) = o.map na := fun o ho => omap_congr (fun m hm => if_neg (by have := ho m hm; omega))
      have hN' : tr_N (sa_T (st_mk S.1 kd nm none)) = tr_N (sa_T S.1) + 1 := rfl
      refine ⟨?_, ?_, ?_, ?_, fun n hn => ?_, fun n hn => ?_⟩
      · show en_fr _ 610 x = S.2.1.map _
        rw [mapc _ h6]
        exact ((r 610 ⟨by decide, by decide⟩).2.1).trans h2
      · show en_fr _ 611 x = S.2.2.1.map _
        rw [mapc _ h7]
        exact ((r 611 ⟨by decide, by decide⟩).2.1).trans h3
      · exact ((r 612 ⟨by decide, by decide⟩).1).trans h4
      · exact ((r 606 ⟨by decide, by decide⟩).1).trans h5
      · rw [hN']; have := h6 n hn; omega
      · rw [hN']; have := h7 n hn; omega
    · obtain ⟨rfl, rfl⟩ := h1 (by omega)
      simp only [Option.toList, List.cons_append, List.nil_append, j_X6_make_0, j_X6_make_1, j_X6_make_4, j_X6_make_5, j_X6_make_6, j_X6_make_9, j_X6_make_10, j_X6_make_13, j_X6_make_14, j_X6_make_15, j_X6_make_18, j_X6_make_19, j_X6_make_20, j_X6_make_21, j_X6_make_22, j_X6_make_23, j_X6_make_24, j_X6_make_27, j_X6_make_30, en_c2I, en_c2R, en_c2U, en_c2D, Option.some.injEq, exists_eq_left', exists_eq_left, Option.map_some, Option.map_none, not_true_eq_false, false_implies, true_implies, and_true, true_and, reduceCtorEq, not_false_eq_true]
      refine en_use (cu_X6_numberOf (fun a ha => by cases ha)) ?_
      rintro v σ' ⟨rfl, rfl⟩
      simp only [Option.toList, List.cons_append, List.nil_append, j_X6_make_0, j_X6_make_1, j_X6_make_4, j_X6_make_5, j_X6_make_6, j_X6_make_9, j_X6_make_10, j_X6_make_13, j_X6_make_14, j_X6_make_15, j_X6_make_18, j_X6_make_19, j_X6_make_20, j_X6_make_21, j_X6_make_22, j_X6_make_23, j_X6_make_24, j_X6_make_27, j_X6_make_30, en_c2I, en_c2R, en_c2U, en_c2D, Option.some.injEq, exists_eq_left', exists_eq_left, Option.map_some, Option.map_none, not_true_eq_false, false_implies, true_implies, and_true, true_and, reduceCtorEq, not_false_eq_true, Option.getD_none]
      have hop : op_make S kd nm = (S, -1) := by unfold op_make; rw [if_neg (fun z => hN z.2.2.2.2)]
      rw [hop] at hq
      exact hq _ _ ⟨hP.z (by omega), ag.rf, rfl⟩
  · have hop : op_make S kd nm = (S, -1) := by unfold op_make; rw [if_neg (fun z => hc ⟨z.1, z.2.1, z.2.2.1, z.2.2.2.1⟩)]
    rw [hop] at hq
    have fin : q (some (en_I (-1))) σ := hq _ _ ⟨hP.z (by omega), ag.rf, rfl⟩
    simp only [j_X6_make_0, j_X6_make_1, j_X6_make_4, j_X6_make_5, j_X6_make_6, j_X6_make_9, j_X6_make_10, j_X6_make_13, j_X6_make_14, j_X6_make_15, j_X6_make_18, j_X6_make_19, j_X6_make_20, j_X6_make_21, j_X6_make_22, j_X6_make_23, j_X6_make_24, j_X6_make_27, j_X6_make_30, en_c2I, en_c2R, en_c2U, en_c2D, Option.some.injEq, exists_eq_left', exists_eq_left, Option.map_some, Option.map_none, not_true_eq_false, false_implies, true_implies, and_true, true_and, reduceCtorEq, not_false_eq_true]
    exact ⟨fun _ => fin, fun h1 => ⟨fun _ => fin, fun h2 => ⟨fun _ => fin, fun h3 => ⟨fun h4 => absurd ⟨Int32.not_lt.mp h1, Int32.not_lt.mp h2, Int32.not_lt.mp h3, h4⟩ hc, fun _ => fin⟩⟩⟩⟩
theorem jp_X6_make {G : en_G}  : ∀ as σ, (C_X6_make G).1 as σ → (en_lc as).length ≤ 3 ∧ en_J (X_X6_make G (fun r σ' => (C_X6_make G).2 as σ r σ')) 0 (en_loc 3 as) [] σ := en_ghJ (fun g as σ h => by
  obtain ⟨hp, h2⟩ := h
  subst h2
  exact ⟨Nat.le_of_ble_eq_true rfl, jl_X6_make hp (fun _ _ h => h)⟩)
theorem wl_X6_make_49 : Jvm.Cond.methodLink RX6 49 yX6_addNode ∈ en_W := en_inW (List.mem_of_getElem? (i := 237) (by decide +kernel)) (by decide +kernel)
theorem wl_X6_make_53 : Jvm.Cond.methodLink RX6 53 yX6_numberOf ∈ en_W := en_inW (List.mem_of_getElem? (i := 241) (by decide +kernel)) (by decide +kernel)
theorem ok_X6_make {G : en_G}  : en_Ok G 3 yX6_make cX6_make 3 (some .int) (C_X6_make G) :=
  en_met (own := RX6) (fl := en_lk fl6) (nw := en_lk nw6) (aw := en_lk aw6) (dc := en_lk dc6) (ca := en_lk (ca_X6_make G)) (rt := 1) (ini := false) (by decide +kernel) (Or.inr (Or.inl ⟨rfl, rfl⟩)) (fun h => by cases h) rfl (fun q => en_LkF fl6_ok nw6_ok aw6_ok dc6_ok) (by
    intro idx q hq
    have hm := en_lk_mem hq
    simp only [ca_X6_make, List.mem_cons, Prod.mk.injEq, List.not_mem_nil, or_false] at hm
    rcases hm with ⟨rfl, rfl⟩ | ⟨rfl, rfl⟩
    · exact en_clV (r := (RX6, TX6, 13)) 6 3 ok_X6_addNode (by decide) (by decide) rfl rfl pr_X6_addNode wl_X6_make_49 wi_X6_addNode wx_X6_addNode wz_6 wc_X6_addNode ⟨by decide +kernel, by decide +kernel, by decide +kernel⟩
    · exact en_clS 1 ok_X6_numberOf (by decide) (by decide) pr_X6_numberOf wl_X6_make_53 ws_X6_numberOf wz_6 wc_X6_numberOf ⟨by decide +kernel, by decide +kernel, by decide +kernel⟩) jp_X6_make
def P_X6_attach (G : en_G)  (g : (Nat) × (Nat) × (pb_S) × (Int32)) (as : List en_V) (σ : en_S) : Prop := (PZ G (g.1) ((g.2.1) + 64) (g.2.2.1) σ) ∧ as = [en_R (some (g.1)), en_I (g.2.2.2)]
def C_X6_attach (G : en_G)  : en_C := en_gh (P_X6_attach G) (fun g as σ v σ' => PZ G (g.1) (g.2.1) (op_attach (g.2.2.1) (g.2.2.2)).1 σ' ∧ ag σ σ' pF (pV (g.1)) ∧ v = some (en_I (op_attach (g.2.2.1) (g.2.2.2)).2))
theorem pr_X6_attach {G : en_G}  : ∀ as σ, (C_X6_attach G).1 as σ → ∃ b tl, as = en_R (some b) :: tl ∧ en_cl σ b = some 6 ∧ tl.length = 1 := fun as σ ⟨g, hp, h2⟩ => ⟨_, _, h2, hp.cl, rfl⟩
theorem cu_X6_attach {G : en_G}  {x : Nat} {rm : Nat} {S : pb_S} {k : Int32} {σ : en_S} (hp : PZ G x (rm + 64) S σ) : en_Us (C_X6_attach G) [en_R (some x), en_I k] σ (fun v σ' => PZ G x rm (op_attach S k).1 σ' ∧ ag σ σ' pF (pV x) ∧ v = some (en_I (op_attach S k).2)) := ⟨⟨(x, rm, S, k), hp, rfl⟩, fun v σ' q => q (x, rm, S, k) ⟨hp, rfl⟩⟩
def ca_X6_attach (G : en_G) : List (Nat × Nat × en_C) := [(57, 9, (C_X6_nodeAt G)), (49, 17, (C_X6_addNode G)), (53, 4, C_X6_numberOf)]
def X_X6_attach (G : en_G) (q : Option en_V → en_S → Prop) : en_X := en_mk G cX6_attach (en_lk fl6) (en_lk nw6) (en_lk aw6) (en_lk dc6) (en_lk (ca_X6_attach G)) 1 false q
theorem d_X6_attach_0 : decode cX6_attach 0 = .ok (.aload_n 0, 1) := by decide +kernel
theorem j_X6_attach_0 {G : en_G} {q : Option en_V → en_S → Prop}  {l1 l2 : en_V} {x0 : Option Nat} {σ : en_S} : en_J (X_X6_attach G q) 0 [en_R x0, l1, l2] [] σ ↔ en_J (X_X6_attach G q) 1 [en_R x0, l1, l2] [en_R x0] σ := en_j1 d_X6_attach_0 rfl rfl
theorem d_X6_attach_1 : decode cX6_attach 1 = .ok (.iload_n 1, 1) := by decide +kernel
theorem j_X6_attach_1 {G : en_G} {q : Option en_V → en_S → Prop}  {l0 l2 : en_V} {a0 : Option Nat} {x1 : Int32} {σ : en_S} : en_J (X_X6_attach G q) 1 [l0, en_I x1, l2] [en_R a0] σ ↔ en_J (X_X6_attach G q) 2 [l0, en_I x1, l2] [en_I x1, en_R a0] σ := en_j1 d_X6_attach_1 rfl rfl
theorem d_X6_attach_2 : decode cX6_attach 2 = .ok (.invokevirtual 57, 3) := by decide +kernel
theorem j_X6_attach_2 {G : en_G} {q : Option en_V → en_S → Prop}  {l0 l1 l2 : en_V} {a0 : Int32} {a1 : Option Nat} {σ : en_S} : en_J (X_X6_attach G q) 2 [l0, l1, l2] [en_I a0, en_R a1] σ ↔ (C_X6_nodeAt G).1 [en_R a1, en_I a0] σ ∧ ∀ (r : Option en_V) (σ' : en_S), (C_X6_nodeAt G).2 [en_R a1, en_I a0] σ r σ' → en_J (X_X6_attach G q) 5 [l0, l1, l2] (r.toList ++ []) σ' := en_jkC (C := (C_X6_nodeAt G)) (n' := 2) (k := 1) (idx := 57) d_X6_attach_2 rfl rfl (by decide) (Nat.le_of_ble_eq_true rfl) (Nat.le_of_ble_eq_true rfl)
theorem d_X6_attach_5 : decode cX6_attach 5 = .ok (.astore_n 2, 1) := by decide +kernel
theorem j_X6_attach_5 {G : en_G} {q : Option en_V → en_S → Prop}  {l0 l1 l2 : en_V} {a0 : Option Nat} {σ : en_S} : en_J (X_X6_attach G q) 5 [l0, l1, l2] [en_R a0] σ ↔ en_J (X_X6_attach G q) 6 [l0, en_c2 l1, en_R a0] [] σ := en_j1 d_X6_attach_5 rfl ⟨rfl, Nat.le_of_ble_eq_true rfl⟩
theorem d_X6_attach_6 : decode cX6_attach 6 = .ok (.aload_n 2, 1) := by decide +kernel
theorem j_X6_attach_6 {G : en_G} {q : Option en_V → en_S → Prop}  {l0 l1 : en_V} {x2 : Option Nat} {σ : en_S} : en_J (X_X6_attach G q) 6 [l0, l1, en_R x2] [] σ ↔ en_J (X_X6_attach G q) 7 [l0, l1, en_R x2] [en_R x2] σ := en_j1 d_X6_attach_6 rfl rfl
theorem d_X6_attach_7 : decode cX6_attach 7 = .ok (.ifnull 17, 3) := by decide +kernel
theorem j_X6_attach_7 {G : en_G} {q : Option en_V → en_S → Prop}  {l0 l1 l2 : en_V} {a0 : Option Nat} {σ : en_S} : en_J (X_X6_attach G q) 7 [l0, l1, l2] [en_R a0] σ ↔ (a0 = none → en_J (X_X6_attach G q) 24 [l0, l1, l2] [] σ) ∧ (¬ (a0 = none) → en_J (X_X6_attach G q) 10 [l0, l1, l2] [] σ) := en_jb d_X6_attach_7 rfl ⟨rfl, by decide⟩
theorem d_X6_attach_10 : decode cX6_attach 10 = .ok (.aload_n 2, 1) := by decide +kernel
theorem j_X6_attach_10 {G : en_G} {q : Option en_V → en_S → Prop}  {l0 l1 : en_V} {x2 : Option Nat} {σ : en_S} : en_J (X_X6_attach G q) 10 [l0, l1, en_R x2] [] σ ↔ en_J (X_X6_attach G q) 11 [l0, l1, en_R x2] [en_R x2] σ := en_j1 d_X6_attach_10 rfl rfl
theorem d_X6_attach_11 : decode cX6_attach 11 = .ok (.getfield 61, 3) := by decide +kernel
theorem j_X6_attach_11 {G : en_G} {q : Option en_V → en_S → Prop}  {l0 l1 l2 : en_V} {a0 : Option Nat} {σ : en_S} : en_J (X_X6_attach G q) 11 [l0, l1, l2] [en_R a0] σ ↔ ∃ a, a0 = some a ∧ en_cl σ a = some 4 ∧ en_J (X_X6_attach G q) 14 [l0, l1, l2] [en_I (en_fi σ 401 a)] σ := en_jg (st := fun o => [en_R o]) (st' := fun a => [en_I (en_fi σ 401 a)]) (σ' := fun _ => σ) d_X6_attach_11 rfl (fun a => rfl) (fun a => ⟨fun h => h.2, fun h => ⟨rfl, h⟩⟩)
theorem d_X6_attach_14 : decode cX6_attach 14 = .ok (.ifCond .ne 10, 3) := by decide +kernel
theorem j_X6_attach_14 {G : en_G} {q : Option en_V → en_S → Prop}  {l0 l1 l2 : en_V} {a0 : Int32} {σ : en_S} : en_J (X_X6_attach G q) 14 [l0, l1, l2] [en_I a0] σ ↔ (¬ a0 = 0 → en_J (X_X6_attach G q) 24 [l0, l1, l2] [] σ) ∧ (¬ (¬ a0 = 0) → en_J (X_X6_attach G q) 17 [l0, l1, l2] [] σ) := en_jb d_X6_attach_14 rfl ⟨rfl, by decide⟩
theorem d_X6_attach_17 : decode cX6_attach 17 = .ok (.aload_n 2, 1) := by decide +kernel
theorem j_X6_attach_17 {G : en_G} {q : Option en_V → en_S → Prop}  {l0 l1 : en_V} {x2 : Option Nat} {σ : en_S} : en_J (X_X6_attach G q) 17 [l0, l1, en_R x2] [] σ ↔ en_J (X_X6_attach G q) 18 [l0, l1, en_R x2] [en_R x2] σ := en_j1 d_X6_attach_17 rfl rfl
theorem d_X6_attach_18 : decode cX6_attach 18 = .ok (.getfield 64, 3) := by decide +kernel
theorem j_X6_attach_18 {G : en_G} {q : Option en_V → en_S → Prop}  {l0 l1 l2 : en_V} {a0 : Option Nat} {σ : en_S} : en_J (X_X6_attach G q) 18 [l0, l1, l2] [en_R a0] σ ↔ ∃ a, a0 = some a ∧ en_cl σ a = some 4 ∧ en_J (X_X6_attach G q) 21 [l0, l1, l2] [en_R (en_fr σ 409 a)] σ := en_jg (st := fun o => [en_R o]) (st' := fun a => [en_R (en_fr σ 409 a)]) (σ' := fun _ => σ) d_X6_attach_18 rfl (fun a => rfl) (fun a => ⟨fun h => h.2, fun h => ⟨rfl, h⟩⟩)
theorem d_X6_attach_21 : decode cX6_attach 21 = .ok (.ifnull 5, 3) := by decide +kernel
theorem j_X6_attach_21 {G : en_G} {q : Option en_V → en_S → Prop}  {l0 l1 l2 : en_V} {a0 : Option Nat} {σ : en_S} : en_J (X_X6_attach G q) 21 [l0, l1, l2] [en_R a0] σ ↔ (a0 = none → en_J (X_X6_attach G q) 26 [l0, l1, l2] [] σ) ∧ (¬ (a0 = none) → en_J (X_X6_attach G q) 24 [l0, l1, l2] [] σ) := en_jb d_X6_attach_21 rfl ⟨rfl, by decide⟩
theorem d_X6_attach_24 : decode cX6_attach 24 = .ok (.iconst (-1), 1) := by decide +kernel
theorem j_X6_attach_24 {G : en_G} {q : Option en_V → en_S → Prop}  {l0 l1 l2 : en_V}  {σ : en_S} : en_J (X_X6_attach G q) 24 [l0, l1, l2] [] σ ↔ en_J (X_X6_attach G q) 25 [l0, l1, l2] [en_I (-1)] σ := ej_iconst d_X6_attach_24 (by decide +kernel)
theorem d_X6_attach_25 : decode cX6_attach 25 = .ok (.ireturn, 1) := by decide +kernel
theorem j_X6_attach_25 {G : en_G} {q : Option en_V → en_S → Prop}  {l0 l1 l2 : en_V} {a0 : Int32} {σ : en_S} : en_J (X_X6_attach G q) 25 [l0, l1, l2] [en_I a0] σ ↔ q (some (en_I a0)) σ := en_jr d_X6_attach_25 rfl ⟨fun h => h.2.2, fun h => ⟨rfl, Or.inl rfl, h⟩⟩
theorem d_X6_attach_26 : decode cX6_attach 26 = .ok (.aload_n 2, 1) := by decide +kernel
theorem j_X6_attach_26 {G : en_G} {q : Option en_V → en_S → Prop}  {l0 l1 : en_V} {x2 : Option Nat} {σ : en_S} : en_J (X_X6_attach G q) 26 [l0, l1, en_R x2] [] σ ↔ en_J (X_X6_attach G q) 27 [l0, l1, en_R x2] [en_R x2] σ := en_j1 d_X6_attach_26 rfl rfl
theorem d_X6_attach_27 : decode cX6_attach 27 = .ok (.aload_n 0, 1) := by decide +kernel
theorem j_X6_attach_27 {G : en_G} {q : Option en_V → en_S → Prop}  {l1 l2 : en_V} {a0 : Option Nat} {x0 : Option Nat} {σ : en_S} : en_J (X_X6_attach G q) 27 [en_R x0, l1, l2] [en_R a0] σ ↔ en_J (X_X6_attach G q) 28 [en_R x0, l1, l2] [en_R x0, en_R a0] σ := en_j1 d_X6_attach_27 rfl rfl
theorem d_X6_attach_28 : decode cX6_attach 28 = .ok (.iconst 4, 1) := by decide +kernel
theorem j_X6_attach_28 {G : en_G} {q : Option en_V → en_S → Prop}  {l0 l1 l2 : en_V} {a0 : Option Nat} {a1 : Option Nat} {σ : en_S} : en_J (X_X6_attach G q) 28 [l0, l1, l2] [en_R a0, en_R a1] σ ↔ en_J (X_X6_attach G q) 29 [l0, l1, l2] [en_I 4, en_R a0, en_R a1] σ := ej_iconst d_X6_attach_28 (by decide +kernel)
theorem d_X6_attach_29 : decode cX6_attach 29 = .ok (.iconst (-1), 1) := by decide +kernel
theorem j_X6_attach_29 {G : en_G} {q : Option en_V → en_S → Prop}  {l0 l1 l2 : en_V} {a0 : Int32} {a1 : Option Nat} {a2 : Option Nat} {σ : en_S} : en_J (X_X6_attach G q) 29 [l0, l1, l2] [en_I a0, en_R a1, en_R a2] σ ↔ en_J (X_X6_attach G q) 30 [l0, l1, l2] [en_I (-1), en_I a0, en_R a1, en_R a2] σ := ej_iconst d_X6_attach_29 (by decide +kernel)
theorem d_X6_attach_30 : decode cX6_attach 30 = .ok (.aload_n 2, 1) := by decide +kernel
theorem j_X6_attach_30 {G : en_G} {q : Option en_V → en_S → Prop}  {l0 l1 : en_V} {a0 : Int32} {a1 : Int32} {a2 : Option Nat} {a3 : Option Nat} {x2 : Option Nat} {σ : en_S} : en_J (X_X6_attach G q) 30 [l0, l1, en_R x2] [en_I a0, en_I a1, en_R a2, en_R a3] σ ↔ en_J (X_X6_attach G q) 31 [l0, l1, en_R x2] [en_R x2, en_I a0, en_I a1, en_R a2, en_R a3] σ := en_j1 d_X6_attach_30 rfl rfl
theorem d_X6_attach_31 : decode cX6_attach 31 = .ok (.invokevirtual 49, 3) := by decide +kernel
theorem j_X6_attach_31 {G : en_G} {q : Option en_V → en_S → Prop}  {l0 l1 l2 : en_V} {a0 : Option Nat} {a1 : Int32} {a2 : Int32} {a3 : Option Nat} {a4 : Option Nat} {σ : en_S} : en_J (X_X6_attach G q) 31 [l0, l1, l2] [en_R a0, en_I a1, en_I a2, en_R a3, en_R a4] σ ↔ (C_X6_addNode G).1 [en_R a3, en_I a2, en_I a1, en_R a0] σ ∧ ∀ (r : Option en_V) (σ' : en_S), (C_X6_addNode G).2 [en_R a3, en_I a2, en_I a1, en_R a0] σ r σ' → en_J (X_X6_attach G q) 34 [l0, l1, l2] (r.toList ++ [en_R a4]) σ' := en_jkC (C := (C_X6_addNode G)) (n' := 4) (k := 1) (idx := 49) d_X6_attach_31 rfl rfl (by decide) (Nat.le_of_ble_eq_true rfl) (Nat.le_of_ble_eq_true rfl)
theorem d_X6_attach_34 : decode cX6_attach 34 = .ok (.putfield 64, 3) := by decide +kernel
theorem j_X6_attach_34 {G : en_G} {q : Option en_V → en_S → Prop}  {l0 l1 l2 : en_V} {a0 : Option Nat} {a1 : Option Nat} {σ : en_S} : en_J (X_X6_attach G q) 34 [l0, l1, l2] [en_R a0, en_R a1] σ ↔ ∃ a, a1 = some a ∧ en_cl σ a = some 4 ∧ en_J (X_X6_attach G q) 37 [l0, l1, l2] [] (en_sfr σ 409 a a0) := en_jg (st := fun o => [en_R a0, en_R o]) (st' := fun _ => []) (σ' := fun a => en_sfr σ 409 a a0) d_X6_attach_34 rfl (fun a => rfl) (fun a => ⟨fun h => h.2.1, fun h => ⟨rfl, h, trivial, fun z => absurd z (by decide +kernel)⟩⟩)
theorem d_X6_attach_37 : decode cX6_attach 37 = .ok (.aload_n 2, 1) := by decide +kernel
theorem j_X6_attach_37 {G : en_G} {q : Option en_V → en_S → Prop}  {l0 l1 : en_V} {x2 : Option Nat} {σ : en_S} : en_J (X_X6_attach G q) 37 [l0, l1, en_R x2] [] σ ↔ en_J (X_X6_attach G q) 38 [l0, l1, en_R x2] [en_R x2] σ := en_j1 d_X6_attach_37 rfl rfl
theorem d_X6_attach_38 : decode cX6_attach 38 = .ok (.getfield 64, 3) := by decide +kernel
theorem j_X6_attach_38 {G : en_G} {q : Option en_V → en_S → Prop}  {l0 l1 l2 : en_V} {a0 : Option Nat} {σ : en_S} : en_J (X_X6_attach G q) 38 [l0, l1, l2] [en_R a0] σ ↔ ∃ a, a0 = some a ∧ en_cl σ a = some 4 ∧ en_J (X_X6_attach G q) 41 [l0, l1, l2] [en_R (en_fr σ 409 a)] σ := en_jg (st := fun o => [en_R o]) (st' := fun a => [en_R (en_fr σ 409 a)]) (σ' := fun _ => σ) d_X6_attach_38 rfl (fun a => rfl) (fun a => ⟨fun h => h.2, fun h => ⟨rfl, h⟩⟩)
theorem d_X6_attach_41 : decode cX6_attach 41 = .ok (.invokestatic 53, 3) := by decide +kernel
theorem j_X6_attach_41 {G : en_G} {q : Option en_V → en_S → Prop}  {l0 l1 l2 : en_V} {a0 : Option Nat} {σ : en_S} : en_J (X_X6_attach G q) 41 [l0, l1, l2] [en_R a0] σ ↔ C_X6_numberOf.1 [en_R a0] σ ∧ ∀ (r : Option en_V) (σ' : en_S), C_X6_numberOf.2 [en_R a0] σ r σ' → en_J (X_X6_attach G q) 44 [l0, l1, l2] (r.toList ++ []) σ' := en_jk d_X6_attach_41 rfl ⟨fun h => h.2.2.2.2, fun h => ⟨rfl, rfl, Nat.le_of_ble_eq_true rfl, Nat.le_of_ble_eq_true rfl, h⟩⟩
theorem d_X6_attach_44 : decode cX6_attach 44 = .ok (.ireturn, 1) := by decide +kernel
theorem j_X6_attach_44 {G : en_G} {q : Option en_V → en_S → Prop}  {l0 l1 l2 : en_V} {a0 : Int32} {σ : en_S} : en_J (X_X6_attach G q) 44 [l0, l1, l2] [en_I a0] σ ↔ q (some (en_I a0)) σ := en_jr d_X6_attach_44 rfl ⟨fun h => h.2.2, fun h => ⟨rfl, Or.inl rfl, h⟩⟩
theorem wc_X6_attach : Jvm.Cond.code yX6_attach cX6_attach 3 (some .int) ∈ en_W := en_inW (List.mem_of_getElem? (i := 247) (by decide +kernel)) (by decide +kernel)
theorem wi_X6_attach : Jvm.Cond.instanceMethod yX6_attach ∈ en_W := en_inW (List.mem_of_getElem? (i := 245) (by decide +kernel)) (by decide +kernel)
theorem wx_X6_attach : Jvm.Cond.selects RX6 yX6_attach yX6_attach ∈ en_W := en_inW (List.mem_of_getElem? (i := 246) (by decide +kernel)) (by decide +kernel)
theorem jl_X6_attach {G : en_G}  {x : Nat} {rm : Nat} {S : pb_S} {k : Int32} {q : Option en_V → en_S → Prop} {σ : en_S} (hp : PZ G x (rm + 64) S σ) (hq : ∀ v σ', (PZ G x rm (op_attach S k).1 σ' ∧ ag σ σ' pF (pV x) ∧ v = some (en_I (op_attach S k).2)) → q v σ') : en_J (X_X6_attach G q) 0 [en_R (some x), en_I k, en_U] [] σ := by
  obtain ⟨na, la, ba, hP⟩ := hp
  have hC := hP.1
  have w := hC.2.2.2.2.2.2.2.2.1
  have fin : op_attach S k = (S, -1) → q (some (en_I (-1))) σ := fun hop => hq _ _ ⟨by rw [hop]; exact hP.z (by omega), ag.rf, by rw [hop]⟩
  simp only [j_X6_attach_0, j_X6_attach_1, j_X6_attach_2, j_X6_attach_5, j_X6_attach_6, j_X6_attach_7, j_X6_attach_10, j_X6_attach_11, j_X6_attach_14, j_X6_attach_17, j_X6_attach_18, j_X6_attach_21, j_X6_attach_24, j_X6_attach_25, j_X6_attach_26, j_X6_attach_27, j_X6_attach_28, j_X6_attach_29, j_X6_attach_30, j_X6_attach_31, j_X6_attach_34, j_X6_attach_37, j_X6_attach_38, j_X6_attach_41, j_X6_attach_44, en_c2I, en_c2R, en_c2U, en_c2D, Option.some.injEq, exists_eq_left', exists_eq_left, Option.map_some, Option.map_none, not_true_eq_false, false_implies, true_implies, and_true, true_and, reduceCtorEq, not_false_eq_true]
  refine en_use (cu_X6_nodeAt hC) ?_
  rintro v σ' ⟨rfl, rfl⟩
  cases hx : st_ix (tr_N (sa_T S.1)) k with
  | none =>
    simp only [Option.toList, List.cons_append, List.nil_append, j_X6_attach_0, j_X6_attach_1, j_X6_attach_2, j_X6_attach_5, j_X6_attach_6, j_X6_attach_7, j_X6_attach_10, j_X6_attach_11, j_X6_attach_14, j_X6_attach_17, j_X6_attach_18, j_X6_attach_21, j_X6_attach_24, j_X6_attach_25, j_X6_attach_26, j_X6_attach_27, j_X6_attach_28, j_X6_attach_29, j_X6_attach_30, j_X6_attach_31, j_X6_attach_34, j_X6_attach_37, j_X6_attach_38, j_X6_attach_41, j_X6_attach_44, en_c2I, en_c2R, en_c2U, en_c2D, Option.some.injEq, exists_eq_left', exists_eq_left, Option.map_some, Option.map_none, not_true_eq_false, false_implies, true_implies, and_true, true_and, reduceCtorEq, not_false_eq_true]
    exact fin (by unfold op_attach; rw [hx])
  | some h =>
    obtain ⟨hh, rfl⟩ := st_ix_some (by have := w.1.1.2; omega) hx
    obtain ⟨r1, r2, r3, r4, r5, r6, r7, r8, r9, r10, r11⟩ := hC.2.1.1 h hh
    by_cases hk : tr_kd (sa_T S.1) h = 0
    · cases hs : tr_sh (sa_T S.1) h with
      | some z =>
        rw [hs] at r11
        simp only [Option.toList, List.cons_append, List.nil_append, j_X6_attach_0, j_X6_attach_1, j_X6_attach_2, j_X6_attach_5, j_X6_attach_6, j_X6_attach_7, j_X6_attach_10, j_X6_attach_11, j_X6_attach_14, j_X6_attach_17, j_X6_attach_18, j_X6_attach_21, j_X6_attach_24, j_X6_attach_25, j_X6_attach_26, j_X6_attach_27, j_X6_attach_28, j_X6_attach_29, j_X6_attach_30, j_X6_attach_31, j_X6_attach_34, j_X6_attach_37, j_X6_attach_38, j_X6_attach_41, j_X6_attach_44, en_c2I, en_c2R, en_c2U, en_c2D, Option.some.injEq, exists_eq_left', exists_eq_left, Option.map_some, Option.map_none, not_true_eq_false, false_implies, true_implies, and_true, true_and, reduceCtorEq, not_false_eq_true, r1, r3, hk, r11]
        exact fin (by unfold op_attach; rw [hx]; simp [hs])
      | none =>
        rw [hs] at r11
        simp only [Option.toList, List.cons_append, List.nil_append, j_X6_attach_0, j_X6_attach_1, j_X6_attach_2, j_X6_attach_5, j_X6_attach_6, j_X6_attach_7, j_X6_attach_10, j_X6_attach_11, j_X6_attach_14, j_X6_attach_17, j_X6_attach_18, j_X6_attach_21, j_X6_attach_24, j_X6_attach_25, j_X6_attach_26, j_X6_attach_27, j_X6_attach_28, j_X6_attach_29, j_X6_attach_30, j_X6_attach_31, j_X6_attach_34, j_X6_attach_37, j_X6_attach_38, j_X6_attach_41, j_X6_attach_44, en_c2I, en_c2R, en_c2U, en_c2D, Option.some.injEq, exists_eq_left', exists_eq_left, Option.map_some, Option.map_none, not_true_eq_false, false_implies, true_implies, and_true, true_and, reduceCtorEq, not_false_eq_true, r1, r3, hk, r11]
        have hu := cu_X6_addNode (kd := 4) (nm := -1) (h := some h) ⟨hC.rm (show rm + 1 ≤ rm + 64 by omega), fun b z => by cases z; exact hh⟩
        simp only [Option.map_some] at hu
        refine en_use hu ?_
        rintro v σ'' ⟨h1, h2⟩
        by_cases hN : tr_N (sa_T S.1) < 24
        · obtain ⟨rfl, rfl⟩ := h2 hN
          have hCm := cx_mk (nm := -1) (kd := 4) (h := some h) (hC.rm (show rm + 1 ≤ rm + 64 by omega)) hN (Or.inr ⟨rfl, h, rfl, hh, hk, hs⟩)
          have hnah : ¬ na h = en_nx σ' := fun z => by have := fresh_cl hC.1.2.2.2.2.2.2 r1; omega
          have hcl : en_cl (cx_mkS σ' x 4 (-1) (some (na h)) (tr_N (sa_T S.1))) (na h) = some 4 := by simp [cx_mkS, eg_cl_sfi, eg_cl_sar, eg_cl_sfr, eg_cl_new, hnah, r1]
          have hcl2 : en_cl (cx_mkS σ' x 4 (-1) (some (na h)) (tr_N (sa_T S.1))) (en_nx σ') = some 4 := by simp [cx_mkS, eg_cl_sfi, eg_cl_sar, eg_cl_sfr, eg_cl_new]
          have h400 : en_fi (cx_mkS σ' x 4 (-1) (some (na h)) (tr_N (sa_T S.1))) 400 (en_nx σ') = nI (tr_N (sa_T S.1)) := by
            have : ¬ en_nx σ' = x := by have := cx_44 hC; omega
            simp [cx_mkS, eg_fi_sfi, eg_fi_sar, eg_fi_sfr, eg_fi_new, this]
          simp only [Option.toList, List.cons_append, List.nil_append, j_X6_attach_0, j_X6_attach_1, j_X6_attach_2, j_X6_attach_5, j_X6_attach_6, j_X6_attach_7, j_X6_attach_10, j_X6_attach_11, j_X6_attach_14, j_X6_attach_17, j_X6_attach_18, j_X6_attach_21, j_X6_attach_24, j_X6_attach_25, j_X6_attach_26, j_X6_attach_27, j_X6_attach_28, j_X6_attach_29, j_X6_attach_30, j_X6_attach_31, j_X6_attach_34, j_X6_attach_37, j_X6_attach_38, j_X6_attach_41, j_X6_attach_44, en_c2I, en_c2R, en_c2U, en_c2D, Option.some.injEq, exists_eq_left', exists_eq_left, Option.map_some, Option.map_none, not_true_eq_false, false_implies, true_implies, and_true, true_and, reduceCtorEq, not_false_eq_true, eg_cl_sfr, eg_fr_sfr, hcl, if_true]
          refine en_use (cu_X6_numberOf (fun a ha => by cases ha; exact hcl2)) ?_
          rintro v σ'' ⟨rfl, rfl⟩
          simp only [Option.toList, List.cons_append, List.nil_append, j_X6_attach_0, j_X6_attach_1, j_X6_attach_2, j_X6_attach_5, j_X6_attach_6, j_X6_attach_7, j_X6_attach_10, j_X6_attach_11, j_X6_attach_14, j_X6_attach_17, j_X6_attach_18, j_X6_attach_21, j_X6_attach_24, j_X6_attach_25, j_X6_attach_26, j_X6_attach_27, j_X6_attach_28, j_X6_attach_29, j_X6_attach_30, j_X6_attach_31, j_X6_attach_34, j_X6_attach_37, j_X6_attach_38, j_X6_attach_41, j_X6_attach_44, en_c2I, en_c2R, en_c2U, en_c2D, Option.some.injEq, exists_eq_left', exists_eq_left, Option.map_some, Option.map_none, not_true_eq_false, false_implies, true_implies, and_true, true_and, reduceCtorEq, not_false_eq_true, Option.getD_some, eg_fi_sfr, h400]
          have hop : op_attach S (nI h) = ((st_mk S.1 4 (-1) (some h), S.2), nI (tr_N (sa_T S.1))) := by unfold op_attach; rw [hx]; simp [hk, hs, hN]
          rw [hop] at hq
          have g : ag σ' (cx_mkT σ' x na 4 (-1) (some h) (tr_N (sa_T S.1))) (fun f a => f ≠ 601 ∧ f ≠ 409) (fun q => q ≠ x + 1) := cx_mkG (fun a z => z.1 rfl) (fun a z => z.2 rfl) (fun z => z rfl)
          refine hq _ _ ⟨⟨_, la, ba, hCm, ?_⟩, g.mono (fun f a z => by unfold pF at z; omega) (fun a z => by unfold pV at z; omega), rfl⟩
          obtain ⟨h1, h2, h3, h4, h5, h6, h7⟩ := hP
          have r := (g.2 x (by have := cx_44 h1; omega)).2.2.1
          have mapc : ∀ (o : Option Nat), (∀ m, o = some m → m < tr_N (sa_T S.1)) → o.map (fun n => if n = tr_N (sa_T S.1) then en_nx σ' else na n) = o.map na := fun o ho => omap_congr (fun m hm => if_neg (by have := ho m hm; omega))
          have hN' : tr_N (sa_T (st_mk S.1 4 (-1) (some h))) = tr_N (sa_T S.1) + 1 := rfl
          refine ⟨?_, ?_, ?_, ?_, fun n hn => ?_, fun n hn => ?_⟩
          · show en_fr _ 610 x = S.2.1.map _
            rw [mapc _ h6]
            exact ((r 610 ⟨by decide, by decide⟩).2.1).trans h2
          · show en_fr _ 611 x = S.2.2.1.map _
            rw [mapc _ h7]
            exact ((r 611 ⟨by decide, by decide⟩).2.1).trans h3
          · exact ((r 612 ⟨by decide, by decide⟩).1).trans h4
          · exact ((r 606 ⟨by decide, by decide⟩).1).trans h5
          · rw [hN']; have := h6 n hn; omega
          · rw [hN']; have := h7 n hn; omega
        · obtain ⟨rfl, rfl⟩ := h1 (by omega)
          have g9 : ag σ'' (en_sfr σ'' 409 (na h) none) (fun f a => ¬ (f = 409 ∧ a = na h)) (fun _ => True) := ag_sfr (fun a z q => z ⟨rfl, q⟩)
          have hsame : en_sfr σ'' 409 (na h) none = σ'' := by
            have : (fun g b => if g = 409 ∧ b = na h then none else en_fr σ'' g b) = en_fr σ'' := by
              funext g b
              by_cases e : g = 409 ∧ b = na h
              · rw [if_pos e, e.1, e.2, r11]; rfl
              · rw [if_neg e]
            obtain ⟨s1, s2, s3, s4⟩ := σ''
            show (s1, s2, (fun g b => if g = 409 ∧ b = na h then none else s3 g b), s4) = (s1, s2, s3, s4)
            have this : (fun g b => if g = 409 ∧ b = na h then none else s3 g b) = s3 := this
            rw [this]
          simp only [Option.toList, List.cons_append, List.nil_append, j_X6_attach_0, j_X6_attach_1, j_X6_attach_2, j_X6_attach_5, j_X6_attach_6, j_X6_attach_7, j_X6_attach_10, j_X6_attach_11, j_X6_attach_14, j_X6_attach_17, j_X6_attach_18, j_X6_attach_21, j_X6_attach_24, j_X6_attach_25, j_X6_attach_26, j_X6_attach_27, j_X6_attach_28, j_X6_attach_29, j_X6_attach_30, j_X6_attach_31, j_X6_attach_34, j_X6_attach_37, j_X6_attach_38, j_X6_attach_41, j_X6_attach_44, en_c2I, en_c2R, en_c2U, en_c2D, Option.some.injEq, exists_eq_left', exists_eq_left, Option.map_some, Option.map_none, not_true_eq_false, false_implies, true_implies, and_true, true_and, reduceCtorEq, not_false_eq_true, r1, hsame, r11]
          refine en_use (cu_X6_numberOf (fun a ha => by cases ha)) ?_
          rintro v σ' ⟨rfl, rfl⟩
          simp only [Option.toList, List.cons_append, List.nil_append, j_X6_attach_0, j_X6_attach_1, j_X6_attach_2, j_X6_attach_5, j_X6_attach_6, j_X6_attach_7, j_X6_attach_10, j_X6_attach_11, j_X6_attach_14, j_X6_attach_17, j_X6_attach_18, j_X6_attach_21, j_X6_attach_24, j_X6_attach_25, j_X6_attach_26, j_X6_attach_27, j_X6_attach_28, j_X6_attach_29, j_X6_attach_30, j_X6_attach_31, j_X6_attach_34, j_X6_attach_37, j_X6_attach_38, j_X6_attach_41, j_X6_attach_44, en_c2I, en_c2R, en_c2U, en_c2D, Option.some.injEq, exists_eq_left', exists_eq_left, Option.map_some, Option.map_none, not_true_eq_false, false_implies, true_implies, and_true, true_and, reduceCtorEq, not_false_eq_true, Option.getD_none]
          exact fin (by unfold op_attach; rw [hx]; simp [hN])
    · simp only [Option.toList, List.cons_append, List.nil_append, j_X6_attach_0, j_X6_attach_1, j_X6_attach_2, j_X6_attach_5, j_X6_attach_6, j_X6_attach_7, j_X6_attach_10, j_X6_attach_11, j_X6_attach_14, j_X6_attach_17, j_X6_attach_18, j_X6_attach_21, j_X6_attach_24, j_X6_attach_25, j_X6_attach_26, j_X6_attach_27, j_X6_attach_28, j_X6_attach_29, j_X6_attach_30, j_X6_attach_31, j_X6_attach_34, j_X6_attach_37, j_X6_attach_38, j_X6_attach_41, j_X6_attach_44, en_c2I, en_c2R, en_c2U, en_c2D, Option.some.injEq, exists_eq_left', exists_eq_left, Option.map_some, Option.map_none, not_true_eq_false, false_implies, true_implies, and_true, true_and, reduceCtorEq, not_false_eq_true, r1, r3, hk]
      exact fin (by unfold op_attach; rw [hx]; simp [hk])
theorem jp_X6_attach {G : en_G}  : ∀ as σ, (C_X6_attach G).1 as σ → (en_lc as).length ≤ 3 ∧ en_J (X_X6_attach G (fun r σ' => (C_X6_attach G).2 as σ r σ')) 0 (en_loc 3 as) [] σ := en_ghJ (fun g as σ h => by
  obtain ⟨hp, h2⟩ := h
  subst h2
  exact ⟨Nat.le_of_ble_eq_true rfl, jl_X6_attach hp (fun _ _ h => h)⟩)
theorem wl_X6_attach_57 : Jvm.Cond.methodLink RX6 57 yX6_nodeAt ∈ en_W := en_inW (List.mem_of_getElem? (i := 248) (by decide +kernel)) (by decide +kernel)
theorem wl_X6_attach_49 : Jvm.Cond.methodLink RX6 49 yX6_addNode ∈ en_W := en_inW (List.mem_of_getElem? (i := 237) (by decide +kernel)) (by decide +kernel)
theorem wl_X6_attach_53 : Jvm.Cond.methodLink RX6 53 yX6_numberOf ∈ en_W := en_inW (List.mem_of_getElem? (i := 241) (by decide +kernel)) (by decide +kernel)
theorem ok_X6_attach {G : en_G}  : en_Ok G 3 yX6_attach cX6_attach 3 (some .int) (C_X6_attach G) :=
  en_met (own := RX6) (fl := en_lk fl6) (nw := en_lk nw6) (aw := en_lk aw6) (dc := en_lk dc6) (ca := en_lk (ca_X6_attach G)) (rt := 1) (ini := false) (by decide +kernel) (Or.inr (Or.inl ⟨rfl, rfl⟩)) (fun h => by cases h) rfl (fun q => en_LkF fl6_ok nw6_ok aw6_ok dc6_ok) (by
    intro idx q hq
    have hm := en_lk_mem hq
    simp only [ca_X6_attach, List.mem_cons, Prod.mk.injEq, List.not_mem_nil, or_false] at hm
    rcases hm with ⟨rfl, rfl⟩ | ⟨rfl, rfl⟩ | ⟨rfl, rfl⟩
    · exact en_clV (r := (RX6, TX6, 13)) 6 1 ok_X6_nodeAt (by decide) (by decide) rfl rfl pr_X6_nodeAt wl_X6_attach_57 wi_X6_nodeAt wx_X6_nodeAt wz_6 wc_X6_nodeAt ⟨by decide +kernel, by decide +kernel, by decide +kernel⟩
    · exact en_clV (r := (RX6, TX6, 13)) 6 3 ok_X6_addNode (by decide) (by decide) rfl rfl pr_X6_addNode wl_X6_attach_49 wi_X6_addNode wx_X6_addNode wz_6 wc_X6_addNode ⟨by decide +kernel, by decide +kernel, by decide +kernel⟩
    · exact en_clS 1 ok_X6_numberOf (by decide) (by decide) pr_X6_numberOf wl_X6_attach_53 ws_X6_numberOf wz_6 wc_X6_numberOf ⟨by decide +kernel, by decide +kernel, by decide +kernel⟩) jp_X6_attach
