/-! THE REFERENCE sends: its paths -/
def pr_row (m d : Nat) (L : List (Nat × Nat)) (σ : en_S) : Prop := ∀ i e, L[i]? = some e → en_ai σ (m + 27) (24 * d + i) = nI e.1 ∧ en_ai σ (m + 28) (24 * d + i) = (if e.1 = e.2 then nI e.1 else -1)
def pr_ok (N : Nat) (L : List (Nat × Nat)) : Prop := ∀ i e, L[i]? = some e → e.1 < N ∧ e.2 < N ∧ (e.1 ≠ e.2 → ∃ j e', i = j + 1 ∧ L[j]? = some e' ∧ e'.2 = e.2)
theorem re28 {a : Nat} (h : a < 2 ^ 31) : nI a - nI a / 2 * 2 = nI (a % 2) := by
  have := pk_rem (a := a) (d := 2) h (by decide) (by decide)
  rw [show (2 : Int32) = nI 2 from by decide +kernel]; exact this
def P_X7_turnTo (G : en_G)  (g : (Nat) × (Nat) × (Int32)) (as : List en_V) (σ : en_S) : Prop := (rs_ok (g.1) σ ∧ (g.2.1) < 4) ∧ as = [en_R (some (g.1)), en_I (nI (g.2.1)), en_I (g.2.2)]
def C_X7_turnTo (G : en_G)  : en_C := en_gh (P_X7_turnTo G) (fun g as σ v σ' => σ' = en_sai (en_sai (en_sai σ ((g.1) + 33) (g.2.1) (g.2.2)) ((g.1) + 34) (g.2.1) 0) ((g.1) + 35) (g.2.1) (en_fi σ 710 (g.1)) ∧ v = none)
theorem pr_X7_turnTo {G : en_G}  : ∀ as σ, (C_X7_turnTo G).1 as σ → ∃ b tl, as = en_R (some b) :: tl ∧ en_cl σ b = some 7 ∧ tl.length = 2 := fun as σ ⟨g, hp, h2⟩ => ⟨_, _, h2, rs_c hp.1, rfl⟩
theorem cu_X7_turnTo {G : en_G}  {m : Nat} {d : Nat} {k : Int32} {σ : en_S} (hp : rs_ok m σ ∧ d < 4) : en_Us (C_X7_turnTo G) [en_R (some m), en_I (nI d), en_I k] σ (fun v σ' => σ' = en_sai (en_sai (en_sai σ (m + 33) d k) (m + 34) d 0) (m + 35) d (en_fi σ 710 m) ∧ v = none) := ⟨⟨(m, d, k), hp, rfl⟩, fun v σ' q => q (m, d, k) ⟨hp, rfl⟩⟩
def ca_X7_turnTo (G : en_G) : List (Nat × Nat × en_C) := []
def X_X7_turnTo (G : en_G) (q : Option en_V → en_S → Prop) : en_X := en_mk G cX7_turnTo (en_lk fl7) (en_lk nw7) (en_lk aw7) (en_lk dc7) (en_lk (ca_X7_turnTo G)) 0 false q
theorem d_X7_turnTo_0 : decode cX7_turnTo 0 = .ok (.aload_n 0, 1) := by decide +kernel
theorem j_X7_turnTo_0 {G : en_G} {q : Option en_V → en_S → Prop}  {l1 l2 : en_V} {x0 : Option Nat} {σ : en_S} : en_J (X_X7_turnTo G q) 0 [en_R x0, l1, l2] [] σ ↔ en_J (X_X7_turnTo G q) 1 [en_R x0, l1, l2] [en_R x0] σ := en_j1 d_X7_turnTo_0 rfl rfl
theorem d_X7_turnTo_1 : decode cX7_turnTo 1 = .ok (.getfield 118, 3) := by decide +kernel
theorem j_X7_turnTo_1 {G : en_G} {q : Option en_V → en_S → Prop}  {l0 l1 l2 : en_V} {a0 : Option Nat} {σ : en_S} : en_J (X_X7_turnTo G q) 1 [l0, l1, l2] [en_R a0] σ ↔ ∃ a, a0 = some a ∧ en_cl σ a = some 7 ∧ en_J (X_X7_turnTo G q) 4 [l0, l1, l2] [en_R (en_fr σ 743 a)] σ := en_jg (st := fun o => [en_R o]) (st' := fun a => [en_R (en_fr σ 743 a)]) (σ' := fun _ => σ) d_X7_turnTo_1 rfl (fun a => rfl) (fun a => ⟨fun h => h.2, fun h => ⟨rfl, h⟩⟩)
theorem d_X7_turnTo_4 : decode cX7_turnTo 4 = .ok (.iload_n 1, 1) := by decide +kernel
theorem j_X7_turnTo_4 {G : en_G} {q : Option en_V → en_S → Prop}  {l0 l2 : en_V} {a0 : Option Nat} {x1 : Int32} {σ : en_S} : en_J (X_X7_turnTo G q) 4 [l0, en_I x1, l2] [en_R a0] σ ↔ en_J (X_X7_turnTo G q) 5 [l0, en_I x1, l2] [en_I x1, en_R a0] σ := en_j1 d_X7_turnTo_4 rfl rfl
theorem d_X7_turnTo_5 : decode cX7_turnTo 5 = .ok (.iload_n 2, 1) := by decide +kernel
theorem j_X7_turnTo_5 {G : en_G} {q : Option en_V → en_S → Prop}  {l0 l1 : en_V} {a0 : Int32} {a1 : Option Nat} {x2 : Int32} {σ : en_S} : en_J (X_X7_turnTo G q) 5 [l0, l1, en_I x2] [en_I a0, en_R a1] σ ↔ en_J (X_X7_turnTo G q) 6 [l0, l1, en_I x2] [en_I x2, en_I a0, en_R a1] σ := en_j1 d_X7_turnTo_5 rfl rfl
theorem d_X7_turnTo_6 : decode cX7_turnTo 6 = .ok (.iastore, 1) := by decide +kernel
theorem j_X7_turnTo_6 {G : en_G} {q : Option en_V → en_S → Prop}  {l0 l1 l2 : en_V} {a0 : Int32} {a1 : Int32} {a2 : Option Nat} {σ : en_S} : en_J (X_X7_turnTo G q) 6 [l0, l1, l2] [en_I a0, en_I a1, en_R a2] σ ↔ ∃ a, a2 = some a ∧ (∃ k, en_al σ a = some (0, k) ∧ vp_in a1 k) ∧ en_J (X_X7_turnTo G q) 7 [l0, l1, l2] [] (en_sai σ a a1.toNatClampNeg a0) := ej_iastore d_X7_turnTo_6
theorem d_X7_turnTo_7 : decode cX7_turnTo 7 = .ok (.aload_n 0, 1) := by decide +kernel
theorem j_X7_turnTo_7 {G : en_G} {q : Option en_V → en_S → Prop}  {l1 l2 : en_V} {x0 : Option Nat} {σ : en_S} : en_J (X_X7_turnTo G q) 7 [en_R x0, l1, l2] [] σ ↔ en_J (X_X7_turnTo G q) 8 [en_R x0, l1, l2] [en_R x0] σ := en_j1 d_X7_turnTo_7 rfl rfl
theorem d_X7_turnTo_8 : decode cX7_turnTo 8 = .ok (.getfield 121, 3) := by decide +kernel
theorem j_X7_turnTo_8 {G : en_G} {q : Option en_V → en_S → Prop}  {l0 l1 l2 : en_V} {a0 : Option Nat} {σ : en_S} : en_J (X_X7_turnTo G q) 8 [l0, l1, l2] [en_R a0] σ ↔ ∃ a, a0 = some a ∧ en_cl σ a = some 7 ∧ en_J (X_X7_turnTo G q) 11 [l0, l1, l2] [en_R (en_fr σ 744 a)] σ := en_jg (st := fun o => [en_R o]) (st' := fun a => [en_R (en_fr σ 744 a)]) (σ' := fun _ => σ) d_X7_turnTo_8 rfl (fun a => rfl) (fun a => ⟨fun h => h.2, fun h => ⟨rfl, h⟩⟩)
theorem d_X7_turnTo_11 : decode cX7_turnTo 11 = .ok (.iload_n 1, 1) := by decide +kernel
theorem j_X7_turnTo_11 {G : en_G} {q : Option en_V → en_S → Prop}  {l0 l2 : en_V} {a0 : Option Nat} {x1 : Int32} {σ : en_S} : en_J (X_X7_turnTo G q) 11 [l0, en_I x1, l2] [en_R a0] σ ↔ en_J (X_X7_turnTo G q) 12 [l0, en_I x1, l2] [en_I x1, en_R a0] σ := en_j1 d_X7_turnTo_11 rfl rfl
theorem d_X7_turnTo_12 : decode cX7_turnTo 12 = .ok (.iconst 0, 1) := by decide +kernel
theorem j_X7_turnTo_12 {G : en_G} {q : Option en_V → en_S → Prop}  {l0 l1 l2 : en_V} {a0 : Int32} {a1 : Option Nat} {σ : en_S} : en_J (X_X7_turnTo G q) 12 [l0, l1, l2] [en_I a0, en_R a1] σ ↔ en_J (X_X7_turnTo G q) 13 [l0, l1, l2] [en_I 0, en_I a0, en_R a1] σ := ej_iconst d_X7_turnTo_12 (by decide +kernel)
theorem d_X7_turnTo_13 : decode cX7_turnTo 13 = .ok (.iastore, 1) := by decide +kernel
theorem j_X7_turnTo_13 {G : en_G} {q : Option en_V → en_S → Prop}  {l0 l1 l2 : en_V} {a0 : Int32} {a1 : Int32} {a2 : Option Nat} {σ : en_S} : en_J (X_X7_turnTo G q) 13 [l0, l1, l2] [en_I a0, en_I a1, en_R a2] σ ↔ ∃ a, a2 = some a ∧ (∃ k, en_al σ a = some (0, k) ∧ vp_in a1 k) ∧ en_J (X_X7_turnTo G q) 14 [l0, l1, l2] [] (en_sai σ a a1.toNatClampNeg a0) := ej_iastore d_X7_turnTo_13
theorem d_X7_turnTo_14 : decode cX7_turnTo 14 = .ok (.aload_n 0, 1) := by decide +kernel
theorem j_X7_turnTo_14 {G : en_G} {q : Option en_V → en_S → Prop}  {l1 l2 : en_V} {x0 : Option Nat} {σ : en_S} : en_J (X_X7_turnTo G q) 14 [en_R x0, l1, l2] [] σ ↔ en_J (X_X7_turnTo G q) 15 [en_R x0, l1, l2] [en_R x0] σ := en_j1 d_X7_turnTo_14 rfl rfl
theorem d_X7_turnTo_15 : decode cX7_turnTo 15 = .ok (.getfield 124, 3) := by decide +kernel
theorem j_X7_turnTo_15 {G : en_G} {q : Option en_V → en_S → Prop}  {l0 l1 l2 : en_V} {a0 : Option Nat} {σ : en_S} : en_J (X_X7_turnTo G q) 15 [l0, l1, l2] [en_R a0] σ ↔ ∃ a, a0 = some a ∧ en_cl σ a = some 7 ∧ en_J (X_X7_turnTo G q) 18 [l0, l1, l2] [en_R (en_fr σ 745 a)] σ := en_jg (st := fun o => [en_R o]) (st' := fun a => [en_R (en_fr σ 745 a)]) (σ' := fun _ => σ) d_X7_turnTo_15 rfl (fun a => rfl) (fun a => ⟨fun h => h.2, fun h => ⟨rfl, h⟩⟩)
theorem d_X7_turnTo_18 : decode cX7_turnTo 18 = .ok (.iload_n 1, 1) := by decide +kernel
theorem j_X7_turnTo_18 {G : en_G} {q : Option en_V → en_S → Prop}  {l0 l2 : en_V} {a0 : Option Nat} {x1 : Int32} {σ : en_S} : en_J (X_X7_turnTo G q) 18 [l0, en_I x1, l2] [en_R a0] σ ↔ en_J (X_X7_turnTo G q) 19 [l0, en_I x1, l2] [en_I x1, en_R a0] σ := en_j1 d_X7_turnTo_18 rfl rfl
theorem d_X7_turnTo_19 : decode cX7_turnTo 19 = .ok (.aload_n 0, 1) := by decide +kernel
theorem j_X7_turnTo_19 {G : en_G} {q : Option en_V → en_S → Prop}  {l1 l2 : en_V} {a0 : Int32} {a1 : Option Nat} {x0 : Option Nat} {σ : en_S} : en_J (X_X7_turnTo G q) 19 [en_R x0, l1, l2] [en_I a0, en_R a1] σ ↔ en_J (X_X7_turnTo G q) 20 [en_R x0, l1, l2] [en_R x0, en_I a0, en_R a1] σ := en_j1 d_X7_turnTo_19 rfl rfl
theorem d_X7_turnTo_20 : decode cX7_turnTo 20 = .ok (.getfield 188, 3) := by decide +kernel
theorem j_X7_turnTo_20 {G : en_G} {q : Option en_V → en_S → Prop}  {l0 l1 l2 : en_V} {a0 : Option Nat} {a1 : Int32} {a2 : Option Nat} {σ : en_S} : en_J (X_X7_turnTo G q) 20 [l0, l1, l2] [en_R a0, en_I a1, en_R a2] σ ↔ ∃ a, a0 = some a ∧ en_cl σ a = some 7 ∧ en_J (X_X7_turnTo G q) 23 [l0, l1, l2] [en_I (en_fi σ 710 a), en_I a1, en_R a2] σ := en_jg (st := fun o => [en_R o, en_I a1, en_R a2]) (st' := fun a => [en_I (en_fi σ 710 a), en_I a1, en_R a2]) (σ' := fun _ => σ) d_X7_turnTo_20 rfl (fun a => rfl) (fun a => ⟨fun h => h.2, fun h => ⟨rfl, h⟩⟩)
theorem d_X7_turnTo_23 : decode cX7_turnTo 23 = .ok (.iastore, 1) := by decide +kernel
theorem j_X7_turnTo_23 {G : en_G} {q : Option en_V → en_S → Prop}  {l0 l1 l2 : en_V} {a0 : Int32} {a1 : Int32} {a2 : Option Nat} {σ : en_S} : en_J (X_X7_turnTo G q) 23 [l0, l1, l2] [en_I a0, en_I a1, en_R a2] σ ↔ ∃ a, a2 = some a ∧ (∃ k, en_al σ a = some (0, k) ∧ vp_in a1 k) ∧ en_J (X_X7_turnTo G q) 24 [l0, l1, l2] [] (en_sai σ a a1.toNatClampNeg a0) := ej_iastore d_X7_turnTo_23
theorem d_X7_turnTo_24 : decode cX7_turnTo 24 = .ok (.return_, 1) := by decide +kernel
theorem j_X7_turnTo_24 {G : en_G} {q : Option en_V → en_S → Prop}  {l0 l1 l2 : en_V}  {σ : en_S} : en_J (X_X7_turnTo G q) 24 [l0, l1, l2] [] σ ↔ q none σ := en_jr d_X7_turnTo_24 rfl ⟨fun h => h.2.2, fun h => ⟨rfl, rfl, h⟩⟩
theorem wc_X7_turnTo : Jvm.Cond.code yX7_turnTo cX7_turnTo 3 none ∈ en_W := en_inW (List.mem_of_getElem? (i := 970) (by decide +kernel)) (by decide +kernel)
theorem wi_X7_turnTo : Jvm.Cond.instanceMethod yX7_turnTo ∈ en_W := en_inW (List.mem_of_getElem? (i := 969) (by decide +kernel)) (by decide +kernel)
theorem wx_X7_turnTo : Jvm.Cond.selects RX7 yX7_turnTo yX7_turnTo ∈ en_W := en_inW (List.mem_of_getElem? (i := 30) (by decide +kernel)) (by decide +kernel)
theorem jl_X7_turnTo {G : en_G}  {m : Nat} {d : Nat} {k : Int32} {q : Option en_V → en_S → Prop} {σ : en_S} (hp : rs_ok m σ ∧ d < 4) (hq : ∀ v σ', (σ' = en_sai (en_sai (en_sai σ (m + 33) d k) (m + 34) d 0) (m + 35) d (en_fi σ 710 m) ∧ v = none) → q v σ') : en_J (X_X7_turnTo G q) 0 [en_R (some m), en_I (nI d), en_I k] [] σ := by
  obtain ⟨hS, hd⟩ := hp
  have n3 : vp_in (nI d) 4 := vp_in_nI (by omega) (by decide)
  have n4 : (nI d).toNatClampNeg = d := nI_clamp (by omega)
  simp only [j_X7_turnTo_0, j_X7_turnTo_1, j_X7_turnTo_4, j_X7_turnTo_5, j_X7_turnTo_6, j_X7_turnTo_7, j_X7_turnTo_8, j_X7_turnTo_11, j_X7_turnTo_12, j_X7_turnTo_13, j_X7_turnTo_14, j_X7_turnTo_15, j_X7_turnTo_18, j_X7_turnTo_19, j_X7_turnTo_20, j_X7_turnTo_23, j_X7_turnTo_24, en_c2I, en_c2R, en_c2U, en_c2D, Option.some.injEq, exists_eq_left', exists_eq_left, Option.map_some, Option.map_none, not_true_eq_false, false_implies, true_implies, and_true, true_and, reduceCtorEq, not_false_eq_true, true_or, or_true, eg_cl_sfi, eg_fi_sfi, eg_fr_sfi, eg_fd_sfi, eg_al_sfi, eg_ai_sfi, eg_ar_sfi, eg_ad_sfi, eg_aj_sfi, eg_nx_sfi, eg_ns_sfi, eg_cl_sfr, eg_fi_sfr, eg_fr_sfr, eg_fd_sfr, eg_al_sfr, eg_ai_sfr, eg_ar_sfr, eg_ad_sfr, eg_aj_sfr, eg_nx_sfr, eg_ns_sfr, eg_cl_sfd, eg_fi_sfd, eg_fr_sfd, eg_fd_sfd, eg_al_sfd, eg_ai_sfd, eg_ar_sfd, eg_ad_sfd, eg_aj_sfd, eg_nx_sfd, eg_ns_sfd, eg_cl_sai, eg_fi_sai, eg_fr_sai, eg_fd_sai, eg_al_sai, eg_ai_sai, eg_ar_sai, eg_ad_sai, eg_aj_sai, eg_nx_sai, eg_ns_sai, eg_cl_sar, eg_fi_sar, eg_fr_sar, eg_fd_sar, eg_al_sar, eg_ai_sar, eg_ar_sar, eg_ad_sar, eg_aj_sar, eg_nx_sar, eg_ns_sar, eg_cl_sad, eg_fi_sad, eg_fr_sad, eg_fd_sad, eg_al_sad, eg_ai_sad, eg_ar_sad, eg_ad_sad, eg_aj_sad, eg_nx_sad, eg_ns_sad, eg_cl_saj, eg_fi_saj, eg_fr_saj, eg_fd_saj, eg_al_saj, eg_ai_saj, eg_ar_saj, eg_ad_saj, eg_aj_saj, eg_nx_saj, eg_ns_saj, eg_cl_new, eg_fi_new, eg_fr_new, eg_fd_new, eg_al_new, eg_ai_new, eg_ar_new, eg_ad_new, eg_aj_new, eg_nx_new, eg_ns_new, eg_cl_newa, eg_fi_newa, eg_fr_newa, eg_fd_newa, eg_al_newa, eg_ai_newa, eg_ar_newa, eg_ad_newa, eg_aj_newa, eg_nx_newa, eg_ns_newa, eg_cl_bump, eg_fi_bump, eg_fr_bump, eg_fd_bump, eg_al_bump, eg_ai_bump, eg_ar_bump, eg_ad_bump, eg_aj_bump, eg_nx_bump, eg_ns_bump, rs_c hS, rs_f743 hS, rs_a33 hS, rs_f744 hS, rs_a34 hS, rs_f745 hS, rs_a35 hS, Prod.mk.injEq, n3, n4]
  exact hq _ _ ⟨rfl, rfl⟩
theorem jp_X7_turnTo {G : en_G}  : ∀ as σ, (C_X7_turnTo G).1 as σ → (en_lc as).length ≤ 3 ∧ en_J (X_X7_turnTo G (fun r σ' => (C_X7_turnTo G).2 as σ r σ')) 0 (en_loc 3 as) [] σ := en_ghJ (fun g as σ h => by
  obtain ⟨hp, h2⟩ := h
  subst h2
  exact ⟨Nat.le_of_ble_eq_true rfl, jl_X7_turnTo hp (fun _ _ h => h)⟩)
theorem ok_X7_turnTo {G : en_G}  : en_Ok G 1 yX7_turnTo cX7_turnTo 3 none (C_X7_turnTo G) :=
  en_met (own := RX7) (fl := en_lk fl7) (nw := en_lk nw7) (aw := en_lk aw7) (dc := en_lk dc7) (ca := en_lk (ca_X7_turnTo G)) (rt := 0) (ini := false) (by decide +kernel) (Or.inl ⟨rfl, rfl⟩) (fun h => by cases h) rfl (fun q => en_LkF fl7_ok nw7_ok aw7_ok dc7_ok) (fun idx q hq => by cases hq) jp_X7_turnTo
def P_X7_targetAt (G : en_G)  (g : (Nat) × (Nat) × (Nat) × (Nat) × (List (Nat × Nat))) (as : List en_V) (σ : en_S) : Prop := (rs_ok (g.1) σ ∧ (g.2.1) < 4 ∧ (g.2.2.1) < (g.2.2.2.2).length ∧ (g.2.2.2.2).length ≤ 24 ∧ (g.2.2.2.1) ≤ 24 ∧ pr_row (g.1) (g.2.1) (g.2.2.2.2) σ ∧ pr_ok (g.2.2.2.1) (g.2.2.2.2) ∧ en_ai σ ((g.1) + 33) (g.2.1) = nI (g.2.2.1)) ∧ as = [en_R (some (g.1)), en_I (nI (g.2.1))]
def C_X7_targetAt (G : en_G)  : en_C := en_gh (P_X7_targetAt G) (fun g as σ v σ' => σ' = σ ∧ v = some (en_I (nI ((g.2.2.2.2).getD (g.2.2.1) (0, 0)).2)))
theorem pr_X7_targetAt {G : en_G}  : ∀ as σ, (C_X7_targetAt G).1 as σ → ∃ b tl, as = en_R (some b) :: tl ∧ en_cl σ b = some 7 ∧ tl.length = 1 := fun as σ ⟨g, hp, h2⟩ => ⟨_, _, h2, rs_c hp.1, rfl⟩
theorem cu_X7_targetAt {G : en_G}  {m : Nat} {d : Nat} {k : Nat} {N : Nat} {L : List (Nat × Nat)} {σ : en_S} (hp : rs_ok m σ ∧ d < 4 ∧ k < L.length ∧ L.length ≤ 24 ∧ N ≤ 24 ∧ pr_row m d L σ ∧ pr_ok N L ∧ en_ai σ (m + 33) d = nI k) : en_Us (C_X7_targetAt G) [en_R (some m), en_I (nI d)] σ (fun v σ' => σ' = σ ∧ v = some (en_I (nI (L.getD k (0, 0)).2))) := ⟨⟨(m, d, k, N, L), hp, rfl⟩, fun v σ' q => q (m, d, k, N, L) ⟨hp, rfl⟩⟩
def ca_X7_targetAt (G : en_G) : List (Nat × Nat × en_C) := []
def X_X7_targetAt (G : en_G) (q : Option en_V → en_S → Prop) : en_X := en_mk G cX7_targetAt (en_lk fl7) (en_lk nw7) (en_lk aw7) (en_lk dc7) (en_lk (ca_X7_targetAt G)) 1 false q
theorem d_X7_targetAt_0 : decode cX7_targetAt 0 = .ok (.aload_n 0, 1) := by decide +kernel
theorem j_X7_targetAt_0 {G : en_G} {q : Option en_V → en_S → Prop}  {l1 l2 : en_V} {x0 : Option Nat} {σ : en_S} : en_J (X_X7_targetAt G q) 0 [en_R x0, l1, l2] [] σ ↔ en_J (X_X7_targetAt G q) 1 [en_R x0, l1, l2] [en_R x0] σ := en_j1 d_X7_targetAt_0 rfl rfl
theorem d_X7_targetAt_1 : decode cX7_targetAt 1 = .ok (.getfield 118, 3) := by decide +kernel
theorem j_X7_targetAt_1 {G : en_G} {q : Option en_V → en_S → Prop}  {l0 l1 l2 : en_V} {a0 : Option Nat} {σ : en_S} : en_J (X_X7_targetAt G q) 1 [l0, l1, l2] [en_R a0] σ ↔ ∃ a, a0 = some a ∧ en_cl σ a = some 7 ∧ en_J (X_X7_targetAt G q) 4 [l0, l1, l2] [en_R (en_fr σ 743 a)] σ := en_jg (st := fun o => [en_R o]) (st' := fun a => [en_R (en_fr σ 743 a)]) (σ' := fun _ => σ) d_X7_targetAt_1 rfl (fun a => rfl) (fun a => ⟨fun h => h.2, fun h => ⟨rfl, h⟩⟩)
theorem d_X7_targetAt_4 : decode cX7_targetAt 4 = .ok (.iload_n 1, 1) := by decide +kernel
theorem j_X7_targetAt_4 {G : en_G} {q : Option en_V → en_S → Prop}  {l0 l2 : en_V} {a0 : Option Nat} {x1 : Int32} {σ : en_S} : en_J (X_X7_targetAt G q) 4 [l0, en_I x1, l2] [en_R a0] σ ↔ en_J (X_X7_targetAt G q) 5 [l0, en_I x1, l2] [en_I x1, en_R a0] σ := en_j1 d_X7_targetAt_4 rfl rfl
theorem d_X7_targetAt_5 : decode cX7_targetAt 5 = .ok (.iaload, 1) := by decide +kernel
theorem j_X7_targetAt_5 {G : en_G} {q : Option en_V → en_S → Prop}  {l0 l1 l2 : en_V} {a0 : Int32} {a1 : Option Nat} {σ : en_S} : en_J (X_X7_targetAt G q) 5 [l0, l1, l2] [en_I a0, en_R a1] σ ↔ ∃ a, a1 = some a ∧ (∃ k, en_al σ a = some (0, k) ∧ vp_in a0 k) ∧ en_J (X_X7_targetAt G q) 6 [l0, l1, l2] [en_I (en_ai σ a a0.toNatClampNeg)] σ := ej_iaload d_X7_targetAt_5 rfl
theorem d_X7_targetAt_6 : decode cX7_targetAt 6 = .ok (.istore_n 2, 1) := by decide +kernel
theorem j_X7_targetAt_6 {G : en_G} {q : Option en_V → en_S → Prop}  {l0 l1 l2 : en_V} {a0 : Int32} {σ : en_S} : en_J (X_X7_targetAt G q) 6 [l0, l1, l2] [en_I a0] σ ↔ en_J (X_X7_targetAt G q) 7 [l0, en_c2 l1, en_I a0] [] σ := en_j1 d_X7_targetAt_6 rfl ⟨rfl, Nat.le_of_ble_eq_true rfl⟩
theorem d_X7_targetAt_7 : decode cX7_targetAt 7 = .ok (.aload_n 0, 1) := by decide +kernel
theorem j_X7_targetAt_7 {G : en_G} {q : Option en_V → en_S → Prop}  {l1 l2 : en_V} {x0 : Option Nat} {σ : en_S} : en_J (X_X7_targetAt G q) 7 [en_R x0, l1, l2] [] σ ↔ en_J (X_X7_targetAt G q) 8 [en_R x0, l1, l2] [en_R x0] σ := en_j1 d_X7_targetAt_7 rfl rfl
theorem d_X7_targetAt_8 : decode cX7_targetAt 8 = .ok (.getfield 103, 3) := by decide +kernel
theorem j_X7_targetAt_8 {G : en_G} {q : Option en_V → en_S → Prop}  {l0 l1 l2 : en_V} {a0 : Option Nat} {σ : en_S} : en_J (X_X7_targetAt G q) 8 [l0, l1, l2] [en_R a0] σ ↔ ∃ a, a0 = some a ∧ en_cl σ a = some 7 ∧ en_J (X_X7_targetAt G q) 11 [l0, l1, l2] [en_R (en_fr σ 738 a)] σ := en_jg (st := fun o => [en_R o]) (st' := fun a => [en_R (en_fr σ 738 a)]) (σ' := fun _ => σ) d_X7_targetAt_8 rfl (fun a => rfl) (fun a => ⟨fun h => h.2, fun h => ⟨rfl, h⟩⟩)
theorem d_X7_targetAt_11 : decode cX7_targetAt 11 = .ok (.bipush 24, 2) := by decide +kernel
theorem j_X7_targetAt_11 {G : en_G} {q : Option en_V → en_S → Prop}  {l0 l1 l2 : en_V} {a0 : Option Nat} {σ : en_S} : en_J (X_X7_targetAt G q) 11 [l0, l1, l2] [en_R a0] σ ↔ en_J (X_X7_targetAt G q) 13 [l0, l1, l2] [en_I 24, en_R a0] σ := ej_bipush d_X7_targetAt_11 (by decide +kernel)
theorem d_X7_targetAt_13 : decode cX7_targetAt 13 = .ok (.iload_n 1, 1) := by decide +kernel
theorem j_X7_targetAt_13 {G : en_G} {q : Option en_V → en_S → Prop}  {l0 l2 : en_V} {a0 : Int32} {a1 : Option Nat} {x1 : Int32} {σ : en_S} : en_J (X_X7_targetAt G q) 13 [l0, en_I x1, l2] [en_I a0, en_R a1] σ ↔ en_J (X_X7_targetAt G q) 14 [l0, en_I x1, l2] [en_I x1, en_I a0, en_R a1] σ := en_j1 d_X7_targetAt_13 rfl rfl
theorem d_X7_targetAt_14 : decode cX7_targetAt 14 = .ok (.imul, 1) := by decide +kernel
theorem j_X7_targetAt_14 {G : en_G} {q : Option en_V → en_S → Prop}  {l0 l1 l2 : en_V} {a0 : Int32} {a1 : Int32} {a2 : Option Nat} {σ : en_S} : en_J (X_X7_targetAt G q) 14 [l0, l1, l2] [en_I a0, en_I a1, en_R a2] σ ↔ en_J (X_X7_targetAt G q) 15 [l0, l1, l2] [en_I (a1 * a0), en_R a2] σ := en_j1 d_X7_targetAt_14 rfl ⟨rfl, trivial⟩
theorem d_X7_targetAt_15 : decode cX7_targetAt 15 = .ok (.iload_n 2, 1) := by decide +kernel
theorem j_X7_targetAt_15 {G : en_G} {q : Option en_V → en_S → Prop}  {l0 l1 : en_V} {a0 : Int32} {a1 : Option Nat} {x2 : Int32} {σ : en_S} : en_J (X_X7_targetAt G q) 15 [l0, l1, en_I x2] [en_I a0, en_R a1] σ ↔ en_J (X_X7_targetAt G q) 16 [l0, l1, en_I x2] [en_I x2, en_I a0, en_R a1] σ := en_j1 d_X7_targetAt_15 rfl rfl
theorem d_X7_targetAt_16 : decode cX7_targetAt 16 = .ok (.iadd, 1) := by decide +kernel
theorem j_X7_targetAt_16 {G : en_G} {q : Option en_V → en_S → Prop}  {l0 l1 l2 : en_V} {a0 : Int32} {a1 : Int32} {a2 : Option Nat} {σ : en_S} : en_J (X_X7_targetAt G q) 16 [l0, l1, l2] [en_I a0, en_I a1, en_R a2] σ ↔ en_J (X_X7_targetAt G q) 17 [l0, l1, l2] [en_I (a1 + a0), en_R a2] σ := en_j1 d_X7_targetAt_16 rfl ⟨rfl, trivial⟩
theorem d_X7_targetAt_17 : decode cX7_targetAt 17 = .ok (.iaload, 1) := by decide +kernel
theorem j_X7_targetAt_17 {G : en_G} {q : Option en_V → en_S → Prop}  {l0 l1 l2 : en_V} {a0 : Int32} {a1 : Option Nat} {σ : en_S} : en_J (X_X7_targetAt G q) 17 [l0, l1, l2] [en_I a0, en_R a1] σ ↔ ∃ a, a1 = some a ∧ (∃ k, en_al σ a = some (0, k) ∧ vp_in a0 k) ∧ en_J (X_X7_targetAt G q) 18 [l0, l1, l2] [en_I (en_ai σ a a0.toNatClampNeg)] σ := ej_iaload d_X7_targetAt_17 rfl
theorem d_X7_targetAt_18 : decode cX7_targetAt 18 = .ok (.ifCond .ge 9, 3) := by decide +kernel
theorem j_X7_targetAt_18 {G : en_G} {q : Option en_V → en_S → Prop}  {l0 l1 l2 : en_V} {a0 : Int32} {σ : en_S} : en_J (X_X7_targetAt G q) 18 [l0, l1, l2] [en_I a0] σ ↔ (0 ≤ a0 → en_J (X_X7_targetAt G q) 27 [l0, l1, l2] [] σ) ∧ (¬ (0 ≤ a0) → en_J (X_X7_targetAt G q) 21 [l0, l1, l2] [] σ) := en_jb d_X7_targetAt_18 rfl ⟨rfl, by decide⟩
theorem d_X7_targetAt_21 : decode cX7_targetAt 21 = .ok (.iinc 2 (-1), 3) := by decide +kernel
theorem j_X7_targetAt_21 {G : en_G} {q : Option en_V → en_S → Prop}  {l0 l1 : en_V} {x2 : Int32} {σ : en_S} : en_J (X_X7_targetAt G q) 21 [l0, l1, en_I x2] [] σ ↔ en_J (X_X7_targetAt G q) 24 [l0, en_c2 l1, en_I (x2 + (-1))] [] σ := ej_iinc d_X7_targetAt_21 rfl (by decide +kernel) rfl
theorem d_X7_targetAt_24 : decode cX7_targetAt 24 = .ok (.goto (-17), 3) := by decide +kernel
theorem j_X7_targetAt_24 {G : en_G} {q : Option en_V → en_S → Prop}  {l0 l1 l2 : en_V}  {σ : en_S} : en_J (X_X7_targetAt G q) 24 [l0, l1, l2] [] σ ↔ en_J (X_X7_targetAt G q) 7 [l0, l1, l2] [] σ := en_j1 d_X7_targetAt_24 rfl ⟨rfl, by decide⟩
theorem d_X7_targetAt_27 : decode cX7_targetAt 27 = .ok (.aload_n 0, 1) := by decide +kernel
theorem j_X7_targetAt_27 {G : en_G} {q : Option en_V → en_S → Prop}  {l1 l2 : en_V} {x0 : Option Nat} {σ : en_S} : en_J (X_X7_targetAt G q) 27 [en_R x0, l1, l2] [] σ ↔ en_J (X_X7_targetAt G q) 28 [en_R x0, l1, l2] [en_R x0] σ := en_j1 d_X7_targetAt_27 rfl rfl
theorem d_X7_targetAt_28 : decode cX7_targetAt 28 = .ok (.getfield 103, 3) := by decide +kernel
theorem j_X7_targetAt_28 {G : en_G} {q : Option en_V → en_S → Prop}  {l0 l1 l2 : en_V} {a0 : Option Nat} {σ : en_S} : en_J (X_X7_targetAt G q) 28 [l0, l1, l2] [en_R a0] σ ↔ ∃ a, a0 = some a ∧ en_cl σ a = some 7 ∧ en_J (X_X7_targetAt G q) 31 [l0, l1, l2] [en_R (en_fr σ 738 a)] σ := en_jg (st := fun o => [en_R o]) (st' := fun a => [en_R (en_fr σ 738 a)]) (σ' := fun _ => σ) d_X7_targetAt_28 rfl (fun a => rfl) (fun a => ⟨fun h => h.2, fun h => ⟨rfl, h⟩⟩)
theorem d_X7_targetAt_31 : decode cX7_targetAt 31 = .ok (.bipush 24, 2) := by decide +kernel
theorem j_X7_targetAt_31 {G : en_G} {q : Option en_V → en_S → Prop}  {l0 l1 l2 : en_V} {a0 : Option Nat} {σ : en_S} : en_J (X_X7_targetAt G q) 31 [l0, l1, l2] [en_R a0] σ ↔ en_J (X_X7_targetAt G q) 33 [l0, l1, l2] [en_I 24, en_R a0] σ := ej_bipush d_X7_targetAt_31 (by decide +kernel)
theorem d_X7_targetAt_33 : decode cX7_targetAt 33 = .ok (.iload_n 1, 1) := by decide +kernel
theorem j_X7_targetAt_33 {G : en_G} {q : Option en_V → en_S → Prop}  {l0 l2 : en_V} {a0 : Int32} {a1 : Option Nat} {x1 : Int32} {σ : en_S} : en_J (X_X7_targetAt G q) 33 [l0, en_I x1, l2] [en_I a0, en_R a1] σ ↔ en_J (X_X7_targetAt G q) 34 [l0, en_I x1, l2] [en_I x1, en_I a0, en_R a1] σ := en_j1 d_X7_targetAt_33 rfl rfl
theorem d_X7_targetAt_34 : decode cX7_targetAt 34 = .ok (.imul, 1) := by decide +kernel
theorem j_X7_targetAt_34 {G : en_G} {q : Option en_V → en_S → Prop}  {l0 l1 l2 : en_V} {a0 : Int32} {a1 : Int32} {a2 : Option Nat} {σ : en_S} : en_J (X_X7_targetAt G q) 34 [l0, l1, l2] [en_I a0, en_I a1, en_R a2] σ ↔ en_J (X_X7_targetAt G q) 35 [l0, l1, l2] [en_I (a1 * a0), en_R a2] σ := en_j1 d_X7_targetAt_34 rfl ⟨rfl, trivial⟩
theorem d_X7_targetAt_35 : decode cX7_targetAt 35 = .ok (.iload_n 2, 1) := by decide +kernel
theorem j_X7_targetAt_35 {G : en_G} {q : Option en_V → en_S → Prop}  {l0 l1 : en_V} {a0 : Int32} {a1 : Option Nat} {x2 : Int32} {σ : en_S} : en_J (X_X7_targetAt G q) 35 [l0, l1, en_I x2] [en_I a0, en_R a1] σ ↔ en_J (X_X7_targetAt G q) 36 [l0, l1, en_I x2] [en_I x2, en_I a0, en_R a1] σ := en_j1 d_X7_targetAt_35 rfl rfl
theorem d_X7_targetAt_36 : decode cX7_targetAt 36 = .ok (.iadd, 1) := by decide +kernel
theorem j_X7_targetAt_36 {G : en_G} {q : Option en_V → en_S → Prop}  {l0 l1 l2 : en_V} {a0 : Int32} {a1 : Int32} {a2 : Option Nat} {σ : en_S} : en_J (X_X7_targetAt G q) 36 [l0, l1, l2] [en_I a0, en_I a1, en_R a2] σ ↔ en_J (X_X7_targetAt G q) 37 [l0, l1, l2] [en_I (a1 + a0), en_R a2] σ := en_j1 d_X7_targetAt_36 rfl ⟨rfl, trivial⟩
theorem d_X7_targetAt_37 : decode cX7_targetAt 37 = .ok (.iaload, 1) := by decide +kernel
theorem j_X7_targetAt_37 {G : en_G} {q : Option en_V → en_S → Prop}  {l0 l1 l2 : en_V} {a0 : Int32} {a1 : Option Nat} {σ : en_S} : en_J (X_X7_targetAt G q) 37 [l0, l1, l2] [en_I a0, en_R a1] σ ↔ ∃ a, a1 = some a ∧ (∃ k, en_al σ a = some (0, k) ∧ vp_in a0 k) ∧ en_J (X_X7_targetAt G q) 38 [l0, l1, l2] [en_I (en_ai σ a a0.toNatClampNeg)] σ := ej_iaload d_X7_targetAt_37 rfl
theorem d_X7_targetAt_38 : decode cX7_targetAt 38 = .ok (.ireturn, 1) := by decide +kernel
theorem j_X7_targetAt_38 {G : en_G} {q : Option en_V → en_S → Prop}  {l0 l1 l2 : en_V} {a0 : Int32} {σ : en_S} : en_J (X_X7_targetAt G q) 38 [l0, l1, l2] [en_I a0] σ ↔ q (some (en_I a0)) σ := en_jr d_X7_targetAt_38 rfl ⟨fun h => h.2.2, fun h => ⟨rfl, Or.inl rfl, h⟩⟩
theorem wc_X7_targetAt : Jvm.Cond.code yX7_targetAt cX7_targetAt 3 (some .int) ∈ en_W := en_inW (List.mem_of_getElem? (i := 986) (by decide +kernel)) (by decide +kernel)
theorem wi_X7_targetAt : Jvm.Cond.instanceMethod yX7_targetAt ∈ en_W := en_inW (List.mem_of_getElem? (i := 985) (by decide +kernel)) (by decide +kernel)
theorem wx_X7_targetAt : Jvm.Cond.selects RX7 yX7_targetAt yX7_targetAt ∈ en_W := en_inW (List.mem_of_getElem? (i := 34) (by decide +kernel)) (by decide +kernel)
theorem jw_X7_targetAt {G : en_G} {q : Option en_V → en_S → Prop} {m d N : Nat} {L : List (Nat × Nat)} {σ : en_S} (hS : rs_ok m σ) (hd : d < 4) (hl : L.length ≤ 24) (hN : N ≤ 24) (hrow : pr_row m d L σ) (hok : pr_ok N L) (g : Nat) : ∀ (k : Nat) (e : Nat × Nat), L[k]? = some e → e.2 = g → q (some (en_I (nI g))) σ → en_J (X_X7_targetAt G q) 7 [en_R (some m), en_I (nI d), en_I (nI k)] [] σ := by
  intro k
  induction k with
  | zero =>
    intro e he hg hq
    obtain ⟨r1, r2⟩ := hrow 0 e he
    obtain ⟨o1, o2, o3⟩ := hok 0 e he
    have h12 : e.1 = e.2 := Classical.byContradiction (fun z => by
      obtain ⟨j, e', h, -⟩ := o3 z
      omega)
    rw [if_pos h12, h12, hg] at r2
    have z1 : (0 : Int32) ≤ nI g := nI_pos' (by omega)
    have e1 := i24 d 0
    have a3 : vp_in (nI (24 * d + 0)) 96 := vp_in_nI (by omega) (by decide)
    have a4 : (nI (24 * d + 0)).toNatClampNeg = 24 * d + 0 := nI_clamp (by omega)
    rw [j_X7_targetAt_7]
    simp only [j_X7_targetAt_0, j_X7_targetAt_1, j_X7_targetAt_4, j_X7_targetAt_5, j_X7_targetAt_6, j_X7_targetAt_8, j_X7_targetAt_11, j_X7_targetAt_13, j_X7_targetAt_14, j_X7_targetAt_15, j_X7_targetAt_16, j_X7_targetAt_17, j_X7_targetAt_18, j_X7_targetAt_21, j_X7_targetAt_24, j_X7_targetAt_27, j_X7_targetAt_28, j_X7_targetAt_31, j_X7_targetAt_33, j_X7_targetAt_34, j_X7_targetAt_35, j_X7_targetAt_36, j_X7_targetAt_37, j_X7_targetAt_38, en_c2I, en_c2R, en_c2U, en_c2D, Option.some.injEq, exists_eq_left', exists_eq_left, Option.map_some, Option.map_none, not_true_eq_false, false_implies, true_implies, and_true, true_and, reduceCtorEq, not_false_eq_true, true_or, or_true, rs_c hS, rs_f743 hS, rs_a33 hS, rs_f738 hS, rs_a28 hS, Prod.mk.injEq, e1, a3, a4, r2, z1]
    exact hq
  | succ k ih =>
    intro e he hg hq
    obtain ⟨r1, r2⟩ := hrow (k + 1) e he
    obtain ⟨o1, o2, o3⟩ := hok (k + 1) e he
    have hkl := (List.getElem?_eq_some_iff.mp he).1
    have e1 := i24 d (k + 1)
    have a3 : vp_in (nI (24 * d + (k + 1))) 96 := vp_in_nI (by omega) (by decide)
    have a4 : (nI (24 * d + (k + 1))).toNatClampNeg = 24 * d + (k + 1) := nI_clamp (by omega)
    rw [j_X7_targetAt_7]
    by_cases h12 : e.1 = e.2
    · rw [if_pos h12, h12, hg] at r2
      have z1 : (0 : Int32) ≤ nI g := nI_pos' (by omega)
      simp only [j_X7_targetAt_0, j_X7_targetAt_1, j_X7_targetAt_4, j_X7_targetAt_5, j_X7_targetAt_6, j_X7_targetAt_8, j_X7_targetAt_11, j_X7_targetAt_13, j_X7_targetAt_14, j_X7_targetAt_15, j_X7_targetAt_16, j_X7_targetAt_17, j_X7_targetAt_18, j_X7_targetAt_21, j_X7_targetAt_24, j_X7_targetAt_27, j_X7_targetAt_28, j_X7_targetAt_31, j_X7_targetAt_33, j_X7_targetAt_34, j_X7_targetAt_35, j_X7_targetAt_36, j_X7_targetAt_37, j_X7_targetAt_38, en_c2I, en_c2R, en_c2U, en_c2D, Option.some.injEq, exists_eq_left', exists_eq_left, Option.map_some, Option.map_none, not_true_eq_false, false_implies, true_implies, and_true, true_and, reduceCtorEq, not_false_eq_true, true_or, or_true, rs_c hS, rs_f743 hS, rs_a33 hS, rs_f738 hS, rs_a28 hS, Prod.mk.injEq, e1, a3, a4, r2, z1]
      exact hq
    · rw [if_neg h12] at r2
      have z1 : ¬ (0 : Int32) ≤ -1 := by decide
      obtain ⟨j, e', h, h2, h3⟩ := o3 h12
      have hj : j = k := by omega
      subst hj
      have := ih e' h2 (by rw [h3]; exact hg) hq
      have e3 : nI (j + 1) + (-1) = nI j := pk_m1 j
      simp only [j_X7_targetAt_0, j_X7_targetAt_1, j_X7_targetAt_4, j_X7_targetAt_5, j_X7_targetAt_6, j_X7_targetAt_8, j_X7_targetAt_11, j_X7_targetAt_13, j_X7_targetAt_14, j_X7_targetAt_15, j_X7_targetAt_16, j_X7_targetAt_17, j_X7_targetAt_18, j_X7_targetAt_21, j_X7_targetAt_24, j_X7_targetAt_27, j_X7_targetAt_28, j_X7_targetAt_31, j_X7_targetAt_33, j_X7_targetAt_34, j_X7_targetAt_35, j_X7_targetAt_36, j_X7_targetAt_37, j_X7_targetAt_38, en_c2I, en_c2R, en_c2U, en_c2D, Option.some.injEq, exists_eq_left', exists_eq_left, Option.map_some, Option.map_none, not_true_eq_false, false_implies, true_implies, and_true, true_and, reduceCtorEq, not_false_eq_true, true_or, or_true, rs_c hS, rs_f743 hS, rs_a33 hS, rs_f738 hS, rs_a28 hS, Prod.mk.injEq, e1, a3, a4, r2, z1, e3]
      exact this
theorem jl_X7_targetAt {G : en_G}  {m : Nat} {d : Nat} {k : Nat} {N : Nat} {L : List (Nat × Nat)} {q : Option en_V → en_S → Prop} {σ : en_S} (hp : rs_ok m σ ∧ d < 4 ∧ k < L.length ∧ L.length ≤ 24 ∧ N ≤ 24 ∧ pr_row m d L σ ∧ pr_ok N L ∧ en_ai σ (m + 33) d = nI k) (hq : ∀ v σ', (σ' = σ ∧ v = some (en_I (nI (L.getD k (0, 0)).2))) → q v σ') : en_J (X_X7_targetAt G q) 0 [en_R (some m), en_I (nI d), en_U] [] σ := by
  obtain ⟨hS, hd, hk, hl, hN, hrow, hok, he⟩ := hp
  have n3 : vp_in (nI d) 4 := vp_in_nI (by omega) (by decide)
  have n4 : (nI d).toNatClampNeg = d := nI_clamp (by omega)
  have hge : L[k]? = some L[k] := List.getElem?_eq_getElem hk
  have e0 : L.getD k (0, 0) = L[k] := by rw [List.getD_eq_getElem?_getD, hge]; rfl
  have := jw_X7_targetAt (G := G) (q := q) hS hd hl hN hrow hok (L[k]).2 k L[k] hge rfl (by rw [e0] at hq; exact hq _ _ ⟨rfl, rfl⟩)
  simp only [j_X7_targetAt_0, j_X7_targetAt_1, j_X7_targetAt_4, j_X7_targetAt_5, j_X7_targetAt_6, j_X7_targetAt_8, j_X7_targetAt_11, j_X7_targetAt_13, j_X7_targetAt_14, j_X7_targetAt_15, j_X7_targetAt_16, j_X7_targetAt_17, j_X7_targetAt_18, j_X7_targetAt_21, j_X7_targetAt_24, j_X7_targetAt_27, j_X7_targetAt_28, j_X7_targetAt_31, j_X7_targetAt_33, j_X7_targetAt_34, j_X7_targetAt_35, j_X7_targetAt_36, j_X7_targetAt_37, j_X7_targetAt_38, en_c2I, en_c2R, en_c2U, en_c2D, Option.some.injEq, exists_eq_left', exists_eq_left, Option.map_some, Option.map_none, not_true_eq_false, false_implies, true_implies, and_true, true_and, reduceCtorEq, not_false_eq_true, true_or, or_true, rs_c hS, rs_f743 hS, rs_a33 hS, rs_f738 hS, rs_a28 hS, Prod.mk.injEq, n3, n4, he]
  exact this
theorem jp_X7_targetAt {G : en_G}  : ∀ as σ, (C_X7_targetAt G).1 as σ → (en_lc as).length ≤ 3 ∧ en_J (X_X7_targetAt G (fun r σ' => (C_X7_targetAt G).2 as σ r σ')) 0 (en_loc 3 as) [] σ := en_ghJ (fun g as σ h => by
  obtain ⟨hp, h2⟩ := h
  subst h2
  exact ⟨Nat.le_of_ble_eq_true rfl, jl_X7_targetAt hp (fun _ _ h => h)⟩)
theorem ok_X7_targetAt {G : en_G}  : en_Ok G 1 yX7_targetAt cX7_targetAt 3 (some .int) (C_X7_targetAt G) :=
  en_met (own := RX7) (fl := en_lk fl7) (nw := en_lk nw7) (aw := en_lk aw7) (dc := en_lk dc7) (ca := en_lk (ca_X7_targetAt G)) (rt := 1) (ini := false) (by decide +kernel) (Or.inr (Or.inl ⟨rfl, rfl⟩)) (fun h => by cases h) rfl (fun q => en_LkF fl7_ok nw7_ok aw7_ok dc7_ok) (fun idx q hq => by cases hq) jp_X7_targetAt
theorem ds_find_c {T : tr_T} {L : List (Nat × Nat)} {j : Nat} {e : Nat × Nat} (h : L[j]? = some e) : ds_find T (L.drop j) = if tr_kd T e.1 = 2 then some e.1 else ds_find T (L.drop (j + 1)) := by
  obtain ⟨hj, he⟩ := List.getElem?_eq_some_iff.mp h
  rw [List.drop_eq_getElem_cons hj, he]
  rfl
def P_X7_checked (G : en_G)  (g : (Nat) × (st_A) × (Nat) × (Nat) × (List (Nat × Nat))) (as : List en_V) (σ : en_S) : Prop := (RX (g.1) (g.2.1) σ ∧ (g.2.2.1) < 4 ∧ (g.2.2.2.1) < 8 ∧ 0 < (g.2.2.2.2).length ∧ (g.2.2.2.2).length ≤ 24 ∧ pr_row (g.1) (g.2.2.1) (g.2.2.2.2) σ ∧ pr_ok (tr_N (sa_T (g.2.1))) (g.2.2.2.2) ∧ en_ai σ ((g.1) + 29) (g.2.2.1) = nI (g.2.2.2.2).length ∧ en_ai σ ((g.1) + 31) (g.2.2.1) = nI (g.2.2.2.1)) ∧ as = [en_R (some (g.1)), en_I (nI (g.2.2.1))]
def C_X7_checked (G : en_G)  : en_C := en_gh (P_X7_checked G) (fun g as σ v σ' => σ' = σ ∧ v = some (en_I (st_num (ds_find (sa_T (g.2.1)) (if (g.2.2.2.1) % 2 = 1 then (g.2.2.2.2) else (g.2.2.2.2).take 1)))))
theorem pr_X7_checked {G : en_G}  : ∀ as σ, (C_X7_checked G).1 as σ → ∃ b tl, as = en_R (some b) :: tl ∧ en_cl σ b = some 7 ∧ tl.length = 1 := fun as σ ⟨g, hp, h2⟩ => ⟨_, _, h2, rs_c hp.1.1, rfl⟩
theorem cu_X7_checked {G : en_G}  {m : Nat} {A : st_A} {d : Nat} {fl : Nat} {L : List (Nat × Nat)} {σ : en_S} (hp : RX m A σ ∧ d < 4 ∧ fl < 8 ∧ 0 < L.length ∧ L.length ≤ 24 ∧ pr_row m d L σ ∧ pr_ok (tr_N (sa_T A)) L ∧ en_ai σ (m + 29) d = nI L.length ∧ en_ai σ (m + 31) d = nI fl) : en_Us (C_X7_checked G) [en_R (some m), en_I (nI d)] σ (fun v σ' => σ' = σ ∧ v = some (en_I (st_num (ds_find (sa_T A) (if fl % 2 = 1 then L else L.take 1))))) := ⟨⟨(m, A, d, fl, L), hp, rfl⟩, fun v σ' q => q (m, A, d, fl, L) ⟨hp, rfl⟩⟩
def ca_X7_checked (G : en_G) : List (Nat × Nat × en_C) := []
def X_X7_checked (G : en_G) (q : Option en_V → en_S → Prop) : en_X := en_mk G cX7_checked (en_lk fl7) (en_lk nw7) (en_lk aw7) (en_lk dc7) (en_lk (ca_X7_checked G)) 1 false q
theorem d_X7_checked_0 : decode cX7_checked 0 = .ok (.aload_n 0, 1) := by decide +kernel
theorem j_X7_checked_0 {G : en_G} {q : Option en_V → en_S → Prop}  {l1 l2 l3 : en_V} {x0 : Option Nat} {σ : en_S} : en_J (X_X7_checked G q) 0 [en_R x0, l1, l2, l3] [] σ ↔ en_J (X_X7_checked G q) 1 [en_R x0, l1, l2, l3] [en_R x0] σ := en_j1 d_X7_checked_0 rfl rfl
theorem d_X7_checked_1 : decode cX7_checked 1 = .ok (.getfield 112, 3) := by decide +kernel
theorem j_X7_checked_1 {G : en_G} {q : Option en_V → en_S → Prop}  {l0 l1 l2 l3 : en_V} {a0 : Option Nat} {σ : en_S} : en_J (X_X7_checked G q) 1 [l0, l1, l2, l3] [en_R a0] σ ↔ ∃ a, a0 = some a ∧ en_cl σ a = some 7 ∧ en_J (X_X7_checked G q) 4 [l0, l1, l2, l3] [en_R (en_fr σ 741 a)] σ := en_jg (st := fun o => [en_R o]) (st' := fun a => [en_R (en_fr σ 741 a)]) (σ' := fun _ => σ) d_X7_checked_1 rfl (fun a => rfl) (fun a => ⟨fun h => h.2, fun h => ⟨rfl, h⟩⟩)
theorem d_X7_checked_4 : decode cX7_checked 4 = .ok (.iload_n 1, 1) := by decide +kernel
theorem j_X7_checked_4 {G : en_G} {q : Option en_V → en_S → Prop}  {l0 l2 l3 : en_V} {a0 : Option Nat} {x1 : Int32} {σ : en_S} : en_J (X_X7_checked G q) 4 [l0, en_I x1, l2, l3] [en_R a0] σ ↔ en_J (X_X7_checked G q) 5 [l0, en_I x1, l2, l3] [en_I x1, en_R a0] σ := en_j1 d_X7_checked_4 rfl rfl
theorem d_X7_checked_5 : decode cX7_checked 5 = .ok (.iaload, 1) := by decide +kernel
theorem j_X7_checked_5 {G : en_G} {q : Option en_V → en_S → Prop}  {l0 l1 l2 l3 : en_V} {a0 : Int32} {a1 : Option Nat} {σ : en_S} : en_J (X_X7_checked G q) 5 [l0, l1, l2, l3] [en_I a0, en_R a1] σ ↔ ∃ a, a1 = some a ∧ (∃ k, en_al σ a = some (0, k) ∧ vp_in a0 k) ∧ en_J (X_X7_checked G q) 6 [l0, l1, l2, l3] [en_I (en_ai σ a a0.toNatClampNeg)] σ := ej_iaload d_X7_checked_5 rfl
theorem d_X7_checked_6 : decode cX7_checked 6 = .ok (.iconst 2, 1) := by decide +kernel
theorem j_X7_checked_6 {G : en_G} {q : Option en_V → en_S → Prop}  {l0 l1 l2 l3 : en_V} {a0 : Int32} {σ : en_S} : en_J (X_X7_checked G q) 6 [l0, l1, l2, l3] [en_I a0] σ ↔ en_J (X_X7_checked G q) 7 [l0, l1, l2, l3] [en_I 2, en_I a0] σ := ej_iconst d_X7_checked_6 (by decide +kernel)
theorem d_X7_checked_7 : decode cX7_checked 7 = .ok (.irem, 1) := by decide +kernel
theorem j_X7_checked_7 {G : en_G} {q : Option en_V → en_S → Prop}  {l0 l1 l2 l3 : en_V} {a0 : Int32} {a1 : Int32} {σ : en_S} : en_J (X_X7_checked G q) 7 [l0, l1, l2, l3] [en_I a0, en_I a1] σ ↔ ¬ a0 = 0 ∧ en_J (X_X7_checked G q) 8 [l0, l1, l2, l3] [en_I (a1 - a1 / a0 * a0)] σ := en_jc d_X7_checked_7 rfl ⟨fun h => h.2, fun h => ⟨rfl, h⟩⟩
theorem d_X7_checked_8 : decode cX7_checked 8 = .ok (.iconst 1, 1) := by decide +kernel
theorem j_X7_checked_8 {G : en_G} {q : Option en_V → en_S → Prop}  {l0 l1 l2 l3 : en_V} {a0 : Int32} {σ : en_S} : en_J (X_X7_checked G q) 8 [l0, l1, l2, l3] [en_I a0] σ ↔ en_J (X_X7_checked G q) 9 [l0, l1, l2, l3] [en_I 1, en_I a0] σ := ej_iconst d_X7_checked_8 (by decide +kernel)
theorem d_X7_checked_9 : decode cX7_checked 9 = .ok (.if_icmp .ne 12, 3) := by decide +kernel
theorem j_X7_checked_9 {G : en_G} {q : Option en_V → en_S → Prop}  {l0 l1 l2 l3 : en_V} {a0 : Int32} {a1 : Int32} {σ : en_S} : en_J (X_X7_checked G q) 9 [l0, l1, l2, l3] [en_I a0, en_I a1] σ ↔ (¬ a1 = a0 → en_J (X_X7_checked G q) 21 [l0, l1, l2, l3] [] σ) ∧ (¬ (¬ a1 = a0) → en_J (X_X7_checked G q) 12 [l0, l1, l2, l3] [] σ) := en_jb d_X7_checked_9 rfl ⟨rfl, by decide⟩
theorem d_X7_checked_12 : decode cX7_checked 12 = .ok (.aload_n 0, 1) := by decide +kernel
theorem j_X7_checked_12 {G : en_G} {q : Option en_V → en_S → Prop}  {l1 l2 l3 : en_V} {x0 : Option Nat} {σ : en_S} : en_J (X_X7_checked G q) 12 [en_R x0, l1, l2, l3] [] σ ↔ en_J (X_X7_checked G q) 13 [en_R x0, l1, l2, l3] [en_R x0] σ := en_j1 d_X7_checked_12 rfl rfl
theorem d_X7_checked_13 : decode cX7_checked 13 = .ok (.getfield 106, 3) := by decide +kernel
theorem j_X7_checked_13 {G : en_G} {q : Option en_V → en_S → Prop}  {l0 l1 l2 l3 : en_V} {a0 : Option Nat} {σ : en_S} : en_J (X_X7_checked G q) 13 [l0, l1, l2, l3] [en_R a0] σ ↔ ∃ a, a0 = some a ∧ en_cl σ a = some 7 ∧ en_J (X_X7_checked G q) 16 [l0, l1, l2, l3] [en_R (en_fr σ 739 a)] σ := en_jg (st := fun o => [en_R o]) (st' := fun a => [en_R (en_fr σ 739 a)]) (σ' := fun _ => σ) d_X7_checked_13 rfl (fun a => rfl) (fun a => ⟨fun h => h.2, fun h => ⟨rfl, h⟩⟩)
theorem d_X7_checked_16 : decode cX7_checked 16 = .ok (.iload_n 1, 1) := by decide +kernel
theorem j_X7_checked_16 {G : en_G} {q : Option en_V → en_S → Prop}  {l0 l2 l3 : en_V} {a0 : Option Nat} {x1 : Int32} {σ : en_S} : en_J (X_X7_checked G q) 16 [l0, en_I x1, l2, l3] [en_R a0] σ ↔ en_J (X_X7_checked G q) 17 [l0, en_I x1, l2, l3] [en_I x1, en_R a0] σ := en_j1 d_X7_checked_16 rfl rfl
theorem d_X7_checked_17 : decode cX7_checked 17 = .ok (.iaload, 1) := by decide +kernel
theorem j_X7_checked_17 {G : en_G} {q : Option en_V → en_S → Prop}  {l0 l1 l2 l3 : en_V} {a0 : Int32} {a1 : Option Nat} {σ : en_S} : en_J (X_X7_checked G q) 17 [l0, l1, l2, l3] [en_I a0, en_R a1] σ ↔ ∃ a, a1 = some a ∧ (∃ k, en_al σ a = some (0, k) ∧ vp_in a0 k) ∧ en_J (X_X7_checked G q) 18 [l0, l1, l2, l3] [en_I (en_ai σ a a0.toNatClampNeg)] σ := ej_iaload d_X7_checked_17 rfl
theorem d_X7_checked_18 : decode cX7_checked 18 = .ok (.goto 4, 3) := by decide +kernel
theorem j_X7_checked_18 {G : en_G} {q : Option en_V → en_S → Prop}  {l0 l1 l2 l3 : en_V} {a0 : Int32} {σ : en_S} : en_J (X_X7_checked G q) 18 [l0, l1, l2, l3] [en_I a0] σ ↔ en_J (X_X7_checked G q) 22 [l0, l1, l2, l3] [en_I a0] σ := en_j1 d_X7_checked_18 rfl ⟨rfl, by decide⟩
theorem d_X7_checked_21 : decode cX7_checked 21 = .ok (.iconst 1, 1) := by decide +kernel
theorem j_X7_checked_21 {G : en_G} {q : Option en_V → en_S → Prop}  {l0 l1 l2 l3 : en_V}  {σ : en_S} : en_J (X_X7_checked G q) 21 [l0, l1, l2, l3] [] σ ↔ en_J (X_X7_checked G q) 22 [l0, l1, l2, l3] [en_I 1] σ := ej_iconst d_X7_checked_21 (by decide +kernel)
theorem d_X7_checked_22 : decode cX7_checked 22 = .ok (.istore_n 2, 1) := by decide +kernel
theorem j_X7_checked_22 {G : en_G} {q : Option en_V → en_S → Prop}  {l0 l1 l2 l3 : en_V} {a0 : Int32} {σ : en_S} : en_J (X_X7_checked G q) 22 [l0, l1, l2, l3] [en_I a0] σ ↔ en_J (X_X7_checked G q) 23 [l0, en_c2 l1, en_I a0, l3] [] σ := en_j1 d_X7_checked_22 rfl ⟨rfl, Nat.le_of_ble_eq_true rfl⟩
theorem d_X7_checked_23 : decode cX7_checked 23 = .ok (.iconst 0, 1) := by decide +kernel
theorem j_X7_checked_23 {G : en_G} {q : Option en_V → en_S → Prop}  {l0 l1 l2 l3 : en_V}  {σ : en_S} : en_J (X_X7_checked G q) 23 [l0, l1, l2, l3] [] σ ↔ en_J (X_X7_checked G q) 24 [l0, l1, l2, l3] [en_I 0] σ := ej_iconst d_X7_checked_23 (by decide +kernel)
theorem d_X7_checked_24 : decode cX7_checked 24 = .ok (.istore_n 3, 1) := by decide +kernel
theorem j_X7_checked_24 {G : en_G} {q : Option en_V → en_S → Prop}  {l0 l1 l2 l3 : en_V} {a0 : Int32} {σ : en_S} : en_J (X_X7_checked G q) 24 [l0, l1, l2, l3] [en_I a0] σ ↔ en_J (X_X7_checked G q) 25 [l0, l1, en_c2 l2, en_I a0] [] σ := en_j1 d_X7_checked_24 rfl ⟨rfl, Nat.le_of_ble_eq_true rfl⟩
theorem d_X7_checked_25 : decode cX7_checked 25 = .ok (.iload_n 3, 1) := by decide +kernel
theorem j_X7_checked_25 {G : en_G} {q : Option en_V → en_S → Prop}  {l0 l1 l2 : en_V} {x3 : Int32} {σ : en_S} : en_J (X_X7_checked G q) 25 [l0, l1, l2, en_I x3] [] σ ↔ en_J (X_X7_checked G q) 26 [l0, l1, l2, en_I x3] [en_I x3] σ := en_j1 d_X7_checked_25 rfl rfl
theorem d_X7_checked_26 : decode cX7_checked 26 = .ok (.iload_n 2, 1) := by decide +kernel
theorem j_X7_checked_26 {G : en_G} {q : Option en_V → en_S → Prop}  {l0 l1 l3 : en_V} {a0 : Int32} {x2 : Int32} {σ : en_S} : en_J (X_X7_checked G q) 26 [l0, l1, en_I x2, l3] [en_I a0] σ ↔ en_J (X_X7_checked G q) 27 [l0, l1, en_I x2, l3] [en_I x2, en_I a0] σ := en_j1 d_X7_checked_26 rfl rfl
theorem d_X7_checked_27 : decode cX7_checked 27 = .ok (.if_icmp .ge 41, 3) := by decide +kernel
theorem j_X7_checked_27 {G : en_G} {q : Option en_V → en_S → Prop}  {l0 l1 l2 l3 : en_V} {a0 : Int32} {a1 : Int32} {σ : en_S} : en_J (X_X7_checked G q) 27 [l0, l1, l2, l3] [en_I a0, en_I a1] σ ↔ (a0 ≤ a1 → en_J (X_X7_checked G q) 68 [l0, l1, l2, l3] [] σ) ∧ (¬ (a0 ≤ a1) → en_J (X_X7_checked G q) 30 [l0, l1, l2, l3] [] σ) := en_jb d_X7_checked_27 rfl ⟨rfl, by decide⟩
theorem d_X7_checked_30 : decode cX7_checked 30 = .ok (.aload_n 0, 1) := by decide +kernel
theorem j_X7_checked_30 {G : en_G} {q : Option en_V → en_S → Prop}  {l1 l2 l3 : en_V} {x0 : Option Nat} {σ : en_S} : en_J (X_X7_checked G q) 30 [en_R x0, l1, l2, l3] [] σ ↔ en_J (X_X7_checked G q) 31 [en_R x0, l1, l2, l3] [en_R x0] σ := en_j1 d_X7_checked_30 rfl rfl
theorem d_X7_checked_31 : decode cX7_checked 31 = .ok (.getfield 13, 3) := by decide +kernel
theorem j_X7_checked_31 {G : en_G} {q : Option en_V → en_S → Prop}  {l0 l1 l2 l3 : en_V} {a0 : Option Nat} {σ : en_S} : en_J (X_X7_checked G q) 31 [l0, l1, l2, l3] [en_R a0] σ ↔ ∃ a, a0 = some a ∧ en_cl σ a = some 7 ∧ en_J (X_X7_checked G q) 34 [l0, l1, l2, l3] [en_R (en_fr σ 702 a)] σ := en_jg (st := fun o => [en_R o]) (st' := fun a => [en_R (en_fr σ 702 a)]) (σ' := fun _ => σ) d_X7_checked_31 rfl (fun a => rfl) (fun a => ⟨fun h => h.2, fun h => ⟨rfl, h⟩⟩)
theorem d_X7_checked_34 : decode cX7_checked 34 = .ok (.aload_n 0, 1) := by decide +kernel
theorem j_X7_checked_34 {G : en_G} {q : Option en_V → en_S → Prop}  {l1 l2 l3 : en_V} {a0 : Option Nat} {x0 : Option Nat} {σ : en_S} : en_J (X_X7_checked G q) 34 [en_R x0, l1, l2, l3] [en_R a0] σ ↔ en_J (X_X7_checked G q) 35 [en_R x0, l1, l2, l3] [en_R x0, en_R a0] σ := en_j1 d_X7_checked_34 rfl rfl
theorem d_X7_checked_35 : decode cX7_checked 35 = .ok (.getfield 100, 3) := by decide +kernel
theorem j_X7_checked_35 {G : en_G} {q : Option en_V → en_S → Prop}  {l0 l1 l2 l3 : en_V} {a0 : Option Nat} {a1 : Option Nat} {σ : en_S} : en_J (X_X7_checked G q) 35 [l0, l1, l2, l3] [en_R a0, en_R a1] σ ↔ ∃ a, a0 = some a ∧ en_cl σ a = some 7 ∧ en_J (X_X7_checked G q) 38 [l0, l1, l2, l3] [en_R (en_fr σ 737 a), en_R a1] σ := en_jg (st := fun o => [en_R o, en_R a1]) (st' := fun a => [en_R (en_fr σ 737 a), en_R a1]) (σ' := fun _ => σ) d_X7_checked_35 rfl (fun a => rfl) (fun a => ⟨fun h => h.2, fun h => ⟨rfl, h⟩⟩)
theorem d_X7_checked_38 : decode cX7_checked 38 = .ok (.bipush 24, 2) := by decide +kernel
theorem j_X7_checked_38 {G : en_G} {q : Option en_V → en_S → Prop}  {l0 l1 l2 l3 : en_V} {a0 : Option Nat} {a1 : Option Nat} {σ : en_S} : en_J (X_X7_checked G q) 38 [l0, l1, l2, l3] [en_R a0, en_R a1] σ ↔ en_J (X_X7_checked G q) 40 [l0, l1, l2, l3] [en_I 24, en_R a0, en_R a1] σ := ej_bipush d_X7_checked_38 (by decide +kernel)
theorem d_X7_checked_40 : decode cX7_checked 40 = .ok (.iload_n 1, 1) := by decide +kernel
theorem j_X7_checked_40 {G : en_G} {q : Option en_V → en_S → Prop}  {l0 l2 l3 : en_V} {a0 : Int32} {a1 : Option Nat} {a2 : Option Nat} {x1 : Int32} {σ : en_S} : en_J (X_X7_checked G q) 40 [l0, en_I x1, l2, l3] [en_I a0, en_R a1, en_R a2] σ ↔ en_J (X_X7_checked G q) 41 [l0, en_I x1, l2, l3] [en_I x1, en_I a0, en_R a1, en_R a2] σ := en_j1 d_X7_checked_40 rfl rfl
theorem d_X7_checked_41 : decode cX7_checked 41 = .ok (.imul, 1) := by decide +kernel
theorem j_X7_checked_41 {G : en_G} {q : Option en_V → en_S → Prop}  {l0 l1 l2 l3 : en_V} {a0 : Int32} {a1 : Int32} {a2 : Option Nat} {a3 : Option Nat} {σ : en_S} : en_J (X_X7_checked G q) 41 [l0, l1, l2, l3] [en_I a0, en_I a1, en_R a2, en_R a3] σ ↔ en_J (X_X7_checked G q) 42 [l0, l1, l2, l3] [en_I (a1 * a0), en_R a2, en_R a3] σ := en_j1 d_X7_checked_41 rfl ⟨rfl, trivial⟩
theorem d_X7_checked_42 : decode cX7_checked 42 = .ok (.iload_n 3, 1) := by decide +kernel
theorem j_X7_checked_42 {G : en_G} {q : Option en_V → en_S → Prop}  {l0 l1 l2 : en_V} {a0 : Int32} {a1 : Option Nat} {a2 : Option Nat} {x3 : Int32} {σ : en_S} : en_J (X_X7_checked G q) 42 [l0, l1, l2, en_I x3] [en_I a0, en_R a1, en_R a2] σ ↔ en_J (X_X7_checked G q) 43 [l0, l1, l2, en_I x3] [en_I x3, en_I a0, en_R a1, en_R a2] σ := en_j1 d_X7_checked_42 rfl rfl
theorem d_X7_checked_43 : decode cX7_checked 43 = .ok (.iadd, 1) := by decide +kernel
theorem j_X7_checked_43 {G : en_G} {q : Option en_V → en_S → Prop}  {l0 l1 l2 l3 : en_V} {a0 : Int32} {a1 : Int32} {a2 : Option Nat} {a3 : Option Nat} {σ : en_S} : en_J (X_X7_checked G q) 43 [l0, l1, l2, l3] [en_I a0, en_I a1, en_R a2, en_R a3] σ ↔ en_J (X_X7_checked G q) 44 [l0, l1, l2, l3] [en_I (a1 + a0), en_R a2, en_R a3] σ := en_j1 d_X7_checked_43 rfl ⟨rfl, trivial⟩
theorem d_X7_checked_44 : decode cX7_checked 44 = .ok (.iaload, 1) := by decide +kernel
theorem j_X7_checked_44 {G : en_G} {q : Option en_V → en_S → Prop}  {l0 l1 l2 l3 : en_V} {a0 : Int32} {a1 : Option Nat} {a2 : Option Nat} {σ : en_S} : en_J (X_X7_checked G q) 44 [l0, l1, l2, l3] [en_I a0, en_R a1, en_R a2] σ ↔ ∃ a, a1 = some a ∧ (∃ k, en_al σ a = some (0, k) ∧ vp_in a0 k) ∧ en_J (X_X7_checked G q) 45 [l0, l1, l2, l3] [en_I (en_ai σ a a0.toNatClampNeg), en_R a2] σ := ej_iaload d_X7_checked_44 rfl
theorem d_X7_checked_45 : decode cX7_checked 45 = .ok (.iaload, 1) := by decide +kernel
theorem j_X7_checked_45 {G : en_G} {q : Option en_V → en_S → Prop}  {l0 l1 l2 l3 : en_V} {a0 : Int32} {a1 : Option Nat} {σ : en_S} : en_J (X_X7_checked G q) 45 [l0, l1, l2, l3] [en_I a0, en_R a1] σ ↔ ∃ a, a1 = some a ∧ (∃ k, en_al σ a = some (0, k) ∧ vp_in a0 k) ∧ en_J (X_X7_checked G q) 46 [l0, l1, l2, l3] [en_I (en_ai σ a a0.toNatClampNeg)] σ := ej_iaload d_X7_checked_45 rfl
theorem d_X7_checked_46 : decode cX7_checked 46 = .ok (.iconst 2, 1) := by decide +kernel
theorem j_X7_checked_46 {G : en_G} {q : Option en_V → en_S → Prop}  {l0 l1 l2 l3 : en_V} {a0 : Int32} {σ : en_S} : en_J (X_X7_checked G q) 46 [l0, l1, l2, l3] [en_I a0] σ ↔ en_J (X_X7_checked G q) 47 [l0, l1, l2, l3] [en_I 2, en_I a0] σ := ej_iconst d_X7_checked_46 (by decide +kernel)
theorem d_X7_checked_47 : decode cX7_checked 47 = .ok (.if_icmp .ne 15, 3) := by decide +kernel
theorem j_X7_checked_47 {G : en_G} {q : Option en_V → en_S → Prop}  {l0 l1 l2 l3 : en_V} {a0 : Int32} {a1 : Int32} {σ : en_S} : en_J (X_X7_checked G q) 47 [l0, l1, l2, l3] [en_I a0, en_I a1] σ ↔ (¬ a1 = a0 → en_J (X_X7_checked G q) 62 [l0, l1, l2, l3] [] σ) ∧ (¬ (¬ a1 = a0) → en_J (X_X7_checked G q) 50 [l0, l1, l2, l3] [] σ) := en_jb d_X7_checked_47 rfl ⟨rfl, by decide⟩
theorem d_X7_checked_50 : decode cX7_checked 50 = .ok (.aload_n 0, 1) := by decide +kernel
theorem j_X7_checked_50 {G : en_G} {q : Option en_V → en_S → Prop}  {l1 l2 l3 : en_V} {x0 : Option Nat} {σ : en_S} : en_J (X_X7_checked G q) 50 [en_R x0, l1, l2, l3] [] σ ↔ en_J (X_X7_checked G q) 51 [en_R x0, l1, l2, l3] [en_R x0] σ := en_j1 d_X7_checked_50 rfl rfl
theorem d_X7_checked_51 : decode cX7_checked 51 = .ok (.getfield 100, 3) := by decide +kernel
theorem j_X7_checked_51 {G : en_G} {q : Option en_V → en_S → Prop}  {l0 l1 l2 l3 : en_V} {a0 : Option Nat} {σ : en_S} : en_J (X_X7_checked G q) 51 [l0, l1, l2, l3] [en_R a0] σ ↔ ∃ a, a0 = some a ∧ en_cl σ a = some 7 ∧ en_J (X_X7_checked G q) 54 [l0, l1, l2, l3] [en_R (en_fr σ 737 a)] σ := en_jg (st := fun o => [en_R o]) (st' := fun a => [en_R (en_fr σ 737 a)]) (σ' := fun _ => σ) d_X7_checked_51 rfl (fun a => rfl) (fun a => ⟨fun h => h.2, fun h => ⟨rfl, h⟩⟩)
theorem d_X7_checked_54 : decode cX7_checked 54 = .ok (.bipush 24, 2) := by decide +kernel
theorem j_X7_checked_54 {G : en_G} {q : Option en_V → en_S → Prop}  {l0 l1 l2 l3 : en_V} {a0 : Option Nat} {σ : en_S} : en_J (X_X7_checked G q) 54 [l0, l1, l2, l3] [en_R a0] σ ↔ en_J (X_X7_checked G q) 56 [l0, l1, l2, l3] [en_I 24, en_R a0] σ := ej_bipush d_X7_checked_54 (by decide +kernel)
theorem d_X7_checked_56 : decode cX7_checked 56 = .ok (.iload_n 1, 1) := by decide +kernel
theorem j_X7_checked_56 {G : en_G} {q : Option en_V → en_S → Prop}  {l0 l2 l3 : en_V} {a0 : Int32} {a1 : Option Nat} {x1 : Int32} {σ : en_S} : en_J (X_X7_checked G q) 56 [l0, en_I x1, l2, l3] [en_I a0, en_R a1] σ ↔ en_J (X_X7_checked G q) 57 [l0, en_I x1, l2, l3] [en_I x1, en_I a0, en_R a1] σ := en_j1 d_X7_checked_56 rfl rfl
theorem d_X7_checked_57 : decode cX7_checked 57 = .ok (.imul, 1) := by decide +kernel
theorem j_X7_checked_57 {G : en_G} {q : Option en_V → en_S → Prop}  {l0 l1 l2 l3 : en_V} {a0 : Int32} {a1 : Int32} {a2 : Option Nat} {σ : en_S} : en_J (X_X7_checked G q) 57 [l0, l1, l2, l3] [en_I a0, en_I a1, en_R a2] σ ↔ en_J (X_X7_checked G q) 58 [l0, l1, l2, l3] [en_I (a1 * a0), en_R a2] σ := en_j1 d_X7_checked_57 rfl ⟨rfl, trivial⟩
theorem d_X7_checked_58 : decode cX7_checked 58 = .ok (.iload_n 3, 1) := by decide +kernel
theorem j_X7_checked_58 {G : en_G} {q : Option en_V → en_S → Prop}  {l0 l1 l2 : en_V} {a0 : Int32} {a1 : Option Nat} {x3 : Int32} {σ : en_S} : en_J (X_X7_checked G q) 58 [l0, l1, l2, en_I x3] [en_I a0, en_R a1] σ ↔ en_J (X_X7_checked G q) 59 [l0, l1, l2, en_I x3] [en_I x3, en_I a0, en_R a1] σ := en_j1 d_X7_checked_58 rfl rfl
theorem d_X7_checked_59 : decode cX7_checked 59 = .ok (.iadd, 1) := by decide +kernel
theorem j_X7_checked_59 {G : en_G} {q : Option en_V → en_S → Prop}  {l0 l1 l2 l3 : en_V} {a0 : Int32} {a1 : Int32} {a2 : Option Nat} {σ : en_S} : en_J (X_X7_checked G q) 59 [l0, l1, l2, l3] [en_I a0, en_I a1, en_R a2] σ ↔ en_J (X_X7_checked G q) 60 [l0, l1, l2, l3] [en_I (a1 + a0), en_R a2] σ := en_j1 d_X7_checked_59 rfl ⟨rfl, trivial⟩
theorem d_X7_checked_60 : decode cX7_checked 60 = .ok (.iaload, 1) := by decide +kernel
theorem j_X7_checked_60 {G : en_G} {q : Option en_V → en_S → Prop}  {l0 l1 l2 l3 : en_V} {a0 : Int32} {a1 : Option Nat} {σ : en_S} : en_J (X_X7_checked G q) 60 [l0, l1, l2, l3] [en_I a0, en_R a1] σ ↔ ∃ a, a1 = some a ∧ (∃ k, en_al σ a = some (0, k) ∧ vp_in a0 k) ∧ en_J (X_X7_checked G q) 61 [l0, l1, l2, l3] [en_I (en_ai σ a a0.toNatClampNeg)] σ := ej_iaload d_X7_checked_60 rfl
theorem d_X7_checked_61 : decode cX7_checked 61 = .ok (.ireturn, 1) := by decide +kernel
theorem j_X7_checked_61 {G : en_G} {q : Option en_V → en_S → Prop}  {l0 l1 l2 l3 : en_V} {a0 : Int32} {σ : en_S} : en_J (X_X7_checked G q) 61 [l0, l1, l2, l3] [en_I a0] σ ↔ q (some (en_I a0)) σ := en_jr d_X7_checked_61 rfl ⟨fun h => h.2.2, fun h => ⟨rfl, Or.inl rfl, h⟩⟩
theorem d_X7_checked_62 : decode cX7_checked 62 = .ok (.iinc 3 1, 3) := by decide +kernel
theorem j_X7_checked_62 {G : en_G} {q : Option en_V → en_S → Prop}  {l0 l1 l2 : en_V} {x3 : Int32} {σ : en_S} : en_J (X_X7_checked G q) 62 [l0, l1, l2, en_I x3] [] σ ↔ en_J (X_X7_checked G q) 65 [l0, l1, en_c2 l2, en_I (x3 + 1)] [] σ := ej_iinc d_X7_checked_62 rfl (by decide +kernel) rfl
theorem d_X7_checked_65 : decode cX7_checked 65 = .ok (.goto (-40), 3) := by decide +kernel
theorem j_X7_checked_65 {G : en_G} {q : Option en_V → en_S → Prop}  {l0 l1 l2 l3 : en_V}  {σ : en_S} : en_J (X_X7_checked G q) 65 [l0, l1, l2, l3] [] σ ↔ en_J (X_X7_checked G q) 25 [l0, l1, l2, l3] [] σ := en_j1 d_X7_checked_65 rfl ⟨rfl, by decide⟩
theorem d_X7_checked_68 : decode cX7_checked 68 = .ok (.iconst (-1), 1) := by decide +kernel
theorem j_X7_checked_68 {G : en_G} {q : Option en_V → en_S → Prop}  {l0 l1 l2 l3 : en_V}  {σ : en_S} : en_J (X_X7_checked G q) 68 [l0, l1, l2, l3] [] σ ↔ en_J (X_X7_checked G q) 69 [l0, l1, l2, l3] [en_I (-1)] σ := ej_iconst d_X7_checked_68 (by decide +kernel)
theorem d_X7_checked_69 : decode cX7_checked 69 = .ok (.ireturn, 1) := by decide +kernel
theorem j_X7_checked_69 {G : en_G} {q : Option en_V → en_S → Prop}  {l0 l1 l2 l3 : en_V} {a0 : Int32} {σ : en_S} : en_J (X_X7_checked G q) 69 [l0, l1, l2, l3] [en_I a0] σ ↔ q (some (en_I a0)) σ := en_jr d_X7_checked_69 rfl ⟨fun h => h.2.2, fun h => ⟨rfl, Or.inl rfl, h⟩⟩
theorem wc_X7_checked : Jvm.Cond.code yX7_checked cX7_checked 4 (some .int) ∈ en_W := en_inW (List.mem_of_getElem? (i := 966) (by decide +kernel)) (by decide +kernel)
theorem wi_X7_checked : Jvm.Cond.instanceMethod yX7_checked ∈ en_W := en_inW (List.mem_of_getElem? (i := 965) (by decide +kernel)) (by decide +kernel)
theorem wx_X7_checked : Jvm.Cond.selects RX7 yX7_checked yX7_checked ∈ en_W := en_inW (List.mem_of_getElem? (i := 29) (by decide +kernel)) (by decide +kernel)
theorem jw_X7_checked {G : en_G} {q : Option en_V → en_S → Prop} {m d : Nat} {A : st_A} {L : List (Nat × Nat)} {σ : en_S} (hR : RX m A σ) (hd : d < 4) {n : Nat} (hn : n ≤ L.length) (hl : L.length ≤ 24) (hrow : pr_row m d L σ) (hok : pr_ok (tr_N (sa_T A)) L) : ∀ (j i : Nat), i + j = n → q (some (en_I (st_num (ds_find (sa_T A) ((L.drop i).take (n - i)))))) σ → en_J (X_X7_checked G q) 25 [en_R (some m), en_I (nI d), en_I (nI n), en_I (nI i)] [] σ := by
  have hS := hR.1
  have hN := hR.2.2.2.2.2.2.2.2.2.1.1.2
  intro j
  induction j with
  | zero =>
    intro i hi hq
    have z1 : nI n ≤ nI i := nI_le (by omega) (by omega)
    rw [show n - i = 0 by omega, List.take_zero] at hq
    rw [j_X7_checked_25]
    simp only [j_X7_checked_0, j_X7_checked_1, j_X7_checked_4, j_X7_checked_5, j_X7_checked_6, j_X7_checked_7, j_X7_checked_8, j_X7_checked_9, j_X7_checked_12, j_X7_checked_13, j_X7_checked_16, j_X7_checked_17, j_X7_checked_18, j_X7_checked_21, j_X7_checked_22, j_X7_checked_23, j_X7_checked_24, j_X7_checked_26, j_X7_checked_27, j_X7_checked_30, j_X7_checked_31, j_X7_checked_34, j_X7_checked_35, j_X7_checked_38, j_X7_checked_40, j_X7_checked_41, j_X7_checked_42, j_X7_checked_43, j_X7_checked_44, j_X7_checked_45, j_X7_checked_46, j_X7_checked_47, j_X7_checked_50, j_X7_checked_51, j_X7_checked_54, j_X7_checked_56, j_X7_checked_57, j_X7_checked_58, j_X7_checked_59, j_X7_checked_60, j_X7_checked_61, j_X7_checked_62, j_X7_checked_65, j_X7_checked_68, j_X7_checked_69, en_c2I, en_c2R, en_c2U, en_c2D, Option.some.injEq, exists_eq_left', exists_eq_left, Option.map_some, Option.map_none, not_true_eq_false, false_implies, true_implies, and_true, true_and, reduceCtorEq, not_false_eq_true, true_or, or_true, z1]
    exact hq
  | succ j ih =>
    intro i hi hq
    have z1 : ¬ nI n ≤ nI i := nI_ge (by omega) (by omega)
    have hge : L[i]? = some L[i] := List.getElem?_eq_getElem (by omega)
    obtain ⟨r1, r2⟩ := hrow i _ hge
    obtain ⟨o1, o2, o3⟩ := hok i _ hge
    have hdr : (L.drop i).take (n - i) = L[i] :: (L.drop (i + 1)).take (n - (i + 1)) := by
      rw [List.drop_eq_getElem_cons (by omega), show n - i = (n - (i + 1)) + 1 by omega, List.take_succ_cons]
    rw [hdr] at hq
    simp only [ds_find] at hq
    generalize L[i] = e at hq r1 o1
    have k3 := (hR.2.1 e.1 o1).1
    have e1 := i24 d i
    have a3 : vp_in (nI (24 * d + i)) 96 := vp_in_nI (by omega) (by decide)
    have a4 : (nI (24 * d + i)).toNatClampNeg = 24 * d + i := nI_clamp (by omega)
    have n3 : vp_in (nI e.1) 24 := vp_in_nI (by omega) (by decide)
    have n4 : (nI e.1).toNatClampNeg = e.1 := nI_clamp (by omega)
    rw [j_X7_checked_25]
    by_cases h2 : tr_kd (sa_T A) e.1 = 2
    · rw [if_pos h2] at hq
      simp only [j_X7_checked_0, j_X7_checked_1, j_X7_checked_4, j_X7_checked_5, j_X7_checked_6, j_X7_checked_7, j_X7_checked_8, j_X7_checked_9, j_X7_checked_12, j_X7_checked_13, j_X7_checked_16, j_X7_checked_17, j_X7_checked_18, j_X7_checked_21, j_X7_checked_22, j_X7_checked_23, j_X7_checked_24, j_X7_checked_26, j_X7_checked_27, j_X7_checked_30, j_X7_checked_31, j_X7_checked_34, j_X7_checked_35, j_X7_checked_38, j_X7_checked_40, j_X7_checked_41, j_X7_checked_42, j_X7_checked_43, j_X7_checked_44, j_X7_checked_45, j_X7_checked_46, j_X7_checked_47, j_X7_checked_50, j_X7_checked_51, j_X7_checked_54, j_X7_checked_56, j_X7_checked_57, j_X7_checked_58, j_X7_checked_59, j_X7_checked_60, j_X7_checked_61, j_X7_checked_62, j_X7_checked_65, j_X7_checked_68, j_X7_checked_69, en_c2I, en_c2R, en_c2U, en_c2D, Option.some.injEq, exists_eq_left', exists_eq_left, Option.map_some, Option.map_none, not_true_eq_false, false_implies, true_implies, and_true, true_and, reduceCtorEq, not_false_eq_true, true_or, or_true, rs_c hS, rs_f741 hS, rs_a31 hS, rs_f739 hS, rs_a29 hS, rs_f702 hS, rs_a1 hS, rs_f737 hS, rs_a27 hS, Prod.mk.injEq, z1, e1, a3, a4, r1, n3, n4, k3, eq_true h2]
      exact hq
    · rw [if_neg h2] at hq
      have e5 : nI i + 1 = nI (i + 1) := nI_1 _
      have := ih (i + 1) (by omega) hq
      simp only [j_X7_checked_0, j_X7_checked_1, j_X7_checked_4, j_X7_checked_5, j_X7_checked_6, j_X7_checked_7, j_X7_checked_8, j_X7_checked_9, j_X7_checked_12, j_X7_checked_13, j_X7_checked_16, j_X7_checked_17, j_X7_checked_18, j_X7_checked_21, j_X7_checked_22, j_X7_checked_23, j_X7_checked_24, j_X7_checked_26, j_X7_checked_27, j_X7_checked_30, j_X7_checked_31, j_X7_checked_34, j_X7_checked_35, j_X7_checked_38, j_X7_checked_40, j_X7_checked_41, j_X7_checked_42, j_X7_checked_43, j_X7_checked_44, j_X7_checked_45, j_X7_checked_46, j_X7_checked_47, j_X7_checked_50, j_X7_checked_51, j_X7_checked_54, j_X7_checked_56, j_X7_checked_57, j_X7_checked_58, j_X7_checked_59, j_X7_checked_60, j_X7_checked_61, j_X7_checked_62, j_X7_checked_65, j_X7_checked_68, j_X7_checked_69, en_c2I, en_c2R, en_c2U, en_c2D, Option.some.injEq, exists_eq_left', exists_eq_left, Option.map_some, Option.map_none, not_true_eq_false, false_implies, true_implies, and_true, true_and, reduceCtorEq, not_false_eq_true, true_or, or_true, rs_c hS, rs_f741 hS, rs_a31 hS, rs_f739 hS, rs_a29 hS, rs_f702 hS, rs_a1 hS, rs_f737 hS, rs_a27 hS, Prod.mk.injEq, z1, e1, a3, a4, r1, n3, n4, k3, eq_false h2, e5]
      exact this
theorem jl_X7_checked {G : en_G}  {m : Nat} {A : st_A} {d : Nat} {fl : Nat} {L : List (Nat × Nat)} {q : Option en_V → en_S → Prop} {σ : en_S} (hp : RX m A σ ∧ d < 4 ∧ fl < 8 ∧ 0 < L.length ∧ L.length ≤ 24 ∧ pr_row m d L σ ∧ pr_ok (tr_N (sa_T A)) L ∧ en_ai σ (m + 29) d = nI L.length ∧ en_ai σ (m + 31) d = nI fl) (hq : ∀ v σ', (σ' = σ ∧ v = some (en_I (st_num (ds_find (sa_T A) (if fl % 2 = 1 then L else L.take 1))))) → q v σ') : en_J (X_X7_checked G q) 0 [en_R (some m), en_I (nI d), en_U, en_U] [] σ := by
  obtain ⟨hR, hd, hfl, hl0, hl, hrow, hok, h29, h31⟩ := hp
  have hS := hR.1
  have n3 : vp_in (nI d) 4 := vp_in_nI (by omega) (by decide)
  have n4 : (nI d).toNatClampNeg = d := nI_clamp (by omega)
  have e2 := re28 (a := fl) (by omega)
  have t2 : ¬ (2 : Int32) = 0 := by decide
  by_cases h1 : fl % 2 = 1
  · rw [if_pos h1] at hq
    have := jw_X7_checked (G := G) (q := q) hR hd (n := L.length) (Nat.le_refl _) hl hrow hok L.length 0 (by omega) (by rw [List.drop_zero, List.take_of_length_le (by omega)]; exact hq _ _ ⟨rfl, rfl⟩)
    rw [show nI 0 = 0 from by decide +kernel] at this
    have e3 : nI (fl % 2) = 1 := by rw [h1]; decide +kernel
    simp only [j_X7_checked_0, j_X7_checked_1, j_X7_checked_4, j_X7_checked_5, j_X7_checked_6, j_X7_checked_7, j_X7_checked_8, j_X7_checked_9, j_X7_checked_12, j_X7_checked_13, j_X7_checked_16, j_X7_checked_17, j_X7_checked_18, j_X7_checked_21, j_X7_checked_22, j_X7_checked_23, j_X7_checked_24, j_X7_checked_26, j_X7_checked_27, j_X7_checked_30, j_X7_checked_31, j_X7_checked_34, j_X7_checked_35, j_X7_checked_38, j_X7_checked_40, j_X7_checked_41, j_X7_checked_42, j_X7_checked_43, j_X7_checked_44, j_X7_checked_45, j_X7_checked_46, j_X7_checked_47, j_X7_checked_50, j_X7_checked_51, j_X7_checked_54, j_X7_checked_56, j_X7_checked_57, j_X7_checked_58, j_X7_checked_59, j_X7_checked_60, j_X7_checked_61, j_X7_checked_62, j_X7_checked_65, j_X7_checked_68, j_X7_checked_69, en_c2I, en_c2R, en_c2U, en_c2D, Option.some.injEq, exists_eq_left', exists_eq_left, Option.map_some, Option.map_none, not_true_eq_false, false_implies, true_implies, and_true, true_and, reduceCtorEq, not_false_eq_true, true_or, or_true, rs_c hS, rs_f741 hS, rs_a31 hS, rs_f739 hS, rs_a29 hS, rs_f702 hS, rs_a1 hS, rs_f737 hS, rs_a27 hS, Prod.mk.injEq, n3, n4, h31, h29, e2, e3, t2]
    exact this
  · rw [if_neg h1] at hq
    have := jw_X7_checked (G := G) (q := q) hR hd (n := 1) (by omega) hl hrow hok 1 0 (by omega) (by rw [List.drop_zero]; exact hq _ _ ⟨rfl, rfl⟩)
    rw [show nI 0 = 0 from by decide +kernel, show nI 1 = 1 from by decide +kernel] at this
    have e3 : ¬ nI (fl % 2) = 1 := by rw [show fl % 2 = 0 by omega]; decide +kernel
    simp only [j_X7_checked_0, j_X7_checked_1, j_X7_checked_4, j_X7_checked_5, j_X7_checked_6, j_X7_checked_7, j_X7_checked_8, j_X7_checked_9, j_X7_checked_12, j_X7_checked_13, j_X7_checked_16, j_X7_checked_17, j_X7_checked_18, j_X7_checked_21, j_X7_checked_22, j_X7_checked_23, j_X7_checked_24, j_X7_checked_26, j_X7_checked_27, j_X7_checked_30, j_X7_checked_31, j_X7_checked_34, j_X7_checked_35, j_X7_checked_38, j_X7_checked_40, j_X7_checked_41, j_X7_checked_42, j_X7_checked_43, j_X7_checked_44, j_X7_checked_45, j_X7_checked_46, j_X7_checked_47, j_X7_checked_50, j_X7_checked_51, j_X7_checked_54, j_X7_checked_56, j_X7_checked_57, j_X7_checked_58, j_X7_checked_59, j_X7_checked_60, j_X7_checked_61, j_X7_checked_62, j_X7_checked_65, j_X7_checked_68, j_X7_checked_69, en_c2I, en_c2R, en_c2U, en_c2D, Option.some.injEq, exists_eq_left', exists_eq_left, Option.map_some, Option.map_none, not_true_eq_false, false_implies, true_implies, and_true, true_and, reduceCtorEq, not_false_eq_true, true_or, or_true, rs_c hS, rs_f741 hS, rs_a31 hS, rs_f739 hS, rs_a29 hS, rs_f702 hS, rs_a1 hS, rs_f737 hS, rs_a27 hS, Prod.mk.injEq, n3, n4, h31, e2, e3, t2]
    exact this
theorem jp_X7_checked {G : en_G}  : ∀ as σ, (C_X7_checked G).1 as σ → (en_lc as).length ≤ 4 ∧ en_J (X_X7_checked G (fun r σ' => (C_X7_checked G).2 as σ r σ')) 0 (en_loc 4 as) [] σ := en_ghJ (fun g as σ h => by
  obtain ⟨hp, h2⟩ := h
  subst h2
  exact ⟨Nat.le_of_ble_eq_true rfl, jl_X7_checked hp (fun _ _ h => h)⟩)
theorem ok_X7_checked {G : en_G}  : en_Ok G 1 yX7_checked cX7_checked 4 (some .int) (C_X7_checked G) :=
  en_met (own := RX7) (fl := en_lk fl7) (nw := en_lk nw7) (aw := en_lk aw7) (dc := en_lk dc7) (ca := en_lk (ca_X7_checked G)) (rt := 1) (ini := false) (by decide +kernel) (Or.inr (Or.inl ⟨rfl, rfl⟩)) (fun h => by cases h) rfl (fun q => en_LkF fl7_ok nw7_ok aw7_ok dc7_ok) (fun idx q hq => by cases hq) jp_X7_checked
/-- a path, as the class lays it: what the reference's marks mean -/
theorem pr_lay {T : tr_T} (hw : tr_wf T) {last : Option Nat} : ∀ (k : Nat) (cur : Option Nat) (tg : Nat), (∀ x, cur = some x → x < tr_N T) → tg < tr_N T → ∀ i e, (ds_lay T last k cur tg)[i]? = some e → e.1 < tr_N T ∧ e.2 < tr_N T ∧ (e.1 ≠ e.2 → (i = 0 ∧ e.2 = tg) ∨ ∃ j e', i = j + 1 ∧ (ds_lay T last k cur tg)[j]? = some e' ∧ e'.2 = e.2) := by
  intro k
  induction k with
  | zero => intro cur tg _ _ i e h; simp [ds_lay] at h
  | succ k ih =>
    intro cur tg hc ht i e h
    cases cur with
    | none => simp [ds_lay] at h
    | some x =>
      have hx := hc x rfl
      simp only [ds_lay] at h ⊢
      have hg : (if tr_over T (tr_root T tg) x then tg else x) < tr_N T := by split <;> assumption
      cases i with
      | zero =>
        simp at h
        subst h
        refine ⟨hx, hg, fun hne => Or.inl ⟨rfl, ?_⟩⟩
        by_cases ho : tr_over T (tr_root T tg) x = true
        · rw [if_pos ho]
        · rw [if_neg ho] at hne
          exact absurd rfl hne
      | succ i =>
        rw [List.getElem?_cons_succ] at h
        have hcx : ∀ y, (if last = some x then none else ds_nxt T x) = some y → y < tr_N T := by
          intro y hy
          split at hy
          · cases hy
          · exact (od_nxt hw hx hy).1
        obtain ⟨g1, g2, g3⟩ := ih _ _ hcx hg i e h
        refine ⟨g1, g2, fun hne => Or.inr ?_⟩
        rcases g3 hne with ⟨z1, z2⟩ | ⟨j, e', z1, z2, z3⟩
        · exact ⟨i, (x, if tr_over T (tr_root T tg) x then tg else x), rfl, by rw [z1]; rfl, z2.symm⟩
        · exact ⟨i, e', rfl, by rw [z1, List.getElem?_cons_succ]; exact z2, z3⟩
theorem tr_cov_root {T : tr_T} (hw : tr_wf T) {t : Nat} (ht : t < tr_N T) : tr_over T (tr_root T t) t = true := by
  have : ∀ k n, n < tr_N T → tr_it T k n = none → tr_cov T k (tr_rootF T k n) n = true := by
    intro k
    induction k with
    | zero => intro n _ h; cases h
    | succ k ih =>
      intro n hn h
      have hr : tr_rootF T (k + 1) n = match tr_pa T n with
        | none => n
        | some p => tr_rootF T k p := rfl
      cases hp : tr_pa T n with
      | none =>
        rw [hp] at hr
        rw [hr]
        simp [tr_cov]
      | some p =>
        rw [hp] at hr
        have hr : tr_rootF T (k + 1) n = tr_rootF T k p := hr
        rw [hr]
        simp only [tr_cov]
        by_cases e : n = tr_rootF T k p
        · rw [if_pos e]
        · rw [if_neg e, od_pa_up hp]
          exact ih p (tr_pa_lt hw hn hp) (tr_it_pa h hp)
  exact this 24 t ht (hw.2.2.2.2.2.2.2.2 t ht)
theorem pr_path {T : tr_T} (hw : tr_wf T) {t fl : Nat} (ht : t < tr_N T) : pr_ok (tr_N T) (ds_path T t fl) := by
  intro i e h
  obtain ⟨h1, h2, h3⟩ := pr_lay hw 24 (some t) t (fun x hx => by cases hx; exact ht) ht i e h
  refine ⟨h1, h2, fun hne => ?_⟩
  rcases h3 hne with ⟨z1, z2⟩ | z
  · exfalso
    subst z1
    have e0 : (ds_path T t fl)[0]? = some (t, t) := by
      unfold ds_path
      show (ds_lay T (ds_last T t fl) (23 + 1) (some t) t)[0]? = _
      simp only [ds_lay]
      rw [tr_cov_root hw ht]; rfl
    rw [h] at e0
    cases e0
    exact hne rfl
  · exact z
theorem od_root_pa {T : tr_T} : ∀ (k n : Nat), od_it (tr_pa T) k n = none → tr_pa T (tr_rootF T k n) = none := by
  intro k
  induction k with
  | zero => intro n h; cases h
  | succ k ih =>
    intro n h
    simp only [tr_rootF]
    cases hp : tr_pa T n with
    | none => exact hp
    | some p => exact ih p (od_it_s h hp)
def lyW (m a : Nat) : Prop := a ≠ m + 27 ∧ a ≠ m + 28
theorem rx_layw {m : Nat} {A : st_A} {σ σ' : en_S} (h : RX m A σ) (g : ag σ σ' TT (lyW m)) (s : sz σ σ') : RX m A σ' := h.ag (g.mono (fun _ _ _ => trivial) (fun a z => by unfold rxV at z; unfold lyW; omega)) (s.fr (rs_fr h.1))
def lyV (m a : Nat) : Prop := a ≠ m + 27 ∧ a ≠ m + 28 ∧ a ≠ m + 29
theorem rx_lay {m : Nat} {A : st_A} {σ σ' : en_S} (h : RX m A σ) (g : ag σ σ' TT (lyV m)) (s : sz σ σ') : RX m A σ' := h.ag (g.mono (fun _ _ _ => trivial) (fun a z => by unfold rxV at z; unfold lyV; omega)) (s.fr (rs_fr h.1))
def P_X7_lay (G : en_G)  (g : (Nat) × (st_A) × (Nat) × (Nat) × (Nat)) (as : List en_V) (σ : en_S) : Prop := (RX (g.1) (g.2.1) σ ∧ (g.2.2.1) < 4 ∧ (g.2.2.2.1) < tr_N (sa_T (g.2.1)) ∧ (g.2.2.2.2) < 8 ∧ en_ai σ ((g.1) + 31) (g.2.2.1) = nI (g.2.2.2.2)) ∧ as = [en_R (some (g.1)), en_I (nI (g.2.2.1)), en_I (nI (g.2.2.2.1))]
def C_X7_lay (G : en_G)  : en_C := en_gh (P_X7_lay G) (fun g as σ v σ' => RX (g.1) (g.2.1) σ' ∧ ag σ σ' TT (lyV (g.1)) ∧ sz σ σ' ∧ v = none ∧ pr_row (g.1) (g.2.2.1) (ds_path (sa_T (g.2.1)) (g.2.2.2.1) (g.2.2.2.2)) σ' ∧ en_ai σ' ((g.1) + 29) (g.2.2.1) = nI (ds_path (sa_T (g.2.1)) (g.2.2.2.1) (g.2.2.2.2)).length ∧ (∀ i, i < 24 * (g.2.2.1) → en_ai σ' ((g.1) + 27) i = en_ai σ ((g.1) + 27) i ∧ en_ai σ' ((g.1) + 28) i = en_ai σ ((g.1) + 28) i) ∧ (∀ i, i < (g.2.2.1) → en_ai σ' ((g.1) + 29) i = en_ai σ ((g.1) + 29) i) ∧ (ds_path (sa_T (g.2.1)) (g.2.2.2.1) (g.2.2.2.2)).length ≤ 24)
theorem pr_X7_lay {G : en_G}  : ∀ as σ, (C_X7_lay G).1 as σ → ∃ b tl, as = en_R (some b) :: tl ∧ en_cl σ b = some 7 ∧ tl.length = 2 := fun as σ ⟨g, hp, h2⟩ => ⟨_, _, h2, rs_c hp.1.1, rfl⟩
theorem cu_X7_lay {G : en_G}  {m : Nat} {A : st_A} {d : Nat} {t : Nat} {fl : Nat} {σ : en_S} (hp : RX m A σ ∧ d < 4 ∧ t < tr_N (sa_T A) ∧ fl < 8 ∧ en_ai σ (m + 31) d = nI fl) : en_Us (C_X7_lay G) [en_R (some m), en_I (nI d), en_I (nI t)] σ (fun v σ' => RX m A σ' ∧ ag σ σ' TT (lyV m) ∧ sz σ σ' ∧ v = none ∧ pr_row m d (ds_path (sa_T A) t fl) σ' ∧ en_ai σ' (m + 29) d = nI (ds_path (sa_T A) t fl).length ∧ (∀ i, i < 24 * d → en_ai σ' (m + 27) i = en_ai σ (m + 27) i ∧ en_ai σ' (m + 28) i = en_ai σ (m + 28) i) ∧ (∀ i, i < d → en_ai σ' (m + 29) i = en_ai σ (m + 29) i) ∧ (ds_path (sa_T A) t fl).length ≤ 24) := ⟨⟨(m, A, d, t, fl), hp, rfl⟩, fun v σ' q => q (m, A, d, t, fl) ⟨hp, rfl⟩⟩
def ca_X7_lay (G : en_G) : List (Nat × Nat × en_C) := [(208, 9, (C_X7_root G)), (174, 13, (C_X7_covers G)), (211, 9, (C_X7_assigned G)), (160, 9, (C_X7_up G))]
def X_X7_lay (G : en_G) (q : Option en_V → en_S → Prop) : en_X := en_mk G cX7_lay (en_lk fl7) (en_lk nw7) (en_lk aw7) (en_lk dc7) (en_lk (ca_X7_lay G)) 0 false q
theorem d_X7_lay_0 : decode cX7_lay 0 = .ok (.aload_n 0, 1) := by decide +kernel
theorem j_X7_lay_0 {G : en_G} {q : Option en_V → en_S → Prop}  {l1 l2 l3 l4 l5 l6 l7 l8 l9 : en_V} {x0 : Option Nat} {σ : en_S} : en_J (X_X7_lay G q) 0 [en_R x0, l1, l2, l3, l4, l5, l6, l7, l8, l9] [] σ ↔ en_J (X_X7_lay G q) 1 [en_R x0, l1, l2, l3, l4, l5, l6, l7, l8, l9] [en_R x0] σ := en_j1 d_X7_lay_0 rfl rfl
theorem d_X7_lay_1 : decode cX7_lay 1 = .ok (.iload_n 2, 1) := by decide +kernel
theorem j_X7_lay_1 {G : en_G} {q : Option en_V → en_S → Prop}  {l0 l1 l3 l4 l5 l6 l7 l8 l9 : en_V} {a0 : Option Nat} {x2 : Int32} {σ : en_S} : en_J (X_X7_lay G q) 1 [l0, l1, en_I x2, l3, l4, l5, l6, l7, l8, l9] [en_R a0] σ ↔ en_J (X_X7_lay G q) 2 [l0, l1, en_I x2, l3, l4, l5, l6, l7, l8, l9] [en_I x2, en_R a0] σ := en_j1 d_X7_lay_1 rfl rfl
theorem d_X7_lay_2 : decode cX7_lay 2 = .ok (.invokevirtual 208, 3) := by decide +kernel
theorem j_X7_lay_2 {G : en_G} {q : Option en_V → en_S → Prop}  {l0 l1 l2 l3 l4 l5 l6 l7 l8 l9 : en_V} {a0 : Int32} {a1 : Option Nat} {σ : en_S} : en_J (X_X7_lay G q) 2 [l0, l1, l2, l3, l4, l5, l6, l7, l8, l9] [en_I a0, en_R a1] σ ↔ (C_X7_root G).1 [en_R a1, en_I a0] σ ∧ ∀ (r : Option en_V) (σ' : en_S), (C_X7_root G).2 [en_R a1, en_I a0] σ r σ' → en_J (X_X7_lay G q) 5 [l0, l1, l2, l3, l4, l5, l6, l7, l8, l9] (r.toList ++ []) σ' := en_jkC (C := (C_X7_root G)) (n' := 2) (k := 1) (idx := 208) d_X7_lay_2 rfl rfl (by decide) (Nat.le_of_ble_eq_true rfl) (Nat.le_of_ble_eq_true rfl)
theorem d_X7_lay_5 : decode cX7_lay 5 = .ok (.istore_n 3, 1) := by decide +kernel
theorem j_X7_lay_5 {G : en_G} {q : Option en_V → en_S → Prop}  {l0 l1 l2 l3 l4 l5 l6 l7 l8 l9 : en_V} {a0 : Int32} {σ : en_S} : en_J (X_X7_lay G q) 5 [l0, l1, l2, l3, l4, l5, l6, l7, l8, l9] [en_I a0] σ ↔ en_J (X_X7_lay G q) 6 [l0, l1, en_c2 l2, en_I a0, l4, l5, l6, l7, l8, l9] [] σ := en_j1 d_X7_lay_5 rfl ⟨rfl, Nat.le_of_ble_eq_true rfl⟩
theorem d_X7_lay_6 : decode cX7_lay 6 = .ok (.iconst 0, 1) := by decide +kernel
theorem j_X7_lay_6 {G : en_G} {q : Option en_V → en_S → Prop}  {l0 l1 l2 l3 l4 l5 l6 l7 l8 l9 : en_V}  {σ : en_S} : en_J (X_X7_lay G q) 6 [l0, l1, l2, l3, l4, l5, l6, l7, l8, l9] [] σ ↔ en_J (X_X7_lay G q) 7 [l0, l1, l2, l3, l4, l5, l6, l7, l8, l9] [en_I 0] σ := ej_iconst d_X7_lay_6 (by decide +kernel)
theorem d_X7_lay_7 : decode cX7_lay 7 = .ok (.istore 4, 2) := by decide +kernel
theorem j_X7_lay_7 {G : en_G} {q : Option en_V → en_S → Prop}  {l0 l1 l2 l3 l4 l5 l6 l7 l8 l9 : en_V} {a0 : Int32} {σ : en_S} : en_J (X_X7_lay G q) 7 [l0, l1, l2, l3, l4, l5, l6, l7, l8, l9] [en_I a0] σ ↔ en_J (X_X7_lay G q) 9 [l0, l1, l2, en_c2 l3, en_I a0, l5, l6, l7, l8, l9] [] σ := en_j1 d_X7_lay_7 rfl ⟨rfl, Nat.le_of_ble_eq_true rfl⟩
theorem d_X7_lay_9 : decode cX7_lay 9 = .ok (.iload_n 2, 1) := by decide +kernel
theorem j_X7_lay_9 {G : en_G} {q : Option en_V → en_S → Prop}  {l0 l1 l3 l4 l5 l6 l7 l8 l9 : en_V} {x2 : Int32} {σ : en_S} : en_J (X_X7_lay G q) 9 [l0, l1, en_I x2, l3, l4, l5, l6, l7, l8, l9] [] σ ↔ en_J (X_X7_lay G q) 10 [l0, l1, en_I x2, l3, l4, l5, l6, l7, l8, l9] [en_I x2] σ := en_j1 d_X7_lay_9 rfl rfl
theorem d_X7_lay_10 : decode cX7_lay 10 = .ok (.istore 5, 2) := by decide +kernel
theorem j_X7_lay_10 {G : en_G} {q : Option en_V → en_S → Prop}  {l0 l1 l2 l3 l4 l5 l6 l7 l8 l9 : en_V} {a0 : Int32} {σ : en_S} : en_J (X_X7_lay G q) 10 [l0, l1, l2, l3, l4, l5, l6, l7, l8, l9] [en_I a0] σ ↔ en_J (X_X7_lay G q) 12 [l0, l1, l2, l3, en_c2 l4, en_I a0, l6, l7, l8, l9] [] σ := en_j1 d_X7_lay_10 rfl ⟨rfl, Nat.le_of_ble_eq_true rfl⟩
theorem d_X7_lay_12 : decode cX7_lay 12 = .ok (.iload_n 2, 1) := by decide +kernel
theorem j_X7_lay_12 {G : en_G} {q : Option en_V → en_S → Prop}  {l0 l1 l3 l4 l5 l6 l7 l8 l9 : en_V} {x2 : Int32} {σ : en_S} : en_J (X_X7_lay G q) 12 [l0, l1, en_I x2, l3, l4, l5, l6, l7, l8, l9] [] σ ↔ en_J (X_X7_lay G q) 13 [l0, l1, en_I x2, l3, l4, l5, l6, l7, l8, l9] [en_I x2] σ := en_j1 d_X7_lay_12 rfl rfl
theorem d_X7_lay_13 : decode cX7_lay 13 = .ok (.istore 6, 2) := by decide +kernel
theorem j_X7_lay_13 {G : en_G} {q : Option en_V → en_S → Prop}  {l0 l1 l2 l3 l4 l5 l6 l7 l8 l9 : en_V} {a0 : Int32} {σ : en_S} : en_J (X_X7_lay G q) 13 [l0, l1, l2, l3, l4, l5, l6, l7, l8, l9] [en_I a0] σ ↔ en_J (X_X7_lay G q) 15 [l0, l1, l2, l3, l4, en_c2 l5, en_I a0, l7, l8, l9] [] σ := en_j1 d_X7_lay_13 rfl ⟨rfl, Nat.le_of_ble_eq_true rfl⟩
theorem d_X7_lay_15 : decode cX7_lay 15 = .ok (.iload 5, 2) := by decide +kernel
theorem j_X7_lay_15 {G : en_G} {q : Option en_V → en_S → Prop}  {l0 l1 l2 l3 l4 l6 l7 l8 l9 : en_V} {x5 : Int32} {σ : en_S} : en_J (X_X7_lay G q) 15 [l0, l1, l2, l3, l4, en_I x5, l6, l7, l8, l9] [] σ ↔ en_J (X_X7_lay G q) 17 [l0, l1, l2, l3, l4, en_I x5, l6, l7, l8, l9] [en_I x5] σ := en_j1 d_X7_lay_15 rfl rfl
theorem d_X7_lay_17 : decode cX7_lay 17 = .ok (.ifCond .lt 156, 3) := by decide +kernel
theorem j_X7_lay_17 {G : en_G} {q : Option en_V → en_S → Prop}  {l0 l1 l2 l3 l4 l5 l6 l7 l8 l9 : en_V} {a0 : Int32} {σ : en_S} : en_J (X_X7_lay G q) 17 [l0, l1, l2, l3, l4, l5, l6, l7, l8, l9] [en_I a0] σ ↔ (a0 < 0 → en_J (X_X7_lay G q) 173 [l0, l1, l2, l3, l4, l5, l6, l7, l8, l9] [] σ) ∧ (¬ (a0 < 0) → en_J (X_X7_lay G q) 20 [l0, l1, l2, l3, l4, l5, l6, l7, l8, l9] [] σ) := en_jb d_X7_lay_17 rfl ⟨rfl, by decide⟩
theorem d_X7_lay_20 : decode cX7_lay 20 = .ok (.iload 4, 2) := by decide +kernel
theorem j_X7_lay_20 {G : en_G} {q : Option en_V → en_S → Prop}  {l0 l1 l2 l3 l5 l6 l7 l8 l9 : en_V} {x4 : Int32} {σ : en_S} : en_J (X_X7_lay G q) 20 [l0, l1, l2, l3, en_I x4, l5, l6, l7, l8, l9] [] σ ↔ en_J (X_X7_lay G q) 22 [l0, l1, l2, l3, en_I x4, l5, l6, l7, l8, l9] [en_I x4] σ := en_j1 d_X7_lay_20 rfl rfl
theorem d_X7_lay_22 : decode cX7_lay 22 = .ok (.ifCond .le 22, 3) := by decide +kernel
theorem j_X7_lay_22 {G : en_G} {q : Option en_V → en_S → Prop}  {l0 l1 l2 l3 l4 l5 l6 l7 l8 l9 : en_V} {a0 : Int32} {σ : en_S} : en_J (X_X7_lay G q) 22 [l0, l1, l2, l3, l4, l5, l6, l7, l8, l9] [en_I a0] σ ↔ (a0 ≤ 0 → en_J (X_X7_lay G q) 44 [l0, l1, l2, l3, l4, l5, l6, l7, l8, l9] [] σ) ∧ (¬ (a0 ≤ 0) → en_J (X_X7_lay G q) 25 [l0, l1, l2, l3, l4, l5, l6, l7, l8, l9] [] σ) := en_jb d_X7_lay_22 rfl ⟨rfl, by decide⟩
theorem d_X7_lay_25 : decode cX7_lay 25 = .ok (.aload_n 0, 1) := by decide +kernel
theorem j_X7_lay_25 {G : en_G} {q : Option en_V → en_S → Prop}  {l1 l2 l3 l4 l5 l6 l7 l8 l9 : en_V} {x0 : Option Nat} {σ : en_S} : en_J (X_X7_lay G q) 25 [en_R x0, l1, l2, l3, l4, l5, l6, l7, l8, l9] [] σ ↔ en_J (X_X7_lay G q) 26 [en_R x0, l1, l2, l3, l4, l5, l6, l7, l8, l9] [en_R x0] σ := en_j1 d_X7_lay_25 rfl rfl
theorem d_X7_lay_26 : decode cX7_lay 26 = .ok (.aload_n 0, 1) := by decide +kernel
theorem j_X7_lay_26 {G : en_G} {q : Option en_V → en_S → Prop}  {l1 l2 l3 l4 l5 l6 l7 l8 l9 : en_V} {a0 : Option Nat} {x0 : Option Nat} {σ : en_S} : en_J (X_X7_lay G q) 26 [en_R x0, l1, l2, l3, l4, l5, l6, l7, l8, l9] [en_R a0] σ ↔ en_J (X_X7_lay G q) 27 [en_R x0, l1, l2, l3, l4, l5, l6, l7, l8, l9] [en_R x0, en_R a0] σ := en_j1 d_X7_lay_26 rfl rfl
theorem d_X7_lay_27 : decode cX7_lay 27 = .ok (.iload 6, 2) := by decide +kernel
theorem j_X7_lay_27 {G : en_G} {q : Option en_V → en_S → Prop}  {l0 l1 l2 l3 l4 l5 l7 l8 l9 : en_V} {a0 : Option Nat} {a1 : Option Nat} {x6 : Int32} {σ : en_S} : en_J (X_X7_lay G q) 27 [l0, l1, l2, l3, l4, l5, en_I x6, l7, l8, l9] [en_R a0, en_R a1] σ ↔ en_J (X_X7_lay G q) 29 [l0, l1, l2, l3, l4, l5, en_I x6, l7, l8, l9] [en_I x6, en_R a0, en_R a1] σ := en_j1 d_X7_lay_27 rfl rfl
theorem d_X7_lay_29 : decode cX7_lay 29 = .ok (.invokevirtual 208, 3) := by decide +kernel
theorem j_X7_lay_29 {G : en_G} {q : Option en_V → en_S → Prop}  {l0 l1 l2 l3 l4 l5 l6 l7 l8 l9 : en_V} {a0 : Int32} {a1 : Option Nat} {a2 : Option Nat} {σ : en_S} : en_J (X_X7_lay G q) 29 [l0, l1, l2, l3, l4, l5, l6, l7, l8, l9] [en_I a0, en_R a1, en_R a2] σ ↔ (C_X7_root G).1 [en_R a1, en_I a0] σ ∧ ∀ (r : Option en_V) (σ' : en_S), (C_X7_root G).2 [en_R a1, en_I a0] σ r σ' → en_J (X_X7_lay G q) 32 [l0, l1, l2, l3, l4, l5, l6, l7, l8, l9] (r.toList ++ [en_R a2]) σ' := en_jkC (C := (C_X7_root G)) (n' := 2) (k := 1) (idx := 208) d_X7_lay_29 rfl rfl (by decide) (Nat.le_of_ble_eq_true rfl) (Nat.le_of_ble_eq_true rfl)
theorem d_X7_lay_32 : decode cX7_lay 32 = .ok (.iload 5, 2) := by decide +kernel
theorem j_X7_lay_32 {G : en_G} {q : Option en_V → en_S → Prop}  {l0 l1 l2 l3 l4 l6 l7 l8 l9 : en_V} {a0 : Int32} {a1 : Option Nat} {x5 : Int32} {σ : en_S} : en_J (X_X7_lay G q) 32 [l0, l1, l2, l3, l4, en_I x5, l6, l7, l8, l9] [en_I a0, en_R a1] σ ↔ en_J (X_X7_lay G q) 34 [l0, l1, l2, l3, l4, en_I x5, l6, l7, l8, l9] [en_I x5, en_I a0, en_R a1] σ := en_j1 d_X7_lay_32 rfl rfl
theorem d_X7_lay_34 : decode cX7_lay 34 = .ok (.invokevirtual 174, 3) := by decide +kernel
theorem j_X7_lay_34 {G : en_G} {q : Option en_V → en_S → Prop}  {l0 l1 l2 l3 l4 l5 l6 l7 l8 l9 : en_V} {a0 : Int32} {a1 : Int32} {a2 : Option Nat} {σ : en_S} : en_J (X_X7_lay G q) 34 [l0, l1, l2, l3, l4, l5, l6, l7, l8, l9] [en_I a0, en_I a1, en_R a2] σ ↔ (C_X7_covers G).1 [en_R a2, en_I a1, en_I a0] σ ∧ ∀ (r : Option en_V) (σ' : en_S), (C_X7_covers G).2 [en_R a2, en_I a1, en_I a0] σ r σ' → en_J (X_X7_lay G q) 37 [l0, l1, l2, l3, l4, l5, l6, l7, l8, l9] (r.toList ++ []) σ' := en_jkC (C := (C_X7_covers G)) (n' := 3) (k := 1) (idx := 174) d_X7_lay_34 rfl rfl (by decide) (Nat.le_of_ble_eq_true rfl) (Nat.le_of_ble_eq_true rfl)
theorem d_X7_lay_37 : decode cX7_lay 37 = .ok (.ifCond .eq 7, 3) := by decide +kernel
theorem j_X7_lay_37 {G : en_G} {q : Option en_V → en_S → Prop}  {l0 l1 l2 l3 l4 l5 l6 l7 l8 l9 : en_V} {a0 : Int32} {σ : en_S} : en_J (X_X7_lay G q) 37 [l0, l1, l2, l3, l4, l5, l6, l7, l8, l9] [en_I a0] σ ↔ (a0 = 0 → en_J (X_X7_lay G q) 44 [l0, l1, l2, l3, l4, l5, l6, l7, l8, l9] [] σ) ∧ (¬ (a0 = 0) → en_J (X_X7_lay G q) 40 [l0, l1, l2, l3, l4, l5, l6, l7, l8, l9] [] σ) := en_jb d_X7_lay_37 rfl ⟨rfl, by decide⟩
theorem d_X7_lay_40 : decode cX7_lay 40 = .ok (.iconst 1, 1) := by decide +kernel
theorem j_X7_lay_40 {G : en_G} {q : Option en_V → en_S → Prop}  {l0 l1 l2 l3 l4 l5 l6 l7 l8 l9 : en_V}  {σ : en_S} : en_J (X_X7_lay G q) 40 [l0, l1, l2, l3, l4, l5, l6, l7, l8, l9] [] σ ↔ en_J (X_X7_lay G q) 41 [l0, l1, l2, l3, l4, l5, l6, l7, l8, l9] [en_I 1] σ := ej_iconst d_X7_lay_40 (by decide +kernel)
theorem d_X7_lay_41 : decode cX7_lay 41 = .ok (.goto 4, 3) := by decide +kernel
theorem j_X7_lay_41 {G : en_G} {q : Option en_V → en_S → Prop}  {l0 l1 l2 l3 l4 l5 l6 l7 l8 l9 : en_V} {a0 : Int32} {σ : en_S} : en_J (X_X7_lay G q) 41 [l0, l1, l2, l3, l4, l5, l6, l7, l8, l9] [en_I a0] σ ↔ en_J (X_X7_lay G q) 45 [l0, l1, l2, l3, l4, l5, l6, l7, l8, l9] [en_I a0] σ := en_j1 d_X7_lay_41 rfl ⟨rfl, by decide⟩
theorem d_X7_lay_44 : decode cX7_lay 44 = .ok (.iconst 0, 1) := by decide +kernel
theorem j_X7_lay_44 {G : en_G} {q : Option en_V → en_S → Prop}  {l0 l1 l2 l3 l4 l5 l6 l7 l8 l9 : en_V}  {σ : en_S} : en_J (X_X7_lay G q) 44 [l0, l1, l2, l3, l4, l5, l6, l7, l8, l9] [] σ ↔ en_J (X_X7_lay G q) 45 [l0, l1, l2, l3, l4, l5, l6, l7, l8, l9] [en_I 0] σ := ej_iconst d_X7_lay_44 (by decide +kernel)
theorem d_X7_lay_45 : decode cX7_lay 45 = .ok (.istore 7, 2) := by decide +kernel
theorem j_X7_lay_45 {G : en_G} {q : Option en_V → en_S → Prop}  {l0 l1 l2 l3 l4 l5 l6 l7 l8 l9 : en_V} {a0 : Int32} {σ : en_S} : en_J (X_X7_lay G q) 45 [l0, l1, l2, l3, l4, l5, l6, l7, l8, l9] [en_I a0] σ ↔ en_J (X_X7_lay G q) 47 [l0, l1, l2, l3, l4, l5, en_c2 l6, en_I a0, l8, l9] [] σ := en_j1 d_X7_lay_45 rfl ⟨rfl, Nat.le_of_ble_eq_true rfl⟩
theorem d_X7_lay_47 : decode cX7_lay 47 = .ok (.aload_n 0, 1) := by decide +kernel
theorem j_X7_lay_47 {G : en_G} {q : Option en_V → en_S → Prop}  {l1 l2 l3 l4 l5 l6 l7 l8 l9 : en_V} {x0 : Option Nat} {σ : en_S} : en_J (X_X7_lay G q) 47 [en_R x0, l1, l2, l3, l4, l5, l6, l7, l8, l9] [] σ ↔ en_J (X_X7_lay G q) 48 [en_R x0, l1, l2, l3, l4, l5, l6, l7, l8, l9] [en_R x0] σ := en_j1 d_X7_lay_47 rfl rfl
theorem d_X7_lay_48 : decode cX7_lay 48 = .ok (.getfield 100, 3) := by decide +kernel
theorem j_X7_lay_48 {G : en_G} {q : Option en_V → en_S → Prop}  {l0 l1 l2 l3 l4 l5 l6 l7 l8 l9 : en_V} {a0 : Option Nat} {σ : en_S} : en_J (X_X7_lay G q) 48 [l0, l1, l2, l3, l4, l5, l6, l7, l8, l9] [en_R a0] σ ↔ ∃ a, a0 = some a ∧ en_cl σ a = some 7 ∧ en_J (X_X7_lay G q) 51 [l0, l1, l2, l3, l4, l5, l6, l7, l8, l9] [en_R (en_fr σ 737 a)] σ := en_jg (st := fun o => [en_R o]) (st' := fun a => [en_R (en_fr σ 737 a)]) (σ' := fun _ => σ) d_X7_lay_48 rfl (fun a => rfl) (fun a => ⟨fun h => h.2, fun h => ⟨rfl, h⟩⟩)
theorem d_X7_lay_51 : decode cX7_lay 51 = .ok (.bipush 24, 2) := by decide +kernel
theorem j_X7_lay_51 {G : en_G} {q : Option en_V → en_S → Prop}  {l0 l1 l2 l3 l4 l5 l6 l7 l8 l9 : en_V} {a0 : Option Nat} {σ : en_S} : en_J (X_X7_lay G q) 51 [l0, l1, l2, l3, l4, l5, l6, l7, l8, l9] [en_R a0] σ ↔ en_J (X_X7_lay G q) 53 [l0, l1, l2, l3, l4, l5, l6, l7, l8, l9] [en_I 24, en_R a0] σ := ej_bipush d_X7_lay_51 (by decide +kernel)
theorem d_X7_lay_53 : decode cX7_lay 53 = .ok (.iload_n 1, 1) := by decide +kernel
theorem j_X7_lay_53 {G : en_G} {q : Option en_V → en_S → Prop}  {l0 l2 l3 l4 l5 l6 l7 l8 l9 : en_V} {a0 : Int32} {a1 : Option Nat} {x1 : Int32} {σ : en_S} : en_J (X_X7_lay G q) 53 [l0, en_I x1, l2, l3, l4, l5, l6, l7, l8, l9] [en_I a0, en_R a1] σ ↔ en_J (X_X7_lay G q) 54 [l0, en_I x1, l2, l3, l4, l5, l6, l7, l8, l9] [en_I x1, en_I a0, en_R a1] σ := en_j1 d_X7_lay_53 rfl rfl
theorem d_X7_lay_54 : decode cX7_lay 54 = .ok (.imul, 1) := by decide +kernel
theorem j_X7_lay_54 {G : en_G} {q : Option en_V → en_S → Prop}  {l0 l1 l2 l3 l4 l5 l6 l7 l8 l9 : en_V} {a0 : Int32} {a1 : Int32} {a2 : Option Nat} {σ : en_S} : en_J (X_X7_lay G q) 54 [l0, l1, l2, l3, l4, l5, l6, l7, l8, l9] [en_I a0, en_I a1, en_R a2] σ ↔ en_J (X_X7_lay G q) 55 [l0, l1, l2, l3, l4, l5, l6, l7, l8, l9] [en_I (a1 * a0), en_R a2] σ := en_j1 d_X7_lay_54 rfl ⟨rfl, trivial⟩
theorem d_X7_lay_55 : decode cX7_lay 55 = .ok (.iload 4, 2) := by decide +kernel
theorem j_X7_lay_55 {G : en_G} {q : Option en_V → en_S → Prop}  {l0 l1 l2 l3 l5 l6 l7 l8 l9 : en_V} {a0 : Int32} {a1 : Option Nat} {x4 : Int32} {σ : en_S} : en_J (X_X7_lay G q) 55 [l0, l1, l2, l3, en_I x4, l5, l6, l7, l8, l9] [en_I a0, en_R a1] σ ↔ en_J (X_X7_lay G q) 57 [l0, l1, l2, l3, en_I x4, l5, l6, l7, l8, l9] [en_I x4, en_I a0, en_R a1] σ := en_j1 d_X7_lay_55 rfl rfl
theorem d_X7_lay_57 : decode cX7_lay 57 = .ok (.iadd, 1) := by decide +kernel
theorem j_X7_lay_57 {G : en_G} {q : Option en_V → en_S → Prop}  {l0 l1 l2 l3 l4 l5 l6 l7 l8 l9 : en_V} {a0 : Int32} {a1 : Int32} {a2 : Option Nat} {σ : en_S} : en_J (X_X7_lay G q) 57 [l0, l1, l2, l3, l4, l5, l6, l7, l8, l9] [en_I a0, en_I a1, en_R a2] σ ↔ en_J (X_X7_lay G q) 58 [l0, l1, l2, l3, l4, l5, l6, l7, l8, l9] [en_I (a1 + a0), en_R a2] σ := en_j1 d_X7_lay_57 rfl ⟨rfl, trivial⟩
theorem d_X7_lay_58 : decode cX7_lay 58 = .ok (.iload 5, 2) := by decide +kernel
theorem j_X7_lay_58 {G : en_G} {q : Option en_V → en_S → Prop}  {l0 l1 l2 l3 l4 l6 l7 l8 l9 : en_V} {a0 : Int32} {a1 : Option Nat} {x5 : Int32} {σ : en_S} : en_J (X_X7_lay G q) 58 [l0, l1, l2, l3, l4, en_I x5, l6, l7, l8, l9] [en_I a0, en_R a1] σ ↔ en_J (X_X7_lay G q) 60 [l0, l1, l2, l3, l4, en_I x5, l6, l7, l8, l9] [en_I x5, en_I a0, en_R a1] σ := en_j1 d_X7_lay_58 rfl rfl
theorem d_X7_lay_60 : decode cX7_lay 60 = .ok (.iastore, 1) := by decide +kernel
theorem j_X7_lay_60 {G : en_G} {q : Option en_V → en_S → Prop}  {l0 l1 l2 l3 l4 l5 l6 l7 l8 l9 : en_V} {a0 : Int32} {a1 : Int32} {a2 : Option Nat} {σ : en_S} : en_J (X_X7_lay G q) 60 [l0, l1, l2, l3, l4, l5, l6, l7, l8, l9] [en_I a0, en_I a1, en_R a2] σ ↔ ∃ a, a2 = some a ∧ (∃ k, en_al σ a = some (0, k) ∧ vp_in a1 k) ∧ en_J (X_X7_lay G q) 61 [l0, l1, l2, l3, l4, l5, l6, l7, l8, l9] [] (en_sai σ a a1.toNatClampNeg a0) := ej_iastore d_X7_lay_60
theorem d_X7_lay_61 : decode cX7_lay 61 = .ok (.aload_n 0, 1) := by decide +kernel
theorem j_X7_lay_61 {G : en_G} {q : Option en_V → en_S → Prop}  {l1 l2 l3 l4 l5 l6 l7 l8 l9 : en_V} {x0 : Option Nat} {σ : en_S} : en_J (X_X7_lay G q) 61 [en_R x0, l1, l2, l3, l4, l5, l6, l7, l8, l9] [] σ ↔ en_J (X_X7_lay G q) 62 [en_R x0, l1, l2, l3, l4, l5, l6, l7, l8, l9] [en_R x0] σ := en_j1 d_X7_lay_61 rfl rfl
theorem d_X7_lay_62 : decode cX7_lay 62 = .ok (.getfield 103, 3) := by decide +kernel
theorem j_X7_lay_62 {G : en_G} {q : Option en_V → en_S → Prop}  {l0 l1 l2 l3 l4 l5 l6 l7 l8 l9 : en_V} {a0 : Option Nat} {σ : en_S} : en_J (X_X7_lay G q) 62 [l0, l1, l2, l3, l4, l5, l6, l7, l8, l9] [en_R a0] σ ↔ ∃ a, a0 = some a ∧ en_cl σ a = some 7 ∧ en_J (X_X7_lay G q) 65 [l0, l1, l2, l3, l4, l5, l6, l7, l8, l9] [en_R (en_fr σ 738 a)] σ := en_jg (st := fun o => [en_R o]) (st' := fun a => [en_R (en_fr σ 738 a)]) (σ' := fun _ => σ) d_X7_lay_62 rfl (fun a => rfl) (fun a => ⟨fun h => h.2, fun h => ⟨rfl, h⟩⟩)
theorem d_X7_lay_65 : decode cX7_lay 65 = .ok (.bipush 24, 2) := by decide +kernel
theorem j_X7_lay_65 {G : en_G} {q : Option en_V → en_S → Prop}  {l0 l1 l2 l3 l4 l5 l6 l7 l8 l9 : en_V} {a0 : Option Nat} {σ : en_S} : en_J (X_X7_lay G q) 65 [l0, l1, l2, l3, l4, l5, l6, l7, l8, l9] [en_R a0] σ ↔ en_J (X_X7_lay G q) 67 [l0, l1, l2, l3, l4, l5, l6, l7, l8, l9] [en_I 24, en_R a0] σ := ej_bipush d_X7_lay_65 (by decide +kernel)
theorem d_X7_lay_67 : decode cX7_lay 67 = .ok (.iload_n 1, 1) := by decide +kernel
theorem j_X7_lay_67 {G : en_G} {q : Option en_V → en_S → Prop}  {l0 l2 l3 l4 l5 l6 l7 l8 l9 : en_V} {a0 : Int32} {a1 : Option Nat} {x1 : Int32} {σ : en_S} : en_J (X_X7_lay G q) 67 [l0, en_I x1, l2, l3, l4, l5, l6, l7, l8, l9] [en_I a0, en_R a1] σ ↔ en_J (X_X7_lay G q) 68 [l0, en_I x1, l2, l3, l4, l5, l6, l7, l8, l9] [en_I x1, en_I a0, en_R a1] σ := en_j1 d_X7_lay_67 rfl rfl
theorem d_X7_lay_68 : decode cX7_lay 68 = .ok (.imul, 1) := by decide +kernel
theorem j_X7_lay_68 {G : en_G} {q : Option en_V → en_S → Prop}  {l0 l1 l2 l3 l4 l5 l6 l7 l8 l9 : en_V} {a0 : Int32} {a1 : Int32} {a2 : Option Nat} {σ : en_S} : en_J (X_X7_lay G q) 68 [l0, l1, l2, l3, l4, l5, l6, l7, l8, l9] [en_I a0, en_I a1, en_R a2] σ ↔ en_J (X_X7_lay G q) 69 [l0, l1, l2, l3, l4, l5, l6, l7, l8, l9] [en_I (a1 * a0), en_R a2] σ := en_j1 d_X7_lay_68 rfl ⟨rfl, trivial⟩
theorem d_X7_lay_69 : decode cX7_lay 69 = .ok (.iload 4, 2) := by decide +kernel
theorem j_X7_lay_69 {G : en_G} {q : Option en_V → en_S → Prop}  {l0 l1 l2 l3 l5 l6 l7 l8 l9 : en_V} {a0 : Int32} {a1 : Option Nat} {x4 : Int32} {σ : en_S} : en_J (X_X7_lay G q) 69 [l0, l1, l2, l3, en_I x4, l5, l6, l7, l8, l9] [en_I a0, en_R a1] σ ↔ en_J (X_X7_lay G q) 71 [l0, l1, l2, l3, en_I x4, l5, l6, l7, l8, l9] [en_I x4, en_I a0, en_R a1] σ := en_j1 d_X7_lay_69 rfl rfl
theorem d_X7_lay_71 : decode cX7_lay 71 = .ok (.iadd, 1) := by decide +kernel
theorem j_X7_lay_71 {G : en_G} {q : Option en_V → en_S → Prop}  {l0 l1 l2 l3 l4 l5 l6 l7 l8 l9 : en_V} {a0 : Int32} {a1 : Int32} {a2 : Option Nat} {σ : en_S} : en_J (X_X7_lay G q) 71 [l0, l1, l2, l3, l4, l5, l6, l7, l8, l9] [en_I a0, en_I a1, en_R a2] σ ↔ en_J (X_X7_lay G q) 72 [l0, l1, l2, l3, l4, l5, l6, l7, l8, l9] [en_I (a1 + a0), en_R a2] σ := en_j1 d_X7_lay_71 rfl ⟨rfl, trivial⟩
theorem d_X7_lay_72 : decode cX7_lay 72 = .ok (.iload 7, 2) := by decide +kernel
theorem j_X7_lay_72 {G : en_G} {q : Option en_V → en_S → Prop}  {l0 l1 l2 l3 l4 l5 l6 l8 l9 : en_V} {a0 : Int32} {a1 : Option Nat} {x7 : Int32} {σ : en_S} : en_J (X_X7_lay G q) 72 [l0, l1, l2, l3, l4, l5, l6, en_I x7, l8, l9] [en_I a0, en_R a1] σ ↔ en_J (X_X7_lay G q) 74 [l0, l1, l2, l3, l4, l5, l6, en_I x7, l8, l9] [en_I x7, en_I a0, en_R a1] σ := en_j1 d_X7_lay_72 rfl rfl
theorem d_X7_lay_74 : decode cX7_lay 74 = .ok (.ifCond .eq 7, 3) := by decide +kernel
theorem j_X7_lay_74 {G : en_G} {q : Option en_V → en_S → Prop}  {l0 l1 l2 l3 l4 l5 l6 l7 l8 l9 : en_V} {a0 : Int32} {a1 : Int32} {a2 : Option Nat} {σ : en_S} : en_J (X_X7_lay G q) 74 [l0, l1, l2, l3, l4, l5, l6, l7, l8, l9] [en_I a0, en_I a1, en_R a2] σ ↔ (a0 = 0 → en_J (X_X7_lay G q) 81 [l0, l1, l2, l3, l4, l5, l6, l7, l8, l9] [en_I a1, en_R a2] σ) ∧ (¬ (a0 = 0) → en_J (X_X7_lay G q) 77 [l0, l1, l2, l3, l4, l5, l6, l7, l8, l9] [en_I a1, en_R a2] σ) := en_jb d_X7_lay_74 rfl ⟨rfl, by decide⟩
theorem d_X7_lay_77 : decode cX7_lay 77 = .ok (.iconst (-1), 1) := by decide +kernel
theorem j_X7_lay_77 {G : en_G} {q : Option en_V → en_S → Prop}  {l0 l1 l2 l3 l4 l5 l6 l7 l8 l9 : en_V} {a0 : Int32} {a1 : Option Nat} {σ : en_S} : en_J (X_X7_lay G q) 77 [l0, l1, l2, l3, l4, l5, l6, l7, l8, l9] [en_I a0, en_R a1] σ ↔ en_J (X_X7_lay G q) 78 [l0, l1, l2, l3, l4, l5, l6, l7, l8, l9] [en_I (-1), en_I a0, en_R a1] σ := ej_iconst d_X7_lay_77 (by decide +kernel)
theorem d_X7_lay_78 : decode cX7_lay 78 = .ok (.goto 5, 3) := by decide +kernel
theorem j_X7_lay_78 {G : en_G} {q : Option en_V → en_S → Prop}  {l0 l1 l2 l3 l4 l5 l6 l7 l8 l9 : en_V} {a0 : Int32} {a1 : Int32} {a2 : Option Nat} {σ : en_S} : en_J (X_X7_lay G q) 78 [l0, l1, l2, l3, l4, l5, l6, l7, l8, l9] [en_I a0, en_I a1, en_R a2] σ ↔ en_J (X_X7_lay G q) 83 [l0, l1, l2, l3, l4, l5, l6, l7, l8, l9] [en_I a0, en_I a1, en_R a2] σ := en_j1 d_X7_lay_78 rfl ⟨rfl, by decide⟩
theorem d_X7_lay_81 : decode cX7_lay 81 = .ok (.iload 5, 2) := by decide +kernel
theorem j_X7_lay_81 {G : en_G} {q : Option en_V → en_S → Prop}  {l0 l1 l2 l3 l4 l6 l7 l8 l9 : en_V} {a0 : Int32} {a1 : Option Nat} {x5 : Int32} {σ : en_S} : en_J (X_X7_lay G q) 81 [l0, l1, l2, l3, l4, en_I x5, l6, l7, l8, l9] [en_I a0, en_R a1] σ ↔ en_J (X_X7_lay G q) 83 [l0, l1, l2, l3, l4, en_I x5, l6, l7, l8, l9] [en_I x5, en_I a0, en_R a1] σ := en_j1 d_X7_lay_81 rfl rfl
theorem d_X7_lay_83 : decode cX7_lay 83 = .ok (.iastore, 1) := by decide +kernel
theorem j_X7_lay_83 {G : en_G} {q : Option en_V → en_S → Prop}  {l0 l1 l2 l3 l4 l5 l6 l7 l8 l9 : en_V} {a0 : Int32} {a1 : Int32} {a2 : Option Nat} {σ : en_S} : en_J (X_X7_lay G q) 83 [l0, l1, l2, l3, l4, l5, l6, l7, l8, l9] [en_I a0, en_I a1, en_R a2] σ ↔ ∃ a, a2 = some a ∧ (∃ k, en_al σ a = some (0, k) ∧ vp_in a1 k) ∧ en_J (X_X7_lay G q) 84 [l0, l1, l2, l3, l4, l5, l6, l7, l8, l9] [] (en_sai σ a a1.toNatClampNeg a0) := ej_iastore d_X7_lay_83
theorem d_X7_lay_84 : decode cX7_lay 84 = .ok (.iload 7, 2) := by decide +kernel
theorem j_X7_lay_84 {G : en_G} {q : Option en_V → en_S → Prop}  {l0 l1 l2 l3 l4 l5 l6 l8 l9 : en_V} {x7 : Int32} {σ : en_S} : en_J (X_X7_lay G q) 84 [l0, l1, l2, l3, l4, l5, l6, en_I x7, l8, l9] [] σ ↔ en_J (X_X7_lay G q) 86 [l0, l1, l2, l3, l4, l5, l6, en_I x7, l8, l9] [en_I x7] σ := en_j1 d_X7_lay_84 rfl rfl
theorem d_X7_lay_86 : decode cX7_lay 86 = .ok (.ifCond .eq 8, 3) := by decide +kernel
theorem j_X7_lay_86 {G : en_G} {q : Option en_V → en_S → Prop}  {l0 l1 l2 l3 l4 l5 l6 l7 l8 l9 : en_V} {a0 : Int32} {σ : en_S} : en_J (X_X7_lay G q) 86 [l0, l1, l2, l3, l4, l5, l6, l7, l8, l9] [en_I a0] σ ↔ (a0 = 0 → en_J (X_X7_lay G q) 94 [l0, l1, l2, l3, l4, l5, l6, l7, l8, l9] [] σ) ∧ (¬ (a0 = 0) → en_J (X_X7_lay G q) 89 [l0, l1, l2, l3, l4, l5, l6, l7, l8, l9] [] σ) := en_jb d_X7_lay_86 rfl ⟨rfl, by decide⟩
theorem d_X7_lay_89 : decode cX7_lay 89 = .ok (.iload 6, 2) := by decide +kernel
theorem j_X7_lay_89 {G : en_G} {q : Option en_V → en_S → Prop}  {l0 l1 l2 l3 l4 l5 l7 l8 l9 : en_V} {x6 : Int32} {σ : en_S} : en_J (X_X7_lay G q) 89 [l0, l1, l2, l3, l4, l5, en_I x6, l7, l8, l9] [] σ ↔ en_J (X_X7_lay G q) 91 [l0, l1, l2, l3, l4, l5, en_I x6, l7, l8, l9] [en_I x6] σ := en_j1 d_X7_lay_89 rfl rfl
theorem d_X7_lay_91 : decode cX7_lay 91 = .ok (.goto 5, 3) := by decide +kernel
theorem j_X7_lay_91 {G : en_G} {q : Option en_V → en_S → Prop}  {l0 l1 l2 l3 l4 l5 l6 l7 l8 l9 : en_V} {a0 : Int32} {σ : en_S} : en_J (X_X7_lay G q) 91 [l0, l1, l2, l3, l4, l5, l6, l7, l8, l9] [en_I a0] σ ↔ en_J (X_X7_lay G q) 96 [l0, l1, l2, l3, l4, l5, l6, l7, l8, l9] [en_I a0] σ := en_j1 d_X7_lay_91 rfl ⟨rfl, by decide⟩
theorem d_X7_lay_94 : decode cX7_lay 94 = .ok (.iload 5, 2) := by decide +kernel
theorem j_X7_lay_94 {G : en_G} {q : Option en_V → en_S → Prop}  {l0 l1 l2 l3 l4 l6 l7 l8 l9 : en_V} {x5 : Int32} {σ : en_S} : en_J (X_X7_lay G q) 94 [l0, l1, l2, l3, l4, en_I x5, l6, l7, l8, l9] [] σ ↔ en_J (X_X7_lay G q) 96 [l0, l1, l2, l3, l4, en_I x5, l6, l7, l8, l9] [en_I x5] σ := en_j1 d_X7_lay_94 rfl rfl
theorem d_X7_lay_96 : decode cX7_lay 96 = .ok (.istore 6, 2) := by decide +kernel
theorem j_X7_lay_96 {G : en_G} {q : Option en_V → en_S → Prop}  {l0 l1 l2 l3 l4 l5 l6 l7 l8 l9 : en_V} {a0 : Int32} {σ : en_S} : en_J (X_X7_lay G q) 96 [l0, l1, l2, l3, l4, l5, l6, l7, l8, l9] [en_I a0] σ ↔ en_J (X_X7_lay G q) 98 [l0, l1, l2, l3, l4, en_c2 l5, en_I a0, l7, l8, l9] [] σ := en_j1 d_X7_lay_96 rfl ⟨rfl, Nat.le_of_ble_eq_true rfl⟩
theorem d_X7_lay_98 : decode cX7_lay 98 = .ok (.iinc 4 1, 3) := by decide +kernel
theorem j_X7_lay_98 {G : en_G} {q : Option en_V → en_S → Prop}  {l0 l1 l2 l3 l5 l6 l7 l8 l9 : en_V} {x4 : Int32} {σ : en_S} : en_J (X_X7_lay G q) 98 [l0, l1, l2, l3, en_I x4, l5, l6, l7, l8, l9] [] σ ↔ en_J (X_X7_lay G q) 101 [l0, l1, l2, en_c2 l3, en_I (x4 + 1), l5, l6, l7, l8, l9] [] σ := ej_iinc d_X7_lay_98 rfl (by decide +kernel) rfl
theorem d_X7_lay_101 : decode cX7_lay 101 = .ok (.aload_n 0, 1) := by decide +kernel
theorem j_X7_lay_101 {G : en_G} {q : Option en_V → en_S → Prop}  {l1 l2 l3 l4 l5 l6 l7 l8 l9 : en_V} {x0 : Option Nat} {σ : en_S} : en_J (X_X7_lay G q) 101 [en_R x0, l1, l2, l3, l4, l5, l6, l7, l8, l9] [] σ ↔ en_J (X_X7_lay G q) 102 [en_R x0, l1, l2, l3, l4, l5, l6, l7, l8, l9] [en_R x0] σ := en_j1 d_X7_lay_101 rfl rfl
theorem d_X7_lay_102 : decode cX7_lay 102 = .ok (.iload 5, 2) := by decide +kernel
theorem j_X7_lay_102 {G : en_G} {q : Option en_V → en_S → Prop}  {l0 l1 l2 l3 l4 l6 l7 l8 l9 : en_V} {a0 : Option Nat} {x5 : Int32} {σ : en_S} : en_J (X_X7_lay G q) 102 [l0, l1, l2, l3, l4, en_I x5, l6, l7, l8, l9] [en_R a0] σ ↔ en_J (X_X7_lay G q) 104 [l0, l1, l2, l3, l4, en_I x5, l6, l7, l8, l9] [en_I x5, en_R a0] σ := en_j1 d_X7_lay_102 rfl rfl
theorem d_X7_lay_104 : decode cX7_lay 104 = .ok (.invokevirtual 211, 3) := by decide +kernel
theorem j_X7_lay_104 {G : en_G} {q : Option en_V → en_S → Prop}  {l0 l1 l2 l3 l4 l5 l6 l7 l8 l9 : en_V} {a0 : Int32} {a1 : Option Nat} {σ : en_S} : en_J (X_X7_lay G q) 104 [l0, l1, l2, l3, l4, l5, l6, l7, l8, l9] [en_I a0, en_R a1] σ ↔ (C_X7_assigned G).1 [en_R a1, en_I a0] σ ∧ ∀ (r : Option en_V) (σ' : en_S), (C_X7_assigned G).2 [en_R a1, en_I a0] σ r σ' → en_J (X_X7_lay G q) 107 [l0, l1, l2, l3, l4, l5, l6, l7, l8, l9] (r.toList ++ []) σ' := en_jkC (C := (C_X7_assigned G)) (n' := 2) (k := 1) (idx := 211) d_X7_lay_104 rfl rfl (by decide) (Nat.le_of_ble_eq_true rfl) (Nat.le_of_ble_eq_true rfl)
theorem d_X7_lay_107 : decode cX7_lay 107 = .ok (.istore 8, 2) := by decide +kernel
theorem j_X7_lay_107 {G : en_G} {q : Option en_V → en_S → Prop}  {l0 l1 l2 l3 l4 l5 l6 l7 l8 l9 : en_V} {a0 : Int32} {σ : en_S} : en_J (X_X7_lay G q) 107 [l0, l1, l2, l3, l4, l5, l6, l7, l8, l9] [en_I a0] σ ↔ en_J (X_X7_lay G q) 109 [l0, l1, l2, l3, l4, l5, l6, en_c2 l7, en_I a0, l9] [] σ := en_j1 d_X7_lay_107 rfl ⟨rfl, Nat.le_of_ble_eq_true rfl⟩
theorem d_X7_lay_109 : decode cX7_lay 109 = .ok (.aload_n 0, 1) := by decide +kernel
theorem j_X7_lay_109 {G : en_G} {q : Option en_V → en_S → Prop}  {l1 l2 l3 l4 l5 l6 l7 l8 l9 : en_V} {x0 : Option Nat} {σ : en_S} : en_J (X_X7_lay G q) 109 [en_R x0, l1, l2, l3, l4, l5, l6, l7, l8, l9] [] σ ↔ en_J (X_X7_lay G q) 110 [en_R x0, l1, l2, l3, l4, l5, l6, l7, l8, l9] [en_R x0] σ := en_j1 d_X7_lay_109 rfl rfl
theorem d_X7_lay_110 : decode cX7_lay 110 = .ok (.getfield 13, 3) := by decide +kernel
theorem j_X7_lay_110 {G : en_G} {q : Option en_V → en_S → Prop}  {l0 l1 l2 l3 l4 l5 l6 l7 l8 l9 : en_V} {a0 : Option Nat} {σ : en_S} : en_J (X_X7_lay G q) 110 [l0, l1, l2, l3, l4, l5, l6, l7, l8, l9] [en_R a0] σ ↔ ∃ a, a0 = some a ∧ en_cl σ a = some 7 ∧ en_J (X_X7_lay G q) 113 [l0, l1, l2, l3, l4, l5, l6, l7, l8, l9] [en_R (en_fr σ 702 a)] σ := en_jg (st := fun o => [en_R o]) (st' := fun a => [en_R (en_fr σ 702 a)]) (σ' := fun _ => σ) d_X7_lay_110 rfl (fun a => rfl) (fun a => ⟨fun h => h.2, fun h => ⟨rfl, h⟩⟩)
theorem d_X7_lay_113 : decode cX7_lay 113 = .ok (.iload 5, 2) := by decide +kernel
theorem j_X7_lay_113 {G : en_G} {q : Option en_V → en_S → Prop}  {l0 l1 l2 l3 l4 l6 l7 l8 l9 : en_V} {a0 : Option Nat} {x5 : Int32} {σ : en_S} : en_J (X_X7_lay G q) 113 [l0, l1, l2, l3, l4, en_I x5, l6, l7, l8, l9] [en_R a0] σ ↔ en_J (X_X7_lay G q) 115 [l0, l1, l2, l3, l4, en_I x5, l6, l7, l8, l9] [en_I x5, en_R a0] σ := en_j1 d_X7_lay_113 rfl rfl
theorem d_X7_lay_115 : decode cX7_lay 115 = .ok (.iaload, 1) := by decide +kernel
theorem j_X7_lay_115 {G : en_G} {q : Option en_V → en_S → Prop}  {l0 l1 l2 l3 l4 l5 l6 l7 l8 l9 : en_V} {a0 : Int32} {a1 : Option Nat} {σ : en_S} : en_J (X_X7_lay G q) 115 [l0, l1, l2, l3, l4, l5, l6, l7, l8, l9] [en_I a0, en_R a1] σ ↔ ∃ a, a1 = some a ∧ (∃ k, en_al σ a = some (0, k) ∧ vp_in a0 k) ∧ en_J (X_X7_lay G q) 116 [l0, l1, l2, l3, l4, l5, l6, l7, l8, l9] [en_I (en_ai σ a a0.toNatClampNeg)] σ := ej_iaload d_X7_lay_115 rfl
theorem d_X7_lay_116 : decode cX7_lay 116 = .ok (.iconst 4, 1) := by decide +kernel
theorem j_X7_lay_116 {G : en_G} {q : Option en_V → en_S → Prop}  {l0 l1 l2 l3 l4 l5 l6 l7 l8 l9 : en_V} {a0 : Int32} {σ : en_S} : en_J (X_X7_lay G q) 116 [l0, l1, l2, l3, l4, l5, l6, l7, l8, l9] [en_I a0] σ ↔ en_J (X_X7_lay G q) 117 [l0, l1, l2, l3, l4, l5, l6, l7, l8, l9] [en_I 4, en_I a0] σ := ej_iconst d_X7_lay_116 (by decide +kernel)
theorem d_X7_lay_117 : decode cX7_lay 117 = .ok (.if_icmp .ne 23, 3) := by decide +kernel
theorem j_X7_lay_117 {G : en_G} {q : Option en_V → en_S → Prop}  {l0 l1 l2 l3 l4 l5 l6 l7 l8 l9 : en_V} {a0 : Int32} {a1 : Int32} {σ : en_S} : en_J (X_X7_lay G q) 117 [l0, l1, l2, l3, l4, l5, l6, l7, l8, l9] [en_I a0, en_I a1] σ ↔ (¬ a1 = a0 → en_J (X_X7_lay G q) 140 [l0, l1, l2, l3, l4, l5, l6, l7, l8, l9] [] σ) ∧ (¬ (¬ a1 = a0) → en_J (X_X7_lay G q) 120 [l0, l1, l2, l3, l4, l5, l6, l7, l8, l9] [] σ) := en_jb d_X7_lay_117 rfl ⟨rfl, by decide⟩
theorem d_X7_lay_120 : decode cX7_lay 120 = .ok (.aload_n 0, 1) := by decide +kernel
theorem j_X7_lay_120 {G : en_G} {q : Option en_V → en_S → Prop}  {l1 l2 l3 l4 l5 l6 l7 l8 l9 : en_V} {x0 : Option Nat} {σ : en_S} : en_J (X_X7_lay G q) 120 [en_R x0, l1, l2, l3, l4, l5, l6, l7, l8, l9] [] σ ↔ en_J (X_X7_lay G q) 121 [en_R x0, l1, l2, l3, l4, l5, l6, l7, l8, l9] [en_R x0] σ := en_j1 d_X7_lay_120 rfl rfl
theorem d_X7_lay_121 : decode cX7_lay 121 = .ok (.getfield 112, 3) := by decide +kernel
theorem j_X7_lay_121 {G : en_G} {q : Option en_V → en_S → Prop}  {l0 l1 l2 l3 l4 l5 l6 l7 l8 l9 : en_V} {a0 : Option Nat} {σ : en_S} : en_J (X_X7_lay G q) 121 [l0, l1, l2, l3, l4, l5, l6, l7, l8, l9] [en_R a0] σ ↔ ∃ a, a0 = some a ∧ en_cl σ a = some 7 ∧ en_J (X_X7_lay G q) 124 [l0, l1, l2, l3, l4, l5, l6, l7, l8, l9] [en_R (en_fr σ 741 a)] σ := en_jg (st := fun o => [en_R o]) (st' := fun a => [en_R (en_fr σ 741 a)]) (σ' := fun _ => σ) d_X7_lay_121 rfl (fun a => rfl) (fun a => ⟨fun h => h.2, fun h => ⟨rfl, h⟩⟩)
theorem d_X7_lay_124 : decode cX7_lay 124 = .ok (.iload_n 1, 1) := by decide +kernel
theorem j_X7_lay_124 {G : en_G} {q : Option en_V → en_S → Prop}  {l0 l2 l3 l4 l5 l6 l7 l8 l9 : en_V} {a0 : Option Nat} {x1 : Int32} {σ : en_S} : en_J (X_X7_lay G q) 124 [l0, en_I x1, l2, l3, l4, l5, l6, l7, l8, l9] [en_R a0] σ ↔ en_J (X_X7_lay G q) 125 [l0, en_I x1, l2, l3, l4, l5, l6, l7, l8, l9] [en_I x1, en_R a0] σ := en_j1 d_X7_lay_124 rfl rfl
theorem d_X7_lay_125 : decode cX7_lay 125 = .ok (.iaload, 1) := by decide +kernel
theorem j_X7_lay_125 {G : en_G} {q : Option en_V → en_S → Prop}  {l0 l1 l2 l3 l4 l5 l6 l7 l8 l9 : en_V} {a0 : Int32} {a1 : Option Nat} {σ : en_S} : en_J (X_X7_lay G q) 125 [l0, l1, l2, l3, l4, l5, l6, l7, l8, l9] [en_I a0, en_R a1] σ ↔ ∃ a, a1 = some a ∧ (∃ k, en_al σ a = some (0, k) ∧ vp_in a0 k) ∧ en_J (X_X7_lay G q) 126 [l0, l1, l2, l3, l4, l5, l6, l7, l8, l9] [en_I (en_ai σ a a0.toNatClampNeg)] σ := ej_iaload d_X7_lay_125 rfl
theorem d_X7_lay_126 : decode cX7_lay 126 = .ok (.iconst 4, 1) := by decide +kernel
theorem j_X7_lay_126 {G : en_G} {q : Option en_V → en_S → Prop}  {l0 l1 l2 l3 l4 l5 l6 l7 l8 l9 : en_V} {a0 : Int32} {σ : en_S} : en_J (X_X7_lay G q) 126 [l0, l1, l2, l3, l4, l5, l6, l7, l8, l9] [en_I a0] σ ↔ en_J (X_X7_lay G q) 127 [l0, l1, l2, l3, l4, l5, l6, l7, l8, l9] [en_I 4, en_I a0] σ := ej_iconst d_X7_lay_126 (by decide +kernel)
theorem d_X7_lay_127 : decode cX7_lay 127 = .ok (.if_icmp .ge 13, 3) := by decide +kernel
theorem j_X7_lay_127 {G : en_G} {q : Option en_V → en_S → Prop}  {l0 l1 l2 l3 l4 l5 l6 l7 l8 l9 : en_V} {a0 : Int32} {a1 : Int32} {σ : en_S} : en_J (X_X7_lay G q) 127 [l0, l1, l2, l3, l4, l5, l6, l7, l8, l9] [en_I a0, en_I a1] σ ↔ (a0 ≤ a1 → en_J (X_X7_lay G q) 140 [l0, l1, l2, l3, l4, l5, l6, l7, l8, l9] [] σ) ∧ (¬ (a0 ≤ a1) → en_J (X_X7_lay G q) 130 [l0, l1, l2, l3, l4, l5, l6, l7, l8, l9] [] σ) := en_jb d_X7_lay_127 rfl ⟨rfl, by decide⟩
theorem d_X7_lay_130 : decode cX7_lay 130 = .ok (.iload 5, 2) := by decide +kernel
theorem j_X7_lay_130 {G : en_G} {q : Option en_V → en_S → Prop}  {l0 l1 l2 l3 l4 l6 l7 l8 l9 : en_V} {x5 : Int32} {σ : en_S} : en_J (X_X7_lay G q) 130 [l0, l1, l2, l3, l4, en_I x5, l6, l7, l8, l9] [] σ ↔ en_J (X_X7_lay G q) 132 [l0, l1, l2, l3, l4, en_I x5, l6, l7, l8, l9] [en_I x5] σ := en_j1 d_X7_lay_130 rfl rfl
theorem d_X7_lay_132 : decode cX7_lay 132 = .ok (.iload_n 3, 1) := by decide +kernel
theorem j_X7_lay_132 {G : en_G} {q : Option en_V → en_S → Prop}  {l0 l1 l2 l4 l5 l6 l7 l8 l9 : en_V} {a0 : Int32} {x3 : Int32} {σ : en_S} : en_J (X_X7_lay G q) 132 [l0, l1, l2, en_I x3, l4, l5, l6, l7, l8, l9] [en_I a0] σ ↔ en_J (X_X7_lay G q) 133 [l0, l1, l2, en_I x3, l4, l5, l6, l7, l8, l9] [en_I x3, en_I a0] σ := en_j1 d_X7_lay_132 rfl rfl
theorem d_X7_lay_133 : decode cX7_lay 133 = .ok (.if_icmp .ne 7, 3) := by decide +kernel
theorem j_X7_lay_133 {G : en_G} {q : Option en_V → en_S → Prop}  {l0 l1 l2 l3 l4 l5 l6 l7 l8 l9 : en_V} {a0 : Int32} {a1 : Int32} {σ : en_S} : en_J (X_X7_lay G q) 133 [l0, l1, l2, l3, l4, l5, l6, l7, l8, l9] [en_I a0, en_I a1] σ ↔ (¬ a1 = a0 → en_J (X_X7_lay G q) 140 [l0, l1, l2, l3, l4, l5, l6, l7, l8, l9] [] σ) ∧ (¬ (¬ a1 = a0) → en_J (X_X7_lay G q) 136 [l0, l1, l2, l3, l4, l5, l6, l7, l8, l9] [] σ) := en_jb d_X7_lay_133 rfl ⟨rfl, by decide⟩
theorem d_X7_lay_136 : decode cX7_lay 136 = .ok (.iconst 1, 1) := by decide +kernel
theorem j_X7_lay_136 {G : en_G} {q : Option en_V → en_S → Prop}  {l0 l1 l2 l3 l4 l5 l6 l7 l8 l9 : en_V}  {σ : en_S} : en_J (X_X7_lay G q) 136 [l0, l1, l2, l3, l4, l5, l6, l7, l8, l9] [] σ ↔ en_J (X_X7_lay G q) 137 [l0, l1, l2, l3, l4, l5, l6, l7, l8, l9] [en_I 1] σ := ej_iconst d_X7_lay_136 (by decide +kernel)
theorem d_X7_lay_137 : decode cX7_lay 137 = .ok (.goto 4, 3) := by decide +kernel
theorem j_X7_lay_137 {G : en_G} {q : Option en_V → en_S → Prop}  {l0 l1 l2 l3 l4 l5 l6 l7 l8 l9 : en_V} {a0 : Int32} {σ : en_S} : en_J (X_X7_lay G q) 137 [l0, l1, l2, l3, l4, l5, l6, l7, l8, l9] [en_I a0] σ ↔ en_J (X_X7_lay G q) 141 [l0, l1, l2, l3, l4, l5, l6, l7, l8, l9] [en_I a0] σ := en_j1 d_X7_lay_137 rfl ⟨rfl, by decide⟩
theorem d_X7_lay_140 : decode cX7_lay 140 = .ok (.iconst 0, 1) := by decide +kernel
theorem j_X7_lay_140 {G : en_G} {q : Option en_V → en_S → Prop}  {l0 l1 l2 l3 l4 l5 l6 l7 l8 l9 : en_V}  {σ : en_S} : en_J (X_X7_lay G q) 140 [l0, l1, l2, l3, l4, l5, l6, l7, l8, l9] [] σ ↔ en_J (X_X7_lay G q) 141 [l0, l1, l2, l3, l4, l5, l6, l7, l8, l9] [en_I 0] σ := ej_iconst d_X7_lay_140 (by decide +kernel)
theorem d_X7_lay_141 : decode cX7_lay 141 = .ok (.istore 9, 2) := by decide +kernel
theorem j_X7_lay_141 {G : en_G} {q : Option en_V → en_S → Prop}  {l0 l1 l2 l3 l4 l5 l6 l7 l8 l9 : en_V} {a0 : Int32} {σ : en_S} : en_J (X_X7_lay G q) 141 [l0, l1, l2, l3, l4, l5, l6, l7, l8, l9] [en_I a0] σ ↔ en_J (X_X7_lay G q) 143 [l0, l1, l2, l3, l4, l5, l6, l7, en_c2 l8, en_I a0] [] σ := en_j1 d_X7_lay_141 rfl ⟨rfl, Nat.le_of_ble_eq_true rfl⟩
theorem d_X7_lay_143 : decode cX7_lay 143 = .ok (.iload 8, 2) := by decide +kernel
theorem j_X7_lay_143 {G : en_G} {q : Option en_V → en_S → Prop}  {l0 l1 l2 l3 l4 l5 l6 l7 l9 : en_V} {x8 : Int32} {σ : en_S} : en_J (X_X7_lay G q) 143 [l0, l1, l2, l3, l4, l5, l6, l7, en_I x8, l9] [] σ ↔ en_J (X_X7_lay G q) 145 [l0, l1, l2, l3, l4, l5, l6, l7, en_I x8, l9] [en_I x8] σ := en_j1 d_X7_lay_143 rfl rfl
theorem d_X7_lay_145 : decode cX7_lay 145 = .ok (.ifCond .lt 8, 3) := by decide +kernel
theorem j_X7_lay_145 {G : en_G} {q : Option en_V → en_S → Prop}  {l0 l1 l2 l3 l4 l5 l6 l7 l8 l9 : en_V} {a0 : Int32} {σ : en_S} : en_J (X_X7_lay G q) 145 [l0, l1, l2, l3, l4, l5, l6, l7, l8, l9] [en_I a0] σ ↔ (a0 < 0 → en_J (X_X7_lay G q) 153 [l0, l1, l2, l3, l4, l5, l6, l7, l8, l9] [] σ) ∧ (¬ (a0 < 0) → en_J (X_X7_lay G q) 148 [l0, l1, l2, l3, l4, l5, l6, l7, l8, l9] [] σ) := en_jb d_X7_lay_145 rfl ⟨rfl, by decide⟩
theorem d_X7_lay_148 : decode cX7_lay 148 = .ok (.iload 8, 2) := by decide +kernel
theorem j_X7_lay_148 {G : en_G} {q : Option en_V → en_S → Prop}  {l0 l1 l2 l3 l4 l5 l6 l7 l9 : en_V} {x8 : Int32} {σ : en_S} : en_J (X_X7_lay G q) 148 [l0, l1, l2, l3, l4, l5, l6, l7, en_I x8, l9] [] σ ↔ en_J (X_X7_lay G q) 150 [l0, l1, l2, l3, l4, l5, l6, l7, en_I x8, l9] [en_I x8] σ := en_j1 d_X7_lay_148 rfl rfl
theorem d_X7_lay_150 : decode cX7_lay 150 = .ok (.goto 18, 3) := by decide +kernel
theorem j_X7_lay_150 {G : en_G} {q : Option en_V → en_S → Prop}  {l0 l1 l2 l3 l4 l5 l6 l7 l8 l9 : en_V} {a0 : Int32} {σ : en_S} : en_J (X_X7_lay G q) 150 [l0, l1, l2, l3, l4, l5, l6, l7, l8, l9] [en_I a0] σ ↔ en_J (X_X7_lay G q) 168 [l0, l1, l2, l3, l4, l5, l6, l7, l8, l9] [en_I a0] σ := en_j1 d_X7_lay_150 rfl ⟨rfl, by decide⟩
theorem d_X7_lay_153 : decode cX7_lay 153 = .ok (.iload 9, 2) := by decide +kernel
theorem j_X7_lay_153 {G : en_G} {q : Option en_V → en_S → Prop}  {l0 l1 l2 l3 l4 l5 l6 l7 l8 : en_V} {x9 : Int32} {σ : en_S} : en_J (X_X7_lay G q) 153 [l0, l1, l2, l3, l4, l5, l6, l7, l8, en_I x9] [] σ ↔ en_J (X_X7_lay G q) 155 [l0, l1, l2, l3, l4, l5, l6, l7, l8, en_I x9] [en_I x9] σ := en_j1 d_X7_lay_153 rfl rfl
theorem d_X7_lay_155 : decode cX7_lay 155 = .ok (.ifCond .eq 7, 3) := by decide +kernel
theorem j_X7_lay_155 {G : en_G} {q : Option en_V → en_S → Prop}  {l0 l1 l2 l3 l4 l5 l6 l7 l8 l9 : en_V} {a0 : Int32} {σ : en_S} : en_J (X_X7_lay G q) 155 [l0, l1, l2, l3, l4, l5, l6, l7, l8, l9] [en_I a0] σ ↔ (a0 = 0 → en_J (X_X7_lay G q) 162 [l0, l1, l2, l3, l4, l5, l6, l7, l8, l9] [] σ) ∧ (¬ (a0 = 0) → en_J (X_X7_lay G q) 158 [l0, l1, l2, l3, l4, l5, l6, l7, l8, l9] [] σ) := en_jb d_X7_lay_155 rfl ⟨rfl, by decide⟩
theorem d_X7_lay_158 : decode cX7_lay 158 = .ok (.iconst (-1), 1) := by decide +kernel
theorem j_X7_lay_158 {G : en_G} {q : Option en_V → en_S → Prop}  {l0 l1 l2 l3 l4 l5 l6 l7 l8 l9 : en_V}  {σ : en_S} : en_J (X_X7_lay G q) 158 [l0, l1, l2, l3, l4, l5, l6, l7, l8, l9] [] σ ↔ en_J (X_X7_lay G q) 159 [l0, l1, l2, l3, l4, l5, l6, l7, l8, l9] [en_I (-1)] σ := ej_iconst d_X7_lay_158 (by decide +kernel)
theorem d_X7_lay_159 : decode cX7_lay 159 = .ok (.goto 9, 3) := by decide +kernel
theorem j_X7_lay_159 {G : en_G} {q : Option en_V → en_S → Prop}  {l0 l1 l2 l3 l4 l5 l6 l7 l8 l9 : en_V} {a0 : Int32} {σ : en_S} : en_J (X_X7_lay G q) 159 [l0, l1, l2, l3, l4, l5, l6, l7, l8, l9] [en_I a0] σ ↔ en_J (X_X7_lay G q) 168 [l0, l1, l2, l3, l4, l5, l6, l7, l8, l9] [en_I a0] σ := en_j1 d_X7_lay_159 rfl ⟨rfl, by decide⟩
theorem d_X7_lay_162 : decode cX7_lay 162 = .ok (.aload_n 0, 1) := by decide +kernel
theorem j_X7_lay_162 {G : en_G} {q : Option en_V → en_S → Prop}  {l1 l2 l3 l4 l5 l6 l7 l8 l9 : en_V} {x0 : Option Nat} {σ : en_S} : en_J (X_X7_lay G q) 162 [en_R x0, l1, l2, l3, l4, l5, l6, l7, l8, l9] [] σ ↔ en_J (X_X7_lay G q) 163 [en_R x0, l1, l2, l3, l4, l5, l6, l7, l8, l9] [en_R x0] σ := en_j1 d_X7_lay_162 rfl rfl
theorem d_X7_lay_163 : decode cX7_lay 163 = .ok (.iload 5, 2) := by decide +kernel
theorem j_X7_lay_163 {G : en_G} {q : Option en_V → en_S → Prop}  {l0 l1 l2 l3 l4 l6 l7 l8 l9 : en_V} {a0 : Option Nat} {x5 : Int32} {σ : en_S} : en_J (X_X7_lay G q) 163 [l0, l1, l2, l3, l4, en_I x5, l6, l7, l8, l9] [en_R a0] σ ↔ en_J (X_X7_lay G q) 165 [l0, l1, l2, l3, l4, en_I x5, l6, l7, l8, l9] [en_I x5, en_R a0] σ := en_j1 d_X7_lay_163 rfl rfl
theorem d_X7_lay_165 : decode cX7_lay 165 = .ok (.invokevirtual 160, 3) := by decide +kernel
theorem j_X7_lay_165 {G : en_G} {q : Option en_V → en_S → Prop}  {l0 l1 l2 l3 l4 l5 l6 l7 l8 l9 : en_V} {a0 : Int32} {a1 : Option Nat} {σ : en_S} : en_J (X_X7_lay G q) 165 [l0, l1, l2, l3, l4, l5, l6, l7, l8, l9] [en_I a0, en_R a1] σ ↔ (C_X7_up G).1 [en_R a1, en_I a0] σ ∧ ∀ (r : Option en_V) (σ' : en_S), (C_X7_up G).2 [en_R a1, en_I a0] σ r σ' → en_J (X_X7_lay G q) 168 [l0, l1, l2, l3, l4, l5, l6, l7, l8, l9] (r.toList ++ []) σ' := en_jkC (C := (C_X7_up G)) (n' := 2) (k := 1) (idx := 160) d_X7_lay_165 rfl rfl (by decide) (Nat.le_of_ble_eq_true rfl) (Nat.le_of_ble_eq_true rfl)
theorem d_X7_lay_168 : decode cX7_lay 168 = .ok (.istore 5, 2) := by decide +kernel
theorem j_X7_lay_168 {G : en_G} {q : Option en_V → en_S → Prop}  {l0 l1 l2 l3 l4 l5 l6 l7 l8 l9 : en_V} {a0 : Int32} {σ : en_S} : en_J (X_X7_lay G q) 168 [l0, l1, l2, l3, l4, l5, l6, l7, l8, l9] [en_I a0] σ ↔ en_J (X_X7_lay G q) 170 [l0, l1, l2, l3, en_c2 l4, en_I a0, l6, l7, l8, l9] [] σ := en_j1 d_X7_lay_168 rfl ⟨rfl, Nat.le_of_ble_eq_true rfl⟩
theorem d_X7_lay_170 : decode cX7_lay 170 = .ok (.goto (-155), 3) := by decide +kernel
theorem j_X7_lay_170 {G : en_G} {q : Option en_V → en_S → Prop}  {l0 l1 l2 l3 l4 l5 l6 l7 l8 l9 : en_V}  {σ : en_S} : en_J (X_X7_lay G q) 170 [l0, l1, l2, l3, l4, l5, l6, l7, l8, l9] [] σ ↔ en_J (X_X7_lay G q) 15 [l0, l1, l2, l3, l4, l5, l6, l7, l8, l9] [] σ := en_j1 d_X7_lay_170 rfl ⟨rfl, by decide⟩
theorem d_X7_lay_173 : decode cX7_lay 173 = .ok (.aload_n 0, 1) := by decide +kernel
theorem j_X7_lay_173 {G : en_G} {q : Option en_V → en_S → Prop}  {l1 l2 l3 l4 l5 l6 l7 l8 l9 : en_V} {x0 : Option Nat} {σ : en_S} : en_J (X_X7_lay G q) 173 [en_R x0, l1, l2, l3, l4, l5, l6, l7, l8, l9] [] σ ↔ en_J (X_X7_lay G q) 174 [en_R x0, l1, l2, l3, l4, l5, l6, l7, l8, l9] [en_R x0] σ := en_j1 d_X7_lay_173 rfl rfl
theorem d_X7_lay_174 : decode cX7_lay 174 = .ok (.getfield 106, 3) := by decide +kernel
theorem j_X7_lay_174 {G : en_G} {q : Option en_V → en_S → Prop}  {l0 l1 l2 l3 l4 l5 l6 l7 l8 l9 : en_V} {a0 : Option Nat} {σ : en_S} : en_J (X_X7_lay G q) 174 [l0, l1, l2, l3, l4, l5, l6, l7, l8, l9] [en_R a0] σ ↔ ∃ a, a0 = some a ∧ en_cl σ a = some 7 ∧ en_J (X_X7_lay G q) 177 [l0, l1, l2, l3, l4, l5, l6, l7, l8, l9] [en_R (en_fr σ 739 a)] σ := en_jg (st := fun o => [en_R o]) (st' := fun a => [en_R (en_fr σ 739 a)]) (σ' := fun _ => σ) d_X7_lay_174 rfl (fun a => rfl) (fun a => ⟨fun h => h.2, fun h => ⟨rfl, h⟩⟩)
theorem d_X7_lay_177 : decode cX7_lay 177 = .ok (.iload_n 1, 1) := by decide +kernel
theorem j_X7_lay_177 {G : en_G} {q : Option en_V → en_S → Prop}  {l0 l2 l3 l4 l5 l6 l7 l8 l9 : en_V} {a0 : Option Nat} {x1 : Int32} {σ : en_S} : en_J (X_X7_lay G q) 177 [l0, en_I x1, l2, l3, l4, l5, l6, l7, l8, l9] [en_R a0] σ ↔ en_J (X_X7_lay G q) 178 [l0, en_I x1, l2, l3, l4, l5, l6, l7, l8, l9] [en_I x1, en_R a0] σ := en_j1 d_X7_lay_177 rfl rfl
theorem d_X7_lay_178 : decode cX7_lay 178 = .ok (.iload 4, 2) := by decide +kernel
theorem j_X7_lay_178 {G : en_G} {q : Option en_V → en_S → Prop}  {l0 l1 l2 l3 l5 l6 l7 l8 l9 : en_V} {a0 : Int32} {a1 : Option Nat} {x4 : Int32} {σ : en_S} : en_J (X_X7_lay G q) 178 [l0, l1, l2, l3, en_I x4, l5, l6, l7, l8, l9] [en_I a0, en_R a1] σ ↔ en_J (X_X7_lay G q) 180 [l0, l1, l2, l3, en_I x4, l5, l6, l7, l8, l9] [en_I x4, en_I a0, en_R a1] σ := en_j1 d_X7_lay_178 rfl rfl
theorem d_X7_lay_180 : decode cX7_lay 180 = .ok (.iastore, 1) := by decide +kernel
theorem j_X7_lay_180 {G : en_G} {q : Option en_V → en_S → Prop}  {l0 l1 l2 l3 l4 l5 l6 l7 l8 l9 : en_V} {a0 : Int32} {a1 : Int32} {a2 : Option Nat} {σ : en_S} : en_J (X_X7_lay G q) 180 [l0, l1, l2, l3, l4, l5, l6, l7, l8, l9] [en_I a0, en_I a1, en_R a2] σ ↔ ∃ a, a2 = some a ∧ (∃ k, en_al σ a = some (0, k) ∧ vp_in a1 k) ∧ en_J (X_X7_lay G q) 181 [l0, l1, l2, l3, l4, l5, l6, l7, l8, l9] [] (en_sai σ a a1.toNatClampNeg a0) := ej_iastore d_X7_lay_180
theorem d_X7_lay_181 : decode cX7_lay 181 = .ok (.return_, 1) := by decide +kernel
theorem j_X7_lay_181 {G : en_G} {q : Option en_V → en_S → Prop}  {l0 l1 l2 l3 l4 l5 l6 l7 l8 l9 : en_V}  {σ : en_S} : en_J (X_X7_lay G q) 181 [l0, l1, l2, l3, l4, l5, l6, l7, l8, l9] [] σ ↔ q none σ := en_jr d_X7_lay_181 rfl ⟨fun h => h.2.2, fun h => ⟨rfl, rfl, h⟩⟩
theorem wc_X7_lay : Jvm.Cond.code yX7_lay cX7_lay 10 none ∈ en_W := en_inW (List.mem_of_getElem? (i := 950) (by decide +kernel)) (by decide +kernel)
theorem wi_X7_lay : Jvm.Cond.instanceMethod yX7_lay ∈ en_W := en_inW (List.mem_of_getElem? (i := 949) (by decide +kernel)) (by decide +kernel)
theorem wx_X7_lay : Jvm.Cond.selects RX7 yX7_lay yX7_lay ∈ en_W := en_inW (List.mem_of_getElem? (i := 25) (by decide +kernel)) (by decide +kernel)
theorem jw_X7_lay {G : en_G} {q : Option en_V → en_S → Prop} {m d t fl : Nat} {A : st_A} (hd : d < 4) (ht : t < tr_N (sa_T A)) (hfl : fl < 8) : ∀ (k : Nat) (cur : Option Nat) (tg : Nat) (acc : List (Nat × Nat)) (σ : en_S), RX m A σ → en_ai σ (m + 31) d = nI fl → (∀ x, cur = some x → x < tr_N (sa_T A) ∧ 25 ≤ k + tr_Rk (sa_T A) x) → tg < tr_N (sa_T A) → acc ++ ds_lay (sa_T A) (ds_last (sa_T A) t fl) k cur tg = ds_path (sa_T A) t fl → acc.length + k = 24 → ((acc = [] ∧ cur = some tg) ∨ (acc ≠ [] ∧ ∀ x, cur = some x → tr_Rk (sa_T A) tg < tr_Rk (sa_T A) x)) → pr_row m d acc σ → (∀ σ', ag σ σ' TT (lyW m) → sz σ σ' → RX m A σ' → pr_row m d (ds_path (sa_T A) t fl) σ' → (∀ i, i < 24 * d → en_ai σ' (m + 27) i = en_ai σ (m + 27) i ∧ en_ai σ' (m + 28) i = en_ai σ (m + 28) i) → (ds_path (sa_T A) t fl).length ≤ 24 → ∀ l6 l7 l8 l9, en_J (X_X7_lay G q) 173 [en_R (some m), en_I (nI d), en_I (nI t), en_I (nI (tr_root (sa_T A) t)), en_I (nI (ds_path (sa_T A) t fl).length), en_I (-1), l6, l7, l8, l9] [] σ') → ∀ l7 l8 l9, en_J (X_X7_lay G q) 15 [en_R (some m), en_I (nI d), en_I (nI t), en_I (nI (tr_root (sa_T A) t)), en_I (nI acc.length), en_I (st_num cur), en_I (nI tg), l7, l8, l9] [] σ := by
  have hend : ∀ (k tg : Nat) (acc : List (Nat × Nat)) (σ : en_S), RX m A σ → acc ++ ds_lay (sa_T A) (ds_last (sa_T A) t fl) k none tg = ds_path (sa_T A) t fl → acc.length + k = 24 → pr_row m d acc σ → (∀ σ', ag σ σ' TT (lyW m) → sz σ σ' → RX m A σ' → pr_row m d (ds_path (sa_T A) t fl) σ' → (∀ i, i < 24 * d → en_ai σ' (m + 27) i = en_ai σ (m + 27) i ∧ en_ai σ' (m + 28) i = en_ai σ (m + 28) i) → (ds_path (sa_T A) t fl).length ≤ 24 → ∀ l6 l7 l8 l9, en_J (X_X7_lay G q) 173 [en_R (some m), en_I (nI d), en_I (nI t), en_I (nI (tr_root (sa_T A) t)), en_I (nI (ds_path (sa_T A) t fl).length), en_I (-1), l6, l7, l8, l9] [] σ') → ∀ l7 l8 l9, en_J (X_X7_lay G q) 15 [en_R (some m), en_I (nI d), en_I (nI t), en_I (nI (tr_root (sa_T A) t)), en_I (nI acc.length), en_I (st_num none), en_I (nI tg), l7, l8, l9] [] σ := by
    intro k tg acc σ hR hL hk hrow hq l7 l8 l9
    have e : ds_lay (sa_T A) (ds_last (sa_T A) t fl) k none tg = [] := by cases k <;> rfl
    rw [e, List.append_nil] at hL
    rw [hL] at hrow hk ⊢
    have z1 : (-1 : Int32) < 0 := by decide
    have := hq σ ag.rf sz.rf hR hrow (fun i _ => ⟨rfl, rfl⟩) (by omega) (en_I (nI tg)) l7 l8 l9
    rw [j_X7_lay_15]
    simp only [j_X7_lay_17, st_num_none, z1, true_implies, not_true_eq_false, false_implies, and_true]
    exact this
  intro k
  induction k with
  | zero =>
    intro cur tg acc σ hR h31 hc htg hL hk hinv hrow hq l7 l8 l9
    cases cur with
    | none => exact hend 0 tg acc σ hR hL hk hrow hq l7 l8 l9
    | some x =>
      obtain ⟨h1, h2⟩ := hc x rfl
      have := tr_Rk_le hR.2.2.2.2.2.2.2.2.2.1 h1
      omega
  | succ k ih =>
    intro cur tg acc σ hR h31 hc htg hL hk hinv hrow hq l7 l8 l9
    cases cur with
    | none => exact hend (k + 1) tg acc σ hR hL hk hrow hq l7 l8 l9
    | some x =>
      obtain ⟨hx, hxk⟩ := hc x rfl
      have hS := hR.1
      have w := hR.2.2.2.2.2.2.2.2.2
      have hw := w.1
      have hN := hw.1.2
      have hpart : od_it (tr_pa (sa_T A)) 24 t = none := (od_okP hw).2.2.2 t ht
      have hrlt : tr_root (sa_T A) t < tr_N (sa_T A) := od_root_lt hw 24 t ht
      have n3 : vp_in (nI d) 4 := vp_in_nI (by omega) (by decide)
      have n4 : (nI d).toNatClampNeg = d := nI_clamp (by omega)
      have x3 : vp_in (nI x) 24 := vp_in_nI (by omega) (by decide)
      have x4 : (nI x).toNatClampNeg = x := nI_clamp (by omega)
      have zx : ¬ nI x < 0 := nI_pos (by omega)
      have e1 := i24 d acc.length
      have a3 : vp_in (nI (24 * d + acc.length)) 96 := vp_in_nI (by omega) (by decide)
      have a4 : (nI (24 * d + acc.length)).toNatClampNeg = 24 * d + acc.length := nI_clamp (by omega)
      have e5 : nI acc.length + 1 = nI (acc.length + 1) := nI_1 _
      have i1 : ¬ (1 : Int32) = 0 := by decide
      have z0 : (-1 : Int32) < 0 := by decide
      simp only [ds_lay] at hL
      generalize hge : (if tr_over (sa_T A) (tr_root (sa_T A) tg) x then tg else x) = e2 at hL
      have he2 : e2 < tr_N (sa_T A) := by rw [← hge]; split <;> assumption
      have hRe : tr_Rk (sa_T A) e2 ≤ tr_Rk (sa_T A) x := by
        rw [← hge]
        split
        · rcases hinv with ⟨-, z⟩ | ⟨-, z⟩
          · cases z; exact Nat.le_refl _
          · exact Nat.le_of_lt (z x rfl)
        · exact Nat.le_refl _
      have main : ∀ (wi : Bool), (wi = true → x ≠ e2 ∧ e2 = tg) → (wi = false → e2 = x) → en_J (X_X7_lay G q) 47 [en_R (some m), en_I (nI d), en_I (nI t), en_I (nI (tr_root (sa_T A) t)), en_I (nI acc.length), en_I (nI x), en_I (nI tg), en_I (st_b wi), l8, l9] [] σ := by
        intro wi hw1 hw0
        -- both arrays written
        have rest : en_J (X_X7_lay G q) 101 [en_R (some m), en_I (nI d), en_I (nI t), en_I (nI (tr_root (sa_T A) t)), en_I (nI (acc.length + 1)), en_I (nI x), en_I (nI e2), en_I (st_b wi), l8, l9] [] (en_sai (en_sai σ (m + 27) (24 * d + acc.length) (nI x)) (m + 28) (24 * d + acc.length) (if x = e2 then nI x else -1)) := by
          generalize hσ2 : en_sai (en_sai σ (m + 27) (24 * d + acc.length) (nI x)) (m + 28) (24 * d + acc.length) (if x = e2 then nI x else -1) = σ2
          have g2 : ag σ σ2 TT (lyW m) := by rw [← hσ2]; exact (ag_sai (fun z => z.1 rfl)).tr (ag_sai (fun z => z.2 rfl))
          have s2 : sz σ σ2 := by rw [← hσ2]; exact ⟨rfl, rfl, rfl, rfl⟩
          have hR2 := rx_layw hR g2 s2
          have hS2 := hR2.1
          have k1 := (hR2.2.1 x hx).1
          have h31' : en_ai σ2 (m + 31) d = nI fl := by rw [← hσ2, eg_ai_sai, if_neg (by omega), eg_ai_sai, if_neg (by omega)]; exact h31
          have hrow2 : pr_row m d (acc ++ [(x, e2)]) σ2 := by
            intro i e hi
            have hil := (List.getElem?_eq_some_iff.mp hi).1
            rw [List.length_append] at hil
            have hil : i < acc.length + 1 := hil
            rw [← hσ2]
            by_cases ei : i = acc.length
            · rw [ei, List.getElem?_append_right (Nat.le_refl _), Nat.sub_self] at hi
              have hi : (x, e2) = e := Option.some.inj hi
              subst hi
              rw [ei, eg_ai_sai, if_neg (by omega), eg_ai_sai, if_pos ⟨rfl, rfl⟩, eg_ai_sai, if_pos ⟨rfl, rfl⟩]
              exact ⟨rfl, rfl⟩
            · rw [List.getElem?_append_left (by omega)] at hi
              rw [eg_ai_sai, if_neg (by omega), eg_ai_sai, if_neg (by omega), eg_ai_sai, if_neg (by omega), eg_ai_sai, if_neg (by omega)]
              exact hrow i e hi
          have hfr2 : ∀ i, i < 24 * d → en_ai σ2 (m + 27) i = en_ai σ (m + 27) i ∧ en_ai σ2 (m + 28) i = en_ai σ (m + 28) i := by
            intro i hi
            rw [← hσ2, eg_ai_sai, if_neg (by omega), eg_ai_sai, if_neg (by omega), eg_ai_sai, if_neg (by omega), eg_ai_sai, if_neg (by omega)]
            exact ⟨rfl, rfl⟩
          -- the next one
          have step : ∀ (o : Option Nat) (l7 l8 l9 : en_V), o = (if ds_last (sa_T A) t fl = some x then none else ds_nxt (sa_T A) x) → en_J (X_X7_lay G q) 15 [en_R (some m), en_I (nI d), en_I (nI t), en_I (nI (tr_root (sa_T A) t)), en_I (nI (acc.length + 1)), en_I (st_num o), en_I (nI e2), l7, l8, l9] [] σ2 := by
            intro o l7 l8 l9 ho
            have hoy : ∀ y, o = some y → y < tr_N (sa_T A) ∧ tr_Rk (sa_T A) x < tr_Rk (sa_T A) y := by
              intro y hy
              rw [ho] at hy
              split at hy
              · cases hy
              · exact od_nxt hw hx hy
            have hal : (acc ++ [(x, e2)]).length = acc.length + 1 := by rw [List.length_append]; rfl
            have := ih o e2 (acc ++ [(x, e2)]) σ2 hR2 h31' (fun y hy => ⟨(hoy y hy).1, by have := (hoy y hy).2; omega⟩) he2 (by rw [ho, ← hL]; simp) (by omega) (Or.inr ⟨by simp, fun y hy => by have := (hoy y hy).2; omega⟩) hrow2 (fun σ' g s hR' hr hf hl => hq σ' (g2.tr g) (s2.tr s) hR' hr (fun i hi => ⟨(hf i hi).1.trans (hfr2 i hi).1, (hf i hi).2.trans (hfr2 i hi).2⟩) hl) l7 l8 l9
            rw [hal] at this
            exact this
          simp only [j_X7_lay_0, j_X7_lay_1, j_X7_lay_2, j_X7_lay_5, j_X7_lay_6, j_X7_lay_7, j_X7_lay_9, j_X7_lay_10, j_X7_lay_12, j_X7_lay_13, j_X7_lay_17, j_X7_lay_20, j_X7_lay_22, j_X7_lay_25, j_X7_lay_26, j_X7_lay_27, j_X7_lay_29, j_X7_lay_32, j_X7_lay_34, j_X7_lay_37, j_X7_lay_40, j_X7_lay_41, j_X7_lay_44, j_X7_lay_45, j_X7_lay_47, j_X7_lay_48, j_X7_lay_51, j_X7_lay_53, j_X7_lay_54, j_X7_lay_55, j_X7_lay_57, j_X7_lay_58, j_X7_lay_60, j_X7_lay_61, j_X7_lay_62, j_X7_lay_65, j_X7_lay_67, j_X7_lay_68, j_X7_lay_69, j_X7_lay_71, j_X7_lay_72, j_X7_lay_74, j_X7_lay_77, j_X7_lay_78, j_X7_lay_81, j_X7_lay_83, j_X7_lay_84, j_X7_lay_86, j_X7_lay_89, j_X7_lay_91, j_X7_lay_94, j_X7_lay_96, j_X7_lay_98, j_X7_lay_101, j_X7_lay_102, j_X7_lay_104, j_X7_lay_107, j_X7_lay_109, j_X7_lay_110, j_X7_lay_113, j_X7_lay_115, j_X7_lay_116, j_X7_lay_117, j_X7_lay_120, j_X7_lay_121, j_X7_lay_124, j_X7_lay_125, j_X7_lay_126, j_X7_lay_127, j_X7_lay_130, j_X7_lay_132, j_X7_lay_133, j_X7_lay_136, j_X7_lay_137, j_X7_lay_140, j_X7_lay_141, j_X7_lay_143, j_X7_lay_145, j_X7_lay_148, j_X7_lay_150, j_X7_lay_153, j_X7_lay_155, j_X7_lay_158, j_X7_lay_159, j_X7_lay_162, j_X7_lay_163, j_X7_lay_165, j_X7_lay_168, j_X7_lay_170, j_X7_lay_174, j_X7_lay_177, j_X7_lay_178, j_X7_lay_180, j_X7_lay_181, en_c2I, en_c2R, en_c2U, en_c2D, Option.some.injEq, exists_eq_left', exists_eq_left, Option.map_some, Option.map_none, not_true_eq_false, false_implies, true_implies, and_true, true_and, reduceCtorEq, not_false_eq_true, true_or, or_true]
          refine en_use (cu_X7_assigned ⟨hR2, hx⟩) ?_
          rintro v σ3 ⟨rfl, rfl⟩
          -- from 143
          have at143 : ∀ (sh : Bool), sh = decide (tr_kd (sa_T A) x = 4 ∧ fl < 4 ∧ x = tr_root (sa_T A) t) → en_J (X_X7_lay G q) 143 [en_R (some m), en_I (nI d), en_I (nI t), en_I (nI (tr_root (sa_T A) t)), en_I (nI (acc.length + 1)), en_I (nI x), en_I (nI e2), en_I (st_b wi), en_I (st_num (tr_as (sa_T A) x)), en_I (st_b sh)] [] σ3 := by
            intro sh hsh
            cases has : tr_as (sa_T A) x with
            | some y =>
              obtain ⟨p, t', h1, h2, h3, h4, h5⟩ := od_as hw hx has
              have zy : ¬ nI y < 0 := nI_pos (by omega)
              have := step (some y) (en_I (st_b wi)) (en_I (nI y)) (en_I (st_b sh)) (by
                rw [if_neg, ds_nxt, has]
                unfold ds_last
                split
                · intro z; cases z
                · intro z
                  have hz := Option.some.inj z
                  have := od_root_pa 24 t hpart
                  rw [show tr_rootF (sa_T A) 24 t = x from hz, h1] at this
                  cases this)
              simp only [j_X7_lay_0, j_X7_lay_1, j_X7_lay_2, j_X7_lay_5, j_X7_lay_6, j_X7_lay_7, j_X7_lay_9, j_X7_lay_10, j_X7_lay_12, j_X7_lay_13, j_X7_lay_17, j_X7_lay_20, j_X7_lay_22, j_X7_lay_25, j_X7_lay_26, j_X7_lay_27, j_X7_lay_29, j_X7_lay_32, j_X7_lay_34, j_X7_lay_37, j_X7_lay_40, j_X7_lay_41, j_X7_lay_44, j_X7_lay_45, j_X7_lay_47, j_X7_lay_48, j_X7_lay_51, j_X7_lay_53, j_X7_lay_54, j_X7_lay_55, j_X7_lay_57, j_X7_lay_58, j_X7_lay_60, j_X7_lay_61, j_X7_lay_62, j_X7_lay_65, j_X7_lay_67, j_X7_lay_68, j_X7_lay_69, j_X7_lay_71, j_X7_lay_72, j_X7_lay_74, j_X7_lay_77, j_X7_lay_78, j_X7_lay_81, j_X7_lay_83, j_X7_lay_84, j_X7_lay_86, j_X7_lay_89, j_X7_lay_91, j_X7_lay_94, j_X7_lay_96, j_X7_lay_98, j_X7_lay_101, j_X7_lay_102, j_X7_lay_104, j_X7_lay_107, j_X7_lay_109, j_X7_lay_110, j_X7_lay_113, j_X7_lay_115, j_X7_lay_116, j_X7_lay_117, j_X7_lay_120, j_X7_lay_121, j_X7_lay_124, j_X7_lay_125, j_X7_lay_126, j_X7_lay_127, j_X7_lay_130, j_X7_lay_132, j_X7_lay_133, j_X7_lay_136, j_X7_lay_137, j_X7_lay_140, j_X7_lay_141, j_X7_lay_143, j_X7_lay_145, j_X7_lay_148, j_X7_lay_150, j_X7_lay_153, j_X7_lay_155, j_X7_lay_158, j_X7_lay_159, j_X7_lay_162, j_X7_lay_163, j_X7_lay_165, j_X7_lay_168, j_X7_lay_170, j_X7_lay_174, j_X7_lay_177, j_X7_lay_178, j_X7_lay_180, j_X7_lay_181, en_c2I, en_c2R, en_c2U, en_c2D, Option.some.injEq, exists_eq_left', exists_eq_left, Option.map_some, Option.map_none, not_true_eq_false, false_implies, true_implies, and_true, true_and, reduceCtorEq, not_false_eq_true, true_or, or_true, st_num_some, zy]
              exact this
            | none =>
              by_cases hshut : tr_kd (sa_T A) x = 4 ∧ fl < 4 ∧ x = tr_root (sa_T A) t
              · rw [decide_eq_true hshut] at hsh
                subst hsh
                have := step none (en_I (st_b wi)) (en_I (-1)) (en_I 1) (by
                  rw [if_pos]
                  unfold ds_last
                  rw [if_neg (by omega), hshut.2.2])
                simp only [j_X7_lay_0, j_X7_lay_1, j_X7_lay_2, j_X7_lay_5, j_X7_lay_6, j_X7_lay_7, j_X7_lay_9, j_X7_lay_10, j_X7_lay_12, j_X7_lay_13, j_X7_lay_17, j_X7_lay_20, j_X7_lay_22, j_X7_lay_25, j_X7_lay_26, j_X7_lay_27, j_X7_lay_29, j_X7_lay_32, j_X7_lay_34, j_X7_lay_37, j_X7_lay_40, j_X7_lay_41, j_X7_lay_44, j_X7_lay_45, j_X7_lay_47, j_X7_lay_48, j_X7_lay_51, j_X7_lay_53, j_X7_lay_54, j_X7_lay_55, j_X7_lay_57, j_X7_lay_58, j_X7_lay_60, j_X7_lay_61, j_X7_lay_62, j_X7_lay_65, j_X7_lay_67, j_X7_lay_68, j_X7_lay_69, j_X7_lay_71, j_X7_lay_72, j_X7_lay_74, j_X7_lay_77, j_X7_lay_78, j_X7_lay_81, j_X7_lay_83, j_X7_lay_84, j_X7_lay_86, j_X7_lay_89, j_X7_lay_91, j_X7_lay_94, j_X7_lay_96, j_X7_lay_98, j_X7_lay_101, j_X7_lay_102, j_X7_lay_104, j_X7_lay_107, j_X7_lay_109, j_X7_lay_110, j_X7_lay_113, j_X7_lay_115, j_X7_lay_116, j_X7_lay_117, j_X7_lay_120, j_X7_lay_121, j_X7_lay_124, j_X7_lay_125, j_X7_lay_126, j_X7_lay_127, j_X7_lay_130, j_X7_lay_132, j_X7_lay_133, j_X7_lay_136, j_X7_lay_137, j_X7_lay_140, j_X7_lay_141, j_X7_lay_143, j_X7_lay_145, j_X7_lay_148, j_X7_lay_150, j_X7_lay_153, j_X7_lay_155, j_X7_lay_158, j_X7_lay_159, j_X7_lay_162, j_X7_lay_163, j_X7_lay_165, j_X7_lay_168, j_X7_lay_170, j_X7_lay_174, j_X7_lay_177, j_X7_lay_178, j_X7_lay_180, j_X7_lay_181, en_c2I, en_c2R, en_c2U, en_c2D, Option.some.injEq, exists_eq_left', exists_eq_left, Option.map_some, Option.map_none, not_true_eq_false, false_implies, true_implies, and_true, true_and, reduceCtorEq, not_false_eq_true, true_or, or_true, st_num_none, z0, st_bt, i1]
                exact this
              · rw [decide_eq_false hshut] at hsh
                subst hsh
                have := step (tr_up (sa_T A) x) (en_I (st_b wi)) (en_I (-1)) (en_I 0) (by
                  have hnx : ds_nxt (sa_T A) x = tr_up (sa_T A) x := by unfold ds_nxt; rw [has]
                  rw [hnx]
                  split
                  · rename_i hlast
                    unfold ds_last at hlast
                    split at hlast
                    · cases hlast
                    · have hz : tr_root (sa_T A) t = x := Option.some.inj hlast
                      have hpx := od_root_pa 24 t hpart
                      rw [show tr_rootF (sa_T A) 24 t = x from hz] at hpx
                      have h4 : ¬ tr_kd (sa_T A) x = 4 := fun z => hshut ⟨z, by omega, hz.symm⟩
                      unfold tr_up
                      rw [if_pos hpx]
                      cases hh : tr_ho (sa_T A) x with
                      | none => rfl
                      | some h => exact absurd (hw.2.2.2.2.1 x h hx hh).2.2 h4
                  · rfl)
                simp only [j_X7_lay_0, j_X7_lay_1, j_X7_lay_2, j_X7_lay_5, j_X7_lay_6, j_X7_lay_7, j_X7_lay_9, j_X7_lay_10, j_X7_lay_12, j_X7_lay_13, j_X7_lay_17, j_X7_lay_20, j_X7_lay_22, j_X7_lay_25, j_X7_lay_26, j_X7_lay_27, j_X7_lay_29, j_X7_lay_32, j_X7_lay_34, j_X7_lay_37, j_X7_lay_40, j_X7_lay_41, j_X7_lay_44, j_X7_lay_45, j_X7_lay_47, j_X7_lay_48, j_X7_lay_51, j_X7_lay_53, j_X7_lay_54, j_X7_lay_55, j_X7_lay_57, j_X7_lay_58, j_X7_lay_60, j_X7_lay_61, j_X7_lay_62, j_X7_lay_65, j_X7_lay_67, j_X7_lay_68, j_X7_lay_69, j_X7_lay_71, j_X7_lay_72, j_X7_lay_74, j_X7_lay_77, j_X7_lay_78, j_X7_lay_81, j_X7_lay_83, j_X7_lay_84, j_X7_lay_86, j_X7_lay_89, j_X7_lay_91, j_X7_lay_94, j_X7_lay_96, j_X7_lay_98, j_X7_lay_101, j_X7_lay_102, j_X7_lay_104, j_X7_lay_107, j_X7_lay_109, j_X7_lay_110, j_X7_lay_113, j_X7_lay_115, j_X7_lay_116, j_X7_lay_117, j_X7_lay_120, j_X7_lay_121, j_X7_lay_124, j_X7_lay_125, j_X7_lay_126, j_X7_lay_127, j_X7_lay_130, j_X7_lay_132, j_X7_lay_133, j_X7_lay_136, j_X7_lay_137, j_X7_lay_140, j_X7_lay_141, j_X7_lay_143, j_X7_lay_145, j_X7_lay_148, j_X7_lay_150, j_X7_lay_153, j_X7_lay_155, j_X7_lay_158, j_X7_lay_159, j_X7_lay_162, j_X7_lay_163, j_X7_lay_165, j_X7_lay_168, j_X7_lay_170, j_X7_lay_174, j_X7_lay_177, j_X7_lay_178, j_X7_lay_180, j_X7_lay_181, en_c2I, en_c2R, en_c2U, en_c2D, Option.some.injEq, exists_eq_left', exists_eq_left, Option.map_some, Option.map_none, not_true_eq_false, false_implies, true_implies, and_true, true_and, reduceCtorEq, not_false_eq_true, true_or, or_true, st_num_none, z0, st_bf]
                refine en_use (cu_X7_up ⟨hR2, hx⟩) ?_
                rintro v σ4 ⟨rfl, rfl⟩
                simp only [Option.toList, List.cons_append, List.nil_append, j_X7_lay_0, j_X7_lay_1, j_X7_lay_2, j_X7_lay_5, j_X7_lay_6, j_X7_lay_7, j_X7_lay_9, j_X7_lay_10, j_X7_lay_12, j_X7_lay_13, j_X7_lay_17, j_X7_lay_20, j_X7_lay_22, j_X7_lay_25, j_X7_lay_26, j_X7_lay_27, j_X7_lay_29, j_X7_lay_32, j_X7_lay_34, j_X7_lay_37, j_X7_lay_40, j_X7_lay_41, j_X7_lay_44, j_X7_lay_45, j_X7_lay_47, j_X7_lay_48, j_X7_lay_51, j_X7_lay_53, j_X7_lay_54, j_X7_lay_55, j_X7_lay_57, j_X7_lay_58, j_X7_lay_60, j_X7_lay_61, j_X7_lay_62, j_X7_lay_65, j_X7_lay_67, j_X7_lay_68, j_X7_lay_69, j_X7_lay_71, j_X7_lay_72, j_X7_lay_74, j_X7_lay_77, j_X7_lay_78, j_X7_lay_81, j_X7_lay_83, j_X7_lay_84, j_X7_lay_86, j_X7_lay_89, j_X7_lay_91, j_X7_lay_94, j_X7_lay_96, j_X7_lay_98, j_X7_lay_101, j_X7_lay_102, j_X7_lay_104, j_X7_lay_107, j_X7_lay_109, j_X7_lay_110, j_X7_lay_113, j_X7_lay_115, j_X7_lay_116, j_X7_lay_117, j_X7_lay_120, j_X7_lay_121, j_X7_lay_124, j_X7_lay_125, j_X7_lay_126, j_X7_lay_127, j_X7_lay_130, j_X7_lay_132, j_X7_lay_133, j_X7_lay_136, j_X7_lay_137, j_X7_lay_140, j_X7_lay_141, j_X7_lay_143, j_X7_lay_145, j_X7_lay_148, j_X7_lay_150, j_X7_lay_153, j_X7_lay_155, j_X7_lay_158, j_X7_lay_159, j_X7_lay_162, j_X7_lay_163, j_X7_lay_165, j_X7_lay_168, j_X7_lay_170, j_X7_lay_174, j_X7_lay_177, j_X7_lay_178, j_X7_lay_180, j_X7_lay_181, en_c2I, en_c2R, en_c2U, en_c2D, Option.some.injEq, exists_eq_left', exists_eq_left, Option.map_some, Option.map_none, not_true_eq_false, false_implies, true_implies, and_true, true_and, reduceCtorEq, not_false_eq_true, true_or, or_true]
                exact this
          by_cases h4 : tr_kd (sa_T A) x = 4
          · by_cases hf4 : fl < 4
            · have zf : ¬ (4 : Int32) ≤ nI fl := by rw [show (4 : Int32) = nI 4 from by decide +kernel]; exact nI_ge hf4 (by decide)
              by_cases hxt : x = tr_root (sa_T A) t
              · have := at143 true (decide_eq_true ⟨h4, hf4, hxt⟩).symm
                have exq : nI x = nI (tr_root (sa_T A) t) := by rw [← hxt]
                simp only [Option.toList, List.cons_append, List.nil_append, j_X7_lay_0, j_X7_lay_1, j_X7_lay_2, j_X7_lay_5, j_X7_lay_6, j_X7_lay_7, j_X7_lay_9, j_X7_lay_10, j_X7_lay_12, j_X7_lay_13, j_X7_lay_17, j_X7_lay_20, j_X7_lay_22, j_X7_lay_25, j_X7_lay_26, j_X7_lay_27, j_X7_lay_29, j_X7_lay_32, j_X7_lay_34, j_X7_lay_37, j_X7_lay_40, j_X7_lay_41, j_X7_lay_44, j_X7_lay_45, j_X7_lay_47, j_X7_lay_48, j_X7_lay_51, j_X7_lay_53, j_X7_lay_54, j_X7_lay_55, j_X7_lay_57, j_X7_lay_58, j_X7_lay_60, j_X7_lay_61, j_X7_lay_62, j_X7_lay_65, j_X7_lay_67, j_X7_lay_68, j_X7_lay_69, j_X7_lay_71, j_X7_lay_72, j_X7_lay_74, j_X7_lay_77, j_X7_lay_78, j_X7_lay_81, j_X7_lay_83, j_X7_lay_84, j_X7_lay_86, j_X7_lay_89, j_X7_lay_91, j_X7_lay_94, j_X7_lay_96, j_X7_lay_98, j_X7_lay_101, j_X7_lay_102, j_X7_lay_104, j_X7_lay_107, j_X7_lay_109, j_X7_lay_110, j_X7_lay_113, j_X7_lay_115, j_X7_lay_116, j_X7_lay_117, j_X7_lay_120, j_X7_lay_121, j_X7_lay_124, j_X7_lay_125, j_X7_lay_126, j_X7_lay_127, j_X7_lay_130, j_X7_lay_132, j_X7_lay_133, j_X7_lay_136, j_X7_lay_137, j_X7_lay_140, j_X7_lay_141, j_X7_lay_145, j_X7_lay_148, j_X7_lay_150, j_X7_lay_153, j_X7_lay_155, j_X7_lay_158, j_X7_lay_159, j_X7_lay_162, j_X7_lay_163, j_X7_lay_165, j_X7_lay_168, j_X7_lay_170, j_X7_lay_174, j_X7_lay_177, j_X7_lay_178, j_X7_lay_180, j_X7_lay_181, en_c2I, en_c2R, en_c2U, en_c2D, Option.some.injEq, exists_eq_left', exists_eq_left, Option.map_some, Option.map_none, not_true_eq_false, false_implies, true_implies, and_true, true_and, reduceCtorEq, not_false_eq_true, true_or, or_true, eg_cl_sfi, eg_fi_sfi, eg_fr_sfi, eg_fd_sfi, eg_al_sfi, eg_ai_sfi, eg_ar_sfi, eg_ad_sfi, eg_aj_sfi, eg_nx_sfi, eg_ns_sfi, eg_cl_sfr, eg_fi_sfr, eg_fr_sfr, eg_fd_sfr, eg_al_sfr, eg_ai_sfr, eg_ar_sfr, eg_ad_sfr, eg_aj_sfr, eg_nx_sfr, eg_ns_sfr, eg_cl_sfd, eg_fi_sfd, eg_fr_sfd, eg_fd_sfd, eg_al_sfd, eg_ai_sfd, eg_ar_sfd, eg_ad_sfd, eg_aj_sfd, eg_nx_sfd, eg_ns_sfd, eg_cl_sai, eg_fi_sai, eg_fr_sai, eg_fd_sai, eg_al_sai, eg_ai_sai, eg_ar_sai, eg_ad_sai, eg_aj_sai, eg_nx_sai, eg_ns_sai, eg_cl_sar, eg_fi_sar, eg_fr_sar, eg_fd_sar, eg_al_sar, eg_ai_sar, eg_ar_sar, eg_ad_sar, eg_aj_sar, eg_nx_sar, eg_ns_sar, eg_cl_sad, eg_fi_sad, eg_fr_sad, eg_fd_sad, eg_al_sad, eg_ai_sad, eg_ar_sad, eg_ad_sad, eg_aj_sad, eg_nx_sad, eg_ns_sad, eg_cl_saj, eg_fi_saj, eg_fr_saj, eg_fd_saj, eg_al_saj, eg_ai_saj, eg_ar_saj, eg_ad_saj, eg_aj_saj, eg_nx_saj, eg_ns_saj, eg_cl_new, eg_fi_new, eg_fr_new, eg_fd_new, eg_al_new, eg_ai_new, eg_ar_new, eg_ad_new, eg_aj_new, eg_nx_new, eg_ns_new, eg_cl_newa, eg_fi_newa, eg_fr_newa, eg_fd_newa, eg_al_newa, eg_ai_newa, eg_ar_newa, eg_ad_newa, eg_aj_newa, eg_nx_newa, eg_ns_newa, eg_cl_bump, eg_fi_bump, eg_fr_bump, eg_fd_bump, eg_al_bump, eg_ai_bump, eg_ar_bump, eg_ad_bump, eg_aj_bump, eg_nx_bump, eg_ns_bump, rs_c hS2, rs_f737 hS2, rs_a27 hS2, rs_f738 hS2, rs_a28 hS2, rs_f702 hS2, rs_a1 hS2, rs_f741 hS2, rs_a31 hS2, rs_f739 hS2, rs_a29 hS2, Prod.mk.injEq, x3, x4, n3, n4, k1, h4, h31', zf, eq_true exq]
                exact this
              · have := at143 false (decide_eq_false (fun z => hxt z.2.2)).symm
                have exq : ¬ nI x = nI (tr_root (sa_T A) t) := fun z => hxt (nI_inj (by omega) (by omega) z)
                simp only [Option.toList, List.cons_append, List.nil_append, j_X7_lay_0, j_X7_lay_1, j_X7_lay_2, j_X7_lay_5, j_X7_lay_6, j_X7_lay_7, j_X7_lay_9, j_X7_lay_10, j_X7_lay_12, j_X7_lay_13, j_X7_lay_17, j_X7_lay_20, j_X7_lay_22, j_X7_lay_25, j_X7_lay_26, j_X7_lay_27, j_X7_lay_29, j_X7_lay_32, j_X7_lay_34, j_X7_lay_37, j_X7_lay_40, j_X7_lay_41, j_X7_lay_44, j_X7_lay_45, j_X7_lay_47, j_X7_lay_48, j_X7_lay_51, j_X7_lay_53, j_X7_lay_54, j_X7_lay_55, j_X7_lay_57, j_X7_lay_58, j_X7_lay_60, j_X7_lay_61, j_X7_lay_62, j_X7_lay_65, j_X7_lay_67, j_X7_lay_68, j_X7_lay_69, j_X7_lay_71, j_X7_lay_72, j_X7_lay_74, j_X7_lay_77, j_X7_lay_78, j_X7_lay_81, j_X7_lay_83, j_X7_lay_84, j_X7_lay_86, j_X7_lay_89, j_X7_lay_91, j_X7_lay_94, j_X7_lay_96, j_X7_lay_98, j_X7_lay_101, j_X7_lay_102, j_X7_lay_104, j_X7_lay_107, j_X7_lay_109, j_X7_lay_110, j_X7_lay_113, j_X7_lay_115, j_X7_lay_116, j_X7_lay_117, j_X7_lay_120, j_X7_lay_121, j_X7_lay_124, j_X7_lay_125, j_X7_lay_126, j_X7_lay_127, j_X7_lay_130, j_X7_lay_132, j_X7_lay_133, j_X7_lay_136, j_X7_lay_137, j_X7_lay_140, j_X7_lay_141, j_X7_lay_145, j_X7_lay_148, j_X7_lay_150, j_X7_lay_153, j_X7_lay_155, j_X7_lay_158, j_X7_lay_159, j_X7_lay_162, j_X7_lay_163, j_X7_lay_165, j_X7_lay_168, j_X7_lay_170, j_X7_lay_174, j_X7_lay_177, j_X7_lay_178, j_X7_lay_180, j_X7_lay_181, en_c2I, en_c2R, en_c2U, en_c2D, Option.some.injEq, exists_eq_left', exists_eq_left, Option.map_some, Option.map_none, not_true_eq_false, false_implies, true_implies, and_true, true_and, reduceCtorEq, not_false_eq_true, true_or, or_true, eg_cl_sfi, eg_fi_sfi, eg_fr_sfi, eg_fd_sfi, eg_al_sfi, eg_ai_sfi, eg_ar_sfi, eg_ad_sfi, eg_aj_sfi, eg_nx_sfi, eg_ns_sfi, eg_cl_sfr, eg_fi_sfr, eg_fr_sfr, eg_fd_sfr, eg_al_sfr, eg_ai_sfr, eg_ar_sfr, eg_ad_sfr, eg_aj_sfr, eg_nx_sfr, eg_ns_sfr, eg_cl_sfd, eg_fi_sfd, eg_fr_sfd, eg_fd_sfd, eg_al_sfd, eg_ai_sfd, eg_ar_sfd, eg_ad_sfd, eg_aj_sfd, eg_nx_sfd, eg_ns_sfd, eg_cl_sai, eg_fi_sai, eg_fr_sai, eg_fd_sai, eg_al_sai, eg_ai_sai, eg_ar_sai, eg_ad_sai, eg_aj_sai, eg_nx_sai, eg_ns_sai, eg_cl_sar, eg_fi_sar, eg_fr_sar, eg_fd_sar, eg_al_sar, eg_ai_sar, eg_ar_sar, eg_ad_sar, eg_aj_sar, eg_nx_sar, eg_ns_sar, eg_cl_sad, eg_fi_sad, eg_fr_sad, eg_fd_sad, eg_al_sad, eg_ai_sad, eg_ar_sad, eg_ad_sad, eg_aj_sad, eg_nx_sad, eg_ns_sad, eg_cl_saj, eg_fi_saj, eg_fr_saj, eg_fd_saj, eg_al_saj, eg_ai_saj, eg_ar_saj, eg_ad_saj, eg_aj_saj, eg_nx_saj, eg_ns_saj, eg_cl_new, eg_fi_new, eg_fr_new, eg_fd_new, eg_al_new, eg_ai_new, eg_ar_new, eg_ad_new, eg_aj_new, eg_nx_new, eg_ns_new, eg_cl_newa, eg_fi_newa, eg_fr_newa, eg_fd_newa, eg_al_newa, eg_ai_newa, eg_ar_newa, eg_ad_newa, eg_aj_newa, eg_nx_newa, eg_ns_newa, eg_cl_bump, eg_fi_bump, eg_fr_bump, eg_fd_bump, eg_al_bump, eg_ai_bump, eg_ar_bump, eg_ad_bump, eg_aj_bump, eg_nx_bump, eg_ns_bump, rs_c hS2, rs_f737 hS2, rs_a27 hS2, rs_f738 hS2, rs_a28 hS2, rs_f702 hS2, rs_a1 hS2, rs_f741 hS2, rs_a31 hS2, rs_f739 hS2, rs_a29 hS2, Prod.mk.injEq, x3, x4, n3, n4, k1, h4, h31', zf, eq_false exq]
                exact this
            · have := at143 false (decide_eq_false (fun z => hf4 z.2.1)).symm
              have zf : (4 : Int32) ≤ nI fl := by rw [show (4 : Int32) = nI 4 from by decide +kernel]; exact nI_le (by omega) (by omega)
              simp only [Option.toList, List.cons_append, List.nil_append, j_X7_lay_0, j_X7_lay_1, j_X7_lay_2, j_X7_lay_5, j_X7_lay_6, j_X7_lay_7, j_X7_lay_9, j_X7_lay_10, j_X7_lay_12, j_X7_lay_13, j_X7_lay_17, j_X7_lay_20, j_X7_lay_22, j_X7_lay_25, j_X7_lay_26, j_X7_lay_27, j_X7_lay_29, j_X7_lay_32, j_X7_lay_34, j_X7_lay_37, j_X7_lay_40, j_X7_lay_41, j_X7_lay_44, j_X7_lay_45, j_X7_lay_47, j_X7_lay_48, j_X7_lay_51, j_X7_lay_53, j_X7_lay_54, j_X7_lay_55, j_X7_lay_57, j_X7_lay_58, j_X7_lay_60, j_X7_lay_61, j_X7_lay_62, j_X7_lay_65, j_X7_lay_67, j_X7_lay_68, j_X7_lay_69, j_X7_lay_71, j_X7_lay_72, j_X7_lay_74, j_X7_lay_77, j_X7_lay_78, j_X7_lay_81, j_X7_lay_83, j_X7_lay_84, j_X7_lay_86, j_X7_lay_89, j_X7_lay_91, j_X7_lay_94, j_X7_lay_96, j_X7_lay_98, j_X7_lay_101, j_X7_lay_102, j_X7_lay_104, j_X7_lay_107, j_X7_lay_109, j_X7_lay_110, j_X7_lay_113, j_X7_lay_115, j_X7_lay_116, j_X7_lay_117, j_X7_lay_120, j_X7_lay_121, j_X7_lay_124, j_X7_lay_125, j_X7_lay_126, j_X7_lay_127, j_X7_lay_130, j_X7_lay_132, j_X7_lay_133, j_X7_lay_136, j_X7_lay_137, j_X7_lay_140, j_X7_lay_141, j_X7_lay_145, j_X7_lay_148, j_X7_lay_150, j_X7_lay_153, j_X7_lay_155, j_X7_lay_158, j_X7_lay_159, j_X7_lay_162, j_X7_lay_163, j_X7_lay_165, j_X7_lay_168, j_X7_lay_170, j_X7_lay_174, j_X7_lay_177, j_X7_lay_178, j_X7_lay_180, j_X7_lay_181, en_c2I, en_c2R, en_c2U, en_c2D, Option.some.injEq, exists_eq_left', exists_eq_left, Option.map_some, Option.map_none, not_true_eq_false, false_implies, true_implies, and_true, true_and, reduceCtorEq, not_false_eq_true, true_or, or_true, eg_cl_sfi, eg_fi_sfi, eg_fr_sfi, eg_fd_sfi, eg_al_sfi, eg_ai_sfi, eg_ar_sfi, eg_ad_sfi, eg_aj_sfi, eg_nx_sfi, eg_ns_sfi, eg_cl_sfr, eg_fi_sfr, eg_fr_sfr, eg_fd_sfr, eg_al_sfr, eg_ai_sfr, eg_ar_sfr, eg_ad_sfr, eg_aj_sfr, eg_nx_sfr, eg_ns_sfr, eg_cl_sfd, eg_fi_sfd, eg_fr_sfd, eg_fd_sfd, eg_al_sfd, eg_ai_sfd, eg_ar_sfd, eg_ad_sfd, eg_aj_sfd, eg_nx_sfd, eg_ns_sfd, eg_cl_sai, eg_fi_sai, eg_fr_sai, eg_fd_sai, eg_al_sai, eg_ai_sai, eg_ar_sai, eg_ad_sai, eg_aj_sai, eg_nx_sai, eg_ns_sai, eg_cl_sar, eg_fi_sar, eg_fr_sar, eg_fd_sar, eg_al_sar, eg_ai_sar, eg_ar_sar, eg_ad_sar, eg_aj_sar, eg_nx_sar, eg_ns_sar, eg_cl_sad, eg_fi_sad, eg_fr_sad, eg_fd_sad, eg_al_sad, eg_ai_sad, eg_ar_sad, eg_ad_sad, eg_aj_sad, eg_nx_sad, eg_ns_sad, eg_cl_saj, eg_fi_saj, eg_fr_saj, eg_fd_saj, eg_al_saj, eg_ai_saj, eg_ar_saj, eg_ad_saj, eg_aj_saj, eg_nx_saj, eg_ns_saj, eg_cl_new, eg_fi_new, eg_fr_new, eg_fd_new, eg_al_new, eg_ai_new, eg_ar_new, eg_ad_new, eg_aj_new, eg_nx_new, eg_ns_new, eg_cl_newa, eg_fi_newa, eg_fr_newa, eg_fd_newa, eg_al_newa, eg_ai_newa, eg_ar_newa, eg_ad_newa, eg_aj_newa, eg_nx_newa, eg_ns_newa, eg_cl_bump, eg_fi_bump, eg_fr_bump, eg_fd_bump, eg_al_bump, eg_ai_bump, eg_ar_bump, eg_ad_bump, eg_aj_bump, eg_nx_bump, eg_ns_bump, rs_c hS2, rs_f737 hS2, rs_a27 hS2, rs_f738 hS2, rs_a28 hS2, rs_f702 hS2, rs_a1 hS2, rs_f741 hS2, rs_a31 hS2, rs_f739 hS2, rs_a29 hS2, Prod.mk.injEq, x3, x4, n3, n4, k1, h4, h31', zf]
              exact this
          · have := at143 false (decide_eq_false (fun z => h4 z.1)).symm
            simp only [Option.toList, List.cons_append, List.nil_append, j_X7_lay_0, j_X7_lay_1, j_X7_lay_2, j_X7_lay_5, j_X7_lay_6, j_X7_lay_7, j_X7_lay_9, j_X7_lay_10, j_X7_lay_12, j_X7_lay_13, j_X7_lay_17, j_X7_lay_20, j_X7_lay_22, j_X7_lay_25, j_X7_lay_26, j_X7_lay_27, j_X7_lay_29, j_X7_lay_32, j_X7_lay_34, j_X7_lay_37, j_X7_lay_40, j_X7_lay_41, j_X7_lay_44, j_X7_lay_45, j_X7_lay_47, j_X7_lay_48, j_X7_lay_51, j_X7_lay_53, j_X7_lay_54, j_X7_lay_55, j_X7_lay_57, j_X7_lay_58, j_X7_lay_60, j_X7_lay_61, j_X7_lay_62, j_X7_lay_65, j_X7_lay_67, j_X7_lay_68, j_X7_lay_69, j_X7_lay_71, j_X7_lay_72, j_X7_lay_74, j_X7_lay_77, j_X7_lay_78, j_X7_lay_81, j_X7_lay_83, j_X7_lay_84, j_X7_lay_86, j_X7_lay_89, j_X7_lay_91, j_X7_lay_94, j_X7_lay_96, j_X7_lay_98, j_X7_lay_101, j_X7_lay_102, j_X7_lay_104, j_X7_lay_107, j_X7_lay_109, j_X7_lay_110, j_X7_lay_113, j_X7_lay_115, j_X7_lay_116, j_X7_lay_117, j_X7_lay_120, j_X7_lay_121, j_X7_lay_124, j_X7_lay_125, j_X7_lay_126, j_X7_lay_127, j_X7_lay_130, j_X7_lay_132, j_X7_lay_133, j_X7_lay_136, j_X7_lay_137, j_X7_lay_140, j_X7_lay_141, j_X7_lay_145, j_X7_lay_148, j_X7_lay_150, j_X7_lay_153, j_X7_lay_155, j_X7_lay_158, j_X7_lay_159, j_X7_lay_162, j_X7_lay_163, j_X7_lay_165, j_X7_lay_168, j_X7_lay_170, j_X7_lay_174, j_X7_lay_177, j_X7_lay_178, j_X7_lay_180, j_X7_lay_181, en_c2I, en_c2R, en_c2U, en_c2D, Option.some.injEq, exists_eq_left', exists_eq_left, Option.map_some, Option.map_none, not_true_eq_false, false_implies, true_implies, and_true, true_and, reduceCtorEq, not_false_eq_true, true_or, or_true, eg_cl_sfi, eg_fi_sfi, eg_fr_sfi, eg_fd_sfi, eg_al_sfi, eg_ai_sfi, eg_ar_sfi, eg_ad_sfi, eg_aj_sfi, eg_nx_sfi, eg_ns_sfi, eg_cl_sfr, eg_fi_sfr, eg_fr_sfr, eg_fd_sfr, eg_al_sfr, eg_ai_sfr, eg_ar_sfr, eg_ad_sfr, eg_aj_sfr, eg_nx_sfr, eg_ns_sfr, eg_cl_sfd, eg_fi_sfd, eg_fr_sfd, eg_fd_sfd, eg_al_sfd, eg_ai_sfd, eg_ar_sfd, eg_ad_sfd, eg_aj_sfd, eg_nx_sfd, eg_ns_sfd, eg_cl_sai, eg_fi_sai, eg_fr_sai, eg_fd_sai, eg_al_sai, eg_ai_sai, eg_ar_sai, eg_ad_sai, eg_aj_sai, eg_nx_sai, eg_ns_sai, eg_cl_sar, eg_fi_sar, eg_fr_sar, eg_fd_sar, eg_al_sar, eg_ai_sar, eg_ar_sar, eg_ad_sar, eg_aj_sar, eg_nx_sar, eg_ns_sar, eg_cl_sad, eg_fi_sad, eg_fr_sad, eg_fd_sad, eg_al_sad, eg_ai_sad, eg_ar_sad, eg_ad_sad, eg_aj_sad, eg_nx_sad, eg_ns_sad, eg_cl_saj, eg_fi_saj, eg_fr_saj, eg_fd_saj, eg_al_saj, eg_ai_saj, eg_ar_saj, eg_ad_saj, eg_aj_saj, eg_nx_saj, eg_ns_saj, eg_cl_new, eg_fi_new, eg_fr_new, eg_fd_new, eg_al_new, eg_ai_new, eg_ar_new, eg_ad_new, eg_aj_new, eg_nx_new, eg_ns_new, eg_cl_newa, eg_fi_newa, eg_fr_newa, eg_fd_newa, eg_al_newa, eg_ai_newa, eg_ar_newa, eg_ad_newa, eg_aj_newa, eg_nx_newa, eg_ns_newa, eg_cl_bump, eg_fi_bump, eg_fr_bump, eg_fd_bump, eg_al_bump, eg_ai_bump, eg_ar_bump, eg_ad_bump, eg_aj_bump, eg_nx_bump, eg_ns_bump, rs_c hS2, rs_f737 hS2, rs_a27 hS2, rs_f738 hS2, rs_a28 hS2, rs_f702 hS2, rs_a1 hS2, rs_f741 hS2, rs_a31 hS2, rs_f739 hS2, rs_a29 hS2, Prod.mk.injEq, x3, x4, n3, n4, k1, eq_false h4]
            exact this
        cases wi with
        | true =>
          obtain ⟨q1, q2⟩ := hw1 rfl
          rw [if_neg q1] at rest
          subst q2
          simp only [j_X7_lay_0, j_X7_lay_1, j_X7_lay_2, j_X7_lay_5, j_X7_lay_6, j_X7_lay_7, j_X7_lay_9, j_X7_lay_10, j_X7_lay_12, j_X7_lay_13, j_X7_lay_17, j_X7_lay_20, j_X7_lay_22, j_X7_lay_25, j_X7_lay_26, j_X7_lay_27, j_X7_lay_29, j_X7_lay_32, j_X7_lay_34, j_X7_lay_37, j_X7_lay_40, j_X7_lay_41, j_X7_lay_44, j_X7_lay_45, j_X7_lay_47, j_X7_lay_48, j_X7_lay_51, j_X7_lay_53, j_X7_lay_54, j_X7_lay_55, j_X7_lay_57, j_X7_lay_58, j_X7_lay_60, j_X7_lay_61, j_X7_lay_62, j_X7_lay_65, j_X7_lay_67, j_X7_lay_68, j_X7_lay_69, j_X7_lay_71, j_X7_lay_72, j_X7_lay_74, j_X7_lay_77, j_X7_lay_78, j_X7_lay_81, j_X7_lay_83, j_X7_lay_84, j_X7_lay_86, j_X7_lay_89, j_X7_lay_91, j_X7_lay_94, j_X7_lay_96, j_X7_lay_98, j_X7_lay_102, j_X7_lay_104, j_X7_lay_107, j_X7_lay_109, j_X7_lay_110, j_X7_lay_113, j_X7_lay_115, j_X7_lay_116, j_X7_lay_117, j_X7_lay_120, j_X7_lay_121, j_X7_lay_124, j_X7_lay_125, j_X7_lay_126, j_X7_lay_127, j_X7_lay_130, j_X7_lay_132, j_X7_lay_133, j_X7_lay_136, j_X7_lay_137, j_X7_lay_140, j_X7_lay_141, j_X7_lay_143, j_X7_lay_145, j_X7_lay_148, j_X7_lay_150, j_X7_lay_153, j_X7_lay_155, j_X7_lay_158, j_X7_lay_159, j_X7_lay_162, j_X7_lay_163, j_X7_lay_165, j_X7_lay_168, j_X7_lay_170, j_X7_lay_174, j_X7_lay_177, j_X7_lay_178, j_X7_lay_180, j_X7_lay_181, en_c2I, en_c2R, en_c2U, en_c2D, Option.some.injEq, exists_eq_left', exists_eq_left, Option.map_some, Option.map_none, not_true_eq_false, false_implies, true_implies, and_true, true_and, reduceCtorEq, not_false_eq_true, true_or, or_true, eg_cl_sfi, eg_fi_sfi, eg_fr_sfi, eg_fd_sfi, eg_al_sfi, eg_ai_sfi, eg_ar_sfi, eg_ad_sfi, eg_aj_sfi, eg_nx_sfi, eg_ns_sfi, eg_cl_sfr, eg_fi_sfr, eg_fr_sfr, eg_fd_sfr, eg_al_sfr, eg_ai_sfr, eg_ar_sfr, eg_ad_sfr, eg_aj_sfr, eg_nx_sfr, eg_ns_sfr, eg_cl_sfd, eg_fi_sfd, eg_fr_sfd, eg_fd_sfd, eg_al_sfd, eg_ai_sfd, eg_ar_sfd, eg_ad_sfd, eg_aj_sfd, eg_nx_sfd, eg_ns_sfd, eg_cl_sai, eg_fi_sai, eg_fr_sai, eg_fd_sai, eg_al_sai, eg_ai_sai, eg_ar_sai, eg_ad_sai, eg_aj_sai, eg_nx_sai, eg_ns_sai, eg_cl_sar, eg_fi_sar, eg_fr_sar, eg_fd_sar, eg_al_sar, eg_ai_sar, eg_ar_sar, eg_ad_sar, eg_aj_sar, eg_nx_sar, eg_ns_sar, eg_cl_sad, eg_fi_sad, eg_fr_sad, eg_fd_sad, eg_al_sad, eg_ai_sad, eg_ar_sad, eg_ad_sad, eg_aj_sad, eg_nx_sad, eg_ns_sad, eg_cl_saj, eg_fi_saj, eg_fr_saj, eg_fd_saj, eg_al_saj, eg_ai_saj, eg_ar_saj, eg_ad_saj, eg_aj_saj, eg_nx_saj, eg_ns_saj, eg_cl_new, eg_fi_new, eg_fr_new, eg_fd_new, eg_al_new, eg_ai_new, eg_ar_new, eg_ad_new, eg_aj_new, eg_nx_new, eg_ns_new, eg_cl_newa, eg_fi_newa, eg_fr_newa, eg_fd_newa, eg_al_newa, eg_ai_newa, eg_ar_newa, eg_ad_newa, eg_aj_newa, eg_nx_newa, eg_ns_newa, eg_cl_bump, eg_fi_bump, eg_fr_bump, eg_fd_bump, eg_al_bump, eg_ai_bump, eg_ar_bump, eg_ad_bump, eg_aj_bump, eg_nx_bump, eg_ns_bump, rs_c hS, rs_f737 hS, rs_a27 hS, rs_f738 hS, rs_a28 hS, rs_f702 hS, rs_a1 hS, rs_f741 hS, rs_a31 hS, rs_f739 hS, rs_a29 hS, Prod.mk.injEq, n3, n4, e1, a3, a4, st_bt, i1, e5]
          exact rest
        | false =>
          have q2 := hw0 rfl
          rw [if_pos q2.symm] at rest
          rw [q2] at rest
          simp only [j_X7_lay_0, j_X7_lay_1, j_X7_lay_2, j_X7_lay_5, j_X7_lay_6, j_X7_lay_7, j_X7_lay_9, j_X7_lay_10, j_X7_lay_12, j_X7_lay_13, j_X7_lay_17, j_X7_lay_20, j_X7_lay_22, j_X7_lay_25, j_X7_lay_26, j_X7_lay_27, j_X7_lay_29, j_X7_lay_32, j_X7_lay_34, j_X7_lay_37, j_X7_lay_40, j_X7_lay_41, j_X7_lay_44, j_X7_lay_45, j_X7_lay_47, j_X7_lay_48, j_X7_lay_51, j_X7_lay_53, j_X7_lay_54, j_X7_lay_55, j_X7_lay_57, j_X7_lay_58, j_X7_lay_60, j_X7_lay_61, j_X7_lay_62, j_X7_lay_65, j_X7_lay_67, j_X7_lay_68, j_X7_lay_69, j_X7_lay_71, j_X7_lay_72, j_X7_lay_74, j_X7_lay_77, j_X7_lay_78, j_X7_lay_81, j_X7_lay_83, j_X7_lay_84, j_X7_lay_86, j_X7_lay_89, j_X7_lay_91, j_X7_lay_94, j_X7_lay_96, j_X7_lay_98, j_X7_lay_102, j_X7_lay_104, j_X7_lay_107, j_X7_lay_109, j_X7_lay_110, j_X7_lay_113, j_X7_lay_115, j_X7_lay_116, j_X7_lay_117, j_X7_lay_120, j_X7_lay_121, j_X7_lay_124, j_X7_lay_125, j_X7_lay_126, j_X7_lay_127, j_X7_lay_130, j_X7_lay_132, j_X7_lay_133, j_X7_lay_136, j_X7_lay_137, j_X7_lay_140, j_X7_lay_141, j_X7_lay_143, j_X7_lay_145, j_X7_lay_148, j_X7_lay_150, j_X7_lay_153, j_X7_lay_155, j_X7_lay_158, j_X7_lay_159, j_X7_lay_162, j_X7_lay_163, j_X7_lay_165, j_X7_lay_168, j_X7_lay_170, j_X7_lay_174, j_X7_lay_177, j_X7_lay_178, j_X7_lay_180, j_X7_lay_181, en_c2I, en_c2R, en_c2U, en_c2D, Option.some.injEq, exists_eq_left', exists_eq_left, Option.map_some, Option.map_none, not_true_eq_false, false_implies, true_implies, and_true, true_and, reduceCtorEq, not_false_eq_true, true_or, or_true, eg_cl_sfi, eg_fi_sfi, eg_fr_sfi, eg_fd_sfi, eg_al_sfi, eg_ai_sfi, eg_ar_sfi, eg_ad_sfi, eg_aj_sfi, eg_nx_sfi, eg_ns_sfi, eg_cl_sfr, eg_fi_sfr, eg_fr_sfr, eg_fd_sfr, eg_al_sfr, eg_ai_sfr, eg_ar_sfr, eg_ad_sfr, eg_aj_sfr, eg_nx_sfr, eg_ns_sfr, eg_cl_sfd, eg_fi_sfd, eg_fr_sfd, eg_fd_sfd, eg_al_sfd, eg_ai_sfd, eg_ar_sfd, eg_ad_sfd, eg_aj_sfd, eg_nx_sfd, eg_ns_sfd, eg_cl_sai, eg_fi_sai, eg_fr_sai, eg_fd_sai, eg_al_sai, eg_ai_sai, eg_ar_sai, eg_ad_sai, eg_aj_sai, eg_nx_sai, eg_ns_sai, eg_cl_sar, eg_fi_sar, eg_fr_sar, eg_fd_sar, eg_al_sar, eg_ai_sar, eg_ar_sar, eg_ad_sar, eg_aj_sar, eg_nx_sar, eg_ns_sar, eg_cl_sad, eg_fi_sad, eg_fr_sad, eg_fd_sad, eg_al_sad, eg_ai_sad, eg_ar_sad, eg_ad_sad, eg_aj_sad, eg_nx_sad, eg_ns_sad, eg_cl_saj, eg_fi_saj, eg_fr_saj, eg_fd_saj, eg_al_saj, eg_ai_saj, eg_ar_saj, eg_ad_saj, eg_aj_saj, eg_nx_saj, eg_ns_saj, eg_cl_new, eg_fi_new, eg_fr_new, eg_fd_new, eg_al_new, eg_ai_new, eg_ar_new, eg_ad_new, eg_aj_new, eg_nx_new, eg_ns_new, eg_cl_newa, eg_fi_newa, eg_fr_newa, eg_fd_newa, eg_al_newa, eg_ai_newa, eg_ar_newa, eg_ad_newa, eg_aj_newa, eg_nx_newa, eg_ns_newa, eg_cl_bump, eg_fi_bump, eg_fr_bump, eg_fd_bump, eg_al_bump, eg_ai_bump, eg_ar_bump, eg_ad_bump, eg_aj_bump, eg_nx_bump, eg_ns_bump, rs_c hS, rs_f737 hS, rs_a27 hS, rs_f738 hS, rs_a28 hS, rs_f702 hS, rs_a1 hS, rs_f741 hS, rs_a31 hS, rs_f739 hS, rs_a29 hS, Prod.mk.injEq, n3, n4, e1, a3, a4, st_bf, e5]
          exact rest
      rw [j_X7_lay_15]
      rcases hinv with ⟨hacc, hcx⟩ | ⟨hacc, hcx⟩
      · have hxt : x = tg := Option.some.inj hcx
        have := main false (fun z => by cases z) (fun _ => by rw [← hge, hxt]; split <;> rfl)
        have z2 : nI acc.length ≤ 0 := by rw [hacc]; decide +kernel
        simp only [j_X7_lay_0, j_X7_lay_1, j_X7_lay_2, j_X7_lay_5, j_X7_lay_6, j_X7_lay_7, j_X7_lay_9, j_X7_lay_10, j_X7_lay_12, j_X7_lay_13, j_X7_lay_17, j_X7_lay_20, j_X7_lay_22, j_X7_lay_25, j_X7_lay_26, j_X7_lay_27, j_X7_lay_29, j_X7_lay_32, j_X7_lay_34, j_X7_lay_37, j_X7_lay_40, j_X7_lay_41, j_X7_lay_44, j_X7_lay_45, j_X7_lay_48, j_X7_lay_51, j_X7_lay_53, j_X7_lay_54, j_X7_lay_55, j_X7_lay_57, j_X7_lay_58, j_X7_lay_60, j_X7_lay_61, j_X7_lay_62, j_X7_lay_65, j_X7_lay_67, j_X7_lay_68, j_X7_lay_69, j_X7_lay_71, j_X7_lay_72, j_X7_lay_74, j_X7_lay_77, j_X7_lay_78, j_X7_lay_81, j_X7_lay_83, j_X7_lay_84, j_X7_lay_86, j_X7_lay_89, j_X7_lay_91, j_X7_lay_94, j_X7_lay_96, j_X7_lay_98, j_X7_lay_101, j_X7_lay_102, j_X7_lay_104, j_X7_lay_107, j_X7_lay_109, j_X7_lay_110, j_X7_lay_113, j_X7_lay_115, j_X7_lay_116, j_X7_lay_117, j_X7_lay_120, j_X7_lay_121, j_X7_lay_124, j_X7_lay_125, j_X7_lay_126, j_X7_lay_127, j_X7_lay_130, j_X7_lay_132, j_X7_lay_133, j_X7_lay_136, j_X7_lay_137, j_X7_lay_140, j_X7_lay_141, j_X7_lay_143, j_X7_lay_145, j_X7_lay_148, j_X7_lay_150, j_X7_lay_153, j_X7_lay_155, j_X7_lay_158, j_X7_lay_159, j_X7_lay_162, j_X7_lay_163, j_X7_lay_165, j_X7_lay_168, j_X7_lay_170, j_X7_lay_174, j_X7_lay_177, j_X7_lay_178, j_X7_lay_180, j_X7_lay_181, en_c2I, en_c2R, en_c2U, en_c2D, Option.some.injEq, exists_eq_left', exists_eq_left, Option.map_some, Option.map_none, not_true_eq_false, false_implies, true_implies, and_true, true_and, reduceCtorEq, not_false_eq_true, true_or, or_true, st_num_some, zx, z2]
        exact this
      · have hal : 0 < acc.length := by
          cases acc with
          | nil => exact absurd rfl hacc
          | cons a l => exact Nat.succ_pos _
        have z2 : ¬ nI acc.length ≤ 0 := by rw [show (0 : Int32) = nI 0 from by decide +kernel]; exact nI_ge hal (by omega)
        have hlt := hcx x rfl
        have hrl := od_root_lt hw 24 tg htg
        simp only [j_X7_lay_0, j_X7_lay_1, j_X7_lay_2, j_X7_lay_5, j_X7_lay_6, j_X7_lay_7, j_X7_lay_9, j_X7_lay_10, j_X7_lay_12, j_X7_lay_13, j_X7_lay_17, j_X7_lay_20, j_X7_lay_22, j_X7_lay_25, j_X7_lay_26, j_X7_lay_27, j_X7_lay_29, j_X7_lay_32, j_X7_lay_34, j_X7_lay_37, j_X7_lay_40, j_X7_lay_41, j_X7_lay_44, j_X7_lay_45, j_X7_lay_48, j_X7_lay_51, j_X7_lay_53, j_X7_lay_54, j_X7_lay_55, j_X7_lay_57, j_X7_lay_58, j_X7_lay_60, j_X7_lay_61, j_X7_lay_62, j_X7_lay_65, j_X7_lay_67, j_X7_lay_68, j_X7_lay_69, j_X7_lay_71, j_X7_lay_72, j_X7_lay_74, j_X7_lay_77, j_X7_lay_78, j_X7_lay_81, j_X7_lay_83, j_X7_lay_84, j_X7_lay_86, j_X7_lay_89, j_X7_lay_91, j_X7_lay_94, j_X7_lay_96, j_X7_lay_98, j_X7_lay_101, j_X7_lay_102, j_X7_lay_104, j_X7_lay_107, j_X7_lay_109, j_X7_lay_110, j_X7_lay_113, j_X7_lay_115, j_X7_lay_116, j_X7_lay_117, j_X7_lay_120, j_X7_lay_121, j_X7_lay_124, j_X7_lay_125, j_X7_lay_126, j_X7_lay_127, j_X7_lay_130, j_X7_lay_132, j_X7_lay_133, j_X7_lay_136, j_X7_lay_137, j_X7_lay_140, j_X7_lay_141, j_X7_lay_143, j_X7_lay_145, j_X7_lay_148, j_X7_lay_150, j_X7_lay_153, j_X7_lay_155, j_X7_lay_158, j_X7_lay_159, j_X7_lay_162, j_X7_lay_163, j_X7_lay_165, j_X7_lay_168, j_X7_lay_170, j_X7_lay_174, j_X7_lay_177, j_X7_lay_178, j_X7_lay_180, j_X7_lay_181, en_c2I, en_c2R, en_c2U, en_c2D, Option.some.injEq, exists_eq_left', exists_eq_left, Option.map_some, Option.map_none, not_true_eq_false, false_implies, true_implies, and_true, true_and, reduceCtorEq, not_false_eq_true, true_or, or_true, st_num_some, zx, z2]
        refine en_use (cu_X7_root ⟨hR, htg⟩) ?_
        rintro v σ2 ⟨rfl, rfl⟩
        simp only [Option.toList, List.cons_append, List.nil_append, j_X7_lay_0, j_X7_lay_1, j_X7_lay_2, j_X7_lay_5, j_X7_lay_6, j_X7_lay_7, j_X7_lay_9, j_X7_lay_10, j_X7_lay_12, j_X7_lay_13, j_X7_lay_17, j_X7_lay_20, j_X7_lay_22, j_X7_lay_25, j_X7_lay_26, j_X7_lay_27, j_X7_lay_29, j_X7_lay_32, j_X7_lay_34, j_X7_lay_37, j_X7_lay_40, j_X7_lay_41, j_X7_lay_44, j_X7_lay_45, j_X7_lay_48, j_X7_lay_51, j_X7_lay_53, j_X7_lay_54, j_X7_lay_55, j_X7_lay_57, j_X7_lay_58, j_X7_lay_60, j_X7_lay_61, j_X7_lay_62, j_X7_lay_65, j_X7_lay_67, j_X7_lay_68, j_X7_lay_69, j_X7_lay_71, j_X7_lay_72, j_X7_lay_74, j_X7_lay_77, j_X7_lay_78, j_X7_lay_81, j_X7_lay_83, j_X7_lay_84, j_X7_lay_86, j_X7_lay_89, j_X7_lay_91, j_X7_lay_94, j_X7_lay_96, j_X7_lay_98, j_X7_lay_101, j_X7_lay_102, j_X7_lay_104, j_X7_lay_107, j_X7_lay_109, j_X7_lay_110, j_X7_lay_113, j_X7_lay_115, j_X7_lay_116, j_X7_lay_117, j_X7_lay_120, j_X7_lay_121, j_X7_lay_124, j_X7_lay_125, j_X7_lay_126, j_X7_lay_127, j_X7_lay_130, j_X7_lay_132, j_X7_lay_133, j_X7_lay_136, j_X7_lay_137, j_X7_lay_140, j_X7_lay_141, j_X7_lay_143, j_X7_lay_145, j_X7_lay_148, j_X7_lay_150, j_X7_lay_153, j_X7_lay_155, j_X7_lay_158, j_X7_lay_159, j_X7_lay_162, j_X7_lay_163, j_X7_lay_165, j_X7_lay_168, j_X7_lay_170, j_X7_lay_174, j_X7_lay_177, j_X7_lay_178, j_X7_lay_180, j_X7_lay_181, en_c2I, en_c2R, en_c2U, en_c2D, Option.some.injEq, exists_eq_left', exists_eq_left, Option.map_some, Option.map_none, not_true_eq_false, false_implies, true_implies, and_true, true_and, reduceCtorEq, not_false_eq_true, true_or, or_true]
        refine en_use (cu_X7_covers ⟨hR, hrl, hx⟩) ?_
        rintro v σ2 ⟨rfl, rfl⟩
        cases hov : tr_over (sa_T A) (tr_root (sa_T A) tg) x with
        | true =>
          have := main true (fun _ => by
            have : e2 = tg := by rw [← hge, hov]; rfl
            refine ⟨fun z => ?_, this⟩
            rw [z, this] at hlt
            exact absurd hlt (Nat.lt_irrefl _)) (fun z => by cases z)
          simp only [Option.toList, List.cons_append, List.nil_append, j_X7_lay_0, j_X7_lay_1, j_X7_lay_2, j_X7_lay_5, j_X7_lay_6, j_X7_lay_7, j_X7_lay_9, j_X7_lay_10, j_X7_lay_12, j_X7_lay_13, j_X7_lay_17, j_X7_lay_20, j_X7_lay_22, j_X7_lay_25, j_X7_lay_26, j_X7_lay_27, j_X7_lay_29, j_X7_lay_32, j_X7_lay_34, j_X7_lay_37, j_X7_lay_40, j_X7_lay_41, j_X7_lay_44, j_X7_lay_45, j_X7_lay_48, j_X7_lay_51, j_X7_lay_53, j_X7_lay_54, j_X7_lay_55, j_X7_lay_57, j_X7_lay_58, j_X7_lay_60, j_X7_lay_61, j_X7_lay_62, j_X7_lay_65, j_X7_lay_67, j_X7_lay_68, j_X7_lay_69, j_X7_lay_71, j_X7_lay_72, j_X7_lay_74, j_X7_lay_77, j_X7_lay_78, j_X7_lay_81, j_X7_lay_83, j_X7_lay_84, j_X7_lay_86, j_X7_lay_89, j_X7_lay_91, j_X7_lay_94, j_X7_lay_96, j_X7_lay_98, j_X7_lay_101, j_X7_lay_102, j_X7_lay_104, j_X7_lay_107, j_X7_lay_109, j_X7_lay_110, j_X7_lay_113, j_X7_lay_115, j_X7_lay_116, j_X7_lay_117, j_X7_lay_120, j_X7_lay_121, j_X7_lay_124, j_X7_lay_125, j_X7_lay_126, j_X7_lay_127, j_X7_lay_130, j_X7_lay_132, j_X7_lay_133, j_X7_lay_136, j_X7_lay_137, j_X7_lay_140, j_X7_lay_141, j_X7_lay_143, j_X7_lay_145, j_X7_lay_148, j_X7_lay_150, j_X7_lay_153, j_X7_lay_155, j_X7_lay_158, j_X7_lay_159, j_X7_lay_162, j_X7_lay_163, j_X7_lay_165, j_X7_lay_168, j_X7_lay_170, j_X7_lay_174, j_X7_lay_177, j_X7_lay_178, j_X7_lay_180, j_X7_lay_181, en_c2I, en_c2R, en_c2U, en_c2D, Option.some.injEq, exists_eq_left', exists_eq_left, Option.map_some, Option.map_none, not_true_eq_false, false_implies, true_implies, and_true, true_and, reduceCtorEq, not_false_eq_true, true_or, or_true, st_bt, i1]
          exact this
        | false =>
          have := main false (fun z => by cases z) (fun _ => by rw [← hge, hov]; rfl)
          simp only [Option.toList, List.cons_append, List.nil_append, j_X7_lay_0, j_X7_lay_1, j_X7_lay_2, j_X7_lay_5, j_X7_lay_6, j_X7_lay_7, j_X7_lay_9, j_X7_lay_10, j_X7_lay_12, j_X7_lay_13, j_X7_lay_17, j_X7_lay_20, j_X7_lay_22, j_X7_lay_25, j_X7_lay_26, j_X7_lay_27, j_X7_lay_29, j_X7_lay_32, j_X7_lay_34, j_X7_lay_37, j_X7_lay_40, j_X7_lay_41, j_X7_lay_44, j_X7_lay_45, j_X7_lay_48, j_X7_lay_51, j_X7_lay_53, j_X7_lay_54, j_X7_lay_55, j_X7_lay_57, j_X7_lay_58, j_X7_lay_60, j_X7_lay_61, j_X7_lay_62, j_X7_lay_65, j_X7_lay_67, j_X7_lay_68, j_X7_lay_69, j_X7_lay_71, j_X7_lay_72, j_X7_lay_74, j_X7_lay_77, j_X7_lay_78, j_X7_lay_81, j_X7_lay_83, j_X7_lay_84, j_X7_lay_86, j_X7_lay_89, j_X7_lay_91, j_X7_lay_94, j_X7_lay_96, j_X7_lay_98, j_X7_lay_101, j_X7_lay_102, j_X7_lay_104, j_X7_lay_107, j_X7_lay_109, j_X7_lay_110, j_X7_lay_113, j_X7_lay_115, j_X7_lay_116, j_X7_lay_117, j_X7_lay_120, j_X7_lay_121, j_X7_lay_124, j_X7_lay_125, j_X7_lay_126, j_X7_lay_127, j_X7_lay_130, j_X7_lay_132, j_X7_lay_133, j_X7_lay_136, j_X7_lay_137, j_X7_lay_140, j_X7_lay_141, j_X7_lay_143, j_X7_lay_145, j_X7_lay_148, j_X7_lay_150, j_X7_lay_153, j_X7_lay_155, j_X7_lay_158, j_X7_lay_159, j_X7_lay_162, j_X7_lay_163, j_X7_lay_165, j_X7_lay_168, j_X7_lay_170, j_X7_lay_174, j_X7_lay_177, j_X7_lay_178, j_X7_lay_180, j_X7_lay_181, en_c2I, en_c2R, en_c2U, en_c2D, Option.some.injEq, exists_eq_left', exists_eq_left, Option.map_some, Option.map_none, not_true_eq_false, false_implies, true_implies, and_true, true_and, reduceCtorEq, not_false_eq_true, true_or, or_true, st_bf]
          exact this
theorem jl_X7_lay {G : en_G}  {m : Nat} {A : st_A} {d : Nat} {t : Nat} {fl : Nat} {q : Option en_V → en_S → Prop} {σ : en_S} (hp : RX m A σ ∧ d < 4 ∧ t < tr_N (sa_T A) ∧ fl < 8 ∧ en_ai σ (m + 31) d = nI fl) (hq : ∀ v σ', (RX m A σ' ∧ ag σ σ' TT (lyV m) ∧ sz σ σ' ∧ v = none ∧ pr_row m d (ds_path (sa_T A) t fl) σ' ∧ en_ai σ' (m + 29) d = nI (ds_path (sa_T A) t fl).length ∧ (∀ i, i < 24 * d → en_ai σ' (m + 27) i = en_ai σ (m + 27) i ∧ en_ai σ' (m + 28) i = en_ai σ (m + 28) i) ∧ (∀ i, i < d → en_ai σ' (m + 29) i = en_ai σ (m + 29) i) ∧ (ds_path (sa_T A) t fl).length ≤ 24) → q v σ') : en_J (X_X7_lay G q) 0 [en_R (some m), en_I (nI d), en_I (nI t), en_U, en_U, en_U, en_U, en_U, en_U, en_U] [] σ := by
  obtain ⟨hR, hd, ht, hfl, h31⟩ := hp
  have w := hR.2.2.2.2.2.2.2.2.2
  have hw := w.1
  have hRk := tr_Rk_le hw ht
  have n3 : vp_in (nI d) 4 := vp_in_nI (by omega) (by decide)
  have n4 : (nI d).toNatClampNeg = d := nI_clamp (by omega)
  simp only [j_X7_lay_0, j_X7_lay_1, j_X7_lay_2, j_X7_lay_5, j_X7_lay_6, j_X7_lay_7, j_X7_lay_9, j_X7_lay_10, j_X7_lay_12, j_X7_lay_13, j_X7_lay_17, j_X7_lay_20, j_X7_lay_22, j_X7_lay_25, j_X7_lay_26, j_X7_lay_27, j_X7_lay_29, j_X7_lay_32, j_X7_lay_34, j_X7_lay_37, j_X7_lay_40, j_X7_lay_41, j_X7_lay_44, j_X7_lay_45, j_X7_lay_47, j_X7_lay_48, j_X7_lay_51, j_X7_lay_53, j_X7_lay_54, j_X7_lay_55, j_X7_lay_57, j_X7_lay_58, j_X7_lay_60, j_X7_lay_61, j_X7_lay_62, j_X7_lay_65, j_X7_lay_67, j_X7_lay_68, j_X7_lay_69, j_X7_lay_71, j_X7_lay_72, j_X7_lay_74, j_X7_lay_77, j_X7_lay_78, j_X7_lay_81, j_X7_lay_83, j_X7_lay_84, j_X7_lay_86, j_X7_lay_89, j_X7_lay_91, j_X7_lay_94, j_X7_lay_96, j_X7_lay_98, j_X7_lay_101, j_X7_lay_102, j_X7_lay_104, j_X7_lay_107, j_X7_lay_109, j_X7_lay_110, j_X7_lay_113, j_X7_lay_115, j_X7_lay_116, j_X7_lay_117, j_X7_lay_120, j_X7_lay_121, j_X7_lay_124, j_X7_lay_125, j_X7_lay_126, j_X7_lay_127, j_X7_lay_130, j_X7_lay_132, j_X7_lay_133, j_X7_lay_136, j_X7_lay_137, j_X7_lay_140, j_X7_lay_141, j_X7_lay_143, j_X7_lay_145, j_X7_lay_148, j_X7_lay_150, j_X7_lay_153, j_X7_lay_155, j_X7_lay_158, j_X7_lay_159, j_X7_lay_162, j_X7_lay_163, j_X7_lay_165, j_X7_lay_168, j_X7_lay_170, j_X7_lay_173, j_X7_lay_174, j_X7_lay_177, j_X7_lay_178, j_X7_lay_180, j_X7_lay_181, en_c2I, en_c2R, en_c2U, en_c2D, Option.some.injEq, exists_eq_left', exists_eq_left, Option.map_some, Option.map_none, not_true_eq_false, false_implies, true_implies, and_true, true_and, reduceCtorEq, not_false_eq_true, true_or, or_true]
  refine en_use (cu_X7_root ⟨hR, ht⟩) ?_
  rintro v σ1 ⟨rfl, rfl⟩
  have key := jw_X7_lay (G := G) (q := q) (A := A) (m := m) (d := d) (t := t) (fl := fl) hd ht hfl 24 (some t) t [] σ1 hR h31 (fun x hx => by cases hx; exact ⟨ht, by omega⟩) ht rfl rfl (Or.inl ⟨rfl, rfl⟩) (fun i e hi => by cases hi) (fun σ2 g2 s2 hR2 hrow hfr hlen => by
    have hS2 := hR2.1
    have hrow' : pr_row m d (ds_path (sa_T A) t fl) σ2 := hrow
    have hlen' : (ds_path (sa_T A) t fl).length ≤ 24 := hlen
    intro l6 l7 l8 l9
    have g3 : ag σ2 (en_sai σ2 (m + 29) d (nI (ds_path (sa_T A) t fl).length)) TT (lyV m) := ag_sai (fun z => z.2.2 rfl)
    simp only [j_X7_lay_0, j_X7_lay_1, j_X7_lay_2, j_X7_lay_5, j_X7_lay_6, j_X7_lay_7, j_X7_lay_9, j_X7_lay_10, j_X7_lay_12, j_X7_lay_13, j_X7_lay_17, j_X7_lay_20, j_X7_lay_22, j_X7_lay_25, j_X7_lay_26, j_X7_lay_27, j_X7_lay_29, j_X7_lay_32, j_X7_lay_34, j_X7_lay_37, j_X7_lay_40, j_X7_lay_41, j_X7_lay_44, j_X7_lay_45, j_X7_lay_47, j_X7_lay_48, j_X7_lay_51, j_X7_lay_53, j_X7_lay_54, j_X7_lay_55, j_X7_lay_57, j_X7_lay_58, j_X7_lay_60, j_X7_lay_61, j_X7_lay_62, j_X7_lay_65, j_X7_lay_67, j_X7_lay_68, j_X7_lay_69, j_X7_lay_71, j_X7_lay_72, j_X7_lay_74, j_X7_lay_77, j_X7_lay_78, j_X7_lay_81, j_X7_lay_83, j_X7_lay_84, j_X7_lay_86, j_X7_lay_89, j_X7_lay_91, j_X7_lay_94, j_X7_lay_96, j_X7_lay_98, j_X7_lay_101, j_X7_lay_102, j_X7_lay_104, j_X7_lay_107, j_X7_lay_109, j_X7_lay_110, j_X7_lay_113, j_X7_lay_115, j_X7_lay_116, j_X7_lay_117, j_X7_lay_120, j_X7_lay_121, j_X7_lay_124, j_X7_lay_125, j_X7_lay_126, j_X7_lay_127, j_X7_lay_130, j_X7_lay_132, j_X7_lay_133, j_X7_lay_136, j_X7_lay_137, j_X7_lay_140, j_X7_lay_141, j_X7_lay_143, j_X7_lay_145, j_X7_lay_148, j_X7_lay_150, j_X7_lay_153, j_X7_lay_155, j_X7_lay_158, j_X7_lay_159, j_X7_lay_162, j_X7_lay_163, j_X7_lay_165, j_X7_lay_168, j_X7_lay_170, j_X7_lay_173, j_X7_lay_174, j_X7_lay_177, j_X7_lay_178, j_X7_lay_180, j_X7_lay_181, en_c2I, en_c2R, en_c2U, en_c2D, Option.some.injEq, exists_eq_left', exists_eq_left, Option.map_some, Option.map_none, not_true_eq_false, false_implies, true_implies, and_true, true_and, reduceCtorEq, not_false_eq_true, true_or, or_true, rs_c hS2, rs_f737 hS2, rs_a27 hS2, rs_f738 hS2, rs_a28 hS2, rs_f702 hS2, rs_a1 hS2, rs_f741 hS2, rs_a31 hS2, rs_f739 hS2, rs_a29 hS2, Prod.mk.injEq, n3, n4]
    refine hq _ _ ⟨rx_lay hR2 g3 ⟨rfl, rfl, rfl, rfl⟩, (g2.mono (fun _ _ _ => trivial) (fun a z => ⟨z.1, z.2.1⟩)).tr g3, sz.tr s2 ⟨rfl, rfl, rfl, rfl⟩, rfl, fun i e hi => ?_, by rw [eg_ai_sai, if_pos ⟨rfl, rfl⟩], fun i hi => ?_, fun i hi => ?_, hlen'⟩
    · rw [eg_ai_sai, eg_ai_sai, if_neg (by omega), if_neg (by omega)]; exact hrow' i e hi
    · rw [eg_ai_sai, eg_ai_sai, if_neg (by omega), if_neg (by omega)]; exact hfr i hi
    · rw [eg_ai_sai, if_neg (by omega)]
      have x := rs_nx hR.1
      exact congrFun ((g2.2 (m + 29) (by omega)).2.2.2 (by unfold lyW; omega)).1 i) en_U en_U en_U
  rw [show nI ([] : List (Nat × Nat)).length = 0 from by decide +kernel] at key
  simp only [Option.toList, List.cons_append, List.nil_append, j_X7_lay_0, j_X7_lay_1, j_X7_lay_2, j_X7_lay_5, j_X7_lay_6, j_X7_lay_7, j_X7_lay_9, j_X7_lay_10, j_X7_lay_12, j_X7_lay_13, j_X7_lay_17, j_X7_lay_20, j_X7_lay_22, j_X7_lay_25, j_X7_lay_26, j_X7_lay_27, j_X7_lay_29, j_X7_lay_32, j_X7_lay_34, j_X7_lay_37, j_X7_lay_40, j_X7_lay_41, j_X7_lay_44, j_X7_lay_45, j_X7_lay_47, j_X7_lay_48, j_X7_lay_51, j_X7_lay_53, j_X7_lay_54, j_X7_lay_55, j_X7_lay_57, j_X7_lay_58, j_X7_lay_60, j_X7_lay_61, j_X7_lay_62, j_X7_lay_65, j_X7_lay_67, j_X7_lay_68, j_X7_lay_69, j_X7_lay_71, j_X7_lay_72, j_X7_lay_74, j_X7_lay_77, j_X7_lay_78, j_X7_lay_81, j_X7_lay_83, j_X7_lay_84, j_X7_lay_86, j_X7_lay_89, j_X7_lay_91, j_X7_lay_94, j_X7_lay_96, j_X7_lay_98, j_X7_lay_101, j_X7_lay_102, j_X7_lay_104, j_X7_lay_107, j_X7_lay_109, j_X7_lay_110, j_X7_lay_113, j_X7_lay_115, j_X7_lay_116, j_X7_lay_117, j_X7_lay_120, j_X7_lay_121, j_X7_lay_124, j_X7_lay_125, j_X7_lay_126, j_X7_lay_127, j_X7_lay_130, j_X7_lay_132, j_X7_lay_133, j_X7_lay_136, j_X7_lay_137, j_X7_lay_140, j_X7_lay_141, j_X7_lay_143, j_X7_lay_145, j_X7_lay_148, j_X7_lay_150, j_X7_lay_153, j_X7_lay_155, j_X7_lay_158, j_X7_lay_159, j_X7_lay_162, j_X7_lay_163, j_X7_lay_165, j_X7_lay_168, j_X7_lay_170, j_X7_lay_173, j_X7_lay_174, j_X7_lay_177, j_X7_lay_178, j_X7_lay_180, j_X7_lay_181, en_c2I, en_c2R, en_c2U, en_c2D, Option.some.injEq, exists_eq_left', exists_eq_left, Option.map_some, Option.map_none, not_true_eq_false, false_implies, true_implies, and_true, true_and, reduceCtorEq, not_false_eq_true, true_or, or_true]
  exact key
theorem jp_X7_lay {G : en_G}  : ∀ as σ, (C_X7_lay G).1 as σ → (en_lc as).length ≤ 10 ∧ en_J (X_X7_lay G (fun r σ' => (C_X7_lay G).2 as σ r σ')) 0 (en_loc 10 as) [] σ := en_ghJ (fun g as σ h => by
  obtain ⟨hp, h2⟩ := h
  subst h2
  exact ⟨Nat.le_of_ble_eq_true rfl, jl_X7_lay hp (fun _ _ h => h)⟩)
theorem wl_X7_lay_208 : Jvm.Cond.methodLink RX7 208 yX7_root ∈ en_W := en_inW (List.mem_of_getElem? (i := 951) (by decide +kernel)) (by decide +kernel)
theorem wl_X7_lay_174 : Jvm.Cond.methodLink RX7 174 yX7_covers ∈ en_W := en_inW (List.mem_of_getElem? (i := 891) (by decide +kernel)) (by decide +kernel)
theorem wl_X7_lay_211 : Jvm.Cond.methodLink RX7 211 yX7_assigned ∈ en_W := en_inW (List.mem_of_getElem? (i := 955) (by decide +kernel)) (by decide +kernel)
theorem wl_X7_lay_160 : Jvm.Cond.methodLink RX7 160 yX7_up ∈ en_W := en_inW (List.mem_of_getElem? (i := 895) (by decide +kernel)) (by decide +kernel)
theorem ok_X7_lay {G : en_G}  : en_Ok G 4 yX7_lay cX7_lay 10 none (C_X7_lay G) :=
  en_met (own := RX7) (fl := en_lk fl7) (nw := en_lk nw7) (aw := en_lk aw7) (dc := en_lk dc7) (ca := en_lk (ca_X7_lay G)) (rt := 0) (ini := false) (by decide +kernel) (Or.inl ⟨rfl, rfl⟩) (fun h => by cases h) rfl (fun q => en_LkF fl7_ok nw7_ok aw7_ok dc7_ok) (by
    intro idx q hq
    have hm := en_lk_mem hq
    simp only [ca_X7_lay, List.mem_cons, Prod.mk.injEq, List.not_mem_nil, or_false] at hm
    rcases hm with ⟨rfl, rfl⟩ | ⟨rfl, rfl⟩ | ⟨rfl, rfl⟩ | ⟨rfl, rfl⟩
    · exact en_clV (r := (RX7, TX7, 53)) 7 1 ok_X7_root (by decide) (by decide) rfl rfl pr_X7_root wl_X7_lay_208 wi_X7_root wx_X7_root wz_7 wc_X7_root ⟨by decide +kernel, by decide +kernel, by decide +kernel⟩
    · exact en_clV (r := (RX7, TX7, 53)) 7 2 ok_X7_covers (by decide) (by decide) rfl rfl pr_X7_covers wl_X7_lay_174 wi_X7_covers wx_X7_covers wz_7 wc_X7_covers ⟨by decide +kernel, by decide +kernel, by decide +kernel⟩
    · exact en_clV (r := (RX7, TX7, 53)) 7 1 ok_X7_assigned (by decide) (by decide) rfl rfl pr_X7_assigned wl_X7_lay_211 wi_X7_assigned wx_X7_assigned wz_7 wc_X7_assigned ⟨by decide +kernel, by decide +kernel, by decide +kernel⟩
    · exact en_clV (r := (RX7, TX7, 53)) 7 1 ok_X7_up (by decide) (by decide) rfl rfl pr_X7_up wl_X7_lay_160 wi_X7_up wx_X7_up wz_7 wc_X7_up ⟨by decide +kernel, by decide +kernel, by decide +kernel⟩) jp_X7_lay
