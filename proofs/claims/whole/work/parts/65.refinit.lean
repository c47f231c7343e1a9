/-! THE REFERENCE is made -/
def st_0 : st_A := ((1, fun _ => 3, fun _ => -1, fun _ => none, fun _ => none, fun _ => none, fun _ => []), fun _ _ => 0, fun f j => if f = 0 ∧ j = 2 then 120 else 0, fun _ _ => false, fun _ => none)
def pb_0 : pb_S := (st_0, none, none, false)
theorem st_wf0 : st_wf st_0 := by
  have z0 : ∀ k, k < sa_D st_0 0 0 → False := fun k hk => Nat.not_lt_zero _ hk
  refine ⟨⟨⟨Nat.le_refl _, by decide⟩, fun n p _ h => (by cases h), fun p c _ h => (by cases h), fun p _ => List.nodup_nil, fun n h _ hh => (by cases hh), fun n s _ hs => (by cases hs), fun n hn h4 => absurd h4 (by show ¬ (3 : Int32) = 4; decide), ⟨rfl, fun n hn h0 => ?_⟩, fun n _ => rfl⟩, Nat.zero_le _, fun k hk => (z0 k hk).elim, fun s _ => Nat.zero_le _, fun s j _ hj => absurd hj (Nat.not_lt_zero _), (by decide), fun n b _ hb => (by cases hb)⟩
  have : n < 1 := hn
  omega
def rArr : List (Nat × Nat × Nat) := [(702, 0, 24), (703, 0, 24), (704, 0, 24), (705, 0, 24), (706, 0, 24), (707, 1, 24), (708, 0, 24), (709, 0, 576), (711, 0, 40), (712, 0, 40), (713, 0, 40), (714, 0, 40), (715, 1, 40), (716, 0, 8), (717, 0, 40), (718, 0, 40), (719, 1, 24), (720, 2, 24), (721, 2, 24), (722, 2, 24), (723, 2, 24), (724, 2, 24), (725, 0, 24), (726, 0, 24), (728, 0, 64), (733, 0, 160), (737, 0, 96), (738, 0, 96), (739, 0, 4), (740, 0, 4), (741, 0, 4), (742, 0, 4), (743, 0, 4), (744, 0, 4), (745, 0, 4), (746, 1, 4), (747, 1, 4), (748, 1, 4), (749, 0, 4), (750, 0, 4), (751, 0, 4)]
theorem rArr_nd : (rArr.map Prod.fst).Nodup := by decide
theorem rArr_ne {i k : Nat} {e f : Nat × Nat × Nat} (hi : rArr[i]? = some e) (hk : rArr[k]? = some f) (h : i < k) : e.1 ≠ f.1 := by
  intro z
  have hp := rArr_nd
  unfold List.Nodup at hp
  obtain ⟨li, ei⟩ := List.getElem?_eq_some_iff.mp hi
  obtain ⟨lk, ek⟩ := List.getElem?_eq_some_iff.mp hk
  have := List.pairwise_iff_getElem.mp hp i k (by rw [List.length_map]; exact li) (by rw [List.length_map]; exact lk) h
  rw [List.getElem_map, List.getElem_map, ei, ek] at this
  exact this z
theorem rArr_7 {i : Nat} {e : Nat × Nat × Nat} (hi : rArr[i]? = some e) : 702 ≤ e.1 := by
  have : ∀ e ∈ rArr, 702 ≤ e.1 := by decide
  exact this e (List.mem_of_getElem? hi)
def IN (m k : Nat) (σ : en_S) : Prop := en_cl σ m = some 7 ∧ en_nx σ = m + 1 + k ∧ fresh σ ∧ ∀ i e, i < k → rArr[i]? = some e → en_fr σ e.1 m = some (m + 1 + i) ∧ en_al σ (m + 1 + i) = some (e.2.1, e.2.2) ∧ ∀ z, en_ai σ (m + 1 + i) z = 0
def i7F (m f a : Nat) : Prop := a ≠ m
theorem IN.st {m k : Nat} {σ : en_S} (h : IN m k σ) {f t n : Nat} (hk : rArr[k]? = some (f, t, n)) : IN m (k + 1) (en_sfr (en_newa σ t n) f m (some (en_nx σ))) := by
  obtain ⟨h1, h2, h3, h4⟩ := h
  refine ⟨h1, by show en_nx σ + 1 = _; omega, fresh_newa h3, fun i e hi he => ?_⟩
  by_cases ei : i = k
  · rw [ei, hk] at he
    cases he
    rw [eg_fr_sfr, if_pos ⟨rfl, rfl⟩, eg_al_sfr, eg_al_newa, if_pos (by omega)]
    refine ⟨by rw [h2, ei], rfl, fun z => ?_⟩
    rw [eg_ai_sfr, eg_ai_newa, if_pos (by omega)]
  · obtain ⟨g1, g2, g3⟩ := h4 i e (by omega) he
    have hne := rArr_ne he hk (by omega)
    rw [eg_fr_sfr, if_neg (fun z => hne z.1), eg_fr_newa, eg_al_sfr, eg_al_newa, if_neg (by omega)]
    refine ⟨g1, g2, fun z => ?_⟩
    rw [eg_ai_sfr, eg_ai_newa, if_neg (by omega)]; exact g3 z
theorem IN.fi {m k : Nat} {σ : en_S} (h : IN m k σ) (f : Nat) (v : Int32) : IN m k (en_sfi σ f m v) := h
def IQ (σ0 : en_S) (m k ns : Nat) (x y z : Int32) (σ : en_S) : Prop := IN m k σ ∧ en_ns σ = en_ns σ0 + ns ∧ ag σ0 σ (i7F m) (fun _ => True) ∧ ∀ f, en_fi σ f m = if f = 730 then x else if f = 729 then y else if f = 701 then z else 0
theorem IQ.st {σ0 : en_S} {m k ns : Nat} {x y z : Int32} {σ : en_S} (h : IQ σ0 m k ns x y z σ) {f t n ns' : Nat} (hk : rArr[k]? = some (f, t, n)) (hn : ns + n = ns') : IQ σ0 m (k + 1) ns' x y z (en_sfr (en_newa σ t n) f m (some (en_nx σ))) := by
  obtain ⟨h1, h2, h3, h4⟩ := h
  exact ⟨h1.st hk, by show en_ns σ + n = _; rw [h2, ← hn, Nat.add_assoc], h3.tr (ag_newa.tr (ag_sfr (fun a z => z))), h4⟩
def P_X7_init (G : en_G)  (g : (Nat)) (as : List en_V) (σ : en_S) : Prop := (IN (g) 0 σ ∧ (∀ f, en_fi σ f (g) = 0) ∧ en_nx σ + 41 ≤ G.2.2.2.2.1 ∧ en_ns σ + 1692 ≤ G.2.2.2.2.2) ∧ as = [en_R (some (g))]
def C_X7_init (G : en_G)  : en_C := en_gh (P_X7_init G) (fun g as σ v σ' => RZ (g) pb_0 σ' ∧ ag σ σ' (i7F (g)) (fun _ => True) ∧ en_nx σ' = (g) + 42 ∧ en_ns σ' = en_ns σ + 1692 ∧ v = none)
theorem pr_X7_init {G : en_G}  : ∀ as σ, (C_X7_init G).1 as σ → ∃ b tl, as = en_R (some b) :: tl ∧ tl.length = 0 := fun as σ ⟨g, h1, h2⟩ => ⟨_, _, h2, rfl⟩
theorem cu_X7_init {G : en_G}  {m : Nat} {σ : en_S} (hp : IN m 0 σ ∧ (∀ f, en_fi σ f m = 0) ∧ en_nx σ + 41 ≤ G.2.2.2.2.1 ∧ en_ns σ + 1692 ≤ G.2.2.2.2.2) : en_Us (C_X7_init G) [en_R (some m)] σ (fun v σ' => RZ m pb_0 σ' ∧ ag σ σ' (i7F m) (fun _ => True) ∧ en_nx σ' = m + 42 ∧ en_ns σ' = en_ns σ + 1692 ∧ v = none) := ⟨⟨(m), hp, rfl⟩, fun v σ' q => q (m) ⟨hp, rfl⟩⟩
def ca_X7_init (G : en_G) : List (Nat × Nat × en_C) := [(1, 6, en_Cobj)]
def X_X7_init (G : en_G) (q : Option en_V → en_S → Prop) : en_X := en_mk G cX7_init (en_lk fi7) (en_lk nw7) (en_lk aw7) (en_lk dc7) (en_lk (ca_X7_init G)) 0 true q
theorem d_X7_init_0 : decode cX7_init 0 = .ok (.aload_n 0, 1) := by decide +kernel
theorem j_X7_init_0 {G : en_G} {q : Option en_V → en_S → Prop}  {x0 : Option Nat} {σ : en_S} : en_J (X_X7_init G q) 0 [en_R x0] [] σ ↔ en_J (X_X7_init G q) 1 [en_R x0] [en_R x0] σ := en_j1 d_X7_init_0 rfl rfl
theorem d_X7_init_1 : decode cX7_init 1 = .ok (.invokespecial 1, 3) := by decide +kernel
theorem j_X7_init_1 {G : en_G} {q : Option en_V → en_S → Prop}  {l0 : en_V} {a0 : Option Nat} {σ : en_S} : en_J (X_X7_init G q) 1 [l0] [en_R a0] σ ↔ en_Cobj.1 [en_R a0] σ ∧ ∀ (r : Option en_V) (σ' : en_S), en_Cobj.2 [en_R a0] σ r σ' → en_J (X_X7_init G q) 4 [l0] (r.toList ++ []) σ' := en_jk d_X7_init_1 rfl ⟨fun h => h.2.2.2.2, fun h => ⟨rfl, rfl, Nat.le_of_ble_eq_true rfl, Nat.le_of_ble_eq_true rfl, h⟩⟩
theorem d_X7_init_4 : decode cX7_init 4 = .ok (.aload_n 0, 1) := by decide +kernel
theorem j_X7_init_4 {G : en_G} {q : Option en_V → en_S → Prop}  {x0 : Option Nat} {σ : en_S} : en_J (X_X7_init G q) 4 [en_R x0] [] σ ↔ en_J (X_X7_init G q) 5 [en_R x0] [en_R x0] σ := en_j1 d_X7_init_4 rfl rfl
theorem d_X7_init_5 : decode cX7_init 5 = .ok (.iconst 1, 1) := by decide +kernel
theorem j_X7_init_5 {G : en_G} {q : Option en_V → en_S → Prop}  {l0 : en_V} {a0 : Option Nat} {σ : en_S} : en_J (X_X7_init G q) 5 [l0] [en_R a0] σ ↔ en_J (X_X7_init G q) 6 [l0] [en_I 1, en_R a0] σ := ej_iconst d_X7_init_5 (by decide +kernel)
theorem d_X7_init_6 : decode cX7_init 6 = .ok (.putfield 7, 3) := by decide +kernel
theorem j_X7_init_6 {G : en_G} {q : Option en_V → en_S → Prop}  {l0 : en_V} {a0 : Int32} {a1 : Option Nat} {σ : en_S} : en_J (X_X7_init G q) 6 [l0] [en_I a0, en_R a1] σ ↔ ∃ a, a1 = some a ∧ en_cl σ a = some 7 ∧ en_J (X_X7_init G q) 9 [l0] [] (en_sfi σ 701 a a0) := en_jg (st := fun o => [en_I a0, en_R o]) (st' := fun _ => []) (σ' := fun a => en_sfi σ 701 a a0) d_X7_init_6 rfl (fun a => rfl) (fun a => ⟨fun h => h.2.1, fun h => ⟨rfl, h, trivial, fun z => absurd z (by decide +kernel)⟩⟩)
theorem d_X7_init_9 : decode cX7_init 9 = .ok (.aload_n 0, 1) := by decide +kernel
theorem j_X7_init_9 {G : en_G} {q : Option en_V → en_S → Prop}  {x0 : Option Nat} {σ : en_S} : en_J (X_X7_init G q) 9 [en_R x0] [] σ ↔ en_J (X_X7_init G q) 10 [en_R x0] [en_R x0] σ := en_j1 d_X7_init_9 rfl rfl
theorem d_X7_init_10 : decode cX7_init 10 = .ok (.bipush 24, 2) := by decide +kernel
theorem j_X7_init_10 {G : en_G} {q : Option en_V → en_S → Prop}  {l0 : en_V} {a0 : Option Nat} {σ : en_S} : en_J (X_X7_init G q) 10 [l0] [en_R a0] σ ↔ en_J (X_X7_init G q) 12 [l0] [en_I 24, en_R a0] σ := ej_bipush d_X7_init_10 (by decide +kernel)
theorem d_X7_init_12 : decode cX7_init 12 = .ok (.newarray .int, 2) := by decide +kernel
theorem j_X7_init_12 {G : en_G} {q : Option en_V → en_S → Prop}  {l0 : en_V} {a1 : Option Nat} {σ : en_S} : en_J (X_X7_init G q) 12 [l0] [en_I 24, en_R a1] σ ↔ (en_nx σ + 1 ≤ G.2.2.2.2.1 ∧ en_ns σ + 24 ≤ G.2.2.2.2.2) ∧ en_J (X_X7_init G q) 14 [l0] [en_R (some (en_nx σ)), en_R a1] (en_newa σ 0 24) := ej_newa (m := 2) (t := 0) d_X7_init_12 rfl rfl (by decide +kernel) (by decide +kernel) (by decide)
theorem d_X7_init_14 : decode cX7_init 14 = .ok (.putfield 13, 3) := by decide +kernel
theorem j_X7_init_14 {G : en_G} {q : Option en_V → en_S → Prop}  {l0 : en_V} {a0 : Option Nat} {a1 : Option Nat} {σ : en_S} : en_J (X_X7_init G q) 14 [l0] [en_R a0, en_R a1] σ ↔ ∃ a, a1 = some a ∧ en_cl σ a = some 7 ∧ en_J (X_X7_init G q) 17 [l0] [] (en_sfr σ 702 a a0) := en_jg (st := fun o => [en_R a0, en_R o]) (st' := fun _ => []) (σ' := fun a => en_sfr σ 702 a a0) d_X7_init_14 rfl (fun a => rfl) (fun a => ⟨fun h => h.2.1, fun h => ⟨rfl, h, trivial, fun _ => rfl⟩⟩)
theorem d_X7_init_17 : decode cX7_init 17 = .ok (.aload_n 0, 1) := by decide +kernel
theorem j_X7_init_17 {G : en_G} {q : Option en_V → en_S → Prop}  {x0 : Option Nat} {σ : en_S} : en_J (X_X7_init G q) 17 [en_R x0] [] σ ↔ en_J (X_X7_init G q) 18 [en_R x0] [en_R x0] σ := en_j1 d_X7_init_17 rfl rfl
theorem d_X7_init_18 : decode cX7_init 18 = .ok (.bipush 24, 2) := by decide +kernel
theorem j_X7_init_18 {G : en_G} {q : Option en_V → en_S → Prop}  {l0 : en_V} {a0 : Option Nat} {σ : en_S} : en_J (X_X7_init G q) 18 [l0] [en_R a0] σ ↔ en_J (X_X7_init G q) 20 [l0] [en_I 24, en_R a0] σ := ej_bipush d_X7_init_18 (by decide +kernel)
theorem d_X7_init_20 : decode cX7_init 20 = .ok (.newarray .int, 2) := by decide +kernel
theorem j_X7_init_20 {G : en_G} {q : Option en_V → en_S → Prop}  {l0 : en_V} {a1 : Option Nat} {σ : en_S} : en_J (X_X7_init G q) 20 [l0] [en_I 24, en_R a1] σ ↔ (en_nx σ + 1 ≤ G.2.2.2.2.1 ∧ en_ns σ + 24 ≤ G.2.2.2.2.2) ∧ en_J (X_X7_init G q) 22 [l0] [en_R (some (en_nx σ)), en_R a1] (en_newa σ 0 24) := ej_newa (m := 2) (t := 0) d_X7_init_20 rfl rfl (by decide +kernel) (by decide +kernel) (by decide)
theorem d_X7_init_22 : decode cX7_init 22 = .ok (.putfield 17, 3) := by decide +kernel
theorem j_X7_init_22 {G : en_G} {q : Option en_V → en_S → Prop}  {l0 : en_V} {a0 : Option Nat} {a1 : Option Nat} {σ : en_S} : en_J (X_X7_init G q) 22 [l0] [en_R a0, en_R a1] σ ↔ ∃ a, a1 = some a ∧ en_cl σ a = some 7 ∧ en_J (X_X7_init G q) 25 [l0] [] (en_sfr σ 703 a a0) := en_jg (st := fun o => [en_R a0, en_R o]) (st' := fun _ => []) (σ' := fun a => en_sfr σ 703 a a0) d_X7_init_22 rfl (fun a => rfl) (fun a => ⟨fun h => h.2.1, fun h => ⟨rfl, h, trivial, fun _ => rfl⟩⟩)
theorem d_X7_init_25 : decode cX7_init 25 = .ok (.aload_n 0, 1) := by decide +kernel
theorem j_X7_init_25 {G : en_G} {q : Option en_V → en_S → Prop}  {x0 : Option Nat} {σ : en_S} : en_J (X_X7_init G q) 25 [en_R x0] [] σ ↔ en_J (X_X7_init G q) 26 [en_R x0] [en_R x0] σ := en_j1 d_X7_init_25 rfl rfl
theorem d_X7_init_26 : decode cX7_init 26 = .ok (.bipush 24, 2) := by decide +kernel
theorem j_X7_init_26 {G : en_G} {q : Option en_V → en_S → Prop}  {l0 : en_V} {a0 : Option Nat} {σ : en_S} : en_J (X_X7_init G q) 26 [l0] [en_R a0] σ ↔ en_J (X_X7_init G q) 28 [l0] [en_I 24, en_R a0] σ := ej_bipush d_X7_init_26 (by decide +kernel)
theorem d_X7_init_28 : decode cX7_init 28 = .ok (.newarray .int, 2) := by decide +kernel
theorem j_X7_init_28 {G : en_G} {q : Option en_V → en_S → Prop}  {l0 : en_V} {a1 : Option Nat} {σ : en_S} : en_J (X_X7_init G q) 28 [l0] [en_I 24, en_R a1] σ ↔ (en_nx σ + 1 ≤ G.2.2.2.2.1 ∧ en_ns σ + 24 ≤ G.2.2.2.2.2) ∧ en_J (X_X7_init G q) 30 [l0] [en_R (some (en_nx σ)), en_R a1] (en_newa σ 0 24) := ej_newa (m := 2) (t := 0) d_X7_init_28 rfl rfl (by decide +kernel) (by decide +kernel) (by decide)
theorem d_X7_init_30 : decode cX7_init 30 = .ok (.putfield 20, 3) := by decide +kernel
theorem j_X7_init_30 {G : en_G} {q : Option en_V → en_S → Prop}  {l0 : en_V} {a0 : Option Nat} {a1 : Option Nat} {σ : en_S} : en_J (X_X7_init G q) 30 [l0] [en_R a0, en_R a1] σ ↔ ∃ a, a1 = some a ∧ en_cl σ a = some 7 ∧ en_J (X_X7_init G q) 33 [l0] [] (en_sfr σ 704 a a0) := en_jg (st := fun o => [en_R a0, en_R o]) (st' := fun _ => []) (σ' := fun a => en_sfr σ 704 a a0) d_X7_init_30 rfl (fun a => rfl) (fun a => ⟨fun h => h.2.1, fun h => ⟨rfl, h, trivial, fun _ => rfl⟩⟩)
theorem d_X7_init_33 : decode cX7_init 33 = .ok (.aload_n 0, 1) := by decide +kernel
theorem j_X7_init_33 {G : en_G} {q : Option en_V → en_S → Prop}  {x0 : Option Nat} {σ : en_S} : en_J (X_X7_init G q) 33 [en_R x0] [] σ ↔ en_J (X_X7_init G q) 34 [en_R x0] [en_R x0] σ := en_j1 d_X7_init_33 rfl rfl
theorem d_X7_init_34 : decode cX7_init 34 = .ok (.bipush 24, 2) := by decide +kernel
theorem j_X7_init_34 {G : en_G} {q : Option en_V → en_S → Prop}  {l0 : en_V} {a0 : Option Nat} {σ : en_S} : en_J (X_X7_init G q) 34 [l0] [en_R a0] σ ↔ en_J (X_X7_init G q) 36 [l0] [en_I 24, en_R a0] σ := ej_bipush d_X7_init_34 (by decide +kernel)
theorem d_X7_init_36 : decode cX7_init 36 = .ok (.newarray .int, 2) := by decide +kernel
theorem j_X7_init_36 {G : en_G} {q : Option en_V → en_S → Prop}  {l0 : en_V} {a1 : Option Nat} {σ : en_S} : en_J (X_X7_init G q) 36 [l0] [en_I 24, en_R a1] σ ↔ (en_nx σ + 1 ≤ G.2.2.2.2.1 ∧ en_ns σ + 24 ≤ G.2.2.2.2.2) ∧ en_J (X_X7_init G q) 38 [l0] [en_R (some (en_nx σ)), en_R a1] (en_newa σ 0 24) := ej_newa (m := 2) (t := 0) d_X7_init_36 rfl rfl (by decide +kernel) (by decide +kernel) (by decide)
theorem d_X7_init_38 : decode cX7_init 38 = .ok (.putfield 23, 3) := by decide +kernel
theorem j_X7_init_38 {G : en_G} {q : Option en_V → en_S → Prop}  {l0 : en_V} {a0 : Option Nat} {a1 : Option Nat} {σ : en_S} : en_J (X_X7_init G q) 38 [l0] [en_R a0, en_R a1] σ ↔ ∃ a, a1 = some a ∧ en_cl σ a = some 7 ∧ en_J (X_X7_init G q) 41 [l0] [] (en_sfr σ 705 a a0) := en_jg (st := fun o => [en_R a0, en_R o]) (st' := fun _ => []) (σ' := fun a => en_sfr σ 705 a a0) d_X7_init_38 rfl (fun a => rfl) (fun a => ⟨fun h => h.2.1, fun h => ⟨rfl, h, trivial, fun _ => rfl⟩⟩)
theorem d_X7_init_41 : decode cX7_init 41 = .ok (.aload_n 0, 1) := by decide +kernel
theorem j_X7_init_41 {G : en_G} {q : Option en_V → en_S → Prop}  {x0 : Option Nat} {σ : en_S} : en_J (X_X7_init G q) 41 [en_R x0] [] σ ↔ en_J (X_X7_init G q) 42 [en_R x0] [en_R x0] σ := en_j1 d_X7_init_41 rfl rfl
theorem d_X7_init_42 : decode cX7_init 42 = .ok (.bipush 24, 2) := by decide +kernel
theorem j_X7_init_42 {G : en_G} {q : Option en_V → en_S → Prop}  {l0 : en_V} {a0 : Option Nat} {σ : en_S} : en_J (X_X7_init G q) 42 [l0] [en_R a0] σ ↔ en_J (X_X7_init G q) 44 [l0] [en_I 24, en_R a0] σ := ej_bipush d_X7_init_42 (by decide +kernel)
theorem d_X7_init_44 : decode cX7_init 44 = .ok (.newarray .int, 2) := by decide +kernel
theorem j_X7_init_44 {G : en_G} {q : Option en_V → en_S → Prop}  {l0 : en_V} {a1 : Option Nat} {σ : en_S} : en_J (X_X7_init G q) 44 [l0] [en_I 24, en_R a1] σ ↔ (en_nx σ + 1 ≤ G.2.2.2.2.1 ∧ en_ns σ + 24 ≤ G.2.2.2.2.2) ∧ en_J (X_X7_init G q) 46 [l0] [en_R (some (en_nx σ)), en_R a1] (en_newa σ 0 24) := ej_newa (m := 2) (t := 0) d_X7_init_44 rfl rfl (by decide +kernel) (by decide +kernel) (by decide)
theorem d_X7_init_46 : decode cX7_init 46 = .ok (.putfield 26, 3) := by decide +kernel
theorem j_X7_init_46 {G : en_G} {q : Option en_V → en_S → Prop}  {l0 : en_V} {a0 : Option Nat} {a1 : Option Nat} {σ : en_S} : en_J (X_X7_init G q) 46 [l0] [en_R a0, en_R a1] σ ↔ ∃ a, a1 = some a ∧ en_cl σ a = some 7 ∧ en_J (X_X7_init G q) 49 [l0] [] (en_sfr σ 706 a a0) := en_jg (st := fun o => [en_R a0, en_R o]) (st' := fun _ => []) (σ' := fun a => en_sfr σ 706 a a0) d_X7_init_46 rfl (fun a => rfl) (fun a => ⟨fun h => h.2.1, fun h => ⟨rfl, h, trivial, fun _ => rfl⟩⟩)
theorem d_X7_init_49 : decode cX7_init 49 = .ok (.aload_n 0, 1) := by decide +kernel
theorem j_X7_init_49 {G : en_G} {q : Option en_V → en_S → Prop}  {x0 : Option Nat} {σ : en_S} : en_J (X_X7_init G q) 49 [en_R x0] [] σ ↔ en_J (X_X7_init G q) 50 [en_R x0] [en_R x0] σ := en_j1 d_X7_init_49 rfl rfl
theorem d_X7_init_50 : decode cX7_init 50 = .ok (.bipush 24, 2) := by decide +kernel
theorem j_X7_init_50 {G : en_G} {q : Option en_V → en_S → Prop}  {l0 : en_V} {a0 : Option Nat} {σ : en_S} : en_J (X_X7_init G q) 50 [l0] [en_R a0] σ ↔ en_J (X_X7_init G q) 52 [l0] [en_I 24, en_R a0] σ := ej_bipush d_X7_init_50 (by decide +kernel)
theorem d_X7_init_52 : decode cX7_init 52 = .ok (.newarray .boolean, 2) := by decide +kernel
theorem j_X7_init_52 {G : en_G} {q : Option en_V → en_S → Prop}  {l0 : en_V} {a1 : Option Nat} {σ : en_S} : en_J (X_X7_init G q) 52 [l0] [en_I 24, en_R a1] σ ↔ (en_nx σ + 1 ≤ G.2.2.2.2.1 ∧ en_ns σ + 24 ≤ G.2.2.2.2.2) ∧ en_J (X_X7_init G q) 54 [l0] [en_R (some (en_nx σ)), en_R a1] (en_newa σ 1 24) := ej_newa (m := 2) (t := 1) d_X7_init_52 rfl rfl (by decide +kernel) (by decide +kernel) (by decide)
theorem d_X7_init_54 : decode cX7_init 54 = .ok (.putfield 29, 3) := by decide +kernel
theorem j_X7_init_54 {G : en_G} {q : Option en_V → en_S → Prop}  {l0 : en_V} {a0 : Option Nat} {a1 : Option Nat} {σ : en_S} : en_J (X_X7_init G q) 54 [l0] [en_R a0, en_R a1] σ ↔ ∃ a, a1 = some a ∧ en_cl σ a = some 7 ∧ en_J (X_X7_init G q) 57 [l0] [] (en_sfr σ 707 a a0) := en_jg (st := fun o => [en_R a0, en_R o]) (st' := fun _ => []) (σ' := fun a => en_sfr σ 707 a a0) d_X7_init_54 rfl (fun a => rfl) (fun a => ⟨fun h => h.2.1, fun h => ⟨rfl, h, trivial, fun _ => rfl⟩⟩)
theorem d_X7_init_57 : decode cX7_init 57 = .ok (.aload_n 0, 1) := by decide +kernel
theorem j_X7_init_57 {G : en_G} {q : Option en_V → en_S → Prop}  {x0 : Option Nat} {σ : en_S} : en_J (X_X7_init G q) 57 [en_R x0] [] σ ↔ en_J (X_X7_init G q) 58 [en_R x0] [en_R x0] σ := en_j1 d_X7_init_57 rfl rfl
theorem d_X7_init_58 : decode cX7_init 58 = .ok (.bipush 24, 2) := by decide +kernel
theorem j_X7_init_58 {G : en_G} {q : Option en_V → en_S → Prop}  {l0 : en_V} {a0 : Option Nat} {σ : en_S} : en_J (X_X7_init G q) 58 [l0] [en_R a0] σ ↔ en_J (X_X7_init G q) 60 [l0] [en_I 24, en_R a0] σ := ej_bipush d_X7_init_58 (by decide +kernel)
theorem d_X7_init_60 : decode cX7_init 60 = .ok (.newarray .int, 2) := by decide +kernel
theorem j_X7_init_60 {G : en_G} {q : Option en_V → en_S → Prop}  {l0 : en_V} {a1 : Option Nat} {σ : en_S} : en_J (X_X7_init G q) 60 [l0] [en_I 24, en_R a1] σ ↔ (en_nx σ + 1 ≤ G.2.2.2.2.1 ∧ en_ns σ + 24 ≤ G.2.2.2.2.2) ∧ en_J (X_X7_init G q) 62 [l0] [en_R (some (en_nx σ)), en_R a1] (en_newa σ 0 24) := ej_newa (m := 2) (t := 0) d_X7_init_60 rfl rfl (by decide +kernel) (by decide +kernel) (by decide)
theorem d_X7_init_62 : decode cX7_init 62 = .ok (.putfield 33, 3) := by decide +kernel
theorem j_X7_init_62 {G : en_G} {q : Option en_V → en_S → Prop}  {l0 : en_V} {a0 : Option Nat} {a1 : Option Nat} {σ : en_S} : en_J (X_X7_init G q) 62 [l0] [en_R a0, en_R a1] σ ↔ ∃ a, a1 = some a ∧ en_cl σ a = some 7 ∧ en_J (X_X7_init G q) 65 [l0] [] (en_sfr σ 708 a a0) := en_jg (st := fun o => [en_R a0, en_R o]) (st' := fun _ => []) (σ' := fun a => en_sfr σ 708 a a0) d_X7_init_62 rfl (fun a => rfl) (fun a => ⟨fun h => h.2.1, fun h => ⟨rfl, h, trivial, fun _ => rfl⟩⟩)
theorem d_X7_init_65 : decode cX7_init 65 = .ok (.aload_n 0, 1) := by decide +kernel
theorem j_X7_init_65 {G : en_G} {q : Option en_V → en_S → Prop}  {x0 : Option Nat} {σ : en_S} : en_J (X_X7_init G q) 65 [en_R x0] [] σ ↔ en_J (X_X7_init G q) 66 [en_R x0] [en_R x0] σ := en_j1 d_X7_init_65 rfl rfl
theorem d_X7_init_66 : decode cX7_init 66 = .ok (.sipush 576, 3) := by decide +kernel
theorem j_X7_init_66 {G : en_G} {q : Option en_V → en_S → Prop}  {l0 : en_V} {a0 : Option Nat} {σ : en_S} : en_J (X_X7_init G q) 66 [l0] [en_R a0] σ ↔ en_J (X_X7_init G q) 69 [l0] [en_I 576, en_R a0] σ := ej_sipush d_X7_init_66 (by decide +kernel)
theorem d_X7_init_69 : decode cX7_init 69 = .ok (.newarray .int, 2) := by decide +kernel
theorem j_X7_init_69 {G : en_G} {q : Option en_V → en_S → Prop}  {l0 : en_V} {a1 : Option Nat} {σ : en_S} : en_J (X_X7_init G q) 69 [l0] [en_I 576, en_R a1] σ ↔ (en_nx σ + 1 ≤ G.2.2.2.2.1 ∧ en_ns σ + 576 ≤ G.2.2.2.2.2) ∧ en_J (X_X7_init G q) 71 [l0] [en_R (some (en_nx σ)), en_R a1] (en_newa σ 0 576) := ej_newa (m := 2) (t := 0) d_X7_init_69 rfl rfl (by decide +kernel) (by decide +kernel) (by decide)
theorem d_X7_init_71 : decode cX7_init 71 = .ok (.putfield 36, 3) := by decide +kernel
theorem j_X7_init_71 {G : en_G} {q : Option en_V → en_S → Prop}  {l0 : en_V} {a0 : Option Nat} {a1 : Option Nat} {σ : en_S} : en_J (X_X7_init G q) 71 [l0] [en_R a0, en_R a1] σ ↔ ∃ a, a1 = some a ∧ en_cl σ a = some 7 ∧ en_J (X_X7_init G q) 74 [l0] [] (en_sfr σ 709 a a0) := en_jg (st := fun o => [en_R a0, en_R o]) (st' := fun _ => []) (σ' := fun a => en_sfr σ 709 a a0) d_X7_init_71 rfl (fun a => rfl) (fun a => ⟨fun h => h.2.1, fun h => ⟨rfl, h, trivial, fun _ => rfl⟩⟩)
theorem d_X7_init_74 : decode cX7_init 74 = .ok (.aload_n 0, 1) := by decide +kernel
theorem j_X7_init_74 {G : en_G} {q : Option en_V → en_S → Prop}  {x0 : Option Nat} {σ : en_S} : en_J (X_X7_init G q) 74 [en_R x0] [] σ ↔ en_J (X_X7_init G q) 75 [en_R x0] [en_R x0] σ := en_j1 d_X7_init_74 rfl rfl
theorem d_X7_init_75 : decode cX7_init 75 = .ok (.bipush 40, 2) := by decide +kernel
theorem j_X7_init_75 {G : en_G} {q : Option en_V → en_S → Prop}  {l0 : en_V} {a0 : Option Nat} {σ : en_S} : en_J (X_X7_init G q) 75 [l0] [en_R a0] σ ↔ en_J (X_X7_init G q) 77 [l0] [en_I 40, en_R a0] σ := ej_bipush d_X7_init_75 (by decide +kernel)
theorem d_X7_init_77 : decode cX7_init 77 = .ok (.newarray .int, 2) := by decide +kernel
theorem j_X7_init_77 {G : en_G} {q : Option en_V → en_S → Prop}  {l0 : en_V} {a1 : Option Nat} {σ : en_S} : en_J (X_X7_init G q) 77 [l0] [en_I 40, en_R a1] σ ↔ (en_nx σ + 1 ≤ G.2.2.2.2.1 ∧ en_ns σ + 40 ≤ G.2.2.2.2.2) ∧ en_J (X_X7_init G q) 79 [l0] [en_R (some (en_nx σ)), en_R a1] (en_newa σ 0 40) := ej_newa (m := 2) (t := 0) d_X7_init_77 rfl rfl (by decide +kernel) (by decide +kernel) (by decide)
theorem d_X7_init_79 : decode cX7_init 79 = .ok (.putfield 39, 3) := by decide +kernel
theorem j_X7_init_79 {G : en_G} {q : Option en_V → en_S → Prop}  {l0 : en_V} {a0 : Option Nat} {a1 : Option Nat} {σ : en_S} : en_J (X_X7_init G q) 79 [l0] [en_R a0, en_R a1] σ ↔ ∃ a, a1 = some a ∧ en_cl σ a = some 7 ∧ en_J (X_X7_init G q) 82 [l0] [] (en_sfr σ 711 a a0) := en_jg (st := fun o => [en_R a0, en_R o]) (st' := fun _ => []) (σ' := fun a => en_sfr σ 711 a a0) d_X7_init_79 rfl (fun a => rfl) (fun a => ⟨fun h => h.2.1, fun h => ⟨rfl, h, trivial, fun _ => rfl⟩⟩)
theorem d_X7_init_82 : decode cX7_init 82 = .ok (.aload_n 0, 1) := by decide +kernel
theorem j_X7_init_82 {G : en_G} {q : Option en_V → en_S → Prop}  {x0 : Option Nat} {σ : en_S} : en_J (X_X7_init G q) 82 [en_R x0] [] σ ↔ en_J (X_X7_init G q) 83 [en_R x0] [en_R x0] σ := en_j1 d_X7_init_82 rfl rfl
theorem d_X7_init_83 : decode cX7_init 83 = .ok (.bipush 40, 2) := by decide +kernel
theorem j_X7_init_83 {G : en_G} {q : Option en_V → en_S → Prop}  {l0 : en_V} {a0 : Option Nat} {σ : en_S} : en_J (X_X7_init G q) 83 [l0] [en_R a0] σ ↔ en_J (X_X7_init G q) 85 [l0] [en_I 40, en_R a0] σ := ej_bipush d_X7_init_83 (by decide +kernel)
theorem d_X7_init_85 : decode cX7_init 85 = .ok (.newarray .int, 2) := by decide +kernel
theorem j_X7_init_85 {G : en_G} {q : Option en_V → en_S → Prop}  {l0 : en_V} {a1 : Option Nat} {σ : en_S} : en_J (X_X7_init G q) 85 [l0] [en_I 40, en_R a1] σ ↔ (en_nx σ + 1 ≤ G.2.2.2.2.1 ∧ en_ns σ + 40 ≤ G.2.2.2.2.2) ∧ en_J (X_X7_init G q) 87 [l0] [en_R (some (en_nx σ)), en_R a1] (en_newa σ 0 40) := ej_newa (m := 2) (t := 0) d_X7_init_85 rfl rfl (by decide +kernel) (by decide +kernel) (by decide)
theorem d_X7_init_87 : decode cX7_init 87 = .ok (.putfield 42, 3) := by decide +kernel
theorem j_X7_init_87 {G : en_G} {q : Option en_V → en_S → Prop}  {l0 : en_V} {a0 : Option Nat} {a1 : Option Nat} {σ : en_S} : en_J (X_X7_init G q) 87 [l0] [en_R a0, en_R a1] σ ↔ ∃ a, a1 = some a ∧ en_cl σ a = some 7 ∧ en_J (X_X7_init G q) 90 [l0] [] (en_sfr σ 712 a a0) := en_jg (st := fun o => [en_R a0, en_R o]) (st' := fun _ => []) (σ' := fun a => en_sfr σ 712 a a0) d_X7_init_87 rfl (fun a => rfl) (fun a => ⟨fun h => h.2.1, fun h => ⟨rfl, h, trivial, fun _ => rfl⟩⟩)
theorem d_X7_init_90 : decode cX7_init 90 = .ok (.aload_n 0, 1) := by decide +kernel
theorem j_X7_init_90 {G : en_G} {q : Option en_V → en_S → Prop}  {x0 : Option Nat} {σ : en_S} : en_J (X_X7_init G q) 90 [en_R x0] [] σ ↔ en_J (X_X7_init G q) 91 [en_R x0] [en_R x0] σ := en_j1 d_X7_init_90 rfl rfl
theorem d_X7_init_91 : decode cX7_init 91 = .ok (.bipush 40, 2) := by decide +kernel
theorem j_X7_init_91 {G : en_G} {q : Option en_V → en_S → Prop}  {l0 : en_V} {a0 : Option Nat} {σ : en_S} : en_J (X_X7_init G q) 91 [l0] [en_R a0] σ ↔ en_J (X_X7_init G q) 93 [l0] [en_I 40, en_R a0] σ := ej_bipush d_X7_init_91 (by decide +kernel)
theorem d_X7_init_93 : decode cX7_init 93 = .ok (.newarray .int, 2) := by decide +kernel
theorem j_X7_init_93 {G : en_G} {q : Option en_V → en_S → Prop}  {l0 : en_V} {a1 : Option Nat} {σ : en_S} : en_J (X_X7_init G q) 93 [l0] [en_I 40, en_R a1] σ ↔ (en_nx σ + 1 ≤ G.2.2.2.2.1 ∧ en_ns σ + 40 ≤ G.2.2.2.2.2) ∧ en_J (X_X7_init G q) 95 [l0] [en_R (some (en_nx σ)), en_R a1] (en_newa σ 0 40) := ej_newa (m := 2) (t := 0) d_X7_init_93 rfl rfl (by decide +kernel) (by decide +kernel) (by decide)
theorem d_X7_init_95 : decode cX7_init 95 = .ok (.putfield 45, 3) := by decide +kernel
theorem j_X7_init_95 {G : en_G} {q : Option en_V → en_S → Prop}  {l0 : en_V} {a0 : Option Nat} {a1 : Option Nat} {σ : en_S} : en_J (X_X7_init G q) 95 [l0] [en_R a0, en_R a1] σ ↔ ∃ a, a1 = some a ∧ en_cl σ a = some 7 ∧ en_J (X_X7_init G q) 98 [l0] [] (en_sfr σ 713 a a0) := en_jg (st := fun o => [en_R a0, en_R o]) (st' := fun _ => []) (σ' := fun a => en_sfr σ 713 a a0) d_X7_init_95 rfl (fun a => rfl) (fun a => ⟨fun h => h.2.1, fun h => ⟨rfl, h, trivial, fun _ => rfl⟩⟩)
theorem d_X7_init_98 : decode cX7_init 98 = .ok (.aload_n 0, 1) := by decide +kernel
theorem j_X7_init_98 {G : en_G} {q : Option en_V → en_S → Prop}  {x0 : Option Nat} {σ : en_S} : en_J (X_X7_init G q) 98 [en_R x0] [] σ ↔ en_J (X_X7_init G q) 99 [en_R x0] [en_R x0] σ := en_j1 d_X7_init_98 rfl rfl
theorem d_X7_init_99 : decode cX7_init 99 = .ok (.bipush 40, 2) := by decide +kernel
theorem j_X7_init_99 {G : en_G} {q : Option en_V → en_S → Prop}  {l0 : en_V} {a0 : Option Nat} {σ : en_S} : en_J (X_X7_init G q) 99 [l0] [en_R a0] σ ↔ en_J (X_X7_init G q) 101 [l0] [en_I 40, en_R a0] σ := ej_bipush d_X7_init_99 (by decide +kernel)
theorem d_X7_init_101 : decode cX7_init 101 = .ok (.newarray .int, 2) := by decide +kernel
theorem j_X7_init_101 {G : en_G} {q : Option en_V → en_S → Prop}  {l0 : en_V} {a1 : Option Nat} {σ : en_S} : en_J (X_X7_init G q) 101 [l0] [en_I 40, en_R a1] σ ↔ (en_nx σ + 1 ≤ G.2.2.2.2.1 ∧ en_ns σ + 40 ≤ G.2.2.2.2.2) ∧ en_J (X_X7_init G q) 103 [l0] [en_R (some (en_nx σ)), en_R a1] (en_newa σ 0 40) := ej_newa (m := 2) (t := 0) d_X7_init_101 rfl rfl (by decide +kernel) (by decide +kernel) (by decide)
theorem d_X7_init_103 : decode cX7_init 103 = .ok (.putfield 48, 3) := by decide +kernel
theorem j_X7_init_103 {G : en_G} {q : Option en_V → en_S → Prop}  {l0 : en_V} {a0 : Option Nat} {a1 : Option Nat} {σ : en_S} : en_J (X_X7_init G q) 103 [l0] [en_R a0, en_R a1] σ ↔ ∃ a, a1 = some a ∧ en_cl σ a = some 7 ∧ en_J (X_X7_init G q) 106 [l0] [] (en_sfr σ 714 a a0) := en_jg (st := fun o => [en_R a0, en_R o]) (st' := fun _ => []) (σ' := fun a => en_sfr σ 714 a a0) d_X7_init_103 rfl (fun a => rfl) (fun a => ⟨fun h => h.2.1, fun h => ⟨rfl, h, trivial, fun _ => rfl⟩⟩)
theorem d_X7_init_106 : decode cX7_init 106 = .ok (.aload_n 0, 1) := by decide +kernel
theorem j_X7_init_106 {G : en_G} {q : Option en_V → en_S → Prop}  {x0 : Option Nat} {σ : en_S} : en_J (X_X7_init G q) 106 [en_R x0] [] σ ↔ en_J (X_X7_init G q) 107 [en_R x0] [en_R x0] σ := en_j1 d_X7_init_106 rfl rfl
theorem d_X7_init_107 : decode cX7_init 107 = .ok (.bipush 40, 2) := by decide +kernel
theorem j_X7_init_107 {G : en_G} {q : Option en_V → en_S → Prop}  {l0 : en_V} {a0 : Option Nat} {σ : en_S} : en_J (X_X7_init G q) 107 [l0] [en_R a0] σ ↔ en_J (X_X7_init G q) 109 [l0] [en_I 40, en_R a0] σ := ej_bipush d_X7_init_107 (by decide +kernel)
theorem d_X7_init_109 : decode cX7_init 109 = .ok (.newarray .boolean, 2) := by decide +kernel
theorem j_X7_init_109 {G : en_G} {q : Option en_V → en_S → Prop}  {l0 : en_V} {a1 : Option Nat} {σ : en_S} : en_J (X_X7_init G q) 109 [l0] [en_I 40, en_R a1] σ ↔ (en_nx σ + 1 ≤ G.2.2.2.2.1 ∧ en_ns σ + 40 ≤ G.2.2.2.2.2) ∧ en_J (X_X7_init G q) 111 [l0] [en_R (some (en_nx σ)), en_R a1] (en_newa σ 1 40) := ej_newa (m := 2) (t := 1) d_X7_init_109 rfl rfl (by decide +kernel) (by decide +kernel) (by decide)
theorem d_X7_init_111 : decode cX7_init 111 = .ok (.putfield 51, 3) := by decide +kernel
theorem j_X7_init_111 {G : en_G} {q : Option en_V → en_S → Prop}  {l0 : en_V} {a0 : Option Nat} {a1 : Option Nat} {σ : en_S} : en_J (X_X7_init G q) 111 [l0] [en_R a0, en_R a1] σ ↔ ∃ a, a1 = some a ∧ en_cl σ a = some 7 ∧ en_J (X_X7_init G q) 114 [l0] [] (en_sfr σ 715 a a0) := en_jg (st := fun o => [en_R a0, en_R o]) (st' := fun _ => []) (σ' := fun a => en_sfr σ 715 a a0) d_X7_init_111 rfl (fun a => rfl) (fun a => ⟨fun h => h.2.1, fun h => ⟨rfl, h, trivial, fun _ => rfl⟩⟩)
theorem d_X7_init_114 : decode cX7_init 114 = .ok (.aload_n 0, 1) := by decide +kernel
theorem j_X7_init_114 {G : en_G} {q : Option en_V → en_S → Prop}  {x0 : Option Nat} {σ : en_S} : en_J (X_X7_init G q) 114 [en_R x0] [] σ ↔ en_J (X_X7_init G q) 115 [en_R x0] [en_R x0] σ := en_j1 d_X7_init_114 rfl rfl
theorem d_X7_init_115 : decode cX7_init 115 = .ok (.bipush 8, 2) := by decide +kernel
theorem j_X7_init_115 {G : en_G} {q : Option en_V → en_S → Prop}  {l0 : en_V} {a0 : Option Nat} {σ : en_S} : en_J (X_X7_init G q) 115 [l0] [en_R a0] σ ↔ en_J (X_X7_init G q) 117 [l0] [en_I 8, en_R a0] σ := ej_bipush d_X7_init_115 (by decide +kernel)
theorem d_X7_init_117 : decode cX7_init 117 = .ok (.newarray .int, 2) := by decide +kernel
theorem j_X7_init_117 {G : en_G} {q : Option en_V → en_S → Prop}  {l0 : en_V} {a1 : Option Nat} {σ : en_S} : en_J (X_X7_init G q) 117 [l0] [en_I 8, en_R a1] σ ↔ (en_nx σ + 1 ≤ G.2.2.2.2.1 ∧ en_ns σ + 8 ≤ G.2.2.2.2.2) ∧ en_J (X_X7_init G q) 119 [l0] [en_R (some (en_nx σ)), en_R a1] (en_newa σ 0 8) := ej_newa (m := 2) (t := 0) d_X7_init_117 rfl rfl (by decide +kernel) (by decide +kernel) (by decide)
theorem d_X7_init_119 : decode cX7_init 119 = .ok (.putfield 54, 3) := by decide +kernel
theorem j_X7_init_119 {G : en_G} {q : Option en_V → en_S → Prop}  {l0 : en_V} {a0 : Option Nat} {a1 : Option Nat} {σ : en_S} : en_J (X_X7_init G q) 119 [l0] [en_R a0, en_R a1] σ ↔ ∃ a, a1 = some a ∧ en_cl σ a = some 7 ∧ en_J (X_X7_init G q) 122 [l0] [] (en_sfr σ 716 a a0) := en_jg (st := fun o => [en_R a0, en_R o]) (st' := fun _ => []) (σ' := fun a => en_sfr σ 716 a a0) d_X7_init_119 rfl (fun a => rfl) (fun a => ⟨fun h => h.2.1, fun h => ⟨rfl, h, trivial, fun _ => rfl⟩⟩)
theorem d_X7_init_122 : decode cX7_init 122 = .ok (.aload_n 0, 1) := by decide +kernel
theorem j_X7_init_122 {G : en_G} {q : Option en_V → en_S → Prop}  {x0 : Option Nat} {σ : en_S} : en_J (X_X7_init G q) 122 [en_R x0] [] σ ↔ en_J (X_X7_init G q) 123 [en_R x0] [en_R x0] σ := en_j1 d_X7_init_122 rfl rfl
theorem d_X7_init_123 : decode cX7_init 123 = .ok (.bipush 40, 2) := by decide +kernel
theorem j_X7_init_123 {G : en_G} {q : Option en_V → en_S → Prop}  {l0 : en_V} {a0 : Option Nat} {σ : en_S} : en_J (X_X7_init G q) 123 [l0] [en_R a0] σ ↔ en_J (X_X7_init G q) 125 [l0] [en_I 40, en_R a0] σ := ej_bipush d_X7_init_123 (by decide +kernel)
theorem d_X7_init_125 : decode cX7_init 125 = .ok (.newarray .int, 2) := by decide +kernel
theorem j_X7_init_125 {G : en_G} {q : Option en_V → en_S → Prop}  {l0 : en_V} {a1 : Option Nat} {σ : en_S} : en_J (X_X7_init G q) 125 [l0] [en_I 40, en_R a1] σ ↔ (en_nx σ + 1 ≤ G.2.2.2.2.1 ∧ en_ns σ + 40 ≤ G.2.2.2.2.2) ∧ en_J (X_X7_init G q) 127 [l0] [en_R (some (en_nx σ)), en_R a1] (en_newa σ 0 40) := ej_newa (m := 2) (t := 0) d_X7_init_125 rfl rfl (by decide +kernel) (by decide +kernel) (by decide)
theorem d_X7_init_127 : decode cX7_init 127 = .ok (.putfield 57, 3) := by decide +kernel
theorem j_X7_init_127 {G : en_G} {q : Option en_V → en_S → Prop}  {l0 : en_V} {a0 : Option Nat} {a1 : Option Nat} {σ : en_S} : en_J (X_X7_init G q) 127 [l0] [en_R a0, en_R a1] σ ↔ ∃ a, a1 = some a ∧ en_cl σ a = some 7 ∧ en_J (X_X7_init G q) 130 [l0] [] (en_sfr σ 717 a a0) := en_jg (st := fun o => [en_R a0, en_R o]) (st' := fun _ => []) (σ' := fun a => en_sfr σ 717 a a0) d_X7_init_127 rfl (fun a => rfl) (fun a => ⟨fun h => h.2.1, fun h => ⟨rfl, h, trivial, fun _ => rfl⟩⟩)
theorem d_X7_init_130 : decode cX7_init 130 = .ok (.aload_n 0, 1) := by decide +kernel
theorem j_X7_init_130 {G : en_G} {q : Option en_V → en_S → Prop}  {x0 : Option Nat} {σ : en_S} : en_J (X_X7_init G q) 130 [en_R x0] [] σ ↔ en_J (X_X7_init G q) 131 [en_R x0] [en_R x0] σ := en_j1 d_X7_init_130 rfl rfl
theorem d_X7_init_131 : decode cX7_init 131 = .ok (.bipush 40, 2) := by decide +kernel
theorem j_X7_init_131 {G : en_G} {q : Option en_V → en_S → Prop}  {l0 : en_V} {a0 : Option Nat} {σ : en_S} : en_J (X_X7_init G q) 131 [l0] [en_R a0] σ ↔ en_J (X_X7_init G q) 133 [l0] [en_I 40, en_R a0] σ := ej_bipush d_X7_init_131 (by decide +kernel)
theorem d_X7_init_133 : decode cX7_init 133 = .ok (.newarray .int, 2) := by decide +kernel
theorem j_X7_init_133 {G : en_G} {q : Option en_V → en_S → Prop}  {l0 : en_V} {a1 : Option Nat} {σ : en_S} : en_J (X_X7_init G q) 133 [l0] [en_I 40, en_R a1] σ ↔ (en_nx σ + 1 ≤ G.2.2.2.2.1 ∧ en_ns σ + 40 ≤ G.2.2.2.2.2) ∧ en_J (X_X7_init G q) 135 [l0] [en_R (some (en_nx σ)), en_R a1] (en_newa σ 0 40) := ej_newa (m := 2) (t := 0) d_X7_init_133 rfl rfl (by decide +kernel) (by decide +kernel) (by decide)
theorem d_X7_init_135 : decode cX7_init 135 = .ok (.putfield 60, 3) := by decide +kernel
theorem j_X7_init_135 {G : en_G} {q : Option en_V → en_S → Prop}  {l0 : en_V} {a0 : Option Nat} {a1 : Option Nat} {σ : en_S} : en_J (X_X7_init G q) 135 [l0] [en_R a0, en_R a1] σ ↔ ∃ a, a1 = some a ∧ en_cl σ a = some 7 ∧ en_J (X_X7_init G q) 138 [l0] [] (en_sfr σ 718 a a0) := en_jg (st := fun o => [en_R a0, en_R o]) (st' := fun _ => []) (σ' := fun a => en_sfr σ 718 a a0) d_X7_init_135 rfl (fun a => rfl) (fun a => ⟨fun h => h.2.1, fun h => ⟨rfl, h, trivial, fun _ => rfl⟩⟩)
theorem d_X7_init_138 : decode cX7_init 138 = .ok (.aload_n 0, 1) := by decide +kernel
theorem j_X7_init_138 {G : en_G} {q : Option en_V → en_S → Prop}  {x0 : Option Nat} {σ : en_S} : en_J (X_X7_init G q) 138 [en_R x0] [] σ ↔ en_J (X_X7_init G q) 139 [en_R x0] [en_R x0] σ := en_j1 d_X7_init_138 rfl rfl
theorem d_X7_init_139 : decode cX7_init 139 = .ok (.bipush 24, 2) := by decide +kernel
theorem j_X7_init_139 {G : en_G} {q : Option en_V → en_S → Prop}  {l0 : en_V} {a0 : Option Nat} {σ : en_S} : en_J (X_X7_init G q) 139 [l0] [en_R a0] σ ↔ en_J (X_X7_init G q) 141 [l0] [en_I 24, en_R a0] σ := ej_bipush d_X7_init_139 (by decide +kernel)
theorem d_X7_init_141 : decode cX7_init 141 = .ok (.newarray .boolean, 2) := by decide +kernel
theorem j_X7_init_141 {G : en_G} {q : Option en_V → en_S → Prop}  {l0 : en_V} {a1 : Option Nat} {σ : en_S} : en_J (X_X7_init G q) 141 [l0] [en_I 24, en_R a1] σ ↔ (en_nx σ + 1 ≤ G.2.2.2.2.1 ∧ en_ns σ + 24 ≤ G.2.2.2.2.2) ∧ en_J (X_X7_init G q) 143 [l0] [en_R (some (en_nx σ)), en_R a1] (en_newa σ 1 24) := ej_newa (m := 2) (t := 1) d_X7_init_141 rfl rfl (by decide +kernel) (by decide +kernel) (by decide)
theorem d_X7_init_143 : decode cX7_init 143 = .ok (.putfield 63, 3) := by decide +kernel
theorem j_X7_init_143 {G : en_G} {q : Option en_V → en_S → Prop}  {l0 : en_V} {a0 : Option Nat} {a1 : Option Nat} {σ : en_S} : en_J (X_X7_init G q) 143 [l0] [en_R a0, en_R a1] σ ↔ ∃ a, a1 = some a ∧ en_cl σ a = some 7 ∧ en_J (X_X7_init G q) 146 [l0] [] (en_sfr σ 719 a a0) := en_jg (st := fun o => [en_R a0, en_R o]) (st' := fun _ => []) (σ' := fun a => en_sfr σ 719 a a0) d_X7_init_143 rfl (fun a => rfl) (fun a => ⟨fun h => h.2.1, fun h => ⟨rfl, h, trivial, fun _ => rfl⟩⟩)
theorem d_X7_init_146 : decode cX7_init 146 = .ok (.aload_n 0, 1) := by decide +kernel
theorem j_X7_init_146 {G : en_G} {q : Option en_V → en_S → Prop}  {x0 : Option Nat} {σ : en_S} : en_J (X_X7_init G q) 146 [en_R x0] [] σ ↔ en_J (X_X7_init G q) 147 [en_R x0] [en_R x0] σ := en_j1 d_X7_init_146 rfl rfl
theorem d_X7_init_147 : decode cX7_init 147 = .ok (.bipush 24, 2) := by decide +kernel
theorem j_X7_init_147 {G : en_G} {q : Option en_V → en_S → Prop}  {l0 : en_V} {a0 : Option Nat} {σ : en_S} : en_J (X_X7_init G q) 147 [l0] [en_R a0] σ ↔ en_J (X_X7_init G q) 149 [l0] [en_I 24, en_R a0] σ := ej_bipush d_X7_init_147 (by decide +kernel)
theorem d_X7_init_149 : decode cX7_init 149 = .ok (.newarray .double, 2) := by decide +kernel
theorem j_X7_init_149 {G : en_G} {q : Option en_V → en_S → Prop}  {l0 : en_V} {a1 : Option Nat} {σ : en_S} : en_J (X_X7_init G q) 149 [l0] [en_I 24, en_R a1] σ ↔ (en_nx σ + 1 ≤ G.2.2.2.2.1 ∧ en_ns σ + 24 ≤ G.2.2.2.2.2) ∧ en_J (X_X7_init G q) 151 [l0] [en_R (some (en_nx σ)), en_R a1] (en_newa σ 2 24) := ej_newa (m := 2) (t := 2) d_X7_init_149 rfl rfl (by decide +kernel) (by decide +kernel) (by decide)
theorem d_X7_init_151 : decode cX7_init 151 = .ok (.putfield 66, 3) := by decide +kernel
theorem j_X7_init_151 {G : en_G} {q : Option en_V → en_S → Prop}  {l0 : en_V} {a0 : Option Nat} {a1 : Option Nat} {σ : en_S} : en_J (X_X7_init G q) 151 [l0] [en_R a0, en_R a1] σ ↔ ∃ a, a1 = some a ∧ en_cl σ a = some 7 ∧ en_J (X_X7_init G q) 154 [l0] [] (en_sfr σ 720 a a0) := en_jg (st := fun o => [en_R a0, en_R o]) (st' := fun _ => []) (σ' := fun a => en_sfr σ 720 a a0) d_X7_init_151 rfl (fun a => rfl) (fun a => ⟨fun h => h.2.1, fun h => ⟨rfl, h, trivial, fun _ => rfl⟩⟩)
theorem d_X7_init_154 : decode cX7_init 154 = .ok (.aload_n 0, 1) := by decide +kernel
theorem j_X7_init_154 {G : en_G} {q : Option en_V → en_S → Prop}  {x0 : Option Nat} {σ : en_S} : en_J (X_X7_init G q) 154 [en_R x0] [] σ ↔ en_J (X_X7_init G q) 155 [en_R x0] [en_R x0] σ := en_j1 d_X7_init_154 rfl rfl
theorem d_X7_init_155 : decode cX7_init 155 = .ok (.bipush 24, 2) := by decide +kernel
theorem j_X7_init_155 {G : en_G} {q : Option en_V → en_S → Prop}  {l0 : en_V} {a0 : Option Nat} {σ : en_S} : en_J (X_X7_init G q) 155 [l0] [en_R a0] σ ↔ en_J (X_X7_init G q) 157 [l0] [en_I 24, en_R a0] σ := ej_bipush d_X7_init_155 (by decide +kernel)
theorem d_X7_init_157 : decode cX7_init 157 = .ok (.newarray .double, 2) := by decide +kernel
theorem j_X7_init_157 {G : en_G} {q : Option en_V → en_S → Prop}  {l0 : en_V} {a1 : Option Nat} {σ : en_S} : en_J (X_X7_init G q) 157 [l0] [en_I 24, en_R a1] σ ↔ (en_nx σ + 1 ≤ G.2.2.2.2.1 ∧ en_ns σ + 24 ≤ G.2.2.2.2.2) ∧ en_J (X_X7_init G q) 159 [l0] [en_R (some (en_nx σ)), en_R a1] (en_newa σ 2 24) := ej_newa (m := 2) (t := 2) d_X7_init_157 rfl rfl (by decide +kernel) (by decide +kernel) (by decide)
theorem d_X7_init_159 : decode cX7_init 159 = .ok (.putfield 70, 3) := by decide +kernel
theorem j_X7_init_159 {G : en_G} {q : Option en_V → en_S → Prop}  {l0 : en_V} {a0 : Option Nat} {a1 : Option Nat} {σ : en_S} : en_J (X_X7_init G q) 159 [l0] [en_R a0, en_R a1] σ ↔ ∃ a, a1 = some a ∧ en_cl σ a = some 7 ∧ en_J (X_X7_init G q) 162 [l0] [] (en_sfr σ 721 a a0) := en_jg (st := fun o => [en_R a0, en_R o]) (st' := fun _ => []) (σ' := fun a => en_sfr σ 721 a a0) d_X7_init_159 rfl (fun a => rfl) (fun a => ⟨fun h => h.2.1, fun h => ⟨rfl, h, trivial, fun _ => rfl⟩⟩)
theorem d_X7_init_162 : decode cX7_init 162 = .ok (.aload_n 0, 1) := by decide +kernel
theorem j_X7_init_162 {G : en_G} {q : Option en_V → en_S → Prop}  {x0 : Option Nat} {σ : en_S} : en_J (X_X7_init G q) 162 [en_R x0] [] σ ↔ en_J (X_X7_init G q) 163 [en_R x0] [en_R x0] σ := en_j1 d_X7_init_162 rfl rfl
theorem d_X7_init_163 : decode cX7_init 163 = .ok (.bipush 24, 2) := by decide +kernel
theorem j_X7_init_163 {G : en_G} {q : Option en_V → en_S → Prop}  {l0 : en_V} {a0 : Option Nat} {σ : en_S} : en_J (X_X7_init G q) 163 [l0] [en_R a0] σ ↔ en_J (X_X7_init G q) 165 [l0] [en_I 24, en_R a0] σ := ej_bipush d_X7_init_163 (by decide +kernel)
theorem d_X7_init_165 : decode cX7_init 165 = .ok (.newarray .double, 2) := by decide +kernel
theorem j_X7_init_165 {G : en_G} {q : Option en_V → en_S → Prop}  {l0 : en_V} {a1 : Option Nat} {σ : en_S} : en_J (X_X7_init G q) 165 [l0] [en_I 24, en_R a1] σ ↔ (en_nx σ + 1 ≤ G.2.2.2.2.1 ∧ en_ns σ + 24 ≤ G.2.2.2.2.2) ∧ en_J (X_X7_init G q) 167 [l0] [en_R (some (en_nx σ)), en_R a1] (en_newa σ 2 24) := ej_newa (m := 2) (t := 2) d_X7_init_165 rfl rfl (by decide +kernel) (by decide +kernel) (by decide)
theorem d_X7_init_167 : decode cX7_init 167 = .ok (.putfield 73, 3) := by decide +kernel
theorem j_X7_init_167 {G : en_G} {q : Option en_V → en_S → Prop}  {l0 : en_V} {a0 : Option Nat} {a1 : Option Nat} {σ : en_S} : en_J (X_X7_init G q) 167 [l0] [en_R a0, en_R a1] σ ↔ ∃ a, a1 = some a ∧ en_cl σ a = some 7 ∧ en_J (X_X7_init G q) 170 [l0] [] (en_sfr σ 722 a a0) := en_jg (st := fun o => [en_R a0, en_R o]) (st' := fun _ => []) (σ' := fun a => en_sfr σ 722 a a0) d_X7_init_167 rfl (fun a => rfl) (fun a => ⟨fun h => h.2.1, fun h => ⟨rfl, h, trivial, fun _ => rfl⟩⟩)
theorem d_X7_init_170 : decode cX7_init 170 = .ok (.aload_n 0, 1) := by decide +kernel
theorem j_X7_init_170 {G : en_G} {q : Option en_V → en_S → Prop}  {x0 : Option Nat} {σ : en_S} : en_J (X_X7_init G q) 170 [en_R x0] [] σ ↔ en_J (X_X7_init G q) 171 [en_R x0] [en_R x0] σ := en_j1 d_X7_init_170 rfl rfl
theorem d_X7_init_171 : decode cX7_init 171 = .ok (.bipush 24, 2) := by decide +kernel
theorem j_X7_init_171 {G : en_G} {q : Option en_V → en_S → Prop}  {l0 : en_V} {a0 : Option Nat} {σ : en_S} : en_J (X_X7_init G q) 171 [l0] [en_R a0] σ ↔ en_J (X_X7_init G q) 173 [l0] [en_I 24, en_R a0] σ := ej_bipush d_X7_init_171 (by decide +kernel)
theorem d_X7_init_173 : decode cX7_init 173 = .ok (.newarray .double, 2) := by decide +kernel
theorem j_X7_init_173 {G : en_G} {q : Option en_V → en_S → Prop}  {l0 : en_V} {a1 : Option Nat} {σ : en_S} : en_J (X_X7_init G q) 173 [l0] [en_I 24, en_R a1] σ ↔ (en_nx σ + 1 ≤ G.2.2.2.2.1 ∧ en_ns σ + 24 ≤ G.2.2.2.2.2) ∧ en_J (X_X7_init G q) 175 [l0] [en_R (some (en_nx σ)), en_R a1] (en_newa σ 2 24) := ej_newa (m := 2) (t := 2) d_X7_init_173 rfl rfl (by decide +kernel) (by decide +kernel) (by decide)
theorem d_X7_init_175 : decode cX7_init 175 = .ok (.putfield 76, 3) := by decide +kernel
theorem j_X7_init_175 {G : en_G} {q : Option en_V → en_S → Prop}  {l0 : en_V} {a0 : Option Nat} {a1 : Option Nat} {σ : en_S} : en_J (X_X7_init G q) 175 [l0] [en_R a0, en_R a1] σ ↔ ∃ a, a1 = some a ∧ en_cl σ a = some 7 ∧ en_J (X_X7_init G q) 178 [l0] [] (en_sfr σ 723 a a0) := en_jg (st := fun o => [en_R a0, en_R o]) (st' := fun _ => []) (σ' := fun a => en_sfr σ 723 a a0) d_X7_init_175 rfl (fun a => rfl) (fun a => ⟨fun h => h.2.1, fun h => ⟨rfl, h, trivial, fun _ => rfl⟩⟩)
theorem d_X7_init_178 : decode cX7_init 178 = .ok (.aload_n 0, 1) := by decide +kernel
theorem j_X7_init_178 {G : en_G} {q : Option en_V → en_S → Prop}  {x0 : Option Nat} {σ : en_S} : en_J (X_X7_init G q) 178 [en_R x0] [] σ ↔ en_J (X_X7_init G q) 179 [en_R x0] [en_R x0] σ := en_j1 d_X7_init_178 rfl rfl
theorem d_X7_init_179 : decode cX7_init 179 = .ok (.bipush 24, 2) := by decide +kernel
theorem j_X7_init_179 {G : en_G} {q : Option en_V → en_S → Prop}  {l0 : en_V} {a0 : Option Nat} {σ : en_S} : en_J (X_X7_init G q) 179 [l0] [en_R a0] σ ↔ en_J (X_X7_init G q) 181 [l0] [en_I 24, en_R a0] σ := ej_bipush d_X7_init_179 (by decide +kernel)
theorem d_X7_init_181 : decode cX7_init 181 = .ok (.newarray .double, 2) := by decide +kernel
theorem j_X7_init_181 {G : en_G} {q : Option en_V → en_S → Prop}  {l0 : en_V} {a1 : Option Nat} {σ : en_S} : en_J (X_X7_init G q) 181 [l0] [en_I 24, en_R a1] σ ↔ (en_nx σ + 1 ≤ G.2.2.2.2.1 ∧ en_ns σ + 24 ≤ G.2.2.2.2.2) ∧ en_J (X_X7_init G q) 183 [l0] [en_R (some (en_nx σ)), en_R a1] (en_newa σ 2 24) := ej_newa (m := 2) (t := 2) d_X7_init_181 rfl rfl (by decide +kernel) (by decide +kernel) (by decide)
theorem d_X7_init_183 : decode cX7_init 183 = .ok (.putfield 79, 3) := by decide +kernel
theorem j_X7_init_183 {G : en_G} {q : Option en_V → en_S → Prop}  {l0 : en_V} {a0 : Option Nat} {a1 : Option Nat} {σ : en_S} : en_J (X_X7_init G q) 183 [l0] [en_R a0, en_R a1] σ ↔ ∃ a, a1 = some a ∧ en_cl σ a = some 7 ∧ en_J (X_X7_init G q) 186 [l0] [] (en_sfr σ 724 a a0) := en_jg (st := fun o => [en_R a0, en_R o]) (st' := fun _ => []) (σ' := fun a => en_sfr σ 724 a a0) d_X7_init_183 rfl (fun a => rfl) (fun a => ⟨fun h => h.2.1, fun h => ⟨rfl, h, trivial, fun _ => rfl⟩⟩)
theorem d_X7_init_186 : decode cX7_init 186 = .ok (.aload_n 0, 1) := by decide +kernel
theorem j_X7_init_186 {G : en_G} {q : Option en_V → en_S → Prop}  {x0 : Option Nat} {σ : en_S} : en_J (X_X7_init G q) 186 [en_R x0] [] σ ↔ en_J (X_X7_init G q) 187 [en_R x0] [en_R x0] σ := en_j1 d_X7_init_186 rfl rfl
theorem d_X7_init_187 : decode cX7_init 187 = .ok (.bipush 24, 2) := by decide +kernel
theorem j_X7_init_187 {G : en_G} {q : Option en_V → en_S → Prop}  {l0 : en_V} {a0 : Option Nat} {σ : en_S} : en_J (X_X7_init G q) 187 [l0] [en_R a0] σ ↔ en_J (X_X7_init G q) 189 [l0] [en_I 24, en_R a0] σ := ej_bipush d_X7_init_187 (by decide +kernel)
theorem d_X7_init_189 : decode cX7_init 189 = .ok (.newarray .int, 2) := by decide +kernel
theorem j_X7_init_189 {G : en_G} {q : Option en_V → en_S → Prop}  {l0 : en_V} {a1 : Option Nat} {σ : en_S} : en_J (X_X7_init G q) 189 [l0] [en_I 24, en_R a1] σ ↔ (en_nx σ + 1 ≤ G.2.2.2.2.1 ∧ en_ns σ + 24 ≤ G.2.2.2.2.2) ∧ en_J (X_X7_init G q) 191 [l0] [en_R (some (en_nx σ)), en_R a1] (en_newa σ 0 24) := ej_newa (m := 2) (t := 0) d_X7_init_189 rfl rfl (by decide +kernel) (by decide +kernel) (by decide)
theorem d_X7_init_191 : decode cX7_init 191 = .ok (.putfield 82, 3) := by decide +kernel
theorem j_X7_init_191 {G : en_G} {q : Option en_V → en_S → Prop}  {l0 : en_V} {a0 : Option Nat} {a1 : Option Nat} {σ : en_S} : en_J (X_X7_init G q) 191 [l0] [en_R a0, en_R a1] σ ↔ ∃ a, a1 = some a ∧ en_cl σ a = some 7 ∧ en_J (X_X7_init G q) 194 [l0] [] (en_sfr σ 725 a a0) := en_jg (st := fun o => [en_R a0, en_R o]) (st' := fun _ => []) (σ' := fun a => en_sfr σ 725 a a0) d_X7_init_191 rfl (fun a => rfl) (fun a => ⟨fun h => h.2.1, fun h => ⟨rfl, h, trivial, fun _ => rfl⟩⟩)
theorem d_X7_init_194 : decode cX7_init 194 = .ok (.aload_n 0, 1) := by decide +kernel
theorem j_X7_init_194 {G : en_G} {q : Option en_V → en_S → Prop}  {x0 : Option Nat} {σ : en_S} : en_J (X_X7_init G q) 194 [en_R x0] [] σ ↔ en_J (X_X7_init G q) 195 [en_R x0] [en_R x0] σ := en_j1 d_X7_init_194 rfl rfl
theorem d_X7_init_195 : decode cX7_init 195 = .ok (.bipush 24, 2) := by decide +kernel
theorem j_X7_init_195 {G : en_G} {q : Option en_V → en_S → Prop}  {l0 : en_V} {a0 : Option Nat} {σ : en_S} : en_J (X_X7_init G q) 195 [l0] [en_R a0] σ ↔ en_J (X_X7_init G q) 197 [l0] [en_I 24, en_R a0] σ := ej_bipush d_X7_init_195 (by decide +kernel)
theorem d_X7_init_197 : decode cX7_init 197 = .ok (.newarray .int, 2) := by decide +kernel
theorem j_X7_init_197 {G : en_G} {q : Option en_V → en_S → Prop}  {l0 : en_V} {a1 : Option Nat} {σ : en_S} : en_J (X_X7_init G q) 197 [l0] [en_I 24, en_R a1] σ ↔ (en_nx σ + 1 ≤ G.2.2.2.2.1 ∧ en_ns σ + 24 ≤ G.2.2.2.2.2) ∧ en_J (X_X7_init G q) 199 [l0] [en_R (some (en_nx σ)), en_R a1] (en_newa σ 0 24) := ej_newa (m := 2) (t := 0) d_X7_init_197 rfl rfl (by decide +kernel) (by decide +kernel) (by decide)
theorem d_X7_init_199 : decode cX7_init 199 = .ok (.putfield 85, 3) := by decide +kernel
theorem j_X7_init_199 {G : en_G} {q : Option en_V → en_S → Prop}  {l0 : en_V} {a0 : Option Nat} {a1 : Option Nat} {σ : en_S} : en_J (X_X7_init G q) 199 [l0] [en_R a0, en_R a1] σ ↔ ∃ a, a1 = some a ∧ en_cl σ a = some 7 ∧ en_J (X_X7_init G q) 202 [l0] [] (en_sfr σ 726 a a0) := en_jg (st := fun o => [en_R a0, en_R o]) (st' := fun _ => []) (σ' := fun a => en_sfr σ 726 a a0) d_X7_init_199 rfl (fun a => rfl) (fun a => ⟨fun h => h.2.1, fun h => ⟨rfl, h, trivial, fun _ => rfl⟩⟩)
theorem d_X7_init_202 : decode cX7_init 202 = .ok (.aload_n 0, 1) := by decide +kernel
theorem j_X7_init_202 {G : en_G} {q : Option en_V → en_S → Prop}  {x0 : Option Nat} {σ : en_S} : en_J (X_X7_init G q) 202 [en_R x0] [] σ ↔ en_J (X_X7_init G q) 203 [en_R x0] [en_R x0] σ := en_j1 d_X7_init_202 rfl rfl
theorem d_X7_init_203 : decode cX7_init 203 = .ok (.bipush 64, 2) := by decide +kernel
theorem j_X7_init_203 {G : en_G} {q : Option en_V → en_S → Prop}  {l0 : en_V} {a0 : Option Nat} {σ : en_S} : en_J (X_X7_init G q) 203 [l0] [en_R a0] σ ↔ en_J (X_X7_init G q) 205 [l0] [en_I 64, en_R a0] σ := ej_bipush d_X7_init_203 (by decide +kernel)
theorem d_X7_init_205 : decode cX7_init 205 = .ok (.newarray .int, 2) := by decide +kernel
theorem j_X7_init_205 {G : en_G} {q : Option en_V → en_S → Prop}  {l0 : en_V} {a1 : Option Nat} {σ : en_S} : en_J (X_X7_init G q) 205 [l0] [en_I 64, en_R a1] σ ↔ (en_nx σ + 1 ≤ G.2.2.2.2.1 ∧ en_ns σ + 64 ≤ G.2.2.2.2.2) ∧ en_J (X_X7_init G q) 207 [l0] [en_R (some (en_nx σ)), en_R a1] (en_newa σ 0 64) := ej_newa (m := 2) (t := 0) d_X7_init_205 rfl rfl (by decide +kernel) (by decide +kernel) (by decide)
theorem d_X7_init_207 : decode cX7_init 207 = .ok (.putfield 88, 3) := by decide +kernel
theorem j_X7_init_207 {G : en_G} {q : Option en_V → en_S → Prop}  {l0 : en_V} {a0 : Option Nat} {a1 : Option Nat} {σ : en_S} : en_J (X_X7_init G q) 207 [l0] [en_R a0, en_R a1] σ ↔ ∃ a, a1 = some a ∧ en_cl σ a = some 7 ∧ en_J (X_X7_init G q) 210 [l0] [] (en_sfr σ 728 a a0) := en_jg (st := fun o => [en_R a0, en_R o]) (st' := fun _ => []) (σ' := fun a => en_sfr σ 728 a a0) d_X7_init_207 rfl (fun a => rfl) (fun a => ⟨fun h => h.2.1, fun h => ⟨rfl, h, trivial, fun _ => rfl⟩⟩)
theorem d_X7_init_210 : decode cX7_init 210 = .ok (.aload_n 0, 1) := by decide +kernel
theorem j_X7_init_210 {G : en_G} {q : Option en_V → en_S → Prop}  {x0 : Option Nat} {σ : en_S} : en_J (X_X7_init G q) 210 [en_R x0] [] σ ↔ en_J (X_X7_init G q) 211 [en_R x0] [en_R x0] σ := en_j1 d_X7_init_210 rfl rfl
theorem d_X7_init_211 : decode cX7_init 211 = .ok (.iconst (-1), 1) := by decide +kernel
theorem j_X7_init_211 {G : en_G} {q : Option en_V → en_S → Prop}  {l0 : en_V} {a0 : Option Nat} {σ : en_S} : en_J (X_X7_init G q) 211 [l0] [en_R a0] σ ↔ en_J (X_X7_init G q) 212 [l0] [en_I (-1), en_R a0] σ := ej_iconst d_X7_init_211 (by decide +kernel)
theorem d_X7_init_212 : decode cX7_init 212 = .ok (.putfield 91, 3) := by decide +kernel
theorem j_X7_init_212 {G : en_G} {q : Option en_V → en_S → Prop}  {l0 : en_V} {a0 : Int32} {a1 : Option Nat} {σ : en_S} : en_J (X_X7_init G q) 212 [l0] [en_I a0, en_R a1] σ ↔ ∃ a, a1 = some a ∧ en_cl σ a = some 7 ∧ en_J (X_X7_init G q) 215 [l0] [] (en_sfi σ 729 a a0) := en_jg (st := fun o => [en_I a0, en_R o]) (st' := fun _ => []) (σ' := fun a => en_sfi σ 729 a a0) d_X7_init_212 rfl (fun a => rfl) (fun a => ⟨fun h => h.2.1, fun h => ⟨rfl, h, trivial, fun z => absurd z (by decide +kernel)⟩⟩)
theorem d_X7_init_215 : decode cX7_init 215 = .ok (.aload_n 0, 1) := by decide +kernel
theorem j_X7_init_215 {G : en_G} {q : Option en_V → en_S → Prop}  {x0 : Option Nat} {σ : en_S} : en_J (X_X7_init G q) 215 [en_R x0] [] σ ↔ en_J (X_X7_init G q) 216 [en_R x0] [en_R x0] σ := en_j1 d_X7_init_215 rfl rfl
theorem d_X7_init_216 : decode cX7_init 216 = .ok (.iconst (-1), 1) := by decide +kernel
theorem j_X7_init_216 {G : en_G} {q : Option en_V → en_S → Prop}  {l0 : en_V} {a0 : Option Nat} {σ : en_S} : en_J (X_X7_init G q) 216 [l0] [en_R a0] σ ↔ en_J (X_X7_init G q) 217 [l0] [en_I (-1), en_R a0] σ := ej_iconst d_X7_init_216 (by decide +kernel)
theorem d_X7_init_217 : decode cX7_init 217 = .ok (.putfield 94, 3) := by decide +kernel
theorem j_X7_init_217 {G : en_G} {q : Option en_V → en_S → Prop}  {l0 : en_V} {a0 : Int32} {a1 : Option Nat} {σ : en_S} : en_J (X_X7_init G q) 217 [l0] [en_I a0, en_R a1] σ ↔ ∃ a, a1 = some a ∧ en_cl σ a = some 7 ∧ en_J (X_X7_init G q) 220 [l0] [] (en_sfi σ 730 a a0) := en_jg (st := fun o => [en_I a0, en_R o]) (st' := fun _ => []) (σ' := fun a => en_sfi σ 730 a a0) d_X7_init_217 rfl (fun a => rfl) (fun a => ⟨fun h => h.2.1, fun h => ⟨rfl, h, trivial, fun z => absurd z (by decide +kernel)⟩⟩)
theorem d_X7_init_220 : decode cX7_init 220 = .ok (.aload_n 0, 1) := by decide +kernel
theorem j_X7_init_220 {G : en_G} {q : Option en_V → en_S → Prop}  {x0 : Option Nat} {σ : en_S} : en_J (X_X7_init G q) 220 [en_R x0] [] σ ↔ en_J (X_X7_init G q) 221 [en_R x0] [en_R x0] σ := en_j1 d_X7_init_220 rfl rfl
theorem d_X7_init_221 : decode cX7_init 221 = .ok (.sipush 160, 3) := by decide +kernel
theorem j_X7_init_221 {G : en_G} {q : Option en_V → en_S → Prop}  {l0 : en_V} {a0 : Option Nat} {σ : en_S} : en_J (X_X7_init G q) 221 [l0] [en_R a0] σ ↔ en_J (X_X7_init G q) 224 [l0] [en_I 160, en_R a0] σ := ej_sipush d_X7_init_221 (by decide +kernel)
theorem d_X7_init_224 : decode cX7_init 224 = .ok (.newarray .int, 2) := by decide +kernel
theorem j_X7_init_224 {G : en_G} {q : Option en_V → en_S → Prop}  {l0 : en_V} {a1 : Option Nat} {σ : en_S} : en_J (X_X7_init G q) 224 [l0] [en_I 160, en_R a1] σ ↔ (en_nx σ + 1 ≤ G.2.2.2.2.1 ∧ en_ns σ + 160 ≤ G.2.2.2.2.2) ∧ en_J (X_X7_init G q) 226 [l0] [en_R (some (en_nx σ)), en_R a1] (en_newa σ 0 160) := ej_newa (m := 2) (t := 0) d_X7_init_224 rfl rfl (by decide +kernel) (by decide +kernel) (by decide)
theorem d_X7_init_226 : decode cX7_init 226 = .ok (.putfield 97, 3) := by decide +kernel
theorem j_X7_init_226 {G : en_G} {q : Option en_V → en_S → Prop}  {l0 : en_V} {a0 : Option Nat} {a1 : Option Nat} {σ : en_S} : en_J (X_X7_init G q) 226 [l0] [en_R a0, en_R a1] σ ↔ ∃ a, a1 = some a ∧ en_cl σ a = some 7 ∧ en_J (X_X7_init G q) 229 [l0] [] (en_sfr σ 733 a a0) := en_jg (st := fun o => [en_R a0, en_R o]) (st' := fun _ => []) (σ' := fun a => en_sfr σ 733 a a0) d_X7_init_226 rfl (fun a => rfl) (fun a => ⟨fun h => h.2.1, fun h => ⟨rfl, h, trivial, fun _ => rfl⟩⟩)
theorem d_X7_init_229 : decode cX7_init 229 = .ok (.aload_n 0, 1) := by decide +kernel
theorem j_X7_init_229 {G : en_G} {q : Option en_V → en_S → Prop}  {x0 : Option Nat} {σ : en_S} : en_J (X_X7_init G q) 229 [en_R x0] [] σ ↔ en_J (X_X7_init G q) 230 [en_R x0] [en_R x0] σ := en_j1 d_X7_init_229 rfl rfl
theorem d_X7_init_230 : decode cX7_init 230 = .ok (.bipush 96, 2) := by decide +kernel
theorem j_X7_init_230 {G : en_G} {q : Option en_V → en_S → Prop}  {l0 : en_V} {a0 : Option Nat} {σ : en_S} : en_J (X_X7_init G q) 230 [l0] [en_R a0] σ ↔ en_J (X_X7_init G q) 232 [l0] [en_I 96, en_R a0] σ := ej_bipush d_X7_init_230 (by decide +kernel)
theorem d_X7_init_232 : decode cX7_init 232 = .ok (.newarray .int, 2) := by decide +kernel
theorem j_X7_init_232 {G : en_G} {q : Option en_V → en_S → Prop}  {l0 : en_V} {a1 : Option Nat} {σ : en_S} : en_J (X_X7_init G q) 232 [l0] [en_I 96, en_R a1] σ ↔ (en_nx σ + 1 ≤ G.2.2.2.2.1 ∧ en_ns σ + 96 ≤ G.2.2.2.2.2) ∧ en_J (X_X7_init G q) 234 [l0] [en_R (some (en_nx σ)), en_R a1] (en_newa σ 0 96) := ej_newa (m := 2) (t := 0) d_X7_init_232 rfl rfl (by decide +kernel) (by decide +kernel) (by decide)
theorem d_X7_init_234 : decode cX7_init 234 = .ok (.putfield 100, 3) := by decide +kernel
theorem j_X7_init_234 {G : en_G} {q : Option en_V → en_S → Prop}  {l0 : en_V} {a0 : Option Nat} {a1 : Option Nat} {σ : en_S} : en_J (X_X7_init G q) 234 [l0] [en_R a0, en_R a1] σ ↔ ∃ a, a1 = some a ∧ en_cl σ a = some 7 ∧ en_J (X_X7_init G q) 237 [l0] [] (en_sfr σ 737 a a0) := en_jg (st := fun o => [en_R a0, en_R o]) (st' := fun _ => []) (σ' := fun a => en_sfr σ 737 a a0) d_X7_init_234 rfl (fun a => rfl) (fun a => ⟨fun h => h.2.1, fun h => ⟨rfl, h, trivial, fun _ => rfl⟩⟩)
theorem d_X7_init_237 : decode cX7_init 237 = .ok (.aload_n 0, 1) := by decide +kernel
theorem j_X7_init_237 {G : en_G} {q : Option en_V → en_S → Prop}  {x0 : Option Nat} {σ : en_S} : en_J (X_X7_init G q) 237 [en_R x0] [] σ ↔ en_J (X_X7_init G q) 238 [en_R x0] [en_R x0] σ := en_j1 d_X7_init_237 rfl rfl
theorem d_X7_init_238 : decode cX7_init 238 = .ok (.bipush 96, 2) := by decide +kernel
theorem j_X7_init_238 {G : en_G} {q : Option en_V → en_S → Prop}  {l0 : en_V} {a0 : Option Nat} {σ : en_S} : en_J (X_X7_init G q) 238 [l0] [en_R a0] σ ↔ en_J (X_X7_init G q) 240 [l0] [en_I 96, en_R a0] σ := ej_bipush d_X7_init_238 (by decide +kernel)
theorem d_X7_init_240 : decode cX7_init 240 = .ok (.newarray .int, 2) := by decide +kernel
theorem j_X7_init_240 {G : en_G} {q : Option en_V → en_S → Prop}  {l0 : en_V} {a1 : Option Nat} {σ : en_S} : en_J (X_X7_init G q) 240 [l0] [en_I 96, en_R a1] σ ↔ (en_nx σ + 1 ≤ G.2.2.2.2.1 ∧ en_ns σ + 96 ≤ G.2.2.2.2.2) ∧ en_J (X_X7_init G q) 242 [l0] [en_R (some (en_nx σ)), en_R a1] (en_newa σ 0 96) := ej_newa (m := 2) (t := 0) d_X7_init_240 rfl rfl (by decide +kernel) (by decide +kernel) (by decide)
theorem d_X7_init_242 : decode cX7_init 242 = .ok (.putfield 103, 3) := by decide +kernel
theorem j_X7_init_242 {G : en_G} {q : Option en_V → en_S → Prop}  {l0 : en_V} {a0 : Option Nat} {a1 : Option Nat} {σ : en_S} : en_J (X_X7_init G q) 242 [l0] [en_R a0, en_R a1] σ ↔ ∃ a, a1 = some a ∧ en_cl σ a = some 7 ∧ en_J (X_X7_init G q) 245 [l0] [] (en_sfr σ 738 a a0) := en_jg (st := fun o => [en_R a0, en_R o]) (st' := fun _ => []) (σ' := fun a => en_sfr σ 738 a a0) d_X7_init_242 rfl (fun a => rfl) (fun a => ⟨fun h => h.2.1, fun h => ⟨rfl, h, trivial, fun _ => rfl⟩⟩)
theorem d_X7_init_245 : decode cX7_init 245 = .ok (.aload_n 0, 1) := by decide +kernel
theorem j_X7_init_245 {G : en_G} {q : Option en_V → en_S → Prop}  {x0 : Option Nat} {σ : en_S} : en_J (X_X7_init G q) 245 [en_R x0] [] σ ↔ en_J (X_X7_init G q) 246 [en_R x0] [en_R x0] σ := en_j1 d_X7_init_245 rfl rfl
theorem d_X7_init_246 : decode cX7_init 246 = .ok (.iconst 4, 1) := by decide +kernel
theorem j_X7_init_246 {G : en_G} {q : Option en_V → en_S → Prop}  {l0 : en_V} {a0 : Option Nat} {σ : en_S} : en_J (X_X7_init G q) 246 [l0] [en_R a0] σ ↔ en_J (X_X7_init G q) 247 [l0] [en_I 4, en_R a0] σ := ej_iconst d_X7_init_246 (by decide +kernel)
theorem d_X7_init_247 : decode cX7_init 247 = .ok (.newarray .int, 2) := by decide +kernel
theorem j_X7_init_247 {G : en_G} {q : Option en_V → en_S → Prop}  {l0 : en_V} {a1 : Option Nat} {σ : en_S} : en_J (X_X7_init G q) 247 [l0] [en_I 4, en_R a1] σ ↔ (en_nx σ + 1 ≤ G.2.2.2.2.1 ∧ en_ns σ + 4 ≤ G.2.2.2.2.2) ∧ en_J (X_X7_init G q) 249 [l0] [en_R (some (en_nx σ)), en_R a1] (en_newa σ 0 4) := ej_newa (m := 2) (t := 0) d_X7_init_247 rfl rfl (by decide +kernel) (by decide +kernel) (by decide)
theorem d_X7_init_249 : decode cX7_init 249 = .ok (.putfield 106, 3) := by decide +kernel
theorem j_X7_init_249 {G : en_G} {q : Option en_V → en_S → Prop}  {l0 : en_V} {a0 : Option Nat} {a1 : Option Nat} {σ : en_S} : en_J (X_X7_init G q) 249 [l0] [en_R a0, en_R a1] σ ↔ ∃ a, a1 = some a ∧ en_cl σ a = some 7 ∧ en_J (X_X7_init G q) 252 [l0] [] (en_sfr σ 739 a a0) := en_jg (st := fun o => [en_R a0, en_R o]) (st' := fun _ => []) (σ' := fun a => en_sfr σ 739 a a0) d_X7_init_249 rfl (fun a => rfl) (fun a => ⟨fun h => h.2.1, fun h => ⟨rfl, h, trivial, fun _ => rfl⟩⟩)
theorem d_X7_init_252 : decode cX7_init 252 = .ok (.aload_n 0, 1) := by decide +kernel
theorem j_X7_init_252 {G : en_G} {q : Option en_V → en_S → Prop}  {x0 : Option Nat} {σ : en_S} : en_J (X_X7_init G q) 252 [en_R x0] [] σ ↔ en_J (X_X7_init G q) 253 [en_R x0] [en_R x0] σ := en_j1 d_X7_init_252 rfl rfl
theorem d_X7_init_253 : decode cX7_init 253 = .ok (.iconst 4, 1) := by decide +kernel
theorem j_X7_init_253 {G : en_G} {q : Option en_V → en_S → Prop}  {l0 : en_V} {a0 : Option Nat} {σ : en_S} : en_J (X_X7_init G q) 253 [l0] [en_R a0] σ ↔ en_J (X_X7_init G q) 254 [l0] [en_I 4, en_R a0] σ := ej_iconst d_X7_init_253 (by decide +kernel)
theorem d_X7_init_254 : decode cX7_init 254 = .ok (.newarray .int, 2) := by decide +kernel
theorem j_X7_init_254 {G : en_G} {q : Option en_V → en_S → Prop}  {l0 : en_V} {a1 : Option Nat} {σ : en_S} : en_J (X_X7_init G q) 254 [l0] [en_I 4, en_R a1] σ ↔ (en_nx σ + 1 ≤ G.2.2.2.2.1 ∧ en_ns σ + 4 ≤ G.2.2.2.2.2) ∧ en_J (X_X7_init G q) 256 [l0] [en_R (some (en_nx σ)), en_R a1] (en_newa σ 0 4) := ej_newa (m := 2) (t := 0) d_X7_init_254 rfl rfl (by decide +kernel) (by decide +kernel) (by decide)
theorem d_X7_init_256 : decode cX7_init 256 = .ok (.putfield 109, 3) := by decide +kernel
theorem j_X7_init_256 {G : en_G} {q : Option en_V → en_S → Prop}  {l0 : en_V} {a0 : Option Nat} {a1 : Option Nat} {σ : en_S} : en_J (X_X7_init G q) 256 [l0] [en_R a0, en_R a1] σ ↔ ∃ a, a1 = some a ∧ en_cl σ a = some 7 ∧ en_J (X_X7_init G q) 259 [l0] [] (en_sfr σ 740 a a0) := en_jg (st := fun o => [en_R a0, en_R o]) (st' := fun _ => []) (σ' := fun a => en_sfr σ 740 a a0) d_X7_init_256 rfl (fun a => rfl) (fun a => ⟨fun h => h.2.1, fun h => ⟨rfl, h, trivial, fun _ => rfl⟩⟩)
theorem d_X7_init_259 : decode cX7_init 259 = .ok (.aload_n 0, 1) := by decide +kernel
theorem j_X7_init_259 {G : en_G} {q : Option en_V → en_S → Prop}  {x0 : Option Nat} {σ : en_S} : en_J (X_X7_init G q) 259 [en_R x0] [] σ ↔ en_J (X_X7_init G q) 260 [en_R x0] [en_R x0] σ := en_j1 d_X7_init_259 rfl rfl
theorem d_X7_init_260 : decode cX7_init 260 = .ok (.iconst 4, 1) := by decide +kernel
theorem j_X7_init_260 {G : en_G} {q : Option en_V → en_S → Prop}  {l0 : en_V} {a0 : Option Nat} {σ : en_S} : en_J (X_X7_init G q) 260 [l0] [en_R a0] σ ↔ en_J (X_X7_init G q) 261 [l0] [en_I 4, en_R a0] σ := ej_iconst d_X7_init_260 (by decide +kernel)
theorem d_X7_init_261 : decode cX7_init 261 = .ok (.newarray .int, 2) := by decide +kernel
theorem j_X7_init_261 {G : en_G} {q : Option en_V → en_S → Prop}  {l0 : en_V} {a1 : Option Nat} {σ : en_S} : en_J (X_X7_init G q) 261 [l0] [en_I 4, en_R a1] σ ↔ (en_nx σ + 1 ≤ G.2.2.2.2.1 ∧ en_ns σ + 4 ≤ G.2.2.2.2.2) ∧ en_J (X_X7_init G q) 263 [l0] [en_R (some (en_nx σ)), en_R a1] (en_newa σ 0 4) := ej_newa (m := 2) (t := 0) d_X7_init_261 rfl rfl (by decide +kernel) (by decide +kernel) (by decide)
theorem d_X7_init_263 : decode cX7_init 263 = .ok (.putfield 112, 3) := by decide +kernel
theorem j_X7_init_263 {G : en_G} {q : Option en_V → en_S → Prop}  {l0 : en_V} {a0 : Option Nat} {a1 : Option Nat} {σ : en_S} : en_J (X_X7_init G q) 263 [l0] [en_R a0, en_R a1] σ ↔ ∃ a, a1 = some a ∧ en_cl σ a = some 7 ∧ en_J (X_X7_init G q) 266 [l0] [] (en_sfr σ 741 a a0) := en_jg (st := fun o => [en_R a0, en_R o]) (st' := fun _ => []) (σ' := fun a => en_sfr σ 741 a a0) d_X7_init_263 rfl (fun a => rfl) (fun a => ⟨fun h => h.2.1, fun h => ⟨rfl, h, trivial, fun _ => rfl⟩⟩)
theorem d_X7_init_266 : decode cX7_init 266 = .ok (.aload_n 0, 1) := by decide +kernel
theorem j_X7_init_266 {G : en_G} {q : Option en_V → en_S → Prop}  {x0 : Option Nat} {σ : en_S} : en_J (X_X7_init G q) 266 [en_R x0] [] σ ↔ en_J (X_X7_init G q) 267 [en_R x0] [en_R x0] σ := en_j1 d_X7_init_266 rfl rfl
theorem d_X7_init_267 : decode cX7_init 267 = .ok (.iconst 4, 1) := by decide +kernel
theorem j_X7_init_267 {G : en_G} {q : Option en_V → en_S → Prop}  {l0 : en_V} {a0 : Option Nat} {σ : en_S} : en_J (X_X7_init G q) 267 [l0] [en_R a0] σ ↔ en_J (X_X7_init G q) 268 [l0] [en_I 4, en_R a0] σ := ej_iconst d_X7_init_267 (by decide +kernel)
theorem d_X7_init_268 : decode cX7_init 268 = .ok (.newarray .int, 2) := by decide +kernel
theorem j_X7_init_268 {G : en_G} {q : Option en_V → en_S → Prop}  {l0 : en_V} {a1 : Option Nat} {σ : en_S} : en_J (X_X7_init G q) 268 [l0] [en_I 4, en_R a1] σ ↔ (en_nx σ + 1 ≤ G.2.2.2.2.1 ∧ en_ns σ + 4 ≤ G.2.2.2.2.2) ∧ en_J (X_X7_init G q) 270 [l0] [en_R (some (en_nx σ)), en_R a1] (en_newa σ 0 4) := ej_newa (m := 2) (t := 0) d_X7_init_268 rfl rfl (by decide +kernel) (by decide +kernel) (by decide)
theorem d_X7_init_270 : decode cX7_init 270 = .ok (.putfield 115, 3) := by decide +kernel
theorem j_X7_init_270 {G : en_G} {q : Option en_V → en_S → Prop}  {l0 : en_V} {a0 : Option Nat} {a1 : Option Nat} {σ : en_S} : en_J (X_X7_init G q) 270 [l0] [en_R a0, en_R a1] σ ↔ ∃ a, a1 = some a ∧ en_cl σ a = some 7 ∧ en_J (X_X7_init G q) 273 [l0] [] (en_sfr σ 742 a a0) := en_jg (st := fun o => [en_R a0, en_R o]) (st' := fun _ => []) (σ' := fun a => en_sfr σ 742 a a0) d_X7_init_270 rfl (fun a => rfl) (fun a => ⟨fun h => h.2.1, fun h => ⟨rfl, h, trivial, fun _ => rfl⟩⟩)
theorem d_X7_init_273 : decode cX7_init 273 = .ok (.aload_n 0, 1) := by decide +kernel
theorem j_X7_init_273 {G : en_G} {q : Option en_V → en_S → Prop}  {x0 : Option Nat} {σ : en_S} : en_J (X_X7_init G q) 273 [en_R x0] [] σ ↔ en_J (X_X7_init G q) 274 [en_R x0] [en_R x0] σ := en_j1 d_X7_init_273 rfl rfl
theorem d_X7_init_274 : decode cX7_init 274 = .ok (.iconst 4, 1) := by decide +kernel
theorem j_X7_init_274 {G : en_G} {q : Option en_V → en_S → Prop}  {l0 : en_V} {a0 : Option Nat} {σ : en_S} : en_J (X_X7_init G q) 274 [l0] [en_R a0] σ ↔ en_J (X_X7_init G q) 275 [l0] [en_I 4, en_R a0] σ := ej_iconst d_X7_init_274 (by decide +kernel)
theorem d_X7_init_275 : decode cX7_init 275 = .ok (.newarray .int, 2) := by decide +kernel
theorem j_X7_init_275 {G : en_G} {q : Option en_V → en_S → Prop}  {l0 : en_V} {a1 : Option Nat} {σ : en_S} : en_J (X_X7_init G q) 275 [l0] [en_I 4, en_R a1] σ ↔ (en_nx σ + 1 ≤ G.2.2.2.2.1 ∧ en_ns σ + 4 ≤ G.2.2.2.2.2) ∧ en_J (X_X7_init G q) 277 [l0] [en_R (some (en_nx σ)), en_R a1] (en_newa σ 0 4) := ej_newa (m := 2) (t := 0) d_X7_init_275 rfl rfl (by decide +kernel) (by decide +kernel) (by decide)
theorem d_X7_init_277 : decode cX7_init 277 = .ok (.putfield 118, 3) := by decide +kernel
theorem j_X7_init_277 {G : en_G} {q : Option en_V → en_S → Prop}  {l0 : en_V} {a0 : Option Nat} {a1 : Option Nat} {σ : en_S} : en_J (X_X7_init G q) 277 [l0] [en_R a0, en_R a1] σ ↔ ∃ a, a1 = some a ∧ en_cl σ a = some 7 ∧ en_J (X_X7_init G q) 280 [l0] [] (en_sfr σ 743 a a0) := en_jg (st := fun o => [en_R a0, en_R o]) (st' := fun _ => []) (σ' := fun a => en_sfr σ 743 a a0) d_X7_init_277 rfl (fun a => rfl) (fun a => ⟨fun h => h.2.1, fun h => ⟨rfl, h, trivial, fun _ => rfl⟩⟩)
theorem d_X7_init_280 : decode cX7_init 280 = .ok (.aload_n 0, 1) := by decide +kernel
theorem j_X7_init_280 {G : en_G} {q : Option en_V → en_S → Prop}  {x0 : Option Nat} {σ : en_S} : en_J (X_X7_init G q) 280 [en_R x0] [] σ ↔ en_J (X_X7_init G q) 281 [en_R x0] [en_R x0] σ := en_j1 d_X7_init_280 rfl rfl
theorem d_X7_init_281 : decode cX7_init 281 = .ok (.iconst 4, 1) := by decide +kernel
theorem j_X7_init_281 {G : en_G} {q : Option en_V → en_S → Prop}  {l0 : en_V} {a0 : Option Nat} {σ : en_S} : en_J (X_X7_init G q) 281 [l0] [en_R a0] σ ↔ en_J (X_X7_init G q) 282 [l0] [en_I 4, en_R a0] σ := ej_iconst d_X7_init_281 (by decide +kernel)
theorem d_X7_init_282 : decode cX7_init 282 = .ok (.newarray .int, 2) := by decide +kernel
theorem j_X7_init_282 {G : en_G} {q : Option en_V → en_S → Prop}  {l0 : en_V} {a1 : Option Nat} {σ : en_S} : en_J (X_X7_init G q) 282 [l0] [en_I 4, en_R a1] σ ↔ (en_nx σ + 1 ≤ G.2.2.2.2.1 ∧ en_ns σ + 4 ≤ G.2.2.2.2.2) ∧ en_J (X_X7_init G q) 284 [l0] [en_R (some (en_nx σ)), en_R a1] (en_newa σ 0 4) := ej_newa (m := 2) (t := 0) d_X7_init_282 rfl rfl (by decide +kernel) (by decide +kernel) (by decide)
theorem d_X7_init_284 : decode cX7_init 284 = .ok (.putfield 121, 3) := by decide +kernel
theorem j_X7_init_284 {G : en_G} {q : Option en_V → en_S → Prop}  {l0 : en_V} {a0 : Option Nat} {a1 : Option Nat} {σ : en_S} : en_J (X_X7_init G q) 284 [l0] [en_R a0, en_R a1] σ ↔ ∃ a, a1 = some a ∧ en_cl σ a = some 7 ∧ en_J (X_X7_init G q) 287 [l0] [] (en_sfr σ 744 a a0) := en_jg (st := fun o => [en_R a0, en_R o]) (st' := fun _ => []) (σ' := fun a => en_sfr σ 744 a a0) d_X7_init_284 rfl (fun a => rfl) (fun a => ⟨fun h => h.2.1, fun h => ⟨rfl, h, trivial, fun _ => rfl⟩⟩)
theorem d_X7_init_287 : decode cX7_init 287 = .ok (.aload_n 0, 1) := by decide +kernel
theorem j_X7_init_287 {G : en_G} {q : Option en_V → en_S → Prop}  {x0 : Option Nat} {σ : en_S} : en_J (X_X7_init G q) 287 [en_R x0] [] σ ↔ en_J (X_X7_init G q) 288 [en_R x0] [en_R x0] σ := en_j1 d_X7_init_287 rfl rfl
theorem d_X7_init_288 : decode cX7_init 288 = .ok (.iconst 4, 1) := by decide +kernel
theorem j_X7_init_288 {G : en_G} {q : Option en_V → en_S → Prop}  {l0 : en_V} {a0 : Option Nat} {σ : en_S} : en_J (X_X7_init G q) 288 [l0] [en_R a0] σ ↔ en_J (X_X7_init G q) 289 [l0] [en_I 4, en_R a0] σ := ej_iconst d_X7_init_288 (by decide +kernel)
theorem d_X7_init_289 : decode cX7_init 289 = .ok (.newarray .int, 2) := by decide +kernel
theorem j_X7_init_289 {G : en_G} {q : Option en_V → en_S → Prop}  {l0 : en_V} {a1 : Option Nat} {σ : en_S} : en_J (X_X7_init G q) 289 [l0] [en_I 4, en_R a1] σ ↔ (en_nx σ + 1 ≤ G.2.2.2.2.1 ∧ en_ns σ + 4 ≤ G.2.2.2.2.2) ∧ en_J (X_X7_init G q) 291 [l0] [en_R (some (en_nx σ)), en_R a1] (en_newa σ 0 4) := ej_newa (m := 2) (t := 0) d_X7_init_289 rfl rfl (by decide +kernel) (by decide +kernel) (by decide)
theorem d_X7_init_291 : decode cX7_init 291 = .ok (.putfield 124, 3) := by decide +kernel
theorem j_X7_init_291 {G : en_G} {q : Option en_V → en_S → Prop}  {l0 : en_V} {a0 : Option Nat} {a1 : Option Nat} {σ : en_S} : en_J (X_X7_init G q) 291 [l0] [en_R a0, en_R a1] σ ↔ ∃ a, a1 = some a ∧ en_cl σ a = some 7 ∧ en_J (X_X7_init G q) 294 [l0] [] (en_sfr σ 745 a a0) := en_jg (st := fun o => [en_R a0, en_R o]) (st' := fun _ => []) (σ' := fun a => en_sfr σ 745 a a0) d_X7_init_291 rfl (fun a => rfl) (fun a => ⟨fun h => h.2.1, fun h => ⟨rfl, h, trivial, fun _ => rfl⟩⟩)
theorem d_X7_init_294 : decode cX7_init 294 = .ok (.aload_n 0, 1) := by decide +kernel
theorem j_X7_init_294 {G : en_G} {q : Option en_V → en_S → Prop}  {x0 : Option Nat} {σ : en_S} : en_J (X_X7_init G q) 294 [en_R x0] [] σ ↔ en_J (X_X7_init G q) 295 [en_R x0] [en_R x0] σ := en_j1 d_X7_init_294 rfl rfl
theorem d_X7_init_295 : decode cX7_init 295 = .ok (.iconst 4, 1) := by decide +kernel
theorem j_X7_init_295 {G : en_G} {q : Option en_V → en_S → Prop}  {l0 : en_V} {a0 : Option Nat} {σ : en_S} : en_J (X_X7_init G q) 295 [l0] [en_R a0] σ ↔ en_J (X_X7_init G q) 296 [l0] [en_I 4, en_R a0] σ := ej_iconst d_X7_init_295 (by decide +kernel)
theorem d_X7_init_296 : decode cX7_init 296 = .ok (.newarray .boolean, 2) := by decide +kernel
theorem j_X7_init_296 {G : en_G} {q : Option en_V → en_S → Prop}  {l0 : en_V} {a1 : Option Nat} {σ : en_S} : en_J (X_X7_init G q) 296 [l0] [en_I 4, en_R a1] σ ↔ (en_nx σ + 1 ≤ G.2.2.2.2.1 ∧ en_ns σ + 4 ≤ G.2.2.2.2.2) ∧ en_J (X_X7_init G q) 298 [l0] [en_R (some (en_nx σ)), en_R a1] (en_newa σ 1 4) := ej_newa (m := 2) (t := 1) d_X7_init_296 rfl rfl (by decide +kernel) (by decide +kernel) (by decide)
theorem d_X7_init_298 : decode cX7_init 298 = .ok (.putfield 127, 3) := by decide +kernel
theorem j_X7_init_298 {G : en_G} {q : Option en_V → en_S → Prop}  {l0 : en_V} {a0 : Option Nat} {a1 : Option Nat} {σ : en_S} : en_J (X_X7_init G q) 298 [l0] [en_R a0, en_R a1] σ ↔ ∃ a, a1 = some a ∧ en_cl σ a = some 7 ∧ en_J (X_X7_init G q) 301 [l0] [] (en_sfr σ 746 a a0) := en_jg (st := fun o => [en_R a0, en_R o]) (st' := fun _ => []) (σ' := fun a => en_sfr σ 746 a a0) d_X7_init_298 rfl (fun a => rfl) (fun a => ⟨fun h => h.2.1, fun h => ⟨rfl, h, trivial, fun _ => rfl⟩⟩)
theorem d_X7_init_301 : decode cX7_init 301 = .ok (.aload_n 0, 1) := by decide +kernel
theorem j_X7_init_301 {G : en_G} {q : Option en_V → en_S → Prop}  {x0 : Option Nat} {σ : en_S} : en_J (X_X7_init G q) 301 [en_R x0] [] σ ↔ en_J (X_X7_init G q) 302 [en_R x0] [en_R x0] σ := en_j1 d_X7_init_301 rfl rfl
theorem d_X7_init_302 : decode cX7_init 302 = .ok (.iconst 4, 1) := by decide +kernel
theorem j_X7_init_302 {G : en_G} {q : Option en_V → en_S → Prop}  {l0 : en_V} {a0 : Option Nat} {σ : en_S} : en_J (X_X7_init G q) 302 [l0] [en_R a0] σ ↔ en_J (X_X7_init G q) 303 [l0] [en_I 4, en_R a0] σ := ej_iconst d_X7_init_302 (by decide +kernel)
theorem d_X7_init_303 : decode cX7_init 303 = .ok (.newarray .boolean, 2) := by decide +kernel
theorem j_X7_init_303 {G : en_G} {q : Option en_V → en_S → Prop}  {l0 : en_V} {a1 : Option Nat} {σ : en_S} : en_J (X_X7_init G q) 303 [l0] [en_I 4, en_R a1] σ ↔ (en_nx σ + 1 ≤ G.2.2.2.2.1 ∧ en_ns σ + 4 ≤ G.2.2.2.2.2) ∧ en_J (X_X7_init G q) 305 [l0] [en_R (some (en_nx σ)), en_R a1] (en_newa σ 1 4) := ej_newa (m := 2) (t := 1) d_X7_init_303 rfl rfl (by decide +kernel) (by decide +kernel) (by decide)
theorem d_X7_init_305 : decode cX7_init 305 = .ok (.putfield 130, 3) := by decide +kernel
theorem j_X7_init_305 {G : en_G} {q : Option en_V → en_S → Prop}  {l0 : en_V} {a0 : Option Nat} {a1 : Option Nat} {σ : en_S} : en_J (X_X7_init G q) 305 [l0] [en_R a0, en_R a1] σ ↔ ∃ a, a1 = some a ∧ en_cl σ a = some 7 ∧ en_J (X_X7_init G q) 308 [l0] [] (en_sfr σ 747 a a0) := en_jg (st := fun o => [en_R a0, en_R o]) (st' := fun _ => []) (σ' := fun a => en_sfr σ 747 a a0) d_X7_init_305 rfl (fun a => rfl) (fun a => ⟨fun h => h.2.1, fun h => ⟨rfl, h, trivial, fun _ => rfl⟩⟩)
theorem d_X7_init_308 : decode cX7_init 308 = .ok (.aload_n 0, 1) := by decide +kernel
theorem j_X7_init_308 {G : en_G} {q : Option en_V → en_S → Prop}  {x0 : Option Nat} {σ : en_S} : en_J (X_X7_init G q) 308 [en_R x0] [] σ ↔ en_J (X_X7_init G q) 309 [en_R x0] [en_R x0] σ := en_j1 d_X7_init_308 rfl rfl
theorem d_X7_init_309 : decode cX7_init 309 = .ok (.iconst 4, 1) := by decide +kernel
theorem j_X7_init_309 {G : en_G} {q : Option en_V → en_S → Prop}  {l0 : en_V} {a0 : Option Nat} {σ : en_S} : en_J (X_X7_init G q) 309 [l0] [en_R a0] σ ↔ en_J (X_X7_init G q) 310 [l0] [en_I 4, en_R a0] σ := ej_iconst d_X7_init_309 (by decide +kernel)
theorem d_X7_init_310 : decode cX7_init 310 = .ok (.newarray .boolean, 2) := by decide +kernel
theorem j_X7_init_310 {G : en_G} {q : Option en_V → en_S → Prop}  {l0 : en_V} {a1 : Option Nat} {σ : en_S} : en_J (X_X7_init G q) 310 [l0] [en_I 4, en_R a1] σ ↔ (en_nx σ + 1 ≤ G.2.2.2.2.1 ∧ en_ns σ + 4 ≤ G.2.2.2.2.2) ∧ en_J (X_X7_init G q) 312 [l0] [en_R (some (en_nx σ)), en_R a1] (en_newa σ 1 4) := ej_newa (m := 2) (t := 1) d_X7_init_310 rfl rfl (by decide +kernel) (by decide +kernel) (by decide)
theorem d_X7_init_312 : decode cX7_init 312 = .ok (.putfield 133, 3) := by decide +kernel
theorem j_X7_init_312 {G : en_G} {q : Option en_V → en_S → Prop}  {l0 : en_V} {a0 : Option Nat} {a1 : Option Nat} {σ : en_S} : en_J (X_X7_init G q) 312 [l0] [en_R a0, en_R a1] σ ↔ ∃ a, a1 = some a ∧ en_cl σ a = some 7 ∧ en_J (X_X7_init G q) 315 [l0] [] (en_sfr σ 748 a a0) := en_jg (st := fun o => [en_R a0, en_R o]) (st' := fun _ => []) (σ' := fun a => en_sfr σ 748 a a0) d_X7_init_312 rfl (fun a => rfl) (fun a => ⟨fun h => h.2.1, fun h => ⟨rfl, h, trivial, fun _ => rfl⟩⟩)
theorem d_X7_init_315 : decode cX7_init 315 = .ok (.aload_n 0, 1) := by decide +kernel
theorem j_X7_init_315 {G : en_G} {q : Option en_V → en_S → Prop}  {x0 : Option Nat} {σ : en_S} : en_J (X_X7_init G q) 315 [en_R x0] [] σ ↔ en_J (X_X7_init G q) 316 [en_R x0] [en_R x0] σ := en_j1 d_X7_init_315 rfl rfl
theorem d_X7_init_316 : decode cX7_init 316 = .ok (.iconst 4, 1) := by decide +kernel
theorem j_X7_init_316 {G : en_G} {q : Option en_V → en_S → Prop}  {l0 : en_V} {a0 : Option Nat} {σ : en_S} : en_J (X_X7_init G q) 316 [l0] [en_R a0] σ ↔ en_J (X_X7_init G q) 317 [l0] [en_I 4, en_R a0] σ := ej_iconst d_X7_init_316 (by decide +kernel)
theorem d_X7_init_317 : decode cX7_init 317 = .ok (.newarray .int, 2) := by decide +kernel
theorem j_X7_init_317 {G : en_G} {q : Option en_V → en_S → Prop}  {l0 : en_V} {a1 : Option Nat} {σ : en_S} : en_J (X_X7_init G q) 317 [l0] [en_I 4, en_R a1] σ ↔ (en_nx σ + 1 ≤ G.2.2.2.2.1 ∧ en_ns σ + 4 ≤ G.2.2.2.2.2) ∧ en_J (X_X7_init G q) 319 [l0] [en_R (some (en_nx σ)), en_R a1] (en_newa σ 0 4) := ej_newa (m := 2) (t := 0) d_X7_init_317 rfl rfl (by decide +kernel) (by decide +kernel) (by decide)
theorem d_X7_init_319 : decode cX7_init 319 = .ok (.putfield 136, 3) := by decide +kernel
theorem j_X7_init_319 {G : en_G} {q : Option en_V → en_S → Prop}  {l0 : en_V} {a0 : Option Nat} {a1 : Option Nat} {σ : en_S} : en_J (X_X7_init G q) 319 [l0] [en_R a0, en_R a1] σ ↔ ∃ a, a1 = some a ∧ en_cl σ a = some 7 ∧ en_J (X_X7_init G q) 322 [l0] [] (en_sfr σ 749 a a0) := en_jg (st := fun o => [en_R a0, en_R o]) (st' := fun _ => []) (σ' := fun a => en_sfr σ 749 a a0) d_X7_init_319 rfl (fun a => rfl) (fun a => ⟨fun h => h.2.1, fun h => ⟨rfl, h, trivial, fun _ => rfl⟩⟩)
theorem d_X7_init_322 : decode cX7_init 322 = .ok (.aload_n 0, 1) := by decide +kernel
theorem j_X7_init_322 {G : en_G} {q : Option en_V → en_S → Prop}  {x0 : Option Nat} {σ : en_S} : en_J (X_X7_init G q) 322 [en_R x0] [] σ ↔ en_J (X_X7_init G q) 323 [en_R x0] [en_R x0] σ := en_j1 d_X7_init_322 rfl rfl
theorem d_X7_init_323 : decode cX7_init 323 = .ok (.iconst 4, 1) := by decide +kernel
theorem j_X7_init_323 {G : en_G} {q : Option en_V → en_S → Prop}  {l0 : en_V} {a0 : Option Nat} {σ : en_S} : en_J (X_X7_init G q) 323 [l0] [en_R a0] σ ↔ en_J (X_X7_init G q) 324 [l0] [en_I 4, en_R a0] σ := ej_iconst d_X7_init_323 (by decide +kernel)
theorem d_X7_init_324 : decode cX7_init 324 = .ok (.newarray .int, 2) := by decide +kernel
theorem j_X7_init_324 {G : en_G} {q : Option en_V → en_S → Prop}  {l0 : en_V} {a1 : Option Nat} {σ : en_S} : en_J (X_X7_init G q) 324 [l0] [en_I 4, en_R a1] σ ↔ (en_nx σ + 1 ≤ G.2.2.2.2.1 ∧ en_ns σ + 4 ≤ G.2.2.2.2.2) ∧ en_J (X_X7_init G q) 326 [l0] [en_R (some (en_nx σ)), en_R a1] (en_newa σ 0 4) := ej_newa (m := 2) (t := 0) d_X7_init_324 rfl rfl (by decide +kernel) (by decide +kernel) (by decide)
theorem d_X7_init_326 : decode cX7_init 326 = .ok (.putfield 139, 3) := by decide +kernel
theorem j_X7_init_326 {G : en_G} {q : Option en_V → en_S → Prop}  {l0 : en_V} {a0 : Option Nat} {a1 : Option Nat} {σ : en_S} : en_J (X_X7_init G q) 326 [l0] [en_R a0, en_R a1] σ ↔ ∃ a, a1 = some a ∧ en_cl σ a = some 7 ∧ en_J (X_X7_init G q) 329 [l0] [] (en_sfr σ 750 a a0) := en_jg (st := fun o => [en_R a0, en_R o]) (st' := fun _ => []) (σ' := fun a => en_sfr σ 750 a a0) d_X7_init_326 rfl (fun a => rfl) (fun a => ⟨fun h => h.2.1, fun h => ⟨rfl, h, trivial, fun _ => rfl⟩⟩)
theorem d_X7_init_329 : decode cX7_init 329 = .ok (.aload_n 0, 1) := by decide +kernel
theorem j_X7_init_329 {G : en_G} {q : Option en_V → en_S → Prop}  {x0 : Option Nat} {σ : en_S} : en_J (X_X7_init G q) 329 [en_R x0] [] σ ↔ en_J (X_X7_init G q) 330 [en_R x0] [en_R x0] σ := en_j1 d_X7_init_329 rfl rfl
theorem d_X7_init_330 : decode cX7_init 330 = .ok (.iconst 4, 1) := by decide +kernel
theorem j_X7_init_330 {G : en_G} {q : Option en_V → en_S → Prop}  {l0 : en_V} {a0 : Option Nat} {σ : en_S} : en_J (X_X7_init G q) 330 [l0] [en_R a0] σ ↔ en_J (X_X7_init G q) 331 [l0] [en_I 4, en_R a0] σ := ej_iconst d_X7_init_330 (by decide +kernel)
theorem d_X7_init_331 : decode cX7_init 331 = .ok (.newarray .int, 2) := by decide +kernel
theorem j_X7_init_331 {G : en_G} {q : Option en_V → en_S → Prop}  {l0 : en_V} {a1 : Option Nat} {σ : en_S} : en_J (X_X7_init G q) 331 [l0] [en_I 4, en_R a1] σ ↔ (en_nx σ + 1 ≤ G.2.2.2.2.1 ∧ en_ns σ + 4 ≤ G.2.2.2.2.2) ∧ en_J (X_X7_init G q) 333 [l0] [en_R (some (en_nx σ)), en_R a1] (en_newa σ 0 4) := ej_newa (m := 2) (t := 0) d_X7_init_331 rfl rfl (by decide +kernel) (by decide +kernel) (by decide)
theorem d_X7_init_333 : decode cX7_init 333 = .ok (.putfield 142, 3) := by decide +kernel
theorem j_X7_init_333 {G : en_G} {q : Option en_V → en_S → Prop}  {l0 : en_V} {a0 : Option Nat} {a1 : Option Nat} {σ : en_S} : en_J (X_X7_init G q) 333 [l0] [en_R a0, en_R a1] σ ↔ ∃ a, a1 = some a ∧ en_cl σ a = some 7 ∧ en_J (X_X7_init G q) 336 [l0] [] (en_sfr σ 751 a a0) := en_jg (st := fun o => [en_R a0, en_R o]) (st' := fun _ => []) (σ' := fun a => en_sfr σ 751 a a0) d_X7_init_333 rfl (fun a => rfl) (fun a => ⟨fun h => h.2.1, fun h => ⟨rfl, h, trivial, fun _ => rfl⟩⟩)
theorem d_X7_init_336 : decode cX7_init 336 = .ok (.aload_n 0, 1) := by decide +kernel
theorem j_X7_init_336 {G : en_G} {q : Option en_V → en_S → Prop}  {x0 : Option Nat} {σ : en_S} : en_J (X_X7_init G q) 336 [en_R x0] [] σ ↔ en_J (X_X7_init G q) 337 [en_R x0] [en_R x0] σ := en_j1 d_X7_init_336 rfl rfl
theorem d_X7_init_337 : decode cX7_init 337 = .ok (.getfield 13, 3) := by decide +kernel
theorem j_X7_init_337 {G : en_G} {q : Option en_V → en_S → Prop}  {l0 : en_V} {a0 : Option Nat} {σ : en_S} : en_J (X_X7_init G q) 337 [l0] [en_R a0] σ ↔ ∃ a, a0 = some a ∧ en_cl σ a = some 7 ∧ en_J (X_X7_init G q) 340 [l0] [en_R (en_fr σ 702 a)] σ := en_jg (st := fun o => [en_R o]) (st' := fun a => [en_R (en_fr σ 702 a)]) (σ' := fun _ => σ) d_X7_init_337 rfl (fun a => rfl) (fun a => ⟨fun h => h.2, fun h => ⟨rfl, h⟩⟩)
theorem d_X7_init_340 : decode cX7_init 340 = .ok (.iconst 0, 1) := by decide +kernel
theorem j_X7_init_340 {G : en_G} {q : Option en_V → en_S → Prop}  {l0 : en_V} {a0 : Option Nat} {σ : en_S} : en_J (X_X7_init G q) 340 [l0] [en_R a0] σ ↔ en_J (X_X7_init G q) 341 [l0] [en_I 0, en_R a0] σ := ej_iconst d_X7_init_340 (by decide +kernel)
theorem d_X7_init_341 : decode cX7_init 341 = .ok (.iconst 3, 1) := by decide +kernel
theorem j_X7_init_341 {G : en_G} {q : Option en_V → en_S → Prop}  {l0 : en_V} {a0 : Int32} {a1 : Option Nat} {σ : en_S} : en_J (X_X7_init G q) 341 [l0] [en_I a0, en_R a1] σ ↔ en_J (X_X7_init G q) 342 [l0] [en_I 3, en_I a0, en_R a1] σ := ej_iconst d_X7_init_341 (by decide +kernel)
theorem d_X7_init_342 : decode cX7_init 342 = .ok (.iastore, 1) := by decide +kernel
theorem j_X7_init_342 {G : en_G} {q : Option en_V → en_S → Prop}  {l0 : en_V} {a0 : Int32} {a1 : Int32} {a2 : Option Nat} {σ : en_S} : en_J (X_X7_init G q) 342 [l0] [en_I a0, en_I a1, en_R a2] σ ↔ ∃ a, a2 = some a ∧ (∃ k, en_al σ a = some (0, k) ∧ vp_in a1 k) ∧ en_J (X_X7_init G q) 343 [l0] [] (en_sai σ a a1.toNatClampNeg a0) := ej_iastore d_X7_init_342
theorem d_X7_init_343 : decode cX7_init 343 = .ok (.aload_n 0, 1) := by decide +kernel
theorem j_X7_init_343 {G : en_G} {q : Option en_V → en_S → Prop}  {x0 : Option Nat} {σ : en_S} : en_J (X_X7_init G q) 343 [en_R x0] [] σ ↔ en_J (X_X7_init G q) 344 [en_R x0] [en_R x0] σ := en_j1 d_X7_init_343 rfl rfl
theorem d_X7_init_344 : decode cX7_init 344 = .ok (.getfield 20, 3) := by decide +kernel
theorem j_X7_init_344 {G : en_G} {q : Option en_V → en_S → Prop}  {l0 : en_V} {a0 : Option Nat} {σ : en_S} : en_J (X_X7_init G q) 344 [l0] [en_R a0] σ ↔ ∃ a, a0 = some a ∧ en_cl σ a = some 7 ∧ en_J (X_X7_init G q) 347 [l0] [en_R (en_fr σ 704 a)] σ := en_jg (st := fun o => [en_R o]) (st' := fun a => [en_R (en_fr σ 704 a)]) (σ' := fun _ => σ) d_X7_init_344 rfl (fun a => rfl) (fun a => ⟨fun h => h.2, fun h => ⟨rfl, h⟩⟩)
theorem d_X7_init_347 : decode cX7_init 347 = .ok (.iconst 0, 1) := by decide +kernel
theorem j_X7_init_347 {G : en_G} {q : Option en_V → en_S → Prop}  {l0 : en_V} {a0 : Option Nat} {σ : en_S} : en_J (X_X7_init G q) 347 [l0] [en_R a0] σ ↔ en_J (X_X7_init G q) 348 [l0] [en_I 0, en_R a0] σ := ej_iconst d_X7_init_347 (by decide +kernel)
theorem d_X7_init_348 : decode cX7_init 348 = .ok (.iconst (-1), 1) := by decide +kernel
theorem j_X7_init_348 {G : en_G} {q : Option en_V → en_S → Prop}  {l0 : en_V} {a0 : Int32} {a1 : Option Nat} {σ : en_S} : en_J (X_X7_init G q) 348 [l0] [en_I a0, en_R a1] σ ↔ en_J (X_X7_init G q) 349 [l0] [en_I (-1), en_I a0, en_R a1] σ := ej_iconst d_X7_init_348 (by decide +kernel)
theorem d_X7_init_349 : decode cX7_init 349 = .ok (.iastore, 1) := by decide +kernel
theorem j_X7_init_349 {G : en_G} {q : Option en_V → en_S → Prop}  {l0 : en_V} {a0 : Int32} {a1 : Int32} {a2 : Option Nat} {σ : en_S} : en_J (X_X7_init G q) 349 [l0] [en_I a0, en_I a1, en_R a2] σ ↔ ∃ a, a2 = some a ∧ (∃ k, en_al σ a = some (0, k) ∧ vp_in a1 k) ∧ en_J (X_X7_init G q) 350 [l0] [] (en_sai σ a a1.toNatClampNeg a0) := ej_iastore d_X7_init_349
theorem d_X7_init_350 : decode cX7_init 350 = .ok (.aload_n 0, 1) := by decide +kernel
theorem j_X7_init_350 {G : en_G} {q : Option en_V → en_S → Prop}  {x0 : Option Nat} {σ : en_S} : en_J (X_X7_init G q) 350 [en_R x0] [] σ ↔ en_J (X_X7_init G q) 351 [en_R x0] [en_R x0] σ := en_j1 d_X7_init_350 rfl rfl
theorem d_X7_init_351 : decode cX7_init 351 = .ok (.getfield 23, 3) := by decide +kernel
theorem j_X7_init_351 {G : en_G} {q : Option en_V → en_S → Prop}  {l0 : en_V} {a0 : Option Nat} {σ : en_S} : en_J (X_X7_init G q) 351 [l0] [en_R a0] σ ↔ ∃ a, a0 = some a ∧ en_cl σ a = some 7 ∧ en_J (X_X7_init G q) 354 [l0] [en_R (en_fr σ 705 a)] σ := en_jg (st := fun o => [en_R o]) (st' := fun a => [en_R (en_fr σ 705 a)]) (σ' := fun _ => σ) d_X7_init_351 rfl (fun a => rfl) (fun a => ⟨fun h => h.2, fun h => ⟨rfl, h⟩⟩)
theorem d_X7_init_354 : decode cX7_init 354 = .ok (.iconst 0, 1) := by decide +kernel
theorem j_X7_init_354 {G : en_G} {q : Option en_V → en_S → Prop}  {l0 : en_V} {a0 : Option Nat} {σ : en_S} : en_J (X_X7_init G q) 354 [l0] [en_R a0] σ ↔ en_J (X_X7_init G q) 355 [l0] [en_I 0, en_R a0] σ := ej_iconst d_X7_init_354 (by decide +kernel)
theorem d_X7_init_355 : decode cX7_init 355 = .ok (.iconst (-1), 1) := by decide +kernel
theorem j_X7_init_355 {G : en_G} {q : Option en_V → en_S → Prop}  {l0 : en_V} {a0 : Int32} {a1 : Option Nat} {σ : en_S} : en_J (X_X7_init G q) 355 [l0] [en_I a0, en_R a1] σ ↔ en_J (X_X7_init G q) 356 [l0] [en_I (-1), en_I a0, en_R a1] σ := ej_iconst d_X7_init_355 (by decide +kernel)
theorem d_X7_init_356 : decode cX7_init 356 = .ok (.iastore, 1) := by decide +kernel
theorem j_X7_init_356 {G : en_G} {q : Option en_V → en_S → Prop}  {l0 : en_V} {a0 : Int32} {a1 : Int32} {a2 : Option Nat} {σ : en_S} : en_J (X_X7_init G q) 356 [l0] [en_I a0, en_I a1, en_R a2] σ ↔ ∃ a, a2 = some a ∧ (∃ k, en_al σ a = some (0, k) ∧ vp_in a1 k) ∧ en_J (X_X7_init G q) 357 [l0] [] (en_sai σ a a1.toNatClampNeg a0) := ej_iastore d_X7_init_356
theorem d_X7_init_357 : decode cX7_init 357 = .ok (.aload_n 0, 1) := by decide +kernel
theorem j_X7_init_357 {G : en_G} {q : Option en_V → en_S → Prop}  {x0 : Option Nat} {σ : en_S} : en_J (X_X7_init G q) 357 [en_R x0] [] σ ↔ en_J (X_X7_init G q) 358 [en_R x0] [en_R x0] σ := en_j1 d_X7_init_357 rfl rfl
theorem d_X7_init_358 : decode cX7_init 358 = .ok (.getfield 26, 3) := by decide +kernel
theorem j_X7_init_358 {G : en_G} {q : Option en_V → en_S → Prop}  {l0 : en_V} {a0 : Option Nat} {σ : en_S} : en_J (X_X7_init G q) 358 [l0] [en_R a0] σ ↔ ∃ a, a0 = some a ∧ en_cl σ a = some 7 ∧ en_J (X_X7_init G q) 361 [l0] [en_R (en_fr σ 706 a)] σ := en_jg (st := fun o => [en_R o]) (st' := fun a => [en_R (en_fr σ 706 a)]) (σ' := fun _ => σ) d_X7_init_358 rfl (fun a => rfl) (fun a => ⟨fun h => h.2, fun h => ⟨rfl, h⟩⟩)
theorem d_X7_init_361 : decode cX7_init 361 = .ok (.iconst 0, 1) := by decide +kernel
theorem j_X7_init_361 {G : en_G} {q : Option en_V → en_S → Prop}  {l0 : en_V} {a0 : Option Nat} {σ : en_S} : en_J (X_X7_init G q) 361 [l0] [en_R a0] σ ↔ en_J (X_X7_init G q) 362 [l0] [en_I 0, en_R a0] σ := ej_iconst d_X7_init_361 (by decide +kernel)
theorem d_X7_init_362 : decode cX7_init 362 = .ok (.iconst (-1), 1) := by decide +kernel
theorem j_X7_init_362 {G : en_G} {q : Option en_V → en_S → Prop}  {l0 : en_V} {a0 : Int32} {a1 : Option Nat} {σ : en_S} : en_J (X_X7_init G q) 362 [l0] [en_I a0, en_R a1] σ ↔ en_J (X_X7_init G q) 363 [l0] [en_I (-1), en_I a0, en_R a1] σ := ej_iconst d_X7_init_362 (by decide +kernel)
theorem d_X7_init_363 : decode cX7_init 363 = .ok (.iastore, 1) := by decide +kernel
theorem j_X7_init_363 {G : en_G} {q : Option en_V → en_S → Prop}  {l0 : en_V} {a0 : Int32} {a1 : Int32} {a2 : Option Nat} {σ : en_S} : en_J (X_X7_init G q) 363 [l0] [en_I a0, en_I a1, en_R a2] σ ↔ ∃ a, a2 = some a ∧ (∃ k, en_al σ a = some (0, k) ∧ vp_in a1 k) ∧ en_J (X_X7_init G q) 364 [l0] [] (en_sai σ a a1.toNatClampNeg a0) := ej_iastore d_X7_init_363
theorem d_X7_init_364 : decode cX7_init 364 = .ok (.return_, 1) := by decide +kernel
theorem j_X7_init_364 {G : en_G} {q : Option en_V → en_S → Prop}  {l0 : en_V}  {σ : en_S} : en_J (X_X7_init G q) 364 [l0] [] σ ↔ q none σ := en_jr d_X7_init_364 rfl ⟨fun h => h.2.2, fun h => ⟨rfl, rfl, h⟩⟩
theorem wc_X7_init : Jvm.Cond.code yX7_init cX7_init 1 none ∈ en_W := en_inW (List.mem_of_getElem? (i := 692) (by decide +kernel)) (by decide +kernel)
theorem wi_X7_init : Jvm.Cond.instanceMethod yX7_init ∈ en_W := en_inW (List.mem_of_getElem? (i := 691) (by decide +kernel)) (by decide +kernel)
theorem ji_4 {G : en_G} {q : Option en_V → en_S → Prop} {m : Nat} {σ0 σ : en_S} (h : IQ σ0 m 0 0 (0) (0) (0) σ) (r1 : m + 42 ≤ G.2.2.2.2.1) (r2 : en_ns σ0 + 1692 ≤ G.2.2.2.2.2) (hq : ∀ σ', IQ σ0 m 0 0 (0) (0) (1) σ' → en_J (X_X7_init G q) 9 [en_R (some m)] [] σ') : en_J (X_X7_init G q) 4 [en_R (some m)] [] σ := by
  have hc := h.1.1
  simp only [j_X7_init_4, j_X7_init_5, j_X7_init_6, en_c2I, en_c2R, en_c2U, en_c2D, Option.some.injEq, exists_eq_left', exists_eq_left, Option.map_some, Option.map_none, not_true_eq_false, false_implies, true_implies, and_true, true_and, reduceCtorEq, not_false_eq_true, true_or, or_true, hc]
  refine hq _ ⟨h.1.fi _ _, h.2.1, h.2.2.1.tr (ag_sfi (fun a z => z)), fun f => ?_⟩
  rw [eg_fi_sfi, h.2.2.2 f]
  by_cases e : f = 701
  · rw [if_pos ⟨e, rfl⟩, e]; rfl
  · rw [if_neg (fun z => e z.1)]
    repeat' split
    all_goals first | rfl | omega
theorem ji_9 {G : en_G} {q : Option en_V → en_S → Prop} {m : Nat} {σ0 σ : en_S} (h : IQ σ0 m 0 0 (0) (0) (1) σ) (r1 : m + 42 ≤ G.2.2.2.2.1) (r2 : en_ns σ0 + 1692 ≤ G.2.2.2.2.2) (hq : ∀ σ', IQ σ0 m 1 24 (0) (0) (1) σ' → en_J (X_X7_init G q) 17 [en_R (some m)] [] σ') : en_J (X_X7_init G q) 9 [en_R (some m)] [] σ := by
  have hc : en_cl (en_newa σ 0 24) m = some 7 := h.1.1
  have e1 := h.1.2.1
  have e2 := h.2.1
  simp only [j_X7_init_9, j_X7_init_10, j_X7_init_12, j_X7_init_14, en_c2I, en_c2R, en_c2U, en_c2D, Option.some.injEq, exists_eq_left', exists_eq_left, Option.map_some, Option.map_none, not_true_eq_false, false_implies, true_implies, and_true, true_and, reduceCtorEq, not_false_eq_true, true_or, or_true, hc]
  exact ⟨⟨by omega, by omega⟩, hq _ (h.st rfl (by decide))⟩
theorem ji_17 {G : en_G} {q : Option en_V → en_S → Prop} {m : Nat} {σ0 σ : en_S} (h : IQ σ0 m 1 24 (0) (0) (1) σ) (r1 : m + 42 ≤ G.2.2.2.2.1) (r2 : en_ns σ0 + 1692 ≤ G.2.2.2.2.2) (hq : ∀ σ', IQ σ0 m 2 48 (0) (0) (1) σ' → en_J (X_X7_init G q) 25 [en_R (some m)] [] σ') : en_J (X_X7_init G q) 17 [en_R (some m)] [] σ := by
  have hc : en_cl (en_newa σ 0 24) m = some 7 := h.1.1
  have e1 := h.1.2.1
  have e2 := h.2.1
  simp only [j_X7_init_17, j_X7_init_18, j_X7_init_20, j_X7_init_22, en_c2I, en_c2R, en_c2U, en_c2D, Option.some.injEq, exists_eq_left', exists_eq_left, Option.map_some, Option.map_none, not_true_eq_false, false_implies, true_implies, and_true, true_and, reduceCtorEq, not_false_eq_true, true_or, or_true, hc]
  exact ⟨⟨by omega, by omega⟩, hq _ (h.st rfl (by decide))⟩
theorem ji_25 {G : en_G} {q : Option en_V → en_S → Prop} {m : Nat} {σ0 σ : en_S} (h : IQ σ0 m 2 48 (0) (0) (1) σ) (r1 : m + 42 ≤ G.2.2.2.2.1) (r2 : en_ns σ0 + 1692 ≤ G.2.2.2.2.2) (hq : ∀ σ', IQ σ0 m 3 72 (0) (0) (1) σ' → en_J (X_X7_init G q) 33 [en_R (some m)] [] σ') : en_J (X_X7_init G q) 25 [en_R (some m)] [] σ := by
  have hc : en_cl (en_newa σ 0 24) m = some 7 := h.1.1
  have e1 := h.1.2.1
  have e2 := h.2.1
  simp only [j_X7_init_25, j_X7_init_26, j_X7_init_28, j_X7_init_30, en_c2I, en_c2R, en_c2U, en_c2D, Option.some.injEq, exists_eq_left', exists_eq_left, Option.map_some, Option.map_none, not_true_eq_false, false_implies, true_implies, and_true, true_and, reduceCtorEq, not_false_eq_true, true_or, or_true, hc]
  exact ⟨⟨by omega, by omega⟩, hq _ (h.st rfl (by decide))⟩
theorem ji_33 {G : en_G} {q : Option en_V → en_S → Prop} {m : Nat} {σ0 σ : en_S} (h : IQ σ0 m 3 72 (0) (0) (1) σ) (r1 : m + 42 ≤ G.2.2.2.2.1) (r2 : en_ns σ0 + 1692 ≤ G.2.2.2.2.2) (hq : ∀ σ', IQ σ0 m 4 96 (0) (0) (1) σ' → en_J (X_X7_init G q) 41 [en_R (some m)] [] σ') : en_J (X_X7_init G q) 33 [en_R (some m)] [] σ := by
  have hc : en_cl (en_newa σ 0 24) m = some 7 := h.1.1
  have e1 := h.1.2.1
  have e2 := h.2.1
  simp only [j_X7_init_33, j_X7_init_34, j_X7_init_36, j_X7_init_38, en_c2I, en_c2R, en_c2U, en_c2D, Option.some.injEq, exists_eq_left', exists_eq_left, Option.map_some, Option.map_none, not_true_eq_false, false_implies, true_implies, and_true, true_and, reduceCtorEq, not_false_eq_true, true_or, or_true, hc]
  exact ⟨⟨by omega, by omega⟩, hq _ (h.st rfl (by decide))⟩
theorem ji_41 {G : en_G} {q : Option en_V → en_S → Prop} {m : Nat} {σ0 σ : en_S} (h : IQ σ0 m 4 96 (0) (0) (1) σ) (r1 : m + 42 ≤ G.2.2.2.2.1) (r2 : en_ns σ0 + 1692 ≤ G.2.2.2.2.2) (hq : ∀ σ', IQ σ0 m 5 120 (0) (0) (1) σ' → en_J (X_X7_init G q) 49 [en_R (some m)] [] σ') : en_J (X_X7_init G q) 41 [en_R (some m)] [] σ := by
  have hc : en_cl (en_newa σ 0 24) m = some 7 := h.1.1
  have e1 := h.1.2.1
  have e2 := h.2.1
  simp only [j_X7_init_41, j_X7_init_42, j_X7_init_44, j_X7_init_46, en_c2I, en_c2R, en_c2U, en_c2D, Option.some.injEq, exists_eq_left', exists_eq_left, Option.map_some, Option.map_none, not_true_eq_false, false_implies, true_implies, and_true, true_and, reduceCtorEq, not_false_eq_true, true_or, or_true, hc]
  exact ⟨⟨by omega, by omega⟩, hq _ (h.st rfl (by decide))⟩
theorem ji_49 {G : en_G} {q : Option en_V → en_S → Prop} {m : Nat} {σ0 σ : en_S} (h : IQ σ0 m 5 120 (0) (0) (1) σ) (r1 : m + 42 ≤ G.2.2.2.2.1) (r2 : en_ns σ0 + 1692 ≤ G.2.2.2.2.2) (hq : ∀ σ', IQ σ0 m 6 144 (0) (0) (1) σ' → en_J (X_X7_init G q) 57 [en_R (some m)] [] σ') : en_J (X_X7_init G q) 49 [en_R (some m)] [] σ := by
  have hc : en_cl (en_newa σ 1 24) m = some 7 := h.1.1
  have e1 := h.1.2.1
  have e2 := h.2.1
  simp only [j_X7_init_49, j_X7_init_50, j_X7_init_52, j_X7_init_54, en_c2I, en_c2R, en_c2U, en_c2D, Option.some.injEq, exists_eq_left', exists_eq_left, Option.map_some, Option.map_none, not_true_eq_false, false_implies, true_implies, and_true, true_and, reduceCtorEq, not_false_eq_true, true_or, or_true, hc]
  exact ⟨⟨by omega, by omega⟩, hq _ (h.st rfl (by decide))⟩
theorem ji_57 {G : en_G} {q : Option en_V → en_S → Prop} {m : Nat} {σ0 σ : en_S} (h : IQ σ0 m 6 144 (0) (0) (1) σ) (r1 : m + 42 ≤ G.2.2.2.2.1) (r2 : en_ns σ0 + 1692 ≤ G.2.2.2.2.2) (hq : ∀ σ', IQ σ0 m 7 168 (0) (0) (1) σ' → en_J (X_X7_init G q) 65 [en_R (some m)] [] σ') : en_J (X_X7_init G q) 57 [en_R (some m)] [] σ := by
  have hc : en_cl (en_newa σ 0 24) m = some 7 := h.1.1
  have e1 := h.1.2.1
  have e2 := h.2.1
  simp only [j_X7_init_57, j_X7_init_58, j_X7_init_60, j_X7_init_62, en_c2I, en_c2R, en_c2U, en_c2D, Option.some.injEq, exists_eq_left', exists_eq_left, Option.map_some, Option.map_none, not_true_eq_false, false_implies, true_implies, and_true, true_and, reduceCtorEq, not_false_eq_true, true_or, or_true, hc]
  exact ⟨⟨by omega, by omega⟩, hq _ (h.st rfl (by decide))⟩
theorem ji_65 {G : en_G} {q : Option en_V → en_S → Prop} {m : Nat} {σ0 σ : en_S} (h : IQ σ0 m 7 168 (0) (0) (1) σ) (r1 : m + 42 ≤ G.2.2.2.2.1) (r2 : en_ns σ0 + 1692 ≤ G.2.2.2.2.2) (hq : ∀ σ', IQ σ0 m 8 744 (0) (0) (1) σ' → en_J (X_X7_init G q) 74 [en_R (some m)] [] σ') : en_J (X_X7_init G q) 65 [en_R (some m)] [] σ := by
  have hc : en_cl (en_newa σ 0 576) m = some 7 := h.1.1
  have e1 := h.1.2.1
  have e2 := h.2.1
  simp only [j_X7_init_65, j_X7_init_66, j_X7_init_69, j_X7_init_71, en_c2I, en_c2R, en_c2U, en_c2D, Option.some.injEq, exists_eq_left', exists_eq_left, Option.map_some, Option.map_none, not_true_eq_false, false_implies, true_implies, and_true, true_and, reduceCtorEq, not_false_eq_true, true_or, or_true, hc]
  exact ⟨⟨by omega, by omega⟩, hq _ (h.st rfl (by decide))⟩
theorem ji_74 {G : en_G} {q : Option en_V → en_S → Prop} {m : Nat} {σ0 σ : en_S} (h : IQ σ0 m 8 744 (0) (0) (1) σ) (r1 : m + 42 ≤ G.2.2.2.2.1) (r2 : en_ns σ0 + 1692 ≤ G.2.2.2.2.2) (hq : ∀ σ', IQ σ0 m 9 784 (0) (0) (1) σ' → en_J (X_X7_init G q) 82 [en_R (some m)] [] σ') : en_J (X_X7_init G q) 74 [en_R (some m)] [] σ := by
  have hc : en_cl (en_newa σ 0 40) m = some 7 := h.1.1
  have e1 := h.1.2.1
  have e2 := h.2.1
  simp only [j_X7_init_74, j_X7_init_75, j_X7_init_77, j_X7_init_79, en_c2I, en_c2R, en_c2U, en_c2D, Option.some.injEq, exists_eq_left', exists_eq_left, Option.map_some, Option.map_none, not_true_eq_false, false_implies, true_implies, and_true, true_and, reduceCtorEq, not_false_eq_true, true_or, or_true, hc]
  exact ⟨⟨by omega, by omega⟩, hq _ (h.st rfl (by decide))⟩
theorem ji_82 {G : en_G} {q : Option en_V → en_S → Prop} {m : Nat} {σ0 σ : en_S} (h : IQ σ0 m 9 784 (0) (0) (1) σ) (r1 : m + 42 ≤ G.2.2.2.2.1) (r2 : en_ns σ0 + 1692 ≤ G.2.2.2.2.2) (hq : ∀ σ', IQ σ0 m 10 824 (0) (0) (1) σ' → en_J (X_X7_init G q) 90 [en_R (some m)] [] σ') : en_J (X_X7_init G q) 82 [en_R (some m)] [] σ := by
  have hc : en_cl (en_newa σ 0 40) m = some 7 := h.1.1
  have e1 := h.1.2.1
  have e2 := h.2.1
  simp only [j_X7_init_82, j_X7_init_83, j_X7_init_85, j_X7_init_87, en_c2I, en_c2R, en_c2U, en_c2D, Option.some.injEq, exists_eq_left', exists_eq_left, Option.map_some, Option.map_none, not_true_eq_false, false_implies, true_implies, and_true, true_and, reduceCtorEq, not_false_eq_true, true_or, or_true, hc]
  exact ⟨⟨by omega, by omega⟩, hq _ (h.st rfl (by decide))⟩
theorem ji_90 {G : en_G} {q : Option en_V → en_S → Prop} {m : Nat} {σ0 σ : en_S} (h : IQ σ0 m 10 824 (0) (0) (1) σ) (r1 : m + 42 ≤ G.2.2.2.2.1) (r2 : en_ns σ0 + 1692 ≤ G.2.2.2.2.2) (hq : ∀ σ', IQ σ0 m 11 864 (0) (0) (1) σ' → en_J (X_X7_init G q) 98 [en_R (some m)] [] σ') : en_J (X_X7_init G q) 90 [en_R (some m)] [] σ := by
  have hc : en_cl (en_newa σ 0 40) m = some 7 := h.1.1
  have e1 := h.1.2.1
  have e2 := h.2.1
  simp only [j_X7_init_90, j_X7_init_91, j_X7_init_93, j_X7_init_95, en_c2I, en_c2R, en_c2U, en_c2D, Option.some.injEq, exists_eq_left', exists_eq_left, Option.map_some, Option.map_none, not_true_eq_false, false_implies, true_implies, and_true, true_and, reduceCtorEq, not_false_eq_true, true_or, or_true, hc]
  exact ⟨⟨by omega, by omega⟩, hq _ (h.st rfl (by decide))⟩
theorem ji_98 {G : en_G} {q : Option en_V → en_S → Prop} {m : Nat} {σ0 σ : en_S} (h : IQ σ0 m 11 864 (0) (0) (1) σ) (r1 : m + 42 ≤ G.2.2.2.2.1) (r2 : en_ns σ0 + 1692 ≤ G.2.2.2.2.2) (hq : ∀ σ', IQ σ0 m 12 904 (0) (0) (1) σ' → en_J (X_X7_init G q) 106 [en_R (some m)] [] σ') : en_J (X_X7_init G q) 98 [en_R (some m)] [] σ := by
  have hc : en_cl (en_newa σ 0 40) m = some 7 := h.1.1
  have e1 := h.1.2.1
  have e2 := h.2.1
  simp only [j_X7_init_98, j_X7_init_99, j_X7_init_101, j_X7_init_103, en_c2I, en_c2R, en_c2U, en_c2D, Option.some.injEq, exists_eq_left', exists_eq_left, Option.map_some, Option.map_none, not_true_eq_false, false_implies, true_implies, and_true, true_and, reduceCtorEq, not_false_eq_true, true_or, or_true, hc]
  exact ⟨⟨by omega, by omega⟩, hq _ (h.st rfl (by decide))⟩
theorem ji_106 {G : en_G} {q : Option en_V → en_S → Prop} {m : Nat} {σ0 σ : en_S} (h : IQ σ0 m 12 904 (0) (0) (1) σ) (r1 : m + 42 ≤ G.2.2.2.2.1) (r2 : en_ns σ0 + 1692 ≤ G.2.2.2.2.2) (hq : ∀ σ', IQ σ0 m 13 944 (0) (0) (1) σ' → en_J (X_X7_init G q) 114 [en_R (some m)] [] σ') : en_J (X_X7_init G q) 106 [en_R (some m)] [] σ := by
  have hc : en_cl (en_newa σ 1 40) m = some 7 := h.1.1
  have e1 := h.1.2.1
  have e2 := h.2.1
  simp only [j_X7_init_106, j_X7_init_107, j_X7_init_109, j_X7_init_111, en_c2I, en_c2R, en_c2U, en_c2D, Option.some.injEq, exists_eq_left', exists_eq_left, Option.map_some, Option.map_none, not_true_eq_false, false_implies, true_implies, and_true, true_and, reduceCtorEq, not_false_eq_true, true_or, or_true, hc]
  exact ⟨⟨by omega, by omega⟩, hq _ (h.st rfl (by decide))⟩
theorem ji_114 {G : en_G} {q : Option en_V → en_S → Prop} {m : Nat} {σ0 σ : en_S} (h : IQ σ0 m 13 944 (0) (0) (1) σ) (r1 : m + 42 ≤ G.2.2.2.2.1) (r2 : en_ns σ0 + 1692 ≤ G.2.2.2.2.2) (hq : ∀ σ', IQ σ0 m 14 952 (0) (0) (1) σ' → en_J (X_X7_init G q) 122 [en_R (some m)] [] σ') : en_J (X_X7_init G q) 114 [en_R (some m)] [] σ := by
  have hc : en_cl (en_newa σ 0 8) m = some 7 := h.1.1
  have e1 := h.1.2.1
  have e2 := h.2.1
  simp only [j_X7_init_114, j_X7_init_115, j_X7_init_117, j_X7_init_119, en_c2I, en_c2R, en_c2U, en_c2D, Option.some.injEq, exists_eq_left', exists_eq_left, Option.map_some, Option.map_none, not_true_eq_false, false_implies, true_implies, and_true, true_and, reduceCtorEq, not_false_eq_true, true_or, or_true, hc]
  exact ⟨⟨by omega, by omega⟩, hq _ (h.st rfl (by decide))⟩
theorem ji_122 {G : en_G} {q : Option en_V → en_S → Prop} {m : Nat} {σ0 σ : en_S} (h : IQ σ0 m 14 952 (0) (0) (1) σ) (r1 : m + 42 ≤ G.2.2.2.2.1) (r2 : en_ns σ0 + 1692 ≤ G.2.2.2.2.2) (hq : ∀ σ', IQ σ0 m 15 992 (0) (0) (1) σ' → en_J (X_X7_init G q) 130 [en_R (some m)] [] σ') : en_J (X_X7_init G q) 122 [en_R (some m)] [] σ := by
  have hc : en_cl (en_newa σ 0 40) m = some 7 := h.1.1
  have e1 := h.1.2.1
  have e2 := h.2.1
  simp only [j_X7_init_122, j_X7_init_123, j_X7_init_125, j_X7_init_127, en_c2I, en_c2R, en_c2U, en_c2D, Option.some.injEq, exists_eq_left', exists_eq_left, Option.map_some, Option.map_none, not_true_eq_false, false_implies, true_implies, and_true, true_and, reduceCtorEq, not_false_eq_true, true_or, or_true, hc]
  exact ⟨⟨by omega, by omega⟩, hq _ (h.st rfl (by decide))⟩
theorem ji_130 {G : en_G} {q : Option en_V → en_S → Prop} {m : Nat} {σ0 σ : en_S} (h : IQ σ0 m 15 992 (0) (0) (1) σ) (r1 : m + 42 ≤ G.2.2.2.2.1) (r2 : en_ns σ0 + 1692 ≤ G.2.2.2.2.2) (hq : ∀ σ', IQ σ0 m 16 1032 (0) (0) (1) σ' → en_J (X_X7_init G q) 138 [en_R (some m)] [] σ') : en_J (X_X7_init G q) 130 [en_R (some m)] [] σ := by
  have hc : en_cl (en_newa σ 0 40) m = some 7 := h.1.1
  have e1 := h.1.2.1
  have e2 := h.2.1
  simp only [j_X7_init_130, j_X7_init_131, j_X7_init_133, j_X7_init_135, en_c2I, en_c2R, en_c2U, en_c2D, Option.some.injEq, exists_eq_left', exists_eq_left, Option.map_some, Option.map_none, not_true_eq_false, false_implies, true_implies, and_true, true_and, reduceCtorEq, not_false_eq_true, true_or, or_true, hc]
  exact ⟨⟨by omega, by omega⟩, hq _ (h.st rfl (by decide))⟩
theorem ji_138 {G : en_G} {q : Option en_V → en_S → Prop} {m : Nat} {σ0 σ : en_S} (h : IQ σ0 m 16 1032 (0) (0) (1) σ) (r1 : m + 42 ≤ G.2.2.2.2.1) (r2 : en_ns σ0 + 1692 ≤ G.2.2.2.2.2) (hq : ∀ σ', IQ σ0 m 17 1056 (0) (0) (1) σ' → en_J (X_X7_init G q) 146 [en_R (some m)] [] σ') : en_J (X_X7_init G q) 138 [en_R (some m)] [] σ := by
  have hc : en_cl (en_newa σ 1 24) m = some 7 := h.1.1
  have e1 := h.1.2.1
  have e2 := h.2.1
  simp only [j_X7_init_138, j_X7_init_139, j_X7_init_141, j_X7_init_143, en_c2I, en_c2R, en_c2U, en_c2D, Option.some.injEq, exists_eq_left', exists_eq_left, Option.map_some, Option.map_none, not_true_eq_false, false_implies, true_implies, and_true, true_and, reduceCtorEq, not_false_eq_true, true_or, or_true, hc]
  exact ⟨⟨by omega, by omega⟩, hq _ (h.st rfl (by decide))⟩
theorem ji_146 {G : en_G} {q : Option en_V → en_S → Prop} {m : Nat} {σ0 σ : en_S} (h : IQ σ0 m 17 1056 (0) (0) (1) σ) (r1 : m + 42 ≤ G.2.2.2.2.1) (r2 : en_ns σ0 + 1692 ≤ G.2.2.2.2.2) (hq : ∀ σ', IQ σ0 m 18 1080 (0) (0) (1) σ' → en_J (X_X7_init G q) 154 [en_R (some m)] [] σ') : en_J (X_X7_init G q) 146 [en_R (some m)] [] σ := by
  have hc : en_cl (en_newa σ 2 24) m = some 7 := h.1.1
  have e1 := h.1.2.1
  have e2 := h.2.1
  simp only [j_X7_init_146, j_X7_init_147, j_X7_init_149, j_X7_init_151, en_c2I, en_c2R, en_c2U, en_c2D, Option.some.injEq, exists_eq_left', exists_eq_left, Option.map_some, Option.map_none, not_true_eq_false, false_implies, true_implies, and_true, true_and, reduceCtorEq, not_false_eq_true, true_or, or_true, hc]
  exact ⟨⟨by omega, by omega⟩, hq _ (h.st rfl (by decide))⟩
theorem ji_154 {G : en_G} {q : Option en_V → en_S → Prop} {m : Nat} {σ0 σ : en_S} (h : IQ σ0 m 18 1080 (0) (0) (1) σ) (r1 : m + 42 ≤ G.2.2.2.2.1) (r2 : en_ns σ0 + 1692 ≤ G.2.2.2.2.2) (hq : ∀ σ', IQ σ0 m 19 1104 (0) (0) (1) σ' → en_J (X_X7_init G q) 162 [en_R (some m)] [] σ') : en_J (X_X7_init G q) 154 [en_R (some m)] [] σ := by
  have hc : en_cl (en_newa σ 2 24) m = some 7 := h.1.1
  have e1 := h.1.2.1
  have e2 := h.2.1
  simp only [j_X7_init_154, j_X7_init_155, j_X7_init_157, j_X7_init_159, en_c2I, en_c2R, en_c2U, en_c2D, Option.some.injEq, exists_eq_left', exists_eq_left, Option.map_some, Option.map_none, not_true_eq_false, false_implies, true_implies, and_true, true_and, reduceCtorEq, not_false_eq_true, true_or, or_true, hc]
  exact ⟨⟨by omega, by omega⟩, hq _ (h.st rfl (by decide))⟩
theorem ji_162 {G : en_G} {q : Option en_V → en_S → Prop} {m : Nat} {σ0 σ : en_S} (h : IQ σ0 m 19 1104 (0) (0) (1) σ) (r1 : m + 42 ≤ G.2.2.2.2.1) (r2 : en_ns σ0 + 1692 ≤ G.2.2.2.2.2) (hq : ∀ σ', IQ σ0 m 20 1128 (0) (0) (1) σ' → en_J (X_X7_init G q) 170 [en_R (some m)] [] σ') : en_J (X_X7_init G q) 162 [en_R (some m)] [] σ := by
  have hc : en_cl (en_newa σ 2 24) m = some 7 := h.1.1
  have e1 := h.1.2.1
  have e2 := h.2.1
  simp only [j_X7_init_162, j_X7_init_163, j_X7_init_165, j_X7_init_167, en_c2I, en_c2R, en_c2U, en_c2D, Option.some.injEq, exists_eq_left', exists_eq_left, Option.map_some, Option.map_none, not_true_eq_false, false_implies, true_implies, and_true, true_and, reduceCtorEq, not_false_eq_true, true_or, or_true, hc]
  exact ⟨⟨by omega, by omega⟩, hq _ (h.st rfl (by decide))⟩
theorem ji_170 {G : en_G} {q : Option en_V → en_S → Prop} {m : Nat} {σ0 σ : en_S} (h : IQ σ0 m 20 1128 (0) (0) (1) σ) (r1 : m + 42 ≤ G.2.2.2.2.1) (r2 : en_ns σ0 + 1692 ≤ G.2.2.2.2.2) (hq : ∀ σ', IQ σ0 m 21 1152 (0) (0) (1) σ' → en_J (X_X7_init G q) 178 [en_R (some m)] [] σ') : en_J (X_X7_init G q) 170 [en_R (some m)] [] σ := by
  have hc : en_cl (en_newa σ 2 24) m = some 7 := h.1.1
  have e1 := h.1.2.1
  have e2 := h.2.1
  simp only [j_X7_init_170, j_X7_init_171, j_X7_init_173, j_X7_init_175, en_c2I, en_c2R, en_c2U, en_c2D, Option.some.injEq, exists_eq_left', exists_eq_left, Option.map_some, Option.map_none, not_true_eq_false, false_implies, true_implies, and_true, true_and, reduceCtorEq, not_false_eq_true, true_or, or_true, hc]
  exact ⟨⟨by omega, by omega⟩, hq _ (h.st rfl (by decide))⟩
theorem ji_178 {G : en_G} {q : Option en_V → en_S → Prop} {m : Nat} {σ0 σ : en_S} (h : IQ σ0 m 21 1152 (0) (0) (1) σ) (r1 : m + 42 ≤ G.2.2.2.2.1) (r2 : en_ns σ0 + 1692 ≤ G.2.2.2.2.2) (hq : ∀ σ', IQ σ0 m 22 1176 (0) (0) (1) σ' → en_J (X_X7_init G q) 186 [en_R (some m)] [] σ') : en_J (X_X7_init G q) 178 [en_R (some m)] [] σ := by
  have hc : en_cl (en_newa σ 2 24) m = some 7 := h.1.1
  have e1 := h.1.2.1
  have e2 := h.2.1
  simp only [j_X7_init_178, j_X7_init_179, j_X7_init_181, j_X7_init_183, en_c2I, en_c2R, en_c2U, en_c2D, Option.some.injEq, exists_eq_left', exists_eq_left, Option.map_some, Option.map_none, not_true_eq_false, false_implies, true_implies, and_true, true_and, reduceCtorEq, not_false_eq_true, true_or, or_true, hc]
  exact ⟨⟨by omega, by omega⟩, hq _ (h.st rfl (by decide))⟩
theorem ji_186 {G : en_G} {q : Option en_V → en_S → Prop} {m : Nat} {σ0 σ : en_S} (h : IQ σ0 m 22 1176 (0) (0) (1) σ) (r1 : m + 42 ≤ G.2.2.2.2.1) (r2 : en_ns σ0 + 1692 ≤ G.2.2.2.2.2) (hq : ∀ σ', IQ σ0 m 23 1200 (0) (0) (1) σ' → en_J (X_X7_init G q) 194 [en_R (some m)] [] σ') : en_J (X_X7_init G q) 186 [en_R (some m)] [] σ := by
  have hc : en_cl (en_newa σ 0 24) m = some 7 := h.1.1
  have e1 := h.1.2.1
  have e2 := h.2.1
  simp only [j_X7_init_186, j_X7_init_187, j_X7_init_189, j_X7_init_191, en_c2I, en_c2R, en_c2U, en_c2D, Option.some.injEq, exists_eq_left', exists_eq_left, Option.map_some, Option.map_none, not_true_eq_false, false_implies, true_implies, and_true, true_and, reduceCtorEq, not_false_eq_true, true_or, or_true, hc]
  exact ⟨⟨by omega, by omega⟩, hq _ (h.st rfl (by decide))⟩
theorem ji_194 {G : en_G} {q : Option en_V → en_S → Prop} {m : Nat} {σ0 σ : en_S} (h : IQ σ0 m 23 1200 (0) (0) (1) σ) (r1 : m + 42 ≤ G.2.2.2.2.1) (r2 : en_ns σ0 + 1692 ≤ G.2.2.2.2.2) (hq : ∀ σ', IQ σ0 m 24 1224 (0) (0) (1) σ' → en_J (X_X7_init G q) 202 [en_R (some m)] [] σ') : en_J (X_X7_init G q) 194 [en_R (some m)] [] σ := by
  have hc : en_cl (en_newa σ 0 24) m = some 7 := h.1.1
  have e1 := h.1.2.1
  have e2 := h.2.1
  simp only [j_X7_init_194, j_X7_init_195, j_X7_init_197, j_X7_init_199, en_c2I, en_c2R, en_c2U, en_c2D, Option.some.injEq, exists_eq_left', exists_eq_left, Option.map_some, Option.map_none, not_true_eq_false, false_implies, true_implies, and_true, true_and, reduceCtorEq, not_false_eq_true, true_or, or_true, hc]
  exact ⟨⟨by omega, by omega⟩, hq _ (h.st rfl (by decide))⟩
theorem ji_202 {G : en_G} {q : Option en_V → en_S → Prop} {m : Nat} {σ0 σ : en_S} (h : IQ σ0 m 24 1224 (0) (0) (1) σ) (r1 : m + 42 ≤ G.2.2.2.2.1) (r2 : en_ns σ0 + 1692 ≤ G.2.2.2.2.2) (hq : ∀ σ', IQ σ0 m 25 1288 (0) (0) (1) σ' → en_J (X_X7_init G q) 210 [en_R (some m)] [] σ') : en_J (X_X7_init G q) 202 [en_R (some m)] [] σ := by
  have hc : en_cl (en_newa σ 0 64) m = some 7 := h.1.1
  have e1 := h.1.2.1
  have e2 := h.2.1
  simp only [j_X7_init_202, j_X7_init_203, j_X7_init_205, j_X7_init_207, en_c2I, en_c2R, en_c2U, en_c2D, Option.some.injEq, exists_eq_left', exists_eq_left, Option.map_some, Option.map_none, not_true_eq_false, false_implies, true_implies, and_true, true_and, reduceCtorEq, not_false_eq_true, true_or, or_true, hc]
  exact ⟨⟨by omega, by omega⟩, hq _ (h.st rfl (by decide))⟩
theorem ji_210 {G : en_G} {q : Option en_V → en_S → Prop} {m : Nat} {σ0 σ : en_S} (h : IQ σ0 m 25 1288 (0) (0) (1) σ) (r1 : m + 42 ≤ G.2.2.2.2.1) (r2 : en_ns σ0 + 1692 ≤ G.2.2.2.2.2) (hq : ∀ σ', IQ σ0 m 25 1288 (0) (-1) (1) σ' → en_J (X_X7_init G q) 215 [en_R (some m)] [] σ') : en_J (X_X7_init G q) 210 [en_R (some m)] [] σ := by
  have hc := h.1.1
  simp only [j_X7_init_210, j_X7_init_211, j_X7_init_212, en_c2I, en_c2R, en_c2U, en_c2D, Option.some.injEq, exists_eq_left', exists_eq_left, Option.map_some, Option.map_none, not_true_eq_false, false_implies, true_implies, and_true, true_and, reduceCtorEq, not_false_eq_true, true_or, or_true, hc]
  refine hq _ ⟨h.1.fi _ _, h.2.1, h.2.2.1.tr (ag_sfi (fun a z => z)), fun f => ?_⟩
  rw [eg_fi_sfi, h.2.2.2 f]
  by_cases e : f = 729
  · rw [if_pos ⟨e, rfl⟩, e]; rfl
  · rw [if_neg (fun z => e z.1)]
    repeat' split
    all_goals first | rfl | omega
theorem ji_215 {G : en_G} {q : Option en_V → en_S → Prop} {m : Nat} {σ0 σ : en_S} (h : IQ σ0 m 25 1288 (0) (-1) (1) σ) (r1 : m + 42 ≤ G.2.2.2.2.1) (r2 : en_ns σ0 + 1692 ≤ G.2.2.2.2.2) (hq : ∀ σ', IQ σ0 m 25 1288 (-1) (-1) (1) σ' → en_J (X_X7_init G q) 220 [en_R (some m)] [] σ') : en_J (X_X7_init G q) 215 [en_R (some m)] [] σ := by
  have hc := h.1.1
  simp only [j_X7_init_215, j_X7_init_216, j_X7_init_217, en_c2I, en_c2R, en_c2U, en_c2D, Option.some.injEq, exists_eq_left', exists_eq_left, Option.map_some, Option.map_none, not_true_eq_false, false_implies, true_implies, and_true, true_and, reduceCtorEq, not_false_eq_true, true_or, or_true, hc]
  refine hq _ ⟨h.1.fi _ _, h.2.1, h.2.2.1.tr (ag_sfi (fun a z => z)), fun f => ?_⟩
  rw [eg_fi_sfi, h.2.2.2 f]
  by_cases e : f = 730
  · rw [if_pos ⟨e, rfl⟩, e]; rfl
  · rw [if_neg (fun z => e z.1)]
    repeat' split
    all_goals first | rfl | omega
theorem ji_220 {G : en_G} {q : Option en_V → en_S → Prop} {m : Nat} {σ0 σ : en_S} (h : IQ σ0 m 25 1288 (-1) (-1) (1) σ) (r1 : m + 42 ≤ G.2.2.2.2.1) (r2 : en_ns σ0 + 1692 ≤ G.2.2.2.2.2) (hq : ∀ σ', IQ σ0 m 26 1448 (-1) (-1) (1) σ' → en_J (X_X7_init G q) 229 [en_R (some m)] [] σ') : en_J (X_X7_init G q) 220 [en_R (some m)] [] σ := by
  have hc : en_cl (en_newa σ 0 160) m = some 7 := h.1.1
  have e1 := h.1.2.1
  have e2 := h.2.1
  simp only [j_X7_init_220, j_X7_init_221, j_X7_init_224, j_X7_init_226, en_c2I, en_c2R, en_c2U, en_c2D, Option.some.injEq, exists_eq_left', exists_eq_left, Option.map_some, Option.map_none, not_true_eq_false, false_implies, true_implies, and_true, true_and, reduceCtorEq, not_false_eq_true, true_or, or_true, hc]
  exact ⟨⟨by omega, by omega⟩, hq _ (h.st rfl (by decide))⟩
theorem ji_229 {G : en_G} {q : Option en_V → en_S → Prop} {m : Nat} {σ0 σ : en_S} (h : IQ σ0 m 26 1448 (-1) (-1) (1) σ) (r1 : m + 42 ≤ G.2.2.2.2.1) (r2 : en_ns σ0 + 1692 ≤ G.2.2.2.2.2) (hq : ∀ σ', IQ σ0 m 27 1544 (-1) (-1) (1) σ' → en_J (X_X7_init G q) 237 [en_R (some m)] [] σ') : en_J (X_X7_init G q) 229 [en_R (some m)] [] σ := by
  have hc : en_cl (en_newa σ 0 96) m = some 7 := h.1.1
  have e1 := h.1.2.1
  have e2 := h.2.1
  simp only [j_X7_init_229, j_X7_init_230, j_X7_init_232, j_X7_init_234, en_c2I, en_c2R, en_c2U, en_c2D, Option.some.injEq, exists_eq_left', exists_eq_left, Option.map_some, Option.map_none, not_true_eq_false, false_implies, true_implies, and_true, true_and, reduceCtorEq, not_false_eq_true, true_or, or_true, hc]
  exact ⟨⟨by omega, by omega⟩, hq _ (h.st rfl (by decide))⟩
theorem ji_237 {G : en_G} {q : Option en_V → en_S → Prop} {m : Nat} {σ0 σ : en_S} (h : IQ σ0 m 27 1544 (-1) (-1) (1) σ) (r1 : m + 42 ≤ G.2.2.2.2.1) (r2 : en_ns σ0 + 1692 ≤ G.2.2.2.2.2) (hq : ∀ σ', IQ σ0 m 28 1640 (-1) (-1) (1) σ' → en_J (X_X7_init G q) 245 [en_R (some m)] [] σ') : en_J (X_X7_init G q) 237 [en_R (some m)] [] σ := by
  have hc : en_cl (en_newa σ 0 96) m = some 7 := h.1.1
  have e1 := h.1.2.1
  have e2 := h.2.1
  simp only [j_X7_init_237, j_X7_init_238, j_X7_init_240, j_X7_init_242, en_c2I, en_c2R, en_c2U, en_c2D, Option.some.injEq, exists_eq_left', exists_eq_left, Option.map_some, Option.map_none, not_true_eq_false, false_implies, true_implies, and_true, true_and, reduceCtorEq, not_false_eq_true, true_or, or_true, hc]
  exact ⟨⟨by omega, by omega⟩, hq _ (h.st rfl (by decide))⟩
theorem ji_245 {G : en_G} {q : Option en_V → en_S → Prop} {m : Nat} {σ0 σ : en_S} (h : IQ σ0 m 28 1640 (-1) (-1) (1) σ) (r1 : m + 42 ≤ G.2.2.2.2.1) (r2 : en_ns σ0 + 1692 ≤ G.2.2.2.2.2) (hq : ∀ σ', IQ σ0 m 29 1644 (-1) (-1) (1) σ' → en_J (X_X7_init G q) 252 [en_R (some m)] [] σ') : en_J (X_X7_init G q) 245 [en_R (some m)] [] σ := by
  have hc : en_cl (en_newa σ 0 4) m = some 7 := h.1.1
  have e1 := h.1.2.1
  have e2 := h.2.1
  simp only [j_X7_init_245, j_X7_init_246, j_X7_init_247, j_X7_init_249, en_c2I, en_c2R, en_c2U, en_c2D, Option.some.injEq, exists_eq_left', exists_eq_left, Option.map_some, Option.map_none, not_true_eq_false, false_implies, true_implies, and_true, true_and, reduceCtorEq, not_false_eq_true, true_or, or_true, hc]
  exact ⟨⟨by omega, by omega⟩, hq _ (h.st rfl (by decide))⟩
theorem ji_252 {G : en_G} {q : Option en_V → en_S → Prop} {m : Nat} {σ0 σ : en_S} (h : IQ σ0 m 29 1644 (-1) (-1) (1) σ) (r1 : m + 42 ≤ G.2.2.2.2.1) (r2 : en_ns σ0 + 1692 ≤ G.2.2.2.2.2) (hq : ∀ σ', IQ σ0 m 30 1648 (-1) (-1) (1) σ' → en_J (X_X7_init G q) 259 [en_R (some m)] [] σ') : en_J (X_X7_init G q) 252 [en_R (some m)] [] σ := by
  have hc : en_cl (en_newa σ 0 4) m = some 7 := h.1.1
  have e1 := h.1.2.1
  have e2 := h.2.1
  simp only [j_X7_init_252, j_X7_init_253, j_X7_init_254, j_X7_init_256, en_c2I, en_c2R, en_c2U, en_c2D, Option.some.injEq, exists_eq_left', exists_eq_left, Option.map_some, Option.map_none, not_true_eq_false, false_implies, true_implies, and_true, true_and, reduceCtorEq, not_false_eq_true, true_or, or_true, hc]
  exact ⟨⟨by omega, by omega⟩, hq _ (h.st rfl (by decide))⟩
theorem ji_259 {G : en_G} {q : Option en_V → en_S → Prop} {m : Nat} {σ0 σ : en_S} (h : IQ σ0 m 30 1648 (-1) (-1) (1) σ) (r1 : m + 42 ≤ G.2.2.2.2.1) (r2 : en_ns σ0 + 1692 ≤ G.2.2.2.2.2) (hq : ∀ σ', IQ σ0 m 31 1652 (-1) (-1) (1) σ' → en_J (X_X7_init G q) 266 [en_R (some m)] [] σ') : en_J (X_X7_init G q) 259 [en_R (some m)] [] σ := by
  have hc : en_cl (en_newa σ 0 4) m = some 7 := h.1.1
  have e1 := h.1.2.1
  have e2 := h.2.1
  simp only [j_X7_init_259, j_X7_init_260, j_X7_init_261, j_X7_init_263, en_c2I, en_c2R, en_c2U, en_c2D, Option.some.injEq, exists_eq_left', exists_eq_left, Option.map_some, Option.map_none, not_true_eq_false, false_implies, true_implies, and_true, true_and, reduceCtorEq, not_false_eq_true, true_or, or_true, hc]
  exact ⟨⟨by omega, by omega⟩, hq _ (h.st rfl (by decide))⟩
theorem ji_266 {G : en_G} {q : Option en_V → en_S → Prop} {m : Nat} {σ0 σ : en_S} (h : IQ σ0 m 31 1652 (-1) (-1) (1) σ) (r1 : m + 42 ≤ G.2.2.2.2.1) (r2 : en_ns σ0 + 1692 ≤ G.2.2.2.2.2) (hq : ∀ σ', IQ σ0 m 32 1656 (-1) (-1) (1) σ' → en_J (X_X7_init G q) 273 [en_R (some m)] [] σ') : en_J (X_X7_init G q) 266 [en_R (some m)] [] σ := by
  have hc : en_cl (en_newa σ 0 4) m = some 7 := h.1.1
  have e1 := h.1.2.1
  have e2 := h.2.1
  simp only [j_X7_init_266, j_X7_init_267, j_X7_init_268, j_X7_init_270, en_c2I, en_c2R, en_c2U, en_c2D, Option.some.injEq, exists_eq_left', exists_eq_left, Option.map_some, Option.map_none, not_true_eq_false, false_implies, true_implies, and_true, true_and, reduceCtorEq, not_false_eq_true, true_or, or_true, hc]
  exact ⟨⟨by omega, by omega⟩, hq _ (h.st rfl (by decide))⟩
theorem ji_273 {G : en_G} {q : Option en_V → en_S → Prop} {m : Nat} {σ0 σ : en_S} (h : IQ σ0 m 32 1656 (-1) (-1) (1) σ) (r1 : m + 42 ≤ G.2.2.2.2.1) (r2 : en_ns σ0 + 1692 ≤ G.2.2.2.2.2) (hq : ∀ σ', IQ σ0 m 33 1660 (-1) (-1) (1) σ' → en_J (X_X7_init G q) 280 [en_R (some m)] [] σ') : en_J (X_X7_init G q) 273 [en_R (some m)] [] σ := by
  have hc : en_cl (en_newa σ 0 4) m = some 7 := h.1.1
  have e1 := h.1.2.1
  have e2 := h.2.1
  simp only [j_X7_init_273, j_X7_init_274, j_X7_init_275, j_X7_init_277, en_c2I, en_c2R, en_c2U, en_c2D, Option.some.injEq, exists_eq_left', exists_eq_left, Option.map_some, Option.map_none, not_true_eq_false, false_implies, true_implies, and_true, true_and, reduceCtorEq, not_false_eq_true, true_or, or_true, hc]
  exact ⟨⟨by omega, by omega⟩, hq _ (h.st rfl (by decide))⟩
theorem ji_280 {G : en_G} {q : Option en_V → en_S → Prop} {m : Nat} {σ0 σ : en_S} (h : IQ σ0 m 33 1660 (-1) (-1) (1) σ) (r1 : m + 42 ≤ G.2.2.2.2.1) (r2 : en_ns σ0 + 1692 ≤ G.2.2.2.2.2) (hq : ∀ σ', IQ σ0 m 34 1664 (-1) (-1) (1) σ' → en_J (X_X7_init G q) 287 [en_R (some m)] [] σ') : en_J (X_X7_init G q) 280 [en_R (some m)] [] σ := by
  have hc : en_cl (en_newa σ 0 4) m = some 7 := h.1.1
  have e1 := h.1.2.1
  have e2 := h.2.1
  simp only [j_X7_init_280, j_X7_init_281, j_X7_init_282, j_X7_init_284, en_c2I, en_c2R, en_c2U, en_c2D, Option.some.injEq, exists_eq_left', exists_eq_left, Option.map_some, Option.map_none, not_true_eq_false, false_implies, true_implies, and_true, true_and, reduceCtorEq, not_false_eq_true, true_or, or_true, hc]
  exact ⟨⟨by omega, by omega⟩, hq _ (h.st rfl (by decide))⟩
theorem ji_287 {G : en_G} {q : Option en_V → en_S → Prop} {m : Nat} {σ0 σ : en_S} (h : IQ σ0 m 34 1664 (-1) (-1) (1) σ) (r1 : m + 42 ≤ G.2.2.2.2.1) (r2 : en_ns σ0 + 1692 ≤ G.2.2.2.2.2) (hq : ∀ σ', IQ σ0 m 35 1668 (-1) (-1) (1) σ' → en_J (X_X7_init G q) 294 [en_R (some m)] [] σ') : en_J (X_X7_init G q) 287 [en_R (some m)] [] σ := by
  have hc : en_cl (en_newa σ 0 4) m = some 7 := h.1.1
  have e1 := h.1.2.1
  have e2 := h.2.1
  simp only [j_X7_init_287, j_X7_init_288, j_X7_init_289, j_X7_init_291, en_c2I, en_c2R, en_c2U, en_c2D, Option.some.injEq, exists_eq_left', exists_eq_left, Option.map_some, Option.map_none, not_true_eq_false, false_implies, true_implies, and_true, true_and, reduceCtorEq, not_false_eq_true, true_or, or_true, hc]
  exact ⟨⟨by omega, by omega⟩, hq _ (h.st rfl (by decide))⟩
theorem ji_294 {G : en_G} {q : Option en_V → en_S → Prop} {m : Nat} {σ0 σ : en_S} (h : IQ σ0 m 35 1668 (-1) (-1) (1) σ) (r1 : m + 42 ≤ G.2.2.2.2.1) (r2 : en_ns σ0 + 1692 ≤ G.2.2.2.2.2) (hq : ∀ σ', IQ σ0 m 36 1672 (-1) (-1) (1) σ' → en_J (X_X7_init G q) 301 [en_R (some m)] [] σ') : en_J (X_X7_init G q) 294 [en_R (some m)] [] σ := by
  have hc : en_cl (en_newa σ 1 4) m = some 7 := h.1.1
  have e1 := h.1.2.1
  have e2 := h.2.1
  simp only [j_X7_init_294, j_X7_init_295, j_X7_init_296, j_X7_init_298, en_c2I, en_c2R, en_c2U, en_c2D, Option.some.injEq, exists_eq_left', exists_eq_left, Option.map_some, Option.map_none, not_true_eq_false, false_implies, true_implies, and_true, true_and, reduceCtorEq, not_false_eq_true, true_or, or_true, hc]
  exact ⟨⟨by omega, by omega⟩, hq _ (h.st rfl (by decide))⟩
theorem ji_301 {G : en_G} {q : Option en_V → en_S → Prop} {m : Nat} {σ0 σ : en_S} (h : IQ σ0 m 36 1672 (-1) (-1) (1) σ) (r1 : m + 42 ≤ G.2.2.2.2.1) (r2 : en_ns σ0 + 1692 ≤ G.2.2.2.2.2) (hq : ∀ σ', IQ σ0 m 37 1676 (-1) (-1) (1) σ' → en_J (X_X7_init G q) 308 [en_R (some m)] [] σ') : en_J (X_X7_init G q) 301 [en_R (some m)] [] σ := by
  have hc : en_cl (en_newa σ 1 4) m = some 7 := h.1.1
  have e1 := h.1.2.1
  have e2 := h.2.1
  simp only [j_X7_init_301, j_X7_init_302, j_X7_init_303, j_X7_init_305, en_c2I, en_c2R, en_c2U, en_c2D, Option.some.injEq, exists_eq_left', exists_eq_left, Option.map_some, Option.map_none, not_true_eq_false, false_implies, true_implies, and_true, true_and, reduceCtorEq, not_false_eq_true, true_or, or_true, hc]
  exact ⟨⟨by omega, by omega⟩, hq _ (h.st rfl (by decide))⟩
theorem ji_308 {G : en_G} {q : Option en_V → en_S → Prop} {m : Nat} {σ0 σ : en_S} (h : IQ σ0 m 37 1676 (-1) (-1) (1) σ) (r1 : m + 42 ≤ G.2.2.2.2.1) (r2 : en_ns σ0 + 1692 ≤ G.2.2.2.2.2) (hq : ∀ σ', IQ σ0 m 38 1680 (-1) (-1) (1) σ' → en_J (X_X7_init G q) 315 [en_R (some m)] [] σ') : en_J (X_X7_init G q) 308 [en_R (some m)] [] σ := by
  have hc : en_cl (en_newa σ 1 4) m = some 7 := h.1.1
  have e1 := h.1.2.1
  have e2 := h.2.1
  simp only [j_X7_init_308, j_X7_init_309, j_X7_init_310, j_X7_init_312, en_c2I, en_c2R, en_c2U, en_c2D, Option.some.injEq, exists_eq_left', exists_eq_left, Option.map_some, Option.map_none, not_true_eq_false, false_implies, true_implies, and_true, true_and, reduceCtorEq, not_false_eq_true, true_or, or_true, hc]
  exact ⟨⟨by omega, by omega⟩, hq _ (h.st rfl (by decide))⟩
theorem ji_315 {G : en_G} {q : Option en_V → en_S → Prop} {m : Nat} {σ0 σ : en_S} (h : IQ σ0 m 38 1680 (-1) (-1) (1) σ) (r1 : m + 42 ≤ G.2.2.2.2.1) (r2 : en_ns σ0 + 1692 ≤ G.2.2.2.2.2) (hq : ∀ σ', IQ σ0 m 39 1684 (-1) (-1) (1) σ' → en_J (X_X7_init G q) 322 [en_R (some m)] [] σ') : en_J (X_X7_init G q) 315 [en_R (some m)] [] σ := by
  have hc : en_cl (en_newa σ 0 4) m = some 7 := h.1.1
  have e1 := h.1.2.1
  have e2 := h.2.1
  simp only [j_X7_init_315, j_X7_init_316, j_X7_init_317, j_X7_init_319, en_c2I, en_c2R, en_c2U, en_c2D, Option.some.injEq, exists_eq_left', exists_eq_left, Option.map_some, Option.map_none, not_true_eq_false, false_implies, true_implies, and_true, true_and, reduceCtorEq, not_false_eq_true, true_or, or_true, hc]
  exact ⟨⟨by omega, by omega⟩, hq _ (h.st rfl (by decide))⟩
theorem ji_322 {G : en_G} {q : Option en_V → en_S → Prop} {m : Nat} {σ0 σ : en_S} (h : IQ σ0 m 39 1684 (-1) (-1) (1) σ) (r1 : m + 42 ≤ G.2.2.2.2.1) (r2 : en_ns σ0 + 1692 ≤ G.2.2.2.2.2) (hq : ∀ σ', IQ σ0 m 40 1688 (-1) (-1) (1) σ' → en_J (X_X7_init G q) 329 [en_R (some m)] [] σ') : en_J (X_X7_init G q) 322 [en_R (some m)] [] σ := by
  have hc : en_cl (en_newa σ 0 4) m = some 7 := h.1.1
  have e1 := h.1.2.1
  have e2 := h.2.1
  simp only [j_X7_init_322, j_X7_init_323, j_X7_init_324, j_X7_init_326, en_c2I, en_c2R, en_c2U, en_c2D, Option.some.injEq, exists_eq_left', exists_eq_left, Option.map_some, Option.map_none, not_true_eq_false, false_implies, true_implies, and_true, true_and, reduceCtorEq, not_false_eq_true, true_or, or_true, hc]
  exact ⟨⟨by omega, by omega⟩, hq _ (h.st rfl (by decide))⟩
theorem ji_329 {G : en_G} {q : Option en_V → en_S → Prop} {m : Nat} {σ0 σ : en_S} (h : IQ σ0 m 40 1688 (-1) (-1) (1) σ) (r1 : m + 42 ≤ G.2.2.2.2.1) (r2 : en_ns σ0 + 1692 ≤ G.2.2.2.2.2) (hq : ∀ σ', IQ σ0 m 41 1692 (-1) (-1) (1) σ' → en_J (X_X7_init G q) 336 [en_R (some m)] [] σ') : en_J (X_X7_init G q) 329 [en_R (some m)] [] σ := by
  have hc : en_cl (en_newa σ 0 4) m = some 7 := h.1.1
  have e1 := h.1.2.1
  have e2 := h.2.1
  simp only [j_X7_init_329, j_X7_init_330, j_X7_init_331, j_X7_init_333, en_c2I, en_c2R, en_c2U, en_c2D, Option.some.injEq, exists_eq_left', exists_eq_left, Option.map_some, Option.map_none, not_true_eq_false, false_implies, true_implies, and_true, true_and, reduceCtorEq, not_false_eq_true, true_or, or_true, hc]
  exact ⟨⟨by omega, by omega⟩, hq _ (h.st rfl (by decide))⟩
theorem ji_end {G : en_G} {q : Option en_V → en_S → Prop} {m : Nat} {σ0 τ : en_S} (hx0 : en_nx σ0 = m + 1) (h : IQ σ0 m 41 1692 (-1) (-1) 1 τ) (hq : ∀ v σ', (RZ m pb_0 σ' ∧ ag σ0 σ' (i7F m) (fun _ => True) ∧ en_nx σ' = m + 42 ∧ en_ns σ' = en_ns σ0 + 1692 ∧ v = none) → q v σ') : en_J (X_X7_init G q) 336 [en_R (some m)] [] τ := by
  obtain ⟨hI, hns, hg, hff⟩ := h
  have A : ∀ i e, i < 41 → rArr[i]? = some e → en_fr τ e.1 m = some (m + 1 + i) ∧ en_al τ (m + 1 + i) = some (e.2.1, e.2.2) ∧ ∀ z, en_ai τ (m + 1 + i) z = 0 := hI.2.2.2
  have hn := hI.2.1
  have hS : rs_ok m τ := ⟨hI.1, ⟨(A 0 _ (by decide) rfl).1, (A 0 _ (by decide) rfl).2.1⟩, ⟨(A 1 _ (by decide) rfl).1, (A 1 _ (by decide) rfl).2.1⟩, ⟨(A 2 _ (by decide) rfl).1, (A 2 _ (by decide) rfl).2.1⟩, ⟨(A 3 _ (by decide) rfl).1, (A 3 _ (by decide) rfl).2.1⟩, ⟨(A 4 _ (by decide) rfl).1, (A 4 _ (by decide) rfl).2.1⟩, ⟨(A 5 _ (by decide) rfl).1, (A 5 _ (by decide) rfl).2.1⟩, ⟨(A 6 _ (by decide) rfl).1, (A 6 _ (by decide) rfl).2.1⟩, ⟨(A 7 _ (by decide) rfl).1, (A 7 _ (by decide) rfl).2.1⟩, ⟨(A 8 _ (by decide) rfl).1, (A 8 _ (by decide) rfl).2.1⟩, ⟨(A 9 _ (by decide) rfl).1, (A 9 _ (by decide) rfl).2.1⟩, ⟨(A 10 _ (by decide) rfl).1, (A 10 _ (by decide) rfl).2.1⟩, ⟨(A 11 _ (by decide) rfl).1, (A 11 _ (by decide) rfl).2.1⟩, ⟨(A 12 _ (by decide) rfl).1, (A 12 _ (by decide) rfl).2.1⟩, ⟨(A 13 _ (by decide) rfl).1, (A 13 _ (by decide) rfl).2.1⟩, ⟨(A 14 _ (by decide) rfl).1, (A 14 _ (by decide) rfl).2.1⟩, ⟨(A 15 _ (by decide) rfl).1, (A 15 _ (by decide) rfl).2.1⟩, ⟨(A 16 _ (by decide) rfl).1, (A 16 _ (by decide) rfl).2.1⟩, ⟨(A 17 _ (by decide) rfl).1, (A 17 _ (by decide) rfl).2.1⟩, ⟨(A 18 _ (by decide) rfl).1, (A 18 _ (by decide) rfl).2.1⟩, ⟨(A 19 _ (by decide) rfl).1, (A 19 _ (by decide) rfl).2.1⟩, ⟨(A 20 _ (by decide) rfl).1, (A 20 _ (by decide) rfl).2.1⟩, ⟨(A 21 _ (by decide) rfl).1, (A 21 _ (by decide) rfl).2.1⟩, ⟨(A 22 _ (by decide) rfl).1, (A 22 _ (by decide) rfl).2.1⟩, ⟨(A 23 _ (by decide) rfl).1, (A 23 _ (by decide) rfl).2.1⟩, ⟨(A 24 _ (by decide) rfl).1, (A 24 _ (by decide) rfl).2.1⟩, ⟨(A 25 _ (by decide) rfl).1, (A 25 _ (by decide) rfl).2.1⟩, ⟨(A 26 _ (by decide) rfl).1, (A 26 _ (by decide) rfl).2.1⟩, ⟨(A 27 _ (by decide) rfl).1, (A 27 _ (by decide) rfl).2.1⟩, ⟨(A 28 _ (by decide) rfl).1, (A 28 _ (by decide) rfl).2.1⟩, ⟨(A 29 _ (by decide) rfl).1, (A 29 _ (by decide) rfl).2.1⟩, ⟨(A 30 _ (by decide) rfl).1, (A 30 _ (by decide) rfl).2.1⟩, ⟨(A 31 _ (by decide) rfl).1, (A 31 _ (by decide) rfl).2.1⟩, ⟨(A 32 _ (by decide) rfl).1, (A 32 _ (by decide) rfl).2.1⟩, ⟨(A 33 _ (by decide) rfl).1, (A 33 _ (by decide) rfl).2.1⟩, ⟨(A 34 _ (by decide) rfl).1, (A 34 _ (by decide) rfl).2.1⟩, ⟨(A 35 _ (by decide) rfl).1, (A 35 _ (by decide) rfl).2.1⟩, ⟨(A 36 _ (by decide) rfl).1, (A 36 _ (by decide) rfl).2.1⟩, ⟨(A 37 _ (by decide) rfl).1, (A 37 _ (by decide) rfl).2.1⟩, ⟨(A 38 _ (by decide) rfl).1, (A 38 _ (by decide) rfl).2.1⟩, ⟨(A 39 _ (by decide) rfl).1, (A 39 _ (by decide) rfl).2.1⟩, ⟨(A 40 _ (by decide) rfl).1, (A 40 _ (by decide) rfl).2.1⟩, by omega, hI.2.2.1⟩
  have Z : ∀ j z, 1 ≤ j → j ≤ 41 → en_ai τ (m + j) z = 0 := fun j z h1 h2 => by
    have hl : j - 1 < rArr.length := by show j - 1 < 41; omega
    have := (A (j - 1) _ (by omega) (List.getElem?_eq_getElem hl)).2.2 z
    rw [show m + 1 + (j - 1) = m + j by omega] at this
    exact this
  have n3 : vp_in (0 : Int32) 24 := by rw [show (0 : Int32) = nI 0 from by decide +kernel]; exact vp_in_nI (by decide) (by decide)
  have n4 : (0 : Int32).toNatClampNeg = 0 := by decide
  simp only [j_X7_init_336, j_X7_init_337, j_X7_init_340, j_X7_init_341, j_X7_init_342, j_X7_init_343, j_X7_init_344, j_X7_init_347, j_X7_init_348, j_X7_init_349, j_X7_init_350, j_X7_init_351, j_X7_init_354, j_X7_init_355, j_X7_init_356, j_X7_init_357, j_X7_init_358, j_X7_init_361, j_X7_init_362, j_X7_init_363, j_X7_init_364, en_c2I, en_c2R, en_c2U, en_c2D, Option.some.injEq, exists_eq_left', exists_eq_left, Option.map_some, Option.map_none, not_true_eq_false, false_implies, true_implies, and_true, true_and, reduceCtorEq, not_false_eq_true, true_or, or_true, eg_cl_sfi, eg_fi_sfi, eg_fr_sfi, eg_fd_sfi, eg_al_sfi, eg_ai_sfi, eg_ar_sfi, eg_ad_sfi, eg_aj_sfi, eg_nx_sfi, eg_ns_sfi, eg_cl_sfr, eg_fi_sfr, eg_fr_sfr, eg_fd_sfr, eg_al_sfr, eg_ai_sfr, eg_ar_sfr, eg_ad_sfr, eg_aj_sfr, eg_nx_sfr, eg_ns_sfr, eg_cl_sfd, eg_fi_sfd, eg_fr_sfd, eg_fd_sfd, eg_al_sfd, eg_ai_sfd, eg_ar_sfd, eg_ad_sfd, eg_aj_sfd, eg_nx_sfd, eg_ns_sfd, eg_cl_sai, eg_fi_sai, eg_fr_sai, eg_fd_sai, eg_al_sai, eg_ai_sai, eg_ar_sai, eg_ad_sai, eg_aj_sai, eg_nx_sai, eg_ns_sai, eg_cl_sar, eg_fi_sar, eg_fr_sar, eg_fd_sar, eg_al_sar, eg_ai_sar, eg_ar_sar, eg_ad_sar, eg_aj_sar, eg_nx_sar, eg_ns_sar, eg_cl_sad, eg_fi_sad, eg_fr_sad, eg_fd_sad, eg_al_sad, eg_ai_sad, eg_ar_sad, eg_ad_sad, eg_aj_sad, eg_nx_sad, eg_ns_sad, eg_cl_saj, eg_fi_saj, eg_fr_saj, eg_fd_saj, eg_al_saj, eg_ai_saj, eg_ar_saj, eg_ad_saj, eg_aj_saj, eg_nx_saj, eg_ns_saj, eg_cl_new, eg_fi_new, eg_fr_new, eg_fd_new, eg_al_new, eg_ai_new, eg_ar_new, eg_ad_new, eg_aj_new, eg_nx_new, eg_ns_new, eg_cl_newa, eg_fi_newa, eg_fr_newa, eg_fd_newa, eg_al_newa, eg_ai_newa, eg_ar_newa, eg_ad_newa, eg_aj_newa, eg_nx_newa, eg_ns_newa, eg_cl_bump, eg_fi_bump, eg_fr_bump, eg_fd_bump, eg_al_bump, eg_ai_bump, eg_ar_bump, eg_ad_bump, eg_aj_bump, eg_nx_bump, eg_ns_bump, rs_c hS, rs_f702 hS, rs_a1 hS, rs_f703 hS, rs_a2 hS, rs_f704 hS, rs_a3 hS, rs_f705 hS, rs_a4 hS, rs_f706 hS, rs_a5 hS, rs_f707 hS, rs_a6 hS, rs_f708 hS, rs_a7 hS, rs_f709 hS, rs_a8 hS, rs_f711 hS, rs_a9 hS, rs_f712 hS, rs_a10 hS, rs_f713 hS, rs_a11 hS, rs_f714 hS, rs_a12 hS, rs_f715 hS, rs_a13 hS, rs_f716 hS, rs_a14 hS, rs_f717 hS, rs_a15 hS, rs_f718 hS, rs_a16 hS, rs_f719 hS, rs_a17 hS, rs_f720 hS, rs_a18 hS, rs_f721 hS, rs_a19 hS, rs_f722 hS, rs_a20 hS, rs_f723 hS, rs_a21 hS, rs_f724 hS, rs_a22 hS, rs_f725 hS, rs_a23 hS, rs_f726 hS, rs_a24 hS, rs_f728 hS, rs_a25 hS, rs_f733 hS, rs_a26 hS, rs_f737 hS, rs_a27 hS, rs_f738 hS, rs_a28 hS, rs_f739 hS, rs_a29 hS, rs_f740 hS, rs_a30 hS, rs_f741 hS, rs_a31 hS, rs_f742 hS, rs_a32 hS, rs_f743 hS, rs_a33 hS, rs_f744 hS, rs_a34 hS, rs_f745 hS, rs_a35 hS, rs_f746 hS, rs_a36 hS, rs_f747 hS, rs_a37 hS, rs_f748 hS, rs_a38 hS, rs_f749 hS, rs_a39 hS, rs_f750 hS, rs_a40 hS, rs_f751 hS, rs_a41 hS, Prod.mk.injEq, n3, n4]
  generalize hω : en_sai (en_sai (en_sai (en_sai τ (m + 1) 0 3) (m + 3) 0 (-1)) (m + 4) 0 (-1)) (m + 5) 0 (-1) = ω
  have gω : ag τ ω TT (fun a => ¬ (m + 1 ≤ a ∧ a ≤ m + 5)) := by
    rw [← hω]
    exact (((ag_sai (fun z => z ⟨by omega, by omega⟩)).tr (ag_sai (fun z => z ⟨by omega, by omega⟩))).tr (ag_sai (fun z => z ⟨by omega, by omega⟩))).tr (ag_sai (fun z => z ⟨by omega, by omega⟩))
  have sω : sz τ ω := by rw [← hω]; exact ⟨rfl, rfl, rfl, rfl⟩
  have hSω : rs_ok m ω := hS.ag gω (sω.fr (rs_fr hS)) (fun _ _ => trivial)
  have fω : ∀ f, en_fi ω f m = if f = 730 then -1 else if f = 729 then -1 else if f = 701 then 1 else 0 := fun f => by rw [← hω]; exact hff f
  have Zω : ∀ j z, 1 ≤ j → j ≤ 41 → ¬ (j ≤ 5 ∧ z = 0) → en_ai ω (m + j) z = 0 := fun j z h1 h2 h3 => by
    rw [← hω, eg_ai_sai, if_neg (by omega), eg_ai_sai, if_neg (by omega), eg_ai_sai, if_neg (by omega), eg_ai_sai, if_neg (by omega)]
    exact Z j z h1 h2
  have e00 : (0 : Int32) = nI 0 := by decide +kernel
  have hRX : RX m st_0 ω := by
    refine ⟨hSω, fun n hn => ?_, fun n a b => ⟨Zω 6 n (by decide) (by decide) (by omega), Zω 7 n (by decide) (by decide) (by omega), Zω 17 n (by decide) (by decide) (by omega)⟩, fun n hn => Zω 6 n (by decide) (by decide) (by omega), fun n hn => ⟨Zω 17 n (by decide) (by decide) (by omega), fun b hb => by cases hb⟩, ⟨fun k hk => absurd hk (Nat.not_lt_zero _), fun k a b => Zω 13 k (by decide) (by decide) (by omega)⟩, fun s hs => ⟨(Zω 14 s (by decide) (by decide) (by omega)).trans e00, fun j hj => ⟨(Zω 15 _ (by decide) (by decide) (by omega)).trans e00, Zω 16 _ (by decide) (by decide) (by omega)⟩⟩, ⟨?_, fun j hj => Zω 26 j (by decide) (by decide) (by omega)⟩, ⟨?_, ?_, ?_⟩, st_wf0⟩
    · have hn1 : n < 1 := hn
      have hn0' : n = 0 := by omega
      subst hn0'
      refine ⟨?_, fun he => ?_, ?_, ?_, ?_, (Zω 7 0 (by decide) (by decide) (by omega)).trans e00, fun j c hc => by cases hc⟩
      · rw [← hω, eg_ai_sai, if_neg (by omega), eg_ai_sai, if_neg (by omega), eg_ai_sai, if_neg (by omega), eg_ai_sai, if_pos ⟨rfl, rfl⟩]; rfl
      · rcases he with z | z | z
        · exact absurd z (by show ¬ (3 : Int32) = 0; decide)
        · exact absurd z (by show ¬ (3 : Int32) = 1; decide)
        · exact absurd z (by show ¬ (3 : Int32) = 2; decide)
      · rw [← hω, eg_ai_sai, if_neg (by omega), eg_ai_sai, if_neg (by omega), eg_ai_sai, if_pos ⟨rfl, rfl⟩]; rfl
      · rw [← hω, eg_ai_sai, if_neg (by omega), eg_ai_sai, if_pos ⟨rfl, rfl⟩]; rfl
      · rw [← hω, eg_ai_sai, if_pos ⟨rfl, rfl⟩]; rfl
    · rw [fω]; exact e00
    · rw [fω]; show (1 : Int32) = nI 1; decide +kernel
    · rw [fω]; exact e00
    · rw [fω]; rfl
  refine hq _ _ ⟨⟨hRX, by rw [fω]; rfl, by rw [fω]; rfl, by rw [fω]; rfl, by rw [fω]; exact e00, fun n hn => (by cases hn), fun n hn => (by cases hn)⟩, ?_, by rw [sω.1]; omega, by rw [sω.2.1, hns], rfl⟩
  refine ⟨by rw [sω.1, hn, hx0]; omega, fun a ha => ?_⟩
  obtain ⟨p1, p2, p3, p4⟩ := hg.2 a ha
  have hlt : a < en_nx τ := Nat.lt_of_lt_of_le ha hg.1
  obtain ⟨q1, q2, q3, q4⟩ := gω.2 a hlt
  refine ⟨q1.trans p1, q2.trans p2, fun f hf => ⟨(q3 f trivial).1.trans (p3 f hf).1, (q3 f trivial).2.1.trans (p3 f hf).2.1, (q3 f trivial).2.2.trans (p3 f hf).2.2⟩, fun _ => ?_⟩
  have q4' := q4 (by omega)
  have p4' := p4 trivial
  exact ⟨q4'.1.trans p4'.1, q4'.2.1.trans p4'.2.1, q4'.2.2.1.trans p4'.2.2.1, q4'.2.2.2.trans p4'.2.2.2⟩
theorem jl_X7_init {G : en_G}  {m : Nat} {q : Option en_V → en_S → Prop} {σ : en_S} (hp : IN m 0 σ ∧ (∀ f, en_fi σ f m = 0) ∧ en_nx σ + 41 ≤ G.2.2.2.2.1 ∧ en_ns σ + 1692 ≤ G.2.2.2.2.2) (hq : ∀ v σ', (RZ m pb_0 σ' ∧ ag σ σ' (i7F m) (fun _ => True) ∧ en_nx σ' = m + 42 ∧ en_ns σ' = en_ns σ + 1692 ∧ v = none) → q v σ') : en_J (X_X7_init G q) 0 [en_R (some m)] [] σ := by
  obtain ⟨hI, hfi, hr1, hr2⟩ := hp
  have hn0 : en_nx σ = m + 1 := hI.2.1
  have r1 : m + 42 ≤ G.2.2.2.2.1 := by omega
  have r2 := hr2
  simp only [j_X7_init_0, j_X7_init_1]
  refine ⟨⟨m, rfl⟩, ?_⟩
  rintro r σ' ⟨rfl, rfl⟩
  have h0 : IQ σ' m 0 0 0 0 0 σ' := ⟨hI, rfl, ag.rf, fun f => by rw [hfi f]; repeat' split
                                                                 all_goals rfl⟩
  exact ji_4 h0 r1 r2 (fun _ h1 => ji_9 h1 r1 r2 (fun _ h2 => ji_17 h2 r1 r2 (fun _ h3 => ji_25 h3 r1 r2 (fun _ h4 => ji_33 h4 r1 r2 (fun _ h5 => ji_41 h5 r1 r2 (fun _ h6 => ji_49 h6 r1 r2 (fun _ h7 => ji_57 h7 r1 r2 (fun _ h8 => ji_65 h8 r1 r2 (fun _ h9 => ji_74 h9 r1 r2 (fun _ h10 => ji_82 h10 r1 r2 (fun _ h11 => ji_90 h11 r1 r2 (fun _ h12 => ji_98 h12 r1 r2 (fun _ h13 => ji_106 h13 r1 r2 (fun _ h14 => ji_114 h14 r1 r2 (fun _ h15 => ji_122 h15 r1 r2 (fun _ h16 => ji_130 h16 r1 r2 (fun _ h17 => ji_138 h17 r1 r2 (fun _ h18 => ji_146 h18 r1 r2 (fun _ h19 => ji_154 h19 r1 r2 (fun _ h20 => ji_162 h20 r1 r2 (fun _ h21 => ji_170 h21 r1 r2 (fun _ h22 => ji_178 h22 r1 r2 (fun _ h23 => ji_186 h23 r1 r2 (fun _ h24 => ji_194 h24 r1 r2 (fun _ h25 => ji_202 h25 r1 r2 (fun _ h26 => ji_210 h26 r1 r2 (fun _ h27 => ji_215 h27 r1 r2 (fun _ h28 => ji_220 h28 r1 r2 (fun _ h29 => ji_229 h29 r1 r2 (fun _ h30 => ji_237 h30 r1 r2 (fun _ h31 => ji_245 h31 r1 r2 (fun _ h32 => ji_252 h32 r1 r2 (fun _ h33 => ji_259 h33 r1 r2 (fun _ h34 => ji_266 h34 r1 r2 (fun _ h35 => ji_273 h35 r1 r2 (fun _ h36 => ji_280 h36 r1 r2 (fun _ h37 => ji_287 h37 r1 r2 (fun _ h38 => ji_294 h38 r1 r2 (fun _ h39 => ji_301 h39 r1 r2 (fun _ h40 => ji_308 h40 r1 r2 (fun _ h41 => ji_315 h41 r1 r2 (fun _ h42 => ji_322 h42 r1 r2 (fun _ h43 => ji_329 h43 r1 r2 (fun _ h44 => ji_end hn0 h44 hq))))))))))))))))))))))))))))))))))))))))))))
theorem jp_X7_init {G : en_G}  : ∀ as σ, (C_X7_init G).1 as σ → (en_lc as).length ≤ 1 ∧ en_J (X_X7_init G (fun r σ' => (C_X7_init G).2 as σ r σ')) 0 (en_loc 1 as) [] σ := en_ghJ (fun g as σ h => by
  obtain ⟨hp, h2⟩ := h
  subst h2
  exact ⟨Nat.le_of_ble_eq_true rfl, jl_X7_init hp (fun _ _ h => h)⟩)
theorem wl_X7_init_1 : Jvm.Cond.methodLink RX7 1 Lib.objectInit ∈ en_W := en_inW (List.mem_of_getElem? (i := 693) (by decide +kernel)) (by decide +kernel)
theorem ok_X7_init {G : en_G}  : en_Ok G 1 yX7_init cX7_init 1 none (C_X7_init G) :=
  en_met (own := RX7) (fl := en_lk fi7) (nw := en_lk nw7) (aw := en_lk aw7) (dc := en_lk dc7) (ca := en_lk (ca_X7_init G)) (rt := 0) (ini := true) (by decide +kernel) (Or.inl ⟨rfl, rfl⟩) (fun _ => rfl) rfl (fun q => en_LkI fi7_ok nw7_ok aw7_ok dc7_ok) (by
    intro idx q hq
    have hm := en_lk_mem hq
    simp only [ca_X7_init, List.mem_cons, Prod.mk.injEq, List.not_mem_nil, or_false] at hm
    rcases hm with ⟨rfl, rfl⟩
    · exact en_clO (by decide) wl_X7_init_1) jp_X7_init
