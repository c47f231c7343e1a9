/-! where a pointer is -/
theorem tr_sclimb_lt {T : tr_T} (h : tr_wf T) (k : Nat) : ∀ {n m : Nat}, n < tr_N T → tr_sclimb T k n = some m → m < tr_N T := by
  induction k with
  | zero => intro n m _ hm; cases hm
  | succ k ih =>
    intro n m hn hm
    simp only [tr_sclimb] at hm
    cases hx : tr_sn T n with
    | some c =>
      rw [hx] at hm
      cases hm
      unfold tr_sn at hx
      cases hh : tr_ho T n with
      | none => rw [hh] at hx; exact tr_nx_lt h hn hx
      | some b => rw [hh] at hx; exact tr_ch_lt h (h.2.2.2.2.1 n b hn hh).1 hx
    | none =>
      rw [hx] at hm
      cases hp : tr_up T n with
      | none => rw [hp] at hm; cases hm
      | some p => rw [hp] at hm; exact ih (tr_up_lt h hn hp) hm
theorem tr_nso_lt {T : tr_T} (h : tr_wf T) {n m : Nat} (hn : n < tr_N T) (hm : tr_nso T n = some m) : m < tr_N T := by
  unfold tr_nso at hm
  cases hs : tr_sh T n with
  | some s => rw [hs] at hm; cases hm; exact (h.2.2.2.2.2.1 n _ hn hs).1
  | none =>
    rw [hs] at hm
    cases hc : (tr_ch T n).head? with
    | some c => rw [hc] at hm; cases hm; exact tr_ch_lt h hn hc
    | none => rw [hc] at hm; exact tr_sclimb_lt h 24 hn hm
theorem ht_n64 {A : st_A} {n : Nat} {b : st_B} {m : ms_M} (hf : st_fin b) (hm : ms_ok 24 m) : vf_n64 (FP.dmul b.2.2.1 m.2.2) ∧ vf_n64 (FP.dadd m.1 (FP.dmul b.2.2.1 m.2.2)) ∧ vf_n64 (FP.dmul b.2.2.2.1 m.2.2) ∧ vf_n64 (FP.dadd m.2.1 (FP.dmul b.2.2.2.1 m.2.2)) := by
  obtain ⟨m1, m2, m3⟩ := hm
  obtain ⟨b1, b2, b3, b4, b5⟩ := hf
  have p1 := fb_mul b3 m3 (by omega) (by omega)
  have p2 := fb_mul b4 m3 (by omega) (by omega)
  have s1 := fb_add (fb_mono m1 (show 35 * ((24 : Nat) : Int) - 52 ≤ -21 + (35 * ((24 : Nat) : Int) - 52) + 54 by omega)) p1 (by omega) (by omega)
  have s2 := fb_add (fb_mono m2 (show 35 * ((24 : Nat) : Int) - 52 ≤ -21 + (35 * ((24 : Nat) : Int) - 52) + 54 by omega)) p2 (by omega) (by omega)
  exact ⟨fb_n64 p1, fb_n64 s1, fb_n64 p2, fb_n64 s2⟩
theorem ms_ok_mono {i j : Nat} {m : ms_M} (h : ms_ok i m) (hij : i ≤ j) : ms_ok j m := ⟨fb_mono h.1 (by omega), fb_mono h.2.1 (by omega), fb_mono h.2.2 (by omega)⟩
theorem ms_ok_fold {A : st_A} (hw : st_wf A) : ∀ (l : List Nat) (j : Nat) (m : ms_M), (∀ k ∈ l, k < tr_N (sa_T A)) → j + l.length ≤ 24 → ms_ok j m → ms_ok 24 (l.foldl (ms_st A) m) := by
  intro l
  induction l with
  | nil => intro j m _ hj hm; exact ms_ok_mono hm (by simpa using hj)
  | cons a l ih =>
    intro j m hl hj hm
    rw [List.length_cons] at hj
    rw [List.foldl_cons]
    cases hb : sa_B A a with
    | none =>
      have : ms_st A m a = m := by unfold ms_st; rw [hb]
      rw [this]
      exact ih j m (fun k hk => hl k (List.mem_cons_of_mem _ hk)) (by omega) hm
    | some b =>
      have hf := (hw.2.2.2.2.2.2 a b (hl a List.mem_cons_self) hb).2
      exact ih (j + 1) _ (fun k hk => hl k (List.mem_cons_of_mem _ hk)) (by omega) (ms_step hb hf hm (by omega)).2.2.2.2.2
theorem ms_at_ok {A : st_A} (hw : st_wf A) {n : Nat} (hn : n < tr_N (sa_T A)) : ms_ok 24 (ms_at A n) :=
  ms_ok_fold hw _ 0 _ (fun k hk => (ms_lt hw.1 24 n hn k (List.mem_reverse.mp hk)).1) (by rw [List.length_reverse]; have := ms_len (A := A) 24 n; omega) ms_ok0
theorem ht_st_lt {A : st_A} {x y : UInt64} {best : Option Nat} {n : Nat} (hn : n < tr_N (sa_T A)) (hb : ∀ m, best = some m → m < tr_N (sa_T A)) : ∀ m, ht_st A x y best n = some m → m < tr_N (sa_T A) := by
  intro m hm
  unfold ht_st at hm
  split at hm
  · exact hb m hm
  · split at hm
    · cases hm; exact hn
    · exact hb m hm
theorem ht_F_lt {A : st_A} (hw : tr_wf (sa_T A)) {x y : UInt64} : ∀ (k : Nat) (c best : Option Nat), (∀ m, c = some m → m < tr_N (sa_T A)) → (∀ m, best = some m → m < tr_N (sa_T A)) → ∀ m, ht_F A x y k c best = some m → m < tr_N (sa_T A) := by
  intro k
  induction k with
  | zero => intro c best _ hb m hm; exact hb m hm
  | succ k ih =>
    intro c best hc hb m hm
    cases c with
    | none => exact hb m hm
    | some n => exact ih _ _ (fun m hm => tr_nso_lt hw (hc n rfl) hm) (ht_st_lt (hc n rfl) hb) m hm
theorem ht_top_lt {A : st_A} (hw : tr_wf (sa_T A)) {x y : UInt64} {m : Nat} (hm : ht_top A x y = some m) : m < tr_N (sa_T A) := ht_F_lt hw 24 _ _ (fun m h => by cases h; have := hw.1.1; omega) (fun m h => by cases h) m hm
def P_X6_topmostAt (G : en_G)  (g : (Nat) × (Nat → Nat) × (Nat → Nat) × (Nat → Nat) × (Nat) × (st_A) × (UInt64) × (UInt64)) (as : List en_V) (σ : en_S) : Prop := (CX G (g.1) (g.2.1) (g.2.2.1) (g.2.2.2.1) (g.2.2.2.2.1) (g.2.2.2.2.2.1) σ) ∧ as = [en_R (some (g.1)), en_D (g.2.2.2.2.2.2.1), en_D (g.2.2.2.2.2.2.2)]
def C_X6_topmostAt (G : en_G)  : en_C := en_gh (P_X6_topmostAt G) (fun g as σ v σ' => CX G (g.1) (g.2.1) (g.2.2.1) (g.2.2.2.1) (g.2.2.2.2.1) (g.2.2.2.2.2.1) σ' ∧ ag σ σ' bF (fun _ => True) ∧ sz σ σ' ∧ v = some (en_R ((ht_top (g.2.2.2.2.2.1) (g.2.2.2.2.2.2.1) (g.2.2.2.2.2.2.2)).map (g.2.1))))
theorem pr_X6_topmostAt {G : en_G}  : ∀ as σ, (C_X6_topmostAt G).1 as σ → ∃ b tl, as = en_R (some b) :: tl ∧ en_cl σ b = some 6 ∧ tl.length = 2 := fun as σ ⟨g, hp, h2⟩ => ⟨_, _, h2, hp.1.1.1, rfl⟩
theorem cu_X6_topmostAt {G : en_G}  {x : Nat} {na : Nat → Nat} {la : Nat → Nat} {ba : Nat → Nat} {rm : Nat} {A : st_A} {px : UInt64} {py : UInt64} {σ : en_S} (hp : CX G x na la ba rm A σ) : en_Us (C_X6_topmostAt G) [en_R (some x), en_D px, en_D py] σ (fun v σ' => CX G x na la ba rm A σ' ∧ ag σ σ' bF (fun _ => True) ∧ sz σ σ' ∧ v = some (en_R ((ht_top A px py).map na))) := ⟨⟨(x, na, la, ba, rm, A, px, py), hp, rfl⟩, fun v σ' q => q (x, na, la, ba, rm, A, px, py) ⟨hp, rfl⟩⟩
def ca_X6_topmostAt (G : en_G) : List (Nat × Nat × en_C) := [(57, 9, (C_X6_nodeAt G)), (168, 5, (C_X4_measuredBox G)), (335, 13, C_X0_holds), (339, 5, C_X4_nextInShadowOrder)]
def X_X6_topmostAt (G : en_G) (q : Option en_V → en_S → Prop) : en_X := en_mk G cX6_topmostAt (en_lk fl6) (en_lk nw6) (en_lk aw6) (en_lk dc6) (en_lk (ca_X6_topmostAt G)) 3 false q
theorem d_X6_topmostAt_0 : decode cX6_topmostAt 0 = .ok (.aconst_null, 1) := by decide +kernel
theorem j_X6_topmostAt_0 {G : en_G} {q : Option en_V → en_S → Prop}  {l0 l1 l2 l3 l4 l5 l6 l7 l8 l9 : en_V}  {σ : en_S} : en_J (X_X6_topmostAt G q) 0 [l0, l1, l2, l3, l4, l5, l6, l7, l8, l9] [] σ ↔ en_J (X_X6_topmostAt G q) 1 [l0, l1, l2, l3, l4, l5, l6, l7, l8, l9] [en_R none] σ := en_j1 d_X6_topmostAt_0 rfl rfl
theorem d_X6_topmostAt_1 : decode cX6_topmostAt 1 = .ok (.astore 5, 2) := by decide +kernel
theorem j_X6_topmostAt_1 {G : en_G} {q : Option en_V → en_S → Prop}  {l0 l1 l2 l3 l4 l5 l6 l7 l8 l9 : en_V} {a0 : Option Nat} {σ : en_S} : en_J (X_X6_topmostAt G q) 1 [l0, l1, l2, l3, l4, l5, l6, l7, l8, l9] [en_R a0] σ ↔ en_J (X_X6_topmostAt G q) 3 [l0, l1, l2, l3, en_c2 l4, en_R a0, l6, l7, l8, l9] [] σ := en_j1 d_X6_topmostAt_1 rfl ⟨rfl, Nat.le_of_ble_eq_true rfl⟩
theorem d_X6_topmostAt_3 : decode cX6_topmostAt 3 = .ok (.iconst 0, 1) := by decide +kernel
theorem j_X6_topmostAt_3 {G : en_G} {q : Option en_V → en_S → Prop}  {l0 l1 l2 l3 l4 l5 l6 l7 l8 l9 : en_V}  {σ : en_S} : en_J (X_X6_topmostAt G q) 3 [l0, l1, l2, l3, l4, l5, l6, l7, l8, l9] [] σ ↔ en_J (X_X6_topmostAt G q) 4 [l0, l1, l2, l3, l4, l5, l6, l7, l8, l9] [en_I 0] σ := ej_iconst d_X6_topmostAt_3 (by decide +kernel)
theorem d_X6_topmostAt_4 : decode cX6_topmostAt 4 = .ok (.istore 6, 2) := by decide +kernel
theorem j_X6_topmostAt_4 {G : en_G} {q : Option en_V → en_S → Prop}  {l0 l1 l2 l3 l4 l5 l6 l7 l8 l9 : en_V} {a0 : Int32} {σ : en_S} : en_J (X_X6_topmostAt G q) 4 [l0, l1, l2, l3, l4, l5, l6, l7, l8, l9] [en_I a0] σ ↔ en_J (X_X6_topmostAt G q) 6 [l0, l1, l2, l3, l4, en_c2 l5, en_I a0, l7, l8, l9] [] σ := en_j1 d_X6_topmostAt_4 rfl ⟨rfl, Nat.le_of_ble_eq_true rfl⟩
theorem d_X6_topmostAt_6 : decode cX6_topmostAt 6 = .ok (.aload_n 0, 1) := by decide +kernel
theorem j_X6_topmostAt_6 {G : en_G} {q : Option en_V → en_S → Prop}  {l1 l2 l3 l4 l5 l6 l7 l8 l9 : en_V} {x0 : Option Nat} {σ : en_S} : en_J (X_X6_topmostAt G q) 6 [en_R x0, l1, l2, l3, l4, l5, l6, l7, l8, l9] [] σ ↔ en_J (X_X6_topmostAt G q) 7 [en_R x0, l1, l2, l3, l4, l5, l6, l7, l8, l9] [en_R x0] σ := en_j1 d_X6_topmostAt_6 rfl rfl
theorem d_X6_topmostAt_7 : decode cX6_topmostAt 7 = .ok (.iconst 0, 1) := by decide +kernel
theorem j_X6_topmostAt_7 {G : en_G} {q : Option en_V → en_S → Prop}  {l0 l1 l2 l3 l4 l5 l6 l7 l8 l9 : en_V} {a0 : Option Nat} {σ : en_S} : en_J (X_X6_topmostAt G q) 7 [l0, l1, l2, l3, l4, l5, l6, l7, l8, l9] [en_R a0] σ ↔ en_J (X_X6_topmostAt G q) 8 [l0, l1, l2, l3, l4, l5, l6, l7, l8, l9] [en_I 0, en_R a0] σ := ej_iconst d_X6_topmostAt_7 (by decide +kernel)
theorem d_X6_topmostAt_8 : decode cX6_topmostAt 8 = .ok (.invokevirtual 57, 3) := by decide +kernel
theorem j_X6_topmostAt_8 {G : en_G} {q : Option en_V → en_S → Prop}  {l0 l1 l2 l3 l4 l5 l6 l7 l8 l9 : en_V} {a0 : Int32} {a1 : Option Nat} {σ : en_S} : en_J (X_X6_topmostAt G q) 8 [l0, l1, l2, l3, l4, l5, l6, l7, l8, l9] [en_I a0, en_R a1] σ ↔ (C_X6_nodeAt G).1 [en_R a1, en_I a0] σ ∧ ∀ (r : Option en_V) (σ' : en_S), (C_X6_nodeAt G).2 [en_R a1, en_I a0] σ r σ' → en_J (X_X6_topmostAt G q) 11 [l0, l1, l2, l3, l4, l5, l6, l7, l8, l9] (r.toList ++ []) σ' := en_jkC (C := (C_X6_nodeAt G)) (n' := 2) (k := 1) (idx := 57) d_X6_topmostAt_8 rfl rfl (by decide) (Nat.le_of_ble_eq_true rfl) (Nat.le_of_ble_eq_true rfl)
theorem d_X6_topmostAt_11 : decode cX6_topmostAt 11 = .ok (.astore 7, 2) := by decide +kernel
theorem j_X6_topmostAt_11 {G : en_G} {q : Option en_V → en_S → Prop}  {l0 l1 l2 l3 l4 l5 l6 l7 l8 l9 : en_V} {a0 : Option Nat} {σ : en_S} : en_J (X_X6_topmostAt G q) 11 [l0, l1, l2, l3, l4, l5, l6, l7, l8, l9] [en_R a0] σ ↔ en_J (X_X6_topmostAt G q) 13 [l0, l1, l2, l3, l4, l5, en_c2 l6, en_R a0, l8, l9] [] σ := en_j1 d_X6_topmostAt_11 rfl ⟨rfl, Nat.le_of_ble_eq_true rfl⟩
theorem d_X6_topmostAt_13 : decode cX6_topmostAt 13 = .ok (.iconst 0, 1) := by decide +kernel
theorem j_X6_topmostAt_13 {G : en_G} {q : Option en_V → en_S → Prop}  {l0 l1 l2 l3 l4 l5 l6 l7 l8 l9 : en_V}  {σ : en_S} : en_J (X_X6_topmostAt G q) 13 [l0, l1, l2, l3, l4, l5, l6, l7, l8, l9] [] σ ↔ en_J (X_X6_topmostAt G q) 14 [l0, l1, l2, l3, l4, l5, l6, l7, l8, l9] [en_I 0] σ := ej_iconst d_X6_topmostAt_13 (by decide +kernel)
theorem d_X6_topmostAt_14 : decode cX6_topmostAt 14 = .ok (.istore 8, 2) := by decide +kernel
theorem j_X6_topmostAt_14 {G : en_G} {q : Option en_V → en_S → Prop}  {l0 l1 l2 l3 l4 l5 l6 l7 l8 l9 : en_V} {a0 : Int32} {σ : en_S} : en_J (X_X6_topmostAt G q) 14 [l0, l1, l2, l3, l4, l5, l6, l7, l8, l9] [en_I a0] σ ↔ en_J (X_X6_topmostAt G q) 16 [l0, l1, l2, l3, l4, l5, l6, en_c2 l7, en_I a0, l9] [] σ := en_j1 d_X6_topmostAt_14 rfl ⟨rfl, Nat.le_of_ble_eq_true rfl⟩
theorem d_X6_topmostAt_16 : decode cX6_topmostAt 16 = .ok (.aload 7, 2) := by decide +kernel
theorem j_X6_topmostAt_16 {G : en_G} {q : Option en_V → en_S → Prop}  {l0 l1 l2 l3 l4 l5 l6 l8 l9 : en_V} {x7 : Option Nat} {σ : en_S} : en_J (X_X6_topmostAt G q) 16 [l0, l1, l2, l3, l4, l5, l6, en_R x7, l8, l9] [] σ ↔ en_J (X_X6_topmostAt G q) 18 [l0, l1, l2, l3, l4, l5, l6, en_R x7, l8, l9] [en_R x7] σ := en_j1 d_X6_topmostAt_16 rfl rfl
theorem d_X6_topmostAt_18 : decode cX6_topmostAt 18 = .ok (.ifnull 71, 3) := by decide +kernel
theorem j_X6_topmostAt_18 {G : en_G} {q : Option en_V → en_S → Prop}  {l0 l1 l2 l3 l4 l5 l6 l7 l8 l9 : en_V} {a0 : Option Nat} {σ : en_S} : en_J (X_X6_topmostAt G q) 18 [l0, l1, l2, l3, l4, l5, l6, l7, l8, l9] [en_R a0] σ ↔ (a0 = none → en_J (X_X6_topmostAt G q) 89 [l0, l1, l2, l3, l4, l5, l6, l7, l8, l9] [] σ) ∧ (¬ (a0 = none) → en_J (X_X6_topmostAt G q) 21 [l0, l1, l2, l3, l4, l5, l6, l7, l8, l9] [] σ) := en_jb d_X6_topmostAt_18 rfl ⟨rfl, by decide⟩
theorem d_X6_topmostAt_21 : decode cX6_topmostAt 21 = .ok (.iload 8, 2) := by decide +kernel
theorem j_X6_topmostAt_21 {G : en_G} {q : Option en_V → en_S → Prop}  {l0 l1 l2 l3 l4 l5 l6 l7 l9 : en_V} {x8 : Int32} {σ : en_S} : en_J (X_X6_topmostAt G q) 21 [l0, l1, l2, l3, l4, l5, l6, l7, en_I x8, l9] [] σ ↔ en_J (X_X6_topmostAt G q) 23 [l0, l1, l2, l3, l4, l5, l6, l7, en_I x8, l9] [en_I x8] σ := en_j1 d_X6_topmostAt_21 rfl rfl
theorem d_X6_topmostAt_23 : decode cX6_topmostAt 23 = .ok (.bipush 24, 2) := by decide +kernel
theorem j_X6_topmostAt_23 {G : en_G} {q : Option en_V → en_S → Prop}  {l0 l1 l2 l3 l4 l5 l6 l7 l8 l9 : en_V} {a0 : Int32} {σ : en_S} : en_J (X_X6_topmostAt G q) 23 [l0, l1, l2, l3, l4, l5, l6, l7, l8, l9] [en_I a0] σ ↔ en_J (X_X6_topmostAt G q) 25 [l0, l1, l2, l3, l4, l5, l6, l7, l8, l9] [en_I 24, en_I a0] σ := ej_bipush d_X6_topmostAt_23 (by decide +kernel)
theorem d_X6_topmostAt_25 : decode cX6_topmostAt 25 = .ok (.if_icmp .ge 64, 3) := by decide +kernel
theorem j_X6_topmostAt_25 {G : en_G} {q : Option en_V → en_S → Prop}  {l0 l1 l2 l3 l4 l5 l6 l7 l8 l9 : en_V} {a0 : Int32} {a1 : Int32} {σ : en_S} : en_J (X_X6_topmostAt G q) 25 [l0, l1, l2, l3, l4, l5, l6, l7, l8, l9] [en_I a0, en_I a1] σ ↔ (a0 ≤ a1 → en_J (X_X6_topmostAt G q) 89 [l0, l1, l2, l3, l4, l5, l6, l7, l8, l9] [] σ) ∧ (¬ (a0 ≤ a1) → en_J (X_X6_topmostAt G q) 28 [l0, l1, l2, l3, l4, l5, l6, l7, l8, l9] [] σ) := en_jb d_X6_topmostAt_25 rfl ⟨rfl, by decide⟩
theorem d_X6_topmostAt_28 : decode cX6_topmostAt 28 = .ok (.aload 7, 2) := by decide +kernel
theorem j_X6_topmostAt_28 {G : en_G} {q : Option en_V → en_S → Prop}  {l0 l1 l2 l3 l4 l5 l6 l8 l9 : en_V} {x7 : Option Nat} {σ : en_S} : en_J (X_X6_topmostAt G q) 28 [l0, l1, l2, l3, l4, l5, l6, en_R x7, l8, l9] [] σ ↔ en_J (X_X6_topmostAt G q) 30 [l0, l1, l2, l3, l4, l5, l6, en_R x7, l8, l9] [en_R x7] σ := en_j1 d_X6_topmostAt_28 rfl rfl
theorem d_X6_topmostAt_30 : decode cX6_topmostAt 30 = .ok (.invokevirtual 168, 3) := by decide +kernel
theorem j_X6_topmostAt_30 {G : en_G} {q : Option en_V → en_S → Prop}  {l0 l1 l2 l3 l4 l5 l6 l7 l8 l9 : en_V} {a0 : Option Nat} {σ : en_S} : en_J (X_X6_topmostAt G q) 30 [l0, l1, l2, l3, l4, l5, l6, l7, l8, l9] [en_R a0] σ ↔ (C_X4_measuredBox G).1 [en_R a0] σ ∧ ∀ (r : Option en_V) (σ' : en_S), (C_X4_measuredBox G).2 [en_R a0] σ r σ' → en_J (X_X6_topmostAt G q) 33 [l0, l1, l2, l3, l4, l5, l6, l7, l8, l9] (r.toList ++ []) σ' := en_jkC (C := (C_X4_measuredBox G)) (n' := 1) (k := 1) (idx := 168) d_X6_topmostAt_30 rfl rfl (by decide) (Nat.le_of_ble_eq_true rfl) (Nat.le_of_ble_eq_true rfl)
theorem d_X6_topmostAt_33 : decode cX6_topmostAt 33 = .ok (.astore 9, 2) := by decide +kernel
theorem j_X6_topmostAt_33 {G : en_G} {q : Option en_V → en_S → Prop}  {l0 l1 l2 l3 l4 l5 l6 l7 l8 l9 : en_V} {a0 : Option Nat} {σ : en_S} : en_J (X_X6_topmostAt G q) 33 [l0, l1, l2, l3, l4, l5, l6, l7, l8, l9] [en_R a0] σ ↔ en_J (X_X6_topmostAt G q) 35 [l0, l1, l2, l3, l4, l5, l6, l7, en_c2 l8, en_R a0] [] σ := en_j1 d_X6_topmostAt_33 rfl ⟨rfl, Nat.le_of_ble_eq_true rfl⟩
theorem d_X6_topmostAt_35 : decode cX6_topmostAt 35 = .ok (.aload 9, 2) := by decide +kernel
theorem j_X6_topmostAt_35 {G : en_G} {q : Option en_V → en_S → Prop}  {l0 l1 l2 l3 l4 l5 l6 l7 l8 : en_V} {x9 : Option Nat} {σ : en_S} : en_J (X_X6_topmostAt G q) 35 [l0, l1, l2, l3, l4, l5, l6, l7, l8, en_R x9] [] σ ↔ en_J (X_X6_topmostAt G q) 37 [l0, l1, l2, l3, l4, l5, l6, l7, l8, en_R x9] [en_R x9] σ := en_j1 d_X6_topmostAt_35 rfl rfl
theorem d_X6_topmostAt_37 : decode cX6_topmostAt 37 = .ok (.ifnull 39, 3) := by decide +kernel
theorem j_X6_topmostAt_37 {G : en_G} {q : Option en_V → en_S → Prop}  {l0 l1 l2 l3 l4 l5 l6 l7 l8 l9 : en_V} {a0 : Option Nat} {σ : en_S} : en_J (X_X6_topmostAt G q) 37 [l0, l1, l2, l3, l4, l5, l6, l7, l8, l9] [en_R a0] σ ↔ (a0 = none → en_J (X_X6_topmostAt G q) 76 [l0, l1, l2, l3, l4, l5, l6, l7, l8, l9] [] σ) ∧ (¬ (a0 = none) → en_J (X_X6_topmostAt G q) 40 [l0, l1, l2, l3, l4, l5, l6, l7, l8, l9] [] σ) := en_jb d_X6_topmostAt_37 rfl ⟨rfl, by decide⟩
theorem d_X6_topmostAt_40 : decode cX6_topmostAt 40 = .ok (.aload 9, 2) := by decide +kernel
theorem j_X6_topmostAt_40 {G : en_G} {q : Option en_V → en_S → Prop}  {l0 l1 l2 l3 l4 l5 l6 l7 l8 : en_V} {x9 : Option Nat} {σ : en_S} : en_J (X_X6_topmostAt G q) 40 [l0, l1, l2, l3, l4, l5, l6, l7, l8, en_R x9] [] σ ↔ en_J (X_X6_topmostAt G q) 42 [l0, l1, l2, l3, l4, l5, l6, l7, l8, en_R x9] [en_R x9] σ := en_j1 d_X6_topmostAt_40 rfl rfl
theorem d_X6_topmostAt_42 : decode cX6_topmostAt 42 = .ok (.dload_n 1, 1) := by decide +kernel
theorem j_X6_topmostAt_42 {G : en_G} {q : Option en_V → en_S → Prop}  {l0 l2 l3 l4 l5 l6 l7 l8 l9 : en_V} {a0 : Option Nat} {x1 : UInt64} {σ : en_S} : en_J (X_X6_topmostAt G q) 42 [l0, en_D x1, l2, l3, l4, l5, l6, l7, l8, l9] [en_R a0] σ ↔ en_J (X_X6_topmostAt G q) 43 [l0, en_D x1, l2, l3, l4, l5, l6, l7, l8, l9] [en_D x1, en_R a0] σ := en_j1 d_X6_topmostAt_42 rfl rfl
theorem d_X6_topmostAt_43 : decode cX6_topmostAt 43 = .ok (.dload_n 3, 1) := by decide +kernel
theorem j_X6_topmostAt_43 {G : en_G} {q : Option en_V → en_S → Prop}  {l0 l1 l2 l4 l5 l6 l7 l8 l9 : en_V} {a0 : UInt64} {a1 : Option Nat} {x3 : UInt64} {σ : en_S} : en_J (X_X6_topmostAt G q) 43 [l0, l1, l2, en_D x3, l4, l5, l6, l7, l8, l9] [en_D a0, en_R a1] σ ↔ en_J (X_X6_topmostAt G q) 44 [l0, l1, l2, en_D x3, l4, l5, l6, l7, l8, l9] [en_D x3, en_D a0, en_R a1] σ := en_j1 d_X6_topmostAt_43 rfl rfl
theorem d_X6_topmostAt_44 : decode cX6_topmostAt 44 = .ok (.invokevirtual 335, 3) := by decide +kernel
theorem j_X6_topmostAt_44 {G : en_G} {q : Option en_V → en_S → Prop}  {l0 l1 l2 l3 l4 l5 l6 l7 l8 l9 : en_V} {a0 : UInt64} {a1 : UInt64} {a2 : Option Nat} {σ : en_S} : en_J (X_X6_topmostAt G q) 44 [l0, l1, l2, l3, l4, l5, l6, l7, l8, l9] [en_D a0, en_D a1, en_R a2] σ ↔ C_X0_holds.1 [en_R a2, en_D a1, en_D a0] σ ∧ ∀ (r : Option en_V) (σ' : en_S), C_X0_holds.2 [en_R a2, en_D a1, en_D a0] σ r σ' → en_J (X_X6_topmostAt G q) 47 [l0, l1, l2, l3, l4, l5, l6, l7, l8, l9] (r.toList ++ []) σ' := en_jk d_X6_topmostAt_44 rfl ⟨fun h => h.2.2.2.2, fun h => ⟨rfl, rfl, Nat.le_of_ble_eq_true rfl, Nat.le_of_ble_eq_true rfl, h⟩⟩
theorem d_X6_topmostAt_47 : decode cX6_topmostAt 47 = .ok (.ifCond .eq 29, 3) := by decide +kernel
theorem j_X6_topmostAt_47 {G : en_G} {q : Option en_V → en_S → Prop}  {l0 l1 l2 l3 l4 l5 l6 l7 l8 l9 : en_V} {a0 : Int32} {σ : en_S} : en_J (X_X6_topmostAt G q) 47 [l0, l1, l2, l3, l4, l5, l6, l7, l8, l9] [en_I a0] σ ↔ (a0 = 0 → en_J (X_X6_topmostAt G q) 76 [l0, l1, l2, l3, l4, l5, l6, l7, l8, l9] [] σ) ∧ (¬ (a0 = 0) → en_J (X_X6_topmostAt G q) 50 [l0, l1, l2, l3, l4, l5, l6, l7, l8, l9] [] σ) := en_jb d_X6_topmostAt_47 rfl ⟨rfl, by decide⟩
theorem d_X6_topmostAt_50 : decode cX6_topmostAt 50 = .ok (.aload 5, 2) := by decide +kernel
theorem j_X6_topmostAt_50 {G : en_G} {q : Option en_V → en_S → Prop}  {l0 l1 l2 l3 l4 l6 l7 l8 l9 : en_V} {x5 : Option Nat} {σ : en_S} : en_J (X_X6_topmostAt G q) 50 [l0, l1, l2, l3, l4, en_R x5, l6, l7, l8, l9] [] σ ↔ en_J (X_X6_topmostAt G q) 52 [l0, l1, l2, l3, l4, en_R x5, l6, l7, l8, l9] [en_R x5] σ := en_j1 d_X6_topmostAt_50 rfl rfl
theorem d_X6_topmostAt_52 : decode cX6_topmostAt 52 = .ok (.ifnull 13, 3) := by decide +kernel
theorem j_X6_topmostAt_52 {G : en_G} {q : Option en_V → en_S → Prop}  {l0 l1 l2 l3 l4 l5 l6 l7 l8 l9 : en_V} {a0 : Option Nat} {σ : en_S} : en_J (X_X6_topmostAt G q) 52 [l0, l1, l2, l3, l4, l5, l6, l7, l8, l9] [en_R a0] σ ↔ (a0 = none → en_J (X_X6_topmostAt G q) 65 [l0, l1, l2, l3, l4, l5, l6, l7, l8, l9] [] σ) ∧ (¬ (a0 = none) → en_J (X_X6_topmostAt G q) 55 [l0, l1, l2, l3, l4, l5, l6, l7, l8, l9] [] σ) := en_jb d_X6_topmostAt_52 rfl ⟨rfl, by decide⟩
theorem d_X6_topmostAt_55 : decode cX6_topmostAt 55 = .ok (.aload 9, 2) := by decide +kernel
theorem j_X6_topmostAt_55 {G : en_G} {q : Option en_V → en_S → Prop}  {l0 l1 l2 l3 l4 l5 l6 l7 l8 : en_V} {x9 : Option Nat} {σ : en_S} : en_J (X_X6_topmostAt G q) 55 [l0, l1, l2, l3, l4, l5, l6, l7, l8, en_R x9] [] σ ↔ en_J (X_X6_topmostAt G q) 57 [l0, l1, l2, l3, l4, l5, l6, l7, l8, en_R x9] [en_R x9] σ := en_j1 d_X6_topmostAt_55 rfl rfl
theorem d_X6_topmostAt_57 : decode cX6_topmostAt 57 = .ok (.getfield 165, 3) := by decide +kernel
theorem j_X6_topmostAt_57 {G : en_G} {q : Option en_V → en_S → Prop}  {l0 l1 l2 l3 l4 l5 l6 l7 l8 l9 : en_V} {a0 : Option Nat} {σ : en_S} : en_J (X_X6_topmostAt G q) 57 [l0, l1, l2, l3, l4, l5, l6, l7, l8, l9] [en_R a0] σ ↔ ∃ a, a0 = some a ∧ en_cl σ a = some 0 ∧ en_J (X_X6_topmostAt G q) 60 [l0, l1, l2, l3, l4, l5, l6, l7, l8, l9] [en_I (en_fi σ 5 a)] σ := en_jg (st := fun o => [en_R o]) (st' := fun a => [en_I (en_fi σ 5 a)]) (σ' := fun _ => σ) d_X6_topmostAt_57 rfl (fun a => rfl) (fun a => ⟨fun h => h.2, fun h => ⟨rfl, h⟩⟩)
theorem d_X6_topmostAt_60 : decode cX6_topmostAt 60 = .ok (.iload 6, 2) := by decide +kernel
theorem j_X6_topmostAt_60 {G : en_G} {q : Option en_V → en_S → Prop}  {l0 l1 l2 l3 l4 l5 l7 l8 l9 : en_V} {a0 : Int32} {x6 : Int32} {σ : en_S} : en_J (X_X6_topmostAt G q) 60 [l0, l1, l2, l3, l4, l5, en_I x6, l7, l8, l9] [en_I a0] σ ↔ en_J (X_X6_topmostAt G q) 62 [l0, l1, l2, l3, l4, l5, en_I x6, l7, l8, l9] [en_I x6, en_I a0] σ := en_j1 d_X6_topmostAt_60 rfl rfl
theorem d_X6_topmostAt_62 : decode cX6_topmostAt 62 = .ok (.if_icmp .lt 14, 3) := by decide +kernel
theorem j_X6_topmostAt_62 {G : en_G} {q : Option en_V → en_S → Prop}  {l0 l1 l2 l3 l4 l5 l6 l7 l8 l9 : en_V} {a0 : Int32} {a1 : Int32} {σ : en_S} : en_J (X_X6_topmostAt G q) 62 [l0, l1, l2, l3, l4, l5, l6, l7, l8, l9] [en_I a0, en_I a1] σ ↔ (a1 < a0 → en_J (X_X6_topmostAt G q) 76 [l0, l1, l2, l3, l4, l5, l6, l7, l8, l9] [] σ) ∧ (¬ (a1 < a0) → en_J (X_X6_topmostAt G q) 65 [l0, l1, l2, l3, l4, l5, l6, l7, l8, l9] [] σ) := en_jb d_X6_topmostAt_62 rfl ⟨rfl, by decide⟩
theorem d_X6_topmostAt_65 : decode cX6_topmostAt 65 = .ok (.aload 7, 2) := by decide +kernel
theorem j_X6_topmostAt_65 {G : en_G} {q : Option en_V → en_S → Prop}  {l0 l1 l2 l3 l4 l5 l6 l8 l9 : en_V} {x7 : Option Nat} {σ : en_S} : en_J (X_X6_topmostAt G q) 65 [l0, l1, l2, l3, l4, l5, l6, en_R x7, l8, l9] [] σ ↔ en_J (X_X6_topmostAt G q) 67 [l0, l1, l2, l3, l4, l5, l6, en_R x7, l8, l9] [en_R x7] σ := en_j1 d_X6_topmostAt_65 rfl rfl
theorem d_X6_topmostAt_67 : decode cX6_topmostAt 67 = .ok (.astore 5, 2) := by decide +kernel
theorem j_X6_topmostAt_67 {G : en_G} {q : Option en_V → en_S → Prop}  {l0 l1 l2 l3 l4 l5 l6 l7 l8 l9 : en_V} {a0 : Option Nat} {σ : en_S} : en_J (X_X6_topmostAt G q) 67 [l0, l1, l2, l3, l4, l5, l6, l7, l8, l9] [en_R a0] σ ↔ en_J (X_X6_topmostAt G q) 69 [l0, l1, l2, l3, en_c2 l4, en_R a0, l6, l7, l8, l9] [] σ := en_j1 d_X6_topmostAt_67 rfl ⟨rfl, Nat.le_of_ble_eq_true rfl⟩
theorem d_X6_topmostAt_69 : decode cX6_topmostAt 69 = .ok (.aload 9, 2) := by decide +kernel
theorem j_X6_topmostAt_69 {G : en_G} {q : Option en_V → en_S → Prop}  {l0 l1 l2 l3 l4 l5 l6 l7 l8 : en_V} {x9 : Option Nat} {σ : en_S} : en_J (X_X6_topmostAt G q) 69 [l0, l1, l2, l3, l4, l5, l6, l7, l8, en_R x9] [] σ ↔ en_J (X_X6_topmostAt G q) 71 [l0, l1, l2, l3, l4, l5, l6, l7, l8, en_R x9] [en_R x9] σ := en_j1 d_X6_topmostAt_69 rfl rfl
theorem d_X6_topmostAt_71 : decode cX6_topmostAt 71 = .ok (.getfield 165, 3) := by decide +kernel
theorem j_X6_topmostAt_71 {G : en_G} {q : Option en_V → en_S → Prop}  {l0 l1 l2 l3 l4 l5 l6 l7 l8 l9 : en_V} {a0 : Option Nat} {σ : en_S} : en_J (X_X6_topmostAt G q) 71 [l0, l1, l2, l3, l4, l5, l6, l7, l8, l9] [en_R a0] σ ↔ ∃ a, a0 = some a ∧ en_cl σ a = some 0 ∧ en_J (X_X6_topmostAt G q) 74 [l0, l1, l2, l3, l4, l5, l6, l7, l8, l9] [en_I (en_fi σ 5 a)] σ := en_jg (st := fun o => [en_R o]) (st' := fun a => [en_I (en_fi σ 5 a)]) (σ' := fun _ => σ) d_X6_topmostAt_71 rfl (fun a => rfl) (fun a => ⟨fun h => h.2, fun h => ⟨rfl, h⟩⟩)
theorem d_X6_topmostAt_74 : decode cX6_topmostAt 74 = .ok (.istore 6, 2) := by decide +kernel
theorem j_X6_topmostAt_74 {G : en_G} {q : Option en_V → en_S → Prop}  {l0 l1 l2 l3 l4 l5 l6 l7 l8 l9 : en_V} {a0 : Int32} {σ : en_S} : en_J (X_X6_topmostAt G q) 74 [l0, l1, l2, l3, l4, l5, l6, l7, l8, l9] [en_I a0] σ ↔ en_J (X_X6_topmostAt G q) 76 [l0, l1, l2, l3, l4, en_c2 l5, en_I a0, l7, l8, l9] [] σ := en_j1 d_X6_topmostAt_74 rfl ⟨rfl, Nat.le_of_ble_eq_true rfl⟩
theorem d_X6_topmostAt_76 : decode cX6_topmostAt 76 = .ok (.aload 7, 2) := by decide +kernel
theorem j_X6_topmostAt_76 {G : en_G} {q : Option en_V → en_S → Prop}  {l0 l1 l2 l3 l4 l5 l6 l8 l9 : en_V} {x7 : Option Nat} {σ : en_S} : en_J (X_X6_topmostAt G q) 76 [l0, l1, l2, l3, l4, l5, l6, en_R x7, l8, l9] [] σ ↔ en_J (X_X6_topmostAt G q) 78 [l0, l1, l2, l3, l4, l5, l6, en_R x7, l8, l9] [en_R x7] σ := en_j1 d_X6_topmostAt_76 rfl rfl
theorem d_X6_topmostAt_78 : decode cX6_topmostAt 78 = .ok (.invokevirtual 339, 3) := by decide +kernel
theorem j_X6_topmostAt_78 {G : en_G} {q : Option en_V → en_S → Prop}  {l0 l1 l2 l3 l4 l5 l6 l7 l8 l9 : en_V} {a0 : Option Nat} {σ : en_S} : en_J (X_X6_topmostAt G q) 78 [l0, l1, l2, l3, l4, l5, l6, l7, l8, l9] [en_R a0] σ ↔ C_X4_nextInShadowOrder.1 [en_R a0] σ ∧ ∀ (r : Option en_V) (σ' : en_S), C_X4_nextInShadowOrder.2 [en_R a0] σ r σ' → en_J (X_X6_topmostAt G q) 81 [l0, l1, l2, l3, l4, l5, l6, l7, l8, l9] (r.toList ++ []) σ' := en_jk d_X6_topmostAt_78 rfl ⟨fun h => h.2.2.2.2, fun h => ⟨rfl, rfl, Nat.le_of_ble_eq_true rfl, Nat.le_of_ble_eq_true rfl, h⟩⟩
theorem d_X6_topmostAt_81 : decode cX6_topmostAt 81 = .ok (.astore 7, 2) := by decide +kernel
theorem j_X6_topmostAt_81 {G : en_G} {q : Option en_V → en_S → Prop}  {l0 l1 l2 l3 l4 l5 l6 l7 l8 l9 : en_V} {a0 : Option Nat} {σ : en_S} : en_J (X_X6_topmostAt G q) 81 [l0, l1, l2, l3, l4, l5, l6, l7, l8, l9] [en_R a0] σ ↔ en_J (X_X6_topmostAt G q) 83 [l0, l1, l2, l3, l4, l5, en_c2 l6, en_R a0, l8, l9] [] σ := en_j1 d_X6_topmostAt_81 rfl ⟨rfl, Nat.le_of_ble_eq_true rfl⟩
theorem d_X6_topmostAt_83 : decode cX6_topmostAt 83 = .ok (.iinc 8 1, 3) := by decide +kernel
theorem j_X6_topmostAt_83 {G : en_G} {q : Option en_V → en_S → Prop}  {l0 l1 l2 l3 l4 l5 l6 l7 l9 : en_V} {x8 : Int32} {σ : en_S} : en_J (X_X6_topmostAt G q) 83 [l0, l1, l2, l3, l4, l5, l6, l7, en_I x8, l9] [] σ ↔ en_J (X_X6_topmostAt G q) 86 [l0, l1, l2, l3, l4, l5, l6, en_c2 l7, en_I (x8 + 1), l9] [] σ := ej_iinc d_X6_topmostAt_83 rfl (by decide +kernel) rfl
theorem d_X6_topmostAt_86 : decode cX6_topmostAt 86 = .ok (.goto (-70), 3) := by decide +kernel
theorem j_X6_topmostAt_86 {G : en_G} {q : Option en_V → en_S → Prop}  {l0 l1 l2 l3 l4 l5 l6 l7 l8 l9 : en_V}  {σ : en_S} : en_J (X_X6_topmostAt G q) 86 [l0, l1, l2, l3, l4, l5, l6, l7, l8, l9] [] σ ↔ en_J (X_X6_topmostAt G q) 16 [l0, l1, l2, l3, l4, l5, l6, l7, l8, l9] [] σ := en_j1 d_X6_topmostAt_86 rfl ⟨rfl, by decide⟩
theorem d_X6_topmostAt_89 : decode cX6_topmostAt 89 = .ok (.aload 5, 2) := by decide +kernel
theorem j_X6_topmostAt_89 {G : en_G} {q : Option en_V → en_S → Prop}  {l0 l1 l2 l3 l4 l6 l7 l8 l9 : en_V} {x5 : Option Nat} {σ : en_S} : en_J (X_X6_topmostAt G q) 89 [l0, l1, l2, l3, l4, en_R x5, l6, l7, l8, l9] [] σ ↔ en_J (X_X6_topmostAt G q) 91 [l0, l1, l2, l3, l4, en_R x5, l6, l7, l8, l9] [en_R x5] σ := en_j1 d_X6_topmostAt_89 rfl rfl
theorem d_X6_topmostAt_91 : decode cX6_topmostAt 91 = .ok (.areturn, 1) := by decide +kernel
theorem j_X6_topmostAt_91 {G : en_G} {q : Option en_V → en_S → Prop}  {l0 l1 l2 l3 l4 l5 l6 l7 l8 l9 : en_V} {a0 : Option Nat} {σ : en_S} : en_J (X_X6_topmostAt G q) 91 [l0, l1, l2, l3, l4, l5, l6, l7, l8, l9] [en_R a0] σ ↔ q (some (en_R a0)) σ := en_jr d_X6_topmostAt_91 rfl ⟨fun h => h.2.2, fun h => ⟨rfl, rfl, h⟩⟩
theorem wc_X6_topmostAt : Jvm.Cond.code yX6_topmostAt cX6_topmostAt 10 (some (.object "NodeStage$Node")) ∈ en_W := en_inW (List.mem_of_getElem? (i := 349) (by decide +kernel)) (by decide +kernel)
theorem wi_X6_topmostAt : Jvm.Cond.instanceMethod yX6_topmostAt ∈ en_W := en_inW (List.mem_of_getElem? (i := 348) (by decide +kernel)) (by decide +kernel)
theorem wx_X6_topmostAt : Jvm.Cond.selects RX6 yX6_topmostAt yX6_topmostAt ∈ en_W := en_inW (List.mem_of_getElem? (i := 7) (by decide +kernel)) (by decide +kernel)
theorem jw_X6_topmostAt {G : en_G} {q : Option en_V → en_S → Prop} {x : Nat} {na la ba : Nat → Nat} {rm : Nat} {A : st_A} {px py : UInt64} {l9 : en_V} : ∀ (k i : Nat) (cur best : Option Nat) (σ : en_S), CX G x na la ba rm A σ → i + k = 24 → (∀ m, cur = some m → m < tr_N (sa_T A)) → (∀ m, best = some m → m < tr_N (sa_T A)) → (∀ σ', CX G x na la ba rm A σ' → ag σ σ' bF (fun _ => True) → sz σ σ' → q (some (en_R ((ht_F A px py k cur best).map na))) σ') → en_J (X_X6_topmostAt G q) 16 [en_R (some x), en_D px, en_U, en_D py, en_U, en_R (best.map na), en_I (ht_lay A best), en_R (cur.map na), en_I (nI i), l9] [] σ := by
  intro k
  have c24 : (24 : Int32) = nI 24 := by decide +kernel
  induction k generalizing l9 with
  | zero =>
    intro i cur best σ hC hi hcur hbest hk
    have : i = 24 := by omega
    subst this
    have n1 : (24 : Int32) ≤ nI 24 := by decide +kernel
    rw [j_X6_topmostAt_16]
    cases cur with
    | none =>
      simp only [j_X6_topmostAt_0, j_X6_topmostAt_1, j_X6_topmostAt_3, j_X6_topmostAt_4, j_X6_topmostAt_6, j_X6_topmostAt_7, j_X6_topmostAt_8, j_X6_topmostAt_11, j_X6_topmostAt_13, j_X6_topmostAt_14, j_X6_topmostAt_18, j_X6_topmostAt_21, j_X6_topmostAt_23, j_X6_topmostAt_25, j_X6_topmostAt_28, j_X6_topmostAt_30, j_X6_topmostAt_33, j_X6_topmostAt_35, j_X6_topmostAt_37, j_X6_topmostAt_40, j_X6_topmostAt_42, j_X6_topmostAt_43, j_X6_topmostAt_44, j_X6_topmostAt_47, j_X6_topmostAt_50, j_X6_topmostAt_52, j_X6_topmostAt_55, j_X6_topmostAt_57, j_X6_topmostAt_60, j_X6_topmostAt_62, j_X6_topmostAt_65, j_X6_topmostAt_67, j_X6_topmostAt_69, j_X6_topmostAt_71, j_X6_topmostAt_74, j_X6_topmostAt_76, j_X6_topmostAt_78, j_X6_topmostAt_81, j_X6_topmostAt_83, j_X6_topmostAt_86, j_X6_topmostAt_89, j_X6_topmostAt_91, en_c2I, en_c2R, en_c2U, en_c2D, Option.some.injEq, exists_eq_left', exists_eq_left, Option.map_some, Option.map_none, not_true_eq_false, false_implies, true_implies, and_true, true_and, reduceCtorEq, not_false_eq_true]
      exact hk σ hC ag.rf sz.rf
    | some m =>
      simp only [j_X6_topmostAt_0, j_X6_topmostAt_1, j_X6_topmostAt_3, j_X6_topmostAt_4, j_X6_topmostAt_6, j_X6_topmostAt_7, j_X6_topmostAt_8, j_X6_topmostAt_11, j_X6_topmostAt_13, j_X6_topmostAt_14, j_X6_topmostAt_18, j_X6_topmostAt_21, j_X6_topmostAt_23, j_X6_topmostAt_25, j_X6_topmostAt_28, j_X6_topmostAt_30, j_X6_topmostAt_33, j_X6_topmostAt_35, j_X6_topmostAt_37, j_X6_topmostAt_40, j_X6_topmostAt_42, j_X6_topmostAt_43, j_X6_topmostAt_44, j_X6_topmostAt_47, j_X6_topmostAt_50, j_X6_topmostAt_52, j_X6_topmostAt_55, j_X6_topmostAt_57, j_X6_topmostAt_60, j_X6_topmostAt_62, j_X6_topmostAt_65, j_X6_topmostAt_67, j_X6_topmostAt_69, j_X6_topmostAt_71, j_X6_topmostAt_74, j_X6_topmostAt_76, j_X6_topmostAt_78, j_X6_topmostAt_81, j_X6_topmostAt_83, j_X6_topmostAt_86, j_X6_topmostAt_89, j_X6_topmostAt_91, en_c2I, en_c2R, en_c2U, en_c2D, Option.some.injEq, exists_eq_left', exists_eq_left, Option.map_some, Option.map_none, not_true_eq_false, false_implies, true_implies, and_true, true_and, reduceCtorEq, not_false_eq_true, n1]
      exact hk σ hC ag.rf sz.rf
  | succ k ih =>
    intro i cur best σ hC hi hcur hbest hk
    have n1 : ¬ (24 : Int32) ≤ nI i := by rw [c24]; exact nI_ge (by omega) (by decide)
    rw [j_X6_topmostAt_16]
    cases cur with
    | none =>
      simp only [j_X6_topmostAt_0, j_X6_topmostAt_1, j_X6_topmostAt_3, j_X6_topmostAt_4, j_X6_topmostAt_6, j_X6_topmostAt_7, j_X6_topmostAt_8, j_X6_topmostAt_11, j_X6_topmostAt_13, j_X6_topmostAt_14, j_X6_topmostAt_18, j_X6_topmostAt_21, j_X6_topmostAt_23, j_X6_topmostAt_25, j_X6_topmostAt_28, j_X6_topmostAt_30, j_X6_topmostAt_33, j_X6_topmostAt_35, j_X6_topmostAt_37, j_X6_topmostAt_40, j_X6_topmostAt_42, j_X6_topmostAt_43, j_X6_topmostAt_44, j_X6_topmostAt_47, j_X6_topmostAt_50, j_X6_topmostAt_52, j_X6_topmostAt_55, j_X6_topmostAt_57, j_X6_topmostAt_60, j_X6_topmostAt_62, j_X6_topmostAt_65, j_X6_topmostAt_67, j_X6_topmostAt_69, j_X6_topmostAt_71, j_X6_topmostAt_74, j_X6_topmostAt_76, j_X6_topmostAt_78, j_X6_topmostAt_81, j_X6_topmostAt_83, j_X6_topmostAt_86, j_X6_topmostAt_89, j_X6_topmostAt_91, en_c2I, en_c2R, en_c2U, en_c2D, Option.some.injEq, exists_eq_left', exists_eq_left, Option.map_some, Option.map_none, not_true_eq_false, false_implies, true_implies, and_true, true_and, reduceCtorEq, not_false_eq_true]
      exact hk σ hC ag.rf sz.rf
    | some m =>
      have hm := hcur m rfl
      have hw := hC.2.2.2.2.2.2.2.2.1
      have n5 : nI i + 1 = nI (i + 1) := nI_1 _
      have i1 : ¬ (1 : Int32) = 0 := by decide
      simp only [j_X6_topmostAt_0, j_X6_topmostAt_1, j_X6_topmostAt_3, j_X6_topmostAt_4, j_X6_topmostAt_6, j_X6_topmostAt_7, j_X6_topmostAt_8, j_X6_topmostAt_11, j_X6_topmostAt_13, j_X6_topmostAt_14, j_X6_topmostAt_18, j_X6_topmostAt_21, j_X6_topmostAt_23, j_X6_topmostAt_25, j_X6_topmostAt_28, j_X6_topmostAt_30, j_X6_topmostAt_33, j_X6_topmostAt_35, j_X6_topmostAt_37, j_X6_topmostAt_40, j_X6_topmostAt_42, j_X6_topmostAt_43, j_X6_topmostAt_44, j_X6_topmostAt_47, j_X6_topmostAt_50, j_X6_topmostAt_52, j_X6_topmostAt_55, j_X6_topmostAt_57, j_X6_topmostAt_60, j_X6_topmostAt_62, j_X6_topmostAt_65, j_X6_topmostAt_67, j_X6_topmostAt_69, j_X6_topmostAt_71, j_X6_topmostAt_74, j_X6_topmostAt_76, j_X6_topmostAt_78, j_X6_topmostAt_81, j_X6_topmostAt_83, j_X6_topmostAt_86, j_X6_topmostAt_89, j_X6_topmostAt_91, en_c2I, en_c2R, en_c2U, en_c2D, Option.some.injEq, exists_eq_left', exists_eq_left, Option.map_some, Option.map_none, not_true_eq_false, false_implies, true_implies, and_true, true_and, reduceCtorEq, not_false_eq_true, n1]
      refine en_use (cu_X4_measuredBox ⟨hC, hm⟩) ?_
      rintro v σ1 ⟨hC1, g1, s1, rfl, hval⟩
      have tail : ∀ (best' : Option Nat) (l9 : en_V), best' = ht_st A px py best m → en_J (X_X6_topmostAt G q) 76 [en_R (some x), en_D px, en_U, en_D py, en_U, en_R (best'.map na), en_I (ht_lay A best'), en_R (some (na m)), en_I (nI i), l9] [] σ1 := by
        intro best' l9 hb'
        simp only [j_X6_topmostAt_0, j_X6_topmostAt_1, j_X6_topmostAt_3, j_X6_topmostAt_4, j_X6_topmostAt_6, j_X6_topmostAt_7, j_X6_topmostAt_8, j_X6_topmostAt_11, j_X6_topmostAt_13, j_X6_topmostAt_14, j_X6_topmostAt_18, j_X6_topmostAt_21, j_X6_topmostAt_23, j_X6_topmostAt_25, j_X6_topmostAt_28, j_X6_topmostAt_30, j_X6_topmostAt_33, j_X6_topmostAt_35, j_X6_topmostAt_37, j_X6_topmostAt_40, j_X6_topmostAt_42, j_X6_topmostAt_43, j_X6_topmostAt_44, j_X6_topmostAt_47, j_X6_topmostAt_50, j_X6_topmostAt_52, j_X6_topmostAt_55, j_X6_topmostAt_57, j_X6_topmostAt_60, j_X6_topmostAt_62, j_X6_topmostAt_65, j_X6_topmostAt_67, j_X6_topmostAt_69, j_X6_topmostAt_71, j_X6_topmostAt_74, j_X6_topmostAt_76, j_X6_topmostAt_78, j_X6_topmostAt_81, j_X6_topmostAt_83, j_X6_topmostAt_86, j_X6_topmostAt_89, j_X6_topmostAt_91, en_c2I, en_c2R, en_c2U, en_c2D, Option.some.injEq, exists_eq_left', exists_eq_left, Option.map_some, Option.map_none, not_true_eq_false, false_implies, true_implies, and_true, true_and, reduceCtorEq, not_false_eq_true]
        refine en_use (cu_X4_nextInShadowOrder hC1.2.1 hw.1 hm) ?_
        rintro v σ2 ⟨rfl, rfl⟩
        cases l9 with
        | none =>
          simp only [Option.toList, List.cons_append, List.nil_append, j_X6_topmostAt_0, j_X6_topmostAt_1, j_X6_topmostAt_3, j_X6_topmostAt_4, j_X6_topmostAt_6, j_X6_topmostAt_7, j_X6_topmostAt_8, j_X6_topmostAt_11, j_X6_topmostAt_13, j_X6_topmostAt_14, j_X6_topmostAt_18, j_X6_topmostAt_21, j_X6_topmostAt_23, j_X6_topmostAt_25, j_X6_topmostAt_28, j_X6_topmostAt_30, j_X6_topmostAt_33, j_X6_topmostAt_35, j_X6_topmostAt_37, j_X6_topmostAt_40, j_X6_topmostAt_42, j_X6_topmostAt_43, j_X6_topmostAt_44, j_X6_topmostAt_47, j_X6_topmostAt_50, j_X6_topmostAt_52, j_X6_topmostAt_55, j_X6_topmostAt_57, j_X6_topmostAt_60, j_X6_topmostAt_62, j_X6_topmostAt_65, j_X6_topmostAt_67, j_X6_topmostAt_69, j_X6_topmostAt_71, j_X6_topmostAt_74, j_X6_topmostAt_76, j_X6_topmostAt_78, j_X6_topmostAt_81, j_X6_topmostAt_83, j_X6_topmostAt_86, j_X6_topmostAt_89, j_X6_topmostAt_91, en_c2I, en_c2R, en_c2U, en_c2D, Option.some.injEq, exists_eq_left', exists_eq_left, Option.map_some, Option.map_none, not_true_eq_false, false_implies, true_implies, and_true, true_and, reduceCtorEq, not_false_eq_true, n5]
          refine ih (i + 1) _ best' σ2 hC1 (by omega) (fun p hp => tr_nso_lt hw.1 hm hp) ?_ ?_
          · rw [hb']; exact ht_st_lt hm hbest
          · intro σ3 h3 g3 s3
            refine hk σ3 h3 (g1.tr g3) (s1.tr s3) |> fun z => ?_
            rw [hb']; exact z
        | some w =>
          simp only [Option.toList, List.cons_append, List.nil_append, j_X6_topmostAt_0, j_X6_topmostAt_1, j_X6_topmostAt_3, j_X6_topmostAt_4, j_X6_topmostAt_6, j_X6_topmostAt_7, j_X6_topmostAt_8, j_X6_topmostAt_11, j_X6_topmostAt_13, j_X6_topmostAt_14, j_X6_topmostAt_18, j_X6_topmostAt_21, j_X6_topmostAt_23, j_X6_topmostAt_25, j_X6_topmostAt_28, j_X6_topmostAt_30, j_X6_topmostAt_33, j_X6_topmostAt_35, j_X6_topmostAt_37, j_X6_topmostAt_40, j_X6_topmostAt_42, j_X6_topmostAt_43, j_X6_topmostAt_44, j_X6_topmostAt_47, j_X6_topmostAt_50, j_X6_topmostAt_52, j_X6_topmostAt_55, j_X6_topmostAt_57, j_X6_topmostAt_60, j_X6_topmostAt_62, j_X6_topmostAt_65, j_X6_topmostAt_67, j_X6_topmostAt_69, j_X6_topmostAt_71, j_X6_topmostAt_74, j_X6_topmostAt_76, j_X6_topmostAt_78, j_X6_topmostAt_81, j_X6_topmostAt_83, j_X6_topmostAt_86, j_X6_topmostAt_89, j_X6_topmostAt_91, en_c2I, en_c2R, en_c2U, en_c2D, Option.some.injEq, exists_eq_left', exists_eq_left, Option.map_some, Option.map_none, not_true_eq_false, false_implies, true_implies, and_true, true_and, reduceCtorEq, not_false_eq_true, n5]
          refine ih (i + 1) _ best' σ2 hC1 (by omega) (fun p hp => tr_nso_lt hw.1 hm hp) ?_ ?_
          · rw [hb']; exact ht_st_lt hm hbest
          · intro σ3 h3 g3 s3
            refine hk σ3 h3 (g1.tr g3) (s1.tr s3) |> fun z => ?_
            rw [hb']; exact z
      cases hb : sa_B A m with
      | none =>
        have := tail best (en_R none) (by unfold ht_st; rw [hb])
        simp only [Option.toList, List.cons_append, List.nil_append, j_X6_topmostAt_0, j_X6_topmostAt_1, j_X6_topmostAt_3, j_X6_topmostAt_4, j_X6_topmostAt_6, j_X6_topmostAt_7, j_X6_topmostAt_8, j_X6_topmostAt_11, j_X6_topmostAt_13, j_X6_topmostAt_14, j_X6_topmostAt_18, j_X6_topmostAt_21, j_X6_topmostAt_23, j_X6_topmostAt_25, j_X6_topmostAt_28, j_X6_topmostAt_30, j_X6_topmostAt_33, j_X6_topmostAt_35, j_X6_topmostAt_37, j_X6_topmostAt_40, j_X6_topmostAt_42, j_X6_topmostAt_43, j_X6_topmostAt_44, j_X6_topmostAt_47, j_X6_topmostAt_50, j_X6_topmostAt_52, j_X6_topmostAt_55, j_X6_topmostAt_57, j_X6_topmostAt_60, j_X6_topmostAt_62, j_X6_topmostAt_65, j_X6_topmostAt_67, j_X6_topmostAt_69, j_X6_topmostAt_71, j_X6_topmostAt_74, j_X6_topmostAt_78, j_X6_topmostAt_81, j_X6_topmostAt_83, j_X6_topmostAt_86, j_X6_topmostAt_89, j_X6_topmostAt_91, en_c2I, en_c2R, en_c2U, en_c2D, Option.some.injEq, exists_eq_left', exists_eq_left, Option.map_some, Option.map_none, not_true_eq_false, false_implies, true_implies, and_true, true_and, reduceCtorEq, not_false_eq_true]
        exact this
      | some b =>
        obtain ⟨c1, c2, c3, c4, c5, c6, c7⟩ := hC1.2.2.2.1.1 m b hm hb
        obtain ⟨v1, v2, v3⟩ := hval (by rw [hb]; simp)
        obtain ⟨z1, z2, z3, z4⟩ := ht_n64 (A := A) (n := m) (hw.2.2.2.2.2.2 m b hm hb).2 (ms_at_ok hw hm)
        simp only [Option.toList, List.cons_append, List.nil_append, j_X6_topmostAt_0, j_X6_topmostAt_1, j_X6_topmostAt_3, j_X6_topmostAt_4, j_X6_topmostAt_6, j_X6_topmostAt_7, j_X6_topmostAt_8, j_X6_topmostAt_11, j_X6_topmostAt_13, j_X6_topmostAt_14, j_X6_topmostAt_18, j_X6_topmostAt_21, j_X6_topmostAt_23, j_X6_topmostAt_25, j_X6_topmostAt_28, j_X6_topmostAt_30, j_X6_topmostAt_33, j_X6_topmostAt_35, j_X6_topmostAt_37, j_X6_topmostAt_40, j_X6_topmostAt_42, j_X6_topmostAt_43, j_X6_topmostAt_44, j_X6_topmostAt_47, j_X6_topmostAt_50, j_X6_topmostAt_52, j_X6_topmostAt_55, j_X6_topmostAt_57, j_X6_topmostAt_60, j_X6_topmostAt_62, j_X6_topmostAt_65, j_X6_topmostAt_67, j_X6_topmostAt_69, j_X6_topmostAt_71, j_X6_topmostAt_74, j_X6_topmostAt_78, j_X6_topmostAt_81, j_X6_topmostAt_83, j_X6_topmostAt_86, j_X6_topmostAt_89, j_X6_topmostAt_91, en_c2I, en_c2R, en_c2U, en_c2D, Option.some.injEq, exists_eq_left', exists_eq_left, Option.map_some, Option.map_none, not_true_eq_false, false_implies, true_implies, and_true, true_and, reduceCtorEq, not_false_eq_true]
        refine en_use (cu_X0_holds ⟨c1, by rw [c4, v3]; exact z1, by rw [c4, v3, v1]; exact z2, by rw [c5, v3]; exact z3, by rw [c5, v3, v2]; exact z4⟩) ?_
        rintro v σ2 ⟨rfl, rfl⟩
        rw [c4, c5, v1, v2, v3]
        have hst : ht_st A px py best m = if ht_in b (ms_at A m) px py = true ∧ (best = none ∨ ht_lay A best ≤ b.2.2.2.2.2) then some m else best := by unfold ht_st; rw [hb]
        have hlay : ht_lay A (some m) = b.2.2.2.2.2 := by simp [ht_lay, hb]
        by_cases hin : ht_in b (ms_at A m) px py = true
        · have hin2 := hin
          unfold ht_in at hin2
          rw [decide_eq_true_eq] at hin2
          rw [if_pos hin2]
          cases best with
          | none =>
            have := tail (some m) (en_R (some (ba m))) (by rw [hst, if_pos ⟨hin, Or.inl rfl⟩])
            rw [hlay] at this
            simp only [Option.toList, List.cons_append, List.nil_append, j_X6_topmostAt_0, j_X6_topmostAt_1, j_X6_topmostAt_3, j_X6_topmostAt_4, j_X6_topmostAt_6, j_X6_topmostAt_7, j_X6_topmostAt_8, j_X6_topmostAt_11, j_X6_topmostAt_13, j_X6_topmostAt_14, j_X6_topmostAt_18, j_X6_topmostAt_21, j_X6_topmostAt_23, j_X6_topmostAt_25, j_X6_topmostAt_28, j_X6_topmostAt_30, j_X6_topmostAt_33, j_X6_topmostAt_35, j_X6_topmostAt_37, j_X6_topmostAt_40, j_X6_topmostAt_42, j_X6_topmostAt_43, j_X6_topmostAt_44, j_X6_topmostAt_47, j_X6_topmostAt_50, j_X6_topmostAt_52, j_X6_topmostAt_55, j_X6_topmostAt_57, j_X6_topmostAt_60, j_X6_topmostAt_62, j_X6_topmostAt_65, j_X6_topmostAt_67, j_X6_topmostAt_69, j_X6_topmostAt_71, j_X6_topmostAt_74, j_X6_topmostAt_78, j_X6_topmostAt_81, j_X6_topmostAt_83, j_X6_topmostAt_86, j_X6_topmostAt_89, j_X6_topmostAt_91, en_c2I, en_c2R, en_c2U, en_c2D, Option.some.injEq, exists_eq_left', exists_eq_left, Option.map_some, Option.map_none, not_true_eq_false, false_implies, true_implies, and_true, true_and, reduceCtorEq, not_false_eq_true, i1, c1, c7]
            exact this
          | some p =>
            by_cases hle : ht_lay A (some p) ≤ b.2.2.2.2.2
            · have hlt : ¬ b.2.2.2.2.2 < ht_lay A (some p) := Int32.not_lt.mpr hle
              have := tail (some m) (en_R (some (ba m))) (by rw [hst, if_pos ⟨hin, Or.inr hle⟩])
              rw [hlay] at this
              simp only [Option.toList, List.cons_append, List.nil_append, j_X6_topmostAt_0, j_X6_topmostAt_1, j_X6_topmostAt_3, j_X6_topmostAt_4, j_X6_topmostAt_6, j_X6_topmostAt_7, j_X6_topmostAt_8, j_X6_topmostAt_11, j_X6_topmostAt_13, j_X6_topmostAt_14, j_X6_topmostAt_18, j_X6_topmostAt_21, j_X6_topmostAt_23, j_X6_topmostAt_25, j_X6_topmostAt_28, j_X6_topmostAt_30, j_X6_topmostAt_33, j_X6_topmostAt_35, j_X6_topmostAt_37, j_X6_topmostAt_40, j_X6_topmostAt_42, j_X6_topmostAt_43, j_X6_topmostAt_44, j_X6_topmostAt_47, j_X6_topmostAt_50, j_X6_topmostAt_52, j_X6_topmostAt_55, j_X6_topmostAt_57, j_X6_topmostAt_60, j_X6_topmostAt_62, j_X6_topmostAt_65, j_X6_topmostAt_67, j_X6_topmostAt_69, j_X6_topmostAt_71, j_X6_topmostAt_74, j_X6_topmostAt_78, j_X6_topmostAt_81, j_X6_topmostAt_83, j_X6_topmostAt_86, j_X6_topmostAt_89, j_X6_topmostAt_91, en_c2I, en_c2R, en_c2U, en_c2D, Option.some.injEq, exists_eq_left', exists_eq_left, Option.map_some, Option.map_none, not_true_eq_false, false_implies, true_implies, and_true, true_and, reduceCtorEq, not_false_eq_true, i1, c1, c7, hlt]
              exact this
            · have hlt : b.2.2.2.2.2 < ht_lay A (some p) := Int32.not_le.mp hle
              have := tail (some p) (en_R (some (ba m))) (by rw [hst, if_neg (fun z => by rcases z.2 with q | q; cases q; exact hle q)])
              simp only [Option.toList, List.cons_append, List.nil_append, j_X6_topmostAt_0, j_X6_topmostAt_1, j_X6_topmostAt_3, j_X6_topmostAt_4, j_X6_topmostAt_6, j_X6_topmostAt_7, j_X6_topmostAt_8, j_X6_topmostAt_11, j_X6_topmostAt_13, j_X6_topmostAt_14, j_X6_topmostAt_18, j_X6_topmostAt_21, j_X6_topmostAt_23, j_X6_topmostAt_25, j_X6_topmostAt_28, j_X6_topmostAt_30, j_X6_topmostAt_33, j_X6_topmostAt_35, j_X6_topmostAt_37, j_X6_topmostAt_40, j_X6_topmostAt_42, j_X6_topmostAt_43, j_X6_topmostAt_44, j_X6_topmostAt_47, j_X6_topmostAt_50, j_X6_topmostAt_52, j_X6_topmostAt_55, j_X6_topmostAt_57, j_X6_topmostAt_60, j_X6_topmostAt_62, j_X6_topmostAt_65, j_X6_topmostAt_67, j_X6_topmostAt_69, j_X6_topmostAt_71, j_X6_topmostAt_74, j_X6_topmostAt_78, j_X6_topmostAt_81, j_X6_topmostAt_83, j_X6_topmostAt_86, j_X6_topmostAt_89, j_X6_topmostAt_91, en_c2I, en_c2R, en_c2U, en_c2D, Option.some.injEq, exists_eq_left', exists_eq_left, Option.map_some, Option.map_none, not_true_eq_false, false_implies, true_implies, and_true, true_and, reduceCtorEq, not_false_eq_true, i1, c1, c7, hlt]
              exact this
        · have hin2 := hin
          unfold ht_in at hin2
          rw [decide_eq_true_eq] at hin2
          rw [if_neg hin2]
          have := tail best (en_R (some (ba m))) (by rw [hst, if_neg (fun z => hin z.1)])
          simp only [Option.toList, List.cons_append, List.nil_append, j_X6_topmostAt_0, j_X6_topmostAt_1, j_X6_topmostAt_3, j_X6_topmostAt_4, j_X6_topmostAt_6, j_X6_topmostAt_7, j_X6_topmostAt_8, j_X6_topmostAt_11, j_X6_topmostAt_13, j_X6_topmostAt_14, j_X6_topmostAt_18, j_X6_topmostAt_21, j_X6_topmostAt_23, j_X6_topmostAt_25, j_X6_topmostAt_28, j_X6_topmostAt_30, j_X6_topmostAt_33, j_X6_topmostAt_35, j_X6_topmostAt_37, j_X6_topmostAt_40, j_X6_topmostAt_42, j_X6_topmostAt_43, j_X6_topmostAt_44, j_X6_topmostAt_47, j_X6_topmostAt_50, j_X6_topmostAt_52, j_X6_topmostAt_55, j_X6_topmostAt_57, j_X6_topmostAt_60, j_X6_topmostAt_62, j_X6_topmostAt_65, j_X6_topmostAt_67, j_X6_topmostAt_69, j_X6_topmostAt_71, j_X6_topmostAt_74, j_X6_topmostAt_78, j_X6_topmostAt_81, j_X6_topmostAt_83, j_X6_topmostAt_86, j_X6_topmostAt_89, j_X6_topmostAt_91, en_c2I, en_c2R, en_c2U, en_c2D, Option.some.injEq, exists_eq_left', exists_eq_left, Option.map_some, Option.map_none, not_true_eq_false, false_implies, true_implies, and_true, true_and, reduceCtorEq, not_false_eq_true, i1]
          exact this
theorem jl_X6_topmostAt {G : en_G}  {x : Nat} {na : Nat → Nat} {la : Nat → Nat} {ba : Nat → Nat} {rm : Nat} {A : st_A} {px : UInt64} {py : UInt64} {q : Option en_V → en_S → Prop} {σ : en_S} (hp : CX G x na la ba rm A σ) (hq : ∀ v σ', (CX G x na la ba rm A σ' ∧ ag σ σ' bF (fun _ => True) ∧ sz σ σ' ∧ v = some (en_R ((ht_top A px py).map na))) → q v σ') : en_J (X_X6_topmostAt G q) 0 [en_R (some x), en_D px, en_U, en_D py, en_U, en_U, en_U, en_U, en_U, en_U] [] σ := by
  have hC := hp
  have hw := hC.2.2.2.2.2.2.2.2.1
  have h1 := hw.1.1.1
  have h24 := hw.1.1.2
  have n0 : (0 : Int32) = nI 0 := by decide +kernel
  simp only [j_X6_topmostAt_0, j_X6_topmostAt_1, j_X6_topmostAt_3, j_X6_topmostAt_4, j_X6_topmostAt_6, j_X6_topmostAt_7, j_X6_topmostAt_8, j_X6_topmostAt_11, j_X6_topmostAt_13, j_X6_topmostAt_14, j_X6_topmostAt_18, j_X6_topmostAt_21, j_X6_topmostAt_23, j_X6_topmostAt_25, j_X6_topmostAt_28, j_X6_topmostAt_30, j_X6_topmostAt_33, j_X6_topmostAt_35, j_X6_topmostAt_37, j_X6_topmostAt_40, j_X6_topmostAt_42, j_X6_topmostAt_43, j_X6_topmostAt_44, j_X6_topmostAt_47, j_X6_topmostAt_50, j_X6_topmostAt_52, j_X6_topmostAt_55, j_X6_topmostAt_57, j_X6_topmostAt_60, j_X6_topmostAt_62, j_X6_topmostAt_65, j_X6_topmostAt_67, j_X6_topmostAt_69, j_X6_topmostAt_71, j_X6_topmostAt_74, j_X6_topmostAt_76, j_X6_topmostAt_78, j_X6_topmostAt_81, j_X6_topmostAt_83, j_X6_topmostAt_86, j_X6_topmostAt_89, j_X6_topmostAt_91, en_c2I, en_c2R, en_c2U, en_c2D, Option.some.injEq, exists_eq_left', exists_eq_left, Option.map_some, Option.map_none, not_true_eq_false, false_implies, true_implies, and_true, true_and, reduceCtorEq, not_false_eq_true]
  refine en_use (cu_X6_nodeAt hC) ?_
  rintro v σ' ⟨rfl, rfl⟩
  have hix : st_ix (tr_N (sa_T A)) 0 = some 0 := by rw [n0]; exact st_ix_nI (by omega) (by omega)
  rw [hix]
  simp only [Option.toList, List.cons_append, List.nil_append, j_X6_topmostAt_0, j_X6_topmostAt_1, j_X6_topmostAt_3, j_X6_topmostAt_4, j_X6_topmostAt_6, j_X6_topmostAt_7, j_X6_topmostAt_8, j_X6_topmostAt_11, j_X6_topmostAt_13, j_X6_topmostAt_14, j_X6_topmostAt_18, j_X6_topmostAt_21, j_X6_topmostAt_23, j_X6_topmostAt_25, j_X6_topmostAt_28, j_X6_topmostAt_30, j_X6_topmostAt_33, j_X6_topmostAt_35, j_X6_topmostAt_37, j_X6_topmostAt_40, j_X6_topmostAt_42, j_X6_topmostAt_43, j_X6_topmostAt_44, j_X6_topmostAt_47, j_X6_topmostAt_50, j_X6_topmostAt_52, j_X6_topmostAt_55, j_X6_topmostAt_57, j_X6_topmostAt_60, j_X6_topmostAt_62, j_X6_topmostAt_65, j_X6_topmostAt_67, j_X6_topmostAt_69, j_X6_topmostAt_71, j_X6_topmostAt_74, j_X6_topmostAt_76, j_X6_topmostAt_78, j_X6_topmostAt_81, j_X6_topmostAt_83, j_X6_topmostAt_86, j_X6_topmostAt_89, j_X6_topmostAt_91, en_c2I, en_c2R, en_c2U, en_c2D, Option.some.injEq, exists_eq_left', exists_eq_left, Option.map_some, Option.map_none, not_true_eq_false, false_implies, true_implies, and_true, true_and, reduceCtorEq, not_false_eq_true]
  have := jw_X6_topmostAt (q := q) (px := px) (py := py) (l9 := en_U) 24 0 (some 0) none σ' hC (by decide) (fun m h => by cases h; omega) (fun m h => by cases h) (fun σ1 h1 h2 h3 => hq _ σ1 ⟨h1, h2, h3, rfl⟩)
  rw [← n0] at this
  exact this
theorem jp_X6_topmostAt {G : en_G}  : ∀ as σ, (C_X6_topmostAt G).1 as σ → (en_lc as).length ≤ 10 ∧ en_J (X_X6_topmostAt G (fun r σ' => (C_X6_topmostAt G).2 as σ r σ')) 0 (en_loc 10 as) [] σ := en_ghJ (fun g as σ h => by
  obtain ⟨hp, h2⟩ := h
  subst h2
  exact ⟨Nat.le_of_ble_eq_true rfl, jl_X6_topmostAt hp (fun _ _ h => h)⟩)
theorem wl_X6_topmostAt_57 : Jvm.Cond.methodLink RX6 57 yX6_nodeAt ∈ en_W := en_inW (List.mem_of_getElem? (i := 248) (by decide +kernel)) (by decide +kernel)
theorem wl_X6_topmostAt_168 : Jvm.Cond.methodLink RX6 168 yX4_measuredBox ∈ en_W := en_inW (List.mem_of_getElem? (i := 350) (by decide +kernel)) (by decide +kernel)
theorem wl_X6_topmostAt_335 : Jvm.Cond.methodLink RX6 335 yX0_holds ∈ en_W := en_inW (List.mem_of_getElem? (i := 358) (by decide +kernel)) (by decide +kernel)
theorem wl_X6_topmostAt_339 : Jvm.Cond.methodLink RX6 339 yX4_nextInShadowOrder ∈ en_W := en_inW (List.mem_of_getElem? (i := 362) (by decide +kernel)) (by decide +kernel)
theorem ok_X6_topmostAt {G : en_G}  : en_Ok G 3 yX6_topmostAt cX6_topmostAt 10 (some (.object "NodeStage$Node")) (C_X6_topmostAt G) :=
  en_met (own := RX6) (fl := en_lk fl6) (nw := en_lk nw6) (aw := en_lk aw6) (dc := en_lk dc6) (ca := en_lk (ca_X6_topmostAt G)) (rt := 3) (ini := false) (by decide +kernel) (Or.inr (Or.inr (Or.inr (Or.inl ⟨rfl, _, rfl⟩)))) (fun h => by cases h) rfl (fun q => en_LkF fl6_ok nw6_ok aw6_ok dc6_ok) (by
    intro idx q hq
    have hm := en_lk_mem hq
    simp only [ca_X6_topmostAt, List.mem_cons, Prod.mk.injEq, List.not_mem_nil, or_false] at hm
    rcases hm with ⟨rfl, rfl⟩ | ⟨rfl, rfl⟩ | ⟨rfl, rfl⟩ | ⟨rfl, rfl⟩
    · exact en_clV (r := (RX6, TX6, 13)) 6 1 ok_X6_nodeAt (by decide) (by decide) rfl rfl pr_X6_nodeAt wl_X6_topmostAt_57 wi_X6_nodeAt wx_X6_nodeAt wz_6 wc_X6_nodeAt ⟨by decide +kernel, by decide +kernel, by decide +kernel⟩
    · exact en_clV (r := (RX4, TX4, 12)) 4 0 ok_X4_measuredBox (by decide) (by decide) rfl rfl pr_X4_measuredBox wl_X6_topmostAt_168 wi_X4_measuredBox wx_X4_measuredBox wz_4 wc_X4_measuredBox ⟨by decide +kernel, by decide +kernel, by decide +kernel⟩
    · exact en_clV (r := (RX0, TX0, 10)) 0 2 ok_X0_holds (by decide) (by decide) rfl rfl pr_X0_holds wl_X6_topmostAt_335 wi_X0_holds wx_X0_holds wz_0 wc_X0_holds ⟨by decide +kernel, by decide +kernel, by decide +kernel⟩
    · exact en_clV (r := (RX4, TX4, 12)) 4 0 ok_X4_nextInShadowOrder (by decide) (by decide) rfl rfl pr_X4_nextInShadowOrder wl_X6_topmostAt_339 wi_X4_nextInShadowOrder wx_X4_nextInShadowOrder wz_4 wc_X4_nextInShadowOrder ⟨by decide +kernel, by decide +kernel, by decide +kernel⟩) jp_X6_topmostAt
def st_num (o : Option Nat) : Int32 := (o.map nI).getD (-1)
theorem cu_num {na : Nat → Nat} {T : tr_T} {σ : en_S} (h : tr_R na T σ) {o : Option Nat} (ho : ∀ n, o = some n → n < tr_N T) : en_Us C_X6_numberOf [en_R (o.map na)] σ (fun v σ' => σ' = σ ∧ v = some (en_I (st_num o))) := by
  have hu := cu_X6_numberOf (n := o.map na) (σ := σ) (fun a ha => by
    cases o with
    | none => cases ha
    | some n => cases ha; exact (h.1 n (ho n rfl)).1)
  refine ⟨hu.1, fun v σ' q => ?_⟩
  obtain ⟨q1, q2⟩ := hu.2 v σ' q
  refine ⟨q1, ?_⟩
  rw [q2]
  cases o with
  | none => rfl
  | some n =>
    show some (en_I (en_fi σ 400 (na n))) = some (en_I (nI n))
    rw [(h.1 n (ho n rfl)).2.1]
def P_X6_hit (G : en_G)  (g : (Nat) × (Nat → Nat) × (Nat → Nat) × (Nat → Nat) × (Nat) × (st_A) × (UInt64) × (UInt64)) (as : List en_V) (σ : en_S) : Prop := (CX G (g.1) (g.2.1) (g.2.2.1) (g.2.2.2.1) (g.2.2.2.2.1) (g.2.2.2.2.2.1) σ) ∧ as = [en_R (some (g.1)), en_D (g.2.2.2.2.2.2.1), en_D (g.2.2.2.2.2.2.2)]
def C_X6_hit (G : en_G)  : en_C := en_gh (P_X6_hit G) (fun g as σ v σ' => CX G (g.1) (g.2.1) (g.2.2.1) (g.2.2.2.1) (g.2.2.2.2.1) (g.2.2.2.2.2.1) σ' ∧ ag σ σ' bF (fun _ => True) ∧ sz σ σ' ∧ v = some (en_I (st_num (ht_top (g.2.2.2.2.2.1) (g.2.2.2.2.2.2.1) (g.2.2.2.2.2.2.2)))))
theorem pr_X6_hit {G : en_G}  : ∀ as σ, (C_X6_hit G).1 as σ → ∃ b tl, as = en_R (some b) :: tl ∧ en_cl σ b = some 6 ∧ tl.length = 2 := fun as σ ⟨g, hp, h2⟩ => ⟨_, _, h2, hp.1.1.1, rfl⟩
theorem cu_X6_hit {G : en_G}  {x : Nat} {na : Nat → Nat} {la : Nat → Nat} {ba : Nat → Nat} {rm : Nat} {A : st_A} {px : UInt64} {py : UInt64} {σ : en_S} (hp : CX G x na la ba rm A σ) : en_Us (C_X6_hit G) [en_R (some x), en_D px, en_D py] σ (fun v σ' => CX G x na la ba rm A σ' ∧ ag σ σ' bF (fun _ => True) ∧ sz σ σ' ∧ v = some (en_I (st_num (ht_top A px py)))) := ⟨⟨(x, na, la, ba, rm, A, px, py), hp, rfl⟩, fun v σ' q => q (x, na, la, ba, rm, A, px, py) ⟨hp, rfl⟩⟩
def ca_X6_hit (G : en_G) : List (Nat × Nat × en_C) := [(185, 13, (C_X6_topmostAt G)), (53, 4, C_X6_numberOf)]
def X_X6_hit (G : en_G) (q : Option en_V → en_S → Prop) : en_X := en_mk G cX6_hit (en_lk fl6) (en_lk nw6) (en_lk aw6) (en_lk dc6) (en_lk (ca_X6_hit G)) 1 false q
theorem d_X6_hit_0 : decode cX6_hit 0 = .ok (.aload_n 0, 1) := by decide +kernel
theorem j_X6_hit_0 {G : en_G} {q : Option en_V → en_S → Prop}  {l1 l2 l3 l4 : en_V} {x0 : Option Nat} {σ : en_S} : en_J (X_X6_hit G q) 0 [en_R x0, l1, l2, l3, l4] [] σ ↔ en_J (X_X6_hit G q) 1 [en_R x0, l1, l2, l3, l4] [en_R x0] σ := en_j1 d_X6_hit_0 rfl rfl
theorem d_X6_hit_1 : decode cX6_hit 1 = .ok (.dload_n 1, 1) := by decide +kernel
theorem j_X6_hit_1 {G : en_G} {q : Option en_V → en_S → Prop}  {l0 l2 l3 l4 : en_V} {a0 : Option Nat} {x1 : UInt64} {σ : en_S} : en_J (X_X6_hit G q) 1 [l0, en_D x1, l2, l3, l4] [en_R a0] σ ↔ en_J (X_X6_hit G q) 2 [l0, en_D x1, l2, l3, l4] [en_D x1, en_R a0] σ := en_j1 d_X6_hit_1 rfl rfl
theorem d_X6_hit_2 : decode cX6_hit 2 = .ok (.dload_n 3, 1) := by decide +kernel
theorem j_X6_hit_2 {G : en_G} {q : Option en_V → en_S → Prop}  {l0 l1 l2 l4 : en_V} {a0 : UInt64} {a1 : Option Nat} {x3 : UInt64} {σ : en_S} : en_J (X_X6_hit G q) 2 [l0, l1, l2, en_D x3, l4] [en_D a0, en_R a1] σ ↔ en_J (X_X6_hit G q) 3 [l0, l1, l2, en_D x3, l4] [en_D x3, en_D a0, en_R a1] σ := en_j1 d_X6_hit_2 rfl rfl
theorem d_X6_hit_3 : decode cX6_hit 3 = .ok (.invokevirtual 185, 3) := by decide +kernel
theorem j_X6_hit_3 {G : en_G} {q : Option en_V → en_S → Prop}  {l0 l1 l2 l3 l4 : en_V} {a0 : UInt64} {a1 : UInt64} {a2 : Option Nat} {σ : en_S} : en_J (X_X6_hit G q) 3 [l0, l1, l2, l3, l4] [en_D a0, en_D a1, en_R a2] σ ↔ (C_X6_topmostAt G).1 [en_R a2, en_D a1, en_D a0] σ ∧ ∀ (r : Option en_V) (σ' : en_S), (C_X6_topmostAt G).2 [en_R a2, en_D a1, en_D a0] σ r σ' → en_J (X_X6_hit G q) 6 [l0, l1, l2, l3, l4] (r.toList ++ []) σ' := en_jkC (C := (C_X6_topmostAt G)) (n' := 3) (k := 1) (idx := 185) d_X6_hit_3 rfl rfl (by decide) (Nat.le_of_ble_eq_true rfl) (Nat.le_of_ble_eq_true rfl)
theorem d_X6_hit_6 : decode cX6_hit 6 = .ok (.invokestatic 53, 3) := by decide +kernel
theorem j_X6_hit_6 {G : en_G} {q : Option en_V → en_S → Prop}  {l0 l1 l2 l3 l4 : en_V} {a0 : Option Nat} {σ : en_S} : en_J (X_X6_hit G q) 6 [l0, l1, l2, l3, l4] [en_R a0] σ ↔ C_X6_numberOf.1 [en_R a0] σ ∧ ∀ (r : Option en_V) (σ' : en_S), C_X6_numberOf.2 [en_R a0] σ r σ' → en_J (X_X6_hit G q) 9 [l0, l1, l2, l3, l4] (r.toList ++ []) σ' := en_jk d_X6_hit_6 rfl ⟨fun h => h.2.2.2.2, fun h => ⟨rfl, rfl, Nat.le_of_ble_eq_true rfl, Nat.le_of_ble_eq_true rfl, h⟩⟩
theorem d_X6_hit_9 : decode cX6_hit 9 = .ok (.ireturn, 1) := by decide +kernel
theorem j_X6_hit_9 {G : en_G} {q : Option en_V → en_S → Prop}  {l0 l1 l2 l3 l4 : en_V} {a0 : Int32} {σ : en_S} : en_J (X_X6_hit G q) 9 [l0, l1, l2, l3, l4] [en_I a0] σ ↔ q (some (en_I a0)) σ := en_jr d_X6_hit_9 rfl ⟨fun h => h.2.2, fun h => ⟨rfl, Or.inl rfl, h⟩⟩
theorem wc_X6_hit : Jvm.Cond.code yX6_hit cX6_hit 5 (some .int) ∈ en_W := en_inW (List.mem_of_getElem? (i := 345) (by decide +kernel)) (by decide +kernel)
theorem wi_X6_hit : Jvm.Cond.instanceMethod yX6_hit ∈ en_W := en_inW (List.mem_of_getElem? (i := 343) (by decide +kernel)) (by decide +kernel)
theorem wx_X6_hit : Jvm.Cond.selects RX6 yX6_hit yX6_hit ∈ en_W := en_inW (List.mem_of_getElem? (i := 344) (by decide +kernel)) (by decide +kernel)
theorem jl_X6_hit {G : en_G}  {x : Nat} {na : Nat → Nat} {la : Nat → Nat} {ba : Nat → Nat} {rm : Nat} {A : st_A} {px : UInt64} {py : UInt64} {q : Option en_V → en_S → Prop} {σ : en_S} (hp : CX G x na la ba rm A σ) (hq : ∀ v σ', (CX G x na la ba rm A σ' ∧ ag σ σ' bF (fun _ => True) ∧ sz σ σ' ∧ v = some (en_I (st_num (ht_top A px py)))) → q v σ') : en_J (X_X6_hit G q) 0 [en_R (some x), en_D px, en_U, en_D py, en_U] [] σ := by
  simp only [j_X6_hit_0, j_X6_hit_1, j_X6_hit_2, j_X6_hit_3, j_X6_hit_6, j_X6_hit_9, en_c2I, en_c2R, en_c2U, en_c2D, Option.some.injEq, exists_eq_left', exists_eq_left, Option.map_some, Option.map_none, not_true_eq_false, false_implies, true_implies, and_true, true_and, reduceCtorEq, not_false_eq_true]
  refine en_use (cu_X6_topmostAt hp) ?_
  rintro v σ1 ⟨hC1, g1, s1, rfl⟩
  simp only [Option.toList, List.cons_append, List.nil_append, j_X6_hit_0, j_X6_hit_1, j_X6_hit_2, j_X6_hit_3, j_X6_hit_6, j_X6_hit_9, en_c2I, en_c2R, en_c2U, en_c2D, Option.some.injEq, exists_eq_left', exists_eq_left, Option.map_some, Option.map_none, not_true_eq_false, false_implies, true_implies, and_true, true_and, reduceCtorEq, not_false_eq_true]
  refine en_use (cu_num hC1.2.1 (fun n hn => ht_top_lt hC1.2.2.2.2.2.2.2.2.1.1 hn)) ?_
  rintro v σ2 ⟨rfl, rfl⟩
  simp only [Option.toList, List.cons_append, List.nil_append, j_X6_hit_0, j_X6_hit_1, j_X6_hit_2, j_X6_hit_3, j_X6_hit_6, j_X6_hit_9, en_c2I, en_c2R, en_c2U, en_c2D, Option.some.injEq, exists_eq_left', exists_eq_left, Option.map_some, Option.map_none, not_true_eq_false, false_implies, true_implies, and_true, true_and, reduceCtorEq, not_false_eq_true]
  exact hq _ _ ⟨hC1, g1, s1, rfl⟩
theorem jp_X6_hit {G : en_G}  : ∀ as σ, (C_X6_hit G).1 as σ → (en_lc as).length ≤ 5 ∧ en_J (X_X6_hit G (fun r σ' => (C_X6_hit G).2 as σ r σ')) 0 (en_loc 5 as) [] σ := en_ghJ (fun g as σ h => by
  obtain ⟨hp, h2⟩ := h
  subst h2
  exact ⟨Nat.le_of_ble_eq_true rfl, jl_X6_hit hp (fun _ _ h => h)⟩)
theorem wl_X6_hit_185 : Jvm.Cond.methodLink RX6 185 yX6_topmostAt ∈ en_W := en_inW (List.mem_of_getElem? (i := 346) (by decide +kernel)) (by decide +kernel)
theorem wl_X6_hit_53 : Jvm.Cond.methodLink RX6 53 yX6_numberOf ∈ en_W := en_inW (List.mem_of_getElem? (i := 241) (by decide +kernel)) (by decide +kernel)
theorem ok_X6_hit {G : en_G}  : en_Ok G 4 yX6_hit cX6_hit 5 (some .int) (C_X6_hit G) :=
  en_met (own := RX6) (fl := en_lk fl6) (nw := en_lk nw6) (aw := en_lk aw6) (dc := en_lk dc6) (ca := en_lk (ca_X6_hit G)) (rt := 1) (ini := false) (by decide +kernel) (Or.inr (Or.inl ⟨rfl, rfl⟩)) (fun h => by cases h) rfl (fun q => en_LkF fl6_ok nw6_ok aw6_ok dc6_ok) (by
    intro idx q hq
    have hm := en_lk_mem hq
    simp only [ca_X6_hit, List.mem_cons, Prod.mk.injEq, List.not_mem_nil, or_false] at hm
    rcases hm with ⟨rfl, rfl⟩ | ⟨rfl, rfl⟩
    · exact en_clV (r := (RX6, TX6, 13)) 6 2 ok_X6_topmostAt (by decide) (by decide) rfl rfl pr_X6_topmostAt wl_X6_hit_185 wi_X6_topmostAt wx_X6_topmostAt wz_6 wc_X6_topmostAt ⟨by decide +kernel, by decide +kernel, by decide +kernel⟩
    · exact en_clS 1 ok_X6_numberOf (by decide) (by decide) pr_X6_numberOf wl_X6_hit_53 ws_X6_numberOf wz_6 wc_X6_numberOf ⟨by decide +kernel, by decide +kernel, by decide +kernel⟩) jp_X6_hit
