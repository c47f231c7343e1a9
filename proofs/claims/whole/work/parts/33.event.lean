/-! events -/
def evF (a f b : Nat) : Prop := ¬ (202 ≤ f ∧ f ≤ 208 ∧ b = a)
def evV (a b : Nat) : Prop := b ≠ a + 1 ∧ b ≠ a + 2
def lyF (a f b : Nat) : Prop := ¬ (f = 202 ∧ b = a)
theorem ly_ev {a : Nat} {σ σ' : en_S} {V : Nat → Prop} (g : ag σ σ' (lyF a) V) : ag σ σ' (evF a) V := g.mono (fun f b z => by unfold evF at z; unfold lyF; omega) (fun _ z => z)
def sz (σ σ' : en_S) : Prop := en_nx σ' = en_nx σ ∧ en_ns σ' = en_ns σ ∧ en_cl σ' = en_cl σ ∧ en_al σ' = en_al σ
theorem sz.rf {σ : en_S} : sz σ σ := ⟨rfl, rfl, rfl, rfl⟩
theorem sz.tr {σ σ1 σ2 : en_S} (h : sz σ σ1) (k : sz σ1 σ2) : sz σ σ2 := ⟨k.1.trans h.1, k.2.1.trans h.2.1, k.2.2.1.trans h.2.2.1, k.2.2.2.trans h.2.2.2⟩
theorem sz.fr {σ σ' : en_S} (h : sz σ σ') (f : fresh σ) : fresh σ' := fun a ha => by
  rw [h.2.2.1, h.2.2.2]
  exact f a (by rw [← h.1]; exact ha)
theorem cx_ev {G : en_G} {x : Nat} {na la ba : Nat → Nat} {rm : Nat} {A : st_A} {σ σ' : en_S} (h : CX G x na la ba rm A σ) {a : Nat} (ha : x + 32 ≤ a) (g : ag σ σ' (evF a) (evV a)) (s : sz σ σ') : CX G x na la ba rm A σ' := by
  refine h.ag (g.mono (fun f b z => ?_) (fun b z => ?_)) (s.fr h.1.2.2.2.2.2.2) s.1 s.2.1
  · unfold cxF at z; unfold evF; omega
  · unfold cxV at z; unfold evV; omega
def ev_path (na : Nat → Nat) (a : Nat) (p : List (Nat × Nat)) (σ : en_S) : Prop := en_fi σ 202 a = nI p.length ∧ ∀ k e, p[k]? = some e → en_ar σ (a + 1) k = some (na e.1) ∧ en_ar σ (a + 2) k = some (na e.2)
def ev_ok (na : Nat → Nat) (a : Nat) (E : ev_E) (σ : en_S) : Prop := en_fi σ 203 a = E.1 ∧ en_fi σ 204 a = st_b (decide (E.2.1 % 2 = 1)) ∧ en_fi σ 205 a = st_b (decide (E.2.1 / 2 % 2 = 1)) ∧ ev_path na a E.2.2 σ
def ev_fl (a : Nat) (F : ev_F) (σ : en_S) : Prop := en_fi σ 206 a = st_b F.1 ∧ en_fi σ 207 a = st_b F.2.1 ∧ en_fi σ 208 a = st_b F.2.2
/-! paths stay among the nodes -/
theorem tr_rootF_lt {T : tr_T} (hw : tr_wf T) : ∀ (k n : Nat), n < tr_N T → tr_rootF T k n < tr_N T := by
  intro k
  induction k with
  | zero => intro n hn; exact hn
  | succ k ih =>
    intro n hn
    simp only [tr_rootF]
    cases hp : tr_pa T n with
    | none => exact hn
    | some p => exact ih p (tr_pa_lt hw hn hp)
theorem tr_root_lt {T : tr_T} (hw : tr_wf T) {n : Nat} (hn : n < tr_N T) : tr_root T n < tr_N T := tr_rootF_lt hw 24 n hn
theorem tr_asF_lt {T : tr_T} (hw : tr_wf T) {w : Int32} : ∀ (k : Nat) (c : Option Nat) (m : Nat), (∀ n, c = some n → n < tr_N T) → tr_asF T w k c = some m → m < tr_N T := by
  intro k
  induction k with
  | zero => intro c m _ h; cases h
  | succ k ih =>
    intro c m hc h
    cases c with
    | none => cases h
    | some s =>
      simp only [tr_asF] at h
      split at h
      · cases h; exact hc _ rfl
      · exact ih _ m (fun n hn => tr_nto_lt hw (hc s rfl) hn) h
theorem tr_as_lt {T : tr_T} (hw : tr_wf T) {n m : Nat} (hn : n < tr_N T) (h : tr_as T n = some m) : m < tr_N T := by
  unfold tr_as at h
  cases hp : tr_pa T n with
  | none => rw [hp] at h; cases h
  | some p =>
    rw [hp] at h
    exact tr_asF_lt hw 24 _ m (fun s hs => (hw.2.2.2.2.2.1 p s (tr_pa_lt hw hn hp) hs).1) h
theorem ds_nxt_lt {T : tr_T} (hw : tr_wf T) {n m : Nat} (hn : n < tr_N T) (h : ds_nxt T n = some m) : m < tr_N T := by
  unfold ds_nxt at h
  cases hs : tr_as T n with
  | some s => rw [hs] at h; cases h; exact tr_as_lt hw hn hs
  | none => rw [hs] at h; exact tr_up_lt hw hn h
theorem ds_lay_lt {T : tr_T} (hw : tr_wf T) {last : Option Nat} : ∀ (k : Nat) (c : Option Nat) (tg : Nat), (∀ n, c = some n → n < tr_N T) → tg < tr_N T → (∀ e ∈ ds_lay T last k c tg, e.1 < tr_N T ∧ e.2 < tr_N T) ∧ (ds_lay T last k c tg).length ≤ k := by
  intro k
  induction k with
  | zero => intro c tg _ _; exact ⟨fun e he => by simp [ds_lay] at he, by simp [ds_lay]⟩
  | succ k ih =>
    intro c tg hc ht
    cases c with
    | none => exact ⟨fun e he => by simp [ds_lay] at he, by simp [ds_lay]⟩
    | some x =>
      have hx := hc x rfl
      have ht' : (if tr_over T (tr_root T tg) x then tg else x) < tr_N T := by split <;> assumption
      have hn' : ∀ n, (if last = some x then none else ds_nxt T x) = some n → n < tr_N T := by
        intro n h
        split at h
        · cases h
        · exact ds_nxt_lt hw hx h
      have := ih _ _ hn' ht'
      simp only [ds_lay]
      refine ⟨fun e he => ?_, ?_⟩
      · rcases List.mem_cons.mp he with rfl | he
        · exact ⟨hx, ht'⟩
        · exact this.1 e he
      · rw [List.length_cons]; have := this.2; omega
theorem ds_path_lt {T : tr_T} (hw : tr_wf T) {t fl : Nat} (ht : t < tr_N T) : (∀ e ∈ ds_path T t fl, e.1 < tr_N T ∧ e.2 < tr_N T) ∧ (ds_path T t fl).length ≤ 24 ∧ 1 ≤ (ds_path T t fl).length := by
  have := ds_lay_lt hw (last := ds_last T t fl) 24 (some t) t (fun n h => by cases h; exact ht) ht
  refine ⟨this.1, this.2, ?_⟩
  unfold ds_path
  simp only [ds_lay, List.length_cons]
  omega
def P_X2_nextOnPath (G : en_G)  (g : (Nat → Nat) × (tr_T) × (Nat)) (as : List en_V) (σ : en_S) : Prop := (tr_R (g.1) (g.2.1) σ ∧ tr_wf (g.2.1) ∧ (g.2.2) < tr_N (g.2.1)) ∧ as = [en_R (some ((g.1) (g.2.2)))]
def C_X2_nextOnPath (G : en_G)  : en_C := en_gh (P_X2_nextOnPath G) (fun g as σ v σ' => σ' = σ ∧ v = some (en_R ((ds_nxt (g.2.1) (g.2.2)).map (g.1))))
theorem pr_X2_nextOnPath {G : en_G}  : ∀ as σ, (C_X2_nextOnPath G).1 as σ → as.length = 1 := fun as σ ⟨g, h1, h2⟩ => by rw [h2]; rfl
theorem cu_X2_nextOnPath {G : en_G}  {na : Nat → Nat} {T : tr_T} {n : Nat} {σ : en_S} (hp : tr_R na T σ ∧ tr_wf T ∧ n < tr_N T) : en_Us (C_X2_nextOnPath G) [en_R (some (na n))] σ (fun v σ' => σ' = σ ∧ v = some (en_R ((ds_nxt T n).map na))) := ⟨⟨(na, T, n), hp, rfl⟩, fun v σ' q => q (na, T, n) ⟨hp, rfl⟩⟩
def ca_X2_nextOnPath (G : en_G) : List (Nat × Nat × en_C) := [(59, 5, C_X4_assignedSlot), (62, 5, C_X4_parentOrHost)]
def X_X2_nextOnPath (G : en_G) (q : Option en_V → en_S → Prop) : en_X := en_mk G cX2_nextOnPath (en_lk fl2) (en_lk nw2) (en_lk aw2) (en_lk dc2) (en_lk (ca_X2_nextOnPath G)) 3 false q
theorem d_X2_nextOnPath_0 : decode cX2_nextOnPath 0 = .ok (.aload_n 0, 1) := by decide +kernel
theorem j_X2_nextOnPath_0 {G : en_G} {q : Option en_V → en_S → Prop}  {l1 : en_V} {x0 : Option Nat} {σ : en_S} : en_J (X_X2_nextOnPath G q) 0 [en_R x0, l1] [] σ ↔ en_J (X_X2_nextOnPath G q) 1 [en_R x0, l1] [en_R x0] σ := en_j1 d_X2_nextOnPath_0 rfl rfl
theorem d_X2_nextOnPath_1 : decode cX2_nextOnPath 1 = .ok (.invokevirtual 59, 3) := by decide +kernel
theorem j_X2_nextOnPath_1 {G : en_G} {q : Option en_V → en_S → Prop}  {l0 l1 : en_V} {a0 : Option Nat} {σ : en_S} : en_J (X_X2_nextOnPath G q) 1 [l0, l1] [en_R a0] σ ↔ C_X4_assignedSlot.1 [en_R a0] σ ∧ ∀ (r : Option en_V) (σ' : en_S), C_X4_assignedSlot.2 [en_R a0] σ r σ' → en_J (X_X2_nextOnPath G q) 4 [l0, l1] (r.toList ++ []) σ' := en_jk d_X2_nextOnPath_1 rfl ⟨fun h => h.2.2.2.2, fun h => ⟨rfl, rfl, Nat.le_of_ble_eq_true rfl, Nat.le_of_ble_eq_true rfl, h⟩⟩
theorem d_X2_nextOnPath_4 : decode cX2_nextOnPath 4 = .ok (.astore_n 1, 1) := by decide +kernel
theorem j_X2_nextOnPath_4 {G : en_G} {q : Option en_V → en_S → Prop}  {l0 l1 : en_V} {a0 : Option Nat} {σ : en_S} : en_J (X_X2_nextOnPath G q) 4 [l0, l1] [en_R a0] σ ↔ en_J (X_X2_nextOnPath G q) 5 [en_c2 l0, en_R a0] [] σ := en_j1 d_X2_nextOnPath_4 rfl ⟨rfl, Nat.le_of_ble_eq_true rfl⟩
theorem d_X2_nextOnPath_5 : decode cX2_nextOnPath 5 = .ok (.aload_n 1, 1) := by decide +kernel
theorem j_X2_nextOnPath_5 {G : en_G} {q : Option en_V → en_S → Prop}  {l0 : en_V} {x1 : Option Nat} {σ : en_S} : en_J (X_X2_nextOnPath G q) 5 [l0, en_R x1] [] σ ↔ en_J (X_X2_nextOnPath G q) 6 [l0, en_R x1] [en_R x1] σ := en_j1 d_X2_nextOnPath_5 rfl rfl
theorem d_X2_nextOnPath_6 : decode cX2_nextOnPath 6 = .ok (.ifnull 7, 3) := by decide +kernel
theorem j_X2_nextOnPath_6 {G : en_G} {q : Option en_V → en_S → Prop}  {l0 l1 : en_V} {a0 : Option Nat} {σ : en_S} : en_J (X_X2_nextOnPath G q) 6 [l0, l1] [en_R a0] σ ↔ (a0 = none → en_J (X_X2_nextOnPath G q) 13 [l0, l1] [] σ) ∧ (¬ (a0 = none) → en_J (X_X2_nextOnPath G q) 9 [l0, l1] [] σ) := en_jb d_X2_nextOnPath_6 rfl ⟨rfl, by decide⟩
theorem d_X2_nextOnPath_9 : decode cX2_nextOnPath 9 = .ok (.aload_n 1, 1) := by decide +kernel
theorem j_X2_nextOnPath_9 {G : en_G} {q : Option en_V → en_S → Prop}  {l0 : en_V} {x1 : Option Nat} {σ : en_S} : en_J (X_X2_nextOnPath G q) 9 [l0, en_R x1] [] σ ↔ en_J (X_X2_nextOnPath G q) 10 [l0, en_R x1] [en_R x1] σ := en_j1 d_X2_nextOnPath_9 rfl rfl
theorem d_X2_nextOnPath_10 : decode cX2_nextOnPath 10 = .ok (.goto 7, 3) := by decide +kernel
theorem j_X2_nextOnPath_10 {G : en_G} {q : Option en_V → en_S → Prop}  {l0 l1 : en_V} {a0 : Option Nat} {σ : en_S} : en_J (X_X2_nextOnPath G q) 10 [l0, l1] [en_R a0] σ ↔ en_J (X_X2_nextOnPath G q) 17 [l0, l1] [en_R a0] σ := en_j1 d_X2_nextOnPath_10 rfl ⟨rfl, by decide⟩
theorem d_X2_nextOnPath_13 : decode cX2_nextOnPath 13 = .ok (.aload_n 0, 1) := by decide +kernel
theorem j_X2_nextOnPath_13 {G : en_G} {q : Option en_V → en_S → Prop}  {l1 : en_V} {x0 : Option Nat} {σ : en_S} : en_J (X_X2_nextOnPath G q) 13 [en_R x0, l1] [] σ ↔ en_J (X_X2_nextOnPath G q) 14 [en_R x0, l1] [en_R x0] σ := en_j1 d_X2_nextOnPath_13 rfl rfl
theorem d_X2_nextOnPath_14 : decode cX2_nextOnPath 14 = .ok (.invokevirtual 62, 3) := by decide +kernel
theorem j_X2_nextOnPath_14 {G : en_G} {q : Option en_V → en_S → Prop}  {l0 l1 : en_V} {a0 : Option Nat} {σ : en_S} : en_J (X_X2_nextOnPath G q) 14 [l0, l1] [en_R a0] σ ↔ C_X4_parentOrHost.1 [en_R a0] σ ∧ ∀ (r : Option en_V) (σ' : en_S), C_X4_parentOrHost.2 [en_R a0] σ r σ' → en_J (X_X2_nextOnPath G q) 17 [l0, l1] (r.toList ++ []) σ' := en_jk d_X2_nextOnPath_14 rfl ⟨fun h => h.2.2.2.2, fun h => ⟨rfl, rfl, Nat.le_of_ble_eq_true rfl, Nat.le_of_ble_eq_true rfl, h⟩⟩
theorem d_X2_nextOnPath_17 : decode cX2_nextOnPath 17 = .ok (.areturn, 1) := by decide +kernel
theorem j_X2_nextOnPath_17 {G : en_G} {q : Option en_V → en_S → Prop}  {l0 l1 : en_V} {a0 : Option Nat} {σ : en_S} : en_J (X_X2_nextOnPath G q) 17 [l0, l1] [en_R a0] σ ↔ q (some (en_R a0)) σ := en_jr d_X2_nextOnPath_17 rfl ⟨fun h => h.2.2, fun h => ⟨rfl, rfl, h⟩⟩
theorem wc_X2_nextOnPath : Jvm.Cond.code yX2_nextOnPath cX2_nextOnPath 2 (some (.object "NodeStage$Node")) ∈ en_W := en_inW (List.mem_of_getElem? (i := 392) (by decide +kernel)) (by decide +kernel)
theorem ws_X2_nextOnPath : Jvm.Cond.static yX2_nextOnPath ∈ en_W := en_inW (List.mem_of_getElem? (i := 391) (by decide +kernel)) (by decide +kernel)
theorem jl_X2_nextOnPath {G : en_G}  {na : Nat → Nat} {T : tr_T} {n : Nat} {σ : en_S} (hp : tr_R na T σ ∧ tr_wf T ∧ n < tr_N T) : en_J (X_X2_nextOnPath G (fun v σ' => σ' = σ ∧ v = some (en_R ((ds_nxt T n).map na)))) 0 [en_R (some (na n)), en_U] [] σ := by
  obtain ⟨hR, hw, hn⟩ := hp
  simp only [j_X2_nextOnPath_0, j_X2_nextOnPath_1, j_X2_nextOnPath_4, j_X2_nextOnPath_5, j_X2_nextOnPath_6, j_X2_nextOnPath_9, j_X2_nextOnPath_10, j_X2_nextOnPath_13, j_X2_nextOnPath_14, j_X2_nextOnPath_17, en_c2I, en_c2R, en_c2U, en_c2D, Option.some.injEq, exists_eq_left', exists_eq_left, Option.map_some, Option.map_none, not_true_eq_false, false_implies, true_implies, and_true, true_and, reduceCtorEq, not_false_eq_true]
  refine en_use (cu_X4_assignedSlot hR hw hn) ?_
  rintro v σ' ⟨rfl, rfl⟩
  unfold ds_nxt
  cases hs : tr_as T n with
  | some s =>
    simp only [Option.toList, List.cons_append, List.nil_append, j_X2_nextOnPath_0, j_X2_nextOnPath_1, j_X2_nextOnPath_4, j_X2_nextOnPath_5, j_X2_nextOnPath_6, j_X2_nextOnPath_9, j_X2_nextOnPath_10, j_X2_nextOnPath_13, j_X2_nextOnPath_14, j_X2_nextOnPath_17, en_c2I, en_c2R, en_c2U, en_c2D, Option.some.injEq, exists_eq_left', exists_eq_left, Option.map_some, Option.map_none, not_true_eq_false, false_implies, true_implies, and_true, true_and, reduceCtorEq, not_false_eq_true]
  | none =>
    simp only [Option.toList, List.cons_append, List.nil_append, j_X2_nextOnPath_0, j_X2_nextOnPath_1, j_X2_nextOnPath_4, j_X2_nextOnPath_5, j_X2_nextOnPath_6, j_X2_nextOnPath_9, j_X2_nextOnPath_10, j_X2_nextOnPath_13, j_X2_nextOnPath_14, j_X2_nextOnPath_17, en_c2I, en_c2R, en_c2U, en_c2D, Option.some.injEq, exists_eq_left', exists_eq_left, Option.map_some, Option.map_none, not_true_eq_false, false_implies, true_implies, and_true, true_and, reduceCtorEq, not_false_eq_true]
    refine en_use (cu_X4_parentOrHost (hR.1 n hn).1) ?_
    rintro v σ' ⟨rfl, rfl⟩
    simp only [Option.toList, List.cons_append, List.nil_append, j_X2_nextOnPath_0, j_X2_nextOnPath_1, j_X2_nextOnPath_4, j_X2_nextOnPath_5, j_X2_nextOnPath_6, j_X2_nextOnPath_9, j_X2_nextOnPath_10, j_X2_nextOnPath_13, j_X2_nextOnPath_14, j_X2_nextOnPath_17, en_c2I, en_c2R, en_c2U, en_c2D, Option.some.injEq, exists_eq_left', exists_eq_left, Option.map_some, Option.map_none, not_true_eq_false, false_implies, true_implies, and_true, true_and, reduceCtorEq, not_false_eq_true]
    rw [hR.upr hn]
theorem jp_X2_nextOnPath {G : en_G}  : ∀ as σ, (C_X2_nextOnPath G).1 as σ → (en_lc as).length ≤ 2 ∧ en_J (X_X2_nextOnPath G (fun r σ' => (C_X2_nextOnPath G).2 as σ r σ')) 0 (en_loc 2 as) [] σ := en_ghJ (fun g as σ h => by
  obtain ⟨hp, h2⟩ := h
  subst h2
  exact ⟨Nat.le_of_ble_eq_true rfl, jl_X2_nextOnPath hp⟩)
theorem wl_X2_nextOnPath_59 : Jvm.Cond.methodLink RX2 59 yX4_assignedSlot ∈ en_W := en_inW (List.mem_of_getElem? (i := 393) (by decide +kernel)) (by decide +kernel)
theorem wl_X2_nextOnPath_62 : Jvm.Cond.methodLink RX2 62 yX4_parentOrHost ∈ en_W := en_inW (List.mem_of_getElem? (i := 401) (by decide +kernel)) (by decide +kernel)
theorem ok_X2_nextOnPath {G : en_G}  : en_Ok G 3 yX2_nextOnPath cX2_nextOnPath 2 (some (.object "NodeStage$Node")) (C_X2_nextOnPath G) :=
  en_met (own := RX2) (fl := en_lk fl2) (nw := en_lk nw2) (aw := en_lk aw2) (dc := en_lk dc2) (ca := en_lk (ca_X2_nextOnPath G)) (rt := 3) (ini := false) (by decide +kernel) (Or.inr (Or.inr (Or.inr (Or.inl ⟨rfl, _, rfl⟩)))) (fun h => by cases h) rfl (fun q => en_LkF fl2_ok nw2_ok aw2_ok dc2_ok) (by
    intro idx q hq
    have hm := en_lk_mem hq
    simp only [ca_X2_nextOnPath, List.mem_cons, Prod.mk.injEq, List.not_mem_nil, or_false] at hm
    rcases hm with ⟨rfl, rfl⟩ | ⟨rfl, rfl⟩
    · exact en_clV (r := (RX4, TX4, 12)) 4 0 ok_X4_assignedSlot (by decide) (by decide) rfl rfl pr_X4_assignedSlot wl_X2_nextOnPath_59 wi_X4_assignedSlot wx_X4_assignedSlot wz_4 wc_X4_assignedSlot ⟨by decide +kernel, by decide +kernel, by decide +kernel⟩
    · exact en_clV (r := (RX4, TX4, 12)) 4 0 ok_X4_parentOrHost (by decide) (by decide) rfl rfl pr_X4_parentOrHost wl_X2_nextOnPath_62 wi_X4_parentOrHost wx_X4_parentOrHost wz_4 wc_X4_parentOrHost ⟨by decide +kernel, by decide +kernel, by decide +kernel⟩) jp_X2_nextOnPath
def P_X2_layPath (G : en_G)  (g : (Nat) × (Nat → Nat) × (Nat → Nat) × (Nat → Nat) × (Nat) × (st_A) × (Nat) × (Nat) × (Option Nat)) (as : List en_V) (σ : en_S) : Prop := (CX G (g.1) (g.2.1) (g.2.2.1) (g.2.2.2.1) (g.2.2.2.2.1) (g.2.2.2.2.2.1) σ ∧ (g.2.2.2.2.2.2.1) < 4 ∧ (g.2.2.2.2.2.2.2.1) < tr_N (sa_T (g.2.2.2.2.2.1)) ∧ (∀ n, (g.2.2.2.2.2.2.2.2) = some n → n < tr_N (sa_T (g.2.2.2.2.2.1)))) ∧ as = [en_R (some ((g.1) + 32 + 3 * (g.2.2.2.2.2.2.1))), en_R (some ((g.2.1) (g.2.2.2.2.2.2.2.1))), en_R ((g.2.2.2.2.2.2.2.2).map (g.2.1))]
def C_X2_layPath (G : en_G)  : en_C := en_gh (P_X2_layPath G) (fun g as σ v σ' => v = none ∧ ev_path (g.2.1) ((g.1) + 32 + 3 * (g.2.2.2.2.2.2.1)) (ds_lay (sa_T (g.2.2.2.2.2.1)) (g.2.2.2.2.2.2.2.2) 24 (some (g.2.2.2.2.2.2.2.1)) (g.2.2.2.2.2.2.2.1)) σ' ∧ ag σ σ' (lyF ((g.1) + 32 + 3 * (g.2.2.2.2.2.2.1))) (evV ((g.1) + 32 + 3 * (g.2.2.2.2.2.2.1))) ∧ sz σ σ')
theorem pr_X2_layPath {G : en_G}  : ∀ as σ, (C_X2_layPath G).1 as σ → ∃ b tl, as = en_R (some b) :: tl ∧ en_cl σ b = some 2 ∧ tl.length = 2 := fun as σ ⟨g, hp, h2⟩ => ⟨_, _, h2, (hp.1.1.2.2.2.2.1 _ hp.2.1).2.1, rfl⟩
theorem cu_X2_layPath {G : en_G}  {x : Nat} {na : Nat → Nat} {la : Nat → Nat} {ba : Nat → Nat} {rm : Nat} {A : st_A} {d : Nat} {t : Nat} {last : Option Nat} {σ : en_S} (hp : CX G x na la ba rm A σ ∧ d < 4 ∧ t < tr_N (sa_T A) ∧ (∀ n, last = some n → n < tr_N (sa_T A))) : en_Us (C_X2_layPath G) [en_R (some (x + 32 + 3 * d)), en_R (some (na t)), en_R (last.map na)] σ (fun v σ' => v = none ∧ ev_path na (x + 32 + 3 * d) (ds_lay (sa_T A) last 24 (some t) t) σ' ∧ ag σ σ' (lyF (x + 32 + 3 * d)) (evV (x + 32 + 3 * d)) ∧ sz σ σ') := ⟨⟨(x, na, la, ba, rm, A, d, t, last), hp, rfl⟩, fun v σ' q => q (x, na, la, ba, rm, A, d, t, last) ⟨hp, rfl⟩⟩
def ca_X2_layPath (G : en_G) : List (Nat × Nat × en_C) := [(40, 5, C_X4_root), (51, 9, C_X4_isAtOrOver), (55, 4, (C_X2_nextOnPath G))]
def X_X2_layPath (G : en_G) (q : Option en_V → en_S → Prop) : en_X := en_mk G cX2_layPath (en_lk fl2) (en_lk nw2) (en_lk aw2) (en_lk dc2) (en_lk (ca_X2_layPath G)) 0 false q
theorem d_X2_layPath_0 : decode cX2_layPath 0 = .ok (.aload_n 1, 1) := by decide +kernel
theorem j_X2_layPath_0 {G : en_G} {q : Option en_V → en_S → Prop}  {l0 l2 l3 l4 l5 : en_V} {x1 : Option Nat} {σ : en_S} : en_J (X_X2_layPath G q) 0 [l0, en_R x1, l2, l3, l4, l5] [] σ ↔ en_J (X_X2_layPath G q) 1 [l0, en_R x1, l2, l3, l4, l5] [en_R x1] σ := en_j1 d_X2_layPath_0 rfl rfl
theorem d_X2_layPath_1 : decode cX2_layPath 1 = .ok (.astore_n 3, 1) := by decide +kernel
theorem j_X2_layPath_1 {G : en_G} {q : Option en_V → en_S → Prop}  {l0 l1 l2 l3 l4 l5 : en_V} {a0 : Option Nat} {σ : en_S} : en_J (X_X2_layPath G q) 1 [l0, l1, l2, l3, l4, l5] [en_R a0] σ ↔ en_J (X_X2_layPath G q) 2 [l0, l1, en_c2 l2, en_R a0, l4, l5] [] σ := en_j1 d_X2_layPath_1 rfl ⟨rfl, Nat.le_of_ble_eq_true rfl⟩
theorem d_X2_layPath_2 : decode cX2_layPath 2 = .ok (.aload_n 1, 1) := by decide +kernel
theorem j_X2_layPath_2 {G : en_G} {q : Option en_V → en_S → Prop}  {l0 l2 l3 l4 l5 : en_V} {x1 : Option Nat} {σ : en_S} : en_J (X_X2_layPath G q) 2 [l0, en_R x1, l2, l3, l4, l5] [] σ ↔ en_J (X_X2_layPath G q) 3 [l0, en_R x1, l2, l3, l4, l5] [en_R x1] σ := en_j1 d_X2_layPath_2 rfl rfl
theorem d_X2_layPath_3 : decode cX2_layPath 3 = .ok (.astore 4, 2) := by decide +kernel
theorem j_X2_layPath_3 {G : en_G} {q : Option en_V → en_S → Prop}  {l0 l1 l2 l3 l4 l5 : en_V} {a0 : Option Nat} {σ : en_S} : en_J (X_X2_layPath G q) 3 [l0, l1, l2, l3, l4, l5] [en_R a0] σ ↔ en_J (X_X2_layPath G q) 5 [l0, l1, l2, en_c2 l3, en_R a0, l5] [] σ := en_j1 d_X2_layPath_3 rfl ⟨rfl, Nat.le_of_ble_eq_true rfl⟩
theorem d_X2_layPath_5 : decode cX2_layPath 5 = .ok (.aload_n 0, 1) := by decide +kernel
theorem j_X2_layPath_5 {G : en_G} {q : Option en_V → en_S → Prop}  {l1 l2 l3 l4 l5 : en_V} {x0 : Option Nat} {σ : en_S} : en_J (X_X2_layPath G q) 5 [en_R x0, l1, l2, l3, l4, l5] [] σ ↔ en_J (X_X2_layPath G q) 6 [en_R x0, l1, l2, l3, l4, l5] [en_R x0] σ := en_j1 d_X2_layPath_5 rfl rfl
theorem d_X2_layPath_6 : decode cX2_layPath 6 = .ok (.iconst 0, 1) := by decide +kernel
theorem j_X2_layPath_6 {G : en_G} {q : Option en_V → en_S → Prop}  {l0 l1 l2 l3 l4 l5 : en_V} {a0 : Option Nat} {σ : en_S} : en_J (X_X2_layPath G q) 6 [l0, l1, l2, l3, l4, l5] [en_R a0] σ ↔ en_J (X_X2_layPath G q) 7 [l0, l1, l2, l3, l4, l5] [en_I 0, en_R a0] σ := ej_iconst d_X2_layPath_6 (by decide +kernel)
theorem d_X2_layPath_7 : decode cX2_layPath 7 = .ok (.putfield 48, 3) := by decide +kernel
theorem j_X2_layPath_7 {G : en_G} {q : Option en_V → en_S → Prop}  {l0 l1 l2 l3 l4 l5 : en_V} {a0 : Int32} {a1 : Option Nat} {σ : en_S} : en_J (X_X2_layPath G q) 7 [l0, l1, l2, l3, l4, l5] [en_I a0, en_R a1] σ ↔ ∃ a, a1 = some a ∧ en_cl σ a = some 2 ∧ en_J (X_X2_layPath G q) 10 [l0, l1, l2, l3, l4, l5] [] (en_sfi σ 202 a a0) := en_jg (st := fun o => [en_I a0, en_R o]) (st' := fun _ => []) (σ' := fun a => en_sfi σ 202 a a0) d_X2_layPath_7 rfl (fun a => rfl) (fun a => ⟨fun h => h.2.1, fun h => ⟨rfl, h, trivial, fun z => absurd z (by decide +kernel)⟩⟩)
theorem d_X2_layPath_10 : decode cX2_layPath 10 = .ok (.iconst 0, 1) := by decide +kernel
theorem j_X2_layPath_10 {G : en_G} {q : Option en_V → en_S → Prop}  {l0 l1 l2 l3 l4 l5 : en_V}  {σ : en_S} : en_J (X_X2_layPath G q) 10 [l0, l1, l2, l3, l4, l5] [] σ ↔ en_J (X_X2_layPath G q) 11 [l0, l1, l2, l3, l4, l5] [en_I 0] σ := ej_iconst d_X2_layPath_10 (by decide +kernel)
theorem d_X2_layPath_11 : decode cX2_layPath 11 = .ok (.istore 5, 2) := by decide +kernel
theorem j_X2_layPath_11 {G : en_G} {q : Option en_V → en_S → Prop}  {l0 l1 l2 l3 l4 l5 : en_V} {a0 : Int32} {σ : en_S} : en_J (X_X2_layPath G q) 11 [l0, l1, l2, l3, l4, l5] [en_I a0] σ ↔ en_J (X_X2_layPath G q) 13 [l0, l1, l2, l3, en_c2 l4, en_I a0] [] σ := en_j1 d_X2_layPath_11 rfl ⟨rfl, Nat.le_of_ble_eq_true rfl⟩
theorem d_X2_layPath_13 : decode cX2_layPath 13 = .ok (.iload 5, 2) := by decide +kernel
theorem j_X2_layPath_13 {G : en_G} {q : Option en_V → en_S → Prop}  {l0 l1 l2 l3 l4 : en_V} {x5 : Int32} {σ : en_S} : en_J (X_X2_layPath G q) 13 [l0, l1, l2, l3, l4, en_I x5] [] σ ↔ en_J (X_X2_layPath G q) 15 [l0, l1, l2, l3, l4, en_I x5] [en_I x5] σ := en_j1 d_X2_layPath_13 rfl rfl
theorem d_X2_layPath_15 : decode cX2_layPath 15 = .ok (.bipush 24, 2) := by decide +kernel
theorem j_X2_layPath_15 {G : en_G} {q : Option en_V → en_S → Prop}  {l0 l1 l2 l3 l4 l5 : en_V} {a0 : Int32} {σ : en_S} : en_J (X_X2_layPath G q) 15 [l0, l1, l2, l3, l4, l5] [en_I a0] σ ↔ en_J (X_X2_layPath G q) 17 [l0, l1, l2, l3, l4, l5] [en_I 24, en_I a0] σ := ej_bipush d_X2_layPath_15 (by decide +kernel)
theorem d_X2_layPath_17 : decode cX2_layPath 17 = .ok (.if_icmp .ge 75, 3) := by decide +kernel
theorem j_X2_layPath_17 {G : en_G} {q : Option en_V → en_S → Prop}  {l0 l1 l2 l3 l4 l5 : en_V} {a0 : Int32} {a1 : Int32} {σ : en_S} : en_J (X_X2_layPath G q) 17 [l0, l1, l2, l3, l4, l5] [en_I a0, en_I a1] σ ↔ (a0 ≤ a1 → en_J (X_X2_layPath G q) 92 [l0, l1, l2, l3, l4, l5] [] σ) ∧ (¬ (a0 ≤ a1) → en_J (X_X2_layPath G q) 20 [l0, l1, l2, l3, l4, l5] [] σ) := en_jb d_X2_layPath_17 rfl ⟨rfl, by decide⟩
theorem d_X2_layPath_20 : decode cX2_layPath 20 = .ok (.aload 4, 2) := by decide +kernel
theorem j_X2_layPath_20 {G : en_G} {q : Option en_V → en_S → Prop}  {l0 l1 l2 l3 l5 : en_V} {x4 : Option Nat} {σ : en_S} : en_J (X_X2_layPath G q) 20 [l0, l1, l2, l3, en_R x4, l5] [] σ ↔ en_J (X_X2_layPath G q) 22 [l0, l1, l2, l3, en_R x4, l5] [en_R x4] σ := en_j1 d_X2_layPath_20 rfl rfl
theorem d_X2_layPath_22 : decode cX2_layPath 22 = .ok (.ifnull 70, 3) := by decide +kernel
theorem j_X2_layPath_22 {G : en_G} {q : Option en_V → en_S → Prop}  {l0 l1 l2 l3 l4 l5 : en_V} {a0 : Option Nat} {σ : en_S} : en_J (X_X2_layPath G q) 22 [l0, l1, l2, l3, l4, l5] [en_R a0] σ ↔ (a0 = none → en_J (X_X2_layPath G q) 92 [l0, l1, l2, l3, l4, l5] [] σ) ∧ (¬ (a0 = none) → en_J (X_X2_layPath G q) 25 [l0, l1, l2, l3, l4, l5] [] σ) := en_jb d_X2_layPath_22 rfl ⟨rfl, by decide⟩
theorem d_X2_layPath_25 : decode cX2_layPath 25 = .ok (.aload_n 3, 1) := by decide +kernel
theorem j_X2_layPath_25 {G : en_G} {q : Option en_V → en_S → Prop}  {l0 l1 l2 l4 l5 : en_V} {x3 : Option Nat} {σ : en_S} : en_J (X_X2_layPath G q) 25 [l0, l1, l2, en_R x3, l4, l5] [] σ ↔ en_J (X_X2_layPath G q) 26 [l0, l1, l2, en_R x3, l4, l5] [en_R x3] σ := en_j1 d_X2_layPath_25 rfl rfl
theorem d_X2_layPath_26 : decode cX2_layPath 26 = .ok (.invokevirtual 40, 3) := by decide +kernel
theorem j_X2_layPath_26 {G : en_G} {q : Option en_V → en_S → Prop}  {l0 l1 l2 l3 l4 l5 : en_V} {a0 : Option Nat} {σ : en_S} : en_J (X_X2_layPath G q) 26 [l0, l1, l2, l3, l4, l5] [en_R a0] σ ↔ C_X4_root.1 [en_R a0] σ ∧ ∀ (r : Option en_V) (σ' : en_S), C_X4_root.2 [en_R a0] σ r σ' → en_J (X_X2_layPath G q) 29 [l0, l1, l2, l3, l4, l5] (r.toList ++ []) σ' := en_jk d_X2_layPath_26 rfl ⟨fun h => h.2.2.2.2, fun h => ⟨rfl, rfl, Nat.le_of_ble_eq_true rfl, Nat.le_of_ble_eq_true rfl, h⟩⟩
theorem d_X2_layPath_29 : decode cX2_layPath 29 = .ok (.aload 4, 2) := by decide +kernel
theorem j_X2_layPath_29 {G : en_G} {q : Option en_V → en_S → Prop}  {l0 l1 l2 l3 l5 : en_V} {a0 : Option Nat} {x4 : Option Nat} {σ : en_S} : en_J (X_X2_layPath G q) 29 [l0, l1, l2, l3, en_R x4, l5] [en_R a0] σ ↔ en_J (X_X2_layPath G q) 31 [l0, l1, l2, l3, en_R x4, l5] [en_R x4, en_R a0] σ := en_j1 d_X2_layPath_29 rfl rfl
theorem d_X2_layPath_31 : decode cX2_layPath 31 = .ok (.invokevirtual 51, 3) := by decide +kernel
theorem j_X2_layPath_31 {G : en_G} {q : Option en_V → en_S → Prop}  {l0 l1 l2 l3 l4 l5 : en_V} {a0 : Option Nat} {a1 : Option Nat} {σ : en_S} : en_J (X_X2_layPath G q) 31 [l0, l1, l2, l3, l4, l5] [en_R a0, en_R a1] σ ↔ C_X4_isAtOrOver.1 [en_R a1, en_R a0] σ ∧ ∀ (r : Option en_V) (σ' : en_S), C_X4_isAtOrOver.2 [en_R a1, en_R a0] σ r σ' → en_J (X_X2_layPath G q) 34 [l0, l1, l2, l3, l4, l5] (r.toList ++ []) σ' := en_jk d_X2_layPath_31 rfl ⟨fun h => h.2.2.2.2, fun h => ⟨rfl, rfl, Nat.le_of_ble_eq_true rfl, Nat.le_of_ble_eq_true rfl, h⟩⟩
theorem d_X2_layPath_34 : decode cX2_layPath 34 = .ok (.ifCond .eq 7, 3) := by decide +kernel
theorem j_X2_layPath_34 {G : en_G} {q : Option en_V → en_S → Prop}  {l0 l1 l2 l3 l4 l5 : en_V} {a0 : Int32} {σ : en_S} : en_J (X_X2_layPath G q) 34 [l0, l1, l2, l3, l4, l5] [en_I a0] σ ↔ (a0 = 0 → en_J (X_X2_layPath G q) 41 [l0, l1, l2, l3, l4, l5] [] σ) ∧ (¬ (a0 = 0) → en_J (X_X2_layPath G q) 37 [l0, l1, l2, l3, l4, l5] [] σ) := en_jb d_X2_layPath_34 rfl ⟨rfl, by decide⟩
theorem d_X2_layPath_37 : decode cX2_layPath 37 = .ok (.aload_n 3, 1) := by decide +kernel
theorem j_X2_layPath_37 {G : en_G} {q : Option en_V → en_S → Prop}  {l0 l1 l2 l4 l5 : en_V} {x3 : Option Nat} {σ : en_S} : en_J (X_X2_layPath G q) 37 [l0, l1, l2, en_R x3, l4, l5] [] σ ↔ en_J (X_X2_layPath G q) 38 [l0, l1, l2, en_R x3, l4, l5] [en_R x3] σ := en_j1 d_X2_layPath_37 rfl rfl
theorem d_X2_layPath_38 : decode cX2_layPath 38 = .ok (.goto 5, 3) := by decide +kernel
theorem j_X2_layPath_38 {G : en_G} {q : Option en_V → en_S → Prop}  {l0 l1 l2 l3 l4 l5 : en_V} {a0 : Option Nat} {σ : en_S} : en_J (X_X2_layPath G q) 38 [l0, l1, l2, l3, l4, l5] [en_R a0] σ ↔ en_J (X_X2_layPath G q) 43 [l0, l1, l2, l3, l4, l5] [en_R a0] σ := en_j1 d_X2_layPath_38 rfl ⟨rfl, by decide⟩
theorem d_X2_layPath_41 : decode cX2_layPath 41 = .ok (.aload 4, 2) := by decide +kernel
theorem j_X2_layPath_41 {G : en_G} {q : Option en_V → en_S → Prop}  {l0 l1 l2 l3 l5 : en_V} {x4 : Option Nat} {σ : en_S} : en_J (X_X2_layPath G q) 41 [l0, l1, l2, l3, en_R x4, l5] [] σ ↔ en_J (X_X2_layPath G q) 43 [l0, l1, l2, l3, en_R x4, l5] [en_R x4] σ := en_j1 d_X2_layPath_41 rfl rfl
theorem d_X2_layPath_43 : decode cX2_layPath 43 = .ok (.astore_n 3, 1) := by decide +kernel
theorem j_X2_layPath_43 {G : en_G} {q : Option en_V → en_S → Prop}  {l0 l1 l2 l3 l4 l5 : en_V} {a0 : Option Nat} {σ : en_S} : en_J (X_X2_layPath G q) 43 [l0, l1, l2, l3, l4, l5] [en_R a0] σ ↔ en_J (X_X2_layPath G q) 44 [l0, l1, en_c2 l2, en_R a0, l4, l5] [] σ := en_j1 d_X2_layPath_43 rfl ⟨rfl, Nat.le_of_ble_eq_true rfl⟩
theorem d_X2_layPath_44 : decode cX2_layPath 44 = .ok (.aload_n 0, 1) := by decide +kernel
theorem j_X2_layPath_44 {G : en_G} {q : Option en_V → en_S → Prop}  {l1 l2 l3 l4 l5 : en_V} {x0 : Option Nat} {σ : en_S} : en_J (X_X2_layPath G q) 44 [en_R x0, l1, l2, l3, l4, l5] [] σ ↔ en_J (X_X2_layPath G q) 45 [en_R x0, l1, l2, l3, l4, l5] [en_R x0] σ := en_j1 d_X2_layPath_44 rfl rfl
theorem d_X2_layPath_45 : decode cX2_layPath 45 = .ok (.getfield 11, 3) := by decide +kernel
theorem j_X2_layPath_45 {G : en_G} {q : Option en_V → en_S → Prop}  {l0 l1 l2 l3 l4 l5 : en_V} {a0 : Option Nat} {σ : en_S} : en_J (X_X2_layPath G q) 45 [l0, l1, l2, l3, l4, l5] [en_R a0] σ ↔ ∃ a, a0 = some a ∧ en_cl σ a = some 2 ∧ en_J (X_X2_layPath G q) 48 [l0, l1, l2, l3, l4, l5] [en_R (en_fr σ 200 a)] σ := en_jg (st := fun o => [en_R o]) (st' := fun a => [en_R (en_fr σ 200 a)]) (σ' := fun _ => σ) d_X2_layPath_45 rfl (fun a => rfl) (fun a => ⟨fun h => h.2, fun h => ⟨rfl, h⟩⟩)
theorem d_X2_layPath_48 : decode cX2_layPath 48 = .ok (.iload 5, 2) := by decide +kernel
theorem j_X2_layPath_48 {G : en_G} {q : Option en_V → en_S → Prop}  {l0 l1 l2 l3 l4 : en_V} {a0 : Option Nat} {x5 : Int32} {σ : en_S} : en_J (X_X2_layPath G q) 48 [l0, l1, l2, l3, l4, en_I x5] [en_R a0] σ ↔ en_J (X_X2_layPath G q) 50 [l0, l1, l2, l3, l4, en_I x5] [en_I x5, en_R a0] σ := en_j1 d_X2_layPath_48 rfl rfl
theorem d_X2_layPath_50 : decode cX2_layPath 50 = .ok (.aload 4, 2) := by decide +kernel
theorem j_X2_layPath_50 {G : en_G} {q : Option en_V → en_S → Prop}  {l0 l1 l2 l3 l5 : en_V} {a0 : Int32} {a1 : Option Nat} {x4 : Option Nat} {σ : en_S} : en_J (X_X2_layPath G q) 50 [l0, l1, l2, l3, en_R x4, l5] [en_I a0, en_R a1] σ ↔ en_J (X_X2_layPath G q) 52 [l0, l1, l2, l3, en_R x4, l5] [en_R x4, en_I a0, en_R a1] σ := en_j1 d_X2_layPath_50 rfl rfl
theorem d_X2_layPath_52 : decode cX2_layPath 52 = .ok (.aastore, 1) := by decide +kernel
theorem j_X2_layPath_52 {G : en_G} {q : Option en_V → en_S → Prop}  {l0 l1 l2 l3 l4 l5 : en_V} {a0 : Option Nat} {a1 : Int32} {a2 : Option Nat} {σ : en_S} : en_J (X_X2_layPath G q) 52 [l0, l1, l2, l3, l4, l5] [en_R a0, en_I a1, en_R a2] σ ↔ ∃ a, a2 = some a ∧ (∃ t k, en_al σ a = some (t, k) ∧ 4 ≤ t ∧ vp_in a1 k ∧ ∀ b, a0 = some b → en_cl σ b = some (en_ec t)) ∧ en_J (X_X2_layPath G q) 53 [l0, l1, l2, l3, l4, l5] [] (en_sar σ a a1.toNatClampNeg a0) := ej_aastore d_X2_layPath_52
theorem d_X2_layPath_53 : decode cX2_layPath 53 = .ok (.aload_n 0, 1) := by decide +kernel
theorem j_X2_layPath_53 {G : en_G} {q : Option en_V → en_S → Prop}  {l1 l2 l3 l4 l5 : en_V} {x0 : Option Nat} {σ : en_S} : en_J (X_X2_layPath G q) 53 [en_R x0, l1, l2, l3, l4, l5] [] σ ↔ en_J (X_X2_layPath G q) 54 [en_R x0, l1, l2, l3, l4, l5] [en_R x0] σ := en_j1 d_X2_layPath_53 rfl rfl
theorem d_X2_layPath_54 : decode cX2_layPath 54 = .ok (.getfield 17, 3) := by decide +kernel
theorem j_X2_layPath_54 {G : en_G} {q : Option en_V → en_S → Prop}  {l0 l1 l2 l3 l4 l5 : en_V} {a0 : Option Nat} {σ : en_S} : en_J (X_X2_layPath G q) 54 [l0, l1, l2, l3, l4, l5] [en_R a0] σ ↔ ∃ a, a0 = some a ∧ en_cl σ a = some 2 ∧ en_J (X_X2_layPath G q) 57 [l0, l1, l2, l3, l4, l5] [en_R (en_fr σ 201 a)] σ := en_jg (st := fun o => [en_R o]) (st' := fun a => [en_R (en_fr σ 201 a)]) (σ' := fun _ => σ) d_X2_layPath_54 rfl (fun a => rfl) (fun a => ⟨fun h => h.2, fun h => ⟨rfl, h⟩⟩)
theorem d_X2_layPath_57 : decode cX2_layPath 57 = .ok (.iload 5, 2) := by decide +kernel
theorem j_X2_layPath_57 {G : en_G} {q : Option en_V → en_S → Prop}  {l0 l1 l2 l3 l4 : en_V} {a0 : Option Nat} {x5 : Int32} {σ : en_S} : en_J (X_X2_layPath G q) 57 [l0, l1, l2, l3, l4, en_I x5] [en_R a0] σ ↔ en_J (X_X2_layPath G q) 59 [l0, l1, l2, l3, l4, en_I x5] [en_I x5, en_R a0] σ := en_j1 d_X2_layPath_57 rfl rfl
theorem d_X2_layPath_59 : decode cX2_layPath 59 = .ok (.aload_n 3, 1) := by decide +kernel
theorem j_X2_layPath_59 {G : en_G} {q : Option en_V → en_S → Prop}  {l0 l1 l2 l4 l5 : en_V} {a0 : Int32} {a1 : Option Nat} {x3 : Option Nat} {σ : en_S} : en_J (X_X2_layPath G q) 59 [l0, l1, l2, en_R x3, l4, l5] [en_I a0, en_R a1] σ ↔ en_J (X_X2_layPath G q) 60 [l0, l1, l2, en_R x3, l4, l5] [en_R x3, en_I a0, en_R a1] σ := en_j1 d_X2_layPath_59 rfl rfl
theorem d_X2_layPath_60 : decode cX2_layPath 60 = .ok (.aastore, 1) := by decide +kernel
theorem j_X2_layPath_60 {G : en_G} {q : Option en_V → en_S → Prop}  {l0 l1 l2 l3 l4 l5 : en_V} {a0 : Option Nat} {a1 : Int32} {a2 : Option Nat} {σ : en_S} : en_J (X_X2_layPath G q) 60 [l0, l1, l2, l3, l4, l5] [en_R a0, en_I a1, en_R a2] σ ↔ ∃ a, a2 = some a ∧ (∃ t k, en_al σ a = some (t, k) ∧ 4 ≤ t ∧ vp_in a1 k ∧ ∀ b, a0 = some b → en_cl σ b = some (en_ec t)) ∧ en_J (X_X2_layPath G q) 61 [l0, l1, l2, l3, l4, l5] [] (en_sar σ a a1.toNatClampNeg a0) := ej_aastore d_X2_layPath_60
theorem d_X2_layPath_61 : decode cX2_layPath 61 = .ok (.aload_n 0, 1) := by decide +kernel
theorem j_X2_layPath_61 {G : en_G} {q : Option en_V → en_S → Prop}  {l1 l2 l3 l4 l5 : en_V} {x0 : Option Nat} {σ : en_S} : en_J (X_X2_layPath G q) 61 [en_R x0, l1, l2, l3, l4, l5] [] σ ↔ en_J (X_X2_layPath G q) 62 [en_R x0, l1, l2, l3, l4, l5] [en_R x0] σ := en_j1 d_X2_layPath_61 rfl rfl
theorem d_X2_layPath_62 : decode cX2_layPath 62 = .ok (.iload 5, 2) := by decide +kernel
theorem j_X2_layPath_62 {G : en_G} {q : Option en_V → en_S → Prop}  {l0 l1 l2 l3 l4 : en_V} {a0 : Option Nat} {x5 : Int32} {σ : en_S} : en_J (X_X2_layPath G q) 62 [l0, l1, l2, l3, l4, en_I x5] [en_R a0] σ ↔ en_J (X_X2_layPath G q) 64 [l0, l1, l2, l3, l4, en_I x5] [en_I x5, en_R a0] σ := en_j1 d_X2_layPath_62 rfl rfl
theorem d_X2_layPath_64 : decode cX2_layPath 64 = .ok (.iconst 1, 1) := by decide +kernel
theorem j_X2_layPath_64 {G : en_G} {q : Option en_V → en_S → Prop}  {l0 l1 l2 l3 l4 l5 : en_V} {a0 : Int32} {a1 : Option Nat} {σ : en_S} : en_J (X_X2_layPath G q) 64 [l0, l1, l2, l3, l4, l5] [en_I a0, en_R a1] σ ↔ en_J (X_X2_layPath G q) 65 [l0, l1, l2, l3, l4, l5] [en_I 1, en_I a0, en_R a1] σ := ej_iconst d_X2_layPath_64 (by decide +kernel)
theorem d_X2_layPath_65 : decode cX2_layPath 65 = .ok (.iadd, 1) := by decide +kernel
theorem j_X2_layPath_65 {G : en_G} {q : Option en_V → en_S → Prop}  {l0 l1 l2 l3 l4 l5 : en_V} {a0 : Int32} {a1 : Int32} {a2 : Option Nat} {σ : en_S} : en_J (X_X2_layPath G q) 65 [l0, l1, l2, l3, l4, l5] [en_I a0, en_I a1, en_R a2] σ ↔ en_J (X_X2_layPath G q) 66 [l0, l1, l2, l3, l4, l5] [en_I (a1 + a0), en_R a2] σ := en_j1 d_X2_layPath_65 rfl ⟨rfl, trivial⟩
theorem d_X2_layPath_66 : decode cX2_layPath 66 = .ok (.putfield 48, 3) := by decide +kernel
theorem j_X2_layPath_66 {G : en_G} {q : Option en_V → en_S → Prop}  {l0 l1 l2 l3 l4 l5 : en_V} {a0 : Int32} {a1 : Option Nat} {σ : en_S} : en_J (X_X2_layPath G q) 66 [l0, l1, l2, l3, l4, l5] [en_I a0, en_R a1] σ ↔ ∃ a, a1 = some a ∧ en_cl σ a = some 2 ∧ en_J (X_X2_layPath G q) 69 [l0, l1, l2, l3, l4, l5] [] (en_sfi σ 202 a a0) := en_jg (st := fun o => [en_I a0, en_R o]) (st' := fun _ => []) (σ' := fun a => en_sfi σ 202 a a0) d_X2_layPath_66 rfl (fun a => rfl) (fun a => ⟨fun h => h.2.1, fun h => ⟨rfl, h, trivial, fun z => absurd z (by decide +kernel)⟩⟩)
theorem d_X2_layPath_69 : decode cX2_layPath 69 = .ok (.aload 4, 2) := by decide +kernel
theorem j_X2_layPath_69 {G : en_G} {q : Option en_V → en_S → Prop}  {l0 l1 l2 l3 l5 : en_V} {x4 : Option Nat} {σ : en_S} : en_J (X_X2_layPath G q) 69 [l0, l1, l2, l3, en_R x4, l5] [] σ ↔ en_J (X_X2_layPath G q) 71 [l0, l1, l2, l3, en_R x4, l5] [en_R x4] σ := en_j1 d_X2_layPath_69 rfl rfl
theorem d_X2_layPath_71 : decode cX2_layPath 71 = .ok (.aload_n 2, 1) := by decide +kernel
theorem j_X2_layPath_71 {G : en_G} {q : Option en_V → en_S → Prop}  {l0 l1 l3 l4 l5 : en_V} {a0 : Option Nat} {x2 : Option Nat} {σ : en_S} : en_J (X_X2_layPath G q) 71 [l0, l1, en_R x2, l3, l4, l5] [en_R a0] σ ↔ en_J (X_X2_layPath G q) 72 [l0, l1, en_R x2, l3, l4, l5] [en_R x2, en_R a0] σ := en_j1 d_X2_layPath_71 rfl rfl
theorem d_X2_layPath_72 : decode cX2_layPath 72 = .ok (.if_acmp .ne 7, 3) := by decide +kernel
theorem j_X2_layPath_72 {G : en_G} {q : Option en_V → en_S → Prop}  {l0 l1 l2 l3 l4 l5 : en_V} {a0 : Option Nat} {a1 : Option Nat} {σ : en_S} : en_J (X_X2_layPath G q) 72 [l0, l1, l2, l3, l4, l5] [en_R a0, en_R a1] σ ↔ (¬ a1 = a0 → en_J (X_X2_layPath G q) 79 [l0, l1, l2, l3, l4, l5] [] σ) ∧ (¬ (¬ a1 = a0) → en_J (X_X2_layPath G q) 75 [l0, l1, l2, l3, l4, l5] [] σ) := en_jb d_X2_layPath_72 rfl ⟨rfl, by decide⟩
theorem d_X2_layPath_75 : decode cX2_layPath 75 = .ok (.aconst_null, 1) := by decide +kernel
theorem j_X2_layPath_75 {G : en_G} {q : Option en_V → en_S → Prop}  {l0 l1 l2 l3 l4 l5 : en_V}  {σ : en_S} : en_J (X_X2_layPath G q) 75 [l0, l1, l2, l3, l4, l5] [] σ ↔ en_J (X_X2_layPath G q) 76 [l0, l1, l2, l3, l4, l5] [en_R none] σ := en_j1 d_X2_layPath_75 rfl rfl
theorem d_X2_layPath_76 : decode cX2_layPath 76 = .ok (.goto 8, 3) := by decide +kernel
theorem j_X2_layPath_76 {G : en_G} {q : Option en_V → en_S → Prop}  {l0 l1 l2 l3 l4 l5 : en_V} {a0 : Option Nat} {σ : en_S} : en_J (X_X2_layPath G q) 76 [l0, l1, l2, l3, l4, l5] [en_R a0] σ ↔ en_J (X_X2_layPath G q) 84 [l0, l1, l2, l3, l4, l5] [en_R a0] σ := en_j1 d_X2_layPath_76 rfl ⟨rfl, by decide⟩
theorem d_X2_layPath_79 : decode cX2_layPath 79 = .ok (.aload 4, 2) := by decide +kernel
theorem j_X2_layPath_79 {G : en_G} {q : Option en_V → en_S → Prop}  {l0 l1 l2 l3 l5 : en_V} {x4 : Option Nat} {σ : en_S} : en_J (X_X2_layPath G q) 79 [l0, l1, l2, l3, en_R x4, l5] [] σ ↔ en_J (X_X2_layPath G q) 81 [l0, l1, l2, l3, en_R x4, l5] [en_R x4] σ := en_j1 d_X2_layPath_79 rfl rfl
theorem d_X2_layPath_81 : decode cX2_layPath 81 = .ok (.invokestatic 55, 3) := by decide +kernel
theorem j_X2_layPath_81 {G : en_G} {q : Option en_V → en_S → Prop}  {l0 l1 l2 l3 l4 l5 : en_V} {a0 : Option Nat} {σ : en_S} : en_J (X_X2_layPath G q) 81 [l0, l1, l2, l3, l4, l5] [en_R a0] σ ↔ (C_X2_nextOnPath G).1 [en_R a0] σ ∧ ∀ (r : Option en_V) (σ' : en_S), (C_X2_nextOnPath G).2 [en_R a0] σ r σ' → en_J (X_X2_layPath G q) 84 [l0, l1, l2, l3, l4, l5] (r.toList ++ []) σ' := en_jkC (C := (C_X2_nextOnPath G)) (n' := 1) (k := 0) (idx := 55) d_X2_layPath_81 rfl rfl (by decide) (Nat.le_of_ble_eq_true rfl) (Nat.le_of_ble_eq_true rfl)
theorem d_X2_layPath_84 : decode cX2_layPath 84 = .ok (.astore 4, 2) := by decide +kernel
theorem j_X2_layPath_84 {G : en_G} {q : Option en_V → en_S → Prop}  {l0 l1 l2 l3 l4 l5 : en_V} {a0 : Option Nat} {σ : en_S} : en_J (X_X2_layPath G q) 84 [l0, l1, l2, l3, l4, l5] [en_R a0] σ ↔ en_J (X_X2_layPath G q) 86 [l0, l1, l2, en_c2 l3, en_R a0, l5] [] σ := en_j1 d_X2_layPath_84 rfl ⟨rfl, Nat.le_of_ble_eq_true rfl⟩
theorem d_X2_layPath_86 : decode cX2_layPath 86 = .ok (.iinc 5 1, 3) := by decide +kernel
theorem j_X2_layPath_86 {G : en_G} {q : Option en_V → en_S → Prop}  {l0 l1 l2 l3 l4 : en_V} {x5 : Int32} {σ : en_S} : en_J (X_X2_layPath G q) 86 [l0, l1, l2, l3, l4, en_I x5] [] σ ↔ en_J (X_X2_layPath G q) 89 [l0, l1, l2, l3, en_c2 l4, en_I (x5 + 1)] [] σ := ej_iinc d_X2_layPath_86 rfl (by decide +kernel) rfl
theorem d_X2_layPath_89 : decode cX2_layPath 89 = .ok (.goto (-76), 3) := by decide +kernel
theorem j_X2_layPath_89 {G : en_G} {q : Option en_V → en_S → Prop}  {l0 l1 l2 l3 l4 l5 : en_V}  {σ : en_S} : en_J (X_X2_layPath G q) 89 [l0, l1, l2, l3, l4, l5] [] σ ↔ en_J (X_X2_layPath G q) 13 [l0, l1, l2, l3, l4, l5] [] σ := en_j1 d_X2_layPath_89 rfl ⟨rfl, by decide⟩
theorem d_X2_layPath_92 : decode cX2_layPath 92 = .ok (.return_, 1) := by decide +kernel
theorem j_X2_layPath_92 {G : en_G} {q : Option en_V → en_S → Prop}  {l0 l1 l2 l3 l4 l5 : en_V}  {σ : en_S} : en_J (X_X2_layPath G q) 92 [l0, l1, l2, l3, l4, l5] [] σ ↔ q none σ := en_jr d_X2_layPath_92 rfl ⟨fun h => h.2.2, fun h => ⟨rfl, rfl, h⟩⟩
theorem wc_X2_layPath : Jvm.Cond.code yX2_layPath cX2_layPath 6 none ∈ en_W := en_inW (List.mem_of_getElem? (i := 385) (by decide +kernel)) (by decide +kernel)
theorem wi_X2_layPath : Jvm.Cond.instanceMethod yX2_layPath ∈ en_W := en_inW (List.mem_of_getElem? (i := 383) (by decide +kernel)) (by decide +kernel)
theorem wx_X2_layPath : Jvm.Cond.selects RX2 yX2_layPath yX2_layPath ∈ en_W := en_inW (List.mem_of_getElem? (i := 384) (by decide +kernel)) (by decide +kernel)
theorem jw_X2_layPath {G : en_G} {q : Option en_V → en_S → Prop} {x : Nat} {na la ba : Nat → Nat} {rm : Nat} {A : st_A} {d : Nat} {last : Option Nat} {o1 : Option Nat} (hd : d < 4) (hlast : ∀ n, last = some n → n < tr_N (sa_T A)) : ∀ (j k : Nat) (pre : List (Nat × Nat)) (cur : Option Nat) (tg : Nat) (σ : en_S), CX G x na la ba rm A σ → k + j = 24 → pre.length = k → ev_path na (x + 32 + 3 * d) pre σ → (∀ n, cur = some n → n < tr_N (sa_T A)) → tg < tr_N (sa_T A) → (∀ σ', ev_path na (x + 32 + 3 * d) (pre ++ ds_lay (sa_T A) last j cur tg) σ' → ag σ σ' (lyF (x + 32 + 3 * d)) (evV (x + 32 + 3 * d)) → sz σ σ' → q none σ') → en_J (X_X2_layPath G q) 13 [en_R (some (x + 32 + 3 * d)), en_R o1, en_R (last.map na), en_R (some (na tg)), en_R (cur.map na), en_I (nI k)] [] σ := by
  intro j
  induction j with
  | zero =>
    intro k pre cur tg σ hC hk hpre hp hcur htg hq
    have : k = 24 := by omega
    subst this
    have n1 : (24 : Int32) ≤ nI 24 := by decide +kernel
    rw [j_X2_layPath_13]
    simp only [j_X2_layPath_0, j_X2_layPath_1, j_X2_layPath_2, j_X2_layPath_3, j_X2_layPath_5, j_X2_layPath_6, j_X2_layPath_7, j_X2_layPath_10, j_X2_layPath_11, j_X2_layPath_15, j_X2_layPath_17, j_X2_layPath_20, j_X2_layPath_22, j_X2_layPath_25, j_X2_layPath_26, j_X2_layPath_29, j_X2_layPath_31, j_X2_layPath_34, j_X2_layPath_37, j_X2_layPath_38, j_X2_layPath_41, j_X2_layPath_43, j_X2_layPath_44, j_X2_layPath_45, j_X2_layPath_48, j_X2_layPath_50, j_X2_layPath_52, j_X2_layPath_53, j_X2_layPath_54, j_X2_layPath_57, j_X2_layPath_59, j_X2_layPath_60, j_X2_layPath_61, j_X2_layPath_62, j_X2_layPath_64, j_X2_layPath_65, j_X2_layPath_66, j_X2_layPath_69, j_X2_layPath_71, j_X2_layPath_72, j_X2_layPath_75, j_X2_layPath_76, j_X2_layPath_79, j_X2_layPath_81, j_X2_layPath_84, j_X2_layPath_86, j_X2_layPath_89, j_X2_layPath_92, en_c2I, en_c2R, en_c2U, en_c2D, Option.some.injEq, exists_eq_left', exists_eq_left, Option.map_some, Option.map_none, not_true_eq_false, false_implies, true_implies, and_true, true_and, reduceCtorEq, not_false_eq_true, n1]
    refine hq σ ?_ ag.rf sz.rf
    simpa [ds_lay] using hp
  | succ j ih =>
    intro k pre cur tg σ hC hk hpre hp hcur htg hq
    have n1 : ¬ (24 : Int32) ≤ nI k := by
      rw [show (24 : Int32) = nI 24 from by decide +kernel]
      exact nI_ge (by omega) (by decide)
    rw [j_X2_layPath_13]
    cases cur with
    | none =>
      simp only [j_X2_layPath_0, j_X2_layPath_1, j_X2_layPath_2, j_X2_layPath_3, j_X2_layPath_5, j_X2_layPath_6, j_X2_layPath_7, j_X2_layPath_10, j_X2_layPath_11, j_X2_layPath_15, j_X2_layPath_17, j_X2_layPath_20, j_X2_layPath_22, j_X2_layPath_25, j_X2_layPath_26, j_X2_layPath_29, j_X2_layPath_31, j_X2_layPath_34, j_X2_layPath_37, j_X2_layPath_38, j_X2_layPath_41, j_X2_layPath_43, j_X2_layPath_44, j_X2_layPath_45, j_X2_layPath_48, j_X2_layPath_50, j_X2_layPath_52, j_X2_layPath_53, j_X2_layPath_54, j_X2_layPath_57, j_X2_layPath_59, j_X2_layPath_60, j_X2_layPath_61, j_X2_layPath_62, j_X2_layPath_64, j_X2_layPath_65, j_X2_layPath_66, j_X2_layPath_69, j_X2_layPath_71, j_X2_layPath_72, j_X2_layPath_75, j_X2_layPath_76, j_X2_layPath_79, j_X2_layPath_81, j_X2_layPath_84, j_X2_layPath_86, j_X2_layPath_89, j_X2_layPath_92, en_c2I, en_c2R, en_c2U, en_c2D, Option.some.injEq, exists_eq_left', exists_eq_left, Option.map_some, Option.map_none, not_true_eq_false, false_implies, true_implies, and_true, true_and, reduceCtorEq, not_false_eq_true, n1]
      refine hq σ ?_ ag.rf sz.rf
      simpa [ds_lay] using hp
    | some y =>
      have hy := hcur y rfl
      have hR := hC.2.1
      have hw := hC.2.2.2.2.2.2.2.2.1.1
      obtain ⟨e1, e2, e3, e4, e5, e6⟩ := hC.1.2.2.2.2.1 d hd
      simp only [j_X2_layPath_0, j_X2_layPath_1, j_X2_layPath_2, j_X2_layPath_3, j_X2_layPath_5, j_X2_layPath_6, j_X2_layPath_7, j_X2_layPath_10, j_X2_layPath_11, j_X2_layPath_15, j_X2_layPath_17, j_X2_layPath_20, j_X2_layPath_22, j_X2_layPath_25, j_X2_layPath_26, j_X2_layPath_29, j_X2_layPath_31, j_X2_layPath_34, j_X2_layPath_37, j_X2_layPath_38, j_X2_layPath_41, j_X2_layPath_43, j_X2_layPath_44, j_X2_layPath_45, j_X2_layPath_48, j_X2_layPath_50, j_X2_layPath_52, j_X2_layPath_53, j_X2_layPath_54, j_X2_layPath_57, j_X2_layPath_59, j_X2_layPath_60, j_X2_layPath_61, j_X2_layPath_62, j_X2_layPath_64, j_X2_layPath_65, j_X2_layPath_66, j_X2_layPath_69, j_X2_layPath_71, j_X2_layPath_72, j_X2_layPath_75, j_X2_layPath_76, j_X2_layPath_79, j_X2_layPath_81, j_X2_layPath_84, j_X2_layPath_86, j_X2_layPath_89, j_X2_layPath_92, en_c2I, en_c2R, en_c2U, en_c2D, Option.some.injEq, exists_eq_left', exists_eq_left, Option.map_some, Option.map_none, not_true_eq_false, false_implies, true_implies, and_true, true_and, reduceCtorEq, not_false_eq_true, n1]
      refine en_use (cu_X4_root hR hw htg) ?_
      rintro v σ' ⟨rfl, rfl⟩
      simp only [Option.toList, List.cons_append, List.nil_append, j_X2_layPath_0, j_X2_layPath_1, j_X2_layPath_2, j_X2_layPath_3, j_X2_layPath_5, j_X2_layPath_6, j_X2_layPath_7, j_X2_layPath_10, j_X2_layPath_11, j_X2_layPath_15, j_X2_layPath_17, j_X2_layPath_20, j_X2_layPath_22, j_X2_layPath_25, j_X2_layPath_26, j_X2_layPath_29, j_X2_layPath_31, j_X2_layPath_34, j_X2_layPath_37, j_X2_layPath_38, j_X2_layPath_41, j_X2_layPath_43, j_X2_layPath_44, j_X2_layPath_45, j_X2_layPath_48, j_X2_layPath_50, j_X2_layPath_52, j_X2_layPath_53, j_X2_layPath_54, j_X2_layPath_57, j_X2_layPath_59, j_X2_layPath_60, j_X2_layPath_61, j_X2_layPath_62, j_X2_layPath_64, j_X2_layPath_65, j_X2_layPath_66, j_X2_layPath_69, j_X2_layPath_71, j_X2_layPath_72, j_X2_layPath_75, j_X2_layPath_76, j_X2_layPath_79, j_X2_layPath_81, j_X2_layPath_84, j_X2_layPath_86, j_X2_layPath_89, j_X2_layPath_92, en_c2I, en_c2R, en_c2U, en_c2D, Option.some.injEq, exists_eq_left', exists_eq_left, Option.map_some, Option.map_none, not_true_eq_false, false_implies, true_implies, and_true, true_and, reduceCtorEq, not_false_eq_true]
      refine en_use (cu_X4_isAtOrOver hR hw (tr_root_lt hw htg) hy) ?_
      rintro v σ' ⟨rfl, rfl⟩
      have i1 : ¬ (1 : Int32) = 0 := by decide
      have n3 : vp_in (nI k) 24 := vp_in_nI (by omega) (by decide)
      have n4 : (nI k).toNatClampNeg = k := nI_clamp (by omega)
      have n5 : nI k + 1 = nI (k + 1) := nI_1 _
      have main : ∀ tg' : Nat, tg' < tr_N (sa_T A) → tg' = (if tr_over (sa_T A) (tr_root (sa_T A) tg) y then tg else y) → en_J (X_X2_layPath G q) 43 [en_R (some (x + 32 + 3 * d)), en_R o1, en_R (last.map na), en_R (some (na tg)), en_R (some (na y)), en_I (nI k)] [en_R (some (na tg'))] σ' := by
        intro tg' htg' he
        have hcl4 : ∀ b, na y = b → en_cl σ' b = some (en_ec 4) := fun b hb => by rw [← hb]; exact (hR.1 y hy).1
        have hcl5 : ∀ b, na tg' = b → en_cl σ' b = some (en_ec 4) := fun b hb => by rw [← hb]; exact (hR.1 tg' htg').1
        have d1 : ¬ x + 33 + 3 * d = x + 34 + 3 * d := by omega
        have g1 : ag σ' (en_sfi (en_sar (en_sar σ' (x + 33 + 3 * d) k (some (na y))) (x + 34 + 3 * d) k (some (na tg'))) 202 (x + 32 + 3 * d) (nI (k + 1))) (lyF (x + 32 + 3 * d)) (evV (x + 32 + 3 * d)) := ((ag_sar (fun z => by unfold evV at z; omega)).tr (ag_sar (fun z => by unfold evV at z; omega))).tr (ag_sfi (fun b z => by unfold lyF at z; omega))
        have hC1 := cx_ev (σ' := en_sfi (en_sar (en_sar σ' (x + 33 + 3 * d) k (some (na y))) (x + 34 + 3 * d) k (some (na tg'))) 202 (x + 32 + 3 * d) (nI (k + 1))) hC (by omega) (ly_ev g1) ⟨rfl, rfl, rfl, rfl⟩
        have hp1 : ev_path na (x + 32 + 3 * d) (pre ++ [(y, tg')]) (en_sfi (en_sar (en_sar σ' (x + 33 + 3 * d) k (some (na y))) (x + 34 + 3 * d) k (some (na tg'))) 202 (x + 32 + 3 * d) (nI (k + 1))) := by
          refine ⟨?_, fun i e hi => ?_⟩
          · rw [eg_fi_sfi, if_pos ⟨rfl, rfl⟩, List.length_append, hpre]; rfl
          · simp only [eg_ar_sfi, eg_ar_sar]
            by_cases hik : i = k
            · subst hik
              rw [List.getElem?_append_right (by omega), hpre, Nat.sub_self] at hi
              simp at hi
              subst hi
              refine ⟨?_, ?_⟩
              · rw [if_neg (by omega), if_pos ⟨by omega, rfl⟩]
              · rw [if_pos ⟨by omega, rfl⟩]
            · have hlt : i < pre.length := by
                have := (List.getElem?_eq_some_iff.mp hi).1
                rw [List.length_append, List.length_singleton] at this
                omega
              rw [List.getElem?_append_left hlt] at hi
              obtain ⟨p1, p2⟩ := hp.2 i e hi
              rw [if_neg (by omega), if_neg (by omega), if_neg (by omega), if_neg (by omega)]
              exact ⟨p1, p2⟩
        have hnext : ∀ cur' : Option Nat, cur' = (if last = some y then none else ds_nxt (sa_T A) y) → en_J (X_X2_layPath G q) 84 [en_R (some (x + 32 + 3 * d)), en_R o1, en_R (last.map na), en_R (some (na tg')), en_R (some (na y)), en_I (nI k)] [en_R (cur'.map na)] (en_sfi (en_sar (en_sar σ' (x + 33 + 3 * d) k (some (na y))) (x + 34 + 3 * d) k (some (na tg'))) 202 (x + 32 + 3 * d) (nI (k + 1))) := by
          intro cur' hc'
          simp only [j_X2_layPath_0, j_X2_layPath_1, j_X2_layPath_2, j_X2_layPath_3, j_X2_layPath_5, j_X2_layPath_6, j_X2_layPath_7, j_X2_layPath_10, j_X2_layPath_11, j_X2_layPath_15, j_X2_layPath_17, j_X2_layPath_20, j_X2_layPath_22, j_X2_layPath_25, j_X2_layPath_26, j_X2_layPath_29, j_X2_layPath_31, j_X2_layPath_34, j_X2_layPath_37, j_X2_layPath_38, j_X2_layPath_41, j_X2_layPath_43, j_X2_layPath_44, j_X2_layPath_45, j_X2_layPath_48, j_X2_layPath_50, j_X2_layPath_52, j_X2_layPath_53, j_X2_layPath_54, j_X2_layPath_57, j_X2_layPath_59, j_X2_layPath_60, j_X2_layPath_61, j_X2_layPath_62, j_X2_layPath_64, j_X2_layPath_65, j_X2_layPath_66, j_X2_layPath_69, j_X2_layPath_71, j_X2_layPath_72, j_X2_layPath_75, j_X2_layPath_76, j_X2_layPath_79, j_X2_layPath_81, j_X2_layPath_84, j_X2_layPath_86, j_X2_layPath_89, j_X2_layPath_92, en_c2I, en_c2R, en_c2U, en_c2D, Option.some.injEq, exists_eq_left', exists_eq_left, Option.map_some, Option.map_none, not_true_eq_false, false_implies, true_implies, and_true, true_and, reduceCtorEq, not_false_eq_true, n5]
          refine ih (k + 1) (pre ++ [(y, tg')]) cur' tg' _ hC1 (by omega) (by rw [List.length_append, hpre]; rfl) hp1 ?_ htg' ?_
          · intro n hn
            rw [hn] at hc'
            split at hc'
            · cases hc'
            · exact ds_nxt_lt hw hy hc'.symm
          · intro σ'' h1 h2 h3
            refine hq σ'' ?_ (g1.tr h2) (sz.tr ⟨rfl, rfl, rfl, rfl⟩ h3)
            rw [List.append_assoc] at h1
            simp only [ds_lay]
            rw [← he, ← hc']
            exact h1
        by_cases hl2 : last = some y
        · have hz : (some (na y) = last.map na) = True := eq_true (by rw [hl2]; rfl)
          simp only [Option.toList, List.cons_append, List.nil_append, j_X2_layPath_0, j_X2_layPath_1, j_X2_layPath_2, j_X2_layPath_3, j_X2_layPath_5, j_X2_layPath_6, j_X2_layPath_7, j_X2_layPath_10, j_X2_layPath_11, j_X2_layPath_15, j_X2_layPath_17, j_X2_layPath_20, j_X2_layPath_22, j_X2_layPath_25, j_X2_layPath_26, j_X2_layPath_29, j_X2_layPath_31, j_X2_layPath_34, j_X2_layPath_37, j_X2_layPath_38, j_X2_layPath_41, j_X2_layPath_43, j_X2_layPath_44, j_X2_layPath_45, j_X2_layPath_48, j_X2_layPath_50, j_X2_layPath_52, j_X2_layPath_53, j_X2_layPath_54, j_X2_layPath_57, j_X2_layPath_59, j_X2_layPath_60, j_X2_layPath_61, j_X2_layPath_62, j_X2_layPath_64, j_X2_layPath_65, j_X2_layPath_66, j_X2_layPath_69, j_X2_layPath_71, j_X2_layPath_72, j_X2_layPath_75, j_X2_layPath_76, j_X2_layPath_79, j_X2_layPath_81, j_X2_layPath_86, j_X2_layPath_89, j_X2_layPath_92, en_c2I, en_c2R, en_c2U, en_c2D, Option.some.injEq, exists_eq_left', exists_eq_left, Option.map_some, Option.map_none, not_true_eq_false, false_implies, true_implies, and_true, true_and, reduceCtorEq, not_false_eq_true, eg_cl_sfi, eg_fi_sfi, eg_fr_sfi, eg_fd_sfi, eg_al_sfi, eg_ai_sfi, eg_ar_sfi, eg_ad_sfi, eg_aj_sfi, eg_nx_sfi, eg_ns_sfi, eg_cl_sfr, eg_fi_sfr, eg_fr_sfr, eg_fd_sfr, eg_al_sfr, eg_ai_sfr, eg_ar_sfr, eg_ad_sfr, eg_aj_sfr, eg_nx_sfr, eg_ns_sfr, eg_cl_sfd, eg_fi_sfd, eg_fr_sfd, eg_fd_sfd, eg_al_sfd, eg_ai_sfd, eg_ar_sfd, eg_ad_sfd, eg_aj_sfd, eg_nx_sfd, eg_ns_sfd, eg_cl_sai, eg_fi_sai, eg_fr_sai, eg_fd_sai, eg_al_sai, eg_ai_sai, eg_ar_sai, eg_ad_sai, eg_aj_sai, eg_nx_sai, eg_ns_sai, eg_cl_sar, eg_fi_sar, eg_fr_sar, eg_fd_sar, eg_al_sar, eg_ai_sar, eg_ar_sar, eg_ad_sar, eg_aj_sar, eg_nx_sar, eg_ns_sar, eg_cl_sad, eg_fi_sad, eg_fr_sad, eg_fd_sad, eg_al_sad, eg_ai_sad, eg_ar_sad, eg_ad_sad, eg_aj_sad, eg_nx_sad, eg_ns_sad, eg_cl_saj, eg_fi_saj, eg_fr_saj, eg_fd_saj, eg_al_saj, eg_ai_saj, eg_ar_saj, eg_ad_saj, eg_aj_saj, eg_nx_saj, eg_ns_saj, eg_cl_new, eg_fi_new, eg_fr_new, eg_fd_new, eg_al_new, eg_ai_new, eg_ar_new, eg_ad_new, eg_aj_new, eg_nx_new, eg_ns_new, eg_cl_newa, eg_fi_newa, eg_fr_newa, eg_fd_newa, eg_al_newa, eg_ai_newa, eg_ar_newa, eg_ad_newa, eg_aj_newa, eg_nx_newa, eg_ns_newa, eg_cl_bump, eg_fi_bump, eg_fr_bump, eg_fd_bump, eg_al_bump, eg_ai_bump, eg_ar_bump, eg_ad_bump, eg_aj_bump, eg_nx_bump, eg_ns_bump, e2, e3, e4, e5, e6, Prod.mk.injEq, n4, n5, hz]
          exact ⟨⟨4, 24, ⟨rfl, rfl⟩, by decide, n3, hcl4⟩, ⟨4, 24, ⟨rfl, rfl⟩, by decide, n3, hcl5⟩, hnext none (by rw [if_pos hl2])⟩
        · have hz : (some (na y) = last.map na) = False := eq_false (fun hl => hl2 (by
            cases hlz : last with
            | none => rw [hlz] at hl; simp at hl
            | some z =>
              rw [hlz] at hl
              simp only [Option.map_some, Option.some.injEq] at hl
              rw [hR.2 y z hy (hlast z hlz) hl]))
          simp only [Option.toList, List.cons_append, List.nil_append, j_X2_layPath_0, j_X2_layPath_1, j_X2_layPath_2, j_X2_layPath_3, j_X2_layPath_5, j_X2_layPath_6, j_X2_layPath_7, j_X2_layPath_10, j_X2_layPath_11, j_X2_layPath_15, j_X2_layPath_17, j_X2_layPath_20, j_X2_layPath_22, j_X2_layPath_25, j_X2_layPath_26, j_X2_layPath_29, j_X2_layPath_31, j_X2_layPath_34, j_X2_layPath_37, j_X2_layPath_38, j_X2_layPath_41, j_X2_layPath_43, j_X2_layPath_44, j_X2_layPath_45, j_X2_layPath_48, j_X2_layPath_50, j_X2_layPath_52, j_X2_layPath_53, j_X2_layPath_54, j_X2_layPath_57, j_X2_layPath_59, j_X2_layPath_60, j_X2_layPath_61, j_X2_layPath_62, j_X2_layPath_64, j_X2_layPath_65, j_X2_layPath_66, j_X2_layPath_69, j_X2_layPath_71, j_X2_layPath_72, j_X2_layPath_75, j_X2_layPath_76, j_X2_layPath_79, j_X2_layPath_81, j_X2_layPath_86, j_X2_layPath_89, j_X2_layPath_92, en_c2I, en_c2R, en_c2U, en_c2D, Option.some.injEq, exists_eq_left', exists_eq_left, Option.map_some, Option.map_none, not_true_eq_false, false_implies, true_implies, and_true, true_and, reduceCtorEq, not_false_eq_true, eg_cl_sfi, eg_fi_sfi, eg_fr_sfi, eg_fd_sfi, eg_al_sfi, eg_ai_sfi, eg_ar_sfi, eg_ad_sfi, eg_aj_sfi, eg_nx_sfi, eg_ns_sfi, eg_cl_sfr, eg_fi_sfr, eg_fr_sfr, eg_fd_sfr, eg_al_sfr, eg_ai_sfr, eg_ar_sfr, eg_ad_sfr, eg_aj_sfr, eg_nx_sfr, eg_ns_sfr, eg_cl_sfd, eg_fi_sfd, eg_fr_sfd, eg_fd_sfd, eg_al_sfd, eg_ai_sfd, eg_ar_sfd, eg_ad_sfd, eg_aj_sfd, eg_nx_sfd, eg_ns_sfd, eg_cl_sai, eg_fi_sai, eg_fr_sai, eg_fd_sai, eg_al_sai, eg_ai_sai, eg_ar_sai, eg_ad_sai, eg_aj_sai, eg_nx_sai, eg_ns_sai, eg_cl_sar, eg_fi_sar, eg_fr_sar, eg_fd_sar, eg_al_sar, eg_ai_sar, eg_ar_sar, eg_ad_sar, eg_aj_sar, eg_nx_sar, eg_ns_sar, eg_cl_sad, eg_fi_sad, eg_fr_sad, eg_fd_sad, eg_al_sad, eg_ai_sad, eg_ar_sad, eg_ad_sad, eg_aj_sad, eg_nx_sad, eg_ns_sad, eg_cl_saj, eg_fi_saj, eg_fr_saj, eg_fd_saj, eg_al_saj, eg_ai_saj, eg_ar_saj, eg_ad_saj, eg_aj_saj, eg_nx_saj, eg_ns_saj, eg_cl_new, eg_fi_new, eg_fr_new, eg_fd_new, eg_al_new, eg_ai_new, eg_ar_new, eg_ad_new, eg_aj_new, eg_nx_new, eg_ns_new, eg_cl_newa, eg_fi_newa, eg_fr_newa, eg_fd_newa, eg_al_newa, eg_ai_newa, eg_ar_newa, eg_ad_newa, eg_aj_newa, eg_nx_newa, eg_ns_newa, eg_cl_bump, eg_fi_bump, eg_fr_bump, eg_fd_bump, eg_al_bump, eg_ai_bump, eg_ar_bump, eg_ad_bump, eg_aj_bump, eg_nx_bump, eg_ns_bump, e2, e3, e4, e5, e6, Prod.mk.injEq, n4, n5, hz]
          refine ⟨⟨4, 24, ⟨rfl, rfl⟩, by decide, n3, hcl4⟩, ⟨4, 24, ⟨rfl, rfl⟩, by decide, n3, hcl5⟩, ?_⟩
          refine en_use (cu_X2_nextOnPath ⟨hC1.2.1, hw, hy⟩) ?_
          rintro v σ'' ⟨rfl, rfl⟩
          exact hnext (ds_nxt (sa_T A) y) (by rw [if_neg hl2])
      cases hov : tr_over (sa_T A) (tr_root (sa_T A) tg) y with
      | true =>
        have := main tg htg (by rw [hov]; rfl)
        simp only [Option.toList, List.cons_append, List.nil_append, j_X2_layPath_0, j_X2_layPath_1, j_X2_layPath_2, j_X2_layPath_3, j_X2_layPath_5, j_X2_layPath_6, j_X2_layPath_7, j_X2_layPath_10, j_X2_layPath_11, j_X2_layPath_15, j_X2_layPath_17, j_X2_layPath_20, j_X2_layPath_22, j_X2_layPath_25, j_X2_layPath_26, j_X2_layPath_29, j_X2_layPath_31, j_X2_layPath_34, j_X2_layPath_37, j_X2_layPath_38, j_X2_layPath_41, j_X2_layPath_44, j_X2_layPath_45, j_X2_layPath_48, j_X2_layPath_50, j_X2_layPath_52, j_X2_layPath_53, j_X2_layPath_54, j_X2_layPath_57, j_X2_layPath_59, j_X2_layPath_60, j_X2_layPath_61, j_X2_layPath_62, j_X2_layPath_64, j_X2_layPath_65, j_X2_layPath_66, j_X2_layPath_69, j_X2_layPath_71, j_X2_layPath_72, j_X2_layPath_75, j_X2_layPath_76, j_X2_layPath_79, j_X2_layPath_81, j_X2_layPath_84, j_X2_layPath_86, j_X2_layPath_89, j_X2_layPath_92, en_c2I, en_c2R, en_c2U, en_c2D, Option.some.injEq, exists_eq_left', exists_eq_left, Option.map_some, Option.map_none, not_true_eq_false, false_implies, true_implies, and_true, true_and, reduceCtorEq, not_false_eq_true, st_bt, i1]
        exact this
      | false =>
        have := main y hy (by rw [hov]; rfl)
        simp only [Option.toList, List.cons_append, List.nil_append, j_X2_layPath_0, j_X2_layPath_1, j_X2_layPath_2, j_X2_layPath_3, j_X2_layPath_5, j_X2_layPath_6, j_X2_layPath_7, j_X2_layPath_10, j_X2_layPath_11, j_X2_layPath_15, j_X2_layPath_17, j_X2_layPath_20, j_X2_layPath_22, j_X2_layPath_25, j_X2_layPath_26, j_X2_layPath_29, j_X2_layPath_31, j_X2_layPath_34, j_X2_layPath_37, j_X2_layPath_38, j_X2_layPath_41, j_X2_layPath_44, j_X2_layPath_45, j_X2_layPath_48, j_X2_layPath_50, j_X2_layPath_52, j_X2_layPath_53, j_X2_layPath_54, j_X2_layPath_57, j_X2_layPath_59, j_X2_layPath_60, j_X2_layPath_61, j_X2_layPath_62, j_X2_layPath_64, j_X2_layPath_65, j_X2_layPath_66, j_X2_layPath_69, j_X2_layPath_71, j_X2_layPath_72, j_X2_layPath_75, j_X2_layPath_76, j_X2_layPath_79, j_X2_layPath_81, j_X2_layPath_84, j_X2_layPath_86, j_X2_layPath_89, j_X2_layPath_92, en_c2I, en_c2R, en_c2U, en_c2D, Option.some.injEq, exists_eq_left', exists_eq_left, Option.map_some, Option.map_none, not_true_eq_false, false_implies, true_implies, and_true, true_and, reduceCtorEq, not_false_eq_true, st_bf]
        exact this
theorem jl_X2_layPath {G : en_G}  {x : Nat} {na : Nat → Nat} {la : Nat → Nat} {ba : Nat → Nat} {rm : Nat} {A : st_A} {d : Nat} {t : Nat} {last : Option Nat} {σ : en_S} (hp : CX G x na la ba rm A σ ∧ d < 4 ∧ t < tr_N (sa_T A) ∧ (∀ n, last = some n → n < tr_N (sa_T A))) : en_J (X_X2_layPath G (fun v σ' => v = none ∧ ev_path na (x + 32 + 3 * d) (ds_lay (sa_T A) last 24 (some t) t) σ' ∧ ag σ σ' (lyF (x + 32 + 3 * d)) (evV (x + 32 + 3 * d)) ∧ sz σ σ')) 0 [en_R (some (x + 32 + 3 * d)), en_R (some (na t)), en_R (last.map na), en_U, en_U, en_U] [] σ := by
  obtain ⟨hC, hd, ht, hl⟩ := hp
  obtain ⟨e1, e2, e3, e4, e5, e6⟩ := hC.1.2.2.2.2.1 d hd
  have g0 : ag σ (en_sfi σ 202 (x + 32 + 3 * d) 0) (lyF (x + 32 + 3 * d)) (evV (x + 32 + 3 * d)) := ag_sfi (fun b z => by unfold lyF at z; omega)
  have hC' := cx_ev (σ' := en_sfi σ 202 (x + 32 + 3 * d) 0) hC (by omega) (ly_ev g0) ⟨rfl, rfl, rfl, rfl⟩
  have hj := jw_X2_layPath (q := fun v σ' => v = none ∧ ev_path na (x + 32 + 3 * d) (ds_lay (sa_T A) last 24 (some t) t) σ' ∧ ag σ σ' (lyF (x + 32 + 3 * d)) (evV (x + 32 + 3 * d)) ∧ sz σ σ') (o1 := some (na t)) hd hl 24 0 [] (some t) t (en_sfi σ 202 (x + 32 + 3 * d) 0) hC' (by decide) rfl ⟨by rw [eg_fi_sfi, if_pos ⟨rfl, rfl⟩]; decide +kernel, fun k e z => by simp at z⟩ (fun n z => by cases z; exact ht) ht (fun σ' h1 h2 h3 => ⟨rfl, h1, g0.tr h2, sz.tr ⟨rfl, rfl, rfl, rfl⟩ h3⟩)
  rw [show nI 0 = 0 from by decide +kernel] at hj
  simp only [j_X2_layPath_0, j_X2_layPath_1, j_X2_layPath_2, j_X2_layPath_3, j_X2_layPath_5, j_X2_layPath_6, j_X2_layPath_7, j_X2_layPath_10, j_X2_layPath_11, j_X2_layPath_15, j_X2_layPath_17, j_X2_layPath_20, j_X2_layPath_22, j_X2_layPath_25, j_X2_layPath_26, j_X2_layPath_29, j_X2_layPath_31, j_X2_layPath_34, j_X2_layPath_37, j_X2_layPath_38, j_X2_layPath_41, j_X2_layPath_43, j_X2_layPath_44, j_X2_layPath_45, j_X2_layPath_48, j_X2_layPath_50, j_X2_layPath_52, j_X2_layPath_53, j_X2_layPath_54, j_X2_layPath_57, j_X2_layPath_59, j_X2_layPath_60, j_X2_layPath_61, j_X2_layPath_62, j_X2_layPath_64, j_X2_layPath_65, j_X2_layPath_66, j_X2_layPath_69, j_X2_layPath_71, j_X2_layPath_72, j_X2_layPath_75, j_X2_layPath_76, j_X2_layPath_79, j_X2_layPath_81, j_X2_layPath_84, j_X2_layPath_86, j_X2_layPath_89, j_X2_layPath_92, en_c2I, en_c2R, en_c2U, en_c2D, Option.some.injEq, exists_eq_left', exists_eq_left, Option.map_some, Option.map_none, not_true_eq_false, false_implies, true_implies, and_true, true_and, reduceCtorEq, not_false_eq_true, e2]
  exact hj
theorem jp_X2_layPath {G : en_G}  : ∀ as σ, (C_X2_layPath G).1 as σ → (en_lc as).length ≤ 6 ∧ en_J (X_X2_layPath G (fun r σ' => (C_X2_layPath G).2 as σ r σ')) 0 (en_loc 6 as) [] σ := en_ghJ (fun g as σ h => by
  obtain ⟨hp, h2⟩ := h
  subst h2
  exact ⟨Nat.le_of_ble_eq_true rfl, jl_X2_layPath hp⟩)
theorem wl_X2_layPath_40 : Jvm.Cond.methodLink RX2 40 yX4_root ∈ en_W := en_inW (List.mem_of_getElem? (i := 378) (by decide +kernel)) (by decide +kernel)
theorem wl_X2_layPath_51 : Jvm.Cond.methodLink RX2 51 yX4_isAtOrOver ∈ en_W := en_inW (List.mem_of_getElem? (i := 386) (by decide +kernel)) (by decide +kernel)
theorem wl_X2_layPath_55 : Jvm.Cond.methodLink RX2 55 yX2_nextOnPath ∈ en_W := en_inW (List.mem_of_getElem? (i := 390) (by decide +kernel)) (by decide +kernel)
theorem ok_X2_layPath {G : en_G}  : en_Ok G 4 yX2_layPath cX2_layPath 6 none (C_X2_layPath G) :=
  en_met (own := RX2) (fl := en_lk fl2) (nw := en_lk nw2) (aw := en_lk aw2) (dc := en_lk dc2) (ca := en_lk (ca_X2_layPath G)) (rt := 0) (ini := false) (by decide +kernel) (Or.inl ⟨rfl, rfl⟩) (fun h => by cases h) rfl (fun q => en_LkF fl2_ok nw2_ok aw2_ok dc2_ok) (by
    intro idx q hq
    have hm := en_lk_mem hq
    simp only [ca_X2_layPath, List.mem_cons, Prod.mk.injEq, List.not_mem_nil, or_false] at hm
    rcases hm with ⟨rfl, rfl⟩ | ⟨rfl, rfl⟩ | ⟨rfl, rfl⟩
    · exact en_clV (r := (RX4, TX4, 12)) 4 0 ok_X4_root (by decide) (by decide) rfl rfl pr_X4_root wl_X2_layPath_40 wi_X4_root wx_X4_root wz_4 wc_X4_root ⟨by decide +kernel, by decide +kernel, by decide +kernel⟩
    · exact en_clV (r := (RX4, TX4, 12)) 4 1 ok_X4_isAtOrOver (by decide) (by decide) rfl rfl pr_X4_isAtOrOver wl_X2_layPath_51 wi_X4_isAtOrOver wx_X4_isAtOrOver wz_4 wc_X4_isAtOrOver ⟨by decide +kernel, by decide +kernel, by decide +kernel⟩
    · exact en_clS 1 ok_X2_nextOnPath (by decide) (by decide) pr_X2_nextOnPath wl_X2_layPath_55 ws_X2_nextOnPath wz_2 wc_X2_nextOnPath ⟨by decide +kernel, by decide +kernel, by decide +kernel⟩) jp_X2_layPath
def P_X2_begin (G : en_G)  (g : (Nat) × (Nat → Nat) × (Nat → Nat) × (Nat → Nat) × (Nat) × (st_A) × (Nat) × (Nat) × (Int32) × (Nat)) (as : List en_V) (σ : en_S) : Prop := (CX G (g.1) (g.2.1) (g.2.2.1) (g.2.2.2.1) (g.2.2.2.2.1) (g.2.2.2.2.2.1) σ ∧ (g.2.2.2.2.2.2.1) < 4 ∧ (g.2.2.2.2.2.2.2.1) < tr_N (sa_T (g.2.2.2.2.2.1)) ∧ (g.2.2.2.2.2.2.2.2.2) < 8) ∧ as = [en_R (some ((g.1) + 32 + 3 * (g.2.2.2.2.2.2.1))), en_R (some ((g.2.1) (g.2.2.2.2.2.2.2.1))), en_I (g.2.2.2.2.2.2.2.2.1), en_I (nI (g.2.2.2.2.2.2.2.2.2))]
def C_X2_begin (G : en_G)  : en_C := en_gh (P_X2_begin G) (fun g as σ v σ' => v = none ∧ ev_ok (g.2.1) ((g.1) + 32 + 3 * (g.2.2.2.2.2.2.1)) ((g.2.2.2.2.2.2.2.2.1), (g.2.2.2.2.2.2.2.2.2), ds_path (sa_T (g.2.2.2.2.2.1)) (g.2.2.2.2.2.2.2.1) (g.2.2.2.2.2.2.2.2.2)) σ' ∧ ev_fl ((g.1) + 32 + 3 * (g.2.2.2.2.2.2.1)) (false, false, false) σ' ∧ ag σ σ' (evF ((g.1) + 32 + 3 * (g.2.2.2.2.2.2.1))) (evV ((g.1) + 32 + 3 * (g.2.2.2.2.2.2.1))) ∧ sz σ σ')
theorem pr_X2_begin {G : en_G}  : ∀ as σ, (C_X2_begin G).1 as σ → ∃ b tl, as = en_R (some b) :: tl ∧ en_cl σ b = some 2 ∧ tl.length = 3 := fun as σ ⟨g, hp, h2⟩ => ⟨_, _, h2, (hp.1.1.2.2.2.2.1 _ hp.2.1).2.1, rfl⟩
theorem cu_X2_begin {G : en_G}  {x : Nat} {na : Nat → Nat} {la : Nat → Nat} {ba : Nat → Nat} {rm : Nat} {A : st_A} {d : Nat} {t : Nat} {ty : Int32} {fl : Nat} {σ : en_S} (hp : CX G x na la ba rm A σ ∧ d < 4 ∧ t < tr_N (sa_T A) ∧ fl < 8) : en_Us (C_X2_begin G) [en_R (some (x + 32 + 3 * d)), en_R (some (na t)), en_I ty, en_I (nI fl)] σ (fun v σ' => v = none ∧ ev_ok na (x + 32 + 3 * d) (ty, fl, ds_path (sa_T A) t fl) σ' ∧ ev_fl (x + 32 + 3 * d) (false, false, false) σ' ∧ ag σ σ' (evF (x + 32 + 3 * d)) (evV (x + 32 + 3 * d)) ∧ sz σ σ') := ⟨⟨(x, na, la, ba, rm, A, d, t, ty, fl), hp, rfl⟩, fun v σ' q => q (x, na, la, ba, rm, A, d, t, ty, fl) ⟨hp, rfl⟩⟩
def ca_X2_begin (G : en_G) : List (Nat × Nat × en_C) := [(40, 5, C_X4_root), (44, 13, (C_X2_layPath G))]
def X_X2_begin (G : en_G) (q : Option en_V → en_S → Prop) : en_X := en_mk G cX2_begin (en_lk fl2) (en_lk nw2) (en_lk aw2) (en_lk dc2) (en_lk (ca_X2_begin G)) 0 false q
theorem d_X2_begin_0 : decode cX2_begin 0 = .ok (.aload_n 0, 1) := by decide +kernel
theorem j_X2_begin_0 {G : en_G} {q : Option en_V → en_S → Prop}  {l1 l2 l3 : en_V} {x0 : Option Nat} {σ : en_S} : en_J (X_X2_begin G q) 0 [en_R x0, l1, l2, l3] [] σ ↔ en_J (X_X2_begin G q) 1 [en_R x0, l1, l2, l3] [en_R x0] σ := en_j1 d_X2_begin_0 rfl rfl
theorem d_X2_begin_1 : decode cX2_begin 1 = .ok (.iload_n 2, 1) := by decide +kernel
theorem j_X2_begin_1 {G : en_G} {q : Option en_V → en_S → Prop}  {l0 l1 l3 : en_V} {a0 : Option Nat} {x2 : Int32} {σ : en_S} : en_J (X_X2_begin G q) 1 [l0, l1, en_I x2, l3] [en_R a0] σ ↔ en_J (X_X2_begin G q) 2 [l0, l1, en_I x2, l3] [en_I x2, en_R a0] σ := en_j1 d_X2_begin_1 rfl rfl
theorem d_X2_begin_2 : decode cX2_begin 2 = .ok (.putfield 20, 3) := by decide +kernel
theorem j_X2_begin_2 {G : en_G} {q : Option en_V → en_S → Prop}  {l0 l1 l2 l3 : en_V} {a0 : Int32} {a1 : Option Nat} {σ : en_S} : en_J (X_X2_begin G q) 2 [l0, l1, l2, l3] [en_I a0, en_R a1] σ ↔ ∃ a, a1 = some a ∧ en_cl σ a = some 2 ∧ en_J (X_X2_begin G q) 5 [l0, l1, l2, l3] [] (en_sfi σ 203 a a0) := en_jg (st := fun o => [en_I a0, en_R o]) (st' := fun _ => []) (σ' := fun a => en_sfi σ 203 a a0) d_X2_begin_2 rfl (fun a => rfl) (fun a => ⟨fun h => h.2.1, fun h => ⟨rfl, h, trivial, fun z => absurd z (by decide +kernel)⟩⟩)
theorem d_X2_begin_5 : decode cX2_begin 5 = .ok (.aload_n 0, 1) := by decide +kernel
theorem j_X2_begin_5 {G : en_G} {q : Option en_V → en_S → Prop}  {l1 l2 l3 : en_V} {x0 : Option Nat} {σ : en_S} : en_J (X_X2_begin G q) 5 [en_R x0, l1, l2, l3] [] σ ↔ en_J (X_X2_begin G q) 6 [en_R x0, l1, l2, l3] [en_R x0] σ := en_j1 d_X2_begin_5 rfl rfl
theorem d_X2_begin_6 : decode cX2_begin 6 = .ok (.iload_n 3, 1) := by decide +kernel
theorem j_X2_begin_6 {G : en_G} {q : Option en_V → en_S → Prop}  {l0 l1 l2 : en_V} {a0 : Option Nat} {x3 : Int32} {σ : en_S} : en_J (X_X2_begin G q) 6 [l0, l1, l2, en_I x3] [en_R a0] σ ↔ en_J (X_X2_begin G q) 7 [l0, l1, l2, en_I x3] [en_I x3, en_R a0] σ := en_j1 d_X2_begin_6 rfl rfl
theorem d_X2_begin_7 : decode cX2_begin 7 = .ok (.iconst 1, 1) := by decide +kernel
theorem j_X2_begin_7 {G : en_G} {q : Option en_V → en_S → Prop}  {l0 l1 l2 l3 : en_V} {a0 : Int32} {a1 : Option Nat} {σ : en_S} : en_J (X_X2_begin G q) 7 [l0, l1, l2, l3] [en_I a0, en_R a1] σ ↔ en_J (X_X2_begin G q) 8 [l0, l1, l2, l3] [en_I 1, en_I a0, en_R a1] σ := ej_iconst d_X2_begin_7 (by decide +kernel)
theorem d_X2_begin_8 : decode cX2_begin 8 = .ok (.iand, 1) := by decide +kernel
theorem j_X2_begin_8 {G : en_G} {q : Option en_V → en_S → Prop}  {l0 l1 l2 l3 : en_V} {a0 : Int32} {a1 : Int32} {a2 : Option Nat} {σ : en_S} : en_J (X_X2_begin G q) 8 [l0, l1, l2, l3] [en_I a0, en_I a1, en_R a2] σ ↔ en_J (X_X2_begin G q) 9 [l0, l1, l2, l3] [en_I (a1 &&& a0), en_R a2] σ := en_j1 d_X2_begin_8 rfl ⟨rfl, trivial⟩
theorem d_X2_begin_9 : decode cX2_begin 9 = .ok (.ifCond .eq 7, 3) := by decide +kernel
theorem j_X2_begin_9 {G : en_G} {q : Option en_V → en_S → Prop}  {l0 l1 l2 l3 : en_V} {a0 : Int32} {a1 : Option Nat} {σ : en_S} : en_J (X_X2_begin G q) 9 [l0, l1, l2, l3] [en_I a0, en_R a1] σ ↔ (a0 = 0 → en_J (X_X2_begin G q) 16 [l0, l1, l2, l3] [en_R a1] σ) ∧ (¬ (a0 = 0) → en_J (X_X2_begin G q) 12 [l0, l1, l2, l3] [en_R a1] σ) := en_jb d_X2_begin_9 rfl ⟨rfl, by decide⟩
theorem d_X2_begin_12 : decode cX2_begin 12 = .ok (.iconst 1, 1) := by decide +kernel
theorem j_X2_begin_12 {G : en_G} {q : Option en_V → en_S → Prop}  {l0 l1 l2 l3 : en_V} {a0 : Option Nat} {σ : en_S} : en_J (X_X2_begin G q) 12 [l0, l1, l2, l3] [en_R a0] σ ↔ en_J (X_X2_begin G q) 13 [l0, l1, l2, l3] [en_I 1, en_R a0] σ := ej_iconst d_X2_begin_12 (by decide +kernel)
theorem d_X2_begin_13 : decode cX2_begin 13 = .ok (.goto 4, 3) := by decide +kernel
theorem j_X2_begin_13 {G : en_G} {q : Option en_V → en_S → Prop}  {l0 l1 l2 l3 : en_V} {a0 : Int32} {a1 : Option Nat} {σ : en_S} : en_J (X_X2_begin G q) 13 [l0, l1, l2, l3] [en_I a0, en_R a1] σ ↔ en_J (X_X2_begin G q) 17 [l0, l1, l2, l3] [en_I a0, en_R a1] σ := en_j1 d_X2_begin_13 rfl ⟨rfl, by decide⟩
theorem d_X2_begin_16 : decode cX2_begin 16 = .ok (.iconst 0, 1) := by decide +kernel
theorem j_X2_begin_16 {G : en_G} {q : Option en_V → en_S → Prop}  {l0 l1 l2 l3 : en_V} {a0 : Option Nat} {σ : en_S} : en_J (X_X2_begin G q) 16 [l0, l1, l2, l3] [en_R a0] σ ↔ en_J (X_X2_begin G q) 17 [l0, l1, l2, l3] [en_I 0, en_R a0] σ := ej_iconst d_X2_begin_16 (by decide +kernel)
theorem d_X2_begin_17 : decode cX2_begin 17 = .ok (.putfield 24, 3) := by decide +kernel
theorem j_X2_begin_17 {G : en_G} {q : Option en_V → en_S → Prop}  {l0 l1 l2 l3 : en_V} {a0 : Int32} {a1 : Option Nat} {σ : en_S} : en_J (X_X2_begin G q) 17 [l0, l1, l2, l3] [en_I a0, en_R a1] σ ↔ ∃ a, a1 = some a ∧ (en_cl σ a = some 2 ∧ (a0 = 0 ∨ a0 = 1)) ∧ en_J (X_X2_begin G q) 20 [l0, l1, l2, l3] [] (en_sfi σ 204 a a0) := en_jg (st := fun o => [en_I a0, en_R o]) (st' := fun _ => []) (σ' := fun a => en_sfi σ 204 a a0) d_X2_begin_17 rfl (fun a => rfl) (fun a => ⟨fun h => ⟨h.2.1, h.2.2.1⟩, fun h => ⟨rfl, h.1, h.2, fun z => absurd z (by decide +kernel)⟩⟩)
theorem d_X2_begin_20 : decode cX2_begin 20 = .ok (.aload_n 0, 1) := by decide +kernel
theorem j_X2_begin_20 {G : en_G} {q : Option en_V → en_S → Prop}  {l1 l2 l3 : en_V} {x0 : Option Nat} {σ : en_S} : en_J (X_X2_begin G q) 20 [en_R x0, l1, l2, l3] [] σ ↔ en_J (X_X2_begin G q) 21 [en_R x0, l1, l2, l3] [en_R x0] σ := en_j1 d_X2_begin_20 rfl rfl
theorem d_X2_begin_21 : decode cX2_begin 21 = .ok (.iload_n 3, 1) := by decide +kernel
theorem j_X2_begin_21 {G : en_G} {q : Option en_V → en_S → Prop}  {l0 l1 l2 : en_V} {a0 : Option Nat} {x3 : Int32} {σ : en_S} : en_J (X_X2_begin G q) 21 [l0, l1, l2, en_I x3] [en_R a0] σ ↔ en_J (X_X2_begin G q) 22 [l0, l1, l2, en_I x3] [en_I x3, en_R a0] σ := en_j1 d_X2_begin_21 rfl rfl
theorem d_X2_begin_22 : decode cX2_begin 22 = .ok (.iconst 2, 1) := by decide +kernel
theorem j_X2_begin_22 {G : en_G} {q : Option en_V → en_S → Prop}  {l0 l1 l2 l3 : en_V} {a0 : Int32} {a1 : Option Nat} {σ : en_S} : en_J (X_X2_begin G q) 22 [l0, l1, l2, l3] [en_I a0, en_R a1] σ ↔ en_J (X_X2_begin G q) 23 [l0, l1, l2, l3] [en_I 2, en_I a0, en_R a1] σ := ej_iconst d_X2_begin_22 (by decide +kernel)
theorem d_X2_begin_23 : decode cX2_begin 23 = .ok (.iand, 1) := by decide +kernel
theorem j_X2_begin_23 {G : en_G} {q : Option en_V → en_S → Prop}  {l0 l1 l2 l3 : en_V} {a0 : Int32} {a1 : Int32} {a2 : Option Nat} {σ : en_S} : en_J (X_X2_begin G q) 23 [l0, l1, l2, l3] [en_I a0, en_I a1, en_R a2] σ ↔ en_J (X_X2_begin G q) 24 [l0, l1, l2, l3] [en_I (a1 &&& a0), en_R a2] σ := en_j1 d_X2_begin_23 rfl ⟨rfl, trivial⟩
theorem d_X2_begin_24 : decode cX2_begin 24 = .ok (.ifCond .eq 7, 3) := by decide +kernel
theorem j_X2_begin_24 {G : en_G} {q : Option en_V → en_S → Prop}  {l0 l1 l2 l3 : en_V} {a0 : Int32} {a1 : Option Nat} {σ : en_S} : en_J (X_X2_begin G q) 24 [l0, l1, l2, l3] [en_I a0, en_R a1] σ ↔ (a0 = 0 → en_J (X_X2_begin G q) 31 [l0, l1, l2, l3] [en_R a1] σ) ∧ (¬ (a0 = 0) → en_J (X_X2_begin G q) 27 [l0, l1, l2, l3] [en_R a1] σ) := en_jb d_X2_begin_24 rfl ⟨rfl, by decide⟩
theorem d_X2_begin_27 : decode cX2_begin 27 = .ok (.iconst 1, 1) := by decide +kernel
theorem j_X2_begin_27 {G : en_G} {q : Option en_V → en_S → Prop}  {l0 l1 l2 l3 : en_V} {a0 : Option Nat} {σ : en_S} : en_J (X_X2_begin G q) 27 [l0, l1, l2, l3] [en_R a0] σ ↔ en_J (X_X2_begin G q) 28 [l0, l1, l2, l3] [en_I 1, en_R a0] σ := ej_iconst d_X2_begin_27 (by decide +kernel)
theorem d_X2_begin_28 : decode cX2_begin 28 = .ok (.goto 4, 3) := by decide +kernel
theorem j_X2_begin_28 {G : en_G} {q : Option en_V → en_S → Prop}  {l0 l1 l2 l3 : en_V} {a0 : Int32} {a1 : Option Nat} {σ : en_S} : en_J (X_X2_begin G q) 28 [l0, l1, l2, l3] [en_I a0, en_R a1] σ ↔ en_J (X_X2_begin G q) 32 [l0, l1, l2, l3] [en_I a0, en_R a1] σ := en_j1 d_X2_begin_28 rfl ⟨rfl, by decide⟩
theorem d_X2_begin_31 : decode cX2_begin 31 = .ok (.iconst 0, 1) := by decide +kernel
theorem j_X2_begin_31 {G : en_G} {q : Option en_V → en_S → Prop}  {l0 l1 l2 l3 : en_V} {a0 : Option Nat} {σ : en_S} : en_J (X_X2_begin G q) 31 [l0, l1, l2, l3] [en_R a0] σ ↔ en_J (X_X2_begin G q) 32 [l0, l1, l2, l3] [en_I 0, en_R a0] σ := ej_iconst d_X2_begin_31 (by decide +kernel)
theorem d_X2_begin_32 : decode cX2_begin 32 = .ok (.putfield 28, 3) := by decide +kernel
theorem j_X2_begin_32 {G : en_G} {q : Option en_V → en_S → Prop}  {l0 l1 l2 l3 : en_V} {a0 : Int32} {a1 : Option Nat} {σ : en_S} : en_J (X_X2_begin G q) 32 [l0, l1, l2, l3] [en_I a0, en_R a1] σ ↔ ∃ a, a1 = some a ∧ (en_cl σ a = some 2 ∧ (a0 = 0 ∨ a0 = 1)) ∧ en_J (X_X2_begin G q) 35 [l0, l1, l2, l3] [] (en_sfi σ 205 a a0) := en_jg (st := fun o => [en_I a0, en_R o]) (st' := fun _ => []) (σ' := fun a => en_sfi σ 205 a a0) d_X2_begin_32 rfl (fun a => rfl) (fun a => ⟨fun h => ⟨h.2.1, h.2.2.1⟩, fun h => ⟨rfl, h.1, h.2, fun z => absurd z (by decide +kernel)⟩⟩)
theorem d_X2_begin_35 : decode cX2_begin 35 = .ok (.aload_n 0, 1) := by decide +kernel
theorem j_X2_begin_35 {G : en_G} {q : Option en_V → en_S → Prop}  {l1 l2 l3 : en_V} {x0 : Option Nat} {σ : en_S} : en_J (X_X2_begin G q) 35 [en_R x0, l1, l2, l3] [] σ ↔ en_J (X_X2_begin G q) 36 [en_R x0, l1, l2, l3] [en_R x0] σ := en_j1 d_X2_begin_35 rfl rfl
theorem d_X2_begin_36 : decode cX2_begin 36 = .ok (.iconst 0, 1) := by decide +kernel
theorem j_X2_begin_36 {G : en_G} {q : Option en_V → en_S → Prop}  {l0 l1 l2 l3 : en_V} {a0 : Option Nat} {σ : en_S} : en_J (X_X2_begin G q) 36 [l0, l1, l2, l3] [en_R a0] σ ↔ en_J (X_X2_begin G q) 37 [l0, l1, l2, l3] [en_I 0, en_R a0] σ := ej_iconst d_X2_begin_36 (by decide +kernel)
theorem d_X2_begin_37 : decode cX2_begin 37 = .ok (.putfield 31, 3) := by decide +kernel
theorem j_X2_begin_37 {G : en_G} {q : Option en_V → en_S → Prop}  {l0 l1 l2 l3 : en_V} {a0 : Int32} {a1 : Option Nat} {σ : en_S} : en_J (X_X2_begin G q) 37 [l0, l1, l2, l3] [en_I a0, en_R a1] σ ↔ ∃ a, a1 = some a ∧ (en_cl σ a = some 2 ∧ (a0 = 0 ∨ a0 = 1)) ∧ en_J (X_X2_begin G q) 40 [l0, l1, l2, l3] [] (en_sfi σ 206 a a0) := en_jg (st := fun o => [en_I a0, en_R o]) (st' := fun _ => []) (σ' := fun a => en_sfi σ 206 a a0) d_X2_begin_37 rfl (fun a => rfl) (fun a => ⟨fun h => ⟨h.2.1, h.2.2.1⟩, fun h => ⟨rfl, h.1, h.2, fun z => absurd z (by decide +kernel)⟩⟩)
theorem d_X2_begin_40 : decode cX2_begin 40 = .ok (.aload_n 0, 1) := by decide +kernel
theorem j_X2_begin_40 {G : en_G} {q : Option en_V → en_S → Prop}  {l1 l2 l3 : en_V} {x0 : Option Nat} {σ : en_S} : en_J (X_X2_begin G q) 40 [en_R x0, l1, l2, l3] [] σ ↔ en_J (X_X2_begin G q) 41 [en_R x0, l1, l2, l3] [en_R x0] σ := en_j1 d_X2_begin_40 rfl rfl
theorem d_X2_begin_41 : decode cX2_begin 41 = .ok (.iconst 0, 1) := by decide +kernel
theorem j_X2_begin_41 {G : en_G} {q : Option en_V → en_S → Prop}  {l0 l1 l2 l3 : en_V} {a0 : Option Nat} {σ : en_S} : en_J (X_X2_begin G q) 41 [l0, l1, l2, l3] [en_R a0] σ ↔ en_J (X_X2_begin G q) 42 [l0, l1, l2, l3] [en_I 0, en_R a0] σ := ej_iconst d_X2_begin_41 (by decide +kernel)
theorem d_X2_begin_42 : decode cX2_begin 42 = .ok (.putfield 34, 3) := by decide +kernel
theorem j_X2_begin_42 {G : en_G} {q : Option en_V → en_S → Prop}  {l0 l1 l2 l3 : en_V} {a0 : Int32} {a1 : Option Nat} {σ : en_S} : en_J (X_X2_begin G q) 42 [l0, l1, l2, l3] [en_I a0, en_R a1] σ ↔ ∃ a, a1 = some a ∧ (en_cl σ a = some 2 ∧ (a0 = 0 ∨ a0 = 1)) ∧ en_J (X_X2_begin G q) 45 [l0, l1, l2, l3] [] (en_sfi σ 207 a a0) := en_jg (st := fun o => [en_I a0, en_R o]) (st' := fun _ => []) (σ' := fun a => en_sfi σ 207 a a0) d_X2_begin_42 rfl (fun a => rfl) (fun a => ⟨fun h => ⟨h.2.1, h.2.2.1⟩, fun h => ⟨rfl, h.1, h.2, fun z => absurd z (by decide +kernel)⟩⟩)
theorem d_X2_begin_45 : decode cX2_begin 45 = .ok (.aload_n 0, 1) := by decide +kernel
theorem j_X2_begin_45 {G : en_G} {q : Option en_V → en_S → Prop}  {l1 l2 l3 : en_V} {x0 : Option Nat} {σ : en_S} : en_J (X_X2_begin G q) 45 [en_R x0, l1, l2, l3] [] σ ↔ en_J (X_X2_begin G q) 46 [en_R x0, l1, l2, l3] [en_R x0] σ := en_j1 d_X2_begin_45 rfl rfl
theorem d_X2_begin_46 : decode cX2_begin 46 = .ok (.iconst 0, 1) := by decide +kernel
theorem j_X2_begin_46 {G : en_G} {q : Option en_V → en_S → Prop}  {l0 l1 l2 l3 : en_V} {a0 : Option Nat} {σ : en_S} : en_J (X_X2_begin G q) 46 [l0, l1, l2, l3] [en_R a0] σ ↔ en_J (X_X2_begin G q) 47 [l0, l1, l2, l3] [en_I 0, en_R a0] σ := ej_iconst d_X2_begin_46 (by decide +kernel)
theorem d_X2_begin_47 : decode cX2_begin 47 = .ok (.putfield 37, 3) := by decide +kernel
theorem j_X2_begin_47 {G : en_G} {q : Option en_V → en_S → Prop}  {l0 l1 l2 l3 : en_V} {a0 : Int32} {a1 : Option Nat} {σ : en_S} : en_J (X_X2_begin G q) 47 [l0, l1, l2, l3] [en_I a0, en_R a1] σ ↔ ∃ a, a1 = some a ∧ (en_cl σ a = some 2 ∧ (a0 = 0 ∨ a0 = 1)) ∧ en_J (X_X2_begin G q) 50 [l0, l1, l2, l3] [] (en_sfi σ 208 a a0) := en_jg (st := fun o => [en_I a0, en_R o]) (st' := fun _ => []) (σ' := fun a => en_sfi σ 208 a a0) d_X2_begin_47 rfl (fun a => rfl) (fun a => ⟨fun h => ⟨h.2.1, h.2.2.1⟩, fun h => ⟨rfl, h.1, h.2, fun z => absurd z (by decide +kernel)⟩⟩)
theorem d_X2_begin_50 : decode cX2_begin 50 = .ok (.aload_n 0, 1) := by decide +kernel
theorem j_X2_begin_50 {G : en_G} {q : Option en_V → en_S → Prop}  {l1 l2 l3 : en_V} {x0 : Option Nat} {σ : en_S} : en_J (X_X2_begin G q) 50 [en_R x0, l1, l2, l3] [] σ ↔ en_J (X_X2_begin G q) 51 [en_R x0, l1, l2, l3] [en_R x0] σ := en_j1 d_X2_begin_50 rfl rfl
theorem d_X2_begin_51 : decode cX2_begin 51 = .ok (.aload_n 1, 1) := by decide +kernel
theorem j_X2_begin_51 {G : en_G} {q : Option en_V → en_S → Prop}  {l0 l2 l3 : en_V} {a0 : Option Nat} {x1 : Option Nat} {σ : en_S} : en_J (X_X2_begin G q) 51 [l0, en_R x1, l2, l3] [en_R a0] σ ↔ en_J (X_X2_begin G q) 52 [l0, en_R x1, l2, l3] [en_R x1, en_R a0] σ := en_j1 d_X2_begin_51 rfl rfl
theorem d_X2_begin_52 : decode cX2_begin 52 = .ok (.iload_n 3, 1) := by decide +kernel
theorem j_X2_begin_52 {G : en_G} {q : Option en_V → en_S → Prop}  {l0 l1 l2 : en_V} {a0 : Option Nat} {a1 : Option Nat} {x3 : Int32} {σ : en_S} : en_J (X_X2_begin G q) 52 [l0, l1, l2, en_I x3] [en_R a0, en_R a1] σ ↔ en_J (X_X2_begin G q) 53 [l0, l1, l2, en_I x3] [en_I x3, en_R a0, en_R a1] σ := en_j1 d_X2_begin_52 rfl rfl
theorem d_X2_begin_53 : decode cX2_begin 53 = .ok (.iconst 4, 1) := by decide +kernel
theorem j_X2_begin_53 {G : en_G} {q : Option en_V → en_S → Prop}  {l0 l1 l2 l3 : en_V} {a0 : Int32} {a1 : Option Nat} {a2 : Option Nat} {σ : en_S} : en_J (X_X2_begin G q) 53 [l0, l1, l2, l3] [en_I a0, en_R a1, en_R a2] σ ↔ en_J (X_X2_begin G q) 54 [l0, l1, l2, l3] [en_I 4, en_I a0, en_R a1, en_R a2] σ := ej_iconst d_X2_begin_53 (by decide +kernel)
theorem d_X2_begin_54 : decode cX2_begin 54 = .ok (.iand, 1) := by decide +kernel
theorem j_X2_begin_54 {G : en_G} {q : Option en_V → en_S → Prop}  {l0 l1 l2 l3 : en_V} {a0 : Int32} {a1 : Int32} {a2 : Option Nat} {a3 : Option Nat} {σ : en_S} : en_J (X_X2_begin G q) 54 [l0, l1, l2, l3] [en_I a0, en_I a1, en_R a2, en_R a3] σ ↔ en_J (X_X2_begin G q) 55 [l0, l1, l2, l3] [en_I (a1 &&& a0), en_R a2, en_R a3] σ := en_j1 d_X2_begin_54 rfl ⟨rfl, trivial⟩
theorem d_X2_begin_55 : decode cX2_begin 55 = .ok (.ifCond .eq 7, 3) := by decide +kernel
theorem j_X2_begin_55 {G : en_G} {q : Option en_V → en_S → Prop}  {l0 l1 l2 l3 : en_V} {a0 : Int32} {a1 : Option Nat} {a2 : Option Nat} {σ : en_S} : en_J (X_X2_begin G q) 55 [l0, l1, l2, l3] [en_I a0, en_R a1, en_R a2] σ ↔ (a0 = 0 → en_J (X_X2_begin G q) 62 [l0, l1, l2, l3] [en_R a1, en_R a2] σ) ∧ (¬ (a0 = 0) → en_J (X_X2_begin G q) 58 [l0, l1, l2, l3] [en_R a1, en_R a2] σ) := en_jb d_X2_begin_55 rfl ⟨rfl, by decide⟩
theorem d_X2_begin_58 : decode cX2_begin 58 = .ok (.aconst_null, 1) := by decide +kernel
theorem j_X2_begin_58 {G : en_G} {q : Option en_V → en_S → Prop}  {l0 l1 l2 l3 : en_V} {a0 : Option Nat} {a1 : Option Nat} {σ : en_S} : en_J (X_X2_begin G q) 58 [l0, l1, l2, l3] [en_R a0, en_R a1] σ ↔ en_J (X_X2_begin G q) 59 [l0, l1, l2, l3] [en_R none, en_R a0, en_R a1] σ := en_j1 d_X2_begin_58 rfl rfl
theorem d_X2_begin_59 : decode cX2_begin 59 = .ok (.goto 7, 3) := by decide +kernel
theorem j_X2_begin_59 {G : en_G} {q : Option en_V → en_S → Prop}  {l0 l1 l2 l3 : en_V} {a0 : Option Nat} {a1 : Option Nat} {a2 : Option Nat} {σ : en_S} : en_J (X_X2_begin G q) 59 [l0, l1, l2, l3] [en_R a0, en_R a1, en_R a2] σ ↔ en_J (X_X2_begin G q) 66 [l0, l1, l2, l3] [en_R a0, en_R a1, en_R a2] σ := en_j1 d_X2_begin_59 rfl ⟨rfl, by decide⟩
theorem d_X2_begin_62 : decode cX2_begin 62 = .ok (.aload_n 1, 1) := by decide +kernel
theorem j_X2_begin_62 {G : en_G} {q : Option en_V → en_S → Prop}  {l0 l2 l3 : en_V} {a0 : Option Nat} {a1 : Option Nat} {x1 : Option Nat} {σ : en_S} : en_J (X_X2_begin G q) 62 [l0, en_R x1, l2, l3] [en_R a0, en_R a1] σ ↔ en_J (X_X2_begin G q) 63 [l0, en_R x1, l2, l3] [en_R x1, en_R a0, en_R a1] σ := en_j1 d_X2_begin_62 rfl rfl
theorem d_X2_begin_63 : decode cX2_begin 63 = .ok (.invokevirtual 40, 3) := by decide +kernel
theorem j_X2_begin_63 {G : en_G} {q : Option en_V → en_S → Prop}  {l0 l1 l2 l3 : en_V} {a0 : Option Nat} {a1 : Option Nat} {a2 : Option Nat} {σ : en_S} : en_J (X_X2_begin G q) 63 [l0, l1, l2, l3] [en_R a0, en_R a1, en_R a2] σ ↔ C_X4_root.1 [en_R a0] σ ∧ ∀ (r : Option en_V) (σ' : en_S), C_X4_root.2 [en_R a0] σ r σ' → en_J (X_X2_begin G q) 66 [l0, l1, l2, l3] (r.toList ++ [en_R a1, en_R a2]) σ' := en_jk d_X2_begin_63 rfl ⟨fun h => h.2.2.2.2, fun h => ⟨rfl, rfl, Nat.le_of_ble_eq_true rfl, Nat.le_of_ble_eq_true rfl, h⟩⟩
theorem d_X2_begin_66 : decode cX2_begin 66 = .ok (.invokevirtual 44, 3) := by decide +kernel
theorem j_X2_begin_66 {G : en_G} {q : Option en_V → en_S → Prop}  {l0 l1 l2 l3 : en_V} {a0 : Option Nat} {a1 : Option Nat} {a2 : Option Nat} {σ : en_S} : en_J (X_X2_begin G q) 66 [l0, l1, l2, l3] [en_R a0, en_R a1, en_R a2] σ ↔ (C_X2_layPath G).1 [en_R a2, en_R a1, en_R a0] σ ∧ ∀ (r : Option en_V) (σ' : en_S), (C_X2_layPath G).2 [en_R a2, en_R a1, en_R a0] σ r σ' → en_J (X_X2_begin G q) 69 [l0, l1, l2, l3] (r.toList ++ []) σ' := en_jkC (C := (C_X2_layPath G)) (n' := 3) (k := 1) (idx := 44) d_X2_begin_66 rfl rfl (by decide) (Nat.le_of_ble_eq_true rfl) (Nat.le_of_ble_eq_true rfl)
theorem d_X2_begin_69 : decode cX2_begin 69 = .ok (.return_, 1) := by decide +kernel
theorem j_X2_begin_69 {G : en_G} {q : Option en_V → en_S → Prop}  {l0 l1 l2 l3 : en_V}  {σ : en_S} : en_J (X_X2_begin G q) 69 [l0, l1, l2, l3] [] σ ↔ q none σ := en_jr d_X2_begin_69 rfl ⟨fun h => h.2.2, fun h => ⟨rfl, rfl, h⟩⟩
theorem wc_X2_begin : Jvm.Cond.code yX2_begin cX2_begin 4 none ∈ en_W := en_inW (List.mem_of_getElem? (i := 377) (by decide +kernel)) (by decide +kernel)
theorem wi_X2_begin : Jvm.Cond.instanceMethod yX2_begin ∈ en_W := en_inW (List.mem_of_getElem? (i := 375) (by decide +kernel)) (by decide +kernel)
theorem wx_X2_begin : Jvm.Cond.selects RX2 yX2_begin yX2_begin ∈ en_W := en_inW (List.mem_of_getElem? (i := 376) (by decide +kernel)) (by decide +kernel)
theorem jl_X2_begin {G : en_G}  {x : Nat} {na : Nat → Nat} {la : Nat → Nat} {ba : Nat → Nat} {rm : Nat} {A : st_A} {d : Nat} {t : Nat} {ty : Int32} {fl : Nat} {σ : en_S} (hp : CX G x na la ba rm A σ ∧ d < 4 ∧ t < tr_N (sa_T A) ∧ fl < 8) : en_J (X_X2_begin G (fun v σ' => v = none ∧ ev_ok na (x + 32 + 3 * d) (ty, fl, ds_path (sa_T A) t fl) σ' ∧ ev_fl (x + 32 + 3 * d) (false, false, false) σ' ∧ ag σ σ' (evF (x + 32 + 3 * d)) (evV (x + 32 + 3 * d)) ∧ sz σ σ')) 0 [en_R (some (x + 32 + 3 * d)), en_R (some (na t)), en_I ty, en_I (nI fl)] [] σ := by
  obtain ⟨hC, hd, ht, hfl⟩ := hp
  have hw := hC.2.2.2.2.2.2.2.2.1.1
  obtain ⟨e1, e2, e3, e4, e5, e6⟩ := hC.1.2.2.2.2.1 d hd
  have k1 : ∀ b : Int32, (b = 0 ∨ b = 1) → True := fun _ _ => trivial
  have main : ∀ b1 b2 : Bool, b1 = decide (fl % 2 = 1) → b2 = decide (fl / 2 % 2 = 1) → en_J (X_X2_begin G (fun v σ' => v = none ∧ ev_ok na (x + 32 + 3 * d) (ty, fl, ds_path (sa_T A) t fl) σ' ∧ ev_fl (x + 32 + 3 * d) (false, false, false) σ' ∧ ag σ σ' (evF (x + 32 + 3 * d)) (evV (x + 32 + 3 * d)) ∧ sz σ σ')) 35 [en_R (some (x + 32 + 3 * d)), en_R (some (na t)), en_I ty, en_I (nI fl)] [] (en_sfi (en_sfi (en_sfi σ 203 (x + 32 + 3 * d) ty) 204 (x + 32 + 3 * d) (st_b b1)) 205 (x + 32 + 3 * d) (st_b b2)) := by
    intro b1 b2 hb1 hb2
    have g1 : ag σ (en_sfi (en_sfi (en_sfi (en_sfi (en_sfi (en_sfi σ 203 (x + 32 + 3 * d) ty) 204 (x + 32 + 3 * d) (st_b b1)) 205 (x + 32 + 3 * d) (st_b b2)) 206 (x + 32 + 3 * d) 0) 207 (x + 32 + 3 * d) 0) 208 (x + 32 + 3 * d) 0) (evF (x + 32 + 3 * d)) (evV (x + 32 + 3 * d)) := (((((ag_sfi (fun b z => by unfold evF at z; omega)).tr (ag_sfi (fun b z => by unfold evF at z; omega))).tr (ag_sfi (fun b z => by unfold evF at z; omega))).tr (ag_sfi (fun b z => by unfold evF at z; omega))).tr (ag_sfi (fun b z => by unfold evF at z; omega))).tr (ag_sfi (fun b z => by unfold evF at z; omega))
    have hC1 := cx_ev (σ' := en_sfi (en_sfi (en_sfi (en_sfi (en_sfi (en_sfi σ 203 (x + 32 + 3 * d) ty) 204 (x + 32 + 3 * d) (st_b b1)) 205 (x + 32 + 3 * d) (st_b b2)) 206 (x + 32 + 3 * d) 0) 207 (x + 32 + 3 * d) 0) 208 (x + 32 + 3 * d) 0) hC (by omega) g1 ⟨rfl, rfl, rfl, rfl⟩
    have fin : ∀ (last : Option Nat), last = ds_last (sa_T A) t fl → en_J (X_X2_begin G (fun v σ' => v = none ∧ ev_ok na (x + 32 + 3 * d) (ty, fl, ds_path (sa_T A) t fl) σ' ∧ ev_fl (x + 32 + 3 * d) (false, false, false) σ' ∧ ag σ σ' (evF (x + 32 + 3 * d)) (evV (x + 32 + 3 * d)) ∧ sz σ σ')) 66 [en_R (some (x + 32 + 3 * d)), en_R (some (na t)), en_I ty, en_I (nI fl)] [en_R (last.map na), en_R (some (na t)), en_R (some (x + 32 + 3 * d))] (en_sfi (en_sfi (en_sfi (en_sfi (en_sfi (en_sfi σ 203 (x + 32 + 3 * d) ty) 204 (x + 32 + 3 * d) (st_b b1)) 205 (x + 32 + 3 * d) (st_b b2)) 206 (x + 32 + 3 * d) 0) 207 (x + 32 + 3 * d) 0) 208 (x + 32 + 3 * d) 0) := by
      intro last hlast
      simp only [j_X2_begin_0, j_X2_begin_1, j_X2_begin_2, j_X2_begin_5, j_X2_begin_6, j_X2_begin_7, j_X2_begin_8, j_X2_begin_9, j_X2_begin_12, j_X2_begin_13, j_X2_begin_16, j_X2_begin_17, j_X2_begin_20, j_X2_begin_21, j_X2_begin_22, j_X2_begin_23, j_X2_begin_24, j_X2_begin_27, j_X2_begin_28, j_X2_begin_31, j_X2_begin_32, j_X2_begin_35, j_X2_begin_36, j_X2_begin_37, j_X2_begin_40, j_X2_begin_41, j_X2_begin_42, j_X2_begin_45, j_X2_begin_46, j_X2_begin_47, j_X2_begin_50, j_X2_begin_51, j_X2_begin_52, j_X2_begin_53, j_X2_begin_54, j_X2_begin_55, j_X2_begin_58, j_X2_begin_59, j_X2_begin_62, j_X2_begin_63, j_X2_begin_66, j_X2_begin_69, en_c2I, en_c2R, en_c2U, en_c2D, Option.some.injEq, exists_eq_left', exists_eq_left, Option.map_some, Option.map_none, not_true_eq_false, false_implies, true_implies, and_true, true_and, reduceCtorEq, not_false_eq_true]
      refine en_use (cu_X2_layPath ⟨hC1, hd, ht, fun n hn => ?_⟩) ?_
      · rw [hn] at hlast
        unfold ds_last at hlast
        split at hlast
        · cases hlast
        · cases hlast; exact tr_root_lt hw ht
      rintro v σ' ⟨rfl, hp, hg, hs⟩
      simp only [Option.toList, List.cons_append, List.nil_append, j_X2_begin_0, j_X2_begin_1, j_X2_begin_2, j_X2_begin_5, j_X2_begin_6, j_X2_begin_7, j_X2_begin_8, j_X2_begin_9, j_X2_begin_12, j_X2_begin_13, j_X2_begin_16, j_X2_begin_17, j_X2_begin_20, j_X2_begin_21, j_X2_begin_22, j_X2_begin_23, j_X2_begin_24, j_X2_begin_27, j_X2_begin_28, j_X2_begin_31, j_X2_begin_32, j_X2_begin_35, j_X2_begin_36, j_X2_begin_37, j_X2_begin_40, j_X2_begin_41, j_X2_begin_42, j_X2_begin_45, j_X2_begin_46, j_X2_begin_47, j_X2_begin_50, j_X2_begin_51, j_X2_begin_52, j_X2_begin_53, j_X2_begin_54, j_X2_begin_55, j_X2_begin_58, j_X2_begin_59, j_X2_begin_62, j_X2_begin_63, j_X2_begin_66, j_X2_begin_69, en_c2I, en_c2R, en_c2U, en_c2D, Option.some.injEq, exists_eq_left', exists_eq_left, Option.map_some, Option.map_none, not_true_eq_false, false_implies, true_implies, and_true, true_and, reduceCtorEq, not_false_eq_true]
      have hx : x + 32 + 3 * d < en_nx σ := fresh_cl hC.1.2.2.2.2.2.2 e2
      have rd : ∀ f, f ≠ 202 → _ := fun f hf => ((hg.2 _ hx).2.2.1 f (by unfold lyF; omega)).1
      refine ⟨⟨?_, ?_, ?_, ?_⟩, ⟨?_, ?_, ?_⟩, g1.tr (ly_ev hg), sz.tr ⟨rfl, rfl, rfl, rfl⟩ hs⟩
      · rw [rd 203 (by decide)]; simp [eg_fi_sfi]
      · rw [rd 204 (by decide)]; simp [eg_fi_sfi, hb1]
      · rw [rd 205 (by decide)]; simp [eg_fi_sfi, hb2]
      · unfold ds_path; rw [← hlast]; exact hp
      · rw [rd 206 (by decide)]; simp [eg_fi_sfi, st_b]
      · rw [rd 207 (by decide)]; simp [eg_fi_sfi, st_b]
      · rw [rd 208 (by decide)]; simp [eg_fi_sfi, st_b]
    have i2 := an4 fl hfl
    by_cases h4 : fl < 4
    · have z1 := i2.mpr h4
      simp only [j_X2_begin_0, j_X2_begin_1, j_X2_begin_2, j_X2_begin_5, j_X2_begin_6, j_X2_begin_7, j_X2_begin_8, j_X2_begin_9, j_X2_begin_12, j_X2_begin_13, j_X2_begin_16, j_X2_begin_17, j_X2_begin_20, j_X2_begin_21, j_X2_begin_22, j_X2_begin_23, j_X2_begin_24, j_X2_begin_27, j_X2_begin_28, j_X2_begin_31, j_X2_begin_32, j_X2_begin_35, j_X2_begin_36, j_X2_begin_37, j_X2_begin_40, j_X2_begin_41, j_X2_begin_42, j_X2_begin_45, j_X2_begin_46, j_X2_begin_47, j_X2_begin_50, j_X2_begin_51, j_X2_begin_52, j_X2_begin_53, j_X2_begin_54, j_X2_begin_55, j_X2_begin_58, j_X2_begin_59, j_X2_begin_62, j_X2_begin_63, j_X2_begin_69, en_c2I, en_c2R, en_c2U, en_c2D, Option.some.injEq, exists_eq_left', exists_eq_left, Option.map_some, Option.map_none, not_true_eq_false, false_implies, true_implies, and_true, true_and, reduceCtorEq, not_false_eq_true, eg_cl_sfi, eg_fi_sfi, eg_fr_sfi, eg_fd_sfi, eg_al_sfi, eg_ai_sfi, eg_ar_sfi, eg_ad_sfi, eg_aj_sfi, eg_nx_sfi, eg_ns_sfi, eg_cl_sfr, eg_fi_sfr, eg_fr_sfr, eg_fd_sfr, eg_al_sfr, eg_ai_sfr, eg_ar_sfr, eg_ad_sfr, eg_aj_sfr, eg_nx_sfr, eg_ns_sfr, eg_cl_sfd, eg_fi_sfd, eg_fr_sfd, eg_fd_sfd, eg_al_sfd, eg_ai_sfd, eg_ar_sfd, eg_ad_sfd, eg_aj_sfd, eg_nx_sfd, eg_ns_sfd, eg_cl_sai, eg_fi_sai, eg_fr_sai, eg_fd_sai, eg_al_sai, eg_ai_sai, eg_ar_sai, eg_ad_sai, eg_aj_sai, eg_nx_sai, eg_ns_sai, eg_cl_sar, eg_fi_sar, eg_fr_sar, eg_fd_sar, eg_al_sar, eg_ai_sar, eg_ar_sar, eg_ad_sar, eg_aj_sar, eg_nx_sar, eg_ns_sar, eg_cl_sad, eg_fi_sad, eg_fr_sad, eg_fd_sad, eg_al_sad, eg_ai_sad, eg_ar_sad, eg_ad_sad, eg_aj_sad, eg_nx_sad, eg_ns_sad, eg_cl_saj, eg_fi_saj, eg_fr_saj, eg_fd_saj, eg_al_saj, eg_ai_saj, eg_ar_saj, eg_ad_saj, eg_aj_saj, eg_nx_saj, eg_ns_saj, eg_cl_new, eg_fi_new, eg_fr_new, eg_fd_new, eg_al_new, eg_ai_new, eg_ar_new, eg_ad_new, eg_aj_new, eg_nx_new, eg_ns_new, eg_cl_newa, eg_fi_newa, eg_fr_newa, eg_fd_newa, eg_al_newa, eg_ai_newa, eg_ar_newa, eg_ad_newa, eg_aj_newa, eg_nx_newa, eg_ns_newa, eg_cl_bump, eg_fi_bump, eg_fr_bump, eg_fd_bump, eg_al_bump, eg_ai_bump, eg_ar_bump, eg_ad_bump, eg_aj_bump, eg_nx_bump, eg_ns_bump, e2, z1, true_or]
      refine en_use (cu_X4_root hC1.2.1 hw ht) ?_
      rintro v σ' ⟨rfl, rfl⟩
      exact fin (some (tr_root (sa_T A) t)) (by unfold ds_last; rw [if_neg (by omega)])
    · have z1 : ¬ nI fl &&& 4 = 0 := fun z => h4 (i2.mp z)
      simp only [j_X2_begin_0, j_X2_begin_1, j_X2_begin_2, j_X2_begin_5, j_X2_begin_6, j_X2_begin_7, j_X2_begin_8, j_X2_begin_9, j_X2_begin_12, j_X2_begin_13, j_X2_begin_16, j_X2_begin_17, j_X2_begin_20, j_X2_begin_21, j_X2_begin_22, j_X2_begin_23, j_X2_begin_24, j_X2_begin_27, j_X2_begin_28, j_X2_begin_31, j_X2_begin_32, j_X2_begin_35, j_X2_begin_36, j_X2_begin_37, j_X2_begin_40, j_X2_begin_41, j_X2_begin_42, j_X2_begin_45, j_X2_begin_46, j_X2_begin_47, j_X2_begin_50, j_X2_begin_51, j_X2_begin_52, j_X2_begin_53, j_X2_begin_54, j_X2_begin_55, j_X2_begin_58, j_X2_begin_59, j_X2_begin_62, j_X2_begin_63, j_X2_begin_69, en_c2I, en_c2R, en_c2U, en_c2D, Option.some.injEq, exists_eq_left', exists_eq_left, Option.map_some, Option.map_none, not_true_eq_false, false_implies, true_implies, and_true, true_and, reduceCtorEq, not_false_eq_true, eg_cl_sfi, eg_fi_sfi, eg_fr_sfi, eg_fd_sfi, eg_al_sfi, eg_ai_sfi, eg_ar_sfi, eg_ad_sfi, eg_aj_sfi, eg_nx_sfi, eg_ns_sfi, eg_cl_sfr, eg_fi_sfr, eg_fr_sfr, eg_fd_sfr, eg_al_sfr, eg_ai_sfr, eg_ar_sfr, eg_ad_sfr, eg_aj_sfr, eg_nx_sfr, eg_ns_sfr, eg_cl_sfd, eg_fi_sfd, eg_fr_sfd, eg_fd_sfd, eg_al_sfd, eg_ai_sfd, eg_ar_sfd, eg_ad_sfd, eg_aj_sfd, eg_nx_sfd, eg_ns_sfd, eg_cl_sai, eg_fi_sai, eg_fr_sai, eg_fd_sai, eg_al_sai, eg_ai_sai, eg_ar_sai, eg_ad_sai, eg_aj_sai, eg_nx_sai, eg_ns_sai, eg_cl_sar, eg_fi_sar, eg_fr_sar, eg_fd_sar, eg_al_sar, eg_ai_sar, eg_ar_sar, eg_ad_sar, eg_aj_sar, eg_nx_sar, eg_ns_sar, eg_cl_sad, eg_fi_sad, eg_fr_sad, eg_fd_sad, eg_al_sad, eg_ai_sad, eg_ar_sad, eg_ad_sad, eg_aj_sad, eg_nx_sad, eg_ns_sad, eg_cl_saj, eg_fi_saj, eg_fr_saj, eg_fd_saj, eg_al_saj, eg_ai_saj, eg_ar_saj, eg_ad_saj, eg_aj_saj, eg_nx_saj, eg_ns_saj, eg_cl_new, eg_fi_new, eg_fr_new, eg_fd_new, eg_al_new, eg_ai_new, eg_ar_new, eg_ad_new, eg_aj_new, eg_nx_new, eg_ns_new, eg_cl_newa, eg_fi_newa, eg_fr_newa, eg_fd_newa, eg_al_newa, eg_ai_newa, eg_ar_newa, eg_ad_newa, eg_aj_newa, eg_nx_newa, eg_ns_newa, eg_cl_bump, eg_fi_bump, eg_fr_bump, eg_fd_bump, eg_al_bump, eg_ai_bump, eg_ar_bump, eg_ad_bump, eg_aj_bump, eg_nx_bump, eg_ns_bump, e2, z1, true_or]
      exact fin none (by unfold ds_last; rw [if_pos (by omega)])
  have i1 := an1 fl hfl
  have i2 := an2 fl hfl
  by_cases h1 : fl % 2 = 0
  · have z1 := i1.mpr h1
    have m1 : false = decide (fl % 2 = 1) := by simp [h1]
    by_cases h2 : fl / 2 % 2 = 0
    · have z2 := i2.mpr h2
      have m2 : false = decide (fl / 2 % 2 = 1) := by simp [h2]
      have := main false false m1 m2
      simp only [j_X2_begin_0, j_X2_begin_1, j_X2_begin_2, j_X2_begin_5, j_X2_begin_6, j_X2_begin_7, j_X2_begin_8, j_X2_begin_9, j_X2_begin_12, j_X2_begin_13, j_X2_begin_16, j_X2_begin_17, j_X2_begin_20, j_X2_begin_21, j_X2_begin_22, j_X2_begin_23, j_X2_begin_24, j_X2_begin_27, j_X2_begin_28, j_X2_begin_31, j_X2_begin_32, j_X2_begin_36, j_X2_begin_37, j_X2_begin_40, j_X2_begin_41, j_X2_begin_42, j_X2_begin_45, j_X2_begin_46, j_X2_begin_47, j_X2_begin_50, j_X2_begin_51, j_X2_begin_52, j_X2_begin_53, j_X2_begin_54, j_X2_begin_55, j_X2_begin_58, j_X2_begin_59, j_X2_begin_62, j_X2_begin_63, j_X2_begin_66, j_X2_begin_69, en_c2I, en_c2R, en_c2U, en_c2D, Option.some.injEq, exists_eq_left', exists_eq_left, Option.map_some, Option.map_none, not_true_eq_false, false_implies, true_implies, and_true, true_and, reduceCtorEq, not_false_eq_true, eg_cl_sfi, eg_fi_sfi, eg_fr_sfi, eg_fd_sfi, eg_al_sfi, eg_ai_sfi, eg_ar_sfi, eg_ad_sfi, eg_aj_sfi, eg_nx_sfi, eg_ns_sfi, eg_cl_sfr, eg_fi_sfr, eg_fr_sfr, eg_fd_sfr, eg_al_sfr, eg_ai_sfr, eg_ar_sfr, eg_ad_sfr, eg_aj_sfr, eg_nx_sfr, eg_ns_sfr, eg_cl_sfd, eg_fi_sfd, eg_fr_sfd, eg_fd_sfd, eg_al_sfd, eg_ai_sfd, eg_ar_sfd, eg_ad_sfd, eg_aj_sfd, eg_nx_sfd, eg_ns_sfd, eg_cl_sai, eg_fi_sai, eg_fr_sai, eg_fd_sai, eg_al_sai, eg_ai_sai, eg_ar_sai, eg_ad_sai, eg_aj_sai, eg_nx_sai, eg_ns_sai, eg_cl_sar, eg_fi_sar, eg_fr_sar, eg_fd_sar, eg_al_sar, eg_ai_sar, eg_ar_sar, eg_ad_sar, eg_aj_sar, eg_nx_sar, eg_ns_sar, eg_cl_sad, eg_fi_sad, eg_fr_sad, eg_fd_sad, eg_al_sad, eg_ai_sad, eg_ar_sad, eg_ad_sad, eg_aj_sad, eg_nx_sad, eg_ns_sad, eg_cl_saj, eg_fi_saj, eg_fr_saj, eg_fd_saj, eg_al_saj, eg_ai_saj, eg_ar_saj, eg_ad_saj, eg_aj_saj, eg_nx_saj, eg_ns_saj, eg_cl_new, eg_fi_new, eg_fr_new, eg_fd_new, eg_al_new, eg_ai_new, eg_ar_new, eg_ad_new, eg_aj_new, eg_nx_new, eg_ns_new, eg_cl_newa, eg_fi_newa, eg_fr_newa, eg_fd_newa, eg_al_newa, eg_ai_newa, eg_ar_newa, eg_ad_newa, eg_aj_newa, eg_nx_newa, eg_ns_newa, eg_cl_bump, eg_fi_bump, eg_fr_bump, eg_fd_bump, eg_al_bump, eg_ai_bump, eg_ar_bump, eg_ad_bump, eg_aj_bump, eg_nx_bump, eg_ns_bump, e2, z1, z2]
      exact ⟨Or.inl trivial, Or.inl trivial, this⟩
    · have z2 : ¬ nI fl &&& 2 = 0 := fun z => h2 (i2.mp z)
      have m2 : true = decide (fl / 2 % 2 = 1) := by simp; omega
      have := main false true m1 m2
      simp only [j_X2_begin_0, j_X2_begin_1, j_X2_begin_2, j_X2_begin_5, j_X2_begin_6, j_X2_begin_7, j_X2_begin_8, j_X2_begin_9, j_X2_begin_12, j_X2_begin_13, j_X2_begin_16, j_X2_begin_17, j_X2_begin_20, j_X2_begin_21, j_X2_begin_22, j_X2_begin_23, j_X2_begin_24, j_X2_begin_27, j_X2_begin_28, j_X2_begin_31, j_X2_begin_32, j_X2_begin_36, j_X2_begin_37, j_X2_begin_40, j_X2_begin_41, j_X2_begin_42, j_X2_begin_45, j_X2_begin_46, j_X2_begin_47, j_X2_begin_50, j_X2_begin_51, j_X2_begin_52, j_X2_begin_53, j_X2_begin_54, j_X2_begin_55, j_X2_begin_58, j_X2_begin_59, j_X2_begin_62, j_X2_begin_63, j_X2_begin_66, j_X2_begin_69, en_c2I, en_c2R, en_c2U, en_c2D, Option.some.injEq, exists_eq_left', exists_eq_left, Option.map_some, Option.map_none, not_true_eq_false, false_implies, true_implies, and_true, true_and, reduceCtorEq, not_false_eq_true, eg_cl_sfi, eg_fi_sfi, eg_fr_sfi, eg_fd_sfi, eg_al_sfi, eg_ai_sfi, eg_ar_sfi, eg_ad_sfi, eg_aj_sfi, eg_nx_sfi, eg_ns_sfi, eg_cl_sfr, eg_fi_sfr, eg_fr_sfr, eg_fd_sfr, eg_al_sfr, eg_ai_sfr, eg_ar_sfr, eg_ad_sfr, eg_aj_sfr, eg_nx_sfr, eg_ns_sfr, eg_cl_sfd, eg_fi_sfd, eg_fr_sfd, eg_fd_sfd, eg_al_sfd, eg_ai_sfd, eg_ar_sfd, eg_ad_sfd, eg_aj_sfd, eg_nx_sfd, eg_ns_sfd, eg_cl_sai, eg_fi_sai, eg_fr_sai, eg_fd_sai, eg_al_sai, eg_ai_sai, eg_ar_sai, eg_ad_sai, eg_aj_sai, eg_nx_sai, eg_ns_sai, eg_cl_sar, eg_fi_sar, eg_fr_sar, eg_fd_sar, eg_al_sar, eg_ai_sar, eg_ar_sar, eg_ad_sar, eg_aj_sar, eg_nx_sar, eg_ns_sar, eg_cl_sad, eg_fi_sad, eg_fr_sad, eg_fd_sad, eg_al_sad, eg_ai_sad, eg_ar_sad, eg_ad_sad, eg_aj_sad, eg_nx_sad, eg_ns_sad, eg_cl_saj, eg_fi_saj, eg_fr_saj, eg_fd_saj, eg_al_saj, eg_ai_saj, eg_ar_saj, eg_ad_saj, eg_aj_saj, eg_nx_saj, eg_ns_saj, eg_cl_new, eg_fi_new, eg_fr_new, eg_fd_new, eg_al_new, eg_ai_new, eg_ar_new, eg_ad_new, eg_aj_new, eg_nx_new, eg_ns_new, eg_cl_newa, eg_fi_newa, eg_fr_newa, eg_fd_newa, eg_al_newa, eg_ai_newa, eg_ar_newa, eg_ad_newa, eg_aj_newa, eg_nx_newa, eg_ns_newa, eg_cl_bump, eg_fi_bump, eg_fr_bump, eg_fd_bump, eg_al_bump, eg_ai_bump, eg_ar_bump, eg_ad_bump, eg_aj_bump, eg_nx_bump, eg_ns_bump, e2, z1, z2]
      exact ⟨Or.inl trivial, Or.inr trivial, this⟩
  · have z1 : ¬ nI fl &&& 1 = 0 := fun z => h1 (i1.mp z)
    have m1 : true = decide (fl % 2 = 1) := by simp; omega
    by_cases h2 : fl / 2 % 2 = 0
    · have z2 := i2.mpr h2
      have m2 : false = decide (fl / 2 % 2 = 1) := by simp [h2]
      have := main true false m1 m2
      simp only [j_X2_begin_0, j_X2_begin_1, j_X2_begin_2, j_X2_begin_5, j_X2_begin_6, j_X2_begin_7, j_X2_begin_8, j_X2_begin_9, j_X2_begin_12, j_X2_begin_13, j_X2_begin_16, j_X2_begin_17, j_X2_begin_20, j_X2_begin_21, j_X2_begin_22, j_X2_begin_23, j_X2_begin_24, j_X2_begin_27, j_X2_begin_28, j_X2_begin_31, j_X2_begin_32, j_X2_begin_36, j_X2_begin_37, j_X2_begin_40, j_X2_begin_41, j_X2_begin_42, j_X2_begin_45, j_X2_begin_46, j_X2_begin_47, j_X2_begin_50, j_X2_begin_51, j_X2_begin_52, j_X2_begin_53, j_X2_begin_54, j_X2_begin_55, j_X2_begin_58, j_X2_begin_59, j_X2_begin_62, j_X2_begin_63, j_X2_begin_66, j_X2_begin_69, en_c2I, en_c2R, en_c2U, en_c2D, Option.some.injEq, exists_eq_left', exists_eq_left, Option.map_some, Option.map_none, not_true_eq_false, false_implies, true_implies, and_true, true_and, reduceCtorEq, not_false_eq_true, eg_cl_sfi, eg_fi_sfi, eg_fr_sfi, eg_fd_sfi, eg_al_sfi, eg_ai_sfi, eg_ar_sfi, eg_ad_sfi, eg_aj_sfi, eg_nx_sfi, eg_ns_sfi, eg_cl_sfr, eg_fi_sfr, eg_fr_sfr, eg_fd_sfr, eg_al_sfr, eg_ai_sfr, eg_ar_sfr, eg_ad_sfr, eg_aj_sfr, eg_nx_sfr, eg_ns_sfr, eg_cl_sfd, eg_fi_sfd, eg_fr_sfd, eg_fd_sfd, eg_al_sfd, eg_ai_sfd, eg_ar_sfd, eg_ad_sfd, eg_aj_sfd, eg_nx_sfd, eg_ns_sfd, eg_cl_sai, eg_fi_sai, eg_fr_sai, eg_fd_sai, eg_al_sai, eg_ai_sai, eg_ar_sai, eg_ad_sai, eg_aj_sai, eg_nx_sai, eg_ns_sai, eg_cl_sar, eg_fi_sar, eg_fr_sar, eg_fd_sar, eg_al_sar, eg_ai_sar, eg_ar_sar, eg_ad_sar, eg_aj_sar, eg_nx_sar, eg_ns_sar, eg_cl_sad, eg_fi_sad, eg_fr_sad, eg_fd_sad, eg_al_sad, eg_ai_sad, eg_ar_sad, eg_ad_sad, eg_aj_sad, eg_nx_sad, eg_ns_sad, eg_cl_saj, eg_fi_saj, eg_fr_saj, eg_fd_saj, eg_al_saj, eg_ai_saj, eg_ar_saj, eg_ad_saj, eg_aj_saj, eg_nx_saj, eg_ns_saj, eg_cl_new, eg_fi_new, eg_fr_new, eg_fd_new, eg_al_new, eg_ai_new, eg_ar_new, eg_ad_new, eg_aj_new, eg_nx_new, eg_ns_new, eg_cl_newa, eg_fi_newa, eg_fr_newa, eg_fd_newa, eg_al_newa, eg_ai_newa, eg_ar_newa, eg_ad_newa, eg_aj_newa, eg_nx_newa, eg_ns_newa, eg_cl_bump, eg_fi_bump, eg_fr_bump, eg_fd_bump, eg_al_bump, eg_ai_bump, eg_ar_bump, eg_ad_bump, eg_aj_bump, eg_nx_bump, eg_ns_bump, e2, z1, z2]
      exact ⟨Or.inr trivial, Or.inl trivial, this⟩
    · have z2 : ¬ nI fl &&& 2 = 0 := fun z => h2 (i2.mp z)
      have m2 : true = decide (fl / 2 % 2 = 1) := by simp; omega
      have := main true true m1 m2
      simp only [j_X2_begin_0, j_X2_begin_1, j_X2_begin_2, j_X2_begin_5, j_X2_begin_6, j_X2_begin_7, j_X2_begin_8, j_X2_begin_9, j_X2_begin_12, j_X2_begin_13, j_X2_begin_16, j_X2_begin_17, j_X2_begin_20, j_X2_begin_21, j_X2_begin_22, j_X2_begin_23, j_X2_begin_24, j_X2_begin_27, j_X2_begin_28, j_X2_begin_31, j_X2_begin_32, j_X2_begin_36, j_X2_begin_37, j_X2_begin_40, j_X2_begin_41, j_X2_begin_42, j_X2_begin_45, j_X2_begin_46, j_X2_begin_47, j_X2_begin_50, j_X2_begin_51, j_X2_begin_52, j_X2_begin_53, j_X2_begin_54, j_X2_begin_55, j_X2_begin_58, j_X2_begin_59, j_X2_begin_62, j_X2_begin_63, j_X2_begin_66, j_X2_begin_69, en_c2I, en_c2R, en_c2U, en_c2D, Option.some.injEq, exists_eq_left', exists_eq_left, Option.map_some, Option.map_none, not_true_eq_false, false_implies, true_implies, and_true, true_and, reduceCtorEq, not_false_eq_true, eg_cl_sfi, eg_fi_sfi, eg_fr_sfi, eg_fd_sfi, eg_al_sfi, eg_ai_sfi, eg_ar_sfi, eg_ad_sfi, eg_aj_sfi, eg_nx_sfi, eg_ns_sfi, eg_cl_sfr, eg_fi_sfr, eg_fr_sfr, eg_fd_sfr, eg_al_sfr, eg_ai_sfr, eg_ar_sfr, eg_ad_sfr, eg_aj_sfr, eg_nx_sfr, eg_ns_sfr, eg_cl_sfd, eg_fi_sfd, eg_fr_sfd, eg_fd_sfd, eg_al_sfd, eg_ai_sfd, eg_ar_sfd, eg_ad_sfd, eg_aj_sfd, eg_nx_sfd, eg_ns_sfd, eg_cl_sai, eg_fi_sai, eg_fr_sai, eg_fd_sai, eg_al_sai, eg_ai_sai, eg_ar_sai, eg_ad_sai, eg_aj_sai, eg_nx_sai, eg_ns_sai, eg_cl_sar, eg_fi_sar, eg_fr_sar, eg_fd_sar, eg_al_sar, eg_ai_sar, eg_ar_sar, eg_ad_sar, eg_aj_sar, eg_nx_sar, eg_ns_sar, eg_cl_sad, eg_fi_sad, eg_fr_sad, eg_fd_sad, eg_al_sad, eg_ai_sad, eg_ar_sad, eg_ad_sad, eg_aj_sad, eg_nx_sad, eg_ns_sad, eg_cl_saj, eg_fi_saj, eg_fr_saj, eg_fd_saj, eg_al_saj, eg_ai_saj, eg_ar_saj, eg_ad_saj, eg_aj_saj, eg_nx_saj, eg_ns_saj, eg_cl_new, eg_fi_new, eg_fr_new, eg_fd_new, eg_al_new, eg_ai_new, eg_ar_new, eg_ad_new, eg_aj_new, eg_nx_new, eg_ns_new, eg_cl_newa, eg_fi_newa, eg_fr_newa, eg_fd_newa, eg_al_newa, eg_ai_newa, eg_ar_newa, eg_ad_newa, eg_aj_newa, eg_nx_newa, eg_ns_newa, eg_cl_bump, eg_fi_bump, eg_fr_bump, eg_fd_bump, eg_al_bump, eg_ai_bump, eg_ar_bump, eg_ad_bump, eg_aj_bump, eg_nx_bump, eg_ns_bump, e2, z1, z2]
      exact ⟨Or.inr trivial, Or.inr trivial, this⟩
theorem jp_X2_begin {G : en_G}  : ∀ as σ, (C_X2_begin G).1 as σ → (en_lc as).length ≤ 4 ∧ en_J (X_X2_begin G (fun r σ' => (C_X2_begin G).2 as σ r σ')) 0 (en_loc 4 as) [] σ := en_ghJ (fun g as σ h => by
  obtain ⟨hp, h2⟩ := h
  subst h2
  exact ⟨Nat.le_of_ble_eq_true rfl, jl_X2_begin hp⟩)
theorem wl_X2_begin_40 : Jvm.Cond.methodLink RX2 40 yX4_root ∈ en_W := en_inW (List.mem_of_getElem? (i := 378) (by decide +kernel)) (by decide +kernel)
theorem wl_X2_begin_44 : Jvm.Cond.methodLink RX2 44 yX2_layPath ∈ en_W := en_inW (List.mem_of_getElem? (i := 382) (by decide +kernel)) (by decide +kernel)
theorem ok_X2_begin {G : en_G}  : en_Ok G 5 yX2_begin cX2_begin 4 none (C_X2_begin G) :=
  en_met (own := RX2) (fl := en_lk fl2) (nw := en_lk nw2) (aw := en_lk aw2) (dc := en_lk dc2) (ca := en_lk (ca_X2_begin G)) (rt := 0) (ini := false) (by decide +kernel) (Or.inl ⟨rfl, rfl⟩) (fun h => by cases h) rfl (fun q => en_LkF fl2_ok nw2_ok aw2_ok dc2_ok) (by
    intro idx q hq
    have hm := en_lk_mem hq
    simp only [ca_X2_begin, List.mem_cons, Prod.mk.injEq, List.not_mem_nil, or_false] at hm
    rcases hm with ⟨rfl, rfl⟩ | ⟨rfl, rfl⟩
    · exact en_clV (r := (RX4, TX4, 12)) 4 0 ok_X4_root (by decide) (by decide) rfl rfl pr_X4_root wl_X2_begin_40 wi_X4_root wx_X4_root wz_4 wc_X4_root ⟨by decide +kernel, by decide +kernel, by decide +kernel⟩
    · exact en_clV (r := (RX2, TX2, 9)) 2 2 ok_X2_layPath (by decide) (by decide) rfl rfl pr_X2_layPath wl_X2_begin_44 wi_X2_layPath wx_X2_layPath wz_2 wc_X2_layPath ⟨by decide +kernel, by decide +kernel, by decide +kernel⟩) jp_X2_begin
theorem ds_find_none {T : tr_T} : ∀ {l : List (Nat × Nat)}, (∀ e ∈ l, ¬ tr_kd T e.1 = 2) → ds_find T l = none := by
  intro l
  induction l with
  | nil => intro _; rfl
  | cons e l ih => intro h; simp only [ds_find, if_neg (h e List.mem_cons_self)]; exact ih (fun q hq => h q (List.mem_cons_of_mem _ hq))
def P_X2_checkToTurn (G : en_G)  (g : (Nat) × (Nat → Nat) × (Nat → Nat) × (Nat → Nat) × (Nat) × (st_A) × (Nat) × (ev_E)) (as : List en_V) (σ : en_S) : Prop := (CX G (g.1) (g.2.1) (g.2.2.1) (g.2.2.2.1) (g.2.2.2.2.1) (g.2.2.2.2.2.1) σ ∧ (g.2.2.2.2.2.2.1) < 4 ∧ ev_ok (g.2.1) ((g.1) + 32 + 3 * (g.2.2.2.2.2.2.1)) (g.2.2.2.2.2.2.2) σ ∧ (∀ e ∈ (g.2.2.2.2.2.2.2).2.2, e.1 < tr_N (sa_T (g.2.2.2.2.2.1))) ∧ 1 ≤ (g.2.2.2.2.2.2.2).2.2.length ∧ (g.2.2.2.2.2.2.2).2.2.length ≤ 24) ∧ as = [en_R (some ((g.1) + 32 + 3 * (g.2.2.2.2.2.2.1)))]
def C_X2_checkToTurn (G : en_G)  : en_C := en_gh (P_X2_checkToTurn G) (fun g as σ v σ' => σ' = σ ∧ v = some (en_R ((ds_check (sa_T (g.2.2.2.2.2.1)) (g.2.2.2.2.2.2.2).1 (g.2.2.2.2.2.2.2).2.1 (g.2.2.2.2.2.2.2).2.2).map (g.2.1))))
theorem pr_X2_checkToTurn {G : en_G}  : ∀ as σ, (C_X2_checkToTurn G).1 as σ → ∃ b tl, as = en_R (some b) :: tl ∧ en_cl σ b = some 2 ∧ tl.length = 0 := fun as σ ⟨g, hp, h2⟩ => ⟨_, _, h2, (hp.1.1.2.2.2.2.1 _ hp.2.1).2.1, rfl⟩
theorem cu_X2_checkToTurn {G : en_G}  {x : Nat} {na : Nat → Nat} {la : Nat → Nat} {ba : Nat → Nat} {rm : Nat} {A : st_A} {d : Nat} {E : ev_E} {σ : en_S} (hp : CX G x na la ba rm A σ ∧ d < 4 ∧ ev_ok na (x + 32 + 3 * d) E σ ∧ (∀ e ∈ E.2.2, e.1 < tr_N (sa_T A)) ∧ 1 ≤ E.2.2.length ∧ E.2.2.length ≤ 24) : en_Us (C_X2_checkToTurn G) [en_R (some (x + 32 + 3 * d))] σ (fun v σ' => σ' = σ ∧ v = some (en_R ((ds_check (sa_T A) E.1 E.2.1 E.2.2).map na))) := ⟨⟨(x, na, la, ba, rm, A, d, E), hp, rfl⟩, fun v σ' q => q (x, na, la, ba, rm, A, d, E) ⟨hp, rfl⟩⟩
def ca_X2_checkToTurn (G : en_G) : List (Nat × Nat × en_C) := [(65, 9, C_X2_nodeOf)]
def X_X2_checkToTurn (G : en_G) (q : Option en_V → en_S → Prop) : en_X := en_mk G cX2_checkToTurn (en_lk fl2) (en_lk nw2) (en_lk aw2) (en_lk dc2) (en_lk (ca_X2_checkToTurn G)) 3 false q
theorem d_X2_checkToTurn_0 : decode cX2_checkToTurn 0 = .ok (.aload_n 0, 1) := by decide +kernel
theorem j_X2_checkToTurn_0 {G : en_G} {q : Option en_V → en_S → Prop}  {l1 l2 l3 : en_V} {x0 : Option Nat} {σ : en_S} : en_J (X_X2_checkToTurn G q) 0 [en_R x0, l1, l2, l3] [] σ ↔ en_J (X_X2_checkToTurn G q) 1 [en_R x0, l1, l2, l3] [en_R x0] σ := en_j1 d_X2_checkToTurn_0 rfl rfl
theorem d_X2_checkToTurn_1 : decode cX2_checkToTurn 1 = .ok (.getfield 20, 3) := by decide +kernel
theorem j_X2_checkToTurn_1 {G : en_G} {q : Option en_V → en_S → Prop}  {l0 l1 l2 l3 : en_V} {a0 : Option Nat} {σ : en_S} : en_J (X_X2_checkToTurn G q) 1 [l0, l1, l2, l3] [en_R a0] σ ↔ ∃ a, a0 = some a ∧ en_cl σ a = some 2 ∧ en_J (X_X2_checkToTurn G q) 4 [l0, l1, l2, l3] [en_I (en_fi σ 203 a)] σ := en_jg (st := fun o => [en_R o]) (st' := fun a => [en_I (en_fi σ 203 a)]) (σ' := fun _ => σ) d_X2_checkToTurn_1 rfl (fun a => rfl) (fun a => ⟨fun h => h.2, fun h => ⟨rfl, h⟩⟩)
theorem d_X2_checkToTurn_4 : decode cX2_checkToTurn 4 = .ok (.ifCond .eq 5, 3) := by decide +kernel
theorem j_X2_checkToTurn_4 {G : en_G} {q : Option en_V → en_S → Prop}  {l0 l1 l2 l3 : en_V} {a0 : Int32} {σ : en_S} : en_J (X_X2_checkToTurn G q) 4 [l0, l1, l2, l3] [en_I a0] σ ↔ (a0 = 0 → en_J (X_X2_checkToTurn G q) 9 [l0, l1, l2, l3] [] σ) ∧ (¬ (a0 = 0) → en_J (X_X2_checkToTurn G q) 7 [l0, l1, l2, l3] [] σ) := en_jb d_X2_checkToTurn_4 rfl ⟨rfl, by decide⟩
theorem d_X2_checkToTurn_7 : decode cX2_checkToTurn 7 = .ok (.aconst_null, 1) := by decide +kernel
theorem j_X2_checkToTurn_7 {G : en_G} {q : Option en_V → en_S → Prop}  {l0 l1 l2 l3 : en_V}  {σ : en_S} : en_J (X_X2_checkToTurn G q) 7 [l0, l1, l2, l3] [] σ ↔ en_J (X_X2_checkToTurn G q) 8 [l0, l1, l2, l3] [en_R none] σ := en_j1 d_X2_checkToTurn_7 rfl rfl
theorem d_X2_checkToTurn_8 : decode cX2_checkToTurn 8 = .ok (.areturn, 1) := by decide +kernel
theorem j_X2_checkToTurn_8 {G : en_G} {q : Option en_V → en_S → Prop}  {l0 l1 l2 l3 : en_V} {a0 : Option Nat} {σ : en_S} : en_J (X_X2_checkToTurn G q) 8 [l0, l1, l2, l3] [en_R a0] σ ↔ q (some (en_R a0)) σ := en_jr d_X2_checkToTurn_8 rfl ⟨fun h => h.2.2, fun h => ⟨rfl, rfl, h⟩⟩
theorem d_X2_checkToTurn_9 : decode cX2_checkToTurn 9 = .ok (.aload_n 0, 1) := by decide +kernel
theorem j_X2_checkToTurn_9 {G : en_G} {q : Option en_V → en_S → Prop}  {l1 l2 l3 : en_V} {x0 : Option Nat} {σ : en_S} : en_J (X_X2_checkToTurn G q) 9 [en_R x0, l1, l2, l3] [] σ ↔ en_J (X_X2_checkToTurn G q) 10 [en_R x0, l1, l2, l3] [en_R x0] σ := en_j1 d_X2_checkToTurn_9 rfl rfl
theorem d_X2_checkToTurn_10 : decode cX2_checkToTurn 10 = .ok (.getfield 24, 3) := by decide +kernel
theorem j_X2_checkToTurn_10 {G : en_G} {q : Option en_V → en_S → Prop}  {l0 l1 l2 l3 : en_V} {a0 : Option Nat} {σ : en_S} : en_J (X_X2_checkToTurn G q) 10 [l0, l1, l2, l3] [en_R a0] σ ↔ ∃ a, a0 = some a ∧ en_cl σ a = some 2 ∧ en_J (X_X2_checkToTurn G q) 13 [l0, l1, l2, l3] [en_I (en_fi σ 204 a)] σ := en_jg (st := fun o => [en_R o]) (st' := fun a => [en_I (en_fi σ 204 a)]) (σ' := fun _ => σ) d_X2_checkToTurn_10 rfl (fun a => rfl) (fun a => ⟨fun h => h.2, fun h => ⟨rfl, h⟩⟩)
theorem d_X2_checkToTurn_13 : decode cX2_checkToTurn 13 = .ok (.ifCond .eq 10, 3) := by decide +kernel
theorem j_X2_checkToTurn_13 {G : en_G} {q : Option en_V → en_S → Prop}  {l0 l1 l2 l3 : en_V} {a0 : Int32} {σ : en_S} : en_J (X_X2_checkToTurn G q) 13 [l0, l1, l2, l3] [en_I a0] σ ↔ (a0 = 0 → en_J (X_X2_checkToTurn G q) 23 [l0, l1, l2, l3] [] σ) ∧ (¬ (a0 = 0) → en_J (X_X2_checkToTurn G q) 16 [l0, l1, l2, l3] [] σ) := en_jb d_X2_checkToTurn_13 rfl ⟨rfl, by decide⟩
theorem d_X2_checkToTurn_16 : decode cX2_checkToTurn 16 = .ok (.aload_n 0, 1) := by decide +kernel
theorem j_X2_checkToTurn_16 {G : en_G} {q : Option en_V → en_S → Prop}  {l1 l2 l3 : en_V} {x0 : Option Nat} {σ : en_S} : en_J (X_X2_checkToTurn G q) 16 [en_R x0, l1, l2, l3] [] σ ↔ en_J (X_X2_checkToTurn G q) 17 [en_R x0, l1, l2, l3] [en_R x0] σ := en_j1 d_X2_checkToTurn_16 rfl rfl
theorem d_X2_checkToTurn_17 : decode cX2_checkToTurn 17 = .ok (.getfield 48, 3) := by decide +kernel
theorem j_X2_checkToTurn_17 {G : en_G} {q : Option en_V → en_S → Prop}  {l0 l1 l2 l3 : en_V} {a0 : Option Nat} {σ : en_S} : en_J (X_X2_checkToTurn G q) 17 [l0, l1, l2, l3] [en_R a0] σ ↔ ∃ a, a0 = some a ∧ en_cl σ a = some 2 ∧ en_J (X_X2_checkToTurn G q) 20 [l0, l1, l2, l3] [en_I (en_fi σ 202 a)] σ := en_jg (st := fun o => [en_R o]) (st' := fun a => [en_I (en_fi σ 202 a)]) (σ' := fun _ => σ) d_X2_checkToTurn_17 rfl (fun a => rfl) (fun a => ⟨fun h => h.2, fun h => ⟨rfl, h⟩⟩)
theorem d_X2_checkToTurn_20 : decode cX2_checkToTurn 20 = .ok (.goto 4, 3) := by decide +kernel
theorem j_X2_checkToTurn_20 {G : en_G} {q : Option en_V → en_S → Prop}  {l0 l1 l2 l3 : en_V} {a0 : Int32} {σ : en_S} : en_J (X_X2_checkToTurn G q) 20 [l0, l1, l2, l3] [en_I a0] σ ↔ en_J (X_X2_checkToTurn G q) 24 [l0, l1, l2, l3] [en_I a0] σ := en_j1 d_X2_checkToTurn_20 rfl ⟨rfl, by decide⟩
theorem d_X2_checkToTurn_23 : decode cX2_checkToTurn 23 = .ok (.iconst 1, 1) := by decide +kernel
theorem j_X2_checkToTurn_23 {G : en_G} {q : Option en_V → en_S → Prop}  {l0 l1 l2 l3 : en_V}  {σ : en_S} : en_J (X_X2_checkToTurn G q) 23 [l0, l1, l2, l3] [] σ ↔ en_J (X_X2_checkToTurn G q) 24 [l0, l1, l2, l3] [en_I 1] σ := ej_iconst d_X2_checkToTurn_23 (by decide +kernel)
theorem d_X2_checkToTurn_24 : decode cX2_checkToTurn 24 = .ok (.istore_n 1, 1) := by decide +kernel
theorem j_X2_checkToTurn_24 {G : en_G} {q : Option en_V → en_S → Prop}  {l0 l1 l2 l3 : en_V} {a0 : Int32} {σ : en_S} : en_J (X_X2_checkToTurn G q) 24 [l0, l1, l2, l3] [en_I a0] σ ↔ en_J (X_X2_checkToTurn G q) 25 [en_c2 l0, en_I a0, l2, l3] [] σ := en_j1 d_X2_checkToTurn_24 rfl ⟨rfl, Nat.le_of_ble_eq_true rfl⟩
theorem d_X2_checkToTurn_25 : decode cX2_checkToTurn 25 = .ok (.iconst 0, 1) := by decide +kernel
theorem j_X2_checkToTurn_25 {G : en_G} {q : Option en_V → en_S → Prop}  {l0 l1 l2 l3 : en_V}  {σ : en_S} : en_J (X_X2_checkToTurn G q) 25 [l0, l1, l2, l3] [] σ ↔ en_J (X_X2_checkToTurn G q) 26 [l0, l1, l2, l3] [en_I 0] σ := ej_iconst d_X2_checkToTurn_25 (by decide +kernel)
theorem d_X2_checkToTurn_26 : decode cX2_checkToTurn 26 = .ok (.istore_n 2, 1) := by decide +kernel
theorem j_X2_checkToTurn_26 {G : en_G} {q : Option en_V → en_S → Prop}  {l0 l1 l2 l3 : en_V} {a0 : Int32} {σ : en_S} : en_J (X_X2_checkToTurn G q) 26 [l0, l1, l2, l3] [en_I a0] σ ↔ en_J (X_X2_checkToTurn G q) 27 [l0, en_c2 l1, en_I a0, l3] [] σ := en_j1 d_X2_checkToTurn_26 rfl ⟨rfl, Nat.le_of_ble_eq_true rfl⟩
theorem d_X2_checkToTurn_27 : decode cX2_checkToTurn 27 = .ok (.iload_n 2, 1) := by decide +kernel
theorem j_X2_checkToTurn_27 {G : en_G} {q : Option en_V → en_S → Prop}  {l0 l1 l3 : en_V} {x2 : Int32} {σ : en_S} : en_J (X_X2_checkToTurn G q) 27 [l0, l1, en_I x2, l3] [] σ ↔ en_J (X_X2_checkToTurn G q) 28 [l0, l1, en_I x2, l3] [en_I x2] σ := en_j1 d_X2_checkToTurn_27 rfl rfl
theorem d_X2_checkToTurn_28 : decode cX2_checkToTurn 28 = .ok (.iload_n 1, 1) := by decide +kernel
theorem j_X2_checkToTurn_28 {G : en_G} {q : Option en_V → en_S → Prop}  {l0 l2 l3 : en_V} {a0 : Int32} {x1 : Int32} {σ : en_S} : en_J (X_X2_checkToTurn G q) 28 [l0, en_I x1, l2, l3] [en_I a0] σ ↔ en_J (X_X2_checkToTurn G q) 29 [l0, en_I x1, l2, l3] [en_I x1, en_I a0] σ := en_j1 d_X2_checkToTurn_28 rfl rfl
theorem d_X2_checkToTurn_29 : decode cX2_checkToTurn 29 = .ok (.if_icmp .ge 29, 3) := by decide +kernel
theorem j_X2_checkToTurn_29 {G : en_G} {q : Option en_V → en_S → Prop}  {l0 l1 l2 l3 : en_V} {a0 : Int32} {a1 : Int32} {σ : en_S} : en_J (X_X2_checkToTurn G q) 29 [l0, l1, l2, l3] [en_I a0, en_I a1] σ ↔ (a0 ≤ a1 → en_J (X_X2_checkToTurn G q) 58 [l0, l1, l2, l3] [] σ) ∧ (¬ (a0 ≤ a1) → en_J (X_X2_checkToTurn G q) 32 [l0, l1, l2, l3] [] σ) := en_jb d_X2_checkToTurn_29 rfl ⟨rfl, by decide⟩
theorem d_X2_checkToTurn_32 : decode cX2_checkToTurn 32 = .ok (.aload_n 0, 1) := by decide +kernel
theorem j_X2_checkToTurn_32 {G : en_G} {q : Option en_V → en_S → Prop}  {l1 l2 l3 : en_V} {x0 : Option Nat} {σ : en_S} : en_J (X_X2_checkToTurn G q) 32 [en_R x0, l1, l2, l3] [] σ ↔ en_J (X_X2_checkToTurn G q) 33 [en_R x0, l1, l2, l3] [en_R x0] σ := en_j1 d_X2_checkToTurn_32 rfl rfl
theorem d_X2_checkToTurn_33 : decode cX2_checkToTurn 33 = .ok (.iload_n 2, 1) := by decide +kernel
theorem j_X2_checkToTurn_33 {G : en_G} {q : Option en_V → en_S → Prop}  {l0 l1 l3 : en_V} {a0 : Option Nat} {x2 : Int32} {σ : en_S} : en_J (X_X2_checkToTurn G q) 33 [l0, l1, en_I x2, l3] [en_R a0] σ ↔ en_J (X_X2_checkToTurn G q) 34 [l0, l1, en_I x2, l3] [en_I x2, en_R a0] σ := en_j1 d_X2_checkToTurn_33 rfl rfl
theorem d_X2_checkToTurn_34 : decode cX2_checkToTurn 34 = .ok (.invokevirtual 65, 3) := by decide +kernel
theorem j_X2_checkToTurn_34 {G : en_G} {q : Option en_V → en_S → Prop}  {l0 l1 l2 l3 : en_V} {a0 : Int32} {a1 : Option Nat} {σ : en_S} : en_J (X_X2_checkToTurn G q) 34 [l0, l1, l2, l3] [en_I a0, en_R a1] σ ↔ C_X2_nodeOf.1 [en_R a1, en_I a0] σ ∧ ∀ (r : Option en_V) (σ' : en_S), C_X2_nodeOf.2 [en_R a1, en_I a0] σ r σ' → en_J (X_X2_checkToTurn G q) 37 [l0, l1, l2, l3] (r.toList ++ []) σ' := en_jk d_X2_checkToTurn_34 rfl ⟨fun h => h.2.2.2.2, fun h => ⟨rfl, rfl, Nat.le_of_ble_eq_true rfl, Nat.le_of_ble_eq_true rfl, h⟩⟩
theorem d_X2_checkToTurn_37 : decode cX2_checkToTurn 37 = .ok (.astore_n 3, 1) := by decide +kernel
theorem j_X2_checkToTurn_37 {G : en_G} {q : Option en_V → en_S → Prop}  {l0 l1 l2 l3 : en_V} {a0 : Option Nat} {σ : en_S} : en_J (X_X2_checkToTurn G q) 37 [l0, l1, l2, l3] [en_R a0] σ ↔ en_J (X_X2_checkToTurn G q) 38 [l0, l1, en_c2 l2, en_R a0] [] σ := en_j1 d_X2_checkToTurn_37 rfl ⟨rfl, Nat.le_of_ble_eq_true rfl⟩
theorem d_X2_checkToTurn_38 : decode cX2_checkToTurn 38 = .ok (.aload_n 3, 1) := by decide +kernel
theorem j_X2_checkToTurn_38 {G : en_G} {q : Option en_V → en_S → Prop}  {l0 l1 l2 : en_V} {x3 : Option Nat} {σ : en_S} : en_J (X_X2_checkToTurn G q) 38 [l0, l1, l2, en_R x3] [] σ ↔ en_J (X_X2_checkToTurn G q) 39 [l0, l1, l2, en_R x3] [en_R x3] σ := en_j1 d_X2_checkToTurn_38 rfl rfl
theorem d_X2_checkToTurn_39 : decode cX2_checkToTurn 39 = .ok (.ifnull 13, 3) := by decide +kernel
theorem j_X2_checkToTurn_39 {G : en_G} {q : Option en_V → en_S → Prop}  {l0 l1 l2 l3 : en_V} {a0 : Option Nat} {σ : en_S} : en_J (X_X2_checkToTurn G q) 39 [l0, l1, l2, l3] [en_R a0] σ ↔ (a0 = none → en_J (X_X2_checkToTurn G q) 52 [l0, l1, l2, l3] [] σ) ∧ (¬ (a0 = none) → en_J (X_X2_checkToTurn G q) 42 [l0, l1, l2, l3] [] σ) := en_jb d_X2_checkToTurn_39 rfl ⟨rfl, by decide⟩
theorem d_X2_checkToTurn_42 : decode cX2_checkToTurn 42 = .ok (.aload_n 3, 1) := by decide +kernel
theorem j_X2_checkToTurn_42 {G : en_G} {q : Option en_V → en_S → Prop}  {l0 l1 l2 : en_V} {x3 : Option Nat} {σ : en_S} : en_J (X_X2_checkToTurn G q) 42 [l0, l1, l2, en_R x3] [] σ ↔ en_J (X_X2_checkToTurn G q) 43 [l0, l1, l2, en_R x3] [en_R x3] σ := en_j1 d_X2_checkToTurn_42 rfl rfl
theorem d_X2_checkToTurn_43 : decode cX2_checkToTurn 43 = .ok (.getfield 69, 3) := by decide +kernel
theorem j_X2_checkToTurn_43 {G : en_G} {q : Option en_V → en_S → Prop}  {l0 l1 l2 l3 : en_V} {a0 : Option Nat} {σ : en_S} : en_J (X_X2_checkToTurn G q) 43 [l0, l1, l2, l3] [en_R a0] σ ↔ ∃ a, a0 = some a ∧ en_cl σ a = some 4 ∧ en_J (X_X2_checkToTurn G q) 46 [l0, l1, l2, l3] [en_I (en_fi σ 401 a)] σ := en_jg (st := fun o => [en_R o]) (st' := fun a => [en_I (en_fi σ 401 a)]) (σ' := fun _ => σ) d_X2_checkToTurn_43 rfl (fun a => rfl) (fun a => ⟨fun h => h.2, fun h => ⟨rfl, h⟩⟩)
theorem d_X2_checkToTurn_46 : decode cX2_checkToTurn 46 = .ok (.iconst 2, 1) := by decide +kernel
theorem j_X2_checkToTurn_46 {G : en_G} {q : Option en_V → en_S → Prop}  {l0 l1 l2 l3 : en_V} {a0 : Int32} {σ : en_S} : en_J (X_X2_checkToTurn G q) 46 [l0, l1, l2, l3] [en_I a0] σ ↔ en_J (X_X2_checkToTurn G q) 47 [l0, l1, l2, l3] [en_I 2, en_I a0] σ := ej_iconst d_X2_checkToTurn_46 (by decide +kernel)
theorem d_X2_checkToTurn_47 : decode cX2_checkToTurn 47 = .ok (.if_icmp .ne 5, 3) := by decide +kernel
theorem j_X2_checkToTurn_47 {G : en_G} {q : Option en_V → en_S → Prop}  {l0 l1 l2 l3 : en_V} {a0 : Int32} {a1 : Int32} {σ : en_S} : en_J (X_X2_checkToTurn G q) 47 [l0, l1, l2, l3] [en_I a0, en_I a1] σ ↔ (¬ a1 = a0 → en_J (X_X2_checkToTurn G q) 52 [l0, l1, l2, l3] [] σ) ∧ (¬ (¬ a1 = a0) → en_J (X_X2_checkToTurn G q) 50 [l0, l1, l2, l3] [] σ) := en_jb d_X2_checkToTurn_47 rfl ⟨rfl, by decide⟩
theorem d_X2_checkToTurn_50 : decode cX2_checkToTurn 50 = .ok (.aload_n 3, 1) := by decide +kernel
theorem j_X2_checkToTurn_50 {G : en_G} {q : Option en_V → en_S → Prop}  {l0 l1 l2 : en_V} {x3 : Option Nat} {σ : en_S} : en_J (X_X2_checkToTurn G q) 50 [l0, l1, l2, en_R x3] [] σ ↔ en_J (X_X2_checkToTurn G q) 51 [l0, l1, l2, en_R x3] [en_R x3] σ := en_j1 d_X2_checkToTurn_50 rfl rfl
theorem d_X2_checkToTurn_51 : decode cX2_checkToTurn 51 = .ok (.areturn, 1) := by decide +kernel
theorem j_X2_checkToTurn_51 {G : en_G} {q : Option en_V → en_S → Prop}  {l0 l1 l2 l3 : en_V} {a0 : Option Nat} {σ : en_S} : en_J (X_X2_checkToTurn G q) 51 [l0, l1, l2, l3] [en_R a0] σ ↔ q (some (en_R a0)) σ := en_jr d_X2_checkToTurn_51 rfl ⟨fun h => h.2.2, fun h => ⟨rfl, rfl, h⟩⟩
theorem d_X2_checkToTurn_52 : decode cX2_checkToTurn 52 = .ok (.iinc 2 1, 3) := by decide +kernel
theorem j_X2_checkToTurn_52 {G : en_G} {q : Option en_V → en_S → Prop}  {l0 l1 l3 : en_V} {x2 : Int32} {σ : en_S} : en_J (X_X2_checkToTurn G q) 52 [l0, l1, en_I x2, l3] [] σ ↔ en_J (X_X2_checkToTurn G q) 55 [l0, en_c2 l1, en_I (x2 + 1), l3] [] σ := ej_iinc d_X2_checkToTurn_52 rfl (by decide +kernel) rfl
theorem d_X2_checkToTurn_55 : decode cX2_checkToTurn 55 = .ok (.goto (-28), 3) := by decide +kernel
theorem j_X2_checkToTurn_55 {G : en_G} {q : Option en_V → en_S → Prop}  {l0 l1 l2 l3 : en_V}  {σ : en_S} : en_J (X_X2_checkToTurn G q) 55 [l0, l1, l2, l3] [] σ ↔ en_J (X_X2_checkToTurn G q) 27 [l0, l1, l2, l3] [] σ := en_j1 d_X2_checkToTurn_55 rfl ⟨rfl, by decide⟩
theorem d_X2_checkToTurn_58 : decode cX2_checkToTurn 58 = .ok (.aconst_null, 1) := by decide +kernel
theorem j_X2_checkToTurn_58 {G : en_G} {q : Option en_V → en_S → Prop}  {l0 l1 l2 l3 : en_V}  {σ : en_S} : en_J (X_X2_checkToTurn G q) 58 [l0, l1, l2, l3] [] σ ↔ en_J (X_X2_checkToTurn G q) 59 [l0, l1, l2, l3] [en_R none] σ := en_j1 d_X2_checkToTurn_58 rfl rfl
theorem d_X2_checkToTurn_59 : decode cX2_checkToTurn 59 = .ok (.areturn, 1) := by decide +kernel
theorem j_X2_checkToTurn_59 {G : en_G} {q : Option en_V → en_S → Prop}  {l0 l1 l2 l3 : en_V} {a0 : Option Nat} {σ : en_S} : en_J (X_X2_checkToTurn G q) 59 [l0, l1, l2, l3] [en_R a0] σ ↔ q (some (en_R a0)) σ := en_jr d_X2_checkToTurn_59 rfl ⟨fun h => h.2.2, fun h => ⟨rfl, rfl, h⟩⟩
theorem wc_X2_checkToTurn : Jvm.Cond.code yX2_checkToTurn cX2_checkToTurn 4 (some (.object "NodeStage$Node")) ∈ en_W := en_inW (List.mem_of_getElem? (i := 405) (by decide +kernel)) (by decide +kernel)
theorem wi_X2_checkToTurn : Jvm.Cond.instanceMethod yX2_checkToTurn ∈ en_W := en_inW (List.mem_of_getElem? (i := 403) (by decide +kernel)) (by decide +kernel)
theorem wx_X2_checkToTurn : Jvm.Cond.selects RX2 yX2_checkToTurn yX2_checkToTurn ∈ en_W := en_inW (List.mem_of_getElem? (i := 404) (by decide +kernel)) (by decide +kernel)
theorem jw_X2_checkToTurn {G : en_G} {q : Option en_V → en_S → Prop} {x : Nat} {na la ba : Nat → Nat} {rm : Nat} {A : st_A} {σ : en_S} (hC : CX G x na la ba rm A σ) {d m : Nat} {p : List (Nat × Nat)} {l3 : en_V} (hd : d < 4) (hp : ev_path na (x + 32 + 3 * d) p σ) (hlt : ∀ e ∈ p, e.1 < tr_N (sa_T A)) (h24 : p.length ≤ 24) (hm : m ≤ p.length) : ∀ (j k : Nat), k + j = m → q (some (en_R ((ds_find (sa_T A) ((p.take m).drop k)).map na))) σ → en_J (X_X2_checkToTurn G q) 27 [en_R (some (x + 32 + 3 * d)), en_I (nI m), en_I (nI k), l3] [] σ := by
  intro j
  obtain ⟨e1, e2, e3, e4, e5, e6⟩ := hC.1.2.2.2.2.1 d hd
  induction j generalizing l3 with
  | zero =>
    intro k hk hq
    have : k = m := by omega
    subst this
    have n1 : nI k ≤ nI k := nI_le (Nat.le_refl _) (by omega)
    rw [j_X2_checkToTurn_27]
    simp only [j_X2_checkToTurn_0, j_X2_checkToTurn_1, j_X2_checkToTurn_4, j_X2_checkToTurn_7, j_X2_checkToTurn_8, j_X2_checkToTurn_9, j_X2_checkToTurn_10, j_X2_checkToTurn_13, j_X2_checkToTurn_16, j_X2_checkToTurn_17, j_X2_checkToTurn_20, j_X2_checkToTurn_23, j_X2_checkToTurn_24, j_X2_checkToTurn_25, j_X2_checkToTurn_26, j_X2_checkToTurn_28, j_X2_checkToTurn_29, j_X2_checkToTurn_32, j_X2_checkToTurn_33, j_X2_checkToTurn_34, j_X2_checkToTurn_37, j_X2_checkToTurn_38, j_X2_checkToTurn_39, j_X2_checkToTurn_42, j_X2_checkToTurn_43, j_X2_checkToTurn_46, j_X2_checkToTurn_47, j_X2_checkToTurn_50, j_X2_checkToTurn_51, j_X2_checkToTurn_52, j_X2_checkToTurn_55, j_X2_checkToTurn_58, j_X2_checkToTurn_59, en_c2I, en_c2R, en_c2U, en_c2D, Option.some.injEq, exists_eq_left', exists_eq_left, Option.map_some, Option.map_none, not_true_eq_false, false_implies, true_implies, and_true, true_and, reduceCtorEq, not_false_eq_true, n1]
    have : (p.take k).drop k = [] := by simp
    rw [this] at hq
    exact hq
  | succ j ih =>
    intro k hk hq
    have hkm : k < p.length := by omega
    have n1 : ¬ nI m ≤ nI k := nI_ge (by omega) (by omega)
    rw [j_X2_checkToTurn_27]
    simp only [j_X2_checkToTurn_0, j_X2_checkToTurn_1, j_X2_checkToTurn_4, j_X2_checkToTurn_7, j_X2_checkToTurn_8, j_X2_checkToTurn_9, j_X2_checkToTurn_10, j_X2_checkToTurn_13, j_X2_checkToTurn_16, j_X2_checkToTurn_17, j_X2_checkToTurn_20, j_X2_checkToTurn_23, j_X2_checkToTurn_24, j_X2_checkToTurn_25, j_X2_checkToTurn_26, j_X2_checkToTurn_28, j_X2_checkToTurn_29, j_X2_checkToTurn_32, j_X2_checkToTurn_33, j_X2_checkToTurn_34, j_X2_checkToTurn_37, j_X2_checkToTurn_38, j_X2_checkToTurn_39, j_X2_checkToTurn_42, j_X2_checkToTurn_43, j_X2_checkToTurn_46, j_X2_checkToTurn_47, j_X2_checkToTurn_50, j_X2_checkToTurn_51, j_X2_checkToTurn_52, j_X2_checkToTurn_55, j_X2_checkToTurn_58, j_X2_checkToTurn_59, en_c2I, en_c2R, en_c2U, en_c2D, Option.some.injEq, exists_eq_left', exists_eq_left, Option.map_some, Option.map_none, not_true_eq_false, false_implies, true_implies, and_true, true_and, reduceCtorEq, not_false_eq_true, n1]
    refine en_use (cu_X2_nodeOf (c := x + 33 + 3 * d) ⟨e2, e3, e5⟩) ?_
    rintro v σ' ⟨rfl, rfl⟩
    have hge : p[k]? = some p[k] := List.getElem?_eq_getElem hkm
    have hcond : 0 ≤ nI k ∧ nI k < 24 := ⟨nI_pos' (by omega), by rw [show (24 : Int32) = nI 24 from by decide +kernel]; exact nI_lt (by omega) (by decide)⟩
    have harr := (hp.2 k _ hge).1
    rw [show x + 32 + 3 * d + 1 = x + 33 + 3 * d by omega] at harr
    rw [if_pos hcond, nI_clamp (by omega), harr]
    have hn := hlt _ (List.getElem_mem hkm)
    obtain ⟨r1, r2, r3, -⟩ := hC.2.1.1 _ hn
    have hdrop : (p.take m).drop k = p[k] :: (p.take m).drop (k + 1) := by
      rw [List.drop_eq_getElem_cons (by rw [List.length_take]; omega)]
      rw [List.getElem_take]
    rw [hdrop] at hq
    simp only [ds_find] at hq
    have n5 : nI k + 1 = nI (k + 1) := nI_1 _
    by_cases h2 : tr_kd (sa_T A) p[k].1 = 2
    · rw [if_pos h2] at hq
      simp only [Option.toList, List.cons_append, List.nil_append, j_X2_checkToTurn_0, j_X2_checkToTurn_1, j_X2_checkToTurn_4, j_X2_checkToTurn_7, j_X2_checkToTurn_8, j_X2_checkToTurn_9, j_X2_checkToTurn_10, j_X2_checkToTurn_13, j_X2_checkToTurn_16, j_X2_checkToTurn_17, j_X2_checkToTurn_20, j_X2_checkToTurn_23, j_X2_checkToTurn_24, j_X2_checkToTurn_25, j_X2_checkToTurn_26, j_X2_checkToTurn_28, j_X2_checkToTurn_29, j_X2_checkToTurn_32, j_X2_checkToTurn_33, j_X2_checkToTurn_34, j_X2_checkToTurn_37, j_X2_checkToTurn_38, j_X2_checkToTurn_39, j_X2_checkToTurn_42, j_X2_checkToTurn_43, j_X2_checkToTurn_46, j_X2_checkToTurn_47, j_X2_checkToTurn_50, j_X2_checkToTurn_51, j_X2_checkToTurn_52, j_X2_checkToTurn_55, j_X2_checkToTurn_58, j_X2_checkToTurn_59, en_c2I, en_c2R, en_c2U, en_c2D, Option.some.injEq, exists_eq_left', exists_eq_left, Option.map_some, Option.map_none, not_true_eq_false, false_implies, true_implies, and_true, true_and, reduceCtorEq, not_false_eq_true, r1, r3, h2]
      exact hq
    · rw [if_neg h2] at hq
      simp only [Option.toList, List.cons_append, List.nil_append, j_X2_checkToTurn_0, j_X2_checkToTurn_1, j_X2_checkToTurn_4, j_X2_checkToTurn_7, j_X2_checkToTurn_8, j_X2_checkToTurn_9, j_X2_checkToTurn_10, j_X2_checkToTurn_13, j_X2_checkToTurn_16, j_X2_checkToTurn_17, j_X2_checkToTurn_20, j_X2_checkToTurn_23, j_X2_checkToTurn_24, j_X2_checkToTurn_25, j_X2_checkToTurn_26, j_X2_checkToTurn_28, j_X2_checkToTurn_29, j_X2_checkToTurn_32, j_X2_checkToTurn_33, j_X2_checkToTurn_34, j_X2_checkToTurn_37, j_X2_checkToTurn_38, j_X2_checkToTurn_39, j_X2_checkToTurn_42, j_X2_checkToTurn_43, j_X2_checkToTurn_46, j_X2_checkToTurn_47, j_X2_checkToTurn_50, j_X2_checkToTurn_51, j_X2_checkToTurn_52, j_X2_checkToTurn_55, j_X2_checkToTurn_58, j_X2_checkToTurn_59, en_c2I, en_c2R, en_c2U, en_c2D, Option.some.injEq, exists_eq_left', exists_eq_left, Option.map_some, Option.map_none, not_true_eq_false, false_implies, true_implies, and_true, true_and, reduceCtorEq, not_false_eq_true, r1, r3, h2, n5]
      exact ih (k + 1) (by omega) hq
theorem jl_X2_checkToTurn {G : en_G}  {x : Nat} {na : Nat → Nat} {la : Nat → Nat} {ba : Nat → Nat} {rm : Nat} {A : st_A} {d : Nat} {E : ev_E} {σ : en_S} (hp : CX G x na la ba rm A σ ∧ d < 4 ∧ ev_ok na (x + 32 + 3 * d) E σ ∧ (∀ e ∈ E.2.2, e.1 < tr_N (sa_T A)) ∧ 1 ≤ E.2.2.length ∧ E.2.2.length ≤ 24) : en_J (X_X2_checkToTurn G (fun v σ' => σ' = σ ∧ v = some (en_R ((ds_check (sa_T A) E.1 E.2.1 E.2.2).map na)))) 0 [en_R (some (x + 32 + 3 * d)), en_U, en_U, en_U] [] σ := by
  obtain ⟨hC, hd, hE, hlt, h1, h24⟩ := hp
  obtain ⟨e1, e2, e3, e4, e5, e6⟩ := hC.1.2.2.2.2.1 d hd
  obtain ⟨v1, v2, v3, v4⟩ := id hE
  have i1 : ¬ (1 : Int32) = 0 := by decide
  unfold ds_check
  by_cases ht : E.1 = 0
  · rw [ht] at v1
    rw [if_pos ht]
    by_cases hb : E.2.1 % 2 = 1
    · have hb2 : decide (E.2.1 % 2 = 1) = true := by simp [hb]
      rw [hb2, st_bt] at v2
      rw [if_pos hb]
      have hj := jw_X2_checkToTurn (q := fun v σ' => σ' = σ ∧ v = some (en_R ((ds_find (sa_T A) E.2.2).map na))) (l3 := en_U) hC hd hE.2.2.2 hlt h24 (m := E.2.2.length) (Nat.le_refl _) E.2.2.length 0 (by omega) ⟨rfl, by simp⟩
      rw [show nI 0 = 0 from by decide +kernel] at hj
      simp only [j_X2_checkToTurn_0, j_X2_checkToTurn_1, j_X2_checkToTurn_4, j_X2_checkToTurn_7, j_X2_checkToTurn_8, j_X2_checkToTurn_9, j_X2_checkToTurn_10, j_X2_checkToTurn_13, j_X2_checkToTurn_16, j_X2_checkToTurn_17, j_X2_checkToTurn_20, j_X2_checkToTurn_23, j_X2_checkToTurn_24, j_X2_checkToTurn_25, j_X2_checkToTurn_26, j_X2_checkToTurn_28, j_X2_checkToTurn_29, j_X2_checkToTurn_32, j_X2_checkToTurn_33, j_X2_checkToTurn_34, j_X2_checkToTurn_37, j_X2_checkToTurn_38, j_X2_checkToTurn_39, j_X2_checkToTurn_42, j_X2_checkToTurn_43, j_X2_checkToTurn_46, j_X2_checkToTurn_47, j_X2_checkToTurn_50, j_X2_checkToTurn_51, j_X2_checkToTurn_52, j_X2_checkToTurn_55, j_X2_checkToTurn_58, j_X2_checkToTurn_59, en_c2I, en_c2R, en_c2U, en_c2D, Option.some.injEq, exists_eq_left', exists_eq_left, Option.map_some, Option.map_none, not_true_eq_false, false_implies, true_implies, and_true, true_and, reduceCtorEq, not_false_eq_true, e2, v1, v2, v4.1, i1]
      exact hj
    · have hb2 : decide (E.2.1 % 2 = 1) = false := by simp [hb]
      rw [hb2, st_bf] at v2
      rw [if_neg hb]
      have hj := jw_X2_checkToTurn (q := fun v σ' => σ' = σ ∧ v = some (en_R ((ds_find (sa_T A) (E.2.2.take 1)).map na))) (l3 := en_U) hC hd hE.2.2.2 hlt h24 (m := 1) h1 1 0 (by omega) ⟨rfl, by simp⟩
      rw [show nI 0 = 0 from by decide +kernel, show nI 1 = 1 from by decide +kernel] at hj
      simp only [j_X2_checkToTurn_0, j_X2_checkToTurn_1, j_X2_checkToTurn_4, j_X2_checkToTurn_7, j_X2_checkToTurn_8, j_X2_checkToTurn_9, j_X2_checkToTurn_10, j_X2_checkToTurn_13, j_X2_checkToTurn_16, j_X2_checkToTurn_17, j_X2_checkToTurn_20, j_X2_checkToTurn_23, j_X2_checkToTurn_24, j_X2_checkToTurn_25, j_X2_checkToTurn_26, j_X2_checkToTurn_28, j_X2_checkToTurn_29, j_X2_checkToTurn_32, j_X2_checkToTurn_33, j_X2_checkToTurn_34, j_X2_checkToTurn_37, j_X2_checkToTurn_38, j_X2_checkToTurn_39, j_X2_checkToTurn_42, j_X2_checkToTurn_43, j_X2_checkToTurn_46, j_X2_checkToTurn_47, j_X2_checkToTurn_50, j_X2_checkToTurn_51, j_X2_checkToTurn_52, j_X2_checkToTurn_55, j_X2_checkToTurn_58, j_X2_checkToTurn_59, en_c2I, en_c2R, en_c2U, en_c2D, Option.some.injEq, exists_eq_left', exists_eq_left, Option.map_some, Option.map_none, not_true_eq_false, false_implies, true_implies, and_true, true_and, reduceCtorEq, not_false_eq_true, e2, v1, v2, v4.1, i1]
      exact hj
  · have ht2 : ¬ en_fi σ 203 (x + 32 + 3 * d) = 0 := by rw [v1]; exact ht
    rw [if_neg ht]
    simp only [j_X2_checkToTurn_0, j_X2_checkToTurn_1, j_X2_checkToTurn_4, j_X2_checkToTurn_7, j_X2_checkToTurn_8, j_X2_checkToTurn_9, j_X2_checkToTurn_10, j_X2_checkToTurn_13, j_X2_checkToTurn_16, j_X2_checkToTurn_17, j_X2_checkToTurn_20, j_X2_checkToTurn_23, j_X2_checkToTurn_24, j_X2_checkToTurn_25, j_X2_checkToTurn_26, j_X2_checkToTurn_28, j_X2_checkToTurn_29, j_X2_checkToTurn_32, j_X2_checkToTurn_33, j_X2_checkToTurn_34, j_X2_checkToTurn_37, j_X2_checkToTurn_38, j_X2_checkToTurn_39, j_X2_checkToTurn_42, j_X2_checkToTurn_43, j_X2_checkToTurn_46, j_X2_checkToTurn_47, j_X2_checkToTurn_50, j_X2_checkToTurn_51, j_X2_checkToTurn_52, j_X2_checkToTurn_55, j_X2_checkToTurn_58, j_X2_checkToTurn_59, en_c2I, en_c2R, en_c2U, en_c2D, Option.some.injEq, exists_eq_left', exists_eq_left, Option.map_some, Option.map_none, not_true_eq_false, false_implies, true_implies, and_true, true_and, reduceCtorEq, not_false_eq_true, e2, ht2]
theorem jp_X2_checkToTurn {G : en_G}  : ∀ as σ, (C_X2_checkToTurn G).1 as σ → (en_lc as).length ≤ 4 ∧ en_J (X_X2_checkToTurn G (fun r σ' => (C_X2_checkToTurn G).2 as σ r σ')) 0 (en_loc 4 as) [] σ := en_ghJ (fun g as σ h => by
  obtain ⟨hp, h2⟩ := h
  subst h2
  exact ⟨Nat.le_of_ble_eq_true rfl, jl_X2_checkToTurn hp⟩)
theorem wl_X2_checkToTurn_65 : Jvm.Cond.methodLink RX2 65 yX2_nodeOf ∈ en_W := en_inW (List.mem_of_getElem? (i := 406) (by decide +kernel)) (by decide +kernel)
theorem ok_X2_checkToTurn {G : en_G}  : en_Ok G 2 yX2_checkToTurn cX2_checkToTurn 4 (some (.object "NodeStage$Node")) (C_X2_checkToTurn G) :=
  en_met (own := RX2) (fl := en_lk fl2) (nw := en_lk nw2) (aw := en_lk aw2) (dc := en_lk dc2) (ca := en_lk (ca_X2_checkToTurn G)) (rt := 3) (ini := false) (by decide +kernel) (Or.inr (Or.inr (Or.inr (Or.inl ⟨rfl, _, rfl⟩)))) (fun h => by cases h) rfl (fun q => en_LkF fl2_ok nw2_ok aw2_ok dc2_ok) (by
    intro idx q hq
    have hm := en_lk_mem hq
    simp only [ca_X2_checkToTurn, List.mem_cons, Prod.mk.injEq, List.not_mem_nil, or_false] at hm
    rcases hm with ⟨rfl, rfl⟩
    · exact en_clV (r := (RX2, TX2, 9)) 2 1 ok_X2_nodeOf (by decide) (by decide) rfl rfl pr_X2_nodeOf wl_X2_checkToTurn_65 wi_X2_nodeOf wx_X2_nodeOf wz_2 wc_X2_nodeOf ⟨by decide +kernel, by decide +kernel, by decide +kernel⟩) jp_X2_checkToTurn
