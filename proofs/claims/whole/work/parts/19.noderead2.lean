
/-- a list of different numbers below N has at most N places -/
theorem tr_pigeon : ∀ (N : Nat) (l : List Nat), l.Nodup → (∀ a ∈ l, a < N) → l.length ≤ N := by
  intro N
  induction N with
  | zero =>
    intro l _ h
    cases l with
    | nil => exact Nat.le_refl _
    | cons a l => exact absurd (h a List.mem_cons_self) (Nat.not_lt_zero _)
  | succ N ih =>
    intro l hn h
    by_cases hm : N ∈ l
    · have h1 := ih (l.erase N) (hn.erase N) (fun a ha => by
        have h2 := h a (List.mem_of_mem_erase ha)
        have h3 : a ≠ N := fun z => by rw [z] at ha; exact (List.Nodup.not_mem_erase hn) ha
        omega)
      rw [List.length_erase_of_mem hm] at h1
      omega
    · have h1 := ih l hn (fun a ha => by
        have h2 := h a ha
        have h3 : a ≠ N := fun z => by rw [z] at ha; exact hm ha
        omega)
      omega
theorem tr_len {T : tr_T} (hw : tr_wf T) {n : Nat} (hn : n < tr_N T) : (tr_ch T n).length ≤ 24 := Nat.le_trans (tr_pigeon _ _ (hw.2.2.2.1 n hn) (fun a ha => (hw.2.2.1 n a hn ha).1)) hw.1.2

theorem tr_after_app {c : Nat} {rest : List Nat} : ∀ {pre : List Nat}, (pre ++ c :: rest).Nodup → tr_after (pre ++ c :: rest) c = rest.head? := by
  intro pre
  induction pre with
  | nil => intro _; simp [tr_after]
  | cons a pre ih =>
    intro h
    rw [List.cons_append] at h ⊢
    have h2 := List.nodup_cons.mp h
    have hne : ¬ a = c := fun z => h2.1 (by rw [z]; exact List.mem_append_right _ List.mem_cons_self)
    simp only [tr_after, if_neg hne]
    exact ih h2.2
theorem tr_walk {T : tr_T} (hw : tr_wf T) {p c : Nat} {pre rest : List Nat} (hp : p < tr_N T) (h : tr_ch T p = pre ++ c :: rest) : tr_nx T c = rest.head? ∧ c < tr_N T ∧ tr_pa T c = some p := by
  have hm : c ∈ tr_ch T p := by rw [h]; exact List.mem_append_right _ List.mem_cons_self
  obtain ⟨h1, h2⟩ := hw.2.2.1 p c hp hm
  refine ⟨?_, h1, h2⟩
  unfold tr_nx
  rw [h2]
  show tr_after (tr_ch T p) c = _
  have hn := hw.2.2.2.1 p hp
  rw [h] at hn ⊢
  exact tr_after_app hn
theorem jl_X4_childCount {G : en_G} {q : Option en_V → en_S → Prop} {σ : en_S} {na : Nat → Nat} {T : tr_T} {o0 : Option Nat} {p : Nat} (hR : tr_R na T σ) (hw : tr_wf T) (hp : p < tr_N T) : ∀ (rest pre : List Nat), tr_ch T p = pre ++ rest → q (some (en_I (nI (pre.length + rest.length)))) σ → en_J (X_X4_childCount G q) 7 [en_R o0, en_I (nI pre.length), en_R (rest.head?.map na)] [] σ := by
  intro rest
  induction rest with
  | nil =>
    intro pre _ hq
    rw [j_X4_childCount_7]
    simp only [j_X4_childCount_0, j_X4_childCount_1, j_X4_childCount_2, j_X4_childCount_3, j_X4_childCount_6, j_X4_childCount_8, j_X4_childCount_11, j_X4_childCount_14, j_X4_childCount_15, j_X4_childCount_18, j_X4_childCount_19, j_X4_childCount_22, j_X4_childCount_23, en_c2I, en_c2R, en_c2U, en_c2D, Option.some.injEq, exists_eq_left', exists_eq_left, List.head?_nil, Option.map_some, Option.map_none, not_true_eq_false, false_implies, true_implies, and_true, true_and, reduceCtorEq, not_false_eq_true]
    exact hq
  | cons c rest ih =>
    intro pre h hq
    obtain ⟨hx, hc, -⟩ := tr_walk hw hp h
    obtain ⟨hcl, -, -, -, -, -, -, -, -, hnx, -⟩ := hR.1 c hc
    rw [j_X4_childCount_7]
    simp only [j_X4_childCount_0, j_X4_childCount_1, j_X4_childCount_2, j_X4_childCount_3, j_X4_childCount_6, j_X4_childCount_8, j_X4_childCount_11, j_X4_childCount_14, j_X4_childCount_15, j_X4_childCount_18, j_X4_childCount_19, j_X4_childCount_22, j_X4_childCount_23, en_c2I, en_c2R, en_c2U, en_c2D, Option.some.injEq, exists_eq_left', exists_eq_left, List.head?_cons, Option.map_some, Option.map_none, not_true_eq_false, false_implies, true_implies, and_true, true_and, reduceCtorEq, not_false_eq_true, hcl, hnx, hx, nI_1]
    have := ih (pre ++ [c]) (by rw [h]; simp) (by rw [List.length_append]; rw [List.length_cons] at hq; simp only [List.length_cons, List.length_nil]; rw [show pre.length + (0 + 1) + rest.length = pre.length + (rest.length + 1) by omega]; exact hq)
    rw [List.length_append] at this
    exact this
theorem jg_X4_childCount {G : en_G} : ∀ (g : (Nat → Nat) × tr_T × Nat) as σ, (tr_R g.1 g.2.1 σ ∧ tr_wf g.2.1 ∧ g.2.2 < tr_N g.2.1 ∧ as = [en_R (some (g.1 g.2.2))]) → (en_lc as).length ≤ 3 ∧ en_J (X_X4_childCount G (fun r σ' => σ' = σ ∧ r = some (en_I (nI (tr_ch g.2.1 g.2.2).length)))) 0 (en_loc 3 as) [] σ := by
  rintro ⟨na, T, n⟩ as σ ⟨hR, hw, hn, rfl⟩
  refine ⟨Nat.le_of_ble_eq_true rfl, ?_⟩
  show en_J _ 0 [en_R (some (na n)), en_U, en_U] [] σ
  obtain ⟨hc, -, -, -, hho, hpa, hfi, -, -, hnx, hsh⟩ := hR.1 n hn
  simp only [j_X4_childCount_0, j_X4_childCount_1, j_X4_childCount_2, j_X4_childCount_3, j_X4_childCount_6, en_c2I, en_c2R, en_c2U, en_c2D, Option.some.injEq, exists_eq_left', exists_eq_left, hc, true_and, hfi]
  have := jl_X4_childCount (G := G) (q := fun r σ' => σ' = σ ∧ r = some (en_I (nI (tr_ch T n).length))) (o0 := some (na n)) hR hw hn (tr_ch T n) [] rfl ⟨rfl, by simp⟩
  exact this
theorem jp_X4_childCount {G : en_G} : ∀ as σ, C_X4_childCount.1 as σ → (en_lc as).length ≤ 3 ∧ en_J (X_X4_childCount G (fun r σ' => C_X4_childCount.2 as σ r σ')) 0 (en_loc 3 as) [] σ := en_ghJ jg_X4_childCount
theorem ok_X4_childCount {G : en_G}  : en_Ok G 1 yX4_childCount cX4_childCount 3 (some .int) C_X4_childCount :=
  en_met (own := RX4) (fl := en_lk fl4) (nw := en_lk nw4) (aw := en_lk aw4) (dc := en_lk dc4) (ca := en_lk (ca_X4_childCount G)) (rt := 1) (ini := false) (by decide +kernel) (Or.inr (Or.inl ⟨rfl, rfl⟩)) (fun h => by cases h) rfl (fun q => en_LkF fl4_ok nw4_ok aw4_ok dc4_ok) (fun idx q hq => by cases hq) jp_X4_childCount

theorem nI_inj {a b : Nat} (ha : a < 2 ^ 31) (hb : b < 2 ^ 31) (h : nI a = nI b) : a = b := (nI_eq ha hb).mp h
theorem jl_X4_childAt {G : en_G} {q : Option en_V → en_S → Prop} {σ : en_S} {na : Nat → Nat} {T : tr_T} {o0 : Option Nat} {p : Nat} {k : Int32} (hR : tr_R na T σ) (hw : tr_wf T) (hp : p < tr_N T) : ∀ (rest pre : List Nat), pre.length + rest.length < 2 ^ 31 → tr_ch T p = pre ++ rest → q (some (en_R ((if 0 ≤ k.toInt ∧ pre.length ≤ k.toInt.toNat then rest[k.toInt.toNat - pre.length]? else none).map na))) σ → en_J (X_X4_childAt G q) 7 [en_R o0, en_I k, en_I (nI pre.length), en_R (rest.head?.map na)] [] σ := by
  intro rest
  induction rest with
  | nil =>
    intro pre _ _ hq
    rw [j_X4_childAt_7]
    simp only [j_X4_childAt_0, j_X4_childAt_1, j_X4_childAt_2, j_X4_childAt_3, j_X4_childAt_6, j_X4_childAt_8, j_X4_childAt_11, j_X4_childAt_12, j_X4_childAt_13, j_X4_childAt_16, j_X4_childAt_17, j_X4_childAt_18, j_X4_childAt_21, j_X4_childAt_22, j_X4_childAt_25, j_X4_childAt_26, j_X4_childAt_29, j_X4_childAt_30, en_c2I, en_c2R, en_c2U, en_c2D, Option.some.injEq, exists_eq_left', exists_eq_left, List.head?_nil, Option.map_some, Option.map_none, not_true_eq_false, false_implies, true_implies, and_true, true_and, reduceCtorEq, not_false_eq_true]
    simpa using hq
  | cons c rest ih =>
    intro pre hlen h hq
    obtain ⟨hx, hc, -⟩ := tr_walk hw hp h
    obtain ⟨hcl, -, -, -, -, -, -, -, -, hnx, -⟩ := hR.1 c hc
    have hl : pre.length < 2 ^ 31 := by omega
    rw [j_X4_childAt_7]
    simp only [j_X4_childAt_0, j_X4_childAt_1, j_X4_childAt_2, j_X4_childAt_3, j_X4_childAt_6, j_X4_childAt_8, j_X4_childAt_11, j_X4_childAt_12, j_X4_childAt_13, j_X4_childAt_16, j_X4_childAt_17, j_X4_childAt_18, j_X4_childAt_21, j_X4_childAt_22, j_X4_childAt_25, j_X4_childAt_26, j_X4_childAt_29, j_X4_childAt_30, en_c2I, en_c2R, en_c2U, en_c2D, Option.some.injEq, exists_eq_left', exists_eq_left, List.head?_cons, Option.map_some, Option.map_none, not_true_eq_false, false_implies, true_implies, and_true, true_and, reduceCtorEq, not_false_eq_true, hcl, hnx, hx, nI_1]
    rw [List.length_cons] at hlen
    refine ⟨fun hne => ?_, fun he => ?_⟩
    · have := ih (pre ++ [c]) (by simp; omega) (by rw [h]; simp) ?_
      · rw [List.length_append] at this
        exact this
      · rw [List.length_append]
        simp only [List.length_cons, List.length_nil]
        by_cases hk : 0 ≤ k.toInt ∧ pre.length ≤ k.toInt.toNat
        · rw [if_pos hk] at hq
          have hne2 : k.toInt.toNat ≠ pre.length := fun z => hne (by
            rw [← Int32.toInt_inj, nI_toInt hl, ← z]; exact Int.toNat_of_nonneg hk.1)
          rw [if_pos ⟨hk.1, by omega⟩]
          rw [show k.toInt.toNat - pre.length = (k.toInt.toNat - (pre.length + (0 + 1))) + 1 by omega, List.getElem?_cons_succ] at hq
          exact hq
        · rw [if_neg hk] at hq
          rw [if_neg (fun z => hk ⟨z.1, by omega⟩)]
          exact hq
    · have he := Classical.not_not.mp he
      have hk : k.toInt = pre.length := by rw [← he, nI_toInt hl]
      rw [hk] at hq
      simpa using hq
theorem jg_X4_childAt {G : en_G} : ∀ (g : (Nat → Nat) × tr_T × Nat × Int32) as σ, (tr_R g.1 g.2.1 σ ∧ tr_wf g.2.1 ∧ g.2.2.1 < tr_N g.2.1 ∧ as = [en_R (some (g.1 g.2.2.1)), en_I g.2.2.2]) → (en_lc as).length ≤ 4 ∧ en_J (X_X4_childAt G (fun r σ' => σ' = σ ∧ r = some (en_R ((if 0 ≤ g.2.2.2.toInt then (tr_ch g.2.1 g.2.2.1)[g.2.2.2.toInt.toNat]? else none).map g.1)))) 0 (en_loc 4 as) [] σ := by
  rintro ⟨na, T, n, k⟩ as σ ⟨hR, hw, hn, rfl⟩
  refine ⟨Nat.le_of_ble_eq_true rfl, ?_⟩
  show en_J _ 0 [en_R (some (na n)), en_I k, en_U, en_U] [] σ
  obtain ⟨hc, -, -, -, hho, hpa, hfi, -, -, hnx, hsh⟩ := hR.1 n hn
  simp only [j_X4_childAt_0, j_X4_childAt_1, j_X4_childAt_2, j_X4_childAt_3, j_X4_childAt_6, en_c2I, en_c2R, en_c2U, en_c2D, Option.some.injEq, exists_eq_left', exists_eq_left, hc, true_and, hfi]
  have hlen : (tr_ch T n).length ≤ 24 := tr_len hw hn
  have := jl_X4_childAt (G := G) (k := k) (q := fun r σ' => σ' = σ ∧ r = some (en_R ((if 0 ≤ k.toInt then (tr_ch T n)[k.toInt.toNat]? else none).map na))) (o0 := some (na n)) hR hw hn (tr_ch T n) [] (by simp; omega) rfl ⟨rfl, by simp⟩
  exact this
theorem jp_X4_childAt {G : en_G} : ∀ as σ, C_X4_childAt.1 as σ → (en_lc as).length ≤ 4 ∧ en_J (X_X4_childAt G (fun r σ' => C_X4_childAt.2 as σ r σ')) 0 (en_loc 4 as) [] σ := en_ghJ jg_X4_childAt
theorem ok_X4_childAt {G : en_G}  : en_Ok G 1 yX4_childAt cX4_childAt 4 (some (.object "NodeStage$Node")) C_X4_childAt :=
  en_met (own := RX4) (fl := en_lk fl4) (nw := en_lk nw4) (aw := en_lk aw4) (dc := en_lk dc4) (ca := en_lk (ca_X4_childAt G)) (rt := 3) (ini := false) (by decide +kernel) (Or.inr (Or.inr (Or.inr (Or.inl ⟨rfl, _, rfl⟩)))) (fun h => by cases h) rfl (fun q => en_LkF fl4_ok nw4_ok aw4_ok dc4_ok) (fun idx q hq => by cases hq) jp_X4_childAt

theorem jl_X4_assignedSlot {G : en_G} {q : Option en_V → en_S → Prop} {σ : en_S} {na : Nat → Nat} {T : tr_T} {n : Nat} (hR : tr_R na T σ) (hw : tr_wf T) (hn : n < tr_N T) (hel : tr_el T n) : ∀ (k : Nat) (cur : Option Nat), k ≤ 24 → (∀ m, cur = some m → m < tr_N T) → q (some (en_R ((tr_asF T (tr_nm T n) k cur).map na))) σ → en_J (X_X4_assignedSlot G q) 21 [en_R (some (na n)), en_R (cur.map na), en_I (nI (24 - k))] [] σ := by
  intro k
  induction k with
  | zero =>
    intro cur _ hcur hq
    rw [j_X4_assignedSlot_21]
    have h24 : (24 : Int32) ≤ nI (24 - 0) := by decide +kernel
    simp only [tr_asF, Option.map_none] at hq
    cases cur with
    | none =>
      simp only [j_X4_assignedSlot_0, j_X4_assignedSlot_1, j_X4_assignedSlot_4, j_X4_assignedSlot_7, j_X4_assignedSlot_8, j_X4_assignedSlot_11, j_X4_assignedSlot_14, j_X4_assignedSlot_17, j_X4_assignedSlot_18, j_X4_assignedSlot_19, j_X4_assignedSlot_20, j_X4_assignedSlot_22, j_X4_assignedSlot_25, j_X4_assignedSlot_26, j_X4_assignedSlot_28, j_X4_assignedSlot_31, j_X4_assignedSlot_32, j_X4_assignedSlot_35, j_X4_assignedSlot_36, j_X4_assignedSlot_39, j_X4_assignedSlot_40, j_X4_assignedSlot_43, j_X4_assignedSlot_44, j_X4_assignedSlot_47, j_X4_assignedSlot_50, j_X4_assignedSlot_51, j_X4_assignedSlot_52, j_X4_assignedSlot_53, j_X4_assignedSlot_56, j_X4_assignedSlot_57, j_X4_assignedSlot_60, j_X4_assignedSlot_63, j_X4_assignedSlot_64, en_c2I, en_c2R, en_c2U, en_c2D, Option.some.injEq, exists_eq_left', exists_eq_left, Option.map_some, Option.map_none, not_true_eq_false, false_implies, true_implies, and_true, true_and, reduceCtorEq, not_false_eq_true]
      exact hq
    | some m =>
      simp only [j_X4_assignedSlot_22, j_X4_assignedSlot_25, j_X4_assignedSlot_26, j_X4_assignedSlot_28, j_X4_assignedSlot_63, j_X4_assignedSlot_64, en_c2I, en_c2R, en_c2U, en_c2D, Option.some.injEq, exists_eq_left', exists_eq_left, Option.map_some, Option.map_none, not_true_eq_false, false_implies, true_implies, and_true, true_and, reduceCtorEq, not_false_eq_true, h24]
      exact hq
  | succ k ih =>
    intro cur hk hcur hq
    rw [j_X4_assignedSlot_21]
    have h24 : ¬ (24 : Int32) ≤ nI (24 - (k + 1)) := nI_ge (b := 24) (by omega) (by decide)
    cases cur with
    | none =>
      simp only [tr_asF, Option.map_none] at hq
      simp only [j_X4_assignedSlot_0, j_X4_assignedSlot_1, j_X4_assignedSlot_4, j_X4_assignedSlot_7, j_X4_assignedSlot_8, j_X4_assignedSlot_11, j_X4_assignedSlot_14, j_X4_assignedSlot_17, j_X4_assignedSlot_18, j_X4_assignedSlot_19, j_X4_assignedSlot_20, j_X4_assignedSlot_22, j_X4_assignedSlot_25, j_X4_assignedSlot_26, j_X4_assignedSlot_28, j_X4_assignedSlot_31, j_X4_assignedSlot_32, j_X4_assignedSlot_35, j_X4_assignedSlot_36, j_X4_assignedSlot_39, j_X4_assignedSlot_40, j_X4_assignedSlot_43, j_X4_assignedSlot_44, j_X4_assignedSlot_47, j_X4_assignedSlot_50, j_X4_assignedSlot_51, j_X4_assignedSlot_52, j_X4_assignedSlot_53, j_X4_assignedSlot_56, j_X4_assignedSlot_57, j_X4_assignedSlot_60, j_X4_assignedSlot_63, j_X4_assignedSlot_64, en_c2I, en_c2R, en_c2U, en_c2D, Option.some.injEq, exists_eq_left', exists_eq_left, Option.map_some, Option.map_none, not_true_eq_false, false_implies, true_implies, and_true, true_and, reduceCtorEq, not_false_eq_true]
      exact hq
    | some m =>
      have hm := hcur m rfl
      obtain ⟨hc, -, hkd, hnm, -⟩ := hR.1 m hm
      obtain ⟨hcn, -, -, hnn, -⟩ := hR.1 n hn
      have hnn := hnn hel
      have h1 : nI (24 - (k + 1)) + 1 = nI (24 - k) := by rw [nI_1]; congr 1; omega
      simp only [j_X4_assignedSlot_0, j_X4_assignedSlot_1, j_X4_assignedSlot_4, j_X4_assignedSlot_7, j_X4_assignedSlot_8, j_X4_assignedSlot_11, j_X4_assignedSlot_14, j_X4_assignedSlot_17, j_X4_assignedSlot_18, j_X4_assignedSlot_19, j_X4_assignedSlot_20, j_X4_assignedSlot_22, j_X4_assignedSlot_25, j_X4_assignedSlot_26, j_X4_assignedSlot_28, j_X4_assignedSlot_31, j_X4_assignedSlot_32, j_X4_assignedSlot_35, j_X4_assignedSlot_36, j_X4_assignedSlot_39, j_X4_assignedSlot_40, j_X4_assignedSlot_43, j_X4_assignedSlot_44, j_X4_assignedSlot_47, j_X4_assignedSlot_50, j_X4_assignedSlot_51, j_X4_assignedSlot_52, j_X4_assignedSlot_53, j_X4_assignedSlot_56, j_X4_assignedSlot_57, j_X4_assignedSlot_60, j_X4_assignedSlot_63, j_X4_assignedSlot_64, en_c2I, en_c2R, en_c2U, en_c2D, Option.some.injEq, exists_eq_left', exists_eq_left, Option.map_some, Option.map_none, not_true_eq_false, false_implies, true_implies, and_true, true_and, reduceCtorEq, not_false_eq_true, hc, hkd, h24, hcn, hnn, h1, C_X4_nextInTreeOrder, en_gh]
      have next : ∀ (hne : ¬ (tr_kd T m = 1 ∧ tr_nm T m = tr_nm T n)), (∃ g : (Nat → Nat) × tr_T × Nat, tr_R g.1 g.2.1 σ ∧ tr_wf g.2.1 ∧ g.2.2 < tr_N g.2.1 ∧ [en_R (some (na m))] = [en_R (some (g.1 g.2.2))]) ∧ ∀ (r : Option en_V) (σ' : en_S), (∀ g : (Nat → Nat) × tr_T × Nat, (tr_R g.1 g.2.1 σ ∧ tr_wf g.2.1 ∧ g.2.2 < tr_N g.2.1 ∧ [en_R (some (na m))] = [en_R (some (g.1 g.2.2))]) → σ' = σ ∧ r = some (en_R ((tr_nto g.2.1 g.2.2).map g.1))) → en_J (X_X4_assignedSlot G q) 56 [en_R (some (na n)), en_R (some (na m)), en_I (nI (24 - (k + 1)))] (r.toList ++ []) σ' := by
        intro hne
        simp only [tr_asF, if_neg hne] at hq
        refine ⟨⟨(na, T, m), hR, hw, hm, rfl⟩, fun r σ' h => ?_⟩
        obtain ⟨rfl, rfl⟩ := h (na, T, m) ⟨hR, hw, hm, rfl⟩
        simp only [Option.toList, List.cons_append, List.nil_append, j_X4_assignedSlot_0, j_X4_assignedSlot_1, j_X4_assignedSlot_4, j_X4_assignedSlot_7, j_X4_assignedSlot_8, j_X4_assignedSlot_11, j_X4_assignedSlot_14, j_X4_assignedSlot_17, j_X4_assignedSlot_18, j_X4_assignedSlot_19, j_X4_assignedSlot_20, j_X4_assignedSlot_22, j_X4_assignedSlot_25, j_X4_assignedSlot_26, j_X4_assignedSlot_28, j_X4_assignedSlot_31, j_X4_assignedSlot_32, j_X4_assignedSlot_35, j_X4_assignedSlot_36, j_X4_assignedSlot_39, j_X4_assignedSlot_40, j_X4_assignedSlot_43, j_X4_assignedSlot_44, j_X4_assignedSlot_47, j_X4_assignedSlot_50, j_X4_assignedSlot_51, j_X4_assignedSlot_52, j_X4_assignedSlot_53, j_X4_assignedSlot_56, j_X4_assignedSlot_57, j_X4_assignedSlot_60, j_X4_assignedSlot_63, j_X4_assignedSlot_64, en_c2I, en_c2R, en_c2U, en_c2D, Option.some.injEq, exists_eq_left', exists_eq_left, h1]
        exact ih (tr_nto T m) (by omega) (fun m' h' => tr_nto_lt hw hm h') hq
      refine ⟨fun hne => next (fun z => hne z.1), fun he => ⟨fun hne => next (fun z => hne (by rw [hnm (Or.inr (Or.inl z.1))]; exact z.2)), fun he2 => ?_⟩⟩
      have he := Classical.not_not.mp he
      have he2 := Classical.not_not.mp he2
      rw [hnm (Or.inr (Or.inl he))] at he2
      simp only [tr_asF, if_pos (And.intro he he2)] at hq
      exact hq
theorem jg_X4_assignedSlot {G : en_G} : ∀ (g : (Nat → Nat) × tr_T × Nat) as σ, (tr_R g.1 g.2.1 σ ∧ tr_wf g.2.1 ∧ g.2.2 < tr_N g.2.1 ∧ as = [en_R (some (g.1 g.2.2))]) → (en_lc as).length ≤ 3 ∧ en_J (X_X4_assignedSlot G (fun r σ' => σ' = σ ∧ r = some (en_R ((tr_as g.2.1 g.2.2).map g.1)))) 0 (en_loc 3 as) [] σ := by
  rintro ⟨na, T, n⟩ as σ ⟨hR, hw, hn, rfl⟩
  refine ⟨Nat.le_of_ble_eq_true rfl, ?_⟩
  show en_J _ 0 [en_R (some (na n)), en_U, en_U] [] σ
  obtain ⟨hc, -, -, -, hho, hpa, hfi, -, -, hnx, hsh⟩ := hR.1 n hn
  have h0 : (0 : Int32) = nI (24 - 24) := by decide +kernel
  cases hp : tr_pa T n with
  | none =>
    rw [hp] at hpa
    simp only [j_X4_assignedSlot_0, j_X4_assignedSlot_1, j_X4_assignedSlot_4, j_X4_assignedSlot_7, j_X4_assignedSlot_8, j_X4_assignedSlot_11, j_X4_assignedSlot_14, j_X4_assignedSlot_17, j_X4_assignedSlot_18, j_X4_assignedSlot_19, j_X4_assignedSlot_20, j_X4_assignedSlot_22, j_X4_assignedSlot_25, j_X4_assignedSlot_26, j_X4_assignedSlot_28, j_X4_assignedSlot_31, j_X4_assignedSlot_32, j_X4_assignedSlot_35, j_X4_assignedSlot_36, j_X4_assignedSlot_39, j_X4_assignedSlot_40, j_X4_assignedSlot_43, j_X4_assignedSlot_44, j_X4_assignedSlot_47, j_X4_assignedSlot_50, j_X4_assignedSlot_51, j_X4_assignedSlot_52, j_X4_assignedSlot_53, j_X4_assignedSlot_56, j_X4_assignedSlot_57, j_X4_assignedSlot_60, j_X4_assignedSlot_63, j_X4_assignedSlot_64, en_c2I, en_c2R, en_c2U, en_c2D, Option.some.injEq, exists_eq_left', exists_eq_left, Option.map_some, Option.map_none, not_true_eq_false, false_implies, true_implies, and_true, true_and, reduceCtorEq, not_false_eq_true, hc, hpa]
    rw [j_X4_assignedSlot_21]
    simp only [j_X4_assignedSlot_0, j_X4_assignedSlot_1, j_X4_assignedSlot_4, j_X4_assignedSlot_7, j_X4_assignedSlot_8, j_X4_assignedSlot_11, j_X4_assignedSlot_14, j_X4_assignedSlot_17, j_X4_assignedSlot_18, j_X4_assignedSlot_19, j_X4_assignedSlot_20, j_X4_assignedSlot_22, j_X4_assignedSlot_25, j_X4_assignedSlot_26, j_X4_assignedSlot_28, j_X4_assignedSlot_31, j_X4_assignedSlot_32, j_X4_assignedSlot_35, j_X4_assignedSlot_36, j_X4_assignedSlot_39, j_X4_assignedSlot_40, j_X4_assignedSlot_43, j_X4_assignedSlot_44, j_X4_assignedSlot_47, j_X4_assignedSlot_50, j_X4_assignedSlot_51, j_X4_assignedSlot_52, j_X4_assignedSlot_53, j_X4_assignedSlot_56, j_X4_assignedSlot_57, j_X4_assignedSlot_60, j_X4_assignedSlot_63, j_X4_assignedSlot_64, en_c2I, en_c2R, en_c2U, en_c2D, Option.some.injEq, exists_eq_left', exists_eq_left, Option.map_some, Option.map_none, not_true_eq_false, false_implies, true_implies, and_true, true_and, reduceCtorEq, not_false_eq_true]
    simp only [tr_as, hp, Option.map_some, Option.map_none, not_true_eq_false, false_implies, true_implies, and_true, true_and, reduceCtorEq, not_false_eq_true]
  | some p =>
    rw [hp] at hpa
    obtain ⟨hpl, -, hel⟩ := hw.2.1 n p hn hp
    obtain ⟨hcp, -, -, -, -, -, -, -, -, -, hshp⟩ := hR.1 p hpl
    simp only [j_X4_assignedSlot_0, j_X4_assignedSlot_1, j_X4_assignedSlot_4, j_X4_assignedSlot_7, j_X4_assignedSlot_8, j_X4_assignedSlot_11, j_X4_assignedSlot_14, j_X4_assignedSlot_17, j_X4_assignedSlot_18, j_X4_assignedSlot_19, j_X4_assignedSlot_20, j_X4_assignedSlot_22, j_X4_assignedSlot_25, j_X4_assignedSlot_26, j_X4_assignedSlot_28, j_X4_assignedSlot_31, j_X4_assignedSlot_32, j_X4_assignedSlot_35, j_X4_assignedSlot_36, j_X4_assignedSlot_39, j_X4_assignedSlot_40, j_X4_assignedSlot_43, j_X4_assignedSlot_44, j_X4_assignedSlot_47, j_X4_assignedSlot_50, j_X4_assignedSlot_51, j_X4_assignedSlot_52, j_X4_assignedSlot_53, j_X4_assignedSlot_56, j_X4_assignedSlot_57, j_X4_assignedSlot_60, j_X4_assignedSlot_63, j_X4_assignedSlot_64, en_c2I, en_c2R, en_c2U, en_c2D, Option.some.injEq, exists_eq_left', exists_eq_left, Option.map_some, Option.map_none, not_true_eq_false, false_implies, true_implies, and_true, true_and, reduceCtorEq, not_false_eq_true, hc, hpa, hcp, hshp]
    rw [h0]
    refine jl_X4_assignedSlot hR hw hn hel 24 (tr_sh T p) (Nat.le_refl _) (fun m hm => (hw.2.2.2.2.2.1 p m hpl hm).1) ⟨rfl, ?_⟩
    simp only [tr_as, hp]
theorem jp_X4_assignedSlot {G : en_G} : ∀ as σ, C_X4_assignedSlot.1 as σ → (en_lc as).length ≤ 3 ∧ en_J (X_X4_assignedSlot G (fun r σ' => C_X4_assignedSlot.2 as σ r σ')) 0 (en_loc 3 as) [] σ := en_ghJ jg_X4_assignedSlot
theorem wl_X4_assignedSlot_50 : Jvm.Cond.methodLink RX4 50 yX4_nextInTreeOrder ∈ en_W := en_inW (List.mem_of_getElem? (i := 397) (by decide +kernel)) (by decide +kernel)
theorem ok_X4_assignedSlot {G : en_G}  : en_Ok G 2 yX4_assignedSlot cX4_assignedSlot 3 (some (.object "NodeStage$Node")) C_X4_assignedSlot :=
  en_met (own := RX4) (fl := en_lk fl4) (nw := en_lk nw4) (aw := en_lk aw4) (dc := en_lk dc4) (ca := en_lk (ca_X4_assignedSlot G)) (rt := 3) (ini := false) (by decide +kernel) (Or.inr (Or.inr (Or.inr (Or.inl ⟨rfl, _, rfl⟩)))) (fun h => by cases h) rfl (fun q => en_LkF fl4_ok nw4_ok aw4_ok dc4_ok) (by
    intro idx q hq
    have hm := en_lk_mem hq
    simp only [ca_X4_assignedSlot, List.mem_cons, Prod.mk.injEq, List.not_mem_nil, or_false] at hm
    rcases hm with ⟨rfl, rfl⟩
    · exact en_clV (r := (RX4, TX4, 12)) 4 0 ok_X4_nextInTreeOrder (by decide) (by decide) rfl rfl pr_X4_nextInTreeOrder wl_X4_assignedSlot_50 wi_X4_nextInTreeOrder wx_X4_nextInTreeOrder wz_4 wc_X4_nextInTreeOrder ⟨by decide +kernel, by decide +kernel, by decide +kernel⟩) jp_X4_assignedSlot

theorem jl_X4_nso {G : en_G} {q : Option en_V → en_S → Prop} {σ : en_S} {na : Nat → Nat} {T : tr_T} {o0 o1 : Option Nat} (hR : tr_R na T σ) (hw : tr_wf T) : ∀ (k m : Nat) (l3 : en_V), tr_it T k m = none → m < tr_N T → q (some (en_R ((tr_sclimb T k m).map na))) σ → en_J (X_X4_nextInShadowOrder G q) 27 [en_R o0, en_R o1, en_R (some (na m)), l3] [] σ := by
  intro k
  induction k with
  | zero => intro m l3 h; cases h
  | succ k ih =>
    intro m l3 hk hm hq
    rw [j_X4_nextInShadowOrder_27]
    have hu := hR.upr hm
    obtain ⟨hc, -, -, -, hho, hpa, -, -, -, hnx, -⟩ := hR.1 m hm
    simp only [tr_sclimb] at hq
    have fin : ∀ x : Option Nat, x = (tr_sn T m).map na → en_J (X_X4_nextInShadowOrder G q) 53 [en_R o0, en_R o1, en_R (some (na m)), en_R x] [] σ := by
      intro x hx
      cases hs : tr_sn T m with
      | some c =>
        rw [hs] at hq hx
        simp only [j_X4_nextInShadowOrder_0, j_X4_nextInShadowOrder_1, j_X4_nextInShadowOrder_4, j_X4_nextInShadowOrder_7, j_X4_nextInShadowOrder_8, j_X4_nextInShadowOrder_11, j_X4_nextInShadowOrder_14, j_X4_nextInShadowOrder_15, j_X4_nextInShadowOrder_18, j_X4_nextInShadowOrder_19, j_X4_nextInShadowOrder_20, j_X4_nextInShadowOrder_23, j_X4_nextInShadowOrder_24, j_X4_nextInShadowOrder_25, j_X4_nextInShadowOrder_26, j_X4_nextInShadowOrder_28, j_X4_nextInShadowOrder_31, j_X4_nextInShadowOrder_32, j_X4_nextInShadowOrder_35, j_X4_nextInShadowOrder_38, j_X4_nextInShadowOrder_39, j_X4_nextInShadowOrder_42, j_X4_nextInShadowOrder_45, j_X4_nextInShadowOrder_48, j_X4_nextInShadowOrder_49, j_X4_nextInShadowOrder_52, j_X4_nextInShadowOrder_53, j_X4_nextInShadowOrder_54, j_X4_nextInShadowOrder_57, j_X4_nextInShadowOrder_58, j_X4_nextInShadowOrder_59, j_X4_nextInShadowOrder_60, j_X4_nextInShadowOrder_63, j_X4_nextInShadowOrder_64, j_X4_nextInShadowOrder_67, j_X4_nextInShadowOrder_68, en_c2I, en_c2R, en_c2U, en_c2D, Option.some.injEq, exists_eq_left', exists_eq_left, Option.map_some, Option.map_none, not_true_eq_false, false_implies, true_implies, and_true, true_and, reduceCtorEq, not_false_eq_true, hx]
        exact hq
      | none =>
        rw [hs] at hq hx
        simp only [j_X4_nextInShadowOrder_53, j_X4_nextInShadowOrder_54, j_X4_nextInShadowOrder_59, j_X4_nextInShadowOrder_60, en_c2I, en_c2R, en_c2U, en_c2D, Option.some.injEq, exists_eq_left', exists_eq_left, Option.map_some, Option.map_none, not_true_eq_false, false_implies, true_implies, and_true, true_and, reduceCtorEq, not_false_eq_true, hx, C_X4_parentOrHost]
        refine ⟨⟨_, rfl, hc⟩, ?_⟩
        rintro r σ' ⟨a, ha, rfl, rfl⟩
        simp only [List.cons.injEq, en_Rinj, Option.some.injEq, and_true] at ha
        subst ha
        rw [hu]
        simp only [Option.toList, List.cons_append, List.nil_append, j_X4_nextInShadowOrder_63, j_X4_nextInShadowOrder_64, en_c2I, en_c2R, en_c2U, en_c2D, Option.some.injEq, exists_eq_left', exists_eq_left]
        cases hup : tr_up T m with
        | none =>
          rw [hup] at hq
          rw [j_X4_nextInShadowOrder_27]
          simp only [j_X4_nextInShadowOrder_0, j_X4_nextInShadowOrder_1, j_X4_nextInShadowOrder_4, j_X4_nextInShadowOrder_7, j_X4_nextInShadowOrder_8, j_X4_nextInShadowOrder_11, j_X4_nextInShadowOrder_14, j_X4_nextInShadowOrder_15, j_X4_nextInShadowOrder_18, j_X4_nextInShadowOrder_19, j_X4_nextInShadowOrder_20, j_X4_nextInShadowOrder_23, j_X4_nextInShadowOrder_24, j_X4_nextInShadowOrder_25, j_X4_nextInShadowOrder_26, j_X4_nextInShadowOrder_28, j_X4_nextInShadowOrder_31, j_X4_nextInShadowOrder_32, j_X4_nextInShadowOrder_35, j_X4_nextInShadowOrder_38, j_X4_nextInShadowOrder_39, j_X4_nextInShadowOrder_42, j_X4_nextInShadowOrder_45, j_X4_nextInShadowOrder_48, j_X4_nextInShadowOrder_49, j_X4_nextInShadowOrder_52, j_X4_nextInShadowOrder_53, j_X4_nextInShadowOrder_54, j_X4_nextInShadowOrder_57, j_X4_nextInShadowOrder_58, j_X4_nextInShadowOrder_59, j_X4_nextInShadowOrder_60, j_X4_nextInShadowOrder_63, j_X4_nextInShadowOrder_64, j_X4_nextInShadowOrder_67, j_X4_nextInShadowOrder_68, en_c2I, en_c2R, en_c2U, en_c2D, Option.some.injEq, exists_eq_left', exists_eq_left, Option.map_some, Option.map_none, not_true_eq_false, false_implies, true_implies, and_true, true_and, reduceCtorEq, not_false_eq_true]
          exact hq
        | some p =>
          rw [hup] at hq
          exact ih p _ (tr_it_up hk hup) (tr_up_lt hw hm hup) hq
    cases hh : tr_ho T m with
    | some h =>
      rw [hh] at hho
      obtain ⟨hhl, -⟩ := hw.2.2.2.2.1 m h hm hh
      obtain ⟨hch, -, -, -, -, -, hfi, -⟩ := hR.1 h hhl
      simp only [j_X4_nextInShadowOrder_28, j_X4_nextInShadowOrder_31, j_X4_nextInShadowOrder_32, j_X4_nextInShadowOrder_35, j_X4_nextInShadowOrder_38, j_X4_nextInShadowOrder_39, j_X4_nextInShadowOrder_42, j_X4_nextInShadowOrder_45, j_X4_nextInShadowOrder_52, en_c2I, en_c2R, en_c2U, en_c2D, Option.some.injEq, exists_eq_left', exists_eq_left, Option.map_some, Option.map_none, not_true_eq_false, false_implies, true_implies, and_true, true_and, reduceCtorEq, not_false_eq_true, hc, hho, hch]
      exact fin _ (by rw [hfi]; simp only [tr_sn, hh])
    | none =>
      rw [hh] at hho
      simp only [j_X4_nextInShadowOrder_28, j_X4_nextInShadowOrder_31, j_X4_nextInShadowOrder_32, j_X4_nextInShadowOrder_35, j_X4_nextInShadowOrder_48, j_X4_nextInShadowOrder_49, j_X4_nextInShadowOrder_52, en_c2I, en_c2R, en_c2U, en_c2D, Option.some.injEq, exists_eq_left', exists_eq_left, Option.map_some, Option.map_none, not_true_eq_false, false_implies, true_implies, and_true, true_and, reduceCtorEq, not_false_eq_true, hc, hho]
      exact fin _ (by rw [hnx]; simp only [tr_sn, hh])
theorem jg_X4_nextInShadowOrder {G : en_G} : ∀ (g : (Nat → Nat) × tr_T × Nat) as σ, (tr_R g.1 g.2.1 σ ∧ tr_wf g.2.1 ∧ g.2.2 < tr_N g.2.1 ∧ as = [en_R (some (g.1 g.2.2))]) → (en_lc as).length ≤ 4 ∧ en_J (X_X4_nextInShadowOrder G (fun r σ' => σ' = σ ∧ r = some (en_R ((tr_nso g.2.1 g.2.2).map g.1)))) 0 (en_loc 4 as) [] σ := by
  rintro ⟨na, T, n⟩ as σ ⟨hR, hw, hn, rfl⟩
  refine ⟨Nat.le_of_ble_eq_true rfl, ?_⟩
  show en_J _ 0 [en_R (some (na n)), en_U, en_U, en_U] [] σ
  obtain ⟨hc, -, -, -, hho, hpa, hfi, -, -, hnx, hsh⟩ := hR.1 n hn
  cases hs : tr_sh T n with
  | some s =>
    rw [hs] at hsh
    simp only [j_X4_nextInShadowOrder_0, j_X4_nextInShadowOrder_1, j_X4_nextInShadowOrder_4, j_X4_nextInShadowOrder_7, j_X4_nextInShadowOrder_8, j_X4_nextInShadowOrder_11, j_X4_nextInShadowOrder_14, j_X4_nextInShadowOrder_15, j_X4_nextInShadowOrder_18, j_X4_nextInShadowOrder_19, j_X4_nextInShadowOrder_20, j_X4_nextInShadowOrder_23, j_X4_nextInShadowOrder_24, j_X4_nextInShadowOrder_25, j_X4_nextInShadowOrder_26, j_X4_nextInShadowOrder_28, j_X4_nextInShadowOrder_31, j_X4_nextInShadowOrder_32, j_X4_nextInShadowOrder_35, j_X4_nextInShadowOrder_38, j_X4_nextInShadowOrder_39, j_X4_nextInShadowOrder_42, j_X4_nextInShadowOrder_45, j_X4_nextInShadowOrder_48, j_X4_nextInShadowOrder_49, j_X4_nextInShadowOrder_52, j_X4_nextInShadowOrder_53, j_X4_nextInShadowOrder_54, j_X4_nextInShadowOrder_57, j_X4_nextInShadowOrder_58, j_X4_nextInShadowOrder_59, j_X4_nextInShadowOrder_60, j_X4_nextInShadowOrder_63, j_X4_nextInShadowOrder_64, j_X4_nextInShadowOrder_67, j_X4_nextInShadowOrder_68, en_c2I, en_c2R, en_c2U, en_c2D, Option.some.injEq, exists_eq_left', exists_eq_left, Option.map_some, Option.map_none, not_true_eq_false, false_implies, true_implies, and_true, true_and, reduceCtorEq, not_false_eq_true, hc, hsh]
    simp only [tr_nso, hs, Option.map_some, Option.map_none, not_true_eq_false, false_implies, true_implies, and_true, true_and, reduceCtorEq, not_false_eq_true]
  | none =>
    rw [hs] at hsh
    cases hh : (tr_ch T n).head? with
    | some c =>
      rw [hh] at hfi
      simp only [j_X4_nextInShadowOrder_0, j_X4_nextInShadowOrder_1, j_X4_nextInShadowOrder_4, j_X4_nextInShadowOrder_7, j_X4_nextInShadowOrder_8, j_X4_nextInShadowOrder_11, j_X4_nextInShadowOrder_14, j_X4_nextInShadowOrder_15, j_X4_nextInShadowOrder_18, j_X4_nextInShadowOrder_19, j_X4_nextInShadowOrder_20, j_X4_nextInShadowOrder_23, j_X4_nextInShadowOrder_24, j_X4_nextInShadowOrder_25, j_X4_nextInShadowOrder_26, j_X4_nextInShadowOrder_28, j_X4_nextInShadowOrder_31, j_X4_nextInShadowOrder_32, j_X4_nextInShadowOrder_35, j_X4_nextInShadowOrder_38, j_X4_nextInShadowOrder_39, j_X4_nextInShadowOrder_42, j_X4_nextInShadowOrder_45, j_X4_nextInShadowOrder_48, j_X4_nextInShadowOrder_49, j_X4_nextInShadowOrder_52, j_X4_nextInShadowOrder_53, j_X4_nextInShadowOrder_54, j_X4_nextInShadowOrder_57, j_X4_nextInShadowOrder_58, j_X4_nextInShadowOrder_59, j_X4_nextInShadowOrder_60, j_X4_nextInShadowOrder_63, j_X4_nextInShadowOrder_64, j_X4_nextInShadowOrder_67, j_X4_nextInShadowOrder_68, en_c2I, en_c2R, en_c2U, en_c2D, Option.some.injEq, exists_eq_left', exists_eq_left, Option.map_some, Option.map_none, not_true_eq_false, false_implies, true_implies, and_true, true_and, reduceCtorEq, not_false_eq_true, hc, hsh, hfi]
      simp only [tr_nso, hs, hh, Option.map_some, Option.map_none, not_true_eq_false, false_implies, true_implies, and_true, true_and, reduceCtorEq, not_false_eq_true]
    | none =>
      rw [hh] at hfi
      simp only [j_X4_nextInShadowOrder_0, j_X4_nextInShadowOrder_1, j_X4_nextInShadowOrder_4, j_X4_nextInShadowOrder_7, j_X4_nextInShadowOrder_8, j_X4_nextInShadowOrder_11, j_X4_nextInShadowOrder_14, j_X4_nextInShadowOrder_15, j_X4_nextInShadowOrder_18, j_X4_nextInShadowOrder_19, j_X4_nextInShadowOrder_20, j_X4_nextInShadowOrder_23, j_X4_nextInShadowOrder_24, j_X4_nextInShadowOrder_25, j_X4_nextInShadowOrder_26, j_X4_nextInShadowOrder_28, j_X4_nextInShadowOrder_31, j_X4_nextInShadowOrder_32, j_X4_nextInShadowOrder_35, j_X4_nextInShadowOrder_38, j_X4_nextInShadowOrder_39, j_X4_nextInShadowOrder_42, j_X4_nextInShadowOrder_45, j_X4_nextInShadowOrder_48, j_X4_nextInShadowOrder_49, j_X4_nextInShadowOrder_52, j_X4_nextInShadowOrder_53, j_X4_nextInShadowOrder_54, j_X4_nextInShadowOrder_57, j_X4_nextInShadowOrder_58, j_X4_nextInShadowOrder_59, j_X4_nextInShadowOrder_60, j_X4_nextInShadowOrder_63, j_X4_nextInShadowOrder_64, j_X4_nextInShadowOrder_67, j_X4_nextInShadowOrder_68, en_c2I, en_c2R, en_c2U, en_c2D, Option.some.injEq, exists_eq_left', exists_eq_left, Option.map_some, Option.map_none, not_true_eq_false, false_implies, true_implies, and_true, true_and, reduceCtorEq, not_false_eq_true, hc, hsh, hfi]
      refine jl_X4_nso hR hw 24 n _ (hw.2.2.2.2.2.2.2.2 n hn) hn ⟨rfl, ?_⟩
      simp only [tr_nso, hs, hh]
theorem jp_X4_nextInShadowOrder {G : en_G} : ∀ as σ, C_X4_nextInShadowOrder.1 as σ → (en_lc as).length ≤ 4 ∧ en_J (X_X4_nextInShadowOrder G (fun r σ' => C_X4_nextInShadowOrder.2 as σ r σ')) 0 (en_loc 4 as) [] σ := en_ghJ jg_X4_nextInShadowOrder
theorem wl_X4_nextInShadowOrder_28 : Jvm.Cond.methodLink RX4 28 yX4_parentOrHost ∈ en_W := en_inW (List.mem_of_getElem? (i := 354) (by decide +kernel)) (by decide +kernel)
theorem ok_X4_nextInShadowOrder {G : en_G}  : en_Ok G 2 yX4_nextInShadowOrder cX4_nextInShadowOrder 4 (some (.object "NodeStage$Node")) C_X4_nextInShadowOrder :=
  en_met (own := RX4) (fl := en_lk fl4) (nw := en_lk nw4) (aw := en_lk aw4) (dc := en_lk dc4) (ca := en_lk (ca_X4_nextInShadowOrder G)) (rt := 3) (ini := false) (by decide +kernel) (Or.inr (Or.inr (Or.inr (Or.inl ⟨rfl, _, rfl⟩)))) (fun h => by cases h) rfl (fun q => en_LkF fl4_ok nw4_ok aw4_ok dc4_ok) (by
    intro idx q hq
    have hm := en_lk_mem hq
    simp only [ca_X4_nextInShadowOrder, List.mem_cons, Prod.mk.injEq, List.not_mem_nil, or_false] at hm
    rcases hm with ⟨rfl, rfl⟩
    · exact en_clV (r := (RX4, TX4, 12)) 4 0 ok_X4_parentOrHost (by decide) (by decide) rfl rfl pr_X4_parentOrHost wl_X4_nextInShadowOrder_28 wi_X4_parentOrHost wx_X4_parentOrHost wz_4 wc_X4_parentOrHost ⟨by decide +kernel, by decide +kernel, by decide +kernel⟩) jp_X4_nextInShadowOrder
