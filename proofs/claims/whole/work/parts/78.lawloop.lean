/-! THE LAW: its loop, its start -/
theorem la_cmp {L i : Nat} (hL : L ≤ 384) (hi : i ≤ 400) : (nI L - 6 < nI i) ↔ L < i + 6 := by
  rcases Nat.lt_or_ge L 6 with h | h
  · refine ⟨fun _ => by omega, fun _ => ?_⟩
    have h0 : (0 : Int32) ≤ nI i := nI_pos' (by omega)
    have h1 : nI L - 6 < 0 := by
      rcases (show L = 0 ∨ L = 1 ∨ L = 2 ∨ L = 3 ∨ L = 4 ∨ L = 5 by omega) with rfl | rfl | rfl | rfl | rfl | rfl <;> decide +kernel
    exact Int32.lt_of_lt_of_le h1 h0
  · obtain ⟨k, rfl⟩ : ∃ k, L = k + 6 := ⟨L - 6, by omega⟩
    have e : nI (k + 6) - 6 = nI k := by
      rw [← nI_add k 6]
      exact Int32.add_sub_cancel _ _
    rw [e, nI_ltI (by omega) (by omega)]
    omega
theorem la_loop {G : en_G} {b L : Nat} {xs : Nat → Int32} {q : Option en_V → en_S → Prop} {x m o1 o2 : Nat} (hL : L ≤ 384) (hq : ∀ σ, q (some (en_I 1)) σ) : ∀ (t i n : Nat) (S : pb_S) (σ : en_S) (l6 l7 l8 : en_V), L ≤ i + 6 * t + 5 → i ≤ 390 → n + 120 * t < 2 ^ 19 → LI G x m o1 o2 (192 * t) n S σ → en_J (X_L_law G b L xs q) 28 [en_R (some b), en_R (some x), en_R (some m), en_R (some o1), en_R (some o2), en_I (nI i), l6, l7, l8] [] σ := by
  intro t
  induction t with
  | zero =>
    intro i n S σ l6 l7 l8 h1 h2 h3 hI
    have c := (la_cmp hL (by omega)).mpr (show L < i + 6 by omega)
    simp only [Option.toList, List.cons_append, List.nil_append, j_L_law_28, j_L_law_30, j_L_law_31, j_L_law_32, j_L_law_34, j_L_law_35, en_c2I, en_c2R, en_c2U, en_c2D, Option.some.injEq, exists_eq_left', exists_eq_left, Option.map_some, Option.map_none, not_true_eq_false, false_implies, true_implies, and_true, true_and, reduceCtorEq, not_false_eq_true, true_or, or_true, eq_self, j_L_law_1082, j_L_law_1083, c]
    exact hq σ
  | succ t ih =>
    intro i n S σ l6 l7 l8 h1 h2 h3 hI
    by_cases hlt : L < i + 6
    · have c := (la_cmp hL (by omega)).mpr hlt
      simp only [Option.toList, List.cons_append, List.nil_append, j_L_law_28, j_L_law_30, j_L_law_31, j_L_law_32, j_L_law_34, j_L_law_35, en_c2I, en_c2R, en_c2U, en_c2D, Option.some.injEq, exists_eq_left', exists_eq_left, Option.map_some, Option.map_none, not_true_eq_false, false_implies, true_implies, and_true, true_and, reduceCtorEq, not_false_eq_true, true_or, or_true, eq_self, j_L_law_1082, j_L_law_1083, c]
      exact hq σ
    · have c : ¬ nI L - 6 < nI i := fun z => hlt ((la_cmp hL (by omega)).mp z)
      have v0 : vp_in (nI i) L := vp_in_nI (by omega) (by omega)
      have K : ∀ (S' : pb_S) (σ' : en_S) (l6 l7 l8 : en_V), LI G x m o1 o2 (192 * t) (n + 120) S' σ' → en_J (X_L_law G b L xs q) 1076 [en_R (some b), en_R (some x), en_R (some m), en_R (some o1), en_R (some o2), en_I (nI i), l6, l7, l8] [] σ' := by
        intro S' σ' l6 l7 l8 hI'
        have e6 : nI i + 6 = nI (i + 6) := nI_add i 6
        simp only [j_L_law_1076, j_L_law_1079, e6, en_c2I, en_c2R, en_c2U, en_c2D, Option.some.injEq, exists_eq_left', exists_eq_left]
        exact ih (i + 6) (n + 120) S' σ' l6 l7 l8 (by omega) (by omega) (by omega) hI'
      have hI2 : LI G x m o1 o2 (192 * t + 192) n S σ := hI
      have hn : n < 2 ^ 19 := by omega
      have hi : i + 6 ≤ L := by omega
      simp only [Option.toList, List.cons_append, List.nil_append, j_L_law_28, j_L_law_30, j_L_law_31, j_L_law_32, j_L_law_34, j_L_law_35, j_L_law_38, j_L_law_39, j_L_law_41, j_L_law_42, j_L_law_44, en_c2I, en_c2R, en_c2U, en_c2D, Option.some.injEq, exists_eq_left', exists_eq_left, Option.map_some, Option.map_none, not_true_eq_false, false_implies, true_implies, and_true, true_and, reduceCtorEq, not_false_eq_true, true_or, or_true, eq_self, c, v0]
      generalize xs (nI i).toNatClampNeg &&& 31 = w
      cases hx : st_ix 18 w with
      | none =>
        have hno := st_ix_none hx
        have hd : w.toInt < 0 ∨ 17 < w.toInt := by
          apply Classical.byContradiction
          intro hz
          apply hno
          refine ⟨Int32.le_iff_toInt_le.mpr (by show (0 : Int) ≤ _; omega), Int32.lt_iff_toInt_lt.mpr ?_⟩
          rw [nI_toInt (by decide)]
          omega
        rw [j_L_law_45_d hd]
        exact K S σ l6 l7 l8 (hI2.rm (by omega) (by omega))
      | some k =>
        obtain ⟨hk, rfl⟩ := st_ix_some (by decide) hx
        rcases (show k = 0 ∨ k = 1 ∨ k = 2 ∨ k = 3 ∨ k = 4 ∨ k = 5 ∨ k = 6 ∨ k = 7 ∨ k = 8 ∨ k = 9 ∨ k = 10 ∨ k = 11 ∨ k = 12 ∨ k = 13 ∨ k = 14 ∨ k = 15 ∨ k = 16 ∨ k = 17 by omega) with rfl | rfl | rfl | rfl | rfl | rfl | rfl | rfl | rfl | rfl | rfl | rfl | rfl | rfl | rfl | rfl | rfl | rfl
        · rw [show nI 0 = 0 from by decide +kernel, j_L_law_45_0]
          exact la_make hI2 hi hL hn K
        · rw [show nI 1 = 1 from by decide +kernel, j_L_law_45_1]
          exact la_attach hI2 hi hL hn K
        · rw [show nI 2 = 2 from by decide +kernel, j_L_law_45_2]
          exact la_insert hI2 hi hL hn K
        · rw [show nI 3 = 3 from by decide +kernel, j_L_law_45_3]
          exact la_remove hI2 hi hL hn K
        · rw [show nI 4 = 4 from by decide +kernel, j_L_law_45_4]
          exact la_command hI2 hi hL hn K
        · rw [show nI 5 = 5 from by decide +kernel, j_L_law_45_5]
          exact la_clear hI2 hi hL hn K
        · rw [show nI 6 = 6 from by decide +kernel, j_L_law_45_6]
          exact la_listen hI2 hi hL hn K
        · rw [show nI 7 = 7 from by decide +kernel, j_L_law_45_7]
          exact la_unlisten hI2 hi hL hn K
        · rw [show nI 8 = 8 from by decide +kernel, j_L_law_45_8]
          exact la_dispatch hI2 hi hL hn K
        · rw [show nI 9 = 9 from by decide +kernel, j_L_law_45_9]
          exact la_box hI2 hi hL hn K
        · rw [show nI 10 = 10 from by decide +kernel, j_L_law_45_10]
          exact la_zoom hI2 hi hL hn K
        · rw [show nI 11 = 11 from by decide +kernel, j_L_law_45_11]
          exact la_place hI2 hi hL hn K
        · rw [show nI 12 = 12 from by decide +kernel, j_L_law_45_12]
          exact la_hit hI2 hi hL hn K
        · rw [show nI 13 = 13 from by decide +kernel, j_L_law_45_13]
          exact la_pointer hI2 hi hL hn K
        · rw [show nI 14 = 14 from by decide +kernel, j_L_law_45_14]
          exact la_node hI2 hi hL hn K
        · rw [show nI 15 = 15 from by decide +kernel, j_L_law_45_15]
          exact la_child hI2 hi hL hn K
        · rw [show nI 16 = 16 from by decide +kernel, j_L_law_45_16]
          exact la_call hI2 hi hL hn K
        · rw [show nI 17 = 17 from by decide +kernel, j_L_law_45_17]
          exact la_look hI2 hi hL hn K
theorem cx_more {G : en_G} {x : Nat} {na la ba : Nat → Nat} {rm rm' : Nat} {A : st_A} {σ σ' : en_S} (h : CX G x na la ba rm A σ) (g : ag σ σ' (fun _ _ => True) (fun _ => True)) (hf : fresh σ') (r : cd_room G rm' A σ') : CX G x na la ba rm' A σ' := by
  obtain ⟨c, t, n, b, l, s, lo, o, w, -⟩ := h
  exact ⟨c.ag g hf (fun _ _ _ => trivial) ⟨trivial, trivial⟩, t.ag g c.2.2.2.2.2.2 (fun _ _ _ _ _ => trivial), n.ag g c t (fun _ _ => ⟨trivial, trivial⟩) trivial, b.ag g c.2.2.2.2.2.2 (fun _ _ _ _ _ => trivial), l.ag g c (fun _ _ _ _ _ => trivial) trivial, s.ag g c (fun _ => trivial) (fun _ _ => ⟨trivial, trivial⟩), lo.ag g c (fun _ => trivial) trivial, o.ag g c ⟨trivial, trivial, trivial, trivial⟩, w, r⟩
theorem pz_more {G : en_G} {x rm rm' : Nat} {S : pb_S} {σ σ' : en_S} (h : PZ G x rm S σ) (g : ag σ σ' (fun _ _ => True) (fun _ => True)) (hf : fresh σ') (r1 : en_nx σ' + 40 + rm' ≤ G.2.2.2.2.1) (r2 : en_ns σ' + 200 + 12 * rm' ≤ G.2.2.2.2.2) : PZ G x rm' S σ' := by
  obtain ⟨na, la, ba, hC, h1, h2, h3, h4, h5, h6⟩ := h
  have r := (g.2 x (by have := cx_44 hC; omega)).2.2.1
  refine ⟨na, la, ba, cx_more hC g hf ?_, ?_, ?_, ?_, ?_, h5, h6⟩
  · unfold cd_room
    omega
  · rw [(r 610 trivial).2.1]; exact h1
  · rw [(r 611 trivial).2.1]; exact h2
  · rw [(r 612 trivial).1]; exact h3
  · rw [(r 606 trivial).1]; exact h4
theorem rz_more {m : Nat} {S : pb_S} {σ σ' : en_S} (h : RZ m S σ) (g : ag σ σ' (fun _ _ => True) (fun _ => True)) (hf : fresh σ') : RZ m S σ' := h.of (h.1.ag (g.mono (fun _ _ _ => trivial) (fun _ _ => trivial)) hf) g ⟨trivial, trivial, trivial, trivial⟩ (Nat.le_refl _)
/-- nothing is known yet -/
def la_s0 (n k : Nat) : en_S := (fun _ => none, fun _ _ => 0, fun _ _ => none, fun _ _ => 0, fun _ => none, fun _ _ => 0, fun _ _ => none, fun _ _ => 0, fun _ _ => 0, n, k)
theorem la_start {G : en_G} {b L : Nat} {xs : Nat → Int32} {q : Option en_V → en_S → Prop} (hL : L ≤ 384) (hq : ∀ σ, q (some (en_I 1)) σ) {n k : Nat} (r1 : n + 20000 ≤ G.2.2.2.2.1) (r2 : k + 200000 ≤ G.2.2.2.2.2) : en_J (X_L_law G b L xs q) 0 [en_R (some b), en_U, en_U, en_U, en_U, en_U, en_U, en_U, en_U] [] (la_s0 n k) := by
  have x0 : en_nx (la_s0 n k) = n := rfl
  have s0 : en_ns (la_s0 n k) = k := rfl
  have c1 : en_nx (la_s0 n k) + 1 ≤ G.2.2.2.2.1 ∧ en_ns (la_s0 n k) + 13 ≤ G.2.2.2.2.2 := by omega
  have f0 : fresh (la_s0 n k) := fun a ha => ⟨rfl, rfl⟩
  simp only [Option.toList, List.cons_append, List.nil_append, j_L_law_0, j_L_law_3, j_L_law_4, en_c2I, en_c2R, en_c2U, en_c2D, Option.some.injEq, exists_eq_left', exists_eq_left, Option.map_some, Option.map_none, not_true_eq_false, false_implies, true_implies, and_true, true_and, reduceCtorEq, not_false_eq_true, true_or, or_true, eq_self, c1]
  refine en_use (cu_X6_init (x := en_nx (la_s0 n k)) (rm := 12488) ⟨by rw [eg_cl_new, if_pos rfl], rfl, fresh_new f0, fun f => ⟨by rw [eg_fi_new, if_pos rfl], by rw [eg_fr_new, if_pos rfl]⟩, by omega, by rw [eg_ns_new]; omega⟩) ?_
  rintro v σ1 ⟨p1, g1, n1, t1, rfl⟩
  rw [eg_ns_new] at t1
  have c2 : en_nx σ1 + 1 ≤ G.2.2.2.2.1 ∧ en_ns σ1 + 53 ≤ G.2.2.2.2.2 := by omega
  simp only [Option.toList, List.cons_append, List.nil_append, j_L_law_7, j_L_law_8, j_L_law_11, j_L_law_12, en_c2I, en_c2R, en_c2U, en_c2D, Option.some.injEq, exists_eq_left', exists_eq_left, Option.map_some, Option.map_none, not_true_eq_false, false_implies, true_implies, and_true, true_and, reduceCtorEq, not_false_eq_true, true_or, or_true, eq_self, c2]
  refine en_use (cu_X7_init (m := en_nx σ1) ⟨⟨by rw [eg_cl_new, if_pos rfl], rfl, fresh_new p1.fr, fun i e hi => absurd hi (Nat.not_lt_zero i)⟩, fun f => by rw [eg_fi_new, if_pos rfl], by rw [eg_nx_new]; omega, by rw [eg_ns_new]; omega⟩) ?_
  rintro v σ2 ⟨z2, g2, n2, t2, rfl⟩
  rw [eg_ns_new] at t2
  have gA : ag σ1 σ2 (fun _ _ => True) (fun _ => True) := ag_lim ((ag_new.tr g2).mono (fun f a z => by have := z.2; unfold i7F; omega) (fun _ _ => trivial))
  have c3 : en_nx σ2 + 1 ≤ G.2.2.2.2.1 ∧ en_ns σ2 + 1 ≤ G.2.2.2.2.2 := by omega
  have c4 : en_nx (en_newa σ2 3 1) + 1 ≤ G.2.2.2.2.1 ∧ en_ns (en_newa σ2 3 1) + 1 ≤ G.2.2.2.2.2 := by
    rw [eg_nx_newa, eg_ns_newa]
    omega
  simp only [Option.toList, List.cons_append, List.nil_append, j_L_law_15, j_L_law_16, j_L_law_17, j_L_law_19, j_L_law_20, j_L_law_21, j_L_law_23, j_L_law_25, j_L_law_26, en_c2I, en_c2R, en_c2U, en_c2D, Option.some.injEq, exists_eq_left', exists_eq_left, Option.map_some, Option.map_none, not_true_eq_false, false_implies, true_implies, and_true, true_and, reduceCtorEq, not_false_eq_true, true_or, or_true, eq_self, c3, c4]
  rw [show (0 : Int32) = nI 0 from by decide +kernel]
  have gB : ag σ2 (en_newa (en_newa σ2 3 1) 2 1) (fun _ _ => True) (fun _ => True) := ag_newa.tr ag_newa
  have fB : fresh (en_newa (en_newa σ2 3 1) 2 1) := fresh_newa (fresh_newa (rs_fr z2.1.1))
  have xB : en_nx (en_newa (en_newa σ2 3 1) 2 1) = en_nx σ2 + 2 := rfl
  have sB : en_ns (en_newa (en_newa σ2 3 1) 2 1) = en_ns σ2 + 2 := rfl
  refine la_loop hL hq 64 0 0 pb_0 _ _ _ _ (by omega) (by omega) (by decide) ⟨pz_more p1 (gA.tr gB) fB (by omega) (by omega), rz_more z2 gB fB, by omega, ?_, ?_, by omega, by rw [eg_nx_newa]; omega, by decide⟩
  · rw [eg_al_newa, eg_nx_newa, if_neg (by omega), eg_al_newa, if_pos rfl]
  · rw [eg_al_newa, if_pos rfl]
