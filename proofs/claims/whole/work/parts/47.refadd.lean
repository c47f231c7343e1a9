/-! THE REFERENCE's calls -/
def RZ (m : Nat) (S : pb_S) (σ : en_S) : Prop := RX m S.1 σ ∧ en_fi σ 729 m = st_num S.2.1 ∧ en_fi σ 730 m = st_num S.2.2.1 ∧ en_fi σ 731 m = st_b S.2.2.2 ∧ en_fi σ 736 m = nI 0 ∧ (∀ n, S.2.1 = some n → n < tr_N (sa_T S.1)) ∧ (∀ n, S.2.2.1 = some n → n < tr_N (sa_T S.1))
theorem RZ.of {m : Nat} {S : pb_S} {A' : st_A} {σ σ' : en_S} {F : Nat → Nat → Prop} {V : Nat → Prop} (h : RZ m S σ) (hR : RX m A' σ') (g : ag σ σ' F V) (hF : F 729 m ∧ F 730 m ∧ F 731 m ∧ F 736 m) (hN : tr_N (sa_T S.1) ≤ tr_N (sa_T A')) : RZ m (A', S.2) σ' := by
  obtain ⟨h1, h2, h3, h4, h5, h6, h7⟩ := h
  have r := (g.2 m (by have := rs_nx h1.1; omega)).2.2.1
  exact ⟨hR, by rw [(r 729 hF.1).1]; exact h2, by rw [(r 730 hF.2.1).1]; exact h3, by rw [(r 731 hF.2.2.1).1]; exact h4, by rw [(r 736 hF.2.2.2).1]; exact h5, fun n hn => Nat.lt_of_lt_of_le (h6 n hn) hN, fun n hn => Nat.lt_of_lt_of_le (h7 n hn) hN⟩
theorem rz_700 {m : Nat} {S : pb_S} {σ : en_S} (h : RZ m S σ) (v : Int32) : RZ m S (en_sfi σ 700 m v) := by
  have g : ag σ (en_sfi σ 700 m v) (fun f _ => f ≠ 700) (fun _ => True) := ag_sfi (fun a z => absurd rfl z)
  exact h.of (h.1.ag (g.mono (fun f a z => z.1) (fun a z => trivial)) (rs_fr h.1.1)) g ⟨by decide, by decide, by decide, by decide⟩ (Nat.le_refl _)
theorem in_ix {n : Nat} {k : Int32} (hn : n < 2 ^ 31) : decide (0 ≤ k ∧ k ≤ nI n - 1) = (st_ix n k).isSome := by
  cases hx : st_ix n k with
  | none =>
    have hno := st_ix_none hx
    rw [decide_eq_false]
    · rfl
    · intro z
      apply hno
      refine ⟨z.1, ?_⟩
      rw [Int32.lt_iff_toInt_lt, nI_toInt hn]
      have h1 := Int32.le_iff_toInt_le.mp z.1
      have h2 := Int32.le_iff_toInt_le.mp z.2
      have e0 : (0 : Int32).toInt = 0 := rfl
      cases n with
      | zero =>
        have e1 : (nI 0 - 1).toInt = -1 := by decide +kernel
        rw [e1] at h2
        omega
      | succ n =>
        rw [nI_pred, nI_toInt (by omega)] at h2
        omega
  | some j =>
    obtain ⟨hj, rfl⟩ := st_ix_some hn hx
    rw [decide_eq_true]
    · rfl
    · refine ⟨nI_pos' (by omega), ?_⟩
      cases n with
      | zero => omega
      | succ n => rw [nI_pred]; exact nI_le (by omega) (by omega)
theorem in_8 {k : Int32} : decide (0 ≤ k ∧ k ≤ 7) = (st_ix 8 k).isSome := by rw [← in_ix (by decide), show nI 8 - 1 = 7 from by decide +kernel]
theorem in_9 {k : Int32} : decide (0 ≤ k ∧ k ≤ 8) = (st_ix 9 k).isSome := by rw [← in_ix (by decide), show nI 9 - 1 = 8 from by decide +kernel]
theorem in_ty {t : Int32} : (0 ≤ t ∧ t < 8) ↔ (0 ≤ t ∧ t ≤ 7) := by
  have : t < 8 ↔ t ≤ 7 := by
    rw [Int32.lt_iff_toInt_lt, Int32.le_iff_toInt_le, show (8 : Int32).toInt = 8 from rfl, show (7 : Int32).toInt = 7 from rfl]
    omega
  rw [this]
/-- listeners and their marks -/
theorem rx_rem {m : Nat} {A : st_A} {σ : en_S} (h : RX m A σ) {k : Nat} (hk : k < sa_D A 0 0) (b : Bool) : RX m (su_K A 1 k b) (en_sai σ (m + 13) k (st_b b)) := by
  obtain ⟨c, h1, h2, h3, h4, h5, h6, h7, h8, w⟩ := h
  have x := rs_nx c
  have g : ag σ (en_sai σ (m + 13) k (st_b b)) TT (fun a => a ≠ m + 13) := ag_sai (fun z => z rfl)
  refine ⟨c.ag g (rs_fr c) (fun _ _ => trivial), h1.ag g x (by omega), h2.ag g x (by omega), fun n hn => ?_, h4.ag g x (fun j a b => by omega), ⟨fun j hj => ?_, fun j a b => ?_⟩, h6.ag g x (fun j a b => by omega), h7.ag g x trivial (by omega), h8.ag g x ⟨trivial, trivial, trivial⟩, (st_go_K w 1 k b).1⟩
  · rw [(h3.ag g x (by omega)) n hn, sa_K_K, if_neg (by omega)]
  · obtain ⟨q1, q2, q3, q4, q5⟩ := h5.1 j hj
    refine ⟨?_, ?_, ?_, ?_, ?_⟩
    · rw [eg_ai_sai, if_neg (by omega)]; exact q1
    · rw [eg_ai_sai, if_neg (by omega)]; exact q2
    · rw [eg_ai_sai, if_neg (by omega)]; exact q3
    · rw [eg_ai_sai, if_neg (by omega)]; exact q4
    · rw [eg_ai_sai, sa_K_K]
      by_cases e : j = k
      · rw [if_pos ⟨rfl, e⟩, if_pos ⟨rfl, e⟩]
      · rw [if_neg (fun z => e z.2), if_neg (fun z => e z.2)]; exact q5
  · have a : sa_D A 0 0 ≤ j := a
    rw [eg_ai_sai, if_neg (by omega)]; exact h5.2 j a b
def rx_addS (σ : en_S) (m n : Nat) (t : Int32) (o s L : Nat) : en_S := en_sfi (en_sai (en_sai (en_sai (en_sai σ (m + 9) L (nI n)) (m + 10) L t) (m + 11) L (nI o)) (m + 12) L (nI s)) 710 m (nI (L + 1))
theorem rx_addG {σ : en_S} {m n o s L : Nat} {t : Int32} : ag σ (rx_addS σ m n t o s L) (fun f _ => f ≠ 710) (fun a => ¬ (m + 9 ≤ a ∧ a ≤ m + 12)) := ((((ag_sai (fun z => z ⟨by omega, by omega⟩)).tr (ag_sai (fun z => z ⟨by omega, by omega⟩))).tr (ag_sai (fun z => z ⟨by omega, by omega⟩))).tr (ag_sai (fun z => z ⟨by omega, by omega⟩))).tr (ag_sfi (fun a z => absurd rfl z))
theorem rx_add {m : Nat} {A : st_A} {σ : en_S} (h : RX m A σ) {n o s : Nat} {t : Int32} (hn : n < tr_N (sa_T A)) (ho : o < 8) (hs : s < 8) (hc : ¬ (40 ≤ sa_D A 0 0 ∨ ds_like A n t o s (sa_D A 0 0) 0 = true)) : RX m (ds_add A n t o s).1 (rx_addS σ m n t o s (sa_D A 0 0)) := by
  have hgo := (st_go_add (t := t) h.2.2.2.2.2.2.2.2.2 hn ho hs).1
  obtain ⟨c, h1, h2, h3, h4, h5, h6, h7, h8, w⟩ := h
  have x := rs_nx c
  have g := rx_addG (σ := σ) (m := m) (n := n) (o := o) (s := s) (L := sa_D A 0 0) (t := t)
  have hL : sa_D A 0 0 < 40 := by
    apply Nat.lt_of_not_le
    intro z
    exact hc (Or.inl z)
  have eA : (ds_add A n t o s).1 = su_D (su_K (su_D (su_D (su_I (su_D A 1 (sa_D A 0 0) n) 0 (sa_D A 0 0) t) 3 (sa_D A 0 0) o) 2 (sa_D A 0 0) s) 1 (sa_D A 0 0) false) 0 0 (sa_D A 0 0 + 1) := by
    unfold ds_add; rw [if_neg hc]
  rw [eA] at hgo ⊢
  have e0 : sa_D (su_D (su_K (su_D (su_D (su_I (su_D A 1 (sa_D A 0 0) n) 0 (sa_D A 0 0) t) 3 (sa_D A 0 0) o) 2 (sa_D A 0 0) s) 1 (sa_D A 0 0) false) 0 0 (sa_D A 0 0 + 1)) 0 0 = sa_D A 0 0 + 1 := by rw [sa_D_D, if_pos ⟨rfl, rfl⟩]
  refine ⟨c.ag g (rs_fr c) (fun f hf => by omega), h1.ag g x ⟨by omega, by omega, by omega, by omega, by omega, by omega, by omega⟩, h2.ag g x ⟨by omega, by omega, by omega⟩, fun k hk => ?_, h4.ag g x (fun j a b => by omega), ⟨fun k hk => ?_, fun k a b => ?_⟩, fun z hz => ?_, ⟨?_, fun j hj => ?_⟩, ⟨?_, ?_, ?_⟩, hgo⟩
  · rw [(h3.ag g x (by omega)) k hk]
    simp [sa_K_D, sa_K_K, sa_K_I]
  · rw [e0] at hk
    by_cases e : k = sa_D A 0 0
    · subst e
      have h13 := h5.2 (sa_D A 0 0) (Nat.le_refl _) hL
      refine ⟨?_, ?_, ?_, ?_, ?_⟩ <;> simp [rx_addS, eg_ai_sfi, eg_ai_sai, sa_D_D, sa_D_K, sa_D_I, sa_I_D, sa_I_K, sa_I_I, sa_K_D, sa_K_K, sa_K_I, h13, st_b]
    · obtain ⟨q1, q2, q3, q4, q5⟩ := h5.1 k (by omega)
      refine ⟨?_, ?_, ?_, ?_, ?_⟩ <;> simp [rx_addS, eg_ai_sfi, eg_ai_sai, sa_D_D, sa_D_K, sa_D_I, sa_I_D, sa_I_K, sa_I_I, sa_K_D, sa_K_K, sa_K_I, e, q1, q2, q3, q4, q5]
  · rw [e0] at a
    have := h5.2 k (by omega) b
    simp [rx_addS, eg_ai_sfi, eg_ai_sai, this]
  · obtain ⟨q1, q2⟩ := (h6.ag g x (fun j a b => by omega)) z hz
    refine ⟨?_, fun j hj => ?_⟩
    · rw [q1]; simp [sa_D_D, sa_D_K, sa_D_I]
    · obtain ⟨q3, q4⟩ := q2 j hj
      rw [q3, q4]
      simp [sa_D_D, sa_D_K, sa_D_I, sa_I_D, sa_I_K, sa_I_I]
  · rw [(h7.ag g x (by decide) (by omega)).1]; simp [sa_D_D, sa_D_K, sa_D_I]
  · rw [(h7.ag g x (by decide) (by omega)).2 j hj]; simp [sa_I_D, sa_I_K, sa_I_I]
  · have := h8.1
    simp only [rx_addS, eg_fi_sfi, eg_fi_sai]
    rw [if_neg (by omega)]; exact this
  · rw [e0]; simp [rx_addS, eg_fi_sfi]
  · have := h8.2.2
    simp only [rx_addS, eg_fi_sfi, eg_fi_sai]
    rw [if_neg (by omega), this]
    simp [sa_I_D, sa_I_K, sa_I_I]
theorem re2 {a : Nat} (h : a < 8) : nI a - nI a / 2 * 2 = nI (a % 2) := by
  have := pk_rem (a := a) (d := 2) (by omega) (by decide) (by decide)
  rw [show (2 : Int32) = nI 2 from by decide +kernel]; exact this
def P_X7_add (G : en_G)  (g : (Nat) × (st_A) × (Nat) × (Int32) × (Nat) × (Nat)) (as : List en_V) (σ : en_S) : Prop := (RX (g.1) (g.2.1) σ ∧ (g.2.2.1) < tr_N (sa_T (g.2.1)) ∧ (g.2.2.2.2.1) < 8 ∧ (g.2.2.2.2.2) < 8) ∧ as = [en_R (some (g.1)), en_I (nI (g.2.2.1)), en_I (g.2.2.2.1), en_I (nI (g.2.2.2.2.1)), en_I (nI (g.2.2.2.2.2))]
def C_X7_add (G : en_G)  : en_C := en_gh (P_X7_add G) (fun g as σ v σ' => RX (g.1) (ds_add (g.2.1) (g.2.2.1) (g.2.2.2.1) (g.2.2.2.2.1) (g.2.2.2.2.2)).1 σ' ∧ ag σ σ' (fun f _ => f ≠ 710) (fun a => ¬ ((g.1) + 9 ≤ a ∧ a ≤ (g.1) + 12)) ∧ sz σ σ' ∧ v = some (en_I (ds_add (g.2.1) (g.2.2.1) (g.2.2.2.1) (g.2.2.2.2.1) (g.2.2.2.2.2)).2))
theorem pr_X7_add {G : en_G}  : ∀ as σ, (C_X7_add G).1 as σ → ∃ b tl, as = en_R (some b) :: tl ∧ en_cl σ b = some 7 ∧ tl.length = 4 := fun as σ ⟨g, hp, h2⟩ => ⟨_, _, h2, rs_c hp.1.1, rfl⟩
theorem cu_X7_add {G : en_G}  {m : Nat} {A : st_A} {n : Nat} {t : Int32} {o : Nat} {s : Nat} {σ : en_S} (hp : RX m A σ ∧ n < tr_N (sa_T A) ∧ o < 8 ∧ s < 8) : en_Us (C_X7_add G) [en_R (some m), en_I (nI n), en_I t, en_I (nI o), en_I (nI s)] σ (fun v σ' => RX m (ds_add A n t o s).1 σ' ∧ ag σ σ' (fun f _ => f ≠ 710) (fun a => ¬ (m + 9 ≤ a ∧ a ≤ m + 12)) ∧ sz σ σ' ∧ v = some (en_I (ds_add A n t o s).2)) := ⟨⟨(m, A, n, t, o, s), hp, rfl⟩, fun v σ' q => q (m, A, n, t, o, s) ⟨hp, rfl⟩⟩
def ca_X7_add (G : en_G) : List (Nat × Nat × en_C) := []
def X_X7_add (G : en_G) (q : Option en_V → en_S → Prop) : en_X := en_mk G cX7_add (en_lk fl7) (en_lk nw7) (en_lk aw7) (en_lk dc7) (en_lk (ca_X7_add G)) 1 false q
theorem d_X7_add_0 : decode cX7_add 0 = .ok (.iconst 0, 1) := by decide +kernel
theorem j_X7_add_0 {G : en_G} {q : Option en_V → en_S → Prop}  {l0 l1 l2 l3 l4 l5 l6 : en_V}  {σ : en_S} : en_J (X_X7_add G q) 0 [l0, l1, l2, l3, l4, l5, l6] [] σ ↔ en_J (X_X7_add G q) 1 [l0, l1, l2, l3, l4, l5, l6] [en_I 0] σ := ej_iconst d_X7_add_0 (by decide +kernel)
theorem d_X7_add_1 : decode cX7_add 1 = .ok (.istore 5, 2) := by decide +kernel
theorem j_X7_add_1 {G : en_G} {q : Option en_V → en_S → Prop}  {l0 l1 l2 l3 l4 l5 l6 : en_V} {a0 : Int32} {σ : en_S} : en_J (X_X7_add G q) 1 [l0, l1, l2, l3, l4, l5, l6] [en_I a0] σ ↔ en_J (X_X7_add G q) 3 [l0, l1, l2, l3, en_c2 l4, en_I a0, l6] [] σ := en_j1 d_X7_add_1 rfl ⟨rfl, Nat.le_of_ble_eq_true rfl⟩
theorem d_X7_add_3 : decode cX7_add 3 = .ok (.iconst 0, 1) := by decide +kernel
theorem j_X7_add_3 {G : en_G} {q : Option en_V → en_S → Prop}  {l0 l1 l2 l3 l4 l5 l6 : en_V}  {σ : en_S} : en_J (X_X7_add G q) 3 [l0, l1, l2, l3, l4, l5, l6] [] σ ↔ en_J (X_X7_add G q) 4 [l0, l1, l2, l3, l4, l5, l6] [en_I 0] σ := ej_iconst d_X7_add_3 (by decide +kernel)
theorem d_X7_add_4 : decode cX7_add 4 = .ok (.istore 6, 2) := by decide +kernel
theorem j_X7_add_4 {G : en_G} {q : Option en_V → en_S → Prop}  {l0 l1 l2 l3 l4 l5 l6 : en_V} {a0 : Int32} {σ : en_S} : en_J (X_X7_add G q) 4 [l0, l1, l2, l3, l4, l5, l6] [en_I a0] σ ↔ en_J (X_X7_add G q) 6 [l0, l1, l2, l3, l4, en_c2 l5, en_I a0] [] σ := en_j1 d_X7_add_4 rfl ⟨rfl, Nat.le_of_ble_eq_true rfl⟩
theorem d_X7_add_6 : decode cX7_add 6 = .ok (.iload 6, 2) := by decide +kernel
theorem j_X7_add_6 {G : en_G} {q : Option en_V → en_S → Prop}  {l0 l1 l2 l3 l4 l5 : en_V} {x6 : Int32} {σ : en_S} : en_J (X_X7_add G q) 6 [l0, l1, l2, l3, l4, l5, en_I x6] [] σ ↔ en_J (X_X7_add G q) 8 [l0, l1, l2, l3, l4, l5, en_I x6] [en_I x6] σ := en_j1 d_X7_add_6 rfl rfl
theorem d_X7_add_8 : decode cX7_add 8 = .ok (.aload_n 0, 1) := by decide +kernel
theorem j_X7_add_8 {G : en_G} {q : Option en_V → en_S → Prop}  {l1 l2 l3 l4 l5 l6 : en_V} {a0 : Int32} {x0 : Option Nat} {σ : en_S} : en_J (X_X7_add G q) 8 [en_R x0, l1, l2, l3, l4, l5, l6] [en_I a0] σ ↔ en_J (X_X7_add G q) 9 [en_R x0, l1, l2, l3, l4, l5, l6] [en_R x0, en_I a0] σ := en_j1 d_X7_add_8 rfl rfl
theorem d_X7_add_9 : decode cX7_add 9 = .ok (.getfield 188, 3) := by decide +kernel
theorem j_X7_add_9 {G : en_G} {q : Option en_V → en_S → Prop}  {l0 l1 l2 l3 l4 l5 l6 : en_V} {a0 : Option Nat} {a1 : Int32} {σ : en_S} : en_J (X_X7_add G q) 9 [l0, l1, l2, l3, l4, l5, l6] [en_R a0, en_I a1] σ ↔ ∃ a, a0 = some a ∧ en_cl σ a = some 7 ∧ en_J (X_X7_add G q) 12 [l0, l1, l2, l3, l4, l5, l6] [en_I (en_fi σ 710 a), en_I a1] σ := en_jg (st := fun o => [en_R o, en_I a1]) (st' := fun a => [en_I (en_fi σ 710 a), en_I a1]) (σ' := fun _ => σ) d_X7_add_9 rfl (fun a => rfl) (fun a => ⟨fun h => h.2, fun h => ⟨rfl, h⟩⟩)
theorem d_X7_add_12 : decode cX7_add 12 = .ok (.if_icmp .ge 80, 3) := by decide +kernel
theorem j_X7_add_12 {G : en_G} {q : Option en_V → en_S → Prop}  {l0 l1 l2 l3 l4 l5 l6 : en_V} {a0 : Int32} {a1 : Int32} {σ : en_S} : en_J (X_X7_add G q) 12 [l0, l1, l2, l3, l4, l5, l6] [en_I a0, en_I a1] σ ↔ (a0 ≤ a1 → en_J (X_X7_add G q) 92 [l0, l1, l2, l3, l4, l5, l6] [] σ) ∧ (¬ (a0 ≤ a1) → en_J (X_X7_add G q) 15 [l0, l1, l2, l3, l4, l5, l6] [] σ) := en_jb d_X7_add_12 rfl ⟨rfl, by decide⟩
theorem d_X7_add_15 : decode cX7_add 15 = .ok (.iload 5, 2) := by decide +kernel
theorem j_X7_add_15 {G : en_G} {q : Option en_V → en_S → Prop}  {l0 l1 l2 l3 l4 l6 : en_V} {x5 : Int32} {σ : en_S} : en_J (X_X7_add G q) 15 [l0, l1, l2, l3, l4, en_I x5, l6] [] σ ↔ en_J (X_X7_add G q) 17 [l0, l1, l2, l3, l4, en_I x5, l6] [en_I x5] σ := en_j1 d_X7_add_15 rfl rfl
theorem d_X7_add_17 : decode cX7_add 17 = .ok (.ifCond .ne 62, 3) := by decide +kernel
theorem j_X7_add_17 {G : en_G} {q : Option en_V → en_S → Prop}  {l0 l1 l2 l3 l4 l5 l6 : en_V} {a0 : Int32} {σ : en_S} : en_J (X_X7_add G q) 17 [l0, l1, l2, l3, l4, l5, l6] [en_I a0] σ ↔ (¬ a0 = 0 → en_J (X_X7_add G q) 79 [l0, l1, l2, l3, l4, l5, l6] [] σ) ∧ (¬ (¬ a0 = 0) → en_J (X_X7_add G q) 20 [l0, l1, l2, l3, l4, l5, l6] [] σ) := en_jb d_X7_add_17 rfl ⟨rfl, by decide⟩
theorem d_X7_add_20 : decode cX7_add 20 = .ok (.aload_n 0, 1) := by decide +kernel
theorem j_X7_add_20 {G : en_G} {q : Option en_V → en_S → Prop}  {l1 l2 l3 l4 l5 l6 : en_V} {x0 : Option Nat} {σ : en_S} : en_J (X_X7_add G q) 20 [en_R x0, l1, l2, l3, l4, l5, l6] [] σ ↔ en_J (X_X7_add G q) 21 [en_R x0, l1, l2, l3, l4, l5, l6] [en_R x0] σ := en_j1 d_X7_add_20 rfl rfl
theorem d_X7_add_21 : decode cX7_add 21 = .ok (.getfield 51, 3) := by decide +kernel
theorem j_X7_add_21 {G : en_G} {q : Option en_V → en_S → Prop}  {l0 l1 l2 l3 l4 l5 l6 : en_V} {a0 : Option Nat} {σ : en_S} : en_J (X_X7_add G q) 21 [l0, l1, l2, l3, l4, l5, l6] [en_R a0] σ ↔ ∃ a, a0 = some a ∧ en_cl σ a = some 7 ∧ en_J (X_X7_add G q) 24 [l0, l1, l2, l3, l4, l5, l6] [en_R (en_fr σ 715 a)] σ := en_jg (st := fun o => [en_R o]) (st' := fun a => [en_R (en_fr σ 715 a)]) (σ' := fun _ => σ) d_X7_add_21 rfl (fun a => rfl) (fun a => ⟨fun h => h.2, fun h => ⟨rfl, h⟩⟩)
theorem d_X7_add_24 : decode cX7_add 24 = .ok (.iload 6, 2) := by decide +kernel
theorem j_X7_add_24 {G : en_G} {q : Option en_V → en_S → Prop}  {l0 l1 l2 l3 l4 l5 : en_V} {a0 : Option Nat} {x6 : Int32} {σ : en_S} : en_J (X_X7_add G q) 24 [l0, l1, l2, l3, l4, l5, en_I x6] [en_R a0] σ ↔ en_J (X_X7_add G q) 26 [l0, l1, l2, l3, l4, l5, en_I x6] [en_I x6, en_R a0] σ := en_j1 d_X7_add_24 rfl rfl
theorem d_X7_add_26 : decode cX7_add 26 = .ok (.baload, 1) := by decide +kernel
theorem j_X7_add_26 {G : en_G} {q : Option en_V → en_S → Prop}  {l0 l1 l2 l3 l4 l5 l6 : en_V} {a0 : Int32} {a1 : Option Nat} {σ : en_S} : en_J (X_X7_add G q) 26 [l0, l1, l2, l3, l4, l5, l6] [en_I a0, en_R a1] σ ↔ ∃ a, a1 = some a ∧ (∃ k, en_al σ a = some (1, k) ∧ vp_in a0 k) ∧ en_J (X_X7_add G q) 27 [l0, l1, l2, l3, l4, l5, l6] [en_I (en_ai σ a a0.toNatClampNeg)] σ := ej_baload d_X7_add_26
theorem d_X7_add_27 : decode cX7_add 27 = .ok (.ifCond .ne 56, 3) := by decide +kernel
theorem j_X7_add_27 {G : en_G} {q : Option en_V → en_S → Prop}  {l0 l1 l2 l3 l4 l5 l6 : en_V} {a0 : Int32} {σ : en_S} : en_J (X_X7_add G q) 27 [l0, l1, l2, l3, l4, l5, l6] [en_I a0] σ ↔ (¬ a0 = 0 → en_J (X_X7_add G q) 83 [l0, l1, l2, l3, l4, l5, l6] [] σ) ∧ (¬ (¬ a0 = 0) → en_J (X_X7_add G q) 30 [l0, l1, l2, l3, l4, l5, l6] [] σ) := en_jb d_X7_add_27 rfl ⟨rfl, by decide⟩
theorem d_X7_add_30 : decode cX7_add 30 = .ok (.aload_n 0, 1) := by decide +kernel
theorem j_X7_add_30 {G : en_G} {q : Option en_V → en_S → Prop}  {l1 l2 l3 l4 l5 l6 : en_V} {x0 : Option Nat} {σ : en_S} : en_J (X_X7_add G q) 30 [en_R x0, l1, l2, l3, l4, l5, l6] [] σ ↔ en_J (X_X7_add G q) 31 [en_R x0, l1, l2, l3, l4, l5, l6] [en_R x0] σ := en_j1 d_X7_add_30 rfl rfl
theorem d_X7_add_31 : decode cX7_add 31 = .ok (.getfield 39, 3) := by decide +kernel
theorem j_X7_add_31 {G : en_G} {q : Option en_V → en_S → Prop}  {l0 l1 l2 l3 l4 l5 l6 : en_V} {a0 : Option Nat} {σ : en_S} : en_J (X_X7_add G q) 31 [l0, l1, l2, l3, l4, l5, l6] [en_R a0] σ ↔ ∃ a, a0 = some a ∧ en_cl σ a = some 7 ∧ en_J (X_X7_add G q) 34 [l0, l1, l2, l3, l4, l5, l6] [en_R (en_fr σ 711 a)] σ := en_jg (st := fun o => [en_R o]) (st' := fun a => [en_R (en_fr σ 711 a)]) (σ' := fun _ => σ) d_X7_add_31 rfl (fun a => rfl) (fun a => ⟨fun h => h.2, fun h => ⟨rfl, h⟩⟩)
theorem d_X7_add_34 : decode cX7_add 34 = .ok (.iload 6, 2) := by decide +kernel
theorem j_X7_add_34 {G : en_G} {q : Option en_V → en_S → Prop}  {l0 l1 l2 l3 l4 l5 : en_V} {a0 : Option Nat} {x6 : Int32} {σ : en_S} : en_J (X_X7_add G q) 34 [l0, l1, l2, l3, l4, l5, en_I x6] [en_R a0] σ ↔ en_J (X_X7_add G q) 36 [l0, l1, l2, l3, l4, l5, en_I x6] [en_I x6, en_R a0] σ := en_j1 d_X7_add_34 rfl rfl
theorem d_X7_add_36 : decode cX7_add 36 = .ok (.iaload, 1) := by decide +kernel
theorem j_X7_add_36 {G : en_G} {q : Option en_V → en_S → Prop}  {l0 l1 l2 l3 l4 l5 l6 : en_V} {a0 : Int32} {a1 : Option Nat} {σ : en_S} : en_J (X_X7_add G q) 36 [l0, l1, l2, l3, l4, l5, l6] [en_I a0, en_R a1] σ ↔ ∃ a, a1 = some a ∧ (∃ k, en_al σ a = some (0, k) ∧ vp_in a0 k) ∧ en_J (X_X7_add G q) 37 [l0, l1, l2, l3, l4, l5, l6] [en_I (en_ai σ a a0.toNatClampNeg)] σ := ej_iaload d_X7_add_36 rfl
theorem d_X7_add_37 : decode cX7_add 37 = .ok (.iload_n 1, 1) := by decide +kernel
theorem j_X7_add_37 {G : en_G} {q : Option en_V → en_S → Prop}  {l0 l2 l3 l4 l5 l6 : en_V} {a0 : Int32} {x1 : Int32} {σ : en_S} : en_J (X_X7_add G q) 37 [l0, en_I x1, l2, l3, l4, l5, l6] [en_I a0] σ ↔ en_J (X_X7_add G q) 38 [l0, en_I x1, l2, l3, l4, l5, l6] [en_I x1, en_I a0] σ := en_j1 d_X7_add_37 rfl rfl
theorem d_X7_add_38 : decode cX7_add 38 = .ok (.if_icmp .ne 45, 3) := by decide +kernel
theorem j_X7_add_38 {G : en_G} {q : Option en_V → en_S → Prop}  {l0 l1 l2 l3 l4 l5 l6 : en_V} {a0 : Int32} {a1 : Int32} {σ : en_S} : en_J (X_X7_add G q) 38 [l0, l1, l2, l3, l4, l5, l6] [en_I a0, en_I a1] σ ↔ (¬ a1 = a0 → en_J (X_X7_add G q) 83 [l0, l1, l2, l3, l4, l5, l6] [] σ) ∧ (¬ (¬ a1 = a0) → en_J (X_X7_add G q) 41 [l0, l1, l2, l3, l4, l5, l6] [] σ) := en_jb d_X7_add_38 rfl ⟨rfl, by decide⟩
theorem d_X7_add_41 : decode cX7_add 41 = .ok (.aload_n 0, 1) := by decide +kernel
theorem j_X7_add_41 {G : en_G} {q : Option en_V → en_S → Prop}  {l1 l2 l3 l4 l5 l6 : en_V} {x0 : Option Nat} {σ : en_S} : en_J (X_X7_add G q) 41 [en_R x0, l1, l2, l3, l4, l5, l6] [] σ ↔ en_J (X_X7_add G q) 42 [en_R x0, l1, l2, l3, l4, l5, l6] [en_R x0] σ := en_j1 d_X7_add_41 rfl rfl
theorem d_X7_add_42 : decode cX7_add 42 = .ok (.getfield 42, 3) := by decide +kernel
theorem j_X7_add_42 {G : en_G} {q : Option en_V → en_S → Prop}  {l0 l1 l2 l3 l4 l5 l6 : en_V} {a0 : Option Nat} {σ : en_S} : en_J (X_X7_add G q) 42 [l0, l1, l2, l3, l4, l5, l6] [en_R a0] σ ↔ ∃ a, a0 = some a ∧ en_cl σ a = some 7 ∧ en_J (X_X7_add G q) 45 [l0, l1, l2, l3, l4, l5, l6] [en_R (en_fr σ 712 a)] σ := en_jg (st := fun o => [en_R o]) (st' := fun a => [en_R (en_fr σ 712 a)]) (σ' := fun _ => σ) d_X7_add_42 rfl (fun a => rfl) (fun a => ⟨fun h => h.2, fun h => ⟨rfl, h⟩⟩)
theorem d_X7_add_45 : decode cX7_add 45 = .ok (.iload 6, 2) := by decide +kernel
theorem j_X7_add_45 {G : en_G} {q : Option en_V → en_S → Prop}  {l0 l1 l2 l3 l4 l5 : en_V} {a0 : Option Nat} {x6 : Int32} {σ : en_S} : en_J (X_X7_add G q) 45 [l0, l1, l2, l3, l4, l5, en_I x6] [en_R a0] σ ↔ en_J (X_X7_add G q) 47 [l0, l1, l2, l3, l4, l5, en_I x6] [en_I x6, en_R a0] σ := en_j1 d_X7_add_45 rfl rfl
theorem d_X7_add_47 : decode cX7_add 47 = .ok (.iaload, 1) := by decide +kernel
theorem j_X7_add_47 {G : en_G} {q : Option en_V → en_S → Prop}  {l0 l1 l2 l3 l4 l5 l6 : en_V} {a0 : Int32} {a1 : Option Nat} {σ : en_S} : en_J (X_X7_add G q) 47 [l0, l1, l2, l3, l4, l5, l6] [en_I a0, en_R a1] σ ↔ ∃ a, a1 = some a ∧ (∃ k, en_al σ a = some (0, k) ∧ vp_in a0 k) ∧ en_J (X_X7_add G q) 48 [l0, l1, l2, l3, l4, l5, l6] [en_I (en_ai σ a a0.toNatClampNeg)] σ := ej_iaload d_X7_add_47 rfl
theorem d_X7_add_48 : decode cX7_add 48 = .ok (.iload_n 2, 1) := by decide +kernel
theorem j_X7_add_48 {G : en_G} {q : Option en_V → en_S → Prop}  {l0 l1 l3 l4 l5 l6 : en_V} {a0 : Int32} {x2 : Int32} {σ : en_S} : en_J (X_X7_add G q) 48 [l0, l1, en_I x2, l3, l4, l5, l6] [en_I a0] σ ↔ en_J (X_X7_add G q) 49 [l0, l1, en_I x2, l3, l4, l5, l6] [en_I x2, en_I a0] σ := en_j1 d_X7_add_48 rfl rfl
theorem d_X7_add_49 : decode cX7_add 49 = .ok (.if_icmp .ne 34, 3) := by decide +kernel
theorem j_X7_add_49 {G : en_G} {q : Option en_V → en_S → Prop}  {l0 l1 l2 l3 l4 l5 l6 : en_V} {a0 : Int32} {a1 : Int32} {σ : en_S} : en_J (X_X7_add G q) 49 [l0, l1, l2, l3, l4, l5, l6] [en_I a0, en_I a1] σ ↔ (¬ a1 = a0 → en_J (X_X7_add G q) 83 [l0, l1, l2, l3, l4, l5, l6] [] σ) ∧ (¬ (¬ a1 = a0) → en_J (X_X7_add G q) 52 [l0, l1, l2, l3, l4, l5, l6] [] σ) := en_jb d_X7_add_49 rfl ⟨rfl, by decide⟩
theorem d_X7_add_52 : decode cX7_add 52 = .ok (.aload_n 0, 1) := by decide +kernel
theorem j_X7_add_52 {G : en_G} {q : Option en_V → en_S → Prop}  {l1 l2 l3 l4 l5 l6 : en_V} {x0 : Option Nat} {σ : en_S} : en_J (X_X7_add G q) 52 [en_R x0, l1, l2, l3, l4, l5, l6] [] σ ↔ en_J (X_X7_add G q) 53 [en_R x0, l1, l2, l3, l4, l5, l6] [en_R x0] σ := en_j1 d_X7_add_52 rfl rfl
theorem d_X7_add_53 : decode cX7_add 53 = .ok (.getfield 45, 3) := by decide +kernel
theorem j_X7_add_53 {G : en_G} {q : Option en_V → en_S → Prop}  {l0 l1 l2 l3 l4 l5 l6 : en_V} {a0 : Option Nat} {σ : en_S} : en_J (X_X7_add G q) 53 [l0, l1, l2, l3, l4, l5, l6] [en_R a0] σ ↔ ∃ a, a0 = some a ∧ en_cl σ a = some 7 ∧ en_J (X_X7_add G q) 56 [l0, l1, l2, l3, l4, l5, l6] [en_R (en_fr σ 713 a)] σ := en_jg (st := fun o => [en_R o]) (st' := fun a => [en_R (en_fr σ 713 a)]) (σ' := fun _ => σ) d_X7_add_53 rfl (fun a => rfl) (fun a => ⟨fun h => h.2, fun h => ⟨rfl, h⟩⟩)
theorem d_X7_add_56 : decode cX7_add 56 = .ok (.iload 6, 2) := by decide +kernel
theorem j_X7_add_56 {G : en_G} {q : Option en_V → en_S → Prop}  {l0 l1 l2 l3 l4 l5 : en_V} {a0 : Option Nat} {x6 : Int32} {σ : en_S} : en_J (X_X7_add G q) 56 [l0, l1, l2, l3, l4, l5, en_I x6] [en_R a0] σ ↔ en_J (X_X7_add G q) 58 [l0, l1, l2, l3, l4, l5, en_I x6] [en_I x6, en_R a0] σ := en_j1 d_X7_add_56 rfl rfl
theorem d_X7_add_58 : decode cX7_add 58 = .ok (.iaload, 1) := by decide +kernel
theorem j_X7_add_58 {G : en_G} {q : Option en_V → en_S → Prop}  {l0 l1 l2 l3 l4 l5 l6 : en_V} {a0 : Int32} {a1 : Option Nat} {σ : en_S} : en_J (X_X7_add G q) 58 [l0, l1, l2, l3, l4, l5, l6] [en_I a0, en_R a1] σ ↔ ∃ a, a1 = some a ∧ (∃ k, en_al σ a = some (0, k) ∧ vp_in a0 k) ∧ en_J (X_X7_add G q) 59 [l0, l1, l2, l3, l4, l5, l6] [en_I (en_ai σ a a0.toNatClampNeg)] σ := ej_iaload d_X7_add_58 rfl
theorem d_X7_add_59 : decode cX7_add 59 = .ok (.iconst 2, 1) := by decide +kernel
theorem j_X7_add_59 {G : en_G} {q : Option en_V → en_S → Prop}  {l0 l1 l2 l3 l4 l5 l6 : en_V} {a0 : Int32} {σ : en_S} : en_J (X_X7_add G q) 59 [l0, l1, l2, l3, l4, l5, l6] [en_I a0] σ ↔ en_J (X_X7_add G q) 60 [l0, l1, l2, l3, l4, l5, l6] [en_I 2, en_I a0] σ := ej_iconst d_X7_add_59 (by decide +kernel)
theorem d_X7_add_60 : decode cX7_add 60 = .ok (.irem, 1) := by decide +kernel
theorem j_X7_add_60 {G : en_G} {q : Option en_V → en_S → Prop}  {l0 l1 l2 l3 l4 l5 l6 : en_V} {a0 : Int32} {a1 : Int32} {σ : en_S} : en_J (X_X7_add G q) 60 [l0, l1, l2, l3, l4, l5, l6] [en_I a0, en_I a1] σ ↔ ¬ a0 = 0 ∧ en_J (X_X7_add G q) 61 [l0, l1, l2, l3, l4, l5, l6] [en_I (a1 - a1 / a0 * a0)] σ := en_jc d_X7_add_60 rfl ⟨fun h => h.2, fun h => ⟨rfl, h⟩⟩
theorem d_X7_add_61 : decode cX7_add 61 = .ok (.iload_n 3, 1) := by decide +kernel
theorem j_X7_add_61 {G : en_G} {q : Option en_V → en_S → Prop}  {l0 l1 l2 l4 l5 l6 : en_V} {a0 : Int32} {x3 : Int32} {σ : en_S} : en_J (X_X7_add G q) 61 [l0, l1, l2, en_I x3, l4, l5, l6] [en_I a0] σ ↔ en_J (X_X7_add G q) 62 [l0, l1, l2, en_I x3, l4, l5, l6] [en_I x3, en_I a0] σ := en_j1 d_X7_add_61 rfl rfl
theorem d_X7_add_62 : decode cX7_add 62 = .ok (.iconst 2, 1) := by decide +kernel
theorem j_X7_add_62 {G : en_G} {q : Option en_V → en_S → Prop}  {l0 l1 l2 l3 l4 l5 l6 : en_V} {a0 : Int32} {a1 : Int32} {σ : en_S} : en_J (X_X7_add G q) 62 [l0, l1, l2, l3, l4, l5, l6] [en_I a0, en_I a1] σ ↔ en_J (X_X7_add G q) 63 [l0, l1, l2, l3, l4, l5, l6] [en_I 2, en_I a0, en_I a1] σ := ej_iconst d_X7_add_62 (by decide +kernel)
theorem d_X7_add_63 : decode cX7_add 63 = .ok (.irem, 1) := by decide +kernel
theorem j_X7_add_63 {G : en_G} {q : Option en_V → en_S → Prop}  {l0 l1 l2 l3 l4 l5 l6 : en_V} {a0 : Int32} {a1 : Int32} {a2 : Int32} {σ : en_S} : en_J (X_X7_add G q) 63 [l0, l1, l2, l3, l4, l5, l6] [en_I a0, en_I a1, en_I a2] σ ↔ ¬ a0 = 0 ∧ en_J (X_X7_add G q) 64 [l0, l1, l2, l3, l4, l5, l6] [en_I (a1 - a1 / a0 * a0), en_I a2] σ := en_jc d_X7_add_63 rfl ⟨fun h => h.2, fun h => ⟨rfl, h⟩⟩
theorem d_X7_add_64 : decode cX7_add 64 = .ok (.if_icmp .ne 19, 3) := by decide +kernel
theorem j_X7_add_64 {G : en_G} {q : Option en_V → en_S → Prop}  {l0 l1 l2 l3 l4 l5 l6 : en_V} {a0 : Int32} {a1 : Int32} {σ : en_S} : en_J (X_X7_add G q) 64 [l0, l1, l2, l3, l4, l5, l6] [en_I a0, en_I a1] σ ↔ (¬ a1 = a0 → en_J (X_X7_add G q) 83 [l0, l1, l2, l3, l4, l5, l6] [] σ) ∧ (¬ (¬ a1 = a0) → en_J (X_X7_add G q) 67 [l0, l1, l2, l3, l4, l5, l6] [] σ) := en_jb d_X7_add_64 rfl ⟨rfl, by decide⟩
theorem d_X7_add_67 : decode cX7_add 67 = .ok (.aload_n 0, 1) := by decide +kernel
theorem j_X7_add_67 {G : en_G} {q : Option en_V → en_S → Prop}  {l1 l2 l3 l4 l5 l6 : en_V} {x0 : Option Nat} {σ : en_S} : en_J (X_X7_add G q) 67 [en_R x0, l1, l2, l3, l4, l5, l6] [] σ ↔ en_J (X_X7_add G q) 68 [en_R x0, l1, l2, l3, l4, l5, l6] [en_R x0] σ := en_j1 d_X7_add_67 rfl rfl
theorem d_X7_add_68 : decode cX7_add 68 = .ok (.getfield 48, 3) := by decide +kernel
theorem j_X7_add_68 {G : en_G} {q : Option en_V → en_S → Prop}  {l0 l1 l2 l3 l4 l5 l6 : en_V} {a0 : Option Nat} {σ : en_S} : en_J (X_X7_add G q) 68 [l0, l1, l2, l3, l4, l5, l6] [en_R a0] σ ↔ ∃ a, a0 = some a ∧ en_cl σ a = some 7 ∧ en_J (X_X7_add G q) 71 [l0, l1, l2, l3, l4, l5, l6] [en_R (en_fr σ 714 a)] σ := en_jg (st := fun o => [en_R o]) (st' := fun a => [en_R (en_fr σ 714 a)]) (σ' := fun _ => σ) d_X7_add_68 rfl (fun a => rfl) (fun a => ⟨fun h => h.2, fun h => ⟨rfl, h⟩⟩)
theorem d_X7_add_71 : decode cX7_add 71 = .ok (.iload 6, 2) := by decide +kernel
theorem j_X7_add_71 {G : en_G} {q : Option en_V → en_S → Prop}  {l0 l1 l2 l3 l4 l5 : en_V} {a0 : Option Nat} {x6 : Int32} {σ : en_S} : en_J (X_X7_add G q) 71 [l0, l1, l2, l3, l4, l5, en_I x6] [en_R a0] σ ↔ en_J (X_X7_add G q) 73 [l0, l1, l2, l3, l4, l5, en_I x6] [en_I x6, en_R a0] σ := en_j1 d_X7_add_71 rfl rfl
theorem d_X7_add_73 : decode cX7_add 73 = .ok (.iaload, 1) := by decide +kernel
theorem j_X7_add_73 {G : en_G} {q : Option en_V → en_S → Prop}  {l0 l1 l2 l3 l4 l5 l6 : en_V} {a0 : Int32} {a1 : Option Nat} {σ : en_S} : en_J (X_X7_add G q) 73 [l0, l1, l2, l3, l4, l5, l6] [en_I a0, en_R a1] σ ↔ ∃ a, a1 = some a ∧ (∃ k, en_al σ a = some (0, k) ∧ vp_in a0 k) ∧ en_J (X_X7_add G q) 74 [l0, l1, l2, l3, l4, l5, l6] [en_I (en_ai σ a a0.toNatClampNeg)] σ := ej_iaload d_X7_add_73 rfl
theorem d_X7_add_74 : decode cX7_add 74 = .ok (.iload 4, 2) := by decide +kernel
theorem j_X7_add_74 {G : en_G} {q : Option en_V → en_S → Prop}  {l0 l1 l2 l3 l5 l6 : en_V} {a0 : Int32} {x4 : Int32} {σ : en_S} : en_J (X_X7_add G q) 74 [l0, l1, l2, l3, en_I x4, l5, l6] [en_I a0] σ ↔ en_J (X_X7_add G q) 76 [l0, l1, l2, l3, en_I x4, l5, l6] [en_I x4, en_I a0] σ := en_j1 d_X7_add_74 rfl rfl
theorem d_X7_add_76 : decode cX7_add 76 = .ok (.if_icmp .ne 7, 3) := by decide +kernel
theorem j_X7_add_76 {G : en_G} {q : Option en_V → en_S → Prop}  {l0 l1 l2 l3 l4 l5 l6 : en_V} {a0 : Int32} {a1 : Int32} {σ : en_S} : en_J (X_X7_add G q) 76 [l0, l1, l2, l3, l4, l5, l6] [en_I a0, en_I a1] σ ↔ (¬ a1 = a0 → en_J (X_X7_add G q) 83 [l0, l1, l2, l3, l4, l5, l6] [] σ) ∧ (¬ (¬ a1 = a0) → en_J (X_X7_add G q) 79 [l0, l1, l2, l3, l4, l5, l6] [] σ) := en_jb d_X7_add_76 rfl ⟨rfl, by decide⟩
theorem d_X7_add_79 : decode cX7_add 79 = .ok (.iconst 1, 1) := by decide +kernel
theorem j_X7_add_79 {G : en_G} {q : Option en_V → en_S → Prop}  {l0 l1 l2 l3 l4 l5 l6 : en_V}  {σ : en_S} : en_J (X_X7_add G q) 79 [l0, l1, l2, l3, l4, l5, l6] [] σ ↔ en_J (X_X7_add G q) 80 [l0, l1, l2, l3, l4, l5, l6] [en_I 1] σ := ej_iconst d_X7_add_79 (by decide +kernel)
theorem d_X7_add_80 : decode cX7_add 80 = .ok (.goto 4, 3) := by decide +kernel
theorem j_X7_add_80 {G : en_G} {q : Option en_V → en_S → Prop}  {l0 l1 l2 l3 l4 l5 l6 : en_V} {a0 : Int32} {σ : en_S} : en_J (X_X7_add G q) 80 [l0, l1, l2, l3, l4, l5, l6] [en_I a0] σ ↔ en_J (X_X7_add G q) 84 [l0, l1, l2, l3, l4, l5, l6] [en_I a0] σ := en_j1 d_X7_add_80 rfl ⟨rfl, by decide⟩
theorem d_X7_add_83 : decode cX7_add 83 = .ok (.iconst 0, 1) := by decide +kernel
theorem j_X7_add_83 {G : en_G} {q : Option en_V → en_S → Prop}  {l0 l1 l2 l3 l4 l5 l6 : en_V}  {σ : en_S} : en_J (X_X7_add G q) 83 [l0, l1, l2, l3, l4, l5, l6] [] σ ↔ en_J (X_X7_add G q) 84 [l0, l1, l2, l3, l4, l5, l6] [en_I 0] σ := ej_iconst d_X7_add_83 (by decide +kernel)
theorem d_X7_add_84 : decode cX7_add 84 = .ok (.istore 5, 2) := by decide +kernel
theorem j_X7_add_84 {G : en_G} {q : Option en_V → en_S → Prop}  {l0 l1 l2 l3 l4 l5 l6 : en_V} {a0 : Int32} {σ : en_S} : en_J (X_X7_add G q) 84 [l0, l1, l2, l3, l4, l5, l6] [en_I a0] σ ↔ en_J (X_X7_add G q) 86 [l0, l1, l2, l3, en_c2 l4, en_I a0, l6] [] σ := en_j1 d_X7_add_84 rfl ⟨rfl, Nat.le_of_ble_eq_true rfl⟩
theorem d_X7_add_86 : decode cX7_add 86 = .ok (.iinc 6 1, 3) := by decide +kernel
theorem j_X7_add_86 {G : en_G} {q : Option en_V → en_S → Prop}  {l0 l1 l2 l3 l4 l5 : en_V} {x6 : Int32} {σ : en_S} : en_J (X_X7_add G q) 86 [l0, l1, l2, l3, l4, l5, en_I x6] [] σ ↔ en_J (X_X7_add G q) 89 [l0, l1, l2, l3, l4, en_c2 l5, en_I (x6 + 1)] [] σ := ej_iinc d_X7_add_86 rfl (by decide +kernel) rfl
theorem d_X7_add_89 : decode cX7_add 89 = .ok (.goto (-83), 3) := by decide +kernel
theorem j_X7_add_89 {G : en_G} {q : Option en_V → en_S → Prop}  {l0 l1 l2 l3 l4 l5 l6 : en_V}  {σ : en_S} : en_J (X_X7_add G q) 89 [l0, l1, l2, l3, l4, l5, l6] [] σ ↔ en_J (X_X7_add G q) 6 [l0, l1, l2, l3, l4, l5, l6] [] σ := en_j1 d_X7_add_89 rfl ⟨rfl, by decide⟩
theorem d_X7_add_92 : decode cX7_add 92 = .ok (.iload 5, 2) := by decide +kernel
theorem j_X7_add_92 {G : en_G} {q : Option en_V → en_S → Prop}  {l0 l1 l2 l3 l4 l6 : en_V} {x5 : Int32} {σ : en_S} : en_J (X_X7_add G q) 92 [l0, l1, l2, l3, l4, en_I x5, l6] [] σ ↔ en_J (X_X7_add G q) 94 [l0, l1, l2, l3, l4, en_I x5, l6] [en_I x5] σ := en_j1 d_X7_add_92 rfl rfl
theorem d_X7_add_94 : decode cX7_add 94 = .ok (.ifCond .ne 12, 3) := by decide +kernel
theorem j_X7_add_94 {G : en_G} {q : Option en_V → en_S → Prop}  {l0 l1 l2 l3 l4 l5 l6 : en_V} {a0 : Int32} {σ : en_S} : en_J (X_X7_add G q) 94 [l0, l1, l2, l3, l4, l5, l6] [en_I a0] σ ↔ (¬ a0 = 0 → en_J (X_X7_add G q) 106 [l0, l1, l2, l3, l4, l5, l6] [] σ) ∧ (¬ (¬ a0 = 0) → en_J (X_X7_add G q) 97 [l0, l1, l2, l3, l4, l5, l6] [] σ) := en_jb d_X7_add_94 rfl ⟨rfl, by decide⟩
theorem d_X7_add_97 : decode cX7_add 97 = .ok (.aload_n 0, 1) := by decide +kernel
theorem j_X7_add_97 {G : en_G} {q : Option en_V → en_S → Prop}  {l1 l2 l3 l4 l5 l6 : en_V} {x0 : Option Nat} {σ : en_S} : en_J (X_X7_add G q) 97 [en_R x0, l1, l2, l3, l4, l5, l6] [] σ ↔ en_J (X_X7_add G q) 98 [en_R x0, l1, l2, l3, l4, l5, l6] [en_R x0] σ := en_j1 d_X7_add_97 rfl rfl
theorem d_X7_add_98 : decode cX7_add 98 = .ok (.getfield 188, 3) := by decide +kernel
theorem j_X7_add_98 {G : en_G} {q : Option en_V → en_S → Prop}  {l0 l1 l2 l3 l4 l5 l6 : en_V} {a0 : Option Nat} {σ : en_S} : en_J (X_X7_add G q) 98 [l0, l1, l2, l3, l4, l5, l6] [en_R a0] σ ↔ ∃ a, a0 = some a ∧ en_cl σ a = some 7 ∧ en_J (X_X7_add G q) 101 [l0, l1, l2, l3, l4, l5, l6] [en_I (en_fi σ 710 a)] σ := en_jg (st := fun o => [en_R o]) (st' := fun a => [en_I (en_fi σ 710 a)]) (σ' := fun _ => σ) d_X7_add_98 rfl (fun a => rfl) (fun a => ⟨fun h => h.2, fun h => ⟨rfl, h⟩⟩)
theorem d_X7_add_101 : decode cX7_add 101 = .ok (.bipush 40, 2) := by decide +kernel
theorem j_X7_add_101 {G : en_G} {q : Option en_V → en_S → Prop}  {l0 l1 l2 l3 l4 l5 l6 : en_V} {a0 : Int32} {σ : en_S} : en_J (X_X7_add G q) 101 [l0, l1, l2, l3, l4, l5, l6] [en_I a0] σ ↔ en_J (X_X7_add G q) 103 [l0, l1, l2, l3, l4, l5, l6] [en_I 40, en_I a0] σ := ej_bipush d_X7_add_101 (by decide +kernel)
theorem d_X7_add_103 : decode cX7_add 103 = .ok (.if_icmp .ne 5, 3) := by decide +kernel
theorem j_X7_add_103 {G : en_G} {q : Option en_V → en_S → Prop}  {l0 l1 l2 l3 l4 l5 l6 : en_V} {a0 : Int32} {a1 : Int32} {σ : en_S} : en_J (X_X7_add G q) 103 [l0, l1, l2, l3, l4, l5, l6] [en_I a0, en_I a1] σ ↔ (¬ a1 = a0 → en_J (X_X7_add G q) 108 [l0, l1, l2, l3, l4, l5, l6] [] σ) ∧ (¬ (¬ a1 = a0) → en_J (X_X7_add G q) 106 [l0, l1, l2, l3, l4, l5, l6] [] σ) := en_jb d_X7_add_103 rfl ⟨rfl, by decide⟩
theorem d_X7_add_106 : decode cX7_add 106 = .ok (.iconst (-1), 1) := by decide +kernel
theorem j_X7_add_106 {G : en_G} {q : Option en_V → en_S → Prop}  {l0 l1 l2 l3 l4 l5 l6 : en_V}  {σ : en_S} : en_J (X_X7_add G q) 106 [l0, l1, l2, l3, l4, l5, l6] [] σ ↔ en_J (X_X7_add G q) 107 [l0, l1, l2, l3, l4, l5, l6] [en_I (-1)] σ := ej_iconst d_X7_add_106 (by decide +kernel)
theorem d_X7_add_107 : decode cX7_add 107 = .ok (.ireturn, 1) := by decide +kernel
theorem j_X7_add_107 {G : en_G} {q : Option en_V → en_S → Prop}  {l0 l1 l2 l3 l4 l5 l6 : en_V} {a0 : Int32} {σ : en_S} : en_J (X_X7_add G q) 107 [l0, l1, l2, l3, l4, l5, l6] [en_I a0] σ ↔ q (some (en_I a0)) σ := en_jr d_X7_add_107 rfl ⟨fun h => h.2.2, fun h => ⟨rfl, Or.inl rfl, h⟩⟩
theorem d_X7_add_108 : decode cX7_add 108 = .ok (.aload_n 0, 1) := by decide +kernel
theorem j_X7_add_108 {G : en_G} {q : Option en_V → en_S → Prop}  {l1 l2 l3 l4 l5 l6 : en_V} {x0 : Option Nat} {σ : en_S} : en_J (X_X7_add G q) 108 [en_R x0, l1, l2, l3, l4, l5, l6] [] σ ↔ en_J (X_X7_add G q) 109 [en_R x0, l1, l2, l3, l4, l5, l6] [en_R x0] σ := en_j1 d_X7_add_108 rfl rfl
theorem d_X7_add_109 : decode cX7_add 109 = .ok (.getfield 39, 3) := by decide +kernel
theorem j_X7_add_109 {G : en_G} {q : Option en_V → en_S → Prop}  {l0 l1 l2 l3 l4 l5 l6 : en_V} {a0 : Option Nat} {σ : en_S} : en_J (X_X7_add G q) 109 [l0, l1, l2, l3, l4, l5, l6] [en_R a0] σ ↔ ∃ a, a0 = some a ∧ en_cl σ a = some 7 ∧ en_J (X_X7_add G q) 112 [l0, l1, l2, l3, l4, l5, l6] [en_R (en_fr σ 711 a)] σ := en_jg (st := fun o => [en_R o]) (st' := fun a => [en_R (en_fr σ 711 a)]) (σ' := fun _ => σ) d_X7_add_109 rfl (fun a => rfl) (fun a => ⟨fun h => h.2, fun h => ⟨rfl, h⟩⟩)
theorem d_X7_add_112 : decode cX7_add 112 = .ok (.aload_n 0, 1) := by decide +kernel
theorem j_X7_add_112 {G : en_G} {q : Option en_V → en_S → Prop}  {l1 l2 l3 l4 l5 l6 : en_V} {a0 : Option Nat} {x0 : Option Nat} {σ : en_S} : en_J (X_X7_add G q) 112 [en_R x0, l1, l2, l3, l4, l5, l6] [en_R a0] σ ↔ en_J (X_X7_add G q) 113 [en_R x0, l1, l2, l3, l4, l5, l6] [en_R x0, en_R a0] σ := en_j1 d_X7_add_112 rfl rfl
theorem d_X7_add_113 : decode cX7_add 113 = .ok (.getfield 188, 3) := by decide +kernel
theorem j_X7_add_113 {G : en_G} {q : Option en_V → en_S → Prop}  {l0 l1 l2 l3 l4 l5 l6 : en_V} {a0 : Option Nat} {a1 : Option Nat} {σ : en_S} : en_J (X_X7_add G q) 113 [l0, l1, l2, l3, l4, l5, l6] [en_R a0, en_R a1] σ ↔ ∃ a, a0 = some a ∧ en_cl σ a = some 7 ∧ en_J (X_X7_add G q) 116 [l0, l1, l2, l3, l4, l5, l6] [en_I (en_fi σ 710 a), en_R a1] σ := en_jg (st := fun o => [en_R o, en_R a1]) (st' := fun a => [en_I (en_fi σ 710 a), en_R a1]) (σ' := fun _ => σ) d_X7_add_113 rfl (fun a => rfl) (fun a => ⟨fun h => h.2, fun h => ⟨rfl, h⟩⟩)
theorem d_X7_add_116 : decode cX7_add 116 = .ok (.iload_n 1, 1) := by decide +kernel
theorem j_X7_add_116 {G : en_G} {q : Option en_V → en_S → Prop}  {l0 l2 l3 l4 l5 l6 : en_V} {a0 : Int32} {a1 : Option Nat} {x1 : Int32} {σ : en_S} : en_J (X_X7_add G q) 116 [l0, en_I x1, l2, l3, l4, l5, l6] [en_I a0, en_R a1] σ ↔ en_J (X_X7_add G q) 117 [l0, en_I x1, l2, l3, l4, l5, l6] [en_I x1, en_I a0, en_R a1] σ := en_j1 d_X7_add_116 rfl rfl
theorem d_X7_add_117 : decode cX7_add 117 = .ok (.iastore, 1) := by decide +kernel
theorem j_X7_add_117 {G : en_G} {q : Option en_V → en_S → Prop}  {l0 l1 l2 l3 l4 l5 l6 : en_V} {a0 : Int32} {a1 : Int32} {a2 : Option Nat} {σ : en_S} : en_J (X_X7_add G q) 117 [l0, l1, l2, l3, l4, l5, l6] [en_I a0, en_I a1, en_R a2] σ ↔ ∃ a, a2 = some a ∧ (∃ k, en_al σ a = some (0, k) ∧ vp_in a1 k) ∧ en_J (X_X7_add G q) 118 [l0, l1, l2, l3, l4, l5, l6] [] (en_sai σ a a1.toNatClampNeg a0) := ej_iastore d_X7_add_117
theorem d_X7_add_118 : decode cX7_add 118 = .ok (.aload_n 0, 1) := by decide +kernel
theorem j_X7_add_118 {G : en_G} {q : Option en_V → en_S → Prop}  {l1 l2 l3 l4 l5 l6 : en_V} {x0 : Option Nat} {σ : en_S} : en_J (X_X7_add G q) 118 [en_R x0, l1, l2, l3, l4, l5, l6] [] σ ↔ en_J (X_X7_add G q) 119 [en_R x0, l1, l2, l3, l4, l5, l6] [en_R x0] σ := en_j1 d_X7_add_118 rfl rfl
theorem d_X7_add_119 : decode cX7_add 119 = .ok (.getfield 42, 3) := by decide +kernel
theorem j_X7_add_119 {G : en_G} {q : Option en_V → en_S → Prop}  {l0 l1 l2 l3 l4 l5 l6 : en_V} {a0 : Option Nat} {σ : en_S} : en_J (X_X7_add G q) 119 [l0, l1, l2, l3, l4, l5, l6] [en_R a0] σ ↔ ∃ a, a0 = some a ∧ en_cl σ a = some 7 ∧ en_J (X_X7_add G q) 122 [l0, l1, l2, l3, l4, l5, l6] [en_R (en_fr σ 712 a)] σ := en_jg (st := fun o => [en_R o]) (st' := fun a => [en_R (en_fr σ 712 a)]) (σ' := fun _ => σ) d_X7_add_119 rfl (fun a => rfl) (fun a => ⟨fun h => h.2, fun h => ⟨rfl, h⟩⟩)
theorem d_X7_add_122 : decode cX7_add 122 = .ok (.aload_n 0, 1) := by decide +kernel
theorem j_X7_add_122 {G : en_G} {q : Option en_V → en_S → Prop}  {l1 l2 l3 l4 l5 l6 : en_V} {a0 : Option Nat} {x0 : Option Nat} {σ : en_S} : en_J (X_X7_add G q) 122 [en_R x0, l1, l2, l3, l4, l5, l6] [en_R a0] σ ↔ en_J (X_X7_add G q) 123 [en_R x0, l1, l2, l3, l4, l5, l6] [en_R x0, en_R a0] σ := en_j1 d_X7_add_122 rfl rfl
theorem d_X7_add_123 : decode cX7_add 123 = .ok (.getfield 188, 3) := by decide +kernel
theorem j_X7_add_123 {G : en_G} {q : Option en_V → en_S → Prop}  {l0 l1 l2 l3 l4 l5 l6 : en_V} {a0 : Option Nat} {a1 : Option Nat} {σ : en_S} : en_J (X_X7_add G q) 123 [l0, l1, l2, l3, l4, l5, l6] [en_R a0, en_R a1] σ ↔ ∃ a, a0 = some a ∧ en_cl σ a = some 7 ∧ en_J (X_X7_add G q) 126 [l0, l1, l2, l3, l4, l5, l6] [en_I (en_fi σ 710 a), en_R a1] σ := en_jg (st := fun o => [en_R o, en_R a1]) (st' := fun a => [en_I (en_fi σ 710 a), en_R a1]) (σ' := fun _ => σ) d_X7_add_123 rfl (fun a => rfl) (fun a => ⟨fun h => h.2, fun h => ⟨rfl, h⟩⟩)
theorem d_X7_add_126 : decode cX7_add 126 = .ok (.iload_n 2, 1) := by decide +kernel
theorem j_X7_add_126 {G : en_G} {q : Option en_V → en_S → Prop}  {l0 l1 l3 l4 l5 l6 : en_V} {a0 : Int32} {a1 : Option Nat} {x2 : Int32} {σ : en_S} : en_J (X_X7_add G q) 126 [l0, l1, en_I x2, l3, l4, l5, l6] [en_I a0, en_R a1] σ ↔ en_J (X_X7_add G q) 127 [l0, l1, en_I x2, l3, l4, l5, l6] [en_I x2, en_I a0, en_R a1] σ := en_j1 d_X7_add_126 rfl rfl
theorem d_X7_add_127 : decode cX7_add 127 = .ok (.iastore, 1) := by decide +kernel
theorem j_X7_add_127 {G : en_G} {q : Option en_V → en_S → Prop}  {l0 l1 l2 l3 l4 l5 l6 : en_V} {a0 : Int32} {a1 : Int32} {a2 : Option Nat} {σ : en_S} : en_J (X_X7_add G q) 127 [l0, l1, l2, l3, l4, l5, l6] [en_I a0, en_I a1, en_R a2] σ ↔ ∃ a, a2 = some a ∧ (∃ k, en_al σ a = some (0, k) ∧ vp_in a1 k) ∧ en_J (X_X7_add G q) 128 [l0, l1, l2, l3, l4, l5, l6] [] (en_sai σ a a1.toNatClampNeg a0) := ej_iastore d_X7_add_127
theorem d_X7_add_128 : decode cX7_add 128 = .ok (.aload_n 0, 1) := by decide +kernel
theorem j_X7_add_128 {G : en_G} {q : Option en_V → en_S → Prop}  {l1 l2 l3 l4 l5 l6 : en_V} {x0 : Option Nat} {σ : en_S} : en_J (X_X7_add G q) 128 [en_R x0, l1, l2, l3, l4, l5, l6] [] σ ↔ en_J (X_X7_add G q) 129 [en_R x0, l1, l2, l3, l4, l5, l6] [en_R x0] σ := en_j1 d_X7_add_128 rfl rfl
theorem d_X7_add_129 : decode cX7_add 129 = .ok (.getfield 45, 3) := by decide +kernel
theorem j_X7_add_129 {G : en_G} {q : Option en_V → en_S → Prop}  {l0 l1 l2 l3 l4 l5 l6 : en_V} {a0 : Option Nat} {σ : en_S} : en_J (X_X7_add G q) 129 [l0, l1, l2, l3, l4, l5, l6] [en_R a0] σ ↔ ∃ a, a0 = some a ∧ en_cl σ a = some 7 ∧ en_J (X_X7_add G q) 132 [l0, l1, l2, l3, l4, l5, l6] [en_R (en_fr σ 713 a)] σ := en_jg (st := fun o => [en_R o]) (st' := fun a => [en_R (en_fr σ 713 a)]) (σ' := fun _ => σ) d_X7_add_129 rfl (fun a => rfl) (fun a => ⟨fun h => h.2, fun h => ⟨rfl, h⟩⟩)
theorem d_X7_add_132 : decode cX7_add 132 = .ok (.aload_n 0, 1) := by decide +kernel
theorem j_X7_add_132 {G : en_G} {q : Option en_V → en_S → Prop}  {l1 l2 l3 l4 l5 l6 : en_V} {a0 : Option Nat} {x0 : Option Nat} {σ : en_S} : en_J (X_X7_add G q) 132 [en_R x0, l1, l2, l3, l4, l5, l6] [en_R a0] σ ↔ en_J (X_X7_add G q) 133 [en_R x0, l1, l2, l3, l4, l5, l6] [en_R x0, en_R a0] σ := en_j1 d_X7_add_132 rfl rfl
theorem d_X7_add_133 : decode cX7_add 133 = .ok (.getfield 188, 3) := by decide +kernel
theorem j_X7_add_133 {G : en_G} {q : Option en_V → en_S → Prop}  {l0 l1 l2 l3 l4 l5 l6 : en_V} {a0 : Option Nat} {a1 : Option Nat} {σ : en_S} : en_J (X_X7_add G q) 133 [l0, l1, l2, l3, l4, l5, l6] [en_R a0, en_R a1] σ ↔ ∃ a, a0 = some a ∧ en_cl σ a = some 7 ∧ en_J (X_X7_add G q) 136 [l0, l1, l2, l3, l4, l5, l6] [en_I (en_fi σ 710 a), en_R a1] σ := en_jg (st := fun o => [en_R o, en_R a1]) (st' := fun a => [en_I (en_fi σ 710 a), en_R a1]) (σ' := fun _ => σ) d_X7_add_133 rfl (fun a => rfl) (fun a => ⟨fun h => h.2, fun h => ⟨rfl, h⟩⟩)
theorem d_X7_add_136 : decode cX7_add 136 = .ok (.iload_n 3, 1) := by decide +kernel
theorem j_X7_add_136 {G : en_G} {q : Option en_V → en_S → Prop}  {l0 l1 l2 l4 l5 l6 : en_V} {a0 : Int32} {a1 : Option Nat} {x3 : Int32} {σ : en_S} : en_J (X_X7_add G q) 136 [l0, l1, l2, en_I x3, l4, l5, l6] [en_I a0, en_R a1] σ ↔ en_J (X_X7_add G q) 137 [l0, l1, l2, en_I x3, l4, l5, l6] [en_I x3, en_I a0, en_R a1] σ := en_j1 d_X7_add_136 rfl rfl
theorem d_X7_add_137 : decode cX7_add 137 = .ok (.iastore, 1) := by decide +kernel
theorem j_X7_add_137 {G : en_G} {q : Option en_V → en_S → Prop}  {l0 l1 l2 l3 l4 l5 l6 : en_V} {a0 : Int32} {a1 : Int32} {a2 : Option Nat} {σ : en_S} : en_J (X_X7_add G q) 137 [l0, l1, l2, l3, l4, l5, l6] [en_I a0, en_I a1, en_R a2] σ ↔ ∃ a, a2 = some a ∧ (∃ k, en_al σ a = some (0, k) ∧ vp_in a1 k) ∧ en_J (X_X7_add G q) 138 [l0, l1, l2, l3, l4, l5, l6] [] (en_sai σ a a1.toNatClampNeg a0) := ej_iastore d_X7_add_137
theorem d_X7_add_138 : decode cX7_add 138 = .ok (.aload_n 0, 1) := by decide +kernel
theorem j_X7_add_138 {G : en_G} {q : Option en_V → en_S → Prop}  {l1 l2 l3 l4 l5 l6 : en_V} {x0 : Option Nat} {σ : en_S} : en_J (X_X7_add G q) 138 [en_R x0, l1, l2, l3, l4, l5, l6] [] σ ↔ en_J (X_X7_add G q) 139 [en_R x0, l1, l2, l3, l4, l5, l6] [en_R x0] σ := en_j1 d_X7_add_138 rfl rfl
theorem d_X7_add_139 : decode cX7_add 139 = .ok (.getfield 48, 3) := by decide +kernel
theorem j_X7_add_139 {G : en_G} {q : Option en_V → en_S → Prop}  {l0 l1 l2 l3 l4 l5 l6 : en_V} {a0 : Option Nat} {σ : en_S} : en_J (X_X7_add G q) 139 [l0, l1, l2, l3, l4, l5, l6] [en_R a0] σ ↔ ∃ a, a0 = some a ∧ en_cl σ a = some 7 ∧ en_J (X_X7_add G q) 142 [l0, l1, l2, l3, l4, l5, l6] [en_R (en_fr σ 714 a)] σ := en_jg (st := fun o => [en_R o]) (st' := fun a => [en_R (en_fr σ 714 a)]) (σ' := fun _ => σ) d_X7_add_139 rfl (fun a => rfl) (fun a => ⟨fun h => h.2, fun h => ⟨rfl, h⟩⟩)
theorem d_X7_add_142 : decode cX7_add 142 = .ok (.aload_n 0, 1) := by decide +kernel
theorem j_X7_add_142 {G : en_G} {q : Option en_V → en_S → Prop}  {l1 l2 l3 l4 l5 l6 : en_V} {a0 : Option Nat} {x0 : Option Nat} {σ : en_S} : en_J (X_X7_add G q) 142 [en_R x0, l1, l2, l3, l4, l5, l6] [en_R a0] σ ↔ en_J (X_X7_add G q) 143 [en_R x0, l1, l2, l3, l4, l5, l6] [en_R x0, en_R a0] σ := en_j1 d_X7_add_142 rfl rfl
theorem d_X7_add_143 : decode cX7_add 143 = .ok (.getfield 188, 3) := by decide +kernel
theorem j_X7_add_143 {G : en_G} {q : Option en_V → en_S → Prop}  {l0 l1 l2 l3 l4 l5 l6 : en_V} {a0 : Option Nat} {a1 : Option Nat} {σ : en_S} : en_J (X_X7_add G q) 143 [l0, l1, l2, l3, l4, l5, l6] [en_R a0, en_R a1] σ ↔ ∃ a, a0 = some a ∧ en_cl σ a = some 7 ∧ en_J (X_X7_add G q) 146 [l0, l1, l2, l3, l4, l5, l6] [en_I (en_fi σ 710 a), en_R a1] σ := en_jg (st := fun o => [en_R o, en_R a1]) (st' := fun a => [en_I (en_fi σ 710 a), en_R a1]) (σ' := fun _ => σ) d_X7_add_143 rfl (fun a => rfl) (fun a => ⟨fun h => h.2, fun h => ⟨rfl, h⟩⟩)
theorem d_X7_add_146 : decode cX7_add 146 = .ok (.iload 4, 2) := by decide +kernel
theorem j_X7_add_146 {G : en_G} {q : Option en_V → en_S → Prop}  {l0 l1 l2 l3 l5 l6 : en_V} {a0 : Int32} {a1 : Option Nat} {x4 : Int32} {σ : en_S} : en_J (X_X7_add G q) 146 [l0, l1, l2, l3, en_I x4, l5, l6] [en_I a0, en_R a1] σ ↔ en_J (X_X7_add G q) 148 [l0, l1, l2, l3, en_I x4, l5, l6] [en_I x4, en_I a0, en_R a1] σ := en_j1 d_X7_add_146 rfl rfl
theorem d_X7_add_148 : decode cX7_add 148 = .ok (.iastore, 1) := by decide +kernel
theorem j_X7_add_148 {G : en_G} {q : Option en_V → en_S → Prop}  {l0 l1 l2 l3 l4 l5 l6 : en_V} {a0 : Int32} {a1 : Int32} {a2 : Option Nat} {σ : en_S} : en_J (X_X7_add G q) 148 [l0, l1, l2, l3, l4, l5, l6] [en_I a0, en_I a1, en_R a2] σ ↔ ∃ a, a2 = some a ∧ (∃ k, en_al σ a = some (0, k) ∧ vp_in a1 k) ∧ en_J (X_X7_add G q) 149 [l0, l1, l2, l3, l4, l5, l6] [] (en_sai σ a a1.toNatClampNeg a0) := ej_iastore d_X7_add_148
theorem d_X7_add_149 : decode cX7_add 149 = .ok (.aload_n 0, 1) := by decide +kernel
theorem j_X7_add_149 {G : en_G} {q : Option en_V → en_S → Prop}  {l1 l2 l3 l4 l5 l6 : en_V} {x0 : Option Nat} {σ : en_S} : en_J (X_X7_add G q) 149 [en_R x0, l1, l2, l3, l4, l5, l6] [] σ ↔ en_J (X_X7_add G q) 150 [en_R x0, l1, l2, l3, l4, l5, l6] [en_R x0] σ := en_j1 d_X7_add_149 rfl rfl
theorem d_X7_add_150 : decode cX7_add 150 = .ok (.dup, 1) := by decide +kernel
theorem j_X7_add_150 {G : en_G} {q : Option en_V → en_S → Prop}  {l0 l1 l2 l3 l4 l5 l6 : en_V} {a0 : Option Nat} {σ : en_S} : en_J (X_X7_add G q) 150 [l0, l1, l2, l3, l4, l5, l6] [en_R a0] σ ↔ en_J (X_X7_add G q) 151 [l0, l1, l2, l3, l4, l5, l6] [en_R a0, en_R a0] σ := en_j1 d_X7_add_150 rfl rfl
theorem d_X7_add_151 : decode cX7_add 151 = .ok (.getfield 188, 3) := by decide +kernel
theorem j_X7_add_151 {G : en_G} {q : Option en_V → en_S → Prop}  {l0 l1 l2 l3 l4 l5 l6 : en_V} {a0 : Option Nat} {a1 : Option Nat} {σ : en_S} : en_J (X_X7_add G q) 151 [l0, l1, l2, l3, l4, l5, l6] [en_R a0, en_R a1] σ ↔ ∃ a, a0 = some a ∧ en_cl σ a = some 7 ∧ en_J (X_X7_add G q) 154 [l0, l1, l2, l3, l4, l5, l6] [en_I (en_fi σ 710 a), en_R a1] σ := en_jg (st := fun o => [en_R o, en_R a1]) (st' := fun a => [en_I (en_fi σ 710 a), en_R a1]) (σ' := fun _ => σ) d_X7_add_151 rfl (fun a => rfl) (fun a => ⟨fun h => h.2, fun h => ⟨rfl, h⟩⟩)
theorem d_X7_add_154 : decode cX7_add 154 = .ok (.iconst 1, 1) := by decide +kernel
theorem j_X7_add_154 {G : en_G} {q : Option en_V → en_S → Prop}  {l0 l1 l2 l3 l4 l5 l6 : en_V} {a0 : Int32} {a1 : Option Nat} {σ : en_S} : en_J (X_X7_add G q) 154 [l0, l1, l2, l3, l4, l5, l6] [en_I a0, en_R a1] σ ↔ en_J (X_X7_add G q) 155 [l0, l1, l2, l3, l4, l5, l6] [en_I 1, en_I a0, en_R a1] σ := ej_iconst d_X7_add_154 (by decide +kernel)
theorem d_X7_add_155 : decode cX7_add 155 = .ok (.iadd, 1) := by decide +kernel
theorem j_X7_add_155 {G : en_G} {q : Option en_V → en_S → Prop}  {l0 l1 l2 l3 l4 l5 l6 : en_V} {a0 : Int32} {a1 : Int32} {a2 : Option Nat} {σ : en_S} : en_J (X_X7_add G q) 155 [l0, l1, l2, l3, l4, l5, l6] [en_I a0, en_I a1, en_R a2] σ ↔ en_J (X_X7_add G q) 156 [l0, l1, l2, l3, l4, l5, l6] [en_I (a1 + a0), en_R a2] σ := en_j1 d_X7_add_155 rfl ⟨rfl, trivial⟩
theorem d_X7_add_156 : decode cX7_add 156 = .ok (.putfield 188, 3) := by decide +kernel
theorem j_X7_add_156 {G : en_G} {q : Option en_V → en_S → Prop}  {l0 l1 l2 l3 l4 l5 l6 : en_V} {a0 : Int32} {a1 : Option Nat} {σ : en_S} : en_J (X_X7_add G q) 156 [l0, l1, l2, l3, l4, l5, l6] [en_I a0, en_R a1] σ ↔ ∃ a, a1 = some a ∧ en_cl σ a = some 7 ∧ en_J (X_X7_add G q) 159 [l0, l1, l2, l3, l4, l5, l6] [] (en_sfi σ 710 a a0) := en_jg (st := fun o => [en_I a0, en_R o]) (st' := fun _ => []) (σ' := fun a => en_sfi σ 710 a a0) d_X7_add_156 rfl (fun a => rfl) (fun a => ⟨fun h => h.2.1, fun h => ⟨rfl, h, trivial, fun z => absurd z (by decide +kernel)⟩⟩)
theorem d_X7_add_159 : decode cX7_add 159 = .ok (.aload_n 0, 1) := by decide +kernel
theorem j_X7_add_159 {G : en_G} {q : Option en_V → en_S → Prop}  {l1 l2 l3 l4 l5 l6 : en_V} {x0 : Option Nat} {σ : en_S} : en_J (X_X7_add G q) 159 [en_R x0, l1, l2, l3, l4, l5, l6] [] σ ↔ en_J (X_X7_add G q) 160 [en_R x0, l1, l2, l3, l4, l5, l6] [en_R x0] σ := en_j1 d_X7_add_159 rfl rfl
theorem d_X7_add_160 : decode cX7_add 160 = .ok (.getfield 188, 3) := by decide +kernel
theorem j_X7_add_160 {G : en_G} {q : Option en_V → en_S → Prop}  {l0 l1 l2 l3 l4 l5 l6 : en_V} {a0 : Option Nat} {σ : en_S} : en_J (X_X7_add G q) 160 [l0, l1, l2, l3, l4, l5, l6] [en_R a0] σ ↔ ∃ a, a0 = some a ∧ en_cl σ a = some 7 ∧ en_J (X_X7_add G q) 163 [l0, l1, l2, l3, l4, l5, l6] [en_I (en_fi σ 710 a)] σ := en_jg (st := fun o => [en_R o]) (st' := fun a => [en_I (en_fi σ 710 a)]) (σ' := fun _ => σ) d_X7_add_160 rfl (fun a => rfl) (fun a => ⟨fun h => h.2, fun h => ⟨rfl, h⟩⟩)
theorem d_X7_add_163 : decode cX7_add 163 = .ok (.iconst 1, 1) := by decide +kernel
theorem j_X7_add_163 {G : en_G} {q : Option en_V → en_S → Prop}  {l0 l1 l2 l3 l4 l5 l6 : en_V} {a0 : Int32} {σ : en_S} : en_J (X_X7_add G q) 163 [l0, l1, l2, l3, l4, l5, l6] [en_I a0] σ ↔ en_J (X_X7_add G q) 164 [l0, l1, l2, l3, l4, l5, l6] [en_I 1, en_I a0] σ := ej_iconst d_X7_add_163 (by decide +kernel)
theorem d_X7_add_164 : decode cX7_add 164 = .ok (.isub, 1) := by decide +kernel
theorem j_X7_add_164 {G : en_G} {q : Option en_V → en_S → Prop}  {l0 l1 l2 l3 l4 l5 l6 : en_V} {a0 : Int32} {a1 : Int32} {σ : en_S} : en_J (X_X7_add G q) 164 [l0, l1, l2, l3, l4, l5, l6] [en_I a0, en_I a1] σ ↔ en_J (X_X7_add G q) 165 [l0, l1, l2, l3, l4, l5, l6] [en_I (a1 - a0)] σ := en_j1 d_X7_add_164 rfl ⟨rfl, trivial⟩
theorem d_X7_add_165 : decode cX7_add 165 = .ok (.ireturn, 1) := by decide +kernel
theorem j_X7_add_165 {G : en_G} {q : Option en_V → en_S → Prop}  {l0 l1 l2 l3 l4 l5 l6 : en_V} {a0 : Int32} {σ : en_S} : en_J (X_X7_add G q) 165 [l0, l1, l2, l3, l4, l5, l6] [en_I a0] σ ↔ q (some (en_I a0)) σ := en_jr d_X7_add_165 rfl ⟨fun h => h.2.2, fun h => ⟨rfl, Or.inl rfl, h⟩⟩
theorem wc_X7_add : Jvm.Cond.code yX7_add cX7_add 7 (some .int) ∈ en_W := en_inW (List.mem_of_getElem? (i := 930) (by decide +kernel)) (by decide +kernel)
theorem wi_X7_add : Jvm.Cond.instanceMethod yX7_add ∈ en_W := en_inW (List.mem_of_getElem? (i := 929) (by decide +kernel)) (by decide +kernel)
theorem wx_X7_add : Jvm.Cond.selects RX7 yX7_add yX7_add ∈ en_W := en_inW (List.mem_of_getElem? (i := 22) (by decide +kernel)) (by decide +kernel)
theorem jw_X7_add {G : en_G} {q : Option en_V → en_S → Prop} {m : Nat} {A : st_A} {σ : en_S} (hR : RX m A σ) {n o s : Nat} {t : Int32} (hn : n < tr_N (sa_T A)) (ho : o < 8) (hs : s < 8) : ∀ (j k : Nat) (b : Bool), k + j = sa_D A 0 0 → en_J (X_X7_add G q) 92 [en_R (some m), en_I (nI n), en_I t, en_I (nI o), en_I (nI s), en_I (st_b (b || ds_like A n t o s j k)), en_I (nI (sa_D A 0 0))] [] σ → en_J (X_X7_add G q) 6 [en_R (some m), en_I (nI n), en_I t, en_I (nI o), en_I (nI s), en_I (st_b b), en_I (nI k)] [] σ := by
  have hS := hR.1
  have w := hR.2.2.2.2.2.2.2.2.2
  have hL := w.2.1
  have hN := w.1.1.2
  have o2 := hR.2.2.2.2.2.2.2.2.1.2.1
  have i1 : ¬ (1 : Int32) = 0 := by decide
  have i2 : ¬ (2 : Int32) = 0 := by decide
  intro j
  induction j with
  | zero =>
    intro k b hk hq
    have : k = sa_D A 0 0 := by omega
    subst this
    have n1 : nI (sa_D A 0 0) ≤ nI (sa_D A 0 0) := nI_le (Nat.le_refl _) (by omega)
    rw [j_X7_add_6]
    simp only [ds_like, Bool.or_false] at hq
    simp only [j_X7_add_0, j_X7_add_1, j_X7_add_3, j_X7_add_4, j_X7_add_8, j_X7_add_9, j_X7_add_12, j_X7_add_15, j_X7_add_17, j_X7_add_20, j_X7_add_21, j_X7_add_24, j_X7_add_26, j_X7_add_27, j_X7_add_30, j_X7_add_31, j_X7_add_34, j_X7_add_36, j_X7_add_37, j_X7_add_38, j_X7_add_41, j_X7_add_42, j_X7_add_45, j_X7_add_47, j_X7_add_48, j_X7_add_49, j_X7_add_52, j_X7_add_53, j_X7_add_56, j_X7_add_58, j_X7_add_59, j_X7_add_60, j_X7_add_61, j_X7_add_62, j_X7_add_63, j_X7_add_64, j_X7_add_67, j_X7_add_68, j_X7_add_71, j_X7_add_73, j_X7_add_74, j_X7_add_76, j_X7_add_79, j_X7_add_80, j_X7_add_83, j_X7_add_84, j_X7_add_86, j_X7_add_89, j_X7_add_94, j_X7_add_97, j_X7_add_98, j_X7_add_101, j_X7_add_103, j_X7_add_106, j_X7_add_107, j_X7_add_108, j_X7_add_109, j_X7_add_112, j_X7_add_113, j_X7_add_116, j_X7_add_117, j_X7_add_118, j_X7_add_119, j_X7_add_122, j_X7_add_123, j_X7_add_126, j_X7_add_127, j_X7_add_128, j_X7_add_129, j_X7_add_132, j_X7_add_133, j_X7_add_136, j_X7_add_137, j_X7_add_138, j_X7_add_139, j_X7_add_142, j_X7_add_143, j_X7_add_146, j_X7_add_148, j_X7_add_149, j_X7_add_150, j_X7_add_151, j_X7_add_154, j_X7_add_155, j_X7_add_156, j_X7_add_159, j_X7_add_160, j_X7_add_163, j_X7_add_164, j_X7_add_165, en_c2I, en_c2R, en_c2U, en_c2D, Option.some.injEq, exists_eq_left', exists_eq_left, Option.map_some, Option.map_none, not_true_eq_false, false_implies, true_implies, and_true, true_and, reduceCtorEq, not_false_eq_true, rs_c hS, rs_f715 hS, rs_a13 hS, rs_f711 hS, rs_a9 hS, rs_f712 hS, rs_a10 hS, rs_f713 hS, rs_a11 hS, rs_f714 hS, rs_a12 hS, o2, n1]
    exact hq
  | succ j ih =>
    intro k b hk hq
    have hkL : k < sa_D A 0 0 := by omega
    have n1 : ¬ nI (sa_D A 0 0) ≤ nI k := nI_ge hkL (by omega)
    have n3 : vp_in (nI k) 40 := vp_in_nI (by omega) (by decide)
    have n4 : (nI k).toNatClampNeg = k := nI_clamp (by omega)
    have n5 : nI k + 1 = nI (k + 1) := nI_1 _
    obtain ⟨q1, q2, q3, q4, q5⟩ := hR.2.2.2.2.2.1.1 k hkL
    obtain ⟨w1, w2, w3⟩ := w.2.2.1 k hkL
    have f1 : (nI (sa_D A 1 k) = nI n) = (sa_D A 1 k = n) := propext (nI_eq (by omega) (by omega))
    have f2 : (nI (sa_D A 2 k) = nI s) = (sa_D A 2 k = s) := propext (nI_eq (by omega) (by omega))
    have f3 : (nI (sa_D A 3 k % 2) = nI (o % 2)) = (sa_D A 3 k % 2 = o % 2) := propext (nI_eq (by omega) (by omega))
    have r1 := re2 w3
    have r2 := re2 ho
    rw [j_X7_add_6]
    cases b with
    | true =>
      have := ih (k + 1) true (by omega) (by simpa using hq)
      rw [st_bt] at this
      simp only [j_X7_add_0, j_X7_add_1, j_X7_add_3, j_X7_add_4, j_X7_add_8, j_X7_add_9, j_X7_add_12, j_X7_add_15, j_X7_add_17, j_X7_add_20, j_X7_add_21, j_X7_add_24, j_X7_add_26, j_X7_add_27, j_X7_add_30, j_X7_add_31, j_X7_add_34, j_X7_add_36, j_X7_add_37, j_X7_add_38, j_X7_add_41, j_X7_add_42, j_X7_add_45, j_X7_add_47, j_X7_add_48, j_X7_add_49, j_X7_add_52, j_X7_add_53, j_X7_add_56, j_X7_add_58, j_X7_add_59, j_X7_add_60, j_X7_add_61, j_X7_add_62, j_X7_add_63, j_X7_add_64, j_X7_add_67, j_X7_add_68, j_X7_add_71, j_X7_add_73, j_X7_add_74, j_X7_add_76, j_X7_add_79, j_X7_add_80, j_X7_add_83, j_X7_add_84, j_X7_add_86, j_X7_add_89, j_X7_add_94, j_X7_add_97, j_X7_add_98, j_X7_add_101, j_X7_add_103, j_X7_add_106, j_X7_add_107, j_X7_add_108, j_X7_add_109, j_X7_add_112, j_X7_add_113, j_X7_add_116, j_X7_add_117, j_X7_add_118, j_X7_add_119, j_X7_add_122, j_X7_add_123, j_X7_add_126, j_X7_add_127, j_X7_add_128, j_X7_add_129, j_X7_add_132, j_X7_add_133, j_X7_add_136, j_X7_add_137, j_X7_add_138, j_X7_add_139, j_X7_add_142, j_X7_add_143, j_X7_add_146, j_X7_add_148, j_X7_add_149, j_X7_add_150, j_X7_add_151, j_X7_add_154, j_X7_add_155, j_X7_add_156, j_X7_add_159, j_X7_add_160, j_X7_add_163, j_X7_add_164, j_X7_add_165, en_c2I, en_c2R, en_c2U, en_c2D, Option.some.injEq, exists_eq_left', exists_eq_left, Option.map_some, Option.map_none, not_true_eq_false, false_implies, true_implies, and_true, true_and, reduceCtorEq, not_false_eq_true, rs_c hS, rs_f715 hS, rs_a13 hS, rs_f711 hS, rs_a9 hS, rs_f712 hS, rs_a10 hS, rs_f713 hS, rs_a11 hS, rs_f714 hS, rs_a12 hS, o2, n1, st_bt, i1, n5]
      exact this
    | false =>
      simp only [ds_like, Bool.false_or] at hq
      have fin : ∀ b' : Bool, b' = (!sa_K A 1 k && decide (sa_D A 1 k = n) && decide (sa_I A 0 k = t) && decide (sa_D A 3 k % 2 = o % 2) && decide (sa_D A 2 k = s)) → en_J (X_X7_add G q) 6 [en_R (some m), en_I (nI n), en_I t, en_I (nI o), en_I (nI s), en_I (st_b b'), en_I (nI (k + 1))] [] σ := fun b' hb => ih (k + 1) b' (by omega) (by rw [hb]; exact hq)
      have f0 := fin false
      have f4 := fin true
      rw [st_bf] at f0
      rw [st_bt] at f4
      cases hK : sa_K A 1 k with
      | true =>
        rw [hK, st_bt] at q5
        simp only [j_X7_add_0, j_X7_add_1, j_X7_add_3, j_X7_add_4, j_X7_add_8, j_X7_add_9, j_X7_add_12, j_X7_add_15, j_X7_add_17, j_X7_add_20, j_X7_add_21, j_X7_add_24, j_X7_add_26, j_X7_add_27, j_X7_add_30, j_X7_add_31, j_X7_add_34, j_X7_add_36, j_X7_add_37, j_X7_add_38, j_X7_add_41, j_X7_add_42, j_X7_add_45, j_X7_add_47, j_X7_add_48, j_X7_add_49, j_X7_add_52, j_X7_add_53, j_X7_add_56, j_X7_add_58, j_X7_add_59, j_X7_add_60, j_X7_add_61, j_X7_add_62, j_X7_add_63, j_X7_add_64, j_X7_add_67, j_X7_add_68, j_X7_add_71, j_X7_add_73, j_X7_add_74, j_X7_add_76, j_X7_add_79, j_X7_add_80, j_X7_add_83, j_X7_add_84, j_X7_add_86, j_X7_add_89, j_X7_add_94, j_X7_add_97, j_X7_add_98, j_X7_add_101, j_X7_add_103, j_X7_add_106, j_X7_add_107, j_X7_add_108, j_X7_add_109, j_X7_add_112, j_X7_add_113, j_X7_add_116, j_X7_add_117, j_X7_add_118, j_X7_add_119, j_X7_add_122, j_X7_add_123, j_X7_add_126, j_X7_add_127, j_X7_add_128, j_X7_add_129, j_X7_add_132, j_X7_add_133, j_X7_add_136, j_X7_add_137, j_X7_add_138, j_X7_add_139, j_X7_add_142, j_X7_add_143, j_X7_add_146, j_X7_add_148, j_X7_add_149, j_X7_add_150, j_X7_add_151, j_X7_add_154, j_X7_add_155, j_X7_add_156, j_X7_add_159, j_X7_add_160, j_X7_add_163, j_X7_add_164, j_X7_add_165, en_c2I, en_c2R, en_c2U, en_c2D, Option.some.injEq, exists_eq_left', exists_eq_left, Option.map_some, Option.map_none, not_true_eq_false, false_implies, true_implies, and_true, true_and, reduceCtorEq, not_false_eq_true, rs_c hS, rs_f715 hS, rs_a13 hS, rs_f711 hS, rs_a9 hS, rs_f712 hS, rs_a10 hS, rs_f713 hS, rs_a11 hS, rs_f714 hS, rs_a12 hS, Prod.mk.injEq, o2, n1, st_bf, n3, n4, q5, i1, n5]
        exact f0 (by rw [hK]; rfl)
      | false =>
        rw [hK, st_bf] at q5
        by_cases c1 : sa_D A 1 k = n
        · by_cases c2 : sa_I A 0 k = t
          · by_cases c3 : sa_D A 3 k % 2 = o % 2
            · by_cases c4 : sa_D A 2 k = s
              · simp only [j_X7_add_0, j_X7_add_1, j_X7_add_3, j_X7_add_4, j_X7_add_8, j_X7_add_9, j_X7_add_12, j_X7_add_15, j_X7_add_17, j_X7_add_20, j_X7_add_21, j_X7_add_24, j_X7_add_26, j_X7_add_27, j_X7_add_30, j_X7_add_31, j_X7_add_34, j_X7_add_36, j_X7_add_37, j_X7_add_38, j_X7_add_41, j_X7_add_42, j_X7_add_45, j_X7_add_47, j_X7_add_48, j_X7_add_49, j_X7_add_52, j_X7_add_53, j_X7_add_56, j_X7_add_58, j_X7_add_59, j_X7_add_60, j_X7_add_61, j_X7_add_62, j_X7_add_63, j_X7_add_64, j_X7_add_67, j_X7_add_68, j_X7_add_71, j_X7_add_73, j_X7_add_74, j_X7_add_76, j_X7_add_79, j_X7_add_80, j_X7_add_83, j_X7_add_84, j_X7_add_86, j_X7_add_89, j_X7_add_94, j_X7_add_97, j_X7_add_98, j_X7_add_101, j_X7_add_103, j_X7_add_106, j_X7_add_107, j_X7_add_108, j_X7_add_109, j_X7_add_112, j_X7_add_113, j_X7_add_116, j_X7_add_117, j_X7_add_118, j_X7_add_119, j_X7_add_122, j_X7_add_123, j_X7_add_126, j_X7_add_127, j_X7_add_128, j_X7_add_129, j_X7_add_132, j_X7_add_133, j_X7_add_136, j_X7_add_137, j_X7_add_138, j_X7_add_139, j_X7_add_142, j_X7_add_143, j_X7_add_146, j_X7_add_148, j_X7_add_149, j_X7_add_150, j_X7_add_151, j_X7_add_154, j_X7_add_155, j_X7_add_156, j_X7_add_159, j_X7_add_160, j_X7_add_163, j_X7_add_164, j_X7_add_165, en_c2I, en_c2R, en_c2U, en_c2D, Option.some.injEq, exists_eq_left', exists_eq_left, Option.map_some, Option.map_none, not_true_eq_false, false_implies, true_implies, and_true, true_and, reduceCtorEq, not_false_eq_true, rs_c hS, rs_f715 hS, rs_a13 hS, rs_f711 hS, rs_a9 hS, rs_f712 hS, rs_a10 hS, rs_f713 hS, rs_a11 hS, rs_f714 hS, rs_a12 hS, Prod.mk.injEq, o2, n1, st_bf, n3, n4, q5, q1, q2, q3, q4, f1, f2, i2, r1, r2, f3, eq_true c1, eq_true c2, eq_true c3, eq_true c4, n5]
                exact f4 (by rw [hK]; simp [c1, c2, c3, c4])
              · simp only [j_X7_add_0, j_X7_add_1, j_X7_add_3, j_X7_add_4, j_X7_add_8, j_X7_add_9, j_X7_add_12, j_X7_add_15, j_X7_add_17, j_X7_add_20, j_X7_add_21, j_X7_add_24, j_X7_add_26, j_X7_add_27, j_X7_add_30, j_X7_add_31, j_X7_add_34, j_X7_add_36, j_X7_add_37, j_X7_add_38, j_X7_add_41, j_X7_add_42, j_X7_add_45, j_X7_add_47, j_X7_add_48, j_X7_add_49, j_X7_add_52, j_X7_add_53, j_X7_add_56, j_X7_add_58, j_X7_add_59, j_X7_add_60, j_X7_add_61, j_X7_add_62, j_X7_add_63, j_X7_add_64, j_X7_add_67, j_X7_add_68, j_X7_add_71, j_X7_add_73, j_X7_add_74, j_X7_add_76, j_X7_add_79, j_X7_add_80, j_X7_add_83, j_X7_add_84, j_X7_add_86, j_X7_add_89, j_X7_add_94, j_X7_add_97, j_X7_add_98, j_X7_add_101, j_X7_add_103, j_X7_add_106, j_X7_add_107, j_X7_add_108, j_X7_add_109, j_X7_add_112, j_X7_add_113, j_X7_add_116, j_X7_add_117, j_X7_add_118, j_X7_add_119, j_X7_add_122, j_X7_add_123, j_X7_add_126, j_X7_add_127, j_X7_add_128, j_X7_add_129, j_X7_add_132, j_X7_add_133, j_X7_add_136, j_X7_add_137, j_X7_add_138, j_X7_add_139, j_X7_add_142, j_X7_add_143, j_X7_add_146, j_X7_add_148, j_X7_add_149, j_X7_add_150, j_X7_add_151, j_X7_add_154, j_X7_add_155, j_X7_add_156, j_X7_add_159, j_X7_add_160, j_X7_add_163, j_X7_add_164, j_X7_add_165, en_c2I, en_c2R, en_c2U, en_c2D, Option.some.injEq, exists_eq_left', exists_eq_left, Option.map_some, Option.map_none, not_true_eq_false, false_implies, true_implies, and_true, true_and, reduceCtorEq, not_false_eq_true, rs_c hS, rs_f715 hS, rs_a13 hS, rs_f711 hS, rs_a9 hS, rs_f712 hS, rs_a10 hS, rs_f713 hS, rs_a11 hS, rs_f714 hS, rs_a12 hS, Prod.mk.injEq, o2, n1, st_bf, n3, n4, q5, q1, q2, q3, q4, f1, f2, i2, r1, r2, f3, eq_true c1, eq_true c2, eq_true c3, eq_false c4, n5]
                exact f0 (by rw [hK]; simp [c4])
            · simp only [j_X7_add_0, j_X7_add_1, j_X7_add_3, j_X7_add_4, j_X7_add_8, j_X7_add_9, j_X7_add_12, j_X7_add_15, j_X7_add_17, j_X7_add_20, j_X7_add_21, j_X7_add_24, j_X7_add_26, j_X7_add_27, j_X7_add_30, j_X7_add_31, j_X7_add_34, j_X7_add_36, j_X7_add_37, j_X7_add_38, j_X7_add_41, j_X7_add_42, j_X7_add_45, j_X7_add_47, j_X7_add_48, j_X7_add_49, j_X7_add_52, j_X7_add_53, j_X7_add_56, j_X7_add_58, j_X7_add_59, j_X7_add_60, j_X7_add_61, j_X7_add_62, j_X7_add_63, j_X7_add_64, j_X7_add_67, j_X7_add_68, j_X7_add_71, j_X7_add_73, j_X7_add_74, j_X7_add_76, j_X7_add_79, j_X7_add_80, j_X7_add_83, j_X7_add_84, j_X7_add_86, j_X7_add_89, j_X7_add_94, j_X7_add_97, j_X7_add_98, j_X7_add_101, j_X7_add_103, j_X7_add_106, j_X7_add_107, j_X7_add_108, j_X7_add_109, j_X7_add_112, j_X7_add_113, j_X7_add_116, j_X7_add_117, j_X7_add_118, j_X7_add_119, j_X7_add_122, j_X7_add_123, j_X7_add_126, j_X7_add_127, j_X7_add_128, j_X7_add_129, j_X7_add_132, j_X7_add_133, j_X7_add_136, j_X7_add_137, j_X7_add_138, j_X7_add_139, j_X7_add_142, j_X7_add_143, j_X7_add_146, j_X7_add_148, j_X7_add_149, j_X7_add_150, j_X7_add_151, j_X7_add_154, j_X7_add_155, j_X7_add_156, j_X7_add_159, j_X7_add_160, j_X7_add_163, j_X7_add_164, j_X7_add_165, en_c2I, en_c2R, en_c2U, en_c2D, Option.some.injEq, exists_eq_left', exists_eq_left, Option.map_some, Option.map_none, not_true_eq_false, false_implies, true_implies, and_true, true_and, reduceCtorEq, not_false_eq_true, rs_c hS, rs_f715 hS, rs_a13 hS, rs_f711 hS, rs_a9 hS, rs_f712 hS, rs_a10 hS, rs_f713 hS, rs_a11 hS, rs_f714 hS, rs_a12 hS, Prod.mk.injEq, o2, n1, st_bf, n3, n4, q5, q1, q2, q3, q4, f1, f2, i2, r1, r2, f3, eq_true c1, eq_true c2, eq_false c3, n5]
              exact f0 (by rw [hK]; simp [c3])
          · simp only [j_X7_add_0, j_X7_add_1, j_X7_add_3, j_X7_add_4, j_X7_add_8, j_X7_add_9, j_X7_add_12, j_X7_add_15, j_X7_add_17, j_X7_add_20, j_X7_add_21, j_X7_add_24, j_X7_add_26, j_X7_add_27, j_X7_add_30, j_X7_add_31, j_X7_add_34, j_X7_add_36, j_X7_add_37, j_X7_add_38, j_X7_add_41, j_X7_add_42, j_X7_add_45, j_X7_add_47, j_X7_add_48, j_X7_add_49, j_X7_add_52, j_X7_add_53, j_X7_add_56, j_X7_add_58, j_X7_add_59, j_X7_add_60, j_X7_add_61, j_X7_add_62, j_X7_add_63, j_X7_add_64, j_X7_add_67, j_X7_add_68, j_X7_add_71, j_X7_add_73, j_X7_add_74, j_X7_add_76, j_X7_add_79, j_X7_add_80, j_X7_add_83, j_X7_add_84, j_X7_add_86, j_X7_add_89, j_X7_add_94, j_X7_add_97, j_X7_add_98, j_X7_add_101, j_X7_add_103, j_X7_add_106, j_X7_add_107, j_X7_add_108, j_X7_add_109, j_X7_add_112, j_X7_add_113, j_X7_add_116, j_X7_add_117, j_X7_add_118, j_X7_add_119, j_X7_add_122, j_X7_add_123, j_X7_add_126, j_X7_add_127, j_X7_add_128, j_X7_add_129, j_X7_add_132, j_X7_add_133, j_X7_add_136, j_X7_add_137, j_X7_add_138, j_X7_add_139, j_X7_add_142, j_X7_add_143, j_X7_add_146, j_X7_add_148, j_X7_add_149, j_X7_add_150, j_X7_add_151, j_X7_add_154, j_X7_add_155, j_X7_add_156, j_X7_add_159, j_X7_add_160, j_X7_add_163, j_X7_add_164, j_X7_add_165, en_c2I, en_c2R, en_c2U, en_c2D, Option.some.injEq, exists_eq_left', exists_eq_left, Option.map_some, Option.map_none, not_true_eq_false, false_implies, true_implies, and_true, true_and, reduceCtorEq, not_false_eq_true, rs_c hS, rs_f715 hS, rs_a13 hS, rs_f711 hS, rs_a9 hS, rs_f712 hS, rs_a10 hS, rs_f713 hS, rs_a11 hS, rs_f714 hS, rs_a12 hS, Prod.mk.injEq, o2, n1, st_bf, n3, n4, q5, q1, q2, q3, q4, f1, f2, i2, r1, r2, f3, eq_true c1, eq_false c2, n5]
            exact f0 (by rw [hK]; simp [c2])
        · simp only [j_X7_add_0, j_X7_add_1, j_X7_add_3, j_X7_add_4, j_X7_add_8, j_X7_add_9, j_X7_add_12, j_X7_add_15, j_X7_add_17, j_X7_add_20, j_X7_add_21, j_X7_add_24, j_X7_add_26, j_X7_add_27, j_X7_add_30, j_X7_add_31, j_X7_add_34, j_X7_add_36, j_X7_add_37, j_X7_add_38, j_X7_add_41, j_X7_add_42, j_X7_add_45, j_X7_add_47, j_X7_add_48, j_X7_add_49, j_X7_add_52, j_X7_add_53, j_X7_add_56, j_X7_add_58, j_X7_add_59, j_X7_add_60, j_X7_add_61, j_X7_add_62, j_X7_add_63, j_X7_add_64, j_X7_add_67, j_X7_add_68, j_X7_add_71, j_X7_add_73, j_X7_add_74, j_X7_add_76, j_X7_add_79, j_X7_add_80, j_X7_add_83, j_X7_add_84, j_X7_add_86, j_X7_add_89, j_X7_add_94, j_X7_add_97, j_X7_add_98, j_X7_add_101, j_X7_add_103, j_X7_add_106, j_X7_add_107, j_X7_add_108, j_X7_add_109, j_X7_add_112, j_X7_add_113, j_X7_add_116, j_X7_add_117, j_X7_add_118, j_X7_add_119, j_X7_add_122, j_X7_add_123, j_X7_add_126, j_X7_add_127, j_X7_add_128, j_X7_add_129, j_X7_add_132, j_X7_add_133, j_X7_add_136, j_X7_add_137, j_X7_add_138, j_X7_add_139, j_X7_add_142, j_X7_add_143, j_X7_add_146, j_X7_add_148, j_X7_add_149, j_X7_add_150, j_X7_add_151, j_X7_add_154, j_X7_add_155, j_X7_add_156, j_X7_add_159, j_X7_add_160, j_X7_add_163, j_X7_add_164, j_X7_add_165, en_c2I, en_c2R, en_c2U, en_c2D, Option.some.injEq, exists_eq_left', exists_eq_left, Option.map_some, Option.map_none, not_true_eq_false, false_implies, true_implies, and_true, true_and, reduceCtorEq, not_false_eq_true, rs_c hS, rs_f715 hS, rs_a13 hS, rs_f711 hS, rs_a9 hS, rs_f712 hS, rs_a10 hS, rs_f713 hS, rs_a11 hS, rs_f714 hS, rs_a12 hS, Prod.mk.injEq, o2, n1, st_bf, n3, n4, q5, q1, q2, q3, q4, f1, f2, i2, r1, r2, f3, eq_false c1, n5]
          exact f0 (by rw [hK]; simp [c1])
theorem jl_X7_add {G : en_G}  {m : Nat} {A : st_A} {n : Nat} {t : Int32} {o : Nat} {s : Nat} {q : Option en_V → en_S → Prop} {σ : en_S} (hp : RX m A σ ∧ n < tr_N (sa_T A) ∧ o < 8 ∧ s < 8) (hq : ∀ v σ', (RX m (ds_add A n t o s).1 σ' ∧ ag σ σ' (fun f _ => f ≠ 710) (fun a => ¬ (m + 9 ≤ a ∧ a ≤ m + 12)) ∧ sz σ σ' ∧ v = some (en_I (ds_add A n t o s).2)) → q v σ') : en_J (X_X7_add G q) 0 [en_R (some m), en_I (nI n), en_I t, en_I (nI o), en_I (nI s), en_U, en_U] [] σ := by
  obtain ⟨hR, hn, ho, hs⟩ := hp
  have hS := hR.1
  have w := hR.2.2.2.2.2.2.2.2.2
  have hL := w.2.1
  have o2 := hR.2.2.2.2.2.2.2.2.1.2.1
  have i1 : ¬ (1 : Int32) = 0 := by decide
  have hj := jw_X7_add (G := G) (q := q) (t := t) hR hn ho hs (sa_D A 0 0) 0 false (by omega) ?_
  · rw [show nI 0 = 0 from by decide +kernel, st_bf] at hj
    simp only [j_X7_add_0, j_X7_add_1, j_X7_add_3, j_X7_add_4, j_X7_add_8, j_X7_add_9, j_X7_add_12, j_X7_add_15, j_X7_add_17, j_X7_add_20, j_X7_add_21, j_X7_add_24, j_X7_add_26, j_X7_add_27, j_X7_add_30, j_X7_add_31, j_X7_add_34, j_X7_add_36, j_X7_add_37, j_X7_add_38, j_X7_add_41, j_X7_add_42, j_X7_add_45, j_X7_add_47, j_X7_add_48, j_X7_add_49, j_X7_add_52, j_X7_add_53, j_X7_add_56, j_X7_add_58, j_X7_add_59, j_X7_add_60, j_X7_add_61, j_X7_add_62, j_X7_add_63, j_X7_add_64, j_X7_add_67, j_X7_add_68, j_X7_add_71, j_X7_add_73, j_X7_add_74, j_X7_add_76, j_X7_add_79, j_X7_add_80, j_X7_add_83, j_X7_add_84, j_X7_add_86, j_X7_add_89, j_X7_add_92, j_X7_add_94, j_X7_add_97, j_X7_add_98, j_X7_add_101, j_X7_add_103, j_X7_add_106, j_X7_add_107, j_X7_add_108, j_X7_add_109, j_X7_add_112, j_X7_add_113, j_X7_add_116, j_X7_add_117, j_X7_add_118, j_X7_add_119, j_X7_add_122, j_X7_add_123, j_X7_add_126, j_X7_add_127, j_X7_add_128, j_X7_add_129, j_X7_add_132, j_X7_add_133, j_X7_add_136, j_X7_add_137, j_X7_add_138, j_X7_add_139, j_X7_add_142, j_X7_add_143, j_X7_add_146, j_X7_add_148, j_X7_add_149, j_X7_add_150, j_X7_add_151, j_X7_add_154, j_X7_add_155, j_X7_add_156, j_X7_add_159, j_X7_add_160, j_X7_add_163, j_X7_add_164, j_X7_add_165, en_c2I, en_c2R, en_c2U, en_c2D, Option.some.injEq, exists_eq_left', exists_eq_left, Option.map_some, Option.map_none, not_true_eq_false, false_implies, true_implies, and_true, true_and, reduceCtorEq, not_false_eq_true]
    exact hj
  rw [Bool.false_or]
  cases hlk : ds_like A n t o s (sa_D A 0 0) 0 with
  | true =>
    have hc : 40 ≤ sa_D A 0 0 ∨ ds_like A n t o s (sa_D A 0 0) 0 = true := Or.inr hlk
    simp only [j_X7_add_0, j_X7_add_1, j_X7_add_3, j_X7_add_4, j_X7_add_8, j_X7_add_9, j_X7_add_12, j_X7_add_15, j_X7_add_17, j_X7_add_20, j_X7_add_21, j_X7_add_24, j_X7_add_26, j_X7_add_27, j_X7_add_30, j_X7_add_31, j_X7_add_34, j_X7_add_36, j_X7_add_37, j_X7_add_38, j_X7_add_41, j_X7_add_42, j_X7_add_45, j_X7_add_47, j_X7_add_48, j_X7_add_49, j_X7_add_52, j_X7_add_53, j_X7_add_56, j_X7_add_58, j_X7_add_59, j_X7_add_60, j_X7_add_61, j_X7_add_62, j_X7_add_63, j_X7_add_64, j_X7_add_67, j_X7_add_68, j_X7_add_71, j_X7_add_73, j_X7_add_74, j_X7_add_76, j_X7_add_79, j_X7_add_80, j_X7_add_83, j_X7_add_84, j_X7_add_86, j_X7_add_89, j_X7_add_92, j_X7_add_94, j_X7_add_97, j_X7_add_98, j_X7_add_101, j_X7_add_103, j_X7_add_106, j_X7_add_107, j_X7_add_108, j_X7_add_109, j_X7_add_112, j_X7_add_113, j_X7_add_116, j_X7_add_117, j_X7_add_118, j_X7_add_119, j_X7_add_122, j_X7_add_123, j_X7_add_126, j_X7_add_127, j_X7_add_128, j_X7_add_129, j_X7_add_132, j_X7_add_133, j_X7_add_136, j_X7_add_137, j_X7_add_138, j_X7_add_139, j_X7_add_142, j_X7_add_143, j_X7_add_146, j_X7_add_148, j_X7_add_149, j_X7_add_150, j_X7_add_151, j_X7_add_154, j_X7_add_155, j_X7_add_156, j_X7_add_159, j_X7_add_160, j_X7_add_163, j_X7_add_164, j_X7_add_165, en_c2I, en_c2R, en_c2U, en_c2D, Option.some.injEq, exists_eq_left', exists_eq_left, Option.map_some, Option.map_none, not_true_eq_false, false_implies, true_implies, and_true, true_and, reduceCtorEq, not_false_eq_true, st_bt, i1]
    refine hq _ _ ⟨?_, ag.rf, sz.rf, ?_⟩
    · unfold ds_add; rw [if_pos hc]; exact hR
    · unfold ds_add; rw [if_pos hc]
  | false =>
    by_cases h40 : 40 ≤ sa_D A 0 0
    · have hc : 40 ≤ sa_D A 0 0 ∨ ds_like A n t o s (sa_D A 0 0) 0 = true := Or.inl h40
      have e40 : nI (sa_D A 0 0) = 40 := by rw [show sa_D A 0 0 = 40 by omega]; decide +kernel
      simp only [j_X7_add_0, j_X7_add_1, j_X7_add_3, j_X7_add_4, j_X7_add_8, j_X7_add_9, j_X7_add_12, j_X7_add_15, j_X7_add_17, j_X7_add_20, j_X7_add_21, j_X7_add_24, j_X7_add_26, j_X7_add_27, j_X7_add_30, j_X7_add_31, j_X7_add_34, j_X7_add_36, j_X7_add_37, j_X7_add_38, j_X7_add_41, j_X7_add_42, j_X7_add_45, j_X7_add_47, j_X7_add_48, j_X7_add_49, j_X7_add_52, j_X7_add_53, j_X7_add_56, j_X7_add_58, j_X7_add_59, j_X7_add_60, j_X7_add_61, j_X7_add_62, j_X7_add_63, j_X7_add_64, j_X7_add_67, j_X7_add_68, j_X7_add_71, j_X7_add_73, j_X7_add_74, j_X7_add_76, j_X7_add_79, j_X7_add_80, j_X7_add_83, j_X7_add_84, j_X7_add_86, j_X7_add_89, j_X7_add_92, j_X7_add_94, j_X7_add_97, j_X7_add_98, j_X7_add_101, j_X7_add_103, j_X7_add_106, j_X7_add_107, j_X7_add_108, j_X7_add_109, j_X7_add_112, j_X7_add_113, j_X7_add_116, j_X7_add_117, j_X7_add_118, j_X7_add_119, j_X7_add_122, j_X7_add_123, j_X7_add_126, j_X7_add_127, j_X7_add_128, j_X7_add_129, j_X7_add_132, j_X7_add_133, j_X7_add_136, j_X7_add_137, j_X7_add_138, j_X7_add_139, j_X7_add_142, j_X7_add_143, j_X7_add_146, j_X7_add_148, j_X7_add_149, j_X7_add_150, j_X7_add_151, j_X7_add_154, j_X7_add_155, j_X7_add_156, j_X7_add_159, j_X7_add_160, j_X7_add_163, j_X7_add_164, j_X7_add_165, en_c2I, en_c2R, en_c2U, en_c2D, Option.some.injEq, exists_eq_left', exists_eq_left, Option.map_some, Option.map_none, not_true_eq_false, false_implies, true_implies, and_true, true_and, reduceCtorEq, not_false_eq_true, rs_c hS, rs_f715 hS, rs_a13 hS, rs_f711 hS, rs_a9 hS, rs_f712 hS, rs_a10 hS, rs_f713 hS, rs_a11 hS, rs_f714 hS, rs_a12 hS, st_bf, o2, e40]
      refine hq _ _ ⟨?_, ag.rf, sz.rf, ?_⟩
      · unfold ds_add; rw [if_pos hc]; exact hR
      · unfold ds_add; rw [if_pos hc]
    · have hc : ¬ (40 ≤ sa_D A 0 0 ∨ ds_like A n t o s (sa_D A 0 0) 0 = true) := by rw [hlk]; simp; omega
      have e40 : ¬ nI (sa_D A 0 0) = 40 := fun z => by
        rw [show (40 : Int32) = nI 40 from by decide +kernel] at z
        have := nI_inj (by omega) (by decide) z
        omega
      have n3 : vp_in (nI (sa_D A 0 0)) 40 := vp_in_nI (by omega) (by decide)
      have n4 : (nI (sa_D A 0 0)).toNatClampNeg = sa_D A 0 0 := nI_clamp (by omega)
      have n5 : nI (sa_D A 0 0) + 1 = nI (sa_D A 0 0 + 1) := nI_1 _
      have n6 : nI (sa_D A 0 0 + 1) - 1 = nI (sa_D A 0 0) := nI_pred _
      simp only [j_X7_add_0, j_X7_add_1, j_X7_add_3, j_X7_add_4, j_X7_add_8, j_X7_add_9, j_X7_add_12, j_X7_add_15, j_X7_add_17, j_X7_add_20, j_X7_add_21, j_X7_add_24, j_X7_add_26, j_X7_add_27, j_X7_add_30, j_X7_add_31, j_X7_add_34, j_X7_add_36, j_X7_add_37, j_X7_add_38, j_X7_add_41, j_X7_add_42, j_X7_add_45, j_X7_add_47, j_X7_add_48, j_X7_add_49, j_X7_add_52, j_X7_add_53, j_X7_add_56, j_X7_add_58, j_X7_add_59, j_X7_add_60, j_X7_add_61, j_X7_add_62, j_X7_add_63, j_X7_add_64, j_X7_add_67, j_X7_add_68, j_X7_add_71, j_X7_add_73, j_X7_add_74, j_X7_add_76, j_X7_add_79, j_X7_add_80, j_X7_add_83, j_X7_add_84, j_X7_add_86, j_X7_add_89, j_X7_add_92, j_X7_add_94, j_X7_add_97, j_X7_add_98, j_X7_add_101, j_X7_add_103, j_X7_add_106, j_X7_add_107, j_X7_add_108, j_X7_add_109, j_X7_add_112, j_X7_add_113, j_X7_add_116, j_X7_add_117, j_X7_add_118, j_X7_add_119, j_X7_add_122, j_X7_add_123, j_X7_add_126, j_X7_add_127, j_X7_add_128, j_X7_add_129, j_X7_add_132, j_X7_add_133, j_X7_add_136, j_X7_add_137, j_X7_add_138, j_X7_add_139, j_X7_add_142, j_X7_add_143, j_X7_add_146, j_X7_add_148, j_X7_add_149, j_X7_add_150, j_X7_add_151, j_X7_add_154, j_X7_add_155, j_X7_add_156, j_X7_add_159, j_X7_add_160, j_X7_add_163, j_X7_add_164, j_X7_add_165, en_c2I, en_c2R, en_c2U, en_c2D, Option.some.injEq, exists_eq_left', exists_eq_left, Option.map_some, Option.map_none, not_true_eq_false, false_implies, true_implies, and_true, true_and, reduceCtorEq, not_false_eq_true, eg_cl_sfi, eg_fi_sfi, eg_fr_sfi, eg_fd_sfi, eg_al_sfi, eg_ai_sfi, eg_ar_sfi, eg_ad_sfi, eg_aj_sfi, eg_nx_sfi, eg_ns_sfi, eg_cl_sfr, eg_fi_sfr, eg_fr_sfr, eg_fd_sfr, eg_al_sfr, eg_ai_sfr, eg_ar_sfr, eg_ad_sfr, eg_aj_sfr, eg_nx_sfr, eg_ns_sfr, eg_cl_sfd, eg_fi_sfd, eg_fr_sfd, eg_fd_sfd, eg_al_sfd, eg_ai_sfd, eg_ar_sfd, eg_ad_sfd, eg_aj_sfd, eg_nx_sfd, eg_ns_sfd, eg_cl_sai, eg_fi_sai, eg_fr_sai, eg_fd_sai, eg_al_sai, eg_ai_sai, eg_ar_sai, eg_ad_sai, eg_aj_sai, eg_nx_sai, eg_ns_sai, eg_cl_sar, eg_fi_sar, eg_fr_sar, eg_fd_sar, eg_al_sar, eg_ai_sar, eg_ar_sar, eg_ad_sar, eg_aj_sar, eg_nx_sar, eg_ns_sar, eg_cl_sad, eg_fi_sad, eg_fr_sad, eg_fd_sad, eg_al_sad, eg_ai_sad, eg_ar_sad, eg_ad_sad, eg_aj_sad, eg_nx_sad, eg_ns_sad, eg_cl_saj, eg_fi_saj, eg_fr_saj, eg_fd_saj, eg_al_saj, eg_ai_saj, eg_ar_saj, eg_ad_saj, eg_aj_saj, eg_nx_saj, eg_ns_saj, eg_cl_new, eg_fi_new, eg_fr_new, eg_fd_new, eg_al_new, eg_ai_new, eg_ar_new, eg_ad_new, eg_aj_new, eg_nx_new, eg_ns_new, eg_cl_newa, eg_fi_newa, eg_fr_newa, eg_fd_newa, eg_al_newa, eg_ai_newa, eg_ar_newa, eg_ad_newa, eg_aj_newa, eg_nx_newa, eg_ns_newa, eg_cl_bump, eg_fi_bump, eg_fr_bump, eg_fd_bump, eg_al_bump, eg_ai_bump, eg_ar_bump, eg_ad_bump, eg_aj_bump, eg_nx_bump, eg_ns_bump, rs_c hS, rs_f715 hS, rs_a13 hS, rs_f711 hS, rs_a9 hS, rs_f712 hS, rs_a10 hS, rs_f713 hS, rs_a11 hS, rs_f714 hS, rs_a12 hS, Prod.mk.injEq, st_bf, o2, e40, n3, n4, n5, n6, if_true]
      refine hq _ _ ⟨rx_add hR hn ho hs hc, rx_addG, ⟨rfl, rfl, rfl, rfl⟩, ?_⟩
      unfold ds_add; rw [if_neg hc]
theorem jp_X7_add {G : en_G}  : ∀ as σ, (C_X7_add G).1 as σ → (en_lc as).length ≤ 7 ∧ en_J (X_X7_add G (fun r σ' => (C_X7_add G).2 as σ r σ')) 0 (en_loc 7 as) [] σ := en_ghJ (fun g as σ h => by
  obtain ⟨hp, h2⟩ := h
  subst h2
  exact ⟨Nat.le_of_ble_eq_true rfl, jl_X7_add hp (fun _ _ h => h)⟩)
theorem ok_X7_add {G : en_G}  : en_Ok G 1 yX7_add cX7_add 7 (some .int) (C_X7_add G) :=
  en_met (own := RX7) (fl := en_lk fl7) (nw := en_lk nw7) (aw := en_lk aw7) (dc := en_lk dc7) (ca := en_lk (ca_X7_add G)) (rt := 1) (ini := false) (by decide +kernel) (Or.inr (Or.inl ⟨rfl, rfl⟩)) (fun h => by cases h) rfl (fun q => en_LkF fl7_ok nw7_ok aw7_ok dc7_ok) (fun idx q hq => by cases hq) jp_X7_add
def P_X7_may (G : en_G)  (g : (Nat) × (st_A) × (Nat) × (Int32)) (as : List en_V) (σ : en_S) : Prop := (RX (g.1) (g.2.1) σ ∧ (g.2.2.1) < tr_N (sa_T (g.2.1))) ∧ as = [en_R (some (g.1)), en_I (nI (g.2.2.1)), en_I (g.2.2.2)]
def C_X7_may (G : en_G)  : en_C := en_gh (P_X7_may G) (fun g as σ v σ' => σ' = σ ∧ v = some (en_I (st_b (((st_ix (tr_N (sa_T (g.2.1))) (g.2.2.2)).map (fun n => decide (tr_kd (sa_T (g.2.1)) n ≤ 2) && !tr_over (sa_T (g.2.1)) n (g.2.2.1))).getD false))))
theorem pr_X7_may {G : en_G}  : ∀ as σ, (C_X7_may G).1 as σ → ∃ b tl, as = en_R (some b) :: tl ∧ en_cl σ b = some 7 ∧ tl.length = 2 := fun as σ ⟨g, hp, h2⟩ => ⟨_, _, h2, rs_c hp.1.1, rfl⟩
theorem cu_X7_may {G : en_G}  {m : Nat} {A : st_A} {p : Nat} {k : Int32} {σ : en_S} (hp : RX m A σ ∧ p < tr_N (sa_T A)) : en_Us (C_X7_may G) [en_R (some m), en_I (nI p), en_I k] σ (fun v σ' => σ' = σ ∧ v = some (en_I (st_b (((st_ix (tr_N (sa_T A)) k).map (fun n => decide (tr_kd (sa_T A) n ≤ 2) && !tr_over (sa_T A) n p)).getD false)))) := ⟨⟨(m, A, p, k), hp, rfl⟩, fun v σ' q => q (m, A, p, k) ⟨hp, rfl⟩⟩
def ca_X7_may (G : en_G) : List (Nat × Nat × en_C) := [(171, 9, (C_X7_isElement G)), (174, 13, (C_X7_covers G))]
def X_X7_may (G : en_G) (q : Option en_V → en_S → Prop) : en_X := en_mk G cX7_may (en_lk fl7) (en_lk nw7) (en_lk aw7) (en_lk dc7) (en_lk (ca_X7_may G)) 2 false q
theorem d_X7_may_0 : decode cX7_may 0 = .ok (.aload_n 0, 1) := by decide +kernel
theorem j_X7_may_0 {G : en_G} {q : Option en_V → en_S → Prop}  {l1 l2 : en_V} {x0 : Option Nat} {σ : en_S} : en_J (X_X7_may G q) 0 [en_R x0, l1, l2] [] σ ↔ en_J (X_X7_may G q) 1 [en_R x0, l1, l2] [en_R x0] σ := en_j1 d_X7_may_0 rfl rfl
theorem d_X7_may_1 : decode cX7_may 1 = .ok (.iload_n 2, 1) := by decide +kernel
theorem j_X7_may_1 {G : en_G} {q : Option en_V → en_S → Prop}  {l0 l1 : en_V} {a0 : Option Nat} {x2 : Int32} {σ : en_S} : en_J (X_X7_may G q) 1 [l0, l1, en_I x2] [en_R a0] σ ↔ en_J (X_X7_may G q) 2 [l0, l1, en_I x2] [en_I x2, en_R a0] σ := en_j1 d_X7_may_1 rfl rfl
theorem d_X7_may_2 : decode cX7_may 2 = .ok (.invokevirtual 171, 3) := by decide +kernel
theorem j_X7_may_2 {G : en_G} {q : Option en_V → en_S → Prop}  {l0 l1 l2 : en_V} {a0 : Int32} {a1 : Option Nat} {σ : en_S} : en_J (X_X7_may G q) 2 [l0, l1, l2] [en_I a0, en_R a1] σ ↔ (C_X7_isElement G).1 [en_R a1, en_I a0] σ ∧ ∀ (r : Option en_V) (σ' : en_S), (C_X7_isElement G).2 [en_R a1, en_I a0] σ r σ' → en_J (X_X7_may G q) 5 [l0, l1, l2] (r.toList ++ []) σ' := en_jkC (C := (C_X7_isElement G)) (n' := 2) (k := 1) (idx := 171) d_X7_may_2 rfl rfl (by decide) (Nat.le_of_ble_eq_true rfl) (Nat.le_of_ble_eq_true rfl)
theorem d_X7_may_5 : decode cX7_may 5 = .ok (.ifCond .eq 16, 3) := by decide +kernel
theorem j_X7_may_5 {G : en_G} {q : Option en_V → en_S → Prop}  {l0 l1 l2 : en_V} {a0 : Int32} {σ : en_S} : en_J (X_X7_may G q) 5 [l0, l1, l2] [en_I a0] σ ↔ (a0 = 0 → en_J (X_X7_may G q) 21 [l0, l1, l2] [] σ) ∧ (¬ (a0 = 0) → en_J (X_X7_may G q) 8 [l0, l1, l2] [] σ) := en_jb d_X7_may_5 rfl ⟨rfl, by decide⟩
theorem d_X7_may_8 : decode cX7_may 8 = .ok (.aload_n 0, 1) := by decide +kernel
theorem j_X7_may_8 {G : en_G} {q : Option en_V → en_S → Prop}  {l1 l2 : en_V} {x0 : Option Nat} {σ : en_S} : en_J (X_X7_may G q) 8 [en_R x0, l1, l2] [] σ ↔ en_J (X_X7_may G q) 9 [en_R x0, l1, l2] [en_R x0] σ := en_j1 d_X7_may_8 rfl rfl
theorem d_X7_may_9 : decode cX7_may 9 = .ok (.iload_n 2, 1) := by decide +kernel
theorem j_X7_may_9 {G : en_G} {q : Option en_V → en_S → Prop}  {l0 l1 : en_V} {a0 : Option Nat} {x2 : Int32} {σ : en_S} : en_J (X_X7_may G q) 9 [l0, l1, en_I x2] [en_R a0] σ ↔ en_J (X_X7_may G q) 10 [l0, l1, en_I x2] [en_I x2, en_R a0] σ := en_j1 d_X7_may_9 rfl rfl
theorem d_X7_may_10 : decode cX7_may 10 = .ok (.iload_n 1, 1) := by decide +kernel
theorem j_X7_may_10 {G : en_G} {q : Option en_V → en_S → Prop}  {l0 l2 : en_V} {a0 : Int32} {a1 : Option Nat} {x1 : Int32} {σ : en_S} : en_J (X_X7_may G q) 10 [l0, en_I x1, l2] [en_I a0, en_R a1] σ ↔ en_J (X_X7_may G q) 11 [l0, en_I x1, l2] [en_I x1, en_I a0, en_R a1] σ := en_j1 d_X7_may_10 rfl rfl
theorem d_X7_may_11 : decode cX7_may 11 = .ok (.invokevirtual 174, 3) := by decide +kernel
theorem j_X7_may_11 {G : en_G} {q : Option en_V → en_S → Prop}  {l0 l1 l2 : en_V} {a0 : Int32} {a1 : Int32} {a2 : Option Nat} {σ : en_S} : en_J (X_X7_may G q) 11 [l0, l1, l2] [en_I a0, en_I a1, en_R a2] σ ↔ (C_X7_covers G).1 [en_R a2, en_I a1, en_I a0] σ ∧ ∀ (r : Option en_V) (σ' : en_S), (C_X7_covers G).2 [en_R a2, en_I a1, en_I a0] σ r σ' → en_J (X_X7_may G q) 14 [l0, l1, l2] (r.toList ++ []) σ' := en_jkC (C := (C_X7_covers G)) (n' := 3) (k := 1) (idx := 174) d_X7_may_11 rfl rfl (by decide) (Nat.le_of_ble_eq_true rfl) (Nat.le_of_ble_eq_true rfl)
theorem d_X7_may_14 : decode cX7_may 14 = .ok (.ifCond .ne 7, 3) := by decide +kernel
theorem j_X7_may_14 {G : en_G} {q : Option en_V → en_S → Prop}  {l0 l1 l2 : en_V} {a0 : Int32} {σ : en_S} : en_J (X_X7_may G q) 14 [l0, l1, l2] [en_I a0] σ ↔ (¬ a0 = 0 → en_J (X_X7_may G q) 21 [l0, l1, l2] [] σ) ∧ (¬ (¬ a0 = 0) → en_J (X_X7_may G q) 17 [l0, l1, l2] [] σ) := en_jb d_X7_may_14 rfl ⟨rfl, by decide⟩
theorem d_X7_may_17 : decode cX7_may 17 = .ok (.iconst 1, 1) := by decide +kernel
theorem j_X7_may_17 {G : en_G} {q : Option en_V → en_S → Prop}  {l0 l1 l2 : en_V}  {σ : en_S} : en_J (X_X7_may G q) 17 [l0, l1, l2] [] σ ↔ en_J (X_X7_may G q) 18 [l0, l1, l2] [en_I 1] σ := ej_iconst d_X7_may_17 (by decide +kernel)
theorem d_X7_may_18 : decode cX7_may 18 = .ok (.goto 4, 3) := by decide +kernel
theorem j_X7_may_18 {G : en_G} {q : Option en_V → en_S → Prop}  {l0 l1 l2 : en_V} {a0 : Int32} {σ : en_S} : en_J (X_X7_may G q) 18 [l0, l1, l2] [en_I a0] σ ↔ en_J (X_X7_may G q) 22 [l0, l1, l2] [en_I a0] σ := en_j1 d_X7_may_18 rfl ⟨rfl, by decide⟩
theorem d_X7_may_21 : decode cX7_may 21 = .ok (.iconst 0, 1) := by decide +kernel
theorem j_X7_may_21 {G : en_G} {q : Option en_V → en_S → Prop}  {l0 l1 l2 : en_V}  {σ : en_S} : en_J (X_X7_may G q) 21 [l0, l1, l2] [] σ ↔ en_J (X_X7_may G q) 22 [l0, l1, l2] [en_I 0] σ := ej_iconst d_X7_may_21 (by decide +kernel)
theorem d_X7_may_22 : decode cX7_may 22 = .ok (.ireturn, 1) := by decide +kernel
theorem j_X7_may_22 {G : en_G} {q : Option en_V → en_S → Prop}  {l0 l1 l2 : en_V} {a0 : Int32} {σ : en_S} : en_J (X_X7_may G q) 22 [l0, l1, l2] [en_I a0] σ ↔ (a0 = 0 ∨ a0 = 1) ∧ q (some (en_I a0)) σ := en_jr d_X7_may_22 rfl ⟨fun h => ⟨h.2.1.elim (fun z => absurd (show (2 : Nat) = 1 from z) (by decide)) (fun z => z.2), h.2.2⟩, fun h => ⟨rfl, Or.inr ⟨rfl, h.1⟩, h.2⟩⟩
theorem wc_X7_may : Jvm.Cond.code yX7_may cX7_may 3 (some .boolean) ∈ en_W := en_inW (List.mem_of_getElem? (i := 886) (by decide +kernel)) (by decide +kernel)
theorem wi_X7_may : Jvm.Cond.instanceMethod yX7_may ∈ en_W := en_inW (List.mem_of_getElem? (i := 885) (by decide +kernel)) (by decide +kernel)
theorem wx_X7_may : Jvm.Cond.selects RX7 yX7_may yX7_may ∈ en_W := en_inW (List.mem_of_getElem? (i := 15) (by decide +kernel)) (by decide +kernel)
theorem jl_X7_may {G : en_G}  {m : Nat} {A : st_A} {p : Nat} {k : Int32} {q : Option en_V → en_S → Prop} {σ : en_S} (hp : RX m A σ ∧ p < tr_N (sa_T A)) (hq : ∀ v σ', (σ' = σ ∧ v = some (en_I (st_b (((st_ix (tr_N (sa_T A)) k).map (fun n => decide (tr_kd (sa_T A) n ≤ 2) && !tr_over (sa_T A) n p)).getD false)))) → q v σ') : en_J (X_X7_may G q) 0 [en_R (some m), en_I (nI p), en_I k] [] σ := by
  obtain ⟨hR, hpl⟩ := hp
  have hN := hR.2.2.2.2.2.2.2.2.2.1.1.2
  have i1 : ¬ (1 : Int32) = 0 := by decide
  simp only [j_X7_may_0, j_X7_may_1, j_X7_may_2, j_X7_may_5, j_X7_may_8, j_X7_may_9, j_X7_may_10, j_X7_may_11, j_X7_may_14, j_X7_may_17, j_X7_may_18, j_X7_may_21, j_X7_may_22, en_c2I, en_c2R, en_c2U, en_c2D, Option.some.injEq, exists_eq_left', exists_eq_left, Option.map_some, Option.map_none, not_true_eq_false, false_implies, true_implies, and_true, true_and, reduceCtorEq, not_false_eq_true]
  refine en_use (cu_X7_isElement hR) ?_
  rintro v σ' ⟨rfl, rfl⟩
  cases hx : st_ix (tr_N (sa_T A)) k with
  | none =>
    rw [hx] at hq
    simp only [Option.toList, List.cons_append, List.nil_append, j_X7_may_0, j_X7_may_1, j_X7_may_2, j_X7_may_5, j_X7_may_8, j_X7_may_9, j_X7_may_10, j_X7_may_11, j_X7_may_14, j_X7_may_17, j_X7_may_18, j_X7_may_21, j_X7_may_22, en_c2I, en_c2R, en_c2U, en_c2D, Option.some.injEq, exists_eq_left', exists_eq_left, Option.map_some, Option.map_none, not_true_eq_false, false_implies, true_implies, and_true, true_and, reduceCtorEq, not_false_eq_true, Option.getD_none, st_bf, true_or]
    exact hq _ _ ⟨rfl, rfl⟩
  | some n =>
    obtain ⟨hn, rfl⟩ := st_ix_some (by omega) hx
    rw [hx] at hq
    by_cases hk : tr_kd (sa_T A) n ≤ 2
    · simp only [Option.toList, List.cons_append, List.nil_append, j_X7_may_0, j_X7_may_1, j_X7_may_2, j_X7_may_5, j_X7_may_8, j_X7_may_9, j_X7_may_10, j_X7_may_11, j_X7_may_14, j_X7_may_17, j_X7_may_18, j_X7_may_21, j_X7_may_22, en_c2I, en_c2R, en_c2U, en_c2D, Option.some.injEq, exists_eq_left', exists_eq_left, Option.map_some, Option.map_none, not_true_eq_false, false_implies, true_implies, and_true, true_and, reduceCtorEq, not_false_eq_true, Option.getD_some, decide_eq_true hk, st_bt, i1]
      refine en_use (cu_X7_covers ⟨hR, hn, hpl⟩) ?_
      rintro v σ' ⟨rfl, rfl⟩
      cases hov : tr_over (sa_T A) n p with
      | true =>
        simp only [Option.toList, List.cons_append, List.nil_append, j_X7_may_0, j_X7_may_1, j_X7_may_2, j_X7_may_5, j_X7_may_8, j_X7_may_9, j_X7_may_10, j_X7_may_11, j_X7_may_14, j_X7_may_17, j_X7_may_18, j_X7_may_21, j_X7_may_22, en_c2I, en_c2R, en_c2U, en_c2D, Option.some.injEq, exists_eq_left', exists_eq_left, Option.map_some, Option.map_none, not_true_eq_false, false_implies, true_implies, and_true, true_and, reduceCtorEq, not_false_eq_true, st_bt, i1, true_or]
        exact hq _ _ ⟨rfl, by simp [hov, st_b]⟩
      | false =>
        simp only [Option.toList, List.cons_append, List.nil_append, j_X7_may_0, j_X7_may_1, j_X7_may_2, j_X7_may_5, j_X7_may_8, j_X7_may_9, j_X7_may_10, j_X7_may_11, j_X7_may_14, j_X7_may_17, j_X7_may_18, j_X7_may_21, j_X7_may_22, en_c2I, en_c2R, en_c2U, en_c2D, Option.some.injEq, exists_eq_left', exists_eq_left, Option.map_some, Option.map_none, not_true_eq_false, false_implies, true_implies, and_true, true_and, reduceCtorEq, not_false_eq_true, st_bf, or_true]
        exact hq _ _ ⟨rfl, by simp [hov, hk, st_b]⟩
    · simp only [Option.toList, List.cons_append, List.nil_append, j_X7_may_0, j_X7_may_1, j_X7_may_2, j_X7_may_5, j_X7_may_8, j_X7_may_9, j_X7_may_10, j_X7_may_11, j_X7_may_14, j_X7_may_17, j_X7_may_18, j_X7_may_21, j_X7_may_22, en_c2I, en_c2R, en_c2U, en_c2D, Option.some.injEq, exists_eq_left', exists_eq_left, Option.map_some, Option.map_none, not_true_eq_false, false_implies, true_implies, and_true, true_and, reduceCtorEq, not_false_eq_true, Option.getD_some, decide_eq_false hk, st_bf, true_or]
      exact hq _ _ ⟨rfl, by simp [hk, st_b]⟩
theorem jp_X7_may {G : en_G}  : ∀ as σ, (C_X7_may G).1 as σ → (en_lc as).length ≤ 3 ∧ en_J (X_X7_may G (fun r σ' => (C_X7_may G).2 as σ r σ')) 0 (en_loc 3 as) [] σ := en_ghJ (fun g as σ h => by
  obtain ⟨hp, h2⟩ := h
  subst h2
  exact ⟨Nat.le_of_ble_eq_true rfl, jl_X7_may hp (fun _ _ h => h)⟩)
theorem wl_X7_may_171 : Jvm.Cond.methodLink RX7 171 yX7_isElement ∈ en_W := en_inW (List.mem_of_getElem? (i := 887) (by decide +kernel)) (by decide +kernel)
theorem wl_X7_may_174 : Jvm.Cond.methodLink RX7 174 yX7_covers ∈ en_W := en_inW (List.mem_of_getElem? (i := 891) (by decide +kernel)) (by decide +kernel)
theorem ok_X7_may {G : en_G}  : en_Ok G 3 yX7_may cX7_may 3 (some .boolean) (C_X7_may G) :=
  en_met (own := RX7) (fl := en_lk fl7) (nw := en_lk nw7) (aw := en_lk aw7) (dc := en_lk dc7) (ca := en_lk (ca_X7_may G)) (rt := 2) (ini := false) (by decide +kernel) (Or.inr (Or.inr (Or.inl ⟨rfl, rfl⟩))) (fun h => by cases h) rfl (fun q => en_LkF fl7_ok nw7_ok aw7_ok dc7_ok) (by
    intro idx q hq
    have hm := en_lk_mem hq
    simp only [ca_X7_may, List.mem_cons, Prod.mk.injEq, List.not_mem_nil, or_false] at hm
    rcases hm with ⟨rfl, rfl⟩ | ⟨rfl, rfl⟩
    · exact en_clV (r := (RX7, TX7, 53)) 7 1 ok_X7_isElement (by decide) (by decide) rfl rfl pr_X7_isElement wl_X7_may_171 wi_X7_isElement wx_X7_isElement wz_7 wc_X7_isElement ⟨by decide +kernel, by decide +kernel, by decide +kernel⟩
    · exact en_clV (r := (RX7, TX7, 53)) 7 2 ok_X7_covers (by decide) (by decide) rfl rfl pr_X7_covers wl_X7_may_174 wi_X7_covers wx_X7_covers wz_7 wc_X7_covers ⟨by decide +kernel, by decide +kernel, by decide +kernel⟩) jp_X7_may
