
theorem tr_swap {x y z : Option Nat} {m b n : Nat} (h : ¬ b = n) : (if m = b then x else if m = n then y else z) = (if m = n then y else if m = b then x else z) := by
  by_cases h1 : m = b
  · rw [if_pos h1, if_neg (fun q => h (h1.symm.trans q)), if_pos h1]
  · rw [if_neg h1]
    by_cases h2 : m = n
    · rw [if_pos h2, if_pos h2]
    · rw [if_neg h2, if_neg h2, if_neg h1]
theorem tr_el_ho {T : tr_T} (hw : tr_wf T) {n : Nat} (hn : n < tr_N T) (he : tr_el T n) : tr_ho T n = none := by
  cases hh : tr_ho T n with
  | none => rfl
  | some h =>
    have h1 := (hw.2.2.2.2.1 n h hn hh).2.2
    rcases he with h2 | h2 | h2 <;> (rw [h2] at h1; exact absurd h1 (by decide))
theorem tr_up_leave {T : tr_T} (hw : tr_wf T) {n m : Nat} (hn : n < tr_N T) (hp : tr_pa T n ≠ none) : tr_up (tr_leave T n) m = if m = n then none else tr_up T m := by
  have hpa' : tr_pa (tr_leave T n) m = if m = n then none else tr_pa T m := rfl
  have hho' : tr_ho (tr_leave T n) m = tr_ho T m := rfl
  unfold tr_up
  rw [hpa', hho']
  by_cases h : m = n
  · rw [if_pos h, if_pos h, if_pos rfl, h]
    cases hq : tr_pa T n with
    | none => exact absurd hq hp
    | some p => exact tr_el_ho hw hn (hw.2.1 n p hn hq).2.2
  · rw [if_neg h, if_neg h]
theorem tr_it_less {T T' : tr_T} (h : ∀ m, tr_up T' m = none ∨ tr_up T' m = tr_up T m) : ∀ (k m : Nat), tr_it T k m = none → tr_it T' k m = none := by
  intro k
  induction k with
  | zero => intro m h0; cases h0
  | succ k ih =>
    intro m h0
    rcases h m with h1 | h1
    · simp only [tr_it, h1]
    · simp only [tr_it, h1] at h0 ⊢
      cases hu : tr_up T m with
      | none => rfl
      | some x => rw [hu] at h0; exact ih x h0
theorem tr_wf_leave {T : tr_T} (hw : tr_wf T) {n : Nat} (hn : n < tr_N T) : tr_wf (tr_leave T n) := by
  by_cases hp : tr_pa T n = none
  · rw [tr_leave_none hp]; exact hw
  · obtain ⟨w1, w2, w3, w4, w5, w6, w7, w8, w9⟩ := hw
    have hpa' : ∀ m, tr_pa (tr_leave T n) m = if m = n then none else tr_pa T m := fun m => rfl
    have hch' : ∀ q, tr_ch (tr_leave T n) q = if tr_pa T n = some q then (tr_ch T q).erase n else tr_ch T q := fun q => rfl
    refine ⟨w1, fun m q hm hq => ?_, fun q c hq hc => ?_, fun q hq => ?_, w5, w6, w7, w8, fun m hm => ?_⟩
    · rw [hpa'] at hq
      by_cases h : m = n
      · rw [if_pos h] at hq; cases hq
      · rw [if_neg h] at hq
        obtain ⟨g1, g2, g3⟩ := w2 m q hm hq
        refine ⟨g1, ?_, g3⟩
        rw [hch']
        by_cases h2 : tr_pa T n = some q
        · rw [if_pos h2]; exact (List.mem_erase_of_ne h).mpr g2
        · rw [if_neg h2]; exact g2
    · rw [hch'] at hc
      have hcm : c ∈ tr_ch T q := by
        by_cases h2 : tr_pa T n = some q
        · rw [if_pos h2] at hc; exact List.mem_of_mem_erase hc
        · rw [if_neg h2] at hc; exact hc
      obtain ⟨g1, g2⟩ := w3 q c hq hcm
      refine ⟨g1, ?_⟩
      rw [hpa', if_neg]
      · exact g2
      · intro z
        subst z
        rw [if_pos g2] at hc
        exact (List.Nodup.not_mem_erase (w4 q hq)) hc
    · rw [hch']
      by_cases h2 : tr_pa T n = some q
      · rw [if_pos h2]; exact (w4 q hq).erase n
      · rw [if_neg h2]; exact w4 q hq
    · refine tr_it_less (fun x => ?_) 24 m (w9 m hm)
      rw [tr_up_leave ⟨w1, w2, w3, w4, w5, w6, w7, w8, w9⟩ hn hp]
      by_cases h : x = n
      · rw [if_pos h]; exact Or.inl rfl
      · rw [if_neg h]; exact Or.inr rfl
def tr_insB : List Nat → Nat → Nat → List Nat
  | [], n, _ => [n]
  | a :: l, n, f => if a = f then n :: a :: l else a :: tr_insB l n f
def tr_insL (l : List Nat) (n : Nat) (fo : Option Nat) : List Nat := match fo with
  | none => l ++ [n]
  | some f => tr_insB l n f
theorem tr_insL_split {l : List Nat} {n : Nat} {fo : Option Nat} (h : ∀ f, fo = some f → f ∈ l) : ∃ pre suf, l = pre ++ suf ∧ tr_insL l n fo = pre ++ n :: suf ∧ suf.head? = fo := by
  cases fo with
  | none => exact ⟨l, [], by simp, rfl, rfl⟩
  | some f =>
    have hf := h f rfl
    clear h
    induction l with
    | nil => cases hf
    | cons a l ih =>
      by_cases ha : a = f
      · exact ⟨[], a :: l, rfl, by simp [tr_insL, tr_insB, ha], by simp [ha]⟩
      · have hf' : f ∈ l := by
          rcases List.mem_cons.mp hf with z | z
          · exact absurd z.symm ha
          · exact z
        obtain ⟨pre, suf, h1, h2, h3⟩ := ih hf'
        refine ⟨a :: pre, suf, by rw [h1]; rfl, ?_, h3⟩
        have h2' : tr_insB l n f = pre ++ n :: suf := h2
        simp [tr_insL, tr_insB, ha, h2']
def tr_ins (T : tr_T) (n p : Nat) (fo : Option Nat) : tr_T := (T.1, T.2.1, T.2.2.1, fun m => if m = n then some p else tr_pa T m, T.2.2.2.2.1, T.2.2.2.2.2.1, fun q => if q = p then tr_insL (tr_ch (tr_leave T n) p) n fo else tr_ch (tr_leave T n) q)
theorem tr_nx_ins {T : tr_T} (hw : tr_wf T) {n p m : Nat} {fo : Option Nat} {pre suf : List Nat} (hn : n < tr_N T) (hpl : p < tr_N T) (hc : tr_ch (tr_leave T n) p = pre ++ suf) (hi : tr_insL (tr_ch (tr_leave T n) p) n fo = pre ++ n :: suf) (hm : m < tr_N T) :
    tr_nx (tr_ins T n p fo) m = (if m = n then suf.head? else if pre.getLast? = some m then some n else tr_nx (tr_leave T n) m) ∧ tr_pv (tr_ins T n p fo) m = (if m = n then pre.getLast? else if suf.head? = some m then some n else tr_pv (tr_leave T n) m) ∧ n ∉ pre ++ suf ∧ (pre ++ n :: suf).Nodup := by
  have hw1 := tr_wf_leave hw hn
  have hnd := hw1.2.2.2.1 p hpl
  rw [hc] at hnd
  have hnn : n ∉ pre ++ suf := fun z => by
    rw [← hc] at z
    have := (hw1.2.2.1 p n hpl z).2
    have h0 : tr_pa (tr_leave T n) n = none := by show (if n = n then none else tr_pa T n) = none; rw [if_pos rfl]
    rw [h0] at this
    cases this
  have hnd1 : (pre ++ n :: suf).Nodup := by
    have h9 := List.nodup_append.mp hnd
    refine List.nodup_append.mpr ⟨h9.1, List.nodup_cons.mpr ⟨fun z => hnn (List.mem_append_right _ z), h9.2.1⟩, fun a ha b hb => ?_⟩
    rcases List.mem_cons.mp hb with z | z
    · intro q; rw [q, z] at ha; exact hnn (List.mem_append_left _ ha)
    · exact h9.2.2 a ha b z
  have hnpre : n ∉ pre := fun z => hnn (List.mem_append_left _ z)
  refine ⟨?_, ?_, hnn, hnd1⟩
  · have hpa' : tr_pa (tr_ins T n p fo) m = if m = n then some p else tr_pa T m := rfl
    have hch' : ∀ q, tr_ch (tr_ins T n p fo) q = if q = p then tr_insL (tr_ch (tr_leave T n) p) n fo else tr_ch (tr_leave T n) q := fun q => rfl
    unfold tr_nx
    rw [hpa']
    by_cases hmn : m = n
    · rw [if_pos hmn, if_pos hmn]
      show tr_after (tr_ch (tr_ins T n p fo) p) m = _
      rw [hch', if_pos rfl, hi, hmn]
      exact tr_A1 hnpre
    · rw [if_neg hmn, if_neg hmn]
      have hpl1 : tr_pa (tr_leave T n) m = tr_pa T m := by show (if m = n then none else tr_pa T m) = _; rw [if_neg hmn]
      rw [hpl1]
      cases hq : tr_pa T m with
      | none =>
        have h1 : ¬ pre.getLast? = some m := fun z => by
          have := (hw1.2.2.1 p m hpl (by rw [hc]; exact List.mem_append_left _ (List.mem_of_getLast? z))).2
          rw [hpl1, hq] at this; cases this
        rw [if_neg h1]
      | some q =>
        show tr_after (tr_ch (tr_ins T n p fo) q) m = (if pre.getLast? = some m then some n else tr_after (tr_ch (tr_leave T n) q) m)
        rw [hch']
        by_cases hqp : q = p
        · rw [if_pos hqp, hi, hqp, hc]
          by_cases h1 : pre.getLast? = some m
          · rw [if_pos h1]; exact (tr_A2 (n := n) hnd h1).1
          · rw [if_neg h1]; exact tr_A3 hmn h1
        · have h1 : ¬ pre.getLast? = some m := fun z => by
            have := (hw1.2.2.1 p m hpl (by rw [hc]; exact List.mem_append_left _ (List.mem_of_getLast? z))).2
            rw [hpl1, hq] at this; exact hqp (Option.some.inj this)
          rw [if_neg hqp, if_neg h1]
  · have hpa' : tr_pa (tr_ins T n p fo) m = if m = n then some p else tr_pa T m := rfl
    have hch' : ∀ q, tr_ch (tr_ins T n p fo) q = if q = p then tr_insL (tr_ch (tr_leave T n) p) n fo else tr_ch (tr_leave T n) q := fun q => rfl
    unfold tr_pv
    rw [hpa']
    by_cases hmn : m = n
    · rw [if_pos hmn, if_pos hmn]
      show tr_before (tr_ch (tr_ins T n p fo) p) m = _
      rw [hch', if_pos rfl, hi, hmn]
      exact tr_B1 hnd1
    · rw [if_neg hmn, if_neg hmn]
      have hpl1 : tr_pa (tr_leave T n) m = tr_pa T m := by show (if m = n then none else tr_pa T m) = _; rw [if_neg hmn]
      rw [hpl1]
      cases hq : tr_pa T m with
      | none =>
        have h1 : ¬ suf.head? = some m := fun z => by
          have := (hw1.2.2.1 p m hpl (by rw [hc]; exact List.mem_append_right _ (List.mem_of_head? z))).2
          rw [hpl1, hq] at this; cases this
        rw [if_neg h1]
      | some q =>
        show tr_before (tr_ch (tr_ins T n p fo) q) m = (if suf.head? = some m then some n else tr_before (tr_ch (tr_leave T n) q) m)
        rw [hch']
        by_cases hqp : q = p
        · rw [if_pos hqp, hi, hqp, hc]
          by_cases h1 : suf.head? = some m
          · rw [if_pos h1]; exact (tr_B2 (n := n) hnd1 h1).1
          · rw [if_neg h1]; exact tr_B3 hmn h1
        · have h1 : ¬ suf.head? = some m := fun z => by
            have := (hw1.2.2.1 p m hpl (by rw [hc]; exact List.mem_append_right _ (List.mem_of_head? z))).2
            rw [hpl1, hq] at this; exact hqp (Option.some.inj this)
          rw [if_neg hqp, if_neg h1]
theorem tr_R_ins {na : Nat → Nat} {T : tr_T} {σ σ' : en_S} (hw : tr_wf T) {n p : Nat} {fo : Option Nat} {pre suf : List Nat} (hR : tr_R na (tr_leave T n) σ) (hn : n < tr_N T) (hpl : p < tr_N T) (hc : tr_ch (tr_leave T n) p = pre ++ suf) (hi : tr_insL (tr_ch (tr_leave T n) p) n fo = pre ++ n :: suf) (hf : tr_frm σ σ')
    (h4 : ∀ m, m < tr_N T → en_fr σ' 404 (na m) = if m = n then some (na p) else en_fr σ 404 (na m))
    (h5 : ∀ m, m < tr_N T → en_fr σ' 405 (na m) = if pre.getLast? = none ∧ m = p then some (na n) else en_fr σ 405 (na m))
    (h6 : ∀ m, m < tr_N T → en_fr σ' 406 (na m) = if suf.head? = none ∧ m = p then some (na n) else en_fr σ 406 (na m))
    (h7 : ∀ m, m < tr_N T → en_fr σ' 407 (na m) = if m = n then pre.getLast?.map na else if suf.head? = some m then some (na n) else en_fr σ 407 (na m))
    (h8 : ∀ m, m < tr_N T → en_fr σ' 408 (na m) = if m = n then suf.head?.map na else if pre.getLast? = some m then some (na n) else en_fr σ 408 (na m)) : tr_R na (tr_ins T n p fo) σ' := by
  obtain ⟨f1, f2, -, -, -, -, -, -, -, -, f11⟩ := hf
  refine ⟨fun m hm => ?_, hR.2⟩
  obtain ⟨g1, g2, g3, g4, g5, g6, g7, g8, g9, g10, g11⟩ := hR.1 m hm
  obtain ⟨hx, hv, -, -⟩ := tr_nx_ins hw hn hpl hc hi hm
  have hch' : tr_ch (tr_ins T n p fo) m = if m = p then tr_insL (tr_ch (tr_leave T n) p) n fo else tr_ch (tr_leave T n) m := rfl
  refine ⟨by rw [f1]; exact g1, by rw [f2]; exact g2, by rw [f2]; exact g3, fun he => by rw [f2]; exact g4 he, by rw [f11 _ _ (by omega)]; exact g5, ?_, ?_, ?_, ?_, ?_, by rw [f11 _ _ (by omega)]; exact g11⟩
  · rw [h4 m hm]
    show _ = (if m = n then some p else tr_pa T m).map na
    by_cases h : m = n
    · rw [if_pos h, if_pos h]; rfl
    · rw [if_neg h, if_neg h, g6]
      show (if m = n then none else tr_pa T m).map na = _
      rw [if_neg h]
  · rw [h5 m hm, hch']
    by_cases hmp : m = p
    · subst hmp
      rw [if_pos rfl, hi, (tr_H (n := n) (suf := suf) (pre := pre)).1]
      by_cases hl : pre.getLast? = none
      · rw [if_pos ⟨hl, rfl⟩, if_pos hl]; rfl
      · rw [if_neg (fun z => hl z.1), if_neg hl, g7, hc]
    · rw [if_neg (fun z => hmp z.2), if_neg hmp]
      exact g7
  · rw [h6 m hm, hch']
    by_cases hmp : m = p
    · subst hmp
      rw [if_pos rfl, hi, (tr_L (n := n) (suf := suf) (pre := pre)).1]
      by_cases hl : suf.head? = none
      · rw [if_pos ⟨hl, rfl⟩, if_pos hl]; rfl
      · rw [if_neg (fun z => hl z.1), if_neg hl, g8, hc]
    · rw [if_neg (fun z => hmp z.2), if_neg hmp]
      exact g8
  · rw [h7 m hm, hv]
    by_cases h : m = n
    · rw [if_pos h, if_pos h]
    · rw [if_neg h, if_neg h]
      by_cases h2 : suf.head? = some m
      · rw [if_pos h2, if_pos h2]; rfl
      · rw [if_neg h2, if_neg h2]; exact g9
  · rw [h8 m hm, hx]
    by_cases h : m = n
    · rw [if_pos h, if_pos h]
    · rw [if_neg h, if_neg h]
      by_cases h2 : pre.getLast? = some m
      · rw [if_pos h2, if_pos h2]; rfl
      · rw [if_neg h2, if_neg h2]; exact g10
def P_X4_settle (g : (Nat → Nat) × tr_T × Nat × Nat × Option Nat) (as : List en_V) (σ : en_S) : Prop := tr_R g.1 g.2.1 σ ∧ tr_wf g.2.1 ∧ g.2.2.1 < tr_N g.2.1 ∧ g.2.2.2.1 < tr_N g.2.1 ∧ g.2.2.2.1 ≠ g.2.2.1 ∧ (∀ f, g.2.2.2.2 = some f → f ∈ tr_ch g.2.1 g.2.2.2.1 ∧ f ≠ g.2.2.1) ∧ as = [en_R (some (g.1 g.2.2.1)), en_R (some (g.1 g.2.2.2.1)), en_R (g.2.2.2.2.map g.1)]
def C_X4_settle : en_C := en_gh P_X4_settle (fun g as σ r σ' => r = none ∧ tr_R g.1 (tr_ins g.2.1 g.2.2.1 g.2.2.2.1 g.2.2.2.2) σ' ∧ tr_frm σ σ')
theorem pr_X4_settle : ∀ as σ, C_X4_settle.1 as σ → ∃ b tl, as = en_R (some b) :: tl ∧ en_cl σ b = some 4 ∧ tl.length = 2 := fun as σ ⟨g, h1, _, h2, _, _, _, h3⟩ => ⟨_, _, h3, (h1.1 _ h2).1, rfl⟩
def ca_X4_settle (G : en_G) : List (Nat × Nat × en_C) := [(44, 5, C_X4_leave)]
def X_X4_settle (G : en_G) (q : Option en_V → en_S → Prop) : en_X := en_mk G cX4_settle (en_lk fl4) (en_lk nw4) (en_lk aw4) (en_lk dc4) (en_lk (ca_X4_settle G)) 0 false q
theorem d_X4_settle_0 : decode cX4_settle 0 = .ok (.aload_n 0, 1) := by decide +kernel
theorem j_X4_settle_0 {G : en_G} {q : Option en_V → en_S → Prop}  {l1 l2 : en_V} {x0 : Option Nat} {σ : en_S} : en_J (X_X4_settle G q) 0 [en_R x0, l1, l2] [] σ ↔ en_J (X_X4_settle G q) 1 [en_R x0, l1, l2] [en_R x0] σ := en_j1 d_X4_settle_0 rfl rfl
theorem d_X4_settle_1 : decode cX4_settle 1 = .ok (.invokevirtual 44, 3) := by decide +kernel
theorem j_X4_settle_1 {G : en_G} {q : Option en_V → en_S → Prop}  {l0 l1 l2 : en_V} {a0 : Option Nat} {σ : en_S} : en_J (X_X4_settle G q) 1 [l0, l1, l2] [en_R a0] σ ↔ C_X4_leave.1 [en_R a0] σ ∧ ∀ (r : Option en_V) (σ' : en_S), C_X4_leave.2 [en_R a0] σ r σ' → en_J (X_X4_settle G q) 4 [l0, l1, l2] (r.toList ++ []) σ' := en_jk d_X4_settle_1 rfl ⟨fun h => h.2.2.2.2, fun h => ⟨rfl, rfl, Nat.le_of_ble_eq_true rfl, Nat.le_of_ble_eq_true rfl, h⟩⟩
theorem d_X4_settle_4 : decode cX4_settle 4 = .ok (.aload_n 0, 1) := by decide +kernel
theorem j_X4_settle_4 {G : en_G} {q : Option en_V → en_S → Prop}  {l1 l2 : en_V} {x0 : Option Nat} {σ : en_S} : en_J (X_X4_settle G q) 4 [en_R x0, l1, l2] [] σ ↔ en_J (X_X4_settle G q) 5 [en_R x0, l1, l2] [en_R x0] σ := en_j1 d_X4_settle_4 rfl rfl
theorem d_X4_settle_5 : decode cX4_settle 5 = .ok (.aload_n 1, 1) := by decide +kernel
theorem j_X4_settle_5 {G : en_G} {q : Option en_V → en_S → Prop}  {l0 l2 : en_V} {a0 : Option Nat} {x1 : Option Nat} {σ : en_S} : en_J (X_X4_settle G q) 5 [l0, en_R x1, l2] [en_R a0] σ ↔ en_J (X_X4_settle G q) 6 [l0, en_R x1, l2] [en_R x1, en_R a0] σ := en_j1 d_X4_settle_5 rfl rfl
theorem d_X4_settle_6 : decode cX4_settle 6 = .ok (.putfield 25, 3) := by decide +kernel
theorem j_X4_settle_6 {G : en_G} {q : Option en_V → en_S → Prop}  {l0 l1 l2 : en_V} {a0 : Option Nat} {a1 : Option Nat} {σ : en_S} : en_J (X_X4_settle G q) 6 [l0, l1, l2] [en_R a0, en_R a1] σ ↔ ∃ a, a1 = some a ∧ en_cl σ a = some 4 ∧ en_J (X_X4_settle G q) 9 [l0, l1, l2] [] (en_sfr σ 404 a a0) := en_jg (st := fun o => [en_R a0, en_R o]) (st' := fun _ => []) (σ' := fun a => en_sfr σ 404 a a0) d_X4_settle_6 rfl (fun a => rfl) (fun a => ⟨fun h => h.2.1, fun h => ⟨rfl, h, trivial, fun z => absurd z (by decide +kernel)⟩⟩)
theorem d_X4_settle_9 : decode cX4_settle 9 = .ok (.aload_n 0, 1) := by decide +kernel
theorem j_X4_settle_9 {G : en_G} {q : Option en_V → en_S → Prop}  {l1 l2 : en_V} {x0 : Option Nat} {σ : en_S} : en_J (X_X4_settle G q) 9 [en_R x0, l1, l2] [] σ ↔ en_J (X_X4_settle G q) 10 [en_R x0, l1, l2] [en_R x0] σ := en_j1 d_X4_settle_9 rfl rfl
theorem d_X4_settle_10 : decode cX4_settle 10 = .ok (.aload_n 2, 1) := by decide +kernel
theorem j_X4_settle_10 {G : en_G} {q : Option en_V → en_S → Prop}  {l0 l1 : en_V} {a0 : Option Nat} {x2 : Option Nat} {σ : en_S} : en_J (X_X4_settle G q) 10 [l0, l1, en_R x2] [en_R a0] σ ↔ en_J (X_X4_settle G q) 11 [l0, l1, en_R x2] [en_R x2, en_R a0] σ := en_j1 d_X4_settle_10 rfl rfl
theorem d_X4_settle_11 : decode cX4_settle 11 = .ok (.putfield 35, 3) := by decide +kernel
theorem j_X4_settle_11 {G : en_G} {q : Option en_V → en_S → Prop}  {l0 l1 l2 : en_V} {a0 : Option Nat} {a1 : Option Nat} {σ : en_S} : en_J (X_X4_settle G q) 11 [l0, l1, l2] [en_R a0, en_R a1] σ ↔ ∃ a, a1 = some a ∧ en_cl σ a = some 4 ∧ en_J (X_X4_settle G q) 14 [l0, l1, l2] [] (en_sfr σ 408 a a0) := en_jg (st := fun o => [en_R a0, en_R o]) (st' := fun _ => []) (σ' := fun a => en_sfr σ 408 a a0) d_X4_settle_11 rfl (fun a => rfl) (fun a => ⟨fun h => h.2.1, fun h => ⟨rfl, h, trivial, fun z => absurd z (by decide +kernel)⟩⟩)
theorem d_X4_settle_14 : decode cX4_settle 14 = .ok (.aload_n 0, 1) := by decide +kernel
theorem j_X4_settle_14 {G : en_G} {q : Option en_V → en_S → Prop}  {l1 l2 : en_V} {x0 : Option Nat} {σ : en_S} : en_J (X_X4_settle G q) 14 [en_R x0, l1, l2] [] σ ↔ en_J (X_X4_settle G q) 15 [en_R x0, l1, l2] [en_R x0] σ := en_j1 d_X4_settle_14 rfl rfl
theorem d_X4_settle_15 : decode cX4_settle 15 = .ok (.aload_n 2, 1) := by decide +kernel
theorem j_X4_settle_15 {G : en_G} {q : Option en_V → en_S → Prop}  {l0 l1 : en_V} {a0 : Option Nat} {x2 : Option Nat} {σ : en_S} : en_J (X_X4_settle G q) 15 [l0, l1, en_R x2] [en_R a0] σ ↔ en_J (X_X4_settle G q) 16 [l0, l1, en_R x2] [en_R x2, en_R a0] σ := en_j1 d_X4_settle_15 rfl rfl
theorem d_X4_settle_16 : decode cX4_settle 16 = .ok (.ifnull 10, 3) := by decide +kernel
theorem j_X4_settle_16 {G : en_G} {q : Option en_V → en_S → Prop}  {l0 l1 l2 : en_V} {a0 : Option Nat} {a1 : Option Nat} {σ : en_S} : en_J (X_X4_settle G q) 16 [l0, l1, l2] [en_R a0, en_R a1] σ ↔ (a0 = none → en_J (X_X4_settle G q) 26 [l0, l1, l2] [en_R a1] σ) ∧ (¬ (a0 = none) → en_J (X_X4_settle G q) 19 [l0, l1, l2] [en_R a1] σ) := en_jb d_X4_settle_16 rfl ⟨rfl, by decide⟩
theorem d_X4_settle_19 : decode cX4_settle 19 = .ok (.aload_n 2, 1) := by decide +kernel
theorem j_X4_settle_19 {G : en_G} {q : Option en_V → en_S → Prop}  {l0 l1 : en_V} {a0 : Option Nat} {x2 : Option Nat} {σ : en_S} : en_J (X_X4_settle G q) 19 [l0, l1, en_R x2] [en_R a0] σ ↔ en_J (X_X4_settle G q) 20 [l0, l1, en_R x2] [en_R x2, en_R a0] σ := en_j1 d_X4_settle_19 rfl rfl
theorem d_X4_settle_20 : decode cX4_settle 20 = .ok (.getfield 38, 3) := by decide +kernel
theorem j_X4_settle_20 {G : en_G} {q : Option en_V → en_S → Prop}  {l0 l1 l2 : en_V} {a0 : Option Nat} {a1 : Option Nat} {σ : en_S} : en_J (X_X4_settle G q) 20 [l0, l1, l2] [en_R a0, en_R a1] σ ↔ ∃ a, a0 = some a ∧ en_cl σ a = some 4 ∧ en_J (X_X4_settle G q) 23 [l0, l1, l2] [en_R (en_fr σ 407 a), en_R a1] σ := en_jg (st := fun o => [en_R o, en_R a1]) (st' := fun a => [en_R (en_fr σ 407 a), en_R a1]) (σ' := fun _ => σ) d_X4_settle_20 rfl (fun a => rfl) (fun a => ⟨fun h => h.2, fun h => ⟨rfl, h⟩⟩)
theorem d_X4_settle_23 : decode cX4_settle 23 = .ok (.goto 7, 3) := by decide +kernel
theorem j_X4_settle_23 {G : en_G} {q : Option en_V → en_S → Prop}  {l0 l1 l2 : en_V} {a0 : Option Nat} {a1 : Option Nat} {σ : en_S} : en_J (X_X4_settle G q) 23 [l0, l1, l2] [en_R a0, en_R a1] σ ↔ en_J (X_X4_settle G q) 30 [l0, l1, l2] [en_R a0, en_R a1] σ := en_j1 d_X4_settle_23 rfl ⟨rfl, by decide⟩
theorem d_X4_settle_26 : decode cX4_settle 26 = .ok (.aload_n 1, 1) := by decide +kernel
theorem j_X4_settle_26 {G : en_G} {q : Option en_V → en_S → Prop}  {l0 l2 : en_V} {a0 : Option Nat} {x1 : Option Nat} {σ : en_S} : en_J (X_X4_settle G q) 26 [l0, en_R x1, l2] [en_R a0] σ ↔ en_J (X_X4_settle G q) 27 [l0, en_R x1, l2] [en_R x1, en_R a0] σ := en_j1 d_X4_settle_26 rfl rfl
theorem d_X4_settle_27 : decode cX4_settle 27 = .ok (.getfield 41, 3) := by decide +kernel
theorem j_X4_settle_27 {G : en_G} {q : Option en_V → en_S → Prop}  {l0 l1 l2 : en_V} {a0 : Option Nat} {a1 : Option Nat} {σ : en_S} : en_J (X_X4_settle G q) 27 [l0, l1, l2] [en_R a0, en_R a1] σ ↔ ∃ a, a0 = some a ∧ en_cl σ a = some 4 ∧ en_J (X_X4_settle G q) 30 [l0, l1, l2] [en_R (en_fr σ 406 a), en_R a1] σ := en_jg (st := fun o => [en_R o, en_R a1]) (st' := fun a => [en_R (en_fr σ 406 a), en_R a1]) (σ' := fun _ => σ) d_X4_settle_27 rfl (fun a => rfl) (fun a => ⟨fun h => h.2, fun h => ⟨rfl, h⟩⟩)
theorem d_X4_settle_30 : decode cX4_settle 30 = .ok (.putfield 38, 3) := by decide +kernel
theorem j_X4_settle_30 {G : en_G} {q : Option en_V → en_S → Prop}  {l0 l1 l2 : en_V} {a0 : Option Nat} {a1 : Option Nat} {σ : en_S} : en_J (X_X4_settle G q) 30 [l0, l1, l2] [en_R a0, en_R a1] σ ↔ ∃ a, a1 = some a ∧ en_cl σ a = some 4 ∧ en_J (X_X4_settle G q) 33 [l0, l1, l2] [] (en_sfr σ 407 a a0) := en_jg (st := fun o => [en_R a0, en_R o]) (st' := fun _ => []) (σ' := fun a => en_sfr σ 407 a a0) d_X4_settle_30 rfl (fun a => rfl) (fun a => ⟨fun h => h.2.1, fun h => ⟨rfl, h, trivial, fun z => absurd z (by decide +kernel)⟩⟩)
theorem d_X4_settle_33 : decode cX4_settle 33 = .ok (.aload_n 0, 1) := by decide +kernel
theorem j_X4_settle_33 {G : en_G} {q : Option en_V → en_S → Prop}  {l1 l2 : en_V} {x0 : Option Nat} {σ : en_S} : en_J (X_X4_settle G q) 33 [en_R x0, l1, l2] [] σ ↔ en_J (X_X4_settle G q) 34 [en_R x0, l1, l2] [en_R x0] σ := en_j1 d_X4_settle_33 rfl rfl
theorem d_X4_settle_34 : decode cX4_settle 34 = .ok (.getfield 38, 3) := by decide +kernel
theorem j_X4_settle_34 {G : en_G} {q : Option en_V → en_S → Prop}  {l0 l1 l2 : en_V} {a0 : Option Nat} {σ : en_S} : en_J (X_X4_settle G q) 34 [l0, l1, l2] [en_R a0] σ ↔ ∃ a, a0 = some a ∧ en_cl σ a = some 4 ∧ en_J (X_X4_settle G q) 37 [l0, l1, l2] [en_R (en_fr σ 407 a)] σ := en_jg (st := fun o => [en_R o]) (st' := fun a => [en_R (en_fr σ 407 a)]) (σ' := fun _ => σ) d_X4_settle_34 rfl (fun a => rfl) (fun a => ⟨fun h => h.2, fun h => ⟨rfl, h⟩⟩)
theorem d_X4_settle_37 : decode cX4_settle 37 = .ok (.ifnull 14, 3) := by decide +kernel
theorem j_X4_settle_37 {G : en_G} {q : Option en_V → en_S → Prop}  {l0 l1 l2 : en_V} {a0 : Option Nat} {σ : en_S} : en_J (X_X4_settle G q) 37 [l0, l1, l2] [en_R a0] σ ↔ (a0 = none → en_J (X_X4_settle G q) 51 [l0, l1, l2] [] σ) ∧ (¬ (a0 = none) → en_J (X_X4_settle G q) 40 [l0, l1, l2] [] σ) := en_jb d_X4_settle_37 rfl ⟨rfl, by decide⟩
theorem d_X4_settle_40 : decode cX4_settle 40 = .ok (.aload_n 0, 1) := by decide +kernel
theorem j_X4_settle_40 {G : en_G} {q : Option en_V → en_S → Prop}  {l1 l2 : en_V} {x0 : Option Nat} {σ : en_S} : en_J (X_X4_settle G q) 40 [en_R x0, l1, l2] [] σ ↔ en_J (X_X4_settle G q) 41 [en_R x0, l1, l2] [en_R x0] σ := en_j1 d_X4_settle_40 rfl rfl
theorem d_X4_settle_41 : decode cX4_settle 41 = .ok (.getfield 38, 3) := by decide +kernel
theorem j_X4_settle_41 {G : en_G} {q : Option en_V → en_S → Prop}  {l0 l1 l2 : en_V} {a0 : Option Nat} {σ : en_S} : en_J (X_X4_settle G q) 41 [l0, l1, l2] [en_R a0] σ ↔ ∃ a, a0 = some a ∧ en_cl σ a = some 4 ∧ en_J (X_X4_settle G q) 44 [l0, l1, l2] [en_R (en_fr σ 407 a)] σ := en_jg (st := fun o => [en_R o]) (st' := fun a => [en_R (en_fr σ 407 a)]) (σ' := fun _ => σ) d_X4_settle_41 rfl (fun a => rfl) (fun a => ⟨fun h => h.2, fun h => ⟨rfl, h⟩⟩)
theorem d_X4_settle_44 : decode cX4_settle 44 = .ok (.aload_n 0, 1) := by decide +kernel
theorem j_X4_settle_44 {G : en_G} {q : Option en_V → en_S → Prop}  {l1 l2 : en_V} {a0 : Option Nat} {x0 : Option Nat} {σ : en_S} : en_J (X_X4_settle G q) 44 [en_R x0, l1, l2] [en_R a0] σ ↔ en_J (X_X4_settle G q) 45 [en_R x0, l1, l2] [en_R x0, en_R a0] σ := en_j1 d_X4_settle_44 rfl rfl
theorem d_X4_settle_45 : decode cX4_settle 45 = .ok (.putfield 35, 3) := by decide +kernel
theorem j_X4_settle_45 {G : en_G} {q : Option en_V → en_S → Prop}  {l0 l1 l2 : en_V} {a0 : Option Nat} {a1 : Option Nat} {σ : en_S} : en_J (X_X4_settle G q) 45 [l0, l1, l2] [en_R a0, en_R a1] σ ↔ ∃ a, a1 = some a ∧ en_cl σ a = some 4 ∧ en_J (X_X4_settle G q) 48 [l0, l1, l2] [] (en_sfr σ 408 a a0) := en_jg (st := fun o => [en_R a0, en_R o]) (st' := fun _ => []) (σ' := fun a => en_sfr σ 408 a a0) d_X4_settle_45 rfl (fun a => rfl) (fun a => ⟨fun h => h.2.1, fun h => ⟨rfl, h, trivial, fun z => absurd z (by decide +kernel)⟩⟩)
theorem d_X4_settle_48 : decode cX4_settle 48 = .ok (.goto 8, 3) := by decide +kernel
theorem j_X4_settle_48 {G : en_G} {q : Option en_V → en_S → Prop}  {l0 l1 l2 : en_V}  {σ : en_S} : en_J (X_X4_settle G q) 48 [l0, l1, l2] [] σ ↔ en_J (X_X4_settle G q) 56 [l0, l1, l2] [] σ := en_j1 d_X4_settle_48 rfl ⟨rfl, by decide⟩
theorem d_X4_settle_51 : decode cX4_settle 51 = .ok (.aload_n 1, 1) := by decide +kernel
theorem j_X4_settle_51 {G : en_G} {q : Option en_V → en_S → Prop}  {l0 l2 : en_V} {x1 : Option Nat} {σ : en_S} : en_J (X_X4_settle G q) 51 [l0, en_R x1, l2] [] σ ↔ en_J (X_X4_settle G q) 52 [l0, en_R x1, l2] [en_R x1] σ := en_j1 d_X4_settle_51 rfl rfl
theorem d_X4_settle_52 : decode cX4_settle 52 = .ok (.aload_n 0, 1) := by decide +kernel
theorem j_X4_settle_52 {G : en_G} {q : Option en_V → en_S → Prop}  {l1 l2 : en_V} {a0 : Option Nat} {x0 : Option Nat} {σ : en_S} : en_J (X_X4_settle G q) 52 [en_R x0, l1, l2] [en_R a0] σ ↔ en_J (X_X4_settle G q) 53 [en_R x0, l1, l2] [en_R x0, en_R a0] σ := en_j1 d_X4_settle_52 rfl rfl
theorem d_X4_settle_53 : decode cX4_settle 53 = .ok (.putfield 32, 3) := by decide +kernel
theorem j_X4_settle_53 {G : en_G} {q : Option en_V → en_S → Prop}  {l0 l1 l2 : en_V} {a0 : Option Nat} {a1 : Option Nat} {σ : en_S} : en_J (X_X4_settle G q) 53 [l0, l1, l2] [en_R a0, en_R a1] σ ↔ ∃ a, a1 = some a ∧ en_cl σ a = some 4 ∧ en_J (X_X4_settle G q) 56 [l0, l1, l2] [] (en_sfr σ 405 a a0) := en_jg (st := fun o => [en_R a0, en_R o]) (st' := fun _ => []) (σ' := fun a => en_sfr σ 405 a a0) d_X4_settle_53 rfl (fun a => rfl) (fun a => ⟨fun h => h.2.1, fun h => ⟨rfl, h, trivial, fun z => absurd z (by decide +kernel)⟩⟩)
theorem d_X4_settle_56 : decode cX4_settle 56 = .ok (.aload_n 0, 1) := by decide +kernel
theorem j_X4_settle_56 {G : en_G} {q : Option en_V → en_S → Prop}  {l1 l2 : en_V} {x0 : Option Nat} {σ : en_S} : en_J (X_X4_settle G q) 56 [en_R x0, l1, l2] [] σ ↔ en_J (X_X4_settle G q) 57 [en_R x0, l1, l2] [en_R x0] σ := en_j1 d_X4_settle_56 rfl rfl
theorem d_X4_settle_57 : decode cX4_settle 57 = .ok (.getfield 35, 3) := by decide +kernel
theorem j_X4_settle_57 {G : en_G} {q : Option en_V → en_S → Prop}  {l0 l1 l2 : en_V} {a0 : Option Nat} {σ : en_S} : en_J (X_X4_settle G q) 57 [l0, l1, l2] [en_R a0] σ ↔ ∃ a, a0 = some a ∧ en_cl σ a = some 4 ∧ en_J (X_X4_settle G q) 60 [l0, l1, l2] [en_R (en_fr σ 408 a)] σ := en_jg (st := fun o => [en_R o]) (st' := fun a => [en_R (en_fr σ 408 a)]) (σ' := fun _ => σ) d_X4_settle_57 rfl (fun a => rfl) (fun a => ⟨fun h => h.2, fun h => ⟨rfl, h⟩⟩)
theorem d_X4_settle_60 : decode cX4_settle 60 = .ok (.ifnull 14, 3) := by decide +kernel
theorem j_X4_settle_60 {G : en_G} {q : Option en_V → en_S → Prop}  {l0 l1 l2 : en_V} {a0 : Option Nat} {σ : en_S} : en_J (X_X4_settle G q) 60 [l0, l1, l2] [en_R a0] σ ↔ (a0 = none → en_J (X_X4_settle G q) 74 [l0, l1, l2] [] σ) ∧ (¬ (a0 = none) → en_J (X_X4_settle G q) 63 [l0, l1, l2] [] σ) := en_jb d_X4_settle_60 rfl ⟨rfl, by decide⟩
theorem d_X4_settle_63 : decode cX4_settle 63 = .ok (.aload_n 0, 1) := by decide +kernel
theorem j_X4_settle_63 {G : en_G} {q : Option en_V → en_S → Prop}  {l1 l2 : en_V} {x0 : Option Nat} {σ : en_S} : en_J (X_X4_settle G q) 63 [en_R x0, l1, l2] [] σ ↔ en_J (X_X4_settle G q) 64 [en_R x0, l1, l2] [en_R x0] σ := en_j1 d_X4_settle_63 rfl rfl
theorem d_X4_settle_64 : decode cX4_settle 64 = .ok (.getfield 35, 3) := by decide +kernel
theorem j_X4_settle_64 {G : en_G} {q : Option en_V → en_S → Prop}  {l0 l1 l2 : en_V} {a0 : Option Nat} {σ : en_S} : en_J (X_X4_settle G q) 64 [l0, l1, l2] [en_R a0] σ ↔ ∃ a, a0 = some a ∧ en_cl σ a = some 4 ∧ en_J (X_X4_settle G q) 67 [l0, l1, l2] [en_R (en_fr σ 408 a)] σ := en_jg (st := fun o => [en_R o]) (st' := fun a => [en_R (en_fr σ 408 a)]) (σ' := fun _ => σ) d_X4_settle_64 rfl (fun a => rfl) (fun a => ⟨fun h => h.2, fun h => ⟨rfl, h⟩⟩)
theorem d_X4_settle_67 : decode cX4_settle 67 = .ok (.aload_n 0, 1) := by decide +kernel
theorem j_X4_settle_67 {G : en_G} {q : Option en_V → en_S → Prop}  {l1 l2 : en_V} {a0 : Option Nat} {x0 : Option Nat} {σ : en_S} : en_J (X_X4_settle G q) 67 [en_R x0, l1, l2] [en_R a0] σ ↔ en_J (X_X4_settle G q) 68 [en_R x0, l1, l2] [en_R x0, en_R a0] σ := en_j1 d_X4_settle_67 rfl rfl
theorem d_X4_settle_68 : decode cX4_settle 68 = .ok (.putfield 38, 3) := by decide +kernel
theorem j_X4_settle_68 {G : en_G} {q : Option en_V → en_S → Prop}  {l0 l1 l2 : en_V} {a0 : Option Nat} {a1 : Option Nat} {σ : en_S} : en_J (X_X4_settle G q) 68 [l0, l1, l2] [en_R a0, en_R a1] σ ↔ ∃ a, a1 = some a ∧ en_cl σ a = some 4 ∧ en_J (X_X4_settle G q) 71 [l0, l1, l2] [] (en_sfr σ 407 a a0) := en_jg (st := fun o => [en_R a0, en_R o]) (st' := fun _ => []) (σ' := fun a => en_sfr σ 407 a a0) d_X4_settle_68 rfl (fun a => rfl) (fun a => ⟨fun h => h.2.1, fun h => ⟨rfl, h, trivial, fun z => absurd z (by decide +kernel)⟩⟩)
theorem d_X4_settle_71 : decode cX4_settle 71 = .ok (.goto 8, 3) := by decide +kernel
theorem j_X4_settle_71 {G : en_G} {q : Option en_V → en_S → Prop}  {l0 l1 l2 : en_V}  {σ : en_S} : en_J (X_X4_settle G q) 71 [l0, l1, l2] [] σ ↔ en_J (X_X4_settle G q) 79 [l0, l1, l2] [] σ := en_j1 d_X4_settle_71 rfl ⟨rfl, by decide⟩
theorem d_X4_settle_74 : decode cX4_settle 74 = .ok (.aload_n 1, 1) := by decide +kernel
theorem j_X4_settle_74 {G : en_G} {q : Option en_V → en_S → Prop}  {l0 l2 : en_V} {x1 : Option Nat} {σ : en_S} : en_J (X_X4_settle G q) 74 [l0, en_R x1, l2] [] σ ↔ en_J (X_X4_settle G q) 75 [l0, en_R x1, l2] [en_R x1] σ := en_j1 d_X4_settle_74 rfl rfl
theorem d_X4_settle_75 : decode cX4_settle 75 = .ok (.aload_n 0, 1) := by decide +kernel
theorem j_X4_settle_75 {G : en_G} {q : Option en_V → en_S → Prop}  {l1 l2 : en_V} {a0 : Option Nat} {x0 : Option Nat} {σ : en_S} : en_J (X_X4_settle G q) 75 [en_R x0, l1, l2] [en_R a0] σ ↔ en_J (X_X4_settle G q) 76 [en_R x0, l1, l2] [en_R x0, en_R a0] σ := en_j1 d_X4_settle_75 rfl rfl
theorem d_X4_settle_76 : decode cX4_settle 76 = .ok (.putfield 41, 3) := by decide +kernel
theorem j_X4_settle_76 {G : en_G} {q : Option en_V → en_S → Prop}  {l0 l1 l2 : en_V} {a0 : Option Nat} {a1 : Option Nat} {σ : en_S} : en_J (X_X4_settle G q) 76 [l0, l1, l2] [en_R a0, en_R a1] σ ↔ ∃ a, a1 = some a ∧ en_cl σ a = some 4 ∧ en_J (X_X4_settle G q) 79 [l0, l1, l2] [] (en_sfr σ 406 a a0) := en_jg (st := fun o => [en_R a0, en_R o]) (st' := fun _ => []) (σ' := fun a => en_sfr σ 406 a a0) d_X4_settle_76 rfl (fun a => rfl) (fun a => ⟨fun h => h.2.1, fun h => ⟨rfl, h, trivial, fun z => absurd z (by decide +kernel)⟩⟩)
theorem d_X4_settle_79 : decode cX4_settle 79 = .ok (.return_, 1) := by decide +kernel
theorem j_X4_settle_79 {G : en_G} {q : Option en_V → en_S → Prop}  {l0 l1 l2 : en_V}  {σ : en_S} : en_J (X_X4_settle G q) 79 [l0, l1, l2] [] σ ↔ q none σ := en_jr d_X4_settle_79 rfl ⟨fun h => h.2.2, fun h => ⟨rfl, rfl, h⟩⟩
theorem wc_X4_settle : Jvm.Cond.code yX4_settle cX4_settle 3 none ∈ en_W := en_inW (List.mem_of_getElem? (i := 460) (by decide +kernel)) (by decide +kernel)
theorem wi_X4_settle : Jvm.Cond.instanceMethod yX4_settle ∈ en_W := en_inW (List.mem_of_getElem? (i := 458) (by decide +kernel)) (by decide +kernel)
theorem wx_X4_settle : Jvm.Cond.selects RX4 yX4_settle yX4_settle ∈ en_W := en_inW (List.mem_of_getElem? (i := 459) (by decide +kernel)) (by decide +kernel)

theorem jg_X4_settle {G : en_G} : ∀ g as σ, P_X4_settle g as σ → (en_lc as).length ≤ 3 ∧ en_J (X_X4_settle G (fun r σ' => r = none ∧ tr_R g.1 (tr_ins g.2.1 g.2.2.1 g.2.2.2.1 g.2.2.2.2) σ' ∧ tr_frm σ σ')) 0 (en_loc 3 as) [] σ := by
  rintro ⟨na, T, n, p, fo⟩ as σ ⟨hR, hw, hn, hpl, hpn, hfo, rfl⟩
  refine ⟨Nat.le_of_ble_eq_true rfl, ?_⟩
  show en_J _ 0 [en_R (some (na n)), en_R (some (na p)), en_R (fo.map na)] [] σ
  have hR : tr_R na T σ := hR
  have hw : tr_wf T := hw
  have hn : n < tr_N T := hn
  have hpl : p < tr_N T := hpl
  have hpn : p ≠ n := hpn
  have hfo : ∀ f, fo = some f → f ∈ tr_ch T p ∧ f ≠ n := hfo
  simp only [j_X4_settle_0, j_X4_settle_1, C_X4_leave, en_gh]
  refine ⟨⟨(na, T, n), hR, hw, hn, rfl⟩, fun r σ1 h => ?_⟩
  obtain ⟨rfl, hR1, hf1⟩ := h (na, T, n) ⟨hR, hw, hn, rfl⟩
  have hR1 : tr_R na (tr_leave T n) σ1 := hR1
  have hw1 := tr_wf_leave hw hn
  have hfo1 : ∀ f, fo = some f → f ∈ tr_ch (tr_leave T n) p := fun f hf => by
    show f ∈ (if tr_pa T n = some p then (tr_ch T p).erase n else tr_ch T p)
    by_cases h2 : tr_pa T n = some p
    · rw [if_pos h2]; exact (List.mem_erase_of_ne (hfo f hf).2).mpr (hfo f hf).1
    · rw [if_neg h2]; exact (hfo f hf).1
  obtain ⟨pre, suf, hc, hi, hs⟩ := tr_insL_split (n := n) hfo1
  obtain ⟨-, -, hnn, hnd1⟩ := tr_nx_ins hw hn hpl hc hi hn
  obtain ⟨hcn, -⟩ := hR1.1 n hn
  obtain ⟨hcp, -, -, -, -, -, -, hla, -⟩ := hR1.1 p hpl
  have inj : ∀ a b, a < tr_N T → b < tr_N T → (na a = na b ↔ a = b) := fun a b ha hb => ⟨hR1.2 a b ha hb, fun z => by rw [z]⟩
  have hnp : ¬ na p = na n := fun z => hpn (hR1.2 p n hpl hn z)
  have hnp' : ¬ na n = na p := fun z => hnp z.symm
  have f5 : ∀ τ, tr_frm σ1 τ → tr_frm σ τ := fun τ h => hf1.tr h
  have prebit : ∀ a, pre.getLast? = some a → a < tr_N T ∧ ¬ na n = na a ∧ en_cl σ1 (na a) = some 4 := fun a ha => by
    have ham : a ∈ pre := List.mem_of_getLast? ha
    have hal : a < tr_N T := (hw1.2.2.1 p a hpl (by rw [hc]; exact List.mem_append_left _ ham)).1
    exact ⟨hal, fun z => hnn (by rw [hR1.2 n a hn hal z]; exact List.mem_append_left _ ham), (hR1.1 a hal).1⟩
  cases fo with
  | none =>
    have hsn : suf = [] := by cases suf with | nil => rfl | cons b s => cases hs
    rw [hc, hsn, List.append_nil] at hla
    cases ha : pre.getLast? with
    | none =>
      rw [ha] at hla
      simp only [j_X4_settle_0, j_X4_settle_1, j_X4_settle_4, j_X4_settle_5, j_X4_settle_6, j_X4_settle_9, j_X4_settle_10, j_X4_settle_11, j_X4_settle_14, j_X4_settle_15, j_X4_settle_16, j_X4_settle_19, j_X4_settle_20, j_X4_settle_23, j_X4_settle_26, j_X4_settle_27, j_X4_settle_30, j_X4_settle_33, j_X4_settle_34, j_X4_settle_37, j_X4_settle_40, j_X4_settle_41, j_X4_settle_44, j_X4_settle_45, j_X4_settle_48, j_X4_settle_51, j_X4_settle_52, j_X4_settle_53, j_X4_settle_56, j_X4_settle_57, j_X4_settle_60, j_X4_settle_63, j_X4_settle_64, j_X4_settle_67, j_X4_settle_68, j_X4_settle_71, j_X4_settle_74, j_X4_settle_75, j_X4_settle_76, j_X4_settle_79, en_c2I, en_c2R, en_c2U, en_c2D, Option.some.injEq, exists_eq_left', exists_eq_left, Option.map_some, Option.map_none, not_true_eq_false, false_implies, true_implies, and_true, true_and, reduceCtorEq, not_false_eq_true, Option.toList, List.nil_append, hcn, hcp, hla, eg_cl_sfi, eg_fi_sfi, eg_fr_sfi, eg_fd_sfi, eg_al_sfi, eg_ai_sfi, eg_ar_sfi, eg_ad_sfi, eg_aj_sfi, eg_nx_sfi, eg_ns_sfi, eg_cl_sfr, eg_fi_sfr, eg_fr_sfr, eg_fd_sfr, eg_al_sfr, eg_ai_sfr, eg_ar_sfr, eg_ad_sfr, eg_aj_sfr, eg_nx_sfr, eg_ns_sfr, eg_cl_sfd, eg_fi_sfd, eg_fr_sfd, eg_fd_sfd, eg_al_sfd, eg_ai_sfd, eg_ar_sfd, eg_ad_sfd, eg_aj_sfd, eg_nx_sfd, eg_ns_sfd, eg_cl_sai, eg_fi_sai, eg_fr_sai, eg_fd_sai, eg_al_sai, eg_ai_sai, eg_ar_sai, eg_ad_sai, eg_aj_sai, eg_nx_sai, eg_ns_sai, eg_cl_sar, eg_fi_sar, eg_fr_sar, eg_fd_sar, eg_al_sar, eg_ai_sar, eg_ar_sar, eg_ad_sar, eg_aj_sar, eg_nx_sar, eg_ns_sar, eg_cl_sad, eg_fi_sad, eg_fr_sad, eg_fd_sad, eg_al_sad, eg_ai_sad, eg_ar_sad, eg_ad_sad, eg_aj_sad, eg_nx_sad, eg_ns_sad, eg_cl_saj, eg_fi_saj, eg_fr_saj, eg_fd_saj, eg_al_saj, eg_ai_saj, eg_ar_saj, eg_ad_saj, eg_aj_saj, eg_nx_saj, eg_ns_saj, eg_cl_new, eg_fi_new, eg_fr_new, eg_fd_new, eg_al_new, eg_ai_new, eg_ar_new, eg_ad_new, eg_aj_new, eg_nx_new, eg_ns_new, eg_cl_newa, eg_fi_newa, eg_fr_newa, eg_fd_newa, eg_al_newa, eg_ai_newa, eg_ar_newa, eg_ad_newa, eg_aj_newa, eg_nx_newa, eg_ns_newa, eg_cl_bump, eg_fi_bump, eg_fr_bump, eg_fd_bump, eg_al_bump, eg_ai_bump, eg_ar_bump, eg_ad_bump, eg_aj_bump, eg_nx_bump, eg_ns_bump, hnp, hnp', Nat.reduceEqDiff, false_and, and_false, if_false, and_self, if_true]
      exact ⟨tr_R_ins hw hR1 hn hpl hc hi (((((tr_frm.put (by decide)).tr (tr_frm.put (by decide))).tr (tr_frm.put (by decide))).tr (tr_frm.put (by decide))).tr (tr_frm.put (by decide))) (fun m hm => by simp only [eg_cl_sfi, eg_fi_sfi, eg_fr_sfi, eg_fd_sfi, eg_al_sfi, eg_ai_sfi, eg_ar_sfi, eg_ad_sfi, eg_aj_sfi, eg_nx_sfi, eg_ns_sfi, eg_cl_sfr, eg_fi_sfr, eg_fr_sfr, eg_fd_sfr, eg_al_sfr, eg_ai_sfr, eg_ar_sfr, eg_ad_sfr, eg_aj_sfr, eg_nx_sfr, eg_ns_sfr, eg_cl_sfd, eg_fi_sfd, eg_fr_sfd, eg_fd_sfd, eg_al_sfd, eg_ai_sfd, eg_ar_sfd, eg_ad_sfd, eg_aj_sfd, eg_nx_sfd, eg_ns_sfd, eg_cl_sai, eg_fi_sai, eg_fr_sai, eg_fd_sai, eg_al_sai, eg_ai_sai, eg_ar_sai, eg_ad_sai, eg_aj_sai, eg_nx_sai, eg_ns_sai, eg_cl_sar, eg_fi_sar, eg_fr_sar, eg_fd_sar, eg_al_sar, eg_ai_sar, eg_ar_sar, eg_ad_sar, eg_aj_sar, eg_nx_sar, eg_ns_sar, eg_cl_sad, eg_fi_sad, eg_fr_sad, eg_fd_sad, eg_al_sad, eg_ai_sad, eg_ar_sad, eg_ad_sad, eg_aj_sad, eg_nx_sad, eg_ns_sad, eg_cl_saj, eg_fi_saj, eg_fr_saj, eg_fd_saj, eg_al_saj, eg_ai_saj, eg_ar_saj, eg_ad_saj, eg_aj_saj, eg_nx_saj, eg_ns_saj, eg_cl_new, eg_fi_new, eg_fr_new, eg_fd_new, eg_al_new, eg_ai_new, eg_ar_new, eg_ad_new, eg_aj_new, eg_nx_new, eg_ns_new, eg_cl_newa, eg_fi_newa, eg_fr_newa, eg_fd_newa, eg_al_newa, eg_ai_newa, eg_ar_newa, eg_ad_newa, eg_aj_newa, eg_nx_newa, eg_ns_newa, eg_cl_bump, eg_fi_bump, eg_fr_bump, eg_fd_bump, eg_al_bump, eg_ai_bump, eg_ar_bump, eg_ad_bump, eg_aj_bump, eg_nx_bump, eg_ns_bump, Nat.reduceEqDiff, false_and, if_false, true_and, inj m n hm hn, inj m p hm hpl, ha, hs, Option.map_some, Option.map_none, not_true_eq_false, false_implies, true_implies, and_true, true_and, reduceCtorEq, not_false_eq_true, Option.some.injEq]) (fun m hm => by simp only [eg_cl_sfi, eg_fi_sfi, eg_fr_sfi, eg_fd_sfi, eg_al_sfi, eg_ai_sfi, eg_ar_sfi, eg_ad_sfi, eg_aj_sfi, eg_nx_sfi, eg_ns_sfi, eg_cl_sfr, eg_fi_sfr, eg_fr_sfr, eg_fd_sfr, eg_al_sfr, eg_ai_sfr, eg_ar_sfr, eg_ad_sfr, eg_aj_sfr, eg_nx_sfr, eg_ns_sfr, eg_cl_sfd, eg_fi_sfd, eg_fr_sfd, eg_fd_sfd, eg_al_sfd, eg_ai_sfd, eg_ar_sfd, eg_ad_sfd, eg_aj_sfd, eg_nx_sfd, eg_ns_sfd, eg_cl_sai, eg_fi_sai, eg_fr_sai, eg_fd_sai, eg_al_sai, eg_ai_sai, eg_ar_sai, eg_ad_sai, eg_aj_sai, eg_nx_sai, eg_ns_sai, eg_cl_sar, eg_fi_sar, eg_fr_sar, eg_fd_sar, eg_al_sar, eg_ai_sar, eg_ar_sar, eg_ad_sar, eg_aj_sar, eg_nx_sar, eg_ns_sar, eg_cl_sad, eg_fi_sad, eg_fr_sad, eg_fd_sad, eg_al_sad, eg_ai_sad, eg_ar_sad, eg_ad_sad, eg_aj_sad, eg_nx_sad, eg_ns_sad, eg_cl_saj, eg_fi_saj, eg_fr_saj, eg_fd_saj, eg_al_saj, eg_ai_saj, eg_ar_saj, eg_ad_saj, eg_aj_saj, eg_nx_saj, eg_ns_saj, eg_cl_new, eg_fi_new, eg_fr_new, eg_fd_new, eg_al_new, eg_ai_new, eg_ar_new, eg_ad_new, eg_aj_new, eg_nx_new, eg_ns_new, eg_cl_newa, eg_fi_newa, eg_fr_newa, eg_fd_newa, eg_al_newa, eg_ai_newa, eg_ar_newa, eg_ad_newa, eg_aj_newa, eg_nx_newa, eg_ns_newa, eg_cl_bump, eg_fi_bump, eg_fr_bump, eg_fd_bump, eg_al_bump, eg_ai_bump, eg_ar_bump, eg_ad_bump, eg_aj_bump, eg_nx_bump, eg_ns_bump, Nat.reduceEqDiff, false_and, if_false, true_and, inj m n hm hn, inj m p hm hpl, ha, hs, Option.map_some, Option.map_none, not_true_eq_false, false_implies, true_implies, and_true, true_and, reduceCtorEq, not_false_eq_true, Option.some.injEq]) (fun m hm => by simp only [eg_cl_sfi, eg_fi_sfi, eg_fr_sfi, eg_fd_sfi, eg_al_sfi, eg_ai_sfi, eg_ar_sfi, eg_ad_sfi, eg_aj_sfi, eg_nx_sfi, eg_ns_sfi, eg_cl_sfr, eg_fi_sfr, eg_fr_sfr, eg_fd_sfr, eg_al_sfr, eg_ai_sfr, eg_ar_sfr, eg_ad_sfr, eg_aj_sfr, eg_nx_sfr, eg_ns_sfr, eg_cl_sfd, eg_fi_sfd, eg_fr_sfd, eg_fd_sfd, eg_al_sfd, eg_ai_sfd, eg_ar_sfd, eg_ad_sfd, eg_aj_sfd, eg_nx_sfd, eg_ns_sfd, eg_cl_sai, eg_fi_sai, eg_fr_sai, eg_fd_sai, eg_al_sai, eg_ai_sai, eg_ar_sai, eg_ad_sai, eg_aj_sai, eg_nx_sai, eg_ns_sai, eg_cl_sar, eg_fi_sar, eg_fr_sar, eg_fd_sar, eg_al_sar, eg_ai_sar, eg_ar_sar, eg_ad_sar, eg_aj_sar, eg_nx_sar, eg_ns_sar, eg_cl_sad, eg_fi_sad, eg_fr_sad, eg_fd_sad, eg_al_sad, eg_ai_sad, eg_ar_sad, eg_ad_sad, eg_aj_sad, eg_nx_sad, eg_ns_sad, eg_cl_saj, eg_fi_saj, eg_fr_saj, eg_fd_saj, eg_al_saj, eg_ai_saj, eg_ar_saj, eg_ad_saj, eg_aj_saj, eg_nx_saj, eg_ns_saj, eg_cl_new, eg_fi_new, eg_fr_new, eg_fd_new, eg_al_new, eg_ai_new, eg_ar_new, eg_ad_new, eg_aj_new, eg_nx_new, eg_ns_new, eg_cl_newa, eg_fi_newa, eg_fr_newa, eg_fd_newa, eg_al_newa, eg_ai_newa, eg_ar_newa, eg_ad_newa, eg_aj_newa, eg_nx_newa, eg_ns_newa, eg_cl_bump, eg_fi_bump, eg_fr_bump, eg_fd_bump, eg_al_bump, eg_ai_bump, eg_ar_bump, eg_ad_bump, eg_aj_bump, eg_nx_bump, eg_ns_bump, Nat.reduceEqDiff, false_and, if_false, true_and, inj m n hm hn, inj m p hm hpl, ha, hs, Option.map_some, Option.map_none, not_true_eq_false, false_implies, true_implies, and_true, true_and, reduceCtorEq, not_false_eq_true, Option.some.injEq]) (fun m hm => by simp only [eg_cl_sfi, eg_fi_sfi, eg_fr_sfi, eg_fd_sfi, eg_al_sfi, eg_ai_sfi, eg_ar_sfi, eg_ad_sfi, eg_aj_sfi, eg_nx_sfi, eg_ns_sfi, eg_cl_sfr, eg_fi_sfr, eg_fr_sfr, eg_fd_sfr, eg_al_sfr, eg_ai_sfr, eg_ar_sfr, eg_ad_sfr, eg_aj_sfr, eg_nx_sfr, eg_ns_sfr, eg_cl_sfd, eg_fi_sfd, eg_fr_sfd, eg_fd_sfd, eg_al_sfd, eg_ai_sfd, eg_ar_sfd, eg_ad_sfd, eg_aj_sfd, eg_nx_sfd, eg_ns_sfd, eg_cl_sai, eg_fi_sai, eg_fr_sai, eg_fd_sai, eg_al_sai, eg_ai_sai, eg_ar_sai, eg_ad_sai, eg_aj_sai, eg_nx_sai, eg_ns_sai, eg_cl_sar, eg_fi_sar, eg_fr_sar, eg_fd_sar, eg_al_sar, eg_ai_sar, eg_ar_sar, eg_ad_sar, eg_aj_sar, eg_nx_sar, eg_ns_sar, eg_cl_sad, eg_fi_sad, eg_fr_sad, eg_fd_sad, eg_al_sad, eg_ai_sad, eg_ar_sad, eg_ad_sad, eg_aj_sad, eg_nx_sad, eg_ns_sad, eg_cl_saj, eg_fi_saj, eg_fr_saj, eg_fd_saj, eg_al_saj, eg_ai_saj, eg_ar_saj, eg_ad_saj, eg_aj_saj, eg_nx_saj, eg_ns_saj, eg_cl_new, eg_fi_new, eg_fr_new, eg_fd_new, eg_al_new, eg_ai_new, eg_ar_new, eg_ad_new, eg_aj_new, eg_nx_new, eg_ns_new, eg_cl_newa, eg_fi_newa, eg_fr_newa, eg_fd_newa, eg_al_newa, eg_ai_newa, eg_ar_newa, eg_ad_newa, eg_aj_newa, eg_nx_newa, eg_ns_newa, eg_cl_bump, eg_fi_bump, eg_fr_bump, eg_fd_bump, eg_al_bump, eg_ai_bump, eg_ar_bump, eg_ad_bump, eg_aj_bump, eg_nx_bump, eg_ns_bump, Nat.reduceEqDiff, false_and, if_false, true_and, inj m n hm hn, inj m p hm hpl, ha, hs, Option.map_some, Option.map_none, not_true_eq_false, false_implies, true_implies, and_true, true_and, reduceCtorEq, not_false_eq_true, Option.some.injEq]) (fun m hm => by simp only [eg_cl_sfi, eg_fi_sfi, eg_fr_sfi, eg_fd_sfi, eg_al_sfi, eg_ai_sfi, eg_ar_sfi, eg_ad_sfi, eg_aj_sfi, eg_nx_sfi, eg_ns_sfi, eg_cl_sfr, eg_fi_sfr, eg_fr_sfr, eg_fd_sfr, eg_al_sfr, eg_ai_sfr, eg_ar_sfr, eg_ad_sfr, eg_aj_sfr, eg_nx_sfr, eg_ns_sfr, eg_cl_sfd, eg_fi_sfd, eg_fr_sfd, eg_fd_sfd, eg_al_sfd, eg_ai_sfd, eg_ar_sfd, eg_ad_sfd, eg_aj_sfd, eg_nx_sfd, eg_ns_sfd, eg_cl_sai, eg_fi_sai, eg_fr_sai, eg_fd_sai, eg_al_sai, eg_ai_sai, eg_ar_sai, eg_ad_sai, eg_aj_sai, eg_nx_sai, eg_ns_sai, eg_cl_sar, eg_fi_sar, eg_fr_sar, eg_fd_sar, eg_al_sar, eg_ai_sar, eg_ar_sar, eg_ad_sar, eg_aj_sar, eg_nx_sar, eg_ns_sar, eg_cl_sad, eg_fi_sad, eg_fr_sad, eg_fd_sad, eg_al_sad, eg_ai_sad, eg_ar_sad, eg_ad_sad, eg_aj_sad, eg_nx_sad, eg_ns_sad, eg_cl_saj, eg_fi_saj, eg_fr_saj, eg_fd_saj, eg_al_saj, eg_ai_saj, eg_ar_saj, eg_ad_saj, eg_aj_saj, eg_nx_saj, eg_ns_saj, eg_cl_new, eg_fi_new, eg_fr_new, eg_fd_new, eg_al_new, eg_ai_new, eg_ar_new, eg_ad_new, eg_aj_new, eg_nx_new, eg_ns_new, eg_cl_newa, eg_fi_newa, eg_fr_newa, eg_fd_newa, eg_al_newa, eg_ai_newa, eg_ar_newa, eg_ad_newa, eg_aj_newa, eg_nx_newa, eg_ns_newa, eg_cl_bump, eg_fi_bump, eg_fr_bump, eg_fd_bump, eg_al_bump, eg_ai_bump, eg_ar_bump, eg_ad_bump, eg_aj_bump, eg_nx_bump, eg_ns_bump, Nat.reduceEqDiff, false_and, if_false, true_and, inj m n hm hn, inj m p hm hpl, ha, hs, Option.map_some, Option.map_none, not_true_eq_false, false_implies, true_implies, and_true, true_and, reduceCtorEq, not_false_eq_true, Option.some.injEq]), f5 _ (((((tr_frm.put (by decide)).tr (tr_frm.put (by decide))).tr (tr_frm.put (by decide))).tr (tr_frm.put (by decide))).tr (tr_frm.put (by decide)))⟩
    | some a =>
      rw [ha] at hla
      obtain ⟨hal, han, hca⟩ := prebit a ha
      simp only [j_X4_settle_0, j_X4_settle_1, j_X4_settle_4, j_X4_settle_5, j_X4_settle_6, j_X4_settle_9, j_X4_settle_10, j_X4_settle_11, j_X4_settle_14, j_X4_settle_15, j_X4_settle_16, j_X4_settle_19, j_X4_settle_20, j_X4_settle_23, j_X4_settle_26, j_X4_settle_27, j_X4_settle_30, j_X4_settle_33, j_X4_settle_34, j_X4_settle_37, j_X4_settle_40, j_X4_settle_41, j_X4_settle_44, j_X4_settle_45, j_X4_settle_48, j_X4_settle_51, j_X4_settle_52, j_X4_settle_53, j_X4_settle_56, j_X4_settle_57, j_X4_settle_60, j_X4_settle_63, j_X4_settle_64, j_X4_settle_67, j_X4_settle_68, j_X4_settle_71, j_X4_settle_74, j_X4_settle_75, j_X4_settle_76, j_X4_settle_79, en_c2I, en_c2R, en_c2U, en_c2D, Option.some.injEq, exists_eq_left', exists_eq_left, Option.map_some, Option.map_none, not_true_eq_false, false_implies, true_implies, and_true, true_and, reduceCtorEq, not_false_eq_true, Option.toList, List.nil_append, hcn, hcp, hca, han, hla, eg_cl_sfi, eg_fi_sfi, eg_fr_sfi, eg_fd_sfi, eg_al_sfi, eg_ai_sfi, eg_ar_sfi, eg_ad_sfi, eg_aj_sfi, eg_nx_sfi, eg_ns_sfi, eg_cl_sfr, eg_fi_sfr, eg_fr_sfr, eg_fd_sfr, eg_al_sfr, eg_ai_sfr, eg_ar_sfr, eg_ad_sfr, eg_aj_sfr, eg_nx_sfr, eg_ns_sfr, eg_cl_sfd, eg_fi_sfd, eg_fr_sfd, eg_fd_sfd, eg_al_sfd, eg_ai_sfd, eg_ar_sfd, eg_ad_sfd, eg_aj_sfd, eg_nx_sfd, eg_ns_sfd, eg_cl_sai, eg_fi_sai, eg_fr_sai, eg_fd_sai, eg_al_sai, eg_ai_sai, eg_ar_sai, eg_ad_sai, eg_aj_sai, eg_nx_sai, eg_ns_sai, eg_cl_sar, eg_fi_sar, eg_fr_sar, eg_fd_sar, eg_al_sar, eg_ai_sar, eg_ar_sar, eg_ad_sar, eg_aj_sar, eg_nx_sar, eg_ns_sar, eg_cl_sad, eg_fi_sad, eg_fr_sad, eg_fd_sad, eg_al_sad, eg_ai_sad, eg_ar_sad, eg_ad_sad, eg_aj_sad, eg_nx_sad, eg_ns_sad, eg_cl_saj, eg_fi_saj, eg_fr_saj, eg_fd_saj, eg_al_saj, eg_ai_saj, eg_ar_saj, eg_ad_saj, eg_aj_saj, eg_nx_saj, eg_ns_saj, eg_cl_new, eg_fi_new, eg_fr_new, eg_fd_new, eg_al_new, eg_ai_new, eg_ar_new, eg_ad_new, eg_aj_new, eg_nx_new, eg_ns_new, eg_cl_newa, eg_fi_newa, eg_fr_newa, eg_fd_newa, eg_al_newa, eg_ai_newa, eg_ar_newa, eg_ad_newa, eg_aj_newa, eg_nx_newa, eg_ns_newa, eg_cl_bump, eg_fi_bump, eg_fr_bump, eg_fd_bump, eg_al_bump, eg_ai_bump, eg_ar_bump, eg_ad_bump, eg_aj_bump, eg_nx_bump, eg_ns_bump, hnp, hnp', Nat.reduceEqDiff, false_and, and_false, if_false, and_self, if_true]
      exact ⟨tr_R_ins hw hR1 hn hpl hc hi (((((tr_frm.put (by decide)).tr (tr_frm.put (by decide))).tr (tr_frm.put (by decide))).tr (tr_frm.put (by decide))).tr (tr_frm.put (by decide))) (fun m hm => by simp only [eg_cl_sfi, eg_fi_sfi, eg_fr_sfi, eg_fd_sfi, eg_al_sfi, eg_ai_sfi, eg_ar_sfi, eg_ad_sfi, eg_aj_sfi, eg_nx_sfi, eg_ns_sfi, eg_cl_sfr, eg_fi_sfr, eg_fr_sfr, eg_fd_sfr, eg_al_sfr, eg_ai_sfr, eg_ar_sfr, eg_ad_sfr, eg_aj_sfr, eg_nx_sfr, eg_ns_sfr, eg_cl_sfd, eg_fi_sfd, eg_fr_sfd, eg_fd_sfd, eg_al_sfd, eg_ai_sfd, eg_ar_sfd, eg_ad_sfd, eg_aj_sfd, eg_nx_sfd, eg_ns_sfd, eg_cl_sai, eg_fi_sai, eg_fr_sai, eg_fd_sai, eg_al_sai, eg_ai_sai, eg_ar_sai, eg_ad_sai, eg_aj_sai, eg_nx_sai, eg_ns_sai, eg_cl_sar, eg_fi_sar, eg_fr_sar, eg_fd_sar, eg_al_sar, eg_ai_sar, eg_ar_sar, eg_ad_sar, eg_aj_sar, eg_nx_sar, eg_ns_sar, eg_cl_sad, eg_fi_sad, eg_fr_sad, eg_fd_sad, eg_al_sad, eg_ai_sad, eg_ar_sad, eg_ad_sad, eg_aj_sad, eg_nx_sad, eg_ns_sad, eg_cl_saj, eg_fi_saj, eg_fr_saj, eg_fd_saj, eg_al_saj, eg_ai_saj, eg_ar_saj, eg_ad_saj, eg_aj_saj, eg_nx_saj, eg_ns_saj, eg_cl_new, eg_fi_new, eg_fr_new, eg_fd_new, eg_al_new, eg_ai_new, eg_ar_new, eg_ad_new, eg_aj_new, eg_nx_new, eg_ns_new, eg_cl_newa, eg_fi_newa, eg_fr_newa, eg_fd_newa, eg_al_newa, eg_ai_newa, eg_ar_newa, eg_ad_newa, eg_aj_newa, eg_nx_newa, eg_ns_newa, eg_cl_bump, eg_fi_bump, eg_fr_bump, eg_fd_bump, eg_al_bump, eg_ai_bump, eg_ar_bump, eg_ad_bump, eg_aj_bump, eg_nx_bump, eg_ns_bump, Nat.reduceEqDiff, false_and, if_false, true_and, inj m n hm hn, inj m p hm hpl, ha, hs, Option.map_some, Option.map_none, not_true_eq_false, false_implies, true_implies, and_true, true_and, reduceCtorEq, not_false_eq_true, Option.some.injEq, inj m a hm hal, eq_comm (a := a)] <;> exact tr_swap (fun z => han (by rw [z]))) (fun m hm => by simp only [eg_cl_sfi, eg_fi_sfi, eg_fr_sfi, eg_fd_sfi, eg_al_sfi, eg_ai_sfi, eg_ar_sfi, eg_ad_sfi, eg_aj_sfi, eg_nx_sfi, eg_ns_sfi, eg_cl_sfr, eg_fi_sfr, eg_fr_sfr, eg_fd_sfr, eg_al_sfr, eg_ai_sfr, eg_ar_sfr, eg_ad_sfr, eg_aj_sfr, eg_nx_sfr, eg_ns_sfr, eg_cl_sfd, eg_fi_sfd, eg_fr_sfd, eg_fd_sfd, eg_al_sfd, eg_ai_sfd, eg_ar_sfd, eg_ad_sfd, eg_aj_sfd, eg_nx_sfd, eg_ns_sfd, eg_cl_sai, eg_fi_sai, eg_fr_sai, eg_fd_sai, eg_al_sai, eg_ai_sai, eg_ar_sai, eg_ad_sai, eg_aj_sai, eg_nx_sai, eg_ns_sai, eg_cl_sar, eg_fi_sar, eg_fr_sar, eg_fd_sar, eg_al_sar, eg_ai_sar, eg_ar_sar, eg_ad_sar, eg_aj_sar, eg_nx_sar, eg_ns_sar, eg_cl_sad, eg_fi_sad, eg_fr_sad, eg_fd_sad, eg_al_sad, eg_ai_sad, eg_ar_sad, eg_ad_sad, eg_aj_sad, eg_nx_sad, eg_ns_sad, eg_cl_saj, eg_fi_saj, eg_fr_saj, eg_fd_saj, eg_al_saj, eg_ai_saj, eg_ar_saj, eg_ad_saj, eg_aj_saj, eg_nx_saj, eg_ns_saj, eg_cl_new, eg_fi_new, eg_fr_new, eg_fd_new, eg_al_new, eg_ai_new, eg_ar_new, eg_ad_new, eg_aj_new, eg_nx_new, eg_ns_new, eg_cl_newa, eg_fi_newa, eg_fr_newa, eg_fd_newa, eg_al_newa, eg_ai_newa, eg_ar_newa, eg_ad_newa, eg_aj_newa, eg_nx_newa, eg_ns_newa, eg_cl_bump, eg_fi_bump, eg_fr_bump, eg_fd_bump, eg_al_bump, eg_ai_bump, eg_ar_bump, eg_ad_bump, eg_aj_bump, eg_nx_bump, eg_ns_bump, Nat.reduceEqDiff, false_and, if_false, true_and, inj m n hm hn, inj m p hm hpl, ha, hs, Option.map_some, Option.map_none, not_true_eq_false, false_implies, true_implies, and_true, true_and, reduceCtorEq, not_false_eq_true, Option.some.injEq, inj m a hm hal, eq_comm (a := a)] <;> exact tr_swap (fun z => han (by rw [z]))) (fun m hm => by simp only [eg_cl_sfi, eg_fi_sfi, eg_fr_sfi, eg_fd_sfi, eg_al_sfi, eg_ai_sfi, eg_ar_sfi, eg_ad_sfi, eg_aj_sfi, eg_nx_sfi, eg_ns_sfi, eg_cl_sfr, eg_fi_sfr, eg_fr_sfr, eg_fd_sfr, eg_al_sfr, eg_ai_sfr, eg_ar_sfr, eg_ad_sfr, eg_aj_sfr, eg_nx_sfr, eg_ns_sfr, eg_cl_sfd, eg_fi_sfd, eg_fr_sfd, eg_fd_sfd, eg_al_sfd, eg_ai_sfd, eg_ar_sfd, eg_ad_sfd, eg_aj_sfd, eg_nx_sfd, eg_ns_sfd, eg_cl_sai, eg_fi_sai, eg_fr_sai, eg_fd_sai, eg_al_sai, eg_ai_sai, eg_ar_sai, eg_ad_sai, eg_aj_sai, eg_nx_sai, eg_ns_sai, eg_cl_sar, eg_fi_sar, eg_fr_sar, eg_fd_sar, eg_al_sar, eg_ai_sar, eg_ar_sar, eg_ad_sar, eg_aj_sar, eg_nx_sar, eg_ns_sar, eg_cl_sad, eg_fi_sad, eg_fr_sad, eg_fd_sad, eg_al_sad, eg_ai_sad, eg_ar_sad, eg_ad_sad, eg_aj_sad, eg_nx_sad, eg_ns_sad, eg_cl_saj, eg_fi_saj, eg_fr_saj, eg_fd_saj, eg_al_saj, eg_ai_saj, eg_ar_saj, eg_ad_saj, eg_aj_saj, eg_nx_saj, eg_ns_saj, eg_cl_new, eg_fi_new, eg_fr_new, eg_fd_new, eg_al_new, eg_ai_new, eg_ar_new, eg_ad_new, eg_aj_new, eg_nx_new, eg_ns_new, eg_cl_newa, eg_fi_newa, eg_fr_newa, eg_fd_newa, eg_al_newa, eg_ai_newa, eg_ar_newa, eg_ad_newa, eg_aj_newa, eg_nx_newa, eg_ns_newa, eg_cl_bump, eg_fi_bump, eg_fr_bump, eg_fd_bump, eg_al_bump, eg_ai_bump, eg_ar_bump, eg_ad_bump, eg_aj_bump, eg_nx_bump, eg_ns_bump, Nat.reduceEqDiff, false_and, if_false, true_and, inj m n hm hn, inj m p hm hpl, ha, hs, Option.map_some, Option.map_none, not_true_eq_false, false_implies, true_implies, and_true, true_and, reduceCtorEq, not_false_eq_true, Option.some.injEq, inj m a hm hal, eq_comm (a := a)] <;> exact tr_swap (fun z => han (by rw [z]))) (fun m hm => by simp only [eg_cl_sfi, eg_fi_sfi, eg_fr_sfi, eg_fd_sfi, eg_al_sfi, eg_ai_sfi, eg_ar_sfi, eg_ad_sfi, eg_aj_sfi, eg_nx_sfi, eg_ns_sfi, eg_cl_sfr, eg_fi_sfr, eg_fr_sfr, eg_fd_sfr, eg_al_sfr, eg_ai_sfr, eg_ar_sfr, eg_ad_sfr, eg_aj_sfr, eg_nx_sfr, eg_ns_sfr, eg_cl_sfd, eg_fi_sfd, eg_fr_sfd, eg_fd_sfd, eg_al_sfd, eg_ai_sfd, eg_ar_sfd, eg_ad_sfd, eg_aj_sfd, eg_nx_sfd, eg_ns_sfd, eg_cl_sai, eg_fi_sai, eg_fr_sai, eg_fd_sai, eg_al_sai, eg_ai_sai, eg_ar_sai, eg_ad_sai, eg_aj_sai, eg_nx_sai, eg_ns_sai, eg_cl_sar, eg_fi_sar, eg_fr_sar, eg_fd_sar, eg_al_sar, eg_ai_sar, eg_ar_sar, eg_ad_sar, eg_aj_sar, eg_nx_sar, eg_ns_sar, eg_cl_sad, eg_fi_sad, eg_fr_sad, eg_fd_sad, eg_al_sad, eg_ai_sad, eg_ar_sad, eg_ad_sad, eg_aj_sad, eg_nx_sad, eg_ns_sad, eg_cl_saj, eg_fi_saj, eg_fr_saj, eg_fd_saj, eg_al_saj, eg_ai_saj, eg_ar_saj, eg_ad_saj, eg_aj_saj, eg_nx_saj, eg_ns_saj, eg_cl_new, eg_fi_new, eg_fr_new, eg_fd_new, eg_al_new, eg_ai_new, eg_ar_new, eg_ad_new, eg_aj_new, eg_nx_new, eg_ns_new, eg_cl_newa, eg_fi_newa, eg_fr_newa, eg_fd_newa, eg_al_newa, eg_ai_newa, eg_ar_newa, eg_ad_newa, eg_aj_newa, eg_nx_newa, eg_ns_newa, eg_cl_bump, eg_fi_bump, eg_fr_bump, eg_fd_bump, eg_al_bump, eg_ai_bump, eg_ar_bump, eg_ad_bump, eg_aj_bump, eg_nx_bump, eg_ns_bump, Nat.reduceEqDiff, false_and, if_false, true_and, inj m n hm hn, inj m p hm hpl, ha, hs, Option.map_some, Option.map_none, not_true_eq_false, false_implies, true_implies, and_true, true_and, reduceCtorEq, not_false_eq_true, Option.some.injEq, inj m a hm hal, eq_comm (a := a)] <;> exact tr_swap (fun z => han (by rw [z]))) (fun m hm => by simp only [eg_cl_sfi, eg_fi_sfi, eg_fr_sfi, eg_fd_sfi, eg_al_sfi, eg_ai_sfi, eg_ar_sfi, eg_ad_sfi, eg_aj_sfi, eg_nx_sfi, eg_ns_sfi, eg_cl_sfr, eg_fi_sfr, eg_fr_sfr, eg_fd_sfr, eg_al_sfr, eg_ai_sfr, eg_ar_sfr, eg_ad_sfr, eg_aj_sfr, eg_nx_sfr, eg_ns_sfr, eg_cl_sfd, eg_fi_sfd, eg_fr_sfd, eg_fd_sfd, eg_al_sfd, eg_ai_sfd, eg_ar_sfd, eg_ad_sfd, eg_aj_sfd, eg_nx_sfd, eg_ns_sfd, eg_cl_sai, eg_fi_sai, eg_fr_sai, eg_fd_sai, eg_al_sai, eg_ai_sai, eg_ar_sai, eg_ad_sai, eg_aj_sai, eg_nx_sai, eg_ns_sai, eg_cl_sar, eg_fi_sar, eg_fr_sar, eg_fd_sar, eg_al_sar, eg_ai_sar, eg_ar_sar, eg_ad_sar, eg_aj_sar, eg_nx_sar, eg_ns_sar, eg_cl_sad, eg_fi_sad, eg_fr_sad, eg_fd_sad, eg_al_sad, eg_ai_sad, eg_ar_sad, eg_ad_sad, eg_aj_sad, eg_nx_sad, eg_ns_sad, eg_cl_saj, eg_fi_saj, eg_fr_saj, eg_fd_saj, eg_al_saj, eg_ai_saj, eg_ar_saj, eg_ad_saj, eg_aj_saj, eg_nx_saj, eg_ns_saj, eg_cl_new, eg_fi_new, eg_fr_new, eg_fd_new, eg_al_new, eg_ai_new, eg_ar_new, eg_ad_new, eg_aj_new, eg_nx_new, eg_ns_new, eg_cl_newa, eg_fi_newa, eg_fr_newa, eg_fd_newa, eg_al_newa, eg_ai_newa, eg_ar_newa, eg_ad_newa, eg_aj_newa, eg_nx_newa, eg_ns_newa, eg_cl_bump, eg_fi_bump, eg_fr_bump, eg_fd_bump, eg_al_bump, eg_ai_bump, eg_ar_bump, eg_ad_bump, eg_aj_bump, eg_nx_bump, eg_ns_bump, Nat.reduceEqDiff, false_and, if_false, true_and, inj m n hm hn, inj m p hm hpl, ha, hs, Option.map_some, Option.map_none, not_true_eq_false, false_implies, true_implies, and_true, true_and, reduceCtorEq, not_false_eq_true, Option.some.injEq, inj m a hm hal, eq_comm (a := a)] <;> exact tr_swap (fun z => han (by rw [z]))), f5 _ (((((tr_frm.put (by decide)).tr (tr_frm.put (by decide))).tr (tr_frm.put (by decide))).tr (tr_frm.put (by decide))).tr (tr_frm.put (by decide)))⟩
  | some b =>
    have hbm : b ∈ suf := List.mem_of_head? hs
    have hbl : b < tr_N T := (hw1.2.2.1 p b hpl (by rw [hc]; exact List.mem_append_right _ hbm)).1
    have hbn : ¬ na n = na b := fun z => hnn (by rw [hR1.2 n b hn hbl z]; exact List.mem_append_right _ hbm)
    have hbn' : ¬ na b = na n := fun z => hbn z.symm
    obtain ⟨hcb, -, -, -, -, -, -, -, hpvb, -⟩ := hR1.1 b hbl
    have hpb : tr_pv (tr_leave T n) b = pre.getLast? := by
      have hpab := (hw1.2.2.1 p b hpl (by rw [hc]; exact List.mem_append_right _ hbm)).2
      unfold tr_pv
      rw [hpab]
      show tr_before (tr_ch (tr_leave T n) p) b = _
      rw [hc]
      exact (tr_B2 (n := n) hnd1 hs).2
    rw [hpb] at hpvb
    cases ha : pre.getLast? with
    | none =>
      rw [ha] at hpvb
      simp only [j_X4_settle_0, j_X4_settle_1, j_X4_settle_4, j_X4_settle_5, j_X4_settle_6, j_X4_settle_9, j_X4_settle_10, j_X4_settle_11, j_X4_settle_14, j_X4_settle_15, j_X4_settle_16, j_X4_settle_19, j_X4_settle_20, j_X4_settle_23, j_X4_settle_26, j_X4_settle_27, j_X4_settle_30, j_X4_settle_33, j_X4_settle_34, j_X4_settle_37, j_X4_settle_40, j_X4_settle_41, j_X4_settle_44, j_X4_settle_45, j_X4_settle_48, j_X4_settle_51, j_X4_settle_52, j_X4_settle_53, j_X4_settle_56, j_X4_settle_57, j_X4_settle_60, j_X4_settle_63, j_X4_settle_64, j_X4_settle_67, j_X4_settle_68, j_X4_settle_71, j_X4_settle_74, j_X4_settle_75, j_X4_settle_76, j_X4_settle_79, en_c2I, en_c2R, en_c2U, en_c2D, Option.some.injEq, exists_eq_left', exists_eq_left, Option.map_some, Option.map_none, not_true_eq_false, false_implies, true_implies, and_true, true_and, reduceCtorEq, not_false_eq_true, Option.toList, List.nil_append, hcn, hcp, hcb, hpvb, eg_cl_sfi, eg_fi_sfi, eg_fr_sfi, eg_fd_sfi, eg_al_sfi, eg_ai_sfi, eg_ar_sfi, eg_ad_sfi, eg_aj_sfi, eg_nx_sfi, eg_ns_sfi, eg_cl_sfr, eg_fi_sfr, eg_fr_sfr, eg_fd_sfr, eg_al_sfr, eg_ai_sfr, eg_ar_sfr, eg_ad_sfr, eg_aj_sfr, eg_nx_sfr, eg_ns_sfr, eg_cl_sfd, eg_fi_sfd, eg_fr_sfd, eg_fd_sfd, eg_al_sfd, eg_ai_sfd, eg_ar_sfd, eg_ad_sfd, eg_aj_sfd, eg_nx_sfd, eg_ns_sfd, eg_cl_sai, eg_fi_sai, eg_fr_sai, eg_fd_sai, eg_al_sai, eg_ai_sai, eg_ar_sai, eg_ad_sai, eg_aj_sai, eg_nx_sai, eg_ns_sai, eg_cl_sar, eg_fi_sar, eg_fr_sar, eg_fd_sar, eg_al_sar, eg_ai_sar, eg_ar_sar, eg_ad_sar, eg_aj_sar, eg_nx_sar, eg_ns_sar, eg_cl_sad, eg_fi_sad, eg_fr_sad, eg_fd_sad, eg_al_sad, eg_ai_sad, eg_ar_sad, eg_ad_sad, eg_aj_sad, eg_nx_sad, eg_ns_sad, eg_cl_saj, eg_fi_saj, eg_fr_saj, eg_fd_saj, eg_al_saj, eg_ai_saj, eg_ar_saj, eg_ad_saj, eg_aj_saj, eg_nx_saj, eg_ns_saj, eg_cl_new, eg_fi_new, eg_fr_new, eg_fd_new, eg_al_new, eg_ai_new, eg_ar_new, eg_ad_new, eg_aj_new, eg_nx_new, eg_ns_new, eg_cl_newa, eg_fi_newa, eg_fr_newa, eg_fd_newa, eg_al_newa, eg_ai_newa, eg_ar_newa, eg_ad_newa, eg_aj_newa, eg_nx_newa, eg_ns_newa, eg_cl_bump, eg_fi_bump, eg_fr_bump, eg_fd_bump, eg_al_bump, eg_ai_bump, eg_ar_bump, eg_ad_bump, eg_aj_bump, eg_nx_bump, eg_ns_bump, hnp, hnp', hbn, hbn', Nat.reduceEqDiff, false_and, and_false, if_false, and_self, if_true]
      exact ⟨tr_R_ins hw hR1 hn hpl hc hi (((((tr_frm.put (by decide)).tr (tr_frm.put (by decide))).tr (tr_frm.put (by decide))).tr (tr_frm.put (by decide))).tr (tr_frm.put (by decide))) (fun m hm => by simp only [eg_cl_sfi, eg_fi_sfi, eg_fr_sfi, eg_fd_sfi, eg_al_sfi, eg_ai_sfi, eg_ar_sfi, eg_ad_sfi, eg_aj_sfi, eg_nx_sfi, eg_ns_sfi, eg_cl_sfr, eg_fi_sfr, eg_fr_sfr, eg_fd_sfr, eg_al_sfr, eg_ai_sfr, eg_ar_sfr, eg_ad_sfr, eg_aj_sfr, eg_nx_sfr, eg_ns_sfr, eg_cl_sfd, eg_fi_sfd, eg_fr_sfd, eg_fd_sfd, eg_al_sfd, eg_ai_sfd, eg_ar_sfd, eg_ad_sfd, eg_aj_sfd, eg_nx_sfd, eg_ns_sfd, eg_cl_sai, eg_fi_sai, eg_fr_sai, eg_fd_sai, eg_al_sai, eg_ai_sai, eg_ar_sai, eg_ad_sai, eg_aj_sai, eg_nx_sai, eg_ns_sai, eg_cl_sar, eg_fi_sar, eg_fr_sar, eg_fd_sar, eg_al_sar, eg_ai_sar, eg_ar_sar, eg_ad_sar, eg_aj_sar, eg_nx_sar, eg_ns_sar, eg_cl_sad, eg_fi_sad, eg_fr_sad, eg_fd_sad, eg_al_sad, eg_ai_sad, eg_ar_sad, eg_ad_sad, eg_aj_sad, eg_nx_sad, eg_ns_sad, eg_cl_saj, eg_fi_saj, eg_fr_saj, eg_fd_saj, eg_al_saj, eg_ai_saj, eg_ar_saj, eg_ad_saj, eg_aj_saj, eg_nx_saj, eg_ns_saj, eg_cl_new, eg_fi_new, eg_fr_new, eg_fd_new, eg_al_new, eg_ai_new, eg_ar_new, eg_ad_new, eg_aj_new, eg_nx_new, eg_ns_new, eg_cl_newa, eg_fi_newa, eg_fr_newa, eg_fd_newa, eg_al_newa, eg_ai_newa, eg_ar_newa, eg_ad_newa, eg_aj_newa, eg_nx_newa, eg_ns_newa, eg_cl_bump, eg_fi_bump, eg_fr_bump, eg_fd_bump, eg_al_bump, eg_ai_bump, eg_ar_bump, eg_ad_bump, eg_aj_bump, eg_nx_bump, eg_ns_bump, Nat.reduceEqDiff, false_and, if_false, true_and, inj m n hm hn, inj m p hm hpl, ha, hs, Option.map_some, Option.map_none, not_true_eq_false, false_implies, true_implies, and_true, true_and, reduceCtorEq, not_false_eq_true, Option.some.injEq, inj m b hm hbl, eq_comm (a := b)] <;> exact tr_swap (fun z => hbn (by rw [z]))) (fun m hm => by simp only [eg_cl_sfi, eg_fi_sfi, eg_fr_sfi, eg_fd_sfi, eg_al_sfi, eg_ai_sfi, eg_ar_sfi, eg_ad_sfi, eg_aj_sfi, eg_nx_sfi, eg_ns_sfi, eg_cl_sfr, eg_fi_sfr, eg_fr_sfr, eg_fd_sfr, eg_al_sfr, eg_ai_sfr, eg_ar_sfr, eg_ad_sfr, eg_aj_sfr, eg_nx_sfr, eg_ns_sfr, eg_cl_sfd, eg_fi_sfd, eg_fr_sfd, eg_fd_sfd, eg_al_sfd, eg_ai_sfd, eg_ar_sfd, eg_ad_sfd, eg_aj_sfd, eg_nx_sfd, eg_ns_sfd, eg_cl_sai, eg_fi_sai, eg_fr_sai, eg_fd_sai, eg_al_sai, eg_ai_sai, eg_ar_sai, eg_ad_sai, eg_aj_sai, eg_nx_sai, eg_ns_sai, eg_cl_sar, eg_fi_sar, eg_fr_sar, eg_fd_sar, eg_al_sar, eg_ai_sar, eg_ar_sar, eg_ad_sar, eg_aj_sar, eg_nx_sar, eg_ns_sar, eg_cl_sad, eg_fi_sad, eg_fr_sad, eg_fd_sad, eg_al_sad, eg_ai_sad, eg_ar_sad, eg_ad_sad, eg_aj_sad, eg_nx_sad, eg_ns_sad, eg_cl_saj, eg_fi_saj, eg_fr_saj, eg_fd_saj, eg_al_saj, eg_ai_saj, eg_ar_saj, eg_ad_saj, eg_aj_saj, eg_nx_saj, eg_ns_saj, eg_cl_new, eg_fi_new, eg_fr_new, eg_fd_new, eg_al_new, eg_ai_new, eg_ar_new, eg_ad_new, eg_aj_new, eg_nx_new, eg_ns_new, eg_cl_newa, eg_fi_newa, eg_fr_newa, eg_fd_newa, eg_al_newa, eg_ai_newa, eg_ar_newa, eg_ad_newa, eg_aj_newa, eg_nx_newa, eg_ns_newa, eg_cl_bump, eg_fi_bump, eg_fr_bump, eg_fd_bump, eg_al_bump, eg_ai_bump, eg_ar_bump, eg_ad_bump, eg_aj_bump, eg_nx_bump, eg_ns_bump, Nat.reduceEqDiff, false_and, if_false, true_and, inj m n hm hn, inj m p hm hpl, ha, hs, Option.map_some, Option.map_none, not_true_eq_false, false_implies, true_implies, and_true, true_and, reduceCtorEq, not_false_eq_true, Option.some.injEq, inj m b hm hbl, eq_comm (a := b)] <;> exact tr_swap (fun z => hbn (by rw [z]))) (fun m hm => by simp only [eg_cl_sfi, eg_fi_sfi, eg_fr_sfi, eg_fd_sfi, eg_al_sfi, eg_ai_sfi, eg_ar_sfi, eg_ad_sfi, eg_aj_sfi, eg_nx_sfi, eg_ns_sfi, eg_cl_sfr, eg_fi_sfr, eg_fr_sfr, eg_fd_sfr, eg_al_sfr, eg_ai_sfr, eg_ar_sfr, eg_ad_sfr, eg_aj_sfr, eg_nx_sfr, eg_ns_sfr, eg_cl_sfd, eg_fi_sfd, eg_fr_sfd, eg_fd_sfd, eg_al_sfd, eg_ai_sfd, eg_ar_sfd, eg_ad_sfd, eg_aj_sfd, eg_nx_sfd, eg_ns_sfd, eg_cl_sai, eg_fi_sai, eg_fr_sai, eg_fd_sai, eg_al_sai, eg_ai_sai, eg_ar_sai, eg_ad_sai, eg_aj_sai, eg_nx_sai, eg_ns_sai, eg_cl_sar, eg_fi_sar, eg_fr_sar, eg_fd_sar, eg_al_sar, eg_ai_sar, eg_ar_sar, eg_ad_sar, eg_aj_sar, eg_nx_sar, eg_ns_sar, eg_cl_sad, eg_fi_sad, eg_fr_sad, eg_fd_sad, eg_al_sad, eg_ai_sad, eg_ar_sad, eg_ad_sad, eg_aj_sad, eg_nx_sad, eg_ns_sad, eg_cl_saj, eg_fi_saj, eg_fr_saj, eg_fd_saj, eg_al_saj, eg_ai_saj, eg_ar_saj, eg_ad_saj, eg_aj_saj, eg_nx_saj, eg_ns_saj, eg_cl_new, eg_fi_new, eg_fr_new, eg_fd_new, eg_al_new, eg_ai_new, eg_ar_new, eg_ad_new, eg_aj_new, eg_nx_new, eg_ns_new, eg_cl_newa, eg_fi_newa, eg_fr_newa, eg_fd_newa, eg_al_newa, eg_ai_newa, eg_ar_newa, eg_ad_newa, eg_aj_newa, eg_nx_newa, eg_ns_newa, eg_cl_bump, eg_fi_bump, eg_fr_bump, eg_fd_bump, eg_al_bump, eg_ai_bump, eg_ar_bump, eg_ad_bump, eg_aj_bump, eg_nx_bump, eg_ns_bump, Nat.reduceEqDiff, false_and, if_false, true_and, inj m n hm hn, inj m p hm hpl, ha, hs, Option.map_some, Option.map_none, not_true_eq_false, false_implies, true_implies, and_true, true_and, reduceCtorEq, not_false_eq_true, Option.some.injEq, inj m b hm hbl, eq_comm (a := b)] <;> exact tr_swap (fun z => hbn (by rw [z]))) (fun m hm => by simp only [eg_cl_sfi, eg_fi_sfi, eg_fr_sfi, eg_fd_sfi, eg_al_sfi, eg_ai_sfi, eg_ar_sfi, eg_ad_sfi, eg_aj_sfi, eg_nx_sfi, eg_ns_sfi, eg_cl_sfr, eg_fi_sfr, eg_fr_sfr, eg_fd_sfr, eg_al_sfr, eg_ai_sfr, eg_ar_sfr, eg_ad_sfr, eg_aj_sfr, eg_nx_sfr, eg_ns_sfr, eg_cl_sfd, eg_fi_sfd, eg_fr_sfd, eg_fd_sfd, eg_al_sfd, eg_ai_sfd, eg_ar_sfd, eg_ad_sfd, eg_aj_sfd, eg_nx_sfd, eg_ns_sfd, eg_cl_sai, eg_fi_sai, eg_fr_sai, eg_fd_sai, eg_al_sai, eg_ai_sai, eg_ar_sai, eg_ad_sai, eg_aj_sai, eg_nx_sai, eg_ns_sai, eg_cl_sar, eg_fi_sar, eg_fr_sar, eg_fd_sar, eg_al_sar, eg_ai_sar, eg_ar_sar, eg_ad_sar, eg_aj_sar, eg_nx_sar, eg_ns_sar, eg_cl_sad, eg_fi_sad, eg_fr_sad, eg_fd_sad, eg_al_sad, eg_ai_sad, eg_ar_sad, eg_ad_sad, eg_aj_sad, eg_nx_sad, eg_ns_sad, eg_cl_saj, eg_fi_saj, eg_fr_saj, eg_fd_saj, eg_al_saj, eg_ai_saj, eg_ar_saj, eg_ad_saj, eg_aj_saj, eg_nx_saj, eg_ns_saj, eg_cl_new, eg_fi_new, eg_fr_new, eg_fd_new, eg_al_new, eg_ai_new, eg_ar_new, eg_ad_new, eg_aj_new, eg_nx_new, eg_ns_new, eg_cl_newa, eg_fi_newa, eg_fr_newa, eg_fd_newa, eg_al_newa, eg_ai_newa, eg_ar_newa, eg_ad_newa, eg_aj_newa, eg_nx_newa, eg_ns_newa, eg_cl_bump, eg_fi_bump, eg_fr_bump, eg_fd_bump, eg_al_bump, eg_ai_bump, eg_ar_bump, eg_ad_bump, eg_aj_bump, eg_nx_bump, eg_ns_bump, Nat.reduceEqDiff, false_and, if_false, true_and, inj m n hm hn, inj m p hm hpl, ha, hs, Option.map_some, Option.map_none, not_true_eq_false, false_implies, true_implies, and_true, true_and, reduceCtorEq, not_false_eq_true, Option.some.injEq, inj m b hm hbl, eq_comm (a := b)] <;> exact tr_swap (fun z => hbn (by rw [z]))) (fun m hm => by simp only [eg_cl_sfi, eg_fi_sfi, eg_fr_sfi, eg_fd_sfi, eg_al_sfi, eg_ai_sfi, eg_ar_sfi, eg_ad_sfi, eg_aj_sfi, eg_nx_sfi, eg_ns_sfi, eg_cl_sfr, eg_fi_sfr, eg_fr_sfr, eg_fd_sfr, eg_al_sfr, eg_ai_sfr, eg_ar_sfr, eg_ad_sfr, eg_aj_sfr, eg_nx_sfr, eg_ns_sfr, eg_cl_sfd, eg_fi_sfd, eg_fr_sfd, eg_fd_sfd, eg_al_sfd, eg_ai_sfd, eg_ar_sfd, eg_ad_sfd, eg_aj_sfd, eg_nx_sfd, eg_ns_sfd, eg_cl_sai, eg_fi_sai, eg_fr_sai, eg_fd_sai, eg_al_sai, eg_ai_sai, eg_ar_sai, eg_ad_sai, eg_aj_sai, eg_nx_sai, eg_ns_sai, eg_cl_sar, eg_fi_sar, eg_fr_sar, eg_fd_sar, eg_al_sar, eg_ai_sar, eg_ar_sar, eg_ad_sar, eg_aj_sar, eg_nx_sar, eg_ns_sar, eg_cl_sad, eg_fi_sad, eg_fr_sad, eg_fd_sad, eg_al_sad, eg_ai_sad, eg_ar_sad, eg_ad_sad, eg_aj_sad, eg_nx_sad, eg_ns_sad, eg_cl_saj, eg_fi_saj, eg_fr_saj, eg_fd_saj, eg_al_saj, eg_ai_saj, eg_ar_saj, eg_ad_saj, eg_aj_saj, eg_nx_saj, eg_ns_saj, eg_cl_new, eg_fi_new, eg_fr_new, eg_fd_new, eg_al_new, eg_ai_new, eg_ar_new, eg_ad_new, eg_aj_new, eg_nx_new, eg_ns_new, eg_cl_newa, eg_fi_newa, eg_fr_newa, eg_fd_newa, eg_al_newa, eg_ai_newa, eg_ar_newa, eg_ad_newa, eg_aj_newa, eg_nx_newa, eg_ns_newa, eg_cl_bump, eg_fi_bump, eg_fr_bump, eg_fd_bump, eg_al_bump, eg_ai_bump, eg_ar_bump, eg_ad_bump, eg_aj_bump, eg_nx_bump, eg_ns_bump, Nat.reduceEqDiff, false_and, if_false, true_and, inj m n hm hn, inj m p hm hpl, ha, hs, Option.map_some, Option.map_none, not_true_eq_false, false_implies, true_implies, and_true, true_and, reduceCtorEq, not_false_eq_true, Option.some.injEq, inj m b hm hbl, eq_comm (a := b)] <;> exact tr_swap (fun z => hbn (by rw [z]))), f5 _ (((((tr_frm.put (by decide)).tr (tr_frm.put (by decide))).tr (tr_frm.put (by decide))).tr (tr_frm.put (by decide))).tr (tr_frm.put (by decide)))⟩
    | some a =>
      rw [ha] at hpvb
      obtain ⟨hal, han, hca⟩ := prebit a ha
      simp only [j_X4_settle_0, j_X4_settle_1, j_X4_settle_4, j_X4_settle_5, j_X4_settle_6, j_X4_settle_9, j_X4_settle_10, j_X4_settle_11, j_X4_settle_14, j_X4_settle_15, j_X4_settle_16, j_X4_settle_19, j_X4_settle_20, j_X4_settle_23, j_X4_settle_26, j_X4_settle_27, j_X4_settle_30, j_X4_settle_33, j_X4_settle_34, j_X4_settle_37, j_X4_settle_40, j_X4_settle_41, j_X4_settle_44, j_X4_settle_45, j_X4_settle_48, j_X4_settle_51, j_X4_settle_52, j_X4_settle_53, j_X4_settle_56, j_X4_settle_57, j_X4_settle_60, j_X4_settle_63, j_X4_settle_64, j_X4_settle_67, j_X4_settle_68, j_X4_settle_71, j_X4_settle_74, j_X4_settle_75, j_X4_settle_76, j_X4_settle_79, en_c2I, en_c2R, en_c2U, en_c2D, Option.some.injEq, exists_eq_left', exists_eq_left, Option.map_some, Option.map_none, not_true_eq_false, false_implies, true_implies, and_true, true_and, reduceCtorEq, not_false_eq_true, Option.toList, List.nil_append, hcn, hcp, hcb, hca, han, hpvb, eg_cl_sfi, eg_fi_sfi, eg_fr_sfi, eg_fd_sfi, eg_al_sfi, eg_ai_sfi, eg_ar_sfi, eg_ad_sfi, eg_aj_sfi, eg_nx_sfi, eg_ns_sfi, eg_cl_sfr, eg_fi_sfr, eg_fr_sfr, eg_fd_sfr, eg_al_sfr, eg_ai_sfr, eg_ar_sfr, eg_ad_sfr, eg_aj_sfr, eg_nx_sfr, eg_ns_sfr, eg_cl_sfd, eg_fi_sfd, eg_fr_sfd, eg_fd_sfd, eg_al_sfd, eg_ai_sfd, eg_ar_sfd, eg_ad_sfd, eg_aj_sfd, eg_nx_sfd, eg_ns_sfd, eg_cl_sai, eg_fi_sai, eg_fr_sai, eg_fd_sai, eg_al_sai, eg_ai_sai, eg_ar_sai, eg_ad_sai, eg_aj_sai, eg_nx_sai, eg_ns_sai, eg_cl_sar, eg_fi_sar, eg_fr_sar, eg_fd_sar, eg_al_sar, eg_ai_sar, eg_ar_sar, eg_ad_sar, eg_aj_sar, eg_nx_sar, eg_ns_sar, eg_cl_sad, eg_fi_sad, eg_fr_sad, eg_fd_sad, eg_al_sad, eg_ai_sad, eg_ar_sad, eg_ad_sad, eg_aj_sad, eg_nx_sad, eg_ns_sad, eg_cl_saj, eg_fi_saj, eg_fr_saj, eg_fd_saj, eg_al_saj, eg_ai_saj, eg_ar_saj, eg_ad_saj, eg_aj_saj, eg_nx_saj, eg_ns_saj, eg_cl_new, eg_fi_new, eg_fr_new, eg_fd_new, eg_al_new, eg_ai_new, eg_ar_new, eg_ad_new, eg_aj_new, eg_nx_new, eg_ns_new, eg_cl_newa, eg_fi_newa, eg_fr_newa, eg_fd_newa, eg_al_newa, eg_ai_newa, eg_ar_newa, eg_ad_newa, eg_aj_newa, eg_nx_newa, eg_ns_newa, eg_cl_bump, eg_fi_bump, eg_fr_bump, eg_fd_bump, eg_al_bump, eg_ai_bump, eg_ar_bump, eg_ad_bump, eg_aj_bump, eg_nx_bump, eg_ns_bump, hnp, hnp', hbn, hbn', Nat.reduceEqDiff, false_and, and_false, if_false, and_self, if_true]
      exact ⟨tr_R_ins hw hR1 hn hpl hc hi (((((tr_frm.put (by decide)).tr (tr_frm.put (by decide))).tr (tr_frm.put (by decide))).tr (tr_frm.put (by decide))).tr (tr_frm.put (by decide))) (fun m hm => by simp only [eg_cl_sfi, eg_fi_sfi, eg_fr_sfi, eg_fd_sfi, eg_al_sfi, eg_ai_sfi, eg_ar_sfi, eg_ad_sfi, eg_aj_sfi, eg_nx_sfi, eg_ns_sfi, eg_cl_sfr, eg_fi_sfr, eg_fr_sfr, eg_fd_sfr, eg_al_sfr, eg_ai_sfr, eg_ar_sfr, eg_ad_sfr, eg_aj_sfr, eg_nx_sfr, eg_ns_sfr, eg_cl_sfd, eg_fi_sfd, eg_fr_sfd, eg_fd_sfd, eg_al_sfd, eg_ai_sfd, eg_ar_sfd, eg_ad_sfd, eg_aj_sfd, eg_nx_sfd, eg_ns_sfd, eg_cl_sai, eg_fi_sai, eg_fr_sai, eg_fd_sai, eg_al_sai, eg_ai_sai, eg_ar_sai, eg_ad_sai, eg_aj_sai, eg_nx_sai, eg_ns_sai, eg_cl_sar, eg_fi_sar, eg_fr_sar, eg_fd_sar, eg_al_sar, eg_ai_sar, eg_ar_sar, eg_ad_sar, eg_aj_sar, eg_nx_sar, eg_ns_sar, eg_cl_sad, eg_fi_sad, eg_fr_sad, eg_fd_sad, eg_al_sad, eg_ai_sad, eg_ar_sad, eg_ad_sad, eg_aj_sad, eg_nx_sad, eg_ns_sad, eg_cl_saj, eg_fi_saj, eg_fr_saj, eg_fd_saj, eg_al_saj, eg_ai_saj, eg_ar_saj, eg_ad_saj, eg_aj_saj, eg_nx_saj, eg_ns_saj, eg_cl_new, eg_fi_new, eg_fr_new, eg_fd_new, eg_al_new, eg_ai_new, eg_ar_new, eg_ad_new, eg_aj_new, eg_nx_new, eg_ns_new, eg_cl_newa, eg_fi_newa, eg_fr_newa, eg_fd_newa, eg_al_newa, eg_ai_newa, eg_ar_newa, eg_ad_newa, eg_aj_newa, eg_nx_newa, eg_ns_newa, eg_cl_bump, eg_fi_bump, eg_fr_bump, eg_fd_bump, eg_al_bump, eg_ai_bump, eg_ar_bump, eg_ad_bump, eg_aj_bump, eg_nx_bump, eg_ns_bump, Nat.reduceEqDiff, false_and, if_false, true_and, inj m n hm hn, inj m p hm hpl, ha, hs, Option.map_some, Option.map_none, not_true_eq_false, false_implies, true_implies, and_true, true_and, reduceCtorEq, not_false_eq_true, Option.some.injEq, inj m a hm hal, inj m b hm hbl, eq_comm (a := a), eq_comm (a := b)] <;> first | exact tr_swap (fun z => hbn (by rw [z])) | exact tr_swap (fun z => han (by rw [z]))) (fun m hm => by simp only [eg_cl_sfi, eg_fi_sfi, eg_fr_sfi, eg_fd_sfi, eg_al_sfi, eg_ai_sfi, eg_ar_sfi, eg_ad_sfi, eg_aj_sfi, eg_nx_sfi, eg_ns_sfi, eg_cl_sfr, eg_fi_sfr, eg_fr_sfr, eg_fd_sfr, eg_al_sfr, eg_ai_sfr, eg_ar_sfr, eg_ad_sfr, eg_aj_sfr, eg_nx_sfr, eg_ns_sfr, eg_cl_sfd, eg_fi_sfd, eg_fr_sfd, eg_fd_sfd, eg_al_sfd, eg_ai_sfd, eg_ar_sfd, eg_ad_sfd, eg_aj_sfd, eg_nx_sfd, eg_ns_sfd, eg_cl_sai, eg_fi_sai, eg_fr_sai, eg_fd_sai, eg_al_sai, eg_ai_sai, eg_ar_sai, eg_ad_sai, eg_aj_sai, eg_nx_sai, eg_ns_sai, eg_cl_sar, eg_fi_sar, eg_fr_sar, eg_fd_sar, eg_al_sar, eg_ai_sar, eg_ar_sar, eg_ad_sar, eg_aj_sar, eg_nx_sar, eg_ns_sar, eg_cl_sad, eg_fi_sad, eg_fr_sad, eg_fd_sad, eg_al_sad, eg_ai_sad, eg_ar_sad, eg_ad_sad, eg_aj_sad, eg_nx_sad, eg_ns_sad, eg_cl_saj, eg_fi_saj, eg_fr_saj, eg_fd_saj, eg_al_saj, eg_ai_saj, eg_ar_saj, eg_ad_saj, eg_aj_saj, eg_nx_saj, eg_ns_saj, eg_cl_new, eg_fi_new, eg_fr_new, eg_fd_new, eg_al_new, eg_ai_new, eg_ar_new, eg_ad_new, eg_aj_new, eg_nx_new, eg_ns_new, eg_cl_newa, eg_fi_newa, eg_fr_newa, eg_fd_newa, eg_al_newa, eg_ai_newa, eg_ar_newa, eg_ad_newa, eg_aj_newa, eg_nx_newa, eg_ns_newa, eg_cl_bump, eg_fi_bump, eg_fr_bump, eg_fd_bump, eg_al_bump, eg_ai_bump, eg_ar_bump, eg_ad_bump, eg_aj_bump, eg_nx_bump, eg_ns_bump, Nat.reduceEqDiff, false_and, if_false, true_and, inj m n hm hn, inj m p hm hpl, ha, hs, Option.map_some, Option.map_none, not_true_eq_false, false_implies, true_implies, and_true, true_and, reduceCtorEq, not_false_eq_true, Option.some.injEq, inj m a hm hal, inj m b hm hbl, eq_comm (a := a), eq_comm (a := b)] <;> first | exact tr_swap (fun z => hbn (by rw [z])) | exact tr_swap (fun z => han (by rw [z]))) (fun m hm => by simp only [eg_cl_sfi, eg_fi_sfi, eg_fr_sfi, eg_fd_sfi, eg_al_sfi, eg_ai_sfi, eg_ar_sfi, eg_ad_sfi, eg_aj_sfi, eg_nx_sfi, eg_ns_sfi, eg_cl_sfr, eg_fi_sfr, eg_fr_sfr, eg_fd_sfr, eg_al_sfr, eg_ai_sfr, eg_ar_sfr, eg_ad_sfr, eg_aj_sfr, eg_nx_sfr, eg_ns_sfr, eg_cl_sfd, eg_fi_sfd, eg_fr_sfd, eg_fd_sfd, eg_al_sfd, eg_ai_sfd, eg_ar_sfd, eg_ad_sfd, eg_aj_sfd, eg_nx_sfd, eg_ns_sfd, eg_cl_sai, eg_fi_sai, eg_fr_sai, eg_fd_sai, eg_al_sai, eg_ai_sai, eg_ar_sai, eg_ad_sai, eg_aj_sai, eg_nx_sai, eg_ns_sai, eg_cl_sar, eg_fi_sar, eg_fr_sar, eg_fd_sar, eg_al_sar, eg_ai_sar, eg_ar_sar, eg_ad_sar, eg_aj_sar, eg_nx_sar, eg_ns_sar, eg_cl_sad, eg_fi_sad, eg_fr_sad, eg_fd_sad, eg_al_sad, eg_ai_sad, eg_ar_sad, eg_ad_sad, eg_aj_sad, eg_nx_sad, eg_ns_sad, eg_cl_saj, eg_fi_saj, eg_fr_saj, eg_fd_saj, eg_al_saj, eg_ai_saj, eg_ar_saj, eg_ad_saj, eg_aj_saj, eg_nx_saj, eg_ns_saj, eg_cl_new, eg_fi_new, eg_fr_new, eg_fd_new, eg_al_new, eg_ai_new, eg_ar_new, eg_ad_new, eg_aj_new, eg_nx_new, eg_ns_new, eg_cl_newa, eg_fi_newa, eg_fr_newa, eg_fd_newa, eg_al_newa, eg_ai_newa, eg_ar_newa, eg_ad_newa, eg_aj_newa, eg_nx_newa, eg_ns_newa, eg_cl_bump, eg_fi_bump, eg_fr_bump, eg_fd_bump, eg_al_bump, eg_ai_bump, eg_ar_bump, eg_ad_bump, eg_aj_bump, eg_nx_bump, eg_ns_bump, Nat.reduceEqDiff, false_and, if_false, true_and, inj m n hm hn, inj m p hm hpl, ha, hs, Option.map_some, Option.map_none, not_true_eq_false, false_implies, true_implies, and_true, true_and, reduceCtorEq, not_false_eq_true, Option.some.injEq, inj m a hm hal, inj m b hm hbl, eq_comm (a := a), eq_comm (a := b)] <;> first | exact tr_swap (fun z => hbn (by rw [z])) | exact tr_swap (fun z => han (by rw [z]))) (fun m hm => by simp only [eg_cl_sfi, eg_fi_sfi, eg_fr_sfi, eg_fd_sfi, eg_al_sfi, eg_ai_sfi, eg_ar_sfi, eg_ad_sfi, eg_aj_sfi, eg_nx_sfi, eg_ns_sfi, eg_cl_sfr, eg_fi_sfr, eg_fr_sfr, eg_fd_sfr, eg_al_sfr, eg_ai_sfr, eg_ar_sfr, eg_ad_sfr, eg_aj_sfr, eg_nx_sfr, eg_ns_sfr, eg_cl_sfd, eg_fi_sfd, eg_fr_sfd, eg_fd_sfd, eg_al_sfd, eg_ai_sfd, eg_ar_sfd, eg_ad_sfd, eg_aj_sfd, eg_nx_sfd, eg_ns_sfd, eg_cl_sai, eg_fi_sai, eg_fr_sai, eg_fd_sai, eg_al_sai, eg_ai_sai, eg_ar_sai, eg_ad_sai, eg_aj_sai, eg_nx_sai, eg_ns_sai, eg_cl_sar, eg_fi_sar, eg_fr_sar, eg_fd_sar, eg_al_sar, eg_ai_sar, eg_ar_sar, eg_ad_sar, eg_aj_sar, eg_nx_sar, eg_ns_sar, eg_cl_sad, eg_fi_sad, eg_fr_sad, eg_fd_sad, eg_al_sad, eg_ai_sad, eg_ar_sad, eg_ad_sad, eg_aj_sad, eg_nx_sad, eg_ns_sad, eg_cl_saj, eg_fi_saj, eg_fr_saj, eg_fd_saj, eg_al_saj, eg_ai_saj, eg_ar_saj, eg_ad_saj, eg_aj_saj, eg_nx_saj, eg_ns_saj, eg_cl_new, eg_fi_new, eg_fr_new, eg_fd_new, eg_al_new, eg_ai_new, eg_ar_new, eg_ad_new, eg_aj_new, eg_nx_new, eg_ns_new, eg_cl_newa, eg_fi_newa, eg_fr_newa, eg_fd_newa, eg_al_newa, eg_ai_newa, eg_ar_newa, eg_ad_newa, eg_aj_newa, eg_nx_newa, eg_ns_newa, eg_cl_bump, eg_fi_bump, eg_fr_bump, eg_fd_bump, eg_al_bump, eg_ai_bump, eg_ar_bump, eg_ad_bump, eg_aj_bump, eg_nx_bump, eg_ns_bump, Nat.reduceEqDiff, false_and, if_false, true_and, inj m n hm hn, inj m p hm hpl, ha, hs, Option.map_some, Option.map_none, not_true_eq_false, false_implies, true_implies, and_true, true_and, reduceCtorEq, not_false_eq_true, Option.some.injEq, inj m a hm hal, inj m b hm hbl, eq_comm (a := a), eq_comm (a := b)] <;> first | exact tr_swap (fun z => hbn (by rw [z])) | exact tr_swap (fun z => han (by rw [z]))) (fun m hm => by simp only [eg_cl_sfi, eg_fi_sfi, eg_fr_sfi, eg_fd_sfi, eg_al_sfi, eg_ai_sfi, eg_ar_sfi, eg_ad_sfi, eg_aj_sfi, eg_nx_sfi, eg_ns_sfi, eg_cl_sfr, eg_fi_sfr, eg_fr_sfr, eg_fd_sfr, eg_al_sfr, eg_ai_sfr, eg_ar_sfr, eg_ad_sfr, eg_aj_sfr, eg_nx_sfr, eg_ns_sfr, eg_cl_sfd, eg_fi_sfd, eg_fr_sfd, eg_fd_sfd, eg_al_sfd, eg_ai_sfd, eg_ar_sfd, eg_ad_sfd, eg_aj_sfd, eg_nx_sfd, eg_ns_sfd, eg_cl_sai, eg_fi_sai, eg_fr_sai, eg_fd_sai, eg_al_sai, eg_ai_sai, eg_ar_sai, eg_ad_sai, eg_aj_sai, eg_nx_sai, eg_ns_sai, eg_cl_sar, eg_fi_sar, eg_fr_sar, eg_fd_sar, eg_al_sar, eg_ai_sar, eg_ar_sar, eg_ad_sar, eg_aj_sar, eg_nx_sar, eg_ns_sar, eg_cl_sad, eg_fi_sad, eg_fr_sad, eg_fd_sad, eg_al_sad, eg_ai_sad, eg_ar_sad, eg_ad_sad, eg_aj_sad, eg_nx_sad, eg_ns_sad, eg_cl_saj, eg_fi_saj, eg_fr_saj, eg_fd_saj, eg_al_saj, eg_ai_saj, eg_ar_saj, eg_ad_saj, eg_aj_saj, eg_nx_saj, eg_ns_saj, eg_cl_new, eg_fi_new, eg_fr_new, eg_fd_new, eg_al_new, eg_ai_new, eg_ar_new, eg_ad_new, eg_aj_new, eg_nx_new, eg_ns_new, eg_cl_newa, eg_fi_newa, eg_fr_newa, eg_fd_newa, eg_al_newa, eg_ai_newa, eg_ar_newa, eg_ad_newa, eg_aj_newa, eg_nx_newa, eg_ns_newa, eg_cl_bump, eg_fi_bump, eg_fr_bump, eg_fd_bump, eg_al_bump, eg_ai_bump, eg_ar_bump, eg_ad_bump, eg_aj_bump, eg_nx_bump, eg_ns_bump, Nat.reduceEqDiff, false_and, if_false, true_and, inj m n hm hn, inj m p hm hpl, ha, hs, Option.map_some, Option.map_none, not_true_eq_false, false_implies, true_implies, and_true, true_and, reduceCtorEq, not_false_eq_true, Option.some.injEq, inj m a hm hal, inj m b hm hbl, eq_comm (a := a), eq_comm (a := b)] <;> first | exact tr_swap (fun z => hbn (by rw [z])) | exact tr_swap (fun z => han (by rw [z]))), f5 _ (((((tr_frm.put (by decide)).tr (tr_frm.put (by decide))).tr (tr_frm.put (by decide))).tr (tr_frm.put (by decide))).tr (tr_frm.put (by decide)))⟩
theorem jp_X4_settle {G : en_G} : ∀ as σ, C_X4_settle.1 as σ → (en_lc as).length ≤ 3 ∧ en_J (X_X4_settle G (fun r σ' => C_X4_settle.2 as σ r σ')) 0 (en_loc 3 as) [] σ := en_ghJ jg_X4_settle
theorem wl_X4_settle_44 : Jvm.Cond.methodLink RX4 44 yX4_leave ∈ en_W := en_inW (List.mem_of_getElem? (i := 461) (by decide +kernel)) (by decide +kernel)
theorem ok_X4_settle {G : en_G}  : en_Ok G 2 yX4_settle cX4_settle 3 none C_X4_settle :=
  en_met (own := RX4) (fl := en_lk fl4) (nw := en_lk nw4) (aw := en_lk aw4) (dc := en_lk dc4) (ca := en_lk (ca_X4_settle G)) (rt := 0) (ini := false) (by decide +kernel) (Or.inl ⟨rfl, rfl⟩) (fun h => by cases h) rfl (fun q => en_LkF fl4_ok nw4_ok aw4_ok dc4_ok) (by
    intro idx q hq
    have hm := en_lk_mem hq
    simp only [ca_X4_settle, List.mem_cons, Prod.mk.injEq, List.not_mem_nil, or_false] at hm
    rcases hm with ⟨rfl, rfl⟩
    · exact en_clV (r := (RX4, TX4, 12)) 4 0 ok_X4_leave (by decide) (by decide) rfl rfl pr_X4_leave wl_X4_settle_44 wi_X4_leave wx_X4_leave wz_4 wc_X4_leave ⟨by decide +kernel, by decide +kernel, by decide +kernel⟩) jp_X4_settle
