/-! THE REFERENCE AS A MACHINE: event, marks, turned, way, entry, next, until, what it does -/
abbrev sp_F : Type := ev_E × ev_F × Option Nat × Bool × Nat × Nat × Nat × Option (Nat × Nat)
abbrev sp_M : Type := st_A × List sp_F × Bool
def sp_new (A : st_A) (t : Nat) (ty : Int32) (fl : Nat) : sp_F := ((ty, fl, ds_path (sa_T A) t fl), (false, false, false), ds_check (sa_T A) ty fl (ds_path (sa_T A) t fl), true, (ds_path (sa_T A) t fl).length - 1, 0, sa_D A 0 0, none)
def sp_beg (A : st_A) (r : List sp_F) (b : Bool) (t : Nat) (ty : Int32) (fl : Nat) : sp_M := if r.length = 4 then (A, r, b) else ((ds_beg A t ty fl).1, sp_new A t ty fl :: r, b)
def sp_cmd (A : st_A) (E : ev_E) (F : ev_F) (o : Option Nat) (cap : Bool) (k l u li i : Nat) (r : List sp_F) (b : Bool) (c : Nat) (n : Int32) : sp_M :=
  if c = 6 then (su_I A 3 0 (sa_I A 3 0 + 1), (E, F, o, cap, k, l, u, none) :: r, b)
  else if c = 5 then (if 0 ≤ n ∧ n < 8 then sp_beg A ((E, F, o, cap, k, l, u, some (li, i)) :: r) b (sa_D A 1 li) n 3 else (A, (E, F, o, cap, k, l, u, some (li, i)) :: r, b))
  else ((ds_cmd (ds_send 0) E li c n (A, F)).1, (E, (ds_cmd (ds_send 0) E li c n (A, F)).2, o, cap, k, l, u, some (li, i)) :: r, b)
def sp_look (A : st_A) (E : ev_E) (F : ev_F) (o : Option Nat) (cap : Bool) (k l u : Nat) (e : Nat × Nat) (r : List sp_F) (b : Bool) : sp_M :=
  if ds_mine A E e.1 cap l = true ∧ (cap = true ∨ e.1 = e.2 ∨ E.2.1 % 2 = 1) ∧ 0 < sa_D A 0 2 then (ds_pre A l e.1 e.2 cap E.1, (E, F, o, cap, k, l + 1, u, some (l, 0)) :: r, b) else (A, (E, F, o, cap, k, l + 1, u, none) :: r, b)
def sp_go (A : st_A) (E : ev_E) (F : ev_F) (o : Option Nat) (cap : Bool) (k : Nat) (r : List sp_F) (b : Bool) : sp_M :=
  if F.1 = true then (ds_end (A, F) o, r, F.2.2)
  else if cap = true then (if k = 0 then (A, (E, F, o, false, 0, 0, sa_D A 0 0, none) :: r, b) else (A, (E, F, o, true, k - 1, 0, sa_D A 0 0, none) :: r, b))
  else if k + 1 < E.2.2.length then (A, (E, F, o, false, k + 1, 0, sa_D A 0 0, none) :: r, b) else (ds_end (A, F) o, r, F.2.2)
def sp_step : sp_M → sp_M
  | (A, [], b) => (A, [], b)
  | (A, (E, F, o, cap, k, l, u, some (li, i)) :: r, b) => if i = sa_D A 4 (sa_D A 2 li) then (A, (E, F, o, cap, k, l, u, none) :: r, b) else sp_cmd A E F o cap k l u li (i + 1) r b (sa_D A 5 (5 * sa_D A 2 li + i)) (sa_I A 1 (5 * sa_D A 2 li + i))
  | (A, (E, F, o, cap, k, l, u, none) :: r, b) => if l < u ∧ F.2.1 = false then sp_look A E F o cap k l u (E.2.2.getD k (0, 0)) r b else sp_go A E F o cap k r b
def sp_n : Nat → sp_M → sp_M
  | 0, M => M
  | n + 1, M => sp_n n (sp_step M)
def sp_to (M M' : sp_M) : Prop := ∃ n, sp_n n M = M'
theorem sp_n_add : ∀ (i j : Nat) (M : sp_M), sp_n (i + j) M = sp_n j (sp_n i M) := by
  intro i
  induction i with
  | zero => intro j M; rw [Nat.zero_add]; rfl
  | succ i ih => intro j M; rw [show i + 1 + j = (i + j) + 1 by omega]; exact ih j _
theorem sp_to.rf (M : sp_M) : sp_to M M := ⟨0, rfl⟩
theorem sp_to.tr {M M1 M2 : sp_M} (h : sp_to M M1) (k : sp_to M1 M2) : sp_to M M2 := by
  obtain ⟨i, hi⟩ := h
  obtain ⟨j, hj⟩ := k
  exact ⟨i + j, by rw [sp_n_add, hi, hj]⟩
theorem sp_to.st {M M1 M2 : sp_M} (h : sp_step M = M1) (k : sp_to M1 M2) : sp_to M M2 := sp_to.tr ⟨1, h⟩ k
theorem sp_n_end {A : st_A} {b : Bool} : ∀ n, sp_n n (A, [], b) = (A, [], b) := by
  intro n
  induction n with
  | zero => rfl
  | succ n ih => exact ih
theorem ds_cmd_ne {S S' : ev_S} {E : ev_E} {l c : Nat} {n : Int32} {P : ev_P} (h : c ≠ 5) : ds_cmd S E l c n P = ds_cmd S' E l c n P := by
  unfold ds_cmd
  split <;> first | rfl | exact absurd rfl h
/-- sending as the machine does it, e levels left -/
def sp_sb (e : Nat) : Prop := ∀ (A : st_A) (r : List sp_F) (b : Bool) (t : Nat) (ty : Int32) (fl : Nat), st_wf A → t < tr_N (sa_T A) → r.length + e = 4 → ∃ b', sp_to (sp_beg A r b t ty fl) ((ds_send e A t ty fl).1, r, b') ∧ ∀ x, (ds_send e A t ty fl).2 = some x → b' = x
theorem sp_run {e : Nat} (hS : sp_sb e) {E : ev_E} {o : Option Nat} {cap : Bool} {k l u li s : Nat} {r : List sp_F} (hr : r.length + 1 + e = 4) : ∀ (j i : Nat) (A : st_A) (F : ev_F) (b : Bool), st_wf A → li < sa_D A 0 0 → s = sa_D A 2 li → i + j = 5 → i ≤ sa_D A 4 s → ∃ b', sp_to (A, (E, F, o, cap, k, l, u, some (li, i)) :: r, b) ((ds_run (ds_send e) E li s j i (A, F)).1, (E, (ds_run (ds_send e) E li s j i (A, F)).2, o, cap, k, l, u, none) :: r, b') := by
  intro j
  induction j with
  | zero =>
    intro i A F b hw hl hs hi hle
    have h5 := hw.2.2.2.1 s (by rw [hs]; exact (hw.2.2.1 li hl).2.1)
    refine ⟨b, sp_to.st (M1 := (A, (E, F, o, cap, k, l, u, none) :: r, b)) ?_ (sp_to.rf _)⟩
    show (if i = sa_D A 4 (sa_D A 2 li) then _ else _) = _
    rw [← hs, if_pos (by omega)]
  | succ j ih =>
    intro i A F b hw hl hs hi hle
    have h5 := hw.2.2.2.1 s (by rw [hs]; exact (hw.2.2.1 li hl).2.1)
    have hst : sp_step (A, (E, F, o, cap, k, l, u, some (li, i)) :: r, b) = if i = sa_D A 4 s then (A, (E, F, o, cap, k, l, u, none) :: r, b) else sp_cmd A E F o cap k l u li (i + 1) r b (sa_D A 5 (5 * s + i)) (sa_I A 1 (5 * s + i)) := by rw [hs]; rfl
    simp only [ds_run]
    by_cases hlt : i < sa_D A 4 s
    · rw [if_neg (by omega)] at hst
      rw [if_pos hlt]
      by_cases c6 : sa_D A 5 (5 * s + i) = 6
      · rw [if_pos c6]
        refine ⟨b, sp_to.st hst ?_⟩
        unfold sp_cmd
        rw [if_pos c6]
        exact sp_to.rf _
      · rw [if_neg c6]
        unfold sp_cmd at hst
        rw [if_neg c6] at hst
        by_cases c5 : sa_D A 5 (5 * s + i) = 5
        · rw [if_pos c5] at hst
          have hc : ds_cmd (ds_send e) E li (sa_D A 5 (5 * s + i)) (sa_I A 1 (5 * s + i)) (A, F) = if 0 ≤ sa_I A 1 (5 * s + i) ∧ sa_I A 1 (5 * s + i) < 8 then ((ds_send e A (sa_D A 1 li) (sa_I A 1 (5 * s + i)) 3).1, F) else (A, F) := by rw [c5]; rfl
          rw [hc]
          by_cases hn : 0 ≤ sa_I A 1 (5 * s + i) ∧ sa_I A 1 (5 * s + i) < 8
          · rw [if_pos hn] at hst ⊢
            have hat := (hw.2.2.1 li hl).1
            obtain ⟨b1, h1, -⟩ := hS A ((E, F, o, cap, k, l, u, some (li, i + 1)) :: r) b (sa_D A 1 li) (sa_I A 1 (5 * s + i)) 3 hw hat (by rw [List.length_cons]; omega)
            have g := st_good_send e A (sa_D A 1 li) (sa_I A 1 (5 * s + i)) 3 hw hat
            obtain ⟨b2, h2⟩ := ih (i + 1) (ds_send e A (sa_D A 1 li) (sa_I A 1 (5 * s + i)) 3).1 F b1 g.1 (Nat.lt_of_lt_of_le hl g.2.2.2.1) (by rw [(g.2.2.1 li hl).2.1]; exact hs) (by omega) (by rw [g.2.2.2.2.1]; omega)
            exact ⟨b2, sp_to.st hst (h1.tr h2)⟩
          · rw [if_neg hn] at hst ⊢
            obtain ⟨b2, h2⟩ := ih (i + 1) A F b hw hl hs (by omega) (by omega)
            exact ⟨b2, sp_to.st hst h2⟩
        · rw [if_neg c5, ds_cmd_ne (S' := ds_send e) c5] at hst
          have g := st_go_cmd (st_good_send e) (E := E) (c := sa_D A 5 (5 * s + i)) (n := sa_I A 1 (5 * s + i)) (P := (A, F)) hw hl
          obtain ⟨b2, h2⟩ := ih (i + 1) (ds_cmd (ds_send e) E li (sa_D A 5 (5 * s + i)) (sa_I A 1 (5 * s + i)) (A, F)).1 (ds_cmd (ds_send e) E li (sa_D A 5 (5 * s + i)) (sa_I A 1 (5 * s + i)) (A, F)).2 b g.1 (Nat.lt_of_lt_of_le hl g.2.2.2.1) (by rw [(g.2.2.1 li hl).2.1]; exact hs) (by omega) (by rw [g.2.2.2.2.1]; show _ ≤ sa_D A 4 s; omega)
          exact ⟨b2, sp_to.st hst h2⟩
    · rw [if_pos (by omega)] at hst
      rw [if_neg hlt]
      exact ⟨b, sp_to.st hst (sp_to.rf _)⟩
theorem sp_skip {E : ev_E} {F : ev_F} {o : Option Nat} {cap : Bool} {k u : Nat} {r : List sp_F} {A : st_A} {b : Bool} (hn : ¬ (cap = true ∨ (E.2.2.getD k (0, 0)).1 = (E.2.2.getD k (0, 0)).2 ∨ E.2.1 % 2 = 1)) : ∀ (j l : Nat), l + j = u → ∃ l', sp_to (A, (E, F, o, cap, k, l, u, none) :: r, b) (A, (E, F, o, cap, k, l', u, none) :: r, b) ∧ ¬ (l' < u ∧ F.2.1 = false) := by
  intro j
  induction j with
  | zero => intro l hl; exact ⟨l, sp_to.rf _, by omega⟩
  | succ j ih =>
    intro l hl
    by_cases ha : F.2.1 = false
    · obtain ⟨l', h1, h2⟩ := ih (l + 1) (by omega)
      refine ⟨l', sp_to.st ?_ h1, h2⟩
      show (if l < u ∧ F.2.1 = false then _ else _) = _
      rw [if_pos ⟨by omega, ha⟩]
      unfold sp_look
      rw [if_neg (fun z => hn z.2.1)]
    · exact ⟨l, sp_to.rf _, fun z => ha z.2⟩
theorem sp_turn {e : Nat} (hS : sp_sb e) {E : ev_E} {o : Option Nat} {cap : Bool} {k u : Nat} {r : List sp_F} (hr : r.length + 1 + e = 4) (hn : cap = true ∨ (E.2.2.getD k (0, 0)).1 = (E.2.2.getD k (0, 0)).2 ∨ E.2.1 % 2 = 1) : ∀ (j l : Nat) (A : st_A) (F : ev_F) (b : Bool), st_wf A → l + j = u → u ≤ sa_D A 0 0 → ∃ l' b', sp_to (A, (E, F, o, cap, k, l, u, none) :: r, b) ((ds_turn (ds_send e) E (E.2.2.getD k (0, 0)).1 (E.2.2.getD k (0, 0)).2 cap j l (A, F)).1, (E, (ds_turn (ds_send e) E (E.2.2.getD k (0, 0)).1 (E.2.2.getD k (0, 0)).2 cap j l (A, F)).2, o, cap, k, l', u, none) :: r, b') ∧ ¬ (l' < u ∧ (ds_turn (ds_send e) E (E.2.2.getD k (0, 0)).1 (E.2.2.getD k (0, 0)).2 cap j l (A, F)).2.2.1 = false) := by
  intro j
  induction j with
  | zero => intro l A F b hw hl hu; exact ⟨l, b, sp_to.rf _, by omega⟩
  | succ j ih =>
    intro l A F b hw hl hu
    simp only [ds_turn]
    by_cases ha : F.2.1 = true
    · rw [if_pos ha]
      exact ⟨l, b, sp_to.rf _, fun z => by rw [ha] at z; cases z.2⟩
    · rw [if_neg ha]
      have hst : sp_step (A, (E, F, o, cap, k, l, u, none) :: r, b) = sp_look A E F o cap k l u (E.2.2.getD k (0, 0)) r b := by
        show (if l < u ∧ F.2.1 = false then _ else _) = _
        rw [if_pos ⟨by omega, by cases hf : F.2.1 with
          | false => rfl
          | true => exact absurd hf ha⟩]
      unfold sp_look at hst
      by_cases hm : ds_mine A E (E.2.2.getD k (0, 0)).1 cap l = true ∧ 0 < sa_D A 0 2
      · rw [if_pos ⟨hm.1, hn, hm.2⟩] at hst
        rw [if_pos hm]
        have gp := st_go_pre hw hm.2 l (E.2.2.getD k (0, 0)).1 (E.2.2.getD k (0, 0)).2 cap E.1
        have gf := st_go_fire (st_good_send e) (E := E) (l := l) (cur := (E.2.2.getD k (0, 0)).1) (tgt := (E.2.2.getD k (0, 0)).2) (cap := cap) (P := (A, F)) hw hm.2 (by show l < sa_D A 0 0; omega)
        obtain ⟨b1, h1⟩ := sp_run hS hr (E := E) (o := o) (cap := cap) (k := k) (l := l + 1) (u := u) (li := l) (s := sa_D A 2 l) 5 0 (ds_pre A l (E.2.2.getD k (0, 0)).1 (E.2.2.getD k (0, 0)).2 cap E.1) F b gp.1 (Nat.lt_of_lt_of_le (by omega) gp.2.2.2.1) ((gp.2.2.1 l (by omega)).2.1).symm (by omega) (by omega)
        obtain ⟨l', b2, h2, h3⟩ := ih (l + 1) (ds_run (ds_send e) E l (sa_D A 2 l) 5 0 (ds_pre A l (E.2.2.getD k (0, 0)).1 (E.2.2.getD k (0, 0)).2 cap E.1, F)).1 (ds_run (ds_send e) E l (sa_D A 2 l) 5 0 (ds_pre A l (E.2.2.getD k (0, 0)).1 (E.2.2.getD k (0, 0)).2 cap E.1, F)).2 b1 gf.1 (by omega) (Nat.le_trans hu gf.2.2.2.1)
        exact ⟨l', b2, sp_to.st hst (h1.tr h2), h3⟩
      · rw [if_neg (fun z => hm ⟨z.1, z.2.2⟩)] at hst
        rw [if_neg hm]
        obtain ⟨l', b2, h2, h3⟩ := ih (l + 1) A F b hw (by omega) hu
        exact ⟨l', b2, sp_to.st hst h2, h3⟩
theorem sp_take {e : Nat} (hS : sp_sb e) {E : ev_E} {o : Option Nat} {cap : Bool} {k : Nat} {r : List sp_F} (hr : r.length + 1 + e = 4) {A : st_A} {F : ev_F} {b : Bool} (hw : st_wf A) : ∃ l' u' b', sp_to (A, (E, F, o, cap, k, 0, sa_D A 0 0, none) :: r, b) ((ds_take (ds_send e) E cap (E.2.2.getD k (0, 0)) (A, F)).1, (E, (ds_take (ds_send e) E cap (E.2.2.getD k (0, 0)) (A, F)).2, o, cap, k, l', u', none) :: r, b') ∧ ¬ (l' < u' ∧ (ds_take (ds_send e) E cap (E.2.2.getD k (0, 0)) (A, F)).2.2.1 = false) := by
  unfold ds_take
  by_cases hn : cap = false ∧ (E.2.2.getD k (0, 0)).1 ≠ (E.2.2.getD k (0, 0)).2 ∧ E.2.1 % 2 = 0
  · rw [if_pos hn]
    obtain ⟨l', h1, h2⟩ := sp_skip (E := E) (F := F) (o := o) (cap := cap) (k := k) (u := sa_D A 0 0) (r := r) (A := A) (b := b) (fun z => by
      rcases z with z | z | z
      · rw [hn.1] at z; cases z
      · exact hn.2.1 z
      · omega) (sa_D A 0 0) 0 (by omega)
    exact ⟨l', _, b, h1, h2⟩
  · rw [if_neg hn]
    have hy : cap = true ∨ (E.2.2.getD k (0, 0)).1 = (E.2.2.getD k (0, 0)).2 ∨ E.2.1 % 2 = 1 := by
      cases cap with
      | true => exact Or.inl rfl
      | false =>
        by_cases h1 : (E.2.2.getD k (0, 0)).1 = (E.2.2.getD k (0, 0)).2
        · exact Or.inr (Or.inl h1)
        · by_cases h2 : E.2.1 % 2 = 0
          · exact absurd ⟨rfl, h1, h2⟩ hn
          · exact Or.inr (Or.inr (by omega))
    obtain ⟨l', b', h1, h2⟩ := sp_turn hS hr (E := E) (o := o) (cap := cap) (k := k) (u := sa_D A 0 0) hy (sa_D A 0 0) 0 A F b hw (by omega) (Nat.le_refl _)
    exact ⟨l', _, b', h1, h2⟩
theorem sp_gone {E : ev_E} {F : ev_F} {o : Option Nat} {cap : Bool} {k l u : Nat} {r : List sp_F} {A : st_A} {b : Bool} (h : ¬ (l < u ∧ F.2.1 = false)) : sp_step (A, (E, F, o, cap, k, l, u, none) :: r, b) = sp_go A E F o cap k r b := by
  show (if l < u ∧ F.2.1 = false then _ else _) = _
  rw [if_neg h]
theorem ds_walk_stop {S : ev_S} {E : ev_E} {cap : Bool} {P : ev_P} (h : P.2.1 = true) : ∀ l, ds_walk S E cap l P = P := by
  intro l
  cases l with
  | nil => rfl
  | cons e l => simp only [ds_walk]; rw [if_pos h]
theorem sp_bub {e : Nat} (hS : sp_sb e) {E : ev_E} {o : Option Nat} {r : List sp_F} (hr : r.length + 1 + e = 4) : ∀ (j k : Nat) (A : st_A) (F : ev_F) (b : Bool), st_wf A → F.1 = false → k + j + 1 = E.2.2.length → sp_to (A, (E, F, o, false, k, 0, sa_D A 0 0, none) :: r, b) (ds_end (ds_walk (ds_send e) E false (E.2.2.drop k) (A, F)) o, r, (ds_walk (ds_send e) E false (E.2.2.drop k) (A, F)).2.2.2) := by
  intro j
  induction j with
  | zero =>
    intro k A F b hw hF hk
    have hd : E.2.2.drop k = E.2.2.getD k (0, 0) :: [] := by
      rw [List.drop_eq_getElem_cons (by omega), List.drop_eq_nil_of_le (by omega), List.getD_eq_getElem?_getD, List.getElem?_eq_getElem (by omega)]; rfl
    obtain ⟨l', u', b', h1, h2⟩ := sp_take hS hr (E := E) (o := o) (cap := false) (k := k) (F := F) (b := b) hw
    rw [hd]
    have hwk : ds_walk (ds_send e) E false [E.2.2.getD k (0, 0)] (A, F) = ds_take (ds_send e) E false (E.2.2.getD k (0, 0)) (A, F) := by
      simp only [ds_walk]; rw [if_neg (by rw [hF]; simp)]
    rw [hwk]
    refine h1.tr (sp_to.st (sp_gone h2) ?_)
    unfold sp_go
    rw [if_neg (show ¬ false = true by simp), if_neg (show ¬ k + 1 < E.2.2.length by omega)]
    split <;> exact sp_to.rf _
  | succ j ih =>
    intro k A F b hw hF hk
    have hd : E.2.2.drop k = E.2.2.getD k (0, 0) :: E.2.2.drop (k + 1) := by
      rw [List.drop_eq_getElem_cons (by omega), List.getD_eq_getElem?_getD, List.getElem?_eq_getElem (by omega)]; rfl
    obtain ⟨l', u', b', h1, h2⟩ := sp_take hS hr (E := E) (o := o) (cap := false) (k := k) (F := F) (b := b) hw
    rw [hd]
    have hwk : ds_walk (ds_send e) E false (E.2.2.getD k (0, 0) :: E.2.2.drop (k + 1)) (A, F) = ds_walk (ds_send e) E false (E.2.2.drop (k + 1)) (ds_take (ds_send e) E false (E.2.2.getD k (0, 0)) (A, F)) := by
      simp only [ds_walk]; rw [if_neg (by rw [hF]; simp)]
    rw [hwk]
    refine h1.tr (sp_to.st (sp_gone h2) ?_)
    have g := st_go_take (st_good_send e) (E := E) (cap := false) (e := E.2.2.getD k (0, 0)) (P := (A, F)) hw
    unfold sp_go
    by_cases hs : (ds_take (ds_send e) E false (E.2.2.getD k (0, 0)) (A, F)).2.1 = true
    · rw [if_pos hs, ds_walk_stop hs]
      exact sp_to.rf _
    · rw [if_neg hs, if_neg (show ¬ false = true by simp), if_pos (show k + 1 < E.2.2.length by omega)]
      exact ih (k + 1) (ds_take (ds_send e) E false (E.2.2.getD k (0, 0)) (A, F)).1 (ds_take (ds_send e) E false (E.2.2.getD k (0, 0)) (A, F)).2 b' g.1 (by simpa using hs) (by omega)
theorem sp_cap {e : Nat} (hS : sp_sb e) {E : ev_E} {o : Option Nat} {r : List sp_F} (hr : r.length + 1 + e = 4) : ∀ (k : Nat) (A : st_A) (F : ev_F) (b : Bool), st_wf A → F.1 = false → k < E.2.2.length → sp_to (A, (E, F, o, true, k, 0, sa_D A 0 0, none) :: r, b) (ds_end (ds_walk (ds_send e) E false E.2.2 (ds_walk (ds_send e) E true (E.2.2.take (k + 1)).reverse (A, F))) o, r, (ds_walk (ds_send e) E false E.2.2 (ds_walk (ds_send e) E true (E.2.2.take (k + 1)).reverse (A, F))).2.2.2) := by
  intro k
  induction k with
  | zero =>
    intro A F b hw hF hk
    have hd : (E.2.2.take (0 + 1)).reverse = [E.2.2.getD 0 (0, 0)] := by
      rw [List.take_add_one, List.getElem?_eq_getElem hk, List.getD_eq_getElem?_getD, List.getElem?_eq_getElem hk]; rfl
    obtain ⟨l', u', b', h1, h2⟩ := sp_take hS hr (E := E) (o := o) (cap := true) (k := 0) (F := F) (b := b) hw
    rw [hd]
    have hwk : ds_walk (ds_send e) E true [E.2.2.getD 0 (0, 0)] (A, F) = ds_take (ds_send e) E true (E.2.2.getD 0 (0, 0)) (A, F) := by
      simp only [ds_walk]; rw [if_neg (by rw [hF]; simp)]
    rw [hwk]
    refine h1.tr (sp_to.st (sp_gone h2) ?_)
    have g := st_go_take (st_good_send e) (E := E) (cap := true) (e := E.2.2.getD 0 (0, 0)) (P := (A, F)) hw
    unfold sp_go
    by_cases hs : (ds_take (ds_send e) E true (E.2.2.getD 0 (0, 0)) (A, F)).2.1 = true
    · rw [if_pos hs, ds_walk_stop hs]
      exact sp_to.rf _
    · rw [if_neg hs, if_pos rfl, if_pos rfl]
      exact sp_bub hS hr (E.2.2.length - 1) 0 (ds_take (ds_send e) E true (E.2.2.getD 0 (0, 0)) (A, F)).1 (ds_take (ds_send e) E true (E.2.2.getD 0 (0, 0)) (A, F)).2 b' g.1 (by simpa using hs) (by omega)
  | succ k ih =>
    intro A F b hw hF hk
    have hd : (E.2.2.take (k + 1 + 1)).reverse = E.2.2.getD (k + 1) (0, 0) :: (E.2.2.take (k + 1)).reverse := by
      rw [List.take_add_one, List.getElem?_eq_getElem hk, List.getD_eq_getElem?_getD, List.getElem?_eq_getElem hk]; simp
    obtain ⟨l', u', b', h1, h2⟩ := sp_take hS hr (E := E) (o := o) (cap := true) (k := k + 1) (F := F) (b := b) hw
    rw [hd]
    have hwk : ds_walk (ds_send e) E true (E.2.2.getD (k + 1) (0, 0) :: (E.2.2.take (k + 1)).reverse) (A, F) = ds_walk (ds_send e) E true (E.2.2.take (k + 1)).reverse (ds_take (ds_send e) E true (E.2.2.getD (k + 1) (0, 0)) (A, F)) := by
      simp only [ds_walk]; rw [if_neg (by rw [hF]; simp)]
    rw [hwk]
    refine h1.tr (sp_to.st (sp_gone h2) ?_)
    have g := st_go_take (st_good_send e) (E := E) (cap := true) (e := E.2.2.getD (k + 1) (0, 0)) (P := (A, F)) hw
    unfold sp_go
    by_cases hs : (ds_take (ds_send e) E true (E.2.2.getD (k + 1) (0, 0)) (A, F)).2.1 = true
    · rw [if_pos hs, ds_walk_stop hs, ds_walk_stop hs]
      exact sp_to.rf _
    · rw [if_neg hs, if_pos rfl, if_neg (by omega)]
      exact ih (ds_take (ds_send e) E true (E.2.2.getD (k + 1) (0, 0)) (A, F)).1 (ds_take (ds_send e) E true (E.2.2.getD (k + 1) (0, 0)) (A, F)).2 b' g.1 (by simpa using hs) (by omega)
theorem ds_path_ne {T : tr_T} {t fl : Nat} : 0 < (ds_path T t fl).length := by
  unfold ds_path
  show 0 < (ds_lay T (ds_last T t fl) (23 + 1) (some t) t).length
  simp only [ds_lay, List.length_cons]
  omega
theorem sp_send : ∀ e, sp_sb e := by
  intro e
  induction e with
  | zero =>
    intro A r b t ty fl hw ht hr
    refine ⟨b, ?_, fun x hx => by cases hx⟩
    unfold sp_beg
    rw [if_pos (by omega)]
    exact sp_to.rf _
  | succ e ih =>
    intro A r b t ty fl hw ht hr
    refine ⟨(ds_mid (ds_send e) A t ty fl).2.2.2, ?_, fun x hx => Option.some.inj hx⟩
    unfold sp_beg
    rw [if_neg (by omega)]
    have hne := ds_path_ne (T := sa_T A) (t := t) (fl := fl)
    have g := st_go_flip hw (ds_check (sa_T A) ty fl (ds_path (sa_T A) t fl))
    have h := sp_cap ih (E := (ty, fl, ds_path (sa_T A) t fl)) (o := ds_check (sa_T A) ty fl (ds_path (sa_T A) t fl)) (r := r) (by omega) ((ds_path (sa_T A) t fl).length - 1) (ds_beg A t ty fl).1 (false, false, false) b g.1 rfl (by show _ < (ds_path (sa_T A) t fl).length; omega)
    have e1 : sa_D (ds_beg A t ty fl).1 0 0 = sa_D A 0 0 := by
      unfold ds_beg ds_flip
      split <;> rfl
    rw [e1] at h
    have e2 : (ds_path (sa_T A) t fl).take ((ds_path (sa_T A) t fl).length - 1 + 1) = ds_path (sa_T A) t fl := List.take_of_length_le (by omega)
    simp only [e2] at h
    exact h
