/-! children lists: one more or one less -/
theorem tr_aft_out : ∀ {l : List Nat} {m : Nat}, m ∉ l → tr_after l m = none := by
  intro l
  induction l with
  | nil => intro m _; rfl
  | cons a l ih =>
    intro m h
    have h1 : ¬ a = m := fun z => h (by rw [z]; exact List.mem_cons_self)
    simp only [tr_after, if_neg h1]
    exact ih (fun z => h (List.mem_cons_of_mem _ z))
theorem tr_bef_out : ∀ {l : List Nat} {m : Nat}, m ∉ l → tr_before l m = none := by
  intro l
  induction l with
  | nil => intro m _; rfl
  | cons a l ih =>
    intro m h
    have h1 : ¬ l.head? = some m := fun z => h (List.mem_cons_of_mem _ (List.mem_of_head? z))
    simp only [tr_before, if_neg h1]
    exact ih (fun z => h (List.mem_cons_of_mem _ z))
theorem tr_A1 {n : Nat} {suf pre : List Nat} (h : n ∉ pre) : tr_after (pre ++ n :: suf) n = suf.head? := by
  induction pre with
  | nil => simp [tr_after]
  | cons a pre ih =>
    have h1 : ¬ a = n := fun z => h (by rw [z]; exact List.mem_cons_self)
    simp only [List.cons_append, tr_after, if_neg h1]
    exact ih (fun z => h (List.mem_cons_of_mem _ z))
theorem tr_A2 {n m : Nat} {suf pre : List Nat} (hn : (pre ++ suf).Nodup) (h : pre.getLast? = some m) : tr_after (pre ++ n :: suf) m = some n ∧ tr_after (pre ++ suf) m = suf.head? := by
  induction pre with
  | nil => cases h
  | cons a pre ih =>
    rw [List.cons_append] at hn
    obtain ⟨h1, h2⟩ := List.nodup_cons.mp hn
    cases pre with
    | nil =>
      simp at h
      subst h
      simp [tr_after]
    | cons b pre =>
      have h3 : (b :: pre).getLast? = some m := by rw [List.getLast?_cons_cons] at h; exact h
      have h4 : ¬ a = m := fun z => h1 (by rw [z]; exact List.mem_append_left _ (List.mem_of_getLast? h3))
      have := ih h2 h3
      simp only [List.cons_append, tr_after, if_neg h4] at this ⊢
      exact this
theorem tr_A3 {n m : Nat} {suf pre : List Nat} (hm : m ≠ n) (h : pre.getLast? ≠ some m) : tr_after (pre ++ n :: suf) m = tr_after (pre ++ suf) m := by
  induction pre with
  | nil =>
    have h1 : ¬ n = m := fun z => hm z.symm
    simp [tr_after, h1]
  | cons a pre ih =>
    cases pre with
    | nil =>
      have h2 : ¬ a = m := fun z => h (by rw [z]; rfl)
      have h1 : ¬ n = m := fun z => hm z.symm
      simp [tr_after, h1, h2]
    | cons b pre =>
      have h3 : (b :: pre).getLast? ≠ some m := by rw [List.getLast?_cons_cons] at h; exact h
      have := ih h3
      simp only [List.cons_append, tr_after] at this ⊢
      by_cases ha : a = m
      · rw [if_pos ha, if_pos ha]; rfl
      · rw [if_neg ha, if_neg ha]; exact this
theorem tr_B1 {n : Nat} {suf pre : List Nat} (hn : (pre ++ n :: suf).Nodup) : tr_before (pre ++ n :: suf) n = pre.getLast? := by
  induction pre with
  | nil =>
    have h1 := (List.nodup_cons.mp hn).1
    have h2 : ¬ suf.head? = some n := fun z => h1 (List.mem_of_head? z)
    simp only [List.nil_append, tr_before, if_neg h2]
    exact tr_bef_out h1
  | cons a pre ih =>
    rw [List.cons_append] at hn
    obtain ⟨h1, h2⟩ := List.nodup_cons.mp hn
    cases pre with
    | nil => simp [tr_before]
    | cons b pre =>
      have hb : ¬ b = n := fun z => by
        rw [List.cons_append] at h2
        exact (List.nodup_cons.mp h2).1 (by rw [z]; exact List.mem_append_right _ List.mem_cons_self)
      have h3 : ¬ ((b :: pre) ++ n :: suf).head? = some n := fun z => hb (by simpa using z)
      rw [List.cons_append, tr_before, if_neg h3, ih h2, List.getLast?_cons_cons]
theorem tr_B2 {n m : Nat} {suf pre : List Nat} (hn : (pre ++ n :: suf).Nodup) (h : suf.head? = some m) : tr_before (pre ++ n :: suf) m = some n ∧ tr_before (pre ++ suf) m = pre.getLast? := by
  induction pre with
  | nil =>
    refine ⟨by simp [tr_before, h], ?_⟩
    cases suf with
    | nil => cases h
    | cons b suf =>
      simp at h
      subst h
      have h1 := (List.nodup_cons.mp (List.nodup_cons.mp hn).2).1
      have h2 : ¬ suf.head? = some b := fun z => h1 (List.mem_of_head? z)
      simp only [List.nil_append, tr_before, if_neg h2]
      exact tr_bef_out h1
  | cons a pre ih =>
    rw [List.cons_append] at hn
    obtain ⟨h1, h2⟩ := List.nodup_cons.mp hn
    obtain ⟨i1, i2⟩ := ih h2
    have hmem : m ∈ suf := List.mem_of_head? h
    cases pre with
    | nil =>
      have h3 : ¬ n = m := fun z => (List.nodup_cons.mp h2).1 (by rw [z]; exact hmem)
      refine ⟨?_, by simp [tr_before, h]⟩
      rw [List.cons_append, tr_before, if_neg (by simp [h3])]
      exact i1
    | cons b pre =>
      have hb : ¬ b = m := fun z => by
        rw [List.cons_append] at h2
        exact (List.nodup_cons.mp h2).1 (by rw [z]; exact List.mem_append_right _ (List.mem_cons_of_mem _ hmem))
      refine ⟨?_, ?_⟩
      · rw [List.cons_append, tr_before, if_neg (by simp [hb])]
        exact i1
      · rw [List.cons_append, tr_before, if_neg (by simp [hb]), i2, List.getLast?_cons_cons]
theorem tr_B3 {n m : Nat} {suf pre : List Nat} (hm : m ≠ n) (h : suf.head? ≠ some m) : tr_before (pre ++ n :: suf) m = tr_before (pre ++ suf) m := by
  induction pre with
  | nil => simp [tr_before, h]
  | cons a pre ih =>
    cases pre with
    | nil =>
      have h1 : ¬ n = m := fun z => hm z.symm
      have e1 : tr_before (a :: n :: suf) m = tr_before (n :: suf) m := by
        show (if (n :: suf).head? = some m then some a else tr_before (n :: suf) m) = _
        rw [if_neg (by simp [h1])]
      have e2 : tr_before (a :: suf) m = tr_before suf m := by
        show (if suf.head? = some m then some a else tr_before suf m) = _
        rw [if_neg h]
      show tr_before (a :: n :: suf) m = tr_before (a :: suf) m
      rw [e1, e2]
      exact ih
    | cons b pre =>
      show (if (b :: (pre ++ n :: suf)).head? = some m then some a else tr_before (b :: (pre ++ n :: suf)) m) = (if (b :: (pre ++ suf)).head? = some m then some a else tr_before (b :: (pre ++ suf)) m)
      have ih : tr_before (b :: (pre ++ n :: suf)) m = tr_before (b :: (pre ++ suf)) m := ih
      rw [ih]
      rfl
theorem tr_H {n : Nat} {suf pre : List Nat} : (pre ++ n :: suf).head? = (if pre.getLast? = none then some n else (pre ++ suf).head?) ∧ (pre.getLast? = none → (pre ++ suf).head? = suf.head?) := by
  cases pre with
  | nil => simp
  | cons a pre =>
    have : ¬ (a :: pre).getLast? = none := by simp
    simp
theorem tr_L {n : Nat} {suf pre : List Nat} : (pre ++ n :: suf).getLast? = (if suf.head? = none then some n else (pre ++ suf).getLast?) ∧ (suf.head? = none → (pre ++ suf).getLast? = pre.getLast?) := by
  cases suf with
  | nil => simp
  | cons b suf =>
    simp [List.getLast?_append]
/-- the first place of n -/
theorem tr_split {l : List Nat} {n : Nat} (h : n ∈ l) : ∃ pre suf, l = pre ++ n :: suf := by
  obtain ⟨pre, suf, h⟩ := List.append_of_mem h
  exact ⟨pre, suf, h⟩
theorem tr_erase {pre suf : List Nat} {n : Nat} (h : n ∉ pre) : (pre ++ n :: suf).erase n = pre ++ suf := by
  rw [List.erase_append_right _ h, List.erase_cons_head]
