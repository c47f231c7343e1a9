/-! ORDER: a tree by its way up (u) and its children (κ); how many lie at or below; what comes behind -/
def od_it (u : Nat → Option Nat) : Nat → Nat → Option Nat
  | 0, n => some n
  | k + 1, n => match u n with
    | none => none
    | some m => od_it u k m
def od_cov (u : Nat → Option Nat) : Nat → Nat → Nat → Bool
  | 0, _, _ => false
  | k + 1, a, n => if n = a then true else match u n with
    | none => false
    | some m => od_cov u k a m
def od_suf : List Nat → Nat → List Nat
  | [], _ => []
  | a :: l, n => if a = n then l else od_suf l n
def od_pend (u : Nat → Option Nat) (κ : Nat → List Nat) : Nat → Nat → List Nat
  | 0, _ => []
  | k + 1, n => match u n with
    | none => []
    | some p => od_suf (κ p) n ++ od_pend u κ k p
def od_w (u : Nat → Option Nat) (N n : Nat) : Nat := ((List.range N).map (fun m => (od_cov u 24 n m).toNat)).sum
def od_W (u : Nat → Option Nat) (N : Nat) (P : List Nat) : Nat := (P.map (od_w u N)).sum
def od_ok (u : Nat → Option Nat) (κ : Nat → List Nat) (N : Nat) : Prop := (∀ p c, p < N → c ∈ κ p → c < N ∧ u c = some p) ∧ (∀ c p, c < N → u c = some p → p < N ∧ c ∈ κ p) ∧ (∀ p, p < N → (κ p).Nodup) ∧ ∀ n, n < N → od_it u 24 n = none
theorem od_it_add {u : Nat → Option Nat} : ∀ (i j n : Nat), od_it u (i + j) n = (od_it u i n).bind (od_it u j) := by
  intro i
  induction i with
  | zero => intro j n; rw [Nat.zero_add]; rfl
  | succ i ih =>
    intro j n
    rw [show i + 1 + j = (i + j) + 1 by omega]
    simp only [od_it]
    cases u n with
    | none => rfl
    | some m => exact ih j m
theorem od_it_mono {u : Nat → Option Nat} {k k' n : Nat} (h : od_it u k n = none) (hk : k ≤ k') : od_it u k' n = none := by
  rw [show k' = k + (k' - k) by omega, od_it_add, h]; rfl
theorem od_it_s {u : Nat → Option Nat} {k n p : Nat} (h : od_it u (k + 1) n = none) (hp : u n = some p) : od_it u k p = none := by
  simp only [od_it, hp] at h; exact h
theorem od_cyc {u : Nat → Option Nat} {k n j : Nat} (h : od_it u (j + 1) n = some n) (hk : od_it u k n = none) : False := by
  have key : ∀ i, od_it u (i * (j + 1)) n = some n := by
    intro i
    induction i with
    | zero => simp [od_it]
    | succ i ih => rw [Nat.succ_mul, od_it_add, ih]; exact h
  have := od_it_mono (k' := k * (j + 1)) hk (Nat.le_mul_of_pos_right _ (by omega))
  rw [key] at this; cases this
theorem od_cov_it {u : Nat → Option Nat} : ∀ (k a n : Nat), od_cov u k a n = true → ∃ j, od_it u j n = some a := by
  intro k
  induction k with
  | zero => intro a n h; cases h
  | succ k ih =>
    intro a n h
    simp only [od_cov] at h
    by_cases e : n = a
    · exact ⟨0, by rw [e]; rfl⟩
    · rw [if_neg e] at h
      cases hu : u n with
      | none => rw [hu] at h; cases h
      | some p =>
        rw [hu] at h
        obtain ⟨j, hj⟩ := ih a p h
        exact ⟨j + 1, by simp only [od_it, hu]; exact hj⟩
theorem od_it_cov {u : Nat → Option Nat} : ∀ (j k a n : Nat), od_it u j n = some a → od_it u k n = none → od_cov u k a n = true := by
  intro j
  induction j with
  | zero =>
    intro k a n h hk
    cases h
    cases k with
    | zero => cases hk
    | succ k => simp [od_cov]
  | succ j ih =>
    intro k a n h hk
    cases k with
    | zero => cases hk
    | succ k =>
      simp only [od_it] at h
      simp only [od_cov]
      by_cases e : n = a
      · rw [if_pos e]
      · rw [if_neg e]
        cases hu : u n with
        | none => rw [hu] at h; cases h
        | some p => rw [hu] at h; exact ih k a p h (od_it_s hk hu)
theorem od_sum_add {l : List Nat} {f g : Nat → Nat} : (l.map (fun m => f m + g m)).sum = (l.map f).sum + (l.map g).sum := by
  induction l with
  | nil => rfl
  | cons a l ih => simp only [List.map_cons, List.sum_cons, ih]; omega
theorem od_sum_comm {l : List Nat} {F : Nat → Nat → Nat} : ∀ {k : List Nat}, (l.map (fun m => (k.map (fun c => F c m)).sum)).sum = (k.map (fun c => (l.map (F c)).sum)).sum := by
  intro k
  induction k with
  | nil =>
    simp only [List.map_nil, List.sum_nil]
    induction l with
    | nil => rfl
    | cons a l ih => simp [ih]
  | cons c k ih =>
    simp only [List.map_cons, List.sum_cons]
    rw [od_sum_add, ih]
theorem od_sum_0 {l : List Nat} {f : Nat → Nat} (h : ∀ m ∈ l, f m = 0) : (l.map f).sum = 0 := by
  induction l with
  | nil => rfl
  | cons a l ih => rw [List.map_cons, List.sum_cons, h a List.mem_cons_self, ih (fun m hm => h m (List.mem_cons_of_mem _ hm))]
theorem od_sum_1 {l : List Nat} {f : Nat → Nat} {a : Nat} (hn : l.Nodup) (ha : a ∈ l) (h1 : f a = 1) (h0 : ∀ m ∈ l, m ≠ a → f m = 0) : (l.map f).sum = 1 := by
  induction l with
  | nil => cases ha
  | cons b l ih =>
    obtain ⟨hb, hn'⟩ := List.nodup_cons.mp hn
    rw [List.map_cons, List.sum_cons]
    by_cases e : b = a
    · subst e
      rw [h1, od_sum_0 (fun m hm => h0 m (List.mem_cons_of_mem _ hm) (fun z => hb (by rw [← z]; exact hm)))]
    · have ha' : a ∈ l := by
        rcases List.mem_cons.mp ha with z | z
        · exact absurd z.symm e
        · exact z
      rw [h0 b List.mem_cons_self e, ih hn' ha' (fun m hm hne => h0 m (List.mem_cons_of_mem _ hm) hne)]
theorem od_sum_congr {l : List Nat} {f g : Nat → Nat} (h : ∀ m ∈ l, f m = g m) : (l.map f).sum = (l.map g).sum := by
  rw [List.map_congr_left h]
theorem od_point {u : Nat → Option Nat} {κ : Nat → List Nat} {N : Nat} (ho : od_ok u κ N) {n : Nat} (hn : n < N) : ∀ (k m : Nat), m < N → od_it u k m = none → (od_cov u k n m).toNat = (if m = n then 1 else 0) + ((κ n).map (fun c => (od_cov u k c m).toNat)).sum := by
  obtain ⟨o1, o2, o3, o4⟩ := ho
  have under : ∀ (k c : Nat), c ∈ κ n → od_cov u k c n = true → False := by
    intro k c hc h
    obtain ⟨j, hj⟩ := od_cov_it k c n h
    have hu := (o1 n c hn hc).2
    have : od_it u (j + 1) n = some n := by
      rw [od_it_add, hj]
      show od_it u 1 c = some n
      simp only [od_it, hu]
    exact od_cyc this (o4 n hn)
  intro k
  induction k with
  | zero => intro m _ h; cases h
  | succ k ih =>
    intro m hm h
    cases hu : u m with
    | none =>
      have e1 : ∀ a, od_cov u (k + 1) a m = decide (m = a) := fun a => by
        simp only [od_cov, hu]
        by_cases e : m = a <;> simp [e]
      rw [e1]
      rw [od_sum_0 (fun c hc => by
        rw [e1, decide_eq_false]
        · rfl
        · intro z
          subst z
          have := (o1 n m hn hc).2
          rw [hu] at this; cases this)]
      by_cases e : m = n <;> simp [e]
    | some p =>
      have hp := (o2 m p hm hu).1
      have hk := od_it_s h hu
      have e1 : ∀ a, m ≠ a → od_cov u (k + 1) a m = od_cov u k a p := fun a ha => by simp only [od_cov, hu]; rw [if_neg ha]
      by_cases e : m = n
      · subst e
        have : od_cov u (k + 1) m m = true := by simp [od_cov]
        rw [this, if_pos rfl, od_sum_0 (fun c hc => by
          cases hz : od_cov u (k + 1) c m with
          | false => rfl
          | true => exact (under _ c hc hz).elim)]
        rfl
      · rw [if_neg e, e1 n e]
        by_cases e2 : p = n
        · subst e2
          have hmk := (o2 m p hm hu).2
          have h1 : od_cov u k p p = true := by
            cases k with
            | zero => cases hk
            | succ k => simp [od_cov]
          rw [h1, od_sum_1 (o3 p hp) hmk (by simp [od_cov]) (fun c hc hne => by
            rw [e1 c (fun z => hne z.symm)]
            cases hz : od_cov u k c p with
            | false => rfl
            | true => exact (under _ c hc hz).elim)]
          rfl
        · rw [ih p hp hk, if_neg e2]
          congr 1
          refine od_sum_congr (fun c hc => ?_)
          rw [e1 c]
          intro z
          subst z
          have := (o1 n m hn hc).2
          rw [hu] at this
          exact e2 (Option.some.inj this)
theorem od_split {u : Nat → Option Nat} {κ : Nat → List Nat} {N : Nat} (ho : od_ok u κ N) {n : Nat} (hn : n < N) : od_w u N n = 1 + od_W u N (κ n) := by
  unfold od_w od_W
  have e1 : ((List.range N).map (fun m => (od_cov u 24 n m).toNat)).sum = ((List.range N).map (fun m => (if m = n then 1 else 0) + ((κ n).map (fun c => (od_cov u 24 c m).toNat)).sum)).sum :=
    od_sum_congr (fun m hm => od_point ho hn 24 m (List.mem_range.mp hm) (ho.2.2.2 m (List.mem_range.mp hm)))
  rw [e1, od_sum_add, od_sum_comm]
  congr 1
  exact od_sum_1 List.nodup_range (List.mem_range.mpr hn) (by simp) (fun m _ hne => by simp [hne])
theorem od_w_le {u : Nat → Option Nat} {N n : Nat} : od_w u N n ≤ N := by
  unfold od_w
  have key : ∀ l : List Nat, (l.map (fun m => (od_cov u 24 n m).toNat)).sum ≤ l.length := by
    intro l
    induction l with
    | nil => exact Nat.le_refl _
    | cons a l ih =>
      rw [List.map_cons, List.sum_cons, List.length_cons]
      have : (od_cov u 24 n a).toNat ≤ 1 := Bool.toNat_le _
      omega
  have := key (List.range N)
  rw [List.length_range] at this
  exact this
theorem od_W_app {u : Nat → Option Nat} {N : Nat} (P Q : List Nat) : od_W u N (P ++ Q) = od_W u N P + od_W u N Q := by
  unfold od_W
  rw [List.map_append, List.sum_append]
theorem od_W_cons {u : Nat → Option Nat} {N : Nat} (n : Nat) (P : List Nat) : od_W u N (n :: P) = od_w u N n + od_W u N P := rfl
theorem od_pend_s {u : Nat → Option Nat} {κ : Nat → List Nat} {k n p : Nat} (hu : u n = some p) : od_pend u κ (k + 1) n = od_suf (κ p) n ++ od_pend u κ k p := by
  simp only [od_pend, hu]
/-- what lies behind, with enough steps -/
theorem od_pend_st {u : Nat → Option Nat} {κ : Nat → List Nat} : ∀ (k k' n : Nat), od_it u k n = none → od_it u k' n = none → od_pend u κ k n = od_pend u κ k' n := by
  intro k
  induction k with
  | zero => intro k' n h _; cases h
  | succ k ih =>
    intro k' n h h'
    cases k' with
    | zero => cases h'
    | succ k' =>
      simp only [od_pend]
      cases hu : u n with
      | none => rfl
      | some p => simp only; rw [ih k' p (od_it_s h hu) (od_it_s h' hu)]
theorem od_suf_mem {l : List Nat} {n m : Nat} (h : m ∈ od_suf l n) : m ∈ l := by
  induction l with
  | nil => cases h
  | cons a l ih =>
    simp only [od_suf] at h
    split at h
    · exact List.mem_cons_of_mem _ h
    · exact List.mem_cons_of_mem _ (ih h)
theorem od_suf_suf {l : List Nat} (hn : l.Nodup) {n m : Nat} {r : List Nat} (h : od_suf l n = m :: r) : od_suf l m = r := by
  induction l with
  | nil => cases h
  | cons a l ih =>
    obtain ⟨ha, hn'⟩ := List.nodup_cons.mp hn
    simp only [od_suf] at h ⊢
    by_cases e : a = n
    · rw [if_pos e] at h
      have hne : ¬ a = m := fun z => ha (by rw [z, h]; exact List.mem_cons_self)
      rw [if_neg hne, h]
      simp [od_suf]
    · rw [if_neg e] at h
      have hne : ¬ a = m := fun z => ha (by rw [z]; exact od_suf_mem (by rw [h]; exact List.mem_cons_self))
      rw [if_neg hne]
      exact ih hn' h
theorem od_pend_pend {u : Nat → Option Nat} {κ : Nat → List Nat} {N : Nat} (ho : od_ok u κ N) : ∀ (k n m : Nat) (r : List Nat), n < N → od_it u k n = none → od_pend u κ k n = m :: r → m < N ∧ od_pend u κ 24 m = r := by
  intro k
  induction k with
  | zero => intro n m r _ h; cases h
  | succ k ih =>
    intro n m r hn h hp
    simp only [od_pend] at hp
    cases hu : u n with
    | none => rw [hu] at hp; cases hp
    | some p =>
      rw [hu] at hp
      simp only at hp
      have hpl := (ho.2.1 n p hn hu).1
      have hk := od_it_s h hu
      cases hs : od_suf (κ p) n with
      | nil =>
        rw [hs] at hp
        exact ih p m r hpl hk hp
      | cons c l =>
        rw [hs] at hp
        simp only [List.cons_append, List.cons.injEq] at hp
        obtain ⟨rfl, rfl⟩ := hp
        have hc := ho.1 p c hpl (od_suf_mem (by rw [hs]; exact List.mem_cons_self))
        refine ⟨hc.1, ?_⟩
        have h24 := ho.2.2.2 c hc.1
        show od_pend u κ (23 + 1) c = _
        rw [od_pend_s hc.2, od_suf_suf (ho.2.2.1 p hpl) hs, od_pend_st 23 k p (od_it_s h24 hc.2) hk]
/-- one step on in order -/
theorem od_step {u : Nat → Option Nat} {κ : Nat → List Nat} {N : Nat} (ho : od_ok u κ N) {n m : Nat} {r : List Nat} (hn : n < N) (h : κ n ++ od_pend u κ 24 n = m :: r) : m < N ∧ od_pend u κ 24 m = r := by
  cases hk : κ n with
  | nil =>
    rw [hk] at h
    exact od_pend_pend ho 24 n m r hn (ho.2.2.2 n hn) h
  | cons c l =>
    rw [hk] at h
    simp only [List.cons_append, List.cons.injEq] at h
    obtain ⟨rfl, rfl⟩ := h
    have hc := ho.1 n c hn (by rw [hk]; exact List.mem_cons_self)
    refine ⟨hc.1, ?_⟩
    have h24 := ho.2.2.2 c hc.1
    show od_pend u κ (23 + 1) c = _
    rw [od_pend_s hc.2, hk]
    simp only [od_suf, if_true]
    rw [od_pend_st 23 24 n (od_it_s h24 hc.2) (ho.2.2.2 n hn)]
/-- how many are left -/
def od_R (u : Nat → Option Nat) (κ : Nat → List Nat) (N n : Nat) : Nat := od_W u N (n :: od_pend u κ 24 n)
theorem od_R_step {u : Nat → Option Nat} {κ : Nat → List Nat} {N : Nat} (ho : od_ok u κ N) {n : Nat} (hn : n < N) : od_R u κ N n = 1 + od_W u N (κ n ++ od_pend u κ 24 n) := by
  unfold od_R
  rw [od_W_cons, od_split ho hn, od_W_app]; omega
theorem od_w_pos {u : Nat → Option Nat} {κ : Nat → List Nat} {N : Nat} (ho : od_ok u κ N) {n : Nat} (hn : n < N) : 1 ≤ od_w u N n := by rw [od_split ho hn]; omega
theorem od_suf_W {u : Nat → Option Nat} {N : Nat} {l : List Nat} {n : Nat} (h : n ∈ l) : od_w u N n + od_W u N (od_suf l n) ≤ od_W u N l := by
  induction l with
  | nil => cases h
  | cons a l ih =>
    rw [od_W_cons]
    simp only [od_suf]
    by_cases e : a = n
    · rw [if_pos e, e]; exact Nat.le_refl _
    · rw [if_neg e]
      have : n ∈ l := by
        rcases List.mem_cons.mp h with z | z
        · exact absurd z.symm e
        · exact z
      have := ih this
      omega
theorem od_pend_up {u : Nat → Option Nat} {κ : Nat → List Nat} {N : Nat} (ho : od_ok u κ N) {n p : Nat} (hn : n < N) (hu : u n = some p) : od_pend u κ 24 n = od_suf (κ p) n ++ od_pend u κ 24 p := by
  have h24 := ho.2.2.2 n hn
  have hpl := (ho.2.1 n p hn hu).1
  show od_pend u κ (23 + 1) n = _
  rw [od_pend_s hu, od_pend_st 23 24 p (od_it_s h24 hu) (ho.2.2.2 p hpl)]
theorem od_R_up {u : Nat → Option Nat} {κ : Nat → List Nat} {N : Nat} (ho : od_ok u κ N) {n p : Nat} (hn : n < N) (hu : u n = some p) : od_R u κ N n < od_R u κ N p := by
  obtain ⟨hpl, hm⟩ := ho.2.1 n p hn hu
  rw [od_R_step ho hpl]
  unfold od_R
  rw [od_W_cons, od_pend_up ho hn hu, od_W_app, od_W_app]
  have := od_suf_W (u := u) (N := N) hm
  omega
theorem od_R_le {u : Nat → Option Nat} {κ : Nat → List Nat} {N : Nat} (ho : od_ok u κ N) : ∀ (k n : Nat), n < N → od_it u k n = none → od_R u κ N n ≤ N := by
  intro k
  induction k with
  | zero => intro n _ h; cases h
  | succ k ih =>
    intro n hn h
    cases hu : u n with
    | none =>
      unfold od_R
      have : od_pend u κ 24 n = [] := by
        show (match u n with
          | none => []
          | some p => od_suf (κ p) n ++ od_pend u κ 23 p) = []
        rw [hu]
      rw [this, od_W_cons]
      show od_w u N n + 0 ≤ N
      have := od_w_le (u := u) (N := N) (n := n)
      omega
    | some p =>
      have := od_R_up ho hn hu
      have := ih p (ho.2.1 n p hn hu).1 (od_it_s h hu)
      omega
theorem od_R_pos {u : Nat → Option Nat} {κ : Nat → List Nat} {N : Nat} (ho : od_ok u κ N) {n : Nat} (hn : n < N) : 1 ≤ od_R u κ N n := by rw [od_R_step ho hn]; omega
theorem od_R_next {u : Nat → Option Nat} {κ : Nat → List Nat} {N : Nat} (ho : od_ok u κ N) {n m : Nat} (hn : n < N) (h : (κ n ++ od_pend u κ 24 n).head? = some m) : m < N ∧ od_R u κ N n = od_R u κ N m + 1 := by
  cases hs : κ n ++ od_pend u κ 24 n with
  | nil => rw [hs] at h; cases h
  | cons c r =>
    rw [hs] at h
    simp at h
    subst h
    obtain ⟨h1, h2⟩ := od_step ho hn hs
    refine ⟨h1, ?_⟩
    rw [od_R_step ho hn, hs]
    unfold od_R
    rw [h2]; omega
