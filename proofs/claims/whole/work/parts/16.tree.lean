/-! THE TREE: how many nodes; kinds, names; parents, shadows, hosts, children -/
abbrev tr_T : Type := Nat × (Nat → Int32) × (Nat → Int32) × (Nat → Option Nat) × (Nat → Option Nat) × (Nat → Option Nat) × (Nat → List Nat)
def tr_N (T : tr_T) : Nat := T.1
def tr_kd (T : tr_T) : Nat → Int32 := T.2.1
def tr_nm (T : tr_T) : Nat → Int32 := T.2.2.1
def tr_pa (T : tr_T) : Nat → Option Nat := T.2.2.2.1
def tr_sh (T : tr_T) : Nat → Option Nat := T.2.2.2.2.1
def tr_ho (T : tr_T) : Nat → Option Nat := T.2.2.2.2.2.1
def tr_ch (T : tr_T) : Nat → List Nat := T.2.2.2.2.2.2
def tr_up (T : tr_T) (n : Nat) : Option Nat := if tr_pa T n = none then tr_ho T n else tr_pa T n
def tr_it (T : tr_T) : Nat → Nat → Option Nat
  | 0, n => some n
  | k + 1, n => match tr_up T n with
    | none => none
    | some m => tr_it T k m
def tr_cov (T : tr_T) : Nat → Nat → Nat → Bool
  | 0, _, _ => false
  | k + 1, a, n => if n = a then true else match tr_up T n with
    | none => false
    | some m => tr_cov T k a m
def tr_over (T : tr_T) (a n : Nat) : Bool := tr_cov T 24 a n
def tr_rootF (T : tr_T) : Nat → Nat → Nat
  | 0, n => n
  | k + 1, n => match tr_pa T n with
    | none => n
    | some p => tr_rootF T k p
def tr_root (T : tr_T) (n : Nat) : Nat := tr_rootF T 24 n
def tr_after : List Nat → Nat → Option Nat
  | [], _ => none
  | a :: l, n => if a = n then l.head? else tr_after l n
def tr_before : List Nat → Nat → Option Nat
  | [], _ => none
  | a :: l, n => if l.head? = some n then some a else tr_before l n
def tr_nx (T : tr_T) (n : Nat) : Option Nat := match tr_pa T n with
  | none => none
  | some p => tr_after (tr_ch T p) n
def tr_pv (T : tr_T) (n : Nat) : Option Nat := match tr_pa T n with
  | none => none
  | some p => tr_before (tr_ch T p) n
def tr_climb (T : tr_T) : Nat → Nat → Option Nat
  | 0, _ => none
  | k + 1, n => match tr_nx T n with
    | some m => some m
    | none => match tr_pa T n with
      | none => none
      | some p => tr_climb T k p
def tr_nto (T : tr_T) (n : Nat) : Option Nat := match (tr_ch T n).head? with
  | some c => some c
  | none => tr_climb T 24 n
def tr_sn (T : tr_T) (n : Nat) : Option Nat := match tr_ho T n with
  | some h => (tr_ch T h).head?
  | none => tr_nx T n
def tr_sclimb (T : tr_T) : Nat → Nat → Option Nat
  | 0, _ => none
  | k + 1, n => match tr_sn T n with
    | some m => some m
    | none => match tr_up T n with
      | none => none
      | some p => tr_sclimb T k p
def tr_nso (T : tr_T) (n : Nat) : Option Nat := match tr_sh T n with
  | some s => some s
  | none => match (tr_ch T n).head? with
    | some c => some c
    | none => tr_sclimb T 24 n
def tr_asF (T : tr_T) (w : Int32) : Nat → Option Nat → Option Nat
  | 0, _ => none
  | _ + 1, none => none
  | k + 1, some s => if tr_kd T s = 1 ∧ tr_nm T s = w then some s else tr_asF T w k (tr_nto T s)
def tr_as (T : tr_T) (n : Nat) : Option Nat := match tr_pa T n with
  | none => none
  | some p => tr_asF T (tr_nm T n) 24 (tr_sh T p)
/-- an element -/
def tr_el (T : tr_T) (n : Nat) : Prop := tr_kd T n = 0 ∨ tr_kd T n = 1 ∨ tr_kd T n = 2
def tr_wf (T : tr_T) : Prop :=
  (1 ≤ tr_N T ∧ tr_N T ≤ 24) ∧
  (∀ n p, n < tr_N T → tr_pa T n = some p → p < tr_N T ∧ n ∈ tr_ch T p ∧ tr_el T n) ∧
  (∀ p c, p < tr_N T → c ∈ tr_ch T p → c < tr_N T ∧ tr_pa T c = some p) ∧
  (∀ p, p < tr_N T → (tr_ch T p).Nodup) ∧
  (∀ n h, n < tr_N T → tr_ho T n = some h → h < tr_N T ∧ tr_sh T h = some n ∧ tr_kd T n = 4) ∧
  (∀ n s, n < tr_N T → tr_sh T n = some s → s < tr_N T ∧ tr_ho T s = some n ∧ tr_kd T n = 0) ∧
  (∀ n, n < tr_N T → tr_kd T n = 4 → tr_ho T n ≠ none) ∧
  (tr_kd T 0 = 3 ∧ ∀ n, n < tr_N T → n ≠ 0 → tr_el T n ∨ tr_kd T n = 4) ∧
  (∀ n, n < tr_N T → tr_it T 24 n = none)
theorem tr_up_lt {T : tr_T} (h : tr_wf T) {n m : Nat} (hn : n < tr_N T) (hm : tr_up T n = some m) : m < tr_N T := by
  unfold tr_up at hm
  by_cases hp : tr_pa T n = none
  · rw [if_pos hp] at hm
    exact (h.2.2.2.2.1 n m hn hm).1
  · rw [if_neg hp] at hm
    exact (h.2.1 n m hn hm).1
theorem tr_pa_lt {T : tr_T} (h : tr_wf T) {n m : Nat} (hn : n < tr_N T) (hm : tr_pa T n = some m) : m < tr_N T := (h.2.1 n m hn hm).1
theorem tr_it_pa {T : tr_T} {k n p : Nat} (h : tr_it T (k + 1) n = none) (hp : tr_pa T n = some p) : tr_it T k p = none := by
  have hu : tr_up T n = some p := by unfold tr_up; rw [if_neg (by rw [hp]; exact fun z => by cases z)]; exact hp
  simp only [tr_it, hu] at h
  exact h
theorem tr_it_up {T : tr_T} {k n p : Nat} (h : tr_it T (k + 1) n = none) (hp : tr_up T n = some p) : tr_it T k p = none := by
  simp only [tr_it, hp] at h
  exact h
theorem tr_after_mem {l : List Nat} {n m : Nat} (h : tr_after l n = some m) : m ∈ l := by
  induction l with
  | nil => cases h
  | cons a l ih =>
    simp only [tr_after] at h
    by_cases ha : a = n
    · rw [if_pos ha] at h
      exact List.mem_cons_of_mem _ (List.mem_of_head? h)
    · rw [if_neg ha] at h
      exact List.mem_cons_of_mem _ (ih h)
theorem tr_nx_lt {T : tr_T} (h : tr_wf T) {n m : Nat} (hn : n < tr_N T) (hm : tr_nx T n = some m) : m < tr_N T := by
  unfold tr_nx at hm
  cases hp : tr_pa T n with
  | none => rw [hp] at hm; cases hm
  | some p =>
    rw [hp] at hm
    exact (h.2.2.1 p m (tr_pa_lt h hn hp) (tr_after_mem hm)).1
theorem tr_ch_lt {T : tr_T} (h : tr_wf T) {n m : Nat} (hn : n < tr_N T) (hm : (tr_ch T n).head? = some m) : m < tr_N T := (h.2.2.1 n m hn (List.mem_of_head? hm)).1
theorem tr_climb_lt {T : tr_T} (h : tr_wf T) (k : Nat) : ∀ {n m : Nat}, n < tr_N T → tr_climb T k n = some m → m < tr_N T := by
  induction k with
  | zero => intro n m _ hm; cases hm
  | succ k ih =>
    intro n m hn hm
    simp only [tr_climb] at hm
    cases hx : tr_nx T n with
    | some c => rw [hx] at hm; cases hm; exact tr_nx_lt h hn hx
    | none =>
      rw [hx] at hm
      cases hp : tr_pa T n with
      | none => rw [hp] at hm; cases hm
      | some p => rw [hp] at hm; exact ih (tr_pa_lt h hn hp) hm
theorem tr_nto_lt {T : tr_T} (h : tr_wf T) {n m : Nat} (hn : n < tr_N T) (hm : tr_nto T n = some m) : m < tr_N T := by
  unfold tr_nto at hm
  cases hc : (tr_ch T n).head? with
  | some c => rw [hc] at hm; cases hm; exact tr_ch_lt h hn hc
  | none => rw [hc] at hm; exact tr_climb_lt h 24 hn hm
/-- what the objects of the nodes hold -/
def tr_R (na : Nat → Nat) (T : tr_T) (σ : en_S) : Prop :=
  (∀ n, n < tr_N T → en_cl σ (na n) = some 4 ∧ en_fi σ 400 (na n) = nI n ∧ en_fi σ 401 (na n) = tr_kd T n ∧ (tr_el T n → en_fi σ 402 (na n) = tr_nm T n) ∧ en_fr σ 403 (na n) = (tr_ho T n).map na ∧ en_fr σ 404 (na n) = (tr_pa T n).map na ∧ en_fr σ 405 (na n) = ((tr_ch T n).head?).map na ∧ en_fr σ 406 (na n) = ((tr_ch T n).getLast?).map na ∧ en_fr σ 407 (na n) = (tr_pv T n).map na ∧ en_fr σ 408 (na n) = (tr_nx T n).map na ∧ en_fr σ 409 (na n) = (tr_sh T n).map na) ∧
  (∀ n m, n < tr_N T → m < tr_N T → na n = na m → n = m)
theorem tr_R.upr {na : Nat → Nat} {T : tr_T} {σ : en_S} (h : tr_R na T σ) {n : Nat} (hn : n < tr_N T) : (if en_fr σ 404 (na n) = none then en_fr σ 403 (na n) else en_fr σ 404 (na n)) = (tr_up T n).map na := by
  obtain ⟨-, -, -, -, h5, h6, -⟩ := h.1 n hn
  rw [h5, h6]
  unfold tr_up
  cases hp : tr_pa T n with
  | none => rfl
  | some p => rfl
