/-! ORDER in the tree: by parents and children; by hosts and shadows too -/
theorem od_after {l : List Nat} {n : Nat} : tr_after l n = (od_suf l n).head? := by
  induction l with
  | nil => rfl
  | cons a l ih =>
    simp only [tr_after, od_suf]
    by_cases e : a = n
    · rw [if_pos e, if_pos e]
    · rw [if_neg e, if_neg e]; exact ih
theorem od_pa_up {T : tr_T} {n p : Nat} (h : tr_pa T n = some p) : tr_up T n = some p := by
  unfold tr_up; rw [if_neg (by rw [h]; exact fun z => by cases z)]; exact h
theorem od_it_tr {T : tr_T} : ∀ (k n : Nat), od_it (tr_up T) k n = tr_it T k n := by
  intro k
  induction k with
  | zero => intro n; rfl
  | succ k ih =>
    intro n
    simp only [od_it, tr_it]
    cases tr_up T n with
    | none => rfl
    | some m => exact ih m
theorem od_cov_tr {T : tr_T} : ∀ (k a n : Nat), od_cov (tr_up T) k a n = tr_cov T k a n := by
  intro k
  induction k with
  | zero => intro a n; rfl
  | succ k ih =>
    intro a n
    simp only [od_cov, tr_cov]
    by_cases e : n = a
    · rw [if_pos e, if_pos e]
    · rw [if_neg e, if_neg e]
      cases tr_up T n with
      | none => rfl
      | some m => exact ih a m
theorem od_it_pa {T : tr_T} : ∀ (k n : Nat), tr_it T k n = none → od_it (tr_pa T) k n = none := by
  intro k
  induction k with
  | zero => intro n h; cases h
  | succ k ih =>
    intro n h
    simp only [od_it]
    cases hp : tr_pa T n with
    | none => rfl
    | some p => exact ih p (tr_it_pa h hp)
theorem od_okP {T : tr_T} (hw : tr_wf T) : od_ok (tr_pa T) (tr_ch T) (tr_N T) :=
  ⟨fun p c hp hc => hw.2.2.1 p c hp hc, fun c p hc hu => ⟨(hw.2.1 c p hc hu).1, (hw.2.1 c p hc hu).2.1⟩, hw.2.2.2.1, fun n hn => od_it_pa 24 n (hw.2.2.2.2.2.2.2.2 n hn)⟩
def tr_kp (T : tr_T) (n : Nat) : List Nat := (tr_sh T n).toList ++ tr_ch T n
theorem od_sh {T : tr_T} (hw : tr_wf T) {n h : Nat} (hn : n < tr_N T) (hh : tr_ho T n = some h) : tr_pa T n = none ∧ tr_up T n = some h := by
  have hk := (hw.2.2.2.2.1 n h hn hh).2.2
  have : tr_pa T n = none := by
    cases hp : tr_pa T n with
    | none => rfl
    | some p =>
      have := (hw.2.1 n p hn hp).2.2
      unfold tr_el at this
      rw [hk] at this
      rcases this with z | z | z <;> exact absurd z (by decide)
  exact ⟨this, by unfold tr_up; rw [if_pos this]; exact hh⟩
theorem od_noho {T : tr_T} (hw : tr_wf T) {n p : Nat} (hn : n < tr_N T) (hp : tr_pa T n = some p) : tr_ho T n = none := by
  cases hh : tr_ho T n with
  | none => rfl
  | some h => have := (od_sh hw hn hh).1; rw [hp] at this; cases this
theorem od_okU {T : tr_T} (hw : tr_wf T) : od_ok (tr_up T) (tr_kp T) (tr_N T) := by
  refine ⟨fun p c hp hc => ?_, fun c p hc hu => ?_, fun p hp => ?_, fun n hn => by rw [od_it_tr]; exact hw.2.2.2.2.2.2.2.2 n hn⟩
  · unfold tr_kp at hc
    rcases List.mem_append.mp hc with z | z
    · have hs : tr_sh T p = some c := by
        cases hs : tr_sh T p with
        | none => rw [hs] at z; cases z
        | some s => rw [hs] at z; rw [List.mem_singleton.mp z]
      obtain ⟨h1, h2, h3⟩ := hw.2.2.2.2.2.1 p c hp hs
      exact ⟨h1, (od_sh hw h1 h2).2⟩
    · obtain ⟨h1, h2⟩ := hw.2.2.1 p c hp z
      exact ⟨h1, od_pa_up h2⟩
  · refine ⟨tr_up_lt hw hc hu, ?_⟩
    unfold tr_kp
    cases hp : tr_pa T c with
    | some q =>
      rw [od_pa_up hp] at hu
      cases hu
      exact List.mem_append_right _ (hw.2.1 c p hc hp).2.1
    | none =>
      unfold tr_up at hu
      rw [if_pos hp] at hu
      have := (hw.2.2.2.2.1 c p hc hu).2.1
      rw [this]
      exact List.mem_append_left _ List.mem_cons_self
  · unfold tr_kp
    have h4 := hw.2.2.2.1 p hp
    cases hs : tr_sh T p with
    | none => exact h4
    | some s =>
      obtain ⟨h1, h2, h3⟩ := hw.2.2.2.2.2.1 p s hp hs
      show (s :: tr_ch T p).Nodup
      refine List.nodup_cons.mpr ⟨fun z => ?_, h4⟩
      have := (hw.2.2.1 p s hp z).2
      rw [(od_sh hw h1 h2).1] at this; cases this
/-! the next in tree order -/
theorem od_climb {T : tr_T} : ∀ (k n : Nat), tr_climb T k n = (od_pend (tr_pa T) (tr_ch T) k n).head? := by
  intro k
  induction k with
  | zero => intro n; rfl
  | succ k ih =>
    intro n
    simp only [tr_climb, od_pend, tr_nx]
    cases hp : tr_pa T n with
    | none => rfl
    | some p =>
      simp only
      rw [od_after, List.head?_append]
      cases hs : (od_suf (tr_ch T p) n).head? with
      | some m => rfl
      | none => exact ih p
theorem od_nto {T : tr_T} {n : Nat} : tr_nto T n = (tr_ch T n ++ od_pend (tr_pa T) (tr_ch T) 24 n).head? := by
  unfold tr_nto
  rw [od_climb, List.head?_append]
  cases (tr_ch T n).head? with
  | none => rfl
  | some c => rfl
theorem od_suf_app {l r : List Nat} {n : Nat} (h : n ∉ l) : od_suf (l ++ r) n = od_suf r n := by
  induction l with
  | nil => rfl
  | cons a l ih =>
    rw [List.cons_append]
    simp only [od_suf]
    rw [if_neg (fun z => h (by rw [z]; exact List.mem_cons_self))]
    exact ih (fun z => h (List.mem_cons_of_mem _ z))
theorem od_sclimb {T : tr_T} (hw : tr_wf T) : ∀ (k n : Nat), n < tr_N T → tr_sclimb T k n = (od_pend (tr_up T) (tr_kp T) k n).head? := by
  intro k
  induction k with
  | zero => intro n _; rfl
  | succ k ih =>
    intro n hn
    simp only [tr_sclimb, od_pend, tr_sn]
    cases hh : tr_ho T n with
    | some h =>
      obtain ⟨h1, h2⟩ := od_sh hw hn hh
      obtain ⟨h3, h4, h5⟩ := hw.2.2.2.2.1 n h hn hh
      rw [h2]
      simp only
      have : od_suf (tr_kp T h) n = tr_ch T h := by
        unfold tr_kp
        rw [h4]
        simp [od_suf]
      rw [this, List.head?_append]
      cases hs : (tr_ch T h).head? with
      | some m => rfl
      | none => exact ih h h3
    | none =>
      cases hp : tr_pa T n with
      | none =>
        have hu : tr_up T n = none := by unfold tr_up; rw [if_pos hp]; exact hh
        simp only [tr_nx, hp, hu]
        rfl
      | some p =>
        have hpl := tr_pa_lt hw hn hp
        rw [od_pa_up hp]
        simp only [tr_nx, hp]
        have : od_suf (tr_kp T p) n = od_suf (tr_ch T p) n := by
          unfold tr_kp
          refine od_suf_app (fun z => ?_)
          cases hs : tr_sh T p with
          | none => rw [hs] at z; cases z
          | some s =>
            rw [hs] at z
            have := (hw.2.2.2.2.2.1 p s hpl hs).2.1
            rw [← List.mem_singleton.mp z, hh] at this
            cases this
        rw [this, List.head?_append, od_after]
        cases hs : (od_suf (tr_ch T p) n).head? with
        | some m => rfl
        | none => exact ih p hpl
theorem od_nso {T : tr_T} (hw : tr_wf T) {n : Nat} (hn : n < tr_N T) : tr_nso T n = (tr_kp T n ++ od_pend (tr_up T) (tr_kp T) 24 n).head? := by
  unfold tr_nso
  rw [od_sclimb hw 24 n hn, tr_kp, List.head?_append, List.head?_append]
  cases tr_sh T n with
  | some s => rfl
  | none =>
    simp only [Option.toList, List.head?_nil, Option.none_or]
    cases (tr_ch T n).head? with
    | none => rfl
    | some c => rfl
/-! roots -/
theorem od_rootF {T : tr_T} : ∀ (k k' n : Nat), od_it (tr_pa T) k n = none → od_it (tr_pa T) k' n = none → tr_rootF T k n = tr_rootF T k' n := by
  intro k
  induction k with
  | zero => intro k' n h; cases h
  | succ k ih =>
    intro k' n h h'
    cases k' with
    | zero => cases h'
    | succ k' =>
      simp only [tr_rootF]
      cases hp : tr_pa T n with
      | none => rfl
      | some p => exact ih k' p (od_it_s h hp) (od_it_s h' hp)
theorem od_root_up {T : tr_T} (hw : tr_wf T) {n p : Nat} (hn : n < tr_N T) (hp : tr_pa T n = some p) : tr_root T n = tr_root T p := by
  have h24 := (od_okP hw).2.2.2 n hn
  have hp24 := (od_okP hw).2.2.2 p (tr_pa_lt hw hn hp)
  unfold tr_root
  show (match tr_pa T n with
    | none => n
    | some p => tr_rootF T 23 p) = _
  rw [hp]
  exact od_rootF 23 24 p (od_it_s h24 hp) hp24
theorem od_root_0 {T : tr_T} {n : Nat} (hp : tr_pa T n = none) : tr_root T n = n := by
  unfold tr_root
  show (match tr_pa T n with
    | none => n
    | some p => tr_rootF T 23 p) = _
  rw [hp]
theorem od_root_lt {T : tr_T} (hw : tr_wf T) : ∀ (k n : Nat), n < tr_N T → tr_rootF T k n < tr_N T := by
  intro k
  induction k with
  | zero => intro n hn; exact hn
  | succ k ih =>
    intro n hn
    simp only [tr_rootF]
    cases hp : tr_pa T n with
    | none => exact hn
    | some p => exact ih p (tr_pa_lt hw hn hp)
theorem od_pend_root {T : tr_T} (hw : tr_wf T) : ∀ (k n c : Nat), n < tr_N T → c ∈ od_pend (tr_pa T) (tr_ch T) k n → c < tr_N T ∧ tr_root T c = tr_root T n ∧ tr_pa T c ≠ none := by
  intro k
  induction k with
  | zero => intro n c _ h; cases h
  | succ k ih =>
    intro n c hn h
    simp only [od_pend] at h
    cases hp : tr_pa T n with
    | none => rw [hp] at h; cases h
    | some p =>
      rw [hp] at h
      have hpl := tr_pa_lt hw hn hp
      rcases List.mem_append.mp h with z | z
      · obtain ⟨h1, h2⟩ := hw.2.2.1 p c hpl (od_suf_mem z)
        exact ⟨h1, by rw [od_root_up hw h1 h2, od_root_up hw hn hp], by rw [h2]; simp⟩
      · obtain ⟨h1, h2, h3⟩ := ih p c hpl z
        exact ⟨h1, by rw [h2, od_root_up hw hn hp], h3⟩
theorem od_nto_root {T : tr_T} (hw : tr_wf T) {n c : Nat} (hn : n < tr_N T) (h : tr_nto T n = some c) : c < tr_N T ∧ tr_root T c = tr_root T n ∧ tr_pa T c ≠ none := by
  rw [od_nto] at h
  have hm := List.mem_of_head? h
  rcases List.mem_append.mp hm with z | z
  · obtain ⟨h1, h2⟩ := hw.2.2.1 n c hn z
    exact ⟨h1, od_root_up hw h1 h2, by rw [h2]; simp⟩
  · exact od_pend_root hw 24 n c hn z
/-! slots -/
theorem od_asF {T : tr_T} (hw : tr_wf T) {w : Int32} : ∀ (k x s : Nat), x < tr_N T → tr_asF T w k (some x) = some s → s < tr_N T ∧ tr_root T s = tr_root T x ∧ tr_kd T s = 1 := by
  intro k
  induction k with
  | zero => intro x s _ h; cases h
  | succ k ih =>
    intro x s hx h
    simp only [tr_asF] at h
    by_cases e : tr_kd T x = 1 ∧ tr_nm T x = w
    · rw [if_pos e] at h
      cases h
      exact ⟨hx, rfl, e.1⟩
    · rw [if_neg e] at h
      cases hn : tr_nto T x with
      | none => rw [hn] at h; cases k <;> cases h
      | some y =>
        rw [hn] at h
        obtain ⟨h1, h2, h3⟩ := od_nto_root hw hx hn
        obtain ⟨g1, g2, g3⟩ := ih y s h1 h
        exact ⟨g1, by rw [g2, h2], g3⟩
theorem od_as {T : tr_T} (hw : tr_wf T) {n s : Nat} (hn : n < tr_N T) (h : tr_as T n = some s) : ∃ p t, tr_pa T n = some p ∧ tr_sh T p = some t ∧ s < tr_N T ∧ tr_root T s = t ∧ tr_kd T s = 1 := by
  unfold tr_as at h
  cases hp : tr_pa T n with
  | none => rw [hp] at h; cases h
  | some p =>
    rw [hp] at h
    have hpl := tr_pa_lt hw hn hp
    have h : tr_asF T (tr_nm T n) 24 (tr_sh T p) = some s := h
    cases ht : tr_sh T p with
    | none =>
      rw [ht] at h
      have e : tr_asF T (tr_nm T n) 24 none = none := rfl
      rw [e] at h; cases h
    | some t =>
      rw [ht] at h
      obtain ⟨t1, t2, t3⟩ := hw.2.2.2.2.2.1 p t hpl ht
      obtain ⟨g1, g2, g3⟩ := od_asF hw 24 t s t1 h
      exact ⟨p, t, rfl, ht, g1, by rw [g2, od_root_0 (od_sh hw t1 t2).1], g3⟩
/-- what lies behind a node grows downwards -/
theorem od_aft_root {T : tr_T} (hw : tr_wf T) : ∀ (k n : Nat), n < tr_N T → od_W (tr_up T) (tr_N T) (od_pend (tr_up T) (tr_kp T) 24 (tr_rootF T k n)) ≤ od_W (tr_up T) (tr_N T) (od_pend (tr_up T) (tr_kp T) 24 n) := by
  intro k
  induction k with
  | zero => intro n _; exact Nat.le_refl _
  | succ k ih =>
    intro n hn
    simp only [tr_rootF]
    cases hp : tr_pa T n with
    | none => exact Nat.le_refl _
    | some p =>
      have := ih p (tr_pa_lt hw hn hp)
      rw [od_pend_up (od_okU hw) hn (od_pa_up hp), od_W_app]
      simp only
      omega
def tr_Rk (T : tr_T) (n : Nat) : Nat := od_R (tr_up T) (tr_kp T) (tr_N T) n
theorem od_nxt {T : tr_T} (hw : tr_wf T) {n m : Nat} (hn : n < tr_N T) (h : ds_nxt T n = some m) : m < tr_N T ∧ tr_Rk T n < tr_Rk T m := by
  unfold ds_nxt at h
  cases ha : tr_as T n with
  | none =>
    rw [ha] at h
    exact ⟨tr_up_lt hw hn h, od_R_up (od_okU hw) hn h⟩
  | some s =>
    rw [ha] at h
    cases h
    obtain ⟨p, t, h1, h2, h3, h4, h5⟩ := od_as hw hn ha
    have hpl := tr_pa_lt hw hn h1
    obtain ⟨t1, t2, t3⟩ := hw.2.2.2.2.2.1 p t hpl h2
    refine ⟨h3, ?_⟩
    have a1 := od_aft_root hw 24 m h3
    have a2 : tr_rootF T 24 m = t := h4
    rw [a2, od_pend_up (od_okU hw) t1 (od_sh hw t1 t2).2, od_W_app] at a1
    have a3 : od_suf (tr_kp T p) t = tr_ch T p := by
      unfold tr_kp
      rw [h2]
      simp [od_suf]
    rw [a3] at a1
    have a4 := od_w_pos (od_okU hw) h3
    have hm := (hw.2.1 n p hn h1).2.1
    have a5 := od_suf_W (u := tr_up T) (N := tr_N T) hm
    have a6 : od_suf (tr_kp T p) n = od_suf (tr_ch T p) n := by
      unfold tr_kp
      refine od_suf_app (fun z => ?_)
      rw [h2] at z
      rw [List.mem_singleton.mp z, (od_sh hw t1 t2).1] at h1
      cases h1
    unfold tr_Rk od_R
    rw [od_W_cons, od_W_cons, od_pend_up (od_okU hw) hn (od_pa_up h1), od_W_app, a6]
    omega
theorem tr_Rk_le {T : tr_T} (hw : tr_wf T) {n : Nat} (hn : n < tr_N T) : 1 ≤ tr_Rk T n ∧ tr_Rk T n ≤ 24 :=
  ⟨od_R_pos (od_okU hw) hn, Nat.le_trans (od_R_le (od_okU hw) 24 n hn ((od_okU hw).2.2.2 n hn)) hw.1.2⟩
/-! the walk for a slot ends within its steps -/
def tr_Pk (T : tr_T) (n : Nat) : Nat := od_R (tr_pa T) (tr_ch T) (tr_N T) n
theorem tr_Pk_le {T : tr_T} (hw : tr_wf T) {n : Nat} (hn : n < tr_N T) : 1 ≤ tr_Pk T n ∧ tr_Pk T n ≤ 24 :=
  ⟨od_R_pos (od_okP hw) hn, Nat.le_trans (od_R_le (od_okP hw) 24 n hn ((od_okP hw).2.2.2 n hn)) hw.1.2⟩
theorem tr_Pk_nto {T : tr_T} (hw : tr_wf T) {n m : Nat} (hn : n < tr_N T) (h : tr_nto T n = some m) : m < tr_N T ∧ tr_Pk T n = tr_Pk T m + 1 := od_R_next (od_okP hw) hn (by rw [← od_nto]; exact h)
theorem tr_Rk_nso {T : tr_T} (hw : tr_wf T) {n m : Nat} (hn : n < tr_N T) (h : tr_nso T n = some m) : m < tr_N T ∧ tr_Rk T n = tr_Rk T m + 1 := od_R_next (od_okU hw) hn (by rw [← od_nso hw hn]; exact h)
