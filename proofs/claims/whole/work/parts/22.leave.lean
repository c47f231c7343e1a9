
theorem tr_it_self {T : tr_T} {n : Nat} (h : tr_up T n = some n) : ∀ k, tr_it T k n = some n := by
  intro k
  induction k with
  | zero => rfl
  | succ k ih => simp only [tr_it, h]; exact ih
theorem tr_noself {T : tr_T} (hw : tr_wf T) {n : Nat} (hn : n < tr_N T) (hp : tr_pa T n = some n) : False := by
  have hu : tr_up T n = some n := by unfold tr_up; rw [if_neg (by rw [hp]; exact fun z => by cases z)]; exact hp
  have h1 := hw.2.2.2.2.2.2.2.2 n hn
  rw [tr_it_self hu 24] at h1
  cases h1

def tr_leave (T : tr_T) (n : Nat) : tr_T := (T.1, T.2.1, T.2.2.1, fun m => if m = n then none else tr_pa T m, T.2.2.2.2.1, T.2.2.2.2.2.1, fun p => if tr_pa T n = some p then (tr_ch T p).erase n else tr_ch T p)
/-- the store but for the links of the nodes -/
def tr_frm (σ σ' : en_S) : Prop := en_cl σ' = en_cl σ ∧ en_fi σ' = en_fi σ ∧ en_fd σ' = en_fd σ ∧ en_al σ' = en_al σ ∧ en_ai σ' = en_ai σ ∧ en_ar σ' = en_ar σ ∧ en_ad σ' = en_ad σ ∧ en_aj σ' = en_aj σ ∧ en_nx σ' = en_nx σ ∧ en_ns σ' = en_ns σ ∧ ∀ f a, ¬ (404 ≤ f ∧ f ≤ 408) → en_fr σ' f a = en_fr σ f a
theorem tr_frm.rf {σ : en_S} : tr_frm σ σ := ⟨rfl, rfl, rfl, rfl, rfl, rfl, rfl, rfl, rfl, rfl, fun _ _ _ => rfl⟩
theorem tr_frm.tr {σ σ1 σ2 : en_S} (h : tr_frm σ σ1) (k : tr_frm σ1 σ2) : tr_frm σ σ2 := ⟨k.1.trans h.1, k.2.1.trans h.2.1, k.2.2.1.trans h.2.2.1, k.2.2.2.1.trans h.2.2.2.1, k.2.2.2.2.1.trans h.2.2.2.2.1, k.2.2.2.2.2.1.trans h.2.2.2.2.2.1, k.2.2.2.2.2.2.1.trans h.2.2.2.2.2.2.1, k.2.2.2.2.2.2.2.1.trans h.2.2.2.2.2.2.2.1, k.2.2.2.2.2.2.2.2.1.trans h.2.2.2.2.2.2.2.2.1, k.2.2.2.2.2.2.2.2.2.1.trans h.2.2.2.2.2.2.2.2.2.1, fun f a hf => (k.2.2.2.2.2.2.2.2.2.2 f a hf).trans (h.2.2.2.2.2.2.2.2.2.2 f a hf)⟩
theorem tr_frm.put {σ : en_S} {f a : Nat} {v : Option Nat} (h : 404 ≤ f ∧ f ≤ 408) : tr_frm σ (en_sfr σ f a v) := ⟨rfl, rfl, rfl, rfl, rfl, rfl, rfl, rfl, rfl, rfl, fun g b hg => by rw [eg_fr_sfr, if_neg (fun z => hg (by rw [z.1]; exact h))]⟩
def C_X4_leave : en_C := en_gh (γ := (Nat → Nat) × tr_T × Nat) (fun g as σ => tr_R g.1 g.2.1 σ ∧ tr_wf g.2.1 ∧ g.2.2 < tr_N g.2.1 ∧ as = [en_R (some (g.1 g.2.2))]) (fun g as σ r σ' => r = none ∧ tr_R g.1 (tr_leave g.2.1 g.2.2) σ' ∧ tr_frm σ σ')
theorem pr_X4_leave : ∀ as σ, C_X4_leave.1 as σ → ∃ b tl, as = en_R (some b) :: tl ∧ en_cl σ b = some 4 ∧ tl.length = 0 := fun as σ ⟨g, h1, _, h2, h3⟩ => ⟨_, [], h3, (h1.1 _ h2).1, rfl⟩
def ca_X4_leave (G : en_G) : List (Nat × Nat × en_C) := []
def X_X4_leave (G : en_G) (q : Option en_V → en_S → Prop) : en_X := en_mk G cX4_leave (en_lk fl4) (en_lk nw4) (en_lk aw4) (en_lk dc4) (en_lk (ca_X4_leave G)) 0 false q
theorem d_X4_leave_0 : decode cX4_leave 0 = .ok (.aload_n 0, 1) := by decide +kernel
theorem j_X4_leave_0 {G : en_G} {q : Option en_V → en_S → Prop}  {x0 : Option Nat} {σ : en_S} : en_J (X_X4_leave G q) 0 [en_R x0] [] σ ↔ en_J (X_X4_leave G q) 1 [en_R x0] [en_R x0] σ := en_j1 d_X4_leave_0 rfl rfl
theorem d_X4_leave_1 : decode cX4_leave 1 = .ok (.getfield 38, 3) := by decide +kernel
theorem j_X4_leave_1 {G : en_G} {q : Option en_V → en_S → Prop}  {l0 : en_V} {a0 : Option Nat} {σ : en_S} : en_J (X_X4_leave G q) 1 [l0] [en_R a0] σ ↔ ∃ a, a0 = some a ∧ en_cl σ a = some 4 ∧ en_J (X_X4_leave G q) 4 [l0] [en_R (en_fr σ 407 a)] σ := en_jg (st := fun o => [en_R o]) (st' := fun a => [en_R (en_fr σ 407 a)]) (σ' := fun _ => σ) d_X4_leave_1 rfl (fun a => rfl) (fun a => ⟨fun h => h.2, fun h => ⟨rfl, h⟩⟩)
theorem d_X4_leave_4 : decode cX4_leave 4 = .ok (.ifnull 17, 3) := by decide +kernel
theorem j_X4_leave_4 {G : en_G} {q : Option en_V → en_S → Prop}  {l0 : en_V} {a0 : Option Nat} {σ : en_S} : en_J (X_X4_leave G q) 4 [l0] [en_R a0] σ ↔ (a0 = none → en_J (X_X4_leave G q) 21 [l0] [] σ) ∧ (¬ (a0 = none) → en_J (X_X4_leave G q) 7 [l0] [] σ) := en_jb d_X4_leave_4 rfl ⟨rfl, by decide⟩
theorem d_X4_leave_7 : decode cX4_leave 7 = .ok (.aload_n 0, 1) := by decide +kernel
theorem j_X4_leave_7 {G : en_G} {q : Option en_V → en_S → Prop}  {x0 : Option Nat} {σ : en_S} : en_J (X_X4_leave G q) 7 [en_R x0] [] σ ↔ en_J (X_X4_leave G q) 8 [en_R x0] [en_R x0] σ := en_j1 d_X4_leave_7 rfl rfl
theorem d_X4_leave_8 : decode cX4_leave 8 = .ok (.getfield 38, 3) := by decide +kernel
theorem j_X4_leave_8 {G : en_G} {q : Option en_V → en_S → Prop}  {l0 : en_V} {a0 : Option Nat} {σ : en_S} : en_J (X_X4_leave G q) 8 [l0] [en_R a0] σ ↔ ∃ a, a0 = some a ∧ en_cl σ a = some 4 ∧ en_J (X_X4_leave G q) 11 [l0] [en_R (en_fr σ 407 a)] σ := en_jg (st := fun o => [en_R o]) (st' := fun a => [en_R (en_fr σ 407 a)]) (σ' := fun _ => σ) d_X4_leave_8 rfl (fun a => rfl) (fun a => ⟨fun h => h.2, fun h => ⟨rfl, h⟩⟩)
theorem d_X4_leave_11 : decode cX4_leave 11 = .ok (.aload_n 0, 1) := by decide +kernel
theorem j_X4_leave_11 {G : en_G} {q : Option en_V → en_S → Prop}  {a0 : Option Nat} {x0 : Option Nat} {σ : en_S} : en_J (X_X4_leave G q) 11 [en_R x0] [en_R a0] σ ↔ en_J (X_X4_leave G q) 12 [en_R x0] [en_R x0, en_R a0] σ := en_j1 d_X4_leave_11 rfl rfl
theorem d_X4_leave_12 : decode cX4_leave 12 = .ok (.getfield 35, 3) := by decide +kernel
theorem j_X4_leave_12 {G : en_G} {q : Option en_V → en_S → Prop}  {l0 : en_V} {a0 : Option Nat} {a1 : Option Nat} {σ : en_S} : en_J (X_X4_leave G q) 12 [l0] [en_R a0, en_R a1] σ ↔ ∃ a, a0 = some a ∧ en_cl σ a = some 4 ∧ en_J (X_X4_leave G q) 15 [l0] [en_R (en_fr σ 408 a), en_R a1] σ := en_jg (st := fun o => [en_R o, en_R a1]) (st' := fun a => [en_R (en_fr σ 408 a), en_R a1]) (σ' := fun _ => σ) d_X4_leave_12 rfl (fun a => rfl) (fun a => ⟨fun h => h.2, fun h => ⟨rfl, h⟩⟩)
theorem d_X4_leave_15 : decode cX4_leave 15 = .ok (.putfield 35, 3) := by decide +kernel
theorem j_X4_leave_15 {G : en_G} {q : Option en_V → en_S → Prop}  {l0 : en_V} {a0 : Option Nat} {a1 : Option Nat} {σ : en_S} : en_J (X_X4_leave G q) 15 [l0] [en_R a0, en_R a1] σ ↔ ∃ a, a1 = some a ∧ en_cl σ a = some 4 ∧ en_J (X_X4_leave G q) 18 [l0] [] (en_sfr σ 408 a a0) := en_jg (st := fun o => [en_R a0, en_R o]) (st' := fun _ => []) (σ' := fun a => en_sfr σ 408 a a0) d_X4_leave_15 rfl (fun a => rfl) (fun a => ⟨fun h => h.2.1, fun h => ⟨rfl, h, trivial, fun z => absurd z (by decide +kernel)⟩⟩)
theorem d_X4_leave_18 : decode cX4_leave 18 = .ok (.goto 21, 3) := by decide +kernel
theorem j_X4_leave_18 {G : en_G} {q : Option en_V → en_S → Prop}  {l0 : en_V}  {σ : en_S} : en_J (X_X4_leave G q) 18 [l0] [] σ ↔ en_J (X_X4_leave G q) 39 [l0] [] σ := en_j1 d_X4_leave_18 rfl ⟨rfl, by decide⟩
theorem d_X4_leave_21 : decode cX4_leave 21 = .ok (.aload_n 0, 1) := by decide +kernel
theorem j_X4_leave_21 {G : en_G} {q : Option en_V → en_S → Prop}  {x0 : Option Nat} {σ : en_S} : en_J (X_X4_leave G q) 21 [en_R x0] [] σ ↔ en_J (X_X4_leave G q) 22 [en_R x0] [en_R x0] σ := en_j1 d_X4_leave_21 rfl rfl
theorem d_X4_leave_22 : decode cX4_leave 22 = .ok (.getfield 25, 3) := by decide +kernel
theorem j_X4_leave_22 {G : en_G} {q : Option en_V → en_S → Prop}  {l0 : en_V} {a0 : Option Nat} {σ : en_S} : en_J (X_X4_leave G q) 22 [l0] [en_R a0] σ ↔ ∃ a, a0 = some a ∧ en_cl σ a = some 4 ∧ en_J (X_X4_leave G q) 25 [l0] [en_R (en_fr σ 404 a)] σ := en_jg (st := fun o => [en_R o]) (st' := fun a => [en_R (en_fr σ 404 a)]) (σ' := fun _ => σ) d_X4_leave_22 rfl (fun a => rfl) (fun a => ⟨fun h => h.2, fun h => ⟨rfl, h⟩⟩)
theorem d_X4_leave_25 : decode cX4_leave 25 = .ok (.ifnull 14, 3) := by decide +kernel
theorem j_X4_leave_25 {G : en_G} {q : Option en_V → en_S → Prop}  {l0 : en_V} {a0 : Option Nat} {σ : en_S} : en_J (X_X4_leave G q) 25 [l0] [en_R a0] σ ↔ (a0 = none → en_J (X_X4_leave G q) 39 [l0] [] σ) ∧ (¬ (a0 = none) → en_J (X_X4_leave G q) 28 [l0] [] σ) := en_jb d_X4_leave_25 rfl ⟨rfl, by decide⟩
theorem d_X4_leave_28 : decode cX4_leave 28 = .ok (.aload_n 0, 1) := by decide +kernel
theorem j_X4_leave_28 {G : en_G} {q : Option en_V → en_S → Prop}  {x0 : Option Nat} {σ : en_S} : en_J (X_X4_leave G q) 28 [en_R x0] [] σ ↔ en_J (X_X4_leave G q) 29 [en_R x0] [en_R x0] σ := en_j1 d_X4_leave_28 rfl rfl
theorem d_X4_leave_29 : decode cX4_leave 29 = .ok (.getfield 25, 3) := by decide +kernel
theorem j_X4_leave_29 {G : en_G} {q : Option en_V → en_S → Prop}  {l0 : en_V} {a0 : Option Nat} {σ : en_S} : en_J (X_X4_leave G q) 29 [l0] [en_R a0] σ ↔ ∃ a, a0 = some a ∧ en_cl σ a = some 4 ∧ en_J (X_X4_leave G q) 32 [l0] [en_R (en_fr σ 404 a)] σ := en_jg (st := fun o => [en_R o]) (st' := fun a => [en_R (en_fr σ 404 a)]) (σ' := fun _ => σ) d_X4_leave_29 rfl (fun a => rfl) (fun a => ⟨fun h => h.2, fun h => ⟨rfl, h⟩⟩)
theorem d_X4_leave_32 : decode cX4_leave 32 = .ok (.aload_n 0, 1) := by decide +kernel
theorem j_X4_leave_32 {G : en_G} {q : Option en_V → en_S → Prop}  {a0 : Option Nat} {x0 : Option Nat} {σ : en_S} : en_J (X_X4_leave G q) 32 [en_R x0] [en_R a0] σ ↔ en_J (X_X4_leave G q) 33 [en_R x0] [en_R x0, en_R a0] σ := en_j1 d_X4_leave_32 rfl rfl
theorem d_X4_leave_33 : decode cX4_leave 33 = .ok (.getfield 35, 3) := by decide +kernel
theorem j_X4_leave_33 {G : en_G} {q : Option en_V → en_S → Prop}  {l0 : en_V} {a0 : Option Nat} {a1 : Option Nat} {σ : en_S} : en_J (X_X4_leave G q) 33 [l0] [en_R a0, en_R a1] σ ↔ ∃ a, a0 = some a ∧ en_cl σ a = some 4 ∧ en_J (X_X4_leave G q) 36 [l0] [en_R (en_fr σ 408 a), en_R a1] σ := en_jg (st := fun o => [en_R o, en_R a1]) (st' := fun a => [en_R (en_fr σ 408 a), en_R a1]) (σ' := fun _ => σ) d_X4_leave_33 rfl (fun a => rfl) (fun a => ⟨fun h => h.2, fun h => ⟨rfl, h⟩⟩)
theorem d_X4_leave_36 : decode cX4_leave 36 = .ok (.putfield 32, 3) := by decide +kernel
theorem j_X4_leave_36 {G : en_G} {q : Option en_V → en_S → Prop}  {l0 : en_V} {a0 : Option Nat} {a1 : Option Nat} {σ : en_S} : en_J (X_X4_leave G q) 36 [l0] [en_R a0, en_R a1] σ ↔ ∃ a, a1 = some a ∧ en_cl σ a = some 4 ∧ en_J (X_X4_leave G q) 39 [l0] [] (en_sfr σ 405 a a0) := en_jg (st := fun o => [en_R a0, en_R o]) (st' := fun _ => []) (σ' := fun a => en_sfr σ 405 a a0) d_X4_leave_36 rfl (fun a => rfl) (fun a => ⟨fun h => h.2.1, fun h => ⟨rfl, h, trivial, fun z => absurd z (by decide +kernel)⟩⟩)
theorem d_X4_leave_39 : decode cX4_leave 39 = .ok (.aload_n 0, 1) := by decide +kernel
theorem j_X4_leave_39 {G : en_G} {q : Option en_V → en_S → Prop}  {x0 : Option Nat} {σ : en_S} : en_J (X_X4_leave G q) 39 [en_R x0] [] σ ↔ en_J (X_X4_leave G q) 40 [en_R x0] [en_R x0] σ := en_j1 d_X4_leave_39 rfl rfl
theorem d_X4_leave_40 : decode cX4_leave 40 = .ok (.getfield 35, 3) := by decide +kernel
theorem j_X4_leave_40 {G : en_G} {q : Option en_V → en_S → Prop}  {l0 : en_V} {a0 : Option Nat} {σ : en_S} : en_J (X_X4_leave G q) 40 [l0] [en_R a0] σ ↔ ∃ a, a0 = some a ∧ en_cl σ a = some 4 ∧ en_J (X_X4_leave G q) 43 [l0] [en_R (en_fr σ 408 a)] σ := en_jg (st := fun o => [en_R o]) (st' := fun a => [en_R (en_fr σ 408 a)]) (σ' := fun _ => σ) d_X4_leave_40 rfl (fun a => rfl) (fun a => ⟨fun h => h.2, fun h => ⟨rfl, h⟩⟩)
theorem d_X4_leave_43 : decode cX4_leave 43 = .ok (.ifnull 17, 3) := by decide +kernel
theorem j_X4_leave_43 {G : en_G} {q : Option en_V → en_S → Prop}  {l0 : en_V} {a0 : Option Nat} {σ : en_S} : en_J (X_X4_leave G q) 43 [l0] [en_R a0] σ ↔ (a0 = none → en_J (X_X4_leave G q) 60 [l0] [] σ) ∧ (¬ (a0 = none) → en_J (X_X4_leave G q) 46 [l0] [] σ) := en_jb d_X4_leave_43 rfl ⟨rfl, by decide⟩
theorem d_X4_leave_46 : decode cX4_leave 46 = .ok (.aload_n 0, 1) := by decide +kernel
theorem j_X4_leave_46 {G : en_G} {q : Option en_V → en_S → Prop}  {x0 : Option Nat} {σ : en_S} : en_J (X_X4_leave G q) 46 [en_R x0] [] σ ↔ en_J (X_X4_leave G q) 47 [en_R x0] [en_R x0] σ := en_j1 d_X4_leave_46 rfl rfl
theorem d_X4_leave_47 : decode cX4_leave 47 = .ok (.getfield 35, 3) := by decide +kernel
theorem j_X4_leave_47 {G : en_G} {q : Option en_V → en_S → Prop}  {l0 : en_V} {a0 : Option Nat} {σ : en_S} : en_J (X_X4_leave G q) 47 [l0] [en_R a0] σ ↔ ∃ a, a0 = some a ∧ en_cl σ a = some 4 ∧ en_J (X_X4_leave G q) 50 [l0] [en_R (en_fr σ 408 a)] σ := en_jg (st := fun o => [en_R o]) (st' := fun a => [en_R (en_fr σ 408 a)]) (σ' := fun _ => σ) d_X4_leave_47 rfl (fun a => rfl) (fun a => ⟨fun h => h.2, fun h => ⟨rfl, h⟩⟩)
theorem d_X4_leave_50 : decode cX4_leave 50 = .ok (.aload_n 0, 1) := by decide +kernel
theorem j_X4_leave_50 {G : en_G} {q : Option en_V → en_S → Prop}  {a0 : Option Nat} {x0 : Option Nat} {σ : en_S} : en_J (X_X4_leave G q) 50 [en_R x0] [en_R a0] σ ↔ en_J (X_X4_leave G q) 51 [en_R x0] [en_R x0, en_R a0] σ := en_j1 d_X4_leave_50 rfl rfl
theorem d_X4_leave_51 : decode cX4_leave 51 = .ok (.getfield 38, 3) := by decide +kernel
theorem j_X4_leave_51 {G : en_G} {q : Option en_V → en_S → Prop}  {l0 : en_V} {a0 : Option Nat} {a1 : Option Nat} {σ : en_S} : en_J (X_X4_leave G q) 51 [l0] [en_R a0, en_R a1] σ ↔ ∃ a, a0 = some a ∧ en_cl σ a = some 4 ∧ en_J (X_X4_leave G q) 54 [l0] [en_R (en_fr σ 407 a), en_R a1] σ := en_jg (st := fun o => [en_R o, en_R a1]) (st' := fun a => [en_R (en_fr σ 407 a), en_R a1]) (σ' := fun _ => σ) d_X4_leave_51 rfl (fun a => rfl) (fun a => ⟨fun h => h.2, fun h => ⟨rfl, h⟩⟩)
theorem d_X4_leave_54 : decode cX4_leave 54 = .ok (.putfield 38, 3) := by decide +kernel
theorem j_X4_leave_54 {G : en_G} {q : Option en_V → en_S → Prop}  {l0 : en_V} {a0 : Option Nat} {a1 : Option Nat} {σ : en_S} : en_J (X_X4_leave G q) 54 [l0] [en_R a0, en_R a1] σ ↔ ∃ a, a1 = some a ∧ en_cl σ a = some 4 ∧ en_J (X_X4_leave G q) 57 [l0] [] (en_sfr σ 407 a a0) := en_jg (st := fun o => [en_R a0, en_R o]) (st' := fun _ => []) (σ' := fun a => en_sfr σ 407 a a0) d_X4_leave_54 rfl (fun a => rfl) (fun a => ⟨fun h => h.2.1, fun h => ⟨rfl, h, trivial, fun z => absurd z (by decide +kernel)⟩⟩)
theorem d_X4_leave_57 : decode cX4_leave 57 = .ok (.goto 21, 3) := by decide +kernel
theorem j_X4_leave_57 {G : en_G} {q : Option en_V → en_S → Prop}  {l0 : en_V}  {σ : en_S} : en_J (X_X4_leave G q) 57 [l0] [] σ ↔ en_J (X_X4_leave G q) 78 [l0] [] σ := en_j1 d_X4_leave_57 rfl ⟨rfl, by decide⟩
theorem d_X4_leave_60 : decode cX4_leave 60 = .ok (.aload_n 0, 1) := by decide +kernel
theorem j_X4_leave_60 {G : en_G} {q : Option en_V → en_S → Prop}  {x0 : Option Nat} {σ : en_S} : en_J (X_X4_leave G q) 60 [en_R x0] [] σ ↔ en_J (X_X4_leave G q) 61 [en_R x0] [en_R x0] σ := en_j1 d_X4_leave_60 rfl rfl
theorem d_X4_leave_61 : decode cX4_leave 61 = .ok (.getfield 25, 3) := by decide +kernel
theorem j_X4_leave_61 {G : en_G} {q : Option en_V → en_S → Prop}  {l0 : en_V} {a0 : Option Nat} {σ : en_S} : en_J (X_X4_leave G q) 61 [l0] [en_R a0] σ ↔ ∃ a, a0 = some a ∧ en_cl σ a = some 4 ∧ en_J (X_X4_leave G q) 64 [l0] [en_R (en_fr σ 404 a)] σ := en_jg (st := fun o => [en_R o]) (st' := fun a => [en_R (en_fr σ 404 a)]) (σ' := fun _ => σ) d_X4_leave_61 rfl (fun a => rfl) (fun a => ⟨fun h => h.2, fun h => ⟨rfl, h⟩⟩)
theorem d_X4_leave_64 : decode cX4_leave 64 = .ok (.ifnull 14, 3) := by decide +kernel
theorem j_X4_leave_64 {G : en_G} {q : Option en_V → en_S → Prop}  {l0 : en_V} {a0 : Option Nat} {σ : en_S} : en_J (X_X4_leave G q) 64 [l0] [en_R a0] σ ↔ (a0 = none → en_J (X_X4_leave G q) 78 [l0] [] σ) ∧ (¬ (a0 = none) → en_J (X_X4_leave G q) 67 [l0] [] σ) := en_jb d_X4_leave_64 rfl ⟨rfl, by decide⟩
theorem d_X4_leave_67 : decode cX4_leave 67 = .ok (.aload_n 0, 1) := by decide +kernel
theorem j_X4_leave_67 {G : en_G} {q : Option en_V → en_S → Prop}  {x0 : Option Nat} {σ : en_S} : en_J (X_X4_leave G q) 67 [en_R x0] [] σ ↔ en_J (X_X4_leave G q) 68 [en_R x0] [en_R x0] σ := en_j1 d_X4_leave_67 rfl rfl
theorem d_X4_leave_68 : decode cX4_leave 68 = .ok (.getfield 25, 3) := by decide +kernel
theorem j_X4_leave_68 {G : en_G} {q : Option en_V → en_S → Prop}  {l0 : en_V} {a0 : Option Nat} {σ : en_S} : en_J (X_X4_leave G q) 68 [l0] [en_R a0] σ ↔ ∃ a, a0 = some a ∧ en_cl σ a = some 4 ∧ en_J (X_X4_leave G q) 71 [l0] [en_R (en_fr σ 404 a)] σ := en_jg (st := fun o => [en_R o]) (st' := fun a => [en_R (en_fr σ 404 a)]) (σ' := fun _ => σ) d_X4_leave_68 rfl (fun a => rfl) (fun a => ⟨fun h => h.2, fun h => ⟨rfl, h⟩⟩)
theorem d_X4_leave_71 : decode cX4_leave 71 = .ok (.aload_n 0, 1) := by decide +kernel
theorem j_X4_leave_71 {G : en_G} {q : Option en_V → en_S → Prop}  {a0 : Option Nat} {x0 : Option Nat} {σ : en_S} : en_J (X_X4_leave G q) 71 [en_R x0] [en_R a0] σ ↔ en_J (X_X4_leave G q) 72 [en_R x0] [en_R x0, en_R a0] σ := en_j1 d_X4_leave_71 rfl rfl
theorem d_X4_leave_72 : decode cX4_leave 72 = .ok (.getfield 38, 3) := by decide +kernel
theorem j_X4_leave_72 {G : en_G} {q : Option en_V → en_S → Prop}  {l0 : en_V} {a0 : Option Nat} {a1 : Option Nat} {σ : en_S} : en_J (X_X4_leave G q) 72 [l0] [en_R a0, en_R a1] σ ↔ ∃ a, a0 = some a ∧ en_cl σ a = some 4 ∧ en_J (X_X4_leave G q) 75 [l0] [en_R (en_fr σ 407 a), en_R a1] σ := en_jg (st := fun o => [en_R o, en_R a1]) (st' := fun a => [en_R (en_fr σ 407 a), en_R a1]) (σ' := fun _ => σ) d_X4_leave_72 rfl (fun a => rfl) (fun a => ⟨fun h => h.2, fun h => ⟨rfl, h⟩⟩)
theorem d_X4_leave_75 : decode cX4_leave 75 = .ok (.putfield 41, 3) := by decide +kernel
theorem j_X4_leave_75 {G : en_G} {q : Option en_V → en_S → Prop}  {l0 : en_V} {a0 : Option Nat} {a1 : Option Nat} {σ : en_S} : en_J (X_X4_leave G q) 75 [l0] [en_R a0, en_R a1] σ ↔ ∃ a, a1 = some a ∧ en_cl σ a = some 4 ∧ en_J (X_X4_leave G q) 78 [l0] [] (en_sfr σ 406 a a0) := en_jg (st := fun o => [en_R a0, en_R o]) (st' := fun _ => []) (σ' := fun a => en_sfr σ 406 a a0) d_X4_leave_75 rfl (fun a => rfl) (fun a => ⟨fun h => h.2.1, fun h => ⟨rfl, h, trivial, fun z => absurd z (by decide +kernel)⟩⟩)
theorem d_X4_leave_78 : decode cX4_leave 78 = .ok (.aload_n 0, 1) := by decide +kernel
theorem j_X4_leave_78 {G : en_G} {q : Option en_V → en_S → Prop}  {x0 : Option Nat} {σ : en_S} : en_J (X_X4_leave G q) 78 [en_R x0] [] σ ↔ en_J (X_X4_leave G q) 79 [en_R x0] [en_R x0] σ := en_j1 d_X4_leave_78 rfl rfl
theorem d_X4_leave_79 : decode cX4_leave 79 = .ok (.aconst_null, 1) := by decide +kernel
theorem j_X4_leave_79 {G : en_G} {q : Option en_V → en_S → Prop}  {l0 : en_V} {a0 : Option Nat} {σ : en_S} : en_J (X_X4_leave G q) 79 [l0] [en_R a0] σ ↔ en_J (X_X4_leave G q) 80 [l0] [en_R none, en_R a0] σ := en_j1 d_X4_leave_79 rfl rfl
theorem d_X4_leave_80 : decode cX4_leave 80 = .ok (.putfield 25, 3) := by decide +kernel
theorem j_X4_leave_80 {G : en_G} {q : Option en_V → en_S → Prop}  {l0 : en_V} {a0 : Option Nat} {a1 : Option Nat} {σ : en_S} : en_J (X_X4_leave G q) 80 [l0] [en_R a0, en_R a1] σ ↔ ∃ a, a1 = some a ∧ en_cl σ a = some 4 ∧ en_J (X_X4_leave G q) 83 [l0] [] (en_sfr σ 404 a a0) := en_jg (st := fun o => [en_R a0, en_R o]) (st' := fun _ => []) (σ' := fun a => en_sfr σ 404 a a0) d_X4_leave_80 rfl (fun a => rfl) (fun a => ⟨fun h => h.2.1, fun h => ⟨rfl, h, trivial, fun z => absurd z (by decide +kernel)⟩⟩)
theorem d_X4_leave_83 : decode cX4_leave 83 = .ok (.aload_n 0, 1) := by decide +kernel
theorem j_X4_leave_83 {G : en_G} {q : Option en_V → en_S → Prop}  {x0 : Option Nat} {σ : en_S} : en_J (X_X4_leave G q) 83 [en_R x0] [] σ ↔ en_J (X_X4_leave G q) 84 [en_R x0] [en_R x0] σ := en_j1 d_X4_leave_83 rfl rfl
theorem d_X4_leave_84 : decode cX4_leave 84 = .ok (.aconst_null, 1) := by decide +kernel
theorem j_X4_leave_84 {G : en_G} {q : Option en_V → en_S → Prop}  {l0 : en_V} {a0 : Option Nat} {σ : en_S} : en_J (X_X4_leave G q) 84 [l0] [en_R a0] σ ↔ en_J (X_X4_leave G q) 85 [l0] [en_R none, en_R a0] σ := en_j1 d_X4_leave_84 rfl rfl
theorem d_X4_leave_85 : decode cX4_leave 85 = .ok (.putfield 38, 3) := by decide +kernel
theorem j_X4_leave_85 {G : en_G} {q : Option en_V → en_S → Prop}  {l0 : en_V} {a0 : Option Nat} {a1 : Option Nat} {σ : en_S} : en_J (X_X4_leave G q) 85 [l0] [en_R a0, en_R a1] σ ↔ ∃ a, a1 = some a ∧ en_cl σ a = some 4 ∧ en_J (X_X4_leave G q) 88 [l0] [] (en_sfr σ 407 a a0) := en_jg (st := fun o => [en_R a0, en_R o]) (st' := fun _ => []) (σ' := fun a => en_sfr σ 407 a a0) d_X4_leave_85 rfl (fun a => rfl) (fun a => ⟨fun h => h.2.1, fun h => ⟨rfl, h, trivial, fun z => absurd z (by decide +kernel)⟩⟩)
theorem d_X4_leave_88 : decode cX4_leave 88 = .ok (.aload_n 0, 1) := by decide +kernel
theorem j_X4_leave_88 {G : en_G} {q : Option en_V → en_S → Prop}  {x0 : Option Nat} {σ : en_S} : en_J (X_X4_leave G q) 88 [en_R x0] [] σ ↔ en_J (X_X4_leave G q) 89 [en_R x0] [en_R x0] σ := en_j1 d_X4_leave_88 rfl rfl
theorem d_X4_leave_89 : decode cX4_leave 89 = .ok (.aconst_null, 1) := by decide +kernel
theorem j_X4_leave_89 {G : en_G} {q : Option en_V → en_S → Prop}  {l0 : en_V} {a0 : Option Nat} {σ : en_S} : en_J (X_X4_leave G q) 89 [l0] [en_R a0] σ ↔ en_J (X_X4_leave G q) 90 [l0] [en_R none, en_R a0] σ := en_j1 d_X4_leave_89 rfl rfl
theorem d_X4_leave_90 : decode cX4_leave 90 = .ok (.putfield 35, 3) := by decide +kernel
theorem j_X4_leave_90 {G : en_G} {q : Option en_V → en_S → Prop}  {l0 : en_V} {a0 : Option Nat} {a1 : Option Nat} {σ : en_S} : en_J (X_X4_leave G q) 90 [l0] [en_R a0, en_R a1] σ ↔ ∃ a, a1 = some a ∧ en_cl σ a = some 4 ∧ en_J (X_X4_leave G q) 93 [l0] [] (en_sfr σ 408 a a0) := en_jg (st := fun o => [en_R a0, en_R o]) (st' := fun _ => []) (σ' := fun a => en_sfr σ 408 a a0) d_X4_leave_90 rfl (fun a => rfl) (fun a => ⟨fun h => h.2.1, fun h => ⟨rfl, h, trivial, fun z => absurd z (by decide +kernel)⟩⟩)
theorem d_X4_leave_93 : decode cX4_leave 93 = .ok (.return_, 1) := by decide +kernel
theorem j_X4_leave_93 {G : en_G} {q : Option en_V → en_S → Prop}  {l0 : en_V}  {σ : en_S} : en_J (X_X4_leave G q) 93 [l0] [] σ ↔ q none σ := en_jr d_X4_leave_93 rfl ⟨fun h => h.2.2, fun h => ⟨rfl, rfl, h⟩⟩
theorem wc_X4_leave : Jvm.Cond.code yX4_leave cX4_leave 1 none ∈ en_W := en_inW (List.mem_of_getElem? (i := 262) (by decide +kernel)) (by decide +kernel)
theorem wi_X4_leave : Jvm.Cond.instanceMethod yX4_leave ∈ en_W := en_inW (List.mem_of_getElem? (i := 260) (by decide +kernel)) (by decide +kernel)
theorem wx_X4_leave : Jvm.Cond.selects RX4 yX4_leave yX4_leave ∈ en_W := en_inW (List.mem_of_getElem? (i := 261) (by decide +kernel)) (by decide +kernel)

/-- the links of a list with n, and without it -/
theorem tr_nx_leave {T : tr_T} (hw : tr_wf T) {n p m : Nat} {pre suf : List Nat} (hn : n < tr_N T) (hp : tr_pa T n = some p) (hc : tr_ch T p = pre ++ n :: suf) (hm : m < tr_N T) :
    tr_nx (tr_leave T n) m = (if m = n then none else if pre.getLast? = some m then suf.head? else tr_nx T m) ∧ tr_pv (tr_leave T n) m = (if m = n then none else if suf.head? = some m then pre.getLast? else tr_pv T m) := by
  obtain ⟨hpl, -, -⟩ := hw.2.1 n p hn hp
  have hnd := hw.2.2.2.1 p hpl
  rw [hc] at hnd
  have hnpre : n ∉ pre := fun z => by
    have := (List.nodup_append.mp hnd).2.2
    exact this n z n List.mem_cons_self rfl
  have hnd2 : (pre ++ suf).Nodup := by
    rw [← tr_erase hnpre]
    exact hnd.erase n
  have hpa' : tr_pa (tr_leave T n) m = if m = n then none else tr_pa T m := rfl
  have hch' : ∀ q, tr_ch (tr_leave T n) q = if tr_pa T n = some q then (tr_ch T q).erase n else tr_ch T q := fun q => rfl
  by_cases hmn : m = n
  · rw [if_pos hmn, if_pos hmn]
    rw [if_pos hmn] at hpa'
    unfold tr_nx tr_pv
    rw [hpa']
    exact ⟨rfl, rfl⟩
  · rw [if_neg hmn, if_neg hmn]
    rw [if_neg hmn] at hpa'
    unfold tr_nx tr_pv
    rw [hpa']
    cases hq : tr_pa T m with
    | none =>
      have h1 : ¬ pre.getLast? = some m := fun z => by
        have := (hw.2.2.1 p m hpl (by rw [hc]; exact List.mem_append_left _ (List.mem_of_getLast? z))).2
        rw [hq] at this; cases this
      have h2 : ¬ suf.head? = some m := fun z => by
        have := (hw.2.2.1 p m hpl (by rw [hc]; exact List.mem_append_right _ (List.mem_cons_of_mem _ (List.mem_of_head? z)))).2
        rw [hq] at this; cases this
      rw [if_neg h1, if_neg h2]
      exact ⟨rfl, rfl⟩
    | some q =>
      simp only [hch']
      by_cases hqp : p = q
      · subst hqp
        rw [if_pos hp, hc, tr_erase hnpre]
        constructor
        · by_cases h1 : pre.getLast? = some m
          · rw [if_pos h1]; exact (tr_A2 (n := n) hnd2 h1).2
          · rw [if_neg h1]; exact (tr_A3 hmn h1).symm
        · by_cases h1 : suf.head? = some m
          · rw [if_pos h1]; exact (tr_B2 (n := n) hnd h1).2
          · rw [if_neg h1]; exact (tr_B3 hmn h1).symm
      · rw [if_neg (by rw [hp]; exact fun z => hqp (Option.some.inj z))]
        have h1 : ¬ pre.getLast? = some m := fun z => by
          have := (hw.2.2.1 p m hpl (by rw [hc]; exact List.mem_append_left _ (List.mem_of_getLast? z))).2
          rw [hq] at this; exact hqp (Option.some.inj this).symm
        have h2 : ¬ suf.head? = some m := fun z => by
          have := (hw.2.2.1 p m hpl (by rw [hc]; exact List.mem_append_right _ (List.mem_cons_of_mem _ (List.mem_of_head? z)))).2
          rw [hq] at this; exact hqp (Option.some.inj this).symm
        rw [if_neg h1, if_neg h2]
        exact ⟨rfl, rfl⟩
theorem tr_leave_none {T : tr_T} {n : Nat} (hp : tr_pa T n = none) : tr_leave T n = T := by
  unfold tr_leave
  have h1 : (fun m => if m = n then none else tr_pa T m) = T.2.2.2.1 := by
    funext m
    by_cases hm : m = n
    · rw [if_pos hm, hm]; exact hp.symm
    · rw [if_neg hm]; rfl
  have h2 : (fun p => if tr_pa T n = some p then (tr_ch T p).erase n else tr_ch T p) = T.2.2.2.2.2.2 := by
    funext p
    rw [hp, if_neg (by simp)]; rfl
  rw [h1, h2]
/-- the objects behind leave -/
theorem tr_R_leave {na : Nat → Nat} {T : tr_T} {σ σ' : en_S} (hR : tr_R na T σ) (hw : tr_wf T) {n p : Nat} {pre suf : List Nat} (hn : n < tr_N T) (hp : tr_pa T n = some p) (hc : tr_ch T p = pre ++ n :: suf) (hf : tr_frm σ σ')
    (h4 : ∀ m, m < tr_N T → en_fr σ' 404 (na m) = if m = n then none else en_fr σ 404 (na m))
    (h5 : ∀ m, m < tr_N T → en_fr σ' 405 (na m) = if pre.getLast? = none ∧ m = p then suf.head?.map na else en_fr σ 405 (na m))
    (h6 : ∀ m, m < tr_N T → en_fr σ' 406 (na m) = if suf.head? = none ∧ m = p then pre.getLast?.map na else en_fr σ 406 (na m))
    (h7 : ∀ m, m < tr_N T → en_fr σ' 407 (na m) = if m = n then none else if suf.head? = some m then pre.getLast?.map na else en_fr σ 407 (na m))
    (h8 : ∀ m, m < tr_N T → en_fr σ' 408 (na m) = if m = n then none else if pre.getLast? = some m then suf.head?.map na else en_fr σ 408 (na m)) : tr_R na (tr_leave T n) σ' := by
  obtain ⟨f1, f2, -, -, -, -, -, -, -, -, f11⟩ := hf
  obtain ⟨hpl, -, -⟩ := hw.2.1 n p hn hp
  have hnd := hw.2.2.2.1 p hpl
  rw [hc] at hnd
  have hnpre : n ∉ pre := fun z => by
    have := (List.nodup_append.mp hnd).2.2
    exact this n z n List.mem_cons_self rfl
  refine ⟨fun m hm => ?_, hR.2⟩
  obtain ⟨g1, g2, g3, g4, g5, g6, g7, g8, g9, g10, g11⟩ := hR.1 m hm
  obtain ⟨hx, hv⟩ := tr_nx_leave hw hn hp hc hm
  have hch' : tr_ch (tr_leave T n) m = if tr_pa T n = some m then (tr_ch T m).erase n else tr_ch T m := rfl
  refine ⟨by rw [f1]; exact g1, by rw [f2]; exact g2, by rw [f2]; exact g3, fun he => by rw [f2]; exact g4 he, by rw [f11 _ _ (by omega)]; exact g5, ?_, ?_, ?_, ?_, ?_, by rw [f11 _ _ (by omega)]; exact g11⟩
  · rw [h4 m hm]
    show _ = (if m = n then none else tr_pa T m).map na
    by_cases h : m = n
    · rw [if_pos h, if_pos h]; rfl
    · rw [if_neg h, if_neg h]; exact g6
  · rw [h5 m hm, hch']
    by_cases hmp : m = p
    · subst hmp
      rw [if_pos hp, hc, tr_erase hnpre]
      by_cases hl : pre.getLast? = none
      · rw [if_pos ⟨hl, rfl⟩, (tr_H (n := n) (suf := suf) (pre := pre)).2 hl]
      · rw [if_neg (fun z => hl z.1), g7, hc, (tr_H (n := n) (suf := suf) (pre := pre)).1, if_neg hl]
    · rw [if_neg (fun z => hmp z.2), if_neg (by rw [hp]; exact fun z => hmp (Option.some.inj z).symm)]
      exact g7
  · rw [h6 m hm, hch']
    by_cases hmp : m = p
    · subst hmp
      rw [if_pos hp, hc, tr_erase hnpre]
      by_cases hl : suf.head? = none
      · rw [if_pos ⟨hl, rfl⟩, (tr_L (n := n) (suf := suf) (pre := pre)).2 hl]
      · rw [if_neg (fun z => hl z.1), g8, hc, (tr_L (n := n) (suf := suf) (pre := pre)).1, if_neg hl]
    · rw [if_neg (fun z => hmp z.2), if_neg (by rw [hp]; exact fun z => hmp (Option.some.inj z).symm)]
      exact g8
  · rw [h7 m hm, hv]
    by_cases h : m = n
    · rw [if_pos h, if_pos h]; rfl
    · rw [if_neg h, if_neg h]
      by_cases h2 : suf.head? = some m
      · rw [if_pos h2, if_pos h2]
      · rw [if_neg h2, if_neg h2]; exact g9
  · rw [h8 m hm, hx]
    by_cases h : m = n
    · rw [if_pos h, if_pos h]; rfl
    · rw [if_neg h, if_neg h]
      by_cases h2 : pre.getLast? = some m
      · rw [if_pos h2, if_pos h2]
      · rw [if_neg h2, if_neg h2]; exact g10
theorem jg_X4_leave {G : en_G} : ∀ (g : (Nat → Nat) × tr_T × Nat) as σ, (tr_R g.1 g.2.1 σ ∧ tr_wf g.2.1 ∧ g.2.2 < tr_N g.2.1 ∧ as = [en_R (some (g.1 g.2.2))]) → (en_lc as).length ≤ 1 ∧ en_J (X_X4_leave G (fun r σ' => r = none ∧ tr_R g.1 (tr_leave g.2.1 g.2.2) σ' ∧ tr_frm σ σ')) 0 (en_loc 1 as) [] σ := by
  rintro ⟨na, T, n⟩ as σ ⟨hR, hw, hn, rfl⟩
  refine ⟨Nat.le_of_ble_eq_true rfl, ?_⟩
  show en_J _ 0 [en_R (some (na n))] [] σ
  have hR : tr_R na T σ := hR
  have hn : n < tr_N T := hn
  obtain ⟨hc, -, -, -, hho, hpa, hfi, hla, hpv, hnx, hsh⟩ := hR.1 n hn
  have fr3 : ∀ (τ : en_S), tr_frm σ τ → tr_frm σ (en_sfr (en_sfr (en_sfr τ 404 (na n) none) 407 (na n) none) 408 (na n) none) := fun τ h => ((h.tr (tr_frm.put (by decide))).tr (tr_frm.put (by decide))).tr (tr_frm.put (by decide))
  cases hp : tr_pa T n with
  | none =>
    have hnx0 : tr_nx T n = none := by unfold tr_nx; rw [hp]
    have hpv0 : tr_pv T n = none := by unfold tr_pv; rw [hp]
    rw [hp] at hpa
    rw [hnx0] at hnx
    rw [hpv0] at hpv
    simp only [j_X4_leave_0, j_X4_leave_1, j_X4_leave_4, j_X4_leave_7, j_X4_leave_8, j_X4_leave_11, j_X4_leave_12, j_X4_leave_15, j_X4_leave_18, j_X4_leave_21, j_X4_leave_22, j_X4_leave_25, j_X4_leave_28, j_X4_leave_29, j_X4_leave_32, j_X4_leave_33, j_X4_leave_36, j_X4_leave_39, j_X4_leave_40, j_X4_leave_43, j_X4_leave_46, j_X4_leave_47, j_X4_leave_50, j_X4_leave_51, j_X4_leave_54, j_X4_leave_57, j_X4_leave_60, j_X4_leave_61, j_X4_leave_64, j_X4_leave_67, j_X4_leave_68, j_X4_leave_71, j_X4_leave_72, j_X4_leave_75, j_X4_leave_78, j_X4_leave_79, j_X4_leave_80, j_X4_leave_83, j_X4_leave_84, j_X4_leave_85, j_X4_leave_88, j_X4_leave_89, j_X4_leave_90, j_X4_leave_93, en_c2I, en_c2R, en_c2U, en_c2D, Option.some.injEq, exists_eq_left', exists_eq_left, Option.map_some, Option.map_none, not_true_eq_false, false_implies, true_implies, and_true, true_and, reduceCtorEq, not_false_eq_true, hc, hpa, hnx, hpv, eg_cl_sfi, eg_fi_sfi, eg_fr_sfi, eg_fd_sfi, eg_al_sfi, eg_ai_sfi, eg_ar_sfi, eg_ad_sfi, eg_aj_sfi, eg_nx_sfi, eg_ns_sfi, eg_cl_sfr, eg_fi_sfr, eg_fr_sfr, eg_fd_sfr, eg_al_sfr, eg_ai_sfr, eg_ar_sfr, eg_ad_sfr, eg_aj_sfr, eg_nx_sfr, eg_ns_sfr, eg_cl_sfd, eg_fi_sfd, eg_fr_sfd, eg_fd_sfd, eg_al_sfd, eg_ai_sfd, eg_ar_sfd, eg_ad_sfd, eg_aj_sfd, eg_nx_sfd, eg_ns_sfd, eg_cl_sai, eg_fi_sai, eg_fr_sai, eg_fd_sai, eg_al_sai, eg_ai_sai, eg_ar_sai, eg_ad_sai, eg_aj_sai, eg_nx_sai, eg_ns_sai, eg_cl_sar, eg_fi_sar, eg_fr_sar, eg_fd_sar, eg_al_sar, eg_ai_sar, eg_ar_sar, eg_ad_sar, eg_aj_sar, eg_nx_sar, eg_ns_sar, eg_cl_sad, eg_fi_sad, eg_fr_sad, eg_fd_sad, eg_al_sad, eg_ai_sad, eg_ar_sad, eg_ad_sad, eg_aj_sad, eg_nx_sad, eg_ns_sad, eg_cl_saj, eg_fi_saj, eg_fr_saj, eg_fd_saj, eg_al_saj, eg_ai_saj, eg_ar_saj, eg_ad_saj, eg_aj_saj, eg_nx_saj, eg_ns_saj, eg_cl_new, eg_fi_new, eg_fr_new, eg_fd_new, eg_al_new, eg_ai_new, eg_ar_new, eg_ad_new, eg_aj_new, eg_nx_new, eg_ns_new, eg_cl_newa, eg_fi_newa, eg_fr_newa, eg_fd_newa, eg_al_newa, eg_ai_newa, eg_ar_newa, eg_ad_newa, eg_aj_newa, eg_nx_newa, eg_ns_newa, eg_cl_bump, eg_fi_bump, eg_fr_bump, eg_fd_bump, eg_al_bump, eg_ai_bump, eg_ar_bump, eg_ad_bump, eg_aj_bump, eg_nx_bump, eg_ns_bump]
    refine ⟨?_, fr3 _ tr_frm.rf⟩
    rw [tr_leave_none hp]
    refine ⟨fun m hm => ?_, hR.2⟩
    obtain ⟨g1, g2, g3, g4, g5, g6, g7, g8, g9, g10, g11⟩ := hR.1 m hm
    simp only [eg_cl_sfi, eg_fi_sfi, eg_fr_sfi, eg_fd_sfi, eg_al_sfi, eg_ai_sfi, eg_ar_sfi, eg_ad_sfi, eg_aj_sfi, eg_nx_sfi, eg_ns_sfi, eg_cl_sfr, eg_fi_sfr, eg_fr_sfr, eg_fd_sfr, eg_al_sfr, eg_ai_sfr, eg_ar_sfr, eg_ad_sfr, eg_aj_sfr, eg_nx_sfr, eg_ns_sfr, eg_cl_sfd, eg_fi_sfd, eg_fr_sfd, eg_fd_sfd, eg_al_sfd, eg_ai_sfd, eg_ar_sfd, eg_ad_sfd, eg_aj_sfd, eg_nx_sfd, eg_ns_sfd, eg_cl_sai, eg_fi_sai, eg_fr_sai, eg_fd_sai, eg_al_sai, eg_ai_sai, eg_ar_sai, eg_ad_sai, eg_aj_sai, eg_nx_sai, eg_ns_sai, eg_cl_sar, eg_fi_sar, eg_fr_sar, eg_fd_sar, eg_al_sar, eg_ai_sar, eg_ar_sar, eg_ad_sar, eg_aj_sar, eg_nx_sar, eg_ns_sar, eg_cl_sad, eg_fi_sad, eg_fr_sad, eg_fd_sad, eg_al_sad, eg_ai_sad, eg_ar_sad, eg_ad_sad, eg_aj_sad, eg_nx_sad, eg_ns_sad, eg_cl_saj, eg_fi_saj, eg_fr_saj, eg_fd_saj, eg_al_saj, eg_ai_saj, eg_ar_saj, eg_ad_saj, eg_aj_saj, eg_nx_saj, eg_ns_saj, eg_cl_new, eg_fi_new, eg_fr_new, eg_fd_new, eg_al_new, eg_ai_new, eg_ar_new, eg_ad_new, eg_aj_new, eg_nx_new, eg_ns_new, eg_cl_newa, eg_fi_newa, eg_fr_newa, eg_fd_newa, eg_al_newa, eg_ai_newa, eg_ar_newa, eg_ad_newa, eg_aj_newa, eg_nx_newa, eg_ns_newa, eg_cl_bump, eg_fi_bump, eg_fr_bump, eg_fd_bump, eg_al_bump, eg_ai_bump, eg_ar_bump, eg_ad_bump, eg_aj_bump, eg_nx_bump, eg_ns_bump, Nat.reduceEqDiff, false_and, if_false, true_and]
    refine ⟨g1, g2, g3, g4, g5, ?_, g7, g8, ?_, ?_, g11⟩
    · by_cases h : na m = na n
      · rw [if_pos h]
        have := hR.2 m n hm hn h
        rw [this, hp]; rfl
      · rw [if_neg h]; exact g6
    · by_cases h : na m = na n
      · rw [if_pos h]
        have := hR.2 m n hm hn h
        rw [this, hpv0]; rfl
      · rw [if_neg h]; exact g9
    · by_cases h : na m = na n
      · rw [if_pos h]
        have := hR.2 m n hm hn h
        rw [this, hnx0]; rfl
      · rw [if_neg h]; exact g10
  | some p =>
    obtain ⟨hpl, hmem, -⟩ := hw.2.1 n p hn hp
    obtain ⟨pre, suf, hch⟩ := tr_split hmem
    have hnd := hw.2.2.2.1 p hpl
    rw [hch] at hnd
    have hnpre : n ∉ pre := fun z => by
      have := (List.nodup_append.mp hnd).2.2
      exact this n z n List.mem_cons_self rfl
    have hnsuf : n ∉ suf := (List.nodup_cons.mp (List.nodup_append.mp hnd).2.1).1
    have hpn : p ≠ n := fun z => by
      subst z
      exact tr_noself hw hn hp
    have hx : tr_nx T n = suf.head? := by unfold tr_nx; rw [hp]; show tr_after (tr_ch T p) n = _; rw [hch]; exact tr_A1 hnpre
    have hv : tr_pv T n = pre.getLast? := by unfold tr_pv; rw [hp]; show tr_before (tr_ch T p) n = _; rw [hch]; exact tr_B1 hnd
    obtain ⟨hcp, -⟩ := hR.1 p hpl
    have inj : ∀ a b, a < tr_N T → b < tr_N T → (na a = na b ↔ a = b) := fun a b ha hb => ⟨hR.2 a b ha hb, fun z => by rw [z]⟩
    rw [hp] at hpa
    rw [hx] at hnx
    rw [hv] at hpv
    have hnp : ¬ na n = na p := fun z => hpn (hR.2 n p hn hpl z).symm
    cases ha : pre.getLast? with
    | none =>
      rw [ha] at hpv
      cases hb : suf.head? with
      | none =>
        rw [hb] at hnx
        simp only [j_X4_leave_0, j_X4_leave_1, j_X4_leave_4, j_X4_leave_7, j_X4_leave_8, j_X4_leave_11, j_X4_leave_12, j_X4_leave_15, j_X4_leave_18, j_X4_leave_21, j_X4_leave_22, j_X4_leave_25, j_X4_leave_28, j_X4_leave_29, j_X4_leave_32, j_X4_leave_33, j_X4_leave_36, j_X4_leave_39, j_X4_leave_40, j_X4_leave_43, j_X4_leave_46, j_X4_leave_47, j_X4_leave_50, j_X4_leave_51, j_X4_leave_54, j_X4_leave_57, j_X4_leave_60, j_X4_leave_61, j_X4_leave_64, j_X4_leave_67, j_X4_leave_68, j_X4_leave_71, j_X4_leave_72, j_X4_leave_75, j_X4_leave_78, j_X4_leave_79, j_X4_leave_80, j_X4_leave_83, j_X4_leave_84, j_X4_leave_85, j_X4_leave_88, j_X4_leave_89, j_X4_leave_90, j_X4_leave_93, en_c2I, en_c2R, en_c2U, en_c2D, Option.some.injEq, exists_eq_left', exists_eq_left, Option.map_some, Option.map_none, not_true_eq_false, false_implies, true_implies, and_true, true_and, reduceCtorEq, not_false_eq_true, hc, hpa, hnx, hpv, eg_cl_sfi, eg_fi_sfi, eg_fr_sfi, eg_fd_sfi, eg_al_sfi, eg_ai_sfi, eg_ar_sfi, eg_ad_sfi, eg_aj_sfi, eg_nx_sfi, eg_ns_sfi, eg_cl_sfr, eg_fi_sfr, eg_fr_sfr, eg_fd_sfr, eg_al_sfr, eg_ai_sfr, eg_ar_sfr, eg_ad_sfr, eg_aj_sfr, eg_nx_sfr, eg_ns_sfr, eg_cl_sfd, eg_fi_sfd, eg_fr_sfd, eg_fd_sfd, eg_al_sfd, eg_ai_sfd, eg_ar_sfd, eg_ad_sfd, eg_aj_sfd, eg_nx_sfd, eg_ns_sfd, eg_cl_sai, eg_fi_sai, eg_fr_sai, eg_fd_sai, eg_al_sai, eg_ai_sai, eg_ar_sai, eg_ad_sai, eg_aj_sai, eg_nx_sai, eg_ns_sai, eg_cl_sar, eg_fi_sar, eg_fr_sar, eg_fd_sar, eg_al_sar, eg_ai_sar, eg_ar_sar, eg_ad_sar, eg_aj_sar, eg_nx_sar, eg_ns_sar, eg_cl_sad, eg_fi_sad, eg_fr_sad, eg_fd_sad, eg_al_sad, eg_ai_sad, eg_ar_sad, eg_ad_sad, eg_aj_sad, eg_nx_sad, eg_ns_sad, eg_cl_saj, eg_fi_saj, eg_fr_saj, eg_fd_saj, eg_al_saj, eg_ai_saj, eg_ar_saj, eg_ad_saj, eg_aj_saj, eg_nx_saj, eg_ns_saj, eg_cl_new, eg_fi_new, eg_fr_new, eg_fd_new, eg_al_new, eg_ai_new, eg_ar_new, eg_ad_new, eg_aj_new, eg_nx_new, eg_ns_new, eg_cl_newa, eg_fi_newa, eg_fr_newa, eg_fd_newa, eg_al_newa, eg_ai_newa, eg_ar_newa, eg_ad_newa, eg_aj_newa, eg_nx_newa, eg_ns_newa, eg_cl_bump, eg_fi_bump, eg_fr_bump, eg_fd_bump, eg_al_bump, eg_ai_bump, eg_ar_bump, eg_ad_bump, eg_aj_bump, eg_nx_bump, eg_ns_bump, hcp, hnp, Nat.reduceEqDiff, false_and, and_false, if_false]
        refine ⟨tr_R_leave hR hw hn hp hch (fr3 _ ((tr_frm.put (by decide)).tr (tr_frm.put (by decide)))) ?_ ?_ ?_ ?_ ?_, fr3 _ ((tr_frm.put (by decide)).tr (tr_frm.put (by decide)))⟩ <;> intro m hm <;> simp only [eg_cl_sfi, eg_fi_sfi, eg_fr_sfi, eg_fd_sfi, eg_al_sfi, eg_ai_sfi, eg_ar_sfi, eg_ad_sfi, eg_aj_sfi, eg_nx_sfi, eg_ns_sfi, eg_cl_sfr, eg_fi_sfr, eg_fr_sfr, eg_fd_sfr, eg_al_sfr, eg_ai_sfr, eg_ar_sfr, eg_ad_sfr, eg_aj_sfr, eg_nx_sfr, eg_ns_sfr, eg_cl_sfd, eg_fi_sfd, eg_fr_sfd, eg_fd_sfd, eg_al_sfd, eg_ai_sfd, eg_ar_sfd, eg_ad_sfd, eg_aj_sfd, eg_nx_sfd, eg_ns_sfd, eg_cl_sai, eg_fi_sai, eg_fr_sai, eg_fd_sai, eg_al_sai, eg_ai_sai, eg_ar_sai, eg_ad_sai, eg_aj_sai, eg_nx_sai, eg_ns_sai, eg_cl_sar, eg_fi_sar, eg_fr_sar, eg_fd_sar, eg_al_sar, eg_ai_sar, eg_ar_sar, eg_ad_sar, eg_aj_sar, eg_nx_sar, eg_ns_sar, eg_cl_sad, eg_fi_sad, eg_fr_sad, eg_fd_sad, eg_al_sad, eg_ai_sad, eg_ar_sad, eg_ad_sad, eg_aj_sad, eg_nx_sad, eg_ns_sad, eg_cl_saj, eg_fi_saj, eg_fr_saj, eg_fd_saj, eg_al_saj, eg_ai_saj, eg_ar_saj, eg_ad_saj, eg_aj_saj, eg_nx_saj, eg_ns_saj, eg_cl_new, eg_fi_new, eg_fr_new, eg_fd_new, eg_al_new, eg_ai_new, eg_ar_new, eg_ad_new, eg_aj_new, eg_nx_new, eg_ns_new, eg_cl_newa, eg_fi_newa, eg_fr_newa, eg_fd_newa, eg_al_newa, eg_ai_newa, eg_ar_newa, eg_ad_newa, eg_aj_newa, eg_nx_newa, eg_ns_newa, eg_cl_bump, eg_fi_bump, eg_fr_bump, eg_fd_bump, eg_al_bump, eg_ai_bump, eg_ar_bump, eg_ad_bump, eg_aj_bump, eg_nx_bump, eg_ns_bump, Nat.reduceEqDiff, false_and, if_false, true_and, inj m n hm hn, inj m p hm hpl, ha, hb, Option.map_some, Option.map_none, not_true_eq_false, false_implies, true_implies, and_true, true_and, reduceCtorEq, not_false_eq_true]
      | some b =>
        rw [hb] at hnx
        have hbm : b ∈ suf := List.mem_of_head? hb
        have hbl : b < tr_N T := (hw.2.2.1 p b hpl (by rw [hch]; exact List.mem_append_right _ (List.mem_cons_of_mem _ hbm))).1
        have hbn : ¬ na n = na b := fun z => hnsuf (by rw [hR.2 n b hn hbl z]; exact hbm)
        have hcb := (hR.1 b hbl).1
        simp only [j_X4_leave_0, j_X4_leave_1, j_X4_leave_4, j_X4_leave_7, j_X4_leave_8, j_X4_leave_11, j_X4_leave_12, j_X4_leave_15, j_X4_leave_18, j_X4_leave_21, j_X4_leave_22, j_X4_leave_25, j_X4_leave_28, j_X4_leave_29, j_X4_leave_32, j_X4_leave_33, j_X4_leave_36, j_X4_leave_39, j_X4_leave_40, j_X4_leave_43, j_X4_leave_46, j_X4_leave_47, j_X4_leave_50, j_X4_leave_51, j_X4_leave_54, j_X4_leave_57, j_X4_leave_60, j_X4_leave_61, j_X4_leave_64, j_X4_leave_67, j_X4_leave_68, j_X4_leave_71, j_X4_leave_72, j_X4_leave_75, j_X4_leave_78, j_X4_leave_79, j_X4_leave_80, j_X4_leave_83, j_X4_leave_84, j_X4_leave_85, j_X4_leave_88, j_X4_leave_89, j_X4_leave_90, j_X4_leave_93, en_c2I, en_c2R, en_c2U, en_c2D, Option.some.injEq, exists_eq_left', exists_eq_left, Option.map_some, Option.map_none, not_true_eq_false, false_implies, true_implies, and_true, true_and, reduceCtorEq, not_false_eq_true, hc, hpa, hnx, hpv, eg_cl_sfi, eg_fi_sfi, eg_fr_sfi, eg_fd_sfi, eg_al_sfi, eg_ai_sfi, eg_ar_sfi, eg_ad_sfi, eg_aj_sfi, eg_nx_sfi, eg_ns_sfi, eg_cl_sfr, eg_fi_sfr, eg_fr_sfr, eg_fd_sfr, eg_al_sfr, eg_ai_sfr, eg_ar_sfr, eg_ad_sfr, eg_aj_sfr, eg_nx_sfr, eg_ns_sfr, eg_cl_sfd, eg_fi_sfd, eg_fr_sfd, eg_fd_sfd, eg_al_sfd, eg_ai_sfd, eg_ar_sfd, eg_ad_sfd, eg_aj_sfd, eg_nx_sfd, eg_ns_sfd, eg_cl_sai, eg_fi_sai, eg_fr_sai, eg_fd_sai, eg_al_sai, eg_ai_sai, eg_ar_sai, eg_ad_sai, eg_aj_sai, eg_nx_sai, eg_ns_sai, eg_cl_sar, eg_fi_sar, eg_fr_sar, eg_fd_sar, eg_al_sar, eg_ai_sar, eg_ar_sar, eg_ad_sar, eg_aj_sar, eg_nx_sar, eg_ns_sar, eg_cl_sad, eg_fi_sad, eg_fr_sad, eg_fd_sad, eg_al_sad, eg_ai_sad, eg_ar_sad, eg_ad_sad, eg_aj_sad, eg_nx_sad, eg_ns_sad, eg_cl_saj, eg_fi_saj, eg_fr_saj, eg_fd_saj, eg_al_saj, eg_ai_saj, eg_ar_saj, eg_ad_saj, eg_aj_saj, eg_nx_saj, eg_ns_saj, eg_cl_new, eg_fi_new, eg_fr_new, eg_fd_new, eg_al_new, eg_ai_new, eg_ar_new, eg_ad_new, eg_aj_new, eg_nx_new, eg_ns_new, eg_cl_newa, eg_fi_newa, eg_fr_newa, eg_fd_newa, eg_al_newa, eg_ai_newa, eg_ar_newa, eg_ad_newa, eg_aj_newa, eg_nx_newa, eg_ns_newa, eg_cl_bump, eg_fi_bump, eg_fr_bump, eg_fd_bump, eg_al_bump, eg_ai_bump, eg_ar_bump, eg_ad_bump, eg_aj_bump, eg_nx_bump, eg_ns_bump, hcp, hcb, hbn, hnp, Nat.reduceEqDiff, false_and, and_false, if_false]
        refine ⟨tr_R_leave hR hw hn hp hch (fr3 _ ((tr_frm.put (by decide)).tr (tr_frm.put (by decide)))) ?_ ?_ ?_ ?_ ?_, fr3 _ ((tr_frm.put (by decide)).tr (tr_frm.put (by decide)))⟩ <;> intro m hm <;> simp only [eg_cl_sfi, eg_fi_sfi, eg_fr_sfi, eg_fd_sfi, eg_al_sfi, eg_ai_sfi, eg_ar_sfi, eg_ad_sfi, eg_aj_sfi, eg_nx_sfi, eg_ns_sfi, eg_cl_sfr, eg_fi_sfr, eg_fr_sfr, eg_fd_sfr, eg_al_sfr, eg_ai_sfr, eg_ar_sfr, eg_ad_sfr, eg_aj_sfr, eg_nx_sfr, eg_ns_sfr, eg_cl_sfd, eg_fi_sfd, eg_fr_sfd, eg_fd_sfd, eg_al_sfd, eg_ai_sfd, eg_ar_sfd, eg_ad_sfd, eg_aj_sfd, eg_nx_sfd, eg_ns_sfd, eg_cl_sai, eg_fi_sai, eg_fr_sai, eg_fd_sai, eg_al_sai, eg_ai_sai, eg_ar_sai, eg_ad_sai, eg_aj_sai, eg_nx_sai, eg_ns_sai, eg_cl_sar, eg_fi_sar, eg_fr_sar, eg_fd_sar, eg_al_sar, eg_ai_sar, eg_ar_sar, eg_ad_sar, eg_aj_sar, eg_nx_sar, eg_ns_sar, eg_cl_sad, eg_fi_sad, eg_fr_sad, eg_fd_sad, eg_al_sad, eg_ai_sad, eg_ar_sad, eg_ad_sad, eg_aj_sad, eg_nx_sad, eg_ns_sad, eg_cl_saj, eg_fi_saj, eg_fr_saj, eg_fd_saj, eg_al_saj, eg_ai_saj, eg_ar_saj, eg_ad_saj, eg_aj_saj, eg_nx_saj, eg_ns_saj, eg_cl_new, eg_fi_new, eg_fr_new, eg_fd_new, eg_al_new, eg_ai_new, eg_ar_new, eg_ad_new, eg_aj_new, eg_nx_new, eg_ns_new, eg_cl_newa, eg_fi_newa, eg_fr_newa, eg_fd_newa, eg_al_newa, eg_ai_newa, eg_ar_newa, eg_ad_newa, eg_aj_newa, eg_nx_newa, eg_ns_newa, eg_cl_bump, eg_fi_bump, eg_fr_bump, eg_fd_bump, eg_al_bump, eg_ai_bump, eg_ar_bump, eg_ad_bump, eg_aj_bump, eg_nx_bump, eg_ns_bump, Nat.reduceEqDiff, false_and, if_false, true_and, inj m n hm hn, inj m p hm hpl, inj m b hm hbl, ha, hb, Option.map_some, Option.map_none, not_true_eq_false, false_implies, true_implies, and_true, true_and, reduceCtorEq, not_false_eq_true, Option.some.injEq, eq_comm (a := b)]
    | some a =>
      rw [ha] at hpv
      have ham : a ∈ pre := List.mem_of_getLast? ha
      have hal : a < tr_N T := (hw.2.2.1 p a hpl (by rw [hch]; exact List.mem_append_left _ ham)).1
      have han : ¬ na n = na a := fun z => hnpre (by rw [hR.2 n a hn hal z]; exact ham)
      have hca := (hR.1 a hal).1
      cases hb : suf.head? with
      | none =>
        rw [hb] at hnx
        simp only [j_X4_leave_0, j_X4_leave_1, j_X4_leave_4, j_X4_leave_7, j_X4_leave_8, j_X4_leave_11, j_X4_leave_12, j_X4_leave_15, j_X4_leave_18, j_X4_leave_21, j_X4_leave_22, j_X4_leave_25, j_X4_leave_28, j_X4_leave_29, j_X4_leave_32, j_X4_leave_33, j_X4_leave_36, j_X4_leave_39, j_X4_leave_40, j_X4_leave_43, j_X4_leave_46, j_X4_leave_47, j_X4_leave_50, j_X4_leave_51, j_X4_leave_54, j_X4_leave_57, j_X4_leave_60, j_X4_leave_61, j_X4_leave_64, j_X4_leave_67, j_X4_leave_68, j_X4_leave_71, j_X4_leave_72, j_X4_leave_75, j_X4_leave_78, j_X4_leave_79, j_X4_leave_80, j_X4_leave_83, j_X4_leave_84, j_X4_leave_85, j_X4_leave_88, j_X4_leave_89, j_X4_leave_90, j_X4_leave_93, en_c2I, en_c2R, en_c2U, en_c2D, Option.some.injEq, exists_eq_left', exists_eq_left, Option.map_some, Option.map_none, not_true_eq_false, false_implies, true_implies, and_true, true_and, reduceCtorEq, not_false_eq_true, hc, hpa, hnx, hpv, eg_cl_sfi, eg_fi_sfi, eg_fr_sfi, eg_fd_sfi, eg_al_sfi, eg_ai_sfi, eg_ar_sfi, eg_ad_sfi, eg_aj_sfi, eg_nx_sfi, eg_ns_sfi, eg_cl_sfr, eg_fi_sfr, eg_fr_sfr, eg_fd_sfr, eg_al_sfr, eg_ai_sfr, eg_ar_sfr, eg_ad_sfr, eg_aj_sfr, eg_nx_sfr, eg_ns_sfr, eg_cl_sfd, eg_fi_sfd, eg_fr_sfd, eg_fd_sfd, eg_al_sfd, eg_ai_sfd, eg_ar_sfd, eg_ad_sfd, eg_aj_sfd, eg_nx_sfd, eg_ns_sfd, eg_cl_sai, eg_fi_sai, eg_fr_sai, eg_fd_sai, eg_al_sai, eg_ai_sai, eg_ar_sai, eg_ad_sai, eg_aj_sai, eg_nx_sai, eg_ns_sai, eg_cl_sar, eg_fi_sar, eg_fr_sar, eg_fd_sar, eg_al_sar, eg_ai_sar, eg_ar_sar, eg_ad_sar, eg_aj_sar, eg_nx_sar, eg_ns_sar, eg_cl_sad, eg_fi_sad, eg_fr_sad, eg_fd_sad, eg_al_sad, eg_ai_sad, eg_ar_sad, eg_ad_sad, eg_aj_sad, eg_nx_sad, eg_ns_sad, eg_cl_saj, eg_fi_saj, eg_fr_saj, eg_fd_saj, eg_al_saj, eg_ai_saj, eg_ar_saj, eg_ad_saj, eg_aj_saj, eg_nx_saj, eg_ns_saj, eg_cl_new, eg_fi_new, eg_fr_new, eg_fd_new, eg_al_new, eg_ai_new, eg_ar_new, eg_ad_new, eg_aj_new, eg_nx_new, eg_ns_new, eg_cl_newa, eg_fi_newa, eg_fr_newa, eg_fd_newa, eg_al_newa, eg_ai_newa, eg_ar_newa, eg_ad_newa, eg_aj_newa, eg_nx_newa, eg_ns_newa, eg_cl_bump, eg_fi_bump, eg_fr_bump, eg_fd_bump, eg_al_bump, eg_ai_bump, eg_ar_bump, eg_ad_bump, eg_aj_bump, eg_nx_bump, eg_ns_bump, hcp, hca, han, hnp, Nat.reduceEqDiff, false_and, and_false, if_false]
        refine ⟨tr_R_leave hR hw hn hp hch (fr3 _ ((tr_frm.put (by decide)).tr (tr_frm.put (by decide)))) ?_ ?_ ?_ ?_ ?_, fr3 _ ((tr_frm.put (by decide)).tr (tr_frm.put (by decide)))⟩ <;> intro m hm <;> simp only [eg_cl_sfi, eg_fi_sfi, eg_fr_sfi, eg_fd_sfi, eg_al_sfi, eg_ai_sfi, eg_ar_sfi, eg_ad_sfi, eg_aj_sfi, eg_nx_sfi, eg_ns_sfi, eg_cl_sfr, eg_fi_sfr, eg_fr_sfr, eg_fd_sfr, eg_al_sfr, eg_ai_sfr, eg_ar_sfr, eg_ad_sfr, eg_aj_sfr, eg_nx_sfr, eg_ns_sfr, eg_cl_sfd, eg_fi_sfd, eg_fr_sfd, eg_fd_sfd, eg_al_sfd, eg_ai_sfd, eg_ar_sfd, eg_ad_sfd, eg_aj_sfd, eg_nx_sfd, eg_ns_sfd, eg_cl_sai, eg_fi_sai, eg_fr_sai, eg_fd_sai, eg_al_sai, eg_ai_sai, eg_ar_sai, eg_ad_sai, eg_aj_sai, eg_nx_sai, eg_ns_sai, eg_cl_sar, eg_fi_sar, eg_fr_sar, eg_fd_sar, eg_al_sar, eg_ai_sar, eg_ar_sar, eg_ad_sar, eg_aj_sar, eg_nx_sar, eg_ns_sar, eg_cl_sad, eg_fi_sad, eg_fr_sad, eg_fd_sad, eg_al_sad, eg_ai_sad, eg_ar_sad, eg_ad_sad, eg_aj_sad, eg_nx_sad, eg_ns_sad, eg_cl_saj, eg_fi_saj, eg_fr_saj, eg_fd_saj, eg_al_saj, eg_ai_saj, eg_ar_saj, eg_ad_saj, eg_aj_saj, eg_nx_saj, eg_ns_saj, eg_cl_new, eg_fi_new, eg_fr_new, eg_fd_new, eg_al_new, eg_ai_new, eg_ar_new, eg_ad_new, eg_aj_new, eg_nx_new, eg_ns_new, eg_cl_newa, eg_fi_newa, eg_fr_newa, eg_fd_newa, eg_al_newa, eg_ai_newa, eg_ar_newa, eg_ad_newa, eg_aj_newa, eg_nx_newa, eg_ns_newa, eg_cl_bump, eg_fi_bump, eg_fr_bump, eg_fd_bump, eg_al_bump, eg_ai_bump, eg_ar_bump, eg_ad_bump, eg_aj_bump, eg_nx_bump, eg_ns_bump, Nat.reduceEqDiff, false_and, if_false, true_and, inj m n hm hn, inj m p hm hpl, inj m a hm hal, ha, hb, Option.map_some, Option.map_none, not_true_eq_false, false_implies, true_implies, and_true, true_and, reduceCtorEq, not_false_eq_true, Option.some.injEq, eq_comm (a := a)]
      | some b =>
        rw [hb] at hnx
        have hbm : b ∈ suf := List.mem_of_head? hb
        have hbl : b < tr_N T := (hw.2.2.1 p b hpl (by rw [hch]; exact List.mem_append_right _ (List.mem_cons_of_mem _ hbm))).1
        have hbn : ¬ na n = na b := fun z => hnsuf (by rw [hR.2 n b hn hbl z]; exact hbm)
        have hcb := (hR.1 b hbl).1
        simp only [j_X4_leave_0, j_X4_leave_1, j_X4_leave_4, j_X4_leave_7, j_X4_leave_8, j_X4_leave_11, j_X4_leave_12, j_X4_leave_15, j_X4_leave_18, j_X4_leave_21, j_X4_leave_22, j_X4_leave_25, j_X4_leave_28, j_X4_leave_29, j_X4_leave_32, j_X4_leave_33, j_X4_leave_36, j_X4_leave_39, j_X4_leave_40, j_X4_leave_43, j_X4_leave_46, j_X4_leave_47, j_X4_leave_50, j_X4_leave_51, j_X4_leave_54, j_X4_leave_57, j_X4_leave_60, j_X4_leave_61, j_X4_leave_64, j_X4_leave_67, j_X4_leave_68, j_X4_leave_71, j_X4_leave_72, j_X4_leave_75, j_X4_leave_78, j_X4_leave_79, j_X4_leave_80, j_X4_leave_83, j_X4_leave_84, j_X4_leave_85, j_X4_leave_88, j_X4_leave_89, j_X4_leave_90, j_X4_leave_93, en_c2I, en_c2R, en_c2U, en_c2D, Option.some.injEq, exists_eq_left', exists_eq_left, Option.map_some, Option.map_none, not_true_eq_false, false_implies, true_implies, and_true, true_and, reduceCtorEq, not_false_eq_true, hc, hpa, hnx, hpv, eg_cl_sfi, eg_fi_sfi, eg_fr_sfi, eg_fd_sfi, eg_al_sfi, eg_ai_sfi, eg_ar_sfi, eg_ad_sfi, eg_aj_sfi, eg_nx_sfi, eg_ns_sfi, eg_cl_sfr, eg_fi_sfr, eg_fr_sfr, eg_fd_sfr, eg_al_sfr, eg_ai_sfr, eg_ar_sfr, eg_ad_sfr, eg_aj_sfr, eg_nx_sfr, eg_ns_sfr, eg_cl_sfd, eg_fi_sfd, eg_fr_sfd, eg_fd_sfd, eg_al_sfd, eg_ai_sfd, eg_ar_sfd, eg_ad_sfd, eg_aj_sfd, eg_nx_sfd, eg_ns_sfd, eg_cl_sai, eg_fi_sai, eg_fr_sai, eg_fd_sai, eg_al_sai, eg_ai_sai, eg_ar_sai, eg_ad_sai, eg_aj_sai, eg_nx_sai, eg_ns_sai, eg_cl_sar, eg_fi_sar, eg_fr_sar, eg_fd_sar, eg_al_sar, eg_ai_sar, eg_ar_sar, eg_ad_sar, eg_aj_sar, eg_nx_sar, eg_ns_sar, eg_cl_sad, eg_fi_sad, eg_fr_sad, eg_fd_sad, eg_al_sad, eg_ai_sad, eg_ar_sad, eg_ad_sad, eg_aj_sad, eg_nx_sad, eg_ns_sad, eg_cl_saj, eg_fi_saj, eg_fr_saj, eg_fd_saj, eg_al_saj, eg_ai_saj, eg_ar_saj, eg_ad_saj, eg_aj_saj, eg_nx_saj, eg_ns_saj, eg_cl_new, eg_fi_new, eg_fr_new, eg_fd_new, eg_al_new, eg_ai_new, eg_ar_new, eg_ad_new, eg_aj_new, eg_nx_new, eg_ns_new, eg_cl_newa, eg_fi_newa, eg_fr_newa, eg_fd_newa, eg_al_newa, eg_ai_newa, eg_ar_newa, eg_ad_newa, eg_aj_newa, eg_nx_newa, eg_ns_newa, eg_cl_bump, eg_fi_bump, eg_fr_bump, eg_fd_bump, eg_al_bump, eg_ai_bump, eg_ar_bump, eg_ad_bump, eg_aj_bump, eg_nx_bump, eg_ns_bump, hcp, hca, hcb, han, hbn, hnp, Nat.reduceEqDiff, false_and, and_false, if_false]
        refine ⟨tr_R_leave hR hw hn hp hch (fr3 _ ((tr_frm.put (by decide)).tr (tr_frm.put (by decide)))) ?_ ?_ ?_ ?_ ?_, fr3 _ ((tr_frm.put (by decide)).tr (tr_frm.put (by decide)))⟩ <;> intro m hm <;> simp only [eg_cl_sfi, eg_fi_sfi, eg_fr_sfi, eg_fd_sfi, eg_al_sfi, eg_ai_sfi, eg_ar_sfi, eg_ad_sfi, eg_aj_sfi, eg_nx_sfi, eg_ns_sfi, eg_cl_sfr, eg_fi_sfr, eg_fr_sfr, eg_fd_sfr, eg_al_sfr, eg_ai_sfr, eg_ar_sfr, eg_ad_sfr, eg_aj_sfr, eg_nx_sfr, eg_ns_sfr, eg_cl_sfd, eg_fi_sfd, eg_fr_sfd, eg_fd_sfd, eg_al_sfd, eg_ai_sfd, eg_ar_sfd, eg_ad_sfd, eg_aj_sfd, eg_nx_sfd, eg_ns_sfd, eg_cl_sai, eg_fi_sai, eg_fr_sai, eg_fd_sai, eg_al_sai, eg_ai_sai, eg_ar_sai, eg_ad_sai, eg_aj_sai, eg_nx_sai, eg_ns_sai, eg_cl_sar, eg_fi_sar, eg_fr_sar, eg_fd_sar, eg_al_sar, eg_ai_sar, eg_ar_sar, eg_ad_sar, eg_aj_sar, eg_nx_sar, eg_ns_sar, eg_cl_sad, eg_fi_sad, eg_fr_sad, eg_fd_sad, eg_al_sad, eg_ai_sad, eg_ar_sad, eg_ad_sad, eg_aj_sad, eg_nx_sad, eg_ns_sad, eg_cl_saj, eg_fi_saj, eg_fr_saj, eg_fd_saj, eg_al_saj, eg_ai_saj, eg_ar_saj, eg_ad_saj, eg_aj_saj, eg_nx_saj, eg_ns_saj, eg_cl_new, eg_fi_new, eg_fr_new, eg_fd_new, eg_al_new, eg_ai_new, eg_ar_new, eg_ad_new, eg_aj_new, eg_nx_new, eg_ns_new, eg_cl_newa, eg_fi_newa, eg_fr_newa, eg_fd_newa, eg_al_newa, eg_ai_newa, eg_ar_newa, eg_ad_newa, eg_aj_newa, eg_nx_newa, eg_ns_newa, eg_cl_bump, eg_fi_bump, eg_fr_bump, eg_fd_bump, eg_al_bump, eg_ai_bump, eg_ar_bump, eg_ad_bump, eg_aj_bump, eg_nx_bump, eg_ns_bump, Nat.reduceEqDiff, false_and, if_false, true_and, inj m n hm hn, inj m p hm hpl, inj m a hm hal, inj m b hm hbl, ha, hb, Option.map_some, Option.map_none, not_true_eq_false, false_implies, true_implies, and_true, true_and, reduceCtorEq, not_false_eq_true, Option.some.injEq, eq_comm (a := a), eq_comm (a := b)]
theorem jp_X4_leave {G : en_G} : ∀ as σ, C_X4_leave.1 as σ → (en_lc as).length ≤ 1 ∧ en_J (X_X4_leave G (fun r σ' => C_X4_leave.2 as σ r σ')) 0 (en_loc 1 as) [] σ := en_ghJ jg_X4_leave
theorem ok_X4_leave {G : en_G}  : en_Ok G 1 yX4_leave cX4_leave 1 none C_X4_leave :=
  en_met (own := RX4) (fl := en_lk fl4) (nw := en_lk nw4) (aw := en_lk aw4) (dc := en_lk dc4) (ca := en_lk (ca_X4_leave G)) (rt := 0) (ini := false) (by decide +kernel) (Or.inl ⟨rfl, rfl⟩) (fun h => by cases h) rfl (fun q => en_LkF fl4_ok nw4_ok aw4_ok dc4_ok) (fun idx q hq => by cases hq) jp_X4_leave
