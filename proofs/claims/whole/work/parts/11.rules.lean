/-! THE ENGINE, part 9: the judgement's rules, an equivalence an instruction -/
theorem en_c2I (x : Int32) : en_c2 (en_I x) = en_I x := rfl
theorem en_c2R (o : Option Nat) : en_c2 (en_R o) = en_R o := rfl
theorem en_c2D (x : UInt64) : en_c2 (en_D x) = en_U := rfl
theorem en_c2U : en_c2 en_U = en_U := rfl
section
variable {X : en_X} {pc : Nat} {ls r : List en_V} {σ : en_S}
/-- one way on, over a reference -/
theorem en_jg {i : Instr} {n : Nat} {o : Option Nat} {st : Option Nat → List en_V} {pr pr' : Nat → Prop} {pc' : Nat} {ls' : List en_V} {st' : Nat → List en_V} {σ' : Nat → en_S} (hd : decode (en_cc X) pc = .ok (i, n)) (hn : en_sem X i n pc ls (st none) σ = en_no) (hs : ∀ a, en_sem X i n pc ls (st (some a)) σ = (pr a, fun d => d = (pc', ls', st' a, σ' a))) (hp : ∀ a, pr a ↔ pr' a) : en_J X pc ls (st o) σ ↔ ∃ a, o = some a ∧ pr' a ∧ en_J X pc' ls' (st' a) (σ' a) := by
  cases o with
  | none =>
    rw [en_iff hd, hn]
    exact ⟨fun h => h.1.elim, fun ⟨a, h, _⟩ => by cases h⟩
  | some a =>
    rw [en_jc hd (hs a) (hp a)]
    exact ⟨fun h => ⟨a, rfl, h⟩, fun ⟨b, h, k⟩ => by cases h; exact k⟩
theorem ej_iaload {o : Option Nat} {j : Int32} (hd : decode (en_cc X) pc = .ok (.iaload, 1)) (hx : en_xs X = none) : en_J X pc ls (en_I j :: en_R o :: r) σ ↔ ∃ a, o = some a ∧ (∃ k, en_al σ a = some (0, k) ∧ vp_in j k) ∧ en_J X (pc + 1) ls (en_I (en_ai σ a j.toNatClampNeg) :: r) σ :=
  en_jg (st := fun o => en_I j :: en_R o :: r) (pr := fun a => 1 = 1 ∧ ∃ k, en_al σ a = some (0, k) ∧ vp_in j k) hd (by show (en_ildX (en_xs X) _ _ _ _ _) = _; rw [hx]; rfl) (fun a => by show (en_ildX (en_xs X) _ _ _ _ _) = _; rw [hx]; rfl) (fun a => ⟨fun h => h.2, fun h => ⟨rfl, h⟩⟩)
theorem ej_baload {o : Option Nat} {j : Int32} (hd : decode (en_cc X) pc = .ok (.baload, 1)) : en_J X pc ls (en_I j :: en_R o :: r) σ ↔ ∃ a, o = some a ∧ (∃ k, en_al σ a = some (1, k) ∧ vp_in j k) ∧ en_J X (pc + 1) ls (en_I (en_ai σ a j.toNatClampNeg) :: r) σ :=
  en_jg (st := fun o => en_I j :: en_R o :: r) (pr := fun a => 1 = 1 ∧ ∃ k, en_al σ a = some (1, k) ∧ vp_in j k) hd rfl (fun a => rfl) (fun a => ⟨fun h => h.2, fun h => ⟨rfl, h⟩⟩)
theorem ej_daload {o : Option Nat} {j : Int32} (hd : decode (en_cc X) pc = .ok (.daload, 1)) : en_J X pc ls (en_I j :: en_R o :: r) σ ↔ ∃ a, o = some a ∧ (∃ k, en_al σ a = some (2, k) ∧ vp_in j k) ∧ en_J X (pc + 1) ls (en_D (en_ad σ a j.toNatClampNeg) :: r) σ :=
  en_jg (st := fun o => en_I j :: en_R o :: r) (pr := fun a => 1 = 1 ∧ ∃ k, en_al σ a = some (2, k) ∧ vp_in j k) hd rfl (fun a => rfl) (fun a => ⟨fun h => h.2, fun h => ⟨rfl, h⟩⟩)
theorem ej_laload {o : Option Nat} {j : Int32} (hd : decode (en_cc X) pc = .ok (.laload, 1)) : en_J X pc ls (en_I j :: en_R o :: r) σ ↔ ∃ a, o = some a ∧ (∃ k, en_al σ a = some (3, k) ∧ vp_in j k) ∧ en_J X (pc + 1) ls (en_L (en_aj σ a j.toNatClampNeg) :: r) σ :=
  en_jg (st := fun o => en_I j :: en_R o :: r) (pr := fun a => 1 = 1 ∧ ∃ k, en_al σ a = some (3, k) ∧ vp_in j k) hd rfl (fun a => rfl) (fun a => ⟨fun h => h.2, fun h => ⟨rfl, h⟩⟩)
theorem ej_aaload {o : Option Nat} {j : Int32} (hd : decode (en_cc X) pc = .ok (.aaload, 1)) : en_J X pc ls (en_I j :: en_R o :: r) σ ↔ ∃ a, o = some a ∧ (∃ t k, en_al σ a = some (t, k) ∧ 4 ≤ t ∧ vp_in j k) ∧ en_J X (pc + 1) ls (en_R (en_ar σ a j.toNatClampNeg) :: r) σ :=
  en_jg (st := fun o => en_I j :: en_R o :: r) (pr := fun a => 1 = 1 ∧ ∃ t k, en_al σ a = some (t, k) ∧ 4 ≤ t ∧ vp_in j k) hd rfl (fun a => rfl) (fun a => ⟨fun h => h.2, fun h => ⟨rfl, h⟩⟩)
theorem ej_iastore {o : Option Nat} {j x : Int32} (hd : decode (en_cc X) pc = .ok (.iastore, 1)) : en_J X pc ls (en_I x :: en_I j :: en_R o :: r) σ ↔ ∃ a, o = some a ∧ (∃ k, en_al σ a = some (0, k) ∧ vp_in j k) ∧ en_J X (pc + 1) ls r (en_sai σ a j.toNatClampNeg x) :=
  en_jg (st := fun o => en_I x :: en_I j :: en_R o :: r) (pr := fun a => 1 = 1 ∧ ∃ t m : Nat, en_al σ a = some (t, m) ∧ t = 0 ∧ vp_in j m ∧ en_afit σ t (en_I x)) (st' := fun _ => r) hd rfl (fun a => rfl) (fun a => ⟨fun ⟨_, t, k, h1, h2, h3, _⟩ => ⟨k, by rw [h2] at h1; exact h1, h3⟩, fun ⟨k, h1, h2⟩ => ⟨rfl, 0, k, h1, rfl, h2, trivial⟩⟩)
theorem ej_bastore {o : Option Nat} {j x : Int32} (hd : decode (en_cc X) pc = .ok (.bastore, 1)) : en_J X pc ls (en_I x :: en_I j :: en_R o :: r) σ ↔ ∃ a, o = some a ∧ (∃ k, en_al σ a = some (1, k) ∧ vp_in j k ∧ (x = 0 ∨ x = 1)) ∧ en_J X (pc + 1) ls r (en_sai σ a j.toNatClampNeg x) :=
  en_jg (st := fun o => en_I x :: en_I j :: en_R o :: r) (pr := fun a => 1 = 1 ∧ ∃ t m : Nat, en_al σ a = some (t, m) ∧ t = 1 ∧ vp_in j m ∧ en_afit σ t (en_I x)) (st' := fun _ => r) hd rfl (fun a => rfl) (fun a => ⟨fun ⟨_, t, k, h1, h2, h3, h4⟩ => by subst h2; exact ⟨k, h1, h3, h4⟩, fun ⟨k, h1, h2, h3⟩ => ⟨rfl, 1, k, h1, rfl, h2, h3⟩⟩)
theorem ej_dastore {o : Option Nat} {j : Int32} {x : UInt64} (hd : decode (en_cc X) pc = .ok (.dastore, 1)) : en_J X pc ls (en_D x :: en_I j :: en_R o :: r) σ ↔ ∃ a, o = some a ∧ (∃ k, en_al σ a = some (2, k) ∧ vp_in j k) ∧ en_J X (pc + 1) ls r (en_sad σ a j.toNatClampNeg x) :=
  en_jg (st := fun o => en_D x :: en_I j :: en_R o :: r) (pr := fun a => 1 = 1 ∧ ∃ t m : Nat, en_al σ a = some (t, m) ∧ t = 2 ∧ vp_in j m ∧ en_afit σ t (en_D x)) (st' := fun _ => r) hd rfl (fun a => rfl) (fun a => ⟨fun ⟨_, t, k, h1, h2, h3, _⟩ => ⟨k, by rw [h2] at h1; exact h1, h3⟩, fun ⟨k, h1, h2⟩ => ⟨rfl, 2, k, h1, rfl, h2, trivial⟩⟩)
theorem ej_lastore {o : Option Nat} {j : Int32} {x : Int64} (hd : decode (en_cc X) pc = .ok (.lastore, 1)) : en_J X pc ls (en_L x :: en_I j :: en_R o :: r) σ ↔ ∃ a, o = some a ∧ (∃ k, en_al σ a = some (3, k) ∧ vp_in j k) ∧ en_J X (pc + 1) ls r (en_saj σ a j.toNatClampNeg x) :=
  en_jg (st := fun o => en_L x :: en_I j :: en_R o :: r) (pr := fun a => 1 = 1 ∧ ∃ t m : Nat, en_al σ a = some (t, m) ∧ t = 3 ∧ vp_in j m ∧ en_afit σ t (en_L x)) (st' := fun _ => r) hd rfl (fun a => rfl) (fun a => ⟨fun ⟨_, t, k, h1, h2, h3, _⟩ => ⟨k, by rw [h2] at h1; exact h1, h3⟩, fun ⟨k, h1, h2⟩ => ⟨rfl, 3, k, h1, rfl, h2, trivial⟩⟩)
theorem en_afitR {t : Nat} {v : Option Nat} (h : 4 ≤ t) : en_afit σ t (en_R v) ↔ ∀ b, v = some b → en_cl σ b = some (en_ec t) := by
  refine ⟨fun h0 => ?_, fun h0 => ?_⟩
  · obtain ⟨o, h1, h2⟩ := en_afit_ref h h0
    cases h1
    exact h2
  · obtain ⟨k, rfl⟩ : ∃ k, t = k + 4 := ⟨t - 4, by omega⟩
    exact ⟨h, h0⟩
theorem ej_aastore {o v : Option Nat} {j : Int32} (hd : decode (en_cc X) pc = .ok (.aastore, 1)) : en_J X pc ls (en_R v :: en_I j :: en_R o :: r) σ ↔ ∃ a, o = some a ∧ (∃ t k, en_al σ a = some (t, k) ∧ 4 ≤ t ∧ vp_in j k ∧ ∀ b, v = some b → en_cl σ b = some (en_ec t)) ∧ en_J X (pc + 1) ls r (en_sar σ a j.toNatClampNeg v) :=
  en_jg (st := fun o => en_R v :: en_I j :: en_R o :: r) (pr := fun a => 1 = 1 ∧ ∃ t m : Nat, en_al σ a = some (t, m) ∧ 4 ≤ t ∧ vp_in j m ∧ en_afit σ t (en_R v)) (st' := fun _ => r) hd rfl (fun a => rfl) (fun a => ⟨fun ⟨_, t, k, h1, h2, h3, h4⟩ => ⟨t, k, h1, h2, h3, (en_afitR h2).mp h4⟩, fun ⟨t, k, h1, h2, h3, h4⟩ => ⟨rfl, t, k, h1, h2, h3, (en_afitR h2).mpr h4⟩⟩)
theorem ej_alen {o : Option Nat} (hd : decode (en_cc X) pc = .ok (.arraylength, 1)) (hx : en_xs X = none) : en_J X pc ls (en_R o :: r) σ ↔ ∃ a, o = some a ∧ (en_al σ a).isSome = true ∧ en_J X (pc + 1) ls (en_I (nI ((en_al σ a).getD (0, 0)).2) :: r) σ :=
  en_jg (st := fun o => en_R o :: r) (pr := fun a => 1 = 1 ∧ (en_al σ a).isSome = true) hd rfl (fun a => by show en_alenX (en_xs X) (en_R (some a) :: r) 1 pc ls σ = _; rw [hx]; rfl) (fun a => ⟨fun h => h.2, fun h => ⟨rfl, h⟩⟩)
theorem ej_iconst {v : Int} {x : Int32} (hd : decode (en_cc X) pc = .ok (.iconst v, 1)) (hv : Int32.ofInt v = x) : en_J X pc ls r σ ↔ en_J X (pc + 1) ls (en_I x :: r) σ := by subst hv; exact en_j1 hd rfl rfl
theorem ej_bipush {v : Int} {x : Int32} (hd : decode (en_cc X) pc = .ok (.bipush v, 2)) (hv : (Int8.ofInt v).toInt32 = x) : en_J X pc ls r σ ↔ en_J X (pc + 2) ls (en_I x :: r) σ := by subst hv; exact en_j1 hd rfl rfl
theorem ej_sipush {v : Int} {x : Int32} (hd : decode (en_cc X) pc = .ok (.sipush v, 3)) (hv : (Int16.ofInt v).toInt32 = x) : en_J X pc ls r σ ↔ en_J X (pc + 3) ls (en_I x :: r) σ := by subst hv; exact en_j1 hd rfl rfl
theorem ej_iinc {k : Nat} {v : Int} {x w : Int32} {ls' : List en_V} (hd : decode (en_cc X) pc = .ok (.iinc k v, 3)) (hk : ls[k]? = some (en_I x)) (hv : Int32.ofInt v = w) (hl : en_st1 ls k (en_I (x + w)) = ls') : en_J X pc ls r σ ↔ en_J X (pc + 3) ls' r σ := by
  subst hv; subst hl
  refine en_j1 hd (pr := 3 = 3) ?_ rfl
  show (match ls[k]? with | some (some (.inl x)) => _ | _ => en_no) = _
  rw [hk]; rfl
theorem ej_table {dflt lo hi : Int} {offs : Array Int} {n tgt : Nat} {x : Int32} (hd : decode (en_cc X) pc = .ok (.tableswitch dflt lo hi offs, n)) (ht : en_tsw pc dflt lo hi offs x = (tgt : Int)) : en_J X pc ls (en_I x :: r) σ ↔ en_J X tgt ls r σ := by
  have e1 : (en_tsw pc dflt lo hi offs x).toNat = tgt := by rw [ht]; rfl
  have h := en_j1 (X := X) (pc := pc) (ls := ls) (st := en_I x :: r) (σ := σ) (pr := 0 ≤ en_tsw pc dflt lo hi offs x) hd rfl (by rw [ht]; exact Int.natCast_nonneg tgt)
  rw [e1] at h
  exact h
theorem en_tswD {dflt lo hi : Int} {offs : Array Int} {tgt : Nat} {x : Int32} (hx : x.toInt < lo ∨ hi < x.toInt) (ht : (pc : Int) + dflt = (tgt : Int)) : en_tsw pc dflt lo hi offs x = (tgt : Int) := by unfold en_tsw; rw [if_pos hx]; exact ht
theorem ej_newa {i : Instr} {n m t : Nat} {x : Int32} {k : Nat} (hd : decode (en_cc X) pc = .ok (i, n)) (hs : en_sem X i n pc ls (en_I x :: r) σ = en_new1 (en_I x :: r) n pc m ls σ X t) (hn : n = m) (h0 : ¬ x < 0) (hk : x.toNatClampNeg = k) (h1 : k ≤ 1000) : en_J X pc ls (en_I x :: r) σ ↔ (en_nx σ + 1 ≤ en_xl X ∧ en_ns σ + k ≤ en_sl X) ∧ en_J X (pc + m) ls (en_R (some (en_nx σ)) :: r) (en_newa σ t k) := by
  subst hk
  refine en_jc hd hs ⟨fun h => ⟨h.2.2.2.1, h.2.2.2.2⟩, fun h => ⟨hn, h0, h1, h.1, h.2⟩⟩
end
/-- looking a number up -/
def en_lk {α : Type} : List (Nat × α) → Nat → Option α
  | [], _ => none
  | q :: l, i => if q.1 = i then some q.2 else en_lk l i
theorem en_lk_mem {α : Type} {l : List (Nat × α)} {i : Nat} {a : α} (h : en_lk l i = some a) : (i, a) ∈ l := by
  induction l with
  | nil => cases h
  | cons q l ih =>
    simp only [en_lk] at h
    by_cases hq : q.1 = i
    · rw [if_pos hq] at h
      cases h
      rw [← hq]
      exact List.mem_cons_self
    · rw [if_neg hq] at h
      exact List.mem_cons_of_mem _ (ih h)
