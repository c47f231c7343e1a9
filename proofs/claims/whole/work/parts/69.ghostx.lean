/-! THE ENGINE, throws: contracts with ghosts -/
section
variable {G : en_G} {cc : ByteArray} {fl : Nat → Option Nat} {nw : Nat → Option (Nat × Nat)} {aw : Nat → Option Nat} {dc : Nat → Option UInt64} {ca : Nat → Option (Nat × en_C)} {xt : Nat → Option String} {rt : Nat} {ini : Bool}
theorem en_semY {X1 X2 : en_X} {i : Instr} {n pc : Nat} {ls st : List en_V} {σ : en_S} (h1 : i ≠ .ireturn) (h2 : i ≠ .areturn) (h3 : i ≠ .dreturn) (h4 : i ≠ .return_) (h5 : ∀ idx, i = .new idx → en_xt X2 pc = none) (e1 : en_xf X1 = en_xf X2) (e2 : en_xn X1 = en_xn X2) (e3 : en_xa X1 = en_xa X2) (e4 : en_xd X1 = en_xd X2) (e5 : en_xc X1 = en_xc X2) (e6 : en_xs X1 = en_xs X2) (e7 : en_xt X1 = en_xt X2) (e8 : en_xl X1 = en_xl X2) (e9 : en_sl X1 = en_sl X2) (e10 : en_ini X1 = en_ini X2) : en_sem X1 i n pc ls st σ = en_sem X2 i n pc ls st σ := by
  cases i with
  | newarray a => cases a <;> simp only [en_sem, en_new1, e8, e9]
  | ireturn => exact absurd rfl h1
  | areturn => exact absurd rfl h2
  | dreturn => exact absurd rfl h3
  | return_ => exact absurd rfl h4
  | new idx =>
    have hx := h5 idx rfl
    simp only [en_sem, en_new1, e7, hx, e2, e8, e9]
  | _ => simp only [en_sem, en_call, en_new1, e1, e2, e3, e4, e5, e6, e7, e8, e9, e10]
theorem en_semqX {q1 q2 : Option en_V → en_S → Prop} {x1 x2 : String → en_S → Prop} {i : Instr} {n pc : Nat} {ls st : List en_V} {σ : en_S} (h1 : i ≠ .ireturn) (h2 : i ≠ .areturn) (h3 : i ≠ .dreturn) (h4 : i ≠ .return_) (h5 : ∀ idx, i = .new idx → xt pc = none) : en_sem (en_mkX G cc fl nw aw dc ca xt rt ini q1 x1) i n pc ls st σ = en_sem (en_mkX G cc fl nw aw dc ca xt rt ini q2 x2) i n pc ls st σ :=
  en_semY h1 h2 h3 h4 h5 rfl rfl rfl rfl rfl rfl rfl rfl rfl rfl
theorem en_semrX {γ : Type} (pq : γ → Option en_V → en_S → Prop) (px : γ → String → en_S → Prop) (ok : γ → Prop) {g0 : γ} (hg0 : ok g0) {i : Instr} {n pc : Nat} {ls st : List en_V} {σ : en_S} (hi : (i = .ireturn ∨ i = .areturn ∨ i = .dreturn ∨ i = .return_) ∨ ∃ idx E, i = .new idx ∧ xt pc = some E) (h : ∀ g, ok g → (en_sem (en_mkX G cc fl nw aw dc ca xt rt ini (pq g) (px g)) i n pc ls st σ).1) :
    (en_sem (en_mkX G cc fl nw aw dc ca xt rt ini (fun r σ' => ∀ g, ok g → pq g r σ') (fun E σ' => ∀ g, ok g → px g E σ')) i n pc ls st σ).1 ∧ ∀ d, ¬ (en_sem (en_mkX G cc fl nw aw dc ca xt rt ini (fun r σ' => ∀ g, ok g → pq g r σ') (fun E σ' => ∀ g, ok g → px g E σ')) i n pc ls st σ).2 d := by
  rcases hi with (rfl | rfl | rfl | rfl) | ⟨idx, E, rfl, hE⟩
  · rcases st with _ | ⟨(_ | (x | o | o | o)), _ | ⟨w, r⟩⟩ <;> first | exact (h g0 hg0).elim | skip
    exact ⟨⟨(h g0 hg0).1, (h g0 hg0).2.1, fun g hg => (h g hg).2.2⟩, fun d hd => hd⟩
  · rcases st with _ | ⟨(_ | (o | x | o | o)), _ | ⟨w, r⟩⟩ <;> first | exact (h g0 hg0).elim | skip
    exact ⟨⟨(h g0 hg0).1, (h g0 hg0).2.1, fun g hg => (h g hg).2.2⟩, fun d hd => hd⟩
  · rcases st with _ | ⟨(_ | (o | o | x | o)), _ | ⟨w, r⟩⟩ <;> first | exact (h g0 hg0).elim | skip
    exact ⟨⟨(h g0 hg0).1, (h g0 hg0).2.1, fun g hg => (h g hg).2.2⟩, fun d hd => hd⟩
  · rcases st with _ | ⟨w, r⟩ <;> first | exact (h g0 hg0).elim | skip
    exact ⟨⟨(h g0 hg0).1, (h g0 hg0).2.1, fun g hg => (h g hg).2.2⟩, fun d hd => hd⟩
  · have e : ∀ q x, en_xt (en_mkX G cc fl nw aw dc ca xt rt ini q x) pc = some E := fun q x => hE
    have h' : ∀ g, ok g → n = 3 ∧ en_nx σ + 1 ≤ G.2.2.2.2.1 ∧ en_ns σ + 6 ≤ G.2.2.2.2.2 ∧ st = [] ∧ px g E σ := fun g hg => by
      have := h g hg
      simp only [en_sem, e] at this
      exact this
    simp only [en_sem, e]
    exact ⟨⟨(h' g0 hg0).1, (h' g0 hg0).2.1, (h' g0 hg0).2.2.1, (h' g0 hg0).2.2.2.1, fun g hg => (h' g hg).2.2.2.2⟩, fun d hd => hd⟩
theorem en_allX {γ : Type} (pq : γ → Option en_V → en_S → Prop) (px : γ → String → en_S → Prop) (ok : γ → Prop) (g0 : γ) (hg0 : ok g0) {pc : Nat} {ls st : List en_V} {σ : en_S} (h : ∀ g, ok g → en_J (en_mkX G cc fl nw aw dc ca xt rt ini (pq g) (px g)) pc ls st σ) : en_J (en_mkX G cc fl nw aw dc ca xt rt ini (fun r σ' => ∀ g, ok g → pq g r σ') (fun E σ' => ∀ g, ok g → px g E σ')) pc ls st σ := by
  have key := h g0 hg0 (fun c => (∀ g, ok g → en_Jc (en_mkX G cc fl nw aw dc ca xt rt ini (pq g) (px g)) c) → en_Jc (en_mkX G cc fl nw aw dc ca xt rt ini (fun r σ' => ∀ g, ok g → pq g r σ') (fun E σ' => ∀ g, ok g → px g E σ')) c) ?_
  · exact key h
  · intro c h1 h2 hall
    obtain ⟨pc, ls, st, σ⟩ := c
    unfold en_stp at h1 h2
    cases hd : decode (en_cc (en_mkX G cc fl nw aw dc ca xt rt ini (pq g0) (px g0))) pc with
    | error _ => simp only [hd] at h1; exact h1.elim
    | ok w =>
      obtain ⟨i, n⟩ := w
      simp only [hd] at h1 h2
      have hd' : ∀ q x, decode (en_cc (en_mkX G cc fl nw aw dc ca xt rt ini q x)) pc = .ok (i, n) := fun q x => hd
      have hall' : ∀ g, ok g → (en_sem (en_mkX G cc fl nw aw dc ca xt rt ini (pq g) (px g)) i n pc ls st σ).1 ∧ ∀ d, (en_sem (en_mkX G cc fl nw aw dc ca xt rt ini (pq g) (px g)) i n pc ls st σ).2 d → en_Jc (en_mkX G cc fl nw aw dc ca xt rt ini (pq g) (px g)) d := fun g hg => (en_iff (hd' (pq g) (px g))).mp (hall g hg)
      by_cases hr : (i = .ireturn ∨ i = .areturn ∨ i = .dreturn ∨ i = .return_) ∨ ∃ idx E, i = .new idx ∧ xt pc = some E
      · obtain ⟨k1, k2⟩ := en_semrX pq px ok hg0 hr (fun g hg => (hall' g hg).1)
        exact (en_iff (hd' _ _)).mpr ⟨k1, fun d hd => (k2 d hd).elim⟩
      · have n1 : i ≠ .ireturn := fun q => hr (Or.inl (Or.inl q))
        have n2 : i ≠ .areturn := fun q => hr (Or.inl (Or.inr (Or.inl q)))
        have n3 : i ≠ .dreturn := fun q => hr (Or.inl (Or.inr (Or.inr (Or.inl q))))
        have n4 : i ≠ .return_ := fun q => hr (Or.inl (Or.inr (Or.inr (Or.inr q))))
        have n5 : ∀ idx, i = .new idx → xt pc = none := fun idx q => by
          cases hx : xt pc with
          | none => rfl
          | some E => exact absurd (Or.inr ⟨idx, E, q, hx⟩) hr
        refine (en_iff (hd' _ _)).mpr ?_
        rw [en_semqX (q2 := pq g0) (x2 := px g0) n1 n2 n3 n4 n5]
        refine ⟨h1, fun d hd => h2 d hd (fun g hg => (hall' g hg).2 d ?_)⟩
        rw [en_semqX (q2 := pq g0) (x2 := px g0) n1 n2 n3 n4 n5]
        exact hd
end
/-- what a throw leaves, with a ghost -/
def en_ghx {γ : Type} (pre : γ → List en_V → en_S → Prop) (post : γ → List en_V → en_S → String → en_S → Prop) : en_XP := fun as σ E σ' => ∀ g, pre g as σ → post g as σ E σ'
theorem en_ghJX {G : en_G} {cc : ByteArray} {fl : Nat → Option Nat} {nw : Nat → Option (Nat × Nat)} {aw : Nat → Option Nat} {dc : Nat → Option UInt64} {ca : Nat → Option (Nat × en_C)} {xt : Nat → Option String} {rt : Nat} {ini : Bool} {γ : Type} {pre : γ → List en_V → en_S → Prop} {post : γ → List en_V → en_S → Option en_V → en_S → Prop} {postx : γ → List en_V → en_S → String → en_S → Prop} {maxL : Nat}
    (h : ∀ g as σ, pre g as σ → (en_lc as).length ≤ maxL ∧ en_J (en_mkX G cc fl nw aw dc ca xt rt ini (fun r σ' => post g as σ r σ') (fun E σ' => postx g as σ E σ')) 0 (en_loc maxL as) [] σ) : ∀ as σ, (en_gh pre post).1 as σ → (en_lc as).length ≤ maxL ∧ en_J (en_mkX G cc fl nw aw dc ca xt rt ini (fun r σ' => (en_gh pre post).2 as σ r σ') (fun E σ' => en_ghx pre postx as σ E σ')) 0 (en_loc maxL as) [] σ := by
  rintro as σ ⟨g0, hg0⟩
  exact ⟨(h g0 as σ hg0).1, en_allX (fun g => post g as σ) (fun g => postx g as σ) (fun g => pre g as σ) g0 hg0 (fun g hg => (h g as σ hg).2)⟩
/-- a throw -/
theorem ej_thr {X : en_X} {idx pc : Nat} {E : String} {ls : List en_V} {σ : en_S} (hd : decode (en_cc X) pc = .ok (.new idx, 3)) (hx : en_xt X pc = some E) : en_J X pc ls [] σ ↔ en_nx σ + 1 ≤ en_xl X ∧ en_ns σ + 6 ≤ en_sl X ∧ en_qx X E σ := by
  rw [en_iff hd]
  simp only [en_sem, hx]
  exact ⟨fun h => ⟨h.1.2.1, h.1.2.2.1, h.1.2.2.2.2⟩, fun h => ⟨⟨trivial, h.1, h.2.1, trivial, h.2.2⟩, fun d hd => hd.elim⟩⟩
