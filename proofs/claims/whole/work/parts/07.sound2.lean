
/-! THE ENGINE, part 5: arrays, making, the whole -/
section
variable {p : Program} {l : Launch} {e : Env} {R : Room} {s : State} {m : MethodId} {args : Array Value} {below : List Frame} {meth : Method} {c : Code} {Qf : State → Prop} {own : String} {X : en_X} {nL base : Nat} {D : va_G} {dA : Nat → ClassId}
variable {n pc : Nat} {ls st : List en_V} {σ : en_S} {H : Heap} {locs : List Loc} {lsA : Array Slot} {cells slots : Nat}
theorem en_arr (Cx : en_Cx p l e R s m args below meth c Qf own X nL base D dA) {t : Nat} (ht : t < 8) (k : Nat) (z : Nat → Value) : s.isArrayOf (arrV (dA t) k z) (en_at t) := (Cx.2.2.2.2.2.1.2.1 t ht).1 k z
theorem en_s_ald (Cx : en_Cx p l e R s m args below meth c Qf own X nL base D dA) {i : Instr} {t : Nat} (hd : decode (en_cc X) pc = .ok (i, n)) (hi : (i = .iaload ∧ t = 0) ∨ (i = .baload ∧ t = 1) ∨ (i = .daload ∧ t = 2) ∨ (i = .laload ∧ t = 3)) (h1 : (en_ald st n pc ls σ t).1) (h2 : ∀ d, (en_ald st n pc ls σ t).2 d → en_P p l e R s m args below meth c Qf X nL base D dA d) : en_P p l e R s m args below meth c Qf X nL base D dA (pc, ls, st, σ) := by
  rcases st with _ | ⟨(_ | (j | o | o | o)), _ | ⟨(_ | (o | (_ | a) | o | o)), r⟩⟩ <;> first | exact h1.elim | skip
  obtain ⟨rfl, k, hc, hin⟩ := h1
  have h2 := h2 _ rfl
  intro H locs lsA cells slots hH hS hx1 hx2 hl
  obtain ⟨g1, g2, g3, g4⟩ := hH.2.1 a t k hc
  have hlt : j.toNatClampNeg < k := Nat.not_le.mp fun q => hin (Or.inr q)
  have hin' : ¬ (j < 0 ∨ (arrV (dA t) k (fun j => en_vv (en_el σ t a j))).slots.size ≤ j.toNatClampNeg) := by rw [arrV_size]; exact hin
  have hv : (arrV (dA t) k (fun j => en_vv (en_el σ t a j))).slots[j.toNatClampNeg]? = some (en_vv (en_el σ t a j.toNatClampNeg)) := by rw [arrV_read _ _ hlt]
  have hk := h2 H locs lsA cells slots hH hS hx1 hx2 hl
  rcases hi with ⟨rfl, rfl⟩ | ⟨rfl, rfl⟩ | ⟨rfl, rfl⟩ | ⟨rfl, rfl⟩
  · exact W.iald Cx.1 Cx.2.1 g4 (en_arr Cx g2 _ _) (fun q => by cases q) hin' hv rfl rfl hd hk
  · exact W.zald Cx.1 Cx.2.1 g4 (en_arr Cx g2 _ _) (fun q => by cases q) hin' hv rfl rfl hd hk
  · exact W.dald Cx.1 Cx.2.1 g4 (en_arr Cx g2 _ _) (fun q => by cases q) hin' hv rfl rfl hd hk
  · exact W.lald Cx.1 Cx.2.1 g4 (en_arr Cx g2 _ _) (fun q => by cases q) hin' hv rfl rfl hd hk
theorem en_s_iald (Cx : en_Cx p l e R s m args below meth c Qf own X nL base D dA) (hd : decode (en_cc X) pc = .ok (.iaload, n)) (h1 : (en_ildX (en_xs X) st n pc ls σ).1) (h2 : ∀ d, (en_ildX (en_xs X) st n pc ls σ).2 d → en_P p l e R s m args below meth c Qf X nL base D dA d) : en_P p l e R s m args below meth c Qf X nL base D dA (pc, ls, st, σ) := by
  cases hx : en_xs X with
  | none =>
    rw [hx] at h1 h2
    exact en_s_ald Cx hd (Or.inl ⟨rfl, rfl⟩) h1 h2
  | some q =>
    obtain ⟨b, L, xs⟩ := q
    rw [hx] at h1 h2
    rcases st with _ | ⟨(_ | (j | o | o | o)), _ | ⟨(_ | (o | (_ | a) | o | o)), r⟩⟩ <;> first | exact h1.elim | skip
    obtain ⟨rfl, ha, hin⟩ := h1
    have ha : a = b := ha
    subst ha
    have h2 := h2 _ rfl
    intro H locs lsA cells slots hH hS hx1 hx2 hl
    obtain ⟨hX, hb1, hb2⟩ := Cx.2.2.2.2.2.2.2.2.2.2.2.1 a L xs hx
    exact va_sld Cx.1 Cx.2.1 hX hb1 (Nat.not_le.mpr hb2) hS hin hd (h2 H locs lsA cells slots hH hS hx1 hx2 hl)
theorem en_s_alen (Cx : en_Cx p l e R s m args below meth c Qf own X nL base D dA) (hd : decode (en_cc X) pc = .ok (.arraylength, n)) (h1 : (en_alenX (en_xs X) st n pc ls σ).1) (h2 : ∀ d, (en_alenX (en_xs X) st n pc ls σ).2 d → en_P p l e R s m args below meth c Qf X nL base D dA d) : en_P p l e R s m args below meth c Qf X nL base D dA (pc, ls, st, σ) := by
  rcases st with _ | ⟨(_ | (o | (_ | a) | o | o)), r⟩ <;> first | exact h1.elim | skip
  unfold en_alenX at h1 h2
  cases hx : en_xs X with
  | none =>
    rw [hx] at h1 h2
    obtain ⟨rfl, hc⟩ := h1
    have h2 := h2 _ rfl
    intro H locs lsA cells slots hH hS hx1 hx2 hl
    cases ha : en_al σ a with
    | none => rw [ha] at hc; cases hc
    | some q =>
      obtain ⟨t, k⟩ := q
      obtain ⟨g1, g2, g3, g4⟩ := hH.2.1 a t k ha
      have hk := h2 H locs lsA cells slots hH hS hx1 hx2 hl
      refine W.alen (n := nI k) Cx.1 Cx.2.1 g4 (en_arr Cx g2 _ _) (by rw [arrV_size]; rfl) rfl rfl hd ?_
      simp only [ha, Option.getD_some] at hk
      exact hk
  | some q =>
    obtain ⟨b, L, xs⟩ := q
    rw [hx] at h1 h2
    obtain ⟨rfl, ha⟩ := h1
    have ha : a = b := ha
    subst ha
    have h2 := h2 _ rfl
    intro H locs lsA cells slots hH hS hx1 hx2 hl
    obtain ⟨hX, hb1, hb2⟩ := Cx.2.2.2.2.2.2.2.2.2.2.2.1 a L xs hx
    exact va_slen Cx.1 Cx.2.1 hX hb1 (Nat.not_le.mpr hb2) hS hd (h2 H locs lsA cells slots hH hS hx1 hx2 hl)
theorem en_at_ref {t : Nat} (h : 4 ≤ t) : (en_at t).isReference = true ∧ ∃ C : String, en_at t = .object C := by
  unfold en_at
  split <;> first | omega | exact ⟨rfl, _, rfl⟩
theorem en_el_ref {t a j : Nat} (h : 4 ≤ t) : en_el σ t a j = en_R (en_ar σ a j) := by
  unfold en_el
  split <;> first | omega | rfl
theorem en_s_aald (Cx : en_Cx p l e R s m args below meth c Qf own X nL base D dA) (hd : decode (en_cc X) pc = .ok (.aaload, n)) (h1 : (en_sem X .aaload n pc ls st σ).1) (h2 : ∀ d, (en_sem X .aaload n pc ls st σ).2 d → en_P p l e R s m args below meth c Qf X nL base D dA d) : en_P p l e R s m args below meth c Qf X nL base D dA (pc, ls, st, σ) := by
  rcases st with _ | ⟨(_ | (j | o | o | o)), _ | ⟨(_ | (o | (_ | a) | o | o)), r⟩⟩ <;> first | exact h1.elim | skip
  obtain ⟨rfl, t, k, hc, ht4, hin⟩ := h1
  have h2 := h2 _ rfl
  intro H locs lsA cells slots hH hS hx1 hx2 hl
  obtain ⟨g1, g2, g3, g4⟩ := hH.2.1 a t k hc
  have hlt : j.toNatClampNeg < k := Nat.not_le.mp fun q => hin (Or.inr q)
  have hin' : ¬ (j < 0 ∨ (arrV (dA t) k (fun j => en_vv (en_el σ t a j))).slots.size ≤ j.toNatClampNeg) := by rw [arrV_size]; exact hin
  have hv : (arrV (dA t) k (fun j => en_vv (en_el σ t a j))).slots[j.toNatClampNeg]? = some (en_vv (en_R (en_ar σ a j.toNatClampNeg))) := by rw [arrV_read _ _ hlt, en_el_ref ht4]
  exact W.aald Cx.1 Cx.2.1 g4 (en_arr Cx g2 _ _) (en_at_ref ht4).1 (fun q => by cases q) hin' hv rfl rfl hd (h2 H locs lsA cells slots hH hS hx1 hx2 hl)
theorem en_afit_ref {t : Nat} {v : en_V} (h4 : 4 ≤ t) (h : en_afit σ t v) : ∃ o, v = en_R o ∧ ∀ b, o = some b → en_cl σ b = some (en_ec t) := by
  unfold en_afit at h
  split at h
  · omega
  · omega
  · omega
  · omega
  · exact ⟨_, rfl, h.2⟩
  · exact h.elim
theorem en_s_ast (Cx : en_Cx p l e R s m args below meth c Qf own X nL base D dA) {i : Instr} {tk : Nat → Prop} (hd : decode (en_cc X) pc = .ok (i, n)) (hi : (i = .iastore ∧ tk = fun t => t = 0) ∨ (i = .bastore ∧ tk = fun t => t = 1) ∨ (i = .dastore ∧ tk = fun t => t = 2) ∨ (i = .lastore ∧ tk = fun t => t = 3) ∨ (i = .aastore ∧ tk = fun t => 4 ≤ t)) (h1 : (en_ast st n pc ls σ tk).1) (h2 : ∀ d, (en_ast st n pc ls σ tk).2 d → en_P p l e R s m args below meth c Qf X nL base D dA d) : en_P p l e R s m args below meth c Qf X nL base D dA (pc, ls, st, σ) := by
  rcases st with _ | ⟨v, _ | ⟨(_ | (j | o | o | o)), _ | ⟨(_ | (o | (_ | a) | o | o)), r⟩⟩⟩ <;> first | exact h1.elim | skip
  obtain ⟨rfl, t, k, hc, htk, hin, hfit⟩ := h1
  have h2 := h2 _ rfl
  intro H locs lsA cells slots hH hS hx1 hx2 hl
  obtain ⟨g1, g2, g3, g4⟩ := hH.2.1 a t k hc
  have hlt : j.toNatClampNeg < k := Nat.not_le.mp fun q => hin (Or.inr q)
  have hin' : ¬ (j < 0 ∨ (arrV (dA t) k (fun j => en_vv (en_el σ t a j))).slots.size ≤ j.toNatClampNeg) := by rw [arrV_size]; exact hin
  have kk : ∀ H' : Heap, H'[a]? = some ((arrV (dA t) k (fun j => en_vv (en_el σ t a j))).setSlot j.toNatClampNeg (en_vv v)) → H'.size = H.size → (∀ q, q ≠ a → H'[q]? = H[q]?) → W p l e R s m args below meth c H' (locs ++ [⟨a, j.toNatClampNeg⟩]) cells slots Qf (F0 m (pc + 1) lsA (r.map en_vv)) := by
    intro H' e1 e2 e3
    exact h2 H' _ lsA cells slots (hH.st hc hfit e1 e2 e3) (hS.put e2 e3 g1) (by rw [en_se_nx]; exact hx1) (by rw [en_se_ns]; exact hx2) hl
  rcases hi with ⟨rfl, rfl⟩ | ⟨rfl, rfl⟩ | ⟨rfl, rfl⟩ | ⟨rfl, rfl⟩ | ⟨rfl, rfl⟩
  · subst htk
    rcases v with _ | (x | o | x | x) <;> first | exact hfit.elim | exact absurd hfit.1 (by decide) | skip
    exact W.iast Cx.1 Cx.2.1 g4 (en_arr Cx g2 _ _) (fun q => by cases q) hin' rfl rfl hd kk
  · subst htk
    rcases v with _ | (x | o | x | x) <;> first | exact hfit.elim | exact absurd hfit.1 (by decide) | skip
    have hnar : narrow .boolean (.int x) = .int x := by rcases hfit with rfl | rfl <;> decide +kernel
    refine W.zast Cx.1 Cx.2.1 g4 (en_arr Cx g2 _ _) (fun q => by cases q) hin' rfl rfl hd ?_
    rw [hnar]
    exact kk
  · subst htk
    rcases v with _ | (x | o | x | x) <;> first | exact hfit.elim | exact absurd hfit.1 (by decide) | skip
    exact W.dast Cx.1 Cx.2.1 g4 (en_arr Cx g2 _ _) (fun q => by cases q) hin' rfl rfl hd kk
  · subst htk
    rcases v with _ | (x | o | x | x) <;> first | exact hfit.elim | exact absurd hfit.1 (by decide) | skip
    exact W.last Cx.1 Cx.2.1 g4 (en_arr Cx g2 _ _) (fun q => by cases q) hin' rfl rfl hd kk
  · have htk : 4 ≤ t := htk
    obtain ⟨o, rfl, ho⟩ := en_afit_ref htk hfit
    cases o with
    | none =>
      obtain ⟨C, hC⟩ := (en_at_ref htk).2
      have harr := en_arr Cx g2 k (fun j => en_vv (en_el σ t a j))
      rw [hC] at harr
      exact va_WaastN (C := C) Cx.1 Cx.2.1 g4 harr (fun q => by cases q) hin' rfl rfl hd kk
    | some b =>
      have hb := ho b rfl
      obtain ⟨rr, cell, kC, f1, f2, f3, f4, f5, f6, f7, f8, f9⟩ := en_cell Cx hH hb
      have hRA := (Cx.2.2.2.2.2.1.2.1 t g2).2
      have hname : en_at t = .object rr.1 := by
        have : t = 4 ∨ t = 5 ∨ t = 6 ∨ t = 7 := by omega
        rcases this with rfl | rfl | rfl | rfl <;> cases f1 <;> rfl
      rw [hname] at hRA
      obtain ⟨kA, comp, k1, k2, k3, -⟩ := hRA
      have hcomp : comp = D.1 (en_ec t) := Option.some.inj (k3.symm.trans f6)
      subst hcomp
      exact W.aast Cx.1 Cx.2.1 g4 (fun q h => by cases h) (fun h => by cases h) k1 k2 rfl f7 ⟨fun q => hin (Or.inl q), by rw [arrV_size]; exact hlt⟩ f2 (fun q h => by rw [f4] at h; cases h) (by rw [f3]; exact f7) (by rw [f3]; exact va_assign ⟨f6, kC, f7, f8⟩) rfl rfl hd kk
theorem en_grown (hS : va_S (fun q => base ≤ q) s.heap H locs) (hb : base ≤ s.heap.size) (cell : Cell) : va_S (fun q => base ≤ q) s.heap (H.push cell) locs :=
  ⟨Nat.le_trans hS.1 (by rw [Array.size_push]; exact Nat.le_succ _), fun q h1 h2 => by rw [Array.getElem?_push, if_neg (by have := hS.1; omega)]; exact hS.2.1 q h1 h2, hS.2.2⟩
theorem en_dflt {t : Nat} (ht : t < 8) (k : Nat) : (fun j => en_vv (en_el (en_newa σ t k) t (en_nx σ) j)) = fun _ => defaultValue (en_at t) := by
  funext j
  have : t = 0 ∨ t = 1 ∨ t = 2 ∨ t = 3 ∨ t = 4 ∨ t = 5 ∨ t = 6 ∨ t = 7 := by omega
  rcases this with rfl | rfl | rfl | rfl | rfl | rfl | rfl | rfl <;> simp [en_el, en_at, en_ai, en_ar, en_ad, en_aj, en_newa, en_I, en_R, en_D, en_L, en_vv, defaultValue, va_rf, en_nx]
theorem en_room (Cx : en_Cx p l e R s m args below meth c Qf own X nL base D dA) (hH : en_H D dA base σ H) (hS : va_S (fun q => base ≤ q) s.heap H locs) {k : Nat} (h1 : en_nx σ + 1 ≤ en_xl X) (h2 : en_ns σ + k ≤ en_sl X) (h3 : en_hs s.heap ≤ en_hs H) : H.size - s.heap.size + 1 ≤ R.cells ∧ en_hs H - en_hs s.heap + k ≤ R.slots := by
  have e1 := Cx.2.2.2.2.2.2.2.1
  have e2 := Cx.2.2.2.2.2.2.2.2.1
  have e3 := hH.2.2.1
  have e4 := hH.2.2.2.1
  have e5 := hS.1
  omega
end
