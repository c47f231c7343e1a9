
/-! THE ENGINE, part 6: making; the judgement is sound -/
section
variable {p : Program} {l : Launch} {e : Env} {R : Room} {s : State} {m : MethodId} {args : Array Value} {below : List Frame} {meth : Method} {c : Code} {Qf : State → Prop} {own : String} {X : en_X} {nL base : Nat} {D : va_G} {dA : Nat → ClassId}
variable {n pc : Nat} {ls st : List en_V} {σ : en_S} {H : Heap} {locs : List Loc} {lsA : Array Slot} {cells slots : Nat}
theorem W.le {g : JFrame} (k : en_hs s.heap ≤ en_hs H → W p l e R s m args below meth c H locs cells slots Qf g) : W p l e R s m args below meth c H locs cells slots Qf g := by
  intro T hT Y
  refine k ?_ T hT Y
  obtain ⟨e1, h1, h2, h3, h4, h5⟩ := Y.same
  have hb : T.slotsUsed = en_hs T.heap := by
    have := Y.book
    simp only [State.slotsTrue, beq_iff_eq] at this
    exact this
  have hb0 : s.slotsUsed = en_hs s.heap := by
    have := Y.room
    simp only [State.hasRoom, Bool.and_eq_true] at this
    have h9 := this.2
    simp only [State.slotsTrue, beq_iff_eq] at h9
    exact h9
  have h3' : T.slotsUsed = s.slotsUsed + (((T.setVm s.vm).heap.toList.drop s.heap.size).map (·.slots.size)).sum := h3
  rw [← hT]
  omega
/-- behind a making: the world, its room -/
theorem en_madeA (Cx : en_Cx p l e R s m args below meth c Qf own X nL base D dA) {t k mm : Nat} {r : List en_V} (ht : t < 8) (hk : k ≤ 1000) (hn1 : en_nx σ + 1 ≤ en_xl X) (hn2 : en_ns σ + k ≤ en_sl X) (h2 : en_P p l e R s m args below meth c Qf X nL base D dA (pc + mm, ls, en_R (some (en_nx σ)) :: r, en_newa σ t k)) (hH : en_H D dA base σ H) (hS : va_S (fun q => base ≤ q) s.heap H locs) (hl : en_lh lsA nL ls) {x : Value} (hx : x = defaultValue (en_at t)) :
    W p l e R s m args below meth c (H.push { cls := dA t, slots := Array.replicate k x, vm := .none }) locs cells slots Qf (F0 m (pc + mm) lsA (.ref H.size :: r.map en_vv)) := by
  subst hx
  have hb := hH.borna (t := t) (n := k) ht (by omega)
  rw [en_dflt ht] at hb
  rw [arrV_new, hH.2.2.1]
  exact h2 _ locs lsA cells slots hb (en_grown hS Cx.2.2.2.2.2.2.1 _) hn1 hn2 hl
theorem en_s_newa (Cx : en_Cx p l e R s m args below meth c Qf own X nL base D dA) {a : ArrayType} {t : Nat} (hd : decode (en_cc X) pc = .ok (.newarray a, n)) (ha : (a = .int ∧ t = 0) ∨ (a = .boolean ∧ t = 1) ∨ (a = .double ∧ t = 2) ∨ (a = .long ∧ t = 3)) (hw : Jvm.Cond.arrayClass (newarray.typeOf a) ∈ en_W) (h1 : (en_new1 st n pc 2 ls σ X t).1) (h2 : ∀ d, (en_new1 st n pc 2 ls σ X t).2 d → en_P p l e R s m args below meth c Qf X nL base D dA d) : en_P p l e R s m args below meth c Qf X nL base D dA (pc, ls, st, σ) := by
  rcases st with _ | ⟨(_ | (x | o | o | o)), r⟩ <;> first | exact h1.elim | skip
  obtain ⟨rfl, hx0, hx, hn1, hn2⟩ := h1
  have h2 := h2 _ rfl
  intro H locs lsA cells slots hH hS hx1 hx2 hl
  refine W.tight (W.le (fun hle => ?_))
  obtain ⟨r1, r2⟩ := en_room Cx hH hS hn1 hn2 hle
  have ht : t < 8 := by rcases ha with ⟨-, rfl⟩ | ⟨-, rfl⟩ | ⟨-, rfl⟩ | ⟨-, rfl⟩ <;> decide
  have hty : newarray.typeOf a = en_at t := by rcases ha with ⟨rfl, rfl⟩ | ⟨rfl, rfl⟩ | ⟨rfl, rfl⟩ | ⟨rfl, rfl⟩ <;> rfl
  have hby : x.toNatClampNeg * componentBytes (newarray.typeOf a) ≤ 536870912 := by
    have : componentBytes (newarray.typeOf a) ≤ 8 := by rcases ha with ⟨rfl, rfl⟩ | ⟨rfl, rfl⟩ | ⟨rfl, rfl⟩ | ⟨rfl, rfl⟩ <;> decide
    exact Nat.le_trans (Nat.mul_le_mul hx this) (by decide)
  have hRA : s.vm.findClass ("[" ++ (newarray.typeOf a).toString) = some (dA t) := by
    have h9 := (Cx.2.2.2.2.2.1.2.1 t ht).2
    rcases ha with ⟨rfl, rfl⟩ | ⟨rfl, rfl⟩ | ⟨rfl, rfl⟩ | ⟨rfl, rfl⟩ <;> exact h9
  refine W.newa Cx.1 Cx.2.1 (Cx.2.2.2.2.1 _ hw) rfl hd rfl hx0 hby r1 r2 (fun cA kA comp f1 f2 f3 => ?_)
  cases Option.some.inj (f1.symm.trans hRA)
  exact en_madeA Cx ht hx hn1 hn2 h2 hH hS hl (by rw [hty])
theorem en_s_anew (Cx : en_Cx p l e R s m args below meth c Qf own X nL base D dA) {idx t : Nat} (hd : decode (en_cc X) pc = .ok (.anewarray idx, n)) (hxa : en_xa X idx = some t) (h1 : (en_new1 st n pc 3 ls σ X t).1) (h2 : ∀ d, (en_new1 st n pc 3 ls σ X t).2 d → en_P p l e R s m args below meth c Qf X nL base D dA d) : en_P p l e R s m args below meth c Qf X nL base D dA (pc, ls, st, σ) := by
  rcases st with _ | ⟨(_ | (x | o | o | o)), r⟩ <;> first | exact h1.elim | skip
  obtain ⟨rfl, hx0, hx, hn1, hn2⟩ := h1
  have h2 := h2 _ rfl
  intro H locs lsA cells slots hH hS hx1 hx2 hl
  obtain ⟨l1, l2, C, l3, l4⟩ := Cx.2.2.2.2.2.2.2.2.2.2.1.2.2.1 idx t hxa
  refine W.tight (W.le (fun hle => ?_))
  obtain ⟨r1, r2⟩ := en_room Cx hH hS hn1 hn2 hle
  have hRA := (Cx.2.2.2.2.2.1.2.1 t l2).2
  rw [l3] at hRA
  obtain ⟨kA', comp', k1, k2, k3, k4⟩ := hRA
  have hover : va_AO C s := by
    obtain ⟨-, -, o1, o2, o3, o4, -⟩ := Cx.2.2.2.2.2.1
    have : t = 4 ∨ t = 5 ∨ t = 6 ∨ t = 7 := by omega
    rcases this with rfl | rfl | rfl | rfl <;> cases l3 <;> assumption
  refine W.anew Cx.1 Cx.2.1 Cx.2.2.2.1 (Cx.2.2.2.2.1 _ l4) (va_AO.use hover) rfl hd rfl hx0 (Nat.le_trans (Nat.mul_le_mul hx (Nat.le_refl 4)) (by decide)) r1 r2 (fun cA kA comp f1 f2 f3 f4 => ?_)
  cases Option.some.inj (f1.symm.trans k4)
  exact en_madeA Cx l2 hx hn1 hn2 h2 hH hS hl (by rw [l3]; rfl)
theorem en_s_new (Cx : en_Cx p l e R s m args below meth c Qf own X nL base D dA) {idx : Nat} (hd : decode (en_cc X) pc = .ok (.new idx, n)) (h1 : (en_sem X (.new idx) n pc ls st σ).1) (h2 : ∀ d, (en_sem X (.new idx) n pc ls st σ).2 d → en_P p l e R s m args below meth c Qf X nL base D dA d) : en_P p l e R s m args below meth c Qf X nL base D dA (pc, ls, st, σ) := by
  unfold en_sem at h1 h2
  cases hxt : en_xt X pc with
  | some E =>
    simp only [hxt] at h1
    obtain ⟨rfl, g1, g2, rfl, g3⟩ := h1
    exact Cx.2.2.2.2.2.2.2.2.2.2.2.2.2.2 idx pc E σ ls hd hxt g1 g2 g3
  | none =>
    simp only [hxt] at h1 h2
    cases hxn : en_xn X idx with
    | none => simp only [hxn] at h1; exact h1.elim
    | some q =>
      obtain ⟨ci, N⟩ := q
      simp only [hxn] at h1 h2
      obtain ⟨rfl, hn1, hn2⟩ := h1
      have h2 := h2 _ rfl
      obtain ⟨C, T, l1, l2, l3, l4⟩ := Cx.2.2.2.2.2.2.2.2.2.2.1.2.1 idx ci N hxn
      intro H locs lsA cells slots hH hS hx1 hx2 hl
      refine W.tight (W.le (fun hle => ?_))
      obtain ⟨r1, r2⟩ := en_room Cx hH hS hn1 hn2 hle
      have hKn := Cx.2.2.2.2.2.1.1 ci _ l1
      obtain ⟨hN, -, hin, hty, -, hT⟩ := en_goodAll _ _ l1
      refine W.newc Cx.1 Cx.2.1 Cx.2.2.2.1 (Cx.2.2.2.2.1 _ l2) (Cx.2.2.2.2.1 _ l3) (Cx.2.2.2.2.1 _ l4) rfl hd r1 r2 (fun cC kC f1 f2 f3 f4 => ?_)
      cases Option.some.inj (f1.symm.trans hKn.2.1)
      have hcell : (H.push { cls := D.1 ci, slots := kC.instanceTypes.map defaultValue, vm := .none })[en_nx σ]? = some (blank (D.1 ci) kC) := by
        rw [← hH.2.2.1, Array.getElem?_push_size]; rfl
      have hob := u_born (T := T) (N := N) (fun k => en_ty (100 * ci + k)) Cx.2.2.2.2.1 hin hKn f2 hcell hty
      have hb := hH.born (N := N) l1 hob (by simp [f4])
      rw [hH.2.2.1]
      exact h2 _ locs lsA _ _ hb (en_grown hS Cx.2.2.2.2.2.2.1 _) hn1 hn2 hl
theorem en_aI : Jvm.Cond.arrayClass (newarray.typeOf .int) ∈ en_W := en_inW (List.mem_append_right _ (by decide +kernel)) rfl
theorem en_aZ : Jvm.Cond.arrayClass (newarray.typeOf .boolean) ∈ en_W := en_inW (List.mem_append_right _ (by decide +kernel)) rfl
theorem en_aD : Jvm.Cond.arrayClass (newarray.typeOf .double) ∈ en_W := en_inW (List.mem_append_right _ (by decide +kernel)) rfl
theorem en_aJ : Jvm.Cond.arrayClass (newarray.typeOf .long) ∈ en_W := en_inW (List.mem_append_right _ (by decide +kernel)) rfl
theorem en_s_calls (Cx : en_Cx p l e R s m args below meth c Qf own X nL base D dA) {idx k : Nat} {i : Instr} (hd : decode (en_cc X) pc = .ok (i, n)) (hi : (i = .invokestatic idx ∧ k = 0) ∨ (i = .invokevirtual idx ∧ k = 1) ∨ (i = .invokespecial idx ∧ k = 2)) (h1 : (en_call X k idx n pc ls st σ).1) (h2 : ∀ d, (en_call X k idx n pc ls st σ).2 d → en_P p l e R s m args below meth c Qf X nL base D dA d) : en_P p l e R s m args below meth c Qf X nL base D dA (pc, ls, st, σ) := by
  unfold en_call at h1 h2
  cases hq : en_xc X idx with
  | none => rw [hq] at h1; exact h1.elim
  | some q =>
    rw [hq] at h1 h2
    obtain ⟨rfl, hk, g1, g2, g3⟩ := h1
    refine Cx.2.2.2.2.2.2.2.2.2.2.2.2.1 idx q i pc ls st σ hq hd ?_ g1 g2 g3 (fun r σ' hr => h2 _ ⟨r, σ', hr, rfl⟩)
    rcases hi with ⟨a, b⟩ | ⟨a, b⟩ | ⟨a, b⟩
    · exact Or.inl ⟨a, hk.trans b⟩
    · exact Or.inr (Or.inl ⟨a, hk.trans b⟩)
    · exact Or.inr (Or.inr ⟨a, hk.trans b⟩)
set_option maxHeartbeats 4000000 in
theorem en_step (Cx : en_Cx p l e R s m args below meth c Qf own X nL base D dA) {i : Instr} (hd : decode (en_cc X) pc = .ok (i, n)) (h1 : (en_sem X i n pc ls st σ).1) (h2 : ∀ d, (en_sem X i n pc ls st σ).2 d → en_P p l e R s m args below meth c Qf X nL base D dA d) : en_P p l e R s m args below meth c Qf X nL base D dA (pc, ls, st, σ) := by
  cases i with
  | aload k => exact en_s_ldR Cx hd (Or.inl ⟨rfl, rfl⟩) h1 h2
  | aload_n k => exact en_s_ldR Cx hd (Or.inr ⟨k, rfl, rfl, rfl⟩) h1 h2
  | iload k => exact en_s_ldI Cx hd (Or.inl ⟨rfl, rfl⟩) h1 h2
  | iload_n k => exact en_s_ldI Cx hd (Or.inr ⟨k, rfl, rfl, rfl⟩) h1 h2
  | dload k => exact en_s_ldD Cx hd (Or.inl ⟨rfl, rfl⟩) h1 h2
  | dload_n k => exact en_s_ldD Cx hd (Or.inr ⟨k, rfl, rfl, rfl⟩) h1 h2
  | astore k => exact en_s_stR Cx hd (Or.inl ⟨rfl, rfl⟩) h1 h2
  | astore_n k => exact en_s_stR Cx hd (Or.inr ⟨k, rfl, rfl, rfl⟩) h1 h2
  | istore k => exact en_s_stI Cx hd (Or.inl ⟨rfl, rfl⟩) h1 h2
  | istore_n k => exact en_s_stI Cx hd (Or.inr ⟨k, rfl, rfl, rfl⟩) h1 h2
  | dstore k => exact en_s_stD Cx hd (Or.inl ⟨rfl, rfl⟩) h1 h2
  | dstore_n k => exact en_s_stD Cx hd (Or.inr ⟨k, rfl, rfl, rfl⟩) h1 h2
  | iconst v =>
    cases (show n = 1 from h1)
    exact en_s_one (i := .iconst v) Cx (h2 _ rfl) (fun H locs lsA cells slots rest k => lv_iconst Cx.1 Cx.2.1 hd rfl k)
  | bipush v =>
    cases (show n = 2 from h1)
    exact en_s_one (i := .iconst v) Cx (h2 _ rfl) (fun H locs lsA cells slots rest k => lv_bipush Cx.1 Cx.2.1 hd rfl k)
  | sipush v =>
    cases (show n = 3 from h1)
    exact en_s_one (i := .iconst v) Cx (h2 _ rfl) (fun H locs lsA cells slots rest k => lv_sipush Cx.1 Cx.2.1 hd rfl k)
  | aconst_null =>
    cases (show n = 1 from h1)
    exact en_s_one (i := .aconst_null) Cx (h2 _ rfl) (fun H locs lsA cells slots rest k => lv_null Cx.1 Cx.2.1 hd k)
  | dconst v =>
    cases (show n = 1 from h1)
    refine en_s_one (i := .dconst v) Cx (h2 _ rfl) (fun H locs lsA cells slots rest k => ?_)
    have hv : v = 0 ∨ v = 1 := by
      obtain ⟨v, hv⟩ := v
      match v, hv with
      | 0, _ => exact Or.inl rfl
      | 1, _ => exact Or.inr rfl
    rcases hv with rfl | rfl
    · exact lv_dconst0 Cx.1 Cx.2.1 hd k
    · exact lv_dconst1 Cx.1 Cx.2.1 hd k
  | lconst v =>
    cases (show n = 1 from h1)
    exact en_s_one (i := .lconst v) Cx (h2 _ rfl) (fun H locs lsA cells slots rest k => lv_lconst Cx.1 Cx.2.1 hd rfl k)
  | ldc2_w idx =>
    unfold en_sem at h1 h2
    cases hx : en_xd X idx with
    | none => simp only [hx] at h1; exact h1.elim
    | some v =>
      simp only [hx] at h1 h2
      cases (show n = 3 from h1)
      exact en_s_one (i := .ldc2_w idx) Cx (h2 _ rfl) (fun H locs lsA cells slots rest k => lv_ldc2d Cx.1 Cx.2.1 Cx.2.2.2.1 (Cx.2.2.2.2.1 _ (Cx.2.2.2.2.2.2.2.2.2.2.1.2.2.2 idx v hx)) hd k)
  | iinc k v => exact en_s_iinc Cx hd h1 h2
  | iadd => exact en_s_bin Cx h1 h2 (fun x y H locs lsA cells slots rest hn _ k => by subst hn; exact lv_iadd Cx.1 Cx.2.1 hd k)
  | isub => exact en_s_bin Cx h1 h2 (fun x y H locs lsA cells slots rest hn _ k => by subst hn; exact lv_isub Cx.1 Cx.2.1 hd k)
  | imul => exact en_s_bin Cx h1 h2 (fun x y H locs lsA cells slots rest hn _ k => by subst hn; exact lv_imul Cx.1 Cx.2.1 hd k)
  | iand => exact en_s_bin Cx h1 h2 (fun x y H locs lsA cells slots rest hn _ k => by subst hn; exact lv_iand Cx.1 Cx.2.1 hd k)
  | ixor => exact en_s_bin Cx h1 h2 (fun x y H locs lsA cells slots rest hn _ k => by subst hn; exact lv_ixor Cx.1 Cx.2.1 hd k)
  | idiv => exact en_s_bin Cx h1 h2 (fun x y H locs lsA cells slots rest hn hk k => by subst hn; exact lv_idiv Cx.1 Cx.2.1 hd hk k)
  | irem => exact en_s_bin Cx h1 h2 (fun x y H locs lsA cells slots rest hn hk k => by subst hn; exact lv_irem Cx.1 Cx.2.1 hd hk k)
  | dadd => exact en_s_dbin Cx h1 h2 (fun x y H locs lsA cells slots rest hn hk k => by subst hn; exact lv_dadd Cx.1 Cx.2.1 hd hk k)
  | dmul => exact en_s_dbin Cx h1 h2 (fun x y H locs lsA cells slots rest hn hk k => by subst hn; exact lv_dmul Cx.1 Cx.2.1 hd hk k)
  | dcmp op =>
    rcases st with _ | ⟨(_ | (o | o | y | o)), _ | ⟨(_ | (o | o | x | o)), r⟩⟩ <;> first | exact h1.elim | skip
    cases (show n = 1 from h1)
    have h2 := h2 _ rfl
    intro H locs lsA cells slots hH hS hx1 hx2 hl
    exact lv_dcmp Cx.1 Cx.2.1 hd (h2 H locs lsA cells slots hH hS hx1 hx2 hl)
  | lcmp =>
    rcases st with _ | ⟨(_ | (o | o | o | y)), _ | ⟨(_ | (o | o | o | x)), r⟩⟩ <;> first | exact h1.elim | skip
    cases (show n = 1 from h1)
    have h2 := h2 _ rfl
    intro H locs lsA cells slots hH hS hx1 hx2 hl
    exact W.lcmp Cx.1 Cx.2.1 hd (h2 H locs lsA cells slots hH hS hx1 hx2 hl)
  | i2d =>
    rcases st with _ | ⟨(_ | (x | o | o | o)), r⟩ <;> first | exact h1.elim | skip
    cases (show n = 1 from h1)
    have h2 := h2 _ rfl
    intro H locs lsA cells slots hH hS hx1 hx2 hl
    exact lv_i2d Cx.1 Cx.2.1 hd (h2 H locs lsA cells slots hH hS hx1 hx2 hl)
  | dup =>
    rcases st with _ | ⟨(_ | (x | x | o | o)), r⟩ <;> first | exact h1.elim | skip
    · cases (show n = 1 from h1)
      have h2 := h2 _ rfl
      intro H locs lsA cells slots hH hS hx1 hx2 hl
      exact lv_dup Cx.1 Cx.2.1 hd rfl (h2 H locs lsA cells slots hH hS hx1 hx2 hl)
    · cases (show n = 1 from h1)
      have h2 := h2 _ rfl
      intro H locs lsA cells slots hH hS hx1 hx2 hl
      exact lv_dup Cx.1 Cx.2.1 hd (en_rf_cat x) (h2 H locs lsA cells slots hH hS hx1 hx2 hl)
  | pop =>
    rcases st with _ | ⟨(_ | (x | x | o | o)), r⟩ <;> first | exact h1.elim | skip
    · cases (show n = 1 from h1)
      have h2 := h2 _ rfl
      intro H locs lsA cells slots hH hS hx1 hx2 hl
      exact lv_pop (va := .int x) Cx.1 Cx.2.1 hd rfl (h2 H locs lsA cells slots hH hS hx1 hx2 hl)
    · cases (show n = 1 from h1)
      have h2 := h2 _ rfl
      intro H locs lsA cells slots hH hS hx1 hx2 hl
      exact lv_pop (va := va_rf x) Cx.1 Cx.2.1 hd (en_rf_cat x) (h2 H locs lsA cells slots hH hS hx1 hx2 hl)
  | dup2 =>
    rcases st with _ | ⟨(_ | (x | o | o | o)), _ | ⟨(_ | (o | y | o | o)), r⟩⟩ <;> first | exact h1.elim | skip
    cases (show n = 1 from h1)
    have h2 := h2 _ rfl
    intro H locs lsA cells slots hH hS hx1 hx2 hl
    exact lv_dup2_11 Cx.1 Cx.2.1 hd rfl (en_rf_cat y) (h2 H locs lsA cells slots hH hS hx1 hx2 hl)
  | goto off =>
    obtain ⟨hn, hk⟩ := h1
    subst hn
    have h2 := h2 _ rfl
    intro H locs lsA cells slots hH hS hx1 hx2 hl
    exact lv_goto Cx.1 Cx.2.1 hd (Int.toNat_of_nonneg hk).symm (h2 H locs lsA cells slots hH hS hx1 hx2 hl)
  | ifCond co off => exact en_s_if Cx hd h1 h2
  | if_icmp co off => exact en_s_icmp Cx hd h1 h2
  | if_acmp co off => exact en_s_acmp Cx hd h1 h2
  | ifnull off => exact en_s_null Cx hd h1 h2
  | ifnonnull off => exact en_s_nonnull Cx hd h1 h2
  | tableswitch dflt lo hi offs => exact en_s_table Cx hd h1 h2
  | getfield idx => exact en_s_get Cx hd h1 h2
  | putfield idx => exact en_s_put Cx hd h1 h2
  | iaload => exact en_s_iald Cx hd h1 h2
  | baload => exact en_s_ald Cx hd (Or.inr (Or.inl ⟨rfl, rfl⟩)) h1 h2
  | daload => exact en_s_ald Cx hd (Or.inr (Or.inr (Or.inl ⟨rfl, rfl⟩))) h1 h2
  | laload => exact en_s_ald Cx hd (Or.inr (Or.inr (Or.inr ⟨rfl, rfl⟩))) h1 h2
  | aaload => exact en_s_aald Cx hd h1 h2
  | iastore => exact en_s_ast Cx hd (Or.inl ⟨rfl, rfl⟩) h1 h2
  | bastore => exact en_s_ast Cx hd (Or.inr (Or.inl ⟨rfl, rfl⟩)) h1 h2
  | dastore => exact en_s_ast Cx hd (Or.inr (Or.inr (Or.inl ⟨rfl, rfl⟩))) h1 h2
  | lastore => exact en_s_ast Cx hd (Or.inr (Or.inr (Or.inr (Or.inl ⟨rfl, rfl⟩)))) h1 h2
  | aastore => exact en_s_ast Cx hd (Or.inr (Or.inr (Or.inr (Or.inr ⟨rfl, rfl⟩)))) h1 h2
  | arraylength => exact en_s_alen Cx hd h1 h2
  | newarray a => cases a with
    | int => exact en_s_newa Cx hd (Or.inl ⟨rfl, rfl⟩) en_aI h1 h2
    | boolean => exact en_s_newa Cx hd (Or.inr (Or.inl ⟨rfl, rfl⟩)) en_aZ h1 h2
    | double => exact en_s_newa Cx hd (Or.inr (Or.inr (Or.inl ⟨rfl, rfl⟩))) en_aD h1 h2
    | long => exact en_s_newa Cx hd (Or.inr (Or.inr (Or.inr ⟨rfl, rfl⟩))) en_aJ h1 h2
    | char => exact h1.elim
    | float => exact h1.elim
    | byte => exact h1.elim
    | short => exact h1.elim
  | anewarray idx =>
    unfold en_sem at h1 h2
    cases hx : en_xa X idx with
    | none => simp only [hx] at h1; exact h1.elim
    | some t =>
      simp only [hx] at h1 h2
      exact en_s_anew Cx hd hx h1 h2
  | new idx => exact en_s_new Cx hd h1 h2
  | invokevirtual idx => exact en_s_calls Cx hd (Or.inr (Or.inl ⟨rfl, rfl⟩)) h1 h2
  | invokespecial idx => exact en_s_calls Cx hd (Or.inr (Or.inr ⟨rfl, rfl⟩)) h1 h2
  | invokestatic idx => exact en_s_calls Cx hd (Or.inl ⟨rfl, rfl⟩) h1 h2
  | ireturn =>
    rcases st with _ | ⟨(_ | (x | o | o | o)), _ | ⟨w, r⟩⟩ <;> first | exact h1.elim | skip
    obtain ⟨rfl, g1, g2⟩ := h1
    exact Cx.2.2.2.2.2.2.2.2.2.2.2.2.2.1 .ireturn pc (some (en_I x)) σ ls hd g2 (Or.inr (Or.inl ⟨x, rfl, rfl, g1⟩))
  | areturn =>
    rcases st with _ | ⟨(_ | (o | x | o | o)), _ | ⟨w, r⟩⟩ <;> first | exact h1.elim | skip
    obtain ⟨rfl, g1, g2⟩ := h1
    exact Cx.2.2.2.2.2.2.2.2.2.2.2.2.2.1 .areturn pc (some (en_R x)) σ ls hd g2 (Or.inr (Or.inr (Or.inl ⟨x, rfl, rfl, g1⟩)))
  | dreturn =>
    rcases st with _ | ⟨(_ | (o | o | x | o)), _ | ⟨w, r⟩⟩ <;> first | exact h1.elim | skip
    obtain ⟨rfl, g1, g2⟩ := h1
    exact Cx.2.2.2.2.2.2.2.2.2.2.2.2.2.1 .dreturn pc (some (en_D x)) σ ls hd g2 (Or.inr (Or.inr (Or.inr ⟨x, rfl, rfl, g1⟩)))
  | return_ =>
    rcases st with _ | ⟨w, r⟩ <;> first | exact h1.elim | skip
    obtain ⟨rfl, g1, g2⟩ := h1
    exact Cx.2.2.2.2.2.2.2.2.2.2.2.2.2.1 .return_ pc none σ ls hd g2 (Or.inl ⟨rfl, rfl, g1⟩)
  | _ => exact h1.elim
/-- the judgement is sound -/
theorem en_sound (Cx : en_Cx p l e R s m args below meth c Qf own X nL base D dA) (h : en_J X pc ls st σ) : en_P p l e R s m args below meth c Qf X nL base D dA (pc, ls, st, σ) := by
  refine h (en_P p l e R s m args below meth c Qf X nL base D dA) (fun k h1 h2 => ?_)
  obtain ⟨pc, ls, st, σ⟩ := k
  unfold en_stp at h1 h2
  cases hd : decode (en_cc X) pc with
  | error _ => simp only [hd] at h1; exact h1.elim
  | ok q =>
    obtain ⟨i, n⟩ := q
    simp only [hd] at h1 h2
    exact en_step Cx hd h1 h2
end
