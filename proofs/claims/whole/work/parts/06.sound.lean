
/-! THE ENGINE, part 4: each instruction of the judgement is one of the machine -/
def en_lh (lsA : Array Slot) (nL : Nat) (ls : List en_V) : Prop := lsA.size = nL ∧ ls.length = nL ∧ lv_wf lsA ∧ ∀ (i : Nat) (v : Int32 ⊕ (Option Nat) ⊕ UInt64 ⊕ Int64), ls[i]? = some (some v) → lsA[i]? = some (.val (en_vv (some v)))
def en_as (ls : List en_V) : List (Nat × Value) := (List.range ls.length).filterMap (fun i => (ls[i]?).bind (fun v => v.map (fun w => (i, en_vv (some w)))))
theorem en_as_mem {ls : List en_V} {q : Nat × Value} : q ∈ en_as ls ↔ ∃ v, ls[q.1]? = some (some v) ∧ q.2 = en_vv (some v) := by
  unfold en_as
  rw [List.mem_filterMap]
  constructor
  · rintro ⟨i, hi, h⟩
    cases h1 : ls[i]? with
    | none => rw [h1] at h; cases h
    | some o =>
      cases o with
      | none => rw [h1] at h; cases h
      | some v => rw [h1] at h; cases h; exact ⟨v, h1, rfl⟩
  · rintro ⟨v, h1, h2⟩
    refine ⟨q.1, List.mem_range.mpr (List.getElem?_eq_some_iff.mp h1).1, ?_⟩
    rw [h1]
    show some (q.1, en_vv (some v)) = some q
    rw [← h2]
theorem en_lh.has {lsA : Array Slot} {nL : Nat} {ls : List en_V} (h : en_lh lsA nL ls) : lv_has lsA nL (en_as ls) := by
  refine ⟨h.1, h.2.2.1, fun q hq => ?_⟩
  obtain ⟨v, h1, h2⟩ := en_as_mem.mp hq
  rw [h2]
  exact h.2.2.2 q.1 v h1
theorem en_mod_get (ls : List en_V) : ∀ (k j : Nat) (w : Int32 ⊕ (Option Nat) ⊕ UInt64 ⊕ Int64), (en_mod ls k)[j]? = some (some w) → ls[j]? = some (some w) ∧ ¬ (j = k ∧ en_cat (some w) = 2) := by
  induction ls with
  | nil => intro k j w h; simp [en_mod] at h
  | cons v vs ih =>
    intro k j w h
    match k, j, h with
    | 0, 0, h =>
      rw [en_mod, List.getElem?_cons_zero] at h
      have h := Option.some.inj h
      rcases v with _ | (x | o | x | x)
      · cases h
      · cases h; exact ⟨rfl, fun q => by simp [en_cat] at q⟩
      · cases h; exact ⟨rfl, fun q => by simp [en_cat] at q⟩
      · cases h
      · cases h
    | 0, j + 1, h => exact ⟨h, fun q => by omega⟩
    | k + 1, 0, h => exact ⟨h, fun q => by omega⟩
    | k + 1, j + 1, h =>
      have := ih k j w h
      exact ⟨this.1, fun q => this.2 ⟨by omega, q.2⟩⟩
theorem en_clr_get {ls : List en_V} {i j : Nat} {w : Int32 ⊕ (Option Nat) ⊕ UInt64 ⊕ Int64} (h : (en_clr ls i)[j]? = some (some w)) : ls[j]? = some (some w) ∧ ¬ (j + 1 = i ∧ en_cat (some w) = 2) := by
  cases i with
  | zero => exact ⟨h, fun q => by omega⟩
  | succ k =>
    have := en_mod_get ls k j w h
    exact ⟨this.1, fun q => this.2 ⟨by omega, q.2⟩⟩
theorem en_mod_len (ls : List en_V) : ∀ k : Nat, (en_mod ls k).length = ls.length := by
  induction ls with
  | nil => intro k; rfl
  | cons v vs ih =>
    intro k
    cases k with
    | zero => rfl
    | succ k => simp [en_mod, ih]
theorem en_clr_len (ls : List en_V) (i : Nat) : (en_clr ls i).length = ls.length := by
  cases i with
  | zero => rfl
  | succ k => exact en_mod_len ls k
theorem en_lh.of1 {lsA : Array Slot} {nL i : Nat} {ls : List en_V} {v : en_V} (hl : ls.length = nL) (h : lv_has lsA nL ((i, en_vv v) :: (en_as ls).filter (fun q => !(q.1 == i) && !(q.1 + 1 == i && q.2.category == 2)))) : en_lh lsA nL (en_st1 ls i v) := by
  refine ⟨h.1, by unfold en_st1; rw [List.length_set, en_clr_len, hl], h.2.1, fun j w hj => ?_⟩
  unfold en_st1 at hj
  rw [List.getElem?_set] at hj
  by_cases hij : i = j
  · rw [if_pos hij] at hj
    split at hj
    · subst hij
      have hv : v = some w := Option.some.inj hj
      have := h.2.2 (i, en_vv v) List.mem_cons_self
      rw [← hv]; exact this
    · cases hj
  · rw [if_neg hij] at hj
    obtain ⟨h1, h2⟩ := en_clr_get hj
    refine h.2.2 (j, en_vv (some w)) (List.mem_cons_of_mem _ (List.mem_filter.mpr ⟨en_as_mem.mpr ⟨w, h1, rfl⟩, ?_⟩))
    rw [en_cat_vv]
    simp only [Bool.and_eq_true, Bool.not_eq_true', beq_eq_false_iff_ne, ne_eq, Bool.and_eq_false_iff]
    refine ⟨fun q => hij q.symm, ?_⟩
    by_cases hq : j + 1 = i
    · exact Or.inr (fun z => h2 ⟨hq, z⟩)
    · exact Or.inl hq
theorem en_lh.of2 {lsA : Array Slot} {nL i : Nat} {ls : List en_V} {v : en_V} (hl : ls.length = nL) (h : lv_has lsA nL ((i, en_vv v) :: (en_as ls).filter (fun q => !(q.1 == i) && (!(q.1 == i + 1) && !(q.1 + 1 == i && q.2.category == 2))))) : en_lh lsA nL (en_st2 ls i v) := by
  refine ⟨h.1, by unfold en_st2; rw [List.length_set, List.length_set, en_clr_len, hl], h.2.1, fun j w hj => ?_⟩
  unfold en_st2 at hj
  rw [List.getElem?_set] at hj
  by_cases hij1 : i + 1 = j
  · rw [if_pos hij1] at hj
    split at hj <;> cases hj
  rw [if_neg hij1, List.getElem?_set] at hj
  by_cases hij : i = j
  · rw [if_pos hij] at hj
    split at hj
    · subst hij
      have hv : v = some w := Option.some.inj hj
      have := h.2.2 (i, en_vv v) List.mem_cons_self
      rw [← hv]; exact this
    · cases hj
  · rw [if_neg hij] at hj
    obtain ⟨h1, h2⟩ := en_clr_get hj
    refine h.2.2 (j, en_vv (some w)) (List.mem_cons_of_mem _ (List.mem_filter.mpr ⟨en_as_mem.mpr ⟨w, h1, rfl⟩, ?_⟩))
    rw [en_cat_vv]
    simp only [Bool.and_eq_true, Bool.not_eq_true', beq_eq_false_iff_ne, ne_eq, Bool.and_eq_false_iff]
    refine ⟨fun q => hij q.symm, fun q => hij1 q.symm, ?_⟩
    by_cases hq : j + 1 = i
    · exact Or.inr (fun z => h2 ⟨hq, z⟩)
    · exact Or.inl hq
section
variable {p : Program} {l : Launch} {e : Env} {R : Room} {s : State} {m : MethodId} {args : Array Value} {below : List Frame} {meth : Method} {c : Code} {Qf : State → Prop} {own : String} {X : en_X} {nL base : Nat} {D : va_G} {dA : Nat → ClassId}
/-- the counters as small as the heap says -/
theorem en_tight {T : State} {locs : List Loc} {cells slots : Nat} (Y : Stand p l e R s m args below meth c T locs cells slots) : Stand p l e R s m args below meth c T locs (T.heap.size - s.heap.size) (en_hs T.heap - en_hs s.heap) := by
  obtain ⟨e1, h1, h2, h3, h4, h5⟩ := Y.same
  have hb : T.slotsUsed = en_hs T.heap := by
    have := Y.book
    simp only [State.slotsTrue, beq_iff_eq] at this
    exact this
  have hb0 : s.slotsUsed = en_hs s.heap := by
    have := Y.room
    simp only [State.hasRoom, Bool.and_eq_true] at this
    have h9 := this.2
    simp only [State.slotsTrue, beq_iff_eq] at h9
    exact h9
  have h3' : T.slotsUsed = s.slotsUsed + (((T.setVm s.vm).heap.toList.drop s.heap.size).map (·.slots.size)).sum := h3
  have h1' : s.heap.size ≤ T.heap.size := h1
  refine { Y with same := ⟨e1, h1, ?_, h3, ?_, h5⟩ }
  · show T.heap.size ≤ _
    omega
  · omega
theorem W.tight {H : Heap} {locs : List Loc} {cells slots : Nat} {g : JFrame} (k : W p l e R s m args below meth c H locs (H.size - s.heap.size) (en_hs H - en_hs s.heap) Qf g) : W p l e R s m args below meth c H locs cells slots Qf g := by
  intro T hT Y
  subst hT
  exact k T rfl (en_tight Y)
/-- the machine's side of the judgement -/
def en_P (p : Program) (l : Launch) (e : Env) (R : Room) (s : State) (m : MethodId) (args : Array Value) (below : List Frame) (meth : Method) (c : Code) (Qf : State → Prop) (X : en_X) (nL base : Nat) (D : va_G) (dA : Nat → ClassId) (k : en_Cf) : Prop :=
  ∀ (H : Heap) (locs : List Loc) (lsA : Array Slot) (cells slots : Nat), en_H D dA base k.2.2.2 H → va_S (fun q => base ≤ q) s.heap H locs → en_nx k.2.2.2 ≤ en_xl X → en_ns k.2.2.2 ≤ en_sl X → en_lh lsA nL k.2.1 → W p l e R s m args below meth c H locs cells slots Qf (F0 m k.1 lsA (k.2.2.1.map en_vv))
/-- what the pool's numbers mean -/
def en_Lk (own : String) (X : en_X) : Prop :=
  (∀ idx f, en_xf X idx = some f → f / 100 < 8 ∧ f % 100 < en_N (f / 100) ∧ Jvm.Cond.fieldLink own idx (en_T f).1 (en_T f).2.1 (en_T f).2.2.1 ∈ en_W ∧ ((en_T f).2.2.2 = true → en_ini X = true → (en_T f).1 = own)) ∧
  (∀ idx ci N, en_xn X idx = some (ci, N) → ∃ (C : String) (T : u_T), vwCl[ci]? = some (C, T, N) ∧ Jvm.Cond.classLink own idx C ∈ en_W ∧ Jvm.Cond.instantiable C N ∈ en_W ∧ Jvm.Cond.initialized C ∈ en_W) ∧
  (∀ idx t, en_xa X idx = some t → 4 ≤ t ∧ t < 8 ∧ ∃ C : String, en_at t = .object C ∧ Jvm.Cond.classLink own idx C ∈ en_W) ∧
  (∀ idx v, en_xd X idx = some v → Jvm.Cond.constantDouble own idx v ∈ en_W)
/-- what holds while a method runs -/
def en_Cx (p : Program) (l : Launch) (e : Env) (R : Room) (s : State) (m : MethodId) (args : Array Value) (below : List Frame) (meth : Method) (c : Code) (Qf : State → Prop) (own : String) (X : en_X) (nL base : Nat) (D : va_G) (dA : Nat → ClassId) : Prop :=
  p.tables.exec = Jvm.exec ∧ c.code = en_cc X ∧ c.maxLocals = nL ∧ s.vm.findClass own = some m.cls ∧ (∀ w ∈ en_W, w.before args s = true) ∧ en_K D dA s ∧ base ≤ s.heap.size ∧ R.cells = en_xl X - s.heap.size ∧ R.slots = en_sl X - en_hs s.heap ∧ (en_ini X = true → meth.name = "<init>") ∧ en_Lk own X ∧
  (∀ b L xs, en_xs X = some (b, L, xs) → va_X b L xs s s.heap ∧ b < s.heap.size ∧ b < base) ∧
  (∀ (idx : Nat) (q : Nat × en_C) (i : Instr) (pc : Nat) (ls st : List en_V) (σ : en_S), en_xc X idx = some q → decode (en_cc X) pc = .ok (i, 3) → ((i = .invokestatic idx ∧ q.1 % 4 = 0) ∨ (i = .invokevirtual idx ∧ q.1 % 4 = 1) ∨ (i = .invokespecial idx ∧ q.1 % 4 = 2)) → q.1 / 4 ≤ st.length → en_wt (st.drop (q.1 / 4)) ≤ 8 → q.2.1 (st.take (q.1 / 4)).reverse σ →
    (∀ (r : Option en_V) (σ' : en_S), q.2.2 (st.take (q.1 / 4)).reverse σ r σ' → en_P p l e R s m args below meth c Qf X nL base D dA (pc + 3, ls, r.toList ++ st.drop (q.1 / 4), σ')) → en_P p l e R s m args below meth c Qf X nL base D dA (pc, ls, st, σ)) ∧
  (∀ (i : Instr) (pc : Nat) (r : Option en_V) (σ : en_S) (ls : List en_V), decode (en_cc X) pc = .ok (i, 1) → en_q X r σ → ((i = .return_ ∧ r = none ∧ en_rt X = 0) ∨ (∃ x, i = .ireturn ∧ r = some (en_I x) ∧ (en_rt X = 1 ∨ (en_rt X = 2 ∧ (x = 0 ∨ x = 1)))) ∨ (∃ o, i = .areturn ∧ r = some (en_R o) ∧ en_rt X = 3) ∨ (∃ x, i = .dreturn ∧ r = some (en_D x) ∧ en_rt X = 4)) → en_P p l e R s m args below meth c Qf X nL base D dA (pc, ls, r.toList, σ)) ∧
  (∀ (idx pc : Nat) (E : String) (σ : en_S) (ls : List en_V), decode (en_cc X) pc = .ok (.new idx, 3) → en_xt X pc = some E → en_nx σ + 1 ≤ en_xl X → en_ns σ + 6 ≤ en_sl X → en_qx X E σ → en_P p l e R s m args below meth c Qf X nL base D dA (pc, ls, [], σ))
variable {n pc : Nat} {ls st : List en_V} {σ : en_S} {H : Heap} {locs : List Loc} {lsA : Array Slot} {cells slots : Nat}

theorem en_s_ldI (Cx : en_Cx p l e R s m args below meth c Qf own X nL base D dA) {i : Instr} {k mm : Nat} (hd : decode (en_cc X) pc = .ok (i, n)) (hi : (i = .iload k ∧ mm = 2) ∨ (∃ q : Fin 4, i = .iload_n q ∧ q.val = k ∧ mm = 1)) (h1 : (en_ldI ls k n mm pc st σ).1) (h2 : ∀ d, (en_ldI ls k n mm pc st σ).2 d → en_P p l e R s m args below meth c Qf X nL base D dA d) : en_P p l e R s m args below meth c Qf X nL base D dA (pc, ls, st, σ) := by
  unfold en_ldI at h1 h2
  cases hk : ls[k]? with
  | none => rw [hk] at h1; exact h1.elim
  | some v =>
    rw [hk] at h1 h2
    rcases v with _ | (x | o | x | x)
    · exact h1.elim
    · cases (show n = mm from h1)
      have h2 := h2 _ rfl
      intro H locs lsA cells slots hH hS hx1 hx2 hl
      have hv : lsA[k]? = some (.val (.int x)) := hl.2.2.2 k _ hk
      rcases hi with ⟨rfl, rfl⟩ | ⟨q, rfl, rfl, rfl⟩
      · exact lv_iload Cx.1 Cx.2.1 hd hv (h2 H locs lsA cells slots hH hS hx1 hx2 hl)
      · exact lv_iload_n Cx.1 Cx.2.1 hd rfl hv (h2 H locs lsA cells slots hH hS hx1 hx2 hl)
    · exact h1.elim
    · exact h1.elim
    · exact h1.elim
theorem en_s_ldD (Cx : en_Cx p l e R s m args below meth c Qf own X nL base D dA) {i : Instr} {k mm : Nat} (hd : decode (en_cc X) pc = .ok (i, n)) (hi : (i = .dload k ∧ mm = 2) ∨ (∃ q : Fin 4, i = .dload_n q ∧ q.val = k ∧ mm = 1)) (h1 : (en_ldD ls k n mm pc st σ).1) (h2 : ∀ d, (en_ldD ls k n mm pc st σ).2 d → en_P p l e R s m args below meth c Qf X nL base D dA d) : en_P p l e R s m args below meth c Qf X nL base D dA (pc, ls, st, σ) := by
  unfold en_ldD at h1 h2
  cases hk : ls[k]? with
  | none => rw [hk] at h1; exact h1.elim
  | some v =>
    rw [hk] at h1 h2
    rcases v with _ | (x | o | x | x)
    · exact h1.elim
    · exact h1.elim
    · exact h1.elim
    · cases (show n = mm from h1)
      have h2 := h2 _ rfl
      intro H locs lsA cells slots hH hS hx1 hx2 hl
      have hv : lsA[k]? = some (.val (.double x)) := hl.2.2.2 k _ hk
      rcases hi with ⟨rfl, rfl⟩ | ⟨q, rfl, rfl, rfl⟩
      · exact lv_dload Cx.1 Cx.2.1 hd hv (h2 H locs lsA cells slots hH hS hx1 hx2 hl)
      · exact lv_dload_n Cx.1 Cx.2.1 hd rfl hv (h2 H locs lsA cells slots hH hS hx1 hx2 hl)
    · exact h1.elim
theorem en_s_ldR (Cx : en_Cx p l e R s m args below meth c Qf own X nL base D dA) {i : Instr} {k mm : Nat} (hd : decode (en_cc X) pc = .ok (i, n)) (hi : (i = .aload k ∧ mm = 2) ∨ (∃ q : Fin 4, i = .aload_n q ∧ q.val = k ∧ mm = 1)) (h1 : (en_ldR ls k n mm pc st σ).1) (h2 : ∀ d, (en_ldR ls k n mm pc st σ).2 d → en_P p l e R s m args below meth c Qf X nL base D dA d) : en_P p l e R s m args below meth c Qf X nL base D dA (pc, ls, st, σ) := by
  unfold en_ldR at h1 h2
  cases hk : ls[k]? with
  | none => rw [hk] at h1; exact h1.elim
  | some v =>
    rw [hk] at h1 h2
    rcases v with _ | (x | o | x | x)
    · exact h1.elim
    · exact h1.elim
    · cases (show n = mm from h1)
      have h2 := h2 _ rfl
      intro H locs lsA cells slots hH hS hx1 hx2 hl
      have hv : lsA[k]? = some (.val (va_rf o)) := hl.2.2.2 k _ hk
      rcases hi with ⟨rfl, rfl⟩ | ⟨q, rfl, rfl, rfl⟩
      · cases o with
        | none => exact lv_aloadN Cx.1 Cx.2.1 hd hv (h2 H locs lsA cells slots hH hS hx1 hx2 hl)
        | some a => exact lv_aload Cx.1 Cx.2.1 hd hv (h2 H locs lsA cells slots hH hS hx1 hx2 hl)
      · cases o with
        | none => exact lv_aload_nN Cx.1 Cx.2.1 hd rfl hv (h2 H locs lsA cells slots hH hS hx1 hx2 hl)
        | some a => exact lv_aload_n Cx.1 Cx.2.1 hd rfl hv (h2 H locs lsA cells slots hH hS hx1 hx2 hl)
    · exact h1.elim
    · exact h1.elim
theorem en_s_stI (Cx : en_Cx p l e R s m args below meth c Qf own X nL base D dA) {i : Instr} {k mm : Nat} (hd : decode (en_cc X) pc = .ok (i, n)) (hi : (i = .istore k ∧ mm = 2) ∨ (∃ q : Fin 4, i = .istore_n q ∧ q.val = k ∧ mm = 1)) (h1 : (en_stI ls k n mm pc st σ).1) (h2 : ∀ d, (en_stI ls k n mm pc st σ).2 d → en_P p l e R s m args below meth c Qf X nL base D dA d) : en_P p l e R s m args below meth c Qf X nL base D dA (pc, ls, st, σ) := by
  rcases st with _ | ⟨(_ | (x | o | x | x)), r⟩
  · exact h1.elim
  · exact h1.elim
  · obtain ⟨hn, hk⟩ := h1
    subst hn
    have h2 := h2 _ rfl
    intro H locs lsA cells slots hH hS hx1 hx2 hl
    have hk' : k < nL := by rw [← hl.2.1]; exact hk
    rcases hi with ⟨rfl, rfl⟩ | ⟨q, rfl, rfl, rfl⟩
    · exact lv_istore Cx.1 Cx.2.1 hd hl.has hk' rfl (fun ls' hl' => h2 H locs ls' cells slots hH hS hx1 hx2 (en_lh.of1 (v := en_I x) hl.2.1 hl'))
    · exact lv_istore_n Cx.1 Cx.2.1 hd rfl hl.has hk' rfl (fun ls' hl' => h2 H locs ls' cells slots hH hS hx1 hx2 (en_lh.of1 (v := en_I x) hl.2.1 hl'))
  · exact h1.elim
  · exact h1.elim
  · exact h1.elim
theorem en_s_stR (Cx : en_Cx p l e R s m args below meth c Qf own X nL base D dA) {i : Instr} {k mm : Nat} (hd : decode (en_cc X) pc = .ok (i, n)) (hi : (i = .astore k ∧ mm = 2) ∨ (∃ q : Fin 4, i = .astore_n q ∧ q.val = k ∧ mm = 1)) (h1 : (en_stR ls k n mm pc st σ).1) (h2 : ∀ d, (en_stR ls k n mm pc st σ).2 d → en_P p l e R s m args below meth c Qf X nL base D dA d) : en_P p l e R s m args below meth c Qf X nL base D dA (pc, ls, st, σ) := by
  rcases st with _ | ⟨(_ | (x | o | x | x)), r⟩
  · exact h1.elim
  · exact h1.elim
  · exact h1.elim
  · obtain ⟨hn, hk⟩ := h1
    subst hn
    have h2 := h2 _ rfl
    intro H locs lsA cells slots hH hS hx1 hx2 hl
    have hk' : k < nL := by rw [← hl.2.1]; exact hk
    rcases hi with ⟨rfl, rfl⟩ | ⟨q, rfl, rfl, rfl⟩
    · cases o with
      | none => exact lv_astoreN Cx.1 Cx.2.1 hd hl.has hk' rfl (fun ls' hl' => h2 H locs ls' cells slots hH hS hx1 hx2 (en_lh.of1 (v := en_R none) hl.2.1 hl'))
      | some a => exact lv_astore Cx.1 Cx.2.1 hd hl.has hk' rfl (fun ls' hl' => h2 H locs ls' cells slots hH hS hx1 hx2 (en_lh.of1 (v := en_R (some a)) hl.2.1 hl'))
    · cases o with
      | none => exact lv_astore_nN Cx.1 Cx.2.1 hd rfl hl.has hk' rfl (fun ls' hl' => h2 H locs ls' cells slots hH hS hx1 hx2 (en_lh.of1 (v := en_R none) hl.2.1 hl'))
      | some a => exact lv_astore_n Cx.1 Cx.2.1 hd rfl hl.has hk' rfl (fun ls' hl' => h2 H locs ls' cells slots hH hS hx1 hx2 (en_lh.of1 (v := en_R (some a)) hl.2.1 hl'))
  · exact h1.elim
  · exact h1.elim
theorem en_s_stD (Cx : en_Cx p l e R s m args below meth c Qf own X nL base D dA) {i : Instr} {k mm : Nat} (hd : decode (en_cc X) pc = .ok (i, n)) (hi : (i = .dstore k ∧ mm = 2) ∨ (∃ q : Fin 4, i = .dstore_n q ∧ q.val = k ∧ mm = 1)) (h1 : (en_stD ls k n mm pc st σ).1) (h2 : ∀ d, (en_stD ls k n mm pc st σ).2 d → en_P p l e R s m args below meth c Qf X nL base D dA d) : en_P p l e R s m args below meth c Qf X nL base D dA (pc, ls, st, σ) := by
  rcases st with _ | ⟨(_ | (x | o | x | x)), r⟩
  · exact h1.elim
  · exact h1.elim
  · exact h1.elim
  · exact h1.elim
  · obtain ⟨hn, hk⟩ := h1
    subst hn
    have h2 := h2 _ rfl
    intro H locs lsA cells slots hH hS hx1 hx2 hl
    have hk' : k + 1 < nL := by rw [← hl.2.1]; exact hk
    rcases hi with ⟨rfl, rfl⟩ | ⟨q, rfl, rfl, rfl⟩
    · exact lv_dstore Cx.1 Cx.2.1 hd hl.has hk' rfl (fun ls' hl' => h2 H locs ls' cells slots hH hS hx1 hx2 (en_lh.of2 (v := en_D x) hl.2.1 hl'))
    · exact lv_dstore_n Cx.1 Cx.2.1 hd rfl hl.has hk' rfl (fun ls' hl' => h2 H locs ls' cells slots hH hS hx1 hx2 (en_lh.of2 (v := en_D x) hl.2.1 hl'))
  · exact h1.elim
theorem en_s_iinc (Cx : en_Cx p l e R s m args below meth c Qf own X nL base D dA) {k : Nat} {v : Int} (hd : decode (en_cc X) pc = .ok (.iinc k v, n)) (h1 : (en_sem X (.iinc k v) n pc ls st σ).1) (h2 : ∀ d, (en_sem X (.iinc k v) n pc ls st σ).2 d → en_P p l e R s m args below meth c Qf X nL base D dA d) : en_P p l e R s m args below meth c Qf X nL base D dA (pc, ls, st, σ) := by
  unfold en_sem at h1 h2
  cases hk : ls[k]? with
  | none => simp only [hk] at h1; exact h1.elim
  | some w =>
    rcases w with _ | (x | o | x | x) <;> simp only [hk] at h1 h2
    · exact h1.elim
    · subst h1
      have h2 := h2 _ rfl
      intro H locs lsA cells slots hH hS hx1 hx2 hl
      have hk' : k < nL := by rw [← hl.2.1]; exact (List.getElem?_eq_some_iff.mp hk).1
      obtain ⟨j, hj⟩ := List.getElem?_of_mem (en_as_mem.mpr ⟨_, hk, rfl⟩ : (k, en_vv (some (.inl x))) ∈ en_as ls)
      exact lv_iinc (k := j) (x := x) (v := x + Int32.ofInt v) Cx.1 Cx.2.1 hd hl.has hj rfl hk' rfl (fun ls' hl' => h2 H locs ls' cells slots hH hS hx1 hx2 (en_lh.of1 (v := en_I (x + Int32.ofInt v)) hl.2.1 hl'))
    · exact h1.elim
    · exact h1.elim
    · exact h1.elim
theorem en_s_bin (Cx : en_Cx p l e R s m args below meth c Qf own X nL base D dA) {ok : Int32 → Int32 → Prop} {f : Int32 → Int32 → Int32} (h1 : (en_bin st n pc ls σ ok f).1) (h2 : ∀ d, (en_bin st n pc ls σ ok f).2 d → en_P p l e R s m args below meth c Qf X nL base D dA d)
    (row : ∀ (x y : Int32) (H : Heap) (locs : List Loc) (lsA : Array Slot) (cells slots : Nat) (rest : List Value), n = 1 → ok x y → W p l e R s m args below meth c H locs cells slots Qf (F0 m (pc + 1) lsA (.int (f x y) :: rest)) → W p l e R s m args below meth c H locs cells slots Qf (F0 m pc lsA (.int y :: .int x :: rest))) : en_P p l e R s m args below meth c Qf X nL base D dA (pc, ls, st, σ) := by
  rcases st with _ | ⟨(_ | (y | o | y | y)), _ | ⟨(_ | (x | o | x | x)), r⟩⟩ <;> first | exact h1.elim | skip
  obtain ⟨hn, hk⟩ := h1
  have h2 := h2 _ rfl
  intro H locs lsA cells slots hH hS hx1 hx2 hl
  exact row x y H locs lsA cells slots _ hn hk (h2 H locs lsA cells slots hH hS hx1 hx2 hl)
theorem en_s_dbin (Cx : en_Cx p l e R s m args below meth c Qf own X nL base D dA) {f : UInt64 → UInt64 → UInt64} (h1 : (en_dbin st n pc ls σ f).1) (h2 : ∀ d, (en_dbin st n pc ls σ f).2 d → en_P p l e R s m args below meth c Qf X nL base D dA d)
    (row : ∀ (x y : UInt64) (H : Heap) (locs : List Loc) (lsA : Array Slot) (cells slots : Nat) (rest : List Value), n = 1 → vf_n64 (f x y) → W p l e R s m args below meth c H locs cells slots Qf (F0 m (pc + 1) lsA (.double (f x y) :: rest)) → W p l e R s m args below meth c H locs cells slots Qf (F0 m pc lsA (.double y :: .double x :: rest))) : en_P p l e R s m args below meth c Qf X nL base D dA (pc, ls, st, σ) := by
  rcases st with _ | ⟨(_ | (y | o | y | y)), _ | ⟨(_ | (x | o | x | x)), r⟩⟩ <;> first | exact h1.elim | skip
  obtain ⟨hn, hk⟩ := h1
  have h2 := h2 _ rfl
  intro H locs lsA cells slots hH hS hx1 hx2 hl
  exact row x y H locs lsA cells slots _ hn hk (h2 H locs lsA cells slots hH hS hx1 hx2 hl)
theorem en_s_br {b : Prop} {off : Int} {r : List en_V} (h1 : (en_br b n pc off ls r σ).1) (h2 : ∀ d, (en_br b n pc off ls r σ).2 d → en_P p l e R s m args below meth c Qf X nL base D dA d)
    (row : ∀ (H : Heap) (locs : List Loc) (lsA : Array Slot) (cells slots tgt : Nat), n = 3 → (pc : Int) + off = (tgt : Int) → (b → W p l e R s m args below meth c H locs cells slots Qf (F0 m tgt lsA (r.map en_vv))) → (¬ b → W p l e R s m args below meth c H locs cells slots Qf (F0 m (pc + 3) lsA (r.map en_vv))) → W p l e R s m args below meth c H locs cells slots Qf (F0 m pc lsA (st.map en_vv))) : en_P p l e R s m args below meth c Qf X nL base D dA (pc, ls, st, σ) := by
  obtain ⟨hn, hk⟩ := h1
  intro H locs lsA cells slots hH hS hx1 hx2 hl
  exact row H locs lsA cells slots _ hn (Int.toNat_of_nonneg hk).symm (fun hb => h2 _ (Or.inl ⟨hb, rfl⟩) H locs lsA cells slots hH hS hx1 hx2 hl) (fun hb => h2 _ (Or.inr ⟨hb, rfl⟩) H locs lsA cells slots hH hS hx1 hx2 hl)
theorem en_s_if (Cx : en_Cx p l e R s m args below meth c Qf own X nL base D dA) {co : ClassFile.Cond} {off : Int} (hd : decode (en_cc X) pc = .ok (.ifCond co off, n)) (h1 : (en_sem X (.ifCond co off) n pc ls st σ).1) (h2 : ∀ d, (en_sem X (.ifCond co off) n pc ls st σ).2 d → en_P p l e R s m args below meth c Qf X nL base D dA d) : en_P p l e R s m args below meth c Qf X nL base D dA (pc, ls, st, σ) := by
  rcases st with _ | ⟨(_ | (x | o | x | x)), r⟩ <;> first | exact h1.elim | skip
  refine en_s_br (b := en_icond co x 0) (off := off) (r := r) h1 h2 (fun H locs lsA cells slots tgt hn ht k1 k2 => ?_)
  subst hn
  cases co
  · exact lv_if_eq Cx.1 Cx.2.1 hd ht k1 k2
  · exact lv_if_ne Cx.1 Cx.2.1 hd ht k1 (fun h => k2 (fun q => q h))
  · exact lv_if_lt Cx.1 Cx.2.1 hd ht k1 k2
  · exact lv_if_ge Cx.1 Cx.2.1 hd ht k1 k2
  · exact lv_if_gt Cx.1 Cx.2.1 hd ht k1 k2
  · exact lv_if_le Cx.1 Cx.2.1 hd ht k1 k2
theorem en_s_icmp (Cx : en_Cx p l e R s m args below meth c Qf own X nL base D dA) {co : ClassFile.Cond} {off : Int} (hd : decode (en_cc X) pc = .ok (.if_icmp co off, n)) (h1 : (en_sem X (.if_icmp co off) n pc ls st σ).1) (h2 : ∀ d, (en_sem X (.if_icmp co off) n pc ls st σ).2 d → en_P p l e R s m args below meth c Qf X nL base D dA d) : en_P p l e R s m args below meth c Qf X nL base D dA (pc, ls, st, σ) := by
  rcases st with _ | ⟨(_ | (y | o | y | y)), _ | ⟨(_ | (x | o | x | x)), r⟩⟩ <;> first | exact h1.elim | skip
  refine en_s_br (b := en_icond co x y) (off := off) (r := r) h1 h2 (fun H locs lsA cells slots tgt hn ht k1 k2 => ?_)
  subst hn
  cases co
  · exact lv_icmp_eq Cx.1 Cx.2.1 hd ht k1 k2
  · exact lv_icmp_ne Cx.1 Cx.2.1 hd ht k1 (fun h => k2 (fun q => q h))
  · exact lv_icmp_lt Cx.1 Cx.2.1 hd ht k1 k2
  · exact lv_icmp_ge Cx.1 Cx.2.1 hd ht k1 k2
  · exact lv_icmp_gt Cx.1 Cx.2.1 hd ht k1 k2
  · exact lv_icmp_le Cx.1 Cx.2.1 hd ht k1 k2
theorem en_s_acmp (Cx : en_Cx p l e R s m args below meth c Qf own X nL base D dA) {co : ClassFile.ACond} {off : Int} (hd : decode (en_cc X) pc = .ok (.if_acmp co off, n)) (h1 : (en_sem X (.if_acmp co off) n pc ls st σ).1) (h2 : ∀ d, (en_sem X (.if_acmp co off) n pc ls st σ).2 d → en_P p l e R s m args below meth c Qf X nL base D dA d) : en_P p l e R s m args below meth c Qf X nL base D dA (pc, ls, st, σ) := by
  rcases st with _ | ⟨(_ | (o | y | o | o)), _ | ⟨(_ | (o | x | o | o)), r⟩⟩ <;> first | exact h1.elim | skip
  refine en_s_br (off := off) (r := r) h1 h2 (fun H locs lsA cells slots tgt hn ht k1 k2 => ?_)
  subst hn
  cases co
  · exact lv_acmp_eq (rx := x) (ry := y) Cx.1 Cx.2.1 hd ht k1 k2
  · exact lv_acmp_ne (rx := x) (ry := y) Cx.1 Cx.2.1 hd ht k1 (fun h => k2 (fun q => q h))
theorem en_s_null (Cx : en_Cx p l e R s m args below meth c Qf own X nL base D dA) {off : Int} (hd : decode (en_cc X) pc = .ok (.ifnull off, n)) (h1 : (en_sem X (.ifnull off) n pc ls st σ).1) (h2 : ∀ d, (en_sem X (.ifnull off) n pc ls st σ).2 d → en_P p l e R s m args below meth c Qf X nL base D dA d) : en_P p l e R s m args below meth c Qf X nL base D dA (pc, ls, st, σ) := by
  rcases st with _ | ⟨(_ | (o | x | o | o)), r⟩ <;> first | exact h1.elim | skip
  refine en_s_br (b := x = none) (off := off) (r := r) h1 h2 (fun H locs lsA cells slots tgt hn ht k1 k2 => ?_)
  subst hn
  cases x with
  | none => exact lv_ifnullN Cx.1 Cx.2.1 hd ht (k1 rfl)
  | some a => exact lv_ifnull Cx.1 Cx.2.1 hd (k2 (fun q => by cases q))
theorem en_s_nonnull (Cx : en_Cx p l e R s m args below meth c Qf own X nL base D dA) {off : Int} (hd : decode (en_cc X) pc = .ok (.ifnonnull off, n)) (h1 : (en_sem X (.ifnonnull off) n pc ls st σ).1) (h2 : ∀ d, (en_sem X (.ifnonnull off) n pc ls st σ).2 d → en_P p l e R s m args below meth c Qf X nL base D dA d) : en_P p l e R s m args below meth c Qf X nL base D dA (pc, ls, st, σ) := by
  rcases st with _ | ⟨(_ | (o | x | o | o)), r⟩ <;> first | exact h1.elim | skip
  refine en_s_br (b := ¬ x = none) (off := off) (r := r) h1 h2 (fun H locs lsA cells slots tgt hn ht k1 k2 => ?_)
  subst hn
  cases x with
  | none => exact lv_ifnonnullN Cx.1 Cx.2.1 hd (k2 (fun q => q rfl))
  | some a => exact lv_ifnonnull Cx.1 Cx.2.1 hd ht (k1 (fun q => by cases q))
theorem en_s_table (Cx : en_Cx p l e R s m args below meth c Qf own X nL base D dA) {dflt lo hi : Int} {offs : Array Int} (hd : decode (en_cc X) pc = .ok (.tableswitch dflt lo hi offs, n)) (h1 : (en_sem X (.tableswitch dflt lo hi offs) n pc ls st σ).1) (h2 : ∀ d, (en_sem X (.tableswitch dflt lo hi offs) n pc ls st σ).2 d → en_P p l e R s m args below meth c Qf X nL base D dA d) : en_P p l e R s m args below meth c Qf X nL base D dA (pc, ls, st, σ) := by
  rcases st with _ | ⟨(_ | (x | o | x | x)), r⟩ <;> first | exact h1.elim | skip
  have h1 : 0 ≤ en_tsw pc dflt lo hi offs x := h1
  have h2 := h2 _ rfl
  intro H locs lsA cells slots hH hS hx1 hx2 hl
  have k := h2 H locs lsA cells slots hH hS hx1 hx2 hl
  have ht : en_tsw pc dflt lo hi offs x = ((en_tsw pc dflt lo hi offs x).toNat : Int) := (Int.toNat_of_nonneg h1).symm
  by_cases hin : x.toInt < lo ∨ hi < x.toInt
  · have e1 : en_tsw pc dflt lo hi offs x = (pc : Int) + dflt := by unfold en_tsw; rw [if_pos hin]
    exact lv_tableOut Cx.1 Cx.2.1 hd hin (by rw [← e1]; exact ht) k
  · cases ho : offs[(x.toInt - lo).toNat]? with
    | none =>
      have e1 : en_tsw pc dflt lo hi offs x = -1 := by unfold en_tsw; rw [if_neg hin, ho]
      rw [e1] at h1
      exact absurd h1 (by decide)
    | some off =>
      have e1 : en_tsw pc dflt lo hi offs x = (pc : Int) + off := by unfold en_tsw; rw [if_neg hin, ho]
      exact lv_tableIn Cx.1 Cx.2.1 hd (fun q => hin (Or.inl q)) (fun q => hin (Or.inr q)) ho (by rw [← e1]; exact ht) k

theorem en_s_one (Cx : en_Cx p l e R s m args below meth c Qf own X nL base D dA) {i : Instr} {v : en_V} {mm : Nat} (h2 : en_P p l e R s m args below meth c Qf X nL base D dA (pc + mm, ls, v :: st, σ)) (row : ∀ (H : Heap) (locs : List Loc) (lsA : Array Slot) (cells slots : Nat) (rest : List Value), W p l e R s m args below meth c H locs cells slots Qf (F0 m (pc + mm) lsA (en_vv v :: rest)) → W p l e R s m args below meth c H locs cells slots Qf (F0 m pc lsA rest)) : en_P p l e R s m args below meth c Qf X nL base D dA (pc, ls, st, σ) := by
  intro H locs lsA cells slots hH hS hx1 hx2 hl
  exact row H locs lsA cells slots _ (h2 H locs lsA cells slots hH hS hx1 hx2 hl)
/-- a class of the table, its links, in this method -/
theorem en_cell (Cx : en_Cx p l e R s m args below meth c Qf own X nL base D dA) (hH : en_H D dA base σ H) {a ci : Nat} (hc : en_cl σ a = some ci) : ∃ (r : vw_C) (cell : Cell) (kC : Class), vwCl[ci]? = some r ∧ H[a]? = some cell ∧ cell.cls = D.1 ci ∧ cell.vm = .none ∧ (∀ k, k < r.2.2 → cell.slots[D.2 ci k]? = some (en_vv (en_fld σ (100 * ci + k) a))) ∧ s.vm.findClass r.1 = some (D.1 ci) ∧ s.vm.classes[D.1 ci]? = some kC ∧ kC.kind = .ordinary ∧ ∀ k, k < r.2.2 → SlotIs s (r.2.1 k).1 (r.2.1 k).2.1 (r.2.1 k).2.2.1 (D.2 ci k) := by
  obtain ⟨-, -, r, h1, cell, q1, q2, q3, q4⟩ := hH.1 a ci hc
  obtain ⟨hS, hfc, kC, hkC, hkind⟩ := Cx.2.2.2.2.2.1.1 ci r h1
  exact ⟨r, cell, kC, h1, q1, q2, q3, q4, hfc, hkC, hkind, hS⟩
theorem en_s_get (Cx : en_Cx p l e R s m args below meth c Qf own X nL base D dA) {idx : Nat} (hd : decode (en_cc X) pc = .ok (.getfield idx, n)) (h1 : (en_sem X (.getfield idx) n pc ls st σ).1) (h2 : ∀ d, (en_sem X (.getfield idx) n pc ls st σ).2 d → en_P p l e R s m args below meth c Qf X nL base D dA d) : en_P p l e R s m args below meth c Qf X nL base D dA (pc, ls, st, σ) := by
  rcases st with _ | ⟨(_ | (o | (_ | a) | o | o)), r⟩ <;> first | exact h1.elim | skip
  unfold en_sem at h1 h2
  cases hf : en_xf X idx with
  | none => simp only [hf] at h1; exact h1.elim
  | some f =>
    simp only [hf] at h1 h2
    obtain ⟨rfl, hc⟩ := h1
    have h2 := h2 _ rfl
    intro H locs lsA cells slots hH hS hx1 hx2 hl
    obtain ⟨l1, l2, l3, -⟩ := Cx.2.2.2.2.2.2.2.2.2.2.1.1 idx f hf
    obtain ⟨rr, cell, kC, g1, g2, g3, g4, g5, g6, g7, g8, g9⟩ := en_cell Cx hH hc
    obtain ⟨hN, -, hin, -, -, hT⟩ := en_goodAll _ _ g1
    have hk : f % 100 < rr.2.2 := by rw [hN]; exact l2
    have hff : 100 * (f / 100) + f % 100 = f := by omega
    have hTf := hT _ hk
    rw [hff] at hTf
    obtain ⟨cf, kf, fi, fd, hi, hsl⟩ := g9 _ hk
    rw [← hTf] at hi
    have hlay := u_lays (C := rr.1) (T := rr.2.1) Cx.2.2.2.2.1 hin hk
    rw [← hTf] at hlay
    have hsl' := g5 _ hk
    rw [hff] at hsl'
    refine W.getf Cx.1 Cx.2.1 Cx.2.2.2.1 (Cx.2.2.2.2.1 _ l3) hi (u_facts g6 g7 hlay hi).1 g2 (by rw [g4]; exact fun h => by cases h) (v := en_vv (en_fld σ f a)) (by rw [hsl]; exact hsl') rfl rfl hd ?_
    exact h2 H locs lsA cells slots hH hS hx1 hx2 hl
theorem en_apart (Cx : en_Cx p l e R s m args below meth c Qf own X nL base D dA) {ci : Nat} {r : vw_C} (h : vwCl[ci]? = some r) : ∀ x y, x < r.2.2 → y < r.2.2 → x ≠ y → (D.2 ci) x ≠ (D.2 ci) y := by
  obtain ⟨hN, -, hin, hty, hnm, -⟩ := en_goodAll _ _ h
  intro x y hx hy hne
  obtain ⟨hS, -⟩ := Cx.2.2.2.2.2.1.1 ci r h
  obtain ⟨_, _, _, fa, hia, ea⟩ := hS x hx
  obtain ⟨_, _, _, fb, hib, eb⟩ := hS y hy
  rw [← ea, ← eb]
  refine u_apart (u_lays Cx.2.2.2.2.1 hin hx) (u_lays Cx.2.2.2.2.1 hin hy) hia hib ?_
  rw [(State.fieldFound?_type hia (hty x hx)).1, (State.fieldFound?_type hib (hty y hy)).1]
  exact hnm x hx y hy hne
theorem en_fits {ini : Bool} {f : Nat} {v : en_V} (h : en_fit ini f v) : narrow (en_ty f) (en_vv v) = en_vv v ∧ fits (en_ty f) (en_vv v) = true := by
  have h := h.1
  revert h
  cases en_ty f <;> rcases v with _ | (x | (_ | o) | x | x) <;> intro h <;> first | exact h.elim | exact ⟨rfl, rfl⟩ | skip
  rcases h with rfl | rfl <;> exact ⟨by decide +kernel, by decide +kernel⟩
theorem en_s_put (Cx : en_Cx p l e R s m args below meth c Qf own X nL base D dA) {idx : Nat} (hd : decode (en_cc X) pc = .ok (.putfield idx, n)) (h1 : (en_sem X (.putfield idx) n pc ls st σ).1) (h2 : ∀ d, (en_sem X (.putfield idx) n pc ls st σ).2 d → en_P p l e R s m args below meth c Qf X nL base D dA d) : en_P p l e R s m args below meth c Qf X nL base D dA (pc, ls, st, σ) := by
  rcases st with _ | ⟨v, _ | ⟨(_ | (o | (_ | a) | o | o)), r⟩⟩ <;> first | exact h1.elim | skip
  unfold en_sem at h1 h2
  cases hf : en_xf X idx with
  | none => simp only [hf] at h1; exact h1.elim
  | some f =>
    simp only [hf] at h1 h2
    obtain ⟨rfl, hc, hfit⟩ := h1
    have h2 := h2 _ rfl
    intro H locs lsA cells slots hH hS hx1 hx2 hl
    obtain ⟨l1, l2, l3, l4⟩ := Cx.2.2.2.2.2.2.2.2.2.2.1.1 idx f hf
    obtain ⟨rr, cell, kC, g1, g2, g3, g4, g5, g6, g7, g8, g9⟩ := en_cell Cx hH hc
    obtain ⟨hN, -, hin, hty, -, hT⟩ := en_goodAll _ _ g1
    have hk : f % 100 < rr.2.2 := by rw [hN]; exact l2
    have hff : 100 * (f / 100) + f % 100 = f := by omega
    have hTf := hT _ hk
    rw [hff] at hTf
    obtain ⟨cf, kf, fi, fd, hi, hsl⟩ := g9 _ hk
    rw [← hTf] at hi
    have hlay := u_lays (C := rr.1) (T := rr.2.1) Cx.2.2.2.2.1 hin hk
    rw [← hTf] at hlay
    have hsl' := g5 _ hk
    have hd2 : parseFieldDescriptor (en_T f).2.2.1 = some (en_ty f) := by
      have := hty _ hk
      rw [hff, ← hTf] at this
      exact this
    have hap := en_apart Cx g1
    rw [hN] at hap
    obtain ⟨n1, n2⟩ := en_fits hfit
    have hst := (u_facts g6 g7 hlay hi).1
    have hlt : fd.slot < cell.slots.size := by rw [hsl]; exact k2_hasslot hsl'
    have kk : ∀ H' : Heap, H'[a]? = some (cell.setSlot fd.slot (en_vv v)) → H'.size = H.size → (∀ q, q ≠ a → H'[q]? = H[q]?) → W p l e R s m args below meth c H' (locs ++ [⟨a, fd.slot⟩]) cells slots Qf (F0 m (pc + 3) lsA (r.map en_vv)) := by
      intro H' e1 e2 e3
      rw [hsl] at e1
      exact h2 H' _ lsA cells slots (hH.put (ini := en_ini X) l2 hc hap hfit g2 e1 e2 e3) (hS.put e2 e3 (hH.1 a _ hc).1) (by rw [en_sf_nx]; exact hx1) (by rw [en_sf_ns]; exact hx2) hl
    cases hfin : (en_T f).2.2.2 with
    | false =>
      have hlay2 := Cx.2.2.2.2.1 _ (hin _ (u_in_lay hk))
      unfold u_lay at hlay2
      rw [← hTf, if_neg (by rw [hfin]; decide)] at hlay2
      have h6 := u_store g6 g7 g8 hlay2 hi hd2 n1 n2
      exact W.putK Cx.1 Cx.2.1 (f := fd) ⟨Cx.2.2.2.1, Cx.2.2.2.2.1 _ l3, ⟨_, _, _, hi⟩, hst⟩ (by rw [g3]; exact h6) g2 g4 hlt rfl rfl hd kk
    | true =>
      have hini := hfit.2 hfin
      have hlay2 := Cx.2.2.2.2.1 _ (hin _ (u_in_lay hk))
      unfold u_lay at hlay2
      rw [← hTf, if_pos hfin] at hlay2
      have hcf : m.cls = cf := by
        obtain ⟨_, _, c', _, _, _, -, -, hf', -, -, -, hown2, -⟩ := Cond.laysFinal_spec hlay2
        have e1 : c' = cf := by have := hi.symm.trans hf'; simp at this; exact this.1.symm
        rw [l4 hfin hini] at hown2
        rw [← e1]; exact Option.some.inj (Cx.2.2.2.1.symm.trans hown2)
      have h6 := u_fits g6 g7 g8 (Or.inr hlay2) hi hd2 n1 n2
      exact W.putFinK Cx.1 Cx.2.1 Cx.2.2.2.1 (Cx.2.2.2.2.1 _ l3) hi hst hcf (Cx.2.2.2.2.2.2.2.2.2.1 hini) (by rw [g3]; exact h6) g2 g4 hlt rfl rfl hd kk
end
