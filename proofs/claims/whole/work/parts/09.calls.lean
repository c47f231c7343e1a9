
/-! THE ENGINE, part 7: contracts, and calls by them -/
/-- the launch, the classes' numbers and slots, the array classes, the first address, the last address, the last slot -/
abbrev en_G : Type := Launch × va_G × (Nat → ClassId) × Nat × Nat × Nat
def en_ws (y : MethodName) (cc : ByteArray) (maxL : Nat) (ret : Option FieldType) : List Jvm.Cond := .code y cc maxL ret :: en_W
def en_rm (G : en_G) (h : Nat) (σ : en_S) : Room := { frames := h, cells := G.2.2.2.2.1 - en_nx σ, slots := G.2.2.2.2.2 - en_ns σ, locals := 48 * h }
def en_Pre (G : en_G) (σ : en_S) (U : State) : Prop := en_H G.2.1 G.2.2.1 G.2.2.2.1 σ U.heap ∧ en_K G.2.1 G.2.2.1 U ∧ en_nx σ ≤ G.2.2.2.2.1 ∧ en_ns σ ≤ G.2.2.2.2.2
def en_Qc (G : en_G) (C : en_C) (as : List en_V) (σ : en_S) : Array Value → State → Outcome → State → Prop := fun _ st o t => ∃ (r : Option en_V) (σ' : en_S), o = .returned (r.map en_vv) ∧ C.2 as σ r σ' ∧ en_H G.2.1 G.2.2.1 G.2.2.2.1 σ' t.heap ∧ en_nx σ' ≤ G.2.2.2.2.1 ∧ en_ns σ' ≤ G.2.2.2.2.2 ∧ va_F (fun q => G.2.2.2.1 ≤ q) st t
/-- THE CONTRACT C OF y IS MET, with h frames -/
def en_Ok (G : en_G) (h : Nat) (y : MethodName) (cc : ByteArray) (maxL : Nat) (ret : Option FieldType) (C : en_C) : Prop := ∀ (as : List en_V) (σ : en_S), C.1 as σ → Met G.1 y (en_ws y cc maxL ret) (en_rm G h σ) (va_Pc (as.map en_vv) (en_Pre G σ)) (en_Qc G C as σ) (G.2.2.2.2.1 - en_nx σ) (G.2.2.2.2.2 - en_ns σ) (fun q => G.2.2.2.1 ≤ q)
theorem en_K.warm {D : va_G} {dA : Nat → ClassId} {s U : State} (hW : s.WarmedH U.vm) (h : en_K D dA s) : en_K D dA U := by
  obtain ⟨h1, h2, h3, h4, h5, h6, h7⟩ := h
  refine ⟨fun c q hq => u_Kn_moved hW.alike (h1 c q hq), fun t ht => ⟨arrOfT_moved hW.alike (h2 t ht).1, (h2 t ht).2.moved hW.alike⟩, h3.moved hW.alike, h4.moved hW.alike, h5.moved hW.alike, h6.moved hW.alike, fun w hw => ?_⟩
  have h8 := h7 w hw
  simp only [en_nest, List.mem_cons, List.not_mem_nil, or_false] at hw
  rcases hw with rfl | rfl | rfl | rfl <;> exact va_Nw.warmM hW h8
theorem en_K.same {D : va_G} {dA : Nat → ClassId} {s U : State} (hv : s.vm = U.vm) (h : en_K D dA s) : en_K D dA U := by
  obtain ⟨h1, h2, h3, h4, h5, h6, h7⟩ := h
  have hA : s.vm.Alike U.vm := by rw [hv]; exact Vm.Alike.refl _
  refine ⟨fun c q hq => u_Kn_moved hA (h1 c q hq), fun t ht => ⟨arrOfT_moved hA (h2 t ht).1, (h2 t ht).2.moved hA⟩, h3.moved hA, h4.moved hA, h5.moved hA, h6.moved hA, fun w hw => ?_⟩
  have h8 := h7 w hw
  simp only [en_nest, List.mem_cons, List.not_mem_nil, or_false] at hw
  rcases hw with rfl | rfl | rfl | rfl <;> exact va_Nw.same rfl hv h8
theorem en_Pre.blind (G : en_G) (σ : en_S) (av : List Value) : FrameBlind (va_Pc av (en_Pre G σ)) := fun a U g mk h => ⟨h.1, h.2.1, en_K.same (s := U) (U := U.calling g mk a) rfl h.2.2.1, h.2.2.2⟩
theorem en_gin {ws : List Jvm.Cond} (h : ∀ w ∈ ws, w ∈ en_W) : GoodIn en_W ws := fun w hw => ⟨h w hw, good_of_word (List.mem_filter.mp (h w hw)).2⟩
/-- locals at a method's start -/
def en_lc : List en_V → List en_V
  | [] => []
  | v :: vs => if en_cat v = 2 then v :: none :: en_lc vs else v :: en_lc vs
def en_loc (n : Nat) (as : List en_V) : List en_V := en_lc as ++ List.replicate (n - (en_lc as).length) none
theorem en_lc_mem (as : List en_V) : ∀ (off i : Nat) (v : Int32 ⊕ (Option Nat) ⊕ UInt64 ⊕ Int64), (en_lc as)[i]? = some (some v) → (off + i, en_vv (some v)) ∈ lv_args off (as.map en_vv) := by
  induction as with
  | nil => intro off i v h; simp [en_lc] at h
  | cons a as ih =>
    intro off i v h
    simp only [en_lc] at h
    simp only [List.map_cons, lv_args]
    rw [en_cat_vv]
    by_cases hc : en_cat a = 2
    · rw [if_pos hc] at h ⊢
      match i, h with
      | 0, h =>
        rw [List.getElem?_cons_zero] at h
        rw [Option.some.inj h]
        exact List.mem_cons_self
      | 1, h => simp at h
      | i + 2, h =>
        rw [List.getElem?_cons_succ, List.getElem?_cons_succ] at h
        have := ih (off + 2) i v h
        rw [show off + (i + 2) = off + 2 + i by omega]
        exact List.mem_cons_of_mem _ this
    · rw [if_neg hc] at h ⊢
      match i, h with
      | 0, h =>
        rw [List.getElem?_cons_zero] at h
        rw [Option.some.inj h]
        exact List.mem_cons_self
      | i + 1, h =>
        rw [List.getElem?_cons_succ] at h
        have := ih (off + 1) i v h
        rw [show off + (i + 1) = off + 1 + i by omega]
        exact List.mem_cons_of_mem _ this
theorem en_lc_len (as : List en_V) : (lg_sl (as.map en_vv)).length = (en_lc as).length := by
  induction as with
  | nil => rfl
  | cons a as ih =>
    have e1 : lg_sl ((a :: as).map en_vv) = (if (en_vv a).category = 2 then [Slot.val (en_vv a), .second] else [.val (en_vv a)]) ++ lg_sl (as.map en_vv) := by simp [lg_sl]
    rw [e1, List.length_append, ih, en_cat_vv]
    simp only [en_lc]
    by_cases hc : en_cat a = 2
    · simp [hc]; omega
    · simp [hc]; omega
theorem en_entry {as : List en_V} {n : Nat} (h : (en_lc as).length ≤ n) : en_lh ((lg_sl (as.map en_vv) ++ List.replicate (n - (lg_sl (as.map en_vv)).length) Slot.unset).toArray) n (en_loc n as) := by
  have hl := lv_entry (as.map en_vv) (n := n) (by rw [en_lc_len]; exact h)
  refine ⟨hl.1, by unfold en_loc; rw [List.length_append, List.length_replicate]; omega, hl.2.1, fun i v hi => ?_⟩
  unfold en_loc at hi
  rw [List.getElem?_append] at hi
  split at hi
  · have := en_lc_mem as 0 i v hi
    rw [Nat.zero_add] at this
    exact hl.2.2 _ this
  · rw [List.getElem?_replicate] at hi
    split at hi <;> cases hi
/-- what a call asks of its caller -/
def en_Bx (G : en_G) (h : Nat) (own : String) (p : Program) (e : Env) (R : Room) (s : State) (m : MethodId) (args : Array Value) (c : Code) (X : en_X) (nL : Nat) : Prop :=
  p.tables.exec = Jvm.exec ∧ c.code = en_cc X ∧ c.maxLocals = nL ∧ s.vm.findClass own = some m.cls ∧ (∀ w ∈ en_W, w.before args s = true) ∧ en_K G.2.1 G.2.2.1 s ∧ G.2.2.2.1 ≤ s.heap.size ∧ R.cells = en_xl X - s.heap.size ∧ R.slots = en_sl X - en_hs s.heap ∧ h ≤ R.frames ∧ 48 * h ≤ R.locals ∧ en_xl X = G.2.2.2.2.1 ∧ en_sl X = G.2.2.2.2.2
/-- the pool's number idx, in the class own, is a call with the contract q -/
def en_Cl (G : en_G) (h : Nat) (own : String) (idx : Nat) (q : Nat × en_C) : Prop := ∀ (p : Program) (e : Env) (R : Room) (s : State) (m : MethodId) (args : Array Value) (below : List Frame) (meth : Method) (c : Code) (Qf : State → Prop) (X : en_X) (nL : Nat), en_Bx G h own p e R s m args c X nL →
  ∀ (i : Instr) (pc : Nat) (ls st : List en_V) (σ : en_S), decode (en_cc X) pc = .ok (i, 3) → ((i = .invokestatic idx ∧ q.1 % 4 = 0) ∨ (i = .invokevirtual idx ∧ q.1 % 4 = 1) ∨ (i = .invokespecial idx ∧ q.1 % 4 = 2)) → q.1 / 4 ≤ st.length → en_wt (st.drop (q.1 / 4)) ≤ 8 → q.2.1 (st.take (q.1 / 4)).reverse σ →
    (∀ (r : Option en_V) (σ' : en_S), q.2.2 (st.take (q.1 / 4)).reverse σ r σ' → en_P p G.1 e R s m args below meth c Qf X nL G.2.2.2.1 G.2.1 G.2.2.1 (pc + 3, ls, r.toList ++ st.drop (q.1 / 4), σ')) → en_P p G.1 e R s m args below meth c Qf X nL G.2.2.2.1 G.2.1 G.2.2.1 (pc, ls, st, σ)
theorem en_wt_map (st : List en_V) : ((st.map en_vv).map fun v => v.category).sum = en_wt st := by
  unfold en_wt
  rw [List.map_map]
  congr 1
  exact List.map_congr_left (fun v _ => en_cat_vv v)
theorem en_stk {st : List en_V} {k : Nat} : st.map en_vv = ((st.take k).reverse.map en_vv).reverse ++ (st.drop k).map en_vv := by
  rw [← List.map_reverse, List.reverse_reverse, ← List.map_append, List.take_append_drop]
/-- out of a run of a call -/
theorem en_run {G : en_G} {p : Program} {e : Env} {R : Room} {s : State} {m : MethodId} {args : Array Value} {below : List Frame} {meth : Method} {c : Code} {Qf : State → Prop} {X : en_X} {nL : Nat} {C : en_C} {pc k mc ms : Nat} {ls st : List en_V} {σ : en_S} {H : Heap} {locs : List Loc} {lsA : Array Slot} {cells slots : Nat} {av : Array Value}
    (hxl : en_xl X = G.2.2.2.2.1) (hsl : en_sl X = G.2.2.2.2.2)
    (hr : va_Run p G.1 e R s m args below meth c H locs cells slots mc ms (F0 m pc lsA (st.map en_vv)) ((st.drop k).map en_vv) (en_Qc G C (st.take k).reverse σ av) (fun q => G.2.2.2.1 ≤ q)) (hS : va_S (fun q => G.2.2.2.1 ≤ q) s.heap H locs) (hl : en_lh lsA nL ls)
    (h2 : ∀ (r : Option en_V) (σ' : en_S), C.2 (st.take k).reverse σ r σ' → en_P p G.1 e R s m args below meth c Qf X nL G.2.2.2.1 G.2.1 G.2.2.1 (pc + 3, ls, r.toList ++ st.drop k, σ')) :
    W p G.1 e R s m args below meth c H locs cells slots Qf (F0 m pc lsA (st.map en_vv)) := by
  intro T hT Y
  obtain ⟨v, st0, t, T', L, e0, Y', hL, e1, e2, ⟨r, σ', hv, hrel, hH', hn1, hn2, hF⟩, hst⟩ := hr T hT Y
  cases hv
  have hS' : va_S (fun q => G.2.2.2.1 ≤ q) s.heap T'.heap (locs ++ L) := by
    refine ⟨Nat.le_trans hS.1 (by rw [e1, ← e0]; exact hF.1), fun q h1 h2 => ?_, fun q hq => ?_⟩
    · rw [e1, hF.2 q (by rw [e0]; exact Nat.lt_of_lt_of_le h1 hS.1) h2, e0]
      exact hS.2.1 q h1 h2
    · rcases List.mem_append.mp hq with h | h
      · exact hS.2.2 q h
      · exact hL q h
  obtain ⟨t2, a1, b1⟩ := h2 r σ' hrel T'.heap (locs ++ L) lsA _ _ (by rw [e1]; exact hH') hS' (by rw [hxl]; exact hn1) (by rw [hsl]; exact hn2) hl T' rfl Y'
  refine ⟨t2, hst t2 ?_, b1⟩
  have he : (r.map en_vv).toList ++ (st.drop k).map en_vv = (r.toList ++ st.drop k).map en_vv := by cases r <;> simp
  rw [he]
  exact a1
theorem en_roomc {G : en_G} {h h' : Nat} {own : String} {p : Program} {e : Env} {R : Room} {s : State} {m : MethodId} {args : Array Value} {c : Code} {X : en_X} {nL maxL : Nat} {σ : en_S} {H : Heap} {locs : List Loc} (B : en_Bx G h own p e R s m args c X nL) (hh : h' < h) (hm : maxL ≤ 28) (hH : en_H G.2.1 G.2.2.1 G.2.2.2.1 σ H) (hS : va_S (fun q => G.2.2.2.1 ≤ q) s.heap H locs) (hle : en_hs s.heap ≤ en_hs H) (hx1 : en_nx σ ≤ en_xl X) (hx2 : en_ns σ ≤ en_sl X) :
    ((en_rm G h' σ).frames + 1 ≤ R.frames ∧ 8 + (maxL + 11) + (en_rm G h' σ).locals ≤ R.locals) ∧ (H.size - s.heap.size) + (G.2.2.2.2.1 - en_nx σ) ≤ R.cells ∧ (en_hs H - en_hs s.heap) + (G.2.2.2.2.2 - en_ns σ) ≤ R.slots := by
  obtain ⟨-, -, -, -, -, -, -, b1, b2, b3, b4, b5, b6⟩ := B
  have e3 := hH.2.2.1
  have e4 := hH.2.2.2.1
  have e5 := hS.1
  rw [b5] at b1 hx1
  rw [b6] at b2 hx2
  refine ⟨⟨?_, ?_⟩, ?_, ?_⟩
  · show h' + 1 ≤ R.frames
    omega
  · show 8 + (maxL + 11) + 48 * h' ≤ R.locals
    omega
  · omega
  · omega
section
variable {G : en_G} {h h' : Nat} {own : String} {idx : Nat} {y : MethodName} {cc : ByteArray} {maxL : Nat} {ret : Option FieldType} {C : en_C}
/-- a virtual call -/
theorem en_clV (ci k : Nat) {r : vw_C} (hOk : en_Ok G h' y cc maxL ret C) (hh : h' < h) (hm : maxL ≤ 28) (hci : vwCl[ci]? = some r) (hy : y.cls = r.1) (hrec : ∀ as σ, C.1 as σ → ∃ b tl, as = en_R (some b) :: tl ∧ en_cl σ b = some ci ∧ tl.length = k)
    (w1 : Jvm.Cond.methodLink own idx y ∈ en_W) (w2 : Jvm.Cond.instanceMethod y ∈ en_W) (w3 : Jvm.Cond.selects r.1 y y ∈ en_W) (w4 : Jvm.Cond.initialized r.1 ∈ en_W) (w5 : Jvm.Cond.code y cc maxL ret ∈ en_W)
    (hd : y.cls ≠ "java/lang/invoke/MethodHandle" ∧ y.cls ≠ "java/lang/invoke/VarHandle" ∧ (parseMethodDescriptor y.desc).map (fun d => d.parameters.length) = some k) : en_Cl G h own idx (4 * (k + 1) + 1, C) := by
  intro p e R s m args below meth c Qf X nL B i pc ls st σ hdec hkind hlen hwt hpre h2
  have hk4 : (4 * (k + 1) + 1) / 4 = k + 1 := by omega
  have hk1 : (4 * (k + 1) + 1) % 4 = 1 := by omega
  simp only [hk4] at hlen hwt hpre h2
  rcases hkind with ⟨-, hq⟩ | ⟨rfl, -⟩ | ⟨-, hq⟩
  · exact absurd hq (by rw [hk1]; decide)
  · obtain ⟨b, tl, has, hb, htl⟩ := hrec _ _ hpre
    intro H locs lsA cells slots hH hS hx1 hx2 hl
    refine W.tight (W.le (fun hle => ?_))
    obtain ⟨r1, r2⟩ := en_roomc B hh hm hH hS hle hx1 hx2
    obtain ⟨b1, b2, b3, b4, b5, b6, -, -, -, -, -, bx, bs⟩ := B
    have hG : GoodIn en_W (wsV own idx r.1 y (en_ws y cc maxL ret)) := en_gin (fun w hw => by
      simp only [wsV, en_ws, List.mem_append, List.mem_cons, List.not_mem_nil, or_false] at hw
      rcases hw with (rfl | rfl | rfl | rfl) | (rfl | hw)
      · exact w1
      · exact w2
      · exact w3
      · exact w4
      · exact w5
      · exact hw)
    have cw := cwV (rm := en_rm G h' σ) (mc := G.2.2.2.2.1 - en_nx σ) (ms := G.2.2.2.2.2 - en_ns σ) k b5 hG rfl rfl rfl ⟨hy, hd⟩ r1
    refine en_run (k := k + 1) bx bs (va_runV (As := tl.map en_vv) (b := b) ⟨b1, b2, b3, b4, b5⟩ (hOk _ _ hpre) cw ⟨en_Pre.blind _ _ _, ?_, fun U hU hW => ⟨?_, by rw [hU]; exact hH, b6.warm hW, by rw [← bx]; exact hx1, by rw [← bs]; exact hx2⟩⟩ rfl (by rw [List.length_map]; exact htl) hl.1 ?_ (lv_room (by rw [en_wt_map]; exact hwt)) hdec ⟨r2.1, r2.2⟩) hS hl h2
    · obtain ⟨-, -, r', h1, cell, q1, q2, q3, -⟩ := hH.1 b ci hb
      exact ⟨cell, q1, by rw [q3]; rfl, by rw [q2]; exact (b6.1 ci r hci).2.1⟩
    · rw [has]; rfl
    · show st.map en_vv = _
      rw [en_stk (st := st) (k := k + 1), has]
      simp [en_vv, en_R, va_rf]
  · exact absurd hq (by rw [hk1]; decide)
/-- a static call -/
theorem en_clS (k : Nat) (hOk : en_Ok G h' y cc maxL ret C) (hh : h' < h) (hm : maxL ≤ 28) (hrec : ∀ as σ, C.1 as σ → as.length = k)
    (w1 : Jvm.Cond.methodLink own idx y ∈ en_W) (w2 : Jvm.Cond.static y ∈ en_W) (w4 : Jvm.Cond.initialized y.cls ∈ en_W) (w5 : Jvm.Cond.code y cc maxL ret ∈ en_W)
    (hd : y.cls ≠ "java/lang/invoke/MethodHandle" ∧ y.cls ≠ "java/lang/invoke/VarHandle" ∧ (parseMethodDescriptor y.desc).map (fun d => d.parameters.length) = some k) : en_Cl G h own idx (4 * k, C) := by
  intro p e R s m args below meth c Qf X nL B i pc ls st σ hdec hkind hlen hwt hpre h2
  have hk4 : (4 * k) / 4 = k := by omega
  have hk1 : (4 * k) % 4 = 0 := by omega
  simp only [hk4] at hlen hwt hpre h2
  rcases hkind with ⟨rfl, -⟩ | ⟨-, hq⟩ | ⟨-, hq⟩
  · have htl := hrec _ _ hpre
    intro H locs lsA cells slots hH hS hx1 hx2 hl
    refine W.tight (W.le (fun hle => ?_))
    obtain ⟨r1, r2⟩ := en_roomc B hh hm hH hS hle hx1 hx2
    obtain ⟨b1, b2, b3, b4, b5, b6, -, -, -, -, -, bx, bs⟩ := B
    have hG : GoodIn en_W (va_wsS own idx y (en_ws y cc maxL ret)) := en_gin (fun w hw => by
      simp only [va_wsS, en_ws, List.mem_append, List.mem_cons, List.not_mem_nil, or_false] at hw
      rcases hw with (rfl | rfl | rfl) | (rfl | hw)
      · exact w1
      · exact w2
      · exact w4
      · exact w5
      · exact hw)
    have cw := va_cwS (rm := en_rm G h' σ) (mc := G.2.2.2.2.1 - en_nx σ) (ms := G.2.2.2.2.2 - en_ns σ) k b5 hG rfl rfl rfl hd r1
    refine en_run (k := k) bx bs (va_runS (As := (st.take k).reverse.map en_vv) ⟨b1, b2, b3, b4, b5⟩ (hOk _ _ hpre) cw ⟨en_Pre.blind _ _ _, fun U hU hW => ⟨rfl, by rw [hU]; exact hH, b6.warm hW, by rw [← bx]; exact hx1, by rw [← bs]; exact hx2⟩⟩ rfl (by rw [List.length_map]; exact htl) hl.1 ?_ (lv_room (by rw [en_wt_map]; exact hwt)) hdec ⟨r2.1, r2.2⟩) hS hl h2
    show st.map en_vv = _
    exact en_stk
  · exact absurd hq (by rw [hk1]; decide)
  · exact absurd hq (by rw [hk1]; decide)
/-- a constructor -/
theorem en_clI (k : Nat) (hOk : en_Ok G h' y cc maxL none C) (hh : h' < h) (hm : maxL ≤ 28) (hrec : ∀ as σ, C.1 as σ → ∃ b tl, as = en_R (some b) :: tl ∧ tl.length = k) (hyn : y.name = "<init>")
    (w1 : Jvm.Cond.methodLink own idx y ∈ en_W) (w2 : Jvm.Cond.instanceMethod y ∈ en_W) (w4 : Jvm.Cond.initialized y.cls ∈ en_W) (w5 : Jvm.Cond.code y cc maxL none ∈ en_W)
    (hd : y.cls ≠ "java/lang/invoke/MethodHandle" ∧ y.cls ≠ "java/lang/invoke/VarHandle" ∧ (parseMethodDescriptor y.desc).map (fun d => d.parameters.length) = some k) : en_Cl G h own idx (4 * (k + 1) + 2, C) := by
  intro p e R s m args below meth c Qf X nL B i pc ls st σ hdec hkind hlen hwt hpre h2
  have hk4 : (4 * (k + 1) + 2) / 4 = k + 1 := by omega
  have hk1 : (4 * (k + 1) + 2) % 4 = 2 := by omega
  simp only [hk4] at hlen hwt hpre h2
  rcases hkind with ⟨-, hq⟩ | ⟨-, hq⟩ | ⟨rfl, -⟩
  · exact absurd hq (by rw [hk1]; decide)
  · exact absurd hq (by rw [hk1]; decide)
  · obtain ⟨b, tl, has, htl⟩ := hrec _ _ hpre
    intro H locs lsA cells slots hH hS hx1 hx2 hl
    refine W.tight (W.le (fun hle => ?_))
    obtain ⟨r1, r2⟩ := en_roomc B hh hm hH hS hle hx1 hx2
    obtain ⟨b1, b2, b3, b4, b5, b6, -, -, -, -, -, bx, bs⟩ := B
    have hG : GoodIn en_W (en_ws y cc maxL none) := en_gin (fun w hw => by
      simp only [en_ws, List.mem_cons] at hw
      rcases hw with rfl | hw
      · exact w5
      · exact hw)
    have cw := cwI (rm := en_rm G h' σ) (mc := G.2.2.2.2.1 - en_nx σ) (ms := G.2.2.2.2.2 - en_ns σ) k b5 hG rfl rfl rfl (b5 _ w4) (b5 _ w1) (b5 _ w2) hyn hd r1
    refine en_run (k := k + 1) bx bs (va_runI (As := tl.map en_vv) (b := b) ⟨b1, b2, b3, b4, b5⟩ (hOk _ _ hpre) cw ⟨en_Pre.blind _ _ _, fun U hU hW => ⟨?_, by rw [hU]; exact hH, b6.warm hW, by rw [← bx]; exact hx1, by rw [← bs]; exact hx2⟩⟩ rfl (by rw [List.length_map]; exact htl) hl.1 ?_ (lv_room (by rw [en_wt_map]; exact hwt)) hdec ⟨r2.1, r2.2⟩) hS hl h2
    · rw [has]; rfl
    · show st.map en_vv = _
      rw [en_stk (st := st) (k := k + 1), has]
      simp [en_vv, en_R, va_rf]
/-- a nest mate's private constructor -/
theorem en_clN (k : Nat) {host : String} (hOk : en_Ok G h' y cc maxL none C) (hh : h' < h) (hm : maxL ≤ 28) (hrec : ∀ as σ, C.1 as σ → ∃ b tl, as = en_R (some b) :: tl ∧ tl.length = k) (hyn : y.name = "<init>")
    (w1 : Jvm.Cond.methodLinkNest own idx y host ∈ en_nest) (w2 : Jvm.Cond.instanceMethod y ∈ en_W) (w4 : Jvm.Cond.initialized y.cls ∈ en_W) (w5 : Jvm.Cond.code y cc maxL none ∈ en_W)
    (hd : y.cls ≠ "java/lang/invoke/MethodHandle" ∧ y.cls ≠ "java/lang/invoke/VarHandle" ∧ (parseMethodDescriptor y.desc).map (fun d => d.parameters.length) = some k) : en_Cl G h own idx (4 * (k + 1) + 2, C) := by
  intro p e R s m args below meth c Qf X nL B i pc ls st σ hdec hkind hlen hwt hpre h2
  have hk4 : (4 * (k + 1) + 2) / 4 = k + 1 := by omega
  have hk1 : (4 * (k + 1) + 2) % 4 = 2 := by omega
  simp only [hk4] at hlen hwt hpre h2
  rcases hkind with ⟨-, hq⟩ | ⟨-, hq⟩ | ⟨rfl, -⟩
  · exact absurd hq (by rw [hk1]; decide)
  · exact absurd hq (by rw [hk1]; decide)
  · obtain ⟨b, tl, has, htl⟩ := hrec _ _ hpre
    intro H locs lsA cells slots hH hS hx1 hx2 hl
    refine W.tight (W.le (fun hle => ?_))
    obtain ⟨r1, r2⟩ := en_roomc B hh hm hH hS hle hx1 hx2
    obtain ⟨b1, b2, b3, b4, b5, b6, -, -, -, -, -, bx, bs⟩ := B
    have hG : GoodIn en_W (en_ws y cc maxL none) := en_gin (fun w hw => by
      simp only [en_ws, List.mem_cons] at hw
      rcases hw with rfl | hw
      · exact w5
      · exact hw)
    have hnest : va_Nw (.methodLinkNest own idx y host) s := b6.2.2.2.2.2.2 _ w1
    have cw : va_CN R s args own idx y host cc maxL none (en_ws y cc maxL none) (en_rm G h' σ) (G.2.2.2.2.1 - en_nx σ) (G.2.2.2.2.2 - en_ns σ) k := va_cnB k b5 hG rfl rfl rfl hnest (b5 _ w4) hd r1
    refine en_run (k := k + 1) bx bs (va_runIN (host := host) (As := tl.map en_vv) (b := b) ⟨b1, b2, b3, b4, b5⟩ (hOk _ _ hpre) ⟨cw, hyn, b5 _ w2⟩ ⟨en_Pre.blind _ _ _, fun U hU hW => ⟨?_, by rw [hU]; exact hH, b6.warm hW, by rw [← bx]; exact hx1, by rw [← bs]; exact hx2⟩⟩ rfl (by rw [List.length_map]; exact htl) hl.1 ?_ (lv_room (by rw [en_wt_map]; exact hwt)) hdec ⟨r2.1, r2.2⟩) hS hl h2
    · rw [has]; rfl
    · show st.map en_vv = _
      rw [en_stk (st := st) (k := k + 1), has]
      simp [en_vv, en_R, va_rf]
end
/-- Object's constructor: nothing -/
def en_Cobj : en_C := (fun as _ => ∃ b, as = [en_R (some b)], fun _ σ r σ' => r = none ∧ σ' = σ)
theorem en_oI : Jvm.Cond.instanceMethod Lib.objectInit ∈ en_W := en_inW (List.mem_append_right _ (by decide +kernel)) (by decide +kernel)
theorem en_oC : Jvm.Cond.code Lib.objectInit ⟨#[0xb1]⟩ 1 none ∈ en_W := en_inW (List.mem_append_right _ (by decide +kernel)) (by decide +kernel)
theorem en_clO {G : en_G} {h : Nat} {own : String} {idx : Nat} (hh : 1 ≤ h) (w1 : Jvm.Cond.methodLink own idx Lib.objectInit ∈ en_W) : en_Cl G h own idx (6, en_Cobj) := by
  intro p e R s m args below meth c Qf X nL B i pc ls st σ hdec hkind hlen hwt hpre h2
  rcases hkind with ⟨-, hq⟩ | ⟨-, hq⟩ | ⟨rfl, -⟩
  · exact absurd hq (by decide)
  · exact absurd hq (by decide)
  · obtain ⟨b, has⟩ := hpre
    obtain ⟨b1, b2, b3, b4, b5, b6, -, -, -, f1, f2, bx, bs⟩ := B
    intro H locs lsA cells slots hH hS hx1 hx2 hl
    have h2 := h2 none σ ⟨rfl, rfl⟩ H locs lsA cells slots hH hS hx1 hx2 hl
    have hst : st.map en_vv = .ref b :: (st.drop 1).map en_vv := by
      have := en_stk (st := st) (k := 1)
      have has' : (st.take 1).reverse = [en_R (some b)] := has
      rw [has'] at this
      exact this
    have hw : en_wt (st.drop 1) ≤ 8 := hwt
    show W p G.1 e R s m args below meth c H locs cells slots Qf (F0 m pc lsA (st.map en_vv))
    rw [hst]
    have hlr := lv_room (m := m) (pc := pc) (ls := lsA) (rest := .ref b :: (st.drop 1).map en_vv) (st := (st.drop 1).map en_vv) (by rw [en_wt_map]; exact hw)
    exact W.objInit b1 b2 b4 (b5 _ w1) (b5 _ en_oI) (b5 _ en_oC) rfl (by rw [b3]; exact hl.1) rfl hdec (by omega) (by omega) h2
