/-! THE ENGINE, throws: a call that may throw, in a method that catches -/
def en_pad (σ : en_S) (k n : Nat) : en_S := (σ.1, σ.2.1, σ.2.2.1, σ.2.2.2.1, σ.2.2.2.2.1, σ.2.2.2.2.2.1, σ.2.2.2.2.2.2.1, σ.2.2.2.2.2.2.2.1, σ.2.2.2.2.2.2.2.2.1, k, n)
theorem en_H.pad {D : va_G} {dA : Nat → ClassId} {base : Nat} {σ : en_S} {H H1 : Heap} (h : en_H D dA base σ H) (hs : H.size ≤ H1.size) (hk : ∀ q : Nat, q < H.size → H1[q]? = H[q]?) : en_H D dA base (en_pad σ H1.size (en_hs H1)) H1 := by
  refine ⟨fun a ci hc => ?_, fun a t n ha => ?_, rfl, rfl, Nat.le_trans h.2.2.2.2 hs⟩
  · obtain ⟨h1, h2, r, h3, cell, q1, q2⟩ := h.1 a ci hc
    exact ⟨h1, h2, r, h3, cell, by rw [hk a (Array.getElem?_eq_some_iff.mp q1).1]; exact q1, q2⟩
  · obtain ⟨h1, h2, h3, h4⟩ := h.2.1 a t n ha
    exact ⟨h1, h2, h3, by rw [hk a (Array.getElem?_eq_some_iff.mp h4).1]; exact h4⟩
/-- E, thrown at pc, is caught at hpc -/
def en_catch (own : String) (args : Array Value) (s : State) (c : Code) (pc : Nat) (E : String) (hpc : Nat) : Prop := ∃ (pre : List ExceptionTableEntry) (x : ExceptionTableEntry) (suf : List ExceptionTableEntry) (name : String), c.exceptionTable.toList = pre ++ x :: suf ∧ (∀ z ∈ pre, covers z pc = false ∨ (z.catchType ≠ 0 ∧ ∃ nm : String, (Jvm.Cond.classLink own z.catchType nm).before args s = true ∧ va_Nc E nm s)) ∧ covers x pc = true ∧ x.catchType ≠ 0 ∧ (Jvm.Cond.classLink own x.catchType name).before args s = true ∧ (Jvm.Cond.castable E name).before args s = true ∧ x.handlerPc = hpc
theorem en_bounds {p : Program} {l : Launch} {e : Env} {R : Room} {s : State} {m : MethodId} {args : Array Value} {below : List Frame} {meth : Method} {c : Code} {T : State} {locs : List Loc} {cells slots : Nat} (Y : Stand p l e R s m args below meth c T locs cells slots) : T.heap.size ≤ s.heap.size + cells ∧ en_hs T.heap ≤ en_hs s.heap + slots := by
  obtain ⟨e1, h1, h2, h3, h4, h5⟩ := Y.same
  have hb : T.slotsUsed = en_hs T.heap := by
    have := Y.book
    simp only [State.slotsTrue, beq_iff_eq] at this
    exact this
  have hb0 : s.slotsUsed = en_hs s.heap := by
    have := Y.room
    simp only [State.hasRoom, Bool.and_eq_true] at this
    have h9 := this.2
    simp only [State.slotsTrue, beq_iff_eq] at h9
    exact h9
  have h3' : T.slotsUsed = s.slotsUsed + (((T.setVm s.vm).heap.toList.drop s.heap.size).map (·.slots.size)).sum := h3
  have h2' : T.heap.size ≤ s.heap.size + cells := h2
  exact ⟨h2', by omega⟩
section
variable {G : en_G} {h h' xl sl : Nat} {own : String} {idx ci k : Nat} {r : vw_C} {y : MethodName} {cc : ByteArray} {maxL : Nat} {ret : Option FieldType} {C : en_C} {XP : en_XP}
variable {p : Program} {e : Env} {R : Room} {s : State} {m : MethodId} {args : Array Value} {below : List Frame} {meth : Method} {c : Code} {Qf : State → Prop} {X : en_X} {nL : Nat}
theorem en_runX (B : en_Bx G h own p e R s m args c X nL) (hY : en_Y s) (hZ : en_Z G.2.2.2.1 s s.heap) (hst : G.1.stackTraces = false) (hxl : xl ≤ G.2.2.2.2.1) (hsl : sl ≤ G.2.2.2.2.2)
    (hOk : en_OkX (G.1, G.2.1, G.2.2.1, G.2.2.2.1, xl, sl) h' y cc maxL ret C XP) (hh : h' < h) (hm : maxL ≤ 28) (hci : vwCl[ci]? = some r) (hy : y.cls = r.1)
    (w1 : Jvm.Cond.methodLink own idx y ∈ en_W) (w2 : Jvm.Cond.instanceMethod y ∈ en_W) (w3 : Jvm.Cond.selects r.1 y y ∈ en_W) (w4 : Jvm.Cond.initialized r.1 ∈ en_W) (w5 : Jvm.Cond.code y cc maxL ret ∈ en_W)
    (hd : y.cls ≠ "java/lang/invoke/MethodHandle" ∧ y.cls ≠ "java/lang/invoke/VarHandle" ∧ (parseMethodDescriptor y.desc).map (fun d => d.parameters.length) = some k)
    {b pc : Nat} {tl ls rest : List en_V} {σ : en_S} (hb : en_cl σ b = some ci) (htl : tl.length = k) (hdec : decode (en_cc X) pc = .ok (.invokevirtual idx, 3)) (hwt : en_wt rest ≤ 8) (hpre : C.1 (en_R (some b) :: tl) σ) (hn1 : en_nx σ ≤ xl) (hn2 : en_ns σ ≤ sl)
    (hret : ∀ (v : Option en_V) (σ' : en_S), C.2 (en_R (some b) :: tl) σ v σ' → en_P p G.1 e R s m args below meth c Qf X nL G.2.2.2.1 G.2.1 G.2.2.1 (pc + 3, ls, v.toList ++ rest, σ'))
    (hthr : ∀ (E : String) (σ' : en_S) (kk n q : Nat), XP (en_R (some b) :: tl) σ E σ' → en_nx σ' ≤ kk → kk ≤ xl → n ≤ sl → ∃ hpc, en_catch own args s c pc E hpc ∧ en_P p G.1 e R s m args below meth c Qf X nL G.2.2.2.1 G.2.1 G.2.2.1 (hpc, ls, [en_R (some q)], en_pad σ' kk n)) :
    en_P p G.1 e R s m args below meth c Qf X nL G.2.2.2.1 G.2.1 G.2.2.1 (pc, ls, (en_R (some b) :: tl).reverse ++ rest, σ) := by
  intro H locs lsA cells slots hH hS hx1 hx2 hl
  refine W.tight (W.le (fun hle => ?_))
  obtain ⟨b1, b2, b3, b4, b5, b6, b7, b8, b9, b10, b11, bx, bs⟩ := id B
  have hH : en_H G.2.1 G.2.2.1 G.2.2.2.1 σ H := hH
  have f1 : H.size = en_nx σ := hH.2.2.1
  have f2 : en_hs H = en_ns σ := hH.2.2.2.1
  have hS1 : s.heap.size ≤ H.size := hS.1
  rw [bx] at b8
  rw [bs] at b9
  have hG : GoodIn en_W (wsV own idx r.1 y (en_ws y cc maxL ret)) := en_gin (fun w hw => by
    simp only [wsV, en_ws, List.mem_append, List.mem_cons, List.not_mem_nil, or_false] at hw
    rcases hw with (rfl | rfl | rfl | rfl) | (rfl | hw)
    · exact w1
    · exact w2
    · exact w3
    · exact w4
    · exact w5
    · exact hw)
  have r1 : (en_rm (G.1, G.2.1, G.2.2.1, G.2.2.2.1, xl, sl) h' σ).frames + 1 ≤ R.frames ∧ 8 + (maxL + 11) + (en_rm (G.1, G.2.1, G.2.2.1, G.2.2.2.1, xl, sl) h' σ).locals ≤ R.locals := by
    refine ⟨?_, ?_⟩
    · show h' + 1 ≤ R.frames
      omega
    · show 8 + (maxL + 11) + 48 * h' ≤ R.locals
      omega
  have cw := cwV (rm := en_rm (G.1, G.2.1, G.2.2.1, G.2.2.2.1, xl, sl) h' σ) (mc := xl - en_nx σ) (ms := sl - en_ns σ) k b5 hG rfl rfl rfl ⟨hy, hd⟩ r1
  have r2a : H.size - s.heap.size + (xl - en_nx σ) ≤ R.cells := by omega
  have r2b : en_hs H - en_hs s.heap + (sl - en_ns σ) ≤ R.slots := by omega
  have hrun := vx_runV (l := G.1) (e := e) (meth := meth) (mc := xl - en_nx σ) (ms := sl - en_ns σ) (g := F0 m pc lsA (((en_R (some b) :: tl).reverse ++ rest).map en_vv)) (rest := rest.map en_vv) (H := H) (below := below) (locs := locs) (cells := H.size - s.heap.size) (slots := en_hs H - en_hs s.heap) (As := tl.map en_vv) (b := b) ⟨b1, b2, b3, b4, b5⟩ (hOk _ _ hpre) cw
    ⟨en_PreX.blind _ _ _, by
      obtain ⟨-, -, r', h1, cell, q1, q2, q3, -⟩ := hH.1 b ci hb
      exact ⟨cell, q1, by rw [q3]; rfl, by rw [q2]; exact (b6.1 ci r hci).2.1⟩, fun U hU hW => ⟨rfl, ⟨by rw [hU]; exact hH, b6.warm hW, hn1, hn2⟩, by rw [hU]; exact en_Z.moved hW.alike (hZ.kept hS.2.1), hY.warm hW, hst⟩⟩ rfl (by rw [List.length_map]; exact htl) hl.1 (by
      show ((en_R (some b) :: tl).reverse ++ rest).map en_vv = _
      simp [en_vv, en_R, va_rf]) (lv_room (by rw [en_wt_map]; exact hwt)) hdec ⟨r2a, r2b⟩
  intro T hT Y
  rcases hrun T hT Y with ⟨v, st0, t, T', L, e0, Y', hL, e1, e2, ⟨rr, σ', hv, hrel, hH', hq1, hq2, hF⟩, hst'⟩ | ⟨q, st0, t, T', L, E, ce, e0, Y', hL, e1, e2, ⟨σ', H1, hxp, hH1, hsz, hkeep, hsz0, hkeep0⟩, hce, hcv, hcl, hsteps⟩
  · cases hv
    have hS' : va_S (fun q => G.2.2.2.1 ≤ q) s.heap T'.heap (locs ++ L) := by
      refine ⟨Nat.le_trans hS.1 (by rw [e1, ← e0]; exact hF.1), fun q h1 h2 => ?_, fun q hq => ?_⟩
      · rw [e1, hF.2 q (by rw [e0]; exact Nat.lt_of_lt_of_le h1 hS.1) h2, e0]
        exact hS.2.1 q h1 h2
      · rcases List.mem_append.mp hq with h | h
        · exact hS.2.2 q h
        · exact hL q h
    obtain ⟨t2, a1, b1'⟩ := hret rr σ' hrel T'.heap (locs ++ L) lsA _ _ (by rw [e1]; exact hH') hS' (by rw [bx]; exact Nat.le_trans hq1 hxl) (by rw [bs]; exact Nat.le_trans hq2 hsl) hl T' rfl Y'
    refine ⟨t2, hst' t2 ?_, b1'⟩
    have he : (rr.map en_vv).toList ++ rest.map en_vv = (rr.toList ++ rest).map en_vv := by cases rr <;> simp
    rw [he]
    exact a1
  · obtain ⟨u1, u2⟩ := en_bounds Y'
    rw [e1] at u1 u2
    have v1 : H1.size = en_nx σ' := hH1.2.2.1
    have hS' : va_S (fun q => G.2.2.2.1 ≤ q) s.heap T'.heap (locs ++ L) := by
      refine ⟨by rw [e1]; rw [e0] at hsz0; omega, fun q h1 h2 => ?_, fun q hq => ?_⟩
      · have hq1 : q < st0.heap.size := by rw [e0]; omega
        rw [e1, hkeep q (Nat.lt_of_lt_of_le hq1 hsz0), hkeep0 q hq1 h2, e0]
        exact hS.2.1 q h1 h2
      · rcases List.mem_append.mp hq with h | h
        · exact hS.2.2 q h
        · exact hL q h
    obtain ⟨hpc, ⟨pre, x, suf, name, c1, c2, c3, c4, c5, c6, c7⟩, hP⟩ := hthr E σ' t.heap.size (en_hs t.heap) q hxp (by omega) (by omega) (by omega)
    have hW : W p G.1 e R s m args below meth c T'.heap (locs ++ L) (H.size - s.heap.size + (xl - en_nx σ)) (en_hs H - en_hs s.heap + (sl - en_ns σ)) Qf (F0 m x.handlerPc lsA [.ref q]) := by
      rw [c7]
      exact hP T'.heap (locs ++ L) lsA _ _ (by rw [e1]; exact hH1.pad hsz hkeep) hS' (by show t.heap.size ≤ _; rw [bx]; omega) (by show en_hs t.heap ≤ _; rw [bs]; omega) hl
    have hV := vx_catch (rest := rest.map en_vv) (pc := pc) b4 pre x suf c1 c2 c3 c4 c5 c6 (by rw [e1]; exact hce) hcv hcl hW
    obtain ⟨t2, a1, b1'⟩ := hV T' rfl Y'
    exact ⟨t2, hsteps.trans a1, b1'⟩
end
/-- THE CONTRACT C OF y, a method with a table that lets nothing through, IS MET -/
def en_OkW (G : en_G) (h : Nat) (y : MethodName) (cc : ByteArray) (maxL : Nat) (ret : Option FieldType) (hh : List (Nat × Nat × Nat × Nat)) (C : en_C) : Prop := ∀ (as : List en_V) (σ : en_S), C.1 as σ → Met G.1 y (.codeWith y cc maxL ret hh :: en_W) (en_rm G h σ) (va_Pc (as.map en_vv) (en_PreX G σ)) (en_Qc G C as σ) (G.2.2.2.2.1 - en_nx σ) (G.2.2.2.2.2 - en_ns σ) (fun q => G.2.2.2.1 ≤ q)
/-- what a body that catches has -/
def en_Wx (G : en_G) (h : Nat) (own : String) (X : en_X) (nL : Nat) (hh : List (Nat × Nat × Nat × Nat)) (p : Program) (e : Env) (R : Room) (s : State) (m : MethodId) (args : Array Value) (below : List Frame) (meth : Method) (c : Code) (Qf : State → Prop) : Prop :=
  en_Cx p G.1 e R s m args below meth c Qf own X nL G.2.2.2.1 G.2.1 G.2.2.1 ∧ en_Bx G h own p e R s m args c X nL ∧ en_Y s ∧ en_Z G.2.2.2.1 s s.heap ∧ G.1.stackTraces = false ∧ c.exceptionTable.toList = tableOf hh
theorem en_metW {G : en_G} {h : Nat} {y : MethodName} {cc : ByteArray} {maxL : Nat} {ret : Option FieldType} {hh : List (Nat × Nat × Nat × Nat)} {C : en_C} {own : String} {fl : Nat → Option Nat} {nw : Nat → Option (Nat × Nat)} {aw : Nat → Option Nat} {dc : Nat → Option UInt64} {rt : Nat}
    (hp : Jvm.plainName y.cls = true) (hrt : en_rtok rt ret) (hown : y.cls = own) (hlk : ∀ q, en_Lk own (en_mk G cc fl nw aw dc (fun _ => none) rt false q))
    (hJ : ∀ as σ, C.1 as σ → (en_lc as).length ≤ maxL ∧ ∀ (p : Program) (e : Env) (R : Room) (s : State) (m : MethodId) (args : Array Value) (below : List Frame) (meth : Method) (c : Code) (Qf : State → Prop), en_Wx G h own (en_mk G cc fl nw aw dc (fun _ => none) rt false (fun r σ' => C.2 as σ r σ')) maxL hh p e R s m args below meth c Qf → en_P p G.1 e R s m args below meth c Qf (en_mk G cc fl nw aw dc (fun _ => none) rt false (fun r σ' => C.2 as σ r σ')) maxL G.2.2.2.1 G.2.1 G.2.2.1 (0, en_loc maxL as, [], σ)) : en_OkW G h y cc maxL ret hh C := by
  intro as σ hpre
  obtain ⟨hlen, hj⟩ := hJ as σ hpre
  refine va_MetW (cc := cc) (maxL := maxL) (ret := ret) (hh := hh) hp rfl ?_
  intro p e s m args below meth c s₁ B hml hv
  obtain ⟨rfl, ⟨hH, hK, hx1, hx2⟩, hZ, hY, hst⟩ := hv
  have hts := atoms_spec (ws := .codeWith y cc maxL ret hh :: en_W) B.pre
  have hts' : ∀ w ∈ en_W, w.before (as.map en_vv).toArray s = true := fun w hw => hts w (List.mem_cons_of_mem _ hw)
  have ho : s.vm.findClass own = some m.cls := by rw [← hown]; exact findClass_of_methodNamed B.named
  have htab := vx_table (x := y) B (hts _ List.mem_cons_self)
  have e1 := hH.2.2.1
  have e2 := hH.2.2.2.1
  rw [lg_entry_eq]
  have hlk' := hlk (fun r σ' => C.2 as σ r σ')
  have Bx : en_Bx G h own p e (en_rm G h σ) s m (as.map en_vv).toArray c (en_mk G cc fl nw aw dc (fun _ => none) rt false (fun r σ' => C.2 as σ r σ')) maxL :=
    ⟨B.exec, B.bytes, hml, ho, hts', hK, hH.2.2.2.2, by rw [e1]; rfl, by rw [e2]; rfl, Nat.le_refl _, Nat.le_refl _, rfl, rfl⟩
  have Cx : en_Cx p G.1 e (en_rm G h σ) s m (as.map en_vv).toArray below meth c (MQ below (en_Qc G C as σ) (as.map en_vv).toArray s (G.2.2.2.2.1 - en_nx σ) (G.2.2.2.2.2 - en_ns σ) (fun q => G.2.2.2.1 ≤ q)) own (en_mk G cc fl nw aw dc (fun _ => none) rt false (fun r σ' => C.2 as σ r σ')) maxL G.2.2.2.1 G.2.1 G.2.2.1 := by
    refine ⟨B.exec, B.bytes, hml, ho, hts', hK, hH.2.2.2.2, by rw [e1]; rfl, by rw [e2]; rfl, fun hq => (by cases hq), hlk', ?_, ?_, ?_, ?_⟩
    · intro b L xs hq
      exact absurd hq (fun z => by cases z)
    · intro idx q i pc ls st σ' hq
      cases hq
    · exact en_rets (ret := ret) (rt := rt) B.exec B.bytes B.returns B.notSynchronized hrt rfl rfl rfl e1 e2
    · intro idx pc E σ' ls hd hq
      exact absurd hq (fun z => by cases z)
  exact hj p e _ s m _ below meth c _ ⟨Cx, Bx, hY, hZ, hst, htab⟩ s.heap [] _ 0 0 hH va_S.rf hx1 hx2 (en_entry hlen)
/-- a static call of such a method -/
theorem en_clW {G : en_G} {h h' : Nat} {own : String} {idx : Nat} {y : MethodName} {cc : ByteArray} {maxL : Nat} {ret : Option FieldType} {hh : List (Nat × Nat × Nat × Nat)} {C : en_C} (k : Nat) (hOk : en_OkW G h' y cc maxL ret hh C) (hhh : h' < h) (hm : maxL ≤ 28) (hrec : ∀ as σ, C.1 as σ → as.length = k)
    (w1 : Jvm.Cond.methodLink own idx y ∈ en_W) (w2 : Jvm.Cond.static y ∈ en_W) (w4 : Jvm.Cond.initialized y.cls ∈ en_W) (w5 : Jvm.Cond.codeWith y cc maxL ret hh ∈ en_W)
    (hd : y.cls ≠ "java/lang/invoke/MethodHandle" ∧ y.cls ≠ "java/lang/invoke/VarHandle" ∧ (parseMethodDescriptor y.desc).map (fun d => d.parameters.length) = some k)
    {p : Program} {e : Env} {R : Room} {s : State} {m : MethodId} {args : Array Value} {below : List Frame} {meth : Method} {c : Code} {Qf : State → Prop} {X : en_X} {nL : Nat} (B : en_Bx G h own p e R s m args c X nL) (hY : en_Y s) (hZ : en_Z G.2.2.2.1 s s.heap) (hst : G.1.stackTraces = false)
    (i : Instr) (pc : Nat) (ls st : List en_V) (σ : en_S) (hdec : decode (en_cc X) pc = .ok (i, 3)) (hkind : (i = .invokestatic idx ∧ (4 * k) % 4 = 0) ∨ (i = .invokevirtual idx ∧ (4 * k) % 4 = 1) ∨ (i = .invokespecial idx ∧ (4 * k) % 4 = 2)) (hlen : (4 * k) / 4 ≤ st.length) (hwt : en_wt (st.drop ((4 * k) / 4)) ≤ 8) (hpre : C.1 (st.take ((4 * k) / 4)).reverse σ)
    (h2 : ∀ (r : Option en_V) (σ' : en_S), C.2 (st.take ((4 * k) / 4)).reverse σ r σ' → en_P p G.1 e R s m args below meth c Qf X nL G.2.2.2.1 G.2.1 G.2.2.1 (pc + 3, ls, r.toList ++ st.drop ((4 * k) / 4), σ')) : en_P p G.1 e R s m args below meth c Qf X nL G.2.2.2.1 G.2.1 G.2.2.1 (pc, ls, st, σ) := by
  have hk4 : (4 * k) / 4 = k := by omega
  have hk1 : (4 * k) % 4 = 0 := by omega
  simp only [hk4] at hlen hwt hpre h2
  rcases hkind with ⟨rfl, -⟩ | ⟨-, hq⟩ | ⟨-, hq⟩
  · have htl := hrec _ _ hpre
    intro H locs lsA cells slots hH hS hx1 hx2 hl
    refine W.tight (W.le (fun hle => ?_))
    obtain ⟨r1, r2⟩ := en_roomc B hhh hm hH hS hle hx1 hx2
    obtain ⟨b1, b2, b3, b4, b5, b6, -, -, -, -, -, bx, bs⟩ := B
    have hG : GoodIn en_W (va_wsS own idx y (.codeWith y cc maxL ret hh :: en_W)) := en_gin (fun w hw => by
      simp only [va_wsS, List.mem_append, List.mem_cons, List.not_mem_nil, or_false] at hw
      rcases hw with (rfl | rfl | rfl) | (rfl | hw)
      · exact w1
      · exact w2
      · exact w4
      · exact w5
      · exact hw)
    have cw := vx_cwSW (rm := en_rm G h' σ) (mc := G.2.2.2.2.1 - en_nx σ) (ms := G.2.2.2.2.2 - en_ns σ) k b5 hG rfl rfl rfl hd r1
    refine en_run (k := k) bx bs (vx_runSW (As := (st.take k).reverse.map en_vv) ⟨b1, b2, b3, b4, b5⟩ (hOk _ _ hpre) cw ⟨en_PreX.blind _ _ _, fun U hU hW => ⟨rfl, ⟨by rw [hU]; exact hH, b6.warm hW, by rw [← bx]; exact hx1, by rw [← bs]; exact hx2⟩, by rw [hU]; exact en_Z.moved hW.alike (hZ.kept hS.2.1), hY.warm hW, hst⟩⟩ rfl (by rw [List.length_map]; exact htl) hl.1 ?_ (lv_room (by rw [en_wt_map]; exact hwt)) hdec ⟨r2.1, r2.2⟩) hS hl h2
    show st.map en_vv = _
    exact en_stk
  · exact absurd hq (by rw [hk1]; decide)
  · exact absurd hq (by rw [hk1]; decide)
/-- one instruction on -/
theorem en_go {p : Program} {l : Launch} {e : Env} {R : Room} {s : State} {m : MethodId} {args : Array Value} {below : List Frame} {meth : Method} {c : Code} {Qf : State → Prop} {own : String} {X : en_X} {nL base : Nat} {D : va_G} {dA : Nat → ClassId} (Cx : en_Cx p l e R s m args below meth c Qf own X nL base D dA) {i : Instr} {n pc pc' : Nat} {ls st ls' st' : List en_V} {σ σ' : en_S} {pr : Prop} (hd : decode (en_cc X) pc = .ok (i, n)) (hs : en_sem X i n pc ls st σ = (pr, fun d => d = (pc', ls', st', σ'))) (hp : pr) (k : en_P p l e R s m args below meth c Qf X nL base D dA (pc', ls', st', σ')) : en_P p l e R s m args below meth c Qf X nL base D dA (pc, ls, st, σ) :=
  en_step Cx hd (by rw [hs]; exact hp) (fun d hd => by rw [hs] at hd; rw [hd]; exact k)
