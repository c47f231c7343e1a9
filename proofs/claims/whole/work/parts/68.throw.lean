/-! THE ENGINE, throws: what the world must hold for them; contracts of methods that throw -/
def en_IO : String := "java/lang/IndexOutOfBoundsException"
def en_IA : String := "java/lang/IllegalArgumentException"
def en_NS : String := "java/util/NoSuchElementException"
def en_nm : List String := ["java/lang/RuntimeException", "java/lang/Exception"]
def en_nw : List Jvm.Cond := [.declares ⟨"java/lang/RuntimeException", "<init>", "(Ljava/lang/String;)V"⟩, .declares ⟨"java/lang/Exception", "<init>", "(Ljava/lang/String;)V"⟩, .declares ⟨"java/lang/Throwable", "<init>", "(Ljava/lang/String;)V"⟩, .castable en_IO en_IO, .castable en_IA en_IA, .castable en_NS en_NS]
def en_str : List (Nat × String) := [(70, "there is no such node"), (85, "the element may not stand there"), (93, "before is no child of the parent"), (125, "there is no such type, or there are no such flags"), (138, "there is no such element"), (144, "a box is not so wide, so high or so far"), (172, "there is no box"), (183, "what is not 0 .. 2")]
def en_nc : List (String × String) := [(en_IA, en_IO), (en_NS, en_IO), (en_NS, en_IA), (en_IA, en_NS)]
def en_Y (U : State) : Prop := (∀ w ∈ en_nw, va_Nw w U) ∧ (∀ p ∈ en_str, ∃ sa, vk_R RX6 p.1 p.2 sa U) ∧ ∀ p ∈ en_nc, va_Nc p.1 p.2 U
def en_Z (base : Nat) (U : State) (H : Heap) : Prop := vx_Zq Bundle.tN "UNASSIGNED_STACK" Bundle.steD (fun q => base ≤ q) U H ∧ vx_Zq Bundle.tN "SUPPRESSED_SENTINEL" Bundle.listD (fun q => base ≤ q) U H
theorem en_Y.warm {s U : State} (hW : s.WarmedH U.vm) (h : en_Y s) : en_Y U := by
  obtain ⟨h1, h2, h3⟩ := h
  refine ⟨fun w hw => ?_, fun p hp => ?_, fun p hp => va_Nc.moved hW.alike (h3 p hp)⟩
  · have h8 := h1 w hw
    simp only [en_nw, List.mem_cons, List.not_mem_nil, or_false] at hw
    rcases hw with rfl | rfl | rfl | rfl | rfl | rfl
    · exact va_Nw.warmD hW h8
    · exact va_Nw.warmD hW h8
    · exact va_Nw.warmD hW h8
    · exact va_Nw.warmC hW h8
    · exact va_Nw.warmC hW h8
    · exact va_Nw.warmC hW h8
  · obtain ⟨sa, h⟩ := h2 p hp
    exact ⟨sa, vk_R.warm hW h⟩
theorem en_Y.same {s U : State} (hv : s.vm = U.vm) (h : en_Y s) : en_Y U := by
  obtain ⟨h1, h2, h3⟩ := h
  have hA : s.vm.Alike U.vm := by rw [hv]; exact Vm.Alike.refl _
  refine ⟨fun w hw => ?_, fun p hp => ?_, fun p hp => va_Nc.moved hA (h3 p hp)⟩
  · have h8 := h1 w hw
    simp only [en_nw, List.mem_cons, List.not_mem_nil, or_false] at hw
    rcases hw with rfl | rfl | rfl | rfl | rfl | rfl <;> exact va_Nw.same rfl hv h8
  · obtain ⟨sa, h⟩ := h2 p hp
    exact ⟨sa, vk_R.same hv.symm h⟩
theorem en_Z.moved {base : Nat} {u U : State} {H : Heap} (hvm : u.vm.Alike U.vm) (h : en_Z base u H) : en_Z base U H := ⟨vx_Zq.moved hvm h.1, vx_Zq.moved hvm h.2⟩
theorem en_Z.kept {base : Nat} {U : State} {H H1 : Heap} (h : en_Z base U H) (hq : ∀ a : Nat, a < H.size → ¬ base ≤ a → H1[a]? = H[a]?) : en_Z base U H1 := ⟨vx_Zq.kept h.1 hq, vx_Zq.kept h.2 hq⟩
def en_PreX (G : en_G) (σ : en_S) (U : State) : Prop := en_Pre G σ U ∧ en_Z G.2.2.2.1 U U.heap ∧ en_Y U ∧ G.1.stackTraces = false
theorem en_PreX.blind (G : en_G) (σ : en_S) (av : List Value) : FrameBlind (va_Pc av (en_PreX G σ)) := fun a U g mk h => ⟨h.1, ⟨h.2.1.1, en_K.same (s := U) (U := U.calling g mk a) rfl h.2.1.2.1, h.2.1.2.2⟩, en_Z.moved (u := U) (U := U.calling g mk a) (Vm.Alike.refl _) h.2.2.1, en_Y.same (s := U) (U := U.calling g mk a) rfl h.2.2.2.1, h.2.2.2.2⟩
/-- what a throw leaves: the class, the store -/
abbrev en_XP : Type := List en_V → en_S → String → en_S → Prop
def en_XC (G : en_G) (XP : en_XP) (as : List en_V) (σ : en_S) : String → State → State → Prop := fun E st t => ∃ (σ' : en_S) (H : Heap), XP as σ E σ' ∧ en_H G.2.1 G.2.2.1 G.2.2.2.1 σ' H ∧ H.size ≤ t.heap.size ∧ (∀ q : Nat, q < H.size → t.heap[q]? = H[q]?) ∧ st.heap.size ≤ H.size ∧ (∀ q : Nat, q < st.heap.size → ¬ G.2.2.2.1 ≤ q → H[q]? = st.heap[q]?)
def en_OkX (G : en_G) (h : Nat) (y : MethodName) (cc : ByteArray) (maxL : Nat) (ret : Option FieldType) (C : en_C) (XP : en_XP) : Prop := ∀ (as : List en_V) (σ : en_S), C.1 as σ → vx_Met G.1 y (en_ws y cc maxL ret) (en_rm G h σ) (va_Pc (as.map en_vv) (en_PreX G σ)) (en_Qc G C as σ) (en_XC G XP as σ) (G.2.2.2.2.1 - en_nx σ) (G.2.2.2.2.2 - en_ns σ) (fun q => G.2.2.2.1 ≤ q)
def en_mkX (G : en_G) (cc : ByteArray) (fl : Nat → Option Nat) (nw : Nat → Option (Nat × Nat)) (aw : Nat → Option Nat) (dc : Nat → Option UInt64) (ca : Nat → Option (Nat × en_C)) (xt : Nat → Option String) (rt : Nat) (ini : Bool) (q : Option en_V → en_S → Prop) (qx : String → en_S → Prop) : en_X := (cc, fl, nw, aw, dc, ca, none, xt, (G.2.2.2.2.1, G.2.2.2.2.2), rt, ini, q, qx)
/-- at pc there stands 'throw new E(text)' -/
def en_thr (cc : ByteArray) (pc : Nat) (E : String) : Prop := ∃ (ik is ic ix : Nat) (rx : ByteArray) (tx : String), decode cc pc = .ok (.new ik, 3) ∧ decode cc (pc + 3) = .ok (.dup, 1) ∧ decode cc (pc + 4) = .ok (.ldc is, 2) ∧ decode cc (pc + 6) = .ok (.invokespecial ic, 3) ∧ decode cc (pc + 9) = .ok (.athrow, 1) ∧ Jvm.Cond.classLink RX6 ik E ∈ en_W ∧ Jvm.Cond.initialized E ∈ en_W ∧ (is, tx) ∈ en_str ∧ (∀ w ∈ (xs_at RX6 ic E ix rx en_nm).filter goodWord, w ∈ en_W) ∧ (∀ w ∈ (xs_at RX6 ic E ix rx en_nm).filter (fun w => !goodWord w), w ∈ en_nw) ∧ (∀ w ∈ xs_at RX6 ic E ix rx en_nm, vx_ot w = true) ∧ Bundle.fit E = true ∧ decode rx 0 = .ok (.aload_n 0, 1) ∧ decode rx 1 = .ok (.aload_n 1, 1) ∧ decode rx 2 = .ok (.invokespecial ix, 3) ∧ decode rx 5 = .ok (.return_, 1)
theorem en_fitn : ∀ n ∈ en_nm, Bundle.fit n = true := by decide +kernel
theorem en_metX {G : en_G} {h : Nat} {y : MethodName} {cc : ByteArray} {maxL : Nat} {ret : Option FieldType} {C : en_C} {XP : en_XP} {fl : Nat → Option Nat} {nw : Nat → Option (Nat × Nat)} {aw : Nat → Option Nat} {dc : Nat → Option UInt64} {ca : Nat → Option (Nat × en_C)} {xt : Nat → Option String} {rt : Nat} {ini : Bool}
    (hp : Jvm.plainName y.cls = true) (hrt : en_rtok rt ret) (hini : ini = true → y.name = "<init>") (hown : y.cls = RX6) (hlk : ∀ q qx, en_Lk RX6 (en_mkX G cc fl nw aw dc ca xt rt ini q qx)) (hcl : ∀ idx q, ca idx = some q → en_Cl G h RX6 idx q) (hh : 6 ≤ h)
    (hxt : ∀ pc E, xt pc = some E → en_thr cc pc E)
    (hJ : ∀ as σ, C.1 as σ → (en_lc as).length ≤ maxL ∧ en_J (en_mkX G cc fl nw aw dc ca xt rt ini (fun r σ' => C.2 as σ r σ') (fun E σ' => XP as σ E σ')) 0 (en_loc maxL as) [] σ) : en_OkX G h y cc maxL ret C XP := by
  intro as σ hpre
  obtain ⟨hlen, hj⟩ := hJ as σ hpre
  refine vx_ofW (cc := cc) (maxL := maxL) (ret := ret) hp rfl ?_
  intro p e s m args below meth c s₁ B hml htab hv
  obtain ⟨rfl, ⟨hH, hK, hx1, hx2⟩, hZ, hY, hst⟩ := hv
  have hts := atoms_spec (ws := en_ws y cc maxL ret) B.pre
  have hts' : ∀ w ∈ en_W, w.before (as.map en_vv).toArray s = true := fun w hw => hts w (List.mem_cons_of_mem _ hw)
  have ho : s.vm.findClass RX6 = some m.cls := by rw [← hown]; exact findClass_of_methodNamed B.named
  have hname : meth.name = y.name := (name_of_methodNamed B.named B.method).1
  have e1 := hH.2.2.1
  have e2 := hH.2.2.2.1
  rw [lg_entry_eq]
  have hlk' := hlk (fun r σ' => C.2 as σ r σ') (fun E σ' => XP as σ E σ')
  have Bx : en_Bx G h RX6 p e (en_rm G h σ) s m (as.map en_vv).toArray c (en_mkX G cc fl nw aw dc ca xt rt ini (fun r σ' => C.2 as σ r σ') (fun E σ' => XP as σ E σ')) maxL :=
    ⟨B.exec, B.bytes, hml, ho, hts', hK, hH.2.2.2.2, by rw [e1]; rfl, by rw [e2]; rfl, Nat.le_refl _, Nat.le_refl _, rfl, rfl⟩
  have Cx : en_Cx p G.1 e (en_rm G h σ) s m (as.map en_vv).toArray below meth c (vx_MQ below (en_Qc G C as σ) (en_XC G XP as σ) (as.map en_vv).toArray s (G.2.2.2.2.1 - en_nx σ) (G.2.2.2.2.2 - en_ns σ) (fun q => G.2.2.2.1 ≤ q)) RX6 (en_mkX G cc fl nw aw dc ca xt rt ini (fun r σ' => C.2 as σ r σ') (fun E σ' => XP as σ E σ')) maxL G.2.2.2.1 G.2.1 G.2.2.1 := by
    refine ⟨B.exec, B.bytes, hml, ho, hts', hK, hH.2.2.2.2, by rw [e1]; rfl, by rw [e2]; rfl, fun hq => hname.trans (hini hq), hlk', ?_, ?_, ?_, ?_⟩
    · intro b L xs hq
      exact absurd hq (fun z => by cases z)
    · intro idx q i pc ls st σ' hq hd hk h1 h2 h3 h4
      exact hcl idx q hq p e (en_rm G h σ) s m (as.map en_vv).toArray below meth c _ _ maxL Bx i pc ls st σ' hd hk h1 h2 h3 h4
    · intro i pc r σ' ls hd hqr hk H locs lsA cells slots hH' hS hx1' hx2' hl
      exact vx_ret (en_rets (ret := ret) (rt := rt) (X := en_mkX G cc fl nw aw dc ca xt rt ini (fun r σ' => C.2 as σ r σ') (fun E σ' => XP as σ E σ')) B.exec B.bytes B.returns B.notSynchronized hrt rfl rfl rfl e1 e2 i pc r σ' ls hd hqr hk H locs lsA cells slots hH' hS hx1' hx2' hl)
    · intro idx pc E σ' ls hd hq hr1 hr2 hqx H locs lsA cells slots hH' hS hx1' hx2' hl
      obtain ⟨ik, is, ic, ix, rx, tx, d0, d3, d4, d6, d9, w1, w2, w3, w4, w5, w6, w7, x0, x1, x2, x5⟩ := hxt pc E hq
      obtain ⟨sa, hsa⟩ := hY.2.1 _ w3
      have f1 : H.size = en_nx σ' := hH'.2.2.1
      have f2 : en_hs H = en_ns σ' := hH'.2.2.2.1
      have g1 : en_nx σ' + 1 ≤ G.2.2.2.2.1 := hr1
      have g2 : en_ns σ' + 6 ≤ G.2.2.2.2.2 := hr2
      have hS1 : s.heap.size ≤ H.size := hS.1
      refine W.tight (W.le (fun hle => ?_))
      refine xs_throwS (cc := cc) (own := RX6) (cls := E) (text := tx) (names := en_nm) (ik := ik) (is := is) (ic := ic) (sa := sa) (ix := ix) (rx := rx) (A := fun q => G.2.2.2.1 ≤ q) B.exec B.bytes hst x0 x1 x2 x5 ho w7 en_fitn (hts' _ w1) (hts' _ w2) hsa ?_ ?_ hZ.1 hZ.2 hS (hl.1.trans hml.symm) d0 d3 d4 d6 d9 (fun z hz => (htab z hz).elim) ?_ ?_ ?_ ?_ B.notSynchronized ?_ hS.2.2 ?_ ?_
      · refine vx_hat (B := en_nw) (fun w hw => hts' w (w4 w hw)) w5 (fun w hw => ?_)
        have h8 := hY.1 w hw
        simp only [en_nw, List.mem_cons, List.not_mem_nil, or_false] at hw
        rcases hw with rfl | rfl | rfl | rfl | rfl | rfl <;> exact va_Nw.use rfl h8
      · intro w hw
        rcases List.mem_cons.mp hw with rfl | hw
        · rfl
        · rcases List.mem_cons.mp hw with rfl | hw
          · rfl
          · exact w6 w hw
      · show 2 + 3 < h
        omega
      · show 0 + (13 * (2 + 1) + 43) ≤ 48 * h
        omega
      · show H.size - s.heap.size + 1 ≤ G.2.2.2.2.1 - en_nx σ
        omega
      · show en_hs H - en_hs s.heap + 6 ≤ G.2.2.2.2.2 - en_ns σ
        omega
      · intro t _ ht1 ht2
        exact ⟨σ', H, hqx, hH', ht1, ht2, hS.1, hS.2.1⟩
      · omega
      · omega
  exact en_sound Cx hj s.heap [] _ 0 0 hH va_S.rf hx1 hx2 (en_entry hlen)
