theorem en_ofWF {l : Launch} {y : MethodName} {ws ws' : List Jvm.Cond} {rm : Room} {Pc : Array Value → State → Prop} {Qc : Array Value → State → Outcome → State → Prop} {mc ms : Nat} {free : Addr → Prop} {cc : ByteArray} {maxL : Nat} {ret : Option FieldType}
    (hy : Jvm.plainFor y = true) (hw : ws = Jvm.Cond.code y cc maxL ret :: ws')
    (body : ∀ p e s m args below meth c s₁, BodyLoose p l y (headSpec ws rm) cc maxL ret e s m args below meth c s₁ → c.maxLocals = maxL → Pc args s →
      W p l e (headSpec ws rm).room s m args below meth c s.heap [] 0 0 (MQ below Qc args s mc ms free) (entryFrame m args maxL)) : Met l y ws rm Pc Qc mc ms free := by
  refine MetFree.of_bodySF (code := cc) (maxLocals := maxL) (ret := ret) hy ?_ ?_
  · intro args s m h hn
    obtain ⟨meth, c, h1, h2, h3, h4, h5, h6, -, -⟩ := Cond.code_spec hn (atoms_spec (ws := ws) h _ (by rw [hw]; exact List.mem_cons_self))
    exact ⟨meth, c, h1, h2, h3, h4, h5, h6⟩
  · intro p e s m args below meth c s₁ B hml hP _
    have hh0 : s₁.heap = s.heap := by rw [B.state]; rfl
    obtain ⟨t, a1, o, b1, b2, b3⟩ := body p e s m args below meth c s₁ B hml hP s₁ hh0 (Stand.of_body B)
    exact ⟨t, o, a1, b1, b2, ⟨b3.1, b3.2⟩⟩
theorem en_metF {G : en_G} {h : Nat} {y : MethodName} {cc : ByteArray} {maxL : Nat} {ret : Option FieldType} {C : en_C} {own : String} {fl : Nat → Option Nat} {nw : Nat → Option (Nat × Nat)} {aw : Nat → Option Nat} {dc : Nat → Option UInt64} {ca : Nat → Option (Nat × en_C)} {rt : Nat} {ini : Bool}
    (hp : Jvm.plainFor y = true) (hrt : en_rtok rt ret) (hini : ini = true → y.name = "<init>") (hown : y.cls = own) (hlk : ∀ q, en_Lk own (en_mk G cc fl nw aw dc ca rt ini q)) (hcl : ∀ idx q, ca idx = some q → en_Cl G h own idx q)
    (hJ : ∀ as σ, C.1 as σ → (en_lc as).length ≤ maxL ∧ en_J (en_mk G cc fl nw aw dc ca rt ini (fun r σ' => C.2 as σ r σ')) 0 (en_loc maxL as) [] σ) : en_Ok G h y cc maxL ret C := by
  intro as σ hpre
  obtain ⟨hlen, hj⟩ := hJ as σ hpre
  refine en_ofWF (cc := cc) (maxL := maxL) (ret := ret) hp rfl ?_
  intro p e s m args below meth c s₁ B hml hv
  obtain ⟨rfl, hH, hK, hx1, hx2⟩ := hv
  have hts := atoms_spec (ws := en_ws y cc maxL ret) B.pre
  have hts' : ∀ w ∈ en_W, w.before (as.map en_vv).toArray s = true := fun w hw => hts w (List.mem_cons_of_mem _ hw)
  have ho : s.vm.findClass own = some m.cls := by rw [← hown]; exact findClass_of_methodNamed B.named
  have hname : meth.name = y.name := (name_of_methodNamed B.named B.method).1
  have e1 := hH.2.2.1
  have e2 := hH.2.2.2.1
  rw [lg_entry_eq]
  have hlk' := hlk (fun r σ' => C.2 as σ r σ')
  have Bx : en_Bx G h own p e (en_rm G h σ) s m (as.map en_vv).toArray c (en_mk G cc fl nw aw dc ca rt ini (fun r σ' => C.2 as σ r σ')) maxL :=
    ⟨B.exec, B.bytes, hml, ho, hts', hK, hH.2.2.2.2, by rw [e1]; rfl, by rw [e2]; rfl, Nat.le_refl _, Nat.le_refl _, rfl, rfl⟩
  have Cx : en_Cx p G.1 e (en_rm G h σ) s m (as.map en_vv).toArray below meth c (MQ below (en_Qc G C as σ) (as.map en_vv).toArray s (G.2.2.2.2.1 - en_nx σ) (G.2.2.2.2.2 - en_ns σ) (fun q => G.2.2.2.1 ≤ q)) own (en_mk G cc fl nw aw dc ca rt ini (fun r σ' => C.2 as σ r σ')) maxL G.2.2.2.1 G.2.1 G.2.2.1 := by
    refine ⟨B.exec, B.bytes, hml, ho, hts', hK, hH.2.2.2.2, by rw [e1]; rfl, by rw [e2]; rfl, fun hq => hname.trans (hini hq), hlk', ?_, ?_, ?_, ?_⟩
    · intro b L xs hq
      exact absurd hq (fun z => by cases z)
    · intro idx q i pc ls st σ' hq hd hk h1 h2 h3 h4
      exact hcl idx q hq p e (en_rm G h σ) s m (as.map en_vv).toArray below meth c _ _ maxL Bx i pc ls st σ' hd hk h1 h2 h3 h4
    · exact en_rets (ret := ret) (rt := rt) B.exec B.bytes B.returns B.notSynchronized hrt rfl rfl rfl e1 e2
    · intro idx pc E σ' ls hd hq
      exact absurd hq (fun z => by cases z)
  exact en_sound Cx hj s.heap [] _ 0 0 hH va_S.rf hx1 hx2 (en_entry hlen)


abbrev cJ9_floorMod : ByteArray := prog_13_method_50_code
def yJ9_floorMod : MethodName := ⟨RJ9, "floorMod", "(II)I"⟩
def X_J9_floorMod (G : en_G) (q : Option en_V → en_S → Prop) : en_X := en_mk G cJ9_floorMod (en_lk []) (en_lk []) (en_lk []) (en_lk []) (en_lk []) 1 false q
theorem d_J9_floorMod_0 : decode cJ9_floorMod 0 = .ok (.iload_n 0, 1) := by decide +kernel
theorem j_J9_floorMod_0 {G : en_G} {q : Option en_V → en_S → Prop}  {l1 l2 : en_V} {x0 : Int32} {σ : en_S} : en_J (X_J9_floorMod G q) 0 [en_I x0, l1, l2] [] σ ↔ en_J (X_J9_floorMod G q) 1 [en_I x0, l1, l2] [en_I x0] σ := en_j1 d_J9_floorMod_0 rfl rfl
theorem d_J9_floorMod_1 : decode cJ9_floorMod 1 = .ok (.iload_n 1, 1) := by decide +kernel
theorem j_J9_floorMod_1 {G : en_G} {q : Option en_V → en_S → Prop}  {l0 l2 : en_V} {a0 : Int32} {x1 : Int32} {σ : en_S} : en_J (X_J9_floorMod G q) 1 [l0, en_I x1, l2] [en_I a0] σ ↔ en_J (X_J9_floorMod G q) 2 [l0, en_I x1, l2] [en_I x1, en_I a0] σ := en_j1 d_J9_floorMod_1 rfl rfl
theorem d_J9_floorMod_2 : decode cJ9_floorMod 2 = .ok (.irem, 1) := by decide +kernel
theorem j_J9_floorMod_2 {G : en_G} {q : Option en_V → en_S → Prop}  {l0 l1 l2 : en_V} {a0 : Int32} {a1 : Int32} {σ : en_S} : en_J (X_J9_floorMod G q) 2 [l0, l1, l2] [en_I a0, en_I a1] σ ↔ ¬ a0 = 0 ∧ en_J (X_J9_floorMod G q) 3 [l0, l1, l2] [en_I (a1 - a1 / a0 * a0)] σ := en_jc d_J9_floorMod_2 rfl ⟨fun h => h.2, fun h => ⟨rfl, h⟩⟩
theorem d_J9_floorMod_3 : decode cJ9_floorMod 3 = .ok (.istore_n 2, 1) := by decide +kernel
theorem j_J9_floorMod_3 {G : en_G} {q : Option en_V → en_S → Prop}  {l0 l1 l2 : en_V} {a0 : Int32} {σ : en_S} : en_J (X_J9_floorMod G q) 3 [l0, l1, l2] [en_I a0] σ ↔ en_J (X_J9_floorMod G q) 4 [l0, en_c2 l1, en_I a0] [] σ := en_j1 d_J9_floorMod_3 rfl ⟨rfl, Nat.le_of_ble_eq_true rfl⟩
theorem d_J9_floorMod_4 : decode cJ9_floorMod 4 = .ok (.iload_n 0, 1) := by decide +kernel
theorem j_J9_floorMod_4 {G : en_G} {q : Option en_V → en_S → Prop}  {l1 l2 : en_V} {x0 : Int32} {σ : en_S} : en_J (X_J9_floorMod G q) 4 [en_I x0, l1, l2] [] σ ↔ en_J (X_J9_floorMod G q) 5 [en_I x0, l1, l2] [en_I x0] σ := en_j1 d_J9_floorMod_4 rfl rfl
theorem d_J9_floorMod_5 : decode cJ9_floorMod 5 = .ok (.iload_n 1, 1) := by decide +kernel
theorem j_J9_floorMod_5 {G : en_G} {q : Option en_V → en_S → Prop}  {l0 l2 : en_V} {a0 : Int32} {x1 : Int32} {σ : en_S} : en_J (X_J9_floorMod G q) 5 [l0, en_I x1, l2] [en_I a0] σ ↔ en_J (X_J9_floorMod G q) 6 [l0, en_I x1, l2] [en_I x1, en_I a0] σ := en_j1 d_J9_floorMod_5 rfl rfl
theorem d_J9_floorMod_6 : decode cJ9_floorMod 6 = .ok (.ixor, 1) := by decide +kernel
theorem j_J9_floorMod_6 {G : en_G} {q : Option en_V → en_S → Prop}  {l0 l1 l2 : en_V} {a0 : Int32} {a1 : Int32} {σ : en_S} : en_J (X_J9_floorMod G q) 6 [l0, l1, l2] [en_I a0, en_I a1] σ ↔ en_J (X_J9_floorMod G q) 7 [l0, l1, l2] [en_I (a1 ^^^ a0)] σ := en_j1 d_J9_floorMod_6 rfl ⟨rfl, trivial⟩
theorem d_J9_floorMod_7 : decode cJ9_floorMod 7 = .ok (.ifCond .ge 11, 3) := by decide +kernel
theorem j_J9_floorMod_7 {G : en_G} {q : Option en_V → en_S → Prop}  {l0 l1 l2 : en_V} {a0 : Int32} {σ : en_S} : en_J (X_J9_floorMod G q) 7 [l0, l1, l2] [en_I a0] σ ↔ (0 ≤ a0 → en_J (X_J9_floorMod G q) 18 [l0, l1, l2] [] σ) ∧ (¬ (0 ≤ a0) → en_J (X_J9_floorMod G q) 10 [l0, l1, l2] [] σ) := en_jb d_J9_floorMod_7 rfl ⟨rfl, by decide⟩
theorem d_J9_floorMod_10 : decode cJ9_floorMod 10 = .ok (.iload_n 2, 1) := by decide +kernel
theorem j_J9_floorMod_10 {G : en_G} {q : Option en_V → en_S → Prop}  {l0 l1 : en_V} {x2 : Int32} {σ : en_S} : en_J (X_J9_floorMod G q) 10 [l0, l1, en_I x2] [] σ ↔ en_J (X_J9_floorMod G q) 11 [l0, l1, en_I x2] [en_I x2] σ := en_j1 d_J9_floorMod_10 rfl rfl
theorem d_J9_floorMod_11 : decode cJ9_floorMod 11 = .ok (.ifCond .eq 7, 3) := by decide +kernel
theorem j_J9_floorMod_11 {G : en_G} {q : Option en_V → en_S → Prop}  {l0 l1 l2 : en_V} {a0 : Int32} {σ : en_S} : en_J (X_J9_floorMod G q) 11 [l0, l1, l2] [en_I a0] σ ↔ (a0 = 0 → en_J (X_J9_floorMod G q) 18 [l0, l1, l2] [] σ) ∧ (¬ (a0 = 0) → en_J (X_J9_floorMod G q) 14 [l0, l1, l2] [] σ) := en_jb d_J9_floorMod_11 rfl ⟨rfl, by decide⟩
theorem d_J9_floorMod_14 : decode cJ9_floorMod 14 = .ok (.iload_n 2, 1) := by decide +kernel
theorem j_J9_floorMod_14 {G : en_G} {q : Option en_V → en_S → Prop}  {l0 l1 : en_V} {x2 : Int32} {σ : en_S} : en_J (X_J9_floorMod G q) 14 [l0, l1, en_I x2] [] σ ↔ en_J (X_J9_floorMod G q) 15 [l0, l1, en_I x2] [en_I x2] σ := en_j1 d_J9_floorMod_14 rfl rfl
theorem d_J9_floorMod_15 : decode cJ9_floorMod 15 = .ok (.iload_n 1, 1) := by decide +kernel
theorem j_J9_floorMod_15 {G : en_G} {q : Option en_V → en_S → Prop}  {l0 l2 : en_V} {a0 : Int32} {x1 : Int32} {σ : en_S} : en_J (X_J9_floorMod G q) 15 [l0, en_I x1, l2] [en_I a0] σ ↔ en_J (X_J9_floorMod G q) 16 [l0, en_I x1, l2] [en_I x1, en_I a0] σ := en_j1 d_J9_floorMod_15 rfl rfl
theorem d_J9_floorMod_16 : decode cJ9_floorMod 16 = .ok (.iadd, 1) := by decide +kernel
theorem j_J9_floorMod_16 {G : en_G} {q : Option en_V → en_S → Prop}  {l0 l1 l2 : en_V} {a0 : Int32} {a1 : Int32} {σ : en_S} : en_J (X_J9_floorMod G q) 16 [l0, l1, l2] [en_I a0, en_I a1] σ ↔ en_J (X_J9_floorMod G q) 17 [l0, l1, l2] [en_I (a1 + a0)] σ := en_j1 d_J9_floorMod_16 rfl ⟨rfl, trivial⟩
theorem d_J9_floorMod_17 : decode cJ9_floorMod 17 = .ok (.ireturn, 1) := by decide +kernel
theorem j_J9_floorMod_17 {G : en_G} {q : Option en_V → en_S → Prop}  {l0 l1 l2 : en_V} {a0 : Int32} {σ : en_S} : en_J (X_J9_floorMod G q) 17 [l0, l1, l2] [en_I a0] σ ↔ q (some (en_I a0)) σ := en_jr d_J9_floorMod_17 rfl ⟨fun h => h.2.2, fun h => ⟨rfl, Or.inl rfl, h⟩⟩
theorem d_J9_floorMod_18 : decode cJ9_floorMod 18 = .ok (.iload_n 2, 1) := by decide +kernel
theorem j_J9_floorMod_18 {G : en_G} {q : Option en_V → en_S → Prop}  {l0 l1 : en_V} {x2 : Int32} {σ : en_S} : en_J (X_J9_floorMod G q) 18 [l0, l1, en_I x2] [] σ ↔ en_J (X_J9_floorMod G q) 19 [l0, l1, en_I x2] [en_I x2] σ := en_j1 d_J9_floorMod_18 rfl rfl
theorem d_J9_floorMod_19 : decode cJ9_floorMod 19 = .ok (.ireturn, 1) := by decide +kernel
theorem j_J9_floorMod_19 {G : en_G} {q : Option en_V → en_S → Prop}  {l0 l1 l2 : en_V} {a0 : Int32} {σ : en_S} : en_J (X_J9_floorMod G q) 19 [l0, l1, l2] [en_I a0] σ ↔ q (some (en_I a0)) σ := en_jr d_J9_floorMod_19 rfl ⟨fun h => h.2.2, fun h => ⟨rfl, Or.inl rfl, h⟩⟩
theorem wc_J9_floorMod : Jvm.Cond.code yJ9_floorMod cJ9_floorMod 3 (some .int) ∈ en_W := en_inW (List.mem_of_getElem? (i := 432) (by decide +kernel)) (by decide +kernel)
theorem ws_J9_floorMod : Jvm.Cond.static yJ9_floorMod ∈ en_W := en_inW (List.mem_of_getElem? (i := 431) (by decide +kernel)) (by decide +kernel)
theorem wz_J9_floorMod : Jvm.Cond.initialized RJ9 ∈ en_W := en_inW (List.mem_of_getElem? (i := 54) (by decide +kernel)) (by decide +kernel)
def C_J9_floorMod : en_C := (fun as _ => ∃ a : Nat, as = [en_I (nI a), en_I 32] ∧ a < 2 ^ 31, fun as σ r σ' => ∃ a : Nat, as = [en_I (nI a), en_I 32] ∧ a < 2 ^ 31 ∧ σ' = σ ∧ r = some (en_I (nI (a % 32))))
theorem pr_J9_floorMod : ∀ as σ, C_J9_floorMod.1 as σ → as.length = 2 := fun as σ ⟨a, h1, _⟩ => by rw [h1]; rfl
theorem en_x32 {a : Nat} (h : a < 2 ^ 31) : 0 ≤ nI a ^^^ 32 := by
  have e : nI a ^^^ 32 = nI (a ^^^ 32) := by
    apply Int32.toBitVec_inj.mp
    apply BitVec.eq_of_toNat_eq
    simp [nI]
  rw [e]
  exact Int32.not_lt.mp (nI_pos (Nat.xor_lt_two_pow h (by decide)))
theorem jp_J9_floorMod {G : en_G} : ∀ as σ, C_J9_floorMod.1 as σ → (en_lc as).length ≤ 3 ∧ en_J (X_J9_floorMod G (fun r σ' => C_J9_floorMod.2 as σ r σ')) 0 (en_loc 3 as) [] σ := by
  rintro as σ ⟨a, rfl, ha⟩
  refine ⟨Nat.le_of_ble_eq_true rfl, ?_⟩
  show en_J _ 0 [en_I (nI a), en_I 32, en_U] [] σ
  have e1 : nI a - nI a / 32 * 32 = nI (a % 32) := by
    have := pk_rem (a := a) (d := 32) ha (by decide) (by decide)
    rw [show (32 : Int32) = nI 32 from by decide +kernel]
    exact this
  have e2 := en_x32 ha
  have e3 : ¬ (32 : Int32) = 0 := by decide
  simp only [j_J9_floorMod_0, j_J9_floorMod_1, j_J9_floorMod_2, j_J9_floorMod_3, j_J9_floorMod_4, j_J9_floorMod_5, j_J9_floorMod_6, j_J9_floorMod_7, j_J9_floorMod_10, j_J9_floorMod_11, j_J9_floorMod_14, j_J9_floorMod_15, j_J9_floorMod_16, j_J9_floorMod_17, j_J9_floorMod_18, j_J9_floorMod_19, en_c2I, en_c2R, en_c2U, en_c2D, Option.some.injEq, exists_eq_left', exists_eq_left, Option.map_some, Option.map_none, not_true_eq_false, false_implies, true_implies, and_true, true_and, reduceCtorEq, not_false_eq_true, e1, e2, e3]
  exact ⟨a, rfl, ha, rfl, rfl⟩
theorem ok_J9_floorMod {G : en_G} : en_Ok G 1 yJ9_floorMod cJ9_floorMod 3 (some .int) C_J9_floorMod :=
  en_metF (own := RJ9) (fl := en_lk []) (nw := en_lk []) (aw := en_lk []) (dc := en_lk []) (ca := en_lk []) (rt := 1) (ini := false) (by decide +kernel) (Or.inr (Or.inl ⟨rfl, rfl⟩)) (fun h => by cases h) rfl (fun q => en_LkF (fun q hq => by cases hq) (fun q hq => by cases hq) (fun q hq => by cases hq) (fun q hq => by cases hq)) (fun idx q hq => by cases hq) jp_J9_floorMod
def C_X1_startOf : en_C := (fun as σ => ∃ (a : Nat), as = [en_I (nI a)] ∧ a < 2 ^ 31, fun as σ r σ' => ∃ (a : Nat), as = [en_I (nI a)] ∧ (σ' = σ ∧ a < 2 ^ 31 ∧ r = some (en_I (nI (a % 32 * 5)))))
theorem pr_X1_startOf : ∀ as σ, C_X1_startOf.1 as σ → as.length = 1 := fun as σ ⟨a, h1, h2⟩ => by rw [h1]; rfl
def ca_X1_startOf (G : en_G) : List (Nat × Nat × en_C) := [(23, 8, C_J9_floorMod)]
def X_X1_startOf (G : en_G) (q : Option en_V → en_S → Prop) : en_X := en_mk G cX1_startOf (en_lk fl1) (en_lk nw1) (en_lk aw1) (en_lk dc1) (en_lk (ca_X1_startOf G)) 1 false q
theorem d_X1_startOf_0 : decode cX1_startOf 0 = .ok (.iload_n 0, 1) := by decide +kernel
theorem j_X1_startOf_0 {G : en_G} {q : Option en_V → en_S → Prop}  {x0 : Int32} {σ : en_S} : en_J (X_X1_startOf G q) 0 [en_I x0] [] σ ↔ en_J (X_X1_startOf G q) 1 [en_I x0] [en_I x0] σ := en_j1 d_X1_startOf_0 rfl rfl
theorem d_X1_startOf_1 : decode cX1_startOf 1 = .ok (.bipush 32, 2) := by decide +kernel
theorem j_X1_startOf_1 {G : en_G} {q : Option en_V → en_S → Prop}  {l0 : en_V} {a0 : Int32} {σ : en_S} : en_J (X_X1_startOf G q) 1 [l0] [en_I a0] σ ↔ en_J (X_X1_startOf G q) 3 [l0] [en_I 32, en_I a0] σ := ej_bipush d_X1_startOf_1 (by decide +kernel)
theorem d_X1_startOf_3 : decode cX1_startOf 3 = .ok (.invokestatic 23, 3) := by decide +kernel
theorem j_X1_startOf_3 {G : en_G} {q : Option en_V → en_S → Prop}  {l0 : en_V} {a0 : Int32} {a1 : Int32} {σ : en_S} : en_J (X_X1_startOf G q) 3 [l0] [en_I a0, en_I a1] σ ↔ C_J9_floorMod.1 [en_I a1, en_I a0] σ ∧ ∀ (r : Option en_V) (σ' : en_S), C_J9_floorMod.2 [en_I a1, en_I a0] σ r σ' → en_J (X_X1_startOf G q) 6 [l0] (r.toList ++ []) σ' := en_jk d_X1_startOf_3 rfl ⟨fun h => h.2.2.2.2, fun h => ⟨rfl, rfl, Nat.le_of_ble_eq_true rfl, Nat.le_of_ble_eq_true rfl, h⟩⟩
theorem d_X1_startOf_6 : decode cX1_startOf 6 = .ok (.iconst 5, 1) := by decide +kernel
theorem j_X1_startOf_6 {G : en_G} {q : Option en_V → en_S → Prop}  {l0 : en_V} {a0 : Int32} {σ : en_S} : en_J (X_X1_startOf G q) 6 [l0] [en_I a0] σ ↔ en_J (X_X1_startOf G q) 7 [l0] [en_I 5, en_I a0] σ := ej_iconst d_X1_startOf_6 (by decide +kernel)
theorem d_X1_startOf_7 : decode cX1_startOf 7 = .ok (.imul, 1) := by decide +kernel
theorem j_X1_startOf_7 {G : en_G} {q : Option en_V → en_S → Prop}  {l0 : en_V} {a0 : Int32} {a1 : Int32} {σ : en_S} : en_J (X_X1_startOf G q) 7 [l0] [en_I a0, en_I a1] σ ↔ en_J (X_X1_startOf G q) 8 [l0] [en_I (a1 * a0)] σ := en_j1 d_X1_startOf_7 rfl ⟨rfl, trivial⟩
theorem d_X1_startOf_8 : decode cX1_startOf 8 = .ok (.ireturn, 1) := by decide +kernel
theorem j_X1_startOf_8 {G : en_G} {q : Option en_V → en_S → Prop}  {l0 : en_V} {a0 : Int32} {σ : en_S} : en_J (X_X1_startOf G q) 8 [l0] [en_I a0] σ ↔ q (some (en_I a0)) σ := en_jr d_X1_startOf_8 rfl ⟨fun h => h.2.2, fun h => ⟨rfl, Or.inl rfl, h⟩⟩
theorem wc_X1_startOf : Jvm.Cond.code yX1_startOf cX1_startOf 1 (some .int) ∈ en_W := en_inW (List.mem_of_getElem? (i := 429) (by decide +kernel)) (by decide +kernel)
theorem ws_X1_startOf : Jvm.Cond.static yX1_startOf ∈ en_W := en_inW (List.mem_of_getElem? (i := 428) (by decide +kernel)) (by decide +kernel)
theorem jp_X1_startOf {G : en_G} : ∀ as σ, C_X1_startOf.1 as σ → (en_lc as).length ≤ 1 ∧ en_J (X_X1_startOf G (fun r σ' => C_X1_startOf.2 as σ r σ')) 0 (en_loc 1 as) [] σ := by
  rintro as σ ⟨a, rfl, hc⟩
  refine ⟨Nat.le_of_ble_eq_true rfl, ?_⟩
  show en_J _ 0 [en_I (nI a)] [] σ
  simp only [j_X1_startOf_0, j_X1_startOf_1, j_X1_startOf_3]
  refine ⟨⟨a, rfl, hc⟩, ?_⟩
  rintro r σ' ⟨b, hb, hb2, rfl, rfl⟩
  simp only [List.cons.injEq, en_Iinj, and_true] at hb
  have := nI_inj hc hb2 hb
  subst this
  have e5 : nI (a % 32) * 5 = nI (a % 32 * 5) := by rw [show (5 : Int32) = nI 5 from by decide +kernel]; exact pk_mul _ _
  simp only [Option.toList, List.cons_append, List.nil_append, j_X1_startOf_0, j_X1_startOf_1, j_X1_startOf_3, j_X1_startOf_6, j_X1_startOf_7, j_X1_startOf_8, en_c2I, en_c2R, en_c2U, en_c2D, Option.some.injEq, exists_eq_left', exists_eq_left, Option.map_some, Option.map_none, not_true_eq_false, false_implies, true_implies, and_true, true_and, reduceCtorEq, not_false_eq_true, e5]
  exact ⟨a, rfl, rfl, hc, rfl⟩
theorem wl_X1_startOf_23 : Jvm.Cond.methodLink RX1 23 yJ9_floorMod ∈ en_W := en_inW (List.mem_of_getElem? (i := 430) (by decide +kernel)) (by decide +kernel)
theorem ok_X1_startOf {G : en_G}  : en_Ok G 2 yX1_startOf cX1_startOf 1 (some .int) C_X1_startOf :=
  en_met (own := RX1) (fl := en_lk fl1) (nw := en_lk nw1) (aw := en_lk aw1) (dc := en_lk dc1) (ca := en_lk (ca_X1_startOf G)) (rt := 1) (ini := false) (by decide +kernel) (Or.inr (Or.inl ⟨rfl, rfl⟩)) (fun h => by cases h) rfl (fun q => en_LkF fl1_ok nw1_ok aw1_ok dc1_ok) (by
    intro idx q hq
    have hm := en_lk_mem hq
    simp only [ca_X1_startOf, List.mem_cons, Prod.mk.injEq, List.not_mem_nil, or_false] at hm
    rcases hm with ⟨rfl, rfl⟩
    · exact en_clS 2 ok_J9_floorMod (by decide) (by decide) pr_J9_floorMod wl_X1_startOf_23 ws_J9_floorMod wz_J9_floorMod wc_J9_floorMod ⟨by decide +kernel, by decide +kernel, by decide +kernel⟩) jp_X1_startOf
def C_X1_write : en_C := (fun as σ => ∃ (a f c : Nat) (x1 x2 x3 x4 x5 : Int32), as = [en_R (some a), en_I x1, en_I x2, en_I x3, en_I x4, en_I x5] ∧ en_cl σ a = some 1 ∧ en_fr σ 100 a = some f ∧ en_al σ f = some (0, 160) ∧ en_fi σ 101 a = nI c ∧ c < 2 ^ 30, fun as σ r σ' => ∃ (a f c : Nat) (x1 x2 x3 x4 x5 : Int32), as = [en_R (some a), en_I x1, en_I x2, en_I x3, en_I x4, en_I x5] ∧ (en_fr σ 100 a = some f ∧ en_fi σ 101 a = nI c ∧ c < 2 ^ 30 ∧ r = none ∧ σ' = en_sfi (en_sai (en_sai (en_sai (en_sai (en_sai σ f (c % 32 * 5) x1) f (c % 32 * 5 + 1) x2) f (c % 32 * 5 + 2) x3) f (c % 32 * 5 + 3) x4) f (c % 32 * 5 + 4) x5) 101 a (nI (c + 1))))
theorem pr_X1_write : ∀ as σ, C_X1_write.1 as σ → ∃ b tl, as = en_R (some b) :: tl ∧ en_cl σ b = some 1 ∧ tl.length = 5 := fun as σ ⟨a, f, c, x1, x2, x3, x4, x5, h1, h2⟩ => ⟨_, _, h1, h2.1, rfl⟩
def ca_X1_write (G : en_G) : List (Nat × Nat × en_C) := [(19, 4, C_X1_startOf)]
def X_X1_write (G : en_G) (q : Option en_V → en_S → Prop) : en_X := en_mk G cX1_write (en_lk fl1) (en_lk nw1) (en_lk aw1) (en_lk dc1) (en_lk (ca_X1_write G)) 0 false q
theorem d_X1_write_0 : decode cX1_write 0 = .ok (.aload_n 0, 1) := by decide +kernel
theorem j_X1_write_0 {G : en_G} {q : Option en_V → en_S → Prop}  {l1 l2 l3 l4 l5 l6 : en_V} {x0 : Option Nat} {σ : en_S} : en_J (X_X1_write G q) 0 [en_R x0, l1, l2, l3, l4, l5, l6] [] σ ↔ en_J (X_X1_write G q) 1 [en_R x0, l1, l2, l3, l4, l5, l6] [en_R x0] σ := en_j1 d_X1_write_0 rfl rfl
theorem d_X1_write_1 : decode cX1_write 1 = .ok (.getfield 15, 3) := by decide +kernel
theorem j_X1_write_1 {G : en_G} {q : Option en_V → en_S → Prop}  {l0 l1 l2 l3 l4 l5 l6 : en_V} {a0 : Option Nat} {σ : en_S} : en_J (X_X1_write G q) 1 [l0, l1, l2, l3, l4, l5, l6] [en_R a0] σ ↔ ∃ a, a0 = some a ∧ en_cl σ a = some 1 ∧ en_J (X_X1_write G q) 4 [l0, l1, l2, l3, l4, l5, l6] [en_I (en_fi σ 101 a)] σ := en_jg (st := fun o => [en_R o]) (st' := fun a => [en_I (en_fi σ 101 a)]) (σ' := fun _ => σ) d_X1_write_1 rfl (fun a => rfl) (fun a => ⟨fun h => h.2, fun h => ⟨rfl, h⟩⟩)
theorem d_X1_write_4 : decode cX1_write 4 = .ok (.invokestatic 19, 3) := by decide +kernel
theorem j_X1_write_4 {G : en_G} {q : Option en_V → en_S → Prop}  {l0 l1 l2 l3 l4 l5 l6 : en_V} {a0 : Int32} {σ : en_S} : en_J (X_X1_write G q) 4 [l0, l1, l2, l3, l4, l5, l6] [en_I a0] σ ↔ C_X1_startOf.1 [en_I a0] σ ∧ ∀ (r : Option en_V) (σ' : en_S), C_X1_startOf.2 [en_I a0] σ r σ' → en_J (X_X1_write G q) 7 [l0, l1, l2, l3, l4, l5, l6] (r.toList ++ []) σ' := en_jk d_X1_write_4 rfl ⟨fun h => h.2.2.2.2, fun h => ⟨rfl, rfl, Nat.le_of_ble_eq_true rfl, Nat.le_of_ble_eq_true rfl, h⟩⟩
theorem d_X1_write_7 : decode cX1_write 7 = .ok (.istore 6, 2) := by decide +kernel
theorem j_X1_write_7 {G : en_G} {q : Option en_V → en_S → Prop}  {l0 l1 l2 l3 l4 l5 l6 : en_V} {a0 : Int32} {σ : en_S} : en_J (X_X1_write G q) 7 [l0, l1, l2, l3, l4, l5, l6] [en_I a0] σ ↔ en_J (X_X1_write G q) 9 [l0, l1, l2, l3, l4, en_c2 l5, en_I a0] [] σ := en_j1 d_X1_write_7 rfl ⟨rfl, Nat.le_of_ble_eq_true rfl⟩
theorem d_X1_write_9 : decode cX1_write 9 = .ok (.aload_n 0, 1) := by decide +kernel
theorem j_X1_write_9 {G : en_G} {q : Option en_V → en_S → Prop}  {l1 l2 l3 l4 l5 l6 : en_V} {x0 : Option Nat} {σ : en_S} : en_J (X_X1_write G q) 9 [en_R x0, l1, l2, l3, l4, l5, l6] [] σ ↔ en_J (X_X1_write G q) 10 [en_R x0, l1, l2, l3, l4, l5, l6] [en_R x0] σ := en_j1 d_X1_write_9 rfl rfl
theorem d_X1_write_10 : decode cX1_write 10 = .ok (.getfield 9, 3) := by decide +kernel
theorem j_X1_write_10 {G : en_G} {q : Option en_V → en_S → Prop}  {l0 l1 l2 l3 l4 l5 l6 : en_V} {a0 : Option Nat} {σ : en_S} : en_J (X_X1_write G q) 10 [l0, l1, l2, l3, l4, l5, l6] [en_R a0] σ ↔ ∃ a, a0 = some a ∧ en_cl σ a = some 1 ∧ en_J (X_X1_write G q) 13 [l0, l1, l2, l3, l4, l5, l6] [en_R (en_fr σ 100 a)] σ := en_jg (st := fun o => [en_R o]) (st' := fun a => [en_R (en_fr σ 100 a)]) (σ' := fun _ => σ) d_X1_write_10 rfl (fun a => rfl) (fun a => ⟨fun h => h.2, fun h => ⟨rfl, h⟩⟩)
theorem d_X1_write_13 : decode cX1_write 13 = .ok (.iload 6, 2) := by decide +kernel
theorem j_X1_write_13 {G : en_G} {q : Option en_V → en_S → Prop}  {l0 l1 l2 l3 l4 l5 : en_V} {a0 : Option Nat} {x6 : Int32} {σ : en_S} : en_J (X_X1_write G q) 13 [l0, l1, l2, l3, l4, l5, en_I x6] [en_R a0] σ ↔ en_J (X_X1_write G q) 15 [l0, l1, l2, l3, l4, l5, en_I x6] [en_I x6, en_R a0] σ := en_j1 d_X1_write_13 rfl rfl
theorem d_X1_write_15 : decode cX1_write 15 = .ok (.iload_n 1, 1) := by decide +kernel
theorem j_X1_write_15 {G : en_G} {q : Option en_V → en_S → Prop}  {l0 l2 l3 l4 l5 l6 : en_V} {a0 : Int32} {a1 : Option Nat} {x1 : Int32} {σ : en_S} : en_J (X_X1_write G q) 15 [l0, en_I x1, l2, l3, l4, l5, l6] [en_I a0, en_R a1] σ ↔ en_J (X_X1_write G q) 16 [l0, en_I x1, l2, l3, l4, l5, l6] [en_I x1, en_I a0, en_R a1] σ := en_j1 d_X1_write_15 rfl rfl
theorem d_X1_write_16 : decode cX1_write 16 = .ok (.iastore, 1) := by decide +kernel
theorem j_X1_write_16 {G : en_G} {q : Option en_V → en_S → Prop}  {l0 l1 l2 l3 l4 l5 l6 : en_V} {a0 : Int32} {a1 : Int32} {a2 : Option Nat} {σ : en_S} : en_J (X_X1_write G q) 16 [l0, l1, l2, l3, l4, l5, l6] [en_I a0, en_I a1, en_R a2] σ ↔ ∃ a, a2 = some a ∧ (∃ k, en_al σ a = some (0, k) ∧ vp_in a1 k) ∧ en_J (X_X1_write G q) 17 [l0, l1, l2, l3, l4, l5, l6] [] (en_sai σ a a1.toNatClampNeg a0) := ej_iastore d_X1_write_16
theorem d_X1_write_17 : decode cX1_write 17 = .ok (.aload_n 0, 1) := by decide +kernel
theorem j_X1_write_17 {G : en_G} {q : Option en_V → en_S → Prop}  {l1 l2 l3 l4 l5 l6 : en_V} {x0 : Option Nat} {σ : en_S} : en_J (X_X1_write G q) 17 [en_R x0, l1, l2, l3, l4, l5, l6] [] σ ↔ en_J (X_X1_write G q) 18 [en_R x0, l1, l2, l3, l4, l5, l6] [en_R x0] σ := en_j1 d_X1_write_17 rfl rfl
theorem d_X1_write_18 : decode cX1_write 18 = .ok (.getfield 9, 3) := by decide +kernel
theorem j_X1_write_18 {G : en_G} {q : Option en_V → en_S → Prop}  {l0 l1 l2 l3 l4 l5 l6 : en_V} {a0 : Option Nat} {σ : en_S} : en_J (X_X1_write G q) 18 [l0, l1, l2, l3, l4, l5, l6] [en_R a0] σ ↔ ∃ a, a0 = some a ∧ en_cl σ a = some 1 ∧ en_J (X_X1_write G q) 21 [l0, l1, l2, l3, l4, l5, l6] [en_R (en_fr σ 100 a)] σ := en_jg (st := fun o => [en_R o]) (st' := fun a => [en_R (en_fr σ 100 a)]) (σ' := fun _ => σ) d_X1_write_18 rfl (fun a => rfl) (fun a => ⟨fun h => h.2, fun h => ⟨rfl, h⟩⟩)
theorem d_X1_write_21 : decode cX1_write 21 = .ok (.iload 6, 2) := by decide +kernel
theorem j_X1_write_21 {G : en_G} {q : Option en_V → en_S → Prop}  {l0 l1 l2 l3 l4 l5 : en_V} {a0 : Option Nat} {x6 : Int32} {σ : en_S} : en_J (X_X1_write G q) 21 [l0, l1, l2, l3, l4, l5, en_I x6] [en_R a0] σ ↔ en_J (X_X1_write G q) 23 [l0, l1, l2, l3, l4, l5, en_I x6] [en_I x6, en_R a0] σ := en_j1 d_X1_write_21 rfl rfl
theorem d_X1_write_23 : decode cX1_write 23 = .ok (.iconst 1, 1) := by decide +kernel
theorem j_X1_write_23 {G : en_G} {q : Option en_V → en_S → Prop}  {l0 l1 l2 l3 l4 l5 l6 : en_V} {a0 : Int32} {a1 : Option Nat} {σ : en_S} : en_J (X_X1_write G q) 23 [l0, l1, l2, l3, l4, l5, l6] [en_I a0, en_R a1] σ ↔ en_J (X_X1_write G q) 24 [l0, l1, l2, l3, l4, l5, l6] [en_I 1, en_I a0, en_R a1] σ := ej_iconst d_X1_write_23 (by decide +kernel)
theorem d_X1_write_24 : decode cX1_write 24 = .ok (.iadd, 1) := by decide +kernel
theorem j_X1_write_24 {G : en_G} {q : Option en_V → en_S → Prop}  {l0 l1 l2 l3 l4 l5 l6 : en_V} {a0 : Int32} {a1 : Int32} {a2 : Option Nat} {σ : en_S} : en_J (X_X1_write G q) 24 [l0, l1, l2, l3, l4, l5, l6] [en_I a0, en_I a1, en_R a2] σ ↔ en_J (X_X1_write G q) 25 [l0, l1, l2, l3, l4, l5, l6] [en_I (a1 + a0), en_R a2] σ := en_j1 d_X1_write_24 rfl ⟨rfl, trivial⟩
theorem d_X1_write_25 : decode cX1_write 25 = .ok (.iload_n 2, 1) := by decide +kernel
theorem j_X1_write_25 {G : en_G} {q : Option en_V → en_S → Prop}  {l0 l1 l3 l4 l5 l6 : en_V} {a0 : Int32} {a1 : Option Nat} {x2 : Int32} {σ : en_S} : en_J (X_X1_write G q) 25 [l0, l1, en_I x2, l3, l4, l5, l6] [en_I a0, en_R a1] σ ↔ en_J (X_X1_write G q) 26 [l0, l1, en_I x2, l3, l4, l5, l6] [en_I x2, en_I a0, en_R a1] σ := en_j1 d_X1_write_25 rfl rfl
theorem d_X1_write_26 : decode cX1_write 26 = .ok (.iastore, 1) := by decide +kernel
theorem j_X1_write_26 {G : en_G} {q : Option en_V → en_S → Prop}  {l0 l1 l2 l3 l4 l5 l6 : en_V} {a0 : Int32} {a1 : Int32} {a2 : Option Nat} {σ : en_S} : en_J (X_X1_write G q) 26 [l0, l1, l2, l3, l4, l5, l6] [en_I a0, en_I a1, en_R a2] σ ↔ ∃ a, a2 = some a ∧ (∃ k, en_al σ a = some (0, k) ∧ vp_in a1 k) ∧ en_J (X_X1_write G q) 27 [l0, l1, l2, l3, l4, l5, l6] [] (en_sai σ a a1.toNatClampNeg a0) := ej_iastore d_X1_write_26
theorem d_X1_write_27 : decode cX1_write 27 = .ok (.aload_n 0, 1) := by decide +kernel
theorem j_X1_write_27 {G : en_G} {q : Option en_V → en_S → Prop}  {l1 l2 l3 l4 l5 l6 : en_V} {x0 : Option Nat} {σ : en_S} : en_J (X_X1_write G q) 27 [en_R x0, l1, l2, l3, l4, l5, l6] [] σ ↔ en_J (X_X1_write G q) 28 [en_R x0, l1, l2, l3, l4, l5, l6] [en_R x0] σ := en_j1 d_X1_write_27 rfl rfl
theorem d_X1_write_28 : decode cX1_write 28 = .ok (.getfield 9, 3) := by decide +kernel
theorem j_X1_write_28 {G : en_G} {q : Option en_V → en_S → Prop}  {l0 l1 l2 l3 l4 l5 l6 : en_V} {a0 : Option Nat} {σ : en_S} : en_J (X_X1_write G q) 28 [l0, l1, l2, l3, l4, l5, l6] [en_R a0] σ ↔ ∃ a, a0 = some a ∧ en_cl σ a = some 1 ∧ en_J (X_X1_write G q) 31 [l0, l1, l2, l3, l4, l5, l6] [en_R (en_fr σ 100 a)] σ := en_jg (st := fun o => [en_R o]) (st' := fun a => [en_R (en_fr σ 100 a)]) (σ' := fun _ => σ) d_X1_write_28 rfl (fun a => rfl) (fun a => ⟨fun h => h.2, fun h => ⟨rfl, h⟩⟩)
theorem d_X1_write_31 : decode cX1_write 31 = .ok (.iload 6, 2) := by decide +kernel
theorem j_X1_write_31 {G : en_G} {q : Option en_V → en_S → Prop}  {l0 l1 l2 l3 l4 l5 : en_V} {a0 : Option Nat} {x6 : Int32} {σ : en_S} : en_J (X_X1_write G q) 31 [l0, l1, l2, l3, l4, l5, en_I x6] [en_R a0] σ ↔ en_J (X_X1_write G q) 33 [l0, l1, l2, l3, l4, l5, en_I x6] [en_I x6, en_R a0] σ := en_j1 d_X1_write_31 rfl rfl
theorem d_X1_write_33 : decode cX1_write 33 = .ok (.iconst 2, 1) := by decide +kernel
theorem j_X1_write_33 {G : en_G} {q : Option en_V → en_S → Prop}  {l0 l1 l2 l3 l4 l5 l6 : en_V} {a0 : Int32} {a1 : Option Nat} {σ : en_S} : en_J (X_X1_write G q) 33 [l0, l1, l2, l3, l4, l5, l6] [en_I a0, en_R a1] σ ↔ en_J (X_X1_write G q) 34 [l0, l1, l2, l3, l4, l5, l6] [en_I 2, en_I a0, en_R a1] σ := ej_iconst d_X1_write_33 (by decide +kernel)
theorem d_X1_write_34 : decode cX1_write 34 = .ok (.iadd, 1) := by decide +kernel
theorem j_X1_write_34 {G : en_G} {q : Option en_V → en_S → Prop}  {l0 l1 l2 l3 l4 l5 l6 : en_V} {a0 : Int32} {a1 : Int32} {a2 : Option Nat} {σ : en_S} : en_J (X_X1_write G q) 34 [l0, l1, l2, l3, l4, l5, l6] [en_I a0, en_I a1, en_R a2] σ ↔ en_J (X_X1_write G q) 35 [l0, l1, l2, l3, l4, l5, l6] [en_I (a1 + a0), en_R a2] σ := en_j1 d_X1_write_34 rfl ⟨rfl, trivial⟩
theorem d_X1_write_35 : decode cX1_write 35 = .ok (.iload_n 3, 1) := by decide +kernel
theorem j_X1_write_35 {G : en_G} {q : Option en_V → en_S → Prop}  {l0 l1 l2 l4 l5 l6 : en_V} {a0 : Int32} {a1 : Option Nat} {x3 : Int32} {σ : en_S} : en_J (X_X1_write G q) 35 [l0, l1, l2, en_I x3, l4, l5, l6] [en_I a0, en_R a1] σ ↔ en_J (X_X1_write G q) 36 [l0, l1, l2, en_I x3, l4, l5, l6] [en_I x3, en_I a0, en_R a1] σ := en_j1 d_X1_write_35 rfl rfl
theorem d_X1_write_36 : decode cX1_write 36 = .ok (.iastore, 1) := by decide +kernel
theorem j_X1_write_36 {G : en_G} {q : Option en_V → en_S → Prop}  {l0 l1 l2 l3 l4 l5 l6 : en_V} {a0 : Int32} {a1 : Int32} {a2 : Option Nat} {σ : en_S} : en_J (X_X1_write G q) 36 [l0, l1, l2, l3, l4, l5, l6] [en_I a0, en_I a1, en_R a2] σ ↔ ∃ a, a2 = some a ∧ (∃ k, en_al σ a = some (0, k) ∧ vp_in a1 k) ∧ en_J (X_X1_write G q) 37 [l0, l1, l2, l3, l4, l5, l6] [] (en_sai σ a a1.toNatClampNeg a0) := ej_iastore d_X1_write_36
theorem d_X1_write_37 : decode cX1_write 37 = .ok (.aload_n 0, 1) := by decide +kernel
theorem j_X1_write_37 {G : en_G} {q : Option en_V → en_S → Prop}  {l1 l2 l3 l4 l5 l6 : en_V} {x0 : Option Nat} {σ : en_S} : en_J (X_X1_write G q) 37 [en_R x0, l1, l2, l3, l4, l5, l6] [] σ ↔ en_J (X_X1_write G q) 38 [en_R x0, l1, l2, l3, l4, l5, l6] [en_R x0] σ := en_j1 d_X1_write_37 rfl rfl
theorem d_X1_write_38 : decode cX1_write 38 = .ok (.getfield 9, 3) := by decide +kernel
theorem j_X1_write_38 {G : en_G} {q : Option en_V → en_S → Prop}  {l0 l1 l2 l3 l4 l5 l6 : en_V} {a0 : Option Nat} {σ : en_S} : en_J (X_X1_write G q) 38 [l0, l1, l2, l3, l4, l5, l6] [en_R a0] σ ↔ ∃ a, a0 = some a ∧ en_cl σ a = some 1 ∧ en_J (X_X1_write G q) 41 [l0, l1, l2, l3, l4, l5, l6] [en_R (en_fr σ 100 a)] σ := en_jg (st := fun o => [en_R o]) (st' := fun a => [en_R (en_fr σ 100 a)]) (σ' := fun _ => σ) d_X1_write_38 rfl (fun a => rfl) (fun a => ⟨fun h => h.2, fun h => ⟨rfl, h⟩⟩)
theorem d_X1_write_41 : decode cX1_write 41 = .ok (.iload 6, 2) := by decide +kernel
theorem j_X1_write_41 {G : en_G} {q : Option en_V → en_S → Prop}  {l0 l1 l2 l3 l4 l5 : en_V} {a0 : Option Nat} {x6 : Int32} {σ : en_S} : en_J (X_X1_write G q) 41 [l0, l1, l2, l3, l4, l5, en_I x6] [en_R a0] σ ↔ en_J (X_X1_write G q) 43 [l0, l1, l2, l3, l4, l5, en_I x6] [en_I x6, en_R a0] σ := en_j1 d_X1_write_41 rfl rfl
theorem d_X1_write_43 : decode cX1_write 43 = .ok (.iconst 3, 1) := by decide +kernel
theorem j_X1_write_43 {G : en_G} {q : Option en_V → en_S → Prop}  {l0 l1 l2 l3 l4 l5 l6 : en_V} {a0 : Int32} {a1 : Option Nat} {σ : en_S} : en_J (X_X1_write G q) 43 [l0, l1, l2, l3, l4, l5, l6] [en_I a0, en_R a1] σ ↔ en_J (X_X1_write G q) 44 [l0, l1, l2, l3, l4, l5, l6] [en_I 3, en_I a0, en_R a1] σ := ej_iconst d_X1_write_43 (by decide +kernel)
theorem d_X1_write_44 : decode cX1_write 44 = .ok (.iadd, 1) := by decide +kernel
theorem j_X1_write_44 {G : en_G} {q : Option en_V → en_S → Prop}  {l0 l1 l2 l3 l4 l5 l6 : en_V} {a0 : Int32} {a1 : Int32} {a2 : Option Nat} {σ : en_S} : en_J (X_X1_write G q) 44 [l0, l1, l2, l3, l4, l5, l6] [en_I a0, en_I a1, en_R a2] σ ↔ en_J (X_X1_write G q) 45 [l0, l1, l2, l3, l4, l5, l6] [en_I (a1 + a0), en_R a2] σ := en_j1 d_X1_write_44 rfl ⟨rfl, trivial⟩
theorem d_X1_write_45 : decode cX1_write 45 = .ok (.iload 4, 2) := by decide +kernel
theorem j_X1_write_45 {G : en_G} {q : Option en_V → en_S → Prop}  {l0 l1 l2 l3 l5 l6 : en_V} {a0 : Int32} {a1 : Option Nat} {x4 : Int32} {σ : en_S} : en_J (X_X1_write G q) 45 [l0, l1, l2, l3, en_I x4, l5, l6] [en_I a0, en_R a1] σ ↔ en_J (X_X1_write G q) 47 [l0, l1, l2, l3, en_I x4, l5, l6] [en_I x4, en_I a0, en_R a1] σ := en_j1 d_X1_write_45 rfl rfl
theorem d_X1_write_47 : decode cX1_write 47 = .ok (.iastore, 1) := by decide +kernel
theorem j_X1_write_47 {G : en_G} {q : Option en_V → en_S → Prop}  {l0 l1 l2 l3 l4 l5 l6 : en_V} {a0 : Int32} {a1 : Int32} {a2 : Option Nat} {σ : en_S} : en_J (X_X1_write G q) 47 [l0, l1, l2, l3, l4, l5, l6] [en_I a0, en_I a1, en_R a2] σ ↔ ∃ a, a2 = some a ∧ (∃ k, en_al σ a = some (0, k) ∧ vp_in a1 k) ∧ en_J (X_X1_write G q) 48 [l0, l1, l2, l3, l4, l5, l6] [] (en_sai σ a a1.toNatClampNeg a0) := ej_iastore d_X1_write_47
theorem d_X1_write_48 : decode cX1_write 48 = .ok (.aload_n 0, 1) := by decide +kernel
theorem j_X1_write_48 {G : en_G} {q : Option en_V → en_S → Prop}  {l1 l2 l3 l4 l5 l6 : en_V} {x0 : Option Nat} {σ : en_S} : en_J (X_X1_write G q) 48 [en_R x0, l1, l2, l3, l4, l5, l6] [] σ ↔ en_J (X_X1_write G q) 49 [en_R x0, l1, l2, l3, l4, l5, l6] [en_R x0] σ := en_j1 d_X1_write_48 rfl rfl
theorem d_X1_write_49 : decode cX1_write 49 = .ok (.getfield 9, 3) := by decide +kernel
theorem j_X1_write_49 {G : en_G} {q : Option en_V → en_S → Prop}  {l0 l1 l2 l3 l4 l5 l6 : en_V} {a0 : Option Nat} {σ : en_S} : en_J (X_X1_write G q) 49 [l0, l1, l2, l3, l4, l5, l6] [en_R a0] σ ↔ ∃ a, a0 = some a ∧ en_cl σ a = some 1 ∧ en_J (X_X1_write G q) 52 [l0, l1, l2, l3, l4, l5, l6] [en_R (en_fr σ 100 a)] σ := en_jg (st := fun o => [en_R o]) (st' := fun a => [en_R (en_fr σ 100 a)]) (σ' := fun _ => σ) d_X1_write_49 rfl (fun a => rfl) (fun a => ⟨fun h => h.2, fun h => ⟨rfl, h⟩⟩)
theorem d_X1_write_52 : decode cX1_write 52 = .ok (.iload 6, 2) := by decide +kernel
theorem j_X1_write_52 {G : en_G} {q : Option en_V → en_S → Prop}  {l0 l1 l2 l3 l4 l5 : en_V} {a0 : Option Nat} {x6 : Int32} {σ : en_S} : en_J (X_X1_write G q) 52 [l0, l1, l2, l3, l4, l5, en_I x6] [en_R a0] σ ↔ en_J (X_X1_write G q) 54 [l0, l1, l2, l3, l4, l5, en_I x6] [en_I x6, en_R a0] σ := en_j1 d_X1_write_52 rfl rfl
theorem d_X1_write_54 : decode cX1_write 54 = .ok (.iconst 4, 1) := by decide +kernel
theorem j_X1_write_54 {G : en_G} {q : Option en_V → en_S → Prop}  {l0 l1 l2 l3 l4 l5 l6 : en_V} {a0 : Int32} {a1 : Option Nat} {σ : en_S} : en_J (X_X1_write G q) 54 [l0, l1, l2, l3, l4, l5, l6] [en_I a0, en_R a1] σ ↔ en_J (X_X1_write G q) 55 [l0, l1, l2, l3, l4, l5, l6] [en_I 4, en_I a0, en_R a1] σ := ej_iconst d_X1_write_54 (by decide +kernel)
theorem d_X1_write_55 : decode cX1_write 55 = .ok (.iadd, 1) := by decide +kernel
theorem j_X1_write_55 {G : en_G} {q : Option en_V → en_S → Prop}  {l0 l1 l2 l3 l4 l5 l6 : en_V} {a0 : Int32} {a1 : Int32} {a2 : Option Nat} {σ : en_S} : en_J (X_X1_write G q) 55 [l0, l1, l2, l3, l4, l5, l6] [en_I a0, en_I a1, en_R a2] σ ↔ en_J (X_X1_write G q) 56 [l0, l1, l2, l3, l4, l5, l6] [en_I (a1 + a0), en_R a2] σ := en_j1 d_X1_write_55 rfl ⟨rfl, trivial⟩
theorem d_X1_write_56 : decode cX1_write 56 = .ok (.iload 5, 2) := by decide +kernel
theorem j_X1_write_56 {G : en_G} {q : Option en_V → en_S → Prop}  {l0 l1 l2 l3 l4 l6 : en_V} {a0 : Int32} {a1 : Option Nat} {x5 : Int32} {σ : en_S} : en_J (X_X1_write G q) 56 [l0, l1, l2, l3, l4, en_I x5, l6] [en_I a0, en_R a1] σ ↔ en_J (X_X1_write G q) 58 [l0, l1, l2, l3, l4, en_I x5, l6] [en_I x5, en_I a0, en_R a1] σ := en_j1 d_X1_write_56 rfl rfl
theorem d_X1_write_58 : decode cX1_write 58 = .ok (.iastore, 1) := by decide +kernel
theorem j_X1_write_58 {G : en_G} {q : Option en_V → en_S → Prop}  {l0 l1 l2 l3 l4 l5 l6 : en_V} {a0 : Int32} {a1 : Int32} {a2 : Option Nat} {σ : en_S} : en_J (X_X1_write G q) 58 [l0, l1, l2, l3, l4, l5, l6] [en_I a0, en_I a1, en_R a2] σ ↔ ∃ a, a2 = some a ∧ (∃ k, en_al σ a = some (0, k) ∧ vp_in a1 k) ∧ en_J (X_X1_write G q) 59 [l0, l1, l2, l3, l4, l5, l6] [] (en_sai σ a a1.toNatClampNeg a0) := ej_iastore d_X1_write_58
theorem d_X1_write_59 : decode cX1_write 59 = .ok (.aload_n 0, 1) := by decide +kernel
theorem j_X1_write_59 {G : en_G} {q : Option en_V → en_S → Prop}  {l1 l2 l3 l4 l5 l6 : en_V} {x0 : Option Nat} {σ : en_S} : en_J (X_X1_write G q) 59 [en_R x0, l1, l2, l3, l4, l5, l6] [] σ ↔ en_J (X_X1_write G q) 60 [en_R x0, l1, l2, l3, l4, l5, l6] [en_R x0] σ := en_j1 d_X1_write_59 rfl rfl
theorem d_X1_write_60 : decode cX1_write 60 = .ok (.dup, 1) := by decide +kernel
theorem j_X1_write_60 {G : en_G} {q : Option en_V → en_S → Prop}  {l0 l1 l2 l3 l4 l5 l6 : en_V} {a0 : Option Nat} {σ : en_S} : en_J (X_X1_write G q) 60 [l0, l1, l2, l3, l4, l5, l6] [en_R a0] σ ↔ en_J (X_X1_write G q) 61 [l0, l1, l2, l3, l4, l5, l6] [en_R a0, en_R a0] σ := en_j1 d_X1_write_60 rfl rfl
theorem d_X1_write_61 : decode cX1_write 61 = .ok (.getfield 15, 3) := by decide +kernel
theorem j_X1_write_61 {G : en_G} {q : Option en_V → en_S → Prop}  {l0 l1 l2 l3 l4 l5 l6 : en_V} {a0 : Option Nat} {a1 : Option Nat} {σ : en_S} : en_J (X_X1_write G q) 61 [l0, l1, l2, l3, l4, l5, l6] [en_R a0, en_R a1] σ ↔ ∃ a, a0 = some a ∧ en_cl σ a = some 1 ∧ en_J (X_X1_write G q) 64 [l0, l1, l2, l3, l4, l5, l6] [en_I (en_fi σ 101 a), en_R a1] σ := en_jg (st := fun o => [en_R o, en_R a1]) (st' := fun a => [en_I (en_fi σ 101 a), en_R a1]) (σ' := fun _ => σ) d_X1_write_61 rfl (fun a => rfl) (fun a => ⟨fun h => h.2, fun h => ⟨rfl, h⟩⟩)
theorem d_X1_write_64 : decode cX1_write 64 = .ok (.iconst 1, 1) := by decide +kernel
theorem j_X1_write_64 {G : en_G} {q : Option en_V → en_S → Prop}  {l0 l1 l2 l3 l4 l5 l6 : en_V} {a0 : Int32} {a1 : Option Nat} {σ : en_S} : en_J (X_X1_write G q) 64 [l0, l1, l2, l3, l4, l5, l6] [en_I a0, en_R a1] σ ↔ en_J (X_X1_write G q) 65 [l0, l1, l2, l3, l4, l5, l6] [en_I 1, en_I a0, en_R a1] σ := ej_iconst d_X1_write_64 (by decide +kernel)
theorem d_X1_write_65 : decode cX1_write 65 = .ok (.iadd, 1) := by decide +kernel
theorem j_X1_write_65 {G : en_G} {q : Option en_V → en_S → Prop}  {l0 l1 l2 l3 l4 l5 l6 : en_V} {a0 : Int32} {a1 : Int32} {a2 : Option Nat} {σ : en_S} : en_J (X_X1_write G q) 65 [l0, l1, l2, l3, l4, l5, l6] [en_I a0, en_I a1, en_R a2] σ ↔ en_J (X_X1_write G q) 66 [l0, l1, l2, l3, l4, l5, l6] [en_I (a1 + a0), en_R a2] σ := en_j1 d_X1_write_65 rfl ⟨rfl, trivial⟩
theorem d_X1_write_66 : decode cX1_write 66 = .ok (.putfield 15, 3) := by decide +kernel
theorem j_X1_write_66 {G : en_G} {q : Option en_V → en_S → Prop}  {l0 l1 l2 l3 l4 l5 l6 : en_V} {a0 : Int32} {a1 : Option Nat} {σ : en_S} : en_J (X_X1_write G q) 66 [l0, l1, l2, l3, l4, l5, l6] [en_I a0, en_R a1] σ ↔ ∃ a, a1 = some a ∧ en_cl σ a = some 1 ∧ en_J (X_X1_write G q) 69 [l0, l1, l2, l3, l4, l5, l6] [] (en_sfi σ 101 a a0) := en_jg (st := fun o => [en_I a0, en_R o]) (st' := fun _ => []) (σ' := fun a => en_sfi σ 101 a a0) d_X1_write_66 rfl (fun a => rfl) (fun a => ⟨fun h => h.2.1, fun h => ⟨rfl, h, trivial, fun z => absurd z (by decide +kernel)⟩⟩)
theorem d_X1_write_69 : decode cX1_write 69 = .ok (.return_, 1) := by decide +kernel
theorem j_X1_write_69 {G : en_G} {q : Option en_V → en_S → Prop}  {l0 l1 l2 l3 l4 l5 l6 : en_V}  {σ : en_S} : en_J (X_X1_write G q) 69 [l0, l1, l2, l3, l4, l5, l6] [] σ ↔ q none σ := en_jr d_X1_write_69 rfl ⟨fun h => h.2.2, fun h => ⟨rfl, rfl, h⟩⟩
theorem wc_X1_write : Jvm.Cond.code yX1_write cX1_write 7 none ∈ en_W := en_inW (List.mem_of_getElem? (i := 426) (by decide +kernel)) (by decide +kernel)
theorem wi_X1_write : Jvm.Cond.instanceMethod yX1_write ∈ en_W := en_inW (List.mem_of_getElem? (i := 424) (by decide +kernel)) (by decide +kernel)
theorem wx_X1_write : Jvm.Cond.selects RX1 yX1_write yX1_write ∈ en_W := en_inW (List.mem_of_getElem? (i := 425) (by decide +kernel)) (by decide +kernel)
theorem jp_X1_write {G : en_G} : ∀ as σ, C_X1_write.1 as σ → (en_lc as).length ≤ 7 ∧ en_J (X_X1_write G (fun r σ' => C_X1_write.2 as σ r σ')) 0 (en_loc 7 as) [] σ := by
  rintro as σ ⟨a, f, c, x1, x2, x3, x4, x5, rfl, hc⟩
  refine ⟨Nat.le_of_ble_eq_true rfl, ?_⟩
  show en_J _ 0 [en_R (some a), en_I x1, en_I x2, en_I x3, en_I x4, en_I x5, en_U] [] σ
  obtain ⟨h1, h2, h3, h4, h5⟩ := hc
  simp only [j_X1_write_0, j_X1_write_1, j_X1_write_4, en_c2I, en_c2R, en_c2U, en_c2D, Option.some.injEq, exists_eq_left', exists_eq_left, Option.map_some, Option.map_none, not_true_eq_false, false_implies, true_implies, and_true, true_and, reduceCtorEq, not_false_eq_true, h1, h4]
  refine ⟨⟨c, rfl, by omega⟩, ?_⟩
  rintro r σ' ⟨b, hb, rfl, hb2, rfl⟩
  simp only [List.cons.injEq, en_Iinj, and_true] at hb
  have := nI_inj (by omega) hb2 hb
  subst this
  have hm : c % 32 < 32 := Nat.mod_lt _ (by decide)
  have ix : ∀ k : Nat, k < 5 → vp_in (nI (c % 32 * 5 + k)) 160 := fun k hk => vp_in_nI (by omega) (by decide)
  have i0 := ix 0 (by decide)
  have i1 := ix 1 (by decide)
  have i2 := ix 2 (by decide)
  have i3 := ix 3 (by decide)
  have i4 := ix 4 (by decide)
  have cl : ∀ k : Nat, k < 5 → (nI (c % 32 * 5 + k)).toNatClampNeg = c % 32 * 5 + k := fun k hk => nI_clamp (by omega)
  have c0 := cl 0 (by decide)
  have c1 := cl 1 (by decide)
  have c2 := cl 2 (by decide)
  have c3 := cl 3 (by decide)
  have c4 := cl 4 (by decide)
  rw [Nat.add_zero] at i0 c0
  have a1 : nI (c % 32 * 5) + 1 = nI (c % 32 * 5 + 1) := nI_1 _
  have a2 : nI (c % 32 * 5) + 2 = nI (c % 32 * 5 + 2) := by rw [show (2 : Int32) = nI 2 from by decide +kernel]; exact nI_add _ _
  have a3 : nI (c % 32 * 5) + 3 = nI (c % 32 * 5 + 3) := by rw [show (3 : Int32) = nI 3 from by decide +kernel]; exact nI_add _ _
  have a4 : nI (c % 32 * 5) + 4 = nI (c % 32 * 5 + 4) := by rw [show (4 : Int32) = nI 4 from by decide +kernel]; exact nI_add _ _
  have a5 : nI c + 1 = nI (c + 1) := nI_1 _
  simp only [Option.toList, List.cons_append, List.nil_append, j_X1_write_0, j_X1_write_1, j_X1_write_4, j_X1_write_7, j_X1_write_9, j_X1_write_10, j_X1_write_13, j_X1_write_15, j_X1_write_16, j_X1_write_17, j_X1_write_18, j_X1_write_21, j_X1_write_23, j_X1_write_24, j_X1_write_25, j_X1_write_26, j_X1_write_27, j_X1_write_28, j_X1_write_31, j_X1_write_33, j_X1_write_34, j_X1_write_35, j_X1_write_36, j_X1_write_37, j_X1_write_38, j_X1_write_41, j_X1_write_43, j_X1_write_44, j_X1_write_45, j_X1_write_47, j_X1_write_48, j_X1_write_49, j_X1_write_52, j_X1_write_54, j_X1_write_55, j_X1_write_56, j_X1_write_58, j_X1_write_59, j_X1_write_60, j_X1_write_61, j_X1_write_64, j_X1_write_65, j_X1_write_66, j_X1_write_69, en_c2I, en_c2R, en_c2U, en_c2D, Option.some.injEq, exists_eq_left', exists_eq_left, Option.map_some, Option.map_none, not_true_eq_false, false_implies, true_implies, and_true, true_and, reduceCtorEq, not_false_eq_true, eg_cl_sfi, eg_fi_sfi, eg_fr_sfi, eg_fd_sfi, eg_al_sfi, eg_ai_sfi, eg_ar_sfi, eg_ad_sfi, eg_aj_sfi, eg_nx_sfi, eg_ns_sfi, eg_cl_sfr, eg_fi_sfr, eg_fr_sfr, eg_fd_sfr, eg_al_sfr, eg_ai_sfr, eg_ar_sfr, eg_ad_sfr, eg_aj_sfr, eg_nx_sfr, eg_ns_sfr, eg_cl_sfd, eg_fi_sfd, eg_fr_sfd, eg_fd_sfd, eg_al_sfd, eg_ai_sfd, eg_ar_sfd, eg_ad_sfd, eg_aj_sfd, eg_nx_sfd, eg_ns_sfd, eg_cl_sai, eg_fi_sai, eg_fr_sai, eg_fd_sai, eg_al_sai, eg_ai_sai, eg_ar_sai, eg_ad_sai, eg_aj_sai, eg_nx_sai, eg_ns_sai, eg_cl_sar, eg_fi_sar, eg_fr_sar, eg_fd_sar, eg_al_sar, eg_ai_sar, eg_ar_sar, eg_ad_sar, eg_aj_sar, eg_nx_sar, eg_ns_sar, eg_cl_sad, eg_fi_sad, eg_fr_sad, eg_fd_sad, eg_al_sad, eg_ai_sad, eg_ar_sad, eg_ad_sad, eg_aj_sad, eg_nx_sad, eg_ns_sad, eg_cl_saj, eg_fi_saj, eg_fr_saj, eg_fd_saj, eg_al_saj, eg_ai_saj, eg_ar_saj, eg_ad_saj, eg_aj_saj, eg_nx_saj, eg_ns_saj, eg_cl_new, eg_fi_new, eg_fr_new, eg_fd_new, eg_al_new, eg_ai_new, eg_ar_new, eg_ad_new, eg_aj_new, eg_nx_new, eg_ns_new, eg_cl_newa, eg_fi_newa, eg_fr_newa, eg_fd_newa, eg_al_newa, eg_ai_newa, eg_ar_newa, eg_ad_newa, eg_aj_newa, eg_nx_newa, eg_ns_newa, eg_cl_bump, eg_fi_bump, eg_fr_bump, eg_fd_bump, eg_al_bump, eg_ai_bump, eg_ar_bump, eg_ad_bump, eg_aj_bump, eg_nx_bump, eg_ns_bump, h1, h2, h3, h4, a1, a2, a3, a4, a5, c0, c1, c2, c3, c4, Prod.mk.injEq, i0, i1, i2, i3, i4]
  exact ⟨a, f, c, x1, x2, x3, x4, x5, rfl, h2, h4, h5, rfl, rfl⟩
theorem wl_X1_write_19 : Jvm.Cond.methodLink RX1 19 yX1_startOf ∈ en_W := en_inW (List.mem_of_getElem? (i := 427) (by decide +kernel)) (by decide +kernel)
theorem ok_X1_write {G : en_G}  : en_Ok G 3 yX1_write cX1_write 7 none C_X1_write :=
  en_met (own := RX1) (fl := en_lk fl1) (nw := en_lk nw1) (aw := en_lk aw1) (dc := en_lk dc1) (ca := en_lk (ca_X1_write G)) (rt := 0) (ini := false) (by decide +kernel) (Or.inl ⟨rfl, rfl⟩) (fun h => by cases h) rfl (fun q => en_LkF fl1_ok nw1_ok aw1_ok dc1_ok) (by
    intro idx q hq
    have hm := en_lk_mem hq
    simp only [ca_X1_write, List.mem_cons, Prod.mk.injEq, List.not_mem_nil, or_false] at hm
    rcases hm with ⟨rfl, rfl⟩
    · exact en_clS 1 ok_X1_startOf (by decide) (by decide) pr_X1_startOf wl_X1_write_19 ws_X1_startOf wz_1 wc_X1_startOf ⟨by decide +kernel, by decide +kernel, by decide +kernel⟩) jp_X1_write
def C_X0_shape : en_C := (fun as σ => ∃ (a : Nat) (x y w h : UInt64), as = [en_R (some a), en_D x, en_D y, en_D w, en_D h] ∧ en_cl σ a = some 0, fun as σ r σ' => ∃ (a : Nat) (x y w h : UInt64), as = [en_R (some a), en_D x, en_D y, en_D w, en_D h] ∧ (r = none ∧ σ' = en_sfi (en_sfd (en_sfd (en_sfd (en_sfd (en_sfd σ 0 a x) 1 a y) 2 a w) 3 a h) 4 a FP.dconst1) 5 a 0))
theorem pr_X0_shape : ∀ as σ, C_X0_shape.1 as σ → ∃ b tl, as = en_R (some b) :: tl ∧ en_cl σ b = some 0 ∧ tl.length = 4 := fun as σ ⟨a, x, y, w, h, h1, h2⟩ => ⟨_, _, h1, h2, rfl⟩
def ca_X0_shape (G : en_G) : List (Nat × Nat × en_C) := []
def X_X0_shape (G : en_G) (q : Option en_V → en_S → Prop) : en_X := en_mk G cX0_shape (en_lk fl0) (en_lk nw0) (en_lk aw0) (en_lk dc0) (en_lk (ca_X0_shape G)) 0 false q
theorem d_X0_shape_0 : decode cX0_shape 0 = .ok (.aload_n 0, 1) := by decide +kernel
theorem j_X0_shape_0 {G : en_G} {q : Option en_V → en_S → Prop}  {l1 l2 l3 l4 l5 l6 l7 l8 : en_V} {x0 : Option Nat} {σ : en_S} : en_J (X_X0_shape G q) 0 [en_R x0, l1, l2, l3, l4, l5, l6, l7, l8] [] σ ↔ en_J (X_X0_shape G q) 1 [en_R x0, l1, l2, l3, l4, l5, l6, l7, l8] [en_R x0] σ := en_j1 d_X0_shape_0 rfl rfl
theorem d_X0_shape_1 : decode cX0_shape 1 = .ok (.dload_n 1, 1) := by decide +kernel
theorem j_X0_shape_1 {G : en_G} {q : Option en_V → en_S → Prop}  {l0 l2 l3 l4 l5 l6 l7 l8 : en_V} {a0 : Option Nat} {x1 : UInt64} {σ : en_S} : en_J (X_X0_shape G q) 1 [l0, en_D x1, l2, l3, l4, l5, l6, l7, l8] [en_R a0] σ ↔ en_J (X_X0_shape G q) 2 [l0, en_D x1, l2, l3, l4, l5, l6, l7, l8] [en_D x1, en_R a0] σ := en_j1 d_X0_shape_1 rfl rfl
theorem d_X0_shape_2 : decode cX0_shape 2 = .ok (.putfield 7, 3) := by decide +kernel
theorem j_X0_shape_2 {G : en_G} {q : Option en_V → en_S → Prop}  {l0 l1 l2 l3 l4 l5 l6 l7 l8 : en_V} {a0 : UInt64} {a1 : Option Nat} {σ : en_S} : en_J (X_X0_shape G q) 2 [l0, l1, l2, l3, l4, l5, l6, l7, l8] [en_D a0, en_R a1] σ ↔ ∃ a, a1 = some a ∧ en_cl σ a = some 0 ∧ en_J (X_X0_shape G q) 5 [l0, l1, l2, l3, l4, l5, l6, l7, l8] [] (en_sfd σ 0 a a0) := en_jg (st := fun o => [en_D a0, en_R o]) (st' := fun _ => []) (σ' := fun a => en_sfd σ 0 a a0) d_X0_shape_2 rfl (fun a => rfl) (fun a => ⟨fun h => h.2.1, fun h => ⟨rfl, h, trivial, fun z => absurd z (by decide +kernel)⟩⟩)
theorem d_X0_shape_5 : decode cX0_shape 5 = .ok (.aload_n 0, 1) := by decide +kernel
theorem j_X0_shape_5 {G : en_G} {q : Option en_V → en_S → Prop}  {l1 l2 l3 l4 l5 l6 l7 l8 : en_V} {x0 : Option Nat} {σ : en_S} : en_J (X_X0_shape G q) 5 [en_R x0, l1, l2, l3, l4, l5, l6, l7, l8] [] σ ↔ en_J (X_X0_shape G q) 6 [en_R x0, l1, l2, l3, l4, l5, l6, l7, l8] [en_R x0] σ := en_j1 d_X0_shape_5 rfl rfl
theorem d_X0_shape_6 : decode cX0_shape 6 = .ok (.dload_n 3, 1) := by decide +kernel
theorem j_X0_shape_6 {G : en_G} {q : Option en_V → en_S → Prop}  {l0 l1 l2 l4 l5 l6 l7 l8 : en_V} {a0 : Option Nat} {x3 : UInt64} {σ : en_S} : en_J (X_X0_shape G q) 6 [l0, l1, l2, en_D x3, l4, l5, l6, l7, l8] [en_R a0] σ ↔ en_J (X_X0_shape G q) 7 [l0, l1, l2, en_D x3, l4, l5, l6, l7, l8] [en_D x3, en_R a0] σ := en_j1 d_X0_shape_6 rfl rfl
theorem d_X0_shape_7 : decode cX0_shape 7 = .ok (.putfield 13, 3) := by decide +kernel
theorem j_X0_shape_7 {G : en_G} {q : Option en_V → en_S → Prop}  {l0 l1 l2 l3 l4 l5 l6 l7 l8 : en_V} {a0 : UInt64} {a1 : Option Nat} {σ : en_S} : en_J (X_X0_shape G q) 7 [l0, l1, l2, l3, l4, l5, l6, l7, l8] [en_D a0, en_R a1] σ ↔ ∃ a, a1 = some a ∧ en_cl σ a = some 0 ∧ en_J (X_X0_shape G q) 10 [l0, l1, l2, l3, l4, l5, l6, l7, l8] [] (en_sfd σ 1 a a0) := en_jg (st := fun o => [en_D a0, en_R o]) (st' := fun _ => []) (σ' := fun a => en_sfd σ 1 a a0) d_X0_shape_7 rfl (fun a => rfl) (fun a => ⟨fun h => h.2.1, fun h => ⟨rfl, h, trivial, fun z => absurd z (by decide +kernel)⟩⟩)
theorem d_X0_shape_10 : decode cX0_shape 10 = .ok (.aload_n 0, 1) := by decide +kernel
theorem j_X0_shape_10 {G : en_G} {q : Option en_V → en_S → Prop}  {l1 l2 l3 l4 l5 l6 l7 l8 : en_V} {x0 : Option Nat} {σ : en_S} : en_J (X_X0_shape G q) 10 [en_R x0, l1, l2, l3, l4, l5, l6, l7, l8] [] σ ↔ en_J (X_X0_shape G q) 11 [en_R x0, l1, l2, l3, l4, l5, l6, l7, l8] [en_R x0] σ := en_j1 d_X0_shape_10 rfl rfl
theorem d_X0_shape_11 : decode cX0_shape 11 = .ok (.dload 5, 2) := by decide +kernel
theorem j_X0_shape_11 {G : en_G} {q : Option en_V → en_S → Prop}  {l0 l1 l2 l3 l4 l6 l7 l8 : en_V} {a0 : Option Nat} {x5 : UInt64} {σ : en_S} : en_J (X_X0_shape G q) 11 [l0, l1, l2, l3, l4, en_D x5, l6, l7, l8] [en_R a0] σ ↔ en_J (X_X0_shape G q) 13 [l0, l1, l2, l3, l4, en_D x5, l6, l7, l8] [en_D x5, en_R a0] σ := en_j1 d_X0_shape_11 rfl rfl
theorem d_X0_shape_13 : decode cX0_shape 13 = .ok (.putfield 16, 3) := by decide +kernel
theorem j_X0_shape_13 {G : en_G} {q : Option en_V → en_S → Prop}  {l0 l1 l2 l3 l4 l5 l6 l7 l8 : en_V} {a0 : UInt64} {a1 : Option Nat} {σ : en_S} : en_J (X_X0_shape G q) 13 [l0, l1, l2, l3, l4, l5, l6, l7, l8] [en_D a0, en_R a1] σ ↔ ∃ a, a1 = some a ∧ en_cl σ a = some 0 ∧ en_J (X_X0_shape G q) 16 [l0, l1, l2, l3, l4, l5, l6, l7, l8] [] (en_sfd σ 2 a a0) := en_jg (st := fun o => [en_D a0, en_R o]) (st' := fun _ => []) (σ' := fun a => en_sfd σ 2 a a0) d_X0_shape_13 rfl (fun a => rfl) (fun a => ⟨fun h => h.2.1, fun h => ⟨rfl, h, trivial, fun z => absurd z (by decide +kernel)⟩⟩)
theorem d_X0_shape_16 : decode cX0_shape 16 = .ok (.aload_n 0, 1) := by decide +kernel
theorem j_X0_shape_16 {G : en_G} {q : Option en_V → en_S → Prop}  {l1 l2 l3 l4 l5 l6 l7 l8 : en_V} {x0 : Option Nat} {σ : en_S} : en_J (X_X0_shape G q) 16 [en_R x0, l1, l2, l3, l4, l5, l6, l7, l8] [] σ ↔ en_J (X_X0_shape G q) 17 [en_R x0, l1, l2, l3, l4, l5, l6, l7, l8] [en_R x0] σ := en_j1 d_X0_shape_16 rfl rfl
theorem d_X0_shape_17 : decode cX0_shape 17 = .ok (.dload 7, 2) := by decide +kernel
theorem j_X0_shape_17 {G : en_G} {q : Option en_V → en_S → Prop}  {l0 l1 l2 l3 l4 l5 l6 l8 : en_V} {a0 : Option Nat} {x7 : UInt64} {σ : en_S} : en_J (X_X0_shape G q) 17 [l0, l1, l2, l3, l4, l5, l6, en_D x7, l8] [en_R a0] σ ↔ en_J (X_X0_shape G q) 19 [l0, l1, l2, l3, l4, l5, l6, en_D x7, l8] [en_D x7, en_R a0] σ := en_j1 d_X0_shape_17 rfl rfl
theorem d_X0_shape_19 : decode cX0_shape 19 = .ok (.putfield 19, 3) := by decide +kernel
theorem j_X0_shape_19 {G : en_G} {q : Option en_V → en_S → Prop}  {l0 l1 l2 l3 l4 l5 l6 l7 l8 : en_V} {a0 : UInt64} {a1 : Option Nat} {σ : en_S} : en_J (X_X0_shape G q) 19 [l0, l1, l2, l3, l4, l5, l6, l7, l8] [en_D a0, en_R a1] σ ↔ ∃ a, a1 = some a ∧ en_cl σ a = some 0 ∧ en_J (X_X0_shape G q) 22 [l0, l1, l2, l3, l4, l5, l6, l7, l8] [] (en_sfd σ 3 a a0) := en_jg (st := fun o => [en_D a0, en_R o]) (st' := fun _ => []) (σ' := fun a => en_sfd σ 3 a a0) d_X0_shape_19 rfl (fun a => rfl) (fun a => ⟨fun h => h.2.1, fun h => ⟨rfl, h, trivial, fun z => absurd z (by decide +kernel)⟩⟩)
theorem d_X0_shape_22 : decode cX0_shape 22 = .ok (.aload_n 0, 1) := by decide +kernel
theorem j_X0_shape_22 {G : en_G} {q : Option en_V → en_S → Prop}  {l1 l2 l3 l4 l5 l6 l7 l8 : en_V} {x0 : Option Nat} {σ : en_S} : en_J (X_X0_shape G q) 22 [en_R x0, l1, l2, l3, l4, l5, l6, l7, l8] [] σ ↔ en_J (X_X0_shape G q) 23 [en_R x0, l1, l2, l3, l4, l5, l6, l7, l8] [en_R x0] σ := en_j1 d_X0_shape_22 rfl rfl
theorem d_X0_shape_23 : decode cX0_shape 23 = .ok (.dconst 1, 1) := by decide +kernel
theorem j_X0_shape_23 {G : en_G} {q : Option en_V → en_S → Prop}  {l0 l1 l2 l3 l4 l5 l6 l7 l8 : en_V} {a0 : Option Nat} {σ : en_S} : en_J (X_X0_shape G q) 23 [l0, l1, l2, l3, l4, l5, l6, l7, l8] [en_R a0] σ ↔ en_J (X_X0_shape G q) 24 [l0, l1, l2, l3, l4, l5, l6, l7, l8] [en_D FP.dconst1, en_R a0] σ := en_j1 d_X0_shape_23 rfl rfl
theorem d_X0_shape_24 : decode cX0_shape 24 = .ok (.putfield 22, 3) := by decide +kernel
theorem j_X0_shape_24 {G : en_G} {q : Option en_V → en_S → Prop}  {l0 l1 l2 l3 l4 l5 l6 l7 l8 : en_V} {a0 : UInt64} {a1 : Option Nat} {σ : en_S} : en_J (X_X0_shape G q) 24 [l0, l1, l2, l3, l4, l5, l6, l7, l8] [en_D a0, en_R a1] σ ↔ ∃ a, a1 = some a ∧ en_cl σ a = some 0 ∧ en_J (X_X0_shape G q) 27 [l0, l1, l2, l3, l4, l5, l6, l7, l8] [] (en_sfd σ 4 a a0) := en_jg (st := fun o => [en_D a0, en_R o]) (st' := fun _ => []) (σ' := fun a => en_sfd σ 4 a a0) d_X0_shape_24 rfl (fun a => rfl) (fun a => ⟨fun h => h.2.1, fun h => ⟨rfl, h, trivial, fun z => absurd z (by decide +kernel)⟩⟩)
theorem d_X0_shape_27 : decode cX0_shape 27 = .ok (.aload_n 0, 1) := by decide +kernel
theorem j_X0_shape_27 {G : en_G} {q : Option en_V → en_S → Prop}  {l1 l2 l3 l4 l5 l6 l7 l8 : en_V} {x0 : Option Nat} {σ : en_S} : en_J (X_X0_shape G q) 27 [en_R x0, l1, l2, l3, l4, l5, l6, l7, l8] [] σ ↔ en_J (X_X0_shape G q) 28 [en_R x0, l1, l2, l3, l4, l5, l6, l7, l8] [en_R x0] σ := en_j1 d_X0_shape_27 rfl rfl
theorem d_X0_shape_28 : decode cX0_shape 28 = .ok (.iconst 0, 1) := by decide +kernel
theorem j_X0_shape_28 {G : en_G} {q : Option en_V → en_S → Prop}  {l0 l1 l2 l3 l4 l5 l6 l7 l8 : en_V} {a0 : Option Nat} {σ : en_S} : en_J (X_X0_shape G q) 28 [l0, l1, l2, l3, l4, l5, l6, l7, l8] [en_R a0] σ ↔ en_J (X_X0_shape G q) 29 [l0, l1, l2, l3, l4, l5, l6, l7, l8] [en_I 0, en_R a0] σ := ej_iconst d_X0_shape_28 (by decide +kernel)
theorem d_X0_shape_29 : decode cX0_shape 29 = .ok (.putfield 25, 3) := by decide +kernel
theorem j_X0_shape_29 {G : en_G} {q : Option en_V → en_S → Prop}  {l0 l1 l2 l3 l4 l5 l6 l7 l8 : en_V} {a0 : Int32} {a1 : Option Nat} {σ : en_S} : en_J (X_X0_shape G q) 29 [l0, l1, l2, l3, l4, l5, l6, l7, l8] [en_I a0, en_R a1] σ ↔ ∃ a, a1 = some a ∧ en_cl σ a = some 0 ∧ en_J (X_X0_shape G q) 32 [l0, l1, l2, l3, l4, l5, l6, l7, l8] [] (en_sfi σ 5 a a0) := en_jg (st := fun o => [en_I a0, en_R o]) (st' := fun _ => []) (σ' := fun a => en_sfi σ 5 a a0) d_X0_shape_29 rfl (fun a => rfl) (fun a => ⟨fun h => h.2.1, fun h => ⟨rfl, h, trivial, fun z => absurd z (by decide +kernel)⟩⟩)
theorem d_X0_shape_32 : decode cX0_shape 32 = .ok (.return_, 1) := by decide +kernel
theorem j_X0_shape_32 {G : en_G} {q : Option en_V → en_S → Prop}  {l0 l1 l2 l3 l4 l5 l6 l7 l8 : en_V}  {σ : en_S} : en_J (X_X0_shape G q) 32 [l0, l1, l2, l3, l4, l5, l6, l7, l8] [] σ ↔ q none σ := en_jr d_X0_shape_32 rfl ⟨fun h => h.2.2, fun h => ⟨rfl, rfl, h⟩⟩
theorem wc_X0_shape : Jvm.Cond.code yX0_shape cX0_shape 9 none ∈ en_W := en_inW (List.mem_of_getElem? (i := 678) (by decide +kernel)) (by decide +kernel)
theorem wi_X0_shape : Jvm.Cond.instanceMethod yX0_shape ∈ en_W := en_inW (List.mem_of_getElem? (i := 676) (by decide +kernel)) (by decide +kernel)
theorem wx_X0_shape : Jvm.Cond.selects RX0 yX0_shape yX0_shape ∈ en_W := en_inW (List.mem_of_getElem? (i := 677) (by decide +kernel)) (by decide +kernel)
theorem jp_X0_shape {G : en_G} : ∀ as σ, C_X0_shape.1 as σ → (en_lc as).length ≤ 9 ∧ en_J (X_X0_shape G (fun r σ' => C_X0_shape.2 as σ r σ')) 0 (en_loc 9 as) [] σ := by
  rintro as σ ⟨a, x, y, w, h, rfl, hc⟩
  refine ⟨Nat.le_of_ble_eq_true rfl, ?_⟩
  show en_J _ 0 [en_R (some a), en_D x, en_U, en_D y, en_U, en_D w, en_U, en_D h, en_U] [] σ
  simp only [j_X0_shape_0, j_X0_shape_1, j_X0_shape_2, j_X0_shape_5, j_X0_shape_6, j_X0_shape_7, j_X0_shape_10, j_X0_shape_11, j_X0_shape_13, j_X0_shape_16, j_X0_shape_17, j_X0_shape_19, j_X0_shape_22, j_X0_shape_23, j_X0_shape_24, j_X0_shape_27, j_X0_shape_28, j_X0_shape_29, j_X0_shape_32, en_c2I, en_c2R, en_c2U, en_c2D, Option.some.injEq, exists_eq_left', exists_eq_left, Option.map_some, Option.map_none, not_true_eq_false, false_implies, true_implies, and_true, true_and, reduceCtorEq, not_false_eq_true, eg_cl_sfi, eg_fi_sfi, eg_fr_sfi, eg_fd_sfi, eg_al_sfi, eg_ai_sfi, eg_ar_sfi, eg_ad_sfi, eg_aj_sfi, eg_nx_sfi, eg_ns_sfi, eg_cl_sfr, eg_fi_sfr, eg_fr_sfr, eg_fd_sfr, eg_al_sfr, eg_ai_sfr, eg_ar_sfr, eg_ad_sfr, eg_aj_sfr, eg_nx_sfr, eg_ns_sfr, eg_cl_sfd, eg_fi_sfd, eg_fr_sfd, eg_fd_sfd, eg_al_sfd, eg_ai_sfd, eg_ar_sfd, eg_ad_sfd, eg_aj_sfd, eg_nx_sfd, eg_ns_sfd, eg_cl_sai, eg_fi_sai, eg_fr_sai, eg_fd_sai, eg_al_sai, eg_ai_sai, eg_ar_sai, eg_ad_sai, eg_aj_sai, eg_nx_sai, eg_ns_sai, eg_cl_sar, eg_fi_sar, eg_fr_sar, eg_fd_sar, eg_al_sar, eg_ai_sar, eg_ar_sar, eg_ad_sar, eg_aj_sar, eg_nx_sar, eg_ns_sar, eg_cl_sad, eg_fi_sad, eg_fr_sad, eg_fd_sad, eg_al_sad, eg_ai_sad, eg_ar_sad, eg_ad_sad, eg_aj_sad, eg_nx_sad, eg_ns_sad, eg_cl_saj, eg_fi_saj, eg_fr_saj, eg_fd_saj, eg_al_saj, eg_ai_saj, eg_ar_saj, eg_ad_saj, eg_aj_saj, eg_nx_saj, eg_ns_saj, eg_cl_new, eg_fi_new, eg_fr_new, eg_fd_new, eg_al_new, eg_ai_new, eg_ar_new, eg_ad_new, eg_aj_new, eg_nx_new, eg_ns_new, eg_cl_newa, eg_fi_newa, eg_fr_newa, eg_fd_newa, eg_al_newa, eg_ai_newa, eg_ar_newa, eg_ad_newa, eg_aj_newa, eg_nx_newa, eg_ns_newa, eg_cl_bump, eg_fi_bump, eg_fr_bump, eg_fd_bump, eg_al_bump, eg_ai_bump, eg_ar_bump, eg_ad_bump, eg_aj_bump, eg_nx_bump, eg_ns_bump, hc]
  exact ⟨a, x, y, w, h, rfl, rfl, rfl⟩
theorem ok_X0_shape {G : en_G}  : en_Ok G 1 yX0_shape cX0_shape 9 none C_X0_shape :=
  en_met (own := RX0) (fl := en_lk fl0) (nw := en_lk nw0) (aw := en_lk aw0) (dc := en_lk dc0) (ca := en_lk (ca_X0_shape G)) (rt := 0) (ini := false) (by decide +kernel) (Or.inl ⟨rfl, rfl⟩) (fun h => by cases h) rfl (fun q => en_LkF fl0_ok nw0_ok aw0_ok dc0_ok) (fun idx q hq => by cases hq) jp_X0_shape
def C_X6_isNear : en_C := (fun as σ => ∃ (x : UInt64), as = [en_D x] ∧ True, fun as σ r σ' => ∃ (x : UInt64), as = [en_D x] ∧ (σ' = σ ∧ r = some (en_I (if ¬ Op.cmpValue (FP.dcmp x 13875379345695965184) .l < 0 ∧ ¬ 0 < Op.cmpValue (FP.dcmp x 4652007308841189376) .g then 1 else 0))))
theorem pr_X6_isNear : ∀ as σ, C_X6_isNear.1 as σ → as.length = 1 := fun as σ ⟨x, h1, h2⟩ => by rw [h1]; rfl
def ca_X6_isNear (G : en_G) : List (Nat × Nat × en_C) := []
def X_X6_isNear (G : en_G) (q : Option en_V → en_S → Prop) : en_X := en_mk G cX6_isNear (en_lk fl6) (en_lk nw6) (en_lk aw6) (en_lk dc6) (en_lk (ca_X6_isNear G)) 2 false q
theorem d_X6_isNear_0 : decode cX6_isNear 0 = .ok (.dload_n 0, 1) := by decide +kernel
theorem j_X6_isNear_0 {G : en_G} {q : Option en_V → en_S → Prop}  {l1 : en_V} {x0 : UInt64} {σ : en_S} : en_J (X_X6_isNear G q) 0 [en_D x0, l1] [] σ ↔ en_J (X_X6_isNear G q) 1 [en_D x0, l1] [en_D x0] σ := en_j1 d_X6_isNear_0 rfl rfl
theorem d_X6_isNear_1 : decode cX6_isNear 1 = .ok (.ldc2_w 238, 3) := by decide +kernel
theorem j_X6_isNear_1 {G : en_G} {q : Option en_V → en_S → Prop}  {l0 l1 : en_V} {a0 : UInt64} {σ : en_S} : en_J (X_X6_isNear G q) 1 [l0, l1] [en_D a0] σ ↔ en_J (X_X6_isNear G q) 4 [l0, l1] [en_D 13875379345695965184, en_D a0] σ := en_j1 d_X6_isNear_1 rfl rfl
theorem d_X6_isNear_4 : decode cX6_isNear 4 = .ok (.dcmp .l, 1) := by decide +kernel
theorem j_X6_isNear_4 {G : en_G} {q : Option en_V → en_S → Prop}  {l0 l1 : en_V} {a0 : UInt64} {a1 : UInt64} {σ : en_S} : en_J (X_X6_isNear G q) 4 [l0, l1] [en_D a0, en_D a1] σ ↔ en_J (X_X6_isNear G q) 5 [l0, l1] [en_I (Op.cmpValue (FP.dcmp a1 a0) .l)] σ := en_j1 d_X6_isNear_4 rfl rfl
theorem d_X6_isNear_5 : decode cX6_isNear 5 = .ok (.ifCond .lt 15, 3) := by decide +kernel
theorem j_X6_isNear_5 {G : en_G} {q : Option en_V → en_S → Prop}  {l0 l1 : en_V} {a0 : Int32} {σ : en_S} : en_J (X_X6_isNear G q) 5 [l0, l1] [en_I a0] σ ↔ (a0 < 0 → en_J (X_X6_isNear G q) 20 [l0, l1] [] σ) ∧ (¬ (a0 < 0) → en_J (X_X6_isNear G q) 8 [l0, l1] [] σ) := en_jb d_X6_isNear_5 rfl ⟨rfl, by decide⟩
theorem d_X6_isNear_8 : decode cX6_isNear 8 = .ok (.dload_n 0, 1) := by decide +kernel
theorem j_X6_isNear_8 {G : en_G} {q : Option en_V → en_S → Prop}  {l1 : en_V} {x0 : UInt64} {σ : en_S} : en_J (X_X6_isNear G q) 8 [en_D x0, l1] [] σ ↔ en_J (X_X6_isNear G q) 9 [en_D x0, l1] [en_D x0] σ := en_j1 d_X6_isNear_8 rfl rfl
theorem d_X6_isNear_9 : decode cX6_isNear 9 = .ok (.ldc2_w 240, 3) := by decide +kernel
theorem j_X6_isNear_9 {G : en_G} {q : Option en_V → en_S → Prop}  {l0 l1 : en_V} {a0 : UInt64} {σ : en_S} : en_J (X_X6_isNear G q) 9 [l0, l1] [en_D a0] σ ↔ en_J (X_X6_isNear G q) 12 [l0, l1] [en_D 4652007308841189376, en_D a0] σ := en_j1 d_X6_isNear_9 rfl rfl
theorem d_X6_isNear_12 : decode cX6_isNear 12 = .ok (.dcmp .g, 1) := by decide +kernel
theorem j_X6_isNear_12 {G : en_G} {q : Option en_V → en_S → Prop}  {l0 l1 : en_V} {a0 : UInt64} {a1 : UInt64} {σ : en_S} : en_J (X_X6_isNear G q) 12 [l0, l1] [en_D a0, en_D a1] σ ↔ en_J (X_X6_isNear G q) 13 [l0, l1] [en_I (Op.cmpValue (FP.dcmp a1 a0) .g)] σ := en_j1 d_X6_isNear_12 rfl rfl
theorem d_X6_isNear_13 : decode cX6_isNear 13 = .ok (.ifCond .gt 7, 3) := by decide +kernel
theorem j_X6_isNear_13 {G : en_G} {q : Option en_V → en_S → Prop}  {l0 l1 : en_V} {a0 : Int32} {σ : en_S} : en_J (X_X6_isNear G q) 13 [l0, l1] [en_I a0] σ ↔ (0 < a0 → en_J (X_X6_isNear G q) 20 [l0, l1] [] σ) ∧ (¬ (0 < a0) → en_J (X_X6_isNear G q) 16 [l0, l1] [] σ) := en_jb d_X6_isNear_13 rfl ⟨rfl, by decide⟩
theorem d_X6_isNear_16 : decode cX6_isNear 16 = .ok (.iconst 1, 1) := by decide +kernel
theorem j_X6_isNear_16 {G : en_G} {q : Option en_V → en_S → Prop}  {l0 l1 : en_V}  {σ : en_S} : en_J (X_X6_isNear G q) 16 [l0, l1] [] σ ↔ en_J (X_X6_isNear G q) 17 [l0, l1] [en_I 1] σ := ej_iconst d_X6_isNear_16 (by decide +kernel)
theorem d_X6_isNear_17 : decode cX6_isNear 17 = .ok (.goto 4, 3) := by decide +kernel
theorem j_X6_isNear_17 {G : en_G} {q : Option en_V → en_S → Prop}  {l0 l1 : en_V} {a0 : Int32} {σ : en_S} : en_J (X_X6_isNear G q) 17 [l0, l1] [en_I a0] σ ↔ en_J (X_X6_isNear G q) 21 [l0, l1] [en_I a0] σ := en_j1 d_X6_isNear_17 rfl ⟨rfl, by decide⟩
theorem d_X6_isNear_20 : decode cX6_isNear 20 = .ok (.iconst 0, 1) := by decide +kernel
theorem j_X6_isNear_20 {G : en_G} {q : Option en_V → en_S → Prop}  {l0 l1 : en_V}  {σ : en_S} : en_J (X_X6_isNear G q) 20 [l0, l1] [] σ ↔ en_J (X_X6_isNear G q) 21 [l0, l1] [en_I 0] σ := ej_iconst d_X6_isNear_20 (by decide +kernel)
theorem d_X6_isNear_21 : decode cX6_isNear 21 = .ok (.ireturn, 1) := by decide +kernel
theorem j_X6_isNear_21 {G : en_G} {q : Option en_V → en_S → Prop}  {l0 l1 : en_V} {a0 : Int32} {σ : en_S} : en_J (X_X6_isNear G q) 21 [l0, l1] [en_I a0] σ ↔ (a0 = 0 ∨ a0 = 1) ∧ q (some (en_I a0)) σ := en_jr d_X6_isNear_21 rfl ⟨fun h => ⟨h.2.1.elim (fun z => absurd (show (2 : Nat) = 1 from z) (by decide)) (fun z => z.2), h.2.2⟩, fun h => ⟨rfl, Or.inr ⟨rfl, h.1⟩, h.2⟩⟩
theorem wc_X6_isNear : Jvm.Cond.code yX6_isNear cX6_isNear 2 (some .boolean) ∈ en_W := en_inW (List.mem_of_getElem? (i := 623) (by decide +kernel)) (by decide +kernel)
theorem ws_X6_isNear : Jvm.Cond.static yX6_isNear ∈ en_W := en_inW (List.mem_of_getElem? (i := 622) (by decide +kernel)) (by decide +kernel)
theorem jp_X6_isNear {G : en_G} : ∀ as σ, C_X6_isNear.1 as σ → (en_lc as).length ≤ 2 ∧ en_J (X_X6_isNear G (fun r σ' => C_X6_isNear.2 as σ r σ')) 0 (en_loc 2 as) [] σ := by
  rintro as σ ⟨x, rfl, hc⟩
  refine ⟨Nat.le_of_ble_eq_true rfl, ?_⟩
  show en_J _ 0 [en_D x, en_U] [] σ
  simp only [j_X6_isNear_0, j_X6_isNear_1, j_X6_isNear_4, j_X6_isNear_5, j_X6_isNear_8, j_X6_isNear_9, j_X6_isNear_12, j_X6_isNear_13, j_X6_isNear_16, j_X6_isNear_17, j_X6_isNear_20, j_X6_isNear_21, en_c2I, en_c2R, en_c2U, en_c2D, Option.some.injEq, exists_eq_left', exists_eq_left, Option.map_some, Option.map_none, not_true_eq_false, false_implies, true_implies, and_true, true_and, reduceCtorEq, not_false_eq_true]
  refine ⟨fun h => ⟨by simp, x, rfl, rfl, ?_⟩, fun h => ⟨fun h2 => ⟨by simp, x, rfl, rfl, ?_⟩, fun h2 => ⟨by simp, x, rfl, rfl, ?_⟩⟩⟩
  · rw [if_neg (fun z => z.1 h)]
  · rw [if_neg (fun z => z.2 h2)]
  · rw [if_pos ⟨h, h2⟩]
theorem ok_X6_isNear {G : en_G}  : en_Ok G 1 yX6_isNear cX6_isNear 2 (some .boolean) C_X6_isNear :=
  en_met (own := RX6) (fl := en_lk fl6) (nw := en_lk nw6) (aw := en_lk aw6) (dc := en_lk dc6) (ca := en_lk (ca_X6_isNear G)) (rt := 2) (ini := false) (by decide +kernel) (Or.inr (Or.inr (Or.inl ⟨rfl, rfl⟩))) (fun h => by cases h) rfl (fun q => en_LkF fl6_ok nw6_ok aw6_ok dc6_ok) (fun idx q hq => by cases hq) jp_X6_isNear
def C_X0_init : en_C := (fun as σ => ∃ (a : Nat), as = [en_R (some a)] ∧ True, fun as σ r σ' => ∃ (a : Nat), as = [en_R (some a)] ∧ (r = none ∧ σ' = σ))
theorem pr_X0_init : ∀ as σ, C_X0_init.1 as σ → ∃ b tl, as = en_R (some b) :: tl ∧ tl.length = 0 := fun as σ ⟨a, h1, h2⟩ => ⟨_, _, h1, rfl⟩
def ca_X0_init (G : en_G) : List (Nat × Nat × en_C) := [(1, 6, en_Cobj)]
def X_X0_init (G : en_G) (q : Option en_V → en_S → Prop) : en_X := en_mk G cX0_init (en_lk fi0) (en_lk nw0) (en_lk aw0) (en_lk dc0) (en_lk (ca_X0_init G)) 0 true q
theorem d_X0_init_0 : decode cX0_init 0 = .ok (.aload_n 0, 1) := by decide +kernel
theorem j_X0_init_0 {G : en_G} {q : Option en_V → en_S → Prop}  {x0 : Option Nat} {σ : en_S} : en_J (X_X0_init G q) 0 [en_R x0] [] σ ↔ en_J (X_X0_init G q) 1 [en_R x0] [en_R x0] σ := en_j1 d_X0_init_0 rfl rfl
theorem d_X0_init_1 : decode cX0_init 1 = .ok (.invokespecial 1, 3) := by decide +kernel
theorem j_X0_init_1 {G : en_G} {q : Option en_V → en_S → Prop}  {l0 : en_V} {a0 : Option Nat} {σ : en_S} : en_J (X_X0_init G q) 1 [l0] [en_R a0] σ ↔ en_Cobj.1 [en_R a0] σ ∧ ∀ (r : Option en_V) (σ' : en_S), en_Cobj.2 [en_R a0] σ r σ' → en_J (X_X0_init G q) 4 [l0] (r.toList ++ []) σ' := en_jk d_X0_init_1 rfl ⟨fun h => h.2.2.2.2, fun h => ⟨rfl, rfl, Nat.le_of_ble_eq_true rfl, Nat.le_of_ble_eq_true rfl, h⟩⟩
theorem d_X0_init_4 : decode cX0_init 4 = .ok (.return_, 1) := by decide +kernel
theorem j_X0_init_4 {G : en_G} {q : Option en_V → en_S → Prop}  {l0 : en_V}  {σ : en_S} : en_J (X_X0_init G q) 4 [l0] [] σ ↔ q none σ := en_jr d_X0_init_4 rfl ⟨fun h => h.2.2, fun h => ⟨rfl, rfl, h⟩⟩
theorem wc_X0_init : Jvm.Cond.code yX0_init cX0_init 1 none ∈ en_W := en_inW (List.mem_of_getElem? (i := 631) (by decide +kernel)) (by decide +kernel)
theorem wi_X0_init : Jvm.Cond.instanceMethod yX0_init ∈ en_W := en_inW (List.mem_of_getElem? (i := 630) (by decide +kernel)) (by decide +kernel)
theorem jp_X0_init {G : en_G} : ∀ as σ, C_X0_init.1 as σ → (en_lc as).length ≤ 1 ∧ en_J (X_X0_init G (fun r σ' => C_X0_init.2 as σ r σ')) 0 (en_loc 1 as) [] σ := by
  rintro as σ ⟨a, rfl, hc⟩
  refine ⟨Nat.le_of_ble_eq_true rfl, ?_⟩
  show en_J _ 0 [en_R (some a)] [] σ
  simp only [j_X0_init_0, j_X0_init_1]
  refine ⟨⟨a, rfl⟩, ?_⟩
  rintro r σ' ⟨rfl, rfl⟩
  simp only [Option.toList, List.nil_append, j_X0_init_0, j_X0_init_1, j_X0_init_4]
  exact ⟨a, rfl, rfl, rfl⟩
theorem wl_X0_init_1 : Jvm.Cond.methodLink RX0 1 Lib.objectInit ∈ en_W := en_inW (List.mem_of_getElem? (i := 632) (by decide +kernel)) (by decide +kernel)
theorem ok_X0_init {G : en_G}  : en_Ok G 1 yX0_init cX0_init 1 none C_X0_init :=
  en_met (own := RX0) (fl := en_lk fi0) (nw := en_lk nw0) (aw := en_lk aw0) (dc := en_lk dc0) (ca := en_lk (ca_X0_init G)) (rt := 0) (ini := true) (by decide +kernel) (Or.inl ⟨rfl, rfl⟩) (fun _ => rfl) rfl (fun q => en_LkI fi0_ok nw0_ok aw0_ok dc0_ok) (by
    intro idx q hq
    have hm := en_lk_mem hq
    simp only [ca_X0_init, List.mem_cons, Prod.mk.injEq, List.not_mem_nil, or_false] at hm
    rcases hm with ⟨rfl, rfl⟩
    · exact en_clO (by decide) wl_X0_init_1) jp_X0_init
def C_X5_init (G : en_G) : en_C := (fun as σ => ∃ (a : Nat), as = [en_R (some a)] ∧ en_cl σ a = some 5 ∧ en_nx σ + 2 ≤ G.2.2.2.2.1 ∧ en_ns σ + 10 ≤ G.2.2.2.2.2, fun as σ r σ' => ∃ (a : Nat), as = [en_R (some a)] ∧ (r = none ∧ σ' = en_sfr (en_newa (en_sfr (en_newa σ 0 5) 500 a (some (en_nx σ))) 0 5) 501 a (some (en_nx σ + 1))))
theorem pr_X5_init {G : en_G} : ∀ as σ, (C_X5_init G).1 as σ → ∃ b tl, as = en_R (some b) :: tl ∧ tl.length = 0 := fun as σ ⟨a, h1, h2⟩ => ⟨_, _, h1, rfl⟩
def ca_X5_init (G : en_G) : List (Nat × Nat × en_C) := [(3, 6, en_Cobj)]
def X_X5_init (G : en_G) (q : Option en_V → en_S → Prop) : en_X := en_mk G cX5_init (en_lk fi5) (en_lk nw5) (en_lk aw5) (en_lk dc5) (en_lk (ca_X5_init G)) 0 true q
theorem d_X5_init_0 : decode cX5_init 0 = .ok (.aload_n 0, 1) := by decide +kernel
theorem j_X5_init_0 {G : en_G} {q : Option en_V → en_S → Prop}  {x0 : Option Nat} {σ : en_S} : en_J (X_X5_init G q) 0 [en_R x0] [] σ ↔ en_J (X_X5_init G q) 1 [en_R x0] [en_R x0] σ := en_j1 d_X5_init_0 rfl rfl
theorem d_X5_init_1 : decode cX5_init 1 = .ok (.invokespecial 3, 3) := by decide +kernel
theorem j_X5_init_1 {G : en_G} {q : Option en_V → en_S → Prop}  {l0 : en_V} {a0 : Option Nat} {σ : en_S} : en_J (X_X5_init G q) 1 [l0] [en_R a0] σ ↔ en_Cobj.1 [en_R a0] σ ∧ ∀ (r : Option en_V) (σ' : en_S), en_Cobj.2 [en_R a0] σ r σ' → en_J (X_X5_init G q) 4 [l0] (r.toList ++ []) σ' := en_jk d_X5_init_1 rfl ⟨fun h => h.2.2.2.2, fun h => ⟨rfl, rfl, Nat.le_of_ble_eq_true rfl, Nat.le_of_ble_eq_true rfl, h⟩⟩
theorem d_X5_init_4 : decode cX5_init 4 = .ok (.aload_n 0, 1) := by decide +kernel
theorem j_X5_init_4 {G : en_G} {q : Option en_V → en_S → Prop}  {x0 : Option Nat} {σ : en_S} : en_J (X_X5_init G q) 4 [en_R x0] [] σ ↔ en_J (X_X5_init G q) 5 [en_R x0] [en_R x0] σ := en_j1 d_X5_init_4 rfl rfl
theorem d_X5_init_5 : decode cX5_init 5 = .ok (.iconst 5, 1) := by decide +kernel
theorem j_X5_init_5 {G : en_G} {q : Option en_V → en_S → Prop}  {l0 : en_V} {a0 : Option Nat} {σ : en_S} : en_J (X_X5_init G q) 5 [l0] [en_R a0] σ ↔ en_J (X_X5_init G q) 6 [l0] [en_I 5, en_R a0] σ := ej_iconst d_X5_init_5 (by decide +kernel)
theorem d_X5_init_6 : decode cX5_init 6 = .ok (.newarray .int, 2) := by decide +kernel
theorem j_X5_init_6 {G : en_G} {q : Option en_V → en_S → Prop}  {l0 : en_V} {a1 : Option Nat} {σ : en_S} : en_J (X_X5_init G q) 6 [l0] [en_I 5, en_R a1] σ ↔ (en_nx σ + 1 ≤ G.2.2.2.2.1 ∧ en_ns σ + 5 ≤ G.2.2.2.2.2) ∧ en_J (X_X5_init G q) 8 [l0] [en_R (some (en_nx σ)), en_R a1] (en_newa σ 0 5) := ej_newa (m := 2) (t := 0) d_X5_init_6 rfl rfl (by decide +kernel) (by decide +kernel) (by decide)
theorem d_X5_init_8 : decode cX5_init 8 = .ok (.putfield 9, 3) := by decide +kernel
theorem j_X5_init_8 {G : en_G} {q : Option en_V → en_S → Prop}  {l0 : en_V} {a0 : Option Nat} {a1 : Option Nat} {σ : en_S} : en_J (X_X5_init G q) 8 [l0] [en_R a0, en_R a1] σ ↔ ∃ a, a1 = some a ∧ en_cl σ a = some 5 ∧ en_J (X_X5_init G q) 11 [l0] [] (en_sfr σ 500 a a0) := en_jg (st := fun o => [en_R a0, en_R o]) (st' := fun _ => []) (σ' := fun a => en_sfr σ 500 a a0) d_X5_init_8 rfl (fun a => rfl) (fun a => ⟨fun h => h.2.1, fun h => ⟨rfl, h, trivial, fun _ => rfl⟩⟩)
theorem d_X5_init_11 : decode cX5_init 11 = .ok (.aload_n 0, 1) := by decide +kernel
theorem j_X5_init_11 {G : en_G} {q : Option en_V → en_S → Prop}  {x0 : Option Nat} {σ : en_S} : en_J (X_X5_init G q) 11 [en_R x0] [] σ ↔ en_J (X_X5_init G q) 12 [en_R x0] [en_R x0] σ := en_j1 d_X5_init_11 rfl rfl
theorem d_X5_init_12 : decode cX5_init 12 = .ok (.iconst 5, 1) := by decide +kernel
theorem j_X5_init_12 {G : en_G} {q : Option en_V → en_S → Prop}  {l0 : en_V} {a0 : Option Nat} {σ : en_S} : en_J (X_X5_init G q) 12 [l0] [en_R a0] σ ↔ en_J (X_X5_init G q) 13 [l0] [en_I 5, en_R a0] σ := ej_iconst d_X5_init_12 (by decide +kernel)
theorem d_X5_init_13 : decode cX5_init 13 = .ok (.newarray .int, 2) := by decide +kernel
theorem j_X5_init_13 {G : en_G} {q : Option en_V → en_S → Prop}  {l0 : en_V} {a1 : Option Nat} {σ : en_S} : en_J (X_X5_init G q) 13 [l0] [en_I 5, en_R a1] σ ↔ (en_nx σ + 1 ≤ G.2.2.2.2.1 ∧ en_ns σ + 5 ≤ G.2.2.2.2.2) ∧ en_J (X_X5_init G q) 15 [l0] [en_R (some (en_nx σ)), en_R a1] (en_newa σ 0 5) := ej_newa (m := 2) (t := 0) d_X5_init_13 rfl rfl (by decide +kernel) (by decide +kernel) (by decide)
theorem d_X5_init_15 : decode cX5_init 15 = .ok (.putfield 15, 3) := by decide +kernel
theorem j_X5_init_15 {G : en_G} {q : Option en_V → en_S → Prop}  {l0 : en_V} {a0 : Option Nat} {a1 : Option Nat} {σ : en_S} : en_J (X_X5_init G q) 15 [l0] [en_R a0, en_R a1] σ ↔ ∃ a, a1 = some a ∧ en_cl σ a = some 5 ∧ en_J (X_X5_init G q) 18 [l0] [] (en_sfr σ 501 a a0) := en_jg (st := fun o => [en_R a0, en_R o]) (st' := fun _ => []) (σ' := fun a => en_sfr σ 501 a a0) d_X5_init_15 rfl (fun a => rfl) (fun a => ⟨fun h => h.2.1, fun h => ⟨rfl, h, trivial, fun _ => rfl⟩⟩)
theorem d_X5_init_18 : decode cX5_init 18 = .ok (.return_, 1) := by decide +kernel
theorem j_X5_init_18 {G : en_G} {q : Option en_V → en_S → Prop}  {l0 : en_V}  {σ : en_S} : en_J (X_X5_init G q) 18 [l0] [] σ ↔ q none σ := en_jr d_X5_init_18 rfl ⟨fun h => h.2.2, fun h => ⟨rfl, rfl, h⟩⟩
theorem wc_X5_init : Jvm.Cond.code yX5_init cX5_init 1 none ∈ en_W := en_inW (List.mem_of_getElem? (i := 139) (by decide +kernel)) (by decide +kernel)
theorem wi_X5_init : Jvm.Cond.instanceMethod yX5_init ∈ en_W := en_inW (List.mem_of_getElem? (i := 138) (by decide +kernel)) (by decide +kernel)
theorem jp_X5_init {G : en_G} : ∀ as σ, (C_X5_init G).1 as σ → (en_lc as).length ≤ 1 ∧ en_J (X_X5_init G (fun r σ' => (C_X5_init G).2 as σ r σ')) 0 (en_loc 1 as) [] σ := by
  rintro as σ ⟨a, rfl, hc⟩
  refine ⟨Nat.le_of_ble_eq_true rfl, ?_⟩
  show en_J _ 0 [en_R (some a)] [] σ
  obtain ⟨h1, h2, h3⟩ := hc
  simp only [j_X5_init_0, j_X5_init_1]
  refine ⟨⟨a, rfl⟩, ?_⟩
  rintro r σ' ⟨rfl, rfl⟩
  simp only [Option.toList, List.nil_append, j_X5_init_0, j_X5_init_1, j_X5_init_4, j_X5_init_5, j_X5_init_6, j_X5_init_8, j_X5_init_11, j_X5_init_12, j_X5_init_13, j_X5_init_15, j_X5_init_18, en_c2I, en_c2R, en_c2U, en_c2D, Option.some.injEq, exists_eq_left', exists_eq_left, Option.map_some, Option.map_none, not_true_eq_false, false_implies, true_implies, and_true, true_and, reduceCtorEq, not_false_eq_true, eg_cl_sfi, eg_fi_sfi, eg_fr_sfi, eg_fd_sfi, eg_al_sfi, eg_ai_sfi, eg_ar_sfi, eg_ad_sfi, eg_aj_sfi, eg_nx_sfi, eg_ns_sfi, eg_cl_sfr, eg_fi_sfr, eg_fr_sfr, eg_fd_sfr, eg_al_sfr, eg_ai_sfr, eg_ar_sfr, eg_ad_sfr, eg_aj_sfr, eg_nx_sfr, eg_ns_sfr, eg_cl_sfd, eg_fi_sfd, eg_fr_sfd, eg_fd_sfd, eg_al_sfd, eg_ai_sfd, eg_ar_sfd, eg_ad_sfd, eg_aj_sfd, eg_nx_sfd, eg_ns_sfd, eg_cl_sai, eg_fi_sai, eg_fr_sai, eg_fd_sai, eg_al_sai, eg_ai_sai, eg_ar_sai, eg_ad_sai, eg_aj_sai, eg_nx_sai, eg_ns_sai, eg_cl_sar, eg_fi_sar, eg_fr_sar, eg_fd_sar, eg_al_sar, eg_ai_sar, eg_ar_sar, eg_ad_sar, eg_aj_sar, eg_nx_sar, eg_ns_sar, eg_cl_sad, eg_fi_sad, eg_fr_sad, eg_fd_sad, eg_al_sad, eg_ai_sad, eg_ar_sad, eg_ad_sad, eg_aj_sad, eg_nx_sad, eg_ns_sad, eg_cl_saj, eg_fi_saj, eg_fr_saj, eg_fd_saj, eg_al_saj, eg_ai_saj, eg_ar_saj, eg_ad_saj, eg_aj_saj, eg_nx_saj, eg_ns_saj, eg_cl_new, eg_fi_new, eg_fr_new, eg_fd_new, eg_al_new, eg_ai_new, eg_ar_new, eg_ad_new, eg_aj_new, eg_nx_new, eg_ns_new, eg_cl_newa, eg_fi_newa, eg_fr_newa, eg_fd_newa, eg_al_newa, eg_ai_newa, eg_ar_newa, eg_ad_newa, eg_aj_newa, eg_nx_newa, eg_ns_newa, eg_cl_bump, eg_fi_bump, eg_fr_bump, eg_fd_bump, eg_al_bump, eg_ai_bump, eg_ar_bump, eg_ad_bump, eg_aj_bump, eg_nx_bump, eg_ns_bump, h1]
  exact ⟨⟨by omega, by omega⟩, ⟨by omega, by omega⟩, a, rfl, rfl, rfl⟩
theorem wl_X5_init_3 : Jvm.Cond.methodLink RX5 3 Lib.objectInit ∈ en_W := en_inW (List.mem_of_getElem? (i := 140) (by decide +kernel)) (by decide +kernel)
theorem ok_X5_init {G : en_G}  : en_Ok G 1 yX5_init cX5_init 1 none (C_X5_init G) :=
  en_met (own := RX5) (fl := en_lk fi5) (nw := en_lk nw5) (aw := en_lk aw5) (dc := en_lk dc5) (ca := en_lk (ca_X5_init G)) (rt := 0) (ini := true) (by decide +kernel) (Or.inl ⟨rfl, rfl⟩) (fun _ => rfl) rfl (fun q => en_LkI fi5_ok nw5_ok aw5_ok dc5_ok) (by
    intro idx q hq
    have hm := en_lk_mem hq
    simp only [ca_X5_init, List.mem_cons, Prod.mk.injEq, List.not_mem_nil, or_false] at hm
    rcases hm with ⟨rfl, rfl⟩
    · exact en_clO (by decide) wl_X5_init_3) jp_X5_init
def C_X1_init (G : en_G) : en_C := (fun as σ => ∃ (a : Nat), as = [en_R (some a)] ∧ en_cl σ a = some 1 ∧ en_nx σ + 1 ≤ G.2.2.2.2.1 ∧ en_ns σ + 160 ≤ G.2.2.2.2.2, fun as σ r σ' => ∃ (a : Nat), as = [en_R (some a)] ∧ (r = none ∧ σ' = en_sfr (en_newa σ 0 160) 100 a (some (en_nx σ))))
theorem pr_X1_init {G : en_G} : ∀ as σ, (C_X1_init G).1 as σ → ∃ b tl, as = en_R (some b) :: tl ∧ tl.length = 0 := fun as σ ⟨a, h1, h2⟩ => ⟨_, _, h1, rfl⟩
def ca_X1_init (G : en_G) : List (Nat × Nat × en_C) := [(3, 6, en_Cobj)]
def X_X1_init (G : en_G) (q : Option en_V → en_S → Prop) : en_X := en_mk G cX1_init (en_lk fi1) (en_lk nw1) (en_lk aw1) (en_lk dc1) (en_lk (ca_X1_init G)) 0 true q
theorem d_X1_init_0 : decode cX1_init 0 = .ok (.aload_n 0, 1) := by decide +kernel
theorem j_X1_init_0 {G : en_G} {q : Option en_V → en_S → Prop}  {x0 : Option Nat} {σ : en_S} : en_J (X_X1_init G q) 0 [en_R x0] [] σ ↔ en_J (X_X1_init G q) 1 [en_R x0] [en_R x0] σ := en_j1 d_X1_init_0 rfl rfl
theorem d_X1_init_1 : decode cX1_init 1 = .ok (.invokespecial 3, 3) := by decide +kernel
theorem j_X1_init_1 {G : en_G} {q : Option en_V → en_S → Prop}  {l0 : en_V} {a0 : Option Nat} {σ : en_S} : en_J (X_X1_init G q) 1 [l0] [en_R a0] σ ↔ en_Cobj.1 [en_R a0] σ ∧ ∀ (r : Option en_V) (σ' : en_S), en_Cobj.2 [en_R a0] σ r σ' → en_J (X_X1_init G q) 4 [l0] (r.toList ++ []) σ' := en_jk d_X1_init_1 rfl ⟨fun h => h.2.2.2.2, fun h => ⟨rfl, rfl, Nat.le_of_ble_eq_true rfl, Nat.le_of_ble_eq_true rfl, h⟩⟩
theorem d_X1_init_4 : decode cX1_init 4 = .ok (.aload_n 0, 1) := by decide +kernel
theorem j_X1_init_4 {G : en_G} {q : Option en_V → en_S → Prop}  {x0 : Option Nat} {σ : en_S} : en_J (X_X1_init G q) 4 [en_R x0] [] σ ↔ en_J (X_X1_init G q) 5 [en_R x0] [en_R x0] σ := en_j1 d_X1_init_4 rfl rfl
theorem d_X1_init_5 : decode cX1_init 5 = .ok (.sipush 160, 3) := by decide +kernel
theorem j_X1_init_5 {G : en_G} {q : Option en_V → en_S → Prop}  {l0 : en_V} {a0 : Option Nat} {σ : en_S} : en_J (X_X1_init G q) 5 [l0] [en_R a0] σ ↔ en_J (X_X1_init G q) 8 [l0] [en_I 160, en_R a0] σ := ej_sipush d_X1_init_5 (by decide +kernel)
theorem d_X1_init_8 : decode cX1_init 8 = .ok (.newarray .int, 2) := by decide +kernel
theorem j_X1_init_8 {G : en_G} {q : Option en_V → en_S → Prop}  {l0 : en_V} {a1 : Option Nat} {σ : en_S} : en_J (X_X1_init G q) 8 [l0] [en_I 160, en_R a1] σ ↔ (en_nx σ + 1 ≤ G.2.2.2.2.1 ∧ en_ns σ + 160 ≤ G.2.2.2.2.2) ∧ en_J (X_X1_init G q) 10 [l0] [en_R (some (en_nx σ)), en_R a1] (en_newa σ 0 160) := ej_newa (m := 2) (t := 0) d_X1_init_8 rfl rfl (by decide +kernel) (by decide +kernel) (by decide)
theorem d_X1_init_10 : decode cX1_init 10 = .ok (.putfield 9, 3) := by decide +kernel
theorem j_X1_init_10 {G : en_G} {q : Option en_V → en_S → Prop}  {l0 : en_V} {a0 : Option Nat} {a1 : Option Nat} {σ : en_S} : en_J (X_X1_init G q) 10 [l0] [en_R a0, en_R a1] σ ↔ ∃ a, a1 = some a ∧ en_cl σ a = some 1 ∧ en_J (X_X1_init G q) 13 [l0] [] (en_sfr σ 100 a a0) := en_jg (st := fun o => [en_R a0, en_R o]) (st' := fun _ => []) (σ' := fun a => en_sfr σ 100 a a0) d_X1_init_10 rfl (fun a => rfl) (fun a => ⟨fun h => h.2.1, fun h => ⟨rfl, h, trivial, fun _ => rfl⟩⟩)
theorem d_X1_init_13 : decode cX1_init 13 = .ok (.return_, 1) := by decide +kernel
theorem j_X1_init_13 {G : en_G} {q : Option en_V → en_S → Prop}  {l0 : en_V}  {σ : en_S} : en_J (X_X1_init G q) 13 [l0] [] σ ↔ q none σ := en_jr d_X1_init_13 rfl ⟨fun h => h.2.2, fun h => ⟨rfl, rfl, h⟩⟩
theorem wc_X1_init : Jvm.Cond.code yX1_init cX1_init 1 none ∈ en_W := en_inW (List.mem_of_getElem? (i := 76) (by decide +kernel)) (by decide +kernel)
theorem wi_X1_init : Jvm.Cond.instanceMethod yX1_init ∈ en_W := en_inW (List.mem_of_getElem? (i := 75) (by decide +kernel)) (by decide +kernel)
theorem jp_X1_init {G : en_G} : ∀ as σ, (C_X1_init G).1 as σ → (en_lc as).length ≤ 1 ∧ en_J (X_X1_init G (fun r σ' => (C_X1_init G).2 as σ r σ')) 0 (en_loc 1 as) [] σ := by
  rintro as σ ⟨a, rfl, hc⟩
  refine ⟨Nat.le_of_ble_eq_true rfl, ?_⟩
  show en_J _ 0 [en_R (some a)] [] σ
  obtain ⟨h1, h2, h3⟩ := hc
  simp only [j_X1_init_0, j_X1_init_1]
  refine ⟨⟨a, rfl⟩, ?_⟩
  rintro r σ' ⟨rfl, rfl⟩
  simp only [Option.toList, List.nil_append, j_X1_init_0, j_X1_init_1, j_X1_init_4, j_X1_init_5, j_X1_init_8, j_X1_init_10, j_X1_init_13, en_c2I, en_c2R, en_c2U, en_c2D, Option.some.injEq, exists_eq_left', exists_eq_left, Option.map_some, Option.map_none, not_true_eq_false, false_implies, true_implies, and_true, true_and, reduceCtorEq, not_false_eq_true, eg_cl_sfi, eg_fi_sfi, eg_fr_sfi, eg_fd_sfi, eg_al_sfi, eg_ai_sfi, eg_ar_sfi, eg_ad_sfi, eg_aj_sfi, eg_nx_sfi, eg_ns_sfi, eg_cl_sfr, eg_fi_sfr, eg_fr_sfr, eg_fd_sfr, eg_al_sfr, eg_ai_sfr, eg_ar_sfr, eg_ad_sfr, eg_aj_sfr, eg_nx_sfr, eg_ns_sfr, eg_cl_sfd, eg_fi_sfd, eg_fr_sfd, eg_fd_sfd, eg_al_sfd, eg_ai_sfd, eg_ar_sfd, eg_ad_sfd, eg_aj_sfd, eg_nx_sfd, eg_ns_sfd, eg_cl_sai, eg_fi_sai, eg_fr_sai, eg_fd_sai, eg_al_sai, eg_ai_sai, eg_ar_sai, eg_ad_sai, eg_aj_sai, eg_nx_sai, eg_ns_sai, eg_cl_sar, eg_fi_sar, eg_fr_sar, eg_fd_sar, eg_al_sar, eg_ai_sar, eg_ar_sar, eg_ad_sar, eg_aj_sar, eg_nx_sar, eg_ns_sar, eg_cl_sad, eg_fi_sad, eg_fr_sad, eg_fd_sad, eg_al_sad, eg_ai_sad, eg_ar_sad, eg_ad_sad, eg_aj_sad, eg_nx_sad, eg_ns_sad, eg_cl_saj, eg_fi_saj, eg_fr_saj, eg_fd_saj, eg_al_saj, eg_ai_saj, eg_ar_saj, eg_ad_saj, eg_aj_saj, eg_nx_saj, eg_ns_saj, eg_cl_new, eg_fi_new, eg_fr_new, eg_fd_new, eg_al_new, eg_ai_new, eg_ar_new, eg_ad_new, eg_aj_new, eg_nx_new, eg_ns_new, eg_cl_newa, eg_fi_newa, eg_fr_newa, eg_fd_newa, eg_al_newa, eg_ai_newa, eg_ar_newa, eg_ad_newa, eg_aj_newa, eg_nx_newa, eg_ns_newa, eg_cl_bump, eg_fi_bump, eg_fr_bump, eg_fd_bump, eg_al_bump, eg_ai_bump, eg_ar_bump, eg_ad_bump, eg_aj_bump, eg_nx_bump, eg_ns_bump, h1]
  exact ⟨⟨by omega, by omega⟩, a, rfl, rfl, rfl⟩
theorem wl_X1_init_3 : Jvm.Cond.methodLink RX1 3 Lib.objectInit ∈ en_W := en_inW (List.mem_of_getElem? (i := 77) (by decide +kernel)) (by decide +kernel)
theorem ok_X1_init {G : en_G}  : en_Ok G 1 yX1_init cX1_init 1 none (C_X1_init G) :=
  en_met (own := RX1) (fl := en_lk fi1) (nw := en_lk nw1) (aw := en_lk aw1) (dc := en_lk dc1) (ca := en_lk (ca_X1_init G)) (rt := 0) (ini := true) (by decide +kernel) (Or.inl ⟨rfl, rfl⟩) (fun _ => rfl) rfl (fun q => en_LkI fi1_ok nw1_ok aw1_ok dc1_ok) (by
    intro idx q hq
    have hm := en_lk_mem hq
    simp only [ca_X1_init, List.mem_cons, Prod.mk.injEq, List.not_mem_nil, or_false] at hm
    rcases hm with ⟨rfl, rfl⟩
    · exact en_clO (by decide) wl_X1_init_3) jp_X1_init
def C_X2_init (G : en_G) : en_C := (fun as σ => ∃ (a : Nat), as = [en_R (some a)] ∧ en_cl σ a = some 2 ∧ en_nx σ + 2 ≤ G.2.2.2.2.1 ∧ en_ns σ + 48 ≤ G.2.2.2.2.2, fun as σ r σ' => ∃ (a : Nat), as = [en_R (some a)] ∧ (r = none ∧ σ' = en_sfr (en_newa (en_sfr (en_newa σ 4 24) 200 a (some (en_nx σ))) 4 24) 201 a (some (en_nx σ + 1))))
theorem pr_X2_init {G : en_G} : ∀ as σ, (C_X2_init G).1 as σ → ∃ b tl, as = en_R (some b) :: tl ∧ tl.length = 0 := fun as σ ⟨a, h1, h2⟩ => ⟨_, _, h1, rfl⟩
def ca_X2_init (G : en_G) : List (Nat × Nat × en_C) := [(3, 6, en_Cobj)]
def X_X2_init (G : en_G) (q : Option en_V → en_S → Prop) : en_X := en_mk G cX2_init (en_lk fi2) (en_lk nw2) (en_lk aw2) (en_lk dc2) (en_lk (ca_X2_init G)) 0 true q
theorem d_X2_init_0 : decode cX2_init 0 = .ok (.aload_n 0, 1) := by decide +kernel
theorem j_X2_init_0 {G : en_G} {q : Option en_V → en_S → Prop}  {x0 : Option Nat} {σ : en_S} : en_J (X_X2_init G q) 0 [en_R x0] [] σ ↔ en_J (X_X2_init G q) 1 [en_R x0] [en_R x0] σ := en_j1 d_X2_init_0 rfl rfl
theorem d_X2_init_1 : decode cX2_init 1 = .ok (.invokespecial 3, 3) := by decide +kernel
theorem j_X2_init_1 {G : en_G} {q : Option en_V → en_S → Prop}  {l0 : en_V} {a0 : Option Nat} {σ : en_S} : en_J (X_X2_init G q) 1 [l0] [en_R a0] σ ↔ en_Cobj.1 [en_R a0] σ ∧ ∀ (r : Option en_V) (σ' : en_S), en_Cobj.2 [en_R a0] σ r σ' → en_J (X_X2_init G q) 4 [l0] (r.toList ++ []) σ' := en_jk d_X2_init_1 rfl ⟨fun h => h.2.2.2.2, fun h => ⟨rfl, rfl, Nat.le_of_ble_eq_true rfl, Nat.le_of_ble_eq_true rfl, h⟩⟩
theorem d_X2_init_4 : decode cX2_init 4 = .ok (.aload_n 0, 1) := by decide +kernel
theorem j_X2_init_4 {G : en_G} {q : Option en_V → en_S → Prop}  {x0 : Option Nat} {σ : en_S} : en_J (X_X2_init G q) 4 [en_R x0] [] σ ↔ en_J (X_X2_init G q) 5 [en_R x0] [en_R x0] σ := en_j1 d_X2_init_4 rfl rfl
theorem d_X2_init_5 : decode cX2_init 5 = .ok (.bipush 24, 2) := by decide +kernel
theorem j_X2_init_5 {G : en_G} {q : Option en_V → en_S → Prop}  {l0 : en_V} {a0 : Option Nat} {σ : en_S} : en_J (X_X2_init G q) 5 [l0] [en_R a0] σ ↔ en_J (X_X2_init G q) 7 [l0] [en_I 24, en_R a0] σ := ej_bipush d_X2_init_5 (by decide +kernel)
theorem d_X2_init_7 : decode cX2_init 7 = .ok (.anewarray 9, 3) := by decide +kernel
theorem j_X2_init_7 {G : en_G} {q : Option en_V → en_S → Prop}  {l0 : en_V} {a1 : Option Nat} {σ : en_S} : en_J (X_X2_init G q) 7 [l0] [en_I 24, en_R a1] σ ↔ (en_nx σ + 1 ≤ G.2.2.2.2.1 ∧ en_ns σ + 24 ≤ G.2.2.2.2.2) ∧ en_J (X_X2_init G q) 10 [l0] [en_R (some (en_nx σ)), en_R a1] (en_newa σ 4 24) := ej_newa (m := 3) (t := 4) d_X2_init_7 rfl rfl (by decide +kernel) (by decide +kernel) (by decide)
theorem d_X2_init_10 : decode cX2_init 10 = .ok (.putfield 11, 3) := by decide +kernel
theorem j_X2_init_10 {G : en_G} {q : Option en_V → en_S → Prop}  {l0 : en_V} {a0 : Option Nat} {a1 : Option Nat} {σ : en_S} : en_J (X_X2_init G q) 10 [l0] [en_R a0, en_R a1] σ ↔ ∃ a, a1 = some a ∧ en_cl σ a = some 2 ∧ en_J (X_X2_init G q) 13 [l0] [] (en_sfr σ 200 a a0) := en_jg (st := fun o => [en_R a0, en_R o]) (st' := fun _ => []) (σ' := fun a => en_sfr σ 200 a a0) d_X2_init_10 rfl (fun a => rfl) (fun a => ⟨fun h => h.2.1, fun h => ⟨rfl, h, trivial, fun _ => rfl⟩⟩)
theorem d_X2_init_13 : decode cX2_init 13 = .ok (.aload_n 0, 1) := by decide +kernel
theorem j_X2_init_13 {G : en_G} {q : Option en_V → en_S → Prop}  {x0 : Option Nat} {σ : en_S} : en_J (X_X2_init G q) 13 [en_R x0] [] σ ↔ en_J (X_X2_init G q) 14 [en_R x0] [en_R x0] σ := en_j1 d_X2_init_13 rfl rfl
theorem d_X2_init_14 : decode cX2_init 14 = .ok (.bipush 24, 2) := by decide +kernel
theorem j_X2_init_14 {G : en_G} {q : Option en_V → en_S → Prop}  {l0 : en_V} {a0 : Option Nat} {σ : en_S} : en_J (X_X2_init G q) 14 [l0] [en_R a0] σ ↔ en_J (X_X2_init G q) 16 [l0] [en_I 24, en_R a0] σ := ej_bipush d_X2_init_14 (by decide +kernel)
theorem d_X2_init_16 : decode cX2_init 16 = .ok (.anewarray 9, 3) := by decide +kernel
theorem j_X2_init_16 {G : en_G} {q : Option en_V → en_S → Prop}  {l0 : en_V} {a1 : Option Nat} {σ : en_S} : en_J (X_X2_init G q) 16 [l0] [en_I 24, en_R a1] σ ↔ (en_nx σ + 1 ≤ G.2.2.2.2.1 ∧ en_ns σ + 24 ≤ G.2.2.2.2.2) ∧ en_J (X_X2_init G q) 19 [l0] [en_R (some (en_nx σ)), en_R a1] (en_newa σ 4 24) := ej_newa (m := 3) (t := 4) d_X2_init_16 rfl rfl (by decide +kernel) (by decide +kernel) (by decide)
theorem d_X2_init_19 : decode cX2_init 19 = .ok (.putfield 17, 3) := by decide +kernel
theorem j_X2_init_19 {G : en_G} {q : Option en_V → en_S → Prop}  {l0 : en_V} {a0 : Option Nat} {a1 : Option Nat} {σ : en_S} : en_J (X_X2_init G q) 19 [l0] [en_R a0, en_R a1] σ ↔ ∃ a, a1 = some a ∧ en_cl σ a = some 2 ∧ en_J (X_X2_init G q) 22 [l0] [] (en_sfr σ 201 a a0) := en_jg (st := fun o => [en_R a0, en_R o]) (st' := fun _ => []) (σ' := fun a => en_sfr σ 201 a a0) d_X2_init_19 rfl (fun a => rfl) (fun a => ⟨fun h => h.2.1, fun h => ⟨rfl, h, trivial, fun _ => rfl⟩⟩)
theorem d_X2_init_22 : decode cX2_init 22 = .ok (.return_, 1) := by decide +kernel
theorem j_X2_init_22 {G : en_G} {q : Option en_V → en_S → Prop}  {l0 : en_V}  {σ : en_S} : en_J (X_X2_init G q) 22 [l0] [] σ ↔ q none σ := en_jr d_X2_init_22 rfl ⟨fun h => h.2.2, fun h => ⟨rfl, rfl, h⟩⟩
theorem wc_X2_init : Jvm.Cond.code yX2_init cX2_init 1 none ∈ en_W := en_inW (List.mem_of_getElem? (i := 155) (by decide +kernel)) (by decide +kernel)
theorem wi_X2_init : Jvm.Cond.instanceMethod yX2_init ∈ en_W := en_inW (List.mem_of_getElem? (i := 154) (by decide +kernel)) (by decide +kernel)
theorem jp_X2_init {G : en_G} : ∀ as σ, (C_X2_init G).1 as σ → (en_lc as).length ≤ 1 ∧ en_J (X_X2_init G (fun r σ' => (C_X2_init G).2 as σ r σ')) 0 (en_loc 1 as) [] σ := by
  rintro as σ ⟨a, rfl, hc⟩
  refine ⟨Nat.le_of_ble_eq_true rfl, ?_⟩
  show en_J _ 0 [en_R (some a)] [] σ
  obtain ⟨h1, h2, h3⟩ := hc
  simp only [j_X2_init_0, j_X2_init_1]
  refine ⟨⟨a, rfl⟩, ?_⟩
  rintro r σ' ⟨rfl, rfl⟩
  simp only [Option.toList, List.nil_append, j_X2_init_0, j_X2_init_1, j_X2_init_4, j_X2_init_5, j_X2_init_7, j_X2_init_10, j_X2_init_13, j_X2_init_14, j_X2_init_16, j_X2_init_19, j_X2_init_22, en_c2I, en_c2R, en_c2U, en_c2D, Option.some.injEq, exists_eq_left', exists_eq_left, Option.map_some, Option.map_none, not_true_eq_false, false_implies, true_implies, and_true, true_and, reduceCtorEq, not_false_eq_true, eg_cl_sfi, eg_fi_sfi, eg_fr_sfi, eg_fd_sfi, eg_al_sfi, eg_ai_sfi, eg_ar_sfi, eg_ad_sfi, eg_aj_sfi, eg_nx_sfi, eg_ns_sfi, eg_cl_sfr, eg_fi_sfr, eg_fr_sfr, eg_fd_sfr, eg_al_sfr, eg_ai_sfr, eg_ar_sfr, eg_ad_sfr, eg_aj_sfr, eg_nx_sfr, eg_ns_sfr, eg_cl_sfd, eg_fi_sfd, eg_fr_sfd, eg_fd_sfd, eg_al_sfd, eg_ai_sfd, eg_ar_sfd, eg_ad_sfd, eg_aj_sfd, eg_nx_sfd, eg_ns_sfd, eg_cl_sai, eg_fi_sai, eg_fr_sai, eg_fd_sai, eg_al_sai, eg_ai_sai, eg_ar_sai, eg_ad_sai, eg_aj_sai, eg_nx_sai, eg_ns_sai, eg_cl_sar, eg_fi_sar, eg_fr_sar, eg_fd_sar, eg_al_sar, eg_ai_sar, eg_ar_sar, eg_ad_sar, eg_aj_sar, eg_nx_sar, eg_ns_sar, eg_cl_sad, eg_fi_sad, eg_fr_sad, eg_fd_sad, eg_al_sad, eg_ai_sad, eg_ar_sad, eg_ad_sad, eg_aj_sad, eg_nx_sad, eg_ns_sad, eg_cl_saj, eg_fi_saj, eg_fr_saj, eg_fd_saj, eg_al_saj, eg_ai_saj, eg_ar_saj, eg_ad_saj, eg_aj_saj, eg_nx_saj, eg_ns_saj, eg_cl_new, eg_fi_new, eg_fr_new, eg_fd_new, eg_al_new, eg_ai_new, eg_ar_new, eg_ad_new, eg_aj_new, eg_nx_new, eg_ns_new, eg_cl_newa, eg_fi_newa, eg_fr_newa, eg_fd_newa, eg_al_newa, eg_ai_newa, eg_ar_newa, eg_ad_newa, eg_aj_newa, eg_nx_newa, eg_ns_newa, eg_cl_bump, eg_fi_bump, eg_fr_bump, eg_fd_bump, eg_al_bump, eg_ai_bump, eg_ar_bump, eg_ad_bump, eg_aj_bump, eg_nx_bump, eg_ns_bump, h1]
  exact ⟨⟨by omega, by omega⟩, ⟨by omega, by omega⟩, a, rfl, rfl, rfl⟩
theorem wl_X2_init_3 : Jvm.Cond.methodLink RX2 3 Lib.objectInit ∈ en_W := en_inW (List.mem_of_getElem? (i := 156) (by decide +kernel)) (by decide +kernel)
theorem ok_X2_init {G : en_G}  : en_Ok G 1 yX2_init cX2_init 1 none (C_X2_init G) :=
  en_met (own := RX2) (fl := en_lk fi2) (nw := en_lk nw2) (aw := en_lk aw2) (dc := en_lk dc2) (ca := en_lk (ca_X2_init G)) (rt := 0) (ini := true) (by decide +kernel) (Or.inl ⟨rfl, rfl⟩) (fun _ => rfl) rfl (fun q => en_LkI fi2_ok nw2_ok aw2_ok dc2_ok) (by
    intro idx q hq
    have hm := en_lk_mem hq
    simp only [ca_X2_init, List.mem_cons, Prod.mk.injEq, List.not_mem_nil, or_false] at hm
    rcases hm with ⟨rfl, rfl⟩
    · exact en_clO (by decide) wl_X2_init_3) jp_X2_init
def C_X3_init : en_C := (fun as σ => ∃ (a : Nat) (n s : Option Nat) (t p : Int32), as = [en_R (some a), en_R n, en_I t, en_I p, en_R s] ∧ en_cl σ a = some 3, fun as σ r σ' => ∃ (a : Nat) (n s : Option Nat) (t p : Int32), as = [en_R (some a), en_R n, en_I t, en_I p, en_R s] ∧ (r = none ∧ σ' = en_sfr (en_sfi (en_sfi (en_sfr σ 300 a n) 301 a t) 302 a p) 303 a s))
theorem pr_X3_init : ∀ as σ, C_X3_init.1 as σ → ∃ b tl, as = en_R (some b) :: tl ∧ tl.length = 4 := fun as σ ⟨a, n, s, t, p, h1, h2⟩ => ⟨_, _, h1, rfl⟩
def ca_X3_init (G : en_G) : List (Nat × Nat × en_C) := [(3, 6, en_Cobj)]
def X_X3_init (G : en_G) (q : Option en_V → en_S → Prop) : en_X := en_mk G cX3_init (en_lk fi3) (en_lk nw3) (en_lk aw3) (en_lk dc3) (en_lk (ca_X3_init G)) 0 true q
theorem d_X3_init_0 : decode cX3_init 0 = .ok (.aload_n 0, 1) := by decide +kernel
theorem j_X3_init_0 {G : en_G} {q : Option en_V → en_S → Prop}  {l1 l2 l3 l4 : en_V} {x0 : Option Nat} {σ : en_S} : en_J (X_X3_init G q) 0 [en_R x0, l1, l2, l3, l4] [] σ ↔ en_J (X_X3_init G q) 1 [en_R x0, l1, l2, l3, l4] [en_R x0] σ := en_j1 d_X3_init_0 rfl rfl
theorem d_X3_init_1 : decode cX3_init 1 = .ok (.invokespecial 3, 3) := by decide +kernel
theorem j_X3_init_1 {G : en_G} {q : Option en_V → en_S → Prop}  {l0 l1 l2 l3 l4 : en_V} {a0 : Option Nat} {σ : en_S} : en_J (X_X3_init G q) 1 [l0, l1, l2, l3, l4] [en_R a0] σ ↔ en_Cobj.1 [en_R a0] σ ∧ ∀ (r : Option en_V) (σ' : en_S), en_Cobj.2 [en_R a0] σ r σ' → en_J (X_X3_init G q) 4 [l0, l1, l2, l3, l4] (r.toList ++ []) σ' := en_jk d_X3_init_1 rfl ⟨fun h => h.2.2.2.2, fun h => ⟨rfl, rfl, Nat.le_of_ble_eq_true rfl, Nat.le_of_ble_eq_true rfl, h⟩⟩
theorem d_X3_init_4 : decode cX3_init 4 = .ok (.aload_n 0, 1) := by decide +kernel
theorem j_X3_init_4 {G : en_G} {q : Option en_V → en_S → Prop}  {l1 l2 l3 l4 : en_V} {x0 : Option Nat} {σ : en_S} : en_J (X_X3_init G q) 4 [en_R x0, l1, l2, l3, l4] [] σ ↔ en_J (X_X3_init G q) 5 [en_R x0, l1, l2, l3, l4] [en_R x0] σ := en_j1 d_X3_init_4 rfl rfl
theorem d_X3_init_5 : decode cX3_init 5 = .ok (.aload_n 1, 1) := by decide +kernel
theorem j_X3_init_5 {G : en_G} {q : Option en_V → en_S → Prop}  {l0 l2 l3 l4 : en_V} {a0 : Option Nat} {x1 : Option Nat} {σ : en_S} : en_J (X_X3_init G q) 5 [l0, en_R x1, l2, l3, l4] [en_R a0] σ ↔ en_J (X_X3_init G q) 6 [l0, en_R x1, l2, l3, l4] [en_R x1, en_R a0] σ := en_j1 d_X3_init_5 rfl rfl
theorem d_X3_init_6 : decode cX3_init 6 = .ok (.putfield 9, 3) := by decide +kernel
theorem j_X3_init_6 {G : en_G} {q : Option en_V → en_S → Prop}  {l0 l1 l2 l3 l4 : en_V} {a0 : Option Nat} {a1 : Option Nat} {σ : en_S} : en_J (X_X3_init G q) 6 [l0, l1, l2, l3, l4] [en_R a0, en_R a1] σ ↔ ∃ a, a1 = some a ∧ en_cl σ a = some 3 ∧ en_J (X_X3_init G q) 9 [l0, l1, l2, l3, l4] [] (en_sfr σ 300 a a0) := en_jg (st := fun o => [en_R a0, en_R o]) (st' := fun _ => []) (σ' := fun a => en_sfr σ 300 a a0) d_X3_init_6 rfl (fun a => rfl) (fun a => ⟨fun h => h.2.1, fun h => ⟨rfl, h, trivial, fun _ => rfl⟩⟩)
theorem d_X3_init_9 : decode cX3_init 9 = .ok (.aload_n 0, 1) := by decide +kernel
theorem j_X3_init_9 {G : en_G} {q : Option en_V → en_S → Prop}  {l1 l2 l3 l4 : en_V} {x0 : Option Nat} {σ : en_S} : en_J (X_X3_init G q) 9 [en_R x0, l1, l2, l3, l4] [] σ ↔ en_J (X_X3_init G q) 10 [en_R x0, l1, l2, l3, l4] [en_R x0] σ := en_j1 d_X3_init_9 rfl rfl
theorem d_X3_init_10 : decode cX3_init 10 = .ok (.iload_n 2, 1) := by decide +kernel
theorem j_X3_init_10 {G : en_G} {q : Option en_V → en_S → Prop}  {l0 l1 l3 l4 : en_V} {a0 : Option Nat} {x2 : Int32} {σ : en_S} : en_J (X_X3_init G q) 10 [l0, l1, en_I x2, l3, l4] [en_R a0] σ ↔ en_J (X_X3_init G q) 11 [l0, l1, en_I x2, l3, l4] [en_I x2, en_R a0] σ := en_j1 d_X3_init_10 rfl rfl
theorem d_X3_init_11 : decode cX3_init 11 = .ok (.putfield 15, 3) := by decide +kernel
theorem j_X3_init_11 {G : en_G} {q : Option en_V → en_S → Prop}  {l0 l1 l2 l3 l4 : en_V} {a0 : Int32} {a1 : Option Nat} {σ : en_S} : en_J (X_X3_init G q) 11 [l0, l1, l2, l3, l4] [en_I a0, en_R a1] σ ↔ ∃ a, a1 = some a ∧ en_cl σ a = some 3 ∧ en_J (X_X3_init G q) 14 [l0, l1, l2, l3, l4] [] (en_sfi σ 301 a a0) := en_jg (st := fun o => [en_I a0, en_R o]) (st' := fun _ => []) (σ' := fun a => en_sfi σ 301 a a0) d_X3_init_11 rfl (fun a => rfl) (fun a => ⟨fun h => h.2.1, fun h => ⟨rfl, h, trivial, fun _ => rfl⟩⟩)
theorem d_X3_init_14 : decode cX3_init 14 = .ok (.aload_n 0, 1) := by decide +kernel
theorem j_X3_init_14 {G : en_G} {q : Option en_V → en_S → Prop}  {l1 l2 l3 l4 : en_V} {x0 : Option Nat} {σ : en_S} : en_J (X_X3_init G q) 14 [en_R x0, l1, l2, l3, l4] [] σ ↔ en_J (X_X3_init G q) 15 [en_R x0, l1, l2, l3, l4] [en_R x0] σ := en_j1 d_X3_init_14 rfl rfl
theorem d_X3_init_15 : decode cX3_init 15 = .ok (.iload_n 3, 1) := by decide +kernel
theorem j_X3_init_15 {G : en_G} {q : Option en_V → en_S → Prop}  {l0 l1 l2 l4 : en_V} {a0 : Option Nat} {x3 : Int32} {σ : en_S} : en_J (X_X3_init G q) 15 [l0, l1, l2, en_I x3, l4] [en_R a0] σ ↔ en_J (X_X3_init G q) 16 [l0, l1, l2, en_I x3, l4] [en_I x3, en_R a0] σ := en_j1 d_X3_init_15 rfl rfl
theorem d_X3_init_16 : decode cX3_init 16 = .ok (.putfield 19, 3) := by decide +kernel
theorem j_X3_init_16 {G : en_G} {q : Option en_V → en_S → Prop}  {l0 l1 l2 l3 l4 : en_V} {a0 : Int32} {a1 : Option Nat} {σ : en_S} : en_J (X_X3_init G q) 16 [l0, l1, l2, l3, l4] [en_I a0, en_R a1] σ ↔ ∃ a, a1 = some a ∧ en_cl σ a = some 3 ∧ en_J (X_X3_init G q) 19 [l0, l1, l2, l3, l4] [] (en_sfi σ 302 a a0) := en_jg (st := fun o => [en_I a0, en_R o]) (st' := fun _ => []) (σ' := fun a => en_sfi σ 302 a a0) d_X3_init_16 rfl (fun a => rfl) (fun a => ⟨fun h => h.2.1, fun h => ⟨rfl, h, trivial, fun _ => rfl⟩⟩)
theorem d_X3_init_19 : decode cX3_init 19 = .ok (.aload_n 0, 1) := by decide +kernel
theorem j_X3_init_19 {G : en_G} {q : Option en_V → en_S → Prop}  {l1 l2 l3 l4 : en_V} {x0 : Option Nat} {σ : en_S} : en_J (X_X3_init G q) 19 [en_R x0, l1, l2, l3, l4] [] σ ↔ en_J (X_X3_init G q) 20 [en_R x0, l1, l2, l3, l4] [en_R x0] σ := en_j1 d_X3_init_19 rfl rfl
theorem d_X3_init_20 : decode cX3_init 20 = .ok (.aload 4, 2) := by decide +kernel
theorem j_X3_init_20 {G : en_G} {q : Option en_V → en_S → Prop}  {l0 l1 l2 l3 : en_V} {a0 : Option Nat} {x4 : Option Nat} {σ : en_S} : en_J (X_X3_init G q) 20 [l0, l1, l2, l3, en_R x4] [en_R a0] σ ↔ en_J (X_X3_init G q) 22 [l0, l1, l2, l3, en_R x4] [en_R x4, en_R a0] σ := en_j1 d_X3_init_20 rfl rfl
theorem d_X3_init_22 : decode cX3_init 22 = .ok (.putfield 22, 3) := by decide +kernel
theorem j_X3_init_22 {G : en_G} {q : Option en_V → en_S → Prop}  {l0 l1 l2 l3 l4 : en_V} {a0 : Option Nat} {a1 : Option Nat} {σ : en_S} : en_J (X_X3_init G q) 22 [l0, l1, l2, l3, l4] [en_R a0, en_R a1] σ ↔ ∃ a, a1 = some a ∧ en_cl σ a = some 3 ∧ en_J (X_X3_init G q) 25 [l0, l1, l2, l3, l4] [] (en_sfr σ 303 a a0) := en_jg (st := fun o => [en_R a0, en_R o]) (st' := fun _ => []) (σ' := fun a => en_sfr σ 303 a a0) d_X3_init_22 rfl (fun a => rfl) (fun a => ⟨fun h => h.2.1, fun h => ⟨rfl, h, trivial, fun _ => rfl⟩⟩)
theorem d_X3_init_25 : decode cX3_init 25 = .ok (.return_, 1) := by decide +kernel
theorem j_X3_init_25 {G : en_G} {q : Option en_V → en_S → Prop}  {l0 l1 l2 l3 l4 : en_V}  {σ : en_S} : en_J (X_X3_init G q) 25 [l0, l1, l2, l3, l4] [] σ ↔ q none σ := en_jr d_X3_init_25 rfl ⟨fun h => h.2.2, fun h => ⟨rfl, rfl, h⟩⟩
theorem wc_X3_init : Jvm.Cond.code yX3_init cX3_init 5 none ∈ en_W := en_inW (List.mem_of_getElem? (i := 305) (by decide +kernel)) (by decide +kernel)
theorem wi_X3_init : Jvm.Cond.instanceMethod yX3_init ∈ en_W := en_inW (List.mem_of_getElem? (i := 304) (by decide +kernel)) (by decide +kernel)
theorem jp_X3_init {G : en_G} : ∀ as σ, C_X3_init.1 as σ → (en_lc as).length ≤ 5 ∧ en_J (X_X3_init G (fun r σ' => C_X3_init.2 as σ r σ')) 0 (en_loc 5 as) [] σ := by
  rintro as σ ⟨a, n, s, t, p, rfl, hc⟩
  refine ⟨Nat.le_of_ble_eq_true rfl, ?_⟩
  show en_J _ 0 [en_R (some a), en_R n, en_I t, en_I p, en_R s] [] σ
  simp only [j_X3_init_0, j_X3_init_1]
  refine ⟨⟨a, rfl⟩, ?_⟩
  rintro r σ' ⟨rfl, rfl⟩
  simp only [Option.toList, List.nil_append, j_X3_init_0, j_X3_init_1, j_X3_init_4, j_X3_init_5, j_X3_init_6, j_X3_init_9, j_X3_init_10, j_X3_init_11, j_X3_init_14, j_X3_init_15, j_X3_init_16, j_X3_init_19, j_X3_init_20, j_X3_init_22, j_X3_init_25, en_c2I, en_c2R, en_c2U, en_c2D, Option.some.injEq, exists_eq_left', exists_eq_left, Option.map_some, Option.map_none, not_true_eq_false, false_implies, true_implies, and_true, true_and, reduceCtorEq, not_false_eq_true, eg_cl_sfi, eg_fi_sfi, eg_fr_sfi, eg_fd_sfi, eg_al_sfi, eg_ai_sfi, eg_ar_sfi, eg_ad_sfi, eg_aj_sfi, eg_nx_sfi, eg_ns_sfi, eg_cl_sfr, eg_fi_sfr, eg_fr_sfr, eg_fd_sfr, eg_al_sfr, eg_ai_sfr, eg_ar_sfr, eg_ad_sfr, eg_aj_sfr, eg_nx_sfr, eg_ns_sfr, eg_cl_sfd, eg_fi_sfd, eg_fr_sfd, eg_fd_sfd, eg_al_sfd, eg_ai_sfd, eg_ar_sfd, eg_ad_sfd, eg_aj_sfd, eg_nx_sfd, eg_ns_sfd, eg_cl_sai, eg_fi_sai, eg_fr_sai, eg_fd_sai, eg_al_sai, eg_ai_sai, eg_ar_sai, eg_ad_sai, eg_aj_sai, eg_nx_sai, eg_ns_sai, eg_cl_sar, eg_fi_sar, eg_fr_sar, eg_fd_sar, eg_al_sar, eg_ai_sar, eg_ar_sar, eg_ad_sar, eg_aj_sar, eg_nx_sar, eg_ns_sar, eg_cl_sad, eg_fi_sad, eg_fr_sad, eg_fd_sad, eg_al_sad, eg_ai_sad, eg_ar_sad, eg_ad_sad, eg_aj_sad, eg_nx_sad, eg_ns_sad, eg_cl_saj, eg_fi_saj, eg_fr_saj, eg_fd_saj, eg_al_saj, eg_ai_saj, eg_ar_saj, eg_ad_saj, eg_aj_saj, eg_nx_saj, eg_ns_saj, eg_cl_new, eg_fi_new, eg_fr_new, eg_fd_new, eg_al_new, eg_ai_new, eg_ar_new, eg_ad_new, eg_aj_new, eg_nx_new, eg_ns_new, eg_cl_newa, eg_fi_newa, eg_fr_newa, eg_fd_newa, eg_al_newa, eg_ai_newa, eg_ar_newa, eg_ad_newa, eg_aj_newa, eg_nx_newa, eg_ns_newa, eg_cl_bump, eg_fi_bump, eg_fr_bump, eg_fd_bump, eg_al_bump, eg_ai_bump, eg_ar_bump, eg_ad_bump, eg_aj_bump, eg_nx_bump, eg_ns_bump, hc]
  exact ⟨a, n, s, t, p, rfl, rfl, rfl⟩
theorem wl_X3_init_3 : Jvm.Cond.methodLink RX3 3 Lib.objectInit ∈ en_W := en_inW (List.mem_of_getElem? (i := 306) (by decide +kernel)) (by decide +kernel)
theorem ok_X3_init {G : en_G}  : en_Ok G 1 yX3_init cX3_init 5 none C_X3_init :=
  en_met (own := RX3) (fl := en_lk fi3) (nw := en_lk nw3) (aw := en_lk aw3) (dc := en_lk dc3) (ca := en_lk (ca_X3_init G)) (rt := 0) (ini := true) (by decide +kernel) (Or.inl ⟨rfl, rfl⟩) (fun _ => rfl) rfl (fun q => en_LkI fi3_ok nw3_ok aw3_ok dc3_ok) (by
    intro idx q hq
    have hm := en_lk_mem hq
    simp only [ca_X3_init, List.mem_cons, Prod.mk.injEq, List.not_mem_nil, or_false] at hm
    rcases hm with ⟨rfl, rfl⟩
    · exact en_clO (by decide) wl_X3_init_3) jp_X3_init
def C_X4_init : en_C := (fun as σ => ∃ (a : Nat) (x y z : Int32) (h : Option Nat), as = [en_R (some a), en_I x, en_I y, en_I z, en_R h] ∧ en_cl σ a = some 4, fun as σ r σ' => ∃ (a : Nat) (x y z : Int32) (h : Option Nat), as = [en_R (some a), en_I x, en_I y, en_I z, en_R h] ∧ (r = none ∧ σ' = en_sfr (en_sfi (en_sfi (en_sfi σ 400 a x) 401 a y) 402 a z) 403 a h))
theorem pr_X4_init : ∀ as σ, C_X4_init.1 as σ → ∃ b tl, as = en_R (some b) :: tl ∧ tl.length = 4 := fun as σ ⟨a, x, y, z, h, h1, h2⟩ => ⟨_, _, h1, rfl⟩
def ca_X4_init (G : en_G) : List (Nat × Nat × en_C) := [(3, 6, en_Cobj)]
def X_X4_init (G : en_G) (q : Option en_V → en_S → Prop) : en_X := en_mk G cX4_init (en_lk fi4) (en_lk nw4) (en_lk aw4) (en_lk dc4) (en_lk (ca_X4_init G)) 0 true q
theorem d_X4_init_0 : decode cX4_init 0 = .ok (.aload_n 0, 1) := by decide +kernel
theorem j_X4_init_0 {G : en_G} {q : Option en_V → en_S → Prop}  {l1 l2 l3 l4 : en_V} {x0 : Option Nat} {σ : en_S} : en_J (X_X4_init G q) 0 [en_R x0, l1, l2, l3, l4] [] σ ↔ en_J (X_X4_init G q) 1 [en_R x0, l1, l2, l3, l4] [en_R x0] σ := en_j1 d_X4_init_0 rfl rfl
theorem d_X4_init_1 : decode cX4_init 1 = .ok (.invokespecial 3, 3) := by decide +kernel
theorem j_X4_init_1 {G : en_G} {q : Option en_V → en_S → Prop}  {l0 l1 l2 l3 l4 : en_V} {a0 : Option Nat} {σ : en_S} : en_J (X_X4_init G q) 1 [l0, l1, l2, l3, l4] [en_R a0] σ ↔ en_Cobj.1 [en_R a0] σ ∧ ∀ (r : Option en_V) (σ' : en_S), en_Cobj.2 [en_R a0] σ r σ' → en_J (X_X4_init G q) 4 [l0, l1, l2, l3, l4] (r.toList ++ []) σ' := en_jk d_X4_init_1 rfl ⟨fun h => h.2.2.2.2, fun h => ⟨rfl, rfl, Nat.le_of_ble_eq_true rfl, Nat.le_of_ble_eq_true rfl, h⟩⟩
theorem d_X4_init_4 : decode cX4_init 4 = .ok (.aload_n 0, 1) := by decide +kernel
theorem j_X4_init_4 {G : en_G} {q : Option en_V → en_S → Prop}  {l1 l2 l3 l4 : en_V} {x0 : Option Nat} {σ : en_S} : en_J (X_X4_init G q) 4 [en_R x0, l1, l2, l3, l4] [] σ ↔ en_J (X_X4_init G q) 5 [en_R x0, l1, l2, l3, l4] [en_R x0] σ := en_j1 d_X4_init_4 rfl rfl
theorem d_X4_init_5 : decode cX4_init 5 = .ok (.iload_n 1, 1) := by decide +kernel
theorem j_X4_init_5 {G : en_G} {q : Option en_V → en_S → Prop}  {l0 l2 l3 l4 : en_V} {a0 : Option Nat} {x1 : Int32} {σ : en_S} : en_J (X_X4_init G q) 5 [l0, en_I x1, l2, l3, l4] [en_R a0] σ ↔ en_J (X_X4_init G q) 6 [l0, en_I x1, l2, l3, l4] [en_I x1, en_R a0] σ := en_j1 d_X4_init_5 rfl rfl
theorem d_X4_init_6 : decode cX4_init 6 = .ok (.putfield 9, 3) := by decide +kernel
theorem j_X4_init_6 {G : en_G} {q : Option en_V → en_S → Prop}  {l0 l1 l2 l3 l4 : en_V} {a0 : Int32} {a1 : Option Nat} {σ : en_S} : en_J (X_X4_init G q) 6 [l0, l1, l2, l3, l4] [en_I a0, en_R a1] σ ↔ ∃ a, a1 = some a ∧ en_cl σ a = some 4 ∧ en_J (X_X4_init G q) 9 [l0, l1, l2, l3, l4] [] (en_sfi σ 400 a a0) := en_jg (st := fun o => [en_I a0, en_R o]) (st' := fun _ => []) (σ' := fun a => en_sfi σ 400 a a0) d_X4_init_6 rfl (fun a => rfl) (fun a => ⟨fun h => h.2.1, fun h => ⟨rfl, h, trivial, fun _ => rfl⟩⟩)
theorem d_X4_init_9 : decode cX4_init 9 = .ok (.aload_n 0, 1) := by decide +kernel
theorem j_X4_init_9 {G : en_G} {q : Option en_V → en_S → Prop}  {l1 l2 l3 l4 : en_V} {x0 : Option Nat} {σ : en_S} : en_J (X_X4_init G q) 9 [en_R x0, l1, l2, l3, l4] [] σ ↔ en_J (X_X4_init G q) 10 [en_R x0, l1, l2, l3, l4] [en_R x0] σ := en_j1 d_X4_init_9 rfl rfl
theorem d_X4_init_10 : decode cX4_init 10 = .ok (.iload_n 2, 1) := by decide +kernel
theorem j_X4_init_10 {G : en_G} {q : Option en_V → en_S → Prop}  {l0 l1 l3 l4 : en_V} {a0 : Option Nat} {x2 : Int32} {σ : en_S} : en_J (X_X4_init G q) 10 [l0, l1, en_I x2, l3, l4] [en_R a0] σ ↔ en_J (X_X4_init G q) 11 [l0, l1, en_I x2, l3, l4] [en_I x2, en_R a0] σ := en_j1 d_X4_init_10 rfl rfl
theorem d_X4_init_11 : decode cX4_init 11 = .ok (.putfield 15, 3) := by decide +kernel
theorem j_X4_init_11 {G : en_G} {q : Option en_V → en_S → Prop}  {l0 l1 l2 l3 l4 : en_V} {a0 : Int32} {a1 : Option Nat} {σ : en_S} : en_J (X_X4_init G q) 11 [l0, l1, l2, l3, l4] [en_I a0, en_R a1] σ ↔ ∃ a, a1 = some a ∧ en_cl σ a = some 4 ∧ en_J (X_X4_init G q) 14 [l0, l1, l2, l3, l4] [] (en_sfi σ 401 a a0) := en_jg (st := fun o => [en_I a0, en_R o]) (st' := fun _ => []) (σ' := fun a => en_sfi σ 401 a a0) d_X4_init_11 rfl (fun a => rfl) (fun a => ⟨fun h => h.2.1, fun h => ⟨rfl, h, trivial, fun _ => rfl⟩⟩)
theorem d_X4_init_14 : decode cX4_init 14 = .ok (.aload_n 0, 1) := by decide +kernel
theorem j_X4_init_14 {G : en_G} {q : Option en_V → en_S → Prop}  {l1 l2 l3 l4 : en_V} {x0 : Option Nat} {σ : en_S} : en_J (X_X4_init G q) 14 [en_R x0, l1, l2, l3, l4] [] σ ↔ en_J (X_X4_init G q) 15 [en_R x0, l1, l2, l3, l4] [en_R x0] σ := en_j1 d_X4_init_14 rfl rfl
theorem d_X4_init_15 : decode cX4_init 15 = .ok (.iload_n 3, 1) := by decide +kernel
theorem j_X4_init_15 {G : en_G} {q : Option en_V → en_S → Prop}  {l0 l1 l2 l4 : en_V} {a0 : Option Nat} {x3 : Int32} {σ : en_S} : en_J (X_X4_init G q) 15 [l0, l1, l2, en_I x3, l4] [en_R a0] σ ↔ en_J (X_X4_init G q) 16 [l0, l1, l2, en_I x3, l4] [en_I x3, en_R a0] σ := en_j1 d_X4_init_15 rfl rfl
theorem d_X4_init_16 : decode cX4_init 16 = .ok (.putfield 18, 3) := by decide +kernel
theorem j_X4_init_16 {G : en_G} {q : Option en_V → en_S → Prop}  {l0 l1 l2 l3 l4 : en_V} {a0 : Int32} {a1 : Option Nat} {σ : en_S} : en_J (X_X4_init G q) 16 [l0, l1, l2, l3, l4] [en_I a0, en_R a1] σ ↔ ∃ a, a1 = some a ∧ en_cl σ a = some 4 ∧ en_J (X_X4_init G q) 19 [l0, l1, l2, l3, l4] [] (en_sfi σ 402 a a0) := en_jg (st := fun o => [en_I a0, en_R o]) (st' := fun _ => []) (σ' := fun a => en_sfi σ 402 a a0) d_X4_init_16 rfl (fun a => rfl) (fun a => ⟨fun h => h.2.1, fun h => ⟨rfl, h, trivial, fun _ => rfl⟩⟩)
theorem d_X4_init_19 : decode cX4_init 19 = .ok (.aload_n 0, 1) := by decide +kernel
theorem j_X4_init_19 {G : en_G} {q : Option en_V → en_S → Prop}  {l1 l2 l3 l4 : en_V} {x0 : Option Nat} {σ : en_S} : en_J (X_X4_init G q) 19 [en_R x0, l1, l2, l3, l4] [] σ ↔ en_J (X_X4_init G q) 20 [en_R x0, l1, l2, l3, l4] [en_R x0] σ := en_j1 d_X4_init_19 rfl rfl
theorem d_X4_init_20 : decode cX4_init 20 = .ok (.aload 4, 2) := by decide +kernel
theorem j_X4_init_20 {G : en_G} {q : Option en_V → en_S → Prop}  {l0 l1 l2 l3 : en_V} {a0 : Option Nat} {x4 : Option Nat} {σ : en_S} : en_J (X_X4_init G q) 20 [l0, l1, l2, l3, en_R x4] [en_R a0] σ ↔ en_J (X_X4_init G q) 22 [l0, l1, l2, l3, en_R x4] [en_R x4, en_R a0] σ := en_j1 d_X4_init_20 rfl rfl
theorem d_X4_init_22 : decode cX4_init 22 = .ok (.putfield 21, 3) := by decide +kernel
theorem j_X4_init_22 {G : en_G} {q : Option en_V → en_S → Prop}  {l0 l1 l2 l3 l4 : en_V} {a0 : Option Nat} {a1 : Option Nat} {σ : en_S} : en_J (X_X4_init G q) 22 [l0, l1, l2, l3, l4] [en_R a0, en_R a1] σ ↔ ∃ a, a1 = some a ∧ en_cl σ a = some 4 ∧ en_J (X_X4_init G q) 25 [l0, l1, l2, l3, l4] [] (en_sfr σ 403 a a0) := en_jg (st := fun o => [en_R a0, en_R o]) (st' := fun _ => []) (σ' := fun a => en_sfr σ 403 a a0) d_X4_init_22 rfl (fun a => rfl) (fun a => ⟨fun h => h.2.1, fun h => ⟨rfl, h, trivial, fun _ => rfl⟩⟩)
theorem d_X4_init_25 : decode cX4_init 25 = .ok (.return_, 1) := by decide +kernel
theorem j_X4_init_25 {G : en_G} {q : Option en_V → en_S → Prop}  {l0 l1 l2 l3 l4 : en_V}  {σ : en_S} : en_J (X_X4_init G q) 25 [l0, l1, l2, l3, l4] [] σ ↔ q none σ := en_jr d_X4_init_25 rfl ⟨fun h => h.2.2, fun h => ⟨rfl, rfl, h⟩⟩
theorem wc_X4_init : Jvm.Cond.code yX4_init cX4_init 5 none ∈ en_W := en_inW (List.mem_of_getElem? (i := 90) (by decide +kernel)) (by decide +kernel)
theorem wi_X4_init : Jvm.Cond.instanceMethod yX4_init ∈ en_W := en_inW (List.mem_of_getElem? (i := 89) (by decide +kernel)) (by decide +kernel)
theorem jp_X4_init {G : en_G} : ∀ as σ, C_X4_init.1 as σ → (en_lc as).length ≤ 5 ∧ en_J (X_X4_init G (fun r σ' => C_X4_init.2 as σ r σ')) 0 (en_loc 5 as) [] σ := by
  rintro as σ ⟨a, x, y, z, h, rfl, hc⟩
  refine ⟨Nat.le_of_ble_eq_true rfl, ?_⟩
  show en_J _ 0 [en_R (some a), en_I x, en_I y, en_I z, en_R h] [] σ
  simp only [j_X4_init_0, j_X4_init_1]
  refine ⟨⟨a, rfl⟩, ?_⟩
  rintro r σ' ⟨rfl, rfl⟩
  simp only [Option.toList, List.nil_append, j_X4_init_0, j_X4_init_1, j_X4_init_4, j_X4_init_5, j_X4_init_6, j_X4_init_9, j_X4_init_10, j_X4_init_11, j_X4_init_14, j_X4_init_15, j_X4_init_16, j_X4_init_19, j_X4_init_20, j_X4_init_22, j_X4_init_25, en_c2I, en_c2R, en_c2U, en_c2D, Option.some.injEq, exists_eq_left', exists_eq_left, Option.map_some, Option.map_none, not_true_eq_false, false_implies, true_implies, and_true, true_and, reduceCtorEq, not_false_eq_true, eg_cl_sfi, eg_fi_sfi, eg_fr_sfi, eg_fd_sfi, eg_al_sfi, eg_ai_sfi, eg_ar_sfi, eg_ad_sfi, eg_aj_sfi, eg_nx_sfi, eg_ns_sfi, eg_cl_sfr, eg_fi_sfr, eg_fr_sfr, eg_fd_sfr, eg_al_sfr, eg_ai_sfr, eg_ar_sfr, eg_ad_sfr, eg_aj_sfr, eg_nx_sfr, eg_ns_sfr, eg_cl_sfd, eg_fi_sfd, eg_fr_sfd, eg_fd_sfd, eg_al_sfd, eg_ai_sfd, eg_ar_sfd, eg_ad_sfd, eg_aj_sfd, eg_nx_sfd, eg_ns_sfd, eg_cl_sai, eg_fi_sai, eg_fr_sai, eg_fd_sai, eg_al_sai, eg_ai_sai, eg_ar_sai, eg_ad_sai, eg_aj_sai, eg_nx_sai, eg_ns_sai, eg_cl_sar, eg_fi_sar, eg_fr_sar, eg_fd_sar, eg_al_sar, eg_ai_sar, eg_ar_sar, eg_ad_sar, eg_aj_sar, eg_nx_sar, eg_ns_sar, eg_cl_sad, eg_fi_sad, eg_fr_sad, eg_fd_sad, eg_al_sad, eg_ai_sad, eg_ar_sad, eg_ad_sad, eg_aj_sad, eg_nx_sad, eg_ns_sad, eg_cl_saj, eg_fi_saj, eg_fr_saj, eg_fd_saj, eg_al_saj, eg_ai_saj, eg_ar_saj, eg_ad_saj, eg_aj_saj, eg_nx_saj, eg_ns_saj, eg_cl_new, eg_fi_new, eg_fr_new, eg_fd_new, eg_al_new, eg_ai_new, eg_ar_new, eg_ad_new, eg_aj_new, eg_nx_new, eg_ns_new, eg_cl_newa, eg_fi_newa, eg_fr_newa, eg_fd_newa, eg_al_newa, eg_ai_newa, eg_ar_newa, eg_ad_newa, eg_aj_newa, eg_nx_newa, eg_ns_newa, eg_cl_bump, eg_fi_bump, eg_fr_bump, eg_fd_bump, eg_al_bump, eg_ai_bump, eg_ar_bump, eg_ad_bump, eg_aj_bump, eg_nx_bump, eg_ns_bump, hc]
  exact ⟨a, x, y, z, h, rfl, rfl, rfl⟩
theorem wl_X4_init_3 : Jvm.Cond.methodLink RX4 3 Lib.objectInit ∈ en_W := en_inW (List.mem_of_getElem? (i := 91) (by decide +kernel)) (by decide +kernel)
theorem ok_X4_init {G : en_G}  : en_Ok G 1 yX4_init cX4_init 5 none C_X4_init :=
  en_met (own := RX4) (fl := en_lk fi4) (nw := en_lk nw4) (aw := en_lk aw4) (dc := en_lk dc4) (ca := en_lk (ca_X4_init G)) (rt := 0) (ini := true) (by decide +kernel) (Or.inl ⟨rfl, rfl⟩) (fun _ => rfl) rfl (fun q => en_LkI fi4_ok nw4_ok aw4_ok dc4_ok) (by
    intro idx q hq
    have hm := en_lk_mem hq
    simp only [ca_X4_init, List.mem_cons, Prod.mk.injEq, List.not_mem_nil, or_false] at hm
    rcases hm with ⟨rfl, rfl⟩
    · exact en_clO (by decide) wl_X4_init_3) jp_X4_init
def C_X5_append : en_C := (fun as σ => ∃ (a c d k : Nat) (x y : Int32), as = [en_R (some a), en_I x, en_I y] ∧ en_cl σ a = some 5 ∧ en_fr σ 500 a = some c ∧ en_fr σ 501 a = some d ∧ en_al σ c = some (0, 5) ∧ en_al σ d = some (0, 5) ∧ en_fi σ 502 a = nI k ∧ k ≤ 5, fun as σ r σ' => ∃ (a c d k : Nat) (x y : Int32), as = [en_R (some a), en_I x, en_I y] ∧ (en_fr σ 500 a = some c ∧ en_fr σ 501 a = some d ∧ en_fi σ 502 a = nI k ∧ k ≤ 5 ∧ r = some (en_I (if k < 5 then 1 else 0)) ∧ σ' = (if k < 5 then en_sfi (en_sai (en_sai σ c k x) d k y) 502 a (nI (k + 1)) else σ)))
theorem pr_X5_append : ∀ as σ, C_X5_append.1 as σ → ∃ b tl, as = en_R (some b) :: tl ∧ en_cl σ b = some 5 ∧ tl.length = 2 := fun as σ ⟨a, c, d, k, x, y, h1, h2⟩ => ⟨_, _, h1, h2.1, rfl⟩
def ca_X5_append (G : en_G) : List (Nat × Nat × en_C) := []
def X_X5_append (G : en_G) (q : Option en_V → en_S → Prop) : en_X := en_mk G cX5_append (en_lk fl5) (en_lk nw5) (en_lk aw5) (en_lk dc5) (en_lk (ca_X5_append G)) 2 false q
theorem d_X5_append_0 : decode cX5_append 0 = .ok (.aload_n 0, 1) := by decide +kernel
theorem j_X5_append_0 {G : en_G} {q : Option en_V → en_S → Prop}  {l1 l2 : en_V} {x0 : Option Nat} {σ : en_S} : en_J (X_X5_append G q) 0 [en_R x0, l1, l2] [] σ ↔ en_J (X_X5_append G q) 1 [en_R x0, l1, l2] [en_R x0] σ := en_j1 d_X5_append_0 rfl rfl
theorem d_X5_append_1 : decode cX5_append 1 = .ok (.getfield 18, 3) := by decide +kernel
theorem j_X5_append_1 {G : en_G} {q : Option en_V → en_S → Prop}  {l0 l1 l2 : en_V} {a0 : Option Nat} {σ : en_S} : en_J (X_X5_append G q) 1 [l0, l1, l2] [en_R a0] σ ↔ ∃ a, a0 = some a ∧ en_cl σ a = some 5 ∧ en_J (X_X5_append G q) 4 [l0, l1, l2] [en_I (en_fi σ 502 a)] σ := en_jg (st := fun o => [en_R o]) (st' := fun a => [en_I (en_fi σ 502 a)]) (σ' := fun _ => σ) d_X5_append_1 rfl (fun a => rfl) (fun a => ⟨fun h => h.2, fun h => ⟨rfl, h⟩⟩)
theorem d_X5_append_4 : decode cX5_append 4 = .ok (.ifCond .lt 27, 3) := by decide +kernel
theorem j_X5_append_4 {G : en_G} {q : Option en_V → en_S → Prop}  {l0 l1 l2 : en_V} {a0 : Int32} {σ : en_S} : en_J (X_X5_append G q) 4 [l0, l1, l2] [en_I a0] σ ↔ (a0 < 0 → en_J (X_X5_append G q) 31 [l0, l1, l2] [] σ) ∧ (¬ (a0 < 0) → en_J (X_X5_append G q) 7 [l0, l1, l2] [] σ) := en_jb d_X5_append_4 rfl ⟨rfl, by decide⟩
theorem d_X5_append_7 : decode cX5_append 7 = .ok (.aload_n 0, 1) := by decide +kernel
theorem j_X5_append_7 {G : en_G} {q : Option en_V → en_S → Prop}  {l1 l2 : en_V} {x0 : Option Nat} {σ : en_S} : en_J (X_X5_append G q) 7 [en_R x0, l1, l2] [] σ ↔ en_J (X_X5_append G q) 8 [en_R x0, l1, l2] [en_R x0] σ := en_j1 d_X5_append_7 rfl rfl
theorem d_X5_append_8 : decode cX5_append 8 = .ok (.getfield 18, 3) := by decide +kernel
theorem j_X5_append_8 {G : en_G} {q : Option en_V → en_S → Prop}  {l0 l1 l2 : en_V} {a0 : Option Nat} {σ : en_S} : en_J (X_X5_append G q) 8 [l0, l1, l2] [en_R a0] σ ↔ ∃ a, a0 = some a ∧ en_cl σ a = some 5 ∧ en_J (X_X5_append G q) 11 [l0, l1, l2] [en_I (en_fi σ 502 a)] σ := en_jg (st := fun o => [en_R o]) (st' := fun a => [en_I (en_fi σ 502 a)]) (σ' := fun _ => σ) d_X5_append_8 rfl (fun a => rfl) (fun a => ⟨fun h => h.2, fun h => ⟨rfl, h⟩⟩)
theorem d_X5_append_11 : decode cX5_append 11 = .ok (.aload_n 0, 1) := by decide +kernel
theorem j_X5_append_11 {G : en_G} {q : Option en_V → en_S → Prop}  {l1 l2 : en_V} {a0 : Int32} {x0 : Option Nat} {σ : en_S} : en_J (X_X5_append G q) 11 [en_R x0, l1, l2] [en_I a0] σ ↔ en_J (X_X5_append G q) 12 [en_R x0, l1, l2] [en_R x0, en_I a0] σ := en_j1 d_X5_append_11 rfl rfl
theorem d_X5_append_12 : decode cX5_append 12 = .ok (.getfield 9, 3) := by decide +kernel
theorem j_X5_append_12 {G : en_G} {q : Option en_V → en_S → Prop}  {l0 l1 l2 : en_V} {a0 : Option Nat} {a1 : Int32} {σ : en_S} : en_J (X_X5_append G q) 12 [l0, l1, l2] [en_R a0, en_I a1] σ ↔ ∃ a, a0 = some a ∧ en_cl σ a = some 5 ∧ en_J (X_X5_append G q) 15 [l0, l1, l2] [en_R (en_fr σ 500 a), en_I a1] σ := en_jg (st := fun o => [en_R o, en_I a1]) (st' := fun a => [en_R (en_fr σ 500 a), en_I a1]) (σ' := fun _ => σ) d_X5_append_12 rfl (fun a => rfl) (fun a => ⟨fun h => h.2, fun h => ⟨rfl, h⟩⟩)
theorem d_X5_append_15 : decode cX5_append 15 = .ok (.arraylength, 1) := by decide +kernel
theorem j_X5_append_15 {G : en_G} {q : Option en_V → en_S → Prop}  {l0 l1 l2 : en_V} {a0 : Option Nat} {a1 : Int32} {σ : en_S} : en_J (X_X5_append G q) 15 [l0, l1, l2] [en_R a0, en_I a1] σ ↔ ∃ a, a0 = some a ∧ (en_al σ a).isSome = true ∧ en_J (X_X5_append G q) 16 [l0, l1, l2] [en_I (nI ((en_al σ a).getD (0, 0)).2), en_I a1] σ := ej_alen d_X5_append_15 rfl
theorem d_X5_append_16 : decode cX5_append 16 = .ok (.if_icmp .ge 15, 3) := by decide +kernel
theorem j_X5_append_16 {G : en_G} {q : Option en_V → en_S → Prop}  {l0 l1 l2 : en_V} {a0 : Int32} {a1 : Int32} {σ : en_S} : en_J (X_X5_append G q) 16 [l0, l1, l2] [en_I a0, en_I a1] σ ↔ (a0 ≤ a1 → en_J (X_X5_append G q) 31 [l0, l1, l2] [] σ) ∧ (¬ (a0 ≤ a1) → en_J (X_X5_append G q) 19 [l0, l1, l2] [] σ) := en_jb d_X5_append_16 rfl ⟨rfl, by decide⟩
theorem d_X5_append_19 : decode cX5_append 19 = .ok (.aload_n 0, 1) := by decide +kernel
theorem j_X5_append_19 {G : en_G} {q : Option en_V → en_S → Prop}  {l1 l2 : en_V} {x0 : Option Nat} {σ : en_S} : en_J (X_X5_append G q) 19 [en_R x0, l1, l2] [] σ ↔ en_J (X_X5_append G q) 20 [en_R x0, l1, l2] [en_R x0] σ := en_j1 d_X5_append_19 rfl rfl
theorem d_X5_append_20 : decode cX5_append 20 = .ok (.getfield 18, 3) := by decide +kernel
theorem j_X5_append_20 {G : en_G} {q : Option en_V → en_S → Prop}  {l0 l1 l2 : en_V} {a0 : Option Nat} {σ : en_S} : en_J (X_X5_append G q) 20 [l0, l1, l2] [en_R a0] σ ↔ ∃ a, a0 = some a ∧ en_cl σ a = some 5 ∧ en_J (X_X5_append G q) 23 [l0, l1, l2] [en_I (en_fi σ 502 a)] σ := en_jg (st := fun o => [en_R o]) (st' := fun a => [en_I (en_fi σ 502 a)]) (σ' := fun _ => σ) d_X5_append_20 rfl (fun a => rfl) (fun a => ⟨fun h => h.2, fun h => ⟨rfl, h⟩⟩)
theorem d_X5_append_23 : decode cX5_append 23 = .ok (.aload_n 0, 1) := by decide +kernel
theorem j_X5_append_23 {G : en_G} {q : Option en_V → en_S → Prop}  {l1 l2 : en_V} {a0 : Int32} {x0 : Option Nat} {σ : en_S} : en_J (X_X5_append G q) 23 [en_R x0, l1, l2] [en_I a0] σ ↔ en_J (X_X5_append G q) 24 [en_R x0, l1, l2] [en_R x0, en_I a0] σ := en_j1 d_X5_append_23 rfl rfl
theorem d_X5_append_24 : decode cX5_append 24 = .ok (.getfield 15, 3) := by decide +kernel
theorem j_X5_append_24 {G : en_G} {q : Option en_V → en_S → Prop}  {l0 l1 l2 : en_V} {a0 : Option Nat} {a1 : Int32} {σ : en_S} : en_J (X_X5_append G q) 24 [l0, l1, l2] [en_R a0, en_I a1] σ ↔ ∃ a, a0 = some a ∧ en_cl σ a = some 5 ∧ en_J (X_X5_append G q) 27 [l0, l1, l2] [en_R (en_fr σ 501 a), en_I a1] σ := en_jg (st := fun o => [en_R o, en_I a1]) (st' := fun a => [en_R (en_fr σ 501 a), en_I a1]) (σ' := fun _ => σ) d_X5_append_24 rfl (fun a => rfl) (fun a => ⟨fun h => h.2, fun h => ⟨rfl, h⟩⟩)
theorem d_X5_append_27 : decode cX5_append 27 = .ok (.arraylength, 1) := by decide +kernel
theorem j_X5_append_27 {G : en_G} {q : Option en_V → en_S → Prop}  {l0 l1 l2 : en_V} {a0 : Option Nat} {a1 : Int32} {σ : en_S} : en_J (X_X5_append G q) 27 [l0, l1, l2] [en_R a0, en_I a1] σ ↔ ∃ a, a0 = some a ∧ (en_al σ a).isSome = true ∧ en_J (X_X5_append G q) 28 [l0, l1, l2] [en_I (nI ((en_al σ a).getD (0, 0)).2), en_I a1] σ := ej_alen d_X5_append_27 rfl
theorem d_X5_append_28 : decode cX5_append 28 = .ok (.if_icmp .lt 5, 3) := by decide +kernel
theorem j_X5_append_28 {G : en_G} {q : Option en_V → en_S → Prop}  {l0 l1 l2 : en_V} {a0 : Int32} {a1 : Int32} {σ : en_S} : en_J (X_X5_append G q) 28 [l0, l1, l2] [en_I a0, en_I a1] σ ↔ (a1 < a0 → en_J (X_X5_append G q) 33 [l0, l1, l2] [] σ) ∧ (¬ (a1 < a0) → en_J (X_X5_append G q) 31 [l0, l1, l2] [] σ) := en_jb d_X5_append_28 rfl ⟨rfl, by decide⟩
theorem d_X5_append_31 : decode cX5_append 31 = .ok (.iconst 0, 1) := by decide +kernel
theorem j_X5_append_31 {G : en_G} {q : Option en_V → en_S → Prop}  {l0 l1 l2 : en_V}  {σ : en_S} : en_J (X_X5_append G q) 31 [l0, l1, l2] [] σ ↔ en_J (X_X5_append G q) 32 [l0, l1, l2] [en_I 0] σ := ej_iconst d_X5_append_31 (by decide +kernel)
theorem d_X5_append_32 : decode cX5_append 32 = .ok (.ireturn, 1) := by decide +kernel
theorem j_X5_append_32 {G : en_G} {q : Option en_V → en_S → Prop}  {l0 l1 l2 : en_V} {a0 : Int32} {σ : en_S} : en_J (X_X5_append G q) 32 [l0, l1, l2] [en_I a0] σ ↔ (a0 = 0 ∨ a0 = 1) ∧ q (some (en_I a0)) σ := en_jr d_X5_append_32 rfl ⟨fun h => ⟨h.2.1.elim (fun z => absurd (show (2 : Nat) = 1 from z) (by decide)) (fun z => z.2), h.2.2⟩, fun h => ⟨rfl, Or.inr ⟨rfl, h.1⟩, h.2⟩⟩
theorem d_X5_append_33 : decode cX5_append 33 = .ok (.aload_n 0, 1) := by decide +kernel
theorem j_X5_append_33 {G : en_G} {q : Option en_V → en_S → Prop}  {l1 l2 : en_V} {x0 : Option Nat} {σ : en_S} : en_J (X_X5_append G q) 33 [en_R x0, l1, l2] [] σ ↔ en_J (X_X5_append G q) 34 [en_R x0, l1, l2] [en_R x0] σ := en_j1 d_X5_append_33 rfl rfl
theorem d_X5_append_34 : decode cX5_append 34 = .ok (.getfield 9, 3) := by decide +kernel
theorem j_X5_append_34 {G : en_G} {q : Option en_V → en_S → Prop}  {l0 l1 l2 : en_V} {a0 : Option Nat} {σ : en_S} : en_J (X_X5_append G q) 34 [l0, l1, l2] [en_R a0] σ ↔ ∃ a, a0 = some a ∧ en_cl σ a = some 5 ∧ en_J (X_X5_append G q) 37 [l0, l1, l2] [en_R (en_fr σ 500 a)] σ := en_jg (st := fun o => [en_R o]) (st' := fun a => [en_R (en_fr σ 500 a)]) (σ' := fun _ => σ) d_X5_append_34 rfl (fun a => rfl) (fun a => ⟨fun h => h.2, fun h => ⟨rfl, h⟩⟩)
theorem d_X5_append_37 : decode cX5_append 37 = .ok (.aload_n 0, 1) := by decide +kernel
theorem j_X5_append_37 {G : en_G} {q : Option en_V → en_S → Prop}  {l1 l2 : en_V} {a0 : Option Nat} {x0 : Option Nat} {σ : en_S} : en_J (X_X5_append G q) 37 [en_R x0, l1, l2] [en_R a0] σ ↔ en_J (X_X5_append G q) 38 [en_R x0, l1, l2] [en_R x0, en_R a0] σ := en_j1 d_X5_append_37 rfl rfl
theorem d_X5_append_38 : decode cX5_append 38 = .ok (.getfield 18, 3) := by decide +kernel
theorem j_X5_append_38 {G : en_G} {q : Option en_V → en_S → Prop}  {l0 l1 l2 : en_V} {a0 : Option Nat} {a1 : Option Nat} {σ : en_S} : en_J (X_X5_append G q) 38 [l0, l1, l2] [en_R a0, en_R a1] σ ↔ ∃ a, a0 = some a ∧ en_cl σ a = some 5 ∧ en_J (X_X5_append G q) 41 [l0, l1, l2] [en_I (en_fi σ 502 a), en_R a1] σ := en_jg (st := fun o => [en_R o, en_R a1]) (st' := fun a => [en_I (en_fi σ 502 a), en_R a1]) (σ' := fun _ => σ) d_X5_append_38 rfl (fun a => rfl) (fun a => ⟨fun h => h.2, fun h => ⟨rfl, h⟩⟩)
theorem d_X5_append_41 : decode cX5_append 41 = .ok (.iload_n 1, 1) := by decide +kernel
theorem j_X5_append_41 {G : en_G} {q : Option en_V → en_S → Prop}  {l0 l2 : en_V} {a0 : Int32} {a1 : Option Nat} {x1 : Int32} {σ : en_S} : en_J (X_X5_append G q) 41 [l0, en_I x1, l2] [en_I a0, en_R a1] σ ↔ en_J (X_X5_append G q) 42 [l0, en_I x1, l2] [en_I x1, en_I a0, en_R a1] σ := en_j1 d_X5_append_41 rfl rfl
theorem d_X5_append_42 : decode cX5_append 42 = .ok (.iastore, 1) := by decide +kernel
theorem j_X5_append_42 {G : en_G} {q : Option en_V → en_S → Prop}  {l0 l1 l2 : en_V} {a0 : Int32} {a1 : Int32} {a2 : Option Nat} {σ : en_S} : en_J (X_X5_append G q) 42 [l0, l1, l2] [en_I a0, en_I a1, en_R a2] σ ↔ ∃ a, a2 = some a ∧ (∃ k, en_al σ a = some (0, k) ∧ vp_in a1 k) ∧ en_J (X_X5_append G q) 43 [l0, l1, l2] [] (en_sai σ a a1.toNatClampNeg a0) := ej_iastore d_X5_append_42
theorem d_X5_append_43 : decode cX5_append 43 = .ok (.aload_n 0, 1) := by decide +kernel
theorem j_X5_append_43 {G : en_G} {q : Option en_V → en_S → Prop}  {l1 l2 : en_V} {x0 : Option Nat} {σ : en_S} : en_J (X_X5_append G q) 43 [en_R x0, l1, l2] [] σ ↔ en_J (X_X5_append G q) 44 [en_R x0, l1, l2] [en_R x0] σ := en_j1 d_X5_append_43 rfl rfl
theorem d_X5_append_44 : decode cX5_append 44 = .ok (.getfield 15, 3) := by decide +kernel
theorem j_X5_append_44 {G : en_G} {q : Option en_V → en_S → Prop}  {l0 l1 l2 : en_V} {a0 : Option Nat} {σ : en_S} : en_J (X_X5_append G q) 44 [l0, l1, l2] [en_R a0] σ ↔ ∃ a, a0 = some a ∧ en_cl σ a = some 5 ∧ en_J (X_X5_append G q) 47 [l0, l1, l2] [en_R (en_fr σ 501 a)] σ := en_jg (st := fun o => [en_R o]) (st' := fun a => [en_R (en_fr σ 501 a)]) (σ' := fun _ => σ) d_X5_append_44 rfl (fun a => rfl) (fun a => ⟨fun h => h.2, fun h => ⟨rfl, h⟩⟩)
theorem d_X5_append_47 : decode cX5_append 47 = .ok (.aload_n 0, 1) := by decide +kernel
theorem j_X5_append_47 {G : en_G} {q : Option en_V → en_S → Prop}  {l1 l2 : en_V} {a0 : Option Nat} {x0 : Option Nat} {σ : en_S} : en_J (X_X5_append G q) 47 [en_R x0, l1, l2] [en_R a0] σ ↔ en_J (X_X5_append G q) 48 [en_R x0, l1, l2] [en_R x0, en_R a0] σ := en_j1 d_X5_append_47 rfl rfl
theorem d_X5_append_48 : decode cX5_append 48 = .ok (.getfield 18, 3) := by decide +kernel
theorem j_X5_append_48 {G : en_G} {q : Option en_V → en_S → Prop}  {l0 l1 l2 : en_V} {a0 : Option Nat} {a1 : Option Nat} {σ : en_S} : en_J (X_X5_append G q) 48 [l0, l1, l2] [en_R a0, en_R a1] σ ↔ ∃ a, a0 = some a ∧ en_cl σ a = some 5 ∧ en_J (X_X5_append G q) 51 [l0, l1, l2] [en_I (en_fi σ 502 a), en_R a1] σ := en_jg (st := fun o => [en_R o, en_R a1]) (st' := fun a => [en_I (en_fi σ 502 a), en_R a1]) (σ' := fun _ => σ) d_X5_append_48 rfl (fun a => rfl) (fun a => ⟨fun h => h.2, fun h => ⟨rfl, h⟩⟩)
theorem d_X5_append_51 : decode cX5_append 51 = .ok (.iload_n 2, 1) := by decide +kernel
theorem j_X5_append_51 {G : en_G} {q : Option en_V → en_S → Prop}  {l0 l1 : en_V} {a0 : Int32} {a1 : Option Nat} {x2 : Int32} {σ : en_S} : en_J (X_X5_append G q) 51 [l0, l1, en_I x2] [en_I a0, en_R a1] σ ↔ en_J (X_X5_append G q) 52 [l0, l1, en_I x2] [en_I x2, en_I a0, en_R a1] σ := en_j1 d_X5_append_51 rfl rfl
theorem d_X5_append_52 : decode cX5_append 52 = .ok (.iastore, 1) := by decide +kernel
theorem j_X5_append_52 {G : en_G} {q : Option en_V → en_S → Prop}  {l0 l1 l2 : en_V} {a0 : Int32} {a1 : Int32} {a2 : Option Nat} {σ : en_S} : en_J (X_X5_append G q) 52 [l0, l1, l2] [en_I a0, en_I a1, en_R a2] σ ↔ ∃ a, a2 = some a ∧ (∃ k, en_al σ a = some (0, k) ∧ vp_in a1 k) ∧ en_J (X_X5_append G q) 53 [l0, l1, l2] [] (en_sai σ a a1.toNatClampNeg a0) := ej_iastore d_X5_append_52
theorem d_X5_append_53 : decode cX5_append 53 = .ok (.aload_n 0, 1) := by decide +kernel
theorem j_X5_append_53 {G : en_G} {q : Option en_V → en_S → Prop}  {l1 l2 : en_V} {x0 : Option Nat} {σ : en_S} : en_J (X_X5_append G q) 53 [en_R x0, l1, l2] [] σ ↔ en_J (X_X5_append G q) 54 [en_R x0, l1, l2] [en_R x0] σ := en_j1 d_X5_append_53 rfl rfl
theorem d_X5_append_54 : decode cX5_append 54 = .ok (.dup, 1) := by decide +kernel
theorem j_X5_append_54 {G : en_G} {q : Option en_V → en_S → Prop}  {l0 l1 l2 : en_V} {a0 : Option Nat} {σ : en_S} : en_J (X_X5_append G q) 54 [l0, l1, l2] [en_R a0] σ ↔ en_J (X_X5_append G q) 55 [l0, l1, l2] [en_R a0, en_R a0] σ := en_j1 d_X5_append_54 rfl rfl
theorem d_X5_append_55 : decode cX5_append 55 = .ok (.getfield 18, 3) := by decide +kernel
theorem j_X5_append_55 {G : en_G} {q : Option en_V → en_S → Prop}  {l0 l1 l2 : en_V} {a0 : Option Nat} {a1 : Option Nat} {σ : en_S} : en_J (X_X5_append G q) 55 [l0, l1, l2] [en_R a0, en_R a1] σ ↔ ∃ a, a0 = some a ∧ en_cl σ a = some 5 ∧ en_J (X_X5_append G q) 58 [l0, l1, l2] [en_I (en_fi σ 502 a), en_R a1] σ := en_jg (st := fun o => [en_R o, en_R a1]) (st' := fun a => [en_I (en_fi σ 502 a), en_R a1]) (σ' := fun _ => σ) d_X5_append_55 rfl (fun a => rfl) (fun a => ⟨fun h => h.2, fun h => ⟨rfl, h⟩⟩)
theorem d_X5_append_58 : decode cX5_append 58 = .ok (.iconst 1, 1) := by decide +kernel
theorem j_X5_append_58 {G : en_G} {q : Option en_V → en_S → Prop}  {l0 l1 l2 : en_V} {a0 : Int32} {a1 : Option Nat} {σ : en_S} : en_J (X_X5_append G q) 58 [l0, l1, l2] [en_I a0, en_R a1] σ ↔ en_J (X_X5_append G q) 59 [l0, l1, l2] [en_I 1, en_I a0, en_R a1] σ := ej_iconst d_X5_append_58 (by decide +kernel)
theorem d_X5_append_59 : decode cX5_append 59 = .ok (.iadd, 1) := by decide +kernel
theorem j_X5_append_59 {G : en_G} {q : Option en_V → en_S → Prop}  {l0 l1 l2 : en_V} {a0 : Int32} {a1 : Int32} {a2 : Option Nat} {σ : en_S} : en_J (X_X5_append G q) 59 [l0, l1, l2] [en_I a0, en_I a1, en_R a2] σ ↔ en_J (X_X5_append G q) 60 [l0, l1, l2] [en_I (a1 + a0), en_R a2] σ := en_j1 d_X5_append_59 rfl ⟨rfl, trivial⟩
theorem d_X5_append_60 : decode cX5_append 60 = .ok (.putfield 18, 3) := by decide +kernel
theorem j_X5_append_60 {G : en_G} {q : Option en_V → en_S → Prop}  {l0 l1 l2 : en_V} {a0 : Int32} {a1 : Option Nat} {σ : en_S} : en_J (X_X5_append G q) 60 [l0, l1, l2] [en_I a0, en_R a1] σ ↔ ∃ a, a1 = some a ∧ en_cl σ a = some 5 ∧ en_J (X_X5_append G q) 63 [l0, l1, l2] [] (en_sfi σ 502 a a0) := en_jg (st := fun o => [en_I a0, en_R o]) (st' := fun _ => []) (σ' := fun a => en_sfi σ 502 a a0) d_X5_append_60 rfl (fun a => rfl) (fun a => ⟨fun h => h.2.1, fun h => ⟨rfl, h, trivial, fun z => absurd z (by decide +kernel)⟩⟩)
theorem d_X5_append_63 : decode cX5_append 63 = .ok (.iconst 1, 1) := by decide +kernel
theorem j_X5_append_63 {G : en_G} {q : Option en_V → en_S → Prop}  {l0 l1 l2 : en_V}  {σ : en_S} : en_J (X_X5_append G q) 63 [l0, l1, l2] [] σ ↔ en_J (X_X5_append G q) 64 [l0, l1, l2] [en_I 1] σ := ej_iconst d_X5_append_63 (by decide +kernel)
theorem d_X5_append_64 : decode cX5_append 64 = .ok (.ireturn, 1) := by decide +kernel
theorem j_X5_append_64 {G : en_G} {q : Option en_V → en_S → Prop}  {l0 l1 l2 : en_V} {a0 : Int32} {σ : en_S} : en_J (X_X5_append G q) 64 [l0, l1, l2] [en_I a0] σ ↔ (a0 = 0 ∨ a0 = 1) ∧ q (some (en_I a0)) σ := en_jr d_X5_append_64 rfl ⟨fun h => ⟨h.2.1.elim (fun z => absurd (show (2 : Nat) = 1 from z) (by decide)) (fun z => z.2), h.2.2⟩, fun h => ⟨rfl, Or.inr ⟨rfl, h.1⟩, h.2⟩⟩
theorem wc_X5_append : Jvm.Cond.code yX5_append cX5_append 3 (some .boolean) ∈ en_W := en_inW (List.mem_of_getElem? (i := 274) (by decide +kernel)) (by decide +kernel)
theorem wi_X5_append : Jvm.Cond.instanceMethod yX5_append ∈ en_W := en_inW (List.mem_of_getElem? (i := 272) (by decide +kernel)) (by decide +kernel)
theorem wx_X5_append : Jvm.Cond.selects RX5 yX5_append yX5_append ∈ en_W := en_inW (List.mem_of_getElem? (i := 273) (by decide +kernel)) (by decide +kernel)
theorem jp_X5_append {G : en_G} : ∀ as σ, C_X5_append.1 as σ → (en_lc as).length ≤ 3 ∧ en_J (X_X5_append G (fun r σ' => C_X5_append.2 as σ r σ')) 0 (en_loc 3 as) [] σ := by
  rintro as σ ⟨a, c, d, k, x, y, rfl, hc⟩
  refine ⟨Nat.le_of_ble_eq_true rfl, ?_⟩
  show en_J _ 0 [en_R (some a), en_I x, en_I y] [] σ
  obtain ⟨h1, h2, h3, h4, h5, h6, h7⟩ := hc
  have n0 : ¬ nI k < 0 := nI_pos (by omega)
  have cl : (nI k).toNatClampNeg = k := nI_clamp (by omega)
  have e5 : nI k + 1 = nI (k + 1) := nI_1 _
  by_cases hk : k < 5
  · have n1 : ¬ nI 5 ≤ nI k := nI_ge hk (by decide)
    have n2 : nI k < nI 5 := nI_lt hk (by decide)
    have n3 : vp_in (nI k) 5 := vp_in_nI hk (by decide)
    simp only [j_X5_append_0, j_X5_append_1, j_X5_append_4, j_X5_append_7, j_X5_append_8, j_X5_append_11, j_X5_append_12, j_X5_append_15, j_X5_append_16, j_X5_append_19, j_X5_append_20, j_X5_append_23, j_X5_append_24, j_X5_append_27, j_X5_append_28, j_X5_append_31, j_X5_append_32, j_X5_append_33, j_X5_append_34, j_X5_append_37, j_X5_append_38, j_X5_append_41, j_X5_append_42, j_X5_append_43, j_X5_append_44, j_X5_append_47, j_X5_append_48, j_X5_append_51, j_X5_append_52, j_X5_append_53, j_X5_append_54, j_X5_append_55, j_X5_append_58, j_X5_append_59, j_X5_append_60, j_X5_append_63, j_X5_append_64, en_c2I, en_c2R, en_c2U, en_c2D, Option.some.injEq, exists_eq_left', exists_eq_left, Option.map_some, Option.map_none, not_true_eq_false, false_implies, true_implies, and_true, true_and, reduceCtorEq, not_false_eq_true, eg_cl_sfi, eg_fi_sfi, eg_fr_sfi, eg_fd_sfi, eg_al_sfi, eg_ai_sfi, eg_ar_sfi, eg_ad_sfi, eg_aj_sfi, eg_nx_sfi, eg_ns_sfi, eg_cl_sfr, eg_fi_sfr, eg_fr_sfr, eg_fd_sfr, eg_al_sfr, eg_ai_sfr, eg_ar_sfr, eg_ad_sfr, eg_aj_sfr, eg_nx_sfr, eg_ns_sfr, eg_cl_sfd, eg_fi_sfd, eg_fr_sfd, eg_fd_sfd, eg_al_sfd, eg_ai_sfd, eg_ar_sfd, eg_ad_sfd, eg_aj_sfd, eg_nx_sfd, eg_ns_sfd, eg_cl_sai, eg_fi_sai, eg_fr_sai, eg_fd_sai, eg_al_sai, eg_ai_sai, eg_ar_sai, eg_ad_sai, eg_aj_sai, eg_nx_sai, eg_ns_sai, eg_cl_sar, eg_fi_sar, eg_fr_sar, eg_fd_sar, eg_al_sar, eg_ai_sar, eg_ar_sar, eg_ad_sar, eg_aj_sar, eg_nx_sar, eg_ns_sar, eg_cl_sad, eg_fi_sad, eg_fr_sad, eg_fd_sad, eg_al_sad, eg_ai_sad, eg_ar_sad, eg_ad_sad, eg_aj_sad, eg_nx_sad, eg_ns_sad, eg_cl_saj, eg_fi_saj, eg_fr_saj, eg_fd_saj, eg_al_saj, eg_ai_saj, eg_ar_saj, eg_ad_saj, eg_aj_saj, eg_nx_saj, eg_ns_saj, eg_cl_new, eg_fi_new, eg_fr_new, eg_fd_new, eg_al_new, eg_ai_new, eg_ar_new, eg_ad_new, eg_aj_new, eg_nx_new, eg_ns_new, eg_cl_newa, eg_fi_newa, eg_fr_newa, eg_fd_newa, eg_al_newa, eg_ai_newa, eg_ar_newa, eg_ad_newa, eg_aj_newa, eg_nx_newa, eg_ns_newa, eg_cl_bump, eg_fi_bump, eg_fr_bump, eg_fd_bump, eg_al_bump, eg_ai_bump, eg_ar_bump, eg_ad_bump, eg_aj_bump, eg_nx_bump, eg_ns_bump, h1, h2, h3, h4, h5, h6, n0, Option.isSome_some, Option.getD_some, n1, n2, Prod.mk.injEq, n3, cl, e5, true_or, or_true]
    exact ⟨a, c, d, k, x, y, rfl, h2, h3, h6, h7, by rw [if_pos hk], by rw [if_pos hk]⟩
  · have hk5 : k = 5 := by omega
    subst hk5
    have n1 : nI 5 ≤ nI 5 := nI_le (Nat.le_refl _) (by decide)
    simp only [j_X5_append_0, j_X5_append_1, j_X5_append_4, j_X5_append_7, j_X5_append_8, j_X5_append_11, j_X5_append_12, j_X5_append_15, j_X5_append_16, j_X5_append_19, j_X5_append_20, j_X5_append_23, j_X5_append_24, j_X5_append_27, j_X5_append_28, j_X5_append_31, j_X5_append_32, j_X5_append_33, j_X5_append_34, j_X5_append_37, j_X5_append_38, j_X5_append_41, j_X5_append_42, j_X5_append_43, j_X5_append_44, j_X5_append_47, j_X5_append_48, j_X5_append_51, j_X5_append_52, j_X5_append_53, j_X5_append_54, j_X5_append_55, j_X5_append_58, j_X5_append_59, j_X5_append_60, j_X5_append_63, j_X5_append_64, en_c2I, en_c2R, en_c2U, en_c2D, Option.some.injEq, exists_eq_left', exists_eq_left, Option.map_some, Option.map_none, not_true_eq_false, false_implies, true_implies, and_true, true_and, reduceCtorEq, not_false_eq_true, eg_cl_sfi, eg_fi_sfi, eg_fr_sfi, eg_fd_sfi, eg_al_sfi, eg_ai_sfi, eg_ar_sfi, eg_ad_sfi, eg_aj_sfi, eg_nx_sfi, eg_ns_sfi, eg_cl_sfr, eg_fi_sfr, eg_fr_sfr, eg_fd_sfr, eg_al_sfr, eg_ai_sfr, eg_ar_sfr, eg_ad_sfr, eg_aj_sfr, eg_nx_sfr, eg_ns_sfr, eg_cl_sfd, eg_fi_sfd, eg_fr_sfd, eg_fd_sfd, eg_al_sfd, eg_ai_sfd, eg_ar_sfd, eg_ad_sfd, eg_aj_sfd, eg_nx_sfd, eg_ns_sfd, eg_cl_sai, eg_fi_sai, eg_fr_sai, eg_fd_sai, eg_al_sai, eg_ai_sai, eg_ar_sai, eg_ad_sai, eg_aj_sai, eg_nx_sai, eg_ns_sai, eg_cl_sar, eg_fi_sar, eg_fr_sar, eg_fd_sar, eg_al_sar, eg_ai_sar, eg_ar_sar, eg_ad_sar, eg_aj_sar, eg_nx_sar, eg_ns_sar, eg_cl_sad, eg_fi_sad, eg_fr_sad, eg_fd_sad, eg_al_sad, eg_ai_sad, eg_ar_sad, eg_ad_sad, eg_aj_sad, eg_nx_sad, eg_ns_sad, eg_cl_saj, eg_fi_saj, eg_fr_saj, eg_fd_saj, eg_al_saj, eg_ai_saj, eg_ar_saj, eg_ad_saj, eg_aj_saj, eg_nx_saj, eg_ns_saj, eg_cl_new, eg_fi_new, eg_fr_new, eg_fd_new, eg_al_new, eg_ai_new, eg_ar_new, eg_ad_new, eg_aj_new, eg_nx_new, eg_ns_new, eg_cl_newa, eg_fi_newa, eg_fr_newa, eg_fd_newa, eg_al_newa, eg_ai_newa, eg_ar_newa, eg_ad_newa, eg_aj_newa, eg_nx_newa, eg_ns_newa, eg_cl_bump, eg_fi_bump, eg_fr_bump, eg_fd_bump, eg_al_bump, eg_ai_bump, eg_ar_bump, eg_ad_bump, eg_aj_bump, eg_nx_bump, eg_ns_bump, h1, h2, h3, h4, h5, h6, n0, Option.isSome_some, Option.getD_some, n1, Prod.mk.injEq, cl, e5, true_or, or_true]
    exact ⟨a, c, d, 5, x, y, rfl, h2, h3, h6, h7, by rw [if_neg hk], by rw [if_neg hk]⟩
theorem ok_X5_append {G : en_G}  : en_Ok G 1 yX5_append cX5_append 3 (some .boolean) C_X5_append :=
  en_met (own := RX5) (fl := en_lk fl5) (nw := en_lk nw5) (aw := en_lk aw5) (dc := en_lk dc5) (ca := en_lk (ca_X5_append G)) (rt := 2) (ini := false) (by decide +kernel) (Or.inr (Or.inr (Or.inl ⟨rfl, rfl⟩))) (fun h => by cases h) rfl (fun q => en_LkF fl5_ok nw5_ok aw5_ok dc5_ok) (fun idx q hq => by cases hq) jp_X5_append
def C_X0_holds : en_C := (fun as σ => ∃ (a : Nat) (x y : UInt64), as = [en_R (some a), en_D x, en_D y] ∧ en_cl σ a = some 0 ∧ vf_n64 (FP.dmul (en_fd σ 2 a) (en_fd σ 8 a)) ∧ vf_n64 (FP.dadd (en_fd σ 6 a) (FP.dmul (en_fd σ 2 a) (en_fd σ 8 a))) ∧ vf_n64 (FP.dmul (en_fd σ 3 a) (en_fd σ 8 a)) ∧ vf_n64 (FP.dadd (en_fd σ 7 a) (FP.dmul (en_fd σ 3 a) (en_fd σ 8 a))), fun as σ r σ' => ∃ (a : Nat) (x y : UInt64), as = [en_R (some a), en_D x, en_D y] ∧ (σ' = σ ∧ r = some (en_I (if ¬ Op.cmpValue (FP.dcmp x (en_fd σ 6 a)) .l < 0 ∧ ¬ 0 ≤ Op.cmpValue (FP.dcmp x (FP.dadd (en_fd σ 6 a) (FP.dmul (en_fd σ 2 a) (en_fd σ 8 a)))) .g ∧ ¬ Op.cmpValue (FP.dcmp y (en_fd σ 7 a)) .l < 0 ∧ ¬ 0 ≤ Op.cmpValue (FP.dcmp y (FP.dadd (en_fd σ 7 a) (FP.dmul (en_fd σ 3 a) (en_fd σ 8 a)))) .g then 1 else 0))))
theorem pr_X0_holds : ∀ as σ, C_X0_holds.1 as σ → ∃ b tl, as = en_R (some b) :: tl ∧ en_cl σ b = some 0 ∧ tl.length = 2 := fun as σ ⟨a, x, y, h1, h2⟩ => ⟨_, _, h1, h2.1, rfl⟩
def ca_X0_holds (G : en_G) : List (Nat × Nat × en_C) := []
def X_X0_holds (G : en_G) (q : Option en_V → en_S → Prop) : en_X := en_mk G cX0_holds (en_lk fl0) (en_lk nw0) (en_lk aw0) (en_lk dc0) (en_lk (ca_X0_holds G)) 2 false q
theorem d_X0_holds_0 : decode cX0_holds 0 = .ok (.dload_n 1, 1) := by decide +kernel
theorem j_X0_holds_0 {G : en_G} {q : Option en_V → en_S → Prop}  {l0 l2 l3 l4 : en_V} {x1 : UInt64} {σ : en_S} : en_J (X_X0_holds G q) 0 [l0, en_D x1, l2, l3, l4] [] σ ↔ en_J (X_X0_holds G q) 1 [l0, en_D x1, l2, l3, l4] [en_D x1] σ := en_j1 d_X0_holds_0 rfl rfl
theorem d_X0_holds_1 : decode cX0_holds 1 = .ok (.aload_n 0, 1) := by decide +kernel
theorem j_X0_holds_1 {G : en_G} {q : Option en_V → en_S → Prop}  {l1 l2 l3 l4 : en_V} {a0 : UInt64} {x0 : Option Nat} {σ : en_S} : en_J (X_X0_holds G q) 1 [en_R x0, l1, l2, l3, l4] [en_D a0] σ ↔ en_J (X_X0_holds G q) 2 [en_R x0, l1, l2, l3, l4] [en_R x0, en_D a0] σ := en_j1 d_X0_holds_1 rfl rfl
theorem d_X0_holds_2 : decode cX0_holds 2 = .ok (.getfield 29, 3) := by decide +kernel
theorem j_X0_holds_2 {G : en_G} {q : Option en_V → en_S → Prop}  {l0 l1 l2 l3 l4 : en_V} {a0 : Option Nat} {a1 : UInt64} {σ : en_S} : en_J (X_X0_holds G q) 2 [l0, l1, l2, l3, l4] [en_R a0, en_D a1] σ ↔ ∃ a, a0 = some a ∧ en_cl σ a = some 0 ∧ en_J (X_X0_holds G q) 5 [l0, l1, l2, l3, l4] [en_D (en_fd σ 6 a), en_D a1] σ := en_jg (st := fun o => [en_R o, en_D a1]) (st' := fun a => [en_D (en_fd σ 6 a), en_D a1]) (σ' := fun _ => σ) d_X0_holds_2 rfl (fun a => rfl) (fun a => ⟨fun h => h.2, fun h => ⟨rfl, h⟩⟩)
theorem d_X0_holds_5 : decode cX0_holds 5 = .ok (.dcmp .l, 1) := by decide +kernel
theorem j_X0_holds_5 {G : en_G} {q : Option en_V → en_S → Prop}  {l0 l1 l2 l3 l4 : en_V} {a0 : UInt64} {a1 : UInt64} {σ : en_S} : en_J (X_X0_holds G q) 5 [l0, l1, l2, l3, l4] [en_D a0, en_D a1] σ ↔ en_J (X_X0_holds G q) 6 [l0, l1, l2, l3, l4] [en_I (Op.cmpValue (FP.dcmp a1 a0) .l)] σ := en_j1 d_X0_holds_5 rfl rfl
theorem d_X0_holds_6 : decode cX0_holds 6 = .ok (.ifCond .lt 54, 3) := by decide +kernel
theorem j_X0_holds_6 {G : en_G} {q : Option en_V → en_S → Prop}  {l0 l1 l2 l3 l4 : en_V} {a0 : Int32} {σ : en_S} : en_J (X_X0_holds G q) 6 [l0, l1, l2, l3, l4] [en_I a0] σ ↔ (a0 < 0 → en_J (X_X0_holds G q) 60 [l0, l1, l2, l3, l4] [] σ) ∧ (¬ (a0 < 0) → en_J (X_X0_holds G q) 9 [l0, l1, l2, l3, l4] [] σ) := en_jb d_X0_holds_6 rfl ⟨rfl, by decide⟩
theorem d_X0_holds_9 : decode cX0_holds 9 = .ok (.dload_n 1, 1) := by decide +kernel
theorem j_X0_holds_9 {G : en_G} {q : Option en_V → en_S → Prop}  {l0 l2 l3 l4 : en_V} {x1 : UInt64} {σ : en_S} : en_J (X_X0_holds G q) 9 [l0, en_D x1, l2, l3, l4] [] σ ↔ en_J (X_X0_holds G q) 10 [l0, en_D x1, l2, l3, l4] [en_D x1] σ := en_j1 d_X0_holds_9 rfl rfl
theorem d_X0_holds_10 : decode cX0_holds 10 = .ok (.aload_n 0, 1) := by decide +kernel
theorem j_X0_holds_10 {G : en_G} {q : Option en_V → en_S → Prop}  {l1 l2 l3 l4 : en_V} {a0 : UInt64} {x0 : Option Nat} {σ : en_S} : en_J (X_X0_holds G q) 10 [en_R x0, l1, l2, l3, l4] [en_D a0] σ ↔ en_J (X_X0_holds G q) 11 [en_R x0, l1, l2, l3, l4] [en_R x0, en_D a0] σ := en_j1 d_X0_holds_10 rfl rfl
theorem d_X0_holds_11 : decode cX0_holds 11 = .ok (.getfield 29, 3) := by decide +kernel
theorem j_X0_holds_11 {G : en_G} {q : Option en_V → en_S → Prop}  {l0 l1 l2 l3 l4 : en_V} {a0 : Option Nat} {a1 : UInt64} {σ : en_S} : en_J (X_X0_holds G q) 11 [l0, l1, l2, l3, l4] [en_R a0, en_D a1] σ ↔ ∃ a, a0 = some a ∧ en_cl σ a = some 0 ∧ en_J (X_X0_holds G q) 14 [l0, l1, l2, l3, l4] [en_D (en_fd σ 6 a), en_D a1] σ := en_jg (st := fun o => [en_R o, en_D a1]) (st' := fun a => [en_D (en_fd σ 6 a), en_D a1]) (σ' := fun _ => σ) d_X0_holds_11 rfl (fun a => rfl) (fun a => ⟨fun h => h.2, fun h => ⟨rfl, h⟩⟩)
theorem d_X0_holds_14 : decode cX0_holds 14 = .ok (.aload_n 0, 1) := by decide +kernel
theorem j_X0_holds_14 {G : en_G} {q : Option en_V → en_S → Prop}  {l1 l2 l3 l4 : en_V} {a0 : UInt64} {a1 : UInt64} {x0 : Option Nat} {σ : en_S} : en_J (X_X0_holds G q) 14 [en_R x0, l1, l2, l3, l4] [en_D a0, en_D a1] σ ↔ en_J (X_X0_holds G q) 15 [en_R x0, l1, l2, l3, l4] [en_R x0, en_D a0, en_D a1] σ := en_j1 d_X0_holds_14 rfl rfl
theorem d_X0_holds_15 : decode cX0_holds 15 = .ok (.getfield 16, 3) := by decide +kernel
theorem j_X0_holds_15 {G : en_G} {q : Option en_V → en_S → Prop}  {l0 l1 l2 l3 l4 : en_V} {a0 : Option Nat} {a1 : UInt64} {a2 : UInt64} {σ : en_S} : en_J (X_X0_holds G q) 15 [l0, l1, l2, l3, l4] [en_R a0, en_D a1, en_D a2] σ ↔ ∃ a, a0 = some a ∧ en_cl σ a = some 0 ∧ en_J (X_X0_holds G q) 18 [l0, l1, l2, l3, l4] [en_D (en_fd σ 2 a), en_D a1, en_D a2] σ := en_jg (st := fun o => [en_R o, en_D a1, en_D a2]) (st' := fun a => [en_D (en_fd σ 2 a), en_D a1, en_D a2]) (σ' := fun _ => σ) d_X0_holds_15 rfl (fun a => rfl) (fun a => ⟨fun h => h.2, fun h => ⟨rfl, h⟩⟩)
theorem d_X0_holds_18 : decode cX0_holds 18 = .ok (.aload_n 0, 1) := by decide +kernel
theorem j_X0_holds_18 {G : en_G} {q : Option en_V → en_S → Prop}  {l1 l2 l3 l4 : en_V} {a0 : UInt64} {a1 : UInt64} {a2 : UInt64} {x0 : Option Nat} {σ : en_S} : en_J (X_X0_holds G q) 18 [en_R x0, l1, l2, l3, l4] [en_D a0, en_D a1, en_D a2] σ ↔ en_J (X_X0_holds G q) 19 [en_R x0, l1, l2, l3, l4] [en_R x0, en_D a0, en_D a1, en_D a2] σ := en_j1 d_X0_holds_18 rfl rfl
theorem d_X0_holds_19 : decode cX0_holds 19 = .ok (.getfield 32, 3) := by decide +kernel
theorem j_X0_holds_19 {G : en_G} {q : Option en_V → en_S → Prop}  {l0 l1 l2 l3 l4 : en_V} {a0 : Option Nat} {a1 : UInt64} {a2 : UInt64} {a3 : UInt64} {σ : en_S} : en_J (X_X0_holds G q) 19 [l0, l1, l2, l3, l4] [en_R a0, en_D a1, en_D a2, en_D a3] σ ↔ ∃ a, a0 = some a ∧ en_cl σ a = some 0 ∧ en_J (X_X0_holds G q) 22 [l0, l1, l2, l3, l4] [en_D (en_fd σ 8 a), en_D a1, en_D a2, en_D a3] σ := en_jg (st := fun o => [en_R o, en_D a1, en_D a2, en_D a3]) (st' := fun a => [en_D (en_fd σ 8 a), en_D a1, en_D a2, en_D a3]) (σ' := fun _ => σ) d_X0_holds_19 rfl (fun a => rfl) (fun a => ⟨fun h => h.2, fun h => ⟨rfl, h⟩⟩)
theorem d_X0_holds_22 : decode cX0_holds 22 = .ok (.dmul, 1) := by decide +kernel
theorem j_X0_holds_22 {G : en_G} {q : Option en_V → en_S → Prop}  {l0 l1 l2 l3 l4 : en_V} {a0 : UInt64} {a1 : UInt64} {a2 : UInt64} {a3 : UInt64} {σ : en_S} : en_J (X_X0_holds G q) 22 [l0, l1, l2, l3, l4] [en_D a0, en_D a1, en_D a2, en_D a3] σ ↔ vf_n64 (FP.dmul a1 a0) ∧ en_J (X_X0_holds G q) 23 [l0, l1, l2, l3, l4] [en_D (FP.dmul a1 a0), en_D a2, en_D a3] σ := en_jc d_X0_holds_22 rfl ⟨fun h => h.2, fun h => ⟨rfl, h⟩⟩
theorem d_X0_holds_23 : decode cX0_holds 23 = .ok (.dadd, 1) := by decide +kernel
theorem j_X0_holds_23 {G : en_G} {q : Option en_V → en_S → Prop}  {l0 l1 l2 l3 l4 : en_V} {a0 : UInt64} {a1 : UInt64} {a2 : UInt64} {σ : en_S} : en_J (X_X0_holds G q) 23 [l0, l1, l2, l3, l4] [en_D a0, en_D a1, en_D a2] σ ↔ vf_n64 (FP.dadd a1 a0) ∧ en_J (X_X0_holds G q) 24 [l0, l1, l2, l3, l4] [en_D (FP.dadd a1 a0), en_D a2] σ := en_jc d_X0_holds_23 rfl ⟨fun h => h.2, fun h => ⟨rfl, h⟩⟩
theorem d_X0_holds_24 : decode cX0_holds 24 = .ok (.dcmp .g, 1) := by decide +kernel
theorem j_X0_holds_24 {G : en_G} {q : Option en_V → en_S → Prop}  {l0 l1 l2 l3 l4 : en_V} {a0 : UInt64} {a1 : UInt64} {σ : en_S} : en_J (X_X0_holds G q) 24 [l0, l1, l2, l3, l4] [en_D a0, en_D a1] σ ↔ en_J (X_X0_holds G q) 25 [l0, l1, l2, l3, l4] [en_I (Op.cmpValue (FP.dcmp a1 a0) .g)] σ := en_j1 d_X0_holds_24 rfl rfl
theorem d_X0_holds_25 : decode cX0_holds 25 = .ok (.ifCond .ge 35, 3) := by decide +kernel
theorem j_X0_holds_25 {G : en_G} {q : Option en_V → en_S → Prop}  {l0 l1 l2 l3 l4 : en_V} {a0 : Int32} {σ : en_S} : en_J (X_X0_holds G q) 25 [l0, l1, l2, l3, l4] [en_I a0] σ ↔ (0 ≤ a0 → en_J (X_X0_holds G q) 60 [l0, l1, l2, l3, l4] [] σ) ∧ (¬ (0 ≤ a0) → en_J (X_X0_holds G q) 28 [l0, l1, l2, l3, l4] [] σ) := en_jb d_X0_holds_25 rfl ⟨rfl, by decide⟩
theorem d_X0_holds_28 : decode cX0_holds 28 = .ok (.dload_n 3, 1) := by decide +kernel
theorem j_X0_holds_28 {G : en_G} {q : Option en_V → en_S → Prop}  {l0 l1 l2 l4 : en_V} {x3 : UInt64} {σ : en_S} : en_J (X_X0_holds G q) 28 [l0, l1, l2, en_D x3, l4] [] σ ↔ en_J (X_X0_holds G q) 29 [l0, l1, l2, en_D x3, l4] [en_D x3] σ := en_j1 d_X0_holds_28 rfl rfl
theorem d_X0_holds_29 : decode cX0_holds 29 = .ok (.aload_n 0, 1) := by decide +kernel
theorem j_X0_holds_29 {G : en_G} {q : Option en_V → en_S → Prop}  {l1 l2 l3 l4 : en_V} {a0 : UInt64} {x0 : Option Nat} {σ : en_S} : en_J (X_X0_holds G q) 29 [en_R x0, l1, l2, l3, l4] [en_D a0] σ ↔ en_J (X_X0_holds G q) 30 [en_R x0, l1, l2, l3, l4] [en_R x0, en_D a0] σ := en_j1 d_X0_holds_29 rfl rfl
theorem d_X0_holds_30 : decode cX0_holds 30 = .ok (.getfield 35, 3) := by decide +kernel
theorem j_X0_holds_30 {G : en_G} {q : Option en_V → en_S → Prop}  {l0 l1 l2 l3 l4 : en_V} {a0 : Option Nat} {a1 : UInt64} {σ : en_S} : en_J (X_X0_holds G q) 30 [l0, l1, l2, l3, l4] [en_R a0, en_D a1] σ ↔ ∃ a, a0 = some a ∧ en_cl σ a = some 0 ∧ en_J (X_X0_holds G q) 33 [l0, l1, l2, l3, l4] [en_D (en_fd σ 7 a), en_D a1] σ := en_jg (st := fun o => [en_R o, en_D a1]) (st' := fun a => [en_D (en_fd σ 7 a), en_D a1]) (σ' := fun _ => σ) d_X0_holds_30 rfl (fun a => rfl) (fun a => ⟨fun h => h.2, fun h => ⟨rfl, h⟩⟩)
theorem d_X0_holds_33 : decode cX0_holds 33 = .ok (.dcmp .l, 1) := by decide +kernel
theorem j_X0_holds_33 {G : en_G} {q : Option en_V → en_S → Prop}  {l0 l1 l2 l3 l4 : en_V} {a0 : UInt64} {a1 : UInt64} {σ : en_S} : en_J (X_X0_holds G q) 33 [l0, l1, l2, l3, l4] [en_D a0, en_D a1] σ ↔ en_J (X_X0_holds G q) 34 [l0, l1, l2, l3, l4] [en_I (Op.cmpValue (FP.dcmp a1 a0) .l)] σ := en_j1 d_X0_holds_33 rfl rfl
theorem d_X0_holds_34 : decode cX0_holds 34 = .ok (.ifCond .lt 26, 3) := by decide +kernel
theorem j_X0_holds_34 {G : en_G} {q : Option en_V → en_S → Prop}  {l0 l1 l2 l3 l4 : en_V} {a0 : Int32} {σ : en_S} : en_J (X_X0_holds G q) 34 [l0, l1, l2, l3, l4] [en_I a0] σ ↔ (a0 < 0 → en_J (X_X0_holds G q) 60 [l0, l1, l2, l3, l4] [] σ) ∧ (¬ (a0 < 0) → en_J (X_X0_holds G q) 37 [l0, l1, l2, l3, l4] [] σ) := en_jb d_X0_holds_34 rfl ⟨rfl, by decide⟩
theorem d_X0_holds_37 : decode cX0_holds 37 = .ok (.dload_n 3, 1) := by decide +kernel
theorem j_X0_holds_37 {G : en_G} {q : Option en_V → en_S → Prop}  {l0 l1 l2 l4 : en_V} {x3 : UInt64} {σ : en_S} : en_J (X_X0_holds G q) 37 [l0, l1, l2, en_D x3, l4] [] σ ↔ en_J (X_X0_holds G q) 38 [l0, l1, l2, en_D x3, l4] [en_D x3] σ := en_j1 d_X0_holds_37 rfl rfl
theorem d_X0_holds_38 : decode cX0_holds 38 = .ok (.aload_n 0, 1) := by decide +kernel
theorem j_X0_holds_38 {G : en_G} {q : Option en_V → en_S → Prop}  {l1 l2 l3 l4 : en_V} {a0 : UInt64} {x0 : Option Nat} {σ : en_S} : en_J (X_X0_holds G q) 38 [en_R x0, l1, l2, l3, l4] [en_D a0] σ ↔ en_J (X_X0_holds G q) 39 [en_R x0, l1, l2, l3, l4] [en_R x0, en_D a0] σ := en_j1 d_X0_holds_38 rfl rfl
theorem d_X0_holds_39 : decode cX0_holds 39 = .ok (.getfield 35, 3) := by decide +kernel
theorem j_X0_holds_39 {G : en_G} {q : Option en_V → en_S → Prop}  {l0 l1 l2 l3 l4 : en_V} {a0 : Option Nat} {a1 : UInt64} {σ : en_S} : en_J (X_X0_holds G q) 39 [l0, l1, l2, l3, l4] [en_R a0, en_D a1] σ ↔ ∃ a, a0 = some a ∧ en_cl σ a = some 0 ∧ en_J (X_X0_holds G q) 42 [l0, l1, l2, l3, l4] [en_D (en_fd σ 7 a), en_D a1] σ := en_jg (st := fun o => [en_R o, en_D a1]) (st' := fun a => [en_D (en_fd σ 7 a), en_D a1]) (σ' := fun _ => σ) d_X0_holds_39 rfl (fun a => rfl) (fun a => ⟨fun h => h.2, fun h => ⟨rfl, h⟩⟩)
theorem d_X0_holds_42 : decode cX0_holds 42 = .ok (.aload_n 0, 1) := by decide +kernel
theorem j_X0_holds_42 {G : en_G} {q : Option en_V → en_S → Prop}  {l1 l2 l3 l4 : en_V} {a0 : UInt64} {a1 : UInt64} {x0 : Option Nat} {σ : en_S} : en_J (X_X0_holds G q) 42 [en_R x0, l1, l2, l3, l4] [en_D a0, en_D a1] σ ↔ en_J (X_X0_holds G q) 43 [en_R x0, l1, l2, l3, l4] [en_R x0, en_D a0, en_D a1] σ := en_j1 d_X0_holds_42 rfl rfl
theorem d_X0_holds_43 : decode cX0_holds 43 = .ok (.getfield 19, 3) := by decide +kernel
theorem j_X0_holds_43 {G : en_G} {q : Option en_V → en_S → Prop}  {l0 l1 l2 l3 l4 : en_V} {a0 : Option Nat} {a1 : UInt64} {a2 : UInt64} {σ : en_S} : en_J (X_X0_holds G q) 43 [l0, l1, l2, l3, l4] [en_R a0, en_D a1, en_D a2] σ ↔ ∃ a, a0 = some a ∧ en_cl σ a = some 0 ∧ en_J (X_X0_holds G q) 46 [l0, l1, l2, l3, l4] [en_D (en_fd σ 3 a), en_D a1, en_D a2] σ := en_jg (st := fun o => [en_R o, en_D a1, en_D a2]) (st' := fun a => [en_D (en_fd σ 3 a), en_D a1, en_D a2]) (σ' := fun _ => σ) d_X0_holds_43 rfl (fun a => rfl) (fun a => ⟨fun h => h.2, fun h => ⟨rfl, h⟩⟩)
theorem d_X0_holds_46 : decode cX0_holds 46 = .ok (.aload_n 0, 1) := by decide +kernel
theorem j_X0_holds_46 {G : en_G} {q : Option en_V → en_S → Prop}  {l1 l2 l3 l4 : en_V} {a0 : UInt64} {a1 : UInt64} {a2 : UInt64} {x0 : Option Nat} {σ : en_S} : en_J (X_X0_holds G q) 46 [en_R x0, l1, l2, l3, l4] [en_D a0, en_D a1, en_D a2] σ ↔ en_J (X_X0_holds G q) 47 [en_R x0, l1, l2, l3, l4] [en_R x0, en_D a0, en_D a1, en_D a2] σ := en_j1 d_X0_holds_46 rfl rfl
theorem d_X0_holds_47 : decode cX0_holds 47 = .ok (.getfield 32, 3) := by decide +kernel
theorem j_X0_holds_47 {G : en_G} {q : Option en_V → en_S → Prop}  {l0 l1 l2 l3 l4 : en_V} {a0 : Option Nat} {a1 : UInt64} {a2 : UInt64} {a3 : UInt64} {σ : en_S} : en_J (X_X0_holds G q) 47 [l0, l1, l2, l3, l4] [en_R a0, en_D a1, en_D a2, en_D a3] σ ↔ ∃ a, a0 = some a ∧ en_cl σ a = some 0 ∧ en_J (X_X0_holds G q) 50 [l0, l1, l2, l3, l4] [en_D (en_fd σ 8 a), en_D a1, en_D a2, en_D a3] σ := en_jg (st := fun o => [en_R o, en_D a1, en_D a2, en_D a3]) (st' := fun a => [en_D (en_fd σ 8 a), en_D a1, en_D a2, en_D a3]) (σ' := fun _ => σ) d_X0_holds_47 rfl (fun a => rfl) (fun a => ⟨fun h => h.2, fun h => ⟨rfl, h⟩⟩)
theorem d_X0_holds_50 : decode cX0_holds 50 = .ok (.dmul, 1) := by decide +kernel
theorem j_X0_holds_50 {G : en_G} {q : Option en_V → en_S → Prop}  {l0 l1 l2 l3 l4 : en_V} {a0 : UInt64} {a1 : UInt64} {a2 : UInt64} {a3 : UInt64} {σ : en_S} : en_J (X_X0_holds G q) 50 [l0, l1, l2, l3, l4] [en_D a0, en_D a1, en_D a2, en_D a3] σ ↔ vf_n64 (FP.dmul a1 a0) ∧ en_J (X_X0_holds G q) 51 [l0, l1, l2, l3, l4] [en_D (FP.dmul a1 a0), en_D a2, en_D a3] σ := en_jc d_X0_holds_50 rfl ⟨fun h => h.2, fun h => ⟨rfl, h⟩⟩
theorem d_X0_holds_51 : decode cX0_holds 51 = .ok (.dadd, 1) := by decide +kernel
theorem j_X0_holds_51 {G : en_G} {q : Option en_V → en_S → Prop}  {l0 l1 l2 l3 l4 : en_V} {a0 : UInt64} {a1 : UInt64} {a2 : UInt64} {σ : en_S} : en_J (X_X0_holds G q) 51 [l0, l1, l2, l3, l4] [en_D a0, en_D a1, en_D a2] σ ↔ vf_n64 (FP.dadd a1 a0) ∧ en_J (X_X0_holds G q) 52 [l0, l1, l2, l3, l4] [en_D (FP.dadd a1 a0), en_D a2] σ := en_jc d_X0_holds_51 rfl ⟨fun h => h.2, fun h => ⟨rfl, h⟩⟩
theorem d_X0_holds_52 : decode cX0_holds 52 = .ok (.dcmp .g, 1) := by decide +kernel
theorem j_X0_holds_52 {G : en_G} {q : Option en_V → en_S → Prop}  {l0 l1 l2 l3 l4 : en_V} {a0 : UInt64} {a1 : UInt64} {σ : en_S} : en_J (X_X0_holds G q) 52 [l0, l1, l2, l3, l4] [en_D a0, en_D a1] σ ↔ en_J (X_X0_holds G q) 53 [l0, l1, l2, l3, l4] [en_I (Op.cmpValue (FP.dcmp a1 a0) .g)] σ := en_j1 d_X0_holds_52 rfl rfl
theorem d_X0_holds_53 : decode cX0_holds 53 = .ok (.ifCond .ge 7, 3) := by decide +kernel
theorem j_X0_holds_53 {G : en_G} {q : Option en_V → en_S → Prop}  {l0 l1 l2 l3 l4 : en_V} {a0 : Int32} {σ : en_S} : en_J (X_X0_holds G q) 53 [l0, l1, l2, l3, l4] [en_I a0] σ ↔ (0 ≤ a0 → en_J (X_X0_holds G q) 60 [l0, l1, l2, l3, l4] [] σ) ∧ (¬ (0 ≤ a0) → en_J (X_X0_holds G q) 56 [l0, l1, l2, l3, l4] [] σ) := en_jb d_X0_holds_53 rfl ⟨rfl, by decide⟩
theorem d_X0_holds_56 : decode cX0_holds 56 = .ok (.iconst 1, 1) := by decide +kernel
theorem j_X0_holds_56 {G : en_G} {q : Option en_V → en_S → Prop}  {l0 l1 l2 l3 l4 : en_V}  {σ : en_S} : en_J (X_X0_holds G q) 56 [l0, l1, l2, l3, l4] [] σ ↔ en_J (X_X0_holds G q) 57 [l0, l1, l2, l3, l4] [en_I 1] σ := ej_iconst d_X0_holds_56 (by decide +kernel)
theorem d_X0_holds_57 : decode cX0_holds 57 = .ok (.goto 4, 3) := by decide +kernel
theorem j_X0_holds_57 {G : en_G} {q : Option en_V → en_S → Prop}  {l0 l1 l2 l3 l4 : en_V} {a0 : Int32} {σ : en_S} : en_J (X_X0_holds G q) 57 [l0, l1, l2, l3, l4] [en_I a0] σ ↔ en_J (X_X0_holds G q) 61 [l0, l1, l2, l3, l4] [en_I a0] σ := en_j1 d_X0_holds_57 rfl ⟨rfl, by decide⟩
theorem d_X0_holds_60 : decode cX0_holds 60 = .ok (.iconst 0, 1) := by decide +kernel
theorem j_X0_holds_60 {G : en_G} {q : Option en_V → en_S → Prop}  {l0 l1 l2 l3 l4 : en_V}  {σ : en_S} : en_J (X_X0_holds G q) 60 [l0, l1, l2, l3, l4] [] σ ↔ en_J (X_X0_holds G q) 61 [l0, l1, l2, l3, l4] [en_I 0] σ := ej_iconst d_X0_holds_60 (by decide +kernel)
theorem d_X0_holds_61 : decode cX0_holds 61 = .ok (.ireturn, 1) := by decide +kernel
theorem j_X0_holds_61 {G : en_G} {q : Option en_V → en_S → Prop}  {l0 l1 l2 l3 l4 : en_V} {a0 : Int32} {σ : en_S} : en_J (X_X0_holds G q) 61 [l0, l1, l2, l3, l4] [en_I a0] σ ↔ (a0 = 0 ∨ a0 = 1) ∧ q (some (en_I a0)) σ := en_jr d_X0_holds_61 rfl ⟨fun h => ⟨h.2.1.elim (fun z => absurd (show (2 : Nat) = 1 from z) (by decide)) (fun z => z.2), h.2.2⟩, fun h => ⟨rfl, Or.inr ⟨rfl, h.1⟩, h.2⟩⟩
theorem wc_X0_holds : Jvm.Cond.code yX0_holds cX0_holds 5 (some .boolean) ∈ en_W := en_inW (List.mem_of_getElem? (i := 361) (by decide +kernel)) (by decide +kernel)
theorem wi_X0_holds : Jvm.Cond.instanceMethod yX0_holds ∈ en_W := en_inW (List.mem_of_getElem? (i := 359) (by decide +kernel)) (by decide +kernel)
theorem wx_X0_holds : Jvm.Cond.selects RX0 yX0_holds yX0_holds ∈ en_W := en_inW (List.mem_of_getElem? (i := 360) (by decide +kernel)) (by decide +kernel)
theorem jp_X0_holds {G : en_G} : ∀ as σ, C_X0_holds.1 as σ → (en_lc as).length ≤ 5 ∧ en_J (X_X0_holds G (fun r σ' => C_X0_holds.2 as σ r σ')) 0 (en_loc 5 as) [] σ := by
  rintro as σ ⟨a, x, y, rfl, hc⟩
  refine ⟨Nat.le_of_ble_eq_true rfl, ?_⟩
  show en_J _ 0 [en_R (some a), en_D x, en_U, en_D y, en_U] [] σ
  obtain ⟨h1, h2, h3, h4, h5⟩ := hc
  simp only [j_X0_holds_0, j_X0_holds_1, j_X0_holds_2, j_X0_holds_5, j_X0_holds_6, j_X0_holds_9, j_X0_holds_10, j_X0_holds_11, j_X0_holds_14, j_X0_holds_15, j_X0_holds_18, j_X0_holds_19, j_X0_holds_22, j_X0_holds_23, j_X0_holds_24, j_X0_holds_25, j_X0_holds_28, j_X0_holds_29, j_X0_holds_30, j_X0_holds_33, j_X0_holds_34, j_X0_holds_37, j_X0_holds_38, j_X0_holds_39, j_X0_holds_42, j_X0_holds_43, j_X0_holds_46, j_X0_holds_47, j_X0_holds_50, j_X0_holds_51, j_X0_holds_52, j_X0_holds_53, j_X0_holds_56, j_X0_holds_57, j_X0_holds_60, j_X0_holds_61, en_c2I, en_c2R, en_c2U, en_c2D, Option.some.injEq, exists_eq_left', exists_eq_left, Option.map_some, Option.map_none, not_true_eq_false, false_implies, true_implies, and_true, true_and, reduceCtorEq, not_false_eq_true, h1, h2, h3, h4, h5]
  refine ⟨fun a1 => ⟨by simp, a, x, y, rfl, rfl, ?_⟩, fun a1 => ⟨fun a2 => ⟨by simp, a, x, y, rfl, rfl, ?_⟩, fun a2 => ⟨fun a3 => ⟨by simp, a, x, y, rfl, rfl, ?_⟩, fun a3 => ⟨fun a4 => ⟨by simp, a, x, y, rfl, rfl, ?_⟩, fun a4 => ⟨by simp, a, x, y, rfl, rfl, ?_⟩⟩⟩⟩⟩
  · rw [if_neg (fun z => z.1 a1)]
  · rw [if_neg (fun z => z.2.1 a2)]
  · rw [if_neg (fun z => z.2.2.1 a3)]
  · rw [if_neg (fun z => z.2.2.2 a4)]
  · rw [if_pos ⟨a1, a2, a3, a4⟩]
theorem ok_X0_holds {G : en_G}  : en_Ok G 1 yX0_holds cX0_holds 5 (some .boolean) C_X0_holds :=
  en_met (own := RX0) (fl := en_lk fl0) (nw := en_lk nw0) (aw := en_lk aw0) (dc := en_lk dc0) (ca := en_lk (ca_X0_holds G)) (rt := 2) (ini := false) (by decide +kernel) (Or.inr (Or.inr (Or.inl ⟨rfl, rfl⟩))) (fun h => by cases h) rfl (fun q => en_LkF fl0_ok nw0_ok aw0_ok dc0_ok) (fun idx q hq => by cases hq) jp_X0_holds
