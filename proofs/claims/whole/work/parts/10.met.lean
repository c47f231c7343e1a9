/-! THE ENGINE, part 8: a contract out of the judgement -/
def en_mk (G : en_G) (cc : ByteArray) (fl : Nat → Option Nat) (nw : Nat → Option (Nat × Nat)) (aw : Nat → Option Nat) (dc : Nat → Option UInt64) (ca : Nat → Option (Nat × en_C)) (rt : Nat) (ini : Bool) (q : Option en_V → en_S → Prop) : en_X := (cc, fl, nw, aw, dc, ca, none, fun _ => none, (G.2.2.2.2.1, G.2.2.2.2.2), rt, ini, q, fun _ _ => False)
def en_rtok (rt : Nat) (ret : Option FieldType) : Prop := (rt = 0 ∧ ret = none) ∨ (rt = 1 ∧ ret = some .int) ∨ (rt = 2 ∧ ret = some .boolean) ∨ (rt = 3 ∧ ∃ n, ret = some (.object n)) ∨ (rt = 4 ∧ ret = some .double)
/-- the ends of a body -/
theorem en_rets {G : en_G} {p : Program} {e : Env} {R : Room} {s : State} {m : MethodId} {args : Array Value} {below : List Frame} {meth : Method} {c : Code} {X : en_X} {nL rt : Nat} {ret : Option FieldType} {C : en_C} {as : List en_V} {σ0 : en_S}
    (hx : p.tables.exec = Jvm.exec) (hb : c.code = en_cc X) (hr : meth.sig.returnType = ret) (hlocks : meth.locks = false) (hrt : en_rtok (en_rt X) ret) (hq : en_q X = fun r σ' => C.2 as σ0 r σ') (hxl : en_xl X = G.2.2.2.2.1) (hsl : en_sl X = G.2.2.2.2.2) (hn : s.heap.size = en_nx σ0) (hs : en_hs s.heap = en_ns σ0) :
    ∀ (i : Instr) (pc : Nat) (r : Option en_V) (σ : en_S) (ls : List en_V), decode (en_cc X) pc = .ok (i, 1) → en_q X r σ → ((i = .return_ ∧ r = none ∧ en_rt X = 0) ∨ (∃ x, i = .ireturn ∧ r = some (en_I x) ∧ (en_rt X = 1 ∨ (en_rt X = 2 ∧ (x = 0 ∨ x = 1)))) ∨ (∃ o, i = .areturn ∧ r = some (en_R o) ∧ en_rt X = 3) ∨ (∃ x, i = .dreturn ∧ r = some (en_D x) ∧ en_rt X = 4)) →
      en_P p G.1 e R s m args below meth c (MQ below (en_Qc G C as σ0) args s (G.2.2.2.2.1 - en_nx σ0) (G.2.2.2.2.2 - en_ns σ0) (fun q => G.2.2.2.1 ≤ q)) X nL G.2.2.2.1 G.2.1 G.2.2.1 (pc, ls, r.toList, σ) := by
  intro i pc r σ ls hd hqr hk H locs lsA cells slots hH hS hx1 hx2 hl
  rw [hq] at hqr
  rw [hxl] at hx1
  rw [hsl] at hx2
  have key : ∀ t : State, t.heap = H → s.WarmedH t.vm → en_Qc G C as σ0 args s (.returned (r.map en_vv)) t := fun t ht _ => ⟨r, σ, rfl, hqr, by rw [ht]; exact hH, hx1, hx2, hS.F ht⟩
  have e1 := hH.2.2.1
  have e2 := hH.2.2.2.1
  have hz1 : (pc, ls, r.toList, σ).2.2.2 = σ := rfl
  rw [hz1] at e1 e2 hx1 hx2
  refine W.tight (W.widen (k := G.2.2.2.2.1 - en_nx σ0) (n := G.2.2.2.2.2 - en_ns σ0) (by omega) (by omega) ?_)
  rcases hk with ⟨rfl, rfl, h0⟩ | ⟨x, rfl, rfl, h0⟩ | ⟨o, rfl, rfl, h0⟩ | ⟨x, rfl, rfl, h0⟩
  · rcases hrt with ⟨-, h1⟩ | ⟨q, -⟩ | ⟨q, -⟩ | ⟨q, -⟩ | ⟨q, -⟩
    · exact W.vret hx hb (hr.trans h1) key hS.2.2 hd hlocks
    all_goals (rw [h0] at q; exact absurd q (by decide))
  · rcases hrt with ⟨q, h1⟩ | ⟨q, h1⟩ | ⟨q, h1⟩ | ⟨q, h1⟩ | ⟨q, h1⟩
    · rcases h0 with h0 | ⟨h0, -⟩ <;> (rw [h0] at q; exact absurd q (by decide))
    · exact W.iret hx hb (hr.trans h1) key hS.2.2 hd hlocks
    · rcases h0 with h0 | ⟨h0, hx01⟩
      · rw [h0] at q; exact absurd q (by decide)
      · exact W.zret hx hb (hr.trans h1) (by rcases hx01 with rfl | rfl <;> decide +kernel) key hS.2.2 hd hlocks
    · rcases h0 with h0 | ⟨h0, -⟩ <;> (rw [h0] at q; exact absurd q (by decide))
    · rcases h0 with h0 | ⟨h0, -⟩ <;> (rw [h0] at q; exact absurd q (by decide))
  · rcases hrt with ⟨q, h1⟩ | ⟨q, h1⟩ | ⟨q, h1⟩ | ⟨q, n, h1⟩ | ⟨q, h1⟩
    · rw [h0] at q; exact absurd q (by decide)
    · rw [h0] at q; exact absurd q (by decide)
    · rw [h0] at q; exact absurd q (by decide)
    · exact W.aret (v := va_rf o) hx hb (hr.trans h1) (Or.inl ⟨n, rfl⟩) (by cases o with | none => exact Or.inl rfl | some a => exact Or.inr ⟨a, rfl⟩) key hS.2.2 hd hlocks
    · rw [h0] at q; exact absurd q (by decide)
  · rcases hrt with ⟨q, h1⟩ | ⟨q, h1⟩ | ⟨q, h1⟩ | ⟨q, h1⟩ | ⟨q, h1⟩
    · rw [h0] at q; exact absurd q (by decide)
    · rw [h0] at q; exact absurd q (by decide)
    · rw [h0] at q; exact absurd q (by decide)
    · rw [h0] at q; exact absurd q (by decide)
    · exact W.dret hx hb (hr.trans h1) key hS.2.2 hd hlocks
theorem en_met {G : en_G} {h : Nat} {y : MethodName} {cc : ByteArray} {maxL : Nat} {ret : Option FieldType} {C : en_C} {own : String} {fl : Nat → Option Nat} {nw : Nat → Option (Nat × Nat)} {aw : Nat → Option Nat} {dc : Nat → Option UInt64} {ca : Nat → Option (Nat × en_C)} {rt : Nat} {ini : Bool}
    (hp : Jvm.plainName y.cls = true) (hrt : en_rtok rt ret) (hini : ini = true → y.name = "<init>") (hown : y.cls = own) (hlk : ∀ q, en_Lk own (en_mk G cc fl nw aw dc ca rt ini q)) (hcl : ∀ idx q, ca idx = some q → en_Cl G h own idx q)
    (hJ : ∀ as σ, C.1 as σ → (en_lc as).length ≤ maxL ∧ en_J (en_mk G cc fl nw aw dc ca rt ini (fun r σ' => C.2 as σ r σ')) 0 (en_loc maxL as) [] σ) : en_Ok G h y cc maxL ret C := by
  intro as σ hpre
  obtain ⟨hlen, hj⟩ := hJ as σ hpre
  refine Met.ofW (cc := cc) (maxL := maxL) (ret := ret) hp rfl ?_
  intro p e s m args below meth c s₁ B hml hv
  obtain ⟨rfl, hH, hK, hx1, hx2⟩ := hv
  have hts := atoms_spec (ws := en_ws y cc maxL ret) B.pre
  have hts' : ∀ w ∈ en_W, w.before (as.map en_vv).toArray s = true := fun w hw => hts w (List.mem_cons_of_mem _ hw)
  have ho : s.vm.findClass own = some m.cls := by rw [← hown]; exact findClass_of_methodNamed B.named
  have hname : meth.name = y.name := (name_of_methodNamed B.named B.method).1
  have e1 := hH.2.2.1
  have e2 := hH.2.2.2.1
  rw [lg_entry_eq]
  have hlk' := hlk (fun r σ' => C.2 as σ r σ')
  have Bx : en_Bx G h own p e (en_rm G h σ) s m (as.map en_vv).toArray c (en_mk G cc fl nw aw dc ca rt ini (fun r σ' => C.2 as σ r σ')) maxL :=
    ⟨B.exec, B.bytes, hml, ho, hts', hK, hH.2.2.2.2, by rw [e1]; rfl, by rw [e2]; rfl, Nat.le_refl _, Nat.le_refl _, rfl, rfl⟩
  have Cx : en_Cx p G.1 e (en_rm G h σ) s m (as.map en_vv).toArray below meth c (MQ below (en_Qc G C as σ) (as.map en_vv).toArray s (G.2.2.2.2.1 - en_nx σ) (G.2.2.2.2.2 - en_ns σ) (fun q => G.2.2.2.1 ≤ q)) own (en_mk G cc fl nw aw dc ca rt ini (fun r σ' => C.2 as σ r σ')) maxL G.2.2.2.1 G.2.1 G.2.2.1 := by
    refine ⟨B.exec, B.bytes, hml, ho, hts', hK, hH.2.2.2.2, by rw [e1]; rfl, by rw [e2]; rfl, fun hq => hname.trans (hini hq), hlk', ?_, ?_, ?_, ?_⟩
    · intro b L xs hq
      exact absurd hq (fun z => by cases z)
    · intro idx q i pc ls st σ' hq hd hk h1 h2 h3 h4
      exact hcl idx q hq p e (en_rm G h σ) s m (as.map en_vv).toArray below meth c _ _ maxL Bx i pc ls st σ' hd hk h1 h2 h3 h4
    · exact en_rets (ret := ret) (rt := rt) B.exec B.bytes B.returns B.notSynchronized hrt rfl rfl rfl e1 e2
    · intro idx pc E σ' ls hd hq
      exact absurd hq (fun z => by cases z)
  exact en_sound Cx hj s.heap [] _ 0 0 hH va_S.rf hx1 hx2 (en_entry hlen)
