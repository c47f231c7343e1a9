/-! THE LAW: what the Statement gives of its start -/
theorem la_prim {args : Array Value} {s : State} {ty : FieldType} (h : (Jvm.Cond.arrayClass ty).before args s = true) (hp : ∀ C, ty ≠ .object C) : ∃ cA, ArrOfT s cA ty ∧ va_RA s cA ty := by
  obtain ⟨c, k, comp, h1, h2, h3⟩ := Cond.arrayClass_spec h
  refine ⟨c, fun n z => ⟨fun k h => (by cases h), k, h2, comp, h3⟩, ?_⟩
  cases ty with
  | object C => exact absurd rfl (hp C)
  | _ => exact h1
theorem la_obj {args : Array Value} {s : State} {C : String} (h : (Jvm.Cond.arrayOver (.object C)).before args s = true) : ∃ cA, ArrOfT s cA (.object C) ∧ va_RA s cA (.object C) := by
  obtain ⟨comp, c, k, f1, -, hk, hkind, f2⟩ := Cond.arrayOver_spec h
  exact ⟨c, fun n z => ⟨fun k h => (by cases h), k, hk, comp, hkind⟩, k, comp, hk, hkind, f1, f2⟩
theorem la_str {args : Array Value} {s : State} {k : Nat} {tx : String} (h1 : (Jvm.Cond.stringRef RX6 k tx).before args s = true) (h2 : (Jvm.Cond.exactly (.string RX6 k) "java/lang/String").before args s = true) : ∃ sa, vk_R RX6 k tx sa s := by
  obtain ⟨a, c, cell, kk, q1, -⟩ := Cond.exactly_spec h2
  exact ⟨a, vk_R.of h1 q1⟩
theorem la_K {args : Array Value} {s : State} (hts : ∀ w ∈ lw_tbl, w.before args s = true) : ∃ (D : va_G) (dA : Nat → ClassId), en_K D dA s := by
  obtain ⟨c0, i0, k0⟩ := u_known (C := RX0) (T := TX0) (N := 10) (n := 10) hts (fun w hw => (en_ws0 w hw).1) (hts (.instantiable RX0 10) (List.mem_of_getElem? (i := 628) (by decide +kernel)))
  obtain ⟨c1, i1, k1⟩ := u_known (C := RX1) (T := TX1) (N := 2) (n := 2) hts (fun w hw => (en_ws1 w hw).1) (hts (.instantiable RX1 2) (List.mem_of_getElem? (i := 73) (by decide +kernel)))
  obtain ⟨c2, i2, k2⟩ := u_known (C := RX2) (T := TX2) (N := 9) (n := 9) hts (fun w hw => (en_ws2 w hw).1) (hts (.instantiable RX2 9) (List.mem_of_getElem? (i := 152) (by decide +kernel)))
  obtain ⟨c3, i3, k3⟩ := u_known (C := RX3) (T := TX3) (N := 5) (n := 5) hts (fun w hw => (en_ws3 w hw).1) (hts (.instantiable RX3 5) (List.mem_of_getElem? (i := 302) (by decide +kernel)))
  obtain ⟨c4, i4, k4⟩ := u_known (C := RX4) (T := TX4) (N := 12) (n := 12) hts (fun w hw => (en_ws4 w hw).1) (hts (.instantiable RX4 12) (List.mem_of_getElem? (i := 87) (by decide +kernel)))
  obtain ⟨c5, i5, k5⟩ := u_known (C := RX5) (T := TX5) (N := 3) (n := 3) hts (fun w hw => (en_ws5 w hw).1) (hts (.instantiable RX5 3) (List.mem_of_getElem? (i := 136) (by decide +kernel)))
  obtain ⟨c6, i6, k6⟩ := u_known (C := RX6) (T := TX6) (N := 13) (n := 13) hts (fun w hw => (en_ws6 w hw).1) (hts (.instantiable RX6 13) (List.mem_of_getElem? (i := 57) (by decide +kernel)))
  obtain ⟨c7, i7, k7⟩ := u_known (C := RX7) (T := TX7) (N := 53) (n := 53) hts (fun w hw => (en_ws7 w hw).1) (hts (.instantiable RX7 53) (List.mem_of_getElem? (i := 689) (by decide +kernel)))
  obtain ⟨a0, h0⟩ := la_prim (hts _ (List.mem_filter.mp en_aI).1) (fun C z => by cases z)
  obtain ⟨a1, h1⟩ := la_prim (hts _ (List.mem_filter.mp en_aZ).1) (fun C z => by cases z)
  obtain ⟨a2, h2⟩ := la_prim (hts _ (List.mem_filter.mp en_aD).1) (fun C z => by cases z)
  obtain ⟨a3, h3⟩ := la_prim (hts _ (List.mem_filter.mp en_aJ).1) (fun C z => by cases z)
  have v4 := hts (.arrayOver (.object RX4)) (List.mem_of_getElem? (i := 65) (by decide +kernel))
  obtain ⟨a4, h4⟩ := la_obj v4
  have v5 := hts (.arrayOver (.object RX3)) (List.mem_of_getElem? (i := 67) (by decide +kernel))
  obtain ⟨a5, h5⟩ := la_obj v5
  have v6 := hts (.arrayOver (.object RX5)) (List.mem_of_getElem? (i := 69) (by decide +kernel))
  obtain ⟨a6, h6⟩ := la_obj v6
  have v7 := hts (.arrayOver (.object RX2)) (List.mem_of_getElem? (i := 71) (by decide +kernel))
  obtain ⟨a7, h7⟩ := la_obj v7
  refine ⟨(fun k => [c0, c1, c2, c3, c4, c5, c6, c7].getD k c0, fun k => [i0, i1, i2, i3, i4, i5, i6, i7].getD k i0), fun t => [a0, a1, a2, a3, a4, a5, a6, a7].getD t a0, fun c q hq => ?_, fun t ht => ?_, v4, v5, v6, v7, fun w hw => ?_⟩
  · match c, hq with
    | 0, hq => cases hq; exact k0
    | 1, hq => cases hq; exact k1
    | 2, hq => cases hq; exact k2
    | 3, hq => cases hq; exact k3
    | 4, hq => cases hq; exact k4
    | 5, hq => cases hq; exact k5
    | 6, hq => cases hq; exact k6
    | 7, hq => cases hq; exact k7
    | c + 8, hq => simp [vwCl] at hq
  · match t, ht with
    | 0, _ => exact h0
    | 1, _ => exact h1
    | 2, _ => exact h2
    | 3, _ => exact h3
    | 4, _ => exact h4
    | 5, _ => exact h5
    | 6, _ => exact h6
    | 7, _ => exact h7
    | t + 8, ht => exact absurd ht (by omega)
  · simp only [en_nest, List.mem_cons, List.not_mem_nil, or_false] at hw
    rcases hw with rfl | rfl | rfl | rfl
    · exact va_Nw.of rfl (hts _ (List.mem_of_getElem? (i := 74) (by decide +kernel)))
    · exact va_Nw.of rfl (hts _ (List.mem_of_getElem? (i := 137) (by decide +kernel)))
    · exact va_Nw.of rfl (hts _ (List.mem_of_getElem? (i := 153) (by decide +kernel)))
    · exact va_Nw.of rfl (hts _ (List.mem_of_getElem? (i := 629) (by decide +kernel)))
theorem la_Y {args : Array Value} {s : State} (hts : ∀ w ∈ lw_tbl, w.before args s = true) (hgv : (Jvm.Cond.and given_1 narrow_1).before args s = true) : en_Y s := by
  have hf := flat_of_before _ hgv
  refine ⟨fun w hw => ?_, fun p hp => ?_, fun p hp => ?_⟩
  · simp only [en_nw, List.mem_cons, List.not_mem_nil, or_false] at hw
    rcases hw with rfl | rfl | rfl | rfl | rfl | rfl
    · exact va_Nw.of rfl (hts _ (List.mem_of_getElem? (i := 509) (by decide +kernel)))
    · exact va_Nw.of rfl (hts _ (List.mem_of_getElem? (i := 511) (by decide +kernel)))
    · exact va_Nw.of rfl (hts _ (List.mem_of_getElem? (i := 513) (by decide +kernel)))
    · exact va_Nw.of rfl (hts _ (List.mem_of_getElem? (i := 507) (by decide +kernel)))
    · exact va_Nw.of rfl (hts _ (List.mem_of_getElem? (i := 575) (by decide +kernel)))
    · exact va_Nw.of rfl (hts _ (List.mem_of_getElem? (i := 591) (by decide +kernel)))
  · simp only [en_str, List.mem_cons, List.not_mem_nil, or_false] at hp
    rcases hp with rfl | rfl | rfl | rfl | rfl | rfl | rfl | rfl
    · exact la_str (hts _ (List.mem_of_getElem? (i := 546) (by decide +kernel))) (hf _ (List.mem_of_getElem? (i := 36) (by decide +kernel)))
    · exact la_str (hts _ (List.mem_of_getElem? (i := 582) (by decide +kernel))) (hf _ (List.mem_of_getElem? (i := 61) (by decide +kernel)))
    · exact la_str (hts _ (List.mem_of_getElem? (i := 598) (by decide +kernel))) (hf _ (List.mem_of_getElem? (i := 97) (by decide +kernel)))
    · exact la_str (hts _ (List.mem_of_getElem? (i := 612) (by decide +kernel))) (hf _ (List.mem_of_getElem? (i := 135) (by decide +kernel)))
    · exact la_str (hts _ (List.mem_of_getElem? (i := 620) (by decide +kernel))) (hf _ (List.mem_of_getElem? (i := 191) (by decide +kernel)))
    · exact la_str (hts _ (List.mem_of_getElem? (i := 626) (by decide +kernel))) (hf _ (List.mem_of_getElem? (i := 223) (by decide +kernel)))
    · exact la_str (hts _ (List.mem_of_getElem? (i := 686) (by decide +kernel))) (hf _ (List.mem_of_getElem? (i := 271) (by decide +kernel)))
    · exact la_str (hts _ (List.mem_of_getElem? (i := 687) (by decide +kernel))) (hf _ (List.mem_of_getElem? (i := 296) (by decide +kernel)))
  · simp only [en_nc, List.mem_cons, List.not_mem_nil, or_false] at hp
    rcases hp with rfl | rfl | rfl | rfl
    · exact va_Nc.of (hf _ (List.mem_of_getElem? (i := 12) (by decide +kernel)))
    · exact va_Nc.of (hf _ (List.mem_of_getElem? (i := 13) (by decide +kernel)))
    · exact va_Nc.of (hf _ (List.mem_of_getElem? (i := 23) (by decide +kernel)))
    · exact va_Nc.of (hf _ (List.mem_of_getElem? (i := 33) (by decide +kernel)))
theorem la_Z {args : Array Value} {s : State} (hts : ∀ w ∈ lw_tbl, w.before args s = true) (hgv : (Jvm.Cond.and given_1 narrow_1).before args s = true) : en_Z s.heap.size s s.heap := by
  have hf := flat_of_before _ hgv
  have hi := hts (.initialized Bundle.tN) (List.mem_of_getElem? (i := 47) (by decide +kernel))
  exact ⟨vx_Zqof (hts _ (List.mem_of_getElem? (i := 532) (by decide +kernel))) hi (hf _ (List.mem_of_getElem? (i := 4) (by decide +kernel))) (fun a h => Nat.not_le.mpr h), vx_Zqof (hts _ (List.mem_of_getElem? (i := 534) (by decide +kernel))) hi (hf _ (List.mem_of_getElem? (i := 5) (by decide +kernel))) (fun a h => Nat.not_le.mpr h)⟩
theorem wlL_31 : Jvm.Cond.methodLink RL 31 yX6_init ∈ en_W := en_inW (List.mem_of_getElem? (i := 58) (by decide +kernel)) (by decide +kernel)
theorem wlL_34 : Jvm.Cond.methodLink RL 34 yX7_init ∈ en_W := en_inW (List.mem_of_getElem? (i := 690) (by decide +kernel)) (by decide +kernel)
theorem wlL_35 : Jvm.Cond.methodLink RL 35 yX6_make ∈ en_W := en_inW (List.mem_of_getElem? (i := 233) (by decide +kernel)) (by decide +kernel)
theorem wlL_39 : Jvm.Cond.methodLink RL 39 yX7_make ∈ en_W := en_inW (List.mem_of_getElem? (i := 860) (by decide +kernel)) (by decide +kernel)
theorem wlL_40 : Jvm.Cond.methodLink RL 40 yX6_attach ∈ en_W := en_inW (List.mem_of_getElem? (i := 244) (by decide +kernel)) (by decide +kernel)
theorem wlL_44 : Jvm.Cond.methodLink RL 44 yX7_attach ∈ en_W := en_inW (List.mem_of_getElem? (i := 871) (by decide +kernel)) (by decide +kernel)
theorem wlL_45 : Jvm.Cond.methodLink RL 45 yL_insert ∈ en_W := en_inW (List.mem_of_getElem? (i := 495) (by decide +kernel)) (by decide +kernel)
theorem wlL_50 : Jvm.Cond.methodLink RL 50 yX7_insert ∈ en_W := en_inW (List.mem_of_getElem? (i := 879) (by decide +kernel)) (by decide +kernel)
theorem wlL_51 : Jvm.Cond.methodLink RL 51 yX7_thrown ∈ en_W := en_inW (List.mem_of_getElem? (i := 856) (by decide +kernel)) (by decide +kernel)
theorem wlL_55 : Jvm.Cond.methodLink RL 55 yX6_remove ∈ en_W := en_inW (List.mem_of_getElem? (i := 252) (by decide +kernel)) (by decide +kernel)
theorem wlL_59 : Jvm.Cond.methodLink RL 59 yX7_remove ∈ en_W := en_inW (List.mem_of_getElem? (i := 911) (by decide +kernel)) (by decide +kernel)
theorem wlL_60 : Jvm.Cond.methodLink RL 60 yX6_command ∈ en_W := en_inW (List.mem_of_getElem? (i := 263) (by decide +kernel)) (by decide +kernel)
theorem wlL_63 : Jvm.Cond.methodLink RL 63 yX7_command ∈ en_W := en_inW (List.mem_of_getElem? (i := 915) (by decide +kernel)) (by decide +kernel)
theorem wlL_64 : Jvm.Cond.methodLink RL 64 yX6_clear ∈ en_W := en_inW (List.mem_of_getElem? (i := 275) (by decide +kernel)) (by decide +kernel)
theorem wlL_67 : Jvm.Cond.methodLink RL 67 yX7_clear ∈ en_W := en_inW (List.mem_of_getElem? (i := 919) (by decide +kernel)) (by decide +kernel)
theorem wlL_68 : Jvm.Cond.methodLink RL 68 yX6_listen ∈ en_W := en_inW (List.mem_of_getElem? (i := 279) (by decide +kernel)) (by decide +kernel)
theorem wlL_72 : Jvm.Cond.methodLink RL 72 yX7_listen ∈ en_W := en_inW (List.mem_of_getElem? (i := 923) (by decide +kernel)) (by decide +kernel)
theorem wlL_73 : Jvm.Cond.methodLink RL 73 yX6_unlisten ∈ en_W := en_inW (List.mem_of_getElem? (i := 328) (by decide +kernel)) (by decide +kernel)
theorem wlL_76 : Jvm.Cond.methodLink RL 76 yX7_unlisten ∈ en_W := en_inW (List.mem_of_getElem? (i := 931) (by decide +kernel)) (by decide +kernel)
theorem wlL_77 : Jvm.Cond.methodLink RL 77 yL_dispatch ∈ en_W := en_inW (List.mem_of_getElem? (i := 605) (by decide +kernel)) (by decide +kernel)
theorem wlL_80 : Jvm.Cond.methodLink RL 80 yX7_dispatch ∈ en_W := en_inW (List.mem_of_getElem? (i := 935) (by decide +kernel)) (by decide +kernel)
theorem wlL_83 : Jvm.Cond.methodLink RL 83 yL_box ∈ en_W := en_inW (List.mem_of_getElem? (i := 613) (by decide +kernel)) (by decide +kernel)
theorem wlL_86 : Jvm.Cond.methodLink RL 86 yX7_box ∈ en_W := en_inW (List.mem_of_getElem? (i := 991) (by decide +kernel)) (by decide +kernel)
theorem wlL_87 : Jvm.Cond.methodLink RL 87 yX6_zoom ∈ en_W := en_inW (List.mem_of_getElem? (i := 336) (by decide +kernel)) (by decide +kernel)
theorem wlL_91 : Jvm.Cond.methodLink RL 91 yX7_zoom ∈ en_W := en_inW (List.mem_of_getElem? (i := 1000) (by decide +kernel)) (by decide +kernel)
theorem wlL_92 : Jvm.Cond.methodLink RL 92 yL_place ∈ en_W := en_inW (List.mem_of_getElem? (i := 679) (by decide +kernel)) (by decide +kernel)
theorem wlL_95 : Jvm.Cond.methodLink RL 95 yX7_place ∈ en_W := en_inW (List.mem_of_getElem? (i := 1006) (by decide +kernel)) (by decide +kernel)
theorem wlL_96 : Jvm.Cond.methodLink RL 96 yX6_hit ∈ en_W := en_inW (List.mem_of_getElem? (i := 342) (by decide +kernel)) (by decide +kernel)
theorem wlL_100 : Jvm.Cond.methodLink RL 100 yX7_hit ∈ en_W := en_inW (List.mem_of_getElem? (i := 1014) (by decide +kernel)) (by decide +kernel)
theorem wlL_101 : Jvm.Cond.methodLink RL 101 yX6_pointer ∈ en_W := en_inW (List.mem_of_getElem? (i := 366) (by decide +kernel)) (by decide +kernel)
theorem wlL_105 : Jvm.Cond.methodLink RL 105 yX7_pointer ∈ en_W := en_inW (List.mem_of_getElem? (i := 1026) (by decide +kernel)) (by decide +kernel)
theorem wlL_106 : Jvm.Cond.methodLink RL 106 yX6_node ∈ en_W := en_inW (List.mem_of_getElem? (i := 465) (by decide +kernel)) (by decide +kernel)
theorem wlL_109 : Jvm.Cond.methodLink RL 109 yX7_node ∈ en_W := en_inW (List.mem_of_getElem? (i := 1035) (by decide +kernel)) (by decide +kernel)
theorem wlL_110 : Jvm.Cond.methodLink RL 110 yX6_child ∈ en_W := en_inW (List.mem_of_getElem? (i := 475) (by decide +kernel)) (by decide +kernel)
theorem wlL_113 : Jvm.Cond.methodLink RL 113 yX7_child ∈ en_W := en_inW (List.mem_of_getElem? (i := 1039) (by decide +kernel)) (by decide +kernel)
theorem wlL_114 : Jvm.Cond.methodLink RL 114 yX6_call ∈ en_W := en_inW (List.mem_of_getElem? (i := 483) (by decide +kernel)) (by decide +kernel)
theorem wlL_117 : Jvm.Cond.methodLink RL 117 yX7_call ∈ en_W := en_inW (List.mem_of_getElem? (i := 1043) (by decide +kernel)) (by decide +kernel)
theorem wlL_118 : Jvm.Cond.methodLink RL 118 yX6_look ∈ en_W := en_inW (List.mem_of_getElem? (i := 491) (by decide +kernel)) (by decide +kernel)
theorem wlL_121 : Jvm.Cond.methodLink RL 121 yX7_look ∈ en_W := en_inW (List.mem_of_getElem? (i := 1047) (by decide +kernel)) (by decide +kernel)
theorem nwL_ok : en_nwok RL nwL := by
  intro q hq
  simp only [nwL, List.mem_cons, List.not_mem_nil, or_false] at hq
  rcases hq with rfl | rfl
  · exact ⟨RX6, TX6, rfl, en_inW (by decide +kernel) (by decide +kernel), en_inW (by decide +kernel) (by decide +kernel), wz_6⟩
  · exact ⟨RX7, TX7, rfl, en_inW (by decide +kernel) (by decide +kernel), en_inW (by decide +kernel) (by decide +kernel), wz_7⟩
theorem dcL_ok : en_dcok RL dcL := by unfold en_dcok; decide +kernel
theorem la_Lk {G : en_G} {b L : Nat} {xs : Nat → Int32} {q : Option en_V → en_S → Prop} : en_Lk RL (X_L_law G b L xs q) :=
  ⟨fun _ _ h => (by cases h), fun idx ci N h => nwL_ok _ (en_lk_mem h), fun _ _ h => (by cases h), fun idx v h => en_inW (dcL_ok _ (en_lk_mem h)).1 (dcL_ok _ (en_lk_mem h)).2⟩
theorem la_calls {G : en_G} {p : Program} {e : Env} {R : Room} {s : State} {m : MethodId} {args : Array Value} {below : List Frame} {meth : Method} {c : Code} {Qf : State → Prop} {X : en_X} {nL : Nat} (B : en_Bx G 40 RL p e R s m args c X nL) (hY : en_Y s) (hZ : en_Z G.2.2.2.1 s s.heap) (hst : G.1.stackTraces = false)
    (idx : Nat) (q : Nat × en_C) (hq : en_lk (ca_L_law G) idx = some q) (i : Instr) (pc : Nat) (ls st : List en_V) (σ : en_S) (hd : decode (en_cc X) pc = .ok (i, 3)) (hk : (i = .invokestatic idx ∧ q.1 % 4 = 0) ∨ (i = .invokevirtual idx ∧ q.1 % 4 = 1) ∨ (i = .invokespecial idx ∧ q.1 % 4 = 2)) (h1 : q.1 / 4 ≤ st.length) (h2 : en_wt (st.drop (q.1 / 4)) ≤ 8) (h3 : q.2.1 (st.take (q.1 / 4)).reverse σ)
    (h4 : ∀ (r : Option en_V) (σ' : en_S), q.2.2 (st.take (q.1 / 4)).reverse σ r σ' → en_P p G.1 e R s m args below meth c Qf X nL G.2.2.2.1 G.2.1 G.2.2.1 (pc + 3, ls, r.toList ++ st.drop (q.1 / 4), σ')) : en_P p G.1 e R s m args below meth c Qf X nL G.2.2.2.1 G.2.1 G.2.2.1 (pc, ls, st, σ) := by
  have hm := en_lk_mem hq
  simp only [ca_L_law, List.mem_cons, Prod.mk.injEq, List.not_mem_nil, or_false] at hm
  rcases hm with ⟨rfl, rfl⟩ | ⟨rfl, rfl⟩ | ⟨rfl, rfl⟩ | ⟨rfl, rfl⟩ | ⟨rfl, rfl⟩ | ⟨rfl, rfl⟩ | ⟨rfl, rfl⟩ | ⟨rfl, rfl⟩ | ⟨rfl, rfl⟩ | ⟨rfl, rfl⟩ | ⟨rfl, rfl⟩ | ⟨rfl, rfl⟩ | ⟨rfl, rfl⟩ | ⟨rfl, rfl⟩ | ⟨rfl, rfl⟩ | ⟨rfl, rfl⟩ | ⟨rfl, rfl⟩ | ⟨rfl, rfl⟩ | ⟨rfl, rfl⟩ | ⟨rfl, rfl⟩ | ⟨rfl, rfl⟩ | ⟨rfl, rfl⟩ | ⟨rfl, rfl⟩ | ⟨rfl, rfl⟩ | ⟨rfl, rfl⟩ | ⟨rfl, rfl⟩ | ⟨rfl, rfl⟩ | ⟨rfl, rfl⟩ | ⟨rfl, rfl⟩ | ⟨rfl, rfl⟩ | ⟨rfl, rfl⟩ | ⟨rfl, rfl⟩ | ⟨rfl, rfl⟩ | ⟨rfl, rfl⟩ | ⟨rfl, rfl⟩ | ⟨rfl, rfl⟩ | ⟨rfl, rfl⟩ | ⟨rfl, rfl⟩ | ⟨rfl, rfl⟩
  · exact (en_clI 0 ok_X6_init (by decide) (by decide) pr_X6_init rfl wlL_31 wi_X6_init wz_6 wc_X6_init ⟨by decide +kernel, by decide +kernel, by decide +kernel⟩ : en_Cl G 40 RL 31 _) p e R s m args below meth c Qf X nL B i pc ls st σ hd hk h1 h2 h3 h4
  · exact (en_clI 0 ok_X7_init (by decide) (by decide) pr_X7_init rfl wlL_34 wi_X7_init wz_7 wc_X7_init ⟨by decide +kernel, by decide +kernel, by decide +kernel⟩ : en_Cl G 40 RL 34 _) p e R s m args below meth c Qf X nL B i pc ls st σ hd hk h1 h2 h3 h4
  · exact (en_clV (r := (RX6, TX6, 13)) 6 2 ok_X6_make (by decide) (by decide) rfl rfl pr_X6_make wlL_35 wi_X6_make wx_X6_make wz_6 wc_X6_make ⟨by decide +kernel, by decide +kernel, by decide +kernel⟩ : en_Cl G 40 RL 35 _) p e R s m args below meth c Qf X nL B i pc ls st σ hd hk h1 h2 h3 h4
  · exact (en_clV (r := (RX7, TX7, 53)) 7 2 ok_X7_make (by decide) (by decide) rfl rfl pr_X7_make wlL_39 wi_X7_make wx_X7_make wz_7 wc_X7_make ⟨by decide +kernel, by decide +kernel, by decide +kernel⟩ : en_Cl G 40 RL 39 _) p e R s m args below meth c Qf X nL B i pc ls st σ hd hk h1 h2 h3 h4
  · exact (en_clV (r := (RX6, TX6, 13)) 6 1 ok_X6_attach (by decide) (by decide) rfl rfl pr_X6_attach wlL_40 wi_X6_attach wx_X6_attach wz_6 wc_X6_attach ⟨by decide +kernel, by decide +kernel, by decide +kernel⟩ : en_Cl G 40 RL 40 _) p e R s m args below meth c Qf X nL B i pc ls st σ hd hk h1 h2 h3 h4
  · exact (en_clV (r := (RX7, TX7, 53)) 7 1 ok_X7_attach (by decide) (by decide) rfl rfl pr_X7_attach wlL_44 wi_X7_attach wx_X7_attach wz_7 wc_X7_attach ⟨by decide +kernel, by decide +kernel, by decide +kernel⟩ : en_Cl G 40 RL 44 _) p e R s m args below meth c Qf X nL B i pc ls st σ hd hk h1 h2 h3 h4
  · exact en_clW 4 okw_insert (by decide) (by decide) pr_L_insert wlL_45 ws_L_insert wz_L wc_L_insert ⟨by decide +kernel, by decide +kernel, by decide +kernel⟩ B hY hZ hst i pc ls st σ hd hk h1 h2 h3 h4
  · exact (en_clV (r := (RX7, TX7, 53)) 7 3 ok_X7_insert (by decide) (by decide) rfl rfl pr_X7_insert wlL_50 wi_X7_insert wx_X7_insert wz_7 wc_X7_insert ⟨by decide +kernel, by decide +kernel, by decide +kernel⟩ : en_Cl G 40 RL 50 _) p e R s m args below meth c Qf X nL B i pc ls st σ hd hk h1 h2 h3 h4
  · exact (en_clV (r := (RX7, TX7, 53)) 7 0 ok_X7_thrown (by decide) (by decide) rfl rfl pr_X7_thrown wlL_51 wi_X7_thrown wx_X7_thrown wz_7 wc_X7_thrown ⟨by decide +kernel, by decide +kernel, by decide +kernel⟩ : en_Cl G 40 RL 51 _) p e R s m args below meth c Qf X nL B i pc ls st σ hd hk h1 h2 h3 h4
  · exact (en_clV (r := (RX6, TX6, 13)) 6 1 ok_X6_remove (by decide) (by decide) rfl rfl pr_X6_remove wlL_55 wi_X6_remove wx_X6_remove wz_6 wc_X6_remove ⟨by decide +kernel, by decide +kernel, by decide +kernel⟩ : en_Cl G 40 RL 55 _) p e R s m args below meth c Qf X nL B i pc ls st σ hd hk h1 h2 h3 h4
  · exact (en_clV (r := (RX7, TX7, 53)) 7 1 ok_X7_remove (by decide) (by decide) rfl rfl pr_X7_remove wlL_59 wi_X7_remove wx_X7_remove wz_7 wc_X7_remove ⟨by decide +kernel, by decide +kernel, by decide +kernel⟩ : en_Cl G 40 RL 59 _) p e R s m args below meth c Qf X nL B i pc ls st σ hd hk h1 h2 h3 h4
  · exact (en_clV (r := (RX6, TX6, 13)) 6 3 ok_X6_command (by decide) (by decide) rfl rfl pr_X6_command wlL_60 wi_X6_command wx_X6_command wz_6 wc_X6_command ⟨by decide +kernel, by decide +kernel, by decide +kernel⟩ : en_Cl G 40 RL 60 _) p e R s m args below meth c Qf X nL B i pc ls st σ hd hk h1 h2 h3 h4
  · exact (en_clV (r := (RX7, TX7, 53)) 7 3 ok_X7_command (by decide) (by decide) rfl rfl pr_X7_command wlL_63 wi_X7_command wx_X7_command wz_7 wc_X7_command ⟨by decide +kernel, by decide +kernel, by decide +kernel⟩ : en_Cl G 40 RL 63 _) p e R s m args below meth c Qf X nL B i pc ls st σ hd hk h1 h2 h3 h4
  · exact (en_clV (r := (RX6, TX6, 13)) 6 1 ok_X6_clear (by decide) (by decide) rfl rfl pr_X6_clear wlL_64 wi_X6_clear wx_X6_clear wz_6 wc_X6_clear ⟨by decide +kernel, by decide +kernel, by decide +kernel⟩ : en_Cl G 40 RL 64 _) p e R s m args below meth c Qf X nL B i pc ls st σ hd hk h1 h2 h3 h4
  · exact (en_clV (r := (RX7, TX7, 53)) 7 1 ok_X7_clear (by decide) (by decide) rfl rfl pr_X7_clear wlL_67 wi_X7_clear wx_X7_clear wz_7 wc_X7_clear ⟨by decide +kernel, by decide +kernel, by decide +kernel⟩ : en_Cl G 40 RL 67 _) p e R s m args below meth c Qf X nL B i pc ls st σ hd hk h1 h2 h3 h4
  · exact (en_clV (r := (RX6, TX6, 13)) 6 4 ok_X6_listen (by decide) (by decide) rfl rfl pr_X6_listen wlL_68 wi_X6_listen wx_X6_listen wz_6 wc_X6_listen ⟨by decide +kernel, by decide +kernel, by decide +kernel⟩ : en_Cl G 40 RL 68 _) p e R s m args below meth c Qf X nL B i pc ls st σ hd hk h1 h2 h3 h4
  · exact (en_clV (r := (RX7, TX7, 53)) 7 4 ok_X7_listen (by decide) (by decide) rfl rfl pr_X7_listen wlL_72 wi_X7_listen wx_X7_listen wz_7 wc_X7_listen ⟨by decide +kernel, by decide +kernel, by decide +kernel⟩ : en_Cl G 40 RL 72 _) p e R s m args below meth c Qf X nL B i pc ls st σ hd hk h1 h2 h3 h4
  · exact (en_clV (r := (RX6, TX6, 13)) 6 1 ok_X6_unlisten (by decide) (by decide) rfl rfl pr_X6_unlisten wlL_73 wi_X6_unlisten wx_X6_unlisten wz_6 wc_X6_unlisten ⟨by decide +kernel, by decide +kernel, by decide +kernel⟩ : en_Cl G 40 RL 73 _) p e R s m args below meth c Qf X nL B i pc ls st σ hd hk h1 h2 h3 h4
  · exact (en_clV (r := (RX7, TX7, 53)) 7 1 ok_X7_unlisten (by decide) (by decide) rfl rfl pr_X7_unlisten wlL_76 wi_X7_unlisten wx_X7_unlisten wz_7 wc_X7_unlisten ⟨by decide +kernel, by decide +kernel, by decide +kernel⟩ : en_Cl G 40 RL 76 _) p e R s m args below meth c Qf X nL B i pc ls st σ hd hk h1 h2 h3 h4
  · exact en_clW 5 okw_dispatch (by decide) (by decide) pr_L_dispatch wlL_77 ws_L_dispatch wz_L wc_L_dispatch ⟨by decide +kernel, by decide +kernel, by decide +kernel⟩ B hY hZ hst i pc ls st σ hd hk h1 h2 h3 h4
  · exact (en_clV (r := (RX7, TX7, 53)) 7 3 ok_X7_dispatch (by decide) (by decide) rfl rfl pr_X7_dispatch wlL_80 wi_X7_dispatch wx_X7_dispatch wz_7 wc_X7_dispatch ⟨by decide +kernel, by decide +kernel, by decide +kernel⟩ : en_Cl G 40 RL 80 _) p e R s m args below meth c Qf X nL B i pc ls st σ hd hk h1 h2 h3 h4
  · exact en_clW 6 okw_box (by decide) (by decide) pr_L_box wlL_83 ws_L_box wz_L wc_L_box ⟨by decide +kernel, by decide +kernel, by decide +kernel⟩ B hY hZ hst i pc ls st σ hd hk h1 h2 h3 h4
  · exact (en_clV (r := (RX7, TX7, 53)) 7 5 ok_X7_box (by decide) (by decide) rfl rfl pr_X7_box wlL_86 wi_X7_box wx_X7_box wz_7 wc_X7_box ⟨by decide +kernel, by decide +kernel, by decide +kernel⟩ : en_Cl G 40 RL 86 _) p e R s m args below meth c Qf X nL B i pc ls st σ hd hk h1 h2 h3 h4
  · exact (en_clV (r := (RX6, TX6, 13)) 6 3 ok_X6_zoom (by decide) (by decide) rfl rfl pr_X6_zoom wlL_87 wi_X6_zoom wx_X6_zoom wz_6 wc_X6_zoom ⟨by decide +kernel, by decide +kernel, by decide +kernel⟩ : en_Cl G 40 RL 87 _) p e R s m args below meth c Qf X nL B i pc ls st σ hd hk h1 h2 h3 h4
  · exact (en_clV (r := (RX7, TX7, 53)) 7 3 ok_X7_zoom (by decide) (by decide) rfl rfl pr_X7_zoom wlL_91 wi_X7_zoom wx_X7_zoom wz_7 wc_X7_zoom ⟨by decide +kernel, by decide +kernel, by decide +kernel⟩ : en_Cl G 40 RL 91 _) p e R s m args below meth c Qf X nL B i pc ls st σ hd hk h1 h2 h3 h4
  · exact en_clW 4 okw_place (by decide) (by decide) pr_L_place wlL_92 ws_L_place wz_L wc_L_place ⟨by decide +kernel, by decide +kernel, by decide +kernel⟩ B hY hZ hst i pc ls st σ hd hk h1 h2 h3 h4
  · exact (en_clV (r := (RX7, TX7, 53)) 7 2 ok_X7_place (by decide) (by decide) rfl rfl pr_X7_place wlL_95 wi_X7_place wx_X7_place wz_7 wc_X7_place ⟨by decide +kernel, by decide +kernel, by decide +kernel⟩ : en_Cl G 40 RL 95 _) p e R s m args below meth c Qf X nL B i pc ls st σ hd hk h1 h2 h3 h4
  · exact (en_clV (r := (RX6, TX6, 13)) 6 2 ok_X6_hit (by decide) (by decide) rfl rfl pr_X6_hit wlL_96 wi_X6_hit wx_X6_hit wz_6 wc_X6_hit ⟨by decide +kernel, by decide +kernel, by decide +kernel⟩ : en_Cl G 40 RL 96 _) p e R s m args below meth c Qf X nL B i pc ls st σ hd hk h1 h2 h3 h4
  · exact (en_clV (r := (RX7, TX7, 53)) 7 2 ok_X7_hit (by decide) (by decide) rfl rfl pr_X7_hit wlL_100 wi_X7_hit wx_X7_hit wz_7 wc_X7_hit ⟨by decide +kernel, by decide +kernel, by decide +kernel⟩ : en_Cl G 40 RL 100 _) p e R s m args below meth c Qf X nL B i pc ls st σ hd hk h1 h2 h3 h4
  · exact (en_clV (r := (RX6, TX6, 13)) 6 3 ok_X6_pointer (by decide) (by decide) rfl rfl pr_X6_pointer wlL_101 wi_X6_pointer wx_X6_pointer wz_6 wc_X6_pointer ⟨by decide +kernel, by decide +kernel, by decide +kernel⟩ : en_Cl G 40 RL 101 _) p e R s m args below meth c Qf X nL B i pc ls st σ hd hk h1 h2 h3 h4
  · exact (en_clV (r := (RX7, TX7, 53)) 7 3 ok_X7_pointer (by decide) (by decide) rfl rfl pr_X7_pointer wlL_105 wi_X7_pointer wx_X7_pointer wz_7 wc_X7_pointer ⟨by decide +kernel, by decide +kernel, by decide +kernel⟩ : en_Cl G 40 RL 105 _) p e R s m args below meth c Qf X nL B i pc ls st σ hd hk h1 h2 h3 h4
  · exact (en_clV (r := (RX6, TX6, 13)) 6 2 ok_X6_node (by decide) (by decide) rfl rfl pr_X6_node wlL_106 wi_X6_node wx_X6_node wz_6 wc_X6_node ⟨by decide +kernel, by decide +kernel, by decide +kernel⟩ : en_Cl G 40 RL 106 _) p e R s m args below meth c Qf X nL B i pc ls st σ hd hk h1 h2 h3 h4
  · exact (en_clV (r := (RX7, TX7, 53)) 7 2 ok_X7_node (by decide) (by decide) rfl rfl pr_X7_node wlL_109 wi_X7_node wx_X7_node wz_7 wc_X7_node ⟨by decide +kernel, by decide +kernel, by decide +kernel⟩ : en_Cl G 40 RL 109 _) p e R s m args below meth c Qf X nL B i pc ls st σ hd hk h1 h2 h3 h4
  · exact (en_clV (r := (RX6, TX6, 13)) 6 2 ok_X6_child (by decide) (by decide) rfl rfl pr_X6_child wlL_110 wi_X6_child wx_X6_child wz_6 wc_X6_child ⟨by decide +kernel, by decide +kernel, by decide +kernel⟩ : en_Cl G 40 RL 110 _) p e R s m args below meth c Qf X nL B i pc ls st σ hd hk h1 h2 h3 h4
  · exact (en_clV (r := (RX7, TX7, 53)) 7 2 ok_X7_child (by decide) (by decide) rfl rfl pr_X7_child wlL_113 wi_X7_child wx_X7_child wz_7 wc_X7_child ⟨by decide +kernel, by decide +kernel, by decide +kernel⟩ : en_Cl G 40 RL 113 _) p e R s m args below meth c Qf X nL B i pc ls st σ hd hk h1 h2 h3 h4
  · exact (en_clV (r := (RX6, TX6, 13)) 6 2 ok_X6_call (by decide) (by decide) rfl rfl pr_X6_call wlL_114 wi_X6_call wx_X6_call wz_6 wc_X6_call ⟨by decide +kernel, by decide +kernel, by decide +kernel⟩ : en_Cl G 40 RL 114 _) p e R s m args below meth c Qf X nL B i pc ls st σ hd hk h1 h2 h3 h4
  · exact (en_clV (r := (RX7, TX7, 53)) 7 2 ok_X7_call (by decide) (by decide) rfl rfl pr_X7_call wlL_117 wi_X7_call wx_X7_call wz_7 wc_X7_call ⟨by decide +kernel, by decide +kernel, by decide +kernel⟩ : en_Cl G 40 RL 117 _) p e R s m args below meth c Qf X nL B i pc ls st σ hd hk h1 h2 h3 h4
  · exact (en_clV (r := (RX6, TX6, 13)) 6 1 ok_X6_look (by decide) (by decide) rfl rfl pr_X6_look wlL_118 wi_X6_look wx_X6_look wz_6 wc_X6_look ⟨by decide +kernel, by decide +kernel, by decide +kernel⟩ : en_Cl G 40 RL 118 _) p e R s m args below meth c Qf X nL B i pc ls st σ hd hk h1 h2 h3 h4
  · exact (en_clV (r := (RX7, TX7, 53)) 7 1 ok_X7_look (by decide) (by decide) rfl rfl pr_X7_look wlL_121 wi_X7_look wx_X7_look wz_7 wc_X7_look ⟨by decide +kernel, by decide +kernel, by decide +kernel⟩ : en_Cl G 40 RL 121 _) p e R s m args below meth c Qf X nL B i pc ls st σ hd hk h1 h2 h3 h4
