/-! calls by contracts, once more -/
theorem en_jkC {X : en_X} {i : Instr} {pc k idx n' : Nat} {ls st : List en_V} {σ : en_S} {C : en_C} (hd : decode (en_cc X) pc = .ok (i, 3)) (hi : en_sem X i 3 pc ls st σ = en_call X k idx 3 pc ls st σ) (hx : en_xc X idx = some (4 * n' + k, C)) (hk : k < 4) (hl : n' ≤ st.length) (hw : en_wt (st.drop n') ≤ 8) : en_J X pc ls st σ ↔ C.1 (st.take n').reverse σ ∧ ∀ (r : Option en_V) (σ' : en_S), C.2 (st.take n').reverse σ r σ' → en_J X (pc + 3) ls (r.toList ++ st.drop n') σ' := by
  have e1 : (4 * n' + k) % 4 = k := by omega
  have e2 : (4 * n' + k) / 4 = n' := by omega
  rw [en_iff hd, hi]
  unfold en_call
  rw [hx]
  simp only [e1, e2]
  refine ⟨fun h => ⟨h.1.2.2.2.2, fun r σ' hr => h.2 _ ⟨r, σ', hr, rfl⟩⟩, fun h => ⟨⟨trivial, trivial, hl, hw, h.1⟩, fun d hd => ?_⟩⟩
  obtain ⟨r, σ', hr, rfl⟩ := hd
  exact h.2 r σ' hr
/-! using a contract -/
def en_Us (C : en_C) (as : List en_V) (σ : en_S) (Q : Option en_V → en_S → Prop) : Prop := C.1 as σ ∧ ∀ v σ', C.2 as σ v σ' → Q v σ'
theorem en_use {C : en_C} {as : List en_V} {σ : en_S} {Q K : Option en_V → en_S → Prop} (h : en_Us C as σ Q) (k : ∀ v σ', Q v σ' → K v σ') : C.1 as σ ∧ ∀ v σ', C.2 as σ v σ' → K v σ' := ⟨h.1, fun v σ' q => k v σ' (h.2 v σ' q)⟩
theorem cu_X4_isAtOrOver {na : Nat → Nat} {T : tr_T} {n m : Nat} {σ : en_S} (h : tr_R na T σ) (w : tr_wf T) (hn : n < tr_N T) (hm : m < tr_N T) : en_Us C_X4_isAtOrOver [en_R (some (na n)), en_R (some (na m))] σ (fun v σ' => σ' = σ ∧ v = some (en_I (st_b (tr_over T n m)))) :=
  ⟨⟨(na, T, n, m), h, w, hn, hm, rfl⟩, fun v σ' q => q (na, T, n, m) ⟨h, w, hn, hm, rfl⟩⟩
theorem cu_X4_root {na : Nat → Nat} {T : tr_T} {n : Nat} {σ : en_S} (h : tr_R na T σ) (w : tr_wf T) (hn : n < tr_N T) : en_Us C_X4_root [en_R (some (na n))] σ (fun v σ' => σ' = σ ∧ v = some (en_R (some (na (tr_root T n))))) :=
  ⟨⟨(na, T, n), h, w, hn, rfl⟩, fun v σ' q => q (na, T, n) ⟨h, w, hn, rfl⟩⟩
theorem cu_X4_childCount {na : Nat → Nat} {T : tr_T} {n : Nat} {σ : en_S} (h : tr_R na T σ) (w : tr_wf T) (hn : n < tr_N T) : en_Us C_X4_childCount [en_R (some (na n))] σ (fun v σ' => σ' = σ ∧ v = some (en_I (nI (tr_ch T n).length))) :=
  ⟨⟨(na, T, n), h, w, hn, rfl⟩, fun v σ' q => q (na, T, n) ⟨h, w, hn, rfl⟩⟩
theorem cu_X4_childAt {na : Nat → Nat} {T : tr_T} {n : Nat} {k : Int32} {σ : en_S} (h : tr_R na T σ) (w : tr_wf T) (hn : n < tr_N T) : en_Us C_X4_childAt [en_R (some (na n)), en_I k] σ (fun v σ' => σ' = σ ∧ v = some (en_R ((if 0 ≤ k.toInt then (tr_ch T n)[k.toInt.toNat]? else none).map na))) :=
  ⟨⟨(na, T, n, k), h, w, hn, rfl⟩, fun v σ' q => q (na, T, n, k) ⟨h, w, hn, rfl⟩⟩
theorem cu_X4_assignedSlot {na : Nat → Nat} {T : tr_T} {n : Nat} {σ : en_S} (h : tr_R na T σ) (w : tr_wf T) (hn : n < tr_N T) : en_Us C_X4_assignedSlot [en_R (some (na n))] σ (fun v σ' => σ' = σ ∧ v = some (en_R ((tr_as T n).map na))) :=
  ⟨⟨(na, T, n), h, w, hn, rfl⟩, fun v σ' q => q (na, T, n) ⟨h, w, hn, rfl⟩⟩
theorem cu_X4_nextInShadowOrder {na : Nat → Nat} {T : tr_T} {n : Nat} {σ : en_S} (h : tr_R na T σ) (w : tr_wf T) (hn : n < tr_N T) : en_Us C_X4_nextInShadowOrder [en_R (some (na n))] σ (fun v σ' => σ' = σ ∧ v = some (en_R ((tr_nso T n).map na))) :=
  ⟨⟨(na, T, n), h, w, hn, rfl⟩, fun v σ' q => q (na, T, n) ⟨h, w, hn, rfl⟩⟩
theorem cu_X4_leave {na : Nat → Nat} {T : tr_T} {n : Nat} {σ : en_S} (h : tr_R na T σ) (w : tr_wf T) (hn : n < tr_N T) : en_Us C_X4_leave [en_R (some (na n))] σ (fun v σ' => v = none ∧ tr_R na (tr_leave T n) σ' ∧ tr_frm σ σ') :=
  ⟨⟨(na, T, n), h, w, hn, rfl⟩, fun v σ' q => q (na, T, n) ⟨h, w, hn, rfl⟩⟩
theorem cu_X4_settle {na : Nat → Nat} {T : tr_T} {n p : Nat} {fo : Option Nat} {σ : en_S} (h : tr_R na T σ) (w : tr_wf T) (hn : n < tr_N T) (hp : p < tr_N T) (hne : p ≠ n) (hf : ∀ f, fo = some f → f ∈ tr_ch T p ∧ f ≠ n) : en_Us C_X4_settle [en_R (some (na n)), en_R (some (na p)), en_R (fo.map na)] σ (fun v σ' => v = none ∧ tr_R na (tr_ins T n p fo) σ' ∧ tr_frm σ σ') :=
  ⟨⟨(na, T, n, p, fo), h, w, hn, hp, hne, hf, rfl⟩, fun v σ' q => q (na, T, n, p, fo) ⟨h, w, hn, hp, hne, hf, rfl⟩⟩
theorem cu_X4_isElement {a : Nat} {σ : en_S} (hp : en_cl σ a = some 4) : en_Us C_X4_isElement [en_R (some a)] σ (fun v σ' => σ' = σ ∧ v = some (en_I (if en_fi σ 401 a ≤ 2 then 1 else 0))) := by
  refine ⟨⟨a, rfl, hp⟩, fun v σ' q => ?_⟩
  obtain ⟨a', e, q⟩ := q
  simp only [List.cons.injEq, en_Rinj, Option.some.injEq, and_true] at e
  subst e
  exact q
theorem cu_X4_parentOrHost {a : Nat} {σ : en_S} (hp : en_cl σ a = some 4) : en_Us C_X4_parentOrHost [en_R (some a)] σ (fun v σ' => σ' = σ ∧ v = some (en_R (if en_fr σ 404 a = none then en_fr σ 403 a else en_fr σ 404 a))) := by
  refine ⟨⟨a, rfl, hp⟩, fun v σ' q => ?_⟩
  obtain ⟨a', e, q⟩ := q
  simp only [List.cons.injEq, en_Rinj, Option.some.injEq, and_true] at e
  subst e
  exact q
theorem cu_X6_numberOf {n : Option Nat} {σ : en_S} (hp : ∀ a, n = some a → en_cl σ a = some 4) : en_Us C_X6_numberOf [en_R n] σ (fun v σ' => σ' = σ ∧ v = some (en_I ((n.map (en_fi σ 400)).getD (-1)))) := by
  refine ⟨⟨n, rfl, hp⟩, fun v σ' q => ?_⟩
  obtain ⟨n', e, q1, q2⟩ := q
  simp only [List.cons.injEq, en_Rinj, and_true] at e
  subst e
  refine ⟨q1, ?_⟩
  rw [q2]
  cases n <;> rfl
theorem cu_X6_isType {t : Int32} {σ : en_S} (hp : True) : en_Us C_X6_isType [en_I t] σ (fun v σ' => σ' = σ ∧ v = some (en_I (if 0 ≤ t ∧ t < 8 then 1 else 0))) := by
  refine ⟨⟨t, rfl, hp⟩, fun v σ' q => ?_⟩
  obtain ⟨t', e, q⟩ := q
  simp only [List.cons.injEq, en_Rinj, en_Iinj, en_Dinj, Option.some.injEq, and_true] at e
  subst e
  exact q
theorem cu_X6_countOf {n : Option Nat} {σ : en_S} (hp : True) : en_Us C_X6_countOf [en_R n] σ (fun v σ' => σ' = σ ∧ v = some (en_I (if n = none then 0 else 1))) := by
  refine ⟨⟨n, rfl, hp⟩, fun v σ' q => ?_⟩
  obtain ⟨n', e, q⟩ := q
  simp only [List.cons.injEq, en_Rinj, en_Iinj, en_Dinj, Option.some.injEq, and_true] at e
  subst e
  exact q
theorem cu_X3_has {a : Nat} {k : Int32} {σ : en_S} (hp : en_cl σ a = some 3) : en_Us C_X3_has [en_R (some a), en_I k] σ (fun v σ' => σ' = σ ∧ v = some (en_I (if en_fi σ 302 a &&& k = 0 then 0 else 1))) := by
  refine ⟨⟨a, k, rfl, hp⟩, fun v σ' q => ?_⟩
  obtain ⟨a', k', e, q⟩ := q
  simp only [List.cons.injEq, en_Rinj, en_Iinj, en_Dinj, Option.some.injEq, and_true] at e
  obtain ⟨rfl, rfl⟩ := e
  exact q
theorem cu_X3_hears {a : Nat} {n : Option Nat} {t : Int32} {c : Int32} {σ : en_S} (hp : en_cl σ a = some 3 ∧ (en_fi σ 304 a = 0 ∨ en_fi σ 304 a = 1) ∧ (c = 0 ∨ c = 1)) : en_Us C_X3_hears [en_R (some a), en_R n, en_I t, en_I c] σ (fun v σ' => σ' = σ ∧ v = some (en_I (if en_fi σ 304 a = 0 ∧ en_fr σ 300 a = n ∧ en_fi σ 301 a = t ∧ ((en_fi σ 302 a &&& 1 = 0) ↔ c = 0) then 1 else 0))) := by
  refine ⟨⟨a, n, t, c, rfl, hp⟩, fun v σ' q => ?_⟩
  obtain ⟨a', n', t', c', e, q⟩ := q
  simp only [List.cons.injEq, en_Rinj, en_Iinj, en_Dinj, Option.some.injEq, and_true] at e
  obtain ⟨rfl, rfl, rfl, rfl⟩ := e
  exact q
theorem cu_X5_commandAt {a : Nat} {c : Nat} {k : Int32} {σ : en_S} (hp : en_cl σ a = some 5 ∧ en_fr σ 500 a = some c ∧ en_al σ c = some (0, 5)) : en_Us C_X5_commandAt [en_R (some a), en_I k] σ (fun v σ' => σ' = σ ∧ v = some (en_I (if 0 ≤ k ∧ k < 5 then en_ai σ c k.toNatClampNeg else -1))) := by
  refine ⟨⟨a, c, k, rfl, hp⟩, fun v σ' q => ?_⟩
  obtain ⟨a', c', k', e, q⟩ := q
  simp only [List.cons.injEq, en_Rinj, en_Iinj, en_Dinj, Option.some.injEq, and_true] at e
  obtain ⟨rfl, rfl⟩ := e
  rw [hp.2.1] at q
  simp only [Option.some.injEq] at q
  obtain ⟨q1, rfl, q2⟩ := q
  have q := And.intro q1 q2
  exact q
theorem cu_X5_numberAt {a : Nat} {c : Nat} {k : Int32} {σ : en_S} (hp : en_cl σ a = some 5 ∧ en_fr σ 501 a = some c ∧ en_al σ c = some (0, 5)) : en_Us C_X5_numberAt [en_R (some a), en_I k] σ (fun v σ' => σ' = σ ∧ v = some (en_I (if 0 ≤ k ∧ k < 5 then en_ai σ c k.toNatClampNeg else -1))) := by
  refine ⟨⟨a, c, k, rfl, hp⟩, fun v σ' q => ?_⟩
  obtain ⟨a', c', k', e, q⟩ := q
  simp only [List.cons.injEq, en_Rinj, en_Iinj, en_Dinj, Option.some.injEq, and_true] at e
  obtain ⟨rfl, rfl⟩ := e
  rw [hp.2.1] at q
  simp only [Option.some.injEq] at q
  obtain ⟨q1, rfl, q2⟩ := q
  have q := And.intro q1 q2
  exact q
theorem cu_X2_nodeOf {a : Nat} {c : Nat} {k : Int32} {σ : en_S} (hp : en_cl σ a = some 2 ∧ en_fr σ 200 a = some c ∧ en_al σ c = some (4, 24)) : en_Us C_X2_nodeOf [en_R (some a), en_I k] σ (fun v σ' => σ' = σ ∧ v = some (en_R (if 0 ≤ k ∧ k < 24 then en_ar σ c k.toNatClampNeg else none))) := by
  refine ⟨⟨a, c, k, rfl, hp⟩, fun v σ' q => ?_⟩
  obtain ⟨a', c', k', e, q⟩ := q
  simp only [List.cons.injEq, en_Rinj, en_Iinj, en_Dinj, Option.some.injEq, and_true] at e
  obtain ⟨rfl, rfl⟩ := e
  rw [hp.2.1] at q
  simp only [Option.some.injEq] at q
  obtain ⟨q1, rfl, q2⟩ := q
  have q := And.intro q1 q2
  exact q
theorem cu_X2_targetOf {a : Nat} {c : Nat} {k : Int32} {σ : en_S} (hp : en_cl σ a = some 2 ∧ en_fr σ 201 a = some c ∧ en_al σ c = some (4, 24)) : en_Us C_X2_targetOf [en_R (some a), en_I k] σ (fun v σ' => σ' = σ ∧ v = some (en_R (if 0 ≤ k ∧ k < 24 then en_ar σ c k.toNatClampNeg else none))) := by
  refine ⟨⟨a, c, k, rfl, hp⟩, fun v σ' q => ?_⟩
  obtain ⟨a', c', k', e, q⟩ := q
  simp only [List.cons.injEq, en_Rinj, en_Iinj, en_Dinj, Option.some.injEq, and_true] at e
  obtain ⟨rfl, rfl⟩ := e
  rw [hp.2.1] at q
  simp only [Option.some.injEq] at q
  obtain ⟨q1, rfl, q2⟩ := q
  have q := And.intro q1 q2
  exact q
theorem cu_X3_init {a : Nat} {n : Option Nat} {s : Option Nat} {t : Int32} {p : Int32} {σ : en_S} (hp : en_cl σ a = some 3) : en_Us C_X3_init [en_R (some a), en_R n, en_I t, en_I p, en_R s] σ (fun v σ' => v = none ∧ σ' = en_sfr (en_sfi (en_sfi (en_sfr σ 300 a n) 301 a t) 302 a p) 303 a s) := by
  refine ⟨⟨a, n, s, t, p, rfl, hp⟩, fun v σ' q => ?_⟩
  obtain ⟨a', n', s', t', p', e, q⟩ := q
  simp only [List.cons.injEq, en_Rinj, en_Iinj, en_Dinj, Option.some.injEq, and_true] at e
  obtain ⟨rfl, rfl, rfl, rfl, rfl⟩ := e
  exact q
theorem cu_X4_init {a : Nat} {x : Int32} {y : Int32} {z : Int32} {h : Option Nat} {σ : en_S} (hp : en_cl σ a = some 4) : en_Us C_X4_init [en_R (some a), en_I x, en_I y, en_I z, en_R h] σ (fun v σ' => v = none ∧ σ' = en_sfr (en_sfi (en_sfi (en_sfi σ 400 a x) 401 a y) 402 a z) 403 a h) := by
  refine ⟨⟨a, x, y, z, h, rfl, hp⟩, fun v σ' q => ?_⟩
  obtain ⟨a', x', y', z', h', e, q⟩ := q
  simp only [List.cons.injEq, en_Rinj, en_Iinj, en_Dinj, Option.some.injEq, and_true] at e
  obtain ⟨rfl, rfl, rfl, rfl, rfl⟩ := e
  exact q
theorem cu_X1_write {a f c : Nat} {x1 x2 x3 x4 x5 : Int32} {σ : en_S} (hp : en_cl σ a = some 1 ∧ en_fr σ 100 a = some f ∧ en_al σ f = some (0, 160) ∧ en_fi σ 101 a = nI c ∧ c < 2 ^ 30) : en_Us C_X1_write [en_R (some a), en_I x1, en_I x2, en_I x3, en_I x4, en_I x5] σ (fun v σ' => v = none ∧ σ' = en_sfi (en_sai (en_sai (en_sai (en_sai (en_sai σ f (c % 32 * 5) x1) f (c % 32 * 5 + 1) x2) f (c % 32 * 5 + 2) x3) f (c % 32 * 5 + 3) x4) f (c % 32 * 5 + 4) x5) 101 a (nI (c + 1))) := by
  refine ⟨⟨a, f, c, x1, x2, x3, x4, x5, rfl, hp⟩, fun v σ' q => ?_⟩
  obtain ⟨a', f', c', y1, y2, y3, y4, y5, e, q1, q2, q3, q⟩ := q
  simp only [List.cons.injEq, en_Rinj, en_Iinj, Option.some.injEq, and_true] at e
  obtain ⟨rfl, rfl, rfl, rfl, rfl, rfl⟩ := e
  rw [hp.2.1] at q1
  cases q1
  rw [hp.2.2.2.1] at q2
  have := nI_inj (by omega) (by omega) q2
  subst this
  exact q
/-! the class's small methods over the state -/
def dF (x d : Nat) (f a : Nat) : Prop := 700 ≤ f ∨ f = 606 ∨ f = 610 ∨ f = 611 ∨ f = 612 ∨ (200 ≤ f ∧ f < 300 ∧ a < x + 32 + 3 * d)
def dV (x d : Nat) (a : Nat) : Prop := x + 44 ≤ a ∨ (x + 32 ≤ a ∧ a < x + 32 + 3 * d)
theorem an1 : ∀ d, d < 8 → ((nI d &&& 1 = 0) ↔ d % 2 = 0) := by decide +kernel
theorem an2 : ∀ d, d < 8 → ((nI d &&& 2 = 0) ↔ d / 2 % 2 = 0) := by decide +kernel
theorem an4 : ∀ d, d < 8 → ((nI d &&& 4 = 0) ↔ d < 4) := by decide +kernel
def ds_outO (A : st_A) (o : Option Nat) : st_A := match o with
  | none => A
  | some n => su_T A (tr_leave (sa_T A) n)
def ds_moveO (A : st_A) (o : Option Nat) (p : Nat) : st_A := match o with
  | none => A
  | some n => if tr_kd (sa_T A) n ≤ 2 ∧ tr_over (sa_T A) n p = false then su_T A (tr_ins (sa_T A) n p none) else A
theorem cu_hears {G : en_G} {x : Nat} {na la ba : Nat → Nat} {rm : Nat} {A : st_A} {σ : en_S} (h : CX G x na la ba rm A σ) {k n : Nat} {t : Int32} {cap : Bool} (hk : k < sa_D A 0 0) (hn : n < tr_N (sa_T A)) : en_Us C_X3_hears [en_R (some (la k)), en_R (some (na n)), en_I t, en_I (st_b cap)] σ (fun v σ' => σ' = σ ∧ v = some (en_I (st_b (!sa_K A 1 k && decide (sa_D A 1 k = n) && decide (sa_I A 0 k = t) && (decide (sa_D A 3 k % 2 = 1) == cap))))) := by
  obtain ⟨c, tt, nd, bx, l, sc, lo, ob, w, r⟩ := h
  obtain ⟨h1, h2, h3, h4, h5, h6, h7⟩ := l.1 k hk
  have hu := cu_X3_hears (a := la k) (n := some (na n)) (t := t) (c := st_b cap) (σ := σ) ⟨h1, by rw [h7]; exact st_b01 _, st_b01 _⟩
  refine ⟨hu.1, fun v σ' q => ?_⟩
  obtain ⟨q1, q2⟩ := hu.2 v σ' q
  refine ⟨q1, ?_⟩
  rw [q2, h3, h4, h5, h7]
  have hinj : (some (na (sa_D A 1 k)) = some (na n)) ↔ sa_D A 1 k = n := by
    rw [Option.some.injEq]
    exact ⟨fun z => tt.2 _ _ (w.2.2.1 k hk).1 hn z, fun z => by rw [z]⟩
  simp only [hinj, an1 _ (w.2.2.1 k hk).2.2, st_b0]
  have hm : sa_D A 3 k % 2 = 0 ∨ sa_D A 3 k % 2 = 1 := by omega
  cases sa_K A 1 k <;> cases cap <;> by_cases e1 : sa_D A 1 k = n <;> by_cases e2 : sa_I A 0 k = t <;> rcases hm with e3 | e3 <;> simp [e1, e2, e3, st_b]
def P_X6_nodeAt (G : en_G)  (g : (Nat) × (Nat → Nat) × (Nat → Nat) × (Nat → Nat) × (Nat) × (st_A) × (Int32)) (as : List en_V) (σ : en_S) : Prop := (CX G (g.1) (g.2.1) (g.2.2.1) (g.2.2.2.1) (g.2.2.2.2.1) (g.2.2.2.2.2.1) σ) ∧ as = [en_R (some (g.1)), en_I (g.2.2.2.2.2.2)]
def C_X6_nodeAt (G : en_G)  : en_C := en_gh (P_X6_nodeAt G) (fun g as σ v σ' => σ' = σ ∧ v = some (en_R ((st_ix (tr_N (sa_T (g.2.2.2.2.2.1))) (g.2.2.2.2.2.2)).map (g.2.1))))
theorem pr_X6_nodeAt {G : en_G}  : ∀ as σ, (C_X6_nodeAt G).1 as σ → ∃ b tl, as = en_R (some b) :: tl ∧ en_cl σ b = some 6 ∧ tl.length = 1 := fun as σ ⟨g, hp, h2⟩ => ⟨_, _, h2, hp.1.1.1, rfl⟩
theorem cu_X6_nodeAt {G : en_G}  {x : Nat} {na : Nat → Nat} {la : Nat → Nat} {ba : Nat → Nat} {rm : Nat} {A : st_A} {k : Int32} {σ : en_S} (hp : CX G x na la ba rm A σ) : en_Us (C_X6_nodeAt G) [en_R (some x), en_I k] σ (fun v σ' => σ' = σ ∧ v = some (en_R ((st_ix (tr_N (sa_T A)) k).map na))) := ⟨⟨(x, na, la, ba, rm, A, k), hp, rfl⟩, fun v σ' q => q (x, na, la, ba, rm, A, k) ⟨hp, rfl⟩⟩
def ca_X6_nodeAt (G : en_G) : List (Nat × Nat × en_C) := []
def X_X6_nodeAt (G : en_G) (q : Option en_V → en_S → Prop) : en_X := en_mk G cX6_nodeAt (en_lk fl6) (en_lk nw6) (en_lk aw6) (en_lk dc6) (en_lk (ca_X6_nodeAt G)) 3 false q
theorem d_X6_nodeAt_0 : decode cX6_nodeAt 0 = .ok (.iload_n 1, 1) := by decide +kernel
theorem j_X6_nodeAt_0 {G : en_G} {q : Option en_V → en_S → Prop}  {l0 : en_V} {x1 : Int32} {σ : en_S} : en_J (X_X6_nodeAt G q) 0 [l0, en_I x1] [] σ ↔ en_J (X_X6_nodeAt G q) 1 [l0, en_I x1] [en_I x1] σ := en_j1 d_X6_nodeAt_0 rfl rfl
theorem d_X6_nodeAt_1 : decode cX6_nodeAt 1 = .ok (.ifCond .lt 29, 3) := by decide +kernel
theorem j_X6_nodeAt_1 {G : en_G} {q : Option en_V → en_S → Prop}  {l0 l1 : en_V} {a0 : Int32} {σ : en_S} : en_J (X_X6_nodeAt G q) 1 [l0, l1] [en_I a0] σ ↔ (a0 < 0 → en_J (X_X6_nodeAt G q) 30 [l0, l1] [] σ) ∧ (¬ (a0 < 0) → en_J (X_X6_nodeAt G q) 4 [l0, l1] [] σ) := en_jb d_X6_nodeAt_1 rfl ⟨rfl, by decide⟩
theorem d_X6_nodeAt_4 : decode cX6_nodeAt 4 = .ok (.iload_n 1, 1) := by decide +kernel
theorem j_X6_nodeAt_4 {G : en_G} {q : Option en_V → en_S → Prop}  {l0 : en_V} {x1 : Int32} {σ : en_S} : en_J (X_X6_nodeAt G q) 4 [l0, en_I x1] [] σ ↔ en_J (X_X6_nodeAt G q) 5 [l0, en_I x1] [en_I x1] σ := en_j1 d_X6_nodeAt_4 rfl rfl
theorem d_X6_nodeAt_5 : decode cX6_nodeAt 5 = .ok (.aload_n 0, 1) := by decide +kernel
theorem j_X6_nodeAt_5 {G : en_G} {q : Option en_V → en_S → Prop}  {l1 : en_V} {a0 : Int32} {x0 : Option Nat} {σ : en_S} : en_J (X_X6_nodeAt G q) 5 [en_R x0, l1] [en_I a0] σ ↔ en_J (X_X6_nodeAt G q) 6 [en_R x0, l1] [en_R x0, en_I a0] σ := en_j1 d_X6_nodeAt_5 rfl rfl
theorem d_X6_nodeAt_6 : decode cX6_nodeAt 6 = .ok (.getfield 43, 3) := by decide +kernel
theorem j_X6_nodeAt_6 {G : en_G} {q : Option en_V → en_S → Prop}  {l0 l1 : en_V} {a0 : Option Nat} {a1 : Int32} {σ : en_S} : en_J (X_X6_nodeAt G q) 6 [l0, l1] [en_R a0, en_I a1] σ ↔ ∃ a, a0 = some a ∧ en_cl σ a = some 6 ∧ en_J (X_X6_nodeAt G q) 9 [l0, l1] [en_I (en_fi σ 601 a), en_I a1] σ := en_jg (st := fun o => [en_R o, en_I a1]) (st' := fun a => [en_I (en_fi σ 601 a), en_I a1]) (σ' := fun _ => σ) d_X6_nodeAt_6 rfl (fun a => rfl) (fun a => ⟨fun h => h.2, fun h => ⟨rfl, h⟩⟩)
theorem d_X6_nodeAt_9 : decode cX6_nodeAt 9 = .ok (.if_icmp .ge 21, 3) := by decide +kernel
theorem j_X6_nodeAt_9 {G : en_G} {q : Option en_V → en_S → Prop}  {l0 l1 : en_V} {a0 : Int32} {a1 : Int32} {σ : en_S} : en_J (X_X6_nodeAt G q) 9 [l0, l1] [en_I a0, en_I a1] σ ↔ (a0 ≤ a1 → en_J (X_X6_nodeAt G q) 30 [l0, l1] [] σ) ∧ (¬ (a0 ≤ a1) → en_J (X_X6_nodeAt G q) 12 [l0, l1] [] σ) := en_jb d_X6_nodeAt_9 rfl ⟨rfl, by decide⟩
theorem d_X6_nodeAt_12 : decode cX6_nodeAt 12 = .ok (.iload_n 1, 1) := by decide +kernel
theorem j_X6_nodeAt_12 {G : en_G} {q : Option en_V → en_S → Prop}  {l0 : en_V} {x1 : Int32} {σ : en_S} : en_J (X_X6_nodeAt G q) 12 [l0, en_I x1] [] σ ↔ en_J (X_X6_nodeAt G q) 13 [l0, en_I x1] [en_I x1] σ := en_j1 d_X6_nodeAt_12 rfl rfl
theorem d_X6_nodeAt_13 : decode cX6_nodeAt 13 = .ok (.aload_n 0, 1) := by decide +kernel
theorem j_X6_nodeAt_13 {G : en_G} {q : Option en_V → en_S → Prop}  {l1 : en_V} {a0 : Int32} {x0 : Option Nat} {σ : en_S} : en_J (X_X6_nodeAt G q) 13 [en_R x0, l1] [en_I a0] σ ↔ en_J (X_X6_nodeAt G q) 14 [en_R x0, l1] [en_R x0, en_I a0] σ := en_j1 d_X6_nodeAt_13 rfl rfl
theorem d_X6_nodeAt_14 : decode cX6_nodeAt 14 = .ok (.getfield 11, 3) := by decide +kernel
theorem j_X6_nodeAt_14 {G : en_G} {q : Option en_V → en_S → Prop}  {l0 l1 : en_V} {a0 : Option Nat} {a1 : Int32} {σ : en_S} : en_J (X_X6_nodeAt G q) 14 [l0, l1] [en_R a0, en_I a1] σ ↔ ∃ a, a0 = some a ∧ en_cl σ a = some 6 ∧ en_J (X_X6_nodeAt G q) 17 [l0, l1] [en_R (en_fr σ 600 a), en_I a1] σ := en_jg (st := fun o => [en_R o, en_I a1]) (st' := fun a => [en_R (en_fr σ 600 a), en_I a1]) (σ' := fun _ => σ) d_X6_nodeAt_14 rfl (fun a => rfl) (fun a => ⟨fun h => h.2, fun h => ⟨rfl, h⟩⟩)
theorem d_X6_nodeAt_17 : decode cX6_nodeAt 17 = .ok (.arraylength, 1) := by decide +kernel
theorem j_X6_nodeAt_17 {G : en_G} {q : Option en_V → en_S → Prop}  {l0 l1 : en_V} {a0 : Option Nat} {a1 : Int32} {σ : en_S} : en_J (X_X6_nodeAt G q) 17 [l0, l1] [en_R a0, en_I a1] σ ↔ ∃ a, a0 = some a ∧ (en_al σ a).isSome = true ∧ en_J (X_X6_nodeAt G q) 18 [l0, l1] [en_I (nI ((en_al σ a).getD (0, 0)).2), en_I a1] σ := ej_alen d_X6_nodeAt_17 rfl
theorem d_X6_nodeAt_18 : decode cX6_nodeAt 18 = .ok (.if_icmp .ge 12, 3) := by decide +kernel
theorem j_X6_nodeAt_18 {G : en_G} {q : Option en_V → en_S → Prop}  {l0 l1 : en_V} {a0 : Int32} {a1 : Int32} {σ : en_S} : en_J (X_X6_nodeAt G q) 18 [l0, l1] [en_I a0, en_I a1] σ ↔ (a0 ≤ a1 → en_J (X_X6_nodeAt G q) 30 [l0, l1] [] σ) ∧ (¬ (a0 ≤ a1) → en_J (X_X6_nodeAt G q) 21 [l0, l1] [] σ) := en_jb d_X6_nodeAt_18 rfl ⟨rfl, by decide⟩
theorem d_X6_nodeAt_21 : decode cX6_nodeAt 21 = .ok (.aload_n 0, 1) := by decide +kernel
theorem j_X6_nodeAt_21 {G : en_G} {q : Option en_V → en_S → Prop}  {l1 : en_V} {x0 : Option Nat} {σ : en_S} : en_J (X_X6_nodeAt G q) 21 [en_R x0, l1] [] σ ↔ en_J (X_X6_nodeAt G q) 22 [en_R x0, l1] [en_R x0] σ := en_j1 d_X6_nodeAt_21 rfl rfl
theorem d_X6_nodeAt_22 : decode cX6_nodeAt 22 = .ok (.getfield 11, 3) := by decide +kernel
theorem j_X6_nodeAt_22 {G : en_G} {q : Option en_V → en_S → Prop}  {l0 l1 : en_V} {a0 : Option Nat} {σ : en_S} : en_J (X_X6_nodeAt G q) 22 [l0, l1] [en_R a0] σ ↔ ∃ a, a0 = some a ∧ en_cl σ a = some 6 ∧ en_J (X_X6_nodeAt G q) 25 [l0, l1] [en_R (en_fr σ 600 a)] σ := en_jg (st := fun o => [en_R o]) (st' := fun a => [en_R (en_fr σ 600 a)]) (σ' := fun _ => σ) d_X6_nodeAt_22 rfl (fun a => rfl) (fun a => ⟨fun h => h.2, fun h => ⟨rfl, h⟩⟩)
theorem d_X6_nodeAt_25 : decode cX6_nodeAt 25 = .ok (.iload_n 1, 1) := by decide +kernel
theorem j_X6_nodeAt_25 {G : en_G} {q : Option en_V → en_S → Prop}  {l0 : en_V} {a0 : Option Nat} {x1 : Int32} {σ : en_S} : en_J (X_X6_nodeAt G q) 25 [l0, en_I x1] [en_R a0] σ ↔ en_J (X_X6_nodeAt G q) 26 [l0, en_I x1] [en_I x1, en_R a0] σ := en_j1 d_X6_nodeAt_25 rfl rfl
theorem d_X6_nodeAt_26 : decode cX6_nodeAt 26 = .ok (.aaload, 1) := by decide +kernel
theorem j_X6_nodeAt_26 {G : en_G} {q : Option en_V → en_S → Prop}  {l0 l1 : en_V} {a0 : Int32} {a1 : Option Nat} {σ : en_S} : en_J (X_X6_nodeAt G q) 26 [l0, l1] [en_I a0, en_R a1] σ ↔ ∃ a, a1 = some a ∧ (∃ t k, en_al σ a = some (t, k) ∧ 4 ≤ t ∧ vp_in a0 k) ∧ en_J (X_X6_nodeAt G q) 27 [l0, l1] [en_R (en_ar σ a a0.toNatClampNeg)] σ := ej_aaload d_X6_nodeAt_26
theorem d_X6_nodeAt_27 : decode cX6_nodeAt 27 = .ok (.goto 4, 3) := by decide +kernel
theorem j_X6_nodeAt_27 {G : en_G} {q : Option en_V → en_S → Prop}  {l0 l1 : en_V} {a0 : Option Nat} {σ : en_S} : en_J (X_X6_nodeAt G q) 27 [l0, l1] [en_R a0] σ ↔ en_J (X_X6_nodeAt G q) 31 [l0, l1] [en_R a0] σ := en_j1 d_X6_nodeAt_27 rfl ⟨rfl, by decide⟩
theorem d_X6_nodeAt_30 : decode cX6_nodeAt 30 = .ok (.aconst_null, 1) := by decide +kernel
theorem j_X6_nodeAt_30 {G : en_G} {q : Option en_V → en_S → Prop}  {l0 l1 : en_V}  {σ : en_S} : en_J (X_X6_nodeAt G q) 30 [l0, l1] [] σ ↔ en_J (X_X6_nodeAt G q) 31 [l0, l1] [en_R none] σ := en_j1 d_X6_nodeAt_30 rfl rfl
theorem d_X6_nodeAt_31 : decode cX6_nodeAt 31 = .ok (.areturn, 1) := by decide +kernel
theorem j_X6_nodeAt_31 {G : en_G} {q : Option en_V → en_S → Prop}  {l0 l1 : en_V} {a0 : Option Nat} {σ : en_S} : en_J (X_X6_nodeAt G q) 31 [l0, l1] [en_R a0] σ ↔ q (some (en_R a0)) σ := en_jr d_X6_nodeAt_31 rfl ⟨fun h => h.2.2, fun h => ⟨rfl, rfl, h⟩⟩
theorem wc_X6_nodeAt : Jvm.Cond.code yX6_nodeAt cX6_nodeAt 2 (some (.object "NodeStage$Node")) ∈ en_W := en_inW (List.mem_of_getElem? (i := 251) (by decide +kernel)) (by decide +kernel)
theorem wi_X6_nodeAt : Jvm.Cond.instanceMethod yX6_nodeAt ∈ en_W := en_inW (List.mem_of_getElem? (i := 250) (by decide +kernel)) (by decide +kernel)
theorem wx_X6_nodeAt : Jvm.Cond.selects RX6 yX6_nodeAt yX6_nodeAt ∈ en_W := en_inW (List.mem_of_getElem? (i := 1) (by decide +kernel)) (by decide +kernel)
theorem jl_X6_nodeAt {G : en_G}  {x : Nat} {na : Nat → Nat} {la : Nat → Nat} {ba : Nat → Nat} {rm : Nat} {A : st_A} {k : Int32} {σ : en_S} (hp : CX G x na la ba rm A σ) : en_J (X_X6_nodeAt G (fun v σ' => σ' = σ ∧ v = some (en_R ((st_ix (tr_N (sa_T A)) k).map na)))) 0 [en_R (some x), en_I k] [] σ := by
  have hq := hp
  obtain ⟨c, tt, nd, bx, l, sc, lo, ob, w, r⟩ := hp
  obtain ⟨⟨a1, a2, a3, a4, a5, a6⟩, ⟨b1, b2, b3, b4⟩, c3, d, e, kk, f⟩ := c
  obtain ⟨o1, o2, o3, o4⟩ := ob
  have hN : (tr_N (sa_T A)) ≤ 24 := by have := w.1.1.2; have := w.2.1; omega
  cases hx : st_ix ((tr_N (sa_T A))) k with
  | none =>
    have hne := st_ix_none hx
    simp only [j_X6_nodeAt_0, j_X6_nodeAt_1, j_X6_nodeAt_4, j_X6_nodeAt_5, j_X6_nodeAt_6, j_X6_nodeAt_9, j_X6_nodeAt_12, j_X6_nodeAt_13, j_X6_nodeAt_14, j_X6_nodeAt_17, j_X6_nodeAt_18, j_X6_nodeAt_21, j_X6_nodeAt_22, j_X6_nodeAt_25, j_X6_nodeAt_26, j_X6_nodeAt_27, j_X6_nodeAt_30, j_X6_nodeAt_31, en_c2I, en_c2R, en_c2U, en_c2D, Option.some.injEq, exists_eq_left', exists_eq_left, Option.map_some, Option.map_none, not_true_eq_false, false_implies, true_implies, and_true, true_and, reduceCtorEq, not_false_eq_true, a1, a2, a3, a4, b1, b2, b3, o1, o2, Option.isSome_some, Option.getD_some, Prod.mk.injEq]
    exact ⟨fun h1 => trivial, fun h1 => ⟨fun h2 => trivial, fun h2 => absurd ⟨Int32.not_lt.mp h1, Int32.not_le.mp h2⟩ hne⟩⟩
  | some j =>
    obtain ⟨hj, rfl⟩ := st_ix_some (by omega) hx
    have n0 : ¬ nI j < 0 := nI_pos (by omega)
    have n1 : ¬ nI ((tr_N (sa_T A))) ≤ nI j := nI_ge hj (by omega)
    have n2 : ¬ nI 24 ≤ nI j := nI_ge (by omega) (by decide)
    have n3 : vp_in (nI j) 24 := vp_in_nI (by omega) (by decide)
    have n4 : (nI j).toNatClampNeg = j := nI_clamp (by omega)
    have n5 := (nd j hj).2.2
    simp only [j_X6_nodeAt_0, j_X6_nodeAt_1, j_X6_nodeAt_4, j_X6_nodeAt_5, j_X6_nodeAt_6, j_X6_nodeAt_9, j_X6_nodeAt_12, j_X6_nodeAt_13, j_X6_nodeAt_14, j_X6_nodeAt_17, j_X6_nodeAt_18, j_X6_nodeAt_21, j_X6_nodeAt_22, j_X6_nodeAt_25, j_X6_nodeAt_26, j_X6_nodeAt_27, j_X6_nodeAt_30, j_X6_nodeAt_31, en_c2I, en_c2R, en_c2U, en_c2D, Option.some.injEq, exists_eq_left', exists_eq_left, Option.map_some, Option.map_none, not_true_eq_false, false_implies, true_implies, and_true, true_and, reduceCtorEq, not_false_eq_true, a1, a2, a3, a4, b1, b2, b3, o1, o2, Option.isSome_some, Option.getD_some, Prod.mk.injEq, n0, n1, n2, n3, n4, n5]
    exact ⟨_, _, ⟨rfl, rfl⟩, by decide, n3⟩
theorem jp_X6_nodeAt {G : en_G}  : ∀ as σ, (C_X6_nodeAt G).1 as σ → (en_lc as).length ≤ 2 ∧ en_J (X_X6_nodeAt G (fun r σ' => (C_X6_nodeAt G).2 as σ r σ')) 0 (en_loc 2 as) [] σ := en_ghJ (fun g as σ h => by
  obtain ⟨hp, h2⟩ := h
  subst h2
  exact ⟨Nat.le_of_ble_eq_true rfl, jl_X6_nodeAt hp⟩)
theorem ok_X6_nodeAt {G : en_G}  : en_Ok G 1 yX6_nodeAt cX6_nodeAt 2 (some (.object "NodeStage$Node")) (C_X6_nodeAt G) :=
  en_met (own := RX6) (fl := en_lk fl6) (nw := en_lk nw6) (aw := en_lk aw6) (dc := en_lk dc6) (ca := en_lk (ca_X6_nodeAt G)) (rt := 3) (ini := false) (by decide +kernel) (Or.inr (Or.inr (Or.inr (Or.inl ⟨rfl, _, rfl⟩)))) (fun h => by cases h) rfl (fun q => en_LkF fl6_ok nw6_ok aw6_ok dc6_ok) (fun idx q hq => by cases hq) jp_X6_nodeAt
def P_X6_listenerAt (G : en_G)  (g : (Nat) × (Nat → Nat) × (Nat → Nat) × (Nat → Nat) × (Nat) × (st_A) × (Int32)) (as : List en_V) (σ : en_S) : Prop := (CX G (g.1) (g.2.1) (g.2.2.1) (g.2.2.2.1) (g.2.2.2.2.1) (g.2.2.2.2.2.1) σ) ∧ as = [en_R (some (g.1)), en_I (g.2.2.2.2.2.2)]
def C_X6_listenerAt (G : en_G)  : en_C := en_gh (P_X6_listenerAt G) (fun g as σ v σ' => σ' = σ ∧ v = some (en_R ((st_ix (sa_D (g.2.2.2.2.2.1) 0 0) (g.2.2.2.2.2.2)).map (g.2.2.1))))
theorem pr_X6_listenerAt {G : en_G}  : ∀ as σ, (C_X6_listenerAt G).1 as σ → ∃ b tl, as = en_R (some b) :: tl ∧ en_cl σ b = some 6 ∧ tl.length = 1 := fun as σ ⟨g, hp, h2⟩ => ⟨_, _, h2, hp.1.1.1, rfl⟩
theorem cu_X6_listenerAt {G : en_G}  {x : Nat} {na : Nat → Nat} {la : Nat → Nat} {ba : Nat → Nat} {rm : Nat} {A : st_A} {k : Int32} {σ : en_S} (hp : CX G x na la ba rm A σ) : en_Us (C_X6_listenerAt G) [en_R (some x), en_I k] σ (fun v σ' => σ' = σ ∧ v = some (en_R ((st_ix (sa_D A 0 0) k).map la))) := ⟨⟨(x, na, la, ba, rm, A, k), hp, rfl⟩, fun v σ' q => q (x, na, la, ba, rm, A, k) ⟨hp, rfl⟩⟩
def ca_X6_listenerAt (G : en_G) : List (Nat × Nat × en_C) := []
def X_X6_listenerAt (G : en_G) (q : Option en_V → en_S → Prop) : en_X := en_mk G cX6_listenerAt (en_lk fl6) (en_lk nw6) (en_lk aw6) (en_lk dc6) (en_lk (ca_X6_listenerAt G)) 3 false q
theorem d_X6_listenerAt_0 : decode cX6_listenerAt 0 = .ok (.iload_n 1, 1) := by decide +kernel
theorem j_X6_listenerAt_0 {G : en_G} {q : Option en_V → en_S → Prop}  {l0 : en_V} {x1 : Int32} {σ : en_S} : en_J (X_X6_listenerAt G q) 0 [l0, en_I x1] [] σ ↔ en_J (X_X6_listenerAt G q) 1 [l0, en_I x1] [en_I x1] σ := en_j1 d_X6_listenerAt_0 rfl rfl
theorem d_X6_listenerAt_1 : decode cX6_listenerAt 1 = .ok (.ifCond .lt 29, 3) := by decide +kernel
theorem j_X6_listenerAt_1 {G : en_G} {q : Option en_V → en_S → Prop}  {l0 l1 : en_V} {a0 : Int32} {σ : en_S} : en_J (X_X6_listenerAt G q) 1 [l0, l1] [en_I a0] σ ↔ (a0 < 0 → en_J (X_X6_listenerAt G q) 30 [l0, l1] [] σ) ∧ (¬ (a0 < 0) → en_J (X_X6_listenerAt G q) 4 [l0, l1] [] σ) := en_jb d_X6_listenerAt_1 rfl ⟨rfl, by decide⟩
theorem d_X6_listenerAt_4 : decode cX6_listenerAt 4 = .ok (.iload_n 1, 1) := by decide +kernel
theorem j_X6_listenerAt_4 {G : en_G} {q : Option en_V → en_S → Prop}  {l0 : en_V} {x1 : Int32} {σ : en_S} : en_J (X_X6_listenerAt G q) 4 [l0, en_I x1] [] σ ↔ en_J (X_X6_listenerAt G q) 5 [l0, en_I x1] [en_I x1] σ := en_j1 d_X6_listenerAt_4 rfl rfl
theorem d_X6_listenerAt_5 : decode cX6_listenerAt 5 = .ok (.aload_n 0, 1) := by decide +kernel
theorem j_X6_listenerAt_5 {G : en_G} {q : Option en_V → en_S → Prop}  {l1 : en_V} {a0 : Int32} {x0 : Option Nat} {σ : en_S} : en_J (X_X6_listenerAt G q) 5 [en_R x0, l1] [en_I a0] σ ↔ en_J (X_X6_listenerAt G q) 6 [en_R x0, l1] [en_R x0, en_I a0] σ := en_j1 d_X6_listenerAt_5 rfl rfl
theorem d_X6_listenerAt_6 : decode cX6_listenerAt 6 = .ok (.getfield 226, 3) := by decide +kernel
theorem j_X6_listenerAt_6 {G : en_G} {q : Option en_V → en_S → Prop}  {l0 l1 : en_V} {a0 : Option Nat} {a1 : Int32} {σ : en_S} : en_J (X_X6_listenerAt G q) 6 [l0, l1] [en_R a0, en_I a1] σ ↔ ∃ a, a0 = some a ∧ en_cl σ a = some 6 ∧ en_J (X_X6_listenerAt G q) 9 [l0, l1] [en_I (en_fi σ 603 a), en_I a1] σ := en_jg (st := fun o => [en_R o, en_I a1]) (st' := fun a => [en_I (en_fi σ 603 a), en_I a1]) (σ' := fun _ => σ) d_X6_listenerAt_6 rfl (fun a => rfl) (fun a => ⟨fun h => h.2, fun h => ⟨rfl, h⟩⟩)
theorem d_X6_listenerAt_9 : decode cX6_listenerAt 9 = .ok (.if_icmp .ge 21, 3) := by decide +kernel
theorem j_X6_listenerAt_9 {G : en_G} {q : Option en_V → en_S → Prop}  {l0 l1 : en_V} {a0 : Int32} {a1 : Int32} {σ : en_S} : en_J (X_X6_listenerAt G q) 9 [l0, l1] [en_I a0, en_I a1] σ ↔ (a0 ≤ a1 → en_J (X_X6_listenerAt G q) 30 [l0, l1] [] σ) ∧ (¬ (a0 ≤ a1) → en_J (X_X6_listenerAt G q) 12 [l0, l1] [] σ) := en_jb d_X6_listenerAt_9 rfl ⟨rfl, by decide⟩
theorem d_X6_listenerAt_12 : decode cX6_listenerAt 12 = .ok (.iload_n 1, 1) := by decide +kernel
theorem j_X6_listenerAt_12 {G : en_G} {q : Option en_V → en_S → Prop}  {l0 : en_V} {x1 : Int32} {σ : en_S} : en_J (X_X6_listenerAt G q) 12 [l0, en_I x1] [] σ ↔ en_J (X_X6_listenerAt G q) 13 [l0, en_I x1] [en_I x1] σ := en_j1 d_X6_listenerAt_12 rfl rfl
theorem d_X6_listenerAt_13 : decode cX6_listenerAt 13 = .ok (.aload_n 0, 1) := by decide +kernel
theorem j_X6_listenerAt_13 {G : en_G} {q : Option en_V → en_S → Prop}  {l1 : en_V} {a0 : Int32} {x0 : Option Nat} {σ : en_S} : en_J (X_X6_listenerAt G q) 13 [en_R x0, l1] [en_I a0] σ ↔ en_J (X_X6_listenerAt G q) 14 [en_R x0, l1] [en_R x0, en_I a0] σ := en_j1 d_X6_listenerAt_13 rfl rfl
theorem d_X6_listenerAt_14 : decode cX6_listenerAt 14 = .ok (.getfield 17, 3) := by decide +kernel
theorem j_X6_listenerAt_14 {G : en_G} {q : Option en_V → en_S → Prop}  {l0 l1 : en_V} {a0 : Option Nat} {a1 : Int32} {σ : en_S} : en_J (X_X6_listenerAt G q) 14 [l0, l1] [en_R a0, en_I a1] σ ↔ ∃ a, a0 = some a ∧ en_cl σ a = some 6 ∧ en_J (X_X6_listenerAt G q) 17 [l0, l1] [en_R (en_fr σ 602 a), en_I a1] σ := en_jg (st := fun o => [en_R o, en_I a1]) (st' := fun a => [en_R (en_fr σ 602 a), en_I a1]) (σ' := fun _ => σ) d_X6_listenerAt_14 rfl (fun a => rfl) (fun a => ⟨fun h => h.2, fun h => ⟨rfl, h⟩⟩)
theorem d_X6_listenerAt_17 : decode cX6_listenerAt 17 = .ok (.arraylength, 1) := by decide +kernel
theorem j_X6_listenerAt_17 {G : en_G} {q : Option en_V → en_S → Prop}  {l0 l1 : en_V} {a0 : Option Nat} {a1 : Int32} {σ : en_S} : en_J (X_X6_listenerAt G q) 17 [l0, l1] [en_R a0, en_I a1] σ ↔ ∃ a, a0 = some a ∧ (en_al σ a).isSome = true ∧ en_J (X_X6_listenerAt G q) 18 [l0, l1] [en_I (nI ((en_al σ a).getD (0, 0)).2), en_I a1] σ := ej_alen d_X6_listenerAt_17 rfl
theorem d_X6_listenerAt_18 : decode cX6_listenerAt 18 = .ok (.if_icmp .ge 12, 3) := by decide +kernel
theorem j_X6_listenerAt_18 {G : en_G} {q : Option en_V → en_S → Prop}  {l0 l1 : en_V} {a0 : Int32} {a1 : Int32} {σ : en_S} : en_J (X_X6_listenerAt G q) 18 [l0, l1] [en_I a0, en_I a1] σ ↔ (a0 ≤ a1 → en_J (X_X6_listenerAt G q) 30 [l0, l1] [] σ) ∧ (¬ (a0 ≤ a1) → en_J (X_X6_listenerAt G q) 21 [l0, l1] [] σ) := en_jb d_X6_listenerAt_18 rfl ⟨rfl, by decide⟩
theorem d_X6_listenerAt_21 : decode cX6_listenerAt 21 = .ok (.aload_n 0, 1) := by decide +kernel
theorem j_X6_listenerAt_21 {G : en_G} {q : Option en_V → en_S → Prop}  {l1 : en_V} {x0 : Option Nat} {σ : en_S} : en_J (X_X6_listenerAt G q) 21 [en_R x0, l1] [] σ ↔ en_J (X_X6_listenerAt G q) 22 [en_R x0, l1] [en_R x0] σ := en_j1 d_X6_listenerAt_21 rfl rfl
theorem d_X6_listenerAt_22 : decode cX6_listenerAt 22 = .ok (.getfield 17, 3) := by decide +kernel
theorem j_X6_listenerAt_22 {G : en_G} {q : Option en_V → en_S → Prop}  {l0 l1 : en_V} {a0 : Option Nat} {σ : en_S} : en_J (X_X6_listenerAt G q) 22 [l0, l1] [en_R a0] σ ↔ ∃ a, a0 = some a ∧ en_cl σ a = some 6 ∧ en_J (X_X6_listenerAt G q) 25 [l0, l1] [en_R (en_fr σ 602 a)] σ := en_jg (st := fun o => [en_R o]) (st' := fun a => [en_R (en_fr σ 602 a)]) (σ' := fun _ => σ) d_X6_listenerAt_22 rfl (fun a => rfl) (fun a => ⟨fun h => h.2, fun h => ⟨rfl, h⟩⟩)
theorem d_X6_listenerAt_25 : decode cX6_listenerAt 25 = .ok (.iload_n 1, 1) := by decide +kernel
theorem j_X6_listenerAt_25 {G : en_G} {q : Option en_V → en_S → Prop}  {l0 : en_V} {a0 : Option Nat} {x1 : Int32} {σ : en_S} : en_J (X_X6_listenerAt G q) 25 [l0, en_I x1] [en_R a0] σ ↔ en_J (X_X6_listenerAt G q) 26 [l0, en_I x1] [en_I x1, en_R a0] σ := en_j1 d_X6_listenerAt_25 rfl rfl
theorem d_X6_listenerAt_26 : decode cX6_listenerAt 26 = .ok (.aaload, 1) := by decide +kernel
theorem j_X6_listenerAt_26 {G : en_G} {q : Option en_V → en_S → Prop}  {l0 l1 : en_V} {a0 : Int32} {a1 : Option Nat} {σ : en_S} : en_J (X_X6_listenerAt G q) 26 [l0, l1] [en_I a0, en_R a1] σ ↔ ∃ a, a1 = some a ∧ (∃ t k, en_al σ a = some (t, k) ∧ 4 ≤ t ∧ vp_in a0 k) ∧ en_J (X_X6_listenerAt G q) 27 [l0, l1] [en_R (en_ar σ a a0.toNatClampNeg)] σ := ej_aaload d_X6_listenerAt_26
theorem d_X6_listenerAt_27 : decode cX6_listenerAt 27 = .ok (.goto 4, 3) := by decide +kernel
theorem j_X6_listenerAt_27 {G : en_G} {q : Option en_V → en_S → Prop}  {l0 l1 : en_V} {a0 : Option Nat} {σ : en_S} : en_J (X_X6_listenerAt G q) 27 [l0, l1] [en_R a0] σ ↔ en_J (X_X6_listenerAt G q) 31 [l0, l1] [en_R a0] σ := en_j1 d_X6_listenerAt_27 rfl ⟨rfl, by decide⟩
theorem d_X6_listenerAt_30 : decode cX6_listenerAt 30 = .ok (.aconst_null, 1) := by decide +kernel
theorem j_X6_listenerAt_30 {G : en_G} {q : Option en_V → en_S → Prop}  {l0 l1 : en_V}  {σ : en_S} : en_J (X_X6_listenerAt G q) 30 [l0, l1] [] σ ↔ en_J (X_X6_listenerAt G q) 31 [l0, l1] [en_R none] σ := en_j1 d_X6_listenerAt_30 rfl rfl
theorem d_X6_listenerAt_31 : decode cX6_listenerAt 31 = .ok (.areturn, 1) := by decide +kernel
theorem j_X6_listenerAt_31 {G : en_G} {q : Option en_V → en_S → Prop}  {l0 l1 : en_V} {a0 : Option Nat} {σ : en_S} : en_J (X_X6_listenerAt G q) 31 [l0, l1] [en_R a0] σ ↔ q (some (en_R a0)) σ := en_jr d_X6_listenerAt_31 rfl ⟨fun h => h.2.2, fun h => ⟨rfl, rfl, h⟩⟩
theorem wc_X6_listenerAt : Jvm.Cond.code yX6_listenerAt cX6_listenerAt 2 (some (.object "NodeStage$Listener")) ∈ en_W := en_inW (List.mem_of_getElem? (i := 297) (by decide +kernel)) (by decide +kernel)
theorem wi_X6_listenerAt : Jvm.Cond.instanceMethod yX6_listenerAt ∈ en_W := en_inW (List.mem_of_getElem? (i := 296) (by decide +kernel)) (by decide +kernel)
theorem wx_X6_listenerAt : Jvm.Cond.selects RX6 yX6_listenerAt yX6_listenerAt ∈ en_W := en_inW (List.mem_of_getElem? (i := 5) (by decide +kernel)) (by decide +kernel)
theorem jl_X6_listenerAt {G : en_G}  {x : Nat} {na : Nat → Nat} {la : Nat → Nat} {ba : Nat → Nat} {rm : Nat} {A : st_A} {k : Int32} {σ : en_S} (hp : CX G x na la ba rm A σ) : en_J (X_X6_listenerAt G (fun v σ' => σ' = σ ∧ v = some (en_R ((st_ix (sa_D A 0 0) k).map la)))) 0 [en_R (some x), en_I k] [] σ := by
  have hq := hp
  obtain ⟨c, tt, nd, bx, l, sc, lo, ob, w, r⟩ := hp
  obtain ⟨⟨a1, a2, a3, a4, a5, a6⟩, ⟨b1, b2, b3, b4⟩, c3, d, e, kk, f⟩ := c
  obtain ⟨o1, o2, o3, o4⟩ := ob
  have hN : (sa_D A 0 0) ≤ 40 := by have := w.1.1.2; have := w.2.1; omega
  cases hx : st_ix ((sa_D A 0 0)) k with
  | none =>
    have hne := st_ix_none hx
    simp only [j_X6_listenerAt_0, j_X6_listenerAt_1, j_X6_listenerAt_4, j_X6_listenerAt_5, j_X6_listenerAt_6, j_X6_listenerAt_9, j_X6_listenerAt_12, j_X6_listenerAt_13, j_X6_listenerAt_14, j_X6_listenerAt_17, j_X6_listenerAt_18, j_X6_listenerAt_21, j_X6_listenerAt_22, j_X6_listenerAt_25, j_X6_listenerAt_26, j_X6_listenerAt_27, j_X6_listenerAt_30, j_X6_listenerAt_31, en_c2I, en_c2R, en_c2U, en_c2D, Option.some.injEq, exists_eq_left', exists_eq_left, Option.map_some, Option.map_none, not_true_eq_false, false_implies, true_implies, and_true, true_and, reduceCtorEq, not_false_eq_true, a1, a2, a3, a4, b1, b2, b3, o1, o2, Option.isSome_some, Option.getD_some, Prod.mk.injEq]
    exact ⟨fun h1 => trivial, fun h1 => ⟨fun h2 => trivial, fun h2 => absurd ⟨Int32.not_lt.mp h1, Int32.not_le.mp h2⟩ hne⟩⟩
  | some j =>
    obtain ⟨hj, rfl⟩ := st_ix_some (by omega) hx
    have n0 : ¬ nI j < 0 := nI_pos (by omega)
    have n1 : ¬ nI ((sa_D A 0 0)) ≤ nI j := nI_ge hj (by omega)
    have n2 : ¬ nI 40 ≤ nI j := nI_ge (by omega) (by decide)
    have n3 : vp_in (nI j) 40 := vp_in_nI (by omega) (by decide)
    have n4 : (nI j).toNatClampNeg = j := nI_clamp (by omega)
    have n5 := (l.1 j hj).2.1
    simp only [j_X6_listenerAt_0, j_X6_listenerAt_1, j_X6_listenerAt_4, j_X6_listenerAt_5, j_X6_listenerAt_6, j_X6_listenerAt_9, j_X6_listenerAt_12, j_X6_listenerAt_13, j_X6_listenerAt_14, j_X6_listenerAt_17, j_X6_listenerAt_18, j_X6_listenerAt_21, j_X6_listenerAt_22, j_X6_listenerAt_25, j_X6_listenerAt_26, j_X6_listenerAt_27, j_X6_listenerAt_30, j_X6_listenerAt_31, en_c2I, en_c2R, en_c2U, en_c2D, Option.some.injEq, exists_eq_left', exists_eq_left, Option.map_some, Option.map_none, not_true_eq_false, false_implies, true_implies, and_true, true_and, reduceCtorEq, not_false_eq_true, a1, a2, a3, a4, b1, b2, b3, o1, o2, Option.isSome_some, Option.getD_some, Prod.mk.injEq, n0, n1, n2, n3, n4, n5]
    exact ⟨_, _, ⟨rfl, rfl⟩, by decide, n3⟩
theorem jp_X6_listenerAt {G : en_G}  : ∀ as σ, (C_X6_listenerAt G).1 as σ → (en_lc as).length ≤ 2 ∧ en_J (X_X6_listenerAt G (fun r σ' => (C_X6_listenerAt G).2 as σ r σ')) 0 (en_loc 2 as) [] σ := en_ghJ (fun g as σ h => by
  obtain ⟨hp, h2⟩ := h
  subst h2
  exact ⟨Nat.le_of_ble_eq_true rfl, jl_X6_listenerAt hp⟩)
theorem ok_X6_listenerAt {G : en_G}  : en_Ok G 1 yX6_listenerAt cX6_listenerAt 2 (some (.object "NodeStage$Listener")) (C_X6_listenerAt G) :=
  en_met (own := RX6) (fl := en_lk fl6) (nw := en_lk nw6) (aw := en_lk aw6) (dc := en_lk dc6) (ca := en_lk (ca_X6_listenerAt G)) (rt := 3) (ini := false) (by decide +kernel) (Or.inr (Or.inr (Or.inr (Or.inl ⟨rfl, _, rfl⟩)))) (fun h => by cases h) rfl (fun q => en_LkF fl6_ok nw6_ok aw6_ok dc6_ok) (fun idx q hq => by cases hq) jp_X6_listenerAt
def P_X6_scriptAt (G : en_G)  (g : (Nat) × (Nat → Nat) × (Nat → Nat) × (Nat → Nat) × (Nat) × (st_A) × (Int32)) (as : List en_V) (σ : en_S) : Prop := (CX G (g.1) (g.2.1) (g.2.2.1) (g.2.2.2.1) (g.2.2.2.2.1) (g.2.2.2.2.2.1) σ) ∧ as = [en_R (some (g.1)), en_I (g.2.2.2.2.2.2)]
def C_X6_scriptAt (G : en_G)  : en_C := en_gh (P_X6_scriptAt G) (fun g as σ v σ' => σ' = σ ∧ v = some (en_R ((st_ix 8 (g.2.2.2.2.2.2)).map (fun s => (g.1) + 8 + 3 * s))))
theorem pr_X6_scriptAt {G : en_G}  : ∀ as σ, (C_X6_scriptAt G).1 as σ → ∃ b tl, as = en_R (some b) :: tl ∧ en_cl σ b = some 6 ∧ tl.length = 1 := fun as σ ⟨g, hp, h2⟩ => ⟨_, _, h2, hp.1.1.1, rfl⟩
theorem cu_X6_scriptAt {G : en_G}  {x : Nat} {na : Nat → Nat} {la : Nat → Nat} {ba : Nat → Nat} {rm : Nat} {A : st_A} {k : Int32} {σ : en_S} (hp : CX G x na la ba rm A σ) : en_Us (C_X6_scriptAt G) [en_R (some x), en_I k] σ (fun v σ' => σ' = σ ∧ v = some (en_R ((st_ix 8 k).map (fun s => x + 8 + 3 * s)))) := ⟨⟨(x, na, la, ba, rm, A, k), hp, rfl⟩, fun v σ' q => q (x, na, la, ba, rm, A, k) ⟨hp, rfl⟩⟩
def ca_X6_scriptAt (G : en_G) : List (Nat × Nat × en_C) := []
def X_X6_scriptAt (G : en_G) (q : Option en_V → en_S → Prop) : en_X := en_mk G cX6_scriptAt (en_lk fl6) (en_lk nw6) (en_lk aw6) (en_lk dc6) (en_lk (ca_X6_scriptAt G)) 3 false q
theorem d_X6_scriptAt_0 : decode cX6_scriptAt 0 = .ok (.iload_n 1, 1) := by decide +kernel
theorem j_X6_scriptAt_0 {G : en_G} {q : Option en_V → en_S → Prop}  {l0 : en_V} {x1 : Int32} {σ : en_S} : en_J (X_X6_scriptAt G q) 0 [l0, en_I x1] [] σ ↔ en_J (X_X6_scriptAt G q) 1 [l0, en_I x1] [en_I x1] σ := en_j1 d_X6_scriptAt_0 rfl rfl
theorem d_X6_scriptAt_1 : decode cX6_scriptAt 1 = .ok (.ifCond .lt 21, 3) := by decide +kernel
theorem j_X6_scriptAt_1 {G : en_G} {q : Option en_V → en_S → Prop}  {l0 l1 : en_V} {a0 : Int32} {σ : en_S} : en_J (X_X6_scriptAt G q) 1 [l0, l1] [en_I a0] σ ↔ (a0 < 0 → en_J (X_X6_scriptAt G q) 22 [l0, l1] [] σ) ∧ (¬ (a0 < 0) → en_J (X_X6_scriptAt G q) 4 [l0, l1] [] σ) := en_jb d_X6_scriptAt_1 rfl ⟨rfl, by decide⟩
theorem d_X6_scriptAt_4 : decode cX6_scriptAt 4 = .ok (.iload_n 1, 1) := by decide +kernel
theorem j_X6_scriptAt_4 {G : en_G} {q : Option en_V → en_S → Prop}  {l0 : en_V} {x1 : Int32} {σ : en_S} : en_J (X_X6_scriptAt G q) 4 [l0, en_I x1] [] σ ↔ en_J (X_X6_scriptAt G q) 5 [l0, en_I x1] [en_I x1] σ := en_j1 d_X6_scriptAt_4 rfl rfl
theorem d_X6_scriptAt_5 : decode cX6_scriptAt 5 = .ok (.aload_n 0, 1) := by decide +kernel
theorem j_X6_scriptAt_5 {G : en_G} {q : Option en_V → en_S → Prop}  {l1 : en_V} {a0 : Int32} {x0 : Option Nat} {σ : en_S} : en_J (X_X6_scriptAt G q) 5 [en_R x0, l1] [en_I a0] σ ↔ en_J (X_X6_scriptAt G q) 6 [en_R x0, l1] [en_R x0, en_I a0] σ := en_j1 d_X6_scriptAt_5 rfl rfl
theorem d_X6_scriptAt_6 : decode cX6_scriptAt 6 = .ok (.getfield 23, 3) := by decide +kernel
theorem j_X6_scriptAt_6 {G : en_G} {q : Option en_V → en_S → Prop}  {l0 l1 : en_V} {a0 : Option Nat} {a1 : Int32} {σ : en_S} : en_J (X_X6_scriptAt G q) 6 [l0, l1] [en_R a0, en_I a1] σ ↔ ∃ a, a0 = some a ∧ en_cl σ a = some 6 ∧ en_J (X_X6_scriptAt G q) 9 [l0, l1] [en_R (en_fr σ 604 a), en_I a1] σ := en_jg (st := fun o => [en_R o, en_I a1]) (st' := fun a => [en_R (en_fr σ 604 a), en_I a1]) (σ' := fun _ => σ) d_X6_scriptAt_6 rfl (fun a => rfl) (fun a => ⟨fun h => h.2, fun h => ⟨rfl, h⟩⟩)
theorem d_X6_scriptAt_9 : decode cX6_scriptAt 9 = .ok (.arraylength, 1) := by decide +kernel
theorem j_X6_scriptAt_9 {G : en_G} {q : Option en_V → en_S → Prop}  {l0 l1 : en_V} {a0 : Option Nat} {a1 : Int32} {σ : en_S} : en_J (X_X6_scriptAt G q) 9 [l0, l1] [en_R a0, en_I a1] σ ↔ ∃ a, a0 = some a ∧ (en_al σ a).isSome = true ∧ en_J (X_X6_scriptAt G q) 10 [l0, l1] [en_I (nI ((en_al σ a).getD (0, 0)).2), en_I a1] σ := ej_alen d_X6_scriptAt_9 rfl
theorem d_X6_scriptAt_10 : decode cX6_scriptAt 10 = .ok (.if_icmp .ge 12, 3) := by decide +kernel
theorem j_X6_scriptAt_10 {G : en_G} {q : Option en_V → en_S → Prop}  {l0 l1 : en_V} {a0 : Int32} {a1 : Int32} {σ : en_S} : en_J (X_X6_scriptAt G q) 10 [l0, l1] [en_I a0, en_I a1] σ ↔ (a0 ≤ a1 → en_J (X_X6_scriptAt G q) 22 [l0, l1] [] σ) ∧ (¬ (a0 ≤ a1) → en_J (X_X6_scriptAt G q) 13 [l0, l1] [] σ) := en_jb d_X6_scriptAt_10 rfl ⟨rfl, by decide⟩
theorem d_X6_scriptAt_13 : decode cX6_scriptAt 13 = .ok (.aload_n 0, 1) := by decide +kernel
theorem j_X6_scriptAt_13 {G : en_G} {q : Option en_V → en_S → Prop}  {l1 : en_V} {x0 : Option Nat} {σ : en_S} : en_J (X_X6_scriptAt G q) 13 [en_R x0, l1] [] σ ↔ en_J (X_X6_scriptAt G q) 14 [en_R x0, l1] [en_R x0] σ := en_j1 d_X6_scriptAt_13 rfl rfl
theorem d_X6_scriptAt_14 : decode cX6_scriptAt 14 = .ok (.getfield 23, 3) := by decide +kernel
theorem j_X6_scriptAt_14 {G : en_G} {q : Option en_V → en_S → Prop}  {l0 l1 : en_V} {a0 : Option Nat} {σ : en_S} : en_J (X_X6_scriptAt G q) 14 [l0, l1] [en_R a0] σ ↔ ∃ a, a0 = some a ∧ en_cl σ a = some 6 ∧ en_J (X_X6_scriptAt G q) 17 [l0, l1] [en_R (en_fr σ 604 a)] σ := en_jg (st := fun o => [en_R o]) (st' := fun a => [en_R (en_fr σ 604 a)]) (σ' := fun _ => σ) d_X6_scriptAt_14 rfl (fun a => rfl) (fun a => ⟨fun h => h.2, fun h => ⟨rfl, h⟩⟩)
theorem d_X6_scriptAt_17 : decode cX6_scriptAt 17 = .ok (.iload_n 1, 1) := by decide +kernel
theorem j_X6_scriptAt_17 {G : en_G} {q : Option en_V → en_S → Prop}  {l0 : en_V} {a0 : Option Nat} {x1 : Int32} {σ : en_S} : en_J (X_X6_scriptAt G q) 17 [l0, en_I x1] [en_R a0] σ ↔ en_J (X_X6_scriptAt G q) 18 [l0, en_I x1] [en_I x1, en_R a0] σ := en_j1 d_X6_scriptAt_17 rfl rfl
theorem d_X6_scriptAt_18 : decode cX6_scriptAt 18 = .ok (.aaload, 1) := by decide +kernel
theorem j_X6_scriptAt_18 {G : en_G} {q : Option en_V → en_S → Prop}  {l0 l1 : en_V} {a0 : Int32} {a1 : Option Nat} {σ : en_S} : en_J (X_X6_scriptAt G q) 18 [l0, l1] [en_I a0, en_R a1] σ ↔ ∃ a, a1 = some a ∧ (∃ t k, en_al σ a = some (t, k) ∧ 4 ≤ t ∧ vp_in a0 k) ∧ en_J (X_X6_scriptAt G q) 19 [l0, l1] [en_R (en_ar σ a a0.toNatClampNeg)] σ := ej_aaload d_X6_scriptAt_18
theorem d_X6_scriptAt_19 : decode cX6_scriptAt 19 = .ok (.goto 4, 3) := by decide +kernel
theorem j_X6_scriptAt_19 {G : en_G} {q : Option en_V → en_S → Prop}  {l0 l1 : en_V} {a0 : Option Nat} {σ : en_S} : en_J (X_X6_scriptAt G q) 19 [l0, l1] [en_R a0] σ ↔ en_J (X_X6_scriptAt G q) 23 [l0, l1] [en_R a0] σ := en_j1 d_X6_scriptAt_19 rfl ⟨rfl, by decide⟩
theorem d_X6_scriptAt_22 : decode cX6_scriptAt 22 = .ok (.aconst_null, 1) := by decide +kernel
theorem j_X6_scriptAt_22 {G : en_G} {q : Option en_V → en_S → Prop}  {l0 l1 : en_V}  {σ : en_S} : en_J (X_X6_scriptAt G q) 22 [l0, l1] [] σ ↔ en_J (X_X6_scriptAt G q) 23 [l0, l1] [en_R none] σ := en_j1 d_X6_scriptAt_22 rfl rfl
theorem d_X6_scriptAt_23 : decode cX6_scriptAt 23 = .ok (.areturn, 1) := by decide +kernel
theorem j_X6_scriptAt_23 {G : en_G} {q : Option en_V → en_S → Prop}  {l0 l1 : en_V} {a0 : Option Nat} {σ : en_S} : en_J (X_X6_scriptAt G q) 23 [l0, l1] [en_R a0] σ ↔ q (some (en_R a0)) σ := en_jr d_X6_scriptAt_23 rfl ⟨fun h => h.2.2, fun h => ⟨rfl, rfl, h⟩⟩
theorem wc_X6_scriptAt : Jvm.Cond.code yX6_scriptAt cX6_scriptAt 2 (some (.object "NodeStage$Script")) ∈ en_W := en_inW (List.mem_of_getElem? (i := 270) (by decide +kernel)) (by decide +kernel)
theorem wi_X6_scriptAt : Jvm.Cond.instanceMethod yX6_scriptAt ∈ en_W := en_inW (List.mem_of_getElem? (i := 269) (by decide +kernel)) (by decide +kernel)
theorem wx_X6_scriptAt : Jvm.Cond.selects RX6 yX6_scriptAt yX6_scriptAt ∈ en_W := en_inW (List.mem_of_getElem? (i := 2) (by decide +kernel)) (by decide +kernel)
theorem jl_X6_scriptAt {G : en_G}  {x : Nat} {na : Nat → Nat} {la : Nat → Nat} {ba : Nat → Nat} {rm : Nat} {A : st_A} {k : Int32} {σ : en_S} (hp : CX G x na la ba rm A σ) : en_J (X_X6_scriptAt G (fun v σ' => σ' = σ ∧ v = some (en_R ((st_ix 8 k).map (fun s => x + 8 + 3 * s))))) 0 [en_R (some x), en_I k] [] σ := by
  have hq := hp
  obtain ⟨c, tt, nd, bx, l, sc, lo, ob, w, r⟩ := hp
  obtain ⟨⟨a1, a2, a3, a4, a5, a6⟩, ⟨b1, b2, b3, b4⟩, c3, d, e, kk, f⟩ := c
  obtain ⟨o1, o2, o3, o4⟩ := ob
  have hN : 8 ≤ 8 := by have := w.1.1.2; have := w.2.1; omega
  cases hx : st_ix (8) k with
  | none =>
    have hne := st_ix_none hx
    simp only [j_X6_scriptAt_0, j_X6_scriptAt_1, j_X6_scriptAt_4, j_X6_scriptAt_5, j_X6_scriptAt_6, j_X6_scriptAt_9, j_X6_scriptAt_10, j_X6_scriptAt_13, j_X6_scriptAt_14, j_X6_scriptAt_17, j_X6_scriptAt_18, j_X6_scriptAt_19, j_X6_scriptAt_22, j_X6_scriptAt_23, en_c2I, en_c2R, en_c2U, en_c2D, Option.some.injEq, exists_eq_left', exists_eq_left, Option.map_some, Option.map_none, not_true_eq_false, false_implies, true_implies, and_true, true_and, reduceCtorEq, not_false_eq_true, a1, a2, a3, a4, b1, b2, b3, o1, o2, Option.isSome_some, Option.getD_some, Prod.mk.injEq]
    exact ⟨fun h1 => trivial, fun h1 => ⟨fun h2 => trivial, fun h2 => absurd ⟨Int32.not_lt.mp h1, Int32.not_le.mp h2⟩ hne⟩⟩
  | some j =>
    obtain ⟨hj, rfl⟩ := st_ix_some (by omega) hx
    have n0 : ¬ nI j < 0 := nI_pos (by omega)
    have n1 : ¬ nI (8) ≤ nI j := nI_ge hj (by omega)
    have n2 : ¬ nI 8 ≤ nI j := nI_ge (by omega) (by decide)
    have n3 : vp_in (nI j) 8 := vp_in_nI (by omega) (by decide)
    have n4 : (nI j).toNatClampNeg = j := nI_clamp (by omega)
    have n5 := (d j hj).1
    simp only [j_X6_scriptAt_0, j_X6_scriptAt_1, j_X6_scriptAt_4, j_X6_scriptAt_5, j_X6_scriptAt_6, j_X6_scriptAt_9, j_X6_scriptAt_10, j_X6_scriptAt_13, j_X6_scriptAt_14, j_X6_scriptAt_17, j_X6_scriptAt_18, j_X6_scriptAt_19, j_X6_scriptAt_22, j_X6_scriptAt_23, en_c2I, en_c2R, en_c2U, en_c2D, Option.some.injEq, exists_eq_left', exists_eq_left, Option.map_some, Option.map_none, not_true_eq_false, false_implies, true_implies, and_true, true_and, reduceCtorEq, not_false_eq_true, a1, a2, a3, a4, b1, b2, b3, o1, o2, Option.isSome_some, Option.getD_some, Prod.mk.injEq, n0, n1, n2, n3, n4, n5]
    exact ⟨_, _, ⟨rfl, rfl⟩, by decide, n3⟩
theorem jp_X6_scriptAt {G : en_G}  : ∀ as σ, (C_X6_scriptAt G).1 as σ → (en_lc as).length ≤ 2 ∧ en_J (X_X6_scriptAt G (fun r σ' => (C_X6_scriptAt G).2 as σ r σ')) 0 (en_loc 2 as) [] σ := en_ghJ (fun g as σ h => by
  obtain ⟨hp, h2⟩ := h
  subst h2
  exact ⟨Nat.le_of_ble_eq_true rfl, jl_X6_scriptAt hp⟩)
theorem ok_X6_scriptAt {G : en_G}  : en_Ok G 1 yX6_scriptAt cX6_scriptAt 2 (some (.object "NodeStage$Script")) (C_X6_scriptAt G) :=
  en_met (own := RX6) (fl := en_lk fl6) (nw := en_lk nw6) (aw := en_lk aw6) (dc := en_lk dc6) (ca := en_lk (ca_X6_scriptAt G)) (rt := 3) (ini := false) (by decide +kernel) (Or.inr (Or.inr (Or.inr (Or.inl ⟨rfl, _, rfl⟩)))) (fun h => by cases h) rfl (fun q => en_LkF fl6_ok nw6_ok aw6_ok dc6_ok) (fun idx q hq => by cases hq) jp_X6_scriptAt
