/-! THE ENGINE, part 1: abstract values, the abstract store, what it says of the heap -/
abbrev en_V : Type := Option (Int32 ⊕ (Option Nat) ⊕ UInt64 ⊕ Int64)
def en_I (x : Int32) : en_V := some (.inl x)
def en_R (o : Option Nat) : en_V := some (.inr (.inl o))
def en_D (x : UInt64) : en_V := some (.inr (.inr (.inl x)))
def en_L (x : Int64) : en_V := some (.inr (.inr (.inr x)))
def en_U : en_V := none
def en_vv : en_V → Value
  | some (.inl x) => .int x
  | some (.inr (.inl o)) => va_rf o
  | some (.inr (.inr (.inl x))) => .double x
  | some (.inr (.inr (.inr x))) => .long x
  | none => .null
def en_cat : en_V → Nat
  | some (.inr (.inr _)) => 2
  | _ => 1
theorem en_rf_cat (o : Option Nat) : (va_rf o).category = 1 := by cases o <;> rfl
theorem en_cat_vv (v : en_V) : (en_vv v).category = en_cat v := by
  rcases v with _ | (x | o | x | x)
  · rfl
  · rfl
  · exact en_rf_cat o
  · rfl
  · rfl
/-- classes of objects; int, reference, double fields; arrays (kind, length); their ints, references, doubles, longs; the next address; the slots in use -/
abbrev en_S : Type := (Nat → Option Nat) × (Nat → Nat → Int32) × (Nat → Nat → Option Nat) × (Nat → Nat → UInt64) × (Nat → Option (Nat × Nat)) × (Nat → Nat → Int32) × (Nat → Nat → Option Nat) × (Nat → Nat → UInt64) × (Nat → Nat → Int64) × Nat × Nat
def en_cl (σ : en_S) : Nat → Option Nat := σ.1
def en_fi (σ : en_S) : Nat → Nat → Int32 := σ.2.1
def en_fr (σ : en_S) : Nat → Nat → Option Nat := σ.2.2.1
def en_fd (σ : en_S) : Nat → Nat → UInt64 := σ.2.2.2.1
def en_al (σ : en_S) : Nat → Option (Nat × Nat) := σ.2.2.2.2.1
def en_ai (σ : en_S) : Nat → Nat → Int32 := σ.2.2.2.2.2.1
def en_ar (σ : en_S) : Nat → Nat → Option Nat := σ.2.2.2.2.2.2.1
def en_ad (σ : en_S) : Nat → Nat → UInt64 := σ.2.2.2.2.2.2.2.1
def en_aj (σ : en_S) : Nat → Nat → Int64 := σ.2.2.2.2.2.2.2.2.1
def en_nx (σ : en_S) : Nat := σ.2.2.2.2.2.2.2.2.2.1
def en_ns (σ : en_S) : Nat := σ.2.2.2.2.2.2.2.2.2.2
def en_sfi (σ : en_S) (f a : Nat) (v : Int32) : en_S := (σ.1, fun g b => if g = f ∧ b = a then v else σ.2.1 g b, σ.2.2)
def en_sfr (σ : en_S) (f a : Nat) (v : Option Nat) : en_S := (σ.1, σ.2.1, fun g b => if g = f ∧ b = a then v else σ.2.2.1 g b, σ.2.2.2)
def en_sfd (σ : en_S) (f a : Nat) (v : UInt64) : en_S := (σ.1, σ.2.1, σ.2.2.1, fun g b => if g = f ∧ b = a then v else σ.2.2.2.1 g b, σ.2.2.2.2)
def en_sai (σ : en_S) (a j : Nat) (v : Int32) : en_S := (σ.1, σ.2.1, σ.2.2.1, σ.2.2.2.1, σ.2.2.2.2.1, fun b i => if b = a ∧ i = j then v else σ.2.2.2.2.2.1 b i, σ.2.2.2.2.2.2)
def en_sar (σ : en_S) (a j : Nat) (v : Option Nat) : en_S := (σ.1, σ.2.1, σ.2.2.1, σ.2.2.2.1, σ.2.2.2.2.1, σ.2.2.2.2.2.1, fun b i => if b = a ∧ i = j then v else σ.2.2.2.2.2.2.1 b i, σ.2.2.2.2.2.2.2)
def en_sad (σ : en_S) (a j : Nat) (v : UInt64) : en_S := (σ.1, σ.2.1, σ.2.2.1, σ.2.2.2.1, σ.2.2.2.2.1, σ.2.2.2.2.2.1, σ.2.2.2.2.2.2.1, fun b i => if b = a ∧ i = j then v else σ.2.2.2.2.2.2.2.1 b i, σ.2.2.2.2.2.2.2.2)
def en_saj (σ : en_S) (a j : Nat) (v : Int64) : en_S := (σ.1, σ.2.1, σ.2.2.1, σ.2.2.2.1, σ.2.2.2.2.1, σ.2.2.2.2.2.1, σ.2.2.2.2.2.2.1, σ.2.2.2.2.2.2.2.1, fun b i => if b = a ∧ i = j then v else σ.2.2.2.2.2.2.2.2.1 b i, σ.2.2.2.2.2.2.2.2.2)
def en_new (σ : en_S) (ci n : Nat) : en_S := (fun b => if b = en_nx σ then some ci else σ.1 b, fun g b => if b = en_nx σ then 0 else σ.2.1 g b, fun g b => if b = en_nx σ then none else σ.2.2.1 g b, fun g b => if b = en_nx σ then 0 else σ.2.2.2.1 g b, σ.2.2.2.2.1, σ.2.2.2.2.2.1, σ.2.2.2.2.2.2.1, σ.2.2.2.2.2.2.2.1, σ.2.2.2.2.2.2.2.2.1, en_nx σ + 1, en_ns σ + n)
def en_newa (σ : en_S) (t n : Nat) : en_S := (σ.1, σ.2.1, σ.2.2.1, σ.2.2.2.1, fun b => if b = en_nx σ then some (t, n) else σ.2.2.2.2.1 b, fun b i => if b = en_nx σ then 0 else σ.2.2.2.2.2.1 b i, fun b i => if b = en_nx σ then none else σ.2.2.2.2.2.2.1 b i, fun b i => if b = en_nx σ then 0 else σ.2.2.2.2.2.2.2.1 b i, fun b i => if b = en_nx σ then 0 else σ.2.2.2.2.2.2.2.2.1 b i, en_nx σ + 1, en_ns σ + n)
/-- a cell more of which nothing is said -/
def en_bump (σ : en_S) (n : Nat) : en_S := (σ.1, σ.2.1, σ.2.2.1, σ.2.2.2.1, σ.2.2.2.2.1, σ.2.2.2.2.2.1, σ.2.2.2.2.2.2.1, σ.2.2.2.2.2.2.2.1, σ.2.2.2.2.2.2.2.2.1, en_nx σ + 1, en_ns σ + n)
/-- a field's number is 100 times its class's, and its place there -/
def en_T (f : Nat) : String × String × String × Bool := match f / 100 with
  | 0 => TX0 (f % 100)
  | 1 => TX1 (f % 100)
  | 2 => TX2 (f % 100)
  | 3 => TX3 (f % 100)
  | 4 => TX4 (f % 100)
  | 5 => TX5 (f % 100)
  | 6 => TX6 (f % 100)
  | _ => TX7 (f % 100)
def en_ty (f : Nat) : FieldType := match f / 100 with
  | 0 => tyX0 (f % 100)
  | 1 => tyX1 (f % 100)
  | 2 => tyX2 (f % 100)
  | 3 => tyX3 (f % 100)
  | 4 => tyX4 (f % 100)
  | 5 => tyX5 (f % 100)
  | 6 => tyX6 (f % 100)
  | _ => tyX7 (f % 100)
def en_fld (σ : en_S) (f a : Nat) : en_V := match en_ty f with
  | .int => en_I (en_fi σ f a)
  | .boolean => en_I (en_fi σ f a)
  | .double => en_D (en_fd σ f a)
  | _ => en_R (en_fr σ f a)
def en_sf (σ : en_S) (f a : Nat) : en_V → en_S
  | some (.inl x) => en_sfi σ f a x
  | some (.inr (.inl o)) => en_sfr σ f a o
  | some (.inr (.inr (.inl x))) => en_sfd σ f a x
  | _ => σ
/-- array kinds: 0 int, 1 boolean, 2 double, 3 long, 4 Node, 5 Listener, 6 Script, 7 Event -/
def en_at (t : Nat) : FieldType := match t with
  | 0 => .int
  | 1 => .boolean
  | 2 => .double
  | 3 => .long
  | 4 => .object RX4
  | 5 => .object RX3
  | 6 => .object RX5
  | _ => .object RX2
/-- the class of the elements -/
def en_ec (t : Nat) : Nat := match t with
  | 4 => 4
  | 5 => 3
  | 6 => 5
  | _ => 2
def en_el (σ : en_S) (t a j : Nat) : en_V := match t with
  | 0 => en_I (en_ai σ a j)
  | 1 => en_I (en_ai σ a j)
  | 2 => en_D (en_ad σ a j)
  | 3 => en_L (en_aj σ a j)
  | _ => en_R (en_ar σ a j)
def en_se (σ : en_S) (a j : Nat) : en_V → en_S
  | some (.inl x) => en_sai σ a j x
  | some (.inr (.inl o)) => en_sar σ a j o
  | some (.inr (.inr (.inl x))) => en_sad σ a j x
  | some (.inr (.inr (.inr x))) => en_saj σ a j x
  | none => σ
/-- all slots of a heap -/
def en_hs (H : Heap) : Nat := H.foldl (fun n c => n + c.slots.size) 0
theorem en_foldl (l : List Cell) : ∀ k : Nat, l.foldl (fun n c => n + c.slots.size) k = k + (l.map (fun c => c.slots.size)).sum := by
  induction l with
  | nil => intro k; simp
  | cons a l ih => intro k; simp [ih]; omega
theorem en_hs_list (H : Heap) : en_hs H = (H.toList.map (fun c => c.slots.size)).sum := by
  unfold en_hs
  rw [← Array.foldl_toList, en_foldl]
  omega
theorem en_hs_push (H : Heap) (c : Cell) : en_hs (H.push c) = en_hs H + c.slots.size := by
  rw [en_hs_list, en_hs_list]
  simp
theorem en_hs_same {H H1 : Heap} (h : ∀ q : Nat, (H1[q]?).map (fun c => c.slots.size) = (H[q]?).map (fun c => c.slots.size)) : en_hs H1 = en_hs H := by
  rw [en_hs_list, en_hs_list]
  congr 1
  apply List.ext_getElem?
  intro q
  rw [List.getElem?_map, List.getElem?_map, Array.getElem?_toList, Array.getElem?_toList]
  exact h q
theorem en_hs_set {H H1 : Heap} {a : Nat} {cell cell1 : Cell} (h0 : H[a]? = some cell) (h1 : H1[a]? = some cell1) (hs : cell1.slots.size = cell.slots.size) (ho : ∀ q : Nat, q ≠ a → H1[q]? = H[q]?) : en_hs H1 = en_hs H := by
  refine en_hs_same (fun q => ?_)
  by_cases hq : q = a
  · subst hq; rw [h0, h1]; simp [hs]
  · rw [ho q hq]
theorem en_setSlot_size (cell : Cell) (i : Nat) (v : Value) : (cell.setSlot i v).slots.size = cell.slots.size := by simp [Cell.setSlot]
/-- the heap holds what the store says; all but what is below 'base' -/
def en_H (D : va_G) (dA : Nat → ClassId) (base : Nat) (σ : en_S) (H : Heap) : Prop :=
  (∀ a ci : Nat, en_cl σ a = some ci → base ≤ a ∧ en_al σ a = none ∧ ∃ r : vw_C, vwCl[ci]? = some r ∧ t_OB a (D.1 ci) r.2.2 (D.2 ci) H (fun k => en_vv (en_fld σ (100 * ci + k) a))) ∧
  (∀ a t n : Nat, en_al σ a = some (t, n) → base ≤ a ∧ t < 8 ∧ n < 2 ^ 31 ∧ H[a]? = some (arrV (dA t) n (fun j => en_vv (en_el σ t a j)))) ∧
  H.size = en_nx σ ∧ en_hs H = en_ns σ ∧ base ≤ H.size
/-- the private constructors that a nest mate calls -/
def en_nest : List Cond := [.methodLinkNest RX6 35 yX1_init RX6, .methodLinkNest RX6 47 yX5_init RX6, .methodLinkNest RX6 48 yX2_init RX6, .methodLinkNest RX6 152 yX0_init RX6]
/-- what the tables say -/
def en_K (D : va_G) (dA : Nat → ClassId) (U : State) : Prop :=
  (∀ (c : Nat) (q : vw_C), vwCl[c]? = some q → u_Kn U q.1 q.2.1 q.2.2 (D.1 c) (D.2 c)) ∧ (∀ t : Nat, t < 8 → ArrOfT U (dA t) (en_at t) ∧ va_RA U (dA t) (en_at t)) ∧
  va_AO RX4 U ∧ va_AO RX3 U ∧ va_AO RX5 U ∧ va_AO RX2 U ∧
  ∀ w ∈ en_nest, va_Nw w U
