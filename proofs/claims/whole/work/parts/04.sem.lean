/-! THE ENGINE, part 2: what an instruction asks and where it goes; the judgement; its unfolding -/
/-- a method's contract: what it asks of arguments and store; what holds of its answer and the store behind it -/
abbrev en_C : Type := (List en_V → en_S → Prop) × (List en_V → en_S → Option en_V → en_S → Prop)
/-- code; fields, classes made (number, slots), array kinds made, doubles, calls (operands taken, contract) by pool index; the script; throws by pc; limits; the kind of its answer (0 void, 1 int, 2 boolean, 3 reference, 4 double); is it a constructor; what it owes at its return, at a throw -/
abbrev en_X : Type := ByteArray × (Nat → Option Nat) × (Nat → Option (Nat × Nat)) × (Nat → Option Nat) × (Nat → Option UInt64) × (Nat → Option (Nat × en_C)) × Option (Nat × Nat × (Nat → Int32)) × (Nat → Option String) × (Nat × Nat) × Nat × Bool × (Option en_V → en_S → Prop) × (String → en_S → Prop)
def en_cc (X : en_X) : ByteArray := X.1
def en_xf (X : en_X) : Nat → Option Nat := X.2.1
def en_xn (X : en_X) : Nat → Option (Nat × Nat) := X.2.2.1
def en_xa (X : en_X) : Nat → Option Nat := X.2.2.2.1
def en_xd (X : en_X) : Nat → Option UInt64 := X.2.2.2.2.1
def en_xc (X : en_X) : Nat → Option (Nat × en_C) := X.2.2.2.2.2.1
def en_xs (X : en_X) : Option (Nat × Nat × (Nat → Int32)) := X.2.2.2.2.2.2.1
def en_xt (X : en_X) : Nat → Option String := X.2.2.2.2.2.2.2.1
def en_xl (X : en_X) : Nat := X.2.2.2.2.2.2.2.2.1.1
def en_sl (X : en_X) : Nat := X.2.2.2.2.2.2.2.2.1.2
def en_rt (X : en_X) : Nat := X.2.2.2.2.2.2.2.2.2.1
def en_ini (X : en_X) : Bool := X.2.2.2.2.2.2.2.2.2.2.1
def en_q (X : en_X) : Option en_V → en_S → Prop := X.2.2.2.2.2.2.2.2.2.2.2.1
def en_qx (X : en_X) : String → en_S → Prop := X.2.2.2.2.2.2.2.2.2.2.2.2
abbrev en_Cf : Type := Nat × List en_V × List en_V × en_S
abbrev en_O : Type := Prop × (en_Cf → Prop)
def en_no : en_O := (False, fun _ => False)
def en_wt (st : List en_V) : Nat := (st.map en_cat).sum
/-- storing into a local variable -/
def en_c2 : en_V → en_V
  | some (.inr (.inr _)) => none
  | v => v
def en_mod : List en_V → Nat → List en_V
  | [], _ => []
  | v :: vs, 0 => en_c2 v :: vs
  | v :: vs, k + 1 => v :: en_mod vs k
def en_clr (ls : List en_V) (i : Nat) : List en_V := match i with
  | 0 => ls
  | k + 1 => en_mod ls k
def en_st1 (ls : List en_V) (i : Nat) (v : en_V) : List en_V := (en_clr ls i).set i v
def en_st2 (ls : List en_V) (i : Nat) (v : en_V) : List en_V := ((en_clr ls i).set i v).set (i + 1) none
def en_ldI (ls : List en_V) (k n m : Nat) (pc : Nat) (st : List en_V) (σ : en_S) : en_O := match ls[k]? with
  | some (some (.inl x)) => (n = m, fun d => d = (pc + m, ls, en_I x :: st, σ))
  | _ => en_no
def en_ldR (ls : List en_V) (k n m : Nat) (pc : Nat) (st : List en_V) (σ : en_S) : en_O := match ls[k]? with
  | some (some (.inr (.inl x))) => (n = m, fun d => d = (pc + m, ls, en_R x :: st, σ))
  | _ => en_no
def en_ldD (ls : List en_V) (k n m : Nat) (pc : Nat) (st : List en_V) (σ : en_S) : en_O := match ls[k]? with
  | some (some (.inr (.inr (.inl x)))) => (n = m, fun d => d = (pc + m, ls, en_D x :: st, σ))
  | _ => en_no
def en_stI (ls : List en_V) (k n m : Nat) (pc : Nat) (st : List en_V) (σ : en_S) : en_O := match st with
  | some (.inl x) :: r => (n = m ∧ k < ls.length, fun d => d = (pc + m, en_st1 ls k (en_I x), r, σ))
  | _ => en_no
def en_stR (ls : List en_V) (k n m : Nat) (pc : Nat) (st : List en_V) (σ : en_S) : en_O := match st with
  | some (.inr (.inl x)) :: r => (n = m ∧ k < ls.length, fun d => d = (pc + m, en_st1 ls k (en_R x), r, σ))
  | _ => en_no
def en_stD (ls : List en_V) (k n m : Nat) (pc : Nat) (st : List en_V) (σ : en_S) : en_O := match st with
  | some (.inr (.inr (.inl x))) :: r => (n = m ∧ k + 1 < ls.length, fun d => d = (pc + m, en_st2 ls k (en_D x), r, σ))
  | _ => en_no
def en_bin (st : List en_V) (n pc : Nat) (ls : List en_V) (σ : en_S) (ok : Int32 → Int32 → Prop) (f : Int32 → Int32 → Int32) : en_O := match st with
  | some (.inl y) :: some (.inl x) :: r => (n = 1 ∧ ok x y, fun d => d = (pc + 1, ls, en_I (f x y) :: r, σ))
  | _ => en_no
def en_dbin (st : List en_V) (n pc : Nat) (ls : List en_V) (σ : en_S) (f : UInt64 → UInt64 → UInt64) : en_O := match st with
  | some (.inr (.inr (.inl y))) :: some (.inr (.inr (.inl x))) :: r => (n = 1 ∧ vf_n64 (f x y), fun d => d = (pc + 1, ls, en_D (f x y) :: r, σ))
  | _ => en_no
def en_br (b : Prop) (n pc : Nat) (off : Int) (ls r : List en_V) (σ : en_S) : en_O :=
  (n = 3 ∧ 0 ≤ (pc : Int) + off, fun d => (b ∧ d = (((pc : Int) + off).toNat, ls, r, σ)) ∨ (¬ b ∧ d = (pc + 3, ls, r, σ)))
def en_icond (c : ClassFile.Cond) (x y : Int32) : Prop := match c with
  | .eq => x = y
  | .ne => ¬ x = y
  | .lt => x < y
  | .ge => y ≤ x
  | .gt => y < x
  | .le => x ≤ y
def en_tsw (pc : Nat) (dflt lo hi : Int) (offs : Array Int) (x : Int32) : Int := if x.toInt < lo ∨ hi < x.toInt then (pc : Int) + dflt else match offs[(x.toInt - lo).toNat]? with
  | some off => (pc : Int) + off
  | none => -1
def en_ald (st : List en_V) (n pc : Nat) (ls : List en_V) (σ : en_S) (t : Nat) : en_O := match st with
  | some (.inl j) :: some (.inr (.inl (some a))) :: r => (n = 1 ∧ ∃ m : Nat, en_al σ a = some (t, m) ∧ vp_in j m, fun d => d = (pc + 1, ls, en_el σ t a j.toNatClampNeg :: r, σ))
  | _ => en_no
def en_ildX (xs : Option (Nat × Nat × (Nat → Int32))) (st : List en_V) (n pc : Nat) (ls : List en_V) (σ : en_S) : en_O := match xs with
  | none => en_ald st n pc ls σ 0
  | some q => match st with
    | some (.inl j) :: some (.inr (.inl (some a))) :: r => (n = 1 ∧ a = q.1 ∧ vp_in j q.2.1, fun d => d = (pc + 1, ls, en_I (q.2.2 j.toNatClampNeg) :: r, σ))
    | _ => en_no
def en_alenX (xs : Option (Nat × Nat × (Nat → Int32))) (st : List en_V) (n pc : Nat) (ls : List en_V) (σ : en_S) : en_O := match st with
  | some (.inr (.inl (some a))) :: r => (match xs with
    | none => (n = 1 ∧ (en_al σ a).isSome = true, fun d => d = (pc + 1, ls, en_I (nI ((en_al σ a).getD (0, 0)).2) :: r, σ))
    | some q => (n = 1 ∧ a = q.1, fun d => d = (pc + 1, ls, en_I (nI q.2.1) :: r, σ)))
  | _ => en_no
/-- what may be stored in an array of a kind -/
def en_afit (σ : en_S) (t : Nat) (v : en_V) : Prop := match t, v with
  | 0, some (.inl _) => True
  | 1, some (.inl x) => x = 0 ∨ x = 1
  | 2, some (.inr (.inr (.inl _))) => True
  | 3, some (.inr (.inr (.inr _))) => True
  | _, some (.inr (.inl o)) => 4 ≤ t ∧ (∀ b, o = some b → en_cl σ b = some (en_ec t))
  | _, _ => False
def en_ast (st : List en_V) (n pc : Nat) (ls : List en_V) (σ : en_S) (tk : Nat → Prop) : en_O := match st with
  | v :: some (.inl j) :: some (.inr (.inl (some a))) :: r => (n = 1 ∧ ∃ t m : Nat, en_al σ a = some (t, m) ∧ tk t ∧ vp_in j m ∧ en_afit σ t v, fun d => d = (pc + 1, ls, r, en_se σ a j.toNatClampNeg v))
  | _ => en_no
/-- what may be stored in a field -/
def en_fit (ini : Bool) (f : Nat) (v : en_V) : Prop := (match en_ty f, v with
  | .int, some (.inl _) => True
  | .boolean, some (.inl x) => x = 0 ∨ x = 1
  | .double, some (.inr (.inr (.inl _))) => True
  | .object _, some (.inr (.inl _)) => True
  | .array _, some (.inr (.inl _)) => True
  | _, _ => False) ∧ ((en_T f).2.2.2 = true → ini = true)
def en_new1 (st : List en_V) (n pc m : Nat) (ls : List en_V) (σ : en_S) (X : en_X) (t : Nat) : en_O := match st with
  | some (.inl x) :: r => (n = m ∧ ¬ x < 0 ∧ x.toNatClampNeg ≤ 1000 ∧ en_nx σ + 1 ≤ en_xl X ∧ en_ns σ + x.toNatClampNeg ≤ en_sl X, fun d => d = (pc + m, ls, en_R (some (en_nx σ)) :: r, en_newa σ t x.toNatClampNeg))
  | _ => en_no
/-- a call: q.1 is four times the number of operands taken, and the kind: 0 static, 1 virtual, 2 special -/
def en_call (X : en_X) (k idx n pc : Nat) (ls st : List en_V) (σ : en_S) : en_O := match en_xc X idx with
  | some q => (n = 3 ∧ q.1 % 4 = k ∧ q.1 / 4 ≤ st.length ∧ en_wt (st.drop (q.1 / 4)) ≤ 8 ∧ q.2.1 (st.take (q.1 / 4)).reverse σ, fun d => ∃ (r : Option en_V) (σ' : en_S), q.2.2 (st.take (q.1 / 4)).reverse σ r σ' ∧ d = (pc + 3, ls, r.toList ++ st.drop (q.1 / 4), σ'))
  | none => en_no
def en_sem (X : en_X) (i : Instr) (n pc : Nat) (ls st : List en_V) (σ : en_S) : en_O := match i with
  | .aload k => en_ldR ls k n 2 pc st σ
  | .aload_n k => en_ldR ls k.val n 1 pc st σ
  | .iload k => en_ldI ls k n 2 pc st σ
  | .iload_n k => en_ldI ls k.val n 1 pc st σ
  | .dload k => en_ldD ls k n 2 pc st σ
  | .dload_n k => en_ldD ls k.val n 1 pc st σ
  | .astore k => en_stR ls k n 2 pc st σ
  | .astore_n k => en_stR ls k.val n 1 pc st σ
  | .istore k => en_stI ls k n 2 pc st σ
  | .istore_n k => en_stI ls k.val n 1 pc st σ
  | .dstore k => en_stD ls k n 2 pc st σ
  | .dstore_n k => en_stD ls k.val n 1 pc st σ
  | .iconst v => (n = 1, fun d => d = (pc + 1, ls, en_I (Int32.ofInt v) :: st, σ))
  | .bipush v => (n = 2, fun d => d = (pc + 2, ls, en_I (Int8.ofInt v).toInt32 :: st, σ))
  | .sipush v => (n = 3, fun d => d = (pc + 3, ls, en_I (Int16.ofInt v).toInt32 :: st, σ))
  | .aconst_null => (n = 1, fun d => d = (pc + 1, ls, en_R none :: st, σ))
  | .dconst k => (n = 1, fun d => d = (pc + 1, ls, en_D (if k = 0 then FP.dconst0 else FP.dconst1) :: st, σ))
  | .lconst k => (n = 1, fun d => d = (pc + 1, ls, en_L (Int64.ofNat k.val) :: st, σ))
  | .ldc2_w idx => match en_xd X idx with
    | some v => (n = 3, fun d => d = (pc + 3, ls, en_D v :: st, σ))
    | none => en_no
  | .iinc k c => match ls[k]? with
    | some (some (.inl x)) => (n = 3, fun d => d = (pc + 3, en_st1 ls k (en_I (x + Int32.ofInt c)), st, σ))
    | _ => en_no
  | .iadd => en_bin st n pc ls σ (fun _ _ => True) (fun x y => x + y)
  | .isub => en_bin st n pc ls σ (fun _ _ => True) (fun x y => x - y)
  | .imul => en_bin st n pc ls σ (fun _ _ => True) (fun x y => x * y)
  | .iand => en_bin st n pc ls σ (fun _ _ => True) (fun x y => x &&& y)
  | .ixor => en_bin st n pc ls σ (fun _ _ => True) (fun x y => x ^^^ y)
  | .idiv => en_bin st n pc ls σ (fun _ y => ¬ y = 0) (fun x y => x / y)
  | .irem => en_bin st n pc ls σ (fun _ y => ¬ y = 0) (fun x y => x - x / y * y)
  | .dadd => en_dbin st n pc ls σ FP.dadd
  | .dmul => en_dbin st n pc ls σ FP.dmul
  | .dcmp op => match st with
    | some (.inr (.inr (.inl y))) :: some (.inr (.inr (.inl x))) :: r => (n = 1, fun d => d = (pc + 1, ls, en_I (Op.cmpValue (FP.dcmp x y) op) :: r, σ))
    | _ => en_no
  | .lcmp => match st with
    | some (.inr (.inr (.inr y))) :: some (.inr (.inr (.inr x))) :: r => (n = 1, fun d => d = (pc + 1, ls, en_I (lg_cmp x y) :: r, σ))
    | _ => en_no
  | .i2d => match st with
    | some (.inl x) :: r => (n = 1, fun d => d = (pc + 1, ls, en_D (FP.i2d x) :: r, σ))
    | _ => en_no
  | .dup => match st with
    | some (.inl x) :: r => (n = 1, fun d => d = (pc + 1, ls, en_I x :: en_I x :: r, σ))
    | some (.inr (.inl o)) :: r => (n = 1, fun d => d = (pc + 1, ls, en_R o :: en_R o :: r, σ))
    | _ => en_no
  | .pop => match st with
    | some (.inl _) :: r => (n = 1, fun d => d = (pc + 1, ls, r, σ))
    | some (.inr (.inl _)) :: r => (n = 1, fun d => d = (pc + 1, ls, r, σ))
    | _ => en_no
  | .dup2 => match st with
    | some (.inl x) :: some (.inr (.inl o)) :: r => (n = 1, fun d => d = (pc + 1, ls, en_I x :: en_R o :: en_I x :: en_R o :: r, σ))
    | _ => en_no
  | .goto off => (n = 3 ∧ 0 ≤ (pc : Int) + off, fun d => d = (((pc : Int) + off).toNat, ls, st, σ))
  | .ifCond c off => match st with
    | some (.inl x) :: r => en_br (en_icond c x 0) n pc off ls r σ
    | _ => en_no
  | .if_icmp c off => match st with
    | some (.inl y) :: some (.inl x) :: r => en_br (en_icond c x y) n pc off ls r σ
    | _ => en_no
  | .if_acmp c off => match st with
    | some (.inr (.inl y)) :: some (.inr (.inl x)) :: r => en_br (match c with | .eq => x = y | .ne => ¬ x = y) n pc off ls r σ
    | _ => en_no
  | .ifnull off => match st with
    | some (.inr (.inl x)) :: r => en_br (x = none) n pc off ls r σ
    | _ => en_no
  | .ifnonnull off => match st with
    | some (.inr (.inl x)) :: r => en_br (¬ x = none) n pc off ls r σ
    | _ => en_no
  | .tableswitch dflt lo hi offs => match st with
    | some (.inl x) :: r => (0 ≤ en_tsw pc dflt lo hi offs x, fun d => d = ((en_tsw pc dflt lo hi offs x).toNat, ls, r, σ))
    | _ => en_no
  | .getfield idx => match st with
    | some (.inr (.inl (some a))) :: r => (match en_xf X idx with
      | some f => (n = 3 ∧ en_cl σ a = some (f / 100), fun d => d = (pc + 3, ls, en_fld σ f a :: r, σ))
      | none => en_no)
    | _ => en_no
  | .putfield idx => match st with
    | v :: some (.inr (.inl (some a))) :: r => (match en_xf X idx with
      | some f => (n = 3 ∧ en_cl σ a = some (f / 100) ∧ en_fit (en_ini X) f v, fun d => d = (pc + 3, ls, r, en_sf σ f a v))
      | none => en_no)
    | _ => en_no
  | .iaload => en_ildX (en_xs X) st n pc ls σ
  | .baload => en_ald st n pc ls σ 1
  | .daload => en_ald st n pc ls σ 2
  | .laload => en_ald st n pc ls σ 3
  | .aaload => match st with
    | some (.inl j) :: some (.inr (.inl (some a))) :: r => (n = 1 ∧ ∃ t m : Nat, en_al σ a = some (t, m) ∧ 4 ≤ t ∧ vp_in j m, fun d => d = (pc + 1, ls, en_R (en_ar σ a j.toNatClampNeg) :: r, σ))
    | _ => en_no
  | .iastore => en_ast st n pc ls σ (fun t => t = 0)
  | .bastore => en_ast st n pc ls σ (fun t => t = 1)
  | .dastore => en_ast st n pc ls σ (fun t => t = 2)
  | .lastore => en_ast st n pc ls σ (fun t => t = 3)
  | .aastore => en_ast st n pc ls σ (fun t => 4 ≤ t)
  | .arraylength => en_alenX (en_xs X) st n pc ls σ
  | .newarray .int => en_new1 st n pc 2 ls σ X 0
  | .newarray .boolean => en_new1 st n pc 2 ls σ X 1
  | .newarray .double => en_new1 st n pc 2 ls σ X 2
  | .newarray .long => en_new1 st n pc 2 ls σ X 3
  | .anewarray idx => match en_xa X idx with
    | some t => en_new1 st n pc 3 ls σ X t
    | none => en_no
  | .new idx => match en_xt X pc with
    | some E => (n = 3 ∧ en_nx σ + 1 ≤ en_xl X ∧ en_ns σ + 6 ≤ en_sl X ∧ st = [] ∧ en_qx X E σ, fun _ => False)
    | none => match en_xn X idx with
      | some q => (n = 3 ∧ en_nx σ + 1 ≤ en_xl X ∧ en_ns σ + q.2 ≤ en_sl X, fun d => d = (pc + 3, ls, en_R (some (en_nx σ)) :: st, en_new σ q.1 q.2))
      | none => en_no
  | .invokevirtual idx => en_call X 1 idx n pc ls st σ
  | .invokespecial idx => en_call X 2 idx n pc ls st σ
  | .invokestatic idx => en_call X 0 idx n pc ls st σ
  | .ireturn => match st with
    | [some (.inl x)] => (n = 1 ∧ (en_rt X = 1 ∨ (en_rt X = 2 ∧ (x = 0 ∨ x = 1))) ∧ en_q X (some (en_I x)) σ, fun _ => False)
    | _ => en_no
  | .areturn => match st with
    | [some (.inr (.inl o))] => (n = 1 ∧ en_rt X = 3 ∧ en_q X (some (en_R o)) σ, fun _ => False)
    | _ => en_no
  | .dreturn => match st with
    | [some (.inr (.inr (.inl x)))] => (n = 1 ∧ en_rt X = 4 ∧ en_q X (some (en_D x)) σ, fun _ => False)
    | _ => en_no
  | .return_ => match st with
    | [] => (n = 1 ∧ en_rt X = 0 ∧ en_q X none σ, fun _ => False)
    | _ => en_no
  | _ => en_no
def en_stp (X : en_X) (c : en_Cf) : en_O := match decode (en_cc X) c.1 with
  | .ok q => en_sem X q.1 q.2 c.1 c.2.1 c.2.2.1 c.2.2.2
  | .error _ => en_no
/-- from here the method comes to an end that it owes: the least judgement closed under the instructions -/
def en_J (X : en_X) (pc : Nat) (ls st : List en_V) (σ : en_S) : Prop := ∀ P : en_Cf → Prop, (∀ c, (en_stp X c).1 → (∀ d, (en_stp X c).2 d → P d) → P c) → P (pc, ls, st, σ)
def en_Jc (X : en_X) (c : en_Cf) : Prop := en_J X c.1 c.2.1 c.2.2.1 c.2.2.2
theorem en_fold {X : en_X} {c : en_Cf} (h : (en_stp X c).1) (k : ∀ d, (en_stp X c).2 d → en_Jc X d) : en_Jc X c := fun P hP => hP _ h (fun d hd => k d hd P hP)
theorem en_unf {X : en_X} {c : en_Cf} (h : en_Jc X c) : (en_stp X c).1 ∧ ∀ d, (en_stp X c).2 d → en_Jc X d :=
  h (fun c => (en_stp X c).1 ∧ ∀ d, (en_stp X c).2 d → en_Jc X d) (fun c h1 h2 => ⟨h1, fun d hd => en_fold (h2 d hd).1 (h2 d hd).2⟩)
theorem en_iff {X : en_X} {i : Instr} {n pc : Nat} {ls st : List en_V} {σ : en_S} (hd : decode (en_cc X) pc = .ok (i, n)) : en_J X pc ls st σ ↔ (en_sem X i n pc ls st σ).1 ∧ ∀ d, (en_sem X i n pc ls st σ).2 d → en_Jc X d := by
  have he : en_stp X (pc, ls, st, σ) = en_sem X i n pc ls st σ := by simp only [en_stp, hd]
  rw [← he]
  exact ⟨fun h => en_unf (c := (pc, ls, st, σ)) h, fun h => en_fold (c := (pc, ls, st, σ)) h.1 h.2⟩
section
variable {X : en_X} {i : Instr} {n pc : Nat} {ls st : List en_V} {σ : en_S}
/-- one way on, nothing asked -/
theorem en_j1 {pr : Prop} {pc' : Nat} {ls' st' : List en_V} {σ' : en_S} (hd : decode (en_cc X) pc = .ok (i, n)) (hs : en_sem X i n pc ls st σ = (pr, fun d => d = (pc', ls', st', σ'))) (hp : pr) : en_J X pc ls st σ ↔ en_J X pc' ls' st' σ' := by
  rw [en_iff hd, hs]
  exact ⟨fun h => h.2 _ rfl, fun h => ⟨hp, fun d hd => by rw [hd]; exact h⟩⟩
/-- one way on, something asked -/
theorem en_jc {pr pr' : Prop} {pc' : Nat} {ls' st' : List en_V} {σ' : en_S} (hd : decode (en_cc X) pc = .ok (i, n)) (hs : en_sem X i n pc ls st σ = (pr, fun d => d = (pc', ls', st', σ'))) (hp : pr ↔ pr') : en_J X pc ls st σ ↔ pr' ∧ en_J X pc' ls' st' σ' := by
  rw [en_iff hd, hs]
  exact ⟨fun h => ⟨hp.mp h.1, h.2 _ rfl⟩, fun h => ⟨hp.mpr h.1, fun d hd => by rw [hd]; exact h.2⟩⟩
/-- two ways -/
theorem en_jb {pr b : Prop} {c1 c2 : Nat} {ls' st' : List en_V} {σ' : en_S} (hd : decode (en_cc X) pc = .ok (i, n)) (hs : en_sem X i n pc ls st σ = (pr, fun d => (b ∧ d = (c1, ls', st', σ')) ∨ (¬ b ∧ d = (c2, ls', st', σ')))) (hp : pr) : en_J X pc ls st σ ↔ (b → en_J X c1 ls' st' σ') ∧ (¬ b → en_J X c2 ls' st' σ') := by
  rw [en_iff hd, hs]
  refine ⟨fun h => ⟨fun hb => h.2 _ (Or.inl ⟨hb, rfl⟩), fun hb => h.2 _ (Or.inr ⟨hb, rfl⟩)⟩, fun h => ⟨hp, fun d hd => ?_⟩⟩
  rcases hd with ⟨hb, rfl⟩ | ⟨hb, rfl⟩
  · exact h.1 hb
  · exact h.2 hb
/-- the end -/
theorem en_jr {pr pr' : Prop} (hd : decode (en_cc X) pc = .ok (i, n)) (hs : en_sem X i n pc ls st σ = (pr, fun _ => False)) (hp : pr ↔ pr') : en_J X pc ls st σ ↔ pr' := by
  rw [en_iff hd, hs]
  exact ⟨fun h => hp.mp h.1, fun h => ⟨hp.mpr h, fun d hd => hd.elim⟩⟩
/-- a call -/
theorem en_jk {pr pr' : Prop} {rel : Option en_V → en_S → Prop} {pc' : Nat} {ls' rest : List en_V} (hd : decode (en_cc X) pc = .ok (i, n)) (hs : en_sem X i n pc ls st σ = (pr, fun d => ∃ (r : Option en_V) (σ' : en_S), rel r σ' ∧ d = (pc', ls', r.toList ++ rest, σ'))) (hp : pr ↔ pr') : en_J X pc ls st σ ↔ pr' ∧ ∀ (r : Option en_V) (σ' : en_S), rel r σ' → en_J X pc' ls' (r.toList ++ rest) σ' := by
  rw [en_iff hd, hs]
  refine ⟨fun h => ⟨hp.mp h.1, fun r σ' hr => h.2 _ ⟨r, σ', hr, rfl⟩⟩, fun h => ⟨hp.mpr h.1, fun d hd => ?_⟩⟩
  obtain ⟨r, σ', hr, rfl⟩ := hd
  exact h.2 r σ' hr
end
