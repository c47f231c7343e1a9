/-! THE STATE: tree; ints, naturals, marks, boxes -/
abbrev st_B : Type := UInt64 × UInt64 × UInt64 × UInt64 × UInt64 × Int32
abbrev st_A : Type := tr_T × (Nat → Nat → Int32) × (Nat → Nat → Nat) × (Nat → Nat → Bool) × (Nat → Option st_B)
/-- I: 0 listeners' types, 1 scripts' numbers, 2 the log's row, 3 errors. D: 0 (0 listeners, 1 calls, 2 calls left), 1 listeners' nodes, 2 their scripts, 3 their options, 4 scripts' lengths, 5 scripts' commands. K: 0 marks, 1 removed -/
def sa_T (A : st_A) : tr_T := A.1
def sa_I (A : st_A) : Nat → Nat → Int32 := A.2.1
def sa_D (A : st_A) : Nat → Nat → Nat := A.2.2.1
def sa_K (A : st_A) : Nat → Nat → Bool := A.2.2.2.1
def sa_B (A : st_A) : Nat → Option st_B := A.2.2.2.2
def su_T (A : st_A) (T : tr_T) : st_A := (T, A.2)
def su_I (A : st_A) (f k : Nat) (v : Int32) : st_A := (A.1, fun g j => if g = f ∧ j = k then v else A.2.1 g j, A.2.2)
def su_D (A : st_A) (f k : Nat) (v : Nat) : st_A := (A.1, A.2.1, fun g j => if g = f ∧ j = k then v else A.2.2.1 g j, A.2.2.2)
def su_K (A : st_A) (f k : Nat) (v : Bool) : st_A := (A.1, A.2.1, A.2.2.1, fun g j => if g = f ∧ j = k then v else A.2.2.2.1 g j, A.2.2.2.2)
def su_B (A : st_A) (k : Nat) (v : Option st_B) : st_A := (A.1, A.2.1, A.2.2.1, A.2.2.2.1, fun j => if j = k then v else A.2.2.2.2 j)
theorem sa_T_T (A : st_A) (T : tr_T) : sa_T (su_T A T) = T := rfl
theorem sa_T_I (A : st_A) (f k : Nat) (v : Int32) : sa_T (su_I A f k v) = sa_T A := rfl
theorem sa_T_D (A : st_A) (f k : Nat) (v : Nat) : sa_T (su_D A f k v) = sa_T A := rfl
theorem sa_T_K (A : st_A) (f k : Nat) (v : Bool) : sa_T (su_K A f k v) = sa_T A := rfl
theorem sa_T_B (A : st_A) (k : Nat) (v : Option st_B) : sa_T (su_B A k v) = sa_T A := rfl
theorem sa_I_T (A : st_A) (T : tr_T) : sa_I (su_T A T) = sa_I A := rfl
theorem sa_I_I (A : st_A) (f k : Nat) (v : Int32) (g j : Nat) : sa_I (su_I A f k v) g j = if g = f ∧ j = k then v else sa_I A g j := rfl
theorem sa_I_D (A : st_A) (f k : Nat) (v : Nat) : sa_I (su_D A f k v) = sa_I A := rfl
theorem sa_I_K (A : st_A) (f k : Nat) (v : Bool) : sa_I (su_K A f k v) = sa_I A := rfl
theorem sa_I_B (A : st_A) (k : Nat) (v : Option st_B) : sa_I (su_B A k v) = sa_I A := rfl
theorem sa_D_T (A : st_A) (T : tr_T) : sa_D (su_T A T) = sa_D A := rfl
theorem sa_D_I (A : st_A) (f k : Nat) (v : Int32) : sa_D (su_I A f k v) = sa_D A := rfl
theorem sa_D_D (A : st_A) (f k : Nat) (v : Nat) (g j : Nat) : sa_D (su_D A f k v) g j = if g = f ∧ j = k then v else sa_D A g j := rfl
theorem sa_D_K (A : st_A) (f k : Nat) (v : Bool) : sa_D (su_K A f k v) = sa_D A := rfl
theorem sa_D_B (A : st_A) (k : Nat) (v : Option st_B) : sa_D (su_B A k v) = sa_D A := rfl
theorem sa_K_T (A : st_A) (T : tr_T) : sa_K (su_T A T) = sa_K A := rfl
theorem sa_K_I (A : st_A) (f k : Nat) (v : Int32) : sa_K (su_I A f k v) = sa_K A := rfl
theorem sa_K_D (A : st_A) (f k : Nat) (v : Nat) : sa_K (su_D A f k v) = sa_K A := rfl
theorem sa_K_K (A : st_A) (f k : Nat) (v : Bool) (g j : Nat) : sa_K (su_K A f k v) g j = if g = f ∧ j = k then v else sa_K A g j := rfl
theorem sa_K_B (A : st_A) (k : Nat) (v : Option st_B) : sa_K (su_B A k v) = sa_K A := rfl
theorem sa_B_T (A : st_A) (T : tr_T) : sa_B (su_T A T) = sa_B A := rfl
theorem sa_B_I (A : st_A) (f k : Nat) (v : Int32) : sa_B (su_I A f k v) = sa_B A := rfl
theorem sa_B_D (A : st_A) (f k : Nat) (v : Nat) : sa_B (su_D A f k v) = sa_B A := rfl
theorem sa_B_K (A : st_A) (f k : Nat) (v : Bool) : sa_B (su_K A f k v) = sa_B A := rfl
theorem sa_B_B (A : st_A) (k : Nat) (v : Option st_B) (j : Nat) : sa_B (su_B A k v) j = if j = k then v else sa_B A j := rfl
theorem su_K_same {A : st_A} {f k : Nat} {v : Bool} (h : sa_K A f k = v) : su_K A f k v = A := by
  obtain ⟨T, I, D, K, B⟩ := A
  have : (fun g j => if g = f ∧ j = k then v else K g j) = K := by
    funext g j
    by_cases hq : g = f ∧ j = k
    · rw [if_pos hq, hq.1, hq.2]; exact h.symm
    · rw [if_neg hq]
  show (T, I, D, (fun g j => if g = f ∧ j = k then v else K g j), B) = (T, I, D, K, B)
  rw [this]
theorem su_D_same {A : st_A} {f k v : Nat} (h : sa_D A f k = v) : su_D A f k v = A := by
  obtain ⟨T, I, D, K, B⟩ := A
  have : (fun g j => if g = f ∧ j = k then v else D g j) = D := by
    funext g j
    by_cases hq : g = f ∧ j = k
    · rw [if_pos hq, hq.1, hq.2]; exact h.symm
    · rw [if_neg hq]
  show (T, I, (fun g j => if g = f ∧ j = k then v else D g j), K, B) = (T, I, D, K, B)
  rw [this]
/-- a truth as an int -/
def st_b (b : Bool) : Int32 := if b then 1 else 0
theorem st_b01 (b : Bool) : st_b b = 0 ∨ st_b b = 1 := by cases b <;> simp [st_b]
theorem st_b0 {b : Bool} : st_b b = 0 ↔ b = false := by cases b <;> simp [st_b]
theorem st_b1 {b : Bool} : st_b b = 1 ↔ b = true := by cases b <;> simp [st_b]
theorem st_bt : st_b true = 1 := rfl
theorem st_bf : st_b false = 0 := rfl
/-- the place that an int names among n -/
def st_ix (n : Nat) (k : Int32) : Option Nat := if 0 ≤ k ∧ k < nI n then some k.toNatClampNeg else none
theorem st_ix_some {n : Nat} {k : Int32} {j : Nat} (hn : n < 2 ^ 31) (h : st_ix n k = some j) : j < n ∧ k = nI j := by
  unfold st_ix at h
  split at h
  · rename_i hc
    cases h
    have h0 : 0 ≤ k.toInt := by simpa using Int32.le_iff_toInt_le.mp hc.1
    have h1 : k.toInt < n := by
      have := Int32.lt_iff_toInt_lt.mp hc.2
      rw [nI_toInt hn] at this
      exact this
    have e : k.toNatClampNeg = k.toInt.toNat := rfl
    refine ⟨by omega, ?_⟩
    apply Int32.toInt_inj.mp
    rw [nI_toInt (by omega)]
    omega
  · cases h
theorem st_ix_nI {n j : Nat} (hn : n < 2 ^ 31) (h : j < n) : st_ix n (nI j) = some j := by
  unfold st_ix
  have h1 : nI j < nI n := nI_lt h hn
  have h0 : 0 ≤ nI j := Int32.not_lt.mp (nI_pos (by omega))
  rw [if_pos ⟨h0, h1⟩, nI_clamp (by omega)]
theorem st_ix_none {n : Nat} {k : Int32} (h : st_ix n k = none) : ¬ (0 ≤ k ∧ k < nI n) := by
  unfold st_ix at h
  split at h
  · cases h
  · assumption
theorem st_ix_eq {n : Nat} {k : Int32} : (st_ix n k = none) ↔ ¬ (0 ≤ k ∧ k < nI n) := by
  constructor
  · exact st_ix_none
  · intro h; unfold st_ix; rw [if_neg h]
/-! what events do -/
abbrev ev_F : Type := Bool × Bool × Bool
abbrev ev_E : Type := Int32 × Nat × List (Nat × Nat)
abbrev ev_P : Type := st_A × ev_F
abbrev ev_S : Type := st_A → Nat → Int32 → Nat → st_A × Option Bool
/-- is there one like it, from listener k on, among j -/
def ds_like (A : st_A) (n : Nat) (t : Int32) (o s : Nat) : Nat → Nat → Bool
  | 0, _ => false
  | j + 1, k => (!sa_K A 1 k && decide (sa_D A 1 k = n) && decide (sa_I A 0 k = t) && decide (sa_D A 3 k % 2 = o % 2) && decide (sa_D A 2 k = s)) || ds_like A n t o s j (k + 1)
def ds_add (A : st_A) (n : Nat) (t : Int32) (o s : Nat) : st_A × Int32 :=
  if 40 ≤ sa_D A 0 0 ∨ ds_like A n t o s (sa_D A 0 0) 0 = true then (A, -1)
  else (su_D (su_K (su_D (su_D (su_I (su_D A 1 (sa_D A 0 0) n) 0 (sa_D A 0 0) t) 3 (sa_D A 0 0) o) 2 (sa_D A 0 0) s) 1 (sa_D A 0 0) false) 0 0 (sa_D A 0 0 + 1), nI (sa_D A 0 0))
def ds_rem (A : st_A) (k : Int32) : st_A := match st_ix (sa_D A 0 0) k with
  | none => A
  | some l => su_K A 1 l true
def ds_out (A : st_A) (k : Int32) : st_A := match st_ix (tr_N (sa_T A)) k with
  | none => A
  | some n => su_T A (tr_leave (sa_T A) n)
def ds_move (A : st_A) (k : Int32) (p : Nat) : st_A := match st_ix (tr_N (sa_T A)) k with
  | none => A
  | some n => if tr_kd (sa_T A) n ≤ 2 ∧ tr_over (sa_T A) n p = false then su_T A (tr_ins (sa_T A) n p none) else A
def ds_cmd (S : ev_S) (E : ev_E) (l c : Nat) (n : Int32) (P : ev_P) : ev_P := match c with
  | 0 => (P.1, (true, P.2.2.1, P.2.2.2))
  | 1 => (P.1, (true, true, P.2.2.2))
  | 2 => (P.1, (P.2.1, P.2.2.1, P.2.2.2 || (decide (E.2.1 / 2 % 2 = 1) && decide (sa_D P.1 3 l < 4))))
  | 3 => (ds_rem P.1 n, P.2)
  | 4 => (match st_ix (sa_D P.1 0 0) n with
    | none => P
    | some k => ((ds_add P.1 (sa_D P.1 1 k) (sa_I P.1 0 k) (sa_D P.1 3 k) (sa_D P.1 2 k)).1, P.2))
  | 5 => if 0 ≤ n ∧ n < 8 then ((S P.1 (sa_D P.1 1 l) n 3).1, P.2) else P
  | 7 => (ds_out P.1 n, P.2)
  | 8 => (ds_move P.1 n (sa_D P.1 1 l), P.2)
  | _ => P
def ds_run (S : ev_S) (E : ev_E) (l s : Nat) : Nat → Nat → ev_P → ev_P
  | 0, _, P => P
  | j + 1, k, P => if k < sa_D P.1 4 s then (if sa_D P.1 5 (5 * s + k) = 6 then (su_I P.1 3 0 (sa_I P.1 3 0 + 1), P.2) else ds_run S E l s j (k + 1) (ds_cmd S E l (sa_D P.1 5 (5 * s + k)) (sa_I P.1 1 (5 * s + k)) P)) else P
def ds_log (A : st_A) (a b c d e : Int32) : st_A := su_D (su_I (su_I (su_I (su_I (su_I A 2 (sa_D A 0 1 % 32 * 5) a) 2 (sa_D A 0 1 % 32 * 5 + 1) b) 2 (sa_D A 0 1 % 32 * 5 + 2) c) 2 (sa_D A 0 1 % 32 * 5 + 3) d) 2 (sa_D A 0 1 % 32 * 5 + 4) e) 0 1 (sa_D A 0 1 + 1)
def ds_ph (cap at' : Bool) : Int32 := if at' then 2 else if cap then 1 else 3
def ds_pre (A : st_A) (l cur tgt : Nat) (cap : Bool) (ty : Int32) : st_A := ds_log (su_K (su_D A 0 2 (sa_D A 0 2 - 1)) 1 l (decide (sa_D A 3 l / 2 % 2 = 1))) (nI l) (nI cur) (nI tgt) (ds_ph cap (decide (cur = tgt))) ty
def ds_mine (A : st_A) (E : ev_E) (cur : Nat) (cap : Bool) (k : Nat) : Bool := !sa_K A 1 k && decide (sa_D A 1 k = cur) && decide (sa_I A 0 k = E.1) && (decide (sa_D A 3 k % 2 = 1) == cap)
def ds_turn (S : ev_S) (E : ev_E) (cur tgt : Nat) (cap : Bool) : Nat → Nat → ev_P → ev_P
  | 0, _, P => P
  | j + 1, k, P => if P.2.2.1 = true then P else if ds_mine P.1 E cur cap k = true ∧ 0 < sa_D P.1 0 2 then ds_turn S E cur tgt cap j (k + 1) (ds_run S E k (sa_D P.1 2 k) 5 0 (ds_pre P.1 k cur tgt cap E.1, P.2)) else ds_turn S E cur tgt cap j (k + 1) P
def ds_take (S : ev_S) (E : ev_E) (cap : Bool) (e : Nat × Nat) (P : ev_P) : ev_P := if cap = false ∧ e.1 ≠ e.2 ∧ E.2.1 % 2 = 0 then P else ds_turn S E e.1 e.2 cap (sa_D P.1 0 0) 0 P
def ds_walk (S : ev_S) (E : ev_E) (cap : Bool) : List (Nat × Nat) → ev_P → ev_P
  | [], P => P
  | e :: l, P => if P.2.1 = true then P else ds_walk S E cap l (ds_take S E cap e P)
def ds_nxt (T : tr_T) (x : Nat) : Option Nat := match tr_as T x with
  | some s => some s
  | none => tr_up T x
def ds_lay (T : tr_T) (last : Option Nat) : Nat → Option Nat → Nat → List (Nat × Nat)
  | 0, _, _ => []
  | _ + 1, none, _ => []
  | k + 1, some x, tg => (x, if tr_over T (tr_root T tg) x then tg else x) :: ds_lay T last k (if last = some x then none else ds_nxt T x) (if tr_over T (tr_root T tg) x then tg else x)
def ds_last (T : tr_T) (t fl : Nat) : Option Nat := if fl / 4 % 2 = 1 then none else some (tr_root T t)
def ds_path (T : tr_T) (t fl : Nat) : List (Nat × Nat) := ds_lay T (ds_last T t fl) 24 (some t) t
def ds_find (T : tr_T) : List (Nat × Nat) → Option Nat
  | [] => none
  | e :: l => if tr_kd T e.1 = 2 then some e.1 else ds_find T l
def ds_check (T : tr_T) (ty : Int32) (fl : Nat) (p : List (Nat × Nat)) : Option Nat := if ty = 0 then ds_find T (if fl % 2 = 1 then p else p.take 1) else none
def ds_flip (A : st_A) (o : Option Nat) : st_A := match o with
  | none => A
  | some n => su_K A 0 n (!sa_K A 0 n)
def ds_beg (A : st_A) (t : Nat) (ty : Int32) (fl : Nat) : ev_P := (ds_flip A (ds_check (sa_T A) ty fl (ds_path (sa_T A) t fl)), (false, false, false))
def ds_mid (S : ev_S) (A : st_A) (t : Nat) (ty : Int32) (fl : Nat) : ev_P := ds_walk S (ty, fl, ds_path (sa_T A) t fl) false (ds_path (sa_T A) t fl) (ds_walk S (ty, fl, ds_path (sa_T A) t fl) true (ds_path (sa_T A) t fl).reverse (ds_beg A t ty fl))
def ds_end (P : ev_P) (o : Option Nat) : st_A := if P.2.2.2 = true then ds_flip P.1 o else P.1
def ds_send1 (S : ev_S) (A : st_A) (t : Nat) (ty : Int32) (fl : Nat) : st_A × Option Bool := (ds_end (ds_mid S A t ty fl) (ds_check (sa_T A) ty fl (ds_path (sa_T A) t fl)), some (ds_mid S A t ty fl).2.2.2)
def ds_send : Nat → ev_S
  | 0 => fun A _ _ _ => (A, none)
  | e + 1 => ds_send1 (ds_send e)
