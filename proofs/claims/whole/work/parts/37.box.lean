/-! BOXES, measured -/
abbrev ms_M : Type := UInt64 × UInt64 × UInt64
def ms_ch (A : st_A) : Nat → Nat → List Nat
  | 0, _ => []
  | k + 1, n => if sa_B A n = none then (match tr_up (sa_T A) n with
    | none => []
    | some m => ms_ch A k m) else n :: (match tr_up (sa_T A) n with
    | none => []
    | some m => ms_ch A k m)
def ms_st (A : st_A) (m : ms_M) (n : Nat) : ms_M := match sa_B A n with
  | none => m
  | some b => (FP.dadd m.1 (FP.dmul b.1 m.2.2), FP.dadd m.2.1 (FP.dmul b.2.1 m.2.2), FP.dmul m.2.2 b.2.2.2.2.1)
def ms_at (A : st_A) (n : Nat) : ms_M := (ms_ch A 24 n).reverse.foldl (ms_st A) (FP.dconst0, FP.dconst0, FP.dconst1)
def ms_ok (j : Nat) (m : ms_M) : Prop := fb (35 * (j : Int) - 52) m.1 ∧ fb (35 * (j : Int) - 52) m.2.1 ∧ fb (35 * (j : Int) - 52) m.2.2
theorem ms_ok0 : ms_ok 0 (FP.dconst0, FP.dconst0, FP.dconst1) := ⟨fb_mono fb_zero (by decide), fb_mono fb_zero (by decide), fb_mono fb_one (by decide)⟩
theorem ms_step {A : st_A} {j n : Nat} {m : ms_M} {b : st_B} (hb : sa_B A n = some b) (hf : st_fin b) (hm : ms_ok j m) (hj : j < 24) :
    vf_n64 (FP.dmul b.1 m.2.2) ∧ vf_n64 (FP.dadd m.1 (FP.dmul b.1 m.2.2)) ∧ vf_n64 (FP.dmul b.2.1 m.2.2) ∧ vf_n64 (FP.dadd m.2.1 (FP.dmul b.2.1 m.2.2)) ∧ vf_n64 (FP.dmul m.2.2 b.2.2.2.2.1) ∧ ms_ok (j + 1) (ms_st A m n) := by
  obtain ⟨m1, m2, m3⟩ := hm
  obtain ⟨b1, b2, b3, b4, b5⟩ := hf
  have p1 := fb_mul b1 m3 (by omega) (by omega)
  have p2 := fb_mul b2 m3 (by omega) (by omega)
  have p3 := fb_mul m3 b5 (by omega) (by omega)
  have s1 := fb_add (fb_mono m1 (show 35 * (j : Int) - 52 ≤ -21 + (35 * (j : Int) - 52) + 54 by omega)) p1 (by omega) (by omega)
  have s2 := fb_add (fb_mono m2 (show 35 * (j : Int) - 52 ≤ -21 + (35 * (j : Int) - 52) + 54 by omega)) p2 (by omega) (by omega)
  refine ⟨fb_n64 p1, fb_n64 s1, fb_n64 p2, fb_n64 s2, fb_n64 p3, ?_⟩
  unfold ms_st
  rw [hb]
  exact ⟨fb_mono s1 (by omega), fb_mono s2 (by omega), fb_mono p3 (by omega)⟩
theorem ms_mem {A : st_A} : ∀ (k n m : Nat), m ∈ ms_ch A k n → ∃ j, tr_it (sa_T A) j n = some m := by
  intro k
  induction k with
  | zero => intro n m h; cases h
  | succ k ih =>
    intro n m h
    have key : m ∈ (match tr_up (sa_T A) n with
      | none => []
      | some m => ms_ch A k m) → ∃ j, tr_it (sa_T A) j n = some m := by
      intro h
      cases hu : tr_up (sa_T A) n with
      | none => rw [hu] at h; cases h
      | some p =>
        rw [hu] at h
        obtain ⟨j, hj⟩ := ih p m h
        refine ⟨j + 1, ?_⟩
        simp only [tr_it, hu]; exact hj
    simp only [ms_ch] at h
    split at h
    · exact key h
    · rcases List.mem_cons.mp h with rfl | h
      · exact ⟨0, rfl⟩
      · exact key h
theorem ms_lt {A : st_A} (hw : tr_wf (sa_T A)) : ∀ (k n : Nat), n < tr_N (sa_T A) → ∀ m ∈ ms_ch A k n, m < tr_N (sa_T A) ∧ sa_B A m ≠ none := by
  intro k
  induction k with
  | zero => intro n _ m h; cases h
  | succ k ih =>
    intro n hn m h
    have key : m ∈ (match tr_up (sa_T A) n with
      | none => []
      | some m => ms_ch A k m) → m < tr_N (sa_T A) ∧ sa_B A m ≠ none := by
      intro h
      cases hu : tr_up (sa_T A) n with
      | none => rw [hu] at h; cases h
      | some p => rw [hu] at h; exact ih p (tr_up_lt hw hn hu) m h
    simp only [ms_ch] at h
    split at h
    · exact key h
    · rename_i hb
      rcases List.mem_cons.mp h with rfl | h
      · exact ⟨hn, hb⟩
      · exact key h
theorem tr_cyc {T : tr_T} {n j : Nat} (h : tr_it T (j + 1) n = some n) : ∀ i, tr_it T (i * (j + 1)) n = some n := by
  intro i
  induction i with
  | zero => simp [tr_it]
  | succ i ih => rw [Nat.succ_mul, tr_it_add, ih]; exact h
theorem ms_nodup {A : st_A} : ∀ (k n : Nat), tr_it (sa_T A) k n = none → (ms_ch A k n).Nodup := by
  intro k
  induction k with
  | zero => intro n _; exact List.nodup_nil
  | succ k ih =>
    intro n h
    have key : (match tr_up (sa_T A) n with
      | none => []
      | some m => ms_ch A k m).Nodup := by
      cases hu : tr_up (sa_T A) n with
      | none => exact List.nodup_nil
      | some p => exact ih p (tr_it_up h hu)
    simp only [ms_ch]
    split
    · exact key
    · refine List.nodup_cons.mpr ⟨fun hm => ?_, key⟩
      cases hu : tr_up (sa_T A) n with
      | none => rw [hu] at hm; cases hm
      | some p =>
        rw [hu] at hm
        obtain ⟨j, hj⟩ := ms_mem k p n hm
        have h1 : tr_it (sa_T A) (j + 1) n = some n := by simp only [tr_it, hu]; exact hj
        have h2 := tr_cyc h1 (k + 1)
        have h3 := tr_it_mono (k' := (k + 1) * (j + 1)) h (Nat.le_mul_of_pos_right _ (by omega))
        rw [h3] at h2; cases h2
theorem ms_len {A : st_A} : ∀ (k n : Nat), (ms_ch A k n).length ≤ k := by
  intro k
  induction k with
  | zero => intro n; exact Nat.le_refl _
  | succ k ih =>
    intro n
    have key : (match tr_up (sa_T A) n with
      | none => []
      | some m => ms_ch A k m).length ≤ k := by
      cases tr_up (sa_T A) n with
      | none => exact Nat.zero_le _
      | some p => exact ih p
    simp only [ms_ch]
    split
    · omega
    · rw [List.length_cons]; omega
/-- boxes linked one to the next -/
def ms_ln (ba : Nat → Nat) (σ : en_S) : List Nat → Prop
  | [] => True
  | a :: l => en_fr σ 9 (ba a) = l.head?.map ba ∧ ms_ln ba σ l
def bF (f a : Nat) : Prop := ¬ (6 ≤ f ∧ f ≤ 9)
theorem cx_box {G : en_G} {x : Nat} {na la ba : Nat → Nat} {rm : Nat} {A : st_A} {σ σ' : en_S} (h : CX G x na la ba rm A σ) (g : ag σ σ' bF (fun _ => True)) (s : sz σ σ') : CX G x na la ba rm A σ' :=
  h.ag (g.mono (fun f b z => z.2.1) (fun b z => trivial)) (s.fr h.1.2.2.2.2.2.2) s.1 s.2.1
theorem ms_ln_congr {ba : Nat → Nat} {σ σ' : en_S} : ∀ {l : List Nat}, (∀ a ∈ l, en_fr σ' 9 (ba a) = en_fr σ 9 (ba a)) → ms_ln ba σ l → ms_ln ba σ' l := by
  intro l
  induction l with
  | nil => intro _ _; trivial
  | cons a l ih => intro h1 h2; exact ⟨by rw [h1 a List.mem_cons_self]; exact h2.1, ih (fun b hb => h1 b (List.mem_cons_of_mem _ hb)) h2.2⟩
def ht_in (b : st_B) (m : ms_M) (x y : UInt64) : Bool := decide (¬ Op.cmpValue (FP.dcmp x m.1) .l < 0 ∧ ¬ 0 ≤ Op.cmpValue (FP.dcmp x (FP.dadd m.1 (FP.dmul b.2.2.1 m.2.2))) .g ∧ ¬ Op.cmpValue (FP.dcmp y m.2.1) .l < 0 ∧ ¬ 0 ≤ Op.cmpValue (FP.dcmp y (FP.dadd m.2.1 (FP.dmul b.2.2.2.1 m.2.2))) .g)
def ht_lay (A : st_A) (o : Option Nat) : Int32 := match o with
  | none => 0
  | some n => match sa_B A n with
    | none => 0
    | some b => b.2.2.2.2.2
def ht_st (A : st_A) (x y : UInt64) (best : Option Nat) (n : Nat) : Option Nat := match sa_B A n with
  | none => best
  | some b => if ht_in b (ms_at A n) x y = true ∧ (best = none ∨ ht_lay A best ≤ b.2.2.2.2.2) then some n else best
def ht_F (A : st_A) (x y : UInt64) : Nat → Option Nat → Option Nat → Option Nat
  | 0, _, best => best
  | _ + 1, none, best => best
  | k + 1, some n, best => ht_F A x y k (tr_nso (sa_T A) n) (ht_st A x y best n)
def ht_top (A : st_A) (x y : UInt64) : Option Nat := ht_F A x y 24 (some 0) none
theorem cu_X0_holds {a : Nat} {x : UInt64} {y : UInt64} {σ : en_S} (hp : en_cl σ a = some 0 ∧ vf_n64 (FP.dmul (en_fd σ 2 a) (en_fd σ 8 a)) ∧ vf_n64 (FP.dadd (en_fd σ 6 a) (FP.dmul (en_fd σ 2 a) (en_fd σ 8 a))) ∧ vf_n64 (FP.dmul (en_fd σ 3 a) (en_fd σ 8 a)) ∧ vf_n64 (FP.dadd (en_fd σ 7 a) (FP.dmul (en_fd σ 3 a) (en_fd σ 8 a)))) : en_Us C_X0_holds [en_R (some a), en_D x, en_D y] σ (fun v σ' => σ' = σ ∧ v = some (en_I (if ¬ Op.cmpValue (FP.dcmp x (en_fd σ 6 a)) .l < 0 ∧ ¬ 0 ≤ Op.cmpValue (FP.dcmp x (FP.dadd (en_fd σ 6 a) (FP.dmul (en_fd σ 2 a) (en_fd σ 8 a)))) .g ∧ ¬ Op.cmpValue (FP.dcmp y (en_fd σ 7 a)) .l < 0 ∧ ¬ 0 ≤ Op.cmpValue (FP.dcmp y (FP.dadd (en_fd σ 7 a) (FP.dmul (en_fd σ 3 a) (en_fd σ 8 a)))) .g then 1 else 0))) := by
  refine ⟨⟨a, x, y, rfl, hp⟩, fun v σ' q => ?_⟩
  obtain ⟨a', x', y', e, q⟩ := q
  simp only [List.cons.injEq, en_Rinj, en_Iinj, en_Dinj, Option.some.injEq, and_true] at e
  obtain ⟨rfl, rfl, rfl⟩ := e
  exact q
def P_X4_measuredBox (G : en_G)  (g : (Nat) × (Nat → Nat) × (Nat → Nat) × (Nat → Nat) × (Nat) × (st_A) × (Nat)) (as : List en_V) (σ : en_S) : Prop := (CX G (g.1) (g.2.1) (g.2.2.1) (g.2.2.2.1) (g.2.2.2.2.1) (g.2.2.2.2.2.1) σ ∧ (g.2.2.2.2.2.2) < tr_N (sa_T (g.2.2.2.2.2.1))) ∧ as = [en_R (some ((g.2.1) (g.2.2.2.2.2.2)))]
def C_X4_measuredBox (G : en_G)  : en_C := en_gh (P_X4_measuredBox G) (fun g as σ v σ' => CX G (g.1) (g.2.1) (g.2.2.1) (g.2.2.2.1) (g.2.2.2.2.1) (g.2.2.2.2.2.1) σ' ∧ ag σ σ' bF (fun _ => True) ∧ sz σ σ' ∧ v = some (en_R ((sa_B (g.2.2.2.2.2.1) (g.2.2.2.2.2.2)).map (fun _ => (g.2.2.2.1) (g.2.2.2.2.2.2)))) ∧ (sa_B (g.2.2.2.2.2.1) (g.2.2.2.2.2.2) ≠ none → en_fd σ' 6 ((g.2.2.2.1) (g.2.2.2.2.2.2)) = (ms_at (g.2.2.2.2.2.1) (g.2.2.2.2.2.2)).1 ∧ en_fd σ' 7 ((g.2.2.2.1) (g.2.2.2.2.2.2)) = (ms_at (g.2.2.2.2.2.1) (g.2.2.2.2.2.2)).2.1 ∧ en_fd σ' 8 ((g.2.2.2.1) (g.2.2.2.2.2.2)) = (ms_at (g.2.2.2.2.2.1) (g.2.2.2.2.2.2)).2.2))
theorem pr_X4_measuredBox {G : en_G}  : ∀ as σ, (C_X4_measuredBox G).1 as σ → ∃ b tl, as = en_R (some b) :: tl ∧ en_cl σ b = some 4 ∧ tl.length = 0 := fun as σ ⟨g, hp, h2⟩ => ⟨_, _, h2, (hp.1.2.1.1 _ hp.2).1, rfl⟩
theorem cu_X4_measuredBox {G : en_G}  {x : Nat} {na : Nat → Nat} {la : Nat → Nat} {ba : Nat → Nat} {rm : Nat} {A : st_A} {n : Nat} {σ : en_S} (hp : CX G x na la ba rm A σ ∧ n < tr_N (sa_T A)) : en_Us (C_X4_measuredBox G) [en_R (some (na n))] σ (fun v σ' => CX G x na la ba rm A σ' ∧ ag σ σ' bF (fun _ => True) ∧ sz σ σ' ∧ v = some (en_R ((sa_B A n).map (fun _ => ba n))) ∧ (sa_B A n ≠ none → en_fd σ' 6 (ba n) = (ms_at A n).1 ∧ en_fd σ' 7 (ba n) = (ms_at A n).2.1 ∧ en_fd σ' 8 (ba n) = (ms_at A n).2.2)) := ⟨⟨(x, na, la, ba, rm, A, n), hp, rfl⟩, fun v σ' q => q (x, na, la, ba, rm, A, n) ⟨hp, rfl⟩⟩
def ca_X4_measuredBox (G : en_G) : List (Nat × Nat × en_C) := [(28, 5, C_X4_parentOrHost)]
def X_X4_measuredBox (G : en_G) (q : Option en_V → en_S → Prop) : en_X := en_mk G cX4_measuredBox (en_lk fl4) (en_lk nw4) (en_lk aw4) (en_lk dc4) (en_lk (ca_X4_measuredBox G)) 3 false q
theorem d_X4_measuredBox_0 : decode cX4_measuredBox 0 = .ok (.aload_n 0, 1) := by decide +kernel
theorem j_X4_measuredBox_0 {G : en_G} {q : Option en_V → en_S → Prop}  {l1 l2 l3 l4 l5 l6 l7 l8 : en_V} {x0 : Option Nat} {σ : en_S} : en_J (X_X4_measuredBox G q) 0 [en_R x0, l1, l2, l3, l4, l5, l6, l7, l8] [] σ ↔ en_J (X_X4_measuredBox G q) 1 [en_R x0, l1, l2, l3, l4, l5, l6, l7, l8] [en_R x0] σ := en_j1 d_X4_measuredBox_0 rfl rfl
theorem d_X4_measuredBox_1 : decode cX4_measuredBox 1 = .ok (.getfield 53, 3) := by decide +kernel
theorem j_X4_measuredBox_1 {G : en_G} {q : Option en_V → en_S → Prop}  {l0 l1 l2 l3 l4 l5 l6 l7 l8 : en_V} {a0 : Option Nat} {σ : en_S} : en_J (X_X4_measuredBox G q) 1 [l0, l1, l2, l3, l4, l5, l6, l7, l8] [en_R a0] σ ↔ ∃ a, a0 = some a ∧ en_cl σ a = some 4 ∧ en_J (X_X4_measuredBox G q) 4 [l0, l1, l2, l3, l4, l5, l6, l7, l8] [en_R (en_fr σ 410 a)] σ := en_jg (st := fun o => [en_R o]) (st' := fun a => [en_R (en_fr σ 410 a)]) (σ' := fun _ => σ) d_X4_measuredBox_1 rfl (fun a => rfl) (fun a => ⟨fun h => h.2, fun h => ⟨rfl, h⟩⟩)
theorem d_X4_measuredBox_4 : decode cX4_measuredBox 4 = .ok (.ifnonnull 5, 3) := by decide +kernel
theorem j_X4_measuredBox_4 {G : en_G} {q : Option en_V → en_S → Prop}  {l0 l1 l2 l3 l4 l5 l6 l7 l8 : en_V} {a0 : Option Nat} {σ : en_S} : en_J (X_X4_measuredBox G q) 4 [l0, l1, l2, l3, l4, l5, l6, l7, l8] [en_R a0] σ ↔ (¬ a0 = none → en_J (X_X4_measuredBox G q) 9 [l0, l1, l2, l3, l4, l5, l6, l7, l8] [] σ) ∧ (¬ (¬ a0 = none) → en_J (X_X4_measuredBox G q) 7 [l0, l1, l2, l3, l4, l5, l6, l7, l8] [] σ) := en_jb d_X4_measuredBox_4 rfl ⟨rfl, by decide⟩
theorem d_X4_measuredBox_7 : decode cX4_measuredBox 7 = .ok (.aconst_null, 1) := by decide +kernel
theorem j_X4_measuredBox_7 {G : en_G} {q : Option en_V → en_S → Prop}  {l0 l1 l2 l3 l4 l5 l6 l7 l8 : en_V}  {σ : en_S} : en_J (X_X4_measuredBox G q) 7 [l0, l1, l2, l3, l4, l5, l6, l7, l8] [] σ ↔ en_J (X_X4_measuredBox G q) 8 [l0, l1, l2, l3, l4, l5, l6, l7, l8] [en_R none] σ := en_j1 d_X4_measuredBox_7 rfl rfl
theorem d_X4_measuredBox_8 : decode cX4_measuredBox 8 = .ok (.areturn, 1) := by decide +kernel
theorem j_X4_measuredBox_8 {G : en_G} {q : Option en_V → en_S → Prop}  {l0 l1 l2 l3 l4 l5 l6 l7 l8 : en_V} {a0 : Option Nat} {σ : en_S} : en_J (X_X4_measuredBox G q) 8 [l0, l1, l2, l3, l4, l5, l6, l7, l8] [en_R a0] σ ↔ q (some (en_R a0)) σ := en_jr d_X4_measuredBox_8 rfl ⟨fun h => h.2.2, fun h => ⟨rfl, rfl, h⟩⟩
theorem d_X4_measuredBox_9 : decode cX4_measuredBox 9 = .ok (.aconst_null, 1) := by decide +kernel
theorem j_X4_measuredBox_9 {G : en_G} {q : Option en_V → en_S → Prop}  {l0 l1 l2 l3 l4 l5 l6 l7 l8 : en_V}  {σ : en_S} : en_J (X_X4_measuredBox G q) 9 [l0, l1, l2, l3, l4, l5, l6, l7, l8] [] σ ↔ en_J (X_X4_measuredBox G q) 10 [l0, l1, l2, l3, l4, l5, l6, l7, l8] [en_R none] σ := en_j1 d_X4_measuredBox_9 rfl rfl
theorem d_X4_measuredBox_10 : decode cX4_measuredBox 10 = .ok (.astore_n 1, 1) := by decide +kernel
theorem j_X4_measuredBox_10 {G : en_G} {q : Option en_V → en_S → Prop}  {l0 l1 l2 l3 l4 l5 l6 l7 l8 : en_V} {a0 : Option Nat} {σ : en_S} : en_J (X_X4_measuredBox G q) 10 [l0, l1, l2, l3, l4, l5, l6, l7, l8] [en_R a0] σ ↔ en_J (X_X4_measuredBox G q) 11 [en_c2 l0, en_R a0, l2, l3, l4, l5, l6, l7, l8] [] σ := en_j1 d_X4_measuredBox_10 rfl ⟨rfl, Nat.le_of_ble_eq_true rfl⟩
theorem d_X4_measuredBox_11 : decode cX4_measuredBox 11 = .ok (.aload_n 0, 1) := by decide +kernel
theorem j_X4_measuredBox_11 {G : en_G} {q : Option en_V → en_S → Prop}  {l1 l2 l3 l4 l5 l6 l7 l8 : en_V} {x0 : Option Nat} {σ : en_S} : en_J (X_X4_measuredBox G q) 11 [en_R x0, l1, l2, l3, l4, l5, l6, l7, l8] [] σ ↔ en_J (X_X4_measuredBox G q) 12 [en_R x0, l1, l2, l3, l4, l5, l6, l7, l8] [en_R x0] σ := en_j1 d_X4_measuredBox_11 rfl rfl
theorem d_X4_measuredBox_12 : decode cX4_measuredBox 12 = .ok (.astore_n 2, 1) := by decide +kernel
theorem j_X4_measuredBox_12 {G : en_G} {q : Option en_V → en_S → Prop}  {l0 l1 l2 l3 l4 l5 l6 l7 l8 : en_V} {a0 : Option Nat} {σ : en_S} : en_J (X_X4_measuredBox G q) 12 [l0, l1, l2, l3, l4, l5, l6, l7, l8] [en_R a0] σ ↔ en_J (X_X4_measuredBox G q) 13 [l0, en_c2 l1, en_R a0, l3, l4, l5, l6, l7, l8] [] σ := en_j1 d_X4_measuredBox_12 rfl ⟨rfl, Nat.le_of_ble_eq_true rfl⟩
theorem d_X4_measuredBox_13 : decode cX4_measuredBox 13 = .ok (.aload_n 2, 1) := by decide +kernel
theorem j_X4_measuredBox_13 {G : en_G} {q : Option en_V → en_S → Prop}  {l0 l1 l3 l4 l5 l6 l7 l8 : en_V} {x2 : Option Nat} {σ : en_S} : en_J (X_X4_measuredBox G q) 13 [l0, l1, en_R x2, l3, l4, l5, l6, l7, l8] [] σ ↔ en_J (X_X4_measuredBox G q) 14 [l0, l1, en_R x2, l3, l4, l5, l6, l7, l8] [en_R x2] σ := en_j1 d_X4_measuredBox_13 rfl rfl
theorem d_X4_measuredBox_14 : decode cX4_measuredBox 14 = .ok (.ifnull 31, 3) := by decide +kernel
theorem j_X4_measuredBox_14 {G : en_G} {q : Option en_V → en_S → Prop}  {l0 l1 l2 l3 l4 l5 l6 l7 l8 : en_V} {a0 : Option Nat} {σ : en_S} : en_J (X_X4_measuredBox G q) 14 [l0, l1, l2, l3, l4, l5, l6, l7, l8] [en_R a0] σ ↔ (a0 = none → en_J (X_X4_measuredBox G q) 45 [l0, l1, l2, l3, l4, l5, l6, l7, l8] [] σ) ∧ (¬ (a0 = none) → en_J (X_X4_measuredBox G q) 17 [l0, l1, l2, l3, l4, l5, l6, l7, l8] [] σ) := en_jb d_X4_measuredBox_14 rfl ⟨rfl, by decide⟩
theorem d_X4_measuredBox_17 : decode cX4_measuredBox 17 = .ok (.aload_n 2, 1) := by decide +kernel
theorem j_X4_measuredBox_17 {G : en_G} {q : Option en_V → en_S → Prop}  {l0 l1 l3 l4 l5 l6 l7 l8 : en_V} {x2 : Option Nat} {σ : en_S} : en_J (X_X4_measuredBox G q) 17 [l0, l1, en_R x2, l3, l4, l5, l6, l7, l8] [] σ ↔ en_J (X_X4_measuredBox G q) 18 [l0, l1, en_R x2, l3, l4, l5, l6, l7, l8] [en_R x2] σ := en_j1 d_X4_measuredBox_17 rfl rfl
theorem d_X4_measuredBox_18 : decode cX4_measuredBox 18 = .ok (.getfield 53, 3) := by decide +kernel
theorem j_X4_measuredBox_18 {G : en_G} {q : Option en_V → en_S → Prop}  {l0 l1 l2 l3 l4 l5 l6 l7 l8 : en_V} {a0 : Option Nat} {σ : en_S} : en_J (X_X4_measuredBox G q) 18 [l0, l1, l2, l3, l4, l5, l6, l7, l8] [en_R a0] σ ↔ ∃ a, a0 = some a ∧ en_cl σ a = some 4 ∧ en_J (X_X4_measuredBox G q) 21 [l0, l1, l2, l3, l4, l5, l6, l7, l8] [en_R (en_fr σ 410 a)] σ := en_jg (st := fun o => [en_R o]) (st' := fun a => [en_R (en_fr σ 410 a)]) (σ' := fun _ => σ) d_X4_measuredBox_18 rfl (fun a => rfl) (fun a => ⟨fun h => h.2, fun h => ⟨rfl, h⟩⟩)
theorem d_X4_measuredBox_21 : decode cX4_measuredBox 21 = .ok (.ifnull 16, 3) := by decide +kernel
theorem j_X4_measuredBox_21 {G : en_G} {q : Option en_V → en_S → Prop}  {l0 l1 l2 l3 l4 l5 l6 l7 l8 : en_V} {a0 : Option Nat} {σ : en_S} : en_J (X_X4_measuredBox G q) 21 [l0, l1, l2, l3, l4, l5, l6, l7, l8] [en_R a0] σ ↔ (a0 = none → en_J (X_X4_measuredBox G q) 37 [l0, l1, l2, l3, l4, l5, l6, l7, l8] [] σ) ∧ (¬ (a0 = none) → en_J (X_X4_measuredBox G q) 24 [l0, l1, l2, l3, l4, l5, l6, l7, l8] [] σ) := en_jb d_X4_measuredBox_21 rfl ⟨rfl, by decide⟩
theorem d_X4_measuredBox_24 : decode cX4_measuredBox 24 = .ok (.aload_n 2, 1) := by decide +kernel
theorem j_X4_measuredBox_24 {G : en_G} {q : Option en_V → en_S → Prop}  {l0 l1 l3 l4 l5 l6 l7 l8 : en_V} {x2 : Option Nat} {σ : en_S} : en_J (X_X4_measuredBox G q) 24 [l0, l1, en_R x2, l3, l4, l5, l6, l7, l8] [] σ ↔ en_J (X_X4_measuredBox G q) 25 [l0, l1, en_R x2, l3, l4, l5, l6, l7, l8] [en_R x2] σ := en_j1 d_X4_measuredBox_24 rfl rfl
theorem d_X4_measuredBox_25 : decode cX4_measuredBox 25 = .ok (.getfield 53, 3) := by decide +kernel
theorem j_X4_measuredBox_25 {G : en_G} {q : Option en_V → en_S → Prop}  {l0 l1 l2 l3 l4 l5 l6 l7 l8 : en_V} {a0 : Option Nat} {σ : en_S} : en_J (X_X4_measuredBox G q) 25 [l0, l1, l2, l3, l4, l5, l6, l7, l8] [en_R a0] σ ↔ ∃ a, a0 = some a ∧ en_cl σ a = some 4 ∧ en_J (X_X4_measuredBox G q) 28 [l0, l1, l2, l3, l4, l5, l6, l7, l8] [en_R (en_fr σ 410 a)] σ := en_jg (st := fun o => [en_R o]) (st' := fun a => [en_R (en_fr σ 410 a)]) (σ' := fun _ => σ) d_X4_measuredBox_25 rfl (fun a => rfl) (fun a => ⟨fun h => h.2, fun h => ⟨rfl, h⟩⟩)
theorem d_X4_measuredBox_28 : decode cX4_measuredBox 28 = .ok (.aload_n 1, 1) := by decide +kernel
theorem j_X4_measuredBox_28 {G : en_G} {q : Option en_V → en_S → Prop}  {l0 l2 l3 l4 l5 l6 l7 l8 : en_V} {a0 : Option Nat} {x1 : Option Nat} {σ : en_S} : en_J (X_X4_measuredBox G q) 28 [l0, en_R x1, l2, l3, l4, l5, l6, l7, l8] [en_R a0] σ ↔ en_J (X_X4_measuredBox G q) 29 [l0, en_R x1, l2, l3, l4, l5, l6, l7, l8] [en_R x1, en_R a0] σ := en_j1 d_X4_measuredBox_28 rfl rfl
theorem d_X4_measuredBox_29 : decode cX4_measuredBox 29 = .ok (.putfield 57, 3) := by decide +kernel
theorem j_X4_measuredBox_29 {G : en_G} {q : Option en_V → en_S → Prop}  {l0 l1 l2 l3 l4 l5 l6 l7 l8 : en_V} {a0 : Option Nat} {a1 : Option Nat} {σ : en_S} : en_J (X_X4_measuredBox G q) 29 [l0, l1, l2, l3, l4, l5, l6, l7, l8] [en_R a0, en_R a1] σ ↔ ∃ a, a1 = some a ∧ en_cl σ a = some 0 ∧ en_J (X_X4_measuredBox G q) 32 [l0, l1, l2, l3, l4, l5, l6, l7, l8] [] (en_sfr σ 9 a a0) := en_jg (st := fun o => [en_R a0, en_R o]) (st' := fun _ => []) (σ' := fun a => en_sfr σ 9 a a0) d_X4_measuredBox_29 rfl (fun a => rfl) (fun a => ⟨fun h => h.2.1, fun h => ⟨rfl, h, trivial, fun z => absurd z (by decide +kernel)⟩⟩)
theorem d_X4_measuredBox_32 : decode cX4_measuredBox 32 = .ok (.aload_n 2, 1) := by decide +kernel
theorem j_X4_measuredBox_32 {G : en_G} {q : Option en_V → en_S → Prop}  {l0 l1 l3 l4 l5 l6 l7 l8 : en_V} {x2 : Option Nat} {σ : en_S} : en_J (X_X4_measuredBox G q) 32 [l0, l1, en_R x2, l3, l4, l5, l6, l7, l8] [] σ ↔ en_J (X_X4_measuredBox G q) 33 [l0, l1, en_R x2, l3, l4, l5, l6, l7, l8] [en_R x2] σ := en_j1 d_X4_measuredBox_32 rfl rfl
theorem d_X4_measuredBox_33 : decode cX4_measuredBox 33 = .ok (.getfield 53, 3) := by decide +kernel
theorem j_X4_measuredBox_33 {G : en_G} {q : Option en_V → en_S → Prop}  {l0 l1 l2 l3 l4 l5 l6 l7 l8 : en_V} {a0 : Option Nat} {σ : en_S} : en_J (X_X4_measuredBox G q) 33 [l0, l1, l2, l3, l4, l5, l6, l7, l8] [en_R a0] σ ↔ ∃ a, a0 = some a ∧ en_cl σ a = some 4 ∧ en_J (X_X4_measuredBox G q) 36 [l0, l1, l2, l3, l4, l5, l6, l7, l8] [en_R (en_fr σ 410 a)] σ := en_jg (st := fun o => [en_R o]) (st' := fun a => [en_R (en_fr σ 410 a)]) (σ' := fun _ => σ) d_X4_measuredBox_33 rfl (fun a => rfl) (fun a => ⟨fun h => h.2, fun h => ⟨rfl, h⟩⟩)
theorem d_X4_measuredBox_36 : decode cX4_measuredBox 36 = .ok (.astore_n 1, 1) := by decide +kernel
theorem j_X4_measuredBox_36 {G : en_G} {q : Option en_V → en_S → Prop}  {l0 l1 l2 l3 l4 l5 l6 l7 l8 : en_V} {a0 : Option Nat} {σ : en_S} : en_J (X_X4_measuredBox G q) 36 [l0, l1, l2, l3, l4, l5, l6, l7, l8] [en_R a0] σ ↔ en_J (X_X4_measuredBox G q) 37 [en_c2 l0, en_R a0, l2, l3, l4, l5, l6, l7, l8] [] σ := en_j1 d_X4_measuredBox_36 rfl ⟨rfl, Nat.le_of_ble_eq_true rfl⟩
theorem d_X4_measuredBox_37 : decode cX4_measuredBox 37 = .ok (.aload_n 2, 1) := by decide +kernel
theorem j_X4_measuredBox_37 {G : en_G} {q : Option en_V → en_S → Prop}  {l0 l1 l3 l4 l5 l6 l7 l8 : en_V} {x2 : Option Nat} {σ : en_S} : en_J (X_X4_measuredBox G q) 37 [l0, l1, en_R x2, l3, l4, l5, l6, l7, l8] [] σ ↔ en_J (X_X4_measuredBox G q) 38 [l0, l1, en_R x2, l3, l4, l5, l6, l7, l8] [en_R x2] σ := en_j1 d_X4_measuredBox_37 rfl rfl
theorem d_X4_measuredBox_38 : decode cX4_measuredBox 38 = .ok (.invokevirtual 28, 3) := by decide +kernel
theorem j_X4_measuredBox_38 {G : en_G} {q : Option en_V → en_S → Prop}  {l0 l1 l2 l3 l4 l5 l6 l7 l8 : en_V} {a0 : Option Nat} {σ : en_S} : en_J (X_X4_measuredBox G q) 38 [l0, l1, l2, l3, l4, l5, l6, l7, l8] [en_R a0] σ ↔ C_X4_parentOrHost.1 [en_R a0] σ ∧ ∀ (r : Option en_V) (σ' : en_S), C_X4_parentOrHost.2 [en_R a0] σ r σ' → en_J (X_X4_measuredBox G q) 41 [l0, l1, l2, l3, l4, l5, l6, l7, l8] (r.toList ++ []) σ' := en_jk d_X4_measuredBox_38 rfl ⟨fun h => h.2.2.2.2, fun h => ⟨rfl, rfl, Nat.le_of_ble_eq_true rfl, Nat.le_of_ble_eq_true rfl, h⟩⟩
theorem d_X4_measuredBox_41 : decode cX4_measuredBox 41 = .ok (.astore_n 2, 1) := by decide +kernel
theorem j_X4_measuredBox_41 {G : en_G} {q : Option en_V → en_S → Prop}  {l0 l1 l2 l3 l4 l5 l6 l7 l8 : en_V} {a0 : Option Nat} {σ : en_S} : en_J (X_X4_measuredBox G q) 41 [l0, l1, l2, l3, l4, l5, l6, l7, l8] [en_R a0] σ ↔ en_J (X_X4_measuredBox G q) 42 [l0, en_c2 l1, en_R a0, l3, l4, l5, l6, l7, l8] [] σ := en_j1 d_X4_measuredBox_41 rfl ⟨rfl, Nat.le_of_ble_eq_true rfl⟩
theorem d_X4_measuredBox_42 : decode cX4_measuredBox 42 = .ok (.goto (-29), 3) := by decide +kernel
theorem j_X4_measuredBox_42 {G : en_G} {q : Option en_V → en_S → Prop}  {l0 l1 l2 l3 l4 l5 l6 l7 l8 : en_V}  {σ : en_S} : en_J (X_X4_measuredBox G q) 42 [l0, l1, l2, l3, l4, l5, l6, l7, l8] [] σ ↔ en_J (X_X4_measuredBox G q) 13 [l0, l1, l2, l3, l4, l5, l6, l7, l8] [] σ := en_j1 d_X4_measuredBox_42 rfl ⟨rfl, by decide⟩
theorem d_X4_measuredBox_45 : decode cX4_measuredBox 45 = .ok (.dconst 0, 1) := by decide +kernel
theorem j_X4_measuredBox_45 {G : en_G} {q : Option en_V → en_S → Prop}  {l0 l1 l2 l3 l4 l5 l6 l7 l8 : en_V}  {σ : en_S} : en_J (X_X4_measuredBox G q) 45 [l0, l1, l2, l3, l4, l5, l6, l7, l8] [] σ ↔ en_J (X_X4_measuredBox G q) 46 [l0, l1, l2, l3, l4, l5, l6, l7, l8] [en_D FP.dconst0] σ := en_j1 d_X4_measuredBox_45 rfl rfl
theorem d_X4_measuredBox_46 : decode cX4_measuredBox 46 = .ok (.dstore_n 2, 1) := by decide +kernel
theorem j_X4_measuredBox_46 {G : en_G} {q : Option en_V → en_S → Prop}  {l0 l1 l2 l3 l4 l5 l6 l7 l8 : en_V} {a0 : UInt64} {σ : en_S} : en_J (X_X4_measuredBox G q) 46 [l0, l1, l2, l3, l4, l5, l6, l7, l8] [en_D a0] σ ↔ en_J (X_X4_measuredBox G q) 47 [l0, en_c2 l1, en_D a0, en_U, l4, l5, l6, l7, l8] [] σ := en_j1 d_X4_measuredBox_46 rfl ⟨rfl, Nat.le_of_ble_eq_true rfl⟩
theorem d_X4_measuredBox_47 : decode cX4_measuredBox 47 = .ok (.dconst 0, 1) := by decide +kernel
theorem j_X4_measuredBox_47 {G : en_G} {q : Option en_V → en_S → Prop}  {l0 l1 l2 l3 l4 l5 l6 l7 l8 : en_V}  {σ : en_S} : en_J (X_X4_measuredBox G q) 47 [l0, l1, l2, l3, l4, l5, l6, l7, l8] [] σ ↔ en_J (X_X4_measuredBox G q) 48 [l0, l1, l2, l3, l4, l5, l6, l7, l8] [en_D FP.dconst0] σ := en_j1 d_X4_measuredBox_47 rfl rfl
theorem d_X4_measuredBox_48 : decode cX4_measuredBox 48 = .ok (.dstore 4, 2) := by decide +kernel
theorem j_X4_measuredBox_48 {G : en_G} {q : Option en_V → en_S → Prop}  {l0 l1 l2 l3 l4 l5 l6 l7 l8 : en_V} {a0 : UInt64} {σ : en_S} : en_J (X_X4_measuredBox G q) 48 [l0, l1, l2, l3, l4, l5, l6, l7, l8] [en_D a0] σ ↔ en_J (X_X4_measuredBox G q) 50 [l0, l1, l2, en_c2 l3, en_D a0, en_U, l6, l7, l8] [] σ := en_j1 d_X4_measuredBox_48 rfl ⟨rfl, Nat.le_of_ble_eq_true rfl⟩
theorem d_X4_measuredBox_50 : decode cX4_measuredBox 50 = .ok (.dconst 1, 1) := by decide +kernel
theorem j_X4_measuredBox_50 {G : en_G} {q : Option en_V → en_S → Prop}  {l0 l1 l2 l3 l4 l5 l6 l7 l8 : en_V}  {σ : en_S} : en_J (X_X4_measuredBox G q) 50 [l0, l1, l2, l3, l4, l5, l6, l7, l8] [] σ ↔ en_J (X_X4_measuredBox G q) 51 [l0, l1, l2, l3, l4, l5, l6, l7, l8] [en_D FP.dconst1] σ := en_j1 d_X4_measuredBox_50 rfl rfl
theorem d_X4_measuredBox_51 : decode cX4_measuredBox 51 = .ok (.dstore 6, 2) := by decide +kernel
theorem j_X4_measuredBox_51 {G : en_G} {q : Option en_V → en_S → Prop}  {l0 l1 l2 l3 l4 l5 l6 l7 l8 : en_V} {a0 : UInt64} {σ : en_S} : en_J (X_X4_measuredBox G q) 51 [l0, l1, l2, l3, l4, l5, l6, l7, l8] [en_D a0] σ ↔ en_J (X_X4_measuredBox G q) 53 [l0, l1, l2, l3, l4, en_c2 l5, en_D a0, en_U, l8] [] σ := en_j1 d_X4_measuredBox_51 rfl ⟨rfl, Nat.le_of_ble_eq_true rfl⟩
theorem d_X4_measuredBox_53 : decode cX4_measuredBox 53 = .ok (.aload_n 1, 1) := by decide +kernel
theorem j_X4_measuredBox_53 {G : en_G} {q : Option en_V → en_S → Prop}  {l0 l2 l3 l4 l5 l6 l7 l8 : en_V} {x1 : Option Nat} {σ : en_S} : en_J (X_X4_measuredBox G q) 53 [l0, en_R x1, l2, l3, l4, l5, l6, l7, l8] [] σ ↔ en_J (X_X4_measuredBox G q) 54 [l0, en_R x1, l2, l3, l4, l5, l6, l7, l8] [en_R x1] σ := en_j1 d_X4_measuredBox_53 rfl rfl
theorem d_X4_measuredBox_54 : decode cX4_measuredBox 54 = .ok (.astore 8, 2) := by decide +kernel
theorem j_X4_measuredBox_54 {G : en_G} {q : Option en_V → en_S → Prop}  {l0 l1 l2 l3 l4 l5 l6 l7 l8 : en_V} {a0 : Option Nat} {σ : en_S} : en_J (X_X4_measuredBox G q) 54 [l0, l1, l2, l3, l4, l5, l6, l7, l8] [en_R a0] σ ↔ en_J (X_X4_measuredBox G q) 56 [l0, l1, l2, l3, l4, l5, l6, en_c2 l7, en_R a0] [] σ := en_j1 d_X4_measuredBox_54 rfl ⟨rfl, Nat.le_of_ble_eq_true rfl⟩
theorem d_X4_measuredBox_56 : decode cX4_measuredBox 56 = .ok (.aload 8, 2) := by decide +kernel
theorem j_X4_measuredBox_56 {G : en_G} {q : Option en_V → en_S → Prop}  {l0 l1 l2 l3 l4 l5 l6 l7 : en_V} {x8 : Option Nat} {σ : en_S} : en_J (X_X4_measuredBox G q) 56 [l0, l1, l2, l3, l4, l5, l6, l7, en_R x8] [] σ ↔ en_J (X_X4_measuredBox G q) 58 [l0, l1, l2, l3, l4, l5, l6, l7, en_R x8] [en_R x8] σ := en_j1 d_X4_measuredBox_56 rfl rfl
theorem d_X4_measuredBox_58 : decode cX4_measuredBox 58 = .ok (.ifnull 67, 3) := by decide +kernel
theorem j_X4_measuredBox_58 {G : en_G} {q : Option en_V → en_S → Prop}  {l0 l1 l2 l3 l4 l5 l6 l7 l8 : en_V} {a0 : Option Nat} {σ : en_S} : en_J (X_X4_measuredBox G q) 58 [l0, l1, l2, l3, l4, l5, l6, l7, l8] [en_R a0] σ ↔ (a0 = none → en_J (X_X4_measuredBox G q) 125 [l0, l1, l2, l3, l4, l5, l6, l7, l8] [] σ) ∧ (¬ (a0 = none) → en_J (X_X4_measuredBox G q) 61 [l0, l1, l2, l3, l4, l5, l6, l7, l8] [] σ) := en_jb d_X4_measuredBox_58 rfl ⟨rfl, by decide⟩
theorem d_X4_measuredBox_61 : decode cX4_measuredBox 61 = .ok (.dload_n 2, 1) := by decide +kernel
theorem j_X4_measuredBox_61 {G : en_G} {q : Option en_V → en_S → Prop}  {l0 l1 l3 l4 l5 l6 l7 l8 : en_V} {x2 : UInt64} {σ : en_S} : en_J (X_X4_measuredBox G q) 61 [l0, l1, en_D x2, l3, l4, l5, l6, l7, l8] [] σ ↔ en_J (X_X4_measuredBox G q) 62 [l0, l1, en_D x2, l3, l4, l5, l6, l7, l8] [en_D x2] σ := en_j1 d_X4_measuredBox_61 rfl rfl
theorem d_X4_measuredBox_62 : decode cX4_measuredBox 62 = .ok (.aload 8, 2) := by decide +kernel
theorem j_X4_measuredBox_62 {G : en_G} {q : Option en_V → en_S → Prop}  {l0 l1 l2 l3 l4 l5 l6 l7 : en_V} {a0 : UInt64} {x8 : Option Nat} {σ : en_S} : en_J (X_X4_measuredBox G q) 62 [l0, l1, l2, l3, l4, l5, l6, l7, en_R x8] [en_D a0] σ ↔ en_J (X_X4_measuredBox G q) 64 [l0, l1, l2, l3, l4, l5, l6, l7, en_R x8] [en_R x8, en_D a0] σ := en_j1 d_X4_measuredBox_62 rfl rfl
theorem d_X4_measuredBox_64 : decode cX4_measuredBox 64 = .ok (.getfield 62, 3) := by decide +kernel
theorem j_X4_measuredBox_64 {G : en_G} {q : Option en_V → en_S → Prop}  {l0 l1 l2 l3 l4 l5 l6 l7 l8 : en_V} {a0 : Option Nat} {a1 : UInt64} {σ : en_S} : en_J (X_X4_measuredBox G q) 64 [l0, l1, l2, l3, l4, l5, l6, l7, l8] [en_R a0, en_D a1] σ ↔ ∃ a, a0 = some a ∧ en_cl σ a = some 0 ∧ en_J (X_X4_measuredBox G q) 67 [l0, l1, l2, l3, l4, l5, l6, l7, l8] [en_D (en_fd σ 0 a), en_D a1] σ := en_jg (st := fun o => [en_R o, en_D a1]) (st' := fun a => [en_D (en_fd σ 0 a), en_D a1]) (σ' := fun _ => σ) d_X4_measuredBox_64 rfl (fun a => rfl) (fun a => ⟨fun h => h.2, fun h => ⟨rfl, h⟩⟩)
theorem d_X4_measuredBox_67 : decode cX4_measuredBox 67 = .ok (.dload 6, 2) := by decide +kernel
theorem j_X4_measuredBox_67 {G : en_G} {q : Option en_V → en_S → Prop}  {l0 l1 l2 l3 l4 l5 l7 l8 : en_V} {a0 : UInt64} {a1 : UInt64} {x6 : UInt64} {σ : en_S} : en_J (X_X4_measuredBox G q) 67 [l0, l1, l2, l3, l4, l5, en_D x6, l7, l8] [en_D a0, en_D a1] σ ↔ en_J (X_X4_measuredBox G q) 69 [l0, l1, l2, l3, l4, l5, en_D x6, l7, l8] [en_D x6, en_D a0, en_D a1] σ := en_j1 d_X4_measuredBox_67 rfl rfl
theorem d_X4_measuredBox_69 : decode cX4_measuredBox 69 = .ok (.dmul, 1) := by decide +kernel
theorem j_X4_measuredBox_69 {G : en_G} {q : Option en_V → en_S → Prop}  {l0 l1 l2 l3 l4 l5 l6 l7 l8 : en_V} {a0 : UInt64} {a1 : UInt64} {a2 : UInt64} {σ : en_S} : en_J (X_X4_measuredBox G q) 69 [l0, l1, l2, l3, l4, l5, l6, l7, l8] [en_D a0, en_D a1, en_D a2] σ ↔ vf_n64 (FP.dmul a1 a0) ∧ en_J (X_X4_measuredBox G q) 70 [l0, l1, l2, l3, l4, l5, l6, l7, l8] [en_D (FP.dmul a1 a0), en_D a2] σ := en_jc d_X4_measuredBox_69 rfl ⟨fun h => h.2, fun h => ⟨rfl, h⟩⟩
theorem d_X4_measuredBox_70 : decode cX4_measuredBox 70 = .ok (.dadd, 1) := by decide +kernel
theorem j_X4_measuredBox_70 {G : en_G} {q : Option en_V → en_S → Prop}  {l0 l1 l2 l3 l4 l5 l6 l7 l8 : en_V} {a0 : UInt64} {a1 : UInt64} {σ : en_S} : en_J (X_X4_measuredBox G q) 70 [l0, l1, l2, l3, l4, l5, l6, l7, l8] [en_D a0, en_D a1] σ ↔ vf_n64 (FP.dadd a1 a0) ∧ en_J (X_X4_measuredBox G q) 71 [l0, l1, l2, l3, l4, l5, l6, l7, l8] [en_D (FP.dadd a1 a0)] σ := en_jc d_X4_measuredBox_70 rfl ⟨fun h => h.2, fun h => ⟨rfl, h⟩⟩
theorem d_X4_measuredBox_71 : decode cX4_measuredBox 71 = .ok (.dstore_n 2, 1) := by decide +kernel
theorem j_X4_measuredBox_71 {G : en_G} {q : Option en_V → en_S → Prop}  {l0 l1 l2 l3 l4 l5 l6 l7 l8 : en_V} {a0 : UInt64} {σ : en_S} : en_J (X_X4_measuredBox G q) 71 [l0, l1, l2, l3, l4, l5, l6, l7, l8] [en_D a0] σ ↔ en_J (X_X4_measuredBox G q) 72 [l0, en_c2 l1, en_D a0, en_U, l4, l5, l6, l7, l8] [] σ := en_j1 d_X4_measuredBox_71 rfl ⟨rfl, Nat.le_of_ble_eq_true rfl⟩
theorem d_X4_measuredBox_72 : decode cX4_measuredBox 72 = .ok (.dload 4, 2) := by decide +kernel
theorem j_X4_measuredBox_72 {G : en_G} {q : Option en_V → en_S → Prop}  {l0 l1 l2 l3 l5 l6 l7 l8 : en_V} {x4 : UInt64} {σ : en_S} : en_J (X_X4_measuredBox G q) 72 [l0, l1, l2, l3, en_D x4, l5, l6, l7, l8] [] σ ↔ en_J (X_X4_measuredBox G q) 74 [l0, l1, l2, l3, en_D x4, l5, l6, l7, l8] [en_D x4] σ := en_j1 d_X4_measuredBox_72 rfl rfl
theorem d_X4_measuredBox_74 : decode cX4_measuredBox 74 = .ok (.aload 8, 2) := by decide +kernel
theorem j_X4_measuredBox_74 {G : en_G} {q : Option en_V → en_S → Prop}  {l0 l1 l2 l3 l4 l5 l6 l7 : en_V} {a0 : UInt64} {x8 : Option Nat} {σ : en_S} : en_J (X_X4_measuredBox G q) 74 [l0, l1, l2, l3, l4, l5, l6, l7, en_R x8] [en_D a0] σ ↔ en_J (X_X4_measuredBox G q) 76 [l0, l1, l2, l3, l4, l5, l6, l7, en_R x8] [en_R x8, en_D a0] σ := en_j1 d_X4_measuredBox_74 rfl rfl
theorem d_X4_measuredBox_76 : decode cX4_measuredBox 76 = .ok (.getfield 66, 3) := by decide +kernel
theorem j_X4_measuredBox_76 {G : en_G} {q : Option en_V → en_S → Prop}  {l0 l1 l2 l3 l4 l5 l6 l7 l8 : en_V} {a0 : Option Nat} {a1 : UInt64} {σ : en_S} : en_J (X_X4_measuredBox G q) 76 [l0, l1, l2, l3, l4, l5, l6, l7, l8] [en_R a0, en_D a1] σ ↔ ∃ a, a0 = some a ∧ en_cl σ a = some 0 ∧ en_J (X_X4_measuredBox G q) 79 [l0, l1, l2, l3, l4, l5, l6, l7, l8] [en_D (en_fd σ 1 a), en_D a1] σ := en_jg (st := fun o => [en_R o, en_D a1]) (st' := fun a => [en_D (en_fd σ 1 a), en_D a1]) (σ' := fun _ => σ) d_X4_measuredBox_76 rfl (fun a => rfl) (fun a => ⟨fun h => h.2, fun h => ⟨rfl, h⟩⟩)
theorem d_X4_measuredBox_79 : decode cX4_measuredBox 79 = .ok (.dload 6, 2) := by decide +kernel
theorem j_X4_measuredBox_79 {G : en_G} {q : Option en_V → en_S → Prop}  {l0 l1 l2 l3 l4 l5 l7 l8 : en_V} {a0 : UInt64} {a1 : UInt64} {x6 : UInt64} {σ : en_S} : en_J (X_X4_measuredBox G q) 79 [l0, l1, l2, l3, l4, l5, en_D x6, l7, l8] [en_D a0, en_D a1] σ ↔ en_J (X_X4_measuredBox G q) 81 [l0, l1, l2, l3, l4, l5, en_D x6, l7, l8] [en_D x6, en_D a0, en_D a1] σ := en_j1 d_X4_measuredBox_79 rfl rfl
theorem d_X4_measuredBox_81 : decode cX4_measuredBox 81 = .ok (.dmul, 1) := by decide +kernel
theorem j_X4_measuredBox_81 {G : en_G} {q : Option en_V → en_S → Prop}  {l0 l1 l2 l3 l4 l5 l6 l7 l8 : en_V} {a0 : UInt64} {a1 : UInt64} {a2 : UInt64} {σ : en_S} : en_J (X_X4_measuredBox G q) 81 [l0, l1, l2, l3, l4, l5, l6, l7, l8] [en_D a0, en_D a1, en_D a2] σ ↔ vf_n64 (FP.dmul a1 a0) ∧ en_J (X_X4_measuredBox G q) 82 [l0, l1, l2, l3, l4, l5, l6, l7, l8] [en_D (FP.dmul a1 a0), en_D a2] σ := en_jc d_X4_measuredBox_81 rfl ⟨fun h => h.2, fun h => ⟨rfl, h⟩⟩
theorem d_X4_measuredBox_82 : decode cX4_measuredBox 82 = .ok (.dadd, 1) := by decide +kernel
theorem j_X4_measuredBox_82 {G : en_G} {q : Option en_V → en_S → Prop}  {l0 l1 l2 l3 l4 l5 l6 l7 l8 : en_V} {a0 : UInt64} {a1 : UInt64} {σ : en_S} : en_J (X_X4_measuredBox G q) 82 [l0, l1, l2, l3, l4, l5, l6, l7, l8] [en_D a0, en_D a1] σ ↔ vf_n64 (FP.dadd a1 a0) ∧ en_J (X_X4_measuredBox G q) 83 [l0, l1, l2, l3, l4, l5, l6, l7, l8] [en_D (FP.dadd a1 a0)] σ := en_jc d_X4_measuredBox_82 rfl ⟨fun h => h.2, fun h => ⟨rfl, h⟩⟩
theorem d_X4_measuredBox_83 : decode cX4_measuredBox 83 = .ok (.dstore 4, 2) := by decide +kernel
theorem j_X4_measuredBox_83 {G : en_G} {q : Option en_V → en_S → Prop}  {l0 l1 l2 l3 l4 l5 l6 l7 l8 : en_V} {a0 : UInt64} {σ : en_S} : en_J (X_X4_measuredBox G q) 83 [l0, l1, l2, l3, l4, l5, l6, l7, l8] [en_D a0] σ ↔ en_J (X_X4_measuredBox G q) 85 [l0, l1, l2, en_c2 l3, en_D a0, en_U, l6, l7, l8] [] σ := en_j1 d_X4_measuredBox_83 rfl ⟨rfl, Nat.le_of_ble_eq_true rfl⟩
theorem d_X4_measuredBox_85 : decode cX4_measuredBox 85 = .ok (.dload 6, 2) := by decide +kernel
theorem j_X4_measuredBox_85 {G : en_G} {q : Option en_V → en_S → Prop}  {l0 l1 l2 l3 l4 l5 l7 l8 : en_V} {x6 : UInt64} {σ : en_S} : en_J (X_X4_measuredBox G q) 85 [l0, l1, l2, l3, l4, l5, en_D x6, l7, l8] [] σ ↔ en_J (X_X4_measuredBox G q) 87 [l0, l1, l2, l3, l4, l5, en_D x6, l7, l8] [en_D x6] σ := en_j1 d_X4_measuredBox_85 rfl rfl
theorem d_X4_measuredBox_87 : decode cX4_measuredBox 87 = .ok (.aload 8, 2) := by decide +kernel
theorem j_X4_measuredBox_87 {G : en_G} {q : Option en_V → en_S → Prop}  {l0 l1 l2 l3 l4 l5 l6 l7 : en_V} {a0 : UInt64} {x8 : Option Nat} {σ : en_S} : en_J (X_X4_measuredBox G q) 87 [l0, l1, l2, l3, l4, l5, l6, l7, en_R x8] [en_D a0] σ ↔ en_J (X_X4_measuredBox G q) 89 [l0, l1, l2, l3, l4, l5, l6, l7, en_R x8] [en_R x8, en_D a0] σ := en_j1 d_X4_measuredBox_87 rfl rfl
theorem d_X4_measuredBox_89 : decode cX4_measuredBox 89 = .ok (.getfield 69, 3) := by decide +kernel
theorem j_X4_measuredBox_89 {G : en_G} {q : Option en_V → en_S → Prop}  {l0 l1 l2 l3 l4 l5 l6 l7 l8 : en_V} {a0 : Option Nat} {a1 : UInt64} {σ : en_S} : en_J (X_X4_measuredBox G q) 89 [l0, l1, l2, l3, l4, l5, l6, l7, l8] [en_R a0, en_D a1] σ ↔ ∃ a, a0 = some a ∧ en_cl σ a = some 0 ∧ en_J (X_X4_measuredBox G q) 92 [l0, l1, l2, l3, l4, l5, l6, l7, l8] [en_D (en_fd σ 4 a), en_D a1] σ := en_jg (st := fun o => [en_R o, en_D a1]) (st' := fun a => [en_D (en_fd σ 4 a), en_D a1]) (σ' := fun _ => σ) d_X4_measuredBox_89 rfl (fun a => rfl) (fun a => ⟨fun h => h.2, fun h => ⟨rfl, h⟩⟩)
theorem d_X4_measuredBox_92 : decode cX4_measuredBox 92 = .ok (.dmul, 1) := by decide +kernel
theorem j_X4_measuredBox_92 {G : en_G} {q : Option en_V → en_S → Prop}  {l0 l1 l2 l3 l4 l5 l6 l7 l8 : en_V} {a0 : UInt64} {a1 : UInt64} {σ : en_S} : en_J (X_X4_measuredBox G q) 92 [l0, l1, l2, l3, l4, l5, l6, l7, l8] [en_D a0, en_D a1] σ ↔ vf_n64 (FP.dmul a1 a0) ∧ en_J (X_X4_measuredBox G q) 93 [l0, l1, l2, l3, l4, l5, l6, l7, l8] [en_D (FP.dmul a1 a0)] σ := en_jc d_X4_measuredBox_92 rfl ⟨fun h => h.2, fun h => ⟨rfl, h⟩⟩
theorem d_X4_measuredBox_93 : decode cX4_measuredBox 93 = .ok (.dstore 6, 2) := by decide +kernel
theorem j_X4_measuredBox_93 {G : en_G} {q : Option en_V → en_S → Prop}  {l0 l1 l2 l3 l4 l5 l6 l7 l8 : en_V} {a0 : UInt64} {σ : en_S} : en_J (X_X4_measuredBox G q) 93 [l0, l1, l2, l3, l4, l5, l6, l7, l8] [en_D a0] σ ↔ en_J (X_X4_measuredBox G q) 95 [l0, l1, l2, l3, l4, en_c2 l5, en_D a0, en_U, l8] [] σ := en_j1 d_X4_measuredBox_93 rfl ⟨rfl, Nat.le_of_ble_eq_true rfl⟩
theorem d_X4_measuredBox_95 : decode cX4_measuredBox 95 = .ok (.aload 8, 2) := by decide +kernel
theorem j_X4_measuredBox_95 {G : en_G} {q : Option en_V → en_S → Prop}  {l0 l1 l2 l3 l4 l5 l6 l7 : en_V} {x8 : Option Nat} {σ : en_S} : en_J (X_X4_measuredBox G q) 95 [l0, l1, l2, l3, l4, l5, l6, l7, en_R x8] [] σ ↔ en_J (X_X4_measuredBox G q) 97 [l0, l1, l2, l3, l4, l5, l6, l7, en_R x8] [en_R x8] σ := en_j1 d_X4_measuredBox_95 rfl rfl
theorem d_X4_measuredBox_97 : decode cX4_measuredBox 97 = .ok (.dload_n 2, 1) := by decide +kernel
theorem j_X4_measuredBox_97 {G : en_G} {q : Option en_V → en_S → Prop}  {l0 l1 l3 l4 l5 l6 l7 l8 : en_V} {a0 : Option Nat} {x2 : UInt64} {σ : en_S} : en_J (X_X4_measuredBox G q) 97 [l0, l1, en_D x2, l3, l4, l5, l6, l7, l8] [en_R a0] σ ↔ en_J (X_X4_measuredBox G q) 98 [l0, l1, en_D x2, l3, l4, l5, l6, l7, l8] [en_D x2, en_R a0] σ := en_j1 d_X4_measuredBox_97 rfl rfl
theorem d_X4_measuredBox_98 : decode cX4_measuredBox 98 = .ok (.putfield 72, 3) := by decide +kernel
theorem j_X4_measuredBox_98 {G : en_G} {q : Option en_V → en_S → Prop}  {l0 l1 l2 l3 l4 l5 l6 l7 l8 : en_V} {a0 : UInt64} {a1 : Option Nat} {σ : en_S} : en_J (X_X4_measuredBox G q) 98 [l0, l1, l2, l3, l4, l5, l6, l7, l8] [en_D a0, en_R a1] σ ↔ ∃ a, a1 = some a ∧ en_cl σ a = some 0 ∧ en_J (X_X4_measuredBox G q) 101 [l0, l1, l2, l3, l4, l5, l6, l7, l8] [] (en_sfd σ 6 a a0) := en_jg (st := fun o => [en_D a0, en_R o]) (st' := fun _ => []) (σ' := fun a => en_sfd σ 6 a a0) d_X4_measuredBox_98 rfl (fun a => rfl) (fun a => ⟨fun h => h.2.1, fun h => ⟨rfl, h, trivial, fun z => absurd z (by decide +kernel)⟩⟩)
theorem d_X4_measuredBox_101 : decode cX4_measuredBox 101 = .ok (.aload 8, 2) := by decide +kernel
theorem j_X4_measuredBox_101 {G : en_G} {q : Option en_V → en_S → Prop}  {l0 l1 l2 l3 l4 l5 l6 l7 : en_V} {x8 : Option Nat} {σ : en_S} : en_J (X_X4_measuredBox G q) 101 [l0, l1, l2, l3, l4, l5, l6, l7, en_R x8] [] σ ↔ en_J (X_X4_measuredBox G q) 103 [l0, l1, l2, l3, l4, l5, l6, l7, en_R x8] [en_R x8] σ := en_j1 d_X4_measuredBox_101 rfl rfl
theorem d_X4_measuredBox_103 : decode cX4_measuredBox 103 = .ok (.dload 4, 2) := by decide +kernel
theorem j_X4_measuredBox_103 {G : en_G} {q : Option en_V → en_S → Prop}  {l0 l1 l2 l3 l5 l6 l7 l8 : en_V} {a0 : Option Nat} {x4 : UInt64} {σ : en_S} : en_J (X_X4_measuredBox G q) 103 [l0, l1, l2, l3, en_D x4, l5, l6, l7, l8] [en_R a0] σ ↔ en_J (X_X4_measuredBox G q) 105 [l0, l1, l2, l3, en_D x4, l5, l6, l7, l8] [en_D x4, en_R a0] σ := en_j1 d_X4_measuredBox_103 rfl rfl
theorem d_X4_measuredBox_105 : decode cX4_measuredBox 105 = .ok (.putfield 75, 3) := by decide +kernel
theorem j_X4_measuredBox_105 {G : en_G} {q : Option en_V → en_S → Prop}  {l0 l1 l2 l3 l4 l5 l6 l7 l8 : en_V} {a0 : UInt64} {a1 : Option Nat} {σ : en_S} : en_J (X_X4_measuredBox G q) 105 [l0, l1, l2, l3, l4, l5, l6, l7, l8] [en_D a0, en_R a1] σ ↔ ∃ a, a1 = some a ∧ en_cl σ a = some 0 ∧ en_J (X_X4_measuredBox G q) 108 [l0, l1, l2, l3, l4, l5, l6, l7, l8] [] (en_sfd σ 7 a a0) := en_jg (st := fun o => [en_D a0, en_R o]) (st' := fun _ => []) (σ' := fun a => en_sfd σ 7 a a0) d_X4_measuredBox_105 rfl (fun a => rfl) (fun a => ⟨fun h => h.2.1, fun h => ⟨rfl, h, trivial, fun z => absurd z (by decide +kernel)⟩⟩)
theorem d_X4_measuredBox_108 : decode cX4_measuredBox 108 = .ok (.aload 8, 2) := by decide +kernel
theorem j_X4_measuredBox_108 {G : en_G} {q : Option en_V → en_S → Prop}  {l0 l1 l2 l3 l4 l5 l6 l7 : en_V} {x8 : Option Nat} {σ : en_S} : en_J (X_X4_measuredBox G q) 108 [l0, l1, l2, l3, l4, l5, l6, l7, en_R x8] [] σ ↔ en_J (X_X4_measuredBox G q) 110 [l0, l1, l2, l3, l4, l5, l6, l7, en_R x8] [en_R x8] σ := en_j1 d_X4_measuredBox_108 rfl rfl
theorem d_X4_measuredBox_110 : decode cX4_measuredBox 110 = .ok (.dload 6, 2) := by decide +kernel
theorem j_X4_measuredBox_110 {G : en_G} {q : Option en_V → en_S → Prop}  {l0 l1 l2 l3 l4 l5 l7 l8 : en_V} {a0 : Option Nat} {x6 : UInt64} {σ : en_S} : en_J (X_X4_measuredBox G q) 110 [l0, l1, l2, l3, l4, l5, en_D x6, l7, l8] [en_R a0] σ ↔ en_J (X_X4_measuredBox G q) 112 [l0, l1, l2, l3, l4, l5, en_D x6, l7, l8] [en_D x6, en_R a0] σ := en_j1 d_X4_measuredBox_110 rfl rfl
theorem d_X4_measuredBox_112 : decode cX4_measuredBox 112 = .ok (.putfield 78, 3) := by decide +kernel
theorem j_X4_measuredBox_112 {G : en_G} {q : Option en_V → en_S → Prop}  {l0 l1 l2 l3 l4 l5 l6 l7 l8 : en_V} {a0 : UInt64} {a1 : Option Nat} {σ : en_S} : en_J (X_X4_measuredBox G q) 112 [l0, l1, l2, l3, l4, l5, l6, l7, l8] [en_D a0, en_R a1] σ ↔ ∃ a, a1 = some a ∧ en_cl σ a = some 0 ∧ en_J (X_X4_measuredBox G q) 115 [l0, l1, l2, l3, l4, l5, l6, l7, l8] [] (en_sfd σ 8 a a0) := en_jg (st := fun o => [en_D a0, en_R o]) (st' := fun _ => []) (σ' := fun a => en_sfd σ 8 a a0) d_X4_measuredBox_112 rfl (fun a => rfl) (fun a => ⟨fun h => h.2.1, fun h => ⟨rfl, h, trivial, fun z => absurd z (by decide +kernel)⟩⟩)
theorem d_X4_measuredBox_115 : decode cX4_measuredBox 115 = .ok (.aload 8, 2) := by decide +kernel
theorem j_X4_measuredBox_115 {G : en_G} {q : Option en_V → en_S → Prop}  {l0 l1 l2 l3 l4 l5 l6 l7 : en_V} {x8 : Option Nat} {σ : en_S} : en_J (X_X4_measuredBox G q) 115 [l0, l1, l2, l3, l4, l5, l6, l7, en_R x8] [] σ ↔ en_J (X_X4_measuredBox G q) 117 [l0, l1, l2, l3, l4, l5, l6, l7, en_R x8] [en_R x8] σ := en_j1 d_X4_measuredBox_115 rfl rfl
theorem d_X4_measuredBox_117 : decode cX4_measuredBox 117 = .ok (.getfield 57, 3) := by decide +kernel
theorem j_X4_measuredBox_117 {G : en_G} {q : Option en_V → en_S → Prop}  {l0 l1 l2 l3 l4 l5 l6 l7 l8 : en_V} {a0 : Option Nat} {σ : en_S} : en_J (X_X4_measuredBox G q) 117 [l0, l1, l2, l3, l4, l5, l6, l7, l8] [en_R a0] σ ↔ ∃ a, a0 = some a ∧ en_cl σ a = some 0 ∧ en_J (X_X4_measuredBox G q) 120 [l0, l1, l2, l3, l4, l5, l6, l7, l8] [en_R (en_fr σ 9 a)] σ := en_jg (st := fun o => [en_R o]) (st' := fun a => [en_R (en_fr σ 9 a)]) (σ' := fun _ => σ) d_X4_measuredBox_117 rfl (fun a => rfl) (fun a => ⟨fun h => h.2, fun h => ⟨rfl, h⟩⟩)
theorem d_X4_measuredBox_120 : decode cX4_measuredBox 120 = .ok (.astore 8, 2) := by decide +kernel
theorem j_X4_measuredBox_120 {G : en_G} {q : Option en_V → en_S → Prop}  {l0 l1 l2 l3 l4 l5 l6 l7 l8 : en_V} {a0 : Option Nat} {σ : en_S} : en_J (X_X4_measuredBox G q) 120 [l0, l1, l2, l3, l4, l5, l6, l7, l8] [en_R a0] σ ↔ en_J (X_X4_measuredBox G q) 122 [l0, l1, l2, l3, l4, l5, l6, en_c2 l7, en_R a0] [] σ := en_j1 d_X4_measuredBox_120 rfl ⟨rfl, Nat.le_of_ble_eq_true rfl⟩
theorem d_X4_measuredBox_122 : decode cX4_measuredBox 122 = .ok (.goto (-66), 3) := by decide +kernel
theorem j_X4_measuredBox_122 {G : en_G} {q : Option en_V → en_S → Prop}  {l0 l1 l2 l3 l4 l5 l6 l7 l8 : en_V}  {σ : en_S} : en_J (X_X4_measuredBox G q) 122 [l0, l1, l2, l3, l4, l5, l6, l7, l8] [] σ ↔ en_J (X_X4_measuredBox G q) 56 [l0, l1, l2, l3, l4, l5, l6, l7, l8] [] σ := en_j1 d_X4_measuredBox_122 rfl ⟨rfl, by decide⟩
theorem d_X4_measuredBox_125 : decode cX4_measuredBox 125 = .ok (.aload_n 0, 1) := by decide +kernel
theorem j_X4_measuredBox_125 {G : en_G} {q : Option en_V → en_S → Prop}  {l1 l2 l3 l4 l5 l6 l7 l8 : en_V} {x0 : Option Nat} {σ : en_S} : en_J (X_X4_measuredBox G q) 125 [en_R x0, l1, l2, l3, l4, l5, l6, l7, l8] [] σ ↔ en_J (X_X4_measuredBox G q) 126 [en_R x0, l1, l2, l3, l4, l5, l6, l7, l8] [en_R x0] σ := en_j1 d_X4_measuredBox_125 rfl rfl
theorem d_X4_measuredBox_126 : decode cX4_measuredBox 126 = .ok (.getfield 53, 3) := by decide +kernel
theorem j_X4_measuredBox_126 {G : en_G} {q : Option en_V → en_S → Prop}  {l0 l1 l2 l3 l4 l5 l6 l7 l8 : en_V} {a0 : Option Nat} {σ : en_S} : en_J (X_X4_measuredBox G q) 126 [l0, l1, l2, l3, l4, l5, l6, l7, l8] [en_R a0] σ ↔ ∃ a, a0 = some a ∧ en_cl σ a = some 4 ∧ en_J (X_X4_measuredBox G q) 129 [l0, l1, l2, l3, l4, l5, l6, l7, l8] [en_R (en_fr σ 410 a)] σ := en_jg (st := fun o => [en_R o]) (st' := fun a => [en_R (en_fr σ 410 a)]) (σ' := fun _ => σ) d_X4_measuredBox_126 rfl (fun a => rfl) (fun a => ⟨fun h => h.2, fun h => ⟨rfl, h⟩⟩)
theorem d_X4_measuredBox_129 : decode cX4_measuredBox 129 = .ok (.areturn, 1) := by decide +kernel
theorem j_X4_measuredBox_129 {G : en_G} {q : Option en_V → en_S → Prop}  {l0 l1 l2 l3 l4 l5 l6 l7 l8 : en_V} {a0 : Option Nat} {σ : en_S} : en_J (X_X4_measuredBox G q) 129 [l0, l1, l2, l3, l4, l5, l6, l7, l8] [en_R a0] σ ↔ q (some (en_R a0)) σ := en_jr d_X4_measuredBox_129 rfl ⟨fun h => h.2.2, fun h => ⟨rfl, rfl, h⟩⟩
theorem wc_X4_measuredBox : Jvm.Cond.code yX4_measuredBox cX4_measuredBox 9 (some (.object "NodeStage$Box")) ∈ en_W := en_inW (List.mem_of_getElem? (i := 353) (by decide +kernel)) (by decide +kernel)
theorem wi_X4_measuredBox : Jvm.Cond.instanceMethod yX4_measuredBox ∈ en_W := en_inW (List.mem_of_getElem? (i := 351) (by decide +kernel)) (by decide +kernel)
theorem wx_X4_measuredBox : Jvm.Cond.selects RX4 yX4_measuredBox yX4_measuredBox ∈ en_W := en_inW (List.mem_of_getElem? (i := 352) (by decide +kernel)) (by decide +kernel)
theorem jw2_X4_measuredBox {G : en_G} {q : Option en_V → en_S → Prop} {x : Nat} {na la ba : Nat → Nat} {rm : Nat} {A : st_A} {n : Nat} {o1 : Option Nat} {σ0 : en_S} (hn : n < tr_N (sa_T A)) (hC0 : CX G x na la ba rm A σ0) (h2 : en_fr σ0 410 (na n) = (sa_B A n).map (fun _ => ba n)) : ∀ (l : List Nat) (j : Nat) (m : ms_M) (σ : en_S), CX G x na la ba rm A σ → j + l.length ≤ 24 → ms_ok j m → ms_ln ba σ l → l.Nodup → (∀ k ∈ l, k < tr_N (sa_T A) ∧ sa_B A k ≠ none) → (∀ σ', ag σ σ' bF (fun _ => True) → sz σ σ' → (∀ f c, (∀ k ∈ l, c ≠ ba k) → en_fd σ' f c = en_fd σ f c) → (∀ k, l.getLast? = some k → en_fd σ' 6 (ba k) = (l.foldl (ms_st A) m).1 ∧ en_fd σ' 7 (ba k) = (l.foldl (ms_st A) m).2.1 ∧ en_fd σ' 8 (ba k) = (l.foldl (ms_st A) m).2.2) → q (some (en_R ((sa_B A n).map (fun _ => ba n)))) σ') → en_J (X_X4_measuredBox G q) 56 [en_R (some (na n)), en_R o1, en_D m.1, en_U, en_D m.2.1, en_U, en_D m.2.2, en_U, en_R (l.head?.map ba)] [] σ := by
  intro l
  induction l with
  | nil =>
    intro j m σ hC hj hm hl hnd hlt hq
    have e1 := (hC.2.2.1 n hn).2.1
    have e2 := (hC.2.1.1 n hn).1
    rw [j_X4_measuredBox_56]
    simp only [j_X4_measuredBox_0, j_X4_measuredBox_1, j_X4_measuredBox_4, j_X4_measuredBox_7, j_X4_measuredBox_8, j_X4_measuredBox_9, j_X4_measuredBox_10, j_X4_measuredBox_11, j_X4_measuredBox_12, j_X4_measuredBox_14, j_X4_measuredBox_17, j_X4_measuredBox_18, j_X4_measuredBox_21, j_X4_measuredBox_24, j_X4_measuredBox_25, j_X4_measuredBox_28, j_X4_measuredBox_29, j_X4_measuredBox_32, j_X4_measuredBox_33, j_X4_measuredBox_36, j_X4_measuredBox_37, j_X4_measuredBox_38, j_X4_measuredBox_41, j_X4_measuredBox_42, j_X4_measuredBox_45, j_X4_measuredBox_46, j_X4_measuredBox_47, j_X4_measuredBox_48, j_X4_measuredBox_50, j_X4_measuredBox_51, j_X4_measuredBox_53, j_X4_measuredBox_54, j_X4_measuredBox_58, j_X4_measuredBox_61, j_X4_measuredBox_62, j_X4_measuredBox_64, j_X4_measuredBox_67, j_X4_measuredBox_69, j_X4_measuredBox_70, j_X4_measuredBox_71, j_X4_measuredBox_72, j_X4_measuredBox_74, j_X4_measuredBox_76, j_X4_measuredBox_79, j_X4_measuredBox_81, j_X4_measuredBox_82, j_X4_measuredBox_83, j_X4_measuredBox_85, j_X4_measuredBox_87, j_X4_measuredBox_89, j_X4_measuredBox_92, j_X4_measuredBox_93, j_X4_measuredBox_95, j_X4_measuredBox_97, j_X4_measuredBox_98, j_X4_measuredBox_101, j_X4_measuredBox_103, j_X4_measuredBox_105, j_X4_measuredBox_108, j_X4_measuredBox_110, j_X4_measuredBox_112, j_X4_measuredBox_115, j_X4_measuredBox_117, j_X4_measuredBox_120, j_X4_measuredBox_122, j_X4_measuredBox_125, j_X4_measuredBox_126, j_X4_measuredBox_129, en_c2I, en_c2R, en_c2U, en_c2D, Option.some.injEq, exists_eq_left', exists_eq_left, Option.map_some, Option.map_none, not_true_eq_false, false_implies, true_implies, and_true, true_and, reduceCtorEq, not_false_eq_true, List.head?_nil, e2, e1]
    exact hq σ ag.rf sz.rf (fun _ _ _ => rfl) (fun k z => by cases z)
  | cons a l ih =>
    intro j m σ hC hj hm hl hnd hlt hq
    obtain ⟨ha, hab⟩ := hlt a List.mem_cons_self
    obtain ⟨b, hb⟩ := Option.ne_none_iff_exists'.mp hab
    obtain ⟨c1, c2, c3, c4, c5, c6, c7⟩ := hC.2.2.2.1.1 a b ha hb
    have hfin := (hC.2.2.2.2.2.2.2.2.1.2.2.2.2.2.2 a b ha hb).2
    rw [List.length_cons] at hj
    obtain ⟨f1, f2, f3, f4, f5, f6⟩ := ms_step hb hfin hm (by omega)
    obtain ⟨hl1, hl2⟩ := hl
    have hst : ms_st A m a = (FP.dadd m.1 (FP.dmul b.1 m.2.2), FP.dadd m.2.1 (FP.dmul b.2.1 m.2.2), FP.dmul m.2.2 b.2.2.2.2.1) := by unfold ms_st; rw [hb]
    obtain ⟨hna, hnd'⟩ := List.nodup_cons.mp hnd
    have g1 : ag σ (en_sfd (en_sfd (en_sfd σ 6 (ba a) (FP.dadd m.1 (FP.dmul b.1 m.2.2))) 7 (ba a) (FP.dadd m.2.1 (FP.dmul b.2.1 m.2.2))) 8 (ba a) (FP.dmul m.2.2 b.2.2.2.2.1)) bF (fun _ => True) := ((ag_sfd (fun b z => by unfold bF at z; omega)).tr (ag_sfd (fun b z => by unfold bF at z; omega))).tr (ag_sfd (fun b z => by unfold bF at z; omega))
    have hC1 := cx_box (σ' := en_sfd (en_sfd (en_sfd σ 6 (ba a) (FP.dadd m.1 (FP.dmul b.1 m.2.2))) 7 (ba a) (FP.dadd m.2.1 (FP.dmul b.2.1 m.2.2))) 8 (ba a) (FP.dmul m.2.2 b.2.2.2.2.1)) hC g1 ⟨rfl, rfl, rfl, rfl⟩
    rw [j_X4_measuredBox_56]
    simp only [j_X4_measuredBox_0, j_X4_measuredBox_1, j_X4_measuredBox_4, j_X4_measuredBox_7, j_X4_measuredBox_8, j_X4_measuredBox_9, j_X4_measuredBox_10, j_X4_measuredBox_11, j_X4_measuredBox_12, j_X4_measuredBox_14, j_X4_measuredBox_17, j_X4_measuredBox_18, j_X4_measuredBox_21, j_X4_measuredBox_24, j_X4_measuredBox_25, j_X4_measuredBox_28, j_X4_measuredBox_29, j_X4_measuredBox_32, j_X4_measuredBox_33, j_X4_measuredBox_36, j_X4_measuredBox_37, j_X4_measuredBox_38, j_X4_measuredBox_41, j_X4_measuredBox_42, j_X4_measuredBox_45, j_X4_measuredBox_46, j_X4_measuredBox_47, j_X4_measuredBox_48, j_X4_measuredBox_50, j_X4_measuredBox_51, j_X4_measuredBox_53, j_X4_measuredBox_54, j_X4_measuredBox_58, j_X4_measuredBox_61, j_X4_measuredBox_62, j_X4_measuredBox_64, j_X4_measuredBox_67, j_X4_measuredBox_69, j_X4_measuredBox_70, j_X4_measuredBox_71, j_X4_measuredBox_72, j_X4_measuredBox_74, j_X4_measuredBox_76, j_X4_measuredBox_79, j_X4_measuredBox_81, j_X4_measuredBox_82, j_X4_measuredBox_83, j_X4_measuredBox_85, j_X4_measuredBox_87, j_X4_measuredBox_89, j_X4_measuredBox_92, j_X4_measuredBox_93, j_X4_measuredBox_95, j_X4_measuredBox_97, j_X4_measuredBox_98, j_X4_measuredBox_101, j_X4_measuredBox_103, j_X4_measuredBox_105, j_X4_measuredBox_108, j_X4_measuredBox_110, j_X4_measuredBox_112, j_X4_measuredBox_115, j_X4_measuredBox_117, j_X4_measuredBox_120, j_X4_measuredBox_122, j_X4_measuredBox_125, j_X4_measuredBox_126, j_X4_measuredBox_129, en_c2I, en_c2R, en_c2U, en_c2D, Option.some.injEq, exists_eq_left', exists_eq_left, Option.map_some, Option.map_none, not_true_eq_false, false_implies, true_implies, and_true, true_and, reduceCtorEq, not_false_eq_true, eg_cl_sfi, eg_fi_sfi, eg_fr_sfi, eg_fd_sfi, eg_al_sfi, eg_ai_sfi, eg_ar_sfi, eg_ad_sfi, eg_aj_sfi, eg_nx_sfi, eg_ns_sfi, eg_cl_sfr, eg_fi_sfr, eg_fr_sfr, eg_fd_sfr, eg_al_sfr, eg_ai_sfr, eg_ar_sfr, eg_ad_sfr, eg_aj_sfr, eg_nx_sfr, eg_ns_sfr, eg_cl_sfd, eg_fi_sfd, eg_fr_sfd, eg_fd_sfd, eg_al_sfd, eg_ai_sfd, eg_ar_sfd, eg_ad_sfd, eg_aj_sfd, eg_nx_sfd, eg_ns_sfd, eg_cl_sai, eg_fi_sai, eg_fr_sai, eg_fd_sai, eg_al_sai, eg_ai_sai, eg_ar_sai, eg_ad_sai, eg_aj_sai, eg_nx_sai, eg_ns_sai, eg_cl_sar, eg_fi_sar, eg_fr_sar, eg_fd_sar, eg_al_sar, eg_ai_sar, eg_ar_sar, eg_ad_sar, eg_aj_sar, eg_nx_sar, eg_ns_sar, eg_cl_sad, eg_fi_sad, eg_fr_sad, eg_fd_sad, eg_al_sad, eg_ai_sad, eg_ar_sad, eg_ad_sad, eg_aj_sad, eg_nx_sad, eg_ns_sad, eg_cl_saj, eg_fi_saj, eg_fr_saj, eg_fd_saj, eg_al_saj, eg_ai_saj, eg_ar_saj, eg_ad_saj, eg_aj_saj, eg_nx_saj, eg_ns_saj, eg_cl_new, eg_fi_new, eg_fr_new, eg_fd_new, eg_al_new, eg_ai_new, eg_ar_new, eg_ad_new, eg_aj_new, eg_nx_new, eg_ns_new, eg_cl_newa, eg_fi_newa, eg_fr_newa, eg_fd_newa, eg_al_newa, eg_ai_newa, eg_ar_newa, eg_ad_newa, eg_aj_newa, eg_nx_newa, eg_ns_newa, eg_cl_bump, eg_fi_bump, eg_fr_bump, eg_fd_bump, eg_al_bump, eg_ai_bump, eg_ar_bump, eg_ad_bump, eg_aj_bump, eg_nx_bump, eg_ns_bump, List.head?_cons, c1, c2, c3, c6, f1, f2, f3, f4, f5, hl1]
    rw [hst] at f6
    refine ih (j + 1) (FP.dadd m.1 (FP.dmul b.1 m.2.2), FP.dadd m.2.1 (FP.dmul b.2.1 m.2.2), FP.dmul m.2.2 b.2.2.2.2.1) _ hC1 (by omega) f6 (ms_ln_congr (σ := σ) (fun _ _ => rfl) hl2) hnd' (fun k hk => hlt k (List.mem_cons_of_mem _ hk)) ?_
    intro σ' g2 s2 hrest hv
    refine hq σ' (g1.tr g2) (sz.tr ⟨rfl, rfl, rfl, rfl⟩ s2) (fun f c hc => ?_) (fun k hk => ?_)
    · rw [hrest f c (fun k hk => hc k (List.mem_cons_of_mem _ hk))]
      have hca : ¬ c = ba a := hc a List.mem_cons_self
      simp only [eg_fd_sfd, hca, and_false, if_false]
    rw [List.foldl_cons, hst]
    cases l with
    | nil =>
      simp at hk
      subst hk
      have r : ∀ f, en_fd σ' f (ba a) = _ := fun f => hrest f (ba a) (fun k z => by cases z)
      rw [r 6, r 7, r 8]
      simp [eg_fd_sfd]
    | cons c l =>
      rw [List.getLast?_cons_cons] at hk
      exact hv k hk
theorem jw1_X4_measuredBox {G : en_G} {q : Option en_V → en_S → Prop} {x : Nat} {na la ba : Nat → Nat} {rm : Nat} {A : st_A} {o0 : Option Nat} {l3 l4 l5 l6 l7 l8 : en_V} : ∀ (k : Nat) (cur : Option Nat) (acc : List Nat) (σ : en_S), CX G x na la ba rm A σ → (∀ m, cur = some m → m < tr_N (sa_T A) ∧ tr_it (sa_T A) k m = none) → ms_ln ba σ acc → (acc.reverse ++ cur.elim [] (ms_ch A k)).Nodup → (∀ m ∈ acc, m < tr_N (sa_T A) ∧ sa_B A m ≠ none) → (∀ σ', ag σ σ' bF (fun _ => True) → sz σ σ' → ms_ln ba σ' ((cur.elim [] (ms_ch A k)).reverse ++ acc) → en_J (X_X4_measuredBox G q) 56 [en_R o0, en_R (((cur.elim [] (ms_ch A k)).reverse ++ acc).head?.map ba), en_D FP.dconst0, en_U, en_D FP.dconst0, en_U, en_D FP.dconst1, en_U, en_R (((cur.elim [] (ms_ch A k)).reverse ++ acc).head?.map ba)] [] σ') → en_J (X_X4_measuredBox G q) 13 [en_R o0, en_R (acc.head?.map ba), en_R (cur.map na), l3, l4, l5, l6, l7, l8] [] σ := by
  intro k
  induction k with
  | zero =>
    intro cur acc σ hC hcur hl hnd hacc hk
    cases cur with
    | some m => have := (hcur m rfl).2; cases this
    | none =>
      rw [j_X4_measuredBox_13]
      simp only [j_X4_measuredBox_0, j_X4_measuredBox_1, j_X4_measuredBox_4, j_X4_measuredBox_7, j_X4_measuredBox_8, j_X4_measuredBox_9, j_X4_measuredBox_10, j_X4_measuredBox_11, j_X4_measuredBox_12, j_X4_measuredBox_14, j_X4_measuredBox_17, j_X4_measuredBox_18, j_X4_measuredBox_21, j_X4_measuredBox_24, j_X4_measuredBox_25, j_X4_measuredBox_28, j_X4_measuredBox_29, j_X4_measuredBox_32, j_X4_measuredBox_33, j_X4_measuredBox_36, j_X4_measuredBox_37, j_X4_measuredBox_38, j_X4_measuredBox_41, j_X4_measuredBox_42, j_X4_measuredBox_45, j_X4_measuredBox_46, j_X4_measuredBox_47, j_X4_measuredBox_48, j_X4_measuredBox_50, j_X4_measuredBox_51, j_X4_measuredBox_53, j_X4_measuredBox_54, j_X4_measuredBox_58, j_X4_measuredBox_61, j_X4_measuredBox_62, j_X4_measuredBox_64, j_X4_measuredBox_67, j_X4_measuredBox_69, j_X4_measuredBox_70, j_X4_measuredBox_71, j_X4_measuredBox_72, j_X4_measuredBox_74, j_X4_measuredBox_76, j_X4_measuredBox_79, j_X4_measuredBox_81, j_X4_measuredBox_82, j_X4_measuredBox_83, j_X4_measuredBox_85, j_X4_measuredBox_87, j_X4_measuredBox_89, j_X4_measuredBox_92, j_X4_measuredBox_93, j_X4_measuredBox_95, j_X4_measuredBox_97, j_X4_measuredBox_98, j_X4_measuredBox_101, j_X4_measuredBox_103, j_X4_measuredBox_105, j_X4_measuredBox_108, j_X4_measuredBox_110, j_X4_measuredBox_112, j_X4_measuredBox_115, j_X4_measuredBox_117, j_X4_measuredBox_120, j_X4_measuredBox_122, j_X4_measuredBox_125, j_X4_measuredBox_126, j_X4_measuredBox_129, en_c2I, en_c2R, en_c2U, en_c2D, Option.some.injEq, exists_eq_left', exists_eq_left, Option.map_some, Option.map_none, not_true_eq_false, false_implies, true_implies, and_true, true_and, reduceCtorEq, not_false_eq_true]
      exact hk σ ag.rf sz.rf hl
  | succ k ih =>
    intro cur acc σ hC hcur hl hnd hacc hk
    cases cur with
    | none =>
      rw [j_X4_measuredBox_13]
      simp only [j_X4_measuredBox_0, j_X4_measuredBox_1, j_X4_measuredBox_4, j_X4_measuredBox_7, j_X4_measuredBox_8, j_X4_measuredBox_9, j_X4_measuredBox_10, j_X4_measuredBox_11, j_X4_measuredBox_12, j_X4_measuredBox_14, j_X4_measuredBox_17, j_X4_measuredBox_18, j_X4_measuredBox_21, j_X4_measuredBox_24, j_X4_measuredBox_25, j_X4_measuredBox_28, j_X4_measuredBox_29, j_X4_measuredBox_32, j_X4_measuredBox_33, j_X4_measuredBox_36, j_X4_measuredBox_37, j_X4_measuredBox_38, j_X4_measuredBox_41, j_X4_measuredBox_42, j_X4_measuredBox_45, j_X4_measuredBox_46, j_X4_measuredBox_47, j_X4_measuredBox_48, j_X4_measuredBox_50, j_X4_measuredBox_51, j_X4_measuredBox_53, j_X4_measuredBox_54, j_X4_measuredBox_58, j_X4_measuredBox_61, j_X4_measuredBox_62, j_X4_measuredBox_64, j_X4_measuredBox_67, j_X4_measuredBox_69, j_X4_measuredBox_70, j_X4_measuredBox_71, j_X4_measuredBox_72, j_X4_measuredBox_74, j_X4_measuredBox_76, j_X4_measuredBox_79, j_X4_measuredBox_81, j_X4_measuredBox_82, j_X4_measuredBox_83, j_X4_measuredBox_85, j_X4_measuredBox_87, j_X4_measuredBox_89, j_X4_measuredBox_92, j_X4_measuredBox_93, j_X4_measuredBox_95, j_X4_measuredBox_97, j_X4_measuredBox_98, j_X4_measuredBox_101, j_X4_measuredBox_103, j_X4_measuredBox_105, j_X4_measuredBox_108, j_X4_measuredBox_110, j_X4_measuredBox_112, j_X4_measuredBox_115, j_X4_measuredBox_117, j_X4_measuredBox_120, j_X4_measuredBox_122, j_X4_measuredBox_125, j_X4_measuredBox_126, j_X4_measuredBox_129, en_c2I, en_c2R, en_c2U, en_c2D, Option.some.injEq, exists_eq_left', exists_eq_left, Option.map_some, Option.map_none, not_true_eq_false, false_implies, true_implies, and_true, true_and, reduceCtorEq, not_false_eq_true]
      exact hk σ ag.rf sz.rf hl
    | some m =>
      obtain ⟨hm, hit⟩ := hcur m rfl
      have e1 := (hC.2.2.1 m hm).2.1
      have e2 := (hC.2.1.1 m hm).1
      have hw := hC.2.2.2.2.2.2.2.2.1.1
      have hup : ∀ p, tr_up (sa_T A) m = some p → p < tr_N (sa_T A) ∧ tr_it (sa_T A) k p = none := fun p hp => ⟨tr_up_lt hw hm hp, tr_it_up hit hp⟩
      have hmat : (match tr_up (sa_T A) m with
        | none => []
        | some m => ms_ch A k m) = (tr_up (sa_T A) m).elim [] (ms_ch A k) := by cases tr_up (sa_T A) m <;> rfl
      rw [j_X4_measuredBox_13]
      simp only [Option.elim_some, ms_ch] at hnd hk
      rw [hmat] at hnd hk
      cases hb : sa_B A m with
      | none =>
        rw [hb] at e1
        rw [if_pos hb] at hnd hk
        simp only [j_X4_measuredBox_0, j_X4_measuredBox_1, j_X4_measuredBox_4, j_X4_measuredBox_7, j_X4_measuredBox_8, j_X4_measuredBox_9, j_X4_measuredBox_10, j_X4_measuredBox_11, j_X4_measuredBox_12, j_X4_measuredBox_14, j_X4_measuredBox_17, j_X4_measuredBox_18, j_X4_measuredBox_21, j_X4_measuredBox_24, j_X4_measuredBox_25, j_X4_measuredBox_28, j_X4_measuredBox_29, j_X4_measuredBox_32, j_X4_measuredBox_33, j_X4_measuredBox_36, j_X4_measuredBox_37, j_X4_measuredBox_38, j_X4_measuredBox_41, j_X4_measuredBox_42, j_X4_measuredBox_45, j_X4_measuredBox_46, j_X4_measuredBox_47, j_X4_measuredBox_48, j_X4_measuredBox_50, j_X4_measuredBox_51, j_X4_measuredBox_53, j_X4_measuredBox_54, j_X4_measuredBox_58, j_X4_measuredBox_61, j_X4_measuredBox_62, j_X4_measuredBox_64, j_X4_measuredBox_67, j_X4_measuredBox_69, j_X4_measuredBox_70, j_X4_measuredBox_71, j_X4_measuredBox_72, j_X4_measuredBox_74, j_X4_measuredBox_76, j_X4_measuredBox_79, j_X4_measuredBox_81, j_X4_measuredBox_82, j_X4_measuredBox_83, j_X4_measuredBox_85, j_X4_measuredBox_87, j_X4_measuredBox_89, j_X4_measuredBox_92, j_X4_measuredBox_93, j_X4_measuredBox_95, j_X4_measuredBox_97, j_X4_measuredBox_98, j_X4_measuredBox_101, j_X4_measuredBox_103, j_X4_measuredBox_105, j_X4_measuredBox_108, j_X4_measuredBox_110, j_X4_measuredBox_112, j_X4_measuredBox_115, j_X4_measuredBox_117, j_X4_measuredBox_120, j_X4_measuredBox_122, j_X4_measuredBox_125, j_X4_measuredBox_126, j_X4_measuredBox_129, en_c2I, en_c2R, en_c2U, en_c2D, Option.some.injEq, exists_eq_left', exists_eq_left, Option.map_some, Option.map_none, not_true_eq_false, false_implies, true_implies, and_true, true_and, reduceCtorEq, not_false_eq_true, e2, e1]
        refine en_use (cu_X4_parentOrHost e2) ?_
        rintro v σ' ⟨rfl, rfl⟩
        rw [hC.2.1.upr hm]
        simp only [Option.toList, List.cons_append, List.nil_append, j_X4_measuredBox_0, j_X4_measuredBox_1, j_X4_measuredBox_4, j_X4_measuredBox_7, j_X4_measuredBox_8, j_X4_measuredBox_9, j_X4_measuredBox_10, j_X4_measuredBox_11, j_X4_measuredBox_12, j_X4_measuredBox_14, j_X4_measuredBox_17, j_X4_measuredBox_18, j_X4_measuredBox_21, j_X4_measuredBox_24, j_X4_measuredBox_25, j_X4_measuredBox_28, j_X4_measuredBox_29, j_X4_measuredBox_32, j_X4_measuredBox_33, j_X4_measuredBox_36, j_X4_measuredBox_37, j_X4_measuredBox_38, j_X4_measuredBox_41, j_X4_measuredBox_42, j_X4_measuredBox_45, j_X4_measuredBox_46, j_X4_measuredBox_47, j_X4_measuredBox_48, j_X4_measuredBox_50, j_X4_measuredBox_51, j_X4_measuredBox_53, j_X4_measuredBox_54, j_X4_measuredBox_58, j_X4_measuredBox_61, j_X4_measuredBox_62, j_X4_measuredBox_64, j_X4_measuredBox_67, j_X4_measuredBox_69, j_X4_measuredBox_70, j_X4_measuredBox_71, j_X4_measuredBox_72, j_X4_measuredBox_74, j_X4_measuredBox_76, j_X4_measuredBox_79, j_X4_measuredBox_81, j_X4_measuredBox_82, j_X4_measuredBox_83, j_X4_measuredBox_85, j_X4_measuredBox_87, j_X4_measuredBox_89, j_X4_measuredBox_92, j_X4_measuredBox_93, j_X4_measuredBox_95, j_X4_measuredBox_97, j_X4_measuredBox_98, j_X4_measuredBox_101, j_X4_measuredBox_103, j_X4_measuredBox_105, j_X4_measuredBox_108, j_X4_measuredBox_110, j_X4_measuredBox_112, j_X4_measuredBox_115, j_X4_measuredBox_117, j_X4_measuredBox_120, j_X4_measuredBox_122, j_X4_measuredBox_125, j_X4_measuredBox_126, j_X4_measuredBox_129, en_c2I, en_c2R, en_c2U, en_c2D, Option.some.injEq, exists_eq_left', exists_eq_left, Option.map_some, Option.map_none, not_true_eq_false, false_implies, true_implies, and_true, true_and, reduceCtorEq, not_false_eq_true]
        exact ih (tr_up (sa_T A) m) acc σ' hC hup hl hnd hacc hk
      | some b =>
        have hbn : ¬ sa_B A m = none := by rw [hb]; simp
        rw [hb] at e1
        rw [if_neg hbn] at hnd hk
        have c1 := (hC.2.2.2.1.1 m b hm hb).1
        have g1 : ag σ (en_sfr σ 9 (ba m) (acc.head?.map ba)) bF (fun _ => True) := ag_sfr (fun b z => by unfold bF at z; omega)
        have hC1 := cx_box (σ' := en_sfr σ 9 (ba m) (acc.head?.map ba)) hC g1 ⟨rfl, rfl, rfl, rfl⟩
        simp only [j_X4_measuredBox_0, j_X4_measuredBox_1, j_X4_measuredBox_4, j_X4_measuredBox_7, j_X4_measuredBox_8, j_X4_measuredBox_9, j_X4_measuredBox_10, j_X4_measuredBox_11, j_X4_measuredBox_12, j_X4_measuredBox_14, j_X4_measuredBox_17, j_X4_measuredBox_18, j_X4_measuredBox_21, j_X4_measuredBox_24, j_X4_measuredBox_25, j_X4_measuredBox_28, j_X4_measuredBox_29, j_X4_measuredBox_32, j_X4_measuredBox_33, j_X4_measuredBox_36, j_X4_measuredBox_37, j_X4_measuredBox_38, j_X4_measuredBox_41, j_X4_measuredBox_42, j_X4_measuredBox_45, j_X4_measuredBox_46, j_X4_measuredBox_47, j_X4_measuredBox_48, j_X4_measuredBox_50, j_X4_measuredBox_51, j_X4_measuredBox_53, j_X4_measuredBox_54, j_X4_measuredBox_58, j_X4_measuredBox_61, j_X4_measuredBox_62, j_X4_measuredBox_64, j_X4_measuredBox_67, j_X4_measuredBox_69, j_X4_measuredBox_70, j_X4_measuredBox_71, j_X4_measuredBox_72, j_X4_measuredBox_74, j_X4_measuredBox_76, j_X4_measuredBox_79, j_X4_measuredBox_81, j_X4_measuredBox_82, j_X4_measuredBox_83, j_X4_measuredBox_85, j_X4_measuredBox_87, j_X4_measuredBox_89, j_X4_measuredBox_92, j_X4_measuredBox_93, j_X4_measuredBox_95, j_X4_measuredBox_97, j_X4_measuredBox_98, j_X4_measuredBox_101, j_X4_measuredBox_103, j_X4_measuredBox_105, j_X4_measuredBox_108, j_X4_measuredBox_110, j_X4_measuredBox_112, j_X4_measuredBox_115, j_X4_measuredBox_117, j_X4_measuredBox_120, j_X4_measuredBox_122, j_X4_measuredBox_125, j_X4_measuredBox_126, j_X4_measuredBox_129, en_c2I, en_c2R, en_c2U, en_c2D, Option.some.injEq, exists_eq_left', exists_eq_left, Option.map_some, Option.map_none, not_true_eq_false, false_implies, true_implies, and_true, true_and, reduceCtorEq, not_false_eq_true, eg_cl_sfi, eg_fi_sfi, eg_fr_sfi, eg_fd_sfi, eg_al_sfi, eg_ai_sfi, eg_ar_sfi, eg_ad_sfi, eg_aj_sfi, eg_nx_sfi, eg_ns_sfi, eg_cl_sfr, eg_fi_sfr, eg_fr_sfr, eg_fd_sfr, eg_al_sfr, eg_ai_sfr, eg_ar_sfr, eg_ad_sfr, eg_aj_sfr, eg_nx_sfr, eg_ns_sfr, eg_cl_sfd, eg_fi_sfd, eg_fr_sfd, eg_fd_sfd, eg_al_sfd, eg_ai_sfd, eg_ar_sfd, eg_ad_sfd, eg_aj_sfd, eg_nx_sfd, eg_ns_sfd, eg_cl_sai, eg_fi_sai, eg_fr_sai, eg_fd_sai, eg_al_sai, eg_ai_sai, eg_ar_sai, eg_ad_sai, eg_aj_sai, eg_nx_sai, eg_ns_sai, eg_cl_sar, eg_fi_sar, eg_fr_sar, eg_fd_sar, eg_al_sar, eg_ai_sar, eg_ar_sar, eg_ad_sar, eg_aj_sar, eg_nx_sar, eg_ns_sar, eg_cl_sad, eg_fi_sad, eg_fr_sad, eg_fd_sad, eg_al_sad, eg_ai_sad, eg_ar_sad, eg_ad_sad, eg_aj_sad, eg_nx_sad, eg_ns_sad, eg_cl_saj, eg_fi_saj, eg_fr_saj, eg_fd_saj, eg_al_saj, eg_ai_saj, eg_ar_saj, eg_ad_saj, eg_aj_saj, eg_nx_saj, eg_ns_saj, eg_cl_new, eg_fi_new, eg_fr_new, eg_fd_new, eg_al_new, eg_ai_new, eg_ar_new, eg_ad_new, eg_aj_new, eg_nx_new, eg_ns_new, eg_cl_newa, eg_fi_newa, eg_fr_newa, eg_fd_newa, eg_al_newa, eg_ai_newa, eg_ar_newa, eg_ad_newa, eg_aj_newa, eg_nx_newa, eg_ns_newa, eg_cl_bump, eg_fi_bump, eg_fr_bump, eg_fd_bump, eg_al_bump, eg_ai_bump, eg_ar_bump, eg_ad_bump, eg_aj_bump, eg_nx_bump, eg_ns_bump, e2, e1, c1, show ¬ (410 : Nat) = 9 from by decide, false_and, if_false]
        refine en_use (cu_X4_parentOrHost e2) ?_
        rintro v σ' ⟨rfl, rfl⟩
        rw [hC1.2.1.upr hm]
        simp only [Option.toList, List.cons_append, List.nil_append, j_X4_measuredBox_0, j_X4_measuredBox_1, j_X4_measuredBox_4, j_X4_measuredBox_7, j_X4_measuredBox_8, j_X4_measuredBox_9, j_X4_measuredBox_10, j_X4_measuredBox_11, j_X4_measuredBox_12, j_X4_measuredBox_14, j_X4_measuredBox_17, j_X4_measuredBox_18, j_X4_measuredBox_21, j_X4_measuredBox_24, j_X4_measuredBox_25, j_X4_measuredBox_28, j_X4_measuredBox_29, j_X4_measuredBox_32, j_X4_measuredBox_33, j_X4_measuredBox_36, j_X4_measuredBox_37, j_X4_measuredBox_38, j_X4_measuredBox_41, j_X4_measuredBox_42, j_X4_measuredBox_45, j_X4_measuredBox_46, j_X4_measuredBox_47, j_X4_measuredBox_48, j_X4_measuredBox_50, j_X4_measuredBox_51, j_X4_measuredBox_53, j_X4_measuredBox_54, j_X4_measuredBox_58, j_X4_measuredBox_61, j_X4_measuredBox_62, j_X4_measuredBox_64, j_X4_measuredBox_67, j_X4_measuredBox_69, j_X4_measuredBox_70, j_X4_measuredBox_71, j_X4_measuredBox_72, j_X4_measuredBox_74, j_X4_measuredBox_76, j_X4_measuredBox_79, j_X4_measuredBox_81, j_X4_measuredBox_82, j_X4_measuredBox_83, j_X4_measuredBox_85, j_X4_measuredBox_87, j_X4_measuredBox_89, j_X4_measuredBox_92, j_X4_measuredBox_93, j_X4_measuredBox_95, j_X4_measuredBox_97, j_X4_measuredBox_98, j_X4_measuredBox_101, j_X4_measuredBox_103, j_X4_measuredBox_105, j_X4_measuredBox_108, j_X4_measuredBox_110, j_X4_measuredBox_112, j_X4_measuredBox_115, j_X4_measuredBox_117, j_X4_measuredBox_120, j_X4_measuredBox_122, j_X4_measuredBox_125, j_X4_measuredBox_126, j_X4_measuredBox_129, en_c2I, en_c2R, en_c2U, en_c2D, Option.some.injEq, exists_eq_left', exists_eq_left, Option.map_some, Option.map_none, not_true_eq_false, false_implies, true_implies, and_true, true_and, reduceCtorEq, not_false_eq_true]
        have hmacc : m ∉ acc := fun z => by
          have := (List.nodup_append.mp hnd).2.2 m (List.mem_reverse.mpr z) m List.mem_cons_self
          exact this rfl
        refine ih (tr_up (sa_T A) m) (m :: acc) _ hC1 hup ⟨?_, ms_ln_congr (fun a ha => ?_) hl⟩ ?_ ?_ ?_
        · rw [eg_fr_sfr, if_pos ⟨rfl, rfl⟩]
        · rw [eg_fr_sfr, if_neg]
          intro z
          have := hC.2.2.2.1.2 a m (hacc a ha).1 hm (hacc a ha).2 hbn z.2
          rw [this] at ha
          exact hmacc ha
        · simpa using hnd
        · intro c hc
          rcases List.mem_cons.mp hc with rfl | hc
          · exact ⟨hm, hbn⟩
          · exact hacc c hc
        · intro σ2 g2 s2 hl2
          have hrw : (m :: (tr_up (sa_T A) m).elim [] (ms_ch A k)).reverse ++ acc = ((tr_up (sa_T A) m).elim [] (ms_ch A k)).reverse ++ m :: acc := by simp
          rw [← hrw] at hl2 ⊢
          exact hk σ2 (g1.tr g2) (sz.tr ⟨rfl, rfl, rfl, rfl⟩ s2) hl2
theorem jl_X4_measuredBox {G : en_G}  {x : Nat} {na : Nat → Nat} {la : Nat → Nat} {ba : Nat → Nat} {rm : Nat} {A : st_A} {n : Nat} {q : Option en_V → en_S → Prop} {σ : en_S} (hp : CX G x na la ba rm A σ ∧ n < tr_N (sa_T A)) (hq : ∀ v σ', (CX G x na la ba rm A σ' ∧ ag σ σ' bF (fun _ => True) ∧ sz σ σ' ∧ v = some (en_R ((sa_B A n).map (fun _ => ba n))) ∧ (sa_B A n ≠ none → en_fd σ' 6 (ba n) = (ms_at A n).1 ∧ en_fd σ' 7 (ba n) = (ms_at A n).2.1 ∧ en_fd σ' 8 (ba n) = (ms_at A n).2.2)) → q v σ') : en_J (X_X4_measuredBox G q) 0 [en_R (some (na n)), en_U, en_U, en_U, en_U, en_U, en_U, en_U, en_U] [] σ := by
  obtain ⟨hC, hn⟩ := hp
  obtain ⟨h1, h2, h3⟩ := hC.2.2.1 n hn
  have hcl := (hC.2.1.1 n hn).1
  have hw := hC.2.2.2.2.2.2.2.2.1
  cases hb : sa_B A n with
  | none =>
    rw [hb] at h2 hq
    simp only [j_X4_measuredBox_0, j_X4_measuredBox_1, j_X4_measuredBox_4, j_X4_measuredBox_7, j_X4_measuredBox_8, j_X4_measuredBox_9, j_X4_measuredBox_10, j_X4_measuredBox_11, j_X4_measuredBox_12, j_X4_measuredBox_14, j_X4_measuredBox_17, j_X4_measuredBox_18, j_X4_measuredBox_21, j_X4_measuredBox_24, j_X4_measuredBox_25, j_X4_measuredBox_28, j_X4_measuredBox_29, j_X4_measuredBox_32, j_X4_measuredBox_33, j_X4_measuredBox_36, j_X4_measuredBox_37, j_X4_measuredBox_38, j_X4_measuredBox_41, j_X4_measuredBox_42, j_X4_measuredBox_45, j_X4_measuredBox_46, j_X4_measuredBox_47, j_X4_measuredBox_48, j_X4_measuredBox_50, j_X4_measuredBox_51, j_X4_measuredBox_53, j_X4_measuredBox_54, j_X4_measuredBox_58, j_X4_measuredBox_61, j_X4_measuredBox_62, j_X4_measuredBox_64, j_X4_measuredBox_67, j_X4_measuredBox_69, j_X4_measuredBox_70, j_X4_measuredBox_71, j_X4_measuredBox_72, j_X4_measuredBox_74, j_X4_measuredBox_76, j_X4_measuredBox_79, j_X4_measuredBox_81, j_X4_measuredBox_82, j_X4_measuredBox_83, j_X4_measuredBox_85, j_X4_measuredBox_87, j_X4_measuredBox_89, j_X4_measuredBox_92, j_X4_measuredBox_93, j_X4_measuredBox_95, j_X4_measuredBox_97, j_X4_measuredBox_98, j_X4_measuredBox_101, j_X4_measuredBox_103, j_X4_measuredBox_105, j_X4_measuredBox_108, j_X4_measuredBox_110, j_X4_measuredBox_112, j_X4_measuredBox_115, j_X4_measuredBox_117, j_X4_measuredBox_120, j_X4_measuredBox_122, j_X4_measuredBox_125, j_X4_measuredBox_126, j_X4_measuredBox_129, en_c2I, en_c2R, en_c2U, en_c2D, Option.some.injEq, exists_eq_left', exists_eq_left, Option.map_some, Option.map_none, not_true_eq_false, false_implies, true_implies, and_true, true_and, reduceCtorEq, not_false_eq_true, hcl, h2]
    exact hq _ _ ⟨hC, ag.rf, sz.rf, rfl, fun z => absurd rfl z⟩
  | some b =>
    rw [hb] at h2
    have hj := jw1_X4_measuredBox (q := q) (o0 := some (na n)) (l3 := en_U) (l4 := en_U) (l5 := en_U) (l6 := en_U) (l7 := en_U) (l8 := en_U) 24 (some n) [] σ hC (fun m hm => by cases hm; exact ⟨hn, hw.1.2.2.2.2.2.2.2.2 n hn⟩) trivial (by simpa using ms_nodup 24 n (hw.1.2.2.2.2.2.2.2.2 n hn)) (fun m hm => by cases hm) ?_
    · simp only [j_X4_measuredBox_0, j_X4_measuredBox_1, j_X4_measuredBox_4, j_X4_measuredBox_7, j_X4_measuredBox_8, j_X4_measuredBox_9, j_X4_measuredBox_10, j_X4_measuredBox_11, j_X4_measuredBox_12, j_X4_measuredBox_14, j_X4_measuredBox_17, j_X4_measuredBox_18, j_X4_measuredBox_21, j_X4_measuredBox_24, j_X4_measuredBox_25, j_X4_measuredBox_28, j_X4_measuredBox_29, j_X4_measuredBox_32, j_X4_measuredBox_33, j_X4_measuredBox_36, j_X4_measuredBox_37, j_X4_measuredBox_38, j_X4_measuredBox_41, j_X4_measuredBox_42, j_X4_measuredBox_45, j_X4_measuredBox_46, j_X4_measuredBox_47, j_X4_measuredBox_48, j_X4_measuredBox_50, j_X4_measuredBox_51, j_X4_measuredBox_53, j_X4_measuredBox_54, j_X4_measuredBox_58, j_X4_measuredBox_61, j_X4_measuredBox_62, j_X4_measuredBox_64, j_X4_measuredBox_67, j_X4_measuredBox_69, j_X4_measuredBox_70, j_X4_measuredBox_71, j_X4_measuredBox_72, j_X4_measuredBox_74, j_X4_measuredBox_76, j_X4_measuredBox_79, j_X4_measuredBox_81, j_X4_measuredBox_82, j_X4_measuredBox_83, j_X4_measuredBox_85, j_X4_measuredBox_87, j_X4_measuredBox_89, j_X4_measuredBox_92, j_X4_measuredBox_93, j_X4_measuredBox_95, j_X4_measuredBox_97, j_X4_measuredBox_98, j_X4_measuredBox_101, j_X4_measuredBox_103, j_X4_measuredBox_105, j_X4_measuredBox_108, j_X4_measuredBox_110, j_X4_measuredBox_112, j_X4_measuredBox_115, j_X4_measuredBox_117, j_X4_measuredBox_120, j_X4_measuredBox_122, j_X4_measuredBox_125, j_X4_measuredBox_126, j_X4_measuredBox_129, en_c2I, en_c2R, en_c2U, en_c2D, Option.some.injEq, exists_eq_left', exists_eq_left, Option.map_some, Option.map_none, not_true_eq_false, false_implies, true_implies, and_true, true_and, reduceCtorEq, not_false_eq_true, hcl, h2]
      exact hj
    intro σ1 g1 s1 hl1
    have hC1 := cx_box hC g1 s1
    simp only [Option.elim_some, List.append_nil] at hl1
    have hlast : (ms_ch A 24 n).reverse.getLast? = some n := by
      rw [List.getLast?_reverse]
      show (if sa_B A n = none then _ else n :: _).head? = some n
      rw [if_neg (by rw [hb]; simp)]
      rfl
    have hj2 := jw2_X4_measuredBox (q := q) (o1 := (ms_ch A 24 n).reverse.head?.map ba) hn hC1 (h2 := (hC1.2.2.1 n hn).2.1) (ms_ch A 24 n).reverse 0 (FP.dconst0, FP.dconst0, FP.dconst1) σ1 hC1 (by rw [List.length_reverse]; have := ms_len (A := A) 24 n; omega) ms_ok0 hl1 (List.pairwise_reverse.mpr ((ms_nodup 24 n (hw.1.2.2.2.2.2.2.2.2 n hn)).imp (fun z => z.symm))) (fun m hm => ms_lt hw.1 24 n hn m (List.mem_reverse.mp hm)) ?_
    · simp only [Option.elim_some, List.append_nil]
      exact hj2
    intro σ2 g2 s2 _ hv
    have hC2 := cx_box hC1 g2 s2
    rw [hb]
    refine hq _ _ ⟨hC2, g1.tr g2, s1.tr s2, by rw [hb], fun _ => ?_⟩
    exact hv n hlast
theorem jp_X4_measuredBox {G : en_G}  : ∀ as σ, (C_X4_measuredBox G).1 as σ → (en_lc as).length ≤ 9 ∧ en_J (X_X4_measuredBox G (fun r σ' => (C_X4_measuredBox G).2 as σ r σ')) 0 (en_loc 9 as) [] σ := en_ghJ (fun g as σ h => by
  obtain ⟨hp, h2⟩ := h
  subst h2
  exact ⟨Nat.le_of_ble_eq_true rfl, jl_X4_measuredBox hp (fun _ _ h => h)⟩)
theorem wl_X4_measuredBox_28 : Jvm.Cond.methodLink RX4 28 yX4_parentOrHost ∈ en_W := en_inW (List.mem_of_getElem? (i := 354) (by decide +kernel)) (by decide +kernel)
theorem ok_X4_measuredBox {G : en_G}  : en_Ok G 2 yX4_measuredBox cX4_measuredBox 9 (some (.object "NodeStage$Box")) (C_X4_measuredBox G) :=
  en_met (own := RX4) (fl := en_lk fl4) (nw := en_lk nw4) (aw := en_lk aw4) (dc := en_lk dc4) (ca := en_lk (ca_X4_measuredBox G)) (rt := 3) (ini := false) (by decide +kernel) (Or.inr (Or.inr (Or.inr (Or.inl ⟨rfl, _, rfl⟩)))) (fun h => by cases h) rfl (fun q => en_LkF fl4_ok nw4_ok aw4_ok dc4_ok) (by
    intro idx q hq
    have hm := en_lk_mem hq
    simp only [ca_X4_measuredBox, List.mem_cons, Prod.mk.injEq, List.not_mem_nil, or_false] at hm
    rcases hm with ⟨rfl, rfl⟩
    · exact en_clV (r := (RX4, TX4, 12)) 4 0 ok_X4_parentOrHost (by decide) (by decide) rfl rfl pr_X4_parentOrHost wl_X4_measuredBox_28 wi_X4_parentOrHost wx_X4_parentOrHost wz_4 wc_X4_parentOrHost ⟨by decide +kernel, by decide +kernel, by decide +kernel⟩) jp_X4_measuredBox
