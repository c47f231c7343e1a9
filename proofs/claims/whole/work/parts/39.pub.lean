/-! THE CLASS'S STATE, as calls see it -/
abbrev pb_S : Type := st_A × Option Nat × Option Nat × Bool
def PX (G : en_G) (x : Nat) (na la ba : Nat → Nat) (rm : Nat) (S : pb_S) (σ : en_S) : Prop := CX G x na la ba rm S.1 σ ∧ en_fr σ 610 x = S.2.1.map na ∧ en_fr σ 611 x = S.2.2.1.map na ∧ en_fi σ 612 x = st_b S.2.2.2 ∧ en_fi σ 606 x = nI 0 ∧ (∀ n, S.2.1 = some n → n < tr_N (sa_T S.1)) ∧ (∀ n, S.2.2.1 = some n → n < tr_N (sa_T S.1))
def PZ (G : en_G) (x rm : Nat) (S : pb_S) (σ : en_S) : Prop := ∃ na la ba : Nat → Nat, PX G x na la ba rm S σ
/-- what a call leaves alone -/
def pF (f a : Nat) : Prop := 700 ≤ f
def pV (x a : Nat) : Prop := x + 44 ≤ a
theorem CX.rm {G : en_G} {x : Nat} {na la ba : Nat → Nat} {rm rm' : Nat} {A : st_A} {σ : en_S} (h : CX G x na la ba rm A σ) (hr : rm' ≤ rm) : CX G x na la ba rm' A σ := by
  obtain ⟨c, t, nd, bx, l, s, lo, ob, w, r⟩ := h
  refine ⟨c, t, nd, bx, l, s, lo, ob, w, ?_⟩
  unfold cd_room at r ⊢
  omega
theorem PX.rm {G : en_G} {x : Nat} {na la ba : Nat → Nat} {rm rm' : Nat} {S : pb_S} {σ : en_S} (h : PX G x na la ba rm S σ) (hr : rm' ≤ rm) : PX G x na la ba rm' S σ := ⟨h.1.rm hr, h.2⟩
theorem PX.z {G : en_G} {x : Nat} {na la ba : Nat → Nat} {rm rm' : Nat} {S : pb_S} {σ : en_S} (h : PX G x na la ba rm S σ) (hr : rm' ≤ rm) : PZ G x rm' S σ := ⟨na, la, ba, h.rm hr⟩
/-- behind a change that leaves over, pressed, down alone -/
theorem PX.of {G : en_G} {x : Nat} {na la ba lb : Nat → Nat} {rm rm' : Nat} {S : pb_S} {A' : st_A} {σ σ' : en_S} {F : Nat → Nat → Prop} {V : Nat → Prop} (h : PX G x na la ba rm S σ) (hC : CX G x na lb ba rm' A' σ') (g : ag σ σ' F V) (hF : ∀ f, f = 606 ∨ f = 610 ∨ f = 611 ∨ f = 612 → F f x) (hN : tr_N (sa_T S.1) ≤ tr_N (sa_T A')) : PX G x na lb ba rm' (A', S.2) σ' := by
  obtain ⟨h1, h2, h3, h4, h5, h6, h7⟩ := h
  have r := (g.2 x (by have := cx_44 h1; omega)).2.2.1
  exact ⟨hC, by rw [(r 610 (hF 610 (by simp))).2.1]; exact h2, by rw [(r 611 (hF 611 (by simp))).2.1]; exact h3, by rw [(r 612 (hF 612 (by simp))).1]; exact h4, by rw [(r 606 (hF 606 (by simp))).1]; exact h5, fun n hn => Nat.lt_of_lt_of_le (h6 n hn) hN, fun n hn => Nat.lt_of_lt_of_le (h7 n hn) hN⟩
theorem PX.q4 {G : en_G} {x : Nat} {na la ba lb : Nat → Nat} {rm rm' : Nat} {S : pb_S} {A' : st_A} {σ σ' : en_S} (h : PX G x na la ba rm S σ) (hC : CX G x na lb ba rm' A' σ') (g : ag σ σ' (dF x 4) (dV x 4)) (hN : tr_N (sa_T S.1) ≤ tr_N (sa_T A')) : PX G x na lb ba rm' (A', S.2) σ' := h.of hC g (fun f hf => by unfold dF; omega) hN
theorem pq4 {x : Nat} {σ σ' : en_S} (g : ag σ σ' (dF x 4) (dV x 4)) : ag σ σ' pF (pV x) := g.mono (fun f a z => by unfold pF at z; unfold dF; omega) (fun a z => by unfold pV at z; unfold dV; omega)
theorem PX.b {G : en_G} {x : Nat} {na la ba : Nat → Nat} {rm : Nat} {S : pb_S} {σ σ' : en_S} (h : PX G x na la ba rm S σ) (hC : CX G x na la ba rm S.1 σ') (g : ag σ σ' bF (fun _ => True)) : PX G x na la ba rm S σ' := h.of hC g (fun f hf => by unfold bF; omega) (Nat.le_refl _)
theorem pqb {x : Nat} {σ σ' : en_S} (g : ag σ σ' bF (fun _ => True)) : ag σ σ' pF (pV x) := g.mono (fun f a z => by unfold pF at z; unfold bF; omega) (fun a z => trivial)
/-! a node more -/
def cx_mkS (σ : en_S) (x : Nat) (kd nm : Int32) (h : Option Nat) (N : Nat) : en_S := en_sfi (en_sar (en_sfr (en_sfi (en_sfi (en_sfi (en_new σ 4 12) 400 (en_nx σ) (nI N)) 401 (en_nx σ) kd) 402 (en_nx σ) nm) 403 (en_nx σ) h) (x + 1) N (some (en_nx σ))) 601 x (nI (N + 1))
def cx_mkT (σ : en_S) (x : Nat) (na : Nat → Nat) (kd nm : Int32) (h : Option Nat) (N : Nat) : en_S := match h with
  | none => cx_mkS σ x kd nm none N
  | some b => en_sfr (cx_mkS σ x kd nm (some (na b)) N) 409 (na b) (some (en_nx σ))
def st_mk (A : st_A) (kd nm : Int32) (h : Option Nat) : st_A := su_B (su_K (su_T A (tr_mk (sa_T A) kd nm h)) 0 (tr_N (sa_T A)) false) (tr_N (sa_T A)) none
theorem omap_congr {o : Option Nat} {f g : Nat → Nat} (h : ∀ m, o = some m → f m = g m) : o.map f = o.map g := by
  cases o with
  | none => rfl
  | some m => exact congrArg some (h m rfl)
theorem st_wf_mk {A : st_A} (w : st_wf A) {kd nm : Int32} {h : Option Nat} (hN : tr_N (sa_T A) < 24) (hk : (h = none ∧ (kd = 0 ∨ kd = 1 ∨ kd = 2)) ∨ (kd = 4 ∧ ∃ b, h = some b ∧ b < tr_N (sa_T A) ∧ tr_kd (sa_T A) b = 0 ∧ tr_sh (sa_T A) b = none)) : st_wf (st_mk A kd nm h) := by
  obtain ⟨w1, w2, w3, w4, w5, w6, w7⟩ := w
  refine ⟨tr_wf_mk w1 hN hk, w2, fun k hk => ?_, w4, w5, w6, fun n b hn hb => ?_⟩
  · obtain ⟨c1, c2, c3⟩ := w3 k hk
    exact ⟨Nat.lt_succ_of_lt c1, c2, c3⟩
  · have hb' : (if n = tr_N (sa_T A) then none else sa_B A n) = some b := hb
    by_cases e : n = tr_N (sa_T A)
    · rw [if_pos e] at hb'; cases hb'
    · rw [if_neg e] at hb'
      have hn' : n < tr_N (sa_T A) := by
        have : n < tr_N (sa_T A) + 1 := hn
        omega
      obtain ⟨c1, c2⟩ := w7 n b hn' hb'
      refine ⟨?_, c2⟩
      unfold tr_el at c1 ⊢
      show (if n = tr_N (sa_T A) then kd else tr_kd (sa_T A) n) = 0 ∨ (if n = tr_N (sa_T A) then kd else tr_kd (sa_T A) n) = 1 ∨ (if n = tr_N (sa_T A) then kd else tr_kd (sa_T A) n) = 2
      rw [if_neg e]; exact c1
theorem cx_mkG {σ : en_S} {x : Nat} {na : Nat → Nat} {kd nm : Int32} {h : Option Nat} {N : Nat} {F : Nat → Nat → Prop} {V : Nat → Prop} (h6 : ∀ a, ¬ F 601 a) (h4 : ∀ a, ¬ F 409 a) (hV : ¬ V (x + 1)) : ag σ (cx_mkT σ x na kd nm h N) F V := by
  have g : ∀ o, ag σ (cx_mkS σ x kd nm o N) F V := fun o => ag_lim (((((((ag_new).tr (ag_sfi (fun a z => by have := z.2; omega))).tr (ag_sfi (fun a z => by have := z.2; omega))).tr (ag_sfi (fun a z => by have := z.2; omega))).tr (ag_sfr (fun a z => by have := z.2; omega))).tr (ag_sar hV)).tr (ag_sfi (fun a z => absurd z.1 (h6 a))))
  cases h with
  | none => exact g _
  | some b => exact (g _).tr (ag_sfr (fun a z => absurd z (h4 a)))
theorem tr_nx_mk {T : tr_T} (hw : tr_wf T) {kd nm : Int32} {h : Option Nat} {n : Nat} (hn : n < tr_N T) : tr_nx (tr_mk T kd nm h) n = tr_nx T n ∧ tr_pv (tr_mk T kd nm h) n = tr_pv T n := by
  have e : ¬ n = tr_N T := by omega
  have ep : tr_pa (tr_mk T kd nm h) n = tr_pa T n := by
    show (if n = tr_N T then none else tr_pa T n) = _
    rw [if_neg e]
  unfold tr_nx tr_pv
  rw [ep]
  cases hp : tr_pa T n with
  | none => exact ⟨rfl, rfl⟩
  | some p =>
    have hpn : ¬ p = tr_N T := by have := tr_pa_lt hw hn hp; omega
    have ec : tr_ch (tr_mk T kd nm h) p = tr_ch T p := by
      show (if p = tr_N T then [] else tr_ch T p) = _
      rw [if_neg hpn]
    exact ⟨by show tr_after (tr_ch (tr_mk T kd nm h) p) n = tr_after (tr_ch T p) n; rw [ec], by show tr_before (tr_ch (tr_mk T kd nm h) p) n = tr_before (tr_ch T p) n; rw [ec]⟩
theorem tr_nx_ltP {T : tr_T} (hw : tr_wf T) {n : Nat} (hn : n < tr_N T) : (∀ m, tr_nx T n = some m → m < tr_N T) ∧ (∀ m, tr_pv T n = some m → m < tr_N T) := by
  refine ⟨fun m hm => tr_nx_lt hw hn hm, fun m hm => ?_⟩
  unfold tr_pv at hm
  cases hp : tr_pa T n with
  | none => rw [hp] at hm; cases hm
  | some p =>
    rw [hp] at hm
    refine (hw.2.2.1 p m (tr_pa_lt hw hn hp) ?_).1
    have key : ∀ l : List Nat, tr_before l n = some m → m ∈ l := by
      intro l
      induction l with
      | nil => intro z; cases z
      | cons a l ih =>
        intro z
        simp only [tr_before] at z
        split at z
        · cases z; exact List.mem_cons_self
        · exact List.mem_cons_of_mem _ (ih z)
    exact key _ hm
theorem cx_mk {G : en_G} {x : Nat} {na la ba : Nat → Nat} {rm : Nat} {A : st_A} {σ : en_S} (hC : CX G x na la ba (rm + 1) A σ) {kd nm : Int32} {h : Option Nat} (hN : tr_N (sa_T A) < 24) (hk : (h = none ∧ (kd = 0 ∨ kd = 1 ∨ kd = 2)) ∨ (kd = 4 ∧ ∃ b, h = some b ∧ b < tr_N (sa_T A) ∧ tr_kd (sa_T A) b = 0 ∧ tr_sh (sa_T A) b = none)) : CX G x (fun n => if n = tr_N (sa_T A) then en_nx σ else na n) la ba rm (st_mk A kd nm h) (cx_mkT σ x na kd nm h (tr_N (sa_T A))) := by
  have hwf := st_wf_mk (nm := nm) hC.2.2.2.2.2.2.2.2.1 hN hk
  obtain ⟨c, tt, nd, bx, l, sc, lo, ob, w, r⟩ := hC
  have hf := c.2.2.2.2.2.2
  have x44 := c.2.2.2.2.2.1
  have hnx : ∀ {a cc}, en_cl σ a = some cc → a ≠ en_nx σ := fun {a cc} hq z => by have := fresh_cl hf hq; omega
  have g : ag σ (cx_mkT σ x na kd nm h (tr_N (sa_T A))) (fun f a => f ≠ 601 ∧ f ≠ 409) (fun q => q ≠ x + 1) := cx_mkG (fun a z => z.1 rfl) (fun a z => z.2 rfl) (fun z => z rfl)
  have hf' : fresh (cx_mkT σ x na kd nm h (tr_N (sa_T A))) := by cases h <;> exact fresh_new (c := 4) (k := 12) hf
  have hh : ∀ b, h = some b → b < tr_N (sa_T A) := by
    intro b hb
    rcases hk with ⟨k1, k2⟩ | ⟨k1, b', k2, k3, k4, k5⟩
    · rw [k1] at hb; cases hb
    · rw [k2] at hb; cases hb; exact k3
  have nah : ∀ b, h = some b → na b ≠ en_nx σ := fun b hb => hnx (tt.1 b (hh b hb)).1
  have hxne : ¬ x = en_nx σ := by omega
  have rd : ∀ a, a ≠ en_nx σ → en_cl (cx_mkT σ x na kd nm h (tr_N (sa_T A))) a = en_cl σ a ∧ (∀ f, f ≠ 601 → en_fi (cx_mkT σ x na kd nm h (tr_N (sa_T A))) f a = en_fi σ f a) ∧ (∀ f, f ≠ 409 → en_fr (cx_mkT σ x na kd nm h (tr_N (sa_T A))) f a = en_fr σ f a) ∧ en_fr (cx_mkT σ x na kd nm h (tr_N (sa_T A))) 409 a = if h.map na = some a then some (en_nx σ) else en_fr σ 409 a := by
    intro a ha
    cases h with
    | none =>
      refine ⟨?_, fun f hf => ?_, fun f hf => ?_, ?_⟩ <;> simp [cx_mkT, cx_mkS, eg_cl_sfi, eg_cl_sar, eg_cl_sfr, eg_cl_new, eg_fi_sfi, eg_fi_sar, eg_fi_sfr, eg_fi_new, eg_fr_sfi, eg_fr_sar, eg_fr_sfr, eg_fr_new, ha, *]
    | some b =>
      refine ⟨?_, fun f hf => ?_, fun f hf => ?_, ?_⟩
      · simp [cx_mkT, cx_mkS, eg_cl_sfi, eg_cl_sar, eg_cl_sfr, eg_cl_new, ha]
      · simp [cx_mkT, cx_mkS, eg_fi_sfi, eg_fi_sar, eg_fi_sfr, eg_fi_new, ha, hf]
      · simp [cx_mkT, cx_mkS, eg_fr_sfi, eg_fr_sar, eg_fr_sfr, eg_fr_new, ha, hf]
      · simp only [cx_mkT, cx_mkS, eg_fr_sfi, eg_fr_sar, eg_fr_sfr, eg_fr_new, ha, Option.map_some, Option.some.injEq, true_and, and_false, if_false]
        by_cases e : a = na b
        · rw [if_pos e, if_pos e.symm]
        · rw [if_neg e, if_neg (fun z => e z.symm)]
  have nw : en_cl (cx_mkT σ x na kd nm h (tr_N (sa_T A))) (en_nx σ) = some 4 ∧ en_fi (cx_mkT σ x na kd nm h (tr_N (sa_T A))) 400 (en_nx σ) = nI (tr_N (sa_T A)) ∧ en_fi (cx_mkT σ x na kd nm h (tr_N (sa_T A))) 401 (en_nx σ) = kd ∧ en_fi (cx_mkT σ x na kd nm h (tr_N (sa_T A))) 402 (en_nx σ) = nm ∧ en_fi (cx_mkT σ x na kd nm h (tr_N (sa_T A))) 411 (en_nx σ) = 0 ∧ en_fr (cx_mkT σ x na kd nm h (tr_N (sa_T A))) 403 (en_nx σ) = h.map na ∧ (∀ f, f ≠ 403 → en_fr (cx_mkT σ x na kd nm h (tr_N (sa_T A))) f (en_nx σ) = none) := by
    have e1 : ¬ en_nx σ = x := by omega
    cases h with
    | none =>
      refine ⟨?_, ?_, ?_, ?_, ?_, ?_, fun f hf => ?_⟩ <;> simp [cx_mkT, cx_mkS, eg_cl_sfi, eg_cl_sar, eg_cl_sfr, eg_cl_new, eg_fi_sfi, eg_fi_sar, eg_fi_sfr, eg_fi_new, eg_fr_sfi, eg_fr_sar, eg_fr_sfr, eg_fr_new, *]
    | some b =>
      have e2 : ¬ en_nx σ = na b := fun z => nah b rfl z.symm
      refine ⟨?_, ?_, ?_, ?_, ?_, ?_, fun f hf => ?_⟩ <;> simp [cx_mkT, cx_mkS, eg_cl_sfi, eg_cl_sar, eg_cl_sfr, eg_cl_new, eg_fi_sfi, eg_fi_sar, eg_fi_sfr, eg_fi_new, eg_fr_sfi, eg_fr_sar, eg_fr_sfr, eg_fr_new, e1, e2, *]
  have mapc : ∀ (o : Option Nat), (∀ m, o = some m → m < tr_N (sa_T A)) → o.map (fun n => if n = tr_N (sa_T A) then en_nx σ else na n) = o.map na := fun o ho => omap_congr (fun m hm => if_neg (by have := ho m hm; omega))
  refine ⟨c.ag g hf' (fun f hq a => ⟨by omega, by omega⟩) ⟨by show x + 3 ≠ x + 1; omega, by show x + 4 ≠ x + 1; omega⟩, ⟨fun n hn => ?_, fun n m hn hm hq => ?_⟩, fun n hn => ?_, ⟨fun n b hn hb => ?_, fun n m hn hm h1 h2 => ?_⟩, ⟨fun k hk => ?_, l.2⟩, sc.ag g c (fun a => ⟨by decide, by decide⟩) (fun s hs => ⟨by show x + 9 + 3 * s ≠ x + 1; omega, by show x + 10 + 3 * s ≠ x + 1; omega⟩), lo.ag g c (fun a => ⟨by decide, by decide⟩) (by show x + 6 ≠ x + 1; omega), ?_, hwf, ?_⟩
  · have hn : n < tr_N (sa_T A) + 1 := hn
    show en_cl _ ((fun n => if n = tr_N (sa_T A) then en_nx σ else na n) n) = some 4 ∧ _
    by_cases e : n = tr_N (sa_T A)
    · subst e
      obtain ⟨q1, q2, q3, q4, q5, q6, q7⟩ := nw
      simp only [if_pos trivial, if_true]
      refine ⟨q1, q2, ?_, fun _ => ?_, ?_, ?_, ?_, ?_, ?_, ?_, ?_⟩
      · rw [q3]; show kd = if _ then kd else _; rw [if_pos rfl]
      · rw [q4]; show nm = if _ then nm else _; rw [if_pos rfl]
      · rw [q6]
        show _ = Option.map _ (if tr_N (sa_T A) = tr_N (sa_T A) then h else _)
        rw [if_pos rfl, mapc h hh]
      · rw [q7 404 (by decide)]
        show none = Option.map _ (if tr_N (sa_T A) = tr_N (sa_T A) then none else _)
        rw [if_pos rfl]; rfl
      · rw [q7 405 (by decide)]
        show none = Option.map _ (if tr_N (sa_T A) = tr_N (sa_T A) then ([] : List Nat) else _).head?
        rw [if_pos rfl]; rfl
      · rw [q7 406 (by decide)]
        show none = Option.map _ (if tr_N (sa_T A) = tr_N (sa_T A) then ([] : List Nat) else _).getLast?
        rw [if_pos rfl]; rfl
      · rw [q7 407 (by decide)]
        have : tr_pv (tr_mk (sa_T A) kd nm h) (tr_N (sa_T A)) = none := by
          unfold tr_pv
          have : tr_pa (tr_mk (sa_T A) kd nm h) (tr_N (sa_T A)) = none := by
            show (if tr_N (sa_T A) = tr_N (sa_T A) then none else _) = none
            rw [if_pos rfl]
          rw [this]
        show none = Option.map _ (tr_pv (tr_mk (sa_T A) kd nm h) (tr_N (sa_T A)))
        rw [this]; rfl
      · rw [q7 408 (by decide)]
        have : tr_nx (tr_mk (sa_T A) kd nm h) (tr_N (sa_T A)) = none := by
          unfold tr_nx
          have : tr_pa (tr_mk (sa_T A) kd nm h) (tr_N (sa_T A)) = none := by
            show (if tr_N (sa_T A) = tr_N (sa_T A) then none else _) = none
            rw [if_pos rfl]
          rw [this]
        show none = Option.map _ (tr_nx (tr_mk (sa_T A) kd nm h) (tr_N (sa_T A)))
        rw [this]; rfl
      · rw [q7 409 (by decide)]
        show none = Option.map _ (if tr_N (sa_T A) = tr_N (sa_T A) then none else _)
        rw [if_pos rfl]; rfl
    · have hn' : n < tr_N (sa_T A) := by omega
      obtain ⟨h1, h2, h3, h4, h5, h6, h7, h8, h9, h10, h11⟩ := tt.1 n hn'
      obtain ⟨q1, q2, q3, q4⟩ := rd (na n) (hnx h1)
      obtain ⟨m1, m2⟩ := tr_nx_mk w.1 (kd := kd) (nm := nm) (h := h) hn'
      obtain ⟨b1, b2⟩ := tr_nx_ltP w.1 hn'
      have W := w.1
      simp only [if_neg e]
      refine ⟨by rw [q1]; exact h1, by rw [q2 400 (by decide)]; exact h2, ?_, fun he => ?_, ?_, ?_, ?_, ?_, ?_, ?_, ?_⟩
      · rw [q2 401 (by decide), h3]; show _ = if n = _ then kd else _; rw [if_neg e]
      · rw [q2 402 (by decide)]
        show _ = if n = _ then nm else _
        rw [if_neg e]
        refine h4 ?_
        unfold tr_el at he ⊢
        have : tr_kd (sa_T (st_mk A kd nm h)) n = tr_kd (sa_T A) n := by
          show (if n = _ then kd else _) = _
          rw [if_neg e]
        rw [this] at he; exact he
      · rw [q3 403 (by decide), h5]
        show _ = Option.map _ (if n = _ then h else tr_ho (sa_T A) n)
        rw [if_neg e, mapc _ (fun m hm => (W.2.2.2.2.1 n m hn' hm).1)]
      · rw [q3 404 (by decide), h6]
        show _ = Option.map _ (if n = _ then none else tr_pa (sa_T A) n)
        rw [if_neg e, mapc _ (fun m hm => tr_pa_lt W hn' hm)]
      · rw [q3 405 (by decide), h7]
        show _ = Option.map _ (if n = _ then ([] : List Nat) else tr_ch (sa_T A) n).head?
        rw [if_neg e, mapc _ (fun m hm => tr_ch_lt W hn' hm)]
      · rw [q3 406 (by decide), h8]
        show _ = Option.map _ (if n = _ then ([] : List Nat) else tr_ch (sa_T A) n).getLast?
        rw [if_neg e, mapc _ (fun m hm => (W.2.2.1 n m hn' (List.mem_of_getLast? hm)).1)]
      · rw [q3 407 (by decide), h9]
        show _ = Option.map _ (tr_pv (tr_mk (sa_T A) kd nm h) n)
        rw [m2, mapc _ b2]
      · rw [q3 408 (by decide), h10]
        show _ = Option.map _ (tr_nx (tr_mk (sa_T A) kd nm h) n)
        rw [m1, mapc _ b1]
      · rw [q4, h11]
        show _ = Option.map _ (if n = _ then none else if h = some n then some (tr_N (sa_T A)) else tr_sh (sa_T A) n)
        rw [if_neg e]
        by_cases e2 : h = some n
        · rw [if_pos e2, if_pos (by rw [e2]; rfl)]
          simp
        · rw [if_neg e2, if_neg, mapc _ (fun m hm => (W.2.2.2.2.2.1 n m hn' hm).1)]
          intro z
          cases h with
          | none => cases z
          | some b =>
            simp only [Option.map_some, Option.some.injEq] at z
            exact e2 (by rw [tt.2 b n (hh b rfl) hn' z])
  · have hn : n < tr_N (sa_T A) + 1 := hn
    have hm : m < tr_N (sa_T A) + 1 := hm
    dsimp only at hq
    by_cases e1 : n = tr_N (sa_T A)
    · by_cases e2 : m = tr_N (sa_T A)
      · omega
      · rw [if_pos e1, if_neg e2] at hq
        exact absurd hq.symm (hnx (tt.1 m (by omega)).1)
    · by_cases e2 : m = tr_N (sa_T A)
      · rw [if_neg e1, if_pos e2] at hq
        exact absurd hq (hnx (tt.1 n (by omega)).1)
      · rw [if_neg e1, if_neg e2] at hq
        exact tt.2 n m (by omega) (by omega) hq
  · have hn : n < tr_N (sa_T A) + 1 := hn
    dsimp only
    have ar : ∀ j, en_ar (cx_mkT σ x na kd nm h (tr_N (sa_T A))) (x + 1) j = if j = tr_N (sa_T A) then some (en_nx σ) else en_ar σ (x + 1) j := fun j => by cases h <;> simp [cx_mkT, cx_mkS, eg_ar_sfi, eg_ar_sfr, eg_ar_sar, eg_ar_new]
    by_cases e : n = tr_N (sa_T A)
    · subst e
      rw [if_pos rfl]
      obtain ⟨q1, q2, q3, q4, q5, q6, q7⟩ := nw
      refine ⟨?_, ?_, ?_⟩
      · rw [q5]; simp [st_mk, sa_K_B, sa_K_K, st_b]
      · rw [q7 410 (by decide)]; simp [st_mk, sa_B_B]
      · rw [ar, if_pos rfl]
    · have hn' : n < tr_N (sa_T A) := by omega
      rw [if_neg e]
      obtain ⟨h1, h2, h3⟩ := nd n hn'
      obtain ⟨q1, q2, q3, q4⟩ := rd (na n) (hnx (tt.1 n hn').1)
      refine ⟨?_, ?_, ?_⟩
      · rw [q2 411 (by decide), h1]; simp [st_mk, sa_K_B, sa_K_K, sa_K_T, e]
      · rw [q3 410 (by decide), h2]; simp [st_mk, sa_B_B, sa_B_K, sa_B_T, e]
      · rw [ar, if_neg e]; exact h3
  · have hn : n < tr_N (sa_T A) + 1 := hn
    have hb' : (if n = tr_N (sa_T A) then none else sa_B A n) = some b := hb
    by_cases e : n = tr_N (sa_T A)
    · rw [if_pos e] at hb'; cases hb'
    · rw [if_neg e] at hb'
      exact (bx.ag g hf (fun q h1 m hm hb => ⟨by omega, by omega⟩)).1 n b (by omega) hb'
  · have hn : n < tr_N (sa_T A) + 1 := hn
    have hm : m < tr_N (sa_T A) + 1 := hm
    have h1' : (if n = tr_N (sa_T A) then none else sa_B A n) ≠ none := h1
    have h2' : (if m = tr_N (sa_T A) then none else sa_B A m) ≠ none := h2
    by_cases e1 : n = tr_N (sa_T A)
    · rw [if_pos e1] at h1'; exact absurd rfl h1'
    · by_cases e2 : m = tr_N (sa_T A)
      · rw [if_pos e2] at h2'; exact absurd rfl h2'
      · rw [if_neg e1] at h1'
        rw [if_neg e2] at h2'
        exact bx.2 n m (by omega) (by omega) h1' h2'
  · obtain ⟨h1, h2, h3, h4, h5, h6, h7⟩ := (l.ag g c (fun q h1 h2 k hk => ⟨by omega, by omega⟩) (by show x + 2 ≠ x + 1; omega)).1 k hk
    refine ⟨h1, h2, ?_, h4, h5, h6, h7⟩
    rw [h3]
    have := (w.2.2.1 k hk).1
    show some (na (sa_D A 1 k)) = some (if sa_D A 1 k = tr_N (sa_T A) then en_nx σ else na (sa_D A 1 k))
    rw [if_neg (by omega)]
  · obtain ⟨h1, h2, h3, h4⟩ := ob
    obtain ⟨q1, q2, q3, q4⟩ := rd x hxne
    refine ⟨?_, ?_, ?_, ?_⟩
    · show _ = nI (tr_N (sa_T A) + 1)
      cases h <;> simp [cx_mkT, cx_mkS, eg_fi_sfi, eg_fi_sfr]
    · rw [q2 603 (by decide)]; exact h2
    · rw [q2 607 (by decide)]; exact h3
    · rw [q2 609 (by decide)]; exact h4
  · unfold cd_room at r ⊢
    have e1 : en_nx (cx_mkT σ x na kd nm h (tr_N (sa_T A))) = en_nx σ + 1 := by cases h <;> rfl
    have e2 : en_ns (cx_mkT σ x na kd nm h (tr_N (sa_T A))) = en_ns σ + 12 := by cases h <;> rfl
    have e3 : sa_D (st_mk A kd nm h) 0 0 = sa_D A 0 0 := rfl
    rw [e1, e2, e3]
    omega
