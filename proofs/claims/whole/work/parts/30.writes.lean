/-! the class's relation behind a writing -/
theorem cd_lis.cg {x : Nat} {na la : Nat → Nat} {A A' : st_A} {σ : en_S} (h : cd_lis x na la A σ) (h0 : sa_D A' 0 0 = sa_D A 0 0) (hD : ∀ k, k < sa_D A 0 0 → sa_D A' 1 k = sa_D A 1 k ∧ sa_D A' 2 k = sa_D A 2 k ∧ sa_D A' 3 k = sa_D A 3 k ∧ sa_I A' 0 k = sa_I A 0 k ∧ sa_K A' 1 k = sa_K A 1 k) : cd_lis x na la A' σ := by
  unfold cd_lis
  rw [h0]
  refine ⟨fun k hk => ?_, h.2⟩
  obtain ⟨e1, e2, e3, e4, e5⟩ := hD k hk
  rw [e1, e2, e3, e4, e5]
  exact h.1 k hk
theorem cd_scr.cg {x : Nat} {A A' : st_A} {σ : en_S} (h : cd_scr x A σ) (h4 : sa_D A' 4 = sa_D A 4) (h5 : sa_D A' 5 = sa_D A 5) (h1 : sa_I A' 1 = sa_I A 1) : cd_scr x A' σ := by
  unfold cd_scr
  rw [h4, h5, h1]; exact h
theorem cd_log.cg {x : Nat} {A A' : st_A} {σ : en_S} (h : cd_log x A σ) (h0 : sa_D A' 0 1 = sa_D A 0 1) (h1 : sa_I A' 2 = sa_I A 2) : cd_log x A' σ := by
  unfold cd_log
  rw [h0, h1]; exact h
theorem cx_mark {G : en_G} {x : Nat} {na la ba : Nat → Nat} {rm : Nat} {A : st_A} {σ : en_S} (h : CX G x na la ba rm A σ) {n : Nat} (hn : n < tr_N (sa_T A)) (b : Bool) : CX G x na la ba rm (su_K A 0 n b) (en_sfi σ 411 (na n) (st_b b)) := by
  obtain ⟨c, t, nd, bx, l, s, lo, o, w, r⟩ := h
  have g : ag σ (en_sfi σ 411 (na n) (st_b b)) (fun f _ => f ≠ 411) (fun _ => True) := ag_sfi (fun a z => absurd rfl z)
  have hf := c.2.2.2.2.2.2
  refine ⟨c.ag g hf (fun f hq a => by show f ≠ 411; omega) ⟨trivial, trivial⟩, t.ag g hf (fun q h1 h2 m hm => by show q ≠ 411; omega), fun m hm => ?_, bx.ag g hf (fun q h1 m hm hb => by show q ≠ 411; omega), cd_lis.cg (l.ag g c (fun q h1 h2 k hk => by show q ≠ 411; omega) trivial) rfl (fun k hk => ⟨rfl, rfl, rfl, rfl, ?_⟩), s.ag g c (fun a => by show 502 ≠ 411; decide) (fun _ _ => ⟨trivial, trivial⟩), lo.ag g c (fun a => by show 101 ≠ 411; decide) trivial, o.ag g c ⟨by decide, by decide, by decide, by decide⟩, (st_go_K w 0 n b).1, r⟩
  · obtain ⟨h1, h2, h3⟩ := nd m hm
    refine ⟨?_, h2, h3⟩
    rw [eg_fi_sfi, sa_K_K]
    by_cases e : m = n
    · rw [e]; simp
    · have : ¬ na m = na n := fun z => e (t.2 m n hm hn z)
      simp [e, this, h1]
  · rw [sa_K_K, if_neg (by omega)]
theorem cx_rem {G : en_G} {x : Nat} {na la ba : Nat → Nat} {rm : Nat} {A : st_A} {σ : en_S} (h : CX G x na la ba rm A σ) {n : Nat} (hn : n < sa_D A 0 0) (b : Bool) : CX G x na la ba rm (su_K A 1 n b) (en_sfi σ 304 (la n) (st_b b)) := by
  obtain ⟨c, t, nd, bx, l, s, lo, o, w, r⟩ := h
  have g : ag σ (en_sfi σ 304 (la n) (st_b b)) (fun f _ => f ≠ 304) (fun _ => True) := ag_sfi (fun a z => absurd rfl z)
  have hf := c.2.2.2.2.2.2
  refine ⟨c.ag g hf (fun f hq a => by show f ≠ 304; omega) ⟨trivial, trivial⟩, t.ag g hf (fun q h1 h2 m hm => by show q ≠ 304; omega), fun m hm => ?_, bx.ag g hf (fun q h1 m hm hb => by show q ≠ 304; omega), ⟨fun k hk => ?_, l.2⟩, s.ag g c (fun a => by show 502 ≠ 304; decide) (fun _ _ => ⟨trivial, trivial⟩), lo.ag g c (fun a => by show 101 ≠ 304; decide) trivial, o.ag g c ⟨by decide, by decide, by decide, by decide⟩, (st_go_K w 1 n b).1, r⟩
  · obtain ⟨h1, h2, h3⟩ := (nd.ag g c t (fun m hm => ⟨by show 410 ≠ 304; decide, by show 411 ≠ 304; decide⟩) trivial) m hm
    refine ⟨?_, h2, h3⟩
    rw [h1, sa_K_K, if_neg (by omega)]
  · obtain ⟨h1, h2, h3, h4, h5, h6, h7⟩ := l.1 k hk
    refine ⟨h1, h2, h3, ?_, ?_, h6, ?_⟩
    · rw [eg_fi_sfi, if_neg (by omega)]; exact h4
    · rw [eg_fi_sfi, if_neg (by omega)]; exact h5
    · rw [eg_fi_sfi, sa_K_K]
      by_cases e : k = n
      · rw [e]; simp
      · have : ¬ la k = la n := fun z => e (l.2 k n hk hn z)
        simp [e, this, h7]
theorem cx_err {G : en_G} {x : Nat} {na la ba : Nat → Nat} {rm : Nat} {A : st_A} {σ : en_S} (h : CX G x na la ba rm A σ) (v : Int32) : CX G x na la ba rm (su_I A 3 0 v) (en_sfi σ 609 x v) := by
  obtain ⟨c, t, nd, bx, l, s, lo, o, w, r⟩ := h
  have g : ag σ (en_sfi σ 609 x v) (fun f _ => f ≠ 609) (fun _ => True) := ag_sfi (fun a z => absurd rfl z)
  have hf := c.2.2.2.2.2.2
  refine ⟨c.ag g hf (fun f hq a => by show f ≠ 609; omega) ⟨trivial, trivial⟩, t.ag g hf (fun q h1 h2 m hm => by show q ≠ 609; omega), nd.ag g c t (fun m hm => ⟨by show 410 ≠ 609; decide, by show 411 ≠ 609; decide⟩) trivial, bx.ag g hf (fun q h1 m hm hb => by show q ≠ 609; omega), cd_lis.cg (l.ag g c (fun q h1 h2 k hk => by show q ≠ 609; omega) trivial) rfl (fun k hk => ⟨rfl, rfl, rfl, ?_, rfl⟩), cd_scr.cg (s.ag g c (fun a => by show 502 ≠ 609; decide) (fun _ _ => ⟨trivial, trivial⟩)) rfl rfl ?_, cd_log.cg (lo.ag g c (fun a => by show 101 ≠ 609; decide) trivial) rfl ?_, ?_, (st_go_I w 0 v (by decide)).1, r⟩
  · rw [sa_I_I, if_neg (by omega)]
  · funext j; rw [sa_I_I, if_neg (by omega)]
  · funext j; rw [sa_I_I, if_neg (by omega)]
  · obtain ⟨h1, h2, h3, h4⟩ := o
    refine ⟨?_, ?_, ?_, ?_⟩
    · rw [eg_fi_sfi, if_neg (by omega)]; exact h1
    · rw [eg_fi_sfi, if_neg (by omega)]; exact h2
    · rw [eg_fi_sfi, if_neg (by omega)]; exact h3
    · rw [eg_fi_sfi, sa_I_I]; simp
theorem cx_bud {G : en_G} {x : Nat} {na la ba : Nat → Nat} {rm : Nat} {A : st_A} {σ : en_S} (h : CX G x na la ba rm A σ) {b : Nat} (hb : b ≤ 120) {v : Int32} (hv : v = nI (120 - b)) : CX G x na la ba rm (su_D A 0 2 b) (en_sfi σ 607 x v) := by
  obtain ⟨c, t, nd, bx, l, s, lo, o, w, r⟩ := h
  have g : ag σ (en_sfi σ 607 x v) (fun f _ => f ≠ 607) (fun _ => True) := ag_sfi (fun a z => absurd rfl z)
  have hf := c.2.2.2.2.2.2
  have e0 : sa_D (su_D A 0 2 b) 0 0 = sa_D A 0 0 := by rw [sa_D_D, if_neg (by omega)]
  have eD : ∀ f, 1 ≤ f → sa_D (su_D A 0 2 b) f = sa_D A f := fun f hf => by funext j; rw [sa_D_D, if_neg (by omega)]
  refine ⟨c.ag g hf (fun f hq a => by show f ≠ 607; omega) ⟨trivial, trivial⟩, t.ag g hf (fun q h1 h2 m hm => by show q ≠ 607; omega), nd.ag g c t (fun m hm => ⟨by show 410 ≠ 607; decide, by show 411 ≠ 607; decide⟩) trivial, bx.ag g hf (fun q h1 m hm hb => by show q ≠ 607; omega), cd_lis.cg (l.ag g c (fun q h1 h2 k hk => by show q ≠ 607; omega) trivial) e0 (fun k hk => ⟨by rw [eD 1 (by decide)], by rw [eD 2 (by decide)], by rw [eD 3 (by decide)], rfl, rfl⟩), cd_scr.cg (s.ag g c (fun a => by show 502 ≠ 607; decide) (fun _ _ => ⟨trivial, trivial⟩)) (eD 4 (by decide)) (eD 5 (by decide)) rfl, cd_log.cg (lo.ag g c (fun a => by show 101 ≠ 607; decide) trivial) (by rw [sa_D_D, if_neg (by omega)]) rfl, ?_, ?_, ?_⟩
  · obtain ⟨h1, h2, h3, h4⟩ := o
    refine ⟨?_, ?_, ?_, ?_⟩
    · rw [eg_fi_sfi, if_neg (by omega)]; exact h1
    · rw [eg_fi_sfi, if_neg (by omega), e0]; exact h2
    · rw [eg_fi_sfi, sa_D_D]; simp [hv]
    · rw [eg_fi_sfi, if_neg (by omega)]; exact h4
  · obtain ⟨w1, w2, w3, w4, w5, w6, w7⟩ := w
    unfold st_wf
    rw [e0, eD 1 (by decide), eD 2 (by decide), eD 3 (by decide), eD 4 (by decide), eD 5 (by decide), sa_D_D, if_pos ⟨rfl, rfl⟩]
    exact ⟨w1, w2, w3, w4, w5, hb, w7⟩
  · unfold cd_room
    rw [e0]; exact r
theorem cx_tree {G : en_G} {x : Nat} {na la ba : Nat → Nat} {rm : Nat} {A : st_A} {σ σ' : en_S} (h : CX G x na la ba rm A σ) {T : tr_T} (hf : tr_frm σ σ') (hR : tr_R na T σ') (hg : st_go A (su_T A T)) : CX G x na la ba rm (su_T A T) σ' := by
  obtain ⟨c, t, nd, bx, l, s, lo, o, w, r⟩ := h
  have g : ag σ σ' (fun f _ => ¬ (404 ≤ f ∧ f ≤ 408)) (fun _ => True) := ag_frm hf (fun f a z => z)
  have hN : tr_N T = tr_N (sa_T A) := hg.2.1.1
  refine ⟨c.ag g (fresh_frm c.2.2.2.2.2.2 hf) (fun f hq a => by show ¬ (404 ≤ f ∧ f ≤ 408); omega) ⟨trivial, trivial⟩, hR, ?_, ?_, l.ag g c (fun q h1 h2 k hk => by show ¬ (404 ≤ q ∧ q ≤ 408); omega) trivial, s.ag g c (fun a => by show ¬ (404 ≤ 502 ∧ 502 ≤ 408); decide) (fun _ _ => ⟨trivial, trivial⟩), lo.ag g c (fun a => by show ¬ (404 ≤ 101 ∧ 101 ≤ 408); decide) trivial, ?_, hg.1, ?_⟩
  · have := nd.ag g c t (fun m hm => ⟨by show ¬ (404 ≤ 410 ∧ 410 ≤ 408); decide, by show ¬ (404 ≤ 411 ∧ 411 ≤ 408); decide⟩) trivial
    intro n hn
    exact this n (by rw [← hN]; exact hn)
  · have := bx.ag g c.2.2.2.2.2.2 (fun q h1 m hm hb => by show ¬ (404 ≤ q ∧ q ≤ 408); omega)
    refine ⟨fun n b hn hb => this.1 n b (by rw [← hN]; exact hn) hb, fun n m hn hm => this.2 n m (by rw [← hN]; exact hn) (by rw [← hN]; exact hm)⟩
  · have := o.ag g c ⟨by show ¬ (404 ≤ 601 ∧ 601 ≤ 408); decide, by show ¬ (404 ≤ 603 ∧ 603 ≤ 408); decide, by show ¬ (404 ≤ 607 ∧ 607 ≤ 408); decide, by show ¬ (404 ≤ 609 ∧ 609 ≤ 408); decide⟩
    obtain ⟨h1, h2, h3, h4⟩ := this
    exact ⟨by show _ = nI (tr_N T); rw [hN]; exact h1, h2, h3, h4⟩
  · unfold cd_room
    rw [hf.2.2.2.2.2.2.2.2.1, hf.2.2.2.2.2.2.2.2.2.1]; exact r
theorem cx_log {G : en_G} {x : Nat} {na la ba : Nat → Nat} {rm : Nat} {A : st_A} {σ : en_S} (h : CX G x na la ba rm A σ) (a b c' d e : Int32) : CX G x na la ba rm (ds_log A a b c' d e) (en_sfi (en_sai (en_sai (en_sai (en_sai (en_sai σ (x + 6) (sa_D A 0 1 % 32 * 5) a) (x + 6) (sa_D A 0 1 % 32 * 5 + 1) b) (x + 6) (sa_D A 0 1 % 32 * 5 + 2) c') (x + 6) (sa_D A 0 1 % 32 * 5 + 3) d) (x + 6) (sa_D A 0 1 % 32 * 5 + 4) e) 101 (x + 5) (nI (sa_D A 0 1 + 1))) := by
  obtain ⟨c, t, nd, bx, l, s, lo, o, w, r⟩ := h
  have g : ag σ (en_sfi (en_sai (en_sai (en_sai (en_sai (en_sai σ (x + 6) (sa_D A 0 1 % 32 * 5) a) (x + 6) (sa_D A 0 1 % 32 * 5 + 1) b) (x + 6) (sa_D A 0 1 % 32 * 5 + 2) c') (x + 6) (sa_D A 0 1 % 32 * 5 + 3) d) (x + 6) (sa_D A 0 1 % 32 * 5 + 4) e) 101 (x + 5) (nI (sa_D A 0 1 + 1))) (fun f _ => f ≠ 101) (fun q => q ≠ x + 6) :=
    (((((ag_sai (fun z => z rfl)).tr (ag_sai (fun z => z rfl))).tr (ag_sai (fun z => z rfl))).tr (ag_sai (fun z => z rfl))).tr (ag_sai (fun z => z rfl))).tr (ag_sfi (fun a z => absurd rfl z))
  have hf := c.2.2.2.2.2.2
  have e0 : sa_D (ds_log A a b c' d e) 0 0 = sa_D A 0 0 := by simp [ds_log, sa_D_D, sa_D_I]
  have e2 : sa_D (ds_log A a b c' d e) 0 2 = sa_D A 0 2 := by simp [ds_log, sa_D_D, sa_D_I]
  have eD : ∀ f, 1 ≤ f → sa_D (ds_log A a b c' d e) f = sa_D A f := fun f hf => by
    funext j
    have : ¬ f = 0 := by omega
    simp [ds_log, sa_D_D, sa_D_I, this]
  have eI : ∀ f, f ≠ 2 → sa_I (ds_log A a b c' d e) f = sa_I A f := fun f hf => by
    funext j
    simp [ds_log, sa_I_D, sa_I_I, hf]
  refine ⟨c.ag g hf (fun f hq a => by show f ≠ 101; omega) ⟨by omega, by omega⟩, t.ag g hf (fun q h1 h2 m hm => by show q ≠ 101; omega), nd.ag g c t (fun m hm => ⟨by show 410 ≠ 101; decide, by show 411 ≠ 101; decide⟩) (by show x + 1 ≠ x + 6; omega), bx.ag g hf (fun q h1 m hm hb => by show q ≠ 101; omega), cd_lis.cg (l.ag g c (fun q h1 h2 k hk => by show q ≠ 101; omega) (by show x + 2 ≠ x + 6; omega)) e0 (fun k hk => ⟨by rw [eD 1 (by decide)], by rw [eD 2 (by decide)], by rw [eD 3 (by decide)], by rw [eI 0 (by decide)], rfl⟩), cd_scr.cg (s.ag g c (fun a => by show 502 ≠ 101; decide) (fun s hs => ⟨by show x + 9 + 3 * s ≠ x + 6; omega, by show x + 10 + 3 * s ≠ x + 6; omega⟩)) (eD 4 (by decide)) (eD 5 (by decide)) (eI 1 (by decide)), ⟨?_, fun j hj => ?_⟩, ?_, ?_, ?_⟩
  · rw [eg_fi_sfi, if_pos ⟨rfl, rfl⟩]
    simp [ds_log, sa_D_D, sa_D_I]
  · have hj2 := lo.2 j hj
    simp only [eg_ai_sfi, eg_ai_sai, ds_log, sa_I_D, sa_I_I, true_and, hj2]
  · obtain ⟨h1, h2, h3, h4⟩ := o
    refine ⟨?_, ?_, ?_, ?_⟩
    · rw [eg_fi_sfi, if_neg (by omega)]; exact h1
    · rw [eg_fi_sfi, if_neg (by omega), e0]; exact h2
    · rw [eg_fi_sfi, if_neg (by omega), e2]; exact h3
    · rw [eg_fi_sfi, if_neg (by omega), eI 3 (by decide)]; exact h4
  · obtain ⟨w1, w2, w3, w4, w5, w6, w7⟩ := w
    unfold st_wf
    rw [e0, e2, eD 1 (by decide), eD 2 (by decide), eD 3 (by decide), eD 4 (by decide), eD 5 (by decide)]
    exact ⟨w1, w2, w3, w4, w5, w6, w7⟩
  · unfold cd_room
    rw [e0]; exact r
/-- a listener more -/
def cx_addS (σ : en_S) (x : Nat) (n : Option Nat) (t o : Int32) (s : Option Nat) (L : Nat) : en_S := en_sfi (en_sar (en_sfr (en_sfi (en_sfi (en_sfr (en_new σ 3 5) 300 (en_nx σ) n) 301 (en_nx σ) t) 302 (en_nx σ) o) 303 (en_nx σ) s) (x + 2) L (some (en_nx σ))) 603 x (nI (L + 1))
theorem cx_add {G : en_G} {x : Nat} {na la ba : Nat → Nat} {rm : Nat} {A : st_A} {σ : en_S} (h : CX G x na la ba rm A σ) {n o s : Nat} {t : Int32} (hn : n < tr_N (sa_T A)) (ho : o < 8) (hs : s < 8) (hc : ¬ (40 ≤ sa_D A 0 0 ∨ ds_like A n t o s (sa_D A 0 0) 0 = true)) : CX G x na (fun k => if k = sa_D A 0 0 then en_nx σ else la k) ba rm (ds_add A n t o s).1 (cx_addS σ x (some (na n)) t (nI o) (some (x + 8 + 3 * s)) (sa_D A 0 0)) := by
  have hgo := (st_go_add (t := t) h.2.2.2.2.2.2.2.2.1 hn ho hs).1
  obtain ⟨c, tt, nd, bx, l, sc, lo, ob, w, r⟩ := h
  have hL : sa_D A 0 0 < 40 := by
    apply Nat.lt_of_not_le
    intro z
    exact hc (Or.inl z)
  have hf := c.2.2.2.2.2.2
  have hx44 := c.2.2.2.2.2.1
  have g : ag σ (cx_addS σ x (some (na n)) t (nI o) (some (x + 8 + 3 * s)) (sa_D A 0 0)) (fun f a => f ≠ 603 ∧ a ≠ en_nx σ) (fun q => q ≠ x + 2) :=
    ((((((ag_new).tr (ag_sfr (fun a z => z.2))).tr (ag_sfi (fun a z => z.2))).tr (ag_sfi (fun a z => z.2))).tr (ag_sfr (fun a z => z.2))).tr (ag_sar (fun z => z rfl))).tr (ag_sfi (fun a z => absurd rfl z.1))
  have hf' : fresh (cx_addS σ x (some (na n)) t (nI o) (some (x + 8 + 3 * s)) (sa_D A 0 0)) := fresh_new (c := 3) (k := 5) hf
  have hnx : ∀ {a cc}, en_cl σ a = some cc → a ≠ en_nx σ := fun {a cc} hq z => by have := fresh_cl hf hq; omega
  have eA : (ds_add A n t o s).1 = su_D (su_K (su_D (su_D (su_I (su_D A 1 (sa_D A 0 0) n) 0 (sa_D A 0 0) t) 3 (sa_D A 0 0) o) 2 (sa_D A 0 0) s) 1 (sa_D A 0 0) false) 0 0 (sa_D A 0 0 + 1) := by
    unfold ds_add; rw [if_neg hc]
  rw [eA] at hgo ⊢
  have e0 : sa_D (su_D (su_K (su_D (su_D (su_I (su_D A 1 (sa_D A 0 0) n) 0 (sa_D A 0 0) t) 3 (sa_D A 0 0) o) 2 (sa_D A 0 0) s) 1 (sa_D A 0 0) false) 0 0 (sa_D A 0 0 + 1)) 0 0 = sa_D A 0 0 + 1 := by rw [sa_D_D, if_pos ⟨rfl, rfl⟩]
  -- the static part does not read 603
  refine ⟨?_, ?_, ?_, ?_, ⟨fun k hk => ?_, fun k j hk hj hq => ?_⟩, ?_, ?_, ?_, hgo, ?_⟩
  · obtain ⟨⟨a1, a2, a3, a4, a5, a6⟩, ⟨b1, b2, b3, b4⟩, ⟨c1, c2, c3⟩, d, e, k, f⟩ := c
    have gg : ∀ {a cc}, en_cl σ a = some cc → ∀ q, q ≠ 603 → en_fr (cx_addS σ x (some (na n)) t (nI o) (some (x + 8 + 3 * s)) (sa_D A 0 0)) q a = en_fr σ q a := fun {a cc} hq q h6 => ((g.2 a (fresh_cl hf hq)).2.2.1 q ⟨h6, hnx hq⟩).2.1
    have cl : ∀ {a cc}, en_cl σ a = some cc → en_cl (cx_addS σ x (some (na n)) t (nI o) (some (x + 8 + 3 * s)) (sa_D A 0 0)) a = some cc := fun {a cc} hq => by rw [(g.2 a (fresh_cl hf hq)).1]; exact hq
    have al : ∀ {a cc}, en_al σ a = some cc → en_al (cx_addS σ x (some (na n)) t (nI o) (some (x + 8 + 3 * s)) (sa_D A 0 0)) a = some cc := fun {a cc} hq => by rw [(g.2 a (fresh_al hf hq)).2.1]; exact hq
    refine ⟨⟨cl a1, by rw [gg a1 600 (by decide)]; exact a2, by rw [gg a1 602 (by decide)]; exact a3, by rw [gg a1 604 (by decide)]; exact a4, by rw [gg a1 605 (by decide)]; exact a5, by rw [gg a1 608 (by decide)]; exact a6⟩, ⟨al b1, al b2, al b3, al b4⟩, ⟨cl c1, by rw [gg c1 100 (by decide)]; exact c2, al c3⟩, fun s' hs' => ?_, fun q hq => ?_, Nat.le_trans k g.1, hf'⟩
    · obtain ⟨d1, d2, d3, d4, d5, d6⟩ := d s' hs'
      refine ⟨?_, cl d2, by rw [gg d2 500 (by decide)]; exact d3, by rw [gg d2 501 (by decide)]; exact d4, al d5, al d6⟩
      rw [((g.2 _ (fresh_al hf b3)).2.2.2 (by show x + 3 ≠ x + 2; omega)).2.1]; exact d1
    · obtain ⟨d1, d2, d3, d4, d5, d6⟩ := e q hq
      refine ⟨?_, cl d2, by rw [gg d2 200 (by decide)]; exact d3, by rw [gg d2 201 (by decide)]; exact d4, al d5, al d6⟩
      rw [((g.2 _ (fresh_al hf b4)).2.2.2 (by show x + 4 ≠ x + 2; omega)).2.1]; exact d1
  · exact tt.ag g hf (fun q h1 h2 m hm => ⟨by omega, hnx (tt.1 m hm).1⟩)
  · exact nd.ag g c tt (fun m hm => ⟨⟨by decide, hnx (tt.1 m hm).1⟩, ⟨by decide, hnx (tt.1 m hm).1⟩⟩) (by show x + 1 ≠ x + 2; omega)
  · exact bx.ag g hf (fun q h1 m hm hb => by
      obtain ⟨b, hb2⟩ := Option.ne_none_iff_exists'.mp hb
      exact ⟨by omega, hnx (bx.1 m b hm hb2).1⟩)
  · rw [e0] at hk
    by_cases e : k = sa_D A 0 0
    · subst e
      dsimp only
      rw [if_pos rfl]
      have hne : ¬ en_nx σ = x := by omega
      refine ⟨?_, ?_, ?_, ?_, ?_, ?_, ?_⟩ <;>
        simp [cx_addS, eg_cl_sfi, eg_cl_sfr, eg_cl_sar, eg_cl_new, eg_ar_sfi, eg_ar_sar, eg_fr_sfi, eg_fr_sfr, eg_fr_sar, eg_fr_new, eg_fi_sfi, eg_fi_sfr, eg_fi_sar, eg_fi_new, sa_D_D, sa_D_K, sa_D_I, sa_I_D, sa_I_K, sa_I_I, sa_K_D, sa_K_K, sa_K_I, hne, st_b]
    · have hk' : k < sa_D A 0 0 := by omega
      dsimp only
      rw [if_neg e]
      obtain ⟨h1, h2, h3, h4, h5, h6, h7⟩ := l.1 k hk'
      have hq := hnx h1
      have hne : ¬ en_nx σ = x := by omega
      refine ⟨?_, ?_, ?_, ?_, ?_, ?_, ?_⟩ <;>
        simp [cx_addS, eg_cl_sfi, eg_cl_sfr, eg_cl_sar, eg_cl_new, eg_ar_sfi, eg_ar_sar, eg_ar_new, eg_ar_sfr, eg_fr_sfi, eg_fr_sfr, eg_fr_sar, eg_fr_new, eg_fi_sfi, eg_fi_sfr, eg_fi_sar, eg_fi_new, sa_D_D, sa_D_K, sa_D_I, sa_I_D, sa_I_K, sa_I_I, sa_K_D, sa_K_K, sa_K_I, hq, e, h1, h2, h3, h4, h5, h6, h7]
  · rw [e0] at hk hj
    dsimp only at hq
    by_cases e1 : k = sa_D A 0 0
    · by_cases e2 : j = sa_D A 0 0
      · omega
      · rw [if_pos e1, if_neg e2] at hq
        exact absurd hq.symm (hnx (l.1 j (by omega)).1)
    · by_cases e2 : j = sa_D A 0 0
      · rw [if_neg e1, if_pos e2] at hq
        exact absurd hq (hnx (l.1 k (by omega)).1)
      · rw [if_neg e1, if_neg e2] at hq
        exact l.2 k j (by omega) (by omega) hq
  · have hnxs : ∀ s', s' < 8 → x + 8 + 3 * s' ≠ en_nx σ := fun s' hs' => hnx (c.2.2.2.1 s' hs').2.1
    intro s' hs'
    obtain ⟨h1, h2⟩ := sc s' hs'
    have q1 := hnxs s' hs'
    refine ⟨?_, fun j hj => ?_⟩
    · simp [cx_addS, eg_fi_sfi, eg_fi_sfr, eg_fi_sar, eg_fi_new, sa_D_D, sa_D_K, sa_D_I, q1, h1]
    · obtain ⟨k1, k2⟩ := h2 j hj
      refine ⟨?_, ?_⟩
      · show en_ai σ _ j = _
        rw [k1]
        simp [sa_D_D, sa_D_K, sa_D_I]
      · show en_ai σ _ j = _
        rw [k2]
        simp [sa_I_D, sa_I_K, sa_I_I]
  · have q1 : x + 5 ≠ en_nx σ := hnx c.2.2.1.1
    refine ⟨?_, fun j hj => ?_⟩
    · simp [cx_addS, eg_fi_sfi, eg_fi_sfr, eg_fi_sar, eg_fi_new, sa_D_D, sa_D_K, sa_D_I, q1, lo.1]
    · show en_ai σ _ j = _
      rw [lo.2 j hj]
      simp [sa_I_D, sa_I_K, sa_I_I]
  · have q1 : x ≠ en_nx σ := hnx c.1.1
    obtain ⟨h1, h2, h3, h4⟩ := ob
    refine ⟨?_, ?_, ?_, ?_⟩
    · simp [cx_addS, eg_fi_sfi, eg_fi_sfr, eg_fi_sar, eg_fi_new, sa_T_D, sa_T_K, sa_T_I, q1, h1]
    · rw [e0]
      simp [cx_addS, eg_fi_sfi]
    · simp [cx_addS, eg_fi_sfi, eg_fi_sfr, eg_fi_sar, eg_fi_new, sa_D_D, sa_D_K, sa_D_I, q1, h3]
    · simp [cx_addS, eg_fi_sfi, eg_fi_sfr, eg_fi_sar, eg_fi_new, sa_I_D, sa_I_K, sa_I_I, q1, h4]
  · unfold cd_room at r ⊢
    rw [e0]
    have e1 : en_nx (cx_addS σ x (some (na n)) t (nI o) (some (x + 8 + 3 * s)) (sa_D A 0 0)) = en_nx σ + 1 := rfl
    have e2 : en_ns (cx_addS σ x (some (na n)) t (nI o) (some (x + 8 + 3 * s)) (sa_D A 0 0)) = en_ns σ + 5 := rfl
    rw [e1, e2]
    omega
