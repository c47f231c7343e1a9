/-! what a stretch of code leaves as it was: fields by F, arrays by V -/
def ag (σ σ' : en_S) (F : Nat → Nat → Prop) (V : Nat → Prop) : Prop := en_nx σ ≤ en_nx σ' ∧ ∀ a, a < en_nx σ → en_cl σ' a = en_cl σ a ∧ en_al σ' a = en_al σ a ∧ (∀ f, F f a → en_fi σ' f a = en_fi σ f a ∧ en_fr σ' f a = en_fr σ f a ∧ en_fd σ' f a = en_fd σ f a) ∧ (V a → en_ai σ' a = en_ai σ a ∧ en_ar σ' a = en_ar σ a ∧ en_ad σ' a = en_ad σ a ∧ en_aj σ' a = en_aj σ a)
def fresh (σ : en_S) : Prop := ∀ a, en_nx σ ≤ a → en_cl σ a = none ∧ en_al σ a = none
theorem ag.rf {σ : en_S} {F : Nat → Nat → Prop} {V : Nat → Prop} : ag σ σ F V := ⟨Nat.le_refl _, fun _ _ => ⟨rfl, rfl, fun _ _ => ⟨rfl, rfl, rfl⟩, fun _ => ⟨rfl, rfl, rfl, rfl⟩⟩⟩
theorem ag.mono {σ σ' : en_S} {F F' : Nat → Nat → Prop} {V V' : Nat → Prop} (h : ag σ σ' F V) (hF : ∀ f a, F' f a → F f a) (hV : ∀ a, V' a → V a) : ag σ σ' F' V' :=
  ⟨h.1, fun a ha => ⟨(h.2 a ha).1, (h.2 a ha).2.1, fun f hf => (h.2 a ha).2.2.1 f (hF f a hf), fun hv => (h.2 a ha).2.2.2 (hV a hv)⟩⟩
theorem ag.tr {σ σ1 σ2 : en_S} {F : Nat → Nat → Prop} {V : Nat → Prop} (h : ag σ σ1 F V) (k : ag σ1 σ2 F V) : ag σ σ2 F V := by
  refine ⟨Nat.le_trans h.1 k.1, fun a ha => ?_⟩
  obtain ⟨a1, a2, a3, a4⟩ := h.2 a ha
  obtain ⟨b1, b2, b3, b4⟩ := k.2 a (Nat.lt_of_lt_of_le ha h.1)
  refine ⟨b1.trans a1, b2.trans a2, fun f hf => ?_, fun hv => ?_⟩
  · obtain ⟨c1, c2, c3⟩ := a3 f hf
    obtain ⟨d1, d2, d3⟩ := b3 f hf
    exact ⟨d1.trans c1, d2.trans c2, d3.trans c3⟩
  · obtain ⟨c1, c2, c3, c4⟩ := a4 hv
    obtain ⟨d1, d2, d3, d4⟩ := b4 hv
    exact ⟨d1.trans c1, d2.trans c2, d3.trans c3, d4.trans c4⟩
theorem ag_sfi {σ : en_S} {f0 a0 : Nat} {v : Int32} {F : Nat → Nat → Prop} {V : Nat → Prop} (h : ∀ a, F f0 a → a ≠ a0) : ag σ (en_sfi σ f0 a0 v) F V :=
  ⟨Nat.le_refl _, fun a _ => ⟨rfl, rfl, fun f hf => ⟨by rw [eg_fi_sfi, if_neg (fun z => h a (by rw [← z.1]; exact hf) z.2)], rfl, rfl⟩, fun _ => ⟨rfl, rfl, rfl, rfl⟩⟩⟩
theorem ag_sfr {σ : en_S} {f0 a0 : Nat} {v : Option Nat} {F : Nat → Nat → Prop} {V : Nat → Prop} (h : ∀ a, F f0 a → a ≠ a0) : ag σ (en_sfr σ f0 a0 v) F V :=
  ⟨Nat.le_refl _, fun a _ => ⟨rfl, rfl, fun f hf => ⟨rfl, by rw [eg_fr_sfr, if_neg (fun z => h a (by rw [← z.1]; exact hf) z.2)], rfl⟩, fun _ => ⟨rfl, rfl, rfl, rfl⟩⟩⟩
theorem ag_sfd {σ : en_S} {f0 a0 : Nat} {v : UInt64} {F : Nat → Nat → Prop} {V : Nat → Prop} (h : ∀ a, F f0 a → a ≠ a0) : ag σ (en_sfd σ f0 a0 v) F V :=
  ⟨Nat.le_refl _, fun a _ => ⟨rfl, rfl, fun f hf => ⟨rfl, rfl, by rw [eg_fd_sfd, if_neg (fun z => h a (by rw [← z.1]; exact hf) z.2)]⟩, fun _ => ⟨rfl, rfl, rfl, rfl⟩⟩⟩
theorem ag_sai {σ : en_S} {a0 j0 : Nat} {v : Int32} {F : Nat → Nat → Prop} {V : Nat → Prop} (h : ¬ V a0) : ag σ (en_sai σ a0 j0 v) F V :=
  ⟨Nat.le_refl _, fun a _ => ⟨rfl, rfl, fun f hf => ⟨rfl, rfl, rfl⟩, fun hv => ⟨by funext j; rw [eg_ai_sai, if_neg (fun z => h (by rw [← z.1]; exact hv))], rfl, rfl, rfl⟩⟩⟩
theorem ag_sar {σ : en_S} {a0 j0 : Nat} {v : Option Nat} {F : Nat → Nat → Prop} {V : Nat → Prop} (h : ¬ V a0) : ag σ (en_sar σ a0 j0 v) F V :=
  ⟨Nat.le_refl _, fun a _ => ⟨rfl, rfl, fun f hf => ⟨rfl, rfl, rfl⟩, fun hv => ⟨rfl, by funext j; rw [eg_ar_sar, if_neg (fun z => h (by rw [← z.1]; exact hv))], rfl, rfl⟩⟩⟩
theorem ag_sad {σ : en_S} {a0 j0 : Nat} {v : UInt64} {F : Nat → Nat → Prop} {V : Nat → Prop} (h : ¬ V a0) : ag σ (en_sad σ a0 j0 v) F V :=
  ⟨Nat.le_refl _, fun a _ => ⟨rfl, rfl, fun f hf => ⟨rfl, rfl, rfl⟩, fun hv => ⟨rfl, rfl, by funext j; rw [eg_ad_sad, if_neg (fun z => h (by rw [← z.1]; exact hv))], rfl⟩⟩⟩
theorem ag_saj {σ : en_S} {a0 j0 : Nat} {v : Int64} {F : Nat → Nat → Prop} {V : Nat → Prop} (h : ¬ V a0) : ag σ (en_saj σ a0 j0 v) F V :=
  ⟨Nat.le_refl _, fun a _ => ⟨rfl, rfl, fun f hf => ⟨rfl, rfl, rfl⟩, fun hv => ⟨rfl, rfl, rfl, by funext j; rw [eg_aj_saj, if_neg (fun z => h (by rw [← z.1]; exact hv))]⟩⟩⟩
theorem ag_new {σ : en_S} {c k : Nat} {F : Nat → Nat → Prop} {V : Nat → Prop} : ag σ (en_new σ c k) F V := by
  refine ⟨by rw [eg_nx_new]; omega, fun a ha => ?_⟩
  have e : ¬ a = en_nx σ := by omega
  exact ⟨by rw [eg_cl_new, if_neg e], rfl, fun f hf => ⟨by rw [eg_fi_new, if_neg e], by rw [eg_fr_new, if_neg e], by rw [eg_fd_new, if_neg e]⟩, fun hv => ⟨rfl, rfl, rfl, rfl⟩⟩
theorem ag_newa {σ : en_S} {c k : Nat} {F : Nat → Nat → Prop} {V : Nat → Prop} : ag σ (en_newa σ c k) F V := by
  refine ⟨by rw [eg_nx_newa]; omega, fun a ha => ?_⟩
  have e : ¬ a = en_nx σ := by omega
  refine ⟨rfl, by rw [eg_al_newa, if_neg e], fun f hf => ⟨rfl, rfl, rfl⟩, fun hv => ⟨?_, ?_, ?_, ?_⟩⟩
  · funext j; rw [eg_ai_newa, if_neg e]
  · funext j; rw [eg_ar_newa, if_neg e]
  · funext j; rw [eg_ad_newa, if_neg e]
  · funext j; rw [eg_aj_newa, if_neg e]
theorem ag_bump {σ : en_S} {k : Nat} {F : Nat → Nat → Prop} {V : Nat → Prop} : ag σ (en_bump σ k) F V := ⟨by rw [eg_nx_bump]; omega, fun _ _ => ⟨rfl, rfl, fun _ _ => ⟨rfl, rfl, rfl⟩, fun _ => ⟨rfl, rfl, rfl, rfl⟩⟩⟩
theorem ag_frm {σ σ' : en_S} {F : Nat → Nat → Prop} {V : Nat → Prop} (h : tr_frm σ σ') (hF : ∀ f a, F f a → ¬ (404 ≤ f ∧ f ≤ 408)) : ag σ σ' F V := by
  obtain ⟨h1, h2, h3, h4, h5, h6, h7, h8, h9, h10, h11⟩ := h
  refine ⟨by rw [h9]; exact Nat.le_refl _, fun a _ => ⟨by rw [h1], by rw [h4], fun f hf => ⟨by rw [h2], h11 f a (hF f a hf), by rw [h3]⟩, fun _ => ⟨by rw [h5], by rw [h6], by rw [h7], by rw [h8]⟩⟩⟩
theorem fresh_sfi {σ : en_S} {f a : Nat} {v : Int32} (h : fresh σ) : fresh (en_sfi σ f a v) := h
theorem fresh_new {σ : en_S} {c k : Nat} (h : fresh σ) : fresh (en_new σ c k) := by
  intro a ha
  rw [eg_nx_new] at ha
  rw [eg_cl_new, if_neg (by omega)]
  exact h a (by omega)
theorem fresh_newa {σ : en_S} {c k : Nat} (h : fresh σ) : fresh (en_newa σ c k) := by
  intro a ha
  rw [eg_nx_newa] at ha
  rw [eg_al_newa, if_neg (by omega)]
  exact h a (by omega)
theorem fresh_bump {σ : en_S} {k : Nat} (h : fresh σ) : fresh (en_bump σ k) := fun a ha => h a (by rw [eg_nx_bump] at ha; omega)
theorem fresh_frm {σ σ' : en_S} (h : fresh σ) (k : tr_frm σ σ') : fresh σ' := by
  intro a ha
  rw [k.2.2.2.2.2.2.2.2.1] at ha
  rw [k.1, k.2.2.2.1]
  exact h a ha
theorem fresh_cl {σ : en_S} (h : fresh σ) {a c : Nat} (hc : en_cl σ a = some c) : a < en_nx σ := by
  apply Nat.lt_of_not_le
  intro z
  rw [(h a z).1] at hc; cases hc
theorem fresh_al {σ : en_S} (h : fresh σ) {a : Nat} {c : Nat × Nat} (hc : en_al σ a = some c) : a < en_nx σ := by
  apply Nat.lt_of_not_le
  intro z
  rw [(h a z).2] at hc; cases hc
/-! the class's objects: what never changes -/
def cs_ok (x : Nat) (σ : en_S) : Prop :=
  (en_cl σ x = some 6 ∧ en_fr σ 600 x = some (x + 1) ∧ en_fr σ 602 x = some (x + 2) ∧ en_fr σ 604 x = some (x + 3) ∧ en_fr σ 605 x = some (x + 4) ∧ en_fr σ 608 x = some (x + 5)) ∧
  (en_al σ (x + 1) = some (4, 24) ∧ en_al σ (x + 2) = some (5, 40) ∧ en_al σ (x + 3) = some (6, 8) ∧ en_al σ (x + 4) = some (7, 4)) ∧
  (en_cl σ (x + 5) = some 1 ∧ en_fr σ 100 (x + 5) = some (x + 6) ∧ en_al σ (x + 6) = some (0, 160)) ∧
  (∀ s, s < 8 → en_ar σ (x + 3) s = some (x + 8 + 3 * s) ∧ en_cl σ (x + 8 + 3 * s) = some 5 ∧ en_fr σ 500 (x + 8 + 3 * s) = some (x + 9 + 3 * s) ∧ en_fr σ 501 (x + 8 + 3 * s) = some (x + 10 + 3 * s) ∧ en_al σ (x + 9 + 3 * s) = some (0, 5) ∧ en_al σ (x + 10 + 3 * s) = some (0, 5)) ∧
  (∀ d, d < 4 → en_ar σ (x + 4) d = some (x + 32 + 3 * d) ∧ en_cl σ (x + 32 + 3 * d) = some 2 ∧ en_fr σ 200 (x + 32 + 3 * d) = some (x + 33 + 3 * d) ∧ en_fr σ 201 (x + 32 + 3 * d) = some (x + 34 + 3 * d) ∧ en_al σ (x + 33 + 3 * d) = some (4, 24) ∧ en_al σ (x + 34 + 3 * d) = some (4, 24)) ∧
  x + 44 ≤ en_nx σ ∧ fresh σ
theorem cs_ok.ag {x : Nat} {σ σ' : en_S} {F : Nat → Nat → Prop} {V : Nat → Prop} (h : cs_ok x σ) (g : ag σ σ' F V) (hf : fresh σ') (hF : ∀ f, f = 100 ∨ f = 200 ∨ f = 201 ∨ f = 500 ∨ f = 501 ∨ f = 600 ∨ f = 602 ∨ f = 604 ∨ f = 605 ∨ f = 608 → ∀ a, F f a) (hV : V (x + 3) ∧ V (x + 4)) : cs_ok x σ' := by
  obtain ⟨⟨a1, a2, a3, a4, a5, a6⟩, ⟨b1, b2, b3, b4⟩, ⟨c1, c2, c3⟩, d, e, k, f⟩ := h
  have cl : ∀ {a c}, en_cl σ a = some c → en_cl σ' a = some c := fun {a c} hc => by rw [(g.2 a (fresh_cl f hc)).1]; exact hc
  have al : ∀ {a c}, en_al σ a = some c → en_al σ' a = some c := fun {a c} hc => by rw [(g.2 a (fresh_al f hc)).2.1]; exact hc
  have fr : ∀ {q a c}, F q a → en_cl σ a = some c → en_fr σ' q a = en_fr σ q a := fun {q a c} hq hc => ((g.2 a (fresh_cl f hc)).2.2.1 q hq).2.1
  refine ⟨⟨cl a1, ?_, ?_, ?_, ?_, ?_⟩, ⟨al b1, al b2, al b3, al b4⟩, ⟨cl c1, ?_, al c3⟩, fun s hs => ?_, fun q hq => ?_, Nat.le_trans k g.1, hf⟩
  · rw [fr (hF 600 (by simp) _) a1]; exact a2
  · rw [fr (hF 602 (by simp) _) a1]; exact a3
  · rw [fr (hF 604 (by simp) _) a1]; exact a4
  · rw [fr (hF 605 (by simp) _) a1]; exact a5
  · rw [fr (hF 608 (by simp) _) a1]; exact a6
  · rw [fr (hF 100 (by simp) _) c1]; exact c2
  · obtain ⟨d1, d2, d3, d4, d5, d6⟩ := d s hs
    refine ⟨?_, cl d2, ?_, ?_, al d5, al d6⟩
    · rw [((g.2 _ (fresh_al f b3)).2.2.2 hV.1).2.1]; exact d1
    · rw [fr (hF 500 (by simp) _) d2]; exact d3
    · rw [fr (hF 501 (by simp) _) d2]; exact d4
  · obtain ⟨d1, d2, d3, d4, d5, d6⟩ := e q hq
    refine ⟨?_, cl d2, ?_, ?_, al d5, al d6⟩
    · rw [((g.2 _ (fresh_al f b4)).2.2.2 hV.2).2.1]; exact d1
    · rw [fr (hF 200 (by simp) _) d2]; exact d3
    · rw [fr (hF 201 (by simp) _) d2]; exact d4
/-! what changes -/
def cd_node (x : Nat) (na ba : Nat → Nat) (A : st_A) (σ : en_S) : Prop := ∀ n, n < tr_N (sa_T A) → en_fi σ 411 (na n) = st_b (sa_K A 0 n) ∧ en_fr σ 410 (na n) = (sa_B A n).map (fun _ => ba n) ∧ en_ar σ (x + 1) n = some (na n)
def cd_box (ba : Nat → Nat) (A : st_A) (σ : en_S) : Prop := (∀ n b, n < tr_N (sa_T A) → sa_B A n = some b → en_cl σ (ba n) = some 0 ∧ en_fd σ 0 (ba n) = b.1 ∧ en_fd σ 1 (ba n) = b.2.1 ∧ en_fd σ 2 (ba n) = b.2.2.1 ∧ en_fd σ 3 (ba n) = b.2.2.2.1 ∧ en_fd σ 4 (ba n) = b.2.2.2.2.1 ∧ en_fi σ 5 (ba n) = b.2.2.2.2.2) ∧ (∀ n m, n < tr_N (sa_T A) → m < tr_N (sa_T A) → sa_B A n ≠ none → sa_B A m ≠ none → ba n = ba m → n = m)
def cd_lis (x : Nat) (na la : Nat → Nat) (A : st_A) (σ : en_S) : Prop := (∀ k, k < sa_D A 0 0 → en_cl σ (la k) = some 3 ∧ en_ar σ (x + 2) k = some (la k) ∧ en_fr σ 300 (la k) = some (na (sa_D A 1 k)) ∧ en_fi σ 301 (la k) = sa_I A 0 k ∧ en_fi σ 302 (la k) = nI (sa_D A 3 k) ∧ en_fr σ 303 (la k) = some (x + 8 + 3 * sa_D A 2 k) ∧ en_fi σ 304 (la k) = st_b (sa_K A 1 k)) ∧ (∀ k j, k < sa_D A 0 0 → j < sa_D A 0 0 → la k = la j → k = j)
def cd_scr (x : Nat) (A : st_A) (σ : en_S) : Prop := ∀ s, s < 8 → en_fi σ 502 (x + 8 + 3 * s) = nI (sa_D A 4 s) ∧ ∀ j, j < 5 → en_ai σ (x + 9 + 3 * s) j = nI (sa_D A 5 (5 * s + j)) ∧ en_ai σ (x + 10 + 3 * s) j = sa_I A 1 (5 * s + j)
def cd_log (x : Nat) (A : st_A) (σ : en_S) : Prop := en_fi σ 101 (x + 5) = nI (sa_D A 0 1) ∧ ∀ j, j < 160 → en_ai σ (x + 6) j = sa_I A 2 j
def cd_obj (x : Nat) (A : st_A) (σ : en_S) : Prop := en_fi σ 601 x = nI (tr_N (sa_T A)) ∧ en_fi σ 603 x = nI (sa_D A 0 0) ∧ en_fi σ 607 x = nI (120 - sa_D A 0 2) ∧ en_fi σ 609 x = sa_I A 3 0
def cd_room (G : en_G) (rm : Nat) (A : st_A) (σ : en_S) : Prop := en_nx σ + (40 - sa_D A 0 0) + rm ≤ G.2.2.2.2.1 ∧ en_ns σ + 5 * (40 - sa_D A 0 0) + 12 * rm ≤ G.2.2.2.2.2
def CX (G : en_G) (x : Nat) (na la ba : Nat → Nat) (rm : Nat) (A : st_A) (σ : en_S) : Prop := cs_ok x σ ∧ tr_R na (sa_T A) σ ∧ cd_node x na ba A σ ∧ cd_box ba A σ ∧ cd_lis x na la A σ ∧ cd_scr x A σ ∧ cd_log x A σ ∧ cd_obj x A σ ∧ st_wf A ∧ cd_room G rm A σ
theorem tr_R.ag {na : Nat → Nat} {T : tr_T} {σ σ' : en_S} {F : Nat → Nat → Prop} {V : Nat → Prop} (h : tr_R na T σ) (g : ag σ σ' F V) (f : fresh σ) (hF : ∀ q, 400 ≤ q → q ≤ 409 → ∀ n, n < tr_N T → F q (na n)) : tr_R na T σ' := by
  refine ⟨fun n hn => ?_, h.2⟩
  obtain ⟨h1, h2, h3, h4, h5, h6, h7, h8, h9, h10, h11⟩ := h.1 n hn
  obtain ⟨g1, g2, g3, -⟩ := g.2 _ (fresh_cl f h1)
  refine ⟨by rw [g1]; exact h1, ?_, ?_, fun he => ?_, ?_, ?_, ?_, ?_, ?_, ?_, ?_⟩
  · rw [(g3 400 (hF 400 (by decide) (by decide) n hn)).1]; exact h2
  · rw [(g3 401 (hF 401 (by decide) (by decide) n hn)).1]; exact h3
  · rw [(g3 402 (hF 402 (by decide) (by decide) n hn)).1]; exact h4 he
  · rw [(g3 403 (hF 403 (by decide) (by decide) n hn)).2.1]; exact h5
  · rw [(g3 404 (hF 404 (by decide) (by decide) n hn)).2.1]; exact h6
  · rw [(g3 405 (hF 405 (by decide) (by decide) n hn)).2.1]; exact h7
  · rw [(g3 406 (hF 406 (by decide) (by decide) n hn)).2.1]; exact h8
  · rw [(g3 407 (hF 407 (by decide) (by decide) n hn)).2.1]; exact h9
  · rw [(g3 408 (hF 408 (by decide) (by decide) n hn)).2.1]; exact h10
  · rw [(g3 409 (hF 409 (by decide) (by decide) n hn)).2.1]; exact h11
theorem cd_node.ag {x : Nat} {na ba : Nat → Nat} {A : st_A} {σ σ' : en_S} {F : Nat → Nat → Prop} {V : Nat → Prop} (h : cd_node x na ba A σ) (g : ag σ σ' F V) (c : cs_ok x σ) (t : tr_R na (sa_T A) σ) (hF : ∀ n, n < tr_N (sa_T A) → F 410 (na n) ∧ F 411 (na n)) (hV : V (x + 1)) : cd_node x na ba A σ' := by
  intro n hn
  obtain ⟨h1, h2, h3⟩ := h n hn
  obtain ⟨g1, g2, g3, -⟩ := g.2 _ (fresh_cl c.2.2.2.2.2.2 (t.1 n hn).1)
  refine ⟨by rw [(g3 411 (hF n hn).2).1]; exact h1, by rw [(g3 410 (hF n hn).1).2.1]; exact h2, ?_⟩
  rw [((g.2 _ (fresh_al c.2.2.2.2.2.2 c.2.1.1)).2.2.2 hV).2.1]; exact h3
theorem cd_box.ag {ba : Nat → Nat} {A : st_A} {σ σ' : en_S} {F : Nat → Nat → Prop} {V : Nat → Prop} (h : cd_box ba A σ) (g : ag σ σ' F V) (f : fresh σ) (hF : ∀ q, q ≤ 5 → ∀ n, n < tr_N (sa_T A) → sa_B A n ≠ none → F q (ba n)) : cd_box ba A σ' := by
  refine ⟨fun n b hn hb => ?_, h.2⟩
  obtain ⟨h1, h2, h3, h4, h5, h6, h7⟩ := h.1 n b hn hb
  obtain ⟨g1, g2, g3, -⟩ := g.2 _ (fresh_cl f h1)
  have nb : sa_B A n ≠ none := by rw [hb]; simp
  refine ⟨by rw [g1]; exact h1, ?_, ?_, ?_, ?_, ?_, ?_⟩
  · rw [(g3 0 (hF 0 (by decide) n hn nb)).2.2]; exact h2
  · rw [(g3 1 (hF 1 (by decide) n hn nb)).2.2]; exact h3
  · rw [(g3 2 (hF 2 (by decide) n hn nb)).2.2]; exact h4
  · rw [(g3 3 (hF 3 (by decide) n hn nb)).2.2]; exact h5
  · rw [(g3 4 (hF 4 (by decide) n hn nb)).2.2]; exact h6
  · rw [(g3 5 (hF 5 (by decide) n hn nb)).1]; exact h7
theorem cd_lis.ag {x : Nat} {na la : Nat → Nat} {A : st_A} {σ σ' : en_S} {F : Nat → Nat → Prop} {V : Nat → Prop} (h : cd_lis x na la A σ) (g : ag σ σ' F V) (c : cs_ok x σ) (hF : ∀ q, 300 ≤ q → q ≤ 304 → ∀ k, k < sa_D A 0 0 → F q (la k)) (hV : V (x + 2)) : cd_lis x na la A σ' := by
  refine ⟨fun k hk => ?_, h.2⟩
  obtain ⟨h1, h2, h3, h4, h5, h6, h7⟩ := h.1 k hk
  obtain ⟨g1, g2, g3, -⟩ := g.2 _ (fresh_cl c.2.2.2.2.2.2 h1)
  refine ⟨by rw [g1]; exact h1, ?_, ?_, ?_, ?_, ?_, ?_⟩
  · rw [((g.2 _ (fresh_al c.2.2.2.2.2.2 c.2.1.2.1)).2.2.2 hV).2.1]; exact h2
  · rw [(g3 300 (hF 300 (by decide) (by decide) k hk)).2.1]; exact h3
  · rw [(g3 301 (hF 301 (by decide) (by decide) k hk)).1]; exact h4
  · rw [(g3 302 (hF 302 (by decide) (by decide) k hk)).1]; exact h5
  · rw [(g3 303 (hF 303 (by decide) (by decide) k hk)).2.1]; exact h6
  · rw [(g3 304 (hF 304 (by decide) (by decide) k hk)).1]; exact h7
theorem cd_scr.ag {x : Nat} {A : st_A} {σ σ' : en_S} {F : Nat → Nat → Prop} {V : Nat → Prop} (h : cd_scr x A σ) (g : ag σ σ' F V) (c : cs_ok x σ) (hF : ∀ a, F 502 a) (hV : ∀ s, s < 8 → V (x + 9 + 3 * s) ∧ V (x + 10 + 3 * s)) : cd_scr x A σ' := by
  intro s hs
  obtain ⟨h1, h2⟩ := h s hs
  obtain ⟨c1, c2, c3, c4, c5, c6⟩ := c.2.2.2.1 s hs
  refine ⟨by rw [((g.2 _ (fresh_cl c.2.2.2.2.2.2 c2)).2.2.1 502 (hF _)).1]; exact h1, fun j hj => ?_⟩
  rw [((g.2 _ (fresh_al c.2.2.2.2.2.2 c5)).2.2.2 (hV s hs).1).1, ((g.2 _ (fresh_al c.2.2.2.2.2.2 c6)).2.2.2 (hV s hs).2).1]
  exact h2 j hj
theorem cd_log.ag {x : Nat} {A : st_A} {σ σ' : en_S} {F : Nat → Nat → Prop} {V : Nat → Prop} (h : cd_log x A σ) (g : ag σ σ' F V) (c : cs_ok x σ) (hF : ∀ a, F 101 a) (hV : V (x + 6)) : cd_log x A σ' := by
  refine ⟨by rw [((g.2 _ (fresh_cl c.2.2.2.2.2.2 c.2.2.1.1)).2.2.1 101 (hF _)).1]; exact h.1, fun j hj => ?_⟩
  rw [((g.2 _ (fresh_al c.2.2.2.2.2.2 c.2.2.1.2.2)).2.2.2 hV).1]
  exact h.2 j hj
theorem cd_obj.ag {x : Nat} {A : st_A} {σ σ' : en_S} {F : Nat → Nat → Prop} {V : Nat → Prop} (h : cd_obj x A σ) (g : ag σ σ' F V) (c : cs_ok x σ) (hF : F 601 x ∧ F 603 x ∧ F 607 x ∧ F 609 x) : cd_obj x A σ' := by
  obtain ⟨-, -, g3, -⟩ := g.2 _ (fresh_cl c.2.2.2.2.2.2 c.1.1)
  obtain ⟨h1, h2, h3, h4⟩ := h
  refine ⟨?_, ?_, ?_, ?_⟩
  · rw [(g3 601 hF.1).1]; exact h1
  · rw [(g3 603 hF.2.1).1]; exact h2
  · rw [(g3 607 hF.2.2.1).1]; exact h3
  · rw [(g3 609 hF.2.2.2).1]; exact h4
/-- the fields and arrays that CX reads -/
def cxF (f a : Nat) : Prop := ¬ (200 < f ∧ f < 300 ∧ f ≠ 201) ∧ ¬ (6 ≤ f ∧ f ≤ 9) ∧ f < 700 ∧ f ≠ 606 ∧ f ≠ 610 ∧ f ≠ 611 ∧ f ≠ 612
def cxV (x a : Nat) : Prop := a < x + 32
theorem CX.ag {G : en_G} {x : Nat} {na la ba : Nat → Nat} {rm : Nat} {A : st_A} {σ σ' : en_S} (h : CX G x na la ba rm A σ) (g : ag σ σ' cxF (cxV x)) (hf : fresh σ') (hx : en_nx σ' = en_nx σ) (hs : en_ns σ' = en_ns σ) : CX G x na la ba rm A σ' := by
  obtain ⟨c, t, n, b, l, s, lo, o, w, r⟩ := h
  have cx : ∀ f a, ¬ (200 < f ∧ f < 300 ∧ f ≠ 201) → ¬ (6 ≤ f ∧ f ≤ 9) → f < 700 → f ≠ 606 → f ≠ 610 → f ≠ 611 → f ≠ 612 → cxF f a := fun f a h1 h2 h3 h4 h5 h6 h7 => ⟨h1, h2, h3, h4, h5, h6, h7⟩
  refine ⟨c.ag g hf ?_ ?_, t.ag g c.2.2.2.2.2.2 ?_, n.ag g c t ?_ ?_, b.ag g c.2.2.2.2.2.2 ?_, l.ag g c ?_ ?_, s.ag g c ?_ ?_, lo.ag g c ?_ ?_, o.ag g c ?_, w, ?_⟩
  · intro f hq a
    apply cx <;> omega
  · unfold cxV; omega
  · intro q h1 h2 n hn
    apply cx <;> omega
  · intro n hn
    constructor <;> (apply cx <;> omega)
  · unfold cxV; omega
  · intro q h1 n hn hb
    apply cx <;> omega
  · intro q h1 h2 k hk
    apply cx <;> omega
  · unfold cxV; omega
  · intro a
    apply cx <;> omega
  · intro s hs
    unfold cxV; omega
  · intro a
    apply cx <;> omega
  · unfold cxV; omega
  · refine ⟨?_, ?_, ?_, ?_⟩ <;> (apply cx <;> omega)
  · unfold cd_room at r ⊢
    rw [hx, hs]; exact r
