/-! THE LAW: what holds at its loop's head -/
theorem rx_cls {m : Nat} {A : st_A} {σ σ' : en_S} (h : RX m A σ) (g : ag σ σ' pF (fun a => m ≤ a ∧ a < m + 42)) (hf : fresh σ') : RX m A σ' := by
  obtain ⟨c, h1, h2, h3, h4, h5, h6, h7, h8, w⟩ := h
  have x := rs_nx c
  refine ⟨c.ag g hf (fun f hf => by unfold pF; omega), h1.ag g x ?_, h2.ag g x ?_, h3.ag g x ?_, h4.ag g x ?_, h5.ag g x ?_, h6.ag g x ?_, h7.ag g x ?_ ?_, h8.ag g x ?_, w⟩
  all_goals first
    | (intro j a b; constructor <;> omega)
    | (constructor <;> omega)
    | (unfold pF; omega)
    | (refine ⟨?_, ?_, ?_, ?_, ?_, ?_, ?_⟩ <;> (constructor <;> omega))
    | (refine ⟨?_, ?_, ?_⟩ <;> (first | (constructor <;> omega) | (unfold pF; omega)))
theorem rz_cls {m : Nat} {S : pb_S} {σ σ' : en_S} (h : RZ m S σ) (g : ag σ σ' pF (fun a => m ≤ a ∧ a < m + 42)) (hf : fresh σ') : RZ m S σ' := h.of (rx_cls h.1 g hf) g ⟨by unfold pF; omega, by unfold pF; omega, by unfold pF; omega, by unfold pF; omega⟩ (Nat.le_refl _)
theorem PZ.rm {G : en_G} {x rm rm' : Nat} {S : pb_S} {σ : en_S} (h : PZ G x rm S σ) (hr : rm' ≤ rm) : PZ G x rm' S σ := by
  obtain ⟨na, la, ba, h⟩ := h
  exact h.z hr
def LI (G : en_G) (x m o1 o2 rm n : Nat) (S : pb_S) (σ : en_S) : Prop := PZ G x rm S σ ∧ RZ m S σ ∧ m = x + 44 ∧ en_al σ o1 = some (3, 1) ∧ en_al σ o2 = some (2, 1) ∧ m + 42 ≤ o1 ∧ m + 42 ≤ o2 ∧ sa_D S.1 0 1 ≤ n
/-- behind the class's call -/
theorem LI.mid {G : en_G} {x m o1 o2 rm n : Nat} {S : pb_S} {σ σ1 : en_S} {V : Nat → Prop} (h : LI G x m o1 o2 rm n S σ) (g : ag σ σ1 pF V) (hf : fresh σ1) (hV : ∀ a, m ≤ a → a < m + 42 → V a) : RZ m S σ1 ∧ en_al σ1 o1 = some (3, 1) ∧ en_al σ1 o2 = some (2, 1) := by
  obtain ⟨hP, hR, hm, a1, a2, b1, b2, hn⟩ := h
  refine ⟨rz_cls hR (g.mono (fun f a z => z) (fun a z => hV a z.1 z.2)) hf, ?_, ?_⟩
  · rw [(g.2 o1 (fresh_al hP.fr a1)).2.1]; exact a1
  · rw [(g.2 o2 (fresh_al hP.fr a2)).2.1]; exact a2
theorem LI.fin {G : en_G} {x m o1 o2 rm rm' n n' : Nat} {S S' : pb_S} {σ σ1 σ2 : en_S} (h : LI G x m o1 o2 rm n S σ) (k : en_al σ1 o1 = some (3, 1) ∧ en_al σ1 o2 = some (2, 1)) (p1 : PZ G x rm' S' σ1) (r2 : RZ m S' σ2) (g2 : ag σ1 σ2 rF (rV m)) (s2 : sz σ1 σ2) (hn : sa_D S'.1 0 1 ≤ n') : LI G x m o1 o2 rm' n' S' σ2 := by
  obtain ⟨hP, hR, hm, a1, a2, b1, b2, -⟩ := h
  exact ⟨p1.ag (g2.mono (fun f a z => z) (fun a z => by unfold rV; omega)) (rs_fr r2.1.1) s2.1 s2.2.1, r2, hm, by rw [s2.2.2.2]; exact k.1, by rw [s2.2.2.2]; exact k.2, b1, b2, hn⟩
theorem LI.rm {G : en_G} {x m o1 o2 rm rm' n n' : Nat} {S : pb_S} {σ : en_S} (h : LI G x m o1 o2 rm n S σ) (hr : rm' ≤ rm) (hn : n ≤ n') : LI G x m o1 o2 rm' n' S σ := by
  obtain ⟨hP, hR, hm, a1, a2, b1, b2, h0⟩ := h
  exact ⟨hP.rm hr, hR, hm, a1, a2, b1, b2, Nat.le_trans h0 hn⟩
/-! the log's length -/
theorem lo_make (S : pb_S) (a b : Int32) : sa_D (op_make S a b).1.1 0 1 = sa_D S.1 0 1 := by
  unfold op_make
  split <;> rfl
theorem lo_attach (S : pb_S) (a : Int32) : sa_D (op_attach S a).1.1 0 1 = sa_D S.1 0 1 := by
  unfold op_attach
  split
  · rfl
  · split <;> rfl
theorem lo_insert (S : pb_S) (a b c : Int32) : sa_D (op_insert S a b c).1.1 0 1 = sa_D S.1 0 1 := by
  unfold op_insert
  repeat' split
  all_goals rfl
theorem lo_remove (S : pb_S) (a : Int32) : sa_D (op_remove S a).1.1 0 1 = sa_D S.1 0 1 := by
  show sa_D (ds_out S.1 a) 0 1 = _
  unfold ds_out
  split <;> rfl
theorem lo_command (S : pb_S) (a b c : Int32) : sa_D (op_command S a b c).1.1 0 1 = sa_D S.1 0 1 := by
  unfold op_command
  repeat' split
  all_goals first
    | rfl
    | (show sa_D (su_D _ _ _ _) 0 1 = _
       rw [sa_D_D, if_neg (by omega)]
       show sa_D (su_D _ _ _ _) 0 1 = _
       rw [sa_D_D, if_neg (by omega)])
theorem lo_clear (S : pb_S) (a : Int32) : sa_D (op_clear S a).1.1 0 1 = sa_D S.1 0 1 := by
  unfold op_clear
  split
  · rfl
  · show sa_D (su_D _ _ _ _) 0 1 = _
    rw [sa_D_D, if_neg (by omega)]
theorem lo_listen (S : pb_S) (a b c d : Int32) : sa_D (op_listen S a b c d).1.1 0 1 = sa_D S.1 0 1 := by
  unfold op_listen
  split
  · split
    · show sa_D (ds_add _ _ _ _ _).1 0 1 = _
      unfold ds_add
      split
      · rfl
      · simp [sa_D, su_D, su_K, su_I]
    · rfl
  · rfl
theorem lo_unlisten (S : pb_S) (a : Int32) : sa_D (op_unlisten S a).1.1 0 1 = sa_D S.1 0 1 := by
  show sa_D (ds_rem S.1 a) 0 1 = _
  unfold ds_rem
  split <;> rfl
theorem lo_box (S : pb_S) (a : Int32) (b c d e : UInt64) : sa_D (op_box S a b c d e).1.1 0 1 = sa_D S.1 0 1 := by
  unfold op_box
  split
  · rfl
  · split <;> rfl
theorem lo_zoom (S : pb_S) (a : Int32) (b : UInt64) (c : Int32) : sa_D (op_zoom S a b c).1.1 0 1 = sa_D S.1 0 1 := by
  unfold op_zoom
  repeat' split
  all_goals rfl
theorem lo_bud {A A' : st_A} (h : st_go (su_D A 0 2 120) A') : sa_D A' 0 1 ≤ sa_D A 0 1 + 120 := by
  have := h.2.2.2.2.2.2.2.2
  rw [sa_D_D, sa_D_D, if_neg (by omega), if_pos ⟨rfl, rfl⟩] at this
  omega
theorem st_wf_bud {A : st_A} (w : st_wf A) : st_wf (su_D A 0 2 120) := by
  obtain ⟨w1, w2, w3, w4, w5, w6, w7⟩ := w
  have e : ∀ f k, f ≠ 0 ∨ k ≠ 2 → sa_D (su_D A 0 2 120) f k = sa_D A f k := fun f k h => by rw [sa_D_D, if_neg (by omega)]
  refine ⟨w1, by rw [e 0 0 (by omega)]; exact w2, fun k hk => ?_, fun s hs => by rw [e 4 s (by omega)]; exact w4 s hs, fun s j hs hj => ?_, by rw [sa_D_D, if_pos ⟨rfl, rfl⟩]; exact Nat.le_refl _, w7⟩
  · rw [e 0 0 (by omega)] at hk
    rw [e 1 k (by omega), e 2 k (by omega), e 3 k (by omega)]
    exact w3 k hk
  · rw [e 4 s (by omega)] at hj
    rw [e 5 _ (by omega)]
    exact w5 s j hs hj
theorem lo_dispatch (S : pb_S) (w : st_wf S.1) (a b c : Int32) : sa_D (op_dispatch S a b c).1.1 0 1 ≤ sa_D S.1 0 1 + 120 := by
  unfold op_dispatch
  cases hx : st_ix (tr_N (sa_T S.1)) a with
  | none => exact Nat.le_add_right _ _
  | some n =>
    simp only
    split
    · cases hf : st_ix 8 c with
      | none => exact Nat.le_add_right _ _
      | some f => exact lo_bud (st_good_send 4 (su_D S.1 0 2 120) n b f (st_wf_bud w) (st_ix_some (by have := w.1.1.2; omega) hx).1)
    · exact Nat.le_add_right _ _
theorem pt_go_go : ∀ (l : List (Option Nat × Int32)) (A : st_A) (n : Int32), st_wf A → (∀ e ∈ l, ∀ t, e.1 = some t → t < tr_N (sa_T A)) → st_go A (pt_go A n l).1 := by
  intro l
  induction l with
  | nil => intro A n w _; exact st_go.rf w
  | cons e l ih =>
    intro A n w h
    have g : st_go A (pt_snd A e.1 e.2).1 := by
      unfold pt_snd ds_sendO
      cases ho : e.1 with
      | none => exact st_go.rf w
      | some t => exact st_good_send 4 A t e.2 7 w (h e List.mem_cons_self t ho)
    exact g.tr (ih _ _ g.1 (fun e' he t ht => by rw [g.2.1.1]; exact h e' (List.mem_cons_of_mem _ he) t ht))
theorem lo_pointer (S : pb_S) (w : st_wf S.1) (ho : ∀ n, S.2.1 = some n → n < tr_N (sa_T S.1)) (px py : UInt64) (d : Bool) : sa_D (op_pointer S px py d).1.1 0 1 ≤ sa_D S.1 0 1 + 120 := by
  refine lo_bud (pt_go_go _ _ _ (st_wf_bud w) ?_)
  have hh : ∀ n, ht_top (su_D S.1 0 2 120) px py = some n → n < tr_N (sa_T S.1) := fun n hn => ht_top_lt (A := su_D S.1 0 2 120) w.1 hn
  intro e he t ht
  show t < tr_N (sa_T S.1)
  simp only [pt_l, List.mem_cons, List.not_mem_nil, or_false] at he
  rcases he with rfl | rfl | rfl | rfl | rfl | rfl
  · simp only at ht
    split at ht
    · cases ht
    · exact ho t ht
  · simp only at ht
    split at ht
    · cases ht
    · exact hh t ht
  · exact hh t ht
  · simp only at ht
    split at ht
    · exact hh t ht
    · cases ht
  · simp only at ht
    split at ht
    · exact hh t ht
    · cases ht
  · simp only at ht
    split at ht
    · split at ht
      · exact hh t ht
      · cases ht
    · cases ht
theorem PZ.wf {G : en_G} {x rm : Nat} {S : pb_S} {σ : en_S} (h : PZ G x rm S σ) : st_wf S.1 ∧ ∀ n, S.2.1 = some n → n < tr_N (sa_T S.1) := by
  obtain ⟨na, la, ba, hC, -, -, -, -, h5, -⟩ := h
  exact ⟨hC.2.2.2.2.2.2.2.2.1, h5⟩
theorem ejL_iaload {X : en_X} {pc b L : Nat} {xs : Nat → Int32} {ls r : List en_V} {σ : en_S} {j : Int32} (hd : decode (en_cc X) pc = .ok (.iaload, 1)) (hx : en_xs X = some (b, L, xs)) : en_J X pc ls (en_I j :: en_R (some b) :: r) σ ↔ vp_in j L ∧ en_J X (pc + 1) ls (en_I (xs j.toNatClampNeg) :: r) σ :=
  en_jc (pr := 1 = 1 ∧ b = b ∧ vp_in j L) hd (by show (en_ildX (en_xs X) _ _ _ _ _) = _; rw [hx]; rfl) ⟨fun h => h.2.2, fun h => ⟨rfl, rfl, h⟩⟩
theorem ejL_alen {X : en_X} {pc b L : Nat} {xs : Nat → Int32} {ls r : List en_V} {σ : en_S} (hd : decode (en_cc X) pc = .ok (.arraylength, 1)) (hx : en_xs X = some (b, L, xs)) : en_J X pc ls (en_R (some b) :: r) σ ↔ en_J X (pc + 1) ls (en_I (nI L) :: r) σ :=
  en_j1 (pr := 1 = 1 ∧ b = b) hd (by show en_alenX (en_xs X) (en_R (some b) :: r) 1 pc ls σ = _; rw [hx]; rfl) ⟨rfl, rfl⟩
def nwL : List (Nat × Nat × Nat) := [(8, 6, 13), (32, 7, 53)]
def dcL : List (Nat × UInt64) := [(81, 4593671619917905920)]
def ca_L_law (G : en_G) : List (Nat × Nat × en_C) := [(31, 6, (C_X6_init G)), (34, 6, (C_X7_init G)), (35, 13, (C_X6_make G)), (39, 13, (C_X7_make G)), (40, 9, (C_X6_attach G)), (44, 9, (C_X7_attach G)), (45, 16, (C_L_insert G)), (50, 17, (C_X7_insert G)), (51, 5, (C_X7_thrown G)), (55, 9, (C_X6_remove G)), (59, 9, (C_X7_remove G)), (60, 17, (C_X6_command G)), (63, 17, (C_X7_command G)), (64, 9, (C_X6_clear G)), (67, 9, (C_X7_clear G)), (68, 21, (C_X6_listen G)), (72, 21, (C_X7_listen G)), (73, 9, (C_X6_unlisten G)), (76, 9, (C_X7_unlisten G)), (77, 20, (C_L_dispatch G)), (80, 17, (C_X7_dispatch G)), (83, 24, (C_L_box G)), (86, 25, (C_X7_box G)), (87, 17, (C_X6_zoom G)), (91, 17, (C_X7_zoom G)), (92, 16, (C_L_place G)), (95, 13, (C_X7_place G)), (96, 13, (C_X6_hit G)), (100, 13, (C_X7_hit G)), (101, 17, (C_X6_pointer G)), (105, 17, (C_X7_pointer G)), (106, 13, (C_X6_node G)), (109, 13, (C_X7_node G)), (110, 13, (C_X6_child G)), (113, 13, (C_X7_child G)), (114, 13, (C_X6_call G)), (117, 13, (C_X7_call G)), (118, 9, (C_X6_look G)), (121, 9, (C_X7_look G))]
def X_L_law (G : en_G) (b L : Nat) (xs : Nat → Int32) (q : Option en_V → en_S → Prop) : en_X := (code, (fun _ => none), en_lk nwL, (fun _ => none), en_lk dcL, en_lk (ca_L_law G), some (b, L, xs), (fun _ => none), (G.2.2.2.2.1, G.2.2.2.2.2), 2, false, q, (fun _ _ => False))
