/-! DOUBLES: bounds that keep a sum or a product from being no number -/
def fbv (x : UInt64) : FP.Core.Datum := FP.Core.decode FP.Core.b64 x.toNat
theorem fbv_fits (x : UInt64) : FP.Core.fits FP.Core.b64 (fbv x) := FP.Core.val64_fits x
theorem fbv_dmul (x y : UInt64) : fbv (FP.Core.dmul x y) = FP.Core.round FP.Core.b64 (FP.Core.exactProduct (fbv x) (fbv y)) := FP.Core.val64_dmul x y
theorem fbv_dadd (x y : UInt64) : fbv (FP.Core.dadd x y) = FP.Core.round FP.Core.b64 (FP.Core.exactSum (fbv x) (fbv y)) := FP.Core.val64_dadd x y
theorem fbv_i2d (k : Int32) : fbv (FP.Core.i2d k) = FP.Core.round FP.Core.b64 (FP.Core.ofInt k.toInt) := FP.Core.val64_i2d k
def fb (Q : Int) (x : UInt64) : Prop := ∃ s c q, fbv x = .fin s c q ∧ q ≤ Q
theorem fb_mono {P Q : Int} {x : UInt64} (h : fb P x) (hq : P ≤ Q) : fb Q x := by
  obtain ⟨s, c, q, h1, h2⟩ := h
  exact ⟨s, c, q, h1, by omega⟩
theorem fb_n64 {Q : Int} {x : UInt64} (h : fb Q x) : vf_n64 x := by
  obtain ⟨s, c, q, h1, -⟩ := h
  have hE : FP.Core.fieldE FP.Core.b64 x.toNat ≠ 2047 := by
    intro hz
    unfold fbv FP.Core.decode at h1
    rw [if_pos (by rw [hz]; decide)] at h1
    split at h1 <;> cases h1
  have e : FP.Core.fieldE FP.Core.b64 x.toNat = x.toNat / 4503599627370496 % 2048 := rfl
  rw [e] at hE
  unfold vf_n64
  rw [UInt64.le_iff_toNat_le, UInt64.toNat_and]
  have e2 : (0x7fffffffffffffff : UInt64).toNat = 2 ^ 63 - 1 := by decide
  rw [e2, Nat.and_two_pow_sub_one_eq_mod]
  have e3 : (0x7ff0000000000000 : UInt64).toNat = 9218868437227405312 := by decide
  rw [e3]
  have := x.toNat_lt
  omega
theorem fb_ratio {s : Bool} {num : Nat} {e R : Int} {M : Nat} (hM : num < 2 ^ M) (h1 : (M : Int) - 1 + e - 52 ≤ R) (h0 : -1074 ≤ R) (h2 : R + 1 ≤ 971) : ∃ s' c q, FP.Core.roundRatio FP.Core.b64 s num 1 e = .fin s' c q ∧ q ≤ R + 1 := by
  unfold FP.Core.roundRatio
  by_cases hn : num = 0
  · rw [if_pos hn]
    exact ⟨s, 0, _, rfl, by have : FP.Core.b64.qmin = -1074 := by decide
                            omega⟩
  · rw [if_neg hn]
    have hlog : num.log2 < M := (Nat.log2_lt hn).mpr hM
    have hl : FP.Core.leading num 1 ≤ (num.log2 : Int) := by
      unfold FP.Core.leading
      have : (1 : Nat).log2 = 0 := by decide
      simp only [this]
      split <;> omega
    have hq : FP.Core.quantum FP.Core.b64 num 1 e ≤ R := by
      unfold FP.Core.quantum
      have e1 : FP.Core.b64.qmin = -1074 := by decide
      have e2 : ((FP.Core.b64.p : Int) - 1) = 52 := by decide
      rw [e1, e2]
      omega
    have hx : FP.Core.b64.qmax = 971 := by decide
    unfold FP.Core.roundAt FP.Core.settle
    split
    · unfold FP.Core.bound
      rw [if_pos (by rw [hx]; omega)]
      exact ⟨_, _, _, rfl, by omega⟩
    · unfold FP.Core.bound
      rw [if_pos (by rw [hx]; omega)]
      exact ⟨_, _, _, rfl, by omega⟩
theorem fb_c {x : UInt64} {s : Bool} {c : Nat} {q : Int} (h : fbv x = .fin s c q) : c < 2 ^ 53 := by
  have := fbv_fits x
  rw [h] at this
  exact this.1
theorem fb_mul {P Q : Int} {x y : UInt64} (hx : fb P x) (hy : fb Q y) (h0 : -1000 ≤ P + Q) (h1 : P + Q + 54 ≤ 971) : fb (P + Q + 54) (FP.dmul x y) := by
  obtain ⟨s, c, q, a1, a2⟩ := hx
  obtain ⟨t, d, r, b1, b2⟩ := hy
  have hc := fb_c a1
  have hd := fb_c b1
  have hv : fbv (FP.dmul x y) = FP.Core.roundRatio FP.Core.b64 (s != t) (c * d) 1 (q + r) := by
    show fbv (FP.Core.dmul x y) = _
    rw [fbv_dmul, a1, b1]
    rfl
  have hm : c * d < 2 ^ 106 := by
    calc c * d ≤ c * 2 ^ 53 := Nat.mul_le_mul_left _ (by omega)
      _ < 2 ^ 53 * 2 ^ 53 := Nat.mul_lt_mul_of_pos_right hc (by decide)
      _ = 2 ^ 106 := by decide
  obtain ⟨s', c', q', e1, e2⟩ := fb_ratio (s := s != t) (e := q + r) (R := P + Q + 53) hm (by omega) (by omega) (by omega)
  exact ⟨s', c', q', by rw [hv]; exact e1, by omega⟩
theorem fb_units {c : Nat} {q e R : Int} (hc : c < 2 ^ 53) (h1 : e ≤ q) (h2 : q ≤ R) : FP.Core.inUnits c q e < 2 ^ (53 + (R - e).toNat) := by
  unfold FP.Core.inUnits
  calc c * 2 ^ (q - e).toNat < 2 ^ 53 * 2 ^ (q - e).toNat := Nat.mul_lt_mul_of_pos_right hc (Nat.two_pow_pos _)
    _ = 2 ^ (53 + (q - e).toNat) := by rw [Nat.pow_add]
    _ ≤ 2 ^ (53 + (R - e).toNat) := Nat.pow_le_pow_right (by decide) (by omega)
theorem fb_add {R : Int} {x y : UInt64} (hx : fb R x) (hy : fb R y) (h0 : -1000 ≤ R) (h1 : R + 2 ≤ 971) : fb (R + 2) (FP.dadd x y) := by
  obtain ⟨s, c, q, a1, a2⟩ := hx
  obtain ⟨t, d, r, b1, b2⟩ := hy
  have hc := fb_c a1
  have hd := fb_c b1
  have hv : fbv (FP.dadd x y) = FP.Core.roundRatio FP.Core.b64 (FP.Core.sumSign s t (FP.Core.sumUnits s c q t d r (min q r))) (FP.Core.sumUnits s c q t d r (min q r)).natAbs 1 (min q r) := by
    show fbv (FP.Core.dadd x y) = _
    rw [fbv_dadd, a1, b1]
    rfl
  have u1 := fb_units (e := min q r) (R := R) hc (by omega) a2
  have u2 := fb_units (e := min q r) (R := R) hd (by omega) b2
  have hm : (FP.Core.sumUnits s c q t d r (min q r)).natAbs < 2 ^ (54 + (R - min q r).toNat) := by
    have e : 2 ^ (54 + (R - min q r).toNat) = 2 * 2 ^ (53 + (R - min q r).toNat) := by rw [show 54 + (R - min q r).toNat = (53 + (R - min q r).toNat) + 1 by omega, Nat.pow_succ]; omega
    unfold FP.Core.sumUnits
    have s1 : ∀ (b : Bool) (z : Nat), (FP.Core.signed b z).natAbs = z := by
      intro b z
      unfold FP.Core.signed
      cases b <;> simp
    have := Int.natAbs_add_le (FP.Core.signed s (FP.Core.inUnits c q (min q r))) (FP.Core.signed t (FP.Core.inUnits d r (min q r)))
    rw [s1, s1] at this
    omega
  obtain ⟨s', c', q', e1, e2⟩ := fb_ratio (s := FP.Core.sumSign s t (FP.Core.sumUnits s c q t d r (min q r))) (e := min q r) (R := R + 1) hm (by omega) (by omega) (by omega)
  exact ⟨s', c', q', by rw [hv]; exact e1, by omega⟩
theorem fb_i2d (k : Int32) : fb (-20) (FP.i2d k) := by
  have hv : fbv (FP.i2d k) = FP.Core.roundRatio FP.Core.b64 (decide (k.toInt < 0)) k.toInt.natAbs 1 0 := by
    show fbv (FP.Core.i2d k) = _
    rw [fbv_i2d]
    rfl
  have h1 := k.toInt_lt
  have h2 := k.le_toInt
  obtain ⟨s', c', q', e1, e2⟩ := fb_ratio (s := decide (k.toInt < 0)) (e := 0) (R := -21) (M := 32) (num := k.toInt.natAbs) (by omega) (by omega) (by omega) (by omega)
  exact ⟨s', c', q', by rw [hv]; exact e1, by omega⟩
theorem fb_8th : fb (-55) 4593671619917905920 := ⟨false, 4503599627370496, -55, by decide +kernel, by decide⟩
theorem fb_one : fb (-52) FP.dconst1 := ⟨false, 4503599627370496, -52, by decide +kernel, by decide⟩
theorem fb_zero : fb (-1074) FP.dconst0 := ⟨false, 0, -1074, by decide +kernel, by decide⟩
/-- an eighth of an int -/
theorem fb_eighth (k : Int32) : fb (-21) (FP.dmul (FP.i2d k) 4593671619917905920) := fb_mul (fb_i2d k) fb_8th (by decide) (by decide)
/-! what a state keeps -/
def st_fin (b : st_B) : Prop := fb (-21) b.1 ∧ fb (-21) b.2.1 ∧ fb (-21) b.2.2.1 ∧ fb (-21) b.2.2.2.1 ∧ fb (-21) b.2.2.2.2.1
def st_wf (A : st_A) : Prop :=
  tr_wf (sa_T A) ∧ sa_D A 0 0 ≤ 40 ∧ (∀ k, k < sa_D A 0 0 → sa_D A 1 k < tr_N (sa_T A) ∧ sa_D A 2 k < 8 ∧ sa_D A 3 k < 8) ∧ (∀ s, s < 8 → sa_D A 4 s ≤ 5) ∧ (∀ s j, s < 8 → j < sa_D A 4 s → sa_D A 5 (5 * s + j) ≤ 8) ∧ sa_D A 0 2 ≤ 120 ∧ (∀ n b, n < tr_N (sa_T A) → sa_B A n = some b → tr_el (sa_T A) n ∧ st_fin b)
/-- what events leave as it was -/
def st_ext (A A' : st_A) : Prop :=
  (tr_N (sa_T A') = tr_N (sa_T A) ∧ tr_kd (sa_T A') = tr_kd (sa_T A) ∧ tr_nm (sa_T A') = tr_nm (sa_T A) ∧ tr_sh (sa_T A') = tr_sh (sa_T A) ∧ tr_ho (sa_T A') = tr_ho (sa_T A)) ∧
  (∀ k, k < sa_D A 0 0 → sa_D A' 1 k = sa_D A 1 k ∧ sa_D A' 2 k = sa_D A 2 k ∧ sa_D A' 3 k = sa_D A 3 k ∧ sa_I A' 0 k = sa_I A 0 k) ∧ sa_D A 0 0 ≤ sa_D A' 0 0 ∧ sa_D A' 4 = sa_D A 4 ∧ sa_D A' 5 = sa_D A 5 ∧ sa_I A' 1 = sa_I A 1 ∧ sa_B A' = sa_B A ∧ sa_D A' 0 1 + sa_D A' 0 2 = sa_D A 0 1 + sa_D A 0 2
theorem st_ext.rf (A : st_A) : st_ext A A := ⟨⟨rfl, rfl, rfl, rfl, rfl⟩, fun _ _ => ⟨rfl, rfl, rfl, rfl⟩, Nat.le_refl _, rfl, rfl, rfl, rfl, rfl⟩
theorem st_ext.tr {A B C : st_A} (h : st_ext A B) (k : st_ext B C) : st_ext A C := by
  obtain ⟨⟨a1, a2, a3, a4, a5⟩, a6, a7, a8, a9, a10, a11, a12⟩ := h
  obtain ⟨⟨b1, b2, b3, b4, b5⟩, b6, b7, b8, b9, b10, b11, b12⟩ := k
  refine ⟨⟨b1.trans a1, b2.trans a2, b3.trans a3, b4.trans a4, b5.trans a5⟩, fun k hk => ?_, Nat.le_trans a7 b7, b8.trans a8, b9.trans a9, b10.trans a10, b11.trans a11, b12.trans a12⟩
  obtain ⟨c1, c2, c3, c4⟩ := a6 k hk
  obtain ⟨d1, d2, d3, d4⟩ := b6 k (Nat.lt_of_lt_of_le hk a7)
  exact ⟨d1.trans c1, d2.trans c2, d3.trans c3, d4.trans c4⟩
def st_go (A A' : st_A) : Prop := st_wf A' ∧ st_ext A A'
theorem st_go.tr {A B C : st_A} (h : st_go A B) (k : st_go B C) : st_go A C := ⟨k.1, h.2.tr k.2⟩
theorem st_go.rf {A : st_A} (h : st_wf A) : st_go A A := ⟨h, st_ext.rf A⟩
theorem st_go_K {A : st_A} (h : st_wf A) (f k : Nat) (v : Bool) : st_go A (su_K A f k v) := ⟨h, st_ext.rf A⟩
theorem st_go_I {A : st_A} (h : st_wf A) {f : Nat} (k : Nat) (v : Int32) (h2 : 2 ≤ f) : st_go A (su_I A f k v) := by
  refine ⟨h, ⟨rfl, rfl, rfl, rfl, rfl⟩, fun k' _ => ⟨rfl, rfl, rfl, ?_⟩, Nat.le_refl _, rfl, rfl, ?_, rfl, rfl⟩
  · rw [sa_I_I, if_neg (by omega)]
  · funext j
    rw [sa_I_I, if_neg (by omega)]
theorem st_go_T {A : st_A} (h : st_wf A) {T : tr_T} (hw : tr_wf T) (h1 : tr_N T = tr_N (sa_T A)) (h2 : tr_kd T = tr_kd (sa_T A)) (h3 : tr_nm T = tr_nm (sa_T A)) (h4 : tr_sh T = tr_sh (sa_T A)) (h5 : tr_ho T = tr_ho (sa_T A)) : st_go A (su_T A T) := by
  obtain ⟨a1, a2, a3, a4, a5, a6, a7⟩ := h
  refine ⟨⟨hw, a2, fun k hk => ?_, a4, a5, a6, fun n b hn hb => ?_⟩, ⟨h1, h2, h3, h4, h5⟩, fun k' _ => ⟨rfl, rfl, rfl, rfl⟩, Nat.le_refl _, rfl, rfl, rfl, rfl, rfl⟩
  · show _ < tr_N T ∧ _
    rw [h1]; exact a3 k hk
  · have hn' : n < tr_N (sa_T A) := by rw [← h1]; exact hn
    obtain ⟨c1, c2⟩ := a7 n b hn' hb
    refine ⟨?_, c2⟩
    unfold tr_el at c1 ⊢
    show tr_kd T n = 0 ∨ tr_kd T n = 1 ∨ tr_kd T n = 2
    rw [h2]; exact c1
theorem st_go_leave {A : st_A} (h : st_wf A) {n : Nat} (hn : n < tr_N (sa_T A)) : st_go A (su_T A (tr_leave (sa_T A) n)) := st_go_T h (tr_wf_leave h.1 hn) rfl rfl rfl rfl rfl
theorem st_go_rem {A : st_A} (h : st_wf A) (k : Int32) : st_go A (ds_rem A k) := by
  unfold ds_rem
  split
  · exact st_go.rf h
  · exact st_go_K h _ _ _
theorem st_go_out {A : st_A} (h : st_wf A) (k : Int32) : st_go A (ds_out A k) := by
  unfold ds_out
  split
  · exact st_go.rf h
  · rename_i n hn
    exact st_go_leave h (st_ix_some (by have := h.1.1.2; omega) hn).1
theorem st_go_move {A : st_A} (h : st_wf A) (k : Int32) {p : Nat} (hp : p < tr_N (sa_T A)) : st_go A (ds_move A k p) := by
  unfold ds_move
  split
  · exact st_go.rf h
  · rename_i n hn
    have hn' := (st_ix_some (by have := h.1.1.2; omega) hn).1
    split
    · rename_i hc
      exact st_go_T h (tr_wf_ins h.1 hn' hp ((tr_el_iff h.1 hn').mpr hc.1) hc.2 (fun f hf => by cases hf)) rfl rfl rfl rfl rfl
    · exact st_go.rf h
theorem st_go_add {A : st_A} (h : st_wf A) {n : Nat} {t : Int32} {o s : Nat} (hn : n < tr_N (sa_T A)) (ho : o < 8) (hs : s < 8) : st_go A (ds_add A n t o s).1 := by
  unfold ds_add
  split
  · exact st_go.rf h
  · rename_i hc
    have hL : sa_D A 0 0 < 40 := by
      apply Nat.lt_of_not_le
      intro z
      exact hc (Or.inl z)
    obtain ⟨a1, a2, a3, a4, a5, a6, a7⟩ := h
    refine ⟨⟨a1, ?_, fun k hk => ?_, ?_, ?_, ?_, a7⟩, ⟨rfl, rfl, rfl, rfl, rfl⟩, fun k hk => ⟨?_, ?_, ?_, ?_⟩, ?_, ?_, ?_, ?_, rfl, ?_⟩
    · simp [sa_D_D, sa_D_K]; omega
    · simp only [sa_D_D, sa_D_K, sa_D_I, sa_T_D, sa_T_K, sa_T_I] at hk ⊢
      simp at hk ⊢
      by_cases e : k = sa_D A 0 0
      · simp [e, hn, ho, hs]
      · simp [e]
        exact a3 k (by omega)
    · intro s' hs'
      simp only [sa_D_D, sa_D_K, sa_D_I]
      simpa using a4 s' hs'
    · intro s' j hs' hj
      simp only [sa_D_D, sa_D_K, sa_D_I] at hj ⊢
      simp at hj ⊢
      exact a5 s' j hs' hj
    · simp only [sa_D_D, sa_D_K, sa_D_I]
      simpa using a6
    all_goals first | (have e : ¬ k = sa_D A 0 0 := by omega
                       simp [sa_D_D, sa_D_K, sa_D_I, sa_I_D, sa_I_I, sa_I_K, e]) | skip
    · simp [sa_D_D, sa_D_K, sa_D_I]
    · funext j
      simp [sa_D_D, sa_D_K, sa_D_I]
    · funext j
      simp [sa_D_D, sa_D_K, sa_D_I]
    · funext j
      simp [sa_I_D, sa_I_I, sa_I_K]
    · simp [sa_D_D, sa_D_K, sa_D_I]
/-- a way of sending keeps the state in order -/
def st_good (S : ev_S) : Prop := ∀ A t ty fl, st_wf A → t < tr_N (sa_T A) → st_go A (S A t ty fl).1
theorem st_go_cmd {S : ev_S} (hS : st_good S) {E : ev_E} {l c : Nat} {n : Int32} {P : ev_P} (h : st_wf P.1) (hl : l < sa_D P.1 0 0) : st_go P.1 (ds_cmd S E l c n P).1 := by
  unfold ds_cmd
  split
  · exact st_go.rf h
  · exact st_go.rf h
  · exact st_go.rf h
  · exact st_go_rem h _
  · split
    · exact st_go.rf h
    · rename_i k hk
      have hk' := (st_ix_some (by have := h.2.1; omega) hk).1
      obtain ⟨b1, b2, b3⟩ := h.2.2.1 k hk'
      exact st_go_add h b1 b3 b2
  · split
    · exact hS _ _ _ _ h (h.2.2.1 l hl).1
    · exact st_go.rf h
  · exact st_go_out h _
  · exact st_go_move h _ (h.2.2.1 l hl).1
  · exact st_go.rf h
theorem st_go_run {S : ev_S} (hS : st_good S) {E : ev_E} {l s : Nat} : ∀ (j k : Nat) (P : ev_P), st_wf P.1 → l < sa_D P.1 0 0 → st_go P.1 (ds_run S E l s j k P).1 := by
  intro j
  induction j with
  | zero => intro k P h _; exact st_go.rf h
  | succ j ih =>
    intro k P h hl
    simp only [ds_run]
    split
    · split
      · exact st_go_I h _ _ (by decide)
      · have g := st_go_cmd hS (E := E) (c := sa_D P.1 5 (5 * s + k)) (n := sa_I P.1 1 (5 * s + k)) h hl
        exact g.tr (ih _ _ g.1 (Nat.lt_of_lt_of_le hl g.2.2.2.1))
    · exact st_go.rf h
theorem st_go_pre {A : st_A} (h : st_wf A) (hb : 0 < sa_D A 0 2) (l cur tgt : Nat) (cap : Bool) (ty : Int32) : st_go A (ds_pre A l cur tgt cap ty) := by
  unfold ds_pre ds_log
  obtain ⟨a1, a2, a3, a4, a5, a6, a7⟩ := h
  refine ⟨⟨a1, ?_, ?_, ?_, ?_, ?_, a7⟩, ⟨rfl, rfl, rfl, rfl, rfl⟩, fun k hk => ⟨?_, ?_, ?_, ?_⟩, ?_, ?_, ?_, ?_, rfl, ?_⟩
  · simp [sa_D_D, sa_D_K, sa_D_I]; exact a2
  · simp [sa_D_D, sa_D_K, sa_D_I, sa_T_D, sa_T_K, sa_T_I]; exact a3
  · simp [sa_D_D, sa_D_K, sa_D_I]; exact a4
  · simp [sa_D_D, sa_D_K, sa_D_I]; exact a5
  · simp [sa_D_D, sa_D_K, sa_D_I]; omega
  · simp [sa_D_D, sa_D_K, sa_D_I]
  · simp [sa_D_D, sa_D_K, sa_D_I]
  · simp [sa_D_D, sa_D_K, sa_D_I]
  · simp [sa_I_D, sa_I_I, sa_I_K]
  · simp [sa_D_D, sa_D_K, sa_D_I]
  · funext j; simp [sa_D_D, sa_D_K, sa_D_I]
  · funext j; simp [sa_D_D, sa_D_K, sa_D_I]
  · funext j; simp [sa_I_D, sa_I_I, sa_I_K]
  · simp [sa_D_D, sa_D_K, sa_D_I]; omega
theorem st_go_fire {S : ev_S} (hS : st_good S) {E : ev_E} {l cur tgt : Nat} {cap : Bool} {P : ev_P} (h : st_wf P.1) (hb : 0 < sa_D P.1 0 2) (hl : l < sa_D P.1 0 0) : st_go P.1 (ds_run S E l (sa_D P.1 2 l) 5 0 (ds_pre P.1 l cur tgt cap E.1, P.2)).1 := by
  have g := st_go_pre h hb l cur tgt cap E.1
  exact g.tr (st_go_run hS 5 0 (ds_pre P.1 l cur tgt cap E.1, P.2) g.1 (Nat.lt_of_lt_of_le hl g.2.2.2.1))
theorem st_go_turn {S : ev_S} (hS : st_good S) {E : ev_E} {cur tgt : Nat} {cap : Bool} : ∀ (j k : Nat) (P : ev_P), st_wf P.1 → k + j ≤ sa_D P.1 0 0 → st_go P.1 (ds_turn S E cur tgt cap j k P).1 := by
  intro j
  induction j with
  | zero => intro k P h _; exact st_go.rf h
  | succ j ih =>
    intro k P h hk
    simp only [ds_turn]
    split
    · exact st_go.rf h
    · split
      · rename_i hc
        have g := st_go_fire hS (E := E) (l := k) (cur := cur) (tgt := tgt) (cap := cap) h hc.2 (by omega)
        exact g.tr (ih _ _ g.1 (by have := g.2.2.2.1; omega))
      · exact ih _ _ h (by omega)
theorem st_go_take {S : ev_S} (hS : st_good S) {E : ev_E} {cap : Bool} {e : Nat × Nat} {P : ev_P} (h : st_wf P.1) : st_go P.1 (ds_take S E cap e P).1 := by
  unfold ds_take
  split
  · exact st_go.rf h
  · exact st_go_turn hS _ _ P h (by omega)
theorem st_go_walk {S : ev_S} (hS : st_good S) {E : ev_E} {cap : Bool} : ∀ (l : List (Nat × Nat)) (P : ev_P), st_wf P.1 → st_go P.1 (ds_walk S E cap l P).1 := by
  intro l
  induction l with
  | nil => intro P h; exact st_go.rf h
  | cons e l ih =>
    intro P h
    simp only [ds_walk]
    split
    · exact st_go.rf h
    · have g := st_go_take hS (E := E) (cap := cap) (e := e) h
      exact g.tr (ih _ g.1)
theorem st_go_flip {A : st_A} (h : st_wf A) (o : Option Nat) : st_go A (ds_flip A o) := by
  unfold ds_flip
  split
  · exact st_go.rf h
  · exact st_go_K h _ _ _
theorem st_go_mid {S : ev_S} (hS : st_good S) {A : st_A} (h : st_wf A) (t : Nat) (ty : Int32) (fl : Nat) : st_go A (ds_mid S A t ty fl).1 := by
  unfold ds_mid ds_beg
  have g1 := st_go_flip h (ds_check (sa_T A) ty fl (ds_path (sa_T A) t fl))
  have g2 := st_go_walk hS (E := (ty, fl, ds_path (sa_T A) t fl)) (cap := true) (ds_path (sa_T A) t fl).reverse (ds_flip A (ds_check (sa_T A) ty fl (ds_path (sa_T A) t fl)), (false, false, false)) g1.1
  have g3 := st_go_walk hS (E := (ty, fl, ds_path (sa_T A) t fl)) (cap := false) (ds_path (sa_T A) t fl) _ g2.1
  exact (g1.tr g2).tr g3
theorem st_good_send1 {S : ev_S} (hS : st_good S) : st_good (ds_send1 S) := by
  intro A t ty fl h ht
  have g := st_go_mid hS h t ty fl
  unfold ds_send1 ds_end
  simp only
  split
  · exact g.tr (st_go_flip g.1 _)
  · exact g
theorem st_good_send : ∀ e, st_good (ds_send e) := by
  intro e
  induction e with
  | zero => intro A t ty fl h _; exact st_go.rf h
  | succ e ih => exact st_good_send1 ih
