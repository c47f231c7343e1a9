/-! THE ENGINE, part 3: how the heap's picture moves -/
/-- the good words of the tables -/
def en_W : List Jvm.Cond := lw_tbl.filter goodWord
def en_N (ci : Nat) : Nat := match ci with
  | 0 => 10
  | 1 => 2
  | 2 => 9
  | 3 => 5
  | 4 => 12
  | 5 => 3
  | 6 => 13
  | _ => 53
theorem en_inW {w : Jvm.Cond} (h : w ∈ lw_tbl) (hg : goodWord w = true) : w ∈ en_W := List.mem_filter.mpr ⟨h, hg⟩
theorem en_ws0 : ∀ w ∈ u_ws RX0 TX0 10, w ∈ lw_tbl ∧ goodWord w = true := by decide +kernel
theorem en_ws1 : ∀ w ∈ u_ws RX1 TX1 2, w ∈ lw_tbl ∧ goodWord w = true := by decide +kernel
theorem en_ws2 : ∀ w ∈ u_ws RX2 TX2 9, w ∈ lw_tbl ∧ goodWord w = true := by decide +kernel
theorem en_ws3 : ∀ w ∈ u_ws RX3 TX3 5, w ∈ lw_tbl ∧ goodWord w = true := by decide +kernel
theorem en_ws4 : ∀ w ∈ u_ws RX4 TX4 12, w ∈ lw_tbl ∧ goodWord w = true := by decide +kernel
theorem en_ws5 : ∀ w ∈ u_ws RX5 TX5 3, w ∈ lw_tbl ∧ goodWord w = true := by decide +kernel
theorem en_ws6 : ∀ w ∈ u_ws RX6 TX6 13, w ∈ lw_tbl ∧ goodWord w = true := by decide +kernel
theorem en_ws7 : ∀ w ∈ u_ws RX7 TX7 53, w ∈ lw_tbl ∧ goodWord w = true := by decide +kernel
/-- what holds of every class of the table -/
def en_good (ci : Nat) (r : vw_C) : Prop := r.2.2 = en_N ci ∧ ci < 8 ∧ (∀ w ∈ u_ws r.1 r.2.1 r.2.2, w ∈ en_W) ∧ (∀ k, k < r.2.2 → parseFieldDescriptor (r.2.1 k).2.2.1 = some (en_ty (100 * ci + k))) ∧ (∀ a, a < r.2.2 → ∀ b, b < r.2.2 → a ≠ b → (r.2.1 a).2.1 ≠ (r.2.1 b).2.1) ∧ (∀ k, k < r.2.2 → en_T (100 * ci + k) = r.2.1 k)
theorem en_dm {ci k : Nat} (h : k < 100) : (100 * ci + k) / 100 = ci ∧ (100 * ci + k) % 100 = k := by omega
theorem en_goodAll : ∀ (ci : Nat) (r : vw_C), vwCl[ci]? = some r → en_good ci r := by
  intro ci r h
  have key : ∀ (C : String) (T : u_T) (ty : Nat → FieldType) (N cj : Nat), N ≤ 53 → N = en_N cj → cj < 8 → (∀ w ∈ u_ws C T N, w ∈ lw_tbl ∧ goodWord w = true) → (∀ k, k < N → parseFieldDescriptor (T k).2.2.1 = some (ty k)) → (∀ a, a < N → ∀ b, b < N → a ≠ b → (T a).2.1 ≠ (T b).2.1) → (∀ f, f / 100 = cj → en_ty f = ty (f % 100)) → (∀ f, f / 100 = cj → en_T f = T (f % 100)) → en_good cj (C, T, N) := by
    intro C T ty N cj hN h0 h1 h2 h3 h4 h5 h6
    refine ⟨h0, h1, fun w hw => en_inW (h2 w hw).1 (h2 w hw).2, fun k hk => ?_, h4, fun k hk => ?_⟩
    · have hd := en_dm (ci := cj) (k := k) (Nat.lt_of_lt_of_le hk (Nat.le_trans hN (by decide)))
      rw [h5 _ hd.1, hd.2]; exact h3 k hk
    · have hd := en_dm (ci := cj) (k := k) (Nat.lt_of_lt_of_le hk (Nat.le_trans hN (by decide)))
      rw [h6 _ hd.1, hd.2]
  match ci, h with
  | 0, h => cases h; exact key RX0 TX0 tyX0 10 0 (by decide) rfl (by decide) en_ws0 tyX0_ok nmX0 (fun f hf => by simp only [en_ty, hf]) (fun f hf => by simp only [en_T, hf])
  | 1, h => cases h; exact key RX1 TX1 tyX1 2 1 (by decide) rfl (by decide) en_ws1 tyX1_ok nmX1 (fun f hf => by simp only [en_ty, hf]) (fun f hf => by simp only [en_T, hf])
  | 2, h => cases h; exact key RX2 TX2 tyX2 9 2 (by decide) rfl (by decide) en_ws2 tyX2_ok nmX2 (fun f hf => by simp only [en_ty, hf]) (fun f hf => by simp only [en_T, hf])
  | 3, h => cases h; exact key RX3 TX3 tyX3 5 3 (by decide) rfl (by decide) en_ws3 tyX3_ok nmX3 (fun f hf => by simp only [en_ty, hf]) (fun f hf => by simp only [en_T, hf])
  | 4, h => cases h; exact key RX4 TX4 tyX4 12 4 (by decide) rfl (by decide) en_ws4 tyX4_ok nmX4 (fun f hf => by simp only [en_ty, hf]) (fun f hf => by simp only [en_T, hf])
  | 5, h => cases h; exact key RX5 TX5 tyX5 3 5 (by decide) rfl (by decide) en_ws5 tyX5_ok nmX5 (fun f hf => by simp only [en_ty, hf]) (fun f hf => by simp only [en_T, hf])
  | 6, h => cases h; exact key RX6 TX6 tyX6 13 6 (by decide) rfl (by decide) en_ws6 tyX6_ok nmX6 (fun f hf => by simp only [en_ty, hf]) (fun f hf => by simp only [en_T, hf])
  | 7, h => cases h; exact key RX7 TX7 tyX7 53 7 (by decide) rfl (by decide) en_ws7 tyX7_ok nmX7 (fun f hf => by simp only [en_ty, hf]) (fun f hf => by simp only [en_T, hf])
  | k + 8, h => simp [vwCl] at h
/-- the types that occur -/
def en_okty : FieldType → Bool
  | .int => true
  | .boolean => true
  | .double => true
  | .object _ => true
  | .array _ => true
  | _ => false
theorem en_okAll (ci : Nat) (r : vw_C) (h : vwCl[ci]? = some r) : ∀ k, k < r.2.2 → en_okty (en_ty (100 * ci + k)) = true := by
  match ci, h with
  | 0, h => cases h; decide +kernel
  | 1, h => cases h; decide +kernel
  | 2, h => cases h; decide +kernel
  | 3, h => cases h; decide +kernel
  | 4, h => cases h; decide +kernel
  | 5, h => cases h; decide +kernel
  | 6, h => cases h; decide +kernel
  | 7, h => cases h; decide +kernel
  | k + 8, h => simp [vwCl] at h
theorem en_N_le (ci : Nat) : en_N ci ≤ 53 := by unfold en_N; split <;> decide
/-- fields of other cells are as they were -/
theorem en_fld_sf {σ : en_S} {f a g b : Nat} {v : en_V} (h : ¬ (g = f ∧ b = a)) : en_fld (en_sf σ f a v) g b = en_fld σ g b := by
  rcases v with _ | (x | o | x | x) <;> simp only [en_sf] <;> unfold en_fld <;> simp only [en_fi, en_fr, en_fd, en_sfi, en_sfr, en_sfd, if_neg h]
theorem en_fld_self {σ : en_S} {f a : Nat} {v : en_V} {ini : Bool} (h : en_fit ini f v) : en_fld (en_sf σ f a v) f a = v := by
  have h := h.1
  unfold en_fld
  rcases hty : en_ty f <;> rw [hty] at h <;> rcases v with _ | (x | o | x | x) <;> first | exact h.elim | simp [en_sf, en_fi, en_fr, en_fd, en_sfi, en_sfr, en_sfd, en_I, en_R, en_D]
theorem en_sf_cl {σ : en_S} {f a : Nat} {v : en_V} : en_cl (en_sf σ f a v) = en_cl σ := by rcases v with _ | (x | o | x | x) <;> rfl
theorem en_sf_al {σ : en_S} {f a : Nat} {v : en_V} : en_al (en_sf σ f a v) = en_al σ := by rcases v with _ | (x | o | x | x) <;> rfl
theorem en_sf_nx {σ : en_S} {f a : Nat} {v : en_V} : en_nx (en_sf σ f a v) = en_nx σ := by rcases v with _ | (x | o | x | x) <;> rfl
theorem en_sf_ns {σ : en_S} {f a : Nat} {v : en_V} : en_ns (en_sf σ f a v) = en_ns σ := by rcases v with _ | (x | o | x | x) <;> rfl
theorem en_sf_el {σ : en_S} {f a t b : Nat} {v : en_V} : en_el (en_sf σ f a v) t b = en_el σ t b := by rcases v with _ | (x | o | x | x) <;> rfl
theorem en_se_cl {σ : en_S} {a j : Nat} {v : en_V} : en_cl (en_se σ a j v) = en_cl σ := by rcases v with _ | (x | o | x | x) <;> rfl
theorem en_se_al {σ : en_S} {a j : Nat} {v : en_V} : en_al (en_se σ a j v) = en_al σ := by rcases v with _ | (x | o | x | x) <;> rfl
theorem en_se_nx {σ : en_S} {a j : Nat} {v : en_V} : en_nx (en_se σ a j v) = en_nx σ := by rcases v with _ | (x | o | x | x) <;> rfl
theorem en_se_ns {σ : en_S} {a j : Nat} {v : en_V} : en_ns (en_se σ a j v) = en_ns σ := by rcases v with _ | (x | o | x | x) <;> rfl
theorem en_se_fld {σ : en_S} {a j g b : Nat} {v : en_V} : en_fld (en_se σ a j v) g b = en_fld σ g b := by rcases v with _ | (x | o | x | x) <;> rfl
theorem en_se_el {σ : en_S} {a j t b i : Nat} {v : en_V} (h : ¬ (b = a ∧ i = j)) : en_el (en_se σ a j v) t b i = en_el σ t b i := by
  rcases v with _ | (x | o | x | x) <;> unfold en_el <;> split <;> simp only [en_se, en_ai, en_ar, en_ad, en_aj, en_sai, en_sar, en_sad, en_saj, if_neg h]
theorem en_se_self {σ : en_S} {a j t : Nat} {v : en_V} (h : en_afit σ t v) : en_el (en_se σ a j v) t a j = v := by
  unfold en_afit at h
  unfold en_el
  rcases v with _ | (x | o | x | x) <;> split <;> simp_all [en_se, en_ai, en_ar, en_ad, en_aj, en_sai, en_sar, en_sad, en_saj, en_I, en_R, en_D, en_L]
section
variable {D : va_G} {dA : Nat → ClassId} {base : Nat} {σ : en_S} {H H1 : Heap}
theorem en_H.lt (h : en_H D dA base σ H) {a ci : Nat} (hc : en_cl σ a = some ci) : a < en_nx σ := by
  obtain ⟨-, -, r, -, cell, h1, -⟩ := h.1 a ci hc
  rw [← h.2.2.1]
  exact (Array.getElem?_eq_some_iff.mp h1).1
theorem en_H.lta (h : en_H D dA base σ H) {a t n : Nat} (hc : en_al σ a = some (t, n)) : a < en_nx σ := by
  obtain ⟨-, -, -, h1⟩ := h.2.1 a t n hc
  rw [← h.2.2.1]
  exact (Array.getElem?_eq_some_iff.mp h1).1
/-- a field is written -/
theorem en_H.put (h : en_H D dA base σ H) {a f : Nat} {cell : Cell} {v : en_V} {ini : Bool} (hf : f % 100 < en_N (f / 100)) (hc : en_cl σ a = some (f / 100)) (hap : ∀ x y, x < en_N (f / 100) → y < en_N (f / 100) → x ≠ y → (D.2 (f / 100)) x ≠ (D.2 (f / 100)) y)
    (hfit : en_fit ini f v) (h0 : H[a]? = some cell) (e1 : H1[a]? = some (cell.setSlot (D.2 (f / 100) (f % 100)) (en_vv v))) (z : H1.size = H.size) (oq : ∀ q : Nat, q ≠ a → H1[q]? = H[q]?) : en_H D dA base (en_sf σ f a v) H1 := by
  have hff : 100 * (f / 100) + f % 100 = f := by omega
  refine ⟨fun b cj hb => ?_, fun b t n hb => ?_, ?_, ?_, by rw [z]; exact h.2.2.2.2⟩
  · rw [en_sf_cl] at hb
    obtain ⟨g1, g2, r, g3, g4⟩ := h.1 b cj hb
    refine ⟨g1, by rw [en_sf_al]; exact g2, r, g3, ?_⟩
    have hN := (en_goodAll cj r g3).1
    by_cases hba : b = a
    · subst hba
      cases Option.some.inj (hc.symm.trans hb)
      obtain ⟨cell', q1, q2, q3, q4⟩ := g4
      cases Option.some.inj (h0.symm.trans q1)
      rw [hN] at q4 ⊢
      refine ⟨_, e1, q2, q3, fun k hk => ?_⟩
      rw [t_set q4 hap hf (en_vv v) k hk]
      congr 1
      unfold updV
      by_cases hkf : k = f % 100
      · rw [if_pos hkf]
        show en_vv v = en_vv (en_fld (en_sf σ f b v) (100 * (f / 100) + k) b)
        rw [hkf, hff, en_fld_self hfit]
      · rw [if_neg hkf]
        show en_vv (en_fld σ (100 * (f / 100) + k) b) = en_vv (en_fld (en_sf σ f b v) (100 * (f / 100) + k) b)
        rw [en_fld_sf (f := f) (a := b) (g := 100 * (f / 100) + k) (b := b) (fun q => hkf (by omega))]
    · refine (g4.kept (oq b hba)).to (fun k _ => ?_)
      rw [en_fld_sf (fun q => hba q.2)]
  · rw [en_sf_al] at hb
    obtain ⟨g1, g2, g3, g4⟩ := h.2.1 b t n hb
    have hba : b ≠ a := fun q => by
      rw [q, (h.1 a _ hc).2.1] at hb
      cases hb
    refine ⟨g1, g2, g3, ?_⟩
    rw [oq b hba, en_sf_el]
    exact g4
  · rw [z, en_sf_nx]; exact h.2.2.1
  · rw [en_sf_ns, ← h.2.2.2.1]
    exact en_hs_set h0 e1 (en_setSlot_size _ _ _) oq
/-- an element is written -/
theorem en_H.st (h : en_H D dA base σ H) {a t n j : Nat} {v : en_V} (hc : en_al σ a = some (t, n)) (hfit : en_afit σ t v)
    (e1 : H1[a]? = some ((arrV (dA t) n (fun j => en_vv (en_el σ t a j))).setSlot j (en_vv v))) (z : H1.size = H.size) (oq : ∀ q : Nat, q ≠ a → H1[q]? = H[q]?) : en_H D dA base (en_se σ a j v) H1 := by
  refine ⟨fun b cj hb => ?_, fun b u k hb => ?_, ?_, ?_, by rw [z]; exact h.2.2.2.2⟩
  · rw [en_se_cl] at hb
    obtain ⟨g1, g2, r, g3, g4⟩ := h.1 b cj hb
    have hba : b ≠ a := fun q => by
      rw [q, hc] at g2
      cases g2
    refine ⟨g1, by rw [en_se_al]; exact g2, r, g3, (g4.kept (oq b hba)).to (fun k _ => ?_)⟩
    rw [en_se_fld]
  · rw [en_se_al] at hb
    obtain ⟨g1, g2, g3, g4⟩ := h.2.1 b u k hb
    refine ⟨g1, g2, g3, ?_⟩
    by_cases hba : b = a
    · subst hba
      cases Option.some.inj (hc.symm.trans hb)
      rw [e1, arrV_store]
      congr 2
      funext i
      unfold updV
      by_cases hi : i = j
      · rw [if_pos hi, hi, en_se_self hfit]
      · rw [if_neg hi, en_se_el (fun q => hi q.2)]
    · rw [oq b hba, g4]
      congr 2
      funext i
      rw [en_se_el (fun q => hba q.1)]
  · rw [z, en_se_nx]; exact h.2.2.1
  · rw [en_se_ns, ← h.2.2.2.1]
    exact en_hs_set (h.2.1 a t n hc).2.2.2 e1 (en_setSlot_size _ _ _) oq
/-- an object is made -/
theorem en_H.born (h : en_H D dA base σ H) {ci : Nat} {r : vw_C} {cell : Cell} (hr : vwCl[ci]? = some r) (hcell : t_OB (en_nx σ) (D.1 ci) r.2.2 (D.2 ci) (H.push cell) (fun k => defaultValue (en_ty (100 * ci + k)))) {N : Nat} (hN : cell.slots.size = N) : en_H D dA base (en_new σ ci N) (H.push cell) := by
  have hty := en_okAll ci r hr
  have hsz : H.size = en_nx σ := h.2.2.1
  have ho : ∀ q : Nat, q < en_nx σ → (H.push cell)[q]? = H[q]? := fun q hq => by rw [Array.getElem?_push, if_neg (by omega)]
  have hal : en_al σ (en_nx σ) = none := by
    cases hq : en_al σ (en_nx σ) with
    | none => rfl
    | some q => exact absurd (h.lta (t := q.1) (n := q.2) hq) (Nat.lt_irrefl _)
  have hfl : ∀ g b : Nat, b ≠ en_nx σ → en_fld (en_new σ ci N) g b = en_fld σ g b := fun g b hb => by
    unfold en_fld
    simp only [en_fi, en_fr, en_fd, en_new, if_neg hb]
  refine ⟨fun b cj hb => ?_, fun b t n hb => ?_, ?_, ?_, ?_⟩
  · by_cases hbn : b = en_nx σ
    · subst hbn
      have hcj : ci = cj := by
        have : (if en_nx σ = en_nx σ then some ci else σ.1 (en_nx σ)) = some cj := hb
        rw [if_pos rfl] at this
        exact Option.some.inj this
      subst hcj
      refine ⟨by rw [← hsz]; exact h.2.2.2.2, hal, r, hr, hcell.to (fun k hk => ?_)⟩
      unfold en_fld
      have hk := hty k hk
      revert hk
      cases en_ty (100 * ci + k) <;> intro hk <;> simp [defaultValue, en_I, en_R, en_D, en_vv, en_fi, en_fr, en_fd, en_new, va_rf, en_nx] <;> simp [en_okty] at hk
    · have hb' : en_cl σ b = some cj := by
        have : (if b = en_nx σ then some ci else σ.1 b) = some cj := hb
        rw [if_neg hbn] at this
        exact this
      obtain ⟨g1, g2, r', g3, g4⟩ := h.1 b cj hb'
      exact ⟨g1, g2, r', g3, (g4.kept (ho b (h.lt hb'))).to (fun k _ => by rw [hfl _ _ hbn])⟩
  · obtain ⟨g1, g2, g3, g4⟩ := h.2.1 b t n hb
    exact ⟨g1, g2, g3, by rw [ho b (h.lta (t := t) (n := n) hb)]; exact g4⟩
  · show (H.push cell).size = en_nx σ + 1
    rw [Array.size_push, hsz]
  · show en_hs (H.push cell) = en_ns σ + N
    rw [en_hs_push, h.2.2.2.1, hN]
  · rw [Array.size_push]; exact Nat.le_trans h.2.2.2.2 (Nat.le_succ _)
/-- an array is made -/
theorem en_H.borna (h : en_H D dA base σ H) {t n : Nat} (ht : t < 8) (hn : n < 2 ^ 31) : en_H D dA base (en_newa σ t n) (H.push (arrV (dA t) n (fun j => en_vv (en_el (en_newa σ t n) t (en_nx σ) j)))) := by
  have hsz : H.size = en_nx σ := h.2.2.1
  have ho : ∀ (cell : Cell) (q : Nat), q < en_nx σ → (H.push cell)[q]? = H[q]? := fun cell q hq => by rw [Array.getElem?_push, if_neg (by omega)]
  have hcl : en_cl σ (en_nx σ) = none := by
    cases hq : en_cl σ (en_nx σ) with
    | none => rfl
    | some q => exact absurd (h.lt hq) (Nat.lt_irrefl _)
  refine ⟨fun b cj hb => ?_, fun b u k hb => ?_, ?_, ?_, ?_⟩
  · have hb' : en_cl σ b = some cj := hb
    obtain ⟨g1, g2, r', g3, g4⟩ := h.1 b cj hb'
    have hbn : b ≠ en_nx σ := fun q => by rw [q, hcl] at hb'; cases hb'
    refine ⟨g1, ?_, r', g3, (g4.kept (ho _ b (h.lt hb'))).to (fun k _ => rfl)⟩
    show (if b = en_nx σ then some (t, n) else en_al σ b) = none
    rw [if_neg hbn]; exact g2
  · by_cases hbn : b = en_nx σ
    · subst hbn
      have hcj : (t, n) = (u, k) := by
        have : (if en_nx σ = en_nx σ then some (t, n) else en_al σ (en_nx σ)) = some (u, k) := hb
        rw [if_pos rfl] at this
        exact Option.some.inj this
      cases hcj
      refine ⟨by rw [← hsz]; exact h.2.2.2.2, ht, hn, ?_⟩
      rw [← hsz, Array.getElem?_push_size]
    · have hb' : en_al σ b = some (u, k) := by
        have : (if b = en_nx σ then some (t, n) else en_al σ b) = some (u, k) := hb
        rw [if_neg hbn] at this
        exact this
      obtain ⟨g1, g2, g3, g4⟩ := h.2.1 b u k hb'
      refine ⟨g1, g2, g3, ?_⟩
      rw [ho _ b (h.lta (t := u) (n := k) hb'), g4]
      congr 2
      funext i
      unfold en_el
      simp only [en_ai, en_ar, en_ad, en_aj, en_newa, if_neg hbn]
  · show (H.push _).size = en_nx σ + 1
    rw [Array.size_push, hsz]
  · show en_hs (H.push _) = en_ns σ + n
    rw [en_hs_push, h.2.2.2.1, arrV_size]
  · rw [Array.size_push]; exact Nat.le_trans h.2.2.2.2 (Nat.le_succ _)
/-- a cell of which nothing is said -/
theorem en_H.bump (h : en_H D dA base σ H) (hz : H1.size = en_nx σ + 1) {n : Nat} (hs : en_hs H1 = en_ns σ + n) (ho : ∀ q : Nat, q < H.size → H1[q]? = H[q]?) : en_H D dA base (en_bump σ n) H1 := by
  have hsz : H.size = en_nx σ := h.2.2.1
  refine ⟨fun b cj hb => ?_, fun b u k hb => ?_, hz, hs, ?_⟩
  · obtain ⟨g1, g2, r', g3, g4⟩ := h.1 b cj hb
    exact ⟨g1, g2, r', g3, (g4.kept (ho b (by rw [hsz]; exact h.lt hb))).to (fun k _ => rfl)⟩
  · obtain ⟨g1, g2, g3, g4⟩ := h.2.1 b u k hb
    exact ⟨g1, g2, g3, by rw [ho b (by rw [hsz]; exact h.lta (t := u) (n := k) hb)]; exact g4⟩
  · rw [hz]; have := h.2.2.2.2; omega
end
