/-! chains end within 24; a node put in, a node made -/
theorem tr_it_add {T : tr_T} : ∀ (i j n : Nat), tr_it T (i + j) n = (tr_it T i n).bind (tr_it T j) := by
  intro i
  induction i with
  | zero => intro j n; rw [Nat.zero_add]; rfl
  | succ i ih =>
    intro j n
    rw [show i + 1 + j = (i + j) + 1 by omega]
    simp only [tr_it]
    cases hu : tr_up T n with
    | none => rfl
    | some m => exact ih j m
theorem tr_it_mono {T : tr_T} {k k' n : Nat} (h : tr_it T k n = none) (hk : k ≤ k') : tr_it T k' n = none := by
  rw [show k' = k + (k' - k) by omega, tr_it_add, h]; rfl
theorem tr_it_lt {T : tr_T} {N : Nat} (hcl : ∀ n m, n < N → tr_up T n = some m → m < N) : ∀ (k n m : Nat), n < N → tr_it T k n = some m → m < N := by
  intro k
  induction k with
  | zero => intro n m hn h; cases h; exact hn
  | succ k ih =>
    intro n m hn h
    simp only [tr_it] at h
    cases hu : tr_up T n with
    | none => rw [hu] at h; cases h
    | some q => rw [hu] at h; exact ih q m (hcl n q hn hu) h
theorem tr_it_bound {T : tr_T} {N : Nat} (hcl : ∀ n m, n < N → tr_up T n = some m → m < N) {n : Nat} (hn : n < N) : ∀ K, tr_it T K n = none → tr_it T N n = none := by
  intro K
  induction K using Nat.strongRecOn with
  | ind K ih =>
    intro h
    by_cases hK : K ≤ N
    · exact tr_it_mono h hK
    · cases hN : tr_it T N n with
      | none => rfl
      | some z =>
        exfalso
        have hs : ∀ i, i ≤ N → ∃ a, tr_it T i n = some a ∧ a < N := by
          intro i hi
          cases hi2 : tr_it T i n with
          | none => rw [tr_it_mono hi2 hi] at hN; cases hN
          | some a => exact ⟨a, rfl, tr_it_lt hcl i n a hn hi2⟩
        have hl : ∃ i j, i < j ∧ j ≤ N ∧ tr_it T i n = tr_it T j n := by
          apply Classical.byContradiction
          intro hc
          have hnd : ((List.range (N + 1)).map (fun i => (tr_it T i n).getD 0)).Nodup := by
            unfold List.Nodup
            rw [List.pairwise_map]
            refine List.Pairwise.imp_of_mem ?_ List.pairwise_lt_range
            intro i j hi hj hij he
            have hi := List.mem_range.mp hi
            have hj := List.mem_range.mp hj
            obtain ⟨a, ha, -⟩ := hs i (by omega)
            obtain ⟨b, hb, -⟩ := hs j (by omega)
            apply hc
            refine ⟨i, j, hij, by omega, ?_⟩
            rw [ha, hb] at he
            rw [ha, hb]
            exact congrArg some he
          have := tr_pigeon N _ hnd (fun a ha => by
            obtain ⟨i, hi, rfl⟩ := List.mem_map.mp ha
            obtain ⟨b, hb, hb2⟩ := hs i (by have := List.mem_range.mp hi; omega)
            rw [hb]; exact hb2)
          rw [List.length_map, List.length_range] at this
          omega
        obtain ⟨i, j, hij, hj, he⟩ := hl
        have h2 : tr_it T (i + (K - j)) n = none := by
          rw [tr_it_add, he, ← tr_it_add, show j + (K - j) = K by omega]
          exact h
        have := ih (i + (K - j)) (by omega) h2
        rw [this] at hN
        cases hN
theorem tr_it_24 {T : tr_T} {N : Nat} (h24 : N ≤ 24) (hcl : ∀ n m, n < N → tr_up T n = some m → m < N) {n : Nat} (hn : n < N) {K : Nat} (h : tr_it T K n = none) : tr_it T 24 n = none := tr_it_mono (tr_it_bound hcl hn K h) h24
theorem tr_it_s {T : tr_T} {k n m : Nat} (hu : tr_up T n = some m) (h : tr_it T k m = none) : tr_it T (k + 1) n = none := by
  simp only [tr_it, hu]; exact h
theorem tr_it_0 {T : tr_T} {k n : Nat} (hu : tr_up T n = none) : tr_it T (k + 1) n = none := by
  simp only [tr_it, hu]
theorem tr_up_ins {T : tr_T} {n p m : Nat} {fo : Option Nat} : tr_up (tr_ins T n p fo) m = if m = n then some p else tr_up T m := by
  have e : tr_pa (tr_ins T n p fo) m = if m = n then some p else tr_pa T m := rfl
  have e2 : tr_ho (tr_ins T n p fo) m = tr_ho T m := rfl
  unfold tr_up
  rw [e, e2]
  by_cases h : m = n
  · rw [if_pos h, if_pos h, if_neg (by simp)]
  · rw [if_neg h, if_neg h]
theorem tr_it_ins {T : tr_T} {n p : Nat} {fo : Option Nat} : ∀ (k q : Nat), tr_cov T k n q = false → tr_it (tr_ins T n p fo) k q = tr_it T k q := by
  intro k
  induction k with
  | zero => intro q _; rfl
  | succ k ih =>
    intro q h
    simp only [tr_cov] at h
    by_cases hq : q = n
    · rw [if_pos hq] at h; cases h
    · rw [if_neg hq] at h
      simp only [tr_it]
      rw [tr_up_ins, if_neg hq]
      cases hu : tr_up T q with
      | none => rfl
      | some m => rw [hu] at h; exact ih m h
theorem tr_wf_ins {T : tr_T} (hw : tr_wf T) {n p : Nat} {fo : Option Nat} (hn : n < tr_N T) (hp : p < tr_N T) (he : tr_el T n) (ho : tr_over T n p = false) (hf : ∀ f, fo = some f → f ∈ tr_ch T p ∧ f ≠ n) : tr_wf (tr_ins T n p fo) := by
  have hw1 := tr_wf_leave hw hn
  have hpn : p ≠ n := fun z => by
    rw [z] at ho
    simp [tr_over, tr_cov] at ho
  have hfl : ∀ f, fo = some f → f ∈ tr_ch (tr_leave T n) p := by
    intro f hq
    obtain ⟨h1, h2⟩ := hf f hq
    have e : tr_ch (tr_leave T n) p = if tr_pa T n = some p then (tr_ch T p).erase n else tr_ch T p := rfl
    rw [e]
    by_cases h3 : tr_pa T n = some p
    · rw [if_pos h3]; exact (List.mem_erase_of_ne h2).mpr h1
    · rw [if_neg h3]; exact h1
  obtain ⟨pre, suf, hc, hi, -⟩ := tr_insL_split (n := n) hfl
  obtain ⟨-, -, hnn, hnd⟩ := tr_nx_ins (m := p) hw hn hp hc hi hp
  have hch : ∀ q, tr_ch (tr_ins T n p fo) q = if q = p then pre ++ n :: suf else tr_ch (tr_leave T n) q := fun q => by
    show (if q = p then tr_insL (tr_ch (tr_leave T n) p) n fo else tr_ch (tr_leave T n) q) = _
    rw [hi]
  have hpa : ∀ m, tr_pa (tr_ins T n p fo) m = if m = n then some p else tr_pa T m := fun m => rfl
  obtain ⟨w1, w2, w3, w4, w5, w6, w7, w8, w9⟩ := hw
  refine ⟨w1, fun m q hm hq => ?_, fun q c hq hc2 => ?_, fun q hq => ?_, w5, w6, w7, w8, fun m hm => ?_⟩
  · rw [hpa] at hq
    by_cases h : m = n
    · rw [if_pos h] at hq
      cases hq
      refine ⟨hp, ?_, by rw [h]; exact he⟩
      rw [hch, if_pos rfl, h]
      simp
    · rw [if_neg h] at hq
      have hl : tr_pa (tr_leave T n) m = some q := by
        show (if m = n then none else tr_pa T m) = _
        rw [if_neg h]; exact hq
      obtain ⟨g1, g2, g3⟩ := hw1.2.1 m q hm hl
      refine ⟨g1, ?_, (w2 m q hm hq).2.2⟩
      rw [hch]
      by_cases h2 : q = p
      · rw [if_pos h2]
        rw [h2, hc] at g2
        rcases List.mem_append.mp g2 with z | z
        · exact List.mem_append_left _ z
        · exact List.mem_append_right _ (List.mem_cons_of_mem _ z)
      · rw [if_neg h2]; exact g2
  · rw [hch] at hc2
    rw [hpa]
    by_cases h2 : q = p
    · rw [if_pos h2] at hc2
      rw [h2] at *
      by_cases h : c = n
      · rw [if_pos h, h]; exact ⟨hn, rfl⟩
      · have : c ∈ tr_ch (tr_leave T n) p := by
          rw [hc]
          rcases List.mem_append.mp hc2 with z | z
          · exact List.mem_append_left _ z
          · rcases List.mem_cons.mp z with z | z
            · exact absurd z h
            · exact List.mem_append_right _ z
        obtain ⟨g1, g2⟩ := hw1.2.2.1 p c hp this
        rw [if_neg h]
        refine ⟨g1, ?_⟩
        have e : tr_pa (tr_leave T n) c = if c = n then none else tr_pa T c := rfl
        rw [e, if_neg h] at g2
        exact g2
    · rw [if_neg h2] at hc2
      obtain ⟨g1, g2⟩ := hw1.2.2.1 q c hq hc2
      have e : tr_pa (tr_leave T n) c = if c = n then none else tr_pa T c := rfl
      rw [e] at g2
      by_cases h : c = n
      · rw [if_pos h] at g2; cases g2
      · rw [if_neg h] at g2
        rw [if_neg h]
        exact ⟨g1, g2⟩
  · rw [hch]
    by_cases h2 : q = p
    · rw [if_pos h2]; exact hnd
    · rw [if_neg h2]; exact hw1.2.2.2.1 q hq
  · have hcl : ∀ a b, a < tr_N T → tr_up (tr_ins T n p fo) a = some b → b < tr_N T := by
      intro a b ha hb
      rw [tr_up_ins] at hb
      by_cases h : a = n
      · rw [if_pos h] at hb; cases hb; exact hp
      · rw [if_neg h] at hb; exact tr_up_lt ⟨w1, w2, w3, w4, w5, w6, w7, w8, w9⟩ ha hb
    have hpe : tr_it (tr_ins T n p fo) 24 p = none := by
      rw [tr_it_ins 24 p ho]; exact w9 p hp
    have hex : ∀ k a, tr_it T k a = none → ∃ K, tr_it (tr_ins T n p fo) K a = none := by
      intro k
      induction k with
      | zero => intro a h; cases h
      | succ k ih =>
        intro a h
        by_cases ha : a = n
        · refine ⟨25, ?_⟩
          exact tr_it_s (by rw [tr_up_ins, if_pos ha]) hpe
        · simp only [tr_it] at h
          cases hu : tr_up T a with
          | none =>
            refine ⟨1, ?_⟩
            exact tr_it_0 (by rw [tr_up_ins, if_neg ha, hu])
          | some b =>
            rw [hu] at h
            obtain ⟨K, hK⟩ := ih b h
            refine ⟨K + 1, ?_⟩
            exact tr_it_s (by rw [tr_up_ins, if_neg ha, hu]) hK
    obtain ⟨K, hK⟩ := hex 24 m (w9 m hm)
    exact tr_it_24 w1.2 hcl hm hK
/-- a node made: an element, or the shadow of a host -/
def tr_mk (T : tr_T) (kd nm : Int32) (h : Option Nat) : tr_T := (tr_N T + 1, fun m => if m = tr_N T then kd else tr_kd T m, fun m => if m = tr_N T then nm else tr_nm T m, fun m => if m = tr_N T then none else tr_pa T m, fun m => if m = tr_N T then none else if h = some m then some (tr_N T) else tr_sh T m, fun m => if m = tr_N T then h else tr_ho T m, fun m => if m = tr_N T then [] else tr_ch T m)
theorem tr_wf_mk {T : tr_T} (hw : tr_wf T) {kd nm : Int32} {h : Option Nat} (hN : tr_N T < 24) (hk : (h = none ∧ (kd = 0 ∨ kd = 1 ∨ kd = 2)) ∨ (kd = 4 ∧ ∃ b, h = some b ∧ b < tr_N T ∧ tr_kd T b = 0 ∧ tr_sh T b = none)) : tr_wf (tr_mk T kd nm h) := by
  obtain ⟨w1, w2, w3, w4, w5, w6, w7, w8, w9⟩ := hw
  have eN : tr_N (tr_mk T kd nm h) = tr_N T + 1 := rfl
  have ek : ∀ m, tr_kd (tr_mk T kd nm h) m = if m = tr_N T then kd else tr_kd T m := fun m => rfl
  have ep : ∀ m, tr_pa (tr_mk T kd nm h) m = if m = tr_N T then none else tr_pa T m := fun m => rfl
  have es : ∀ m, tr_sh (tr_mk T kd nm h) m = if m = tr_N T then none else if h = some m then some (tr_N T) else tr_sh T m := fun m => rfl
  have eh : ∀ m, tr_ho (tr_mk T kd nm h) m = if m = tr_N T then h else tr_ho T m := fun m => rfl
  have ec : ∀ m, tr_ch (tr_mk T kd nm h) m = if m = tr_N T then [] else tr_ch T m := fun m => rfl
  have el : ∀ m, m < tr_N T → (tr_el T m → tr_el (tr_mk T kd nm h) m) := fun m hm he => by
    unfold tr_el at he ⊢
    rw [ek, if_neg (by omega)]; exact he
  have hup : ∀ m, m < tr_N T → tr_up (tr_mk T kd nm h) m = tr_up T m := fun m hm => by
    have hne : ¬ m = tr_N T := by omega
    unfold tr_up
    simp only [ep, eh, if_neg hne]
  have hclT : ∀ a b, a < tr_N T → tr_up T a = some b → b < tr_N T := fun a b ha hb => tr_up_lt ⟨w1, w2, w3, w4, w5, w6, w7, w8, w9⟩ ha hb
  have hit : ∀ k m, m < tr_N T → tr_it T k m = none → tr_it (tr_mk T kd nm h) k m = none := by
    intro k
    induction k with
    | zero => intro m _ z; cases z
    | succ k ih =>
      intro m hm z
      simp only [tr_it] at z ⊢
      rw [hup m hm]
      cases hu : tr_up T m with
      | none => rfl
      | some b => rw [hu] at z; exact ih b (hclT m b hm hu) z
  unfold tr_wf
  rw [eN]
  refine ⟨by omega, fun m q hm hq => ?_, fun q c hq hc => ?_, fun q hq => ?_, fun m b hm hb => ?_, fun m s hm hs => ?_, fun m hm hk4 => ?_, ⟨?_, fun m hm h0 => ?_⟩, fun m hm => ?_⟩
  · rw [ep] at hq
    by_cases e : m = tr_N T
    · rw [if_pos e] at hq; cases hq
    · rw [if_neg e] at hq
      obtain ⟨g1, g2, g3⟩ := w2 m q (by omega) hq
      refine ⟨by omega, ?_, el m (by omega) g3⟩
      rw [ec, if_neg (by omega)]; exact g2
  · rw [ec] at hc
    by_cases e : q = tr_N T
    · rw [if_pos e] at hc; cases hc
    · rw [if_neg e] at hc
      obtain ⟨g1, g2⟩ := w3 q c (by omega) hc
      refine ⟨by omega, ?_⟩
      rw [ep, if_neg (by omega)]; exact g2
  · rw [ec]
    by_cases e : q = tr_N T
    · rw [if_pos e]; exact List.nodup_nil
    · rw [if_neg e]; exact w4 q (by omega)
  · rw [eh] at hb
    by_cases e : m = tr_N T
    · rw [if_pos e] at hb
      rcases hk with ⟨k1, k2⟩ | ⟨k1, b', k2, k3, k4, k5⟩
      · rw [k1] at hb; cases hb
      · rw [hb] at k2
        cases k2
        refine ⟨by omega, ?_, ?_⟩
        · rw [es, if_neg (by omega), if_pos hb, e]
        · rw [ek, if_pos e]; exact k1
    · rw [if_neg e] at hb
      obtain ⟨g1, g2, g3⟩ := w5 m b (by omega) hb
      refine ⟨by omega, ?_, ?_⟩
      · rw [es, if_neg (by omega), if_neg]
        · exact g2
        · intro z
          rcases hk with ⟨k1, k2⟩ | ⟨k1, b', k2, k3, k4, k5⟩
          · rw [k1] at z; cases z
          · rw [k2] at z
            cases z
            rw [k5] at g2; cases g2
      · rw [ek, if_neg e]; exact g3
  · rw [es] at hs
    by_cases e : m = tr_N T
    · rw [if_pos e] at hs; cases hs
    · rw [if_neg e] at hs
      by_cases e2 : h = some m
      · rw [if_pos e2] at hs
        cases hs
        refine ⟨by omega, ?_, ?_⟩
        · rw [eh, if_pos rfl]; exact e2
        · rcases hk with ⟨k1, k2⟩ | ⟨k1, b', k2, k3, k4, k5⟩
          · rw [k1] at e2; cases e2
          · rw [k2] at e2
            cases e2
            rw [ek, if_neg (by omega)]; exact k4
      · rw [if_neg e2] at hs
        obtain ⟨g1, g2, g3⟩ := w6 m s (by omega) hs
        refine ⟨by omega, ?_, ?_⟩
        · rw [eh, if_neg (by omega)]; exact g2
        · rw [ek, if_neg e]; exact g3
  · rw [ek] at hk4
    rw [eh]
    by_cases e : m = tr_N T
    · rw [if_pos e] at hk4
      rw [if_pos e]
      rcases hk with ⟨k1, k2⟩ | ⟨k1, b', k2, k3, k4, k5⟩
      · rw [hk4] at k2
        rcases k2 with z | z | z <;> exact absurd z (by decide)
      · rw [k2]; simp
    · rw [if_neg e] at hk4
      rw [if_neg e]; exact w7 m (by omega) hk4
  · rw [ek, if_neg (by omega)]; exact w8.1
  · by_cases e : m = tr_N T
    · rcases hk with ⟨k1, k2⟩ | ⟨k1, b', k2, k3, k4, k5⟩
      · refine Or.inl ?_
        unfold tr_el
        rw [ek, if_pos e]; exact k2
      · refine Or.inr ?_
        rw [ek, if_pos e]; exact k1
    · rcases w8.2 m (by omega) h0 with z | z
      · exact Or.inl (el m (by omega) z)
      · refine Or.inr ?_
        rw [ek, if_neg e]; exact z
  · by_cases e : m = tr_N T
    · have hu : tr_up (tr_mk T kd nm h) m = h := by
        unfold tr_up
        rw [ep, if_pos e, if_pos rfl, eh, if_pos e]
      have hcl : ∀ a b, a < tr_N T + 1 → tr_up (tr_mk T kd nm h) a = some b → b < tr_N T + 1 := by
        intro a b ha hb
        by_cases ea : a = tr_N T
        · subst ea
          rw [← e, hu] at hb
          rcases hk with ⟨k1, k2⟩ | ⟨k1, b', k2, k3, k4, k5⟩
          · rw [k1] at hb; cases hb
          · rw [k2] at hb; cases hb; omega
        · rw [hup a (by omega)] at hb
          have := hclT a b (by omega) hb
          omega
      refine tr_it_24 (N := tr_N T + 1) (by omega) hcl hm (K := 25) ?_
      rcases hk with ⟨k1, k2⟩ | ⟨k1, b', k2, k3, k4, k5⟩
      · exact tr_it_0 (by rw [hu]; exact k1)
      · exact tr_it_s (by rw [hu]; exact k2) (hit 24 b' k3 (w9 b' k3))
    · exact hit 24 m (by omega) (w9 m (by omega))
theorem tr_el_iff {T : tr_T} (hw : tr_wf T) {n : Nat} (hn : n < tr_N T) : tr_el T n ↔ tr_kd T n ≤ 2 := by
  unfold tr_el
  by_cases h0 : n = 0
  · subst h0
    rw [hw.2.2.2.2.2.2.2.1.1]
    decide
  · rcases hw.2.2.2.2.2.2.2.1.2 n hn h0 with z | z
    · rcases z with z | z | z <;> rw [z] <;> decide
    · rw [z]; decide
