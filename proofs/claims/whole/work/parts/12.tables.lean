/-! THE ENGINE, part 10: tables -/
def en_flok (own : String) (l : List (Nat × Nat)) : Prop := ∀ q ∈ l, q.2 / 100 < 8 ∧ q.2 % 100 < en_N (q.2 / 100) ∧ Jvm.Cond.fieldLink own q.1 (en_T q.2).1 (en_T q.2).2.1 (en_T q.2).2.2.1 ∈ lw_tbl ∧ goodWord (Jvm.Cond.fieldLink own q.1 (en_T q.2).1 (en_T q.2).2.1 (en_T q.2).2.2.1) = true
def en_nwok (own : String) (l : List (Nat × Nat × Nat)) : Prop := ∀ q ∈ l, ∃ (C : String) (T : u_T), vwCl[q.2.1]? = some (C, T, q.2.2) ∧ Jvm.Cond.classLink own q.1 C ∈ en_W ∧ Jvm.Cond.instantiable C q.2.2 ∈ en_W ∧ Jvm.Cond.initialized C ∈ en_W
def en_awok (own : String) (l : List (Nat × Nat)) : Prop := ∀ q ∈ l, 4 ≤ q.2 ∧ q.2 < 8 ∧ ∃ C : String, en_at q.2 = .object C ∧ Jvm.Cond.classLink own q.1 C ∈ en_W
def en_dcok (own : String) (l : List (Nat × UInt64)) : Prop := ∀ q ∈ l, Jvm.Cond.constantDouble own q.1 q.2 ∈ lw_tbl ∧ goodWord (Jvm.Cond.constantDouble own q.1 q.2) = true
theorem en_LkF {own : String} {G : en_G} {cc : ByteArray} {f : List (Nat × Nat)} {nw : List (Nat × Nat × Nat)} {aw : List (Nat × Nat)} {dc : List (Nat × UInt64)} {ca : Nat → Option (Nat × en_C)} {rt : Nat} {q : Option en_V → en_S → Prop} (h1 : en_flok own f) (h2 : en_nwok own nw) (h3 : en_awok own aw) (h4 : en_dcok own dc) : en_Lk own (en_mk G cc (en_lk f) (en_lk nw) (en_lk aw) (en_lk dc) ca rt false q) :=
  ⟨fun idx g h => ⟨(h1 _ (en_lk_mem h)).1, (h1 _ (en_lk_mem h)).2.1, en_inW (h1 _ (en_lk_mem h)).2.2.1 (h1 _ (en_lk_mem h)).2.2.2, fun _ z => by cases z⟩, fun idx ci N h => h2 _ (en_lk_mem h), fun idx t h => h3 _ (en_lk_mem h), fun idx v h => en_inW (h4 _ (en_lk_mem h)).1 (h4 _ (en_lk_mem h)).2⟩
theorem en_LkI {own : String} {G : en_G} {cc : ByteArray} {f : List (Nat × Nat)} {nw : List (Nat × Nat × Nat)} {aw : List (Nat × Nat)} {dc : List (Nat × UInt64)} {ca : Nat → Option (Nat × en_C)} {rt : Nat} {q : Option en_V → en_S → Prop} (h1 : en_flok own f ∧ ∀ q ∈ f, (en_T q.2).1 = own) (h2 : en_nwok own nw) (h3 : en_awok own aw) (h4 : en_dcok own dc) : en_Lk own (en_mk G cc (en_lk f) (en_lk nw) (en_lk aw) (en_lk dc) ca rt true q) :=
  ⟨fun idx g h => ⟨(h1.1 _ (en_lk_mem h)).1, (h1.1 _ (en_lk_mem h)).2.1, en_inW (h1.1 _ (en_lk_mem h)).2.2.1 (h1.1 _ (en_lk_mem h)).2.2.2, fun _ _ => h1.2 _ (en_lk_mem h)⟩, fun idx ci N h => h2 _ (en_lk_mem h), fun idx t h => h3 _ (en_lk_mem h), fun idx v h => en_inW (h4 _ (en_lk_mem h)).1 (h4 _ (en_lk_mem h)).2⟩
/-! what the pool numbers of each class mean -/
def fl0 : List (Nat × Nat) := [(7, 0), (13, 1), (16, 2), (19, 3), (22, 4), (25, 5), (29, 6), (32, 8), (35, 7)]
def fi0 : List (Nat × Nat) := [(7, 0), (13, 1), (16, 2), (19, 3), (22, 4), (25, 5), (29, 6), (32, 8), (35, 7)]
def nw0 : List (Nat × Nat × Nat) := []
def aw0 : List (Nat × Nat) := []
def dc0 : List (Nat × UInt64) := []
theorem fl0_ok : en_flok RX0 fl0 := by unfold en_flok; decide +kernel
theorem fi0_ok : en_flok RX0 fi0 ∧ ∀ q ∈ fi0, (en_T q.2).1 = RX0 := by unfold en_flok; decide +kernel
theorem nw0_ok : en_nwok RX0 nw0 := fun q hq => by cases hq
theorem aw0_ok : en_awok RX0 aw0 := fun q hq => by cases hq
theorem dc0_ok : en_dcok RX0 dc0 := fun q hq => by cases hq
def fl1 : List (Nat × Nat) := [(9, 100), (15, 101)]
def fi1 : List (Nat × Nat) := [(9, 100), (15, 101)]
def nw1 : List (Nat × Nat × Nat) := []
def aw1 : List (Nat × Nat) := []
def dc1 : List (Nat × UInt64) := []
theorem fl1_ok : en_flok RX1 fl1 := by unfold en_flok; decide +kernel
theorem fi1_ok : en_flok RX1 fi1 ∧ ∀ q ∈ fi1, (en_T q.2).1 = RX1 := by unfold en_flok; decide +kernel
theorem nw1_ok : en_nwok RX1 nw1 := fun q hq => by cases hq
theorem aw1_ok : en_awok RX1 aw1 := fun q hq => by cases hq
theorem dc1_ok : en_dcok RX1 dc1 := fun q hq => by cases hq
def fl2 : List (Nat × Nat) := [(11, 200), (17, 201), (20, 203), (24, 204), (28, 205), (31, 206), (34, 207), (37, 208), (48, 202), (69, 401)]
def fi2 : List (Nat × Nat) := [(11, 200), (17, 201), (20, 203), (24, 204), (28, 205), (31, 206), (34, 207), (37, 208), (48, 202)]
def nw2 : List (Nat × Nat × Nat) := [(9, 4, 12)]
def aw2 : List (Nat × Nat) := [(9, 4)]
def dc2 : List (Nat × UInt64) := []
theorem fl2_ok : en_flok RX2 fl2 := by unfold en_flok; decide +kernel
theorem fi2_ok : en_flok RX2 fi2 ∧ ∀ q ∈ fi2, (en_T q.2).1 = RX2 := by unfold en_flok; decide +kernel
theorem nw2_ok : en_nwok RX2 nw2 := by
  intro q hq
  simp only [nw2, List.mem_cons, List.not_mem_nil, or_false] at hq
  rcases hq with rfl
  · exact ⟨RX4, TX4, rfl, en_inW (by decide +kernel) (by decide +kernel), en_inW (by decide +kernel) (by decide +kernel), en_inW (by decide +kernel) (by decide +kernel)⟩
theorem aw2_ok : en_awok RX2 aw2 := by
  intro q hq
  simp only [aw2, List.mem_cons, List.not_mem_nil, or_false] at hq
  rcases hq with rfl
  · exact ⟨by decide, by decide, _, rfl, en_inW (by decide +kernel) (by decide +kernel)⟩
theorem dc2_ok : en_dcok RX2 dc2 := fun q hq => by cases hq
def fl3 : List (Nat × Nat) := [(9, 300), (15, 301), (19, 302), (22, 303), (26, 304)]
def fi3 : List (Nat × Nat) := [(9, 300), (15, 301), (19, 302), (22, 303), (26, 304)]
def nw3 : List (Nat × Nat × Nat) := []
def aw3 : List (Nat × Nat) := []
def dc3 : List (Nat × UInt64) := []
theorem fl3_ok : en_flok RX3 fl3 := by unfold en_flok; decide +kernel
theorem fi3_ok : en_flok RX3 fi3 ∧ ∀ q ∈ fi3, (en_T q.2).1 = RX3 := by unfold en_flok; decide +kernel
theorem nw3_ok : en_nwok RX3 nw3 := fun q hq => by cases hq
theorem aw3_ok : en_awok RX3 aw3 := fun q hq => by cases hq
theorem dc3_ok : en_dcok RX3 dc3 := fun q hq => by cases hq
def fl4 : List (Nat × Nat) := [(9, 400), (15, 401), (18, 402), (21, 403), (25, 404), (32, 405), (35, 408), (38, 407), (41, 406), (47, 409), (53, 410), (57, 9), (62, 0), (66, 1), (69, 4), (72, 6), (75, 7), (78, 8)]
def fi4 : List (Nat × Nat) := [(9, 400), (15, 401), (18, 402), (21, 403), (25, 404), (32, 405), (35, 408), (38, 407), (41, 406), (47, 409), (53, 410)]
def nw4 : List (Nat × Nat × Nat) := []
def aw4 : List (Nat × Nat) := []
def dc4 : List (Nat × UInt64) := []
theorem fl4_ok : en_flok RX4 fl4 := by unfold en_flok; decide +kernel
theorem fi4_ok : en_flok RX4 fi4 ∧ ∀ q ∈ fi4, (en_T q.2).1 = RX4 := by unfold en_flok; decide +kernel
theorem nw4_ok : en_nwok RX4 nw4 := fun q hq => by cases hq
theorem aw4_ok : en_awok RX4 aw4 := fun q hq => by cases hq
theorem dc4_ok : en_dcok RX4 dc4 := fun q hq => by cases hq
def fl5 : List (Nat × Nat) := [(9, 500), (15, 501), (18, 502)]
def fi5 : List (Nat × Nat) := [(9, 500), (15, 501), (18, 502)]
def nw5 : List (Nat × Nat × Nat) := []
def aw5 : List (Nat × Nat) := []
def dc5 : List (Nat × UInt64) := []
theorem fl5_ok : en_flok RX5 fl5 := by unfold en_flok; decide +kernel
theorem fi5_ok : en_flok RX5 fi5 ∧ ∀ q ∈ fi5, (en_T q.2).1 = RX5 := by unfold en_flok; decide +kernel
theorem nw5_ok : en_nwok RX5 nw5 := fun q hq => by cases hq
theorem aw5_ok : en_awok RX5 aw5 := fun q hq => by cases hq
theorem dc5_ok : en_dcok RX5 dc5 := fun q hq => by cases hq
def fl6 : List (Nat × Nat) := [(11, 600), (17, 602), (23, 604), (29, 605), (36, 608), (43, 601), (61, 401), (64, 409), (88, 404), (111, 502), (127, 607), (134, 208), (146, 410), (161, 4), (165, 5), (174, 6), (177, 7), (180, 8), (189, 610), (192, 612), (195, 611), (206, 403), (213, 411), (226, 603), (229, 101), (232, 609), (235, 400), (260, 303), (264, 304), (267, 606), (277, 202), (278, 206), (291, 204), (294, 207), (297, 203), (322, 205), (325, 300), (328, 301), (329, 302)]
def fi6 : List (Nat × Nat) := [(11, 600), (17, 602), (23, 604), (29, 605), (36, 608), (43, 601), (127, 607), (189, 610), (192, 612), (195, 611), (226, 603), (232, 609), (267, 606)]
def nw6 : List (Nat × Nat × Nat) := [(9, 4, 12), (15, 3, 5), (21, 5, 3), (27, 2, 9), (33, 1, 2), (150, 0, 10)]
def aw6 : List (Nat × Nat) := [(9, 4), (15, 5), (21, 6), (27, 7)]
def dc6 : List (Nat × UInt64) := [(157, 4593671619917905920), (159, 4616189618054758400), (238, 13875379345695965184), (240, 4652007308841189376)]
theorem fl6_ok : en_flok RX6 fl6 := by unfold en_flok; decide +kernel
theorem fi6_ok : en_flok RX6 fi6 ∧ ∀ q ∈ fi6, (en_T q.2).1 = RX6 := by unfold en_flok; decide +kernel
theorem nw6_ok : en_nwok RX6 nw6 := by
  intro q hq
  simp only [nw6, List.mem_cons, List.not_mem_nil, or_false] at hq
  rcases hq with rfl | rfl | rfl | rfl | rfl | rfl
  · exact ⟨RX4, TX4, rfl, en_inW (by decide +kernel) (by decide +kernel), en_inW (by decide +kernel) (by decide +kernel), en_inW (by decide +kernel) (by decide +kernel)⟩
  · exact ⟨RX3, TX3, rfl, en_inW (by decide +kernel) (by decide +kernel), en_inW (by decide +kernel) (by decide +kernel), en_inW (by decide +kernel) (by decide +kernel)⟩
  · exact ⟨RX5, TX5, rfl, en_inW (by decide +kernel) (by decide +kernel), en_inW (by decide +kernel) (by decide +kernel), en_inW (by decide +kernel) (by decide +kernel)⟩
  · exact ⟨RX2, TX2, rfl, en_inW (by decide +kernel) (by decide +kernel), en_inW (by decide +kernel) (by decide +kernel), en_inW (by decide +kernel) (by decide +kernel)⟩
  · exact ⟨RX1, TX1, rfl, en_inW (by decide +kernel) (by decide +kernel), en_inW (by decide +kernel) (by decide +kernel), en_inW (by decide +kernel) (by decide +kernel)⟩
  · exact ⟨RX0, TX0, rfl, en_inW (by decide +kernel) (by decide +kernel), en_inW (by decide +kernel) (by decide +kernel), en_inW (by decide +kernel) (by decide +kernel)⟩
theorem aw6_ok : en_awok RX6 aw6 := by
  intro q hq
  simp only [aw6, List.mem_cons, List.not_mem_nil, or_false] at hq
  rcases hq with rfl | rfl | rfl | rfl
  · exact ⟨by decide, by decide, _, rfl, en_inW (by decide +kernel) (by decide +kernel)⟩
  · exact ⟨by decide, by decide, _, rfl, en_inW (by decide +kernel) (by decide +kernel)⟩
  · exact ⟨by decide, by decide, _, rfl, en_inW (by decide +kernel) (by decide +kernel)⟩
  · exact ⟨by decide, by decide, _, rfl, en_inW (by decide +kernel) (by decide +kernel)⟩
theorem dc6_ok : en_dcok RX6 dc6 := by unfold en_dcok; decide +kernel
def fl7 : List (Nat × Nat) := [(7, 701), (13, 702), (17, 703), (20, 704), (23, 705), (26, 706), (29, 707), (33, 708), (36, 709), (39, 711), (42, 712), (45, 713), (48, 714), (51, 715), (54, 716), (57, 717), (60, 718), (63, 719), (66, 720), (70, 721), (73, 722), (76, 723), (79, 724), (82, 725), (85, 726), (88, 728), (91, 729), (94, 730), (97, 733), (100, 737), (103, 738), (106, 739), (109, 740), (112, 741), (115, 742), (118, 743), (121, 744), (124, 745), (127, 746), (130, 747), (133, 748), (136, 749), (139, 750), (142, 751), (145, 700), (188, 710), (195, 736), (218, 735), (227, 732), (233, 752), (240, 734), (265, 727), (279, 731)]
def fi7 : List (Nat × Nat) := [(7, 701), (13, 702), (17, 703), (20, 704), (23, 705), (26, 706), (29, 707), (33, 708), (36, 709), (39, 711), (42, 712), (45, 713), (48, 714), (51, 715), (54, 716), (57, 717), (60, 718), (63, 719), (66, 720), (70, 721), (73, 722), (76, 723), (79, 724), (82, 725), (85, 726), (88, 728), (91, 729), (94, 730), (97, 733), (100, 737), (103, 738), (106, 739), (109, 740), (112, 741), (115, 742), (118, 743), (121, 744), (124, 745), (127, 746), (130, 747), (133, 748), (136, 749), (139, 750), (142, 751), (145, 700), (188, 710), (195, 736), (218, 735), (227, 732), (233, 752), (240, 734), (265, 727), (279, 731)]
def nw7 : List (Nat × Nat × Nat) := []
def aw7 : List (Nat × Nat) := []
def dc7 : List (Nat × UInt64) := [(249, 13875379345695965184), (251, 4652007308841189376), (257, 4593671619917905920), (259, 4616189618054758400)]
theorem fl7_ok : en_flok RX7 fl7 := by unfold en_flok; decide +kernel
theorem fi7_ok : en_flok RX7 fi7 ∧ ∀ q ∈ fi7, (en_T q.2).1 = RX7 := by unfold en_flok; decide +kernel
theorem nw7_ok : en_nwok RX7 nw7 := fun q hq => by cases hq
theorem aw7_ok : en_awok RX7 aw7 := fun q hq => by cases hq
theorem dc7_ok : en_dcok RX7 dc7 := by unfold en_dcok; decide +kernel
