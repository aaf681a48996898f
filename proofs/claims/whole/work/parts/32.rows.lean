/-! rows -/
theorem s_make {F r z : Nat} (hr : r < 8) (hz : z ≤ 40) (lane size : Nat → Int32) : ∀ (k i n : Nat) (items : Nat → Int32), z = i + k → k < n →
    ∃ it, f_X4_make_17_r F n lane size items (nI r) (nI z) (nI i) = some (lane, size, it) ∧ (∀ j, 40 * r + i ≤ j → j < 40 * r + z → it j = 0) ∧ (∀ j, j < 40 * r + i ∨ 40 * r + z ≤ j → it j = items j) := by
  intro k
  induction k with
  | zero =>
    intro i n items h1 h2
    obtain ⟨n, rfl⟩ : ∃ q, n = q + 1 := ⟨n - 1, by omega⟩
    refine ⟨items, ?_, fun j _ _ => by omega, fun j _ => rfl⟩
    show f_X4_make_17 F _ lane size items (nI r) (nI z) (nI i) = _
    unfold f_X4_make_17
    simp (disch := omega) only [fl32, nI_add, pk_mul, pk_rem, nI_clamp, gdI, gdZ, gdB0, gdB1, nI_leI, nI_ltI, nI_eq, if_pos, if_neg, Option.bind_some, pk_us, pk_un, nn_eq, nn_le, nn_lt, nl_eq, if_true, if_false, eq_self, nl_le]
  | succ k ih =>
    intro i n items h1 h2
    obtain ⟨n, rfl⟩ : ∃ q, n = q + 1 := ⟨n - 1, by omega⟩
    obtain ⟨it, e1, e2, e3⟩ := ih (i + 1) n (upd items (r * 40 + i) 0) (by omega) (by omega)
    refine ⟨it, ?_, fun j ha hb => ?_, fun j ha => ?_⟩
    · show f_X4_make_17 F _ lane size items (nI r) (nI z) (nI i) = _
      unfold f_X4_make_17
      simp (disch := omega) only [fl32, nI_add, pk_mul, pk_rem, nI_clamp, gdI, gdZ, gdB0, gdB1, nI_leI, nI_ltI, nI_eq, if_pos, if_neg, Option.bind_some, pk_us, pk_un, nn_eq, nn_le, nn_lt, nl_eq, if_true, if_false, eq_self, nl_le]
      exact e1
    · by_cases hj : j = r * 40 + i
      · rw [e3 j (by omega), hj, pk_us]
      · exact e2 j (by omega) hb
    · rw [e3 j (by omega), pk_un (by omega)]
theorem s_row55 {F r : Nat} (hr : r < 8) (x3 status : Int32) (lane size : Nat → Int32) : ∀ (k i n : Nat) (items : Nat → Int32), 40 = i + k → k < n →
    ∃ it, f_X7_row_55_r F n status lane size items (nI r) x3 (nI i) = some (x3, 0, lane, size, it) ∧ (∀ j, 40 * r + i ≤ j → j < 40 * r + 40 → it j = 0) ∧ (∀ j, j < 40 * r + i ∨ 40 * r + 40 ≤ j → it j = items j) := by
  intro k
  induction k with
  | zero =>
    intro i n items h1 h2
    obtain ⟨n, rfl⟩ : ∃ q, n = q + 1 := ⟨n - 1, by omega⟩
    refine ⟨items, ?_, fun j _ _ => by omega, fun j _ => rfl⟩
    show f_X7_row_55 F _ status lane size items (nI r) x3 (nI i) = _
    unfold f_X7_row_55 f_X7_well
    simp (disch := omega) only [fl32, nI_add, pk_mul, pk_rem, nI_clamp, gdI, gdZ, gdB0, gdB1, nI_leI, nI_ltI, nI_eq, if_pos, if_neg, Option.bind_some, pk_us, pk_un, nn_eq, nn_le, nn_lt, nl_eq, if_true, if_false, eq_self, nl_le]
  | succ k ih =>
    intro i n items h1 h2
    obtain ⟨n, rfl⟩ : ∃ q, n = q + 1 := ⟨n - 1, by omega⟩
    obtain ⟨it, e1, e2, e3⟩ := ih (i + 1) n (upd items (40 * r + i) 0) (by omega) (by omega)
    refine ⟨it, ?_, fun j ha hb => ?_, fun j ha => ?_⟩
    · show f_X7_row_55 F _ status lane size items (nI r) x3 (nI i) = _
      unfold f_X7_row_55
      simp (disch := omega) only [fl32, nI_add, pk_mul, pk_rem, nI_clamp, gdI, gdZ, gdB0, gdB1, nI_leI, nI_ltI, nI_eq, if_pos, if_neg, Option.bind_some, pk_us, pk_un, nn_eq, nn_le, nn_lt, nl_eq, if_true, if_false, eq_self, nl_le]
      exact e1
    · by_cases hj : j = 40 * r + i
      · rw [e3 j (by omega), hj, pk_us]
      · exact e2 j (by omega) hb
    · rw [e3 j (by omega), pk_un (by omega)]
theorem k_row (F : Nat) (hF : 100000 ≤ F) (x1 x2 x3 : Int32) {lane size items lanes sizes itemz : Nat → Int32} {finding status : Int32} (h : IRows lane size items finding lanes sizes itemz status) :
    ∃ (uc : Int32 × Int32 × (Nat → Int32) × (Nat → Int32) × (Nat → Int32)) (um : Int32 × Int32 × (Nat → Int32) × (Nat → Int32) × (Nat → Int32)), f_X6_row F x1 x2 x3 finding lane size items = some uc ∧ f_X7_row F x1 x2 x3 status lanes sizes itemz = some um ∧ uc.1 = um.1 ∧ IRows uc.2.2.1 uc.2.2.2.1 uc.2.2.2.2 uc.2.1 um.2.2.1 um.2.2.2.1 um.2.2.2.2 um.2.1 := by
  obtain ⟨hfs, hr⟩ := h
  unfold f_X6_row f_X7_row
  rcases rowc x1 with ⟨e1, e2⟩ | ⟨r, hr8, rfl, e1, e2⟩
  · rw [e1, e2]
    exact ⟨_, _, rfl, rfl, rfl, hfs, hr⟩
  rw [e1, e2]
  rcases win x2 0 2 0 2 0 2 rfl rfl rfl rfl (by decide) (by decide) with ⟨e3, e4⟩ | ⟨z, -, hz2, rfl, e3, e4⟩
  · rw [e3, e4]
    exact ⟨_, _, rfl, rfl, rfl, hfs, hr⟩
  rw [e3, e4]
  by_cases c1 : ¬ x3 ≤ (40 : Int32)
  · simp only [Option.bind_some, if_neg c1, one_ne, if_false]
    exact ⟨_, _, rfl, rfl, rfl, hfs, hr⟩
  replace c1 := Decidable.not_not.mp c1
  by_cases c2 : ¬ (0 : Int32) ≤ x3
  · simp only [Option.bind_some, if_pos c1, if_neg c2, one_ne, if_false]
    unfold f_X6_found f_X7_find
    exact ⟨_, _, rfl, rfl, rfl, rfl, hr⟩
  replace c2 := Decidable.not_not.mp c2
  obtain ⟨k, hk, rfl⟩ := nI_of2 (x := x3) (M := 40) (n := 40) (by decide) (Int32.not_lt.mpr c2) c1
  simp only [Option.bind_some, if_pos c1, if_pos c2, one_ne, if_false]
  unfold f_X4_make
  obtain ⟨it, q1, q2, q3⟩ := s_make (F := F) hr8 hk (upd lane r (nI z)) (upd size r (nI k)) k 0 F items (by omega) (by omega)
  obtain ⟨it2, q4, q5, q6⟩ := s_row55 (F := F) hr8 (nI k) status (upd lanes r (nI z)) (upd sizes r (nI k)) 40 0 F itemz (by omega) (by omega)
  refine ⟨(nI k, 0, upd lane r (nI z), upd size r (nI k), it), (nI k, 0, upd lanes r (nI z), upd sizes r (nI k), it2), ?_, ?_, rfl, rfl, ?_⟩
  · unfold f_X6_foundNothing
    simp (disch := omega) only [fl32, nI_add, pk_mul, pk_rem, nI_clamp, gdI, gdZ, gdB0, gdB1, nI_leI, nI_ltI, nI_eq, if_pos, if_neg, Option.bind_some, pk_us, pk_un, nn_eq, nn_le, nn_lt, nl_eq, if_true, if_false, eq_self, nl_le]
    rw [q1]
    rfl
  · simp (disch := omega) only [fl32, nI_add, pk_mul, pk_rem, nI_clamp, gdI, gdZ, gdB0, gdB1, nI_leI, nI_ltI, nI_eq, if_pos, if_neg, Option.bind_some, pk_us, pk_un, nn_eq, nn_le, nn_lt, nl_eq, if_true, if_false, eq_self, nl_le]
    exact q4
  · intro r2 h2
    show (∃ z2 : Nat, z2 ≤ 2 ∧ upd lane r (nI z) r2 = nI z2 ∧ upd lanes r (nI z) r2 = nI z2) ∧ ((upd size r (nI k) r2 = -1 ∧ upd sizes r (nI k) r2 = -1) ∨ ∃ z2 : Nat, z2 ≤ 40 ∧ upd size r (nI k) r2 = nI z2 ∧ upd sizes r (nI k) r2 = nI z2 ∧ ∀ i, i < z2 → it (40 * r2 + i) = it2 (40 * r2 + i))
    by_cases e : r2 = r
    · subst e
      rw [pk_us, pk_us, pk_us, pk_us]
      refine ⟨⟨z, hz2, rfl, rfl⟩, Or.inr ⟨k, hk, rfl, rfl, fun i hi => ?_⟩⟩
      rw [q2 _ (by omega) (by omega), q5 _ (by omega) (by omega)]
    · rw [pk_un e, pk_un e, pk_un e, pk_un e]
      refine ⟨(hr r2 h2).1, ?_⟩
      rcases (hr r2 h2).2 with hm | ⟨z2, a1, a2, a3, a4⟩
      · exact Or.inl hm
      · refine Or.inr ⟨z2, a1, a2, a3, fun i hi => ?_⟩
        rw [q3 _ (by omega), q6 _ (by omega), a4 i hi]
theorem s_lane (F : Nat) (z : Nat) (hz : z ≤ 2) (v : Int32) : f_X7_asLane F (nI z) v = f_X4_inLane F (nI z) v := by
  unfold f_X7_asLane f_X4_inLane
  rw [ln8, ln16]
theorem s_lane_some (F : Nat) (z : Nat) (v : Int32) : ∃ w, f_X4_inLane F (nI z) v = some w := by
  unfold f_X4_inLane
  by_cases h : nI z = 0
  · exact ⟨_, if_pos h⟩
  · rw [if_neg h]
    by_cases h2 : nI z = 1
    · exact ⟨_, if_pos h2⟩
    · exact ⟨_, if_neg h2⟩
theorem k_set (F : Nat) (x1 x2 x3 : Int32) {lane size items lanes sizes itemz : Nat → Int32} {finding status : Int32} (h : IRows lane size items finding lanes sizes itemz status) :
    ∃ (uc : Int32 × Int32 × (Nat → Int32)) (um : Int32 × Int32 × (Nat → Int32)), f_X6_set F x1 x2 x3 lane size finding items = some uc ∧ f_X7_set F x1 x2 x3 lanes sizes status itemz = some um ∧ uc.1 = um.1 ∧ IRows lane size uc.2.2 uc.2.1 lanes sizes um.2.2 um.2.1 := by
  obtain ⟨hfs, hr⟩ := h
  unfold f_X6_set f_X7_set f_X4_findingAt f_X4_isMissing
  rcases rowc x1 with ⟨e1, e2⟩ | ⟨r, hr8, rfl, e1, e2⟩
  · rw [e1, e2]
    exact ⟨_, _, rfl, rfl, rfl, hfs, hr⟩
  rw [e1, e2]
  obtain ⟨⟨z0, hz0, l1, l2⟩, hs⟩ := hr r hr8
  rcases hs with ⟨s1, s2⟩ | ⟨z, hz, s1, s2, s3⟩
  · unfold f_X6_found f_X7_find
    simp (disch := omega) only [fl32, nI_add, pk_mul, pk_rem, nI_clamp, gdI, gdZ, gdB0, gdB1, nI_leI, nI_ltI, nI_eq, if_pos, if_neg, Option.bind_some, pk_us, pk_un, nn_eq, nn_le, nn_lt, nl_eq, if_true, if_false, eq_self, nl_le, s1, s2]
    exact ⟨_, _, rfl, rfl, rfl, rfl, hr⟩
  rcases plc x2 z 1 hz (by omega) with ⟨p1, p2⟩ | ⟨a, ha, rfl, p1, p2⟩
  · have p1' := p1 F r size hr8 s1
    have p2' := p2 F
    unfold f_X6_found f_X7_find
    simp only [fl32, fl64] at p1' p2'
    simp (disch := omega) only [fl32, nI_add, pk_mul, pk_rem, nI_clamp, gdI, gdZ, gdB0, gdB1, nI_leI, nI_ltI, nI_eq, if_pos, if_neg, Option.bind_some, pk_us, pk_un, nn_eq, nn_le, nn_lt, nl_eq, if_true, if_false, eq_self, nl_le, s1, s2, fl64, p1', p2']
    exact ⟨_, _, rfl, rfl, rfl, rfl, hr⟩
  · have p1' := p1 F r size hr8 s1
    have p2' := p2 F
    obtain ⟨w, hw⟩ := s_lane_some F z0 x3
    have hw2 := s_lane F z0 hz0 x3
    rw [hw] at hw2
    unfold f_X6_foundNothing f_X7_well f_X4_write
    simp only [fl32, fl64] at p1' p2'
    simp (disch := omega) only [fl32, nI_add, pk_mul, pk_rem, nI_clamp, gdI, gdZ, gdB0, gdB1, nI_leI, nI_ltI, nI_eq, if_pos, if_neg, Option.bind_some, pk_us, pk_un, nn_eq, nn_le, nn_lt, nl_eq, if_true, if_false, eq_self, nl_le, s1, s2, l1, l2, fl64, p1', p2', hw, hw2]
    refine ⟨_, _, rfl, rfl, rfl, rfl, ?_⟩
    intro r2 h2
    refine ⟨(hr r2 h2).1, ?_⟩
    rcases (hr r2 h2).2 with hm | ⟨z2, a1, a2, a3, a4⟩
    · exact Or.inl hm
    · refine Or.inr ⟨z2, a1, a2, a3, fun i hi => ?_⟩
      show upd items (r * 40 + a) w (40 * r2 + i) = upd itemz (40 * r + a) w (40 * r2 + i)
      by_cases e : 40 * r2 + i = 40 * r + a
      · rw [e, show 40 * r + a = r * 40 + a from by omega, pk_us, pk_us]
      · rw [pk_un (by omega), pk_un e, a4 i hi]
theorem k_drop (F : Nat) (x1 : Int32) {lane size items lanes sizes itemz : Nat → Int32} {finding status : Int32} (h : IRows lane size items finding lanes sizes itemz status) :
    ∃ (uc : Int32 × Int32 × (Nat → Int32)) (um : Int32 × Int32 × (Nat → Int32)), f_X6_drop F x1 finding size = some uc ∧ f_X7_drop F x1 status sizes = some um ∧ uc.1 = um.1 ∧ IRows lane uc.2.2 items uc.2.1 lanes um.2.2 itemz um.2.1 := by
  obtain ⟨hfs, hr⟩ := h
  unfold f_X6_drop f_X7_drop f_X4_isMissing f_X4_remove
  rcases rowc x1 with ⟨e1, e2⟩ | ⟨r, hr8, rfl, e1, e2⟩
  · rw [e1, e2]
    exact ⟨_, _, rfl, rfl, rfl, hfs, hr⟩
  rw [e1, e2]
  obtain ⟨⟨z0, hz0, l1, l2⟩, hs⟩ := hr r hr8
  rcases hs with ⟨s1, s2⟩ | ⟨z, hz, s1, s2, s3⟩
  · unfold f_X6_found f_X7_find
    simp (disch := omega) only [fl32, nI_add, pk_mul, pk_rem, nI_clamp, gdI, gdZ, gdB0, gdB1, nI_leI, nI_ltI, nI_eq, if_pos, if_neg, Option.bind_some, pk_us, pk_un, nn_eq, nn_le, nn_lt, nl_eq, if_true, if_false, eq_self, nl_le, s1, s2]
    exact ⟨_, _, rfl, rfl, rfl, rfl, hr⟩
  · unfold f_X6_foundNothing f_X7_well
    simp (disch := omega) only [fl32, nI_add, pk_mul, pk_rem, nI_clamp, gdI, gdZ, gdB0, gdB1, nI_leI, nI_ltI, nI_eq, if_pos, if_neg, Option.bind_some, pk_us, pk_un, nn_eq, nn_le, nn_lt, nl_eq, if_true, if_false, eq_self, nl_le, s1, s2]
    refine ⟨_, _, rfl, rfl, rfl, rfl, ?_⟩
    intro r2 h2
    show (∃ z2 : Nat, z2 ≤ 2 ∧ lane r2 = nI z2 ∧ lanes r2 = nI z2) ∧ ((upd size r (-nI 1) r2 = -1 ∧ upd sizes r (-nI 1) r2 = -1) ∨ ∃ z2 : Nat, z2 ≤ 40 ∧ upd size r (-nI 1) r2 = nI z2 ∧ upd sizes r (-nI 1) r2 = nI z2 ∧ ∀ i, i < z2 → items (40 * r2 + i) = itemz (40 * r2 + i))
    by_cases e : r2 = r
    · subst e
      rw [pk_us, pk_us]
      exact ⟨⟨z0, hz0, l1, l2⟩, Or.inl ⟨rfl, rfl⟩⟩
    · rw [pk_un e, pk_un e]
      exact hr r2 h2
theorem s_cp2 {F b j n : Nat} (hb : b < 8) (hn : j + n ≤ 40) (status : Int32) (lanes sizes moved : Nat → Int32) : ∀ (k i fu : Nat) (items : Nat → Int32), n = i + k → k < fu →
    ∃ it, f_X7_copy_154_r F lanes sizes fu status items moved (nI b) (nI j) (nI n) (nI i) = some (nI n, 0, it, moved) ∧ (∀ q, 40 * b + j + i ≤ q → q < 40 * b + j + n → it q = moved (q - (40 * b + j))) ∧ (∀ q, q < 40 * b + j + i ∨ 40 * b + j + n ≤ q → it q = items q) := by
  intro k
  induction k with
  | zero =>
    intro i fu items h1 h2
    obtain ⟨fu, rfl⟩ : ∃ q, fu = q + 1 := ⟨fu - 1, by omega⟩
    refine ⟨items, ?_, fun q _ _ => by omega, fun q _ => rfl⟩
    show f_X7_copy_154 F lanes sizes _ status items moved (nI b) (nI j) (nI n) (nI i) = _
    unfold f_X7_copy_154 f_X7_well
    simp (disch := omega) only [fl32, nI_add, pk_mul, pk_rem, nI_clamp, gdI, gdZ, gdB0, gdB1, nI_leI, nI_ltI, nI_eq, if_pos, if_neg, Option.bind_some, pk_us, pk_un, nn_eq, nn_le, nn_lt, nl_eq, if_true, if_false, eq_self, nl_le]
  | succ k ih =>
    intro i fu items h1 h2
    obtain ⟨fu, rfl⟩ : ∃ q, fu = q + 1 := ⟨fu - 1, by omega⟩
    obtain ⟨it, e1, e2, e3⟩ := ih (i + 1) fu (upd items (40 * b + j + i) (moved i)) (by omega) (by omega)
    refine ⟨it, ?_, fun q ha hb => ?_, fun q ha => ?_⟩
    · show f_X7_copy_154 F lanes sizes _ status items moved (nI b) (nI j) (nI n) (nI i) = _
      unfold f_X7_copy_154
      simp (disch := omega) only [fl32, nI_add, pk_mul, pk_rem, nI_clamp, gdI, gdZ, gdB0, gdB1, nI_leI, nI_ltI, nI_eq, if_pos, if_neg, Option.bind_some, pk_us, pk_un, nn_eq, nn_le, nn_lt, nl_eq, if_true, if_false, eq_self, nl_le]
      exact e1
    · by_cases hj : q = 40 * b + j + i
      · rw [e3 q (by omega), hj, pk_us]
        congr 1
        omega
      · exact e2 q (by omega) hb
    · rw [e3 q (by omega), pk_un (by omega)]
theorem s_cp1 {F a i b j n : Nat} (ha : a < 8) (hi : i + n ≤ 40) (hb : b < 8) (hn : j + n ≤ 40) (hF : 100000 ≤ F) (status : Int32) (lanes sizes items : Nat → Int32) : ∀ (k p fu : Nat) (moved : Nat → Int32), n = p + k → k < fu → (∀ q, q < p → moved q = items (40 * a + i + q)) →
    ∃ it mv, f_X7_copy_117_r F lanes sizes fu status items moved (nI a) (nI i) (nI b) (nI j) (nI n) (nI p) = some (nI n, 0, it, mv) ∧ (∀ q, 40 * b + j ≤ q → q < 40 * b + j + n → it q = items (40 * a + i + (q - (40 * b + j)))) ∧ (∀ q, q < 40 * b + j ∨ 40 * b + j + n ≤ q → it q = items q) := by
  intro k
  induction k with
  | zero =>
    intro p fu moved h1 h2 h3
    obtain ⟨fu, rfl⟩ : ∃ q, fu = q + 1 := ⟨fu - 1, by omega⟩
    obtain ⟨it, e1, e2, e3⟩ := s_cp2 (F := F) hb hn status lanes sizes moved n 0 F items (by omega) (by omega)
    refine ⟨it, moved, ?_, fun q hq1 hq2 => ?_, fun q hq => e3 q (by omega)⟩
    · show f_X7_copy_117 F lanes sizes _ status items moved (nI a) (nI i) (nI b) (nI j) (nI n) (nI p) = _
      unfold f_X7_copy_117
      simp (disch := omega) only [fl32, nI_add, pk_mul, pk_rem, nI_clamp, gdI, gdZ, gdB0, gdB1, nI_leI, nI_ltI, nI_eq, if_pos, if_neg, Option.bind_some, pk_us, pk_un, nn_eq, nn_le, nn_lt, nl_eq, if_true, if_false, eq_self, nl_le]
      exact e1
    · rw [e2 q (by omega) hq2, h3 _ (by omega)]
  | succ k ih =>
    intro p fu moved h1 h2 h3
    obtain ⟨fu, rfl⟩ : ∃ q, fu = q + 1 := ⟨fu - 1, by omega⟩
    obtain ⟨it, mv, e1, e2, e3⟩ := ih (p + 1) fu (upd moved p (items (40 * a + i + p))) (by omega) (by omega) (fun q hq => by
      by_cases e : q = p
      · rw [e, pk_us]
      · rw [pk_un e, h3 q (by omega)])
    refine ⟨it, mv, ?_, e2, e3⟩
    show f_X7_copy_117 F lanes sizes _ status items moved (nI a) (nI i) (nI b) (nI j) (nI n) (nI p) = _
    unfold f_X7_copy_117
    simp (disch := omega) only [fl32, nI_add, pk_mul, pk_rem, nI_clamp, gdI, gdZ, gdB0, gdB1, nI_leI, nI_ltI, nI_eq, if_pos, if_neg, Option.bind_some, pk_us, pk_un, nn_eq, nn_le, nn_lt, nl_eq, if_true, if_false, eq_self, nl_le]
    exact e1
theorem k_copy (F : Nat) (hF : 100000 ≤ F) (x1 x2 x3 x4 x5 : Int32) {lane size items lanes sizes itemz : Nat → Int32} (moved : Nat → Int32) {finding status : Int32} (h : IRows lane size items finding lanes sizes itemz status) :
    ∃ (uc : Int32 × Int32 × (Nat → Int32)) (um : Int32 × Int32 × (Nat → Int32) × (Nat → Int32)), f_X6_copy F x1 x2 x3 x4 x5 lane size finding items = some uc ∧ f_X7_copy F x1 x2 x3 x4 x5 lanes sizes status itemz moved = some um ∧ uc.1 = um.1 ∧ IRows lane size uc.2.2 uc.2.1 lanes sizes um.2.2.1 um.2.1 := by
  obtain ⟨hfs, hr⟩ := h
  unfold f_X6_copy f_X7_copy f_X4_isMissing f_X4_laneOf f_X6_copy_39 f_X6_copy_99 f_X7_copy_35 f_X7_copy_108 f_X6_found f_X7_find
  rcases rowc x1 with ⟨e1, e2⟩ | ⟨a, ha, rfl, e1, e2⟩
  · rw [e1, e2]
    exact ⟨_, _, rfl, rfl, rfl, hfs, hr⟩
  rw [e1, e2]
  rcases rowc x3 with ⟨e3, e4⟩ | ⟨b, hb, rfl, e3, e4⟩
  · rw [e3, e4]
    exact ⟨_, _, rfl, rfl, rfl, hfs, hr⟩
  rw [e3, e4]
  obtain ⟨⟨za, hza, la1, la2⟩, hsa⟩ := hr a ha
  obtain ⟨⟨zb, hzb, lb1, lb2⟩, hsb⟩ := hr b hb
  rcases hsa with ⟨s1, s2⟩ | ⟨z, hz, s1, s2, s3⟩
  · simp (disch := omega) only [fl32, nI_add, pk_mul, pk_rem, nI_clamp, gdI, gdZ, gdB0, gdB1, nI_leI, nI_ltI, nI_eq, if_pos, if_neg, Option.bind_some, pk_us, pk_un, nn_eq, nn_le, nn_lt, nl_eq, if_true, if_false, eq_self, nl_le, s1, s2]
    exact ⟨_, _, rfl, rfl, rfl, rfl, hr⟩
  rcases hsb with ⟨q1, q2⟩ | ⟨y, hy, q1, q2, q3⟩
  · simp (disch := omega) only [fl32, nI_add, pk_mul, pk_rem, nI_clamp, gdI, gdZ, gdB0, gdB1, nI_leI, nI_ltI, nI_eq, if_pos, if_neg, Option.bind_some, pk_us, pk_un, nn_eq, nn_le, nn_lt, nl_eq, if_true, if_false, eq_self, nl_le, s1, s2, q1, q2]
    exact ⟨_, _, rfl, rfl, rfl, rfl, hr⟩
  by_cases cl : ¬ za = zb
  · simp (disch := omega) only [fl32, nI_add, pk_mul, pk_rem, nI_clamp, gdI, gdZ, gdB0, gdB1, nI_leI, nI_ltI, nI_eq, if_pos, if_neg, Option.bind_some, pk_us, pk_un, nn_eq, nn_le, nn_lt, nl_eq, if_true, if_false, eq_self, nl_le, s1, s2, q1, q2, la1, la2, lb1, lb2]
    exact ⟨_, _, rfl, rfl, rfl, rfl, hr⟩
  replace cl := Decidable.not_not.mp cl
  subst cl
  by_cases cn : x5 < (0 : Int32)
  · have hp : f_X4_hasPlaces F (nI a) x2 x5 size = some 0 := by
      unfold f_X4_hasPlaces
      by_cases c : x2 < (0 : Int32)
      · rw [if_pos c]
      · rw [if_neg c, if_pos cn]
    simp (disch := omega) only [fl32, nI_add, pk_mul, pk_rem, nI_clamp, gdI, gdZ, gdB0, gdB1, nI_leI, nI_ltI, nI_eq, if_pos, if_neg, Option.bind_some, pk_us, pk_un, nn_eq, nn_le, nn_lt, nl_eq, if_true, if_false, eq_self, nl_le, s1, s2, q1, q2, la1, la2, lb1, lb2, hp]
    rw [if_pos (show x5 < nI 0 from cn)]
    exact ⟨_, _, rfl, rfl, rfl, rfl, hr⟩
  rcases plc2 x2 x5 cn z hz with ⟨p1, p2⟩ | ⟨i, n, hin, rfl, rfl, p1, p2⟩
  · have p1' := p1 F a size ha s1
    have p2' := p2 F
    simp only [fl64] at p2'
    simp (disch := omega) only [fl32, nI_add, pk_mul, pk_rem, nI_clamp, gdI, gdZ, gdB0, gdB1, nI_leI, nI_ltI, nI_eq, if_pos, if_neg, Option.bind_some, pk_us, pk_un, nn_eq, nn_le, nn_lt, nl_eq, if_true, if_false, eq_self, nl_le, s1, s2, q1, q2, la1, la2, lb1, lb2, p1', p2', fl64]
    rw [if_neg (show ¬ x5 < nI 0 from cn)]
    exact ⟨_, _, rfl, rfl, rfl, rfl, hr⟩
  have p1' := p1 F a size ha s1
  have p2' := p2 F
  simp only [fl64] at p2'
  rcases plc2 x4 (nI n) cn y hy with ⟨o1, o2⟩ | ⟨j, n2, hjn, rfl, en, o1, o2⟩
  · have o1' := o1 F b size hb q1
    have o2' := o2 F
    simp only [fl64] at o2'
    simp (disch := omega) only [fl32, nI_add, pk_mul, pk_rem, nI_clamp, gdI, gdZ, gdB0, gdB1, nI_leI, nI_ltI, nI_eq, if_pos, if_neg, Option.bind_some, pk_us, pk_un, nn_eq, nn_le, nn_lt, nl_eq, if_true, if_false, eq_self, nl_le, s1, s2, q1, q2, la1, la2, lb1, lb2, p1', p2', o1', o2', fl64]
    exact ⟨_, _, rfl, rfl, rfl, rfl, hr⟩
  have o1' := o1 F b size hb q1
  have o2' := o2 F
  simp only [fl64] at o2'
  have hnn : n2 = n := by
    by_cases hlt : n2 < 2147483648
    · exact ((nI_eq (by omega) hlt).mp en).symm
    · omega
  subst hnn
  obtain ⟨it, mv, t1, t2, t3⟩ := s_cp1 (F := F) ha (show i + n2 ≤ 40 from by omega) hb (show j + n2 ≤ 40 from by omega) hF status lanes sizes itemz n2 0 F moved (by omega) (by omega) (fun q hq => by omega)
  unfold f_X4_move f_X6_foundNothing
  refine ⟨(nI n2, 0, va_cpy items items (a * 40 + i) (b * 40 + j) n2), (nI n2, 0, it, mv), ?_, ?_, rfl, rfl, ?_⟩
  · have hd : (decide (¬ (nI (a * 40 + i)) < nI 0 ∧ ¬ nI (b * 40 + j) < nI 0 ∧ ¬ nI n2 < nI 0 ∧ a * 40 + i + n2 ≤ 320 ∧ b * 40 + j + n2 ≤ 320)) = true := by
      refine decide_eq_true ⟨nI_nlt (by omega) (by omega), nI_nlt (by omega) (by omega), nI_nlt (by omega) (by omega), by omega, by omega⟩
    have hg : ∀ {α : Type} (x : Option α), gd (decide (¬ (nI (a * 40 + i)) < nI 0 ∧ ¬ nI (b * 40 + j) < nI 0 ∧ ¬ nI n2 < nI 0 ∧ a * 40 + i + n2 ≤ 320 ∧ b * 40 + j + n2 ≤ 320)) x = x := fun x => by rw [hd]; rfl
    simp (disch := omega) only [fl32, nI_add, pk_mul, pk_rem, nI_clamp, gdI, gdZ, gdB0, gdB1, nI_leI, nI_eq, if_pos, if_neg, Option.bind_some, pk_us, pk_un, nn_eq, nn_le, nn_lt, nl_eq, if_true, if_false, eq_self, nl_le, s1, q1, la1, lb1, p1', o1', hg]
  · simp (disch := omega) only [fl32, nI_add, pk_mul, pk_rem, nI_clamp, gdI, gdZ, gdB0, gdB1, nI_leI, nI_ltI, nI_eq, if_pos, if_neg, Option.bind_some, pk_us, pk_un, nn_eq, nn_le, nn_lt, nl_eq, if_true, if_false, eq_self, nl_le, s1, s2, q1, q2, la2, lb2, p2', o2', fl64]
    exact t1
  · intro r2 h2
    refine ⟨(hr r2 h2).1, ?_⟩
    rcases (hr r2 h2).2 with hm | ⟨z2, a1, a2, a3, a4⟩
    · exact Or.inl hm
    · refine Or.inr ⟨z2, a1, a2, a3, fun q hq => ?_⟩
      show va_cpy items items (a * 40 + i) (b * 40 + j) n2 (40 * r2 + q) = it (40 * r2 + q)
      by_cases e : 40 * b + j ≤ 40 * r2 + q ∧ 40 * r2 + q < 40 * b + j + n2
      · rw [pk_cpy_in (by omega) (by omega), t2 _ e.1 e.2]
        have := s3 (i + (40 * r2 + q - (40 * b + j))) (by omega)
        rw [show a * 40 + i + (40 * r2 + q - (b * 40 + j)) = 40 * a + (i + (40 * r2 + q - (40 * b + j))) from by omega, this, show 40 * a + i + (40 * r2 + q - (40 * b + j)) = 40 * a + (i + (40 * r2 + q - (40 * b + j))) from by omega]
      · rw [pk_cpy_out (by omega), t3 _ (by omega), a4 q hq]
theorem k_feed (F : Nat) (x1 : Int32) {bytes tape : Nat → Int32} {length latestFault bytesN latest : Int32} (h : ITape bytes length latestFault tape bytesN latest) :
    ∃ (uc um : Int32 × Int32 × (Nat → Int32)), f_X6_feed F x1 length bytes = some uc ∧ f_X7_feed F x1 bytesN tape = some um ∧ uc.1 = um.1 ∧ ITape uc.2.2 uc.2.1 latestFault um.2.2 um.2.1 latest := by
  obtain ⟨hl, z, hz, rfl, rfl, hb⟩ := h
  unfold f_X6_feed f_X7_feed f_X5_isFull f_X5_add
  rcases win x1 0 255 0 255 0 255 rfl rfl rfl rfl (by decide) (by decide) with ⟨e1, e2⟩ | ⟨ch, -, hch, rfl, e1, e2⟩
  · rw [e1, e2]
    exact ⟨_, _, rfl, rfl, rfl, hl, z, hz, rfl, rfl, hb⟩
  rw [e1, e2]
  by_cases c : z = 100
  · simp (disch := omega) only [fl32, nI_add, pk_mul, pk_rem, nI_clamp, gdI, gdZ, gdB0, gdB1, nI_leI, nI_ltI, nI_eq, if_pos, if_neg, Option.bind_some, pk_us, pk_un, nn_eq, nn_le, nn_lt, nl_eq, if_true, if_false, eq_self, nl_le]
    exact ⟨_, _, rfl, rfl, rfl, hl, z, hz, rfl, rfl, hb⟩
  · simp (disch := omega) only [fl32, nI_add, pk_mul, pk_rem, nI_clamp, gdI, gdZ, gdB0, gdB1, nI_leI, nI_ltI, nI_eq, if_pos, if_neg, Option.bind_some, pk_us, pk_un, nn_eq, nn_le, nn_lt, nl_eq, if_true, if_false, eq_self, nl_le]
    refine ⟨_, _, rfl, rfl, rfl, hl, z + 1, by omega, rfl, rfl, fun i hi => ?_⟩
    by_cases e : i = z
    · exact ⟨ch, hch, by rw [e]; exact pk_us, by rw [e]; exact pk_us⟩
    · obtain ⟨c2, h1, h2, h3⟩ := hb i (by omega)
      exact ⟨c2, h1, by show upd bytes z (nI ch) i = _; rw [pk_un e]; exact h2, by show upd tape z (nI ch) i = _; rw [pk_un e]; exact h3⟩
