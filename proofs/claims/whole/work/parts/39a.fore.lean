/-! when all is as now again; what is stored -/
theorem i01 {r : Int32} (h : r = 0 ∨ r = 1) {α : Type} (x : Option α) : gd (isb r) x = x := by rcases h with rfl | rfl <;> rfl
theorem s_tn0 {F d : Nat} {A : Nat → Nat} {st : Nat → Int32} (hM : RpM A st) (hn : A 2 ≤ 6) : ∀ (k t fu : Nat), A 2 = t + k → k < fu → f_X7_isTurn_15_r F st fu (nI d) 0 (nI t) = some 0 := by
  have e2 := hM 2 (by omega) (by omega)
  intro k
  induction k with
  | zero =>
    intro t fu h1 h2
    obtain ⟨fu, rfl⟩ : ∃ q, fu = q + 1 := ⟨fu - 1, by omega⟩
    show f_X7_isTurn_15 F _ _ _ _ _ = _
    unfold f_X7_isTurn_15
    simp (disch := omega) only [fl32, nI_add, pk_mul, pk_rem, nI_clamp, gdI, gdZ, gdB0, gdB1, nI_leI, nI_ltI, nI_eq, if_pos, if_neg, Option.bind_some, pk_us, pk_un, nn_eq, nn_le, nn_lt, nl_eq, if_true, if_false, eq_self, nl_le, e2]
  | succ k ih =>
    intro t fu h1 h2
    obtain ⟨fu, rfl⟩ : ∃ q, fu = q + 1 := ⟨fu - 1, by omega⟩
    show f_X7_isTurn_15 F _ _ _ _ _ = _
    unfold f_X7_isTurn_15 f_X7_isTurn_55 f_X7_isTurn_56
    simp (disch := omega) only [fl32, nI_add, pk_mul, pk_rem, nI_clamp, gdI, gdZ, gdB0, gdB1, nI_leI, nI_ltI, nI_eq, if_pos, if_neg, Option.bind_some, pk_us, pk_un, nn_eq, nn_le, nn_lt, nl_eq, if_true, if_false, eq_self, nl_le, e2]
    exact ih (t + 1) fu (by omega) (by omega)
theorem s_tn1 {F d : Nat} {A : Nat → Nat} {st kind by_ : Nat → Int32} (hM : RpM A st) (hT : OkT A) (hd : d < 1000) (hk : ∀ t, t < A 2 → kind t = nI (A (5 + t))) (hb : ∀ t, t < A 2 → by_ t = nI (A (17 + t))) : ∀ (k t fu fu2 : Nat), A 2 = t + k → k < fu → k < fu2 → ∃ r : Int32, (r = 0 ∨ r = 1) ∧ f_X2_isWholeRound_11_r F (nI (A 2)) kind by_ fu (nI d) (nI t) = some r ∧ f_X7_isTurn_15_r F st fu2 (nI d) 1 (nI t) = some r := by
  have hn := hT.1
  have e2 := hM 2 (by omega) (by omega)
  intro k
  induction k with
  | zero =>
    intro t fu fu2 h1 h2 h3
    obtain ⟨fu, rfl⟩ : ∃ q, fu = q + 1 := ⟨fu - 1, by omega⟩
    obtain ⟨fu2, rfl⟩ : ∃ q, fu2 = q + 1 := ⟨fu2 - 1, by omega⟩
    refine ⟨1, Or.inr rfl, ?_, ?_⟩
    · show f_X2_isWholeRound_11 F _ _ _ _ _ _ = _
      unfold f_X2_isWholeRound_11
      simp (disch := omega) only [fl32, nI_add, pk_mul, pk_rem, nI_clamp, gdI, gdZ, gdB0, gdB1, nI_leI, nI_ltI, nI_eq, if_pos, if_neg, Option.bind_some, pk_us, pk_un, nn_eq, nn_le, nn_lt, nl_eq, if_true, if_false, eq_self, nl_le]
    · show f_X7_isTurn_15 F _ _ _ _ _ = _
      unfold f_X7_isTurn_15
      simp (disch := omega) only [fl32, nI_add, pk_mul, pk_rem, nI_clamp, gdI, gdZ, gdB0, gdB1, nI_leI, nI_ltI, nI_eq, if_pos, if_neg, Option.bind_some, pk_us, pk_un, nn_eq, nn_le, nn_lt, nl_eq, if_true, if_false, eq_self, nl_le, e2]
  | succ k ih =>
    intro t fu fu2 h1 h2 h3
    obtain ⟨fu, rfl⟩ : ∃ q, fu = q + 1 := ⟨fu - 1, by omega⟩
    obtain ⟨fu2, rfl⟩ : ∃ q, fu2 = q + 1 := ⟨fu2 - 1, by omega⟩
    obtain ⟨b1, b2, b3, b4, b5, b6, b7, b8, b9⟩ := hT.2.2.2 t (by omega)
    have hp := s_isPersonAt (F := F) (show t < 6 by omega) (hk t (by omega)) b2
    have hq := s_isPeople (F := F) hM (show t < 6 by omega) b2
    have q17 := hM (17 + t) (by omega) (by omega)
    have hbt := hb t (by omega)
    have hrem : d % A (17 + t) < 9 := Nat.lt_of_lt_of_le (Nat.mod_lt _ (by omega)) b5
    obtain ⟨r, g0, g1, g2⟩ := ih (t + 1) fu fu2 (by omega) (by omega) (by omega)
    by_cases c1 : 4 ≤ A (5 + t)
    · by_cases c2 : d % A (17 + t) = 0
      · refine ⟨r, g0, ?_, ?_⟩
        · show f_X2_isWholeRound_11 F _ _ _ _ _ _ = _
          unfold f_X2_isWholeRound_11 f_X2_isWholeRound_55
          simp (disch := omega) only [fl32, nI_add, pk_mul, pk_rem, nI_clamp, gdI, gdZ, gdB0, gdB1, nI_leI, nI_ltI, nI_eq, if_pos, if_neg, Option.bind_some, pk_us, pk_un, nn_eq, nn_le, nn_lt, nl_eq, if_true, if_false, eq_self, nl_le, hp, hbt]
          exact g1
        · show f_X7_isTurn_15 F _ _ _ _ _ = _
          unfold f_X7_isTurn_15 f_X7_isTurn_55 f_X7_isTurn_51 f_X7_isTurn_56
          simp (disch := omega) only [fl32, nI_add, pk_mul, pk_rem, nI_clamp, gdI, gdZ, gdB0, gdB1, nI_leI, nI_ltI, nI_eq, if_pos, if_neg, Option.bind_some, pk_us, pk_un, nn_eq, nn_le, nn_lt, nl_eq, if_true, if_false, eq_self, nl_le, e2, hq, q17]
          exact g2
      · refine ⟨0, Or.inl rfl, ?_, ?_⟩
        · show f_X2_isWholeRound_11 F _ _ _ _ _ _ = _
          unfold f_X2_isWholeRound_11 f_X2_isWholeRound_55
          simp (disch := omega) only [fl32, nI_add, pk_mul, pk_rem, nI_clamp, gdI, gdZ, gdB0, gdB1, nI_leI, nI_ltI, nI_eq, if_pos, if_neg, Option.bind_some, pk_us, pk_un, nn_eq, nn_le, nn_lt, nl_eq, if_true, if_false, eq_self, nl_le, hp, hbt]
        · show f_X7_isTurn_15 F _ _ _ _ _ = _
          unfold f_X7_isTurn_15 f_X7_isTurn_55 f_X7_isTurn_51 f_X7_isTurn_56
          simp (disch := omega) only [fl32, nI_add, pk_mul, pk_rem, nI_clamp, gdI, gdZ, gdB0, gdB1, nI_leI, nI_ltI, nI_eq, if_pos, if_neg, Option.bind_some, pk_us, pk_un, nn_eq, nn_le, nn_lt, nl_eq, if_true, if_false, eq_self, nl_le, e2, hq, q17]
          exact s_tn0 hM hn k (t + 1) fu2 (by omega) (by omega)
    · refine ⟨r, g0, ?_, ?_⟩
      · show f_X2_isWholeRound_11 F _ _ _ _ _ _ = _
        unfold f_X2_isWholeRound_11 f_X2_isWholeRound_55
        simp (disch := omega) only [fl32, nI_add, pk_mul, pk_rem, nI_clamp, gdI, gdZ, gdB0, gdB1, nI_leI, nI_ltI, nI_eq, if_pos, if_neg, Option.bind_some, pk_us, pk_un, nn_eq, nn_le, nn_lt, nl_eq, if_true, if_false, eq_self, nl_le, hp]
        exact g1
      · show f_X7_isTurn_15 F _ _ _ _ _ = _
        unfold f_X7_isTurn_15 f_X7_isTurn_55 f_X7_isTurn_51 f_X7_isTurn_56
        simp (disch := omega) only [fl32, nI_add, pk_mul, pk_rem, nI_clamp, gdI, gdZ, gdB0, gdB1, nI_leI, nI_ltI, nI_eq, if_pos, if_neg, Option.bind_some, pk_us, pk_un, nn_eq, nn_le, nn_lt, nl_eq, if_true, if_false, eq_self, nl_le, e2, hq]
        exact g2
theorem s_turn {F d : Nat} (hF : 100000 ≤ F) {A : Nat → Nat} {things may fee day : Int32} {st kind was by_ price side is_ : Nat → Int32} (hM : RpM A st) (hT : OkT A) (hC : RpC A things may fee day kind was by_ price side is_) (hd : d < 1000) : ∃ r : Int32, (r = 0 ∨ r = 1) ∧ f_X2_isWholeRound F (nI d) things kind by_ = some r ∧ f_X7_isTurn F (nI d) st = some r := by
  have hn := hT.1
  unfold f_X2_isWholeRound f_X7_isTurn f_X7_isTurn_12
  have hrem : d % 14 < 14 := Nat.mod_lt _ (by omega)
  by_cases c : d % 14 = 0
  · obtain ⟨r, g0, g1, g2⟩ := s_tn1 (F := F) hM hT hd (fun t ht => (hC.2.2.2.2 t ht).1) (fun t ht => (hC.2.2.2.2 t ht).2.2.1) (A 2) 0 F F (by omega) (by omega) (by omega)
    refine ⟨r, g0, ?_, ?_⟩
    · rw [hC.1]
      simp (disch := omega) only [fl32, nI_add, pk_mul, pk_rem, nI_clamp, gdI, gdZ, gdB0, gdB1, nI_leI, nI_ltI, nI_eq, if_pos, if_neg, Option.bind_some, pk_us, pk_un, nn_eq, nn_le, nn_lt, nl_eq, if_true, if_false, eq_self, nl_le, c]
      exact g1
    · simp (disch := omega) only [fl32, nI_add, pk_mul, pk_rem, nI_clamp, gdI, gdZ, gdB0, gdB1, nI_leI, nI_ltI, nI_eq, if_pos, if_neg, Option.bind_some, pk_us, pk_un, nn_eq, nn_le, nn_lt, nl_eq, if_true, if_false, eq_self, nl_le, c]
      exact g2
  · refine ⟨0, Or.inl rfl, ?_, ?_⟩
    · simp (disch := omega) only [fl32, nI_add, pk_mul, pk_rem, nI_clamp, gdI, gdZ, gdB0, gdB1, nI_leI, nI_ltI, nI_eq, if_pos, if_neg, Option.bind_some, pk_us, pk_un, nn_eq, nn_le, nn_lt, nl_eq, if_true, if_false, eq_self, nl_le]
    · simp (disch := omega) only [fl32, nI_add, pk_mul, pk_rem, nI_clamp, gdI, gdZ, gdB0, gdB1, nI_leI, nI_ltI, nI_eq, if_pos, if_neg, Option.bind_some, pk_us, pk_un, nn_eq, nn_le, nn_lt, nl_eq, if_true, if_false, eq_self, nl_le]
      exact s_tn0 hM hn (A 2) 0 F (by omega) (by omega)
theorem s_an0 {F : Nat} {A : Nat → Nat} {st aside : Nat → Int32} (hM : RpM A st) (hn : A 2 ≤ 6) : ∀ (k t fu : Nat), A 2 = t + k → k < fu → f_X7_isAsNow_4_r F st aside fu 0 (nI t) = some 0 := by
  have e2 := hM 2 (by omega) (by omega)
  intro k
  induction k with
  | zero =>
    intro t fu h1 h2
    obtain ⟨fu, rfl⟩ : ∃ q, fu = q + 1 := ⟨fu - 1, by omega⟩
    show f_X7_isAsNow_4 F _ _ _ _ _ = _
    unfold f_X7_isAsNow_4
    simp (disch := omega) only [fl32, nI_add, pk_mul, pk_rem, nI_clamp, gdI, gdZ, gdB0, gdB1, nI_leI, nI_ltI, nI_eq, if_pos, if_neg, Option.bind_some, pk_us, pk_un, nn_eq, nn_le, nn_lt, nl_eq, if_true, if_false, eq_self, nl_le, e2]
  | succ k ih =>
    intro t fu h1 h2
    obtain ⟨fu, rfl⟩ : ∃ q, fu = q + 1 := ⟨fu - 1, by omega⟩
    show f_X7_isAsNow_4 F _ _ _ _ _ = _
    unfold f_X7_isAsNow_4 f_X7_isAsNow_43 f_X7_isAsNow_44
    simp (disch := omega) only [fl32, nI_add, pk_mul, pk_rem, nI_clamp, gdI, gdZ, gdB0, gdB1, nI_leI, nI_ltI, nI_eq, if_pos, if_neg, Option.bind_some, pk_us, pk_un, nn_eq, nn_le, nn_lt, nl_eq, if_true, if_false, eq_self, nl_le, e2]
    exact ih (t + 1) fu (by omega) (by omega)
theorem s_an1 {F : Nat} {A : Nat → Nat} {st aside is_ lis : Nat → Int32} (hM : RpM A st) (hn : A 2 ≤ 6) (hi : ∀ t, t < A 2 → is_ t = st (35 + t)) (hl : ∀ t, t < A 2 → lis t = aside (35 + t)) : ∀ (k t fu fu2 : Nat), A 2 = t + k → k < fu → k < fu2 → ∃ r : Int32, (r = 0 ∨ r = 1) ∧ f_X2_isAllAsNow_2_r F (nI (A 2)) lis is_ fu (nI t) = some r ∧ f_X7_isAsNow_4_r F st aside fu2 1 (nI t) = some r := by
  have e2 := hM 2 (by omega) (by omega)
  intro k
  induction k with
  | zero =>
    intro t fu fu2 h1 h2 h3
    obtain ⟨fu, rfl⟩ : ∃ q, fu = q + 1 := ⟨fu - 1, by omega⟩
    obtain ⟨fu2, rfl⟩ : ∃ q, fu2 = q + 1 := ⟨fu2 - 1, by omega⟩
    refine ⟨1, Or.inr rfl, ?_, ?_⟩
    · show f_X2_isAllAsNow_2 F _ _ _ _ _ = _
      unfold f_X2_isAllAsNow_2
      simp (disch := omega) only [fl32, nI_add, pk_mul, pk_rem, nI_clamp, gdI, gdZ, gdB0, gdB1, nI_leI, nI_ltI, nI_eq, if_pos, if_neg, Option.bind_some, pk_us, pk_un, nn_eq, nn_le, nn_lt, nl_eq, if_true, if_false, eq_self, nl_le]
    · show f_X7_isAsNow_4 F _ _ _ _ _ = _
      unfold f_X7_isAsNow_4
      simp (disch := omega) only [fl32, nI_add, pk_mul, pk_rem, nI_clamp, gdI, gdZ, gdB0, gdB1, nI_leI, nI_ltI, nI_eq, if_pos, if_neg, Option.bind_some, pk_us, pk_un, nn_eq, nn_le, nn_lt, nl_eq, if_true, if_false, eq_self, nl_le, e2]
  | succ k ih =>
    intro t fu fu2 h1 h2 h3
    obtain ⟨fu, rfl⟩ : ∃ q, fu = q + 1 := ⟨fu - 1, by omega⟩
    obtain ⟨fu2, rfl⟩ : ∃ q, fu2 = q + 1 := ⟨fu2 - 1, by omega⟩
    have h5 := hi t (by omega)
    have h6 := hl t (by omega)
    by_cases c : st (35 + t) = aside (35 + t)
    · obtain ⟨r, g0, g1, g2⟩ := ih (t + 1) fu fu2 (by omega) (by omega) (by omega)
      refine ⟨r, g0, ?_, ?_⟩
      · show f_X2_isAllAsNow_2 F _ _ _ _ _ = _
        unfold f_X2_isAllAsNow_2
        simp (disch := omega) only [fl32, nI_add, pk_mul, pk_rem, nI_clamp, gdI, gdZ, gdB0, gdB1, nI_leI, nI_ltI, nI_eq, if_pos, if_neg, Option.bind_some, pk_us, pk_un, nn_eq, nn_le, nn_lt, nl_eq, if_true, if_false, eq_self, nl_le, h5, h6, c]
        exact g1
      · show f_X7_isAsNow_4 F _ _ _ _ _ = _
        unfold f_X7_isAsNow_4 f_X7_isAsNow_43 f_X7_isAsNow_44
        simp (disch := omega) only [fl32, nI_add, pk_mul, pk_rem, nI_clamp, gdI, gdZ, gdB0, gdB1, nI_leI, nI_ltI, nI_eq, if_pos, if_neg, Option.bind_some, pk_us, pk_un, nn_eq, nn_le, nn_lt, nl_eq, if_true, if_false, eq_self, nl_le, e2, c]
        exact g2
    · refine ⟨0, Or.inl rfl, ?_, ?_⟩
      · show f_X2_isAllAsNow_2 F _ _ _ _ _ = _
        unfold f_X2_isAllAsNow_2
        simp (disch := omega) only [fl32, nI_add, pk_mul, pk_rem, nI_clamp, gdI, gdZ, gdB0, gdB1, nI_leI, nI_ltI, nI_eq, if_pos, if_neg, Option.bind_some, pk_us, pk_un, nn_eq, nn_le, nn_lt, nl_eq, if_true, if_false, eq_self, nl_le, h5, h6, c]
      · show f_X7_isAsNow_4 F _ _ _ _ _ = _
        unfold f_X7_isAsNow_4 f_X7_isAsNow_43 f_X7_isAsNow_44
        simp (disch := omega) only [fl32, nI_add, pk_mul, pk_rem, nI_clamp, gdI, gdZ, gdB0, gdB1, nI_leI, nI_ltI, nI_eq, if_pos, if_neg, Option.bind_some, pk_us, pk_un, nn_eq, nn_le, nn_lt, nl_eq, if_true, if_false, eq_self, nl_le, e2, c]
        exact s_an0 hM hn k (t + 1) fu2 (by omega) (by omega)
theorem s_round {F : Nat} (hF : 100000 ≤ F) {A0 : Nat → Nat} {things may fee ld isThere : Int32} {kind was by_ price side lis aside : Nat → Int32} (hl : ∀ t, t < A0 2 → lis t = aside (35 + t)) : ∀ (k s fu fu2 : Nat) (A : Nat → Nat) (day : Int32) (is_ st : Nat → Int32), 101 = s + k → 1 ≤ s → k < fu → k + 1 < fu2 → OkT A → A 2 = A0 2 → A 3 + k < 900000 → RpC A things may fee day kind was by_ price side is_ → RpM A st →
    ∃ r d' i' st', f_X2_firstReturn_6_r F things ld kind by_ lis fu day is_ (nI s) = some (r, d', i') ∧ f_X7_round_19_r F isThere fu2 st aside (-1000000) (nI s) = some (r, st', aside) ∧ ∀ j, j < 41 → st' j = aside j := by
  intro k
  induction k with
  | zero =>
    intro s fu fu2 A day is_ st h1 hs1 h2 h3 hT hA0 hd hC hM
    obtain ⟨fu, rfl⟩ : ∃ q, fu = q + 1 := ⟨fu - 1, by omega⟩
    obtain ⟨fu2, rfl⟩ : ∃ q, fu2 = q + 1 := ⟨fu2 - 1, by omega⟩
    obtain ⟨K, k1, k2⟩ := s_takeBk (F := F) hF aside st
    refine ⟨-1000000, day, is_, K, ?_, ?_, k2⟩
    · show f_X2_firstReturn_6 F _ _ _ _ _ _ _ _ _ = _
      unfold f_X2_firstReturn_6
      rw [if_pos (show (100 : Int32) < nI s from by rw [show s = 101 from by omega]; decide)]
    · show f_X7_round_19 F _ _ _ _ _ _ = _
      unfold f_X7_round_19 f_X7_round_60
      rw [if_pos (show (100 : Int32) < nI s from by rw [show s = 101 from by omega]; decide), k1]
      rfl
  | succ k ih =>
    intro s fu fu2 A day is_ st h1 hs1 h2 h3 hT hA0 hd hC hM
    obtain ⟨fu, rfl⟩ : ∃ q, fu = q + 1 := ⟨fu - 1, by omega⟩
    obtain ⟨fu2, rfl⟩ : ∃ q, fu2 = q + 1 := ⟨fu2 - 1, by omega⟩
    have hn := hT.1
    obtain ⟨day', is', p1, p2⟩ := s_pass hF hT (by omega) hC
    obtain ⟨st', m1, m2, -⟩ := s_oneDay hF hT (by omega) hM
    have hT' := dayA_ok hT
    have e2 : dayA A 2 = A 2 := dayA_lo (by omega) (by omega)
    obtain ⟨r1, r01, t1, t2⟩ := s_turn (F := F) (d := s) hF m2 hT' p2 (by omega)
    obtain ⟨r2, r02, n1, n2⟩ := s_an1 (F := F) (aside := aside) (lis := lis) m2 hT'.1 (fun t ht => ((p2.2.2.2.2 t ht).2.2.2.2.2).trans (m2 (35 + t) (by omega) (by omega)).symm) (fun t ht => hl t (by omega)) (dayA A 2) 0 F F (by omega) (by omega) (by omega)
    have n1' : f_X2_isAllAsNow F things lis is' = some r2 := by rw [p2.1]; exact n1
    have n2' : f_X7_isAsNow F st' aside = some r2 := n2
    obtain ⟨r, d', i', st2, g1, g2, g3⟩ := ih (s + 1) fu fu2 (dayA A) day' is' st' (by omega) (by omega) (by omega) (by omega) hT' (by omega) (by rw [dayA_3]; omega) p2 m2
    have c100 : ¬ (100 : Int32) < nI s := fun hh => by rw [show (100 : Int32) = nI 100 from rfl, nI_ltI (by omega) (by omega)] at hh; omega
    have cm : ¬ (0 : Int32) ≤ -1000000 := by decide
    by_cases c : r1 = 0 ∨ r2 = 0
    · refine ⟨r, d', i', st2, ?_, ?_, g3⟩
      · show f_X2_firstReturn_6 F _ _ _ _ _ _ _ _ _ = _
        unfold f_X2_firstReturn_6 f_X2_firstReturn_34
        rw [if_neg c100, p1]
        simp only [Option.bind_some, t1, n1', nI_s1]
        by_cases c1 : r1 = 0
        · rw [if_pos c1]; exact g1
        · rw [if_neg c1, if_pos (c.resolve_left c1)]; exact g1
      · show f_X7_round_19 F _ _ _ _ _ _ = _
        unfold f_X7_round_19 f_X7_round_52 f_X7_round_53
        rw [if_neg c100, if_neg cm, m1]
        simp only [Option.bind_some, t2, n2', nI_s1]
        by_cases c1 : r1 = 0
        · rw [if_pos c1]; exact g2
        · rw [if_neg c1, if_pos (c.resolve_left c1)]; exact g2
    · have c1 : ¬ r1 = 0 := fun h => c (Or.inl h)
      have c2 : ¬ r2 = 0 := fun h => c (Or.inr h)
      obtain ⟨fu2, rfl⟩ : ∃ q, fu2 = q + 1 := ⟨fu2 - 1, by omega⟩
      obtain ⟨K, k1, k2⟩ := s_takeBk (F := F) hF aside st'
      have hge : (0 : Int32) ≤ nI s := by rw [show (0 : Int32) = nI 0 from rfl, nI_leI (by omega) (by omega)]; omega
      refine ⟨nI s, day', is', K, ?_, ?_, k2⟩
      · show f_X2_firstReturn_6 F _ _ _ _ _ _ _ _ _ = _
        unfold f_X2_firstReturn_6 f_X2_firstReturn_34
        rw [if_neg c100, p1]
        simp only [Option.bind_some, t1, n1']
        rw [if_neg c1, if_neg c2]
      · show f_X7_round_19 F _ _ _ _ _ _ = _
        unfold f_X7_round_19 f_X7_round_52 f_X7_round_53
        rw [if_neg c100, if_neg cm, m1]
        simp only [Option.bind_some, t2, n2', nI_s1]
        rw [if_neg c1, if_neg c2]
        show f_X7_round_19 F _ _ _ _ _ _ = _
        unfold f_X7_round_19 f_X7_round_60
        rw [k1, if_pos hge]
        by_cases cc : (100 : Int32) < nI (s + 1)
        · rw [if_pos cc]; rfl
        · rw [if_neg cc]; rfl
theorem k_round (F : Nat) (hF : 100000 ≤ F) {A : Nat → Nat} {st kind was by_ price side is_ : Nat → Int32} {things may fee day isThere : Int32} (hO : OkA A) (hC : RpC A things may fee day kind was by_ price side is_) (hM : RpM A st) (hth : isThere = (if A 2 = 0 then 0 else 1)) (fd : Int32) (fi aside : Nat → Int32) :
    ∃ r d' i' st' as', f_X6_round F things day kind by_ is_ fd fi = some (r, d', i') ∧ f_X7_round F isThere st aside = some (r, st', as') ∧ ∀ j, j < 41 → st' j = st j := by
  have hn := hO.1
  have hd := hO.2.2.2.1
  unfold f_X6_round f_X7_round f_X2_firstReturn
  rcases thereC hO.1 hth with ⟨-, g1, g2⟩ | ⟨-, g1, g2⟩
  · rw [← hC.1] at g1
    rw [if_pos g1, if_pos g2]
    exact ⟨_, _, _, _, _, rfl, rfl, fun _ _ => rfl⟩
  rw [← hC.1] at g1
  rw [if_neg g1, if_neg g2]
  obtain ⟨K, k1, k2⟩ := s_putAside (F := F) hF st aside
  obtain ⟨is', b1, b2⟩ := s_begin (F := F) hF hn hC fd fi
  obtain ⟨r, d', i', st', h1, h2, h3⟩ := s_round (F := F) (A0 := A) hF (ld := day) (lis := is_) (isThere := isThere) (aside := K) (fun t ht => by rw [k2 (35 + t) (by omega), hM (35 + t) (by omega) (by omega)]; exact (hC.2.2.2.2 t ht).2.2.2.2.2) 100 1 F F A day is' st (by omega) (by omega) (by omega) (by omega) hO.T rfl (by omega) b2 hM
  simp only [Option.bind_some, b1, k1]
  have h2' : f_X7_round_19_r F isThere F st K (-1000000) 1 = some (r, st', K) := h2
  have h1' : f_X2_firstReturn_6_r F things day kind by_ is_ F day is' 1 = some (r, d', i') := h1
  rw [h2', h1']
  exact ⟨r, d', i', st', K, rfl, rfl, fun j hj => (h3 j hj).trans (k2 j hj)⟩
/-! a thing is set back -/
theorem okT_set {A : Nat → Nat} {t v : Nat} (hT : OkT A) (hv : v ≤ 99) : OkT (setA A (35 + t) v) := by
  have hn := hT.1
  have e2 : setA A (35 + t) v 2 = A 2 := setA_ne (by omega)
  refine ⟨by rw [e2]; exact hT.1, by rw [setA_ne (by omega)]; exact hT.2.1, by rw [setA_ne (by omega)]; exact hT.2.2.1, fun s hs => ?_⟩
  rw [e2] at hs
  have := hT.2.2.2 s hs
  rw [setA_ne (show 5 + s ≠ 35 + t by omega), setA_ne (show 11 + s ≠ 35 + t by omega), setA_ne (show 17 + s ≠ 35 + t by omega), setA_ne (show 23 + s ≠ 35 + t by omega), setA_ne (show 29 + s ≠ 35 + t by omega)]
  refine ⟨this.1, this.2.1, this.2.2.1, this.2.2.2.1, this.2.2.2.2.1, this.2.2.2.2.2.1, this.2.2.2.2.2.2.1, this.2.2.2.2.2.2.2.1, ?_⟩
  by_cases c : s = t
  · rw [c, setA_at]; exact hv
  · rw [setA_ne (by omega)]; exact this.2.2.2.2.2.2.2.2
theorem rc_set {A : Nat → Nat} {t v : Nat} {things may fee day : Int32} {kind was by_ price side is_ : Nat → Int32} (hT : OkT A) (hC : RpC A things may fee day kind was by_ price side is_) : RpC (setA A (35 + t) v) things may fee day kind was by_ price side (upd is_ t (nI v)) := by
  have hn := hT.1
  have e2 : setA A (35 + t) v 2 = A 2 := setA_ne (by omega)
  obtain ⟨h1, h2, h3, h4, hc⟩ := hC
  refine ⟨by rw [e2]; exact h1, by rw [setA_ne (by omega)]; exact h2, by rw [setA_ne (by omega)]; exact h3, by rw [setA_ne (by omega)]; exact h4, fun s hs => ?_⟩
  rw [e2] at hs
  have := hc s hs
  rw [setA_ne (show 5 + s ≠ 35 + t by omega), setA_ne (show 11 + s ≠ 35 + t by omega), setA_ne (show 17 + s ≠ 35 + t by omega), setA_ne (show 23 + s ≠ 35 + t by omega), setA_ne (show 29 + s ≠ 35 + t by omega)]
  refine ⟨this.1, this.2.1, this.2.2.1, this.2.2.2.1, this.2.2.2.2.1, ?_⟩
  by_cases c : s = t
  · rw [c, setA_at, pk_us]
  · rw [setA_ne (by omega), pk_un c]; exact this.2.2.2.2.2
theorem s_fall {F : Nat} {things may fee day isThere x1 x3 c : Int32} {kind was by_ price side aside : Nat → Int32} {k33 : (Nat → Int32) → (Nat → Int32) → Int32 → Int32 → Int32 → Option (Int32 × (Nat → Int32) × (Nat → Int32))} : ∀ (k t fu fu2 : Nat) (a : Int32) (A : Nat → Nat) (is_ st : Nat → Int32), A 2 = t + k → k < fu → k < fu2 → OkT A → RpC A things may fee day kind was by_ price side is_ → RpM A st →
    ∃ (A' : Nat → Nat) (a' : Int32) (is' st' : Nat → Int32), f_X2_pricesOfFallen_4_r F things may kind was price fu is_ a (nI t) = some (a', is') ∧ f_X7_store_45_r F isThere k33 fu2 st aside x1 (c + a) x3 (nI t) = k33 st' aside x1 (c + a') (x3 + 1) ∧ OkT A' ∧ A' 3 = A 3 ∧ RpC A' things may fee day kind was by_ price side is' ∧ RpM A' st' := by
  intro k
  induction k with
  | zero =>
    intro t fu fu2 a A is_ st h1 h2 h3 hT hC hM
    obtain ⟨fu, rfl⟩ : ∃ q, fu = q + 1 := ⟨fu - 1, by omega⟩
    obtain ⟨fu2, rfl⟩ : ∃ q, fu2 = q + 1 := ⟨fu2 - 1, by omega⟩
    have hn := hT.1
    have e2 := hM 2 (by omega) (by omega)
    refine ⟨A, a, is_, st, ?_, ?_, hT, rfl, hC, hM⟩
    · show f_X2_pricesOfFallen_4 F _ _ _ _ _ _ _ _ _ = _
      unfold f_X2_pricesOfFallen_4
      simp (disch := omega) only [fl32, nI_add, pk_mul, pk_rem, nI_clamp, gdI, gdZ, gdB0, gdB1, nI_leI, nI_ltI, nI_eq, if_pos, if_neg, Option.bind_some, pk_us, pk_un, nn_eq, nn_le, nn_lt, nl_eq, if_true, if_false, eq_self, nl_le, hC.1]
    · show f_X7_store_45 F _ _ _ _ _ _ _ _ _ = _
      unfold f_X7_store_45
      simp (disch := omega) only [show (2 : Int32) = nI 2 from rfl, gdI, nI_clamp, e2, nI_leI, if_pos]
  | succ k ih =>
    intro t fu fu2 a A is_ st h1 h2 h3 hT hC hM
    obtain ⟨fu, rfl⟩ : ∃ q, fu = q + 1 := ⟨fu - 1, by omega⟩
    obtain ⟨fu2, rfl⟩ : ∃ q, fu2 = q + 1 := ⟨fu2 - 1, by omega⟩
    have hn := hT.1
    have hm := hT.2.1
    have e2 := hM 2 (by omega) (by omega)
    obtain ⟨b1, b2, b3, b4, b5, b6, b7, b8, b9⟩ := hT.2.2.2 t (by omega)
    obtain ⟨c1, c2, c3, c4, c5, c6⟩ := hC.2.2.2.2 t (by omega)
    have ho := s_offIf (F := F) (a := A (35 + t)) (show t < 6 by omega) c2 (by omega) (by omega)
    have ho7 := s_off (F := F) hM (show t < 6 by omega) (by omega) (by omega)
    have hal := s_isAlike (F := F) hM (show t < 6 by omega) (by omega) (by omega) hm
    have q5 := hM (5 + t) (by omega) (by omega)
    have q11 := hM (11 + t) (by omega) (by omega)
    have q23 := hM (23 + t) (by omega) (by omega)
    have hlt : df (A (35 + t)) (A (11 + t)) < 200000 := by unfold df; omega
    by_cases d : A (5 + t) = 2 ∧ A 0 < df (A (35 + t)) (A (11 + t))
    · obtain ⟨d1, d2⟩ := d
      obtain ⟨A', a', is', st', g1, g2, g3, g4, g5, g6⟩ := ih (t + 1) fu fu2 (a + nI (A (23 + t) * df (A (35 + t)) (A (11 + t)))) (setA A (35 + t) (A (11 + t))) (upd is_ t (nI (A (11 + t)))) (upd st (35 + t) (nI (A (11 + t)))) (by rw [setA_ne (by omega)]; omega) (by omega) (by omega) (okT_set hT (by omega)) (rc_set hT hC) (setA_rm hM)
      refine ⟨A', a', is', st', ?_, ?_, g3, by rw [g4, setA_ne (by omega)], g5, g6⟩
      · show f_X2_pricesOfFallen_4 F _ _ _ _ _ _ _ _ _ = _
        unfold f_X2_pricesOfFallen_4 f_X2_pricesOfFallen_83
        have e := hC.1
        have e' := hC.2.1
        simp (disch := omega) only [fl32, nI_add, pk_mul, pk_rem, nI_clamp, gdI, gdZ, gdB0, gdB1, nI_leI, nI_ltI, nI_eq, if_pos, if_neg, Option.bind_some, pk_us, pk_un, nn_eq, nn_le, nn_lt, nl_eq, if_true, if_false, eq_self, nl_le, e, e', c1, c2, c4, c6, ho, d1]
        rw [← e, ← e']
        exact g1
      · rw [← g2]
        show f_X7_store_45 F _ _ _ _ _ _ _ _ _ = _
        unfold f_X7_store_45 f_X7_store_118
        simp (disch := omega) only [fl32, nI_add, pk_mul, pk_rem, nI_clamp, gdI, gdZ, gdB0, gdB1, nI_leI, nI_ltI, nI_eq, if_pos, if_neg, Option.bind_some, pk_us, pk_un, nn_eq, nn_le, nn_lt, nl_eq, if_true, if_false, eq_self, nl_le, e2, q5, q11, q23, hal, ho7, d1]
        rw [Int32.add_assoc]
    · obtain ⟨A', a', is', st', g1, g2, g3, g4, g5, g6⟩ := ih (t + 1) fu fu2 a A is_ st (by omega) (by omega) (by omega) hT hC hM
      refine ⟨A', a', is', st', ?_, ?_, g3, g4, g5, g6⟩
      · show f_X2_pricesOfFallen_4 F _ _ _ _ _ _ _ _ _ = _
        unfold f_X2_pricesOfFallen_4 f_X2_pricesOfFallen_83
        have e := hC.1
        have e' := hC.2.1
        by_cases d1 : A (5 + t) = 2
        · simp (disch := omega) only [fl32, nI_add, pk_mul, pk_rem, nI_clamp, gdI, gdZ, gdB0, gdB1, nI_leI, nI_ltI, nI_eq, if_pos, if_neg, Option.bind_some, pk_us, pk_un, nn_eq, nn_le, nn_lt, nl_eq, if_true, if_false, eq_self, nl_le, e, e', c1, c2, c4, c6, ho, d1]
          rw [← e, ← e']
          exact g1
        · simp (disch := omega) only [fl32, nI_add, pk_mul, pk_rem, nI_clamp, gdI, gdZ, gdB0, gdB1, nI_leI, nI_ltI, nI_eq, if_pos, if_neg, Option.bind_some, pk_us, pk_un, nn_eq, nn_le, nn_lt, nl_eq, if_true, if_false, eq_self, nl_le, e, e', c1, c2, c4, c6, ho]
          rw [← e, ← e']
          exact g1
      · rw [← g2]
        show f_X7_store_45 F _ _ _ _ _ _ _ _ _ = _
        unfold f_X7_store_45 f_X7_store_118
        by_cases d1 : A (5 + t) = 2
        · simp (disch := omega) only [fl32, nI_add, pk_mul, pk_rem, nI_clamp, gdI, gdZ, gdB0, gdB1, nI_leI, nI_ltI, nI_eq, if_pos, if_neg, Option.bind_some, pk_us, pk_un, nn_eq, nn_le, nn_lt, nl_eq, if_true, if_false, eq_self, nl_le, e2, q5, q11, q23, hal, ho7, d1]
        · simp (disch := omega) only [fl32, nI_add, pk_mul, pk_rem, nI_clamp, gdI, gdZ, gdB0, gdB1, nI_leI, nI_ltI, nI_eq, if_pos, if_neg, Option.bind_some, pk_us, pk_un, nn_eq, nn_le, nn_lt, nl_eq, if_true, if_false, eq_self, nl_le, e2, q5, q11, q23, hal, ho7]
theorem s_store {F n : Nat} (hF : 100000 ≤ F) {things may fee ld isThere : Int32} {kind was by_ price side lis aside : Nat → Int32} (hn60 : n ≤ 60) : ∀ (k s fu fu2 : Nat) (c : Int32) (A : Nat → Nat) (day : Int32) (is_ st : Nat → Int32), n = s + k → k < fu → k < fu2 → OkT A → A 3 + k < 900000 → RpC A things may fee day kind was by_ price side is_ → RpM A st →
    ∃ r d' i' st', f_X2_pricesOfLeaves_8_r F things may ld kind was by_ price lis fu day is_ (nI n) c (nI s) = some (r, d', i') ∧ f_X7_store_33_r F isThere fu2 st aside (nI n) c (nI s) = some (r, st', aside) ∧ ∀ j, j < 41 → st' j = aside j := by
  intro k
  induction k with
  | zero =>
    intro s fu fu2 c A day is_ st h1 h2 h3 hT hd hC hM
    obtain ⟨fu, rfl⟩ : ∃ q, fu = q + 1 := ⟨fu - 1, by omega⟩
    obtain ⟨fu2, rfl⟩ : ∃ q, fu2 = q + 1 := ⟨fu2 - 1, by omega⟩
    obtain ⟨K, k1, k2⟩ := s_takeBk (F := F) hF aside st
    refine ⟨c, day, is_, K, ?_, ?_, k2⟩
    · show f_X2_pricesOfLeaves_8 F _ _ _ _ _ _ _ _ _ _ _ _ _ _ = _
      unfold f_X2_pricesOfLeaves_8
      simp (disch := omega) only [fl32, nI_add, pk_mul, pk_rem, nI_clamp, gdI, gdZ, gdB0, gdB1, nI_leI, nI_ltI, nI_eq, if_pos, if_neg, Option.bind_some, pk_us, pk_un, nn_eq, nn_le, nn_lt, nl_eq, if_true, if_false, eq_self, nl_le]
    · show f_X7_store_33 F _ _ _ _ _ _ _ = _
      unfold f_X7_store_33
      simp (disch := omega) only [fl32, nI_add, pk_mul, pk_rem, nI_clamp, gdI, gdZ, gdB0, gdB1, nI_leI, nI_ltI, nI_eq, if_pos, if_neg, Option.bind_some, pk_us, pk_un, nn_eq, nn_le, nn_lt, nl_eq, if_true, if_false, eq_self, nl_le, k1]
  | succ k ih =>
    intro s fu fu2 c A day is_ st h1 h2 h3 hT hd hC hM
    obtain ⟨fu, rfl⟩ : ∃ q, fu = q + 1 := ⟨fu - 1, by omega⟩
    obtain ⟨fu2, rfl⟩ : ∃ q, fu2 = q + 1 := ⟨fu2 - 1, by omega⟩
    obtain ⟨day', is', p1, p2⟩ := s_pass hF hT (by omega) hC
    obtain ⟨st', m1, m2, -⟩ := s_oneDay hF hT (by omega) hM
    have hT' := dayA_ok hT
    have hn' := hT'.1
    obtain ⟨A', a', is2, st2, f1, f2, f3, f4, f5, f6⟩ := s_fall (F := F) (isThere := isThere) (x1 := nI n) (x3 := nI s) (c := c) (aside := aside) (k33 := f_X7_store_33_r F isThere fu2) (dayA A 2) 0 F F 0 (dayA A) is' st' (by omega) (by omega) (by omega) hT' p2 m2
    obtain ⟨r, d', i', st3, g1, g2, g3⟩ := ih (s + 1) fu fu2 (c + a') A' day' is2 st2 (by omega) (by omega) (by omega) f3 (by rw [f4, dayA_3]; omega) f5 f6
    have f1' : f_X2_pricesOfFallen F things may kind was price is' = some (a', is2) := f1
    have f2' : f_X7_store_45_r F isThere (f_X7_store_33_r F isThere fu2) F st' aside (nI n) c (nI s) 0 = f_X7_store_33_r F isThere fu2 st2 aside (nI n) (c + a') (nI s + 1) := by rw [← f2, Int32.add_zero]; rfl
    refine ⟨r, d', i', st3, ?_, ?_, g3⟩
    · show f_X2_pricesOfLeaves_8 F _ _ _ _ _ _ _ _ _ _ _ _ _ _ = _
      unfold f_X2_pricesOfLeaves_8
      simp (disch := omega) only [nI_leI, if_neg, p1, f1', Option.bind_some, nI_s1]
      exact g1
    · show f_X7_store_33 F _ _ _ _ _ _ _ = _
      unfold f_X7_store_33
      simp (disch := omega) only [nI_leI, if_neg, m1, f2', Option.bind_some, nI_s1]
      exact g2
theorem k_store (F : Nat) (hF : 100000 ≤ F) (x1 : Int32) {A : Nat → Nat} {st kind was by_ price side is_ : Nat → Int32} {things may fee day isThere : Int32} (hO : OkA A) (hC : RpC A things may fee day kind was by_ price side is_) (hM : RpM A st) (hth : isThere = (if A 2 = 0 then 0 else 1)) (fd : Int32) (fi aside : Nat → Int32) :
    ∃ r d' i' st' as', f_X6_store F x1 things may day kind was by_ price is_ fd fi = some (r, d', i') ∧ f_X7_store F x1 isThere st aside = some (r, st', as') ∧ ∀ j, j < 41 → st' j = st j := by
  have hn := hO.1
  have hd := hO.2.2.2.1
  unfold f_X6_store f_X7_store f_X2_pricesOfLeaves
  rcases thereC hO.1 hth with ⟨-, g1, g2⟩ | ⟨-, g1, g2⟩
  · rw [← hC.1] at g1
    rw [if_pos g1, if_pos g2]
    exact ⟨_, _, _, _, _, rfl, rfl, fun _ _ => rfl⟩
  rw [← hC.1] at g1
  rw [if_neg g1, if_neg g2]
  rcases win x1 1 60 1 60 1 60 rfl rfl rfl rfl (by decide) (by decide) with ⟨e1, e2⟩ | ⟨n, -, hn1, rfl, e1, e2⟩
  · rw [e1, e2]
    exact ⟨_, _, _, _, _, rfl, rfl, fun _ _ => rfl⟩
  rw [e1, e2]
  obtain ⟨K, k1, k2⟩ := s_putAside (F := F) hF st aside
  obtain ⟨is', b1, b2⟩ := s_begin (F := F) hF hn hC fd fi
  obtain ⟨r, d', i', st', h1, h2, h3⟩ := s_store (F := F) (n := n) hF (ld := day) (lis := is_) (isThere := isThere) (aside := K) hn1 n 0 F F 0 A day is' st (by omega) (by omega) (by omega) hO.T (by omega) b2 hM
  simp only [Option.bind_some, if_neg one_ne, b1, k1]
  have h2' : f_X7_store_33_r F isThere F st K (nI n) 0 0 = some (r, st', K) := h2
  have h1' : f_X2_pricesOfLeaves_8_r F things may day kind was by_ price is_ F day is' (nI n) 0 0 = some (r, d', i') := h1
  rw [h2', h1']
  exact ⟨r, d', i', st', K, rfl, rfl, fun j hj => (h3 j hj).trans (k2 j hj)⟩
