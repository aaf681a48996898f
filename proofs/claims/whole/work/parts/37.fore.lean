/-! what is foretold of a land: its days ahead -/
theorem s_aside {F : Nat} {st : Nat → Int32} : ∀ (k t fu : Nat) (K : Nat → Int32), 41 = t + k → k < fu →
    ∃ K', f_X7_putAside_2_r F st fu K (nI t) = some K' ∧ (∀ s, t ≤ s → s < 41 → K' s = st s) ∧ ∀ i, i < t → K' i = K i := by
  intro k
  induction k with
  | zero =>
    intro t fu K h1 h2
    obtain ⟨fu, rfl⟩ : ∃ q, fu = q + 1 := ⟨fu - 1, by omega⟩
    refine ⟨K, ?_, fun s h3 h4 => by omega, fun i _ => rfl⟩
    show f_X7_putAside_2 F _ _ _ _ = _
    unfold f_X7_putAside_2
    simp (disch := omega) only [fl32, nI_add, pk_mul, pk_rem, nI_clamp, gdI, gdZ, gdB0, gdB1, nI_leI, nI_ltI, nI_eq, if_pos, if_neg, Option.bind_some, pk_us, pk_un, nn_eq, nn_le, nn_lt, nl_eq, if_true, if_false, eq_self, nl_le]
  | succ k ih =>
    intro t fu K h1 h2
    obtain ⟨fu, rfl⟩ : ∃ q, fu = q + 1 := ⟨fu - 1, by omega⟩
    obtain ⟨K', e1, e2, e3⟩ := ih (t + 1) fu (upd K t (st t)) (by omega) (by omega)
    refine ⟨K', ?_, fun s h3 h4 => ?_, fun i hi => ?_⟩
    · show f_X7_putAside_2 F _ _ _ _ = _
      unfold f_X7_putAside_2
      simp (disch := omega) only [fl32, nI_add, pk_mul, pk_rem, nI_clamp, gdI, gdZ, gdB0, gdB1, nI_leI, nI_ltI, nI_eq, if_pos, if_neg, Option.bind_some, pk_us, pk_un, nn_eq, nn_le, nn_lt, nl_eq, if_true, if_false, eq_self, nl_le]
      exact e1
    · by_cases c : s = t
      · rw [e3 _ (by omega), c, pk_us]
      · exact e2 s (by omega) h4
    · rw [e3 i (by omega), pk_un (by omega)]
theorem s_putAside {F : Nat} (hF : 100000 ≤ F) (st K : Nat → Int32) : ∃ K', f_X7_putAside F st K = some K' ∧ ∀ s, s < 41 → K' s = st s := by
  obtain ⟨K', e1, e2, -⟩ := s_aside (F := F) (st := st) 41 0 F K (by omega) (by omega)
  exact ⟨K', e1, fun s hs => e2 s (by omega) hs⟩
theorem s_back {F : Nat} {aside : Nat → Int32} : ∀ (k t fu : Nat) (K : Nat → Int32), 41 = t + k → k < fu →
    ∃ K', f_X7_takeBack_2_r F aside fu K (nI t) = some K' ∧ (∀ s, t ≤ s → s < 41 → K' s = aside s) ∧ ∀ i, i < t → K' i = K i := by
  intro k
  induction k with
  | zero =>
    intro t fu K h1 h2
    obtain ⟨fu, rfl⟩ : ∃ q, fu = q + 1 := ⟨fu - 1, by omega⟩
    refine ⟨K, ?_, fun s h3 h4 => by omega, fun i _ => rfl⟩
    show f_X7_takeBack_2 F _ _ _ _ = _
    unfold f_X7_takeBack_2
    simp (disch := omega) only [fl32, nI_add, pk_mul, pk_rem, nI_clamp, gdI, gdZ, gdB0, gdB1, nI_leI, nI_ltI, nI_eq, if_pos, if_neg, Option.bind_some, pk_us, pk_un, nn_eq, nn_le, nn_lt, nl_eq, if_true, if_false, eq_self, nl_le]
  | succ k ih =>
    intro t fu K h1 h2
    obtain ⟨fu, rfl⟩ : ∃ q, fu = q + 1 := ⟨fu - 1, by omega⟩
    obtain ⟨K', e1, e2, e3⟩ := ih (t + 1) fu (upd K t (aside t)) (by omega) (by omega)
    refine ⟨K', ?_, fun s h3 h4 => ?_, fun i hi => ?_⟩
    · show f_X7_takeBack_2 F _ _ _ _ = _
      unfold f_X7_takeBack_2
      simp (disch := omega) only [fl32, nI_add, pk_mul, pk_rem, nI_clamp, gdI, gdZ, gdB0, gdB1, nI_leI, nI_ltI, nI_eq, if_pos, if_neg, Option.bind_some, pk_us, pk_un, nn_eq, nn_le, nn_lt, nl_eq, if_true, if_false, eq_self, nl_le]
      exact e1
    · by_cases c : s = t
      · rw [e3 _ (by omega), c, pk_us]
      · exact e2 s (by omega) h4
    · rw [e3 i (by omega), pk_un (by omega)]
theorem s_takeBk {F : Nat} (hF : 100000 ≤ F) (aside K : Nat → Int32) : ∃ K', f_X7_takeBack F aside K = some K' ∧ ∀ s, s < 41 → K' s = aside s := by
  obtain ⟨K', e1, e2, -⟩ := s_back (F := F) (aside := aside) 41 0 F K (by omega) (by omega)
  exact ⟨K', e1, fun s hs => e2 s (by omega) hs⟩
theorem land_st {things may fee day cost : Int32} {kind was by_ price side is_ : Nat → Int32} {many next : Int32} {kept : Nat → Int32} {isThere : Int32} {st st' : Nat → Int32} {actMany : Int32} {acts : Nat → Int32} (hL : ILand things may fee day cost kind was by_ price side is_ many next kept isThere st actMany acts) (h : ∀ j, j < 41 → st' j = st j) : ILand things may fee day cost kind was by_ price side is_ many next kept isThere st' actMany acts := by
  obtain ⟨A, hO, hC, hM, h4, hth, hI⟩ := hL
  exact ⟨A, hO, hC, fun j hj hj4 => (h j hj).trans (hM j hj hj4), (h 4 (by omega)).trans h4, hth, hI⟩
theorem rm_st {A : Nat → Nat} {st st' : Nat → Int32} (hM : RpM A st) (h : ∀ j, j < 41 → st' j = st j) : RpM A st' := fun j hj hj4 => (h j hj).trans (hM j hj hj4)
theorem s_beg {F n : Nat} {d : Int32} {lis : Nat → Int32} (hn : n ≤ 6) : ∀ (k t fu : Nat) (day : Int32) (K : Nat → Int32), n = t + k → k < fu →
    ∃ K', f_X2_beginNow_13_r F (nI n) d lis fu day K (nI t) = some (day, K') ∧ (∀ s, t ≤ s → s < n → K' s = lis s) ∧ ∀ i, i < t → K' i = K i := by
  intro k
  induction k with
  | zero =>
    intro t fu day K h1 h2
    obtain ⟨fu, rfl⟩ : ∃ q, fu = q + 1 := ⟨fu - 1, by omega⟩
    refine ⟨K, ?_, fun s h3 h4 => by omega, fun i _ => rfl⟩
    show f_X2_beginNow_13 F _ _ _ _ _ _ _ = _
    unfold f_X2_beginNow_13
    simp (disch := omega) only [fl32, nI_add, pk_mul, pk_rem, nI_clamp, gdI, gdZ, gdB0, gdB1, nI_leI, nI_ltI, nI_eq, if_pos, if_neg, Option.bind_some, pk_us, pk_un, nn_eq, nn_le, nn_lt, nl_eq, if_true, if_false, eq_self, nl_le]
  | succ k ih =>
    intro t fu day K h1 h2
    obtain ⟨fu, rfl⟩ : ∃ q, fu = q + 1 := ⟨fu - 1, by omega⟩
    obtain ⟨K', e1, e2, e3⟩ := ih (t + 1) fu day (upd K t (lis t)) (by omega) (by omega)
    refine ⟨K', ?_, fun s h3 h4 => ?_, fun i hi => ?_⟩
    · show f_X2_beginNow_13 F _ _ _ _ _ _ _ = _
      unfold f_X2_beginNow_13
      simp (disch := omega) only [fl32, nI_add, pk_mul, pk_rem, nI_clamp, gdI, gdZ, gdB0, gdB1, nI_leI, nI_ltI, nI_eq, if_pos, if_neg, Option.bind_some, pk_us, pk_un, nn_eq, nn_le, nn_lt, nl_eq, if_true, if_false, eq_self, nl_le]
      exact e1
    · by_cases c : s = t
      · rw [e3 _ (by omega), c, pk_us]
      · exact e2 s (by omega) h4
    · rw [e3 i (by omega), pk_un (by omega)]
theorem s_begin {F : Nat} (hF : 100000 ≤ F) {A : Nat → Nat} {things may fee day : Int32} {kind was by_ price side is_ : Nat → Int32} (hn : A 2 ≤ 6) (hC : RpC A things may fee day kind was by_ price side is_) (d0 : Int32) (K : Nat → Int32) : ∃ is', f_X2_beginNow F things day is_ d0 K = some (day, is') ∧ RpC A things may fee day kind was by_ price side is' := by
  obtain ⟨rfl, h2, h3, h4, hc⟩ := hC
  obtain ⟨K', e1, e2, -⟩ := s_beg (F := F) (n := A 2) (d := day) (lis := is_) hn (A 2) 0 F day K (by omega) (by omega)
  exact ⟨K', e1, rfl, h2, h3, h4, fun t ht => ⟨(hc t ht).1, (hc t ht).2.1, (hc t ht).2.2.1, (hc t ht).2.2.2.1, (hc t ht).2.2.2.2.1, (e2 t (by omega) ht).trans (hc t ht).2.2.2.2.2⟩⟩
/-- a day of one thing, two of the one that is in haste -/
def vH (h : Int32) (A : Nat → Nat) (s : Nat) : Nat := if nI s = h then dN (A (5 + s)) (A (17 + s)) (dN (A (5 + s)) (A (17 + s)) (A (35 + s)) (A 3)) (A 3) else dN (A (5 + s)) (A (17 + s)) (A (35 + s)) (A 3)
theorem s_ps {F : Nat} {A : Nat → Nat} {h : Int32} {kind by_ : Nat → Int32} (hT : OkT A) (hd : A 3 < 900000) (hk : ∀ t, t < A 2 → kind t = nI (A (5 + t))) (hb : ∀ t, t < A 2 → by_ t = nI (A (17 + t))) : ∀ (k t fu : Nat) (is_ : Nat → Int32), A 2 = t + k → k < fu → (∀ s, s < t → is_ s = nI (vH h A s)) → (∀ s, t ≤ s → s < A 2 → is_ s = nI (A (35 + s))) → ∃ is', f_X2_passDay_2_r F (nI (A 2)) kind by_ fu (nI (A 3)) is_ h (nI t) = some (nI (A 3 + 1), is') ∧ (∀ s, s < A 2 → is' s = nI (vH h A s)) := by
  have hn := hT.1
  intro k
  induction k with
  | zero =>
    intro t fu is_ h1 h2 hi hj
    obtain ⟨fu, rfl⟩ : ∃ q, fu = q + 1 := ⟨fu - 1, by omega⟩
    refine ⟨is_, ?_, fun s hs => hi s (by omega)⟩
    show f_X2_passDay_2 F _ _ _ _ _ _ _ _ = _
    unfold f_X2_passDay_2
    simp (disch := omega) only [fl32, nI_add, pk_mul, pk_rem, nI_clamp, gdI, gdZ, gdB0, gdB1, nI_leI, nI_ltI, nI_eq, if_pos, if_neg, Option.bind_some, pk_us, pk_un, nn_eq, nn_le, nn_lt, nl_eq, if_true, if_false, eq_self, nl_le]
  | succ k ih =>
    intro t fu is_ h1 h2 hi hj
    obtain ⟨fu, rfl⟩ : ∃ q, fu = q + 1 := ⟨fu - 1, by omega⟩
    have hit := hj t (by omega) (by omega)
    obtain ⟨b1, b2, b3, b4, b5, b6, b7, b8, b9⟩ := hT.2.2.2 t (by omega)
    have hch := s_dayOn (F := F) (i := A (35 + t)) (d := A 3) (show t < 6 by omega) (hk t (by omega)) (hb t (by omega)) b1 b2 b4 b5 b9 (by omega)
    have hch2 := s_dayOn (F := F) (i := dN (A (5 + t)) (A (17 + t)) (A (35 + t)) (A 3)) (d := A 3) (show t < 6 by omega) (hk t (by omega)) (hb t (by omega)) b1 b2 b4 b5 (dN_le b9) (by omega)
    by_cases ch : nI t = h
    · have ev : vH h A t = dN (A (5 + t)) (A (17 + t)) (dN (A (5 + t)) (A (17 + t)) (A (35 + t)) (A 3)) (A 3) := if_pos ch
      obtain ⟨is', g1, g2⟩ := ih (t + 1) fu (upd (upd is_ t (nI (dN (A (5 + t)) (A (17 + t)) (A (35 + t)) (A 3)))) t (nI (vH h A t))) (by omega) (by omega) (fun s hs => by
        by_cases c : s = t
        · rw [c, pk_us]
        · rw [pk_un c, pk_un c]; exact hi s (by omega)) (fun s h3 h4 => by rw [pk_un (by omega), pk_un (by omega)]; exact hj s (by omega) h4)
      refine ⟨is', ?_, g2⟩
      rw [ev] at g1
      show f_X2_passDay_2 F _ _ _ _ _ _ _ _ = _
      unfold f_X2_passDay_2 f_X2_passDay_66
      simp (disch := omega) only [fl32, gdI, nI_clamp, nI_leI, if_neg, hit, hch, Option.bind_some]
      rw [if_pos ch]
      simp (disch := omega) only [pk_us, hch2, Option.bind_some, nI_add]
      exact g1
    · have ev : vH h A t = dN (A (5 + t)) (A (17 + t)) (A (35 + t)) (A 3) := if_neg ch
      obtain ⟨is', g1, g2⟩ := ih (t + 1) fu (upd is_ t (nI (vH h A t))) (by omega) (by omega) (fun s hs => by
        by_cases c : s = t
        · rw [c, pk_us]
        · rw [pk_un c]; exact hi s (by omega)) (fun s h3 h4 => by rw [pk_un (by omega)]; exact hj s (by omega) h4)
      refine ⟨is', ?_, g2⟩
      rw [ev] at g1
      show f_X2_passDay_2 F _ _ _ _ _ _ _ _ = _
      unfold f_X2_passDay_2 f_X2_passDay_66
      simp (disch := omega) only [fl32, gdI, nI_clamp, nI_leI, if_neg, hit, hch, Option.bind_some]
      simp only [nI_add]
      exact g1
theorem s_passH {F : Nat} (hF : 100000 ≤ F) {A : Nat → Nat} {h : Int32} {kind by_ is_ : Nat → Int32} (hT : OkT A) (hd : A 3 < 900000) (hk : ∀ t, t < A 2 → kind t = nI (A (5 + t))) (hb : ∀ t, t < A 2 → by_ t = nI (A (17 + t))) (hi : ∀ s, s < A 2 → is_ s = nI (A (35 + s))) : ∃ is', f_X2_passDay F h (nI (A 2)) kind by_ (nI (A 3)) is_ = some (nI (A 3 + 1), is') ∧ (∀ s, s < A 2 → is' s = nI (vH h A s)) := by
  have hn := hT.1
  exact s_ps hT hd hk hb (A 2) 0 F is_ (by omega) (by omega) (fun s hs => by omega) (fun s _ hs => hi s hs)
theorem rc_day {A : Nat → Nat} {things may fee day : Int32} {kind was by_ price side is_ is' : Nat → Int32} (hT : OkT A) (hC : RpC A things may fee day kind was by_ price side is_) (hi : ∀ s, s < A 2 → is' s = nI (dayA A (35 + s))) : RpC (dayA A) things may fee (nI (A 3 + 1)) kind was by_ price side is' := by
  have hn := hT.1
  have e2 : dayA A 2 = A 2 := dayA_lo (by omega) (by omega)
  obtain ⟨h1, h2, h3, h4, hc⟩ := hC
  refine ⟨by rw [e2]; exact h1, by rw [dayA_lo (by omega) (by omega)]; exact h2, by rw [dayA_lo (by omega) (by omega)]; exact h3, by rw [dayA_3], fun s hs => ?_⟩
  rw [e2] at hs
  obtain ⟨d1, d2, d3, d4, d5, d6⟩ := hc s hs
  rw [dayA_lo (show 5 + s < 35 by omega) (by omega), dayA_lo (show 11 + s < 35 by omega) (by omega), dayA_lo (show 17 + s < 35 by omega) (by omega), dayA_lo (show 23 + s < 35 by omega) (by omega), dayA_lo (show 29 + s < 35 by omega) (by omega)]
  exact ⟨d1, d2, d3, d4, d5, hi s hs⟩
theorem nI_nm {s k : Nat} (h : s < 2147483648) (h0 : 0 < k) (hk : k < 2147483648) : ¬ nI s = -nI k := by
  rw [nn_eq h h0 hk]; exact id
theorem s_pass {F : Nat} (hF : 100000 ≤ F) {A : Nat → Nat} {things may fee day : Int32} {kind was by_ price side is_ : Nat → Int32} (hT : OkT A) (hd : A 3 < 900000) (hC : RpC A things may fee day kind was by_ price side is_) : ∃ day' is', f_X2_passDay F (-1) things kind by_ day is_ = some (day', is') ∧ RpC (dayA A) things may fee day' kind was by_ price side is' := by
  have hn := hT.1
  have hC0 := hC
  obtain ⟨rfl, h2, h3, rfl, hc⟩ := hC
  obtain ⟨is', e1, e2⟩ := s_passH (F := F) hF (h := -1) hT hd (fun t ht => (hc t ht).1) (fun t ht => (hc t ht).2.2.1) (fun t ht => (hc t ht).2.2.2.2.2)
  refine ⟨_, is', e1, rc_day hT hC0 (fun s hs => ?_)⟩
  rw [e2 s hs, dayA_at hs]
  unfold vH
  rw [if_neg (show ¬ nI s = -1 from nI_nm (k := 1) (by omega) (by omega) (by omega))]
theorem w_all2 {F : Nat} (hF : 100000 ≤ F) {A : Nat → Nat} {things may fee day : Int32} {kind was by_ price side is_ : Nat → Int32} (hT : OkT A) (hC : RpC A things may fee day kind was by_ price side is_) : f_X2_allOff F things was is_ = some (nI (allN A)) := by
  rw [hC.1]; exact s_allOff2' hF hT (fun t ht => (hC.2.2.2.2 t ht).2.1) (fun t ht => (hC.2.2.2.2 t ht).2.2.2.2.2)
theorem s_ahead {F n t : Nat} {A : Nat → Nat} {st kind by_ lis : Nat → Int32} (hM : RpM A st) (hT : OkT A) (ht : t < A 2) (hd : A 3 ≤ 999) (hk : kind t = nI (A (5 + t))) (hb : by_ t = nI (A (17 + t))) (hn60 : n ≤ 60) : ∀ (k s fu fu2 i : Nat), n = s + k → k < fu → k < fu2 → i ≤ 99 →
    ∃ r, f_X2_isBehind_13_r F (nI (A 3)) kind by_ lis fu (nI t) (nI n) (nI i) (nI s) = some r ∧ f_X7_ahead_36_r F st fu2 (nI t) (nI n) (nI i) (nI s) = some r := by
  have hn := hT.1
  have e3 := hM 3 (by omega) (by omega)
  obtain ⟨b1, b2, b3, b4, b5, b6, b7, b8, b9⟩ := hT.2.2.2 t ht
  intro k
  induction k with
  | zero =>
    intro s fu fu2 i h1 h2 h3 hi
    obtain ⟨fu, rfl⟩ : ∃ q, fu = q + 1 := ⟨fu - 1, by omega⟩
    obtain ⟨fu2, rfl⟩ : ∃ q, fu2 = q + 1 := ⟨fu2 - 1, by omega⟩
    refine ⟨nI i, ?_, ?_⟩
    · show f_X2_isBehind_13 F _ _ _ _ _ _ _ _ _ = _
      unfold f_X2_isBehind_13
      simp (disch := omega) only [fl32, nI_add, pk_mul, pk_rem, nI_clamp, gdI, gdZ, gdB0, gdB1, nI_leI, nI_ltI, nI_eq, if_pos, if_neg, Option.bind_some, pk_us, pk_un, nn_eq, nn_le, nn_lt, nl_eq, if_true, if_false, eq_self, nl_le]
    · show f_X7_ahead_36 F _ _ _ _ _ _ = _
      unfold f_X7_ahead_36
      simp (disch := omega) only [fl32, nI_add, pk_mul, pk_rem, nI_clamp, gdI, gdZ, gdB0, gdB1, nI_leI, nI_ltI, nI_eq, if_pos, if_neg, Option.bind_some, pk_us, pk_un, nn_eq, nn_le, nn_lt, nl_eq, if_true, if_false, eq_self, nl_le]
  | succ k ih =>
    intro s fu fu2 i h1 h2 h3 hi
    obtain ⟨fu, rfl⟩ : ∃ q, fu = q + 1 := ⟨fu - 1, by omega⟩
    obtain ⟨fu2, rfl⟩ : ∃ q, fu2 = q + 1 := ⟨fu2 - 1, by omega⟩
    have q3 := s_dayOn (F := F) (i := i) (d := A 3 + s) (show t < 6 by omega) hk hb b1 b2 b4 b5 hi (by omega)
    have q7 := s_changed (F := F) (i := i) (d := A 3 + s) hM (show t < 6 by omega) b1 b2 b4 b5 hi (by omega)
    obtain ⟨r, g1, g2⟩ := ih (s + 1) fu fu2 (dN (A (5 + t)) (A (17 + t)) i (A 3 + s)) (by omega) (by omega) (by omega) (dN_le hi)
    refine ⟨r, ?_, ?_⟩
    · show f_X2_isBehind_13 F _ _ _ _ _ _ _ _ _ = _
      unfold f_X2_isBehind_13
      simp (disch := omega) only [fl32, nI_add, pk_mul, pk_rem, nI_clamp, gdI, gdZ, gdB0, gdB1, nI_leI, nI_ltI, nI_eq, if_pos, if_neg, Option.bind_some, pk_us, pk_un, nn_eq, nn_le, nn_lt, nl_eq, if_true, if_false, eq_self, nl_le, q3]
      exact g1
    · show f_X7_ahead_36 F _ _ _ _ _ _ = _
      unfold f_X7_ahead_36
      simp (disch := omega) only [fl32, nI_add, pk_mul, pk_rem, nI_clamp, gdI, gdZ, gdB0, gdB1, nI_leI, nI_ltI, nI_eq, if_pos, if_neg, Option.bind_some, pk_us, pk_un, nn_eq, nn_le, nn_lt, nl_eq, if_true, if_false, eq_self, nl_le, q7, e3]
      exact g2
theorem k_ahead (F : Nat) (hF : 100000 ≤ F) (x1 x2 : Int32) {A : Nat → Nat} {st kind was by_ price side is_ : Nat → Int32} {things may fee day : Int32} (hO : OkA A) (hC : RpC A things may fee day kind was by_ price side is_) (hM : RpM A st) :
    ∃ r, f_X6_ahead F x1 x2 things day kind by_ is_ = some r ∧ f_X7_ahead F x1 x2 st = some r := by
  obtain ⟨rfl, rfl, rfl, rfl, hc⟩ := hC
  have e2 := hM 2 (by omega) (by omega)
  have hn := hO.1
  unfold f_X6_ahead f_X7_ahead f_X2_isBehind
  rcases thc x1 (A 2) hO.1 with ⟨g1, g2⟩ | ⟨t, ht, rfl, g1, g2⟩
  · rw [g1, g2 F st e2]
    exact ⟨_, rfl, rfl⟩
  rw [g1, g2 F st e2]
  rcases win x2 0 60 0 60 0 60 rfl rfl rfl rfl (by decide) (by decide) with ⟨e1, e2⟩ | ⟨n, -, hn60, rfl, e1, e2⟩
  · rw [e1, e2]
    exact ⟨_, rfl, rfl⟩
  rw [e1, e2]
  have q35 := hM (35 + t) (by omega) (by omega)
  have ci := (hc t ht).2.2.2.2.2
  obtain ⟨r, h1, h2⟩ := s_ahead (F := F) (n := n) (lis := is_) hM hO.T ht hO.2.2.2.1 (hc t ht).1 (hc t ht).2.2.1 hn60 n 0 F F (A (35 + t)) (by omega) (by omega) (by omega) (hO.2.2.2.2 t ht).2.2.2.2.2.2.2.2
  refine ⟨r, ?_, ?_⟩
  · simp (disch := omega) only [fl32, nI_add, pk_mul, pk_rem, nI_clamp, gdI, gdZ, gdB0, gdB1, nI_leI, nI_ltI, nI_eq, if_pos, if_neg, Option.bind_some, pk_us, pk_un, nn_eq, nn_le, nn_lt, nl_eq, if_true, if_false, eq_self, nl_le, ci]
    simp only [nI_0] at h1 ⊢
    rw [h1]; rfl
  · simp (disch := omega) only [fl32, nI_add, pk_mul, pk_rem, nI_clamp, gdI, gdZ, gdB0, gdB1, nI_leI, nI_ltI, nI_eq, if_pos, if_neg, Option.bind_some, pk_us, pk_un, nn_eq, nn_le, nn_lt, nl_eq, if_true, if_false, eq_self, nl_le, q35]
    exact h2
theorem s_offA {F n : Nat} (hF : 100000 ≤ F) {things may fee ld isThere : Int32} {kind was by_ price side lis aside : Nat → Int32} (hn60 : n ≤ 60) : ∀ (k s fu fu2 : Nat) (A : Nat → Nat) (day : Int32) (is_ st : Nat → Int32), n = s + k → k < fu → k < fu2 → OkT A → A 3 + k < 900000 → RpC A things may fee day kind was by_ price side is_ → RpM A st →
    ∃ r d' i' st', f_X2_allOffBehind_6_r F things ld kind was by_ lis fu day is_ (nI n) (nI s) = some (r, d', i') ∧ f_X7_offAhead_31_r F isThere fu2 st aside (nI n) (nI s) = some (r, st', aside) ∧ ∀ j, j < 41 → st' j = aside j := by
  intro k
  induction k with
  | zero =>
    intro s fu fu2 A day is_ st h1 h2 h3 hT hd hC hM
    obtain ⟨fu, rfl⟩ : ∃ q, fu = q + 1 := ⟨fu - 1, by omega⟩
    obtain ⟨fu2, rfl⟩ : ∃ q, fu2 = q + 1 := ⟨fu2 - 1, by omega⟩
    obtain ⟨K, k1, k2⟩ := s_takeBk (F := F) hF aside st
    have w2 := w_all2 (F := F) hF hT hC
    have w7 := s_allOff7' (F := F) hF hM hT
    refine ⟨nI (allN A), day, is_, K, ?_, ?_, k2⟩
    · show f_X2_allOffBehind_6 F _ _ _ _ _ _ _ _ _ _ _ = _
      unfold f_X2_allOffBehind_6
      simp (disch := omega) only [fl32, nI_add, pk_mul, pk_rem, nI_clamp, gdI, gdZ, gdB0, gdB1, nI_leI, nI_ltI, nI_eq, if_pos, if_neg, Option.bind_some, pk_us, pk_un, nn_eq, nn_le, nn_lt, nl_eq, if_true, if_false, eq_self, nl_le, w2]
    · show f_X7_offAhead_31 F _ _ _ _ _ _ = _
      unfold f_X7_offAhead_31
      simp (disch := omega) only [fl32, nI_add, pk_mul, pk_rem, nI_clamp, gdI, gdZ, gdB0, gdB1, nI_leI, nI_ltI, nI_eq, if_pos, if_neg, Option.bind_some, pk_us, pk_un, nn_eq, nn_le, nn_lt, nl_eq, if_true, if_false, eq_self, nl_le, w7, k1]
  | succ k ih =>
    intro s fu fu2 A day is_ st h1 h2 h3 hT hd hC hM
    obtain ⟨fu, rfl⟩ : ∃ q, fu = q + 1 := ⟨fu - 1, by omega⟩
    obtain ⟨fu2, rfl⟩ : ∃ q, fu2 = q + 1 := ⟨fu2 - 1, by omega⟩
    obtain ⟨day', is', p1, p2⟩ := s_pass hF hT (by omega) hC
    obtain ⟨st', m1, m2, -⟩ := s_oneDay hF hT (by omega) hM
    obtain ⟨r, d', i', st2, g1, g2, g3⟩ := ih (s + 1) fu fu2 (dayA A) day' is' st' (by omega) (by omega) (by omega) (dayA_ok hT) (by rw [dayA_3]; omega) p2 m2
    refine ⟨r, d', i', st2, ?_, ?_, g3⟩
    · show f_X2_allOffBehind_6 F _ _ _ _ _ _ _ _ _ _ _ = _
      unfold f_X2_allOffBehind_6
      simp (disch := omega) only [nI_leI, if_neg, p1, Option.bind_some]
      simp only [fl32, nI_add]
      exact g1
    · show f_X7_offAhead_31 F _ _ _ _ _ _ = _
      unfold f_X7_offAhead_31
      simp (disch := omega) only [fl32, nI_add, pk_mul, pk_rem, nI_clamp, gdI, gdZ, gdB0, gdB1, nI_leI, nI_ltI, nI_eq, if_pos, if_neg, Option.bind_some, pk_us, pk_un, nn_eq, nn_le, nn_lt, nl_eq, if_true, if_false, eq_self, nl_le, m1]
      exact g2
theorem k_offAhead (F : Nat) (hF : 100000 ≤ F) (x1 : Int32) {A : Nat → Nat} {st kind was by_ price side is_ : Nat → Int32} {things may fee day isThere : Int32} (hO : OkA A) (hC : RpC A things may fee day kind was by_ price side is_) (hM : RpM A st) (hth : isThere = (if A 2 = 0 then 0 else 1)) (fd : Int32) (fi aside : Nat → Int32) :
    ∃ r d' i' st' as', f_X6_offAhead F x1 things day kind was by_ is_ fd fi = some (r, d', i') ∧ f_X7_offAhead F x1 isThere st aside = some (r, st', as') ∧ ∀ j, j < 41 → st' j = st j := by
  have hn := hO.1
  have hd := hO.2.2.2.1
  unfold f_X6_offAhead f_X7_offAhead f_X2_allOffBehind
  rcases thereC hO.1 hth with ⟨-, g1, g2⟩ | ⟨-, g1, g2⟩
  · rw [← hC.1] at g1
    rw [if_pos g1, if_pos g2]
    exact ⟨_, _, _, _, _, rfl, rfl, fun _ _ => rfl⟩
  rw [← hC.1] at g1
  rw [if_neg g1, if_neg g2]
  rcases win x1 0 60 0 60 0 60 rfl rfl rfl rfl (by decide) (by decide) with ⟨e1, e2⟩ | ⟨n, -, hn60, rfl, e1, e2⟩
  · rw [e1, e2]
    exact ⟨_, _, _, _, _, rfl, rfl, fun _ _ => rfl⟩
  rw [e1, e2]
  obtain ⟨K, k1, k2⟩ := s_putAside (F := F) hF st aside
  obtain ⟨is', b1, b2⟩ := s_begin (F := F) hF hn hC fd fi
  obtain ⟨r, d', i', st', h1, h2, h3⟩ := s_offA (F := F) (n := n) hF (ld := day) (lis := is_) (isThere := isThere) (aside := K) hn60 n 0 F F A day is' st (by omega) (by omega) (by omega) hO.T (by omega) b2 hM
  simp only [Option.bind_some, if_neg one_ne, b1, k1]
  rw [show (0 : Int32) = nI 0 from rfl, h1, h2]
  exact ⟨r, d', i', st', K, rfl, rfl, fun j hj => (h3 j hj).trans (k2 j hj)⟩
