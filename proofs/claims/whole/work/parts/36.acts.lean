/-! what is done to a land -/
def dayA (A : Nat → Nat) : Nat → Nat := fun j => if j = 3 then A 3 + 1 else if 35 ≤ j ∧ j < 35 + A 2 then dN (A (j - 30)) (A (j - 18)) (A j) (A 3) else A j
def dAt (t : Nat) (A : Nat → Nat) : Nat → Nat := fun j => if 35 ≤ j ∧ j < 35 + t then dN (A (j - 30)) (A (j - 18)) (A j) (A 3) else A j
theorem dAt_lo {t j : Nat} {A : Nat → Nat} (h : j < 35) : dAt t A j = A j := if_neg (by omega)
theorem dAt_hi {t j : Nat} {A : Nat → Nat} (h : 35 + t ≤ j) : dAt t A j = A j := if_neg (by omega)
theorem dayA_3 {A : Nat → Nat} : dayA A 3 = A 3 + 1 := if_pos rfl
theorem dayA_lo {j : Nat} {A : Nat → Nat} (h : j < 35) (h3 : j ≠ 3) : dayA A j = A j := by unfold dayA; rw [if_neg h3, if_neg (by omega)]
theorem dayA_at {t : Nat} {A : Nat → Nat} (h : t < A 2) : dayA A (35 + t) = dN (A (5 + t)) (A (17 + t)) (A (35 + t)) (A 3) := by
  unfold dayA
  rw [if_neg (by omega), if_pos (by omega), show 35 + t - 30 = 5 + t from by omega, show 35 + t - 18 = 17 + t from by omega]
theorem dAt_at {t u : Nat} {A : Nat → Nat} (h : t < u) : dAt u A (35 + t) = dN (A (5 + t)) (A (17 + t)) (A (35 + t)) (A 3) := by
  unfold dAt
  rw [if_pos (by omega), show 35 + t - 30 = 5 + t from by omega, show 35 + t - 18 = 17 + t from by omega]
theorem dayA_ok {A : Nat → Nat} (h : OkT A) : OkT (dayA A) := by
  obtain ⟨h1, h2, h3, h4⟩ := h
  have e2 : dayA A 2 = A 2 := dayA_lo (by omega) (by omega)
  refine ⟨by rw [e2]; exact h1, by rw [dayA_lo (by omega) (by omega)]; exact h2, by rw [dayA_lo (by omega) (by omega)]; exact h3, fun t ht => ?_⟩
  rw [e2] at ht
  have := h4 t ht
  rw [dayA_lo (show 5 + t < 35 by omega) (by omega), dayA_lo (show 11 + t < 35 by omega) (by omega), dayA_lo (show 17 + t < 35 by omega) (by omega), dayA_lo (show 23 + t < 35 by omega) (by omega), dayA_lo (show 29 + t < 35 by omega) (by omega), dayA_at ht]
  exact ⟨this.1, this.2.1, this.2.2.1, this.2.2.2.1, this.2.2.2.2.1, this.2.2.2.2.2.1, this.2.2.2.2.2.2.1, this.2.2.2.2.2.2.2.1, dN_le this.2.2.2.2.2.2.2.2⟩
theorem s_day7 {F : Nat} {A : Nat → Nat} (hT : OkT A) (hd : A 3 < 900000) : ∀ (k t fu : Nat) (st : Nat → Int32), A 2 = t + k → k < fu → RpM (dAt t A) st → ∃ st', f_X7_oneDay_2_r F fu st (nI t) = some st' ∧ RpM (dayA A) st' ∧ st' 4 = st 4 := by
  have hn := hT.1
  intro k
  induction k with
  | zero =>
    intro t fu st h1 h2 hM
    obtain ⟨fu, rfl⟩ : ∃ q, fu = q + 1 := ⟨fu - 1, by omega⟩
    have e2 := hM 2 (by omega) (by omega)
    have e3 := hM 3 (by omega) (by omega)
    rw [dAt_lo (by omega)] at e2 e3
    refine ⟨upd st 3 (nI (A 3 + 1)), ?_, fun j hj h4 => ?_, pk_un (by omega)⟩
    · show f_X7_oneDay_2 F _ _ _ = _
      unfold f_X7_oneDay_2
      simp (disch := omega) only [fl32, nI_add, pk_mul, pk_rem, nI_clamp, gdI, gdZ, gdB0, gdB1, nI_leI, nI_ltI, nI_eq, if_pos, if_neg, Option.bind_some, pk_us, pk_un, nn_eq, nn_le, nn_lt, nl_eq, if_true, if_false, eq_self, nl_le, e2, e3]
    · by_cases c : j = 3
      · rw [c, pk_us, dayA_3]
      · rw [pk_un c, hM j hj h4]
        unfold dayA dAt
        rw [if_neg c, show t = A 2 from by omega]
  | succ k ih =>
    intro t fu st h1 h2 hM
    obtain ⟨fu, rfl⟩ : ∃ q, fu = q + 1 := ⟨fu - 1, by omega⟩
    have e2 := hM 2 (by omega) (by omega)
    have e3 := hM 3 (by omega) (by omega)
    have e35 := hM (35 + t) (by omega) (by omega)
    rw [dAt_lo (by omega)] at e2 e3
    rw [dAt_hi (by omega)] at e35
    obtain ⟨b1, b2, b3, b4, b5, b6, b7, b8, b9⟩ := hT.2.2.2 t (by omega)
    have hch := s_changed (F := F) (i := A (35 + t)) (d := A 3) hM (show t < 6 by omega) (by rw [dAt_lo (by omega)]; exact b1) (by rw [dAt_lo (by omega)]; exact b2) (by rw [dAt_lo (by omega)]; exact b4) (by rw [dAt_lo (by omega)]; exact b5) b9 (by omega)
    rw [dAt_lo (show 5 + t < 35 by omega), dAt_lo (show 17 + t < 35 by omega)] at hch
    obtain ⟨st', g1, g2, g3⟩ := ih (t + 1) fu (upd st (35 + t) (nI (dN (A (5 + t)) (A (17 + t)) (A (35 + t)) (A 3)))) (by omega) (by omega) (fun j hj h4 => by
      by_cases c : j = 35 + t
      · rw [c, pk_us, dAt_at (by omega)]
      · rw [pk_un c, hM j hj h4]
        unfold dAt
        by_cases c2 : 35 ≤ j ∧ j < 35 + t
        · rw [if_pos c2, if_pos (by omega)]
        · rw [if_neg c2, if_neg (by omega)])
    refine ⟨st', ?_, g2, by rw [g3]; exact pk_un (by omega)⟩
    show f_X7_oneDay_2 F _ _ _ = _
    unfold f_X7_oneDay_2
    simp (disch := omega) only [fl32, nI_add, pk_mul, pk_rem, nI_clamp, gdI, gdZ, gdB0, gdB1, nI_leI, nI_ltI, nI_eq, if_pos, if_neg, Option.bind_some, pk_us, pk_un, nn_eq, nn_le, nn_lt, nl_eq, if_true, if_false, eq_self, nl_le, e2, e3, e35, hch]
    exact g1
theorem s_oneDay {F : Nat} (hF : 100000 ≤ F) {A : Nat → Nat} {st : Nat → Int32} (hT : OkT A) (hd : A 3 < 900000) (hM : RpM A st) : ∃ st', f_X7_oneDay F st = some st' ∧ RpM (dayA A) st' ∧ st' 4 = st 4 := by
  have hn := hT.1
  exact s_day7 hT hd (A 2) 0 F st (by omega) (by omega) (fun j hj h4 => by rw [hM j hj h4]; unfold dAt; rw [if_neg (by omega)])
theorem s_day3 {F : Nat} {A : Nat → Nat} {kind by_ : Nat → Int32} (hT : OkT A) (hd : A 3 < 900000) (hk : ∀ t, t < A 2 → kind t = nI (A (5 + t))) (hb : ∀ t, t < A 2 → by_ t = nI (A (17 + t))) : ∀ (k t fu : Nat) (is_ : Nat → Int32), A 2 = t + k → k < fu → (∀ s, s < A 2 → is_ s = nI (dAt t A (35 + s))) → ∃ is', f_X3_passDay_2_r F (nI (A 2)) kind by_ fu (nI (A 3)) is_ (nI t) = some (nI (A 3 + 1), is') ∧ (∀ s, s < A 2 → is' s = nI (dayA A (35 + s))) := by
  have hn := hT.1
  intro k
  induction k with
  | zero =>
    intro t fu is_ h1 h2 hi
    obtain ⟨fu, rfl⟩ : ∃ q, fu = q + 1 := ⟨fu - 1, by omega⟩
    refine ⟨is_, ?_, fun s hs => by rw [hi s hs, dAt_at (by omega), dayA_at hs]⟩
    show f_X3_passDay_2 F _ _ _ _ _ _ _ = _
    unfold f_X3_passDay_2
    simp (disch := omega) only [fl32, nI_add, pk_mul, pk_rem, nI_clamp, gdI, gdZ, gdB0, gdB1, nI_leI, nI_ltI, nI_eq, if_pos, if_neg, Option.bind_some, pk_us, pk_un, nn_eq, nn_le, nn_lt, nl_eq, if_true, if_false, eq_self, nl_le]
  | succ k ih =>
    intro t fu is_ h1 h2 hi
    obtain ⟨fu, rfl⟩ : ∃ q, fu = q + 1 := ⟨fu - 1, by omega⟩
    have hit := hi t (by omega)
    rw [dAt_hi (by omega)] at hit
    obtain ⟨b1, b2, b3, b4, b5, b6, b7, b8, b9⟩ := hT.2.2.2 t (by omega)
    have hch := s_dayOn (F := F) (i := A (35 + t)) (d := A 3) (show t < 6 by omega) (hk t (by omega)) (hb t (by omega)) b1 b2 b4 b5 b9 (by omega)
    obtain ⟨is', g1, g2⟩ := ih (t + 1) fu (upd is_ t (nI (dN (A (5 + t)) (A (17 + t)) (A (35 + t)) (A 3)))) (by omega) (by omega) (fun s hs => by
      by_cases c : s = t
      · rw [c, pk_us, dAt_at (by omega)]
      · rw [pk_un c, hi s hs]
        unfold dAt
        by_cases c2 : 35 ≤ 35 + s ∧ 35 + s < 35 + t
        · rw [if_pos c2, if_pos (by omega)]
        · rw [if_neg c2, if_neg (by omega)])
    refine ⟨is', ?_, g2⟩
    show f_X3_passDay_2 F _ _ _ _ _ _ _ = _
    unfold f_X3_passDay_2
    simp (disch := omega) only [fl32, nI_add, pk_mul, pk_rem, nI_clamp, gdI, gdZ, gdB0, gdB1, nI_leI, nI_ltI, nI_eq, if_pos, if_neg, Option.bind_some, pk_us, pk_un, nn_eq, nn_le, nn_lt, nl_eq, if_true, if_false, eq_self, nl_le, hit, hch]
    exact g1
theorem s_passDay {F : Nat} (hF : 100000 ≤ F) {A : Nat → Nat} {kind by_ is_ : Nat → Int32} (hT : OkT A) (hd : A 3 < 900000) (hk : ∀ t, t < A 2 → kind t = nI (A (5 + t))) (hb : ∀ t, t < A 2 → by_ t = nI (A (17 + t))) (hi : ∀ t, t < A 2 → is_ t = nI (A (35 + t))) : ∃ is', f_X3_passDay F (nI (A 2)) kind by_ (nI (A 3)) is_ = some (nI (A 3 + 1), is') ∧ (∀ s, s < A 2 → is' s = nI (dayA A (35 + s))) := by
  have hn := hT.1
  exact s_day3 hT hd hk hb (A 2) 0 F is_ (by omega) (by omega) (fun s hs => by rw [hi s hs, dAt_hi (by omega)])
theorem s_days {F n : Nat} (hF : 100000 ≤ F) (hn24 : n ≤ 24) {cost : Int32} {fee isThere : Int32} {kind was by_ price side : Nat → Int32} : ∀ (k t fu fu2 : Nat) (A : Nat → Nat) (is_ : Nat → Int32) (many next : Int32) (kept : Nat → Int32) (actMany : Int32) (st acts : Nat → Int32), n = t + k → k < fu → k < fu2 → OkT A → A 3 + k ≤ 999 → RpC A (nI (A 2)) (nI (A 0)) fee (nI (A 3)) kind was by_ price side is_ → RpM A st → st 4 = cost → isThere = (if A 2 = 0 then 0 else 1) → IActs A many next kept actMany acts →
    ∃ (uc : Int32 × Int32 × (Nat → Int32) × Int32 × Int32 × (Nat → Int32)) (um : Int32 × Int32 × (Nat → Int32) × (Nat → Int32)), f_X6_days_46_r F (nI (A 2)) (nI (A 0)) cost kind was by_ fu (nI (A 3)) is_ many next kept (nI n) (nI t) = some uc ∧ f_X7_days_44_r F isThere fu2 actMany st acts (nI n) (nI t) = some um ∧ uc.1 = um.1 ∧ ILand (nI (A 2)) (nI (A 0)) fee uc.2.1 cost kind was by_ price side uc.2.2.1 uc.2.2.2.1 uc.2.2.2.2.1 uc.2.2.2.2.2 isThere um.2.2.1 um.2.1 um.2.2.2 := by
  intro k
  induction k with
  | zero =>
    intro t fu fu2 A is_ many next kept actMany st acts h1 h2 h3 hT hd hC hM h4 hth hI
    obtain ⟨fu, rfl⟩ : ∃ q, fu = q + 1 := ⟨fu - 1, by omega⟩
    obtain ⟨fu2, rfl⟩ : ∃ q, fu2 = q + 1 := ⟨fu2 - 1, by omega⟩
    have hO := OkA.of hT (by omega)
    have e7 := s_allOff7' hF hM hT
    have e3 := s_allOff3' hF hT (fun t ht => (hC.2.2.2.2 t ht).2.1) (fun t ht => (hC.2.2.2.2 t ht).2.2.2.2.2)
    refine ⟨(nI (allN A), nI (A 3), is_, many, next, kept), (nI (allN A), actMany, st, acts), ?_, ?_, rfl, A, hO, hC, hM, h4, hth, hI⟩
    · show f_X6_days_46 F _ _ _ _ _ _ _ _ _ _ _ _ _ _ = _
      unfold f_X6_days_46
      simp (disch := omega) only [fl32, nI_add, pk_mul, pk_rem, nI_clamp, gdI, gdZ, gdB0, gdB1, nI_leI, nI_ltI, nI_eq, if_pos, if_neg, Option.bind_some, pk_us, pk_un, nn_eq, nn_le, nn_lt, nl_eq, if_true, if_false, eq_self, nl_le, e3]
    · show f_X7_days_44 F _ _ _ _ _ _ _ = _
      unfold f_X7_days_44
      simp (disch := omega) only [fl32, nI_add, pk_mul, pk_rem, nI_clamp, gdI, gdZ, gdB0, gdB1, nI_leI, nI_ltI, nI_eq, if_pos, if_neg, Option.bind_some, pk_us, pk_un, nn_eq, nn_le, nn_lt, nl_eq, if_true, if_false, eq_self, nl_le, e7]
  | succ k ih =>
    intro t fu fu2 A is_ many next kept actMany st acts h1 h2 h3 hT hd hC hM h4 hth hI
    obtain ⟨fu, rfl⟩ : ∃ q, fu = q + 1 := ⟨fu - 1, by omega⟩
    obtain ⟨fu2, rfl⟩ : ∃ q, fu2 = q + 1 := ⟨fu2 - 1, by omega⟩
    have hO := OkA.of hT (by omega)
    have hn := hT.1
    have hc := hC.2.2.2.2
    obtain ⟨many', next', kept', acts', a1, a2, a3⟩ := acts_keep hF hO rfl rfl (fun t ht => (hc t ht).2.2.2.2.2) hM h4 hI
    obtain ⟨st', m1, m2, m3⟩ := s_oneDay hF hT (by omega) hM
    obtain ⟨is', c1, c2⟩ := s_passDay hF hT (by omega) (fun t ht => (hc t ht).1) (fun t ht => (hc t ht).2.2.1) (fun t ht => (hc t ht).2.2.2.2.2)
    have e2 : dayA A 2 = A 2 := dayA_lo (by omega) (by omega)
    have e0 : dayA A 0 = A 0 := dayA_lo (by omega) (by omega)
    have g := ih (t + 1) fu fu2 (dayA A) is' many' next' kept' many' st' acts' (by omega) (by omega) (by omega) (dayA_ok hT) (by rw [dayA_3]; omega) ⟨rfl, rfl, by rw [dayA_lo (by omega) (by omega)]; exact hC.2.2.1, rfl, fun s hs => by
      rw [e2] at hs
      obtain ⟨d1, d2, d3, d4, d5, d6⟩ := hc s hs
      rw [dayA_lo (show 5 + s < 35 by omega) (by omega), dayA_lo (show 11 + s < 35 by omega) (by omega), dayA_lo (show 17 + s < 35 by omega) (by omega), dayA_lo (show 23 + s < 35 by omega) (by omega), dayA_lo (show 29 + s < 35 by omega) (by omega)]
      exact ⟨d1, d2, d3, d4, d5, c2 s hs⟩⟩ m2 (by rw [m3]; exact h4) (by rw [e2]; exact hth) (a3 _ (fun i hi h0 h3 h4 => dayA_lo hi h3))
    rw [e2, e0, dayA_3] at g
    obtain ⟨uc, um, g1, g2, g3, g4⟩ := g
    refine ⟨uc, um, ?_, ?_, g3, g4⟩
    · show f_X6_days_46 F _ _ _ _ _ _ _ _ _ _ _ _ _ _ = _
      unfold f_X6_days_46
      simp (disch := omega) only [fl32, nI_add, pk_mul, pk_rem, nI_clamp, gdI, gdZ, gdB0, gdB1, nI_leI, nI_ltI, nI_eq, if_pos, if_neg, Option.bind_some, pk_us, pk_un, nn_eq, nn_le, nn_lt, nl_eq, if_true, if_false, eq_self, nl_le, a1, c1]
      exact g1
    · show f_X7_days_44 F _ _ _ _ _ _ _ = _
      unfold f_X7_days_44
      simp (disch := omega) only [fl32, nI_add, pk_mul, pk_rem, nI_clamp, gdI, gdZ, gdB0, gdB1, nI_leI, nI_ltI, nI_eq, if_pos, if_neg, Option.bind_some, pk_us, pk_un, nn_eq, nn_le, nn_lt, nl_eq, if_true, if_false, eq_self, nl_le, a2, m1]
      exact g2
theorem k_days (F : Nat) (hF : 100000 ≤ F) (x1 : Int32) {things may fee day cost : Int32} {kind was by_ price side is_ : Nat → Int32} {many next : Int32} {kept : Nat → Int32} {isThere : Int32} {st : Nat → Int32} {actMany : Int32} {acts : Nat → Int32} (hL : ILand things may fee day cost kind was by_ price side is_ many next kept isThere st actMany acts) :
    ∃ (uc : Int32 × Int32 × (Nat → Int32) × Int32 × Int32 × (Nat → Int32)) (um : Int32 × Int32 × (Nat → Int32) × (Nat → Int32)), f_X6_days F x1 things may cost kind was by_ day is_ many next kept = some uc ∧ f_X7_days F x1 isThere actMany st acts = some um ∧ uc.1 = um.1 ∧ ILand things may fee uc.2.1 cost kind was by_ price side uc.2.2.1 uc.2.2.2.1 uc.2.2.2.2.1 uc.2.2.2.2.2 isThere um.2.2.1 um.2.1 um.2.2.2 := by
  have hL0 := hL
  obtain ⟨A, hO, hC, hM, h4, hth, hI⟩ := hL
  unfold f_X6_days f_X7_days
  rcases thereC hO.1 hth with ⟨-, g1, g2⟩ | ⟨-, g1, g2⟩
  · rw [← hC.1] at g1
    rw [if_pos g1, if_pos g2]
    exact ⟨_, _, rfl, rfl, rfl, hL0⟩
  rw [← hC.1] at g1
  rw [if_neg g1, if_neg g2]
  rcases win x1 1 24 1 24 1 24 rfl rfl rfl rfl (by decide) (by decide) with ⟨e1, e2⟩ | ⟨n, hn1, hn, rfl, e1, e2⟩
  · rw [e1, e2]
    exact ⟨_, _, rfl, rfl, rfl, hL0⟩
  rw [e1, e2]
  have hd := hO.2.2.2.1
  have e3 := hM 3 (by omega) (by omega)
  obtain ⟨rfl, rfl, hf, rfl, hc⟩ := hC
  by_cases c : A 3 + n ≤ 999
  · obtain ⟨uc, um, q1, q2, q3, q4⟩ := s_days (F := F) hF hn n 0 F F A is_ many next kept actMany st acts (by omega) (by omega) (by omega) hO.T c ⟨rfl, rfl, hf, rfl, hc⟩ hM h4 hth hI
    refine ⟨uc, um, ?_, ?_, q3, q4⟩
    · simp (disch := omega) only [fl32, nI_add, pk_mul, pk_rem, nI_clamp, gdI, gdZ, gdB0, gdB1, nI_leI, nI_ltI, nI_eq, if_pos, if_neg, Option.bind_some, pk_us, pk_un, nn_eq, nn_le, nn_lt, nl_eq, if_true, if_false, eq_self, nl_le]
      exact q1
    · simp (disch := omega) only [fl32, nI_add, pk_mul, pk_rem, nI_clamp, gdI, gdZ, gdB0, gdB1, nI_leI, nI_ltI, nI_eq, if_pos, if_neg, Option.bind_some, pk_us, pk_un, nn_eq, nn_le, nn_lt, nl_eq, if_true, if_false, eq_self, nl_le, e3]
      exact q2
  · simp (disch := omega) only [fl32, nI_add, pk_mul, pk_rem, nI_clamp, gdI, gdZ, gdB0, gdB1, nI_leI, nI_ltI, nI_eq, if_pos, if_neg, Option.bind_some, pk_us, pk_un, nn_eq, nn_le, nn_lt, nl_eq, if_true, if_false, eq_self, nl_le, e3]
    exact ⟨_, _, rfl, rfl, rfl, hL0⟩
/-- another land of the same things -/
def Same (A A' : Nat → Nat) : Prop := ∀ j, j < 35 → j ≠ 0 → j ≠ 3 → j ≠ 4 → A' j = A j
theorem ok_same {A A' : Nat → Nat} (hO : OkA A) (hs : Same A A') (h0 : A' 0 ≤ 9) (h3 : A' 3 ≤ 999) (h35 : ∀ t, t < A 2 → A' (35 + t) ≤ 99) : OkA A' := by
  have e2 : A' 2 = A 2 := hs 2 (by omega) (by omega) (by omega) (by omega)
  have hn := hO.1
  refine ⟨by rw [e2]; exact hO.1, h0, by rw [hs 1 (by omega) (by omega) (by omega) (by omega)]; exact hO.2.2.1, h3, fun t ht => ?_⟩
  rw [e2] at ht
  have := hO.2.2.2.2 t ht
  rw [hs (5 + t) (by omega) (by omega) (by omega) (by omega), hs (11 + t) (by omega) (by omega) (by omega) (by omega), hs (17 + t) (by omega) (by omega) (by omega) (by omega), hs (23 + t) (by omega) (by omega) (by omega) (by omega), hs (29 + t) (by omega) (by omega) (by omega) (by omega)]
  exact ⟨this.1, this.2.1, this.2.2.1, this.2.2.2.1, this.2.2.2.2.1, this.2.2.2.2.2.1, this.2.2.2.2.2.2.1, this.2.2.2.2.2.2.2.1, h35 t ht⟩
theorem rc_same {A A' : Nat → Nat} {things may fee day may' day' : Int32} {kind was by_ price side is_ is' : Nat → Int32} (hO : OkA A) (hC : RpC A things may fee day kind was by_ price side is_) (hs : Same A A') (hm : may' = nI (A' 0)) (hd : day' = nI (A' 3)) (hi : ∀ t, t < A 2 → is' t = nI (A' (35 + t))) : RpC A' things may' fee day' kind was by_ price side is' := by
  have e2 : A' 2 = A 2 := hs 2 (by omega) (by omega) (by omega) (by omega)
  have hn := hO.1
  refine ⟨by rw [e2]; exact hC.1, hm, by rw [hs 1 (by omega) (by omega) (by omega) (by omega)]; exact hC.2.2.1, hd, fun t ht => ?_⟩
  rw [e2] at ht
  have := hC.2.2.2.2 t ht
  rw [hs (5 + t) (by omega) (by omega) (by omega) (by omega), hs (11 + t) (by omega) (by omega) (by omega) (by omega), hs (17 + t) (by omega) (by omega) (by omega) (by omega), hs (23 + t) (by omega) (by omega) (by omega) (by omega), hs (29 + t) (by omega) (by omega) (by omega) (by omega)]
  exact ⟨this.1, this.2.1, this.2.2.1, this.2.2.2.1, this.2.2.2.2.1, hi t ht⟩
def setA (A : Nat → Nat) (i v : Nat) : Nat → Nat := fun j => if j = i then v else A j
theorem setA_at {A : Nat → Nat} {i v : Nat} : setA A i v i = v := if_pos rfl
theorem setA_ne {A : Nat → Nat} {i j v : Nat} (h : j ≠ i) : setA A i v j = A j := if_neg h
theorem setA_rm {A : Nat → Nat} {i v : Nat} {st : Nat → Int32} (h : RpM A st) : RpM (setA A i v) (upd st i (nI v)) := fun j hj h4 => by
  by_cases c : j = i
  · rw [c, pk_us, setA_at]
  · rw [pk_un c, setA_ne c]; exact h j hj h4
theorem rm_4 {A : Nat → Nat} {v : Int32} {st : Nat → Int32} (h : RpM A st) : RpM A (upd st 4 v) := fun j hj h4 => by rw [pk_un h4]; exact h j hj h4
theorem k_putBack (F : Nat) (hF : 100000 ≤ F) (x1 : Int32) {things may fee day cost : Int32} {kind was by_ price side is_ : Nat → Int32} {many next : Int32} {kept : Nat → Int32} {isThere : Int32} {st : Nat → Int32} {actMany : Int32} {acts : Nat → Int32} (hL : ILand things may fee day cost kind was by_ price side is_ many next kept isThere st actMany acts) :
    ∃ (uc : Int32 × Int32 × (Nat → Int32) × Int32 × Int32 × (Nat → Int32)) (um : Int32 × Int32 × (Nat → Int32) × (Nat → Int32)), f_X6_putBack F x1 things may fee day kind was price cost is_ many next kept = some uc ∧ f_X7_putBack F x1 actMany st acts = some um ∧ uc.1 = um.1 ∧ ILand things may fee day uc.2.1 kind was by_ price side uc.2.2.1 uc.2.2.2.1 uc.2.2.2.2.1 uc.2.2.2.2.2 isThere um.2.2.1 um.2.1 um.2.2.2 := by
  have hL0 := hL
  obtain ⟨A, hO, ⟨rfl, rfl, rfl, rfl, hc⟩, hM, h4, hth, hI⟩ := hL
  have e2 := hM 2 (by omega) (by omega)
  unfold f_X6_putBack f_X7_putBack
  rcases thc x1 (A 2) hO.1 with ⟨g1, g2⟩ | ⟨t, ht, rfl, g1, g2⟩
  · rw [g1, g2 F st e2]
    exact ⟨_, _, rfl, rfl, rfl, hL0⟩
  rw [g1, g2 F st e2]
  have hn := hO.1
  have hO5 := hO.2.2.2.2
  obtain ⟨b1, b2, b3, b4, b5, b6, b7, b8, b9⟩ := hO5 t ht
  obtain ⟨c1, c2, c3, c4, c5, c6⟩ := hc t ht
  have ho := s_offOf (F := F) (show t < 6 by omega) c2 c6 (by omega) (by omega)
  have ho7 := s_off (F := F) hM (show t < 6 by omega) (by omega) (by omega)
  have hp3 := s_isPersonAt (F := F) (show t < 6 by omega) c1 b2
  have hp7 := s_isPeople (F := F) hM (show t < 6 by omega) b2
  have hcs := s_cost (F := F) (a := A (35 + t)) (fe := A 1) (show t < 6 by omega) c2 c4 (by omega) (by omega)
  have hpr := s_price (F := F) (a := A (35 + t)) hM (show t < 6 by omega) (by omega) (by omega)
  have q11 := hM (11 + t) (by omega) (by omega)
  have q35 := hM (35 + t) (by omega) (by omega)
  have hlt : df (A (35 + t)) (A (11 + t)) < 200000 := by unfold df; omega
  simp only [Option.bind_some, if_neg one_ne]
  by_cases c : 4 ≤ A (5 + t)
  · simp (disch := omega) only [fl32, nI_add, pk_mul, pk_rem, nI_clamp, gdI, gdZ, gdB0, gdB1, nI_leI, nI_ltI, nI_eq, if_pos, if_neg, Option.bind_some, pk_us, pk_un, nn_eq, nn_le, nn_lt, nl_eq, if_true, if_false, eq_self, nl_le, hp3, hp7]
    exact ⟨_, _, rfl, rfl, rfl, hL0⟩
  by_cases d : df (A (35 + t)) (A (11 + t)) = 0
  · simp (disch := omega) only [fl32, nI_add, pk_mul, pk_rem, nI_clamp, gdI, gdZ, gdB0, gdB1, nI_leI, nI_ltI, nI_eq, if_pos, if_neg, Option.bind_some, pk_us, pk_un, nn_eq, nn_le, nn_lt, nl_eq, if_true, if_false, eq_self, nl_le, hp3, hp7, ho, ho7]
    exact ⟨_, _, rfl, rfl, rfl, hL0⟩
  obtain ⟨many', next', kept', acts', a1, a2, a3⟩ := acts_keep hF hO rfl rfl (fun t ht => (hc t ht).2.2.2.2.2) hM h4 hI
  simp (disch := omega) only [fl32, nI_add, pk_mul, pk_rem, nI_clamp, gdI, gdZ, gdB0, gdB1, nI_leI, nI_ltI, nI_eq, if_pos, if_neg, Option.bind_some, pk_us, pk_un, nn_eq, nn_le, nn_lt, nl_eq, if_true, if_false, eq_self, nl_le, hp3, hp7, ho, ho7, a1, a2, c2, c6, q35, q11, hcs, hpr, h4]
  have hS : Same A (setA A (35 + t) (A (11 + t))) := fun j hj _ _ _ => setA_ne (by omega)
  have e35 : ∀ s, s < A 2 → upd is_ t (nI (A (11 + t))) s = nI (setA A (35 + t) (A (11 + t)) (35 + s)) := fun s hs => by
    by_cases c : s = t
    · rw [c, pk_us, setA_at]
    · rw [pk_un c, setA_ne (by omega)]; exact (hc s hs).2.2.2.2.2
  refine ⟨_, _, rfl, rfl, rfl, setA A (35 + t) (A (11 + t)), ok_same hO hS ?_ ?_ (fun s hs => ?_), rc_same hO ⟨rfl, rfl, rfl, rfl, hc⟩ hS ?_ ?_ e35, setA_rm (rm_4 hM), ?_, ?_, a3 _ hS⟩
  · rw [setA_ne (by omega)]; exact hO.2.1
  · rw [setA_ne (by omega)]; exact hO.2.2.2.1
  · by_cases c : s = t
    · rw [c, setA_at]; omega
    · rw [setA_ne (by omega)]; exact (hO5 s hs).2.2.2.2.2.2.2.2
  · rw [setA_ne (by omega)]
  · rw [setA_ne (by omega)]
  · show upd (upd st 4 _) (35 + t) _ 4 = _
    rw [pk_un (by omega), pk_us]
  · rw [hS 2 (by omega) (by omega) (by omega) (by omega)]; exact hth
theorem k_send (F : Nat) (hF : 100000 ≤ F) (x1 x2 : Int32) {things may fee day cost : Int32} {kind was by_ price side is_ : Nat → Int32} {many next : Int32} {kept : Nat → Int32} {isThere : Int32} {st : Nat → Int32} {actMany : Int32} {acts : Nat → Int32} (hL : ILand things may fee day cost kind was by_ price side is_ many next kept isThere st actMany acts) :
    ∃ (uc : Int32 × Int32 × (Nat → Int32) × Int32 × Int32 × (Nat → Int32)) (um : Int32 × Int32 × (Nat → Int32) × (Nat → Int32)), f_X6_send F x1 x2 things may fee day kind was cost is_ many next kept = some uc ∧ f_X7_send F x1 x2 actMany st acts = some um ∧ uc.1 = um.1 ∧ ILand things may fee day uc.2.1 kind was by_ price side uc.2.2.1 uc.2.2.2.1 uc.2.2.2.2.1 uc.2.2.2.2.2 isThere um.2.2.1 um.2.1 um.2.2.2 := by
  have hL0 := hL
  obtain ⟨A, hO, ⟨rfl, rfl, rfl, rfl, hc⟩, hM, h4, hth, hI⟩ := hL
  have e2 := hM 2 (by omega) (by omega)
  unfold f_X6_send f_X7_send
  rcases thc x1 (A 2) hO.1 with ⟨g1, g2⟩ | ⟨t, ht, rfl, g1, g2⟩
  · rw [g1, g2 F st e2]
    exact ⟨_, _, rfl, rfl, rfl, hL0⟩
  rw [g1, g2 F st e2]
  rcases thc x2 (A 2) hO.1 with ⟨g3, g4⟩ | ⟨s, hs, rfl, g3, g4⟩
  · rw [g3, g4 F st e2]
    exact ⟨_, _, rfl, rfl, rfl, hL0⟩
  rw [g3, g4 F st e2]
  have hn := hO.1
  have hO5 := hO.2.2.2.2
  simp only [Option.bind_some, if_neg one_ne]
  by_cases cts : t = s
  · simp (disch := omega) only [fl32, nI_add, pk_mul, pk_rem, nI_clamp, gdI, gdZ, gdB0, gdB1, nI_leI, nI_ltI, nI_eq, if_pos, if_neg, Option.bind_some, pk_us, pk_un, nn_eq, nn_le, nn_lt, nl_eq, if_true, if_false, eq_self, nl_le]
    exact ⟨_, _, rfl, rfl, rfl, hL0⟩
  have bt := hO5 t ht
  have bs := hO5 s hs
  obtain ⟨c1, c2, c3, c4, c5, c6⟩ := hc t ht
  obtain ⟨d1, d2, d3, d4, d5, d6⟩ := hc s hs
  have hp3 := s_isPersonAt (F := F) (show t < 6 by omega) c1 bt.2.1
  have hp7 := s_isPeople (F := F) hM (show t < 6 by omega) bt.2.1
  have hq3 := s_isPersonAt (F := F) (show s < 6 by omega) d1 bs.2.1
  have hq7 := s_isPeople (F := F) hM (show s < 6 by omega) bs.2.1
  by_cases ct : 4 ≤ A (5 + t)
  case neg =>
    simp (disch := omega) only [fl32, nI_add, pk_mul, pk_rem, nI_clamp, gdI, gdZ, gdB0, gdB1, nI_leI, nI_ltI, nI_eq, if_pos, if_neg, Option.bind_some, pk_us, pk_un, nn_eq, nn_le, nn_lt, nl_eq, if_true, if_false, eq_self, nl_le, hp3, hp7]
    exact ⟨_, _, rfl, rfl, rfl, hL0⟩
  by_cases cs : 4 ≤ A (5 + s)
  case neg =>
    simp (disch := omega) only [fl32, nI_add, pk_mul, pk_rem, nI_clamp, gdI, gdZ, gdB0, gdB1, nI_leI, nI_ltI, nI_eq, if_pos, if_neg, Option.bind_some, pk_us, pk_un, nn_eq, nn_le, nn_lt, nl_eq, if_true, if_false, eq_self, nl_le, hp3, hp7, hq3, hq7]
    exact ⟨_, _, rfl, rfl, rfl, hL0⟩
  obtain ⟨many', next', kept', acts', a1, a2, a3⟩ := acts_keep hF hO rfl rfl (fun t ht => (hc t ht).2.2.2.2.2) hM h4 hI
  have q1 := hM 1 (by omega) (by omega)
  have qt := hM (35 + t) (by omega) (by omega)
  have qs := hM (35 + s) (by omega) (by omega)
  have hB : RpM (setA (setA A (35 + t) (A (35 + s))) (35 + s) (A (35 + t))) (upd (upd (upd st (35 + t) (nI (A (35 + s)))) (35 + s) (nI (A (35 + t)))) 4 (cost + nI (A 1))) := rm_4 (setA_rm (setA_rm hM))
  have bt9 := bt.2.2.2.2.2.2.2.2
  have bs9 := bs.2.2.2.2.2.2.2.2
  have bt3 := bt.2.2.1
  have bs3 := bs.2.2.1
  have v1 : setA (setA A (35 + t) (A (35 + s))) (35 + s) (A (35 + t)) (35 + t) = A (35 + s) := by rw [setA_ne (by omega), setA_at]
  have v2 : setA (setA A (35 + t) (A (35 + s))) (35 + s) (A (35 + t)) (35 + s) = A (35 + t) := by rw [setA_at]
  have v3 : setA (setA A (35 + t) (A (35 + s))) (35 + s) (A (35 + t)) (11 + t) = A (11 + t) := by rw [setA_ne (by omega), setA_ne (by omega)]
  have v4 : setA (setA A (35 + t) (A (35 + s))) (35 + s) (A (35 + t)) (11 + s) = A (11 + s) := by rw [setA_ne (by omega), setA_ne (by omega)]
  have o1 := s_off (F := F) hB (show t < 6 by omega) (by omega) (by omega)
  have o2 := s_off (F := F) hB (show s < 6 by omega) (by omega) (by omega)
  rw [v1, v3] at o1
  rw [v2, v4] at o2
  have p1 := s_offOf (F := F) (a := A (35 + s)) (is_ := upd (upd is_ t (nI (A (35 + s)))) s (nI (A (35 + t)))) (show t < 6 by omega) c2 (by rw [pk_un cts, pk_us]) (by omega) (by omega)
  have p2 := s_offOf (F := F) (a := A (35 + t)) (is_ := upd (upd is_ t (nI (A (35 + s)))) s (nI (A (35 + t)))) (show s < 6 by omega) d2 pk_us (by omega) (by omega)
  have w4 : upd (upd st (35 + t) (nI (A (35 + s)))) (35 + s) (nI (A (35 + t))) 4 = cost := by rw [pk_un (by omega), pk_un (by omega)]; exact h4
  have w1 : upd (upd st (35 + t) (nI (A (35 + s)))) (35 + s) (nI (A (35 + t))) 1 = nI (A 1) := by rw [pk_un (by omega), pk_un (by omega)]; exact q1
  generalize hBB : setA (setA A (35 + t) (A (35 + s))) (35 + s) (A (35 + t)) = B at *
  have hS : Same A B := fun j hj _ _ _ => by rw [← hBB, setA_ne (by omega), setA_ne (by omega)]
  have e35 : ∀ r, r < A 2 → upd (upd is_ t (nI (A (35 + s)))) s (nI (A (35 + t))) r = nI (B (35 + r)) := fun r hr => by
    by_cases c : r = s
    · rw [c, pk_us, v2]
    · rw [pk_un c]
      by_cases c' : r = t
      · rw [c', pk_us, v1]
      · rw [pk_un c', ← hBB, setA_ne (by omega), setA_ne (by omega)]; exact (hc r hr).2.2.2.2.2
  refine ⟨(nI (df (A (35 + s)) (A (11 + t)) + df (A (35 + t)) (A (11 + s))), cost + nI (A 1), upd (upd is_ t (nI (A (35 + s)))) s (nI (A (35 + t))), many', next', kept'), (nI (df (A (35 + s)) (A (11 + t)) + df (A (35 + t)) (A (11 + s))), many', upd (upd (upd st (35 + t) (nI (A (35 + s)))) (35 + s) (nI (A (35 + t)))) 4 (cost + nI (A 1)), acts'), ?_, ?_, rfl, B, ok_same hO hS ?_ ?_ (fun r hr => ?_), rc_same hO ⟨rfl, rfl, rfl, rfl, hc⟩ hS ?_ ?_ e35, hB, ?_, ?_, a3 _ hS⟩
  · simp (disch := omega) only [hp3, hq3, a1, gdI, nI_clamp, c6, d6, p1, p2, nI_add, Option.bind_some, fl32, nI_eq, if_pos, if_neg]
  · simp (disch := omega) only [fl32, hp7, hq7, a2, gdI, nI_clamp, nI_add, qt, qs, w1, w4, o1, o2, Option.bind_some, nI_eq, if_pos, if_neg]
  · rw [← hBB, setA_ne (by omega), setA_ne (by omega)]; exact hO.2.1
  · rw [← hBB, setA_ne (by omega), setA_ne (by omega)]; exact hO.2.2.2.1
  · by_cases c : r = s
    · rw [c, v2]; exact bt9
    · by_cases c' : r = t
      · rw [c', v1]; exact bs9
      · rw [← hBB, setA_ne (by omega), setA_ne (by omega)]; exact (hO5 r hr).2.2.2.2.2.2.2.2
  · rw [← hBB, setA_ne (by omega), setA_ne (by omega)]
  · rw [← hBB, setA_ne (by omega), setA_ne (by omega)]
  · show upd (upd (upd st (35 + t) (nI (A (35 + s)))) (35 + s) (nI (A (35 + t)))) 4 (cost + nI (A 1)) 4 = cost + nI (A 1)
    exact pk_us
  · rw [hS 2 (by omega) (by omega) (by omega) (by omega)]; exact hth
theorem k_allow (F : Nat) (hF : 100000 ≤ F) (x1 : Int32) {things may fee day cost : Int32} {kind was by_ price side is_ : Nat → Int32} {many next : Int32} {kept : Nat → Int32} {isThere : Int32} {st : Nat → Int32} {actMany : Int32} {acts : Nat → Int32} (hL : ILand things may fee day cost kind was by_ price side is_ many next kept isThere st actMany acts) :
    ∃ (uc : Int32 × Int32 × Int32 × Int32 × (Nat → Int32)) (um : Int32 × Int32 × (Nat → Int32) × (Nat → Int32)), f_X6_allow F x1 things day cost is_ may many next kept = some uc ∧ f_X7_allow F x1 isThere actMany st acts = some um ∧ uc.1 = um.1 ∧ ILand things uc.2.1 fee day cost kind was by_ price side is_ uc.2.2.1 uc.2.2.2.1 uc.2.2.2.2 isThere um.2.2.1 um.2.1 um.2.2.2 := by
  have hL0 := hL
  obtain ⟨A, hO, ⟨rfl, rfl, rfl, rfl, hc⟩, hM, h4, hth, hI⟩ := hL
  unfold f_X6_allow f_X7_allow
  rcases thereC hO.1 hth with ⟨-, g1, g2⟩ | ⟨-, g1, g2⟩
  · rw [if_pos g1, if_pos g2]
    exact ⟨_, _, rfl, rfl, rfl, hL0⟩
  rw [if_neg g1, if_neg g2]
  rcases win x1 0 9 0 9 0 9 rfl rfl rfl rfl (by decide) (by decide) with ⟨e1, e2⟩ | ⟨n, -, hn9, rfl, e1, e2⟩
  · rw [e1, e2]
    exact ⟨_, _, rfl, rfl, rfl, hL0⟩
  rw [e1, e2]
  have hn := hO.1
  have e0 := hM 0 (by omega) (by omega)
  obtain ⟨many', next', kept', acts', a1, a2, a3⟩ := acts_keep hF hO rfl rfl (fun t ht => (hc t ht).2.2.2.2.2) hM h4 hI
  have hS : Same A (setA A 0 n) := fun j hj h0 _ _ => setA_ne h0
  simp (disch := omega) only [fl32, nI_add, pk_mul, pk_rem, nI_clamp, gdI, gdZ, gdB0, gdB1, nI_leI, nI_ltI, nI_eq, if_pos, if_neg, Option.bind_some, pk_us, pk_un, nn_eq, nn_le, nn_lt, nl_eq, if_true, if_false, eq_self, nl_le, a1, a2, e0]
  refine ⟨_, _, rfl, rfl, rfl, setA A 0 n, ok_same hO hS hn9 ?_ (fun s hs => ?_), rc_same hO ⟨rfl, rfl, rfl, rfl, hc⟩ hS rfl ?_ (fun s hs => ?_), setA_rm hM, ?_, ?_, a3 _ hS⟩
  · rw [setA_ne (by omega)]; exact hO.2.2.2.1
  · rw [setA_ne (by omega)]; exact (hO.2.2.2.2 s hs).2.2.2.2.2.2.2.2
  · rw [setA_ne (by omega)]
  · rw [setA_ne (by omega)]; exact (hc s hs).2.2.2.2.2
  · show upd st 0 (nI n) 4 = _
    rw [pk_un (by omega)]; exact h4
  · rw [hS 2 (by omega) (by omega) (by omega) (by omega)]; exact hth
theorem s_all {F : Nat} {p1 p2 p3 p4 p5 q1 q2 q3 q4 q5 : Int32} {kind was by_ price side is_ : Nat → Int32} : ∀ (k t fu : Nat) (a b c d e f : Nat → Int32), 6 = t + k → k < fu →
    ∃ a' b' c' d' e' f', f_X3_takeAll_42_r F p1 p2 p3 p4 p5 kind was by_ price side is_ fu q1 q2 q3 q4 q5 a b c d e f (nI t) = some (q1, q2, q3, q4, q5, a', b', c', d', e', f') ∧ (∀ s, t ≤ s → s < 6 → a' s = kind s ∧ b' s = was s ∧ c' s = by_ s ∧ d' s = price s ∧ e' s = side s ∧ f' s = is_ s) ∧ ∀ s, s < t → a' s = a s ∧ b' s = b s ∧ c' s = c s ∧ d' s = d s ∧ e' s = e s ∧ f' s = f s := by
  intro k
  induction k with
  | zero =>
    intro t fu a b c d e f h1 h2
    obtain ⟨fu, rfl⟩ : ∃ q, fu = q + 1 := ⟨fu - 1, by omega⟩
    refine ⟨a, b, c, d, e, f, ?_, fun s _ _ => by omega, fun s _ => ⟨rfl, rfl, rfl, rfl, rfl, rfl⟩⟩
    show f_X3_takeAll_42 F _ _ _ _ _ _ _ _ _ _ _ _ _ _ _ _ _ _ _ _ _ _ _ _ = _
    unfold f_X3_takeAll_42
    simp (disch := omega) only [fl32, nI_add, pk_mul, pk_rem, nI_clamp, gdI, gdZ, gdB0, gdB1, nI_leI, nI_ltI, nI_eq, if_pos, if_neg, Option.bind_some, pk_us, pk_un, nn_eq, nn_le, nn_lt, nl_eq, if_true, if_false, eq_self, nl_le]
  | succ k ih =>
    intro t fu a b c d e f h1 h2
    obtain ⟨fu, rfl⟩ : ∃ q, fu = q + 1 := ⟨fu - 1, by omega⟩
    obtain ⟨a', b', c', d', e', f', g1, g2, g3⟩ := ih (t + 1) fu (upd a t (kind t)) (upd b t (was t)) (upd c t (by_ t)) (upd d t (price t)) (upd e t (side t)) (upd f t (is_ t)) (by omega) (by omega)
    refine ⟨a', b', c', d', e', f', ?_, fun s h3 h4 => ?_, fun s hs => ?_⟩
    · show f_X3_takeAll_42 F _ _ _ _ _ _ _ _ _ _ _ _ _ _ _ _ _ _ _ _ _ _ _ _ = _
      unfold f_X3_takeAll_42
      simp (disch := omega) only [fl32, nI_add, pk_mul, pk_rem, nI_clamp, gdI, gdZ, gdB0, gdB1, nI_leI, nI_ltI, nI_eq, if_pos, if_neg, Option.bind_some, pk_us, pk_un, nn_eq, nn_le, nn_lt, nl_eq, if_true, if_false, eq_self, nl_le]
      exact g1
    · by_cases c : s = t
      · obtain ⟨j1, j2, j3, j4, j5, j6⟩ := g3 s (by omega)
        rw [j1, j2, j3, j4, j5, j6, c]
        exact ⟨pk_us, pk_us, pk_us, pk_us, pk_us, pk_us⟩
      · exact g2 s (by omega) h4
    · obtain ⟨j1, j2, j3, j4, j5, j6⟩ := g3 s (by omega)
      have hne : s ≠ t := by omega
      rw [j1, j2, j3, j4, j5, j6, pk_un hne, pk_un hne, pk_un hne, pk_un hne, pk_un hne, pk_un hne]
      exact ⟨rfl, rfl, rfl, rfl, rfl, rfl⟩
theorem s_takeAll {F : Nat} (hF : 100000 ≤ F) {A : Nat → Nat} {p1 p2 p3 p4 p5 : Int32} {kind was by_ price side is_ : Nat → Int32} (hn : A 2 ≤ 6) (hC : RpC A p1 p2 p3 p4 kind was by_ price side is_) (q1 q2 q3 q4 q5 : Int32) (a b c d e f : Nat → Int32) :
    ∃ a' b' c' d' e' f', f_X3_takeAll F p1 p2 p3 p4 p5 kind was by_ price side is_ q1 q2 q3 q4 q5 a b c d e f = some (p1, p2, p3, p4, p5, a', b', c', d', e', f') ∧ RpC A p1 p2 p3 p4 a' b' c' d' e' f' := by
  obtain ⟨a', b', c', d', e', f', g1, g2, -⟩ := s_all (F := F) (p1 := p1) (p2 := p2) (p3 := p3) (p4 := p4) (p5 := p5) (q1 := p1) (q2 := p2) (q3 := p3) (q4 := p4) (q5 := p5) (kind := kind) (was := was) (by_ := by_) (price := price) (side := side) (is_ := is_) 6 0 F a b c d e f (by omega) (by omega)
  refine ⟨a', b', c', d', e', f', g1, hC.1, hC.2.1, hC.2.2.1, hC.2.2.2.1, fun t ht => ?_⟩
  obtain ⟨j1, j2, j3, j4, j5, j6⟩ := g2 t (by omega) (by omega)
  rw [j1, j2, j3, j4, j5, j6]
  exact hC.2.2.2.2 t ht
theorem s_img {F n : Nat} {isThere : Int32} {st isKept : Nat → Int32} (hn : n ≤ 1) : ∀ (k t fu : Nat) (K : Nat → Int32), 41 = t + k → k < fu →
    ∃ K', f_X7_image_25_r F isThere st fu isKept K (nI n) (nI t) = some (1, upd isKept n 1, K') ∧ (∀ s, t ≤ s → s < 41 → K' (41 * n + s) = st s) ∧ ∀ i, i < 41 * n + t ∨ 41 * n + 41 ≤ i → K' i = K i := by
  intro k
  induction k with
  | zero =>
    intro t fu K h1 h2
    obtain ⟨fu, rfl⟩ : ∃ q, fu = q + 1 := ⟨fu - 1, by omega⟩
    refine ⟨K, ?_, fun s h3 h4 => by omega, fun i _ => rfl⟩
    show f_X7_image_25 F _ _ _ _ _ _ _ = _
    unfold f_X7_image_25
    simp (disch := omega) only [fl32, nI_add, pk_mul, pk_rem, nI_clamp, gdI, gdZ, gdB0, gdB1, nI_leI, nI_ltI, nI_eq, if_pos, if_neg, Option.bind_some, pk_us, pk_un, nn_eq, nn_le, nn_lt, nl_eq, if_true, if_false, eq_self, nl_le]
    rfl
  | succ k ih =>
    intro t fu K h1 h2
    obtain ⟨fu, rfl⟩ : ∃ q, fu = q + 1 := ⟨fu - 1, by omega⟩
    obtain ⟨K', e1, e2, e3⟩ := ih (t + 1) fu (upd K (41 * n + t) (st t)) (by omega) (by omega)
    refine ⟨K', ?_, fun s h3 h4 => ?_, fun i hi => ?_⟩
    · show f_X7_image_25 F _ _ _ _ _ _ _ = _
      unfold f_X7_image_25
      simp (disch := omega) only [fl32, nI_add, pk_mul, pk_rem, nI_clamp, gdI, gdZ, gdB0, gdB1, nI_leI, nI_ltI, nI_eq, if_pos, if_neg, Option.bind_some, pk_us, pk_un, nn_eq, nn_le, nn_lt, nl_eq, if_true, if_false, eq_self, nl_le]
      exact e1
    · by_cases c : s = t
      · rw [e3 _ (by omega), c, pk_us]
      · exact e2 s (by omega) h4
    · rw [e3 i (by omega), pk_un (by omega)]
theorem s_rest {F n : Nat} {isKept kept : Nat → Int32} (hn : n ≤ 1) : ∀ (k t fu : Nat) (actMany : Int32) (K : Nat → Int32), 41 = t + k → k < fu →
    ∃ K', f_X7_restore_27_r F isKept kept fu actMany K (nI n) (nI t) = some (1, 0, K') ∧ (∀ s, t ≤ s → s < 41 → K' s = kept (41 * n + s)) ∧ ∀ i, i < t → K' i = K i := by
  intro k
  induction k with
  | zero =>
    intro t fu actMany K h1 h2
    obtain ⟨fu, rfl⟩ : ∃ q, fu = q + 1 := ⟨fu - 1, by omega⟩
    refine ⟨K, ?_, fun s h3 h4 => by omega, fun i _ => rfl⟩
    show f_X7_restore_27 F _ _ _ _ _ _ _ = _
    unfold f_X7_restore_27
    simp (disch := omega) only [fl32, nI_add, pk_mul, pk_rem, nI_clamp, gdI, gdZ, gdB0, gdB1, nI_leI, nI_ltI, nI_eq, if_pos, if_neg, Option.bind_some, pk_us, pk_un, nn_eq, nn_le, nn_lt, nl_eq, if_true, if_false, eq_self, nl_le]
  | succ k ih =>
    intro t fu actMany K h1 h2
    obtain ⟨fu, rfl⟩ : ∃ q, fu = q + 1 := ⟨fu - 1, by omega⟩
    obtain ⟨K', e1, e2, e3⟩ := ih (t + 1) fu actMany (upd K t (kept (41 * n + t))) (by omega) (by omega)
    refine ⟨K', ?_, fun s h3 h4 => ?_, fun i hi => ?_⟩
    · show f_X7_restore_27 F _ _ _ _ _ _ _ = _
      unfold f_X7_restore_27
      simp (disch := omega) only [fl32, nI_add, pk_mul, pk_rem, nI_clamp, gdI, gdZ, gdB0, gdB1, nI_leI, nI_ltI, nI_eq, if_pos, if_neg, Option.bind_some, pk_us, pk_un, nn_eq, nn_le, nn_lt, nl_eq, if_true, if_false, eq_self, nl_le]
      exact e1
    · by_cases c : s = t
      · rw [e3 _ (by omega), c, pk_us]
      · exact e2 s (by omega) h4
    · rw [e3 i (by omega), pk_un (by omega)]
theorem img_keep {k : Nat} {things may fee day cost : Int32} {kind was by_ price side is_ isKept kept isKept' kept' : Nat → Int32} {isThere : Int32} (h : IImg k things may fee day cost kind was by_ price side is_ isKept kept isThere) (h1 : ∀ i, i < 41 → kept' (41 * k + i) = kept (41 * k + i)) (h2 : isKept' k = isKept k) : IImg k things may fee day cost kind was by_ price side is_ isKept' kept' isThere := by
  obtain ⟨A, a, b, c, d, e, f⟩ := h
  exact ⟨A, a, b, fun j hj h4 => (h1 j hj).trans (c j hj h4), by rw [h1 4 (by omega)]; exact d, by rw [h2]; exact e, f⟩
theorem s_num0 {F : Nat} : f_X6_imageNumbered F (nI 0) = some 0 := by unfold f_X6_imageNumbered; rw [if_pos (show nI 0 = (0 : Int32) from rfl)]
theorem s_num1 {F : Nat} : f_X6_imageNumbered F (nI 1) = some 1 := by unfold f_X6_imageNumbered; rw [if_neg (show ¬ nI 1 = (0 : Int32) from by decide)]
