/-! sums, and what is asked of a land as it is -/
def sumN (f : Nat → Nat) : Nat → Nat
  | 0 => 0
  | n + 1 => sumN f n + f n
theorem sumN_le {f : Nat → Nat} {m : Nat} : ∀ n, (∀ t, t < n → f t ≤ m) → sumN f n ≤ n * m
  | 0, _ => by simp [sumN]
  | n + 1, h => by
    have h1 := sumN_le n (fun t ht => h t (by omega))
    have h2 := h n (by omega)
    show sumN f n + f n ≤ (n + 1) * m
    rw [Nat.succ_mul]
    omega
theorem sumN_congr {f g : Nat → Nat} : ∀ n, (∀ t, t < n → f t = g t) → sumN f n = sumN g n
  | 0, _ => rfl
  | n + 1, h => by
    show sumN f n + f n = sumN g n + g n
    rw [sumN_congr n (fun t ht => h t (by omega)), h n (by omega)]
/-- a land's bounds, but for its day -/
def OkT (A : Nat → Nat) : Prop := A 2 ≤ 6 ∧ A 0 ≤ 9 ∧ A 1 ≤ 20 ∧ ∀ t, t < A 2 → 1 ≤ A (5 + t) ∧ A (5 + t) ≤ 5 ∧ A (11 + t) ≤ 60 ∧ 1 ≤ A (17 + t) ∧ A (17 + t) ≤ 9 ∧ 1 ≤ A (23 + t) ∧ A (23 + t) ≤ 9 ∧ A (29 + t) ≤ 1 ∧ A (35 + t) ≤ 99
theorem OkA.T {A : Nat → Nat} (h : OkA A) : OkT A := ⟨h.1, h.2.1, h.2.2.1, h.2.2.2.2⟩
theorem OkA.of {A : Nat → Nat} (h : OkT A) (hd : A 3 ≤ 999) : OkA A := ⟨h.1, h.2.1, h.2.2.1, hd, h.2.2.2⟩
def offN (A : Nat → Nat) (t : Nat) : Nat := df (A (35 + t)) (A (11 + t))
def allN (A : Nat → Nat) : Nat := sumN (offN A) (A 2)
theorem offN_le {A : Nat → Nat} (h : OkT A) {t : Nat} (ht : t < A 2) : offN A t ≤ 99 := by
  have := h.2.2.2 t ht
  unfold offN df
  omega
theorem allN_le {A : Nat → Nat} (h : OkT A) : allN A ≤ 6 * 99 := by
  have h1 := sumN_le (f := offN A) (m := 99) (A 2) (fun t ht => offN_le h ht)
  have h2 : A 2 * 99 ≤ 6 * 99 := Nat.mul_le_mul_right _ h.1
  exact Nat.le_trans h1 h2
theorem s_allOff7 {F : Nat} {A : Nat → Nat} {st : Nat → Int32} (hM : RpM A st) (hT : OkT A) : ∀ (k t fu : Nat), A 2 = t + k → k < fu → f_X7_allOff_4_r F st fu (nI (sumN (offN A) t)) (nI t) = some (nI (allN A)) := by
  have hn := hT.1
  have e2 := hM 2 (by omega) (by omega)
  intro k
  induction k with
  | zero =>
    intro t fu h1 h2
    obtain ⟨fu, rfl⟩ : ∃ q, fu = q + 1 := ⟨fu - 1, by omega⟩
    show f_X7_allOff_4 F st _ _ _ = _
    unfold f_X7_allOff_4
    simp (disch := omega) only [fl32, nI_add, pk_mul, pk_rem, nI_clamp, gdI, gdZ, gdB0, gdB1, nI_leI, nI_ltI, nI_eq, if_pos, if_neg, Option.bind_some, pk_us, pk_un, nn_eq, nn_le, nn_lt, nl_eq, if_true, if_false, eq_self, nl_le, e2]
    unfold allN
    rw [show t = A 2 from by omega]
  | succ k ih =>
    intro t fu h1 h2
    obtain ⟨fu, rfl⟩ : ∃ q, fu = q + 1 := ⟨fu - 1, by omega⟩
    have hb := hT.2.2.2 t (by omega)
    have ho := s_off (F := F) hM (show t < 6 by omega) (by omega) (by omega)
    show f_X7_allOff_4 F st _ _ _ = _
    unfold f_X7_allOff_4
    simp (disch := omega) only [fl32, nI_add, pk_mul, pk_rem, nI_clamp, gdI, gdZ, gdB0, gdB1, nI_leI, nI_ltI, nI_eq, if_pos, if_neg, Option.bind_some, pk_us, pk_un, nn_eq, nn_le, nn_lt, nl_eq, if_true, if_false, eq_self, nl_le, e2, ho]
    exact ih (t + 1) fu (by omega) (by omega)
theorem s_allOff7' {F : Nat} (hF : 100000 ≤ F) {A : Nat → Nat} {st : Nat → Int32} (hM : RpM A st) (hT : OkT A) : f_X7_allOff F st = some (nI (allN A)) := s_allOff7 hM hT (A 2) 0 F (by omega) (by have := hT.1; omega)
theorem s_allOff3 {F : Nat} {A : Nat → Nat} {was is_ : Nat → Int32} (hT : OkT A) (hw : ∀ t, t < A 2 → was t = nI (A (11 + t))) (hi : ∀ t, t < A 2 → is_ t = nI (A (35 + t))) : ∀ (k t fu : Nat), A 2 = t + k → k < fu → f_X3_allOff_4_r F (nI (A 2)) was is_ fu (nI (sumN (offN A) t)) (nI t) = some (nI (allN A)) := by
  have hn := hT.1
  intro k
  induction k with
  | zero =>
    intro t fu h1 h2
    obtain ⟨fu, rfl⟩ : ∃ q, fu = q + 1 := ⟨fu - 1, by omega⟩
    show f_X3_allOff_4 F _ was is_ _ _ _ = _
    unfold f_X3_allOff_4
    simp (disch := omega) only [fl32, nI_add, pk_mul, pk_rem, nI_clamp, gdI, gdZ, gdB0, gdB1, nI_leI, nI_ltI, nI_eq, if_pos, if_neg, Option.bind_some, pk_us, pk_un, nn_eq, nn_le, nn_lt, nl_eq, if_true, if_false, eq_self, nl_le]
    unfold allN
    rw [show t = A 2 from by omega]
  | succ k ih =>
    intro t fu h1 h2
    obtain ⟨fu, rfl⟩ : ∃ q, fu = q + 1 := ⟨fu - 1, by omega⟩
    have hb := hT.2.2.2 t (by omega)
    have ho := s_offOf (F := F) (show t < 6 by omega) (hw t (by omega)) (hi t (by omega)) (by omega) (by omega)
    show f_X3_allOff_4 F _ was is_ _ _ _ = _
    unfold f_X3_allOff_4
    simp (disch := omega) only [fl32, nI_add, pk_mul, pk_rem, nI_clamp, gdI, gdZ, gdB0, gdB1, nI_leI, nI_ltI, nI_eq, if_pos, if_neg, Option.bind_some, pk_us, pk_un, nn_eq, nn_le, nn_lt, nl_eq, if_true, if_false, eq_self, nl_le, ho]
    exact ih (t + 1) fu (by omega) (by omega)
theorem s_allOff3' {F : Nat} (hF : 100000 ≤ F) {A : Nat → Nat} {was is_ : Nat → Int32} (hT : OkT A) (hw : ∀ t, t < A 2 → was t = nI (A (11 + t))) (hi : ∀ t, t < A 2 → is_ t = nI (A (35 + t))) : f_X3_allOff F (nI (A 2)) was is_ = some (nI (allN A)) := s_allOff3 hT hw hi (A 2) 0 F (by omega) (by have := hT.1; omega)
theorem s_allOff2 {F : Nat} {A : Nat → Nat} {was is_ : Nat → Int32} (hT : OkT A) (hw : ∀ t, t < A 2 → was t = nI (A (11 + t))) (hi : ∀ t, t < A 2 → is_ t = nI (A (35 + t))) : ∀ (k t fu : Nat), A 2 = t + k → k < fu → f_X2_allOff_4_r F (nI (A 2)) was is_ fu (nI (sumN (offN A) t)) (nI t) = some (nI (allN A)) := by
  have hn := hT.1
  intro k
  induction k with
  | zero =>
    intro t fu h1 h2
    obtain ⟨fu, rfl⟩ : ∃ q, fu = q + 1 := ⟨fu - 1, by omega⟩
    show f_X2_allOff_4 F _ was is_ _ _ _ = _
    unfold f_X2_allOff_4
    simp (disch := omega) only [fl32, nI_add, pk_mul, pk_rem, nI_clamp, gdI, gdZ, gdB0, gdB1, nI_leI, nI_ltI, nI_eq, if_pos, if_neg, Option.bind_some, pk_us, pk_un, nn_eq, nn_le, nn_lt, nl_eq, if_true, if_false, eq_self, nl_le]
    unfold allN
    rw [show t = A 2 from by omega]
  | succ k ih =>
    intro t fu h1 h2
    obtain ⟨fu, rfl⟩ : ∃ q, fu = q + 1 := ⟨fu - 1, by omega⟩
    have hb := hT.2.2.2 t (by omega)
    have hit := hi t (by omega)
    have ho := s_offIf (F := F) (a := A (35 + t)) (show t < 6 by omega) (hw t (by omega)) (by omega) (by omega)
    show f_X2_allOff_4 F _ was is_ _ _ _ = _
    unfold f_X2_allOff_4
    simp (disch := omega) only [fl32, nI_add, pk_mul, pk_rem, nI_clamp, gdI, gdZ, gdB0, gdB1, nI_leI, nI_ltI, nI_eq, if_pos, if_neg, Option.bind_some, pk_us, pk_un, nn_eq, nn_le, nn_lt, nl_eq, if_true, if_false, eq_self, nl_le, hit, ho]
    exact ih (t + 1) fu (by omega) (by omega)
theorem s_allOff2' {F : Nat} (hF : 100000 ≤ F) {A : Nat → Nat} {was is_ : Nat → Int32} (hT : OkT A) (hw : ∀ t, t < A 2 → was t = nI (A (11 + t))) (hi : ∀ t, t < A 2 → is_ t = nI (A (35 + t))) : f_X2_allOff F (nI (A 2)) was is_ = some (nI (allN A)) := s_allOff2 hT hw hi (A 2) 0 F (by omega) (by have := hT.1; omega)
/-- the bits of what is alike: both loops, from the same bits on -/
theorem s_alike {F : Nat} {A : Nat → Nat} {st was is_ : Nat → Int32} {isThere x1 : Int32} (hM : RpM A st) (hT : OkT A) (hw : ∀ t, t < A 2 → was t = nI (A (11 + t))) (hi : ∀ t, t < A 2 → is_ t = nI (A (35 + t))) : ∀ (k t fu fu2 : Nat) (acc : Int32), A 2 = t + k → k < fu → k < fu2 →
    ∃ r, f_X3_alikeBits_4_r F (nI (A 2)) (nI (A 0)) was is_ fu acc (nI t) = some r ∧ f_X7_holds_14_r F isThere st fu2 x1 acc (nI t) = (if x1 = (0 : Int32) then some (st 4) else if x1 = (1 : Int32) then some (nI (A 0)) else if x1 = (2 : Int32) then some (nI (A 1)) else if x1 = (3 : Int32) then (f_X7_allOff F st).bind fun u => some u else if x1 = (4 : Int32) then some r else some (-1000001)) := by
  have hn := hT.1
  have hm := hT.2.1
  have e2 := hM 2 (by omega) (by omega)
  have e0 := hM 0 (by omega) (by omega)
  have e1 := hM 1 (by omega) (by omega)
  intro k
  induction k with
  | zero =>
    intro t fu fu2 acc h1 h2 h3
    obtain ⟨fu, rfl⟩ : ∃ q, fu = q + 1 := ⟨fu - 1, by omega⟩
    obtain ⟨fu2, rfl⟩ : ∃ q, fu2 = q + 1 := ⟨fu2 - 1, by omega⟩
    refine ⟨acc, ?_, ?_⟩
    · show f_X3_alikeBits_4 F _ _ was is_ _ _ _ = _
      unfold f_X3_alikeBits_4
      simp (disch := omega) only [fl32, nI_add, pk_mul, pk_rem, nI_clamp, gdI, gdZ, gdB0, gdB1, nI_leI, nI_ltI, nI_eq, if_pos, if_neg, Option.bind_some, pk_us, pk_un, nn_eq, nn_le, nn_lt, nl_eq, if_true, if_false, eq_self, nl_le]
    · show f_X7_holds_14 F _ st _ _ _ _ = _
      unfold f_X7_holds_14
      simp (disch := omega) only [fl32, gdI, nI_clamp, e2, nI_leI, if_pos, e0, e1]
      rfl
  | succ k ih =>
    intro t fu fu2 acc h1 h2 h3
    obtain ⟨fu, rfl⟩ : ∃ q, fu = q + 1 := ⟨fu - 1, by omega⟩
    obtain ⟨fu2, rfl⟩ : ∃ q, fu2 = q + 1 := ⟨fu2 - 1, by omega⟩
    have hb := hT.2.2.2 t (by omega)
    have ho := s_offOf (F := F) (show t < 6 by omega) (hw t (by omega)) (hi t (by omega)) (by omega) (by omega)
    have hal := s_isAlike (F := F) hM (show t < 6 by omega) (by omega) (by omega) hm
    have hlt : df (A (35 + t)) (A (11 + t)) < 200000 := by unfold df; omega
    by_cases c : df (A (35 + t)) (A (11 + t)) ≤ A 0
    · obtain ⟨r, q1, q2⟩ := ih (t + 1) fu fu2 (acc ||| (nI 1 <<< (nI t &&& nI 31))) (by omega) (by omega) (by omega)
      refine ⟨r, ?_, ?_⟩
      · show f_X3_alikeBits_4 F _ _ was is_ _ _ _ = _
        unfold f_X3_alikeBits_4 f_X3_alikeBits_32
        simp (disch := omega) only [fl32, nI_add, pk_mul, pk_rem, nI_clamp, gdI, gdZ, gdB0, gdB1, nI_leI, nI_ltI, nI_eq, if_pos, if_neg, Option.bind_some, pk_us, pk_un, nn_eq, nn_le, nn_lt, nl_eq, if_true, if_false, eq_self, nl_le, ho]
        exact q1
      · rw [← q2]
        show f_X7_holds_14 F _ st _ _ _ _ = _
        unfold f_X7_holds_14 f_X7_holds_40
        simp (disch := omega) only [fl32, nI_add, pk_mul, pk_rem, nI_clamp, gdI, gdZ, gdB0, gdB1, nI_leI, nI_ltI, nI_eq, if_pos, if_neg, Option.bind_some, pk_us, pk_un, nn_eq, nn_le, nn_lt, nl_eq, if_true, if_false, eq_self, nl_le, e2, hal]
    · obtain ⟨r, q1, q2⟩ := ih (t + 1) fu fu2 (acc ||| nI 0) (by omega) (by omega) (by omega)
      refine ⟨r, ?_, ?_⟩
      · show f_X3_alikeBits_4 F _ _ was is_ _ _ _ = _
        unfold f_X3_alikeBits_4 f_X3_alikeBits_32
        simp (disch := omega) only [fl32, nI_add, pk_mul, pk_rem, nI_clamp, gdI, gdZ, gdB0, gdB1, nI_leI, nI_ltI, nI_eq, if_pos, if_neg, Option.bind_some, pk_us, pk_un, nn_eq, nn_le, nn_lt, nl_eq, if_true, if_false, eq_self, nl_le, ho]
        exact q1
      · rw [← q2]
        show f_X7_holds_14 F _ st _ _ _ _ = _
        unfold f_X7_holds_14 f_X7_holds_40
        simp (disch := omega) only [fl32, nI_add, pk_mul, pk_rem, nI_clamp, gdI, gdZ, gdB0, gdB1, nI_leI, nI_ltI, nI_eq, if_pos, if_neg, Option.bind_some, pk_us, pk_un, nn_eq, nn_le, nn_lt, nl_eq, if_true, if_false, eq_self, nl_le, e2, hal]
theorem s_gain {F : Nat} {A : Nat → Nat} {st was is_ side : Nat → Int32} {isThere x1 : Int32} (hM : RpM A st) (hT : OkT A) (hw : ∀ t, t < A 2 → was t = nI (A (11 + t))) (hs : ∀ t, t < A 2 → side t = nI (A (29 + t))) (hi : ∀ t, t < A 2 → is_ t = nI (A (35 + t))) : ∀ (k t fu fu2 : Nat) (acc : Int32), A 2 = t + k → k < fu → k < fu2 →
    ∃ r, f_X3_gainOf_6_r F (nI (A 2)) was side is_ fu x1 acc (nI t) = some r ∧ f_X7_gain_29_r F isThere st fu2 x1 acc (nI t) = some r := by
  have hn := hT.1
  have e2 := hM 2 (by omega) (by omega)
  intro k
  induction k with
  | zero =>
    intro t fu fu2 acc h1 h2 h3
    obtain ⟨fu, rfl⟩ : ∃ q, fu = q + 1 := ⟨fu - 1, by omega⟩
    obtain ⟨fu2, rfl⟩ : ∃ q, fu2 = q + 1 := ⟨fu2 - 1, by omega⟩
    refine ⟨acc, ?_, ?_⟩
    · show f_X3_gainOf_6 F _ was side is_ _ _ _ _ = _
      unfold f_X3_gainOf_6
      simp (disch := omega) only [fl32, nI_add, pk_mul, pk_rem, nI_clamp, gdI, gdZ, gdB0, gdB1, nI_leI, nI_ltI, nI_eq, if_pos, if_neg, Option.bind_some, pk_us, pk_un, nn_eq, nn_le, nn_lt, nl_eq, if_true, if_false, eq_self, nl_le]
    · show f_X7_gain_29 F _ st _ _ _ _ = _
      unfold f_X7_gain_29
      simp (disch := omega) only [fl32, nI_add, pk_mul, pk_rem, nI_clamp, gdI, gdZ, gdB0, gdB1, nI_leI, nI_ltI, nI_eq, if_pos, if_neg, Option.bind_some, pk_us, pk_un, nn_eq, nn_le, nn_lt, nl_eq, if_true, if_false, eq_self, nl_le, e2]
  | succ k ih =>
    intro t fu fu2 acc h1 h2 h3
    obtain ⟨fu, rfl⟩ : ∃ q, fu = q + 1 := ⟨fu - 1, by omega⟩
    obtain ⟨fu2, rfl⟩ : ∃ q, fu2 = q + 1 := ⟨fu2 - 1, by omega⟩
    have q11 := hM (11 + t) (by omega) (by omega)
    have q29 := hM (29 + t) (by omega) (by omega)
    have q35 := hM (35 + t) (by omega) (by omega)
    have w1 := hw t (by omega)
    have w2 := hs t (by omega)
    have w3 := hi t (by omega)
    by_cases c : nI (A (29 + t)) = x1
    · obtain ⟨r, q1, q2⟩ := ih (t + 1) fu fu2 (acc + (nI (A (35 + t)) - nI (A (11 + t)))) (by omega) (by omega) (by omega)
      refine ⟨r, ?_, ?_⟩
      · show f_X3_gainOf_6 F _ was side is_ _ _ _ _ = _
        unfold f_X3_gainOf_6 f_X3_gainOf_42
        simp (disch := omega) only [fl32, nI_add, pk_mul, pk_rem, nI_clamp, gdI, gdZ, gdB0, gdB1, nI_leI, nI_ltI, nI_eq, if_pos, if_neg, Option.bind_some, pk_us, pk_un, nn_eq, nn_le, nn_lt, nl_eq, if_true, if_false, eq_self, nl_le, w1, w2, w3]
        exact q1
      · show f_X7_gain_29 F _ st _ _ _ _ = _
        unfold f_X7_gain_29 f_X7_gain_76
        simp (disch := omega) only [fl32, nI_add, pk_mul, pk_rem, nI_clamp, gdI, gdZ, gdB0, gdB1, nI_leI, nI_ltI, nI_eq, if_pos, if_neg, Option.bind_some, pk_us, pk_un, nn_eq, nn_le, nn_lt, nl_eq, if_true, if_false, eq_self, nl_le, e2, q11, q29, q35]
        exact q2
    · obtain ⟨r, q1, q2⟩ := ih (t + 1) fu fu2 (acc + nI 0) (by omega) (by omega) (by omega)
      refine ⟨r, ?_, ?_⟩
      · show f_X3_gainOf_6 F _ was side is_ _ _ _ _ = _
        unfold f_X3_gainOf_6 f_X3_gainOf_42
        simp (disch := omega) only [fl32, nI_add, pk_mul, pk_rem, nI_clamp, gdI, gdZ, gdB0, gdB1, nI_leI, nI_ltI, nI_eq, if_pos, if_neg, Option.bind_some, pk_us, pk_un, nn_eq, nn_le, nn_lt, nl_eq, if_true, if_false, eq_self, nl_le, w1, w2, w3]
        exact q1
      · show f_X7_gain_29 F _ st _ _ _ _ = _
        unfold f_X7_gain_29 f_X7_gain_76
        simp (disch := omega) only [fl32, nI_add, pk_mul, pk_rem, nI_clamp, gdI, gdZ, gdB0, gdB1, nI_leI, nI_ltI, nI_eq, if_pos, if_neg, Option.bind_some, pk_us, pk_un, nn_eq, nn_le, nn_lt, nl_eq, if_true, if_false, eq_self, nl_le, e2, q11, q29, q35]
        exact q2
/-- whether there is a land, as both ask it -/
theorem thereC {n : Nat} {isThere : Int32} (hn : n ≤ 6) (h : isThere = (if n = 0 then 0 else 1)) : (n = 0 ∧ (nI n = (0 : Int32)) ∧ isThere = 0) ∨ (1 ≤ n ∧ ¬ (nI n = (0 : Int32)) ∧ ¬ isThere = 0) := by
  by_cases c : n = 0
  · left
    exact ⟨c, by rw [c]; rfl, by rw [h, if_pos c]⟩
  · right
    exact ⟨by omega, nI_ne0 (by omega) (by omega), by rw [h, if_neg c]; decide⟩
theorem k_thing (F : Nat) (x1 x2 : Int32) {A : Nat → Nat} {st kind was by_ price side is_ : Nat → Int32} {things may fee day : Int32} (hO : OkA A) (hC : RpC A things may fee day kind was by_ price side is_) (hM : RpM A st) :
    ∃ r, f_X6_thing F x1 x2 things may fee kind was by_ price side is_ = some r ∧ f_X7_thing F x1 x2 st = some r := by
  obtain ⟨rfl, rfl, rfl, rfl, hc⟩ := hC
  have e2 := hM 2 (by omega) (by omega)
  unfold f_X6_thing f_X7_thing
  rcases thc x1 (A 2) hO.1 with ⟨g1, g2⟩ | ⟨t, ht, rfl, g1, g2⟩
  · rw [g1, g2 F st e2]
    exact ⟨_, rfl, rfl⟩
  rw [g1, g2 F st e2]
  have hn := hO.1
  have hm := hO.2.1
  obtain ⟨b1, b2, b3, b4, b5, b6, b7, b8, b9⟩ := hO.2.2.2.2 t ht
  obtain ⟨c1, c2, c3, c4, c5, c6⟩ := hc t ht
  have ho := s_offOf (F := F) (show t < 6 by omega) c2 c6 (by omega) (by omega)
  have ho7 := s_off (F := F) hM (show t < 6 by omega) (by omega) (by omega)
  have hal := s_isAlike (F := F) hM (show t < 6 by omega) (by omega) (by omega) hm
  have hp3 := s_isPersonAt (F := F) (show t < 6 by omega) c1 b2
  have hp7 := s_isPeople (F := F) hM (show t < 6 by omega) b2
  have hcs := s_cost (F := F) (a := A (35 + t)) (fe := A 1) (show t < 6 by omega) c2 c4 (by omega) (by omega)
  have hpr := s_price (F := F) (a := A (35 + t)) hM (show t < 6 by omega) (by omega) (by omega)
  have q11 := hM (11 + t) (by omega) (by omega)
  have q17 := hM (17 + t) (by omega) (by omega)
  have q23 := hM (23 + t) (by omega) (by omega)
  have q29 := hM (29 + t) (by omega) (by omega)
  have q35 := hM (35 + t) (by omega) (by omega)
  have hlt : df (A (35 + t)) (A (11 + t)) < 200000 := by unfold df; omega
  simp only [Option.bind_some, if_neg one_ne]
  by_cases d0 : x2 = 0
  · simp only [if_pos d0]; simp (disch := omega) only [fl32, nI_add, pk_mul, pk_rem, nI_clamp, gdI, gdZ, gdB0, gdB1, nI_leI, nI_ltI, nI_eq, if_pos, if_neg, Option.bind_some, pk_us, pk_un, nn_eq, nn_le, nn_lt, nl_eq, if_true, if_false, eq_self, nl_le, c6, q35]; exact ⟨_, rfl, rfl⟩
  simp only [if_neg d0]
  by_cases d1 : x2 = 1
  · simp only [if_pos d1]; simp (disch := omega) only [fl32, nI_add, pk_mul, pk_rem, nI_clamp, gdI, gdZ, gdB0, gdB1, nI_leI, nI_ltI, nI_eq, if_pos, if_neg, Option.bind_some, pk_us, pk_un, nn_eq, nn_le, nn_lt, nl_eq, if_true, if_false, eq_self, nl_le, c2, q11]; exact ⟨_, rfl, rfl⟩
  simp only [if_neg d1]
  by_cases d2 : x2 = 2
  · simp only [if_pos d2]; simp (disch := omega) only [fl32, nI_add, pk_mul, pk_rem, nI_clamp, gdI, gdZ, gdB0, gdB1, nI_leI, nI_ltI, nI_eq, if_pos, if_neg, Option.bind_some, pk_us, pk_un, nn_eq, nn_le, nn_lt, nl_eq, if_true, if_false, eq_self, nl_le, c3, q17]; exact ⟨_, rfl, rfl⟩
  simp only [if_neg d2]
  by_cases d3 : x2 = 3
  · simp only [if_pos d3]; simp (disch := omega) only [fl32, nI_add, pk_mul, pk_rem, nI_clamp, gdI, gdZ, gdB0, gdB1, nI_leI, nI_ltI, nI_eq, if_pos, if_neg, Option.bind_some, pk_us, pk_un, nn_eq, nn_le, nn_lt, nl_eq, if_true, if_false, eq_self, nl_le, c4, q23]; exact ⟨_, rfl, rfl⟩
  simp only [if_neg d3]
  by_cases d4 : x2 = 4
  · simp only [if_pos d4]; simp (disch := omega) only [fl32, nI_add, pk_mul, pk_rem, nI_clamp, gdI, gdZ, gdB0, gdB1, nI_leI, nI_ltI, nI_eq, if_pos, if_neg, Option.bind_some, pk_us, pk_un, nn_eq, nn_le, nn_lt, nl_eq, if_true, if_false, eq_self, nl_le, c5, q29]; exact ⟨_, rfl, rfl⟩
  simp only [if_neg d4]
  by_cases d5 : x2 = 5
  · simp only [if_pos d5]; simp (disch := omega) only [fl32, nI_add, pk_mul, pk_rem, nI_clamp, gdI, gdZ, gdB0, gdB1, nI_leI, nI_ltI, nI_eq, if_pos, if_neg, Option.bind_some, pk_us, pk_un, nn_eq, nn_le, nn_lt, nl_eq, if_true, if_false, eq_self, nl_le, ho, ho7]; exact ⟨_, rfl, rfl⟩
  simp only [if_neg d5]
  by_cases d6 : x2 = 6
  · simp only [if_pos d6]
    by_cases c : df (A (35 + t)) (A (11 + t)) ≤ A 0
    · simp (disch := omega) only [fl32, nI_add, pk_mul, pk_rem, nI_clamp, gdI, gdZ, gdB0, gdB1, nI_leI, nI_ltI, nI_eq, if_pos, if_neg, Option.bind_some, pk_us, pk_un, nn_eq, nn_le, nn_lt, nl_eq, if_true, if_false, eq_self, nl_le, ho, hal]; exact ⟨_, rfl, rfl⟩
    · simp (disch := omega) only [fl32, nI_add, pk_mul, pk_rem, nI_clamp, gdI, gdZ, gdB0, gdB1, nI_leI, nI_ltI, nI_eq, if_pos, if_neg, Option.bind_some, pk_us, pk_un, nn_eq, nn_le, nn_lt, nl_eq, if_true, if_false, eq_self, nl_le, ho, hal]; exact ⟨_, rfl, rfl⟩
  simp only [if_neg d6]
  by_cases d7 : x2 = 7
  · simp only [if_pos d7]
    by_cases c : 4 ≤ A (5 + t)
    · simp (disch := omega) only [fl32, nI_add, pk_mul, pk_rem, nI_clamp, gdI, gdZ, gdB0, gdB1, nI_leI, nI_ltI, nI_eq, if_pos, if_neg, Option.bind_some, pk_us, pk_un, nn_eq, nn_le, nn_lt, nl_eq, if_true, if_false, eq_self, nl_le, hp3, hp7]; exact ⟨_, rfl, rfl⟩
    · simp (disch := omega) only [fl32, nI_add, pk_mul, pk_rem, nI_clamp, gdI, gdZ, gdB0, gdB1, nI_leI, nI_ltI, nI_eq, if_pos, if_neg, Option.bind_some, pk_us, pk_un, nn_eq, nn_le, nn_lt, nl_eq, if_true, if_false, eq_self, nl_le, hp3, hp7, c6, q35, hcs, hpr]; exact ⟨_, rfl, rfl⟩
  simp only [if_neg d7]
  exact ⟨_, rfl, rfl⟩
theorem k_holds (F : Nat) (hF : 100000 ≤ F) (x1 : Int32) {A : Nat → Nat} {st kind was by_ price side is_ : Nat → Int32} {things may fee day cost isThere : Int32} (hO : OkA A) (hC : RpC A things may fee day kind was by_ price side is_) (hM : RpM A st) (h4 : st 4 = cost) (hth : isThere = (if A 2 = 0 then 0 else 1)) :
    ∃ r, f_X6_holds F x1 things may fee cost was is_ = some r ∧ f_X7_holds F x1 isThere st = some r := by
  obtain ⟨rfl, rfl, rfl, rfl, hc⟩ := hC
  unfold f_X6_holds f_X7_holds
  rcases thereC hO.1 hth with ⟨-, g1, g2⟩ | ⟨-, g1, g2⟩
  · rw [if_pos g1, if_pos g2]
    exact ⟨_, rfl, rfl⟩
  rw [if_neg g1, if_neg g2]
  have hn := hO.1
  have hw := fun t ht => (hc t ht).2.1
  have hi := fun t ht => (hc t ht).2.2.2.2.2
  obtain ⟨r, q1, q2⟩ := s_alike (F := F) (isThere := isThere) (x1 := x1) hM hO.T hw hi (A 2) 0 F F 0 (by omega) (by omega) (by omega)
  have hal : f_X3_alikeBits F (nI (A 2)) (nI (A 0)) was is_ = some r := q1
  have hm : f_X7_holds_14_r F isThere st F x1 0 0 = _ := q2
  rw [hm, hal, s_allOff7' hF hM hO.T, s_allOff3' hF hO.T hw hi, h4]
  simp only [Option.bind_some]
  by_cases d0 : x1 = (0 : Int32)
  · simp only [if_pos d0]; exact ⟨_, rfl, rfl⟩
  simp only [if_neg d0]
  by_cases d1 : x1 = (1 : Int32)
  · simp only [if_pos d1]; exact ⟨_, rfl, rfl⟩
  simp only [if_neg d1]
  by_cases d2 : x1 = (2 : Int32)
  · simp only [if_pos d2]; exact ⟨_, rfl, rfl⟩
  simp only [if_neg d2]
  by_cases d3 : x1 = (3 : Int32)
  · simp only [if_pos d3]; exact ⟨_, rfl, rfl⟩
  simp only [if_neg d3]
  by_cases d4 : x1 = (4 : Int32)
  · simp only [if_pos d4]; exact ⟨_, rfl, rfl⟩
  simp only [if_neg d4]
  exact ⟨_, rfl, rfl⟩
theorem k_gain (F : Nat) (hF : 100000 ≤ F) (x1 : Int32) {A : Nat → Nat} {st kind was by_ price side is_ : Nat → Int32} {things may fee day isThere : Int32} (hO : OkA A) (hC : RpC A things may fee day kind was by_ price side is_) (hM : RpM A st) (hth : isThere = (if A 2 = 0 then 0 else 1)) :
    ∃ r, f_X6_gain F x1 things was side is_ = some r ∧ f_X7_gain F x1 isThere st = some r := by
  obtain ⟨rfl, rfl, rfl, rfl, hc⟩ := hC
  unfold f_X6_gain f_X7_gain
  rcases thereC hO.1 hth with ⟨-, g1, g2⟩ | ⟨-, g1, g2⟩
  · rw [if_pos g1, if_pos g2]
    exact ⟨_, rfl, rfl⟩
  rw [if_neg g1, if_neg g2]
  rcases win x1 0 1 0 1 0 1 rfl rfl rfl rfl (by decide) (by decide) with ⟨e1, e2⟩ | ⟨k, -, hk, rfl, e1, e2⟩
  · rw [e1, e2]
    exact ⟨_, rfl, rfl⟩
  rw [e1, e2]
  have hn := hO.1
  obtain ⟨r, q1, q2⟩ := s_gain (F := F) (isThere := isThere) (x1 := nI k) hM hO.T (fun t ht => (hc t ht).2.1) (fun t ht => (hc t ht).2.2.2.2.1) (fun t ht => (hc t ht).2.2.2.2.2) (A 2) 0 F F 10000 (by omega) (by omega) (by omega)
  have h1 : f_X3_gainOf F (nI k) (nI (A 2)) was side is_ = some r := q1
  have h2 : f_X7_gain_29_r F isThere st F (nI k) 10000 0 = some r := q2
  simp only [Option.bind_some, if_neg one_ne, h1, h2]
  exact ⟨r, rfl, rfl⟩
theorem k_kind (F : Nat) (x1 : Int32) {A : Nat → Nat} {st kind was by_ price side is_ : Nat → Int32} {things may fee day : Int32} (hO : OkA A) (hC : RpC A things may fee day kind was by_ price side is_) (hM : RpM A st) :
    ∃ r, f_X6_kind F x1 things kind = some r ∧ f_X7_kind F x1 st = some r := by
  obtain ⟨rfl, rfl, rfl, rfl, hc⟩ := hC
  have e2 := hM 2 (by omega) (by omega)
  have hn := hO.1
  unfold f_X6_kind f_X7_kind
  rcases thc x1 (A 2) hO.1 with ⟨g1, g2⟩ | ⟨t, ht, rfl, g1, g2⟩
  · rw [g1, g2 F st e2]
    exact ⟨_, rfl, rfl⟩
  rw [g1, g2 F st e2]
  have c1 := (hc t ht).1
  have q5 := hM (5 + t) (by omega) (by omega)
  simp (disch := omega) only [fl32, nI_add, pk_mul, pk_rem, nI_clamp, gdI, gdZ, gdB0, gdB1, nI_leI, nI_ltI, nI_eq, if_pos, if_neg, Option.bind_some, pk_us, pk_un, nn_eq, nn_le, nn_lt, nl_eq, if_true, if_false, eq_self, nl_le, c1, q5]
  exact ⟨_, rfl, rfl⟩
theorem s_kinds {F k j : Nat} (hk1 : 1 ≤ k) (hk : k ≤ 5) (hj : j ≤ 5) : f_X1_isKindToo F (nI k) (nI j) = f_X7_isKind F (nI k) (nI j) := by
  rcases (show k = 1 ∨ k = 2 ∨ k = 3 ∨ k = 4 ∨ k = 5 by omega) with rfl | rfl | rfl | rfl | rfl <;> rcases (show j = 0 ∨ j = 1 ∨ j = 2 ∨ j = 3 ∨ j = 4 ∨ j = 5 by omega) with rfl | rfl | rfl | rfl | rfl | rfl <;> rfl
theorem s_kinds_some {F k j : Nat} (hk1 : 1 ≤ k) (hk : k ≤ 5) (hj : j ≤ 5) : f_X7_isKind F (nI k) (nI j) = some 0 ∨ f_X7_isKind F (nI k) (nI j) = some 1 := by
  rcases (show k = 1 ∨ k = 2 ∨ k = 3 ∨ k = 4 ∨ k = 5 by omega) with rfl | rfl | rfl | rfl | rfl <;> rcases (show j = 0 ∨ j = 1 ∨ j = 2 ∨ j = 3 ∨ j = 4 ∨ j = 5 by omega) with rfl | rfl | rfl | rfl | rfl | rfl <;> first | exact Or.inl rfl | exact Or.inr rfl
theorem k_as (F : Nat) (x1 x2 : Int32) {A : Nat → Nat} {st kind was by_ price side is_ : Nat → Int32} {things may fee day finding status : Int32} (hO : OkA A) (hC : RpC A things may fee day kind was by_ price side is_) (hM : RpM A st) (hfs : finding = status) :
    ∃ r, f_X6_as F x1 x2 things kind finding = some r ∧ f_X7_as F x1 x2 st status = some r := by
  obtain ⟨rfl, rfl, rfl, rfl, hc⟩ := hC
  subst hfs
  have e2 := hM 2 (by omega) (by omega)
  have hn := hO.1
  unfold f_X6_as f_X7_as
  rcases thc x1 (A 2) hO.1 with ⟨g1, g2⟩ | ⟨t, ht, rfl, g1, g2⟩
  · rw [g1, g2 F st e2]
    exact ⟨_, rfl, rfl⟩
  rw [g1, g2 F st e2]
  rcases win x2 0 5 0 5 0 5 rfl rfl rfl rfl (by decide) (by decide) with ⟨e1, e2⟩ | ⟨j, -, hj, rfl, e1, e2⟩
  · rw [e1, e2]
    exact ⟨_, rfl, rfl⟩
  rw [e1, e2]
  obtain ⟨b1, b2, -⟩ := hO.2.2.2.2 t ht
  have c1 := (hc t ht).1
  have q5 := hM (5 + t) (by omega) (by omega)
  have hkk := s_kinds (F := F) b1 b2 hj
  unfold f_X6_found f_X6_foundNothing f_X7_find f_X7_well
  rcases s_kinds_some (F := F) b1 b2 hj with h | h
  · rw [h] at hkk
    simp (disch := omega) only [fl32, nI_add, pk_mul, pk_rem, nI_clamp, gdI, gdZ, gdB0, gdB1, nI_leI, nI_ltI, nI_eq, if_pos, if_neg, Option.bind_some, pk_us, pk_un, nn_eq, nn_le, nn_lt, nl_eq, if_true, if_false, eq_self, nl_le, c1, q5, h, hkk]
    exact ⟨_, rfl, rfl⟩
  · rw [h] at hkk
    simp (disch := omega) only [fl32, nI_add, pk_mul, pk_rem, nI_clamp, gdI, gdZ, gdB0, gdB1, nI_leI, nI_ltI, nI_eq, if_pos, if_neg, Option.bind_some, pk_us, pk_un, nn_eq, nn_le, nn_lt, nl_eq, if_true, if_false, eq_self, nl_le, c1, q5, h, hkk]
    exact ⟨_, rfl, rfl⟩
theorem s_count {F : Nat} {size sizes st : Nat → Int32} {bytes actMany x1 : Int32} (hs : ∀ r, r < 8 → (size r = -1 ∧ sizes r = -1) ∨ ∃ z : Nat, z ≤ 40 ∧ size r = nI z ∧ sizes r = nI z) : ∀ (k t fu fu2 : Nat) (acc : Int32), 8 = t + k → k < fu → k < fu2 →
    ∃ r, f_X4_howMany_4_r F size fu acc (nI t) = some r ∧ f_X7_count_4_r F bytes actMany sizes st fu2 x1 acc (nI t) = (if x1 = (0 : Int32) then some r else if x1 = (1 : Int32) then some (st 2) else if x1 = (2 : Int32) then some (st 3) else if x1 = (3 : Int32) then some (st 4) else if x1 = (4 : Int32) then some actMany else if x1 = (5 : Int32) then some bytes else some (-1000001)) := by
  intro k
  induction k with
  | zero =>
    intro t fu fu2 acc h1 h2 h3
    obtain ⟨fu, rfl⟩ : ∃ q, fu = q + 1 := ⟨fu - 1, by omega⟩
    obtain ⟨fu2, rfl⟩ : ∃ q, fu2 = q + 1 := ⟨fu2 - 1, by omega⟩
    refine ⟨acc, ?_, ?_⟩
    · show f_X4_howMany_4 F size _ _ _ = _
      unfold f_X4_howMany_4
      simp (disch := omega) only [fl32, nI_add, pk_mul, pk_rem, nI_clamp, gdI, gdZ, gdB0, gdB1, nI_leI, nI_ltI, nI_eq, if_pos, if_neg, Option.bind_some, pk_us, pk_un, nn_eq, nn_le, nn_lt, nl_eq, if_true, if_false, eq_self, nl_le]
    · show f_X7_count_4 F _ _ sizes st _ _ _ _ = _
      unfold f_X7_count_4
      simp (disch := omega) only [fl32, gdI, nI_clamp, nI_leI, if_pos]
      rfl
  | succ k ih =>
    intro t fu fu2 acc h1 h2 h3
    obtain ⟨fu, rfl⟩ : ∃ q, fu = q + 1 := ⟨fu - 1, by omega⟩
    obtain ⟨fu2, rfl⟩ : ∃ q, fu2 = q + 1 := ⟨fu2 - 1, by omega⟩
    rcases hs t (by omega) with ⟨s1, s2⟩ | ⟨z, hz, s1, s2⟩
    · obtain ⟨r, q1, q2⟩ := ih (t + 1) fu fu2 (acc + nI 0) (by omega) (by omega) (by omega)
      refine ⟨r, ?_, ?_⟩
      · show f_X4_howMany_4 F size _ _ _ = _
        unfold f_X4_howMany_4 f_X4_howMany_24 f_X4_isMissing
        simp (disch := omega) only [fl32, nI_add, pk_mul, pk_rem, nI_clamp, gdI, gdZ, gdB0, gdB1, nI_leI, nI_ltI, nI_eq, if_pos, if_neg, Option.bind_some, pk_us, pk_un, nn_eq, nn_le, nn_lt, nl_eq, if_true, if_false, eq_self, nl_le, s1]
        exact q1
      · rw [← q2]
        show f_X7_count_4 F _ _ sizes st _ _ _ _ = _
        unfold f_X7_count_4 f_X7_count_25
        simp (disch := omega) only [fl32, nI_add, pk_mul, pk_rem, nI_clamp, gdI, gdZ, gdB0, gdB1, nI_leI, nI_ltI, nI_eq, if_pos, if_neg, Option.bind_some, pk_us, pk_un, nn_eq, nn_le, nn_lt, nl_eq, if_true, if_false, eq_self, nl_le, s2]
    · obtain ⟨r, q1, q2⟩ := ih (t + 1) fu fu2 (acc + nI 1) (by omega) (by omega) (by omega)
      refine ⟨r, ?_, ?_⟩
      · show f_X4_howMany_4 F size _ _ _ = _
        unfold f_X4_howMany_4 f_X4_howMany_24 f_X4_isMissing
        simp (disch := omega) only [fl32, nI_add, pk_mul, pk_rem, nI_clamp, gdI, gdZ, gdB0, gdB1, nI_leI, nI_ltI, nI_eq, if_pos, if_neg, Option.bind_some, pk_us, pk_un, nn_eq, nn_le, nn_lt, nl_eq, if_true, if_false, eq_self, nl_le, s1]
        exact q1
      · rw [← q2]
        show f_X7_count_4 F _ _ sizes st _ _ _ _ = _
        unfold f_X7_count_4 f_X7_count_25
        simp (disch := omega) only [fl32, nI_add, pk_mul, pk_rem, nI_clamp, gdI, gdZ, gdB0, gdB1, nI_leI, nI_ltI, nI_eq, if_pos, if_neg, Option.bind_some, pk_us, pk_un, nn_eq, nn_le, nn_lt, nl_eq, if_true, if_false, eq_self, nl_le, s2]
theorem k_count (F : Nat) (hF : 100000 ≤ F) (x1 : Int32) {size sizes st : Nat → Int32} {length things day cost many bytes actMany : Int32} (hs : ∀ r, r < 8 → (size r = -1 ∧ sizes r = -1) ∨ ∃ z : Nat, z ≤ 40 ∧ size r = nI z ∧ sizes r = nI z) (h2 : st 2 = things) (h3 : st 3 = day) (h4 : st 4 = cost) (hm : many = actMany) (hb : length = bytes) :
    ∃ r, f_X6_count F x1 size length things day cost many = some r ∧ f_X7_count F x1 bytes actMany sizes st = some r := by
  subst hm hb h2 h3 h4
  obtain ⟨r, q1, q2⟩ := s_count (F := F) (st := st) (bytes := length) (actMany := many) (x1 := x1) hs 8 0 F F 0 (by omega) (by omega) (by omega)
  have e1 : f_X4_howMany F size = some r := q1
  have e2 : f_X7_count F x1 length many sizes st = _ := q2
  rw [e2]
  unfold f_X6_count
  rw [e1]
  simp only [Option.bind_some]
  by_cases d0 : x1 = (0 : Int32)
  · simp only [if_pos d0]; exact ⟨_, rfl, rfl⟩
  simp only [if_neg d0]
  by_cases d1 : x1 = (1 : Int32)
  · simp only [if_pos d1]; exact ⟨_, rfl, rfl⟩
  simp only [if_neg d1]
  by_cases d2 : x1 = (2 : Int32)
  · simp only [if_pos d2]; exact ⟨_, rfl, rfl⟩
  simp only [if_neg d2]
  by_cases d3 : x1 = (3 : Int32)
  · simp only [if_pos d3]; exact ⟨_, rfl, rfl⟩
  simp only [if_neg d3]
  by_cases d4 : x1 = (4 : Int32)
  · simp only [if_pos d4]; exact ⟨_, rfl, rfl⟩
  simp only [if_neg d4]
  by_cases d5 : x1 = (5 : Int32)
  · simp only [if_pos d5]; exact ⟨_, rfl, rfl⟩
  simp only [if_neg d5]
  exact ⟨_, rfl, rfl⟩
theorem k_trace (F : Nat) (x1 : Int32) {trace tracez : Nat → Int32} {length traced : Int32} (h : IAsk length trace traced tracez) : ∃ r, f_X6_trace F x1 length trace = some r ∧ f_X7_trace F x1 traced tracez = some r := by
  obtain ⟨z, hz, rfl, rfl, ht⟩ := h
  unfold f_X6_trace f_X7_trace f_X1_traced
  cases z with
  | zero =>
    have e : nI 0 - (1 : Int32) = -1 := by decide
    have hc : f_X6_isWithin F x1 0 (-1) = some 0 := by
      unfold f_X6_isWithin
      by_cases h : x1 < 0
      · rw [if_pos h]
      · rw [if_neg h, if_pos]
        rw [Int32.lt_iff_toInt_lt, show (0 : Int32).toInt = 0 from by decide] at h
        rw [Int32.lt_iff_toInt_lt, show (-1 : Int32).toInt = -1 from by decide]; omega
    have hm : f_X7_in F x1.toInt64 0 (-1 : Int32).toInt64 = some 0 := by
      rw [s_in]
      by_cases h : x1.toInt64 < 0
      · rw [if_pos h]
      · rw [if_neg h, if_pos]
        rw [Int64.lt_iff_toInt_lt, t64, show (0 : Int64).toInt = 0 from by decide] at h
        rw [Int64.lt_iff_toInt_lt, t64, t64, show (-1 : Int32).toInt = -1 from by decide]; omega
    rw [e, hc, hm]
    exact ⟨_, rfl, rfl⟩
  | succ n =>
    have e : nI (n + 1) - (1 : Int32) = nI n := nI_pred n
    have e6 : (nI n).toInt64 = lN n := nI_l (by omega)
    rw [e, e6]
    rcases win x1 0 (nI n) 0 (lN n) 0 n rfl rfl rfl rfl (by omega) (by omega) with ⟨h4, h5⟩ | ⟨k, -, h2, rfl, h4, h5⟩
    · rw [h4, h5]
      exact ⟨_, rfl, rfl⟩
    · rw [h4, h5]
      have := ht k (by omega)
      simp (disch := omega) only [fl32, nI_add, pk_mul, pk_rem, nI_clamp, gdI, gdZ, gdB0, gdB1, nI_leI, nI_ltI, nI_eq, if_pos, if_neg, Option.bind_some, pk_us, pk_un, nn_eq, nn_le, nn_lt, nl_eq, if_true, if_false, eq_self, nl_le, this]
      exact ⟨_, rfl, rfl⟩
