/-! numbers: literals, bounds, guards, for 'simp (disch := omega)' -/
theorem fl32 (n : Nat) : (OfNat.ofNat n : Int32) = nI n := rfl
theorem fl64 (n : Nat) : (OfNat.ofNat n : Int64) = lN n := rfl
theorem gdI {α : Type} {k n : Nat} {x : Option α} (h : k < n) (hn : n < 2147483648) : gd (inb (nI k) n) x = x := by
  have h1 : inb (nI k) n = true := decide_eq_true (nI_in h hn)
  rw [h1]; rfl
theorem gdZ {α : Type} {k : Nat} {x : Option α} (h : 0 < k) (hn : k < 2147483648) : gd (nz (nI k)) x = x := by
  have h1 : nz (nI k) = true := decide_eq_true (nI_ne0 h hn)
  rw [h1]; rfl
theorem gdB0 {α : Type} {x : Option α} : gd (isb (nI 0)) x = x := rfl
theorem gdB1 {α : Type} {x : Option α} : gd (isb (nI 1)) x = x := rfl
theorem nn_eq {a b : Nat} (ha : a < 2147483648) (hb0 : 0 < b) (hb : b < 2147483648) : (nI a = -nI b) = False := by
  refine eq_false (fun h => ?_)
  have h1 := congrArg Int32.toInt h
  rw [nI_toInt ha, sb_negT hb] at h1
  omega
theorem nn_le {a b : Nat} (ha : a < 2147483648) (hb0 : 0 < b) (hb : b < 2147483648) : (nI a ≤ -nI b) = False := by
  refine eq_false (fun h => ?_)
  rw [Int32.le_iff_toInt_le, nI_toInt ha, sb_negT hb] at h
  omega
theorem nn_lt {a b : Nat} (ha : a < 2147483648) (hb0 : 0 < b) (hb : b < 2147483648) : (-nI b < nI a) = True := by
  refine eq_true ?_
  rw [Int32.lt_iff_toInt_lt, nI_toInt ha, sb_negT hb]
  omega
theorem nl_eq {a b : Nat} (ha : a < 2147483648) (hb0 : 0 < b) (hb : b < 2147483648) : (-nI b = nI a) = False := by
  refine eq_false (fun h => ?_)
  have h1 := congrArg Int32.toInt h
  rw [nI_toInt ha, sb_negT hb] at h1
  omega
theorem jc_lt {x y : Int64} : (lg_cmp x y < (0 : Int32)) = (x < y) := by
  unfold lg_cmp
  by_cases h1 : y < x
  · rw [if_pos h1]
    exact propext ⟨fun h => absurd h (by decide), fun h => absurd h1 (by rw [Int64.lt_iff_toInt_lt] at *; omega)⟩
  · rw [if_neg h1]
    by_cases h2 : x = y
    · rw [if_pos h2]
      exact propext ⟨fun h => absurd h (by decide), fun h => absurd h (by rw [h2, Int64.lt_iff_toInt_lt]; omega)⟩
    · rw [if_neg h2]
      refine propext ⟨fun _ => ?_, fun _ => by decide⟩
      have h3 : x.toInt ≠ y.toInt := fun e => h2 (Int64.toInt_inj.mp e)
      rw [Int64.lt_iff_toInt_lt] at *
      omega
theorem jc_gt {x y : Int64} : ((0 : Int32) < lg_cmp x y) = (y < x) := by
  unfold lg_cmp
  by_cases h1 : y < x
  · rw [if_pos h1]
    exact propext ⟨fun _ => h1, fun _ => by decide⟩
  · rw [if_neg h1]
    by_cases h2 : x = y
    · rw [if_pos h2]
      exact propext ⟨fun h => absurd h (by decide), fun h => absurd h h1⟩
    · rw [if_neg h2]
      exact propext ⟨fun h => absurd h (by decide), fun h => absurd h h1⟩
theorem jc_eq {x y : Int64} : (lg_cmp x y = (0 : Int32)) = (x = y) := by
  unfold lg_cmp
  by_cases h1 : y < x
  · rw [if_pos h1]
    exact propext ⟨fun h => absurd h (by decide), fun h => absurd h1 (by rw [h, Int64.lt_iff_toInt_lt]; omega)⟩
  · rw [if_neg h1]
    by_cases h2 : x = y
    · rw [if_pos h2]
      exact propext ⟨fun _ => h2, fun _ => rfl⟩
    · rw [if_neg h2]
      exact propext ⟨fun h => absurd h (by decide), fun h => absurd h h2⟩
theorem s_in {F : Nat} {v a b : Int64} : f_X7_in F v a b = some (if v < a then 0 else if b < v then 0 else 1) := by
  unfold f_X7_in
  simp only [jc_lt, jc_gt]
  by_cases h1 : v < a
  · simp only [if_pos h1]
  · simp only [if_neg h1]
    by_cases h2 : b < v
    · simp only [if_pos h2]
    · simp only [if_neg h2]
theorem t64 (x : Int32) : x.toInt64.toInt = x.toInt := Int32.toInt_toInt64 x
/-- a number within bounds, as class and reference ask it -/
theorem win (x lo hi : Int32) (lo6 hi6 : Int64) (a b : Nat) (h1 : lo = nI a) (h2 : hi = nI b) (h3 : lo6 = lN a) (h4 : hi6 = lN b) (hab : a ≤ b) (hb : b < 2147483648) :
    ((∀ F, f_X6_isWithin F x lo hi = some 0) ∧ (∀ F, f_X7_in F x.toInt64 lo6 hi6 = some 0)) ∨ (∃ k, a ≤ k ∧ k ≤ b ∧ x = nI k ∧ (∀ F, f_X6_isWithin F x lo hi = some 1) ∧ (∀ F, f_X7_in F x.toInt64 lo6 hi6 = some 1)) := by
  subst h1 h2 h3 h4
  have hA : (nI a).toInt = a := nI_toInt (by omega)
  have hB : (nI b).toInt = b := nI_toInt hb
  have hA6 : (lN a).toInt = a := lN_toInt (by omega)
  have hB6 : (lN b).toInt = b := lN_toInt hb
  by_cases c1 : x < nI a
  · left
    refine ⟨fun F => by unfold f_X6_isWithin; rw [if_pos c1], fun F => ?_⟩
    rw [s_in, if_pos]
    rw [Int32.lt_iff_toInt_lt] at c1
    rw [Int64.lt_iff_toInt_lt, t64, hA6]
    omega
  · by_cases c2 : nI b < x
    · left
      refine ⟨fun F => by unfold f_X6_isWithin; rw [if_neg c1, if_pos c2], fun F => ?_⟩
      rw [s_in, if_neg, if_pos]
      · rw [Int32.lt_iff_toInt_lt] at c2
        rw [Int64.lt_iff_toInt_lt, t64, hB6]
        omega
      · rw [Int32.lt_iff_toInt_lt] at c1
        rw [Int64.lt_iff_toInt_lt, t64, hA6]
        omega
    · right
      have e1 := c1
      have e2 := c2
      rw [Int32.lt_iff_toInt_lt, hA] at e1
      rw [Int32.lt_iff_toInt_lt, hB] at e2
      obtain ⟨k, hk, rfl⟩ := nI_of (x := x) (by rw [Int32.lt_iff_toInt_lt, show (0 : Int32).toInt = 0 from by decide]; omega)
      have hK : (nI k).toInt = k := nI_toInt (by omega)
      refine ⟨k, by omega, by omega, rfl, fun F => by unfold f_X6_isWithin; rw [if_neg c1, if_neg c2], fun F => ?_⟩
      rw [s_in, if_neg, if_neg]
      · rw [Int64.lt_iff_toInt_lt, t64, hB6]; omega
      · rw [Int64.lt_iff_toInt_lt, t64, hA6]; omega
theorem rowc (x : Int32) : ((∀ F, f_X6_isRow F x = some 0) ∧ (∀ F, f_X7_isRow F x = some 0)) ∨ (∃ r, r < 8 ∧ x = nI r ∧ (∀ F, f_X6_isRow F x = some 1) ∧ (∀ F, f_X7_isRow F x = some 1)) := by
  rcases win x 0 7 0 7 0 7 rfl rfl rfl rfl (by decide) (by decide) with ⟨h4, h5⟩ | ⟨k, -, h2, h3, h4, h5⟩
  · left
    refine ⟨fun F => ?_, fun F => ?_⟩
    · unfold f_X6_isRow; rw [h4]; rfl
    · unfold f_X7_isRow; rw [h5]; rfl
  · right
    refine ⟨k, by omega, h3, fun F => ?_, fun F => ?_⟩
    · unfold f_X6_isRow; rw [h4]; rfl
    · unfold f_X7_isRow; rw [h5]; rfl
/-- a thing's number: it is one, or both say no -/
theorem thc (x : Int32) (n : Nat) (hn : n ≤ 6) : ((∀ F, f_X3_has F x (nI n) = some 0) ∧ (∀ F (st : Nat → Int32), st 2 = nI n → f_X7_isThing F x st = some 0)) ∨ (∃ t, t < n ∧ x = nI t ∧ (∀ F, f_X3_has F x (nI n) = some 1) ∧ (∀ F (st : Nat → Int32), st 2 = nI n → f_X7_isThing F x st = some 1)) := by
  cases n with
  | zero =>
    left
    have e : nI 0 - (1 : Int32) = -1 := by decide
    have key : x < 0 ∨ (-1 : Int32) < x := by
      rw [Int32.lt_iff_toInt_lt, Int32.lt_iff_toInt_lt, show (0 : Int32).toInt = 0 from by decide, show (-1 : Int32).toInt = -1 from by decide]
      omega
    refine ⟨fun F => ?_, fun F st h => ?_⟩
    · unfold f_X3_has f_X6_isWithin
      rw [e]
      rcases key with h | h
      · rw [if_pos h]; rfl
      · by_cases h2 : x < 0
        · rw [if_pos h2]; rfl
        · rw [if_neg h2, if_pos h]; rfl
    · unfold f_X7_isThing
      have h' : st (2 : Int32).toNatClampNeg = nI 0 := h
      rw [h', e]
      have h2 : ∀ v : Int32, v = 0 → (gd (inb (2 : Int32) 41) ((some v).bind fun u2 => gd (isb u2) (some u2))) = some 0 := by
        intro v hv; rw [hv]; rfl
      rw [s_in]
      apply h2
      by_cases h3 : x.toInt64 < 0
      · rw [if_pos h3]
      · rw [if_neg h3, if_pos]
        rw [Int64.lt_iff_toInt_lt, t64, show (0 : Int64).toInt = 0 from by decide] at h3
        rw [Int64.lt_iff_toInt_lt, t64, t64, show (-1 : Int32).toInt = -1 from by decide]
        omega
  | succ n =>
    have e : nI (n + 1) - (1 : Int32) = nI n := nI_pred n
    have e6 : (nI n).toInt64 = lN n := nI_l (by omega)
    rcases win x 0 (nI n) 0 (lN n) 0 n rfl rfl rfl rfl (by omega) (by omega) with ⟨h4, h5⟩ | ⟨k, -, h2, h3, h4, h5⟩
    · left
      refine ⟨fun F => ?_, fun F st h => ?_⟩
      · unfold f_X3_has; rw [e, h4]; rfl
      · unfold f_X7_isThing
        have h' : st (2 : Int32).toNatClampNeg = nI (n + 1) := h
        rw [h', e, e6, h5]; rfl
    · right
      refine ⟨k, by omega, h3, fun F => ?_, fun F st h => ?_⟩
      · unfold f_X3_has; rw [e, h4]; rfl
      · unfold f_X7_isThing
        have h' : st (2 : Int32).toNatClampNeg = nI (n + 1) := h
        rw [h', e, e6, h5]; rfl
theorem one_ne : ¬ ((1 : Int32) = 0) := by decide
theorem nl_le {a b : Nat} (ha : a < 2147483648) (hb0 : 0 < b) (hb : b < 2147483648) : (-nI b ≤ nI a) = True := by
  refine eq_true ?_
  rw [Int32.le_iff_toInt_le, nI_toInt ha, sb_negT hb]
  omega
theorem ln_go (x s : Int32) (k : Nat) (h1 : (s.toBitVec.smod 32).toNat = k) : ((x <<< s) >>> s).toInt = ((x.toBitVec.toNat * 2 ^ k % 2 ^ 32 : Nat) : Int).bmod (2 ^ 32) / 2 ^ k := by
  have e : (x <<< s).toInt = ((x.toBitVec.toNat * 2 ^ k % 2 ^ 32 : Nat) : Int).bmod (2 ^ 32) := by
    show (x <<< s).toBitVec.toInt = _
    rw [BitVec.toInt_eq_toNat_bmod, pk_shl x s k h1]
  rw [pk_shr _ _ k h1, Int.shiftRight_eq_div_pow, e]
  rfl
theorem ln8 (x : Int32) : (x <<< ((24 : Int32) &&& 31)) >>> ((24 : Int32) &&& 31) = x.toInt8.toInt32 := by
  apply Int32.toInt_inj.mp
  rw [ln_go x _ 24 (by decide), Int8.toInt_toInt32, Int32.toInt_toInt8]
  show _ = (x.toBitVec.toInt).bmod (2 ^ 8)
  rw [BitVec.toInt_eq_toNat_bmod]
  have := x.toBitVec.isLt
  generalize x.toBitVec.toNat = N at *
  simp only [Int.bmod]
  split <;> split <;> split <;> omega
theorem ln16 (x : Int32) : (x <<< ((16 : Int32) &&& 31)) >>> ((16 : Int32) &&& 31) = x.toInt16.toInt32 := by
  apply Int32.toInt_inj.mp
  rw [ln_go x _ 16 (by decide), Int16.toInt_toInt32, Int32.toInt_toInt16]
  show _ = (x.toBitVec.toInt).bmod (2 ^ 16)
  rw [BitVec.toInt_eq_toNat_bmod]
  have := x.toBitVec.isLt
  generalize x.toBitVec.toNat = N at *
  simp only [Int.bmod]
  split <;> split <;> split <;> omega
/-- n places of a row of z, from i on -/
theorem plc (i : Int32) (z n : Nat) (hz : z ≤ 40) (hn : n ≤ 40) : ((∀ F r (size : Nat → Int32), r < 8 → size r = nI z → f_X4_hasPlaces F (nI r) i (nI n) size = some 0) ∧ (∀ F, f_X7_in F i.toInt64 0 (nI z - nI n).toInt64 = some 0)) ∨
    (∃ a, a + n ≤ z ∧ i = nI a ∧ (∀ F r (size : Nat → Int32), r < 8 → size r = nI z → f_X4_hasPlaces F (nI r) i (nI n) size = some 1) ∧ (∀ F, f_X7_in F i.toInt64 0 (nI z - nI n).toInt64 = some 1)) := by
  have hd : (nI z - nI n).toInt64.toInt = (z : Int) - n := by rw [t64, pk_sub_toInt (by omega) (by omega)]
  have hn0 : ¬ nI n < (0 : Int32) := nI_pos (by omega)
  by_cases c1 : i < (0 : Int32)
  · left
    refine ⟨fun F r size _ _ => by unfold f_X4_hasPlaces; rw [if_pos c1], fun F => ?_⟩
    rw [s_in, if_pos]
    rw [Int32.lt_iff_toInt_lt] at c1
    rw [Int64.lt_iff_toInt_lt, t64]
    exact c1
  · obtain ⟨a, ha, rfl⟩ := nI_of c1
    have c1' : ¬ (nI a).toInt64 < 0 := by
      rw [Int64.lt_iff_toInt_lt, t64, nI_toInt ha, show (0 : Int64).toInt = 0 from by decide]; omega
    by_cases c2 : a + n ≤ z
    · right
      refine ⟨a, c2, rfl, fun F r size hr hs => ?_, fun F => ?_⟩
      · unfold f_X4_hasPlaces
        rw [if_neg c1, if_neg hn0]
        simp (disch := omega) only [gdI, nI_clamp, hs, nI_ltI, if_neg, pk_sub]
      · rw [s_in, if_neg c1', if_neg]
        rw [Int64.lt_iff_toInt_lt, hd, t64, nI_toInt ha]; omega
    · left
      refine ⟨fun F r size hr hs => ?_, fun F => ?_⟩
      · unfold f_X4_hasPlaces
        rw [if_neg c1, if_neg hn0]
        by_cases c3 : z < a
        · simp (disch := omega) only [gdI, nI_clamp, hs, nI_ltI, if_pos]
        · simp (disch := omega) only [gdI, nI_clamp, hs, nI_ltI, if_neg, pk_sub, if_pos]
      · rw [s_in, if_neg c1', if_pos]
        rw [Int64.lt_iff_toInt_lt, hd, t64, nI_toInt ha]; omega
/-- the same, of any number of places -/
theorem plc2 (i n : Int32) (hn : ¬ n < 0) (z : Nat) (hz : z ≤ 40) : ((∀ F r (size : Nat → Int32), r < 8 → size r = nI z → f_X4_hasPlaces F (nI r) i n size = some 0) ∧ (∀ F, f_X7_in F i.toInt64 0 ((nI z).toInt64 - n.toInt64) = some 0)) ∨
    (∃ a b, a + b ≤ z ∧ i = nI a ∧ n = nI b ∧ (∀ F r (size : Nat → Int32), r < 8 → size r = nI z → f_X4_hasPlaces F (nI r) i n size = some 1) ∧ (∀ F, f_X7_in F i.toInt64 0 ((nI z).toInt64 - n.toInt64) = some 1)) := by
  obtain ⟨b, hb, rfl⟩ := nI_of hn
  have hd : ((nI z).toInt64 - (nI b).toInt64).toInt = (z : Int) - b := by
    rw [Int64.toInt_sub, t64, t64, nI_toInt (by omega), nI_toInt hb]
    exact Int.bmod_eq_of_le (by omega) (by omega)
  by_cases c1 : i < (0 : Int32)
  · left
    refine ⟨fun F r size _ _ => by unfold f_X4_hasPlaces; rw [if_pos c1], fun F => ?_⟩
    rw [s_in, if_pos]
    rw [Int32.lt_iff_toInt_lt] at c1
    rw [Int64.lt_iff_toInt_lt, t64]
    exact c1
  · obtain ⟨a, ha, rfl⟩ := nI_of c1
    have c1' : ¬ (nI a).toInt64 < 0 := by
      rw [Int64.lt_iff_toInt_lt, t64, nI_toInt ha, show (0 : Int64).toInt = 0 from by decide]; omega
    by_cases c2 : a + b ≤ z
    · right
      refine ⟨a, b, c2, rfl, rfl, fun F r size hr hs => ?_, fun F => ?_⟩
      · unfold f_X4_hasPlaces
        rw [if_neg c1, if_neg hn]
        simp (disch := omega) only [gdI, nI_clamp, hs, nI_ltI, if_neg, pk_sub]
      · rw [s_in, if_neg c1', if_neg]
        rw [Int64.lt_iff_toInt_lt, hd, t64, nI_toInt ha]; omega
    · left
      refine ⟨fun F r size hr hs => ?_, fun F => ?_⟩
      · unfold f_X4_hasPlaces
        rw [if_neg c1, if_neg hn]
        by_cases c3 : z < a
        · simp (disch := omega) only [gdI, nI_clamp, hs, nI_ltI, if_pos]
        · simp (disch := omega) only [gdI, nI_clamp, hs, nI_ltI, if_neg, pk_sub, if_pos]
      · rw [s_in, if_neg c1', if_pos]
        rw [Int64.lt_iff_toInt_lt, hd, t64, nI_toInt ha]; omega
