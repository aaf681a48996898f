/-! a land's text: signs and numbers -/
section LANDT
variable {F z : Nat} {bytes tape : Nat → Int32} {C : Nat → Nat}
def Chs (z : Nat) (C : Nat → Nat) (bytes tape : Nat → Int32) : Prop := z ≤ 100 ∧ ∀ i, i < z → C i ≤ 255 ∧ bytes i = nI (C i) ∧ tape i = nI (C i)
def Dg (z : Nat) (C : Nat → Nat) (p : Nat) : Prop := p < z ∧ 48 ≤ C p ∧ C p ≤ 57
theorem Dg_dec (z : Nat) (C : Nat → Nat) (p : Nat) : Dg z C p ∨ ¬ Dg z C p := by unfold Dg; omega
theorem fig1 (h : Chs z C bytes tape) {p : Nat} (hd : Dg z C p) : f_X5_isFigureAt F (nI p) (nI z) bytes = some 1 := by
  obtain ⟨hz, hc⟩ := h
  obtain ⟨h1, h2, h3⟩ := hd
  have hb := (hc p h1).2.1
  unfold f_X5_isFigureAt f_X6_isWithin
  simp (disch := omega) only [fl32, nI_add, pk_mul, pk_rem, nI_clamp, gdI, gdZ, gdB0, gdB1, nI_leI, nI_ltI, nI_eq, if_pos, if_neg, Option.bind_some, pk_us, pk_un, nn_eq, nn_le, nn_lt, nl_eq, if_true, if_false, eq_self, nl_le, hb]
theorem fig0 (h : Chs z C bytes tape) {p : Nat} (hp : p ≤ 200) (hd : ¬ Dg z C p) : f_X5_isFigureAt F (nI p) (nI z) bytes = some 0 := by
  obtain ⟨hz, hc⟩ := h
  unfold f_X5_isFigureAt f_X6_isWithin
  by_cases c : p < z
  · have hb := (hc p c).2.1
    have hb5 := (hc p c).1
    unfold Dg at hd
    by_cases c2 : C p < 48
    · simp (disch := omega) only [fl32, nI_add, pk_mul, pk_rem, nI_clamp, gdI, gdZ, gdB0, gdB1, nI_leI, nI_ltI, nI_eq, if_pos, if_neg, Option.bind_some, pk_us, pk_un, nn_eq, nn_le, nn_lt, nl_eq, if_true, if_false, eq_self, nl_le, hb]
    · simp (disch := omega) only [fl32, nI_add, pk_mul, pk_rem, nI_clamp, gdI, gdZ, gdB0, gdB1, nI_leI, nI_ltI, nI_eq, if_pos, if_neg, Option.bind_some, pk_us, pk_un, nn_eq, nn_le, nn_lt, nl_eq, if_true, if_false, eq_self, nl_le, hb]
  · simp (disch := omega) only [fl32, nI_add, pk_mul, pk_rem, nI_clamp, gdI, gdZ, gdB0, gdB1, nI_leI, nI_ltI, nI_eq, if_pos, if_neg, Option.bind_some, pk_us, pk_un, nn_eq, nn_le, nn_lt, nl_eq, if_true, if_false, eq_self, nl_le]
theorem in7 {v lo hi : Nat} (hv : v < 1000000) (hlo : lo < 1000000) (hhi : hi < 1000000) : f_X7_in F (nI v).toInt64 (lN lo) (lN hi) = some (if lo ≤ v ∧ v ≤ hi then 1 else 0) := by
  rw [s_in, nI_l (by omega)]
  by_cases c1 : v < lo
  · rw [if_pos ((lN_lt (by omega) (by omega)).mpr c1), if_neg (by omega)]
  · rw [if_neg (fun hh => c1 ((lN_lt (by omega) (by omega)).mp hh))]
    by_cases c2 : hi < v
    · rw [if_pos ((lN_lt (by omega) (by omega)).mpr c2), if_neg (by omega)]
    · rw [if_neg (fun hh => c2 ((lN_lt (by omega) (by omega)).mp hh)), if_pos (by omega)]
/-- the class's number, in the four ways a run of figures can be -/
theorem num0 (h : Chs z C bytes tape) (hF : 100000 ≤ F) {a lo hi : Nat} {lf fp : Int32} (ha : a ≤ z) (h0 : ¬ Dg z C a) : f_X5_readNumber F (nI lo) (nI hi) (nI z) bytes lf (nI a) fp = f_X5_readNumber_61 F (nI z) bytes lf (nI a) fp 0 := by
  obtain ⟨F, rfl⟩ : ∃ q, F = q + 1 := ⟨F - 1, by omega⟩
  have hz := h.1
  have f0 := fig0 (F := F + 1) h (p := a) (by omega) h0
  unfold f_X5_readNumber
  show f_X5_readNumber_5 (F + 1) _ _ _ _ _ _ _ _ _ _ = _
  unfold f_X5_readNumber_5 f_X5_readNumber_51
  simp (disch := omega) only [fl32, nI_leI, if_neg, nI_add, Nat.add_zero, f0, Option.bind_some, nI_eq, if_pos, nI_ltI, if_true]
theorem num1 (h : Chs z C bytes tape) (hF : 100000 ≤ F) {a lo hi : Nat} {lf fp : Int32} (h0 : Dg z C a) (h1 : ¬ Dg z C (a + 1)) : f_X5_readNumber F (nI lo) (nI hi) (nI z) bytes lf (nI a) fp = f_X5_readNumber_51 F (nI z) bytes lf (nI a) fp (nI lo) (nI hi) (nI 1) (nI (C a - 48)) := by
  obtain ⟨F, rfl⟩ : ∃ q, F = q + 1 + 1 := ⟨F - 2, by omega⟩
  have hz := h.1
  have h0' := h0
  obtain ⟨g1, g2, g3⟩ := h0'
  have hb := (h.2 a g1).2.1
  have f0 := fig1 (F := F + 1 + 1) h h0
  have f1 := fig0 (F := F + 1 + 1) h (p := a + 1) (by omega) h1
  unfold f_X5_readNumber
  show f_X5_readNumber_5 (F + 1 + 1) _ _ _ _ _ _ _ _ _ _ = _
  unfold f_X5_readNumber_5
  simp (disch := omega) only [fl32, nI_leI, if_neg, nI_add, Nat.add_zero, f0, Option.bind_some, nI_eq, gdI, nI_clamp, hb, pk_mul, pk_sub]
  show f_X5_readNumber_5 (F + 1 + 1) _ _ _ _ _ _ _ _ _ _ = _
  unfold f_X5_readNumber_5
  simp (disch := omega) only [fl32, nI_leI, if_neg, nI_add, f1, Option.bind_some, nI_eq, if_pos, Nat.zero_mul, Nat.zero_add, if_true]
theorem num2 (h : Chs z C bytes tape) (hF : 100000 ≤ F) {a lo hi : Nat} {lf fp : Int32} (h0 : Dg z C a) (h1 : Dg z C (a + 1)) (h2 : ¬ Dg z C (a + 2)) : f_X5_readNumber F (nI lo) (nI hi) (nI z) bytes lf (nI a) fp = f_X5_readNumber_51 F (nI z) bytes lf (nI a) fp (nI lo) (nI hi) (nI 2) (nI ((C a - 48) * 10 + C (a + 1) - 48)) := by
  obtain ⟨F, rfl⟩ : ∃ q, F = q + 1 + 1 + 1 := ⟨F - 3, by omega⟩
  have hz := h.1
  have h0' := h0
  obtain ⟨g1, g2, g3⟩ := h0'
  have h1' := h1
  obtain ⟨g4, g5, g6⟩ := h1'
  have hb := (h.2 a g1).2.1
  have hb1 := (h.2 (a + 1) g4).2.1
  have f0 := fig1 (F := F + 1 + 1 + 1) h h0
  have f1 := fig1 (F := F + 1 + 1 + 1) h h1
  have f2 := fig0 (F := F + 1 + 1 + 1) h (p := a + 2) (by omega) h2
  unfold f_X5_readNumber
  show f_X5_readNumber_5 (F + 1 + 1 + 1) _ _ _ _ _ _ _ _ _ _ = _
  unfold f_X5_readNumber_5
  simp (disch := omega) only [fl32, nI_leI, if_neg, nI_add, Nat.add_zero, f0, Option.bind_some, nI_eq, gdI, nI_clamp, hb, pk_mul, pk_sub, Nat.zero_mul, Nat.zero_add]
  show f_X5_readNumber_5 (F + 1 + 1 + 1) _ _ _ _ _ _ _ _ _ _ = _
  unfold f_X5_readNumber_5
  simp (disch := omega) only [fl32, nI_leI, if_neg, nI_add, f1, Option.bind_some, nI_eq, gdI, nI_clamp, hb1, pk_mul, pk_sub]
  show f_X5_readNumber_5 (F + 1 + 1 + 1) _ _ _ _ _ _ _ _ _ _ = _
  unfold f_X5_readNumber_5
  simp (disch := omega) only [fl32, nI_leI, if_neg, nI_add, f2, Option.bind_some, nI_eq, if_pos, if_true]
theorem num3 (h : Chs z C bytes tape) (hF : 100000 ≤ F) {a lo hi : Nat} {lf fp : Int32} (h0 : Dg z C a) (h1 : Dg z C (a + 1)) (h2 : Dg z C (a + 2)) : ∃ v, f_X5_readNumber F (nI lo) (nI hi) (nI z) bytes lf (nI a) fp = f_X5_readNumber_61 F (nI z) bytes lf (nI a) fp v := by
  obtain ⟨F, rfl⟩ : ∃ q, F = q + 1 + 1 + 1 + 1 := ⟨F - 4, by omega⟩
  have hz := h.1
  have h0' := h0
  obtain ⟨g1, g2, g3⟩ := h0'
  have h1' := h1
  obtain ⟨g4, g5, g6⟩ := h1'
  have h2' := h2
  obtain ⟨g7, g8, g9⟩ := h2'
  have f0 := fig1 (F := F + 1 + 1 + 1 + 1) h h0
  have f1 := fig1 (F := F + 1 + 1 + 1 + 1) h h1
  have f2 := fig1 (F := F + 1 + 1 + 1 + 1) h h2
  refine ⟨((((0 : Int32) * 10 + bytes a - 48) * 10 + bytes (a + 1) - 48) * 10 + bytes (a + 2) - 48), ?_⟩
  unfold f_X5_readNumber
  show f_X5_readNumber_5 (F + 1 + 1 + 1 + 1) _ _ _ _ _ _ _ _ _ _ = _
  unfold f_X5_readNumber_5
  rw [if_neg (show ¬ (3 : Int32) ≤ 0 from by decide), show nI a + (0 : Int32) = nI a from nI_add a 0, f0, Option.bind_some, if_neg one_ne, gdI (by omega) (by omega), nI_clamp (by omega)]
  show f_X5_readNumber_5 (F + 1 + 1 + 1 + 1) _ _ _ _ _ _ _ _ _ _ = _
  unfold f_X5_readNumber_5
  rw [if_neg (show ¬ (3 : Int32) ≤ 0 + 1 from by decide), show nI a + ((0 : Int32) + 1) = nI (a + 1) from nI_add a 1, f1, Option.bind_some, if_neg one_ne, gdI (by omega) (by omega), nI_clamp (by omega)]
  show f_X5_readNumber_5 (F + 1 + 1 + 1 + 1) _ _ _ _ _ _ _ _ _ _ = _
  unfold f_X5_readNumber_5
  rw [if_neg (show ¬ (3 : Int32) ≤ 0 + 1 + 1 from by decide), show nI a + ((0 : Int32) + 1 + 1) = nI (a + 2) from nI_add a 2, f2, Option.bind_some, if_neg one_ne, gdI (by omega) (by omega), nI_clamp (by omega)]
  show f_X5_readNumber_5 (F + 1 + 1 + 1 + 1) _ _ _ _ _ _ _ _ _ _ = _
  unfold f_X5_readNumber_5 f_X5_readNumber_51
  rw [if_pos (show (3 : Int32) ≤ 0 + 1 + 1 + 1 from by decide), if_neg (show ¬ (0 : Int32) + 1 + 1 + 1 < 1 from by decide), if_neg (show ¬ (0 : Int32) + 1 + 1 + 1 ≤ 2 from by decide)]
/-- the reference's tokens -/
theorem tk3 (h : Chs z C bytes tape) (hF : 100000 ≤ F) {t v b : Int32} : f_X7_nextToken F (nI z) tape (nI z) t v b = some (nI z, 3, 0, nI z) := by
  obtain ⟨F, rfl⟩ : ∃ q, F = q + 1 := ⟨F - 1, by omega⟩
  have hz := h.1
  unfold f_X7_nextToken f_X7_nextToken_25
  rw [if_pos rfl]
  show f_X7_nextToken_33 (F + 1) _ _ _ _ _ _ _ = _
  unfold f_X7_nextToken_33 f_X7_nextToken_119
  simp (disch := omega) only [fl32, nI_add, pk_mul, pk_rem, nI_clamp, gdI, gdZ, gdB0, gdB1, nI_leI, nI_ltI, nI_eq, if_pos, if_neg, Option.bind_some, pk_us, pk_un, nn_eq, nn_le, nn_lt, nl_eq, if_true, if_false, eq_self, nl_le]
theorem tk_ne {a : Nat} (h : Chs z C bytes tape) (ha : a < z) {t v b : Int32} : f_X7_nextToken F (nI z) tape (nI a) t v b = f_X7_nextToken_33_r F (nI z) tape F (nI a) 0 0 (nI a) := by
  have hz := h.1
  unfold f_X7_nextToken f_X7_nextToken_25
  rw [if_neg (fun e => by rw [nI_eq (by omega) (by omega)] at e; omega)]
theorem tk1 (h : Chs z C bytes tape) (hF : 100000 ≤ F) {a : Nat} {t v b : Int32} (ha : a < z) (hl : (97 ≤ C a ∧ C a ≤ 122) ∨ C a = 44 ∨ C a = 59) : f_X7_nextToken F (nI z) tape (nI a) t v b = some (nI (a + 1), 1, nI (C a), nI a) := by
  rw [tk_ne h ha]
  obtain ⟨F, rfl⟩ : ∃ q, F = q + 1 := ⟨F - 1, by omega⟩
  have hz := h.1
  have ht := (h.2 a ha).2.2
  have h5 := (h.2 a ha).1
  have i1 := in7 (F := F + 1) (v := C a) (lo := 48) (hi := 57) (by omega) (by omega) (by omega)
  have i2 := in7 (F := F + 1) (v := C a) (lo := 97) (hi := 122) (by omega) (by omega) (by omega)
  rw [if_neg (by omega)] at i1
  show f_X7_nextToken_33 (F + 1) _ _ _ _ _ _ _ = _
  unfold f_X7_nextToken_33 f_X7_nextToken_119 f_X7_nextToken_211 f_X7_nextToken_216
  by_cases c : 97 ≤ C a ∧ C a ≤ 122
  · rw [if_pos c] at i2
    simp (disch := omega) only [fl32, nI_add, pk_mul, pk_rem, nI_clamp, gdI, gdZ, gdB0, gdB1, nI_leI, nI_ltI, nI_eq, if_pos, if_neg, Option.bind_some, pk_us, pk_un, nn_eq, nn_le, nn_lt, nl_eq, if_true, if_false, eq_self, nl_le, ht, fl64, i1, i2]
  · rw [if_neg c] at i2
    by_cases c2 : C a = 44
    · simp (disch := omega) only [fl32, nI_add, pk_mul, pk_rem, nI_clamp, gdI, gdZ, gdB0, gdB1, nI_leI, nI_ltI, nI_eq, if_pos, if_neg, Option.bind_some, pk_us, pk_un, nn_eq, nn_le, nn_lt, nl_eq, if_true, if_false, eq_self, nl_le, ht, fl64, i1, i2]
    · simp (disch := omega) only [fl32, nI_add, pk_mul, pk_rem, nI_clamp, gdI, gdZ, gdB0, gdB1, nI_leI, nI_ltI, nI_eq, if_pos, if_neg, Option.bind_some, pk_us, pk_un, nn_eq, nn_le, nn_lt, nl_eq, if_true, if_false, eq_self, nl_le, ht, fl64, i1, i2]
theorem tk0 (h : Chs z C bytes tape) (hF : 100000 ≤ F) {a : Nat} {t v b : Int32} (ha : a < z) (hd : ¬ Dg z C a) (hl : ¬ ((97 ≤ C a ∧ C a ≤ 122) ∨ C a = 44 ∨ C a = 59)) : f_X7_nextToken F (nI z) tape (nI a) t v b = some (nI (a + 1), 0, nI (C a), nI a) := by
  rw [tk_ne h ha]
  obtain ⟨F, rfl⟩ : ∃ q, F = q + 1 := ⟨F - 1, by omega⟩
  have hz := h.1
  have ht := (h.2 a ha).2.2
  have h5 := (h.2 a ha).1
  have i1 := in7 (F := F + 1) (v := C a) (lo := 48) (hi := 57) (by omega) (by omega) (by omega)
  have i2 := in7 (F := F + 1) (v := C a) (lo := 97) (hi := 122) (by omega) (by omega) (by omega)
  unfold Dg at hd
  rw [if_neg (by omega)] at i1 i2
  show f_X7_nextToken_33 (F + 1) _ _ _ _ _ _ _ = _
  unfold f_X7_nextToken_33 f_X7_nextToken_119 f_X7_nextToken_211 f_X7_nextToken_216
  simp (disch := omega) only [fl32, nI_add, pk_mul, pk_rem, nI_clamp, gdI, gdZ, gdB0, gdB1, nI_leI, nI_ltI, nI_eq, if_pos, if_neg, Option.bind_some, pk_us, pk_un, nn_eq, nn_le, nn_lt, nl_eq, if_true, if_false, eq_self, nl_le, ht, fl64, i1, i2]
theorem tkD (h : Chs z C bytes tape) {fu p : Nat} {v tok beg : Int32} (hv : v ≤ 99) (hd : Dg z C p) : f_X7_nextToken_33_r F (nI z) tape (fu + 1) (nI p) tok v beg = f_X7_nextToken_33_r F (nI z) tape fu (nI (p + 1)) tok (10 * v + nI (C p) - 48) beg := by
  have hz := h.1
  obtain ⟨g1, g2, g3⟩ := hd
  have ht := (h.2 p g1).2.2
  have i1 := in7 (F := F) (v := C p) (lo := 48) (hi := 57) (by omega) (by omega) (by omega)
  rw [if_pos ⟨g2, g3⟩] at i1
  have i1' : f_X7_in F (nI (C p)).toInt64 48 57 = some 1 := i1
  show f_X7_nextToken_33 F _ _ _ _ _ _ _ = _
  unfold f_X7_nextToken_33 f_X7_nextToken_103
  rw [if_neg (show ¬ nI z ≤ nI p from by rw [nI_leI (by omega) (by omega)]; omega), gdI (by omega) (by omega), nI_clamp (by omega), ht, i1', Option.bind_some, if_neg one_ne, if_pos hv, gdI (by omega) (by omega), nI_s1]
theorem tkE (h : Chs z C bytes tape) {fu p : Nat} {v tok beg : Int32} (hp : p ≤ z) (hd : ¬ Dg z C p) : f_X7_nextToken_33_r F (nI z) tape (fu + 1) (nI p) tok v beg = f_X7_nextToken_119 F (nI z) tape (nI p) tok v beg := by
  have hz := h.1
  show f_X7_nextToken_33 F _ _ _ _ _ _ _ = _
  unfold f_X7_nextToken_33
  by_cases c : p < z
  · have ht := (h.2 p c).2.2
    have h5 := (h.2 p c).1
    have i1 := in7 (F := F) (v := C p) (lo := 48) (hi := 57) (by omega) (by omega) (by omega)
    unfold Dg at hd
    rw [if_neg (by omega)] at i1
    have i1' : f_X7_in F (nI (C p)).toInt64 48 57 = some 0 := i1
    rw [if_neg (show ¬ nI z ≤ nI p from by rw [nI_leI (by omega) (by omega)]; omega), gdI (by omega) (by omega), nI_clamp (by omega), ht, i1', Option.bind_some, if_pos rfl]
  · rw [if_pos (show nI z ≤ nI p from by rw [nI_leI (by omega) (by omega)]; omega)]
/-- three figures and more: whatever follows, nothing that can stand -/
theorem tkL (h : Chs z C bytes tape) {a : Nat} : ∀ (k p fu : Nat) (v : Int32), z = p + k → a + 3 ≤ p → k < fu → ∃ e w, f_X7_nextToken_33_r F (nI z) tape fu (nI p) 0 v (nI a) = some (e, 0, w, nI a) := by
  have hz := h.1
  have hend : ∀ p fu (v : Int32), p ≤ z → a + 3 ≤ p → ¬ Dg z C p → ∃ e w, f_X7_nextToken_33_r F (nI z) tape (fu + 1) (nI p) 0 v (nI a) = some (e, 0, w, nI a) := by
    intro p fu v hp ha hd
    rw [tkE h hp hd]
    unfold f_X7_nextToken_119 f_X7_nextToken_149
    rw [if_neg (show ¬ nI p ≤ nI a from by rw [nI_leI (by omega) (by omega)]; omega), pk_sub (by omega), if_neg (show ¬ nI (p - a) ≤ 2 from by rw [show (2 : Int32) = nI 2 from rfl, nI_leI (by omega) (by omega)]; omega)]
    exact ⟨_, _, rfl⟩
  intro k
  induction k with
  | zero =>
    intro p fu v h1 h2 h3
    obtain ⟨fu, rfl⟩ : ∃ q, fu = q + 1 := ⟨fu - 1, by omega⟩
    exact hend p fu v (by omega) h2 (by unfold Dg; omega)
  | succ k ih =>
    intro p fu v h1 h2 h3
    obtain ⟨fu, rfl⟩ : ∃ q, fu = q + 1 := ⟨fu - 1, by omega⟩
    rcases Dg_dec z C p with hd | hd
    · by_cases hv : v ≤ 99
      · rw [tkD h hv hd]
        exact ih (p + 1) fu _ (by omega) (by omega) (by omega)
      · obtain ⟨g1, g2, g3⟩ := hd
        have ht := (h.2 p g1).2.2
        have i1 := in7 (F := F) (v := C p) (lo := 48) (hi := 57) (by omega) (by omega) (by omega)
        rw [if_pos ⟨g2, g3⟩] at i1
        have i1' : f_X7_in F (nI (C p)).toInt64 48 57 = some 1 := i1
        obtain ⟨e, w, g⟩ := ih (p + 1) fu v (by omega) (by omega) (by omega)
        refine ⟨e, w, ?_⟩
        rw [← g]
        show f_X7_nextToken_33 F _ _ _ _ _ _ _ = _
        unfold f_X7_nextToken_33 f_X7_nextToken_103
        rw [if_neg (show ¬ nI z ≤ nI p from by rw [nI_leI (by omega) (by omega)]; omega), gdI (by omega) (by omega), nI_clamp (by omega), ht, i1', Option.bind_some, if_neg one_ne, if_neg hv, nI_s1]
    · exact hend p fu v (by omega) h2 hd
theorem tkn1 (h : Chs z C bytes tape) (hF : 100000 ≤ F) {a : Nat} {t v b : Int32} (h0 : Dg z C a) (h1 : ¬ Dg z C (a + 1)) : f_X7_nextToken F (nI z) tape (nI a) t v b = some (nI (a + 1), 2, nI (C a - 48), nI a) := by
  have hz := h.1
  have h0' := h0
  obtain ⟨g1, g2, g3⟩ := h0'
  obtain ⟨F2, hF2⟩ : ∃ q, F = q + 1 + 1 := ⟨F - 2, by omega⟩
  rw [tk_ne h g1]
  have e1 := tkD (F := F) (fu := F2 + 1) (v := 0) (tok := 0) (beg := nI a) h (by decide) h0
  have e2 := tkE (F := F) (fu := F2) (v := 10 * 0 + nI (C a) - 48) (tok := 0) (beg := nI a) h (show a + 1 ≤ z by omega) h1
  rw [← hF2] at e1
  rw [e1, e2]
  unfold f_X7_nextToken_119 f_X7_nextToken_149
  have ev : 10 * (0 : Int32) + nI (C a) - 48 = nI (C a - 48) := by
    rw [show 10 * (0 : Int32) = nI 0 from rfl, nI_add, show (48 : Int32) = nI 48 from rfl, pk_sub (by omega), Nat.zero_add]
  rw [if_neg (show ¬ nI (a + 1) ≤ nI a from by rw [nI_leI (by omega) (by omega)]; omega), pk_sub (by omega), if_pos (show nI (a + 1 - a) ≤ 2 from by rw [show (2 : Int32) = nI 2 from rfl, nI_leI (by omega) (by omega)]; omega), ev]
theorem tkn2 (h : Chs z C bytes tape) (hF : 100000 ≤ F) {a : Nat} {t v b : Int32} (h0 : Dg z C a) (h1 : Dg z C (a + 1)) (h2 : ¬ Dg z C (a + 2)) : f_X7_nextToken F (nI z) tape (nI a) t v b = some (nI (a + 2), 2, nI ((C a - 48) * 10 + C (a + 1) - 48), nI a) := by
  have hz := h.1
  have h0' := h0
  obtain ⟨g1, g2, g3⟩ := h0'
  have h1' := h1
  obtain ⟨g4, g5, g6⟩ := h1'
  obtain ⟨F2, hF2⟩ : ∃ q, F = q + 1 + 1 + 1 := ⟨F - 3, by omega⟩
  rw [tk_ne h g1]
  have ev : 10 * (0 : Int32) + nI (C a) - 48 = nI (C a - 48) := by
    rw [show 10 * (0 : Int32) = nI 0 from rfl, nI_add, show (48 : Int32) = nI 48 from rfl, pk_sub (by omega), Nat.zero_add]
  have ev2 : 10 * nI (C a - 48) + nI (C (a + 1)) - 48 = nI ((C a - 48) * 10 + C (a + 1) - 48) := by
    rw [show (10 : Int32) = nI 10 from rfl, pk_mul, nI_add, show (48 : Int32) = nI 48 from rfl, pk_sub (by omega), Nat.mul_comm]
  have e1 := tkD (F := F) (fu := F2 + 1 + 1) (v := 0) (tok := 0) (beg := nI a) h (by decide) h0
  have e2 := tkD (F := F) (fu := F2 + 1) (v := nI (C a - 48)) (tok := 0) (beg := nI a) h (show nI (C a - 48) ≤ 99 from by rw [show (99 : Int32) = nI 99 from rfl, nI_leI (by omega) (by omega)]; omega) h1
  have e3 := tkE (F := F) (fu := F2) (v := nI ((C a - 48) * 10 + C (a + 1) - 48)) (tok := 0) (beg := nI a) h (show a + 1 + 1 ≤ z by omega) h2
  rw [← hF2] at e1
  rw [e1, ev, e2, ev2, e3]
  unfold f_X7_nextToken_119 f_X7_nextToken_149
  rw [if_neg (show ¬ nI (a + 1 + 1) ≤ nI a from by rw [nI_leI (by omega) (by omega)]; omega), pk_sub (by omega), if_pos (show nI (a + 1 + 1 - a) ≤ 2 from by rw [show (2 : Int32) = nI 2 from rfl, nI_leI (by omega) (by omega)]; omega)]
theorem tkn3 (h : Chs z C bytes tape) (hF : 100000 ≤ F) {a : Nat} {t v b : Int32} (h0 : Dg z C a) (h1 : Dg z C (a + 1)) (h2 : Dg z C (a + 2)) : ∃ e w, f_X7_nextToken F (nI z) tape (nI a) t v b = some (e, 0, w, nI a) := by
  have hz := h.1
  have h0' := h0
  obtain ⟨g1, g2, g3⟩ := h0'
  have h1' := h1
  obtain ⟨g4, g5, g6⟩ := h1'
  have h2' := h2
  obtain ⟨g7, g8, g9⟩ := h2'
  obtain ⟨F2, hF2⟩ : ∃ q, F = q + 1 + 1 + 1 := ⟨F - 3, by omega⟩
  rw [tk_ne h g1]
  have ev : 10 * (0 : Int32) + nI (C a) - 48 = nI (C a - 48) := by
    rw [show 10 * (0 : Int32) = nI 0 from rfl, nI_add, show (48 : Int32) = nI 48 from rfl, pk_sub (by omega), Nat.zero_add]
  have ev2 : 10 * nI (C a - 48) + nI (C (a + 1)) - 48 = nI ((C a - 48) * 10 + C (a + 1) - 48) := by
    rw [show (10 : Int32) = nI 10 from rfl, pk_mul, nI_add, show (48 : Int32) = nI 48 from rfl, pk_sub (by omega), Nat.mul_comm]
  have e1 := tkD (F := F) (fu := F2 + 1 + 1) (v := 0) (tok := 0) (beg := nI a) h (by decide) h0
  have e2 := tkD (F := F) (fu := F2 + 1) (v := nI (C a - 48)) (tok := 0) (beg := nI a) h (show nI (C a - 48) ≤ 99 from by rw [show (99 : Int32) = nI 99 from rfl, nI_leI (by omega) (by omega)]; omega) h1
  have e3 := tkD (F := F) (fu := F2) (v := nI ((C a - 48) * 10 + C (a + 1) - 48)) (tok := 0) (beg := nI a) h (show nI ((C a - 48) * 10 + C (a + 1) - 48) ≤ 99 from by rw [show (99 : Int32) = nI 99 from rfl, nI_leI (by omega) (by omega)]; omega) h2
  rw [← hF2] at e1
  rw [e1, ev, e2, ev2, e3]
  exact tkL h (z - (a + 1 + 1 + 1)) (a + 1 + 1 + 1) F2 _ (by omega) (by omega) (by omega)
end LANDT
