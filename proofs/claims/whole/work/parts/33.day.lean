/-! a day's change, how much a thing is off, what it costs: class and reference, in plain numbers -/
theorem sn_add {a b : Nat} (h : b ≤ a) : nI a + -nI b = nI (a - b) := by rw [← Int32.sub_eq_add_neg]; exact pk_sub h
theorem sn_t {a b : Nat} (ha : a < 1073741824) (hb : b < 1073741824) : (nI a + -nI b).toInt = (a : Int) - b := by
  rw [← Int32.sub_eq_add_neg]; exact pk_sub_toInt ha hb
theorem sn_lt {a b c : Nat} (h : a < b) (hb : b < 1073741824) (hc : c < 2147483648) : (nI a + -nI b < nI c) = True := by
  refine eq_true ?_
  rw [Int32.lt_iff_toInt_lt, sn_t (by omega) hb, nI_toInt hc]; omega
theorem sn_0 {a b c : Nat} (h : a < b) (hb : b < 1073741824) (hc : c < 2147483648) : (nI c < nI a + -nI b) = False := by
  refine eq_false ?_
  rw [Int32.lt_iff_toInt_lt, sn_t (by omega) hb, nI_toInt hc]; omega
theorem ss_le {a b c : Nat} (h : a < b) (hb : b < 1073741824) (hc : c < 2147483648) : (nI c ≤ nI a - nI b) = False := by
  refine eq_false ?_
  rw [Int32.le_iff_toInt_le, pk_sub_toInt (by omega) hb, nI_toInt hc]; omega
theorem ss_z {a b : Nat} (h : a < b) (hb : b < 1073741824) : nI 0 - (nI a - nI b) = nI (b - a) := by
  apply Int32.toInt_inj.mp
  rw [Int32.toInt_sub, pk_sub_toInt (by omega) hb, nI_toInt (by omega), nI_toInt (by omega)]
  rw [Int.bmod_eq_of_le (by omega) (by omega)]
  omega
theorem ss_n {a b : Nat} (h : a < b) (hb : b < 1073741824) : -(nI a - nI b) = nI (b - a) := by
  apply Int32.toInt_inj.mp
  rw [Int32.toInt_neg, pk_sub_toInt (by omega) hb, nI_toInt (by omega)]
  rw [Int.bmod_eq_of_le (by omega) (by omega)]
  omega
/-- a day of a thing of kind k, by b, that is i, on day d -/
def dN (k b i d : Nat) : Nat := if k = 1 then (if i + b < 99 then i + b else 99) else if k = 2 then i - b else if k = 3 then (if d % 2 = 0 then (if i + b < 99 then i + b else 99) else i - b) else if k = 5 ∧ (d + 1) % 7 = 0 then i - b else if (d + 1) % b = 0 then (if i + 1 < 99 then i + 1 else 99) else i
theorem dN_le {k b i d : Nat} (h : i ≤ 99) : dN k b i d ≤ 99 := by
  unfold dN
  repeat' split
  all_goals omega
theorem up_c {i b : Nat} (hi : i ≤ 99) (h1 : 1 ≤ b) (hb : b ≤ 9) : (if nI 0 < (if nI i + nI b < nI 99 then nI i + nI b else nI 99) then (if nI i + nI b < nI 99 then nI i + nI b else nI 99) else nI 0) = nI (if i + b < 99 then i + b else 99) := by
  by_cases h : i + b < 99
  · simp (disch := omega) only [fl32, nI_add, pk_mul, pk_rem, nI_clamp, gdI, gdZ, gdB0, gdB1, nI_leI, nI_ltI, nI_eq, if_pos, if_neg, Option.bind_some, pk_us, pk_un, nn_eq, nn_le, nn_lt, nl_eq, if_true, if_false, eq_self, nl_le]
  · simp (disch := omega) only [fl32, nI_add, pk_mul, pk_rem, nI_clamp, gdI, gdZ, gdB0, gdB1, nI_leI, nI_ltI, nI_eq, if_pos, if_neg, Option.bind_some, pk_us, pk_un, nn_eq, nn_le, nn_lt, nl_eq, if_true, if_false, eq_self, nl_le]
theorem dn_c {i b : Nat} (hi : i ≤ 99) (h1 : 1 ≤ b) (hb : b ≤ 9) : (if nI 0 < (if nI i + -nI b < nI 99 then nI i + -nI b else nI 99) then (if nI i + -nI b < nI 99 then nI i + -nI b else nI 99) else nI 0) = nI (i - b) := by
  rcases Nat.lt_trichotomy i b with h | h | h
  · simp (disch := omega) only [fl32, nI_add, pk_mul, pk_rem, nI_clamp, gdI, gdZ, gdB0, gdB1, nI_leI, nI_ltI, nI_eq, if_pos, if_neg, Option.bind_some, pk_us, pk_un, nn_eq, nn_le, nn_lt, nl_eq, if_true, if_false, eq_self, nl_le, sn_lt, sn_0]
    rw [show i - b = 0 from by omega]
  · simp (disch := omega) only [fl32, nI_add, pk_mul, pk_rem, nI_clamp, gdI, gdZ, gdB0, gdB1, nI_leI, nI_ltI, nI_eq, if_pos, if_neg, Option.bind_some, pk_us, pk_un, nn_eq, nn_le, nn_lt, nl_eq, if_true, if_false, eq_self, nl_le, sn_add]
    rw [show i - b = 0 from by omega]
  · simp (disch := omega) only [fl32, nI_add, pk_mul, pk_rem, nI_clamp, gdI, gdZ, gdB0, gdB1, nI_leI, nI_ltI, nI_eq, if_pos, if_neg, Option.bind_some, pk_us, pk_un, nn_eq, nn_le, nn_lt, nl_eq, if_true, if_false, eq_self, nl_le, sn_add]
theorem zr_c {i : Nat} (hi : i ≤ 99) : (if nI 0 < (if nI i + nI 0 < nI 99 then nI i + nI 0 else nI 99) then (if nI i + nI 0 < nI 99 then nI i + nI 0 else nI 99) else nI 0) = nI i := by
  rcases (show i = 0 ∨ i = 99 ∨ (0 < i ∧ i < 99) by omega) with h | h | h
  · subst h; rfl
  · subst h; rfl
  · simp (disch := omega) only [fl32, nI_add, pk_mul, pk_rem, nI_clamp, gdI, gdZ, gdB0, gdB1, nI_leI, nI_ltI, nI_eq, if_pos, if_neg, Option.bind_some, pk_us, pk_un, nn_eq, nn_le, nn_lt, nl_eq, if_true, if_false, eq_self, nl_le, Nat.add_zero]
theorem s_change {F k b d : Nat} (hk1 : 1 ≤ k) (hk : k ≤ 5) (h1 : 1 ≤ b) (hb : b ≤ 9) (hd : d < 1000000) : f_X3_change F (nI k) (nI b) (nI d) = some (if k = 1 then nI b else if k = 2 then -nI b else if k = 3 then (if d % 2 = 0 then nI b else -nI b) else if k = 5 ∧ (d + 1) % 7 = 0 then -nI b else if (d + 1) % b = 0 then nI 1 else nI 0) := by
  have hrem : (d + 1) % b < 9 := Nat.lt_of_lt_of_le (Nat.mod_lt _ (by omega)) hb
  unfold f_X3_change f_X3_change_16 f_X3_change_17
  by_cases h : (d + 1) % b = 0
  · rcases (show k = 1 ∨ k = 2 ∨ k = 3 ∨ k = 4 ∨ k = 5 by omega) with rfl | rfl | rfl | rfl | rfl
    · simp (disch := omega) only [fl32, nI_add, pk_mul, pk_rem, nI_clamp, gdI, gdZ, gdB0, gdB1, nI_leI, nI_ltI, nI_eq, if_pos, if_neg, Option.bind_some, pk_us, pk_un, nn_eq, nn_le, nn_lt, nl_eq, if_true, if_false, eq_self, nl_le, h]
    · simp (disch := omega) only [fl32, nI_add, pk_mul, pk_rem, nI_clamp, gdI, gdZ, gdB0, gdB1, nI_leI, nI_ltI, nI_eq, if_pos, if_neg, Option.bind_some, pk_us, pk_un, nn_eq, nn_le, nn_lt, nl_eq, if_true, if_false, eq_self, nl_le, h]
    · by_cases h2 : d % 2 = 0
      · simp (disch := omega) only [fl32, nI_add, pk_mul, pk_rem, nI_clamp, gdI, gdZ, gdB0, gdB1, nI_leI, nI_ltI, nI_eq, if_pos, if_neg, Option.bind_some, pk_us, pk_un, nn_eq, nn_le, nn_lt, nl_eq, if_true, if_false, eq_self, nl_le, h, h2]
      · simp (disch := omega) only [fl32, nI_add, pk_mul, pk_rem, nI_clamp, gdI, gdZ, gdB0, gdB1, nI_leI, nI_ltI, nI_eq, if_pos, if_neg, Option.bind_some, pk_us, pk_un, nn_eq, nn_le, nn_lt, nl_eq, if_true, if_false, eq_self, nl_le, h, h2]
    · simp (disch := omega) only [fl32, nI_add, pk_mul, pk_rem, nI_clamp, gdI, gdZ, gdB0, gdB1, nI_leI, nI_ltI, nI_eq, if_pos, if_neg, Option.bind_some, pk_us, pk_un, nn_eq, nn_le, nn_lt, nl_eq, if_true, if_false, eq_self, nl_le, h]
    · by_cases h2 : (d + 1) % 7 = 0
      · simp (disch := omega) only [fl32, nI_add, pk_mul, pk_rem, nI_clamp, gdI, gdZ, gdB0, gdB1, nI_leI, nI_ltI, nI_eq, if_pos, if_neg, Option.bind_some, pk_us, pk_un, nn_eq, nn_le, nn_lt, nl_eq, if_true, if_false, eq_self, nl_le, h, h2, and_self]
      · simp (disch := omega) only [fl32, nI_add, pk_mul, pk_rem, nI_clamp, gdI, gdZ, gdB0, gdB1, nI_leI, nI_ltI, nI_eq, if_pos, if_neg, Option.bind_some, pk_us, pk_un, nn_eq, nn_le, nn_lt, nl_eq, if_true, if_false, eq_self, nl_le, h, h2, and_false]
  · rcases (show k = 1 ∨ k = 2 ∨ k = 3 ∨ k = 4 ∨ k = 5 by omega) with rfl | rfl | rfl | rfl | rfl
    · simp (disch := omega) only [fl32, nI_add, pk_mul, pk_rem, nI_clamp, gdI, gdZ, gdB0, gdB1, nI_leI, nI_ltI, nI_eq, if_pos, if_neg, Option.bind_some, pk_us, pk_un, nn_eq, nn_le, nn_lt, nl_eq, if_true, if_false, eq_self, nl_le, h]
    · simp (disch := omega) only [fl32, nI_add, pk_mul, pk_rem, nI_clamp, gdI, gdZ, gdB0, gdB1, nI_leI, nI_ltI, nI_eq, if_pos, if_neg, Option.bind_some, pk_us, pk_un, nn_eq, nn_le, nn_lt, nl_eq, if_true, if_false, eq_self, nl_le, h]
    · by_cases h2 : d % 2 = 0
      · simp (disch := omega) only [fl32, nI_add, pk_mul, pk_rem, nI_clamp, gdI, gdZ, gdB0, gdB1, nI_leI, nI_ltI, nI_eq, if_pos, if_neg, Option.bind_some, pk_us, pk_un, nn_eq, nn_le, nn_lt, nl_eq, if_true, if_false, eq_self, nl_le, h, h2]
      · simp (disch := omega) only [fl32, nI_add, pk_mul, pk_rem, nI_clamp, gdI, gdZ, gdB0, gdB1, nI_leI, nI_ltI, nI_eq, if_pos, if_neg, Option.bind_some, pk_us, pk_un, nn_eq, nn_le, nn_lt, nl_eq, if_true, if_false, eq_self, nl_le, h, h2]
    · simp (disch := omega) only [fl32, nI_add, pk_mul, pk_rem, nI_clamp, gdI, gdZ, gdB0, gdB1, nI_leI, nI_ltI, nI_eq, if_pos, if_neg, Option.bind_some, pk_us, pk_un, nn_eq, nn_le, nn_lt, nl_eq, if_true, if_false, eq_self, nl_le, h]
    · by_cases h2 : (d + 1) % 7 = 0
      · simp (disch := omega) only [fl32, nI_add, pk_mul, pk_rem, nI_clamp, gdI, gdZ, gdB0, gdB1, nI_leI, nI_ltI, nI_eq, if_pos, if_neg, Option.bind_some, pk_us, pk_un, nn_eq, nn_le, nn_lt, nl_eq, if_true, if_false, eq_self, nl_le, h, h2, and_self]
      · simp (disch := omega) only [fl32, nI_add, pk_mul, pk_rem, nI_clamp, gdI, gdZ, gdB0, gdB1, nI_leI, nI_ltI, nI_eq, if_pos, if_neg, Option.bind_some, pk_us, pk_un, nn_eq, nn_le, nn_lt, nl_eq, if_true, if_false, eq_self, nl_le, h, h2, and_false]
theorem s_dayOnAs {F k b i d t : Nat} {by_ : Nat → Int32} (ht : t < 6) (hby : by_ t = nI b) (hk1 : 1 ≤ k) (hk : k ≤ 5) (h1 : 1 ≤ b) (hb : b ≤ 9) (hi : i ≤ 99) (hd : d < 1000000) : f_X3_dayOnAs F (nI k) (nI t) (nI i) (nI d) by_ = some (nI (dN k b i d)) := by
  unfold f_X3_dayOnAs
  simp (disch := omega) only [gdI, nI_clamp, hby, s_change, Option.bind_some]
  congr 1
  have e0 : (0 : Int32) = nI 0 := rfl
  have e99 : (99 : Int32) = nI 99 := rfl
  rw [e0, e99]
  unfold dN
  by_cases c1 : k = 1
  · rw [if_pos c1, if_pos c1]; exact up_c hi h1 hb
  · rw [if_neg c1, if_neg c1]
    by_cases c2 : k = 2
    · rw [if_pos c2, if_pos c2]; exact dn_c hi h1 hb
    · rw [if_neg c2, if_neg c2]
      by_cases c3 : k = 3
      · rw [if_pos c3, if_pos c3]
        by_cases c4 : d % 2 = 0
        · rw [if_pos c4, if_pos c4]; exact up_c hi h1 hb
        · rw [if_neg c4, if_neg c4]; exact dn_c hi h1 hb
      · rw [if_neg c3, if_neg c3]
        by_cases c5 : k = 5 ∧ (d + 1) % 7 = 0
        · rw [if_pos c5, if_pos c5]; exact dn_c hi h1 hb
        · rw [if_neg c5, if_neg c5]
          by_cases c6 : (d + 1) % b = 0
          · rw [if_pos c6, if_pos c6]; exact up_c hi (by omega) (by omega)
          · rw [if_neg c6, if_neg c6]; exact zr_c hi
theorem s_dayOn {F k b i d t : Nat} {kind by_ : Nat → Int32} (ht : t < 6) (hkd : kind t = nI k) (hby : by_ t = nI b) (hk1 : 1 ≤ k) (hk : k ≤ 5) (h1 : 1 ≤ b) (hb : b ≤ 9) (hi : i ≤ 99) (hd : d < 1000000) : f_X3_dayOn F (nI t) (nI i) (nI d) kind by_ = some (nI (dN k b i d)) := by
  unfold f_X3_dayOn
  simp (disch := omega) only [gdI, nI_clamp, hkd, s_dayOnAs ht hby hk1 hk h1 hb hi hd, Option.bind_some]
theorem s_bup {F i b : Nat} (hi : i ≤ 99) (h1 : 1 ≤ b) (hb : b ≤ 9) : f_X7_bounded F (nI i + nI b) = some (nI (if i + b < 99 then i + b else 99)) := by
  unfold f_X7_bounded
  rcases (show i + b < 99 ∨ i + b = 99 ∨ 99 < i + b by omega) with h | h | h
  · simp (disch := omega) only [fl32, nI_add, pk_mul, pk_rem, nI_clamp, gdI, gdZ, gdB0, gdB1, nI_leI, nI_ltI, nI_eq, if_pos, if_neg, Option.bind_some, pk_us, pk_un, nn_eq, nn_le, nn_lt, nl_eq, if_true, if_false, eq_self, nl_le]
  · simp (disch := omega) only [fl32, nI_add, pk_mul, pk_rem, nI_clamp, gdI, gdZ, gdB0, gdB1, nI_leI, nI_ltI, nI_eq, if_pos, if_neg, Option.bind_some, pk_us, pk_un, nn_eq, nn_le, nn_lt, nl_eq, if_true, if_false, eq_self, nl_le]
    rw [h]
  · simp (disch := omega) only [fl32, nI_add, pk_mul, pk_rem, nI_clamp, gdI, gdZ, gdB0, gdB1, nI_leI, nI_ltI, nI_eq, if_pos, if_neg, Option.bind_some, pk_us, pk_un, nn_eq, nn_le, nn_lt, nl_eq, if_true, if_false, eq_self, nl_le]
theorem s_bdn {F i b : Nat} (hi : i ≤ 99) (h1 : 1 ≤ b) (hb : b ≤ 9) : f_X7_bounded F (nI i - nI b) = some (nI (i - b)) := by
  unfold f_X7_bounded
  by_cases h : i < b
  · simp (disch := omega) only [fl32, nI_add, pk_mul, pk_rem, nI_clamp, gdI, gdZ, gdB0, gdB1, nI_leI, nI_ltI, nI_eq, if_pos, if_neg, Option.bind_some, pk_us, pk_un, nn_eq, nn_le, nn_lt, nl_eq, if_true, if_false, eq_self, nl_le, ss_le]
    rw [show i - b = 0 from by omega]
  · simp (disch := omega) only [fl32, nI_add, pk_mul, pk_rem, nI_clamp, gdI, gdZ, gdB0, gdB1, nI_leI, nI_ltI, nI_eq, if_pos, if_neg, Option.bind_some, pk_us, pk_un, nn_eq, nn_le, nn_lt, nl_eq, if_true, if_false, eq_self, nl_le, pk_sub]
theorem s_changed {F i d t : Nat} {A : Nat → Nat} {st : Nat → Int32} (hM : RpM A st) (ht : t < 6) (hk1 : 1 ≤ A (5 + t)) (hk : A (5 + t) ≤ 5) (h1 : 1 ≤ A (17 + t)) (hb : A (17 + t) ≤ 9) (hi : i ≤ 99) (hd : d < 1000000) : f_X7_changed F (nI t) (nI i) (nI d) st = some (nI (dN (A (5 + t)) (A (17 + t)) i d)) := by
  have e5 := hM (5 + t) (by omega) (by omega)
  have e17 := hM (17 + t) (by omega) (by omega)
  generalize A (5 + t) = k at *
  generalize A (17 + t) = b at *
  have hrem : (d + 1) % b < 9 := Nat.lt_of_lt_of_le (Nat.mod_lt _ (by omega)) hb
  have b1 := s_bup (F := F) hi h1 hb
  have b2 := s_bdn (F := F) hi h1 hb
  have b3 := s_bup (F := F) (b := 1) hi (by omega) (by omega)
  unfold f_X7_changed f_X7_changed_39 f_X7_changed_47 f_X7_changed_59 f_X7_changed_90 dN
  rcases (show k = 1 ∨ k = 2 ∨ k = 3 ∨ k = 4 ∨ k = 5 by omega) with rfl | rfl | rfl | rfl | rfl
  · simp (disch := omega) only [fl32, nI_add, pk_mul, pk_rem, nI_clamp, gdI, gdZ, gdB0, gdB1, nI_leI, nI_ltI, nI_eq, if_pos, if_neg, Option.bind_some, pk_us, pk_un, nn_eq, nn_le, nn_lt, nl_eq, if_true, if_false, eq_self, nl_le, e5, e17]
    rw [← nI_add, b1]
    rfl
  · simp (disch := omega) only [fl32, nI_add, pk_mul, pk_rem, nI_clamp, gdI, gdZ, gdB0, gdB1, nI_leI, nI_ltI, nI_eq, if_pos, if_neg, Option.bind_some, pk_us, pk_un, nn_eq, nn_le, nn_lt, nl_eq, if_true, if_false, eq_self, nl_le, e5, e17]
    rw [b2]
    rfl
  · by_cases h2 : d % 2 = 0
    · simp (disch := omega) only [fl32, nI_add, pk_mul, pk_rem, nI_clamp, gdI, gdZ, gdB0, gdB1, nI_leI, nI_ltI, nI_eq, if_pos, if_neg, Option.bind_some, pk_us, pk_un, nn_eq, nn_le, nn_lt, nl_eq, if_true, if_false, eq_self, nl_le, e5, e17, h2]
      rw [← nI_add, b1]
      rfl
    · simp (disch := omega) only [fl32, nI_add, pk_mul, pk_rem, nI_clamp, gdI, gdZ, gdB0, gdB1, nI_leI, nI_ltI, nI_eq, if_pos, if_neg, Option.bind_some, pk_us, pk_un, nn_eq, nn_le, nn_lt, nl_eq, if_true, if_false, eq_self, nl_le, e5, e17, h2]
      rw [b2]
      rfl
  · by_cases h : (d + 1) % b = 0
    · simp (disch := omega) only [fl32, nI_add, pk_mul, pk_rem, nI_clamp, gdI, gdZ, gdB0, gdB1, nI_leI, nI_ltI, nI_eq, if_pos, if_neg, Option.bind_some, pk_us, pk_un, nn_eq, nn_le, nn_lt, nl_eq, if_true, if_false, eq_self, nl_le, e5, e17, h]
      rw [← nI_add, b3]
      rfl
    · simp (disch := omega) only [fl32, nI_add, pk_mul, pk_rem, nI_clamp, gdI, gdZ, gdB0, gdB1, nI_leI, nI_ltI, nI_eq, if_pos, if_neg, Option.bind_some, pk_us, pk_un, nn_eq, nn_le, nn_lt, nl_eq, if_true, if_false, eq_self, nl_le, e5, e17, h]
  · by_cases h2 : (d + 1) % 7 = 0
    · simp (disch := omega) only [fl32, nI_add, pk_mul, pk_rem, nI_clamp, gdI, gdZ, gdB0, gdB1, nI_leI, nI_ltI, nI_eq, if_pos, if_neg, Option.bind_some, pk_us, pk_un, nn_eq, nn_le, nn_lt, nl_eq, if_true, if_false, eq_self, nl_le, e5, e17, h2, and_self]
      rw [b2]
      rfl
    · by_cases h : (d + 1) % b = 0
      · simp (disch := omega) only [fl32, nI_add, pk_mul, pk_rem, nI_clamp, gdI, gdZ, gdB0, gdB1, nI_leI, nI_ltI, nI_eq, if_pos, if_neg, Option.bind_some, pk_us, pk_un, nn_eq, nn_le, nn_lt, nl_eq, if_true, if_false, eq_self, nl_le, e5, e17, h, h2, and_false]
        rw [← nI_add, b3]
        rfl
      · simp (disch := omega) only [fl32, nI_add, pk_mul, pk_rem, nI_clamp, gdI, gdZ, gdB0, gdB1, nI_leI, nI_ltI, nI_eq, if_pos, if_neg, Option.bind_some, pk_us, pk_un, nn_eq, nn_le, nn_lt, nl_eq, if_true, if_false, eq_self, nl_le, e5, e17, h, h2, and_false]
/-- how much two numbers differ -/
def df (a b : Nat) : Nat := (a - b) + (b - a)
theorem s_offIf {F t a w : Nat} {was : Nat → Int32} (ht : t < 6) (hw : was t = nI w) (ha : a < 100000) (hw2 : w < 100000) : f_X3_offIf F (nI t) (nI a) was = some (nI (df a w)) := by
  unfold f_X3_offIf df
  by_cases h : a < w
  · simp (disch := omega) only [fl32, nI_add, pk_mul, pk_rem, nI_clamp, gdI, gdZ, gdB0, gdB1, nI_leI, nI_ltI, nI_eq, if_pos, if_neg, Option.bind_some, pk_us, pk_un, nn_eq, nn_le, nn_lt, nl_eq, if_true, if_false, eq_self, nl_le, hw, ss_le, ss_z]
    rw [show a - w + (w - a) = w - a from by omega]
  · simp (disch := omega) only [fl32, nI_add, pk_mul, pk_rem, nI_clamp, gdI, gdZ, gdB0, gdB1, nI_leI, nI_ltI, nI_eq, if_pos, if_neg, Option.bind_some, pk_us, pk_un, nn_eq, nn_le, nn_lt, nl_eq, if_true, if_false, eq_self, nl_le, hw, pk_sub]
    rw [show a - w + (w - a) = a - w from by omega]
theorem s_differ {F t a : Nat} {A : Nat → Nat} {st : Nat → Int32} (hM : RpM A st) (ht : t < 6) (ha : a < 100000) (hw2 : A (11 + t) < 100000) : f_X7_differ F (nI t) (nI a) st = some (nI (df a (A (11 + t)))) := by
  have e := hM (11 + t) (by omega) (by omega)
  generalize A (11 + t) = w at *
  unfold f_X7_differ df
  by_cases h : a < w
  · simp (disch := omega) only [fl32, nI_add, pk_mul, pk_rem, nI_clamp, gdI, gdZ, gdB0, gdB1, nI_leI, nI_ltI, nI_eq, if_pos, if_neg, Option.bind_some, pk_us, pk_un, nn_eq, nn_le, nn_lt, nl_eq, if_true, if_false, eq_self, nl_le, e, ss_le, ss_n]
    rw [show a - w + (w - a) = w - a from by omega]
  · simp (disch := omega) only [fl32, nI_add, pk_mul, pk_rem, nI_clamp, gdI, gdZ, gdB0, gdB1, nI_leI, nI_ltI, nI_eq, if_pos, if_neg, Option.bind_some, pk_us, pk_un, nn_eq, nn_le, nn_lt, nl_eq, if_true, if_false, eq_self, nl_le, e, pk_sub]
    rw [show a - w + (w - a) = a - w from by omega]
theorem s_off {F t : Nat} {A : Nat → Nat} {st : Nat → Int32} (hM : RpM A st) (ht : t < 6) (ha : A (35 + t) < 100000) (hw2 : A (11 + t) < 100000) : f_X7_off F (nI t) st = some (nI (df (A (35 + t)) (A (11 + t)))) := by
  have e := hM (35 + t) (by omega) (by omega)
  unfold f_X7_off
  simp (disch := omega) only [fl32, nI_add, pk_mul, pk_rem, nI_clamp, gdI, gdZ, gdB0, gdB1, nI_leI, nI_ltI, nI_eq, if_pos, if_neg, Option.bind_some, pk_us, pk_un, nn_eq, nn_le, nn_lt, nl_eq, if_true, if_false, eq_self, nl_le, e, s_differ hM ht ha hw2]
theorem s_offOf {F t a w : Nat} {was is_ : Nat → Int32} (ht : t < 6) (hw : was t = nI w) (hi : is_ t = nI a) (ha : a < 100000) (hw2 : w < 100000) : f_X3_offOf F (nI t) was is_ = some (nI (df a w)) := by
  unfold f_X3_offOf
  simp (disch := omega) only [fl32, nI_add, pk_mul, pk_rem, nI_clamp, gdI, gdZ, gdB0, gdB1, nI_leI, nI_ltI, nI_eq, if_pos, if_neg, Option.bind_some, pk_us, pk_un, nn_eq, nn_le, nn_lt, nl_eq, if_true, if_false, eq_self, nl_le, hi, s_offIf ht hw ha hw2]
theorem s_isPersonAt {F t k : Nat} {kind : Nat → Int32} (ht : t < 6) (hk : kind t = nI k) (hk5 : k ≤ 5) : f_X3_isPersonAt F (nI t) kind = some (nI (if 4 ≤ k then 1 else 0)) := by
  unfold f_X3_isPersonAt f_X3_isPersonAt_20
  rcases (show k < 4 ∨ k = 4 ∨ k = 5 by omega) with h | h | h
  · simp (disch := omega) only [fl32, nI_add, pk_mul, pk_rem, nI_clamp, gdI, gdZ, gdB0, gdB1, nI_leI, nI_ltI, nI_eq, if_pos, if_neg, Option.bind_some, pk_us, pk_un, nn_eq, nn_le, nn_lt, nl_eq, if_true, if_false, eq_self, nl_le, hk]
  · subst h; simp (disch := omega) only [fl32, nI_add, pk_mul, pk_rem, nI_clamp, gdI, gdZ, gdB0, gdB1, nI_leI, nI_ltI, nI_eq, if_pos, if_neg, Option.bind_some, pk_us, pk_un, nn_eq, nn_le, nn_lt, nl_eq, if_true, if_false, eq_self, nl_le, hk]
  · subst h; simp (disch := omega) only [fl32, nI_add, pk_mul, pk_rem, nI_clamp, gdI, gdZ, gdB0, gdB1, nI_leI, nI_ltI, nI_eq, if_pos, if_neg, Option.bind_some, pk_us, pk_un, nn_eq, nn_le, nn_lt, nl_eq, if_true, if_false, eq_self, nl_le, hk]
theorem s_isPeople {F t : Nat} {A : Nat → Nat} {st : Nat → Int32} (hM : RpM A st) (ht : t < 6) (hk5 : A (5 + t) ≤ 5) : f_X7_isPeople F (nI t) st = some (nI (if 4 ≤ A (5 + t) then 1 else 0)) := by
  have e := hM (5 + t) (by omega) (by omega)
  unfold f_X7_isPeople
  by_cases h : 4 ≤ A (5 + t)
  · simp (disch := omega) only [fl32, nI_add, pk_mul, pk_rem, nI_clamp, gdI, gdZ, gdB0, gdB1, nI_leI, nI_ltI, nI_eq, if_pos, if_neg, Option.bind_some, pk_us, pk_un, nn_eq, nn_le, nn_lt, nl_eq, if_true, if_false, eq_self, nl_le, e]
  · simp (disch := omega) only [fl32, nI_add, pk_mul, pk_rem, nI_clamp, gdI, gdZ, gdB0, gdB1, nI_leI, nI_ltI, nI_eq, if_pos, if_neg, Option.bind_some, pk_us, pk_un, nn_eq, nn_le, nn_lt, nl_eq, if_true, if_false, eq_self, nl_le, e]
theorem s_cost {F t a w p fe : Nat} {was price : Nat → Int32} (ht : t < 6) (hw : was t = nI w) (hp : price t = nI p) (ha : a < 100000) (hw2 : w < 100000) : f_X3_costToPutBack F (nI t) (nI a) (nI fe) was price = some (nI (p * df a w + fe)) := by
  unfold f_X3_costToPutBack
  simp (disch := omega) only [fl32, nI_add, pk_mul, pk_rem, nI_clamp, gdI, gdZ, gdB0, gdB1, nI_leI, nI_ltI, nI_eq, if_pos, if_neg, Option.bind_some, pk_us, pk_un, nn_eq, nn_le, nn_lt, nl_eq, if_true, if_false, eq_self, nl_le, hp, s_offIf ht hw ha hw2]
theorem s_price {F t a : Nat} {A : Nat → Nat} {st : Nat → Int32} (hM : RpM A st) (ht : t < 6) (ha : a < 100000) (hw2 : A (11 + t) < 100000) : f_X7_price F (nI t) (nI a) st = some (nI (A (23 + t) * df a (A (11 + t)) + A 1)) := by
  have e := hM (23 + t) (by omega) (by omega)
  have e1 := hM 1 (by omega) (by omega)
  unfold f_X7_price
  simp (disch := omega) only [fl32, nI_add, pk_mul, pk_rem, nI_clamp, gdI, gdZ, gdB0, gdB1, nI_leI, nI_ltI, nI_eq, if_pos, if_neg, Option.bind_some, pk_us, pk_un, nn_eq, nn_le, nn_lt, nl_eq, if_true, if_false, eq_self, nl_le, e, e1, s_differ hM ht ha hw2]
theorem s_isAlike {F t : Nat} {A : Nat → Nat} {st : Nat → Int32} (hM : RpM A st) (ht : t < 6) (ha : A (35 + t) < 100000) (hw2 : A (11 + t) < 100000) (h0 : A 0 ≤ 9) : f_X7_isAlike F (nI t) st = some (nI (if df (A (35 + t)) (A (11 + t)) ≤ A 0 then 1 else 0)) := by
  have e1 := hM 0 (by omega) (by omega)
  have hlt : df (A (35 + t)) (A (11 + t)) < 200000 := by unfold df; omega
  unfold f_X7_isAlike
  by_cases h : df (A (35 + t)) (A (11 + t)) ≤ A 0
  · simp (disch := omega) only [fl32, nI_add, pk_mul, pk_rem, nI_clamp, gdI, gdZ, gdB0, gdB1, nI_leI, nI_ltI, nI_eq, if_pos, if_neg, Option.bind_some, pk_us, pk_un, nn_eq, nn_le, nn_lt, nl_eq, if_true, if_false, eq_self, nl_le, e1, s_off hM ht ha hw2]
  · simp (disch := omega) only [fl32, nI_add, pk_mul, pk_rem, nI_clamp, gdI, gdZ, gdB0, gdB1, nI_leI, nI_ltI, nI_eq, if_pos, if_neg, Option.bind_some, pk_us, pk_un, nn_eq, nn_le, nn_lt, nl_eq, if_true, if_false, eq_self, nl_le, e1, s_off hM ht ha hw2]
