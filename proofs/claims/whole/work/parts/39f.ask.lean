/-! what one is asked, and the trace that it leaves -/
def AgT (z : Nat) (a b : Nat → Int32) : Prop := ∀ i, i < z → a i = b i
theorem ag_u {z : Nat} {a b : Nat → Int32} {x : Int32} (h : AgT z a b) : AgT (z + 1) (upd a z x) (upd b z x) := fun i hi => by
  by_cases c : i = z
  · rw [c, pk_us, pk_us]
  · rw [pk_un c, pk_un c]; exact h i (by omega)
section ASK
variable {F : Nat} {kind by_ is_ st : Nat → Int32} {t : Nat}
theorem lv1 {x : Int32} {z : Nat} {tr : Nat → Int32} (hz : z < 16) : f_X1_leave F x (nI z) tr = some (nI (z + 1), upd tr z x) := by
  unfold f_X1_leave
  rw [if_neg (show ¬ (16 : Int32) ≤ nI z from fun hh => by rw [show (16 : Int32) = nI 16 from rfl, nI_leI (by omega) (by omega)] at hh; omega), gdI hz (by omega), nI_clamp (by omega), nI_s1]
theorem lv7 {x : Int32} {z : Nat} {tr : Nat → Int32} (hz : z < 16) : f_X7_begin F x (nI z) tr = some (nI (z + 1), upd tr z x) := by
  unfold f_X7_begin
  rw [if_neg (show ¬ (16 : Int32) ≤ nI z from fun hh => by rw [show (16 : Int32) = nI 16 from rfl, nI_leI (by omega) (by omega)] at hh; omega), gdI hz (by omega), nI_clamp (by omega), nI_s1]
theorem d8 {d : Nat} (hd : d ≤ 8) : nI d ≤ (8 : Int32) := by rw [show (8 : Int32) = nI 8 from rfl, nI_leI (by omega) (by omega)]; exact hd
theorem g10 {e d z : Nat} {tr : Nat → Int32} (ht : t < 6) (hd : d ≤ 8) (hz : z < 16) : f_X1_give F (e + 1) 10 (nI d) (nI t) kind by_ is_ (nI z) tr = some (by_ t, nI (z + 1), upd tr z 10) := by
  show f_X1_give_b F _ _ _ _ _ _ _ _ _ = _
  unfold f_X1_give_b
  rw [if_pos (d8 hd), lv1 hz, Option.bind_some, if_pos rfl, gdI ht (by omega), nI_clamp (by omega)]
theorem g20 {e d z : Nat} {tr : Nat → Int32} (hd : d ≤ 8) (hz : z < 16) : f_X1_give F (e + 1) 20 (nI d) (nI t) kind by_ is_ (nI z) tr = some (nI t, nI (z + 1), upd tr z 20) := by
  show f_X1_give_b F _ _ _ _ _ _ _ _ _ = _
  unfold f_X1_give_b
  rw [if_pos (d8 hd), lv1 hz]
  rfl
theorem g13 {e d z : Nat} {tr : Nat → Int32} (ht : t < 6) (hd : d ≤ 7) (hz : z < 15) : f_X1_give F (e + 1 + 1) 13 (nI d) (nI t) kind by_ is_ (nI z) tr = some (by_ t - 100, nI (z + 1 + 1), upd (upd tr z 13) (z + 1) 10) := by
  show f_X1_give_b F _ _ _ _ _ _ _ _ _ = _
  unfold f_X1_give_b
  rw [if_pos (d8 (by omega)), lv1 (by omega), Option.bind_some, if_neg (by decide), if_neg (by decide), if_neg (by decide), if_pos rfl, nI_s1]
  show ((f_X1_give F (e + 1) 10 (nI (d + 1)) (nI t) kind by_ is_ (nI (z + 1)) (upd tr z 13)).bind fun u15 => _) = _
  rw [g10 ht (by omega) (by omega)]
  rfl
theorem g14 {e d z : Nat} {tr : Nat → Int32} (ht : t < 6) (hd : d ≤ 6) (hz : z < 14) : f_X1_give F (e + 1 + 1 + 1) 14 (nI d) (nI t) kind by_ is_ (nI z) tr = some ((by_ t - 100) * 2, nI (z + 1 + 1 + 1), upd (upd (upd tr z 14) (z + 1) 13) (z + 1 + 1) 10) := by
  show f_X1_give_b F _ _ _ _ _ _ _ _ _ = _
  unfold f_X1_give_b
  rw [if_pos (d8 (by omega)), lv1 (by omega), Option.bind_some, if_neg (by decide), if_neg (by decide), if_neg (by decide), if_neg (by decide), if_pos rfl, nI_s1]
  show ((f_X1_give F (e + 1 + 1) 13 (nI (d + 1)) (nI t) kind by_ is_ (nI (z + 1)) (upd tr z 14)).bind fun u15 => _) = _
  rw [g13 ht (by omega) (by omega)]
  rfl
theorem g21 {e d z : Nat} {tr : Nat → Int32} (ht : t < 6) (hd : d ≤ 7) (hz : z < 15) : f_X1_give F (e + 1 + 1) 21 (nI d) (nI t) kind by_ is_ (nI z) tr = some (nI t + is_ t, nI (z + 1 + 1), upd (upd tr z 21) (z + 1) 20) := by
  show f_X1_give_b F _ _ _ _ _ _ _ _ _ = _
  unfold f_X1_give_b
  rw [if_pos (d8 (by omega)), lv1 (by omega), Option.bind_some]
  iterate 11 rw [if_neg (by decide)]
  rw [if_pos rfl, nI_s1]
  show ((f_X1_give F (e + 1) 20 (nI (d + 1)) (nI t) kind by_ is_ (nI (z + 1)) (upd tr z 21)).bind fun u15 => _) = _
  rw [g20 (by omega) (by omega), Option.bind_some, gdI ht (by omega), nI_clamp (by omega)]
theorem g22 {e d z : Nat} {tr : Nat → Int32} (ht : t < 6) (hd : d ≤ 6) (hz : z < 14) : f_X1_give F (e + 1 + 1 + 1) 22 (nI d) (nI t) kind by_ is_ (nI z) tr = some (nI t + is_ t - 1000, nI (z + 1 + 1 + 1), upd (upd (upd tr z 22) (z + 1) 21) (z + 1 + 1) 20) := by
  show f_X1_give_b F _ _ _ _ _ _ _ _ _ = _
  unfold f_X1_give_b
  rw [if_pos (d8 (by omega)), lv1 (by omega), Option.bind_some]
  iterate 12 rw [if_neg (by decide)]
  rw [if_pos rfl, nI_s1]
  show ((f_X1_give F (e + 1 + 1) 21 (nI (d + 1)) (nI t) kind by_ is_ (nI (z + 1)) (upd tr z 22)).bind fun u15 => _) = _
  rw [g21 ht (by omega) (by omega)]
  rfl
theorem g24 {e d z : Nat} {tr : Nat → Int32} (ht : t < 6) (hd : d ≤ 6) (hz : z < 14) : f_X1_give F (e + 1 + 1 + 1) 24 (nI d) (nI t) kind by_ is_ (nI z) tr = some ((nI t + is_ t) * 2, nI (z + 1 + 1 + 1), upd (upd (upd tr z 24) (z + 1) 21) (z + 1 + 1) 20) := by
  show f_X1_give_b F _ _ _ _ _ _ _ _ _ = _
  unfold f_X1_give_b
  rw [if_pos (d8 (by omega)), lv1 (by omega), Option.bind_some]
  iterate 14 rw [if_neg (by decide)]
  rw [if_pos rfl, nI_s1]
  show ((f_X1_give F (e + 1 + 1) 21 (nI (d + 1)) (nI t) kind by_ is_ (nI (z + 1)) (upd tr z 24)).bind fun u15 => _) = _
  rw [g21 ht (by omega) (by omega)]
  rfl
theorem kindIn {k : Nat} (hk5 : k ≤ 5) : f_X6_isWithin F (nI k) 0 5 = some 1 := by
  unfold f_X6_isWithin
  simp (disch := omega) only [fl32, nI_add, pk_mul, pk_rem, nI_clamp, gdI, gdZ, gdB0, gdB1, nI_leI, nI_ltI, nI_eq, if_pos, if_neg, Option.bind_some, pk_us, pk_un, nn_eq, nn_le, nn_lt, nl_eq, if_true, if_false, eq_self, nl_le]
theorem s_sizeA {rec_ : Int32 → Int32 → Int32 → (Nat → Int32) → (Nat → Int32) → (Nat → Int32) → Int32 → (Nat → Int32) → Option (Int32 × Int32 × (Nat → Int32))} {k : Nat} {x1 len : Int32} {tr : Nat → Int32} (ht : t < 6) (hk : kind t = nI k) (hk5 : k ≤ 5) : f_X1_sizeAnew F rec_ x1 (nI t) kind by_ is_ len tr = (rec_ (kt_SIZE_BODY k) x1 (nI t) kind by_ is_ len tr).bind fun u6 => some (u6.1, u6.2.1, u6.2.2) := by
  unfold f_X1_sizeAnew
  simp (disch := omega) only [gdI, nI_clamp, hk, kindIn hk5, Option.bind_some, if_neg one_ne]
theorem s_markA {rec_ : Int32 → Int32 → Int32 → (Nat → Int32) → (Nat → Int32) → (Nat → Int32) → Int32 → (Nat → Int32) → Option (Int32 × Int32 × (Nat → Int32))} {k : Nat} {x1 len : Int32} {tr : Nat → Int32} (ht : t < 6) (hk : kind t = nI k) (hk5 : k ≤ 5) : f_X1_markAnew F rec_ x1 (nI t) kind by_ is_ len tr = (rec_ (kt_MARK_BODY k) x1 (nI t) kind by_ is_ len tr).bind fun u6 => some (u6.1, u6.2.1, u6.2.2) := by
  unfold f_X1_markAnew
  simp (disch := omega) only [gdI, nI_clamp, hk, kindIn hk5, Option.bind_some, if_neg one_ne]
theorem m_lent10 {z : Nat} {tr : Nat → Int32} (ht : t < 6) (hz : z < 16) : f_X7_lent F (nI t) 10 st (nI z) tr = some (st (17 + t), nI (z + 1), upd tr z 10) := by
  unfold f_X7_lent
  rw [lv7 hz, Option.bind_some, if_pos rfl, show (17 : Int32) + nI t = nI (17 + t) from nI_add 17 t, gdI (by omega) (by omega), nI_clamp (by omega)]
theorem m_lent20 {z : Nat} {tr : Nat → Int32} (hz : z < 16) : f_X7_lent F (nI t) 20 st (nI z) tr = some (nI t, nI (z + 1), upd tr z 20) := by
  unfold f_X7_lent
  rw [lv7 hz, Option.bind_some, if_neg (by decide)]
theorem m_ps {z : Nat} {tr : Nat → Int32} (ht : t < 6) (hz : z < 15) : f_X7_personSize F (nI t) st (nI z) tr = some (st (17 + t) - 100, nI (z + 1 + 1), upd (upd tr z 13) (z + 1) 10) := by
  unfold f_X7_personSize
  rw [lv7 (by omega), Option.bind_some, m_lent10 ht (by omega)]
  rfl
theorem m_gm {z : Nat} {tr : Nat → Int32} (ht : t < 6) (hz : z < 15) : f_X7_growingMark F (nI t) st (nI z) tr = some (nI t + st (35 + t), nI (z + 1 + 1), upd (upd tr z 21) (z + 1) 20) := by
  unfold f_X7_growingMark
  rw [lv7 (by omega), Option.bind_some, m_lent20 (by omega), Option.bind_some, show (35 : Int32) + nI t = nI (35 + t) from nI_add 35 t, gdI (by omega) (by omega), nI_clamp (by omega)]
/-- a person's size: the class gives 13 or 14 -/
theorem r_person {e d z k : Nat} {tr trz : Nat → Int32} (ht : t < 6) (hd : d ≤ 6) (hz : z < 12) (hk : k = 4 ∨ k = 5) (h5 : st (5 + t) = nI k) (hb : by_ t = st (17 + t)) (ha : AgT z tr trz) : ∃ v z' tr' trz', z' ≤ z + 3 ∧ f_X1_give F (e + 1 + 1 + 1) (kt_SIZE_BODY k) (nI d) (nI t) kind by_ is_ (nI z) tr = some (v, nI z', tr') ∧ f_X7_sizeOfPerson F (nI t) st (nI z) trz = some (v, nI z', trz') ∧ AgT z' tr' trz' := by
  unfold f_X7_sizeOfPerson
  rw [show (5 : Int32) + nI t = nI (5 + t) from nI_add 5 t, gdI (by omega) (by omega), nI_clamp (by omega), h5]
  rcases hk with rfl | rfl
  · refine ⟨by_ t - 100, z + 1 + 1, (upd (upd tr (z) 13) (z + 1) 10), (upd (upd trz (z) 13) (z + 1) 10), ?_, g13 (e := e + 1) ht (by omega) (by omega), ?_, ag_u (ag_u ha)⟩
    · omega
    · rw [if_neg (by decide), m_ps ht (by omega), hb]
      rfl
  · refine ⟨(by_ t - 100) * 2, z + 1 + 1 + 1, (upd (upd (upd tr (z) 14) (z + 1) 13) (z + 1 + 1) 10), (upd (upd (upd trz (z) 14) (z + 1) 13) (z + 1 + 1) 10), ?_, g14 (e := e) ht (by omega) (by omega), ?_, ag_u (ag_u (ag_u ha))⟩
    · omega
    · rw [if_pos (by decide), lv7 (by omega), Option.bind_some, m_ps ht (by omega), hb, Int32.mul_comm]
      rfl
theorem r_mark {e d z k : Nat} {tr trz : Nat → Int32} (ht : t < 6) (hd : d ≤ 4) (hz : z < 8) (hk1 : 1 ≤ k) (hk5 : k ≤ 5) (hk : kind t = nI k) (h5 : st (5 + t) = nI k) (hb : by_ t = st (17 + t)) (hi : is_ t = st (35 + t)) (ha : AgT z tr trz) : ∃ v z' tr' trz', z' ≤ z + 5 ∧ f_X1_markAnew F (f_X1_give F (e + 1 + 1 + 1 + 1)) (nI d) (nI t) kind by_ is_ (nI z) tr = some (v, nI z', tr') ∧ f_X7_markOf F (nI t) st (nI z) trz = some (v, nI z', trz') ∧ AgT z' tr' trz' := by
  rw [s_markA ht hk hk5]
  unfold f_X7_markOf
  rw [show (5 : Int32) + nI t = nI (5 + t) from nI_add 5 t, gdI (by omega) (by omega), nI_clamp (by omega), h5]
  have h45 : ∀ k, (k = 4 ∨ k = 5) → kind t = nI k → st (5 + t) = nI k → kt_MARK_BODY k = 23 → ∃ v z' tr' trz', z' ≤ z + 5 ∧ (f_X1_give F (e + 1 + 1 + 1 + 1) (kt_MARK_BODY k) (nI d) (nI t) kind by_ is_ (nI z) tr).bind (fun u6 => some (u6.1, u6.2.1, u6.2.2)) = some (v, nI z', tr') ∧ (if nI k = 2 then ((f_X7_begin F 24 (nI z) trz).bind fun u17 => (f_X7_growingMark F (nI t) st (u17.1) (u17.2)).bind fun u19 => some ((2 * (u19.1)), (u19.2.1), (u19.2.2))) else (if nI k = 3 then ((f_X7_begin F 22 (nI z) trz).bind fun u13 => (f_X7_growingMark F (nI t) st (u13.1) (u13.2)).bind fun u15 => some (((u15.1) - 1000), (u15.2.1), (u15.2.2))) else (if nI k = 1 then ((f_X7_growingMark F (nI t) st (nI z) trz).bind fun u11 => some ((u11.1), (u11.2.1), (u11.2.2))) else ((f_X7_begin F 23 (nI z) trz).bind fun u5 => (f_X7_lent F (nI t) 20 st (u5.1) (u5.2)).bind fun u7 => (f_X7_sizeOfPerson F (nI t) st (u7.2.1) (u7.2.2)).bind fun u9 => some (((u7.1) - (u9.1)), (u9.2.1), (u9.2.2)))))) = some (v, nI z', trz') ∧ AgT z' tr' trz' := by
    intro k hk45 hkk h5k hbody
    obtain ⟨v, z', tr', trz', p0, p1, p2, p3⟩ := r_person (F := F) (e := e) (d := d + 1) (z := z + 1 + 1) (k := k) (kind := kind) (is_ := is_) (tr := upd (upd tr z 23) (z + 1) 20) (trz := upd (upd trz z 23) (z + 1) 20) ht (by omega) (by omega) hk45 h5k hb (ag_u (ag_u ha))
    refine ⟨nI t - v, z', tr', trz', by omega, ?_, ?_, p3⟩
    · rw [hbody]
      have hg : f_X1_give F (e + 1 + 1 + 1 + 1) 23 (nI d) (nI t) kind by_ is_ (nI z) tr = some (nI t - v, nI z', tr') := by
        show f_X1_give_b F _ _ _ _ _ _ _ _ _ = _
        unfold f_X1_give_b
        rw [if_pos (d8 (by omega)), lv1 (by omega), Option.bind_some]
        iterate 13 rw [if_neg (by decide)]
        rw [if_pos rfl, nI_s1]
        show ((f_X1_give F (e + 1 + 1 + 1) 20 (nI (d + 1)) (nI t) kind by_ is_ (nI (z + 1)) (upd tr z 23)).bind fun u15 => _) = _
        rw [g20 (by omega) (by omega), Option.bind_some, s_sizeA ht hkk (by omega), p1]
        rfl
      rw [hg]
      rfl
    · rw [if_neg (by rcases hk45 with rfl | rfl <;> decide), if_neg (by rcases hk45 with rfl | rfl <;> decide), if_neg (by rcases hk45 with rfl | rfl <;> decide), lv7 (by omega), Option.bind_some, m_lent20 (by omega), Option.bind_some, p2]
      rfl
  rcases (show k = 1 ∨ k = 2 ∨ k = 3 ∨ k = 4 ∨ k = 5 by omega) with rfl | rfl | rfl | rfl | rfl
  · refine ⟨nI t + is_ t, z + 1 + 1, (upd (upd tr (z) 21) (z + 1) 20), (upd (upd trz (z) 21) (z + 1) 20), by omega, ?_, ?_, ag_u (ag_u ha)⟩
    · rw [show kt_MARK_BODY 1 = 21 from rfl, g21 (e := e + 1 + 1) ht (by omega) (by omega)]
      rfl
    · rw [if_neg (by decide), if_neg (by decide), if_pos (by decide), m_gm ht (by omega), hi]
      rfl
  · refine ⟨(nI t + is_ t) * 2, z + 1 + 1 + 1, (upd (upd (upd tr (z) 24) (z + 1) 21) (z + 1 + 1) 20), (upd (upd (upd trz (z) 24) (z + 1) 21) (z + 1 + 1) 20), by omega, ?_, ?_, ag_u (ag_u (ag_u ha))⟩
    · rw [show kt_MARK_BODY 2 = 24 from rfl, g24 (e := e + 1) ht (by omega) (by omega)]
      rfl
    · rw [if_pos (by decide), lv7 (by omega), Option.bind_some, m_gm ht (by omega), hi, Int32.mul_comm]
      rfl
  · refine ⟨nI t + is_ t - 1000, z + 1 + 1 + 1, (upd (upd (upd tr (z) 22) (z + 1) 21) (z + 1 + 1) 20), (upd (upd (upd trz (z) 22) (z + 1) 21) (z + 1 + 1) 20), by omega, ?_, ?_, ag_u (ag_u (ag_u ha))⟩
    · rw [show kt_MARK_BODY 3 = 22 from rfl, g22 (e := e + 1) ht (by omega) (by omega)]
      rfl
    · rw [if_neg (by decide), if_pos (by decide), lv7 (by omega), Option.bind_some, m_gm ht (by omega), hi]
      rfl
  · exact h45 4 (Or.inl rfl) hk h5 rfl
  · exact h45 5 (Or.inr rfl) hk h5 rfl
theorem r_grow {e d z k : Nat} {tr trz : Nat → Int32} (ht : t < 6) (hd : d ≤ 3) (hz : z < 6) (hk1 : 1 ≤ k) (hk5 : k ≤ 5) (hk : kind t = nI k) (h5 : st (5 + t) = nI k) (hb : by_ t = st (17 + t)) (hi : is_ t = st (35 + t)) (ha : AgT z tr trz) : ∃ v z' tr' trz', z' ≤ z + 7 ∧ f_X1_give F (e + 1 + 1 + 1 + 1 + 1) 11 (nI d) (nI t) kind by_ is_ (nI z) tr = some (v, nI z', tr') ∧ f_X7_growingSize F (nI t) st (nI z) trz = some (v, nI z', trz') ∧ AgT z' tr' trz' := by
  obtain ⟨v, z', tr', trz', p0, p1, p2, p3⟩ := r_mark (F := F) (e := e) (d := d + 1) (z := z + 1 + 1) (tr := upd (upd tr z 11) (z + 1) 10) (trz := upd (upd trz z 11) (z + 1) 10) ht (by omega) (by omega) hk1 hk5 hk h5 hb hi (ag_u (ag_u ha))
  refine ⟨by_ t + v, z', tr', trz', by omega, ?_, ?_, p3⟩
  · show f_X1_give_b F _ _ _ _ _ _ _ _ _ = _
    unfold f_X1_give_b
    rw [if_pos (d8 (by omega)), lv1 (by omega), Option.bind_some, if_neg (by decide), if_pos rfl, nI_s1]
    show ((f_X1_give F (e + 1 + 1 + 1 + 1) 10 (nI (d + 1)) (nI t) kind by_ is_ (nI (z + 1)) (upd tr z 11)).bind fun u15 => _) = _
    rw [g10 ht (by omega) (by omega), Option.bind_some, p1]
    rfl
  · unfold f_X7_growingSize
    rw [lv7 (by omega), Option.bind_some, m_lent10 ht (by omega), Option.bind_some, p2, hb]
    rfl
theorem r_size {e z k : Nat} {tr trz : Nat → Int32} (ht : t < 6) (hz : z < 5) (hk1 : 1 ≤ k) (hk5 : k ≤ 5) (hk : kind t = nI k) (h5 : st (5 + t) = nI k) (hb : by_ t = st (17 + t)) (hi : is_ t = st (35 + t)) (ha : AgT z tr trz) : ∃ v z' tr' trz', z' ≤ 16 ∧ f_X1_sizeAnew F (f_X1_give F (e + 1 + 1 + 1 + 1 + 1 + 1)) (nI 0) (nI t) kind by_ is_ (nI z) tr = some (v, nI z', tr') ∧ f_X7_sizeOf F (nI t) st (nI z) trz = some (v, nI z', trz') ∧ AgT z' tr' trz' := by
  rw [s_sizeA ht hk hk5]
  unfold f_X7_sizeOf
  rw [show (5 : Int32) + nI t = nI (5 + t) from nI_add 5 t, gdI (by omega) (by omega), nI_clamp (by omega), h5]
  rcases (show (k = 1 ∨ k = 3) ∨ k = 2 ∨ (k = 4 ∨ k = 5) by omega) with hc | rfl | hc
  · obtain ⟨v, z', tr', trz', p0, p1, p2, p3⟩ := r_grow (F := F) (e := e + 1) (d := 0) ht (by omega) (by omega) hk1 hk5 hk h5 hb hi ha
    refine ⟨v, z', tr', trz', by omega, ?_, ?_, p3⟩
    · rw [show kt_SIZE_BODY k = 11 from by rcases hc with rfl | rfl <;> rfl, p1]
      rfl
    · rw [if_neg (by rcases hc with rfl | rfl <;> decide), if_pos (by rcases hc with rfl | rfl <;> decide), p2]
      rfl
  · obtain ⟨v, z', tr', trz', p0, p1, p2, p3⟩ := r_grow (F := F) (e := e) (d := 1) (z := z + 1) (tr := upd tr z 12) (trz := upd trz z 12) ht (by omega) (by omega) hk1 hk5 hk h5 hb hi (ag_u ha)
    refine ⟨0 - v, z', tr', trz', by omega, ?_, ?_, p3⟩
    · have hg : f_X1_give F (e + 1 + 1 + 1 + 1 + 1 + 1) 12 (nI 0) (nI t) kind by_ is_ (nI z) tr = some (0 - v, nI z', tr') := by
        show f_X1_give_b F _ _ _ _ _ _ _ _ _ = _
        unfold f_X1_give_b
        rw [if_pos (d8 (by omega)), lv1 (by omega), Option.bind_some, if_neg (by decide), if_neg (by decide), if_pos rfl, nI_s1]
        show ((f_X1_give F (e + 1 + 1 + 1 + 1 + 1) 11 (nI (0 + 1)) (nI t) kind by_ is_ (nI (z + 1)) (upd tr z 12)).bind fun u15 => _) = _
        rw [p1]
        rfl
      rw [show kt_SIZE_BODY 2 = 12 from rfl, hg]
      rfl
    · rw [if_pos (by decide), lv7 (by omega), Option.bind_some, p2, Int32.zero_sub]
      rfl
  · obtain ⟨v, z', tr', trz', p0, p1, p2, p3⟩ := r_person (F := F) (e := e + 1 + 1 + 1) (d := 0) (k := k) (kind := kind) (is_ := is_) ht (by omega) (by omega) hc h5 hb ha
    refine ⟨v, z', tr', trz', by omega, ?_, ?_, p3⟩
    · rw [p1]
      rfl
    · rw [if_neg (by rcases hc with rfl | rfl <;> decide), if_neg (by rcases hc with rfl | rfl <;> decide), p2]
      rfl
end ASK
theorem k_ask (F : Nat) (x1 x2 : Int32) {A : Nat → Nat} {st kind was by_ price side is_ trace tracez : Nat → Int32} {things may fee day length traced : Int32} (one : Int32) (hO : OkA A) (hC : RpC A things may fee day kind was by_ price side is_) (hM : RpM A st) (hQ : IAsk length trace traced tracez) :
    ∃ (uc : Int32 × Int32 × Int32 × (Nat → Int32)) (um : Int32 × Int32 × (Nat → Int32)), f_X6_ask F x1 x2 things kind by_ is_ length one trace = some uc ∧ f_X7_ask F x1 x2 st traced tracez = some um ∧ uc.1 = um.1 ∧ IAsk uc.2.1 uc.2.2.2 um.2.1 um.2.2 := by
  obtain ⟨rfl, rfl, rfl, rfl, hc⟩ := hC
  have e2 := hM 2 (by omega) (by omega)
  have hn := hO.1
  unfold f_X6_ask f_X7_ask f_X1_answer
  rcases thc x1 (A 2) hO.1 with ⟨g1, g2⟩ | ⟨t, ht, rfl, g1, g2⟩
  · rw [g1, g2 F st e2]
    exact ⟨_, _, rfl, rfl, rfl, hQ⟩
  rw [g1, g2 F st e2]
  rcases win x2 0 1 0 1 0 1 rfl rfl rfl rfl (by decide) (by decide) with ⟨e1, e2⟩ | ⟨m, -, hm, rfl, e1, e2⟩
  · rw [e1, e2]
    exact ⟨_, _, rfl, rfl, rfl, hQ⟩
  rw [e1, e2]
  obtain ⟨b1, b2, -⟩ := hO.2.2.2.2 t ht
  obtain ⟨c1, c2, c3, c4, c5, c6⟩ := hc t ht
  have q5 := hM (5 + t) (by omega) (by omega)
  have hb := c3.trans (hM (17 + t) (by omega) (by omega)).symm
  have hi := c6.trans (hM (35 + t) (by omega) (by omega)).symm
  simp only [Option.bind_some, if_neg one_ne]
  have h0 : AgT 0 trace tracez := fun i hi => by omega
  rcases (show m = 0 ∨ m = 1 by omega) with rfl | rfl
  · obtain ⟨v, z', tr', trz', p0, p1, p2, p3⟩ := r_size (F := F) (e := 6) (z := 0) (show t < 6 by omega) (by omega) b1 b2 c1 q5 hb hi h0
    rw [if_pos (show nI 0 = (0 : Int32) from rfl), if_pos (show nI 0 = (0 : Int32) from rfl)]
    have p1' : f_X1_sizeAnew F (f_X1_give F 12) 0 (nI t) kind by_ is_ 0 trace = some (v, nI z', tr') := p1
    have p2' : f_X7_sizeOf F (nI t) st 0 tracez = some (v, nI z', trz') := p2
    rw [p1', p2']
    exact ⟨_, _, rfl, rfl, rfl, z', p0, rfl, rfl, p3⟩
  · obtain ⟨v, z', tr', trz', p0, p1, p2, p3⟩ := r_mark (F := F) (e := 8) (d := 0) (z := 0) (show t < 6 by omega) (by omega) (by omega) b1 b2 c1 q5 hb hi h0
    rw [if_neg (show ¬ nI 1 = (0 : Int32) from by decide), if_neg (show ¬ nI 1 = (0 : Int32) from by decide)]
    have p1' : f_X1_markAnew F (f_X1_give F 12) 0 (nI t) kind by_ is_ 0 trace = some (v, nI z', tr') := p1
    have p2' : f_X7_markOf F (nI t) st 0 tracez = some (v, nI z', trz') := p2
    rw [p1', p2']
    exact ⟨_, _, rfl, rfl, rfl, z', by omega, rfl, rfl, p3⟩
