/-! what a row tells: who is in haste, of which kind one is -/
theorem lackc {F : Nat} (r n : Nat) (hr : r < 8) (hn : n ≤ 12) (x2 : Int32) {size sizes : Nat → Int32} (status : Int32) (hs : (size r = -1 ∧ sizes r = -1) ∨ ∃ z : Nat, z ≤ 40 ∧ size r = nI z ∧ sizes r = nI z) :
    (∃ q : Int32, (q = 1 ∨ q = 2) ∧ f_X4_findingAt F (nI r) x2 (nI n) size = some q ∧ f_X7_lacks F (nI r) x2 (nI n) sizes status = some (-1000010 - q, q)) ∨
    (∃ a z : Nat, a + n ≤ z ∧ z ≤ 40 ∧ x2 = nI a ∧ size r = nI z ∧ f_X4_findingAt F (nI r) x2 (nI n) size = some 0 ∧ f_X7_lacks F (nI r) x2 (nI n) sizes status = some (0, status)) := by
  unfold f_X4_findingAt f_X7_lacks f_X4_isMissing f_X7_find
  rcases hs with ⟨s1, s2⟩ | ⟨z, hz, s1, s2⟩
  · left
    refine ⟨1, Or.inl rfl, ?_, ?_⟩
    · simp (disch := omega) only [fl32, nI_add, pk_mul, pk_rem, nI_clamp, gdI, gdZ, gdB0, gdB1, nI_leI, nI_ltI, nI_eq, if_pos, if_neg, Option.bind_some, pk_us, pk_un, nn_eq, nn_le, nn_lt, nl_eq, if_true, if_false, eq_self, nl_le, s1]
    · simp (disch := omega) only [fl32, nI_add, pk_mul, pk_rem, nI_clamp, gdI, gdZ, gdB0, gdB1, nI_leI, nI_ltI, nI_eq, if_pos, if_neg, Option.bind_some, pk_us, pk_un, nn_eq, nn_le, nn_lt, nl_eq, if_true, if_false, eq_self, nl_le, s2, nn_le, nI_nm]
  · rcases plc x2 z n hz (by omega) with ⟨p1, p2⟩ | ⟨a, ha, rfl, p1, p2⟩
    · left
      have p1' := p1 F r size hr s1
      have p2' := p2 F
      refine ⟨2, Or.inr rfl, ?_, ?_⟩
      · simp (disch := omega) only [fl32, nI_add, pk_mul, pk_rem, nI_clamp, gdI, gdZ, gdB0, gdB1, nI_leI, nI_ltI, nI_eq, if_pos, if_neg, Option.bind_some, pk_us, pk_un, nn_eq, nn_le, nn_lt, nl_eq, if_true, if_false, eq_self, nl_le, s1, p1']
      · simp (disch := omega) only [gdI, nI_clamp, s2, show ((0 : Int32) ≤ nI z) = True from eq_true (by rw [show (0 : Int32) = nI 0 from rfl, nI_leI (by omega) (by omega)]; omega), if_true, p2', Option.bind_some]
    · right
      have p1' := p1 F r size hr s1
      have p2' := p2 F
      refine ⟨a, z, ha, hz, rfl, s1, ?_, ?_⟩
      · simp (disch := omega) only [fl32, nI_add, pk_mul, pk_rem, nI_clamp, gdI, gdZ, gdB0, gdB1, nI_leI, nI_ltI, nI_eq, if_pos, if_neg, Option.bind_some, pk_us, pk_un, nn_eq, nn_le, nn_lt, nl_eq, if_true, if_false, eq_self, nl_le, s1, p1']
      · simp (disch := omega) only [gdI, nI_clamp, s2, show ((0 : Int32) ≤ nI z) = True from eq_true (by rw [show (0 : Int32) = nI 0 from rfl, nI_leI (by omega) (by omega)]; omega), if_true, p2', Option.bind_some, if_neg one_ne]
def hI : Option Nat → Int32
  | none => -1
  | some t => nI t
def HA : Option Nat → (Nat → Nat) → Nat → Nat
  | none, A => dayA A
  | some t, A => dayA (setA A (35 + t) (dN (A (5 + t)) (A (17 + t)) (A (35 + t)) (A 3)))
def hOk (h : Option Nat) (A : Nat → Nat) : Prop := ∀ t, h = some t → t < A 2
theorem HA_ok {h : Option Nat} {A : Nat → Nat} (hT : OkT A) (hh : hOk h A) : OkT (HA h A) ∧ HA h A 2 = A 2 ∧ HA h A 3 = A 3 + 1 := by
  cases h with
  | none => exact ⟨dayA_ok hT, dayA_lo (by omega) (by omega), dayA_3⟩
  | some t =>
    have ht := hh t rfl
    have b9 := (hT.2.2.2 t ht).2.2.2.2.2.2.2.2
    refine ⟨dayA_ok (okT_set hT (dN_le b9)), ?_, ?_⟩
    · show dayA _ 2 = _
      rw [dayA_lo (by omega) (by omega), setA_ne (by omega)]
    · show dayA _ 3 = _
      rw [dayA_3, setA_ne (by omega)]
theorem s_hpass {F : Nat} (hF : 100000 ≤ F) {h : Option Nat} {A : Nat → Nat} {things may fee day : Int32} {kind was by_ price side is_ : Nat → Int32} (hT : OkT A) (hh : hOk h A) (hd : A 3 < 900000) (hC : RpC A things may fee day kind was by_ price side is_) : ∃ day' is', f_X2_passDay F (hI h) things kind by_ day is_ = some (day', is') ∧ RpC (HA h A) things may fee day' kind was by_ price side is' := by
  cases h with
  | none => exact s_pass hF hT hd hC
  | some t =>
    have ht := hh t rfl
    have hn := hT.1
    have hC0 := hC
    obtain ⟨rfl, h2, h3, rfl, hc⟩ := hC
    obtain ⟨is', e1, e2⟩ := s_passH (F := F) hF (h := nI t) hT hd (fun t ht => (hc t ht).1) (fun t ht => (hc t ht).2.2.1) (fun t ht => (hc t ht).2.2.2.2.2)
    have b9 := (hT.2.2.2 t ht).2.2.2.2.2.2.2.2
    refine ⟨_, is', e1, ?_⟩
    have hC1 := rc_set (t := t) (v := dN (A (5 + t)) (A (17 + t)) (A (35 + t)) (A 3)) hT hC0
    have e3 : setA A (35 + t) (dN (A (5 + t)) (A (17 + t)) (A (35 + t)) (A 3)) 3 = A 3 := setA_ne (by omega)
    have es2 : setA A (35 + t) (dN (A (5 + t)) (A (17 + t)) (A (35 + t)) (A 3)) 2 = A 2 := setA_ne (by omega)
    have g := rc_day (is' := is') (okT_set hT (dN_le b9)) hC1 (fun s hs => by
      rw [es2] at hs
      rw [e2 s hs, dayA_at (by rw [es2]; exact hs), e3, setA_ne (show 5 + s ≠ 35 + t by omega), setA_ne (show 17 + s ≠ 35 + t by omega)]
      unfold vH
      by_cases c : s = t
      · rw [c, setA_at, if_pos rfl]
      · rw [setA_ne (by omega), if_neg (fun e => c ((nI_eq (by omega) (by omega)).mp e))])
    rw [e3] at g
    exact g
theorem s_hday {F : Nat} (hF : 100000 ≤ F) {h : Option Nat} {A : Nat → Nat} {st items : Nat → Int32} {k10 : (Nat → Int32) → (Nat → Int32) → Int32 → Int32 → Int32 → Int32 → Int32 → Option (Int32 × (Nat → Int32) × (Nat → Int32))} {aside : Nat → Int32} {x2 x3 x4 x5 : Int32} (hx : ¬ x3 ≤ x5) (hT : OkT A) (hh : hOk h A) (hd : A 3 < 900000) (hM : RpM A st) : ∃ st', RpM (HA h A) st' ∧ f_X7_isStealth_10 F items k10 st aside (hI h) x2 x3 x4 x5 = (if x4 = 0 then k10 st' aside (hI h) x2 x3 0 (x5 + 1) else gd (inb (x2 + x5) 320) ((f_X7_allOff F st').bind fun u5 => if items (x2 + x5).toNatClampNeg = u5 then k10 st' aside (hI h) x2 x3 1 (x5 + 1) else k10 st' aside (hI h) x2 x3 0 (x5 + 1))) := by
  unfold f_X7_isStealth_10 f_X7_isStealth_49 f_X7_isStealth_78 f_X7_isStealth_79
  rw [if_neg hx]
  cases h with
  | none =>
    obtain ⟨st', m1, m2, -⟩ := s_oneDay hF hT hd hM
    refine ⟨st', m2, ?_⟩
    rw [if_pos (show hI none < (0 : Int32) from by decide), m1]
    rfl
  | some t =>
    have ht := hh t rfl
    have hn := hT.1
    obtain ⟨b1, b2, b3, b4, b5, b6, b7, b8, b9⟩ := hT.2.2.2 t ht
    have q35 := hM (35 + t) (by omega) (by omega)
    have q3 := hM 3 (by omega) (by omega)
    have q7 := s_changed (F := F) (i := A (35 + t)) (d := A 3) hM (show t < 6 by omega) b1 b2 b4 b5 b9 (by omega)
    obtain ⟨st', m1, m2, -⟩ := s_oneDay (F := F) hF (okT_set (t := t) hT (dN_le (k := A (5 + t)) (b := A (17 + t)) (d := A 3) b9)) (by rw [setA_ne (by omega)]; exact hd) (setA_rm (i := 35 + t) (v := dN (A (5 + t)) (A (17 + t)) (A (35 + t)) (A 3)) hM)
    refine ⟨st', m2, ?_⟩
    show (if nI t < (0 : Int32) then _ else _) = _
    rw [if_neg (show ¬ nI t < (0 : Int32) from fun hh => by rw [show (0 : Int32) = nI 0 from rfl, nI_ltI (by omega) (by omega)] at hh; omega)]
    simp (disch := omega) only [hI, show (35 : Int32) = nI 35 from rfl, show (3 : Int32) = nI 3 from rfl, nI_add, gdI, nI_clamp, q35, q3, q7, Option.bind_some, m1]
theorem s_st0 {F n : Nat} (hF : 100000 ≤ F) {h : Option Nat} {items aside : Nat → Int32} {x2 : Int32} (hn12 : n ≤ 12) : ∀ (k s fu : Nat) (A : Nat → Nat) (st : Nat → Int32), n = s + k → k < fu → OkT A → hOk h A → A 3 + k < 900000 → RpM A st → ∃ st', f_X7_isStealth_10_r F items fu st aside (hI h) x2 (nI n) 0 (nI s) = some (0, st', aside) ∧ ∀ j, j < 41 → st' j = aside j := by
  intro k
  induction k with
  | zero =>
    intro s fu A st h1 h2 hT hh hd hM
    obtain ⟨fu, rfl⟩ : ∃ q, fu = q + 1 := ⟨fu - 1, by omega⟩
    obtain ⟨K, k1, k2⟩ := s_takeBk (F := F) hF aside st
    refine ⟨K, ?_, k2⟩
    show f_X7_isStealth_10 F _ _ _ _ _ _ _ _ _ = _
    unfold f_X7_isStealth_10
    rw [if_pos (show nI n ≤ nI s from by rw [nI_leI (by omega) (by omega)]; omega), k1]
    rfl
  | succ k ih =>
    intro s fu A st h1 h2 hT hh hd hM
    obtain ⟨fu, rfl⟩ : ∃ q, fu = q + 1 := ⟨fu - 1, by omega⟩
    obtain ⟨st', m1, m2⟩ := s_hday (F := F) hF (items := items) (k10 := f_X7_isStealth_10_r F items fu) (aside := aside) (x2 := x2) (x3 := nI n) (x4 := 0) (x5 := nI s) (show ¬ nI n ≤ nI s from by rw [nI_leI (by omega) (by omega)]; omega) hT hh (by omega) hM
    obtain ⟨o1, o2, o3⟩ := HA_ok hT hh
    obtain ⟨st2, g1, g2⟩ := ih (s + 1) fu (HA h A) st' (by omega) (by omega) o1 (fun t ht => by rw [o2]; exact hh t ht) (by rw [o3]; omega) m1
    refine ⟨st2, ?_, g2⟩
    show f_X7_isStealth_10 F _ _ _ _ _ _ _ _ _ = _
    rw [m2, if_pos rfl, nI_s1]
    exact g1
theorem s_st1 {F n r a : Nat} (hF : 100000 ≤ F) {h : Option Nat} {things may fee ld : Int32} {kind was by_ price side lis items itemz aside : Nat → Int32} (hn12 : n ≤ 12) (hr : r < 8) (ha : a + n ≤ 40) (hit : ∀ i, i < a + n → items (40 * r + i) = itemz (40 * r + i)) : ∀ (k s fu fu2 : Nat) (A : Nat → Nat) (day : Int32) (is_ st : Nat → Int32), n = s + k → k < fu → k < fu2 → OkT A → hOk h A → A 3 + k < 900000 → RpC A things may fee day kind was by_ price side is_ → RpM A st →
    ∃ q d' i' st', (q = 0 ∨ q = 1) ∧ f_X2_isToldIfHasty_7_r F items things ld kind was by_ lis fu day is_ (hI h) (nI r) (nI a) (nI n) (nI s) = some (q, d', i') ∧ f_X7_isStealth_10_r F itemz fu2 st aside (hI h) (nI (40 * r + a)) (nI n) 1 (nI s) = some (q, st', aside) ∧ ∀ j, j < 41 → st' j = aside j := by
  intro k
  induction k with
  | zero =>
    intro s fu fu2 A day is_ st h1 h2 h3 hT hh hd hC hM
    obtain ⟨fu, rfl⟩ : ∃ q, fu = q + 1 := ⟨fu - 1, by omega⟩
    obtain ⟨fu2, rfl⟩ : ∃ q, fu2 = q + 1 := ⟨fu2 - 1, by omega⟩
    obtain ⟨K, k1, k2⟩ := s_takeBk (F := F) hF aside st
    refine ⟨1, day, is_, K, Or.inr rfl, ?_, ?_, k2⟩
    · show f_X2_isToldIfHasty_7 F _ _ _ _ _ _ _ _ _ _ _ _ _ _ _ = _
      unfold f_X2_isToldIfHasty_7
      rw [if_pos (show nI n ≤ nI s from by rw [nI_leI (by omega) (by omega)]; omega)]
    · show f_X7_isStealth_10 F _ _ _ _ _ _ _ _ _ = _
      unfold f_X7_isStealth_10
      rw [if_pos (show nI n ≤ nI s from by rw [nI_leI (by omega) (by omega)]; omega), k1]
      rfl
  | succ k ih =>
    intro s fu fu2 A day is_ st h1 h2 h3 hT hh hd hC hM
    obtain ⟨fu, rfl⟩ : ∃ q, fu = q + 1 := ⟨fu - 1, by omega⟩
    obtain ⟨fu2, rfl⟩ : ∃ q, fu2 = q + 1 := ⟨fu2 - 1, by omega⟩
    obtain ⟨day', is', p1, p2⟩ := s_hpass hF hT hh (by omega) hC
    obtain ⟨st', m1, m2⟩ := s_hday (F := F) hF (items := itemz) (k10 := f_X7_isStealth_10_r F itemz fu2) (aside := aside) (x2 := nI (40 * r + a)) (x3 := nI n) (x4 := 1) (x5 := nI s) (show ¬ nI n ≤ nI s from by rw [nI_leI (by omega) (by omega)]; omega) hT hh (by omega) hM
    obtain ⟨o1, o2, o3⟩ := HA_ok hT hh
    have hh' : hOk h (HA h A) := fun t ht => by rw [o2]; exact hh t ht
    have w2 := w_all2 (F := F) hF o1 p2
    have w7 := s_allOff7' (F := F) hF m1 o1
    have hi := hit (a + s) (by omega)
    rw [show 40 * r + (a + s) = 40 * r + a + s from by omega] at hi
    have hrd : f_X4_read F (nI r) (nI a + nI s) items = some (itemz (40 * r + a + s)) := by
      unfold f_X4_read
      simp (disch := omega) only [fl32, nI_add, pk_mul, pk_rem, nI_clamp, gdI, gdZ, gdB0, gdB1, nI_leI, nI_ltI, nI_eq, if_pos, if_neg, Option.bind_some, pk_us, pk_un, nn_eq, nn_le, nn_lt, nl_eq, if_true, if_false, eq_self, nl_le]
      rw [← hi]
      congr 2
      omega
    by_cases c : nI (allN (HA h A)) = itemz (40 * r + a + s)
    · obtain ⟨q, d', i', st2, g0, g1, g2, g3⟩ := ih (s + 1) fu fu2 (HA h A) day' is' st' (by omega) (by omega) (by omega) o1 hh' (by rw [o3]; omega) p2 m1
      refine ⟨q, d', i', st2, g0, ?_, ?_, g3⟩
      · show f_X2_isToldIfHasty_7 F _ _ _ _ _ _ _ _ _ _ _ _ _ _ _ = _
        unfold f_X2_isToldIfHasty_7
        rw [if_neg (show ¬ nI n ≤ nI s from by rw [nI_leI (by omega) (by omega)]; omega), p1]
        simp only [Option.bind_some, w2, hrd, if_pos c, nI_s1]
        exact g1
      · show f_X7_isStealth_10 F _ _ _ _ _ _ _ _ _ = _
        rw [m2, if_neg one_ne, nI_add, gdI (by omega) (by omega), nI_clamp (by omega), w7]
        simp only [Option.bind_some, if_pos c.symm, nI_s1]
        exact g2
    · obtain ⟨st2, g1, g2⟩ := s_st0 (F := F) (n := n) hF (h := h) (items := itemz) (aside := aside) (x2 := nI (40 * r + a)) hn12 k (s + 1) fu2 (HA h A) st' (by omega) (by omega) o1 hh' (by rw [o3]; omega) m1
      refine ⟨0, day', is', st2, Or.inl rfl, ?_, ?_, g2⟩
      · show f_X2_isToldIfHasty_7 F _ _ _ _ _ _ _ _ _ _ _ _ _ _ _ = _
        unfold f_X2_isToldIfHasty_7
        rw [if_neg (show ¬ nI n ≤ nI s from by rw [nI_leI (by omega) (by omega)]; omega), p1]
        simp only [Option.bind_some, w2, hrd, if_neg c]
      · show f_X7_isStealth_10 F _ _ _ _ _ _ _ _ _ = _
        rw [m2, if_neg one_ne, nI_add, gdI (by omega) (by omega), nI_clamp (by omega), w7]
        simp only [Option.bind_some, if_neg (fun e => c (Eq.symm e)), nI_s1]
        exact g1
theorem s_told {F n r a : Nat} (hF : 100000 ≤ F) {h : Option Nat} {A : Nat → Nat} {things may fee day : Int32} {kind was by_ price side is_ items itemz st : Nat → Int32} (hn12 : n ≤ 12) (hr : r < 8) (ha : a + n ≤ 40) (hit : ∀ i, i < a + n → items (40 * r + i) = itemz (40 * r + i)) (hO : OkA A) (hh : hOk h A) (hC : RpC A things may fee day kind was by_ price side is_) (hM : RpM A st) (fd : Int32) (fi aside : Nat → Int32) :
    ∃ q d' i' st' as', (q = 0 ∨ q = 1) ∧ f_X2_isToldIfHasty F (hI h) (nI r) (nI a) (nI n) items things day kind was by_ is_ fd fi = some (q, d', i') ∧ f_X7_isStealth F (hI h) ((40 : Int32) * nI r + nI a) (nI n) itemz st aside = some (q, st', as') ∧ ∀ j, j < 41 → st' j = st j := by
  have hn := hO.1
  have hd := hO.2.2.2.1
  obtain ⟨K, k1, k2⟩ := s_putAside (F := F) hF st aside
  obtain ⟨is', b1, b2⟩ := s_begin (F := F) hF hn hC fd fi
  obtain ⟨q, d', i', st', h0, h1, h2, h3⟩ := s_st1 (F := F) (n := n) (r := r) (a := a) hF (h := h) (ld := day) (lis := is_) (aside := K) hn12 hr ha hit n 0 F F A day is' st (by omega) (by omega) (by omega) hO.T hh (by omega) b2 hM
  refine ⟨q, d', i', st', K, h0, ?_, ?_, fun j hj => (h3 j hj).trans (k2 j hj)⟩
  · unfold f_X2_isToldIfHasty
    rw [b1]
    exact h1
  · unfold f_X7_isStealth
    rw [k1]
    simp (disch := omega) only [Option.bind_some, show (40 : Int32) = nI 40 from rfl, pk_mul, nI_add]
    exact h2
theorem s_haste {F n r a : Nat} (hF : 100000 ≤ F) {A : Nat → Nat} {things may fee day isThere : Int32} {kind was by_ price side is_ items itemz sizes : Nat → Int32} (hn12 : n ≤ 12) (hr : r < 8) (ha : a + n ≤ 40) (hit : ∀ i, i < a + n → items (40 * r + i) = itemz (40 * r + i)) (hO : OkA A) (hC : RpC A things may fee day kind was by_ price side is_) : ∀ (k t fu fu2 : Nat) (c : Int32) (fd : Int32) (fi : Nat → Int32) (status : Int32) (st aside : Nat → Int32), A 2 = t + k → k < fu → k < fu2 → RpM A st →
    ∃ q d' i' st' as', f_X2_hasteBits_24_r F items things day kind was by_ is_ fu fd fi (nI r) (nI a) (nI n) c (nI t) = some (q, d', i') ∧ f_X7_stealth_75_r F isThere sizes itemz fu2 status st aside (nI r) (nI a) (nI n) c (nI t) = some (q, 0, st', as') ∧ ∀ j, j < 41 → st' j = st j := by
  have h26 := hO.1
  intro k
  induction k with
  | zero =>
    intro t fu fu2 c fd fi status st aside h1 h2 h3 hM
    obtain ⟨fu, rfl⟩ : ∃ q, fu = q + 1 := ⟨fu - 1, by omega⟩
    obtain ⟨fu2, rfl⟩ : ∃ q, fu2 = q + 1 := ⟨fu2 - 1, by omega⟩
    have e2 := hM 2 (by omega) (by omega)
    refine ⟨c, fd, fi, st, aside, ?_, ?_, fun _ _ => rfl⟩
    · show f_X2_hasteBits_24 F _ _ _ _ _ _ _ _ _ _ _ _ _ _ _ = _
      unfold f_X2_hasteBits_24
      rw [hC.1, if_pos (show nI (A 2) ≤ nI t from by rw [nI_leI (by omega) (by omega)]; omega)]
    · show f_X7_stealth_75 F _ _ _ _ _ _ _ _ _ _ _ _ = _
      unfold f_X7_stealth_75 f_X7_well
      simp (disch := omega) only [fl32, nI_add, pk_mul, pk_rem, nI_clamp, gdI, gdZ, gdB0, gdB1, nI_leI, nI_ltI, nI_eq, if_pos, if_neg, Option.bind_some, pk_us, pk_un, nn_eq, nn_le, nn_lt, nl_eq, if_true, if_false, eq_self, nl_le, e2]
  | succ k ih =>
    intro t fu fu2 c fd fi status st aside h1 h2 h3 hM
    obtain ⟨fu, rfl⟩ : ∃ q, fu = q + 1 := ⟨fu - 1, by omega⟩
    obtain ⟨fu2, rfl⟩ : ∃ q, fu2 = q + 1 := ⟨fu2 - 1, by omega⟩
    have e2 := hM 2 (by omega) (by omega)
    obtain ⟨q, d', i', st', as', q0, q1, q2, q3⟩ := s_told (F := F) hF (h := some t) hn12 hr ha hit hO (fun t' ht' => by cases ht'; omega) hC hM fd fi aside
    have q1' : f_X2_isToldIfHasty F (nI t) (nI r) (nI a) (nI n) items things day kind was by_ is_ fd fi = some (q, d', i') := q1
    have q2' : f_X7_isStealth F (nI t) ((40 : Int32) * nI r + nI a) (nI n) itemz st aside = some (q, st', as') := q2
    have hM' := rm_st hM q3
    have hcl : ∀ y, (q = 0 → y = 0) → (¬ q = 0 → y = (1 : Int32) <<< (nI t &&& 31)) → f_X2_hasteBits_24 F items things day kind was by_ is_ (f_X2_hasteBits_24_r F items things day kind was by_ is_ fu) fd fi (nI r) (nI a) (nI n) c (nI t) = f_X2_hasteBits_24_r F items things day kind was by_ is_ fu d' i' (nI r) (nI a) (nI n) (c ||| y) (nI (t + 1)) := by
      intro y y0 y1
      unfold f_X2_hasteBits_24 f_X2_hasteBits_60
      rw [hC.1, if_neg (show ¬ nI (A 2) ≤ nI t from by rw [nI_leI (by omega) (by omega)]; omega), ← hC.1, q1']
      simp only [Option.bind_some, nI_s1]
      by_cases cq : q = 0
      · rw [if_pos cq, y0 cq]
      · rw [if_neg cq, y1 cq]
    have hmo : ∀ y, (q = 0 → y = 0) → (¬ q = 0 → y = (1 : Int32) <<< (nI t &&& 31)) → f_X7_stealth_75 F isThere sizes itemz (f_X7_stealth_75_r F isThere sizes itemz fu2) status st aside (nI r) (nI a) (nI n) c (nI t) = f_X7_stealth_75_r F isThere sizes itemz fu2 status st' as' (nI r) (nI a) (nI n) (c ||| y) (nI (t + 1)) := by
      intro y y0 y1
      unfold f_X7_stealth_75 f_X7_stealth_112
      rw [show gd (inb (2 : Int32) 41) = fun (x : Option (Int32 × Int32 × (Nat → Int32) × (Nat → Int32))) => x from funext (fun x => gdI (k := 2) (by omega) (by omega))]
      show (if st 2 ≤ nI t then _ else _) = _
      rw [e2, if_neg (show ¬ nI (A 2) ≤ nI t from by rw [nI_leI (by omega) (by omega)]; omega), q2']
      simp only [Option.bind_some, nI_s1]
      by_cases cq : q = 0
      · rw [if_pos cq, y0 cq]
      · rw [if_neg cq, y1 cq]
    by_cases cq : q = 0
    · obtain ⟨q', d2, i2, st2, as2, g1, g2, g3⟩ := ih (t + 1) fu fu2 (c ||| 0) d' i' status st' as' (by omega) (by omega) (by omega) hM'
      exact ⟨q', d2, i2, st2, as2, (hcl 0 (fun _ => rfl) (fun h => absurd cq h)).trans g1, (hmo 0 (fun _ => rfl) (fun h => absurd cq h)).trans g2, fun j hj => (g3 j hj).trans (q3 j hj)⟩
    · obtain ⟨q', d2, i2, st2, as2, g1, g2, g3⟩ := ih (t + 1) fu fu2 (c ||| ((1 : Int32) <<< (nI t &&& 31))) d' i' status st' as' (by omega) (by omega) (by omega) hM'
      exact ⟨q', d2, i2, st2, as2, (hcl _ (fun h => absurd h cq) (fun _ => rfl)).trans g1, (hmo _ (fun h => absurd h cq) (fun _ => rfl)).trans g2, fun j hj => (g3 j hj).trans (q3 j hj)⟩
