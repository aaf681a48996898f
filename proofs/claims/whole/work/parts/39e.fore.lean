/-! of which kind one is, by what a row tells -/
theorem s_wh0 {F n t k : Nat} {A : Nat → Nat} {st sizes items : Nat → Int32} {status x2 x3 x6 x7 x8 : Int32} {k65 : Int32 → (Nat → Int32) → Int32 → Int32 → Int32 → Int32 → Int32 → Int32 → Int32 → Option (Int32 × Int32 × (Nat → Int32))} (hn12 : n ≤ 12) (hT : OkT A) (ht : t < A 2) (hd : A 3 ≤ 999) (hk1 : 1 ≤ k) (hk5 : k ≤ 5) (hM : RpM (setA A (5 + t) k) st) : ∀ (kk s fu i : Nat), n = s + kk → kk < fu → i ≤ 99 → f_X7_who_98_r F sizes items k65 fu status st (nI t) x2 x3 (nI n) x6 x7 x8 (nI i) 0 (nI s) = k65 status st (nI t) x2 x3 (nI n) x6 (x7 ||| 0) (x8 + 1) := by
  have hn := hT.1
  obtain ⟨b1, b2, b3, b4, b5, b6, b7, b8, b9⟩ := hT.2.2.2 t ht
  have e3 := hM 3 (by omega) (by omega)
  rw [setA_ne (by omega)] at e3
  intro kk
  induction kk with
  | zero =>
    intro s fu i h1 h2 hi
    obtain ⟨fu, rfl⟩ : ∃ q, fu = q + 1 := ⟨fu - 1, by omega⟩
    show f_X7_who_98 F _ _ _ _ _ _ _ _ _ _ _ _ _ _ _ _ = _
    unfold f_X7_who_98 f_X7_who_175
    rw [if_pos (show nI n ≤ nI s from by rw [nI_leI (by omega) (by omega)]; omega), if_pos rfl]
  | succ kk ih =>
    intro s fu i h1 h2 hi
    obtain ⟨fu, rfl⟩ : ∃ q, fu = q + 1 := ⟨fu - 1, by omega⟩
    have q7 := s_changed (F := F) (i := i) (d := A 3 + s) hM (show t < 6 by omega) (by rw [setA_at]; exact hk1) (by rw [setA_at]; exact hk5) (by rw [setA_ne (by omega)]; exact b4) (by rw [setA_ne (by omega)]; exact b5) hi (by omega)
    rw [setA_at, setA_ne (by omega)] at q7
    show f_X7_who_98 F _ _ _ _ _ _ _ _ _ _ _ _ _ _ _ _ = _
    unfold f_X7_who_98 f_X7_who_151 f_X7_who_152
    rw [if_neg (show ¬ nI n ≤ nI s from by rw [nI_leI (by omega) (by omega)]; omega)]
    simp (disch := omega) only [show (3 : Int32) = nI 3 from rfl, gdI, nI_clamp, e3, nI_add, q7, Option.bind_some, if_pos, nI_s1]
    exact ih (s + 1) fu _ (by omega) (by omega) (dN_le hi)
theorem s_wh1 {F n t k r a : Nat} {A : Nat → Nat} {st by_ lis sizes items itemz : Nat → Int32} {status x6 x7 x8 : Int32} {k65 : Int32 → (Nat → Int32) → Int32 → Int32 → Int32 → Int32 → Int32 → Int32 → Int32 → Option (Int32 × Int32 × (Nat → Int32))} (hn12 : n ≤ 12) (hr : r < 8) (ha : a + n ≤ 40) (hit : ∀ i, i < a + n → items (40 * r + i) = itemz (40 * r + i)) (hT : OkT A) (ht : t < A 2) (hd : A 3 ≤ 999) (hb : by_ t = nI (A (17 + t))) (hk1 : 1 ≤ k) (hk5 : k ≤ 5) (hM : RpM (setA A (5 + t) k) st) : ∀ (kk s fu fu2 i : Nat), n = s + kk → kk < fu → kk < fu2 → i ≤ 99 → ∃ q : Int32, f_X2_isToldIfOf_14_r F items (nI (A 3)) by_ lis fu (nI k) (nI t) (nI r) (nI a) (nI n) (nI i) (nI s) = some q ∧ f_X7_who_98_r F sizes itemz k65 fu2 status st (nI t) (nI r) (nI a) (nI n) x6 x7 x8 (nI i) 1 (nI s) = k65 status st (nI t) (nI r) (nI a) (nI n) x6 (x7 ||| (if q = 0 then 0 else (1 : Int32) <<< (x8 &&& 31))) (x8 + 1) := by
  have hn := hT.1
  obtain ⟨b1, b2, b3, b4, b5, b6, b7, b8, b9⟩ := hT.2.2.2 t ht
  have e3 := hM 3 (by omega) (by omega)
  rw [setA_ne (by omega)] at e3
  intro kk
  induction kk with
  | zero =>
    intro s fu fu2 i h1 h2 h3 hi
    obtain ⟨fu, rfl⟩ : ∃ q, fu = q + 1 := ⟨fu - 1, by omega⟩
    obtain ⟨fu2, rfl⟩ : ∃ q, fu2 = q + 1 := ⟨fu2 - 1, by omega⟩
    refine ⟨1, ?_, ?_⟩
    · show f_X2_isToldIfOf_14 F _ _ _ _ _ _ _ _ _ _ _ _ = _
      unfold f_X2_isToldIfOf_14
      rw [if_pos (show nI n ≤ nI s from by rw [nI_leI (by omega) (by omega)]; omega)]
    · show f_X7_who_98 F _ _ _ _ _ _ _ _ _ _ _ _ _ _ _ _ = _
      unfold f_X7_who_98 f_X7_who_175
      rw [if_pos (show nI n ≤ nI s from by rw [nI_leI (by omega) (by omega)]; omega), if_neg one_ne, if_neg one_ne]
  | succ kk ih =>
    intro s fu fu2 i h1 h2 h3 hi
    obtain ⟨fu, rfl⟩ : ∃ q, fu = q + 1 := ⟨fu - 1, by omega⟩
    obtain ⟨fu2, rfl⟩ : ∃ q, fu2 = q + 1 := ⟨fu2 - 1, by omega⟩
    have q3 := s_dayOnAs (F := F) (k := k) (i := i) (d := A 3 + s) (show t < 6 by omega) hb hk1 hk5 b4 b5 hi (by omega)
    have q7 := s_changed (F := F) (i := i) (d := A 3 + s) hM (show t < 6 by omega) (by rw [setA_at]; exact hk1) (by rw [setA_at]; exact hk5) (by rw [setA_ne (by omega)]; exact b4) (by rw [setA_ne (by omega)]; exact b5) hi (by omega)
    rw [setA_at, setA_ne (by omega)] at q7
    have hv := dN_le (k := k) (b := A (17 + t)) (d := A 3 + s) hi
    generalize dN k (A (17 + t)) i (A 3 + s) = v at q3 q7 hv
    have hi2 := hit (a + s) (by omega)
    rw [show 40 * r + (a + s) = 40 * r + a + s from by omega] at hi2
    have hrd : f_X4_read F (nI r) (nI a + nI s) items = some (itemz (40 * r + a + s)) := by
      unfold f_X4_read
      simp (disch := omega) only [fl32, nI_add, pk_mul, pk_rem, nI_clamp, gdI, gdZ, gdB0, gdB1, nI_leI, nI_ltI, nI_eq, if_pos, if_neg, Option.bind_some, pk_us, pk_un, nn_eq, nn_le, nn_lt, nl_eq, if_true, if_false, eq_self, nl_le]
      rw [← hi2]
      congr 2
      omega
    have hcl : f_X2_isToldIfOf_14_r F items (nI (A 3)) by_ lis (fu + 1) (nI k) (nI t) (nI r) (nI a) (nI n) (nI i) (nI s) = (if nI v = itemz (40 * r + a + s) then f_X2_isToldIfOf_14_r F items (nI (A 3)) by_ lis fu (nI k) (nI t) (nI r) (nI a) (nI n) (nI v) (nI (s + 1)) else some 0) := by
      show f_X2_isToldIfOf_14 F _ _ _ _ _ _ _ _ _ _ _ _ = _
      unfold f_X2_isToldIfOf_14
      rw [if_neg (show ¬ nI n ≤ nI s from by rw [nI_leI (by omega) (by omega)]; omega), nI_add (A 3) s, q3]
      simp only [Option.bind_some, hrd, nI_s1]
    have hmo : f_X7_who_98_r F sizes itemz k65 (fu2 + 1) status st (nI t) (nI r) (nI a) (nI n) x6 x7 x8 (nI i) 1 (nI s) = (if itemz (40 * r + a + s) = nI v then f_X7_who_98_r F sizes itemz k65 fu2 status st (nI t) (nI r) (nI a) (nI n) x6 x7 x8 (nI v) 1 (nI (s + 1)) else f_X7_who_98_r F sizes itemz k65 fu2 status st (nI t) (nI r) (nI a) (nI n) x6 x7 x8 (nI v) 0 (nI (s + 1))) := by
      show f_X7_who_98 F _ _ _ _ _ _ _ _ _ _ _ _ _ _ _ _ = _
      unfold f_X7_who_98 f_X7_who_151 f_X7_who_152
      rw [if_neg (show ¬ nI n ≤ nI s from by rw [nI_leI (by omega) (by omega)]; omega)]
      simp (disch := omega) only [show (3 : Int32) = nI 3 from rfl, show (40 : Int32) = nI 40 from rfl, pk_mul, gdI, nI_clamp, e3, nI_add, q7, Option.bind_some, if_neg one_ne, nI_s1]
    by_cases c : nI v = itemz (40 * r + a + s)
    · obtain ⟨q, g1, g2⟩ := ih (s + 1) fu fu2 v (by omega) (by omega) (by omega) hv
      exact ⟨q, by rw [hcl, if_pos c]; exact g1, by rw [hmo, if_pos c.symm]; exact g2⟩
    · refine ⟨0, by rw [hcl, if_neg c], ?_⟩
      rw [hmo, if_neg (fun e => c (Eq.symm e)), if_pos rfl]
      exact s_wh0 hn12 hT ht hd hk1 hk5 hM kk (s + 1) fu2 v (by omega) (by omega) hv
theorem s_who {F n t r a : Nat} (hF : 100000 ≤ F) {A : Nat → Nat} {st0 by_ lis sizes items itemz : Nat → Int32} (hn12 : n ≤ 12) (hr : r < 8) (ha : a + n ≤ 40) (hit : ∀ i, i < a + n → items (40 * r + i) = itemz (40 * r + i)) (hT : OkT A) (ht : t < A 2) (hd : A 3 ≤ 999) (hb : by_ t = nI (A (17 + t))) (hl : lis t = nI (A (35 + t))) (hM0 : RpM A st0) : ∀ (kk k fu fu2 : Nat) (c : Int32) (status : Int32) (st : Nat → Int32), 6 = k + kk → 1 ≤ k → kk < fu → kk < fu2 → (∀ j, j ≠ 5 + t → st j = st0 j) →
    ∃ (q : Int32) (st' : Nat → Int32), f_X2_kindBits_6_r F items (nI (A 3)) by_ lis fu (nI t) (nI r) (nI a) (nI n) c (nI k) = some q ∧ f_X7_who_65_r F sizes itemz fu2 status st (nI t) (nI r) (nI a) (nI n) (st0 (5 + t)) c (nI k) = some (q, 0, st') ∧ ∀ j, j < 41 → st' j = st0 j := by
  have hn := hT.1
  have b9 := (hT.2.2.2 t ht).2.2.2.2.2.2.2.2
  intro kk
  induction kk with
  | zero =>
    intro k fu fu2 c status st h1 hk1 h2 h3 hst
    obtain ⟨fu, rfl⟩ : ∃ q, fu = q + 1 := ⟨fu - 1, by omega⟩
    obtain ⟨fu2, rfl⟩ : ∃ q, fu2 = q + 1 := ⟨fu2 - 1, by omega⟩
    refine ⟨c, upd st (5 + t) (st0 (5 + t)), ?_, ?_, fun j _ => ?_⟩
    · show f_X2_kindBits_6 F _ _ _ _ _ _ _ _ _ _ _ = _
      unfold f_X2_kindBits_6
      rw [if_pos (show (5 : Int32) < nI k from by rw [show k = 6 from by omega]; decide)]
    · show f_X7_who_65 F _ _ _ _ _ _ _ _ _ _ _ _ = _
      unfold f_X7_who_65 f_X7_well
      rw [if_pos (show (5 : Int32) < nI k from by rw [show k = 6 from by omega]; decide)]
      simp (disch := omega) only [show (5 : Int32) = nI 5 from rfl, nI_add, gdI, nI_clamp, Option.bind_some]
    · by_cases e : j = 5 + t
      · rw [e, pk_us]
      · rw [pk_un e]; exact hst j e
  | succ kk ih =>
    intro k fu fu2 c status st h1 hk1 h2 h3 hst
    obtain ⟨fu, rfl⟩ : ∃ q, fu = q + 1 := ⟨fu - 1, by omega⟩
    obtain ⟨fu2, rfl⟩ : ∃ q, fu2 = q + 1 := ⟨fu2 - 1, by omega⟩
    have hM : RpM (setA A (5 + t) k) (upd st (5 + t) (nI k)) := fun j hj h4 => by
      by_cases e : j = 5 + t
      · rw [e, pk_us, setA_at]
      · rw [pk_un e, setA_ne e, hst j e]; exact hM0 j hj h4
    have h35 : upd st (5 + t) (nI k) (35 + t) = nI (A (35 + t)) := by rw [pk_un (by omega), hst _ (by omega)]; exact hM0 (35 + t) (by omega) (by omega)
    obtain ⟨q, w1, w2⟩ := s_wh1 (F := F) (lis := lis) (sizes := sizes) (status := status) (x6 := st0 (5 + t)) (x7 := c) (x8 := nI k) (k65 := f_X7_who_65_r F sizes itemz fu2) hn12 hr ha hit hT ht hd hb hk1 (show k ≤ 5 by omega) hM n 0 F F (A (35 + t)) (by omega) (by omega) (by omega) b9
    have c5 : ¬ (5 : Int32) < nI k := fun hh => by rw [show (5 : Int32) = nI 5 from rfl, nI_ltI (by omega) (by omega)] at hh; omega
    obtain ⟨q', st', g1, g2, g3⟩ := ih (k + 1) fu fu2 (c ||| (if q = 0 then 0 else (1 : Int32) <<< (nI k &&& 31))) status (upd st (5 + t) (nI k)) (by omega) (by omega) (by omega) (by omega) (fun j hj => by rw [pk_un hj]; exact hst j hj)
    refine ⟨q', st', ?_, ?_, g3⟩
    · show f_X2_kindBits_6 F _ _ _ _ _ _ _ _ _ _ _ = _
      unfold f_X2_kindBits_6 f_X2_kindBits_38 f_X2_isToldIfOf
      rw [if_neg c5, gdI (by omega) (by omega), nI_clamp (by omega), hl]
      have w1' : f_X2_isToldIfOf_14_r F items (nI (A 3)) by_ lis F (nI k) (nI t) (nI r) (nI a) (nI n) (nI (A (35 + t))) 0 = some q := w1
      rw [w1', Option.bind_some, nI_s1]
      by_cases e : q = 0
      · rw [if_pos e] at g1 ⊢; exact g1
      · rw [if_neg e] at g1 ⊢; exact g1
    · show f_X7_who_65 F _ _ _ _ _ _ _ _ _ _ _ _ = _
      unfold f_X7_who_65
      rw [if_neg c5]
      have w2' : f_X7_who_98_r F sizes itemz (f_X7_who_65_r F sizes itemz fu2) F status (upd st (5 + t) (nI k)) (nI t) (nI r) (nI a) (nI n) (st0 (5 + t)) c (nI k) (nI (A (35 + t))) 1 0 = _ := w2
      rw [nI_s1] at w2'
      simp (disch := omega) only [show (5 : Int32) = nI 5 from rfl, show (35 : Int32) = nI 35 from rfl, nI_add, gdI, nI_clamp, h35]
      exact w2'.trans g2
theorem k_who (F : Nat) (hF : 100000 ≤ F) (x1 x2 x3 x4 : Int32) {A : Nat → Nat} {st kind was by_ price side is_ : Nat → Int32} {things may fee day : Int32} {lane size items lanes sizes itemz : Nat → Int32} {finding status : Int32} (hR : IRows lane size items finding lanes sizes itemz status) (hO : OkA A) (hC : RpC A things may fee day kind was by_ price side is_) (hM : RpM A st) :
    ∃ r f st', f_X6_who F x1 x2 x3 x4 size items things day by_ is_ finding = some (r, f) ∧ f_X7_who F x1 x2 x3 x4 sizes itemz status st = some (r, f, st') ∧ ∀ j, j < 41 → st' j = st j := by
  have hn := hO.1
  have hd := hO.2.2.2.1
  obtain ⟨hfs, hrow⟩ := hR
  subst hfs
  obtain ⟨rfl, rfl, rfl, rfl, hc⟩ := hC
  have e2 := hM 2 (by omega) (by omega)
  unfold f_X6_who f_X7_who f_X6_found f_X6_foundNothing
  rcases thc x1 (A 2) hO.1 with ⟨g1, g2⟩ | ⟨t, ht, rfl, g1, g2⟩
  · rw [g1, g2 F st e2]
    exact ⟨_, _, _, rfl, rfl, fun _ _ => rfl⟩
  rw [g1, g2 F st e2]
  rcases rowc x2 with ⟨e1, e2⟩ | ⟨r, hr, rfl, e1, e2⟩
  · rw [e1, e2]
    exact ⟨_, _, _, rfl, rfl, fun _ _ => rfl⟩
  rw [e1, e2]
  rcases win x4 1 12 1 12 1 12 rfl rfl rfl rfl (by decide) (by decide) with ⟨e3, e4⟩ | ⟨n, -, hn12, rfl, e3, e4⟩
  · rw [e3, e4]
    exact ⟨_, _, _, rfl, rfl, fun _ _ => rfl⟩
  rw [e3, e4]
  simp only [Option.bind_some, if_neg one_ne]
  have hsz : (size r = -1 ∧ sizes r = -1) ∨ ∃ z : Nat, z ≤ 40 ∧ size r = nI z ∧ sizes r = nI z := (hrow r hr).2.elim Or.inl (fun ⟨z, a, b, c, _⟩ => Or.inr ⟨z, a, b, c⟩)
  rcases lackc (F := F) r n hr hn12 x3 finding hsz with ⟨q, hq, l1, l2⟩ | ⟨a, z, haz, hz, rfl, hsr, l1, l2⟩
  · have hq0 : ¬ q = 0 := by rcases hq with rfl | rfl <;> decide
    have hqm : ¬ (0 : Int32) ≤ -1000010 - q := by rcases hq with rfl | rfl <;> decide
    obtain ⟨e, he⟩ : ∃ e, e = (-1000010 : Int32) - q := ⟨_, rfl⟩
    rw [← he] at l2 hqm
    refine ⟨e, q, st, ?_, ?_, fun _ _ => rfl⟩
    · rw [l1, he]
      show (if q = 0 then _ else _) = _
      rw [if_neg hq0]
    · rw [l2]
      show (if (0 : Int32) ≤ e then _ else _) = _
      rw [if_neg hqm]
  · have hit : ∀ i, i < a + n → items (40 * r + i) = itemz (40 * r + i) := by
      rcases (hrow r hr).2 with ⟨s1, s2⟩ | ⟨z', hz', s1, s2, s3⟩
      · rw [s1] at hsr
        exact absurd hsr.symm (nI_nm (k := 1) (by omega) (by omega) (by omega))
      · have : z' = z := (nI_eq (by omega) (by omega)).mp (s1.symm.trans hsr)
        exact fun i hi => s3 i (by omega)
    obtain ⟨q, st', q1, q2, q3⟩ := s_who (F := F) hF (sizes := sizes) hn12 hr (show a + n ≤ 40 by omega) hit hO.T ht hd (hc t ht).2.2.1 (hc t ht).2.2.2.2.2 hM 5 1 F F 0 finding st (by omega) (by omega) (by omega) (by omega) (fun _ _ => rfl)
    have q1' : f_X2_kindBits F (nI t) (nI r) (nI a) (nI n) items (nI (A 3)) by_ is_ = some q := q1
    have q2' : f_X7_who_65_r F sizes itemz F finding st (nI t) (nI r) (nI a) (nI n) (st (5 + t)) 0 1 = some (q, 0, st') := q2
    refine ⟨q, 0, st', ?_, ?_, q3⟩
    · rw [l1, Option.bind_some, if_pos rfl, q1']
      rfl
    · rw [l2, Option.bind_some, if_pos (show (0 : Int32) ≤ 0 from by decide), show (5 : Int32) + nI t = nI (5 + t) from nI_add 5 t, gdI (by omega) (by omega), nI_clamp (by omega)]
      exact q2'
