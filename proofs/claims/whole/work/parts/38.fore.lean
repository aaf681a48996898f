/-! who is lost first; how far off things get -/
theorem nI_s1 (n : Nat) : nI n + 1 = nI (n + 1) := nI_add n 1
def bad (A : Nat → Nat) (t : Nat) : Prop := 4 ≤ A (5 + t) ∧ A 0 < df (A (35 + t)) (A (11 + t))
theorem bad_dec (A : Nat → Nat) (t : Nat) : bad A t ∨ ¬ bad A t := by unfold bad; omega
noncomputable def lowB (A : Nat → Nat) : Nat → Int32 → Int32
  | 0, c => c
  | t + 1, c => lowB A t (@ite _ (bad A t) (Classical.propDecidable _) (nI t) c)
theorem lowB_none {A : Nat → Nat} : ∀ (t : Nat) (c : Int32), (∀ s, s < t → ¬ bad A s) → lowB A t c = c
  | 0, _, _ => rfl
  | t + 1, c, h => by
    show lowB A t (@ite _ (bad A t) (Classical.propDecidable _) (nI t) c) = c
    rw [if_neg (h t (by omega))]
    exact lowB_none t c (fun s hs => h s (by omega))
theorem lowB_at {A : Nat → Nat} {t : Nat} (hb : bad A t) (h : ∀ s, s < t → ¬ bad A s) : ∀ (k : Nat) (c : Int32), lowB A (t + 1 + k) c = nI t
  | 0, c => by
    show lowB A t (@ite _ (bad A t) (Classical.propDecidable _) (nI t) c) = nI t
    rw [if_pos hb]
    exact lowB_none t _ h
  | k + 1, c => lowB_at hb h k _
theorem lowB_or {A : Nat → Nat} : ∀ (t : Nat) (c : Int32), lowB A t c = c ∨ ∃ s, s < t ∧ lowB A t c = nI s
  | 0, _ => Or.inl rfl
  | t + 1, c => by
    show lowB A t (@ite _ (bad A t) (Classical.propDecidable _) (nI t) c) = c ∨ ∃ s, s < t + 1 ∧ lowB A t (@ite _ (bad A t) (Classical.propDecidable _) (nI t) c) = nI s
    rcases bad_dec A t with hb | hb
    · rw [if_pos hb]
      rcases lowB_or (A := A) t (nI t) with h | ⟨s, h1, h2⟩
      · exact Or.inr ⟨t, by omega, h⟩
      · exact Or.inr ⟨s, by omega, h2⟩
    · rw [if_neg hb]
      rcases lowB_or (A := A) t c with h | ⟨s, h1, h2⟩
      · exact Or.inl h
      · exact Or.inr ⟨s, by omega, h2⟩
theorem s_firstU {F : Nat} {A : Nat → Nat} {kind was is_ : Nat → Int32} (hT : OkT A) (hk : ∀ t, t < A 2 → kind t = nI (A (5 + t))) (hw : ∀ t, t < A 2 → was t = nI (A (11 + t))) (hi : ∀ t, t < A 2 → is_ t = nI (A (35 + t))) : ∀ (k t fu : Nat), A 2 = t + k → k < fu → (∀ s, s < t → ¬ bad A s) → f_X2_firstUnlikePerson_2_r F (nI (A 2)) (nI (A 0)) kind was is_ fu (nI t) = some (lowB A (A 2) (-1000000)) := by
  have hn := hT.1
  have hm := hT.2.1
  intro k
  induction k with
  | zero =>
    intro t fu h1 h2 hb
    obtain ⟨fu, rfl⟩ : ∃ q, fu = q + 1 := ⟨fu - 1, by omega⟩
    rw [lowB_none (A 2) _ (fun s hs => hb s (by omega))]
    show f_X2_firstUnlikePerson_2 F _ _ _ _ _ _ _ = _
    unfold f_X2_firstUnlikePerson_2
    simp (disch := omega) only [nI_leI, if_pos]
  | succ k ih =>
    intro t fu h1 h2 hb
    obtain ⟨fu, rfl⟩ : ∃ q, fu = q + 1 := ⟨fu - 1, by omega⟩
    obtain ⟨b1, b2, b3, b4, b5, b6, b7, b8, b9⟩ := hT.2.2.2 t (by omega)
    have hp := s_isPersonAt (F := F) (show t < 6 by omega) (hk t (by omega)) b2
    have ho := s_offIf (F := F) (a := A (35 + t)) (show t < 6 by omega) (hw t (by omega)) (by omega) (by omega)
    have hit := hi t (by omega)
    have hlt : df (A (35 + t)) (A (11 + t)) < 200000 := by unfold df; omega
    show f_X2_firstUnlikePerson_2 F _ _ _ _ _ _ _ = _
    unfold f_X2_firstUnlikePerson_2 f_X2_firstUnlikePerson_50
    by_cases c1 : 4 ≤ A (5 + t)
    · by_cases c2 : df (A (35 + t)) (A (11 + t)) ≤ A 0
      · have g := ih (t + 1) fu (by omega) (by omega) (fun s hs => by
          by_cases c : s = t
          · rw [c]; unfold bad; omega
          · exact hb s (by omega))
        rw [← g]
        simp (disch := omega) only [fl32, nI_add, pk_mul, pk_rem, nI_clamp, gdI, gdZ, gdB0, gdB1, nI_leI, nI_ltI, nI_eq, if_pos, if_neg, Option.bind_some, pk_us, pk_un, nn_eq, nn_le, nn_lt, nl_eq, if_true, if_false, eq_self, nl_le, hp, ho, hit]
      · have hbt : bad A t := ⟨c1, by omega⟩
        rw [show A 2 = t + 1 + k from by omega, lowB_at hbt hb k]
        simp (disch := omega) only [fl32, nI_add, pk_mul, pk_rem, nI_clamp, gdI, gdZ, gdB0, gdB1, nI_leI, nI_ltI, nI_eq, if_pos, if_neg, Option.bind_some, pk_us, pk_un, nn_eq, nn_le, nn_lt, nl_eq, if_true, if_false, eq_self, nl_le, hp, ho, hit]
    · have g := ih (t + 1) fu (by omega) (by omega) (fun s hs => by
        by_cases c : s = t
        · rw [c]; unfold bad; omega
        · exact hb s (by omega))
      rw [← g]
      simp (disch := omega) only [fl32, nI_add, pk_mul, pk_rem, nI_clamp, gdI, gdZ, gdB0, gdB1, nI_leI, nI_ltI, nI_eq, if_pos, if_neg, Option.bind_some, pk_us, pk_un, nn_eq, nn_le, nn_lt, nl_eq, if_true, if_false, eq_self, nl_le, hp]
theorem w_firstU {F : Nat} (hF : 100000 ≤ F) {A : Nat → Nat} {things may fee day : Int32} {kind was by_ price side is_ : Nat → Int32} (hT : OkT A) (hC : RpC A things may fee day kind was by_ price side is_) : f_X2_firstUnlikePerson F things may kind was is_ = some (lowB A (A 2) (-1000000)) := by
  have hn := hT.1
  rw [hC.1, hC.2.1]; exact s_firstU hT (fun t ht => (hC.2.2.2.2 t ht).1) (fun t ht => (hC.2.2.2.2 t ht).2.1) (fun t ht => (hC.2.2.2.2 t ht).2.2.2.2.2) (A 2) 0 F (by omega) (by omega) (fun s hs => by omega)
theorem s_low7 {F : Nat} {A : Nat → Nat} {st aside : Nat → Int32} {isThere x1 x3 : Int32} {k32 : (Nat → Int32) → (Nat → Int32) → Int32 → Int32 → Int32 → Option (Int32 × (Nat → Int32) × (Nat → Int32))} (hM : RpM A st) (hT : OkT A) : ∀ (t fu : Nat) (c : Int32), t ≤ A 2 → t < fu → f_X7_lost_59_r F isThere k32 fu st aside x1 c x3 (nI t - 1) = k32 st aside x1 (lowB A t c) x3 := by
  have hn := hT.1
  have hm := hT.2.1
  intro t
  induction t with
  | zero =>
    intro fu c h1 h2
    obtain ⟨fu, rfl⟩ : ∃ q, fu = q + 1 := ⟨fu - 1, by omega⟩
    show f_X7_lost_59 F _ _ _ _ _ _ _ _ _ = _
    unfold f_X7_lost_59
    rw [if_pos (show nI 0 - (1 : Int32) < 0 from by decide)]
    rfl
  | succ t ih =>
    intro fu c h1 h2
    obtain ⟨fu, rfl⟩ : ∃ q, fu = q + 1 := ⟨fu - 1, by omega⟩
    have e : nI (t + 1) - (1 : Int32) = nI t := nI_pred t
    rw [e]
    obtain ⟨b1, b2, b3, b4, b5, b6, b7, b8, b9⟩ := hT.2.2.2 t (by omega)
    have hp := s_isPeople (F := F) hM (show t < 6 by omega) b2
    have hal := s_isAlike (F := F) hM (show t < 6 by omega) (by omega) (by omega) hm
    have em : nI t + (-1 : Int32) = nI t - 1 := by rw [Int32.sub_eq_add_neg]
    have e0 : ¬ nI t < (0 : Int32) := fun hh => by rw [show (0 : Int32) = nI 0 from rfl, nI_ltI (by omega) (by omega)] at hh; omega
    show f_X7_lost_59 F _ _ _ _ _ _ _ _ _ = k32 st aside x1 (lowB A t (@ite _ (bad A t) (Classical.propDecidable _) (nI t) c)) x3
    unfold f_X7_lost_59 f_X7_lost_87 f_X7_lost_88
    rw [if_neg e0, hp]
    by_cases c1 : 4 ≤ A (5 + t)
    · by_cases c2 : df (A (35 + t)) (A (11 + t)) ≤ A 0
      · rw [if_neg (show ¬ bad A t by unfold bad; omega), if_pos c1, hal, if_pos c2]
        simp only [Option.bind_some, if_neg (show ¬ nI 1 = (0 : Int32) from by decide), em]
        exact ih fu c (by omega) (by omega)
      · rw [if_pos (show bad A t from ⟨c1, by omega⟩), if_pos c1, hal, if_neg c2]
        simp only [Option.bind_some, if_neg (show ¬ nI 1 = (0 : Int32) from by decide), if_pos (show nI 0 = (0 : Int32) from rfl), em]
        exact ih fu (nI t) (by omega) (by omega)
    · rw [if_neg (show ¬ bad A t by unfold bad; omega), if_neg c1]
      simp only [Option.bind_some, if_pos (show nI 0 = (0 : Int32) from rfl), em]
      exact ih fu c (by omega) (by omega)
theorem s_lost {F y : Nat} (hF : 100000 ≤ F) (hy : y ≤ 1) {things may fee ld isThere : Int32} {kind was by_ price side lis aside : Nat → Int32} : ∀ (k s fu fu2 : Nat) (A : Nat → Nat) (day : Int32) (is_ st : Nat → Int32), 60 = s + k → k < fu → k + 1 < fu2 → OkT A → A 3 + k < 900000 → RpC A things may fee day kind was by_ price side is_ → RpM A st →
    ∃ r d' i' st', f_X2_firstLost_6_r F things may ld kind was by_ lis fu day is_ (nI y) (nI (s + 1)) = some (r, d', i') ∧ f_X7_lost_32_r F isThere fu2 st aside (nI y) (-1000000) (nI s) = some (r, st', aside) ∧ ∀ j, j < 41 → st' j = aside j := by
  intro k
  induction k with
  | zero =>
    intro s fu fu2 A day is_ st h1 h2 h3 hT hd hC hM
    obtain ⟨fu, rfl⟩ : ∃ q, fu = q + 1 := ⟨fu - 1, by omega⟩
    obtain ⟨fu2, rfl⟩ : ∃ q, fu2 = q + 1 := ⟨fu2 - 1, by omega⟩
    obtain ⟨K, k1, k2⟩ := s_takeBk (F := F) hF aside st
    refine ⟨-1000000, day, is_, K, ?_, ?_, k2⟩
    · show f_X2_firstLost_6 F _ _ _ _ _ _ _ _ _ _ _ _ = _
      unfold f_X2_firstLost_6
      rw [if_pos (show (60 : Int32) < nI (s + 1) from by rw [show s = 60 from by omega]; decide)]
    · show f_X7_lost_32 F _ _ _ _ _ _ _ = _
      unfold f_X7_lost_32 f_X7_lost_98
      rw [if_pos (show (60 : Int32) ≤ nI s from by rw [show s = 60 from by omega]; decide), k1]
      simp only [Option.bind_some, if_neg (show ¬ (0 : Int32) ≤ -1000000 from by decide)]
  | succ k ih =>
    intro s fu fu2 A day is_ st h1 h2 h3 hT hd hC hM
    obtain ⟨fu, rfl⟩ : ∃ q, fu = q + 1 := ⟨fu - 1, by omega⟩
    obtain ⟨fu2, rfl⟩ : ∃ q, fu2 = q + 1 := ⟨fu2 - 1, by omega⟩
    have hn := hT.1
    obtain ⟨day', is', p1, p2⟩ := s_pass hF hT (by omega) hC
    obtain ⟨st', m1, m2, -⟩ := s_oneDay hF hT (by omega) hM
    have hT' := dayA_ok hT
    have hn' := hT'.1
    have w := w_firstU (F := F) hF hT' p2
    have e2 := m2 2 (by omega) (by omega)
    have l7 := s_low7 (F := F) (aside := aside) (isThere := isThere) (x1 := nI y) (x3 := nI s + 1) (k32 := f_X7_lost_32_r F isThere fu2) m2 hT' (dayA A 2) F (-1000000) (by omega) (by omega)
    have hc : ∀ R, f_X2_firstLost_6 F things may ld kind was by_ lis (f_X2_firstLost_6_r F things may ld kind was by_ lis fu) day is_ (nI y) (nI (s + 1)) = R ↔ (if lowB (dayA A) (dayA A 2) (-1000000) = (-1000000 : Int32) then f_X2_firstLost_6_r F things may ld kind was by_ lis fu day' is' (nI y) (nI (s + 1) + 1) else if nI y = (0 : Int32) then some (nI (s + 1), day', is') else some (lowB (dayA A) (dayA A 2) (-1000000), day', is')) = R := by
      intro R
      unfold f_X2_firstLost_6
      rw [if_neg (show ¬ (60 : Int32) < nI (s + 1) from fun hh => by rw [show (60 : Int32) = nI 60 from rfl, nI_ltI (by omega) (by omega)] at hh; omega), p1]
      simp only [Option.bind_some, w]
    have hm : ∀ R, f_X7_lost_32 F isThere (f_X7_lost_32_r F isThere fu2) st aside (nI y) (-1000000) (nI s) = R ↔ f_X7_lost_32_r F isThere fu2 st' aside (nI y) (lowB (dayA A) (dayA A 2) (-1000000)) (nI s + 1) = R := by
      intro R
      unfold f_X7_lost_32
      rw [if_neg (show ¬ (60 : Int32) ≤ nI s from fun hh => by rw [show (60 : Int32) = nI 60 from rfl, nI_leI (by omega) (by omega)] at hh; omega), if_neg (show ¬ (0 : Int32) ≤ -1000000 from by decide), m1]
      simp only [Option.bind_some]
      rw [show (2 : Int32).toNatClampNeg = 2 from rfl, e2, l7]
      rfl
    rcases lowB_or (A := dayA A) (dayA A 2) (-1000000) with hl | ⟨q, hq, hl⟩
    · obtain ⟨r, d', i', st2, g1, g2, g3⟩ := ih (s + 1) fu fu2 (dayA A) day' is' st' (by omega) (by omega) (by omega) hT' (by rw [dayA_3]; omega) p2 m2
      refine ⟨r, d', i', st2, (hc _).mpr ?_, (hm _).mpr ?_, g3⟩
      · rw [hl, if_pos rfl, nI_s1]; exact g1
      · rw [hl, nI_s1]; exact g2
    · obtain ⟨K, k1, k2⟩ := s_takeBk (F := F) hF aside st'
      have hq6 : q < 6 := by omega
      obtain ⟨fu2, rfl⟩ : ∃ q, fu2 = q + 1 := ⟨fu2 - 1, by omega⟩
      have hge : (0 : Int32) ≤ nI q := by rw [show (0 : Int32) = nI 0 from rfl, nI_leI (by omega) (by omega)]; omega
      have h98 : f_X7_lost_32 F isThere (f_X7_lost_32_r F isThere fu2) st' aside (nI y) (nI q) (nI s + 1) = f_X7_lost_98 F isThere st' aside (nI y) (nI q) (nI s + 1) := by
        unfold f_X7_lost_32
        by_cases c : (60 : Int32) ≤ nI s + 1
        · rw [if_pos c]
        · rw [if_neg c, if_pos hge]
      refine ⟨if nI y = (0 : Int32) then nI (s + 1) else nI q, day', is', K, (hc _).mpr ?_, (hm _).mpr ?_, k2⟩
      · rw [hl, if_neg (show ¬ nI q = (-1000000 : Int32) from nI_nm (k := 1000000) (by omega) (by omega) (by omega))]
        by_cases c : nI y = (0 : Int32)
        · rw [if_pos c, if_pos c]
        · rw [if_neg c, if_neg c]
      · rw [hl]
        show f_X7_lost_32 F isThere (f_X7_lost_32_r F isThere fu2) st' aside (nI y) (nI q) (nI s + 1) = _
        rw [h98]
        unfold f_X7_lost_98
        rw [k1]
        simp only [Option.bind_some, if_pos hge]
        by_cases c : nI y = (0 : Int32)
        · rw [if_pos c, if_pos c, nI_s1]
        · rw [if_neg c, if_neg c]
theorem k_lost (F : Nat) (hF : 100000 ≤ F) (x1 : Int32) {A : Nat → Nat} {st kind was by_ price side is_ : Nat → Int32} {things may fee day isThere : Int32} (hO : OkA A) (hC : RpC A things may fee day kind was by_ price side is_) (hM : RpM A st) (hth : isThere = (if A 2 = 0 then 0 else 1)) (fd : Int32) (fi aside : Nat → Int32) :
    ∃ r d' i' st' as', f_X6_lost F x1 things may day kind was by_ is_ fd fi = some (r, d', i') ∧ f_X7_lost F x1 isThere st aside = some (r, st', as') ∧ ∀ j, j < 41 → st' j = st j := by
  have hn := hO.1
  have hd := hO.2.2.2.1
  unfold f_X6_lost f_X7_lost f_X6_lost_36 f_X2_firstLost
  rcases thereC hO.1 hth with ⟨-, g1, g2⟩ | ⟨-, g1, g2⟩
  · rw [← hC.1] at g1
    rw [if_pos g1, if_pos g2]
    exact ⟨_, _, _, _, _, rfl, rfl, fun _ _ => rfl⟩
  rw [← hC.1] at g1
  rw [if_neg g1, if_neg g2]
  rcases win x1 0 1 0 1 0 1 rfl rfl rfl rfl (by decide) (by decide) with ⟨e1, e2⟩ | ⟨n, -, hn1, rfl, e1, e2⟩
  · rw [e1, e2]
    exact ⟨_, _, _, _, _, rfl, rfl, fun _ _ => rfl⟩
  rw [e1, e2]
  obtain ⟨K, k1, k2⟩ := s_putAside (F := F) hF st aside
  obtain ⟨is', b1, b2⟩ := s_begin (F := F) hF hn hC fd fi
  obtain ⟨r, d', i', st', h1, h2, h3⟩ := s_lost (F := F) (y := n) hF hn1 (ld := day) (lis := is_) (isThere := isThere) (aside := K) 60 0 F F A day is' st (by omega) (by omega) (by omega) hO.T (by omega) b2 hM
  simp only [Option.bind_some, if_neg one_ne, b1, k1]
  have h2' : f_X7_lost_32_r F isThere F st K (nI n) (-1000000) 0 = some (r, st', K) := h2
  rw [h2']
  rcases (show n = 0 ∨ n = 1 by omega) with rfl | rfl
  · rw [if_neg (show ¬ nI 0 = (1 : Int32) from by decide)]
    have h1' : f_X2_firstLost_6_r F things may day kind was by_ is_ F day is' 0 1 = some (r, d', i') := h1
    rw [h1']
    exact ⟨r, d', i', st', K, rfl, rfl, fun j hj => (h3 j hj).trans (k2 j hj)⟩
  · rw [if_pos (show nI 1 = (1 : Int32) from rfl)]
    have h1' : f_X2_firstLost_6_r F things may day kind was by_ is_ F day is' 1 1 = some (r, d', i') := h1
    rw [h1']
    exact ⟨r, d', i', st', K, rfl, rfl, fun j hj => (h3 j hj).trans (k2 j hj)⟩
/-! the most that is off -/
def mxN (A : Nat → Nat) : Nat → Nat → Nat
  | 0, c => c
  | t + 1, c => if mxN A t c < offN A t then offN A t else mxN A t c
theorem mxN_max {A : Nat → Nat} : ∀ (t c : Nat), mxN A t c = if c < mxN A t 0 then mxN A t 0 else c
  | 0, c => by show c = if c < 0 then 0 else c; rw [if_neg (by omega)]
  | t + 1, c => by
    show (if mxN A t c < offN A t then offN A t else mxN A t c) = if c < (if mxN A t 0 < offN A t then offN A t else mxN A t 0) then (if mxN A t 0 < offN A t then offN A t else mxN A t 0) else c
    rw [mxN_max t c]
    generalize mxN A t 0 = m
    generalize offN A t = o
    by_cases h1 : c < m
    · simp only [if_pos h1]
      by_cases h2 : m < o
      · simp only [if_pos h2]; rw [if_pos (by omega)]
      · simp only [if_neg h2]; rw [if_pos (by omega)]
    · simp only [if_neg h1]
      by_cases h2 : m < o
      · simp only [if_pos h2]
      · simp only [if_neg h2]; rw [if_neg (by omega), if_neg (by omega)]
theorem mxN_le {A : Nat → Nat} (hT : OkT A) : ∀ (t c : Nat), t ≤ A 2 → c ≤ 99 → mxN A t c ≤ 99
  | 0, c, _, h => h
  | t + 1, c, ht, h => by
    have h1 := mxN_le hT t c (by omega) h
    have h2 := offN_le hT (show t < A 2 by omega)
    show (if mxN A t c < offN A t then offN A t else mxN A t c) ≤ 99
    by_cases hh : mxN A t c < offN A t
    · rw [if_pos hh]; exact h2
    · rw [if_neg hh]; exact h1
theorem s_mx2 {F : Nat} {A : Nat → Nat} {was is_ : Nat → Int32} (hT : OkT A) (hw : ∀ t, t < A 2 → was t = nI (A (11 + t))) (hi : ∀ t, t < A 2 → is_ t = nI (A (35 + t))) : ∀ (k t fu : Nat), A 2 = t + k → k < fu → f_X2_mostOffThen_4_r F (nI (A 2)) was is_ fu (nI (mxN A t 0)) (nI t) = some (nI (mxN A (A 2) 0)) := by
  have hn := hT.1
  intro k
  induction k with
  | zero =>
    intro t fu h1 h2
    obtain ⟨fu, rfl⟩ : ∃ q, fu = q + 1 := ⟨fu - 1, by omega⟩
    show f_X2_mostOffThen_4 F _ _ _ _ _ _ = _
    unfold f_X2_mostOffThen_4
    simp (disch := omega) only [fl32, nI_add, pk_mul, pk_rem, nI_clamp, gdI, gdZ, gdB0, gdB1, nI_leI, nI_ltI, nI_eq, if_pos, if_neg, Option.bind_some, pk_us, pk_un, nn_eq, nn_le, nn_lt, nl_eq, if_true, if_false, eq_self, nl_le]
    rw [show t = A 2 from by omega]
  | succ k ih =>
    intro t fu h1 h2
    obtain ⟨fu, rfl⟩ : ∃ q, fu = q + 1 := ⟨fu - 1, by omega⟩
    have hb := hT.2.2.2 t (by omega)
    have hit := hi t (by omega)
    have ho := s_offIf (F := F) (a := A (35 + t)) (show t < 6 by omega) (hw t (by omega)) (by omega) (by omega)
    have hmx := mxN_le hT t 0 (by omega) (by omega)
    have g := ih (t + 1) fu (by omega) (by omega)
    have hol := offN_le hT (show t < A 2 by omega)
    rw [← g]
    show f_X2_mostOffThen_4 F _ _ _ _ _ _ = f_X2_mostOffThen_4_r F (nI (A 2)) was is_ fu (nI (if mxN A t 0 < offN A t then offN A t else mxN A t 0)) (nI (t + 1))
    rw [show df (A (35 + t)) (A (11 + t)) = offN A t from rfl] at ho
    unfold f_X2_mostOffThen_4
    by_cases c : mxN A t 0 < offN A t
    · simp (disch := omega) only [fl32, nI_add, pk_mul, pk_rem, nI_clamp, gdI, gdZ, gdB0, gdB1, nI_leI, nI_ltI, nI_eq, if_pos, if_neg, Option.bind_some, pk_us, pk_un, nn_eq, nn_le, nn_lt, nl_eq, if_true, if_false, eq_self, nl_le, hit, ho]
    · simp (disch := omega) only [fl32, nI_add, pk_mul, pk_rem, nI_clamp, gdI, gdZ, gdB0, gdB1, nI_leI, nI_ltI, nI_eq, if_pos, if_neg, Option.bind_some, pk_us, pk_un, nn_eq, nn_le, nn_lt, nl_eq, if_true, if_false, eq_self, nl_le, hit, ho]
theorem w_mx2 {F : Nat} (hF : 100000 ≤ F) {A : Nat → Nat} {things may fee day : Int32} {kind was by_ price side is_ : Nat → Int32} (hT : OkT A) (hC : RpC A things may fee day kind was by_ price side is_) : f_X2_mostOffThen F things was is_ = some (nI (mxN A (A 2) 0)) := by
  have hn := hT.1
  rw [hC.1]; exact s_mx2 hT (fun t ht => (hC.2.2.2.2 t ht).2.1) (fun t ht => (hC.2.2.2.2 t ht).2.2.2.2.2) (A 2) 0 F (by omega) (by omega)
theorem s_mx7 {F : Nat} {A : Nat → Nat} {st aside : Nat → Int32} {isThere x1 x3 : Int32} {k33 : (Nat → Int32) → (Nat → Int32) → Int32 → Int32 → Int32 → Option (Int32 × (Nat → Int32) × (Nat → Int32))} (hM : RpM A st) (hT : OkT A) {st' : Nat → Int32} (hday : f_X7_oneDay F st = some st') {c : Nat} (hc : c ≤ 99) : ∀ (k t fu : Nat), A 2 = t + k → k < fu → f_X7_leastMay_41_r F isThere k33 fu st aside x1 (nI (mxN A t c)) x3 (nI t) = k33 st' aside x1 (nI (mxN A (A 2) c)) (x3 + 1) := by
  have hn := hT.1
  have e2 := hM 2 (by omega) (by omega)
  intro k
  induction k with
  | zero =>
    intro t fu h1 h2
    obtain ⟨fu, rfl⟩ : ∃ q, fu = q + 1 := ⟨fu - 1, by omega⟩
    show f_X7_leastMay_41 F _ _ _ _ _ _ _ _ _ = _
    unfold f_X7_leastMay_41
    simp (disch := omega) only [gdI, nI_leI, if_pos, hday, Option.bind_some, e2, show (2 : Int32) = nI 2 from rfl, nI_clamp]
    rw [show t = A 2 from by omega]
  | succ k ih =>
    intro t fu h1 h2
    obtain ⟨fu, rfl⟩ : ∃ q, fu = q + 1 := ⟨fu - 1, by omega⟩
    have hb := hT.2.2.2 t (by omega)
    have ho := s_off (F := F) hM (show t < 6 by omega) (by omega) (by omega)
    have hmx := mxN_le hT t c (by omega) hc
    have hol := offN_le hT (show t < A 2 by omega)
    rw [show df (A (35 + t)) (A (11 + t)) = offN A t from rfl] at ho
    rw [← ih (t + 1) fu (by omega) (by omega)]
    show f_X7_leastMay_41 F _ _ _ _ _ _ _ _ _ = f_X7_leastMay_41_r F isThere k33 fu st aside x1 (nI (if mxN A t c < offN A t then offN A t else mxN A t c)) x3 (nI (t + 1))
    unfold f_X7_leastMay_41 f_X7_leastMay_72
    by_cases c : mxN A t c < offN A t
    · simp (disch := omega) only [fl32, nI_add, pk_mul, pk_rem, nI_clamp, gdI, gdZ, gdB0, gdB1, nI_leI, nI_ltI, nI_eq, if_pos, if_neg, Option.bind_some, pk_us, pk_un, nn_eq, nn_le, nn_lt, nl_eq, if_true, if_false, eq_self, nl_le, e2, ho]
    · simp (disch := omega) only [fl32, nI_add, pk_mul, pk_rem, nI_clamp, gdI, gdZ, gdB0, gdB1, nI_leI, nI_ltI, nI_eq, if_pos, if_neg, Option.bind_some, pk_us, pk_un, nn_eq, nn_le, nn_lt, nl_eq, if_true, if_false, eq_self, nl_le, e2, ho]
theorem s_least {F n : Nat} (hF : 100000 ≤ F) {things may fee ld isThere : Int32} {kind was by_ price side lis aside : Nat → Int32} (hn60 : n ≤ 60) : ∀ (k s fu fu2 c : Nat) (A : Nat → Nat) (day : Int32) (is_ st : Nat → Int32), n = s + k → k < fu → k + 1 < fu2 → c ≤ 99 → OkT A → A 3 + k + 1 < 900000 → RpC A things may fee day kind was by_ price side is_ → RpM A st →
    ∃ r d' i' st', f_X2_mostOff_11_r F things ld kind was by_ lis fu day is_ (nI n) (nI (mxN A (A 2) c)) (nI s) = some (r, d', i') ∧ f_X7_leastMay_33_r F isThere fu2 st aside (nI n) (nI c) (nI s) = some (r, st', aside) ∧ ∀ j, j < 41 → st' j = aside j := by
  intro k
  induction k with
  | zero =>
    intro s fu fu2 c A day is_ st h1 h2 h3 hc99 hT hd hC hM
    obtain ⟨fu, rfl⟩ : ∃ q, fu = q + 1 := ⟨fu - 1, by omega⟩
    obtain ⟨fu2, rfl⟩ : ∃ q, fu2 = q + 1 := ⟨fu2 - 1, by omega⟩
    obtain ⟨fu2, rfl⟩ : ∃ q, fu2 = q + 1 := ⟨fu2 - 1, by omega⟩
    have hn := hT.1
    obtain ⟨st', m1, m2, -⟩ := s_oneDay hF hT (by omega) hM
    obtain ⟨K, k1, k2⟩ := s_takeBk (F := F) hF aside st'
    have g := s_mx7 (F := F) (aside := aside) (isThere := isThere) (x1 := nI n) (x3 := nI s) (k33 := f_X7_leastMay_33_r F isThere (fu2 + 1)) hM hT m1 hc99 (A 2) 0 F (by omega) (by omega)
    refine ⟨nI (mxN A (A 2) c), day, is_, K, ?_, ?_, k2⟩
    · show f_X2_mostOff_11 F _ _ _ _ _ _ _ _ _ _ _ _ = _
      unfold f_X2_mostOff_11
      simp (disch := omega) only [fl32, nI_add, pk_mul, pk_rem, nI_clamp, gdI, gdZ, gdB0, gdB1, nI_leI, nI_ltI, nI_eq, if_pos, if_neg, Option.bind_some, pk_us, pk_un, nn_eq, nn_le, nn_lt, nl_eq, if_true, if_false, eq_self, nl_le]
    · show f_X7_leastMay_33 F _ _ _ _ _ _ _ = _
      unfold f_X7_leastMay_33
      rw [if_neg (show ¬ nI n < nI s from by rw [nI_ltI (by omega) (by omega)]; omega)]
      rw [show (0 : Int32) = nI 0 from rfl, show nI c = nI (mxN A 0 c) from rfl, g]
      show f_X7_leastMay_33 F _ _ _ _ _ _ _ = _
      unfold f_X7_leastMay_33
      simp (disch := omega) only [fl32, nI_add, pk_mul, pk_rem, nI_clamp, gdI, gdZ, gdB0, gdB1, nI_leI, nI_ltI, nI_eq, if_pos, if_neg, Option.bind_some, pk_us, pk_un, nn_eq, nn_le, nn_lt, nl_eq, if_true, if_false, eq_self, nl_le, k1]
  | succ k ih =>
    intro s fu fu2 c A day is_ st h1 h2 h3 hc99 hT hd hC hM
    obtain ⟨fu, rfl⟩ : ∃ q, fu = q + 1 := ⟨fu - 1, by omega⟩
    obtain ⟨fu2, rfl⟩ : ∃ q, fu2 = q + 1 := ⟨fu2 - 1, by omega⟩
    have hn := hT.1
    obtain ⟨day', is', p1, p2⟩ := s_pass hF hT (by omega) hC
    obtain ⟨st', m1, m2, -⟩ := s_oneDay hF hT (by omega) hM
    have w := w_mx2 (F := F) hF (dayA_ok hT) p2
    have hmx := mxN_le hT (A 2) c (by omega) hc99
    have hmx0 := mxN_le (dayA_ok hT) (dayA A 2) 0 (by omega) (by omega)
    have g := s_mx7 (F := F) (aside := aside) (isThere := isThere) (x1 := nI n) (x3 := nI s) (k33 := f_X7_leastMay_33_r F isThere fu2) hM hT m1 hc99 (A 2) 0 F (by omega) (by omega)
    obtain ⟨r, d', i', st2, g1, g2, g3⟩ := ih (s + 1) fu fu2 (mxN A (A 2) c) (dayA A) day' is' st' (by omega) (by omega) (by omega) hmx (dayA_ok hT) (by rw [dayA_3]; omega) p2 m2
    refine ⟨r, d', i', st2, ?_, ?_, g3⟩
    · rw [mxN_max (A := dayA A)] at g1
      show f_X2_mostOff_11 F _ _ _ _ _ _ _ _ _ _ _ _ = _
      unfold f_X2_mostOff_11
      by_cases cc : mxN A (A 2) c < mxN (dayA A) (dayA A 2) 0
      · rw [if_pos cc] at g1
        simp (disch := omega) only [nI_leI, if_neg, if_pos, p1, Option.bind_some, w, nI_ltI, nI_s1]
        exact g1
      · rw [if_neg cc] at g1
        simp (disch := omega) only [nI_leI, if_neg, if_pos, p1, Option.bind_some, w, nI_ltI, nI_s1]
        exact g1
    · show f_X7_leastMay_33 F _ _ _ _ _ _ _ = _
      unfold f_X7_leastMay_33
      rw [if_neg (show ¬ nI n < nI s from by rw [nI_ltI (by omega) (by omega)]; omega)]
      rw [show (0 : Int32) = nI 0 from rfl, show nI c = nI (mxN A 0 c) from rfl, g, nI_s1]
      exact g2
theorem k_leastMay (F : Nat) (hF : 100000 ≤ F) (x1 : Int32) {A : Nat → Nat} {st kind was by_ price side is_ : Nat → Int32} {things may fee day isThere : Int32} (hO : OkA A) (hC : RpC A things may fee day kind was by_ price side is_) (hM : RpM A st) (hth : isThere = (if A 2 = 0 then 0 else 1)) (fd : Int32) (fi aside : Nat → Int32) :
    ∃ r d' i' st' as', f_X6_leastMay F x1 things day kind was by_ is_ fd fi = some (r, d', i') ∧ f_X7_leastMay F x1 isThere st aside = some (r, st', as') ∧ ∀ j, j < 41 → st' j = st j := by
  have hn := hO.1
  have hd := hO.2.2.2.1
  unfold f_X6_leastMay f_X7_leastMay f_X2_mostOff
  rcases thereC hO.1 hth with ⟨-, g1, g2⟩ | ⟨-, g1, g2⟩
  · rw [← hC.1] at g1
    rw [if_pos g1, if_pos g2]
    exact ⟨_, _, _, _, _, rfl, rfl, fun _ _ => rfl⟩
  rw [← hC.1] at g1
  rw [if_neg g1, if_neg g2]
  rcases win x1 0 60 0 60 0 60 rfl rfl rfl rfl (by decide) (by decide) with ⟨e1, e2⟩ | ⟨n, -, hn1, rfl, e1, e2⟩
  · rw [e1, e2]
    exact ⟨_, _, _, _, _, rfl, rfl, fun _ _ => rfl⟩
  rw [e1, e2]
  obtain ⟨K, k1, k2⟩ := s_putAside (F := F) hF st aside
  obtain ⟨is', b1, b2⟩ := s_begin (F := F) hF hn hC fd fi
  have w := w_mx2 (F := F) hF hO.T b2
  obtain ⟨r, d', i', st', h1, h2, h3⟩ := s_least (F := F) (n := n) hF (ld := day) (lis := is_) (isThere := isThere) (aside := K) hn1 n 0 F F 0 A day is' st (by omega) (by omega) (by omega) (by omega) hO.T (by omega) b2 hM
  simp only [Option.bind_some, if_neg one_ne, b1, k1, w]
  have h2' : f_X7_leastMay_33_r F isThere F st K (nI n) 0 0 = some (r, st', K) := h2
  have h1' : f_X2_mostOff_11_r F things day kind was by_ is_ F day is' (nI n) (nI (mxN A (A 2) 0)) 0 = some (r, d', i') := h1
  rw [h2', h1']
  exact ⟨r, d', i', st', K, rfl, rfl, fun j hj => (h3 j hj).trans (k2 j hj)⟩
