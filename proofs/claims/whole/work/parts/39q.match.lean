/-! match: both together -/
theorem w_offBy {F n x : Nat} (hF : 100000 ≤ F) {A : Nat → Nat} {st : Nat → Int32} (hT : OkT A) (h2 : A 2 = n) (hn : 0 < n) (hx : x < 1000000) (hM : RpM A st) (places : Nat → Int32) : ∃ places', f_X7_offBy F (nI x) st places = some (@ite _ (PV A n (D n x)) (Classical.propDecidable _) (nI (sumN (wS A (D n x)) n)) (-1000000), places') ∧ ∀ s, s < n → places' s = nI (D n x s) := by
  have hn6 : n ≤ 6 := by have := hT.1; omega
  have e2 := hM 2 (by omega) (by omega)
  rw [h2] at e2
  obtain ⟨pl, g1, g2⟩ := s_offBy (F := F) (x := x) hT h2 hn hx hM n 0 F places 1 (by omega) (by omega) (Or.inl ⟨rfl, trivial⟩) (fun s h1 h2 => by omega)
  refine ⟨pl, ?_, g2⟩
  unfold f_X7_offBy
  rw [show gd (inb (2 : Int32) 41) = fun (y : Option (Int32 × (Nat → Int32))) => y from funext (fun y => gdI (k := 2) (by omega) (by omega))]
  show f_X7_offBy_20_r F st F places (nI x) 0 0 1 (st 2 - 1) = _
  rw [e2]
  rw [Nat.pow_zero, Nat.div_one, Nat.sub_zero] at g1
  have g1' : f_X7_offBy_20_r F st F places (nI x) 0 0 1 (nI n - 1) = _ := g1
  rw [g1', SM_all]
  by_cases c : PV A n (D n x)
  · rw [if_pos c, if_pos ((FL_PV hn hn6).mpr c)]
  · rw [if_neg c, if_neg (fun h => c ((FL_PV hn hn6).mp h))]
theorem sS_lt {A : Nat → Nat} {n x : Nat} (hT : OkT A) (h2 : A 2 = n) (hn : 0 < n) : sumN (wS A (D n x)) n < 1000 := by
  have hn6 : n ≤ 6 := by have := hT.1; omega
  have := sumN_le (f := wS A (D n x)) (m := 99) n (fun s hs => wS_le hT h2 hs (dg_lt hn _ _))
  have h6 : n * 99 ≤ 6 * 99 := Nat.mul_le_mul_right _ hn6
  omega
theorem sc70 {F n y0 o0 : Nat} (hF : 100000 ≤ F) {A : Nat → Nat} {st : Nat → Int32} {isThere x1 : Int32} (hT : OkT A) (h2 : A 2 = n) (hn : 0 < n) (hM : RpM A st) (hnn : n ^ n < 60000) (hfin : BB A n (n ^ n) = some (y0, o0)) : ∀ (k x fu : Nat) (places : Nat → Int32) (x3 x4 : Int32), n ^ n = x + k → k < fu → ((BB A n x = none ∧ x3 = -1 ∧ x4 = 0) ∨ ∃ y o, BB A n x = some (y, o) ∧ x3 = nI y ∧ x4 = nI o) →
    ∃ pl, (∀ s, s < n → pl s = nI (D n y0 s)) ∧ f_X7_match_70_r F isThere st fu places x1 (nI (n ^ n)) x3 x4 (nI x) = (if 0 ≤ x1 then gd (inb x1 6) (some (pl x1.toNatClampNeg, pl)) else some (nI o0, pl)) := by
  intro k
  induction k with
  | zero =>
    intro x fu places x3 x4 h1 hf hr
    obtain ⟨fu, rfl⟩ : ∃ q, fu = q + 1 := ⟨fu - 1, by omega⟩
    have ex : x = n ^ n := by omega
    rw [ex] at hr
    rcases hr with ⟨a, -⟩ | ⟨y, o, a, rfl, rfl⟩
    · rw [hfin] at a; cases a
    · rw [hfin] at a
      cases a
      have hy := (BB_in _ _ _ hfin).1
      obtain ⟨pl, g1, g2⟩ := w_offBy (F := F) hF hT h2 hn (show y0 < 1000000 by omega) hM places
      refine ⟨pl, g2, ?_⟩
      show f_X7_match_70 F _ _ _ _ _ _ _ _ _ = _
      unfold f_X7_match_70
      rw [if_pos (show nI (n ^ n) ≤ nI x from by rw [nI_leI (by omega) (by omega)]; omega), g1]
      rfl
  | succ k ih =>
    intro x fu places x3 x4 h1 hf hr
    obtain ⟨fu, rfl⟩ : ∃ q, fu = q + 1 := ⟨fu - 1, by omega⟩
    obtain ⟨pl, g1, g2⟩ := w_offBy (F := F) hF hT h2 hn (show x < 1000000 by omega) hM places
    have hS := sS_lt (x := x) hT h2 hn
    have eB : BB A n (x + 1) = @ite _ (PV A n (D n x)) (Classical.propDecidable _) (match BB A n x with | none => some (x, sumN (wS A (D n x)) n) | some (y, o) => if sumN (wS A (D n x)) n < o then some (x, sumN (wS A (D n x)) n) else some (y, o)) (BB A n x) := rfl
    show ∃ pl, _ ∧ f_X7_match_70 F _ _ _ _ _ _ _ _ _ = _
    unfold f_X7_match_70 f_X7_match_100 f_X7_match_107
    rw [if_neg (show ¬ nI (n ^ n) ≤ nI x from fun hh => by rw [nI_leI (by omega) (by omega)] at hh; omega), g1, Option.bind_some]
    simp only [nI_s1]
    by_cases c : PV A n (D n x)
    · rw [if_pos c] at eB
      rw [if_pos c]
      generalize sumN (wS A (D n x)) n = o1 at hS eB
      rw [if_neg (show ¬ nI o1 < (0 : Int32) from fun hh => by rw [show (0 : Int32) = nI 0 from rfl, nI_ltI (by omega) (by omega)] at hh; omega)]
      rcases hr with ⟨a, rfl, rfl⟩ | ⟨y, o, a, rfl, rfl⟩
      · rw [a] at eB
        rw [if_pos (show (-1 : Int32) < 0 from by decide)]
        exact ih (x + 1) fu pl (nI x) (nI o1) (by omega) (by omega) (Or.inr ⟨x, o1, eB, rfl, rfl⟩)
      · rw [a] at eB
        simp only at eB
        have hb := BB_in _ _ _ a
        have hyx := hb.1
        have hol : o < 1000 := by rw [hb.2.2]; exact sS_lt hT h2 hn
        rw [if_neg (show ¬ nI y < (0 : Int32) from fun hh => by rw [show (0 : Int32) = nI 0 from rfl, nI_ltI (by omega) (by omega)] at hh; omega)]
        by_cases c1 : o1 < o
        · rw [if_pos c1] at eB
          rw [if_neg (show ¬ nI o ≤ nI o1 from fun hh => by rw [nI_leI (by omega) (by omega)] at hh; omega)]
          exact ih (x + 1) fu pl (nI x) (nI o1) (by omega) (by omega) (Or.inr ⟨x, o1, eB, rfl, rfl⟩)
        · rw [if_neg c1] at eB
          rw [if_pos (show nI o ≤ nI o1 from by rw [nI_leI (by omega) (by omega)]; omega)]
          exact ih (x + 1) fu pl (nI y) (nI o) (by omega) (by omega) (Or.inr ⟨y, o, eB, rfl, rfl⟩)
    · rw [if_neg c] at eB
      rw [if_neg c, if_pos (show (-1000000 : Int32) < 0 from by decide)]
      exact ih (x + 1) fu pl x3 x4 (by omega) (by omega) (by rw [eB]; exact hr)
theorem sc37 {F n : Nat} (hF : 100000 ≤ F) {A : Nat → Nat} {st : Nat → Int32} {isThere x1 : Int32} (h2 : A 2 = n) (hn6 : n ≤ 6) (hM : RpM A st) : ∀ (k t fu : Nat) (places : Nat → Int32), n = t + k → k < fu → f_X7_match_37_r F isThere st fu places x1 (nI (n ^ t)) (nI t) = f_X7_match_70_r F isThere st F places x1 (nI (n ^ n)) (-1) 0 0 := by
  have e2 := hM 2 (by omega) (by omega)
  rw [h2] at e2
  intro k
  induction k with
  | zero =>
    intro t fu places h1 hf
    obtain ⟨fu, rfl⟩ : ∃ q, fu = q + 1 := ⟨fu - 1, by omega⟩
    show f_X7_match_37 F _ _ _ _ _ _ _ = _
    unfold f_X7_match_37
    rw [show gd (inb (2 : Int32) 41) = fun (y : Option (Int32 × (Nat → Int32))) => y from funext (fun y => gdI (k := 2) (by omega) (by omega))]
    show (if st 2 ≤ nI t then _ else _) = _
    rw [e2, if_pos (show nI n ≤ nI t from by rw [nI_leI (by omega) (by omega)]; omega), show t = n from by omega]
  | succ k ih =>
    intro t fu places h1 hf
    obtain ⟨fu, rfl⟩ : ∃ q, fu = q + 1 := ⟨fu - 1, by omega⟩
    rw [← ih (t + 1) fu places (by omega) (by omega)]
    show f_X7_match_37 F _ _ _ _ _ _ _ = _
    unfold f_X7_match_37
    rw [show gd (inb (2 : Int32) 41) = fun (y : Option (Int32 × (Nat → Int32))) => y from funext (fun y => gdI (k := 2) (by omega) (by omega))]
    show (if st 2 ≤ nI t then _ else f_X7_match_37_r F isThere st fu places x1 (nI (n ^ t) * st 2) (nI t + 1)) = _
    rw [e2, if_neg (show ¬ nI n ≤ nI t from by rw [nI_leI (by omega) (by omega)]; omega), pk_mul, nI_s1, Nat.pow_succ]
/-- each where it is: a case that stands -/
def idc (n : Nat) : Nat → Nat
  | 0 => 0
  | t + 1 => idc n t * n + t
theorem idc_E {n : Nat} (hn : 0 < n) : ∀ t, t ≤ n → ∀ s, s < t → Ex n t (idc n t) s = s
  | 0, _, s, hs => by omega
  | t + 1, ht, s, hs => by
    show Ex n (t + 1) (idc n t * n + t) s = s
    by_cases c : s = t
    · rw [c, Ex_at (by omega)]
    · rw [Ex_lo hn (by omega) (by omega)]
      exact idc_E hn t (by omega) s (by omega)
theorem idc_lt {n : Nat} : ∀ t, t ≤ n → idc n t < n ^ t
  | 0, _ => by show 0 < n ^ 0; rw [Nat.pow_zero]; omega
  | t + 1, ht => by
    have h1 := idc_lt (n := n) t (by omega)
    show idc n t * n + t < n ^ (t + 1)
    rw [Nat.pow_succ]
    have h2 : (idc n t + 1) * n ≤ n ^ t * n := Nat.mul_le_mul_right n h1
    rw [Nat.add_mul, Nat.one_mul] at h2
    omega
theorem k_match (F : Nat) (hF : 100000 ≤ F) (x1 : Int32) {A : Nat → Nat} {st kind was by_ price side is_ : Nat → Int32} {things may fee day isThere : Int32} (hO : OkA A) (hC : RpC A things may fee day kind was by_ price side is_) (hM : RpM A st) (hth : isThere = (if A 2 = 0 then 0 else 1)) (lo : Int32) (pl bp places : Nat → Int32) :
    ∃ r a b c pl', f_X6_match F x1 things kind was is_ lo pl bp = some (r, a, b, c) ∧ f_X7_match F x1 isThere st places = some (r, pl') := by
  obtain ⟨rfl, rfl, rfl, rfl, hc⟩ := hC
  have hn6 := hO.1
  have e2 := hM 2 (by omega) (by omega)
  unfold f_X6_match f_X7_match f_X6_match_32 f_X2_planPlaces
  rcases thereC hO.1 hth with ⟨-, g1, g2⟩ | ⟨gn, g1, g2⟩
  · rw [if_pos g1, if_pos g2]
    exact ⟨_, _, _, _, _, rfl, rfl⟩
  rw [if_neg g1, if_neg g2]
  generalize hnn : A 2 = n at *
  have hn : 0 < n := by omega
  have hpow : n ^ n < 60000 := by
    rcases (show n = 1 ∨ n = 2 ∨ n = 3 ∨ n = 4 ∨ n = 5 ∨ n = 6 by omega) with rfl | rfl | rfl | rfl | rfl | rfl <;> decide
  rw [show gd (inb (2 : Int32) 41) = fun (y : Option (Int32 × (Nat → Int32))) => y from funext (fun y => gdI (k := 2) (by omega) (by omega))]
  -- both find the same best case
  have hid : PV A n (D n (idc n n)) := by
    have hE := idc_E hn n (Nat.le_refl n)
    have hD : ∀ s, s < n → D n (idc n n) s = s := fun s hs => hE s hs
    refine ⟨fun s hs => ?_, fun s s' h1 h2 => by rw [hD s (by omega), hD s' h2]; omega⟩
    rw [hD s hs]
    by_cases c4 : 4 ≤ A (5 + s)
    · exact Or.inl ⟨c4, c4⟩
    · exact Or.inr ⟨c4, rfl⟩
  have hidl := idc_lt (n := n) n (Nat.le_refl n)
  have hsome : BB A n (n ^ n) ≠ none := by
    have := BB_some hid (n ^ n - (idc n n + 1))
    rw [show idc n n + 1 + (n ^ n - (idc n n + 1)) = n ^ n from by omega] at this
    exact this
  obtain ⟨⟨y0, o0⟩, hfin⟩ : ∃ v, BB A n (n ^ n) = some v := by
    cases h : BB A n (n ^ n) with
    | none => exact absurd h hsome
    | some v => exact ⟨v, rfl⟩
  have hdfs := dfs (F := F) hF hO.T hnn hn (fun t ht => (hc t ht).1) (fun t ht => (hc t ht).2.1) (fun t ht => (hc t ht).2.2.2.2.2) n 0 8 0 0 1000000000 pl bp (by omega) (by omega) ⟨fun s hs => by omega, fun s s' h1 h2 => by omega⟩ (by omega) (fun u hu => ⟨fun h => by
    have : bt u 0 = 0 := by unfold bt; rw [Nat.zero_div]
    omega, fun ⟨s, hs, _⟩ => by omega⟩) (fun s hs => by omega) (by rw [Nat.zero_mul]; exact Or.inl ⟨rfl, rfl⟩)
  obtain ⟨l', p', b', d1, d2, -⟩ := hdfs
  rw [Nat.zero_add, Nat.one_mul] at d2
  have d1' : f_X2_placeFrom F 8 0 0 0 (nI n) kind was is_ 1000000000 pl bp = some (l', p', b') := d1
  rcases d2 with ⟨a, -⟩ | ⟨y, o, a, -, hl', hb'⟩
  · rw [hfin] at a; cases a
  rw [hfin] at a
  cases a
  rw [d1']
  simp only [Option.bind_some]
  have hm37 : ∀ x1, f_X7_match_37_r F isThere st F places x1 1 0 = f_X7_match_70_r F isThere st F places x1 (nI (n ^ n)) (-1) 0 0 := fun x1 => sc37 (F := F) hF hnn hn6 hM n 0 F places (by omega) (by omega)
  have hsc : ∀ x1, ∃ pl, (∀ s, s < n → pl s = nI (D n y0 s)) ∧ f_X7_match_70_r F isThere st F places x1 (nI (n ^ n)) (-1) 0 0 = (if 0 ≤ x1 then gd (inb x1 6) (some (pl x1.toNatClampNeg, pl)) else some (nI o0, pl)) := fun x1 => sc70 (F := F) (isThere := isThere) (x1 := x1) hF hO.T hnn hn hM hpow hfin (n ^ n) 0 F places (-1) 0 (by omega) (by omega) (Or.inl ⟨rfl, rfl, rfl⟩)
  show ∃ r a b c pl', _ ∧ (f_X7_in F x1.toInt64 (-1) (st 2 - 1).toInt64).bind _ = _
  rw [e2]
  have e64 : (nI n - 1).toInt64 = lN (n - 1) := by rw [show (1 : Int32) = nI 1 from rfl, pk_sub (by omega), nI_l (by omega)]
  by_cases cm : x1 = -1
  · obtain ⟨plf, q1, q2⟩ := hsc x1
    have hin : f_X7_in F x1.toInt64 (-1) (nI n - 1).toInt64 = some 1 := by
      rw [s_in, cm, e64, if_neg (show ¬ (-1 : Int32).toInt64 < -1 from by decide), if_neg]
      rw [Int64.lt_iff_toInt_lt, lN_toInt (by omega)]
      have : (-1 : Int32).toInt64.toInt = -1 := by decide
      omega
    rw [hin, if_pos cm, if_pos cm, Option.bind_some, if_neg one_ne, hm37, q2, if_neg (show ¬ (0 : Int32) ≤ x1 from by rw [cm]; decide)]
    exact ⟨nI o0, _, _, _, _, by rw [hl'], rfl⟩
  · rw [if_neg cm, if_neg cm]
    rcases thc x1 n hn6 with ⟨t1, t2⟩ | ⟨t, ht, rfl, t1, t2⟩
    · have hin : f_X7_in F x1.toInt64 (-1) (nI n - 1).toInt64 = some 0 := by
        have hh := t1 F
        unfold f_X3_has f_X6_isWithin at hh
        rw [s_in, e64]
        by_cases c1 : x1 < 0
        · rw [if_pos]
          rw [Int64.lt_iff_toInt_lt, t64, show (-1 : Int64).toInt = -1 from by decide]
          rw [Int32.lt_iff_toInt_lt, show (0 : Int32).toInt = 0 from by decide] at c1
          have : x1.toInt ≠ -1 := fun e => cm (Int32.toInt_inj.mp (by rw [e]; decide))
          omega
        · rw [if_neg c1] at hh
          by_cases c2 : nI n - 1 < x1
          · by_cases c3 : x1.toInt64 < -1
            · rw [if_pos c3]
            · rw [if_neg c3, if_pos]
              rw [Int64.lt_iff_toInt_lt, t64, lN_toInt (by omega)]
              rw [show (1 : Int32) = nI 1 from rfl, pk_sub (by omega), Int32.lt_iff_toInt_lt, nI_toInt (by omega)] at c2
              exact c2
          · rw [if_neg c2] at hh
            exact absurd hh (by decide)
      rw [t1, hin]
      exact ⟨_, _, _, _, _, rfl, rfl⟩
    · obtain ⟨plf, q1, q2⟩ := hsc (nI t)
      have hin : f_X7_in F (nI t).toInt64 (-1) (nI n - 1).toInt64 = some 1 := by
        rw [s_in, e64, nI_l (by omega), if_neg, if_neg]
        · rw [Int64.lt_iff_toInt_lt, lN_toInt (by omega), lN_toInt (by omega)]; omega
        · rw [Int64.lt_iff_toInt_lt, lN_toInt (by omega), show (-1 : Int64).toInt = -1 from by decide]; omega
      rw [t1, hin, Option.bind_some, Option.bind_some, if_neg one_ne, if_neg one_ne, hm37, q2, if_pos (show (0 : Int32) ≤ nI t from by rw [show (0 : Int32) = nI 0 from rfl, nI_leI (by omega) (by omega)]; omega), gdI (by omega) (by omega), gdI (by omega) (by omega), nI_clamp (by omega), q1 t ht]
      exact ⟨nI (D n y0 t), _, _, _, _, by rw [hb' t ht], rfl⟩
