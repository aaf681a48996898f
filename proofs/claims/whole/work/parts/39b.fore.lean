/-! draws; how seldom one need look -/
theorem lN_big {n : Nat} (h : n < 9223372036854775808) : (lN n).toInt = (n : Int) := lg_ofNat_toInt (by omega)
theorem lN_div {a b : Nat} (ha : a < 9223372036854775808) (hb : b < 9223372036854775808) : lN a / lN b = lN (a / b) := by
  have hq : a / b ≤ a := Nat.div_le_self a b
  apply Int64.toInt_inj.mp
  rw [Int64.toInt_div, lN_big ha, lN_big hb, lN_big (by omega), ← Int.ofNat_tdiv]
  generalize a / b = q at hq ⊢
  exact Int.bmod_eq_of_le (by omega) (by omega)
theorem lN_rem {a b : Nat} (ha : a < 9223372036854775808) (hb : b < 9223372036854775808) : lN a - lN a / lN b * lN b = lN (a % b) := by
  rw [lN_div ha hb, lN_mul, lN_sub (Nat.div_mul_le_self a b)]
  congr 1
  have := Nat.div_add_mod a b
  rw [Nat.mul_comm] at this
  omega
theorem gdL {α : Type} {k : Nat} {x : Option α} (h : 0 < k) (hn : k < 2147483648) : gd (nzl (lN k)) x = x := by
  have h1 : nzl (lN k) = true := decide_eq_true (fun e => by
    have := (lN_eq (a := k) (b := 0) (by omega) (by omega)).mp e
    omega)
  rw [h1]; rfl
theorem s_draw {F w : Nat} {A : Nat → Nat} {things may fee day : Int32} {kind was by_ price side is_ st : Nat → Int32} (hT : OkT A) (hn1 : 1 ≤ A 2) (hw : w < 2147483648) (hC : RpC A things may fee day kind was by_ price side is_) (hM : RpM A st) :
    ∃ (A' : Nat → Nat) (p : Int32) (is' st' : Nat → Int32), f_X2_putBackDrawn F (lN w) things fee kind was price is_ = some (p, is') ∧ (∀ (isThere : Int32) k61 (aside : Nat → Int32) (x1 x3 x6 x7 : Int32), (gd (inb (2 : Int32) 41) (gd (nzl (st (2 : Int32).toNatClampNeg).toInt64) ((f_X7_isPeople F (lN w - lN w / (st (2 : Int32).toNatClampNeg).toInt64 * (st (2 : Int32).toNatClampNeg).toInt64).toInt32 st).bind fun u8 => if (u8) = (0 : Int32) then ((f_X7_off F (lN w - lN w / (st (2 : Int32).toNatClampNeg).toInt64 * (st (2 : Int32).toNatClampNeg).toInt64).toInt32 st).bind fun u11 => if (u11) ≤ (0 : Int32) then (f_X7_drawn_151 F isThere k61 st aside x1 x3 (lN w) x6 x7) else (gd (inb ((35 : Int32) + (lN w - lN w / (st (2 : Int32).toNatClampNeg).toInt64 * (st (2 : Int32).toNatClampNeg).toInt64).toInt32) 41) ((f_X7_price F (lN w - lN w / (st (2 : Int32).toNatClampNeg).toInt64 * (st (2 : Int32).toNatClampNeg).toInt64).toInt32 (st ((35 : Int32) + (lN w - lN w / (st (2 : Int32).toNatClampNeg).toInt64 * (st (2 : Int32).toNatClampNeg).toInt64).toInt32).toNatClampNeg) st).bind fun u15 => gd (inb ((11 : Int32) + (lN w - lN w / (st (2 : Int32).toNatClampNeg).toInt64 * (st (2 : Int32).toNatClampNeg).toInt64).toInt32) 41) (gd (inb ((35 : Int32) + (lN w - lN w / (st (2 : Int32).toNatClampNeg).toInt64 * (st (2 : Int32).toNatClampNeg).toInt64).toInt32) 41) (f_X7_drawn_151 F isThere k61 (upd st ((35 : Int32) + (lN w - lN w / (st (2 : Int32).toNatClampNeg).toInt64 * (st (2 : Int32).toNatClampNeg).toInt64).toInt32).toNatClampNeg (st ((11 : Int32) + (lN w - lN w / (st (2 : Int32).toNatClampNeg).toInt64 * (st (2 : Int32).toNatClampNeg).toInt64).toInt32).toNatClampNeg)) aside x1 x3 (lN w) (x6 + (u15)) x7))))) else (f_X7_drawn_151 F isThere k61 st aside x1 x3 (lN w) x6 x7)))) = f_X7_drawn_151 F isThere k61 st' aside x1 x3 (lN w) (x6 + p) x7) ∧ OkT A' ∧ A' 3 = A 3 ∧ A' 2 = A 2 ∧ RpC A' things may fee day kind was by_ price side is' ∧ RpM A' st' := by
  have hn := hT.1
  have hC0 := hC
  obtain ⟨rfl, h2, rfl, h4, hc⟩ := hC
  have e2 := hM 2 (by omega) (by omega)
  have et : (lN w - lN w / lN (A 2) * lN (A 2)).toInt32 = nI (w % A 2) := by rw [lN_rem (by omega) (by omega), lN_i]
  have el : (nI (A 2)).toInt64 = lN (A 2) := nI_l (by omega)
  have ht : w % A 2 < A 2 := Nat.mod_lt _ (by omega)
  simp only [show (2 : Int32).toNatClampNeg = 2 from rfl, e2, el, et]
  unfold f_X2_putBackDrawn
  simp only [el, et]
  generalize w % A 2 = t at ht
  obtain ⟨b1, b2, b3, b4, b5, b6, b7, b8, b9⟩ := hT.2.2.2 t (by omega)
  obtain ⟨c1, c2, c3, c4, c5, c6⟩ := hc t (by omega)
  have ho := s_offIf (F := F) (a := A (35 + t)) (show t < 6 by omega) c2 (by omega) (by omega)
  have ho7 := s_off (F := F) hM (show t < 6 by omega) (by omega) (by omega)
  have hp3 := s_isPersonAt (F := F) (show t < 6 by omega) c1 b2
  have hp7 := s_isPeople (F := F) hM (show t < 6 by omega) b2
  have hcs := s_cost (F := F) (a := A (35 + t)) (fe := A 1) (show t < 6 by omega) c2 c4 (by omega) (by omega)
  have hpr := s_price (F := F) (a := A (35 + t)) hM (show t < 6 by omega) (by omega) (by omega)
  have q11 := hM (11 + t) (by omega) (by omega)
  have q35 := hM (35 + t) (by omega) (by omega)
  have hlt : df (A (35 + t)) (A (11 + t)) < 200000 := by unfold df; omega
  have hhas : f_X3_has F (nI t) (nI (A 2)) = some 1 := by
    unfold f_X3_has f_X6_isWithin
    simp (disch := omega) only [fl32, nI_add, pk_mul, pk_rem, nI_clamp, gdI, gdZ, gdB0, gdB1, nI_leI, nI_ltI, nI_eq, if_pos, if_neg, Option.bind_some, pk_us, pk_un, nn_eq, nn_le, nn_lt, nl_eq, if_true, if_false, eq_self, nl_le, pk_sub]
  have ne0 : ¬ nI (A 2) = (0 : Int32) := nI_ne0 (by omega) (by omega)
  rw [if_neg ne0, hhas, gdL (by omega) (by omega)]
  simp only [Option.bind_some, if_neg one_ne]
  by_cases c : 4 ≤ A (5 + t)
  · refine ⟨A, 0, is_, st, ?_, fun isThere k61 aside x1 x3 x6 x7 => ?_, hT, rfl, rfl, hC0, hM⟩
    · simp (disch := omega) only [fl32, nI_add, pk_mul, pk_rem, nI_clamp, gdI, gdZ, gdB0, gdB1, nI_leI, nI_ltI, nI_eq, if_pos, if_neg, Option.bind_some, pk_us, pk_un, nn_eq, nn_le, nn_lt, nl_eq, if_true, if_false, eq_self, nl_le, hp3]
    · rw [Int32.add_zero]
      simp (disch := omega) only [fl32, nI_add, pk_mul, pk_rem, nI_clamp, gdI, gdZ, gdB0, gdB1, nI_leI, nI_ltI, nI_eq, if_pos, if_neg, Option.bind_some, pk_us, pk_un, nn_eq, nn_le, nn_lt, nl_eq, if_true, if_false, eq_self, nl_le, hp7, gdL]
  by_cases d : df (A (35 + t)) (A (11 + t)) = 0
  · refine ⟨A, 0, is_, st, ?_, fun isThere k61 aside x1 x3 x6 x7 => ?_, hT, rfl, rfl, hC0, hM⟩
    · simp (disch := omega) only [fl32, nI_add, pk_mul, pk_rem, nI_clamp, gdI, gdZ, gdB0, gdB1, nI_leI, nI_ltI, nI_eq, if_pos, if_neg, Option.bind_some, pk_us, pk_un, nn_eq, nn_le, nn_lt, nl_eq, if_true, if_false, eq_self, nl_le, hp3, c6, ho, d]
    · rw [Int32.add_zero]
      simp (disch := omega) only [fl32, nI_add, pk_mul, pk_rem, nI_clamp, gdI, gdZ, gdB0, gdB1, nI_leI, nI_ltI, nI_eq, if_pos, if_neg, Option.bind_some, pk_us, pk_un, nn_eq, nn_le, nn_lt, nl_eq, if_true, if_false, eq_self, nl_le, hp7, gdL, ho7, d]
  · refine ⟨setA A (35 + t) (A (11 + t)), nI (A (23 + t) * df (A (35 + t)) (A (11 + t)) + A 1), upd is_ t (nI (A (11 + t))), upd st (35 + t) (nI (A (11 + t))), ?_, fun isThere k61 aside x1 x3 x6 x7 => ?_, okT_set hT (by omega), setA_ne (by omega), setA_ne (by omega), rc_set hT hC0, setA_rm hM⟩
    · simp (disch := omega) only [fl32, nI_add, pk_mul, pk_rem, nI_clamp, gdI, gdZ, gdB0, gdB1, nI_leI, nI_ltI, nI_eq, if_pos, if_neg, Option.bind_some, pk_us, pk_un, nn_eq, nn_le, nn_lt, nl_eq, if_true, if_false, eq_self, nl_le, hp3, c6, ho, hcs, c2]
    · simp (disch := omega) only [fl32, nI_add, pk_mul, pk_rem, nI_clamp, gdI, gdZ, gdB0, gdB1, nI_leI, nI_ltI, nI_eq, if_pos, if_neg, Option.bind_some, pk_us, pk_un, nn_eq, nn_le, nn_lt, nl_eq, if_true, if_false, eq_self, nl_le, hp7, gdL, ho7, q35, q11, hpr]
theorem s_drawn {F n y : Nat} (hF : 100000 ≤ F) (hy : y ≤ 1) {things may fee ld isThere : Int32} {kind was by_ price side lis aside : Nat → Int32} (hn60 : n ≤ 60) : ∀ (k s fu fu2 v : Nat) (c : Int32) (A : Nat → Nat) (day : Int32) (is_ st : Nat → Int32), n = s + k → k < fu → k < fu2 → v < 2147483648 → OkT A → 1 ≤ A 2 → A 3 + k < 900000 → RpC A things may fee day kind was by_ price side is_ → RpM A st →
    ∃ r1 r d' i' st', f_X2_costByDraws_13_r F things fee ld kind was by_ price lis fu day is_ (nI n) c (lN v) (nI s) = some (r1, d', i') ∧ (if nI y = (0 : Int32) then some r1 else f_X2_allOff F things was i') = some r ∧ f_X7_drawn_61_r F isThere fu2 st aside (nI n) (nI y) (lN v) c (nI s) = some (r, st', aside) ∧ ∀ j, j < 41 → st' j = aside j := by
  intro k
  induction k with
  | zero =>
    intro s fu fu2 v c A day is_ st h1 h2 h3 hv hT hn1 hd hC hM
    obtain ⟨fu, rfl⟩ : ∃ q, fu = q + 1 := ⟨fu - 1, by omega⟩
    obtain ⟨fu2, rfl⟩ : ∃ q, fu2 = q + 1 := ⟨fu2 - 1, by omega⟩
    obtain ⟨K, k1, k2⟩ := s_takeBk (F := F) hF aside st
    have w2 := w_all2 (F := F) hF hT hC
    have w7 := s_allOff7' (F := F) hF hM hT
    have hcl : f_X2_costByDraws_13_r F things fee ld kind was by_ price lis (fu + 1) day is_ (nI n) c (lN v) (nI s) = some (c, day, is_) := by
      show f_X2_costByDraws_13 F _ _ _ _ _ _ _ _ _ _ _ _ _ _ _ = _
      unfold f_X2_costByDraws_13
      rw [if_pos (show nI n ≤ nI s from by rw [nI_leI (by omega) (by omega)]; omega)]
    have hm : ∀ r, (if nI y = (0 : Int32) then some c else some (nI (allN A))) = some r → f_X7_drawn_61_r F isThere (fu2 + 1) st aside (nI n) (nI y) (lN v) c (nI s) = some (r, K, aside) := by
      intro r hr
      show f_X7_drawn_61 F _ _ _ _ _ _ _ _ _ = _
      unfold f_X7_drawn_61 f_X7_drawn_174
      rw [if_pos (show nI n ≤ nI s from by rw [nI_leI (by omega) (by omega)]; omega), k1, w7]
      by_cases cy : nI y = (0 : Int32)
      · rw [if_pos cy] at hr ⊢
        cases hr
        rfl
      · rw [if_neg cy] at hr ⊢
        cases hr
        rfl
    by_cases cy : nI y = (0 : Int32)
    · exact ⟨c, c, day, is_, K, hcl, by rw [if_pos cy], hm c (by rw [if_pos cy]), k2⟩
    · exact ⟨c, nI (allN A), day, is_, K, hcl, by rw [if_neg cy, w2], hm _ (by rw [if_neg cy]), k2⟩
  | succ k ih =>
    intro s fu fu2 v c A day is_ st h1 h2 h3 hv hT hn1 hd hC hM
    obtain ⟨fu, rfl⟩ : ∃ q, fu = q + 1 := ⟨fu - 1, by omega⟩
    obtain ⟨fu2, rfl⟩ : ∃ q, fu2 = q + 1 := ⟨fu2 - 1, by omega⟩
    have hw : v * 16807 % 2147483647 < 2147483648 := Nat.lt_of_lt_of_le (Nat.mod_lt _ (by omega)) (by omega)
    have enx : (lN v * (16807 : Int64)) - (lN v * (16807 : Int64)) / (2147483647 : Int64) * (2147483647 : Int64) = lN (v * 16807 % 2147483647) := by
      rw [show (16807 : Int64) = lN 16807 from rfl, show (2147483647 : Int64) = lN 2147483647 from rfl, lN_mul, lN_rem (by omega) (by omega)]
    obtain ⟨A1, p, is1, st1, d1, d2, d3, d4, d5, d6, d7⟩ := s_draw (F := F) hT hn1 hw hC hM
    obtain ⟨day', is', p1, p2⟩ := s_pass hF d3 (by omega) d6
    obtain ⟨st', m1, m2, -⟩ := s_oneDay hF d3 (by omega) d7
    have e2 : dayA A1 2 = A1 2 := dayA_lo (by omega) (by omega)
    obtain ⟨r1, r, d', i', st2, g1, g2, g3, g4⟩ := ih (s + 1) fu fu2 (v * 16807 % 2147483647) (c + p) (dayA A1) day' is' st' (by omega) (by omega) (by omega) hw (dayA_ok d3) (by omega) (by rw [dayA_3]; omega) p2 m2
    refine ⟨r1, r, d', i', st2, ?_, g2, ?_, g4⟩
    · show f_X2_costByDraws_13 F _ _ _ _ _ _ _ _ _ _ _ _ _ _ _ = _
      unfold f_X2_costByDraws_13
      rw [if_neg (show ¬ nI n ≤ nI s from by rw [nI_leI (by omega) (by omega)]; omega), enx, show (2147483647 : Int64) = lN 2147483647 from rfl, gdL (by omega) (by omega), d1]
      simp only [Option.bind_some, p1, nI_s1]
      exact g1
    · show f_X7_drawn_61 F _ _ _ _ _ _ _ _ _ = _
      unfold f_X7_drawn_61
      rw [if_neg (show ¬ nI n ≤ nI s from by rw [nI_leI (by omega) (by omega)]; omega), enx]
      rw [show gd (nzl (2147483647 : Int64)) = fun (x : Option (Int32 × (Nat → Int32) × (Nat → Int32))) => x from funext (fun x => gdL (k := 2147483647) (by omega) (by omega))]
      refine (d2 isThere (f_X7_drawn_61_r F isThere fu2) aside (nI n) (nI y) c (nI s)).trans ?_
      unfold f_X7_drawn_151
      rw [m1]
      simp only [Option.bind_some, nI_s1]
      exact g3
theorem k_drawn (F : Nat) (hF : 100000 ≤ F) (x1 x2 x3 : Int32) {A : Nat → Nat} {st kind was by_ price side is_ : Nat → Int32} {things may fee day isThere : Int32} (hO : OkA A) (hC : RpC A things may fee day kind was by_ price side is_) (hM : RpM A st) (hth : isThere = (if A 2 = 0 then 0 else 1)) (fd : Int32) (fi aside : Nat → Int32) :
    ∃ r d' i' st' as', f_X6_drawn F x1 x2 x3 things fee day kind was by_ price is_ fd fi = some (r, d', i') ∧ f_X7_drawn F x1 x2 x3 isThere st aside = some (r, st', as') ∧ ∀ j, j < 41 → st' j = st j := by
  have hn := hO.1
  have hd := hO.2.2.2.1
  unfold f_X6_drawn f_X7_drawn f_X2_costByDraws
  rcases thereC hO.1 hth with ⟨-, g1, g2⟩ | ⟨gn, g1, g2⟩
  · rw [← hC.1] at g1
    rw [if_pos g1, if_pos g2]
    exact ⟨_, _, _, _, _, rfl, rfl, fun _ _ => rfl⟩
  rw [← hC.1] at g1
  rw [if_neg g1, if_neg g2]
  rcases win x1 0 60 0 60 0 60 rfl rfl rfl rfl (by decide) (by decide) with ⟨e1, e2⟩ | ⟨n, -, hn1, rfl, e1, e2⟩
  · rw [e1, e2]
    exact ⟨_, _, _, _, _, rfl, rfl, fun _ _ => rfl⟩
  rw [e1, e2]
  rcases win x2 1 999999 1 999999 1 999999 rfl rfl rfl rfl (by decide) (by decide) with ⟨e3, e4⟩ | ⟨v, -, hv, rfl, e3, e4⟩
  · rw [e3, e4]
    exact ⟨_, _, _, _, _, rfl, rfl, fun _ _ => rfl⟩
  rw [e3, e4]
  rcases win x3 0 1 0 1 0 1 rfl rfl rfl rfl (by decide) (by decide) with ⟨e5, e6⟩ | ⟨y, -, hy, rfl, e5, e6⟩
  · rw [e5, e6]
    exact ⟨_, _, _, _, _, rfl, rfl, fun _ _ => rfl⟩
  rw [e5, e6]
  obtain ⟨K, k1, k2⟩ := s_putAside (F := F) hF st aside
  obtain ⟨is', b1, b2⟩ := s_begin (F := F) hF hn hC fd fi
  obtain ⟨r1, r, d', i', st', h1, h2, h3, h4⟩ := s_drawn (F := F) (n := n) (y := y) hF hy (ld := day) (lis := is_) (isThere := isThere) (aside := K) hn1 n 0 F F v 0 A day is' st (by omega) (by omega) (by omega) (by omega) hO.T gn (by omega) b2 hM
  rw [nI_l (show v < 2147483648 by omega)]
  simp only [Option.bind_some, if_neg one_ne, b1, k1]
  have h3' : f_X7_drawn_61_r F isThere F st K (nI n) (nI y) (lN v) 0 0 = some (r, st', K) := h3
  have h1' : f_X2_costByDraws_13_r F things fee day kind was by_ price is_ F day is' (nI n) 0 (lN v) 0 = some (r1, d', i') := h1
  rw [h3', h1']
  simp only [Option.bind_some]
  by_cases cy : nI y = (0 : Int32)
  · rw [if_pos cy] at h2 ⊢
    cases h2
    exact ⟨r1, d', i', st', K, rfl, rfl, fun j hj => (h4 j hj).trans (k2 j hj)⟩
  · rw [if_neg cy] at h2 ⊢
    rw [h2]
    exact ⟨r, d', i', st', K, rfl, rfl, fun j hj => (h4 j hj).trans (k2 j hj)⟩
/-! seldom -/
theorem s_sd0 {F t m d : Nat} {A : Nat → Nat} {st : Nat → Int32} (hM : RpM A st) (hT : OkT A) (ht : t < A 2) (hd : A 3 ≤ 999) (hd1 : 1 ≤ d) (hd30 : d ≤ 30) : ∀ (k s fu i : Nat), 61 = s + k → 1 ≤ s → k < fu → i ≤ 99 → f_X7_isSeldom_17_r F st fu (nI t) (nI m) (nI d) (nI i) 0 (nI s) = some 0 := by
  have hn := hT.1
  have e3 := hM 3 (by omega) (by omega)
  have q11 := hM (11 + t) (by omega) (by omega)
  obtain ⟨b1, b2, b3, b4, b5, b6, b7, b8, b9⟩ := hT.2.2.2 t ht
  intro k
  induction k with
  | zero =>
    intro s fu i h1 hs h2 hi
    obtain ⟨fu, rfl⟩ : ∃ q, fu = q + 1 := ⟨fu - 1, by omega⟩
    show f_X7_isSeldom_17 F _ _ _ _ _ _ _ _ = _
    unfold f_X7_isSeldom_17
    simp (disch := omega) only [fl32, nI_add, pk_mul, pk_rem, nI_clamp, gdI, gdZ, gdB0, gdB1, nI_leI, nI_ltI, nI_eq, if_pos, if_neg, Option.bind_some, pk_us, pk_un, nn_eq, nn_le, nn_lt, nl_eq, if_true, if_false, eq_self, nl_le]
  | succ k ih =>
    intro s fu i h1 hs h2 hi
    obtain ⟨fu, rfl⟩ : ∃ q, fu = q + 1 := ⟨fu - 1, by omega⟩
    have q7 := s_changed (F := F) (i := i) (d := A 3 + s - 1) hM (show t < 6 by omega) b1 b2 b4 b5 hi (by omega)
    have hrem : s % d < 30 := Nat.lt_of_lt_of_le (Nat.mod_lt _ (by omega)) hd30
    show f_X7_isSeldom_17 F _ _ _ _ _ _ _ _ = _
    unfold f_X7_isSeldom_17 f_X7_isSeldom_64 f_X7_isSeldom_65 f_X7_isSeldom_88
    by_cases c : s % d = 0
    · simp (disch := omega) only [fl32, nI_add, pk_mul, pk_rem, nI_clamp, gdI, gdZ, gdB0, gdB1, nI_leI, nI_ltI, nI_eq, if_pos, if_neg, Option.bind_some, pk_us, pk_un, nn_eq, nn_le, nn_lt, nl_eq, if_true, if_false, eq_self, nl_le, e3, q7, pk_sub, c, q11]
      exact ih (s + 1) fu _ (by omega) (by omega) (by omega) (by omega)
    · simp (disch := omega) only [fl32, nI_add, pk_mul, pk_rem, nI_clamp, gdI, gdZ, gdB0, gdB1, nI_leI, nI_ltI, nI_eq, if_pos, if_neg, Option.bind_some, pk_us, pk_un, nn_eq, nn_le, nn_lt, nl_eq, if_true, if_false, eq_self, nl_le, e3, q7, pk_sub, c, q11]
      exact ih (s + 1) fu _ (by omega) (by omega) (by omega) (dN_le hi)
theorem s_sd1 {F t m d : Nat} {A : Nat → Nat} {st kind was by_ : Nat → Int32} (hM : RpM A st) (hT : OkT A) (ht : t < A 2) (hd : A 3 ≤ 999) (hd1 : 1 ≤ d) (hd30 : d ≤ 30) (hm : m ≤ 60) (hk : kind t = nI (A (5 + t))) (hw : was t = nI (A (11 + t))) (hb : by_ t = nI (A (17 + t))) : ∀ (k s fu fu2 i : Nat), 60 = s + k → k < fu → k < fu2 → i ≤ 99 →
    ∃ r : Int32, (r = 0 ∨ r = 1) ∧ f_X2_isNeverOffByMore_17_r F (nI (A 3)) kind was by_ fu (nI t) (nI m) (nI d) (nI i) (nI (s % d)) (nI s) = some r ∧ f_X7_isSeldom_17_r F st fu2 (nI t) (nI m) (nI d) (nI i) 1 (nI (s + 1)) = some r := by
  have hn := hT.1
  have e3 := hM 3 (by omega) (by omega)
  have q11 := hM (11 + t) (by omega) (by omega)
  obtain ⟨b1, b2, b3, b4, b5, b6, b7, b8, b9⟩ := hT.2.2.2 t ht
  intro k
  induction k with
  | zero =>
    intro s fu fu2 i h1 h2 h3 hi
    obtain ⟨fu, rfl⟩ : ∃ q, fu = q + 1 := ⟨fu - 1, by omega⟩
    obtain ⟨fu2, rfl⟩ : ∃ q, fu2 = q + 1 := ⟨fu2 - 1, by omega⟩
    refine ⟨1, Or.inr rfl, ?_, ?_⟩
    · show f_X2_isNeverOffByMore_17 F _ _ _ _ _ _ _ _ _ _ _ = _
      unfold f_X2_isNeverOffByMore_17
      simp (disch := omega) only [fl32, nI_add, pk_mul, pk_rem, nI_clamp, gdI, gdZ, gdB0, gdB1, nI_leI, nI_ltI, nI_eq, if_pos, if_neg, Option.bind_some, pk_us, pk_un, nn_eq, nn_le, nn_lt, nl_eq, if_true, if_false, eq_self, nl_le]
    · show f_X7_isSeldom_17 F _ _ _ _ _ _ _ _ = _
      unfold f_X7_isSeldom_17
      simp (disch := omega) only [fl32, nI_add, pk_mul, pk_rem, nI_clamp, gdI, gdZ, gdB0, gdB1, nI_leI, nI_ltI, nI_eq, if_pos, if_neg, Option.bind_some, pk_us, pk_un, nn_eq, nn_le, nn_lt, nl_eq, if_true, if_false, eq_self, nl_le]
  | succ k ih =>
    intro s fu fu2 i h1 h2 h3 hi
    obtain ⟨fu, rfl⟩ : ∃ q, fu = q + 1 := ⟨fu - 1, by omega⟩
    obtain ⟨fu2, rfl⟩ : ∃ q, fu2 = q + 1 := ⟨fu2 - 1, by omega⟩
    have q3 := s_dayOn (F := F) (i := i) (d := A 3 + s) (show t < 6 by omega) hk hb b1 b2 b4 b5 hi (by omega)
    have q7 := s_changed (F := F) (i := i) (d := A 3 + s) hM (show t < 6 by omega) b1 b2 b4 b5 hi (by omega)
    have hv := dN_le (k := A (5 + t)) (b := A (17 + t)) (d := A 3 + s) hi
    generalize hvv : dN (A (5 + t)) (A (17 + t)) i (A 3 + s) = v at q3 q7 hv
    have ho := s_offIf (F := F) (a := v) (show t < 6 by omega) hw (by omega) (by omega)
    have ho7 := s_differ (F := F) (a := v) hM (show t < 6 by omega) (by omega) (by omega)
    have hlt : df v (A (11 + t)) < 200000 := by unfold df; omega
    have hrem : (s + 1) % d < 30 := Nat.lt_of_lt_of_le (Nat.mod_lt _ (by omega)) hd30
    have hrem2 : s % d < 30 := Nat.lt_of_lt_of_le (Nat.mod_lt _ (by omega)) hd30
    have hrem3 : s % d < d := Nat.mod_lt _ (by omega)
    have e3' : A 3 + (s + 1) - 1 = A 3 + s := by omega
    by_cases c : df v (A (11 + t)) ≤ m
    · by_cases cr : s % d + 1 = d
      · have hz : (s + 1) % d = 0 := by
          rw [Nat.add_mod]
          by_cases d1 : d = 1
          · subst d1; omega
          · rw [Nat.mod_eq_of_lt (show 1 < d by omega), cr, Nat.mod_self]
        obtain ⟨r, g0, g1, g2⟩ := ih (s + 1) fu fu2 (A (11 + t)) (by omega) (by omega) (by omega) (by omega)
        rw [hz] at g1
        refine ⟨r, g0, ?_, ?_⟩
        · show f_X2_isNeverOffByMore_17 F _ _ _ _ _ _ _ _ _ _ _ = _
          unfold f_X2_isNeverOffByMore_17 f_X2_isNeverOffByMore_85
          simp (disch := omega) only [fl32, nI_add, pk_mul, pk_rem, nI_clamp, gdI, gdZ, gdB0, gdB1, nI_leI, nI_ltI, nI_eq, if_pos, if_neg, Option.bind_some, pk_us, pk_un, nn_eq, nn_le, nn_lt, nl_eq, if_true, if_false, eq_self, nl_le, q3, ho, hw]
          exact g1
        · show f_X7_isSeldom_17 F _ _ _ _ _ _ _ _ = _
          unfold f_X7_isSeldom_17 f_X7_isSeldom_64 f_X7_isSeldom_65 f_X7_isSeldom_88
          simp (disch := omega) only [fl32, nI_add, pk_mul, pk_rem, nI_clamp, gdI, gdZ, gdB0, gdB1, nI_leI, nI_ltI, nI_eq, if_pos, if_neg, Option.bind_some, pk_us, pk_un, nn_eq, nn_le, nn_lt, nl_eq, if_true, if_false, eq_self, nl_le, e3, pk_sub, e3', q7, ho7, hz, q11]
          exact g2
      · have hz : (s + 1) % d = s % d + 1 := by
          rw [Nat.add_mod, Nat.mod_eq_of_lt (show 1 < d by omega), Nat.mod_eq_of_lt (by omega)]
        obtain ⟨r, g0, g1, g2⟩ := ih (s + 1) fu fu2 v (by omega) (by omega) (by omega) hv
        rw [hz] at g1
        have hnz : ¬ (s + 1) % d = 0 := by omega
        refine ⟨r, g0, ?_, ?_⟩
        · show f_X2_isNeverOffByMore_17 F _ _ _ _ _ _ _ _ _ _ _ = _
          unfold f_X2_isNeverOffByMore_17 f_X2_isNeverOffByMore_85
          simp (disch := omega) only [fl32, nI_add, pk_mul, pk_rem, nI_clamp, gdI, gdZ, gdB0, gdB1, nI_leI, nI_ltI, nI_eq, if_pos, if_neg, Option.bind_some, pk_us, pk_un, nn_eq, nn_le, nn_lt, nl_eq, if_true, if_false, eq_self, nl_le, q3, ho, hw]
          exact g1
        · show f_X7_isSeldom_17 F _ _ _ _ _ _ _ _ = _
          unfold f_X7_isSeldom_17 f_X7_isSeldom_64 f_X7_isSeldom_65 f_X7_isSeldom_88
          simp (disch := omega) only [fl32, nI_add, pk_mul, pk_rem, nI_clamp, gdI, gdZ, gdB0, gdB1, nI_leI, nI_ltI, nI_eq, if_pos, if_neg, Option.bind_some, pk_us, pk_un, nn_eq, nn_le, nn_lt, nl_eq, if_true, if_false, eq_self, nl_le, e3, pk_sub, e3', q7, ho7, q11]
          exact g2
    · refine ⟨0, Or.inl rfl, ?_, ?_⟩
      · show f_X2_isNeverOffByMore_17 F _ _ _ _ _ _ _ _ _ _ _ = _
        unfold f_X2_isNeverOffByMore_17 f_X2_isNeverOffByMore_85
        simp (disch := omega) only [fl32, nI_add, pk_mul, pk_rem, nI_clamp, gdI, gdZ, gdB0, gdB1, nI_leI, nI_ltI, nI_eq, if_pos, if_neg, Option.bind_some, pk_us, pk_un, nn_eq, nn_le, nn_lt, nl_eq, if_true, if_false, eq_self, nl_le, q3, ho, hw]
      · show f_X7_isSeldom_17 F _ _ _ _ _ _ _ _ = _
        unfold f_X7_isSeldom_17 f_X7_isSeldom_64 f_X7_isSeldom_65 f_X7_isSeldom_88
        by_cases cz : (s + 1) % d = 0
        · simp (disch := omega) only [fl32, nI_add, pk_mul, pk_rem, nI_clamp, gdI, gdZ, gdB0, gdB1, nI_leI, nI_ltI, nI_eq, if_pos, if_neg, Option.bind_some, pk_us, pk_un, nn_eq, nn_le, nn_lt, nl_eq, if_true, if_false, eq_self, nl_le, e3, pk_sub, e3', q7, ho7, q11, cz]
          exact s_sd0 hM hT ht hd hd1 hd30 k (s + 1 + 1) fu2 _ (by omega) (by omega) (by omega) (by omega)
        · simp (disch := omega) only [fl32, nI_add, pk_mul, pk_rem, nI_clamp, gdI, gdZ, gdB0, gdB1, nI_leI, nI_ltI, nI_eq, if_pos, if_neg, Option.bind_some, pk_us, pk_un, nn_eq, nn_le, nn_lt, nl_eq, if_true, if_false, eq_self, nl_le, e3, pk_sub, e3', q7, ho7, q11, cz]
          exact s_sd0 hM hT ht hd hd1 hd30 k (s + 1 + 1) fu2 _ (by omega) (by omega) (by omega) hv
noncomputable def topD (b : Nat → Int32) : Nat → Int32
  | 0 => -1000000
  | d + 1 => if b (d + 1) = 0 then topD b d else nI (d + 1)
theorem s_top3 {F : Nat} {x1 x2 ld : Int32} {kind was by_ : Nat → Int32} {b : Nat → Int32} (hb : ∀ d, 1 ≤ d → d ≤ 30 → f_X2_isNeverOffByMore F x1 x2 (nI d) ld kind was by_ = some (b d)) : ∀ (d fu : Nat), d ≤ 30 → d < fu → f_X2_mostDaysUnseen_3_r F ld kind was by_ fu x1 x2 (nI d) = some (topD b d) := by
  intro d
  induction d with
  | zero =>
    intro fu h1 h2
    obtain ⟨fu, rfl⟩ : ∃ q, fu = q + 1 := ⟨fu - 1, by omega⟩
    show f_X2_mostDaysUnseen_3 F _ _ _ _ _ _ _ _ = _
    unfold f_X2_mostDaysUnseen_3
    rw [if_pos (show nI 0 < (1 : Int32) from by decide)]
    rfl
  | succ d ih =>
    intro fu h1 h2
    obtain ⟨fu, rfl⟩ : ∃ q, fu = q + 1 := ⟨fu - 1, by omega⟩
    show f_X2_mostDaysUnseen_3 F _ _ _ _ _ _ _ _ = some (if b (d + 1) = 0 then topD b d else nI (d + 1))
    unfold f_X2_mostDaysUnseen_3
    rw [if_neg (show ¬ nI (d + 1) < (1 : Int32) from fun hh => by rw [show (1 : Int32) = nI 1 from rfl, nI_ltI (by omega) (by omega)] at hh; omega), hb (d + 1) (by omega) h1]
    have em : nI (d + 1) + (-1 : Int32) = nI d := by rw [← Int32.sub_eq_add_neg]; exact nI_pred d
    simp only [Option.bind_some]
    by_cases c : b (d + 1) = 0
    · rw [if_pos c, if_pos c, em]; exact ih fu (by omega) (by omega)
    · rw [if_neg c, if_neg c]
theorem s_top7 {F : Nat} {x1 x2 : Int32} {st : Nat → Int32} {b : Nat → Int32} (hb : ∀ d, 1 ≤ d → d ≤ 30 → f_X7_isSeldom F x1 x2 (nI d) st = some (b d)) : ∀ (k d fu : Nat), 30 = d + k → k < fu → f_X7_seldom_29_r F st fu x1 x2 (topD b d) (nI (d + 1)) = some (topD b 30) := by
  intro k
  induction k with
  | zero =>
    intro d fu h1 h2
    obtain ⟨fu, rfl⟩ : ∃ q, fu = q + 1 := ⟨fu - 1, by omega⟩
    show f_X7_seldom_29 F _ _ _ _ _ _ = _
    unfold f_X7_seldom_29
    rw [if_pos (show (30 : Int32) < nI (d + 1) from by rw [show d = 30 from by omega]; decide), show d = 30 from by omega]
  | succ k ih =>
    intro d fu h1 h2
    obtain ⟨fu, rfl⟩ : ∃ q, fu = q + 1 := ⟨fu - 1, by omega⟩
    rw [← ih (d + 1) fu (by omega) (by omega)]
    show f_X7_seldom_29 F _ _ _ _ _ _ = f_X7_seldom_29_r F st fu x1 x2 (if b (d + 1) = 0 then topD b d else nI (d + 1)) (nI (d + 1 + 1))
    unfold f_X7_seldom_29 f_X7_seldom_53
    rw [if_neg (show ¬ (30 : Int32) < nI (d + 1) from fun hh => by rw [show (30 : Int32) = nI 30 from rfl, nI_ltI (by omega) (by omega)] at hh; omega), hb (d + 1) (by omega) (by omega)]
    simp only [Option.bind_some, nI_s1]
    by_cases c : b (d + 1) = 0
    · rw [if_pos c, if_pos c]
    · rw [if_neg c, if_neg c]
theorem k_seldom (F : Nat) (hF : 100000 ≤ F) (x1 x2 : Int32) {A : Nat → Nat} {st kind was by_ price side is_ : Nat → Int32} {things may fee day : Int32} (hO : OkA A) (hC : RpC A things may fee day kind was by_ price side is_) (hM : RpM A st) :
    ∃ r, f_X6_seldom F x1 x2 things day kind was by_ = some r ∧ f_X7_seldom F x1 x2 st = some r := by
  obtain ⟨rfl, rfl, rfl, rfl, hc⟩ := hC
  have e2 := hM 2 (by omega) (by omega)
  have hn := hO.1
  unfold f_X6_seldom f_X7_seldom f_X2_mostDaysUnseen
  rcases thc x1 (A 2) hO.1 with ⟨g1, g2⟩ | ⟨t, ht, rfl, g1, g2⟩
  · rw [g1, g2 F st e2]
    exact ⟨_, rfl, rfl⟩
  rw [g1, g2 F st e2]
  rcases win x2 1 60 1 60 1 60 rfl rfl rfl rfl (by decide) (by decide) with ⟨e1, e2⟩ | ⟨m, -, hm, rfl, e1, e2⟩
  · rw [e1, e2]
    exact ⟨_, rfl, rfl⟩
  rw [e1, e2]
  have hw := (hc t ht).2.1
  have q11 := hM (11 + t) (by omega) (by omega)
  have hb11 := (hO.2.2.2.2 t ht).2.2.1
  have key : ∀ d, 1 ≤ d → d ≤ 30 → ∃ r : Int32, f_X2_isNeverOffByMore F (nI t) (nI m) (nI d) (nI (A 3)) kind was by_ = some r ∧ f_X7_isSeldom F (nI t) (nI m) (nI d) st = some r := by
    intro d hd1 hd30
    obtain ⟨r, -, h1, h2⟩ := s_sd1 (F := F) (m := m) hM hO.T ht hO.2.2.2.1 hd1 hd30 hm (hc t ht).1 hw (hc t ht).2.2.1 60 0 F F (A (11 + t)) (by omega) (by omega) (by omega) (by omega)
    rw [Nat.zero_mod] at h1
    refine ⟨r, ?_, ?_⟩
    · unfold f_X2_isNeverOffByMore
      simp (disch := omega) only [fl32, nI_add, pk_mul, pk_rem, nI_clamp, gdI, gdZ, gdB0, gdB1, nI_leI, nI_ltI, nI_eq, if_pos, if_neg, Option.bind_some, pk_us, pk_un, nn_eq, nn_le, nn_lt, nl_eq, if_true, if_false, eq_self, nl_le, hw]
      exact h1
    · unfold f_X7_isSeldom
      simp (disch := omega) only [fl32, nI_add, pk_mul, pk_rem, nI_clamp, gdI, gdZ, gdB0, gdB1, nI_leI, nI_ltI, nI_eq, if_pos, if_neg, Option.bind_some, pk_us, pk_un, nn_eq, nn_le, nn_lt, nl_eq, if_true, if_false, eq_self, nl_le, q11]
      exact h2
  have hb3 : ∀ d, 1 ≤ d → d ≤ 30 → f_X2_isNeverOffByMore F (nI t) (nI m) (nI d) (nI (A 3)) kind was by_ = some ((f_X7_isSeldom F (nI t) (nI m) (nI d) st).getD 0) := fun d h1 h2 => by
    obtain ⟨r, a, b⟩ := key d h1 h2
    rw [b, a]; rfl
  have hb7 : ∀ d, 1 ≤ d → d ≤ 30 → f_X7_isSeldom F (nI t) (nI m) (nI d) st = some ((f_X7_isSeldom F (nI t) (nI m) (nI d) st).getD 0) := fun d h1 h2 => by
    obtain ⟨r, a, b⟩ := key d h1 h2
    rw [b]; rfl
  have h3 := s_top3 (F := F) hb3 30 F (by omega) (by omega)
  have h7 := s_top7 (F := F) hb7 30 0 F (by omega) (by omega)
  have h3' : f_X2_mostDaysUnseen_3_r F (nI (A 3)) kind was by_ F (nI t) (nI m) 30 = _ := h3
  have h7' : f_X7_seldom_29_r F st F (nI t) (nI m) (-1000000) 1 = _ := h7
  simp only [Option.bind_some, if_neg one_ne, h3', h7']
  exact ⟨_, rfl, rfl⟩
