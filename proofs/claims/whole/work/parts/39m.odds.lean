/-! odds: both computations -/
theorem toQ {p : Nat} (hp : p ≤ 10) : ((10 : Int32) - nI p).toInt64 = lN (10 - p) := by rw [show (10 : Int32) = nI 10 from rfl, pk_sub hp, nI_l (by omega)]
theorem cw38 {F p n d : Nat} {k30 : (Nat → Int64) → Int32 → Int32 → Int32 → Option (Nat → Int64)} (hp : p ≤ 10) (hd : d + 1 ≤ 9) : ∀ (c fu : Nat) (ways : Nat → Int64), c ≤ d + 1 → c < fu → (∀ j, j < 10 → c < j → ways j = lN (WW p (10 - p) (d + 1) j)) → (∀ j, j ≤ c → ways j = lN (WW p (10 - p) d j)) → ∃ ways', (∀ j, j < 10 → ways' j = lN (WW p (10 - p) (d + 1) j)) ∧ f_X2_countWays_38_r F k30 fu ways (nI p) (nI n) (nI (d + 1)) (nI c) = k30 ways' (nI p) (nI n) (nI (d + 1 + 1)) := by
  intro c
  induction c with
  | zero =>
    intro fu ways h1 h2 h3 h4
    obtain ⟨fu, rfl⟩ : ∃ q, fu = q + 1 := ⟨fu - 1, by omega⟩
    refine ⟨vp_updL ways 0 (lN (WW p (10 - p) (d + 1) 0)), fun j hj => ?_, ?_⟩
    · by_cases e : j = 0
      · rw [e, ulS]
      · rw [ulN e]; exact h3 j hj (by omega)
    · show f_X2_countWays_38 F _ _ _ _ _ _ _ = _
      unfold f_X2_countWays_38
      have e0 : ways 0 * ((10 : Int32) - nI p).toInt64 = lN (WW p (10 - p) (d + 1) 0) := by
        rw [h4 0 (by omega), toQ hp, lN_mul]
        show lN _ = lN (WW p (10 - p) d 0 * (10 - p) + (if 0 = 0 then 0 else _))
        rw [if_pos rfl, Nat.add_zero]
      rw [if_pos (show nI 0 < (1 : Int32) from by decide), show (0 : Int32) = nI 0 from rfl, gdI (by omega) (by omega), gdI (by omega) (by omega), nI_clamp (by omega), e0, nI_s1]
  | succ c ih =>
    intro fu ways h1 h2 h3 h4
    obtain ⟨fu, rfl⟩ : ∃ q, fu = q + 1 := ⟨fu - 1, by omega⟩
    have e1 : ways (c + 1) * ((10 : Int32) - nI p).toInt64 + ways c * (nI p).toInt64 = lN (WW p (10 - p) (d + 1) (c + 1)) := by
      rw [h4 (c + 1) (by omega), h4 c (by omega), toQ hp, nI_l (by omega), lN_mul, lN_mul, lN_add]
      show lN _ = lN (WW p (10 - p) d (c + 1) * (10 - p) + (if c + 1 = 0 then 0 else WW p (10 - p) d (c + 1 - 1) * p))
      rw [if_neg (by omega), Nat.add_sub_cancel]
    obtain ⟨ways', g1, g2⟩ := ih fu (vp_updL ways (c + 1) (lN (WW p (10 - p) (d + 1) (c + 1)))) (by omega) (by omega) (fun j hj hc => by
      by_cases e : j = c + 1
      · rw [e, ulS]
      · rw [ulN e]; exact h3 j hj (by omega)) (fun j hj => by rw [ulN (by omega)]; exact h4 j (by omega))
    refine ⟨ways', g1, ?_⟩
    rw [← g2]
    show f_X2_countWays_38 F _ _ _ _ _ _ _ = _
    unfold f_X2_countWays_38
    have em : nI (c + 1) + (-1 : Int32) = nI c := by rw [← Int32.sub_eq_add_neg]; exact nI_pred c
    have em2 : nI (c + 1) - (1 : Int32) = nI c := nI_pred c
    rw [if_neg (show ¬ nI (c + 1) < (1 : Int32) from fun hh => by rw [show (1 : Int32) = nI 1 from rfl, nI_ltI (by omega) (by omega)] at hh; omega), em, em2, gdI (by omega) (by omega), gdI (by omega) (by omega), gdI (by omega) (by omega), nI_clamp (by omega), nI_clamp (by omega), e1]
theorem cw30 {F p n : Nat} (hF : 100000 ≤ F) (hp : p ≤ 10) (hn : n ≤ 9) : ∀ (k d fu : Nat) (ways : Nat → Int64), n = d + k → k < fu → (∀ j, j < 10 → ways j = lN (WW p (10 - p) d j)) → ∃ ways', (∀ j, j < 10 → ways' j = lN (WW p (10 - p) n j)) ∧ f_X2_countWays_30_r F fu ways (nI p) (nI n) (nI (d + 1)) = some ways' := by
  intro k
  induction k with
  | zero =>
    intro d fu ways h1 h2 h3
    obtain ⟨fu, rfl⟩ : ∃ q, fu = q + 1 := ⟨fu - 1, by omega⟩
    refine ⟨ways, fun j hj => by rw [h3 j hj, show d = n from by omega], ?_⟩
    show f_X2_countWays_30 F _ _ _ _ _ = _
    unfold f_X2_countWays_30
    rw [if_pos (show nI n < nI (d + 1) from by rw [nI_ltI (by omega) (by omega)]; omega)]
  | succ k ih =>
    intro d fu ways h1 h2 h3
    obtain ⟨fu, rfl⟩ : ∃ q, fu = q + 1 := ⟨fu - 1, by omega⟩
    obtain ⟨w1, g1, g2⟩ := cw38 (F := F) (n := n) (d := d) (k30 := f_X2_countWays_30_r F fu) hp (by omega) (d + 1) F ways (by omega) (by omega) (fun j hj hc => by rw [h3 j hj, WW_z p (10 - p) d j (by omega), WW_z p (10 - p) (d + 1) j (by omega)]) (fun j hj => h3 j (by omega))
    obtain ⟨w2, g3, g4⟩ := ih (d + 1) fu w1 (by omega) (by omega) g1
    refine ⟨w2, g3, ?_⟩
    show f_X2_countWays_30 F _ _ _ _ _ = _
    unfold f_X2_countWays_30
    rw [if_neg (show ¬ nI n < nI (d + 1) from by rw [nI_ltI (by omega) (by omega)]; omega), g2]
    exact g4
theorem cw2 {F p n : Nat} (hF : 100000 ≤ F) (hp : p ≤ 10) (hn : n ≤ 9) : ∀ (k t fu : Nat) (ways : Nat → Int64), 10 = t + k → k < fu → (∀ j, j < t → ways j = 0) → ∃ ways', (∀ j, j < 10 → ways' j = lN (WW p (10 - p) n j)) ∧ f_X2_countWays_2_r F fu ways (nI p) (nI n) (nI t) = some ways' := by
  intro k
  induction k with
  | zero =>
    intro t fu ways h1 h2 h3
    obtain ⟨fu, rfl⟩ : ∃ q, fu = q + 1 := ⟨fu - 1, by omega⟩
    obtain ⟨w1, g1, g2⟩ := cw30 (F := F) hF hp hn n 0 F (vp_updL ways 0 1) (by omega) (by omega) (fun j hj => by
      by_cases e : j = 0
      · rw [e, ulS]; rfl
      · rw [ulN e, h3 j (by omega)]
        show (0 : Int64) = lN (if j = 0 then 1 else 0)
        rw [if_neg e]; rfl)
    refine ⟨w1, g1, ?_⟩
    show f_X2_countWays_2 F _ _ _ _ _ = _
    unfold f_X2_countWays_2
    rw [if_pos (show (9 : Int32) < nI t from by rw [show t = 10 from by omega]; decide)]
    exact g2
  | succ k ih =>
    intro t fu ways h1 h2 h3
    obtain ⟨fu, rfl⟩ : ∃ q, fu = q + 1 := ⟨fu - 1, by omega⟩
    obtain ⟨w1, g1, g2⟩ := ih (t + 1) fu (vp_updL ways t 0) (by omega) (by omega) (fun j hj => by
      by_cases e : j = t
      · rw [e, ulS]
      · rw [ulN e]; exact h3 j (by omega))
    refine ⟨w1, g1, ?_⟩
    show f_X2_countWays_2 F _ _ _ _ _ = _
    unfold f_X2_countWays_2
    rw [if_neg (show ¬ (9 : Int32) < nI t from fun hh => by rw [show (9 : Int32) = nI 9 from rfl, nI_ltI (by omega) (by omega)] at hh; omega), gdI (by omega) (by omega), nI_clamp (by omega), nI_s1]
    exact g2
def vv (k b i : Nat) : Nat → Nat
  | 0 => i
  | c + 1 => dN k b (vv k b i c) 0
theorem vv_le {k b i : Nat} (hi : i ≤ 99) : ∀ c, vv k b i c ≤ 99
  | 0 => hi
  | c + 1 => dN_le (vv_le hi c)
theorem dN_d {k b i d : Nat} (hk : k = 1 ∨ k = 2) : dN k b i d = dN k b i 0 := by
  unfold dN
  rcases hk with rfl | rfl
  · rw [if_pos rfl, if_pos rfl]
  · rw [if_neg (by omega), if_pos rfl, if_neg (by omega), if_pos rfl]
/-- whether a thing is alike after c changes -/
def aN (A : Nat → Nat) (t c : Nat) : Nat := if A 0 < df (vv (A (5 + t)) (A (17 + t)) (A (35 + t)) c) (A (11 + t)) then 0 else 1
theorem fr26 {F p n t y : Nat} {A : Nat → Nat} {kind was by_ lis : Nat → Int32} {ways : Nat → Int64} (hn9 : n ≤ 9) (hO : OkA A) (ht : t < A 2) (hk12 : A (5 + t) = 1 ∨ A (5 + t) = 2) (hk : kind t = nI (A (5 + t))) (hw : was t = nI (A (11 + t))) (hb : by_ t = nI (A (17 + t))) (hways : ∀ j, j < 10 → ways j = lN (WW p (10 - p) n j)) : ∀ (k c fu : Nat), n + 1 = c + k → k < fu → f_X2_fractionAlike_26_r F (nI (A 0)) (nI (A 3)) kind was by_ lis fu ways (nI t) (nI n) (nI y) (lN (sumN (fun c => WW p (10 - p) n c * aN A t c) c)) (lN (sumN (WW p (10 - p) n) c)) (nI (vv (A (5 + t)) (A (17 + t)) (A (35 + t)) c)) (nI c) = (f_X2_greatestDivisor F (lN (sumN (fun c => WW p (10 - p) n c * aN A t c) (n + 1))) (lN (sumN (WW p (10 - p) n) (n + 1)))).bind fun u2 => if (lg_cmp (u2) (0 : Int64)) = (0 : Int32) then (some ((-1000000 : Int64), ways)) else (if nI y = (0 : Int32) then (gd (nzl (u2)) (some ((lN (sumN (fun c => WW p (10 - p) n c * aN A t c) (n + 1)) / (u2)), ways))) else (gd (nzl (u2)) (some ((lN (sumN (WW p (10 - p) n) (n + 1)) / (u2)), ways)))) := by
  have h26 := hO.1
  have hm := hO.2.1
  obtain ⟨b1, b2, b3, b4, b5, b6, b7, b8, b9⟩ := hO.2.2.2.2 t ht
  have hd3 := hO.2.2.2.1
  intro k
  induction k with
  | zero =>
    intro c fu h1 h2
    obtain ⟨fu, rfl⟩ : ∃ q, fu = q + 1 := ⟨fu - 1, by omega⟩
    have e : c = n + 1 := by omega
    subst e
    show f_X2_fractionAlike_26 F _ _ _ _ _ _ _ _ _ _ _ _ _ _ _ = _
    unfold f_X2_fractionAlike_26
    rw [if_pos (show nI n < nI (n + 1) from by rw [nI_ltI (by omega) (by omega)]; omega)]
  | succ k ih =>
    intro c fu h1 h2
    obtain ⟨fu, rfl⟩ : ∃ q, fu = q + 1 := ⟨fu - 1, by omega⟩
    have hv := vv_le (k := A (5 + t)) (b := A (17 + t)) b9 c
    have q3 := s_dayOn (F := F) (i := vv (A (5 + t)) (A (17 + t)) (A (35 + t)) c) (d := A 3) (show t < 6 by omega) hk hb b1 b2 b4 b5 hv (by omega)
    rw [dN_d hk12] at q3
    have ho := s_offIf (F := F) (a := vv (A (5 + t)) (A (17 + t)) (A (35 + t)) c) (show t < 6 by omega) hw (by omega) (by omega)
    have hlt : df (vv (A (5 + t)) (A (17 + t)) (A (35 + t)) c) (A (11 + t)) < 200000 := by unfold df; omega
    rw [← ih (c + 1) fu (by omega) (by omega)]
    show f_X2_fractionAlike_26 F _ _ _ _ _ _ _ _ _ _ _ _ _ _ _ = f_X2_fractionAlike_26_r F (nI (A 0)) (nI (A 3)) kind was by_ lis fu ways (nI t) (nI n) (nI y) (lN (sumN (fun c => WW p (10 - p) n c * aN A t c) c + WW p (10 - p) n c * aN A t c)) (lN (sumN (WW p (10 - p) n) c + WW p (10 - p) n c)) (nI (dN (A (5 + t)) (A (17 + t)) (vv (A (5 + t)) (A (17 + t)) (A (35 + t)) c) 0)) (nI (c + 1))
    unfold f_X2_fractionAlike_26 f_X2_fractionAlike_77
    rw [if_neg (show ¬ nI n < nI c from by rw [nI_ltI (by omega) (by omega)]; omega), gdI (by omega) (by omega), ho, Option.bind_some, nI_clamp (by omega), hways c (by omega), q3, lN_add, nI_s1]
    unfold aN
    by_cases cc : A 0 < df (vv (A (5 + t)) (A (17 + t)) (A (35 + t)) c) (A (11 + t))
    · rw [if_pos (show nI (A 0) < nI _ from (nI_ltI (by omega) (by omega)).mpr cc), if_pos cc, Nat.mul_zero, Option.bind_some, Int64.add_zero]
      rfl
    · rw [if_neg (show ¬ nI (A 0) < nI _ from fun e => cc ((nI_ltI (by omega) (by omega)).mp e)), if_neg cc, Nat.mul_one, Option.bind_some, gdI (by omega) (by omega), lN_add]
theorem shl1 {n : Nat} (hn : n ≤ 9) : (1 : Int32) <<< (nI n &&& 31) = nI (2 ^ n) := by
  rcases (show n = 0 ∨ n = 1 ∨ n = 2 ∨ n = 3 ∨ n = 4 ∨ n = 5 ∨ n = 6 ∨ n = 7 ∨ n = 8 ∨ n = 9 by omega) with rfl | rfl | rfl | rfl | rfl | rfl | rfl | rfl | rfl | rfl <;> decide
theorem smb {b : Nat} (hb : b ≤ 9) : ((nI b &&& 31).toBitVec.smod 32).toNat = b := by
  rcases (show b = 0 ∨ b = 1 ∨ b = 2 ∨ b = 3 ∨ b = 4 ∨ b = 5 ∨ b = 6 ∨ b = 7 ∨ b = 8 ∨ b = 9 by omega) with rfl | rfl | rfl | rfl | rfl | rfl | rfl | rfl | rfl | rfl <;> decide
theorem has7 {F x b : Nat} (hx : x < 1000000) (hb : b ≤ 9) : f_X7_has F (nI x) (nI b) = some (if bt b x = 1 then 1 else 0) := by
  unfold f_X7_has
  have hq : x / 2 ^ b ≤ x := Nat.div_le_self _ _
  rw [pk_shrN (by omega) _ b (smb hb), pk_andN (by omega) (m := 1) 1 (by decide), Nat.pow_one]
  show (if nI (bt b x) = 1 then _ else _) = _
  have hbt : bt b x < 2 := Nat.mod_lt _ (by omega)
  by_cases c : bt b x = 1
  · rw [c, if_pos rfl, if_pos (show nI 1 = (1 : Int32) from rfl)]
  · rw [show bt b x = 0 from by omega, if_neg (show ¬ nI 0 = (1 : Int32) from by decide), if_neg (show ¬ (0 : Nat) = 1 from by omega)]
/-- one case, day by day -/
theorem od120 {F p n t x : Nat} {A : Nat → Nat} {st : Nat → Int32} {k95 : Int32 → Int32 → Int32 → Int32 → Int64 → Int64 → Int32 → Option Int64} {x4 : Int32} {x5 x7 : Int64} (hp : p ≤ 10) (hn9 : n ≤ 9) (hx : x < 100000) (hO : OkA A) (ht : t < A 2) (hk12 : A (5 + t) = 1 ∨ A (5 + t) = 2) (hM : RpM A st) : ∀ (k b fu : Nat), n = b + k → k < fu → f_X7_odds_120_r F st k95 fu (nI t) (nI p) (nI n) x4 x5 x7 (nI x) (lN (wt p (10 - p) b x)) (nI (vv (A (5 + t)) (A (17 + t)) (A (35 + t)) (pp b x))) (nI b) = k95 (nI t) (nI p) (nI n) x4 (x5 + lN (wt p (10 - p) n x * aN A t (pp n x))) x7 (nI (x + 1)) := by
  have h26 := hO.1
  have hm := hO.2.1
  obtain ⟨b1, b2, b3, b4, b5, b6, b7, b8, b9⟩ := hO.2.2.2.2 t ht
  have hd3 := hO.2.2.2.1
  have e0 := hM 0 (by omega) (by omega)
  have e3 := hM 3 (by omega) (by omega)
  intro k
  induction k with
  | zero =>
    intro b fu h1 h2
    obtain ⟨fu, rfl⟩ : ∃ q, fu = q + 1 := ⟨fu - 1, by omega⟩
    have e : b = n := by omega
    subst e
    have hv := vv_le (k := A (5 + t)) (b := A (17 + t)) b9 (pp b x)
    have ho := s_differ (F := F) (a := vv (A (5 + t)) (A (17 + t)) (A (35 + t)) (pp b x)) hM (show t < 6 by omega) (by omega) (by omega)
    have hlt : df (vv (A (5 + t)) (A (17 + t)) (A (35 + t)) (pp b x)) (A (11 + t)) < 200000 := by unfold df; omega
    show f_X7_odds_120 F _ _ _ _ _ _ _ _ _ _ _ _ _ = _
    unfold f_X7_odds_120 f_X7_odds_214
    rw [if_pos (show nI b ≤ nI b from by rw [nI_leI (by omega) (by omega)]; omega), ho, Option.bind_some, show (0 : Int32) = nI 0 from rfl, gdI (by omega) (by omega), nI_clamp (by omega), e0, nI_s1]
    unfold aN
    by_cases cc : A 0 < df (vv (A (5 + t)) (A (17 + t)) (A (35 + t)) (pp b x)) (A (11 + t))
    · rw [if_pos (show nI (A 0) < nI _ from (nI_ltI (by omega) (by omega)).mpr cc), if_pos cc, Nat.mul_zero]
      rfl
    · rw [if_neg (show ¬ nI (A 0) < nI _ from fun e => cc ((nI_ltI (by omega) (by omega)).mp e)), if_neg cc, Nat.mul_one]
  | succ k ih =>
    intro b fu h1 h2
    obtain ⟨fu, rfl⟩ : ∃ q, fu = q + 1 := ⟨fu - 1, by omega⟩
    have hv := vv_le (k := A (5 + t)) (b := A (17 + t)) b9 (pp b x)
    have q7 := s_changed (F := F) (i := vv (A (5 + t)) (A (17 + t)) (A (35 + t)) (pp b x)) (d := A 3 + b) hM (show t < 6 by omega) b1 b2 b4 b5 hv (by omega)
    rw [dN_d hk12] at q7
    have hh := has7 (F := F) (x := x) (b := b) (by omega) (by omega)
    have hbt : bt b x < 2 := Nat.mod_lt _ (by omega)
    rw [← ih (b + 1) fu (by omega) (by omega)]
    show f_X7_odds_120 F _ _ _ _ _ _ _ _ _ _ _ _ _ = f_X7_odds_120_r F st k95 fu (nI t) (nI p) (nI n) x4 x5 x7 (nI x) (lN (wt p (10 - p) b x * (if bt b x = 1 then p else 10 - p))) (nI (vv (A (5 + t)) (A (17 + t)) (A (35 + t)) (pp b x + bt b x))) (nI (b + 1))
    unfold f_X7_odds_120 f_X7_odds_148 f_X7_odds_182
    rw [if_neg (show ¬ nI n ≤ nI b from by rw [nI_leI (by omega) (by omega)]; omega), hh]
    simp only [Option.bind_some, nI_s1]
    by_cases c : bt b x = 1
    · have e3' : st (3 : Int32).toNatClampNeg + nI b = nI (A 3 + b) := by
        show st 3 + nI b = _
        rw [e3, nI_add]
      simp only [if_pos c]
      rw [if_neg one_ne, if_neg one_ne, show gd (inb (3 : Int32) 41) = fun (y : Option Int64) => y from funext (fun y => gdI (k := 3) (by omega) (by omega)), e3', q7, Option.bind_some, nI_l (by omega), lN_mul, c]
      rfl
    · simp only [if_neg c, if_true]
      rw [toQ hp, lN_mul, show bt b x = 0 from by omega]
      rfl
theorem od95 {F p n t y : Nat} (hF : 100000 ≤ F) {A : Nat → Nat} {st : Nat → Int32} {x7 : Int64} (hp : p ≤ 10) (hn9 : n ≤ 9) (hO : OkA A) (ht : t < A 2) (hk12 : A (5 + t) = 1 ∨ A (5 + t) = 2) (hM : RpM A st) : ∀ (k x fu : Nat), 2 ^ n = x + k → k < fu → f_X7_odds_95_r F st fu (nI t) (nI p) (nI n) (nI y) (lN (sumN (fun x => wt p (10 - p) n x * aN A t (pp n x)) x)) x7 (nI x) = f_X7_odds_231_r F st F (nI y) (lN (TT p (10 - p) (aN A t) n)) x7 (lN (TT p (10 - p) (aN A t) n)) x7 := by
  have h26 := hO.1
  have q35 := hM (35 + t) (by omega) (by omega)
  have h512 : 2 ^ n ≤ 512 := Nat.le_trans (Nat.pow_le_pow_right (by omega) hn9) (by decide)
  intro k
  induction k with
  | zero =>
    intro x fu h1 h2
    obtain ⟨fu, rfl⟩ : ∃ q, fu = q + 1 := ⟨fu - 1, by omega⟩
    show f_X7_odds_95 F _ _ _ _ _ _ _ _ _ = _
    unfold f_X7_odds_95
    rw [shl1 hn9, if_pos (show nI (2 ^ n) ≤ nI x from by rw [nI_leI (by omega) (by omega)]; omega)]
    unfold TT
    rw [show x = 2 ^ n from by omega]
  | succ k ih =>
    intro x fu h1 h2
    obtain ⟨fu, rfl⟩ : ∃ q, fu = q + 1 := ⟨fu - 1, by omega⟩
    have g := od120 (F := F) (k95 := f_X7_odds_95_r F st fu) (x4 := nI y) (x5 := lN (sumN (fun x => wt p (10 - p) n x * aN A t (pp n x)) x)) (x7 := x7) hp hn9 (show x < 100000 by omega) hO ht hk12 hM n 0 F (by omega) (by omega)
    have g' : f_X7_odds_120_r F st (f_X7_odds_95_r F st fu) F (nI t) (nI p) (nI n) (nI y) (lN (sumN (fun x => wt p (10 - p) n x * aN A t (pp n x)) x)) x7 (nI x) 1 (nI (A (35 + t))) 0 = _ := g
    rw [← ih (x + 1) fu (by omega) (by omega)]
    show f_X7_odds_95 F _ _ _ _ _ _ _ _ _ = _
    unfold f_X7_odds_95
    rw [shl1 hn9, if_neg (show ¬ nI (2 ^ n) ≤ nI x from by rw [nI_leI (by omega) (by omega)]; omega), show (35 : Int32) + nI t = nI (35 + t) from nI_add 35 t, gdI (by omega) (by omega), nI_clamp (by omega), q35, g', lN_add]
    rfl
theorem od72 {F p n t y : Nat} (hF : 100000 ≤ F) {st : Nat → Int32} (hn9 : n ≤ 9) : ∀ (k d fu : Nat), n = d + k → k < fu → f_X7_odds_72_r F st fu (nI t) (nI p) (nI n) (nI y) 0 (lN (10 ^ d)) (nI d) = f_X7_odds_95_r F st F (nI t) (nI p) (nI n) (nI y) 0 (lN (10 ^ n)) 0 := by
  intro k
  induction k with
  | zero =>
    intro d fu h1 h2
    obtain ⟨fu, rfl⟩ : ∃ q, fu = q + 1 := ⟨fu - 1, by omega⟩
    show f_X7_odds_72 F _ _ _ _ _ _ _ _ _ = _
    unfold f_X7_odds_72
    rw [if_pos (show nI n ≤ nI d from by rw [nI_leI (by omega) (by omega)]; omega), show d = n from by omega]
  | succ k ih =>
    intro d fu h1 h2
    obtain ⟨fu, rfl⟩ : ∃ q, fu = q + 1 := ⟨fu - 1, by omega⟩
    rw [← ih (d + 1) fu (by omega) (by omega)]
    show f_X7_odds_72 F _ _ _ _ _ _ _ _ _ = _
    unfold f_X7_odds_72
    rw [if_neg (show ¬ nI n ≤ nI d from by rw [nI_leI (by omega) (by omega)]; omega), show (10 : Int64) = lN 10 from rfl, lN_mul, nI_s1, Nat.pow_succ]
theorem aN_le {A : Nat → Nat} {t c : Nat} : aN A t c ≤ 1 := by unfold aN; split <;> omega
theorem TT_le {p q n : Nat} {a b : Nat → Nat} (h : ∀ c, a c ≤ b c) : TT p q a n ≤ TT p q b n := by
  unfold TT
  generalize 2 ^ n = m
  induction m with
  | zero => exact Nat.le_refl _
  | succ m ih =>
    show sumN (fun x => wt p q n x * a (pp n x)) m + wt p q n m * a (pp n m) ≤ sumN (fun x => wt p q n x * b (pp n x)) m + wt p q n m * b (pp n m)
    exact Nat.add_le_add ih (Nat.mul_le_mul_left _ (h _))
theorem k_odds (F : Nat) (hF : 100000 ≤ F) (x1 x2 x3 x4 : Int32) {A : Nat → Nat} {st kind was by_ price side is_ : Nat → Int32} {things may fee day : Int32} (ways : Nat → Int64) (hO : OkA A) (hC : RpC A things may fee day kind was by_ price side is_) (hM : RpM A st) :
    ∃ r w', f_X6_odds F x1 x2 x3 x4 things may day kind was by_ is_ ways = some (r, w') ∧ f_X7_odds F x1 x2 x3 x4 st = some r := by
  obtain ⟨rfl, rfl, rfl, rfl, hc⟩ := hC
  have e2 := hM 2 (by omega) (by omega)
  have hn6 := hO.1
  unfold f_X6_odds f_X7_odds f_X6_odds_75 f_X6_odds_93 f_X2_fractionAlike
  rcases thc x1 (A 2) hO.1 with ⟨g1, g2⟩ | ⟨t, ht, rfl, g1, g2⟩
  · rw [g1, g2 F st e2]
    exact ⟨_, _, rfl, rfl⟩
  rw [g1, g2 F st e2]
  rcases win x2 0 10 0 10 0 10 rfl rfl rfl rfl (by decide) (by decide) with ⟨e1, e2⟩ | ⟨p, -, hp, rfl, e1, e2⟩
  · rw [e1, e2]
    exact ⟨_, _, rfl, rfl⟩
  rw [e1, e2]
  rcases win x3 0 9 0 9 0 9 rfl rfl rfl rfl (by decide) (by decide) with ⟨e3, e4⟩ | ⟨n, -, hn9, rfl, e3, e4⟩
  · rw [e3, e4]
    exact ⟨_, _, rfl, rfl⟩
  rw [e3, e4]
  rcases win x4 0 1 0 1 0 1 rfl rfl rfl rfl (by decide) (by decide) with ⟨e5, e6⟩ | ⟨y, -, hy, rfl, e5, e6⟩
  · rw [e5, e6]
    exact ⟨_, _, rfl, rfl⟩
  rw [e5, e6]
  obtain ⟨b1, b2, b3, b4, b5, b6, b7, b8, b9⟩ := hO.2.2.2.2 t ht
  obtain ⟨c1, c2, c3, c4, c5, c6⟩ := hc t ht
  have q5 := hM (5 + t) (by omega) (by omega)
  simp only [Option.bind_some, if_neg one_ne]
  have g6 : ∀ {α : Type} (x : Option α), gd (inb (nI t) 6) x = x := fun x => gdI (by omega) (by omega)
  have g5 : gd (inb ((5 : Int32) + nI t) 41) = fun (x : Option Int64) => x := funext (fun x => by rw [show (5 : Int32) + nI t = nI (5 + t) from nI_add 5 t]; exact gdI (by omega) (by omega))
  have s5 : st ((5 : Int32) + nI t).toNatClampNeg = nI (A (5 + t)) := by rw [show (5 : Int32) + nI t = nI (5 + t) from nI_add 5 t, nI_clamp (by omega)]; exact q5
  simp only [g6, nI_clamp (show t < 2147483648 by omega), c1, c6]
  rw [g5, s5]
  by_cases ck : A (5 + t) = 1 ∨ A (5 + t) = 2
  case neg =>
    rw [if_neg (show ¬ nI (A (5 + t)) = (1 : Int32) from fun e => ck (Or.inl ((nI_eq (b := 1) (by omega) (by omega)).mp e))), if_neg (show ¬ nI (A (5 + t)) = (2 : Int32) from fun e => ck (Or.inr ((nI_eq (b := 2) (by omega) (by omega)).mp e)))]
    show ∃ r w', _ ∧ (if nI (A (5 + t)) ≤ 2 then _ else _) = _
    rw [if_neg (show ¬ nI (A (5 + t)) ≤ (2 : Int32) from fun e => by rw [show (2 : Int32) = nI 2 from rfl, nI_leI (by omega) (by omega)] at e; omega)]
    exact ⟨_, _, rfl, rfl⟩
  obtain ⟨w1, hw1, hw2⟩ := cw2 (F := F) (p := p) (n := n) hF hp hn9 10 0 F ways (by omega) (by omega) (fun j hj => by omega)
  have hcw : f_X2_countWays F (nI p) (nI n) ways = some w1 := hw2
  have hfr := fr26 (F := F) (p := p) (y := y) (lis := is_) hn9 hO ht ck c1 c2 c3 hw1 (n + 1) 0 F (by omega) (by omega)
  have hfr' : f_X2_fractionAlike_26_r F (nI (A 0)) (nI (A 3)) kind was by_ is_ F w1 (nI t) (nI n) (nI y) 0 0 (nI (A (35 + t))) 0 = _ := hfr
  have hsum1 : sumN (fun c => WW p (10 - p) n c * aN A t c) (n + 1) = TT p (10 - p) (aN A t) n := (TT_W p (10 - p) n (aN A t)).symm
  have hsum2 : sumN (WW p (10 - p) n) (n + 1) = 10 ^ n := by
    rw [← TT_1 p (10 - p) (by omega) n, TT_W]
    exact sumN_congr _ (fun c _ => (Nat.mul_one _).symm)
  rw [hsum1, hsum2] at hfr'
  have hle : TT p (10 - p) (aN A t) n ≤ 10 ^ n := by
    rw [← TT_1 p (10 - p) (by omega) n]
    exact TT_le (fun c => aN_le)
  have h10 : 10 ^ n ≤ 1000000000 := Nat.le_trans (Nat.pow_le_pow_right (by omega) hn9) (by decide)
  have h10p : 0 < 10 ^ n := Nat.pow_pos (by omega)
  have hm := od72 (F := F) (p := p) (t := t) (y := y) hF (st := st) hn9 n 0 F (by omega) (by omega)
  have hm' : f_X7_odds_72_r F st F (nI t) (nI p) (nI n) (nI y) 0 1 0 = _ := hm
  have h512 : 2 ^ n ≤ 512 := Nat.le_trans (Nat.pow_le_pow_right (by omega) hn9) (by decide)
  have hm2 := od95 (F := F) (p := p) (y := y) (x7 := lN (10 ^ n)) hF hp hn9 hO ht ck hM (2 ^ n) 0 F (by omega) (by omega)
  have hm2' : f_X7_odds_95_r F st F (nI t) (nI p) (nI n) (nI y) 0 (lN (10 ^ n)) 0 = _ := hm2
  generalize TT p (10 - p) (aN A t) n = T at hfr' hle hm2'
  generalize 10 ^ n = N at hfr' hle h10 h10p hm' hm2'
  obtain ⟨F2, hF2⟩ : ∃ q, F = q + 1 := ⟨F - 1, by omega⟩
  have key : ∃ d, 0 < d ∧ d ≤ N ∧ f_X2_greatestDivisor F (lN T) (lN N) = some (lN d) ∧ f_X7_odds_231_r F st F (nI y) (lN T) (lN N) (lN T) (lN N) = (if nI y = 0 then some (lN T / lN d) else some (lN N / lN d)) := by
    have hN0 : ¬ lN N = (0 : Int64) := fun e => by rw [lN_ne (by omega)] at e; omega
    have hfirst : f_X7_odds_231_r F st F (nI y) (lN T) (lN N) (lN T) (lN N) = f_X7_odds_231_r F st F2 (nI y) (lN T) (lN N) (lN N) (lN (T % N)) := by
      have g : f_X7_odds_231_r F st (F2 + 1) (nI y) (lN T) (lN N) (lN T) (lN N) = f_X7_odds_231_r F st F2 (nI y) (lN T) (lN N) (lN N) (lN (T % N)) := by
        show f_X7_odds_231 F _ _ _ _ _ _ _ = _
        unfold f_X7_odds_231
        rw [if_neg (show ¬ lg_cmp (lN N) 0 = (0 : Int32) from by rw [jc_eq]; exact hN0), gdL2 h10p (by omega), lN_rem (by omega) (by omega)]
      rw [← g, ← hF2]
    rw [hfirst]
    unfold f_X2_greatestDivisor
    by_cases c : T = N
    · subst c
      obtain ⟨d, d1, d2, d3, d4⟩ := eu (F := F) (x4 := nI y) (x5 := lN T) (x7 := lN T) (st := st) 0 T 0 1 F2 F2 h10p (by omega) h10p (by decide) (by omega) (by omega) (by omega)
      rw [Nat.mod_self]
      refine ⟨d, d1, d2, ?_, d4⟩
      rw [← d3]
      have g : f_X2_greatestDivisor_9_r F (F2 + 1) (lN T) (lN T) 0 = f_X2_greatestDivisor_9_r F F2 (lN T) (lN 0) (nI 1) := by
        show f_X2_greatestDivisor_9 F _ _ _ _ = _
        unfold f_X2_greatestDivisor_9
        rw [if_neg (show ¬ (1000 : Int32) ≤ 0 from by decide), if_neg (show ¬ lg_cmp (lN T) 0 = (0 : Int32) from by rw [jc_eq]; exact hN0), gdL2 h10p (by omega), lN_rem (by omega) (by omega), Nat.mod_self]
        rfl
      rw [← g, ← hF2]
    · have hlt : T < N := by omega
      rw [Nat.mod_eq_of_lt hlt]
      obtain ⟨d, d1, d2, d3, d4⟩ := eu (F := F) (x4 := nI y) (x5 := lN T) (x7 := lN N) (st := st) 30 N T 0 F F2 h10p (by omega) hlt (Nat.lt_of_lt_of_le hlt (Nat.le_trans h10 (by decide))) (by omega) (by omega) (by omega)
      exact ⟨d, d1, d2, d3, d4⟩
  obtain ⟨d, d1, d2, d3, d4⟩ := key
  have hcl : f_X2_fractionAlike_26_r F (nI (A 0)) (nI (A 3)) kind was by_ is_ F w1 (nI t) (nI n) (nI y) 0 0 (nI (A (35 + t))) 0 = (if nI y = 0 then some (lN T / lN d, w1) else some (lN N / lN d, w1)) := by
    rw [hfr', d3, Option.bind_some, if_neg (show ¬ lg_cmp (lN d) 0 = (0 : Int32) from by rw [jc_eq, lN_ne (by omega)]; omega), gdL2 d1 (by omega), gdL2 d1 (by omega)]
  have hmo : f_X7_odds_72_r F st F (nI t) (nI p) (nI n) (nI y) 0 1 0 = (if nI y = 0 then some (lN T / lN d) else some (lN N / lN d)) := by rw [hm', hm2', d4]
  have hle2 : nI (A (5 + t)) ≤ (2 : Int32) := by rw [show (2 : Int32) = nI 2 from rfl, nI_leI (by omega) (by omega)]; omega
  have hconv : ∀ {β : Type} (f : Int32 → β), (if nI y = (1 : Int32) then f 1 else f 0) = f (nI y) := fun f => by
    rcases (show y = 0 ∨ y = 1 by omega) with rfl | rfl
    · rw [if_neg (by decide)]; rfl
    · rw [if_pos (by decide)]; rfl
  rw [hcw]
  simp only [Option.bind_some]
  show ∃ r w', _ ∧ (if nI (A (5 + t)) ≤ 2 then _ else _) = _
  rw [if_pos hle2, hmo]
  have hcv := hconv (fun yy => (f_X2_fractionAlike_26_r F (nI (A 0)) (nI (A 3)) kind was by_ is_ F w1 (nI t) (nI n) yy 0 0 (nI (A (35 + t))) 0).bind fun u1 => some (u1.1, u1.2))
  rcases ck with ck | ck
  · rw [if_pos (show nI (A (5 + t)) = (1 : Int32) from by rw [ck]; rfl), hcv, hcl]
    by_cases cy : nI y = 0
    · rw [if_pos cy, if_pos cy]; exact ⟨_, _, rfl, rfl⟩
    · rw [if_neg cy, if_neg cy]; exact ⟨_, _, rfl, rfl⟩
  · rw [if_neg (show ¬ nI (A (5 + t)) = (1 : Int32) from by rw [ck]; decide), if_pos (show nI (A (5 + t)) = (2 : Int32) from by rw [ck]; rfl), hcv, hcl]
    by_cases cy : nI y = 0
    · rw [if_pos cy, if_pos cy]; exact ⟨_, _, rfl, rfl⟩
    · rw [if_neg cy, if_neg cy]; exact ⟨_, _, rfl, rfl⟩
