/-! odds: rows of ways against all cases one by one -/
theorem ulS {f : Nat → Int64} {k : Nat} {x : Int64} : vp_updL f k x k = x := if_pos rfl
theorem ulN {f : Nat → Int64} {k j : Nat} {x : Int64} (h : j ≠ k) : vp_updL f k x j = f j := if_neg h
theorem sumN_add (f : Nat → Nat) (m : Nat) : ∀ k, sumN f (m + k) = sumN f m + sumN (fun x => f (m + x)) k
  | 0 => rfl
  | k + 1 => by
    show sumN f (m + k) + f (m + k) = sumN f m + (sumN (fun x => f (m + x)) k + f (m + k))
    rw [sumN_add f m k]; omega
theorem sumN_plus (f g : Nat → Nat) : ∀ n, sumN (fun x => f x + g x) n = sumN f n + sumN g n
  | 0 => rfl
  | n + 1 => by
    show sumN (fun x => f x + g x) n + (f n + g n) = (sumN f n + f n) + (sumN g n + g n)
    rw [sumN_plus f g n]; omega
theorem sumN_mul (f : Nat → Nat) (c : Nat) : ∀ n, sumN (fun x => f x * c) n = sumN f n * c
  | 0 => by show 0 = 0 * c; rw [Nat.zero_mul]
  | n + 1 => by
    show sumN (fun x => f x * c) n + f n * c = (sumN f n + f n) * c
    rw [sumN_mul f c n, Nat.add_mul]
theorem sumN_s (f : Nat → Nat) : ∀ n, sumN f (n + 1) = f 0 + sumN (fun x => f (x + 1)) n
  | 0 => by show 0 + f 0 = f 0 + 0; omega
  | n + 1 => by
    show sumN f (n + 1) + f (n + 1) = f 0 + (sumN (fun x => f (x + 1)) n + f (n + 1))
    rw [sumN_s f n]; omega
section ODDS
variable (p q : Nat)
def WW : Nat → Nat → Nat
  | 0, c => if c = 0 then 1 else 0
  | n + 1, c => WW n c * q + (if c = 0 then 0 else WW n (c - 1) * p)
theorem WW_z : ∀ n c, n < c → WW p q n c = 0
  | 0, c, h => if_neg (by omega)
  | n + 1, c, h => by
    show WW p q n c * q + (if c = 0 then 0 else WW p q n (c - 1) * p) = 0
    rw [WW_z n c (by omega), if_neg (by omega), WW_z n (c - 1) (by omega), Nat.zero_mul, Nat.zero_mul]
def bt (b x : Nat) : Nat := x / 2 ^ b % 2
def pp : Nat → Nat → Nat
  | 0, _ => 0
  | b + 1, x => pp b x + bt b x
def wt : Nat → Nat → Nat
  | 0, _ => 1
  | b + 1, x => wt b x * (if bt b x = 1 then p else q)
theorem bt_hi {n b x : Nat} (hb : b < n) : bt b (2 ^ n + x) = bt b x := by
  unfold bt
  obtain ⟨m, rfl⟩ : ∃ m, n = b + (m + 1) := ⟨n - b - 1, by omega⟩
  rw [Nat.pow_add, Nat.mul_add_div (Nat.two_pow_pos b), Nat.pow_succ]
  omega
theorem pp_hi {n x : Nat} : ∀ b, b ≤ n → pp b (2 ^ n + x) = pp b x
  | 0, _ => rfl
  | b + 1, h => by
    show pp b (2 ^ n + x) + bt b (2 ^ n + x) = pp b x + bt b x
    rw [pp_hi b (by omega), bt_hi (by omega)]
theorem wt_hi {n x : Nat} : ∀ b, b ≤ n → wt p q b (2 ^ n + x) = wt p q b x
  | 0, _ => rfl
  | b + 1, h => by
    show wt p q b (2 ^ n + x) * (if bt b (2 ^ n + x) = 1 then p else q) = wt p q b x * (if bt b x = 1 then p else q)
    rw [wt_hi b (by omega), bt_hi (by omega)]
theorem bt_lo {n x : Nat} (h : x < 2 ^ n) : bt n x = 0 := by unfold bt; rw [Nat.div_eq_of_lt h]
theorem bt_top {n x : Nat} (h : x < 2 ^ n) : bt n (2 ^ n + x) = 1 := by
  unfold bt
  rw [Nat.add_div_left x (Nat.two_pow_pos n), Nat.div_eq_of_lt h]
def TT (a : Nat → Nat) (n : Nat) : Nat := sumN (fun x => wt p q n x * a (pp n x)) (2 ^ n)
theorem TT_s (a : Nat → Nat) (n : Nat) : TT p q a (n + 1) = TT p q a n * q + TT p q (fun c => a (c + 1)) n * p := by
  unfold TT
  rw [Nat.pow_succ, show 2 ^ n * 2 = 2 ^ n + 2 ^ n from by omega, sumN_add]
  congr 1
  · rw [← sumN_mul]
    refine sumN_congr _ (fun x hx => ?_)
    show wt p q n x * (if bt n x = 1 then p else q) * a (pp n x + bt n x) = wt p q n x * a (pp n x) * q
    rw [bt_lo hx, if_neg (by omega), Nat.add_zero, Nat.mul_right_comm]
  · rw [← sumN_mul]
    refine sumN_congr _ (fun x hx => ?_)
    show wt p q n (2 ^ n + x) * (if bt n (2 ^ n + x) = 1 then p else q) * a (pp n (2 ^ n + x) + bt n (2 ^ n + x)) = wt p q n x * a (pp n x + 1) * p
    rw [bt_top hx, if_pos rfl, pp_hi n (Nat.le_refl n), wt_hi p q n (Nat.le_refl n), Nat.mul_right_comm]
theorem TT_W : ∀ (n : Nat) (a : Nat → Nat), TT p q a n = sumN (fun c => WW p q n c * a c) (n + 1)
  | 0, a => by
    show 0 + 1 * a 0 = 0 + (if 0 = 0 then 1 else 0) * a 0
    rw [if_pos rfl]
  | n + 1, a => by
    rw [TT_s, TT_W n a, TT_W n (fun c => a (c + 1)), ← sumN_mul, ← sumN_mul]
    have e : sumN (fun c => WW p q (n + 1) c * a c) (n + 1 + 1) = sumN (fun c => WW p q n c * a c * q) (n + 1 + 1) + sumN (fun c => (if c = 0 then 0 else WW p q n (c - 1) * p) * a c) (n + 1 + 1) := by
      rw [← sumN_plus]
      refine sumN_congr _ (fun c _ => ?_)
      show (WW p q n c * q + (if c = 0 then 0 else WW p q n (c - 1) * p)) * a c = _
      rw [Nat.add_mul, Nat.mul_right_comm]
    rw [e]
    congr 1
    · show _ = sumN (fun c => WW p q n c * a c * q) (n + 1) + WW p q n (n + 1) * a (n + 1) * q
      rw [WW_z p q n (n + 1) (by omega), Nat.zero_mul, Nat.zero_mul]
      rfl
    · rw [sumN_s (fun c => (if c = 0 then 0 else WW p q n (c - 1) * p) * a c), if_pos rfl, Nat.zero_mul, Nat.zero_add]
      refine sumN_congr _ (fun c _ => ?_)
      show WW p q n c * a (c + 1) * p = (if c + 1 = 0 then 0 else WW p q n (c + 1 - 1) * p) * a (c + 1)
      rw [if_neg (by omega), Nat.add_sub_cancel, Nat.mul_right_comm]
theorem TT_1 (h : p + q = 10) : ∀ n, TT p q (fun _ => 1) n = 10 ^ n
  | 0 => rfl
  | n + 1 => by
    rw [TT_s, TT_1 h n, Nat.pow_succ, ← Nat.mul_add, Nat.add_comm q p, h]
end ODDS
/-! Euclid -/
theorem lN_ne {n : Nat} (h : n < 9223372036854775808) : (lN n = 0) = (n = 0) := by
  apply propext
  constructor
  · intro e
    have := congrArg Int64.toInt e
    rw [lN_big h, show (0 : Int64).toInt = 0 from by decide] at this
    omega
  · intro e; rw [e]; rfl
theorem gdL2 {α : Type} {k : Nat} {x : Option α} (h : 0 < k) (hn : k < 9223372036854775808) : gd (nzl (lN k)) x = x := by
  have h1 : nzl (lN k) = true := decide_eq_true (fun e => by rw [lN_ne hn] at e; omega)
  rw [h1]; rfl
theorem eu {F : Nat} {x4 : Int32} {x5 x7 : Int64} {st : Nat → Int32} : ∀ (k g r s fu fu2 : Nat), 0 < g → g < 100000000000 → r < g → r < 2 ^ k → s + 2 * k + 1 < 1000 → 2 * k + 1 < fu → 2 * k + 1 < fu2 → ∃ d, 0 < d ∧ d ≤ g ∧ f_X2_greatestDivisor_9_r F fu (lN g) (lN r) (nI s) = some (lN d) ∧ f_X7_odds_231_r F st fu2 x4 x5 x7 (lN g) (lN r) = (if x4 = 0 then some (x5 / lN d) else some (x7 / lN d)) := by
  have step0 : ∀ (g s fu fu2 : Nat), 0 < g → g < 100000000000 → s < 1000 → f_X2_greatestDivisor_9_r F (fu + 1) (lN g) (lN 0) (nI s) = some (lN g) ∧ f_X7_odds_231_r F st (fu2 + 1) x4 x5 x7 (lN g) (lN 0) = (if x4 = 0 then some (x5 / lN g) else some (x7 / lN g)) := by
    intro g s fu fu2 h1 h2 h3
    constructor
    · show f_X2_greatestDivisor_9 F _ _ _ _ = _
      unfold f_X2_greatestDivisor_9
      rw [if_neg (show ¬ (1000 : Int32) ≤ nI s from fun hh => by rw [show (1000 : Int32) = nI 1000 from rfl, nI_leI (by omega) (by omega)] at hh; omega), if_pos (show lg_cmp (lN 0) 0 = (0 : Int32) from by rw [jc_eq]; rfl)]
    · show f_X7_odds_231 F _ _ _ _ _ _ _ = _
      unfold f_X7_odds_231
      rw [if_pos (show lg_cmp (lN 0) 0 = (0 : Int32) from by rw [jc_eq]; rfl), gdL2 h1 (by omega), gdL2 h1 (by omega)]
  have step1 : ∀ (g r s fu fu2 : Nat), 0 < r → r < g → g < 100000000000 → s < 1000 → f_X2_greatestDivisor_9_r F (fu + 1) (lN g) (lN r) (nI s) = f_X2_greatestDivisor_9_r F fu (lN r) (lN (g % r)) (nI (s + 1)) ∧ f_X7_odds_231_r F st (fu2 + 1) x4 x5 x7 (lN g) (lN r) = f_X7_odds_231_r F st fu2 x4 x5 x7 (lN r) (lN (g % r)) := by
    intro g r s fu fu2 h1 h2 h3 h4
    have hr0 : ¬ lN r = (0 : Int64) := fun e => by rw [lN_ne (by omega)] at e; omega
    constructor
    · show f_X2_greatestDivisor_9 F _ _ _ _ = _
      unfold f_X2_greatestDivisor_9
      rw [if_neg (show ¬ (1000 : Int32) ≤ nI s from fun hh => by rw [show (1000 : Int32) = nI 1000 from rfl, nI_leI (by omega) (by omega)] at hh; omega), if_neg (show ¬ lg_cmp (lN r) 0 = (0 : Int32) from by rw [jc_eq]; exact hr0), gdL2 h1 (by omega), lN_rem (by omega) (by omega), nI_s1]
    · show f_X7_odds_231 F _ _ _ _ _ _ _ = _
      unfold f_X7_odds_231
      rw [if_neg (show ¬ lg_cmp (lN r) 0 = (0 : Int32) from by rw [jc_eq]; exact hr0), gdL2 h1 (by omega), lN_rem (by omega) (by omega)]
  intro k
  induction k with
  | zero =>
    intro g r s fu fu2 hg hg2 hrg hr hs hf hf2
    have : r = 0 := by rw [Nat.pow_zero] at hr; omega
    subst this
    obtain ⟨fu, rfl⟩ : ∃ q, fu = q + 1 := ⟨fu - 1, by omega⟩
    obtain ⟨fu2, rfl⟩ : ∃ q, fu2 = q + 1 := ⟨fu2 - 1, by omega⟩
    obtain ⟨a, b⟩ := step0 g s fu fu2 hg hg2 (by omega)
    exact ⟨g, hg, Nat.le_refl g, a, b⟩
  | succ k ih =>
    intro g r s fu fu2 hg hg2 hrg hr hs hf hf2
    obtain ⟨fu, rfl⟩ : ∃ q, fu = q + 1 + 1 := ⟨fu - 2, by omega⟩
    obtain ⟨fu2, rfl⟩ : ∃ q, fu2 = q + 1 + 1 := ⟨fu2 - 2, by omega⟩
    by_cases c : r = 0
    · subst c
      obtain ⟨a, b⟩ := step0 g s (fu + 1) (fu2 + 1) hg hg2 (by omega)
      exact ⟨g, hg, Nat.le_refl g, a, b⟩
    obtain ⟨a, b⟩ := step1 g r s (fu + 1) (fu2 + 1) (by omega) hrg hg2 (by omega)
    have hm : g % r < r := Nat.mod_lt _ (by omega)
    by_cases c2 : g % r = 0
    · obtain ⟨a2, b2⟩ := step0 r (s + 1) fu fu2 (by omega) (by omega) (by omega)
      rw [c2] at a b
      exact ⟨r, by omega, by omega, a.trans a2, b.trans b2⟩
    obtain ⟨a2, b2⟩ := step1 r (g % r) (s + 1) fu fu2 (by omega) hm (by omega) (by omega)
    have hm2 : r % (g % r) < g % r := Nat.mod_lt _ (by omega)
    have hle : r % (g % r) + g % r ≤ r := by
      have h1 := Nat.div_add_mod r (g % r)
      have h2 : 1 ≤ r / (g % r) := (Nat.le_div_iff_mul_le (by omega)).mpr (by omega)
      have h3 : (g % r) * 1 ≤ (g % r) * (r / (g % r)) := Nat.mul_le_mul_left _ h2
      omega
    obtain ⟨d, d1, d2, d3, d4⟩ := ih (g % r) (r % (g % r)) (s + 1 + 1) fu fu2 (by omega) (by omega) hm2 (by rw [Nat.pow_succ] at hr; omega) (by omega) (by omega) (by omega)
    exact ⟨d, d1, by omega, a.trans (a2.trans d3), b.trans (b2.trans d4)⟩
