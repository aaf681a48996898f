/-! cheapest: a day of the reference -/
theorem nI_or (a b : Nat) : nI a ||| nI b = nI (a ||| b) := by
  first
  | exact (Int32.ofNat_or a b).symm
  | (apply Int32.toBitVec_inj.mp
     apply BitVec.eq_of_toNat_eq
     show (BitVec.ofNat 32 a ||| BitVec.ofNat 32 b).toNat = (BitVec.ofNat 32 (a ||| b)).toNat
     rw [BitVec.toNat_or, BitVec.toNat_ofNat, BitVec.toNat_ofNat, BitVec.toNat_ofNat, Nat.or_mod_two_pow])
theorem sm24 {d : Nat} (hd : d < 24) : ((nI d &&& 31).toBitVec.smod 32).toNat = d := by
  rcases (show d = 0 ∨ d = 1 ∨ d = 2 ∨ d = 3 ∨ d = 4 ∨ d = 5 ∨ d = 6 ∨ d = 7 ∨ d = 8 ∨ d = 9 ∨ d = 10 ∨ d = 11 ∨ d = 12 ∨ d = 13 ∨ d = 14 ∨ d = 15 ∨ d = 16 ∨ d = 17 ∨ d = 18 ∨ d = 19 ∨ d = 20 ∨ d = 21 ∨ d = 22 ∨ d = 23 by omega) with rfl | rfl | rfl | rfl | rfl | rfl | rfl | rfl | rfl | rfl | rfl | rfl | rfl | rfl | rfl | rfl | rfl | rfl | rfl | rfl | rfl | rfl | rfl | rfl <;> decide
theorem pw24 {d : Nat} (hd : d < 24) : 2 ^ d ≤ 8388608 := Nat.le_trans (Nat.pow_le_pow_right (by omega) (show d ≤ 23 by omega)) (by decide)
theorem or24 {x d : Nat} (hd : d < 24) : nI x ||| ((1 : Int32) <<< (nI d &&& 31)) = nI (x ||| 2 ^ d) := by
  have hp := pw24 hd
  rw [show (1 : Int32) = nI 1 from rfl, pk_shlN _ d (sm24 hd) (by omega), Nat.one_mul, nI_or]
theorem or_up {x d : Nat} (hx : x < 2 ^ d) : x ||| 2 ^ d < 2 ^ (d + 1) := by
  refine Nat.or_lt_two_pow ?_ ?_
  · rw [Nat.pow_succ]; omega
  · rw [Nat.pow_succ]; have := Nat.two_pow_pos d; omega
def gD (A : Nat → Nat) (t d v : Nat) : Nat := dN (A (5 + t)) (A (17 + t)) v (A 3 + d)
def oF (A : Nat → Nat) (t v : Nat) : Nat := df v (A (11 + t))
def pR (A : Nat → Nat) (t v : Nat) : Nat := A (23 + t) * df v (A (11 + t)) + A 1
theorem gD_le {A : Nat → Nat} {t d v : Nat} (hv : v < 100) : gD A t d v < 100 := by have := dN_le (k := A (5 + t)) (b := A (17 + t)) (d := A 3 + d) (show v ≤ 99 by omega); unfold gD; omega
theorem pR_le {A : Nat → Nat} {t v : Nat} (hO : OkA A) (ht : t < A 2) (hv : v < 100) : pR A t v ≤ 911 := by
  obtain ⟨b1, b2, b3, b4, b5, b6, b7, b8, b9⟩ := hO.2.2.2.2 t ht
  have h1 := hO.2.2.1
  have hd : df v (A (11 + t)) ≤ 99 := by unfold df; omega
  have : A (23 + t) * df v (A (11 + t)) ≤ 9 * 99 := Nat.mul_le_mul b7 hd
  unfold pR
  omega
/-- what has come to the next day's rows from the values below V -/
def ND (A : Nat → Nat) (t d : Nat) (M : Nat → Nat × Nat) (V : Nat) (N : Nat → Nat × Nat) : Prop :=
  (∀ w, w < 100 → (N w).1 < 1000000 → (∃ v, v < V ∧ (M v).1 < 1000000 ∧ gD A t d v = w ∧ oF A t w ≤ A 0 ∧ N w = M v) ∨ (w = A (11 + t) ∧ ∃ v, v < V ∧ (M v).1 < 1000000 ∧ N w = ((M v).1 + pR A t (gD A t d v), (M v).2 ||| 2 ^ d))) ∧
  ∀ v, v < V → (M v).1 < 1000000 → (oF A t (gD A t d v) ≤ A 0 → le2 (N (gD A t d v)) (M v)) ∧ le2 (N (A (11 + t))) ((M v).1 + pR A t (gD A t d v), (M v).2 ||| 2 ^ d)
theorem up2_at {M : Nat → Nat × Nat} {w : Nat} {p : Nat × Nat} : up2 M w p w = p := if_pos rfl
theorem up2_ne {M : Nat → Nat × Nat} {w v : Nat} {p : Nat × Nat} (h : v ≠ w) : up2 M w p v = M v := if_neg h
theorem up2_le {N : Nat → Nat × Nat} {w v : Nat} {p : Nat × Nat} : le2 (up2 N w (mn2 (N w) p) v) (N v) := by
  by_cases c : v = w
  · rw [c, up2_at]; exact mn2_l _ _
  · rw [up2_ne c]; exact le2_refl _
