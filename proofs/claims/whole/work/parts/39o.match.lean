/-! match: which cases stand, and the best of them -/
/-- where thing s goes in the case x -/
def D (n x s : Nat) : Nat := dg n (n - 1 - s) x
def PV (A : Nat → Nat) (t : Nat) (E : Nat → Nat) : Prop := (∀ s, s < t → okd A s (E s)) ∧ ∀ s s', s < s' → s' < t → E s ≠ E s'
def wS (A : Nat → Nat) (E : Nat → Nat) (s : Nat) : Nat := if 4 ≤ A (5 + s) then df (A (35 + s)) (A (11 + E s)) else 0
theorem MK_iff {n x : Nat} (hn : 0 < n) (hn6 : n ≤ 6) : ∀ k, k ≤ n → ∀ d, d < 6 → (bt d (MK n x k) = 1 ↔ ∃ s, n - k ≤ s ∧ s < n ∧ D n x s = d)
  | 0, _, d, hd => by
    constructor
    · intro h
      exfalso
      have : bt d (MK n x 0) = 0 := by unfold bt MK; rw [Nat.zero_div]
      omega
    · rintro ⟨s, h1, h2, -⟩
      omega
  | k + 1, hk, d, hd => by
    have hm := MK_lt (y := x) hn hn6 k
    have hdl := dg_lt hn k x
    have h1 := bt_or ⟨MK n x k, hm⟩ ⟨d, hd⟩ ⟨dg n k x, by omega⟩
    have h1' : bt d (MK n x (k + 1)) = if d = dg n k x then 1 else bt d (MK n x k) := h1
    have eD : D n x (n - (k + 1)) = dg n k x := by unfold D; rw [show n - 1 - (n - (k + 1)) = k from by omega]
    rw [h1']
    by_cases c : d = dg n k x
    · rw [if_pos c]
      exact ⟨fun _ => ⟨n - (k + 1), Nat.le_refl _, by omega, by rw [eD, c]⟩, fun _ => rfl⟩
    · rw [if_neg c, MK_iff hn hn6 k (by omega) d hd]
      constructor
      · rintro ⟨s, a, b, e⟩
        exact ⟨s, by omega, b, e⟩
      · rintro ⟨s, a, b, e⟩
        by_cases cs : s = n - (k + 1)
        · rw [cs, eD] at e; exact absurd e.symm c
        · exact ⟨s, by omega, b, e⟩
theorem FL_iff {A : Nat → Nat} {n x : Nat} (hn : 0 < n) (hn6 : n ≤ 6) : ∀ k, k ≤ n → (FL A n x k ↔ (∀ s, n - k ≤ s → s < n → okd A s (D n x s)) ∧ ∀ s s', n - k ≤ s → s < s' → s' < n → D n x s ≠ D n x s')
  | 0, _ => ⟨fun _ => ⟨fun s h1 h2 => by omega, fun s s' h1 h2 h3 => by omega⟩, fun _ => trivial⟩
  | k + 1, hk => by
    have eD : D n x (n - (k + 1)) = dg n k x := by unfold D; rw [show n - 1 - (n - (k + 1)) = k from by omega]
    have hdl := dg_lt hn k x
    have hmk := MK_iff (x := x) hn hn6 k (by omega) (dg n k x) (by omega)
    have hb2 : bt (dg n k x) (MK n x k) < 2 := Nat.mod_lt _ (by omega)
    have es : n - 1 - k = n - (k + 1) := by omega
    show (FL A n x k ∧ bt (dg n k x) (MK n x k) = 0 ∧ okd A (n - 1 - k) (dg n k x)) ↔ _
    rw [FL_iff hn hn6 k (by omega), es]
    constructor
    · rintro ⟨⟨f1, f2⟩, f3, f4⟩
      refine ⟨fun s h1 h2 => ?_, fun s s' h1 h2 h3 => ?_⟩
      · by_cases c : s = n - (k + 1)
        · rw [c, eD]; exact f4
        · exact f1 s (by omega) h2
      · by_cases c : s = n - (k + 1)
        · rw [c, eD]
          intro e
          have := hmk.mpr ⟨s', by omega, h3, e.symm⟩
          omega
        · exact f2 s s' (by omega) h2 h3
    · rintro ⟨f1, f2⟩
      refine ⟨⟨fun s h1 h2 => f1 s (by omega) h2, fun s s' h1 h2 h3 => f2 s s' (by omega) h2 h3⟩, ?_, ?_⟩
      · by_cases c : bt (dg n k x) (MK n x k) = 1
        · obtain ⟨s, h1, h2, h3⟩ := hmk.mp c
          have := f2 (n - (k + 1)) s (Nat.le_refl _) (by omega) h2
          rw [eD] at this
          exact absurd h3.symm this
        · omega
      · have := f1 (n - (k + 1)) (Nat.le_refl _) (by omega)
        rw [eD] at this
        exact this
theorem FL_PV {A : Nat → Nat} {n x : Nat} (hn : 0 < n) (hn6 : n ≤ 6) : FL A n x n ↔ PV A n (D n x) := by
  rw [FL_iff hn hn6 n (Nat.le_refl n), Nat.sub_self]
  exact ⟨fun h => ⟨fun s hs => h.1 s (Nat.zero_le _) hs, fun s s' h1 h2 => h.2 s s' (Nat.zero_le _) h1 h2⟩, fun h => ⟨fun s _ hs => h.1 s hs, fun s s' _ h1 h2 => h.2 s s' h1 h2⟩⟩
theorem SM_sum {A : Nat → Nat} {n x : Nat} : ∀ k, k ≤ n → SM A n x k + sumN (wS A (D n x)) (n - k) = sumN (wS A (D n x)) n
  | 0, _ => by show 0 + sumN (wS A (D n x)) n = _; rw [Nat.zero_add]
  | k + 1, hk => by
    have h1 := SM_sum (A := A) (n := n) (x := x) k (by omega)
    have eD : D n x (n - (k + 1)) = dg n k x := by unfold D; rw [show n - 1 - (n - (k + 1)) = k from by omega]
    have e : n - k = (n - (k + 1)) + 1 := by omega
    rw [e] at h1
    have h2 : sumN (wS A (D n x)) (n - (k + 1) + 1) = sumN (wS A (D n x)) (n - (k + 1)) + wS A (D n x) (n - (k + 1)) := rfl
    rw [h2] at h1
    have h3 : SM A n x (k + 1) = SM A n x k + wS A (D n x) (n - (k + 1)) := by
      show SM A n x k + (if 4 ≤ A (5 + (n - 1 - k)) then df (A (35 + (n - 1 - k))) (A (11 + dg n k x)) else 0) = _
      unfold wS
      rw [eD, show n - 1 - k = n - (k + 1) from by omega]
    rw [h3]
    omega
theorem SM_all {A : Nat → Nat} {n x : Nat} : SM A n x n = sumN (wS A (D n x)) n := by
  have := SM_sum (A := A) (n := n) (x := x) n (Nat.le_refl n)
  rw [Nat.sub_self] at this
  exact this
/-- the best case below x -/
noncomputable def BB (A : Nat → Nat) (n : Nat) : Nat → Option (Nat × Nat)
  | 0 => none
  | x + 1 => @ite _ (PV A n (D n x)) (Classical.propDecidable _) (match BB A n x with | none => some (x, sumN (wS A (D n x)) n) | some (y, o) => if sumN (wS A (D n x)) n < o then some (x, sumN (wS A (D n x)) n) else some (y, o)) (BB A n x)
theorem BB_no {A : Nat → Nat} {n a : Nat} : ∀ k, (∀ x, a ≤ x → x < a + k → ¬ PV A n (D n x)) → BB A n (a + k) = BB A n a
  | 0, _ => rfl
  | k + 1, h => by
    show @ite _ (PV A n (D n (a + k))) (Classical.propDecidable _) _ (BB A n (a + k)) = BB A n a
    rw [if_neg (h (a + k) (by omega) (by omega))]
    exact BB_no k (fun x h1 h2 => h x h1 (by omega))
theorem BB_in {A : Nat → Nat} {n : Nat} : ∀ x y o, BB A n x = some (y, o) → y < x ∧ PV A n (D n y) ∧ o = sumN (wS A (D n y)) n
  | 0, y, o, h => by cases h
  | x + 1, y, o, h => by
    have ih := BB_in (A := A) (n := n) x
    change @ite _ (PV A n (D n x)) (Classical.propDecidable _) (match BB A n x with | none => some (x, sumN (wS A (D n x)) n) | some (y, o) => if sumN (wS A (D n x)) n < o then some (x, sumN (wS A (D n x)) n) else some (y, o)) (BB A n x) = some (y, o) at h
    by_cases c : PV A n (D n x)
    · rw [if_pos c] at h
      cases hb : BB A n x with
      | none =>
        rw [hb] at h
        cases h
        exact ⟨by omega, c, rfl⟩
      | some v =>
        obtain ⟨y', o'⟩ := v
        rw [hb] at h
        simp only at h
        by_cases c2 : sumN (wS A (D n x)) n < o'
        · rw [if_pos c2] at h
          cases h
          exact ⟨by omega, c, rfl⟩
        · rw [if_neg c2] at h
          cases h
          obtain ⟨i1, i2, i3⟩ := ih _ _ hb
          exact ⟨by omega, i2, i3⟩
    · rw [if_neg c] at h
      obtain ⟨i1, i2, i3⟩ := ih _ _ h
      exact ⟨by omega, i2, i3⟩
theorem BB_some {A : Nat → Nat} {n x : Nat} (hv : PV A n (D n x)) : ∀ k, BB A n (x + 1 + k) ≠ none
  | 0 => by
    show @ite _ (PV A n (D n x)) (Classical.propDecidable _) (match BB A n x with | none => some (x, sumN (wS A (D n x)) n) | some (y, o) => if sumN (wS A (D n x)) n < o then some (x, sumN (wS A (D n x)) n) else some (y, o)) (BB A n x) ≠ none
    rw [if_pos hv]
    cases BB A n x with
    | none => simp
    | some v => obtain ⟨y, o⟩ := v; simp only; split <;> simp
  | k + 1 => by
    have ih := BB_some hv k
    show @ite _ (PV A n (D n (x + 1 + k))) (Classical.propDecidable _) (match BB A n (x + 1 + k) with | none => some (x + 1 + k, sumN (wS A (D n (x + 1 + k))) n) | some (y, o) => if sumN (wS A (D n (x + 1 + k))) n < o then some (x + 1 + k, sumN (wS A (D n (x + 1 + k))) n) else some (y, o)) (BB A n (x + 1 + k)) ≠ none
    by_cases c : PV A n (D n (x + 1 + k))
    · rw [if_pos c]
      cases BB A n (x + 1 + k) with
      | none => simp
      | some v => obtain ⟨y, o⟩ := v; simp only; split <;> simp
    · rw [if_neg c]; exact ih
