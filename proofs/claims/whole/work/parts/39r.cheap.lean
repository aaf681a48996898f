/-! cheapest: pairs of a cost and its days, the least first by cost, then by days -/
def le2 (a b : Nat × Nat) : Prop := a.1 < b.1 ∨ (a.1 = b.1 ∧ a.2 ≤ b.2)
theorem le2_refl (a : Nat × Nat) : le2 a a := Or.inr ⟨rfl, Nat.le_refl _⟩
theorem le2_trans {a b c : Nat × Nat} (h1 : le2 a b) (h2 : le2 b c) : le2 a c := by unfold le2 at *; omega
theorem le2_tot (a b : Nat × Nat) : le2 a b ∨ le2 b a := by unfold le2; omega
theorem le2_anti {a b : Nat × Nat} (h1 : le2 a b) (h2 : le2 b a) : a = b := by
  unfold le2 at *
  exact Prod.ext (by omega) (by omega)
noncomputable def mn2 (a b : Nat × Nat) : Nat × Nat := @ite _ (le2 a b) (Classical.propDecidable _) a b
theorem mn2_l (a b : Nat × Nat) : le2 (mn2 a b) a := by
  unfold mn2
  by_cases h : le2 a b
  · rw [if_pos h]; exact le2_refl a
  · rw [if_neg h]; exact (le2_tot a b).resolve_left h
theorem mn2_r (a b : Nat × Nat) : le2 (mn2 a b) b := by
  unfold mn2
  by_cases h : le2 a b
  · rw [if_pos h]; exact h
  · rw [if_neg h]; exact le2_refl b
theorem mn2_or (a b : Nat × Nat) : mn2 a b = a ∨ mn2 a b = b := by
  unfold mn2
  by_cases h : le2 a b
  · rw [if_pos h]; exact Or.inl rfl
  · rw [if_neg h]; exact Or.inr rfl
/-- the rows of costs and days hold the pairs M v -/
def RM (M : Nat → Nat × Nat) (cost days : Nat → Int32) : Prop := ∀ v, v < 100 → cost v = nI (M v).1 ∧ days v = nI (M v).2 ∧ (M v).1 ≤ 1000000 ∧ (M v).2 < 16777216
def up2 (M : Nat → Nat × Nat) (w : Nat) (p : Nat × Nat) : Nat → Nat × Nat := fun v => if v = w then p else M v
/-- a pair comes to w -/
theorem s_comes {F w c b : Nat} {M : Nat → Nat × Nat} {ct dt : Nat → Int32} (hw : w < 100) (hc : c < 1000000) (hb : b < 16777216) (h : RM M ct dt) : ∃ ct' dt', f_X7_comes F (nI w) (nI c) (nI b) ct dt = some (ct', dt') ∧ RM (up2 M w (mn2 (M w) (c, b))) ct' dt' := by
  obtain ⟨h1, h2, h3, h4⟩ := h w hw
  have hset : ∀ p : Nat × Nat, p.1 ≤ 1000000 → p.2 < 16777216 → RM (up2 M w p) (upd ct w (nI p.1)) (upd dt w (nI p.2)) := fun p hp1 hp2 v hv => by
    unfold up2
    by_cases e : v = w
    · rw [e, if_pos rfl, pk_us, pk_us]; exact ⟨rfl, rfl, hp1, hp2⟩
    · rw [if_neg e, pk_un e, pk_un e]; exact h v hv
  have hkeep : up2 M w (M w) = M := funext fun v => by
    unfold up2
    by_cases e : v = w
    · rw [e, if_pos rfl]
    · rw [if_neg e]
  unfold f_X7_comes f_X7_comes_30
  simp (disch := omega) only [gdI, nI_clamp, h1, h2]
  by_cases c1 : c < (M w).1
  · have hm : mn2 (M w) (c, b) = (c, b) := by
      unfold mn2
      rw [if_neg (by unfold le2; show ¬ ((M w).1 < c ∨ ((M w).1 = c ∧ (M w).2 ≤ b)); omega)]
    rw [hm, if_pos (show nI c < nI (M w).1 from (nI_ltI (by omega) (by omega)).mpr c1)]
    exact ⟨_, _, rfl, hset (c, b) (by show c ≤ 1000000; omega) hb⟩
  · rw [if_neg (show ¬ nI c < nI (M w).1 from fun e => c1 ((nI_ltI (by omega) (by omega)).mp e))]
    by_cases c2 : c = (M w).1
    · rw [if_pos (show nI c = nI (M w).1 from by rw [c2])]
      by_cases c3 : (M w).2 ≤ b
      · have hm : mn2 (M w) (c, b) = M w := by
          unfold mn2
          rw [if_pos (by unfold le2; show (M w).1 < c ∨ ((M w).1 = c ∧ (M w).2 ≤ b); omega)]
        rw [hm, hkeep, if_pos (show nI (M w).2 ≤ nI b from (nI_leI (by omega) (by omega)).mpr c3)]
        exact ⟨_, _, rfl, h⟩
      · have hm : mn2 (M w) (c, b) = (c, b) := by
          unfold mn2
          rw [if_neg (by unfold le2; show ¬ ((M w).1 < c ∨ ((M w).1 = c ∧ (M w).2 ≤ b)); omega)]
        rw [hm, if_neg (show ¬ nI (M w).2 ≤ nI b from fun e => c3 ((nI_leI (by omega) (by omega)).mp e))]
        exact ⟨_, _, rfl, hset (c, b) (by show c ≤ 1000000; omega) hb⟩
    · have hm : mn2 (M w) (c, b) = M w := by
        unfold mn2
        rw [if_pos (by unfold le2; show (M w).1 < c ∨ ((M w).1 = c ∧ (M w).2 ≤ b); omega)]
      rw [hm, hkeep, if_neg (show ¬ nI c = nI (M w).1 from fun e => c2 ((nI_eq (by omega) (by omega)).mp e))]
      exact ⟨_, _, rfl, h⟩
