/-! cheapest: the class's entries -/
noncomputable def sS (A : Nat → Nat) (t n : Nat) : Nat → Nat → Nat × Nat
  | 0, d => if d = 0 then (0, 0) else (1000000000, 0)
  | l + 1, d => @ite _ (l < d ∧ d ≤ n ∧ AL A t l (d - 1 - l) ∧ (sS A t n l l).1 + pR A t (VV A t l (d - l)) < (sS A t n l d).1) (Classical.propDecidable _) ((sS A t n l l).1 + pR A t (VV A t l (d - l)), (sS A t n l l).2 ||| 2 ^ (d - 1)) (sS A t n l d)
noncomputable def EE (A : Nat → Nat) (t n : Nat) : Nat → Nat × Nat := fun l => sS A t n l l
theorem EE_0 {A : Nat → Nat} {t n : Nat} : EE A t n 0 = (0, 0) := by
  show sS A t n 0 0 = (0, 0)
  unfold sS
  rw [if_pos rfl]
theorem sS_fix {A : Nat → Nat} {t n l : Nat} : ∀ k, sS A t n (l + k) l = EE A t n l
  | 0 => rfl
  | k + 1 => by
    show @ite _ (l + k < l ∧ _) (Classical.propDecidable _) _ (sS A t n (l + k) l) = _
    rw [if_neg (fun h => by have := h.1; omega)]
    exact sS_fix k
theorem ps {A : Nat → Nat} {t n : Nat} (hO : OkA A) (ht : t < A 2) (hn : n ≤ 24) : ∀ l, l ≤ n → ((∀ d, l ≤ d → 1 ≤ d → d ≤ n → (sS A t n l d = (1000000000, 0) ∧ ∀ l', l' < l → ¬ AL A t l' (d - 1 - l')) ∨ ((∃ l', l' < l ∧ AL A t l' (d - 1 - l') ∧ sS A t n l d = cnd A t (EE A t n) l' d) ∧ ∀ l', l' < l → AL A t l' (d - 1 - l') → le2 (sS A t n l d) (cnd A t (EE A t n) l' d))) ∧ ∀ l', l' ≤ l → (EE A t n l').1 ≤ 911 * l' ∧ (EE A t n l').2 < 2 ^ l' ∧ (1 ≤ l' → 2 ^ (l' - 1) ≤ (EE A t n l').2)) := by
  intro l
  induction l with
  | zero =>
    intro _
    refine ⟨fun d h1 h2 h3 => Or.inl ⟨if_neg (by omega), fun l' hl' => by omega⟩, fun l' hl' => ?_⟩
    have e : l' = 0 := by omega
    subst e
    rw [EE_0]
    exact ⟨Nat.le_refl _, by show 0 < 2 ^ 0; rw [Nat.pow_zero]; omega, fun h => by omega⟩
  | succ l ih =>
    intro hl
    obtain ⟨ih1, ih2⟩ := ih (by omega)
    have hp : ∀ d, l + 1 ≤ d → 1 ≤ d → d ≤ n → (sS A t n (l + 1) d = (1000000000, 0) ∧ ∀ l', l' < l + 1 → ¬ AL A t l' (d - 1 - l')) ∨ ((∃ l', l' < l + 1 ∧ AL A t l' (d - 1 - l') ∧ sS A t n (l + 1) d = cnd A t (EE A t n) l' d) ∧ ∀ l', l' < l + 1 → AL A t l' (d - 1 - l') → le2 (sS A t n (l + 1) d) (cnd A t (EE A t n) l' d)) := by
      intro d hd1 hd2 hd3
      have hpr := pR_le (v := VV A t l (d - l)) hO ht (VV_lt hO ht _)
      obtain ⟨e1, e2, e3⟩ := ih2 l (Nat.le_refl l)
      have eC : cnd A t (EE A t n) l d = ((sS A t n l l).1 + pR A t (VV A t l (d - l)), (sS A t n l l).2 ||| 2 ^ (d - 1)) := rfl
      have e1' : (sS A t n l l).1 ≤ 911 * l := e1
      by_cases ca : AL A t l (d - 1 - l)
      · right
        by_cases cc : (sS A t n l l).1 + pR A t (VV A t l (d - l)) < (sS A t n l d).1
        · have eS : sS A t n (l + 1) d = cnd A t (EE A t n) l d := if_pos ⟨by omega, hd3, ca, cc⟩
          refine ⟨⟨l, by omega, ca, eS⟩, fun l' hl' ha' => ?_⟩
          rw [eS]
          by_cases cl : l' = l
          · rw [cl]; exact le2_refl _
          · rcases ih1 d (by omega) hd2 hd3 with ⟨-, h2⟩ | ⟨-, h2⟩
            · exact absurd ha' (h2 l' (by omega))
            · refine le2_trans ?_ (h2 l' (by omega) ha')
              rw [eC]
              exact Or.inl cc
        · have eS : sS A t n (l + 1) d = sS A t n l d := if_neg (fun h => cc h.2.2.2)
          rw [eS]
          rcases ih1 d (by omega) hd2 hd3 with ⟨h1, -⟩ | ⟨⟨l1, h1, h2, h3⟩, h4⟩
          · rw [h1] at cc
            exact absurd (show (sS A t n l l).1 + pR A t (VV A t l (d - l)) < 1000000000 by omega) cc
          · refine ⟨⟨l1, by omega, h2, h3⟩, fun l' hl' ha' => ?_⟩
            by_cases cl : l' = l
            · rw [cl, eC]
              by_cases ceq : (sS A t n l d).1 < (sS A t n l l).1 + pR A t (VV A t l (d - l))
              · exact Or.inl ceq
              · refine Or.inr ⟨by show (sS A t n l d).1 = (sS A t n l l).1 + pR A t (VV A t l (d - l)); omega, ?_⟩
                rw [h3]
                show (EE A t n l1).2 ||| 2 ^ (d - 1) ≤ (EE A t n l).2 ||| 2 ^ (d - 1)
                have g1 := (ih2 l1 (by omega)).2.1
                have g2 := e3 (by omega)
                have g3 : 2 ^ l1 ≤ 2 ^ (l - 1) := Nat.pow_le_pow_right (by omega) (by omega)
                have g4 : 2 ^ l ≤ 2 ^ (d - 1) := Nat.pow_le_pow_right (by omega) (by omega)
                have g5 : 2 ^ (l - 1) ≤ 2 ^ l := Nat.pow_le_pow_right (by omega) (by omega)
                exact or_mono (by omega) (by omega) (by omega)
            · exact h4 l' (by omega) ha'
      · have eS : sS A t n (l + 1) d = sS A t n l d := if_neg (fun h => ca h.2.2.1)
        rw [eS]
        rcases ih1 d (by omega) hd2 hd3 with ⟨h1, h2⟩ | ⟨⟨l1, h1, h2, h3⟩, h4⟩
        · refine Or.inl ⟨h1, fun l' hl' ha' => ?_⟩
          by_cases cl : l' = l
          · rw [cl] at ha'; exact ca ha'
          · exact h2 l' (by omega) ha'
        · refine Or.inr ⟨⟨l1, by omega, h2, h3⟩, fun l' hl' ha' => ?_⟩
          by_cases cl : l' = l
          · rw [cl] at ha'; exact absurd ha' ca
          · exact h4 l' (by omega) ha'
    refine ⟨hp, fun l' hl' => ?_⟩
    by_cases c : l' = l + 1
    · subst c
      rcases hp (l + 1) (Nat.le_refl _) (by omega) hl with ⟨-, h2⟩ | ⟨⟨l1, h1, h2, h3⟩, -⟩
      · exact absurd (fun e h3 h4 => by omega) (h2 l (by omega))
      · have h3' : EE A t n (l + 1) = cnd A t (EE A t n) l1 (l + 1) := h3
        obtain ⟨g1, g2, -⟩ := ih2 l1 (by omega)
        have hpr := pR_le (v := VV A t l1 (l + 1 - l1)) hO ht (VV_lt hO ht _)
        rw [h3']
        refine ⟨by show (EE A t n l1).1 + pR A t (VV A t l1 (l + 1 - l1)) ≤ 911 * (l + 1); omega, ?_, fun _ => ?_⟩
        · show (EE A t n l1).2 ||| 2 ^ (l + 1 - 1) < 2 ^ (l + 1)
          rw [Nat.add_sub_cancel]
          have : 2 ^ l1 ≤ 2 ^ l := Nat.pow_le_pow_right (by omega) (by omega)
          exact or_up (by omega)
        · show 2 ^ (l + 1 - 1) ≤ (EE A t n l1).2 ||| 2 ^ (l + 1 - 1)
          exact Nat.right_le_or
    · exact ih2 l' (by omega)
theorem EE_ok {A : Nat → Nat} {t n : Nat} (hO : OkA A) (ht : t < A 2) (hn : n ≤ 24) : EN2 A t n (EE A t n) := by
  refine ⟨EE_0, fun d hd1 hd2 => ?_⟩
  rcases (ps hO ht hn d hd2).1 d (Nat.le_refl d) hd1 hd2 with ⟨-, h2⟩ | ⟨⟨l, h1, h2, h3⟩, h4⟩
  · exact absurd (fun e h3 h4 => by omega) (h2 (d - 1) (by omega))
  · exact ⟨⟨l, h1, h2, h3⟩, h4⟩
