/-! cheapest: the class goes on from a put-back -/
def RS (n : Nat) (S : Nat → Nat × Nat) (cost bits : Nat → Int32) : Prop := ∀ d, d ≤ n → cost d = nI (S d).1 ∧ (S d).1 ≤ 1000000000 ∧ ((S d).1 < 1000000000 → bits d = nI (S d).2)
theorem sS_dead {A : Nat → Nat} {t n l d : Nat} (h : ¬ AL A t l (d - 1 - l)) : sS A t n (l + 1) d = sS A t n l d := if_neg (fun q => h q.2.2.1)
theorem sS_low {A : Nat → Nat} {t n l d : Nat} (h : d ≤ l) : sS A t n (l + 1) d = sS A t n l d := if_neg (fun q => by have := q.1; omega)
theorem go32 {F t n l : Nat} {A : Nat → Nat} {kind was by_ price lis : Nat → Int32} {least lb : Int32} (hO : OkA A) (ht : t < A 2) (hn : n ≤ 24) (hl : l ≤ n) (hk : kind t = nI (A (5 + t))) (hw : was t = nI (A (11 + t))) (hb : by_ t = nI (A (17 + t))) (hp : price t = nI (A (23 + t))) : ∀ (k d fu : Nat) (cost bits : Nat → Int32), n + 1 = d + k → l < d → k < fu → AL A t l (d - 1 - l) → RS n (fun e => if e < d then sS A t n (l + 1) e else sS A t n l e) cost bits →
    ∃ cost' bits', RS n (sS A t n (l + 1)) cost' bits' ∧ f_X2_goOnFrom_32_r F (nI (A 0)) (nI (A 1)) (nI (A 3)) kind was by_ price lis fu least lb cost bits (nI l) (nI t) (nI n) (nI (VV A t l (d - 1 - l))) (nI d) = some (@ite _ (AL A t l (n - l)) (Classical.propDecidable _) (if least ≤ nI (EE A t n l).1 then least else nI (EE A t n l).1) least, @ite _ (AL A t l (n - l)) (Classical.propDecidable _) (if least ≤ nI (EE A t n l).1 then lb else nI (EE A t n l).2) lb, cost', bits') := by
  have h26 := hO.1
  have h09 := hO.2.1
  have h3 := hO.2.2.2.1
  obtain ⟨b1, b2, b3, b4, b5, b6, b7, b8, b9⟩ := hO.2.2.2.2 t ht
  obtain ⟨f1, f2, -⟩ := (ps hO ht hn l hl).2 l (Nat.le_refl l)
  have hpl : 2 ^ l ≤ 16777216 := Nat.le_trans (Nat.pow_le_pow_right (by omega) (show l ≤ 24 by omega)) (by decide)
  intro k
  induction k with
  | zero =>
    intro d fu cost bits h1 hld hf ha hR
    obtain ⟨fu, rfl⟩ : ∃ q, fu = q + 1 := ⟨fu - 1, by omega⟩
    have hRl := hR l hl
    simp only [if_pos hld, sS_low (Nat.le_refl l)] at hRl
    have hal : AL A t l (n - l) := by rw [show n - l = d - 1 - l from by omega]; exact ha
    have f1' : (sS A t n l l).1 ≤ 911 * l := f1
    have hbl := hRl.2.2 (by omega)
    refine ⟨cost, bits, fun e he => ?_, ?_⟩
    · have := hR e he
      simp only [if_pos (show e < d by omega)] at this
      exact this
    · show f_X2_goOnFrom_32 F _ _ _ _ _ _ _ _ _ _ _ _ _ _ _ _ _ _ = _
      unfold f_X2_goOnFrom_32
      rw [if_pos (show nI n < nI d from by rw [nI_ltI (by omega) (by omega)]; omega), gdI (by omega) (by omega), nI_clamp (by omega), hRl.1, hbl, if_pos hal, if_pos hal]
      show (if least ≤ nI (EE A t n l).1 then _ else _) = _
      by_cases c : least ≤ nI (EE A t n l).1
      · rw [if_pos c, if_pos c, if_pos c]
      · rw [if_neg c, if_neg c, if_neg c, gdI (by omega) (by omega), gdI (by omega) (by omega)]
        rfl
  | succ k ih =>
    intro d fu cost bits h1 hld hf ha hR
    obtain ⟨fu, rfl⟩ : ∃ q, fu = q + 1 := ⟨fu - 1, by omega⟩
    have hv := VV_lt (l := l) hO ht (d - 1 - l)
    have eV : VV A t l (d - l) = gD A t (d - 1) (VV A t l (d - 1 - l)) := by
      rw [show d - l = (d - 1 - l) + 1 from by omega]
      show gD A t (l + (d - 1 - l)) _ = _
      rw [show l + (d - 1 - l) = d - 1 from by omega]
    have hv2 := VV_lt (l := l) hO ht (d - l)
    have hpr := pR_le (v := VV A t l (d - l)) hO ht hv2
    have q3 := s_dayOn (F := F) (i := VV A t l (d - 1 - l)) (d := A 3 + (d - 1)) (show t < 6 by omega) hk hb b1 b2 b4 b5 (by omega) (by omega)
    have q3' : f_X3_dayOn F (nI t) (nI (VV A t l (d - 1 - l))) (nI (A 3) + nI d - 1) kind by_ = some (nI (VV A t l (d - l))) := by
      rw [nI_add, show (1 : Int32) = nI 1 from rfl, pk_sub (by omega), show A 3 + d - 1 = A 3 + (d - 1) from by omega, eV]
      exact q3
    have hcs := s_cost (F := F) (a := VV A t l (d - l)) (fe := A 1) (show t < 6 by omega) hw hp (by omega) (by omega)
    have hcs' : f_X3_costToPutBack F (nI t) (nI (VV A t l (d - l))) (nI (A 1)) was price = some (nI (pR A t (VV A t l (d - l)))) := hcs
    have ho := s_offIf (F := F) (a := VV A t l (d - l)) (show t < 6 by omega) hw (by omega) (by omega)
    have ho' : f_X3_offIf F (nI t) (nI (VV A t l (d - l))) was = some (nI (oF A t (VV A t l (d - l)))) := ho
    have hol : oF A t (VV A t l (d - l)) ≤ 99 := by unfold oF df; omega
    have hRl := hR l hl
    simp only [if_pos hld, sS_low (Nat.le_refl l)] at hRl
    have hRd := hR d (by omega)
    simp only [if_neg (Nat.lt_irrefl d)] at hRd
    have f1' : (sS A t n l l).1 ≤ 911 * l := f1
    have f2' : (sS A t n l l).2 < 2 ^ l := f2
    have hbl := hRl.2.2 (by omega)
    have h122 : ∀ cost bits, RS n (fun e => if e < d + 1 then sS A t n (l + 1) e else sS A t n l e) cost bits → ∃ cost' bits', RS n (sS A t n (l + 1)) cost' bits' ∧ f_X2_goOnFrom_122 F (nI (A 0)) (nI (A 1)) (nI (A 3)) kind was by_ price lis (f_X2_goOnFrom_32_r F (nI (A 0)) (nI (A 1)) (nI (A 3)) kind was by_ price lis fu) least lb cost bits (nI l) (nI t) (nI n) (nI (VV A t l (d - l))) (nI d) = some (@ite _ (AL A t l (n - l)) (Classical.propDecidable _) (if least ≤ nI (EE A t n l).1 then least else nI (EE A t n l).1) least, @ite _ (AL A t l (n - l)) (Classical.propDecidable _) (if least ≤ nI (EE A t n l).1 then lb else nI (EE A t n l).2) lb, cost', bits') := by
      intro cost bits hR1
      unfold f_X2_goOnFrom_122
      rw [ho', Option.bind_some]
      by_cases co : oF A t (VV A t l (d - l)) ≤ A 0
      · rw [if_pos (show nI _ ≤ nI (A 0) from (nI_leI (by omega) (by omega)).mpr co), nI_s1]
        have ha1 : AL A t l (d + 1 - 1 - l) := fun e h1 h2 => by
          by_cases c : e = d - l
          · rw [c]; exact co
          · exact ha e h1 (by omega)
        have g := ih (d + 1) fu cost bits (by omega) (by omega) (by omega) ha1 hR1
        rw [show d + 1 - 1 - l = d - l from by omega] at g
        exact g
      · rw [if_neg (show ¬ nI _ ≤ nI (A 0) from fun e => co ((nI_leI (by omega) (by omega)).mp e))]
        have hna : ∀ m, d - l ≤ m → ¬ AL A t l m := fun m hm h => co (h (d - l) (by omega) hm)
        refine ⟨cost, bits, fun e he => ?_, ?_⟩
        · have h := hR1 e he
          by_cases c : e < d + 1
          · simp only [if_pos c] at h
            exact h
          · simp only [if_neg c] at h
            rw [sS_dead (hna (e - 1 - l) (by omega))]
            exact h
        · rw [if_neg (hna (n - l) (by omega)), if_neg (hna (n - l) (by omega))]
    have em1 : nI d - (1 : Int32) = nI (d - 1) := by rw [show (1 : Int32) = nI 1 from rfl, pk_sub (by omega)]
    have h32 : f_X2_goOnFrom_32_r F (nI (A 0)) (nI (A 1)) (nI (A 3)) kind was by_ price lis (fu + 1) least lb cost bits (nI l) (nI t) (nI n) (nI (VV A t l (d - 1 - l))) (nI d) = (if nI (sS A t n l d).1 ≤ nI ((sS A t n l l).1 + pR A t (VV A t l (d - l))) then f_X2_goOnFrom_122 F (nI (A 0)) (nI (A 1)) (nI (A 3)) kind was by_ price lis (f_X2_goOnFrom_32_r F (nI (A 0)) (nI (A 1)) (nI (A 3)) kind was by_ price lis fu) least lb cost bits (nI l) (nI t) (nI n) (nI (VV A t l (d - l))) (nI d) else f_X2_goOnFrom_122 F (nI (A 0)) (nI (A 1)) (nI (A 3)) kind was by_ price lis (f_X2_goOnFrom_32_r F (nI (A 0)) (nI (A 1)) (nI (A 3)) kind was by_ price lis fu) least lb (upd cost d (nI ((sS A t n l l).1 + pR A t (VV A t l (d - l))))) (upd bits d (nI ((sS A t n l l).2 ||| 2 ^ (d - 1)))) (nI l) (nI t) (nI n) (nI (VV A t l (d - l))) (nI d)) := by
      show f_X2_goOnFrom_32 F _ _ _ _ _ _ _ _ _ _ _ _ _ _ _ _ _ _ = _
      unfold f_X2_goOnFrom_32
      rw [if_neg (show ¬ nI n < nI d from fun hh => by rw [nI_ltI (by omega) (by omega)] at hh; omega), q3', Option.bind_some]
      have gl : ∀ {α : Type} (y : Option α), gd (inb (nI l) 25) y = y := fun y => gdI (by omega) (by omega)
      have gd' : ∀ {α : Type} (y : Option α), gd (inb (nI d) 25) y = y := fun y => gdI (by omega) (by omega)
      simp only [gl, gd', hcs', Option.bind_some, nI_clamp (show l < 2147483648 by omega), nI_clamp (show d < 2147483648 by omega), hRl.1, hRd.1, hbl, nI_add, em1, or24 (show d - 1 < 24 by omega)]
    rw [h32]
    by_cases cc : (sS A t n l l).1 + pR A t (VV A t l (d - l)) < (sS A t n l d).1
    · have eS : sS A t n (l + 1) d = ((sS A t n l l).1 + pR A t (VV A t l (d - l)), (sS A t n l l).2 ||| 2 ^ (d - 1)) := if_pos ⟨hld, by omega, ha, cc⟩
      rw [if_neg (show ¬ nI (sS A t n l d).1 ≤ nI _ from fun e => by rw [nI_leI (by omega) (by omega)] at e; omega)]
      refine h122 _ _ (fun e he => ?_)
      by_cases c : e = d
      · rw [c]
        simp only [if_pos (Nat.lt_succ_self d), pk_us, eS]
        exact ⟨trivial, by omega, fun _ => trivial⟩
      · rw [pk_un c, pk_un c]
        have h := hR e he
        by_cases c2 : e < d
        · simp only [if_pos c2] at h
          simp only [if_pos (show e < d + 1 by omega)]
          exact h
        · simp only [if_neg c2] at h
          simp only [if_neg (show ¬ e < d + 1 by omega)]
          exact h
    · have eS : sS A t n (l + 1) d = sS A t n l d := if_neg (fun q => cc q.2.2.2)
      rw [if_pos (show nI (sS A t n l d).1 ≤ nI _ from by rw [nI_leI (by omega) (by omega)]; omega)]
      refine h122 _ _ (fun e he => ?_)
      have h := hR e he
      by_cases c : e = d
      · rw [c] at h ⊢
        simp only [if_neg (Nat.lt_irrefl d)] at h
        simp only [if_pos (Nat.lt_succ_self d), eS]
        exact h
      · by_cases c2 : e < d
        · simp only [if_pos c2] at h
          simp only [if_pos (show e < d + 1 by omega)]
          exact h
        · simp only [if_neg c2] at h
          simp only [if_neg (show ¬ e < d + 1 by omega)]
          exact h
