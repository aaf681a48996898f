/-! cheapest: the class's plan -/
def LsC (A : Nat → Nat) (t n l : Nat) (least lb : Int32) : Prop := (least = nI 1000000000 ∧ ∀ l', l' < l → ¬ AL A t l' (n - l')) ∨ ∃ l1, l1 < l ∧ AL A t l1 (n - l1) ∧ least = nI (EE A t n l1).1 ∧ lb = nI (EE A t n l1).2 ∧ ∀ l', l' < l → AL A t l' (n - l') → le2 (EE A t n l1) (EE A t n l')
theorem ls_step {A : Nat → Nat} {t n l : Nat} {least lb : Int32} (hO : OkA A) (ht : t < A 2) (hn : n ≤ 24) (hl : l ≤ n) (h : LsC A t n l least lb) : LsC A t n (l + 1) (@ite _ (AL A t l (n - l)) (Classical.propDecidable _) (if least ≤ nI (EE A t n l).1 then least else nI (EE A t n l).1) least) (@ite _ (AL A t l (n - l)) (Classical.propDecidable _) (if least ≤ nI (EE A t n l).1 then lb else nI (EE A t n l).2) lb) := by
  have hb := (ps hO ht hn l hl).2
  obtain ⟨e1, e2, e3⟩ := hb l (Nat.le_refl l)
  by_cases ca : AL A t l (n - l)
  · rw [if_pos ca, if_pos ca]
    rcases h with ⟨h1, h2⟩ | ⟨l1, h1, h2, h3, h4, h5⟩
    · have c : ¬ least ≤ nI (EE A t n l).1 := fun hh => by rw [h1, nI_leI (by omega) (by omega)] at hh; omega
      rw [if_neg c, if_neg c]
      refine Or.inr ⟨l, by omega, ca, rfl, rfl, fun l' hl' ha' => ?_⟩
      by_cases cl : l' = l
      · rw [cl]; exact le2_refl _
      · exact absurd ha' (h2 l' (by omega))
    · obtain ⟨g1, g2, g3⟩ := hb l1 (by omega)
      by_cases c : (EE A t n l1).1 ≤ (EE A t n l).1
      · have c' : least ≤ nI (EE A t n l).1 := by rw [h3, nI_leI (by omega) (by omega)]; exact c
        rw [if_pos c', if_pos c']
        refine Or.inr ⟨l1, by omega, h2, h3, h4, fun l' hl' ha' => ?_⟩
        by_cases cl : l' = l
        · rw [cl]
          have g4 : 2 ^ l1 ≤ 2 ^ (l - 1) := Nat.pow_le_pow_right (by omega) (by omega)
          have g5 := e3 (by omega)
          unfold le2
          omega
        · exact h5 l' (by omega) ha'
      · have c' : ¬ least ≤ nI (EE A t n l).1 := fun hh => by rw [h3, nI_leI (by omega) (by omega)] at hh; omega
        rw [if_neg c', if_neg c']
        refine Or.inr ⟨l, by omega, ca, rfl, rfl, fun l' hl' ha' => ?_⟩
        by_cases cl : l' = l
        · rw [cl]; exact le2_refl _
        · refine le2_trans (Or.inl ?_) (h5 l' (by omega) ha')
          omega
  · rw [if_neg ca, if_neg ca]
    rcases h with ⟨h1, h2⟩ | ⟨l1, h1, h2, h3, h4, h5⟩
    · refine Or.inl ⟨h1, fun l' hl' ha' => ?_⟩
      by_cases cl : l' = l
      · rw [cl] at ha'; exact ca ha'
      · exact h2 l' (by omega) ha'
    · refine Or.inr ⟨l1, by omega, h2, h3, h4, fun l' hl' ha' => ?_⟩
      by_cases cl : l' = l
      · rw [cl] at ha'; exact absurd ha' ca
      · exact h5 l' (by omega) ha'
theorem pl43 {F t n : Nat} (hF : 100000 ≤ F) {A : Nat → Nat} {kind was by_ price lis : Nat → Int32} (hO : OkA A) (ht : t < A 2) (hn : n ≤ 24) (hk : kind t = nI (A (5 + t))) (hw : was t = nI (A (11 + t))) (hb : by_ t = nI (A (17 + t))) (hp : price t = nI (A (23 + t))) (hi : lis t = nI (A (35 + t))) : ∀ (k l fu : Nat) (least lb : Int32) (cost bits : Nat → Int32), n + 1 = l + k → k < fu → RS n (sS A t n l) cost bits → LsC A t n l least lb →
    ∃ least' lb' cost' bits', f_X2_planPutBacks_43_r F (nI (A 0)) (nI (A 1)) (nI (A 3)) kind was by_ price lis fu least lb cost bits (nI t) (nI n) (nI l) = some (least', lb', cost', bits') ∧ LsC A t n (n + 1) least' lb' := by
  have h26 := hO.1
  intro k
  induction k with
  | zero =>
    intro l fu least lb cost bits h1 hf hR hL
    obtain ⟨fu, rfl⟩ : ∃ q, fu = q + 1 := ⟨fu - 1, by omega⟩
    refine ⟨least, lb, cost, bits, ?_, by rw [h1]; exact hL⟩
    show f_X2_planPutBacks_43 F _ _ _ _ _ _ _ _ _ _ _ _ _ _ _ _ = _
    unfold f_X2_planPutBacks_43
    rw [if_pos (show nI n < nI l from by rw [nI_ltI (by omega) (by omega)]; omega)]
  | succ k ih =>
    intro l fu least lb cost bits h1 hf hR hL
    obtain ⟨fu, rfl⟩ : ∃ q, fu = q + 1 := ⟨fu - 1, by omega⟩
    have hl : l ≤ n := by omega
    obtain ⟨cost1, bits1, g1, g2⟩ := go32 (F := F) (least := least) (lb := lb) (lis := lis) hO ht hn hl hk hw hb hp (n - l) (l + 1) F cost bits (by omega) (by omega) (by omega) (fun e h1 h2 => by omega) (fun e he => by
      have h := hR e he
      by_cases c : e < l + 1
      · simp only [if_pos c, sS_low (show e ≤ l by omega)]; exact h
      · simp only [if_neg c]; exact h)
    rw [show l + 1 - 1 - l = 0 from by omega] at g2
    have hgo : f_X2_goOnFrom F (nI l) (nI t) (nI n) (nI (A 0)) (nI (A 1)) (nI (A 3)) kind was by_ price lis least lb cost bits = f_X2_goOnFrom_32_r F (nI (A 0)) (nI (A 1)) (nI (A 3)) kind was by_ price lis F least lb cost bits (nI l) (nI t) (nI n) (nI (VV A t l 0)) (nI (l + 1)) := by
      unfold f_X2_goOnFrom f_X2_goOnFrom_25
      rw [nI_s1, gdI (show t < 6 by omega) (by omega), gdI (show t < 6 by omega) (by omega), nI_clamp (by omega), hi, hw]
      have e : (if nI l = (0 : Int32) then f_X2_goOnFrom_32_r F (nI (A 0)) (nI (A 1)) (nI (A 3)) kind was by_ price lis F least lb cost bits (nI l) (nI t) (nI n) (nI (A (35 + t))) (nI (l + 1)) else f_X2_goOnFrom_32_r F (nI (A 0)) (nI (A 1)) (nI (A 3)) kind was by_ price lis F least lb cost bits (nI l) (nI t) (nI n) (nI (A (11 + t))) (nI (l + 1))) = f_X2_goOnFrom_32_r F (nI (A 0)) (nI (A 1)) (nI (A 3)) kind was by_ price lis F least lb cost bits (nI l) (nI t) (nI n) (nI (VV A t l 0)) (nI (l + 1)) := by
        show _ = f_X2_goOnFrom_32_r F (nI (A 0)) (nI (A 1)) (nI (A 3)) kind was by_ price lis F least lb cost bits (nI l) (nI t) (nI n) (nI (if l = 0 then A (35 + t) else A (11 + t))) (nI (l + 1))
        by_cases c : l = 0
        · rw [if_pos (show nI l = (0 : Int32) from by rw [c]; rfl), if_pos c]
        · rw [if_neg (show ¬ nI l = (0 : Int32) from nI_ne0 (by omega) (by omega)), if_neg c]
      exact e
    obtain ⟨l2, b2, c2, d2, k1, k2⟩ := ih (l + 1) fu _ _ cost1 bits1 (by omega) (by omega) g1 (ls_step hO ht hn hl hL)
    refine ⟨l2, b2, c2, d2, ?_, k2⟩
    show f_X2_planPutBacks_43 F _ _ _ _ _ _ _ _ _ _ _ _ _ _ _ _ = _
    unfold f_X2_planPutBacks_43
    rw [if_neg (show ¬ nI n < nI l from fun hh => by rw [nI_ltI (by omega) (by omega)] at hh; omega), hgo, g2, Option.bind_some, nI_s1]
    exact k1
theorem pl2 {F t n : Nat} (hF : 100000 ≤ F) {A : Nat → Nat} {kind was by_ price lis : Nat → Int32} (hO : OkA A) (ht : t < A 2) (hn : n ≤ 24) (hk : kind t = nI (A (5 + t))) (hw : was t = nI (A (11 + t))) (hb : by_ t = nI (A (17 + t))) (hp : price t = nI (A (23 + t))) (hi : lis t = nI (A (35 + t))) : ∀ (k d fu : Nat) (least lb : Int32) (cost bits : Nat → Int32), n + 1 = d + k → 1 ≤ d → k < fu → (∀ e, 1 ≤ e → e < d → cost e = nI 1000000000) →
    ∃ least' lb' cost' bits', f_X2_planPutBacks_2_r F (nI (A 0)) (nI (A 1)) (nI (A 3)) kind was by_ price lis fu least lb cost bits (nI t) (nI n) (nI d) = some (least', lb', cost', bits') ∧ LsC A t n (n + 1) least' lb' := by
  intro k
  induction k with
  | zero =>
    intro d fu least lb cost bits h1 hd hf hc
    obtain ⟨fu, rfl⟩ : ∃ q, fu = q + 1 := ⟨fu - 1, by omega⟩
    obtain ⟨l2, b2, c2, d2, k1, k2⟩ := pl43 (F := F) hF hO ht hn hk hw hb hp hi (n + 1) 0 F 1000000000 lb (upd cost 0 0) (upd bits 0 0) (by omega) (by omega) (fun e he => by
      by_cases c : e = 0
      · rw [c, pk_us, pk_us]
        show (0 : Int32) = nI (sS A t n 0 0).1 ∧ _
        have e0 : sS A t n 0 0 = (0, 0) := EE_0
        rw [e0]
        exact ⟨rfl, by show 0 ≤ 1000000000; omega, fun _ => rfl⟩
      · rw [pk_un c, hc e (by omega) (by omega)]
        have e0 : sS A t n 0 e = (1000000000, 0) := by unfold sS; rw [if_neg c]
        rw [e0]
        exact ⟨rfl, Nat.le_refl _, fun h => by have : (1000000000 : Nat) < 1000000000 := h; omega⟩) (Or.inl ⟨rfl, fun l' hl' => by omega⟩)
    refine ⟨l2, b2, c2, d2, ?_, k2⟩
    show f_X2_planPutBacks_2 F _ _ _ _ _ _ _ _ _ _ _ _ _ _ _ _ = _
    unfold f_X2_planPutBacks_2
    rw [if_pos (show nI n < nI d from by rw [nI_ltI (by omega) (by omega)]; omega)]
    exact k1
  | succ k ih =>
    intro d fu least lb cost bits h1 hd hf hc
    obtain ⟨fu, rfl⟩ : ∃ q, fu = q + 1 := ⟨fu - 1, by omega⟩
    obtain ⟨l2, b2, c2, d2, k1, k2⟩ := ih (d + 1) fu least lb (upd cost d 1000000000) bits (by omega) (by omega) (by omega) (fun e h1 h2 => by
      by_cases c : e = d
      · rw [c, pk_us]; rfl
      · rw [pk_un c]; exact hc e h1 (by omega))
    refine ⟨l2, b2, c2, d2, ?_, k2⟩
    show f_X2_planPutBacks_2 F _ _ _ _ _ _ _ _ _ _ _ _ _ _ _ _ = _
    unfold f_X2_planPutBacks_2
    rw [if_neg (show ¬ nI n < nI d from fun hh => by rw [nI_ltI (by omega) (by omega)] at hh; omega), gdI (by omega) (by omega), nI_clamp (by omega), nI_s1]
    exact k1
