/-! cheapest: the reference's days, by the day of the latest put-back -/
theorem nd2 {F t d : Nat} (hF : 100000 ≤ F) {A : Nat → Nat} {st cb db : Nat → Int32} {M : Nat → Nat × Nat} (hO : OkA A) (ht : t < A 2) (hd : d < 24) (hM : RpM A st) (hR : RM M cb db) (hMb : ∀ v, v < 100 → (M v).1 < 1000000 → (M v).1 ≤ 911 * d ∧ (M v).2 < 2 ^ d) : ∀ (k v fu : Nat) (ct dt : Nat → Int32), 100 = v + k → k < fu → (∀ w, w < v → ct w = nI 1000000 ∧ dt w = nI 0) →
    ∃ cb' db' ct' dt' N', f_X7_nextDay_2_r F st fu cb db ct dt (nI t) (nI d) (nI v) = some (cb', db', ct', dt') ∧ RM N' cb' db' ∧ ND A t d M 100 N' := by
  intro k
  induction k with
  | zero =>
    intro v fu ct dt h1 h2 h3
    obtain ⟨fu, rfl⟩ : ∃ q, fu = q + 1 := ⟨fu - 1, by omega⟩
    obtain ⟨cb', db', ct', dt', N', g1, g2, g3⟩ := nd31 (F := F) hF hO ht hd hM hR hMb 100 0 F ct dt (fun _ => (1000000, 0)) (by omega) (by omega) (fun w hw => ⟨(h3 w (by omega)).1, (h3 w (by omega)).2, Nat.le_refl _, by show 0 < 16777216; omega⟩) ⟨fun w hw hc => by
      have : (1000000 : Nat) < 1000000 := hc
      omega, fun v hv => by omega⟩
    refine ⟨cb', db', ct', dt', N', ?_, g2, g3⟩
    show f_X7_nextDay_2 F _ _ _ _ _ _ _ _ _ = _
    unfold f_X7_nextDay_2
    rw [if_pos (show (99 : Int32) < nI v from by rw [show v = 100 from by omega]; decide)]
    exact g1
  | succ k ih =>
    intro v fu ct dt h1 h2 h3
    obtain ⟨fu, rfl⟩ : ∃ q, fu = q + 1 := ⟨fu - 1, by omega⟩
    obtain ⟨cb', db', ct', dt', N', g1, g2, g3⟩ := ih (v + 1) fu (upd ct v 1000000) (upd dt v 0) (by omega) (by omega) (fun w hw => by
      by_cases c : w = v
      · rw [c, pk_us, pk_us]; exact ⟨rfl, rfl⟩
      · rw [pk_un c, pk_un c]; exact h3 w (by omega))
    refine ⟨cb', db', ct', dt', N', ?_, g2, g3⟩
    show f_X7_nextDay_2 F _ _ _ _ _ _ _ _ _ = _
    unfold f_X7_nextDay_2
    rw [if_neg (show ¬ (99 : Int32) < nI v from fun hh => by rw [show (99 : Int32) = nI 99 from rfl, nI_ltI (by omega) (by omega)] at hh; omega), gdI (by omega) (by omega), gdI (by omega) (by omega), nI_clamp (by omega), nI_s1]
    exact g1
theorem s_nextDay {F t d : Nat} (hF : 100000 ≤ F) {A : Nat → Nat} {st cb db : Nat → Int32} {M : Nat → Nat × Nat} (hO : OkA A) (ht : t < A 2) (hd : d < 24) (hM : RpM A st) (hR : RM M cb db) (hMb : ∀ v, v < 100 → (M v).1 < 1000000 → (M v).1 ≤ 911 * d ∧ (M v).2 < 2 ^ d) (ct dt : Nat → Int32) :
    ∃ cb' db' ct' dt' N', f_X7_nextDay F (nI t) (nI d) st cb db ct dt = some (cb', db', ct', dt') ∧ RM N' cb' db' ∧ ND A t d M 100 N' :=
  nd2 hF hO ht hd hM hR hMb 100 0 F ct dt (by omega) (by omega) (fun w hw => by omega)
/-- the value k days behind the put-back of day l (0: none yet) -/
def VV (A : Nat → Nat) (t l : Nat) : Nat → Nat
  | 0 => if l = 0 then A (35 + t) else A (11 + t)
  | k + 1 => gD A t (l + k) (VV A t l k)
def AL (A : Nat → Nat) (t l k : Nat) : Prop := ∀ e, 1 ≤ e → e ≤ k → oF A t (VV A t l e) ≤ A 0
theorem VV_lt {A : Nat → Nat} {t l : Nat} (hO : OkA A) (ht : t < A 2) : ∀ k, VV A t l k < 100
  | 0 => by
    have b := hO.2.2.2.2 t ht
    show (if l = 0 then A (35 + t) else A (11 + t)) < 100
    split <;> omega
  | k + 1 => gD_le (VV_lt hO ht k)
/-- what putting back on day d costs in all, the put-back before it on day l -/
def cnd (A : Nat → Nat) (t : Nat) (E : Nat → Nat × Nat) (l d : Nat) : Nat × Nat := ((E l).1 + pR A t (VV A t l (d - l)), (E l).2 ||| 2 ^ (d - 1))
/-- the entries of the class, as far as day n -/
def EN2 (A : Nat → Nat) (t n : Nat) (E : Nat → Nat × Nat) : Prop := E 0 = (0, 0) ∧ ∀ d, 1 ≤ d → d ≤ n → (∃ l, l < d ∧ AL A t l (d - 1 - l) ∧ E d = cnd A t E l d) ∧ ∀ l, l < d → AL A t l (d - 1 - l) → le2 (E d) (cnd A t E l d)
theorem EN2_b {A : Nat → Nat} {t n : Nat} {E : Nat → Nat × Nat} (hO : OkA A) (ht : t < A 2) (h : EN2 A t n E) : ∀ d, d ≤ n → (E d).1 ≤ 911 * d ∧ (E d).2 < 2 ^ d := by
  intro d
  induction d using Nat.strongRecOn with
  | _ d ih =>
    intro hd
    by_cases c : d = 0
    · subst c
      rw [h.1]
      exact ⟨Nat.le_refl _, by show 0 < 2 ^ 0; rw [Nat.pow_zero]; omega⟩
    · obtain ⟨l, h1, h2, h3⟩ := (h.2 d (by omega) hd).1
      obtain ⟨i1, i2⟩ := ih l h1 (by omega)
      have hp := pR_le (v := VV A t l (d - l)) hO ht (VV_lt hO ht _)
      rw [h3]
      refine ⟨by show (E l).1 + pR A t (VV A t l (d - l)) ≤ 911 * d; omega, ?_⟩
      show (E l).2 ||| 2 ^ (d - 1) < 2 ^ d
      have hle : 2 ^ l ≤ 2 ^ (d - 1) := Nat.pow_le_pow_right (by omega) (by omega)
      have := or_up (x := (E l).2) (d := d - 1) (by omega)
      rw [show d - 1 + 1 = d from by omega] at this
      exact this
theorem or_mono {x y d : Nat} (hx : x < 2 ^ d) (hy : y < 2 ^ d) (h : x ≤ y) : x ||| 2 ^ d ≤ y ||| 2 ^ d := by
  have ex := Nat.two_pow_add_eq_or_of_lt hx 1
  have ey := Nat.two_pow_add_eq_or_of_lt hy 1
  rw [Nat.mul_one] at ex ey
  rw [Nat.or_comm x, Nat.or_comm y, ← ex, ← ey]
  omega
/-- the reference's rows on day d -/
def MI (A : Nat → Nat) (t : Nat) (E : Nat → Nat × Nat) (d : Nat) (M : Nat → Nat × Nat) : Prop :=
  (∀ v, v < 100 → (M v).1 < 1000000 → ∃ l, l ≤ d ∧ AL A t l (d - l) ∧ VV A t l (d - l) = v ∧ M v = E l) ∧ ∀ l, l ≤ d → AL A t l (d - l) → le2 (M (VV A t l (d - l))) (E l)
theorem mi_step {A : Nat → Nat} {t n d : Nat} {E M N : Nat → Nat × Nat} (hO : OkA A) (ht : t < A 2) (hn : n ≤ 24) (hd : d < n) (hE : EN2 A t n E) (hM : MI A t E d M) (hN : ND A t d M 100 N) : MI A t E (d + 1) N := by
  have hb := EN2_b hO ht hE
  have hw : A (11 + t) < 100 := by have := hO.2.2.2.2 t ht; omega
  have hE1 := hE.2 (d + 1) (by omega) (by omega)
  have hlt : ∀ l, l ≤ d → AL A t l (d - l) → (M (VV A t l (d - l))).1 < 1000000 := fun l hl ha => by
    have h1 := hM.2 l hl ha
    have h2 := (hb l (by omega)).1
    unfold le2 at h1
    omega
  have hVs : ∀ l, l ≤ d → VV A t l (d + 1 - l) = gD A t d (VV A t l (d - l)) := fun l hl => by
    rw [show d + 1 - l = (d - l) + 1 from by omega]
    show gD A t (l + (d - l)) (VV A t l (d - l)) = _
    rw [show l + (d - l) = d from by omega]
  -- a plan that puts back on day d + 1 is no better than E (d + 1), and E (d + 1) is one
  have hbk : le2 (N (A (11 + t))) (E (d + 1)) := by
    obtain ⟨l, l1, l2, l3⟩ := hE1.1
    rw [show d + 1 - 1 - l = d - l from by omega] at l2
    have h1 := (hN.2 (VV A t l (d - l)) (VV_lt hO ht _) (hlt l (by omega) l2)).2
    have h2 := hM.2 l (by omega) l2
    refine le2_trans h1 ?_
    rw [l3]
    unfold cnd
    rw [hVs l (by omega), Nat.add_sub_cancel]
    have hbl := (hb l (by omega)).2
    have hle : 2 ^ l ≤ 2 ^ d := Nat.pow_le_pow_right (by omega) (by omega)
    unfold le2 at h2 ⊢
    show (M (VV A t l (d - l))).1 + _ < (E l).1 + _ ∨ ((M (VV A t l (d - l))).1 + _ = (E l).1 + _ ∧ (M (VV A t l (d - l))).2 ||| 2 ^ d ≤ (E l).2 ||| 2 ^ d)
    rcases h2 with h2 | ⟨h2, h3⟩
    · exact Or.inl (by omega)
    · exact Or.inr ⟨by omega, or_mono (by omega) (by omega) h3⟩
  refine ⟨fun w hw' hc => ?_, fun l hl ha => ?_⟩
  · rcases hN.1 w hw' hc with ⟨v, v1, v2, v3, v4, v5⟩ | ⟨e, v, v1, v2, v3⟩
    · obtain ⟨l, l1, l2, l3, l4⟩ := hM.1 v v1 v2
      refine ⟨l, by omega, fun e he1 he2 => ?_, by rw [hVs l l1, l3, v3], by rw [v5, l4]⟩
      by_cases c : e = d + 1 - l
      · rw [c, hVs l l1, l3, v3]; exact v4
      · exact l2 e he1 (by omega)
    · obtain ⟨l, l1, l2, l3, l4⟩ := hM.1 v v1 v2
      refine ⟨d + 1, Nat.le_refl _, fun e he1 he2 => by omega, ?_, ?_⟩
      · rw [Nat.sub_self, e]
        show (if d + 1 = 0 then _ else _) = _
        rw [if_neg (by omega)]
      · have h1 := hE1.2 l (by omega) (by rw [show d + 1 - 1 - l = d - l from by omega]; exact l2)
        have h2 : N w = cnd A t E l (d + 1) := by
          rw [v3, l4]
          unfold cnd
          rw [hVs l l1, l3, Nat.add_sub_cancel]
        rw [← h2] at h1
        rw [e] at h1 ⊢
        exact le2_anti hbk h1
  · by_cases c : l = d + 1
    · rw [c, Nat.sub_self]
      show le2 (N (if d + 1 = 0 then A (35 + t) else A (11 + t))) _
      rw [if_neg (by omega)]
      exact hbk
    · have hl' : l ≤ d := by omega
      have ha' : AL A t l (d - l) := fun e h1 h2 => ha e h1 (by omega)
      have ho := ha (d + 1 - l) (by omega) (Nat.le_refl _)
      rw [hVs l hl'] at ho ⊢
      exact le2_trans ((hN.2 (VV A t l (d - l)) (VV_lt hO ht _) (hlt l hl' ha')).1 ho) (hM.2 l hl' ha')
