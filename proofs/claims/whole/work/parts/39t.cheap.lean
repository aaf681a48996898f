/-! cheapest: the reference's next day -/
theorem nd_skip {A : Nat → Nat} {t d V : Nat} {M N : Nat → Nat × Nat} (h : ND A t d M V N) (hV : ¬ (M V).1 < 1000000) : ND A t d M (V + 1) N := by
  refine ⟨fun w hw hc => ?_, fun v hv hm => ?_⟩
  · rcases h.1 w hw hc with ⟨v, h1, h2⟩ | ⟨h0, v, h1, h2⟩
    · exact Or.inl ⟨v, by omega, h2⟩
    · exact Or.inr ⟨h0, v, by omega, h2⟩
  · by_cases c : v = V
    · rw [c] at hm; exact absurd hm hV
    · exact h.2 v (by omega) hm
theorem nd_back {A : Nat → Nat} {t d V : Nat} {M N N1 : Nat → Nat × Nat} (hle : ∀ v, le2 (N1 v) (N v)) (ha : ∀ w, w < 100 → (N1 w).1 < 1000000 → (∃ v, v < V + 1 ∧ (M v).1 < 1000000 ∧ gD A t d v = w ∧ oF A t w ≤ A 0 ∧ N1 w = M v) ∨ (w = A (11 + t) ∧ ∃ v, v < V + 1 ∧ (M v).1 < 1000000 ∧ N1 w = ((M v).1 + pR A t (gD A t d v), (M v).2 ||| 2 ^ d))) (hs : oF A t (gD A t d V) ≤ A 0 → le2 (N1 (gD A t d V)) (M V)) (h : ND A t d M V N) (hV : (M V).1 < 1000000) : ND A t d M (V + 1) (up2 N1 (A (11 + t)) (mn2 (N1 (A (11 + t))) ((M V).1 + pR A t (gD A t d V), (M V).2 ||| 2 ^ d))) := by
  refine ⟨fun w hw hc => ?_, fun v hv hm => ?_⟩
  · by_cases c : w = A (11 + t)
    · rw [c, up2_at] at hc ⊢
      rcases mn2_or (N1 (A (11 + t))) ((M V).1 + pR A t (gD A t d V), (M V).2 ||| 2 ^ d) with e | e
      · rw [e] at hc ⊢
        exact ha _ (by rw [← c]; exact hw) hc
      · rw [e]
        exact Or.inr ⟨rfl, V, by omega, hV, rfl⟩
    · rw [up2_ne c] at hc ⊢
      exact ha w hw hc
  · by_cases c : v = V
    · subst c
      refine ⟨fun ho => le2_trans up2_le (hs ho), ?_⟩
      rw [up2_at]
      exact mn2_r _ _
    · have h2 := h.2 v (by omega) hm
      exact ⟨fun ho => le2_trans up2_le (le2_trans (hle _) (h2.1 ho)), le2_trans up2_le (le2_trans (hle _) h2.2)⟩
theorem nd_step0 {A : Nat → Nat} {t d V : Nat} {M N : Nat → Nat × Nat} (h : ND A t d M V N) (hV : (M V).1 < 1000000) (ho : ¬ oF A t (gD A t d V) ≤ A 0) : ND A t d M (V + 1) (up2 N (A (11 + t)) (mn2 (N (A (11 + t))) ((M V).1 + pR A t (gD A t d V), (M V).2 ||| 2 ^ d))) := by
  refine nd_back (fun v => le2_refl _) (fun w hw hc => ?_) (fun h => absurd h ho) h hV
  rcases h.1 w hw hc with ⟨v, h1, h2⟩ | ⟨h0, v, h1, h2⟩
  · exact Or.inl ⟨v, by omega, h2⟩
  · exact Or.inr ⟨h0, v, by omega, h2⟩
theorem nd_step1 {A : Nat → Nat} {t d V : Nat} {M N : Nat → Nat × Nat} (h : ND A t d M V N) (hV : (M V).1 < 1000000) (ho : oF A t (gD A t d V) ≤ A 0) : ND A t d M (V + 1) (up2 (up2 N (gD A t d V) (mn2 (N (gD A t d V)) (M V))) (A (11 + t)) (mn2 (up2 N (gD A t d V) (mn2 (N (gD A t d V)) (M V)) (A (11 + t))) ((M V).1 + pR A t (gD A t d V), (M V).2 ||| 2 ^ d))) := by
  refine nd_back (fun v => up2_le) (fun w hw hc => ?_) (fun _ => by rw [up2_at]; exact mn2_r _ _) h hV
  by_cases c : w = gD A t d V
  · rw [c, up2_at] at hc ⊢
    rcases mn2_or (N (gD A t d V)) (M V) with e | e
    · rw [e] at hc ⊢
      rcases h.1 _ (by rw [← c]; exact hw) hc with ⟨v, h1, h2⟩ | ⟨h0, v, h1, h2⟩
      · exact Or.inl ⟨v, by omega, h2⟩
      · exact Or.inr ⟨h0, v, by omega, h2⟩
    · rw [e]
      exact Or.inl ⟨V, by omega, hV, rfl, ho, rfl⟩
  · rw [up2_ne c] at hc ⊢
    rcases h.1 w hw hc with ⟨v, h1, h2⟩ | ⟨h0, v, h1, h2⟩
    · exact Or.inl ⟨v, by omega, h2⟩
    · exact Or.inr ⟨h0, v, by omega, h2⟩
theorem cp143 {F : Nat} {N : Nat → Nat × Nat} {st ct dt : Nat → Int32} (hN : RM N ct dt) : ∀ (k v fu : Nat) (cb db : Nat → Int32), 100 = v + k → k < fu → (∀ w, w < v → cb w = ct w ∧ db w = dt w) → ∃ cb' db', f_X7_nextDay_143_r F st fu cb db ct dt (nI v) = some (cb', db', ct, dt) ∧ RM N cb' db' := by
  intro k
  induction k with
  | zero =>
    intro v fu cb db h1 h2 h3
    obtain ⟨fu, rfl⟩ : ∃ q, fu = q + 1 := ⟨fu - 1, by omega⟩
    refine ⟨cb, db, ?_, fun w hw => ?_⟩
    · show f_X7_nextDay_143 F _ _ _ _ _ _ _ = _
      unfold f_X7_nextDay_143
      rw [if_pos (show (99 : Int32) < nI v from by rw [show v = 100 from by omega]; decide)]
    · rw [(h3 w (by omega)).1, (h3 w (by omega)).2]; exact hN w hw
  | succ k ih =>
    intro v fu cb db h1 h2 h3
    obtain ⟨fu, rfl⟩ : ∃ q, fu = q + 1 := ⟨fu - 1, by omega⟩
    obtain ⟨cb', db', g1, g2⟩ := ih (v + 1) fu (upd cb v (ct v)) (upd db v (dt v)) (by omega) (by omega) (fun w hw => by
      by_cases c : w = v
      · rw [c, pk_us, pk_us]; exact ⟨rfl, rfl⟩
      · rw [pk_un c, pk_un c]; exact h3 w (by omega))
    refine ⟨cb', db', ?_, g2⟩
    show f_X7_nextDay_143 F _ _ _ _ _ _ _ = _
    unfold f_X7_nextDay_143
    rw [if_neg (show ¬ (99 : Int32) < nI v from fun hh => by rw [show (99 : Int32) = nI 99 from rfl, nI_ltI (by omega) (by omega)] at hh; omega)]
    simp (disch := omega) only [gdI, nI_clamp, nI_s1]
    exact g1
theorem nd31 {F t d : Nat} (hF : 100000 ≤ F) {A : Nat → Nat} {st cb db : Nat → Int32} {M : Nat → Nat × Nat} (hO : OkA A) (ht : t < A 2) (hd : d < 24) (hM : RpM A st) (hR : RM M cb db) (hMb : ∀ v, v < 100 → (M v).1 < 1000000 → (M v).1 ≤ 911 * d ∧ (M v).2 < 2 ^ d) : ∀ (k v fu : Nat) (ct dt : Nat → Int32) (N : Nat → Nat × Nat), 100 = v + k → k < fu → RM N ct dt → ND A t d M v N →
    ∃ cb' db' ct' dt' N', f_X7_nextDay_31_r F st fu cb db ct dt (nI t) (nI d) (nI v) = some (cb', db', ct', dt') ∧ RM N' cb' db' ∧ ND A t d M 100 N' := by
  have h26 := hO.1
  have h09 := hO.2.1
  have h3 := hO.2.2.2.1
  obtain ⟨b1, b2, b3, b4, b5, b6, b7, b8, b9⟩ := hO.2.2.2.2 t ht
  have e0 := hM 0 (by omega) (by omega)
  have e3 := hM 3 (by omega) (by omega)
  have q11 := hM (11 + t) (by omega) (by omega)
  have hp24 := pw24 hd
  intro k
  induction k with
  | zero =>
    intro v fu ct dt N h1 h2 hN hD
    obtain ⟨fu, rfl⟩ : ∃ q, fu = q + 1 := ⟨fu - 1, by omega⟩
    obtain ⟨cb', db', g1, g2⟩ := cp143 (F := F) (st := st) hN 100 0 F cb db (by omega) (by omega) (fun w hw => by omega)
    refine ⟨cb', db', ct, dt, N, ?_, g2, by rw [show v = 100 from by omega] at hD; exact hD⟩
    show f_X7_nextDay_31 F _ _ _ _ _ _ _ _ _ = _
    unfold f_X7_nextDay_31
    rw [if_pos (show (99 : Int32) < nI v from by rw [show v = 100 from by omega]; decide)]
    exact g1
  | succ k ih =>
    intro v fu ct dt N h1 h2 hN hD
    obtain ⟨fu, rfl⟩ : ∃ q, fu = q + 1 := ⟨fu - 1, by omega⟩
    obtain ⟨r1, r2, r3, r4⟩ := hR v (by omega)
    have c99 : ¬ (99 : Int32) < nI v := fun hh => by rw [show (99 : Int32) = nI 99 from rfl, nI_ltI (by omega) (by omega)] at hh; omega
    by_cases cM : (M v).1 < 1000000
    case neg =>
      obtain ⟨cb', db', ct', dt', N', g1, g2, g3⟩ := ih (v + 1) fu ct dt N (by omega) (by omega) hN (nd_skip hD cM)
      refine ⟨cb', db', ct', dt', N', ?_, g2, g3⟩
      show f_X7_nextDay_31 F _ _ _ _ _ _ _ _ _ = _
      unfold f_X7_nextDay_31 f_X7_nextDay_135
      rw [if_neg c99, gdI (by omega) (by omega), nI_clamp (by omega), r1, if_pos (show (1000000 : Int32) ≤ nI (M v).1 from by rw [show (1000000 : Int32) = nI 1000000 from rfl, nI_leI (by omega) (by omega)]; omega), nI_s1]
      exact g1
    obtain ⟨m1, m2⟩ := hMb v (by omega) cM
    have hg := gD_le (A := A) (t := t) (d := d) (show v < 100 by omega)
    have hpr := pR_le (v := gD A t d v) hO ht hg
    have hor := or_up m2
    have hpd : 2 ^ (d + 1) ≤ 16777216 := by rw [Nat.pow_succ]; omega
    have q7 := s_changed (F := F) (i := v) (d := A 3 + d) hM (show t < 6 by omega) b1 b2 b4 b5 (by omega) (by omega)
    have q7' : f_X7_changed F (nI t) (nI v) (nI (A 3 + d)) st = some (nI (gD A t d v)) := q7
    have hdf := s_differ (F := F) (a := gD A t d v) hM (show t < 6 by omega) (by omega) (by omega)
    have hdf' : f_X7_differ F (nI t) (nI (gD A t d v)) st = some (nI (oF A t (gD A t d v))) := hdf
    have hol : oF A t (gD A t d v) ≤ 99 := by unfold oF df; omega
    have hpp := s_price (F := F) (a := gD A t d v) hM (show t < 6 by omega) (by omega) (by omega)
    have hpp' : f_X7_price F (nI t) (nI (gD A t d v)) st = some (nI (pR A t (gD A t d v))) := hpp
    -- what 98 does
    have h98 : ∀ (N1 : Nat → Nat × Nat) (ct dt : Nat → Int32), RM N1 ct dt → ND A t d M (v + 1) (up2 N1 (A (11 + t)) (mn2 (N1 (A (11 + t))) ((M v).1 + pR A t (gD A t d v), (M v).2 ||| 2 ^ d))) → ∃ cb' db' ct' dt' N', f_X7_nextDay_98 F st (f_X7_nextDay_31_r F st fu) cb db ct dt (nI t) (nI d) (nI v) (nI (gD A t d v)) = some (cb', db', ct', dt') ∧ RM N' cb' db' ∧ ND A t d M 100 N' := by
      intro N1 ct dt hN1 hD1
      obtain ⟨ct1, dt1, s1, s2⟩ := s_comes (F := F) (w := A (11 + t)) (c := (M v).1 + pR A t (gD A t d v)) (b := (M v).2 ||| 2 ^ d) (by omega) (by omega) (by omega) hN1
      obtain ⟨cb', db', ct', dt', N', g1, g2, g3⟩ := ih (v + 1) fu ct1 dt1 _ (by omega) (by omega) s2 hD1
      refine ⟨cb', db', ct', dt', N', ?_, g2, g3⟩
      unfold f_X7_nextDay_98 f_X7_nextDay_135
      rw [show (11 : Int32) + nI t = nI (11 + t) from nI_add 11 t, gdI (by omega) (by omega), gdI (by omega) (by omega), hpp', Option.bind_some, gdI (by omega) (by omega), nI_clamp (by omega), nI_clamp (by omega), q11, r1, r2, nI_add, or24 hd, s1, Option.bind_some, nI_s1]
      exact g1
    have h31 : f_X7_nextDay_31_r F st (fu + 1) cb db ct dt (nI t) (nI d) (nI v) = (if nI (A 0) < nI (oF A t (gD A t d v)) then f_X7_nextDay_98 F st (f_X7_nextDay_31_r F st fu) cb db ct dt (nI t) (nI d) (nI v) (nI (gD A t d v)) else (f_X7_comes F (nI (gD A t d v)) (nI (M v).1) (nI (M v).2) ct dt).bind fun u13 => f_X7_nextDay_98 F st (f_X7_nextDay_31_r F st fu) cb db u13.1 u13.2 (nI t) (nI d) (nI v) (nI (gD A t d v))) := by
      show f_X7_nextDay_31 F _ _ _ _ _ _ _ _ _ = _
      unfold f_X7_nextDay_31
      rw [if_neg c99, gdI (by omega) (by omega), nI_clamp (by omega), r1, if_neg (show ¬ (1000000 : Int32) ≤ nI (M v).1 from fun hh => by rw [show (1000000 : Int32) = nI 1000000 from rfl, nI_leI (by omega) (by omega)] at hh; omega)]
      have g3 : ∀ {α : Type} (y : Option α), gd (inb (3 : Int32) 41) y = y := fun y => gdI (k := 3) (by omega) (by omega)
      have g0 : ∀ {α : Type} (y : Option α), gd (inb (0 : Int32) 41) y = y := fun y => gdI (k := 0) (by omega) (by omega)
      have gv : ∀ {α : Type} (y : Option α), gd (inb (nI v) 100) y = y := fun y => gdI (by omega) (by omega)
      simp only [g3, g0, gv, show (3 : Int32).toNatClampNeg = 3 from rfl, show (0 : Int32).toNatClampNeg = 0 from rfl, e3, e0, nI_add, q7', Option.bind_some, hdf', r2]
    rw [h31]
    by_cases co : oF A t (gD A t d v) ≤ A 0
    · rw [if_neg (show ¬ nI (A 0) < nI _ from fun hh => by rw [nI_ltI (by omega) (by omega)] at hh; omega)]
      obtain ⟨ct1, dt1, s1, s2⟩ := s_comes (F := F) (w := gD A t d v) (c := (M v).1) (b := (M v).2) hg cM r4 hN
      rw [s1, Option.bind_some]
      exact h98 _ ct1 dt1 s2 (nd_step1 hD cM co)
    · rw [if_pos (show nI (A 0) < nI _ from by rw [nI_ltI (by omega) (by omega)]; omega)]
      exact h98 N ct dt hN (nd_step0 hD cM co)
