/-! match: the class goes through the same cases, but for those that can't stand -/
def Ex (n t c : Nat) : Nat → Nat := fun s => dg n (t - 1 - s) c
theorem Ex_lo {n t c u s : Nat} (hn : 0 < n) (hu : u < n) (hs : s < t) : Ex n (t + 1) (c * n + u) s = Ex n t c s := by
  unfold Ex
  rw [show t + 1 - 1 - s = (t - 1 - s) + 1 from by omega]
  show dg n (t - 1 - s) ((c * n + u) / n) = _
  rw [Nat.mul_comm c n, Nat.mul_add_div hn, Nat.div_eq_of_lt hu, Nat.add_zero]
theorem Ex_at {n t c u : Nat} (hu : u < n) : Ex n (t + 1) (c * n + u) t = u := by
  unfold Ex
  rw [show t + 1 - 1 - t = 0 from by omega]
  show (c * n + u) % n = u
  rw [Nat.mul_comm c n, Nat.mul_add_mod, Nat.mod_eq_of_lt hu]
theorem Ex_D {n t j c x s : Nat} (hnt : n = t + j) (hx : x / n ^ j = c) (hs : s < t) : D n x s = Ex n t c s := by
  unfold D Ex
  rw [dg_div, dg_div, ← hx, Nat.div_div_eq_div_mul, ← Nat.pow_add, show j + (t - 1 - s) = n - 1 - s from by omega]
theorem PV_pre {A : Nat → Nat} {n t j c x : Nat} (hnt : n = t + j) (hx : x / n ^ j = c) (h : PV A n (D n x)) : PV A t (Ex n t c) :=
  ⟨fun s hs => by rw [← Ex_D hnt hx hs]; exact h.1 s (by omega), fun s s' h1 h2 => by rw [← Ex_D hnt hx (by omega), ← Ex_D hnt hx h2]; exact h.2 s s' h1 (by omega)⟩
def RB (A : Nat → Nat) (n x : Nat) (least : Int32) (best : Nat → Int32) : Prop := (BB A n x = none ∧ least = 1000000000) ∨ ∃ y o, BB A n x = some (y, o) ∧ o < 1000 ∧ least = nI o ∧ ∀ s, s < n → best s = nI (D n y s)
theorem RB_no {A : Nat → Nat} {n t j c : Nat} {least : Int32} {best : Nat → Int32} (hn : 0 < n) (hnt : n = t + j) (hv : ¬ PV A t (Ex n t c)) (h : RB A n (c * n ^ j) least best) : RB A n ((c + 1) * n ^ j) least best := by
  have e : BB A n ((c + 1) * n ^ j) = BB A n (c * n ^ j) := by
    rw [Nat.add_mul, Nat.one_mul]
    refine BB_no (n ^ j) (fun x h1 h2 hp => hv (PV_pre hnt ?_ hp))
    have hpos : 0 < n ^ j := Nat.pow_pos hn
    have hr : x - c * n ^ j < n ^ j := by omega
    rw [show x = n ^ j * c + (x - c * n ^ j) from by rw [Nat.mul_comm]; omega, Nat.mul_add_div hpos, Nat.div_eq_of_lt hr, Nat.add_zero]
  unfold RB
  rw [e]
  exact h
theorem s_kb {F n : Nat} {place : Nat → Int32} {lo : Int32} (hn6 : n ≤ 6) : ∀ (k t fu : Nat) (K : Nat → Int32), n = t + k → k < fu →
    ∃ K', f_X2_keepPlacesIfBest_15_r F (nI n) place fu lo K (nI t) = some (lo, K') ∧ (∀ s, t ≤ s → s < n → K' s = place s) ∧ ∀ i, i < t → K' i = K i := by
  intro k
  induction k with
  | zero =>
    intro t fu K h1 h2
    obtain ⟨fu, rfl⟩ : ∃ q, fu = q + 1 := ⟨fu - 1, by omega⟩
    refine ⟨K, ?_, fun s h3 h4 => by omega, fun i _ => rfl⟩
    show f_X2_keepPlacesIfBest_15 F _ _ _ _ _ _ = _
    unfold f_X2_keepPlacesIfBest_15
    simp (disch := omega) only [fl32, nI_add, pk_mul, pk_rem, nI_clamp, gdI, gdZ, gdB0, gdB1, nI_leI, nI_ltI, nI_eq, if_pos, if_neg, Option.bind_some, pk_us, pk_un, nn_eq, nn_le, nn_lt, nl_eq, if_true, if_false, eq_self, nl_le]
  | succ k ih =>
    intro t fu K h1 h2
    obtain ⟨fu, rfl⟩ : ∃ q, fu = q + 1 := ⟨fu - 1, by omega⟩
    obtain ⟨K', e1, e2, e3⟩ := ih (t + 1) fu (upd K t (place t)) (by omega) (by omega)
    refine ⟨K', ?_, fun s h3 h4 => ?_, fun i hi => ?_⟩
    · show f_X2_keepPlacesIfBest_15 F _ _ _ _ _ _ = _
      unfold f_X2_keepPlacesIfBest_15
      simp (disch := omega) only [fl32, nI_add, pk_mul, pk_rem, nI_clamp, gdI, gdZ, gdB0, gdB1, nI_leI, nI_ltI, nI_eq, if_pos, if_neg, Option.bind_some, pk_us, pk_un, nn_eq, nn_le, nn_lt, nl_eq, if_true, if_false, eq_self, nl_le]
      exact e1
    · by_cases c : s = t
      · rw [e3 _ (by omega), c, pk_us]
      · exact e2 s (by omega) h4
    · rw [e3 i (by omega), pk_un (by omega)]
theorem RB_last {F n c : Nat} (hF : 100000 ≤ F) {A : Nat → Nat} {least : Int32} {place best : Nat → Int32} (hn6 : n ≤ 6) (hv : PV A n (D n c)) (ho : sumN (wS A (D n c)) n < 1000) (hp : ∀ s, s < n → place s = nI (D n c s)) (h : RB A n c least best) : ∃ least' best', f_X2_keepPlacesIfBest F (nI (sumN (wS A (D n c)) n)) (nI n) place least best = some (least', best') ∧ RB A n (c + 1) least' best' := by
  generalize hS : sumN (wS A (D n c)) n = o at ho
  have e : BB A n (c + 1) = (match BB A n c with | none => some (c, o) | some (y, o') => if o < o' then some (c, o) else some (y, o')) := by
    show @ite _ (PV A n (D n c)) (Classical.propDecidable _) _ (BB A n c) = _
    rw [if_pos hv, hS]
    cases BB A n c with
    | none => rfl
    | some v => rfl
  unfold f_X2_keepPlacesIfBest
  obtain ⟨K, k1, k2, -⟩ := s_kb (F := F) (n := n) (place := place) (lo := nI o) hn6 n 0 F best (by omega) (by omega)
  have k1' : f_X2_keepPlacesIfBest_15_r F (nI n) place F (nI o) best 0 = some (nI o, K) := k1
  rcases h with ⟨h1, h2⟩ | ⟨y, o', h1, h2, h3, h4⟩
  · rw [h1] at e
    refine ⟨nI o, K, ?_, Or.inr ⟨c, o, e, ho, rfl, fun s hs => by rw [k2 s (by omega) hs]; exact hp s hs⟩⟩
    rw [h2, if_neg (show ¬ (1000000000 : Int32) ≤ nI o from fun hh => by rw [show (1000000000 : Int32) = nI 1000000000 from rfl, nI_leI (by omega) (by omega)] at hh; omega)]
    exact k1'
  · rw [h1] at e
    simp only at e
    by_cases c1 : o < o'
    · rw [if_pos c1] at e
      refine ⟨nI o, K, ?_, Or.inr ⟨c, o, e, ho, rfl, fun s hs => by rw [k2 s (by omega) hs]; exact hp s hs⟩⟩
      rw [h3, if_neg (show ¬ nI o' ≤ nI o from fun hh => by rw [nI_leI (by omega) (by omega)] at hh; omega)]
      exact k1'
    · rw [if_neg c1] at e
      refine ⟨least, best, ?_, Or.inr ⟨y, o', e, h2, h3, h4⟩⟩
      rw [h3, if_pos (show nI o' ≤ nI o from by rw [nI_leI (by omega) (by omega)]; omega)]
theorem bt_z {d m : Nat} (h : ¬ bt d m = 1) : bt d m = 0 := by
  have : bt d m < 2 := Nat.mod_lt _ (by omega)
  omega
theorem tk_bit {m u : Nat} (hm : m < 64) (hu : u ≤ 9) : ((nI m >>> (nI u &&& 31)) &&& 1 = (0 : Int32)) = (bt u m = 0) := by
  have hq : m / 2 ^ u ≤ m := Nat.div_le_self _ _
  rw [pk_shrN (by omega) _ u (smb hu), pk_andN (by omega) (m := 1) 1 (by decide), Nat.pow_one]
  show (nI (bt u m) = nI 0) = _
  have : bt u m < 2 := Nat.mod_lt _ (by omega)
  exact propext (nI_eq (by omega) (by omega))
theorem wS_le {A : Nat → Nat} {n s : Nat} {E : Nat → Nat} (hT : OkT A) (h2 : A 2 = n) (hs : s < n) (hE : E s < n) : wS A E s ≤ 99 := by
  have b1 := hT.2.2.2 s (by omega)
  have b2 := hT.2.2.2 (E s) (by omega)
  unfold wS
  have : df (A (35 + s)) (A (11 + E s)) ≤ 99 := by unfold df; omega
  split <;> omega
theorem dfs {F n : Nat} (hF : 100000 ≤ F) {A : Nat → Nat} {kind was lis : Nat → Int32} (hT : OkT A) (h2 : A 2 = n) (hn : 0 < n) (hk : ∀ t, t < n → kind t = nI (A (5 + t))) (hw : ∀ t, t < n → was t = nI (A (11 + t))) (hl : ∀ t, t < n → lis t = nI (A (35 + t))) : ∀ (j t d c m : Nat) (least : Int32) (place best : Nat → Int32), n = t + j → j < d → PV A t (Ex n t c) → m < 64 → (∀ u, u < 6 → (bt u m = 1 ↔ ∃ s, s < t ∧ prS A s ∧ Ex n t c s = u)) → (∀ s, s < t → place s = nI (Ex n t c s)) → RB A n (c * n ^ j) least best →
    ∃ least' place' best', f_X2_placeFrom F d (nI t) (nI m) (nI (sumN (wS A (Ex n t c)) t)) (nI n) kind was lis least place best = some (least', place', best') ∧ RB A n ((c + 1) * n ^ j) least' best' ∧ ∀ s, s < t → place' s = place s := by
  have hn6 : n ≤ 6 := by have := hT.1; omega
  intro j
  induction j with
  | zero =>
    intro t d c m least place best hnt hd hv hm hb hp hR
    obtain ⟨d, rfl⟩ : ∃ q, d = q + 1 := ⟨d - 1, by omega⟩
    have et : t = n := by omega
    subst et
    rw [Nat.pow_zero, Nat.mul_one] at hR
    rw [Nat.pow_zero, Nat.mul_one]
    have hsl : sumN (wS A (D t c)) t < 1000 := by
      have := sumN_le (f := wS A (D t c)) (m := 99) t (fun s hs => wS_le hT h2 hs (dg_lt hn _ _))
      have h6 : t * 99 ≤ 6 * 99 := Nat.mul_le_mul_right _ hn6
      omega
    obtain ⟨least', best', e1, e2⟩ := RB_last (F := F) hF hn6 hv hsl hp hR
    refine ⟨least', place, best', ?_, e2, fun _ _ => rfl⟩
    show f_X2_placeFrom_b F _ _ _ _ _ _ _ _ _ _ _ = _
    unfold f_X2_placeFrom_b
    rw [if_neg (show ¬ nI t < nI t from fun hh => by rw [nI_ltI (by omega) (by omega)] at hh; omega)]
    have e1' : f_X2_keepPlacesIfBest F (nI (sumN (wS A (Ex t t c)) t)) (nI t) place least best = some (least', best') := e1
    rw [e1']
    rfl
  | succ j ih =>
    intro t d c m least place best hnt hd hv hm hb hp hR
    obtain ⟨d, rfl⟩ : ∃ q, d = q + 1 := ⟨d - 1, by omega⟩
    have ht : t < n := by omega
    obtain ⟨b1, b2, b3, b4, b5, b6, b7, b8, b9⟩ := hT.2.2.2 t (by omega)
    have hpt := s_isPersonAt (F := F) (show t < 6 by omega) (hk t ht) b2
    have epow : ∀ u, (c * n + u) * n ^ j = c * n ^ (j + 1) + u * n ^ j := fun u => by rw [Nat.add_mul, Nat.pow_succ, Nat.mul_assoc, Nat.mul_comm n (n ^ j)]
    have hsumE : ∀ u, u < n → sumN (wS A (Ex n (t + 1) (c * n + u))) (t + 1) = sumN (wS A (Ex n t c)) t + wS A (fun _ => u) t := fun u hu => by
      show sumN (wS A (Ex n (t + 1) (c * n + u))) t + wS A (Ex n (t + 1) (c * n + u)) t = _
      congr 1
      · refine sumN_congr _ (fun s hs => ?_)
        unfold wS
        rw [Ex_lo hn hu hs]
      · unfold wS
        rw [Ex_at hu]
    -- one place for thing t, u: the class goes on with it, or it can't stand
    have rec1 : ∀ (u m' : Nat) (least : Int32) (place best : Nat → Int32), u < n → PV A (t + 1) (Ex n (t + 1) (c * n + u)) → m' < 64 → (∀ w, w < 6 → (bt w m' = 1 ↔ ∃ s, s < t + 1 ∧ prS A s ∧ Ex n (t + 1) (c * n + u) s = w)) → (∀ s, s < t → place s = nI (Ex n t c s)) → RB A n ((c * n + u) * n ^ j) least best → ∃ least' place' best', f_X2_placeFrom F d (nI (t + 1)) (nI m') (nI (sumN (wS A (Ex n t c)) t + wS A (fun _ => u) t)) (nI n) kind was lis least (upd place t (nI u)) best = some (least', place', best') ∧ RB A n ((c * n + (u + 1)) * n ^ j) least' best' ∧ ∀ s, s < t → place' s = place s := by
      intro u m' least place best hu hv' hm' hb' hp' hR'
      obtain ⟨l', p', b', g1, g2, g3⟩ := ih (t + 1) d (c * n + u) m' least (upd place t (nI u)) best (by omega) (by omega) hv' hm' hb' (fun s hs => by
        by_cases cs : s = t
        · rw [cs, pk_us, Ex_at hu]
        · rw [pk_un cs, Ex_lo hn hu (by omega)]; exact hp' s (by omega)) hR'
      rw [hsumE u hu] at g1
      refine ⟨l', p', b', g1, ?_, fun s hs => by rw [g3 s (by omega), pk_un (by omega)]⟩
      rw [← Nat.add_assoc]
      exact g2
    have skip : ∀ (u : Nat) (least : Int32) (best : Nat → Int32), ¬ PV A (t + 1) (Ex n (t + 1) (c * n + u)) → RB A n ((c * n + u) * n ^ j) least best → RB A n ((c * n + (u + 1)) * n ^ j) least best := fun u least best hv' hR' => by
      rw [← Nat.add_assoc]
      exact RB_no hn (show n = t + 1 + j by omega) hv' hR'
    have hR0 : RB A n ((c * n + 0) * n ^ j) least best := by
      rw [epow 0, Nat.zero_mul, Nat.add_zero]; exact hR
    have hend : (c * n + n) * n ^ j = (c + 1) * n ^ (j + 1) := by
      rw [epow n, Nat.add_mul, Nat.one_mul, Nat.pow_succ, Nat.mul_comm n (n ^ j)]
    show ∃ least' place' best', f_X2_placeFrom_b F (f_X2_placeFrom F d) _ _ _ _ _ _ _ _ _ _ = some (least', place', best') ∧ _
    unfold f_X2_placeFrom_b
    rw [if_pos (show nI t < nI n from by rw [nI_ltI (by omega) (by omega)]; omega), hpt, Option.bind_some]
    by_cases c4 : 4 ≤ A (5 + t)
    · -- a person
      have loop : ∀ (i u fu : Nat) (least : Int32) (place best : Nat → Int32), n = u + i → i < fu → (∀ s, s < t → place s = nI (Ex n t c s)) → RB A n ((c * n + u) * n ^ j) least best → ∃ least' place' best', f_X2_placeFrom_48_r F (f_X2_placeFrom F d) (nI n) kind was lis fu least place best (nI t) (nI m) (nI (sumN (wS A (Ex n t c)) t)) (nI u) = some (least', place', best') ∧ RB A n ((c * n + n) * n ^ j) least' best' ∧ ∀ s, s < t → place' s = place s := by
        intro i
        induction i with
        | zero =>
          intro u fu least place best h1 hf hp' hR'
          obtain ⟨fu, rfl⟩ : ∃ q, fu = q + 1 := ⟨fu - 1, by omega⟩
          refine ⟨least, place, best, ?_, by rw [show n = u from by omega] at hR' ⊢; exact hR', fun _ _ => rfl⟩
          show f_X2_placeFrom_48 F _ _ _ _ _ _ _ _ _ _ _ _ _ = _
          unfold f_X2_placeFrom_48
          rw [if_pos (show nI n ≤ nI u from by rw [nI_leI (by omega) (by omega)]; omega)]
        | succ i ihi =>
          intro u fu least place best h1 hf hp' hR'
          obtain ⟨fu, rfl⟩ : ∃ q, fu = q + 1 := ⟨fu - 1, by omega⟩
          have hu : u < n := by omega
          obtain ⟨u1, u2, u3, -⟩ := hT.2.2.2 u (by omega)
          have hpu := s_isPersonAt (F := F) (show u < 6 by omega) (hk u hu) u2
          have ho := s_offIf (F := F) (t := u) (a := A (35 + t)) (show u < 6 by omega) (hw u hu) (by omega) (by omega)
          have hbit := tk_bit (m := m) (u := u) hm (by omega)
          have hunf : f_X2_placeFrom_48 F (f_X2_placeFrom F d) (nI n) kind was lis (f_X2_placeFrom_48_r F (f_X2_placeFrom F d) (nI n) kind was lis fu) least place best (nI t) (nI m) (nI (sumN (wS A (Ex n t c)) t)) (nI u) = (if (nI (if 4 ≤ A (5 + u) then 1 else 0)) = (0 : Int32) then f_X2_placeFrom_48_r F (f_X2_placeFrom F d) (nI n) kind was lis fu least place best (nI t) (nI m) (nI (sumN (wS A (Ex n t c)) t)) (nI (u + 1)) else if ((nI m >>> (nI u &&& 31)) &&& 1) = (0 : Int32) then (f_X2_placeFrom F d (nI (t + 1)) (nI m ||| ((1 : Int32) <<< (nI u &&& 31))) (nI (sumN (wS A (Ex n t c)) t) + nI (df (A (35 + t)) (A (11 + u)))) (nI n) kind was lis least (upd place t (nI u)) best).bind fun u10 => f_X2_placeFrom_48_r F (f_X2_placeFrom F d) (nI n) kind was lis fu u10.1 u10.2.1 u10.2.2 (nI t) (nI m) (nI (sumN (wS A (Ex n t c)) t)) (nI (u + 1)) else f_X2_placeFrom_48_r F (f_X2_placeFrom F d) (nI n) kind was lis fu least place best (nI t) (nI m) (nI (sumN (wS A (Ex n t c)) t)) (nI (u + 1))) := by
            unfold f_X2_placeFrom_48 f_X2_placeFrom_122
            rw [if_neg (show ¬ nI n ≤ nI u from by rw [nI_leI (by omega) (by omega)]; omega), hpu, Option.bind_some]
            have g6 : ∀ {α : Type} (x : Option α), gd (inb (nI t) 6) x = x := fun x => gdI (by omega) (by omega)
            simp only [g6, nI_clamp (show t < 2147483648 by omega), hl t ht, ho, Option.bind_some, nI_s1]
          by_cases c5 : 4 ≤ A (5 + u)
          · by_cases cb : bt u m = 0
            · have hor := or_b ⟨m, hm⟩ ⟨u, by omega⟩
              have hor' : nI m ||| ((1 : Int32) <<< (nI u &&& 31)) = nI (m ||| 2 ^ u) := hor
              have hbo : ∀ w, w < 6 → bt w (m ||| 2 ^ u) = if w = u then 1 else bt w m := fun w hw6 => bt_or ⟨m, hm⟩ ⟨w, hw6⟩ ⟨u, by omega⟩
              have hnot : ∀ s, s < t → prS A s → Ex n t c s ≠ u := fun s hs hps e => by
                have := (hb u (by omega)).mpr ⟨s, hs, hps, e⟩
                omega
              have hv' : PV A (t + 1) (Ex n (t + 1) (c * n + u)) := by
                refine ⟨fun s hs => ?_, fun s s' h1 h2 => ?_⟩
                · by_cases cs : s = t
                  · rw [cs, Ex_at hu]; exact Or.inl ⟨c4, c5⟩
                  · rw [Ex_lo hn hu (by omega)]; exact hv.1 s (by omega)
                · by_cases cs : s' = t
                  · rw [cs, Ex_at hu, Ex_lo hn hu (by omega)]
                    rcases hv.1 s (by omega) with ⟨w1, -⟩ | ⟨w1, w2⟩
                    · exact hnot s (by omega) w1
                    · rw [w2]
                      intro e
                      rw [e] at w1
                      exact w1 c5
                  · rw [Ex_lo hn hu (by omega), Ex_lo hn hu (by omega)]; exact hv.2 s s' h1 (by omega)
              obtain ⟨l', p', b', g1, g2, g3⟩ := rec1 u (m ||| 2 ^ u) least place best hu hv' (or_lt ⟨m, hm⟩ ⟨u, by omega⟩) (fun w hw6 => by
                rw [hbo w hw6]
                by_cases cw : w = u
                · rw [if_pos cw]
                  exact ⟨fun _ => ⟨t, by omega, c4, by rw [Ex_at hu, cw]⟩, fun _ => rfl⟩
                · rw [if_neg cw, hb w hw6]
                  constructor
                  · rintro ⟨s, a1, a2, a3⟩
                    exact ⟨s, by omega, a2, by rw [Ex_lo hn hu a1]; exact a3⟩
                  · rintro ⟨s, a1, a2, a3⟩
                    by_cases cs : s = t
                    · rw [cs, Ex_at hu] at a3; exact absurd a3.symm cw
                    · rw [Ex_lo hn hu (by omega)] at a3
                      exact ⟨s, by omega, a2, a3⟩) hp' hR'
              have ews : wS A (fun _ => u) t = df (A (35 + t)) (A (11 + u)) := if_pos c4
              rw [ews] at g1
              obtain ⟨l2, p2, b2', k1, k2, k3⟩ := ihi (u + 1) fu l' p' b' (by omega) (by omega) (fun s hs => by rw [g3 s hs]; exact hp' s hs) g2
              refine ⟨l2, p2, b2', ?_, k2, fun s hs => by rw [k3 s hs, g3 s hs]⟩
              show f_X2_placeFrom_48 F _ _ _ _ _ _ _ _ _ _ _ _ _ = _
              rw [hunf, if_pos c5, if_neg (show ¬ nI 1 = (0 : Int32) from by decide), if_pos (hbit.mpr cb), hor', nI_add, g1, Option.bind_some]
              exact k1
            · have hnv : ¬ PV A (t + 1) (Ex n (t + 1) (c * n + u)) := fun hv' => by
                have h1 : bt u m = 1 := by have : bt u m < 2 := Nat.mod_lt _ (by omega); omega
                obtain ⟨s, a1, a2, a3⟩ := (hb u (by omega)).mp h1
                have := hv'.2 s t a1 (by omega)
                rw [Ex_at hu, Ex_lo hn hu a1] at this
                exact this a3
              obtain ⟨l2, p2, b2', k1, k2, k3⟩ := ihi (u + 1) fu least place best (by omega) (by omega) hp' (skip u least best hnv hR')
              refine ⟨l2, p2, b2', ?_, k2, k3⟩
              show f_X2_placeFrom_48 F _ _ _ _ _ _ _ _ _ _ _ _ _ = _
              rw [hunf, if_pos c5, if_neg (show ¬ nI 1 = (0 : Int32) from by decide), if_neg (fun e => cb (hbit.mp e))]
              exact k1
          · have hnv : ¬ PV A (t + 1) (Ex n (t + 1) (c * n + u)) := fun hv' => by
              have := hv'.1 t (by omega)
              rw [Ex_at hu] at this
              rcases this with ⟨-, w⟩ | ⟨w, -⟩
              · exact c5 w
              · exact w c4
            obtain ⟨l2, p2, b2', k1, k2, k3⟩ := ihi (u + 1) fu least place best (by omega) (by omega) hp' (skip u least best hnv hR')
            refine ⟨l2, p2, b2', ?_, k2, k3⟩
            show f_X2_placeFrom_48 F _ _ _ _ _ _ _ _ _ _ _ _ _ = _
            rw [hunf, if_neg c5, if_pos (show nI 0 = (0 : Int32) from rfl)]
            exact k1
      obtain ⟨l2, p2, b2', k1, k2, k3⟩ := loop n 0 F least place best (by omega) (by omega) hp hR0
      rw [if_pos c4, if_neg (show ¬ nI 1 = (0 : Int32) from by decide)]
      rw [hend] at k2
      exact ⟨l2, p2, b2', k1, k2, k3⟩
    · -- a thing stays where it is
      have nvu : ∀ u, u < n → u ≠ t → ¬ PV A (t + 1) (Ex n (t + 1) (c * n + u)) := fun u hu hne hv' => by
        have := hv'.1 t (by omega)
        rw [Ex_at hu] at this
        rcases this with ⟨w, -⟩ | ⟨-, w⟩
        · exact c4 w
        · exact hne w
      have before : ∀ u, u ≤ t → RB A n ((c * n + u) * n ^ j) least best := by
        intro u
        induction u with
        | zero => intro _; exact hR0
        | succ u ihu => intro hu; exact skip u least best (nvu u (by omega) (by omega)) (ihu (by omega))
      have hv' : PV A (t + 1) (Ex n (t + 1) (c * n + t)) := by
        refine ⟨fun s hs => ?_, fun s s' h1 h2 => ?_⟩
        · by_cases cs : s = t
          · rw [cs, Ex_at ht]; exact Or.inr ⟨c4, rfl⟩
          · rw [Ex_lo hn ht (by omega)]; exact hv.1 s (by omega)
        · by_cases cs : s' = t
          · rw [cs, Ex_at ht, Ex_lo hn ht (by omega)]
            rcases hv.1 s (by omega) with ⟨-, w1⟩ | ⟨w1, w2⟩
            · intro e; rw [e] at w1; exact c4 w1
            · rw [w2]; omega
          · rw [Ex_lo hn ht (by omega), Ex_lo hn ht (by omega)]; exact hv.2 s s' h1 (by omega)
      obtain ⟨l', p', b', g1, g2, g3⟩ := rec1 t m least place best ht hv' hm (fun w hw6 => by
        rw [hb w hw6]
        constructor
        · rintro ⟨s, a1, a2, a3⟩
          exact ⟨s, by omega, a2, by rw [Ex_lo hn ht a1]; exact a3⟩
        · rintro ⟨s, a1, a2, a3⟩
          by_cases cs : s = t
          · rw [cs] at a2; exact absurd a2 c4
          · rw [Ex_lo hn ht (by omega)] at a3
            exact ⟨s, by omega, a2, a3⟩) hp (before t (Nat.le_refl t))
      have ews : wS A (fun _ => t) t = 0 := if_neg c4
      rw [ews] at g1
      replace g1 : f_X2_placeFrom F d (nI (t + 1)) (nI m) (nI (sumN (wS A (Ex n t c)) t)) (nI n) kind was lis least (upd place t (nI t)) best = some (l', p', b') := g1
      have after : ∀ i, t + 1 + i ≤ n → RB A n ((c * n + (t + 1 + i)) * n ^ j) l' b' := by
        intro i
        induction i with
        | zero => intro _; exact g2
        | succ i ihi => intro hi; exact skip (t + 1 + i) l' b' (nvu (t + 1 + i) (by omega) (by omega)) (ihi (by omega))
      have hfin := after (n - (t + 1)) (by omega)
      rw [show t + 1 + (n - (t + 1)) = n from by omega, hend] at hfin
      rw [if_neg c4, if_pos (show nI 0 = (0 : Int32) from rfl), gdI (by omega) (by omega), nI_clamp (by omega), nI_s1, g1]
      exact ⟨l', p', b', rfl, hfin, g3⟩
