/-! cheapest: both together -/
theorem ch131 {F y : Nat} {M : Nat → Nat × Nat} {st cb db ct dt : Nat → Int32} (hR : RM M cb db) : ∀ (k v fu u : Nat), 100 = v + k → k < fu → u < 100 → (∀ w, w < v → le2 (M u) (M w)) → ∃ u0, u0 < 100 ∧ (∀ w, w < 100 → le2 (M u0) (M w)) ∧ f_X7_cheapest_131_r F st fu cb db ct dt (nI y) (nI u) (nI v) = some (if nI y = (0 : Int32) then nI (M u0).1 else nI (M u0).2, cb, db, ct, dt) := by
  intro k
  induction k with
  | zero =>
    intro v fu u h1 hf hu hle
    obtain ⟨fu, rfl⟩ : ∃ q, fu = q + 1 := ⟨fu - 1, by omega⟩
    obtain ⟨r1, r2, -, -⟩ := hR u hu
    refine ⟨u, hu, fun w hw => hle w (by omega), ?_⟩
    show f_X7_cheapest_131 F _ _ _ _ _ _ _ _ _ = _
    unfold f_X7_cheapest_131
    rw [if_pos (show (99 : Int32) < nI v from by rw [show v = 100 from by omega]; decide), gdI (by omega) (by omega), gdI (by omega) (by omega), nI_clamp (by omega), r1, r2]
    by_cases c : nI y = (0 : Int32)
    · rw [if_pos c, if_pos c]
    · rw [if_neg c, if_neg c]
  | succ k ih =>
    intro v fu u h1 hf hu hle
    obtain ⟨fu, rfl⟩ : ∃ q, fu = q + 1 := ⟨fu - 1, by omega⟩
    obtain ⟨r1, r2, r3, r4⟩ := hR u hu
    obtain ⟨q1, q2, q3, q4⟩ := hR v (by omega)
    have gv : ∀ {α : Type} (x : Option α), gd (inb (nI v) 100) x = x := fun x => gdI (by omega) (by omega)
    have gu : ∀ {α : Type} (x : Option α), gd (inb (nI u) 100) x = x := fun x => gdI (by omega) (by omega)
    have hun : f_X7_cheapest_131_r F st (fu + 1) cb db ct dt (nI y) (nI u) (nI v) = (if nI (M v).1 < nI (M u).1 then f_X7_cheapest_131_r F st fu cb db ct dt (nI y) (nI v) (nI (v + 1)) else if nI (M v).1 = nI (M u).1 then (if nI (M u).2 ≤ nI (M v).2 then f_X7_cheapest_131_r F st fu cb db ct dt (nI y) (nI u) (nI (v + 1)) else f_X7_cheapest_131_r F st fu cb db ct dt (nI y) (nI v) (nI (v + 1))) else f_X7_cheapest_131_r F st fu cb db ct dt (nI y) (nI u) (nI (v + 1))) := by
      show f_X7_cheapest_131 F _ _ _ _ _ _ _ _ _ = _
      unfold f_X7_cheapest_131 f_X7_cheapest_189 f_X7_cheapest_193 f_X7_cheapest_194 f_X7_cheapest_208
      rw [if_neg (show ¬ (99 : Int32) < nI v from fun hh => by rw [show (99 : Int32) = nI 99 from rfl, nI_ltI (by omega) (by omega)] at hh; omega)]
      simp only [gv, gu, nI_clamp (show v < 2147483648 by omega), nI_clamp (show u < 2147483648 by omega), r1, r2, q1, q2, if_neg one_ne, if_true, nI_s1]
    have up : le2 (M v) (M u) → ∀ w, w < v + 1 → le2 (M v) (M w) := fun h w hw => by
      by_cases c : w = v
      · rw [c]; exact le2_refl _
      · exact le2_trans h (hle w (by omega))
    have stay : le2 (M u) (M v) → ∀ w, w < v + 1 → le2 (M u) (M w) := fun h w hw => by
      by_cases c : w = v
      · rw [c]; exact h
      · exact hle w (by omega)
    rw [hun]
    by_cases c1 : (M v).1 < (M u).1
    · rw [if_pos ((nI_ltI (by omega) (by omega)).mpr c1)]
      exact ih (v + 1) fu v (by omega) (by omega) (by omega) (up (Or.inl c1))
    · rw [if_neg (fun e => c1 ((nI_ltI (by omega) (by omega)).mp e))]
      by_cases c2 : (M v).1 = (M u).1
      · rw [if_pos (show nI (M v).1 = nI (M u).1 from by rw [c2])]
        by_cases c3 : (M u).2 ≤ (M v).2
        · rw [if_pos ((nI_leI (by omega) (by omega)).mpr c3)]
          exact ih (v + 1) fu u (by omega) (by omega) hu (stay (Or.inr ⟨c2.symm, c3⟩))
        · rw [if_neg (fun e => c3 ((nI_leI (by omega) (by omega)).mp e))]
          exact ih (v + 1) fu v (by omega) (by omega) (by omega) (up (Or.inr ⟨c2, by omega⟩))
      · rw [if_neg (fun e => c2 ((nI_eq (by omega) (by omega)).mp e))]
        exact ih (v + 1) fu u (by omega) (by omega) hu (stay (Or.inl (by omega)))
theorem ch98 {F t n y : Nat} (hF : 100000 ≤ F) {A : Nat → Nat} {st : Nat → Int32} {E : Nat → Nat × Nat} (hO : OkA A) (ht : t < A 2) (hn : n ≤ 24) (hM : RpM A st) (hE : EN2 A t n E) : ∀ (k d fu : Nat) (cb db ct dt : Nat → Int32) (M : Nat → Nat × Nat), n = d + k → k < fu → RM M cb db → MI A t E d M → ∃ M' u0 r cb' db' ct' dt', MI A t E n M' ∧ u0 < 100 ∧ (∀ w, w < 100 → le2 (M' u0) (M' w)) ∧ r = (if nI y = (0 : Int32) then nI (M' u0).1 else nI (M' u0).2) ∧ f_X7_cheapest_98_r F st fu cb db ct dt (nI t) (nI n) (nI y) (nI d) = some (r, cb', db', ct', dt') := by
  have h26 := hO.1
  have q11 := hM (11 + t) (by omega) (by omega)
  have b := hO.2.2.2.2 t ht
  have hEb := EN2_b hO ht hE
  intro k
  induction k with
  | zero =>
    intro d fu cb db ct dt M h1 hf hR hI
    obtain ⟨fu, rfl⟩ : ∃ q, fu = q + 1 := ⟨fu - 1, by omega⟩
    obtain ⟨u0, g1, g2, g3⟩ := ch131 (F := F) (y := y) (st := st) (ct := ct) (dt := dt) hR 100 0 F (A (11 + t)) (by omega) (by omega) (by omega) (fun w hw => by omega)
    refine ⟨M, u0, _, cb, db, ct, dt, by rw [show n = d from by omega]; exact hI, g1, g2, rfl, ?_⟩
    show f_X7_cheapest_98 F _ _ _ _ _ _ _ _ _ _ = _
    unfold f_X7_cheapest_98
    rw [if_pos (show nI n ≤ nI d from by rw [nI_leI (by omega) (by omega)]; omega), show (11 : Int32) + nI t = nI (11 + t) from nI_add 11 t, gdI (by omega) (by omega), nI_clamp (by omega), q11]
    exact g3
  | succ k ih =>
    intro d fu cb db ct dt M h1 hf hR hI
    obtain ⟨fu, rfl⟩ : ∃ q, fu = q + 1 := ⟨fu - 1, by omega⟩
    obtain ⟨cb1, db1, ct1, dt1, N, g1, g2, g3⟩ := s_nextDay (F := F) hF hO ht (show d < 24 by omega) hM hR (fun v hv hc => by
      obtain ⟨l, l1, l2, l3, l4⟩ := hI.1 v hv hc
      obtain ⟨e1, e2⟩ := hEb l (by omega)
      rw [l4]
      have : 2 ^ l ≤ 2 ^ d := Nat.pow_le_pow_right (by omega) l1
      omega) ct dt
    obtain ⟨M', u0, r, cb', db', ct', dt', i1, i2, i3, i4, i5⟩ := ih (d + 1) fu cb1 db1 ct1 dt1 N (by omega) (by omega) g2 (mi_step hO ht hn (by omega) hE hI g3)
    refine ⟨M', u0, r, cb', db', ct', dt', i1, i2, i3, i4, ?_⟩
    show f_X7_cheapest_98 F _ _ _ _ _ _ _ _ _ _ = _
    unfold f_X7_cheapest_98
    rw [if_neg (show ¬ nI n ≤ nI d from fun hh => by rw [nI_leI (by omega) (by omega)] at hh; omega), g1, Option.bind_some, nI_s1]
    exact i5
theorem ch47 {F t n y : Nat} (hF : 100000 ≤ F) {A : Nat → Nat} {st : Nat → Int32} (hO : OkA A) (ht : t < A 2) (hM : RpM A st) : ∀ (k v fu : Nat) (cb db ct dt : Nat → Int32), 100 = v + k → k < fu → (∀ w, w < v → cb w = nI (if w = A (35 + t) then 0 else 1000000) ∧ db w = nI 0) → ∃ cb' db', RM (fun w => (if w = A (35 + t) then 0 else 1000000, 0)) cb' db' ∧ f_X7_cheapest_47_r F st fu cb db ct dt (nI t) (nI n) (nI y) (nI v) = f_X7_cheapest_98_r F st F cb' db' ct dt (nI t) (nI n) (nI y) 0 := by
  have h26 := hO.1
  have q35 := hM (35 + t) (by omega) (by omega)
  have b := hO.2.2.2.2 t ht
  intro k
  induction k with
  | zero =>
    intro v fu cb db ct dt h1 hf hc
    obtain ⟨fu, rfl⟩ : ∃ q, fu = q + 1 := ⟨fu - 1, by omega⟩
    refine ⟨cb, db, fun w hw => ⟨(hc w (by omega)).1, (hc w (by omega)).2, by show (if w = A (35 + t) then 0 else 1000000) ≤ 1000000; split <;> omega, by show 0 < 16777216; omega⟩, ?_⟩
    show f_X7_cheapest_47 F _ _ _ _ _ _ _ _ _ _ = _
    unfold f_X7_cheapest_47
    rw [if_pos (show (99 : Int32) < nI v from by rw [show v = 100 from by omega]; decide)]
  | succ k ih =>
    intro v fu cb db ct dt h1 hf hc
    obtain ⟨fu, rfl⟩ : ∃ q, fu = q + 1 := ⟨fu - 1, by omega⟩
    obtain ⟨cb', db', g1, g2⟩ := ih (v + 1) fu (upd cb v (nI (if v = A (35 + t) then 0 else 1000000))) (upd db v (nI 0)) ct dt (by omega) (by omega) (fun w hw => by
      by_cases c : w = v
      · rw [c, pk_us, pk_us]; exact ⟨rfl, rfl⟩
      · rw [pk_un c, pk_un c]; exact hc w (by omega))
    refine ⟨cb', db', g1, ?_⟩
    rw [← g2]
    show f_X7_cheapest_47 F _ _ _ _ _ _ _ _ _ _ = _
    unfold f_X7_cheapest_47 f_X7_cheapest_80
    rw [if_neg (show ¬ (99 : Int32) < nI v from fun hh => by rw [show (99 : Int32) = nI 99 from rfl, nI_ltI (by omega) (by omega)] at hh; omega), show (35 : Int32) + nI t = nI (35 + t) from nI_add 35 t, gdI (by omega) (by omega), nI_clamp (by omega), q35, gdI (by omega) (by omega), gdI (by omega) (by omega), gdI (by omega) (by omega), gdI (by omega) (by omega), nI_clamp (by omega), nI_s1]
    by_cases c : v = A (35 + t)
    · rw [if_pos (show nI v = nI (A (35 + t)) from by rw [c]), if_pos c]
      rfl
    · rw [if_neg (show ¬ nI v = nI (A (35 + t)) from fun e => c ((nI_eq (by omega) (by omega)).mp e)), if_neg c]
      rfl
theorem k_cheapest (F : Nat) (hF : 100000 ≤ F) (x1 x2 x3 : Int32) {A : Nat → Nat} {st kind was by_ price side is_ : Nat → Int32} {things may fee day : Int32} (hO : OkA A) (hC : RpC A things may fee day kind was by_ price side is_) (hM : RpM A st) (lc lb : Int32) (cs bs cb db ct dt : Nat → Int32) :
    ∃ r a b c d e f g h, f_X6_cheapest F x1 x2 x3 things may fee day kind was by_ price is_ lc lb cs bs = some (r, a, b, c, d) ∧ f_X7_cheapest F x1 x2 x3 st cb db ct dt = some (r, e, f, g, h) := by
  obtain ⟨rfl, rfl, rfl, rfl, hc⟩ := hC
  have e2 := hM 2 (by omega) (by omega)
  have hn6 := hO.1
  unfold f_X6_cheapest f_X7_cheapest f_X2_planPutBacks
  rcases thc x1 (A 2) hO.1 with ⟨g1, g2⟩ | ⟨t, ht, rfl, g1, g2⟩
  · rw [g1, g2 F st e2]
    exact ⟨_, _, _, _, _, _, _, _, _, rfl, rfl⟩
  rw [g1, g2 F st e2]
  rcases win x2 1 24 1 24 1 24 rfl rfl rfl rfl (by decide) (by decide) with ⟨e1, e2⟩ | ⟨n, hn1, hn, rfl, e1, e2⟩
  · rw [e1, e2]
    exact ⟨_, _, _, _, _, _, _, _, _, rfl, rfl⟩
  rw [e1, e2]
  rcases win x3 0 1 0 1 0 1 rfl rfl rfl rfl (by decide) (by decide) with ⟨e5, e6⟩ | ⟨y, -, hy, rfl, e5, e6⟩
  · rw [e5, e6]
    exact ⟨_, _, _, _, _, _, _, _, _, rfl, rfl⟩
  rw [e5, e6]
  obtain ⟨b1, b2, -⟩ := hO.2.2.2.2 t ht
  obtain ⟨c1, c2, c3, c4, c5, c6⟩ := hc t ht
  have hp3 := s_isPersonAt (F := F) (show t < 6 by omega) c1 b2
  have hp7 := s_isPeople (F := F) hM (show t < 6 by omega) b2
  simp only [Option.bind_some, if_neg one_ne, hp3, hp7]
  by_cases cp : 4 ≤ A (5 + t)
  · simp only [if_pos cp, if_neg (show ¬ nI 1 = (0 : Int32) from by decide)]
    exact ⟨_, _, _, _, _, _, _, _, _, rfl, rfl⟩
  simp only [if_neg cp, if_pos (show nI 0 = (0 : Int32) from rfl)]
  obtain ⟨l', b', cost', bits', k1, k2⟩ := pl2 (F := F) hF hO ht hn c1 c2 c3 c4 c6 n 1 F lc lb cs bs (by omega) (by omega) (by omega) (fun e h1 h2 => by omega)
  have k1' : f_X2_planPutBacks_2_r F (nI (A 0)) (nI (A 1)) (nI (A 3)) kind was by_ price is_ F lc lb cs bs (nI t) (nI n) 1 = some (l', b', cost', bits') := k1
  obtain ⟨cb1, db1, m1, m2⟩ := ch47 (F := F) (n := n) (y := y) hF hO ht hM 100 0 F cb db ct dt (by omega) (by omega) (fun w hw => by omega)
  have m2' : f_X7_cheapest_47_r F st F cb db ct dt (nI t) (nI n) (nI y) 0 = _ := m2
  have hE := EE_ok hO ht hn
  have hI0 : MI A t (EE A t n) 0 (fun w => (if w = A (35 + t) then 0 else 1000000, 0)) := by
    refine ⟨fun v hv hcc => ⟨0, Nat.le_refl _, fun e h1 h2 => by omega, ?_, ?_⟩, fun l hl _ => ?_⟩
    · by_cases c : v = A (35 + t)
      · rw [c]; rfl
      · simp only [if_neg c] at hcc
        omega
    · by_cases c : v = A (35 + t)
      · rw [EE_0]
        simp only [if_pos c]
      · simp only [if_neg c] at hcc
        omega
    · have el : l = 0 := by omega
      subst el
      rw [EE_0]
      show le2 ((if A (35 + t) = A (35 + t) then 0 else 1000000), 0) (0, 0)
      rw [if_pos rfl]
      exact le2_refl _
  obtain ⟨M', u0, r, cb', db', ct', dt', i1, i2, i3, i4, i5⟩ := ch98 (F := F) (n := n) (y := y) hF hO ht hn hM hE n 0 F cb1 db1 ct dt _ (by omega) (by omega) m1 hI0
  have i5' : f_X7_cheapest_98_r F st F cb1 db1 ct dt (nI t) (nI n) (nI y) 0 = _ := i5
  have hEb := EN2_b hO ht hE
  have key : ∃ l1, l' = nI (EE A t n l1).1 ∧ b' = nI (EE A t n l1).2 ∧ M' u0 = EE A t n l1 := by
    rcases k2 with ⟨-, h2⟩ | ⟨l1, h1, h2, h3, h4, h5⟩
    · exact absurd (fun e h3 h4 => by omega) (h2 n (by omega))
    · refine ⟨l1, h3, h4, ?_⟩
      have a1 := le2_trans (i3 _ (VV_lt hO ht (n - l1))) (i1.2 l1 (by omega) h2)
      have a2 := (hEb l1 (by omega)).1
      obtain ⟨l2, p1, p2, p3, p4⟩ := i1.1 u0 i2 (by unfold le2 at a1; omega)
      rw [p4] at a1 ⊢
      exact le2_anti a1 (h5 l2 (by omega) p2)
  obtain ⟨l1, j1, j2, j3⟩ := key
  rw [k1', m2', i5', Option.bind_some, i4, j3, j1, j2]
  by_cases cy : nI y = (0 : Int32)
  · rw [if_pos cy, if_pos cy]
    exact ⟨_, _, _, _, _, _, _, _, _, rfl, rfl⟩
  · rw [if_neg cy, if_neg cy]
    exact ⟨_, _, _, _, _, _, _, _, _, rfl, rfl⟩
