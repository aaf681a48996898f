/-! the acts that can be undone -/
theorem updE {f : Nat → Int32} {i j : Nat} {v : Int32} : upd f i v j = if j = i then v else f j := by
  by_cases h : j = i
  · rw [if_pos h, h]; exact pk_us
  · rw [if_neg h, pk_un h]
theorem s_kp {F n x b : Nat} {may day cost : Int32} {is_ : Nat → Int32} (hn : n ≤ 24) (hx : x < 24) (hb : b = x * 9) : ∀ (k t fu : Nat) (K : Nat → Int32), 6 = t + k → k < fu →
    ∃ K', f_X0_keep_44_r F may day cost is_ fu (nI n) (nI x) K (nI b) (nI t) = some (nI (if n = 24 then 24 else n + 1), nI ((x + 1) % 24), K') ∧ (∀ s, t ≤ s → s < 6 → K' (b + 3 + s) = is_ s) ∧ ∀ i, i < b + 3 + t ∨ b + 9 ≤ i → K' i = K i := by
  intro k
  induction k with
  | zero =>
    intro t fu K h1 h2
    obtain ⟨fu, rfl⟩ : ∃ q, fu = q + 1 := ⟨fu - 1, by omega⟩
    refine ⟨K, ?_, fun s h3 h4 => by omega, fun i _ => rfl⟩
    show f_X0_keep_44 F _ _ _ _ _ _ _ _ _ _ = _
    unfold f_X0_keep_44 f_X0_keep_94
    by_cases c : n = 24
    · by_cases d : x = 23
      · subst c d; simp (disch := omega) only [fl32, nI_add, pk_mul, pk_rem, nI_clamp, gdI, gdZ, gdB0, gdB1, nI_leI, nI_ltI, nI_eq, if_pos, if_neg, Option.bind_some, pk_us, pk_un, nn_eq, nn_le, nn_lt, nl_eq, if_true, if_false, eq_self, nl_le]
      · rw [show (x + 1) % 24 = x + 1 from by omega]; subst c; simp (disch := omega) only [fl32, nI_add, pk_mul, pk_rem, nI_clamp, gdI, gdZ, gdB0, gdB1, nI_leI, nI_ltI, nI_eq, if_pos, if_neg, Option.bind_some, pk_us, pk_un, nn_eq, nn_le, nn_lt, nl_eq, if_true, if_false, eq_self, nl_le]
    · by_cases d : x = 23
      · subst d; simp (disch := omega) only [fl32, nI_add, pk_mul, pk_rem, nI_clamp, gdI, gdZ, gdB0, gdB1, nI_leI, nI_ltI, nI_eq, if_pos, if_neg, Option.bind_some, pk_us, pk_un, nn_eq, nn_le, nn_lt, nl_eq, if_true, if_false, eq_self, nl_le]
      · rw [show (x + 1) % 24 = x + 1 from by omega]; simp (disch := omega) only [fl32, nI_add, pk_mul, pk_rem, nI_clamp, gdI, gdZ, gdB0, gdB1, nI_leI, nI_ltI, nI_eq, if_pos, if_neg, Option.bind_some, pk_us, pk_un, nn_eq, nn_le, nn_lt, nl_eq, if_true, if_false, eq_self, nl_le]
  | succ k ih =>
    intro t fu K h1 h2
    obtain ⟨fu, rfl⟩ : ∃ q, fu = q + 1 := ⟨fu - 1, by omega⟩
    obtain ⟨K', e1, e2, e3⟩ := ih (t + 1) fu (upd K (b + 3 + t) (is_ t)) (by omega) (by omega)
    refine ⟨K', ?_, fun s h3 h4 => ?_, fun i hi => ?_⟩
    · show f_X0_keep_44 F _ _ _ _ _ _ _ _ _ _ = _
      unfold f_X0_keep_44
      simp (disch := omega) only [fl32, nI_add, pk_mul, pk_rem, nI_clamp, gdI, gdZ, gdB0, gdB1, nI_leI, nI_ltI, nI_eq, if_pos, if_neg, Option.bind_some, pk_us, pk_un, nn_eq, nn_le, nn_lt, nl_eq, if_true, if_false, eq_self, nl_le]
      exact e1
    · by_cases c : s = t
      · rw [e3 _ (by omega), c, pk_us]
      · exact e2 s (by omega) h4
    · rw [e3 i (by omega), pk_un (by omega)]
theorem s_keep {F n x : Nat} (hF : 100000 ≤ F) {may day cost : Int32} {is_ K : Nat → Int32} (hn : n ≤ 24) (hx : x < 24) :
    ∃ K', f_X0_keep F may day cost is_ (nI n) (nI x) K = some (nI (if n = 24 then 24 else n + 1), nI ((x + 1) % 24), K') ∧ K' (9 * x) = day ∧ K' (9 * x + 1) = cost ∧ K' (9 * x + 2) = may ∧ (∀ s, s < 6 → K' (9 * x + 3 + s) = is_ s) ∧ ∀ i, i < 9 * x ∨ 9 * x + 9 ≤ i → K' i = K i := by
  obtain ⟨K', e1, e2, e3⟩ := s_kp (F := F) (b := x * 9) (may := may) (day := day) (cost := cost) (is_ := is_) hn hx rfl 6 0 F (upd (upd (upd K (x * 9) day) (x * 9 + 1) cost) (x * 9 + 2) may) (by omega) (by omega)
  have e9 : x * 9 = 9 * x := Nat.mul_comm x 9
  refine ⟨K', ?_, ?_, ?_, ?_, fun s hs => ?_, fun i hi => ?_⟩
  · unfold f_X0_keep
    simp (disch := omega) only [fl32, nI_add, pk_mul, pk_rem, nI_clamp, gdI, gdZ, gdB0, gdB1, nI_leI, nI_ltI, nI_eq, if_pos, if_neg, Option.bind_some, pk_us, pk_un, nn_eq, nn_le, nn_lt, nl_eq, if_true, if_false, eq_self, nl_le]
    exact e1
  · rw [e3 _ (by omega), pk_un (by omega), pk_un (by omega), ← e9, pk_us]
  · rw [e3 _ (by omega), pk_un (by omega), ← e9, pk_us]
  · rw [e3 _ (by omega), ← e9, pk_us]
  · rw [← e9]; exact e2 s (by omega) hs
  · rw [e3 i (by omega), pk_un (by omega), pk_un (by omega), pk_un (by omega)]
theorem s_nt {F m : Nat} {st : Nat → Int32} (hm : m < 24) : ∀ (k t fu : Nat) (K : Nat → Int32), 41 = t + k → k < fu →
    ∃ K', f_X7_note_51_r F st fu (nI m) K (nI t) = some (nI (m + 1), K') ∧ (∀ s, t ≤ s → s < 41 → K' (41 * m + s) = st s) ∧ ∀ i, i < 41 * m + t → K' i = K i := by
  intro k
  induction k with
  | zero =>
    intro t fu K h1 h2
    obtain ⟨fu, rfl⟩ : ∃ q, fu = q + 1 := ⟨fu - 1, by omega⟩
    refine ⟨K, ?_, fun s h3 h4 => by omega, fun i _ => rfl⟩
    show f_X7_note_51 F _ _ _ _ _ = _
    unfold f_X7_note_51
    simp (disch := omega) only [fl32, nI_add, pk_mul, pk_rem, nI_clamp, gdI, gdZ, gdB0, gdB1, nI_leI, nI_ltI, nI_eq, if_pos, if_neg, Option.bind_some, pk_us, pk_un, nn_eq, nn_le, nn_lt, nl_eq, if_true, if_false, eq_self, nl_le]
  | succ k ih =>
    intro t fu K h1 h2
    obtain ⟨fu, rfl⟩ : ∃ q, fu = q + 1 := ⟨fu - 1, by omega⟩
    obtain ⟨K', e1, e2, e3⟩ := ih (t + 1) fu (upd K (41 * m + t) (st t)) (by omega) (by omega)
    refine ⟨K', ?_, fun s h3 h4 => ?_, fun i hi => ?_⟩
    · show f_X7_note_51 F _ _ _ _ _ = _
      unfold f_X7_note_51
      simp (disch := omega) only [fl32, nI_add, pk_mul, pk_rem, nI_clamp, gdI, gdZ, gdB0, gdB1, nI_leI, nI_ltI, nI_eq, if_pos, if_neg, Option.bind_some, pk_us, pk_un, nn_eq, nn_le, nn_lt, nl_eq, if_true, if_false, eq_self, nl_le]
      exact e1
    · by_cases c : s = t
      · rw [e3 _ (by omega), c, pk_us]
      · exact e2 s (by omega) h4
    · rw [e3 i (by omega), pk_un (by omega)]
theorem s_nt2 {F : Nat} (hF : 100000 ≤ F) {st : Nat → Int32} : ∀ (k t fu : Nat) (K : Nat → Int32), 943 = t + k → k < fu →
    ∃ K', f_X7_note_11_r F st fu (nI 24) K (nI t) = some (nI 24, K') ∧ (∀ s, s < 41 → K' (943 + s) = st s) ∧ (∀ i, t ≤ i → i < 943 → K' i = K (i + 41)) ∧ ∀ i, i < t → K' i = K i := by
  intro k
  induction k with
  | zero =>
    intro t fu K h1 h2
    obtain ⟨fu, rfl⟩ : ∃ q, fu = q + 1 := ⟨fu - 1, by omega⟩
    obtain ⟨K', e1, e2, e3⟩ := s_nt (F := F) (m := 23) (st := st) (by omega) 41 0 F K (by omega) (by omega)
    refine ⟨K', ?_, fun s hs => e2 s (by omega) hs, fun i h3 h4 => by omega, fun i hi => e3 i (by omega)⟩
    show f_X7_note_11 F _ _ _ _ _ = _
    unfold f_X7_note_11 f_X7_note_49
    simp (disch := omega) only [fl32, nI_add, pk_mul, pk_rem, nI_clamp, gdI, gdZ, gdB0, gdB1, nI_leI, nI_ltI, nI_eq, if_pos, if_neg, Option.bind_some, pk_us, pk_un, nn_eq, nn_le, nn_lt, nl_eq, if_true, if_false, eq_self, nl_le, pk_sub]
    exact e1
  | succ k ih =>
    intro t fu K h1 h2
    obtain ⟨fu, rfl⟩ : ∃ q, fu = q + 1 := ⟨fu - 1, by omega⟩
    obtain ⟨K', e1, e2, e3, e4⟩ := ih (t + 1) fu (upd K t (K (t + 41))) (by omega) (by omega)
    refine ⟨K', ?_, e2, fun i h3 h4 => ?_, fun i hi => ?_⟩
    · show f_X7_note_11 F _ _ _ _ _ = _
      unfold f_X7_note_11
      simp (disch := omega) only [fl32, nI_add, pk_mul, pk_rem, nI_clamp, gdI, gdZ, gdB0, gdB1, nI_leI, nI_ltI, nI_eq, if_pos, if_neg, Option.bind_some, pk_us, pk_un, nn_eq, nn_le, nn_lt, nl_eq, if_true, if_false, eq_self, nl_le]
      exact e1
    · by_cases c : i = t
      · rw [e4 _ (by omega), c, pk_us]
      · rw [e3 i (by omega) h4, pk_un (by omega)]
    · rw [e4 i (by omega), pk_un (by omega)]
theorem s_note {F n : Nat} (hF : 100000 ≤ F) {st K : Nat → Int32} (hn : n ≤ 24) :
    ∃ K', f_X7_note F st (nI n) K = some (nI (if n = 24 then 24 else n + 1), K') ∧ (∀ s, s < 41 → K' (41 * (if n = 24 then 23 else n) + s) = st s) ∧ ∀ i, i < 41 * (if n = 24 then 23 else n) → K' i = K (if n = 24 then i + 41 else i) := by
  unfold f_X7_note
  by_cases c : n = 24
  · subst c
    obtain ⟨K', e1, e2, e3, -⟩ := s_nt2 (F := F) hF (st := st) 943 0 F K (by omega) (by omega)
    refine ⟨K', ?_, fun s hs => e2 s hs, fun i hi => e3 i (by omega) hi⟩
    rw [if_pos rfl, if_pos (show nI 24 = (24 : Int32) from rfl)]
    exact e1
  · obtain ⟨K', e1, e2, e3⟩ := s_nt (F := F) (m := n) (st := st) (by omega) 41 0 F K (by omega) (by omega)
    simp only [if_neg c]
    refine ⟨K', ?_, fun s hs => e2 s (by omega) hs, fun i hi => e3 i (by omega)⟩
    rw [if_neg (show ¬ nI n = (24 : Int32) from fun e => c ((nI_eq (by omega) (by omega)).mp e))]
    exact e1
/-- an act is kept, on both sides -/
theorem acts_keep {F : Nat} (hF : 100000 ≤ F) {A : Nat → Nat} {many next actMany may day cost : Int32} {is_ st kept acts : Nat → Int32} (hO : OkA A) (hmay : may = nI (A 0)) (hday : day = nI (A 3)) (his : ∀ t, t < A 2 → is_ t = nI (A (35 + t))) (hM : RpM A st) (h4 : st 4 = cost) (hI : IActs A many next kept actMany acts) :
    ∃ many' next' kept' acts', f_X0_keep F may day cost is_ many next kept = some (many', next', kept') ∧ f_X7_note F st actMany acts = some (many', acts') ∧ ∀ A' : Nat → Nat, (∀ i, i < 35 → i ≠ 0 → i ≠ 3 → i ≠ 4 → A' i = A i) → IActs A' many' next' kept' many' acts' := by
  obtain ⟨n, x, S, hn, hx, rfl, rfl, rfl, hj⟩ := hI
  have h26 := hO.1
  obtain ⟨K, k1, k2, k3, k4, k5, k6⟩ := s_keep (F := F) hF (may := may) (day := day) (cost := cost) (is_ := is_) (K := kept) hn hx
  obtain ⟨Q, q1, q2, q3⟩ := s_note (F := F) hF (st := st) (K := acts) hn
  refine ⟨_, _, K, Q, k1, q1, fun A' hA' => ?_⟩
  have h2 := hA' 2 (by omega) (by omega) (by omega) (by omega)
  by_cases c : n = 24
  · subst c
    simp only [if_true] at q2 q3 ⊢
    refine ⟨24, (x + 1) % 24, fun j => if j = 23 then A else S (j + 1), by omega, by omega, rfl, rfl, rfl, fun j hj24 => ?_⟩
    by_cases cj : j = 23
    · subst cj
      have es : ((x + 1) % 24 + 24 - 24 + 23) % 24 = x := by omega
      rw [es]
      simp only [if_true]
      refine ⟨hO, fun i a b c d => (hA' i a b c d).symm, fun i hi h4 => ?_, by rw [k2, hday], ?_, by rw [k4, hmay], fun t ht => ?_⟩
      · rw [q2 i hi]; exact hM i hi h4
      · rw [k3, q2 4 (by omega), h4]
      · rw [k5 t (by omega)]; exact his t (by omega)
    · simp only [if_neg cj]
      obtain ⟨g1, g2, g3, g4, g5, g6, g7⟩ := hj (j + 1) (by omega)
      have es : ((x + 1) % 24 + 24 - 24 + j) % 24 = (x + 24 - 24 + (j + 1)) % 24 := by omega
      rw [es]
      have hne : (x + 24 - 24 + (j + 1)) % 24 ≠ x := by omega
      generalize (x + 24 - 24 + (j + 1)) % 24 = y at *
      have hQ : ∀ i, i < 41 → Q (41 * j + i) = acts (41 * (j + 1) + i) := fun i hi => by rw [q3 _ (by omega)]; congr 1; omega
      refine ⟨g1, fun i a b c d => by rw [g2 i a b c d, hA' i a b c d], fun i hi h4 => by rw [hQ i hi]; exact g3 i hi h4, ?_, ?_, ?_, fun t ht => ?_⟩
      · rw [k6 _ (by omega)]; exact g4
      · rw [k6 _ (by omega), hQ 4 (by omega)]; exact g5
      · rw [k6 _ (by omega)]; exact g6
      · rw [k6 _ (by omega)]; exact g7 t (by omega)
  · simp only [if_neg c] at q2 q3 ⊢
    refine ⟨n + 1, (x + 1) % 24, fun j => if j = n then A else S j, by omega, by omega, rfl, rfl, rfl, fun j hj24 => ?_⟩
    by_cases cj : j = n
    · subst cj
      have es : ((x + 1) % 24 + 24 - (j + 1) + j) % 24 = x := by omega
      rw [es]
      simp only [if_true]
      refine ⟨hO, fun i a b c d => (hA' i a b c d).symm, fun i hi h4 => ?_, by rw [k2, hday], ?_, by rw [k4, hmay], fun t ht => ?_⟩
      · rw [q2 i hi]; exact hM i hi h4
      · rw [k3, q2 4 (by omega), h4]
      · rw [k5 t (by omega)]; exact his t (by omega)
    · simp only [if_neg cj]
      obtain ⟨g1, g2, g3, g4, g5, g6, g7⟩ := hj j (by omega)
      have es : ((x + 1) % 24 + 24 - (n + 1) + j) % 24 = (x + 24 - n + j) % 24 := by omega
      rw [es]
      have hne : (x + 24 - n + j) % 24 ≠ x := by omega
      generalize (x + 24 - n + j) % 24 = y at *
      have hQ : ∀ i, i < 41 → Q (41 * j + i) = acts (41 * j + i) := fun i hi => q3 _ (by omega)
      refine ⟨g1, fun i a b c d => by rw [g2 i a b c d, hA' i a b c d], fun i hi h4 => by rw [hQ i hi]; exact g3 i hi h4, ?_, ?_, ?_, fun t ht => ?_⟩
      · rw [k6 _ (by omega)]; exact g4
      · rw [k6 _ (by omega), hQ 4 (by omega)]; exact g5
      · rw [k6 _ (by omega)]; exact g6
      · rw [k6 _ (by omega)]; exact g7 t (by omega)
theorem s_tk {F n x b : Nat} {may day cost : Int32} {kept : Nat → Int32} (hx : x < 24) (hb : b = x * 9) : ∀ (k t fu : Nat) (K : Nat → Int32), 6 = t + k → k < fu →
    ∃ K', f_X0_takeBack_76_r F kept fu may day cost K (nI n) (nI x) (nI b) (nI t) = some (nI n, may, day, cost, K', nI n, nI x) ∧ (∀ s, t ≤ s → s < 6 → K' s = kept (b + 3 + s)) ∧ ∀ i, i < t → K' i = K i := by
  intro k
  induction k with
  | zero =>
    intro t fu K h1 h2
    obtain ⟨fu, rfl⟩ : ∃ q, fu = q + 1 := ⟨fu - 1, by omega⟩
    refine ⟨K, ?_, fun s h3 h4 => by omega, fun i _ => rfl⟩
    show f_X0_takeBack_76 F _ _ _ _ _ _ _ _ _ _ = _
    unfold f_X0_takeBack_76
    simp (disch := omega) only [fl32, nI_add, pk_mul, pk_rem, nI_clamp, gdI, gdZ, gdB0, gdB1, nI_leI, nI_ltI, nI_eq, if_pos, if_neg, Option.bind_some, pk_us, pk_un, nn_eq, nn_le, nn_lt, nl_eq, if_true, if_false, eq_self, nl_le]
  | succ k ih =>
    intro t fu K h1 h2
    obtain ⟨fu, rfl⟩ : ∃ q, fu = q + 1 := ⟨fu - 1, by omega⟩
    obtain ⟨K', e1, e2, e3⟩ := ih (t + 1) fu (upd K t (kept (b + 3 + t))) (by omega) (by omega)
    refine ⟨K', ?_, fun s h3 h4 => ?_, fun i hi => ?_⟩
    · show f_X0_takeBack_76 F _ _ _ _ _ _ _ _ _ _ = _
      unfold f_X0_takeBack_76
      simp (disch := omega) only [fl32, nI_add, pk_mul, pk_rem, nI_clamp, gdI, gdZ, gdB0, gdB1, nI_leI, nI_ltI, nI_eq, if_pos, if_neg, Option.bind_some, pk_us, pk_un, nn_eq, nn_le, nn_lt, nl_eq, if_true, if_false, eq_self, nl_le]
      exact e1
    · by_cases c : s = t
      · rw [e3 _ (by omega), c, pk_us]
      · exact e2 s (by omega) h4
    · rw [e3 i (by omega), pk_un (by omega)]
theorem s_takeBack {F n x : Nat} (hF : 100000 ≤ F) {may day cost : Int32} {is_ kept : Nat → Int32} (hn : n < 24) (hx : x < 24) :
    ∃ K', f_X0_takeBack F kept may day cost is_ (nI (n + 1)) (nI x) = some (nI n, kept (9 * ((x + 23) % 24) + 2), kept (9 * ((x + 23) % 24)), kept (9 * ((x + 23) % 24) + 1), K', nI n, nI ((x + 23) % 24)) ∧ ∀ s, s < 6 → K' s = kept (9 * ((x + 23) % 24) + 3 + s) := by
  have hy : (x + 23) % 24 < 24 := by omega
  have e9 : ((x + 23) % 24) * 9 = 9 * ((x + 23) % 24) := Nat.mul_comm _ 9
  obtain ⟨K', e1, e2, -⟩ := s_tk (F := F) (n := n) (b := (x + 23) % 24 * 9) (may := kept ((x + 23) % 24 * 9 + 2)) (day := kept ((x + 23) % 24 * 9)) (cost := kept ((x + 23) % 24 * 9 + 1)) (kept := kept) hy rfl 6 0 F is_ (by omega) (by omega)
  refine ⟨K', ?_, fun s hs => by rw [← e9]; exact e2 s (by omega) hs⟩
  rw [← e9]
  unfold f_X0_takeBack f_X0_takeBack_19
  by_cases c : x = 0
  · subst c
    simp (disch := omega) only [fl32, nI_add, pk_mul, pk_rem, nI_clamp, gdI, gdZ, gdB0, gdB1, nI_leI, nI_ltI, nI_eq, if_pos, if_neg, Option.bind_some, pk_us, pk_un, nn_eq, nn_le, nn_lt, nl_eq, if_true, if_false, eq_self, nl_le, pk_sub, Nat.add_sub_cancel]
    exact e1
  · have es : (x + 23) % 24 = x - 1 := by omega
    rw [es] at e1 ⊢
    simp (disch := omega) only [fl32, nI_add, pk_mul, pk_rem, nI_clamp, gdI, gdZ, gdB0, gdB1, nI_leI, nI_ltI, nI_eq, if_pos, if_neg, Option.bind_some, pk_us, pk_un, nn_eq, nn_le, nn_lt, nl_eq, if_true, if_false, eq_self, nl_le, pk_sub, Nat.add_sub_cancel]
    exact e1
theorem s_undo {F n : Nat} {acts : Nat → Int32} (hn : n < 24) : ∀ (k t fu : Nat) (K : Nat → Int32), 41 = t + k → k < fu →
    ∃ K', f_X7_undo_22_r F acts fu (nI n) K (nI t) = some (nI n, nI n, K') ∧ (∀ s, t ≤ s → s < 41 → K' s = acts (41 * n + s)) ∧ ∀ i, i < t → K' i = K i := by
  intro k
  induction k with
  | zero =>
    intro t fu K h1 h2
    obtain ⟨fu, rfl⟩ : ∃ q, fu = q + 1 := ⟨fu - 1, by omega⟩
    refine ⟨K, ?_, fun s h3 h4 => by omega, fun i _ => rfl⟩
    show f_X7_undo_22 F _ _ _ _ _ = _
    unfold f_X7_undo_22
    simp (disch := omega) only [fl32, nI_add, pk_mul, pk_rem, nI_clamp, gdI, gdZ, gdB0, gdB1, nI_leI, nI_ltI, nI_eq, if_pos, if_neg, Option.bind_some, pk_us, pk_un, nn_eq, nn_le, nn_lt, nl_eq, if_true, if_false, eq_self, nl_le]
  | succ k ih =>
    intro t fu K h1 h2
    obtain ⟨fu, rfl⟩ : ∃ q, fu = q + 1 := ⟨fu - 1, by omega⟩
    obtain ⟨K', e1, e2, e3⟩ := ih (t + 1) fu (upd K t (acts (41 * n + t))) (by omega) (by omega)
    refine ⟨K', ?_, fun s h3 h4 => ?_, fun i hi => ?_⟩
    · show f_X7_undo_22 F _ _ _ _ _ = _
      unfold f_X7_undo_22
      simp (disch := omega) only [fl32, nI_add, pk_mul, pk_rem, nI_clamp, gdI, gdZ, gdB0, gdB1, nI_leI, nI_ltI, nI_eq, if_pos, if_neg, Option.bind_some, pk_us, pk_un, nn_eq, nn_le, nn_lt, nl_eq, if_true, if_false, eq_self, nl_le]
      exact e1
    · by_cases c : s = t
      · rw [e3 _ (by omega), c, pk_us]
      · exact e2 s (by omega) h4
    · rw [e3 i (by omega), pk_un (by omega)]
theorem k_undo (F : Nat) (hF : 100000 ≤ F) {things may fee day cost : Int32} {kind was by_ price side is_ : Nat → Int32} {many next : Int32} {kept : Nat → Int32} {isThere : Int32} {st : Nat → Int32} {actMany : Int32} {acts : Nat → Int32} (hL : ILand things may fee day cost kind was by_ price side is_ many next kept isThere st actMany acts) :
    ∃ (uc : Int32 × Int32 × Int32 × Int32 × (Nat → Int32) × Int32 × Int32) (um : Int32 × Int32 × (Nat → Int32)), f_X6_undo F kept may day cost is_ many next = some uc ∧ f_X7_undo F acts actMany st = some um ∧ uc.1 = um.1 ∧ ILand things uc.2.1 fee uc.2.2.1 uc.2.2.2.1 kind was by_ price side uc.2.2.2.2.1 uc.2.2.2.2.2.1 uc.2.2.2.2.2.2 kept isThere um.2.2 um.2.1 acts := by
  obtain ⟨A, hO, ⟨rfl, rfl, rfl, rfl, hc⟩, hM, h4, hth, n, x, S, hn, hx, rfl, rfl, rfl, hj⟩ := hL
  have h26 := hO.1
  unfold f_X6_undo f_X7_undo
  cases n with
  | zero =>
    rw [if_pos (show nI 0 = (0 : Int32) from rfl)]
    exact ⟨_, _, rfl, rfl, rfl, A, hO, ⟨rfl, rfl, rfl, rfl, hc⟩, hM, h4, hth, 0, x, S, hn, hx, rfl, rfl, rfl, hj⟩
  | succ n =>
    have hne : ¬ nI (n + 1) = (0 : Int32) := nI_ne0 (by omega) (by omega)
    obtain ⟨K, e1, e2⟩ := s_takeBack (F := F) (n := n) (x := x) hF (may := nI (A 0)) (day := nI (A 3)) (cost := cost) (is_ := is_) (kept := kept) (by omega) hx
    obtain ⟨Q, q1, q2, -⟩ := s_undo (F := F) (n := n) (acts := acts) (by omega) 41 0 F st (by omega) (by omega)
    rw [if_neg hne, if_neg hne, e1]
    have hp : nI (n + 1) - (1 : Int32) = nI n := nI_pred n
    rw [hp]
    obtain ⟨g1, g2, g3, g4, g5, g6, g7⟩ := hj n (by omega)
    have es : (x + 24 - (n + 1) + n) % 24 = (x + 23) % 24 := by omega
    rw [es] at g4 g5 g6 g7
    have h2 := g2 2 (by omega) (by omega) (by omega) (by omega)
    refine ⟨_, _, rfl, q1, rfl, S n, g1, ⟨by rw [h2], g6, by rw [g2 1 (by omega) (by omega) (by omega) (by omega)], g4, fun t ht => ?_⟩, fun i hi h4 => ?_, ?_, by rw [h2]; exact hth, n, (x + 23) % 24, S, by omega, by omega, rfl, rfl, rfl, fun j hjn => ?_⟩
    · rw [h2] at ht
      obtain ⟨c1, c2, c3, c4, c5, c6⟩ := hc t ht
      rw [g2 (5 + t) (by omega) (by omega) (by omega) (by omega), g2 (11 + t) (by omega) (by omega) (by omega) (by omega), g2 (17 + t) (by omega) (by omega) (by omega) (by omega), g2 (23 + t) (by omega) (by omega) (by omega) (by omega), g2 (29 + t) (by omega) (by omega) (by omega) (by omega)]
      refine ⟨c1, c2, c3, c4, c5, ?_⟩
      show K t = _
      rw [e2 t (by omega)]
      exact g7 t ht
    · show Q i = _
      rw [q2 i (by omega) hi]
      exact g3 i hi h4
    · show Q 4 = _
      rw [q2 4 (by omega) (by omega)]
      exact g5.symm
    · obtain ⟨j1, j2, j3, j4, j5, j6, j7⟩ := hj j (by omega)
      have es2 : ((x + 23) % 24 + 24 - n + j) % 24 = (x + 24 - (n + 1) + j) % 24 := by omega
      rw [es2, h2]
      exact ⟨j1, fun i a b c d => by rw [j2 i a b c d, g2 i a b c d], j3, j4, j5, j6, j7⟩
