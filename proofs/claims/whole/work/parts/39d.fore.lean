theorem s_bits {F n r a : Nat} (hF : 100000 ≤ F) {A : Nat → Nat} {things may fee day isThere : Int32} {kind was by_ price side is_ items itemz sizes st : Nat → Int32} (hn12 : n ≤ 12) (hr : r < 8) (ha : a + n ≤ 40) (hit : ∀ i, i < a + n → items (40 * r + i) = itemz (40 * r + i)) (hO : OkA A) (hC : RpC A things may fee day kind was by_ price side is_) (hM : RpM A st) (fd : Int32) (fi aside : Nat → Int32) (status : Int32) :
    ∃ q d' i' st' as', f_X2_hasteBits F (nI r) (nI a) (nI n) items things day kind was by_ is_ fd fi = some (q, d', i') ∧ ((f_X7_isStealth F (-1) ((40 : Int32) * nI r + nI a) (nI n) itemz st aside).bind fun u11 => if (u11.1) = (0 : Int32) then (f_X7_stealth_70 F isThere sizes itemz status (u11.2.1) (u11.2.2) (nI r) (nI a) (nI n) (0 : Int32)) else (f_X7_stealth_70 F isThere sizes itemz status (u11.2.1) (u11.2.2) (nI r) (nI a) (nI n) (64 : Int32))) = some (q, 0, st', as') ∧ ∀ j, j < 41 → st' j = st j := by
  have hn := hO.1
  unfold f_X2_hasteBits f_X7_stealth_70 f_X2_hasteBits_19
  obtain ⟨q, d', i', st', as', q0, q1, q2, q3⟩ := s_told (F := F) hF (h := none) hn12 hr (by omega) hit hO (fun t' ht' => by cases ht') hC hM fd fi aside
  have q1' : f_X2_isToldIfHasty F (-1) (nI r) (nI a) (nI n) items things day kind was by_ is_ fd fi = some (q, d', i') := q1
  have q2' : f_X7_isStealth F (-1) ((40 : Int32) * nI r + nI a) (nI n) itemz st aside = some (q, st', as') := q2
  rw [q1', q2']
  simp only [Option.bind_some]
  have hM' := rm_st hM q3
  by_cases cq : q = 0
  · obtain ⟨q', d2, i2, st2, as2, w1, w2, w3⟩ := s_haste (F := F) hF (isThere := isThere) (sizes := sizes) hn12 hr (show a + n ≤ 40 by omega) hit hO hC (A 2) 0 F F 0 d' i' status st' as' (by omega) (by omega) (by omega) hM'
    have w1' : f_X2_hasteBits_24_r F items things day kind was by_ is_ F d' i' (nI r) (nI a) (nI n) 0 0 = some (q', d2, i2) := w1
    have w2' : f_X7_stealth_75_r F isThere sizes itemz F status st' as' (nI r) (nI a) (nI n) 0 0 = some (q', 0, st2, as2) := w2
    rw [if_pos cq, if_pos cq, w1', w2']
    exact ⟨q', d2, i2, st2, as2, rfl, rfl, fun j hj => (w3 j hj).trans (q3 j hj)⟩
  · obtain ⟨q', d2, i2, st2, as2, w1, w2, w3⟩ := s_haste (F := F) hF (isThere := isThere) (sizes := sizes) hn12 hr (show a + n ≤ 40 by omega) hit hO hC (A 2) 0 F F 64 d' i' status st' as' (by omega) (by omega) (by omega) hM'
    have w1' : f_X2_hasteBits_24_r F items things day kind was by_ is_ F d' i' (nI r) (nI a) (nI n) 64 0 = some (q', d2, i2) := w1
    have w2' : f_X7_stealth_75_r F isThere sizes itemz F status st' as' (nI r) (nI a) (nI n) 64 0 = some (q', 0, st2, as2) := w2
    rw [if_neg cq, if_neg cq, w1', w2']
    exact ⟨q', d2, i2, st2, as2, rfl, rfl, fun j hj => (w3 j hj).trans (q3 j hj)⟩
theorem k_stealth (F : Nat) (hF : 100000 ≤ F) (x1 x2 x3 : Int32) {A : Nat → Nat} {st kind was by_ price side is_ : Nat → Int32} {things may fee day isThere : Int32} {lane size items lanes sizes itemz : Nat → Int32} {finding status : Int32} (hR : IRows lane size items finding lanes sizes itemz status) (hO : OkA A) (hC : RpC A things may fee day kind was by_ price side is_) (hM : RpM A st) (hth : isThere = (if A 2 = 0 then 0 else 1)) (fd : Int32) (fi aside : Nat → Int32) :
    ∃ r f d' i' st' as', f_X6_stealth F x1 x2 x3 size items things day kind was by_ is_ finding fd fi = some (r, f, d', i') ∧ f_X7_stealth F x1 x2 x3 isThere sizes itemz status st aside = some (r, f, st', as') ∧ ∀ j, j < 41 → st' j = st j := by
  have hn := hO.1
  have hd := hO.2.2.2.1
  obtain ⟨hfs, hrow⟩ := hR
  subst hfs
  unfold f_X6_stealth f_X7_stealth f_X6_found f_X6_foundNothing
  rcases thereC hO.1 hth with ⟨-, g1, g2⟩ | ⟨gn, g1, g2⟩
  · rw [← hC.1] at g1
    rw [if_pos g1, if_pos g2]
    exact ⟨_, _, _, _, _, _, rfl, rfl, fun _ _ => rfl⟩
  rw [← hC.1] at g1
  rw [if_neg g1, if_neg g2]
  rcases rowc x1 with ⟨e1, e2⟩ | ⟨r, hr, rfl, e1, e2⟩
  · rw [e1, e2]
    exact ⟨_, _, _, _, _, _, rfl, rfl, fun _ _ => rfl⟩
  rw [e1, e2]
  rcases win x3 1 12 1 12 1 12 rfl rfl rfl rfl (by decide) (by decide) with ⟨e3, e4⟩ | ⟨n, -, hn12, rfl, e3, e4⟩
  · rw [e3, e4]
    exact ⟨_, _, _, _, _, _, rfl, rfl, fun _ _ => rfl⟩
  rw [e3, e4]
  simp only [Option.bind_some, if_neg one_ne]
  have hsz : (size r = -1 ∧ sizes r = -1) ∨ ∃ z : Nat, z ≤ 40 ∧ size r = nI z ∧ sizes r = nI z := (hrow r hr).2.elim Or.inl (fun ⟨z, a, b, c, _⟩ => Or.inr ⟨z, a, b, c⟩)
  rcases lackc (F := F) r n hr hn12 x2 finding hsz with ⟨q, hq, l1, l2⟩ | ⟨a, z, haz, hz, rfl, hsr, l1, l2⟩
  · have hq0 : ¬ q = 0 := by rcases hq with rfl | rfl <;> decide
    have hqm : ¬ (0 : Int32) ≤ -1000010 - q := by rcases hq with rfl | rfl <;> decide
    obtain ⟨e, he⟩ : ∃ e, e = (-1000010 : Int32) - q := ⟨_, rfl⟩
    rw [← he] at l2 hqm
    refine ⟨e, q, fd, fi, st, aside, ?_, ?_, fun _ _ => rfl⟩
    · rw [l1, he]
      show (if q = 0 then _ else _) = _
      rw [if_neg hq0]
    · rw [l2]
      show (if (0 : Int32) ≤ e then _ else _) = _
      rw [if_neg hqm]
  · have hit : ∀ i, i < a + n → items (40 * r + i) = itemz (40 * r + i) := by
      rcases (hrow r hr).2 with ⟨s1, s2⟩ | ⟨z', hz', s1, s2, s3⟩
      · rw [s1] at hsr
        exact absurd hsr.symm (nI_nm (k := 1) (by omega) (by omega) (by omega))
      · have : z' = z := (nI_eq (by omega) (by omega)).mp (s1.symm.trans hsr)
        exact fun i hi => s3 i (by omega)
    obtain ⟨q, d', i', st', as', q1, q2, q3⟩ := s_bits (F := F) hF (isThere := isThere) (sizes := sizes) hn12 hr (by omega) hit hO hC hM fd fi aside finding
    refine ⟨q, 0, d', i', st', as', ?_, ?_, q3⟩
    · rw [l1, Option.bind_some, if_pos rfl, q1]
      rfl
    · rw [l2, Option.bind_some, if_pos (show (0 : Int32) ≤ 0 from by decide)]
      exact q2
