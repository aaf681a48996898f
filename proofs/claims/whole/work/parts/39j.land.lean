/-! a land's text, from its beginning to its end -/
section LANDQ
variable {F z : Nat} {bytes tape : Nat → Int32} {C : Nat → Nat}
theorem lt_ (h : Chs z C bytes tape) (hF : 100000 ≤ F) {a s : Nat} {pl tk vl : Int32} (ha : a ≤ z) (hs : Ltr s) (ht : TokAt F z tape a pl tk vl) : f_X7_isLetter F (nI s) tk vl = some (if a < z ∧ C a = s then 1 else 0) := by
  by_cases c : a < z ∧ C a = s
  · rw [if_pos c]
    obtain ⟨c1, rfl⟩ := c
    obtain ⟨rfl, rfl, rfl⟩ := tok_un ht (fun t v b => tk1 h hF c1 hs)
    unfold f_X7_isLetter
    rw [if_pos rfl, if_pos rfl]
  · rw [if_neg c]
    exact (tks0 (wr := 0) h hF ha (by unfold Ltr at hs; omega) c ht).1
/-- the kind that a letter tells, 0 if none -/
def kN (c : Nat) : Nat := if c = 103 then 1 else if c = 102 then 2 else if c = 115 then 3 else if c = 112 then 4 else if c = 119 then 5 else 0
theorem kN_c {c : Nat} (hc : c ≤ 255) : f_X5_kindOfSort F (nI c) = some (if kN c = 0 then -1000000 else nI (kN c)) := by
  unfold f_X5_kindOfSort kN
  by_cases c1 : c = 103
  · subst c1; rfl
  by_cases c2 : c = 102
  · subst c2; rfl
  by_cases c3 : c = 115
  · subst c3; rfl
  by_cases c4 : c = 112
  · subst c4; rfl
  by_cases c5 : c = 119
  · subst c5; rfl
  have ne : ∀ k, k ≤ 255 → c ≠ k → ¬ nI c = nI k := fun k hk hne e => hne ((nI_eq (by omega) (by omega)).mp e)
  rw [if_neg (show ¬ nI c = (102 : Int32) from ne 102 (by omega) c2), if_neg (show ¬ nI c = (103 : Int32) from ne 103 (by omega) c1), if_neg (show ¬ nI c = (112 : Int32) from ne 112 (by omega) c4), if_neg (show ¬ nI c = (115 : Int32) from ne 115 (by omega) c3), if_neg (show ¬ nI c = (119 : Int32) from ne 119 (by omega) c5)]
  rw [if_neg c1, if_neg c2, if_neg c3, if_neg c4, if_neg c5, if_pos rfl]
theorem kN_le (c : Nat) : kN c ≤ 5 := by unfold kN; repeat' split
                                         all_goals omega
theorem kN_l {c : Nat} (h : kN c ≠ 0) : Ltr c := by
  unfold kN at h
  unfold Ltr
  by_cases c1 : c = 103
  · omega
  by_cases c2 : c = 102
  · omega
  by_cases c3 : c = 115
  · omega
  by_cases c4 : c = 112
  · omega
  by_cases c5 : c = 119
  · omega
  rw [if_neg c1, if_neg c2, if_neg c3, if_neg c4, if_neg c5] at h
  exact absurd rfl h
def kA (z : Nat) (C : Nat → Nat) (a : Nat) : Nat := if a < z then kN (C a) else 0
theorem rl90 (h : Chs z C bytes tape) (hF : 100000 ≤ F) {a : Nat} {pl tk vl beg wr : Int32} {read : Nat → Int32} {k69 : Int32 → Int32 → Int32 → Int32 → Int32 → (Nat → Int32) → Int32 → Option (Int32 × Int32 × Int32 × Int32 × Int32 × Int32 × (Nat → Int32))} (ha : a ≤ z) (ht : TokAt F z tape a pl tk vl) : f_X7_readLand_90 F (nI z) tape k69 pl tk vl beg wr read = f_X7_readLand_156 F (nI z) tape k69 pl tk vl beg wr read (nI (kA z C a)) := by
  have l1 : f_X7_isLetter F 103 tk vl = _ := lt_ (s := 103) h hF ha (by unfold Ltr; omega) ht
  have l2 : f_X7_isLetter F 102 tk vl = _ := lt_ (s := 102) h hF ha (by unfold Ltr; omega) ht
  have l3 : f_X7_isLetter F 115 tk vl = _ := lt_ (s := 115) h hF ha (by unfold Ltr; omega) ht
  have l4 : f_X7_isLetter F 112 tk vl = _ := lt_ (s := 112) h hF ha (by unfold Ltr; omega) ht
  have l5 : f_X7_isLetter F 119 tk vl = _ := lt_ (s := 119) h hF ha (by unfold Ltr; omega) ht
  unfold f_X7_readLand_90 kA kN
  rw [l1, l2, l3, l4, l5]
  by_cases c : a < z
  · simp only [if_pos c, c, true_and]
    by_cases c1 : C a = 103
    · simp only [if_pos c1, Option.bind_some, if_neg one_ne]; rfl
    simp only [if_neg c1, Option.bind_some, if_true]
    by_cases c2 : C a = 102
    · simp only [if_pos c2, Option.bind_some, if_neg one_ne]; rfl
    simp only [if_neg c2, Option.bind_some, if_true]
    by_cases c3 : C a = 115
    · simp only [if_pos c3, Option.bind_some, if_neg one_ne]; rfl
    simp only [if_neg c3, Option.bind_some, if_true]
    by_cases c4 : C a = 112
    · simp only [if_pos c4, Option.bind_some, if_neg one_ne]; rfl
    simp only [if_neg c4, Option.bind_some, if_true]
    by_cases c5 : C a = 119
    · simp only [if_pos c5, Option.bind_some, if_neg one_ne]; rfl
    simp only [if_neg c5, Option.bind_some, if_true]
    rfl
  · simp only [c, false_and, if_false, Option.bind_some, if_true]
    rfl
/-- behind a fault, a whole thing -/
theorem af_thing (h : Chs z C bytes tape) (hF : 100000 ≤ F) {a n : Nat} {lf fp : Int32} {kind was by_ price side : Nat → Int32} (ha : a ≤ z) (hn6 : n < 6) (hf : ¬ fp = -1000000) : ∃ (a' : Nat) (kd ws bs ps ss : Nat → Int32), a' ≤ z ∧ f_X5_readThing F (nI n) (nI z) bytes lf (nI a) fp kind was by_ price side = some (lf, nI a', fp, kd, ws, bs, ps, ss) := by
  have gn : ∀ {α : Type} (x : Option α), gd (inb (nI n) 6) x = x := fun x => gdI hn6 (by omega)
  obtain ⟨v0, a0, h0, e0⟩ := af_sort (F := F) (lf := lf) h ha hf
  obtain ⟨w1, c1, d1, hc1, hd1, en1, es1⟩ := af_rest3 (F := F) (lo := 0) (hi := 60) (s := 44) (lf := lf) (fp := fp) h hF h0 (by omega) (by omega) (by omega) hf
  obtain ⟨w2, c2, d2, hc2, hd2, en2, es2⟩ := af_rest3 (F := F) (lo := 1) (hi := 9) (s := 44) (lf := lf) (fp := fp) h hF hd1 (by omega) (by omega) (by omega) hf
  obtain ⟨w3, c3, d3, hc3, hd3, en3, es3⟩ := af_rest3 (F := F) (lo := 1) (hi := 9) (s := 44) (lf := lf) (fp := fp) h hF hd2 (by omega) (by omega) (by omega) hf
  obtain ⟨w4, c4, d4, hc4, hd4, en4, es4⟩ := af_rest3 (F := F) (lo := 0) (hi := 1) (s := 59) (lf := lf) (fp := fp) h hF hd3 (by omega) (by omega) (by omega) hf
  have en1' : f_X5_readNumber F 0 60 (nI z) bytes lf (nI a0) fp = _ := en1
  have es1' : f_X5_readSign F 44 (nI z) bytes lf (nI c1) fp = _ := es1
  have en2' : f_X5_readNumber F 1 9 (nI z) bytes lf (nI d1) fp = _ := en2
  have es2' : f_X5_readSign F 44 (nI z) bytes lf (nI c2) fp = _ := es2
  have en3' : f_X5_readNumber F 1 9 (nI z) bytes lf (nI d2) fp = _ := en3
  have es3' : f_X5_readSign F 44 (nI z) bytes lf (nI c3) fp = _ := es3
  have en4' : f_X5_readNumber F 0 1 (nI z) bytes lf (nI d3) fp = _ := en4
  have es4' : f_X5_readSign F 59 (nI z) bytes lf (nI c4) fp = _ := es4
  unfold f_X5_readThing
  simp only [gn]
  rw [e0, Option.bind_some, en1', Option.bind_some, es1', Option.bind_some, en2', Option.bind_some, es2', Option.bind_some, en3', Option.bind_some, es3', Option.bind_some, en4', Option.bind_some, es4', Option.bind_some]
  exact ⟨d4, _, _, _, _, _, hd4, rfl⟩
/-- no letter that tells a kind: a fault, and nothing behind it counts -/
theorem nokind (h : Chs z C bytes tape) (hF : 100000 ≤ F) {a n : Nat} {lf : Int32} {kind was by_ price side : Nat → Int32} (ha : a ≤ z) (hn6 : n < 6) (hk : kA z C a = 0) : ∃ (a' : Nat) (kd ws bs ps ss : Nat → Int32), a' ≤ z ∧ f_X5_readThing F (nI n) (nI z) bytes lf (nI a) (-1000000) kind was by_ price side = some (1, nI a', nI a, kd, ws, bs, ps, ss) := by
  have hz := h.1
  have npf : ¬ nI a = -1000000 := nI_nm (k := 1000000) (by omega) (by omega) (by omega)
  have gn : ∀ {α : Type} (x : Option α), gd (inb (nI n) 6) x = x := fun x => gdI hn6 (by omega)
  have e0 : f_X5_readSort F (nI z) bytes lf (nI a) (-1000000) = some (-1000000, 1, nI a, nI a) := by
    unfold f_X5_readSort
    by_cases c : a < z
    · unfold kA at hk
      rw [if_pos c] at hk
      rw [nx1 h c, Option.bind_some, kN_c (h.2 a c).1, if_pos hk, Option.bind_some, if_pos rfl, fl1]
      rfl
    · have e : a = z := by omega
      subst e
      rw [nx0 h, Option.bind_some, show f_X5_kindOfSort F (-1000000) = some (-1000000) from rfl, Option.bind_some, if_pos rfl, fl1]
      rfl
  obtain ⟨w1, c1, d1, hc1, hd1, en1, es1⟩ := af_rest3 (F := F) (lo := 0) (hi := 60) (s := 44) (lf := 1) (fp := nI a) h hF ha (by omega) (by omega) (by omega) npf
  obtain ⟨w2, c2, d2, hc2, hd2, en2, es2⟩ := af_rest3 (F := F) (lo := 1) (hi := 9) (s := 44) (lf := 1) (fp := nI a) h hF hd1 (by omega) (by omega) (by omega) npf
  obtain ⟨w3, c3, d3, hc3, hd3, en3, es3⟩ := af_rest3 (F := F) (lo := 1) (hi := 9) (s := 44) (lf := 1) (fp := nI a) h hF hd2 (by omega) (by omega) (by omega) npf
  obtain ⟨w4, c4, d4, hc4, hd4, en4, es4⟩ := af_rest3 (F := F) (lo := 0) (hi := 1) (s := 59) (lf := 1) (fp := nI a) h hF hd3 (by omega) (by omega) (by omega) npf
  have en1' : f_X5_readNumber F 0 60 (nI z) bytes 1 (nI a) (nI a) = _ := en1
  have es1' : f_X5_readSign F 44 (nI z) bytes 1 (nI c1) (nI a) = _ := es1
  have en2' : f_X5_readNumber F 1 9 (nI z) bytes 1 (nI d1) (nI a) = _ := en2
  have es2' : f_X5_readSign F 44 (nI z) bytes 1 (nI c2) (nI a) = _ := es2
  have en3' : f_X5_readNumber F 1 9 (nI z) bytes 1 (nI d2) (nI a) = _ := en3
  have es3' : f_X5_readSign F 44 (nI z) bytes 1 (nI c3) (nI a) = _ := es3
  have en4' : f_X5_readNumber F 0 1 (nI z) bytes 1 (nI d3) (nI a) = _ := en4
  have es4' : f_X5_readSign F 59 (nI z) bytes 1 (nI c4) (nI a) = _ := es4
  unfold f_X5_readThing
  simp only [gn]
  rw [e0, Option.bind_some, en1', Option.bind_some, es1', Option.bind_some, en2', Option.bind_some, es2', Option.bind_some, en3', Option.bind_some, es3', Option.bind_some, en4', Option.bind_some, es4', Option.bind_some]
  exact ⟨d4, _, _, _, _, _, hd4, rfl⟩
theorem rt_stop {fu : Nat} {lf at_ fp th : Int32} {kd ws bs ps ss : Nat → Int32} (hf : ¬ fp = -1000000) : f_X5_readThings_13_r F (nI z) bytes (fu + 1) lf at_ fp th kd ws bs ps ss = some (lf, at_, fp, th, kd, ws, bs, ps, ss) := by
  show f_X5_readThings_13 F _ _ _ _ _ _ _ _ _ _ _ _ = _
  unfold f_X5_readThings_13 f_X5_readThings_59 f_X5_goesOn
  rw [if_neg hf]
  rfl
theorem rl_stop {fu : Nat} {pl tk vl b wr : Int32} {read : Nat → Int32} : f_X7_readLand_69_r F (nI z) tape (fu + 1) pl tk vl b wr read 0 = some (0, pl, tk, vl, b, wr, read) := rfl
def Good (A0 : Nat → Nat) (A' : Nat → Nat) (kd ws bs ps ss read' : Nat → Int32) : Prop := OkR A' ∧ 1 ≤ A' 2 ∧ A' 0 = A0 0 ∧ A' 1 = A0 1 ∧ DR A' kd ws bs ps ss ∧ MR A' read'
theorem things (h : Chs z C bytes tape) (hF : 100000 ≤ F) {lf wr : Int32} {A0 : Nat → Nat} : ∀ (k n fu fu2 a : Nat) (A : Nat → Nat) (pl tk vl : Int32) (read kind was by_ price side : Nat → Int32), 7 = n + k → 1 ≤ n → k + 1 < fu → k + 1 < fu2 → a ≤ z → A 2 = n → OkR A → A 0 = A0 0 → A 1 = A0 1 → DR A kind was by_ price side → MR A read → TokAt F z tape a pl tk vl →
    (∃ (A' : Nat → Nat) (at' pl' tk' vl' b' : Int32) (read' kd ws bs ps ss : Nat → Int32), f_X5_readThings_13_r F (nI z) bytes fu lf (nI a) (-1000000) (nI n) kind was by_ price side = some (lf, at', -1000000, nI (A' 2), kd, ws, bs, ps, ss) ∧ f_X7_readLand_69_r F (nI z) tape fu2 pl tk vl (nI a) wr read 1 = some (1, pl', tk', vl', b', wr, read') ∧ Good A0 A' kd ws bs ps ss read') ∨
    (∃ (q th at' pl' tk' vl' : Int32) (p : Nat) (read' kd ws bs ps ss : Nat → Int32), p ≤ z ∧ f_X5_readThings_13_r F (nI z) bytes fu lf (nI a) (-1000000) (nI n) kind was by_ price side = some (q, at', nI p, th, kd, ws, bs, ps, ss) ∧ f_X7_readLand_69_r F (nI z) tape fu2 pl tk vl (nI a) wr read 1 = some (0, pl', tk', vl', nI p, q, read')) := by
  have hz := h.1
  have npf : ∀ p, p ≤ z → ¬ nI p = -1000000 := fun p hp => nI_nm (k := 1000000) (by omega) (by omega) (by omega)
  intro k
  induction k with
  | zero =>
    intro n fu fu2 a A pl tk vl read kind was by_ price side h1 hn1 h2 h3 ha hA2 hA h0 h1' hD hM ht
    have := hA.1.1
    omega
  | succ k ih =>
    intro n fu fu2 a A pl tk vl read kind was by_ price side h1 hn1 h2 h3 ha hA2 hA h0 h1' hD hM ht
    obtain ⟨fu, rfl⟩ : ∃ q, fu = q + 1 := ⟨fu - 1, by omega⟩
    obtain ⟨fu2, rfl⟩ : ∃ q, fu2 = q + 1 := ⟨fu2 - 1, by omega⟩
    have hn6 := hA.1.1
    have e2 : read 2 = nI n := by rw [hM 2 (by omega), hA2]
    by_cases ca : a = z
    · left
      subst ca
      obtain ⟨rfl, rfl, rfl⟩ := tok_un ht (fun t v b => tk3 h hF)
      refine ⟨A, nI a, nI a, 3, 0, nI a, read, kind, was, by_, price, side, ?_, ?_, hA, by omega, h0, h1', hD, hM⟩
      · show f_X5_readThings_13 F _ _ _ _ _ _ _ _ _ _ _ _ = _
        unfold f_X5_readThings_13 f_X5_readThings_59 f_X5_goesOn
        rw [if_pos rfl, if_pos (show nI a ≤ nI a from by rw [nI_leI (by omega) (by omega)]; omega), hA2]
        rfl
      · show f_X7_readLand_69 F _ _ _ _ _ _ _ _ _ _ = _
        unfold f_X7_readLand_69
        rw [if_neg one_ne, if_pos rfl, show gd (inb (2 : Int32) 41) = fun (x : Option (Int32 × Int32 × Int32 × Int32 × Int32 × Int32 × (Nat → Int32))) => x from funext (fun x => gdI (k := 2) (by omega) (by omega))]
        show (if read 2 = 0 then _ else _) = _
        rw [e2, if_neg (show ¬ nI n = (0 : Int32) from nI_ne0 (by omega) (by omega))]
        rfl
    have hlt : a < z := by omega
    have htk : ¬ tk = 3 := by
      rcases tokc (F := F) h hF ha with ⟨pl', tk', vl', h1, h2, -⟩ | ⟨k, v, -, -, -, -, h1, -⟩
      · obtain ⟨rfl, rfl, rfl⟩ := tok_un ht h1
        rcases h2 with ⟨-, e⟩ | ⟨rfl, -⟩ | ⟨rfl, -⟩
        · exact absurd e ca
        · decide
        · decide
      · obtain ⟨rfl, rfl, rfl⟩ := tok_un ht h1
        decide
    have hgo : f_X5_goesOn F (nI z) (nI a) (-1000000) = some 1 := by
      unfold f_X5_goesOn
      rw [if_pos rfl, if_neg (show ¬ nI z ≤ nI a from by rw [nI_leI (by omega) (by omega)]; omega)]
    have hm : f_X7_readLand_69_r F (nI z) tape (fu2 + 1) pl tk vl (nI a) wr read 1 = f_X7_readLand_156 F (nI z) tape (f_X7_readLand_69_r F (nI z) tape fu2) pl tk vl (nI a) wr read (nI (kA z C a)) := by
      show f_X7_readLand_69 F _ _ _ _ _ _ _ _ _ _ = _
      unfold f_X7_readLand_69
      rw [if_neg one_ne, if_neg htk, rl90 h hF ha ht]
    rw [hm]
    have hkle : kA z C a ≤ 5 := by unfold kA; rw [if_pos hlt]; exact kN_le _
    obtain ⟨fu2, rfl⟩ : ∃ q, fu2 = q + 1 := ⟨fu2 - 1, by omega⟩
    have hm0 : kA z C a = 0 → f_X7_readLand_156 F (nI z) tape (f_X7_readLand_69_r F (nI z) tape (fu2 + 1)) pl tk vl (nI a) wr read (nI (kA z C a)) = some (0, pl, tk, vl, nI a, 1, read) := fun e => by
      unfold f_X7_readLand_156
      rw [e, if_pos (show nI 0 ≤ (0 : Int32) from by decide)]
      rfl
    have hm1 : kA z C a ≠ 0 → f_X7_readLand_156 F (nI z) tape (f_X7_readLand_69_r F (nI z) tape (fu2 + 1)) pl tk vl (nI a) wr read (nI (kA z C a)) = (f_X7_readThing F (nI (kA z C a)) (nI z) tape pl tk vl (nI a) wr read).bind fun u4 => f_X7_readLand_69_r F (nI z) tape (fu2 + 1) u4.2.1 u4.2.2.1 u4.2.2.2.1 u4.2.2.2.2.1 u4.2.2.2.2.2.1 u4.2.2.2.2.2.2 u4.1 := fun e => by
      unfold f_X7_readLand_156 f_X7_readLand_174
      rw [if_neg (show ¬ nI (kA z C a) ≤ (0 : Int32) from fun hh => by rw [show (0 : Int32) = nI 0 from rfl, nI_leI (by omega) (by omega)] at hh; omega)]
    by_cases c6 : n = 6
    · right
      have hcl : f_X5_readThings_13_r F (nI z) bytes (fu + 1) lf (nI a) (-1000000) (nI n) kind was by_ price side = some (if kA z C a = 0 then 1 else 3, nI a, nI a, nI n, kind, was, by_, price, side) := by
        show f_X5_readThings_13 F _ _ _ _ _ _ _ _ _ _ _ _ = _
        unfold f_X5_readThings_13 f_X5_readThings_59 f_X5_readThings_84
        rw [hgo, Option.bind_some, if_neg one_ne, if_pos (show (6 : Int32) ≤ nI n from by rw [c6]; decide), Option.bind_some, if_neg one_ne, nx1 h hlt, Option.bind_some, kN_c (h.2 a hlt).1, fl1, fl1]
        unfold kA
        rw [if_pos hlt]
        by_cases ck : kN (C a) = 0
        · rw [if_pos ck, if_pos ck, Option.bind_some, if_pos rfl]
          rfl
        · have := kN_le (C a)
          rw [if_neg ck, if_neg ck, Option.bind_some, if_neg (show ¬ nI (kN (C a)) = -1000000 from nI_nm (k := 1000000) (by omega) (by omega) (by omega))]
          rfl
      by_cases ck : kA z C a = 0
      · rw [hcl, hm0 ck, if_pos ck]
        exact ⟨1, _, _, _, _, _, a, _, _, _, _, _, _, ha, rfl, rfl⟩
      · rw [hcl, hm1 ck, if_neg ck]
        refine ⟨3, nI n, nI a, pl, tk, vl, a, read, kind, was, by_, price, side, ha, rfl, ?_⟩
        unfold f_X7_readThing f_X7_faults
        rw [show gd (inb (2 : Int32) 41) = fun (x : Option (Int32 × Int32 × Int32 × Int32 × Int32 × Int32 × (Nat → Int32))) => x from funext (fun x => gdI (k := 2) (by omega) (by omega))]
        show ((if read 2 = 6 then _ else _) : Option _).bind _ = _
        rw [e2, c6, if_pos (show nI 6 = (6 : Int32) from rfl)]
        rfl
    · have hcl : f_X5_readThings_13_r F (nI z) bytes (fu + 1) lf (nI a) (-1000000) (nI n) kind was by_ price side = (f_X5_readThing F (nI n) (nI z) bytes lf (nI a) (-1000000) kind was by_ price side).bind fun u5 => f_X5_readThings_13_r F (nI z) bytes fu u5.1 u5.2.1 u5.2.2.1 (nI (n + 1)) u5.2.2.2.1 u5.2.2.2.2.1 u5.2.2.2.2.2.1 u5.2.2.2.2.2.2.1 u5.2.2.2.2.2.2.2 := by
        show f_X5_readThings_13 F _ _ _ _ _ _ _ _ _ _ _ _ = _
        unfold f_X5_readThings_13
        rw [hgo, Option.bind_some, if_neg one_ne, if_neg (show ¬ (6 : Int32) ≤ nI n from fun hh => by rw [show (6 : Int32) = nI 6 from rfl, nI_leI (by omega) (by omega)] at hh; omega), nI_s1]
      obtain ⟨fu, rfl⟩ : ∃ q, fu = q + 1 := ⟨fu - 1, by omega⟩
      by_cases ck : kA z C a = 0
      · right
        obtain ⟨a', kd, ws, bs, ps, ss, ha', e⟩ := nokind (F := F) (lf := lf) (kind := kind) (was := was) (by_ := by_) (price := price) (side := side) h hF ha (show n < 6 by omega) ck
        rw [hcl, e, hm0 ck, Option.bind_some, rt_stop (npf a ha)]
        exact ⟨1, _, _, _, _, _, a, _, _, _, _, _, _, ha, rfl, rfl⟩
      · have hkc : f_X5_kindOfSort F (nI (C a)) = some (nI (kA z C a)) := by
          unfold kA at ck ⊢
          rw [if_pos hlt] at ck ⊢
          rw [kN_c (h.2 a hlt).1, if_neg ck]
        have hltr : Ltr (C a) := by
          unfold kA at ck
          rw [if_pos hlt] at ck
          exact kN_l ck
        rcases one (F := F) (lf := lf) (wr := wr) h hF hlt (show 1 ≤ kA z C a by omega) hkle hkc hltr hA hA2 (show n < 6 by omega) hD hM ht with ⟨A', a', pl', tk', vl', read', kd, ws, bs, ps, ss, o1, o2, o3, o4, o5, o6, o7, o8, o9, o10⟩ | ⟨q, p, a', pl', tk', vl', read', kd, ws, bs, ps, ss, hp, o1, o2⟩
        · rw [hcl, o6, hm1 ck, o10, Option.bind_some, Option.bind_some]
          exact ih (n + 1) (fu + 1) (fu2 + 1) a' A' pl' tk' vl' read' kd ws bs ps ss (by omega) (by omega) (by omega) (by omega) o5 o2 o1 (o3.trans h0) (o4.trans h1') o7 o8 o9
        · right
          rw [hcl, o1, hm1 ck, o2, Option.bind_some, Option.bind_some, rt_stop (npf p hp)]
          exact ⟨q, _, _, _, _, _, p, _, _, _, _, _, _, hp, rfl, rfl⟩
end LANDQ
