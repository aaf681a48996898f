/-! a whole text -/
section LANDW
variable {F z : Nat} {bytes tape : Nat → Int32} {C : Nat → Nat}
theorem af_things (h : Chs z C bytes tape) (hF : 100000 ≤ F) {a : Nat} {lf fp th : Int32} {kind was by_ price side : Nat → Int32} (ha : a ≤ z) (hf : ¬ fp = -1000000) : ∃ (at' th' : Int32) (kd ws bs ps ss : Nat → Int32), f_X5_readThings F (nI z) bytes lf (nI a) fp th kind was by_ price side = some (lf, at', fp, th', kd, ws, bs, ps, ss) := by
  obtain ⟨a', kd, ws, bs, ps, ss, ha', e⟩ := af_thing (F := F) (n := 0) (lf := lf) (kind := kind) (was := was) (by_ := by_) (price := price) (side := side) h hF ha (by omega) hf
  have e' : f_X5_readThing F 0 (nI z) bytes lf (nI a) fp kind was by_ price side = _ := e
  unfold f_X5_readThings
  rw [e', Option.bind_some]
  obtain ⟨F2, hF2⟩ : ∃ q, F = q + 1 := ⟨F - 1, by omega⟩
  have g := rt_stop (F := F) (z := z) (bytes := bytes) (fu := F2) (lf := lf) (at_ := nI a') (th := 1) (kd := kd) (ws := ws) (bs := bs) (ps := ps) (ss := ss) hf
  rw [← hF2] at g
  exact ⟨_, _, _, _, _, _, _, g⟩
theorem first (h : Chs z C bytes tape) (hF : 100000 ≤ F) {a : Nat} {A : Nat → Nat} {lf wr th pl tk vl : Int32} {read kind was by_ price side : Nat → Int32} (ha : a ≤ z) (hA2 : A 2 = 0) (hA : OkR A) (hM : MR A read) (ht : TokAt F z tape a pl tk vl) :
    (∃ (A' : Nat → Nat) (at' pl' tk' vl' b' : Int32) (read' kd ws bs ps ss : Nat → Int32), f_X5_readThings F (nI z) bytes lf (nI a) (-1000000) th kind was by_ price side = some (lf, at', -1000000, nI (A' 2), kd, ws, bs, ps, ss) ∧ f_X7_readLand_69_r F (nI z) tape F pl tk vl (nI a) wr read 1 = some (1, pl', tk', vl', b', wr, read') ∧ Good A A' kd ws bs ps ss read') ∨
    (∃ (q th' at' pl' tk' vl' : Int32) (p : Nat) (read' kd ws bs ps ss : Nat → Int32), p ≤ z ∧ f_X5_readThings F (nI z) bytes lf (nI a) (-1000000) th kind was by_ price side = some (q, at', nI p, th', kd, ws, bs, ps, ss) ∧ f_X7_readLand_69_r F (nI z) tape F pl tk vl (nI a) wr read 1 = some (0, pl', tk', vl', nI p, q, read')) := by
  have hz := h.1
  have npf : ∀ p, p ≤ z → ¬ nI p = -1000000 := fun p hp => nI_nm (k := 1000000) (by omega) (by omega) (by omega)
  obtain ⟨F2, hF2⟩ : ∃ q, F = q + 1 + 1 := ⟨F - 2, by omega⟩
  have e2 : read 2 = nI 0 := by rw [hM 2 (by omega), hA2]
  have hm : f_X7_readLand_69_r F (nI z) tape F pl tk vl (nI a) wr read 1 = f_X7_readLand_156 F (nI z) tape (f_X7_readLand_69_r F (nI z) tape (F2 + 1)) pl tk vl (nI a) wr read (nI (kA z C a)) := by
    have g : f_X7_readLand_69_r F (nI z) tape (F2 + 1 + 1) pl tk vl (nI a) wr read 1 = f_X7_readLand_156 F (nI z) tape (f_X7_readLand_69_r F (nI z) tape (F2 + 1)) pl tk vl (nI a) wr read (nI (kA z C a)) := by
      show f_X7_readLand_69 F _ _ _ _ _ _ _ _ _ _ = _
      unfold f_X7_readLand_69
      rw [if_neg one_ne, rl90 h hF ha ht]
      by_cases c : tk = 3
      · rw [if_pos c, show gd (inb (2 : Int32) 41) = fun (x : Option (Int32 × Int32 × Int32 × Int32 × Int32 × Int32 × (Nat → Int32))) => x from funext (fun x => gdI (k := 2) (by omega) (by omega))]
        show (if read 2 = 0 then _ else _) = _
        rw [e2, if_pos (show nI 0 = (0 : Int32) from rfl)]
      · rw [if_neg c]
    rw [← g, ← hF2]
  rw [hm]
  unfold f_X5_readThings
  by_cases ck : kA z C a = 0
  · right
    obtain ⟨a', kd, ws, bs, ps, ss, ha', e⟩ := nokind (F := F) (n := 0) (lf := lf) (kind := kind) (was := was) (by_ := by_) (price := price) (side := side) h hF ha (by omega) ck
    have e' : f_X5_readThing F 0 (nI z) bytes lf (nI a) (-1000000) kind was by_ price side = _ := e
    have g := rt_stop (F := F) (z := z) (bytes := bytes) (fu := F2 + 1) (lf := 1) (at_ := nI a') (fp := nI a) (th := 1) (kd := kd) (ws := ws) (bs := bs) (ps := ps) (ss := ss) (npf a ha)
    rw [← hF2] at g
    have hm0 : f_X7_readLand_156 F (nI z) tape (f_X7_readLand_69_r F (nI z) tape (F2 + 1)) pl tk vl (nI a) wr read (nI (kA z C a)) = some (0, pl, tk, vl, nI a, 1, read) := by
      unfold f_X7_readLand_156
      rw [ck, if_pos (show nI 0 ≤ (0 : Int32) from by decide)]
      rfl
    rw [e', Option.bind_some, g, hm0]
    exact ⟨1, _, _, _, _, _, a, _, _, _, _, _, _, ha, rfl, rfl⟩
  · have hlt : a < z := by
      unfold kA at ck
      by_cases c : a < z
      · exact c
      · rw [if_neg c] at ck; exact absurd rfl ck
    have hkle : kA z C a ≤ 5 := by unfold kA; rw [if_pos hlt]; exact kN_le _
    have hkc : f_X5_kindOfSort F (nI (C a)) = some (nI (kA z C a)) := by
      unfold kA at ck ⊢
      rw [if_pos hlt] at ck ⊢
      rw [kN_c (h.2 a hlt).1, if_neg ck]
    have hltr : Ltr (C a) := by
      unfold kA at ck
      rw [if_pos hlt] at ck
      exact kN_l ck
    have hm1 : f_X7_readLand_156 F (nI z) tape (f_X7_readLand_69_r F (nI z) tape (F2 + 1)) pl tk vl (nI a) wr read (nI (kA z C a)) = (f_X7_readThing F (nI (kA z C a)) (nI z) tape pl tk vl (nI a) wr read).bind fun u4 => f_X7_readLand_69_r F (nI z) tape (F2 + 1) u4.2.1 u4.2.2.1 u4.2.2.2.1 u4.2.2.2.2.1 u4.2.2.2.2.2.1 u4.2.2.2.2.2.2 u4.1 := by
      unfold f_X7_readLand_156 f_X7_readLand_174
      rw [if_neg (show ¬ nI (kA z C a) ≤ (0 : Int32) from fun hh => by rw [show (0 : Int32) = nI 0 from rfl, nI_leI (by omega) (by omega)] at hh; omega)]
    rw [hm1]
    have hD : DR A kind was by_ price side := fun t ht => by omega
    rcases one (F := F) (n := 0) (lf := lf) (wr := wr) h hF hlt (show 1 ≤ kA z C a by omega) hkle hkc hltr hA hA2 (by omega) hD hM ht with ⟨A', a', pl', tk', vl', read', kd, ws, bs, ps, ss, o1, o2, o3, o4, o5, o6, o7, o8, o9, o10⟩ | ⟨q, p, a', pl', tk', vl', read', kd, ws, bs, ps, ss, hp, o1, o2⟩
    · have o6' : f_X5_readThing F 0 (nI z) bytes lf (nI a) (-1000000) kind was by_ price side = _ := o6
      rw [o6', o10, Option.bind_some, Option.bind_some]
      exact things (F := F) (lf := lf) (wr := wr) h hF 6 1 F (F2 + 1) a' A' pl' tk' vl' read' kd ws bs ps ss (by omega) (by omega) (by omega) (by omega) o5 o2 o1 o3 o4 o7 o8 o9
    · right
      have o1' : f_X5_readThing F 0 (nI z) bytes lf (nI a) (-1000000) kind was by_ price side = _ := o1
      have g := rt_stop (F := F) (z := z) (bytes := bytes) (fu := F2 + 1) (lf := q) (at_ := nI a') (fp := nI p) (th := 1) (kd := kd) (ws := ws) (bs := bs) (ps := ps) (ss := ss) (npf p hp)
      rw [← hF2] at g
      rw [o1', o2, Option.bind_some, Option.bind_some, g]
      exact ⟨q, _, _, _, _, _, p, _, _, _, _, _, _, hp, rfl, rfl⟩
theorem rz : ∀ (k t fu : Nat) (pl tk vl b wr : Int32) (read : Nat → Int32), 41 = t + k → k < fu → (∀ j, j < t → read j = 0) → ∃ read', MR (fun _ => 0) read' ∧ f_X7_readLand_7_r F (nI z) tape fu pl tk vl b wr read (nI t) = f_X7_readLand_7 F (nI z) tape (fun _ _ _ _ _ _ _ => none) pl tk vl b wr read' 41 := by
  intro k
  induction k with
  | zero =>
    intro t fu pl tk vl b wr read h1 h2 h3
    obtain ⟨fu, rfl⟩ : ∃ q, fu = q + 1 := ⟨fu - 1, by omega⟩
    refine ⟨read, fun j hj => h3 j (by omega), ?_⟩
    show f_X7_readLand_7 F _ _ _ _ _ _ _ _ _ _ = _
    rw [show t = 41 from by omega]
    unfold f_X7_readLand_7
    rw [if_pos (show (41 : Int32) ≤ nI 41 from by decide), if_pos (show (41 : Int32) ≤ 41 from by decide)]
  | succ k ih =>
    intro t fu pl tk vl b wr read h1 h2 h3
    obtain ⟨fu, rfl⟩ : ∃ q, fu = q + 1 := ⟨fu - 1, by omega⟩
    obtain ⟨read', g1, g2⟩ := ih (t + 1) fu pl tk vl b wr (upd read t 0) (by omega) (by omega) (fun j hj => by
      by_cases c : j = t
      · rw [c, pk_us]
      · rw [pk_un c]; exact h3 j (by omega))
    refine ⟨read', g1, ?_⟩
    rw [← g2]
    show f_X7_readLand_7 F _ _ _ _ _ _ _ _ _ _ = _
    unfold f_X7_readLand_7
    rw [if_neg (show ¬ (41 : Int32) ≤ nI t from fun hh => by rw [show (41 : Int32) = nI 41 from rfl, nI_leI (by omega) (by omega)] at hh; omega), gdI (by omega) (by omega), nI_clamp (by omega), nI_s1]
theorem text (h : Chs z C bytes tape) (hF : 100000 ≤ F) {lf wr th m0 f0 pl tk vl b : Int32} {read kind was by_ price side : Nat → Int32} :
    (∃ (A' : Nat → Nat) (at1 at' pl' tk' vl' b' : Int32) (read' kd ws bs ps ss : Nat → Int32), f_X5_readLaw F (nI z) bytes lf 0 (-1000000) m0 f0 = some (lf, at1, -1000000, nI (A' 0), nI (A' 1)) ∧ f_X5_readThings F (nI z) bytes lf at1 (-1000000) th kind was by_ price side = some (lf, at', -1000000, nI (A' 2), kd, ws, bs, ps, ss) ∧ f_X7_readLand F (nI z) tape pl tk vl b wr read = some (1, pl', tk', vl', b', wr, read') ∧ OkR A' ∧ 1 ≤ A' 2 ∧ DR A' kd ws bs ps ss ∧ MR A' read') ∨
    (∃ (lf1 at1 fp1 m f q th' at' pl' tk' vl' : Int32) (p : Nat) (read' kd ws bs ps ss : Nat → Int32), p ≤ z ∧ f_X5_readLaw F (nI z) bytes lf 0 (-1000000) m0 f0 = some (lf1, at1, fp1, m, f) ∧ f_X5_readThings F (nI z) bytes lf1 at1 fp1 th kind was by_ price side = some (q, at', nI p, th', kd, ws, bs, ps, ss) ∧ f_X7_readLand F (nI z) tape pl tk vl b wr read = some (0, pl', tk', vl', nI p, q, read')) := by
  have hz := h.1
  have npf : ∀ p, p ≤ z → ¬ nI p = -1000000 := fun p hp => nI_nm (k := 1000000) (by omega) (by omega) (by omega)
  obtain ⟨read0, hM0, hr0⟩ := rz (F := F) (z := z) (tape := tape) 41 0 F 0 tk vl b wr read (by omega) (by omega) (fun j hj => by omega)
  have hrl : f_X7_readLand F (nI z) tape pl tk vl b wr read = _ := hr0
  rw [hrl]
  unfold f_X7_readLand_7 f_X5_readLaw
  rw [if_pos (show (41 : Int32) ≤ 41 from by decide)]
  obtain ⟨pl0, tk0, vl0, ht0⟩ := tok_ex (F := F) h hF (Nat.zero_le z)
  have ht0' : f_X7_nextToken F (nI z) tape 0 tk vl b = some (pl0, tk0, vl0, 0) := ht0 tk vl b
  rw [ht0', Option.bind_some]
  by_cases c0 : 0 < z ∧ C 0 = 101
  case neg =>
    right
    obtain ⟨-, cm0⟩ := tks0 (F := F) (wr := wr) (s := 101) h hF (Nat.zero_le z) (by omega) c0 ht0
    have cs0 := sg0 (F := F) (lf := lf) (fp := -1000000) (s := 101) h (Nat.zero_le z) (by omega) c0
    rw [fl1] at cs0
    obtain ⟨w1, c1, d1, hc1, hd1, en1, es1⟩ := af_rest3 (F := F) (lo := 0) (hi := 9) (s := 44) (lf := 1) (fp := nI 0) h hF (Nat.zero_le z) (by omega) (by omega) (by omega) (npf 0 (Nat.zero_le z))
    obtain ⟨w2, c2, d2, hc2, hd2, en2, es2⟩ := af_rest3 (F := F) (lo := 0) (hi := 20) (s := 59) (lf := 1) (fp := nI 0) h hF hd1 (by omega) (by omega) (by omega) (npf 0 (Nat.zero_le z))
    have cs0' : f_X5_readSign F 101 (nI z) bytes lf 0 (-1000000) = some (1, nI 0, nI 0) := cs0
    have cm0' : f_X7_takes F 101 (nI z) tape pl0 tk0 vl0 0 wr = some (0, pl0, tk0, vl0, nI 0, 1) := cm0
    have en1' : f_X5_readNumber F 0 9 (nI z) bytes 1 (nI 0) (nI 0) = _ := en1
    have es1' : f_X5_readSign F 44 (nI z) bytes 1 (nI c1) (nI 0) = _ := es1
    have en2' : f_X5_readNumber F 0 20 (nI z) bytes 1 (nI d1) (nI 0) = _ := en2
    have es2' : f_X5_readSign F 59 (nI z) bytes 1 (nI c2) (nI 0) = _ := es2
    obtain ⟨at', th', kd, ws, bs, ps, ss, ct⟩ := af_things (F := F) (lf := 1) (fp := nI 0) (th := th) (kind := kind) (was := was) (by_ := by_) (price := price) (side := side) h hF hd2 (npf 0 (Nat.zero_le z))
    rw [cs0', Option.bind_some, en1', Option.bind_some, es1', Option.bind_some, en2', Option.bind_some, es2', Option.bind_some]
    rw [cm0', Option.bind_some]
    exact ⟨1, nI d2, nI 0, w1, w2, 1, th', at', _, _, _, 0, _, kd, ws, bs, ps, ss, Nat.zero_le z, rfl, ct, rfl⟩
  obtain ⟨plA, tkA, vlA, htA, cm0⟩ := tks1 (F := F) (wr := wr) (s := 101) h hF c0.1 c0.2 (by unfold Ltr; omega) ht0
  have cs0 := sg1 (F := F) (lf := lf) (fp := -1000000) (s := 101) h c0.1 c0.2
  have cs0' : f_X5_readSign F 101 (nI z) bytes lf 0 (-1000000) = some (lf, nI (0 + 1), -1000000) := cs0
  have cm0' : f_X7_takes F 101 (nI z) tape pl0 tk0 vl0 0 wr = some (1, plA, tkA, vlA, nI (0 + 1), wr) := cm0
  rw [cs0', Option.bind_some]
  rw [cm0', Option.bind_some, if_neg one_ne]
  rcases nsg (F := F) (lo := 0) (hi := 9) (s := 44) (ix := 0) (wr := wr) (lf := lf) (read := read0) h hF (show 0 + 1 ≤ z by omega) (by omega) (by omega) (by omega) (by omega) htA with ⟨v1, b1, a1, pl1', tk1', vl1', lo1, hi1, hb1, ha1, cn1, cs1, ht1', cm1⟩ | ⟨v1, lf1, b1, fp1, q, p, a1, pl2, tk2, vl2, read2, hb1, ha1, hp, cn1, cs1, cm1⟩
  rotate_left
  · right
    have cn1' : f_X5_readNumber F 0 9 (nI z) bytes lf (nI (0 + 1)) (-1000000) = _ := cn1
    have cs1' : f_X5_readSign F 44 (nI z) bytes lf1 (nI b1) fp1 = _ := cs1
    have cm1' : f_X7_takesNumber F 0 9 0 44 (nI z) tape plA tkA vlA (nI (0 + 1)) wr read0 = _ := cm1
    obtain ⟨w2, c2, d2, hc2, hd2, en2, es2⟩ := af_rest3 (F := F) (lo := 0) (hi := 20) (s := 59) (lf := q) (fp := nI p) h hF ha1 (by omega) (by omega) (by omega) (npf p hp)
    have en2' : f_X5_readNumber F 0 20 (nI z) bytes q (nI a1) (nI p) = _ := en2
    have es2' : f_X5_readSign F 59 (nI z) bytes q (nI c2) (nI p) = _ := es2
    obtain ⟨at', th', kd, ws, bs, ps, ss, ct⟩ := af_things (F := F) (lf := q) (fp := nI p) (th := th) (kind := kind) (was := was) (by_ := by_) (price := price) (side := side) h hF hd2 (npf p hp)
    rw [cn1', Option.bind_some, cs1', Option.bind_some, en2', Option.bind_some, es2', Option.bind_some]
    rw [cm1', Option.bind_some]
    exact ⟨q, nI d2, nI p, v1, w2, q, th', at', _, _, _, p, _, kd, ws, bs, ps, ss, hp, rfl, ct, rfl⟩
  have cn1' : f_X5_readNumber F 0 9 (nI z) bytes lf (nI (0 + 1)) (-1000000) = _ := cn1
  have cs1' : f_X5_readSign F 44 (nI z) bytes lf (nI b1) (-1000000) = _ := cs1
  have cm1' : f_X7_takesNumber F 0 9 0 44 (nI z) tape plA tkA vlA (nI (0 + 1)) wr read0 = _ := cm1
  rw [cn1', Option.bind_some, cs1', Option.bind_some]
  rw [cm1', Option.bind_some, if_neg one_ne]
  rcases nsg (F := F) (lo := 0) (hi := 20) (s := 59) (ix := 1) (wr := wr) (lf := lf) (read := upd read0 0 (nI v1)) h hF ha1 (by omega) (by omega) (by omega) (by omega) ht1' with ⟨v2, b2, a2, pl2', tk2', vl2', lo2, hi2, hb2, ha2, cn2, cs2, ht2', cm2⟩ | ⟨v2, lf1, b2, fp1, q, p, a2, pl2, tk2, vl2, read2, hb2, ha2, hp, cn2, cs2, cm2⟩
  rotate_left
  · right
    have cn2' : f_X5_readNumber F 0 20 (nI z) bytes lf (nI a1) (-1000000) = _ := cn2
    have cs2' : f_X5_readSign F 59 (nI z) bytes lf1 (nI b2) fp1 = _ := cs2
    have cm2' : f_X7_takesNumber F 0 20 1 59 (nI z) tape pl1' tk1' vl1' (nI a1) wr (upd read0 0 (nI v1)) = _ := cm2
    obtain ⟨at', th', kd, ws, bs, ps, ss, ct⟩ := af_things (F := F) (lf := q) (fp := nI p) (th := th) (kind := kind) (was := was) (by_ := by_) (price := price) (side := side) h hF ha2 (npf p hp)
    rw [cn2', Option.bind_some, cs2', Option.bind_some]
    rw [cm2', Option.bind_some]
    exact ⟨q, nI a2, nI p, nI v1, v2, q, th', at', _, _, _, p, _, kd, ws, bs, ps, ss, hp, rfl, ct, rfl⟩
  have cn2' : f_X5_readNumber F 0 20 (nI z) bytes lf (nI a1) (-1000000) = _ := cn2
  have cs2' : f_X5_readSign F 59 (nI z) bytes lf (nI b2) (-1000000) = _ := cs2
  have cm2' : f_X7_takesNumber F 0 20 1 59 (nI z) tape pl1' tk1' vl1' (nI a1) wr (upd read0 0 (nI v1)) = _ := cm2
  rw [cn2', Option.bind_some, cs2', Option.bind_some]
  rw [cm2', Option.bind_some, if_neg one_ne]
  have hM : MR (setA (setA (fun _ => 0) 0 v1) 1 v2) (upd (upd read0 0 (nI v1)) 1 (nI v2)) := MR.set (MR.set hM0)
  have z2 : setA (setA (fun _ => 0) 0 v1) 1 v2 2 = 0 := rfl
  have hOk : OkR (setA (setA (fun _ => 0) 0 v1) 1 v2) := ⟨⟨Nat.zero_le 6, hi1, hi2, fun t ht => by rw [z2] at ht; omega⟩, rfl, rfl, fun t ht => by rw [z2] at ht; omega⟩
  rcases first (F := F) (lf := lf) (wr := wr) (th := th) (kind := kind) (was := was) (by_ := by_) (price := price) (side := side) h hF ha2 z2 hOk hM ht2' with ⟨A', at', pl', tk', vl', b', read', kd, ws, bs, ps, ss, f1, f2, f3, f4, f5, f6, f7, f8⟩ | ⟨q, th', at', pl', tk', vl', p, read', kd, ws, bs, ps, ss, hp, f1, f2⟩
  · left
    rw [f2]
    exact ⟨A', nI a2, at', pl', tk', vl', b', read', kd, ws, bs, ps, ss, by rw [f5, f6]; rfl, f1, rfl, f3, f4, f7, f8⟩
  · right
    rw [f2]
    exact ⟨lf, nI a2, -1000000, nI v1, nI v2, q, th', at', pl', tk', vl', p, read', kd, ws, bs, ps, ss, hp, rfl, f1, rfl⟩
theorem s_an {F : Nat} {was : Nat → Int32} {day cost : Int32} : ∀ (k t fu : Nat) (K : Nat → Int32), 6 = t + k → k < fu →
    ∃ K', f_X3_beginAnew_12_r F was fu day cost K (nI t) = some (day, cost, K') ∧ (∀ s, t ≤ s → s < 6 → K' s = was s) ∧ ∀ i, i < t → K' i = K i := by
  intro k
  induction k with
  | zero =>
    intro t fu K h1 h2
    obtain ⟨fu, rfl⟩ : ∃ q, fu = q + 1 := ⟨fu - 1, by omega⟩
    refine ⟨K, ?_, fun s h3 h4 => by omega, fun i _ => rfl⟩
    show f_X3_beginAnew_12 F _ _ _ _ _ _ = _
    unfold f_X3_beginAnew_12
    simp (disch := omega) only [fl32, nI_add, pk_mul, pk_rem, nI_clamp, gdI, gdZ, gdB0, gdB1, nI_leI, nI_ltI, nI_eq, if_pos, if_neg, Option.bind_some, pk_us, pk_un, nn_eq, nn_le, nn_lt, nl_eq, if_true, if_false, eq_self, nl_le]
  | succ k ih =>
    intro t fu K h1 h2
    obtain ⟨fu, rfl⟩ : ∃ q, fu = q + 1 := ⟨fu - 1, by omega⟩
    obtain ⟨K', e1, e2, e3⟩ := ih (t + 1) fu (upd K t (was t)) (by omega) (by omega)
    refine ⟨K', ?_, fun s h3 h4 => ?_, fun i hi => ?_⟩
    · show f_X3_beginAnew_12 F _ _ _ _ _ _ = _
      unfold f_X3_beginAnew_12
      simp (disch := omega) only [fl32, nI_add, pk_mul, pk_rem, nI_clamp, gdI, gdZ, gdB0, gdB1, nI_leI, nI_ltI, nI_eq, if_pos, if_neg, Option.bind_some, pk_us, pk_un, nn_eq, nn_le, nn_lt, nl_eq, if_true, if_false, eq_self, nl_le]
      exact e1
    · by_cases c : s = t
      · rw [e3 _ (by omega), c, pk_us]
      · exact e2 s (by omega) h4
    · rw [e3 i (by omega), pk_un (by omega)]
theorem s_anew {F : Nat} (hF : 100000 ≤ F) (was : Nat → Int32) (d c : Int32) (K : Nat → Int32) : ∃ K', f_X3_beginAnew F was d c K = some (0, 0, K') ∧ ∀ s, s < 6 → K' s = was s := by
  obtain ⟨K', e1, e2, -⟩ := s_an (F := F) (was := was) (day := 0) (cost := 0) 6 0 F K (by omega) (by omega)
  exact ⟨K', e1, fun s hs => e2 s (by omega) hs⟩
theorem s_cp41 {F : Nat} {by7 lt pl tk vl b wr : Int32} {read : Nat → Int32} : ∀ (k t fu : Nat) (isThere am : Int32) (K : Nat → Int32), 41 = t + k → k < fu →
    ∃ K', f_X7_land_32_r F tape fu isThere by7 lt pl tk vl b wr am K read (nI t) = some (K' 2, 1, by7, lt, pl, tk, vl, b, wr, 0, K', read) ∧ (∀ s, t ≤ s → s < 41 → K' s = read s) ∧ ∀ i, i < t → K' i = K i := by
  intro k
  induction k with
  | zero =>
    intro t fu isThere am K h1 h2
    obtain ⟨fu, rfl⟩ : ∃ q, fu = q + 1 := ⟨fu - 1, by omega⟩
    refine ⟨K, ?_, fun s h3 h4 => by omega, fun i _ => rfl⟩
    show f_X7_land_32 F _ _ _ _ _ _ _ _ _ _ _ _ _ _ = _
    unfold f_X7_land_32
    simp (disch := omega) only [fl32, nI_add, pk_mul, pk_rem, nI_clamp, gdI, gdZ, gdB0, gdB1, nI_leI, nI_ltI, nI_eq, if_pos, if_neg, Option.bind_some, pk_us, pk_un, nn_eq, nn_le, nn_lt, nl_eq, if_true, if_false, eq_self, nl_le]
  | succ k ih =>
    intro t fu isThere am K h1 h2
    obtain ⟨fu, rfl⟩ : ∃ q, fu = q + 1 := ⟨fu - 1, by omega⟩
    obtain ⟨K', e1, e2, e3⟩ := ih (t + 1) fu isThere am (upd K t (read t)) (by omega) (by omega)
    refine ⟨K', ?_, fun s h3 h4 => ?_, fun i hi => ?_⟩
    · show f_X7_land_32 F _ _ _ _ _ _ _ _ _ _ _ _ _ _ = _
      unfold f_X7_land_32
      simp (disch := omega) only [fl32, nI_add, pk_mul, pk_rem, nI_clamp, gdI, gdZ, gdB0, gdB1, nI_leI, nI_ltI, nI_eq, if_pos, if_neg, Option.bind_some, pk_us, pk_un, nn_eq, nn_le, nn_lt, nl_eq, if_true, if_false, eq_self, nl_le]
      exact e1
    · by_cases c : s = t
      · rw [e3 _ (by omega), c, pk_us]
      · exact e2 s (by omega) h4
    · rw [e3 i (by omega), pk_un (by omega)]
end LANDW
