/-! one thing of a land's text -/
section LANDR
variable {F z : Nat} {bytes tape : Nat → Int32} {C : Nat → Nat}
def DR (A : Nat → Nat) (kind was by_ price side : Nat → Int32) : Prop := ∀ t, t < A 2 → kind t = nI (A (5 + t)) ∧ was t = nI (A (11 + t)) ∧ by_ t = nI (A (17 + t)) ∧ price t = nI (A (23 + t)) ∧ side t = nI (A (29 + t))
def MR (A : Nat → Nat) (read : Nat → Int32) : Prop := ∀ j, j < 41 → read j = nI (A j)
def OkR (A : Nat → Nat) : Prop := OkT A ∧ A 3 = 0 ∧ A 4 = 0 ∧ ∀ t, t < A 2 → A (35 + t) = A (11 + t)
theorem MR.set {A : Nat → Nat} {read : Nat → Int32} {i v : Nat} (h : MR A read) : MR (setA A i v) (upd read i (nI v)) := fun j hj => by
  by_cases c : j = i
  · rw [c, pk_us, setA_at]
  · rw [pk_un c, setA_ne c]; exact h j hj
/-- the land with one thing more -/
def more (A : Nat → Nat) (n k w b p s : Nat) : Nat → Nat := setA (setA (setA (setA (setA (setA (setA A (5 + n) k) 2 (n + 1)) (11 + n) w) (17 + n) b) (23 + n) p) (29 + n) s) (35 + n) w
theorem more_in {A : Nat → Nat} {n k w b p s : Nat} (hn : n < 6) : more A n k w b p s 2 = n + 1 ∧ more A n k w b p s (5 + n) = k ∧ more A n k w b p s (11 + n) = w ∧ more A n k w b p s (17 + n) = b ∧ more A n k w b p s (23 + n) = p ∧ more A n k w b p s (29 + n) = s ∧ more A n k w b p s (35 + n) = w := by
  unfold more
  refine ⟨?_, ?_, ?_, ?_, ?_, ?_, ?_⟩
  · rw [setA_ne (by omega), setA_ne (by omega), setA_ne (by omega), setA_ne (by omega), setA_ne (by omega), setA_at]
  · rw [setA_ne (by omega), setA_ne (by omega), setA_ne (by omega), setA_ne (by omega), setA_ne (by omega), setA_ne (by omega), setA_at]
  · rw [setA_ne (by omega), setA_ne (by omega), setA_ne (by omega), setA_ne (by omega), setA_at]
  · rw [setA_ne (by omega), setA_ne (by omega), setA_ne (by omega), setA_at]
  · rw [setA_ne (by omega), setA_ne (by omega), setA_at]
  · rw [setA_ne (by omega), setA_at]
  · rw [setA_at]
theorem more_out {A : Nat → Nat} {n k w b p s j : Nat} (h2 : j ≠ 2) (h5 : j ≠ 5 + n) (h11 : j ≠ 11 + n) (h17 : j ≠ 17 + n) (h23 : j ≠ 23 + n) (h29 : j ≠ 29 + n) (h35 : j ≠ 35 + n) : more A n k w b p s j = A j := by
  unfold more
  rw [setA_ne h35, setA_ne h29, setA_ne h23, setA_ne h17, setA_ne h11, setA_ne h2, setA_ne h5]
theorem more_ok {A : Nat → Nat} {n k w b p s : Nat} (hA : OkR A) (hn : A 2 = n) (hn6 : n < 6) (hk1 : 1 ≤ k) (hk5 : k ≤ 5) (hw : w ≤ 60) (hb1 : 1 ≤ b) (hb9 : b ≤ 9) (hp1 : 1 ≤ p) (hp9 : p ≤ 9) (hs : s ≤ 1) : OkR (more A n k w b p s) := by
  obtain ⟨⟨o1, o2, o3, o4⟩, h3, h4, h5⟩ := hA
  obtain ⟨i1, i2, i3, i4, i5, i6, i7⟩ := more_in (A := A) (k := k) (w := w) (b := b) (p := p) (s := s) hn6
  have oo : ∀ t, t < n → ∀ q, (q = 5 ∨ q = 11 ∨ q = 17 ∨ q = 23 ∨ q = 29 ∨ q = 35) → more A n k w b p s (q + t) = A (q + t) := fun t ht q hq => more_out (by omega) (by omega) (by omega) (by omega) (by omega) (by omega) (by omega)
  refine ⟨⟨by rw [i1]; omega, by rw [more_out (by omega) (by omega) (by omega) (by omega) (by omega) (by omega) (by omega)]; exact o2, by rw [more_out (by omega) (by omega) (by omega) (by omega) (by omega) (by omega) (by omega)]; exact o3, fun t ht => ?_⟩, by rw [more_out (by omega) (by omega) (by omega) (by omega) (by omega) (by omega) (by omega)]; exact h3, by rw [more_out (by omega) (by omega) (by omega) (by omega) (by omega) (by omega) (by omega)]; exact h4, fun t ht => ?_⟩
  · rw [i1] at ht
    by_cases c : t = n
    · subst c
      rw [i2, i3, i4, i5, i6, i7]
      omega
    · have ht' : t < n := by omega
      rw [oo t ht' 5 (by omega), oo t ht' 11 (by omega), oo t ht' 17 (by omega), oo t ht' 23 (by omega), oo t ht' 29 (by omega), oo t ht' 35 (by omega)]
      exact o4 t (by omega)
  · rw [i1] at ht
    by_cases c : t = n
    · subst c
      rw [i3, i7]
    · have ht' : t < n := by omega
      rw [oo t ht' 11 (by omega), oo t ht' 35 (by omega)]
      exact h5 t (by omega)
theorem more_dr {A : Nat → Nat} {n k w b p s : Nat} {kind was by_ price side : Nat → Int32} (hD : DR A kind was by_ price side) (hn : A 2 = n) (hn6 : n < 6) : DR (more A n k w b p s) (upd kind n (nI k)) (upd was n (nI w)) (upd by_ n (nI b)) (upd price n (nI p)) (upd side n (nI s)) := by
  obtain ⟨i1, i2, i3, i4, i5, i6, i7⟩ := more_in (A := A) (k := k) (w := w) (b := b) (p := p) (s := s) hn6
  intro t ht
  rw [i1] at ht
  by_cases c : t = n
  · subst c
    rw [pk_us, pk_us, pk_us, pk_us, pk_us, i2, i3, i4, i5, i6]
    exact ⟨rfl, rfl, rfl, rfl, rfl⟩
  · have oo : ∀ q, (q = 5 ∨ q = 11 ∨ q = 17 ∨ q = 23 ∨ q = 29) → more A n k w b p s (q + t) = A (q + t) := fun q hq => more_out (by omega) (by omega) (by omega) (by omega) (by omega) (by omega) (by omega)
    rw [pk_un c, pk_un c, pk_un c, pk_un c, pk_un c, oo 5 (by omega), oo 11 (by omega), oo 17 (by omega), oo 23 (by omega), oo 29 (by omega)]
    exact hD t (by omega)
/-- behind a fault, the rest of a thing -/
theorem af_rest3 (h : Chs z C bytes tape) (hF : 100000 ≤ F) {a lo hi s : Nat} {lf fp : Int32} (ha : a ≤ z) (hlo : lo ≤ 100) (hhi : hi ≤ 100) (hs : s ≤ 255) (hf : ¬ fp = -1000000) : ∃ v a1 a2, a1 ≤ z ∧ a2 ≤ z ∧ f_X5_readNumber F (nI lo) (nI hi) (nI z) bytes lf (nI a) fp = some (v, lf, nI a1, fp) ∧ f_X5_readSign F (nI s) (nI z) bytes lf (nI a1) fp = some (lf, nI a2, fp) := by
  obtain ⟨v, a1, h1, h2⟩ := af_num h hF ha hlo hhi hf
  obtain ⟨a2, h3, h4⟩ := af_sign (s := s) (F := F) (lf := lf) h h1 hs hf
  exact ⟨v, a1, a2, h1, h3, h2, h4⟩
theorem one (h : Chs z C bytes tape) (hF : 100000 ≤ F) {a n k : Nat} {A : Nat → Nat} {pl tk vl wr lf : Int32} {read kind was by_ price side : Nat → Int32} (ha : a < z) (hk1 : 1 ≤ k) (hk5 : k ≤ 5) (hk : f_X5_kindOfSort F (nI (C a)) = some (nI k)) (hl : Ltr (C a)) (hA : OkR A) (hn : A 2 = n) (hn6 : n < 6) (hD : DR A kind was by_ price side) (hM : MR A read) (ht : TokAt F z tape a pl tk vl) :
    (∃ (A' : Nat → Nat) (a' : Nat) (pl' tk' vl' : Int32) (read' kd ws bs ps ss : Nat → Int32), OkR A' ∧ A' 2 = n + 1 ∧ A' 0 = A 0 ∧ A' 1 = A 1 ∧ a' ≤ z ∧ f_X5_readThing F (nI n) (nI z) bytes lf (nI a) (-1000000) kind was by_ price side = some (lf, nI a', -1000000, kd, ws, bs, ps, ss) ∧ DR A' kd ws bs ps ss ∧ MR A' read' ∧ TokAt F z tape a' pl' tk' vl' ∧ f_X7_readThing F (nI k) (nI z) tape pl tk vl (nI a) wr read = some (1, pl', tk', vl', nI a', wr, read')) ∨
    (∃ (q : Int32) (p a' : Nat) (pl' tk' vl' : Int32) (read' kd ws bs ps ss : Nat → Int32), p ≤ z ∧ f_X5_readThing F (nI n) (nI z) bytes lf (nI a) (-1000000) kind was by_ price side = some (q, nI a', nI p, kd, ws, bs, ps, ss) ∧ f_X7_readThing F (nI k) (nI z) tape pl tk vl (nI a) wr read = some (0, pl', tk', vl', nI p, q, read')) := by
  have hz := h.1
  have npf : ∀ p, p ≤ z → ¬ nI p = -1000000 := fun p hp => nI_nm (k := 1000000) (by omega) (by omega) (by omega)
  have e2 : read 2 = nI n := by rw [hM 2 (by omega), hn]
  obtain ⟨pl1, tkz, vl1, ht1⟩ := tok_ex (F := F) h hF (show a + 1 ≤ z by omega)
  obtain ⟨rfl, rfl, rfl⟩ := tok_un ht (fun t v b => tk1 h hF ha hl)
  have hsort : f_X5_readSort F (nI z) bytes lf (nI a) (-1000000) = some (nI k, lf, nI (a + 1), -1000000) := by
    unfold f_X5_readSort
    rw [nx1 h ha, Option.bind_some, hk, Option.bind_some, if_neg (show ¬ nI k = -1000000 from nI_nm (k := 1000000) (by omega) (by omega) (by omega)), nI_s1]
  have gn : ∀ {α : Type} (x : Option α), gd (inb (nI n) 6) x = x := fun x => gdI hn6 (by omega)
  unfold f_X5_readThing f_X7_readThing f_X7_readThing_109 f_X7_readThing_110
  have c6 : ¬ nI n = (6 : Int32) := fun e => by
    have := (nI_eq (a := n) (b := 6) (by omega) (by omega)).mp e
    omega
  simp only [show (2 : Int32).toNatClampNeg = 2 from rfl, e2, if_neg c6, hsort, Option.bind_some, gn, show (5 : Int32) + nI n = nI (5 + n) from nI_add 5 n, show (11 : Int32) + nI n = nI (11 + n) from nI_add 11 n, show (17 : Int32) + nI n = nI (17 + n) from nI_add 17 n, show (23 : Int32) + nI n = nI (23 + n) from nI_add 23 n, show (29 : Int32) + nI n = nI (29 + n) from nI_add 29 n, show (35 : Int32) + nI n = nI (35 + n) from nI_add 35 n, ht1 _ _ _]
  simp (disch := omega) only [gdI, nI_clamp, show (2 : Int32) = nI 2 from rfl]
  have eu : upd read (5 + n) (nI k) 2 + nI 1 = nI (n + 1) := by rw [pk_un (by omega), e2, nI_add]
  have eu' : upd read (5 + n) (nI k) 2 + (1 : Int32) = nI (n + 1) := eu
  rw [eu']
  rcases nsg (F := F) (lo := 0) (hi := 60) (s := 44) (ix := 11 + n) (wr := wr) (lf := lf) (read := (upd (upd read (5 + n) (nI k)) 2 (nI (n + 1)))) h hF (show a + 1 ≤ z by omega) (by omega) (by omega) (by omega) (by omega) ht1 with ⟨v1, b1, a1, pl1', tk1', vl1', lo1, hi1, hb1, ha1, cn1, cs1, ht1', cm1⟩ | ⟨v1, lf1, b1, fp1, q, p, a1, pl2, tk2, vl2, read2, hb1, ha1, hp, cn1, cs1, cm1⟩
  rotate_left
  · have cn1' : f_X5_readNumber F 0 60 (nI z) bytes lf (nI (a + 1)) (-1000000) = _ := cn1
    have cs1' : f_X5_readSign F 44 (nI z) bytes lf1 (nI b1) fp1 = _ := cs1
    have cm1' : f_X7_takesNumber F 0 60 (nI (11 + n)) 44 (nI z) tape pl1 tkz vl1 (nI (a + 1)) wr (upd (upd read (5 + n) (nI k)) 2 (nI (n + 1))) = _ := cm1
    obtain ⟨w2, c2, d2, hc2, hd2, en2, es2⟩ := af_rest3 (F := F) (lo := 1) (hi := 9) (s := 44) (lf := q) (fp := nI p) h hF ha1 (by omega) (by omega) (by omega) (npf p hp)
    have en2' : f_X5_readNumber F 1 9 (nI z) bytes q (nI a1) (nI p) = _ := en2
    have es2' : f_X5_readSign F 44 (nI z) bytes q (nI c2) (nI p) = _ := es2
    obtain ⟨w3, c3, d3, hc3, hd3, en3, es3⟩ := af_rest3 (F := F) (lo := 1) (hi := 9) (s := 44) (lf := q) (fp := nI p) h hF hd2 (by omega) (by omega) (by omega) (npf p hp)
    have en3' : f_X5_readNumber F 1 9 (nI z) bytes q (nI d2) (nI p) = _ := en3
    have es3' : f_X5_readSign F 44 (nI z) bytes q (nI c3) (nI p) = _ := es3
    obtain ⟨w4, c4, d4, hc4, hd4, en4, es4⟩ := af_rest3 (F := F) (lo := 0) (hi := 1) (s := 59) (lf := q) (fp := nI p) h hF hd3 (by omega) (by omega) (by omega) (npf p hp)
    have en4' : f_X5_readNumber F 0 1 (nI z) bytes q (nI d3) (nI p) = _ := en4
    have es4' : f_X5_readSign F 59 (nI z) bytes q (nI c4) (nI p) = _ := es4
    rw [cn1', Option.bind_some, cs1', Option.bind_some, en2', Option.bind_some, es2', Option.bind_some, en3', Option.bind_some, es3', Option.bind_some, en4', Option.bind_some, es4', Option.bind_some]
    rw [cm1', Option.bind_some]
    exact Or.inr ⟨q, p, _, _, _, _, _, _, _, _, _, _, hp, rfl, rfl⟩
  have cn1' : f_X5_readNumber F 0 60 (nI z) bytes lf (nI (a + 1)) (-1000000) = _ := cn1
  have cs1' : f_X5_readSign F 44 (nI z) bytes lf (nI b1) (-1000000) = _ := cs1
  have cm1' : f_X7_takesNumber F 0 60 (nI (11 + n)) 44 (nI z) tape pl1 tkz vl1 (nI (a + 1)) wr (upd (upd read (5 + n) (nI k)) 2 (nI (n + 1))) = _ := cm1
  rcases nsg (F := F) (lo := 1) (hi := 9) (s := 44) (ix := 17 + n) (wr := wr) (lf := lf) (read := (upd (upd (upd read (5 + n) (nI k)) 2 (nI (n + 1))) (11 + n) (nI v1))) h hF ha1 (by omega) (by omega) (by omega) (by omega) ht1' with ⟨v2, b2, a2, pl2', tk2', vl2', lo2, hi2, hb2, ha2, cn2, cs2, ht2', cm2⟩ | ⟨v2, lf1, b2, fp1, q, p, a2, pl2, tk2, vl2, read2, hb2, ha2, hp, cn2, cs2, cm2⟩
  rotate_left
  · have cn2' : f_X5_readNumber F 1 9 (nI z) bytes lf (nI a1) (-1000000) = _ := cn2
    have cs2' : f_X5_readSign F 44 (nI z) bytes lf1 (nI b2) fp1 = _ := cs2
    have cm2' : f_X7_takesNumber F 1 9 (nI (17 + n)) 44 (nI z) tape pl1' tk1' vl1' (nI a1) wr (upd (upd (upd read (5 + n) (nI k)) 2 (nI (n + 1))) (11 + n) (nI v1)) = _ := cm2
    obtain ⟨w3, c3, d3, hc3, hd3, en3, es3⟩ := af_rest3 (F := F) (lo := 1) (hi := 9) (s := 44) (lf := q) (fp := nI p) h hF ha2 (by omega) (by omega) (by omega) (npf p hp)
    have en3' : f_X5_readNumber F 1 9 (nI z) bytes q (nI a2) (nI p) = _ := en3
    have es3' : f_X5_readSign F 44 (nI z) bytes q (nI c3) (nI p) = _ := es3
    obtain ⟨w4, c4, d4, hc4, hd4, en4, es4⟩ := af_rest3 (F := F) (lo := 0) (hi := 1) (s := 59) (lf := q) (fp := nI p) h hF hd3 (by omega) (by omega) (by omega) (npf p hp)
    have en4' : f_X5_readNumber F 0 1 (nI z) bytes q (nI d3) (nI p) = _ := en4
    have es4' : f_X5_readSign F 59 (nI z) bytes q (nI c4) (nI p) = _ := es4
    rw [cn1', Option.bind_some, cs1', Option.bind_some, cn2', Option.bind_some, cs2', Option.bind_some, en3', Option.bind_some, es3', Option.bind_some, en4', Option.bind_some, es4', Option.bind_some]
    rw [cm1', Option.bind_some, if_neg one_ne, cm2', Option.bind_some]
    exact Or.inr ⟨q, p, _, _, _, _, _, _, _, _, _, _, hp, rfl, rfl⟩
  have cn2' : f_X5_readNumber F 1 9 (nI z) bytes lf (nI a1) (-1000000) = _ := cn2
  have cs2' : f_X5_readSign F 44 (nI z) bytes lf (nI b2) (-1000000) = _ := cs2
  have cm2' : f_X7_takesNumber F 1 9 (nI (17 + n)) 44 (nI z) tape pl1' tk1' vl1' (nI a1) wr (upd (upd (upd read (5 + n) (nI k)) 2 (nI (n + 1))) (11 + n) (nI v1)) = _ := cm2
  rcases nsg (F := F) (lo := 1) (hi := 9) (s := 44) (ix := 23 + n) (wr := wr) (lf := lf) (read := (upd (upd (upd (upd read (5 + n) (nI k)) 2 (nI (n + 1))) (11 + n) (nI v1)) (17 + n) (nI v2))) h hF ha2 (by omega) (by omega) (by omega) (by omega) ht2' with ⟨v3, b3, a3, pl3', tk3', vl3', lo3, hi3, hb3, ha3, cn3, cs3, ht3', cm3⟩ | ⟨v3, lf1, b3, fp1, q, p, a3, pl2, tk2, vl2, read2, hb3, ha3, hp, cn3, cs3, cm3⟩
  rotate_left
  · have cn3' : f_X5_readNumber F 1 9 (nI z) bytes lf (nI a2) (-1000000) = _ := cn3
    have cs3' : f_X5_readSign F 44 (nI z) bytes lf1 (nI b3) fp1 = _ := cs3
    have cm3' : f_X7_takesNumber F 1 9 (nI (23 + n)) 44 (nI z) tape pl2' tk2' vl2' (nI a2) wr (upd (upd (upd (upd read (5 + n) (nI k)) 2 (nI (n + 1))) (11 + n) (nI v1)) (17 + n) (nI v2)) = _ := cm3
    obtain ⟨w4, c4, d4, hc4, hd4, en4, es4⟩ := af_rest3 (F := F) (lo := 0) (hi := 1) (s := 59) (lf := q) (fp := nI p) h hF ha3 (by omega) (by omega) (by omega) (npf p hp)
    have en4' : f_X5_readNumber F 0 1 (nI z) bytes q (nI a3) (nI p) = _ := en4
    have es4' : f_X5_readSign F 59 (nI z) bytes q (nI c4) (nI p) = _ := es4
    rw [cn1', Option.bind_some, cs1', Option.bind_some, cn2', Option.bind_some, cs2', Option.bind_some, cn3', Option.bind_some, cs3', Option.bind_some, en4', Option.bind_some, es4', Option.bind_some]
    rw [cm1', Option.bind_some, if_neg one_ne, cm2', Option.bind_some, if_neg one_ne, cm3', Option.bind_some]
    exact Or.inr ⟨q, p, _, _, _, _, _, _, _, _, _, _, hp, rfl, rfl⟩
  have cn3' : f_X5_readNumber F 1 9 (nI z) bytes lf (nI a2) (-1000000) = _ := cn3
  have cs3' : f_X5_readSign F 44 (nI z) bytes lf (nI b3) (-1000000) = _ := cs3
  have cm3' : f_X7_takesNumber F 1 9 (nI (23 + n)) 44 (nI z) tape pl2' tk2' vl2' (nI a2) wr (upd (upd (upd (upd read (5 + n) (nI k)) 2 (nI (n + 1))) (11 + n) (nI v1)) (17 + n) (nI v2)) = _ := cm3
  rcases nsg (F := F) (lo := 0) (hi := 1) (s := 59) (ix := 29 + n) (wr := wr) (lf := lf) (read := (upd (upd (upd (upd (upd read (5 + n) (nI k)) 2 (nI (n + 1))) (11 + n) (nI v1)) (17 + n) (nI v2)) (23 + n) (nI v3))) h hF ha3 (by omega) (by omega) (by omega) (by omega) ht3' with ⟨v4, b4, a4, pl4', tk4', vl4', lo4, hi4, hb4, ha4, cn4, cs4, ht4', cm4⟩ | ⟨v4, lf1, b4, fp1, q, p, a4, pl2, tk2, vl2, read2, hb4, ha4, hp, cn4, cs4, cm4⟩
  rotate_left
  · have cn4' : f_X5_readNumber F 0 1 (nI z) bytes lf (nI a3) (-1000000) = _ := cn4
    have cs4' : f_X5_readSign F 59 (nI z) bytes lf1 (nI b4) fp1 = _ := cs4
    have cm4' : f_X7_takesNumber F 0 1 (nI (29 + n)) 59 (nI z) tape pl3' tk3' vl3' (nI a3) wr (upd (upd (upd (upd (upd read (5 + n) (nI k)) 2 (nI (n + 1))) (11 + n) (nI v1)) (17 + n) (nI v2)) (23 + n) (nI v3)) = _ := cm4
    rw [cn1', Option.bind_some, cs1', Option.bind_some, cn2', Option.bind_some, cs2', Option.bind_some, cn3', Option.bind_some, cs3', Option.bind_some, cn4', Option.bind_some, cs4', Option.bind_some]
    rw [cm1', Option.bind_some, if_neg one_ne, cm2', Option.bind_some, if_neg one_ne, cm3', Option.bind_some, if_neg one_ne, cm4', Option.bind_some]
    exact Or.inr ⟨q, p, _, _, _, _, _, _, _, _, _, _, hp, rfl, rfl⟩
  have cn4' : f_X5_readNumber F 0 1 (nI z) bytes lf (nI a3) (-1000000) = _ := cn4
  have cs4' : f_X5_readSign F 59 (nI z) bytes lf (nI b4) (-1000000) = _ := cs4
  have cm4' : f_X7_takesNumber F 0 1 (nI (29 + n)) 59 (nI z) tape pl3' tk3' vl3' (nI a3) wr (upd (upd (upd (upd (upd read (5 + n) (nI k)) 2 (nI (n + 1))) (11 + n) (nI v1)) (17 + n) (nI v2)) (23 + n) (nI v3)) = _ := cm4
  rw [cn1', Option.bind_some, cs1', Option.bind_some, cn2', Option.bind_some, cs2', Option.bind_some, cn3', Option.bind_some, cs3', Option.bind_some, cn4', Option.bind_some, cs4', Option.bind_some]
  rw [cm1', Option.bind_some, if_neg one_ne, cm2', Option.bind_some, if_neg one_ne, cm3', Option.bind_some, if_neg one_ne, cm4', Option.bind_some, if_neg one_ne]
  have e11 : (upd (upd (upd (upd (upd (upd read (5 + n) (nI k)) 2 (nI (n + 1))) (11 + n) (nI v1)) (17 + n) (nI v2)) (23 + n) (nI v3)) (29 + n) (nI v4)) (11 + n) = nI v1 := by rw [pk_un (by omega), pk_un (by omega), pk_un (by omega), pk_us]
  have hMR : MR (more A n k v1 v2 v3 v4) (upd (upd (upd (upd (upd (upd (upd read (5 + n) (nI k)) 2 (nI (n + 1))) (11 + n) (nI v1)) (17 + n) (nI v2)) (23 + n) (nI v3)) (29 + n) (nI v4)) (35 + n) (nI v1)) := MR.set (MR.set (MR.set (MR.set (MR.set (MR.set (MR.set hM))))))
  have hMR2 : MR (more A n k v1 v2 v3 v4) (upd (upd (upd (upd (upd (upd (upd read (5 + n) (nI k)) 2 (nI (n + 1))) (11 + n) (nI v1)) (17 + n) (nI v2)) (23 + n) (nI v3)) (29 + n) (nI v4)) (35 + n) ((upd (upd (upd (upd (upd (upd read (5 + n) (nI k)) 2 (nI (n + 1))) (11 + n) (nI v1)) (17 + n) (nI v2)) (23 + n) (nI v3)) (29 + n) (nI v4)) (11 + n))) := by rw [e11]; exact hMR
  exact Or.inl ⟨more A n k v1 v2 v3 v4, a4, pl4', tk4', vl4', _, _, _, _, _, _, more_ok hA hn hn6 hk1 hk5 hi1 lo2 hi2 lo3 hi3 hi4, (more_in hn6).1, more_out (by omega) (by omega) (by omega) (by omega) (by omega) (by omega) (by omega), more_out (by omega) (by omega) (by omega) (by omega) (by omega) (by omega) (by omega), ha4, rfl, more_dr hD hn hn6, hMR2, ht4', rfl⟩
end LANDR
