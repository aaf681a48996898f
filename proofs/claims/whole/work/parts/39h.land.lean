/-! a land's text, step by step: class and reference -/
section LANDS
variable {F z : Nat} {bytes tape : Nat → Int32} {C : Nat → Nat}
def TokAt (F z : Nat) (tape : Nat → Int32) (a : Nat) (pl tk vl : Int32) : Prop := ∀ t v b, f_X7_nextToken F (nI z) tape (nI a) t v b = some (pl, tk, vl, nI a)
def Ltr (c : Nat) : Prop := (97 ≤ c ∧ c ≤ 122) ∨ c = 44 ∨ c = 59
theorem tokc (h : Chs z C bytes tape) (hF : 100000 ≤ F) {a : Nat} (ha : a ≤ z) :
    (∃ pl tk vl, TokAt F z tape a pl tk vl ∧ ((tk = 3 ∧ a = z) ∨ (tk = 0 ∧ a < z ∧ ¬ Ltr (C a)) ∨ (tk = 1 ∧ pl = nI (a + 1) ∧ vl = nI (C a) ∧ a < z ∧ Ltr (C a))) ∧ ∀ lo hi lf fp, ∃ v, f_X5_readNumber F (nI lo) (nI hi) (nI z) bytes lf (nI a) fp = f_X5_readNumber_61 F (nI z) bytes lf (nI a) fp v) ∨
    (∃ k v, (k = 1 ∨ k = 2) ∧ a + k ≤ z ∧ v ≤ 99 ∧ ¬ Ltr (C a) ∧ TokAt F z tape a (nI (a + k)) 2 (nI v) ∧ ∀ lo hi lf fp, f_X5_readNumber F (nI lo) (nI hi) (nI z) bytes lf (nI a) fp = f_X5_readNumber_51 F (nI z) bytes lf (nI a) fp (nI lo) (nI hi) (nI k) (nI v)) := by
  by_cases ca : a = z
  · left
    subst ca
    exact ⟨nI a, 3, 0, fun t v b => tk3 h hF, Or.inl ⟨rfl, rfl⟩, fun lo hi lf fp => ⟨0, num0 h hF (Nat.le_refl _) (by unfold Dg; omega)⟩⟩
  have hlt : a < z := by omega
  rcases Dg_dec z C a with h0 | h0
  · have hnl : ¬ Ltr (C a) := by
      obtain ⟨g1, g2, g3⟩ := h0
      unfold Ltr
      omega
    rcases Dg_dec z C (a + 1) with h1 | h1
    · rcases Dg_dec z C (a + 2) with h2 | h2
      · left
        obtain ⟨e, w, -⟩ := tkn3 (F := F) (t := 0) (v := 0) (b := 0) h hF h0 h1 h2
        have key : ∀ t v b, f_X7_nextToken F (nI z) tape (nI a) t v b = f_X7_nextToken F (nI z) tape (nI a) 0 0 0 := fun t v b => by rw [tk_ne h hlt, tk_ne h hlt]
        obtain ⟨e, w, hg⟩ := tkn3 (F := F) (t := 0) (v := 0) (b := 0) h hF h0 h1 h2
        exact ⟨e, 0, w, fun t v b => (key t v b).trans hg, Or.inr (Or.inl ⟨rfl, hlt, hnl⟩), fun lo hi lf fp => num3 h hF h0 h1 h2⟩
      · right
        obtain ⟨g1, g2, g3⟩ := id h0
        obtain ⟨g4, g5, g6⟩ := id h1
        exact ⟨2, (C a - 48) * 10 + C (a + 1) - 48, Or.inr rfl, by omega, by omega, hnl, fun t v b => tkn2 h hF h0 h1 h2, fun lo hi lf fp => num2 h hF h0 h1 h2⟩
    · right
      obtain ⟨g1, g2, g3⟩ := id h0
      exact ⟨1, C a - 48, Or.inl rfl, by omega, by omega, hnl, fun t v b => tkn1 h hF h0 h1, fun lo hi lf fp => num1 h hF h0 h1⟩
  · left
    by_cases hl : Ltr (C a)
    · exact ⟨nI (a + 1), 1, nI (C a), fun t v b => tk1 h hF hlt hl, Or.inr (Or.inr ⟨rfl, rfl, rfl, hlt, hl⟩), fun lo hi lf fp => ⟨0, num0 h hF ha h0⟩⟩
    · exact ⟨nI (a + 1), 0, nI (C a), fun t v b => tk0 h hF hlt h0 hl, Or.inr (Or.inl ⟨rfl, hlt, hl⟩), fun lo hi lf fp => ⟨0, num0 h hF ha h0⟩⟩
theorem tok_ex (h : Chs z C bytes tape) (hF : 100000 ≤ F) {a : Nat} (ha : a ≤ z) : ∃ pl tk vl, TokAt F z tape a pl tk vl := by
  rcases tokc h hF ha with ⟨pl, tk, vl, h1, -⟩ | ⟨k, v, -, -, -, -, h1, -⟩
  · exact ⟨pl, tk, vl, h1⟩
  · exact ⟨_, _, _, h1⟩
theorem tok_un {a : Nat} {pl tk vl pl' tk' vl' : Int32} (h1 : TokAt F z tape a pl tk vl) (h2 : TokAt F z tape a pl' tk' vl') : pl = pl' ∧ tk = tk' ∧ vl = vl' := by
  have := (h1 0 0 0).symm.trans (h2 0 0 0)
  injection this with this
  injection this with e1 this
  injection this with e2 this
  injection this with e3 this
  exact ⟨e1, e2, e3⟩
theorem fl1 {x a lf : Int32} : f_X5_fail F x a lf (-1000000) = some (x, a) := by unfold f_X5_fail; rw [if_pos rfl]
theorem fl0 {x a lf fp : Int32} (h : ¬ fp = -1000000) : f_X5_fail F x a lf fp = some (lf, fp) := by unfold f_X5_fail; rw [if_neg h]
theorem nx1 (h : Chs z C bytes tape) {a : Nat} (ha : a < z) : f_X5_next F (nI z) (nI a) bytes = some (nI (C a)) := by
  have hz := h.1
  have hb := (h.2 a ha).2.1
  unfold f_X5_next
  rw [if_neg (show ¬ nI z ≤ nI a from by rw [nI_leI (by omega) (by omega)]; omega), gdI (by omega) (by omega), nI_clamp (by omega), hb]
theorem nx0 (h : Chs z C bytes tape) : f_X5_next F (nI z) (nI z) bytes = some (-1000000) := by
  have hz := h.1
  unfold f_X5_next
  rw [if_pos (show nI z ≤ nI z from by rw [nI_leI (by omega) (by omega)]; omega)]
theorem sg1 (h : Chs z C bytes tape) {a s : Nat} {lf fp : Int32} (ha : a < z) (hs : C a = s) : f_X5_readSign F (nI s) (nI z) bytes lf (nI a) fp = some (lf, nI (a + 1), fp) := by
  unfold f_X5_readSign
  rw [nx1 h ha, Option.bind_some, if_pos (by rw [hs]), nI_s1]
theorem sg0 (h : Chs z C bytes tape) {a s : Nat} {lf fp : Int32} (ha : a ≤ z) (hs5 : s ≤ 255) (hs : ¬ (a < z ∧ C a = s)) : f_X5_readSign F (nI s) (nI z) bytes lf (nI a) fp = (f_X5_fail F 1 (nI a) lf fp).bind fun u4 => some (u4.1, nI a, u4.2) := by
  unfold f_X5_readSign
  by_cases c : a < z
  · have h5 := (h.2 a c).1
    rw [nx1 h c, Option.bind_some, if_neg (fun e => hs ⟨c, (nI_eq (by omega) (by omega)).mp e⟩)]
  · have e : a = z := by omega
    subst e
    rw [nx0 h, Option.bind_some, if_neg (show ¬ (-1000000 : Int32) = nI s from fun e => nI_nm (s := s) (k := 1000000) (by omega) (by omega) (by omega) (Eq.symm e))]
/-- behind a fault nothing counts -/
theorem af_sign (h : Chs z C bytes tape) {a s : Nat} {lf fp : Int32} (ha : a ≤ z) (hs5 : s ≤ 255) (hf : ¬ fp = -1000000) : ∃ a', a' ≤ z ∧ f_X5_readSign F (nI s) (nI z) bytes lf (nI a) fp = some (lf, nI a', fp) := by
  by_cases c : a < z ∧ C a = s
  · exact ⟨a + 1, by omega, sg1 h c.1 c.2⟩
  · exact ⟨a, ha, by rw [sg0 h ha hs5 c, fl0 hf]; rfl⟩
theorem n51 {a k v lo hi : Nat} {lf fp : Int32} (hk : k = 1 ∨ k = 2) (hv : v ≤ 99) (hlo : lo ≤ 100) (hhi : hi ≤ 100) : f_X5_readNumber_51 F (nI z) bytes lf (nI a) fp (nI lo) (nI hi) (nI k) (nI v) = (if lo ≤ v ∧ v ≤ hi then some (nI v, lf, nI (a + k), fp) else (f_X5_fail F 2 (nI a) lf fp).bind fun u6 => some (nI v, u6.1, nI a, u6.2)) := by
  unfold f_X5_readNumber_51 f_X6_isWithin
  have k0 : ¬ nI k < (1 : Int32) := by rcases hk with rfl | rfl <;> decide
  have k2 : nI k ≤ (2 : Int32) := by rcases hk with rfl | rfl <;> decide
  rw [if_neg k0, if_pos k2]
  by_cases c1 : v < lo
  · rw [if_pos (show nI v < nI lo from (nI_ltI (by omega) (by omega)).mpr c1), if_neg (by omega)]
    rfl
  · rw [if_neg (show ¬ nI v < nI lo from fun e => c1 ((nI_ltI (by omega) (by omega)).mp e))]
    by_cases c2 : hi < v
    · rw [if_pos (show nI hi < nI v from (nI_ltI (by omega) (by omega)).mpr c2), if_neg (by omega)]
      rfl
    · rw [if_neg (show ¬ nI hi < nI v from fun e => c2 ((nI_ltI (by omega) (by omega)).mp e)), if_pos (by omega), Option.bind_some, if_neg one_ne, nI_add]
theorem af_num (h : Chs z C bytes tape) (hF : 100000 ≤ F) {a lo hi : Nat} {lf fp : Int32} (ha : a ≤ z) (hlo : lo ≤ 100) (hhi : hi ≤ 100) (hf : ¬ fp = -1000000) : ∃ v a', a' ≤ z ∧ f_X5_readNumber F (nI lo) (nI hi) (nI z) bytes lf (nI a) fp = some (v, lf, nI a', fp) := by
  rcases tokc (F := F) h hF ha with ⟨-, -, -, -, -, hn⟩ | ⟨k, v, hk, hkz, hv, -, -, hn⟩
  · obtain ⟨v, hv⟩ := hn lo hi lf fp
    refine ⟨v, a, ha, ?_⟩
    rw [hv]
    unfold f_X5_readNumber_61
    rw [fl0 hf]
    rfl
  · rw [hn lo hi lf fp, n51 hk hv hlo hhi]
    by_cases c : lo ≤ v ∧ v ≤ hi
    · exact ⟨nI v, a + k, hkz, by rw [if_pos c]⟩
    · exact ⟨nI v, a, ha, by rw [if_neg c, fl0 hf]; rfl⟩
theorem af_sort (h : Chs z C bytes tape) {a : Nat} {lf fp : Int32} (ha : a ≤ z) (hf : ¬ fp = -1000000) : ∃ v a', a' ≤ z ∧ f_X5_readSort F (nI z) bytes lf (nI a) fp = some (v, lf, nI a', fp) := by
  unfold f_X5_readSort
  by_cases c : a < z
  · rw [nx1 h c]
    have : ∃ q, f_X5_kindOfSort F (nI (C a)) = some q := by
      unfold f_X5_kindOfSort
      repeat' split
      all_goals exact ⟨_, rfl⟩
    obtain ⟨q, hq⟩ := this
    simp only [Option.bind_some, hq]
    by_cases cq : q = -1000000
    · exact ⟨q, a, ha, by rw [if_pos cq, fl0 hf]; rfl⟩
    · exact ⟨q, a + 1, by omega, by rw [if_neg cq, nI_s1]⟩
  · have e : a = z := by omega
    subst e
    refine ⟨-1000000, a, ha, ?_⟩
    rw [nx0 h, Option.bind_some, show f_X5_kindOfSort F (-1000000) = some (-1000000) from rfl, Option.bind_some, if_pos rfl, fl0 hf]
    rfl
/-- a sign, as the reference takes it -/
theorem tks1 (h : Chs z C bytes tape) (hF : 100000 ≤ F) {a s : Nat} {pl tk vl wr : Int32} (ha : a < z) (hs : C a = s) (hl : Ltr s) (ht : TokAt F z tape a pl tk vl) : ∃ pl' tk' vl', TokAt F z tape (a + 1) pl' tk' vl' ∧ f_X7_takes F (nI s) (nI z) tape pl tk vl (nI a) wr = some (1, pl', tk', vl', nI (a + 1), wr) := by
  obtain ⟨pl', tk', vl', ht'⟩ := tok_ex (F := F) h hF (show a + 1 ≤ z by omega)
  refine ⟨pl', tk', vl', ht', ?_⟩
  subst hs
  obtain ⟨rfl, rfl, rfl⟩ := tok_un ht (fun t v b => tk1 h hF ha hl)
  unfold f_X7_takes f_X7_isLetter
  rw [if_pos rfl, if_pos rfl, Option.bind_some, if_neg one_ne, ht']
  rfl
theorem tks0 (h : Chs z C bytes tape) (hF : 100000 ≤ F) {a s : Nat} {pl tk vl wr : Int32} (ha : a ≤ z) (hs5 : s ≤ 255) (hs : ¬ (a < z ∧ C a = s)) (ht : TokAt F z tape a pl tk vl) : f_X7_isLetter F (nI s) tk vl = some 0 ∧ f_X7_takes F (nI s) (nI z) tape pl tk vl (nI a) wr = some (0, pl, tk, vl, nI a, 1) := by
  have hlet : f_X7_isLetter F (nI s) tk vl = some 0 := by
    unfold f_X7_isLetter
    rcases tokc (F := F) h hF ha with ⟨pl', tk', vl', h1, h2, -⟩ | ⟨k, v, -, -, -, -, h1, -⟩
    · obtain ⟨rfl, rfl, rfl⟩ := tok_un ht h1
      rcases h2 with ⟨rfl, -⟩ | ⟨rfl, -⟩ | ⟨rfl, rfl, rfl, hlt, -⟩
      · rw [if_neg (by decide)]
      · rw [if_neg (by decide)]
      · have h5 := (h.2 a hlt).1
        rw [if_pos rfl, if_neg (fun e => hs ⟨hlt, (nI_eq (by omega) (by omega)).mp e⟩)]
    · obtain ⟨rfl, rfl, rfl⟩ := tok_un ht h1
      rw [if_neg (by decide)]
  refine ⟨hlet, ?_⟩
  unfold f_X7_takes f_X7_faults
  rw [hlet]
  rfl
/-- a number and the sign behind it -/
theorem nsg (h : Chs z C bytes tape) (hF : 100000 ≤ F) {a lo hi s ix : Nat} {pl tk vl wr lf : Int32} {read : Nat → Int32} (ha : a ≤ z) (hlo : lo ≤ 100) (hhi : hi ≤ 100) (hl : s = 44 ∨ s = 59) (hix : ix < 41) (ht : TokAt F z tape a pl tk vl) :
    (∃ v a1 a2 pl' tk' vl', lo ≤ v ∧ v ≤ hi ∧ a1 ≤ z ∧ a2 ≤ z ∧ f_X5_readNumber F (nI lo) (nI hi) (nI z) bytes lf (nI a) (-1000000) = some (nI v, lf, nI a1, -1000000) ∧ f_X5_readSign F (nI s) (nI z) bytes lf (nI a1) (-1000000) = some (lf, nI a2, -1000000) ∧ TokAt F z tape a2 pl' tk' vl' ∧ f_X7_takesNumber F (nI lo) (nI hi) (nI ix) (nI s) (nI z) tape pl tk vl (nI a) wr read = some (1, pl', tk', vl', nI a2, wr, upd read ix (nI v))) ∨
    (∃ v lf1 a1 fp1 q p a2 pl' tk' vl' read', a1 ≤ z ∧ a2 ≤ z ∧ p ≤ z ∧ f_X5_readNumber F (nI lo) (nI hi) (nI z) bytes lf (nI a) (-1000000) = some (v, lf1, nI a1, fp1) ∧ f_X5_readSign F (nI s) (nI z) bytes lf1 (nI a1) fp1 = some (q, nI a2, nI p) ∧ f_X7_takesNumber F (nI lo) (nI hi) (nI ix) (nI s) (nI z) tape pl tk vl (nI a) wr read = some (0, pl', tk', vl', nI p, q, read')) := by
  have hz := h.1
  have hs5 : s ≤ 255 := by omega
  have hls : Ltr s := by unfold Ltr; omega
  have npf : ∀ p, p ≤ z → ¬ nI p = -1000000 := fun p hp => nI_nm (k := 1000000) (by omega) (by omega) (by omega)
  rcases tokc (F := F) h hF ha with ⟨pl', tk', vl', h1, h2, hn⟩ | ⟨k, v, hk, hkz, hv, -, h1, hn⟩
  · right
    obtain ⟨rfl, rfl, rfl⟩ := tok_un ht h1
    obtain ⟨v, hv⟩ := hn lo hi lf (-1000000)
    obtain ⟨a2, ha2, hs2⟩ := af_sign (F := F) (s := s) (lf := 1) (fp := nI a) h ha hs5 (npf a ha)
    refine ⟨v, 1, a, nI a, 1, a, a2, pl, tk, vl, read, ha, ha2, ha, ?_, hs2, ?_⟩
    · rw [hv]
      unfold f_X5_readNumber_61
      rw [fl1]
      rfl
    · unfold f_X7_takesNumber f_X7_takesNumber_23 f_X7_takesNumber_37 f_X7_faults
      have htk : ¬ tk = 2 := by rcases h2 with ⟨rfl, -⟩ | ⟨rfl, -⟩ | ⟨rfl, -⟩ <;> decide
      rw [if_neg htk, if_neg htk]
      rfl
  · obtain ⟨rfl, rfl, rfl⟩ := tok_un ht h1
    have hin := in7 (F := F) (v := v) (lo := lo) (hi := hi) (by omega) (by omega) (by omega)
    have elo : (nI lo).toInt64 = lN lo := nI_l (by omega)
    have ehi : (nI hi).toInt64 = lN hi := nI_l (by omega)
    have hnum := hn lo hi lf (-1000000)
    rw [n51 hk hv hlo hhi] at hnum
    by_cases c : lo ≤ v ∧ v ≤ hi
    · rw [if_pos c] at hnum hin
      obtain ⟨pl', tk', vl', ht'⟩ := tok_ex (F := F) h hF hkz
      by_cases cs : a + k < z ∧ C (a + k) = s
      · left
        obtain ⟨pl2, tk2, vl2, ht2, hm⟩ := tks1 (F := F) (wr := wr) h hF cs.1 cs.2 hls ht'
        refine ⟨v, a + k, a + k + 1, pl2, tk2, vl2, c.1, c.2, hkz, by omega, hnum, sg1 h cs.1 cs.2, ht2, ?_⟩
        unfold f_X7_takesNumber
        rw [if_pos rfl, elo, ehi, hin, Option.bind_some, if_neg one_ne, gdI hix (by omega), ht', Option.bind_some, hm, nI_clamp (by omega)]
        rfl
      · right
        obtain ⟨-, hm⟩ := tks0 (F := F) (wr := wr) h hF hkz hs5 cs ht'
        refine ⟨nI v, lf, a + k, -1000000, 1, a + k, a + k, pl', tk', vl', upd read ix (nI v), hkz, hkz, hkz, hnum, ?_, ?_⟩
        · rw [sg0 h hkz hs5 cs, fl1]
          rfl
        · unfold f_X7_takesNumber
          rw [if_pos rfl, elo, ehi, hin, Option.bind_some, if_neg one_ne, gdI hix (by omega), ht', Option.bind_some, hm, nI_clamp (by omega)]
          rfl
    · right
      rw [if_neg c] at hnum hin
      obtain ⟨a2, ha2, hs2⟩ := af_sign (F := F) (s := s) (lf := 2) (fp := nI a) h ha hs5 (npf a ha)
      refine ⟨nI v, 2, a, nI a, 2, a, a2, nI (a + k), 2, nI v, read, ha, ha2, ha, ?_, hs2, ?_⟩
      · rw [hnum, fl1]
        rfl
      · unfold f_X7_takesNumber f_X7_takesNumber_23 f_X7_takesNumber_37 f_X7_faults
        rw [if_pos rfl, elo, ehi, hin, Option.bind_some, if_pos rfl, if_pos rfl]
        rfl
end LANDS
