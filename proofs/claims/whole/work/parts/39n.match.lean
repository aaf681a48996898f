/-! match: the reference's value of one case -/
set_option maxRecDepth 100000 in
theorem or_b : ∀ m : Fin 64, ∀ d : Fin 6, nI m.1 ||| ((1 : Int32) <<< (nI d.1 &&& 31)) = nI (m.1 ||| 2 ^ d.1) := by decide
set_option maxRecDepth 100000 in
theorem or_lt : ∀ m : Fin 64, ∀ d : Fin 6, m.1 ||| 2 ^ d.1 < 64 := by decide
set_option maxRecDepth 100000 in
theorem bt_or : ∀ m : Fin 64, ∀ d e : Fin 6, bt d.1 (m.1 ||| 2 ^ e.1) = if d.1 = e.1 then 1 else bt d.1 m.1 := by decide
def prS (A : Nat → Nat) (s : Nat) : Prop := 4 ≤ A (5 + s)
def okd (A : Nat → Nat) (s d : Nat) : Prop := (prS A s ∧ prS A d) ∨ (¬ prS A s ∧ d = s)
/-- the digits of the case y, thing by thing from the last on, k of them -/
def dg (n : Nat) : Nat → Nat → Nat
  | 0, y => y % n
  | k + 1, y => dg n k (y / n)
def MK (n y : Nat) : Nat → Nat
  | 0 => 0
  | k + 1 => MK n y k ||| 2 ^ dg n k y
def SM (A : Nat → Nat) (n y : Nat) : Nat → Nat
  | 0 => 0
  | k + 1 => SM A n y k + (if 4 ≤ A (5 + (n - 1 - k)) then df (A (35 + (n - 1 - k))) (A (11 + dg n k y)) else 0)
def FL (A : Nat → Nat) (n y : Nat) : Nat → Prop
  | 0 => True
  | k + 1 => FL A n y k ∧ bt (dg n k y) (MK n y k) = 0 ∧ okd A (n - 1 - k) (dg n k y)
theorem dg_lt {n : Nat} (hn : 0 < n) : ∀ k y, dg n k y < n
  | 0, y => Nat.mod_lt _ hn
  | k + 1, y => dg_lt hn k (y / n)
theorem dg_div {n : Nat} : ∀ k y, dg n k y = y / n ^ k % n
  | 0, y => by show y % n = y / n ^ 0 % n; rw [Nat.pow_zero, Nat.div_one]
  | k + 1, y => by
    show dg n k (y / n) = y / n ^ (k + 1) % n
    rw [dg_div k, Nat.div_div_eq_div_mul, Nat.pow_succ, Nat.mul_comm]
theorem MK_lt {n y : Nat} (hn : 0 < n) (hn6 : n ≤ 6) : ∀ k, MK n y k < 64
  | 0 => by show 0 < 64; omega
  | k + 1 => or_lt ⟨MK n y k, MK_lt hn hn6 k⟩ ⟨dg n k y, by have := dg_lt hn k y; omega⟩
theorem SM_le {A : Nat → Nat} {n y : Nat} (hT : OkT A) (h2 : A 2 = n) (hn : 0 < n) : ∀ k, k ≤ n → SM A n y k ≤ 99 * k
  | 0, _ => Nat.le_refl _
  | k + 1, hk => by
    have h1 := SM_le (y := y) hT h2 hn k (by omega)
    have hd := dg_lt hn k y
    have b1 := hT.2.2.2 (n - 1 - k) (by omega)
    have b2 := hT.2.2.2 (dg n k y) (by omega)
    show SM A n y k + (if 4 ≤ A (5 + (n - 1 - k)) then df (A (35 + (n - 1 - k))) (A (11 + dg n k y)) else 0) ≤ 99 * (k + 1)
    have : df (A (35 + (n - 1 - k))) (A (11 + dg n k y)) ≤ 99 := by unfold df; omega
    split <;> omega
theorem s_offBy {F n x : Nat} {A : Nat → Nat} {st : Nat → Int32} (hT : OkT A) (h2 : A 2 = n) (hn : 0 < n) (hx : x < 1000000) (hM : RpM A st) : ∀ (j k fu : Nat) (places : Nat → Int32) (fl : Int32), n = k + j → j < fu → ((fl = 1 ∧ FL A n x k) ∨ (fl = 0 ∧ ¬ FL A n x k)) → (∀ s, n - k ≤ s → s < n → places s = nI (dg n (n - 1 - s) x)) →
    ∃ places', f_X7_offBy_20_r F st fu places (nI (x / n ^ k)) (nI (MK n x k)) (nI (SM A n x k)) fl (nI (n - k) - 1) = some (@ite _ (FL A n x n) (Classical.propDecidable _) (nI (SM A n x n)) (-1000000), places') ∧ ∀ s, s < n → places' s = nI (dg n (n - 1 - s) x) := by
  have hn6 : n ≤ 6 := by have := hT.1; omega
  have e2 := hM 2 (by omega) (by omega)
  rw [h2] at e2
  intro j
  induction j with
  | zero =>
    intro k fu places fl h1 hf hfl hpl
    obtain ⟨fu, rfl⟩ : ∃ q, fu = q + 1 := ⟨fu - 1, by omega⟩
    have ek : k = n := by omega
    subst ek
    refine ⟨places, ?_, fun s hs => hpl s (by omega) hs⟩
    show f_X7_offBy_20 F _ _ _ _ _ _ _ _ = _
    unfold f_X7_offBy_20
    rw [if_pos (show nI (k - k) - 1 < (0 : Int32) from by rw [Nat.sub_self]; decide)]
    rcases hfl with ⟨rfl, hfl⟩ | ⟨rfl, hfl⟩
    · rw [if_neg one_ne, if_pos hfl]
    · rw [if_pos rfl, if_neg hfl]
  | succ j ih =>
    intro k fu places fl h1 hf hfl hpl
    obtain ⟨fu, rfl⟩ : ∃ q, fu = q + 1 := ⟨fu - 1, by omega⟩
    have hd := dg_lt hn k x
    have hmk := MK_lt (y := x) hn hn6 k
    have hsm := SM_le (y := x) hT h2 hn k (by omega)
    have hdd := dg_div (n := n) k x
    have hq : x / n ^ k ≤ x := Nat.div_le_self _ _
    obtain ⟨t, ht⟩ : ∃ t, t = n - 1 - k := ⟨_, rfl⟩
    have htn : t < n := by omega
    have e6 : nI (n - k) - (1 : Int32) = nI t := by rw [show n - k = t + 1 from by omega]; exact nI_pred t
    obtain ⟨b1, b2, b3, b4, b5, b6, b7, b8, b9⟩ := hT.2.2.2 t (by omega)
    obtain ⟨d1, d2, d3, -⟩ := hT.2.2.2 (dg n k x) (by omega)
    have hp := s_isPeople (F := F) hM (show t < 6 by omega) b2
    have hpd := s_isPeople (F := F) hM (show dg n k x < 6 by omega) d2
    have hh := has7 (F := F) (x := MK n x k) (b := dg n k x) (by omega) (by omega)
    have q35 := hM (35 + t) (by omega) (by omega)
    have hdf := s_differ (F := F) (t := dg n k x) (a := A (35 + t)) hM (by omega) (by omega) (by omega)
    have hor := or_b ⟨MK n x k, hmk⟩ ⟨dg n k x, by omega⟩
    have hbt : bt (dg n k x) (MK n x k) < 2 := Nat.mod_lt _ (by omega)
    have ediv : x / n ^ k / n = x / n ^ (k + 1) := by rw [Nat.div_div_eq_div_mul, Nat.pow_succ]
    have em : nI t + (-1 : Int32) = nI (n - (k + 1)) - 1 := by rw [show n - (k + 1) = t from by omega, Int32.sub_eq_add_neg]
    have eS : ∀ v, v = (if 4 ≤ A (5 + t) then df (A (35 + t)) (A (11 + dg n k x)) else 0) → nI (SM A n x k) + nI v = nI (SM A n x (k + 1)) := fun v hv => by
      rw [nI_add, hv, ht]
      rfl
    -- what the step does, once the flag behind it is known
    have step : ∀ y0 : Int32, f_X7_offBy_91 F st (f_X7_offBy_20_r F st fu) places (nI (x / n ^ (k + 1))) (nI (MK n x k)) (nI (SM A n x k)) (nI t) (nI (dg n k x)) y0 = f_X7_offBy_20_r F st fu (upd places t (nI (dg n k x))) (nI (x / n ^ (k + 1))) (nI (MK n x (k + 1))) (nI (SM A n x (k + 1))) y0 (nI (n - (k + 1)) - 1) := by
      intro y0
      unfold f_X7_offBy_91 f_X7_offBy_131
      rw [hp]
      by_cases c4 : 4 ≤ A (5 + t)
      · rw [if_pos c4, Option.bind_some, if_neg (show ¬ nI 1 = (0 : Int32) from by decide), show (35 : Int32) + nI t = nI (35 + t) from nI_add 35 t, gdI (by omega) (by omega), nI_clamp (by omega), q35, hdf, Option.bind_some, gdI (by omega) (by omega), nI_clamp (by omega), em, eS _ (by rw [if_pos c4]), hor]
        rfl
      · rw [if_neg c4, Option.bind_some, if_pos (show nI 0 = (0 : Int32) from rfl), gdI (by omega) (by omega), nI_clamp (by omega), em, show (0 : Int32) = nI 0 from rfl, eS 0 (by rw [if_neg c4]), hor]
        rfl
    have main : ∃ y0 : Int32, ((y0 = 1 ∧ FL A n x (k + 1)) ∨ (y0 = 0 ∧ ¬ FL A n x (k + 1))) ∧ f_X7_offBy_20 F st (f_X7_offBy_20_r F st fu) places (nI (x / n ^ k)) (nI (MK n x k)) (nI (SM A n x k)) fl (nI t) = f_X7_offBy_91 F st (f_X7_offBy_20_r F st fu) places (nI (x / n ^ (k + 1))) (nI (MK n x k)) (nI (SM A n x k)) (nI t) (nI (dg n k x)) y0 := by
      have edv : nI (x / n ^ k) / nI n = nI (x / n ^ (k + 1)) := by rw [pk_div (by omega) (by omega) (by omega), ediv]
      have erm : nI (x / n ^ k) - nI (x / n ^ (k + 1)) * nI n = nI (dg n k x) := by rw [← edv, pk_rem (by omega) (by omega) (by omega), hdd]
      have hFLs : FL A n x (k + 1) ↔ FL A n x k ∧ bt (dg n k x) (MK n x k) = 0 ∧ okd A t (dg n k x) := by rw [ht]; exact Iff.rfl
      have n0 : ¬ nI t < (0 : Int32) := fun hh => by rw [show (0 : Int32) = nI 0 from rfl, nI_ltI (by omega) (by omega)] at hh; omega
      have gz : ∀ {α : Type} (y : Option α), gd (nz (nI n)) y = y := fun y => gdZ hn (by omega)
      have g2 : ∀ {α : Type} (y : Option α), gd (inb (2 : Int32) 41) y = y := fun y => gdI (k := 2) (by omega) (by omega)
      unfold f_X7_offBy_20 f_X7_offBy_90 f_X7_offBy_86
      rw [if_neg n0]
      simp only [show (2 : Int32).toNatClampNeg = 2 from rfl, e2, g2, gz, edv, erm, hh, hp, hpd, Option.bind_some]
      rcases hfl with ⟨rfl, hfl⟩ | ⟨rfl, hfl⟩
      · rw [if_neg one_ne]
        by_cases cb : bt (dg n k x) (MK n x k) = 1
        · refine ⟨0, Or.inr ⟨rfl, fun hf => by have := (hFLs.mp hf).2.1; omega⟩, ?_⟩
          rw [if_pos cb, if_neg one_ne]
        · rw [if_neg cb, if_pos rfl]
          by_cases c4 : 4 ≤ A (5 + t)
          · rw [if_pos c4, if_neg (show ¬ nI 1 = (0 : Int32) from by decide)]
            by_cases c5 : 4 ≤ A (5 + dg n k x)
            · refine ⟨1, Or.inl ⟨rfl, hFLs.mpr ⟨hfl, by omega, Or.inl ⟨c4, c5⟩⟩⟩, ?_⟩
              rw [if_pos c5, if_neg (show ¬ nI 1 = (0 : Int32) from by decide)]
            · refine ⟨0, Or.inr ⟨rfl, fun hf => ?_⟩, ?_⟩
              · rcases (hFLs.mp hf).2.2 with ⟨-, w⟩ | ⟨w, -⟩
                · exact c5 w
                · exact w c4
              · rw [if_neg c5, if_pos (show nI 0 = (0 : Int32) from rfl)]
          · rw [if_neg c4, if_pos (show nI 0 = (0 : Int32) from rfl)]
            by_cases c6 : dg n k x = t
            · refine ⟨1, Or.inl ⟨rfl, hFLs.mpr ⟨hfl, by omega, Or.inr ⟨c4, c6⟩⟩⟩, ?_⟩
              rw [if_pos (show nI (dg n k x) = nI t from by rw [c6])]
            · refine ⟨0, Or.inr ⟨rfl, fun hf => ?_⟩, ?_⟩
              · rcases (hFLs.mp hf).2.2 with ⟨w, -⟩ | ⟨-, w⟩
                · exact c4 w
                · exact c6 w
              · rw [if_neg (show ¬ nI (dg n k x) = nI t from fun e => c6 ((nI_eq (by omega) (by omega)).mp e))]
      · refine ⟨0, Or.inr ⟨rfl, fun hf => hfl (hFLs.mp hf).1⟩, ?_⟩
        rw [if_pos rfl]
    obtain ⟨y0, hy, hmain⟩ := main
    obtain ⟨places', g1, g2⟩ := ih (k + 1) fu (upd places t (nI (dg n k x))) y0 (by omega) (by omega) hy (fun s hs1 hs2 => by
      by_cases c : s = t
      · rw [c, pk_us, show n - 1 - t = k from by omega]
      · rw [pk_un c]; exact hpl s (by omega) hs2)
    refine ⟨places', ?_, g2⟩
    show f_X7_offBy_20 F _ _ _ _ _ _ _ _ = _
    rw [e6, hmain, step]
    exact g1
