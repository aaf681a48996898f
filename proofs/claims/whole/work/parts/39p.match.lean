/-! match: the class goes through the same cases, but for those that can't stand -/
def Ex (n t c : Nat) : Nat → Nat := fun s => dg n (t - 1 - s) c
theorem Ex_lo {n t c u s : Nat} (hn : 0 < n) (hu : u < n) (hs : s < t) : Ex n (t + 1) (c * n + u) s = Ex n t c s := by
  unfold Ex
  rw [show t + 1 - 1 - s = (t - 1 - s) + 1 from by omega]
  show dg n (t - 1 - s) ((c * n + u) / n) = _
  rw [Nat.mul_comm c n, Nat.mul_add_div hn, Nat.div_eq_of_lt hu, Nat.add_zero]
theorem Ex_at {n t c u : Nat} (hu : u < n) : Ex n (t + 1) (c * n + u) t = u := by
  unfold Ex
  rw [show t + 1 - 1 - t = 0 from by omega]
  show (c * n + u) % n = u
  rw [Nat.mul_comm c n, Nat.mul_add_mod, Nat.mod_eq_of_lt hu]
theorem Ex_D {n t j c x s : Nat} (hnt : n = t + j) (hx : x / n ^ j = c) (hs : s < t) : D n x s = Ex n t c s := by
  unfold D Ex
  rw [dg_div, dg_div, ← hx, Nat.div_div_eq_div_mul, ← Nat.pow_add, show j + (t - 1 - s) = n - 1 - s from by omega]
theorem PV_pre {A : Nat → Nat} {n t j c x : Nat} (hnt : n = t + j) (hx : x / n ^ j = c) (h : PV A n (D n x)) : PV A t (Ex n t c) :=
  ⟨fun s hs => by rw [← Ex_D hnt hx hs]; exact h.1 s (by omega), fun s s' h1 h2 => by rw [← Ex_D hnt hx (by omega), ← Ex_D hnt hx h2]; exact h.2 s s' h1 (by omega)⟩
def RB (A : Nat → Nat) (n x : Nat) (least : Int32) (best : Nat → Int32) : Prop := (BB A n x = none ∧ least = 1000000000) ∨ ∃ y o, BB A n x = some (y, o) ∧ o < 1000 ∧ least = nI o ∧ ∀ s, s < n → best s = nI (D n y s)
theorem RB_no {A : Nat → Nat} {n t j c : Nat} {least : Int32} {best : Nat → Int32} (hn : 0 < n) (hnt : n = t + j) (hv : ¬ PV A t (Ex n t c)) (h : RB A n (c * n ^ j) least best) : RB A n ((c + 1) * n ^ j) least best := by
  have e : BB A n ((c + 1) * n ^ j) = BB A n (c * n ^ j) := by
    rw [Nat.add_mul, Nat.one_mul]
    refine BB_no (n ^ j) (fun x h1 h2 hp => hv (PV_pre hnt ?_ hp))
    have hpos : 0 < n ^ j := Nat.pow_pos hn
    rw [Nat.div_eq_iff_eq_mul_left_lt hpos] <;> omega
  unfold RB
  rw [e]
  exact h
