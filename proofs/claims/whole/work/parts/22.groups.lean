/-! frames: a contract over more cells; worlds in groups -/
theorem Met.conseq {l : Launch} {y : MethodName} {ws : List Cond} {rm : Room} {Pc Pc' : Array Value → State → Prop} {Qc Qc' : Array Value → State → Outcome → State → Prop} {mc ms : Nat} {free free' : Addr → Prop} (h : Met l y ws rm Pc Qc mc ms free) (hp : ∀ a s, Pc' a s → Pc a s) (hq : ∀ a s o t, Pc' a s → Qc a s o t → Qc' a s o t) (hfr : ∀ q, free q → free' q) : Met l y ws rm Pc' Qc' mc ms free' := by
  intro p e h1 h2 h3 s m args below hf happ hP hK
  obtain ⟨n, o, a1, a2, a3, ⟨hQ, L, hL, hLf⟩⟩ := h p e h1 h2 h3 s m args below hf happ (hp _ _ hP) trivial
  exact ⟨n, o, a1, a2, a3, hq _ _ _ _ hP hQ, L, hL, fun q hq' => hfr _ (hLf q hq')⟩
theorem va_A_sub {ws wc : va_W} {sz : Nat} {isC : List Nat} (hC : isC.map (fun i => ws[i]?) = wc.map some) : ∀ q, va_A wc sz q → va_A ws sz q := by
  intro q h
  rcases h with ⟨k, x, h⟩ | h
  · have h1 : (isC.map (fun i => ws[i]?))[k]? = some (some (q, x)) := by rw [hC, List.getElem?_map, h]; rfl
    rw [List.getElem?_map] at h1
    cases hi : isC[k]? with
    | none => rw [hi] at h1; cases h1
    | some i => rw [hi] at h1; exact Or.inl ⟨i, x, Option.some.inj h1⟩
  · exact Or.inr h
theorem Ct.frame {l : Launch} {G : EnvT} {y : MethodName} {cc : ByteArray} {nL : Nat} {ret : Option FieldType} {fr lo : Nat} {av : List Value} {wc wo ws wr wf : va_W} {rv : Option Value} (hM : Ct l G y cc nL ret fr lo av wc rv wo)
    (isC isR isO : List Nat) (hC : isC.map (fun i => ws[i]?) = wc.map some) (hnC : va_nd isC = true) (hR : isR.map (fun i => ws[i]?) = wr.map some) (hn : va_nd isR = true) (hdis : ∀ i ∈ isR, i ∉ isC) (hO : isO.map (fun i => (wr ++ wo)[i]?) = wf.map some) (hnO : va_nd isO = true) : Ct l G y cc nL ret fr lo av ws rv wf := by
  intro sz
  refine (hM sz).conseq ?_ ?_ (va_A_sub hC)
  · intro a s h
    exact ⟨h.1, h.2.1, h.2.2.1, h.2.2.2.1.sub isC (pk_fm hC), h.2.2.2.2.1.sub isC hnC hC, h.2.2.2.2.2⟩
  · intro a s o t h hq
    obtain ⟨-, hsz, hN, hP, hD, hE⟩ := h
    obtain ⟨ho, hP1, hD1, hz, hk⟩ := hq
    subst hsz
    have hD' : va_D (va_A ws s.heap.size) ws := hD.self
    obtain ⟨hPj, hDj⟩ := va_join (H := s.heap) (H1 := t.heap) hP hD' isC isR hC hR hn hdis hk (va_A_sub hC) hP1 hD1
    exact ⟨ho, hPj.sub isO (pk_fm hO), hDj.sub isO hnO hO, hz, fun q h1 h2 => hk q h1 (fun z => h2 (va_A_sub hC q z))⟩
def fl (gs : List va_W) : va_W := gs.flatten
theorem vP_iff {D : va_G} {cl : List vw_C} {ws : va_W} {H : Heap} : va_P D cl ws H ↔ ∀ q ∈ ws, va_at D cl q H := by
  constructor
  · intro h q hq
    obtain ⟨k, hk⟩ := List.mem_iff_getElem?.mp hq
    exact h k q hk
  · intro h k q hk
    exact h q (List.mem_of_getElem? hk)
theorem vD_iff {A : Nat → Prop} {ws : va_W} : va_D A ws ↔ ws.Pairwise (fun p q => p.1 ≠ q.1) ∧ ∀ q ∈ ws, A q.1 := by
  constructor
  · intro h
    refine ⟨List.pairwise_iff_getElem.mpr (fun i j hi hj hij he => ?_), fun q hq => ?_⟩
    · have := h.1 i j ws[i] ws[j] (List.getElem?_eq_getElem hi) (List.getElem?_eq_getElem hj) he
      omega
    · obtain ⟨k, hk⟩ := List.mem_iff_getElem?.mp hq
      exact h.2 k q hk
  · intro h
    refine ⟨fun i j p q hi hj he => ?_, fun k q hk => h.2 q (List.mem_of_getElem? hk)⟩
    obtain ⟨hi1, hi2⟩ := List.getElem?_eq_some_iff.mp hi
    obtain ⟨hj1, hj2⟩ := List.getElem?_eq_some_iff.mp hj
    have hp := List.pairwise_iff_getElem.mp h.1
    rcases Nat.lt_trichotomy i j with hlt | hlt | hlt
    · exact absurd (by rw [hi2, hj2]; exact he) (hp i j hi1 hj1 hlt)
    · exact hlt
    · exact absurd (by rw [hi2, hj2]; exact he.symm) (hp j i hj1 hi1 hlt)
theorem sel_mem {α : Type} {gs gs' : List α} {js : List Nat} (hs : js.map (fun i => gs[i]?) = gs'.map some) {k : Nat} {g : α} (hk : gs'[k]? = some g) : ∃ i, js[k]? = some i ∧ gs[i]? = some g := by
  have h1 : (js.map (fun i => gs[i]?))[k]? = some (some g) := by rw [hs, List.getElem?_map, hk]; rfl
  rw [List.getElem?_map] at h1
  cases hi : js[k]? with
  | none => rw [hi] at h1; cases h1
  | some i => rw [hi] at h1; exact ⟨i, rfl, Option.some.inj h1⟩
theorem fl_P {D : va_G} {cl : List vw_C} {gs gs' : List va_W} {H : Heap} (h : va_P D cl (fl gs) H) (js : List Nat) (hs : js.map (fun i => gs[i]?) = gs'.map some) : va_P D cl (fl gs') H := by
  rw [vP_iff] at h ⊢
  intro q hq
  obtain ⟨g, hg, hqg⟩ := List.mem_flatten.mp hq
  obtain ⟨k, hk⟩ := List.mem_iff_getElem?.mp hg
  obtain ⟨i, -, hi⟩ := sel_mem hs hk
  exact h q (List.mem_flatten.mpr ⟨g, List.mem_of_getElem? hi, hqg⟩)
theorem fl_D {A : Nat → Prop} {gs gs' : List va_W} (h : va_D A (fl gs)) (js : List Nat) (hn : va_nd js = true) (hs : js.map (fun i => gs[i]?) = gs'.map some) : va_D A (fl gs') := by
  rw [vD_iff] at h ⊢
  obtain ⟨h1, h2⟩ := h
  obtain ⟨h3, h4⟩ := List.pairwise_flatten.mp h1
  refine ⟨List.pairwise_flatten.mpr ⟨fun g hg => ?_, List.pairwise_iff_getElem.mpr (fun a b ha hb hab => ?_)⟩, fun q hq => ?_⟩
  · obtain ⟨k, hk⟩ := List.mem_iff_getElem?.mp hg
    obtain ⟨i, -, hi⟩ := sel_mem hs hk
    exact h3 g (List.mem_of_getElem? hi)
  · obtain ⟨i, hi1, hi2⟩ := sel_mem hs (List.getElem?_eq_getElem ha)
    obtain ⟨j, hj1, hj2⟩ := sel_mem hs (List.getElem?_eq_getElem hb)
    have hne : i ≠ j := fun e => by
      subst e
      have := va_nd_inj js hn a b i hi1 hj1
      omega
    obtain ⟨hi3, hi4⟩ := List.getElem?_eq_some_iff.mp hi2
    obtain ⟨hj3, hj4⟩ := List.getElem?_eq_some_iff.mp hj2
    have hp := List.pairwise_iff_getElem.mp h4
    rcases Nat.lt_or_gt_of_ne hne with hlt | hlt
    · have := hp i j hi3 hj3 hlt
      rw [hi4, hj4] at this
      exact this
    · have := hp j i hj3 hi3 hlt
      rw [hi4, hj4] at this
      intro x hx y hy e
      exact this y hy x hx e.symm
  · obtain ⟨g, hg, hqg⟩ := List.mem_flatten.mp hq
    obtain ⟨k, hk⟩ := List.mem_iff_getElem?.mp hg
    obtain ⟨i, -, hi⟩ := sel_mem hs hk
    exact h2 q (List.mem_flatten.mpr ⟨g, List.mem_of_getElem? hi, hqg⟩)
theorem fl_app (a b : List va_W) : fl (a ++ b) = fl a ++ fl b := List.flatten_append
theorem rng_l (w1 w2 : va_W) : (List.range w1.length).map (fun i => (w1 ++ w2)[i]?) = w1.map some := by
  apply List.ext_getElem?
  intro i
  rw [List.getElem?_map, List.getElem?_map]
  by_cases h : i < w1.length
  · rw [List.getElem?_range h, List.getElem?_eq_getElem h]
    show some ((w1 ++ w2)[i]?) = some (some w1[i])
    rw [List.getElem?_append_left h, List.getElem?_eq_getElem h]
  · rw [List.getElem?_eq_none (by simpa using h), List.getElem?_eq_none (by omega)]
    rfl
theorem rng_r (w1 w2 : va_W) : ((List.range w2.length).map (fun i => w1.length + i)).map (fun i => (w1 ++ w2)[i]?) = w2.map some := by
  apply List.ext_getElem?
  intro i
  rw [List.getElem?_map, List.getElem?_map, List.getElem?_map]
  by_cases h : i < w2.length
  · rw [List.getElem?_range h]
    simp [h]
  · rw [List.getElem?_eq_none (by simpa using h), List.getElem?_eq_none (by omega)]
    rfl
theorem nd_of : ∀ (l : List Nat), l.Nodup → va_nd l = true
  | [], _ => rfl
  | a :: l, h => by
    rw [List.nodup_cons] at h
    simp [va_nd, h.1, nd_of l h.2]
theorem nd_rng (n : Nat) : va_nd (List.range n) = true := nd_of _ List.nodup_range
theorem nd_rngr (k n : Nat) : va_nd ((List.range n).map (fun i => k + i)) = true := nd_of _ (by
  refine List.Pairwise.map _ ?_ List.nodup_range
  intro a b h e
  omega)
section CLGRP
variable {p : Program} {l : Launch} {e : Env} {R : Room} {s : State} {m : MethodId} {args : Array Value} {below : List Frame} {meth : Method} {c : Code} {H : Heap} {locs : List Loc} {cells slots : Nat} {Q : State → Prop}
variable {pc : Nat} {ls : Array Slot} {rest st0 st1 : List Value} {G : EnvT} {A : Nat → Prop} {gs gc go gr gf : List va_W} {rv : Option Value} {own : String} {cc : ByteArray} {nL : Nat} {ret0 : Option FieldType}
variable {y : MethodName} {bytes : ByteArray} {maxL n index fr lo : Nat} {ret : Option FieldType} {b : Nat} {As : List Value}
/-- a call, over a world in groups -/
theorem cl_G (X : Cx p s m args meth c G own cc nL ret0 A) (hP : va_P G.1 classes (fl gs) H) (hD : va_D A (fl gs)) (hS : va_S A s.heap H locs)
    (hM : Ct l G y bytes maxL ret fr lo (.ref b :: As) (fl gc) rv (fl go)) (hm : CmV y bytes maxL ret n) (hlink : Cond.methodLink own index y ∈ gw_tbl)
    (hroom : fr + 1 ≤ R.frames ∧ 8 + (maxL + 11) + lo ≤ R.locals) (q0 : Nat) {ci : Nat} {fs : List Value} {Tc : u_T} {Nc : Nat} (hrecv : (fl gc)[q0]? = some (b, .inr (ci, fs))) (hci : classes[ci]? = some (y.cls, Tc, Nc))
    (js isO : List Nat) (hJ : js.map (fun i => gs[i]?) = (gr ++ gc).map some) (hnJ : va_nd js = true)
    (hO : isO.map (fun i => (gr ++ go)[i]?) = gf.map some) (hnO : va_nd isO = true)
    (hlen : As.length = n) (hsz : ls.size = nL) (hstk : st0 = As.reverse ++ .ref b :: rest) (hW : (rest.map fun v => v.category).sum ≤ 8) (hdg : decode cc pc = .ok (.invokevirtual index, 3)) (hcs : cells ≤ R.cells ∧ slots ≤ R.slots) (hst : rv.toList ++ rest = st1)
    (kk : ∀ (H1 : Heap) (locs1 : List Loc), va_P G.1 classes (fl gf) H1 → va_D A (fl gf) → va_S A s.heap H1 locs1 → W p l e R s m args below meth c H1 locs1 cells slots Q (F0 m (pc + 3) ls st1)) : W p l e R s m args below meth c H locs cells slots Q (F0 m pc ls st0) := by
  have hP1 : va_P G.1 classes (fl gr ++ fl gc) H := by rw [← fl_app]; exact fl_P hP js hJ
  have hD1 : va_D A (fl gr ++ fl gc) := by rw [← fl_app]; exact fl_D hD js hnJ hJ
  refine cl_V (wr := fl gr) (wf := fl gr ++ fl go) X hP1 hD1 hS hM hm hlink hroom q0 hrecv hci ((List.range (fl gc).length).map (fun i => (fl gr).length + i)) (List.range (fl gr).length) (List.range (fl gr ++ fl go).length) (rng_r _ _) (nd_rngr _ _) (rng_l _ _) (nd_rng _) ?_ ?_ (nd_rng _) hlen hsz hstk hW hdg hcs hst ?_
  · intro i hi hj
    obtain ⟨k, hk, e⟩ := List.mem_map.mp hj
    have h1 := List.mem_range.mp hi
    omega
  · have := rng_l (fl gr ++ fl go) []
    simpa using this
  · intro H1 locs1 hP2 hD2 hS2
    refine kk H1 locs1 ?_ ?_ hS2
    · rw [← fl_app] at hP2
      exact fl_P hP2 isO hO
    · rw [← fl_app] at hD2
      exact fl_D hD2 isO hnO hO
end CLGRP
