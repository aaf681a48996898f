/-! the classes, the environment of every contract, contracts, calls, ends -/
abbrev classes : List vw_C := [(RX0, TX0, 3), (RX1, TX1, 4), (RX2, TX2, 11), (RX3, TX3, 11), (RX4, TX4, 3), (RX5, TX5, 6), (RX6, TX6, 9), (RX7, TX7, 28)]
abbrev EnvT : Type := va_G × (ClassId × ClassId × ClassId) × (Nat × Nat × Nat × Nat)
abbrev gI (G : EnvT) : ClassId := G.2.1.1
abbrev gJ (G : EnvT) : ClassId := G.2.1.2.1
abbrev gZ (G : EnvT) : ClassId := G.2.1.2.2
abbrev gN (G : EnvT) : Nat := G.2.2.1
abbrev gT1 (G : EnvT) : Nat := G.2.2.2.1
abbrev gT2 (G : EnvT) : Nat := G.2.2.2.2.1
abbrev gT3 (G : EnvT) : Nat := G.2.2.2.2.2
abbrev gTy (G : EnvT) : List (ClassId × FieldType) := [(gI G, .int), (gJ G, .long), (gZ G, .boolean)]
def kt_KINDS_TOO (j : Nat) : Int32 := if j = 0 then 1 else if j = 1 then 3 else if j = 2 then 7 else if j = 3 then 11 else if j = 4 then 17 else 49
def kt_SIZE_BODY (j : Nat) : Int32 := if j = 0 then 10 else if j = 1 then 11 else if j = 2 then 12 else if j = 3 then 11 else if j = 4 then 13 else 14
def kt_MARK_BODY (j : Nat) : Int32 := if j = 0 then 20 else if j = 1 then 21 else if j = 2 then 24 else if j = 3 then 22 else if j = 4 then 23 else 23
def ST (nm : String) (t : Nat) (f : Nat → Int32) (N0 : Nat) (U : State) : Prop := va_Z RX1 nm "[I" (.ref t) (fun q => N0 ≤ q) U U.heap ∧ va_T .int t 6 (fun j => .int (f j)) (fun q => N0 ≤ q) U U.heap
theorem ST.to {nm : String} {t : Nat} {f : Nat → Int32} {N0 : Nat} {s U : State} (h : ST nm t f N0 s) (hvm : s.vm.Alike U.vm) (hh : ∀ q : Nat, q < N0 → U.heap[q]? = s.heap[q]?) : ST nm t f N0 U :=
  ⟨(va_Z.moved hvm h.1).kept (fun a _ hn => hh a (Nat.not_le.mp hn)), (va_T.moved hvm h.2).kept (fun a _ hn => hh a (Nat.not_le.mp hn))⟩
theorem nw_warm {w : Cond} (h : isNest w = true) {s U : State} (hW : s.WarmedH U.vm) (hZ : va_Nw w s) : va_Nw w U := by
  cases w <;> first | exact va_Nw.warmF hW hZ | exact va_Nw.warmM hW hZ | cases h
theorem nw_tab {w : Cond} (h : isNest w = true) : w.onTables = true := by
  cases w <;> first | rfl | cases h
/-- what every contract takes from the launch: the classes, the nest's words, the static rows -/
def EN (G : EnvT) (U : State) : Prop := va_K G.1 classes (gTy G) U ∧ (∀ w ∈ nw_tbl, va_Nw w U) ∧ ST "KINDS_TOO" (gT1 G) kt_KINDS_TOO (gN G) U ∧ ST "SIZE_BODY" (gT2 G) kt_SIZE_BODY (gN G) U ∧ ST "MARK_BODY" (gT3 G) kt_MARK_BODY (gN G) U
theorem EN.to {G : EnvT} {s U : State} (h : EN G s) (hW : s.WarmedH U.vm) (hh : ∀ q : Nat, q < gN G → U.heap[q]? = s.heap[q]?) : EN G U :=
  ⟨va_K.moved hW.alike h.1, fun w hw => nw_warm (nw_is hw) hW (h.2.1 w hw), h.2.2.1.to hW.alike hh, h.2.2.2.1.to hW.alike hh, h.2.2.2.2.to hW.alike hh⟩
theorem EN.call {G : EnvT} {U : State} {g : JFrame} {mk : MethodId} {a : Array Value} (h : EN G U) : EN G (U.calling g mk a) :=
  ⟨va_K.moved (u := U) (U := U.calling g mk a) (Vm.Alike.refl U.vm) h.1, fun w hw => va_Nw.same (u := U) (U := U.calling g mk a) (nw_tab (nw_is hw)) rfl (h.2.1 w hw), h.2.2.1.to (U := U.calling g mk a) (Vm.Alike.refl U.vm) (fun _ _ => rfl), h.2.2.2.1.to (U := U.calling g mk a) (Vm.Alike.refl U.vm) (fun _ _ => rfl), h.2.2.2.2.to (U := U.calling g mk a) (Vm.Alike.refl U.vm) (fun _ _ => rfl)⟩
def Bin (G : EnvT) (sz : Nat) (wi : va_W) (U : State) : Prop := U.heap.size = sz ∧ gN G ≤ sz ∧ va_P G.1 classes wi U.heap ∧ va_D (fun q => gN G ≤ q) wi ∧ EN G U
theorem Bin.blind {G : EnvT} {sz : Nat} {wi : va_W} {av : List Value} : FrameBlind (va_Pc av (Bin G sz wi)) := fun _ _ _ _ h => ⟨h.1, h.2.1, h.2.2.1, h.2.2.2.1, h.2.2.2.2.1, h.2.2.2.2.2.call⟩
def Qg (G : EnvT) (rv : Option Value) (wi wo : va_W) (sz : Nat) : Array Value → State → Outcome → State → Prop := fun _ st oc t => oc = .returned rv ∧ va_P G.1 classes wo t.heap ∧ va_D (va_A wi sz) wo ∧ va_F (va_A wi sz) st t
abbrev rmOf (fr lo : Nat) : Room := { frames := fr, cells := 0, slots := 0, locals := lo }
/-- a contract: from the cells wi to the cells wo, with the answer rv; nothing is made -/
def Ct (l : Launch) (G : EnvT) (y : MethodName) (cc : ByteArray) (nL : Nat) (ret : Option FieldType) (fr lo : Nat) (av : List Value) (wi : va_W) (rv : Option Value) (wo : va_W) : Prop :=
  ∀ sz : Nat, Met l y (Cond.code y cc nL ret :: gw_tbl) (rmOf fr lo) (va_Pc av (Bin G sz wi)) (Qg G rv wi wo sz) 0 0 (va_A wi sz)
/-- what holds all through a method's body -/
def Cx (p : Program) (s : State) (m : MethodId) (args : Array Value) (meth : Method) (c : Code) (G : EnvT) (own : String) (cc : ByteArray) (nL : Nat) (ret : Option FieldType) (A : Nat → Prop) : Prop :=
  p.tables.exec = Jvm.exec ∧ c.code = cc ∧ meth.sig.returnType = ret ∧ c.maxLocals = nL ∧ s.vm.findClass own = some m.cls ∧ (∀ w ∈ gw_tbl, w.before args s = true) ∧ meth.locks = false ∧ EN G s ∧ (∀ q : Nat, s.heap.size ≤ q → A q) ∧ (∀ q : Nat, A q → gN G ≤ q)
/-- the goal of a body's walk -/
abbrev WQ (p : Program) (l : Launch) (e : Env) (fr lo : Nat) (s : State) (m : MethodId) (args : Array Value) (below : List Frame) (meth : Method) (c : Code) (G : EnvT) (rv : Option Value) (wi wo : va_W) (sz : Nat) (H : Heap) (locs : List Loc) (g : JFrame) : Prop :=
  W p l e (rmOf fr lo) s m args below meth c H locs 0 0 (MQ below (Qg G rv wi wo sz) args s 0 0 (va_A wi sz)) g
theorem Ct.of {l : Launch} {G : EnvT} {y : MethodName} {cc : ByteArray} {nL : Nat} {ret : Option FieldType} {fr lo : Nat} {av : List Value} {wi wo : va_W} {rv : Option Value} (hy : plainName y.cls = true) (hn : (lg_sl av).length ≤ nL)
    (body : ∀ (args : Array Value) (wi0 : va_W) (sz : Nat) (p : Program) (e : Env) (s : State) (m : MethodId) (below : List Frame) (meth : Method) (c : Code) (ls : Array Slot), Cx p s m args meth c G y.cls cc nL ret (va_A wi0 sz) → va_P G.1 classes wi s.heap → va_D (va_A wi0 sz) wi → va_S (va_A wi0 sz) s.heap s.heap [] → lv_has ls nL (lv_args 0 av) → WQ p l e fr lo s m args below meth c G rv wi0 wo sz s.heap [] (F0 m 0 ls [])) : Ct l G y cc nL ret fr lo av wi rv wo := by
  intro sz
  refine Met.ofW (cc := cc) (maxL := nL) (ret := ret) hy rfl ?_
  intro p e s m args below meth c s₁ B hml hv
  obtain ⟨rfl, hsz, hN, hP, hD0, hE⟩ := hv
  have hts := atoms_spec (ws := Cond.code y cc nL ret :: gw_tbl) B.pre
  have hown : s.vm.findClass y.cls = some m.cls := findClass_of_methodNamed B.named
  subst hsz
  rw [lg_entry_eq]
  refine body _ wi s.heap.size p e s m below meth c _ ⟨B.exec, B.bytes, B.returns, hml, hown, fun w hw => hts w (List.mem_cons_of_mem _ hw), B.notSynchronized, hE, fun q h => Or.inr h, fun q h => ?_⟩ hP hD0.self va_S.rf (lv_entry av hn)
  rcases h with ⟨k, x, h⟩ | h
  · exact hD0.2 k (q, x) h
  · exact Nat.le_trans hN h
theorem pk_fm {ws ws' : va_W} {js : List Nat} (h : js.map (fun i => ws[i]?) = ws'.map some) : js.filterMap (fun i => ws[i]?) = ws' := by
  have e : js.filterMap (fun i => ws[i]?) = (js.map (fun i => ws[i]?)).filterMap id := by rw [List.filterMap_map]; rfl
  rw [e, h, List.filterMap_map]
  exact List.filterMap_some
section CLG
variable {p : Program} {l : Launch} {e : Env} {R : Room} {s : State} {m : MethodId} {args : Array Value} {below : List Frame} {meth : Method} {c : Code} {H : Heap} {locs : List Loc} {cells slots : Nat} {Q : State → Prop}
variable {pc : Nat} {ls : Array Slot} {rest st0 st1 : List Value} {a : Array Value} {G : EnvT} {A : Nat → Prop} {ws wc wo wr wf : va_W} {rv : Option Value}
theorem cl_go (hr : va_Run p l e R s m args below meth c H locs cells slots 0 0 (F0 m pc ls st0) rest (Qg G rv wc wo H.size a) (va_A wc H.size))
    (hP : va_P G.1 classes ws H) (hD : va_D A ws) (hS : va_S A s.heap H locs) (hA : ∀ q : Nat, s.heap.size ≤ q → A q)
    (isC isR isO : List Nat) (hC : isC.map (fun i => ws[i]?) = wc.map some) (hR : isR.map (fun i => ws[i]?) = wr.map some) (hn : va_nd isR = true) (hdis : ∀ i ∈ isR, i ∉ isC)
    (hO : isO.map (fun i => (wr ++ wo)[i]?) = wf.map some) (hnO : va_nd isO = true) (hst : rv.toList ++ rest = st1)
    (kk : ∀ (H1 : Heap) (locs1 : List Loc), va_P G.1 classes wf H1 → va_D A wf → va_S A s.heap H1 locs1 → W p l e R s m args below meth c H1 locs1 cells slots Q (F0 m (pc + 3) ls st1)) : W p l e R s m args below meth c H locs cells slots Q (F0 m pc ls st0) := by
  intro T hT X
  have hF := va_free hD hS hA isC hC
  obtain ⟨v, st₀, t, T', L, h0, X', hL, e1, e2, ⟨hv, hP1, hD1, hz, hk⟩, st⟩ := hr T hT X
  cases hv
  rw [h0] at hz hk
  obtain ⟨hPj, hDj⟩ := va_join hP hD isC isR hC hR hn hdis hk hF hP1 hD1
  subst hst
  obtain ⟨t2, a1, b1⟩ := kk T'.heap (locs ++ L) (by rw [e1]; exact hPj.sub isO (pk_fm hO)) (hDj.sub isO hnO hO)
    ⟨Nat.le_trans hS.1 (by rw [e1]; exact hz), fun q h1 h2 => by rw [e1, hk q (Nat.lt_of_lt_of_le h1 hS.1) (fun z => h2 (hF q z))]; exact hS.2.1 q h1 h2, fun q hq => by
      rcases List.mem_append.mp hq with h | h
      · exact hS.2.2 q h
      · exact hF _ (hL q h)⟩ T' rfl X'
  exact ⟨t2, st t2 a1, b1⟩
variable {own : String} {cc : ByteArray} {nL : Nat} {ret0 : Option FieldType}
theorem cl_pre (X : Cx p s m args meth c G own cc nL ret0 A) {av : List Value} (hP : va_P G.1 classes ws H) (hD : va_D A ws) (hS : va_S A s.heap H locs) (isC : List Nat) (hC : isC.map (fun i => ws[i]?) = wc.map some) (hnC : va_nd isC = true) : ∀ U : State, U.heap = H → s.WarmedH U.vm → va_Pc av (Bin G H.size wc) av.toArray U := by
  obtain ⟨-, -, -, -, -, -, -, hE, hA, hN⟩ := X
  have hN0 : gN G ≤ s.heap.size := hN _ (hA _ (Nat.le_refl _))
  intro U hU hW
  refine ⟨rfl, by rw [hU], Nat.le_trans hN0 hS.1, by rw [hU]; exact hP.sub isC (pk_fm hC), (hD.sub isC hnC hC).weaken (fun _ _ _ h => hN _ h), hE.to hW (fun q hq => ?_)⟩
  rw [hU]
  exact hS.2.1 q (Nat.lt_of_lt_of_le hq hN0) (fun z => absurd (hN q z) (Nat.not_le.mpr hq))
/-- the words of a method that is called, wherever from -/
def Cm (y : MethodName) (bytes : ByteArray) (maxL : Nat) (ret : Option FieldType) (n : Nat) : Prop :=
  Cond.code y bytes maxL ret ∈ gw_tbl ∧ Cond.initialized y.cls ∈ gw_tbl ∧ (y.cls ≠ "java/lang/invoke/MethodHandle" ∧ y.cls ≠ "java/lang/invoke/VarHandle" ∧ (parseMethodDescriptor y.desc).map (fun d => d.parameters.length) = some n)
def CmV (y : MethodName) (bytes : ByteArray) (maxL : Nat) (ret : Option FieldType) (n : Nat) : Prop := Cm y bytes maxL ret n ∧ Cond.instanceMethod y ∈ gw_tbl ∧ Cond.selects y.cls y y ∈ gw_tbl
def CmS (y : MethodName) (bytes : ByteArray) (maxL : Nat) (ret : Option FieldType) (n : Nat) : Prop := Cm y bytes maxL ret n ∧ Cond.static y ∈ gw_tbl
variable {y : MethodName} {bytes : ByteArray} {maxL n index fr lo : Nat} {ret : Option FieldType} {b : Nat} {As : List Value}
theorem gw_good {w : Cond} (h : w ∈ gw_tbl) : w ∈ gw_tbl ∧ ((w.onTables && w.keeps) = true ∨ ∃ ty, w = .arrayClass ty) := ⟨h, good_of_word (gw_ok h)⟩
theorem gw_list {w0 : Cond} (h0 : w0 ∈ gw_tbl) : GoodIn gw_tbl (w0 :: gw_tbl) := by
  intro w hw
  rcases List.mem_cons.mp hw with h | h
  · rw [h]; exact gw_good h0
  · exact gw_good h
theorem cl_V (X : Cx p s m args meth c G own cc nL ret0 A) (hP : va_P G.1 classes ws H) (hD : va_D A ws) (hS : va_S A s.heap H locs)
    (hM : Ct l G y bytes maxL ret fr lo (.ref b :: As) wc rv wo) (hm : CmV y bytes maxL ret n) (hlink : Cond.methodLink own index y ∈ gw_tbl)
    (hroom : fr + 1 ≤ R.frames ∧ 8 + (maxL + 11) + lo ≤ R.locals) (q0 : Nat) {ci : Nat} {fs : List Value} {Tc : u_T} {Nc : Nat} (hrecv : wc[q0]? = some (b, .inr (ci, fs))) (hci : classes[ci]? = some (y.cls, Tc, Nc))
    (isC isR isO : List Nat) (hC : isC.map (fun i => ws[i]?) = wc.map some) (hnC : va_nd isC = true) (hR : isR.map (fun i => ws[i]?) = wr.map some) (hn : va_nd isR = true) (hdis : ∀ i ∈ isR, i ∉ isC)
    (hO : isO.map (fun i => (wr ++ wo)[i]?) = wf.map some) (hnO : va_nd isO = true)
    (hlen : As.length = n) (hsz : ls.size = nL) (hstk : st0 = As.reverse ++ .ref b :: rest) (hW : (rest.map fun v => v.category).sum ≤ 8) (hdg : decode cc pc = .ok (.invokevirtual index, 3)) (hcs : cells ≤ R.cells ∧ slots ≤ R.slots) (hst : rv.toList ++ rest = st1)
    (kk : ∀ (H1 : Heap) (locs1 : List Loc), va_P G.1 classes wf H1 → va_D A wf → va_S A s.heap H1 locs1 → W p l e R s m args below meth c H1 locs1 cells slots Q (F0 m (pc + 3) ls st1)) : W p l e R s m args below meth c H locs cells slots Q (F0 m pc ls st0) := by
  have hpre := cl_pre X (av := .ref b :: As) hP hD hS isC hC hnC
  obtain ⟨hx, hb, hr, hml, hown, hts, hlk, hE, hA, hN⟩ := X
  have hPc : va_P G.1 classes wc H := hP.sub isC (pk_fm hC)
  have hRun := va_runV (l := l) (e := e) (R := R) (below := below) (meth := meth) (locs := locs) (cells := cells) (slots := slots) (mc := 0) (ms := 0) (C := y.cls) (g := F0 m pc ls st0) (rest := rest) ⟨hx, hb, hml, hown, hts⟩ (hM H.size)
    ⟨callB_of n hts (gw_list hm.1.1) rfl rfl rfl (hts _ hm.1.2.1) (hts _ hlink) hm.1.2.2 hroom, hts _ hm.2.1, hts _ hm.2.2⟩
    ⟨Bin.blind, va_recv hE.1 hPc hci hrecv, hpre⟩ rfl hlen hsz hstk (lv_room hW) hdg hcs
  exact cl_go hRun hP hD hS hA isC isR isO hC hR hn hdis hO hnO hst kk
theorem cl_S (X : Cx p s m args meth c G own cc nL ret0 A) (hP : va_P G.1 classes ws H) (hD : va_D A ws) (hS : va_S A s.heap H locs)
    (hM : Ct l G y bytes maxL ret fr lo As wc rv wo) (hm : CmS y bytes maxL ret n) (hlink : Cond.methodLink own index y ∈ gw_tbl)
    (hroom : fr + 1 ≤ R.frames ∧ 8 + (maxL + 11) + lo ≤ R.locals)
    (isC isR isO : List Nat) (hC : isC.map (fun i => ws[i]?) = wc.map some) (hnC : va_nd isC = true) (hR : isR.map (fun i => ws[i]?) = wr.map some) (hn : va_nd isR = true) (hdis : ∀ i ∈ isR, i ∉ isC)
    (hO : isO.map (fun i => (wr ++ wo)[i]?) = wf.map some) (hnO : va_nd isO = true)
    (hlen : As.length = n) (hsz : ls.size = nL) (hstk : st0 = As.reverse ++ rest) (hW : (rest.map fun v => v.category).sum ≤ 8) (hdg : decode cc pc = .ok (.invokestatic index, 3)) (hcs : cells ≤ R.cells ∧ slots ≤ R.slots) (hst : rv.toList ++ rest = st1)
    (kk : ∀ (H1 : Heap) (locs1 : List Loc), va_P G.1 classes wf H1 → va_D A wf → va_S A s.heap H1 locs1 → W p l e R s m args below meth c H1 locs1 cells slots Q (F0 m (pc + 3) ls st1)) : W p l e R s m args below meth c H locs cells slots Q (F0 m pc ls st0) := by
  have hpre := cl_pre X (av := As) hP hD hS isC hC hnC
  obtain ⟨hx, hb, hr, hml, hown, hts, hlk, hE, hA, hN⟩ := X
  have hRun := va_runS (l := l) (e := e) (R := R) (below := below) (meth := meth) (locs := locs) (cells := cells) (slots := slots) (mc := 0) (ms := 0) (g := F0 m pc ls st0) (rest := rest) ⟨hx, hb, hml, hown, hts⟩ (hM H.size)
    ⟨callB_of n hts (gw_list hm.1.1) rfl rfl rfl (hts _ hm.1.2.1) (hts _ hlink) hm.1.2.2 hroom, hts _ hm.2⟩
    ⟨Bin.blind, hpre⟩ rfl hlen hsz hstk (lv_room hW) hdg hcs
  exact cl_go hRun hP hD hS hA isC isR isO hC hR hn hdis hO hnO hst kk
/-- a static method without cells -/
theorem cl_S0 (X : Cx p s m args meth c G own cc nL ret0 A) (hP : va_P G.1 classes ws H) (hD : va_D A ws) (hS : va_S A s.heap H locs)
    (hM : Ct l G y bytes maxL ret fr lo As [] rv []) (hm : CmS y bytes maxL ret n) (hlink : Cond.methodLink own index y ∈ gw_tbl ∨ Cond.methodLinkNest own index y RX6 ∈ nw_tbl)
    (hroom : fr + 1 ≤ R.frames ∧ 8 + (maxL + 11) + lo ≤ R.locals)
    (hlen : As.length = n) (hsz : ls.size = nL) (hstk : st0 = As.reverse ++ rest) (hW : (rest.map fun v => v.category).sum ≤ 8) (hdg : decode cc pc = .ok (.invokestatic index, 3)) (hcs : cells ≤ R.cells ∧ slots ≤ R.slots) (hst : rv.toList ++ rest = st1)
    (kk : ∀ (H1 : Heap) (locs1 : List Loc), va_P G.1 classes ws H1 → va_D A ws → va_S A s.heap H1 locs1 → W p l e R s m args below meth c H1 locs1 cells slots Q (F0 m (pc + 3) ls st1)) : W p l e R s m args below meth c H locs cells slots Q (F0 m pc ls st0) := by
  have hpre := cl_pre X (wc := []) (av := As) hP hD hS [] rfl rfl
  obtain ⟨hx, hb, hr, hml, hown, hts, hlk, hE, hA, hN⟩ := X
  have hall : (List.range ws.length).map (fun i => ws[i]?) = ws.map some := by
    apply List.ext_getElem?
    intro i
    rw [List.getElem?_map, List.getElem?_map]
    by_cases h : i < ws.length
    · rw [List.getElem?_range h, List.getElem?_eq_getElem h]; simp [h]
    · rw [List.getElem?_eq_none (by simpa using h), List.getElem?_eq_none (by omega)]; rfl
  have hkeep : ∀ {H1 : Heap} {locs1 : List Loc}, va_P G.1 classes ([] : va_W) H1 → (∀ q : Nat, q < H.size → ¬ va_A [] H.size q → H1[q]? = H[q]?) → va_P G.1 classes ws H1 := fun _ hk => hP.kept (fun k q hq => hk q.1 (hP k q hq).lt (fun z => by
    rcases z with ⟨k2, x, h⟩ | h
    · simp at h
    · exact absurd (hP k q hq).lt (Nat.not_lt.mpr h)))
  have hRun : va_Run p l e R s m args below meth c H locs cells slots 0 0 (F0 m pc ls st0) rest (Qg G rv [] [] H.size As.toArray) (va_A [] H.size) := by
    rcases hlink with hlink | hlink
    · exact va_runS (l := l) (e := e) (R := R) (below := below) (meth := meth) (locs := locs) (cells := cells) (slots := slots) (mc := 0) (ms := 0) (g := F0 m pc ls st0) (rest := rest) ⟨hx, hb, hml, hown, hts⟩ (hM H.size)
        ⟨callB_of n hts (gw_list hm.1.1) rfl rfl rfl (hts _ hm.1.2.1) (hts _ hlink) hm.1.2.2 hroom, hts _ hm.2⟩
        ⟨Bin.blind, hpre⟩ rfl hlen hsz hstk (lv_room hW) hdg hcs
    · exact va_runSN (l := l) (e := e) (R := R) (below := below) (meth := meth) (locs := locs) (cells := cells) (slots := slots) (mc := 0) (ms := 0) (g := F0 m pc ls st0) (rest := rest) ⟨hx, hb, hml, hown, hts⟩ (hM H.size)
        ⟨va_cnB n hts (gw_list hm.1.1) rfl rfl rfl (hE.2.1 _ hlink) (hts _ hm.1.2.1) hm.1.2.2 hroom, hts _ hm.2, trivial⟩
        ⟨Bin.blind, hpre⟩ rfl hlen hsz hstk (lv_room hW) hdg hcs
  intro T hT X
  have hF := va_free (wc := []) hD hS hA [] rfl
  obtain ⟨v, st₀, t, T', L, h0, X', hL, e1, e2, ⟨hv, hP1, hD1, hz, hk⟩, st⟩ := hRun T hT X
  cases hv
  rw [h0] at hz hk
  subst hst
  obtain ⟨t2, a1, b1⟩ := kk T'.heap (locs ++ L) (hkeep (locs1 := []) (fun k q h => by simp at h) (fun q h1 h2 => by rw [e1]; exact hk q h1 h2)) hD
    ⟨Nat.le_trans hS.1 (by rw [e1]; exact hz), fun q h1 h2 => by rw [e1, hk q (Nat.lt_of_lt_of_le h1 hS.1) (fun z => h2 (hF q z))]; exact hS.2.1 q h1 h2, fun q hq => by
      rcases List.mem_append.mp hq with h | h
      · exact hS.2.2 q h
      · exact hF _ (hL q h)⟩ T' rfl X'
  exact ⟨t2, st t2 a1, b1⟩
end CLG
section ENDS
variable {p : Program} {l : Launch} {e : Env} {s : State} {m : MethodId} {args : Array Value} {below : List Frame} {meth : Method} {c : Code} {H : Heap} {locs : List Loc} {fr lo : Nat}
variable {pc : Nat} {ls : Array Slot} {G : EnvT} {wi wo : va_W} {sz : Nat} {own : String} {cc : ByteArray} {nL : Nat} {ret : Option FieldType}
theorem rt_i {v : Int32} (X : Cx p s m args meth c G own cc nL (some .int) (va_A wi sz)) (hP : va_P G.1 classes wo H) (hD : va_D (va_A wi sz) wo) (hS : va_S (va_A wi sz) s.heap H locs) (hdg : decode cc pc = .ok (.ireturn, 1)) : WQ p l e fr lo s m args below meth c G (some (.int v)) wi wo sz H locs (F0 m pc ls [.int v]) := by
  obtain ⟨hx, hb, hr, hml, hown, hts, hlk, hE, hA, hN⟩ := X
  exact W.iret hx hb hr (fun t ht hW => ⟨rfl, by rw [ht]; exact hP, hD, hS.F ht⟩) hS.2.2 hdg hlk
theorem rt_z {v : Int32} (hv : narrow .boolean (.int v) = .int v) (X : Cx p s m args meth c G own cc nL (some .boolean) (va_A wi sz)) (hP : va_P G.1 classes wo H) (hD : va_D (va_A wi sz) wo) (hS : va_S (va_A wi sz) s.heap H locs) (hdg : decode cc pc = .ok (.ireturn, 1)) : WQ p l e fr lo s m args below meth c G (some (.int v)) wi wo sz H locs (F0 m pc ls [.int v]) := by
  obtain ⟨hx, hb, hr, hml, hown, hts, hlk, hE, hA, hN⟩ := X
  exact W.zret hx hb hr hv (fun t ht hW => ⟨rfl, by rw [ht]; exact hP, hD, hS.F ht⟩) hS.2.2 hdg hlk
theorem rt_l {v : Int64} (X : Cx p s m args meth c G own cc nL (some .long) (va_A wi sz)) (hP : va_P G.1 classes wo H) (hD : va_D (va_A wi sz) wo) (hS : va_S (va_A wi sz) s.heap H locs) (hdg : decode cc pc = .ok (.lreturn, 1)) : WQ p l e fr lo s m args below meth c G (some (.long v)) wi wo sz H locs (F0 m pc ls [.long v]) := by
  obtain ⟨hx, hb, hr, hml, hown, hts, hlk, hE, hA, hN⟩ := X
  exact W.lret hx hb hr (fun t ht hW => ⟨rfl, by rw [ht]; exact hP, hD, hS.F ht⟩) hS.2.2 hdg hlk
theorem rt_v (X : Cx p s m args meth c G own cc nL none (va_A wi sz)) (hP : va_P G.1 classes wo H) (hD : va_D (va_A wi sz) wo) (hS : va_S (va_A wi sz) s.heap H locs) (hdg : decode cc pc = .ok (.return_, 1)) : WQ p l e fr lo s m args below meth c G none wi wo sz H locs (F0 m pc ls []) := by
  obtain ⟨hx, hb, hr, hml, hown, hts, hlk, hE, hA, hN⟩ := X
  exact W.vret hx hb hr (fun t ht hW => ⟨rfl, by rw [ht]; exact hP, hD, hS.F ht⟩) hS.2.2 hdg hlk
theorem rt_a {v : Nat} {nm : String} (X : Cx p s m args meth c G own cc nL (some (.object nm)) (va_A wi sz)) (hP : va_P G.1 classes wo H) (hD : va_D (va_A wi sz) wo) (hS : va_S (va_A wi sz) s.heap H locs) (hdg : decode cc pc = .ok (.areturn, 1)) : WQ p l e fr lo s m args below meth c G (some (.ref v)) wi wo sz H locs (F0 m pc ls [.ref v]) := by
  obtain ⟨hx, hb, hr, hml, hown, hts, hlk, hE, hA, hN⟩ := X
  exact W.aret hx hb hr (Or.inl ⟨_, rfl⟩) (Or.inr ⟨_, rfl⟩) (fun t ht hW => ⟨rfl, by rw [ht]; exact hP, hD, hS.F ht⟩) hS.2.2 hdg hlk
end ENDS
section FLD
variable {p : Program} {l : Launch} {e : Env} {R : Room} {s : State} {m : MethodId} {args : Array Value} {below : List Frame} {meth : Method} {c : Code} {H : Heap} {locs : List Loc} {cells slots : Nat} {Q : State → Prop}
variable {pc : Nat} {ls : Array Slot} {rest : List Value} {G : EnvT} {A : Nat → Prop} {ws : va_W} {own : String} {cc : ByteArray} {nL : Nat} {ret0 : Option FieldType} {a : Nat}
/-- a field that an instruction of the class 'own' names by its entry 'index': slot k of the class ci -/
def Fw (own : String) (index ci k : Nat) : Prop := ∃ (C : String) (T : u_T) (N : Nat), classes[ci]? = some (C, T, N) ∧ k < N ∧ (∀ w ∈ u_ws C T N, w ∈ gw_tbl) ∧ (Cond.fieldLink own index C (T k).2.1 (T k).2.2.1 ∈ gw_tbl ∨ Cond.fieldLinkNest own index C (T k).2.1 (T k).2.2.1 RX6 ∈ nw_tbl) ∧ (T k).1 = C
def Pw (own : String) (index ci k : Nat) (ty : FieldType) : Prop := ∃ (C : String) (T : u_T) (N : Nat) (ty0 : Nat → FieldType), classes[ci]? = some (C, T, N) ∧ k < N ∧ (∀ w ∈ u_ws C T N, w ∈ gw_tbl) ∧ (Cond.fieldLink own index C (T k).2.1 (T k).2.2.1 ∈ gw_tbl ∨ Cond.fieldLinkNest own index C (T k).2.1 (T k).2.2.1 RX6 ∈ nw_tbl) ∧ (T k).1 = C ∧ (∀ k, k < N → parseFieldDescriptor (T k).2.2.1 = some (ty0 k)) ∧ (∀ a, a < N → ∀ b, b < N → a ≠ b → (T a).2.1 ≠ (T b).2.1) ∧ (T k).2.2.2 = false ∧ parseFieldDescriptor (T k).2.2.1 = some ty
theorem fGet {index ci k : Nat} {fs : List Value} {v : Value} (X : Cx p s m args meth c G own cc nL ret0 A) (hP : va_P G.1 classes ws H) (q0 : Nat) (he : ws[q0]? = some (a, .inr (ci, fs))) (hf : Fw own index ci k) (hv : fs[k]? = some v) (hdg : decode cc pc = .ok (.getfield index, 3))
    (kk : W p l e R s m args below meth c H locs cells slots Q (F0 m (pc + 3) ls (v :: rest))) : W p l e R s m args below meth c H locs cells slots Q (F0 m pc ls (.ref a :: rest)) := by
  obtain ⟨hx, hb, hr, hml, hown, hts, hlk, hE, hA, hN⟩ := X
  obtain ⟨C, T, N, hci, hk, hin, hl, hC⟩ := hf
  rcases hl with hl | hl
  · exact va_get hx hb hts hin hown hE.1 hP q0 he hci k hk (hts _ hl) (fun x h => by rw [hC] at h; exact h) hv hdg kk
  · exact va_getN (host := RX6) hx hb hts hin hown hE.1 hP q0 he hci k hk (va_Nw.use rfl (hE.2.1 _ hl)) (fun x h => by rw [hC] at h; exact h) hv hdg kk
theorem fPut {index ci k : Nat} {fs : List Value} {v : Value} {ty : FieldType} (X : Cx p s m args meth c G own cc nL ret0 A) (hP : va_P G.1 classes ws H) (hD : va_D A ws) (hS : va_S A s.heap H locs) (q0 : Nat) (he : ws[q0]? = some (a, .inr (ci, fs))) (hf : Pw own index ci k ty) (hn : narrow ty v = v) (hfit : fits ty v = true) (hl0 : k < fs.length) (hdg : decode cc pc = .ok (.putfield index, 3))
    (kk : ∀ (H1 : Heap) (locs1 : List Loc), va_P G.1 classes (ws.set q0 (a, .inr (ci, fs.set k v))) H1 → va_D A (ws.set q0 (a, .inr (ci, fs.set k v))) → va_S A s.heap H1 locs1 → W p l e R s m args below meth c H1 locs1 cells slots Q (F0 m (pc + 3) ls rest)) : W p l e R s m args below meth c H locs cells slots Q (F0 m pc ls (v :: .ref a :: rest)) := by
  obtain ⟨hx, hb, hr, hml, hown, hts, hlk, hE, hA, hN⟩ := X
  obtain ⟨C, T, N, ty0, hci, hk, hin, hl, hC, hty, hnm, hfin, hd⟩ := hf
  rcases hl with hl | hl
  · exact va_put hx hb hts hin ty0 hty hnm hown hE.1 hP hD hS q0 he hci k hk (hts _ hl) (fun x h => by rw [hC] at h; exact h) hfin hd hn hfit hl0 hdg kk
  · exact va_putN (host := RX6) hx hb hts hin ty0 hty hnm hown hE.1 hP hD hS q0 he hci k hk (va_Nw.use rfl (hE.2.1 _ hl)) (fun x h => by rw [hC] at h; exact h) hfin hd hn hfit hl0 hdg kk
theorem aI {n : Nat} {f : Nat → Int32} (X : Cx p s m args meth c G own cc nL ret0 A) (hP : va_P G.1 classes ws H) (q0 : Nat) (ha : ws[q0]? = some (a, .inl (gI G, n, .inl f))) {i : Int32} (hin : vp_in i n) (hdg : decode cc pc = .ok (.iaload, 1))
    (kk : W p l e R s m args below meth c H locs cells slots Q (F0 m (pc + 1) ls (.int (f i.toNatClampNeg) :: rest))) : W p l e R s m args below meth c H locs cells slots Q (F0 m pc ls (.int i :: .ref a :: rest)) := by
  obtain ⟨hx, hb, hr, hml, hown, hts, hlk, hE, hA, hN⟩ := X
  exact va_iald hx hb hE.1 hP q0 0 ha rfl hin hdg kk
theorem aJ {n : Nat} {f : Nat → Int64} (X : Cx p s m args meth c G own cc nL ret0 A) (hP : va_P G.1 classes ws H) (q0 : Nat) (ha : ws[q0]? = some (a, .inl (gJ G, n, .inr (.inl f)))) {i : Int32} (hin : vp_in i n) (hdg : decode cc pc = .ok (.laload, 1))
    (kk : W p l e R s m args below meth c H locs cells slots Q (F0 m (pc + 1) ls (.long (f i.toNatClampNeg) :: rest))) : W p l e R s m args below meth c H locs cells slots Q (F0 m pc ls (.int i :: .ref a :: rest)) := by
  obtain ⟨hx, hb, hr, hml, hown, hts, hlk, hE, hA, hN⟩ := X
  exact va_lald hx hb hE.1 hP q0 1 ha rfl hin hdg kk
theorem aZ {n : Nat} {f : Nat → Int32} (X : Cx p s m args meth c G own cc nL ret0 A) (hP : va_P G.1 classes ws H) (q0 : Nat) (ha : ws[q0]? = some (a, .inl (gZ G, n, .inl f))) {i : Int32} (hin : vp_in i n) (hdg : decode cc pc = .ok (.baload, 1))
    (kk : W p l e R s m args below meth c H locs cells slots Q (F0 m (pc + 1) ls (.int (f i.toNatClampNeg) :: rest))) : W p l e R s m args below meth c H locs cells slots Q (F0 m pc ls (.int i :: .ref a :: rest)) := by
  obtain ⟨hx, hb, hr, hml, hown, hts, hlk, hE, hA, hN⟩ := X
  exact va_zald hx hb hE.1 hP q0 2 ha rfl hin hdg kk
theorem sI {n : Nat} {f : Nat → Int32} (X : Cx p s m args meth c G own cc nL ret0 A) (hP : va_P G.1 classes ws H) (hD : va_D A ws) (hS : va_S A s.heap H locs) (q0 : Nat) (ha : ws[q0]? = some (a, .inl (gI G, n, .inl f))) {i x : Int32} (hin : vp_in i n) (hdg : decode cc pc = .ok (.iastore, 1))
    (kk : ∀ (H1 : Heap) (locs1 : List Loc), va_P G.1 classes (ws.set q0 (a, .inl (gI G, n, .inl (upd f i.toNatClampNeg x)))) H1 → va_D A (ws.set q0 (a, .inl (gI G, n, .inl (upd f i.toNatClampNeg x)))) → va_S A s.heap H1 locs1 → W p l e R s m args below meth c H1 locs1 cells slots Q (F0 m (pc + 1) ls rest)) : W p l e R s m args below meth c H locs cells slots Q (F0 m pc ls (.int x :: .int i :: .ref a :: rest)) := by
  obtain ⟨hx, hb, hr, hml, hown, hts, hlk, hE, hA, hN⟩ := X
  exact va_iast hx hb hE.1 hP hD hS q0 0 ha rfl hin hdg kk
theorem sJ {n : Nat} {f : Nat → Int64} (X : Cx p s m args meth c G own cc nL ret0 A) (hP : va_P G.1 classes ws H) (hD : va_D A ws) (hS : va_S A s.heap H locs) (q0 : Nat) (ha : ws[q0]? = some (a, .inl (gJ G, n, .inr (.inl f)))) {i : Int32} {x : Int64} (hin : vp_in i n) (hdg : decode cc pc = .ok (.lastore, 1))
    (kk : ∀ (H1 : Heap) (locs1 : List Loc), va_P G.1 classes (ws.set q0 (a, .inl (gJ G, n, .inr (.inl (vp_updL f i.toNatClampNeg x))))) H1 → va_D A (ws.set q0 (a, .inl (gJ G, n, .inr (.inl (vp_updL f i.toNatClampNeg x))))) → va_S A s.heap H1 locs1 → W p l e R s m args below meth c H1 locs1 cells slots Q (F0 m (pc + 1) ls rest)) : W p l e R s m args below meth c H locs cells slots Q (F0 m pc ls (.long x :: .int i :: .ref a :: rest)) := by
  obtain ⟨hx, hb, hr, hml, hown, hts, hlk, hE, hA, hN⟩ := X
  exact va_last hx hb hE.1 hP hD hS q0 1 ha rfl hin hdg kk
theorem sZ {n : Nat} {f : Nat → Int32} (X : Cx p s m args meth c G own cc nL ret0 A) (hP : va_P G.1 classes ws H) (hD : va_D A ws) (hS : va_S A s.heap H locs) (q0 : Nat) (ha : ws[q0]? = some (a, .inl (gZ G, n, .inl f))) {i x : Int32} (hin : vp_in i n) (hdg : decode cc pc = .ok (.bastore, 1))
    (kk : ∀ (H1 : Heap) (locs1 : List Loc), va_P G.1 classes (ws.set q0 (a, .inl (gZ G, n, .inl (upd f i.toNatClampNeg (vp_nar .boolean x))))) H1 → va_D A (ws.set q0 (a, .inl (gZ G, n, .inl (upd f i.toNatClampNeg (vp_nar .boolean x))))) → va_S A s.heap H1 locs1 → W p l e R s m args below meth c H1 locs1 cells slots Q (F0 m (pc + 1) ls rest)) : W p l e R s m args below meth c H locs cells slots Q (F0 m pc ls (.int x :: .int i :: .ref a :: rest)) := by
  obtain ⟨hx, hb, hr, hml, hown, hts, hlk, hE, hA, hN⟩ := X
  exact va_zast hx hb hE.1 hP hD hS q0 2 ha rfl hin hdg kk
theorem mAbs {index : Nat} {x : Int32} (X : Cx p s m args meth c G own cc nL ret0 A) (hlink : Cond.methodLink own index Lib.Math.abs.name ∈ gw_tbl) (hst : Cond.static Lib.Math.abs.name ∈ gw_tbl) (hin : Cond.initialized "java/lang/Math" ∈ gw_tbl) (hco : Cond.code Lib.Math.abs.name Lib.Math.abs.code 1 (some .int) ∈ gw_tbl) (hsz : ls.size = nL) (hfr : 1 ≤ R.frames) (hlo : (rest.map fun v => v.category).sum + 13 ≤ R.locals) (hcs : cells ≤ R.cells ∧ slots ≤ R.slots) (hdg : decode cc pc = .ok (.invokestatic index, 3))
    (kk : W p l e R s m args below meth c H locs cells slots Q (F0 m (pc + 3) ls (.int (if 0 ≤ x then x else 0 - x) :: rest))) : W p l e R s m args below meth c H locs cells slots Q (F0 m pc ls (.int x :: rest)) := by
  obtain ⟨hx, hb, hr, hml, hown, hts, hlk, hE, hA, hN⟩ := X
  exact va_mabs hx hb (hml.trans hsz.symm) hown (hts _ hlink) (hts _ hst) (hts _ hin) (hts _ hco) hfr hlo hcs.1 hcs.2 hdg kk
theorem mMax {index : Nat} {x y : Int32} (X : Cx p s m args meth c G own cc nL ret0 A) (hlink : Cond.methodLink own index Lib.Math.max.name ∈ gw_tbl) (hst : Cond.static Lib.Math.max.name ∈ gw_tbl) (hin : Cond.initialized "java/lang/Math" ∈ gw_tbl) (hco : Cond.code Lib.Math.max.name Lib.Math.max.code 2 (some .int) ∈ gw_tbl) (hsz : ls.size = nL) (hfr : 1 ≤ R.frames) (hlo : (rest.map fun v => v.category).sum + 13 ≤ R.locals) (hcs : cells ≤ R.cells ∧ slots ≤ R.slots) (hdg : decode cc pc = .ok (.invokestatic index, 3))
    (kk : W p l e R s m args below meth c H locs cells slots Q (F0 m (pc + 3) ls (.int (if x < y then y else x) :: rest))) : W p l e R s m args below meth c H locs cells slots Q (F0 m pc ls (.int y :: .int x :: rest)) := by
  obtain ⟨hx, hb, hr, hml, hown, hts, hlk, hE, hA, hN⟩ := X
  exact va_mmax hx hb (hml.trans hsz.symm) hown (hts _ hlink) (hts _ hst) (hts _ hin) (hts _ hco) hfr hlo hcs.1 hcs.2 hdg kk
theorem mMin {index : Nat} {x y : Int32} (X : Cx p s m args meth c G own cc nL ret0 A) (hlink : Cond.methodLink own index Lib.Math.min.name ∈ gw_tbl) (hst : Cond.static Lib.Math.min.name ∈ gw_tbl) (hin : Cond.initialized "java/lang/Math" ∈ gw_tbl) (hco : Cond.code Lib.Math.min.name Lib.Math.min.code 2 (some .int) ∈ gw_tbl) (hsz : ls.size = nL) (hfr : 1 ≤ R.frames) (hlo : (rest.map fun v => v.category).sum + 13 ≤ R.locals) (hcs : cells ≤ R.cells ∧ slots ≤ R.slots) (hdg : decode cc pc = .ok (.invokestatic index, 3))
    (kk : W p l e R s m args below meth c H locs cells slots Q (F0 m (pc + 3) ls (.int (if y < x then y else x) :: rest))) : W p l e R s m args below meth c H locs cells slots Q (F0 m pc ls (.int y :: .int x :: rest)) := by
  obtain ⟨hx, hb, hr, hml, hown, hts, hlk, hE, hA, hN⟩ := X
  exact va_mmin hx hb (hml.trans hsz.symm) hown (hts _ hlink) (hts _ hst) (hts _ hin) (hts _ hco) hfr hlo hcs.1 hcs.2 hdg kk
end FLD
/-! the words of the pure functions -/
def inb (i : Int32) (n : Nat) : Bool := decide (¬ (i < 0 ∨ n ≤ i.toNatClampNeg))
def nz (i : Int32) : Bool := decide (¬ i = 0)
def nzl (i : Int64) : Bool := decide (¬ i = 0)
def isb (i : Int32) : Bool := decide (i = 0 ∨ i = 1)
def gd {α : Type} (b : Bool) (x : Option α) : Option α := if b then x else none
theorem gd_some {α : Type} {b : Bool} {x : Option α} {r : α} (h : gd b x = some r) : b = true ∧ x = some r := by
  cases b with
  | true => exact ⟨rfl, h⟩
  | false => cases h
theorem gd_in {α : Type} {i : Int32} {n : Nat} {x : Option α} {r : α} (h : gd (inb i n) x = some r) : vp_in i n ∧ x = some r := ⟨of_decide_eq_true (p := ¬ (i < 0 ∨ n ≤ i.toNatClampNeg)) (gd_some h).1, (gd_some h).2⟩
theorem gd_nz {α : Type} {i : Int32} {x : Option α} {r : α} (h : gd (nz i) x = some r) : ¬ i = 0 ∧ x = some r := ⟨of_decide_eq_true (gd_some h).1, (gd_some h).2⟩
theorem gd_nzl {α : Type} {i : Int64} {x : Option α} {r : α} (h : gd (nzl i) x = some r) : ¬ i = 0 ∧ x = some r := ⟨of_decide_eq_true (gd_some h).1, (gd_some h).2⟩
theorem gd_isb {α : Type} {i : Int32} {x : Option α} {r : α} (h : gd (isb i) x = some r) : narrow .boolean (.int i) = .int i ∧ x = some r := by
  refine ⟨?_, (gd_some h).2⟩
  rcases of_decide_eq_true (gd_some h).1 with h | h <;> rw [h] <;> rfl
theorem it_t {c : Prop} [Decidable c] {α : Type} {a b : Option α} {r : α} (h : c) (hf : (if c then a else b) = some r) : a = some r := by rw [if_pos h] at hf; exact hf
theorem it_f {c : Prop} [Decidable c] {α : Type} {a b : Option α} {r : α} (h : ¬ c) (hf : (if c then a else b) = some r) : b = some r := by rw [if_neg h] at hf; exact hf
theorem bd_some {α β : Type} {x : Option α} {f : α → Option β} {r : β} (h : x.bind f = some r) : ∃ u, x = some u ∧ f u = some r := by
  cases x with
  | none => cases h
  | some u => exact ⟨u, rfl, h⟩
