/-! constructors: contracts that make cells -/
def QN (G : EnvT) (wi : va_W) (wo : (Nat → Nat) → va_W) (sz : Nat) : Array Value → State → Outcome → State → Prop := fun _ st oc t => oc = .returned none ∧ (∃ q : Nat → Nat, va_P G.1 classes (wo q) t.heap ∧ va_D (va_A wi sz) (wo q)) ∧ va_F (va_A wi sz) st t
def CtN (l : Launch) (G : EnvT) (y : MethodName) (cc : ByteArray) (nL : Nat) (fr lo mc ms : Nat) (av : List Value) (wi : va_W) (wo : (Nat → Nat) → va_W) : Prop :=
  ∀ sz : Nat, Met l y (Cond.code y cc nL none :: gw_tbl) { frames := fr, cells := mc, slots := ms, locals := lo } (va_Pc av (Bin G sz wi)) (QN G wi wo sz) mc ms (va_A wi sz)
abbrev WN (p : Program) (l : Launch) (e : Env) (fr lo mc ms : Nat) (s : State) (m : MethodId) (args : Array Value) (below : List Frame) (meth : Method) (c : Code) (G : EnvT) (wi : va_W) (wo : (Nat → Nat) → va_W) (sz : Nat) (H : Heap) (locs : List Loc) (cells slots : Nat) (g : JFrame) : Prop :=
  W p l e { frames := fr, cells := mc, slots := ms, locals := lo } s m args below meth c H locs cells slots (MQ below (QN G wi wo sz) args s mc ms (va_A wi sz)) g
theorem CtN.of {l : Launch} {G : EnvT} {y : MethodName} {cc : ByteArray} {nL : Nat} {fr lo mc ms : Nat} {av : List Value} {wi : va_W} {wo : (Nat → Nat) → va_W} (hy : plainName y.cls = true) (hyn : y.name = "<init>") (hn : (lg_sl av).length ≤ nL)
    (body : ∀ (args : Array Value) (wi0 : va_W) (sz : Nat) (p : Program) (e : Env) (s : State) (m : MethodId) (below : List Frame) (meth : Method) (c : Code) (ls : Array Slot), meth.name = "<init>" → Cx p s m args meth c G y.cls cc nL none (va_A wi0 sz) → va_P G.1 classes wi s.heap → va_D (va_A wi0 sz) wi → va_S (va_A wi0 sz) s.heap s.heap [] → lv_has ls nL (lv_args 0 av) → WN p l e fr lo mc ms s m args below meth c G wi0 wo sz s.heap [] 0 0 (F0 m 0 ls [])) : CtN l G y cc nL fr lo mc ms av wi wo := by
  intro sz
  refine Met.ofW (cc := cc) (maxL := nL) (ret := none) hy rfl ?_
  intro p e s m args below meth c s₁ B hml hv
  obtain ⟨rfl, hsz, hN, hP, hD0, hE⟩ := hv
  have hts := atoms_spec (ws := Cond.code y cc nL none :: gw_tbl) B.pre
  have hown : s.vm.findClass y.cls = some m.cls := findClass_of_methodNamed B.named
  have hin : meth.name = "<init>" := (name_of_methodNamed B.named B.method).1.trans hyn
  subst hsz
  rw [lg_entry_eq]
  refine body _ wi s.heap.size p e s m below meth c _ hin ⟨B.exec, B.bytes, B.returns, hml, hown, fun w hw => hts w (List.mem_cons_of_mem _ hw), B.notSynchronized, hE, fun q h => Or.inr h, fun q h => ?_⟩ hP hD0.self va_S.rf (lv_entry av hn)
  rcases h with ⟨k, x, h⟩ | h
  · exact hD0.2 k (q, x) h
  · exact Nat.le_trans hN h
section CN
variable {p : Program} {l : Launch} {e : Env} {R : Room} {s : State} {m : MethodId} {args : Array Value} {below : List Frame} {meth : Method} {c : Code} {H : Heap} {locs : List Loc} {cells slots : Nat} {Q : State → Prop}
variable {pc : Nat} {ls : Array Slot} {rest st0 : List Value} {a : Array Value} {G : EnvT} {A : Nat → Prop} {ws wc wr : va_W} {wo : (Nat → Nat) → va_W} {mc ms : Nat}
variable {own : String} {cc : ByteArray} {nL : Nat} {ret0 : Option FieldType}
theorem rt_N {fr lo mc ms sz : Nat} {wi : va_W} (q : Nat → Nat) (X : Cx p s m args meth c G own cc nL none (va_A wi sz)) (hP : va_P G.1 classes (wo q) H) (hD : va_D (va_A wi sz) (wo q)) (hS : va_S (va_A wi sz) s.heap H locs) (h1 : cells ≤ mc) (h2 : slots ≤ ms) (hdg : decode cc pc = .ok (.return_, 1)) : WN p l e fr lo mc ms s m args below meth c G wi wo sz H locs cells slots (F0 m pc ls []) := by
  obtain ⟨hx, hb, hr, hml, hown, hts, hlk, hE, hA, hN⟩ := X
  refine W.widen h1 h2 ?_
  exact W.vret hx hb hr (fun t ht hW => ⟨rfl, ⟨q, by rw [ht]; exact hP, hD⟩, hS.F ht⟩) hS.2.2 hdg hlk
/-- Object's constructor -/
theorem oI {index : Nat} (X : Cx p s m args meth c G own cc nL ret0 A) (hlink : Cond.methodLink own index objectInit ∈ gw_tbl) (hin : Cond.instanceMethod objectInit ∈ gw_tbl) (hco : Cond.code objectInit ⟨#[0xb1]⟩ 1 none ∈ gw_tbl) (hsz : ls.size = nL) {a : Nat} (hfr : 1 ≤ R.frames) (hlo : (rest.map fun v => v.category).sum + 12 ≤ R.locals) (hdg : decode cc pc = .ok (.invokespecial index, 3))
    (kk : W p l e R s m args below meth c H locs cells slots Q (F0 m (pc + 3) ls rest)) : W p l e R s m args below meth c H locs cells slots Q (F0 m pc ls (.ref a :: rest)) := by
  obtain ⟨hx, hb, hr, hml, hown, hts, hlk, hE, hA, hN⟩ := X
  exact W.objInit hx hb hown (hts _ hlink) (hts _ hin) (hts _ hco) rfl (hsz.trans hml.symm) rfl hdg hfr (by show 2 * 0 + _ + 12 ≤ _; omega) kk
theorem nAi {n : Int32} (X : Cx p s m args meth c G own cc nL ret0 A) (hP : va_P G.1 classes ws H) (hD : va_D A ws) (hS : va_S A s.heap H locs) (hw : Cond.arrayClass .int ∈ gw_tbl) (N : Nat) (hn : ¬ n < 0) (hN : n.toNatClampNeg = N) (hby : N * 4 ≤ 536870912) (hc : cells + 1 ≤ R.cells) (hsl : slots + N ≤ R.slots) (hdg : decode cc pc = .ok (.newarray .int, 2))
    (kk : ∀ (q : Nat) (H1 : Heap), va_P G.1 classes (ws ++ [(q, .inl (gI G, N, .inl (fun _ => 0)))]) H1 → va_D A (ws ++ [(q, .inl (gI G, N, .inl (fun _ => 0)))]) → va_S A s.heap H1 locs → W p l e R s m args below meth c H1 locs (cells + 1) (slots + N) Q (F0 m (pc + 2) ls (.ref q :: rest))) : W p l e R s m args below meth c H locs cells slots Q (F0 m pc ls (.int n :: rest)) := by
  obtain ⟨hx, hb, hr, hml, hown, hts, hlk, hE, hA, hN0⟩ := X
  refine va_newa (atype := .int) (a0 := (N, .inl (fun _ => 0))) hx hb (hts _ hw) rfl hE.1 hP hD hS hA (fun cA => rfl) hn hN hby hc hsl hdg (fun q cA H1 hK' hP' hD' hS' => ?_)
  have h1 : va_RA s cA .int := (hK'.2 3 _ rfl).2
  have h2 : va_RA s (gI G) .int := (hE.1.2 0 _ rfl).2
  have he : cA = gI G := Option.some.inj ((show s.vm.findClass ("[" ++ FieldType.int.toString) = some cA from h1).symm.trans h2)
  subst he
  exact kk q H1 hP' hD' hS'
theorem nAj {n : Int32} (X : Cx p s m args meth c G own cc nL ret0 A) (hP : va_P G.1 classes ws H) (hD : va_D A ws) (hS : va_S A s.heap H locs) (hw : Cond.arrayClass .long ∈ gw_tbl) (N : Nat) (hn : ¬ n < 0) (hN : n.toNatClampNeg = N) (hby : N * 8 ≤ 536870912) (hc : cells + 1 ≤ R.cells) (hsl : slots + N ≤ R.slots) (hdg : decode cc pc = .ok (.newarray .long, 2))
    (kk : ∀ (q : Nat) (H1 : Heap), va_P G.1 classes (ws ++ [(q, .inl (gJ G, N, .inr (.inl (fun _ => 0))))]) H1 → va_D A (ws ++ [(q, .inl (gJ G, N, .inr (.inl (fun _ => 0))))]) → va_S A s.heap H1 locs → W p l e R s m args below meth c H1 locs (cells + 1) (slots + N) Q (F0 m (pc + 2) ls (.ref q :: rest))) : W p l e R s m args below meth c H locs cells slots Q (F0 m pc ls (.int n :: rest)) := by
  obtain ⟨hx, hb, hr, hml, hown, hts, hlk, hE, hA, hN0⟩ := X
  refine va_newa (atype := .long) (a0 := (N, .inr (.inl (fun _ => 0)))) hx hb (hts _ hw) rfl hE.1 hP hD hS hA (fun cA => rfl) hn hN hby hc hsl hdg (fun q cA H1 hK' hP' hD' hS' => ?_)
  have h1 : va_RA s cA .long := (hK'.2 3 _ rfl).2
  have h2 : va_RA s (gJ G) .long := (hE.1.2 1 _ rfl).2
  have he : cA = gJ G := Option.some.inj ((show s.vm.findClass ("[" ++ FieldType.long.toString) = some cA from h1).symm.trans h2)
  subst he
  exact kk q H1 hP' hD' hS'
theorem nAz {n : Int32} (X : Cx p s m args meth c G own cc nL ret0 A) (hP : va_P G.1 classes ws H) (hD : va_D A ws) (hS : va_S A s.heap H locs) (hw : Cond.arrayClass .boolean ∈ gw_tbl) (N : Nat) (hn : ¬ n < 0) (hN : n.toNatClampNeg = N) (hby : N * 1 ≤ 536870912) (hc : cells + 1 ≤ R.cells) (hsl : slots + N ≤ R.slots) (hdg : decode cc pc = .ok (.newarray .boolean, 2))
    (kk : ∀ (q : Nat) (H1 : Heap), va_P G.1 classes (ws ++ [(q, .inl (gZ G, N, .inl (fun _ => 0)))]) H1 → va_D A (ws ++ [(q, .inl (gZ G, N, .inl (fun _ => 0)))]) → va_S A s.heap H1 locs → W p l e R s m args below meth c H1 locs (cells + 1) (slots + N) Q (F0 m (pc + 2) ls (.ref q :: rest))) : W p l e R s m args below meth c H locs cells slots Q (F0 m pc ls (.int n :: rest)) := by
  obtain ⟨hx, hb, hr, hml, hown, hts, hlk, hE, hA, hN0⟩ := X
  refine va_newa (atype := .boolean) (a0 := (N, .inl (fun _ => 0))) hx hb (hts _ hw) rfl hE.1 hP hD hS hA (fun cA => rfl) hn hN hby hc hsl hdg (fun q cA H1 hK' hP' hD' hS' => ?_)
  have h1 : va_RA s cA .boolean := (hK'.2 3 _ rfl).2
  have h2 : va_RA s (gZ G) .boolean := (hE.1.2 2 _ rfl).2
  have he : cA = gZ G := Option.some.inj ((show s.vm.findClass ("[" ++ FieldType.boolean.toString) = some cA from h1).symm.trans h2)
  subst he
  exact kk q H1 hP' hD' hS'
/-- a class whose objects are made -/
def Nw (own : String) (index ci N : Nat) (fs : List Value) : Prop := ∃ (C : String) (T : u_T) (ty : Nat → FieldType), classes[ci]? = some (C, T, N) ∧ (∀ w ∈ u_ws C T N, w ∈ gw_tbl) ∧ (∀ k, k < N → parseFieldDescriptor (T k).2.2.1 = some (ty k)) ∧ Cond.classLink own index C ∈ gw_tbl ∧ Cond.instantiable C N ∈ gw_tbl ∧ Cond.initialized C ∈ gw_tbl ∧ (∀ j, j < N → defaultValue (ty j) = vp_V fs j)
theorem nO {index ci N : Nat} {fs : List Value} (X : Cx p s m args meth c G own cc nL ret0 A) (hP : va_P G.1 classes ws H) (hD : va_D A ws) (hS : va_S A s.heap H locs) (hw : Nw own index ci N fs) (hc : cells + 1 ≤ R.cells) (hsl : slots + N ≤ R.slots) (hdg : decode cc pc = .ok (.new index, 3))
    (kk : ∀ (q : Nat) (H1 : Heap), va_P G.1 classes (ws ++ [(q, .inr (ci, fs))]) H1 → va_D A (ws ++ [(q, .inr (ci, fs))]) → va_S A s.heap H1 locs → W p l e R s m args below meth c H1 locs (cells + 1) (slots + N) Q (F0 m (pc + 3) ls (.ref q :: rest))) : W p l e R s m args below meth c H locs cells slots Q (F0 m pc ls rest) := by
  obtain ⟨hx, hb, hr, hml, hown, hts, hlk, hE, hA, hN0⟩ := X
  obtain ⟨C, T, ty, hci, hin, hty, h1, h2, h3, hfs⟩ := hw
  exact va_new hx hb hts hin ty hty hown (hts _ h1) (hts _ h2) (hts _ h3) hE.1 hP hD hS hA hci hfs hc hsl hdg kk
def PwF (own : String) (index ci k : Nat) (ty : FieldType) : Prop := ∃ (C : String) (T : u_T) (N : Nat) (ty0 : Nat → FieldType), classes[ci]? = some (C, T, N) ∧ k < N ∧ (∀ w ∈ u_ws C T N, w ∈ gw_tbl) ∧ Cond.fieldLink own index C (T k).2.1 (T k).2.2.1 ∈ gw_tbl ∧ (T k).1 = C ∧ C = own ∧ (∀ k, k < N → parseFieldDescriptor (T k).2.2.1 = some (ty0 k)) ∧ (∀ a, a < N → ∀ b, b < N → a ≠ b → (T a).2.1 ≠ (T b).2.1) ∧ (T k).2.2.2 = true ∧ parseFieldDescriptor (T k).2.2.1 = some ty
theorem fPutF {index ci k : Nat} {fs : List Value} {v : Value} {ty : FieldType} {a : Nat} (X : Cx p s m args meth c G own cc nL ret0 A) (hin2 : meth.name = "<init>") (hP : va_P G.1 classes ws H) (hD : va_D A ws) (hS : va_S A s.heap H locs) (q0 : Nat) (he : ws[q0]? = some (a, .inr (ci, fs))) (hf : PwF own index ci k ty) (hn : narrow ty v = v) (hfit : fits ty v = true) (hl0 : k < fs.length) (hdg : decode cc pc = .ok (.putfield index, 3))
    (kk : ∀ (H1 : Heap) (locs1 : List Loc), va_P G.1 classes (ws.set q0 (a, .inr (ci, fs.set k v))) H1 → va_D A (ws.set q0 (a, .inr (ci, fs.set k v))) → va_S A s.heap H1 locs1 → W p l e R s m args below meth c H1 locs1 cells slots Q (F0 m (pc + 3) ls rest)) : W p l e R s m args below meth c H locs cells slots Q (F0 m pc ls (v :: .ref a :: rest)) := by
  obtain ⟨hx, hb, hr, hml, hown, hts, hlk, hE, hA, hN⟩ := X
  obtain ⟨C, T, N, ty0, hci, hk, hin, hl, hC, hCo, hty, hnm, hfin, hd⟩ := hf
  exact va_putF hx hb hts hin ty0 hty hnm hown hE.1 hP hD hS q0 he hci k hk (hts _ hl) (fun x h => by rw [hC] at h; exact h) hfin hin2 (hC.trans hCo) hd hn hfit hl0 hdg kk
def CmI (y : MethodName) (bytes : ByteArray) (maxL : Nat) (n : Nat) : Prop := Cm y bytes maxL none n ∧ Cond.instanceMethod y ∈ gw_tbl ∧ y.name = "<init>"
/-- the call of a constructor -/
theorem cl_N {y : MethodName} {bytes : ByteArray} {maxL n index fr lo : Nat} {b : Nat} {As : List Value} (X : Cx p s m args meth c G own cc nL ret0 A) (hP : va_P G.1 classes ws H) (hD : va_D A ws) (hS : va_S A s.heap H locs)
    (hM : CtN l G y bytes maxL fr lo mc ms (.ref b :: As) wc wo) (hm : CmI y bytes maxL n) (hlink : Cond.methodLink own index y ∈ gw_tbl ∨ Cond.methodLinkNest own index y RX6 ∈ nw_tbl)
    (hroom : fr + 1 ≤ R.frames ∧ 8 + (maxL + 11) + lo ≤ R.locals)
    (isC isR : List Nat) (hC : isC.map (fun i => ws[i]?) = wc.map some) (hnC : va_nd isC = true) (hR : isR.map (fun i => ws[i]?) = wr.map some) (hn : va_nd isR = true) (hdis : ∀ i ∈ isR, i ∉ isC)
    (hlen : As.length = n) (hsz : ls.size = nL) (hstk : st0 = As.reverse ++ .ref b :: rest) (hW : (rest.map fun v => v.category).sum ≤ 8) (hdg : decode cc pc = .ok (.invokespecial index, 3)) (hcs : cells + mc ≤ R.cells ∧ slots + ms ≤ R.slots)
    (kk : ∀ (q : Nat → Nat) (H1 : Heap) (locs1 : List Loc), va_P G.1 classes (wr ++ wo q) H1 → va_D A (wr ++ wo q) → va_S A s.heap H1 locs1 → W p l e R s m args below meth c H1 locs1 (cells + mc) (slots + ms) Q (F0 m (pc + 3) ls rest)) : W p l e R s m args below meth c H locs cells slots Q (F0 m pc ls st0) := by
  have hpre := cl_pre X (av := .ref b :: As) hP hD hS isC hC hnC
  obtain ⟨hx, hb, hr, hml, hown, hts, hlk, hE, hA, hN⟩ := X
  have hRun : va_Run p l e R s m args below meth c H locs cells slots mc ms (F0 m pc ls st0) rest (QN G wc wo H.size (Value.ref b :: As).toArray) (va_A wc H.size) := by
    rcases hlink with hlink | hlink
    · exact va_runI (l := l) (e := e) (R := R) (below := below) (meth := meth) (locs := locs) (cells := cells) (slots := slots) (mc := mc) (ms := ms) (g := F0 m pc ls st0) (rest := rest) ⟨hx, hb, hml, hown, hts⟩ (hM H.size)
        ⟨callB_of n hts (gw_list hm.1.1) rfl rfl rfl (hts _ hm.1.2.1) (hts _ hlink) hm.1.2.2 hroom, hm.2.2, hts _ hm.2.1⟩
        ⟨Bin.blind, hpre⟩ rfl hlen hsz hstk (lv_room hW) hdg hcs
    · exact va_runIN (l := l) (e := e) (R := R) (below := below) (meth := meth) (locs := locs) (cells := cells) (slots := slots) (mc := mc) (ms := ms) (g := F0 m pc ls st0) (rest := rest) ⟨hx, hb, hml, hown, hts⟩ (hM H.size)
        ⟨va_cnB n hts (gw_list hm.1.1) rfl rfl rfl (hE.2.1 _ hlink) (hts _ hm.1.2.1) hm.1.2.2 hroom, hm.2.2, hts _ hm.2.1⟩
        ⟨Bin.blind, hpre⟩ rfl hlen hsz hstk (lv_room hW) hdg hcs
  intro T hT X
  have hF := va_free hD hS hA isC hC
  obtain ⟨v, st₀, t, T', L, h0, X', hL, e1, e2, ⟨hv, ⟨q, hP1, hD1⟩, hz, hk⟩, st⟩ := hRun T hT X
  cases hv
  rw [h0] at hz hk
  obtain ⟨hPj, hDj⟩ := va_join hP hD isC isR hC hR hn hdis hk hF hP1 hD1
  obtain ⟨t2, a1, b1⟩ := kk q T'.heap (locs ++ L) (by rw [e1]; exact hPj) hDj
    ⟨Nat.le_trans hS.1 (by rw [e1]; exact hz), fun q h1 h2 => by rw [e1, hk q (Nat.lt_of_lt_of_le h1 hS.1) (fun z => h2 (hF q z))]; exact hS.2.1 q h1 h2, fun q hq => by
      rcases List.mem_append.mp hq with h | h
      · exact hS.2.2 q h
      · exact hF _ (hL q h)⟩ T' rfl X'
  exact ⟨t2, st t2 a1, b1⟩
end CN
