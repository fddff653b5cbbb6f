/-! A METHOD THAT THROWS: its contract, how a body gives one, how a call of one goes on. Nothing of what was there is changed. -/
def XEnd (E : String) (mc ms : Nat) : Array Value → State → Outcome → State → Prop := fun _ st o t =>
  ∃ (x : Nat) (ce : Cell), o = .threw x ∧ t.heap[x]? = some ce ∧ st.vm.findClass E = some ce.cls ∧ ce.vm = .none ∧ st.WarmedH t.vm ∧ st.sameButNew ({ t with vm := st.vm } : State) [] mc ms
def MetX (l : Launch) (y : MethodName) (ws : List Cond) (rm : Room) (Pc : Array Value → State → Prop) (E : String) (mc ms : Nat) : Prop :=
  MetFree l y (headSpec ws rm) Pc (fun _ _ _ _ _ => True) (XEnd E mc ms)
def XQ (below : List Frame) (E : String) (mc ms : Nat) (a : Array Value) (s : State) : State → Prop := fun t =>
  ∃ o, t.status = .running ∧ Ended t below o ∧ XEnd E mc ms a s o t
theorem xs_heap {s t : State} {mc ms : Nat} (h : s.sameButNew t [] mc ms) : s.heap.size ≤ t.heap.size ∧ ∀ q : Nat, q < s.heap.size → t.heap[q]? = s.heap[q]? := by
  refine ⟨h.2.1, fun q hq => ?_⟩
  obtain ⟨c', h1, h2, h3, h4⟩ := h.2.2.2.2.2 q (s.heap[q]'hq) (Array.getElem?_eq_getElem hq)
  have hs : c'.slots = (s.heap[q]'hq).slots := by
    apply Array.ext h3
    intro i hi1 hi2
    have := h4 i (by simp)
    rw [Array.getElem?_eq_getElem hi1, Array.getElem?_eq_getElem hi2] at this
    exact Option.some.inj this
  rw [h1, Array.getElem?_eq_getElem hq, h2, hs]
theorem MetX.ofW {l : Launch} {y : MethodName} {ws ws' : List Cond} {rm : Room} {Pc : Array Value → State → Prop} {E : String} {mc ms : Nat} {cc : ByteArray} {maxL : Nat} {ret : Option FieldType}
    (hy : plainName y.cls = true) (hw : ws = Cond.code y cc maxL ret :: ws')
    (body : ∀ p e s m args below meth c s₁, BodyLoose p l y (headSpec ws rm) cc maxL ret e s m args below meth c s₁ → c.maxLocals = maxL → Pc args s →
      W p l e (headSpec ws rm).room s m args below meth c s.heap [] 0 0 (XQ below E mc ms args s) (entryFrame m args maxL)) : MetX l y ws rm Pc E mc ms := by
  refine MetFree.of_bodyS (code := cc) (maxLocals := maxL) (ret := ret) hy ?_ ?_
  · intro args s m h hn
    obtain ⟨meth, c, h1, h2, h3, h4, h5, h6, -, -⟩ := Cond.code_spec hn (atoms_spec (ws := ws) h _ (by rw [hw]; exact List.mem_cons_self))
    exact ⟨meth, c, h1, h2, h3, h4, h5, h6⟩
  · intro p e s m args below meth c s₁ B hml hP _
    have hh0 : s₁.heap = s.heap := by rw [B.state]; rfl
    obtain ⟨t, a1, o, b1, b2, b3⟩ := body p e s m args below meth c s₁ B hml hP s₁ hh0 (Stand.of_body B)
    exact ⟨t, o, a1, b1, b2, b3⟩
section XB
variable {l : Launch} {R : Room} {p : Program} {e : Env} {below : List Frame} {s : State} {sargs : Array Value} {y : MethodName} {ws : List Cond} {rm : Room} {Pc : Array Value → State → Prop} {E : String} {mc ms maxL : Nat} {bytes : ByteArray} {ret : Option FieldType}
variable {m : MethodId} {meth : Method} {c : Code} {U : State} {locs : List Loc} {cells slots len : Nat} {g : JFrame} {ig : Instr} {mk : MethodId} {a : Array Value}
/-- a call comes back thrown: the note lies over the caller's frame -/
theorem xBack (hM : MetX l y ws rm Pc E mc ms) (hblind : FrameBlind Pc) (hrc : rm.cells = mc) (hrs : rm.slots = ms)
    (hframes : rm.frames + 1 ≤ R.frames) (hlocals : 8 + (maxL + 11) + rm.locals ≤ R.locals)
    (hws : ∀ w ∈ ws, ∀ a' U, s.WarmedH U.vm → w.before a' U = true) (hcode : Cond.code y bytes maxL ret ∈ ws) (hinit : ∀ a' U, s.WarmedH U.vm → (Cond.initialized y.cls).before a' U = true)
    (X : Stand p l e R s m sargs below meth c U locs cells slots) (hg : g.method = m) (hsize : g.locals.size = c.maxLocals) (hdg : decode c.code g.pc = .ok (ig, len))
    (hW : 2 * g.monitorRoom + (g.stack.map fun v => v.category).sum ≤ 8) (hn : U.methodNamed? y = some mk) (hf : cells + mc ≤ R.cells ∧ slots + ms ≤ R.slots) (hP : Pc a U) :
    ∃ (x : Nat) (ce : Cell) (T' : State), Stand p l e R s m sargs below meth c T' (locs ++ []) (cells + mc) (slots + ms) ∧ T'.heap[x]? = some ce ∧ U.vm.findClass E = some ce.cls ∧ ce.vm = .none ∧
      U.heap.size ≤ T'.heap.size ∧ (∀ q : Nat, q < U.heap.size → T'.heap[q]? = U.heap[q]?) ∧ Steps p.tables e below (doInvoke e (U.setTop g) [] mk a).1 ((T'.setTop g).pushFrame (.throwing x)) := by
  have h2 := hws _ hcode a U X.warmed
  have h3 := hinit a U X.warmed
  obtain ⟨methY, cY, hmY, hcY, -, hlY, -, -, -, -⟩ := Cond.code_spec hn h2
  obtain ⟨kY, hkY, -⟩ := className_of_methodNamed hn
  have hinitY : kY.init = .initialized := Cond.initialized_spec (findClass_of_methodNamed hn) hkY h3
  have h : At U g.method c below := by rw [hg]; exact X.here
  have happ : (headSpec ws rm).appliesLoose y e.platform (U.calling g mk a) = true :=
    Spec.appliesLoose_calling (g := g) h hdg hn hkY hinitY
      (X.room_calling (g := g) (R' := rm) hsize hmY hcY hframes (by rw [hlY]; omega) (by rw [hrc]; exact hf.1) (by rw [hrs]; exact hf.2)) (atoms_intro fun w hw => hws w hw _ _ X.warmed)
  obtain ⟨mid, hmid⟩ := h.above
  have hfr : (U.setTop g).frames = (.java g :: mid) ++ below := by rw [State.frames_setTop' g h.top, hmid]; rfl
  obtain ⟨o, s₂, hsteps, -, hend, hq⟩ := Steps.callFree hM p X.admits X.cas X.clock (acts := []) hfr happ (hblind _ _ _ _ hP) trivial
  rw [State.frames_setTop' g h.top, X.tail] at hend
  obtain ⟨x, ce, rfl, h5, h6, h7, hWm, hsame⟩ := hq
  obtain ⟨T', X', -, -, ht⟩ := X.outOfThrown (g := g) hg (mk := mk) (a := a) (t := s₂) hend hWm hsame
  have hh : s₂.heap = T'.heap := by rw [ht, Stand.throwing_heap]
  have h9 := xs_heap hsame
  refine ⟨x, ce, T', X', by rw [← hh]; exact h5, h6, h7, ?_, ?_, by rw [← ht]; exact hsteps⟩
  · rw [← hh]; exact h9.1
  · intro q hq
    rw [← hh]; exact h9.2 q hq
end XB
section XR
variable {p : Program} {l : Launch} {e : Env} {R : Room} {s : State} {m : MethodId} {args : Array Value} {below : List Frame} {meth : Method} {c : Code} {H : Heap} {locs : List Loc} {cells slots : Nat}
/-- a call that throws: where the machine stands then -/
def va_RunX (p : Program) (l : Launch) (e : Env) (R : Room) (s : State) (m : MethodId) (args : Array Value) (below : List Frame) (meth : Method) (c : Code) (H : Heap) (locs : List Loc) (cells slots mc ms : Nat) (g : JFrame) (rest : List Value) (E : String) : Prop :=
  ∀ T : State, T.heap = H → Stand p l e R s m args below meth c T locs cells slots → ∃ (x : Nat) (ce : Cell) (T' : State), Stand p l e R s m args below meth c T' locs (cells + mc) (slots + ms) ∧
    T'.heap[x]? = some ce ∧ s.vm.findClass E = some ce.cls ∧ ce.vm = .none ∧ H.size ≤ T'.heap.size ∧ (∀ q : Nat, q < H.size → T'.heap[q]? = H[q]?) ∧
    Steps p.tables e below (T.setTop g) ((T'.setTop { g with stack := rest }).pushFrame (.throwing x))
variable {y : MethodName} {bytes cc : ByteArray} {maxL nL mc ms n index : Nat} {ret : Option FieldType} {ws : List Cond} {rm : Room} {Pc : Array Value → State → Prop} {E : String} {Ts : List Cond} {own C : String} {b : Addr} {As rest : List Value} {g : JFrame}
theorem xRunV (S : CallFix p m c cc nL s args Ts own) (hM : MetX l y ws rm Pc E mc ms) (cw : CallW R s args own C index y bytes maxL ret ws rm mc ms n) (hp : PreV s H C b Pc As)
    (hg : g.method = m) (hn : As.length = n) (hsize : g.locals.size = nL) (hstack : g.stack = As.reverse ++ .ref b :: rest) (hW : 2 * g.monitorRoom + (rest.map fun v => v.category).sum ≤ 8) (hdg : decode cc g.pc = .ok (.invokevirtual index, 3)) (hf : cells + mc ≤ R.cells ∧ slots + ms ≤ R.slots) :
    va_RunX p l e R s m args below meth c H locs cells slots mc ms g rest E := by
  obtain ⟨⟨hrc, hrs, hfr, hlo, hws, hcw, hcode, hini, hy, hlen, hl⟩, hin, hse⟩ := cw
  obtain ⟨hx, hb, hml, ho, -⟩ := S
  obtain ⟨hbl, ⟨cellB, hcB, hoB, hclB⟩, hPc⟩ := hp
  intro T hT X
  obtain ⟨mk, methM, hnamed, hmethM, hstM, habM⟩ := Cond.instanceMethod_spec hin
  obtain ⟨methM', cM, hmethM', -, -, -, -, -, -, hsigM⟩ := Cond.code_spec hnamed hcode
  cases hmethM.symm.trans hmethM'
  obtain ⟨c2, r2, m2, q1, q2, q3, q4, kP, hkP, hkPi⟩ := Cond.selects_spec hse
  cases hclB.symm.trans q1
  cases (State.methodFound?_of_named hnamed hy).symm.trans q2
  cases hnamed.symm.trans q3
  have hselP : selectMethod e.platform s.vm cellB.cls mk = .method mk := by rw [Launch.admits_selectMethod X.admits]; exact q4
  obtain ⟨vm₁, X₁, hstep₁⟩ := X.invokevirtual hx ho hl hnamed hmethM hstM hkP hkPi hy (a := b) (cell := cellB) (by rw [hT]; exact hcB)
    (fun z h => by rw [h] at hoB; cases hoB) hselP hmethM habM hkP hkPi (g := g) hg (argsL := As) (rest := rest) (hn.trans (hlen _ hsigM)) hstack (by rw [hb]; exact hdg)
  obtain ⟨x, ce, T', X', h5, h6, h7, hz, hk, hst⟩ := xBack (bytes := bytes) (maxL := maxL) (ret := ret) (a := (Value.ref b :: As).toArray) (ig := .invokevirtual index) (len := 3) (mk := mk) hM hbl hrc hrs hfr hlo hws hcw
    (fun a' U hW => word_at hW (Or.inl (by first | rfl | simp [Cond.onTables, Cond.keeps, Cond.steady])) hini) X₁ (g := { g with stack := rest }) hg (hsize.trans hml.symm) (by rw [hb]; exact hdg) hW (X₁.named hnamed) hf (hPc (T.setVm vm₁) hT X₁.warmed)
  rw [List.append_nil] at X'
  have eT : (T.setVm vm₁).heap = H := hT
  rw [eT] at hz hk
  refine ⟨x, ce, T', X', h5, ?_, h7, hz, hk, hstep₁ _ fun acts => by rw [doInvoke_state]; exact hst⟩
  rw [← X₁.warmed.alike.findClass]; exact h6
theorem xRunS (S : CallFix p m c cc nL s args Ts own) (hM : MetX l y ws rm Pc E mc ms) (cw : CallB R s args own index y bytes maxL ret ws rm mc ms n ∧ (Cond.static y).before args s = true) (hp : PreS s H Pc As)
    (hg : g.method = m) (hn : As.length = n) (hsize : g.locals.size = nL) (hstack : g.stack = As.reverse ++ rest) (hW : 2 * g.monitorRoom + (rest.map fun v => v.category).sum ≤ 8) (hdg : decode cc g.pc = .ok (.invokestatic index, 3)) (hf : cells + mc ≤ R.cells ∧ slots + ms ≤ R.slots) :
    va_RunX p l e R s m args below meth c H locs cells slots mc ms g rest E := by
  obtain ⟨⟨hrc, hrs, hfr, hlo, hws, hcw, hcode, hini, hy, hlen, hl⟩, hstat⟩ := cw
  obtain ⟨hx, hb, hml, ho, -⟩ := S
  obtain ⟨hbl, hPc⟩ := hp
  intro T hT X
  obtain ⟨mk, hnamed⟩ := Cond.code_named hcode
  obtain ⟨methM, cM, hmethM, -, -, -, -, -, -, hsigM⟩ := Cond.code_spec hnamed hcode
  have hstatic : methM.isStatic = true := Cond.static_spec hnamed hmethM hstat
  obtain ⟨kP, hkP, -⟩ := className_of_methodNamed hnamed
  have hinitP : kP.init = .initialized := Cond.initialized_spec (findClass_of_methodNamed hnamed) hkP hini
  obtain ⟨vm₁, X₁, hstep₁⟩ := X.invokestatic hx ho hl hnamed hmethM hstatic hkP hinitP hy (g := g) hg (argsL := As) (rest := rest) (hn.trans (hlen _ hsigM)) hstack (by rw [hb]; exact hdg)
  obtain ⟨x, ce, T', X', h5, h6, h7, hz, hk, hst⟩ := xBack (bytes := bytes) (maxL := maxL) (ret := ret) (a := As.toArray) (ig := .invokestatic index) (len := 3) (mk := mk) hM hbl hrc hrs hfr hlo hws hcw
    (fun a' U hW => word_at hW (Or.inl (by first | rfl | simp [Cond.onTables, Cond.keeps, Cond.steady])) hini) X₁ (g := { g with stack := rest }) hg (hsize.trans hml.symm) (by rw [hb]; exact hdg) hW (X₁.named hnamed) hf (hPc (T.setVm vm₁) hT X₁.warmed)
  rw [List.append_nil] at X'
  have eT : (T.setVm vm₁).heap = H := hT
  rw [eT] at hz hk
  refine ⟨x, ce, T', X', h5, ?_, h7, hz, hk, hstep₁ _ fun acts => by rw [doInvoke_state]; exact hst⟩
  rw [← X₁.warmed.alike.findClass]; exact h6
/-- no entry of the caller's own table covers the call: the caller throws too -/
theorem xLeave {pc : Nat} {ls : Array Slot} {st0 : List Value} (hr : va_RunX p l e R s m args below meth c H [] cells slots mc ms (F0 m pc ls st0) rest E)
    (hlocks : meth.locks = false) (hout : ∀ x ∈ c.exceptionTable.toList, covers x pc = false) :
    W p l e R s m args below meth c H [] cells slots (XQ below E (cells + mc) (slots + ms) args s) (F0 m pc ls st0) := by
  intro T hT X
  obtain ⟨x, ce, T', X', h5, h6, h7, hz, hk, hst⟩ := hr T hT X
  obtain ⟨hwalk, hrun, hended, hWm, hsame⟩ := X'.leaveThrown x (g := { F0 m pc ls st0 with stack := rest }) rfl rfl rfl hout hlocks
  exact ⟨T'.setFrames (.throwing x :: below), hst.trans hwalk, .threw x, hrun, hended, x, ce, rfl, h5, h6, h7, hWm, hsame⟩
end XR
/-! a method that only reads -/
def roQ (post : Int32 → Unit → Prop) : Array Value → State → Outcome → State → Prop := fun _ st oc t => ∃ r : Int32, oc = .returned (some (.int r)) ∧ post r () ∧ t.heap = st.heap
def roV (post : Unit → Prop) : Array Value → State → Outcome → State → Prop := fun _ st oc t => oc = .returned none ∧ post () ∧ t.heap = st.heap
section RO
variable {p : Program} {l : Launch} {e : Env} {R : Room} {s : State} {m : MethodId} {args : Array Value} {below : List Frame} {meth : Method} {c : Code} {H : Heap} {locs : List Loc} {cells slots : Nat} {Q : State → Prop}
variable {pc : Nat} {ls : Array Slot} {rest st0 : List Value} {a : Array Value}
theorem ro_calli {post : Int32 → Unit → Prop} (hr : va_Run p l e R s m args below meth c H locs cells slots 0 0 (F0 m pc ls st0) rest (roQ post a) (fun _ => False))
    (kk : ∀ r : Int32, post r () → W p l e R s m args below meth c H locs cells slots Q (F0 m (pc + 3) ls (.int r :: rest))) : W p l e R s m args below meth c H locs cells slots Q (F0 m pc ls st0) := by
  intro T hT X
  obtain ⟨v, st₀, t, T', L, h0, X', hL, e1, -, ⟨k, hv, hp, hh⟩, st⟩ := hr T hT X
  cases hv
  obtain ⟨t2, a1, b1⟩ := kk k hp T' (by rw [e1, hh, h0]) (Stand.forget X' (fun q h => (hL q h).elim))
  exact ⟨t2, st t2 a1, b1⟩
theorem ro_callv {post : Unit → Prop} (hr : va_Run p l e R s m args below meth c H locs cells slots 0 0 (F0 m pc ls st0) rest (roV post a) (fun _ => False))
    (kk : post () → W p l e R s m args below meth c H locs cells slots Q (F0 m (pc + 3) ls rest)) : W p l e R s m args below meth c H locs cells slots Q (F0 m pc ls st0) := by
  intro T hT X
  obtain ⟨v, st₀, t, T', L, h0, X', hL, e1, -, ⟨hv, hp, hh⟩, st⟩ := hr T hT X
  cases hv
  obtain ⟨t2, a1, b1⟩ := kk hp T' (by rw [e1, hh, h0]) (Stand.forget X' (fun q h => (hL q h).elim))
  exact ⟨t2, st t2 a1, b1⟩
end RO
/-! what a throw asks of the state: two statics of Throwable, the texts' constants -/
def xstrs : List (Nat × String) := [(187, "there is no such sample"), (209, "a number is none that is told"), (198, "nothing was traced"), (205, "there is no such outline, point, corner or curve"), (201, "there is no polygon at hand"), (203, "there are no curves")]
def XL (C n d : String) (A : Nat → Prop) (U : State) (H : Heap) : Prop := ∃ (c : ClassId) (k : Class) (i : Nat) (f : Field) (a : Nat) (cell : Cell), U.vm.findClass C = some c ∧ U.fieldFound? C n d = some (c, k, i, f) ∧ f.isStatic = true ∧ k.statics = some a ∧ H[a]? = some cell ∧ cell.vm.isStatics = true ∧ cell.cls = c ∧ f.slot < cell.slots.size ∧ k.staticTypes[f.slot]? = some f.type ∧ ¬ A a
theorem XL.moved {C n d : String} {A : Nat → Prop} {u U : State} {H : Heap} (hvm : u.vm.Alike U.vm) (h : XL C n d A u H) : XL C n d A U H := by
  obtain ⟨c, k, i, f, a, cell, h0, h1, h2, h3, h4, h5, h6, h7, h8, h9⟩ := h
  obtain ⟨k', hi', he⟩ := State.fieldFound?_setVm hvm h1
  exact ⟨c, k', i, f, a, cell, by rw [hvm.findClass]; exact h0, hi', h2, by rw [he]; exact h3, h4, h5, h6, h7, by rw [he]; exact h8, h9⟩
theorem XL.kept {C n d : String} {A : Nat → Prop} {U : State} {H H1 : Heap} (h : XL C n d A U H) (hq : ∀ a : Nat, a < H.size → ¬ A a → H1[a]? = H[a]?) : XL C n d A U H1 := by
  obtain ⟨c, k, i, f, a, cell, h0, h1, h2, h3, h4, h5, h6, h7, h8, h9⟩ := h
  exact ⟨c, k, i, f, a, cell, h0, h1, h2, h3, by rw [hq a (Array.getElem?_eq_some_iff.mp h4).1 h9]; exact h4, h5, h6, h7, h8, h9⟩
theorem XL.narrow {C n d : String} {A B : Nat → Prop} {U : State} {H : Heap} (h : XL C n d A U H) (hAB : ∀ q, B q → A q) : XL C n d B U H := by
  obtain ⟨c, k, i, f, a, cell, h0, h1, h2, h3, h4, h5, h6, h7, h8, h9⟩ := h
  exact ⟨c, k, i, f, a, cell, h0, h1, h2, h3, h4, h5, h6, h7, h8, fun z => h9 (hAB a z)⟩
theorem XL.of {args : Array Value} {s : State} {C n d : String} {A : Nat → Prop} (h : (Cond.laysStatic C n d).before args s = true) (hA : ∀ a : Nat, a < s.heap.size → ¬ A a) : XL C n d A s s.heap := by
  obtain ⟨c, k, i, f, a, cell, hc, hi, hst, ha, hcell, hs, hcls, hlt, hty⟩ := Cond.laysStatic_spec h
  exact ⟨c, k, i, f, a, cell, hc, hi, hst, ha, hcell, hs, hcls, hlt, hty, hA a (Array.getElem?_eq_some_iff.mp hcell).1⟩
theorem XL.use {args : Array Value} {s : State} {C n d : String} {A : Nat → Prop} (h : XL C n d A s s.heap) : (Cond.laysStatic C n d).before args s = true := by
  obtain ⟨c, k, i, f, a, cell, h0, h1, h2, h3, h4, h5, h6, h7, h8, h9⟩ := h
  simp [Cond.before, Cond.holds, Cond.value, h0, h1, h2, h3, h4, h5, h6, h7, h8]
def xwords : List Cond := [.declares ⟨"java/lang/RuntimeException", "<init>", "(Ljava/lang/String;)V"⟩, .declares ⟨"java/lang/Exception", "<init>", "(Ljava/lang/String;)V"⟩, .declares ⟨"java/lang/Throwable", "<init>", "(Ljava/lang/String;)V"⟩,
  .castable "java/lang/IndexOutOfBoundsException" "java/lang/IndexOutOfBoundsException", .castable "java/lang/IllegalStateException" "java/lang/IllegalStateException", .castable "java/lang/IllegalArgumentException" "java/lang/IllegalArgumentException"]
theorem xw_moved {u U : State} (hvm : u.vm.Alike U.vm) (h : ∀ w ∈ xwords, w.before #[] u = true) : ∀ w ∈ xwords, w.before #[] U = true := by
  have tr : ∀ {c : Cond}, c.onTables = true → c.before #[] (u.setVm U.vm) = true → c.before #[] U = true := by
    intro c hc h
    have e := Cond.onTables_vm (A := #[]) (A' := #[]) (U := u) (U' := U) U.vm c hc
    have hU : U.setVm U.vm = U := rfl
    rw [hU] at e
    rw [← e]
    exact h
  intro w hw
  have h0 := h w hw
  simp only [xwords, List.mem_cons, List.not_mem_nil, or_false] at hw
  rcases hw with rfl | rfl | rfl | rfl | rfl | rfl
  · exact tr rfl (by rw [Cond.declares_setVm hvm]; exact h0)
  · exact tr rfl (by rw [Cond.declares_setVm hvm]; exact h0)
  · exact tr rfl (by rw [Cond.declares_setVm hvm]; exact h0)
  · exact tr rfl (by rw [Cond.castable_setVm hvm]; exact h0)
  · exact tr rfl (by rw [Cond.castable_setVm hvm]; exact h0)
  · exact tr rfl (by rw [Cond.castable_setVm hvm]; exact h0)
theorem xw_use {args : Array Value} {U : State} (h : ∀ w ∈ xwords, w.before #[] U = true) : ∀ w ∈ xwords, w.before args U = true := by
  intro w hw
  have h0 := h w hw
  simp only [xwords, List.mem_cons, List.not_mem_nil, or_false] at hw
  rcases hw with rfl | rfl | rfl | rfl | rfl | rfl <;> exact va_any rfl h0
def XG (A : Nat → Prop) (U : State) (H : Heap) : Prop := (∀ w ∈ xwords, w.before #[] U = true) ∧ va_Zq Bundle.tN "UNASSIGNED_STACK" Bundle.steD A U H ∧ va_Zq Bundle.tN "SUPPRESSED_SENTINEL" Bundle.listD A U H ∧ (∀ q ∈ xstrs, (Cond.stringRef "OutlineCurves" q.1 q.2).before #[] U = true) ∧ XL Bundle.tN "UNASSIGNED_STACK" Bundle.steD A U H ∧ XL Bundle.tN "SUPPRESSED_SENTINEL" Bundle.listD A U H
theorem XG.kept {A : Nat → Prop} {U : State} {H H1 : Heap} (h : XG A U H) (hq : ∀ a : Nat, a < H.size → ¬ A a → H1[a]? = H[a]?) : XG A U H1 := ⟨h.1, h.2.1.kept hq, h.2.2.1.kept hq, h.2.2.2.1, h.2.2.2.2.1.kept hq, h.2.2.2.2.2.kept hq⟩
theorem XG.narrow {A B : Nat → Prop} {U : State} {H : Heap} (h : XG A U H) (hAB : ∀ q, B q → A q) : XG B U H := ⟨h.1, h.2.1.narrow hAB, h.2.2.1.narrow hAB, h.2.2.2.1, h.2.2.2.2.1.narrow hAB, h.2.2.2.2.2.narrow hAB⟩
theorem sr_vm {own tx : String} {k : Nat} {u U : State} {A A' : Array Value} (hv : U.vm = u.vm) (h : (Cond.stringRef own k tx).before A u = true) : (Cond.stringRef own k tx).before A' U = true := by
  simp only [Cond.before, Cond.holds, Cond.value, State.names, State.poolOf?, State.resolvedAt?, hv] at h ⊢
  exact h
theorem XG.warm {A : Nat → Prop} {s U : State} {H : Heap} (hW : s.WarmedH U.vm) (h : XG A s H) : XG A U H :=
  ⟨xw_moved hW.alike h.1, va_Zq.moved hW.alike h.2.1, va_Zq.moved hW.alike h.2.2.1, fun q hq => sr_vm (u := s.setVm U.vm) rfl (Cond.stringRef_warmed hW (h.2.2.2.1 q hq)), XL.moved hW.alike h.2.2.2.2.1, XL.moved hW.alike h.2.2.2.2.2⟩
theorem XG.calling {A : Nat → Prop} {U : State} {H : Heap} {g : JFrame} {mk : MethodId} {a : Array Value} (h : XG A U H) : XG A (U.calling g mk a) H :=
  ⟨xw_moved (Vm.Alike.refl U.vm) h.1, va_Zq.moved (Vm.Alike.refl U.vm) h.2.1, va_Zq.moved (Vm.Alike.refl U.vm) h.2.2.1, fun q hq => sr_vm (u := U) rfl (h.2.2.2.1 q hq), XL.moved (Vm.Alike.refl U.vm) h.2.2.2.2.1, XL.moved (Vm.Alike.refl U.vm) h.2.2.2.2.2⟩
theorem xs_isRef {args : Array Value} {s : State} {C n d : String} {A : Nat → Prop} (h : va_Zq C n d A s s.heap) : (Cond.isRef (.static C n d)).before args s = true := by
  have key : ∀ v : Value, va_Z C n d v A s s.heap → v.isRef = true → (Cond.isRef (.static C n d)).before args s = true := by
    intro v hz hv
    obtain ⟨cf, kf, fi, f, a, cell, h1, h2, h3, h4, h5, h6, h7, h8⟩ := hz
    have he : (Term.static C n d).eval args s none [] s = some v := by
      simp [Term.eval, State.fieldNamed?, h1, h2, h4, h5, h6, h7]
    simp only [Cond.before, Cond.holds, Cond.value, he]
    cases v <;> simp [Value.isRef] at hv <;> rfl
  rcases h with h | ⟨t, h⟩
  · exact key _ h rfl
  · exact key _ h rfl

/-- what the tables say of an exception's class: all that a throw of one asks but the two statics -/
def xAtoms (ic : Nat) (E : String) : List Cond := Bundle.throwableAtoms ++ Bundle.throwableSAtoms ++ Bundle.chainSAtoms E ["java/lang/RuntimeException", "java/lang/Exception"] ++
  [.methodLink "OutlineCurves" ic (Bundle.initS E), .instantiable E 6, .castable E E, .selects E Bundle.tFill0 Bundle.tFill0, .selects E Bundle.tFill Bundle.tFill,
   .lays E Bundle.tN "cause" "Ljava/lang/Throwable;", .lays E Bundle.tN "stackTrace" Bundle.steD, .lays E Bundle.tN "suppressedExceptions" Bundle.listD, .lays E Bundle.tN "detailMessage" "Ljava/lang/String;",
   .fieldLink Bundle.tN 198 Bundle.tN "backtrace" "Ljava/lang/Object;", .lays Bundle.tN Bundle.tN "backtrace" "Ljava/lang/Object;", .lays E Bundle.tN "backtrace" "Ljava/lang/Object;"]
section XT
variable {p : Program} {l : Launch} {e : Env} {R : Room} {s : State} {m : MethodId} {args : Array Value} {below : List Frame} {meth : Method} {c : Code} {A : Nat → Prop} {cc : ByteArray} {ls : Array Slot}
/-- new E; dup; ldc text; <init>; athrow: the method throws -/
theorem xThrow (hx : p.tables.exec = Jvm.exec) (hb : c.code = cc) (hml : c.maxLocals = ls.size) (hown : s.vm.findClass "OutlineCurves" = some m.cls) (hlocks : meth.locks = false) (hout : ∀ x ∈ c.exceptionTable.toList, ∀ pc, covers x pc = false)
    (hfl : l.stackTraces = false) {E tx : String} {ia ib ic pc : Nat} (hcls : Bundle.fit E = true) (hG : XG A s s.heap) (hts : ∀ w ∈ allW, w.before args s = true) (hai : ∀ a ∈ xAtoms ic E, a ∈ xwords ∨ a = .laysStatic Bundle.tN "UNASSIGNED_STACK" Bundle.steD ∨ a = .laysStatic Bundle.tN "SUPPRESSED_SENTINEL" Bundle.listD ∨ a ∈ allW) (hlink : (Cond.classLink "OutlineCurves" ia E).before args s = true) (hini : (Cond.initialized E).before args s = true) (hstr : (ib, tx) ∈ xstrs)
    (hF : 6 ≤ R.frames) (hLo : 110 ≤ R.locals) (hC : 1 ≤ R.cells) (hSl : 6 ≤ R.slots)
    (d0 : decode cc pc = .ok (.new ia, 3)) (d3 : decode cc (pc + 3) = .ok (.dup, 1)) (d4 : decode cc (pc + 4) = .ok (.ldc ib, 2)) (d6 : decode cc (pc + 6) = .ok (.invokespecial ic, 3)) (d9 : decode cc (pc + 9) = .ok (.athrow, 1)) :
    W p l e R s m args below meth c s.heap [] 0 0 (XQ below E 1 6 args s) (F0 m pc ls []) := by
  have hat : ∀ a ∈ xAtoms ic E, a.before args s = true := by
    intro a ha
    rcases hai a ha with h1 | h1 | h1 | h1
    · exact xw_use hG.1 a h1
    · rw [h1]; exact hG.2.2.2.2.1.use
    · rw [h1]; exact hG.2.2.2.2.2.use
    · exact hts a h1
  have hinst : (Cond.instantiable E 6).before args s = true := hat _ (by simp [xAtoms])
  obtain ⟨cX, kX0, hcX, hkX0, -⟩ := Cond.instantiable_spec (show (Cond.instantiable E 6).holds args s none s [] = true from hinst)
  refine W.newcK hx hb hown hlink hinst hini rfl d0 (by omega) (by omega) hcX rfl fun H' kX hkX e1 z1 o1 => ?_
  refine lv_dup hx hb d3 rfl ?_
  obtain ⟨k9, cf9, i9, q, -, -, -, -, -, hq⟩ := Cond.stringRef_spec (args := #[]) (first := s) (o := none) (idx := []) hown (show (Cond.stringRef "OutlineCurves" ib tx).holds #[] s none s [] = true from hG.2.2.2.1 _ hstr)
  refine va_ldcS hx hb hown (tx := tx) (q := q) ⟨hG.2.2.2.1 _ hstr, hq⟩ d4 ?_
  intro T hT X
  have htr : e.platform.stackTraces = false := by rw [X.admits.platform]; exact hfl
  obtain ⟨U, hst, hrun, hend, hWm, hsame, ce, hce, hO⟩ := X.ctorThrowS hx htr (own := "OutlineCurves") (cls := E) (names := ["java/lang/RuntimeException", "java/lang/Exception"]) (ic := ic) hown hcls (by decide +kernel)
    (by
      intro a ha
      have hz : a ∈ xAtoms ic E ∨ a = .isRef (.static Bundle.tN "UNASSIGNED_STACK" Bundle.steD) ∨ a = .isRef (.static Bundle.tN "SUPPRESSED_SENTINEL" Bundle.listD) := by
        simp only [Bundle.ownAtoms, List.mem_append, List.mem_cons, List.not_mem_nil, or_false] at ha
        simp only [xAtoms, List.mem_append, List.mem_cons, List.not_mem_nil, or_false]
        rcases ha with h | h
        · exact Or.inl (Or.inl h)
        · rcases h with h | h | h | h | h | h | h | h | h | h | h | h | h | h <;> simp [h]
      rcases hz with h | rfl | rfl
      · exact hat a h
      · exact xs_isRef hG.2.1
      · exact xs_isRef hG.2.2.1)
    (fun x hxm => by cases hxm) hcX hkX (a := s.heap.size) (by rw [hT]; exact e1) (Nat.le_refl _) (msg := .ref q) rfl (g := F0 m (pc + 6) ls [.ref q, .ref s.heap.size, .ref s.heap.size]) rfl (by rw [hml]) rfl rfl (rest := []) rfl (by rw [hb]; exact d6) (by rw [hb]; exact d9)
    (fun x hxm => hout x hxm _) (by show 2 + 3 < R.frames; omega) (by show 2 * 0 + 1 + (13 * (2 + 1) + 42) ≤ R.locals; omega) hlocks
  exact ⟨U, hst, .threw s.heap.size, hrun, hend, s.heap.size, ce, rfl, hce, hO.cls, hO.vm, hWm, hsame⟩
end XT
