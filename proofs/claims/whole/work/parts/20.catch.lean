/-! A THROWN CALL IS CAUGHT: the caller's own table, its class constants cold or warm -/
section XH
variable {p : Program} {l : Launch} {e : Env} {R : Room} {s : State} {m : MethodId} {args : Array Value} {below : List Frame} {meth : Method} {c : Code} {T : State} {locs : List Loc} {cells slots : Nat}
theorem xGo {Q : Handler → Pre} {E : CtlPost} {d : Bool} {acts : List Action} {f : JFrame} {a : Addr} {S : State} {x : ExceptionTableEntry} {t : List ExceptionTableEntry} {cT : ClassId} {cell : Cell} (hx : covers x f.pc = true) (h0 : x.catchType ≠ 0)
    (hl : S.vm.ClassLinks e.platform f.method.cls x.catchType cT) (hcell : S.heap[a]? = some cell) (hobj : ∀ k, cell.vm ≠ .statics k) (hk : ∃ k, S.vm.classes[cell.cls]? = some k) (hc : ∃ k, S.vm.classes[cT]? = some k) :
    wp (findHandler.go f a (x :: t)) Q E e d acts S ↔ if S.vm.assignable cell.cls cT = true then Q (.found x.handlerPc) d acts (S.setVm (S.vm.noted f.method.cls x.catchType (.cls cT))) else wp (findHandler.go f a t) Q E e d acts (S.setVm (S.vm.noted f.method.cls x.catchType (.cls cT))) := by
  simp only [covers] at hx
  obtain ⟨ha, ht⟩ := (resolveClass_links e.toSetting hl).op (op := VmOp.resolveClass f.method.cls x.catchType) rfl
  have hal : S.vm.Alike (S.vm.noted f.method.cls x.catchType (.cls cT)) := (Vm.Alike.refl S.vm).noted _ _ _
  obtain ⟨k1, hk1⟩ := hk
  obtain ⟨k2, hk2⟩ := hc
  obtain ⟨k1', hk1', -⟩ := hal.2.2 _ _ hk1
  obtain ⟨k2', hk2', -⟩ := hal.2.2 _ _ hk2
  have hfit' : (S.vm.noted f.method.cls x.catchType (.cls cT)).assignable cell.cls cT = S.vm.assignable cell.cls cT := by rw [hal.assignable]
  cases hf : S.vm.assignable cell.cls cT <;> rw [hf] at hfit' <;>
    simp [findHandler.go, hx, h0, ha, ht, hcell, hobj, hk1', hk2', hfit', VmOp.dirties, VmOp.acts]
theorem xLink (X : Stand p l e R s m args below meth c T locs cells slots) {own name : String} {ix : Nat} (hown : s.vm.findClass own = some m.cls) (hlink : (Cond.classLink own ix name).before args s = true) {cT : ClassId} (hcT : s.vm.findClass name = some cT) :
    T.vm.ClassLinks e.platform m.cls ix cT ∧ s.WarmedH (T.vm.noted m.cls ix (.cls cT)) ∧ ∃ k, T.vm.classes[cT]? = some k := by
  have hpl : e.platform.magicAccessors = ({} : Platform).magicAccessors := by rw [X.admits.platform]
  obtain ⟨c', hc', hcl⟩ := Cond.classLink_spec hown hlink e.platform hpl
  cases hcT.symm.trans hc'
  obtain ⟨dk, _, _, kt, hd, _, _, _, _, hkt, _, hopen⟩ := hcl.here
  obtain ⟨kt', hkt', -⟩ := X.warmed.alike.2.2 _ _ hkt
  exact ⟨X.warmed.classLinks hcl, X.warmed.noted hd hopen (State.rightAt_cls hcl), kt', hkt'⟩
/-- the search from here on ends at hpc -/
def XS (p : Program) (l : Launch) (e : Env) (R : Room) (s : State) (m : MethodId) (args : Array Value) (below : List Frame) (meth : Method) (c : Code) (locs : List Loc) (cells slots : Nat) (g : JFrame) (a : Addr) (T : State) (es : List ExceptionTableEntry) (hpc : Nat) : Prop :=
  ∃ vm', Stand p l e R s m args below meth c (T.setVm vm') locs cells slots ∧ ∀ (Q : Handler → Pre) (E : CtlPost) (d : Bool) (acts : List Action), wp (findHandler.go g a es) Q E e d acts ((T.setTop g).pushFrame (.throwing a)) ↔ Q (.found hpc) d acts (((T.setTop g).pushFrame (.throwing a)).setVm vm')
variable {g : JFrame} {a : Addr} {es : List ExceptionTableEntry} {hpc : Nat} {own name E : String} {cell : Cell}
theorem XS.hit (X : Stand p l e R s m args below meth c T locs cells slots) (hg : g.method = m) (hown : s.vm.findClass own = some m.cls) {x : ExceptionTableEntry} (hx : covers x g.pc = true) (h0 : x.catchType ≠ 0) (hlink : (Cond.classLink own x.catchType name).before args s = true)
    (hcell : T.heap[a]? = some cell) (hvm : cell.vm = .none) (hE : s.vm.findClass E = some cell.cls) {cT : ClassId} (hcT : s.vm.findClass name = some cT) (hfit : s.vm.assignable cell.cls cT = true) : XS p l e R s m args below meth c locs cells slots g a T (x :: es) x.handlerPc := by
  obtain ⟨h1, h2, k, h3⟩ := xLink X hown hlink hcT
  have hal := X.warmed.alike
  have hfit' : T.vm.assignable cell.cls cT = true := by rw [hal.assignable]; exact hfit
  refine ⟨_, X.noted h2, fun Q E d acts => ?_⟩
  subst hg
  rw [xGo (cT := cT) (cell := cell) hx h0 (by rw [Stand.throwing_vm]; exact h1) (by rw [Stand.throwing_heap]; exact hcell) (by rw [hvm]; intro k h; cases h) (by rw [Stand.throwing_vm]; exact Vm.classAt_of_assignable hfit' ⟨k, h3⟩) (by rw [Stand.throwing_vm]; exact ⟨k, h3⟩), if_pos (by rw [Stand.throwing_vm]; exact hfit'), Stand.throwing_vm]
theorem XS.pass (X : Stand p l e R s m args below meth c T locs cells slots) (hg : g.method = m) (hown : s.vm.findClass own = some m.cls) {x : ExceptionTableEntry} (hx : covers x g.pc = true) (h0 : x.catchType ≠ 0) (hlink : (Cond.classLink own x.catchType name).before args s = true)
    (hcell : T.heap[a]? = some cell) (hvm : cell.vm = .none) (hE : s.vm.findClass E = some cell.cls) {cT : ClassId} (hcT : s.vm.findClass name = some cT) (hfit : s.vm.assignable cell.cls cT = false)
    (k : ∀ T1 : State, T1.heap = T.heap → Stand p l e R s m args below meth c T1 locs cells slots → XS p l e R s m args below meth c locs cells slots g a T1 es hpc) : XS p l e R s m args below meth c locs cells slots g a T (x :: es) hpc := by
  obtain ⟨h1, h2, kc, h3⟩ := xLink X hown hlink hcT
  have hal := X.warmed.alike
  have hfit' : T.vm.assignable cell.cls cT = false := by rw [hal.assignable]; exact hfit
  obtain ⟨vm', X', hS⟩ := k (T.setVm (T.vm.noted m.cls x.catchType (.cls cT))) rfl (X.noted h2)
  obtain ⟨kE, hkE⟩ := Vm.classAt_of_findClass hE
  obtain ⟨kE', hkE', -⟩ := hal.2.2 _ _ hkE
  refine ⟨vm', X', fun Q E d acts => ?_⟩
  subst hg
  rw [xGo (cT := cT) (cell := cell) hx h0 (by rw [Stand.throwing_vm]; exact h1) (by rw [Stand.throwing_heap]; exact hcell) (by rw [hvm]; intro k h; cases h) (by rw [Stand.throwing_vm]; exact ⟨kE', hkE'⟩) (by rw [Stand.throwing_vm]; exact ⟨kc, h3⟩), if_neg (by rw [Stand.throwing_vm, hfit']; decide), Stand.throwing_vm]
  exact hS Q E d acts
theorem xCaughtTo {tb : Tables} {S target : State} {g : JFrame} (h : At S g.method c below) {pc : Nat} {vm' : Vm}
    (hfind : ∀ (Q : Handler → Pre) (E : CtlPost) (d : Bool) (acts : List Action), wp (findHandler g a) Q E e d acts ((S.setTop g).pushFrame (.throwing a)) ↔ Q (.found pc) d acts (((S.setTop g).pushFrame (.throwing a)).setVm vm'))
    (hrest : Steps tb e below ((S.setVm vm').setTop { g with pc := pc, stack := [.ref a] }) target) : Steps tb e below ((S.setTop g).pushFrame (.throwing a)) target := by
  obtain ⟨hgo, hw⟩ := h.throwing a
  refine Steps.head hgo hw ?_
  have hstep : (stepThrowing e ((S.setTop g).pushFrame (.throwing a)) a (.java g :: S.frames.tail)).1 = (((S.setTop g).pushFrame (.throwing a)).setVm vm').setFrames (.java { g with pc := pc, stack := [.ref a] } :: S.frames.tail) := by
    simp only [stepThrowing, searchFrame, vmDo]
    generalize hr : Sem.go _ e false [] ((S.setTop g).pushFrame (.throwing a)) = res
    obtain ⟨as, rfl, ha⟩ := Sem.eq_ok_of hr (a := Handler.found pc) (s' := ((S.setTop g).pushFrame (.throwing a)).setVm vm') (acts' := []) (by simp [hfind _ _ _ _])
    rfl
  rw [stepThread_throwing (frames_entered h.top _), hstep]
  obtain ⟨g₀, hg⟩ := Option.isSome_iff_exists.mp h.top
  obtain ⟨r, hr⟩ := State.topJava?_eq_some.mp hg
  have hr' : (S.setVm vm').frames = .java g₀ :: r := hr
  have hq : ∀ (u : State) (F G : List Frame), ((u.setFrames F).setVm vm').setFrames G = (u.setVm vm').setFrames G := fun u F G => by
    have h1 : (u.setFrames F).setVm vm' = (u.setVm vm').setFrames F := rfl
    rw [h1, State.setFrames_setFrames]
  rw [State.setTop_of_frames _ hr'] at hrest
  rw [hr, List.tail_cons, State.pushFrame, hq, State.setTop_of_frames _ hr, hq]
  exact hrest
/-- the walk goes on at the handler, the reference alone on the stack -/
theorem xCatch {H : Heap} {mc ms pc : Nat} {ls : Array Slot} {st0 rest : List Value} {Q : State → Prop} (hr : va_RunX p l e R s m args below meth c H locs cells slots mc ms (F0 m pc ls st0) rest E) (hmeth : c.exceptionTable.toList = es)
    (hs : ∀ (T : State) (x : Nat) (ce : Cell), Stand p l e R s m args below meth c T locs (cells + mc) (slots + ms) → T.heap[x]? = some ce → s.vm.findClass E = some ce.cls → ce.vm = .none → XS p l e R s m args below meth c locs (cells + mc) (slots + ms) { F0 m pc ls st0 with stack := rest } x T es hpc)
    (kk : ∀ (x : Nat) (H1 : Heap), H.size ≤ H1.size → (∀ q : Nat, q < H.size → H1[q]? = H[q]?) → W p l e R s m args below meth c H1 locs (cells + mc) (slots + ms) Q (F0 m hpc ls [.ref x])) :
    W p l e R s m args below meth c H locs cells slots Q (F0 m pc ls st0) := by
  intro T hT X
  obtain ⟨x, ce, T', X', h5, h6, h7, hz, hk, hst⟩ := hr T hT X
  obtain ⟨vm', X2, hf⟩ := hs T' x ce X' h5 h6 h7
  obtain ⟨t, a1, b1⟩ := kk x T'.heap hz hk (T'.setVm vm') rfl X2
  refine ⟨t, hst.trans (xCaughtTo (c := c) (g := { F0 m pc ls st0 with stack := rest }) X'.here (fun Q E d acts => ?_) a1), b1⟩
  rw [W.findHandler_eq (meth := meth) (code := c) (by rw [Stand.throwing_vm]; exact X'.method') X'.code, hmeth]
  exact hf Q E d acts
end XH
