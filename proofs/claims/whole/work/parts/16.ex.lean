/-! exceptions: how one that a callee threw finds its handler here, the class of the handler linked or not yet -/
/-- what the search for a handler gives, and the tables that it leaves -/
def xf (e : Env) (s : State) (f : JFrame) (a : Addr) (h : Handler) (vm1 : Vm) : Prop :=
  ∀ (Q : Handler → Pre) (E : CtlPost) (d : Bool) (acts : List Action), wp (findHandler f a) Q E e d acts s ↔ Q h d acts (s.setVm vm1)
theorem x_row {e : Env} {s : State} {f : JFrame} {a : Addr} {Q : Handler → Pre} {E : CtlPost} {d : Bool} {acts : List Action} {x : ExceptionTableEntry} {t : List ExceptionTableEntry} {cn : ClassId} {cell : Cell} {k1 k2 : Class} (hx : covers x f.pc = true) (h0 : x.catchType ≠ 0)
    (hl : s.vm.ClassLinks e.platform f.method.cls x.catchType cn) (hcell : s.heap[a]? = some cell) (hobj : ∀ k, cell.vm ≠ .statics k) (hk1 : s.vm.classes[cell.cls]? = some k1) (hk2 : s.vm.classes[cn]? = some k2) :
    wp (findHandler.go f a (x :: t)) Q E e d acts s ↔ (if s.vm.assignable cell.cls cn = true then Q (.found x.handlerPc) d acts (s.setVm (s.vm.noted f.method.cls x.catchType (.cls cn))) else wp (findHandler.go f a t) Q E e d acts (s.setVm (s.vm.noted f.method.cls x.catchType (.cls cn)))) := by
  have hx' := hx
  simp only [covers] at hx'
  obtain ⟨ha, ht⟩ := (resolveClass_links e.toSetting hl).op (op := VmOp.resolveClass f.method.cls x.catchType) rfl
  have hal : s.vm.Alike (s.vm.noted f.method.cls x.catchType (.cls cn)) := (Vm.Alike.refl s.vm).noted _ _ _
  obtain ⟨k1', hk1', -⟩ := hal.2.2 _ _ hk1
  obtain ⟨k2', hk2', -⟩ := hal.2.2 _ _ hk2
  have hfe : (s.vm.noted f.method.cls x.catchType (.cls cn)).assignable cell.cls cn = s.vm.assignable cell.cls cn := hal.assignable ..
  cases hfit : s.vm.assignable cell.cls cn <;> simp [findHandler.go, hx', h0, ha, ht, hcell, hobj, hk1', hk2', hfe, hfit, VmOp.dirties, VmOp.acts]
/-- a row of the table that the thrown class passes (b false) or that takes it (b true) -/
def x_is (pl : Platform) (s0 : State) (d thr : ClassId) (pc : Nat) (b : Bool) (y : ExceptionTableEntry) : Prop :=
  covers y pc = true ∧ y.catchType ≠ 0 ∧ ∃ cn, s0.vm.ClassLinks pl d y.catchType cn ∧ s0.vm.assignable thr cn = b
theorem x_rows {e : Env} {s0 : State} {f : JFrame} {a : Addr} {cell : Cell} {k0 : Class} (hobj : ∀ k, cell.vm ≠ .statics k) (hk0 : s0.vm.classes[cell.cls]? = some k0) (x : ExceptionTableEntry) (suf : List ExceptionTableEntry) (hx : x_is e.platform s0 f.method.cls cell.cls f.pc true x) :
    ∀ (ps : List ExceptionTableEntry) (S : State), s0.WarmedH S.vm → S.heap[a]? = some cell → (∀ y ∈ ps, x_is e.platform s0 f.method.cls cell.cls f.pc false y) →
      ∃ vm1, s0.WarmedH vm1 ∧ ∀ (Q : Handler → Pre) (E : CtlPost) (d : Bool) (acts : List Action), wp (findHandler.go f a (ps ++ x :: suf)) Q E e d acts S ↔ Q (.found x.handlerPc) d acts (S.setVm vm1)
  | [], S, hW, hc, _ => by
    obtain ⟨h1, h2, cn, hl, hb⟩ := hx
    obtain ⟨dk, _, _, kt, hd, _, _, _, _, hkt, _, hop⟩ := hl.here
    obtain ⟨k1, hk1, -⟩ := hW.alike.2.2 _ _ hk0
    obtain ⟨k2, hk2, -⟩ := hW.alike.2.2 _ _ hkt
    refine ⟨_, hW.noted hd hop (State.rightAt_cls hl), fun Q E d acts => ?_⟩
    rw [List.nil_append, x_row h1 h2 (hW.classLinks hl) hc hobj hk1 hk2, if_pos (by rw [hW.alike.assignable]; exact hb)]
  | y :: ys, S, hW, hc, hp => by
    obtain ⟨h1, h2, cn, hl, hb⟩ := hp y List.mem_cons_self
    obtain ⟨dk, _, _, kt, hd, _, _, _, _, hkt, _, hop⟩ := hl.here
    obtain ⟨k1, hk1, -⟩ := hW.alike.2.2 _ _ hk0
    obtain ⟨k2, hk2, -⟩ := hW.alike.2.2 _ _ hkt
    obtain ⟨vm1, hW1, hq⟩ := x_rows hobj hk0 x suf hx ys (S.setVm (S.vm.noted f.method.cls y.catchType (.cls cn))) (hW.noted hd hop (State.rightAt_cls hl)) hc (fun z hz => hp z (List.mem_cons_of_mem _ hz))
    refine ⟨vm1, hW1, fun Q E d acts => ?_⟩
    rw [List.cons_append, x_row h1 h2 (hW.classLinks hl) hc hobj hk1 hk2, if_neg (by rw [hW.alike.assignable, hb]; decide)]
    exact hq Q E d acts
theorem x_step {e : Env} {s : State} {a : Addr} {f : JFrame} {r : List Frame} {pc : Nat} {vm1 : Vm} (hf : xf e s f a (.found pc) vm1) :
    (stepThrowing e s a (.java f :: r)).Is ((s.setVm vm1).setFrames (.java { f with pc := pc, stack := [.ref a] } :: r)) [] := by
  simp only [stepThrowing, searchFrame, vmDo]
  generalize hr : Sem.go _ e false [] s = res
  obtain ⟨acts, rfl, ha⟩ := Sem.eq_ok_of hr (a := Handler.found pc) (s' := s.setVm vm1) (acts' := []) (by simp [hf _ _ _ _])
  exact ⟨rfl, ha⟩
theorem x_caught {tb : Tables} {e : Env} {s tgt : State} {g : JFrame} {c : Code} {below : List Frame} {a : Addr} (h : At s g.method c below) {pc : Nat} {vm1 : Vm} (hf : xf e ((s.setTop g).pushFrame (.throwing a)) g a (.found pc) vm1)
    (hrest : Steps tb e below ((s.setVm vm1).setTop { g with pc := pc, stack := [.ref a] }) tgt) : Steps tb e below ((s.setTop g).pushFrame (.throwing a)) tgt := by
  obtain ⟨hgo, hw⟩ := h.throwing a
  refine Steps.head hgo hw ?_
  rw [stepThread_throwing (frames_entered h.top _), (x_step (s := (s.setTop g).pushFrame (.throwing a)) hf).1]
  obtain ⟨g₀, hg⟩ := Option.isSome_iff_exists.mp h.top
  obtain ⟨r, hr⟩ := State.topJava?_eq_some.mp hg
  have hr2 : (s.setVm vm1).frames = .java g₀ :: r := hr
  rw [State.setTop_of_frames _ hr2] at hrest
  have e1 : ∀ (u : State) (F G : List Frame), ((u.setFrames F).setVm vm1).setFrames G = (u.setVm vm1).setFrames G := fun u F G => by
    have h1 : (u.setFrames F).setVm vm1 = (u.setVm vm1).setFrames F := rfl
    rw [h1, State.setFrames_setFrames]
  rw [hr, List.tail_cons, State.pushFrame, e1, State.setTop_of_frames _ hr, e1]
  exact hrest
section XW
variable {p : Program} {l : Launch} {e : Env} {R : Room} {s : State} {m : MethodId} {args : Array Value} {below : List Frame} {meth : Method} {c : Code} {H : Heap} {locs : List Loc} {cells slots : Nat} {Q : State → Prop}
/-- the frame g with q thrown over it comes to Q -/
def xW (p : Program) (l : Launch) (e : Env) (R : Room) (s : State) (m : MethodId) (args : Array Value) (below : List Frame) (meth : Method) (c : Code) (H : Heap) (locs : List Loc) (cells slots : Nat) (Q : State → Prop) (g : JFrame) (q : Addr) : Prop :=
  ∀ T : State, T.heap = H → Stand p l e R s m args below meth c T locs cells slots → ∃ t, Steps p.tables e below ((T.setTop g).pushFrame (.throwing q)) t ∧ Q t
/-- words for x_is: the row links to the class nm, the thrown class can, or cannot, be assigned to it -/
def x_w (s : State) (args : Array Value) (own : String) (thr : ClassId) (pc : Nat) (b : Bool) (y : ExceptionTableEntry) : Prop :=
  covers y pc = true ∧ y.catchType ≠ 0 ∧ ∃ (nm : String) (cn : ClassId), (Cond.classLink own y.catchType nm).before args s = true ∧ s.vm.findClass nm = some cn ∧ s.vm.assignable thr cn = b
theorem xW_catch {own : String} {pc : Nat} {ls : Array Slot} {rest : List Value} {ce : Cell} {q : Addr} {k0 : Class} (hown : s.vm.findClass own = some m.cls) (ps : List ExceptionTableEntry) (x : ExceptionTableEntry) (suf : List ExceptionTableEntry) (hsplit : c.exceptionTable.toList = ps ++ x :: suf)
    (hps : ∀ y ∈ ps, x_w s args own ce.cls pc false y) (hx : x_w s args own ce.cls pc true x) (hcell : H[q]? = some ce) (hv : ce.vm = .none) (hk0 : s.vm.classes[ce.cls]? = some k0)
    (kk : W p l e R s m args below meth c H locs cells slots Q (F0 m x.handlerPc ls [.ref q])) : xW p l e R s m args below meth c H locs cells slots Q (F0 m pc ls rest) q := by
  intro T hT X
  have hpl : e.platform.magicAccessors = ({} : Platform).magicAccessors := by rw [X.admits.platform]
  have conv : ∀ (b : Bool) (y : ExceptionTableEntry), x_w s args own ce.cls pc b y → x_is e.platform s m.cls ce.cls pc b y := by
    intro b y ⟨h1, h2, nm, cn, h3, h4, h5⟩
    obtain ⟨c6, hc6, hcl6⟩ := Cond.classLink_spec hown h3 e.platform hpl
    cases Option.some.inj (h4.symm.trans hc6)
    exact ⟨h1, h2, cn, hcl6, h5⟩
  have hobj : ∀ k, ce.vm ≠ .statics k := fun k h => by rw [hv] at h; cases h
  obtain ⟨vm1, hW1, hq⟩ := x_rows (e := e) (f := F0 m pc ls rest) (a := q) hobj hk0 x suf (conv true x hx) ps ((T.setTop (F0 m pc ls rest)).pushFrame (.throwing q)) X.warmed (by show T.heap[q]? = some ce; rw [hT]; exact hcell) (fun y hy => conv false y (hps y hy))
  have hf : xf e ((T.setTop (F0 m pc ls rest)).pushFrame (.throwing q)) (F0 m pc ls rest) q (.found x.handlerPc) vm1 := fun Q E d acts => by
    rw [Jvm.W.findHandler_eq (meth := meth) (code := c) X.method' X.code, hsplit]
    exact hq Q E d acts
  obtain ⟨t, a1, b1⟩ := kk (T.setVm vm1) hT (X.noted hW1)
  exact ⟨t, x_caught X.here hf a1, b1⟩
/-- what the end of a method that may throw says -/
def xQ (Qc : Array Value → State → Outcome → State → Prop) (XC : Array Value → State → Addr → State → Prop) (mc ms : Nat) (free : Addr → Prop) : Array Value → State → Outcome → State → Prop := fun a st o t =>
  (∃ L, st.WarmedH t.vm ∧ st.sameButNew ({ t with vm := st.vm } : State) L mc ms ∧ ∀ z ∈ L, free z.base) ∧ ((∃ v, o = .returned v ∧ Qc a st o t) ∨ ∃ q, o = .threw q ∧ XC a st q t)
/-- a method that returns or throws -/
def xM (l : Launch) (y : MethodName) (ws : List Cond) (rm : Room) (Pc : Array Value → State → Prop) (Qc : Array Value → State → Outcome → State → Prop) (XC : Array Value → State → Addr → State → Prop) (mc ms : Nat) (free : Addr → Prop) : Prop :=
  MetFree l y (headSpec ws rm) Pc (fun _ _ _ _ _ => True) (xQ Qc XC mc ms free)
def xMQ (below : List Frame) (Qc : Array Value → State → Outcome → State → Prop) (XC : Array Value → State → Addr → State → Prop) (a : Array Value) (s : State) (mc ms : Nat) (free : Addr → Prop) : State → Prop := fun t => ∃ o, t.status = .running ∧ Ended t below o ∧ xQ Qc XC mc ms free a s o t
theorem xM_of {y : MethodName} {ws ws' : List Cond} {rm : Room} {Pc : Array Value → State → Prop} {Qc : Array Value → State → Outcome → State → Prop} {XC : Array Value → State → Addr → State → Prop} {mc ms : Nat} {free : Addr → Prop} {cc : ByteArray} {maxL : Nat} {ret : Option FieldType} (hy : plainName y.cls = true) (hw : ws = Cond.code y cc maxL ret :: ws')
    (body : ∀ (p : Program) (e : Env) (s : State) (m : MethodId) (args : Array Value) (below : List Frame) (meth : Method) (c : Code) (s₁ : State), BodyLoose p l y (headSpec ws rm) cc maxL ret e s m args below meth c s₁ → c.maxLocals = maxL → c.exceptionTable.toList = [] → Pc args s → W p l e rm s m args below meth c s.heap [] 0 0 (xMQ below Qc XC args s mc ms free) (entryFrame m args maxL)) : xM l y ws rm Pc Qc XC mc ms free := by
  refine MetFree.of_bodyS (code := cc) (maxLocals := maxL) (ret := ret) hy ?_ ?_
  · intro args s m h hn
    obtain ⟨meth, c, h1, h2, h3, h4, h5, h6, -, -⟩ := Cond.code_spec hn (atoms_spec (ws := ws) h _ (by rw [hw]; exact List.mem_cons_self))
    exact ⟨meth, c, h1, h2, h3, h4, h5, h6⟩
  · intro p e s m args below meth c s₁ B hml hP _
    have hh0 : s₁.heap = s.heap := by rw [B.state]; rfl
    have ht : c.exceptionTable.toList = [] := by
      obtain ⟨meth9, c9, h1, h2, -, -, -, -, h7, -⟩ := Cond.code_spec B.named (atoms_spec (ws := ws) B.pre _ (by rw [hw]; exact List.mem_cons_self))
      cases Option.some.inj (h1.symm.trans B.method)
      cases Option.some.inj (h2.symm.trans (Stand.of_body B).code)
      rw [Array.isEmpty_iff.mp h7]
    obtain ⟨t, a1, o, b1, b2, b3⟩ := body p e s m args below meth c s₁ B hml ht hP s₁ hh0 (Stand.of_body B)
    exact ⟨t, o, a1, b1, b2, b3⟩
/-- an ordinary return of a method that may throw -/
theorem x_ret {Qc : Array Value → State → Outcome → State → Prop} {XC : Array Value → State → Addr → State → Prop} {mc ms : Nat} {free : Addr → Prop} {g : JFrame} (k : W p l e R s m args below meth c H locs cells slots (MQ below Qc args s mc ms free) g) : W p l e R s m args below meth c H locs cells slots (xMQ below Qc XC args s mc ms free) g := by
  intro T hT X
  obtain ⟨t, a1, o, b1, b2, b3, L, ⟨⟨v, hv⟩, hW, hs⟩, hL⟩ := k T hT X
  exact ⟨t, a1, o, b1, b2, ⟨L, hW, hs, hL⟩, Or.inl ⟨v, hv, b3⟩⟩
end XW
