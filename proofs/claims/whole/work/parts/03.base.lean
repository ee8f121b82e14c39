/-! a system's cells as a picture: int fields, long fields, int arrays, long arrays, each by a number of ours -/
abbrev ZS : Type := (Nat → Int32) × (Nat → Int64) × (Nat → Nat → Int32) × (Nat → Nat → Int64)
def fI (u : ZS) (k : Nat) : Int32 := u.1 k
def fJ (u : ZS) (k : Nat) : Int64 := u.2.1 k
def aI (u : ZS) (k : Nat) : Nat → Int32 := u.2.2.1 k
def aJ (u : ZS) (k : Nat) : Nat → Int64 := u.2.2.2 k
def sI (u : ZS) (k : Nat) (v : Int32) : ZS := (fun j => if j = k then v else u.1 j, u.2)
def sJ (u : ZS) (k : Nat) (v : Int64) : ZS := (u.1, fun j => if j = k then v else u.2.1 j, u.2.2)
def pI (u : ZS) (k i : Nat) (v : Int32) : ZS := (u.1, u.2.1, fun j => if j = k then upd (u.2.2.1 k) i v else u.2.2.1 j, u.2.2.2)
def pJ (u : ZS) (k i : Nat) (v : Int64) : ZS := (u.1, u.2.1, u.2.2.1, fun j => if j = k then vp_updL (u.2.2.2 k) i v else u.2.2.2 j)
/-- the world w stands in H; what may be written is A -/
def zw (D : va_G) (A : Nat → Prop) (H0 : Heap) (w : va_W) (H : Heap) (locs : List Loc) : Prop := va_P D vwCl w H ∧ va_D A w ∧ va_S A H0 H locs ∧ ∀ q, H0.size ≤ q → A q
/-- what every walk of a method has in hand -/
def zx (p : Program) (R : Room) (s : State) (m : MethodId) (args : Array Value) (meth : Method) (c : Code) (cc : ByteArray) (nL fr lc : Nat) (own : String) (ret : Option FieldType) (Ts Ns : List Cond) (D : va_G) (tys : List (ClassId × FieldType)) : Prop :=
  p.tables.exec = Jvm.exec ∧ c.code = cc ∧ c.maxLocals = nL ∧ s.vm.findClass own = some m.cls ∧ (∀ w ∈ Ts, w.before args s = true) ∧ (∀ w ∈ Ns, va_Nw w s) ∧ va_K D vwCl tys s ∧ meth.sig.returnType = ret ∧ meth.locks = false ∧ fr ≤ R.frames ∧ lc ≤ R.locals
def zP (D : va_G) (tys : List (ClassId × FieldType)) (Ns : List Cond) (wf : ZS → va_W) (sz : Nat) (u : ZS) (U : State) : Prop := U.heap.size = sz ∧ va_P D vwCl (wf u) U.heap ∧ va_K D vwCl tys U ∧ va_D (fun _ => True) (wf u) ∧ ∀ w ∈ Ns, va_Nw w U
def zE (D : va_G) (tys : List (ClassId × FieldType)) (wf : ZS → va_W) (A : Nat → Prop) (u : ZS) (t : State) : Prop := va_P D vwCl (wf u) t.heap ∧ va_K D vwCl tys t ∧ va_D A (wf u)
/-- contracts over a picture: from the picture u, with these arguments, the method returns and 'post' holds of its answer and the new picture -/
def zI (l : Launch) (y : MethodName) (ws : List Cond) (rm : Room) (D : va_G) (tys : List (ClassId × FieldType)) (Ns : List Cond) (wf : ZS → va_W) (av : List Value) (u : ZS) (post : Int32 → ZS → Prop) : Prop :=
  ∀ sz : Nat, Met l y ws rm (va_Pc av (zP D tys Ns wf sz u)) (va_Qi post (zE D tys wf (va_A (wf u) sz)) (va_A (wf u) sz)) 0 0 (va_A (wf u) sz)
def zJ (l : Launch) (y : MethodName) (ws : List Cond) (rm : Room) (D : va_G) (tys : List (ClassId × FieldType)) (Ns : List Cond) (wf : ZS → va_W) (av : List Value) (u : ZS) (post : Int64 → ZS → Prop) : Prop :=
  ∀ sz : Nat, Met l y ws rm (va_Pc av (zP D tys Ns wf sz u)) (va_Ql post (zE D tys wf (va_A (wf u) sz)) (va_A (wf u) sz)) 0 0 (va_A (wf u) sz)
def zV (l : Launch) (y : MethodName) (ws : List Cond) (rm : Room) (D : va_G) (tys : List (ClassId × FieldType)) (Ns : List Cond) (wf : ZS → va_W) (av : List Value) (u : ZS) (post : ZS → Prop) : Prop :=
  ∀ sz : Nat, Met l y ws rm (va_Pc av (zP D tys Ns wf sz u)) (va_Qv post (zE D tys wf (va_A (wf u) sz)) (va_A (wf u) sz)) 0 0 (va_A (wf u) sz)
/-- words of a nest stay true in warmer tables -/
def zn : Cond → Bool
  | .fieldLinkNest .. => true
  | .methodLinkNest .. => true
  | _ => false
theorem zn_warm {w : Cond} (hw : zn w = true) {s U : State} (hW : s.WarmedH U.vm) (h : va_Nw w s) : va_Nw w U := by
  cases w <;> first | exact va_Nw.warmF hW h | exact va_Nw.warmM hW h | exact absurd hw (by simp [zn])
section ZBody
variable {l : Launch} {y : MethodName} {cc : ByteArray} {maxL : Nat} {rm : Room} {D : va_G} {tys : List (ClassId × FieldType)} {Ts Ns : List Cond} {wf : ZS → va_W} {av : List Value} {u : ZS}
theorem zI_of {post : Int32 → ZS → Prop} {ret : Option FieldType} (hy : plainName y.cls = true) (hlen : (lg_sl av).length ≤ maxL)
    (body : ∀ (p : Program) (e : Env) (s : State) (m : MethodId) (args : Array Value) (below : List Frame) (meth : Method) (c : Code) (ls : Array Slot) (A : Nat → Prop), zx p rm s m args meth c cc maxL rm.frames rm.locals y.cls ret Ts Ns D tys → zw D A s.heap (wf u) s.heap [] → lv_has ls maxL (lv_args 0 av) →
      W p l e rm s m args below meth c s.heap [] 0 0 (MQ below (va_Qi post (zE D tys wf A) A) args s 0 0 A) (F0 m 0 ls [])) : zI l y (Cond.code y cc maxL ret :: Ts) rm D tys Ns wf av u post := by
  intro sz
  refine Met.ofW (cc := cc) (maxL := maxL) (ret := ret) hy rfl ?_
  intro p e s m args below meth c s₁ B hml hv
  obtain ⟨rfl, hsz, hP, hK, hD0, hN⟩ := hv
  have hts := atoms_spec (ws := Cond.code y cc maxL ret :: Ts) B.pre
  have hown : s.vm.findClass y.cls = some m.cls := findClass_of_methodNamed B.named
  subst hsz
  have hl := lv_entry av (n := maxL) hlen
  rw [lg_entry_eq]
  exact body p e s m _ below meth c _ _ ⟨B.exec, B.bytes, hml, hown, fun w h => hts w (List.mem_cons_of_mem _ h), hN, hK, B.returns, B.notSynchronized, Nat.le_refl _, Nat.le_refl _⟩ ⟨hP, hD0.self, va_S.rf, fun q h => Or.inr h⟩ hl
theorem zJ_of {post : Int64 → ZS → Prop} {ret : Option FieldType} (hy : plainName y.cls = true) (hlen : (lg_sl av).length ≤ maxL)
    (body : ∀ (p : Program) (e : Env) (s : State) (m : MethodId) (args : Array Value) (below : List Frame) (meth : Method) (c : Code) (ls : Array Slot) (A : Nat → Prop), zx p rm s m args meth c cc maxL rm.frames rm.locals y.cls ret Ts Ns D tys → zw D A s.heap (wf u) s.heap [] → lv_has ls maxL (lv_args 0 av) →
      W p l e rm s m args below meth c s.heap [] 0 0 (MQ below (va_Ql post (zE D tys wf A) A) args s 0 0 A) (F0 m 0 ls [])) : zJ l y (Cond.code y cc maxL ret :: Ts) rm D tys Ns wf av u post := by
  intro sz
  refine Met.ofW (cc := cc) (maxL := maxL) (ret := ret) hy rfl ?_
  intro p e s m args below meth c s₁ B hml hv
  obtain ⟨rfl, hsz, hP, hK, hD0, hN⟩ := hv
  have hts := atoms_spec (ws := Cond.code y cc maxL ret :: Ts) B.pre
  have hown : s.vm.findClass y.cls = some m.cls := findClass_of_methodNamed B.named
  subst hsz
  have hl := lv_entry av (n := maxL) hlen
  rw [lg_entry_eq]
  exact body p e s m _ below meth c _ _ ⟨B.exec, B.bytes, hml, hown, fun w h => hts w (List.mem_cons_of_mem _ h), hN, hK, B.returns, B.notSynchronized, Nat.le_refl _, Nat.le_refl _⟩ ⟨hP, hD0.self, va_S.rf, fun q h => Or.inr h⟩ hl
theorem zV_of {post : ZS → Prop} (hy : plainName y.cls = true) (hlen : (lg_sl av).length ≤ maxL)
    (body : ∀ (p : Program) (e : Env) (s : State) (m : MethodId) (args : Array Value) (below : List Frame) (meth : Method) (c : Code) (ls : Array Slot) (A : Nat → Prop), zx p rm s m args meth c cc maxL rm.frames rm.locals y.cls none Ts Ns D tys → zw D A s.heap (wf u) s.heap [] → lv_has ls maxL (lv_args 0 av) →
      W p l e rm s m args below meth c s.heap [] 0 0 (MQ below (va_Qv post (zE D tys wf A) A) args s 0 0 A) (F0 m 0 ls [])) : zV l y (Cond.code y cc maxL none :: Ts) rm D tys Ns wf av u post := by
  intro sz
  refine Met.ofW (cc := cc) (maxL := maxL) (ret := none) hy rfl ?_
  intro p e s m args below meth c s₁ B hml hv
  obtain ⟨rfl, hsz, hP, hK, hD0, hN⟩ := hv
  have hts := atoms_spec (ws := Cond.code y cc maxL none :: Ts) B.pre
  have hown : s.vm.findClass y.cls = some m.cls := findClass_of_methodNamed B.named
  subst hsz
  have hl := lv_entry av (n := maxL) hlen
  rw [lg_entry_eq]
  exact body p e s m _ below meth c _ _ ⟨B.exec, B.bytes, hml, hown, fun w h => hts w (List.mem_cons_of_mem _ h), hN, hK, B.returns, B.notSynchronized, Nat.le_refl _, Nat.le_refl _⟩ ⟨hP, hD0.self, va_S.rf, fun q h => Or.inr h⟩ hl
end ZBody
section ZEnd
variable {p : Program} {l : Launch} {e : Env} {R : Room} {s : State} {m : MethodId} {args : Array Value} {below : List Frame} {meth : Method} {c : Code} {H : Heap} {locs : List Loc}
variable {cc : ByteArray} {pc kc ks : Nat} {ls : Array Slot} {D : va_G} {tys : List (ClassId × FieldType)} {wf : ZS → va_W} {A : Nat → Prop} {u : ZS}
theorem zret_i {post : Int32 → ZS → Prop} {v : Int32} (hx : p.tables.exec = Jvm.exec) (hb : c.code = cc) (hr : meth.sig.returnType = some .int) (hlk : meth.locks = false) (hK : va_K D vwCl tys s) (hI : zw D A s.heap (wf u) H locs) (h : post v u) (d : decode cc pc = .ok (.ireturn, 1)) :
    W p l e R s m args below meth c H locs kc ks (MQ below (va_Qi post (zE D tys wf A) A) args s kc ks A) (F0 m pc ls [.int v]) :=
  W.iret hx hb hr (fun t ht hW => ⟨⟨v, u, rfl, h, by rw [ht]; exact hI.1, va_K.moved hW.alike hK, hI.2.1⟩, hI.2.2.1.F ht⟩) hI.2.2.1.2.2 d hlk
theorem zret_z {post : Int32 → ZS → Prop} {v : Int32} (hx : p.tables.exec = Jvm.exec) (hb : c.code = cc) (hr : meth.sig.returnType = some .boolean) (hlk : meth.locks = false) (hK : va_K D vwCl tys s) (hI : zw D A s.heap (wf u) H locs) (hz : v = 0 ∨ v = 1) (h : post v u) (d : decode cc pc = .ok (.ireturn, 1)) :
    W p l e R s m args below meth c H locs kc ks (MQ below (va_Qi post (zE D tys wf A) A) args s kc ks A) (F0 m pc ls [.int v]) :=
  W.zret hx hb hr (by rcases hz with rfl | rfl <;> decide) (fun t ht hW => ⟨⟨v, u, rfl, h, by rw [ht]; exact hI.1, va_K.moved hW.alike hK, hI.2.1⟩, hI.2.2.1.F ht⟩) hI.2.2.1.2.2 d hlk
theorem zret_l {post : Int64 → ZS → Prop} {v : Int64} (hx : p.tables.exec = Jvm.exec) (hb : c.code = cc) (hr : meth.sig.returnType = some .long) (hlk : meth.locks = false) (hK : va_K D vwCl tys s) (hI : zw D A s.heap (wf u) H locs) (h : post v u) (d : decode cc pc = .ok (.lreturn, 1)) :
    W p l e R s m args below meth c H locs kc ks (MQ below (va_Ql post (zE D tys wf A) A) args s kc ks A) (F0 m pc ls [.long v]) :=
  W.lret hx hb hr (fun t ht hW => ⟨⟨v, u, rfl, h, by rw [ht]; exact hI.1, va_K.moved hW.alike hK, hI.2.1⟩, hI.2.2.1.F ht⟩) hI.2.2.1.2.2 d hlk
theorem zret_v {post : ZS → Prop} (hx : p.tables.exec = Jvm.exec) (hb : c.code = cc) (hr : meth.sig.returnType = none) (hlk : meth.locks = false) (hK : va_K D vwCl tys s) (hI : zw D A s.heap (wf u) H locs) (h : post u) (d : decode cc pc = .ok (.return_, 1)) :
    W p l e R s m args below meth c H locs kc ks (MQ below (va_Qv post (zE D tys wf A) A) args s kc ks A) (F0 m pc ls []) :=
  W.vret hx hb hr (fun t ht hW => ⟨⟨u, rfl, h, by rw [ht]; exact hI.1, va_K.moved hW.alike hK, hI.2.1⟩, hI.2.2.1.F ht⟩) hI.2.2.1.2.2 d hlk
end ZEnd
section ZCall
variable {p : Program} {l : Launch} {e : Env} {R : Room} {s : State} {m : MethodId} {args : Array Value} {below : List Frame} {meth : Method} {c : Code} {H : Heap} {locs : List Loc} {cells slots : Nat} {Q : State → Prop}
variable {pc : Nat} {ls : Array Slot} {rest st0 : List Value} {a : Array Value} {D : va_G} {tys : List (ClassId × FieldType)} {Ns : List Cond} {wf : ZS → va_W} {A : Nat → Prop} {u : ZS}
theorem zn_on {w : Cond} (hw : zn w = true) : w.onTables = true := by
  cases w <;> first | rfl | exact absurd hw (by simp [zn])
theorem zP_blind (hz : ∀ w ∈ Ns, zn w = true) (av : List Value) (sz : Nat) : FrameBlind (va_Pc av (zP D tys Ns wf sz u)) := by
  intro a U g mk q
  obtain ⟨q0, q1, qP, qK, qD, qN⟩ := q
  exact ⟨q0, q1, qP, va_K.moved (u := U) (U := U.calling g mk a) (Vm.Alike.refl U.vm) qK, qD, fun w hw => va_Nw.same (u := U) (U := U.calling g mk a) (zn_on (hz w hw)) rfl (qN w hw)⟩
theorem z_preS (hz : ∀ w ∈ Ns, zn w = true) (hK : va_K D vwCl tys s) (hN : ∀ w ∈ Ns, va_Nw w s) (hI : zw D A s.heap (wf u) H locs) (av : List Value) : PreS s H (va_Pc av (zP D tys Ns wf H.size u)) av :=
  ⟨zP_blind hz av H.size, fun U hU hW => ⟨rfl, by rw [hU], by rw [hU]; exact hI.1, va_K.moved hW.alike hK, hI.2.1.weaken (fun _ _ _ _ => trivial), fun w hw => zn_warm (hz w hw) hW (hN w hw)⟩⟩
theorem z_preV (hz : ∀ w ∈ Ns, zn w = true) (hK : va_K D vwCl tys s) (hN : ∀ w ∈ Ns, va_Nw w s) (hI : zw D A s.heap (wf u) H locs) (q0 ci : Nat) {q : vw_C} {fs : List Value} {b : Nat} (hc : vwCl[ci]? = some q) (he : (wf u)[q0]? = some (b, .inr (ci, fs))) (av : List Value) : PreV s H q.1 b (va_Pc (.ref b :: av) (zP D tys Ns wf H.size u)) av :=
  ⟨zP_blind hz _ H.size, va_recv hK hI.1 hc he, (z_preS hz hK hN hI (.ref b :: av)).2⟩
theorem z_free (hI : zw D A s.heap (wf u) H locs) : ∀ q, va_A (wf u) H.size q → A q := by
  intro q h
  rcases h with ⟨k, e, h⟩ | h
  · exact hI.2.1.2 k (q, e) h
  · exact hI.2.2.2 q (Nat.le_trans hI.2.2.1.1 h)
theorem zr_i {post : Int32 → ZS → Prop} (hr : va_Run p l e R s m args below meth c H locs cells slots 0 0 (F0 m pc ls st0) rest (va_Qi post (zE D tys wf (va_A (wf u) H.size)) (va_A (wf u) H.size) a) (va_A (wf u) H.size)) (hI : zw D A s.heap (wf u) H locs)
    (kk : ∀ (r : Int32) (u1 : ZS) (H1 : Heap) (locs1 : List Loc), post r u1 → zw D A s.heap (wf u1) H1 locs1 → W p l e R s m args below meth c H1 locs1 cells slots Q (F0 m (pc + 3) ls (.int r :: rest))) : W p l e R s m args below meth c H locs cells slots Q (F0 m pc ls st0) :=
  va_calli hr hI.2.2.1 (fun q _ h => z_free hI q h) (z_free hI) (fun r u1 t H1 locs1 ht hvm hp hB _ _ hS => kk r u1 H1 locs1 hp ⟨by rw [← ht]; exact hB.1, hB.2.2.weaken (fun _ _ _ h => z_free hI _ h), hS, hI.2.2.2⟩)
theorem zr_l {post : Int64 → ZS → Prop} (hr : va_Run p l e R s m args below meth c H locs cells slots 0 0 (F0 m pc ls st0) rest (va_Ql post (zE D tys wf (va_A (wf u) H.size)) (va_A (wf u) H.size) a) (va_A (wf u) H.size)) (hI : zw D A s.heap (wf u) H locs)
    (kk : ∀ (r : Int64) (u1 : ZS) (H1 : Heap) (locs1 : List Loc), post r u1 → zw D A s.heap (wf u1) H1 locs1 → W p l e R s m args below meth c H1 locs1 cells slots Q (F0 m (pc + 3) ls (.long r :: rest))) : W p l e R s m args below meth c H locs cells slots Q (F0 m pc ls st0) :=
  va_calll hr hI.2.2.1 (fun q _ h => z_free hI q h) (z_free hI) (fun r u1 t H1 locs1 ht hvm hp hB _ _ hS => kk r u1 H1 locs1 hp ⟨by rw [← ht]; exact hB.1, hB.2.2.weaken (fun _ _ _ h => z_free hI _ h), hS, hI.2.2.2⟩)
theorem zr_v {post : ZS → Prop} (hr : va_Run p l e R s m args below meth c H locs cells slots 0 0 (F0 m pc ls st0) rest (va_Qv post (zE D tys wf (va_A (wf u) H.size)) (va_A (wf u) H.size) a) (va_A (wf u) H.size)) (hI : zw D A s.heap (wf u) H locs)
    (kk : ∀ (u1 : ZS) (H1 : Heap) (locs1 : List Loc), post u1 → zw D A s.heap (wf u1) H1 locs1 → W p l e R s m args below meth c H1 locs1 cells slots Q (F0 m (pc + 3) ls rest)) : W p l e R s m args below meth c H locs cells slots Q (F0 m pc ls st0) :=
  va_callv hr hI.2.2.1 (fun q _ h => z_free hI q h) (z_free hI) (fun u1 t H1 locs1 ht hvm hp hB _ _ hS => kk u1 H1 locs1 hp ⟨by rw [← ht]; exact hB.1, hB.2.2.weaken (fun _ _ _ h => z_free hI _ h), hS, hI.2.2.2⟩)
end ZCall
/-- the tables' words that every contract may use -/
theorem zG_good : GoodIn zG zG := fun w h => ⟨h, good_of_word (List.mem_filter.mp h).2⟩
section ZGood
variable {own C : String} {idx n : Nat} {y : MethodName} {b : ByteArray} {r : Option FieldType}
theorem zg_c (h5 : Cond.code y b n r ∈ zG) : GoodIn zG (Cond.code y b n r :: zG) := fun w hw => (List.mem_cons.mp hw).elim (fun e => by rw [e]; exact zG_good _ h5) (fun h => zG_good w h)
theorem zg_V (h1 : Cond.methodLink own idx y ∈ zG) (h2 : Cond.instanceMethod y ∈ zG) (h3 : Cond.selects C y y ∈ zG) (h4 : Cond.initialized C ∈ zG) (h5 : Cond.code y b n r ∈ zG) : GoodIn zG (wsV own idx C y (Cond.code y b n r :: zG)) := by
  intro w hw
  unfold wsV at hw
  rcases List.mem_append.mp hw with h | h
  · simp only [List.mem_cons, List.not_mem_nil, or_false] at h
    rcases h with h | h | h | h <;> rw [h]
    · exact zG_good _ h1
    · exact zG_good _ h2
    · exact zG_good _ h3
    · exact zG_good _ h4
  · exact zg_c h5 w h
theorem zg_S (h1 : Cond.methodLink own idx y ∈ zG) (h2 : Cond.static y ∈ zG) (h3 : Cond.initialized y.cls ∈ zG) (h5 : Cond.code y b n r ∈ zG) : GoodIn zG (va_wsS own idx y (Cond.code y b n r :: zG)) := by
  intro w hw
  unfold va_wsS at hw
  rcases List.mem_append.mp hw with h | h
  · simp only [List.mem_cons, List.not_mem_nil, or_false] at h
    rcases h with h | h | h <;> rw [h]
    · exact zG_good _ h1
    · exact zG_good _ h2
    · exact zG_good _ h3
  · exact zg_c h5 w h
end ZGood
