/-! what held at the law's start and holds at every later state that has the same old cells and tables no colder -/
section XWords
variable {s0 U : State} {a0 args : Array Value}
/-- the old cells are as they were, the tables no colder -/
def xO (s0 U : State) : Prop := s0.WarmedH U.vm ∧ ∀ q : Nat, q < s0.heap.size → U.heap[q]? = s0.heap[q]?
theorem xO_size (h : xO s0 U) : s0.heap.size ≤ U.heap.size := by
  apply Classical.byContradiction
  intro hn
  have h1 := h.2 U.heap.size (by omega)
  rw [Array.getElem?_eq_none (Nat.le_refl _), Array.getElem?_eq_getElem (by omega)] at h1
  cases h1
theorem x_tab {w : Cond} (hw : w.onTables = true) (hk : w.keepsFace = true) (h : xO s0 U) (hs : w.before a0 s0 = true) : w.before args U = true :=
  va_tabs hw (rfl : (s0.setVm U.vm).vm = U.vm) (Cond.before_shiftedFace (State.Shifted.of_warmed h.1) w hk hs)
theorem x_str {own text : String} {k : Nat} (h : xO s0 U) (hs : (Cond.stringRef own k text).before a0 s0 = true) : (Cond.stringRef own k text).before args U = true :=
  Cond.stringRef_warmed h.1 hs
theorem x_lays {C n d : String} (h : xO s0 U) (hs : (Cond.laysStatic C n d).before a0 s0 = true) : (Cond.laysStatic C n d).before args U = true := by
  obtain ⟨c, k, i, f, a, cell, h1, h2, h3, h4, h5, h6, h7, h8, h9⟩ := Cond.laysStatic_spec hs
  obtain ⟨k', hi', he⟩ := State.fieldFound?_setVm h.1.alike h2
  exact Cond.laysStatic_of (by rw [h.1.alike.findClass]; exact h1) hi' h3 (by rw [he]; exact h4) (by rw [h.2 a (Array.getElem?_eq_some_iff.mp h5).1]; exact h5) h6 h7 h8 (by rw [he]; exact h9)
theorem x_refZ {C n d : String} {v : Value} {A : Nat → Prop} (h : va_Z C n d v A U U.heap) (hv : v.isRef = true) : (Cond.isRef (.static C n d)).before args U = true := by
  obtain ⟨cf, kf, fi, f, a, cell, h1, h2, h3, h4, h5, h6, h7, -⟩ := h
  have he : (Term.static C n d).eval args U none [] U = some v := by
    simp [Term.eval, State.fieldNamed?, h1, h2, h4, h5, h6, h7]
  simp only [Cond.before, Cond.holds, Cond.value, he]
  cases v <;> simp_all [Value.isRef]
theorem x_ref {C n d : String} (h : xO s0 U) (hl : (Cond.laysStatic C n d).before a0 s0 = true) (hi : (Cond.initialized C).before a0 s0 = true) (hs : (Cond.isRef (.static C n d)).before a0 s0 = true) : (Cond.isRef (.static C n d)).before args U = true := by
  have hz := va_Zqof (A := fun q => s0.heap.size ≤ q) hl hi hs (fun a ha => by omega)
  have hk : ∀ {v : Value}, va_Z C n d v (fun q => s0.heap.size ≤ q) s0 s0.heap → va_Z C n d v (fun q => s0.heap.size ≤ q) U U.heap := fun hz =>
    va_Z.moved h.1.alike (va_Z.kept hz (fun a ha hna => h.2 a ha))
  rcases hz with hz | ⟨t, hz⟩
  · exact x_refZ (hk hz) rfl
  · exact x_refZ (hk hz) rfl
end XWords
/-- the steps of the scale -/
def sc_F (j : Nat) : Int32 := ([20, 50, 90, 130, 170, 220, 270, 320, 370, 430, 500, 600, 750, 900, 1100, 1300, 1500, 1750, 2000] : List Int32).getD j 0
/-- what the law's start says: the tables' words, the statics that an exception reads, the steps of the scale -/
def xF (s0 : State) : Prop := ∃ a0 : Array Value, (∀ w ∈ lw_tbl, w.before a0 s0 = true) ∧ (Cond.isRef (.static "java/lang/Throwable" "UNASSIGNED_STACK" "[Ljava/lang/StackTraceElement;")).before a0 s0 = true ∧ (Cond.isRef (.static "java/lang/Throwable" "SUPPRESSED_SENTINEL" "Ljava/util/List;")).before a0 s0 = true ∧
  ∃ t : Nat, va_Z "ShortBridge$Scoring" "STEPS" "[I" (.ref t) (fun q => s0.heap.size ≤ q) s0 s0.heap ∧ va_T .int t 19 (fun j => .int (sc_F j)) (fun q => s0.heap.size ≤ q) s0 s0.heap
/-- a word of a throw: one of the tables that stays, a String constant, or one of the two statics -/
def x_ok (w : Cond) : Bool := (w.onTables && w.keepsFace && decide (w ∈ lw_tbl)) || (match w with
  | .stringRef .. => decide (w ∈ lw_tbl)
  | .laysStatic .. => decide (w ∈ lw_tbl)
  | .isRef t => decide (w = .isRef (.static "java/lang/Throwable" "UNASSIGNED_STACK" "[Ljava/lang/StackTraceElement;")) || decide (w = .isRef (.static "java/lang/Throwable" "SUPPRESSED_SENTINEL" "Ljava/util/List;"))
  | _ => false)
theorem x_wl1 : Cond.laysStatic "java/lang/Throwable" "UNASSIGNED_STACK" "[Ljava/lang/StackTraceElement;" ∈ lw_tbl := List.mem_of_getElem? (i := 372) (by decide +kernel)
theorem x_wl2 : Cond.laysStatic "java/lang/Throwable" "SUPPRESSED_SENTINEL" "Ljava/util/List;" ∈ lw_tbl := List.mem_of_getElem? (i := 374) (by decide +kernel)
theorem x_wl3 : Cond.initialized "java/lang/Throwable" ∈ lw_tbl := List.mem_of_getElem? (i := 45) (by decide +kernel)
theorem x_word {s0 U : State} {args : Array Value} (hF : xF s0) (hO : xO s0 U) {w : Cond} (hw : x_ok w = true) : w.before args U = true := by
  obtain ⟨a0, h1, h2, h3, -⟩ := hF
  unfold x_ok at hw
  rcases Bool.or_eq_true _ _ ▸ hw with h | h
  · simp only [Bool.and_eq_true, decide_eq_true_eq] at h
    exact x_tab h.1.1 h.1.2 hO (h1 w h.2)
  · cases w with
    | stringRef own k text => simp only [decide_eq_true_eq] at h; exact x_str hO (h1 _ h)
    | laysStatic C n d => simp only [decide_eq_true_eq] at h; exact x_lays hO (h1 _ h)
    | isRef t =>
      simp only [Bool.or_eq_true, decide_eq_true_eq] at h
      rcases h with h | h
      · cases h; exact x_ref hO (h1 _ x_wl1) (h1 _ x_wl3) h2
      · cases h; exact x_ref hO (h1 _ x_wl2) (h1 _ x_wl3) h3
    | _ => simp at h
/-- how a method of the component has thrown: which exception, over which picture -/
def xC (D : va_G) (ad : Nat → Nat) (ca : Nat → ClassId) (A : Nat → Prop) (exc : String → ZS → Prop) : Array Value → State → Addr → State → Prop := fun _ st q t =>
  ∃ (E : String) (u1 : ZS) (ce : Cell), exc E u1 ∧ t.heap[q]? = some ce ∧ ce.vm = .none ∧ st.vm.findClass E = some ce.cls ∧ zE D (cT ca) (cW ad ca) A u1 t ∧ va_F A st t
/-- what a walk has in hand besides, where it may throw or reads the scale -/
def xX (l : Launch) (R : Room) (c : Code) (s0 s : State) (A : Nat → Prop) : Prop := xF s0 ∧ xO s0 s ∧ (∀ q, A q → s0.heap.size ≤ q) ∧ l.stackTraces = false ∧ c.exceptionTable.toList = [] ∧ 1 ≤ R.cells ∧ 6 ≤ R.slots
theorem cW_ad {ad : Nat → Nat} {ca : Nat → ClassId} {u : ZS} {k : Nat} {q : Nat × va_E} (h : (cW ad ca u)[k]? = some q) : ∃ j, q.1 = ad j := by
  match k, h with
  | 0, h => cases h; exact ⟨_, rfl⟩
  | 1, h => cases h; exact ⟨_, rfl⟩
  | 2, h => cases h; exact ⟨_, rfl⟩
  | 3, h => cases h; exact ⟨_, rfl⟩
  | 4, h => cases h; exact ⟨_, rfl⟩
  | 5, h => cases h; exact ⟨_, rfl⟩
  | 6, h => cases h; exact ⟨_, rfl⟩
  | 7, h => cases h; exact ⟨_, rfl⟩
  | 8, h => cases h; exact ⟨_, rfl⟩
  | 9, h => cases h; exact ⟨_, rfl⟩
  | 10, h => cases h; exact ⟨_, rfl⟩
  | 11, h => cases h; exact ⟨_, rfl⟩
  | 12, h => cases h; exact ⟨_, rfl⟩
  | 13, h => cases h; exact ⟨_, rfl⟩
  | 14, h => cases h; exact ⟨_, rfl⟩
  | k + 15, h => cases h
theorem xA_old {s0 s : State} {ad : Nat → Nat} {ca : Nat → ClassId} {u : ZS} (had : ∀ k, s0.heap.size ≤ ad k) (hO : xO s0 s) : ∀ q, va_A (cW ad ca u) s.heap.size q → s0.heap.size ≤ q := by
  intro q h
  rcases h with ⟨k, e, h⟩ | h
  · obtain ⟨j, hj⟩ := cW_ad h
    simp only at hj
    rw [hj]; exact had j
  · exact Nat.le_trans (xO_size hO) h
section XRun
variable {p : Program} {l : Launch} {e : Env} {R : Room} {s0 s : State} {m : MethodId} {args : Array Value} {below : List Frame} {meth : Method} {c : Code} {H : Heap} {locs : List Loc} {A : Nat → Prop} {D : va_G} {ad : Nat → Nat} {ca : Nat → ClassId} {u : ZS}
theorem x_now (hX : xX l R c s0 s A) (hS : va_S A s.heap H locs) {U : State} (h1 : U.vm = s.vm) (h2 : U.heap = H) : xO s0 U :=
  ⟨by rw [h1]; exact hX.2.1.1, fun q hq => by rw [h2, hS.2.1 q (Nat.lt_of_lt_of_le hq (xO_size hX.2.1)) (fun h => by have := hX.2.2.1 q h; omega)]; exact hX.2.1.2 q hq⟩
theorem x_at (hX : xX l R c s0 s A) (hS : va_S A s.heap H locs) {ws : List Cond} (hw : ws.all x_ok = true) : ∀ U : State, U.vm = s.vm → U.heap = H → ∀ w ∈ ws, w.before args U = true :=
  fun U h1 h2 w h => x_word hX.1 (x_now hX hS h1 h2) (List.all_eq_true.mp hw w h)
theorem x_mk {exc : String → ZS → Prop} {E : String} (hK : va_K D vwCl (cT ca) s) (hI : zw D A s.heap (cW ad ca u) H locs) (h : exc E u) (a : Array Value) (q : Addr) (ce : Cell) (t : State) (h1 : t.heap[q]? = some ce) (h2 : ce.vm = .none) (h3 : s.vm.findClass E = some ce.cls) (h4 : s.vm.Alike t.vm) (h5 : H.size ≤ t.heap.size) (h6 : ∀ z : Nat, z < H.size → t.heap[z]? = H[z]?) : xC D ad ca A exc a s q t :=
  ⟨E, u, ce, h, h1, h2, h3, ⟨hI.1.kept (fun k q hk => h6 _ (hI.1 k q hk).lt), va_K.moved h4 hK, hI.2.1⟩, Nat.le_trans hI.2.2.1.1 h5, fun z hz hn => by rw [h6 z (Nat.lt_of_lt_of_le hz hI.2.2.1.1)]; exact hI.2.2.1.2.1 z hz hn⟩
end XRun
/-- a body that may throw gives its contract -/
theorem x_of {l : Launch} {y : MethodName} {cc : ByteArray} {maxL : Nat} {rm : Room} {D : va_G} {av : List Value} {u : ZS} {s0 : State} {ad : Nat → Nat} {ca : Nat → ClassId} {ret : Option FieldType} {exc : String → ZS → Prop} {Qf : (Nat → Prop) → Array Value → State → Outcome → State → Prop} (htr : l.stackTraces = false) (hF : xF s0) (had : ∀ k, s0.heap.size ≤ ad k) (hc1 : 1 ≤ rm.cells) (hs6 : 6 ≤ rm.slots) (hy : plainName y.cls = true) (hlen : (lg_sl av).length ≤ maxL)
    (body : ∀ (p : Program) (e : Env) (s : State) (m : MethodId) (args : Array Value) (below : List Frame) (meth : Method) (c : Code) (ls : Array Slot) (A : Nat → Prop), zx p rm s m args meth c cc maxL rm.frames rm.locals y.cls ret zG zNs D (cT ca) → xX l rm c s0 s A → zw D A s.heap (cW ad ca u) s.heap [] → lv_has ls maxL (lv_args 0 av) →
      W p l e rm s m args below meth c s.heap [] 0 0 (xMQ below (Qf A) (xC D ad ca A exc) args s 1 6 A) (F0 m 0 ls [])) (sz : Nat) :
    xM l y (Cond.code y cc maxL ret :: zG) rm (va_Pc av (fun U => zP D (cT ca) zNs (cW ad ca) sz u U ∧ xO s0 U)) (Qf (va_A (cW ad ca u) sz)) (xC D ad ca (va_A (cW ad ca u) sz) exc) 1 6 (va_A (cW ad ca u) sz) := by
  refine xM_of (cc := cc) (maxL := maxL) (ret := ret) hy rfl ?_
  intro p e s m args below meth c s₁ B hml hout hv
  obtain ⟨rfl, ⟨hsz, hP, hK, hD0, hN⟩, hO⟩ := hv
  have hts := atoms_spec (ws := Cond.code y cc maxL ret :: zG) B.pre
  have hown : s.vm.findClass y.cls = some m.cls := findClass_of_methodNamed B.named
  subst hsz
  have hl := lv_entry av (n := maxL) hlen
  rw [lg_entry_eq]
  exact body p e s m _ below meth c _ _ ⟨B.exec, B.bytes, hml, hown, fun w h => hts w (List.mem_cons_of_mem _ h), hN, hK, B.returns, B.notSynchronized, Nat.le_refl _, Nat.le_refl _⟩ ⟨hF, hO, xA_old had hO, htr, hout, hc1, hs6⟩ ⟨hP, hD0.self, va_S.rf, fun q h => Or.inr h⟩ hl
