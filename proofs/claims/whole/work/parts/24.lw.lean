/-! the law's world: the component, the model, the array out -/
abbrev ZL : Type := ZS × ZS × (Nat → Int64)
def lW (ad : Nat → Nat) (ca : Nat → ClassId) (bd : Nat → Nat) (cb : Nat → ClassId) (od : Nat) (oc : ClassId) (w : ZL) : va_W := cW ad ca w.1 ++ (mW bd cb w.2.1 ++ [(od, .inl (oc, 1, .inr (.inl w.2.2)))])
def lT (ca cb : Nat → ClassId) (oc : ClassId) : List (ClassId × FieldType) := cT ca ++ (mT cb ++ [(oc, .long)])
def lP (D : va_G) (ad : Nat → Nat) (ca : Nat → ClassId) (bd : Nat → Nat) (cb : Nat → ClassId) (od : Nat) (oc : ClassId) (sz : Nat) (w : ZL) (U : State) : Prop := U.heap.size = sz ∧ va_P D vwCl (lW ad ca bd cb od oc w) U.heap ∧ va_K D vwCl (lT ca cb oc) U ∧ va_D (fun _ => True) (lW ad ca bd cb od oc w) ∧ ∀ x ∈ zNs, va_Nw x U
def lE (D : va_G) (ad : Nat → Nat) (ca : Nat → ClassId) (bd : Nat → Nat) (cb : Nat → ClassId) (od : Nat) (oc : ClassId) (A : Nat → Prop) (w : ZL) (t : State) : Prop := va_P D vwCl (lW ad ca bd cb od oc w) t.heap ∧ va_K D vwCl (lT ca cb oc) t ∧ va_D A (lW ad ca bd cb od oc w)
section LJoin
variable {D : va_G} {A : Nat → Prop} {H0 H H1 : Heap} {locs locs1 : List Loc} {ad bd : Nat → Nat} {ca cb : Nat → ClassId} {od : Nat} {oc : ClassId} {w : ZL}
theorem lc_sub (hI : zw D A H0 (lW ad ca bd cb od oc w) H locs) : zw D A H0 (cW ad ca w.1) H locs :=
  ⟨hI.1.sub [0, 1, 2, 3, 4, 5, 6, 7, 8, 9, 10, 11, 12, 13, 14] rfl, hI.2.1.sub [0, 1, 2, 3, 4, 5, 6, 7, 8, 9, 10, 11, 12, 13, 14] (by decide) rfl, hI.2.2.1, hI.2.2.2⟩
theorem lm_sub (hI : zw D A H0 (lW ad ca bd cb od oc w) H locs) : zw D A H0 (mW bd cb w.2.1) H locs :=
  ⟨hI.1.sub [15, 16, 17, 18, 19, 20, 21, 22, 23, 24, 25, 26, 27, 28] rfl, hI.2.1.sub [15, 16, 17, 18, 19, 20, 21, 22, 23, 24, 25, 26, 27, 28] (by decide) rfl, hI.2.2.1, hI.2.2.2⟩
theorem lc_join (hI : zw D A H0 (lW ad ca bd cb od oc w) H locs) {u1 : ZS} (hk : ∀ q : Nat, q < H.size → ¬ va_A (cW ad ca w.1) H.size q → H1[q]? = H[q]?) (hP1 : va_P D vwCl (cW ad ca u1) H1) (hD1 : va_D (va_A (cW ad ca w.1) H.size) (cW ad ca u1)) (hS : va_S A H0 H1 locs1) : zw D A H0 (lW ad ca bd cb od oc (u1, w.2)) H1 locs1 := by
  have hF := va_free (wc := cW ad ca w.1) hI.2.1 hI.2.2.1 hI.2.2.2 [0, 1, 2, 3, 4, 5, 6, 7, 8, 9, 10, 11, 12, 13, 14] rfl
  obtain ⟨hP, hD⟩ := va_join (wr := mW bd cb w.2.1 ++ [(od, .inl (oc, 1, .inr (.inl w.2.2)))]) (w1 := cW ad ca u1) hI.1 hI.2.1 [0, 1, 2, 3, 4, 5, 6, 7, 8, 9, 10, 11, 12, 13, 14] [15, 16, 17, 18, 19, 20, 21, 22, 23, 24, 25, 26, 27, 28, 29] rfl rfl (by decide) (by decide) hk hF hP1 hD1
  exact ⟨hP.sub [15, 16, 17, 18, 19, 20, 21, 22, 23, 24, 25, 26, 27, 28, 29, 0, 1, 2, 3, 4, 5, 6, 7, 8, 9, 10, 11, 12, 13, 14] rfl, hD.sub [15, 16, 17, 18, 19, 20, 21, 22, 23, 24, 25, 26, 27, 28, 29, 0, 1, 2, 3, 4, 5, 6, 7, 8, 9, 10, 11, 12, 13, 14] (by decide) rfl, hS, hI.2.2.2⟩
theorem lm_join (hI : zw D A H0 (lW ad ca bd cb od oc w) H locs) {v1 : ZS} (hk : ∀ q : Nat, q < H.size → ¬ va_A (mW bd cb w.2.1) H.size q → H1[q]? = H[q]?) (hP1 : va_P D vwCl (mW bd cb v1) H1) (hD1 : va_D (va_A (mW bd cb w.2.1) H.size) (mW bd cb v1)) (hS : va_S A H0 H1 locs1) : zw D A H0 (lW ad ca bd cb od oc (w.1, v1, w.2.2)) H1 locs1 := by
  have hF := va_free (wc := mW bd cb w.2.1) hI.2.1 hI.2.2.1 hI.2.2.2 [15, 16, 17, 18, 19, 20, 21, 22, 23, 24, 25, 26, 27, 28] rfl
  obtain ⟨hP, hD⟩ := va_join (wr := cW ad ca w.1 ++ [(od, .inl (oc, 1, .inr (.inl w.2.2)))]) (w1 := mW bd cb v1) hI.1 hI.2.1 [15, 16, 17, 18, 19, 20, 21, 22, 23, 24, 25, 26, 27, 28] [0, 1, 2, 3, 4, 5, 6, 7, 8, 9, 10, 11, 12, 13, 14, 29] rfl rfl (by decide) (by decide) hk hF hP1 hD1
  exact ⟨hP.sub [0, 1, 2, 3, 4, 5, 6, 7, 8, 9, 10, 11, 12, 13, 14, 16, 17, 18, 19, 20, 21, 22, 23, 24, 25, 26, 27, 28, 29, 15] rfl, hD.sub [0, 1, 2, 3, 4, 5, 6, 7, 8, 9, 10, 11, 12, 13, 14, 16, 17, 18, 19, 20, 21, 22, 23, 24, 25, 26, 27, 28, 29, 15] (by decide) rfl, hS, hI.2.2.2⟩
theorem lKc {s : State} (h : va_K D vwCl (lT ca cb oc) s) : va_K D vwCl (cT ca) s := h.sub [0, 1, 2, 3, 4, 5, 6, 7, 8, 9] rfl
theorem lKm {s : State} (h : va_K D vwCl (lT ca cb oc) s) : va_K D vwCl (mT cb) s := h.sub [10, 11, 12, 13, 14, 15, 16, 17, 18, 19, 20, 21, 22] rfl
end LJoin
section LCall
variable {p : Program} {l : Launch} {e : Env} {R : Room} {s : State} {m : MethodId} {args : Array Value} {below : List Frame} {meth : Method} {c : Code} {H : Heap} {locs : List Loc} {cells slots : Nat} {Q : State → Prop}
variable {pc : Nat} {ls : Array Slot} {rest st0 : List Value} {a : Array Value} {D : va_G} {A : Nat → Prop} {ad bd : Nat → Nat} {ca cb : Nat → ClassId} {od : Nat} {oc : ClassId} {w : ZL}
theorem lc_i {post : Int32 → ZS → Prop} (hr : va_Run p l e R s m args below meth c H locs cells slots 0 0 (F0 m pc ls st0) rest (va_Qi post (zE D (cT ca) (cW ad ca) (va_A (cW ad ca w.1) H.size)) (va_A (cW ad ca w.1) H.size) a) (va_A (cW ad ca w.1) H.size)) (hI : zw D A s.heap (lW ad ca bd cb od oc w) H locs)
    (kk : ∀ (r : Int32) (u1 : ZS) (H1 : Heap) (locs1 : List Loc), post r u1 → zw D A s.heap (lW ad ca bd cb od oc (u1, w.2)) H1 locs1 → W p l e R s m args below meth c H1 locs1 cells slots Q (F0 m (pc + 3) ls (.int r :: rest))) : W p l e R s m args below meth c H locs cells slots Q (F0 m pc ls st0) :=
  va_calli hr hI.2.2.1 (fun q _ h => z_free (lc_sub hI) q h) (z_free (lc_sub hI)) (fun r u1 t H1 locs1 ht hvm hp hB _ hk hS => kk r u1 H1 locs1 hp (lc_join hI hk (by rw [← ht]; exact hB.1) hB.2.2 hS))
theorem lc_l {post : Int64 → ZS → Prop} (hr : va_Run p l e R s m args below meth c H locs cells slots 0 0 (F0 m pc ls st0) rest (va_Ql post (zE D (cT ca) (cW ad ca) (va_A (cW ad ca w.1) H.size)) (va_A (cW ad ca w.1) H.size) a) (va_A (cW ad ca w.1) H.size)) (hI : zw D A s.heap (lW ad ca bd cb od oc w) H locs)
    (kk : ∀ (r : Int64) (u1 : ZS) (H1 : Heap) (locs1 : List Loc), post r u1 → zw D A s.heap (lW ad ca bd cb od oc (u1, w.2)) H1 locs1 → W p l e R s m args below meth c H1 locs1 cells slots Q (F0 m (pc + 3) ls (.long r :: rest))) : W p l e R s m args below meth c H locs cells slots Q (F0 m pc ls st0) :=
  va_calll hr hI.2.2.1 (fun q _ h => z_free (lc_sub hI) q h) (z_free (lc_sub hI)) (fun r u1 t H1 locs1 ht hvm hp hB _ hk hS => kk r u1 H1 locs1 hp (lc_join hI hk (by rw [← ht]; exact hB.1) hB.2.2 hS))
theorem lm_i {post : Int32 → ZS → Prop} (hr : va_Run p l e R s m args below meth c H locs cells slots 0 0 (F0 m pc ls st0) rest (va_Qi post (zE D (mT cb) (mW bd cb) (va_A (mW bd cb w.2.1) H.size)) (va_A (mW bd cb w.2.1) H.size) a) (va_A (mW bd cb w.2.1) H.size)) (hI : zw D A s.heap (lW ad ca bd cb od oc w) H locs)
    (kk : ∀ (r : Int32) (v1 : ZS) (H1 : Heap) (locs1 : List Loc), post r v1 → zw D A s.heap (lW ad ca bd cb od oc (w.1, v1, w.2.2)) H1 locs1 → W p l e R s m args below meth c H1 locs1 cells slots Q (F0 m (pc + 3) ls (.int r :: rest))) : W p l e R s m args below meth c H locs cells slots Q (F0 m pc ls st0) :=
  va_calli hr hI.2.2.1 (fun q _ h => z_free (lm_sub hI) q h) (z_free (lm_sub hI)) (fun r u1 t H1 locs1 ht hvm hp hB _ hk hS => kk r u1 H1 locs1 hp (lm_join hI hk (by rw [← ht]; exact hB.1) hB.2.2 hS))
theorem lm_l {post : Int64 → ZS → Prop} (hr : va_Run p l e R s m args below meth c H locs cells slots 0 0 (F0 m pc ls st0) rest (va_Ql post (zE D (mT cb) (mW bd cb) (va_A (mW bd cb w.2.1) H.size)) (va_A (mW bd cb w.2.1) H.size) a) (va_A (mW bd cb w.2.1) H.size)) (hI : zw D A s.heap (lW ad ca bd cb od oc w) H locs)
    (kk : ∀ (r : Int64) (v1 : ZS) (H1 : Heap) (locs1 : List Loc), post r v1 → zw D A s.heap (lW ad ca bd cb od oc (w.1, v1, w.2.2)) H1 locs1 → W p l e R s m args below meth c H1 locs1 cells slots Q (F0 m (pc + 3) ls (.long r :: rest))) : W p l e R s m args below meth c H locs cells slots Q (F0 m pc ls st0) :=
  va_calll hr hI.2.2.1 (fun q _ h => z_free (lm_sub hI) q h) (z_free (lm_sub hI)) (fun r u1 t H1 locs1 ht hvm hp hB _ hk hS => kk r u1 H1 locs1 hp (lm_join hI hk (by rw [← ht]; exact hB.1) hB.2.2 hS))
theorem lm_v {post : ZS → Prop} (hr : va_Run p l e R s m args below meth c H locs cells slots 0 0 (F0 m pc ls st0) rest (va_Qv post (zE D (mT cb) (mW bd cb) (va_A (mW bd cb w.2.1) H.size)) (va_A (mW bd cb w.2.1) H.size) a) (va_A (mW bd cb w.2.1) H.size)) (hI : zw D A s.heap (lW ad ca bd cb od oc w) H locs)
    (kk : ∀ (v1 : ZS) (H1 : Heap) (locs1 : List Loc), post v1 → zw D A s.heap (lW ad ca bd cb od oc (w.1, v1, w.2.2)) H1 locs1 → W p l e R s m args below meth c H1 locs1 cells slots Q (F0 m (pc + 3) ls rest)) : W p l e R s m args below meth c H locs cells slots Q (F0 m pc ls st0) :=
  va_callv hr hI.2.2.1 (fun q _ h => z_free (lm_sub hI) q h) (z_free (lm_sub hI)) (fun u1 t H1 locs1 ht hvm hp hB _ hk hS => kk u1 H1 locs1 hp (lm_join hI hk (by rw [← ht]; exact hB.1) hB.2.2 hS))
/-- out[0] is read, is written -/
theorem lo_a {cc : ByteArray} (hx : p.tables.exec = Jvm.exec) (hb : c.code = cc) {i : Int32} (hK : va_K D vwCl (lT ca cb oc) s) (hI : zw D A s.heap (lW ad ca bd cb od oc w) H locs) (hi : vp_in i 1) (hd : decode cc pc = .ok (.laload, 1)) (kk : W p l e R s m args below meth c H locs cells slots Q (F0 m (pc + 1) ls (.long (w.2.2 i.toNatClampNeg) :: rest))) : W p l e R s m args below meth c H locs cells slots Q (F0 m pc ls (.int i :: .ref od :: rest)) :=
  va_lald hx hb hK hI.1 29 23 rfl rfl hi hd kk
theorem lo_s {cc : ByteArray} (hx : p.tables.exec = Jvm.exec) (hb : c.code = cc) {i : Int32} {x : Int64} (hK : va_K D vwCl (lT ca cb oc) s) (hI : zw D A s.heap (lW ad ca bd cb od oc w) H locs) (hi : vp_in i 1) (hd : decode cc pc = .ok (.lastore, 1)) (kk : ∀ (H1 : Heap) (locs1 : List Loc), zw D A s.heap (lW ad ca bd cb od oc (w.1, w.2.1, vp_updL w.2.2 i.toNatClampNeg x)) H1 locs1 → W p l e R s m args below meth c H1 locs1 cells slots Q (F0 m (pc + 1) ls rest)) : W p l e R s m args below meth c H locs cells slots Q (F0 m pc ls (.long x :: .int i :: .ref od :: rest)) :=
  va_last hx hb hK hI.1 hI.2.1 hI.2.2.1 29 23 rfl rfl hi hd (fun H1 locs1 hP hD hS => kk H1 locs1 ⟨hP, hD, hS, hI.2.2.2⟩)
end LCall
/-- which exception classes are not others: what the law's start says -/
def xN (s0 : State) : Prop := ∀ q ∈ ([("java/lang/IllegalArgumentException", "java/lang/IllegalStateException"), ("java/lang/UnsupportedOperationException", "java/lang/IllegalStateException"), ("java/lang/UnsupportedOperationException", "java/lang/IllegalArgumentException"), ("java/util/NoSuchElementException", "java/lang/IllegalStateException"), ("java/lang/UnsupportedOperationException", "java/util/NoSuchElementException")] : List (String × String)), va_Nc q.1 q.2 s0
section LHelp
variable {p : Program} {l : Launch} {e : Env} {R : Room} {s s0 : State} {m : MethodId} {args : Array Value} {below : List Frame} {meth : Method} {c : Code} {H H1 : Heap} {locs : List Loc} {kc ks : Nat} {cc : ByteArray} {pc : Nat} {ls : Array Slot} {D : va_G} {A : Nat → Prop} {ad bd : Nat → Nat} {ca cb : Nat → ClassId} {od : Nat} {oc : ClassId} {w : ZL}
theorem lret_i {post : Int32 → ZL → Prop} {v : Int32} (hx : p.tables.exec = Jvm.exec) (hb : c.code = cc) (hr : meth.sig.returnType = some .int) (hlk : meth.locks = false) (hK : va_K D vwCl (lT ca cb oc) s) (hI : zw D A s.heap (lW ad ca bd cb od oc w) H locs) (h : post v w) (d : decode cc pc = .ok (.ireturn, 1)) :
    W p l e R s m args below meth c H locs kc ks (MQ below (va_Qi post (lE D ad ca bd cb od oc A) A) args s kc ks A) (F0 m pc ls [.int v]) :=
  W.iret hx hb hr (fun t ht hW => ⟨⟨v, w, rfl, h, by rw [ht]; exact hI.1, va_K.moved hW.alike hK, hI.2.1⟩, hI.2.2.1.F ht⟩) hI.2.2.1.2.2 d hlk
theorem h_preV {u : ZS} (hO : xO s0 s) (hA0 : ∀ q, A q → s0.heap.size ≤ q) (hK : va_K D vwCl (cT ca) s) (hN : ∀ w ∈ zNs, va_Nw w s) (hI : zw D A s.heap (cW ad ca u) H locs) (av : List Value) : PreV s H "ShortBridge" (ad 0) (va_Pc (.ref (ad 0) :: av) (fun U => zP D (cT ca) zNs (cW ad ca) H.size u U ∧ xO s0 U)) av := by
  have h0 := z_preV zNs_ok hK hN hI 0 0 rfl rfl av
  refine ⟨fun a U g mk q => ⟨(h0.1 a U g mk ⟨q.1, q.2.1⟩).1, (h0.1 a U g mk ⟨q.1, q.2.1⟩).2, q.2.2⟩, h0.2.1, fun U hU hW => ⟨(h0.2.2 U hU hW).1, (h0.2.2 U hU hW).2, State.WarmedH.trans hO.1 hW, fun q hq => ?_⟩⟩
  rw [hU, hI.2.2.1.2.1 q (Nat.lt_of_lt_of_le hq (xO_size hO)) (fun h => by have := hA0 q h; omega)]
  exact hO.2 q hq
theorem l_keep {H0 : Heap} {st t : State} {L : List Loc} {A1 free : Nat → Prop} (h0 : st.heap = H) (ht : t.heap = H1) (hS : va_S A H0 H locs) (hA : ∀ q, A1 q → A q) (hL : ∀ q ∈ L, free q.base) (hf : ∀ q, free q → A q) (hF : va_F A1 st t) : (∀ q : Nat, q < H.size → ¬ A1 q → H1[q]? = H[q]?) ∧ va_S A H0 H1 (locs ++ L) := by
  obtain ⟨hz, hk⟩ := hF
  rw [h0, ht] at hz
  rw [h0, ht] at hk
  refine ⟨hk, Nat.le_trans hS.1 hz, fun q h1 h2 => ?_, fun q hq => ?_⟩
  · rw [hk q (Nat.lt_of_lt_of_le h1 hS.1) (fun z => h2 (hA q z))]
    exact hS.2.1 q h1 h2
  · rcases List.mem_append.mp hq with h | h
    · exact hS.2.2 q h
    · exact hf _ (hL q h)
/-- the row of the table that takes E -/
theorem x_take {own E : String} {ce : ClassId} {ex : ExceptionTableEntry} {lo hi hp ct : Nat} (hF : xF s0) (hO : xO s0 s) (hcl : s.vm.findClass E = some ce) (hex : (ex.startPc, ex.endPc, ex.handlerPc, ex.catchType) = (lo, hi, hp, ct)) (hlo : lo ≤ pc) (hhi : pc < hi) (h0 : ct ≠ 0) (hlink : (Cond.classLink own ct E).before args s = true) (hok : x_ok (.castable E E) = true) : x_w s args own ce pc true ex := by
  simp only [Prod.mk.injEq] at hex
  obtain ⟨h1, h2, h3, h4⟩ := hex
  have hc : (Cond.castable E E).before args s = true := x_word hF hO hok
  obtain ⟨c3, c4, hc3, hc4, hasg⟩ := Cond.castable_spec hc
  cases Option.some.inj (hc3.symm.trans hcl)
  cases Option.some.inj (hc4.symm.trans hcl)
  exact ⟨by simp [covers, h1, h2, hlo, hhi], by rw [h4]; exact h0, E, _, by rw [h4]; exact hlink, hcl, hasg⟩
/-- a row of another class that E passes -/
theorem x_pass {own E nm : String} {ce : ClassId} {ex : ExceptionTableEntry} {lo hi hp ct : Nat} (hN : xN s0) (hO : xO s0 s) (hcl : s.vm.findClass E = some ce) (hex : (ex.startPc, ex.endPc, ex.handlerPc, ex.catchType) = (lo, hi, hp, ct)) (hlo : lo ≤ pc) (hhi : pc < hi) (h0 : ct ≠ 0) (hlink : (Cond.classLink own ct nm).before args s = true) (k : Nat) (hq : ([("java/lang/IllegalArgumentException", "java/lang/IllegalStateException"), ("java/lang/UnsupportedOperationException", "java/lang/IllegalStateException"), ("java/lang/UnsupportedOperationException", "java/lang/IllegalArgumentException"), ("java/util/NoSuchElementException", "java/lang/IllegalStateException"), ("java/lang/UnsupportedOperationException", "java/util/NoSuchElementException")] : List (String × String))[k]? = some (E, nm)) : x_w s args own ce pc false ex := by
  simp only [Prod.mk.injEq] at hex
  obtain ⟨h1, h2, h3, h4⟩ := hex
  obtain ⟨c3, c4, hc3, hc4, hasg⟩ := hN (E, nm) (List.mem_of_getElem? hq)
  rw [← hO.1.alike.findClass] at hc3 hc4
  cases Option.some.inj (hc3.symm.trans hcl)
  exact ⟨by simp [covers, h1, h2, hlo, hhi], by rw [h4]; exact h0, nm, c4, by rw [h4]; exact hlink, hc4, by rw [hO.1.alike.assignable]; exact hasg⟩
end LHelp
