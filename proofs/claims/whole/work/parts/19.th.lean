def b_sc_pointsOf_45  (post : Int32 → ZS → Prop) (s0 : Int32) (u : ZS) : Prop := post s0 u
set_option maxRecDepth 100000 in
set_option maxHeartbeats 4000000 in
theorem k_sc_pointsOf_45 {p : Program} {l : Launch} {e : Env} {R : Room} {s : State} {m : MethodId} {args : Array Value} {below : List Frame} {meth : Method} {c : Code} {D : va_G} {A : Nat → Prop} {ad : Nat → Nat} {ca : Nat → ClassId} {t0 : Nat} (hZ : va_Z "ShortBridge$Scoring" "STEPS" "[I" (.ref t0) A s s.heap) (hT : va_T .int t0 19 (fun j => .int (sc_F j)) A s s.heap)  {post : Int32 → ZS → Prop} (cx : zx p R s m args meth c c_sc_pointsOf 4 3 60 "ShortBridge$Scoring" (some .int) zG zNs D (cT ca)) {s0 : Int32} {u : ZS} {H : Heap} {locs : List Loc} {ls : Array Slot} (hI : zw D A s.heap (cW ad ca u) H locs) (hl : lv_has ls 4 []) (h : b_sc_pointsOf_45 post s0 u) : W p l e R s m args below meth c H locs 0 0 (MQ below (va_Qi post (zE D (cT ca) (cW ad ca) A) A) args s 0 0 A) (F0 m 45 ls [.int s0]) := by
  have cx0 := cx
  obtain ⟨hx, hb, hml, hown, hts, hN, hK, hr, hlk, hfr, hlc⟩ := cx
  unfold b_sc_pointsOf_45 at h
  exact zret_i hx hb hr hlk hK hI h d_sc_pointsOf_45
def b_sc_pointsOf_29 (r9 : Int32 → Int32 → Int32 → Int32 → ZS → Prop) (post : Int32 → ZS → Prop) (v0 : Int32) (v1 : Int32) (v2 : Int32) (v3 : Int32) (u : ZS) : Prop := r9 v0 v1 v2 (v3 + 1) u
set_option maxRecDepth 100000 in
set_option maxHeartbeats 4000000 in
theorem k_sc_pointsOf_29 {p : Program} {l : Launch} {e : Env} {R : Room} {s : State} {m : MethodId} {args : Array Value} {below : List Frame} {meth : Method} {c : Code} {D : va_G} {A : Nat → Prop} {ad : Nat → Nat} {ca : Nat → ClassId} {t0 : Nat} (hZ : va_Z "ShortBridge$Scoring" "STEPS" "[I" (.ref t0) A s s.heap) (hT : va_T .int t0 19 (fun j => .int (sc_F j)) A s s.heap) {r9 : Int32 → Int32 → Int32 → Int32 → ZS → Prop} {post : Int32 → ZS → Prop} (cx : zx p R s m args meth c c_sc_pointsOf 4 3 60 "ShortBridge$Scoring" (some .int) zG zNs D (cT ca)) (hk9 : ∀ (v0 : Int32) (v1 : Int32) (v2 : Int32) (v3 : Int32) (u : ZS) (H : Heap) (locs : List Loc) (ls : Array Slot), zw D A s.heap (cW ad ca u) H locs → lv_has ls 4 [(0, .int v0), (1, .int v1), (2, .int v2), (3, .int v3)] → r9 v0 v1 v2 v3 u → W p l e R s m args below meth c H locs 0 0 (MQ below (va_Qi post (zE D (cT ca) (cW ad ca) A) A) args s 0 0 A) (F0 m 9 ls [])) {v0 : Int32} {v1 : Int32} {v2 : Int32} {v3 : Int32} {u : ZS} {H : Heap} {locs : List Loc} {ls : Array Slot} (hI : zw D A s.heap (cW ad ca u) H locs) (hl : lv_has ls 4 [(0, .int v0), (1, .int v1), (2, .int v2), (3, .int v3)]) (h : b_sc_pointsOf_29 r9 post v0 v1 v2 v3 u) : W p l e R s m args below meth c H locs 0 0 (MQ below (va_Qi post (zE D (cT ca) (cW ad ca) A) A) args s 0 0 A) (F0 m 29 ls []) := by
  have cx0 := cx
  obtain ⟨hx, hb, hml, hown, hts, hN, hK, hr, hlk, hfr, hlc⟩ := cx
  unfold b_sc_pointsOf_29 at h
  refine lv_iinc (k := 3) (v := (v3 + 1)) hx hb d_sc_pointsOf_29 hl rfl (zi_1 _) (by decide) rfl ?_
  intro ls hl
  have hl : lv_has ls 4 [(3, .int (v3 + 1)), (0, .int v0), (1, .int v1), (2, .int v2)] := hl
  refine lv_goto hx hb d_sc_pointsOf_32 rfl ?_
  exact hk9 _ _ _ _ _ _ _ _ hI (lv_sub hl [1, 2, 3, 0] rfl) h
def b_sc_pointsOf_9  (post : Int32 → ZS → Prop) : Nat → Int32 → Int32 → Int32 → Int32 → ZS → Prop
  | 0, _, _, _, _, _ => False
  | n + 1, v0, v1, v2, v3, u => (19 ≤ v3 → (0 ≤ v0 → b_sc_pointsOf_45 post v2 u) ∧ (¬ (0 ≤ v0) → b_sc_pointsOf_45 post (-v2) u)) ∧ (¬ (19 ≤ v3) → vp_in v3 19 ∧ ((v1 < (sc_F (Int32.toNatClampNeg v3)) → b_sc_pointsOf_29 (b_sc_pointsOf_9 post n) post v0 v1 v2 v3 u) ∧ (¬ (v1 < (sc_F (Int32.toNatClampNeg v3))) → b_sc_pointsOf_29 (b_sc_pointsOf_9 post n) post v0 v1 (v2 + 1) v3 u)))
set_option maxRecDepth 100000 in
set_option maxHeartbeats 4000000 in
theorem k_sc_pointsOf_9 {p : Program} {l : Launch} {e : Env} {R : Room} {s : State} {m : MethodId} {args : Array Value} {below : List Frame} {meth : Method} {c : Code} {D : va_G} {A : Nat → Prop} {ad : Nat → Nat} {ca : Nat → ClassId} {t0 : Nat} (hZ : va_Z "ShortBridge$Scoring" "STEPS" "[I" (.ref t0) A s s.heap) (hT : va_T .int t0 19 (fun j => .int (sc_F j)) A s s.heap)  {post : Int32 → ZS → Prop} (cx : zx p R s m args meth c c_sc_pointsOf 4 3 60 "ShortBridge$Scoring" (some .int) zG zNs D (cT ca)) : ∀ (n : Nat) (v0 : Int32) (v1 : Int32) (v2 : Int32) (v3 : Int32) (u : ZS) (H : Heap) (locs : List Loc) (ls : Array Slot), zw D A s.heap (cW ad ca u) H locs → lv_has ls 4 [(0, .int v0), (1, .int v1), (2, .int v2), (3, .int v3)] → b_sc_pointsOf_9 post n v0 v1 v2 v3 u → W p l e R s m args below meth c H locs 0 0 (MQ below (va_Qi post (zE D (cT ca) (cW ad ca) A) A) args s 0 0 A) (F0 m 9 ls []) := by
  have cx0 := cx
  obtain ⟨hx, hb, hml, hown, hts, hN, hK, hr, hlk, hfr, hlc⟩ := cx
  intro n
  induction n with
  | zero => intro v0 v1 v2 v3 u H locs ls hI hl h; exact (h : False).elim
  | succ n ih =>
    intro v0 v1 v2 v3 u H locs ls hI hl h
    unfold b_sc_pointsOf_9 at h
    refine lv_iload_n hx hb d_sc_pointsOf_9 rfl (lv_at hl 3 rfl) ?_
    refine va_gets hx hb hZ hI.2.2.1 hown (hts _ q_632) (fun _ h9 => h9) d_sc_pointsOf_10 ?_
    refine va_tlen (v := 19) hx hb hT hI.2.2.1 (by decide) d_sc_pointsOf_13 ?_
    refine lv_icmp_ge hx hb d_sc_pointsOf_14 rfl (fun hc => ?_) (fun hc => ?_)
    · have h := h.1 hc
      refine lv_iload_n hx hb d_sc_pointsOf_35 rfl (lv_at hl 0 rfl) ?_
      refine lv_if_ge hx hb d_sc_pointsOf_36 rfl (fun hc => ?_) (fun hc => ?_)
      · have h := h.1 hc
        refine lv_iload_n hx hb d_sc_pointsOf_44 rfl (lv_at hl 2 rfl) ?_
        exact k_sc_pointsOf_45 hZ hT cx0  hI (lv_sub hl [] rfl) h
      · have h := h.2 hc
        refine lv_iload_n hx hb d_sc_pointsOf_39 rfl (lv_at hl 2 rfl) ?_
        refine lv_ineg hx hb d_sc_pointsOf_40 ?_
        refine lv_goto hx hb d_sc_pointsOf_41 rfl ?_
        exact k_sc_pointsOf_45 hZ hT cx0  hI (lv_sub hl [] rfl) h
    · have h := h.2 hc
      refine va_gets hx hb hZ hI.2.2.1 hown (hts _ q_632) (fun _ h9 => h9) d_sc_pointsOf_17 ?_
      refine lv_iload_n hx hb d_sc_pointsOf_20 rfl (lv_at hl 3 rfl) ?_
      obtain ⟨hi, h⟩ := h
      refine va_ti hx hb hT hI.2.2.1 hi rfl d_sc_pointsOf_21 ?_
      refine lv_iload_n hx hb d_sc_pointsOf_22 rfl (lv_at hl 1 rfl) ?_
      refine lv_icmp_gt hx hb d_sc_pointsOf_23 rfl (fun hc => ?_) (fun hc => ?_)
      · have h := h.1 hc
        exact k_sc_pointsOf_29 hZ hT cx0 ih hI (lv_sub hl [0, 1, 2, 3] rfl) h
      · have h := h.2 hc
        refine lv_iinc (k := 2) (v := (v2 + 1)) hx hb d_sc_pointsOf_26 hl rfl (zi_1 _) (by decide) rfl ?_
        intro ls hl
        have hl : lv_has ls 4 [(2, .int (v2 + 1)), (0, .int v0), (1, .int v1), (3, .int v3)] := hl
        exact k_sc_pointsOf_29 hZ hT cx0 ih hI (lv_sub hl [1, 2, 0, 3] rfl) h
def w_sc_pointsOf (v0 : Int32) (u : ZS) (post : Int32 → ZS → Prop) : Prop := ∃ n0, b_sc_pointsOf_9 post n0 v0 (if 0 ≤ v0 then v0 else 0 - v0) 0 0 u
set_option maxRecDepth 100000 in
set_option maxHeartbeats 4000000 in
theorem t_sc_pointsOf (l : Launch) {s0 : State} (hF : xF s0) (D : va_G) (ad : Nat → Nat) (ca : Nat → ClassId) {v0 : Int32} {u : ZS} {post : Int32 → ZS → Prop} (h : w_sc_pointsOf v0 u post) (sz : Nat) : Met l y_sc_pointsOf (Cond.code y_sc_pointsOf c_sc_pointsOf 4 (some .int) :: zG) { frames := 3, cells := 0, slots := 0, locals := 60 } (va_Pc [.int v0] (fun U => zP D (cT ca) zNs (cW ad ca) sz u U ∧ xO s0 U ∧ ∀ q, va_A (cW ad ca u) U.heap.size q → s0.heap.size ≤ q)) (va_Qi post (zE D (cT ca) (cW ad ca) (va_A (cW ad ca u) sz)) (va_A (cW ad ca u) sz)) 0 0 (va_A (cW ad ca u) sz) := by
  refine Met.ofW (cc := c_sc_pointsOf) (maxL := 4) (ret := (some .int)) (by decide) rfl ?_
  intro p e s m args below meth c s₁ B hml hv
  obtain ⟨rfl, ⟨hsz, hP, hK, hD0, hN⟩, hO, hA0⟩ := hv
  have hts0 := atoms_spec (ws := Cond.code y_sc_pointsOf c_sc_pointsOf 4 (some .int) :: zG) B.pre
  have hown0 : s.vm.findClass "ShortBridge$Scoring" = some m.cls := findClass_of_methodNamed B.named
  subst hsz
  obtain ⟨a0, -, -, -, t0, hZ0, hT0⟩ := hF
  generalize hAe : va_A (cW ad ca u) s.heap.size = A at hA0 ⊢
  have hZ : va_Z "ShortBridge$Scoring" "STEPS" "[I" (.ref t0) A s s.heap := va_Z.narrow (va_Z.moved hO.1.alike (va_Z.kept hZ0 (fun a ha _ => hO.2 a ha))) hA0
  have hT : va_T .int t0 19 (fun j => .int (sc_F j)) A s s.heap := va_T.narrow (va_T.moved hO.1.alike (va_T.kept hT0 (fun a ha _ => hO.2 a ha))) hA0
  have hI : zw D A s.heap (cW ad ca u) s.heap [] := by rw [← hAe]; exact ⟨hP, hD0.self, va_S.rf, fun q h => Or.inr h⟩
  have hl := lv_entry [.int v0] (n := 4) (Nat.le_of_ble_eq_true rfl)
  rw [lg_entry_eq]
  generalize (lg_sl [.int v0] ++ List.replicate (4 - (lg_sl [.int v0]).length) Slot.unset).toArray = ls at hl ⊢
  have cx : zx p { frames := 3, cells := 0, slots := 0, locals := 60 } s m _ meth c c_sc_pointsOf 4 3 60 "ShortBridge$Scoring" (some .int) zG zNs D (cT ca) := ⟨B.exec, B.bytes, hml, hown0, fun w h => hts0 w (List.mem_cons_of_mem _ h), hN, hK, B.returns, B.notSynchronized, Nat.le_refl _, Nat.le_refl _⟩
  have cx0 := cx
  obtain ⟨hx, hb, hml, hown, hts, hN, hK, hr, hlk, hfr, hlc⟩ := cx
  have hl : lv_has ls 4 [(0, .int v0)] := hl
  unfold w_sc_pointsOf at h
  refine lv_iload_n hx hb d_sc_pointsOf_0 rfl (lv_at hl 0 rfl) ?_
  refine va_mabs hx hb (by rw [hml]; exact hl.1.symm) hown (hts _ q_629) (hts _ q_630) (hts _ q_55) (hts _ q_631) (Nat.le_trans (by decide) hfr) (Nat.le_trans (by decide) hlc) (Nat.zero_le _) (Nat.zero_le _) d_sc_pointsOf_1 ?_
  refine lv_istore_n hx hb d_sc_pointsOf_4 rfl hl (by decide) rfl ?_
  intro ls hl
  have hl : lv_has ls 4 [(1, .int (if 0 ≤ v0 then v0 else 0 - v0)), (0, .int v0)] := hl
  refine lv_iconst (v := 0) hx hb d_sc_pointsOf_5 zc_iconst_0 ?_
  refine lv_istore_n hx hb d_sc_pointsOf_6 rfl hl (by decide) rfl ?_
  intro ls hl
  have hl : lv_has ls 4 [(2, .int 0), (1, .int (if 0 ≤ v0 then v0 else 0 - v0)), (0, .int v0)] := hl
  refine lv_iconst (v := 0) hx hb d_sc_pointsOf_7 zc_iconst_0 ?_
  refine lv_istore_n hx hb d_sc_pointsOf_8 rfl hl (by decide) rfl ?_
  intro ls hl
  have hl : lv_has ls 4 [(3, .int 0), (2, .int 0), (1, .int (if 0 ≤ v0 then v0 else 0 - v0)), (0, .int v0)] := hl
  obtain ⟨n0, h⟩ := h
  exact k_sc_pointsOf_9 hZ hT cx0  n0 _ _ _ _ _ _ _ _ hI (lv_sub hl [3, 2, 1, 0] rfl) h
theorem p_preS {l : Launch} {R : Room} {s0 s : State} {c : Code} {A : Nat → Prop} {D : va_G} {ad : Nat → Nat} {ca : Nat → ClassId} {u : ZS} {H : Heap} {locs : List Loc} (hX : xX l R c s0 s A) (hK : va_K D vwCl (cT ca) s) (hN : ∀ w ∈ zNs, va_Nw w s) (hI : zw D A s.heap (cW ad ca u) H locs) (av : List Value) : PreS s H (va_Pc av (fun U => zP D (cT ca) zNs (cW ad ca) H.size u U ∧ xO s0 U ∧ ∀ q, va_A (cW ad ca u) U.heap.size q → s0.heap.size ≤ q)) av := by
  have h0 := z_preS zNs_ok hK hN hI av
  refine ⟨fun a U g mk q => ⟨(h0.1 a U g mk ⟨q.1, q.2.1⟩).1, (h0.1 a U g mk ⟨q.1, q.2.1⟩).2, q.2.2.1, q.2.2.2⟩, fun U hU hW => ⟨(h0.2 U hU hW).1, (h0.2 U hU hW).2, ⟨State.WarmedH.trans hX.2.1.1 hW, fun q hq => ?_⟩, fun q h => ?_⟩⟩
  · rw [hU, hI.2.2.1.2.1 q (Nat.lt_of_lt_of_le hq (xO_size hX.2.1)) (fun h => by have := hX.2.2.1 q h; omega)]
    exact hX.2.1.2 q hq
  · rw [hU] at h
    exact hX.2.2.1 q (z_free hI q h)
theorem xs_103_105_107 : (Cond.classLink "ShortBridge" 103 "java/lang/IllegalArgumentException" :: Cond.initialized "java/lang/IllegalArgumentException" :: Cond.stringRef "ShortBridge" 105 "it is no call" :: Jvm.Bundle.ownAtoms "ShortBridge" 107 "java/lang/IllegalArgumentException" ["java/lang/RuntimeException", "java/lang/Exception"]).all x_ok = true := by decide +kernel
theorem xs_111_113_115 : (Cond.classLink "ShortBridge" 111 "java/lang/UnsupportedOperationException" :: Cond.initialized "java/lang/UnsupportedOperationException" :: Cond.stringRef "ShortBridge" 113 "the call is not allowed" :: Jvm.Bundle.ownAtoms "ShortBridge" 115 "java/lang/UnsupportedOperationException" ["java/lang/RuntimeException", "java/lang/Exception"]).all x_ok = true := by decide +kernel
theorem xs_111_140_115 : (Cond.classLink "ShortBridge" 111 "java/lang/UnsupportedOperationException" :: Cond.initialized "java/lang/UnsupportedOperationException" :: Cond.stringRef "ShortBridge" 140 "the player has a card of the suit that was led" :: Jvm.Bundle.ownAtoms "ShortBridge" 115 "java/lang/UnsupportedOperationException" ["java/lang/RuntimeException", "java/lang/Exception"]).all x_ok = true := by decide +kernel
theorem xs_111_168_115 : (Cond.classLink "ShortBridge" 111 "java/lang/UnsupportedOperationException" :: Cond.initialized "java/lang/UnsupportedOperationException" :: Cond.stringRef "ShortBridge" 168 "some player has 5 cards" :: Jvm.Bundle.ownAtoms "ShortBridge" 115 "java/lang/UnsupportedOperationException" ["java/lang/RuntimeException", "java/lang/Exception"]).all x_ok = true := by decide +kernel
theorem xs_111_182_115 : (Cond.classLink "ShortBridge" 111 "java/lang/UnsupportedOperationException" :: Cond.initialized "java/lang/UnsupportedOperationException" :: Cond.stringRef "ShortBridge" 182 "there are 12 results" :: Jvm.Bundle.ownAtoms "ShortBridge" 115 "java/lang/UnsupportedOperationException" ["java/lang/RuntimeException", "java/lang/Exception"]).all x_ok = true := by decide +kernel
theorem xs_132_134_136 : (Cond.classLink "ShortBridge" 132 "java/util/NoSuchElementException" :: Cond.initialized "java/util/NoSuchElementException" :: Cond.stringRef "ShortBridge" 134 "the player does not have the card" :: x_own "ShortBridge" 136 "java/util/NoSuchElementException" 13 prog_19_method_4_code "java/lang/RuntimeException" ["java/lang/Exception"]).all x_ok = true := by decide +kernel
theorem xs_191_193_195 : (Cond.classLink "ShortBridge" 191 "java/lang/IndexOutOfBoundsException" :: Cond.initialized "java/lang/IndexOutOfBoundsException" :: Cond.stringRef "ShortBridge" 193 "there is no such result" :: Jvm.Bundle.ownAtoms "ShortBridge" 195 "java/lang/IndexOutOfBoundsException" ["java/lang/RuntimeException", "java/lang/Exception"]).all x_ok = true := by decide +kernel
theorem xs_93_130_97 : (Cond.classLink "ShortBridge" 93 "java/lang/IllegalStateException" :: Cond.initialized "java/lang/IllegalStateException" :: Cond.stringRef "ShortBridge" 130 "there is no play" :: Jvm.Bundle.ownAtoms "ShortBridge" 97 "java/lang/IllegalStateException" ["java/lang/RuntimeException", "java/lang/Exception"]).all x_ok = true := by decide +kernel
theorem xs_93_163_97 : (Cond.classLink "ShortBridge" 93 "java/lang/IllegalStateException" :: Cond.initialized "java/lang/IllegalStateException" :: Cond.stringRef "ShortBridge" 163 "the board is not over" :: Jvm.Bundle.ownAtoms "ShortBridge" 97 "java/lang/IllegalStateException" ["java/lang/RuntimeException", "java/lang/Exception"]).all x_ok = true := by decide +kernel
theorem xs_93_95_97 : (Cond.classLink "ShortBridge" 93 "java/lang/IllegalStateException" :: Cond.initialized "java/lang/IllegalStateException" :: Cond.stringRef "ShortBridge" 95 "there is no auction" :: Jvm.Bundle.ownAtoms "ShortBridge" 97 "java/lang/IllegalStateException" ["java/lang/RuntimeException", "java/lang/Exception"]).all x_ok = true := by decide +kernel
def b_x_call_96  (post : ZS → Prop) (exc : String → ZS → Prop)  (u : ZS) : Prop := post u
set_option maxRecDepth 100000 in
set_option maxHeartbeats 4000000 in
theorem k_x_call_96 {p : Program} {l : Launch} {e : Env} {R : Room} {s : State} {m : MethodId} {args : Array Value} {below : List Frame} {meth : Method} {c : Code} {D : va_G} {A : Nat → Prop} {ad : Nat → Nat} {ca : Nat → ClassId} {s0 : State} (hX : xX l R c s0 s A)  {post : ZS → Prop} {exc : String → ZS → Prop} (cx : zx p R s m args meth c c_x_call 2 6 118 "ShortBridge" none zG zNs D (cT ca)) {u : ZS} {H : Heap} {locs : List Loc} {ls : Array Slot} (hI : zw D A s.heap (cW ad ca u) H locs) (hl : lv_has ls 2 []) (h : b_x_call_96 post exc  u) : W p l e R s m args below meth c H locs 0 0 (xMQ below (va_Qv post (zE D (cT ca) (cW ad ca) A) A) (xC D ad ca A exc) args s 1 6 A) (F0 m 96 ls []) := by
  have cx0 := cx
  obtain ⟨hx, hb, hml, hown, hts, hN, hK, hr, hlk, hfr, hlc⟩ := cx
  unfold b_x_call_96 at h
  refine W.widen (k := 1) (n := 6) (Nat.zero_le _) (Nat.zero_le _) ?_
  exact x_ret (zret_v hx hb hr hlk hK hI h d_x_call_96)
def w_x_call (v1 : Int32) (u : ZS) (post : ZS → Prop) (exc : String → ZS → Prop) : Prop := w_x_phase  u (fun r1 u2 => (r1 = 1 → w_au_isCall v1 u2 (fun r3 u4 => (¬ r3 = 0 → w_au_allows v1 u4 (fun r5 u6 => (¬ r5 = 0 → w_au_add v1 u6 (fun u8 => w_x_phase  u8 (fun r9 u10 => (¬ r9 = 2 → b_x_call_96 post exc u10) ∧ (r9 = 2 → w_au_declarer  u10 (fun r11 u12 => w_au_bid  u12 (fun r13 u14 => w_au_strain r13 u14 (fun r15 u16 => w_ha_beginPlay r11 r15 u16 (fun u18 => b_x_call_96 post exc u18)))))))) ∧ (r5 = 0 → exc "java/lang/UnsupportedOperationException" u6))) ∧ (r3 = 0 → exc "java/lang/IllegalArgumentException" u4))) ∧ (¬ (r1 = 1) → exc "java/lang/IllegalStateException" u2))
set_option maxRecDepth 100000 in
set_option maxHeartbeats 4000000 in
theorem t_x_call (l : Launch) (htr : l.stackTraces = false) {s0 : State} (hF : xF s0) (D : va_G) (ad : Nat → Nat) (ca : Nat → ClassId) (had : ∀ k, s0.heap.size ≤ ad k) {v1 : Int32} {u : ZS} {post : ZS → Prop} {exc : String → ZS → Prop} (h : w_x_call v1 u post exc) (sz : Nat) : xM l y_x_call (Cond.code y_x_call c_x_call 2 none :: zG) { frames := 6, cells := 1, slots := 6, locals := 118 } (va_Pc [.ref (ad 0), .int v1] (fun U => zP D (cT ca) zNs (cW ad ca) sz u U ∧ xO s0 U)) (va_Qv post (zE D (cT ca) (cW ad ca) (va_A (cW ad ca u) sz)) (va_A (cW ad ca u) sz)) (xC D ad ca (va_A (cW ad ca u) sz) exc) 1 6 (va_A (cW ad ca u) sz) := by
  refine x_of (cc := c_x_call) (maxL := 2) (ret := none) (Qf := fun A => va_Qv post (zE D (cT ca) (cW ad ca) A) A) htr hF had (Nat.le_refl _) (Nat.le_refl _) (by decide) (Nat.le_of_ble_eq_true rfl) ?_ sz
  intro p e s m args below meth c ls A cx hX hI hl
  have cx0 := cx
  obtain ⟨hx, hb, hml, hown, hts, hN, hK, hr, hlk, hfr, hlc⟩ := cx
  have hl : lv_has ls 2 [(0, .ref (ad 0)), (1, .int v1)] := hl
  unfold w_x_call at h
  refine lv_aload_n hx hb d_x_call_0 rfl (lv_at hl 0 rfl) ?_
  refine zr_i (va_runV (As := []) (rest := []) ⟨hx, hb, hml, hown, hts⟩ (t_x_phase l D ad ca h _) (cwV 0 hts (zg_V q_258 q_235 q_236 q_39 q_237) rfl rfl rfl ⟨rfl, hd_x_phase⟩ ⟨Nat.le_trans (by decide) hfr, Nat.le_trans (by decide) hlc⟩) (z_preV zNs_ok hK hN hI 0 0 rfl rfl _) rfl rfl hl.1 rfl (lv_room (Nat.le_of_ble_eq_true rfl)) d_x_call_1 ⟨Nat.zero_le _, Nat.zero_le _⟩) hI ?_
  intro r1 u2 H locs h hI
  refine lv_iconst (v := 1) hx hb d_x_call_4 zc_iconst_1 ?_
  refine lv_icmp_eq hx hb d_x_call_5 rfl (fun hc => ?_) (fun hc => ?_)
  · have h := h.1 hc
    refine lv_iload_n hx hb d_x_call_18 rfl (lv_at hl 1 rfl) ?_
    refine zr_i (va_runS (As := [.int v1]) (rest := []) ⟨hx, hb, hml, hown, hts⟩ (t_au_isCall l D ad ca h _) (va_cwS 1 hts (zg_S q_415 q_416 q_41 q_417) rfl rfl rfl hd_au_isCall ⟨Nat.le_trans (by decide) hfr, Nat.le_trans (by decide) hlc⟩) (z_preS zNs_ok hK hN hI _) rfl rfl hl.1 rfl (lv_room (Nat.le_of_ble_eq_true rfl)) d_x_call_19 ⟨Nat.zero_le _, Nat.zero_le _⟩) hI ?_
    intro r3 u4 H locs h hI
    refine lv_if_ne hx hb d_x_call_22 rfl (fun hc => ?_) (fun hc => ?_)
    · have h := h.1 hc
      refine lv_aload_n hx hb d_x_call_35 rfl (lv_at hl 0 rfl) ?_
      refine cg_X_auction hx hb hts hown hK hI (hts _ q_151) d_x_call_36 ?_
      refine lv_iload_n hx hb d_x_call_39 rfl (lv_at hl 1 rfl) ?_
      refine zr_i (va_runV (As := [.int v1]) (rest := []) ⟨hx, hb, hml, hown, hts⟩ (t_au_allows l D ad ca h _) (cwV 1 hts (zg_V q_434 q_435 q_436 q_41 q_437) rfl rfl rfl ⟨rfl, hd_au_allows⟩ ⟨Nat.le_trans (by decide) hfr, Nat.le_trans (by decide) hlc⟩) (z_preV zNs_ok hK hN hI 2 2 rfl rfl _) rfl rfl hl.1 rfl (lv_room (Nat.le_of_ble_eq_true rfl)) d_x_call_40 ⟨Nat.zero_le _, Nat.zero_le _⟩) hI ?_
      intro r5 u6 H locs h hI
      refine lv_if_ne hx hb d_x_call_43 rfl (fun hc => ?_) (fun hc => ?_)
      · have h := h.1 hc
        refine lv_aload_n hx hb d_x_call_56 rfl (lv_at hl 0 rfl) ?_
        refine cg_X_auction hx hb hts hown hK hI (hts _ q_151) d_x_call_57 ?_
        refine lv_iload_n hx hb d_x_call_60 rfl (lv_at hl 1 rfl) ?_
        refine zr_v (va_runV (As := [.int v1]) (rest := []) ⟨hx, hb, hml, hown, hts⟩ (t_au_add l D ad ca h _) (cwV 1 hts (zg_V q_459 q_460 q_461 q_41 q_462) rfl rfl rfl ⟨rfl, hd_au_add⟩ ⟨Nat.le_trans (by decide) hfr, Nat.le_trans (by decide) hlc⟩) (z_preV zNs_ok hK hN hI 2 2 rfl rfl _) rfl rfl hl.1 rfl (lv_room (Nat.le_of_ble_eq_true rfl)) d_x_call_61 ⟨Nat.zero_le _, Nat.zero_le _⟩) hI ?_
        intro u8 H locs h hI
        refine lv_aload_n hx hb d_x_call_64 rfl (lv_at hl 0 rfl) ?_
        refine zr_i (va_runV (As := []) (rest := []) ⟨hx, hb, hml, hown, hts⟩ (t_x_phase l D ad ca h _) (cwV 0 hts (zg_V q_258 q_235 q_236 q_39 q_237) rfl rfl rfl ⟨rfl, hd_x_phase⟩ ⟨Nat.le_trans (by decide) hfr, Nat.le_trans (by decide) hlc⟩) (z_preV zNs_ok hK hN hI 0 0 rfl rfl _) rfl rfl hl.1 rfl (lv_room (Nat.le_of_ble_eq_true rfl)) d_x_call_65 ⟨Nat.zero_le _, Nat.zero_le _⟩) hI ?_
        intro r9 u10 H locs h hI
        refine lv_iconst (v := 2) hx hb d_x_call_68 zc_iconst_2 ?_
        refine lv_icmp_ne hx hb d_x_call_69 rfl (fun hc => ?_) (fun hc => ?_)
        · have h := h.1 hc
          exact k_x_call_96 hX cx0  hI (lv_sub hl [] rfl) h
        · have h := h.2 hc
          refine lv_aload_n hx hb d_x_call_72 rfl (lv_at hl 0 rfl) ?_
          refine cg_X_hands hx hb hts hown hK hI (hts _ q_152) d_x_call_73 ?_
          refine lv_aload_n hx hb d_x_call_76 rfl (lv_at hl 0 rfl) ?_
          refine cg_X_auction hx hb hts hown hK hI (hts _ q_151) d_x_call_77 ?_
          refine zr_i (va_runV (As := []) (rest := [.ref (ad 3)]) ⟨hx, hb, hml, hown, hts⟩ (t_au_declarer l D ad ca h _) (cwV 0 hts (zg_V q_304 q_305 q_306 q_41 q_307) rfl rfl rfl ⟨rfl, hd_au_declarer⟩ ⟨Nat.le_trans (by decide) hfr, Nat.le_trans (by decide) hlc⟩) (z_preV zNs_ok hK hN hI 2 2 rfl rfl _) rfl rfl hl.1 rfl (lv_room (Nat.le_of_ble_eq_true rfl)) d_x_call_80 ⟨Nat.zero_le _, Nat.zero_le _⟩) hI ?_
          intro r11 u12 H locs h hI
          refine lv_aload_n hx hb d_x_call_83 rfl (lv_at hl 0 rfl) ?_
          refine cg_X_auction hx hb hts hown hK hI (hts _ q_151) d_x_call_84 ?_
          refine zr_i (va_runV (As := []) (rest := [.int r11, .ref (ad 3)]) ⟨hx, hb, hml, hown, hts⟩ (t_au_bid l D ad ca h _) (cwV 0 hts (zg_V q_246 q_247 q_248 q_41 q_249) rfl rfl rfl ⟨rfl, hd_au_bid⟩ ⟨Nat.le_trans (by decide) hfr, Nat.le_trans (by decide) hlc⟩) (z_preV zNs_ok hK hN hI 2 2 rfl rfl _) rfl rfl hl.1 rfl (lv_room (Nat.le_of_ble_eq_true rfl)) d_x_call_87 ⟨Nat.zero_le _, Nat.zero_le _⟩) hI ?_
          intro r13 u14 H locs h hI
          refine zr_i (va_runS (As := [.int r13]) (rest := [.int r11, .ref (ad 3)]) ⟨hx, hb, hml, hown, hts⟩ (t_au_strain l D ad ca h _) (va_cwS 1 hts (zg_S q_463 q_316 q_41 q_317) rfl rfl rfl hd_au_strain ⟨Nat.le_trans (by decide) hfr, Nat.le_trans (by decide) hlc⟩) (z_preS zNs_ok hK hN hI _) rfl rfl hl.1 rfl (lv_room (Nat.le_of_ble_eq_true rfl)) d_x_call_90 ⟨Nat.zero_le _, Nat.zero_le _⟩) hI ?_
          intro r15 u16 H locs h hI
          refine zr_v (va_runV (As := [.int r11, .int r15]) (rest := []) ⟨hx, hb, hml, hown, hts⟩ (t_ha_beginPlay l D ad ca h _) (cwV 2 hts (zg_V q_464 q_465 q_466 q_42 q_467) rfl rfl rfl ⟨rfl, hd_ha_beginPlay⟩ ⟨Nat.le_trans (by decide) hfr, Nat.le_trans (by decide) hlc⟩) (z_preV zNs_ok hK hN hI 3 3 rfl rfl _) rfl rfl hl.1 rfl (lv_room (Nat.le_of_ble_eq_true rfl)) d_x_call_93 ⟨Nat.zero_le _, Nat.zero_le _⟩) hI ?_
          intro u18 H locs h hI
          exact k_x_call_96 hX cx0  hI (lv_sub hl [] rfl) h
      · have h := h.2 hc
        exact x_throw (own := "ShortBridge") (cls := "java/lang/UnsupportedOperationException") (text := "the call is not allowed") (names := ["java/lang/RuntimeException", "java/lang/Exception"]) (ik := 111) (is := 113) (ic := 115) hx hb hX.2.2.2.1 hown (by decide +kernel) (by decide +kernel) (x_at hX hI.2.2.1 xs_111_113_115) (by rw [hml]; exact hl.1) hX.2.2.2.2.1 hlk d_x_call_46 d_x_call_49 d_x_call_50 d_x_call_52 d_x_call_55 (Nat.lt_of_lt_of_le (by decide) hfr) (Nat.le_trans (by decide) hlc) hX.2.2.2.2.2.1 hX.2.2.2.2.2.2 (by decide) (by decide) hI.2.2.1.2.2 (x_mk hK hI h _)
    · have h := h.2 hc
      exact x_throw (own := "ShortBridge") (cls := "java/lang/IllegalArgumentException") (text := "it is no call") (names := ["java/lang/RuntimeException", "java/lang/Exception"]) (ik := 103) (is := 105) (ic := 107) hx hb hX.2.2.2.1 hown (by decide +kernel) (by decide +kernel) (x_at hX hI.2.2.1 xs_103_105_107) (by rw [hml]; exact hl.1) hX.2.2.2.2.1 hlk d_x_call_25 d_x_call_28 d_x_call_29 d_x_call_31 d_x_call_34 (Nat.lt_of_lt_of_le (by decide) hfr) (Nat.le_trans (by decide) hlc) hX.2.2.2.2.2.1 hX.2.2.2.2.2.2 (by decide) (by decide) hI.2.2.1.2.2 (x_mk hK hI h _)
  · have h := h.2 hc
    exact x_throw (own := "ShortBridge") (cls := "java/lang/IllegalStateException") (text := "there is no auction") (names := ["java/lang/RuntimeException", "java/lang/Exception"]) (ik := 93) (is := 95) (ic := 97) hx hb hX.2.2.2.1 hown (by decide +kernel) (by decide +kernel) (x_at hX hI.2.2.1 xs_93_95_97) (by rw [hml]; exact hl.1) hX.2.2.2.2.1 hlk d_x_call_8 d_x_call_11 d_x_call_12 d_x_call_14 d_x_call_17 (Nat.lt_of_lt_of_le (by decide) hfr) (Nat.le_trans (by decide) hlc) hX.2.2.2.2.2.1 hX.2.2.2.2.2.2 (by decide) (by decide) hI.2.2.1.2.2 (x_mk hK hI h _)
def w_x_play (v1 : Int32) (u : ZS) (post : ZS → Prop) (exc : String → ZS → Prop) : Prop := w_x_phase  u (fun r1 u2 => (r1 = 2 → w_ha_player  u2 (fun r3 u4 => w_ha_holds r3 v1 u4 (fun r5 u6 => (¬ r5 = 0 → w_ha_allow v1 u6 (fun r7 u8 => (¬ r7 = 0 → w_ha_put v1 u8 (fun u10 => post u10)) ∧ (r7 = 0 → exc "java/lang/UnsupportedOperationException" u8))) ∧ (r5 = 0 → exc "java/util/NoSuchElementException" u6)))) ∧ (¬ (r1 = 2) → exc "java/lang/IllegalStateException" u2))
set_option maxRecDepth 100000 in
set_option maxHeartbeats 4000000 in
theorem t_x_play (l : Launch) (htr : l.stackTraces = false) {s0 : State} (hF : xF s0) (D : va_G) (ad : Nat → Nat) (ca : Nat → ClassId) (had : ∀ k, s0.heap.size ≤ ad k) {v1 : Int32} {u : ZS} {post : ZS → Prop} {exc : String → ZS → Prop} (h : w_x_play v1 u post exc) (sz : Nat) : xM l y_x_play (Cond.code y_x_play c_x_play 2 none :: zG) { frames := 6, cells := 1, slots := 6, locals := 97 } (va_Pc [.ref (ad 0), .int v1] (fun U => zP D (cT ca) zNs (cW ad ca) sz u U ∧ xO s0 U)) (va_Qv post (zE D (cT ca) (cW ad ca) (va_A (cW ad ca u) sz)) (va_A (cW ad ca u) sz)) (xC D ad ca (va_A (cW ad ca u) sz) exc) 1 6 (va_A (cW ad ca u) sz) := by
  refine x_of (cc := c_x_play) (maxL := 2) (ret := none) (Qf := fun A => va_Qv post (zE D (cT ca) (cW ad ca) A) A) htr hF had (Nat.le_refl _) (Nat.le_refl _) (by decide) (Nat.le_of_ble_eq_true rfl) ?_ sz
  intro p e s m args below meth c ls A cx hX hI hl
  have cx0 := cx
  obtain ⟨hx, hb, hml, hown, hts, hN, hK, hr, hlk, hfr, hlc⟩ := cx
  have hl : lv_has ls 2 [(0, .ref (ad 0)), (1, .int v1)] := hl
  unfold w_x_play at h
  refine lv_aload_n hx hb d_x_play_0 rfl (lv_at hl 0 rfl) ?_
  refine zr_i (va_runV (As := []) (rest := []) ⟨hx, hb, hml, hown, hts⟩ (t_x_phase l D ad ca h _) (cwV 0 hts (zg_V q_258 q_235 q_236 q_39 q_237) rfl rfl rfl ⟨rfl, hd_x_phase⟩ ⟨Nat.le_trans (by decide) hfr, Nat.le_trans (by decide) hlc⟩) (z_preV zNs_ok hK hN hI 0 0 rfl rfl _) rfl rfl hl.1 rfl (lv_room (Nat.le_of_ble_eq_true rfl)) d_x_play_1 ⟨Nat.zero_le _, Nat.zero_le _⟩) hI ?_
  intro r1 u2 H locs h hI
  refine lv_iconst (v := 2) hx hb d_x_play_4 zc_iconst_2 ?_
  refine lv_icmp_eq hx hb d_x_play_5 rfl (fun hc => ?_) (fun hc => ?_)
  · have h := h.1 hc
    refine lv_aload_n hx hb d_x_play_18 rfl (lv_at hl 0 rfl) ?_
    refine cg_X_hands hx hb hts hown hK hI (hts _ q_152) d_x_play_19 ?_
    refine lv_aload_n hx hb d_x_play_22 rfl (lv_at hl 0 rfl) ?_
    refine cg_X_hands hx hb hts hown hK hI (hts _ q_152) d_x_play_23 ?_
    refine zr_i (va_runV (As := []) (rest := [.ref (ad 3)]) ⟨hx, hb, hml, hown, hts⟩ (t_ha_player l D ad ca h _) (cwV 0 hts (zg_V q_270 q_271 q_272 q_42 q_273) rfl rfl rfl ⟨rfl, hd_ha_player⟩ ⟨Nat.le_trans (by decide) hfr, Nat.le_trans (by decide) hlc⟩) (z_preV zNs_ok hK hN hI 3 3 rfl rfl _) rfl rfl hl.1 rfl (lv_room (Nat.le_of_ble_eq_true rfl)) d_x_play_26 ⟨Nat.zero_le _, Nat.zero_le _⟩) hI ?_
    intro r3 u4 H locs h hI
    refine lv_iload_n hx hb d_x_play_29 rfl (lv_at hl 1 rfl) ?_
    refine zr_i (va_runV (As := [.int r3, .int v1]) (rest := []) ⟨hx, hb, hml, hown, hts⟩ (t_ha_holds l D ad ca h _) (cwV 2 hts (zg_V q_279 q_280 q_281 q_42 q_282) rfl rfl rfl ⟨rfl, hd_ha_holds⟩ ⟨Nat.le_trans (by decide) hfr, Nat.le_trans (by decide) hlc⟩) (z_preV zNs_ok hK hN hI 3 3 rfl rfl _) rfl rfl hl.1 rfl (lv_room (Nat.le_of_ble_eq_true rfl)) d_x_play_30 ⟨Nat.zero_le _, Nat.zero_le _⟩) hI ?_
    intro r5 u6 H locs h hI
    refine lv_if_ne hx hb d_x_play_33 rfl (fun hc => ?_) (fun hc => ?_)
    · have h := h.1 hc
      refine lv_aload_n hx hb d_x_play_46 rfl (lv_at hl 0 rfl) ?_
      refine cg_X_hands hx hb hts hown hK hI (hts _ q_152) d_x_play_47 ?_
      refine lv_iload_n hx hb d_x_play_50 rfl (lv_at hl 1 rfl) ?_
      refine zr_i (va_runV (As := [.int v1]) (rest := []) ⟨hx, hb, hml, hown, hts⟩ (t_ha_allow l D ad ca h _) (cwV 1 hts (zg_V q_493 q_494 q_495 q_42 q_496) rfl rfl rfl ⟨rfl, hd_ha_allow⟩ ⟨Nat.le_trans (by decide) hfr, Nat.le_trans (by decide) hlc⟩) (z_preV zNs_ok hK hN hI 3 3 rfl rfl _) rfl rfl hl.1 rfl (lv_room (Nat.le_of_ble_eq_true rfl)) d_x_play_51 ⟨Nat.zero_le _, Nat.zero_le _⟩) hI ?_
      intro r7 u8 H locs h hI
      refine lv_if_ne hx hb d_x_play_54 rfl (fun hc => ?_) (fun hc => ?_)
      · have h := h.1 hc
        refine lv_aload_n hx hb d_x_play_67 rfl (lv_at hl 0 rfl) ?_
        refine cg_X_hands hx hb hts hown hK hI (hts _ q_152) d_x_play_68 ?_
        refine lv_iload_n hx hb d_x_play_71 rfl (lv_at hl 1 rfl) ?_
        refine zr_v (va_runV (As := [.int v1]) (rest := []) ⟨hx, hb, hml, hown, hts⟩ (t_ha_put l D ad ca h _) (cwV 1 hts (zg_V q_502 q_503 q_504 q_42 q_505) rfl rfl rfl ⟨rfl, hd_ha_put⟩ ⟨Nat.le_trans (by decide) hfr, Nat.le_trans (by decide) hlc⟩) (z_preV zNs_ok hK hN hI 3 3 rfl rfl _) rfl rfl hl.1 rfl (lv_room (Nat.le_of_ble_eq_true rfl)) d_x_play_72 ⟨Nat.zero_le _, Nat.zero_le _⟩) hI ?_
        intro u10 H locs h hI
        refine W.widen (k := 1) (n := 6) (Nat.zero_le _) (Nat.zero_le _) ?_
        exact x_ret (zret_v hx hb hr hlk hK hI h d_x_play_75)
      · have h := h.2 hc
        exact x_throw (own := "ShortBridge") (cls := "java/lang/UnsupportedOperationException") (text := "the player has a card of the suit that was led") (names := ["java/lang/RuntimeException", "java/lang/Exception"]) (ik := 111) (is := 140) (ic := 115) hx hb hX.2.2.2.1 hown (by decide +kernel) (by decide +kernel) (x_at hX hI.2.2.1 xs_111_140_115) (by rw [hml]; exact hl.1) hX.2.2.2.2.1 hlk d_x_play_57 d_x_play_60 d_x_play_61 d_x_play_63 d_x_play_66 (Nat.lt_of_lt_of_le (by decide) hfr) (Nat.le_trans (by decide) hlc) hX.2.2.2.2.2.1 hX.2.2.2.2.2.2 (by decide) (by decide) hI.2.2.1.2.2 (x_mk hK hI h _)
    · have h := h.2 hc
      exact x_throwN (own := "ShortBridge") (cls := "java/util/NoSuchElementException") (text := "the player does not have the card") (Y := "java/lang/RuntimeException") (names := ["java/lang/Exception"]) (ix := 13) (bx := prog_19_method_4_code) (ik := 132) (is := 134) (ic := 136) hx hb hX.2.2.2.1 hown (by decide +kernel) (by decide +kernel) (by decide +kernel) (by decide +kernel) (by decide +kernel) (by decide +kernel) (by decide +kernel) (x_at hX hI.2.2.1 xs_132_134_136) (by rw [hml]; exact hl.1) hX.2.2.2.2.1 hlk d_x_play_36 d_x_play_39 d_x_play_40 d_x_play_42 d_x_play_45 (Nat.lt_of_lt_of_le (by decide) hfr) (Nat.le_trans (by decide) hlc) hX.2.2.2.2.2.1 hX.2.2.2.2.2.2 (by decide) (by decide) hI.2.2.1.2.2 (x_mk hK hI h _)
  · have h := h.2 hc
    exact x_throw (own := "ShortBridge") (cls := "java/lang/IllegalStateException") (text := "there is no play") (names := ["java/lang/RuntimeException", "java/lang/Exception"]) (ik := 93) (is := 130) (ic := 97) hx hb hX.2.2.2.1 hown (by decide +kernel) (by decide +kernel) (x_at hX hI.2.2.1 xs_93_130_97) (by rw [hml]; exact hl.1) hX.2.2.2.2.1 hlk d_x_play_8 d_x_play_11 d_x_play_12 d_x_play_14 d_x_play_17 (Nat.lt_of_lt_of_le (by decide) hfr) (Nat.le_trans (by decide) hlc) hX.2.2.2.2.2.1 hX.2.2.2.2.2.2 (by decide) (by decide) hI.2.2.1.2.2 (x_mk hK hI h _)
def w_x_score  (u : ZS) (post : Int32 → ZS → Prop) (exc : String → ZS → Prop) : Prop := w_x_phase  u (fun r1 u2 => (r1 = 3 → w_x_scoreOfSide0  u2 (fun r3 u4 => post r3 u4)) ∧ (¬ (r1 = 3) → exc "java/lang/IllegalStateException" u2))
set_option maxRecDepth 100000 in
set_option maxHeartbeats 4000000 in
theorem t_x_score (l : Launch) (htr : l.stackTraces = false) {s0 : State} (hF : xF s0) (D : va_G) (ad : Nat → Nat) (ca : Nat → ClassId) (had : ∀ k, s0.heap.size ≤ ad k)  {u : ZS} {post : Int32 → ZS → Prop} {exc : String → ZS → Prop} (h : w_x_score  u post exc) (sz : Nat) : xM l y_x_score (Cond.code y_x_score c_x_score 1 (some .int) :: zG) { frames := 6, cells := 1, slots := 6, locals := 125 } (va_Pc [.ref (ad 0)] (fun U => zP D (cT ca) zNs (cW ad ca) sz u U ∧ xO s0 U)) (va_Qi post (zE D (cT ca) (cW ad ca) (va_A (cW ad ca u) sz)) (va_A (cW ad ca u) sz)) (xC D ad ca (va_A (cW ad ca u) sz) exc) 1 6 (va_A (cW ad ca u) sz) := by
  refine x_of (cc := c_x_score) (maxL := 1) (ret := (some .int)) (Qf := fun A => va_Qi post (zE D (cT ca) (cW ad ca) A) A) htr hF had (Nat.le_refl _) (Nat.le_refl _) (by decide) (Nat.le_of_ble_eq_true rfl) ?_ sz
  intro p e s m args below meth c ls A cx hX hI hl
  have cx0 := cx
  obtain ⟨hx, hb, hml, hown, hts, hN, hK, hr, hlk, hfr, hlc⟩ := cx
  have hl : lv_has ls 1 [(0, .ref (ad 0))] := hl
  unfold w_x_score at h
  refine lv_aload_n hx hb d_x_score_0 rfl (lv_at hl 0 rfl) ?_
  refine zr_i (va_runV (As := []) (rest := []) ⟨hx, hb, hml, hown, hts⟩ (t_x_phase l D ad ca h _) (cwV 0 hts (zg_V q_258 q_235 q_236 q_39 q_237) rfl rfl rfl ⟨rfl, hd_x_phase⟩ ⟨Nat.le_trans (by decide) hfr, Nat.le_trans (by decide) hlc⟩) (z_preV zNs_ok hK hN hI 0 0 rfl rfl _) rfl rfl hl.1 rfl (lv_room (Nat.le_of_ble_eq_true rfl)) d_x_score_1 ⟨Nat.zero_le _, Nat.zero_le _⟩) hI ?_
  intro r1 u2 H locs h hI
  refine lv_iconst (v := 3) hx hb d_x_score_4 zc_iconst_3 ?_
  refine lv_icmp_eq hx hb d_x_score_5 rfl (fun hc => ?_) (fun hc => ?_)
  · have h := h.1 hc
    refine lv_aload_n hx hb d_x_score_18 rfl (lv_at hl 0 rfl) ?_
    refine zr_i (va_runV (As := []) (rest := []) ⟨hx, hb, hml, hown, hts⟩ (t_x_scoreOfSide0 l D ad ca h _) (cwV 0 hts (zg_V q_522 q_524 q_13 q_39 q_525) rfl rfl rfl ⟨rfl, hd_x_scoreOfSide0⟩ ⟨Nat.le_trans (by decide) hfr, Nat.le_trans (by decide) hlc⟩) (z_preV zNs_ok hK hN hI 0 0 rfl rfl _) rfl rfl hl.1 rfl (lv_room (Nat.le_of_ble_eq_true rfl)) d_x_score_19 ⟨Nat.zero_le _, Nat.zero_le _⟩) hI ?_
    intro r3 u4 H locs h hI
    refine W.widen (k := 1) (n := 6) (Nat.zero_le _) (Nat.zero_le _) ?_
    exact x_ret (zret_i hx hb hr hlk hK hI h d_x_score_22)
  · have h := h.2 hc
    exact x_throw (own := "ShortBridge") (cls := "java/lang/IllegalStateException") (text := "the board is not over") (names := ["java/lang/RuntimeException", "java/lang/Exception"]) (ik := 93) (is := 163) (ic := 97) hx hb hX.2.2.2.1 hown (by decide +kernel) (by decide +kernel) (x_at hX hI.2.2.1 xs_93_163_97) (by rw [hml]; exact hl.1) hX.2.2.2.2.1 hlk d_x_score_8 d_x_score_11 d_x_score_12 d_x_score_14 d_x_score_17 (Nat.lt_of_lt_of_le (by decide) hfr) (Nat.le_trans (by decide) hlc) hX.2.2.2.2.2.1 hX.2.2.2.2.2.2 (by decide) (by decide) hI.2.2.1.2.2 (x_mk hK hI h _)
def w_x_solve  (u : ZS) (post : Int32 → ZS → Prop) (exc : String → ZS → Prop) : Prop := w_x_phase  u (fun r1 u2 => (r1 = 2 → (4 ≤ (fI u2 4) → w_au_declarer  u2 (fun r3 u4 => w_x_sideOf r3 u4 (fun r5 u6 => w_so_tricksOf r5 u6 (fun r7 u8 => post r7 u8)))) ∧ (¬ (4 ≤ (fI u2 4)) → exc "java/lang/UnsupportedOperationException" u2)) ∧ (¬ (r1 = 2) → exc "java/lang/IllegalStateException" u2))
set_option maxRecDepth 100000 in
set_option maxHeartbeats 4000000 in
theorem t_x_solve (l : Launch) (htr : l.stackTraces = false) {s0 : State} (hF : xF s0) (D : va_G) (ad : Nat → Nat) (ca : Nat → ClassId) (had : ∀ k, s0.heap.size ≤ ad k)  {u : ZS} {post : Int32 → ZS → Prop} {exc : String → ZS → Prop} (h : w_x_solve  u post exc) (sz : Nat) : xM l y_x_solve (Cond.code y_x_solve c_x_solve 1 (some .int) :: zG) { frames := 54, cells := 1, slots := 6, locals := 1529 } (va_Pc [.ref (ad 0)] (fun U => zP D (cT ca) zNs (cW ad ca) sz u U ∧ xO s0 U)) (va_Qi post (zE D (cT ca) (cW ad ca) (va_A (cW ad ca u) sz)) (va_A (cW ad ca u) sz)) (xC D ad ca (va_A (cW ad ca u) sz) exc) 1 6 (va_A (cW ad ca u) sz) := by
  refine x_of (cc := c_x_solve) (maxL := 1) (ret := (some .int)) (Qf := fun A => va_Qi post (zE D (cT ca) (cW ad ca) A) A) htr hF had (Nat.le_refl _) (Nat.le_refl _) (by decide) (Nat.le_of_ble_eq_true rfl) ?_ sz
  intro p e s m args below meth c ls A cx hX hI hl
  have cx0 := cx
  obtain ⟨hx, hb, hml, hown, hts, hN, hK, hr, hlk, hfr, hlc⟩ := cx
  have hl : lv_has ls 1 [(0, .ref (ad 0))] := hl
  unfold w_x_solve at h
  refine lv_aload_n hx hb d_x_solve_0 rfl (lv_at hl 0 rfl) ?_
  refine zr_i (va_runV (As := []) (rest := []) ⟨hx, hb, hml, hown, hts⟩ (t_x_phase l D ad ca h _) (cwV 0 hts (zg_V q_258 q_235 q_236 q_39 q_237) rfl rfl rfl ⟨rfl, hd_x_phase⟩ ⟨Nat.le_trans (by decide) hfr, Nat.le_trans (by decide) hlc⟩) (z_preV zNs_ok hK hN hI 0 0 rfl rfl _) rfl rfl hl.1 rfl (lv_room (Nat.le_of_ble_eq_true rfl)) d_x_solve_1 ⟨Nat.zero_le _, Nat.zero_le _⟩) hI ?_
  intro r1 u2 H locs h hI
  refine lv_iconst (v := 2) hx hb d_x_solve_4 zc_iconst_2 ?_
  refine lv_icmp_eq hx hb d_x_solve_5 rfl (fun hc => ?_) (fun hc => ?_)
  · have h := h.1 hc
    refine lv_aload_n hx hb d_x_solve_18 rfl (lv_at hl 0 rfl) ?_
    refine cg_X_hands hx hb hts hown hK hI (hts _ q_152) d_x_solve_19 ?_
    refine cg_Hands_count_n hx hb hts hown hK hI (va_Nw.use rfl (hN _ nw_8)) d_x_solve_22 ?_
    refine lv_iconst (v := 4) hx hb d_x_solve_25 zc_iconst_4 ?_
    refine lv_icmp_ge hx hb d_x_solve_26 rfl (fun hc => ?_) (fun hc => ?_)
    · have h := h.1 hc
      refine lv_aload_n hx hb d_x_solve_39 rfl (lv_at hl 0 rfl) ?_
      refine cg_X_hands hx hb hts hown hK hI (hts _ q_152) d_x_solve_40 ?_
      refine lv_aload_n hx hb d_x_solve_43 rfl (lv_at hl 0 rfl) ?_
      refine cg_X_auction hx hb hts hown hK hI (hts _ q_151) d_x_solve_44 ?_
      refine zr_i (va_runV (As := []) (rest := [.ref (ad 3)]) ⟨hx, hb, hml, hown, hts⟩ (t_au_declarer l D ad ca h _) (cwV 0 hts (zg_V q_304 q_305 q_306 q_41 q_307) rfl rfl rfl ⟨rfl, hd_au_declarer⟩ ⟨Nat.le_trans (by decide) hfr, Nat.le_trans (by decide) hlc⟩) (z_preV zNs_ok hK hN hI 2 2 rfl rfl _) rfl rfl hl.1 rfl (lv_room (Nat.le_of_ble_eq_true rfl)) d_x_solve_47 ⟨Nat.zero_le _, Nat.zero_le _⟩) hI ?_
      intro r3 u4 H locs h hI
      refine zr_i (va_runS (As := [.int r3]) (rest := [.ref (ad 3)]) ⟨hx, hb, hml, hown, hts⟩ (t_x_sideOf l D ad ca h _) (va_cwS 1 hts (zg_S q_526 q_313 q_39 q_314) rfl rfl rfl hd_x_sideOf ⟨Nat.le_trans (by decide) hfr, Nat.le_trans (by decide) hlc⟩) (z_preS zNs_ok hK hN hI _) rfl rfl hl.1 rfl (lv_room (Nat.le_of_ble_eq_true rfl)) d_x_solve_50 ⟨Nat.zero_le _, Nat.zero_le _⟩) hI ?_
      intro r5 u6 H locs h hI
      refine zr_i (va_runS (As := [.ref (ad 3), .int r5]) (rest := []) ⟨hx, hb, hml, hown, hts⟩ (t_so_tricksOf l D ad ca h _) (va_cwS 2 hts (zg_S q_557 q_558 q_53 q_559) rfl rfl rfl hd_so_tricksOf ⟨Nat.le_trans (by decide) hfr, Nat.le_trans (by decide) hlc⟩) (z_preS zNs_ok hK hN hI _) rfl rfl hl.1 rfl (lv_room (Nat.le_of_ble_eq_true rfl)) d_x_solve_53 ⟨Nat.zero_le _, Nat.zero_le _⟩) hI ?_
      intro r7 u8 H locs h hI
      refine W.widen (k := 1) (n := 6) (Nat.zero_le _) (Nat.zero_le _) ?_
      exact x_ret (zret_i hx hb hr hlk hK hI h d_x_solve_56)
    · have h := h.2 hc
      exact x_throw (own := "ShortBridge") (cls := "java/lang/UnsupportedOperationException") (text := "some player has 5 cards") (names := ["java/lang/RuntimeException", "java/lang/Exception"]) (ik := 111) (is := 168) (ic := 115) hx hb hX.2.2.2.1 hown (by decide +kernel) (by decide +kernel) (x_at hX hI.2.2.1 xs_111_168_115) (by rw [hml]; exact hl.1) hX.2.2.2.2.1 hlk d_x_solve_29 d_x_solve_32 d_x_solve_33 d_x_solve_35 d_x_solve_38 (Nat.lt_of_lt_of_le (by decide) hfr) (Nat.le_trans (by decide) hlc) hX.2.2.2.2.2.1 hX.2.2.2.2.2.2 (by decide) (by decide) hI.2.2.1.2.2 (x_mk hK hI h _)
  · have h := h.2 hc
    exact x_throw (own := "ShortBridge") (cls := "java/lang/IllegalStateException") (text := "there is no play") (names := ["java/lang/RuntimeException", "java/lang/Exception"]) (ik := 93) (is := 130) (ic := 97) hx hb hX.2.2.2.1 hown (by decide +kernel) (by decide +kernel) (x_at hX hI.2.2.1 xs_93_130_97) (by rw [hml]; exact hl.1) hX.2.2.2.2.1 hlk d_x_solve_8 d_x_solve_11 d_x_solve_12 d_x_solve_14 d_x_solve_17 (Nat.lt_of_lt_of_le (by decide) hfr) (Nat.le_trans (by decide) hlc) hX.2.2.2.2.2.1 hX.2.2.2.2.2.2 (by decide) (by decide) hI.2.2.1.2.2 (x_mk hK hI h _)
def w_x_record  (u : ZS) (post : Int32 → ZS → Prop) (exc : String → ZS → Prop) : Prop := w_x_phase  u (fun r1 u2 => (r1 = 3 → w_re_areFull  u2 (fun r3 u4 => (r3 = 0 → w_x_scoreOfSide0  u4 (fun r5 u6 => w_re_add (fJ u4 0) r5 u6 (fun u8 => post (fI u8 6) u8))) ∧ (¬ (r3 = 0) → exc "java/lang/UnsupportedOperationException" u4))) ∧ (¬ (r1 = 3) → exc "java/lang/IllegalStateException" u2))
set_option maxRecDepth 100000 in
set_option maxHeartbeats 4000000 in
theorem t_x_record (l : Launch) (htr : l.stackTraces = false) {s0 : State} (hF : xF s0) (D : va_G) (ad : Nat → Nat) (ca : Nat → ClassId) (had : ∀ k, s0.heap.size ≤ ad k)  {u : ZS} {post : Int32 → ZS → Prop} {exc : String → ZS → Prop} (h : w_x_record  u post exc) (sz : Nat) : xM l y_x_record (Cond.code y_x_record c_x_record 1 (some .int) :: zG) { frames := 6, cells := 1, slots := 6, locals := 125 } (va_Pc [.ref (ad 0)] (fun U => zP D (cT ca) zNs (cW ad ca) sz u U ∧ xO s0 U)) (va_Qi post (zE D (cT ca) (cW ad ca) (va_A (cW ad ca u) sz)) (va_A (cW ad ca u) sz)) (xC D ad ca (va_A (cW ad ca u) sz) exc) 1 6 (va_A (cW ad ca u) sz) := by
  refine x_of (cc := c_x_record) (maxL := 1) (ret := (some .int)) (Qf := fun A => va_Qi post (zE D (cT ca) (cW ad ca) A) A) htr hF had (Nat.le_refl _) (Nat.le_refl _) (by decide) (Nat.le_of_ble_eq_true rfl) ?_ sz
  intro p e s m args below meth c ls A cx hX hI hl
  have cx0 := cx
  obtain ⟨hx, hb, hml, hown, hts, hN, hK, hr, hlk, hfr, hlc⟩ := cx
  have hl : lv_has ls 1 [(0, .ref (ad 0))] := hl
  unfold w_x_record at h
  refine lv_aload_n hx hb d_x_record_0 rfl (lv_at hl 0 rfl) ?_
  refine zr_i (va_runV (As := []) (rest := []) ⟨hx, hb, hml, hown, hts⟩ (t_x_phase l D ad ca h _) (cwV 0 hts (zg_V q_258 q_235 q_236 q_39 q_237) rfl rfl rfl ⟨rfl, hd_x_phase⟩ ⟨Nat.le_trans (by decide) hfr, Nat.le_trans (by decide) hlc⟩) (z_preV zNs_ok hK hN hI 0 0 rfl rfl _) rfl rfl hl.1 rfl (lv_room (Nat.le_of_ble_eq_true rfl)) d_x_record_1 ⟨Nat.zero_le _, Nat.zero_le _⟩) hI ?_
  intro r1 u2 H locs h hI
  refine lv_iconst (v := 3) hx hb d_x_record_4 zc_iconst_3 ?_
  refine lv_icmp_eq hx hb d_x_record_5 rfl (fun hc => ?_) (fun hc => ?_)
  · have h := h.1 hc
    refine lv_aload_n hx hb d_x_record_18 rfl (lv_at hl 0 rfl) ?_
    refine cg_X_results hx hb hts hown hK hI (hts _ q_153) d_x_record_19 ?_
    refine zr_i (va_runV (As := []) (rest := []) ⟨hx, hb, hml, hown, hts⟩ (t_re_areFull l D ad ca h _) (cwV 0 hts (zg_V q_589 q_590 q_591 q_43 q_592) rfl rfl rfl ⟨rfl, hd_re_areFull⟩ ⟨Nat.le_trans (by decide) hfr, Nat.le_trans (by decide) hlc⟩) (z_preV zNs_ok hK hN hI 4 4 rfl rfl _) rfl rfl hl.1 rfl (lv_room (Nat.le_of_ble_eq_true rfl)) d_x_record_22 ⟨Nat.zero_le _, Nat.zero_le _⟩) hI ?_
    intro r3 u4 H locs h hI
    refine lv_if_eq hx hb d_x_record_25 rfl (fun hc => ?_) (fun hc => ?_)
    · have h := h.1 hc
      refine lv_aload_n hx hb d_x_record_38 rfl (lv_at hl 0 rfl) ?_
      refine cg_X_results hx hb hts hown hK hI (hts _ q_153) d_x_record_39 ?_
      refine lv_aload_n hx hb d_x_record_42 rfl (lv_at hl 0 rfl) ?_
      refine cg_X_dealt hx hb hts hown hK hI (hts _ q_150) d_x_record_43 ?_
      refine cg_Deal_rank_n hx hb hts hown hK hI (va_Nw.use rfl (hN _ nw_2)) d_x_record_46 ?_
      refine lv_aload_n hx hb d_x_record_49 rfl (lv_at hl 0 rfl) ?_
      refine zr_i (va_runV (As := []) (rest := [.long (fJ u4 0), .ref (ad 4)]) ⟨hx, hb, hml, hown, hts⟩ (t_x_scoreOfSide0 l D ad ca h _) (cwV 0 hts (zg_V q_522 q_524 q_13 q_39 q_525) rfl rfl rfl ⟨rfl, hd_x_scoreOfSide0⟩ ⟨Nat.le_trans (by decide) hfr, Nat.le_trans (by decide) hlc⟩) (z_preV zNs_ok hK hN hI 0 0 rfl rfl _) rfl rfl hl.1 rfl (lv_room (Nat.le_of_ble_eq_true rfl)) d_x_record_50 ⟨Nat.zero_le _, Nat.zero_le _⟩) hI ?_
      intro r5 u6 H locs h hI
      refine zr_v (va_runV (As := [.long (fJ u4 0), .int r5]) (rest := []) ⟨hx, hb, hml, hown, hts⟩ (t_re_add l D ad ca h _) (cwV 2 hts (zg_V q_594 q_595 q_596 q_43 q_597) rfl rfl rfl ⟨rfl, hd_re_add⟩ ⟨Nat.le_trans (by decide) hfr, Nat.le_trans (by decide) hlc⟩) (z_preV zNs_ok hK hN hI 4 4 rfl rfl _) rfl rfl hl.1 rfl (lv_room (Nat.le_of_ble_eq_true rfl)) d_x_record_53 ⟨Nat.zero_le _, Nat.zero_le _⟩) hI ?_
      intro u8 H locs h hI
      refine lv_aload_n hx hb d_x_record_56 rfl (lv_at hl 0 rfl) ?_
      refine cg_X_results hx hb hts hown hK hI (hts _ q_153) d_x_record_57 ?_
      refine cg_Results_count_n hx hb hts hown hK hI (va_Nw.use rfl (hN _ nw_11)) d_x_record_60 ?_
      refine W.widen (k := 1) (n := 6) (Nat.zero_le _) (Nat.zero_le _) ?_
      exact x_ret (zret_i hx hb hr hlk hK hI h d_x_record_63)
    · have h := h.2 hc
      exact x_throw (own := "ShortBridge") (cls := "java/lang/UnsupportedOperationException") (text := "there are 12 results") (names := ["java/lang/RuntimeException", "java/lang/Exception"]) (ik := 111) (is := 182) (ic := 115) hx hb hX.2.2.2.1 hown (by decide +kernel) (by decide +kernel) (x_at hX hI.2.2.1 xs_111_182_115) (by rw [hml]; exact hl.1) hX.2.2.2.2.1 hlk d_x_record_28 d_x_record_31 d_x_record_32 d_x_record_34 d_x_record_37 (Nat.lt_of_lt_of_le (by decide) hfr) (Nat.le_trans (by decide) hlc) hX.2.2.2.2.2.1 hX.2.2.2.2.2.2 (by decide) (by decide) hI.2.2.1.2.2 (x_mk hK hI h _)
  · have h := h.2 hc
    exact x_throw (own := "ShortBridge") (cls := "java/lang/IllegalStateException") (text := "the board is not over") (names := ["java/lang/RuntimeException", "java/lang/Exception"]) (ik := 93) (is := 163) (ic := 97) hx hb hX.2.2.2.1 hown (by decide +kernel) (by decide +kernel) (x_at hX hI.2.2.1 xs_93_163_97) (by rw [hml]; exact hl.1) hX.2.2.2.2.1 hlk d_x_record_8 d_x_record_11 d_x_record_12 d_x_record_14 d_x_record_17 (Nat.lt_of_lt_of_le (by decide) hfr) (Nat.le_trans (by decide) hlc) hX.2.2.2.2.2.1 hX.2.2.2.2.2.2 (by decide) (by decide) hI.2.2.1.2.2 (x_mk hK hI h _)
def b_x_points_22  (post : Int32 → ZS → Prop) (exc : String → ZS → Prop)  (u : ZS) : Prop := exc "java/lang/IndexOutOfBoundsException" u
set_option maxRecDepth 100000 in
set_option maxHeartbeats 4000000 in
theorem k_x_points_22 {p : Program} {l : Launch} {e : Env} {R : Room} {s : State} {m : MethodId} {args : Array Value} {below : List Frame} {meth : Method} {c : Code} {D : va_G} {A : Nat → Prop} {ad : Nat → Nat} {ca : Nat → ClassId} {s0 : State} (hX : xX l R c s0 s A)  {post : Int32 → ZS → Prop} {exc : String → ZS → Prop} (cx : zx p R s m args meth c c_x_points 3 6 90 "ShortBridge" (some .int) zG zNs D (cT ca)) {u : ZS} {H : Heap} {locs : List Loc} {ls : Array Slot} (hI : zw D A s.heap (cW ad ca u) H locs) (hl : lv_has ls 3 []) (h : b_x_points_22 post exc  u) : W p l e R s m args below meth c H locs 0 0 (xMQ below (va_Qi post (zE D (cT ca) (cW ad ca) A) A) (xC D ad ca A exc) args s 1 6 A) (F0 m 22 ls []) := by
  have cx0 := cx
  obtain ⟨hx, hb, hml, hown, hts, hN, hK, hr, hlk, hfr, hlc⟩ := cx
  unfold b_x_points_22 at h
  exact x_throw (own := "ShortBridge") (cls := "java/lang/IndexOutOfBoundsException") (text := "there is no such result") (names := ["java/lang/RuntimeException", "java/lang/Exception"]) (ik := 191) (is := 193) (ic := 195) hx hb hX.2.2.2.1 hown (by decide +kernel) (by decide +kernel) (x_at hX hI.2.2.1 xs_191_193_195) (by rw [hml]; exact hl.1) hX.2.2.2.2.1 hlk d_x_points_22 d_x_points_25 d_x_points_26 d_x_points_28 d_x_points_31 (Nat.lt_of_lt_of_le (by decide) hfr) (Nat.le_trans (by decide) hlc) hX.2.2.2.2.2.1 hX.2.2.2.2.2.2 (by decide) (by decide) hI.2.2.1.2.2 (x_mk hK hI h _)
def w_x_points (v1 : Int32) (v2 : Int32) (u : ZS) (post : Int32 → ZS → Prop) (exc : String → ZS → Prop) : Prop := w_re_contain v1 u (fun r1 u2 => (r1 = 0 → b_x_points_22 post exc u2) ∧ (¬ (r1 = 0) → w_re_contain v2 u2 (fun r3 u4 => (¬ r3 = 0 → vp_in v1 12 ∧ (vp_in v2 12 ∧ (w_sc_pointsOf ((aI u4 8 (Int32.toNatClampNeg v1)) - (aI u4 8 (Int32.toNatClampNeg v2))) u4 (fun r5 u6 => post r5 u6)))) ∧ (r3 = 0 → b_x_points_22 post exc u4))))
set_option maxRecDepth 100000 in
set_option maxHeartbeats 4000000 in
theorem t_x_points (l : Launch) (htr : l.stackTraces = false) {s0 : State} (hF : xF s0) (D : va_G) (ad : Nat → Nat) (ca : Nat → ClassId) (had : ∀ k, s0.heap.size ≤ ad k) {v1 : Int32} {v2 : Int32} {u : ZS} {post : Int32 → ZS → Prop} {exc : String → ZS → Prop} (h : w_x_points v1 v2 u post exc) (sz : Nat) : xM l y_x_points (Cond.code y_x_points c_x_points 3 (some .int) :: zG) { frames := 6, cells := 1, slots := 6, locals := 90 } (va_Pc [.ref (ad 0), .int v1, .int v2] (fun U => zP D (cT ca) zNs (cW ad ca) sz u U ∧ xO s0 U)) (va_Qi post (zE D (cT ca) (cW ad ca) (va_A (cW ad ca u) sz)) (va_A (cW ad ca u) sz)) (xC D ad ca (va_A (cW ad ca u) sz) exc) 1 6 (va_A (cW ad ca u) sz) := by
  refine x_of (cc := c_x_points) (maxL := 3) (ret := (some .int)) (Qf := fun A => va_Qi post (zE D (cT ca) (cW ad ca) A) A) htr hF had (Nat.le_refl _) (Nat.le_refl _) (by decide) (Nat.le_of_ble_eq_true rfl) ?_ sz
  intro p e s m args below meth c ls A cx hX hI hl
  have cx0 := cx
  obtain ⟨hx, hb, hml, hown, hts, hN, hK, hr, hlk, hfr, hlc⟩ := cx
  have hl : lv_has ls 3 [(0, .ref (ad 0)), (1, .int v1), (2, .int v2)] := hl
  unfold w_x_points at h
  refine lv_aload_n hx hb d_x_points_0 rfl (lv_at hl 0 rfl) ?_
  refine cg_X_results hx hb hts hown hK hI (hts _ q_153) d_x_points_1 ?_
  refine lv_iload_n hx hb d_x_points_4 rfl (lv_at hl 1 rfl) ?_
  refine zr_i (va_runV (As := [.int v1]) (rest := []) ⟨hx, hb, hml, hown, hts⟩ (t_re_contain l D ad ca h _) (cwV 1 hts (zg_V q_606 q_607 q_608 q_43 q_609) rfl rfl rfl ⟨rfl, hd_re_contain⟩ ⟨Nat.le_trans (by decide) hfr, Nat.le_trans (by decide) hlc⟩) (z_preV zNs_ok hK hN hI 4 4 rfl rfl _) rfl rfl hl.1 rfl (lv_room (Nat.le_of_ble_eq_true rfl)) d_x_points_5 ⟨Nat.zero_le _, Nat.zero_le _⟩) hI ?_
  intro r1 u2 H locs h hI
  refine lv_if_eq hx hb d_x_points_8 rfl (fun hc => ?_) (fun hc => ?_)
  · have h := h.1 hc
    exact k_x_points_22 hX cx0  hI (lv_sub hl [] rfl) h
  · have h := h.2 hc
    refine lv_aload_n hx hb d_x_points_11 rfl (lv_at hl 0 rfl) ?_
    refine cg_X_results hx hb hts hown hK hI (hts _ q_153) d_x_points_12 ?_
    refine lv_iload_n hx hb d_x_points_15 rfl (lv_at hl 2 rfl) ?_
    refine zr_i (va_runV (As := [.int v2]) (rest := []) ⟨hx, hb, hml, hown, hts⟩ (t_re_contain l D ad ca h _) (cwV 1 hts (zg_V q_606 q_607 q_608 q_43 q_609) rfl rfl rfl ⟨rfl, hd_re_contain⟩ ⟨Nat.le_trans (by decide) hfr, Nat.le_trans (by decide) hlc⟩) (z_preV zNs_ok hK hN hI 4 4 rfl rfl _) rfl rfl hl.1 rfl (lv_room (Nat.le_of_ble_eq_true rfl)) d_x_points_16 ⟨Nat.zero_le _, Nat.zero_le _⟩) hI ?_
    intro r3 u4 H locs h hI
    refine lv_if_ne hx hb d_x_points_19 rfl (fun hc => ?_) (fun hc => ?_)
    · have h := h.1 hc
      refine lv_aload_n hx hb d_x_points_32 rfl (lv_at hl 0 rfl) ?_
      refine cg_X_results hx hb hts hown hK hI (hts _ q_153) d_x_points_33 ?_
      refine cg_Results_scores_n hx hb hts hown hK hI (va_Nw.use rfl (hN _ nw_10)) d_x_points_36 ?_
      refine lv_iload_n hx hb d_x_points_39 rfl (lv_at hl 1 rfl) ?_
      obtain ⟨hi, h⟩ := h
      refine ca_scores hx hb hK hI hi d_x_points_40 ?_
      refine lv_aload_n hx hb d_x_points_41 rfl (lv_at hl 0 rfl) ?_
      refine cg_X_results hx hb hts hown hK hI (hts _ q_153) d_x_points_42 ?_
      refine cg_Results_scores_n hx hb hts hown hK hI (va_Nw.use rfl (hN _ nw_10)) d_x_points_45 ?_
      refine lv_iload_n hx hb d_x_points_48 rfl (lv_at hl 2 rfl) ?_
      obtain ⟨hi, h⟩ := h
      refine ca_scores hx hb hK hI hi d_x_points_49 ?_
      refine lv_isub hx hb d_x_points_50 ?_
      refine zr_i (va_runS (As := [.int ((aI u4 8 (Int32.toNatClampNeg v1)) - (aI u4 8 (Int32.toNatClampNeg v2)))]) (rest := []) ⟨hx, hb, hml, hown, hts⟩ (t_sc_pointsOf l hX.1 D ad ca h _) (va_cwS 1 hts (zg_S q_626 q_627 q_52 q_628) rfl rfl rfl hd_sc_pointsOf ⟨Nat.le_trans (by decide) hfr, Nat.le_trans (by decide) hlc⟩) (p_preS hX hK hN hI _) rfl rfl hl.1 rfl (lv_room (Nat.le_of_ble_eq_true rfl)) d_x_points_51 ⟨Nat.zero_le _, Nat.zero_le _⟩) hI ?_
      intro r5 u6 H locs h hI
      refine W.widen (k := 1) (n := 6) (Nat.zero_le _) (Nat.zero_le _) ?_
      exact x_ret (zret_i hx hb hr hlk hK hI h d_x_points_54)
    · have h := h.2 hc
      exact k_x_points_22 hX cx0  hI (lv_sub hl [] rfl) h
def w_x_places (v1 : Int32) (u : ZS) (post : Int32 → ZS → Prop) (exc : String → ZS → Prop) : Prop := w_re_contain v1 u (fun r1 u2 => (¬ r1 = 0 → w_re_compare v1 u2 (fun r3 u4 => post r3 u4)) ∧ (r1 = 0 → exc "java/lang/IndexOutOfBoundsException" u2))
set_option maxRecDepth 100000 in
set_option maxHeartbeats 4000000 in
theorem t_x_places (l : Launch) (htr : l.stackTraces = false) {s0 : State} (hF : xF s0) (D : va_G) (ad : Nat → Nat) (ca : Nat → ClassId) (had : ∀ k, s0.heap.size ≤ ad k) {v1 : Int32} {u : ZS} {post : Int32 → ZS → Prop} {exc : String → ZS → Prop} (h : w_x_places v1 u post exc) (sz : Nat) : xM l y_x_places (Cond.code y_x_places c_x_places 2 (some .int) :: zG) { frames := 6, cells := 1, slots := 6, locals := 90 } (va_Pc [.ref (ad 0), .int v1] (fun U => zP D (cT ca) zNs (cW ad ca) sz u U ∧ xO s0 U)) (va_Qi post (zE D (cT ca) (cW ad ca) (va_A (cW ad ca u) sz)) (va_A (cW ad ca u) sz)) (xC D ad ca (va_A (cW ad ca u) sz) exc) 1 6 (va_A (cW ad ca u) sz) := by
  refine x_of (cc := c_x_places) (maxL := 2) (ret := (some .int)) (Qf := fun A => va_Qi post (zE D (cT ca) (cW ad ca) A) A) htr hF had (Nat.le_refl _) (Nat.le_refl _) (by decide) (Nat.le_of_ble_eq_true rfl) ?_ sz
  intro p e s m args below meth c ls A cx hX hI hl
  have cx0 := cx
  obtain ⟨hx, hb, hml, hown, hts, hN, hK, hr, hlk, hfr, hlc⟩ := cx
  have hl : lv_has ls 2 [(0, .ref (ad 0)), (1, .int v1)] := hl
  unfold w_x_places at h
  refine lv_aload_n hx hb d_x_places_0 rfl (lv_at hl 0 rfl) ?_
  refine cg_X_results hx hb hts hown hK hI (hts _ q_153) d_x_places_1 ?_
  refine lv_iload_n hx hb d_x_places_4 rfl (lv_at hl 1 rfl) ?_
  refine zr_i (va_runV (As := [.int v1]) (rest := []) ⟨hx, hb, hml, hown, hts⟩ (t_re_contain l D ad ca h _) (cwV 1 hts (zg_V q_606 q_607 q_608 q_43 q_609) rfl rfl rfl ⟨rfl, hd_re_contain⟩ ⟨Nat.le_trans (by decide) hfr, Nat.le_trans (by decide) hlc⟩) (z_preV zNs_ok hK hN hI 4 4 rfl rfl _) rfl rfl hl.1 rfl (lv_room (Nat.le_of_ble_eq_true rfl)) d_x_places_5 ⟨Nat.zero_le _, Nat.zero_le _⟩) hI ?_
  intro r1 u2 H locs h hI
  refine lv_if_ne hx hb d_x_places_8 rfl (fun hc => ?_) (fun hc => ?_)
  · have h := h.1 hc
    refine lv_aload_n hx hb d_x_places_21 rfl (lv_at hl 0 rfl) ?_
    refine cg_X_results hx hb hts hown hK hI (hts _ q_153) d_x_places_22 ?_
    refine lv_iload_n hx hb d_x_places_25 rfl (lv_at hl 1 rfl) ?_
    refine zr_i (va_runV (As := [.int v1]) (rest := []) ⟨hx, hb, hml, hown, hts⟩ (t_re_compare l D ad ca h _) (cwV 1 hts (zg_V q_641 q_642 q_643 q_43 q_644) rfl rfl rfl ⟨rfl, hd_re_compare⟩ ⟨Nat.le_trans (by decide) hfr, Nat.le_trans (by decide) hlc⟩) (z_preV zNs_ok hK hN hI 4 4 rfl rfl _) rfl rfl hl.1 rfl (lv_room (Nat.le_of_ble_eq_true rfl)) d_x_places_26 ⟨Nat.zero_le _, Nat.zero_le _⟩) hI ?_
    intro r3 u4 H locs h hI
    refine W.widen (k := 1) (n := 6) (Nat.zero_le _) (Nat.zero_le _) ?_
    exact x_ret (zret_i hx hb hr hlk hK hI h d_x_places_29)
  · have h := h.2 hc
    exact x_throw (own := "ShortBridge") (cls := "java/lang/IndexOutOfBoundsException") (text := "there is no such result") (names := ["java/lang/RuntimeException", "java/lang/Exception"]) (ik := 191) (is := 193) (ic := 195) hx hb hX.2.2.2.1 hown (by decide +kernel) (by decide +kernel) (x_at hX hI.2.2.1 xs_191_193_195) (by rw [hml]; exact hl.1) hX.2.2.2.2.1 hlk d_x_places_11 d_x_places_14 d_x_places_15 d_x_places_17 d_x_places_20 (Nat.lt_of_lt_of_le (by decide) hfr) (Nat.le_trans (by decide) hlc) hX.2.2.2.2.2.1 hX.2.2.2.2.2.2 (by decide) (by decide) hI.2.2.1.2.2 (x_mk hK hI h _)
