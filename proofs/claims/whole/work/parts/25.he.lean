abbrev c_w_call : ByteArray := method_3_code
def y_w_call : MethodName := ⟨"ShortBridgeLaw", "call", "(LShortBridge;I)I"⟩
theorem d_w_call_0 : decode c_w_call 0 = .ok (.aload_n 0, 1) := by decide +kernel
theorem d_w_call_1 : decode c_w_call 1 = .ok (.iload_n 1, 1) := by decide +kernel
theorem d_w_call_2 : decode c_w_call 2 = .ok (.invokevirtual 7, 3) := by decide +kernel
theorem d_w_call_5 : decode c_w_call 5 = .ok (.goto 12, 3) := by decide +kernel
theorem d_w_call_8 : decode c_w_call 8 = .ok (.astore_n 2, 1) := by decide +kernel
theorem d_w_call_9 : decode c_w_call 9 = .ok (.iconst 1, 1) := by decide +kernel
theorem d_w_call_10 : decode c_w_call 10 = .ok (.ireturn, 1) := by decide +kernel
theorem d_w_call_11 : decode c_w_call 11 = .ok (.astore_n 2, 1) := by decide +kernel
theorem d_w_call_12 : decode c_w_call 12 = .ok (.iconst 2, 1) := by decide +kernel
theorem d_w_call_13 : decode c_w_call 13 = .ok (.ireturn, 1) := by decide +kernel
theorem d_w_call_14 : decode c_w_call 14 = .ok (.astore_n 2, 1) := by decide +kernel
theorem d_w_call_15 : decode c_w_call 15 = .ok (.iconst 3, 1) := by decide +kernel
theorem d_w_call_16 : decode c_w_call 16 = .ok (.ireturn, 1) := by decide +kernel
theorem d_w_call_17 : decode c_w_call 17 = .ok (.iconst 0, 1) := by decide +kernel
theorem d_w_call_18 : decode c_w_call 18 = .ok (.ireturn, 1) := by decide +kernel
abbrev c_w_play : ByteArray := method_4_code
def y_w_play : MethodName := ⟨"ShortBridgeLaw", "play", "(LShortBridge;I)I"⟩
theorem d_w_play_0 : decode c_w_play 0 = .ok (.aload_n 0, 1) := by decide +kernel
theorem d_w_play_1 : decode c_w_play 1 = .ok (.iload_n 1, 1) := by decide +kernel
theorem d_w_play_2 : decode c_w_play 2 = .ok (.invokevirtual 19, 3) := by decide +kernel
theorem d_w_play_5 : decode c_w_play 5 = .ok (.goto 12, 3) := by decide +kernel
theorem d_w_play_8 : decode c_w_play 8 = .ok (.astore_n 2, 1) := by decide +kernel
theorem d_w_play_9 : decode c_w_play 9 = .ok (.iconst 1, 1) := by decide +kernel
theorem d_w_play_10 : decode c_w_play 10 = .ok (.ireturn, 1) := by decide +kernel
theorem d_w_play_11 : decode c_w_play 11 = .ok (.astore_n 2, 1) := by decide +kernel
theorem d_w_play_12 : decode c_w_play 12 = .ok (.iconst 2, 1) := by decide +kernel
theorem d_w_play_13 : decode c_w_play 13 = .ok (.ireturn, 1) := by decide +kernel
theorem d_w_play_14 : decode c_w_play 14 = .ok (.astore_n 2, 1) := by decide +kernel
theorem d_w_play_15 : decode c_w_play 15 = .ok (.iconst 3, 1) := by decide +kernel
theorem d_w_play_16 : decode c_w_play 16 = .ok (.ireturn, 1) := by decide +kernel
theorem d_w_play_17 : decode c_w_play 17 = .ok (.iconst 0, 1) := by decide +kernel
theorem d_w_play_18 : decode c_w_play 18 = .ok (.ireturn, 1) := by decide +kernel
abbrev c_w_score : ByteArray := method_5_code
def y_w_score : MethodName := ⟨"ShortBridgeLaw", "score", "(LShortBridge;[J)I"⟩
theorem d_w_score_0 : decode c_w_score 0 = .ok (.aload_n 1, 1) := by decide +kernel
theorem d_w_score_1 : decode c_w_score 1 = .ok (.iconst 0, 1) := by decide +kernel
theorem d_w_score_2 : decode c_w_score 2 = .ok (.aload_n 0, 1) := by decide +kernel
theorem d_w_score_3 : decode c_w_score 3 = .ok (.invokevirtual 24, 3) := by decide +kernel
theorem d_w_score_6 : decode c_w_score 6 = .ok (.i2l, 1) := by decide +kernel
theorem d_w_score_7 : decode c_w_score 7 = .ok (.lastore, 1) := by decide +kernel
theorem d_w_score_8 : decode c_w_score 8 = .ok (.goto 6, 3) := by decide +kernel
theorem d_w_score_11 : decode c_w_score 11 = .ok (.astore_n 2, 1) := by decide +kernel
theorem d_w_score_12 : decode c_w_score 12 = .ok (.iconst 1, 1) := by decide +kernel
theorem d_w_score_13 : decode c_w_score 13 = .ok (.ireturn, 1) := by decide +kernel
theorem d_w_score_14 : decode c_w_score 14 = .ok (.iconst 0, 1) := by decide +kernel
theorem d_w_score_15 : decode c_w_score 15 = .ok (.ireturn, 1) := by decide +kernel
abbrev c_w_solve : ByteArray := method_6_code
def y_w_solve : MethodName := ⟨"ShortBridgeLaw", "solve", "(LShortBridge;[J)I"⟩
theorem d_w_solve_0 : decode c_w_solve 0 = .ok (.aload_n 1, 1) := by decide +kernel
theorem d_w_solve_1 : decode c_w_solve 1 = .ok (.iconst 0, 1) := by decide +kernel
theorem d_w_solve_2 : decode c_w_solve 2 = .ok (.aload_n 0, 1) := by decide +kernel
theorem d_w_solve_3 : decode c_w_solve 3 = .ok (.invokevirtual 28, 3) := by decide +kernel
theorem d_w_solve_6 : decode c_w_solve 6 = .ok (.i2l, 1) := by decide +kernel
theorem d_w_solve_7 : decode c_w_solve 7 = .ok (.lastore, 1) := by decide +kernel
theorem d_w_solve_8 : decode c_w_solve 8 = .ok (.goto 9, 3) := by decide +kernel
theorem d_w_solve_11 : decode c_w_solve 11 = .ok (.astore_n 2, 1) := by decide +kernel
theorem d_w_solve_12 : decode c_w_solve 12 = .ok (.iconst 1, 1) := by decide +kernel
theorem d_w_solve_13 : decode c_w_solve 13 = .ok (.ireturn, 1) := by decide +kernel
theorem d_w_solve_14 : decode c_w_solve 14 = .ok (.astore_n 2, 1) := by decide +kernel
theorem d_w_solve_15 : decode c_w_solve 15 = .ok (.iconst 2, 1) := by decide +kernel
theorem d_w_solve_16 : decode c_w_solve 16 = .ok (.ireturn, 1) := by decide +kernel
theorem d_w_solve_17 : decode c_w_solve 17 = .ok (.iconst 0, 1) := by decide +kernel
theorem d_w_solve_18 : decode c_w_solve 18 = .ok (.ireturn, 1) := by decide +kernel
abbrev c_w_record : ByteArray := method_7_code
def y_w_record : MethodName := ⟨"ShortBridgeLaw", "record", "(LShortBridge;[J)I"⟩
theorem d_w_record_0 : decode c_w_record 0 = .ok (.aload_n 1, 1) := by decide +kernel
theorem d_w_record_1 : decode c_w_record 1 = .ok (.iconst 0, 1) := by decide +kernel
theorem d_w_record_2 : decode c_w_record 2 = .ok (.aload_n 0, 1) := by decide +kernel
theorem d_w_record_3 : decode c_w_record 3 = .ok (.invokevirtual 31, 3) := by decide +kernel
theorem d_w_record_6 : decode c_w_record 6 = .ok (.i2l, 1) := by decide +kernel
theorem d_w_record_7 : decode c_w_record 7 = .ok (.lastore, 1) := by decide +kernel
theorem d_w_record_8 : decode c_w_record 8 = .ok (.goto 9, 3) := by decide +kernel
theorem d_w_record_11 : decode c_w_record 11 = .ok (.astore_n 2, 1) := by decide +kernel
theorem d_w_record_12 : decode c_w_record 12 = .ok (.iconst 1, 1) := by decide +kernel
theorem d_w_record_13 : decode c_w_record 13 = .ok (.ireturn, 1) := by decide +kernel
theorem d_w_record_14 : decode c_w_record 14 = .ok (.astore_n 2, 1) := by decide +kernel
theorem d_w_record_15 : decode c_w_record 15 = .ok (.iconst 2, 1) := by decide +kernel
theorem d_w_record_16 : decode c_w_record 16 = .ok (.ireturn, 1) := by decide +kernel
theorem d_w_record_17 : decode c_w_record 17 = .ok (.iconst 0, 1) := by decide +kernel
theorem d_w_record_18 : decode c_w_record 18 = .ok (.ireturn, 1) := by decide +kernel
abbrev c_w_points : ByteArray := method_8_code
def y_w_points : MethodName := ⟨"ShortBridgeLaw", "points", "(LShortBridge;II[J)I"⟩
theorem d_w_points_0 : decode c_w_points 0 = .ok (.aload_n 3, 1) := by decide +kernel
theorem d_w_points_1 : decode c_w_points 1 = .ok (.iconst 0, 1) := by decide +kernel
theorem d_w_points_2 : decode c_w_points 2 = .ok (.aload_n 0, 1) := by decide +kernel
theorem d_w_points_3 : decode c_w_points 3 = .ok (.iload_n 1, 1) := by decide +kernel
theorem d_w_points_4 : decode c_w_points 4 = .ok (.iload_n 2, 1) := by decide +kernel
theorem d_w_points_5 : decode c_w_points 5 = .ok (.invokevirtual 34, 3) := by decide +kernel
theorem d_w_points_8 : decode c_w_points 8 = .ok (.i2l, 1) := by decide +kernel
theorem d_w_points_9 : decode c_w_points 9 = .ok (.lastore, 1) := by decide +kernel
theorem d_w_points_10 : decode c_w_points 10 = .ok (.goto 7, 3) := by decide +kernel
theorem d_w_points_13 : decode c_w_points 13 = .ok (.astore 4, 2) := by decide +kernel
theorem d_w_points_15 : decode c_w_points 15 = .ok (.iconst 1, 1) := by decide +kernel
theorem d_w_points_16 : decode c_w_points 16 = .ok (.ireturn, 1) := by decide +kernel
theorem d_w_points_17 : decode c_w_points 17 = .ok (.iconst 0, 1) := by decide +kernel
theorem d_w_points_18 : decode c_w_points 18 = .ok (.ireturn, 1) := by decide +kernel
abbrev c_w_places : ByteArray := method_9_code
def y_w_places : MethodName := ⟨"ShortBridgeLaw", "places", "(LShortBridge;I[J)I"⟩
theorem d_w_places_0 : decode c_w_places 0 = .ok (.aload_n 2, 1) := by decide +kernel
theorem d_w_places_1 : decode c_w_places 1 = .ok (.iconst 0, 1) := by decide +kernel
theorem d_w_places_2 : decode c_w_places 2 = .ok (.aload_n 0, 1) := by decide +kernel
theorem d_w_places_3 : decode c_w_places 3 = .ok (.iload_n 1, 1) := by decide +kernel
theorem d_w_places_4 : decode c_w_places 4 = .ok (.invokevirtual 40, 3) := by decide +kernel
theorem d_w_places_7 : decode c_w_places 7 = .ok (.i2l, 1) := by decide +kernel
theorem d_w_places_8 : decode c_w_places 8 = .ok (.lastore, 1) := by decide +kernel
theorem d_w_places_9 : decode c_w_places 9 = .ok (.goto 6, 3) := by decide +kernel
theorem d_w_places_12 : decode c_w_places 12 = .ok (.astore_n 3, 1) := by decide +kernel
theorem d_w_places_13 : decode c_w_places 13 = .ok (.iconst 1, 1) := by decide +kernel
theorem d_w_places_14 : decode c_w_places 14 = .ok (.ireturn, 1) := by decide +kernel
theorem d_w_places_15 : decode c_w_places 15 = .ok (.iconst 0, 1) := by decide +kernel
theorem d_w_places_16 : decode c_w_places 16 = .ok (.ireturn, 1) := by decide +kernel
def w_w_call (v1 : Int32) (w : ZL) (post : Int32 → ZL → Prop) : Prop := w_x_call v1 w.1 (fun u1 => post 0 (u1, w.2)) (fun E u1 => (E = "java/lang/IllegalStateException" ∧ post 1 (u1, w.2)) ∨ (E = "java/lang/IllegalArgumentException" ∧ post 2 (u1, w.2)) ∨ (E = "java/lang/UnsupportedOperationException" ∧ post 3 (u1, w.2)))
set_option maxRecDepth 100000 in
set_option maxHeartbeats 4000000 in
theorem t_w_call (l : Launch) (htr : l.stackTraces = false) {s0 : State} (hF : xF s0) (hN0 : xN s0) (D : va_G) (ad : Nat → Nat) (ca : Nat → ClassId) (bd : Nat → Nat) (cb : Nat → ClassId) (od : Nat) (oc : ClassId) (had : ∀ k, s0.heap.size ≤ ad k) {v1 : Int32} {w : ZL} {post : Int32 → ZL → Prop} (h : w_w_call v1 w post) (sz : Nat) : Met l y_w_call (Cond.codeWith y_w_call c_w_call 3 (some .int) [(0, 5, 8, 13), (0, 5, 11, 15), (0, 5, 14, 17)] :: zG) { frames := 7, cells := 1, slots := 6, locals := 139 } (va_Pc [.ref (ad 0), .int v1] (fun U => lP D ad ca bd cb od oc sz w U ∧ xO s0 U ∧ ∀ q, va_A (lW ad ca bd cb od oc w) U.heap.size q → s0.heap.size ≤ q)) (va_Qi post (lE D ad ca bd cb od oc (va_A (lW ad ca bd cb od oc w) sz)) (va_A (lW ad ca bd cb od oc w) sz)) 1 6 (va_A (lW ad ca bd cb od oc w) sz) := by
  refine va_MetW (cc := c_w_call) (maxL := 3) (ret := (some .int)) (hh := [(0, 5, 8, 13), (0, 5, 11, 15), (0, 5, 14, 17)]) (by decide) rfl ?_
  intro p e s m args below meth c s₁ B hml hv
  obtain ⟨rfl, ⟨hsz, hP, hK, hD0, hN⟩, hO, hA0⟩ := hv
  have hx := B.exec
  have hb := B.bytes
  have hr := B.returns
  have hlk := B.notSynchronized
  have hts0 := atoms_spec (ws := Cond.codeWith y_w_call c_w_call 3 (some .int) [(0, 5, 8, 13), (0, 5, 11, 15), (0, 5, 14, 17)] :: zG) B.pre
  have hts : ∀ w ∈ zG, w.before _ s = true := fun w h => hts0 w (List.mem_cons_of_mem _ h)
  have hown : s.vm.findClass "ShortBridgeLaw" = some m.cls := findClass_of_methodNamed B.named
  have htab : c.exceptionTable.toList.map (fun h => (h.startPc, h.endPc, h.handlerPc, h.catchType)) = [(0, 5, 8, 13), (0, 5, 11, 15), (0, 5, 14, 17)] := by
    obtain ⟨m9, meth9, c9, hn9, h1, h2, -, -, h6, -⟩ := Cond.codeWith_spec (hts0 _ List.mem_cons_self)
    cases Option.some.inj (hn9.symm.trans B.named)
    cases Option.some.inj (h1.symm.trans B.method)
    cases Option.some.inj (h2.symm.trans (Stand.of_body B).code)
    exact h6
  obtain ⟨e0, l0, hl0, hf0, htab⟩ := List.map_eq_cons_iff.mp htab
  obtain ⟨e1, l1, hl1, hf1, htab⟩ := List.map_eq_cons_iff.mp htab
  obtain ⟨e2, l2, hl2, hf2, htab⟩ := List.map_eq_cons_iff.mp htab
  have hz3 := List.map_eq_nil_iff.mp htab
  subst hsz
  generalize hAe : va_A (lW ad ca bd cb od oc w) s.heap.size = A at hA0 ⊢
  have hI : zw D A s.heap (lW ad ca bd cb od oc w) s.heap [] := by rw [← hAe]; exact ⟨hP, hD0.self, va_S.rf, fun q h => Or.inr h⟩
  have hl := lv_entry [.ref (ad 0), .int v1] (n := 3) (Nat.le_of_ble_eq_true rfl)
  rw [lg_entry_eq]
  generalize (lg_sl [.ref (ad 0), .int v1] ++ List.replicate (3 - (lg_sl [.ref (ad 0), .int v1]).length) Slot.unset).toArray = ls at hl ⊢
  have hl : lv_has ls 3 [(0, .ref (ad 0)), (1, .int v1)] := hl
  unfold w_w_call at h
  refine lv_aload_n hx hb d_w_call_0 rfl (lv_at hl 0 rfl) ?_
  refine lv_iload_n hx hb d_w_call_1 rfl (lv_at hl 1 rfl) ?_
  refine x_callV (As := [.int v1]) (rest := []) ⟨hx, hb, hml, hown, hts⟩ (t_x_call l htr hF D ad ca had h s.heap.size) (cwV 1 hts (zg_V q_341 q_342 q_343 q_39 q_344) rfl rfl rfl ⟨rfl, hd_x_call⟩ ⟨Nat.le_of_ble_eq_true rfl, Nat.le_of_ble_eq_true rfl⟩) (h_preV hO hA0 (lKc hK) hN (lc_sub hI) _) rfl rfl hl.1 rfl (lv_room (Nat.le_of_ble_eq_true rfl)) d_w_call_2 ⟨Nat.le_of_ble_eq_true rfl, Nat.le_of_ble_eq_true rfl⟩ ?_ ?_
  · intro v st₀ t H1 L h0 ha0 ht ha1 hL hQ
    obtain ⟨⟨u1, hv, h, hB⟩, hFr⟩ := hQ
    cases hv
    obtain ⟨hk, hS⟩ := l_keep h0 ht hI.2.2.1 (z_free (lc_sub hI)) hL (z_free (lc_sub hI)) hFr
    have hI := lc_join hI hk (by rw [← ht]; exact hB.1) hB.2.2 hS
    refine W.eq (g2 := F0 m 5 ls []) rfl ?_
    refine lv_goto hx hb d_w_call_5 rfl ?_
    refine lv_iconst (v := 0) hx hb d_w_call_17 zc_iconst_0 ?_
    exact lret_i hx hb hr hlk hK hI h d_w_call_18
  · intro q st₀ t H1 L h0 ha0 ht ha1 hL hXC
    obtain ⟨E, u1, ce, hexc, hce, hcv, hcl, hB, hFr⟩ := hXC
    rw [ha0.findClass] at hcl
    obtain ⟨hk, hS⟩ := l_keep h0 ht hI.2.2.1 (z_free (lc_sub hI)) hL (z_free (lc_sub hI)) hFr
    have hI := lc_join hI hk (by rw [← ht]; exact hB.1) hB.2.2 hS
    obtain ⟨k0, hk0, -⟩ := Vm.findClass_spec hcl
    rw [ht] at hce
    rcases hexc with ⟨rfl, h⟩ | ⟨rfl, h⟩ | ⟨rfl, h⟩
    all_goals have hsp := hl0
    all_goals rw [hl1] at hsp
    all_goals rw [hl2] at hsp
    all_goals rw [hz3] at hsp
    · refine xW_catch (own := "ShortBridgeLaw") (pc := 2) hown [] e0 [e1, e2] hsp (fun y hy => nomatch hy) (x_take hF hO hcl hf0 (by decide) (by decide) (by decide) (hts _ q_338) (by decide +kernel)) hce hcv hk0 ?_
      have hh0 : e0.handlerPc = 8 := congrArg (fun z => z.2.2.1) hf0
      rw [hh0]
      refine lv_astore_n hx hb d_w_call_8 rfl hl (by decide) rfl ?_
      intro ls hl
      refine lv_iconst (v := 1) hx hb d_w_call_9 zc_iconst_1 ?_
      exact lret_i hx hb hr hlk hK hI h d_w_call_10
    · refine xW_catch (own := "ShortBridgeLaw") (pc := 2) hown [e0] e1 [e2] hsp (fun y hy => by simp only [List.mem_cons, List.not_mem_nil, or_false] at hy; rcases hy with rfl <;> first | exact x_pass hN0 hO hcl hf0 (by decide) (by decide) (by decide) (hts _ q_338) 0 rfl) (x_take hF hO hcl hf1 (by decide) (by decide) (by decide) (hts _ q_339) (by decide +kernel)) hce hcv hk0 ?_
      have hh1 : e1.handlerPc = 11 := congrArg (fun z => z.2.2.1) hf1
      rw [hh1]
      refine lv_astore_n hx hb d_w_call_11 rfl hl (by decide) rfl ?_
      intro ls hl
      refine lv_iconst (v := 2) hx hb d_w_call_12 zc_iconst_2 ?_
      exact lret_i hx hb hr hlk hK hI h d_w_call_13
    · refine xW_catch (own := "ShortBridgeLaw") (pc := 2) hown [e0, e1] e2 [] hsp (fun y hy => by simp only [List.mem_cons, List.not_mem_nil, or_false] at hy; rcases hy with rfl | rfl <;> first | exact x_pass hN0 hO hcl hf0 (by decide) (by decide) (by decide) (hts _ q_338) 1 rfl | exact x_pass hN0 hO hcl hf1 (by decide) (by decide) (by decide) (hts _ q_339) 2 rfl) (x_take hF hO hcl hf2 (by decide) (by decide) (by decide) (hts _ q_340) (by decide +kernel)) hce hcv hk0 ?_
      have hh2 : e2.handlerPc = 14 := congrArg (fun z => z.2.2.1) hf2
      rw [hh2]
      refine lv_astore_n hx hb d_w_call_14 rfl hl (by decide) rfl ?_
      intro ls hl
      refine lv_iconst (v := 3) hx hb d_w_call_15 zc_iconst_3 ?_
      exact lret_i hx hb hr hlk hK hI h d_w_call_16
def w_w_play (v1 : Int32) (w : ZL) (post : Int32 → ZL → Prop) : Prop := w_x_play v1 w.1 (fun u1 => post 0 (u1, w.2)) (fun E u1 => (E = "java/lang/IllegalStateException" ∧ post 1 (u1, w.2)) ∨ (E = "java/util/NoSuchElementException" ∧ post 2 (u1, w.2)) ∨ (E = "java/lang/UnsupportedOperationException" ∧ post 3 (u1, w.2)))
set_option maxRecDepth 100000 in
set_option maxHeartbeats 4000000 in
theorem t_w_play (l : Launch) (htr : l.stackTraces = false) {s0 : State} (hF : xF s0) (hN0 : xN s0) (D : va_G) (ad : Nat → Nat) (ca : Nat → ClassId) (bd : Nat → Nat) (cb : Nat → ClassId) (od : Nat) (oc : ClassId) (had : ∀ k, s0.heap.size ≤ ad k) {v1 : Int32} {w : ZL} {post : Int32 → ZL → Prop} (h : w_w_play v1 w post) (sz : Nat) : Met l y_w_play (Cond.codeWith y_w_play c_w_play 3 (some .int) [(0, 5, 8, 13), (0, 5, 11, 22), (0, 5, 14, 17)] :: zG) { frames := 7, cells := 1, slots := 6, locals := 118 } (va_Pc [.ref (ad 0), .int v1] (fun U => lP D ad ca bd cb od oc sz w U ∧ xO s0 U ∧ ∀ q, va_A (lW ad ca bd cb od oc w) U.heap.size q → s0.heap.size ≤ q)) (va_Qi post (lE D ad ca bd cb od oc (va_A (lW ad ca bd cb od oc w) sz)) (va_A (lW ad ca bd cb od oc w) sz)) 1 6 (va_A (lW ad ca bd cb od oc w) sz) := by
  refine va_MetW (cc := c_w_play) (maxL := 3) (ret := (some .int)) (hh := [(0, 5, 8, 13), (0, 5, 11, 22), (0, 5, 14, 17)]) (by decide) rfl ?_
  intro p e s m args below meth c s₁ B hml hv
  obtain ⟨rfl, ⟨hsz, hP, hK, hD0, hN⟩, hO, hA0⟩ := hv
  have hx := B.exec
  have hb := B.bytes
  have hr := B.returns
  have hlk := B.notSynchronized
  have hts0 := atoms_spec (ws := Cond.codeWith y_w_play c_w_play 3 (some .int) [(0, 5, 8, 13), (0, 5, 11, 22), (0, 5, 14, 17)] :: zG) B.pre
  have hts : ∀ w ∈ zG, w.before _ s = true := fun w h => hts0 w (List.mem_cons_of_mem _ h)
  have hown : s.vm.findClass "ShortBridgeLaw" = some m.cls := findClass_of_methodNamed B.named
  have htab : c.exceptionTable.toList.map (fun h => (h.startPc, h.endPc, h.handlerPc, h.catchType)) = [(0, 5, 8, 13), (0, 5, 11, 22), (0, 5, 14, 17)] := by
    obtain ⟨m9, meth9, c9, hn9, h1, h2, -, -, h6, -⟩ := Cond.codeWith_spec (hts0 _ List.mem_cons_self)
    cases Option.some.inj (hn9.symm.trans B.named)
    cases Option.some.inj (h1.symm.trans B.method)
    cases Option.some.inj (h2.symm.trans (Stand.of_body B).code)
    exact h6
  obtain ⟨e0, l0, hl0, hf0, htab⟩ := List.map_eq_cons_iff.mp htab
  obtain ⟨e1, l1, hl1, hf1, htab⟩ := List.map_eq_cons_iff.mp htab
  obtain ⟨e2, l2, hl2, hf2, htab⟩ := List.map_eq_cons_iff.mp htab
  have hz3 := List.map_eq_nil_iff.mp htab
  subst hsz
  generalize hAe : va_A (lW ad ca bd cb od oc w) s.heap.size = A at hA0 ⊢
  have hI : zw D A s.heap (lW ad ca bd cb od oc w) s.heap [] := by rw [← hAe]; exact ⟨hP, hD0.self, va_S.rf, fun q h => Or.inr h⟩
  have hl := lv_entry [.ref (ad 0), .int v1] (n := 3) (Nat.le_of_ble_eq_true rfl)
  rw [lg_entry_eq]
  generalize (lg_sl [.ref (ad 0), .int v1] ++ List.replicate (3 - (lg_sl [.ref (ad 0), .int v1]).length) Slot.unset).toArray = ls at hl ⊢
  have hl : lv_has ls 3 [(0, .ref (ad 0)), (1, .int v1)] := hl
  unfold w_w_play at h
  refine lv_aload_n hx hb d_w_play_0 rfl (lv_at hl 0 rfl) ?_
  refine lv_iload_n hx hb d_w_play_1 rfl (lv_at hl 1 rfl) ?_
  refine x_callV (As := [.int v1]) (rest := []) ⟨hx, hb, hml, hown, hts⟩ (t_x_play l htr hF D ad ca had h s.heap.size) (cwV 1 hts (zg_V q_472 q_473 q_474 q_39 q_475) rfl rfl rfl ⟨rfl, hd_x_play⟩ ⟨Nat.le_of_ble_eq_true rfl, Nat.le_of_ble_eq_true rfl⟩) (h_preV hO hA0 (lKc hK) hN (lc_sub hI) _) rfl rfl hl.1 rfl (lv_room (Nat.le_of_ble_eq_true rfl)) d_w_play_2 ⟨Nat.le_of_ble_eq_true rfl, Nat.le_of_ble_eq_true rfl⟩ ?_ ?_
  · intro v st₀ t H1 L h0 ha0 ht ha1 hL hQ
    obtain ⟨⟨u1, hv, h, hB⟩, hFr⟩ := hQ
    cases hv
    obtain ⟨hk, hS⟩ := l_keep h0 ht hI.2.2.1 (z_free (lc_sub hI)) hL (z_free (lc_sub hI)) hFr
    have hI := lc_join hI hk (by rw [← ht]; exact hB.1) hB.2.2 hS
    refine W.eq (g2 := F0 m 5 ls []) rfl ?_
    refine lv_goto hx hb d_w_play_5 rfl ?_
    refine lv_iconst (v := 0) hx hb d_w_play_17 zc_iconst_0 ?_
    exact lret_i hx hb hr hlk hK hI h d_w_play_18
  · intro q st₀ t H1 L h0 ha0 ht ha1 hL hXC
    obtain ⟨E, u1, ce, hexc, hce, hcv, hcl, hB, hFr⟩ := hXC
    rw [ha0.findClass] at hcl
    obtain ⟨hk, hS⟩ := l_keep h0 ht hI.2.2.1 (z_free (lc_sub hI)) hL (z_free (lc_sub hI)) hFr
    have hI := lc_join hI hk (by rw [← ht]; exact hB.1) hB.2.2 hS
    obtain ⟨k0, hk0, -⟩ := Vm.findClass_spec hcl
    rw [ht] at hce
    rcases hexc with ⟨rfl, h⟩ | ⟨rfl, h⟩ | ⟨rfl, h⟩
    all_goals have hsp := hl0
    all_goals rw [hl1] at hsp
    all_goals rw [hl2] at hsp
    all_goals rw [hz3] at hsp
    · refine xW_catch (own := "ShortBridgeLaw") (pc := 2) hown [] e0 [e1, e2] hsp (fun y hy => nomatch hy) (x_take hF hO hcl hf0 (by decide) (by decide) (by decide) (hts _ q_338) (by decide +kernel)) hce hcv hk0 ?_
      have hh0 : e0.handlerPc = 8 := congrArg (fun z => z.2.2.1) hf0
      rw [hh0]
      refine lv_astore_n hx hb d_w_play_8 rfl hl (by decide) rfl ?_
      intro ls hl
      refine lv_iconst (v := 1) hx hb d_w_play_9 zc_iconst_1 ?_
      exact lret_i hx hb hr hlk hK hI h d_w_play_10
    · refine xW_catch (own := "ShortBridgeLaw") (pc := 2) hown [e0] e1 [e2] hsp (fun y hy => by simp only [List.mem_cons, List.not_mem_nil, or_false] at hy; rcases hy with rfl <;> first | exact x_pass hN0 hO hcl hf0 (by decide) (by decide) (by decide) (hts _ q_338) 3 rfl) (x_take hF hO hcl hf1 (by decide) (by decide) (by decide) (hts _ q_471) (by decide +kernel)) hce hcv hk0 ?_
      have hh1 : e1.handlerPc = 11 := congrArg (fun z => z.2.2.1) hf1
      rw [hh1]
      refine lv_astore_n hx hb d_w_play_11 rfl hl (by decide) rfl ?_
      intro ls hl
      refine lv_iconst (v := 2) hx hb d_w_play_12 zc_iconst_2 ?_
      exact lret_i hx hb hr hlk hK hI h d_w_play_13
    · refine xW_catch (own := "ShortBridgeLaw") (pc := 2) hown [e0, e1] e2 [] hsp (fun y hy => by simp only [List.mem_cons, List.not_mem_nil, or_false] at hy; rcases hy with rfl | rfl <;> first | exact x_pass hN0 hO hcl hf0 (by decide) (by decide) (by decide) (hts _ q_338) 1 rfl | exact x_pass hN0 hO hcl hf1 (by decide) (by decide) (by decide) (hts _ q_471) 4 rfl) (x_take hF hO hcl hf2 (by decide) (by decide) (by decide) (hts _ q_340) (by decide +kernel)) hce hcv hk0 ?_
      have hh2 : e2.handlerPc = 14 := congrArg (fun z => z.2.2.1) hf2
      rw [hh2]
      refine lv_astore_n hx hb d_w_play_14 rfl hl (by decide) rfl ?_
      intro ls hl
      refine lv_iconst (v := 3) hx hb d_w_play_15 zc_iconst_3 ?_
      exact lret_i hx hb hr hlk hK hI h d_w_play_16
def w_w_score  (w : ZL) (post : Int32 → ZL → Prop) : Prop := w_x_score  w.1 (fun r u1 => post 0 (u1, w.2.1, vp_updL w.2.2 (Int32.toNatClampNeg 0) (Int32.toInt64 r))) (fun E u1 => (E = "java/lang/IllegalStateException" ∧ post 1 (u1, w.2)))
set_option maxRecDepth 100000 in
set_option maxHeartbeats 4000000 in
theorem t_w_score (l : Launch) (htr : l.stackTraces = false) {s0 : State} (hF : xF s0) (hN0 : xN s0) (D : va_G) (ad : Nat → Nat) (ca : Nat → ClassId) (bd : Nat → Nat) (cb : Nat → ClassId) (od : Nat) (oc : ClassId) (had : ∀ k, s0.heap.size ≤ ad k)  {w : ZL} {post : Int32 → ZL → Prop} (h : w_w_score  w post) (sz : Nat) : Met l y_w_score (Cond.codeWith y_w_score c_w_score 3 (some .int) [(0, 8, 11, 13)] :: zG) { frames := 7, cells := 1, slots := 6, locals := 145 } (va_Pc [.ref (ad 0), .ref od] (fun U => lP D ad ca bd cb od oc sz w U ∧ xO s0 U ∧ ∀ q, va_A (lW ad ca bd cb od oc w) U.heap.size q → s0.heap.size ≤ q)) (va_Qi post (lE D ad ca bd cb od oc (va_A (lW ad ca bd cb od oc w) sz)) (va_A (lW ad ca bd cb od oc w) sz)) 1 6 (va_A (lW ad ca bd cb od oc w) sz) := by
  refine va_MetW (cc := c_w_score) (maxL := 3) (ret := (some .int)) (hh := [(0, 8, 11, 13)]) (by decide) rfl ?_
  intro p e s m args below meth c s₁ B hml hv
  obtain ⟨rfl, ⟨hsz, hP, hK, hD0, hN⟩, hO, hA0⟩ := hv
  have hx := B.exec
  have hb := B.bytes
  have hr := B.returns
  have hlk := B.notSynchronized
  have hts0 := atoms_spec (ws := Cond.codeWith y_w_score c_w_score 3 (some .int) [(0, 8, 11, 13)] :: zG) B.pre
  have hts : ∀ w ∈ zG, w.before _ s = true := fun w h => hts0 w (List.mem_cons_of_mem _ h)
  have hown : s.vm.findClass "ShortBridgeLaw" = some m.cls := findClass_of_methodNamed B.named
  have htab : c.exceptionTable.toList.map (fun h => (h.startPc, h.endPc, h.handlerPc, h.catchType)) = [(0, 8, 11, 13)] := by
    obtain ⟨m9, meth9, c9, hn9, h1, h2, -, -, h6, -⟩ := Cond.codeWith_spec (hts0 _ List.mem_cons_self)
    cases Option.some.inj (hn9.symm.trans B.named)
    cases Option.some.inj (h1.symm.trans B.method)
    cases Option.some.inj (h2.symm.trans (Stand.of_body B).code)
    exact h6
  obtain ⟨e0, l0, hl0, hf0, htab⟩ := List.map_eq_cons_iff.mp htab
  have hz1 := List.map_eq_nil_iff.mp htab
  subst hsz
  generalize hAe : va_A (lW ad ca bd cb od oc w) s.heap.size = A at hA0 ⊢
  have hI : zw D A s.heap (lW ad ca bd cb od oc w) s.heap [] := by rw [← hAe]; exact ⟨hP, hD0.self, va_S.rf, fun q h => Or.inr h⟩
  have hl := lv_entry [.ref (ad 0), .ref od] (n := 3) (Nat.le_of_ble_eq_true rfl)
  rw [lg_entry_eq]
  generalize (lg_sl [.ref (ad 0), .ref od] ++ List.replicate (3 - (lg_sl [.ref (ad 0), .ref od]).length) Slot.unset).toArray = ls at hl ⊢
  have hl : lv_has ls 3 [(0, .ref (ad 0)), (1, .ref od)] := hl
  unfold w_w_score at h
  refine lv_aload_n hx hb d_w_score_0 rfl (lv_at hl 1 rfl) ?_
  refine lv_iconst (v := 0) hx hb d_w_score_1 zc_iconst_0 ?_
  refine lv_aload_n hx hb d_w_score_2 rfl (lv_at hl 0 rfl) ?_
  refine x_callV (As := []) (rest := [.int 0, .ref od]) ⟨hx, hb, hml, hown, hts⟩ (t_x_score l htr hF D ad ca had h s.heap.size) (cwV 0 hts (zg_V q_517 q_518 q_519 q_39 q_520) rfl rfl rfl ⟨rfl, hd_x_score⟩ ⟨Nat.le_of_ble_eq_true rfl, Nat.le_of_ble_eq_true rfl⟩) (h_preV hO hA0 (lKc hK) hN (lc_sub hI) _) rfl rfl hl.1 rfl (lv_room (Nat.le_of_ble_eq_true rfl)) d_w_score_3 ⟨Nat.le_of_ble_eq_true rfl, Nat.le_of_ble_eq_true rfl⟩ ?_ ?_
  · intro v st₀ t H1 L h0 ha0 ht ha1 hL hQ
    obtain ⟨⟨r, u1, hv, h, hB⟩, hFr⟩ := hQ
    cases hv
    obtain ⟨hk, hS⟩ := l_keep h0 ht hI.2.2.1 (z_free (lc_sub hI)) hL (z_free (lc_sub hI)) hFr
    have hI := lc_join hI hk (by rw [← ht]; exact hB.1) hB.2.2 hS
    refine W.eq (g2 := F0 m 6 ls [.int r, .int 0, .ref od]) rfl ?_
    refine lv_i2l (v := Int32.toInt64 r) hx hb d_w_score_6 rfl ?_
    refine lo_s hx hb hK hI (by unfold vp_in; decide) d_w_score_7 ?_
    intro H locs hI
    refine lv_goto hx hb d_w_score_8 rfl ?_
    refine lv_iconst (v := 0) hx hb d_w_score_14 zc_iconst_0 ?_
    exact lret_i hx hb hr hlk hK hI h d_w_score_15
  · intro q st₀ t H1 L h0 ha0 ht ha1 hL hXC
    obtain ⟨E, u1, ce, hexc, hce, hcv, hcl, hB, hFr⟩ := hXC
    rw [ha0.findClass] at hcl
    obtain ⟨hk, hS⟩ := l_keep h0 ht hI.2.2.1 (z_free (lc_sub hI)) hL (z_free (lc_sub hI)) hFr
    have hI := lc_join hI hk (by rw [← ht]; exact hB.1) hB.2.2 hS
    obtain ⟨k0, hk0, -⟩ := Vm.findClass_spec hcl
    rw [ht] at hce
    obtain ⟨rfl, h⟩ := hexc
    all_goals have hsp := hl0
    all_goals rw [hz1] at hsp
    refine xW_catch (own := "ShortBridgeLaw") (pc := 3) hown [] e0 [] hsp (fun y hy => nomatch hy) (x_take hF hO hcl hf0 (by decide) (by decide) (by decide) (hts _ q_338) (by decide +kernel)) hce hcv hk0 ?_
    have hh0 : e0.handlerPc = 11 := congrArg (fun z => z.2.2.1) hf0
    rw [hh0]
    refine lv_astore_n hx hb d_w_score_11 rfl hl (by decide) rfl ?_
    intro ls hl
    refine lv_iconst (v := 1) hx hb d_w_score_12 zc_iconst_1 ?_
    exact lret_i hx hb hr hlk hK hI h d_w_score_13
def w_w_solve  (w : ZL) (post : Int32 → ZL → Prop) : Prop := w_x_solve  w.1 (fun r u1 => post 0 (u1, w.2.1, vp_updL w.2.2 (Int32.toNatClampNeg 0) (Int32.toInt64 r))) (fun E u1 => (E = "java/lang/IllegalStateException" ∧ post 1 (u1, w.2)) ∨ (E = "java/lang/UnsupportedOperationException" ∧ post 2 (u1, w.2)))
set_option maxRecDepth 100000 in
set_option maxHeartbeats 4000000 in
theorem t_w_solve (l : Launch) (htr : l.stackTraces = false) {s0 : State} (hF : xF s0) (hN0 : xN s0) (D : va_G) (ad : Nat → Nat) (ca : Nat → ClassId) (bd : Nat → Nat) (cb : Nat → ClassId) (od : Nat) (oc : ClassId) (had : ∀ k, s0.heap.size ≤ ad k)  {w : ZL} {post : Int32 → ZL → Prop} (h : w_w_solve  w post) (sz : Nat) : Met l y_w_solve (Cond.codeWith y_w_solve c_w_solve 3 (some .int) [(0, 8, 11, 13), (0, 8, 14, 17)] :: zG) { frames := 55, cells := 1, slots := 6, locals := 1549 } (va_Pc [.ref (ad 0), .ref od] (fun U => lP D ad ca bd cb od oc sz w U ∧ xO s0 U ∧ ∀ q, va_A (lW ad ca bd cb od oc w) U.heap.size q → s0.heap.size ≤ q)) (va_Qi post (lE D ad ca bd cb od oc (va_A (lW ad ca bd cb od oc w) sz)) (va_A (lW ad ca bd cb od oc w) sz)) 1 6 (va_A (lW ad ca bd cb od oc w) sz) := by
  refine va_MetW (cc := c_w_solve) (maxL := 3) (ret := (some .int)) (hh := [(0, 8, 11, 13), (0, 8, 14, 17)]) (by decide) rfl ?_
  intro p e s m args below meth c s₁ B hml hv
  obtain ⟨rfl, ⟨hsz, hP, hK, hD0, hN⟩, hO, hA0⟩ := hv
  have hx := B.exec
  have hb := B.bytes
  have hr := B.returns
  have hlk := B.notSynchronized
  have hts0 := atoms_spec (ws := Cond.codeWith y_w_solve c_w_solve 3 (some .int) [(0, 8, 11, 13), (0, 8, 14, 17)] :: zG) B.pre
  have hts : ∀ w ∈ zG, w.before _ s = true := fun w h => hts0 w (List.mem_cons_of_mem _ h)
  have hown : s.vm.findClass "ShortBridgeLaw" = some m.cls := findClass_of_methodNamed B.named
  have htab : c.exceptionTable.toList.map (fun h => (h.startPc, h.endPc, h.handlerPc, h.catchType)) = [(0, 8, 11, 13), (0, 8, 14, 17)] := by
    obtain ⟨m9, meth9, c9, hn9, h1, h2, -, -, h6, -⟩ := Cond.codeWith_spec (hts0 _ List.mem_cons_self)
    cases Option.some.inj (hn9.symm.trans B.named)
    cases Option.some.inj (h1.symm.trans B.method)
    cases Option.some.inj (h2.symm.trans (Stand.of_body B).code)
    exact h6
  obtain ⟨e0, l0, hl0, hf0, htab⟩ := List.map_eq_cons_iff.mp htab
  obtain ⟨e1, l1, hl1, hf1, htab⟩ := List.map_eq_cons_iff.mp htab
  have hz2 := List.map_eq_nil_iff.mp htab
  subst hsz
  generalize hAe : va_A (lW ad ca bd cb od oc w) s.heap.size = A at hA0 ⊢
  have hI : zw D A s.heap (lW ad ca bd cb od oc w) s.heap [] := by rw [← hAe]; exact ⟨hP, hD0.self, va_S.rf, fun q h => Or.inr h⟩
  have hl := lv_entry [.ref (ad 0), .ref od] (n := 3) (Nat.le_of_ble_eq_true rfl)
  rw [lg_entry_eq]
  generalize (lg_sl [.ref (ad 0), .ref od] ++ List.replicate (3 - (lg_sl [.ref (ad 0), .ref od]).length) Slot.unset).toArray = ls at hl ⊢
  have hl : lv_has ls 3 [(0, .ref (ad 0)), (1, .ref od)] := hl
  unfold w_w_solve at h
  refine lv_aload_n hx hb d_w_solve_0 rfl (lv_at hl 1 rfl) ?_
  refine lv_iconst (v := 0) hx hb d_w_solve_1 zc_iconst_0 ?_
  refine lv_aload_n hx hb d_w_solve_2 rfl (lv_at hl 0 rfl) ?_
  refine x_callV (As := []) (rest := [.int 0, .ref od]) ⟨hx, hb, hml, hown, hts⟩ (t_x_solve l htr hF D ad ca had h s.heap.size) (cwV 0 hts (zg_V q_552 q_553 q_554 q_39 q_555) rfl rfl rfl ⟨rfl, hd_x_solve⟩ ⟨Nat.le_of_ble_eq_true rfl, Nat.le_of_ble_eq_true rfl⟩) (h_preV hO hA0 (lKc hK) hN (lc_sub hI) _) rfl rfl hl.1 rfl (lv_room (Nat.le_of_ble_eq_true rfl)) d_w_solve_3 ⟨Nat.le_of_ble_eq_true rfl, Nat.le_of_ble_eq_true rfl⟩ ?_ ?_
  · intro v st₀ t H1 L h0 ha0 ht ha1 hL hQ
    obtain ⟨⟨r, u1, hv, h, hB⟩, hFr⟩ := hQ
    cases hv
    obtain ⟨hk, hS⟩ := l_keep h0 ht hI.2.2.1 (z_free (lc_sub hI)) hL (z_free (lc_sub hI)) hFr
    have hI := lc_join hI hk (by rw [← ht]; exact hB.1) hB.2.2 hS
    refine W.eq (g2 := F0 m 6 ls [.int r, .int 0, .ref od]) rfl ?_
    refine lv_i2l (v := Int32.toInt64 r) hx hb d_w_solve_6 rfl ?_
    refine lo_s hx hb hK hI (by unfold vp_in; decide) d_w_solve_7 ?_
    intro H locs hI
    refine lv_goto hx hb d_w_solve_8 rfl ?_
    refine lv_iconst (v := 0) hx hb d_w_solve_17 zc_iconst_0 ?_
    exact lret_i hx hb hr hlk hK hI h d_w_solve_18
  · intro q st₀ t H1 L h0 ha0 ht ha1 hL hXC
    obtain ⟨E, u1, ce, hexc, hce, hcv, hcl, hB, hFr⟩ := hXC
    rw [ha0.findClass] at hcl
    obtain ⟨hk, hS⟩ := l_keep h0 ht hI.2.2.1 (z_free (lc_sub hI)) hL (z_free (lc_sub hI)) hFr
    have hI := lc_join hI hk (by rw [← ht]; exact hB.1) hB.2.2 hS
    obtain ⟨k0, hk0, -⟩ := Vm.findClass_spec hcl
    rw [ht] at hce
    rcases hexc with ⟨rfl, h⟩ | ⟨rfl, h⟩
    all_goals have hsp := hl0
    all_goals rw [hl1] at hsp
    all_goals rw [hz2] at hsp
    · refine xW_catch (own := "ShortBridgeLaw") (pc := 3) hown [] e0 [e1] hsp (fun y hy => nomatch hy) (x_take hF hO hcl hf0 (by decide) (by decide) (by decide) (hts _ q_338) (by decide +kernel)) hce hcv hk0 ?_
      have hh0 : e0.handlerPc = 11 := congrArg (fun z => z.2.2.1) hf0
      rw [hh0]
      refine lv_astore_n hx hb d_w_solve_11 rfl hl (by decide) rfl ?_
      intro ls hl
      refine lv_iconst (v := 1) hx hb d_w_solve_12 zc_iconst_1 ?_
      exact lret_i hx hb hr hlk hK hI h d_w_solve_13
    · refine xW_catch (own := "ShortBridgeLaw") (pc := 3) hown [e0] e1 [] hsp (fun y hy => by simp only [List.mem_cons, List.not_mem_nil, or_false] at hy; rcases hy with rfl <;> first | exact x_pass hN0 hO hcl hf0 (by decide) (by decide) (by decide) (hts _ q_338) 1 rfl) (x_take hF hO hcl hf1 (by decide) (by decide) (by decide) (hts _ q_340) (by decide +kernel)) hce hcv hk0 ?_
      have hh1 : e1.handlerPc = 14 := congrArg (fun z => z.2.2.1) hf1
      rw [hh1]
      refine lv_astore_n hx hb d_w_solve_14 rfl hl (by decide) rfl ?_
      intro ls hl
      refine lv_iconst (v := 2) hx hb d_w_solve_15 zc_iconst_2 ?_
      exact lret_i hx hb hr hlk hK hI h d_w_solve_16
def w_w_record  (w : ZL) (post : Int32 → ZL → Prop) : Prop := w_x_record  w.1 (fun r u1 => post 0 (u1, w.2.1, vp_updL w.2.2 (Int32.toNatClampNeg 0) (Int32.toInt64 r))) (fun E u1 => (E = "java/lang/IllegalStateException" ∧ post 1 (u1, w.2)) ∨ (E = "java/lang/UnsupportedOperationException" ∧ post 2 (u1, w.2)))
set_option maxRecDepth 100000 in
set_option maxHeartbeats 4000000 in
theorem t_w_record (l : Launch) (htr : l.stackTraces = false) {s0 : State} (hF : xF s0) (hN0 : xN s0) (D : va_G) (ad : Nat → Nat) (ca : Nat → ClassId) (bd : Nat → Nat) (cb : Nat → ClassId) (od : Nat) (oc : ClassId) (had : ∀ k, s0.heap.size ≤ ad k)  {w : ZL} {post : Int32 → ZL → Prop} (h : w_w_record  w post) (sz : Nat) : Met l y_w_record (Cond.codeWith y_w_record c_w_record 3 (some .int) [(0, 8, 11, 13), (0, 8, 14, 17)] :: zG) { frames := 7, cells := 1, slots := 6, locals := 145 } (va_Pc [.ref (ad 0), .ref od] (fun U => lP D ad ca bd cb od oc sz w U ∧ xO s0 U ∧ ∀ q, va_A (lW ad ca bd cb od oc w) U.heap.size q → s0.heap.size ≤ q)) (va_Qi post (lE D ad ca bd cb od oc (va_A (lW ad ca bd cb od oc w) sz)) (va_A (lW ad ca bd cb od oc w) sz)) 1 6 (va_A (lW ad ca bd cb od oc w) sz) := by
  refine va_MetW (cc := c_w_record) (maxL := 3) (ret := (some .int)) (hh := [(0, 8, 11, 13), (0, 8, 14, 17)]) (by decide) rfl ?_
  intro p e s m args below meth c s₁ B hml hv
  obtain ⟨rfl, ⟨hsz, hP, hK, hD0, hN⟩, hO, hA0⟩ := hv
  have hx := B.exec
  have hb := B.bytes
  have hr := B.returns
  have hlk := B.notSynchronized
  have hts0 := atoms_spec (ws := Cond.codeWith y_w_record c_w_record 3 (some .int) [(0, 8, 11, 13), (0, 8, 14, 17)] :: zG) B.pre
  have hts : ∀ w ∈ zG, w.before _ s = true := fun w h => hts0 w (List.mem_cons_of_mem _ h)
  have hown : s.vm.findClass "ShortBridgeLaw" = some m.cls := findClass_of_methodNamed B.named
  have htab : c.exceptionTable.toList.map (fun h => (h.startPc, h.endPc, h.handlerPc, h.catchType)) = [(0, 8, 11, 13), (0, 8, 14, 17)] := by
    obtain ⟨m9, meth9, c9, hn9, h1, h2, -, -, h6, -⟩ := Cond.codeWith_spec (hts0 _ List.mem_cons_self)
    cases Option.some.inj (hn9.symm.trans B.named)
    cases Option.some.inj (h1.symm.trans B.method)
    cases Option.some.inj (h2.symm.trans (Stand.of_body B).code)
    exact h6
  obtain ⟨e0, l0, hl0, hf0, htab⟩ := List.map_eq_cons_iff.mp htab
  obtain ⟨e1, l1, hl1, hf1, htab⟩ := List.map_eq_cons_iff.mp htab
  have hz2 := List.map_eq_nil_iff.mp htab
  subst hsz
  generalize hAe : va_A (lW ad ca bd cb od oc w) s.heap.size = A at hA0 ⊢
  have hI : zw D A s.heap (lW ad ca bd cb od oc w) s.heap [] := by rw [← hAe]; exact ⟨hP, hD0.self, va_S.rf, fun q h => Or.inr h⟩
  have hl := lv_entry [.ref (ad 0), .ref od] (n := 3) (Nat.le_of_ble_eq_true rfl)
  rw [lg_entry_eq]
  generalize (lg_sl [.ref (ad 0), .ref od] ++ List.replicate (3 - (lg_sl [.ref (ad 0), .ref od]).length) Slot.unset).toArray = ls at hl ⊢
  have hl : lv_has ls 3 [(0, .ref (ad 0)), (1, .ref od)] := hl
  unfold w_w_record at h
  refine lv_aload_n hx hb d_w_record_0 rfl (lv_at hl 1 rfl) ?_
  refine lv_iconst (v := 0) hx hb d_w_record_1 zc_iconst_0 ?_
  refine lv_aload_n hx hb d_w_record_2 rfl (lv_at hl 0 rfl) ?_
  refine x_callV (As := []) (rest := [.int 0, .ref od]) ⟨hx, hb, hml, hown, hts⟩ (t_x_record l htr hF D ad ca had h s.heap.size) (cwV 0 hts (zg_V q_585 q_586 q_587 q_39 q_588) rfl rfl rfl ⟨rfl, hd_x_record⟩ ⟨Nat.le_of_ble_eq_true rfl, Nat.le_of_ble_eq_true rfl⟩) (h_preV hO hA0 (lKc hK) hN (lc_sub hI) _) rfl rfl hl.1 rfl (lv_room (Nat.le_of_ble_eq_true rfl)) d_w_record_3 ⟨Nat.le_of_ble_eq_true rfl, Nat.le_of_ble_eq_true rfl⟩ ?_ ?_
  · intro v st₀ t H1 L h0 ha0 ht ha1 hL hQ
    obtain ⟨⟨r, u1, hv, h, hB⟩, hFr⟩ := hQ
    cases hv
    obtain ⟨hk, hS⟩ := l_keep h0 ht hI.2.2.1 (z_free (lc_sub hI)) hL (z_free (lc_sub hI)) hFr
    have hI := lc_join hI hk (by rw [← ht]; exact hB.1) hB.2.2 hS
    refine W.eq (g2 := F0 m 6 ls [.int r, .int 0, .ref od]) rfl ?_
    refine lv_i2l (v := Int32.toInt64 r) hx hb d_w_record_6 rfl ?_
    refine lo_s hx hb hK hI (by unfold vp_in; decide) d_w_record_7 ?_
    intro H locs hI
    refine lv_goto hx hb d_w_record_8 rfl ?_
    refine lv_iconst (v := 0) hx hb d_w_record_17 zc_iconst_0 ?_
    exact lret_i hx hb hr hlk hK hI h d_w_record_18
  · intro q st₀ t H1 L h0 ha0 ht ha1 hL hXC
    obtain ⟨E, u1, ce, hexc, hce, hcv, hcl, hB, hFr⟩ := hXC
    rw [ha0.findClass] at hcl
    obtain ⟨hk, hS⟩ := l_keep h0 ht hI.2.2.1 (z_free (lc_sub hI)) hL (z_free (lc_sub hI)) hFr
    have hI := lc_join hI hk (by rw [← ht]; exact hB.1) hB.2.2 hS
    obtain ⟨k0, hk0, -⟩ := Vm.findClass_spec hcl
    rw [ht] at hce
    rcases hexc with ⟨rfl, h⟩ | ⟨rfl, h⟩
    all_goals have hsp := hl0
    all_goals rw [hl1] at hsp
    all_goals rw [hz2] at hsp
    · refine xW_catch (own := "ShortBridgeLaw") (pc := 3) hown [] e0 [e1] hsp (fun y hy => nomatch hy) (x_take hF hO hcl hf0 (by decide) (by decide) (by decide) (hts _ q_338) (by decide +kernel)) hce hcv hk0 ?_
      have hh0 : e0.handlerPc = 11 := congrArg (fun z => z.2.2.1) hf0
      rw [hh0]
      refine lv_astore_n hx hb d_w_record_11 rfl hl (by decide) rfl ?_
      intro ls hl
      refine lv_iconst (v := 1) hx hb d_w_record_12 zc_iconst_1 ?_
      exact lret_i hx hb hr hlk hK hI h d_w_record_13
    · refine xW_catch (own := "ShortBridgeLaw") (pc := 3) hown [e0] e1 [] hsp (fun y hy => by simp only [List.mem_cons, List.not_mem_nil, or_false] at hy; rcases hy with rfl <;> first | exact x_pass hN0 hO hcl hf0 (by decide) (by decide) (by decide) (hts _ q_338) 1 rfl) (x_take hF hO hcl hf1 (by decide) (by decide) (by decide) (hts _ q_340) (by decide +kernel)) hce hcv hk0 ?_
      have hh1 : e1.handlerPc = 14 := congrArg (fun z => z.2.2.1) hf1
      rw [hh1]
      refine lv_astore_n hx hb d_w_record_14 rfl hl (by decide) rfl ?_
      intro ls hl
      refine lv_iconst (v := 2) hx hb d_w_record_15 zc_iconst_2 ?_
      exact lret_i hx hb hr hlk hK hI h d_w_record_16
def w_w_points (v1 : Int32) (v2 : Int32) (w : ZL) (post : Int32 → ZL → Prop) : Prop := w_x_points v1 v2 w.1 (fun r u1 => post 0 (u1, w.2.1, vp_updL w.2.2 (Int32.toNatClampNeg 0) (Int32.toInt64 r))) (fun E u1 => (E = "java/lang/IndexOutOfBoundsException" ∧ post 1 (u1, w.2)))
set_option maxRecDepth 100000 in
set_option maxHeartbeats 4000000 in
theorem t_w_points (l : Launch) (htr : l.stackTraces = false) {s0 : State} (hF : xF s0) (hN0 : xN s0) (D : va_G) (ad : Nat → Nat) (ca : Nat → ClassId) (bd : Nat → Nat) (cb : Nat → ClassId) (od : Nat) (oc : ClassId) (had : ∀ k, s0.heap.size ≤ ad k) {v1 : Int32} {v2 : Int32} {w : ZL} {post : Int32 → ZL → Prop} (h : w_w_points v1 v2 w post) (sz : Nat) : Met l y_w_points (Cond.codeWith y_w_points c_w_points 5 (some .int) [(0, 10, 13, 38)] :: zG) { frames := 7, cells := 1, slots := 6, locals := 112 } (va_Pc [.ref (ad 0), .int v1, .int v2, .ref od] (fun U => lP D ad ca bd cb od oc sz w U ∧ xO s0 U ∧ ∀ q, va_A (lW ad ca bd cb od oc w) U.heap.size q → s0.heap.size ≤ q)) (va_Qi post (lE D ad ca bd cb od oc (va_A (lW ad ca bd cb od oc w) sz)) (va_A (lW ad ca bd cb od oc w) sz)) 1 6 (va_A (lW ad ca bd cb od oc w) sz) := by
  refine va_MetW (cc := c_w_points) (maxL := 5) (ret := (some .int)) (hh := [(0, 10, 13, 38)]) (by decide) rfl ?_
  intro p e s m args below meth c s₁ B hml hv
  obtain ⟨rfl, ⟨hsz, hP, hK, hD0, hN⟩, hO, hA0⟩ := hv
  have hx := B.exec
  have hb := B.bytes
  have hr := B.returns
  have hlk := B.notSynchronized
  have hts0 := atoms_spec (ws := Cond.codeWith y_w_points c_w_points 5 (some .int) [(0, 10, 13, 38)] :: zG) B.pre
  have hts : ∀ w ∈ zG, w.before _ s = true := fun w h => hts0 w (List.mem_cons_of_mem _ h)
  have hown : s.vm.findClass "ShortBridgeLaw" = some m.cls := findClass_of_methodNamed B.named
  have htab : c.exceptionTable.toList.map (fun h => (h.startPc, h.endPc, h.handlerPc, h.catchType)) = [(0, 10, 13, 38)] := by
    obtain ⟨m9, meth9, c9, hn9, h1, h2, -, -, h6, -⟩ := Cond.codeWith_spec (hts0 _ List.mem_cons_self)
    cases Option.some.inj (hn9.symm.trans B.named)
    cases Option.some.inj (h1.symm.trans B.method)
    cases Option.some.inj (h2.symm.trans (Stand.of_body B).code)
    exact h6
  obtain ⟨e0, l0, hl0, hf0, htab⟩ := List.map_eq_cons_iff.mp htab
  have hz1 := List.map_eq_nil_iff.mp htab
  subst hsz
  generalize hAe : va_A (lW ad ca bd cb od oc w) s.heap.size = A at hA0 ⊢
  have hI : zw D A s.heap (lW ad ca bd cb od oc w) s.heap [] := by rw [← hAe]; exact ⟨hP, hD0.self, va_S.rf, fun q h => Or.inr h⟩
  have hl := lv_entry [.ref (ad 0), .int v1, .int v2, .ref od] (n := 5) (Nat.le_of_ble_eq_true rfl)
  rw [lg_entry_eq]
  generalize (lg_sl [.ref (ad 0), .int v1, .int v2, .ref od] ++ List.replicate (5 - (lg_sl [.ref (ad 0), .int v1, .int v2, .ref od]).length) Slot.unset).toArray = ls at hl ⊢
  have hl : lv_has ls 5 [(0, .ref (ad 0)), (1, .int v1), (2, .int v2), (3, .ref od)] := hl
  unfold w_w_points at h
  refine lv_aload_n hx hb d_w_points_0 rfl (lv_at hl 3 rfl) ?_
  refine lv_iconst (v := 0) hx hb d_w_points_1 zc_iconst_0 ?_
  refine lv_aload_n hx hb d_w_points_2 rfl (lv_at hl 0 rfl) ?_
  refine lv_iload_n hx hb d_w_points_3 rfl (lv_at hl 1 rfl) ?_
  refine lv_iload_n hx hb d_w_points_4 rfl (lv_at hl 2 rfl) ?_
  refine x_callV (As := [.int v1, .int v2]) (rest := [.int 0, .ref od]) ⟨hx, hb, hml, hown, hts⟩ (t_x_points l htr hF D ad ca had h s.heap.size) (cwV 2 hts (zg_V q_602 q_603 q_604 q_39 q_605) rfl rfl rfl ⟨rfl, hd_x_points⟩ ⟨Nat.le_of_ble_eq_true rfl, Nat.le_of_ble_eq_true rfl⟩) (h_preV hO hA0 (lKc hK) hN (lc_sub hI) _) rfl rfl hl.1 rfl (lv_room (Nat.le_of_ble_eq_true rfl)) d_w_points_5 ⟨Nat.le_of_ble_eq_true rfl, Nat.le_of_ble_eq_true rfl⟩ ?_ ?_
  · intro v st₀ t H1 L h0 ha0 ht ha1 hL hQ
    obtain ⟨⟨r, u1, hv, h, hB⟩, hFr⟩ := hQ
    cases hv
    obtain ⟨hk, hS⟩ := l_keep h0 ht hI.2.2.1 (z_free (lc_sub hI)) hL (z_free (lc_sub hI)) hFr
    have hI := lc_join hI hk (by rw [← ht]; exact hB.1) hB.2.2 hS
    refine W.eq (g2 := F0 m 8 ls [.int r, .int 0, .ref od]) rfl ?_
    refine lv_i2l (v := Int32.toInt64 r) hx hb d_w_points_8 rfl ?_
    refine lo_s hx hb hK hI (by unfold vp_in; decide) d_w_points_9 ?_
    intro H locs hI
    refine lv_goto hx hb d_w_points_10 rfl ?_
    refine lv_iconst (v := 0) hx hb d_w_points_17 zc_iconst_0 ?_
    exact lret_i hx hb hr hlk hK hI h d_w_points_18
  · intro q st₀ t H1 L h0 ha0 ht ha1 hL hXC
    obtain ⟨E, u1, ce, hexc, hce, hcv, hcl, hB, hFr⟩ := hXC
    rw [ha0.findClass] at hcl
    obtain ⟨hk, hS⟩ := l_keep h0 ht hI.2.2.1 (z_free (lc_sub hI)) hL (z_free (lc_sub hI)) hFr
    have hI := lc_join hI hk (by rw [← ht]; exact hB.1) hB.2.2 hS
    obtain ⟨k0, hk0, -⟩ := Vm.findClass_spec hcl
    rw [ht] at hce
    obtain ⟨rfl, h⟩ := hexc
    all_goals have hsp := hl0
    all_goals rw [hz1] at hsp
    refine xW_catch (own := "ShortBridgeLaw") (pc := 5) hown [] e0 [] hsp (fun y hy => nomatch hy) (x_take hF hO hcl hf0 (by decide) (by decide) (by decide) (hts _ q_601) (by decide +kernel)) hce hcv hk0 ?_
    have hh0 : e0.handlerPc = 13 := congrArg (fun z => z.2.2.1) hf0
    rw [hh0]
    refine lv_astore hx hb d_w_points_13 hl (by decide) rfl ?_
    intro ls hl
    refine lv_iconst (v := 1) hx hb d_w_points_15 zc_iconst_1 ?_
    exact lret_i hx hb hr hlk hK hI h d_w_points_16
def w_w_places (v1 : Int32) (w : ZL) (post : Int32 → ZL → Prop) : Prop := w_x_places v1 w.1 (fun r u1 => post 0 (u1, w.2.1, vp_updL w.2.2 (Int32.toNatClampNeg 0) (Int32.toInt64 r))) (fun E u1 => (E = "java/lang/IndexOutOfBoundsException" ∧ post 1 (u1, w.2)))
set_option maxRecDepth 100000 in
set_option maxHeartbeats 4000000 in
theorem t_w_places (l : Launch) (htr : l.stackTraces = false) {s0 : State} (hF : xF s0) (hN0 : xN s0) (D : va_G) (ad : Nat → Nat) (ca : Nat → ClassId) (bd : Nat → Nat) (cb : Nat → ClassId) (od : Nat) (oc : ClassId) (had : ∀ k, s0.heap.size ≤ ad k) {v1 : Int32} {w : ZL} {post : Int32 → ZL → Prop} (h : w_w_places v1 w post) (sz : Nat) : Met l y_w_places (Cond.codeWith y_w_places c_w_places 4 (some .int) [(0, 9, 12, 38)] :: zG) { frames := 7, cells := 1, slots := 6, locals := 111 } (va_Pc [.ref (ad 0), .int v1, .ref od] (fun U => lP D ad ca bd cb od oc sz w U ∧ xO s0 U ∧ ∀ q, va_A (lW ad ca bd cb od oc w) U.heap.size q → s0.heap.size ≤ q)) (va_Qi post (lE D ad ca bd cb od oc (va_A (lW ad ca bd cb od oc w) sz)) (va_A (lW ad ca bd cb od oc w) sz)) 1 6 (va_A (lW ad ca bd cb od oc w) sz) := by
  refine va_MetW (cc := c_w_places) (maxL := 4) (ret := (some .int)) (hh := [(0, 9, 12, 38)]) (by decide) rfl ?_
  intro p e s m args below meth c s₁ B hml hv
  obtain ⟨rfl, ⟨hsz, hP, hK, hD0, hN⟩, hO, hA0⟩ := hv
  have hx := B.exec
  have hb := B.bytes
  have hr := B.returns
  have hlk := B.notSynchronized
  have hts0 := atoms_spec (ws := Cond.codeWith y_w_places c_w_places 4 (some .int) [(0, 9, 12, 38)] :: zG) B.pre
  have hts : ∀ w ∈ zG, w.before _ s = true := fun w h => hts0 w (List.mem_cons_of_mem _ h)
  have hown : s.vm.findClass "ShortBridgeLaw" = some m.cls := findClass_of_methodNamed B.named
  have htab : c.exceptionTable.toList.map (fun h => (h.startPc, h.endPc, h.handlerPc, h.catchType)) = [(0, 9, 12, 38)] := by
    obtain ⟨m9, meth9, c9, hn9, h1, h2, -, -, h6, -⟩ := Cond.codeWith_spec (hts0 _ List.mem_cons_self)
    cases Option.some.inj (hn9.symm.trans B.named)
    cases Option.some.inj (h1.symm.trans B.method)
    cases Option.some.inj (h2.symm.trans (Stand.of_body B).code)
    exact h6
  obtain ⟨e0, l0, hl0, hf0, htab⟩ := List.map_eq_cons_iff.mp htab
  have hz1 := List.map_eq_nil_iff.mp htab
  subst hsz
  generalize hAe : va_A (lW ad ca bd cb od oc w) s.heap.size = A at hA0 ⊢
  have hI : zw D A s.heap (lW ad ca bd cb od oc w) s.heap [] := by rw [← hAe]; exact ⟨hP, hD0.self, va_S.rf, fun q h => Or.inr h⟩
  have hl := lv_entry [.ref (ad 0), .int v1, .ref od] (n := 4) (Nat.le_of_ble_eq_true rfl)
  rw [lg_entry_eq]
  generalize (lg_sl [.ref (ad 0), .int v1, .ref od] ++ List.replicate (4 - (lg_sl [.ref (ad 0), .int v1, .ref od]).length) Slot.unset).toArray = ls at hl ⊢
  have hl : lv_has ls 4 [(0, .ref (ad 0)), (1, .int v1), (2, .ref od)] := hl
  unfold w_w_places at h
  refine lv_aload_n hx hb d_w_places_0 rfl (lv_at hl 2 rfl) ?_
  refine lv_iconst (v := 0) hx hb d_w_places_1 zc_iconst_0 ?_
  refine lv_aload_n hx hb d_w_places_2 rfl (lv_at hl 0 rfl) ?_
  refine lv_iload_n hx hb d_w_places_3 rfl (lv_at hl 1 rfl) ?_
  refine x_callV (As := [.int v1]) (rest := [.int 0, .ref od]) ⟨hx, hb, hml, hown, hts⟩ (t_x_places l htr hF D ad ca had h s.heap.size) (cwV 1 hts (zg_V q_637 q_638 q_639 q_39 q_640) rfl rfl rfl ⟨rfl, hd_x_places⟩ ⟨Nat.le_of_ble_eq_true rfl, Nat.le_of_ble_eq_true rfl⟩) (h_preV hO hA0 (lKc hK) hN (lc_sub hI) _) rfl rfl hl.1 rfl (lv_room (Nat.le_of_ble_eq_true rfl)) d_w_places_4 ⟨Nat.le_of_ble_eq_true rfl, Nat.le_of_ble_eq_true rfl⟩ ?_ ?_
  · intro v st₀ t H1 L h0 ha0 ht ha1 hL hQ
    obtain ⟨⟨r, u1, hv, h, hB⟩, hFr⟩ := hQ
    cases hv
    obtain ⟨hk, hS⟩ := l_keep h0 ht hI.2.2.1 (z_free (lc_sub hI)) hL (z_free (lc_sub hI)) hFr
    have hI := lc_join hI hk (by rw [← ht]; exact hB.1) hB.2.2 hS
    refine W.eq (g2 := F0 m 7 ls [.int r, .int 0, .ref od]) rfl ?_
    refine lv_i2l (v := Int32.toInt64 r) hx hb d_w_places_7 rfl ?_
    refine lo_s hx hb hK hI (by unfold vp_in; decide) d_w_places_8 ?_
    intro H locs hI
    refine lv_goto hx hb d_w_places_9 rfl ?_
    refine lv_iconst (v := 0) hx hb d_w_places_15 zc_iconst_0 ?_
    exact lret_i hx hb hr hlk hK hI h d_w_places_16
  · intro q st₀ t H1 L h0 ha0 ht ha1 hL hXC
    obtain ⟨E, u1, ce, hexc, hce, hcv, hcl, hB, hFr⟩ := hXC
    rw [ha0.findClass] at hcl
    obtain ⟨hk, hS⟩ := l_keep h0 ht hI.2.2.1 (z_free (lc_sub hI)) hL (z_free (lc_sub hI)) hFr
    have hI := lc_join hI hk (by rw [← ht]; exact hB.1) hB.2.2 hS
    obtain ⟨k0, hk0, -⟩ := Vm.findClass_spec hcl
    rw [ht] at hce
    obtain ⟨rfl, h⟩ := hexc
    all_goals have hsp := hl0
    all_goals rw [hz1] at hsp
    refine xW_catch (own := "ShortBridgeLaw") (pc := 4) hown [] e0 [] hsp (fun y hy => nomatch hy) (x_take hF hO hcl hf0 (by decide) (by decide) (by decide) (hts _ q_601) (by decide +kernel)) hce hcv hk0 ?_
    have hh0 : e0.handlerPc = 12 := congrArg (fun z => z.2.2.1) hf0
    rw [hh0]
    refine lv_astore_n hx hb d_w_places_12 rfl hl (by decide) rfl ?_
    intro ls hl
    refine lv_iconst (v := 1) hx hb d_w_places_13 zc_iconst_1 ?_
    exact lret_i hx hb hr hlk hK hI h d_w_places_14
