theorem hd_w_call : y_w_call.cls ≠ "java/lang/invoke/MethodHandle" ∧ y_w_call.cls ≠ "java/lang/invoke/VarHandle" ∧ (parseMethodDescriptor y_w_call.desc).map (fun d => d.parameters.length) = some 2 := by decide +kernel
theorem hd_w_places : y_w_places.cls ≠ "java/lang/invoke/MethodHandle" ∧ y_w_places.cls ≠ "java/lang/invoke/VarHandle" ∧ (parseMethodDescriptor y_w_places.desc).map (fun d => d.parameters.length) = some 3 := by decide +kernel
theorem hd_w_play : y_w_play.cls ≠ "java/lang/invoke/MethodHandle" ∧ y_w_play.cls ≠ "java/lang/invoke/VarHandle" ∧ (parseMethodDescriptor y_w_play.desc).map (fun d => d.parameters.length) = some 2 := by decide +kernel
theorem hd_w_points : y_w_points.cls ≠ "java/lang/invoke/MethodHandle" ∧ y_w_points.cls ≠ "java/lang/invoke/VarHandle" ∧ (parseMethodDescriptor y_w_points.desc).map (fun d => d.parameters.length) = some 4 := by decide +kernel
theorem hd_w_record : y_w_record.cls ≠ "java/lang/invoke/MethodHandle" ∧ y_w_record.cls ≠ "java/lang/invoke/VarHandle" ∧ (parseMethodDescriptor y_w_record.desc).map (fun d => d.parameters.length) = some 2 := by decide +kernel
theorem hd_w_score : y_w_score.cls ≠ "java/lang/invoke/MethodHandle" ∧ y_w_score.cls ≠ "java/lang/invoke/VarHandle" ∧ (parseMethodDescriptor y_w_score.desc).map (fun d => d.parameters.length) = some 2 := by decide +kernel
theorem hd_w_solve : y_w_solve.cls ≠ "java/lang/invoke/MethodHandle" ∧ y_w_solve.cls ≠ "java/lang/invoke/VarHandle" ∧ (parseMethodDescriptor y_w_solve.desc).map (fun d => d.parameters.length) = some 2 := by decide +kernel
def b_w_law_776 (r23 : Int32 → ZL → Prop) (xs : Nat → Int32) (L : Nat) (v4 : Int32) (u : ZL) : Prop := r23 (v4 + 5) u
set_option maxRecDepth 100000 in
set_option maxHeartbeats 16000000 in
theorem k_w_law_776 {p : Program} {l : Launch} {e : Env} {s : State} {m : MethodId} {below : List Frame} {meth : Method} {c : Code} {D : va_G} {ad : Nat → Nat} {ca : Nat → ClassId} {bd : Nat → Nat} {cb : Nat → ClassId} {od : Nat} {oc : ClassId} {b L : Nat} {xs : Nat → Int32} {r23 : Int32 → ZL → Prop} {kc ks : Nat} (cx : zx p room_1 s m #[Value.ref b] meth c c_w_law 7 2048 84000 "ShortBridgeLaw" ret zG zNs D (lT ca cb oc)) (hY : lY l s ad b L xs) (hkc : kc + 1 ≤ 601024) (hks : ks + 6 ≤ 7293034) (hk23 : ∀ (v4 : Int32) (u : ZL) (H : Heap) (locs : List Loc) (ls : Array Slot), zw D (fun q => s.heap.size ≤ q) s.heap (lW ad ca bd cb od oc u) H locs → lv_has ls 7 [(0, .ref b), (1, .ref (ad 0)), (2, .ref (bd 0)), (3, .ref od), (4, .int v4)] → r23 v4 u → W p l e room_1 s m #[Value.ref b] below meth c H locs (kc + 1) (ks + 6) (lw_Z below #[Value.ref b] s) (F0 m 23 ls [])) {v4 : Int32} {u : ZL} {H : Heap} {locs : List Loc} {ls : Array Slot} (hI : zw D (fun q => s.heap.size ≤ q) s.heap (lW ad ca bd cb od oc u) H locs) (hl : lv_has ls 7 [(0, .ref b), (1, .ref (ad 0)), (2, .ref (bd 0)), (3, .ref od), (4, .int v4)]) (h : b_w_law_776 r23 xs L v4 u) : W p l e room_1 s m #[Value.ref b] below meth c H locs (kc + 1) (ks + 6) (lw_Z below #[Value.ref b] s) (F0 m 776 ls []) := by
  have cx0 := cx
  obtain ⟨hx, hb, hml, hown, hts, hN, hK, hr, hlk, hfr, hlc⟩ := cx
  obtain ⟨hF, hN0, htr, hXs, hbl, had⟩ := id hY
  unfold b_w_law_776 at h
  refine lv_iinc (k := 4) (v := (v4 + 5)) hx hb d_w_law_776 hl rfl (zi_5 _) (by decide) rfl ?_
  intro ls hl
  have hl : lv_has ls 7 [(4, .int (v4 + 5)), (0, .ref b), (1, .ref (ad 0)), (2, .ref (bd 0)), (3, .ref od)] := hl
  refine lv_goto hx hb d_w_law_779 rfl ?_
  exact hk23 _ _ _ _ _ hI (lv_sub hl [1, 2, 3, 4, 0] rfl) h
def b_w_law_561 (r23 : Int32 → ZL → Prop) (xs : Nat → Int32) (L : Nat) (v4 : Int32) (u : ZL) : Prop := b_w_law_776 r23 xs L v4 u
set_option maxRecDepth 100000 in
set_option maxHeartbeats 16000000 in
theorem k_w_law_561 {p : Program} {l : Launch} {e : Env} {s : State} {m : MethodId} {below : List Frame} {meth : Method} {c : Code} {D : va_G} {ad : Nat → Nat} {ca : Nat → ClassId} {bd : Nat → Nat} {cb : Nat → ClassId} {od : Nat} {oc : ClassId} {b L : Nat} {xs : Nat → Int32} {r23 : Int32 → ZL → Prop} {kc ks : Nat} (cx : zx p room_1 s m #[Value.ref b] meth c c_w_law 7 2048 84000 "ShortBridgeLaw" ret zG zNs D (lT ca cb oc)) (hY : lY l s ad b L xs) (hkc : kc + 1 ≤ 601024) (hks : ks + 6 ≤ 7293034) (hk23 : ∀ (v4 : Int32) (u : ZL) (H : Heap) (locs : List Loc) (ls : Array Slot), zw D (fun q => s.heap.size ≤ q) s.heap (lW ad ca bd cb od oc u) H locs → lv_has ls 7 [(0, .ref b), (1, .ref (ad 0)), (2, .ref (bd 0)), (3, .ref od), (4, .int v4)] → r23 v4 u → W p l e room_1 s m #[Value.ref b] below meth c H locs (kc + 1) (ks + 6) (lw_Z below #[Value.ref b] s) (F0 m 23 ls [])) {v4 : Int32} {u : ZL} {H : Heap} {locs : List Loc} {ls : Array Slot} (hI : zw D (fun q => s.heap.size ≤ q) s.heap (lW ad ca bd cb od oc u) H locs) (hl : lv_has ls 7 [(0, .ref b), (1, .ref (ad 0)), (2, .ref (bd 0)), (3, .ref od), (4, .int v4)]) (h : b_w_law_561 r23 xs L v4 u) : W p l e room_1 s m #[Value.ref b] below meth c H locs (kc + 1) (ks + 6) (lw_Z below #[Value.ref b] s) (F0 m 561 ls []) := by
  have cx0 := cx
  obtain ⟨hx, hb, hml, hown, hts, hN, hK, hr, hlk, hfr, hlc⟩ := cx
  obtain ⟨hF, hN0, htr, hXs, hbl, had⟩ := id hY
  unfold b_w_law_561 at h
  refine lv_goto hx hb d_w_law_561 rfl ?_
  exact k_w_law_776 cx0 hY hkc hks hk23 hI (lv_sub hl [0, 1, 2, 3, 4] rfl) h
def b_w_law_605 (r23 : Int32 → ZL → Prop) (xs : Nat → Int32) (L : Nat) (v4 : Int32) (u : ZL) : Prop := b_w_law_776 r23 xs L v4 u
set_option maxRecDepth 100000 in
set_option maxHeartbeats 16000000 in
theorem k_w_law_605 {p : Program} {l : Launch} {e : Env} {s : State} {m : MethodId} {below : List Frame} {meth : Method} {c : Code} {D : va_G} {ad : Nat → Nat} {ca : Nat → ClassId} {bd : Nat → Nat} {cb : Nat → ClassId} {od : Nat} {oc : ClassId} {b L : Nat} {xs : Nat → Int32} {r23 : Int32 → ZL → Prop} {kc ks : Nat} (cx : zx p room_1 s m #[Value.ref b] meth c c_w_law 7 2048 84000 "ShortBridgeLaw" ret zG zNs D (lT ca cb oc)) (hY : lY l s ad b L xs) (hkc : kc + 1 ≤ 601024) (hks : ks + 6 ≤ 7293034) (hk23 : ∀ (v4 : Int32) (u : ZL) (H : Heap) (locs : List Loc) (ls : Array Slot), zw D (fun q => s.heap.size ≤ q) s.heap (lW ad ca bd cb od oc u) H locs → lv_has ls 7 [(0, .ref b), (1, .ref (ad 0)), (2, .ref (bd 0)), (3, .ref od), (4, .int v4)] → r23 v4 u → W p l e room_1 s m #[Value.ref b] below meth c H locs (kc + 1) (ks + 6) (lw_Z below #[Value.ref b] s) (F0 m 23 ls [])) {v4 : Int32} {u : ZL} {H : Heap} {locs : List Loc} {ls : Array Slot} (hI : zw D (fun q => s.heap.size ≤ q) s.heap (lW ad ca bd cb od oc u) H locs) (hl : lv_has ls 7 [(0, .ref b), (1, .ref (ad 0)), (2, .ref (bd 0)), (3, .ref od), (4, .int v4)]) (h : b_w_law_605 r23 xs L v4 u) : W p l e room_1 s m #[Value.ref b] below meth c H locs (kc + 1) (ks + 6) (lw_Z below #[Value.ref b] s) (F0 m 605 ls []) := by
  have cx0 := cx
  obtain ⟨hx, hb, hml, hown, hts, hN, hK, hr, hlk, hfr, hlc⟩ := cx
  obtain ⟨hF, hN0, htr, hXs, hbl, had⟩ := id hY
  unfold b_w_law_605 at h
  refine lv_goto hx hb d_w_law_605 rfl ?_
  exact k_w_law_776 cx0 hY hkc hks hk23 hI (lv_sub hl [0, 1, 2, 3, 4] rfl) h
def b_w_law_649 (r23 : Int32 → ZL → Prop) (xs : Nat → Int32) (L : Nat) (v4 : Int32) (u : ZL) : Prop := b_w_law_776 r23 xs L v4 u
set_option maxRecDepth 100000 in
set_option maxHeartbeats 16000000 in
theorem k_w_law_649 {p : Program} {l : Launch} {e : Env} {s : State} {m : MethodId} {below : List Frame} {meth : Method} {c : Code} {D : va_G} {ad : Nat → Nat} {ca : Nat → ClassId} {bd : Nat → Nat} {cb : Nat → ClassId} {od : Nat} {oc : ClassId} {b L : Nat} {xs : Nat → Int32} {r23 : Int32 → ZL → Prop} {kc ks : Nat} (cx : zx p room_1 s m #[Value.ref b] meth c c_w_law 7 2048 84000 "ShortBridgeLaw" ret zG zNs D (lT ca cb oc)) (hY : lY l s ad b L xs) (hkc : kc + 1 ≤ 601024) (hks : ks + 6 ≤ 7293034) (hk23 : ∀ (v4 : Int32) (u : ZL) (H : Heap) (locs : List Loc) (ls : Array Slot), zw D (fun q => s.heap.size ≤ q) s.heap (lW ad ca bd cb od oc u) H locs → lv_has ls 7 [(0, .ref b), (1, .ref (ad 0)), (2, .ref (bd 0)), (3, .ref od), (4, .int v4)] → r23 v4 u → W p l e room_1 s m #[Value.ref b] below meth c H locs (kc + 1) (ks + 6) (lw_Z below #[Value.ref b] s) (F0 m 23 ls [])) {v4 : Int32} {u : ZL} {H : Heap} {locs : List Loc} {ls : Array Slot} (hI : zw D (fun q => s.heap.size ≤ q) s.heap (lW ad ca bd cb od oc u) H locs) (hl : lv_has ls 7 [(0, .ref b), (1, .ref (ad 0)), (2, .ref (bd 0)), (3, .ref od), (4, .int v4)]) (h : b_w_law_649 r23 xs L v4 u) : W p l e room_1 s m #[Value.ref b] below meth c H locs (kc + 1) (ks + 6) (lw_Z below #[Value.ref b] s) (F0 m 649 ls []) := by
  have cx0 := cx
  obtain ⟨hx, hb, hml, hown, hts, hN, hK, hr, hlk, hfr, hlc⟩ := cx
  obtain ⟨hF, hN0, htr, hXs, hbl, had⟩ := id hY
  unfold b_w_law_649 at h
  refine lv_goto hx hb d_w_law_649 rfl ?_
  exact k_w_law_776 cx0 hY hkc hks hk23 hI (lv_sub hl [0, 1, 2, 3, 4] rfl) h
def b_w_law_717 (r23 : Int32 → ZL → Prop) (xs : Nat → Int32) (L : Nat) (v4 : Int32) (u : ZL) : Prop := b_w_law_776 r23 xs L v4 u
set_option maxRecDepth 100000 in
set_option maxHeartbeats 16000000 in
theorem k_w_law_717 {p : Program} {l : Launch} {e : Env} {s : State} {m : MethodId} {below : List Frame} {meth : Method} {c : Code} {D : va_G} {ad : Nat → Nat} {ca : Nat → ClassId} {bd : Nat → Nat} {cb : Nat → ClassId} {od : Nat} {oc : ClassId} {b L : Nat} {xs : Nat → Int32} {r23 : Int32 → ZL → Prop} {kc ks : Nat} (cx : zx p room_1 s m #[Value.ref b] meth c c_w_law 7 2048 84000 "ShortBridgeLaw" ret zG zNs D (lT ca cb oc)) (hY : lY l s ad b L xs) (hkc : kc + 1 ≤ 601024) (hks : ks + 6 ≤ 7293034) (hk23 : ∀ (v4 : Int32) (u : ZL) (H : Heap) (locs : List Loc) (ls : Array Slot), zw D (fun q => s.heap.size ≤ q) s.heap (lW ad ca bd cb od oc u) H locs → lv_has ls 7 [(0, .ref b), (1, .ref (ad 0)), (2, .ref (bd 0)), (3, .ref od), (4, .int v4)] → r23 v4 u → W p l e room_1 s m #[Value.ref b] below meth c H locs (kc + 1) (ks + 6) (lw_Z below #[Value.ref b] s) (F0 m 23 ls [])) {v4 : Int32} {u : ZL} {H : Heap} {locs : List Loc} {ls : Array Slot} (hI : zw D (fun q => s.heap.size ≤ q) s.heap (lW ad ca bd cb od oc u) H locs) (hl : lv_has ls 7 [(0, .ref b), (1, .ref (ad 0)), (2, .ref (bd 0)), (3, .ref od), (4, .int v4)]) (h : b_w_law_717 r23 xs L v4 u) : W p l e room_1 s m #[Value.ref b] below meth c H locs (kc + 1) (ks + 6) (lw_Z below #[Value.ref b] s) (F0 m 717 ls []) := by
  have cx0 := cx
  obtain ⟨hx, hb, hml, hown, hts, hN, hK, hr, hlk, hfr, hlc⟩ := cx
  obtain ⟨hF, hN0, htr, hXs, hbl, had⟩ := id hY
  unfold b_w_law_717 at h
  refine lv_goto hx hb d_w_law_717 rfl ?_
  exact k_w_law_776 cx0 hY hkc hks hk23 hI (lv_sub hl [0, 1, 2, 3, 4] rfl) h
def b_w_law_773 (r23 : Int32 → ZL → Prop) (xs : Nat → Int32) (L : Nat) (v4 : Int32) (u : ZL) : Prop := b_w_law_776 r23 xs L v4 u
set_option maxRecDepth 100000 in
set_option maxHeartbeats 16000000 in
theorem k_w_law_773 {p : Program} {l : Launch} {e : Env} {s : State} {m : MethodId} {below : List Frame} {meth : Method} {c : Code} {D : va_G} {ad : Nat → Nat} {ca : Nat → ClassId} {bd : Nat → Nat} {cb : Nat → ClassId} {od : Nat} {oc : ClassId} {b L : Nat} {xs : Nat → Int32} {r23 : Int32 → ZL → Prop} {kc ks : Nat} (cx : zx p room_1 s m #[Value.ref b] meth c c_w_law 7 2048 84000 "ShortBridgeLaw" ret zG zNs D (lT ca cb oc)) (hY : lY l s ad b L xs) (hkc : kc + 1 ≤ 601024) (hks : ks + 6 ≤ 7293034) (hk23 : ∀ (v4 : Int32) (u : ZL) (H : Heap) (locs : List Loc) (ls : Array Slot), zw D (fun q => s.heap.size ≤ q) s.heap (lW ad ca bd cb od oc u) H locs → lv_has ls 7 [(0, .ref b), (1, .ref (ad 0)), (2, .ref (bd 0)), (3, .ref od), (4, .int v4)] → r23 v4 u → W p l e room_1 s m #[Value.ref b] below meth c H locs (kc + 1) (ks + 6) (lw_Z below #[Value.ref b] s) (F0 m 23 ls [])) {v4 : Int32} {u : ZL} {H : Heap} {locs : List Loc} {ls : Array Slot} (hI : zw D (fun q => s.heap.size ≤ q) s.heap (lW ad ca bd cb od oc u) H locs) (hl : lv_has ls 7 [(0, .ref b), (1, .ref (ad 0)), (2, .ref (bd 0)), (3, .ref od), (4, .int v4)]) (h : b_w_law_773 r23 xs L v4 u) : W p l e room_1 s m #[Value.ref b] below meth c H locs (kc + 1) (ks + 6) (lw_Z below #[Value.ref b] s) (F0 m 773 ls []) := by
  have cx0 := cx
  obtain ⟨hx, hb, hml, hown, hts, hN, hK, hr, hlk, hfr, hlc⟩ := cx
  obtain ⟨hF, hN0, htr, hXs, hbl, had⟩ := id hY
  unfold b_w_law_773 at h
  refine lv_goto hx hb d_w_law_773 rfl ?_
  exact k_w_law_776 cx0 hY hkc hks hk23 hI (lv_sub hl [0, 1, 2, 3, 4] rfl) h
def b_w_law_23  (xs : Nat → Int32) (L : Nat) : Nat → Int32 → ZL → Prop
  | 0, _, _ => False
  | n + 1, v4, u => (((Int32.ofNat L) - 5) < v4 → True) ∧ (¬ (((Int32.ofNat L) - 5) < v4) → vp_in v4 L ∧ ((((xs (Int32.toNatClampNeg v4)) &&& 31) = 0 → vp_in (v4 + 1) L ∧ (vp_in (v4 + 2) L ∧ (vp_in (v4 + 3) L ∧ (vp_in (v4 + 4) L ∧ (w_x_deal (((Int32.toInt64 (xs (Int32.toNatClampNeg (v4 + 1)))) <<< (Int32.toInt64 32 &&& 63)) ||| ((Int32.toInt64 (xs (Int32.toNatClampNeg (v4 + 2)))) &&& 4294967295)) (xs (Int32.toNatClampNeg (v4 + 3))) (xs (Int32.toNatClampNeg (v4 + 4))) u.1 (fun r1 u2 => vp_in (v4 + 1) L ∧ (vp_in (v4 + 2) L ∧ (vp_in (v4 + 3) L ∧ (vp_in (v4 + 4) L ∧ (w_m_deal (((Int32.toInt64 (xs (Int32.toNatClampNeg (v4 + 1)))) <<< (Int32.toInt64 32 &&& 63)) ||| ((Int32.toInt64 (xs (Int32.toNatClampNeg (v4 + 2)))) &&& 4294967295)) (xs (Int32.toNatClampNeg (v4 + 3))) (xs (Int32.toNatClampNeg (v4 + 4))) (u2, u.2).2.1 (fun r3 u4 => (r1 = r3 → b_w_law_776 (b_w_law_23 xs L n) xs L v4 ((u2, u.2).1, u4, (u2, u.2).2.2)) ∧ (¬ (r1 = r3) → False)))))))))))) ∧ (((xs (Int32.toNatClampNeg v4)) &&& 31) = 1 → vp_in (v4 + 1) L ∧ (vp_in (v4 + 2) L ∧ (vp_in (v4 + 3) L ∧ (vp_in (v4 + 4) L ∧ (w_x_shuffle (((Int32.toInt64 (xs (Int32.toNatClampNeg (v4 + 1)))) <<< (Int32.toInt64 32 &&& 63)) ||| ((Int32.toInt64 (xs (Int32.toNatClampNeg (v4 + 2)))) &&& 4294967295)) (xs (Int32.toNatClampNeg (v4 + 3))) (xs (Int32.toNatClampNeg (v4 + 4))) u.1 (fun r5 u6 => vp_in (v4 + 1) L ∧ (vp_in (v4 + 2) L ∧ (vp_in (v4 + 3) L ∧ (vp_in (v4 + 4) L ∧ (w_m_shuffle (((Int32.toInt64 (xs (Int32.toNatClampNeg (v4 + 1)))) <<< (Int32.toInt64 32 &&& 63)) ||| ((Int32.toInt64 (xs (Int32.toNatClampNeg (v4 + 2)))) &&& 4294967295)) (xs (Int32.toNatClampNeg (v4 + 3))) (xs (Int32.toNatClampNeg (v4 + 4))) (u6, u.2).2.1 (fun r7 u8 => ((lg_cmp r5 r7) = 0 → b_w_law_776 (b_w_law_23 xs L n) xs L v4 ((u6, u.2).1, u8, (u6, u.2).2.2)) ∧ (¬ ((lg_cmp r5 r7) = 0) → False)))))))))))) ∧ (((xs (Int32.toNatClampNeg v4)) &&& 31) = 2 → w_x_number  u.1 (fun r9 u10 => w_m_number  (u10, u.2).2.1 (fun r11 u12 => ((lg_cmp r9 r11) = 0 → b_w_law_776 (b_w_law_23 xs L n) xs L v4 ((u10, u.2).1, u12, (u10, u.2).2.2)) ∧ (¬ ((lg_cmp r9 r11) = 0) → False)))) ∧ (((xs (Int32.toNatClampNeg v4)) &&& 31) = 3 → w_x_phase  u.1 (fun r13 u14 => w_m_phase  (u14, u.2).2.1 (fun r15 u16 => (r13 = r15 → b_w_law_776 (b_w_law_23 xs L n) xs L v4 ((u14, u.2).1, u16, (u14, u.2).2.2)) ∧ (¬ (r13 = r15) → False)))) ∧ (((xs (Int32.toNatClampNeg v4)) &&& 31) = 4 → w_x_turn  u.1 (fun r17 u18 => w_m_turn  (u18, u.2).2.1 (fun r19 u20 => (r17 = r19 → b_w_law_776 (b_w_law_23 xs L n) xs L v4 ((u18, u.2).1, u20, (u18, u.2).2.2)) ∧ (¬ (r17 = r19) → False)))) ∧ (((xs (Int32.toNatClampNeg v4)) &&& 31) = 5 → vp_in (v4 + 1) L ∧ (vp_in (v4 + 2) L ∧ (w_x_has (xs (Int32.toNatClampNeg (v4 + 1))) (xs (Int32.toNatClampNeg (v4 + 2))) u.1 (fun r21 u22 => vp_in (v4 + 1) L ∧ (vp_in (v4 + 2) L ∧ (w_m_has (xs (Int32.toNatClampNeg (v4 + 1))) (xs (Int32.toNatClampNeg (v4 + 2))) (u22, u.2).2.1 (fun r23 u24 => (r21 = r23 → b_w_law_776 (b_w_law_23 xs L n) xs L v4 ((u22, u.2).1, u24, (u22, u.2).2.2)) ∧ (¬ (r21 = r23) → False)))))))) ∧ (((xs (Int32.toNatClampNeg v4)) &&& 31) = 6 → vp_in (v4 + 1) L ∧ (w_w_call (xs (Int32.toNatClampNeg (v4 + 1))) u (fun r25 u26 => vp_in (v4 + 1) L ∧ (w_m_call (xs (Int32.toNatClampNeg (v4 + 1))) u26.2.1 (fun u28 => w_m_thrown  (u26.1, u28, u26.2.2).2.1 (fun r29 u30 => (r29 = r25 → b_w_law_776 (b_w_law_23 xs L n) xs L v4 ((u26.1, u28, u26.2.2).1, u30, (u26.1, u28, u26.2.2).2.2)) ∧ (¬ (r29 = r25) → False))))))) ∧ (((xs (Int32.toNatClampNeg v4)) &&& 31) = 7 → vp_in (v4 + 1) L ∧ (w_w_play (xs (Int32.toNatClampNeg (v4 + 1))) u (fun r31 u32 => vp_in (v4 + 1) L ∧ (w_m_play (xs (Int32.toNatClampNeg (v4 + 1))) u32.2.1 (fun u34 => w_m_thrown  (u32.1, u34, u32.2.2).2.1 (fun r35 u36 => (r35 = r31 → b_w_law_776 (b_w_law_23 xs L n) xs L v4 ((u32.1, u34, u32.2.2).1, u36, (u32.1, u34, u32.2.2).2.2)) ∧ (¬ (r35 = r31) → False))))))) ∧ (((xs (Int32.toNatClampNeg v4)) &&& 31) = 8 → w_x_back  u.1 (fun r37 u38 => w_m_back  (u38, u.2).2.1 (fun r39 u40 => (r37 = r39 → b_w_law_776 (b_w_law_23 xs L n) xs L v4 ((u38, u.2).1, u40, (u38, u.2).2.2)) ∧ (¬ (r37 = r39) → False)))) ∧ (((xs (Int32.toNatClampNeg v4)) &&& 31) = 9 → vp_in (v4 + 1) L ∧ (w_x_contract (xs (Int32.toNatClampNeg (v4 + 1))) u.1 (fun r41 u42 => vp_in (v4 + 1) L ∧ (w_m_contract (xs (Int32.toNatClampNeg (v4 + 1))) (u42, u.2).2.1 (fun r43 u44 => (r41 = r43 → b_w_law_776 (b_w_law_23 xs L n) xs L v4 ((u42, u.2).1, u44, (u42, u.2).2.2)) ∧ (¬ (r41 = r43) → False)))))) ∧ (((xs (Int32.toNatClampNeg v4)) &&& 31) = 10 → vp_in (v4 + 1) L ∧ (w_x_tricks (xs (Int32.toNatClampNeg (v4 + 1))) u.1 (fun r45 u46 => vp_in (v4 + 1) L ∧ (w_m_tricks (xs (Int32.toNatClampNeg (v4 + 1))) (u46, u.2).2.1 (fun r47 u48 => (r45 = r47 → b_w_law_776 (b_w_law_23 xs L n) xs L v4 ((u46, u.2).1, u48, (u46, u.2).2.2)) ∧ (¬ (r45 = r47) → False)))))) ∧ (((xs (Int32.toNatClampNeg v4)) &&& 31) = 11 → vp_in (v4 + 1) L ∧ (w_x_table (xs (Int32.toNatClampNeg (v4 + 1))) u.1 (fun r49 u50 => vp_in (v4 + 1) L ∧ (w_m_table (xs (Int32.toNatClampNeg (v4 + 1))) (u50, u.2).2.1 (fun r51 u52 => (r49 = r51 → b_w_law_776 (b_w_law_23 xs L n) xs L v4 ((u50, u.2).1, u52, (u50, u.2).2.2)) ∧ (¬ (r49 = r51) → False)))))) ∧ (((xs (Int32.toNatClampNeg v4)) &&& 31) = 12 → w_w_score  u (fun r53 u54 => w_m_score  u54.2.1 (fun r55 u56 => w_m_thrown  (u54.1, u56, u54.2.2).2.1 (fun r57 u58 => (r57 = r53 → (¬ r53 = 0 → b_w_law_561 (b_w_law_23 xs L n) xs L v4 ((u54.1, u56, u54.2.2).1, u58, (u54.1, u56, u54.2.2).2.2)) ∧ (r53 = 0 → ((lg_cmp (((u54.1, u56, u54.2.2).1, u58, (u54.1, u56, u54.2.2).2.2).2.2 (Int32.toNatClampNeg 0)) (Int32.toInt64 r55)) = 0 → b_w_law_561 (b_w_law_23 xs L n) xs L v4 ((u54.1, u56, u54.2.2).1, u58, (u54.1, u56, u54.2.2).2.2)) ∧ (¬ ((lg_cmp (((u54.1, u56, u54.2.2).1, u58, (u54.1, u56, u54.2.2).2.2).2.2 (Int32.toNatClampNeg 0)) (Int32.toInt64 r55)) = 0) → False))) ∧ (¬ (r57 = r53) → False))))) ∧ (((xs (Int32.toNatClampNeg v4)) &&& 31) = 13 → w_w_solve  u (fun r59 u60 => w_m_solve  u60.2.1 (fun r61 u62 => w_m_thrown  (u60.1, u62, u60.2.2).2.1 (fun r63 u64 => (r63 = r59 → (¬ r59 = 0 → b_w_law_605 (b_w_law_23 xs L n) xs L v4 ((u60.1, u62, u60.2.2).1, u64, (u60.1, u62, u60.2.2).2.2)) ∧ (r59 = 0 → ((lg_cmp (((u60.1, u62, u60.2.2).1, u64, (u60.1, u62, u60.2.2).2.2).2.2 (Int32.toNatClampNeg 0)) (Int32.toInt64 r61)) = 0 → b_w_law_605 (b_w_law_23 xs L n) xs L v4 ((u60.1, u62, u60.2.2).1, u64, (u60.1, u62, u60.2.2).2.2)) ∧ (¬ ((lg_cmp (((u60.1, u62, u60.2.2).1, u64, (u60.1, u62, u60.2.2).2.2).2.2 (Int32.toNatClampNeg 0)) (Int32.toInt64 r61)) = 0) → False))) ∧ (¬ (r63 = r59) → False))))) ∧ (((xs (Int32.toNatClampNeg v4)) &&& 31) = 14 → w_w_record  u (fun r65 u66 => w_m_record  u66.2.1 (fun r67 u68 => w_m_thrown  (u66.1, u68, u66.2.2).2.1 (fun r69 u70 => (r69 = r65 → (¬ r65 = 0 → b_w_law_649 (b_w_law_23 xs L n) xs L v4 ((u66.1, u68, u66.2.2).1, u70, (u66.1, u68, u66.2.2).2.2)) ∧ (r65 = 0 → ((lg_cmp (((u66.1, u68, u66.2.2).1, u70, (u66.1, u68, u66.2.2).2.2).2.2 (Int32.toNatClampNeg 0)) (Int32.toInt64 r67)) = 0 → b_w_law_649 (b_w_law_23 xs L n) xs L v4 ((u66.1, u68, u66.2.2).1, u70, (u66.1, u68, u66.2.2).2.2)) ∧ (¬ ((lg_cmp (((u66.1, u68, u66.2.2).1, u70, (u66.1, u68, u66.2.2).2.2).2.2 (Int32.toNatClampNeg 0)) (Int32.toInt64 r67)) = 0) → False))) ∧ (¬ (r69 = r65) → False))))) ∧ (((xs (Int32.toNatClampNeg v4)) &&& 31) = 15 → vp_in (v4 + 1) L ∧ (vp_in (v4 + 2) L ∧ (w_w_points (xs (Int32.toNatClampNeg (v4 + 1))) (xs (Int32.toNatClampNeg (v4 + 2))) u (fun r71 u72 => vp_in (v4 + 1) L ∧ (vp_in (v4 + 2) L ∧ (w_m_points (xs (Int32.toNatClampNeg (v4 + 1))) (xs (Int32.toNatClampNeg (v4 + 2))) u72.2.1 (fun r73 u74 => w_m_thrown  (u72.1, u74, u72.2.2).2.1 (fun r75 u76 => (r75 = r71 → (¬ r71 = 0 → b_w_law_717 (b_w_law_23 xs L n) xs L v4 ((u72.1, u74, u72.2.2).1, u76, (u72.1, u74, u72.2.2).2.2)) ∧ (r71 = 0 → ((lg_cmp (((u72.1, u74, u72.2.2).1, u76, (u72.1, u74, u72.2.2).2.2).2.2 (Int32.toNatClampNeg 0)) (Int32.toInt64 r73)) = 0 → b_w_law_717 (b_w_law_23 xs L n) xs L v4 ((u72.1, u74, u72.2.2).1, u76, (u72.1, u74, u72.2.2).2.2)) ∧ (¬ ((lg_cmp (((u72.1, u74, u72.2.2).1, u76, (u72.1, u74, u72.2.2).2.2).2.2 (Int32.toNatClampNeg 0)) (Int32.toInt64 r73)) = 0) → False))) ∧ (¬ (r75 = r71) → False))))))))) ∧ (((xs (Int32.toNatClampNeg v4)) &&& 31) = 16 → vp_in (v4 + 1) L ∧ (w_w_places (xs (Int32.toNatClampNeg (v4 + 1))) u (fun r77 u78 => vp_in (v4 + 1) L ∧ (w_m_places (xs (Int32.toNatClampNeg (v4 + 1))) u78.2.1 (fun r79 u80 => w_m_thrown  (u78.1, u80, u78.2.2).2.1 (fun r81 u82 => (r81 = r77 → (¬ r77 = 0 → b_w_law_773 (b_w_law_23 xs L n) xs L v4 ((u78.1, u80, u78.2.2).1, u82, (u78.1, u80, u78.2.2).2.2)) ∧ (r77 = 0 → ((lg_cmp (((u78.1, u80, u78.2.2).1, u82, (u78.1, u80, u78.2.2).2.2).2.2 (Int32.toNatClampNeg 0)) (Int32.toInt64 r79)) = 0 → b_w_law_773 (b_w_law_23 xs L n) xs L v4 ((u78.1, u80, u78.2.2).1, u82, (u78.1, u80, u78.2.2).2.2)) ∧ (¬ ((lg_cmp (((u78.1, u80, u78.2.2).1, u82, (u78.1, u80, u78.2.2).2.2).2.2 (Int32.toNatClampNeg 0)) (Int32.toInt64 r79)) = 0) → False))) ∧ (¬ (r81 = r77) → False))))))) ∧ (¬ ((xs (Int32.toNatClampNeg v4)) &&& 31) = 0 ∧ ¬ ((xs (Int32.toNatClampNeg v4)) &&& 31) = 1 ∧ ¬ ((xs (Int32.toNatClampNeg v4)) &&& 31) = 2 ∧ ¬ ((xs (Int32.toNatClampNeg v4)) &&& 31) = 3 ∧ ¬ ((xs (Int32.toNatClampNeg v4)) &&& 31) = 4 ∧ ¬ ((xs (Int32.toNatClampNeg v4)) &&& 31) = 5 ∧ ¬ ((xs (Int32.toNatClampNeg v4)) &&& 31) = 6 ∧ ¬ ((xs (Int32.toNatClampNeg v4)) &&& 31) = 7 ∧ ¬ ((xs (Int32.toNatClampNeg v4)) &&& 31) = 8 ∧ ¬ ((xs (Int32.toNatClampNeg v4)) &&& 31) = 9 ∧ ¬ ((xs (Int32.toNatClampNeg v4)) &&& 31) = 10 ∧ ¬ ((xs (Int32.toNatClampNeg v4)) &&& 31) = 11 ∧ ¬ ((xs (Int32.toNatClampNeg v4)) &&& 31) = 12 ∧ ¬ ((xs (Int32.toNatClampNeg v4)) &&& 31) = 13 ∧ ¬ ((xs (Int32.toNatClampNeg v4)) &&& 31) = 14 ∧ ¬ ((xs (Int32.toNatClampNeg v4)) &&& 31) = 15 ∧ ¬ ((xs (Int32.toNatClampNeg v4)) &&& 31) = 16 → b_w_law_776 (b_w_law_23 xs L n) xs L v4 u)))
set_option maxRecDepth 100000 in
set_option maxHeartbeats 16000000 in
theorem k_w_law_23 {p : Program} {l : Launch} {e : Env} {s : State} {m : MethodId} {below : List Frame} {meth : Method} {c : Code} {D : va_G} {ad : Nat → Nat} {ca : Nat → ClassId} {bd : Nat → Nat} {cb : Nat → ClassId} {od : Nat} {oc : ClassId} {b L : Nat} {xs : Nat → Int32} (cx : zx p room_1 s m #[Value.ref b] meth c c_w_law 7 2048 84000 "ShortBridgeLaw" ret zG zNs D (lT ca cb oc)) (hY : lY l s ad b L xs) : ∀ (n kc ks : Nat) (v4 : Int32) (u : ZL) (H : Heap) (locs : List Loc) (ls : Array Slot), kc + n ≤ 601024 → ks + 6 * n ≤ 7293034 → zw D (fun q => s.heap.size ≤ q) s.heap (lW ad ca bd cb od oc u) H locs → lv_has ls 7 [(0, .ref b), (1, .ref (ad 0)), (2, .ref (bd 0)), (3, .ref od), (4, .int v4)] → b_w_law_23 xs L n v4 u → W p l e room_1 s m #[Value.ref b] below meth c H locs kc ks (lw_Z below #[Value.ref b] s) (F0 m 23 ls []) := by
  have cx0 := cx
  obtain ⟨hx, hb, hml, hown, hts, hN, hK, hr, hlk, hfr, hlc⟩ := cx
  obtain ⟨hF, hN0, htr, hXs, hbl, had⟩ := id hY
  intro n
  induction n with
  | zero => intro kc ks v4 u H locs ls hkc hks hI hl h; exact (h : False).elim
  | succ n ih =>
    intro kc ks v4 u H locs ls hkc hks hI hl h
    unfold b_w_law_23 at h
    refine lv_iload hx hb d_w_law_23 (lv_at hl 4 rfl) ?_
    refine lv_aload_n hx hb d_w_law_25 rfl (lv_at hl 0 rfl) ?_
    refine va_slen hx hb hXs hbl (Nat.not_le.mpr hbl) hI.2.2.1 d_w_law_26 ?_
    refine lv_iconst (v := 5) hx hb d_w_law_27 zc_iconst_5 ?_
    refine lv_isub hx hb d_w_law_28 ?_
    refine lv_icmp_gt hx hb d_w_law_29 rfl (fun hc => ?_) (fun hc => ?_)
    · have h := h.1 hc
      refine lv_iconst (v := 1) hx hb d_w_law_782 zc_iconst_1 ?_
      refine va_forget (fun q hq => hI.2.2.1.2.2 q hq) ?_
      refine W.widen (k := 601024) (n := 7293034) (by omega) (by omega) ?_
      exact lw_ret hx hb hr hlk d_w_law_783
    · have h := h.2 hc
      refine lv_aload_n hx hb d_w_law_32 rfl (lv_at hl 0 rfl) ?_
      refine lv_iload hx hb d_w_law_33 (lv_at hl 4 rfl) ?_
      obtain ⟨hi, h⟩ := h
      refine va_sld hx hb hXs hbl (Nat.not_le.mpr hbl) hI.2.2.1 hi d_w_law_35 ?_
      refine lv_bipush (v := 31) hx hb d_w_law_36 zc_bipush_31 ?_
      refine lv_iand hx hb d_w_law_38 ?_
      by_cases hc0 : ((xs (Int32.toNatClampNeg v4)) &&& 31) = 0
      · have h := h.1 hc0
        refine lv_tableIn hx hb d_w_law_39 (by rw [hc0]; decide) (by rw [hc0]; decide) (by rw [hc0]; rfl) rfl ?_
        refine lv_aload_n hx hb d_w_law_120 rfl (lv_at hl 1 rfl) ?_
        refine lv_aload_n hx hb d_w_law_121 rfl (lv_at hl 0 rfl) ?_
        refine lv_iload hx hb d_w_law_122 (lv_at hl 4 rfl) ?_
        refine lv_iconst (v := 1) hx hb d_w_law_124 zc_iconst_1 ?_
        refine lv_iadd hx hb d_w_law_125 ?_
        obtain ⟨hi, h⟩ := h
        refine va_sld hx hb hXs hbl (Nat.not_le.mpr hbl) hI.2.2.1 hi d_w_law_126 ?_
        refine lv_i2l (v := (Int32.toInt64 (xs (Int32.toNatClampNeg (v4 + 1))))) hx hb d_w_law_127 rfl ?_
        refine lv_bipush (v := 32) hx hb d_w_law_128 zc_bipush_32 ?_
        refine lv_lshl (v := ((Int32.toInt64 (xs (Int32.toNatClampNeg (v4 + 1)))) <<< (Int32.toInt64 32 &&& 63))) hx hb d_w_law_130 rfl ?_
        refine lv_aload_n hx hb d_w_law_131 rfl (lv_at hl 0 rfl) ?_
        refine lv_iload hx hb d_w_law_132 (lv_at hl 4 rfl) ?_
        refine lv_iconst (v := 2) hx hb d_w_law_134 zc_iconst_2 ?_
        refine lv_iadd hx hb d_w_law_135 ?_
        obtain ⟨hi, h⟩ := h
        refine va_sld hx hb hXs hbl (Nat.not_le.mpr hbl) hI.2.2.1 hi d_w_law_136 ?_
        refine lv_i2l (v := (Int32.toInt64 (xs (Int32.toNatClampNeg (v4 + 2))))) hx hb d_w_law_137 rfl ?_
        refine lv_ldc2 (v := 4294967295) hx hb hown (hts _ q_912) d_w_law_138 ?_
        refine lv_land hx hb d_w_law_141 ?_
        refine lv_lor hx hb d_w_law_142 ?_
        refine lv_aload_n hx hb d_w_law_143 rfl (lv_at hl 0 rfl) ?_
        refine lv_iload hx hb d_w_law_144 (lv_at hl 4 rfl) ?_
        refine lv_iconst (v := 3) hx hb d_w_law_146 zc_iconst_3 ?_
        refine lv_iadd hx hb d_w_law_147 ?_
        obtain ⟨hi, h⟩ := h
        refine va_sld hx hb hXs hbl (Nat.not_le.mpr hbl) hI.2.2.1 hi d_w_law_148 ?_
        refine lv_aload_n hx hb d_w_law_149 rfl (lv_at hl 0 rfl) ?_
        refine lv_iload hx hb d_w_law_150 (lv_at hl 4 rfl) ?_
        refine lv_iconst (v := 4) hx hb d_w_law_152 zc_iconst_4 ?_
        refine lv_iadd hx hb d_w_law_153 ?_
        obtain ⟨hi, h⟩ := h
        refine va_sld hx hb hXs hbl (Nat.not_le.mpr hbl) hI.2.2.1 hi d_w_law_154 ?_
        refine lc_i (va_runV (As := [.long (((Int32.toInt64 (xs (Int32.toNatClampNeg (v4 + 1)))) <<< (Int32.toInt64 32 &&& 63)) ||| ((Int32.toInt64 (xs (Int32.toNatClampNeg (v4 + 2)))) &&& 4294967295)), .int (xs (Int32.toNatClampNeg (v4 + 3))), .int (xs (Int32.toNatClampNeg (v4 + 4)))]) (rest := []) ⟨hx, hb, hml, hown, hts⟩ (t_x_deal l D ad ca h _) (cwV 3 hts (zg_V q_169 q_170 q_171 q_39 q_172) rfl rfl rfl ⟨rfl, hd_x_deal⟩ ⟨Nat.le_of_ble_eq_true rfl, Nat.le_of_ble_eq_true rfl⟩) (z_preV zNs_ok (lKc hK) hN (lc_sub hI) 0 0 rfl rfl _) rfl rfl hl.1 rfl (lv_room (Nat.le_of_ble_eq_true rfl)) d_w_law_155 ⟨by show _ + 0 ≤ 601024; omega, by show _ + 0 ≤ 7293034; omega⟩) hI ?_
        intro r1 u2 H locs h hI
        refine lv_aload_n hx hb d_w_law_158 rfl (lv_at hl 2 rfl) ?_
        refine lv_aload_n hx hb d_w_law_159 rfl (lv_at hl 0 rfl) ?_
        refine lv_iload hx hb d_w_law_160 (lv_at hl 4 rfl) ?_
        refine lv_iconst (v := 1) hx hb d_w_law_162 zc_iconst_1 ?_
        refine lv_iadd hx hb d_w_law_163 ?_
        obtain ⟨hi, h⟩ := h
        refine va_sld hx hb hXs hbl (Nat.not_le.mpr hbl) hI.2.2.1 hi d_w_law_164 ?_
        refine lv_i2l (v := (Int32.toInt64 (xs (Int32.toNatClampNeg (v4 + 1))))) hx hb d_w_law_165 rfl ?_
        refine lv_bipush (v := 32) hx hb d_w_law_166 zc_bipush_32 ?_
        refine lv_lshl (v := ((Int32.toInt64 (xs (Int32.toNatClampNeg (v4 + 1)))) <<< (Int32.toInt64 32 &&& 63))) hx hb d_w_law_168 rfl ?_
        refine lv_aload_n hx hb d_w_law_169 rfl (lv_at hl 0 rfl) ?_
        refine lv_iload hx hb d_w_law_170 (lv_at hl 4 rfl) ?_
        refine lv_iconst (v := 2) hx hb d_w_law_172 zc_iconst_2 ?_
        refine lv_iadd hx hb d_w_law_173 ?_
        obtain ⟨hi, h⟩ := h
        refine va_sld hx hb hXs hbl (Nat.not_le.mpr hbl) hI.2.2.1 hi d_w_law_174 ?_
        refine lv_i2l (v := (Int32.toInt64 (xs (Int32.toNatClampNeg (v4 + 2))))) hx hb d_w_law_175 rfl ?_
        refine lv_ldc2 (v := 4294967295) hx hb hown (hts _ q_912) d_w_law_176 ?_
        refine lv_land hx hb d_w_law_179 ?_
        refine lv_lor hx hb d_w_law_180 ?_
        refine lv_aload_n hx hb d_w_law_181 rfl (lv_at hl 0 rfl) ?_
        refine lv_iload hx hb d_w_law_182 (lv_at hl 4 rfl) ?_
        refine lv_iconst (v := 3) hx hb d_w_law_184 zc_iconst_3 ?_
        refine lv_iadd hx hb d_w_law_185 ?_
        obtain ⟨hi, h⟩ := h
        refine va_sld hx hb hXs hbl (Nat.not_le.mpr hbl) hI.2.2.1 hi d_w_law_186 ?_
        refine lv_aload_n hx hb d_w_law_187 rfl (lv_at hl 0 rfl) ?_
        refine lv_iload hx hb d_w_law_188 (lv_at hl 4 rfl) ?_
        refine lv_iconst (v := 4) hx hb d_w_law_190 zc_iconst_4 ?_
        refine lv_iadd hx hb d_w_law_191 ?_
        obtain ⟨hi, h⟩ := h
        refine va_sld hx hb hXs hbl (Nat.not_le.mpr hbl) hI.2.2.1 hi d_w_law_192 ?_
        refine lm_i (va_runV (As := [.long (((Int32.toInt64 (xs (Int32.toNatClampNeg (v4 + 1)))) <<< (Int32.toInt64 32 &&& 63)) ||| ((Int32.toInt64 (xs (Int32.toNatClampNeg (v4 + 2)))) &&& 4294967295)), .int (xs (Int32.toNatClampNeg (v4 + 3))), .int (xs (Int32.toNatClampNeg (v4 + 4)))]) (rest := [.int r1]) ⟨hx, hb, hml, hown, hts⟩ (t_m_deal l D bd cb h _) (cwV 3 hts (zg_V q_734 q_735 q_736 q_44 q_737) rfl rfl rfl ⟨rfl, hd_m_deal⟩ ⟨Nat.le_of_ble_eq_true rfl, Nat.le_of_ble_eq_true rfl⟩) (z_preV zNs_ok (lKm hK) hN (lm_sub hI) 0 5 rfl rfl _) rfl rfl hl.1 rfl (lv_room (Nat.le_of_ble_eq_true rfl)) d_w_law_193 ⟨by show _ + 0 ≤ 601024; omega, by show _ + 0 ≤ 7293034; omega⟩) hI ?_
        intro r3 u4 H locs h hI
        refine lv_icmp_eq hx hb d_w_law_196 rfl (fun hc => ?_) (fun hc => ?_)
        · have h := h.1 hc
          refine W.widen (k := kc + 1) (n := ks + 6) (by omega) (by omega) ?_
          exact k_w_law_776 cx0 hY (by omega) (by omega) (fun v4 u H locs ls hI hl h => ih (kc + 1) (ks + 6) v4 u H locs ls (by omega) (by omega) hI hl h) hI (lv_sub hl [0, 1, 2, 3, 4] rfl) h
        · have h := h.2 hc
          refine lv_iconst (v := 0) hx hb d_w_law_199 zc_iconst_0 ?_
          exact (h : False).elim
      · skip
        by_cases hc1 : ((xs (Int32.toNatClampNeg v4)) &&& 31) = 1
        · have h := h.2.1 hc1
          refine lv_tableIn hx hb d_w_law_39 (by rw [hc1]; decide) (by rw [hc1]; decide) (by rw [hc1]; rfl) rfl ?_
          refine lv_aload_n hx hb d_w_law_201 rfl (lv_at hl 1 rfl) ?_
          refine lv_aload_n hx hb d_w_law_202 rfl (lv_at hl 0 rfl) ?_
          refine lv_iload hx hb d_w_law_203 (lv_at hl 4 rfl) ?_
          refine lv_iconst (v := 1) hx hb d_w_law_205 zc_iconst_1 ?_
          refine lv_iadd hx hb d_w_law_206 ?_
          obtain ⟨hi, h⟩ := h
          refine va_sld hx hb hXs hbl (Nat.not_le.mpr hbl) hI.2.2.1 hi d_w_law_207 ?_
          refine lv_i2l (v := (Int32.toInt64 (xs (Int32.toNatClampNeg (v4 + 1))))) hx hb d_w_law_208 rfl ?_
          refine lv_bipush (v := 32) hx hb d_w_law_209 zc_bipush_32 ?_
          refine lv_lshl (v := ((Int32.toInt64 (xs (Int32.toNatClampNeg (v4 + 1)))) <<< (Int32.toInt64 32 &&& 63))) hx hb d_w_law_211 rfl ?_
          refine lv_aload_n hx hb d_w_law_212 rfl (lv_at hl 0 rfl) ?_
          refine lv_iload hx hb d_w_law_213 (lv_at hl 4 rfl) ?_
          refine lv_iconst (v := 2) hx hb d_w_law_215 zc_iconst_2 ?_
          refine lv_iadd hx hb d_w_law_216 ?_
          obtain ⟨hi, h⟩ := h
          refine va_sld hx hb hXs hbl (Nat.not_le.mpr hbl) hI.2.2.1 hi d_w_law_217 ?_
          refine lv_i2l (v := (Int32.toInt64 (xs (Int32.toNatClampNeg (v4 + 2))))) hx hb d_w_law_218 rfl ?_
          refine lv_ldc2 (v := 4294967295) hx hb hown (hts _ q_912) d_w_law_219 ?_
          refine lv_land hx hb d_w_law_222 ?_
          refine lv_lor hx hb d_w_law_223 ?_
          refine lv_aload_n hx hb d_w_law_224 rfl (lv_at hl 0 rfl) ?_
          refine lv_iload hx hb d_w_law_225 (lv_at hl 4 rfl) ?_
          refine lv_iconst (v := 3) hx hb d_w_law_227 zc_iconst_3 ?_
          refine lv_iadd hx hb d_w_law_228 ?_
          obtain ⟨hi, h⟩ := h
          refine va_sld hx hb hXs hbl (Nat.not_le.mpr hbl) hI.2.2.1 hi d_w_law_229 ?_
          refine lv_aload_n hx hb d_w_law_230 rfl (lv_at hl 0 rfl) ?_
          refine lv_iload hx hb d_w_law_231 (lv_at hl 4 rfl) ?_
          refine lv_iconst (v := 4) hx hb d_w_law_233 zc_iconst_4 ?_
          refine lv_iadd hx hb d_w_law_234 ?_
          obtain ⟨hi, h⟩ := h
          refine va_sld hx hb hXs hbl (Nat.not_le.mpr hbl) hI.2.2.1 hi d_w_law_235 ?_
          refine lc_l (va_runV (As := [.long (((Int32.toInt64 (xs (Int32.toNatClampNeg (v4 + 1)))) <<< (Int32.toInt64 32 &&& 63)) ||| ((Int32.toInt64 (xs (Int32.toNatClampNeg (v4 + 2)))) &&& 4294967295)), .int (xs (Int32.toNatClampNeg (v4 + 3))), .int (xs (Int32.toNatClampNeg (v4 + 4)))]) (rest := []) ⟨hx, hb, hml, hown, hts⟩ (t_x_shuffle l D ad ca h _) (cwV 3 hts (zg_V q_211 q_212 q_213 q_39 q_214) rfl rfl rfl ⟨rfl, hd_x_shuffle⟩ ⟨Nat.le_of_ble_eq_true rfl, Nat.le_of_ble_eq_true rfl⟩) (z_preV zNs_ok (lKc hK) hN (lc_sub hI) 0 0 rfl rfl _) rfl rfl hl.1 rfl (lv_room (Nat.le_of_ble_eq_true rfl)) d_w_law_236 ⟨by show _ + 0 ≤ 601024; omega, by show _ + 0 ≤ 7293034; omega⟩) hI ?_
          intro r5 u6 H locs h hI
          refine lv_aload_n hx hb d_w_law_239 rfl (lv_at hl 2 rfl) ?_
          refine lv_aload_n hx hb d_w_law_240 rfl (lv_at hl 0 rfl) ?_
          refine lv_iload hx hb d_w_law_241 (lv_at hl 4 rfl) ?_
          refine lv_iconst (v := 1) hx hb d_w_law_243 zc_iconst_1 ?_
          refine lv_iadd hx hb d_w_law_244 ?_
          obtain ⟨hi, h⟩ := h
          refine va_sld hx hb hXs hbl (Nat.not_le.mpr hbl) hI.2.2.1 hi d_w_law_245 ?_
          refine lv_i2l (v := (Int32.toInt64 (xs (Int32.toNatClampNeg (v4 + 1))))) hx hb d_w_law_246 rfl ?_
          refine lv_bipush (v := 32) hx hb d_w_law_247 zc_bipush_32 ?_
          refine lv_lshl (v := ((Int32.toInt64 (xs (Int32.toNatClampNeg (v4 + 1)))) <<< (Int32.toInt64 32 &&& 63))) hx hb d_w_law_249 rfl ?_
          refine lv_aload_n hx hb d_w_law_250 rfl (lv_at hl 0 rfl) ?_
          refine lv_iload hx hb d_w_law_251 (lv_at hl 4 rfl) ?_
          refine lv_iconst (v := 2) hx hb d_w_law_253 zc_iconst_2 ?_
          refine lv_iadd hx hb d_w_law_254 ?_
          obtain ⟨hi, h⟩ := h
          refine va_sld hx hb hXs hbl (Nat.not_le.mpr hbl) hI.2.2.1 hi d_w_law_255 ?_
          refine lv_i2l (v := (Int32.toInt64 (xs (Int32.toNatClampNeg (v4 + 2))))) hx hb d_w_law_256 rfl ?_
          refine lv_ldc2 (v := 4294967295) hx hb hown (hts _ q_912) d_w_law_257 ?_
          refine lv_land hx hb d_w_law_260 ?_
          refine lv_lor hx hb d_w_law_261 ?_
          refine lv_aload_n hx hb d_w_law_262 rfl (lv_at hl 0 rfl) ?_
          refine lv_iload hx hb d_w_law_263 (lv_at hl 4 rfl) ?_
          refine lv_iconst (v := 3) hx hb d_w_law_265 zc_iconst_3 ?_
          refine lv_iadd hx hb d_w_law_266 ?_
          obtain ⟨hi, h⟩ := h
          refine va_sld hx hb hXs hbl (Nat.not_le.mpr hbl) hI.2.2.1 hi d_w_law_267 ?_
          refine lv_aload_n hx hb d_w_law_268 rfl (lv_at hl 0 rfl) ?_
          refine lv_iload hx hb d_w_law_269 (lv_at hl 4 rfl) ?_
          refine lv_iconst (v := 4) hx hb d_w_law_271 zc_iconst_4 ?_
          refine lv_iadd hx hb d_w_law_272 ?_
          obtain ⟨hi, h⟩ := h
          refine va_sld hx hb hXs hbl (Nat.not_le.mpr hbl) hI.2.2.1 hi d_w_law_273 ?_
          refine lm_l (va_runV (As := [.long (((Int32.toInt64 (xs (Int32.toNatClampNeg (v4 + 1)))) <<< (Int32.toInt64 32 &&& 63)) ||| ((Int32.toInt64 (xs (Int32.toNatClampNeg (v4 + 2)))) &&& 4294967295)), .int (xs (Int32.toNatClampNeg (v4 + 3))), .int (xs (Int32.toNatClampNeg (v4 + 4)))]) (rest := [.long r5]) ⟨hx, hb, hml, hown, hts⟩ (t_m_shuffle l D bd cb h _) (cwV 3 hts (zg_V q_763 q_764 q_765 q_44 q_766) rfl rfl rfl ⟨rfl, hd_m_shuffle⟩ ⟨Nat.le_of_ble_eq_true rfl, Nat.le_of_ble_eq_true rfl⟩) (z_preV zNs_ok (lKm hK) hN (lm_sub hI) 0 5 rfl rfl _) rfl rfl hl.1 rfl (lv_room (Nat.le_of_ble_eq_true rfl)) d_w_law_274 ⟨by show _ + 0 ≤ 601024; omega, by show _ + 0 ≤ 7293034; omega⟩) hI ?_
          intro r7 u8 H locs h hI
          refine W.lcmp hx hb d_w_law_277 ?_
          refine lv_if_eq hx hb d_w_law_278 rfl (fun hc => ?_) (fun hc => ?_)
          · have h := h.1 hc
            refine W.widen (k := kc + 1) (n := ks + 6) (by omega) (by omega) ?_
            exact k_w_law_776 cx0 hY (by omega) (by omega) (fun v4 u H locs ls hI hl h => ih (kc + 1) (ks + 6) v4 u H locs ls (by omega) (by omega) hI hl h) hI (lv_sub hl [0, 1, 2, 3, 4] rfl) h
          · have h := h.2 hc
            refine lv_iconst (v := 0) hx hb d_w_law_281 zc_iconst_0 ?_
            exact (h : False).elim
        · skip
          by_cases hc2 : ((xs (Int32.toNatClampNeg v4)) &&& 31) = 2
          · have h := h.2.2.1 hc2
            refine lv_tableIn hx hb d_w_law_39 (by rw [hc2]; decide) (by rw [hc2]; decide) (by rw [hc2]; rfl) rfl ?_
            refine lv_aload_n hx hb d_w_law_283 rfl (lv_at hl 1 rfl) ?_
            refine lc_l (va_runV (As := []) (rest := []) ⟨hx, hb, hml, hown, hts⟩ (t_x_number l D ad ca h _) (cwV 0 hts (zg_V q_230 q_231 q_232 q_39 q_233) rfl rfl rfl ⟨rfl, hd_x_number⟩ ⟨Nat.le_of_ble_eq_true rfl, Nat.le_of_ble_eq_true rfl⟩) (z_preV zNs_ok (lKc hK) hN (lc_sub hI) 0 0 rfl rfl _) rfl rfl hl.1 rfl (lv_room (Nat.le_of_ble_eq_true rfl)) d_w_law_284 ⟨by show _ + 0 ≤ 601024; omega, by show _ + 0 ≤ 7293034; omega⟩) hI ?_
            intro r9 u10 H locs h hI
            refine lv_aload_n hx hb d_w_law_287 rfl (lv_at hl 2 rfl) ?_
            refine lm_l (va_runV (As := []) (rest := [.long r9]) ⟨hx, hb, hml, hown, hts⟩ (t_m_number l D bd cb h _) (cwV 0 hts (zg_V q_770 q_771 q_772 q_44 q_773) rfl rfl rfl ⟨rfl, hd_m_number⟩ ⟨Nat.le_of_ble_eq_true rfl, Nat.le_of_ble_eq_true rfl⟩) (z_preV zNs_ok (lKm hK) hN (lm_sub hI) 0 5 rfl rfl _) rfl rfl hl.1 rfl (lv_room (Nat.le_of_ble_eq_true rfl)) d_w_law_288 ⟨by show _ + 0 ≤ 601024; omega, by show _ + 0 ≤ 7293034; omega⟩) hI ?_
            intro r11 u12 H locs h hI
            refine W.lcmp hx hb d_w_law_291 ?_
            refine lv_if_eq hx hb d_w_law_292 rfl (fun hc => ?_) (fun hc => ?_)
            · have h := h.1 hc
              refine W.widen (k := kc + 1) (n := ks + 6) (by omega) (by omega) ?_
              exact k_w_law_776 cx0 hY (by omega) (by omega) (fun v4 u H locs ls hI hl h => ih (kc + 1) (ks + 6) v4 u H locs ls (by omega) (by omega) hI hl h) hI (lv_sub hl [0, 1, 2, 3, 4] rfl) h
            · have h := h.2 hc
              refine lv_iconst (v := 0) hx hb d_w_law_295 zc_iconst_0 ?_
              exact (h : False).elim
          · skip
            by_cases hc3 : ((xs (Int32.toNatClampNeg v4)) &&& 31) = 3
            · have h := h.2.2.2.1 hc3
              refine lv_tableIn hx hb d_w_law_39 (by rw [hc3]; decide) (by rw [hc3]; decide) (by rw [hc3]; rfl) rfl ?_
              refine lv_aload_n hx hb d_w_law_297 rfl (lv_at hl 1 rfl) ?_
              refine lc_i (va_runV (As := []) (rest := []) ⟨hx, hb, hml, hown, hts⟩ (t_x_phase l D ad ca h _) (cwV 0 hts (zg_V q_234 q_235 q_236 q_39 q_237) rfl rfl rfl ⟨rfl, hd_x_phase⟩ ⟨Nat.le_of_ble_eq_true rfl, Nat.le_of_ble_eq_true rfl⟩) (z_preV zNs_ok (lKc hK) hN (lc_sub hI) 0 0 rfl rfl _) rfl rfl hl.1 rfl (lv_room (Nat.le_of_ble_eq_true rfl)) d_w_law_298 ⟨by show _ + 0 ≤ 601024; omega, by show _ + 0 ≤ 7293034; omega⟩) hI ?_
              intro r13 u14 H locs h hI
              refine lv_aload_n hx hb d_w_law_301 rfl (lv_at hl 2 rfl) ?_
              refine lm_i (va_runV (As := []) (rest := [.int r13]) ⟨hx, hb, hml, hown, hts⟩ (t_m_phase l D bd cb h _) (cwV 0 hts (zg_V q_774 q_775 q_776 q_44 q_777) rfl rfl rfl ⟨rfl, hd_m_phase⟩ ⟨Nat.le_of_ble_eq_true rfl, Nat.le_of_ble_eq_true rfl⟩) (z_preV zNs_ok (lKm hK) hN (lm_sub hI) 0 5 rfl rfl _) rfl rfl hl.1 rfl (lv_room (Nat.le_of_ble_eq_true rfl)) d_w_law_302 ⟨by show _ + 0 ≤ 601024; omega, by show _ + 0 ≤ 7293034; omega⟩) hI ?_
              intro r15 u16 H locs h hI
              refine lv_icmp_eq hx hb d_w_law_305 rfl (fun hc => ?_) (fun hc => ?_)
              · have h := h.1 hc
                refine W.widen (k := kc + 1) (n := ks + 6) (by omega) (by omega) ?_
                exact k_w_law_776 cx0 hY (by omega) (by omega) (fun v4 u H locs ls hI hl h => ih (kc + 1) (ks + 6) v4 u H locs ls (by omega) (by omega) hI hl h) hI (lv_sub hl [0, 1, 2, 3, 4] rfl) h
              · have h := h.2 hc
                refine lv_iconst (v := 0) hx hb d_w_law_308 zc_iconst_0 ?_
                exact (h : False).elim
            · skip
              by_cases hc4 : ((xs (Int32.toNatClampNeg v4)) &&& 31) = 4
              · have h := h.2.2.2.2.1 hc4
                refine lv_tableIn hx hb d_w_law_39 (by rw [hc4]; decide) (by rw [hc4]; decide) (by rw [hc4]; rfl) rfl ?_
                refine lv_aload_n hx hb d_w_law_310 rfl (lv_at hl 1 rfl) ?_
                refine lc_i (va_runV (As := []) (rest := []) ⟨hx, hb, hml, hown, hts⟩ (t_x_turn l D ad ca h _) (cwV 0 hts (zg_V q_254 q_255 q_256 q_39 q_257) rfl rfl rfl ⟨rfl, hd_x_turn⟩ ⟨Nat.le_of_ble_eq_true rfl, Nat.le_of_ble_eq_true rfl⟩) (z_preV zNs_ok (lKc hK) hN (lc_sub hI) 0 0 rfl rfl _) rfl rfl hl.1 rfl (lv_room (Nat.le_of_ble_eq_true rfl)) d_w_law_311 ⟨by show _ + 0 ≤ 601024; omega, by show _ + 0 ≤ 7293034; omega⟩) hI ?_
                intro r17 u18 H locs h hI
                refine lv_aload_n hx hb d_w_law_314 rfl (lv_at hl 2 rfl) ?_
                refine lm_i (va_runV (As := []) (rest := [.int r17]) ⟨hx, hb, hml, hown, hts⟩ (t_m_turn l D bd cb h _) (cwV 0 hts (zg_V q_810 q_811 q_812 q_44 q_813) rfl rfl rfl ⟨rfl, hd_m_turn⟩ ⟨Nat.le_of_ble_eq_true rfl, Nat.le_of_ble_eq_true rfl⟩) (z_preV zNs_ok (lKm hK) hN (lm_sub hI) 0 5 rfl rfl _) rfl rfl hl.1 rfl (lv_room (Nat.le_of_ble_eq_true rfl)) d_w_law_315 ⟨by show _ + 0 ≤ 601024; omega, by show _ + 0 ≤ 7293034; omega⟩) hI ?_
                intro r19 u20 H locs h hI
                refine lv_icmp_eq hx hb d_w_law_318 rfl (fun hc => ?_) (fun hc => ?_)
                · have h := h.1 hc
                  refine W.widen (k := kc + 1) (n := ks + 6) (by omega) (by omega) ?_
                  exact k_w_law_776 cx0 hY (by omega) (by omega) (fun v4 u H locs ls hI hl h => ih (kc + 1) (ks + 6) v4 u H locs ls (by omega) (by omega) hI hl h) hI (lv_sub hl [0, 1, 2, 3, 4] rfl) h
                · have h := h.2 hc
                  refine lv_iconst (v := 0) hx hb d_w_law_321 zc_iconst_0 ?_
                  exact (h : False).elim
              · skip
                by_cases hc5 : ((xs (Int32.toNatClampNeg v4)) &&& 31) = 5
                · have h := h.2.2.2.2.2.1 hc5
                  refine lv_tableIn hx hb d_w_law_39 (by rw [hc5]; decide) (by rw [hc5]; decide) (by rw [hc5]; rfl) rfl ?_
                  refine lv_aload_n hx hb d_w_law_323 rfl (lv_at hl 1 rfl) ?_
                  refine lv_aload_n hx hb d_w_law_324 rfl (lv_at hl 0 rfl) ?_
                  refine lv_iload hx hb d_w_law_325 (lv_at hl 4 rfl) ?_
                  refine lv_iconst (v := 1) hx hb d_w_law_327 zc_iconst_1 ?_
                  refine lv_iadd hx hb d_w_law_328 ?_
                  obtain ⟨hi, h⟩ := h
                  refine va_sld hx hb hXs hbl (Nat.not_le.mpr hbl) hI.2.2.1 hi d_w_law_329 ?_
                  refine lv_aload_n hx hb d_w_law_330 rfl (lv_at hl 0 rfl) ?_
                  refine lv_iload hx hb d_w_law_331 (lv_at hl 4 rfl) ?_
                  refine lv_iconst (v := 2) hx hb d_w_law_333 zc_iconst_2 ?_
                  refine lv_iadd hx hb d_w_law_334 ?_
                  obtain ⟨hi, h⟩ := h
                  refine va_sld hx hb hXs hbl (Nat.not_le.mpr hbl) hI.2.2.1 hi d_w_law_335 ?_
                  refine lc_i (va_runV (As := [.int (xs (Int32.toNatClampNeg (v4 + 1))), .int (xs (Int32.toNatClampNeg (v4 + 2)))]) (rest := []) ⟨hx, hb, hml, hown, hts⟩ (t_x_has l D ad ca h _) (cwV 2 hts (zg_V q_275 q_276 q_277 q_39 q_278) rfl rfl rfl ⟨rfl, hd_x_has⟩ ⟨Nat.le_of_ble_eq_true rfl, Nat.le_of_ble_eq_true rfl⟩) (z_preV zNs_ok (lKc hK) hN (lc_sub hI) 0 0 rfl rfl _) rfl rfl hl.1 rfl (lv_room (Nat.le_of_ble_eq_true rfl)) d_w_law_336 ⟨by show _ + 0 ≤ 601024; omega, by show _ + 0 ≤ 7293034; omega⟩) hI ?_
                  intro r21 u22 H locs h hI
                  refine lv_aload_n hx hb d_w_law_339 rfl (lv_at hl 2 rfl) ?_
                  refine lv_aload_n hx hb d_w_law_340 rfl (lv_at hl 0 rfl) ?_
                  refine lv_iload hx hb d_w_law_341 (lv_at hl 4 rfl) ?_
                  refine lv_iconst (v := 1) hx hb d_w_law_343 zc_iconst_1 ?_
                  refine lv_iadd hx hb d_w_law_344 ?_
                  obtain ⟨hi, h⟩ := h
                  refine va_sld hx hb hXs hbl (Nat.not_le.mpr hbl) hI.2.2.1 hi d_w_law_345 ?_
                  refine lv_aload_n hx hb d_w_law_346 rfl (lv_at hl 0 rfl) ?_
                  refine lv_iload hx hb d_w_law_347 (lv_at hl 4 rfl) ?_
                  refine lv_iconst (v := 2) hx hb d_w_law_349 zc_iconst_2 ?_
                  refine lv_iadd hx hb d_w_law_350 ?_
                  obtain ⟨hi, h⟩ := h
                  refine va_sld hx hb hXs hbl (Nat.not_le.mpr hbl) hI.2.2.1 hi d_w_law_351 ?_
                  refine lm_i (va_runV (As := [.int (xs (Int32.toNatClampNeg (v4 + 1))), .int (xs (Int32.toNatClampNeg (v4 + 2)))]) (rest := [.int r21]) ⟨hx, hb, hml, hown, hts⟩ (t_m_has l D bd cb h _) (cwV 2 hts (zg_V q_830 q_831 q_832 q_44 q_833) rfl rfl rfl ⟨rfl, hd_m_has⟩ ⟨Nat.le_of_ble_eq_true rfl, Nat.le_of_ble_eq_true rfl⟩) (z_preV zNs_ok (lKm hK) hN (lm_sub hI) 0 5 rfl rfl _) rfl rfl hl.1 rfl (lv_room (Nat.le_of_ble_eq_true rfl)) d_w_law_352 ⟨by show _ + 0 ≤ 601024; omega, by show _ + 0 ≤ 7293034; omega⟩) hI ?_
                  intro r23 u24 H locs h hI
                  refine lv_icmp_eq hx hb d_w_law_355 rfl (fun hc => ?_) (fun hc => ?_)
                  · have h := h.1 hc
                    refine W.widen (k := kc + 1) (n := ks + 6) (by omega) (by omega) ?_
                    exact k_w_law_776 cx0 hY (by omega) (by omega) (fun v4 u H locs ls hI hl h => ih (kc + 1) (ks + 6) v4 u H locs ls (by omega) (by omega) hI hl h) hI (lv_sub hl [0, 1, 2, 3, 4] rfl) h
                  · have h := h.2 hc
                    refine lv_iconst (v := 0) hx hb d_w_law_358 zc_iconst_0 ?_
                    exact (h : False).elim
                · skip
                  by_cases hc6 : ((xs (Int32.toNatClampNeg v4)) &&& 31) = 6
                  · have h := h.2.2.2.2.2.2.1 hc6
                    refine lv_tableIn hx hb d_w_law_39 (by rw [hc6]; decide) (by rw [hc6]; decide) (by rw [hc6]; rfl) rfl ?_
                    refine lv_aload_n hx hb d_w_law_360 rfl (lv_at hl 1 rfl) ?_
                    refine lv_aload_n hx hb d_w_law_361 rfl (lv_at hl 0 rfl) ?_
                    refine lv_iload hx hb d_w_law_362 (lv_at hl 4 rfl) ?_
                    refine lv_iconst (v := 1) hx hb d_w_law_364 zc_iconst_1 ?_
                    refine lv_iadd hx hb d_w_law_365 ?_
                    obtain ⟨hi, h⟩ := h
                    refine va_sld hx hb hXs hbl (Nat.not_le.mpr hbl) hI.2.2.1 hi d_w_law_366 ?_
                    refine lh_i (mc := 1) (ms := 6) (l_runSW (As := [.ref (ad 0), .int (xs (Int32.toNatClampNeg (v4 + 1)))]) (rest := []) ⟨hx, hb, hml, hown, hts⟩ (t_w_call l htr hF hN0 D ad ca bd cb od oc had h _) rfl rfl (Nat.le_of_ble_eq_true rfl) (Nat.le_of_ble_eq_true rfl) q_337 q_335 q_336 q_38 hd_w_call (lh_pre hK hN hI _) rfl rfl hl.1 rfl (lv_room (Nat.le_of_ble_eq_true rfl)) d_w_law_367 ⟨by show kc + 1 ≤ 601024; omega, by show ks + 6 ≤ 7293034; omega⟩) hI ?_
                    intro r25 u26 H locs h hI
                    refine lv_istore hx hb d_w_law_370 hl (by decide) rfl ?_
                    intro ls hl
                    have hl : lv_has ls 7 [(5, .int r25), (0, .ref b), (1, .ref (ad 0)), (2, .ref (bd 0)), (3, .ref od), (4, .int v4)] := hl
                    refine lv_aload_n hx hb d_w_law_372 rfl (lv_at hl 3 rfl) ?_
                    refine lv_aload_n hx hb d_w_law_373 rfl (lv_at hl 1 rfl) ?_
                    refine lv_iload hx hb d_w_law_374 (lv_at hl 5 rfl) ?_
                    refine lv_iconst (v := 1) hx hb d_w_law_376 zc_iconst_1 ?_
                    refine lv_iadd hx hb d_w_law_377 ?_
                    obtain ⟨hi, h⟩ := h
                    refine va_sld hx hb hXs hbl (Nat.not_le.mpr hbl) hI.2.2.1 hi d_w_law_378 ?_
                    refine lm_v (va_runV (As := [.int (xs (Int32.toNatClampNeg (v4 + 1)))]) (rest := []) ⟨hx, hb, hml, hown, hts⟩ (t_m_call l D bd cb h _) (cwV 1 hts (zg_V q_798 q_799 q_800 q_44 q_801) rfl rfl rfl ⟨rfl, hd_m_call⟩ ⟨Nat.le_of_ble_eq_true rfl, Nat.le_of_ble_eq_true rfl⟩) (z_preV zNs_ok (lKm hK) hN (lm_sub hI) 0 5 rfl rfl _) rfl rfl hl.1 rfl (lv_room (Nat.le_of_ble_eq_true rfl)) d_w_law_379 ⟨by show _ + 0 ≤ 601024; omega, by show _ + 0 ≤ 7293034; omega⟩) hI ?_
                    intro u28 H locs h hI
                    refine lv_aload_n hx hb d_w_law_382 rfl (lv_at hl 3 rfl) ?_
                    refine lm_i (va_runV (As := []) (rest := []) ⟨hx, hb, hml, hown, hts⟩ (t_m_thrown l D bd cb h _) (cwV 0 hts (zg_V q_730 q_731 q_732 q_44 q_733) rfl rfl rfl ⟨rfl, hd_m_thrown⟩ ⟨Nat.le_of_ble_eq_true rfl, Nat.le_of_ble_eq_true rfl⟩) (z_preV zNs_ok (lKm hK) hN (lm_sub hI) 0 5 rfl rfl _) rfl rfl hl.1 rfl (lv_room (Nat.le_of_ble_eq_true rfl)) d_w_law_383 ⟨by show _ + 0 ≤ 601024; omega, by show _ + 0 ≤ 7293034; omega⟩) hI ?_
                    intro r29 u30 H locs h hI
                    refine lv_iload hx hb d_w_law_386 (lv_at hl 0 rfl) ?_
                    refine lv_icmp_eq hx hb d_w_law_388 rfl (fun hc => ?_) (fun hc => ?_)
                    · have h := h.1 hc
                      refine lv_goto hx hb d_w_law_393 rfl ?_
                      refine W.widen (k := kc + 1) (n := ks + 6) (by omega) (by omega) ?_
                      exact k_w_law_776 cx0 hY (by omega) (by omega) (fun v4 u H locs ls hI hl h => ih (kc + 1) (ks + 6) v4 u H locs ls (by omega) (by omega) hI hl h) hI (lv_sub hl [1, 2, 3, 4, 5] rfl) h
                    · have h := h.2 hc
                      refine lv_iconst (v := 0) hx hb d_w_law_391 zc_iconst_0 ?_
                      exact (h : False).elim
                  · skip
                    by_cases hc7 : ((xs (Int32.toNatClampNeg v4)) &&& 31) = 7
                    · have h := h.2.2.2.2.2.2.2.1 hc7
                      refine lv_tableIn hx hb d_w_law_39 (by rw [hc7]; decide) (by rw [hc7]; decide) (by rw [hc7]; rfl) rfl ?_
                      refine lv_aload_n hx hb d_w_law_396 rfl (lv_at hl 1 rfl) ?_
                      refine lv_aload_n hx hb d_w_law_397 rfl (lv_at hl 0 rfl) ?_
                      refine lv_iload hx hb d_w_law_398 (lv_at hl 4 rfl) ?_
                      refine lv_iconst (v := 1) hx hb d_w_law_400 zc_iconst_1 ?_
                      refine lv_iadd hx hb d_w_law_401 ?_
                      obtain ⟨hi, h⟩ := h
                      refine va_sld hx hb hXs hbl (Nat.not_le.mpr hbl) hI.2.2.1 hi d_w_law_402 ?_
                      refine lh_i (mc := 1) (ms := 6) (l_runSW (As := [.ref (ad 0), .int (xs (Int32.toNatClampNeg (v4 + 1)))]) (rest := []) ⟨hx, hb, hml, hown, hts⟩ (t_w_play l htr hF hN0 D ad ca bd cb od oc had h _) rfl rfl (Nat.le_of_ble_eq_true rfl) (Nat.le_of_ble_eq_true rfl) q_470 q_468 q_469 q_38 hd_w_play (lh_pre hK hN hI _) rfl rfl hl.1 rfl (lv_room (Nat.le_of_ble_eq_true rfl)) d_w_law_403 ⟨by show kc + 1 ≤ 601024; omega, by show ks + 6 ≤ 7293034; omega⟩) hI ?_
                      intro r31 u32 H locs h hI
                      refine lv_istore hx hb d_w_law_406 hl (by decide) rfl ?_
                      intro ls hl
                      have hl : lv_has ls 7 [(5, .int r31), (0, .ref b), (1, .ref (ad 0)), (2, .ref (bd 0)), (3, .ref od), (4, .int v4)] := hl
                      refine lv_aload_n hx hb d_w_law_408 rfl (lv_at hl 3 rfl) ?_
                      refine lv_aload_n hx hb d_w_law_409 rfl (lv_at hl 1 rfl) ?_
                      refine lv_iload hx hb d_w_law_410 (lv_at hl 5 rfl) ?_
                      refine lv_iconst (v := 1) hx hb d_w_law_412 zc_iconst_1 ?_
                      refine lv_iadd hx hb d_w_law_413 ?_
                      obtain ⟨hi, h⟩ := h
                      refine va_sld hx hb hXs hbl (Nat.not_le.mpr hbl) hI.2.2.1 hi d_w_law_414 ?_
                      refine lm_v (va_runV (As := [.int (xs (Int32.toNatClampNeg (v4 + 1)))]) (rest := []) ⟨hx, hb, hml, hown, hts⟩ (t_m_play l D bd cb h _) (cwV 1 hts (zg_V q_838 q_839 q_840 q_44 q_841) rfl rfl rfl ⟨rfl, hd_m_play⟩ ⟨Nat.le_of_ble_eq_true rfl, Nat.le_of_ble_eq_true rfl⟩) (z_preV zNs_ok (lKm hK) hN (lm_sub hI) 0 5 rfl rfl _) rfl rfl hl.1 rfl (lv_room (Nat.le_of_ble_eq_true rfl)) d_w_law_415 ⟨by show _ + 0 ≤ 601024; omega, by show _ + 0 ≤ 7293034; omega⟩) hI ?_
                      intro u34 H locs h hI
                      refine lv_aload_n hx hb d_w_law_418 rfl (lv_at hl 3 rfl) ?_
                      refine lm_i (va_runV (As := []) (rest := []) ⟨hx, hb, hml, hown, hts⟩ (t_m_thrown l D bd cb h _) (cwV 0 hts (zg_V q_730 q_731 q_732 q_44 q_733) rfl rfl rfl ⟨rfl, hd_m_thrown⟩ ⟨Nat.le_of_ble_eq_true rfl, Nat.le_of_ble_eq_true rfl⟩) (z_preV zNs_ok (lKm hK) hN (lm_sub hI) 0 5 rfl rfl _) rfl rfl hl.1 rfl (lv_room (Nat.le_of_ble_eq_true rfl)) d_w_law_419 ⟨by show _ + 0 ≤ 601024; omega, by show _ + 0 ≤ 7293034; omega⟩) hI ?_
                      intro r35 u36 H locs h hI
                      refine lv_iload hx hb d_w_law_422 (lv_at hl 0 rfl) ?_
                      refine lv_icmp_eq hx hb d_w_law_424 rfl (fun hc => ?_) (fun hc => ?_)
                      · have h := h.1 hc
                        refine lv_goto hx hb d_w_law_429 rfl ?_
                        refine W.widen (k := kc + 1) (n := ks + 6) (by omega) (by omega) ?_
                        exact k_w_law_776 cx0 hY (by omega) (by omega) (fun v4 u H locs ls hI hl h => ih (kc + 1) (ks + 6) v4 u H locs ls (by omega) (by omega) hI hl h) hI (lv_sub hl [1, 2, 3, 4, 5] rfl) h
                      · have h := h.2 hc
                        refine lv_iconst (v := 0) hx hb d_w_law_427 zc_iconst_0 ?_
                        exact (h : False).elim
                    · skip
                      by_cases hc8 : ((xs (Int32.toNatClampNeg v4)) &&& 31) = 8
                      · have h := h.2.2.2.2.2.2.2.2.1 hc8
                        refine lv_tableIn hx hb d_w_law_39 (by rw [hc8]; decide) (by rw [hc8]; decide) (by rw [hc8]; rfl) rfl ?_
                        refine lv_aload_n hx hb d_w_law_432 rfl (lv_at hl 1 rfl) ?_
                        refine lc_i (va_runV (As := []) (rest := []) ⟨hx, hb, hml, hown, hts⟩ (t_x_back l D ad ca h _) (cwV 0 hts (zg_V q_283 q_284 q_285 q_39 q_286) rfl rfl rfl ⟨rfl, hd_x_back⟩ ⟨Nat.le_of_ble_eq_true rfl, Nat.le_of_ble_eq_true rfl⟩) (z_preV zNs_ok (lKc hK) hN (lc_sub hI) 0 0 rfl rfl _) rfl rfl hl.1 rfl (lv_room (Nat.le_of_ble_eq_true rfl)) d_w_law_433 ⟨by show _ + 0 ≤ 601024; omega, by show _ + 0 ≤ 7293034; omega⟩) hI ?_
                        intro r37 u38 H locs h hI
                        refine lv_aload_n hx hb d_w_law_436 rfl (lv_at hl 2 rfl) ?_
                        refine lm_i (va_runV (As := []) (rest := [.int r37]) ⟨hx, hb, hml, hown, hts⟩ (t_m_back l D bd cb h _) (cwV 0 hts (zg_V q_846 q_847 q_848 q_44 q_849) rfl rfl rfl ⟨rfl, hd_m_back⟩ ⟨Nat.le_of_ble_eq_true rfl, Nat.le_of_ble_eq_true rfl⟩) (z_preV zNs_ok (lKm hK) hN (lm_sub hI) 0 5 rfl rfl _) rfl rfl hl.1 rfl (lv_room (Nat.le_of_ble_eq_true rfl)) d_w_law_437 ⟨by show _ + 0 ≤ 601024; omega, by show _ + 0 ≤ 7293034; omega⟩) hI ?_
                        intro r39 u40 H locs h hI
                        refine lv_icmp_eq hx hb d_w_law_440 rfl (fun hc => ?_) (fun hc => ?_)
                        · have h := h.1 hc
                          refine W.widen (k := kc + 1) (n := ks + 6) (by omega) (by omega) ?_
                          exact k_w_law_776 cx0 hY (by omega) (by omega) (fun v4 u H locs ls hI hl h => ih (kc + 1) (ks + 6) v4 u H locs ls (by omega) (by omega) hI hl h) hI (lv_sub hl [0, 1, 2, 3, 4] rfl) h
                        · have h := h.2 hc
                          refine lv_iconst (v := 0) hx hb d_w_law_443 zc_iconst_0 ?_
                          exact (h : False).elim
                      · skip
                        by_cases hc9 : ((xs (Int32.toNatClampNeg v4)) &&& 31) = 9
                        · have h := h.2.2.2.2.2.2.2.2.2.1 hc9
                          refine lv_tableIn hx hb d_w_law_39 (by rw [hc9]; decide) (by rw [hc9]; decide) (by rw [hc9]; rfl) rfl ?_
                          refine lv_aload_n hx hb d_w_law_445 rfl (lv_at hl 1 rfl) ?_
                          refine lv_aload_n hx hb d_w_law_446 rfl (lv_at hl 0 rfl) ?_
                          refine lv_iload hx hb d_w_law_447 (lv_at hl 4 rfl) ?_
                          refine lv_iconst (v := 1) hx hb d_w_law_449 zc_iconst_1 ?_
                          refine lv_iadd hx hb d_w_law_450 ?_
                          obtain ⟨hi, h⟩ := h
                          refine va_sld hx hb hXs hbl (Nat.not_le.mpr hbl) hI.2.2.1 hi d_w_law_451 ?_
                          refine lc_i (va_runV (As := [.int (xs (Int32.toNatClampNeg (v4 + 1)))]) (rest := []) ⟨hx, hb, hml, hown, hts⟩ (t_x_contract l D ad ca h _) (cwV 1 hts (zg_V q_296 q_297 q_298 q_39 q_299) rfl rfl rfl ⟨rfl, hd_x_contract⟩ ⟨Nat.le_of_ble_eq_true rfl, Nat.le_of_ble_eq_true rfl⟩) (z_preV zNs_ok (lKc hK) hN (lc_sub hI) 0 0 rfl rfl _) rfl rfl hl.1 rfl (lv_room (Nat.le_of_ble_eq_true rfl)) d_w_law_452 ⟨by show _ + 0 ≤ 601024; omega, by show _ + 0 ≤ 7293034; omega⟩) hI ?_
                          intro r41 u42 H locs h hI
                          refine lv_aload_n hx hb d_w_law_455 rfl (lv_at hl 2 rfl) ?_
                          refine lv_aload_n hx hb d_w_law_456 rfl (lv_at hl 0 rfl) ?_
                          refine lv_iload hx hb d_w_law_457 (lv_at hl 4 rfl) ?_
                          refine lv_iconst (v := 1) hx hb d_w_law_459 zc_iconst_1 ?_
                          refine lv_iadd hx hb d_w_law_460 ?_
                          obtain ⟨hi, h⟩ := h
                          refine va_sld hx hb hXs hbl (Nat.not_le.mpr hbl) hI.2.2.1 hi d_w_law_461 ?_
                          refine lm_i (va_runV (As := [.int (xs (Int32.toNatClampNeg (v4 + 1)))]) (rest := [.int r41]) ⟨hx, hb, hml, hown, hts⟩ (t_m_contract l D bd cb h _) (cwV 1 hts (zg_V q_806 q_807 q_808 q_44 q_809) rfl rfl rfl ⟨rfl, hd_m_contract⟩ ⟨Nat.le_of_ble_eq_true rfl, Nat.le_of_ble_eq_true rfl⟩) (z_preV zNs_ok (lKm hK) hN (lm_sub hI) 0 5 rfl rfl _) rfl rfl hl.1 rfl (lv_room (Nat.le_of_ble_eq_true rfl)) d_w_law_462 ⟨by show _ + 0 ≤ 601024; omega, by show _ + 0 ≤ 7293034; omega⟩) hI ?_
                          intro r43 u44 H locs h hI
                          refine lv_icmp_eq hx hb d_w_law_465 rfl (fun hc => ?_) (fun hc => ?_)
                          · have h := h.1 hc
                            refine W.widen (k := kc + 1) (n := ks + 6) (by omega) (by omega) ?_
                            exact k_w_law_776 cx0 hY (by omega) (by omega) (fun v4 u H locs ls hI hl h => ih (kc + 1) (ks + 6) v4 u H locs ls (by omega) (by omega) hI hl h) hI (lv_sub hl [0, 1, 2, 3, 4] rfl) h
                          · have h := h.2 hc
                            refine lv_iconst (v := 0) hx hb d_w_law_468 zc_iconst_0 ?_
                            exact (h : False).elim
                        · skip
                          by_cases hc10 : ((xs (Int32.toNatClampNeg v4)) &&& 31) = 10
                          · have h := h.2.2.2.2.2.2.2.2.2.2.1 hc10
                            refine lv_tableIn hx hb d_w_law_39 (by rw [hc10]; decide) (by rw [hc10]; decide) (by rw [hc10]; rfl) rfl ?_
                            refine lv_aload_n hx hb d_w_law_470 rfl (lv_at hl 1 rfl) ?_
                            refine lv_aload_n hx hb d_w_law_471 rfl (lv_at hl 0 rfl) ?_
                            refine lv_iload hx hb d_w_law_472 (lv_at hl 4 rfl) ?_
                            refine lv_iconst (v := 1) hx hb d_w_law_474 zc_iconst_1 ?_
                            refine lv_iadd hx hb d_w_law_475 ?_
                            obtain ⟨hi, h⟩ := h
                            refine va_sld hx hb hXs hbl (Nat.not_le.mpr hbl) hI.2.2.1 hi d_w_law_476 ?_
                            refine lc_i (va_runV (As := [.int (xs (Int32.toNatClampNeg (v4 + 1)))]) (rest := []) ⟨hx, hb, hml, hown, hts⟩ (t_x_tricks l D ad ca h _) (cwV 1 hts (zg_V q_318 q_319 q_320 q_39 q_321) rfl rfl rfl ⟨rfl, hd_x_tricks⟩ ⟨Nat.le_of_ble_eq_true rfl, Nat.le_of_ble_eq_true rfl⟩) (z_preV zNs_ok (lKc hK) hN (lc_sub hI) 0 0 rfl rfl _) rfl rfl hl.1 rfl (lv_room (Nat.le_of_ble_eq_true rfl)) d_w_law_477 ⟨by show _ + 0 ≤ 601024; omega, by show _ + 0 ≤ 7293034; omega⟩) hI ?_
                            intro r45 u46 H locs h hI
                            refine lv_aload_n hx hb d_w_law_480 rfl (lv_at hl 2 rfl) ?_
                            refine lv_aload_n hx hb d_w_law_481 rfl (lv_at hl 0 rfl) ?_
                            refine lv_iload hx hb d_w_law_482 (lv_at hl 4 rfl) ?_
                            refine lv_iconst (v := 1) hx hb d_w_law_484 zc_iconst_1 ?_
                            refine lv_iadd hx hb d_w_law_485 ?_
                            obtain ⟨hi, h⟩ := h
                            refine va_sld hx hb hXs hbl (Nat.not_le.mpr hbl) hI.2.2.1 hi d_w_law_486 ?_
                            refine lm_i (va_runV (As := [.int (xs (Int32.toNatClampNeg (v4 + 1)))]) (rest := [.int r45]) ⟨hx, hb, hml, hown, hts⟩ (t_m_tricks l D bd cb h _) (cwV 1 hts (zg_V q_850 q_851 q_852 q_44 q_853) rfl rfl rfl ⟨rfl, hd_m_tricks⟩ ⟨Nat.le_of_ble_eq_true rfl, Nat.le_of_ble_eq_true rfl⟩) (z_preV zNs_ok (lKm hK) hN (lm_sub hI) 0 5 rfl rfl _) rfl rfl hl.1 rfl (lv_room (Nat.le_of_ble_eq_true rfl)) d_w_law_487 ⟨by show _ + 0 ≤ 601024; omega, by show _ + 0 ≤ 7293034; omega⟩) hI ?_
                            intro r47 u48 H locs h hI
                            refine lv_icmp_eq hx hb d_w_law_490 rfl (fun hc => ?_) (fun hc => ?_)
                            · have h := h.1 hc
                              refine W.widen (k := kc + 1) (n := ks + 6) (by omega) (by omega) ?_
                              exact k_w_law_776 cx0 hY (by omega) (by omega) (fun v4 u H locs ls hI hl h => ih (kc + 1) (ks + 6) v4 u H locs ls (by omega) (by omega) hI hl h) hI (lv_sub hl [0, 1, 2, 3, 4] rfl) h
                            · have h := h.2 hc
                              refine lv_iconst (v := 0) hx hb d_w_law_493 zc_iconst_0 ?_
                              exact (h : False).elim
                          · skip
                            by_cases hc11 : ((xs (Int32.toNatClampNeg v4)) &&& 31) = 11
                            · have h := h.2.2.2.2.2.2.2.2.2.2.2.1 hc11
                              refine lv_tableIn hx hb d_w_law_39 (by rw [hc11]; decide) (by rw [hc11]; decide) (by rw [hc11]; rfl) rfl ?_
                              refine lv_aload_n hx hb d_w_law_495 rfl (lv_at hl 1 rfl) ?_
                              refine lv_aload_n hx hb d_w_law_496 rfl (lv_at hl 0 rfl) ?_
                              refine lv_iload hx hb d_w_law_497 (lv_at hl 4 rfl) ?_
                              refine lv_iconst (v := 1) hx hb d_w_law_499 zc_iconst_1 ?_
                              refine lv_iadd hx hb d_w_law_500 ?_
                              obtain ⟨hi, h⟩ := h
                              refine va_sld hx hb hXs hbl (Nat.not_le.mpr hbl) hI.2.2.1 hi d_w_law_501 ?_
                              refine lc_i (va_runV (As := [.int (xs (Int32.toNatClampNeg (v4 + 1)))]) (rest := []) ⟨hx, hb, hml, hown, hts⟩ (t_x_table l D ad ca h _) (cwV 1 hts (zg_V q_327 q_328 q_329 q_39 q_330) rfl rfl rfl ⟨rfl, hd_x_table⟩ ⟨Nat.le_of_ble_eq_true rfl, Nat.le_of_ble_eq_true rfl⟩) (z_preV zNs_ok (lKc hK) hN (lc_sub hI) 0 0 rfl rfl _) rfl rfl hl.1 rfl (lv_room (Nat.le_of_ble_eq_true rfl)) d_w_law_502 ⟨by show _ + 0 ≤ 601024; omega, by show _ + 0 ≤ 7293034; omega⟩) hI ?_
                              intro r49 u50 H locs h hI
                              refine lv_aload_n hx hb d_w_law_505 rfl (lv_at hl 2 rfl) ?_
                              refine lv_aload_n hx hb d_w_law_506 rfl (lv_at hl 0 rfl) ?_
                              refine lv_iload hx hb d_w_law_507 (lv_at hl 4 rfl) ?_
                              refine lv_iconst (v := 1) hx hb d_w_law_509 zc_iconst_1 ?_
                              refine lv_iadd hx hb d_w_law_510 ?_
                              obtain ⟨hi, h⟩ := h
                              refine va_sld hx hb hXs hbl (Nat.not_le.mpr hbl) hI.2.2.1 hi d_w_law_511 ?_
                              refine lm_i (va_runV (As := [.int (xs (Int32.toNatClampNeg (v4 + 1)))]) (rest := [.int r49]) ⟨hx, hb, hml, hown, hts⟩ (t_m_table l D bd cb h _) (cwV 1 hts (zg_V q_854 q_855 q_856 q_44 q_857) rfl rfl rfl ⟨rfl, hd_m_table⟩ ⟨Nat.le_of_ble_eq_true rfl, Nat.le_of_ble_eq_true rfl⟩) (z_preV zNs_ok (lKm hK) hN (lm_sub hI) 0 5 rfl rfl _) rfl rfl hl.1 rfl (lv_room (Nat.le_of_ble_eq_true rfl)) d_w_law_512 ⟨by show _ + 0 ≤ 601024; omega, by show _ + 0 ≤ 7293034; omega⟩) hI ?_
                              intro r51 u52 H locs h hI
                              refine lv_icmp_eq hx hb d_w_law_515 rfl (fun hc => ?_) (fun hc => ?_)
                              · have h := h.1 hc
                                refine W.widen (k := kc + 1) (n := ks + 6) (by omega) (by omega) ?_
                                exact k_w_law_776 cx0 hY (by omega) (by omega) (fun v4 u H locs ls hI hl h => ih (kc + 1) (ks + 6) v4 u H locs ls (by omega) (by omega) hI hl h) hI (lv_sub hl [0, 1, 2, 3, 4] rfl) h
                              · have h := h.2 hc
                                refine lv_iconst (v := 0) hx hb d_w_law_518 zc_iconst_0 ?_
                                exact (h : False).elim
                            · skip
                              by_cases hc12 : ((xs (Int32.toNatClampNeg v4)) &&& 31) = 12
                              · have h := h.2.2.2.2.2.2.2.2.2.2.2.2.1 hc12
                                refine lv_tableIn hx hb d_w_law_39 (by rw [hc12]; decide) (by rw [hc12]; decide) (by rw [hc12]; rfl) rfl ?_
                                refine lv_aload_n hx hb d_w_law_520 rfl (lv_at hl 1 rfl) ?_
                                refine lv_aload_n hx hb d_w_law_521 rfl (lv_at hl 3 rfl) ?_
                                refine lh_i (mc := 1) (ms := 6) (l_runSW (As := [.ref (ad 0), .ref od]) (rest := []) ⟨hx, hb, hml, hown, hts⟩ (t_w_score l htr hF hN0 D ad ca bd cb od oc had h _) rfl rfl (Nat.le_of_ble_eq_true rfl) (Nat.le_of_ble_eq_true rfl) q_516 q_514 q_515 q_38 hd_w_score (lh_pre hK hN hI _) rfl rfl hl.1 rfl (lv_room (Nat.le_of_ble_eq_true rfl)) d_w_law_522 ⟨by show kc + 1 ≤ 601024; omega, by show ks + 6 ≤ 7293034; omega⟩) hI ?_
                                intro r53 u54 H locs h hI
                                refine lv_istore hx hb d_w_law_525 hl (by decide) rfl ?_
                                intro ls hl
                                have hl : lv_has ls 7 [(5, .int r53), (0, .ref b), (1, .ref (ad 0)), (2, .ref (bd 0)), (3, .ref od), (4, .int v4)] := hl
                                refine lv_aload_n hx hb d_w_law_527 rfl (lv_at hl 3 rfl) ?_
                                refine lm_i (va_runV (As := []) (rest := []) ⟨hx, hb, hml, hown, hts⟩ (t_m_score l D bd cb h _) (cwV 0 hts (zg_V q_858 q_859 q_860 q_44 q_861) rfl rfl rfl ⟨rfl, hd_m_score⟩ ⟨Nat.le_of_ble_eq_true rfl, Nat.le_of_ble_eq_true rfl⟩) (z_preV zNs_ok (lKm hK) hN (lm_sub hI) 0 5 rfl rfl _) rfl rfl hl.1 rfl (lv_room (Nat.le_of_ble_eq_true rfl)) d_w_law_528 ⟨by show _ + 0 ≤ 601024; omega, by show _ + 0 ≤ 7293034; omega⟩) hI ?_
                                intro r55 u56 H locs h hI
                                refine lv_istore hx hb d_w_law_531 hl (by decide) rfl ?_
                                intro ls hl
                                have hl : lv_has ls 7 [(6, .int r55), (5, .int r53), (0, .ref b), (1, .ref (ad 0)), (2, .ref (bd 0)), (3, .ref od), (4, .int v4)] := hl
                                refine lv_aload_n hx hb d_w_law_533 rfl (lv_at hl 4 rfl) ?_
                                refine lm_i (va_runV (As := []) (rest := []) ⟨hx, hb, hml, hown, hts⟩ (t_m_thrown l D bd cb h _) (cwV 0 hts (zg_V q_730 q_731 q_732 q_44 q_733) rfl rfl rfl ⟨rfl, hd_m_thrown⟩ ⟨Nat.le_of_ble_eq_true rfl, Nat.le_of_ble_eq_true rfl⟩) (z_preV zNs_ok (lKm hK) hN (lm_sub hI) 0 5 rfl rfl _) rfl rfl hl.1 rfl (lv_room (Nat.le_of_ble_eq_true rfl)) d_w_law_534 ⟨by show _ + 0 ≤ 601024; omega, by show _ + 0 ≤ 7293034; omega⟩) hI ?_
                                intro r57 u58 H locs h hI
                                refine lv_iload hx hb d_w_law_537 (lv_at hl 1 rfl) ?_
                                refine lv_icmp_eq hx hb d_w_law_539 rfl (fun hc => ?_) (fun hc => ?_)
                                · have h := h.1 hc
                                  refine lv_iload hx hb d_w_law_544 (lv_at hl 1 rfl) ?_
                                  refine lv_if_ne hx hb d_w_law_546 rfl (fun hc => ?_) (fun hc => ?_)
                                  · have h := h.1 hc
                                    refine W.widen (k := kc + 1) (n := ks + 6) (by omega) (by omega) ?_
                                    exact k_w_law_561 cx0 hY (by omega) (by omega) (fun v4 u H locs ls hI hl h => ih (kc + 1) (ks + 6) v4 u H locs ls (by omega) (by omega) hI hl h) hI (lv_sub hl [2, 3, 4, 5, 6] rfl) h
                                  · have h := h.2 hc
                                    refine lv_aload_n hx hb d_w_law_549 rfl (lv_at hl 5 rfl) ?_
                                    refine lv_iconst (v := 0) hx hb d_w_law_550 zc_iconst_0 ?_
                                    refine lo_a hx hb hK hI (by unfold vp_in; decide) d_w_law_551 ?_
                                    refine lv_iload hx hb d_w_law_552 (lv_at hl 0 rfl) ?_
                                    refine lv_i2l (v := (Int32.toInt64 r55)) hx hb d_w_law_554 rfl ?_
                                    refine W.lcmp hx hb d_w_law_555 ?_
                                    refine lv_if_eq hx hb d_w_law_556 rfl (fun hc => ?_) (fun hc => ?_)
                                    · have h := h.1 hc
                                      refine W.widen (k := kc + 1) (n := ks + 6) (by omega) (by omega) ?_
                                      exact k_w_law_561 cx0 hY (by omega) (by omega) (fun v4 u H locs ls hI hl h => ih (kc + 1) (ks + 6) v4 u H locs ls (by omega) (by omega) hI hl h) hI (lv_sub hl [2, 3, 4, 5, 6] rfl) h
                                    · have h := h.2 hc
                                      refine lv_iconst (v := 0) hx hb d_w_law_559 zc_iconst_0 ?_
                                      exact (h : False).elim
                                · have h := h.2 hc
                                  refine lv_iconst (v := 0) hx hb d_w_law_542 zc_iconst_0 ?_
                                  exact (h : False).elim
                              · skip
                                by_cases hc13 : ((xs (Int32.toNatClampNeg v4)) &&& 31) = 13
                                · have h := h.2.2.2.2.2.2.2.2.2.2.2.2.2.1 hc13
                                  refine lv_tableIn hx hb d_w_law_39 (by rw [hc13]; decide) (by rw [hc13]; decide) (by rw [hc13]; rfl) rfl ?_
                                  refine lv_aload_n hx hb d_w_law_564 rfl (lv_at hl 1 rfl) ?_
                                  refine lv_aload_n hx hb d_w_law_565 rfl (lv_at hl 3 rfl) ?_
                                  refine lh_i (mc := 1) (ms := 6) (l_runSW (As := [.ref (ad 0), .ref od]) (rest := []) ⟨hx, hb, hml, hown, hts⟩ (t_w_solve l htr hF hN0 D ad ca bd cb od oc had h _) rfl rfl (Nat.le_of_ble_eq_true rfl) (Nat.le_of_ble_eq_true rfl) q_551 q_549 q_550 q_38 hd_w_solve (lh_pre hK hN hI _) rfl rfl hl.1 rfl (lv_room (Nat.le_of_ble_eq_true rfl)) d_w_law_566 ⟨by show kc + 1 ≤ 601024; omega, by show ks + 6 ≤ 7293034; omega⟩) hI ?_
                                  intro r59 u60 H locs h hI
                                  refine lv_istore hx hb d_w_law_569 hl (by decide) rfl ?_
                                  intro ls hl
                                  have hl : lv_has ls 7 [(5, .int r59), (0, .ref b), (1, .ref (ad 0)), (2, .ref (bd 0)), (3, .ref od), (4, .int v4)] := hl
                                  refine lv_aload_n hx hb d_w_law_571 rfl (lv_at hl 3 rfl) ?_
                                  refine lm_i (va_runV (As := []) (rest := []) ⟨hx, hb, hml, hown, hts⟩ (t_m_solve l D bd cb h _) (cwV 0 hts (zg_V q_869 q_870 q_871 q_44 q_872) rfl rfl rfl ⟨rfl, hd_m_solve⟩ ⟨Nat.le_of_ble_eq_true rfl, Nat.le_of_ble_eq_true rfl⟩) (z_preV zNs_ok (lKm hK) hN (lm_sub hI) 0 5 rfl rfl _) rfl rfl hl.1 rfl (lv_room (Nat.le_of_ble_eq_true rfl)) d_w_law_572 ⟨by show _ + 0 ≤ 601024; omega, by show _ + 0 ≤ 7293034; omega⟩) hI ?_
                                  intro r61 u62 H locs h hI
                                  refine lv_istore hx hb d_w_law_575 hl (by decide) rfl ?_
                                  intro ls hl
                                  have hl : lv_has ls 7 [(6, .int r61), (5, .int r59), (0, .ref b), (1, .ref (ad 0)), (2, .ref (bd 0)), (3, .ref od), (4, .int v4)] := hl
                                  refine lv_aload_n hx hb d_w_law_577 rfl (lv_at hl 4 rfl) ?_
                                  refine lm_i (va_runV (As := []) (rest := []) ⟨hx, hb, hml, hown, hts⟩ (t_m_thrown l D bd cb h _) (cwV 0 hts (zg_V q_730 q_731 q_732 q_44 q_733) rfl rfl rfl ⟨rfl, hd_m_thrown⟩ ⟨Nat.le_of_ble_eq_true rfl, Nat.le_of_ble_eq_true rfl⟩) (z_preV zNs_ok (lKm hK) hN (lm_sub hI) 0 5 rfl rfl _) rfl rfl hl.1 rfl (lv_room (Nat.le_of_ble_eq_true rfl)) d_w_law_578 ⟨by show _ + 0 ≤ 601024; omega, by show _ + 0 ≤ 7293034; omega⟩) hI ?_
                                  intro r63 u64 H locs h hI
                                  refine lv_iload hx hb d_w_law_581 (lv_at hl 1 rfl) ?_
                                  refine lv_icmp_eq hx hb d_w_law_583 rfl (fun hc => ?_) (fun hc => ?_)
                                  · have h := h.1 hc
                                    refine lv_iload hx hb d_w_law_588 (lv_at hl 1 rfl) ?_
                                    refine lv_if_ne hx hb d_w_law_590 rfl (fun hc => ?_) (fun hc => ?_)
                                    · have h := h.1 hc
                                      refine W.widen (k := kc + 1) (n := ks + 6) (by omega) (by omega) ?_
                                      exact k_w_law_605 cx0 hY (by omega) (by omega) (fun v4 u H locs ls hI hl h => ih (kc + 1) (ks + 6) v4 u H locs ls (by omega) (by omega) hI hl h) hI (lv_sub hl [2, 3, 4, 5, 6] rfl) h
                                    · have h := h.2 hc
                                      refine lv_aload_n hx hb d_w_law_593 rfl (lv_at hl 5 rfl) ?_
                                      refine lv_iconst (v := 0) hx hb d_w_law_594 zc_iconst_0 ?_
                                      refine lo_a hx hb hK hI (by unfold vp_in; decide) d_w_law_595 ?_
                                      refine lv_iload hx hb d_w_law_596 (lv_at hl 0 rfl) ?_
                                      refine lv_i2l (v := (Int32.toInt64 r61)) hx hb d_w_law_598 rfl ?_
                                      refine W.lcmp hx hb d_w_law_599 ?_
                                      refine lv_if_eq hx hb d_w_law_600 rfl (fun hc => ?_) (fun hc => ?_)
                                      · have h := h.1 hc
                                        refine W.widen (k := kc + 1) (n := ks + 6) (by omega) (by omega) ?_
                                        exact k_w_law_605 cx0 hY (by omega) (by omega) (fun v4 u H locs ls hI hl h => ih (kc + 1) (ks + 6) v4 u H locs ls (by omega) (by omega) hI hl h) hI (lv_sub hl [2, 3, 4, 5, 6] rfl) h
                                      · have h := h.2 hc
                                        refine lv_iconst (v := 0) hx hb d_w_law_603 zc_iconst_0 ?_
                                        exact (h : False).elim
                                  · have h := h.2 hc
                                    refine lv_iconst (v := 0) hx hb d_w_law_586 zc_iconst_0 ?_
                                    exact (h : False).elim
                                · skip
                                  by_cases hc14 : ((xs (Int32.toNatClampNeg v4)) &&& 31) = 14
                                  · have h := h.2.2.2.2.2.2.2.2.2.2.2.2.2.2.1 hc14
                                    refine lv_tableIn hx hb d_w_law_39 (by rw [hc14]; decide) (by rw [hc14]; decide) (by rw [hc14]; rfl) rfl ?_
                                    refine lv_aload_n hx hb d_w_law_608 rfl (lv_at hl 1 rfl) ?_
                                    refine lv_aload_n hx hb d_w_law_609 rfl (lv_at hl 3 rfl) ?_
                                    refine lh_i (mc := 1) (ms := 6) (l_runSW (As := [.ref (ad 0), .ref od]) (rest := []) ⟨hx, hb, hml, hown, hts⟩ (t_w_record l htr hF hN0 D ad ca bd cb od oc had h _) rfl rfl (Nat.le_of_ble_eq_true rfl) (Nat.le_of_ble_eq_true rfl) q_584 q_582 q_583 q_38 hd_w_record (lh_pre hK hN hI _) rfl rfl hl.1 rfl (lv_room (Nat.le_of_ble_eq_true rfl)) d_w_law_610 ⟨by show kc + 1 ≤ 601024; omega, by show ks + 6 ≤ 7293034; omega⟩) hI ?_
                                    intro r65 u66 H locs h hI
                                    refine lv_istore hx hb d_w_law_613 hl (by decide) rfl ?_
                                    intro ls hl
                                    have hl : lv_has ls 7 [(5, .int r65), (0, .ref b), (1, .ref (ad 0)), (2, .ref (bd 0)), (3, .ref od), (4, .int v4)] := hl
                                    refine lv_aload_n hx hb d_w_law_615 rfl (lv_at hl 3 rfl) ?_
                                    refine lm_i (va_runV (As := []) (rest := []) ⟨hx, hb, hml, hown, hts⟩ (t_m_record l D bd cb h _) (cwV 0 hts (zg_V q_893 q_894 q_895 q_44 q_896) rfl rfl rfl ⟨rfl, hd_m_record⟩ ⟨Nat.le_of_ble_eq_true rfl, Nat.le_of_ble_eq_true rfl⟩) (z_preV zNs_ok (lKm hK) hN (lm_sub hI) 0 5 rfl rfl _) rfl rfl hl.1 rfl (lv_room (Nat.le_of_ble_eq_true rfl)) d_w_law_616 ⟨by show _ + 0 ≤ 601024; omega, by show _ + 0 ≤ 7293034; omega⟩) hI ?_
                                    intro r67 u68 H locs h hI
                                    refine lv_istore hx hb d_w_law_619 hl (by decide) rfl ?_
                                    intro ls hl
                                    have hl : lv_has ls 7 [(6, .int r67), (5, .int r65), (0, .ref b), (1, .ref (ad 0)), (2, .ref (bd 0)), (3, .ref od), (4, .int v4)] := hl
                                    refine lv_aload_n hx hb d_w_law_621 rfl (lv_at hl 4 rfl) ?_
                                    refine lm_i (va_runV (As := []) (rest := []) ⟨hx, hb, hml, hown, hts⟩ (t_m_thrown l D bd cb h _) (cwV 0 hts (zg_V q_730 q_731 q_732 q_44 q_733) rfl rfl rfl ⟨rfl, hd_m_thrown⟩ ⟨Nat.le_of_ble_eq_true rfl, Nat.le_of_ble_eq_true rfl⟩) (z_preV zNs_ok (lKm hK) hN (lm_sub hI) 0 5 rfl rfl _) rfl rfl hl.1 rfl (lv_room (Nat.le_of_ble_eq_true rfl)) d_w_law_622 ⟨by show _ + 0 ≤ 601024; omega, by show _ + 0 ≤ 7293034; omega⟩) hI ?_
                                    intro r69 u70 H locs h hI
                                    refine lv_iload hx hb d_w_law_625 (lv_at hl 1 rfl) ?_
                                    refine lv_icmp_eq hx hb d_w_law_627 rfl (fun hc => ?_) (fun hc => ?_)
                                    · have h := h.1 hc
                                      refine lv_iload hx hb d_w_law_632 (lv_at hl 1 rfl) ?_
                                      refine lv_if_ne hx hb d_w_law_634 rfl (fun hc => ?_) (fun hc => ?_)
                                      · have h := h.1 hc
                                        refine W.widen (k := kc + 1) (n := ks + 6) (by omega) (by omega) ?_
                                        exact k_w_law_649 cx0 hY (by omega) (by omega) (fun v4 u H locs ls hI hl h => ih (kc + 1) (ks + 6) v4 u H locs ls (by omega) (by omega) hI hl h) hI (lv_sub hl [2, 3, 4, 5, 6] rfl) h
                                      · have h := h.2 hc
                                        refine lv_aload_n hx hb d_w_law_637 rfl (lv_at hl 5 rfl) ?_
                                        refine lv_iconst (v := 0) hx hb d_w_law_638 zc_iconst_0 ?_
                                        refine lo_a hx hb hK hI (by unfold vp_in; decide) d_w_law_639 ?_
                                        refine lv_iload hx hb d_w_law_640 (lv_at hl 0 rfl) ?_
                                        refine lv_i2l (v := (Int32.toInt64 r67)) hx hb d_w_law_642 rfl ?_
                                        refine W.lcmp hx hb d_w_law_643 ?_
                                        refine lv_if_eq hx hb d_w_law_644 rfl (fun hc => ?_) (fun hc => ?_)
                                        · have h := h.1 hc
                                          refine W.widen (k := kc + 1) (n := ks + 6) (by omega) (by omega) ?_
                                          exact k_w_law_649 cx0 hY (by omega) (by omega) (fun v4 u H locs ls hI hl h => ih (kc + 1) (ks + 6) v4 u H locs ls (by omega) (by omega) hI hl h) hI (lv_sub hl [2, 3, 4, 5, 6] rfl) h
                                        · have h := h.2 hc
                                          refine lv_iconst (v := 0) hx hb d_w_law_647 zc_iconst_0 ?_
                                          exact (h : False).elim
                                    · have h := h.2 hc
                                      refine lv_iconst (v := 0) hx hb d_w_law_630 zc_iconst_0 ?_
                                      exact (h : False).elim
                                  · skip
                                    by_cases hc15 : ((xs (Int32.toNatClampNeg v4)) &&& 31) = 15
                                    · have h := h.2.2.2.2.2.2.2.2.2.2.2.2.2.2.2.1 hc15
                                      refine lv_tableIn hx hb d_w_law_39 (by rw [hc15]; decide) (by rw [hc15]; decide) (by rw [hc15]; rfl) rfl ?_
                                      refine lv_aload_n hx hb d_w_law_652 rfl (lv_at hl 1 rfl) ?_
                                      refine lv_aload_n hx hb d_w_law_653 rfl (lv_at hl 0 rfl) ?_
                                      refine lv_iload hx hb d_w_law_654 (lv_at hl 4 rfl) ?_
                                      refine lv_iconst (v := 1) hx hb d_w_law_656 zc_iconst_1 ?_
                                      refine lv_iadd hx hb d_w_law_657 ?_
                                      obtain ⟨hi, h⟩ := h
                                      refine va_sld hx hb hXs hbl (Nat.not_le.mpr hbl) hI.2.2.1 hi d_w_law_658 ?_
                                      refine lv_aload_n hx hb d_w_law_659 rfl (lv_at hl 0 rfl) ?_
                                      refine lv_iload hx hb d_w_law_660 (lv_at hl 4 rfl) ?_
                                      refine lv_iconst (v := 2) hx hb d_w_law_662 zc_iconst_2 ?_
                                      refine lv_iadd hx hb d_w_law_663 ?_
                                      obtain ⟨hi, h⟩ := h
                                      refine va_sld hx hb hXs hbl (Nat.not_le.mpr hbl) hI.2.2.1 hi d_w_law_664 ?_
                                      refine lv_aload_n hx hb d_w_law_665 rfl (lv_at hl 3 rfl) ?_
                                      refine lh_i (mc := 1) (ms := 6) (l_runSW (As := [.ref (ad 0), .int (xs (Int32.toNatClampNeg (v4 + 1))), .int (xs (Int32.toNatClampNeg (v4 + 2))), .ref od]) (rest := []) ⟨hx, hb, hml, hown, hts⟩ (t_w_points l htr hF hN0 D ad ca bd cb od oc had h _) rfl rfl (Nat.le_of_ble_eq_true rfl) (Nat.le_of_ble_eq_true rfl) q_600 q_598 q_599 q_38 hd_w_points (lh_pre hK hN hI _) rfl rfl hl.1 rfl (lv_room (Nat.le_of_ble_eq_true rfl)) d_w_law_666 ⟨by show kc + 1 ≤ 601024; omega, by show ks + 6 ≤ 7293034; omega⟩) hI ?_
                                      intro r71 u72 H locs h hI
                                      refine lv_istore hx hb d_w_law_669 hl (by decide) rfl ?_
                                      intro ls hl
                                      have hl : lv_has ls 7 [(5, .int r71), (0, .ref b), (1, .ref (ad 0)), (2, .ref (bd 0)), (3, .ref od), (4, .int v4)] := hl
                                      refine lv_aload_n hx hb d_w_law_671 rfl (lv_at hl 3 rfl) ?_
                                      refine lv_aload_n hx hb d_w_law_672 rfl (lv_at hl 1 rfl) ?_
                                      refine lv_iload hx hb d_w_law_673 (lv_at hl 5 rfl) ?_
                                      refine lv_iconst (v := 1) hx hb d_w_law_675 zc_iconst_1 ?_
                                      refine lv_iadd hx hb d_w_law_676 ?_
                                      obtain ⟨hi, h⟩ := h
                                      refine va_sld hx hb hXs hbl (Nat.not_le.mpr hbl) hI.2.2.1 hi d_w_law_677 ?_
                                      refine lv_aload_n hx hb d_w_law_678 rfl (lv_at hl 1 rfl) ?_
                                      refine lv_iload hx hb d_w_law_679 (lv_at hl 5 rfl) ?_
                                      refine lv_iconst (v := 2) hx hb d_w_law_681 zc_iconst_2 ?_
                                      refine lv_iadd hx hb d_w_law_682 ?_
                                      obtain ⟨hi, h⟩ := h
                                      refine va_sld hx hb hXs hbl (Nat.not_le.mpr hbl) hI.2.2.1 hi d_w_law_683 ?_
                                      refine lm_i (va_runV (As := [.int (xs (Int32.toNatClampNeg (v4 + 1))), .int (xs (Int32.toNatClampNeg (v4 + 2)))]) (rest := []) ⟨hx, hb, hml, hown, hts⟩ (t_m_points l D bd cb h _) (cwV 2 hts (zg_V q_897 q_898 q_899 q_44 q_900) rfl rfl rfl ⟨rfl, hd_m_points⟩ ⟨Nat.le_of_ble_eq_true rfl, Nat.le_of_ble_eq_true rfl⟩) (z_preV zNs_ok (lKm hK) hN (lm_sub hI) 0 5 rfl rfl _) rfl rfl hl.1 rfl (lv_room (Nat.le_of_ble_eq_true rfl)) d_w_law_684 ⟨by show _ + 0 ≤ 601024; omega, by show _ + 0 ≤ 7293034; omega⟩) hI ?_
                                      intro r73 u74 H locs h hI
                                      refine lv_istore hx hb d_w_law_687 hl (by decide) rfl ?_
                                      intro ls hl
                                      have hl : lv_has ls 7 [(6, .int r73), (5, .int r71), (0, .ref b), (1, .ref (ad 0)), (2, .ref (bd 0)), (3, .ref od), (4, .int v4)] := hl
                                      refine lv_aload_n hx hb d_w_law_689 rfl (lv_at hl 4 rfl) ?_
                                      refine lm_i (va_runV (As := []) (rest := []) ⟨hx, hb, hml, hown, hts⟩ (t_m_thrown l D bd cb h _) (cwV 0 hts (zg_V q_730 q_731 q_732 q_44 q_733) rfl rfl rfl ⟨rfl, hd_m_thrown⟩ ⟨Nat.le_of_ble_eq_true rfl, Nat.le_of_ble_eq_true rfl⟩) (z_preV zNs_ok (lKm hK) hN (lm_sub hI) 0 5 rfl rfl _) rfl rfl hl.1 rfl (lv_room (Nat.le_of_ble_eq_true rfl)) d_w_law_690 ⟨by show _ + 0 ≤ 601024; omega, by show _ + 0 ≤ 7293034; omega⟩) hI ?_
                                      intro r75 u76 H locs h hI
                                      refine lv_iload hx hb d_w_law_693 (lv_at hl 1 rfl) ?_
                                      refine lv_icmp_eq hx hb d_w_law_695 rfl (fun hc => ?_) (fun hc => ?_)
                                      · have h := h.1 hc
                                        refine lv_iload hx hb d_w_law_700 (lv_at hl 1 rfl) ?_
                                        refine lv_if_ne hx hb d_w_law_702 rfl (fun hc => ?_) (fun hc => ?_)
                                        · have h := h.1 hc
                                          refine W.widen (k := kc + 1) (n := ks + 6) (by omega) (by omega) ?_
                                          exact k_w_law_717 cx0 hY (by omega) (by omega) (fun v4 u H locs ls hI hl h => ih (kc + 1) (ks + 6) v4 u H locs ls (by omega) (by omega) hI hl h) hI (lv_sub hl [2, 3, 4, 5, 6] rfl) h
                                        · have h := h.2 hc
                                          refine lv_aload_n hx hb d_w_law_705 rfl (lv_at hl 5 rfl) ?_
                                          refine lv_iconst (v := 0) hx hb d_w_law_706 zc_iconst_0 ?_
                                          refine lo_a hx hb hK hI (by unfold vp_in; decide) d_w_law_707 ?_
                                          refine lv_iload hx hb d_w_law_708 (lv_at hl 0 rfl) ?_
                                          refine lv_i2l (v := (Int32.toInt64 r73)) hx hb d_w_law_710 rfl ?_
                                          refine W.lcmp hx hb d_w_law_711 ?_
                                          refine lv_if_eq hx hb d_w_law_712 rfl (fun hc => ?_) (fun hc => ?_)
                                          · have h := h.1 hc
                                            refine W.widen (k := kc + 1) (n := ks + 6) (by omega) (by omega) ?_
                                            exact k_w_law_717 cx0 hY (by omega) (by omega) (fun v4 u H locs ls hI hl h => ih (kc + 1) (ks + 6) v4 u H locs ls (by omega) (by omega) hI hl h) hI (lv_sub hl [2, 3, 4, 5, 6] rfl) h
                                          · have h := h.2 hc
                                            refine lv_iconst (v := 0) hx hb d_w_law_715 zc_iconst_0 ?_
                                            exact (h : False).elim
                                      · have h := h.2 hc
                                        refine lv_iconst (v := 0) hx hb d_w_law_698 zc_iconst_0 ?_
                                        exact (h : False).elim
                                    · skip
                                      by_cases hc16 : ((xs (Int32.toNatClampNeg v4)) &&& 31) = 16
                                      · have h := h.2.2.2.2.2.2.2.2.2.2.2.2.2.2.2.2.1 hc16
                                        refine lv_tableIn hx hb d_w_law_39 (by rw [hc16]; decide) (by rw [hc16]; decide) (by rw [hc16]; rfl) rfl ?_
                                        refine lv_aload_n hx hb d_w_law_720 rfl (lv_at hl 1 rfl) ?_
                                        refine lv_aload_n hx hb d_w_law_721 rfl (lv_at hl 0 rfl) ?_
                                        refine lv_iload hx hb d_w_law_722 (lv_at hl 4 rfl) ?_
                                        refine lv_iconst (v := 1) hx hb d_w_law_724 zc_iconst_1 ?_
                                        refine lv_iadd hx hb d_w_law_725 ?_
                                        obtain ⟨hi, h⟩ := h
                                        refine va_sld hx hb hXs hbl (Nat.not_le.mpr hbl) hI.2.2.1 hi d_w_law_726 ?_
                                        refine lv_aload_n hx hb d_w_law_727 rfl (lv_at hl 3 rfl) ?_
                                        refine lh_i (mc := 1) (ms := 6) (l_runSW (As := [.ref (ad 0), .int (xs (Int32.toNatClampNeg (v4 + 1))), .ref od]) (rest := []) ⟨hx, hb, hml, hown, hts⟩ (t_w_places l htr hF hN0 D ad ca bd cb od oc had h _) rfl rfl (Nat.le_of_ble_eq_true rfl) (Nat.le_of_ble_eq_true rfl) q_636 q_634 q_635 q_38 hd_w_places (lh_pre hK hN hI _) rfl rfl hl.1 rfl (lv_room (Nat.le_of_ble_eq_true rfl)) d_w_law_728 ⟨by show kc + 1 ≤ 601024; omega, by show ks + 6 ≤ 7293034; omega⟩) hI ?_
                                        intro r77 u78 H locs h hI
                                        refine lv_istore hx hb d_w_law_731 hl (by decide) rfl ?_
                                        intro ls hl
                                        have hl : lv_has ls 7 [(5, .int r77), (0, .ref b), (1, .ref (ad 0)), (2, .ref (bd 0)), (3, .ref od), (4, .int v4)] := hl
                                        refine lv_aload_n hx hb d_w_law_733 rfl (lv_at hl 3 rfl) ?_
                                        refine lv_aload_n hx hb d_w_law_734 rfl (lv_at hl 1 rfl) ?_
                                        refine lv_iload hx hb d_w_law_735 (lv_at hl 5 rfl) ?_
                                        refine lv_iconst (v := 1) hx hb d_w_law_737 zc_iconst_1 ?_
                                        refine lv_iadd hx hb d_w_law_738 ?_
                                        obtain ⟨hi, h⟩ := h
                                        refine va_sld hx hb hXs hbl (Nat.not_le.mpr hbl) hI.2.2.1 hi d_w_law_739 ?_
                                        refine lm_i (va_runV (As := [.int (xs (Int32.toNatClampNeg (v4 + 1)))]) (rest := []) ⟨hx, hb, hml, hown, hts⟩ (t_m_places l D bd cb h _) (cwV 1 hts (zg_V q_908 q_909 q_910 q_44 q_911) rfl rfl rfl ⟨rfl, hd_m_places⟩ ⟨Nat.le_of_ble_eq_true rfl, Nat.le_of_ble_eq_true rfl⟩) (z_preV zNs_ok (lKm hK) hN (lm_sub hI) 0 5 rfl rfl _) rfl rfl hl.1 rfl (lv_room (Nat.le_of_ble_eq_true rfl)) d_w_law_740 ⟨by show _ + 0 ≤ 601024; omega, by show _ + 0 ≤ 7293034; omega⟩) hI ?_
                                        intro r79 u80 H locs h hI
                                        refine lv_istore hx hb d_w_law_743 hl (by decide) rfl ?_
                                        intro ls hl
                                        have hl : lv_has ls 7 [(6, .int r79), (5, .int r77), (0, .ref b), (1, .ref (ad 0)), (2, .ref (bd 0)), (3, .ref od), (4, .int v4)] := hl
                                        refine lv_aload_n hx hb d_w_law_745 rfl (lv_at hl 4 rfl) ?_
                                        refine lm_i (va_runV (As := []) (rest := []) ⟨hx, hb, hml, hown, hts⟩ (t_m_thrown l D bd cb h _) (cwV 0 hts (zg_V q_730 q_731 q_732 q_44 q_733) rfl rfl rfl ⟨rfl, hd_m_thrown⟩ ⟨Nat.le_of_ble_eq_true rfl, Nat.le_of_ble_eq_true rfl⟩) (z_preV zNs_ok (lKm hK) hN (lm_sub hI) 0 5 rfl rfl _) rfl rfl hl.1 rfl (lv_room (Nat.le_of_ble_eq_true rfl)) d_w_law_746 ⟨by show _ + 0 ≤ 601024; omega, by show _ + 0 ≤ 7293034; omega⟩) hI ?_
                                        intro r81 u82 H locs h hI
                                        refine lv_iload hx hb d_w_law_749 (lv_at hl 1 rfl) ?_
                                        refine lv_icmp_eq hx hb d_w_law_751 rfl (fun hc => ?_) (fun hc => ?_)
                                        · have h := h.1 hc
                                          refine lv_iload hx hb d_w_law_756 (lv_at hl 1 rfl) ?_
                                          refine lv_if_ne hx hb d_w_law_758 rfl (fun hc => ?_) (fun hc => ?_)
                                          · have h := h.1 hc
                                            refine W.widen (k := kc + 1) (n := ks + 6) (by omega) (by omega) ?_
                                            exact k_w_law_773 cx0 hY (by omega) (by omega) (fun v4 u H locs ls hI hl h => ih (kc + 1) (ks + 6) v4 u H locs ls (by omega) (by omega) hI hl h) hI (lv_sub hl [2, 3, 4, 5, 6] rfl) h
                                          · have h := h.2 hc
                                            refine lv_aload_n hx hb d_w_law_761 rfl (lv_at hl 5 rfl) ?_
                                            refine lv_iconst (v := 0) hx hb d_w_law_762 zc_iconst_0 ?_
                                            refine lo_a hx hb hK hI (by unfold vp_in; decide) d_w_law_763 ?_
                                            refine lv_iload hx hb d_w_law_764 (lv_at hl 0 rfl) ?_
                                            refine lv_i2l (v := (Int32.toInt64 r79)) hx hb d_w_law_766 rfl ?_
                                            refine W.lcmp hx hb d_w_law_767 ?_
                                            refine lv_if_eq hx hb d_w_law_768 rfl (fun hc => ?_) (fun hc => ?_)
                                            · have h := h.1 hc
                                              refine W.widen (k := kc + 1) (n := ks + 6) (by omega) (by omega) ?_
                                              exact k_w_law_773 cx0 hY (by omega) (by omega) (fun v4 u H locs ls hI hl h => ih (kc + 1) (ks + 6) v4 u H locs ls (by omega) (by omega) hI hl h) hI (lv_sub hl [2, 3, 4, 5, 6] rfl) h
                                            · have h := h.2 hc
                                              refine lv_iconst (v := 0) hx hb d_w_law_771 zc_iconst_0 ?_
                                              exact (h : False).elim
                                        · have h := h.2 hc
                                          refine lv_iconst (v := 0) hx hb d_w_law_754 zc_iconst_0 ?_
                                          exact (h : False).elim
                                      · skip
                                        have h := h.2.2.2.2.2.2.2.2.2.2.2.2.2.2.2.2.2 ⟨hc0, hc1, hc2, hc3, hc4, hc5, hc6, hc7, hc8, hc9, hc10, hc11, hc12, hc13, hc14, hc15, hc16⟩
                                        have e0 := lv_neT (a := 0) hc0 (by decide)
                                        have e1 := lv_neT (a := 1) hc1 (by decide)
                                        have e2 := lv_neT (a := 2) hc2 (by decide)
                                        have e3 := lv_neT (a := 3) hc3 (by decide)
                                        have e4 := lv_neT (a := 4) hc4 (by decide)
                                        have e5 := lv_neT (a := 5) hc5 (by decide)
                                        have e6 := lv_neT (a := 6) hc6 (by decide)
                                        have e7 := lv_neT (a := 7) hc7 (by decide)
                                        have e8 := lv_neT (a := 8) hc8 (by decide)
                                        have e9 := lv_neT (a := 9) hc9 (by decide)
                                        have e10 := lv_neT (a := 10) hc10 (by decide)
                                        have e11 := lv_neT (a := 11) hc11 (by decide)
                                        have e12 := lv_neT (a := 12) hc12 (by decide)
                                        have e13 := lv_neT (a := 13) hc13 (by decide)
                                        have e14 := lv_neT (a := 14) hc14 (by decide)
                                        have e15 := lv_neT (a := 15) hc15 (by decide)
                                        have e16 := lv_neT (a := 16) hc16 (by decide)
                                        refine lv_tableOut hx hb d_w_law_39 (by omega) rfl ?_
                                        refine W.widen (k := kc + 1) (n := ks + 6) (by omega) (by omega) ?_
                                        exact k_w_law_776 cx0 hY (by omega) (by omega) (fun v4 u H locs ls hI hl h => ih (kc + 1) (ks + 6) v4 u H locs ls (by omega) (by omega) hI hl h) hI (lv_sub hl [0, 1, 2, 3, 4] rfl) h
def w_w_law (xs : Nat → Int32) (L : Nat) (u : ZL) : Prop := ∃ n0, n0 ≤ 600 ∧ b_w_law_23 xs L n0 0 u
set_option maxRecDepth 100000 in
set_option maxHeartbeats 4000000 in
theorem j_w_law {p : Program} {l : Launch} {e : Env} {s : State} {m : MethodId} {below : List Frame} {meth : Method} {c : Code} {D : va_G} {ad : Nat → Nat} {ca : Nat → ClassId} {bd : Nat → Nat} {cb : Nat → ClassId} {od : Nat} {oc : ClassId} {b L : Nat} {xs : Nat → Int32} {kc ks : Nat} (hkc : kc ≤ 600000) (hks : ks ≤ 7200000) (cx : zx p room_1 s m #[Value.ref b] meth c c_w_law 7 2048 84000 "ShortBridgeLaw" ret zG zNs D (lT ca cb oc)) (hY : lY l s ad b L xs) {u : ZL} {H : Heap} {locs : List Loc} {ls : Array Slot} (hI : zw D (fun q => s.heap.size ≤ q) s.heap (lW ad ca bd cb od oc u) H locs) (hl : lv_has ls 7 [(0, .ref b), (1, .ref (ad 0)), (2, .ref (bd 0)), (3, .ref od)]) (h : w_w_law xs L u) : W p l e room_1 s m #[Value.ref b] below meth c H locs kc ks (lw_Z below #[Value.ref b] s) (F0 m 20 ls []) := by
  have cx0 := cx
  obtain ⟨hx, hb, hml, hown, hts, hN, hK, hr, hlk, hfr, hlc⟩ := cx
  obtain ⟨hF, hN0, htr, hXs, hbl, had⟩ := id hY
  unfold w_w_law at h
  refine lv_iconst (v := 0) hx hb d_w_law_20 zc_iconst_0 ?_
  refine lv_istore hx hb d_w_law_21 hl (by decide) rfl ?_
  intro ls hl
  have hl : lv_has ls 7 [(4, .int 0), (0, .ref b), (1, .ref (ad 0)), (2, .ref (bd 0)), (3, .ref od)] := hl
  obtain ⟨n0, hn0, h⟩ := h
  exact k_w_law_23 cx0 hY n0 _ _ _ _ _ _ _ (by omega) (by omega) hI (lv_sub hl [1, 2, 3, 4, 0] rfl) h
