def w_m_thrown  (u : ZS) (post : Int32 → ZS → Prop) : Prop := post (fI u 0) u
set_option maxRecDepth 100000 in
set_option maxHeartbeats 4000000 in
theorem t_m_thrown (l : Launch) (D : va_G) (ad : Nat → Nat) (ca : Nat → ClassId)  {u : ZS} {post : Int32 → ZS → Prop} (h : w_m_thrown  u post) : zI l y_m_thrown (Cond.code y_m_thrown c_m_thrown 1 (some .int) :: zG) { frames := 1, cells := 0, slots := 0, locals := 12 } D (mT ca) zNs (mW ad ca) [.ref (ad 0)] u post := by
  refine zI_of (cc := c_m_thrown) (maxL := 1) (ret := (some .int)) (by decide) (Nat.le_of_ble_eq_true rfl) ?_
  intro p e s m args below meth c ls A cx hI hl
  have cx0 := cx
  obtain ⟨hx, hb, hml, hown, hts, hN, hK, hr, hlk, hfr, hlc⟩ := cx
  have hl : lv_has ls 1 [(0, .ref (ad 0))] := hl
  unfold w_m_thrown at h
  refine lv_aload_n hx hb d_m_thrown_0 rfl (lv_at hl 0 rfl) ?_
  refine mg_M_code hx hb hts hown hK hI (hts _ q_654) d_m_thrown_1 ?_
  exact zret_i hx hb hr hlk hK hI h d_m_thrown_4
def b_m_rows_17  (post : Int64 → ZS → Prop)  (u : ZS) : Prop := post 0 u
set_option maxRecDepth 100000 in
set_option maxHeartbeats 4000000 in
theorem k_m_rows_17 {p : Program} {l : Launch} {e : Env} {R : Room} {s : State} {m : MethodId} {args : Array Value} {below : List Frame} {meth : Method} {c : Code} {D : va_G} {A : Nat → Prop} {ad : Nat → Nat} {ca : Nat → ClassId}  {post : Int64 → ZS → Prop} (cx : zx p R s m args meth c c_m_rows 5 1 12 "ShortBridgeModel" (some .long) zG zNs D (mT ca)) {u : ZS} {H : Heap} {locs : List Loc} {ls : Array Slot} (hI : zw D A s.heap (mW ad ca u) H locs) (hl : lv_has ls 5 []) (h : b_m_rows_17 post  u) : W p l e R s m args below meth c H locs 0 0 (MQ below (va_Ql post (zE D (mT ca) (mW ad ca) A) A) args s 0 0 A) (F0 m 17 ls []) := by
  have cx0 := cx
  obtain ⟨hx, hb, hml, hown, hts, hN, hK, hr, hlk, hfr, hlc⟩ := cx
  unfold b_m_rows_17 at h
  refine lv_lconst (v := 0) hx hb d_m_rows_17 (by decide) ?_
  exact zret_l hx hb hr hlk hK hI h d_m_rows_18
def w_m_rows (v1 : Int32) (v2 : Int32) (v3 : Int32) (v4 : Int32) (u : ZS) (post : Int64 → ZS → Prop) : Prop := (v1 < 0 → b_m_rows_17 post u) ∧ (¬ (v1 < 0) → (v2 < 0 → b_m_rows_17 post u) ∧ (¬ (v2 < 0) → (v3 < 0 → b_m_rows_17 post u) ∧ (¬ (v3 < 0) → (0 ≤ v4 → vp_in ((21 * (((v1 + v2) + v3) + v4)) + v1) 441 ∧ (vp_in ((21 * ((v2 + v3) + v4)) + v2) 441 ∧ (vp_in ((21 * (v3 + v4)) + v3) 441 ∧ (post (((aJ u 0 (Int32.toNatClampNeg ((21 * (((v1 + v2) + v3) + v4)) + v1))) * (aJ u 0 (Int32.toNatClampNeg ((21 * ((v2 + v3) + v4)) + v2)))) * (aJ u 0 (Int32.toNatClampNeg ((21 * (v3 + v4)) + v3)))) u)))) ∧ (¬ (0 ≤ v4) → b_m_rows_17 post u))))
set_option maxRecDepth 100000 in
set_option maxHeartbeats 4000000 in
theorem t_m_rows (l : Launch) (D : va_G) (ad : Nat → Nat) (ca : Nat → ClassId) {v1 : Int32} {v2 : Int32} {v3 : Int32} {v4 : Int32} {u : ZS} {post : Int64 → ZS → Prop} (h : w_m_rows v1 v2 v3 v4 u post) : zJ l y_m_rows (Cond.code y_m_rows c_m_rows 5 (some .long) :: zG) { frames := 1, cells := 0, slots := 0, locals := 12 } D (mT ca) zNs (mW ad ca) [.ref (ad 0), .int v1, .int v2, .int v3, .int v4] u post := by
  refine zJ_of (cc := c_m_rows) (maxL := 5) (ret := (some .long)) (by decide) (Nat.le_of_ble_eq_true rfl) ?_
  intro p e s m args below meth c ls A cx hI hl
  have cx0 := cx
  obtain ⟨hx, hb, hml, hown, hts, hN, hK, hr, hlk, hfr, hlc⟩ := cx
  have hl : lv_has ls 5 [(0, .ref (ad 0)), (1, .int v1), (2, .int v2), (3, .int v3), (4, .int v4)] := hl
  unfold w_m_rows at h
  refine lv_iload_n hx hb d_m_rows_0 rfl (lv_at hl 1 rfl) ?_
  refine lv_if_lt hx hb d_m_rows_1 rfl (fun hc => ?_) (fun hc => ?_)
  · have h := h.1 hc
    exact k_m_rows_17 cx0  hI (lv_sub hl [] rfl) h
  · have h := h.2 hc
    refine lv_iload_n hx hb d_m_rows_4 rfl (lv_at hl 2 rfl) ?_
    refine lv_if_lt hx hb d_m_rows_5 rfl (fun hc => ?_) (fun hc => ?_)
    · have h := h.1 hc
      exact k_m_rows_17 cx0  hI (lv_sub hl [] rfl) h
    · have h := h.2 hc
      refine lv_iload_n hx hb d_m_rows_8 rfl (lv_at hl 3 rfl) ?_
      refine lv_if_lt hx hb d_m_rows_9 rfl (fun hc => ?_) (fun hc => ?_)
      · have h := h.1 hc
        exact k_m_rows_17 cx0  hI (lv_sub hl [] rfl) h
      · have h := h.2 hc
        refine lv_iload hx hb d_m_rows_12 (lv_at hl 4 rfl) ?_
        refine lv_if_ge hx hb d_m_rows_14 rfl (fun hc => ?_) (fun hc => ?_)
        · have h := h.1 hc
          refine lv_aload_n hx hb d_m_rows_19 rfl (lv_at hl 0 rfl) ?_
          refine mg_M_ways hx hb hts hown hK hI (hts _ q_660) d_m_rows_20 ?_
          refine lv_bipush (v := 21) hx hb d_m_rows_23 zc_bipush_21 ?_
          refine lv_iload_n hx hb d_m_rows_25 rfl (lv_at hl 1 rfl) ?_
          refine lv_iload_n hx hb d_m_rows_26 rfl (lv_at hl 2 rfl) ?_
          refine lv_iadd hx hb d_m_rows_27 ?_
          refine lv_iload_n hx hb d_m_rows_28 rfl (lv_at hl 3 rfl) ?_
          refine lv_iadd hx hb d_m_rows_29 ?_
          refine lv_iload hx hb d_m_rows_30 (lv_at hl 4 rfl) ?_
          refine lv_iadd hx hb d_m_rows_32 ?_
          refine lv_imul hx hb d_m_rows_33 ?_
          refine lv_iload_n hx hb d_m_rows_34 rfl (lv_at hl 1 rfl) ?_
          refine lv_iadd hx hb d_m_rows_35 ?_
          obtain ⟨hi, h⟩ := h
          refine ma_ways hx hb hK hI hi d_m_rows_36 ?_
          refine lv_aload_n hx hb d_m_rows_37 rfl (lv_at hl 0 rfl) ?_
          refine mg_M_ways hx hb hts hown hK hI (hts _ q_660) d_m_rows_38 ?_
          refine lv_bipush (v := 21) hx hb d_m_rows_41 zc_bipush_21 ?_
          refine lv_iload_n hx hb d_m_rows_43 rfl (lv_at hl 2 rfl) ?_
          refine lv_iload_n hx hb d_m_rows_44 rfl (lv_at hl 3 rfl) ?_
          refine lv_iadd hx hb d_m_rows_45 ?_
          refine lv_iload hx hb d_m_rows_46 (lv_at hl 4 rfl) ?_
          refine lv_iadd hx hb d_m_rows_48 ?_
          refine lv_imul hx hb d_m_rows_49 ?_
          refine lv_iload_n hx hb d_m_rows_50 rfl (lv_at hl 2 rfl) ?_
          refine lv_iadd hx hb d_m_rows_51 ?_
          obtain ⟨hi, h⟩ := h
          refine ma_ways hx hb hK hI hi d_m_rows_52 ?_
          refine lv_lmul hx hb d_m_rows_53 ?_
          refine lv_aload_n hx hb d_m_rows_54 rfl (lv_at hl 0 rfl) ?_
          refine mg_M_ways hx hb hts hown hK hI (hts _ q_660) d_m_rows_55 ?_
          refine lv_bipush (v := 21) hx hb d_m_rows_58 zc_bipush_21 ?_
          refine lv_iload_n hx hb d_m_rows_60 rfl (lv_at hl 3 rfl) ?_
          refine lv_iload hx hb d_m_rows_61 (lv_at hl 4 rfl) ?_
          refine lv_iadd hx hb d_m_rows_63 ?_
          refine lv_imul hx hb d_m_rows_64 ?_
          refine lv_iload_n hx hb d_m_rows_65 rfl (lv_at hl 3 rfl) ?_
          refine lv_iadd hx hb d_m_rows_66 ?_
          obtain ⟨hi, h⟩ := h
          refine ma_ways hx hb hK hI hi d_m_rows_67 ?_
          refine lv_lmul hx hb d_m_rows_68 ?_
          exact zret_l hx hb hr hlk hK hI h d_m_rows_69
        · have h := h.2 hc
          exact k_m_rows_17 cx0  hI (lv_sub hl [] rfl) h
def b_m_rowsWith_71  (post : Int64 → ZS → Prop) (v3 : Int32) (v4 : Int32) (v5 : Int32) (s0 : Int32) (s1 : Int32) (u : ZS) : Prop := w_m_rows v3 v4 v5 (s1 - s0) u (fun r1 u2 => post r1 u2)
set_option maxRecDepth 100000 in
set_option maxHeartbeats 4000000 in
theorem k_m_rowsWith_71 {p : Program} {l : Launch} {e : Env} {R : Room} {s : State} {m : MethodId} {args : Array Value} {below : List Frame} {meth : Method} {c : Code} {D : va_G} {A : Nat → Prop} {ad : Nat → Nat} {ca : Nat → ClassId}  {post : Int64 → ZS → Prop} (cx : zx p R s m args meth c c_m_rowsWith 7 2 36 "ShortBridgeModel" (some .long) zG zNs D (mT ca)) {v3 : Int32} {v4 : Int32} {v5 : Int32} {s0 : Int32} {s1 : Int32} {u : ZS} {H : Heap} {locs : List Loc} {ls : Array Slot} (hI : zw D A s.heap (mW ad ca u) H locs) (hl : lv_has ls 7 [(0, .ref (ad 0)), (3, .int v3), (4, .int v4), (5, .int v5)]) (h : b_m_rowsWith_71 post v3 v4 v5 s0 s1 u) : W p l e R s m args below meth c H locs 0 0 (MQ below (va_Ql post (zE D (mT ca) (mW ad ca) A) A) args s 0 0 A) (F0 m 71 ls [.int s0, .int s1]) := by
  have cx0 := cx
  obtain ⟨hx, hb, hml, hown, hts, hN, hK, hr, hlk, hfr, hlc⟩ := cx
  unfold b_m_rowsWith_71 at h
  refine lv_isub hx hb d_m_rowsWith_71 ?_
  refine lv_istore hx hb d_m_rowsWith_72 hl (by decide) rfl ?_
  intro ls hl
  have hl : lv_has ls 7 [(6, .int (s1 - s0)), (0, .ref (ad 0)), (3, .int v3), (4, .int v4), (5, .int v5)] := hl
  refine lv_aload_n hx hb d_m_rowsWith_74 rfl (lv_at hl 1 rfl) ?_
  refine lv_iload_n hx hb d_m_rowsWith_75 rfl (lv_at hl 2 rfl) ?_
  refine lv_iload hx hb d_m_rowsWith_76 (lv_at hl 3 rfl) ?_
  refine lv_iload hx hb d_m_rowsWith_78 (lv_at hl 4 rfl) ?_
  refine lv_iload hx hb d_m_rowsWith_80 (lv_at hl 0 rfl) ?_
  refine zr_l (va_runV (As := [.int v3, .int v4, .int v5, .int (s1 - s0)]) (rest := []) ⟨hx, hb, hml, hown, hts⟩ (t_m_rows l D ad ca h _) (cwV 4 hts (zg_V q_751 q_753 q_16 q_44 q_754) rfl rfl rfl ⟨rfl, hd_m_rows⟩ ⟨Nat.le_trans (by decide) hfr, Nat.le_trans (by decide) hlc⟩) (z_preV zNs_ok hK hN hI 0 5 rfl rfl _) rfl rfl hl.1 rfl (lv_room (Nat.le_of_ble_eq_true rfl)) d_m_rowsWith_82 ⟨Nat.zero_le _, Nat.zero_le _⟩) hI ?_
  intro r1 u2 H locs h hI
  exact zret_l hx hb hr hlk hK hI h d_m_rowsWith_85
def b_m_rowsWith_51  (post : Int64 → ZS → Prop) (v1 : Int32) (v2 : Int32) (v3 : Int32) (v4 : Int32) (s0 : Int32) (s1 : Int32) (u : ZS) : Prop := (¬ v2 = 3 → b_m_rowsWith_71 post v3 v4 (s1 - s0) 0 ((v1 >>> (15 &&& 31)) &&& 31) u) ∧ (v2 = 3 → b_m_rowsWith_71 post v3 v4 (s1 - s0) 1 ((v1 >>> (15 &&& 31)) &&& 31) u)
set_option maxRecDepth 100000 in
set_option maxHeartbeats 4000000 in
theorem k_m_rowsWith_51 {p : Program} {l : Launch} {e : Env} {R : Room} {s : State} {m : MethodId} {args : Array Value} {below : List Frame} {meth : Method} {c : Code} {D : va_G} {A : Nat → Prop} {ad : Nat → Nat} {ca : Nat → ClassId}  {post : Int64 → ZS → Prop} (cx : zx p R s m args meth c c_m_rowsWith 7 2 36 "ShortBridgeModel" (some .long) zG zNs D (mT ca)) {v1 : Int32} {v2 : Int32} {v3 : Int32} {v4 : Int32} {s0 : Int32} {s1 : Int32} {u : ZS} {H : Heap} {locs : List Loc} {ls : Array Slot} (hI : zw D A s.heap (mW ad ca u) H locs) (hl : lv_has ls 7 [(0, .ref (ad 0)), (1, .int v1), (2, .int v2), (3, .int v3), (4, .int v4)]) (h : b_m_rowsWith_51 post v1 v2 v3 v4 s0 s1 u) : W p l e R s m args below meth c H locs 0 0 (MQ below (va_Ql post (zE D (mT ca) (mW ad ca) A) A) args s 0 0 A) (F0 m 51 ls [.int s0, .int s1]) := by
  have cx0 := cx
  obtain ⟨hx, hb, hml, hown, hts, hN, hK, hr, hlk, hfr, hlc⟩ := cx
  unfold b_m_rowsWith_51 at h
  refine lv_isub hx hb d_m_rowsWith_51 ?_
  refine lv_istore hx hb d_m_rowsWith_52 hl (by decide) rfl ?_
  intro ls hl
  have hl : lv_has ls 7 [(5, .int (s1 - s0)), (0, .ref (ad 0)), (1, .int v1), (2, .int v2), (3, .int v3), (4, .int v4)] := hl
  refine lv_iload_n hx hb d_m_rowsWith_54 rfl (lv_at hl 2 rfl) ?_
  refine lv_bipush (v := 15) hx hb d_m_rowsWith_55 zc_bipush_15 ?_
  refine lv_ishr hx hb d_m_rowsWith_57 ?_
  refine lv_bipush (v := 31) hx hb d_m_rowsWith_58 zc_bipush_31 ?_
  refine lv_iand hx hb d_m_rowsWith_60 ?_
  refine lv_iload_n hx hb d_m_rowsWith_61 rfl (lv_at hl 3 rfl) ?_
  refine lv_iconst (v := 3) hx hb d_m_rowsWith_62 zc_iconst_3 ?_
  refine lv_icmp_ne hx hb d_m_rowsWith_63 rfl (fun hc => ?_) (fun hc => ?_)
  · have h := h.1 hc
    refine lv_iconst (v := 0) hx hb d_m_rowsWith_70 zc_iconst_0 ?_
    exact k_m_rowsWith_71 cx0  hI (lv_sub hl [1, 4, 5, 0] rfl) h
  · have h := h.2 hc
    refine lv_iconst (v := 1) hx hb d_m_rowsWith_66 zc_iconst_1 ?_
    refine lv_goto hx hb d_m_rowsWith_67 rfl ?_
    exact k_m_rowsWith_71 cx0  hI (lv_sub hl [1, 4, 5, 0] rfl) h
def b_m_rowsWith_31  (post : Int64 → ZS → Prop) (v1 : Int32) (v2 : Int32) (v3 : Int32) (s0 : Int32) (s1 : Int32) (u : ZS) : Prop := (¬ v2 = 2 → b_m_rowsWith_51 post v1 v2 v3 (s1 - s0) 0 ((v1 >>> (10 &&& 31)) &&& 31) u) ∧ (v2 = 2 → b_m_rowsWith_51 post v1 v2 v3 (s1 - s0) 1 ((v1 >>> (10 &&& 31)) &&& 31) u)
set_option maxRecDepth 100000 in
set_option maxHeartbeats 4000000 in
theorem k_m_rowsWith_31 {p : Program} {l : Launch} {e : Env} {R : Room} {s : State} {m : MethodId} {args : Array Value} {below : List Frame} {meth : Method} {c : Code} {D : va_G} {A : Nat → Prop} {ad : Nat → Nat} {ca : Nat → ClassId}  {post : Int64 → ZS → Prop} (cx : zx p R s m args meth c c_m_rowsWith 7 2 36 "ShortBridgeModel" (some .long) zG zNs D (mT ca)) {v1 : Int32} {v2 : Int32} {v3 : Int32} {s0 : Int32} {s1 : Int32} {u : ZS} {H : Heap} {locs : List Loc} {ls : Array Slot} (hI : zw D A s.heap (mW ad ca u) H locs) (hl : lv_has ls 7 [(0, .ref (ad 0)), (1, .int v1), (2, .int v2), (3, .int v3)]) (h : b_m_rowsWith_31 post v1 v2 v3 s0 s1 u) : W p l e R s m args below meth c H locs 0 0 (MQ below (va_Ql post (zE D (mT ca) (mW ad ca) A) A) args s 0 0 A) (F0 m 31 ls [.int s0, .int s1]) := by
  have cx0 := cx
  obtain ⟨hx, hb, hml, hown, hts, hN, hK, hr, hlk, hfr, hlc⟩ := cx
  unfold b_m_rowsWith_31 at h
  refine lv_isub hx hb d_m_rowsWith_31 ?_
  refine lv_istore hx hb d_m_rowsWith_32 hl (by decide) rfl ?_
  intro ls hl
  have hl : lv_has ls 7 [(4, .int (s1 - s0)), (0, .ref (ad 0)), (1, .int v1), (2, .int v2), (3, .int v3)] := hl
  refine lv_iload_n hx hb d_m_rowsWith_34 rfl (lv_at hl 2 rfl) ?_
  refine lv_bipush (v := 10) hx hb d_m_rowsWith_35 zc_bipush_10 ?_
  refine lv_ishr hx hb d_m_rowsWith_37 ?_
  refine lv_bipush (v := 31) hx hb d_m_rowsWith_38 zc_bipush_31 ?_
  refine lv_iand hx hb d_m_rowsWith_40 ?_
  refine lv_iload_n hx hb d_m_rowsWith_41 rfl (lv_at hl 3 rfl) ?_
  refine lv_iconst (v := 2) hx hb d_m_rowsWith_42 zc_iconst_2 ?_
  refine lv_icmp_ne hx hb d_m_rowsWith_43 rfl (fun hc => ?_) (fun hc => ?_)
  · have h := h.1 hc
    refine lv_iconst (v := 0) hx hb d_m_rowsWith_50 zc_iconst_0 ?_
    exact k_m_rowsWith_51 cx0  hI (lv_sub hl [1, 2, 3, 4, 0] rfl) h
  · have h := h.2 hc
    refine lv_iconst (v := 1) hx hb d_m_rowsWith_46 zc_iconst_1 ?_
    refine lv_goto hx hb d_m_rowsWith_47 rfl ?_
    exact k_m_rowsWith_51 cx0  hI (lv_sub hl [1, 2, 3, 4, 0] rfl) h
def b_m_rowsWith_13  (post : Int64 → ZS → Prop) (v1 : Int32) (v2 : Int32) (s0 : Int32) (s1 : Int32) (u : ZS) : Prop := (¬ v2 = 1 → b_m_rowsWith_31 post v1 v2 (s1 - s0) 0 ((v1 >>> (5 &&& 31)) &&& 31) u) ∧ (v2 = 1 → b_m_rowsWith_31 post v1 v2 (s1 - s0) 1 ((v1 >>> (5 &&& 31)) &&& 31) u)
set_option maxRecDepth 100000 in
set_option maxHeartbeats 4000000 in
theorem k_m_rowsWith_13 {p : Program} {l : Launch} {e : Env} {R : Room} {s : State} {m : MethodId} {args : Array Value} {below : List Frame} {meth : Method} {c : Code} {D : va_G} {A : Nat → Prop} {ad : Nat → Nat} {ca : Nat → ClassId}  {post : Int64 → ZS → Prop} (cx : zx p R s m args meth c c_m_rowsWith 7 2 36 "ShortBridgeModel" (some .long) zG zNs D (mT ca)) {v1 : Int32} {v2 : Int32} {s0 : Int32} {s1 : Int32} {u : ZS} {H : Heap} {locs : List Loc} {ls : Array Slot} (hI : zw D A s.heap (mW ad ca u) H locs) (hl : lv_has ls 7 [(0, .ref (ad 0)), (1, .int v1), (2, .int v2)]) (h : b_m_rowsWith_13 post v1 v2 s0 s1 u) : W p l e R s m args below meth c H locs 0 0 (MQ below (va_Ql post (zE D (mT ca) (mW ad ca) A) A) args s 0 0 A) (F0 m 13 ls [.int s0, .int s1]) := by
  have cx0 := cx
  obtain ⟨hx, hb, hml, hown, hts, hN, hK, hr, hlk, hfr, hlc⟩ := cx
  unfold b_m_rowsWith_13 at h
  refine lv_isub hx hb d_m_rowsWith_13 ?_
  refine lv_istore_n hx hb d_m_rowsWith_14 rfl hl (by decide) rfl ?_
  intro ls hl
  have hl : lv_has ls 7 [(3, .int (s1 - s0)), (0, .ref (ad 0)), (1, .int v1), (2, .int v2)] := hl
  refine lv_iload_n hx hb d_m_rowsWith_15 rfl (lv_at hl 2 rfl) ?_
  refine lv_iconst (v := 5) hx hb d_m_rowsWith_16 zc_iconst_5 ?_
  refine lv_ishr hx hb d_m_rowsWith_17 ?_
  refine lv_bipush (v := 31) hx hb d_m_rowsWith_18 zc_bipush_31 ?_
  refine lv_iand hx hb d_m_rowsWith_20 ?_
  refine lv_iload_n hx hb d_m_rowsWith_21 rfl (lv_at hl 3 rfl) ?_
  refine lv_iconst (v := 1) hx hb d_m_rowsWith_22 zc_iconst_1 ?_
  refine lv_icmp_ne hx hb d_m_rowsWith_23 rfl (fun hc => ?_) (fun hc => ?_)
  · have h := h.1 hc
    refine lv_iconst (v := 0) hx hb d_m_rowsWith_30 zc_iconst_0 ?_
    exact k_m_rowsWith_31 cx0  hI (lv_sub hl [1, 2, 3, 0] rfl) h
  · have h := h.2 hc
    refine lv_iconst (v := 1) hx hb d_m_rowsWith_26 zc_iconst_1 ?_
    refine lv_goto hx hb d_m_rowsWith_27 rfl ?_
    exact k_m_rowsWith_31 cx0  hI (lv_sub hl [1, 2, 3, 0] rfl) h
def w_m_rowsWith (v1 : Int32) (v2 : Int32) (u : ZS) (post : Int64 → ZS → Prop) : Prop := (¬ v2 = 0 → b_m_rowsWith_13 post v1 v2 0 (v1 &&& 31) u) ∧ (v2 = 0 → b_m_rowsWith_13 post v1 v2 1 (v1 &&& 31) u)
set_option maxRecDepth 100000 in
set_option maxHeartbeats 4000000 in
theorem t_m_rowsWith (l : Launch) (D : va_G) (ad : Nat → Nat) (ca : Nat → ClassId) {v1 : Int32} {v2 : Int32} {u : ZS} {post : Int64 → ZS → Prop} (h : w_m_rowsWith v1 v2 u post) : zJ l y_m_rowsWith (Cond.code y_m_rowsWith c_m_rowsWith 7 (some .long) :: zG) { frames := 2, cells := 0, slots := 0, locals := 36 } D (mT ca) zNs (mW ad ca) [.ref (ad 0), .int v1, .int v2] u post := by
  refine zJ_of (cc := c_m_rowsWith) (maxL := 7) (ret := (some .long)) (by decide) (Nat.le_of_ble_eq_true rfl) ?_
  intro p e s m args below meth c ls A cx hI hl
  have cx0 := cx
  obtain ⟨hx, hb, hml, hown, hts, hN, hK, hr, hlk, hfr, hlc⟩ := cx
  have hl : lv_has ls 7 [(0, .ref (ad 0)), (1, .int v1), (2, .int v2)] := hl
  unfold w_m_rowsWith at h
  refine lv_iload_n hx hb d_m_rowsWith_0 rfl (lv_at hl 1 rfl) ?_
  refine lv_bipush (v := 31) hx hb d_m_rowsWith_1 zc_bipush_31 ?_
  refine lv_iand hx hb d_m_rowsWith_3 ?_
  refine lv_iload_n hx hb d_m_rowsWith_4 rfl (lv_at hl 2 rfl) ?_
  refine lv_if_ne hx hb d_m_rowsWith_5 rfl (fun hc => ?_) (fun hc => ?_)
  · have h := h.1 hc
    refine lv_iconst (v := 0) hx hb d_m_rowsWith_12 zc_iconst_0 ?_
    exact k_m_rowsWith_13 cx0  hI (lv_sub hl [0, 1, 2] rfl) h
  · have h := h.2 hc
    refine lv_iconst (v := 1) hx hb d_m_rowsWith_8 zc_iconst_1 ?_
    refine lv_goto hx hb d_m_rowsWith_9 rfl ?_
    exact k_m_rowsWith_13 cx0  hI (lv_sub hl [0, 1, 2] rfl) h
def b_m_unrank_19 (r9 : Int32 → Int64 → Int32 → ZS → Prop) (post : ZS → Prop) : Nat → Int32 → Int64 → Int32 → Int32 → ZS → Prop
  | 0, _, _, _, _, _ => False
  | n + 1, v3, v4, v6, v7, u => w_m_rowsWith v3 v7 u (fun r1 u2 => ((lg_cmp v4 r1) < 0 → vp_in v6 20 ∧ (r9 (v3 - (1 <<< ((5 * v7) &&& 31))) v4 (v6 + 1) (pI u2 0 (Int32.toNatClampNeg v6) v7))) ∧ (¬ ((lg_cmp v4 r1) < 0) → w_m_rowsWith v3 v7 u2 (fun r3 u4 => b_m_unrank_19 r9 post n v3 (v4 - r3) v6 (v7 + 1) u4)))
set_option maxRecDepth 100000 in
set_option maxHeartbeats 4000000 in
theorem k_m_unrank_19 {p : Program} {l : Launch} {e : Env} {R : Room} {s : State} {m : MethodId} {args : Array Value} {below : List Frame} {meth : Method} {c : Code} {D : va_G} {A : Nat → Prop} {ad : Nat → Nat} {ca : Nat → ClassId} {r9 : Int32 → Int64 → Int32 → ZS → Prop} {post : ZS → Prop} (cx : zx p R s m args meth c c_m_unrank 8 3 62 "ShortBridgeModel" none zG zNs D (mT ca)) (hk9 : ∀ (v3 : Int32) (v4 : Int64) (v6 : Int32) (u : ZS) (H : Heap) (locs : List Loc) (ls : Array Slot), zw D A s.heap (mW ad ca u) H locs → lv_has ls 8 [(0, .ref (ad 0)), (3, .int v3), (4, .long v4), (6, .int v6)] → r9 v3 v4 v6 u → W p l e R s m args below meth c H locs 0 0 (MQ below (va_Qv post (zE D (mT ca) (mW ad ca) A) A) args s 0 0 A) (F0 m 9 ls [])) : ∀ (n : Nat) (v3 : Int32) (v4 : Int64) (v6 : Int32) (v7 : Int32) (u : ZS) (H : Heap) (locs : List Loc) (ls : Array Slot), zw D A s.heap (mW ad ca u) H locs → lv_has ls 8 [(0, .ref (ad 0)), (3, .int v3), (4, .long v4), (6, .int v6), (7, .int v7)] → b_m_unrank_19 r9 post n v3 v4 v6 v7 u → W p l e R s m args below meth c H locs 0 0 (MQ below (va_Qv post (zE D (mT ca) (mW ad ca) A) A) args s 0 0 A) (F0 m 19 ls []) := by
  have cx0 := cx
  obtain ⟨hx, hb, hml, hown, hts, hN, hK, hr, hlk, hfr, hlc⟩ := cx
  intro n
  induction n with
  | zero => intro v3 v4 v6 v7 u H locs ls hI hl h; exact (h : False).elim
  | succ n ih =>
    intro v3 v4 v6 v7 u H locs ls hI hl h
    unfold b_m_unrank_19 at h
    refine lv_lload hx hb d_m_unrank_19 (lv_at hl 2 rfl) ?_
    refine lv_aload_n hx hb d_m_unrank_21 rfl (lv_at hl 0 rfl) ?_
    refine lv_iload_n hx hb d_m_unrank_22 rfl (lv_at hl 1 rfl) ?_
    refine lv_iload hx hb d_m_unrank_23 (lv_at hl 4 rfl) ?_
    refine zr_l (va_runV (As := [.int v3, .int v7]) (rest := [.long v4]) ⟨hx, hb, hml, hown, hts⟩ (t_m_rowsWith l D ad ca h _) (cwV 2 hts (zg_V q_747 q_749 q_15 q_44 q_750) rfl rfl rfl ⟨rfl, hd_m_rowsWith⟩ ⟨Nat.le_trans (by decide) hfr, Nat.le_trans (by decide) hlc⟩) (z_preV zNs_ok hK hN hI 0 5 rfl rfl _) rfl rfl hl.1 rfl (lv_room (Nat.le_of_ble_eq_true rfl)) d_m_unrank_25 ⟨Nat.zero_le _, Nat.zero_le _⟩) hI ?_
    intro r1 u2 H locs h hI
    refine W.lcmp hx hb d_m_unrank_28 ?_
    refine lv_if_lt hx hb d_m_unrank_29 rfl (fun hc => ?_) (fun hc => ?_)
    · have h := h.1 hc
      refine lv_aload_n hx hb d_m_unrank_53 rfl (lv_at hl 0 rfl) ?_
      refine mg_M_owner hx hb hts hown hK hI (hts _ q_659) d_m_unrank_54 ?_
      refine lv_iload hx hb d_m_unrank_57 (lv_at hl 3 rfl) ?_
      refine lv_iload hx hb d_m_unrank_59 (lv_at hl 4 rfl) ?_
      obtain ⟨hi, h⟩ := h
      refine ms_owner hx hb hK hI hi d_m_unrank_61 ?_
      intro H locs hI
      refine lv_iload_n hx hb d_m_unrank_62 rfl (lv_at hl 1 rfl) ?_
      refine lv_iconst (v := 1) hx hb d_m_unrank_63 zc_iconst_1 ?_
      refine lv_iconst (v := 5) hx hb d_m_unrank_64 zc_iconst_5 ?_
      refine lv_iload hx hb d_m_unrank_65 (lv_at hl 4 rfl) ?_
      refine lv_imul hx hb d_m_unrank_67 ?_
      refine lv_ishl hx hb d_m_unrank_68 ?_
      refine lv_isub hx hb d_m_unrank_69 ?_
      refine lv_istore_n hx hb d_m_unrank_70 rfl hl (by decide) rfl ?_
      intro ls hl
      have hl : lv_has ls 8 [(3, .int (v3 - (1 <<< ((5 * v7) &&& 31)))), (0, .ref (ad 0)), (4, .long v4), (6, .int v6), (7, .int v7)] := hl
      refine lv_iinc (k := 3) (v := (v6 + 1)) hx hb d_m_unrank_71 hl rfl (zi_1 _) (by decide) rfl ?_
      intro ls hl
      have hl : lv_has ls 8 [(6, .int (v6 + 1)), (3, .int (v3 - (1 <<< ((5 * v7) &&& 31)))), (0, .ref (ad 0)), (4, .long v4), (7, .int v7)] := hl
      refine lv_goto hx hb d_m_unrank_74 rfl ?_
      exact hk9 _ _ _ _ _ _ _ hI (lv_sub hl [2, 1, 3, 0] rfl) h
    · have h := h.2 hc
      refine lv_lload hx hb d_m_unrank_32 (lv_at hl 2 rfl) ?_
      refine lv_aload_n hx hb d_m_unrank_34 rfl (lv_at hl 0 rfl) ?_
      refine lv_iload_n hx hb d_m_unrank_35 rfl (lv_at hl 1 rfl) ?_
      refine lv_iload hx hb d_m_unrank_36 (lv_at hl 4 rfl) ?_
      refine zr_l (va_runV (As := [.int v3, .int v7]) (rest := [.long v4]) ⟨hx, hb, hml, hown, hts⟩ (t_m_rowsWith l D ad ca h _) (cwV 2 hts (zg_V q_747 q_749 q_15 q_44 q_750) rfl rfl rfl ⟨rfl, hd_m_rowsWith⟩ ⟨Nat.le_trans (by decide) hfr, Nat.le_trans (by decide) hlc⟩) (z_preV zNs_ok hK hN hI 0 5 rfl rfl _) rfl rfl hl.1 rfl (lv_room (Nat.le_of_ble_eq_true rfl)) d_m_unrank_38 ⟨Nat.zero_le _, Nat.zero_le _⟩) hI ?_
      intro r3 u4 H locs h hI
      refine lv_lsub hx hb d_m_unrank_41 ?_
      refine lv_lstore hx hb d_m_unrank_42 hl (by decide) rfl ?_
      intro ls hl
      have hl : lv_has ls 8 [(4, .long (v4 - r3)), (0, .ref (ad 0)), (3, .int v3), (6, .int v6), (7, .int v7)] := hl
      refine lv_iload hx hb d_m_unrank_44 (lv_at hl 4 rfl) ?_
      refine lv_iconst (v := 1) hx hb d_m_unrank_46 zc_iconst_1 ?_
      refine lv_iadd hx hb d_m_unrank_47 ?_
      refine lv_istore hx hb d_m_unrank_48 hl (by decide) rfl ?_
      intro ls hl
      have hl : lv_has ls 8 [(7, .int (v7 + 1)), (4, .long (v4 - r3)), (0, .ref (ad 0)), (3, .int v3), (6, .int v6)] := hl
      refine lv_goto hx hb d_m_unrank_50 rfl ?_
      exact ih _ _ _ _ _ _ _ _ hI (lv_sub hl [2, 3, 1, 4, 0] rfl) h
def b_m_unrank_9  (post : ZS → Prop) : Nat → Int32 → Int64 → Int32 → ZS → Prop
  | 0, _, _, _, _ => False
  | n + 1, v3, v4, v6, u => (20 ≤ v6 → post u) ∧ (¬ (20 ≤ v6) → ∃ n0, b_m_unrank_19 (b_m_unrank_9 post n) post n0 v3 v4 v6 0 u)
set_option maxRecDepth 100000 in
set_option maxHeartbeats 4000000 in
theorem k_m_unrank_9 {p : Program} {l : Launch} {e : Env} {R : Room} {s : State} {m : MethodId} {args : Array Value} {below : List Frame} {meth : Method} {c : Code} {D : va_G} {A : Nat → Prop} {ad : Nat → Nat} {ca : Nat → ClassId}  {post : ZS → Prop} (cx : zx p R s m args meth c c_m_unrank 8 3 62 "ShortBridgeModel" none zG zNs D (mT ca)) : ∀ (n : Nat) (v3 : Int32) (v4 : Int64) (v6 : Int32) (u : ZS) (H : Heap) (locs : List Loc) (ls : Array Slot), zw D A s.heap (mW ad ca u) H locs → lv_has ls 8 [(0, .ref (ad 0)), (3, .int v3), (4, .long v4), (6, .int v6)] → b_m_unrank_9 post n v3 v4 v6 u → W p l e R s m args below meth c H locs 0 0 (MQ below (va_Qv post (zE D (mT ca) (mW ad ca) A) A) args s 0 0 A) (F0 m 9 ls []) := by
  have cx0 := cx
  obtain ⟨hx, hb, hml, hown, hts, hN, hK, hr, hlk, hfr, hlc⟩ := cx
  intro n
  induction n with
  | zero => intro v3 v4 v6 u H locs ls hI hl h; exact (h : False).elim
  | succ n ih =>
    intro v3 v4 v6 u H locs ls hI hl h
    unfold b_m_unrank_9 at h
    refine lv_iload hx hb d_m_unrank_9 (lv_at hl 3 rfl) ?_
    refine lv_bipush (v := 20) hx hb d_m_unrank_11 zc_bipush_20 ?_
    refine lv_icmp_ge hx hb d_m_unrank_13 rfl (fun hc => ?_) (fun hc => ?_)
    · have h := h.1 hc
      exact zret_v hx hb hr hlk hK hI h d_m_unrank_77
    · have h := h.2 hc
      refine lv_iconst (v := 0) hx hb d_m_unrank_16 zc_iconst_0 ?_
      refine lv_istore hx hb d_m_unrank_17 hl (by decide) rfl ?_
      intro ls hl
      have hl : lv_has ls 8 [(7, .int 0), (0, .ref (ad 0)), (3, .int v3), (4, .long v4), (6, .int v6)] := hl
      obtain ⟨n0, h⟩ := h
      exact k_m_unrank_19 cx0 ih n0 _ _ _ _ _ _ _ _ hI (lv_sub hl [1, 2, 3, 4, 0] rfl) h
def w_m_unrank (v1 : Int64) (u : ZS) (post : ZS → Prop) : Prop := ∃ n0, b_m_unrank_9 post n0 169125 v1 0 u
set_option maxRecDepth 100000 in
set_option maxHeartbeats 4000000 in
theorem t_m_unrank (l : Launch) (D : va_G) (ad : Nat → Nat) (ca : Nat → ClassId) {v1 : Int64} {u : ZS} {post : ZS → Prop} (h : w_m_unrank v1 u post) : zV l y_m_unrank (Cond.code y_m_unrank c_m_unrank 8 none :: zG) { frames := 3, cells := 0, slots := 0, locals := 62 } D (mT ca) zNs (mW ad ca) [.ref (ad 0), .long v1] u post := by
  refine zV_of (cc := c_m_unrank) (maxL := 8) (by decide) (Nat.le_of_ble_eq_true rfl) ?_
  intro p e s m args below meth c ls A cx hI hl
  have cx0 := cx
  obtain ⟨hx, hb, hml, hown, hts, hN, hK, hr, hlk, hfr, hlc⟩ := cx
  have hl : lv_has ls 8 [(0, .ref (ad 0)), (1, .long v1)] := hl
  unfold w_m_unrank at h
  refine lv_ldc (v := 169125) hx hb hown (hts _ q_746) d_m_unrank_0 ?_
  refine lv_istore_n hx hb d_m_unrank_2 rfl hl (by decide) rfl ?_
  intro ls hl
  have hl : lv_has ls 8 [(3, .int 169125), (0, .ref (ad 0)), (1, .long v1)] := hl
  refine lv_lload_n hx hb d_m_unrank_3 rfl (lv_at hl 2 rfl) ?_
  refine lv_lstore hx hb d_m_unrank_4 hl (by decide) rfl ?_
  intro ls hl
  have hl : lv_has ls 8 [(4, .long v1), (3, .int 169125), (0, .ref (ad 0)), (1, .long v1)] := hl
  refine lv_iconst (v := 0) hx hb d_m_unrank_6 zc_iconst_0 ?_
  refine lv_istore hx hb d_m_unrank_7 hl (by decide) rfl ?_
  intro ls hl
  have hl : lv_has ls 8 [(6, .int 0), (4, .long v1), (3, .int 169125), (0, .ref (ad 0)), (1, .long v1)] := hl
  obtain ⟨n0, h⟩ := h
  exact k_m_unrank_9 cx0  n0 _ _ _ _ _ _ _ hI (lv_sub hl [3, 2, 1, 0] rfl) h
def b_m_rank_18 (r8 : Int32 → Int64 → Int32 → ZS → Prop) (post : Int64 → ZS → Prop) : Nat → Int32 → Int64 → Int32 → Int32 → ZS → Prop
  | 0, _, _, _, _, _ => False
  | n + 1, v1, v2, v4, v5, u => vp_in v4 20 ∧ (((aI u 0 (Int32.toNatClampNeg v4)) ≤ v5 → vp_in v4 20 ∧ (r8 (v1 - (1 <<< ((5 * (aI u 0 (Int32.toNatClampNeg v4))) &&& 31))) v2 (v4 + 1) u)) ∧ (¬ ((aI u 0 (Int32.toNatClampNeg v4)) ≤ v5) → w_m_rowsWith v1 v5 u (fun r1 u2 => b_m_rank_18 r8 post n v1 (v2 + r1) v4 (v5 + 1) u2)))
set_option maxRecDepth 100000 in
set_option maxHeartbeats 4000000 in
theorem k_m_rank_18 {p : Program} {l : Launch} {e : Env} {R : Room} {s : State} {m : MethodId} {args : Array Value} {below : List Frame} {meth : Method} {c : Code} {D : va_G} {A : Nat → Prop} {ad : Nat → Nat} {ca : Nat → ClassId} {r8 : Int32 → Int64 → Int32 → ZS → Prop} {post : Int64 → ZS → Prop} (cx : zx p R s m args meth c c_m_rank 6 3 62 "ShortBridgeModel" (some .long) zG zNs D (mT ca)) (hk8 : ∀ (v1 : Int32) (v2 : Int64) (v4 : Int32) (u : ZS) (H : Heap) (locs : List Loc) (ls : Array Slot), zw D A s.heap (mW ad ca u) H locs → lv_has ls 6 [(0, .ref (ad 0)), (1, .int v1), (2, .long v2), (4, .int v4)] → r8 v1 v2 v4 u → W p l e R s m args below meth c H locs 0 0 (MQ below (va_Ql post (zE D (mT ca) (mW ad ca) A) A) args s 0 0 A) (F0 m 8 ls [])) : ∀ (n : Nat) (v1 : Int32) (v2 : Int64) (v4 : Int32) (v5 : Int32) (u : ZS) (H : Heap) (locs : List Loc) (ls : Array Slot), zw D A s.heap (mW ad ca u) H locs → lv_has ls 6 [(0, .ref (ad 0)), (1, .int v1), (2, .long v2), (4, .int v4), (5, .int v5)] → b_m_rank_18 r8 post n v1 v2 v4 v5 u → W p l e R s m args below meth c H locs 0 0 (MQ below (va_Ql post (zE D (mT ca) (mW ad ca) A) A) args s 0 0 A) (F0 m 18 ls []) := by
  have cx0 := cx
  obtain ⟨hx, hb, hml, hown, hts, hN, hK, hr, hlk, hfr, hlc⟩ := cx
  intro n
  induction n with
  | zero => intro v1 v2 v4 v5 u H locs ls hI hl h; exact (h : False).elim
  | succ n ih =>
    intro v1 v2 v4 v5 u H locs ls hI hl h
    unfold b_m_rank_18 at h
    refine lv_iload hx hb d_m_rank_18 (lv_at hl 4 rfl) ?_
    refine lv_aload_n hx hb d_m_rank_20 rfl (lv_at hl 0 rfl) ?_
    refine mg_M_owner hx hb hts hown hK hI (hts _ q_659) d_m_rank_21 ?_
    refine lv_iload hx hb d_m_rank_24 (lv_at hl 3 rfl) ?_
    obtain ⟨hi, h⟩ := h
    refine ma_owner hx hb hK hI hi d_m_rank_26 ?_
    refine lv_icmp_ge hx hb d_m_rank_27 rfl (fun hc => ?_) (fun hc => ?_)
    · have h := h.1 hc
      refine lv_iload_n hx hb d_m_rank_46 rfl (lv_at hl 1 rfl) ?_
      refine lv_iconst (v := 1) hx hb d_m_rank_47 zc_iconst_1 ?_
      refine lv_iconst (v := 5) hx hb d_m_rank_48 zc_iconst_5 ?_
      refine lv_aload_n hx hb d_m_rank_49 rfl (lv_at hl 0 rfl) ?_
      refine mg_M_owner hx hb hts hown hK hI (hts _ q_659) d_m_rank_50 ?_
      refine lv_iload hx hb d_m_rank_53 (lv_at hl 3 rfl) ?_
      obtain ⟨hi, h⟩ := h
      refine ma_owner hx hb hK hI hi d_m_rank_55 ?_
      refine lv_imul hx hb d_m_rank_56 ?_
      refine lv_ishl hx hb d_m_rank_57 ?_
      refine lv_isub hx hb d_m_rank_58 ?_
      refine lv_istore_n hx hb d_m_rank_59 rfl hl (by decide) rfl ?_
      intro ls hl
      have hl : lv_has ls 6 [(1, .int (v1 - (1 <<< ((5 * (aI u 0 (Int32.toNatClampNeg v4))) &&& 31)))), (0, .ref (ad 0)), (2, .long v2), (4, .int v4), (5, .int v5)] := hl
      refine lv_iinc (k := 3) (v := (v4 + 1)) hx hb d_m_rank_60 hl rfl (zi_1 _) (by decide) rfl ?_
      intro ls hl
      have hl : lv_has ls 6 [(4, .int (v4 + 1)), (1, .int (v1 - (1 <<< ((5 * (aI u 0 (Int32.toNatClampNeg v4))) &&& 31)))), (0, .ref (ad 0)), (2, .long v2), (5, .int v5)] := hl
      refine lv_goto hx hb d_m_rank_63 rfl ?_
      exact hk8 _ _ _ _ _ _ _ hI (lv_sub hl [2, 1, 3, 0] rfl) h
    · have h := h.2 hc
      refine lv_lload_n hx hb d_m_rank_30 rfl (lv_at hl 2 rfl) ?_
      refine lv_aload_n hx hb d_m_rank_31 rfl (lv_at hl 0 rfl) ?_
      refine lv_iload_n hx hb d_m_rank_32 rfl (lv_at hl 1 rfl) ?_
      refine lv_iload hx hb d_m_rank_33 (lv_at hl 4 rfl) ?_
      refine zr_l (va_runV (As := [.int v1, .int v5]) (rest := [.long v2]) ⟨hx, hb, hml, hown, hts⟩ (t_m_rowsWith l D ad ca h _) (cwV 2 hts (zg_V q_747 q_749 q_15 q_44 q_750) rfl rfl rfl ⟨rfl, hd_m_rowsWith⟩ ⟨Nat.le_trans (by decide) hfr, Nat.le_trans (by decide) hlc⟩) (z_preV zNs_ok hK hN hI 0 5 rfl rfl _) rfl rfl hl.1 rfl (lv_room (Nat.le_of_ble_eq_true rfl)) d_m_rank_35 ⟨Nat.zero_le _, Nat.zero_le _⟩) hI ?_
      intro r1 u2 H locs h hI
      refine lv_ladd hx hb d_m_rank_38 ?_
      refine lv_lstore_n hx hb d_m_rank_39 rfl hl (by decide) rfl ?_
      intro ls hl
      have hl : lv_has ls 6 [(2, .long (v2 + r1)), (0, .ref (ad 0)), (1, .int v1), (4, .int v4), (5, .int v5)] := hl
      refine lv_iinc (k := 4) (v := (v5 + 1)) hx hb d_m_rank_40 hl rfl (zi_1 _) (by decide) rfl ?_
      intro ls hl
      have hl : lv_has ls 6 [(5, .int (v5 + 1)), (2, .long (v2 + r1)), (0, .ref (ad 0)), (1, .int v1), (4, .int v4)] := hl
      refine lv_goto hx hb d_m_rank_43 rfl ?_
      exact ih _ _ _ _ _ _ _ _ hI (lv_sub hl [2, 3, 1, 4, 0] rfl) h
def b_m_rank_8  (post : Int64 → ZS → Prop) : Nat → Int32 → Int64 → Int32 → ZS → Prop
  | 0, _, _, _, _ => False
  | n + 1, v1, v2, v4, u => (20 ≤ v4 → post v2 u) ∧ (¬ (20 ≤ v4) → ∃ n0, b_m_rank_18 (b_m_rank_8 post n) post n0 v1 v2 v4 0 u)
set_option maxRecDepth 100000 in
set_option maxHeartbeats 4000000 in
theorem k_m_rank_8 {p : Program} {l : Launch} {e : Env} {R : Room} {s : State} {m : MethodId} {args : Array Value} {below : List Frame} {meth : Method} {c : Code} {D : va_G} {A : Nat → Prop} {ad : Nat → Nat} {ca : Nat → ClassId}  {post : Int64 → ZS → Prop} (cx : zx p R s m args meth c c_m_rank 6 3 62 "ShortBridgeModel" (some .long) zG zNs D (mT ca)) : ∀ (n : Nat) (v1 : Int32) (v2 : Int64) (v4 : Int32) (u : ZS) (H : Heap) (locs : List Loc) (ls : Array Slot), zw D A s.heap (mW ad ca u) H locs → lv_has ls 6 [(0, .ref (ad 0)), (1, .int v1), (2, .long v2), (4, .int v4)] → b_m_rank_8 post n v1 v2 v4 u → W p l e R s m args below meth c H locs 0 0 (MQ below (va_Ql post (zE D (mT ca) (mW ad ca) A) A) args s 0 0 A) (F0 m 8 ls []) := by
  have cx0 := cx
  obtain ⟨hx, hb, hml, hown, hts, hN, hK, hr, hlk, hfr, hlc⟩ := cx
  intro n
  induction n with
  | zero => intro v1 v2 v4 u H locs ls hI hl h; exact (h : False).elim
  | succ n ih =>
    intro v1 v2 v4 u H locs ls hI hl h
    unfold b_m_rank_8 at h
    refine lv_iload hx hb d_m_rank_8 (lv_at hl 3 rfl) ?_
    refine lv_bipush (v := 20) hx hb d_m_rank_10 zc_bipush_20 ?_
    refine lv_icmp_ge hx hb d_m_rank_12 rfl (fun hc => ?_) (fun hc => ?_)
    · have h := h.1 hc
      refine lv_lload_n hx hb d_m_rank_66 rfl (lv_at hl 2 rfl) ?_
      exact zret_l hx hb hr hlk hK hI h d_m_rank_67
    · have h := h.2 hc
      refine lv_iconst (v := 0) hx hb d_m_rank_15 zc_iconst_0 ?_
      refine lv_istore hx hb d_m_rank_16 hl (by decide) rfl ?_
      intro ls hl
      have hl : lv_has ls 6 [(5, .int 0), (0, .ref (ad 0)), (1, .int v1), (2, .long v2), (4, .int v4)] := hl
      obtain ⟨n0, h⟩ := h
      exact k_m_rank_18 cx0 ih n0 _ _ _ _ _ _ _ _ hI (lv_sub hl [1, 2, 3, 4, 0] rfl) h
def w_m_rank  (u : ZS) (post : Int64 → ZS → Prop) : Prop := ∃ n0, b_m_rank_8 post n0 169125 0 0 u
set_option maxRecDepth 100000 in
set_option maxHeartbeats 4000000 in
theorem t_m_rank (l : Launch) (D : va_G) (ad : Nat → Nat) (ca : Nat → ClassId)  {u : ZS} {post : Int64 → ZS → Prop} (h : w_m_rank  u post) : zJ l y_m_rank (Cond.code y_m_rank c_m_rank 6 (some .long) :: zG) { frames := 3, cells := 0, slots := 0, locals := 62 } D (mT ca) zNs (mW ad ca) [.ref (ad 0)] u post := by
  refine zJ_of (cc := c_m_rank) (maxL := 6) (ret := (some .long)) (by decide) (Nat.le_of_ble_eq_true rfl) ?_
  intro p e s m args below meth c ls A cx hI hl
  have cx0 := cx
  obtain ⟨hx, hb, hml, hown, hts, hN, hK, hr, hlk, hfr, hlc⟩ := cx
  have hl : lv_has ls 6 [(0, .ref (ad 0))] := hl
  unfold w_m_rank at h
  refine lv_ldc (v := 169125) hx hb hown (hts _ q_746) d_m_rank_0 ?_
  refine lv_istore_n hx hb d_m_rank_2 rfl hl (by decide) rfl ?_
  intro ls hl
  have hl : lv_has ls 6 [(1, .int 169125), (0, .ref (ad 0))] := hl
  refine lv_lconst (v := 0) hx hb d_m_rank_3 (by decide) ?_
  refine lv_lstore_n hx hb d_m_rank_4 rfl hl (by decide) rfl ?_
  intro ls hl
  have hl : lv_has ls 6 [(2, .long 0), (1, .int 169125), (0, .ref (ad 0))] := hl
  refine lv_iconst (v := 0) hx hb d_m_rank_5 zc_iconst_0 ?_
  refine lv_istore hx hb d_m_rank_6 hl (by decide) rfl ?_
  intro ls hl
  have hl : lv_has ls 6 [(4, .int 0), (2, .long 0), (1, .int 169125), (0, .ref (ad 0))] := hl
  obtain ⟨n0, h⟩ := h
  exact k_m_rank_8 cx0  n0 _ _ _ _ _ _ _ hI (lv_sub hl [3, 2, 1, 0] rfl) h
def w_m_begin (v1 : Int32) (v2 : Int32) (u : ZS) (post : ZS → Prop) : Prop := w_m_rank  (sI u 1 1) (fun r1 u2 => post (sI (sI (sI (sI (sJ u2 0 r1) 2 v1) 3 v2) 4 0) 5 0))
set_option maxRecDepth 100000 in
set_option maxHeartbeats 4000000 in
theorem t_m_begin (l : Launch) (D : va_G) (ad : Nat → Nat) (ca : Nat → ClassId) {v1 : Int32} {v2 : Int32} {u : ZS} {post : ZS → Prop} (h : w_m_begin v1 v2 u post) : zV l y_m_begin (Cond.code y_m_begin c_m_begin 3 none :: zG) { frames := 4, cells := 0, slots := 0, locals := 87 } D (mT ca) zNs (mW ad ca) [.ref (ad 0), .int v1, .int v2] u post := by
  refine zV_of (cc := c_m_begin) (maxL := 3) (by decide) (Nat.le_of_ble_eq_true rfl) ?_
  intro p e s m args below meth c ls A cx hI hl
  have cx0 := cx
  obtain ⟨hx, hb, hml, hown, hts, hN, hK, hr, hlk, hfr, hlc⟩ := cx
  have hl : lv_has ls 3 [(0, .ref (ad 0)), (1, .int v1), (2, .int v2)] := hl
  unfold w_m_begin at h
  refine lv_aload_n hx hb d_m_begin_0 rfl (lv_at hl 0 rfl) ?_
  refine lv_iconst (v := 1) hx hb d_m_begin_1 zc_iconst_1 ?_
  refine mp_M_board hx hb hts hown hK hI (hts _ q_655) (Or.inr rfl) d_m_begin_2 ?_
  intro H locs hI
  refine lv_aload_n hx hb d_m_begin_5 rfl (lv_at hl 0 rfl) ?_
  refine lv_aload_n hx hb d_m_begin_6 rfl (lv_at hl 0 rfl) ?_
  refine zr_l (va_runV (As := []) (rest := [.ref (ad 0)]) ⟨hx, hb, hml, hown, hts⟩ (t_m_rank l D ad ca h _) (cwV 0 hts (zg_V q_759 q_761 q_18 q_44 q_762) rfl rfl rfl ⟨rfl, hd_m_rank⟩ ⟨Nat.le_trans (by decide) hfr, Nat.le_trans (by decide) hlc⟩) (z_preV zNs_ok hK hN hI 0 5 rfl rfl _) rfl rfl hl.1 rfl (lv_room (Nat.le_of_ble_eq_true rfl)) d_m_begin_7 ⟨Nat.zero_le _, Nat.zero_le _⟩) hI ?_
  intro r1 u2 H locs h hI
  refine mp_M_dealNumber hx hb hts hown hK hI (hts _ q_656) d_m_begin_10 ?_
  intro H locs hI
  refine lv_aload_n hx hb d_m_begin_13 rfl (lv_at hl 0 rfl) ?_
  refine lv_iload_n hx hb d_m_begin_14 rfl (lv_at hl 1 rfl) ?_
  refine mp_M_dealer hx hb hts hown hK hI (hts _ q_657) d_m_begin_15 ?_
  intro H locs hI
  refine lv_aload_n hx hb d_m_begin_18 rfl (lv_at hl 0 rfl) ?_
  refine lv_iload_n hx hb d_m_begin_19 rfl (lv_at hl 2 rfl) ?_
  refine mp_M_vulnerable hx hb hts hown hK hI (hts _ q_658) d_m_begin_20 ?_
  intro H locs hI
  refine lv_aload_n hx hb d_m_begin_23 rfl (lv_at hl 0 rfl) ?_
  refine lv_iconst (v := 0) hx hb d_m_begin_24 zc_iconst_0 ?_
  refine mp_M_calls hx hb hts hown hK hI (hts _ q_661) d_m_begin_25 ?_
  intro H locs hI
  refine lv_aload_n hx hb d_m_begin_28 rfl (lv_at hl 0 rfl) ?_
  refine lv_iconst (v := 0) hx hb d_m_begin_29 zc_iconst_0 ?_
  refine mp_M_cards hx hb hts hown hK hI (hts _ q_663) d_m_begin_30 ?_
  intro H locs hI
  exact zret_v hx hb hr hlk hK hI h d_m_begin_33
def b_m_isPlayer_14  (post : Int32 → ZS → Prop) (s0 : Int32) (u : ZS) : Prop := (s0 = 0 ∨ s0 = 1) ∧ post s0 u
set_option maxRecDepth 100000 in
set_option maxHeartbeats 4000000 in
theorem k_m_isPlayer_14 {p : Program} {l : Launch} {e : Env} {R : Room} {s : State} {m : MethodId} {args : Array Value} {below : List Frame} {meth : Method} {c : Code} {D : va_G} {A : Nat → Prop} {ad : Nat → Nat} {ca : Nat → ClassId}  {post : Int32 → ZS → Prop} (cx : zx p R s m args meth c c_m_isPlayer 1 1 12 "ShortBridgeModel" (some .boolean) zG zNs D (mT ca)) {s0 : Int32} {u : ZS} {H : Heap} {locs : List Loc} {ls : Array Slot} (hI : zw D A s.heap (mW ad ca u) H locs) (hl : lv_has ls 1 []) (h : b_m_isPlayer_14 post s0 u) : W p l e R s m args below meth c H locs 0 0 (MQ below (va_Qi post (zE D (mT ca) (mW ad ca) A) A) args s 0 0 A) (F0 m 14 ls [.int s0]) := by
  have cx0 := cx
  obtain ⟨hx, hb, hml, hown, hts, hN, hK, hr, hlk, hfr, hlc⟩ := cx
  unfold b_m_isPlayer_14 at h
  exact zret_z hx hb hr hlk hK hI h.1 h.2 d_m_isPlayer_14
def b_m_isPlayer_13  (post : Int32 → ZS → Prop)  (u : ZS) : Prop := b_m_isPlayer_14 post 0 u
set_option maxRecDepth 100000 in
set_option maxHeartbeats 4000000 in
theorem k_m_isPlayer_13 {p : Program} {l : Launch} {e : Env} {R : Room} {s : State} {m : MethodId} {args : Array Value} {below : List Frame} {meth : Method} {c : Code} {D : va_G} {A : Nat → Prop} {ad : Nat → Nat} {ca : Nat → ClassId}  {post : Int32 → ZS → Prop} (cx : zx p R s m args meth c c_m_isPlayer 1 1 12 "ShortBridgeModel" (some .boolean) zG zNs D (mT ca)) {u : ZS} {H : Heap} {locs : List Loc} {ls : Array Slot} (hI : zw D A s.heap (mW ad ca u) H locs) (hl : lv_has ls 1 []) (h : b_m_isPlayer_13 post  u) : W p l e R s m args below meth c H locs 0 0 (MQ below (va_Qi post (zE D (mT ca) (mW ad ca) A) A) args s 0 0 A) (F0 m 13 ls []) := by
  have cx0 := cx
  obtain ⟨hx, hb, hml, hown, hts, hN, hK, hr, hlk, hfr, hlc⟩ := cx
  unfold b_m_isPlayer_13 at h
  refine lv_iconst (v := 0) hx hb d_m_isPlayer_13 zc_iconst_0 ?_
  exact k_m_isPlayer_14 cx0  hI (lv_sub hl [] rfl) h
def w_m_isPlayer (v0 : Int32) (u : ZS) (post : Int32 → ZS → Prop) : Prop := (v0 < 0 → b_m_isPlayer_13 post u) ∧ (¬ (v0 < 0) → (4 ≤ v0 → b_m_isPlayer_13 post u) ∧ (¬ (4 ≤ v0) → b_m_isPlayer_14 post 1 u))
set_option maxRecDepth 100000 in
set_option maxHeartbeats 4000000 in
theorem t_m_isPlayer (l : Launch) (D : va_G) (ad : Nat → Nat) (ca : Nat → ClassId) {v0 : Int32} {u : ZS} {post : Int32 → ZS → Prop} (h : w_m_isPlayer v0 u post) : zI l y_m_isPlayer (Cond.code y_m_isPlayer c_m_isPlayer 1 (some .boolean) :: zG) { frames := 1, cells := 0, slots := 0, locals := 12 } D (mT ca) zNs (mW ad ca) [.int v0] u post := by
  refine zI_of (cc := c_m_isPlayer) (maxL := 1) (ret := (some .boolean)) (by decide) (Nat.le_of_ble_eq_true rfl) ?_
  intro p e s m args below meth c ls A cx hI hl
  have cx0 := cx
  obtain ⟨hx, hb, hml, hown, hts, hN, hK, hr, hlk, hfr, hlc⟩ := cx
  have hl : lv_has ls 1 [(0, .int v0)] := hl
  unfold w_m_isPlayer at h
  refine lv_iload_n hx hb d_m_isPlayer_0 rfl (lv_at hl 0 rfl) ?_
  refine lv_if_lt hx hb d_m_isPlayer_1 rfl (fun hc => ?_) (fun hc => ?_)
  · have h := h.1 hc
    exact k_m_isPlayer_13 cx0  hI (lv_sub hl [] rfl) h
  · have h := h.2 hc
    refine lv_iload_n hx hb d_m_isPlayer_4 rfl (lv_at hl 0 rfl) ?_
    refine lv_iconst (v := 4) hx hb d_m_isPlayer_5 zc_iconst_4 ?_
    refine lv_icmp_ge hx hb d_m_isPlayer_6 rfl (fun hc => ?_) (fun hc => ?_)
    · have h := h.1 hc
      exact k_m_isPlayer_13 cx0  hI (lv_sub hl [] rfl) h
    · have h := h.2 hc
      refine lv_iconst (v := 1) hx hb d_m_isPlayer_9 zc_iconst_1 ?_
      refine lv_goto hx hb d_m_isPlayer_10 rfl ?_
      exact k_m_isPlayer_14 cx0  hI (lv_sub hl [] rfl) h
def b_m_deal_37  (post : Int32 → ZS → Prop)  (u : ZS) : Prop := post 0 u
set_option maxRecDepth 100000 in
set_option maxHeartbeats 4000000 in
theorem k_m_deal_37 {p : Program} {l : Launch} {e : Env} {R : Room} {s : State} {m : MethodId} {args : Array Value} {below : List Frame} {meth : Method} {c : Code} {D : va_G} {A : Nat → Prop} {ad : Nat → Nat} {ca : Nat → ClassId}  {post : Int32 → ZS → Prop} (cx : zx p R s m args meth c c_m_deal 5 5 109 "ShortBridgeModel" (some .boolean) zG zNs D (mT ca)) {u : ZS} {H : Heap} {locs : List Loc} {ls : Array Slot} (hI : zw D A s.heap (mW ad ca u) H locs) (hl : lv_has ls 5 []) (h : b_m_deal_37 post  u) : W p l e R s m args below meth c H locs 0 0 (MQ below (va_Qi post (zE D (mT ca) (mW ad ca) A) A) args s 0 0 A) (F0 m 37 ls []) := by
  have cx0 := cx
  obtain ⟨hx, hb, hml, hown, hts, hN, hK, hr, hlk, hfr, hlc⟩ := cx
  unfold b_m_deal_37 at h
  refine lv_iconst (v := 0) hx hb d_m_deal_37 zc_iconst_0 ?_
  exact zret_z hx hb hr hlk hK hI (Or.inl rfl) h d_m_deal_38
def w_m_deal (v1 : Int64) (v3 : Int32) (v4 : Int32) (u : ZS) (post : Int32 → ZS → Prop) : Prop := ((lg_cmp v1 0) < 0 → b_m_deal_37 post (sI u 0 0)) ∧ (¬ ((lg_cmp v1 0) < 0) → (0 ≤ (lg_cmp v1 11732745024) → b_m_deal_37 post (sI u 0 0)) ∧ (¬ (0 ≤ (lg_cmp v1 11732745024)) → w_m_isPlayer v3 (sI u 0 0) (fun r1 u2 => (r1 = 0 → b_m_deal_37 post u2) ∧ (¬ (r1 = 0) → (v4 < 0 → b_m_deal_37 post u2) ∧ (¬ (v4 < 0) → (v4 ≤ 3 → w_m_unrank v1 u2 (fun u4 => w_m_begin v3 v4 u4 (fun u6 => post 1 u6))) ∧ (¬ (v4 ≤ 3) → b_m_deal_37 post u2))))))
set_option maxRecDepth 100000 in
set_option maxHeartbeats 4000000 in
theorem t_m_deal (l : Launch) (D : va_G) (ad : Nat → Nat) (ca : Nat → ClassId) {v1 : Int64} {v3 : Int32} {v4 : Int32} {u : ZS} {post : Int32 → ZS → Prop} (h : w_m_deal v1 v3 v4 u post) : zI l y_m_deal (Cond.code y_m_deal c_m_deal 5 (some .boolean) :: zG) { frames := 5, cells := 0, slots := 0, locals := 109 } D (mT ca) zNs (mW ad ca) [.ref (ad 0), .long v1, .int v3, .int v4] u post := by
  refine zI_of (cc := c_m_deal) (maxL := 5) (ret := (some .boolean)) (by decide) (Nat.le_of_ble_eq_true rfl) ?_
  intro p e s m args below meth c ls A cx hI hl
  have cx0 := cx
  obtain ⟨hx, hb, hml, hown, hts, hN, hK, hr, hlk, hfr, hlc⟩ := cx
  have hl : lv_has ls 5 [(0, .ref (ad 0)), (1, .long v1), (3, .int v3), (4, .int v4)] := hl
  unfold w_m_deal at h
  refine lv_aload_n hx hb d_m_deal_0 rfl (lv_at hl 0 rfl) ?_
  refine lv_iconst (v := 0) hx hb d_m_deal_1 zc_iconst_0 ?_
  refine mp_M_code hx hb hts hown hK hI (hts _ q_654) d_m_deal_2 ?_
  intro H locs hI
  refine lv_lload_n hx hb d_m_deal_5 rfl (lv_at hl 1 rfl) ?_
  refine lv_lconst (v := 0) hx hb d_m_deal_6 (by decide) ?_
  refine W.lcmp hx hb d_m_deal_7 ?_
  refine lv_if_lt hx hb d_m_deal_8 rfl (fun hc => ?_) (fun hc => ?_)
  · have h := h.1 hc
    exact k_m_deal_37 cx0  hI (lv_sub hl [] rfl) h
  · have h := h.2 hc
    refine lv_lload_n hx hb d_m_deal_11 rfl (lv_at hl 1 rfl) ?_
    refine lv_ldc2 (v := 11732745024) hx hb hown (hts _ q_738) d_m_deal_12 ?_
    refine W.lcmp hx hb d_m_deal_15 ?_
    refine lv_if_ge hx hb d_m_deal_16 rfl (fun hc => ?_) (fun hc => ?_)
    · have h := h.1 hc
      exact k_m_deal_37 cx0  hI (lv_sub hl [] rfl) h
    · have h := h.2 hc
      refine lv_iload_n hx hb d_m_deal_19 rfl (lv_at hl 2 rfl) ?_
      refine zr_i (va_runS (As := [.int v3]) (rest := []) ⟨hx, hb, hml, hown, hts⟩ (t_m_isPlayer l D ad ca h _) (va_cwS 1 hts (zg_S q_739 q_740 q_44 q_741) rfl rfl rfl hd_m_isPlayer ⟨Nat.le_trans (by decide) hfr, Nat.le_trans (by decide) hlc⟩) (z_preS zNs_ok hK hN hI _) rfl rfl hl.1 rfl (lv_room (Nat.le_of_ble_eq_true rfl)) d_m_deal_20 ⟨Nat.zero_le _, Nat.zero_le _⟩) hI ?_
      intro r1 u2 H locs h hI
      refine lv_if_eq hx hb d_m_deal_23 rfl (fun hc => ?_) (fun hc => ?_)
      · have h := h.1 hc
        exact k_m_deal_37 cx0  hI (lv_sub hl [] rfl) h
      · have h := h.2 hc
        refine lv_iload hx hb d_m_deal_26 (lv_at hl 3 rfl) ?_
        refine lv_if_lt hx hb d_m_deal_28 rfl (fun hc => ?_) (fun hc => ?_)
        · have h := h.1 hc
          exact k_m_deal_37 cx0  hI (lv_sub hl [] rfl) h
        · have h := h.2 hc
          refine lv_iload hx hb d_m_deal_31 (lv_at hl 3 rfl) ?_
          refine lv_iconst (v := 3) hx hb d_m_deal_33 zc_iconst_3 ?_
          refine lv_icmp_le hx hb d_m_deal_34 rfl (fun hc => ?_) (fun hc => ?_)
          · have h := h.1 hc
            refine lv_aload_n hx hb d_m_deal_39 rfl (lv_at hl 0 rfl) ?_
            refine lv_lload_n hx hb d_m_deal_40 rfl (lv_at hl 1 rfl) ?_
            refine zr_v (va_runV (As := [.long v1]) (rest := []) ⟨hx, hb, hml, hown, hts⟩ (t_m_unrank l D ad ca h _) (cwV 1 hts (zg_V q_742 q_744 q_14 q_44 q_745) rfl rfl rfl ⟨rfl, hd_m_unrank⟩ ⟨Nat.le_trans (by decide) hfr, Nat.le_trans (by decide) hlc⟩) (z_preV zNs_ok hK hN hI 0 5 rfl rfl _) rfl rfl hl.1 rfl (lv_room (Nat.le_of_ble_eq_true rfl)) d_m_deal_41 ⟨Nat.zero_le _, Nat.zero_le _⟩) hI ?_
            intro u4 H locs h hI
            refine lv_aload_n hx hb d_m_deal_44 rfl (lv_at hl 0 rfl) ?_
            refine lv_iload_n hx hb d_m_deal_45 rfl (lv_at hl 2 rfl) ?_
            refine lv_iload hx hb d_m_deal_46 (lv_at hl 3 rfl) ?_
            refine zr_v (va_runV (As := [.int v3, .int v4]) (rest := []) ⟨hx, hb, hml, hown, hts⟩ (t_m_begin l D ad ca h _) (cwV 2 hts (zg_V q_755 q_757 q_17 q_44 q_758) rfl rfl rfl ⟨rfl, hd_m_begin⟩ ⟨Nat.le_trans (by decide) hfr, Nat.le_trans (by decide) hlc⟩) (z_preV zNs_ok hK hN hI 0 5 rfl rfl _) rfl rfl hl.1 rfl (lv_room (Nat.le_of_ble_eq_true rfl)) d_m_deal_48 ⟨Nat.zero_le _, Nat.zero_le _⟩) hI ?_
            intro u6 H locs h hI
            refine lv_iconst (v := 1) hx hb d_m_deal_51 zc_iconst_1 ?_
            exact zret_z hx hb hr hlk hK hI (Or.inr rfl) h d_m_deal_52
          · have h := h.2 hc
            exact k_m_deal_37 cx0  hI (lv_sub hl [] rfl) h
def b_m_shuffle_23  (post : Int64 → ZS → Prop)  (u : ZS) : Prop := post (-1) u
set_option maxRecDepth 100000 in
set_option maxHeartbeats 4000000 in
theorem k_m_shuffle_23 {p : Program} {l : Launch} {e : Env} {R : Room} {s : State} {m : MethodId} {args : Array Value} {below : List Frame} {meth : Method} {c : Code} {D : va_G} {A : Nat → Prop} {ad : Nat → Nat} {ca : Nat → ClassId}  {post : Int64 → ZS → Prop} (cx : zx p R s m args meth c c_m_shuffle 10 5 109 "ShortBridgeModel" (some .long) zG zNs D (mT ca)) {u : ZS} {H : Heap} {locs : List Loc} {ls : Array Slot} (hI : zw D A s.heap (mW ad ca u) H locs) (hl : lv_has ls 10 []) (h : b_m_shuffle_23 post  u) : W p l e R s m args below meth c H locs 0 0 (MQ below (va_Ql post (zE D (mT ca) (mW ad ca) A) A) args s 0 0 A) (F0 m 23 ls []) := by
  have cx0 := cx
  obtain ⟨hx, hb, hml, hown, hts, hN, hK, hr, hlk, hfr, hlc⟩ := cx
  unfold b_m_shuffle_23 at h
  refine lv_ldc2 (v := -1) hx hb hown (hts _ q_767) d_m_shuffle_23 ?_
  exact zret_l hx hb hr hlk hK hI h d_m_shuffle_26
def b_m_shuffle_131  (post : Int64 → ZS → Prop) : Nat → Int32 → Int32 → Int32 → ZS → Prop
  | 0, _, _, _, _ => False
  | n + 1, v3, v4, v7, u => (20 ≤ v7 → w_m_begin v3 v4 u (fun u2 => post (fJ u2 0) u2)) ∧ (¬ (20 ≤ v7) → vp_in v7 21 ∧ (vp_in (aI u 6 (Int32.toNatClampNeg v7)) 20 ∧ (b_m_shuffle_131 post n v3 v4 (v7 + 1) (pI u 0 (Int32.toNatClampNeg (aI u 6 (Int32.toNatClampNeg v7))) (v7 / 5)))))
set_option maxRecDepth 100000 in
set_option maxHeartbeats 4000000 in
theorem k_m_shuffle_131 {p : Program} {l : Launch} {e : Env} {R : Room} {s : State} {m : MethodId} {args : Array Value} {below : List Frame} {meth : Method} {c : Code} {D : va_G} {A : Nat → Prop} {ad : Nat → Nat} {ca : Nat → ClassId}  {post : Int64 → ZS → Prop} (cx : zx p R s m args meth c c_m_shuffle 10 5 109 "ShortBridgeModel" (some .long) zG zNs D (mT ca)) : ∀ (n : Nat) (v3 : Int32) (v4 : Int32) (v7 : Int32) (u : ZS) (H : Heap) (locs : List Loc) (ls : Array Slot), zw D A s.heap (mW ad ca u) H locs → lv_has ls 10 [(0, .ref (ad 0)), (3, .int v3), (4, .int v4), (7, .int v7)] → b_m_shuffle_131 post n v3 v4 v7 u → W p l e R s m args below meth c H locs 0 0 (MQ below (va_Ql post (zE D (mT ca) (mW ad ca) A) A) args s 0 0 A) (F0 m 131 ls []) := by
  have cx0 := cx
  obtain ⟨hx, hb, hml, hown, hts, hN, hK, hr, hlk, hfr, hlc⟩ := cx
  intro n
  induction n with
  | zero => intro v3 v4 v7 u H locs ls hI hl h; exact (h : False).elim
  | succ n ih =>
    intro v3 v4 v7 u H locs ls hI hl h
    unfold b_m_shuffle_131 at h
    refine lv_iload hx hb d_m_shuffle_131 (lv_at hl 3 rfl) ?_
    refine lv_bipush (v := 20) hx hb d_m_shuffle_133 zc_bipush_20 ?_
    refine lv_icmp_ge hx hb d_m_shuffle_135 rfl (fun hc => ?_) (fun hc => ?_)
    · have h := h.1 hc
      refine lv_aload_n hx hb d_m_shuffle_160 rfl (lv_at hl 0 rfl) ?_
      refine lv_iload_n hx hb d_m_shuffle_161 rfl (lv_at hl 1 rfl) ?_
      refine lv_iload hx hb d_m_shuffle_162 (lv_at hl 2 rfl) ?_
      refine zr_v (va_runV (As := [.int v3, .int v4]) (rest := []) ⟨hx, hb, hml, hown, hts⟩ (t_m_begin l D ad ca h _) (cwV 2 hts (zg_V q_755 q_757 q_17 q_44 q_758) rfl rfl rfl ⟨rfl, hd_m_begin⟩ ⟨Nat.le_trans (by decide) hfr, Nat.le_trans (by decide) hlc⟩) (z_preV zNs_ok hK hN hI 0 5 rfl rfl _) rfl rfl hl.1 rfl (lv_room (Nat.le_of_ble_eq_true rfl)) d_m_shuffle_164 ⟨Nat.zero_le _, Nat.zero_le _⟩) hI ?_
      intro u2 H locs h hI
      refine lv_aload_n hx hb d_m_shuffle_167 rfl (lv_at hl 0 rfl) ?_
      refine mg_M_dealNumber hx hb hts hown hK hI (hts _ q_656) d_m_shuffle_168 ?_
      exact zret_l hx hb hr hlk hK hI h d_m_shuffle_171
    · have h := h.2 hc
      refine lv_aload_n hx hb d_m_shuffle_138 rfl (lv_at hl 0 rfl) ?_
      refine mg_M_owner hx hb hts hown hK hI (hts _ q_659) d_m_shuffle_139 ?_
      refine lv_aload_n hx hb d_m_shuffle_142 rfl (lv_at hl 0 rfl) ?_
      refine mg_M_look hx hb hts hown hK hI (hts _ q_672) d_m_shuffle_143 ?_
      refine lv_iload hx hb d_m_shuffle_146 (lv_at hl 3 rfl) ?_
      obtain ⟨hi, h⟩ := h
      refine ma_look hx hb hK hI hi d_m_shuffle_148 ?_
      refine lv_iload hx hb d_m_shuffle_149 (lv_at hl 3 rfl) ?_
      refine lv_iconst (v := 5) hx hb d_m_shuffle_151 zc_iconst_5 ?_
      refine lv_idiv hx hb d_m_shuffle_152 (by decide) ?_
      obtain ⟨hi, h⟩ := h
      refine ms_owner hx hb hK hI hi d_m_shuffle_153 ?_
      intro H locs hI
      refine lv_iinc (k := 3) (v := (v7 + 1)) hx hb d_m_shuffle_154 hl rfl (zi_1 _) (by decide) rfl ?_
      intro ls hl
      have hl : lv_has ls 10 [(7, .int (v7 + 1)), (0, .ref (ad 0)), (3, .int v3), (4, .int v4)] := hl
      refine lv_goto hx hb d_m_shuffle_157 rfl ?_
      exact ih _ _ _ _ _ _ _ hI (lv_sub hl [1, 2, 3, 0] rfl) h
def b_m_shuffle_59  (post : Int64 → ZS → Prop) : Nat → Int32 → Int32 → Int64 → Int32 → ZS → Prop
  | 0, _, _, _, _, _ => False
  | n + 1, v3, v4, v5, v7, u => (v7 ≤ 0 → ∃ n0, b_m_shuffle_131 post n0 v3 v4 0 u) ∧ (¬ (v7 ≤ 0) → ¬ (Int32.toInt64 (v7 + 1)) = 0 ∧ (vp_in v7 21 ∧ (vp_in (Int64.toInt32 (((Int64.toUInt64 ((v5 * 6364136223846793005) + 1442695040888963407) >>> (Int64.toUInt64 (Int32.toInt64 33) &&& Int64.toUInt64 63)).toInt64) - ((Int64.toUInt64 ((v5 * 6364136223846793005) + 1442695040888963407) >>> (Int64.toUInt64 (Int32.toInt64 33) &&& Int64.toUInt64 63)).toInt64) / (Int32.toInt64 (v7 + 1)) * (Int32.toInt64 (v7 + 1)))) 21 ∧ (vp_in v7 21 ∧ (vp_in (Int64.toInt32 (((Int64.toUInt64 ((v5 * 6364136223846793005) + 1442695040888963407) >>> (Int64.toUInt64 (Int32.toInt64 33) &&& Int64.toUInt64 63)).toInt64) - ((Int64.toUInt64 ((v5 * 6364136223846793005) + 1442695040888963407) >>> (Int64.toUInt64 (Int32.toInt64 33) &&& Int64.toUInt64 63)).toInt64) / (Int32.toInt64 (v7 + 1)) * (Int32.toInt64 (v7 + 1)))) 21 ∧ (b_m_shuffle_59 post n v3 v4 ((v5 * 6364136223846793005) + 1442695040888963407) (v7 + (-1)) (pI (pI u 6 (Int32.toNatClampNeg v7) (aI u 6 (Int32.toNatClampNeg (Int64.toInt32 (((Int64.toUInt64 ((v5 * 6364136223846793005) + 1442695040888963407) >>> (Int64.toUInt64 (Int32.toInt64 33) &&& Int64.toUInt64 63)).toInt64) - ((Int64.toUInt64 ((v5 * 6364136223846793005) + 1442695040888963407) >>> (Int64.toUInt64 (Int32.toInt64 33) &&& Int64.toUInt64 63)).toInt64) / (Int32.toInt64 (v7 + 1)) * (Int32.toInt64 (v7 + 1))))))) 6 (Int32.toNatClampNeg (Int64.toInt32 (((Int64.toUInt64 ((v5 * 6364136223846793005) + 1442695040888963407) >>> (Int64.toUInt64 (Int32.toInt64 33) &&& Int64.toUInt64 63)).toInt64) - ((Int64.toUInt64 ((v5 * 6364136223846793005) + 1442695040888963407) >>> (Int64.toUInt64 (Int32.toInt64 33) &&& Int64.toUInt64 63)).toInt64) / (Int32.toInt64 (v7 + 1)) * (Int32.toInt64 (v7 + 1))))) (aI u 6 (Int32.toNatClampNeg v7)))))))))
set_option maxRecDepth 100000 in
set_option maxHeartbeats 4000000 in
theorem k_m_shuffle_59 {p : Program} {l : Launch} {e : Env} {R : Room} {s : State} {m : MethodId} {args : Array Value} {below : List Frame} {meth : Method} {c : Code} {D : va_G} {A : Nat → Prop} {ad : Nat → Nat} {ca : Nat → ClassId}  {post : Int64 → ZS → Prop} (cx : zx p R s m args meth c c_m_shuffle 10 5 109 "ShortBridgeModel" (some .long) zG zNs D (mT ca)) : ∀ (n : Nat) (v3 : Int32) (v4 : Int32) (v5 : Int64) (v7 : Int32) (u : ZS) (H : Heap) (locs : List Loc) (ls : Array Slot), zw D A s.heap (mW ad ca u) H locs → lv_has ls 10 [(0, .ref (ad 0)), (3, .int v3), (4, .int v4), (5, .long v5), (7, .int v7)] → b_m_shuffle_59 post n v3 v4 v5 v7 u → W p l e R s m args below meth c H locs 0 0 (MQ below (va_Ql post (zE D (mT ca) (mW ad ca) A) A) args s 0 0 A) (F0 m 59 ls []) := by
  have cx0 := cx
  obtain ⟨hx, hb, hml, hown, hts, hN, hK, hr, hlk, hfr, hlc⟩ := cx
  intro n
  induction n with
  | zero => intro v3 v4 v5 v7 u H locs ls hI hl h; exact (h : False).elim
  | succ n ih =>
    intro v3 v4 v5 v7 u H locs ls hI hl h
    unfold b_m_shuffle_59 at h
    refine lv_iload hx hb d_m_shuffle_59 (lv_at hl 4 rfl) ?_
    refine lv_if_le hx hb d_m_shuffle_61 rfl (fun hc => ?_) (fun hc => ?_)
    · have h := h.1 hc
      refine lv_iconst (v := 0) hx hb d_m_shuffle_128 zc_iconst_0 ?_
      refine lv_istore hx hb d_m_shuffle_129 hl (by decide) rfl ?_
      intro ls hl
      have hl : lv_has ls 10 [(7, .int 0), (0, .ref (ad 0)), (3, .int v3), (4, .int v4), (5, .long v5)] := hl
      obtain ⟨n0, h⟩ := h
      exact k_m_shuffle_131 cx0  n0 _ _ _ _ _ _ _ hI (lv_sub hl [1, 2, 3, 0] rfl) h
    · have h := h.2 hc
      refine lv_lload hx hb d_m_shuffle_64 (lv_at hl 3 rfl) ?_
      refine lv_ldc2 (v := 6364136223846793005) hx hb hown (hts _ q_768) d_m_shuffle_66 ?_
      refine lv_lmul hx hb d_m_shuffle_69 ?_
      refine lv_ldc2 (v := 1442695040888963407) hx hb hown (hts _ q_769) d_m_shuffle_70 ?_
      refine lv_ladd hx hb d_m_shuffle_73 ?_
      refine lv_lstore hx hb d_m_shuffle_74 hl (by decide) rfl ?_
      intro ls hl
      have hl : lv_has ls 10 [(5, .long ((v5 * 6364136223846793005) + 1442695040888963407)), (0, .ref (ad 0)), (3, .int v3), (4, .int v4), (7, .int v7)] := hl
      refine lv_lload hx hb d_m_shuffle_76 (lv_at hl 0 rfl) ?_
      refine lv_bipush (v := 33) hx hb d_m_shuffle_78 zc_bipush_33 ?_
      refine lv_lushr (v := ((Int64.toUInt64 ((v5 * 6364136223846793005) + 1442695040888963407) >>> (Int64.toUInt64 (Int32.toInt64 33) &&& Int64.toUInt64 63)).toInt64)) hx hb d_m_shuffle_80 rfl ?_
      refine lv_iload hx hb d_m_shuffle_81 (lv_at hl 4 rfl) ?_
      refine lv_iconst (v := 1) hx hb d_m_shuffle_83 zc_iconst_1 ?_
      refine lv_iadd hx hb d_m_shuffle_84 ?_
      refine lv_i2l (v := (Int32.toInt64 (v7 + 1))) hx hb d_m_shuffle_85 rfl ?_
      obtain ⟨h0, h⟩ := h
      refine lv_lrem hx hb d_m_shuffle_86 h0 ?_
      refine lv_l2i (v := (Int64.toInt32 (((Int64.toUInt64 ((v5 * 6364136223846793005) + 1442695040888963407) >>> (Int64.toUInt64 (Int32.toInt64 33) &&& Int64.toUInt64 63)).toInt64) - ((Int64.toUInt64 ((v5 * 6364136223846793005) + 1442695040888963407) >>> (Int64.toUInt64 (Int32.toInt64 33) &&& Int64.toUInt64 63)).toInt64) / (Int32.toInt64 (v7 + 1)) * (Int32.toInt64 (v7 + 1))))) hx hb d_m_shuffle_87 rfl ?_
      refine lv_istore hx hb d_m_shuffle_88 hl (by decide) rfl ?_
      intro ls hl
      have hl : lv_has ls 10 [(8, .int (Int64.toInt32 (((Int64.toUInt64 ((v5 * 6364136223846793005) + 1442695040888963407) >>> (Int64.toUInt64 (Int32.toInt64 33) &&& Int64.toUInt64 63)).toInt64) - ((Int64.toUInt64 ((v5 * 6364136223846793005) + 1442695040888963407) >>> (Int64.toUInt64 (Int32.toInt64 33) &&& Int64.toUInt64 63)).toInt64) / (Int32.toInt64 (v7 + 1)) * (Int32.toInt64 (v7 + 1))))), (5, .long ((v5 * 6364136223846793005) + 1442695040888963407)), (0, .ref (ad 0)), (3, .int v3), (4, .int v4), (7, .int v7)] := hl
      refine lv_aload_n hx hb d_m_shuffle_90 rfl (lv_at hl 2 rfl) ?_
      refine mg_M_look hx hb hts hown hK hI (hts _ q_672) d_m_shuffle_91 ?_
      refine lv_iload hx hb d_m_shuffle_94 (lv_at hl 5 rfl) ?_
      obtain ⟨hi, h⟩ := h
      refine ma_look hx hb hK hI hi d_m_shuffle_96 ?_
      refine lv_istore hx hb d_m_shuffle_97 hl (by decide) rfl ?_
      intro ls hl
      have hl : lv_has ls 10 [(9, .int (aI u 6 (Int32.toNatClampNeg v7))), (8, .int (Int64.toInt32 (((Int64.toUInt64 ((v5 * 6364136223846793005) + 1442695040888963407) >>> (Int64.toUInt64 (Int32.toInt64 33) &&& Int64.toUInt64 63)).toInt64) - ((Int64.toUInt64 ((v5 * 6364136223846793005) + 1442695040888963407) >>> (Int64.toUInt64 (Int32.toInt64 33) &&& Int64.toUInt64 63)).toInt64) / (Int32.toInt64 (v7 + 1)) * (Int32.toInt64 (v7 + 1))))), (5, .long ((v5 * 6364136223846793005) + 1442695040888963407)), (0, .ref (ad 0)), (3, .int v3), (4, .int v4), (7, .int v7)] := hl
      refine lv_aload_n hx hb d_m_shuffle_99 rfl (lv_at hl 3 rfl) ?_
      refine mg_M_look hx hb hts hown hK hI (hts _ q_672) d_m_shuffle_100 ?_
      refine lv_iload hx hb d_m_shuffle_103 (lv_at hl 6 rfl) ?_
      refine lv_aload_n hx hb d_m_shuffle_105 rfl (lv_at hl 3 rfl) ?_
      refine mg_M_look hx hb hts hown hK hI (hts _ q_672) d_m_shuffle_106 ?_
      refine lv_iload hx hb d_m_shuffle_109 (lv_at hl 1 rfl) ?_
      obtain ⟨hi, h⟩ := h
      refine ma_look hx hb hK hI hi d_m_shuffle_111 ?_
      obtain ⟨hi, h⟩ := h
      refine ms_look hx hb hK hI hi d_m_shuffle_112 ?_
      intro H locs hI
      refine lv_aload_n hx hb d_m_shuffle_113 rfl (lv_at hl 3 rfl) ?_
      refine mg_M_look hx hb hts hown hK hI (hts _ q_672) d_m_shuffle_114 ?_
      refine lv_iload hx hb d_m_shuffle_117 (lv_at hl 1 rfl) ?_
      refine lv_iload hx hb d_m_shuffle_119 (lv_at hl 0 rfl) ?_
      obtain ⟨hi, h⟩ := h
      refine ms_look hx hb hK hI hi d_m_shuffle_121 ?_
      intro H locs hI
      refine lv_iinc (k := 6) (v := (v7 + (-1))) hx hb d_m_shuffle_122 hl rfl (zi_m1 _) (by decide) rfl ?_
      intro ls hl
      have hl : lv_has ls 10 [(7, .int (v7 + (-1))), (9, .int (aI u 6 (Int32.toNatClampNeg v7))), (8, .int (Int64.toInt32 (((Int64.toUInt64 ((v5 * 6364136223846793005) + 1442695040888963407) >>> (Int64.toUInt64 (Int32.toInt64 33) &&& Int64.toUInt64 63)).toInt64) - ((Int64.toUInt64 ((v5 * 6364136223846793005) + 1442695040888963407) >>> (Int64.toUInt64 (Int32.toInt64 33) &&& Int64.toUInt64 63)).toInt64) / (Int32.toInt64 (v7 + 1)) * (Int32.toInt64 (v7 + 1))))), (5, .long ((v5 * 6364136223846793005) + 1442695040888963407)), (0, .ref (ad 0)), (3, .int v3), (4, .int v4)] := hl
      refine lv_goto hx hb d_m_shuffle_125 rfl ?_
      exact ih _ _ _ _ _ _ _ _ hI (lv_sub hl [4, 5, 6, 3, 0] rfl) h
def b_m_shuffle_30  (post : Int64 → ZS → Prop) : Nat → Int64 → Int32 → Int32 → Int32 → ZS → Prop
  | 0, _, _, _, _, _ => False
  | n + 1, v1, v3, v4, v5, u => (20 ≤ v5 → ∃ n0, b_m_shuffle_59 post n0 v3 v4 v1 19 u) ∧ (¬ (20 ≤ v5) → vp_in v5 21 ∧ (b_m_shuffle_30 post n v1 v3 v4 (v5 + 1) (pI u 6 (Int32.toNatClampNeg v5) v5)))
set_option maxRecDepth 100000 in
set_option maxHeartbeats 4000000 in
theorem k_m_shuffle_30 {p : Program} {l : Launch} {e : Env} {R : Room} {s : State} {m : MethodId} {args : Array Value} {below : List Frame} {meth : Method} {c : Code} {D : va_G} {A : Nat → Prop} {ad : Nat → Nat} {ca : Nat → ClassId}  {post : Int64 → ZS → Prop} (cx : zx p R s m args meth c c_m_shuffle 10 5 109 "ShortBridgeModel" (some .long) zG zNs D (mT ca)) : ∀ (n : Nat) (v1 : Int64) (v3 : Int32) (v4 : Int32) (v5 : Int32) (u : ZS) (H : Heap) (locs : List Loc) (ls : Array Slot), zw D A s.heap (mW ad ca u) H locs → lv_has ls 10 [(0, .ref (ad 0)), (1, .long v1), (3, .int v3), (4, .int v4), (5, .int v5)] → b_m_shuffle_30 post n v1 v3 v4 v5 u → W p l e R s m args below meth c H locs 0 0 (MQ below (va_Ql post (zE D (mT ca) (mW ad ca) A) A) args s 0 0 A) (F0 m 30 ls []) := by
  have cx0 := cx
  obtain ⟨hx, hb, hml, hown, hts, hN, hK, hr, hlk, hfr, hlc⟩ := cx
  intro n
  induction n with
  | zero => intro v1 v3 v4 v5 u H locs ls hI hl h; exact (h : False).elim
  | succ n ih =>
    intro v1 v3 v4 v5 u H locs ls hI hl h
    unfold b_m_shuffle_30 at h
    refine lv_iload hx hb d_m_shuffle_30 (lv_at hl 4 rfl) ?_
    refine lv_bipush (v := 20) hx hb d_m_shuffle_32 zc_bipush_20 ?_
    refine lv_icmp_ge hx hb d_m_shuffle_34 rfl (fun hc => ?_) (fun hc => ?_)
    · have h := h.1 hc
      refine lv_lload_n hx hb d_m_shuffle_52 rfl (lv_at hl 1 rfl) ?_
      refine lv_lstore hx hb d_m_shuffle_53 hl (by decide) rfl ?_
      intro ls hl
      have hl : lv_has ls 10 [(5, .long v1), (0, .ref (ad 0)), (1, .long v1), (3, .int v3), (4, .int v4)] := hl
      refine lv_bipush (v := 19) hx hb d_m_shuffle_55 zc_bipush_19 ?_
      refine lv_istore hx hb d_m_shuffle_57 hl (by decide) rfl ?_
      intro ls hl
      have hl : lv_has ls 10 [(7, .int 19), (5, .long v1), (0, .ref (ad 0)), (1, .long v1), (3, .int v3), (4, .int v4)] := hl
      obtain ⟨n0, h⟩ := h
      exact k_m_shuffle_59 cx0  n0 _ _ _ _ _ _ _ _ hI (lv_sub hl [2, 4, 5, 1, 0] rfl) h
    · have h := h.2 hc
      refine lv_aload_n hx hb d_m_shuffle_37 rfl (lv_at hl 0 rfl) ?_
      refine mg_M_look hx hb hts hown hK hI (hts _ q_672) d_m_shuffle_38 ?_
      refine lv_iload hx hb d_m_shuffle_41 (lv_at hl 4 rfl) ?_
      refine lv_iload hx hb d_m_shuffle_43 (lv_at hl 4 rfl) ?_
      obtain ⟨hi, h⟩ := h
      refine ms_look hx hb hK hI hi d_m_shuffle_45 ?_
      intro H locs hI
      refine lv_iinc (k := 4) (v := (v5 + 1)) hx hb d_m_shuffle_46 hl rfl (zi_1 _) (by decide) rfl ?_
      intro ls hl
      have hl : lv_has ls 10 [(5, .int (v5 + 1)), (0, .ref (ad 0)), (1, .long v1), (3, .int v3), (4, .int v4)] := hl
      refine lv_goto hx hb d_m_shuffle_49 rfl ?_
      exact ih _ _ _ _ _ _ _ _ hI (lv_sub hl [1, 2, 3, 4, 0] rfl) h
def w_m_shuffle (v1 : Int64) (v3 : Int32) (v4 : Int32) (u : ZS) (post : Int64 → ZS → Prop) : Prop := w_m_isPlayer v3 (sI u 0 0) (fun r3 u4 => (r3 = 0 → b_m_shuffle_23 post u4) ∧ (¬ (r3 = 0) → (v4 < 0 → b_m_shuffle_23 post u4) ∧ (¬ (v4 < 0) → (v4 ≤ 3 → ∃ n0, b_m_shuffle_30 post n0 v1 v3 v4 0 u4) ∧ (¬ (v4 ≤ 3) → b_m_shuffle_23 post u4))))
set_option maxRecDepth 100000 in
set_option maxHeartbeats 4000000 in
theorem t_m_shuffle (l : Launch) (D : va_G) (ad : Nat → Nat) (ca : Nat → ClassId) {v1 : Int64} {v3 : Int32} {v4 : Int32} {u : ZS} {post : Int64 → ZS → Prop} (h : w_m_shuffle v1 v3 v4 u post) : zJ l y_m_shuffle (Cond.code y_m_shuffle c_m_shuffle 10 (some .long) :: zG) { frames := 5, cells := 0, slots := 0, locals := 109 } D (mT ca) zNs (mW ad ca) [.ref (ad 0), .long v1, .int v3, .int v4] u post := by
  refine zJ_of (cc := c_m_shuffle) (maxL := 10) (ret := (some .long)) (by decide) (Nat.le_of_ble_eq_true rfl) ?_
  intro p e s m args below meth c ls A cx hI hl
  have cx0 := cx
  obtain ⟨hx, hb, hml, hown, hts, hN, hK, hr, hlk, hfr, hlc⟩ := cx
  have hl : lv_has ls 10 [(0, .ref (ad 0)), (1, .long v1), (3, .int v3), (4, .int v4)] := hl
  unfold w_m_shuffle at h
  refine lv_aload_n hx hb d_m_shuffle_0 rfl (lv_at hl 0 rfl) ?_
  refine lv_iconst (v := 0) hx hb d_m_shuffle_1 zc_iconst_0 ?_
  refine mp_M_code hx hb hts hown hK hI (hts _ q_654) d_m_shuffle_2 ?_
  intro H locs hI
  refine lv_iload_n hx hb d_m_shuffle_5 rfl (lv_at hl 2 rfl) ?_
  refine zr_i (va_runS (As := [.int v3]) (rest := []) ⟨hx, hb, hml, hown, hts⟩ (t_m_isPlayer l D ad ca h _) (va_cwS 1 hts (zg_S q_739 q_740 q_44 q_741) rfl rfl rfl hd_m_isPlayer ⟨Nat.le_trans (by decide) hfr, Nat.le_trans (by decide) hlc⟩) (z_preS zNs_ok hK hN hI _) rfl rfl hl.1 rfl (lv_room (Nat.le_of_ble_eq_true rfl)) d_m_shuffle_6 ⟨Nat.zero_le _, Nat.zero_le _⟩) hI ?_
  intro r3 u4 H locs h hI
  refine lv_if_eq hx hb d_m_shuffle_9 rfl (fun hc => ?_) (fun hc => ?_)
  · have h := h.1 hc
    exact k_m_shuffle_23 cx0  hI (lv_sub hl [] rfl) h
  · have h := h.2 hc
    refine lv_iload hx hb d_m_shuffle_12 (lv_at hl 3 rfl) ?_
    refine lv_if_lt hx hb d_m_shuffle_14 rfl (fun hc => ?_) (fun hc => ?_)
    · have h := h.1 hc
      exact k_m_shuffle_23 cx0  hI (lv_sub hl [] rfl) h
    · have h := h.2 hc
      refine lv_iload hx hb d_m_shuffle_17 (lv_at hl 3 rfl) ?_
      refine lv_iconst (v := 3) hx hb d_m_shuffle_19 zc_iconst_3 ?_
      refine lv_icmp_le hx hb d_m_shuffle_20 rfl (fun hc => ?_) (fun hc => ?_)
      · have h := h.1 hc
        refine lv_iconst (v := 0) hx hb d_m_shuffle_27 zc_iconst_0 ?_
        refine lv_istore hx hb d_m_shuffle_28 hl (by decide) rfl ?_
        intro ls hl
        have hl : lv_has ls 10 [(5, .int 0), (0, .ref (ad 0)), (1, .long v1), (3, .int v3), (4, .int v4)] := hl
        obtain ⟨n0, h⟩ := h
        exact k_m_shuffle_30 cx0  n0 _ _ _ _ _ _ _ _ hI (lv_sub hl [1, 2, 3, 4, 0] rfl) h
      · have h := h.2 hc
        exact k_m_shuffle_23 cx0  hI (lv_sub hl [] rfl) h
def b_m_number_22  (post : Int64 → ZS → Prop) (s0 : Int64) (u : ZS) : Prop := post s0 u
set_option maxRecDepth 100000 in
set_option maxHeartbeats 4000000 in
theorem k_m_number_22 {p : Program} {l : Launch} {e : Env} {R : Room} {s : State} {m : MethodId} {args : Array Value} {below : List Frame} {meth : Method} {c : Code} {D : va_G} {A : Nat → Prop} {ad : Nat → Nat} {ca : Nat → ClassId}  {post : Int64 → ZS → Prop} (cx : zx p R s m args meth c c_m_number 1 1 12 "ShortBridgeModel" (some .long) zG zNs D (mT ca)) {s0 : Int64} {u : ZS} {H : Heap} {locs : List Loc} {ls : Array Slot} (hI : zw D A s.heap (mW ad ca u) H locs) (hl : lv_has ls 1 []) (h : b_m_number_22 post s0 u) : W p l e R s m args below meth c H locs 0 0 (MQ below (va_Ql post (zE D (mT ca) (mW ad ca) A) A) args s 0 0 A) (F0 m 22 ls [.long s0]) := by
  have cx0 := cx
  obtain ⟨hx, hb, hml, hown, hts, hN, hK, hr, hlk, hfr, hlc⟩ := cx
  unfold b_m_number_22 at h
  exact zret_l hx hb hr hlk hK hI h d_m_number_22
def w_m_number  (u : ZS) (post : Int64 → ZS → Prop) : Prop := ((fI (sI u 0 0) 1) = 0 → b_m_number_22 post (-1) (sI u 0 0)) ∧ (¬ ((fI (sI u 0 0) 1) = 0) → b_m_number_22 post (fJ (sI u 0 0) 0) (sI u 0 0))
set_option maxRecDepth 100000 in
set_option maxHeartbeats 4000000 in
theorem t_m_number (l : Launch) (D : va_G) (ad : Nat → Nat) (ca : Nat → ClassId)  {u : ZS} {post : Int64 → ZS → Prop} (h : w_m_number  u post) : zJ l y_m_number (Cond.code y_m_number c_m_number 1 (some .long) :: zG) { frames := 1, cells := 0, slots := 0, locals := 12 } D (mT ca) zNs (mW ad ca) [.ref (ad 0)] u post := by
  refine zJ_of (cc := c_m_number) (maxL := 1) (ret := (some .long)) (by decide) (Nat.le_of_ble_eq_true rfl) ?_
  intro p e s m args below meth c ls A cx hI hl
  have cx0 := cx
  obtain ⟨hx, hb, hml, hown, hts, hN, hK, hr, hlk, hfr, hlc⟩ := cx
  have hl : lv_has ls 1 [(0, .ref (ad 0))] := hl
  unfold w_m_number at h
  refine lv_aload_n hx hb d_m_number_0 rfl (lv_at hl 0 rfl) ?_
  refine lv_iconst (v := 0) hx hb d_m_number_1 zc_iconst_0 ?_
  refine mp_M_code hx hb hts hown hK hI (hts _ q_654) d_m_number_2 ?_
  intro H locs hI
  refine lv_aload_n hx hb d_m_number_5 rfl (lv_at hl 0 rfl) ?_
  refine mg_M_board hx hb hts hown hK hI (hts _ q_655) d_m_number_6 ?_
  refine lv_if_eq hx hb d_m_number_9 rfl (fun hc => ?_) (fun hc => ?_)
  · have h := h.1 hc
    refine lv_ldc2 (v := -1) hx hb hown (hts _ q_767) d_m_number_19 ?_
    exact k_m_number_22 cx0  hI (lv_sub hl [] rfl) h
  · have h := h.2 hc
    refine lv_aload_n hx hb d_m_number_12 rfl (lv_at hl 0 rfl) ?_
    refine mg_M_dealNumber hx hb hts hown hK hI (hts _ q_656) d_m_number_13 ?_
    refine lv_goto hx hb d_m_number_16 rfl ?_
    exact k_m_number_22 cx0  hI (lv_sub hl [] rfl) h
def w_m_callerAt (v1 : Int32) (u : ZS) (post : Int32 → ZS → Prop) : Prop := post (((fI u 2) + v1) &&& 3) u
set_option maxRecDepth 100000 in
set_option maxHeartbeats 4000000 in
theorem t_m_callerAt (l : Launch) (D : va_G) (ad : Nat → Nat) (ca : Nat → ClassId) {v1 : Int32} {u : ZS} {post : Int32 → ZS → Prop} (h : w_m_callerAt v1 u post) : zI l y_m_callerAt (Cond.code y_m_callerAt c_m_callerAt 2 (some .int) :: zG) { frames := 1, cells := 0, slots := 0, locals := 12 } D (mT ca) zNs (mW ad ca) [.ref (ad 0), .int v1] u post := by
  refine zI_of (cc := c_m_callerAt) (maxL := 2) (ret := (some .int)) (by decide) (Nat.le_of_ble_eq_true rfl) ?_
  intro p e s m args below meth c ls A cx hI hl
  have cx0 := cx
  obtain ⟨hx, hb, hml, hown, hts, hN, hK, hr, hlk, hfr, hlc⟩ := cx
  have hl : lv_has ls 2 [(0, .ref (ad 0)), (1, .int v1)] := hl
  unfold w_m_callerAt at h
  refine lv_aload_n hx hb d_m_callerAt_0 rfl (lv_at hl 0 rfl) ?_
  refine mg_M_dealer hx hb hts hown hK hI (hts _ q_657) d_m_callerAt_1 ?_
  refine lv_iload_n hx hb d_m_callerAt_4 rfl (lv_at hl 1 rfl) ?_
  refine lv_iadd hx hb d_m_callerAt_5 ?_
  refine lv_iconst (v := 3) hx hb d_m_callerAt_6 zc_iconst_3 ?_
  refine lv_iand hx hb d_m_callerAt_7 ?_
  exact zret_i hx hb hr hlk hK hI h d_m_callerAt_8
def b_m_latestBefore_24  (post : Int32 → ZS → Prop) (v2 : Int32) (u : ZS) : Prop := post v2 u
set_option maxRecDepth 100000 in
set_option maxHeartbeats 4000000 in
theorem k_m_latestBefore_24 {p : Program} {l : Launch} {e : Env} {R : Room} {s : State} {m : MethodId} {args : Array Value} {below : List Frame} {meth : Method} {c : Code} {D : va_G} {A : Nat → Prop} {ad : Nat → Nat} {ca : Nat → ClassId}  {post : Int32 → ZS → Prop} (cx : zx p R s m args meth c c_m_latestBefore 3 1 12 "ShortBridgeModel" (some .int) zG zNs D (mT ca)) {v2 : Int32} {u : ZS} {H : Heap} {locs : List Loc} {ls : Array Slot} (hI : zw D A s.heap (mW ad ca u) H locs) (hl : lv_has ls 3 [(2, .int v2)]) (h : b_m_latestBefore_24 post v2 u) : W p l e R s m args below meth c H locs 0 0 (MQ below (va_Qi post (zE D (mT ca) (mW ad ca) A) A) args s 0 0 A) (F0 m 24 ls []) := by
  have cx0 := cx
  obtain ⟨hx, hb, hml, hown, hts, hN, hK, hr, hlk, hfr, hlc⟩ := cx
  unfold b_m_latestBefore_24 at h
  refine lv_iload_n hx hb d_m_latestBefore_24 rfl (lv_at hl 0 rfl) ?_
  exact zret_i hx hb hr hlk hK hI h d_m_latestBefore_25
def b_m_latestBefore_4  (post : Int32 → ZS → Prop) : Nat → Int32 → ZS → Prop
  | 0, _, _ => False
  | n + 1, v2, u => (v2 < 0 → b_m_latestBefore_24 post v2 u) ∧ (¬ (v2 < 0) → vp_in v2 240 ∧ ((¬ (aI u 1 (Int32.toNatClampNeg v2)) = 0 → b_m_latestBefore_24 post v2 u) ∧ ((aI u 1 (Int32.toNatClampNeg v2)) = 0 → b_m_latestBefore_4 post n (v2 - 1) u)))
set_option maxRecDepth 100000 in
set_option maxHeartbeats 4000000 in
theorem k_m_latestBefore_4 {p : Program} {l : Launch} {e : Env} {R : Room} {s : State} {m : MethodId} {args : Array Value} {below : List Frame} {meth : Method} {c : Code} {D : va_G} {A : Nat → Prop} {ad : Nat → Nat} {ca : Nat → ClassId}  {post : Int32 → ZS → Prop} (cx : zx p R s m args meth c c_m_latestBefore 3 1 12 "ShortBridgeModel" (some .int) zG zNs D (mT ca)) : ∀ (n : Nat) (v2 : Int32) (u : ZS) (H : Heap) (locs : List Loc) (ls : Array Slot), zw D A s.heap (mW ad ca u) H locs → lv_has ls 3 [(0, .ref (ad 0)), (2, .int v2)] → b_m_latestBefore_4 post n v2 u → W p l e R s m args below meth c H locs 0 0 (MQ below (va_Qi post (zE D (mT ca) (mW ad ca) A) A) args s 0 0 A) (F0 m 4 ls []) := by
  have cx0 := cx
  obtain ⟨hx, hb, hml, hown, hts, hN, hK, hr, hlk, hfr, hlc⟩ := cx
  intro n
  induction n with
  | zero => intro v2 u H locs ls hI hl h; exact (h : False).elim
  | succ n ih =>
    intro v2 u H locs ls hI hl h
    unfold b_m_latestBefore_4 at h
    refine lv_iload_n hx hb d_m_latestBefore_4 rfl (lv_at hl 1 rfl) ?_
    refine lv_if_lt hx hb d_m_latestBefore_5 rfl (fun hc => ?_) (fun hc => ?_)
    · have h := h.1 hc
      exact k_m_latestBefore_24 cx0  hI (lv_sub hl [1] rfl) h
    · have h := h.2 hc
      refine lv_aload_n hx hb d_m_latestBefore_8 rfl (lv_at hl 0 rfl) ?_
      refine mg_M_call hx hb hts hown hK hI (hts _ q_662) d_m_latestBefore_9 ?_
      refine lv_iload_n hx hb d_m_latestBefore_12 rfl (lv_at hl 1 rfl) ?_
      obtain ⟨hi, h⟩ := h
      refine ma_call hx hb hK hI hi d_m_latestBefore_13 ?_
      refine lv_if_ne hx hb d_m_latestBefore_14 rfl (fun hc => ?_) (fun hc => ?_)
      · have h := h.1 hc
        exact k_m_latestBefore_24 cx0  hI (lv_sub hl [1] rfl) h
      · have h := h.2 hc
        refine lv_iload_n hx hb d_m_latestBefore_17 rfl (lv_at hl 1 rfl) ?_
        refine lv_iconst (v := 1) hx hb d_m_latestBefore_18 zc_iconst_1 ?_
        refine lv_isub hx hb d_m_latestBefore_19 ?_
        refine lv_istore_n hx hb d_m_latestBefore_20 rfl hl (by decide) rfl ?_
        intro ls hl
        have hl : lv_has ls 3 [(2, .int (v2 - 1)), (0, .ref (ad 0))] := hl
        refine lv_goto hx hb d_m_latestBefore_21 rfl ?_
        exact ih _ _ _ _ _ hI (lv_sub hl [1, 0] rfl) h
def w_m_latestBefore (v1 : Int32) (u : ZS) (post : Int32 → ZS → Prop) : Prop := ∃ n0, b_m_latestBefore_4 post n0 (v1 - 1) u
set_option maxRecDepth 100000 in
set_option maxHeartbeats 4000000 in
theorem t_m_latestBefore (l : Launch) (D : va_G) (ad : Nat → Nat) (ca : Nat → ClassId) {v1 : Int32} {u : ZS} {post : Int32 → ZS → Prop} (h : w_m_latestBefore v1 u post) : zI l y_m_latestBefore (Cond.code y_m_latestBefore c_m_latestBefore 3 (some .int) :: zG) { frames := 1, cells := 0, slots := 0, locals := 12 } D (mT ca) zNs (mW ad ca) [.ref (ad 0), .int v1] u post := by
  refine zI_of (cc := c_m_latestBefore) (maxL := 3) (ret := (some .int)) (by decide) (Nat.le_of_ble_eq_true rfl) ?_
  intro p e s m args below meth c ls A cx hI hl
  have cx0 := cx
  obtain ⟨hx, hb, hml, hown, hts, hN, hK, hr, hlk, hfr, hlc⟩ := cx
  have hl : lv_has ls 3 [(0, .ref (ad 0)), (1, .int v1)] := hl
  unfold w_m_latestBefore at h
  refine lv_iload_n hx hb d_m_latestBefore_0 rfl (lv_at hl 1 rfl) ?_
  refine lv_iconst (v := 1) hx hb d_m_latestBefore_1 zc_iconst_1 ?_
  refine lv_isub hx hb d_m_latestBefore_2 ?_
  refine lv_istore_n hx hb d_m_latestBefore_3 rfl hl (by decide) rfl ?_
  intro ls hl
  have hl : lv_has ls 3 [(2, .int (v1 - 1)), (0, .ref (ad 0)), (1, .int v1)] := hl
  obtain ⟨n0, h⟩ := h
  exact k_m_latestBefore_4 cx0  n0 _ _ _ _ _ hI (lv_sub hl [1, 0] rfl) h
def b_m_firstOf_54 (r10 : Int32 → Int32 → Int32 → ZS → Prop) (post : Int32 → ZS → Prop) (v1 : Int32) (v2 : Int32) (v3 : Int32) (u : ZS) : Prop := r10 v1 v2 (v3 + 1) u
set_option maxRecDepth 100000 in
set_option maxHeartbeats 4000000 in
theorem k_m_firstOf_54 {p : Program} {l : Launch} {e : Env} {R : Room} {s : State} {m : MethodId} {args : Array Value} {below : List Frame} {meth : Method} {c : Code} {D : va_G} {A : Nat → Prop} {ad : Nat → Nat} {ca : Nat → ClassId} {r10 : Int32 → Int32 → Int32 → ZS → Prop} {post : Int32 → ZS → Prop} (cx : zx p R s m args meth c c_m_firstOf 4 2 33 "ShortBridgeModel" (some .int) zG zNs D (mT ca)) (hk10 : ∀ (v1 : Int32) (v2 : Int32) (v3 : Int32) (u : ZS) (H : Heap) (locs : List Loc) (ls : Array Slot), zw D A s.heap (mW ad ca u) H locs → lv_has ls 4 [(0, .ref (ad 0)), (1, .int v1), (2, .int v2), (3, .int v3)] → r10 v1 v2 v3 u → W p l e R s m args below meth c H locs 0 0 (MQ below (va_Qi post (zE D (mT ca) (mW ad ca) A) A) args s 0 0 A) (F0 m 10 ls [])) {v1 : Int32} {v2 : Int32} {v3 : Int32} {u : ZS} {H : Heap} {locs : List Loc} {ls : Array Slot} (hI : zw D A s.heap (mW ad ca u) H locs) (hl : lv_has ls 4 [(0, .ref (ad 0)), (1, .int v1), (2, .int v2), (3, .int v3)]) (h : b_m_firstOf_54 r10 post v1 v2 v3 u) : W p l e R s m args below meth c H locs 0 0 (MQ below (va_Qi post (zE D (mT ca) (mW ad ca) A) A) args s 0 0 A) (F0 m 54 ls []) := by
  have cx0 := cx
  obtain ⟨hx, hb, hml, hown, hts, hN, hK, hr, hlk, hfr, hlc⟩ := cx
  unfold b_m_firstOf_54 at h
  refine lv_iload_n hx hb d_m_firstOf_54 rfl (lv_at hl 3 rfl) ?_
  refine lv_iconst (v := 1) hx hb d_m_firstOf_55 zc_iconst_1 ?_
  refine lv_iadd hx hb d_m_firstOf_56 ?_
  refine lv_istore_n hx hb d_m_firstOf_57 rfl hl (by decide) rfl ?_
  intro ls hl
  have hl : lv_has ls 4 [(3, .int (v3 + 1)), (0, .ref (ad 0)), (1, .int v1), (2, .int v2)] := hl
  refine lv_goto hx hb d_m_firstOf_58 rfl ?_
  exact hk10 _ _ _ _ _ _ _ hI (lv_sub hl [1, 2, 3, 0] rfl) h
def b_m_firstOf_10  (post : Int32 → ZS → Prop) : Nat → Int32 → Int32 → Int32 → ZS → Prop
  | 0, _, _, _, _ => False
  | n + 1, v1, v2, v3, u => vp_in v3 240 ∧ (((aI u 1 (Int32.toNatClampNeg v3)) < 3 → b_m_firstOf_54 (b_m_firstOf_10 post n) post v1 v2 v3 u) ∧ (¬ ((aI u 1 (Int32.toNatClampNeg v3)) < 3) → w_m_callerAt v3 u (fun r1 u2 => (¬ (r1 &&& 1) = v2 → b_m_firstOf_54 (b_m_firstOf_10 post n) post v1 v2 v3 u2) ∧ ((r1 &&& 1) = v2 → vp_in v3 240 ∧ (vp_in v1 240 ∧ (((((aI u2 1 (Int32.toNatClampNeg v3)) - 3) - ((aI u2 1 (Int32.toNatClampNeg v3)) - 3) / 5 * 5) = (((aI u2 1 (Int32.toNatClampNeg v1)) - 3) - ((aI u2 1 (Int32.toNatClampNeg v1)) - 3) / 5 * 5) → w_m_callerAt v3 u2 (fun r3 u4 => post r3 u4)) ∧ (¬ ((((aI u2 1 (Int32.toNatClampNeg v3)) - 3) - ((aI u2 1 (Int32.toNatClampNeg v3)) - 3) / 5 * 5) = (((aI u2 1 (Int32.toNatClampNeg v1)) - 3) - ((aI u2 1 (Int32.toNatClampNeg v1)) - 3) / 5 * 5)) → b_m_firstOf_54 (b_m_firstOf_10 post n) post v1 v2 v3 u2)))))))
set_option maxRecDepth 100000 in
set_option maxHeartbeats 4000000 in
theorem k_m_firstOf_10 {p : Program} {l : Launch} {e : Env} {R : Room} {s : State} {m : MethodId} {args : Array Value} {below : List Frame} {meth : Method} {c : Code} {D : va_G} {A : Nat → Prop} {ad : Nat → Nat} {ca : Nat → ClassId}  {post : Int32 → ZS → Prop} (cx : zx p R s m args meth c c_m_firstOf 4 2 33 "ShortBridgeModel" (some .int) zG zNs D (mT ca)) : ∀ (n : Nat) (v1 : Int32) (v2 : Int32) (v3 : Int32) (u : ZS) (H : Heap) (locs : List Loc) (ls : Array Slot), zw D A s.heap (mW ad ca u) H locs → lv_has ls 4 [(0, .ref (ad 0)), (1, .int v1), (2, .int v2), (3, .int v3)] → b_m_firstOf_10 post n v1 v2 v3 u → W p l e R s m args below meth c H locs 0 0 (MQ below (va_Qi post (zE D (mT ca) (mW ad ca) A) A) args s 0 0 A) (F0 m 10 ls []) := by
  have cx0 := cx
  obtain ⟨hx, hb, hml, hown, hts, hN, hK, hr, hlk, hfr, hlc⟩ := cx
  intro n
  induction n with
  | zero => intro v1 v2 v3 u H locs ls hI hl h; exact (h : False).elim
  | succ n ih =>
    intro v1 v2 v3 u H locs ls hI hl h
    unfold b_m_firstOf_10 at h
    refine lv_aload_n hx hb d_m_firstOf_10 rfl (lv_at hl 0 rfl) ?_
    refine mg_M_call hx hb hts hown hK hI (hts _ q_662) d_m_firstOf_11 ?_
    refine lv_iload_n hx hb d_m_firstOf_14 rfl (lv_at hl 3 rfl) ?_
    obtain ⟨hi, h⟩ := h
    refine ma_call hx hb hK hI hi d_m_firstOf_15 ?_
    refine lv_iconst (v := 3) hx hb d_m_firstOf_16 zc_iconst_3 ?_
    refine lv_icmp_lt hx hb d_m_firstOf_17 rfl (fun hc => ?_) (fun hc => ?_)
    · have h := h.1 hc
      exact k_m_firstOf_54 cx0 ih hI (lv_sub hl [0, 1, 2, 3] rfl) h
    · have h := h.2 hc
      refine lv_aload_n hx hb d_m_firstOf_20 rfl (lv_at hl 0 rfl) ?_
      refine lv_iload_n hx hb d_m_firstOf_21 rfl (lv_at hl 3 rfl) ?_
      refine zr_i (va_runV (As := [.int v3]) (rest := []) ⟨hx, hb, hml, hown, hts⟩ (t_m_callerAt l D ad ca h _) (cwV 1 hts (zg_V q_790 q_792 q_22 q_44 q_793) rfl rfl rfl ⟨rfl, hd_m_callerAt⟩ ⟨Nat.le_trans (by decide) hfr, Nat.le_trans (by decide) hlc⟩) (z_preV zNs_ok hK hN hI 0 5 rfl rfl _) rfl rfl hl.1 rfl (lv_room (Nat.le_of_ble_eq_true rfl)) d_m_firstOf_22 ⟨Nat.zero_le _, Nat.zero_le _⟩) hI ?_
      intro r1 u2 H locs h hI
      refine lv_iconst (v := 1) hx hb d_m_firstOf_25 zc_iconst_1 ?_
      refine lv_iand hx hb d_m_firstOf_26 ?_
      refine lv_iload_n hx hb d_m_firstOf_27 rfl (lv_at hl 2 rfl) ?_
      refine lv_icmp_ne hx hb d_m_firstOf_28 rfl (fun hc => ?_) (fun hc => ?_)
      · have h := h.1 hc
        exact k_m_firstOf_54 cx0 ih hI (lv_sub hl [0, 1, 2, 3] rfl) h
      · have h := h.2 hc
        refine lv_aload_n hx hb d_m_firstOf_31 rfl (lv_at hl 0 rfl) ?_
        refine mg_M_call hx hb hts hown hK hI (hts _ q_662) d_m_firstOf_32 ?_
        refine lv_iload_n hx hb d_m_firstOf_35 rfl (lv_at hl 3 rfl) ?_
        obtain ⟨hi, h⟩ := h
        refine ma_call hx hb hK hI hi d_m_firstOf_36 ?_
        refine lv_iconst (v := 3) hx hb d_m_firstOf_37 zc_iconst_3 ?_
        refine lv_isub hx hb d_m_firstOf_38 ?_
        refine lv_iconst (v := 5) hx hb d_m_firstOf_39 zc_iconst_5 ?_
        refine lv_irem hx hb d_m_firstOf_40 (by decide) ?_
        refine lv_aload_n hx hb d_m_firstOf_41 rfl (lv_at hl 0 rfl) ?_
        refine mg_M_call hx hb hts hown hK hI (hts _ q_662) d_m_firstOf_42 ?_
        refine lv_iload_n hx hb d_m_firstOf_45 rfl (lv_at hl 1 rfl) ?_
        obtain ⟨hi, h⟩ := h
        refine ma_call hx hb hK hI hi d_m_firstOf_46 ?_
        refine lv_iconst (v := 3) hx hb d_m_firstOf_47 zc_iconst_3 ?_
        refine lv_isub hx hb d_m_firstOf_48 ?_
        refine lv_iconst (v := 5) hx hb d_m_firstOf_49 zc_iconst_5 ?_
        refine lv_irem hx hb d_m_firstOf_50 (by decide) ?_
        refine lv_icmp_eq hx hb d_m_firstOf_51 rfl (fun hc => ?_) (fun hc => ?_)
        · have h := h.1 hc
          refine lv_aload_n hx hb d_m_firstOf_61 rfl (lv_at hl 0 rfl) ?_
          refine lv_iload_n hx hb d_m_firstOf_62 rfl (lv_at hl 3 rfl) ?_
          refine zr_i (va_runV (As := [.int v3]) (rest := []) ⟨hx, hb, hml, hown, hts⟩ (t_m_callerAt l D ad ca h _) (cwV 1 hts (zg_V q_790 q_792 q_22 q_44 q_793) rfl rfl rfl ⟨rfl, hd_m_callerAt⟩ ⟨Nat.le_trans (by decide) hfr, Nat.le_trans (by decide) hlc⟩) (z_preV zNs_ok hK hN hI 0 5 rfl rfl _) rfl rfl hl.1 rfl (lv_room (Nat.le_of_ble_eq_true rfl)) d_m_firstOf_63 ⟨Nat.zero_le _, Nat.zero_le _⟩) hI ?_
          intro r3 u4 H locs h hI
          exact zret_i hx hb hr hlk hK hI h d_m_firstOf_66
        · have h := h.2 hc
          exact k_m_firstOf_54 cx0 ih hI (lv_sub hl [0, 1, 2, 3] rfl) h
def w_m_firstOf (v1 : Int32) (u : ZS) (post : Int32 → ZS → Prop) : Prop := w_m_callerAt v1 u (fun r5 u6 => ∃ n0, b_m_firstOf_10 post n0 v1 (r5 &&& 1) 0 u6)
set_option maxRecDepth 100000 in
set_option maxHeartbeats 4000000 in
theorem t_m_firstOf (l : Launch) (D : va_G) (ad : Nat → Nat) (ca : Nat → ClassId) {v1 : Int32} {u : ZS} {post : Int32 → ZS → Prop} (h : w_m_firstOf v1 u post) : zI l y_m_firstOf (Cond.code y_m_firstOf c_m_firstOf 4 (some .int) :: zG) { frames := 2, cells := 0, slots := 0, locals := 33 } D (mT ca) zNs (mW ad ca) [.ref (ad 0), .int v1] u post := by
  refine zI_of (cc := c_m_firstOf) (maxL := 4) (ret := (some .int)) (by decide) (Nat.le_of_ble_eq_true rfl) ?_
  intro p e s m args below meth c ls A cx hI hl
  have cx0 := cx
  obtain ⟨hx, hb, hml, hown, hts, hN, hK, hr, hlk, hfr, hlc⟩ := cx
  have hl : lv_has ls 4 [(0, .ref (ad 0)), (1, .int v1)] := hl
  unfold w_m_firstOf at h
  refine lv_aload_n hx hb d_m_firstOf_0 rfl (lv_at hl 0 rfl) ?_
  refine lv_iload_n hx hb d_m_firstOf_1 rfl (lv_at hl 1 rfl) ?_
  refine zr_i (va_runV (As := [.int v1]) (rest := []) ⟨hx, hb, hml, hown, hts⟩ (t_m_callerAt l D ad ca h _) (cwV 1 hts (zg_V q_790 q_792 q_22 q_44 q_793) rfl rfl rfl ⟨rfl, hd_m_callerAt⟩ ⟨Nat.le_trans (by decide) hfr, Nat.le_trans (by decide) hlc⟩) (z_preV zNs_ok hK hN hI 0 5 rfl rfl _) rfl rfl hl.1 rfl (lv_room (Nat.le_of_ble_eq_true rfl)) d_m_firstOf_2 ⟨Nat.zero_le _, Nat.zero_le _⟩) hI ?_
  intro r5 u6 H locs h hI
  refine lv_iconst (v := 1) hx hb d_m_firstOf_5 zc_iconst_1 ?_
  refine lv_iand hx hb d_m_firstOf_6 ?_
  refine lv_istore_n hx hb d_m_firstOf_7 rfl hl (by decide) rfl ?_
  intro ls hl
  have hl : lv_has ls 4 [(2, .int (r5 &&& 1)), (0, .ref (ad 0)), (1, .int v1)] := hl
  refine lv_iconst (v := 0) hx hb d_m_firstOf_8 zc_iconst_0 ?_
  refine lv_istore_n hx hb d_m_firstOf_9 rfl hl (by decide) rfl ?_
  intro ls hl
  have hl : lv_has ls 4 [(3, .int 0), (2, .int (r5 &&& 1)), (0, .ref (ad 0)), (1, .int v1)] := hl
  obtain ⟨n0, h⟩ := h
  exact k_m_firstOf_10 cx0  n0 _ _ _ _ _ _ _ hI (lv_sub hl [2, 3, 1, 0] rfl) h
def b_m_readCalls_127  (post : ZS → Prop) (s0 : Int32) (u : ZS) : Prop := (s0 = 0 ∨ s0 = 1) ∧ (post (sI u 9 s0))
set_option maxRecDepth 100000 in
set_option maxHeartbeats 4000000 in
theorem k_m_readCalls_127 {p : Program} {l : Launch} {e : Env} {R : Room} {s : State} {m : MethodId} {args : Array Value} {below : List Frame} {meth : Method} {c : Code} {D : va_G} {A : Nat → Prop} {ad : Nat → Nat} {ca : Nat → ClassId}  {post : ZS → Prop} (cx : zx p R s m args meth c c_m_readCalls 2 3 56 "ShortBridgeModel" none zG zNs D (mT ca)) {s0 : Int32} {u : ZS} {H : Heap} {locs : List Loc} {ls : Array Slot} (hI : zw D A s.heap (mW ad ca u) H locs) (hl : lv_has ls 2 []) (h : b_m_readCalls_127 post s0 u) : W p l e R s m args below meth c H locs 0 0 (MQ below (va_Qv post (zE D (mT ca) (mW ad ca) A) A) args s 0 0 A) (F0 m 127 ls [.int s0, .ref (ad 0)]) := by
  have cx0 := cx
  obtain ⟨hx, hb, hml, hown, hts, hN, hK, hr, hlk, hfr, hlc⟩ := cx
  unfold b_m_readCalls_127 at h
  obtain ⟨hz, h⟩ := h
  refine mp_M_ended hx hb hts hown hK hI (hts _ q_668) hz d_m_readCalls_127 ?_
  intro H locs hI
  exact zret_v hx hb hr hlk hK hI h d_m_readCalls_130
def b_m_readCalls_76 (r12 : Int32 → ZS → Prop) (post : ZS → Prop) (v1 : Int32) (u : ZS) : Prop := r12 (v1 + 1) u
set_option maxRecDepth 100000 in
set_option maxHeartbeats 4000000 in
theorem k_m_readCalls_76 {p : Program} {l : Launch} {e : Env} {R : Room} {s : State} {m : MethodId} {args : Array Value} {below : List Frame} {meth : Method} {c : Code} {D : va_G} {A : Nat → Prop} {ad : Nat → Nat} {ca : Nat → ClassId} {r12 : Int32 → ZS → Prop} {post : ZS → Prop} (cx : zx p R s m args meth c c_m_readCalls 2 3 56 "ShortBridgeModel" none zG zNs D (mT ca)) (hk12 : ∀ (v1 : Int32) (u : ZS) (H : Heap) (locs : List Loc) (ls : Array Slot), zw D A s.heap (mW ad ca u) H locs → lv_has ls 2 [(0, .ref (ad 0)), (1, .int v1)] → r12 v1 u → W p l e R s m args below meth c H locs 0 0 (MQ below (va_Qv post (zE D (mT ca) (mW ad ca) A) A) args s 0 0 A) (F0 m 12 ls [])) {v1 : Int32} {u : ZS} {H : Heap} {locs : List Loc} {ls : Array Slot} (hI : zw D A s.heap (mW ad ca u) H locs) (hl : lv_has ls 2 [(0, .ref (ad 0)), (1, .int v1)]) (h : b_m_readCalls_76 r12 post v1 u) : W p l e R s m args below meth c H locs 0 0 (MQ below (va_Qv post (zE D (mT ca) (mW ad ca) A) A) args s 0 0 A) (F0 m 76 ls []) := by
  have cx0 := cx
  obtain ⟨hx, hb, hml, hown, hts, hN, hK, hr, hlk, hfr, hlc⟩ := cx
  unfold b_m_readCalls_76 at h
  refine lv_iinc (k := 1) (v := (v1 + 1)) hx hb d_m_readCalls_76 hl rfl (zi_1 _) (by decide) rfl ?_
  intro ls hl
  have hl : lv_has ls 2 [(1, .int (v1 + 1)), (0, .ref (ad 0))] := hl
  refine lv_goto hx hb d_m_readCalls_79 rfl ?_
  exact hk12 _ _ _ _ _ hI (lv_sub hl [1, 0] rfl) h
def b_m_readCalls_12  (post : ZS → Prop) : Nat → Int32 → ZS → Prop
  | 0, _, _ => False
  | n + 1, v1, u => ((fI u 4) ≤ v1 → w_m_latestBefore (fI u 4) u (fun r1 u2 => (0 ≤ r1 → (¬ ((fI u2 4) - r1) = 4 → b_m_readCalls_127 post 0 u2) ∧ (((fI u2 4) - r1) = 4 → b_m_readCalls_127 post 1 u2)) ∧ (¬ (0 ≤ r1) → (¬ (fI u2 4) = 4 → b_m_readCalls_127 post 0 u2) ∧ ((fI u2 4) = 4 → b_m_readCalls_127 post 1 u2)))) ∧ (¬ ((fI u 4) ≤ v1) → vp_in v1 240 ∧ (((aI u 1 (Int32.toNatClampNeg v1)) ≤ 2 → vp_in v1 240 ∧ (((aI u 1 (Int32.toNatClampNeg v1)) ≤ 0 → b_m_readCalls_76 (b_m_readCalls_12 post n) post v1 u) ∧ (¬ ((aI u 1 (Int32.toNatClampNeg v1)) ≤ 0) → vp_in v1 240 ∧ (b_m_readCalls_76 (b_m_readCalls_12 post n) post v1 (sI u 7 (aI u 1 (Int32.toNatClampNeg v1))))))) ∧ (¬ ((aI u 1 (Int32.toNatClampNeg v1)) ≤ 2) → vp_in v1 240 ∧ (w_m_firstOf v1 (sI (sI u 6 (aI u 1 (Int32.toNatClampNeg v1))) 7 0) (fun r3 u4 => b_m_readCalls_76 (b_m_readCalls_12 post n) post v1 (sI u4 8 r3))))))
set_option maxRecDepth 100000 in
set_option maxHeartbeats 4000000 in
theorem k_m_readCalls_12 {p : Program} {l : Launch} {e : Env} {R : Room} {s : State} {m : MethodId} {args : Array Value} {below : List Frame} {meth : Method} {c : Code} {D : va_G} {A : Nat → Prop} {ad : Nat → Nat} {ca : Nat → ClassId}  {post : ZS → Prop} (cx : zx p R s m args meth c c_m_readCalls 2 3 56 "ShortBridgeModel" none zG zNs D (mT ca)) : ∀ (n : Nat) (v1 : Int32) (u : ZS) (H : Heap) (locs : List Loc) (ls : Array Slot), zw D A s.heap (mW ad ca u) H locs → lv_has ls 2 [(0, .ref (ad 0)), (1, .int v1)] → b_m_readCalls_12 post n v1 u → W p l e R s m args below meth c H locs 0 0 (MQ below (va_Qv post (zE D (mT ca) (mW ad ca) A) A) args s 0 0 A) (F0 m 12 ls []) := by
  have cx0 := cx
  obtain ⟨hx, hb, hml, hown, hts, hN, hK, hr, hlk, hfr, hlc⟩ := cx
  intro n
  induction n with
  | zero => intro v1 u H locs ls hI hl h; exact (h : False).elim
  | succ n ih =>
    intro v1 u H locs ls hI hl h
    unfold b_m_readCalls_12 at h
    refine lv_iload_n hx hb d_m_readCalls_12 rfl (lv_at hl 1 rfl) ?_
    refine lv_aload_n hx hb d_m_readCalls_13 rfl (lv_at hl 0 rfl) ?_
    refine mg_M_calls hx hb hts hown hK hI (hts _ q_661) d_m_readCalls_14 ?_
    refine lv_icmp_ge hx hb d_m_readCalls_17 rfl (fun hc => ?_) (fun hc => ?_)
    · have h := h.1 hc
      refine lv_aload_n hx hb d_m_readCalls_82 rfl (lv_at hl 0 rfl) ?_
      refine lv_aload_n hx hb d_m_readCalls_83 rfl (lv_at hl 0 rfl) ?_
      refine mg_M_calls hx hb hts hown hK hI (hts _ q_661) d_m_readCalls_84 ?_
      refine zr_i (va_runV (As := [.int (fI u 4)]) (rest := []) ⟨hx, hb, hml, hown, hts⟩ (t_m_latestBefore l D ad ca h _) (cwV 1 hts (zg_V q_794 q_796 q_23 q_44 q_797) rfl rfl rfl ⟨rfl, hd_m_latestBefore⟩ ⟨Nat.le_trans (by decide) hfr, Nat.le_trans (by decide) hlc⟩) (z_preV zNs_ok hK hN hI 0 5 rfl rfl _) rfl rfl hl.1 rfl (lv_room (Nat.le_of_ble_eq_true rfl)) d_m_readCalls_87 ⟨Nat.zero_le _, Nat.zero_le _⟩) hI ?_
      intro r1 u2 H locs h hI
      refine lv_istore_n hx hb d_m_readCalls_90 rfl hl (by decide) rfl ?_
      intro ls hl
      have hl : lv_has ls 2 [(1, .int r1), (0, .ref (ad 0))] := hl
      refine lv_aload_n hx hb d_m_readCalls_91 rfl (lv_at hl 1 rfl) ?_
      refine lv_iload_n hx hb d_m_readCalls_92 rfl (lv_at hl 0 rfl) ?_
      refine lv_if_ge hx hb d_m_readCalls_93 rfl (fun hc => ?_) (fun hc => ?_)
      · have h := h.1 hc
        refine lv_aload_n hx hb d_m_readCalls_112 rfl (lv_at hl 1 rfl) ?_
        refine mg_M_calls hx hb hts hown hK hI (hts _ q_661) d_m_readCalls_113 ?_
        refine lv_iload_n hx hb d_m_readCalls_116 rfl (lv_at hl 0 rfl) ?_
        refine lv_isub hx hb d_m_readCalls_117 ?_
        refine lv_iconst (v := 4) hx hb d_m_readCalls_118 zc_iconst_4 ?_
        refine lv_icmp_ne hx hb d_m_readCalls_119 rfl (fun hc => ?_) (fun hc => ?_)
        · have h := h.1 hc
          refine lv_iconst (v := 0) hx hb d_m_readCalls_126 zc_iconst_0 ?_
          exact k_m_readCalls_127 cx0  hI (lv_sub hl [] rfl) h
        · have h := h.2 hc
          refine lv_iconst (v := 1) hx hb d_m_readCalls_122 zc_iconst_1 ?_
          refine lv_goto hx hb d_m_readCalls_123 rfl ?_
          exact k_m_readCalls_127 cx0  hI (lv_sub hl [] rfl) h
      · have h := h.2 hc
        refine lv_aload_n hx hb d_m_readCalls_96 rfl (lv_at hl 1 rfl) ?_
        refine mg_M_calls hx hb hts hown hK hI (hts _ q_661) d_m_readCalls_97 ?_
        refine lv_iconst (v := 4) hx hb d_m_readCalls_100 zc_iconst_4 ?_
        refine lv_icmp_ne hx hb d_m_readCalls_101 rfl (fun hc => ?_) (fun hc => ?_)
        · have h := h.1 hc
          refine lv_iconst (v := 0) hx hb d_m_readCalls_108 zc_iconst_0 ?_
          refine lv_goto hx hb d_m_readCalls_109 rfl ?_
          exact k_m_readCalls_127 cx0  hI (lv_sub hl [] rfl) h
        · have h := h.2 hc
          refine lv_iconst (v := 1) hx hb d_m_readCalls_104 zc_iconst_1 ?_
          refine lv_goto hx hb d_m_readCalls_105 rfl ?_
          exact k_m_readCalls_127 cx0  hI (lv_sub hl [] rfl) h
    · have h := h.2 hc
      refine lv_aload_n hx hb d_m_readCalls_20 rfl (lv_at hl 0 rfl) ?_
      refine mg_M_call hx hb hts hown hK hI (hts _ q_662) d_m_readCalls_21 ?_
      refine lv_iload_n hx hb d_m_readCalls_24 rfl (lv_at hl 1 rfl) ?_
      obtain ⟨hi, h⟩ := h
      refine ma_call hx hb hK hI hi d_m_readCalls_25 ?_
      refine lv_iconst (v := 2) hx hb d_m_readCalls_26 zc_iconst_2 ?_
      refine lv_icmp_le hx hb d_m_readCalls_27 rfl (fun hc => ?_) (fun hc => ?_)
      · have h := h.1 hc
        refine lv_aload_n hx hb d_m_readCalls_57 rfl (lv_at hl 0 rfl) ?_
        refine mg_M_call hx hb hts hown hK hI (hts _ q_662) d_m_readCalls_58 ?_
        refine lv_iload_n hx hb d_m_readCalls_61 rfl (lv_at hl 1 rfl) ?_
        obtain ⟨hi, h⟩ := h
        refine ma_call hx hb hK hI hi d_m_readCalls_62 ?_
        refine lv_if_le hx hb d_m_readCalls_63 rfl (fun hc => ?_) (fun hc => ?_)
        · have h := h.1 hc
          exact k_m_readCalls_76 cx0 ih hI (lv_sub hl [0, 1] rfl) h
        · have h := h.2 hc
          refine lv_aload_n hx hb d_m_readCalls_66 rfl (lv_at hl 0 rfl) ?_
          refine lv_aload_n hx hb d_m_readCalls_67 rfl (lv_at hl 0 rfl) ?_
          refine mg_M_call hx hb hts hown hK hI (hts _ q_662) d_m_readCalls_68 ?_
          refine lv_iload_n hx hb d_m_readCalls_71 rfl (lv_at hl 1 rfl) ?_
          obtain ⟨hi, h⟩ := h
          refine ma_call hx hb hK hI hi d_m_readCalls_72 ?_
          refine mp_M_doubled hx hb hts hown hK hI (hts _ q_666) d_m_readCalls_73 ?_
          intro H locs hI
          exact k_m_readCalls_76 cx0 ih hI (lv_sub hl [0, 1] rfl) h
      · have h := h.2 hc
        refine lv_aload_n hx hb d_m_readCalls_30 rfl (lv_at hl 0 rfl) ?_
        refine lv_aload_n hx hb d_m_readCalls_31 rfl (lv_at hl 0 rfl) ?_
        refine mg_M_call hx hb hts hown hK hI (hts _ q_662) d_m_readCalls_32 ?_
        refine lv_iload_n hx hb d_m_readCalls_35 rfl (lv_at hl 1 rfl) ?_
        obtain ⟨hi, h⟩ := h
        refine ma_call hx hb hK hI hi d_m_readCalls_36 ?_
        refine mp_M_bid hx hb hts hown hK hI (hts _ q_665) d_m_readCalls_37 ?_
        intro H locs hI
        refine lv_aload_n hx hb d_m_readCalls_40 rfl (lv_at hl 0 rfl) ?_
        refine lv_iconst (v := 0) hx hb d_m_readCalls_41 zc_iconst_0 ?_
        refine mp_M_doubled hx hb hts hown hK hI (hts _ q_666) d_m_readCalls_42 ?_
        intro H locs hI
        refine lv_aload_n hx hb d_m_readCalls_45 rfl (lv_at hl 0 rfl) ?_
        refine lv_aload_n hx hb d_m_readCalls_46 rfl (lv_at hl 0 rfl) ?_
        refine lv_iload_n hx hb d_m_readCalls_47 rfl (lv_at hl 1 rfl) ?_
        refine zr_i (va_runV (As := [.int v1]) (rest := [.ref (ad 0)]) ⟨hx, hb, hml, hown, hts⟩ (t_m_firstOf l D ad ca h _) (cwV 1 hts (zg_V q_786 q_788 q_21 q_44 q_789) rfl rfl rfl ⟨rfl, hd_m_firstOf⟩ ⟨Nat.le_trans (by decide) hfr, Nat.le_trans (by decide) hlc⟩) (z_preV zNs_ok hK hN hI 0 5 rfl rfl _) rfl rfl hl.1 rfl (lv_room (Nat.le_of_ble_eq_true rfl)) d_m_readCalls_48 ⟨Nat.zero_le _, Nat.zero_le _⟩) hI ?_
        intro r3 u4 H locs h hI
        refine mp_M_declarer hx hb hts hown hK hI (hts _ q_667) d_m_readCalls_51 ?_
        intro H locs hI
        refine lv_goto hx hb d_m_readCalls_54 rfl ?_
        exact k_m_readCalls_76 cx0 ih hI (lv_sub hl [0, 1] rfl) h
def w_m_readCalls  (u : ZS) (post : ZS → Prop) : Prop := ∃ n0, b_m_readCalls_12 post n0 0 (sI (sI u 6 0) 7 0)
set_option maxRecDepth 100000 in
set_option maxHeartbeats 4000000 in
theorem t_m_readCalls (l : Launch) (D : va_G) (ad : Nat → Nat) (ca : Nat → ClassId)  {u : ZS} {post : ZS → Prop} (h : w_m_readCalls  u post) : zV l y_m_readCalls (Cond.code y_m_readCalls c_m_readCalls 2 none :: zG) { frames := 3, cells := 0, slots := 0, locals := 56 } D (mT ca) zNs (mW ad ca) [.ref (ad 0)] u post := by
  refine zV_of (cc := c_m_readCalls) (maxL := 2) (by decide) (Nat.le_of_ble_eq_true rfl) ?_
  intro p e s m args below meth c ls A cx hI hl
  have cx0 := cx
  obtain ⟨hx, hb, hml, hown, hts, hN, hK, hr, hlk, hfr, hlc⟩ := cx
  have hl : lv_has ls 2 [(0, .ref (ad 0))] := hl
  unfold w_m_readCalls at h
  refine lv_aload_n hx hb d_m_readCalls_0 rfl (lv_at hl 0 rfl) ?_
  refine lv_iconst (v := 0) hx hb d_m_readCalls_1 zc_iconst_0 ?_
  refine mp_M_bid hx hb hts hown hK hI (hts _ q_665) d_m_readCalls_2 ?_
  intro H locs hI
  refine lv_aload_n hx hb d_m_readCalls_5 rfl (lv_at hl 0 rfl) ?_
  refine lv_iconst (v := 0) hx hb d_m_readCalls_6 zc_iconst_0 ?_
  refine mp_M_doubled hx hb hts hown hK hI (hts _ q_666) d_m_readCalls_7 ?_
  intro H locs hI
  refine lv_iconst (v := 0) hx hb d_m_readCalls_10 zc_iconst_0 ?_
  refine lv_istore_n hx hb d_m_readCalls_11 rfl hl (by decide) rfl ?_
  intro ls hl
  have hl : lv_has ls 2 [(1, .int 0), (0, .ref (ad 0))] := hl
  obtain ⟨n0, h⟩ := h
  exact k_m_readCalls_12 cx0  n0 _ _ _ _ _ hI (lv_sub hl [1, 0] rfl) h
def b_m_phaseNow_43  (post : Int32 → ZS → Prop) (s0 : Int32) (u : ZS) : Prop := post s0 u
set_option maxRecDepth 100000 in
set_option maxHeartbeats 4000000 in
theorem k_m_phaseNow_43 {p : Program} {l : Launch} {e : Env} {R : Room} {s : State} {m : MethodId} {args : Array Value} {below : List Frame} {meth : Method} {c : Code} {D : va_G} {A : Nat → Prop} {ad : Nat → Nat} {ca : Nat → ClassId}  {post : Int32 → ZS → Prop} (cx : zx p R s m args meth c c_m_phaseNow 1 4 77 "ShortBridgeModel" (some .int) zG zNs D (mT ca)) {s0 : Int32} {u : ZS} {H : Heap} {locs : List Loc} {ls : Array Slot} (hI : zw D A s.heap (mW ad ca u) H locs) (hl : lv_has ls 1 []) (h : b_m_phaseNow_43 post s0 u) : W p l e R s m args below meth c H locs 0 0 (MQ below (va_Qi post (zE D (mT ca) (mW ad ca) A) A) args s 0 0 A) (F0 m 43 ls [.int s0]) := by
  have cx0 := cx
  obtain ⟨hx, hb, hml, hown, hts, hN, hK, hr, hlk, hfr, hlc⟩ := cx
  unfold b_m_phaseNow_43 at h
  exact zret_i hx hb hr hlk hK hI h d_m_phaseNow_43
def b_m_phaseNow_42  (post : Int32 → ZS → Prop)  (u : ZS) : Prop := b_m_phaseNow_43 post 3 u
set_option maxRecDepth 100000 in
set_option maxHeartbeats 4000000 in
theorem k_m_phaseNow_42 {p : Program} {l : Launch} {e : Env} {R : Room} {s : State} {m : MethodId} {args : Array Value} {below : List Frame} {meth : Method} {c : Code} {D : va_G} {A : Nat → Prop} {ad : Nat → Nat} {ca : Nat → ClassId}  {post : Int32 → ZS → Prop} (cx : zx p R s m args meth c c_m_phaseNow 1 4 77 "ShortBridgeModel" (some .int) zG zNs D (mT ca)) {u : ZS} {H : Heap} {locs : List Loc} {ls : Array Slot} (hI : zw D A s.heap (mW ad ca u) H locs) (hl : lv_has ls 1 []) (h : b_m_phaseNow_42 post  u) : W p l e R s m args below meth c H locs 0 0 (MQ below (va_Qi post (zE D (mT ca) (mW ad ca) A) A) args s 0 0 A) (F0 m 42 ls []) := by
  have cx0 := cx
  obtain ⟨hx, hb, hml, hown, hts, hN, hK, hr, hlk, hfr, hlc⟩ := cx
  unfold b_m_phaseNow_42 at h
  refine lv_iconst (v := 3) hx hb d_m_phaseNow_42 zc_iconst_3 ?_
  exact k_m_phaseNow_43 cx0  hI (lv_sub hl [] rfl) h
def w_m_phaseNow  (u : ZS) (post : Int32 → ZS → Prop) : Prop := (¬ (fI u 1) = 0 → w_m_readCalls  u (fun u2 => (¬ (fI u2 9) = 0 → ((fI u2 6) ≤ 0 → b_m_phaseNow_42 post u2) ∧ (¬ ((fI u2 6) ≤ 0) → (20 ≤ (fI u2 5) → b_m_phaseNow_42 post u2) ∧ (¬ (20 ≤ (fI u2 5)) → b_m_phaseNow_43 post 2 u2))) ∧ ((fI u2 9) = 0 → post 1 u2))) ∧ ((fI u 1) = 0 → post 0 u)
set_option maxRecDepth 100000 in
set_option maxHeartbeats 4000000 in
theorem t_m_phaseNow (l : Launch) (D : va_G) (ad : Nat → Nat) (ca : Nat → ClassId)  {u : ZS} {post : Int32 → ZS → Prop} (h : w_m_phaseNow  u post) : zI l y_m_phaseNow (Cond.code y_m_phaseNow c_m_phaseNow 1 (some .int) :: zG) { frames := 4, cells := 0, slots := 0, locals := 77 } D (mT ca) zNs (mW ad ca) [.ref (ad 0)] u post := by
  refine zI_of (cc := c_m_phaseNow) (maxL := 1) (ret := (some .int)) (by decide) (Nat.le_of_ble_eq_true rfl) ?_
  intro p e s m args below meth c ls A cx hI hl
  have cx0 := cx
  obtain ⟨hx, hb, hml, hown, hts, hN, hK, hr, hlk, hfr, hlc⟩ := cx
  have hl : lv_has ls 1 [(0, .ref (ad 0))] := hl
  unfold w_m_phaseNow at h
  refine lv_aload_n hx hb d_m_phaseNow_0 rfl (lv_at hl 0 rfl) ?_
  refine mg_M_board hx hb hts hown hK hI (hts _ q_655) d_m_phaseNow_1 ?_
  refine lv_if_ne hx hb d_m_phaseNow_4 rfl (fun hc => ?_) (fun hc => ?_)
  · have h := h.1 hc
    refine lv_aload_n hx hb d_m_phaseNow_9 rfl (lv_at hl 0 rfl) ?_
    refine zr_v (va_runV (As := []) (rest := []) ⟨hx, hb, hml, hown, hts⟩ (t_m_readCalls l D ad ca h _) (cwV 0 hts (zg_V q_782 q_784 q_20 q_44 q_785) rfl rfl rfl ⟨rfl, hd_m_readCalls⟩ ⟨Nat.le_trans (by decide) hfr, Nat.le_trans (by decide) hlc⟩) (z_preV zNs_ok hK hN hI 0 5 rfl rfl _) rfl rfl hl.1 rfl (lv_room (Nat.le_of_ble_eq_true rfl)) d_m_phaseNow_10 ⟨Nat.zero_le _, Nat.zero_le _⟩) hI ?_
    intro u2 H locs h hI
    refine lv_aload_n hx hb d_m_phaseNow_13 rfl (lv_at hl 0 rfl) ?_
    refine mg_M_ended hx hb hts hown hK hI (hts _ q_668) d_m_phaseNow_14 ?_
    refine lv_if_ne hx hb d_m_phaseNow_17 rfl (fun hc => ?_) (fun hc => ?_)
    · have h := h.1 hc
      refine lv_aload_n hx hb d_m_phaseNow_22 rfl (lv_at hl 0 rfl) ?_
      refine mg_M_bid hx hb hts hown hK hI (hts _ q_665) d_m_phaseNow_23 ?_
      refine lv_if_le hx hb d_m_phaseNow_26 rfl (fun hc => ?_) (fun hc => ?_)
      · have h := h.1 hc
        exact k_m_phaseNow_42 cx0  hI (lv_sub hl [] rfl) h
      · have h := h.2 hc
        refine lv_aload_n hx hb d_m_phaseNow_29 rfl (lv_at hl 0 rfl) ?_
        refine mg_M_cards hx hb hts hown hK hI (hts _ q_663) d_m_phaseNow_30 ?_
        refine lv_bipush (v := 20) hx hb d_m_phaseNow_33 zc_bipush_20 ?_
        refine lv_icmp_ge hx hb d_m_phaseNow_35 rfl (fun hc => ?_) (fun hc => ?_)
        · have h := h.1 hc
          exact k_m_phaseNow_42 cx0  hI (lv_sub hl [] rfl) h
        · have h := h.2 hc
          refine lv_iconst (v := 2) hx hb d_m_phaseNow_38 zc_iconst_2 ?_
          refine lv_goto hx hb d_m_phaseNow_39 rfl ?_
          exact k_m_phaseNow_43 cx0  hI (lv_sub hl [] rfl) h
    · have h := h.2 hc
      refine lv_iconst (v := 1) hx hb d_m_phaseNow_20 zc_iconst_1 ?_
      exact zret_i hx hb hr hlk hK hI h d_m_phaseNow_21
  · have h := h.2 hc
    refine lv_iconst (v := 0) hx hb d_m_phaseNow_7 zc_iconst_0 ?_
    exact zret_i hx hb hr hlk hK hI h d_m_phaseNow_8
def w_m_phase  (u : ZS) (post : Int32 → ZS → Prop) : Prop := w_m_phaseNow  (sI u 0 0) (fun r1 u2 => post r1 u2)
set_option maxRecDepth 100000 in
set_option maxHeartbeats 4000000 in
theorem t_m_phase (l : Launch) (D : va_G) (ad : Nat → Nat) (ca : Nat → ClassId)  {u : ZS} {post : Int32 → ZS → Prop} (h : w_m_phase  u post) : zI l y_m_phase (Cond.code y_m_phase c_m_phase 1 (some .int) :: zG) { frames := 5, cells := 0, slots := 0, locals := 97 } D (mT ca) zNs (mW ad ca) [.ref (ad 0)] u post := by
  refine zI_of (cc := c_m_phase) (maxL := 1) (ret := (some .int)) (by decide) (Nat.le_of_ble_eq_true rfl) ?_
  intro p e s m args below meth c ls A cx hI hl
  have cx0 := cx
  obtain ⟨hx, hb, hml, hown, hts, hN, hK, hr, hlk, hfr, hlc⟩ := cx
  have hl : lv_has ls 1 [(0, .ref (ad 0))] := hl
  unfold w_m_phase at h
  refine lv_aload_n hx hb d_m_phase_0 rfl (lv_at hl 0 rfl) ?_
  refine lv_iconst (v := 0) hx hb d_m_phase_1 zc_iconst_0 ?_
  refine mp_M_code hx hb hts hown hK hI (hts _ q_654) d_m_phase_2 ?_
  intro H locs hI
  refine lv_aload_n hx hb d_m_phase_5 rfl (lv_at hl 0 rfl) ?_
  refine zr_i (va_runV (As := []) (rest := []) ⟨hx, hb, hml, hown, hts⟩ (t_m_phaseNow l D ad ca h _) (cwV 0 hts (zg_V q_778 q_780 q_19 q_44 q_781) rfl rfl rfl ⟨rfl, hd_m_phaseNow⟩ ⟨Nat.le_trans (by decide) hfr, Nat.le_trans (by decide) hlc⟩) (z_preV zNs_ok hK hN hI 0 5 rfl rfl _) rfl rfl hl.1 rfl (lv_room (Nat.le_of_ble_eq_true rfl)) d_m_phase_6 ⟨Nat.zero_le _, Nat.zero_le _⟩) hI ?_
  intro r1 u2 H locs h hI
  exact zret_i hx hb hr hlk hK hI h d_m_phase_9
def b_m_allowed_65  (post : Int32 → ZS → Prop) (s0 : Int32) (u : ZS) : Prop := (s0 = 0 ∨ s0 = 1) ∧ post s0 u
set_option maxRecDepth 100000 in
set_option maxHeartbeats 4000000 in
theorem k_m_allowed_65 {p : Program} {l : Launch} {e : Env} {R : Room} {s : State} {m : MethodId} {args : Array Value} {below : List Frame} {meth : Method} {c : Code} {D : va_G} {A : Nat → Prop} {ad : Nat → Nat} {ca : Nat → ClassId}  {post : Int32 → ZS → Prop} (cx : zx p R s m args meth c c_m_allowed 4 2 34 "ShortBridgeModel" (some .boolean) zG zNs D (mT ca)) {s0 : Int32} {u : ZS} {H : Heap} {locs : List Loc} {ls : Array Slot} (hI : zw D A s.heap (mW ad ca u) H locs) (hl : lv_has ls 4 []) (h : b_m_allowed_65 post s0 u) : W p l e R s m args below meth c H locs 0 0 (MQ below (va_Qi post (zE D (mT ca) (mW ad ca) A) A) args s 0 0 A) (F0 m 65 ls [.int s0]) := by
  have cx0 := cx
  obtain ⟨hx, hb, hml, hown, hts, hN, hK, hr, hlk, hfr, hlc⟩ := cx
  unfold b_m_allowed_65 at h
  exact zret_z hx hb hr hlk hK hI h.1 h.2 d_m_allowed_65
def b_m_allowed_60  (post : Int32 → ZS → Prop)  (u : ZS) : Prop := b_m_allowed_65 post 1 u
set_option maxRecDepth 100000 in
set_option maxHeartbeats 4000000 in
theorem k_m_allowed_60 {p : Program} {l : Launch} {e : Env} {R : Room} {s : State} {m : MethodId} {args : Array Value} {below : List Frame} {meth : Method} {c : Code} {D : va_G} {A : Nat → Prop} {ad : Nat → Nat} {ca : Nat → ClassId}  {post : Int32 → ZS → Prop} (cx : zx p R s m args meth c c_m_allowed 4 2 34 "ShortBridgeModel" (some .boolean) zG zNs D (mT ca)) {u : ZS} {H : Heap} {locs : List Loc} {ls : Array Slot} (hI : zw D A s.heap (mW ad ca u) H locs) (hl : lv_has ls 4 []) (h : b_m_allowed_60 post  u) : W p l e R s m args below meth c H locs 0 0 (MQ below (va_Qi post (zE D (mT ca) (mW ad ca) A) A) args s 0 0 A) (F0 m 60 ls []) := by
  have cx0 := cx
  obtain ⟨hx, hb, hml, hown, hts, hN, hK, hr, hlk, hfr, hlc⟩ := cx
  unfold b_m_allowed_60 at h
  refine lv_iconst (v := 1) hx hb d_m_allowed_60 zc_iconst_1 ?_
  refine lv_goto hx hb d_m_allowed_61 rfl ?_
  exact k_m_allowed_65 cx0  hI (lv_sub hl [] rfl) h
def b_m_allowed_48  (post : Int32 → ZS → Prop) (v1 : Int32) (u : ZS) : Prop := (v1 = 0 → b_m_allowed_60 post u) ∧ (¬ (v1 = 0) → (v1 ≤ (fI u 6) → b_m_allowed_65 post 0 u) ∧ (¬ (v1 ≤ (fI u 6)) → b_m_allowed_60 post u))
set_option maxRecDepth 100000 in
set_option maxHeartbeats 4000000 in
theorem k_m_allowed_48 {p : Program} {l : Launch} {e : Env} {R : Room} {s : State} {m : MethodId} {args : Array Value} {below : List Frame} {meth : Method} {c : Code} {D : va_G} {A : Nat → Prop} {ad : Nat → Nat} {ca : Nat → ClassId}  {post : Int32 → ZS → Prop} (cx : zx p R s m args meth c c_m_allowed 4 2 34 "ShortBridgeModel" (some .boolean) zG zNs D (mT ca)) {v1 : Int32} {u : ZS} {H : Heap} {locs : List Loc} {ls : Array Slot} (hI : zw D A s.heap (mW ad ca u) H locs) (hl : lv_has ls 4 [(0, .ref (ad 0)), (1, .int v1)]) (h : b_m_allowed_48 post v1 u) : W p l e R s m args below meth c H locs 0 0 (MQ below (va_Qi post (zE D (mT ca) (mW ad ca) A) A) args s 0 0 A) (F0 m 48 ls []) := by
  have cx0 := cx
  obtain ⟨hx, hb, hml, hown, hts, hN, hK, hr, hlk, hfr, hlc⟩ := cx
  unfold b_m_allowed_48 at h
  refine lv_iload_n hx hb d_m_allowed_48 rfl (lv_at hl 1 rfl) ?_
  refine lv_if_eq hx hb d_m_allowed_49 rfl (fun hc => ?_) (fun hc => ?_)
  · have h := h.1 hc
    exact k_m_allowed_60 cx0  hI (lv_sub hl [] rfl) h
  · have h := h.2 hc
    refine lv_iload_n hx hb d_m_allowed_52 rfl (lv_at hl 1 rfl) ?_
    refine lv_aload_n hx hb d_m_allowed_53 rfl (lv_at hl 0 rfl) ?_
    refine mg_M_bid hx hb hts hown hK hI (hts _ q_665) d_m_allowed_54 ?_
    refine lv_icmp_le hx hb d_m_allowed_57 rfl (fun hc => ?_) (fun hc => ?_)
    · have h := h.1 hc
      refine lv_iconst (v := 0) hx hb d_m_allowed_64 zc_iconst_0 ?_
      exact k_m_allowed_65 cx0  hI (lv_sub hl [] rfl) h
    · have h := h.2 hc
      exact k_m_allowed_60 cx0  hI (lv_sub hl [] rfl) h
def b_m_allowed_103  (post : Int32 → ZS → Prop) (s0 : Int32) (u : ZS) : Prop := (s0 = 0 ∨ s0 = 1) ∧ post s0 u
set_option maxRecDepth 100000 in
set_option maxHeartbeats 4000000 in
theorem k_m_allowed_103 {p : Program} {l : Launch} {e : Env} {R : Room} {s : State} {m : MethodId} {args : Array Value} {below : List Frame} {meth : Method} {c : Code} {D : va_G} {A : Nat → Prop} {ad : Nat → Nat} {ca : Nat → ClassId}  {post : Int32 → ZS → Prop} (cx : zx p R s m args meth c c_m_allowed 4 2 34 "ShortBridgeModel" (some .boolean) zG zNs D (mT ca)) {s0 : Int32} {u : ZS} {H : Heap} {locs : List Loc} {ls : Array Slot} (hI : zw D A s.heap (mW ad ca u) H locs) (hl : lv_has ls 4 []) (h : b_m_allowed_103 post s0 u) : W p l e R s m args below meth c H locs 0 0 (MQ below (va_Qi post (zE D (mT ca) (mW ad ca) A) A) args s 0 0 A) (F0 m 103 ls [.int s0]) := by
  have cx0 := cx
  obtain ⟨hx, hb, hml, hown, hts, hN, hK, hr, hlk, hfr, hlc⟩ := cx
  unfold b_m_allowed_103 at h
  exact zret_z hx hb hr hlk hK hI h.1 h.2 d_m_allowed_103
def b_m_allowed_102  (post : Int32 → ZS → Prop)  (u : ZS) : Prop := b_m_allowed_103 post 0 u
set_option maxRecDepth 100000 in
set_option maxHeartbeats 4000000 in
theorem k_m_allowed_102 {p : Program} {l : Launch} {e : Env} {R : Room} {s : State} {m : MethodId} {args : Array Value} {below : List Frame} {meth : Method} {c : Code} {D : va_G} {A : Nat → Prop} {ad : Nat → Nat} {ca : Nat → ClassId}  {post : Int32 → ZS → Prop} (cx : zx p R s m args meth c c_m_allowed 4 2 34 "ShortBridgeModel" (some .boolean) zG zNs D (mT ca)) {u : ZS} {H : Heap} {locs : List Loc} {ls : Array Slot} (hI : zw D A s.heap (mW ad ca u) H locs) (hl : lv_has ls 4 []) (h : b_m_allowed_102 post  u) : W p l e R s m args below meth c H locs 0 0 (MQ below (va_Qi post (zE D (mT ca) (mW ad ca) A) A) args s 0 0 A) (F0 m 102 ls []) := by
  have cx0 := cx
  obtain ⟨hx, hb, hml, hown, hts, hN, hK, hr, hlk, hfr, hlc⟩ := cx
  unfold b_m_allowed_102 at h
  refine lv_iconst (v := 0) hx hb d_m_allowed_102 zc_iconst_0 ?_
  exact k_m_allowed_103 cx0  hI (lv_sub hl [] rfl) h
def b_m_allowed_98  (post : Int32 → ZS → Prop)  (u : ZS) : Prop := b_m_allowed_103 post 1 u
set_option maxRecDepth 100000 in
set_option maxHeartbeats 4000000 in
theorem k_m_allowed_98 {p : Program} {l : Launch} {e : Env} {R : Room} {s : State} {m : MethodId} {args : Array Value} {below : List Frame} {meth : Method} {c : Code} {D : va_G} {A : Nat → Prop} {ad : Nat → Nat} {ca : Nat → ClassId}  {post : Int32 → ZS → Prop} (cx : zx p R s m args meth c c_m_allowed 4 2 34 "ShortBridgeModel" (some .boolean) zG zNs D (mT ca)) {u : ZS} {H : Heap} {locs : List Loc} {ls : Array Slot} (hI : zw D A s.heap (mW ad ca u) H locs) (hl : lv_has ls 4 []) (h : b_m_allowed_98 post  u) : W p l e R s m args below meth c H locs 0 0 (MQ below (va_Qi post (zE D (mT ca) (mW ad ca) A) A) args s 0 0 A) (F0 m 98 ls []) := by
  have cx0 := cx
  obtain ⟨hx, hb, hml, hown, hts, hN, hK, hr, hlk, hfr, hlc⟩ := cx
  unfold b_m_allowed_98 at h
  refine lv_iconst (v := 1) hx hb d_m_allowed_98 zc_iconst_1 ?_
  refine lv_goto hx hb d_m_allowed_99 rfl ?_
  exact k_m_allowed_103 cx0  hI (lv_sub hl [] rfl) h
def b_m_allowed_38  (post : Int32 → ZS → Prop) (v1 : Int32) (v2 : Int32) (s0 : Int32) (u : ZS) : Prop := (v1 = 0 → b_m_allowed_48 post v1 u) ∧ (¬ (v1 = 0) → (v1 ≤ 2 → (s0 = 0 → b_m_allowed_102 post u) ∧ (¬ (s0 = 0) → (¬ v1 = 1 → vp_in v2 240 ∧ ((¬ (aI u 1 (Int32.toNatClampNeg v2)) = 1 → b_m_allowed_102 post u) ∧ ((aI u 1 (Int32.toNatClampNeg v2)) = 1 → b_m_allowed_98 post u))) ∧ (v1 = 1 → vp_in v2 240 ∧ (((aI u 1 (Int32.toNatClampNeg v2)) ≤ 2 → b_m_allowed_102 post u) ∧ (¬ ((aI u 1 (Int32.toNatClampNeg v2)) ≤ 2) → b_m_allowed_98 post u))))) ∧ (¬ (v1 ≤ 2) → b_m_allowed_48 post v1 u))
set_option maxRecDepth 100000 in
set_option maxHeartbeats 4000000 in
theorem k_m_allowed_38 {p : Program} {l : Launch} {e : Env} {R : Room} {s : State} {m : MethodId} {args : Array Value} {below : List Frame} {meth : Method} {c : Code} {D : va_G} {A : Nat → Prop} {ad : Nat → Nat} {ca : Nat → ClassId}  {post : Int32 → ZS → Prop} (cx : zx p R s m args meth c c_m_allowed 4 2 34 "ShortBridgeModel" (some .boolean) zG zNs D (mT ca)) {v1 : Int32} {v2 : Int32} {s0 : Int32} {u : ZS} {H : Heap} {locs : List Loc} {ls : Array Slot} (hI : zw D A s.heap (mW ad ca u) H locs) (hl : lv_has ls 4 [(0, .ref (ad 0)), (1, .int v1), (2, .int v2)]) (h : b_m_allowed_38 post v1 v2 s0 u) : W p l e R s m args below meth c H locs 0 0 (MQ below (va_Qi post (zE D (mT ca) (mW ad ca) A) A) args s 0 0 A) (F0 m 38 ls [.int s0]) := by
  have cx0 := cx
  obtain ⟨hx, hb, hml, hown, hts, hN, hK, hr, hlk, hfr, hlc⟩ := cx
  unfold b_m_allowed_38 at h
  refine lv_istore_n hx hb d_m_allowed_38 rfl hl (by decide) rfl ?_
  intro ls hl
  have hl : lv_has ls 4 [(3, .int s0), (0, .ref (ad 0)), (1, .int v1), (2, .int v2)] := hl
  refine lv_iload_n hx hb d_m_allowed_39 rfl (lv_at hl 2 rfl) ?_
  refine lv_if_eq hx hb d_m_allowed_40 rfl (fun hc => ?_) (fun hc => ?_)
  · have h := h.1 hc
    exact k_m_allowed_48 cx0  hI (lv_sub hl [1, 2] rfl) h
  · have h := h.2 hc
    refine lv_iload_n hx hb d_m_allowed_43 rfl (lv_at hl 2 rfl) ?_
    refine lv_iconst (v := 2) hx hb d_m_allowed_44 zc_iconst_2 ?_
    refine lv_icmp_le hx hb d_m_allowed_45 rfl (fun hc => ?_) (fun hc => ?_)
    · have h := h.1 hc
      refine lv_iload_n hx hb d_m_allowed_66 rfl (lv_at hl 0 rfl) ?_
      refine lv_if_eq hx hb d_m_allowed_67 rfl (fun hc => ?_) (fun hc => ?_)
      · have h := h.1 hc
        exact k_m_allowed_102 cx0  hI (lv_sub hl [] rfl) h
      · have h := h.2 hc
        refine lv_iload_n hx hb d_m_allowed_70 rfl (lv_at hl 2 rfl) ?_
        refine lv_iconst (v := 1) hx hb d_m_allowed_71 zc_iconst_1 ?_
        refine lv_icmp_ne hx hb d_m_allowed_72 rfl (fun hc => ?_) (fun hc => ?_)
        · have h := h.1 hc
          refine lv_aload_n hx hb d_m_allowed_88 rfl (lv_at hl 1 rfl) ?_
          refine mg_M_call hx hb hts hown hK hI (hts _ q_662) d_m_allowed_89 ?_
          refine lv_iload_n hx hb d_m_allowed_92 rfl (lv_at hl 3 rfl) ?_
          obtain ⟨hi, h⟩ := h
          refine ma_call hx hb hK hI hi d_m_allowed_93 ?_
          refine lv_iconst (v := 1) hx hb d_m_allowed_94 zc_iconst_1 ?_
          refine lv_icmp_ne hx hb d_m_allowed_95 rfl (fun hc => ?_) (fun hc => ?_)
          · have h := h.1 hc
            exact k_m_allowed_102 cx0  hI (lv_sub hl [] rfl) h
          · have h := h.2 hc
            exact k_m_allowed_98 cx0  hI (lv_sub hl [] rfl) h
        · have h := h.2 hc
          refine lv_aload_n hx hb d_m_allowed_75 rfl (lv_at hl 1 rfl) ?_
          refine mg_M_call hx hb hts hown hK hI (hts _ q_662) d_m_allowed_76 ?_
          refine lv_iload_n hx hb d_m_allowed_79 rfl (lv_at hl 3 rfl) ?_
          obtain ⟨hi, h⟩ := h
          refine ma_call hx hb hK hI hi d_m_allowed_80 ?_
          refine lv_iconst (v := 2) hx hb d_m_allowed_81 zc_iconst_2 ?_
          refine lv_icmp_le hx hb d_m_allowed_82 rfl (fun hc => ?_) (fun hc => ?_)
          · have h := h.1 hc
            exact k_m_allowed_102 cx0  hI (lv_sub hl [] rfl) h
          · have h := h.2 hc
            refine lv_goto hx hb d_m_allowed_85 rfl ?_
            exact k_m_allowed_98 cx0  hI (lv_sub hl [] rfl) h
    · have h := h.2 hc
      exact k_m_allowed_48 cx0  hI (lv_sub hl [1, 2] rfl) h
def b_m_allowed_37  (post : Int32 → ZS → Prop) (v1 : Int32) (v2 : Int32) (u : ZS) : Prop := b_m_allowed_38 post v1 v2 0 u
set_option maxRecDepth 100000 in
set_option maxHeartbeats 4000000 in
theorem k_m_allowed_37 {p : Program} {l : Launch} {e : Env} {R : Room} {s : State} {m : MethodId} {args : Array Value} {below : List Frame} {meth : Method} {c : Code} {D : va_G} {A : Nat → Prop} {ad : Nat → Nat} {ca : Nat → ClassId}  {post : Int32 → ZS → Prop} (cx : zx p R s m args meth c c_m_allowed 4 2 34 "ShortBridgeModel" (some .boolean) zG zNs D (mT ca)) {v1 : Int32} {v2 : Int32} {u : ZS} {H : Heap} {locs : List Loc} {ls : Array Slot} (hI : zw D A s.heap (mW ad ca u) H locs) (hl : lv_has ls 4 [(0, .ref (ad 0)), (1, .int v1), (2, .int v2)]) (h : b_m_allowed_37 post v1 v2 u) : W p l e R s m args below meth c H locs 0 0 (MQ below (va_Qi post (zE D (mT ca) (mW ad ca) A) A) args s 0 0 A) (F0 m 37 ls []) := by
  have cx0 := cx
  obtain ⟨hx, hb, hml, hown, hts, hN, hK, hr, hlk, hfr, hlc⟩ := cx
  unfold b_m_allowed_37 at h
  refine lv_iconst (v := 0) hx hb d_m_allowed_37 zc_iconst_0 ?_
  exact k_m_allowed_38 cx0  hI (lv_sub hl [0, 1, 2] rfl) h
def w_m_allowed (v1 : Int32) (u : ZS) (post : Int32 → ZS → Prop) : Prop := w_m_latestBefore (fI u 4) u (fun r1 u2 => (r1 < 0 → b_m_allowed_37 post v1 r1 u2) ∧ (¬ (r1 < 0) → w_m_callerAt r1 u2 (fun r3 u4 => w_m_callerAt (fI u4 4) u4 (fun r5 u6 => ((r3 &&& 1) = (r5 &&& 1) → b_m_allowed_37 post v1 r1 u6) ∧ (¬ ((r3 &&& 1) = (r5 &&& 1)) → b_m_allowed_38 post v1 r1 1 u6)))))
set_option maxRecDepth 100000 in
set_option maxHeartbeats 4000000 in
theorem t_m_allowed (l : Launch) (D : va_G) (ad : Nat → Nat) (ca : Nat → ClassId) {v1 : Int32} {u : ZS} {post : Int32 → ZS → Prop} (h : w_m_allowed v1 u post) : zI l y_m_allowed (Cond.code y_m_allowed c_m_allowed 4 (some .boolean) :: zG) { frames := 2, cells := 0, slots := 0, locals := 34 } D (mT ca) zNs (mW ad ca) [.ref (ad 0), .int v1] u post := by
  refine zI_of (cc := c_m_allowed) (maxL := 4) (ret := (some .boolean)) (by decide) (Nat.le_of_ble_eq_true rfl) ?_
  intro p e s m args below meth c ls A cx hI hl
  have cx0 := cx
  obtain ⟨hx, hb, hml, hown, hts, hN, hK, hr, hlk, hfr, hlc⟩ := cx
  have hl : lv_has ls 4 [(0, .ref (ad 0)), (1, .int v1)] := hl
  unfold w_m_allowed at h
  refine lv_aload_n hx hb d_m_allowed_0 rfl (lv_at hl 0 rfl) ?_
  refine lv_aload_n hx hb d_m_allowed_1 rfl (lv_at hl 0 rfl) ?_
  refine mg_M_calls hx hb hts hown hK hI (hts _ q_661) d_m_allowed_2 ?_
  refine zr_i (va_runV (As := [.int (fI u 4)]) (rest := []) ⟨hx, hb, hml, hown, hts⟩ (t_m_latestBefore l D ad ca h _) (cwV 1 hts (zg_V q_794 q_796 q_23 q_44 q_797) rfl rfl rfl ⟨rfl, hd_m_latestBefore⟩ ⟨Nat.le_trans (by decide) hfr, Nat.le_trans (by decide) hlc⟩) (z_preV zNs_ok hK hN hI 0 5 rfl rfl _) rfl rfl hl.1 rfl (lv_room (Nat.le_of_ble_eq_true rfl)) d_m_allowed_5 ⟨Nat.zero_le _, Nat.zero_le _⟩) hI ?_
  intro r1 u2 H locs h hI
  refine lv_istore_n hx hb d_m_allowed_8 rfl hl (by decide) rfl ?_
  intro ls hl
  have hl : lv_has ls 4 [(2, .int r1), (0, .ref (ad 0)), (1, .int v1)] := hl
  refine lv_iload_n hx hb d_m_allowed_9 rfl (lv_at hl 0 rfl) ?_
  refine lv_if_lt hx hb d_m_allowed_10 rfl (fun hc => ?_) (fun hc => ?_)
  · have h := h.1 hc
    exact k_m_allowed_37 cx0  hI (lv_sub hl [1, 2, 0] rfl) h
  · have h := h.2 hc
    refine lv_aload_n hx hb d_m_allowed_13 rfl (lv_at hl 1 rfl) ?_
    refine lv_iload_n hx hb d_m_allowed_14 rfl (lv_at hl 0 rfl) ?_
    refine zr_i (va_runV (As := [.int r1]) (rest := []) ⟨hx, hb, hml, hown, hts⟩ (t_m_callerAt l D ad ca h _) (cwV 1 hts (zg_V q_790 q_792 q_22 q_44 q_793) rfl rfl rfl ⟨rfl, hd_m_callerAt⟩ ⟨Nat.le_trans (by decide) hfr, Nat.le_trans (by decide) hlc⟩) (z_preV zNs_ok hK hN hI 0 5 rfl rfl _) rfl rfl hl.1 rfl (lv_room (Nat.le_of_ble_eq_true rfl)) d_m_allowed_15 ⟨Nat.zero_le _, Nat.zero_le _⟩) hI ?_
    intro r3 u4 H locs h hI
    refine lv_iconst (v := 1) hx hb d_m_allowed_18 zc_iconst_1 ?_
    refine lv_iand hx hb d_m_allowed_19 ?_
    refine lv_aload_n hx hb d_m_allowed_20 rfl (lv_at hl 1 rfl) ?_
    refine lv_aload_n hx hb d_m_allowed_21 rfl (lv_at hl 1 rfl) ?_
    refine mg_M_calls hx hb hts hown hK hI (hts _ q_661) d_m_allowed_22 ?_
    refine zr_i (va_runV (As := [.int (fI u4 4)]) (rest := [.int (r3 &&& 1)]) ⟨hx, hb, hml, hown, hts⟩ (t_m_callerAt l D ad ca h _) (cwV 1 hts (zg_V q_790 q_792 q_22 q_44 q_793) rfl rfl rfl ⟨rfl, hd_m_callerAt⟩ ⟨Nat.le_trans (by decide) hfr, Nat.le_trans (by decide) hlc⟩) (z_preV zNs_ok hK hN hI 0 5 rfl rfl _) rfl rfl hl.1 rfl (lv_room (Nat.le_of_ble_eq_true rfl)) d_m_allowed_25 ⟨Nat.zero_le _, Nat.zero_le _⟩) hI ?_
    intro r5 u6 H locs h hI
    refine lv_iconst (v := 1) hx hb d_m_allowed_28 zc_iconst_1 ?_
    refine lv_iand hx hb d_m_allowed_29 ?_
    refine lv_icmp_eq hx hb d_m_allowed_30 rfl (fun hc => ?_) (fun hc => ?_)
    · have h := h.1 hc
      exact k_m_allowed_37 cx0  hI (lv_sub hl [1, 2, 0] rfl) h
    · have h := h.2 hc
      refine lv_iconst (v := 1) hx hb d_m_allowed_33 zc_iconst_1 ?_
      refine lv_goto hx hb d_m_allowed_34 rfl ?_
      exact k_m_allowed_38 cx0  hI (lv_sub hl [1, 2, 0] rfl) h
def b_m_call_70  (post : ZS → Prop)  (u : ZS) : Prop := post u
set_option maxRecDepth 100000 in
set_option maxHeartbeats 4000000 in
theorem k_m_call_70 {p : Program} {l : Launch} {e : Env} {R : Room} {s : State} {m : MethodId} {args : Array Value} {below : List Frame} {meth : Method} {c : Code} {D : va_G} {A : Nat → Prop} {ad : Nat → Nat} {ca : Nat → ClassId}  {post : ZS → Prop} (cx : zx p R s m args meth c c_m_call 2 5 97 "ShortBridgeModel" none zG zNs D (mT ca)) {u : ZS} {H : Heap} {locs : List Loc} {ls : Array Slot} (hI : zw D A s.heap (mW ad ca u) H locs) (hl : lv_has ls 2 []) (h : b_m_call_70 post  u) : W p l e R s m args below meth c H locs 0 0 (MQ below (va_Qv post (zE D (mT ca) (mW ad ca) A) A) args s 0 0 A) (F0 m 70 ls []) := by
  have cx0 := cx
  obtain ⟨hx, hb, hml, hown, hts, hN, hK, hr, hlk, hfr, hlc⟩ := cx
  unfold b_m_call_70 at h
  exact zret_v hx hb hr hlk hK hI h d_m_call_70
def b_m_call_40  (post : ZS → Prop) (v1 : Int32) (s0 : Int32) (u : ZS) : Prop := (¬ (fI (sI u 0 s0) 0) = 0 → b_m_call_70 post (sI u 0 s0)) ∧ ((fI (sI u 0 s0) 0) = 0 → vp_in (fI (sI u 0 s0) 4) 240 ∧ (b_m_call_70 post (sI (pI (sI u 0 s0) 1 (Int32.toNatClampNeg (fI (sI u 0 s0) 4)) v1) 4 ((fI (pI (sI u 0 s0) 1 (Int32.toNatClampNeg (fI (sI u 0 s0) 4)) v1) 4) + 1))))
set_option maxRecDepth 100000 in
set_option maxHeartbeats 4000000 in
theorem k_m_call_40 {p : Program} {l : Launch} {e : Env} {R : Room} {s : State} {m : MethodId} {args : Array Value} {below : List Frame} {meth : Method} {c : Code} {D : va_G} {A : Nat → Prop} {ad : Nat → Nat} {ca : Nat → ClassId}  {post : ZS → Prop} (cx : zx p R s m args meth c c_m_call 2 5 97 "ShortBridgeModel" none zG zNs D (mT ca)) {v1 : Int32} {s0 : Int32} {u : ZS} {H : Heap} {locs : List Loc} {ls : Array Slot} (hI : zw D A s.heap (mW ad ca u) H locs) (hl : lv_has ls 2 [(0, .ref (ad 0)), (1, .int v1)]) (h : b_m_call_40 post v1 s0 u) : W p l e R s m args below meth c H locs 0 0 (MQ below (va_Qv post (zE D (mT ca) (mW ad ca) A) A) args s 0 0 A) (F0 m 40 ls [.int s0, .ref (ad 0)]) := by
  have cx0 := cx
  obtain ⟨hx, hb, hml, hown, hts, hN, hK, hr, hlk, hfr, hlc⟩ := cx
  unfold b_m_call_40 at h
  refine mp_M_code hx hb hts hown hK hI (hts _ q_654) d_m_call_40 ?_
  intro H locs hI
  refine lv_aload_n hx hb d_m_call_43 rfl (lv_at hl 0 rfl) ?_
  refine mg_M_code hx hb hts hown hK hI (hts _ q_654) d_m_call_44 ?_
  refine lv_if_ne hx hb d_m_call_47 rfl (fun hc => ?_) (fun hc => ?_)
  · have h := h.1 hc
    exact k_m_call_70 cx0  hI (lv_sub hl [] rfl) h
  · have h := h.2 hc
    refine lv_aload_n hx hb d_m_call_50 rfl (lv_at hl 0 rfl) ?_
    refine mg_M_call hx hb hts hown hK hI (hts _ q_662) d_m_call_51 ?_
    refine lv_aload_n hx hb d_m_call_54 rfl (lv_at hl 0 rfl) ?_
    refine mg_M_calls hx hb hts hown hK hI (hts _ q_661) d_m_call_55 ?_
    refine lv_iload_n hx hb d_m_call_58 rfl (lv_at hl 1 rfl) ?_
    obtain ⟨hi, h⟩ := h
    refine ms_call hx hb hK hI hi d_m_call_59 ?_
    intro H locs hI
    refine lv_aload_n hx hb d_m_call_60 rfl (lv_at hl 0 rfl) ?_
    refine lv_aload_n hx hb d_m_call_61 rfl (lv_at hl 0 rfl) ?_
    refine mg_M_calls hx hb hts hown hK hI (hts _ q_661) d_m_call_62 ?_
    refine lv_iconst (v := 1) hx hb d_m_call_65 zc_iconst_1 ?_
    refine lv_iadd hx hb d_m_call_66 ?_
    refine mp_M_calls hx hb hts hown hK hI (hts _ q_661) d_m_call_67 ?_
    intro H locs hI
    exact k_m_call_70 cx0  hI (lv_sub hl [] rfl) h
def b_m_call_23  (post : ZS → Prop) (v1 : Int32) (u : ZS) : Prop := b_m_call_40 post v1 2 u
set_option maxRecDepth 100000 in
set_option maxHeartbeats 4000000 in
theorem k_m_call_23 {p : Program} {l : Launch} {e : Env} {R : Room} {s : State} {m : MethodId} {args : Array Value} {below : List Frame} {meth : Method} {c : Code} {D : va_G} {A : Nat → Prop} {ad : Nat → Nat} {ca : Nat → ClassId}  {post : ZS → Prop} (cx : zx p R s m args meth c c_m_call 2 5 97 "ShortBridgeModel" none zG zNs D (mT ca)) {v1 : Int32} {u : ZS} {H : Heap} {locs : List Loc} {ls : Array Slot} (hI : zw D A s.heap (mW ad ca u) H locs) (hl : lv_has ls 2 [(0, .ref (ad 0)), (1, .int v1)]) (h : b_m_call_23 post v1 u) : W p l e R s m args below meth c H locs 0 0 (MQ below (va_Qv post (zE D (mT ca) (mW ad ca) A) A) args s 0 0 A) (F0 m 23 ls [.ref (ad 0)]) := by
  have cx0 := cx
  obtain ⟨hx, hb, hml, hown, hts, hN, hK, hr, hlk, hfr, hlc⟩ := cx
  unfold b_m_call_23 at h
  refine lv_iconst (v := 2) hx hb d_m_call_23 zc_iconst_2 ?_
  refine lv_goto hx hb d_m_call_24 rfl ?_
  exact k_m_call_40 cx0  hI (lv_sub hl [0, 1] rfl) h
def w_m_call (v1 : Int32) (u : ZS) (post : ZS → Prop) : Prop := w_m_phaseNow  u (fun r1 u2 => (r1 = 1 → (v1 < 0 → b_m_call_23 post v1 u2) ∧ (¬ (v1 < 0) → (v1 ≤ 17 → w_m_allowed v1 u2 (fun r3 u4 => (r3 = 0 → b_m_call_40 post v1 3 u4) ∧ (¬ (r3 = 0) → b_m_call_40 post v1 0 u4))) ∧ (¬ (v1 ≤ 17) → b_m_call_23 post v1 u2))) ∧ (¬ (r1 = 1) → b_m_call_40 post v1 1 u2))
set_option maxRecDepth 100000 in
set_option maxHeartbeats 4000000 in
theorem t_m_call (l : Launch) (D : va_G) (ad : Nat → Nat) (ca : Nat → ClassId) {v1 : Int32} {u : ZS} {post : ZS → Prop} (h : w_m_call v1 u post) : zV l y_m_call (Cond.code y_m_call c_m_call 2 none :: zG) { frames := 5, cells := 0, slots := 0, locals := 97 } D (mT ca) zNs (mW ad ca) [.ref (ad 0), .int v1] u post := by
  refine zV_of (cc := c_m_call) (maxL := 2) (by decide) (Nat.le_of_ble_eq_true rfl) ?_
  intro p e s m args below meth c ls A cx hI hl
  have cx0 := cx
  obtain ⟨hx, hb, hml, hown, hts, hN, hK, hr, hlk, hfr, hlc⟩ := cx
  have hl : lv_has ls 2 [(0, .ref (ad 0)), (1, .int v1)] := hl
  unfold w_m_call at h
  refine lv_aload_n hx hb d_m_call_0 rfl (lv_at hl 0 rfl) ?_
  refine lv_aload_n hx hb d_m_call_1 rfl (lv_at hl 0 rfl) ?_
  refine zr_i (va_runV (As := []) (rest := [.ref (ad 0)]) ⟨hx, hb, hml, hown, hts⟩ (t_m_phaseNow l D ad ca h _) (cwV 0 hts (zg_V q_778 q_780 q_19 q_44 q_781) rfl rfl rfl ⟨rfl, hd_m_phaseNow⟩ ⟨Nat.le_trans (by decide) hfr, Nat.le_trans (by decide) hlc⟩) (z_preV zNs_ok hK hN hI 0 5 rfl rfl _) rfl rfl hl.1 rfl (lv_room (Nat.le_of_ble_eq_true rfl)) d_m_call_2 ⟨Nat.zero_le _, Nat.zero_le _⟩) hI ?_
  intro r1 u2 H locs h hI
  refine lv_iconst (v := 1) hx hb d_m_call_5 zc_iconst_1 ?_
  refine lv_icmp_eq hx hb d_m_call_6 rfl (fun hc => ?_) (fun hc => ?_)
  · have h := h.1 hc
    refine lv_iload_n hx hb d_m_call_13 rfl (lv_at hl 1 rfl) ?_
    refine lv_if_lt hx hb d_m_call_14 rfl (fun hc => ?_) (fun hc => ?_)
    · have h := h.1 hc
      exact k_m_call_23 cx0  hI (lv_sub hl [0, 1] rfl) h
    · have h := h.2 hc
      refine lv_iload_n hx hb d_m_call_17 rfl (lv_at hl 1 rfl) ?_
      refine lv_bipush (v := 17) hx hb d_m_call_18 zc_bipush_17 ?_
      refine lv_icmp_le hx hb d_m_call_20 rfl (fun hc => ?_) (fun hc => ?_)
      · have h := h.1 hc
        refine lv_aload_n hx hb d_m_call_27 rfl (lv_at hl 0 rfl) ?_
        refine lv_iload_n hx hb d_m_call_28 rfl (lv_at hl 1 rfl) ?_
        refine zr_i (va_runV (As := [.int v1]) (rest := [.ref (ad 0)]) ⟨hx, hb, hml, hown, hts⟩ (t_m_allowed l D ad ca h _) (cwV 1 hts (zg_V q_802 q_804 q_24 q_44 q_805) rfl rfl rfl ⟨rfl, hd_m_allowed⟩ ⟨Nat.le_trans (by decide) hfr, Nat.le_trans (by decide) hlc⟩) (z_preV zNs_ok hK hN hI 0 5 rfl rfl _) rfl rfl hl.1 rfl (lv_room (Nat.le_of_ble_eq_true rfl)) d_m_call_29 ⟨Nat.zero_le _, Nat.zero_le _⟩) hI ?_
        intro r3 u4 H locs h hI
        refine lv_if_eq hx hb d_m_call_32 rfl (fun hc => ?_) (fun hc => ?_)
        · have h := h.1 hc
          refine lv_iconst (v := 3) hx hb d_m_call_39 zc_iconst_3 ?_
          exact k_m_call_40 cx0  hI (lv_sub hl [0, 1] rfl) h
        · have h := h.2 hc
          refine lv_iconst (v := 0) hx hb d_m_call_35 zc_iconst_0 ?_
          refine lv_goto hx hb d_m_call_36 rfl ?_
          exact k_m_call_40 cx0  hI (lv_sub hl [0, 1] rfl) h
      · have h := h.2 hc
        exact k_m_call_23 cx0  hI (lv_sub hl [0, 1] rfl) h
  · have h := h.2 hc
    refine lv_iconst (v := 1) hx hb d_m_call_9 zc_iconst_1 ?_
    refine lv_goto hx hb d_m_call_10 rfl ?_
    exact k_m_call_40 cx0  hI (lv_sub hl [0, 1] rfl) h
def b_m_contract_65  (post : Int32 → ZS → Prop) (s0 : Int32) (u : ZS) : Prop := post s0 u
set_option maxRecDepth 100000 in
set_option maxHeartbeats 4000000 in
theorem k_m_contract_65 {p : Program} {l : Launch} {e : Env} {R : Room} {s : State} {m : MethodId} {args : Array Value} {below : List Frame} {meth : Method} {c : Code} {D : va_G} {A : Nat → Prop} {ad : Nat → Nat} {ca : Nat → ClassId}  {post : Int32 → ZS → Prop} (cx : zx p R s m args meth c c_m_contract 2 4 77 "ShortBridgeModel" (some .int) zG zNs D (mT ca)) {s0 : Int32} {u : ZS} {H : Heap} {locs : List Loc} {ls : Array Slot} (hI : zw D A s.heap (mW ad ca u) H locs) (hl : lv_has ls 2 []) (h : b_m_contract_65 post s0 u) : W p l e R s m args below meth c H locs 0 0 (MQ below (va_Qi post (zE D (mT ca) (mW ad ca) A) A) args s 0 0 A) (F0 m 65 ls [.int s0]) := by
  have cx0 := cx
  obtain ⟨hx, hb, hml, hown, hts, hN, hK, hr, hlk, hfr, hlc⟩ := cx
  unfold b_m_contract_65 at h
  exact zret_i hx hb hr hlk hK hI h d_m_contract_65
def b_m_contract_34  (post : Int32 → ZS → Prop)  (u : ZS) : Prop := b_m_contract_65 post (-1 : Int32) u
set_option maxRecDepth 100000 in
set_option maxHeartbeats 4000000 in
theorem k_m_contract_34 {p : Program} {l : Launch} {e : Env} {R : Room} {s : State} {m : MethodId} {args : Array Value} {below : List Frame} {meth : Method} {c : Code} {D : va_G} {A : Nat → Prop} {ad : Nat → Nat} {ca : Nat → ClassId}  {post : Int32 → ZS → Prop} (cx : zx p R s m args meth c c_m_contract 2 4 77 "ShortBridgeModel" (some .int) zG zNs D (mT ca)) {u : ZS} {H : Heap} {locs : List Loc} {ls : Array Slot} (hI : zw D A s.heap (mW ad ca u) H locs) (hl : lv_has ls 2 []) (h : b_m_contract_34 post  u) : W p l e R s m args below meth c H locs 0 0 (MQ below (va_Qi post (zE D (mT ca) (mW ad ca) A) A) args s 0 0 A) (F0 m 34 ls []) := by
  have cx0 := cx
  obtain ⟨hx, hb, hml, hown, hts, hN, hK, hr, hlk, hfr, hlc⟩ := cx
  unfold b_m_contract_34 at h
  refine lv_iconst (v := (-1)) hx hb d_m_contract_34 zc_iconst_m1 ?_
  refine lv_goto hx hb d_m_contract_35 rfl ?_
  exact k_m_contract_65 cx0  hI (lv_sub hl [] rfl) h
def w_m_contract (v1 : Int32) (u : ZS) (post : Int32 → ZS → Prop) : Prop := (¬ (fI (sI u 0 0) 1) = 0 → w_m_readCalls  (sI u 0 0) (fun u2 => ((fI u2 6) = 0 → b_m_contract_34 post u2) ∧ (¬ ((fI u2 6) = 0) → (v1 < 0 → b_m_contract_34 post u2) ∧ (¬ (v1 < 0) → (v1 ≤ 2 → (¬ v1 = 0 → (¬ v1 = 1 → b_m_contract_65 post (fI u2 8) u2) ∧ (v1 = 1 → b_m_contract_65 post (fI u2 7) u2)) ∧ (v1 = 0 → b_m_contract_65 post (fI u2 6) u2)) ∧ (¬ (v1 ≤ 2) → b_m_contract_34 post u2))))) ∧ ((fI (sI u 0 0) 1) = 0 → post (-1 : Int32) (sI u 0 0))
set_option maxRecDepth 100000 in
set_option maxHeartbeats 4000000 in
theorem t_m_contract (l : Launch) (D : va_G) (ad : Nat → Nat) (ca : Nat → ClassId) {v1 : Int32} {u : ZS} {post : Int32 → ZS → Prop} (h : w_m_contract v1 u post) : zI l y_m_contract (Cond.code y_m_contract c_m_contract 2 (some .int) :: zG) { frames := 4, cells := 0, slots := 0, locals := 77 } D (mT ca) zNs (mW ad ca) [.ref (ad 0), .int v1] u post := by
  refine zI_of (cc := c_m_contract) (maxL := 2) (ret := (some .int)) (by decide) (Nat.le_of_ble_eq_true rfl) ?_
  intro p e s m args below meth c ls A cx hI hl
  have cx0 := cx
  obtain ⟨hx, hb, hml, hown, hts, hN, hK, hr, hlk, hfr, hlc⟩ := cx
  have hl : lv_has ls 2 [(0, .ref (ad 0)), (1, .int v1)] := hl
  unfold w_m_contract at h
  refine lv_aload_n hx hb d_m_contract_0 rfl (lv_at hl 0 rfl) ?_
  refine lv_iconst (v := 0) hx hb d_m_contract_1 zc_iconst_0 ?_
  refine mp_M_code hx hb hts hown hK hI (hts _ q_654) d_m_contract_2 ?_
  intro H locs hI
  refine lv_aload_n hx hb d_m_contract_5 rfl (lv_at hl 0 rfl) ?_
  refine mg_M_board hx hb hts hown hK hI (hts _ q_655) d_m_contract_6 ?_
  refine lv_if_ne hx hb d_m_contract_9 rfl (fun hc => ?_) (fun hc => ?_)
  · have h := h.1 hc
    refine lv_aload_n hx hb d_m_contract_14 rfl (lv_at hl 0 rfl) ?_
    refine zr_v (va_runV (As := []) (rest := []) ⟨hx, hb, hml, hown, hts⟩ (t_m_readCalls l D ad ca h _) (cwV 0 hts (zg_V q_782 q_784 q_20 q_44 q_785) rfl rfl rfl ⟨rfl, hd_m_readCalls⟩ ⟨Nat.le_trans (by decide) hfr, Nat.le_trans (by decide) hlc⟩) (z_preV zNs_ok hK hN hI 0 5 rfl rfl _) rfl rfl hl.1 rfl (lv_room (Nat.le_of_ble_eq_true rfl)) d_m_contract_15 ⟨Nat.zero_le _, Nat.zero_le _⟩) hI ?_
    intro u2 H locs h hI
    refine lv_aload_n hx hb d_m_contract_18 rfl (lv_at hl 0 rfl) ?_
    refine mg_M_bid hx hb hts hown hK hI (hts _ q_665) d_m_contract_19 ?_
    refine lv_if_eq hx hb d_m_contract_22 rfl (fun hc => ?_) (fun hc => ?_)
    · have h := h.1 hc
      exact k_m_contract_34 cx0  hI (lv_sub hl [] rfl) h
    · have h := h.2 hc
      refine lv_iload_n hx hb d_m_contract_25 rfl (lv_at hl 1 rfl) ?_
      refine lv_if_lt hx hb d_m_contract_26 rfl (fun hc => ?_) (fun hc => ?_)
      · have h := h.1 hc
        exact k_m_contract_34 cx0  hI (lv_sub hl [] rfl) h
      · have h := h.2 hc
        refine lv_iload_n hx hb d_m_contract_29 rfl (lv_at hl 1 rfl) ?_
        refine lv_iconst (v := 2) hx hb d_m_contract_30 zc_iconst_2 ?_
        refine lv_icmp_le hx hb d_m_contract_31 rfl (fun hc => ?_) (fun hc => ?_)
        · have h := h.1 hc
          refine lv_iload_n hx hb d_m_contract_38 rfl (lv_at hl 1 rfl) ?_
          refine lv_if_ne hx hb d_m_contract_39 rfl (fun hc => ?_) (fun hc => ?_)
          · have h := h.1 hc
            refine lv_iload_n hx hb d_m_contract_49 rfl (lv_at hl 1 rfl) ?_
            refine lv_iconst (v := 1) hx hb d_m_contract_50 zc_iconst_1 ?_
            refine lv_icmp_ne hx hb d_m_contract_51 rfl (fun hc => ?_) (fun hc => ?_)
            · have h := h.1 hc
              refine lv_aload_n hx hb d_m_contract_61 rfl (lv_at hl 0 rfl) ?_
              refine mg_M_declarer hx hb hts hown hK hI (hts _ q_667) d_m_contract_62 ?_
              exact k_m_contract_65 cx0  hI (lv_sub hl [] rfl) h
            · have h := h.2 hc
              refine lv_aload_n hx hb d_m_contract_54 rfl (lv_at hl 0 rfl) ?_
              refine mg_M_doubled hx hb hts hown hK hI (hts _ q_666) d_m_contract_55 ?_
              refine lv_goto hx hb d_m_contract_58 rfl ?_
              exact k_m_contract_65 cx0  hI (lv_sub hl [] rfl) h
          · have h := h.2 hc
            refine lv_aload_n hx hb d_m_contract_42 rfl (lv_at hl 0 rfl) ?_
            refine mg_M_bid hx hb hts hown hK hI (hts _ q_665) d_m_contract_43 ?_
            refine lv_goto hx hb d_m_contract_46 rfl ?_
            exact k_m_contract_65 cx0  hI (lv_sub hl [] rfl) h
        · have h := h.2 hc
          exact k_m_contract_34 cx0  hI (lv_sub hl [] rfl) h
  · have h := h.2 hc
    refine lv_iconst (v := (-1)) hx hb d_m_contract_12 zc_iconst_m1 ?_
    exact zret_i hx hb hr hlk hK hI h d_m_contract_13
def w_m_trump  (u : ZS) (post : Int32 → ZS → Prop) : Prop := post (((fI u 6) - 3) - ((fI u 6) - 3) / 5 * 5) u
set_option maxRecDepth 100000 in
set_option maxHeartbeats 4000000 in
theorem t_m_trump (l : Launch) (D : va_G) (ad : Nat → Nat) (ca : Nat → ClassId)  {u : ZS} {post : Int32 → ZS → Prop} (h : w_m_trump  u post) : zI l y_m_trump (Cond.code y_m_trump c_m_trump 1 (some .int) :: zG) { frames := 1, cells := 0, slots := 0, locals := 12 } D (mT ca) zNs (mW ad ca) [.ref (ad 0)] u post := by
  refine zI_of (cc := c_m_trump) (maxL := 1) (ret := (some .int)) (by decide) (Nat.le_of_ble_eq_true rfl) ?_
  intro p e s m args below meth c ls A cx hI hl
  have cx0 := cx
  obtain ⟨hx, hb, hml, hown, hts, hN, hK, hr, hlk, hfr, hlc⟩ := cx
  have hl : lv_has ls 1 [(0, .ref (ad 0))] := hl
  unfold w_m_trump at h
  refine lv_aload_n hx hb d_m_trump_0 rfl (lv_at hl 0 rfl) ?_
  refine mg_M_bid hx hb hts hown hK hI (hts _ q_665) d_m_trump_1 ?_
  refine lv_iconst (v := 3) hx hb d_m_trump_4 zc_iconst_3 ?_
  refine lv_isub hx hb d_m_trump_5 ?_
  refine lv_iconst (v := 5) hx hb d_m_trump_6 zc_iconst_5 ?_
  refine lv_irem hx hb d_m_trump_7 (by decide) ?_
  exact zret_i hx hb hr hlk hK hI h d_m_trump_8
def b_m_height_35  (post : Int32 → ZS → Prop) (s0 : Int32) (u : ZS) : Prop := post s0 u
set_option maxRecDepth 100000 in
set_option maxHeartbeats 4000000 in
theorem k_m_height_35 {p : Program} {l : Launch} {e : Env} {R : Room} {s : State} {m : MethodId} {args : Array Value} {below : List Frame} {meth : Method} {c : Code} {D : va_G} {A : Nat → Prop} {ad : Nat → Nat} {ca : Nat → ClassId}  {post : Int32 → ZS → Prop} (cx : zx p R s m args meth c c_m_height 3 2 32 "ShortBridgeModel" (some .int) zG zNs D (mT ca)) {s0 : Int32} {u : ZS} {H : Heap} {locs : List Loc} {ls : Array Slot} (hI : zw D A s.heap (mW ad ca u) H locs) (hl : lv_has ls 3 []) (h : b_m_height_35 post s0 u) : W p l e R s m args below meth c H locs 0 0 (MQ below (va_Qi post (zE D (mT ca) (mW ad ca) A) A) args s 0 0 A) (F0 m 35 ls [.int s0]) := by
  have cx0 := cx
  obtain ⟨hx, hb, hml, hown, hts, hN, hK, hr, hlk, hfr, hlc⟩ := cx
  unfold b_m_height_35 at h
  exact zret_i hx hb hr hlk hK hI h d_m_height_35
def w_m_height (v1 : Int32) (v2 : Int32) (u : ZS) (post : Int32 → ZS → Prop) : Prop := w_m_trump  u (fun r1 u2 => (¬ (v1 / 5) = r1 → (¬ (v1 / 5) = v2 → b_m_height_35 post 0 u2) ∧ ((v1 / 5) = v2 → b_m_height_35 post (1 + (v1 - v1 / 5 * 5)) u2)) ∧ ((v1 / 5) = r1 → b_m_height_35 post (10 + (v1 - v1 / 5 * 5)) u2))
set_option maxRecDepth 100000 in
set_option maxHeartbeats 4000000 in
theorem t_m_height (l : Launch) (D : va_G) (ad : Nat → Nat) (ca : Nat → ClassId) {v1 : Int32} {v2 : Int32} {u : ZS} {post : Int32 → ZS → Prop} (h : w_m_height v1 v2 u post) : zI l y_m_height (Cond.code y_m_height c_m_height 3 (some .int) :: zG) { frames := 2, cells := 0, slots := 0, locals := 32 } D (mT ca) zNs (mW ad ca) [.ref (ad 0), .int v1, .int v2] u post := by
  refine zI_of (cc := c_m_height) (maxL := 3) (ret := (some .int)) (by decide) (Nat.le_of_ble_eq_true rfl) ?_
  intro p e s m args below meth c ls A cx hI hl
  have cx0 := cx
  obtain ⟨hx, hb, hml, hown, hts, hN, hK, hr, hlk, hfr, hlc⟩ := cx
  have hl : lv_has ls 3 [(0, .ref (ad 0)), (1, .int v1), (2, .int v2)] := hl
  unfold w_m_height at h
  refine lv_iload_n hx hb d_m_height_0 rfl (lv_at hl 1 rfl) ?_
  refine lv_iconst (v := 5) hx hb d_m_height_1 zc_iconst_5 ?_
  refine lv_idiv hx hb d_m_height_2 (by decide) ?_
  refine lv_aload_n hx hb d_m_height_3 rfl (lv_at hl 0 rfl) ?_
  refine zr_i (va_runV (As := []) (rest := [.int (v1 / 5)]) ⟨hx, hb, hml, hown, hts⟩ (t_m_trump l D ad ca h _) (cwV 0 hts (zg_V q_826 q_828 q_28 q_44 q_829) rfl rfl rfl ⟨rfl, hd_m_trump⟩ ⟨Nat.le_trans (by decide) hfr, Nat.le_trans (by decide) hlc⟩) (z_preV zNs_ok hK hN hI 0 5 rfl rfl _) rfl rfl hl.1 rfl (lv_room (Nat.le_of_ble_eq_true rfl)) d_m_height_4 ⟨Nat.zero_le _, Nat.zero_le _⟩) hI ?_
  intro r1 u2 H locs h hI
  refine lv_icmp_ne hx hb d_m_height_7 rfl (fun hc => ?_) (fun hc => ?_)
  · have h := h.1 hc
    refine lv_iload_n hx hb d_m_height_19 rfl (lv_at hl 1 rfl) ?_
    refine lv_iconst (v := 5) hx hb d_m_height_20 zc_iconst_5 ?_
    refine lv_idiv hx hb d_m_height_21 (by decide) ?_
    refine lv_iload_n hx hb d_m_height_22 rfl (lv_at hl 2 rfl) ?_
    refine lv_icmp_ne hx hb d_m_height_23 rfl (fun hc => ?_) (fun hc => ?_)
    · have h := h.1 hc
      refine lv_iconst (v := 0) hx hb d_m_height_34 zc_iconst_0 ?_
      exact k_m_height_35 cx0  hI (lv_sub hl [] rfl) h
    · have h := h.2 hc
      refine lv_iconst (v := 1) hx hb d_m_height_26 zc_iconst_1 ?_
      refine lv_iload_n hx hb d_m_height_27 rfl (lv_at hl 1 rfl) ?_
      refine lv_iconst (v := 5) hx hb d_m_height_28 zc_iconst_5 ?_
      refine lv_irem hx hb d_m_height_29 (by decide) ?_
      refine lv_iadd hx hb d_m_height_30 ?_
      refine lv_goto hx hb d_m_height_31 rfl ?_
      exact k_m_height_35 cx0  hI (lv_sub hl [] rfl) h
  · have h := h.2 hc
    refine lv_bipush (v := 10) hx hb d_m_height_10 zc_bipush_10 ?_
    refine lv_iload_n hx hb d_m_height_12 rfl (lv_at hl 1 rfl) ?_
    refine lv_iconst (v := 5) hx hb d_m_height_13 zc_iconst_5 ?_
    refine lv_irem hx hb d_m_height_14 (by decide) ?_
    refine lv_iadd hx hb d_m_height_15 ?_
    refine lv_goto hx hb d_m_height_16 rfl ?_
    exact k_m_height_35 cx0  hI (lv_sub hl [] rfl) h
def b_m_goOn_183  (post : ZS → Prop)  (u : ZS) : Prop := post u
set_option maxRecDepth 100000 in
set_option maxHeartbeats 4000000 in
theorem k_m_goOn_183 {p : Program} {l : Launch} {e : Env} {R : Room} {s : State} {m : MethodId} {args : Array Value} {below : List Frame} {meth : Method} {c : Code} {D : va_G} {A : Nat → Prop} {ad : Nat → Nat} {ca : Nat → ClassId}  {post : ZS → Prop} (cx : zx p R s m args meth c c_m_goOn 5 3 54 "ShortBridgeModel" none zG zNs D (mT ca)) {u : ZS} {H : Heap} {locs : List Loc} {ls : Array Slot} (hI : zw D A s.heap (mW ad ca u) H locs) (hl : lv_has ls 5 []) (h : b_m_goOn_183 post  u) : W p l e R s m args below meth c H locs 0 0 (MQ below (va_Qv post (zE D (mT ca) (mW ad ca) A) A) args s 0 0 A) (F0 m 183 ls []) := by
  have cx0 := cx
  obtain ⟨hx, hb, hml, hown, hts, hN, hK, hr, hlk, hfr, hlc⟩ := cx
  unfold b_m_goOn_183 at h
  exact zret_v hx hb hr hlk hK hI h d_m_goOn_183
def b_m_goOn_182  (post : ZS → Prop) (s0 : Int32) (s1 : Int32) (u : ZS) : Prop := vp_in s1 21 ∧ (b_m_goOn_183 post (pI u 4 (Int32.toNatClampNeg s1) s0))
set_option maxRecDepth 100000 in
set_option maxHeartbeats 4000000 in
theorem k_m_goOn_182 {p : Program} {l : Launch} {e : Env} {R : Room} {s : State} {m : MethodId} {args : Array Value} {below : List Frame} {meth : Method} {c : Code} {D : va_G} {A : Nat → Prop} {ad : Nat → Nat} {ca : Nat → ClassId}  {post : ZS → Prop} (cx : zx p R s m args meth c c_m_goOn 5 3 54 "ShortBridgeModel" none zG zNs D (mT ca)) {s0 : Int32} {s1 : Int32} {u : ZS} {H : Heap} {locs : List Loc} {ls : Array Slot} (hI : zw D A s.heap (mW ad ca u) H locs) (hl : lv_has ls 5 []) (h : b_m_goOn_182 post s0 s1 u) : W p l e R s m args below meth c H locs 0 0 (MQ below (va_Qv post (zE D (mT ca) (mW ad ca) A) A) args s 0 0 A) (F0 m 182 ls [.int s0, .int s1, .ref (ad 6)]) := by
  have cx0 := cx
  obtain ⟨hx, hb, hml, hown, hts, hN, hK, hr, hlk, hfr, hlc⟩ := cx
  unfold b_m_goOn_182 at h
  obtain ⟨hi, h⟩ := h
  refine ms_wonAt hx hb hK hI hi d_m_goOn_182 ?_
  intro H locs hI
  exact k_m_goOn_183 cx0  hI (lv_sub hl [] rfl) h
def b_m_goOn_120 (r82 : Int32 → Int32 → Int32 → Int32 → ZS → Prop) (post : ZS → Prop) (v1 : Int32) (v2 : Int32) (v4 : Int32) (s0 : Int32) (u : ZS) : Prop := r82 v1 v2 s0 (v4 + 1) u
set_option maxRecDepth 100000 in
set_option maxHeartbeats 4000000 in
theorem k_m_goOn_120 {p : Program} {l : Launch} {e : Env} {R : Room} {s : State} {m : MethodId} {args : Array Value} {below : List Frame} {meth : Method} {c : Code} {D : va_G} {A : Nat → Prop} {ad : Nat → Nat} {ca : Nat → ClassId} {r82 : Int32 → Int32 → Int32 → Int32 → ZS → Prop} {post : ZS → Prop} (cx : zx p R s m args meth c c_m_goOn 5 3 54 "ShortBridgeModel" none zG zNs D (mT ca)) (hk82 : ∀ (v1 : Int32) (v2 : Int32) (v3 : Int32) (v4 : Int32) (u : ZS) (H : Heap) (locs : List Loc) (ls : Array Slot), zw D A s.heap (mW ad ca u) H locs → lv_has ls 5 [(0, .ref (ad 0)), (1, .int v1), (2, .int v2), (3, .int v3), (4, .int v4)] → r82 v1 v2 v3 v4 u → W p l e R s m args below meth c H locs 0 0 (MQ below (va_Qv post (zE D (mT ca) (mW ad ca) A) A) args s 0 0 A) (F0 m 82 ls [])) {v1 : Int32} {v2 : Int32} {v4 : Int32} {s0 : Int32} {u : ZS} {H : Heap} {locs : List Loc} {ls : Array Slot} (hI : zw D A s.heap (mW ad ca u) H locs) (hl : lv_has ls 5 [(0, .ref (ad 0)), (1, .int v1), (2, .int v2), (4, .int v4)]) (h : b_m_goOn_120 r82 post v1 v2 v4 s0 u) : W p l e R s m args below meth c H locs 0 0 (MQ below (va_Qv post (zE D (mT ca) (mW ad ca) A) A) args s 0 0 A) (F0 m 120 ls [.int s0]) := by
  have cx0 := cx
  obtain ⟨hx, hb, hml, hown, hts, hN, hK, hr, hlk, hfr, hlc⟩ := cx
  unfold b_m_goOn_120 at h
  refine lv_istore_n hx hb d_m_goOn_120 rfl hl (by decide) rfl ?_
  intro ls hl
  have hl : lv_has ls 5 [(3, .int s0), (0, .ref (ad 0)), (1, .int v1), (2, .int v2), (4, .int v4)] := hl
  refine lv_iinc (k := 4) (v := (v4 + 1)) hx hb d_m_goOn_121 hl rfl (zi_1 _) (by decide) rfl ?_
  intro ls hl
  have hl : lv_has ls 5 [(4, .int (v4 + 1)), (3, .int s0), (0, .ref (ad 0)), (1, .int v1), (2, .int v2)] := hl
  refine lv_goto hx hb d_m_goOn_124 rfl ?_
  exact hk82 _ _ _ _ _ _ _ _ hI (lv_sub hl [2, 3, 4, 1, 0] rfl) h
def b_m_goOn_82  (post : ZS → Prop) : Nat → Int32 → Int32 → Int32 → Int32 → ZS → Prop
  | 0, _, _, _, _, _ => False
  | n + 1, v1, v2, v3, v4, u => (v1 < v4 → vp_in v3 21 ∧ (vp_in (v1 + 1) 21 ∧ (vp_in v3 21 ∧ ((¬ ((aI (pI u 3 (Int32.toNatClampNeg (v1 + 1)) (aI u 3 (Int32.toNatClampNeg v3))) 3 (Int32.toNatClampNeg v3)) &&& 1) = ((fI (pI u 3 (Int32.toNatClampNeg (v1 + 1)) (aI u 3 (Int32.toNatClampNeg v3))) 8) &&& 1) → vp_in v1 21 ∧ (b_m_goOn_182 post (aI (pI u 3 (Int32.toNatClampNeg (v1 + 1)) (aI u 3 (Int32.toNatClampNeg v3))) 4 (Int32.toNatClampNeg v1)) (v1 + 1) (pI u 3 (Int32.toNatClampNeg (v1 + 1)) (aI u 3 (Int32.toNatClampNeg v3))))) ∧ (((aI (pI u 3 (Int32.toNatClampNeg (v1 + 1)) (aI u 3 (Int32.toNatClampNeg v3))) 3 (Int32.toNatClampNeg v3)) &&& 1) = ((fI (pI u 3 (Int32.toNatClampNeg (v1 + 1)) (aI u 3 (Int32.toNatClampNeg v3))) 8) &&& 1) → vp_in v1 21 ∧ (b_m_goOn_182 post ((aI (pI u 3 (Int32.toNatClampNeg (v1 + 1)) (aI u 3 (Int32.toNatClampNeg v3))) 4 (Int32.toNatClampNeg v1)) + 1) (v1 + 1) (pI u 3 (Int32.toNatClampNeg (v1 + 1)) (aI u 3 (Int32.toNatClampNeg v3))))))))) ∧ (¬ (v1 < v4) → vp_in v4 20 ∧ (w_m_height (aI u 2 (Int32.toNatClampNeg v4)) v2 u (fun r1 u2 => vp_in v3 20 ∧ (w_m_height (aI u2 2 (Int32.toNatClampNeg v3)) v2 u2 (fun r3 u4 => (r1 ≤ r3 → b_m_goOn_120 (b_m_goOn_82 post n) post v1 v2 v4 v3 u4) ∧ (¬ (r1 ≤ r3) → b_m_goOn_120 (b_m_goOn_82 post n) post v1 v2 v4 v4 u4))))))
set_option maxRecDepth 100000 in
set_option maxHeartbeats 4000000 in
theorem k_m_goOn_82 {p : Program} {l : Launch} {e : Env} {R : Room} {s : State} {m : MethodId} {args : Array Value} {below : List Frame} {meth : Method} {c : Code} {D : va_G} {A : Nat → Prop} {ad : Nat → Nat} {ca : Nat → ClassId}  {post : ZS → Prop} (cx : zx p R s m args meth c c_m_goOn 5 3 54 "ShortBridgeModel" none zG zNs D (mT ca)) : ∀ (n : Nat) (v1 : Int32) (v2 : Int32) (v3 : Int32) (v4 : Int32) (u : ZS) (H : Heap) (locs : List Loc) (ls : Array Slot), zw D A s.heap (mW ad ca u) H locs → lv_has ls 5 [(0, .ref (ad 0)), (1, .int v1), (2, .int v2), (3, .int v3), (4, .int v4)] → b_m_goOn_82 post n v1 v2 v3 v4 u → W p l e R s m args below meth c H locs 0 0 (MQ below (va_Qv post (zE D (mT ca) (mW ad ca) A) A) args s 0 0 A) (F0 m 82 ls []) := by
  have cx0 := cx
  obtain ⟨hx, hb, hml, hown, hts, hN, hK, hr, hlk, hfr, hlc⟩ := cx
  intro n
  induction n with
  | zero => intro v1 v2 v3 v4 u H locs ls hI hl h; exact (h : False).elim
  | succ n ih =>
    intro v1 v2 v3 v4 u H locs ls hI hl h
    unfold b_m_goOn_82 at h
    refine lv_iload hx hb d_m_goOn_82 (lv_at hl 4 rfl) ?_
    refine lv_iload_n hx hb d_m_goOn_84 rfl (lv_at hl 1 rfl) ?_
    refine lv_icmp_gt hx hb d_m_goOn_85 rfl (fun hc => ?_) (fun hc => ?_)
    · have h := h.1 hc
      refine lv_aload_n hx hb d_m_goOn_127 rfl (lv_at hl 0 rfl) ?_
      refine mg_M_turnAt hx hb hts hown hK hI (hts _ q_669) d_m_goOn_128 ?_
      refine lv_iload_n hx hb d_m_goOn_131 rfl (lv_at hl 1 rfl) ?_
      refine lv_iconst (v := 1) hx hb d_m_goOn_132 zc_iconst_1 ?_
      refine lv_iadd hx hb d_m_goOn_133 ?_
      refine lv_aload_n hx hb d_m_goOn_134 rfl (lv_at hl 0 rfl) ?_
      refine mg_M_turnAt hx hb hts hown hK hI (hts _ q_669) d_m_goOn_135 ?_
      refine lv_iload_n hx hb d_m_goOn_138 rfl (lv_at hl 3 rfl) ?_
      obtain ⟨hi, h⟩ := h
      refine ma_turnAt hx hb hK hI hi d_m_goOn_139 ?_
      obtain ⟨hi, h⟩ := h
      refine ms_turnAt hx hb hK hI hi d_m_goOn_140 ?_
      intro H locs hI
      refine lv_aload_n hx hb d_m_goOn_141 rfl (lv_at hl 0 rfl) ?_
      refine mg_M_wonAt hx hb hts hown hK hI (hts _ q_670) d_m_goOn_142 ?_
      refine lv_iload_n hx hb d_m_goOn_145 rfl (lv_at hl 1 rfl) ?_
      refine lv_iconst (v := 1) hx hb d_m_goOn_146 zc_iconst_1 ?_
      refine lv_iadd hx hb d_m_goOn_147 ?_
      refine lv_aload_n hx hb d_m_goOn_148 rfl (lv_at hl 0 rfl) ?_
      refine mg_M_turnAt hx hb hts hown hK hI (hts _ q_669) d_m_goOn_149 ?_
      refine lv_iload_n hx hb d_m_goOn_152 rfl (lv_at hl 3 rfl) ?_
      obtain ⟨hi, h⟩ := h
      refine ma_turnAt hx hb hK hI hi d_m_goOn_153 ?_
      refine lv_iconst (v := 1) hx hb d_m_goOn_154 zc_iconst_1 ?_
      refine lv_iand hx hb d_m_goOn_155 ?_
      refine lv_aload_n hx hb d_m_goOn_156 rfl (lv_at hl 0 rfl) ?_
      refine mg_M_declarer hx hb hts hown hK hI (hts _ q_667) d_m_goOn_157 ?_
      refine lv_iconst (v := 1) hx hb d_m_goOn_160 zc_iconst_1 ?_
      refine lv_iand hx hb d_m_goOn_161 ?_
      refine lv_icmp_ne hx hb d_m_goOn_162 rfl (fun hc => ?_) (fun hc => ?_)
      · have h := h.1 hc
        refine lv_aload_n hx hb d_m_goOn_176 rfl (lv_at hl 0 rfl) ?_
        refine mg_M_wonAt hx hb hts hown hK hI (hts _ q_670) d_m_goOn_177 ?_
        refine lv_iload_n hx hb d_m_goOn_180 rfl (lv_at hl 1 rfl) ?_
        obtain ⟨hi, h⟩ := h
        refine ma_wonAt hx hb hK hI hi d_m_goOn_181 ?_
        exact k_m_goOn_182 cx0  hI (lv_sub hl [] rfl) h
      · have h := h.2 hc
        refine lv_aload_n hx hb d_m_goOn_165 rfl (lv_at hl 0 rfl) ?_
        refine mg_M_wonAt hx hb hts hown hK hI (hts _ q_670) d_m_goOn_166 ?_
        refine lv_iload_n hx hb d_m_goOn_169 rfl (lv_at hl 1 rfl) ?_
        obtain ⟨hi, h⟩ := h
        refine ma_wonAt hx hb hK hI hi d_m_goOn_170 ?_
        refine lv_iconst (v := 1) hx hb d_m_goOn_171 zc_iconst_1 ?_
        refine lv_iadd hx hb d_m_goOn_172 ?_
        refine lv_goto hx hb d_m_goOn_173 rfl ?_
        exact k_m_goOn_182 cx0  hI (lv_sub hl [] rfl) h
    · have h := h.2 hc
      refine lv_aload_n hx hb d_m_goOn_88 rfl (lv_at hl 0 rfl) ?_
      refine lv_aload_n hx hb d_m_goOn_89 rfl (lv_at hl 0 rfl) ?_
      refine mg_M_card hx hb hts hown hK hI (hts _ q_664) d_m_goOn_90 ?_
      refine lv_iload hx hb d_m_goOn_93 (lv_at hl 4 rfl) ?_
      obtain ⟨hi, h⟩ := h
      refine ma_card hx hb hK hI hi d_m_goOn_95 ?_
      refine lv_iload_n hx hb d_m_goOn_96 rfl (lv_at hl 2 rfl) ?_
      refine zr_i (va_runV (As := [.int (aI u 2 (Int32.toNatClampNeg v4)), .int v2]) (rest := []) ⟨hx, hb, hml, hown, hts⟩ (t_m_height l D ad ca h _) (cwV 2 hts (zg_V q_822 q_824 q_27 q_44 q_825) rfl rfl rfl ⟨rfl, hd_m_height⟩ ⟨Nat.le_trans (by decide) hfr, Nat.le_trans (by decide) hlc⟩) (z_preV zNs_ok hK hN hI 0 5 rfl rfl _) rfl rfl hl.1 rfl (lv_room (Nat.le_of_ble_eq_true rfl)) d_m_goOn_97 ⟨Nat.zero_le _, Nat.zero_le _⟩) hI ?_
      intro r1 u2 H locs h hI
      refine lv_aload_n hx hb d_m_goOn_100 rfl (lv_at hl 0 rfl) ?_
      refine lv_aload_n hx hb d_m_goOn_101 rfl (lv_at hl 0 rfl) ?_
      refine mg_M_card hx hb hts hown hK hI (hts _ q_664) d_m_goOn_102 ?_
      refine lv_iload_n hx hb d_m_goOn_105 rfl (lv_at hl 3 rfl) ?_
      obtain ⟨hi, h⟩ := h
      refine ma_card hx hb hK hI hi d_m_goOn_106 ?_
      refine lv_iload_n hx hb d_m_goOn_107 rfl (lv_at hl 2 rfl) ?_
      refine zr_i (va_runV (As := [.int (aI u2 2 (Int32.toNatClampNeg v3)), .int v2]) (rest := [.int r1]) ⟨hx, hb, hml, hown, hts⟩ (t_m_height l D ad ca h _) (cwV 2 hts (zg_V q_822 q_824 q_27 q_44 q_825) rfl rfl rfl ⟨rfl, hd_m_height⟩ ⟨Nat.le_trans (by decide) hfr, Nat.le_trans (by decide) hlc⟩) (z_preV zNs_ok hK hN hI 0 5 rfl rfl _) rfl rfl hl.1 rfl (lv_room (Nat.le_of_ble_eq_true rfl)) d_m_goOn_108 ⟨Nat.zero_le _, Nat.zero_le _⟩) hI ?_
      intro r3 u4 H locs h hI
      refine lv_icmp_le hx hb d_m_goOn_111 rfl (fun hc => ?_) (fun hc => ?_)
      · have h := h.1 hc
        refine lv_iload_n hx hb d_m_goOn_119 rfl (lv_at hl 3 rfl) ?_
        exact k_m_goOn_120 cx0 ih hI (lv_sub hl [0, 1, 2, 4] rfl) h
      · have h := h.2 hc
        refine lv_iload hx hb d_m_goOn_114 (lv_at hl 4 rfl) ?_
        refine lv_goto hx hb d_m_goOn_116 rfl ?_
        exact k_m_goOn_120 cx0 ih hI (lv_sub hl [0, 1, 2, 4] rfl) h
def w_m_goOn (v1 : Int32) (u : ZS) (post : ZS → Prop) : Prop := vp_in v1 21 ∧ (vp_in (v1 + 1) 21 ∧ (vp_in v1 21 ∧ (vp_in (v1 + 1) 21 ∧ (vp_in v1 21 ∧ (vp_in v1 20 ∧ (vp_in (v1 + 1) 21 ∧ ((¬ (v1 - v1 / 4 * 4) = 3 → b_m_goOn_183 post (pI (pI (pI u 3 (Int32.toNatClampNeg (v1 + 1)) (((aI u 3 (Int32.toNatClampNeg v1)) + 1) &&& 3)) 4 (Int32.toNatClampNeg (v1 + 1)) (aI (pI u 3 (Int32.toNatClampNeg (v1 + 1)) (((aI u 3 (Int32.toNatClampNeg v1)) + 1) &&& 3)) 4 (Int32.toNatClampNeg v1))) 5 (Int32.toNatClampNeg (v1 + 1)) ((aI (pI (pI u 3 (Int32.toNatClampNeg (v1 + 1)) (((aI u 3 (Int32.toNatClampNeg v1)) + 1) &&& 3)) 4 (Int32.toNatClampNeg (v1 + 1)) (aI (pI u 3 (Int32.toNatClampNeg (v1 + 1)) (((aI u 3 (Int32.toNatClampNeg v1)) + 1) &&& 3)) 4 (Int32.toNatClampNeg v1))) 5 (Int32.toNatClampNeg v1)) ||| (1 <<< ((aI (pI (pI u 3 (Int32.toNatClampNeg (v1 + 1)) (((aI u 3 (Int32.toNatClampNeg v1)) + 1) &&& 3)) 4 (Int32.toNatClampNeg (v1 + 1)) (aI (pI u 3 (Int32.toNatClampNeg (v1 + 1)) (((aI u 3 (Int32.toNatClampNeg v1)) + 1) &&& 3)) 4 (Int32.toNatClampNeg v1))) 2 (Int32.toNatClampNeg v1)) &&& 31))))) ∧ ((v1 - v1 / 4 * 4) = 3 → vp_in (v1 - 3) 20 ∧ (∃ n0, b_m_goOn_82 post n0 v1 ((aI (pI (pI (pI u 3 (Int32.toNatClampNeg (v1 + 1)) (((aI u 3 (Int32.toNatClampNeg v1)) + 1) &&& 3)) 4 (Int32.toNatClampNeg (v1 + 1)) (aI (pI u 3 (Int32.toNatClampNeg (v1 + 1)) (((aI u 3 (Int32.toNatClampNeg v1)) + 1) &&& 3)) 4 (Int32.toNatClampNeg v1))) 5 (Int32.toNatClampNeg (v1 + 1)) ((aI (pI (pI u 3 (Int32.toNatClampNeg (v1 + 1)) (((aI u 3 (Int32.toNatClampNeg v1)) + 1) &&& 3)) 4 (Int32.toNatClampNeg (v1 + 1)) (aI (pI u 3 (Int32.toNatClampNeg (v1 + 1)) (((aI u 3 (Int32.toNatClampNeg v1)) + 1) &&& 3)) 4 (Int32.toNatClampNeg v1))) 5 (Int32.toNatClampNeg v1)) ||| (1 <<< ((aI (pI (pI u 3 (Int32.toNatClampNeg (v1 + 1)) (((aI u 3 (Int32.toNatClampNeg v1)) + 1) &&& 3)) 4 (Int32.toNatClampNeg (v1 + 1)) (aI (pI u 3 (Int32.toNatClampNeg (v1 + 1)) (((aI u 3 (Int32.toNatClampNeg v1)) + 1) &&& 3)) 4 (Int32.toNatClampNeg v1))) 2 (Int32.toNatClampNeg v1)) &&& 31)))) 2 (Int32.toNatClampNeg (v1 - 3))) / 5) (v1 - 3) (v1 - 2) (pI (pI (pI u 3 (Int32.toNatClampNeg (v1 + 1)) (((aI u 3 (Int32.toNatClampNeg v1)) + 1) &&& 3)) 4 (Int32.toNatClampNeg (v1 + 1)) (aI (pI u 3 (Int32.toNatClampNeg (v1 + 1)) (((aI u 3 (Int32.toNatClampNeg v1)) + 1) &&& 3)) 4 (Int32.toNatClampNeg v1))) 5 (Int32.toNatClampNeg (v1 + 1)) ((aI (pI (pI u 3 (Int32.toNatClampNeg (v1 + 1)) (((aI u 3 (Int32.toNatClampNeg v1)) + 1) &&& 3)) 4 (Int32.toNatClampNeg (v1 + 1)) (aI (pI u 3 (Int32.toNatClampNeg (v1 + 1)) (((aI u 3 (Int32.toNatClampNeg v1)) + 1) &&& 3)) 4 (Int32.toNatClampNeg v1))) 5 (Int32.toNatClampNeg v1)) ||| (1 <<< ((aI (pI (pI u 3 (Int32.toNatClampNeg (v1 + 1)) (((aI u 3 (Int32.toNatClampNeg v1)) + 1) &&& 3)) 4 (Int32.toNatClampNeg (v1 + 1)) (aI (pI u 3 (Int32.toNatClampNeg (v1 + 1)) (((aI u 3 (Int32.toNatClampNeg v1)) + 1) &&& 3)) 4 (Int32.toNatClampNeg v1))) 2 (Int32.toNatClampNeg v1)) &&& 31)))))))))))))
set_option maxRecDepth 100000 in
set_option maxHeartbeats 4000000 in
theorem t_m_goOn (l : Launch) (D : va_G) (ad : Nat → Nat) (ca : Nat → ClassId) {v1 : Int32} {u : ZS} {post : ZS → Prop} (h : w_m_goOn v1 u post) : zV l y_m_goOn (Cond.code y_m_goOn c_m_goOn 5 none :: zG) { frames := 3, cells := 0, slots := 0, locals := 54 } D (mT ca) zNs (mW ad ca) [.ref (ad 0), .int v1] u post := by
  refine zV_of (cc := c_m_goOn) (maxL := 5) (by decide) (Nat.le_of_ble_eq_true rfl) ?_
  intro p e s m args below meth c ls A cx hI hl
  have cx0 := cx
  obtain ⟨hx, hb, hml, hown, hts, hN, hK, hr, hlk, hfr, hlc⟩ := cx
  have hl : lv_has ls 5 [(0, .ref (ad 0)), (1, .int v1)] := hl
  unfold w_m_goOn at h
  refine lv_aload_n hx hb d_m_goOn_0 rfl (lv_at hl 0 rfl) ?_
  refine mg_M_turnAt hx hb hts hown hK hI (hts _ q_669) d_m_goOn_1 ?_
  refine lv_iload_n hx hb d_m_goOn_4 rfl (lv_at hl 1 rfl) ?_
  refine lv_iconst (v := 1) hx hb d_m_goOn_5 zc_iconst_1 ?_
  refine lv_iadd hx hb d_m_goOn_6 ?_
  refine lv_aload_n hx hb d_m_goOn_7 rfl (lv_at hl 0 rfl) ?_
  refine mg_M_turnAt hx hb hts hown hK hI (hts _ q_669) d_m_goOn_8 ?_
  refine lv_iload_n hx hb d_m_goOn_11 rfl (lv_at hl 1 rfl) ?_
  obtain ⟨hi, h⟩ := h
  refine ma_turnAt hx hb hK hI hi d_m_goOn_12 ?_
  refine lv_iconst (v := 1) hx hb d_m_goOn_13 zc_iconst_1 ?_
  refine lv_iadd hx hb d_m_goOn_14 ?_
  refine lv_iconst (v := 3) hx hb d_m_goOn_15 zc_iconst_3 ?_
  refine lv_iand hx hb d_m_goOn_16 ?_
  obtain ⟨hi, h⟩ := h
  refine ms_turnAt hx hb hK hI hi d_m_goOn_17 ?_
  intro H locs hI
  refine lv_aload_n hx hb d_m_goOn_18 rfl (lv_at hl 0 rfl) ?_
  refine mg_M_wonAt hx hb hts hown hK hI (hts _ q_670) d_m_goOn_19 ?_
  refine lv_iload_n hx hb d_m_goOn_22 rfl (lv_at hl 1 rfl) ?_
  refine lv_iconst (v := 1) hx hb d_m_goOn_23 zc_iconst_1 ?_
  refine lv_iadd hx hb d_m_goOn_24 ?_
  refine lv_aload_n hx hb d_m_goOn_25 rfl (lv_at hl 0 rfl) ?_
  refine mg_M_wonAt hx hb hts hown hK hI (hts _ q_670) d_m_goOn_26 ?_
  refine lv_iload_n hx hb d_m_goOn_29 rfl (lv_at hl 1 rfl) ?_
  obtain ⟨hi, h⟩ := h
  refine ma_wonAt hx hb hK hI hi d_m_goOn_30 ?_
  obtain ⟨hi, h⟩ := h
  refine ms_wonAt hx hb hK hI hi d_m_goOn_31 ?_
  intro H locs hI
  refine lv_aload_n hx hb d_m_goOn_32 rfl (lv_at hl 0 rfl) ?_
  refine mg_M_goneAt hx hb hts hown hK hI (hts _ q_671) d_m_goOn_33 ?_
  refine lv_iload_n hx hb d_m_goOn_36 rfl (lv_at hl 1 rfl) ?_
  refine lv_iconst (v := 1) hx hb d_m_goOn_37 zc_iconst_1 ?_
  refine lv_iadd hx hb d_m_goOn_38 ?_
  refine lv_aload_n hx hb d_m_goOn_39 rfl (lv_at hl 0 rfl) ?_
  refine mg_M_goneAt hx hb hts hown hK hI (hts _ q_671) d_m_goOn_40 ?_
  refine lv_iload_n hx hb d_m_goOn_43 rfl (lv_at hl 1 rfl) ?_
  obtain ⟨hi, h⟩ := h
  refine ma_goneAt hx hb hK hI hi d_m_goOn_44 ?_
  refine lv_iconst (v := 1) hx hb d_m_goOn_45 zc_iconst_1 ?_
  refine lv_aload_n hx hb d_m_goOn_46 rfl (lv_at hl 0 rfl) ?_
  refine mg_M_card hx hb hts hown hK hI (hts _ q_664) d_m_goOn_47 ?_
  refine lv_iload_n hx hb d_m_goOn_50 rfl (lv_at hl 1 rfl) ?_
  obtain ⟨hi, h⟩ := h
  refine ma_card hx hb hK hI hi d_m_goOn_51 ?_
  refine lv_ishl hx hb d_m_goOn_52 ?_
  refine lv_ior hx hb d_m_goOn_53 ?_
  obtain ⟨hi, h⟩ := h
  refine ms_goneAt hx hb hK hI hi d_m_goOn_54 ?_
  intro H locs hI
  refine lv_iload_n hx hb d_m_goOn_55 rfl (lv_at hl 1 rfl) ?_
  refine lv_iconst (v := 4) hx hb d_m_goOn_56 zc_iconst_4 ?_
  refine lv_irem hx hb d_m_goOn_57 (by decide) ?_
  refine lv_iconst (v := 3) hx hb d_m_goOn_58 zc_iconst_3 ?_
  refine lv_icmp_ne hx hb d_m_goOn_59 rfl (fun hc => ?_) (fun hc => ?_)
  · have h := h.1 hc
    exact k_m_goOn_183 cx0  hI (lv_sub hl [] rfl) h
  · have h := h.2 hc
    refine lv_aload_n hx hb d_m_goOn_62 rfl (lv_at hl 0 rfl) ?_
    refine mg_M_card hx hb hts hown hK hI (hts _ q_664) d_m_goOn_63 ?_
    refine lv_iload_n hx hb d_m_goOn_66 rfl (lv_at hl 1 rfl) ?_
    refine lv_iconst (v := 3) hx hb d_m_goOn_67 zc_iconst_3 ?_
    refine lv_isub hx hb d_m_goOn_68 ?_
    obtain ⟨hi, h⟩ := h
    refine ma_card hx hb hK hI hi d_m_goOn_69 ?_
    refine lv_iconst (v := 5) hx hb d_m_goOn_70 zc_iconst_5 ?_
    refine lv_idiv hx hb d_m_goOn_71 (by decide) ?_
    refine lv_istore_n hx hb d_m_goOn_72 rfl hl (by decide) rfl ?_
    intro ls hl
    have hl : lv_has ls 5 [(2, .int ((aI (pI (pI (pI u 3 (Int32.toNatClampNeg (v1 + 1)) (((aI u 3 (Int32.toNatClampNeg v1)) + 1) &&& 3)) 4 (Int32.toNatClampNeg (v1 + 1)) (aI (pI u 3 (Int32.toNatClampNeg (v1 + 1)) (((aI u 3 (Int32.toNatClampNeg v1)) + 1) &&& 3)) 4 (Int32.toNatClampNeg v1))) 5 (Int32.toNatClampNeg (v1 + 1)) ((aI (pI (pI u 3 (Int32.toNatClampNeg (v1 + 1)) (((aI u 3 (Int32.toNatClampNeg v1)) + 1) &&& 3)) 4 (Int32.toNatClampNeg (v1 + 1)) (aI (pI u 3 (Int32.toNatClampNeg (v1 + 1)) (((aI u 3 (Int32.toNatClampNeg v1)) + 1) &&& 3)) 4 (Int32.toNatClampNeg v1))) 5 (Int32.toNatClampNeg v1)) ||| (1 <<< ((aI (pI (pI u 3 (Int32.toNatClampNeg (v1 + 1)) (((aI u 3 (Int32.toNatClampNeg v1)) + 1) &&& 3)) 4 (Int32.toNatClampNeg (v1 + 1)) (aI (pI u 3 (Int32.toNatClampNeg (v1 + 1)) (((aI u 3 (Int32.toNatClampNeg v1)) + 1) &&& 3)) 4 (Int32.toNatClampNeg v1))) 2 (Int32.toNatClampNeg v1)) &&& 31)))) 2 (Int32.toNatClampNeg (v1 - 3))) / 5)), (0, .ref (ad 0)), (1, .int v1)] := hl
    refine lv_iload_n hx hb d_m_goOn_73 rfl (lv_at hl 2 rfl) ?_
    refine lv_iconst (v := 3) hx hb d_m_goOn_74 zc_iconst_3 ?_
    refine lv_isub hx hb d_m_goOn_75 ?_
    refine lv_istore_n hx hb d_m_goOn_76 rfl hl (by decide) rfl ?_
    intro ls hl
    have hl : lv_has ls 5 [(3, .int (v1 - 3)), (2, .int ((aI (pI (pI (pI u 3 (Int32.toNatClampNeg (v1 + 1)) (((aI u 3 (Int32.toNatClampNeg v1)) + 1) &&& 3)) 4 (Int32.toNatClampNeg (v1 + 1)) (aI (pI u 3 (Int32.toNatClampNeg (v1 + 1)) (((aI u 3 (Int32.toNatClampNeg v1)) + 1) &&& 3)) 4 (Int32.toNatClampNeg v1))) 5 (Int32.toNatClampNeg (v1 + 1)) ((aI (pI (pI u 3 (Int32.toNatClampNeg (v1 + 1)) (((aI u 3 (Int32.toNatClampNeg v1)) + 1) &&& 3)) 4 (Int32.toNatClampNeg (v1 + 1)) (aI (pI u 3 (Int32.toNatClampNeg (v1 + 1)) (((aI u 3 (Int32.toNatClampNeg v1)) + 1) &&& 3)) 4 (Int32.toNatClampNeg v1))) 5 (Int32.toNatClampNeg v1)) ||| (1 <<< ((aI (pI (pI u 3 (Int32.toNatClampNeg (v1 + 1)) (((aI u 3 (Int32.toNatClampNeg v1)) + 1) &&& 3)) 4 (Int32.toNatClampNeg (v1 + 1)) (aI (pI u 3 (Int32.toNatClampNeg (v1 + 1)) (((aI u 3 (Int32.toNatClampNeg v1)) + 1) &&& 3)) 4 (Int32.toNatClampNeg v1))) 2 (Int32.toNatClampNeg v1)) &&& 31)))) 2 (Int32.toNatClampNeg (v1 - 3))) / 5)), (0, .ref (ad 0)), (1, .int v1)] := hl
    refine lv_iload_n hx hb d_m_goOn_77 rfl (lv_at hl 3 rfl) ?_
    refine lv_iconst (v := 2) hx hb d_m_goOn_78 zc_iconst_2 ?_
    refine lv_isub hx hb d_m_goOn_79 ?_
    refine lv_istore hx hb d_m_goOn_80 hl (by decide) rfl ?_
    intro ls hl
    have hl : lv_has ls 5 [(4, .int (v1 - 2)), (3, .int (v1 - 3)), (2, .int ((aI (pI (pI (pI u 3 (Int32.toNatClampNeg (v1 + 1)) (((aI u 3 (Int32.toNatClampNeg v1)) + 1) &&& 3)) 4 (Int32.toNatClampNeg (v1 + 1)) (aI (pI u 3 (Int32.toNatClampNeg (v1 + 1)) (((aI u 3 (Int32.toNatClampNeg v1)) + 1) &&& 3)) 4 (Int32.toNatClampNeg v1))) 5 (Int32.toNatClampNeg (v1 + 1)) ((aI (pI (pI u 3 (Int32.toNatClampNeg (v1 + 1)) (((aI u 3 (Int32.toNatClampNeg v1)) + 1) &&& 3)) 4 (Int32.toNatClampNeg (v1 + 1)) (aI (pI u 3 (Int32.toNatClampNeg (v1 + 1)) (((aI u 3 (Int32.toNatClampNeg v1)) + 1) &&& 3)) 4 (Int32.toNatClampNeg v1))) 5 (Int32.toNatClampNeg v1)) ||| (1 <<< ((aI (pI (pI u 3 (Int32.toNatClampNeg (v1 + 1)) (((aI u 3 (Int32.toNatClampNeg v1)) + 1) &&& 3)) 4 (Int32.toNatClampNeg (v1 + 1)) (aI (pI u 3 (Int32.toNatClampNeg (v1 + 1)) (((aI u 3 (Int32.toNatClampNeg v1)) + 1) &&& 3)) 4 (Int32.toNatClampNeg v1))) 2 (Int32.toNatClampNeg v1)) &&& 31)))) 2 (Int32.toNatClampNeg (v1 - 3))) / 5)), (0, .ref (ad 0)), (1, .int v1)] := hl
    obtain ⟨n0, h⟩ := h
    exact k_m_goOn_82 cx0  n0 _ _ _ _ _ _ _ _ hI (lv_sub hl [3, 4, 2, 1, 0] rfl) h
