def b_m_readCards_23  (post : ZS → Prop) : Nat → Int32 → ZS → Prop
  | 0, _, _ => False
  | n + 1, v1, u => ((fI u 5) ≤ v1 → post u) ∧ (¬ ((fI u 5) ≤ v1) → w_m_goOn v1 u (fun u2 => b_m_readCards_23 post n (v1 + 1) u2))
set_option maxRecDepth 100000 in
set_option maxHeartbeats 4000000 in
theorem k_m_readCards_23 {p : Program} {l : Launch} {e : Env} {R : Room} {s : State} {m : MethodId} {args : Array Value} {below : List Frame} {meth : Method} {c : Code} {D : va_G} {A : Nat → Prop} {ad : Nat → Nat} {ca : Nat → ClassId}  {post : ZS → Prop} (cx : zx p R s m args meth c c_m_readCards 2 4 78 "ShortBridgeModel" none zG zNs D (mT ca)) : ∀ (n : Nat) (v1 : Int32) (u : ZS) (H : Heap) (locs : List Loc) (ls : Array Slot), zw D A s.heap (mW ad ca u) H locs → lv_has ls 2 [(0, .ref (ad 0)), (1, .int v1)] → b_m_readCards_23 post n v1 u → W p l e R s m args below meth c H locs 0 0 (MQ below (va_Qv post (zE D (mT ca) (mW ad ca) A) A) args s 0 0 A) (F0 m 23 ls []) := by
  have cx0 := cx
  obtain ⟨hx, hb, hml, hown, hts, hN, hK, hr, hlk, hfr, hlc⟩ := cx
  intro n
  induction n with
  | zero => intro v1 u H locs ls hI hl h; exact (h : False).elim
  | succ n ih =>
    intro v1 u H locs ls hI hl h
    unfold b_m_readCards_23 at h
    refine lv_iload_n hx hb d_m_readCards_23 rfl (lv_at hl 1 rfl) ?_
    refine lv_aload_n hx hb d_m_readCards_24 rfl (lv_at hl 0 rfl) ?_
    refine mg_M_cards hx hb hts hown hK hI (hts _ q_663) d_m_readCards_25 ?_
    refine lv_icmp_ge hx hb d_m_readCards_28 rfl (fun hc => ?_) (fun hc => ?_)
    · have h := h.1 hc
      exact zret_v hx hb hr hlk hK hI h d_m_readCards_42
    · have h := h.2 hc
      refine lv_aload_n hx hb d_m_readCards_31 rfl (lv_at hl 0 rfl) ?_
      refine lv_iload_n hx hb d_m_readCards_32 rfl (lv_at hl 1 rfl) ?_
      refine zr_v (va_runV (As := [.int v1]) (rest := []) ⟨hx, hb, hml, hown, hts⟩ (t_m_goOn l D ad ca h _) (cwV 1 hts (zg_V q_818 q_820 q_26 q_44 q_821) rfl rfl rfl ⟨rfl, hd_m_goOn⟩ ⟨Nat.le_trans (by decide) hfr, Nat.le_trans (by decide) hlc⟩) (z_preV zNs_ok hK hN hI 0 5 rfl rfl _) rfl rfl hl.1 rfl (lv_room (Nat.le_of_ble_eq_true rfl)) d_m_readCards_33 ⟨Nat.zero_le _, Nat.zero_le _⟩) hI ?_
      intro u2 H locs h hI
      refine lv_iinc (k := 1) (v := (v1 + 1)) hx hb d_m_readCards_36 hl rfl (zi_1 _) (by decide) rfl ?_
      intro ls hl
      have hl : lv_has ls 2 [(1, .int (v1 + 1)), (0, .ref (ad 0))] := hl
      refine lv_goto hx hb d_m_readCards_39 rfl ?_
      exact ih _ _ _ _ _ hI (lv_sub hl [1, 0] rfl) h
def w_m_readCards  (u : ZS) (post : ZS → Prop) : Prop := vp_in 0 21 ∧ (vp_in 0 21 ∧ (∃ n0, b_m_readCards_23 post n0 0 (pI (pI u 3 (Int32.toNatClampNeg 0) (((fI u 8) + 1) &&& 3)) 4 (Int32.toNatClampNeg 0) 0)))
set_option maxRecDepth 100000 in
set_option maxHeartbeats 4000000 in
theorem t_m_readCards (l : Launch) (D : va_G) (ad : Nat → Nat) (ca : Nat → ClassId)  {u : ZS} {post : ZS → Prop} (h : w_m_readCards  u post) : zV l y_m_readCards (Cond.code y_m_readCards c_m_readCards 2 none :: zG) { frames := 4, cells := 0, slots := 0, locals := 78 } D (mT ca) zNs (mW ad ca) [.ref (ad 0)] u post := by
  refine zV_of (cc := c_m_readCards) (maxL := 2) (by decide) (Nat.le_of_ble_eq_true rfl) ?_
  intro p e s m args below meth c ls A cx hI hl
  have cx0 := cx
  obtain ⟨hx, hb, hml, hown, hts, hN, hK, hr, hlk, hfr, hlc⟩ := cx
  have hl : lv_has ls 2 [(0, .ref (ad 0))] := hl
  unfold w_m_readCards at h
  refine lv_aload_n hx hb d_m_readCards_0 rfl (lv_at hl 0 rfl) ?_
  refine mg_M_turnAt hx hb hts hown hK hI (hts _ q_669) d_m_readCards_1 ?_
  refine lv_iconst (v := 0) hx hb d_m_readCards_4 zc_iconst_0 ?_
  refine lv_aload_n hx hb d_m_readCards_5 rfl (lv_at hl 0 rfl) ?_
  refine mg_M_declarer hx hb hts hown hK hI (hts _ q_667) d_m_readCards_6 ?_
  refine lv_iconst (v := 1) hx hb d_m_readCards_9 zc_iconst_1 ?_
  refine lv_iadd hx hb d_m_readCards_10 ?_
  refine lv_iconst (v := 3) hx hb d_m_readCards_11 zc_iconst_3 ?_
  refine lv_iand hx hb d_m_readCards_12 ?_
  obtain ⟨hi, h⟩ := h
  refine ms_turnAt hx hb hK hI hi d_m_readCards_13 ?_
  intro H locs hI
  refine lv_aload_n hx hb d_m_readCards_14 rfl (lv_at hl 0 rfl) ?_
  refine mg_M_wonAt hx hb hts hown hK hI (hts _ q_670) d_m_readCards_15 ?_
  refine lv_iconst (v := 0) hx hb d_m_readCards_18 zc_iconst_0 ?_
  refine lv_iconst (v := 0) hx hb d_m_readCards_19 zc_iconst_0 ?_
  obtain ⟨hi, h⟩ := h
  refine ms_wonAt hx hb hK hI hi d_m_readCards_20 ?_
  intro H locs hI
  refine lv_iconst (v := 0) hx hb d_m_readCards_21 zc_iconst_0 ?_
  refine lv_istore_n hx hb d_m_readCards_22 rfl hl (by decide) rfl ?_
  intro ls hl
  have hl : lv_has ls 2 [(1, .int 0), (0, .ref (ad 0))] := hl
  obtain ⟨n0, h⟩ := h
  exact k_m_readCards_23 cx0  n0 _ _ _ _ _ hI (lv_sub hl [1, 0] rfl) h
def b_m_holds_28  (post : Int32 → ZS → Prop) (s0 : Int32) (u : ZS) : Prop := (s0 = 0 ∨ s0 = 1) ∧ post s0 u
set_option maxRecDepth 100000 in
set_option maxHeartbeats 4000000 in
theorem k_m_holds_28 {p : Program} {l : Launch} {e : Env} {R : Room} {s : State} {m : MethodId} {args : Array Value} {below : List Frame} {meth : Method} {c : Code} {D : va_G} {A : Nat → Prop} {ad : Nat → Nat} {ca : Nat → ClassId}  {post : Int32 → ZS → Prop} (cx : zx p R s m args meth c c_m_holds 4 1 12 "ShortBridgeModel" (some .boolean) zG zNs D (mT ca)) {s0 : Int32} {u : ZS} {H : Heap} {locs : List Loc} {ls : Array Slot} (hI : zw D A s.heap (mW ad ca u) H locs) (hl : lv_has ls 4 []) (h : b_m_holds_28 post s0 u) : W p l e R s m args below meth c H locs 0 0 (MQ below (va_Qi post (zE D (mT ca) (mW ad ca) A) A) args s 0 0 A) (F0 m 28 ls [.int s0]) := by
  have cx0 := cx
  obtain ⟨hx, hb, hml, hown, hts, hN, hK, hr, hlk, hfr, hlc⟩ := cx
  unfold b_m_holds_28 at h
  exact zret_z hx hb hr hlk hK hI h.1 h.2 d_m_holds_28
def b_m_holds_27  (post : Int32 → ZS → Prop)  (u : ZS) : Prop := b_m_holds_28 post 0 u
set_option maxRecDepth 100000 in
set_option maxHeartbeats 4000000 in
theorem k_m_holds_27 {p : Program} {l : Launch} {e : Env} {R : Room} {s : State} {m : MethodId} {args : Array Value} {below : List Frame} {meth : Method} {c : Code} {D : va_G} {A : Nat → Prop} {ad : Nat → Nat} {ca : Nat → ClassId}  {post : Int32 → ZS → Prop} (cx : zx p R s m args meth c c_m_holds 4 1 12 "ShortBridgeModel" (some .boolean) zG zNs D (mT ca)) {u : ZS} {H : Heap} {locs : List Loc} {ls : Array Slot} (hI : zw D A s.heap (mW ad ca u) H locs) (hl : lv_has ls 4 []) (h : b_m_holds_27 post  u) : W p l e R s m args below meth c H locs 0 0 (MQ below (va_Qi post (zE D (mT ca) (mW ad ca) A) A) args s 0 0 A) (F0 m 27 ls []) := by
  have cx0 := cx
  obtain ⟨hx, hb, hml, hown, hts, hN, hK, hr, hlk, hfr, hlc⟩ := cx
  unfold b_m_holds_27 at h
  refine lv_iconst (v := 0) hx hb d_m_holds_27 zc_iconst_0 ?_
  exact k_m_holds_28 cx0  hI (lv_sub hl [] rfl) h
def w_m_holds (v1 : Int32) (v2 : Int32) (v3 : Int32) (u : ZS) (post : Int32 → ZS → Prop) : Prop := vp_in v2 20 ∧ ((¬ (aI u 0 (Int32.toNatClampNeg v2)) = v1 → b_m_holds_27 post u) ∧ ((aI u 0 (Int32.toNatClampNeg v2)) = v1 → vp_in v3 21 ∧ ((¬ (((aI u 5 (Int32.toNatClampNeg v3)) >>> (v2 &&& 31)) &&& 1) = 0 → b_m_holds_27 post u) ∧ ((((aI u 5 (Int32.toNatClampNeg v3)) >>> (v2 &&& 31)) &&& 1) = 0 → b_m_holds_28 post 1 u))))
set_option maxRecDepth 100000 in
set_option maxHeartbeats 4000000 in
theorem t_m_holds (l : Launch) (D : va_G) (ad : Nat → Nat) (ca : Nat → ClassId) {v1 : Int32} {v2 : Int32} {v3 : Int32} {u : ZS} {post : Int32 → ZS → Prop} (h : w_m_holds v1 v2 v3 u post) : zI l y_m_holds (Cond.code y_m_holds c_m_holds 4 (some .boolean) :: zG) { frames := 1, cells := 0, slots := 0, locals := 12 } D (mT ca) zNs (mW ad ca) [.ref (ad 0), .int v1, .int v2, .int v3] u post := by
  refine zI_of (cc := c_m_holds) (maxL := 4) (ret := (some .boolean)) (by decide) (Nat.le_of_ble_eq_true rfl) ?_
  intro p e s m args below meth c ls A cx hI hl
  have cx0 := cx
  obtain ⟨hx, hb, hml, hown, hts, hN, hK, hr, hlk, hfr, hlc⟩ := cx
  have hl : lv_has ls 4 [(0, .ref (ad 0)), (1, .int v1), (2, .int v2), (3, .int v3)] := hl
  unfold w_m_holds at h
  refine lv_aload_n hx hb d_m_holds_0 rfl (lv_at hl 0 rfl) ?_
  refine mg_M_owner hx hb hts hown hK hI (hts _ q_659) d_m_holds_1 ?_
  refine lv_iload_n hx hb d_m_holds_4 rfl (lv_at hl 2 rfl) ?_
  obtain ⟨hi, h⟩ := h
  refine ma_owner hx hb hK hI hi d_m_holds_5 ?_
  refine lv_iload_n hx hb d_m_holds_6 rfl (lv_at hl 1 rfl) ?_
  refine lv_icmp_ne hx hb d_m_holds_7 rfl (fun hc => ?_) (fun hc => ?_)
  · have h := h.1 hc
    exact k_m_holds_27 cx0  hI (lv_sub hl [] rfl) h
  · have h := h.2 hc
    refine lv_aload_n hx hb d_m_holds_10 rfl (lv_at hl 0 rfl) ?_
    refine mg_M_goneAt hx hb hts hown hK hI (hts _ q_671) d_m_holds_11 ?_
    refine lv_iload_n hx hb d_m_holds_14 rfl (lv_at hl 3 rfl) ?_
    obtain ⟨hi, h⟩ := h
    refine ma_goneAt hx hb hK hI hi d_m_holds_15 ?_
    refine lv_iload_n hx hb d_m_holds_16 rfl (lv_at hl 2 rfl) ?_
    refine lv_ishr hx hb d_m_holds_17 ?_
    refine lv_iconst (v := 1) hx hb d_m_holds_18 zc_iconst_1 ?_
    refine lv_iand hx hb d_m_holds_19 ?_
    refine lv_if_ne hx hb d_m_holds_20 rfl (fun hc => ?_) (fun hc => ?_)
    · have h := h.1 hc
      exact k_m_holds_27 cx0  hI (lv_sub hl [] rfl) h
    · have h := h.2 hc
      refine lv_iconst (v := 1) hx hb d_m_holds_23 zc_iconst_1 ?_
      refine lv_goto hx hb d_m_holds_24 rfl ?_
      exact k_m_holds_28 cx0  hI (lv_sub hl [] rfl) h
def b_m_follows_90  (post : Int32 → ZS → Prop) (s0 : Int32) (u : ZS) : Prop := (s0 = 0 ∨ s0 = 1) ∧ post s0 u
set_option maxRecDepth 100000 in
set_option maxHeartbeats 4000000 in
theorem k_m_follows_90 {p : Program} {l : Launch} {e : Env} {R : Room} {s : State} {m : MethodId} {args : Array Value} {below : List Frame} {meth : Method} {c : Code} {D : va_G} {A : Nat → Prop} {ad : Nat → Nat} {ca : Nat → ClassId}  {post : Int32 → ZS → Prop} (cx : zx p R s m args meth c c_m_follows 6 2 35 "ShortBridgeModel" (some .boolean) zG zNs D (mT ca)) {s0 : Int32} {u : ZS} {H : Heap} {locs : List Loc} {ls : Array Slot} (hI : zw D A s.heap (mW ad ca u) H locs) (hl : lv_has ls 6 []) (h : b_m_follows_90 post s0 u) : W p l e R s m args below meth c H locs 0 0 (MQ below (va_Qi post (zE D (mT ca) (mW ad ca) A) A) args s 0 0 A) (F0 m 90 ls [.int s0]) := by
  have cx0 := cx
  obtain ⟨hx, hb, hml, hown, hts, hN, hK, hr, hlk, hfr, hlc⟩ := cx
  unfold b_m_follows_90 at h
  exact zret_z hx hb hr hlk hK hI h.1 h.2 d_m_follows_90
def b_m_follows_85  (post : Int32 → ZS → Prop)  (u : ZS) : Prop := b_m_follows_90 post 1 u
set_option maxRecDepth 100000 in
set_option maxHeartbeats 4000000 in
theorem k_m_follows_85 {p : Program} {l : Launch} {e : Env} {R : Room} {s : State} {m : MethodId} {args : Array Value} {below : List Frame} {meth : Method} {c : Code} {D : va_G} {A : Nat → Prop} {ad : Nat → Nat} {ca : Nat → ClassId}  {post : Int32 → ZS → Prop} (cx : zx p R s m args meth c c_m_follows 6 2 35 "ShortBridgeModel" (some .boolean) zG zNs D (mT ca)) {u : ZS} {H : Heap} {locs : List Loc} {ls : Array Slot} (hI : zw D A s.heap (mW ad ca u) H locs) (hl : lv_has ls 6 []) (h : b_m_follows_85 post  u) : W p l e R s m args below meth c H locs 0 0 (MQ below (va_Qi post (zE D (mT ca) (mW ad ca) A) A) args s 0 0 A) (F0 m 85 ls []) := by
  have cx0 := cx
  obtain ⟨hx, hb, hml, hown, hts, hN, hK, hr, hlk, hfr, hlc⟩ := cx
  unfold b_m_follows_85 at h
  refine lv_iconst (v := 1) hx hb d_m_follows_85 zc_iconst_1 ?_
  refine lv_goto hx hb d_m_follows_86 rfl ?_
  exact k_m_follows_90 cx0  hI (lv_sub hl [] rfl) h
def b_m_follows_65 (r29 : Int32 → Int32 → Int32 → Int32 → Int32 → ZS → Prop) (post : Int32 → ZS → Prop) (v1 : Int32) (v2 : Int32) (v3 : Int32) (v5 : Int32) (s0 : Int32) (u : ZS) : Prop := r29 v1 v2 v3 s0 (v5 + 1) u
set_option maxRecDepth 100000 in
set_option maxHeartbeats 4000000 in
theorem k_m_follows_65 {p : Program} {l : Launch} {e : Env} {R : Room} {s : State} {m : MethodId} {args : Array Value} {below : List Frame} {meth : Method} {c : Code} {D : va_G} {A : Nat → Prop} {ad : Nat → Nat} {ca : Nat → ClassId} {r29 : Int32 → Int32 → Int32 → Int32 → Int32 → ZS → Prop} {post : Int32 → ZS → Prop} (cx : zx p R s m args meth c c_m_follows 6 2 35 "ShortBridgeModel" (some .boolean) zG zNs D (mT ca)) (hk29 : ∀ (v1 : Int32) (v2 : Int32) (v3 : Int32) (v4 : Int32) (v5 : Int32) (u : ZS) (H : Heap) (locs : List Loc) (ls : Array Slot), zw D A s.heap (mW ad ca u) H locs → lv_has ls 6 [(0, .ref (ad 0)), (1, .int v1), (2, .int v2), (3, .int v3), (4, .int v4), (5, .int v5)] → r29 v1 v2 v3 v4 v5 u → W p l e R s m args below meth c H locs 0 0 (MQ below (va_Qi post (zE D (mT ca) (mW ad ca) A) A) args s 0 0 A) (F0 m 29 ls [])) {v1 : Int32} {v2 : Int32} {v3 : Int32} {v5 : Int32} {s0 : Int32} {u : ZS} {H : Heap} {locs : List Loc} {ls : Array Slot} (hI : zw D A s.heap (mW ad ca u) H locs) (hl : lv_has ls 6 [(0, .ref (ad 0)), (1, .int v1), (2, .int v2), (3, .int v3), (5, .int v5)]) (h : b_m_follows_65 r29 post v1 v2 v3 v5 s0 u) : W p l e R s m args below meth c H locs 0 0 (MQ below (va_Qi post (zE D (mT ca) (mW ad ca) A) A) args s 0 0 A) (F0 m 65 ls [.int s0]) := by
  have cx0 := cx
  obtain ⟨hx, hb, hml, hown, hts, hN, hK, hr, hlk, hfr, hlc⟩ := cx
  unfold b_m_follows_65 at h
  refine lv_istore hx hb d_m_follows_65 hl (by decide) rfl ?_
  intro ls hl
  have hl : lv_has ls 6 [(4, .int s0), (0, .ref (ad 0)), (1, .int v1), (2, .int v2), (3, .int v3), (5, .int v5)] := hl
  refine lv_iinc (k := 5) (v := (v5 + 1)) hx hb d_m_follows_67 hl rfl (zi_1 _) (by decide) rfl ?_
  intro ls hl
  have hl : lv_has ls 6 [(5, .int (v5 + 1)), (4, .int s0), (0, .ref (ad 0)), (1, .int v1), (2, .int v2), (3, .int v3)] := hl
  refine lv_goto hx hb d_m_follows_70 rfl ?_
  exact hk29 _ _ _ _ _ _ _ _ _ hI (lv_sub hl [2, 3, 4, 5, 1, 0] rfl) h
def b_m_follows_60 (r29 : Int32 → Int32 → Int32 → Int32 → Int32 → ZS → Prop) (post : Int32 → ZS → Prop) (v1 : Int32) (v2 : Int32) (v3 : Int32) (v5 : Int32) (u : ZS) : Prop := b_m_follows_65 r29 post v1 v2 v3 v5 1 u
set_option maxRecDepth 100000 in
set_option maxHeartbeats 4000000 in
theorem k_m_follows_60 {p : Program} {l : Launch} {e : Env} {R : Room} {s : State} {m : MethodId} {args : Array Value} {below : List Frame} {meth : Method} {c : Code} {D : va_G} {A : Nat → Prop} {ad : Nat → Nat} {ca : Nat → ClassId} {r29 : Int32 → Int32 → Int32 → Int32 → Int32 → ZS → Prop} {post : Int32 → ZS → Prop} (cx : zx p R s m args meth c c_m_follows 6 2 35 "ShortBridgeModel" (some .boolean) zG zNs D (mT ca)) (hk29 : ∀ (v1 : Int32) (v2 : Int32) (v3 : Int32) (v4 : Int32) (v5 : Int32) (u : ZS) (H : Heap) (locs : List Loc) (ls : Array Slot), zw D A s.heap (mW ad ca u) H locs → lv_has ls 6 [(0, .ref (ad 0)), (1, .int v1), (2, .int v2), (3, .int v3), (4, .int v4), (5, .int v5)] → r29 v1 v2 v3 v4 v5 u → W p l e R s m args below meth c H locs 0 0 (MQ below (va_Qi post (zE D (mT ca) (mW ad ca) A) A) args s 0 0 A) (F0 m 29 ls [])) {v1 : Int32} {v2 : Int32} {v3 : Int32} {v5 : Int32} {u : ZS} {H : Heap} {locs : List Loc} {ls : Array Slot} (hI : zw D A s.heap (mW ad ca u) H locs) (hl : lv_has ls 6 [(0, .ref (ad 0)), (1, .int v1), (2, .int v2), (3, .int v3), (5, .int v5)]) (h : b_m_follows_60 r29 post v1 v2 v3 v5 u) : W p l e R s m args below meth c H locs 0 0 (MQ below (va_Qi post (zE D (mT ca) (mW ad ca) A) A) args s 0 0 A) (F0 m 60 ls []) := by
  have cx0 := cx
  obtain ⟨hx, hb, hml, hown, hts, hN, hK, hr, hlk, hfr, hlc⟩ := cx
  unfold b_m_follows_60 at h
  refine lv_iconst (v := 1) hx hb d_m_follows_60 zc_iconst_1 ?_
  refine lv_goto hx hb d_m_follows_61 rfl ?_
  exact k_m_follows_65 cx0 hk29 hI (lv_sub hl [0, 1, 2, 3, 4] rfl) h
def b_m_follows_29  (post : Int32 → ZS → Prop) : Nat → Int32 → Int32 → Int32 → Int32 → Int32 → ZS → Prop
  | 0, _, _, _, _, _, _ => False
  | n + 1, v1, v2, v3, v4, v5, u => (((5 * v3) + 5) ≤ v5 → ((v1 / 5) = v3 → b_m_follows_85 post u) ∧ (¬ ((v1 / 5) = v3) → (¬ v4 = 0 → b_m_follows_90 post 0 u) ∧ (v4 = 0 → b_m_follows_85 post u))) ∧ (¬ (((5 * v3) + 5) ≤ v5) → (¬ v4 = 0 → b_m_follows_60 (b_m_follows_29 post n) post v1 v2 v3 v5 u) ∧ (v4 = 0 → vp_in v2 21 ∧ (w_m_holds (aI u 3 (Int32.toNatClampNeg v2)) v5 v2 u (fun r1 u2 => (r1 = 0 → b_m_follows_65 (b_m_follows_29 post n) post v1 v2 v3 v5 0 u2) ∧ (¬ (r1 = 0) → b_m_follows_60 (b_m_follows_29 post n) post v1 v2 v3 v5 u2)))))
set_option maxRecDepth 100000 in
set_option maxHeartbeats 4000000 in
theorem k_m_follows_29 {p : Program} {l : Launch} {e : Env} {R : Room} {s : State} {m : MethodId} {args : Array Value} {below : List Frame} {meth : Method} {c : Code} {D : va_G} {A : Nat → Prop} {ad : Nat → Nat} {ca : Nat → ClassId}  {post : Int32 → ZS → Prop} (cx : zx p R s m args meth c c_m_follows 6 2 35 "ShortBridgeModel" (some .boolean) zG zNs D (mT ca)) : ∀ (n : Nat) (v1 : Int32) (v2 : Int32) (v3 : Int32) (v4 : Int32) (v5 : Int32) (u : ZS) (H : Heap) (locs : List Loc) (ls : Array Slot), zw D A s.heap (mW ad ca u) H locs → lv_has ls 6 [(0, .ref (ad 0)), (1, .int v1), (2, .int v2), (3, .int v3), (4, .int v4), (5, .int v5)] → b_m_follows_29 post n v1 v2 v3 v4 v5 u → W p l e R s m args below meth c H locs 0 0 (MQ below (va_Qi post (zE D (mT ca) (mW ad ca) A) A) args s 0 0 A) (F0 m 29 ls []) := by
  have cx0 := cx
  obtain ⟨hx, hb, hml, hown, hts, hN, hK, hr, hlk, hfr, hlc⟩ := cx
  intro n
  induction n with
  | zero => intro v1 v2 v3 v4 v5 u H locs ls hI hl h; exact (h : False).elim
  | succ n ih =>
    intro v1 v2 v3 v4 v5 u H locs ls hI hl h
    unfold b_m_follows_29 at h
    refine lv_iload hx hb d_m_follows_29 (lv_at hl 5 rfl) ?_
    refine lv_iconst (v := 5) hx hb d_m_follows_31 zc_iconst_5 ?_
    refine lv_iload_n hx hb d_m_follows_32 rfl (lv_at hl 3 rfl) ?_
    refine lv_imul hx hb d_m_follows_33 ?_
    refine lv_iconst (v := 5) hx hb d_m_follows_34 zc_iconst_5 ?_
    refine lv_iadd hx hb d_m_follows_35 ?_
    refine lv_icmp_ge hx hb d_m_follows_36 rfl (fun hc => ?_) (fun hc => ?_)
    · have h := h.1 hc
      refine lv_iload_n hx hb d_m_follows_73 rfl (lv_at hl 1 rfl) ?_
      refine lv_iconst (v := 5) hx hb d_m_follows_74 zc_iconst_5 ?_
      refine lv_idiv hx hb d_m_follows_75 (by decide) ?_
      refine lv_iload_n hx hb d_m_follows_76 rfl (lv_at hl 3 rfl) ?_
      refine lv_icmp_eq hx hb d_m_follows_77 rfl (fun hc => ?_) (fun hc => ?_)
      · have h := h.1 hc
        exact k_m_follows_85 cx0  hI (lv_sub hl [] rfl) h
      · have h := h.2 hc
        refine lv_iload hx hb d_m_follows_80 (lv_at hl 4 rfl) ?_
        refine lv_if_ne hx hb d_m_follows_82 rfl (fun hc => ?_) (fun hc => ?_)
        · have h := h.1 hc
          refine lv_iconst (v := 0) hx hb d_m_follows_89 zc_iconst_0 ?_
          exact k_m_follows_90 cx0  hI (lv_sub hl [] rfl) h
        · have h := h.2 hc
          exact k_m_follows_85 cx0  hI (lv_sub hl [] rfl) h
    · have h := h.2 hc
      refine lv_iload hx hb d_m_follows_39 (lv_at hl 4 rfl) ?_
      refine lv_if_ne hx hb d_m_follows_41 rfl (fun hc => ?_) (fun hc => ?_)
      · have h := h.1 hc
        exact k_m_follows_60 cx0 ih hI (lv_sub hl [0, 1, 2, 3, 5] rfl) h
      · have h := h.2 hc
        refine lv_aload_n hx hb d_m_follows_44 rfl (lv_at hl 0 rfl) ?_
        refine lv_aload_n hx hb d_m_follows_45 rfl (lv_at hl 0 rfl) ?_
        refine mg_M_turnAt hx hb hts hown hK hI (hts _ q_669) d_m_follows_46 ?_
        refine lv_iload_n hx hb d_m_follows_49 rfl (lv_at hl 2 rfl) ?_
        obtain ⟨hi, h⟩ := h
        refine ma_turnAt hx hb hK hI hi d_m_follows_50 ?_
        refine lv_iload hx hb d_m_follows_51 (lv_at hl 5 rfl) ?_
        refine lv_iload_n hx hb d_m_follows_53 rfl (lv_at hl 2 rfl) ?_
        refine zr_i (va_runV (As := [.int (aI u 3 (Int32.toNatClampNeg v2)), .int v5, .int v2]) (rest := []) ⟨hx, hb, hml, hown, hts⟩ (t_m_holds l D ad ca h _) (cwV 3 hts (zg_V q_834 q_836 q_29 q_44 q_837) rfl rfl rfl ⟨rfl, hd_m_holds⟩ ⟨Nat.le_trans (by decide) hfr, Nat.le_trans (by decide) hlc⟩) (z_preV zNs_ok hK hN hI 0 5 rfl rfl _) rfl rfl hl.1 rfl (lv_room (Nat.le_of_ble_eq_true rfl)) d_m_follows_54 ⟨Nat.zero_le _, Nat.zero_le _⟩) hI ?_
        intro r1 u2 H locs h hI
        refine lv_if_eq hx hb d_m_follows_57 rfl (fun hc => ?_) (fun hc => ?_)
        · have h := h.1 hc
          refine lv_iconst (v := 0) hx hb d_m_follows_64 zc_iconst_0 ?_
          exact k_m_follows_65 cx0 ih hI (lv_sub hl [0, 1, 2, 3, 5] rfl) h
        · have h := h.2 hc
          exact k_m_follows_60 cx0 ih hI (lv_sub hl [0, 1, 2, 3, 5] rfl) h
def w_m_follows (v1 : Int32) (v2 : Int32) (u : ZS) (post : Int32 → ZS → Prop) : Prop := (¬ (v2 - v2 / 4 * 4) = 0 → vp_in (v2 - (v2 - v2 / 4 * 4)) 20 ∧ (∃ n0, b_m_follows_29 post n0 v1 v2 ((aI u 2 (Int32.toNatClampNeg (v2 - (v2 - v2 / 4 * 4)))) / 5) 0 (5 * ((aI u 2 (Int32.toNatClampNeg (v2 - (v2 - v2 / 4 * 4)))) / 5)) u)) ∧ ((v2 - v2 / 4 * 4) = 0 → post 1 u)
set_option maxRecDepth 100000 in
set_option maxHeartbeats 4000000 in
theorem t_m_follows (l : Launch) (D : va_G) (ad : Nat → Nat) (ca : Nat → ClassId) {v1 : Int32} {v2 : Int32} {u : ZS} {post : Int32 → ZS → Prop} (h : w_m_follows v1 v2 u post) : zI l y_m_follows (Cond.code y_m_follows c_m_follows 6 (some .boolean) :: zG) { frames := 2, cells := 0, slots := 0, locals := 35 } D (mT ca) zNs (mW ad ca) [.ref (ad 0), .int v1, .int v2] u post := by
  refine zI_of (cc := c_m_follows) (maxL := 6) (ret := (some .boolean)) (by decide) (Nat.le_of_ble_eq_true rfl) ?_
  intro p e s m args below meth c ls A cx hI hl
  have cx0 := cx
  obtain ⟨hx, hb, hml, hown, hts, hN, hK, hr, hlk, hfr, hlc⟩ := cx
  have hl : lv_has ls 6 [(0, .ref (ad 0)), (1, .int v1), (2, .int v2)] := hl
  unfold w_m_follows at h
  refine lv_iload_n hx hb d_m_follows_0 rfl (lv_at hl 2 rfl) ?_
  refine lv_iconst (v := 4) hx hb d_m_follows_1 zc_iconst_4 ?_
  refine lv_irem hx hb d_m_follows_2 (by decide) ?_
  refine lv_if_ne hx hb d_m_follows_3 rfl (fun hc => ?_) (fun hc => ?_)
  · have h := h.1 hc
    refine lv_aload_n hx hb d_m_follows_8 rfl (lv_at hl 0 rfl) ?_
    refine mg_M_card hx hb hts hown hK hI (hts _ q_664) d_m_follows_9 ?_
    refine lv_iload_n hx hb d_m_follows_12 rfl (lv_at hl 2 rfl) ?_
    refine lv_iload_n hx hb d_m_follows_13 rfl (lv_at hl 2 rfl) ?_
    refine lv_iconst (v := 4) hx hb d_m_follows_14 zc_iconst_4 ?_
    refine lv_irem hx hb d_m_follows_15 (by decide) ?_
    refine lv_isub hx hb d_m_follows_16 ?_
    obtain ⟨hi, h⟩ := h
    refine ma_card hx hb hK hI hi d_m_follows_17 ?_
    refine lv_iconst (v := 5) hx hb d_m_follows_18 zc_iconst_5 ?_
    refine lv_idiv hx hb d_m_follows_19 (by decide) ?_
    refine lv_istore_n hx hb d_m_follows_20 rfl hl (by decide) rfl ?_
    intro ls hl
    have hl : lv_has ls 6 [(3, .int ((aI u 2 (Int32.toNatClampNeg (v2 - (v2 - v2 / 4 * 4)))) / 5)), (0, .ref (ad 0)), (1, .int v1), (2, .int v2)] := hl
    refine lv_iconst (v := 0) hx hb d_m_follows_21 zc_iconst_0 ?_
    refine lv_istore hx hb d_m_follows_22 hl (by decide) rfl ?_
    intro ls hl
    have hl : lv_has ls 6 [(4, .int 0), (3, .int ((aI u 2 (Int32.toNatClampNeg (v2 - (v2 - v2 / 4 * 4)))) / 5)), (0, .ref (ad 0)), (1, .int v1), (2, .int v2)] := hl
    refine lv_iconst (v := 5) hx hb d_m_follows_24 zc_iconst_5 ?_
    refine lv_iload_n hx hb d_m_follows_25 rfl (lv_at hl 1 rfl) ?_
    refine lv_imul hx hb d_m_follows_26 ?_
    refine lv_istore hx hb d_m_follows_27 hl (by decide) rfl ?_
    intro ls hl
    have hl : lv_has ls 6 [(5, .int (5 * ((aI u 2 (Int32.toNatClampNeg (v2 - (v2 - v2 / 4 * 4)))) / 5))), (4, .int 0), (3, .int ((aI u 2 (Int32.toNatClampNeg (v2 - (v2 - v2 / 4 * 4)))) / 5)), (0, .ref (ad 0)), (1, .int v1), (2, .int v2)] := hl
    obtain ⟨n0, h⟩ := h
    exact k_m_follows_29 cx0  n0 _ _ _ _ _ _ _ _ _ hI (lv_sub hl [3, 4, 5, 2, 1, 0] rfl) h
  · have h := h.2 hc
    refine lv_iconst (v := 1) hx hb d_m_follows_6 zc_iconst_1 ?_
    exact zret_z hx hb hr hlk hK hI (Or.inr rfl) h d_m_follows_7
def b_m_turn_46  (post : Int32 → ZS → Prop) (s0 : Int32) (u : ZS) : Prop := post s0 u
set_option maxRecDepth 100000 in
set_option maxHeartbeats 4000000 in
theorem k_m_turn_46 {p : Program} {l : Launch} {e : Env} {R : Room} {s : State} {m : MethodId} {args : Array Value} {below : List Frame} {meth : Method} {c : Code} {D : va_G} {A : Nat → Prop} {ad : Nat → Nat} {ca : Nat → ClassId}  {post : Int32 → ZS → Prop} (cx : zx p R s m args meth c c_m_turn 2 5 99 "ShortBridgeModel" (some .int) zG zNs D (mT ca)) {s0 : Int32} {u : ZS} {H : Heap} {locs : List Loc} {ls : Array Slot} (hI : zw D A s.heap (mW ad ca u) H locs) (hl : lv_has ls 2 []) (h : b_m_turn_46 post s0 u) : W p l e R s m args below meth c H locs 0 0 (MQ below (va_Qi post (zE D (mT ca) (mW ad ca) A) A) args s 0 0 A) (F0 m 46 ls [.int s0]) := by
  have cx0 := cx
  obtain ⟨hx, hb, hml, hown, hts, hN, hK, hr, hlk, hfr, hlc⟩ := cx
  unfold b_m_turn_46 at h
  exact zret_i hx hb hr hlk hK hI h d_m_turn_46
def w_m_turn  (u : ZS) (post : Int32 → ZS → Prop) : Prop := w_m_phaseNow  (sI u 0 0) (fun r1 u2 => (¬ r1 = 1 → w_m_readCards  u2 (fun u4 => (¬ r1 = 2 → b_m_turn_46 post (-1 : Int32) u4) ∧ (r1 = 2 → vp_in (fI u4 5) 21 ∧ (b_m_turn_46 post (aI u4 3 (Int32.toNatClampNeg (fI u4 5))) u4)))) ∧ (r1 = 1 → w_m_callerAt (fI u2 4) u2 (fun r5 u6 => post r5 u6)))
set_option maxRecDepth 100000 in
set_option maxHeartbeats 4000000 in
theorem t_m_turn (l : Launch) (D : va_G) (ad : Nat → Nat) (ca : Nat → ClassId)  {u : ZS} {post : Int32 → ZS → Prop} (h : w_m_turn  u post) : zI l y_m_turn (Cond.code y_m_turn c_m_turn 2 (some .int) :: zG) { frames := 5, cells := 0, slots := 0, locals := 99 } D (mT ca) zNs (mW ad ca) [.ref (ad 0)] u post := by
  refine zI_of (cc := c_m_turn) (maxL := 2) (ret := (some .int)) (by decide) (Nat.le_of_ble_eq_true rfl) ?_
  intro p e s m args below meth c ls A cx hI hl
  have cx0 := cx
  obtain ⟨hx, hb, hml, hown, hts, hN, hK, hr, hlk, hfr, hlc⟩ := cx
  have hl : lv_has ls 2 [(0, .ref (ad 0))] := hl
  unfold w_m_turn at h
  refine lv_aload_n hx hb d_m_turn_0 rfl (lv_at hl 0 rfl) ?_
  refine lv_iconst (v := 0) hx hb d_m_turn_1 zc_iconst_0 ?_
  refine mp_M_code hx hb hts hown hK hI (hts _ q_654) d_m_turn_2 ?_
  intro H locs hI
  refine lv_aload_n hx hb d_m_turn_5 rfl (lv_at hl 0 rfl) ?_
  refine zr_i (va_runV (As := []) (rest := []) ⟨hx, hb, hml, hown, hts⟩ (t_m_phaseNow l D ad ca h _) (cwV 0 hts (zg_V q_778 q_780 q_19 q_44 q_781) rfl rfl rfl ⟨rfl, hd_m_phaseNow⟩ ⟨Nat.le_trans (by decide) hfr, Nat.le_trans (by decide) hlc⟩) (z_preV zNs_ok hK hN hI 0 5 rfl rfl _) rfl rfl hl.1 rfl (lv_room (Nat.le_of_ble_eq_true rfl)) d_m_turn_6 ⟨Nat.zero_le _, Nat.zero_le _⟩) hI ?_
  intro r1 u2 H locs h hI
  refine lv_istore_n hx hb d_m_turn_9 rfl hl (by decide) rfl ?_
  intro ls hl
  have hl : lv_has ls 2 [(1, .int r1), (0, .ref (ad 0))] := hl
  refine lv_iload_n hx hb d_m_turn_10 rfl (lv_at hl 0 rfl) ?_
  refine lv_iconst (v := 1) hx hb d_m_turn_11 zc_iconst_1 ?_
  refine lv_icmp_ne hx hb d_m_turn_12 rfl (fun hc => ?_) (fun hc => ?_)
  · have h := h.1 hc
    refine lv_aload_n hx hb d_m_turn_24 rfl (lv_at hl 1 rfl) ?_
    refine zr_v (va_runV (As := []) (rest := []) ⟨hx, hb, hml, hown, hts⟩ (t_m_readCards l D ad ca h _) (cwV 0 hts (zg_V q_814 q_816 q_25 q_44 q_817) rfl rfl rfl ⟨rfl, hd_m_readCards⟩ ⟨Nat.le_trans (by decide) hfr, Nat.le_trans (by decide) hlc⟩) (z_preV zNs_ok hK hN hI 0 5 rfl rfl _) rfl rfl hl.1 rfl (lv_room (Nat.le_of_ble_eq_true rfl)) d_m_turn_25 ⟨Nat.zero_le _, Nat.zero_le _⟩) hI ?_
    intro u4 H locs h hI
    refine lv_iload_n hx hb d_m_turn_28 rfl (lv_at hl 0 rfl) ?_
    refine lv_iconst (v := 2) hx hb d_m_turn_29 zc_iconst_2 ?_
    refine lv_icmp_ne hx hb d_m_turn_30 rfl (fun hc => ?_) (fun hc => ?_)
    · have h := h.1 hc
      refine lv_iconst (v := (-1)) hx hb d_m_turn_45 zc_iconst_m1 ?_
      exact k_m_turn_46 cx0  hI (lv_sub hl [] rfl) h
    · have h := h.2 hc
      refine lv_aload_n hx hb d_m_turn_33 rfl (lv_at hl 1 rfl) ?_
      refine mg_M_turnAt hx hb hts hown hK hI (hts _ q_669) d_m_turn_34 ?_
      refine lv_aload_n hx hb d_m_turn_37 rfl (lv_at hl 1 rfl) ?_
      refine mg_M_cards hx hb hts hown hK hI (hts _ q_663) d_m_turn_38 ?_
      obtain ⟨hi, h⟩ := h
      refine ma_turnAt hx hb hK hI hi d_m_turn_41 ?_
      refine lv_goto hx hb d_m_turn_42 rfl ?_
      exact k_m_turn_46 cx0  hI (lv_sub hl [] rfl) h
  · have h := h.2 hc
    refine lv_aload_n hx hb d_m_turn_15 rfl (lv_at hl 1 rfl) ?_
    refine lv_aload_n hx hb d_m_turn_16 rfl (lv_at hl 1 rfl) ?_
    refine mg_M_calls hx hb hts hown hK hI (hts _ q_661) d_m_turn_17 ?_
    refine zr_i (va_runV (As := [.int (fI u2 4)]) (rest := []) ⟨hx, hb, hml, hown, hts⟩ (t_m_callerAt l D ad ca h _) (cwV 1 hts (zg_V q_790 q_792 q_22 q_44 q_793) rfl rfl rfl ⟨rfl, hd_m_callerAt⟩ ⟨Nat.le_trans (by decide) hfr, Nat.le_trans (by decide) hlc⟩) (z_preV zNs_ok hK hN hI 0 5 rfl rfl _) rfl rfl hl.1 rfl (lv_room (Nat.le_of_ble_eq_true rfl)) d_m_turn_20 ⟨Nat.zero_le _, Nat.zero_le _⟩) hI ?_
    intro r5 u6 H locs h hI
    exact zret_i hx hb hr hlk hK hI h d_m_turn_23
def b_m_has_29  (post : Int32 → ZS → Prop)  (u : ZS) : Prop := post 0 u
set_option maxRecDepth 100000 in
set_option maxHeartbeats 4000000 in
theorem k_m_has_29 {p : Program} {l : Launch} {e : Env} {R : Room} {s : State} {m : MethodId} {args : Array Value} {below : List Frame} {meth : Method} {c : Code} {D : va_G} {A : Nat → Prop} {ad : Nat → Nat} {ca : Nat → ClassId}  {post : Int32 → ZS → Prop} (cx : zx p R s m args meth c c_m_has 3 5 99 "ShortBridgeModel" (some .boolean) zG zNs D (mT ca)) {u : ZS} {H : Heap} {locs : List Loc} {ls : Array Slot} (hI : zw D A s.heap (mW ad ca u) H locs) (hl : lv_has ls 3 []) (h : b_m_has_29 post  u) : W p l e R s m args below meth c H locs 0 0 (MQ below (va_Qi post (zE D (mT ca) (mW ad ca) A) A) args s 0 0 A) (F0 m 29 ls []) := by
  have cx0 := cx
  obtain ⟨hx, hb, hml, hown, hts, hN, hK, hr, hlk, hfr, hlc⟩ := cx
  unfold b_m_has_29 at h
  refine lv_iconst (v := 0) hx hb d_m_has_29 zc_iconst_0 ?_
  exact zret_z hx hb hr hlk hK hI (Or.inl rfl) h d_m_has_30
def w_m_has (v1 : Int32) (v2 : Int32) (u : ZS) (post : Int32 → ZS → Prop) : Prop := ((fI (sI u 0 0) 1) = 0 → b_m_has_29 post (sI u 0 0)) ∧ (¬ ((fI (sI u 0 0) 1) = 0) → w_m_isPlayer v1 (sI u 0 0) (fun r1 u2 => (r1 = 0 → b_m_has_29 post u2) ∧ (¬ (r1 = 0) → (v2 < 0 → b_m_has_29 post u2) ∧ (¬ (v2 < 0) → (v2 ≤ 19 → w_m_readCards  u2 (fun u4 => w_m_holds v1 v2 (fI u4 5) u4 (fun r5 u6 => (r5 = 0 ∨ r5 = 1) ∧ post r5 u6))) ∧ (¬ (v2 ≤ 19) → b_m_has_29 post u2)))))
set_option maxRecDepth 100000 in
set_option maxHeartbeats 4000000 in
theorem t_m_has (l : Launch) (D : va_G) (ad : Nat → Nat) (ca : Nat → ClassId) {v1 : Int32} {v2 : Int32} {u : ZS} {post : Int32 → ZS → Prop} (h : w_m_has v1 v2 u post) : zI l y_m_has (Cond.code y_m_has c_m_has 3 (some .boolean) :: zG) { frames := 5, cells := 0, slots := 0, locals := 99 } D (mT ca) zNs (mW ad ca) [.ref (ad 0), .int v1, .int v2] u post := by
  refine zI_of (cc := c_m_has) (maxL := 3) (ret := (some .boolean)) (by decide) (Nat.le_of_ble_eq_true rfl) ?_
  intro p e s m args below meth c ls A cx hI hl
  have cx0 := cx
  obtain ⟨hx, hb, hml, hown, hts, hN, hK, hr, hlk, hfr, hlc⟩ := cx
  have hl : lv_has ls 3 [(0, .ref (ad 0)), (1, .int v1), (2, .int v2)] := hl
  unfold w_m_has at h
  refine lv_aload_n hx hb d_m_has_0 rfl (lv_at hl 0 rfl) ?_
  refine lv_iconst (v := 0) hx hb d_m_has_1 zc_iconst_0 ?_
  refine mp_M_code hx hb hts hown hK hI (hts _ q_654) d_m_has_2 ?_
  intro H locs hI
  refine lv_aload_n hx hb d_m_has_5 rfl (lv_at hl 0 rfl) ?_
  refine mg_M_board hx hb hts hown hK hI (hts _ q_655) d_m_has_6 ?_
  refine lv_if_eq hx hb d_m_has_9 rfl (fun hc => ?_) (fun hc => ?_)
  · have h := h.1 hc
    exact k_m_has_29 cx0  hI (lv_sub hl [] rfl) h
  · have h := h.2 hc
    refine lv_iload_n hx hb d_m_has_12 rfl (lv_at hl 1 rfl) ?_
    refine zr_i (va_runS (As := [.int v1]) (rest := []) ⟨hx, hb, hml, hown, hts⟩ (t_m_isPlayer l D ad ca h _) (va_cwS 1 hts (zg_S q_739 q_740 q_44 q_741) rfl rfl rfl hd_m_isPlayer ⟨Nat.le_trans (by decide) hfr, Nat.le_trans (by decide) hlc⟩) (z_preS zNs_ok hK hN hI _) rfl rfl hl.1 rfl (lv_room (Nat.le_of_ble_eq_true rfl)) d_m_has_13 ⟨Nat.zero_le _, Nat.zero_le _⟩) hI ?_
    intro r1 u2 H locs h hI
    refine lv_if_eq hx hb d_m_has_16 rfl (fun hc => ?_) (fun hc => ?_)
    · have h := h.1 hc
      exact k_m_has_29 cx0  hI (lv_sub hl [] rfl) h
    · have h := h.2 hc
      refine lv_iload_n hx hb d_m_has_19 rfl (lv_at hl 2 rfl) ?_
      refine lv_if_lt hx hb d_m_has_20 rfl (fun hc => ?_) (fun hc => ?_)
      · have h := h.1 hc
        exact k_m_has_29 cx0  hI (lv_sub hl [] rfl) h
      · have h := h.2 hc
        refine lv_iload_n hx hb d_m_has_23 rfl (lv_at hl 2 rfl) ?_
        refine lv_bipush (v := 19) hx hb d_m_has_24 zc_bipush_19 ?_
        refine lv_icmp_le hx hb d_m_has_26 rfl (fun hc => ?_) (fun hc => ?_)
        · have h := h.1 hc
          refine lv_aload_n hx hb d_m_has_31 rfl (lv_at hl 0 rfl) ?_
          refine zr_v (va_runV (As := []) (rest := []) ⟨hx, hb, hml, hown, hts⟩ (t_m_readCards l D ad ca h _) (cwV 0 hts (zg_V q_814 q_816 q_25 q_44 q_817) rfl rfl rfl ⟨rfl, hd_m_readCards⟩ ⟨Nat.le_trans (by decide) hfr, Nat.le_trans (by decide) hlc⟩) (z_preV zNs_ok hK hN hI 0 5 rfl rfl _) rfl rfl hl.1 rfl (lv_room (Nat.le_of_ble_eq_true rfl)) d_m_has_32 ⟨Nat.zero_le _, Nat.zero_le _⟩) hI ?_
          intro u4 H locs h hI
          refine lv_aload_n hx hb d_m_has_35 rfl (lv_at hl 0 rfl) ?_
          refine lv_iload_n hx hb d_m_has_36 rfl (lv_at hl 1 rfl) ?_
          refine lv_iload_n hx hb d_m_has_37 rfl (lv_at hl 2 rfl) ?_
          refine lv_aload_n hx hb d_m_has_38 rfl (lv_at hl 0 rfl) ?_
          refine mg_M_cards hx hb hts hown hK hI (hts _ q_663) d_m_has_39 ?_
          refine zr_i (va_runV (As := [.int v1, .int v2, .int (fI u4 5)]) (rest := []) ⟨hx, hb, hml, hown, hts⟩ (t_m_holds l D ad ca h _) (cwV 3 hts (zg_V q_834 q_836 q_29 q_44 q_837) rfl rfl rfl ⟨rfl, hd_m_holds⟩ ⟨Nat.le_trans (by decide) hfr, Nat.le_trans (by decide) hlc⟩) (z_preV zNs_ok hK hN hI 0 5 rfl rfl _) rfl rfl hl.1 rfl (lv_room (Nat.le_of_ble_eq_true rfl)) d_m_has_42 ⟨Nat.zero_le _, Nat.zero_le _⟩) hI ?_
          intro r5 u6 H locs h hI
          exact zret_z hx hb hr hlk hK hI h.1 h.2 d_m_has_45
        · have h := h.2 hc
          exact k_m_has_29 cx0  hI (lv_sub hl [] rfl) h
def b_m_play_122  (post : ZS → Prop)  (u : ZS) : Prop := post u
set_option maxRecDepth 100000 in
set_option maxHeartbeats 4000000 in
theorem k_m_play_122 {p : Program} {l : Launch} {e : Env} {R : Room} {s : State} {m : MethodId} {args : Array Value} {below : List Frame} {meth : Method} {c : Code} {D : va_G} {A : Nat → Prop} {ad : Nat → Nat} {ca : Nat → ClassId}  {post : ZS → Prop} (cx : zx p R s m args meth c c_m_play 3 5 99 "ShortBridgeModel" none zG zNs D (mT ca)) {u : ZS} {H : Heap} {locs : List Loc} {ls : Array Slot} (hI : zw D A s.heap (mW ad ca u) H locs) (hl : lv_has ls 3 []) (h : b_m_play_122 post  u) : W p l e R s m args below meth c H locs 0 0 (MQ below (va_Qv post (zE D (mT ca) (mW ad ca) A) A) args s 0 0 A) (F0 m 122 ls []) := by
  have cx0 := cx
  obtain ⟨hx, hb, hml, hown, hts, hN, hK, hr, hlk, hfr, hlc⟩ := cx
  unfold b_m_play_122 at h
  exact zret_v hx hb hr hlk hK hI h d_m_play_122
def b_m_play_92  (post : ZS → Prop) (v1 : Int32) (s0 : Int32) (u : ZS) : Prop := (¬ (fI (sI u 0 s0) 0) = 0 → b_m_play_122 post (sI u 0 s0)) ∧ ((fI (sI u 0 s0) 0) = 0 → vp_in (fI (sI u 0 s0) 5) 20 ∧ (b_m_play_122 post (sI (pI (sI u 0 s0) 2 (Int32.toNatClampNeg (fI (sI u 0 s0) 5)) v1) 5 ((fI (pI (sI u 0 s0) 2 (Int32.toNatClampNeg (fI (sI u 0 s0) 5)) v1) 5) + 1))))
set_option maxRecDepth 100000 in
set_option maxHeartbeats 4000000 in
theorem k_m_play_92 {p : Program} {l : Launch} {e : Env} {R : Room} {s : State} {m : MethodId} {args : Array Value} {below : List Frame} {meth : Method} {c : Code} {D : va_G} {A : Nat → Prop} {ad : Nat → Nat} {ca : Nat → ClassId}  {post : ZS → Prop} (cx : zx p R s m args meth c c_m_play 3 5 99 "ShortBridgeModel" none zG zNs D (mT ca)) {v1 : Int32} {s0 : Int32} {u : ZS} {H : Heap} {locs : List Loc} {ls : Array Slot} (hI : zw D A s.heap (mW ad ca u) H locs) (hl : lv_has ls 3 [(0, .ref (ad 0)), (1, .int v1)]) (h : b_m_play_92 post v1 s0 u) : W p l e R s m args below meth c H locs 0 0 (MQ below (va_Qv post (zE D (mT ca) (mW ad ca) A) A) args s 0 0 A) (F0 m 92 ls [.int s0, .ref (ad 0)]) := by
  have cx0 := cx
  obtain ⟨hx, hb, hml, hown, hts, hN, hK, hr, hlk, hfr, hlc⟩ := cx
  unfold b_m_play_92 at h
  refine mp_M_code hx hb hts hown hK hI (hts _ q_654) d_m_play_92 ?_
  intro H locs hI
  refine lv_aload_n hx hb d_m_play_95 rfl (lv_at hl 0 rfl) ?_
  refine mg_M_code hx hb hts hown hK hI (hts _ q_654) d_m_play_96 ?_
  refine lv_if_ne hx hb d_m_play_99 rfl (fun hc => ?_) (fun hc => ?_)
  · have h := h.1 hc
    exact k_m_play_122 cx0  hI (lv_sub hl [] rfl) h
  · have h := h.2 hc
    refine lv_aload_n hx hb d_m_play_102 rfl (lv_at hl 0 rfl) ?_
    refine mg_M_card hx hb hts hown hK hI (hts _ q_664) d_m_play_103 ?_
    refine lv_aload_n hx hb d_m_play_106 rfl (lv_at hl 0 rfl) ?_
    refine mg_M_cards hx hb hts hown hK hI (hts _ q_663) d_m_play_107 ?_
    refine lv_iload_n hx hb d_m_play_110 rfl (lv_at hl 1 rfl) ?_
    obtain ⟨hi, h⟩ := h
    refine ms_card hx hb hK hI hi d_m_play_111 ?_
    intro H locs hI
    refine lv_aload_n hx hb d_m_play_112 rfl (lv_at hl 0 rfl) ?_
    refine lv_aload_n hx hb d_m_play_113 rfl (lv_at hl 0 rfl) ?_
    refine mg_M_cards hx hb hts hown hK hI (hts _ q_663) d_m_play_114 ?_
    refine lv_iconst (v := 1) hx hb d_m_play_117 zc_iconst_1 ?_
    refine lv_iadd hx hb d_m_play_118 ?_
    refine mp_M_cards hx hb hts hown hK hI (hts _ q_663) d_m_play_119 ?_
    intro H locs hI
    exact k_m_play_122 cx0  hI (lv_sub hl [] rfl) h
def b_m_play_65  (post : ZS → Prop) (v1 : Int32) (s0 : Int32) (u : ZS) : Prop := (¬ s0 = 0 → w_m_follows v1 (fI u 5) u (fun r1 u2 => (¬ r1 = 0 → b_m_play_92 post v1 0 u2) ∧ (r1 = 0 → b_m_play_92 post v1 3 u2))) ∧ (s0 = 0 → b_m_play_92 post v1 2 u)
set_option maxRecDepth 100000 in
set_option maxHeartbeats 4000000 in
theorem k_m_play_65 {p : Program} {l : Launch} {e : Env} {R : Room} {s : State} {m : MethodId} {args : Array Value} {below : List Frame} {meth : Method} {c : Code} {D : va_G} {A : Nat → Prop} {ad : Nat → Nat} {ca : Nat → ClassId}  {post : ZS → Prop} (cx : zx p R s m args meth c c_m_play 3 5 99 "ShortBridgeModel" none zG zNs D (mT ca)) {v1 : Int32} {s0 : Int32} {u : ZS} {H : Heap} {locs : List Loc} {ls : Array Slot} (hI : zw D A s.heap (mW ad ca u) H locs) (hl : lv_has ls 3 [(0, .ref (ad 0)), (1, .int v1)]) (h : b_m_play_65 post v1 s0 u) : W p l e R s m args below meth c H locs 0 0 (MQ below (va_Qv post (zE D (mT ca) (mW ad ca) A) A) args s 0 0 A) (F0 m 65 ls [.int s0]) := by
  have cx0 := cx
  obtain ⟨hx, hb, hml, hown, hts, hN, hK, hr, hlk, hfr, hlc⟩ := cx
  unfold b_m_play_65 at h
  refine lv_istore_n hx hb d_m_play_65 rfl hl (by decide) rfl ?_
  intro ls hl
  have hl : lv_has ls 3 [(2, .int s0), (0, .ref (ad 0)), (1, .int v1)] := hl
  refine lv_aload_n hx hb d_m_play_66 rfl (lv_at hl 1 rfl) ?_
  refine lv_iload_n hx hb d_m_play_67 rfl (lv_at hl 0 rfl) ?_
  refine lv_if_ne hx hb d_m_play_68 rfl (fun hc => ?_) (fun hc => ?_)
  · have h := h.1 hc
    refine lv_aload_n hx hb d_m_play_75 rfl (lv_at hl 1 rfl) ?_
    refine lv_iload_n hx hb d_m_play_76 rfl (lv_at hl 2 rfl) ?_
    refine lv_aload_n hx hb d_m_play_77 rfl (lv_at hl 1 rfl) ?_
    refine mg_M_cards hx hb hts hown hK hI (hts _ q_663) d_m_play_78 ?_
    refine zr_i (va_runV (As := [.int v1, .int (fI u 5)]) (rest := [.ref (ad 0)]) ⟨hx, hb, hml, hown, hts⟩ (t_m_follows l D ad ca h _) (cwV 2 hts (zg_V q_842 q_844 q_30 q_44 q_845) rfl rfl rfl ⟨rfl, hd_m_follows⟩ ⟨Nat.le_trans (by decide) hfr, Nat.le_trans (by decide) hlc⟩) (z_preV zNs_ok hK hN hI 0 5 rfl rfl _) rfl rfl hl.1 rfl (lv_room (Nat.le_of_ble_eq_true rfl)) d_m_play_81 ⟨Nat.zero_le _, Nat.zero_le _⟩) hI ?_
    intro r1 u2 H locs h hI
    refine lv_if_ne hx hb d_m_play_84 rfl (fun hc => ?_) (fun hc => ?_)
    · have h := h.1 hc
      refine lv_iconst (v := 0) hx hb d_m_play_91 zc_iconst_0 ?_
      exact k_m_play_92 cx0  hI (lv_sub hl [1, 2] rfl) h
    · have h := h.2 hc
      refine lv_iconst (v := 3) hx hb d_m_play_87 zc_iconst_3 ?_
      refine lv_goto hx hb d_m_play_88 rfl ?_
      exact k_m_play_92 cx0  hI (lv_sub hl [1, 2] rfl) h
  · have h := h.2 hc
    refine lv_iconst (v := 2) hx hb d_m_play_71 zc_iconst_2 ?_
    refine lv_goto hx hb d_m_play_72 rfl ?_
    exact k_m_play_92 cx0  hI (lv_sub hl [1, 2] rfl) h
def b_m_play_64  (post : ZS → Prop) (v1 : Int32) (u : ZS) : Prop := b_m_play_65 post v1 0 u
set_option maxRecDepth 100000 in
set_option maxHeartbeats 4000000 in
theorem k_m_play_64 {p : Program} {l : Launch} {e : Env} {R : Room} {s : State} {m : MethodId} {args : Array Value} {below : List Frame} {meth : Method} {c : Code} {D : va_G} {A : Nat → Prop} {ad : Nat → Nat} {ca : Nat → ClassId}  {post : ZS → Prop} (cx : zx p R s m args meth c c_m_play 3 5 99 "ShortBridgeModel" none zG zNs D (mT ca)) {v1 : Int32} {u : ZS} {H : Heap} {locs : List Loc} {ls : Array Slot} (hI : zw D A s.heap (mW ad ca u) H locs) (hl : lv_has ls 3 [(0, .ref (ad 0)), (1, .int v1)]) (h : b_m_play_64 post v1 u) : W p l e R s m args below meth c H locs 0 0 (MQ below (va_Qv post (zE D (mT ca) (mW ad ca) A) A) args s 0 0 A) (F0 m 64 ls []) := by
  have cx0 := cx
  obtain ⟨hx, hb, hml, hown, hts, hN, hK, hr, hlk, hfr, hlc⟩ := cx
  unfold b_m_play_64 at h
  refine lv_iconst (v := 0) hx hb d_m_play_64 zc_iconst_0 ?_
  exact k_m_play_65 cx0  hI (lv_sub hl [0, 1] rfl) h
def b_m_play_14  (post : ZS → Prop) (v1 : Int32) (s0 : Int32) (u : ZS) : Prop := ((fI (sI u 0 s0) 0) ≤ 0 → w_m_readCards  (sI u 0 s0) (fun u4 => (v1 < 0 → b_m_play_64 post v1 u4) ∧ (¬ (v1 < 0) → (20 ≤ v1 → b_m_play_64 post v1 u4) ∧ (¬ (20 ≤ v1) → vp_in (fI u4 5) 21 ∧ (w_m_holds (aI u4 3 (Int32.toNatClampNeg (fI u4 5))) v1 (fI u4 5) u4 (fun r5 u6 => (r5 = 0 → b_m_play_64 post v1 u6) ∧ (¬ (r5 = 0) → b_m_play_65 post v1 1 u6))))))) ∧ (¬ ((fI (sI u 0 s0) 0) ≤ 0) → post (sI u 0 s0))
set_option maxRecDepth 100000 in
set_option maxHeartbeats 4000000 in
theorem k_m_play_14 {p : Program} {l : Launch} {e : Env} {R : Room} {s : State} {m : MethodId} {args : Array Value} {below : List Frame} {meth : Method} {c : Code} {D : va_G} {A : Nat → Prop} {ad : Nat → Nat} {ca : Nat → ClassId}  {post : ZS → Prop} (cx : zx p R s m args meth c c_m_play 3 5 99 "ShortBridgeModel" none zG zNs D (mT ca)) {v1 : Int32} {s0 : Int32} {u : ZS} {H : Heap} {locs : List Loc} {ls : Array Slot} (hI : zw D A s.heap (mW ad ca u) H locs) (hl : lv_has ls 3 [(0, .ref (ad 0)), (1, .int v1)]) (h : b_m_play_14 post v1 s0 u) : W p l e R s m args below meth c H locs 0 0 (MQ below (va_Qv post (zE D (mT ca) (mW ad ca) A) A) args s 0 0 A) (F0 m 14 ls [.int s0, .ref (ad 0)]) := by
  have cx0 := cx
  obtain ⟨hx, hb, hml, hown, hts, hN, hK, hr, hlk, hfr, hlc⟩ := cx
  unfold b_m_play_14 at h
  refine mp_M_code hx hb hts hown hK hI (hts _ q_654) d_m_play_14 ?_
  intro H locs hI
  refine lv_aload_n hx hb d_m_play_17 rfl (lv_at hl 0 rfl) ?_
  refine mg_M_code hx hb hts hown hK hI (hts _ q_654) d_m_play_18 ?_
  refine lv_if_le hx hb d_m_play_21 rfl (fun hc => ?_) (fun hc => ?_)
  · have h := h.1 hc
    refine lv_aload_n hx hb d_m_play_25 rfl (lv_at hl 0 rfl) ?_
    refine zr_v (va_runV (As := []) (rest := []) ⟨hx, hb, hml, hown, hts⟩ (t_m_readCards l D ad ca h _) (cwV 0 hts (zg_V q_814 q_816 q_25 q_44 q_817) rfl rfl rfl ⟨rfl, hd_m_readCards⟩ ⟨Nat.le_trans (by decide) hfr, Nat.le_trans (by decide) hlc⟩) (z_preV zNs_ok hK hN hI 0 5 rfl rfl _) rfl rfl hl.1 rfl (lv_room (Nat.le_of_ble_eq_true rfl)) d_m_play_26 ⟨Nat.zero_le _, Nat.zero_le _⟩) hI ?_
    intro u4 H locs h hI
    refine lv_iload_n hx hb d_m_play_29 rfl (lv_at hl 1 rfl) ?_
    refine lv_if_lt hx hb d_m_play_30 rfl (fun hc => ?_) (fun hc => ?_)
    · have h := h.1 hc
      exact k_m_play_64 cx0  hI (lv_sub hl [0, 1] rfl) h
    · have h := h.2 hc
      refine lv_iload_n hx hb d_m_play_33 rfl (lv_at hl 1 rfl) ?_
      refine lv_bipush (v := 20) hx hb d_m_play_34 zc_bipush_20 ?_
      refine lv_icmp_ge hx hb d_m_play_36 rfl (fun hc => ?_) (fun hc => ?_)
      · have h := h.1 hc
        exact k_m_play_64 cx0  hI (lv_sub hl [0, 1] rfl) h
      · have h := h.2 hc
        refine lv_aload_n hx hb d_m_play_39 rfl (lv_at hl 0 rfl) ?_
        refine lv_aload_n hx hb d_m_play_40 rfl (lv_at hl 0 rfl) ?_
        refine mg_M_turnAt hx hb hts hown hK hI (hts _ q_669) d_m_play_41 ?_
        refine lv_aload_n hx hb d_m_play_44 rfl (lv_at hl 0 rfl) ?_
        refine mg_M_cards hx hb hts hown hK hI (hts _ q_663) d_m_play_45 ?_
        obtain ⟨hi, h⟩ := h
        refine ma_turnAt hx hb hK hI hi d_m_play_48 ?_
        refine lv_iload_n hx hb d_m_play_49 rfl (lv_at hl 1 rfl) ?_
        refine lv_aload_n hx hb d_m_play_50 rfl (lv_at hl 0 rfl) ?_
        refine mg_M_cards hx hb hts hown hK hI (hts _ q_663) d_m_play_51 ?_
        refine zr_i (va_runV (As := [.int (aI u4 3 (Int32.toNatClampNeg (fI u4 5))), .int v1, .int (fI u4 5)]) (rest := []) ⟨hx, hb, hml, hown, hts⟩ (t_m_holds l D ad ca h _) (cwV 3 hts (zg_V q_834 q_836 q_29 q_44 q_837) rfl rfl rfl ⟨rfl, hd_m_holds⟩ ⟨Nat.le_trans (by decide) hfr, Nat.le_trans (by decide) hlc⟩) (z_preV zNs_ok hK hN hI 0 5 rfl rfl _) rfl rfl hl.1 rfl (lv_room (Nat.le_of_ble_eq_true rfl)) d_m_play_54 ⟨Nat.zero_le _, Nat.zero_le _⟩) hI ?_
        intro r5 u6 H locs h hI
        refine lv_if_eq hx hb d_m_play_57 rfl (fun hc => ?_) (fun hc => ?_)
        · have h := h.1 hc
          exact k_m_play_64 cx0  hI (lv_sub hl [0, 1] rfl) h
        · have h := h.2 hc
          refine lv_iconst (v := 1) hx hb d_m_play_60 zc_iconst_1 ?_
          refine lv_goto hx hb d_m_play_61 rfl ?_
          exact k_m_play_65 cx0  hI (lv_sub hl [0, 1] rfl) h
  · have h := h.2 hc
    exact zret_v hx hb hr hlk hK hI h d_m_play_24
def w_m_play (v1 : Int32) (u : ZS) (post : ZS → Prop) : Prop := w_m_phaseNow  u (fun r7 u8 => (¬ r7 = 2 → b_m_play_14 post v1 1 u8) ∧ (r7 = 2 → b_m_play_14 post v1 0 u8))
set_option maxRecDepth 100000 in
set_option maxHeartbeats 4000000 in
theorem t_m_play (l : Launch) (D : va_G) (ad : Nat → Nat) (ca : Nat → ClassId) {v1 : Int32} {u : ZS} {post : ZS → Prop} (h : w_m_play v1 u post) : zV l y_m_play (Cond.code y_m_play c_m_play 3 none :: zG) { frames := 5, cells := 0, slots := 0, locals := 99 } D (mT ca) zNs (mW ad ca) [.ref (ad 0), .int v1] u post := by
  refine zV_of (cc := c_m_play) (maxL := 3) (by decide) (Nat.le_of_ble_eq_true rfl) ?_
  intro p e s m args below meth c ls A cx hI hl
  have cx0 := cx
  obtain ⟨hx, hb, hml, hown, hts, hN, hK, hr, hlk, hfr, hlc⟩ := cx
  have hl : lv_has ls 3 [(0, .ref (ad 0)), (1, .int v1)] := hl
  unfold w_m_play at h
  refine lv_aload_n hx hb d_m_play_0 rfl (lv_at hl 0 rfl) ?_
  refine lv_aload_n hx hb d_m_play_1 rfl (lv_at hl 0 rfl) ?_
  refine zr_i (va_runV (As := []) (rest := [.ref (ad 0)]) ⟨hx, hb, hml, hown, hts⟩ (t_m_phaseNow l D ad ca h _) (cwV 0 hts (zg_V q_778 q_780 q_19 q_44 q_781) rfl rfl rfl ⟨rfl, hd_m_phaseNow⟩ ⟨Nat.le_trans (by decide) hfr, Nat.le_trans (by decide) hlc⟩) (z_preV zNs_ok hK hN hI 0 5 rfl rfl _) rfl rfl hl.1 rfl (lv_room (Nat.le_of_ble_eq_true rfl)) d_m_play_2 ⟨Nat.zero_le _, Nat.zero_le _⟩) hI ?_
  intro r7 u8 H locs h hI
  refine lv_iconst (v := 2) hx hb d_m_play_5 zc_iconst_2 ?_
  refine lv_icmp_ne hx hb d_m_play_6 rfl (fun hc => ?_) (fun hc => ?_)
  · have h := h.1 hc
    refine lv_iconst (v := 1) hx hb d_m_play_13 zc_iconst_1 ?_
    exact k_m_play_14 cx0  hI (lv_sub hl [0, 1] rfl) h
  · have h := h.2 hc
    refine lv_iconst (v := 0) hx hb d_m_play_9 zc_iconst_0 ?_
    refine lv_goto hx hb d_m_play_10 rfl ?_
    exact k_m_play_14 cx0  hI (lv_sub hl [0, 1] rfl) h
def b_m_back_38  (post : Int32 → ZS → Prop)  (u : ZS) : Prop := post 0 u
set_option maxRecDepth 100000 in
set_option maxHeartbeats 4000000 in
theorem k_m_back_38 {p : Program} {l : Launch} {e : Env} {R : Room} {s : State} {m : MethodId} {args : Array Value} {below : List Frame} {meth : Method} {c : Code} {D : va_G} {A : Nat → Prop} {ad : Nat → Nat} {ca : Nat → ClassId}  {post : Int32 → ZS → Prop} (cx : zx p R s m args meth c c_m_back 3 5 97 "ShortBridgeModel" (some .boolean) zG zNs D (mT ca)) {u : ZS} {H : Heap} {locs : List Loc} {ls : Array Slot} (hI : zw D A s.heap (mW ad ca u) H locs) (hl : lv_has ls 3 []) (h : b_m_back_38 post  u) : W p l e R s m args below meth c H locs 0 0 (MQ below (va_Qi post (zE D (mT ca) (mW ad ca) A) A) args s 0 0 A) (F0 m 38 ls []) := by
  have cx0 := cx
  obtain ⟨hx, hb, hml, hown, hts, hN, hK, hr, hlk, hfr, hlc⟩ := cx
  unfold b_m_back_38 at h
  refine lv_iconst (v := 0) hx hb d_m_back_38 zc_iconst_0 ?_
  exact zret_z hx hb hr hlk hK hI (Or.inl rfl) h d_m_back_39
def b_m_back_92  (post : Int32 → ZS → Prop) (s0 : Int32) (u : ZS) : Prop := post 1 (sI u 4 s0)
set_option maxRecDepth 100000 in
set_option maxHeartbeats 4000000 in
theorem k_m_back_92 {p : Program} {l : Launch} {e : Env} {R : Room} {s : State} {m : MethodId} {args : Array Value} {below : List Frame} {meth : Method} {c : Code} {D : va_G} {A : Nat → Prop} {ad : Nat → Nat} {ca : Nat → ClassId}  {post : Int32 → ZS → Prop} (cx : zx p R s m args meth c c_m_back 3 5 97 "ShortBridgeModel" (some .boolean) zG zNs D (mT ca)) {s0 : Int32} {u : ZS} {H : Heap} {locs : List Loc} {ls : Array Slot} (hI : zw D A s.heap (mW ad ca u) H locs) (hl : lv_has ls 3 []) (h : b_m_back_92 post s0 u) : W p l e R s m args below meth c H locs 0 0 (MQ below (va_Qi post (zE D (mT ca) (mW ad ca) A) A) args s 0 0 A) (F0 m 92 ls [.int s0, .ref (ad 0)]) := by
  have cx0 := cx
  obtain ⟨hx, hb, hml, hown, hts, hN, hK, hr, hlk, hfr, hlc⟩ := cx
  unfold b_m_back_92 at h
  refine mp_M_calls hx hb hts hown hK hI (hts _ q_661) d_m_back_92 ?_
  intro H locs hI
  refine lv_iconst (v := 1) hx hb d_m_back_95 zc_iconst_1 ?_
  exact zret_z hx hb hr hlk hK hI (Or.inr rfl) h d_m_back_96
def b_m_back_71  (post : Int32 → ZS → Prop) (v2 : Int32) (s0 : Int32) (u : ZS) : Prop := (v2 = 0 → b_m_back_92 post ((fI (sI u 5 s0) 4) - 1) (sI u 5 s0)) ∧ (¬ (v2 = 0) → b_m_back_92 post (fI (sI u 5 s0) 4) (sI u 5 s0))
set_option maxRecDepth 100000 in
set_option maxHeartbeats 4000000 in
theorem k_m_back_71 {p : Program} {l : Launch} {e : Env} {R : Room} {s : State} {m : MethodId} {args : Array Value} {below : List Frame} {meth : Method} {c : Code} {D : va_G} {A : Nat → Prop} {ad : Nat → Nat} {ca : Nat → ClassId}  {post : Int32 → ZS → Prop} (cx : zx p R s m args meth c c_m_back 3 5 97 "ShortBridgeModel" (some .boolean) zG zNs D (mT ca)) {v2 : Int32} {s0 : Int32} {u : ZS} {H : Heap} {locs : List Loc} {ls : Array Slot} (hI : zw D A s.heap (mW ad ca u) H locs) (hl : lv_has ls 3 [(0, .ref (ad 0)), (2, .int v2)]) (h : b_m_back_71 post v2 s0 u) : W p l e R s m args below meth c H locs 0 0 (MQ below (va_Qi post (zE D (mT ca) (mW ad ca) A) A) args s 0 0 A) (F0 m 71 ls [.int s0, .ref (ad 0)]) := by
  have cx0 := cx
  obtain ⟨hx, hb, hml, hown, hts, hN, hK, hr, hlk, hfr, hlc⟩ := cx
  unfold b_m_back_71 at h
  refine mp_M_cards hx hb hts hown hK hI (hts _ q_663) d_m_back_71 ?_
  intro H locs hI
  refine lv_aload_n hx hb d_m_back_74 rfl (lv_at hl 0 rfl) ?_
  refine lv_iload_n hx hb d_m_back_75 rfl (lv_at hl 1 rfl) ?_
  refine lv_if_eq hx hb d_m_back_76 rfl (fun hc => ?_) (fun hc => ?_)
  · have h := h.1 hc
    refine lv_aload_n hx hb d_m_back_86 rfl (lv_at hl 0 rfl) ?_
    refine mg_M_calls hx hb hts hown hK hI (hts _ q_661) d_m_back_87 ?_
    refine lv_iconst (v := 1) hx hb d_m_back_90 zc_iconst_1 ?_
    refine lv_isub hx hb d_m_back_91 ?_
    exact k_m_back_92 cx0  hI (lv_sub hl [] rfl) h
  · have h := h.2 hc
    refine lv_aload_n hx hb d_m_back_79 rfl (lv_at hl 0 rfl) ?_
    refine mg_M_calls hx hb hts hown hK hI (hts _ q_661) d_m_back_80 ?_
    refine lv_goto hx hb d_m_back_83 rfl ?_
    exact k_m_back_92 cx0  hI (lv_sub hl [] rfl) h
def b_m_back_52  (post : Int32 → ZS → Prop) (s0 : Int32) (u : ZS) : Prop := (s0 = 0 → b_m_back_71 post s0 (fI u 5) u) ∧ (¬ (s0 = 0) → b_m_back_71 post s0 ((fI u 5) - 1) u)
set_option maxRecDepth 100000 in
set_option maxHeartbeats 4000000 in
theorem k_m_back_52 {p : Program} {l : Launch} {e : Env} {R : Room} {s : State} {m : MethodId} {args : Array Value} {below : List Frame} {meth : Method} {c : Code} {D : va_G} {A : Nat → Prop} {ad : Nat → Nat} {ca : Nat → ClassId}  {post : Int32 → ZS → Prop} (cx : zx p R s m args meth c c_m_back 3 5 97 "ShortBridgeModel" (some .boolean) zG zNs D (mT ca)) {s0 : Int32} {u : ZS} {H : Heap} {locs : List Loc} {ls : Array Slot} (hI : zw D A s.heap (mW ad ca u) H locs) (hl : lv_has ls 3 [(0, .ref (ad 0))]) (h : b_m_back_52 post s0 u) : W p l e R s m args below meth c H locs 0 0 (MQ below (va_Qi post (zE D (mT ca) (mW ad ca) A) A) args s 0 0 A) (F0 m 52 ls [.int s0]) := by
  have cx0 := cx
  obtain ⟨hx, hb, hml, hown, hts, hN, hK, hr, hlk, hfr, hlc⟩ := cx
  unfold b_m_back_52 at h
  refine lv_istore_n hx hb d_m_back_52 rfl hl (by decide) rfl ?_
  intro ls hl
  have hl : lv_has ls 3 [(2, .int s0), (0, .ref (ad 0))] := hl
  refine lv_aload_n hx hb d_m_back_53 rfl (lv_at hl 1 rfl) ?_
  refine lv_iload_n hx hb d_m_back_54 rfl (lv_at hl 0 rfl) ?_
  refine lv_if_eq hx hb d_m_back_55 rfl (fun hc => ?_) (fun hc => ?_)
  · have h := h.1 hc
    refine lv_aload_n hx hb d_m_back_67 rfl (lv_at hl 1 rfl) ?_
    refine mg_M_cards hx hb hts hown hK hI (hts _ q_663) d_m_back_68 ?_
    exact k_m_back_71 cx0  hI (lv_sub hl [1, 0] rfl) h
  · have h := h.2 hc
    refine lv_aload_n hx hb d_m_back_58 rfl (lv_at hl 1 rfl) ?_
    refine mg_M_cards hx hb hts hown hK hI (hts _ q_663) d_m_back_59 ?_
    refine lv_iconst (v := 1) hx hb d_m_back_62 zc_iconst_1 ?_
    refine lv_isub hx hb d_m_back_63 ?_
    refine lv_goto hx hb d_m_back_64 rfl ?_
    exact k_m_back_71 cx0  hI (lv_sub hl [1, 0] rfl) h
def b_m_back_40  (post : Int32 → ZS → Prop)  (u : ZS) : Prop := ((fI u 5) ≤ 0 → b_m_back_52 post 0 u) ∧ (¬ ((fI u 5) ≤ 0) → b_m_back_52 post 1 u)
set_option maxRecDepth 100000 in
set_option maxHeartbeats 4000000 in
theorem k_m_back_40 {p : Program} {l : Launch} {e : Env} {R : Room} {s : State} {m : MethodId} {args : Array Value} {below : List Frame} {meth : Method} {c : Code} {D : va_G} {A : Nat → Prop} {ad : Nat → Nat} {ca : Nat → ClassId}  {post : Int32 → ZS → Prop} (cx : zx p R s m args meth c c_m_back 3 5 97 "ShortBridgeModel" (some .boolean) zG zNs D (mT ca)) {u : ZS} {H : Heap} {locs : List Loc} {ls : Array Slot} (hI : zw D A s.heap (mW ad ca u) H locs) (hl : lv_has ls 3 [(0, .ref (ad 0))]) (h : b_m_back_40 post  u) : W p l e R s m args below meth c H locs 0 0 (MQ below (va_Qi post (zE D (mT ca) (mW ad ca) A) A) args s 0 0 A) (F0 m 40 ls []) := by
  have cx0 := cx
  obtain ⟨hx, hb, hml, hown, hts, hN, hK, hr, hlk, hfr, hlc⟩ := cx
  unfold b_m_back_40 at h
  refine lv_aload_n hx hb d_m_back_40 rfl (lv_at hl 0 rfl) ?_
  refine mg_M_cards hx hb hts hown hK hI (hts _ q_663) d_m_back_41 ?_
  refine lv_if_le hx hb d_m_back_44 rfl (fun hc => ?_) (fun hc => ?_)
  · have h := h.1 hc
    refine lv_iconst (v := 0) hx hb d_m_back_51 zc_iconst_0 ?_
    exact k_m_back_52 cx0  hI (lv_sub hl [0] rfl) h
  · have h := h.2 hc
    refine lv_iconst (v := 1) hx hb d_m_back_47 zc_iconst_1 ?_
    refine lv_goto hx hb d_m_back_48 rfl ?_
    exact k_m_back_52 cx0  hI (lv_sub hl [0] rfl) h
def b_m_back_26  (post : Int32 → ZS → Prop) (v1 : Int32) (u : ZS) : Prop := (¬ v1 = 2 → b_m_back_40 post u) ∧ (v1 = 2 → (¬ (fI u 5) = 0 → b_m_back_40 post u) ∧ ((fI u 5) = 0 → b_m_back_38 post u))
set_option maxRecDepth 100000 in
set_option maxHeartbeats 4000000 in
theorem k_m_back_26 {p : Program} {l : Launch} {e : Env} {R : Room} {s : State} {m : MethodId} {args : Array Value} {below : List Frame} {meth : Method} {c : Code} {D : va_G} {A : Nat → Prop} {ad : Nat → Nat} {ca : Nat → ClassId}  {post : Int32 → ZS → Prop} (cx : zx p R s m args meth c c_m_back 3 5 97 "ShortBridgeModel" (some .boolean) zG zNs D (mT ca)) {v1 : Int32} {u : ZS} {H : Heap} {locs : List Loc} {ls : Array Slot} (hI : zw D A s.heap (mW ad ca u) H locs) (hl : lv_has ls 3 [(0, .ref (ad 0)), (1, .int v1)]) (h : b_m_back_26 post v1 u) : W p l e R s m args below meth c H locs 0 0 (MQ below (va_Qi post (zE D (mT ca) (mW ad ca) A) A) args s 0 0 A) (F0 m 26 ls []) := by
  have cx0 := cx
  obtain ⟨hx, hb, hml, hown, hts, hN, hK, hr, hlk, hfr, hlc⟩ := cx
  unfold b_m_back_26 at h
  refine lv_iload_n hx hb d_m_back_26 rfl (lv_at hl 1 rfl) ?_
  refine lv_iconst (v := 2) hx hb d_m_back_27 zc_iconst_2 ?_
  refine lv_icmp_ne hx hb d_m_back_28 rfl (fun hc => ?_) (fun hc => ?_)
  · have h := h.1 hc
    exact k_m_back_40 cx0  hI (lv_sub hl [0] rfl) h
  · have h := h.2 hc
    refine lv_aload_n hx hb d_m_back_31 rfl (lv_at hl 0 rfl) ?_
    refine mg_M_cards hx hb hts hown hK hI (hts _ q_663) d_m_back_32 ?_
    refine lv_if_ne hx hb d_m_back_35 rfl (fun hc => ?_) (fun hc => ?_)
    · have h := h.1 hc
      exact k_m_back_40 cx0  hI (lv_sub hl [0] rfl) h
    · have h := h.2 hc
      exact k_m_back_38 cx0  hI (lv_sub hl [] rfl) h
def w_m_back  (u : ZS) (post : Int32 → ZS → Prop) : Prop := w_m_phaseNow  (sI u 0 0) (fun r1 u2 => (r1 = 0 → b_m_back_38 post u2) ∧ (¬ (r1 = 0) → (¬ r1 = 1 → b_m_back_26 post r1 u2) ∧ (r1 = 1 → ((fI u2 4) = 0 → b_m_back_38 post u2) ∧ (¬ ((fI u2 4) = 0) → b_m_back_26 post r1 u2))))
set_option maxRecDepth 100000 in
set_option maxHeartbeats 4000000 in
theorem t_m_back (l : Launch) (D : va_G) (ad : Nat → Nat) (ca : Nat → ClassId)  {u : ZS} {post : Int32 → ZS → Prop} (h : w_m_back  u post) : zI l y_m_back (Cond.code y_m_back c_m_back 3 (some .boolean) :: zG) { frames := 5, cells := 0, slots := 0, locals := 97 } D (mT ca) zNs (mW ad ca) [.ref (ad 0)] u post := by
  refine zI_of (cc := c_m_back) (maxL := 3) (ret := (some .boolean)) (by decide) (Nat.le_of_ble_eq_true rfl) ?_
  intro p e s m args below meth c ls A cx hI hl
  have cx0 := cx
  obtain ⟨hx, hb, hml, hown, hts, hN, hK, hr, hlk, hfr, hlc⟩ := cx
  have hl : lv_has ls 3 [(0, .ref (ad 0))] := hl
  unfold w_m_back at h
  refine lv_aload_n hx hb d_m_back_0 rfl (lv_at hl 0 rfl) ?_
  refine lv_iconst (v := 0) hx hb d_m_back_1 zc_iconst_0 ?_
  refine mp_M_code hx hb hts hown hK hI (hts _ q_654) d_m_back_2 ?_
  intro H locs hI
  refine lv_aload_n hx hb d_m_back_5 rfl (lv_at hl 0 rfl) ?_
  refine zr_i (va_runV (As := []) (rest := []) ⟨hx, hb, hml, hown, hts⟩ (t_m_phaseNow l D ad ca h _) (cwV 0 hts (zg_V q_778 q_780 q_19 q_44 q_781) rfl rfl rfl ⟨rfl, hd_m_phaseNow⟩ ⟨Nat.le_trans (by decide) hfr, Nat.le_trans (by decide) hlc⟩) (z_preV zNs_ok hK hN hI 0 5 rfl rfl _) rfl rfl hl.1 rfl (lv_room (Nat.le_of_ble_eq_true rfl)) d_m_back_6 ⟨Nat.zero_le _, Nat.zero_le _⟩) hI ?_
  intro r1 u2 H locs h hI
  refine lv_istore_n hx hb d_m_back_9 rfl hl (by decide) rfl ?_
  intro ls hl
  have hl : lv_has ls 3 [(1, .int r1), (0, .ref (ad 0))] := hl
  refine lv_iload_n hx hb d_m_back_10 rfl (lv_at hl 0 rfl) ?_
  refine lv_if_eq hx hb d_m_back_11 rfl (fun hc => ?_) (fun hc => ?_)
  · have h := h.1 hc
    exact k_m_back_38 cx0  hI (lv_sub hl [] rfl) h
  · have h := h.2 hc
    refine lv_iload_n hx hb d_m_back_14 rfl (lv_at hl 0 rfl) ?_
    refine lv_iconst (v := 1) hx hb d_m_back_15 zc_iconst_1 ?_
    refine lv_icmp_ne hx hb d_m_back_16 rfl (fun hc => ?_) (fun hc => ?_)
    · have h := h.1 hc
      exact k_m_back_26 cx0  hI (lv_sub hl [1, 0] rfl) h
    · have h := h.2 hc
      refine lv_aload_n hx hb d_m_back_19 rfl (lv_at hl 1 rfl) ?_
      refine mg_M_calls hx hb hts hown hK hI (hts _ q_661) d_m_back_20 ?_
      refine lv_if_eq hx hb d_m_back_23 rfl (fun hc => ?_) (fun hc => ?_)
      · have h := h.1 hc
        exact k_m_back_38 cx0  hI (lv_sub hl [] rfl) h
      · have h := h.2 hc
        exact k_m_back_26 cx0  hI (lv_sub hl [1, 0] rfl) h
def b_m_tricks_14  (post : Int32 → ZS → Prop)  (u : ZS) : Prop := post (-1 : Int32) u
set_option maxRecDepth 100000 in
set_option maxHeartbeats 4000000 in
theorem k_m_tricks_14 {p : Program} {l : Launch} {e : Env} {R : Room} {s : State} {m : MethodId} {args : Array Value} {below : List Frame} {meth : Method} {c : Code} {D : va_G} {A : Nat → Prop} {ad : Nat → Nat} {ca : Nat → ClassId}  {post : Int32 → ZS → Prop} (cx : zx p R s m args meth c c_m_tricks 2 5 99 "ShortBridgeModel" (some .int) zG zNs D (mT ca)) {u : ZS} {H : Heap} {locs : List Loc} {ls : Array Slot} (hI : zw D A s.heap (mW ad ca u) H locs) (hl : lv_has ls 2 []) (h : b_m_tricks_14 post  u) : W p l e R s m args below meth c H locs 0 0 (MQ below (va_Qi post (zE D (mT ca) (mW ad ca) A) A) args s 0 0 A) (F0 m 14 ls []) := by
  have cx0 := cx
  obtain ⟨hx, hb, hml, hown, hts, hN, hK, hr, hlk, hfr, hlc⟩ := cx
  unfold b_m_tricks_14 at h
  refine lv_iconst (v := (-1)) hx hb d_m_tricks_14 zc_iconst_m1 ?_
  exact zret_i hx hb hr hlk hK hI h d_m_tricks_15
def b_m_tricks_31  (post : Int32 → ZS → Prop)  (u : ZS) : Prop := post 0 u
set_option maxRecDepth 100000 in
set_option maxHeartbeats 4000000 in
theorem k_m_tricks_31 {p : Program} {l : Launch} {e : Env} {R : Room} {s : State} {m : MethodId} {args : Array Value} {below : List Frame} {meth : Method} {c : Code} {D : va_G} {A : Nat → Prop} {ad : Nat → Nat} {ca : Nat → ClassId}  {post : Int32 → ZS → Prop} (cx : zx p R s m args meth c c_m_tricks 2 5 99 "ShortBridgeModel" (some .int) zG zNs D (mT ca)) {u : ZS} {H : Heap} {locs : List Loc} {ls : Array Slot} (hI : zw D A s.heap (mW ad ca u) H locs) (hl : lv_has ls 2 []) (h : b_m_tricks_31 post  u) : W p l e R s m args below meth c H locs 0 0 (MQ below (va_Qi post (zE D (mT ca) (mW ad ca) A) A) args s 0 0 A) (F0 m 31 ls []) := by
  have cx0 := cx
  obtain ⟨hx, hb, hml, hown, hts, hN, hK, hr, hlk, hfr, hlc⟩ := cx
  unfold b_m_tricks_31 at h
  refine lv_iconst (v := 0) hx hb d_m_tricks_31 zc_iconst_0 ?_
  exact zret_i hx hb hr hlk hK hI h d_m_tricks_32
def b_m_tricks_75  (post : Int32 → ZS → Prop) (s0 : Int32) (u : ZS) : Prop := post s0 u
set_option maxRecDepth 100000 in
set_option maxHeartbeats 4000000 in
theorem k_m_tricks_75 {p : Program} {l : Launch} {e : Env} {R : Room} {s : State} {m : MethodId} {args : Array Value} {below : List Frame} {meth : Method} {c : Code} {D : va_G} {A : Nat → Prop} {ad : Nat → Nat} {ca : Nat → ClassId}  {post : Int32 → ZS → Prop} (cx : zx p R s m args meth c c_m_tricks 2 5 99 "ShortBridgeModel" (some .int) zG zNs D (mT ca)) {s0 : Int32} {u : ZS} {H : Heap} {locs : List Loc} {ls : Array Slot} (hI : zw D A s.heap (mW ad ca u) H locs) (hl : lv_has ls 2 []) (h : b_m_tricks_75 post s0 u) : W p l e R s m args below meth c H locs 0 0 (MQ below (va_Qi post (zE D (mT ca) (mW ad ca) A) A) args s 0 0 A) (F0 m 75 ls [.int s0]) := by
  have cx0 := cx
  obtain ⟨hx, hb, hml, hown, hts, hN, hK, hr, hlk, hfr, hlc⟩ := cx
  unfold b_m_tricks_75 at h
  exact zret_i hx hb hr hlk hK hI h d_m_tricks_75
def w_m_tricks (v1 : Int32) (u : ZS) (post : Int32 → ZS → Prop) : Prop := (v1 < 0 → b_m_tricks_14 post (sI u 0 0)) ∧ (¬ (v1 < 0) → (v1 ≤ 1 → w_m_phaseNow  (sI u 0 0) (fun r1 u2 => (r1 < 2 → b_m_tricks_31 post u2) ∧ (¬ (r1 < 2) → (¬ (fI u2 6) = 0 → w_m_readCards  u2 (fun u4 => (¬ ((fI u4 8) &&& 1) = v1 → vp_in (fI u4 5) 21 ∧ (b_m_tricks_75 post (((fI u4 5) / 4) - (aI u4 4 (Int32.toNatClampNeg (fI u4 5)))) u4)) ∧ (((fI u4 8) &&& 1) = v1 → vp_in (fI u4 5) 21 ∧ (b_m_tricks_75 post (aI u4 4 (Int32.toNatClampNeg (fI u4 5))) u4)))) ∧ ((fI u2 6) = 0 → b_m_tricks_31 post u2)))) ∧ (¬ (v1 ≤ 1) → b_m_tricks_14 post (sI u 0 0)))
set_option maxRecDepth 100000 in
set_option maxHeartbeats 4000000 in
theorem t_m_tricks (l : Launch) (D : va_G) (ad : Nat → Nat) (ca : Nat → ClassId) {v1 : Int32} {u : ZS} {post : Int32 → ZS → Prop} (h : w_m_tricks v1 u post) : zI l y_m_tricks (Cond.code y_m_tricks c_m_tricks 2 (some .int) :: zG) { frames := 5, cells := 0, slots := 0, locals := 99 } D (mT ca) zNs (mW ad ca) [.ref (ad 0), .int v1] u post := by
  refine zI_of (cc := c_m_tricks) (maxL := 2) (ret := (some .int)) (by decide) (Nat.le_of_ble_eq_true rfl) ?_
  intro p e s m args below meth c ls A cx hI hl
  have cx0 := cx
  obtain ⟨hx, hb, hml, hown, hts, hN, hK, hr, hlk, hfr, hlc⟩ := cx
  have hl : lv_has ls 2 [(0, .ref (ad 0)), (1, .int v1)] := hl
  unfold w_m_tricks at h
  refine lv_aload_n hx hb d_m_tricks_0 rfl (lv_at hl 0 rfl) ?_
  refine lv_iconst (v := 0) hx hb d_m_tricks_1 zc_iconst_0 ?_
  refine mp_M_code hx hb hts hown hK hI (hts _ q_654) d_m_tricks_2 ?_
  intro H locs hI
  refine lv_iload_n hx hb d_m_tricks_5 rfl (lv_at hl 1 rfl) ?_
  refine lv_if_lt hx hb d_m_tricks_6 rfl (fun hc => ?_) (fun hc => ?_)
  · have h := h.1 hc
    exact k_m_tricks_14 cx0  hI (lv_sub hl [] rfl) h
  · have h := h.2 hc
    refine lv_iload_n hx hb d_m_tricks_9 rfl (lv_at hl 1 rfl) ?_
    refine lv_iconst (v := 1) hx hb d_m_tricks_10 zc_iconst_1 ?_
    refine lv_icmp_le hx hb d_m_tricks_11 rfl (fun hc => ?_) (fun hc => ?_)
    · have h := h.1 hc
      refine lv_aload_n hx hb d_m_tricks_16 rfl (lv_at hl 0 rfl) ?_
      refine zr_i (va_runV (As := []) (rest := []) ⟨hx, hb, hml, hown, hts⟩ (t_m_phaseNow l D ad ca h _) (cwV 0 hts (zg_V q_778 q_780 q_19 q_44 q_781) rfl rfl rfl ⟨rfl, hd_m_phaseNow⟩ ⟨Nat.le_trans (by decide) hfr, Nat.le_trans (by decide) hlc⟩) (z_preV zNs_ok hK hN hI 0 5 rfl rfl _) rfl rfl hl.1 rfl (lv_room (Nat.le_of_ble_eq_true rfl)) d_m_tricks_17 ⟨Nat.zero_le _, Nat.zero_le _⟩) hI ?_
      intro r1 u2 H locs h hI
      refine lv_iconst (v := 2) hx hb d_m_tricks_20 zc_iconst_2 ?_
      refine lv_icmp_lt hx hb d_m_tricks_21 rfl (fun hc => ?_) (fun hc => ?_)
      · have h := h.1 hc
        exact k_m_tricks_31 cx0  hI (lv_sub hl [] rfl) h
      · have h := h.2 hc
        refine lv_aload_n hx hb d_m_tricks_24 rfl (lv_at hl 0 rfl) ?_
        refine mg_M_bid hx hb hts hown hK hI (hts _ q_665) d_m_tricks_25 ?_
        refine lv_if_ne hx hb d_m_tricks_28 rfl (fun hc => ?_) (fun hc => ?_)
        · have h := h.1 hc
          refine lv_aload_n hx hb d_m_tricks_33 rfl (lv_at hl 0 rfl) ?_
          refine zr_v (va_runV (As := []) (rest := []) ⟨hx, hb, hml, hown, hts⟩ (t_m_readCards l D ad ca h _) (cwV 0 hts (zg_V q_814 q_816 q_25 q_44 q_817) rfl rfl rfl ⟨rfl, hd_m_readCards⟩ ⟨Nat.le_trans (by decide) hfr, Nat.le_trans (by decide) hlc⟩) (z_preV zNs_ok hK hN hI 0 5 rfl rfl _) rfl rfl hl.1 rfl (lv_room (Nat.le_of_ble_eq_true rfl)) d_m_tricks_34 ⟨Nat.zero_le _, Nat.zero_le _⟩) hI ?_
          intro u4 H locs h hI
          refine lv_aload_n hx hb d_m_tricks_37 rfl (lv_at hl 0 rfl) ?_
          refine mg_M_declarer hx hb hts hown hK hI (hts _ q_667) d_m_tricks_38 ?_
          refine lv_iconst (v := 1) hx hb d_m_tricks_41 zc_iconst_1 ?_
          refine lv_iand hx hb d_m_tricks_42 ?_
          refine lv_iload_n hx hb d_m_tricks_43 rfl (lv_at hl 1 rfl) ?_
          refine lv_icmp_ne hx hb d_m_tricks_44 rfl (fun hc => ?_) (fun hc => ?_)
          · have h := h.1 hc
            refine lv_aload_n hx hb d_m_tricks_59 rfl (lv_at hl 0 rfl) ?_
            refine mg_M_cards hx hb hts hown hK hI (hts _ q_663) d_m_tricks_60 ?_
            refine lv_iconst (v := 4) hx hb d_m_tricks_63 zc_iconst_4 ?_
            refine lv_idiv hx hb d_m_tricks_64 (by decide) ?_
            refine lv_aload_n hx hb d_m_tricks_65 rfl (lv_at hl 0 rfl) ?_
            refine mg_M_wonAt hx hb hts hown hK hI (hts _ q_670) d_m_tricks_66 ?_
            refine lv_aload_n hx hb d_m_tricks_69 rfl (lv_at hl 0 rfl) ?_
            refine mg_M_cards hx hb hts hown hK hI (hts _ q_663) d_m_tricks_70 ?_
            obtain ⟨hi, h⟩ := h
            refine ma_wonAt hx hb hK hI hi d_m_tricks_73 ?_
            refine lv_isub hx hb d_m_tricks_74 ?_
            exact k_m_tricks_75 cx0  hI (lv_sub hl [] rfl) h
          · have h := h.2 hc
            refine lv_aload_n hx hb d_m_tricks_47 rfl (lv_at hl 0 rfl) ?_
            refine mg_M_wonAt hx hb hts hown hK hI (hts _ q_670) d_m_tricks_48 ?_
            refine lv_aload_n hx hb d_m_tricks_51 rfl (lv_at hl 0 rfl) ?_
            refine mg_M_cards hx hb hts hown hK hI (hts _ q_663) d_m_tricks_52 ?_
            obtain ⟨hi, h⟩ := h
            refine ma_wonAt hx hb hK hI hi d_m_tricks_55 ?_
            refine lv_goto hx hb d_m_tricks_56 rfl ?_
            exact k_m_tricks_75 cx0  hI (lv_sub hl [] rfl) h
        · have h := h.2 hc
          exact k_m_tricks_31 cx0  hI (lv_sub hl [] rfl) h
    · have h := h.2 hc
      exact k_m_tricks_14 cx0  hI (lv_sub hl [] rfl) h
def b_m_table_48  (post : Int32 → ZS → Prop) (s0 : Int32) (u : ZS) : Prop := post s0 u
set_option maxRecDepth 100000 in
set_option maxHeartbeats 4000000 in
theorem k_m_table_48 {p : Program} {l : Launch} {e : Env} {R : Room} {s : State} {m : MethodId} {args : Array Value} {below : List Frame} {meth : Method} {c : Code} {D : va_G} {A : Nat → Prop} {ad : Nat → Nat} {ca : Nat → ClassId}  {post : Int32 → ZS → Prop} (cx : zx p R s m args meth c c_m_table 2 1 12 "ShortBridgeModel" (some .int) zG zNs D (mT ca)) {s0 : Int32} {u : ZS} {H : Heap} {locs : List Loc} {ls : Array Slot} (hI : zw D A s.heap (mW ad ca u) H locs) (hl : lv_has ls 2 []) (h : b_m_table_48 post s0 u) : W p l e R s m args below meth c H locs 0 0 (MQ below (va_Qi post (zE D (mT ca) (mW ad ca) A) A) args s 0 0 A) (F0 m 48 ls [.int s0]) := by
  have cx0 := cx
  obtain ⟨hx, hb, hml, hown, hts, hN, hK, hr, hlk, hfr, hlc⟩ := cx
  unfold b_m_table_48 at h
  exact zret_i hx hb hr hlk hK hI h d_m_table_48
def b_m_table_47  (post : Int32 → ZS → Prop)  (u : ZS) : Prop := b_m_table_48 post (-1 : Int32) u
set_option maxRecDepth 100000 in
set_option maxHeartbeats 4000000 in
theorem k_m_table_47 {p : Program} {l : Launch} {e : Env} {R : Room} {s : State} {m : MethodId} {args : Array Value} {below : List Frame} {meth : Method} {c : Code} {D : va_G} {A : Nat → Prop} {ad : Nat → Nat} {ca : Nat → ClassId}  {post : Int32 → ZS → Prop} (cx : zx p R s m args meth c c_m_table 2 1 12 "ShortBridgeModel" (some .int) zG zNs D (mT ca)) {u : ZS} {H : Heap} {locs : List Loc} {ls : Array Slot} (hI : zw D A s.heap (mW ad ca u) H locs) (hl : lv_has ls 2 []) (h : b_m_table_47 post  u) : W p l e R s m args below meth c H locs 0 0 (MQ below (va_Qi post (zE D (mT ca) (mW ad ca) A) A) args s 0 0 A) (F0 m 47 ls []) := by
  have cx0 := cx
  obtain ⟨hx, hb, hml, hown, hts, hN, hK, hr, hlk, hfr, hlc⟩ := cx
  unfold b_m_table_47 at h
  refine lv_iconst (v := (-1)) hx hb d_m_table_47 zc_iconst_m1 ?_
  exact k_m_table_48 cx0  hI (lv_sub hl [] rfl) h
def w_m_table (v1 : Int32) (u : ZS) (post : Int32 → ZS → Prop) : Prop := ((fI (sI u 0 0) 1) = 0 → b_m_table_47 post (sI u 0 0)) ∧ (¬ ((fI (sI u 0 0) 1) = 0) → (v1 < 0 → b_m_table_47 post (sI u 0 0)) ∧ (¬ (v1 < 0) → (((fI (sI u 0 0) 5) - (fI (sI u 0 0) 5) / 4 * 4) ≤ v1 → b_m_table_47 post (sI u 0 0)) ∧ (¬ (((fI (sI u 0 0) 5) - (fI (sI u 0 0) 5) / 4 * 4) ≤ v1) → vp_in (((fI (sI u 0 0) 5) - ((fI (sI u 0 0) 5) - (fI (sI u 0 0) 5) / 4 * 4)) + v1) 20 ∧ (b_m_table_48 post (aI (sI u 0 0) 2 (Int32.toNatClampNeg (((fI (sI u 0 0) 5) - ((fI (sI u 0 0) 5) - (fI (sI u 0 0) 5) / 4 * 4)) + v1))) (sI u 0 0)))))
set_option maxRecDepth 100000 in
set_option maxHeartbeats 4000000 in
theorem t_m_table (l : Launch) (D : va_G) (ad : Nat → Nat) (ca : Nat → ClassId) {v1 : Int32} {u : ZS} {post : Int32 → ZS → Prop} (h : w_m_table v1 u post) : zI l y_m_table (Cond.code y_m_table c_m_table 2 (some .int) :: zG) { frames := 1, cells := 0, slots := 0, locals := 12 } D (mT ca) zNs (mW ad ca) [.ref (ad 0), .int v1] u post := by
  refine zI_of (cc := c_m_table) (maxL := 2) (ret := (some .int)) (by decide) (Nat.le_of_ble_eq_true rfl) ?_
  intro p e s m args below meth c ls A cx hI hl
  have cx0 := cx
  obtain ⟨hx, hb, hml, hown, hts, hN, hK, hr, hlk, hfr, hlc⟩ := cx
  have hl : lv_has ls 2 [(0, .ref (ad 0)), (1, .int v1)] := hl
  unfold w_m_table at h
  refine lv_aload_n hx hb d_m_table_0 rfl (lv_at hl 0 rfl) ?_
  refine lv_iconst (v := 0) hx hb d_m_table_1 zc_iconst_0 ?_
  refine mp_M_code hx hb hts hown hK hI (hts _ q_654) d_m_table_2 ?_
  intro H locs hI
  refine lv_aload_n hx hb d_m_table_5 rfl (lv_at hl 0 rfl) ?_
  refine mg_M_board hx hb hts hown hK hI (hts _ q_655) d_m_table_6 ?_
  refine lv_if_eq hx hb d_m_table_9 rfl (fun hc => ?_) (fun hc => ?_)
  · have h := h.1 hc
    exact k_m_table_47 cx0  hI (lv_sub hl [] rfl) h
  · have h := h.2 hc
    refine lv_iload_n hx hb d_m_table_12 rfl (lv_at hl 1 rfl) ?_
    refine lv_if_lt hx hb d_m_table_13 rfl (fun hc => ?_) (fun hc => ?_)
    · have h := h.1 hc
      exact k_m_table_47 cx0  hI (lv_sub hl [] rfl) h
    · have h := h.2 hc
      refine lv_iload_n hx hb d_m_table_16 rfl (lv_at hl 1 rfl) ?_
      refine lv_aload_n hx hb d_m_table_17 rfl (lv_at hl 0 rfl) ?_
      refine mg_M_cards hx hb hts hown hK hI (hts _ q_663) d_m_table_18 ?_
      refine lv_iconst (v := 4) hx hb d_m_table_21 zc_iconst_4 ?_
      refine lv_irem hx hb d_m_table_22 (by decide) ?_
      refine lv_icmp_ge hx hb d_m_table_23 rfl (fun hc => ?_) (fun hc => ?_)
      · have h := h.1 hc
        exact k_m_table_47 cx0  hI (lv_sub hl [] rfl) h
      · have h := h.2 hc
        refine lv_aload_n hx hb d_m_table_26 rfl (lv_at hl 0 rfl) ?_
        refine mg_M_card hx hb hts hown hK hI (hts _ q_664) d_m_table_27 ?_
        refine lv_aload_n hx hb d_m_table_30 rfl (lv_at hl 0 rfl) ?_
        refine mg_M_cards hx hb hts hown hK hI (hts _ q_663) d_m_table_31 ?_
        refine lv_aload_n hx hb d_m_table_34 rfl (lv_at hl 0 rfl) ?_
        refine mg_M_cards hx hb hts hown hK hI (hts _ q_663) d_m_table_35 ?_
        refine lv_iconst (v := 4) hx hb d_m_table_38 zc_iconst_4 ?_
        refine lv_irem hx hb d_m_table_39 (by decide) ?_
        refine lv_isub hx hb d_m_table_40 ?_
        refine lv_iload_n hx hb d_m_table_41 rfl (lv_at hl 1 rfl) ?_
        refine lv_iadd hx hb d_m_table_42 ?_
        obtain ⟨hi, h⟩ := h
        refine ma_card hx hb hK hI hi d_m_table_43 ?_
        refine lv_goto hx hb d_m_table_44 rfl ?_
        exact k_m_table_48 cx0  hI (lv_sub hl [] rfl) h
def b_m_lostBy_80 (r25 : Int32 → Int32 → Int32 → Int32 → Int32 → ZS → Prop) (post : Int32 → ZS → Prop) (v0 : Int32) (v1 : Int32) (v2 : Int32) (v4 : Int32) (s0 : Int32) (s1 : Int32) (u : ZS) : Prop := r25 v0 v1 v2 (s1 + s0) (v4 + 1) u
set_option maxRecDepth 100000 in
set_option maxHeartbeats 4000000 in
theorem k_m_lostBy_80 {p : Program} {l : Launch} {e : Env} {R : Room} {s : State} {m : MethodId} {args : Array Value} {below : List Frame} {meth : Method} {c : Code} {D : va_G} {A : Nat → Prop} {ad : Nat → Nat} {ca : Nat → ClassId} {r25 : Int32 → Int32 → Int32 → Int32 → Int32 → ZS → Prop} {post : Int32 → ZS → Prop} (cx : zx p R s m args meth c c_m_lostBy 5 1 12 "ShortBridgeModel" (some .int) zG zNs D (mT ca)) (hk25 : ∀ (v0 : Int32) (v1 : Int32) (v2 : Int32) (v3 : Int32) (v4 : Int32) (u : ZS) (H : Heap) (locs : List Loc) (ls : Array Slot), zw D A s.heap (mW ad ca u) H locs → lv_has ls 5 [(0, .int v0), (1, .int v1), (2, .int v2), (3, .int v3), (4, .int v4)] → r25 v0 v1 v2 v3 v4 u → W p l e R s m args below meth c H locs 0 0 (MQ below (va_Qi post (zE D (mT ca) (mW ad ca) A) A) args s 0 0 A) (F0 m 25 ls [])) {v0 : Int32} {v1 : Int32} {v2 : Int32} {v4 : Int32} {s0 : Int32} {s1 : Int32} {u : ZS} {H : Heap} {locs : List Loc} {ls : Array Slot} (hI : zw D A s.heap (mW ad ca u) H locs) (hl : lv_has ls 5 [(0, .int v0), (1, .int v1), (2, .int v2), (4, .int v4)]) (h : b_m_lostBy_80 r25 post v0 v1 v2 v4 s0 s1 u) : W p l e R s m args below meth c H locs 0 0 (MQ below (va_Qi post (zE D (mT ca) (mW ad ca) A) A) args s 0 0 A) (F0 m 80 ls [.int s0, .int s1]) := by
  have cx0 := cx
  obtain ⟨hx, hb, hml, hown, hts, hN, hK, hr, hlk, hfr, hlc⟩ := cx
  unfold b_m_lostBy_80 at h
  refine lv_iadd hx hb d_m_lostBy_80 ?_
  refine lv_istore_n hx hb d_m_lostBy_81 rfl hl (by decide) rfl ?_
  intro ls hl
  have hl : lv_has ls 5 [(3, .int (s1 + s0)), (0, .int v0), (1, .int v1), (2, .int v2), (4, .int v4)] := hl
  refine lv_iinc (k := 4) (v := (v4 + 1)) hx hb d_m_lostBy_82 hl rfl (zi_1 _) (by decide) rfl ?_
  intro ls hl
  have hl : lv_has ls 5 [(4, .int (v4 + 1)), (3, .int (s1 + s0)), (0, .int v0), (1, .int v1), (2, .int v2)] := hl
  refine lv_goto hx hb d_m_lostBy_85 rfl ?_
  exact hk25 _ _ _ _ _ _ _ _ _ hI (lv_sub hl [2, 3, 4, 1, 0] rfl) h
def b_m_lostBy_25  (post : Int32 → ZS → Prop) : Nat → Int32 → Int32 → Int32 → Int32 → Int32 → ZS → Prop
  | 0, _, _, _, _, _, _ => False
  | n + 1, v0, v1, v2, v3, v4, u => (v0 < v4 → post (v1 * v3) u) ∧ (¬ (v0 < v4) → (v2 = 0 → (¬ v4 = 1 → (4 ≤ v4 → b_m_lostBy_80 (b_m_lostBy_25 post n) post v0 v1 v2 v4 300 v3 u) ∧ (¬ (4 ≤ v4) → b_m_lostBy_80 (b_m_lostBy_25 post n) post v0 v1 v2 v4 200 v3 u)) ∧ (v4 = 1 → b_m_lostBy_80 (b_m_lostBy_25 post n) post v0 v1 v2 v4 100 v3 u)) ∧ (¬ (v2 = 0) → (¬ v4 = 1 → b_m_lostBy_80 (b_m_lostBy_25 post n) post v0 v1 v2 v4 300 v3 u) ∧ (v4 = 1 → b_m_lostBy_80 (b_m_lostBy_25 post n) post v0 v1 v2 v4 200 v3 u)))
set_option maxRecDepth 100000 in
set_option maxHeartbeats 4000000 in
theorem k_m_lostBy_25 {p : Program} {l : Launch} {e : Env} {R : Room} {s : State} {m : MethodId} {args : Array Value} {below : List Frame} {meth : Method} {c : Code} {D : va_G} {A : Nat → Prop} {ad : Nat → Nat} {ca : Nat → ClassId}  {post : Int32 → ZS → Prop} (cx : zx p R s m args meth c c_m_lostBy 5 1 12 "ShortBridgeModel" (some .int) zG zNs D (mT ca)) : ∀ (n : Nat) (v0 : Int32) (v1 : Int32) (v2 : Int32) (v3 : Int32) (v4 : Int32) (u : ZS) (H : Heap) (locs : List Loc) (ls : Array Slot), zw D A s.heap (mW ad ca u) H locs → lv_has ls 5 [(0, .int v0), (1, .int v1), (2, .int v2), (3, .int v3), (4, .int v4)] → b_m_lostBy_25 post n v0 v1 v2 v3 v4 u → W p l e R s m args below meth c H locs 0 0 (MQ below (va_Qi post (zE D (mT ca) (mW ad ca) A) A) args s 0 0 A) (F0 m 25 ls []) := by
  have cx0 := cx
  obtain ⟨hx, hb, hml, hown, hts, hN, hK, hr, hlk, hfr, hlc⟩ := cx
  intro n
  induction n with
  | zero => intro v0 v1 v2 v3 v4 u H locs ls hI hl h; exact (h : False).elim
  | succ n ih =>
    intro v0 v1 v2 v3 v4 u H locs ls hI hl h
    unfold b_m_lostBy_25 at h
    refine lv_iload hx hb d_m_lostBy_25 (lv_at hl 4 rfl) ?_
    refine lv_iload_n hx hb d_m_lostBy_27 rfl (lv_at hl 0 rfl) ?_
    refine lv_icmp_gt hx hb d_m_lostBy_28 rfl (fun hc => ?_) (fun hc => ?_)
    · have h := h.1 hc
      refine lv_iload_n hx hb d_m_lostBy_88 rfl (lv_at hl 1 rfl) ?_
      refine lv_iload_n hx hb d_m_lostBy_89 rfl (lv_at hl 3 rfl) ?_
      refine lv_imul hx hb d_m_lostBy_90 ?_
      exact zret_i hx hb hr hlk hK hI h d_m_lostBy_91
    · have h := h.2 hc
      refine lv_iload_n hx hb d_m_lostBy_31 rfl (lv_at hl 3 rfl) ?_
      refine lv_iload_n hx hb d_m_lostBy_32 rfl (lv_at hl 2 rfl) ?_
      refine lv_if_eq hx hb d_m_lostBy_33 rfl (fun hc => ?_) (fun hc => ?_)
      · have h := h.1 hc
        refine lv_iload hx hb d_m_lostBy_54 (lv_at hl 4 rfl) ?_
        refine lv_iconst (v := 1) hx hb d_m_lostBy_56 zc_iconst_1 ?_
        refine lv_icmp_ne hx hb d_m_lostBy_57 rfl (fun hc => ?_) (fun hc => ?_)
        · have h := h.1 hc
          refine lv_iload hx hb d_m_lostBy_65 (lv_at hl 4 rfl) ?_
          refine lv_iconst (v := 4) hx hb d_m_lostBy_67 zc_iconst_4 ?_
          refine lv_icmp_ge hx hb d_m_lostBy_68 rfl (fun hc => ?_) (fun hc => ?_)
          · have h := h.1 hc
            refine lv_sipush (v := 300) hx hb d_m_lostBy_77 zc_sipush_300 ?_
            exact k_m_lostBy_80 cx0 ih hI (lv_sub hl [0, 1, 2, 4] rfl) h
          · have h := h.2 hc
            refine lv_sipush (v := 200) hx hb d_m_lostBy_71 zc_sipush_200 ?_
            refine lv_goto hx hb d_m_lostBy_74 rfl ?_
            exact k_m_lostBy_80 cx0 ih hI (lv_sub hl [0, 1, 2, 4] rfl) h
        · have h := h.2 hc
          refine lv_bipush (v := 100) hx hb d_m_lostBy_60 zc_bipush_100 ?_
          refine lv_goto hx hb d_m_lostBy_62 rfl ?_
          exact k_m_lostBy_80 cx0 ih hI (lv_sub hl [0, 1, 2, 4] rfl) h
      · have h := h.2 hc
        refine lv_iload hx hb d_m_lostBy_36 (lv_at hl 4 rfl) ?_
        refine lv_iconst (v := 1) hx hb d_m_lostBy_38 zc_iconst_1 ?_
        refine lv_icmp_ne hx hb d_m_lostBy_39 rfl (fun hc => ?_) (fun hc => ?_)
        · have h := h.1 hc
          refine lv_sipush (v := 300) hx hb d_m_lostBy_48 zc_sipush_300 ?_
          refine lv_goto hx hb d_m_lostBy_51 rfl ?_
          exact k_m_lostBy_80 cx0 ih hI (lv_sub hl [0, 1, 2, 4] rfl) h
        · have h := h.2 hc
          refine lv_sipush (v := 200) hx hb d_m_lostBy_42 zc_sipush_200 ?_
          refine lv_goto hx hb d_m_lostBy_45 rfl ?_
          exact k_m_lostBy_80 cx0 ih hI (lv_sub hl [0, 1, 2, 4] rfl) h
def b_m_lostBy_19  (post : Int32 → ZS → Prop) (s0 : Int32) (u : ZS) : Prop := post s0 u
set_option maxRecDepth 100000 in
set_option maxHeartbeats 4000000 in
theorem k_m_lostBy_19 {p : Program} {l : Launch} {e : Env} {R : Room} {s : State} {m : MethodId} {args : Array Value} {below : List Frame} {meth : Method} {c : Code} {D : va_G} {A : Nat → Prop} {ad : Nat → Nat} {ca : Nat → ClassId}  {post : Int32 → ZS → Prop} (cx : zx p R s m args meth c c_m_lostBy 5 1 12 "ShortBridgeModel" (some .int) zG zNs D (mT ca)) {s0 : Int32} {u : ZS} {H : Heap} {locs : List Loc} {ls : Array Slot} (hI : zw D A s.heap (mW ad ca u) H locs) (hl : lv_has ls 5 []) (h : b_m_lostBy_19 post s0 u) : W p l e R s m args below meth c H locs 0 0 (MQ below (va_Qi post (zE D (mT ca) (mW ad ca) A) A) args s 0 0 A) (F0 m 19 ls [.int s0]) := by
  have cx0 := cx
  obtain ⟨hx, hb, hml, hown, hts, hN, hK, hr, hlk, hfr, hlc⟩ := cx
  unfold b_m_lostBy_19 at h
  exact zret_i hx hb hr hlk hK hI h d_m_lostBy_19
def w_m_lostBy (v0 : Int32) (v1 : Int32) (v2 : Int32) (u : ZS) (post : Int32 → ZS → Prop) : Prop := (¬ v1 = 0 → ∃ n0, b_m_lostBy_25 post n0 v0 v1 v2 0 1 u) ∧ (v1 = 0 → (v2 = 0 → b_m_lostBy_19 post (50 * v0) u) ∧ (¬ (v2 = 0) → b_m_lostBy_19 post (100 * v0) u))
set_option maxRecDepth 100000 in
set_option maxHeartbeats 4000000 in
theorem t_m_lostBy (l : Launch) (D : va_G) (ad : Nat → Nat) (ca : Nat → ClassId) {v0 : Int32} {v1 : Int32} {v2 : Int32} {u : ZS} {post : Int32 → ZS → Prop} (h : w_m_lostBy v0 v1 v2 u post) : zI l y_m_lostBy (Cond.code y_m_lostBy c_m_lostBy 5 (some .int) :: zG) { frames := 1, cells := 0, slots := 0, locals := 12 } D (mT ca) zNs (mW ad ca) [.int v0, .int v1, .int v2] u post := by
  refine zI_of (cc := c_m_lostBy) (maxL := 5) (ret := (some .int)) (by decide) (Nat.le_of_ble_eq_true rfl) ?_
  intro p e s m args below meth c ls A cx hI hl
  have cx0 := cx
  obtain ⟨hx, hb, hml, hown, hts, hN, hK, hr, hlk, hfr, hlc⟩ := cx
  have hl : lv_has ls 5 [(0, .int v0), (1, .int v1), (2, .int v2)] := hl
  unfold w_m_lostBy at h
  refine lv_iload_n hx hb d_m_lostBy_0 rfl (lv_at hl 1 rfl) ?_
  refine lv_if_ne hx hb d_m_lostBy_1 rfl (fun hc => ?_) (fun hc => ?_)
  · have h := h.1 hc
    refine lv_iconst (v := 0) hx hb d_m_lostBy_20 zc_iconst_0 ?_
    refine lv_istore_n hx hb d_m_lostBy_21 rfl hl (by decide) rfl ?_
    intro ls hl
    have hl : lv_has ls 5 [(3, .int 0), (0, .int v0), (1, .int v1), (2, .int v2)] := hl
    refine lv_iconst (v := 1) hx hb d_m_lostBy_22 zc_iconst_1 ?_
    refine lv_istore hx hb d_m_lostBy_23 hl (by decide) rfl ?_
    intro ls hl
    have hl : lv_has ls 5 [(4, .int 1), (3, .int 0), (0, .int v0), (1, .int v1), (2, .int v2)] := hl
    obtain ⟨n0, h⟩ := h
    exact k_m_lostBy_25 cx0  n0 _ _ _ _ _ _ _ _ _ hI (lv_sub hl [2, 3, 4, 1, 0] rfl) h
  · have h := h.2 hc
    refine lv_iload_n hx hb d_m_lostBy_4 rfl (lv_at hl 2 rfl) ?_
    refine lv_if_eq hx hb d_m_lostBy_5 rfl (fun hc => ?_) (fun hc => ?_)
    · have h := h.1 hc
      refine lv_bipush (v := 50) hx hb d_m_lostBy_15 zc_bipush_50 ?_
      refine lv_iload_n hx hb d_m_lostBy_17 rfl (lv_at hl 0 rfl) ?_
      refine lv_imul hx hb d_m_lostBy_18 ?_
      exact k_m_lostBy_19 cx0  hI (lv_sub hl [] rfl) h
    · have h := h.2 hc
      refine lv_bipush (v := 100) hx hb d_m_lostBy_8 zc_bipush_100 ?_
      refine lv_iload_n hx hb d_m_lostBy_10 rfl (lv_at hl 0 rfl) ?_
      refine lv_imul hx hb d_m_lostBy_11 ?_
      refine lv_goto hx hb d_m_lostBy_12 rfl ?_
      exact k_m_lostBy_19 cx0  hI (lv_sub hl [] rfl) h
def b_m_scoreNow_247  (post : Int32 → ZS → Prop) (s0 : Int32) (u : ZS) : Prop := post s0 u
set_option maxRecDepth 100000 in
set_option maxHeartbeats 4000000 in
theorem k_m_scoreNow_247 {p : Program} {l : Launch} {e : Env} {R : Room} {s : State} {m : MethodId} {args : Array Value} {below : List Frame} {meth : Method} {c : Code} {D : va_G} {A : Nat → Prop} {ad : Nat → Nat} {ca : Nat → ClassId}  {post : Int32 → ZS → Prop} (cx : zx p R s m args meth c c_m_scoreNow 10 5 99 "ShortBridgeModel" (some .int) zG zNs D (mT ca)) {s0 : Int32} {u : ZS} {H : Heap} {locs : List Loc} {ls : Array Slot} (hI : zw D A s.heap (mW ad ca u) H locs) (hl : lv_has ls 10 []) (h : b_m_scoreNow_247 post s0 u) : W p l e R s m args below meth c H locs 0 0 (MQ below (va_Qi post (zE D (mT ca) (mW ad ca) A) A) args s 0 0 A) (F0 m 247 ls [.int s0]) := by
  have cx0 := cx
  obtain ⟨hx, hb, hml, hown, hts, hN, hK, hr, hlk, hfr, hlc⟩ := cx
  unfold b_m_scoreNow_247 at h
  exact zret_i hx hb hr hlk hK hI h d_m_scoreNow_247
def b_m_scoreNow_230  (post : Int32 → ZS → Prop) (v7 : Int32) (u : ZS) : Prop := (¬ ((fI u 8) &&& 1) = 0 → b_m_scoreNow_247 post (-v7) u) ∧ (((fI u 8) &&& 1) = 0 → b_m_scoreNow_247 post v7 u)
set_option maxRecDepth 100000 in
set_option maxHeartbeats 4000000 in
theorem k_m_scoreNow_230 {p : Program} {l : Launch} {e : Env} {R : Room} {s : State} {m : MethodId} {args : Array Value} {below : List Frame} {meth : Method} {c : Code} {D : va_G} {A : Nat → Prop} {ad : Nat → Nat} {ca : Nat → ClassId}  {post : Int32 → ZS → Prop} (cx : zx p R s m args meth c c_m_scoreNow 10 5 99 "ShortBridgeModel" (some .int) zG zNs D (mT ca)) {v7 : Int32} {u : ZS} {H : Heap} {locs : List Loc} {ls : Array Slot} (hI : zw D A s.heap (mW ad ca u) H locs) (hl : lv_has ls 10 [(0, .ref (ad 0)), (7, .int v7)]) (h : b_m_scoreNow_230 post v7 u) : W p l e R s m args below meth c H locs 0 0 (MQ below (va_Qi post (zE D (mT ca) (mW ad ca) A) A) args s 0 0 A) (F0 m 230 ls []) := by
  have cx0 := cx
  obtain ⟨hx, hb, hml, hown, hts, hN, hK, hr, hlk, hfr, hlc⟩ := cx
  unfold b_m_scoreNow_230 at h
  refine lv_aload_n hx hb d_m_scoreNow_230 rfl (lv_at hl 0 rfl) ?_
  refine mg_M_declarer hx hb hts hown hK hI (hts _ q_667) d_m_scoreNow_231 ?_
  refine lv_iconst (v := 1) hx hb d_m_scoreNow_234 zc_iconst_1 ?_
  refine lv_iand hx hb d_m_scoreNow_235 ?_
  refine lv_if_ne hx hb d_m_scoreNow_236 rfl (fun hc => ?_) (fun hc => ?_)
  · have h := h.1 hc
    refine lv_iload hx hb d_m_scoreNow_244 (lv_at hl 1 rfl) ?_
    refine lv_ineg hx hb d_m_scoreNow_246 ?_
    exact k_m_scoreNow_247 cx0  hI (lv_sub hl [] rfl) h
  · have h := h.2 hc
    refine lv_iload hx hb d_m_scoreNow_239 (lv_at hl 1 rfl) ?_
    refine lv_goto hx hb d_m_scoreNow_241 rfl ?_
    exact k_m_scoreNow_247 cx0  hI (lv_sub hl [] rfl) h
def b_m_scoreNow_211  (post : Int32 → ZS → Prop) (v3 : Int32) (v4 : Int32) (v9 : Int32) (s0 : Int32) (s1 : Int32) (u : ZS) : Prop := b_m_scoreNow_230 post (((s1 + s0) + (50 * (fI u 7))) + (v9 * (v3 - v4))) u
set_option maxRecDepth 100000 in
set_option maxHeartbeats 4000000 in
theorem k_m_scoreNow_211 {p : Program} {l : Launch} {e : Env} {R : Room} {s : State} {m : MethodId} {args : Array Value} {below : List Frame} {meth : Method} {c : Code} {D : va_G} {A : Nat → Prop} {ad : Nat → Nat} {ca : Nat → ClassId}  {post : Int32 → ZS → Prop} (cx : zx p R s m args meth c c_m_scoreNow 10 5 99 "ShortBridgeModel" (some .int) zG zNs D (mT ca)) {v3 : Int32} {v4 : Int32} {v9 : Int32} {s0 : Int32} {s1 : Int32} {u : ZS} {H : Heap} {locs : List Loc} {ls : Array Slot} (hI : zw D A s.heap (mW ad ca u) H locs) (hl : lv_has ls 10 [(0, .ref (ad 0)), (3, .int v3), (4, .int v4), (9, .int v9)]) (h : b_m_scoreNow_211 post v3 v4 v9 s0 s1 u) : W p l e R s m args below meth c H locs 0 0 (MQ below (va_Qi post (zE D (mT ca) (mW ad ca) A) A) args s 0 0 A) (F0 m 211 ls [.int s0, .int s1]) := by
  have cx0 := cx
  obtain ⟨hx, hb, hml, hown, hts, hN, hK, hr, hlk, hfr, hlc⟩ := cx
  unfold b_m_scoreNow_211 at h
  refine lv_iadd hx hb d_m_scoreNow_211 ?_
  refine lv_bipush (v := 50) hx hb d_m_scoreNow_212 zc_bipush_50 ?_
  refine lv_aload_n hx hb d_m_scoreNow_214 rfl (lv_at hl 0 rfl) ?_
  refine mg_M_doubled hx hb hts hown hK hI (hts _ q_666) d_m_scoreNow_215 ?_
  refine lv_imul hx hb d_m_scoreNow_218 ?_
  refine lv_iadd hx hb d_m_scoreNow_219 ?_
  refine lv_iload hx hb d_m_scoreNow_220 (lv_at hl 3 rfl) ?_
  refine lv_iload_n hx hb d_m_scoreNow_222 rfl (lv_at hl 1 rfl) ?_
  refine lv_iload hx hb d_m_scoreNow_223 (lv_at hl 2 rfl) ?_
  refine lv_isub hx hb d_m_scoreNow_225 ?_
  refine lv_imul hx hb d_m_scoreNow_226 ?_
  refine lv_iadd hx hb d_m_scoreNow_227 ?_
  refine lv_istore hx hb d_m_scoreNow_228 hl (by decide) rfl ?_
  intro ls hl
  have hl : lv_has ls 10 [(7, .int (((s1 + s0) + (50 * (fI u 7))) + (v9 * (v3 - v4)))), (0, .ref (ad 0)), (3, .int v3), (4, .int v4), (9, .int v9)] := hl
  exact k_m_scoreNow_230 cx0  hI (lv_sub hl [1, 0] rfl) h
def b_m_scoreNow_187  (post : Int32 → ZS → Prop) (v1 : Int32) (v3 : Int32) (v4 : Int32) (v5 : Int32) (v9 : Int32) (s0 : Int32) (s1 : Int32) (u : ZS) : Prop := (3 ≤ v1 → (v5 = 0 → b_m_scoreNow_211 post v3 v4 v9 400 (s1 + s0) u) ∧ (¬ (v5 = 0) → b_m_scoreNow_211 post v3 v4 v9 600 (s1 + s0) u)) ∧ (¬ (3 ≤ v1) → b_m_scoreNow_211 post v3 v4 v9 0 (s1 + s0) u)
set_option maxRecDepth 100000 in
set_option maxHeartbeats 4000000 in
theorem k_m_scoreNow_187 {p : Program} {l : Launch} {e : Env} {R : Room} {s : State} {m : MethodId} {args : Array Value} {below : List Frame} {meth : Method} {c : Code} {D : va_G} {A : Nat → Prop} {ad : Nat → Nat} {ca : Nat → ClassId}  {post : Int32 → ZS → Prop} (cx : zx p R s m args meth c c_m_scoreNow 10 5 99 "ShortBridgeModel" (some .int) zG zNs D (mT ca)) {v1 : Int32} {v3 : Int32} {v4 : Int32} {v5 : Int32} {v9 : Int32} {s0 : Int32} {s1 : Int32} {u : ZS} {H : Heap} {locs : List Loc} {ls : Array Slot} (hI : zw D A s.heap (mW ad ca u) H locs) (hl : lv_has ls 10 [(0, .ref (ad 0)), (1, .int v1), (3, .int v3), (4, .int v4), (5, .int v5), (9, .int v9)]) (h : b_m_scoreNow_187 post v1 v3 v4 v5 v9 s0 s1 u) : W p l e R s m args below meth c H locs 0 0 (MQ below (va_Qi post (zE D (mT ca) (mW ad ca) A) A) args s 0 0 A) (F0 m 187 ls [.int s0, .int s1]) := by
  have cx0 := cx
  obtain ⟨hx, hb, hml, hown, hts, hN, hK, hr, hlk, hfr, hlc⟩ := cx
  unfold b_m_scoreNow_187 at h
  refine lv_iadd hx hb d_m_scoreNow_187 ?_
  refine lv_iload_n hx hb d_m_scoreNow_188 rfl (lv_at hl 1 rfl) ?_
  refine lv_iconst (v := 3) hx hb d_m_scoreNow_189 zc_iconst_3 ?_
  refine lv_icmp_ge hx hb d_m_scoreNow_190 rfl (fun hc => ?_) (fun hc => ?_)
  · have h := h.1 hc
    refine lv_iload hx hb d_m_scoreNow_197 (lv_at hl 4 rfl) ?_
    refine lv_if_eq hx hb d_m_scoreNow_199 rfl (fun hc => ?_) (fun hc => ?_)
    · have h := h.1 hc
      refine lv_sipush (v := 400) hx hb d_m_scoreNow_208 zc_sipush_400 ?_
      exact k_m_scoreNow_211 cx0  hI (lv_sub hl [0, 2, 3, 5] rfl) h
    · have h := h.2 hc
      refine lv_sipush (v := 600) hx hb d_m_scoreNow_202 zc_sipush_600 ?_
      refine lv_goto hx hb d_m_scoreNow_205 rfl ?_
      exact k_m_scoreNow_211 cx0  hI (lv_sub hl [0, 2, 3, 5] rfl) h
  · have h := h.2 hc
    refine lv_iconst (v := 0) hx hb d_m_scoreNow_193 zc_iconst_0 ?_
    refine lv_goto hx hb d_m_scoreNow_194 rfl ?_
    exact k_m_scoreNow_211 cx0  hI (lv_sub hl [0, 2, 3, 5] rfl) h
def b_m_scoreNow_157  (post : Int32 → ZS → Prop) (v1 : Int32) (v3 : Int32) (v4 : Int32) (v5 : Int32) (v8 : Int32) (s0 : Int32) (u : ZS) : Prop := (100 ≤ v8 → (v5 = 0 → b_m_scoreNow_187 post v1 v3 v4 v5 s0 300 v8 u) ∧ (¬ (v5 = 0) → b_m_scoreNow_187 post v1 v3 v4 v5 s0 500 v8 u)) ∧ (¬ (100 ≤ v8) → b_m_scoreNow_187 post v1 v3 v4 v5 s0 50 v8 u)
set_option maxRecDepth 100000 in
set_option maxHeartbeats 4000000 in
theorem k_m_scoreNow_157 {p : Program} {l : Launch} {e : Env} {R : Room} {s : State} {m : MethodId} {args : Array Value} {below : List Frame} {meth : Method} {c : Code} {D : va_G} {A : Nat → Prop} {ad : Nat → Nat} {ca : Nat → ClassId}  {post : Int32 → ZS → Prop} (cx : zx p R s m args meth c c_m_scoreNow 10 5 99 "ShortBridgeModel" (some .int) zG zNs D (mT ca)) {v1 : Int32} {v3 : Int32} {v4 : Int32} {v5 : Int32} {v8 : Int32} {s0 : Int32} {u : ZS} {H : Heap} {locs : List Loc} {ls : Array Slot} (hI : zw D A s.heap (mW ad ca u) H locs) (hl : lv_has ls 10 [(0, .ref (ad 0)), (1, .int v1), (3, .int v3), (4, .int v4), (5, .int v5), (8, .int v8)]) (h : b_m_scoreNow_157 post v1 v3 v4 v5 v8 s0 u) : W p l e R s m args below meth c H locs 0 0 (MQ below (va_Qi post (zE D (mT ca) (mW ad ca) A) A) args s 0 0 A) (F0 m 157 ls [.int s0]) := by
  have cx0 := cx
  obtain ⟨hx, hb, hml, hown, hts, hN, hK, hr, hlk, hfr, hlc⟩ := cx
  unfold b_m_scoreNow_157 at h
  refine lv_istore hx hb d_m_scoreNow_157 hl (by decide) rfl ?_
  intro ls hl
  have hl : lv_has ls 10 [(9, .int s0), (0, .ref (ad 0)), (1, .int v1), (3, .int v3), (4, .int v4), (5, .int v5), (8, .int v8)] := hl
  refine lv_iload hx hb d_m_scoreNow_159 (lv_at hl 6 rfl) ?_
  refine lv_iload hx hb d_m_scoreNow_161 (lv_at hl 6 rfl) ?_
  refine lv_bipush (v := 100) hx hb d_m_scoreNow_163 zc_bipush_100 ?_
  refine lv_icmp_ge hx hb d_m_scoreNow_165 rfl (fun hc => ?_) (fun hc => ?_)
  · have h := h.1 hc
    refine lv_iload hx hb d_m_scoreNow_173 (lv_at hl 5 rfl) ?_
    refine lv_if_eq hx hb d_m_scoreNow_175 rfl (fun hc => ?_) (fun hc => ?_)
    · have h := h.1 hc
      refine lv_sipush (v := 300) hx hb d_m_scoreNow_184 zc_sipush_300 ?_
      exact k_m_scoreNow_187 cx0  hI (lv_sub hl [1, 2, 3, 4, 5, 0] rfl) h
    · have h := h.2 hc
      refine lv_sipush (v := 500) hx hb d_m_scoreNow_178 zc_sipush_500 ?_
      refine lv_goto hx hb d_m_scoreNow_181 rfl ?_
      exact k_m_scoreNow_187 cx0  hI (lv_sub hl [1, 2, 3, 4, 5, 0] rfl) h
  · have h := h.2 hc
    refine lv_bipush (v := 50) hx hb d_m_scoreNow_168 zc_bipush_50 ?_
    refine lv_goto hx hb d_m_scoreNow_170 rfl ?_
    exact k_m_scoreNow_187 cx0  hI (lv_sub hl [1, 2, 3, 4, 5, 0] rfl) h
def b_m_scoreNow_152  (post : Int32 → ZS → Prop) (v1 : Int32) (v3 : Int32) (v4 : Int32) (v5 : Int32) (v8 : Int32) (s0 : Int32) (u : ZS) : Prop := b_m_scoreNow_157 post v1 v3 v4 v5 v8 (s0 * (fI u 7)) u
set_option maxRecDepth 100000 in
set_option maxHeartbeats 4000000 in
theorem k_m_scoreNow_152 {p : Program} {l : Launch} {e : Env} {R : Room} {s : State} {m : MethodId} {args : Array Value} {below : List Frame} {meth : Method} {c : Code} {D : va_G} {A : Nat → Prop} {ad : Nat → Nat} {ca : Nat → ClassId}  {post : Int32 → ZS → Prop} (cx : zx p R s m args meth c c_m_scoreNow 10 5 99 "ShortBridgeModel" (some .int) zG zNs D (mT ca)) {v1 : Int32} {v3 : Int32} {v4 : Int32} {v5 : Int32} {v8 : Int32} {s0 : Int32} {u : ZS} {H : Heap} {locs : List Loc} {ls : Array Slot} (hI : zw D A s.heap (mW ad ca u) H locs) (hl : lv_has ls 10 [(0, .ref (ad 0)), (1, .int v1), (3, .int v3), (4, .int v4), (5, .int v5), (8, .int v8)]) (h : b_m_scoreNow_152 post v1 v3 v4 v5 v8 s0 u) : W p l e R s m args below meth c H locs 0 0 (MQ below (va_Qi post (zE D (mT ca) (mW ad ca) A) A) args s 0 0 A) (F0 m 152 ls [.int s0]) := by
  have cx0 := cx
  obtain ⟨hx, hb, hml, hown, hts, hN, hK, hr, hlk, hfr, hlc⟩ := cx
  unfold b_m_scoreNow_152 at h
  refine lv_aload_n hx hb d_m_scoreNow_152 rfl (lv_at hl 0 rfl) ?_
  refine mg_M_doubled hx hb hts hown hK hI (hts _ q_666) d_m_scoreNow_153 ?_
  refine lv_imul hx hb d_m_scoreNow_156 ?_
  exact k_m_scoreNow_157 cx0  hI (lv_sub hl [0, 1, 2, 3, 4, 5] rfl) h
def b_m_scoreNow_119  (post : Int32 → ZS → Prop) (v1 : Int32) (v3 : Int32) (v4 : Int32) (v5 : Int32) (v6 : Int32) (s0 : Int32) (s1 : Int32) (u : ZS) : Prop := (¬ (fI u 7) = 0 → (v5 = 0 → b_m_scoreNow_152 post v1 v3 v4 v5 ((s1 + s0) <<< ((fI u 7) &&& 31)) 100 u) ∧ (¬ (v5 = 0) → b_m_scoreNow_152 post v1 v3 v4 v5 ((s1 + s0) <<< ((fI u 7) &&& 31)) 200 u)) ∧ ((fI u 7) = 0 → b_m_scoreNow_157 post v1 v3 v4 v5 ((s1 + s0) <<< ((fI u 7) &&& 31)) v6 u)
set_option maxRecDepth 100000 in
set_option maxHeartbeats 4000000 in
theorem k_m_scoreNow_119 {p : Program} {l : Launch} {e : Env} {R : Room} {s : State} {m : MethodId} {args : Array Value} {below : List Frame} {meth : Method} {c : Code} {D : va_G} {A : Nat → Prop} {ad : Nat → Nat} {ca : Nat → ClassId}  {post : Int32 → ZS → Prop} (cx : zx p R s m args meth c c_m_scoreNow 10 5 99 "ShortBridgeModel" (some .int) zG zNs D (mT ca)) {v1 : Int32} {v3 : Int32} {v4 : Int32} {v5 : Int32} {v6 : Int32} {s0 : Int32} {s1 : Int32} {u : ZS} {H : Heap} {locs : List Loc} {ls : Array Slot} (hI : zw D A s.heap (mW ad ca u) H locs) (hl : lv_has ls 10 [(0, .ref (ad 0)), (1, .int v1), (3, .int v3), (4, .int v4), (5, .int v5), (6, .int v6)]) (h : b_m_scoreNow_119 post v1 v3 v4 v5 v6 s0 s1 u) : W p l e R s m args below meth c H locs 0 0 (MQ below (va_Qi post (zE D (mT ca) (mW ad ca) A) A) args s 0 0 A) (F0 m 119 ls [.int s0, .int s1]) := by
  have cx0 := cx
  obtain ⟨hx, hb, hml, hown, hts, hN, hK, hr, hlk, hfr, hlc⟩ := cx
  unfold b_m_scoreNow_119 at h
  refine lv_iadd hx hb d_m_scoreNow_119 ?_
  refine lv_aload_n hx hb d_m_scoreNow_120 rfl (lv_at hl 0 rfl) ?_
  refine mg_M_doubled hx hb hts hown hK hI (hts _ q_666) d_m_scoreNow_121 ?_
  refine lv_ishl hx hb d_m_scoreNow_124 ?_
  refine lv_istore hx hb d_m_scoreNow_125 hl (by decide) rfl ?_
  intro ls hl
  have hl : lv_has ls 10 [(8, .int ((s1 + s0) <<< ((fI u 7) &&& 31))), (0, .ref (ad 0)), (1, .int v1), (3, .int v3), (4, .int v4), (5, .int v5), (6, .int v6)] := hl
  refine lv_aload_n hx hb d_m_scoreNow_127 rfl (lv_at hl 1 rfl) ?_
  refine mg_M_doubled hx hb hts hown hK hI (hts _ q_666) d_m_scoreNow_128 ?_
  refine lv_if_ne hx hb d_m_scoreNow_131 rfl (fun hc => ?_) (fun hc => ?_)
  · have h := h.1 hc
    refine lv_iload hx hb d_m_scoreNow_139 (lv_at hl 5 rfl) ?_
    refine lv_if_eq hx hb d_m_scoreNow_141 rfl (fun hc => ?_) (fun hc => ?_)
    · have h := h.1 hc
      refine lv_bipush (v := 100) hx hb d_m_scoreNow_150 zc_bipush_100 ?_
      exact k_m_scoreNow_152 cx0  hI (lv_sub hl [1, 2, 3, 4, 5, 0] rfl) h
    · have h := h.2 hc
      refine lv_sipush (v := 200) hx hb d_m_scoreNow_144 zc_sipush_200 ?_
      refine lv_goto hx hb d_m_scoreNow_147 rfl ?_
      exact k_m_scoreNow_152 cx0  hI (lv_sub hl [1, 2, 3, 4, 5, 0] rfl) h
  · have h := h.2 hc
    refine lv_iload hx hb d_m_scoreNow_134 (lv_at hl 6 rfl) ?_
    refine lv_goto hx hb d_m_scoreNow_136 rfl ?_
    exact k_m_scoreNow_157 cx0  hI (lv_sub hl [1, 2, 3, 4, 5, 0] rfl) h
def b_m_scoreNow_80  (post : Int32 → ZS → Prop) (v1 : Int32) (v2 : Int32) (v3 : Int32) (v4 : Int32) (v5 : Int32) (s0 : Int32) (u : ZS) : Prop := w_m_lostBy (v4 - v3) (fI u 7) v5 u (fun r1 u2 => (v3 < v4 → b_m_scoreNow_230 post (-r1) u2) ∧ (¬ (v3 < v4) → (¬ v2 = 4 → b_m_scoreNow_119 post v1 v3 v4 v5 s0 0 (v1 * s0) u2) ∧ (v2 = 4 → b_m_scoreNow_119 post v1 v3 v4 v5 s0 10 (v1 * s0) u2)))
set_option maxRecDepth 100000 in
set_option maxHeartbeats 4000000 in
theorem k_m_scoreNow_80 {p : Program} {l : Launch} {e : Env} {R : Room} {s : State} {m : MethodId} {args : Array Value} {below : List Frame} {meth : Method} {c : Code} {D : va_G} {A : Nat → Prop} {ad : Nat → Nat} {ca : Nat → ClassId}  {post : Int32 → ZS → Prop} (cx : zx p R s m args meth c c_m_scoreNow 10 5 99 "ShortBridgeModel" (some .int) zG zNs D (mT ca)) {v1 : Int32} {v2 : Int32} {v3 : Int32} {v4 : Int32} {v5 : Int32} {s0 : Int32} {u : ZS} {H : Heap} {locs : List Loc} {ls : Array Slot} (hI : zw D A s.heap (mW ad ca u) H locs) (hl : lv_has ls 10 [(0, .ref (ad 0)), (1, .int v1), (2, .int v2), (3, .int v3), (4, .int v4), (5, .int v5)]) (h : b_m_scoreNow_80 post v1 v2 v3 v4 v5 s0 u) : W p l e R s m args below meth c H locs 0 0 (MQ below (va_Qi post (zE D (mT ca) (mW ad ca) A) A) args s 0 0 A) (F0 m 80 ls [.int s0]) := by
  have cx0 := cx
  obtain ⟨hx, hb, hml, hown, hts, hN, hK, hr, hlk, hfr, hlc⟩ := cx
  unfold b_m_scoreNow_80 at h
  refine lv_istore hx hb d_m_scoreNow_80 hl (by decide) rfl ?_
  intro ls hl
  have hl : lv_has ls 10 [(6, .int s0), (0, .ref (ad 0)), (1, .int v1), (2, .int v2), (3, .int v3), (4, .int v4), (5, .int v5)] := hl
  refine lv_iload hx hb d_m_scoreNow_82 (lv_at hl 5 rfl) ?_
  refine lv_iload_n hx hb d_m_scoreNow_84 rfl (lv_at hl 4 rfl) ?_
  refine lv_isub hx hb d_m_scoreNow_85 ?_
  refine lv_aload_n hx hb d_m_scoreNow_86 rfl (lv_at hl 1 rfl) ?_
  refine mg_M_doubled hx hb hts hown hK hI (hts _ q_666) d_m_scoreNow_87 ?_
  refine lv_iload hx hb d_m_scoreNow_90 (lv_at hl 6 rfl) ?_
  refine zr_i (va_runS (As := [.int (v4 - v3), .int (fI u 7), .int v5]) (rest := []) ⟨hx, hb, hml, hown, hts⟩ (t_m_lostBy l D ad ca h _) (va_cwS 3 hts (zg_S q_866 q_867 q_44 q_868) rfl rfl rfl hd_m_lostBy ⟨Nat.le_trans (by decide) hfr, Nat.le_trans (by decide) hlc⟩) (z_preS zNs_ok hK hN hI _) rfl rfl hl.1 rfl (lv_room (Nat.le_of_ble_eq_true rfl)) d_m_scoreNow_92 ⟨Nat.zero_le _, Nat.zero_le _⟩) hI ?_
  intro r1 u2 H locs h hI
  refine lv_ineg hx hb d_m_scoreNow_95 ?_
  refine lv_istore hx hb d_m_scoreNow_96 hl (by decide) rfl ?_
  intro ls hl
  have hl : lv_has ls 10 [(7, .int (-r1)), (6, .int s0), (0, .ref (ad 0)), (1, .int v1), (2, .int v2), (3, .int v3), (4, .int v4), (5, .int v5)] := hl
  refine lv_iload_n hx hb d_m_scoreNow_98 rfl (lv_at hl 5 rfl) ?_
  refine lv_iload hx hb d_m_scoreNow_99 (lv_at hl 6 rfl) ?_
  refine lv_icmp_lt hx hb d_m_scoreNow_101 rfl (fun hc => ?_) (fun hc => ?_)
  · have h := h.1 hc
    exact k_m_scoreNow_230 cx0  hI (lv_sub hl [2, 0] rfl) h
  · have h := h.2 hc
    refine lv_iload_n hx hb d_m_scoreNow_104 rfl (lv_at hl 3 rfl) ?_
    refine lv_iload hx hb d_m_scoreNow_105 (lv_at hl 1 rfl) ?_
    refine lv_imul hx hb d_m_scoreNow_107 ?_
    refine lv_iload_n hx hb d_m_scoreNow_108 rfl (lv_at hl 4 rfl) ?_
    refine lv_iconst (v := 4) hx hb d_m_scoreNow_109 zc_iconst_4 ?_
    refine lv_icmp_ne hx hb d_m_scoreNow_110 rfl (fun hc => ?_) (fun hc => ?_)
    · have h := h.1 hc
      refine lv_iconst (v := 0) hx hb d_m_scoreNow_118 zc_iconst_0 ?_
      exact k_m_scoreNow_119 cx0  hI (lv_sub hl [2, 3, 5, 6, 7, 1] rfl) h
    · have h := h.2 hc
      refine lv_bipush (v := 10) hx hb d_m_scoreNow_113 zc_bipush_10 ?_
      refine lv_goto hx hb d_m_scoreNow_115 rfl ?_
      exact k_m_scoreNow_119 cx0  hI (lv_sub hl [2, 3, 5, 6, 7, 1] rfl) h
def b_m_scoreNow_66  (post : Int32 → ZS → Prop) (v1 : Int32) (v2 : Int32) (v3 : Int32) (v4 : Int32) (s0 : Int32) (u : ZS) : Prop := (2 ≤ v2 → b_m_scoreNow_80 post v1 v2 v3 v4 s0 30 u) ∧ (¬ (2 ≤ v2) → b_m_scoreNow_80 post v1 v2 v3 v4 s0 20 u)
set_option maxRecDepth 100000 in
set_option maxHeartbeats 4000000 in
theorem k_m_scoreNow_66 {p : Program} {l : Launch} {e : Env} {R : Room} {s : State} {m : MethodId} {args : Array Value} {below : List Frame} {meth : Method} {c : Code} {D : va_G} {A : Nat → Prop} {ad : Nat → Nat} {ca : Nat → ClassId}  {post : Int32 → ZS → Prop} (cx : zx p R s m args meth c c_m_scoreNow 10 5 99 "ShortBridgeModel" (some .int) zG zNs D (mT ca)) {v1 : Int32} {v2 : Int32} {v3 : Int32} {v4 : Int32} {s0 : Int32} {u : ZS} {H : Heap} {locs : List Loc} {ls : Array Slot} (hI : zw D A s.heap (mW ad ca u) H locs) (hl : lv_has ls 10 [(0, .ref (ad 0)), (1, .int v1), (2, .int v2), (3, .int v3), (4, .int v4)]) (h : b_m_scoreNow_66 post v1 v2 v3 v4 s0 u) : W p l e R s m args below meth c H locs 0 0 (MQ below (va_Qi post (zE D (mT ca) (mW ad ca) A) A) args s 0 0 A) (F0 m 66 ls [.int s0]) := by
  have cx0 := cx
  obtain ⟨hx, hb, hml, hown, hts, hN, hK, hr, hlk, hfr, hlc⟩ := cx
  unfold b_m_scoreNow_66 at h
  refine lv_istore hx hb d_m_scoreNow_66 hl (by decide) rfl ?_
  intro ls hl
  have hl : lv_has ls 10 [(5, .int s0), (0, .ref (ad 0)), (1, .int v1), (2, .int v2), (3, .int v3), (4, .int v4)] := hl
  refine lv_iload_n hx hb d_m_scoreNow_68 rfl (lv_at hl 3 rfl) ?_
  refine lv_iconst (v := 2) hx hb d_m_scoreNow_69 zc_iconst_2 ?_
  refine lv_icmp_ge hx hb d_m_scoreNow_70 rfl (fun hc => ?_) (fun hc => ?_)
  · have h := h.1 hc
    refine lv_bipush (v := 30) hx hb d_m_scoreNow_78 zc_bipush_30 ?_
    exact k_m_scoreNow_80 cx0  hI (lv_sub hl [1, 2, 3, 4, 5, 0] rfl) h
  · have h := h.2 hc
    refine lv_bipush (v := 20) hx hb d_m_scoreNow_73 zc_bipush_20 ?_
    refine lv_goto hx hb d_m_scoreNow_75 rfl ?_
    exact k_m_scoreNow_80 cx0  hI (lv_sub hl [1, 2, 3, 4, 5, 0] rfl) h
def w_m_scoreNow  (u : ZS) (post : Int32 → ZS → Prop) : Prop := (¬ (fI u 6) = 0 → w_m_readCards  u (fun u4 => w_m_trump  u4 (fun r5 u6 => vp_in (fI u6 5) 21 ∧ ((¬ (((fI u6 3) >>> (((fI u6 8) &&& 1) &&& 31)) &&& 1) = 1 → b_m_scoreNow_66 post (1 + (((fI u4 6) - 3) / 5)) r5 (aI u6 4 (Int32.toNatClampNeg (fI u6 5))) ((1 + (((fI u4 6) - 3) / 5)) + 2) 0 u6) ∧ ((((fI u6 3) >>> (((fI u6 8) &&& 1) &&& 31)) &&& 1) = 1 → b_m_scoreNow_66 post (1 + (((fI u4 6) - 3) / 5)) r5 (aI u6 4 (Int32.toNatClampNeg (fI u6 5))) ((1 + (((fI u4 6) - 3) / 5)) + 2) 1 u6))))) ∧ ((fI u 6) = 0 → post 0 u)
set_option maxRecDepth 100000 in
set_option maxHeartbeats 4000000 in
theorem t_m_scoreNow (l : Launch) (D : va_G) (ad : Nat → Nat) (ca : Nat → ClassId)  {u : ZS} {post : Int32 → ZS → Prop} (h : w_m_scoreNow  u post) : zI l y_m_scoreNow (Cond.code y_m_scoreNow c_m_scoreNow 10 (some .int) :: zG) { frames := 5, cells := 0, slots := 0, locals := 99 } D (mT ca) zNs (mW ad ca) [.ref (ad 0)] u post := by
  refine zI_of (cc := c_m_scoreNow) (maxL := 10) (ret := (some .int)) (by decide) (Nat.le_of_ble_eq_true rfl) ?_
  intro p e s m args below meth c ls A cx hI hl
  have cx0 := cx
  obtain ⟨hx, hb, hml, hown, hts, hN, hK, hr, hlk, hfr, hlc⟩ := cx
  have hl : lv_has ls 10 [(0, .ref (ad 0))] := hl
  unfold w_m_scoreNow at h
  refine lv_aload_n hx hb d_m_scoreNow_0 rfl (lv_at hl 0 rfl) ?_
  refine mg_M_bid hx hb hts hown hK hI (hts _ q_665) d_m_scoreNow_1 ?_
  refine lv_if_ne hx hb d_m_scoreNow_4 rfl (fun hc => ?_) (fun hc => ?_)
  · have h := h.1 hc
    refine lv_aload_n hx hb d_m_scoreNow_9 rfl (lv_at hl 0 rfl) ?_
    refine zr_v (va_runV (As := []) (rest := []) ⟨hx, hb, hml, hown, hts⟩ (t_m_readCards l D ad ca h _) (cwV 0 hts (zg_V q_814 q_816 q_25 q_44 q_817) rfl rfl rfl ⟨rfl, hd_m_readCards⟩ ⟨Nat.le_trans (by decide) hfr, Nat.le_trans (by decide) hlc⟩) (z_preV zNs_ok hK hN hI 0 5 rfl rfl _) rfl rfl hl.1 rfl (lv_room (Nat.le_of_ble_eq_true rfl)) d_m_scoreNow_10 ⟨Nat.zero_le _, Nat.zero_le _⟩) hI ?_
    intro u4 H locs h hI
    refine lv_iconst (v := 1) hx hb d_m_scoreNow_13 zc_iconst_1 ?_
    refine lv_aload_n hx hb d_m_scoreNow_14 rfl (lv_at hl 0 rfl) ?_
    refine mg_M_bid hx hb hts hown hK hI (hts _ q_665) d_m_scoreNow_15 ?_
    refine lv_iconst (v := 3) hx hb d_m_scoreNow_18 zc_iconst_3 ?_
    refine lv_isub hx hb d_m_scoreNow_19 ?_
    refine lv_iconst (v := 5) hx hb d_m_scoreNow_20 zc_iconst_5 ?_
    refine lv_idiv hx hb d_m_scoreNow_21 (by decide) ?_
    refine lv_iadd hx hb d_m_scoreNow_22 ?_
    refine lv_istore_n hx hb d_m_scoreNow_23 rfl hl (by decide) rfl ?_
    intro ls hl
    have hl : lv_has ls 10 [(1, .int (1 + (((fI u4 6) - 3) / 5))), (0, .ref (ad 0))] := hl
    refine lv_aload_n hx hb d_m_scoreNow_24 rfl (lv_at hl 1 rfl) ?_
    refine zr_i (va_runV (As := []) (rest := []) ⟨hx, hb, hml, hown, hts⟩ (t_m_trump l D ad ca h _) (cwV 0 hts (zg_V q_826 q_828 q_28 q_44 q_829) rfl rfl rfl ⟨rfl, hd_m_trump⟩ ⟨Nat.le_trans (by decide) hfr, Nat.le_trans (by decide) hlc⟩) (z_preV zNs_ok hK hN hI 0 5 rfl rfl _) rfl rfl hl.1 rfl (lv_room (Nat.le_of_ble_eq_true rfl)) d_m_scoreNow_25 ⟨Nat.zero_le _, Nat.zero_le _⟩) hI ?_
    intro r5 u6 H locs h hI
    refine lv_istore_n hx hb d_m_scoreNow_28 rfl hl (by decide) rfl ?_
    intro ls hl
    have hl : lv_has ls 10 [(2, .int r5), (1, .int (1 + (((fI u4 6) - 3) / 5))), (0, .ref (ad 0))] := hl
    refine lv_aload_n hx hb d_m_scoreNow_29 rfl (lv_at hl 2 rfl) ?_
    refine mg_M_wonAt hx hb hts hown hK hI (hts _ q_670) d_m_scoreNow_30 ?_
    refine lv_aload_n hx hb d_m_scoreNow_33 rfl (lv_at hl 2 rfl) ?_
    refine mg_M_cards hx hb hts hown hK hI (hts _ q_663) d_m_scoreNow_34 ?_
    obtain ⟨hi, h⟩ := h
    refine ma_wonAt hx hb hK hI hi d_m_scoreNow_37 ?_
    refine lv_istore_n hx hb d_m_scoreNow_38 rfl hl (by decide) rfl ?_
    intro ls hl
    have hl : lv_has ls 10 [(3, .int (aI u6 4 (Int32.toNatClampNeg (fI u6 5)))), (2, .int r5), (1, .int (1 + (((fI u4 6) - 3) / 5))), (0, .ref (ad 0))] := hl
    refine lv_iload_n hx hb d_m_scoreNow_39 rfl (lv_at hl 2 rfl) ?_
    refine lv_iconst (v := 2) hx hb d_m_scoreNow_40 zc_iconst_2 ?_
    refine lv_iadd hx hb d_m_scoreNow_41 ?_
    refine lv_istore hx hb d_m_scoreNow_42 hl (by decide) rfl ?_
    intro ls hl
    have hl : lv_has ls 10 [(4, .int ((1 + (((fI u4 6) - 3) / 5)) + 2)), (3, .int (aI u6 4 (Int32.toNatClampNeg (fI u6 5)))), (2, .int r5), (1, .int (1 + (((fI u4 6) - 3) / 5))), (0, .ref (ad 0))] := hl
    refine lv_aload_n hx hb d_m_scoreNow_44 rfl (lv_at hl 4 rfl) ?_
    refine mg_M_vulnerable hx hb hts hown hK hI (hts _ q_658) d_m_scoreNow_45 ?_
    refine lv_aload_n hx hb d_m_scoreNow_48 rfl (lv_at hl 4 rfl) ?_
    refine mg_M_declarer hx hb hts hown hK hI (hts _ q_667) d_m_scoreNow_49 ?_
    refine lv_iconst (v := 1) hx hb d_m_scoreNow_52 zc_iconst_1 ?_
    refine lv_iand hx hb d_m_scoreNow_53 ?_
    refine lv_ishr hx hb d_m_scoreNow_54 ?_
    refine lv_iconst (v := 1) hx hb d_m_scoreNow_55 zc_iconst_1 ?_
    refine lv_iand hx hb d_m_scoreNow_56 ?_
    refine lv_iconst (v := 1) hx hb d_m_scoreNow_57 zc_iconst_1 ?_
    refine lv_icmp_ne hx hb d_m_scoreNow_58 rfl (fun hc => ?_) (fun hc => ?_)
    · have h := h.1 hc
      refine lv_iconst (v := 0) hx hb d_m_scoreNow_65 zc_iconst_0 ?_
      exact k_m_scoreNow_66 cx0  hI (lv_sub hl [4, 3, 2, 1, 0] rfl) h
    · have h := h.2 hc
      refine lv_iconst (v := 1) hx hb d_m_scoreNow_61 zc_iconst_1 ?_
      refine lv_goto hx hb d_m_scoreNow_62 rfl ?_
      exact k_m_scoreNow_66 cx0  hI (lv_sub hl [4, 3, 2, 1, 0] rfl) h
  · have h := h.2 hc
    refine lv_iconst (v := 0) hx hb d_m_scoreNow_7 zc_iconst_0 ?_
    exact zret_i hx hb hr hlk hK hI h d_m_scoreNow_8
def b_m_score_32  (post : Int32 → ZS → Prop) (s0 : Int32) (u : ZS) : Prop := post s0 u
set_option maxRecDepth 100000 in
set_option maxHeartbeats 4000000 in
theorem k_m_score_32 {p : Program} {l : Launch} {e : Env} {R : Room} {s : State} {m : MethodId} {args : Array Value} {below : List Frame} {meth : Method} {c : Code} {D : va_G} {A : Nat → Prop} {ad : Nat → Nat} {ca : Nat → ClassId}  {post : Int32 → ZS → Prop} (cx : zx p R s m args meth c c_m_score 1 6 128 "ShortBridgeModel" (some .int) zG zNs D (mT ca)) {s0 : Int32} {u : ZS} {H : Heap} {locs : List Loc} {ls : Array Slot} (hI : zw D A s.heap (mW ad ca u) H locs) (hl : lv_has ls 1 []) (h : b_m_score_32 post s0 u) : W p l e R s m args below meth c H locs 0 0 (MQ below (va_Qi post (zE D (mT ca) (mW ad ca) A) A) args s 0 0 A) (F0 m 32 ls [.int s0]) := by
  have cx0 := cx
  obtain ⟨hx, hb, hml, hown, hts, hN, hK, hr, hlk, hfr, hlc⟩ := cx
  unfold b_m_score_32 at h
  exact zret_i hx hb hr hlk hK hI h d_m_score_32
def b_m_score_14  (post : Int32 → ZS → Prop) (s0 : Int32) (u : ZS) : Prop := ((fI (sI u 0 s0) 0) ≤ 0 → w_m_scoreNow  (sI u 0 s0) (fun r1 u2 => b_m_score_32 post r1 u2)) ∧ (¬ ((fI (sI u 0 s0) 0) ≤ 0) → b_m_score_32 post 0 (sI u 0 s0))
set_option maxRecDepth 100000 in
set_option maxHeartbeats 4000000 in
theorem k_m_score_14 {p : Program} {l : Launch} {e : Env} {R : Room} {s : State} {m : MethodId} {args : Array Value} {below : List Frame} {meth : Method} {c : Code} {D : va_G} {A : Nat → Prop} {ad : Nat → Nat} {ca : Nat → ClassId}  {post : Int32 → ZS → Prop} (cx : zx p R s m args meth c c_m_score 1 6 128 "ShortBridgeModel" (some .int) zG zNs D (mT ca)) {s0 : Int32} {u : ZS} {H : Heap} {locs : List Loc} {ls : Array Slot} (hI : zw D A s.heap (mW ad ca u) H locs) (hl : lv_has ls 1 [(0, .ref (ad 0))]) (h : b_m_score_14 post s0 u) : W p l e R s m args below meth c H locs 0 0 (MQ below (va_Qi post (zE D (mT ca) (mW ad ca) A) A) args s 0 0 A) (F0 m 14 ls [.int s0, .ref (ad 0)]) := by
  have cx0 := cx
  obtain ⟨hx, hb, hml, hown, hts, hN, hK, hr, hlk, hfr, hlc⟩ := cx
  unfold b_m_score_14 at h
  refine mp_M_code hx hb hts hown hK hI (hts _ q_654) d_m_score_14 ?_
  intro H locs hI
  refine lv_aload_n hx hb d_m_score_17 rfl (lv_at hl 0 rfl) ?_
  refine mg_M_code hx hb hts hown hK hI (hts _ q_654) d_m_score_18 ?_
  refine lv_if_le hx hb d_m_score_21 rfl (fun hc => ?_) (fun hc => ?_)
  · have h := h.1 hc
    refine lv_aload_n hx hb d_m_score_28 rfl (lv_at hl 0 rfl) ?_
    refine zr_i (va_runV (As := []) (rest := []) ⟨hx, hb, hml, hown, hts⟩ (t_m_scoreNow l D ad ca h _) (cwV 0 hts (zg_V q_862 q_864 q_31 q_44 q_865) rfl rfl rfl ⟨rfl, hd_m_scoreNow⟩ ⟨Nat.le_trans (by decide) hfr, Nat.le_trans (by decide) hlc⟩) (z_preV zNs_ok hK hN hI 0 5 rfl rfl _) rfl rfl hl.1 rfl (lv_room (Nat.le_of_ble_eq_true rfl)) d_m_score_29 ⟨Nat.zero_le _, Nat.zero_le _⟩) hI ?_
    intro r1 u2 H locs h hI
    exact k_m_score_32 cx0  hI (lv_sub hl [] rfl) h
  · have h := h.2 hc
    refine lv_iconst (v := 0) hx hb d_m_score_24 zc_iconst_0 ?_
    refine lv_goto hx hb d_m_score_25 rfl ?_
    exact k_m_score_32 cx0  hI (lv_sub hl [] rfl) h
def w_m_score  (u : ZS) (post : Int32 → ZS → Prop) : Prop := w_m_phaseNow  u (fun r3 u4 => (¬ r3 = 3 → b_m_score_14 post 1 u4) ∧ (r3 = 3 → b_m_score_14 post 0 u4))
set_option maxRecDepth 100000 in
set_option maxHeartbeats 4000000 in
theorem t_m_score (l : Launch) (D : va_G) (ad : Nat → Nat) (ca : Nat → ClassId)  {u : ZS} {post : Int32 → ZS → Prop} (h : w_m_score  u post) : zI l y_m_score (Cond.code y_m_score c_m_score 1 (some .int) :: zG) { frames := 6, cells := 0, slots := 0, locals := 128 } D (mT ca) zNs (mW ad ca) [.ref (ad 0)] u post := by
  refine zI_of (cc := c_m_score) (maxL := 1) (ret := (some .int)) (by decide) (Nat.le_of_ble_eq_true rfl) ?_
  intro p e s m args below meth c ls A cx hI hl
  have cx0 := cx
  obtain ⟨hx, hb, hml, hown, hts, hN, hK, hr, hlk, hfr, hlc⟩ := cx
  have hl : lv_has ls 1 [(0, .ref (ad 0))] := hl
  unfold w_m_score at h
  refine lv_aload_n hx hb d_m_score_0 rfl (lv_at hl 0 rfl) ?_
  refine lv_aload_n hx hb d_m_score_1 rfl (lv_at hl 0 rfl) ?_
  refine zr_i (va_runV (As := []) (rest := [.ref (ad 0)]) ⟨hx, hb, hml, hown, hts⟩ (t_m_phaseNow l D ad ca h _) (cwV 0 hts (zg_V q_778 q_780 q_19 q_44 q_781) rfl rfl rfl ⟨rfl, hd_m_phaseNow⟩ ⟨Nat.le_trans (by decide) hfr, Nat.le_trans (by decide) hlc⟩) (z_preV zNs_ok hK hN hI 0 5 rfl rfl _) rfl rfl hl.1 rfl (lv_room (Nat.le_of_ble_eq_true rfl)) d_m_score_2 ⟨Nat.zero_le _, Nat.zero_le _⟩) hI ?_
  intro r3 u4 H locs h hI
  refine lv_iconst (v := 3) hx hb d_m_score_5 zc_iconst_3 ?_
  refine lv_icmp_ne hx hb d_m_score_6 rfl (fun hc => ?_) (fun hc => ?_)
  · have h := h.1 hc
    refine lv_iconst (v := 1) hx hb d_m_score_13 zc_iconst_1 ?_
    exact k_m_score_14 cx0  hI (lv_sub hl [0] rfl) h
  · have h := h.2 hc
    refine lv_iconst (v := 0) hx hb d_m_score_9 zc_iconst_0 ?_
    refine lv_goto hx hb d_m_score_10 rfl ?_
    exact k_m_score_14 cx0  hI (lv_sub hl [0] rfl) h
def b_m_ours_22  (post : Int32 → ZS → Prop) (s0 : Int32) (u : ZS) : Prop := (s0 = 0 ∨ s0 = 1) ∧ post s0 u
set_option maxRecDepth 100000 in
set_option maxHeartbeats 4000000 in
theorem k_m_ours_22 {p : Program} {l : Launch} {e : Env} {R : Room} {s : State} {m : MethodId} {args : Array Value} {below : List Frame} {meth : Method} {c : Code} {D : va_G} {A : Nat → Prop} {ad : Nat → Nat} {ca : Nat → ClassId}  {post : Int32 → ZS → Prop} (cx : zx p R s m args meth c c_m_ours 2 1 12 "ShortBridgeModel" (some .boolean) zG zNs D (mT ca)) {s0 : Int32} {u : ZS} {H : Heap} {locs : List Loc} {ls : Array Slot} (hI : zw D A s.heap (mW ad ca u) H locs) (hl : lv_has ls 2 []) (h : b_m_ours_22 post s0 u) : W p l e R s m args below meth c H locs 0 0 (MQ below (va_Qi post (zE D (mT ca) (mW ad ca) A) A) args s 0 0 A) (F0 m 22 ls [.int s0]) := by
  have cx0 := cx
  obtain ⟨hx, hb, hml, hown, hts, hN, hK, hr, hlk, hfr, hlc⟩ := cx
  unfold b_m_ours_22 at h
  exact zret_z hx hb hr hlk hK hI h.1 h.2 d_m_ours_22
def w_m_ours (v1 : Int32) (u : ZS) (post : Int32 → ZS → Prop) : Prop := vp_in v1 21 ∧ ((¬ ((aI u 3 (Int32.toNatClampNeg v1)) &&& 1) = ((fI u 8) &&& 1) → b_m_ours_22 post 0 u) ∧ (((aI u 3 (Int32.toNatClampNeg v1)) &&& 1) = ((fI u 8) &&& 1) → b_m_ours_22 post 1 u))
set_option maxRecDepth 100000 in
set_option maxHeartbeats 4000000 in
theorem t_m_ours (l : Launch) (D : va_G) (ad : Nat → Nat) (ca : Nat → ClassId) {v1 : Int32} {u : ZS} {post : Int32 → ZS → Prop} (h : w_m_ours v1 u post) : zI l y_m_ours (Cond.code y_m_ours c_m_ours 2 (some .boolean) :: zG) { frames := 1, cells := 0, slots := 0, locals := 12 } D (mT ca) zNs (mW ad ca) [.ref (ad 0), .int v1] u post := by
  refine zI_of (cc := c_m_ours) (maxL := 2) (ret := (some .boolean)) (by decide) (Nat.le_of_ble_eq_true rfl) ?_
  intro p e s m args below meth c ls A cx hI hl
  have cx0 := cx
  obtain ⟨hx, hb, hml, hown, hts, hN, hK, hr, hlk, hfr, hlc⟩ := cx
  have hl : lv_has ls 2 [(0, .ref (ad 0)), (1, .int v1)] := hl
  unfold w_m_ours at h
  refine lv_aload_n hx hb d_m_ours_0 rfl (lv_at hl 0 rfl) ?_
  refine mg_M_turnAt hx hb hts hown hK hI (hts _ q_669) d_m_ours_1 ?_
  refine lv_iload_n hx hb d_m_ours_4 rfl (lv_at hl 1 rfl) ?_
  obtain ⟨hi, h⟩ := h
  refine ma_turnAt hx hb hK hI hi d_m_ours_5 ?_
  refine lv_iconst (v := 1) hx hb d_m_ours_6 zc_iconst_1 ?_
  refine lv_iand hx hb d_m_ours_7 ?_
  refine lv_aload_n hx hb d_m_ours_8 rfl (lv_at hl 0 rfl) ?_
  refine mg_M_declarer hx hb hts hown hK hI (hts _ q_667) d_m_ours_9 ?_
  refine lv_iconst (v := 1) hx hb d_m_ours_12 zc_iconst_1 ?_
  refine lv_iand hx hb d_m_ours_13 ?_
  refine lv_icmp_ne hx hb d_m_ours_14 rfl (fun hc => ?_) (fun hc => ?_)
  · have h := h.1 hc
    refine lv_iconst (v := 0) hx hb d_m_ours_21 zc_iconst_0 ?_
    exact k_m_ours_22 cx0  hI (lv_sub hl [] rfl) h
  · have h := h.2 hc
    refine lv_iconst (v := 1) hx hb d_m_ours_17 zc_iconst_1 ?_
    refine lv_goto hx hb d_m_ours_18 rfl ?_
    exact k_m_ours_22 cx0  hI (lv_sub hl [] rfl) h
def b_m_enter_40  (post : ZS → Prop) (s0 : Int32) (s1 : Int32) (u : ZS) : Prop := vp_in s1 21 ∧ (post (pI u 7 (Int32.toNatClampNeg s1) s0))
set_option maxRecDepth 100000 in
set_option maxHeartbeats 4000000 in
theorem k_m_enter_40 {p : Program} {l : Launch} {e : Env} {R : Room} {s : State} {m : MethodId} {args : Array Value} {below : List Frame} {meth : Method} {c : Code} {D : va_G} {A : Nat → Prop} {ad : Nat → Nat} {ca : Nat → ClassId}  {post : ZS → Prop} (cx : zx p R s m args meth c c_m_enter 4 2 33 "ShortBridgeModel" none zG zNs D (mT ca)) {s0 : Int32} {s1 : Int32} {u : ZS} {H : Heap} {locs : List Loc} {ls : Array Slot} (hI : zw D A s.heap (mW ad ca u) H locs) (hl : lv_has ls 4 []) (h : b_m_enter_40 post s0 s1 u) : W p l e R s m args below meth c H locs 0 0 (MQ below (va_Qv post (zE D (mT ca) (mW ad ca) A) A) args s 0 0 A) (F0 m 40 ls [.int s0, .int s1, .ref (ad 9)]) := by
  have cx0 := cx
  obtain ⟨hx, hb, hml, hown, hts, hN, hK, hr, hlk, hfr, hlc⟩ := cx
  unfold b_m_enter_40 at h
  obtain ⟨hi, h⟩ := h
  refine ms_best hx hb hK hI hi d_m_enter_40 ?_
  intro H locs hI
  exact zret_v hx hb hr hlk hK hI h d_m_enter_41
def w_m_enter (v1 : Int32) (v2 : Int32) (v3 : Int32) (u : ZS) (post : ZS → Prop) : Prop := vp_in v1 21 ∧ (vp_in v1 21 ∧ (vp_in v1 21 ∧ (w_m_ours v1 (pI (pI (pI u 6 (Int32.toNatClampNeg v1) 0) 8 (Int32.toNatClampNeg v1) v2) 9 (Int32.toNatClampNeg v1) v3) (fun r1 u2 => (r1 = 0 → b_m_enter_40 post 6 v1 u2) ∧ (¬ (r1 = 0) → b_m_enter_40 post (-1 : Int32) v1 u2)))))
set_option maxRecDepth 100000 in
set_option maxHeartbeats 4000000 in
theorem t_m_enter (l : Launch) (D : va_G) (ad : Nat → Nat) (ca : Nat → ClassId) {v1 : Int32} {v2 : Int32} {v3 : Int32} {u : ZS} {post : ZS → Prop} (h : w_m_enter v1 v2 v3 u post) : zV l y_m_enter (Cond.code y_m_enter c_m_enter 4 none :: zG) { frames := 2, cells := 0, slots := 0, locals := 33 } D (mT ca) zNs (mW ad ca) [.ref (ad 0), .int v1, .int v2, .int v3] u post := by
  refine zV_of (cc := c_m_enter) (maxL := 4) (by decide) (Nat.le_of_ble_eq_true rfl) ?_
  intro p e s m args below meth c ls A cx hI hl
  have cx0 := cx
  obtain ⟨hx, hb, hml, hown, hts, hN, hK, hr, hlk, hfr, hlc⟩ := cx
  have hl : lv_has ls 4 [(0, .ref (ad 0)), (1, .int v1), (2, .int v2), (3, .int v3)] := hl
  unfold w_m_enter at h
  refine lv_aload_n hx hb d_m_enter_0 rfl (lv_at hl 0 rfl) ?_
  refine mg_M_look hx hb hts hown hK hI (hts _ q_672) d_m_enter_1 ?_
  refine lv_iload_n hx hb d_m_enter_4 rfl (lv_at hl 1 rfl) ?_
  refine lv_iconst (v := 0) hx hb d_m_enter_5 zc_iconst_0 ?_
  obtain ⟨hi, h⟩ := h
  refine ms_look hx hb hK hI hi d_m_enter_6 ?_
  intro H locs hI
  refine lv_aload_n hx hb d_m_enter_7 rfl (lv_at hl 0 rfl) ?_
  refine mg_M_low hx hb hts hown hK hI (hts _ q_674) d_m_enter_8 ?_
  refine lv_iload_n hx hb d_m_enter_11 rfl (lv_at hl 1 rfl) ?_
  refine lv_iload_n hx hb d_m_enter_12 rfl (lv_at hl 2 rfl) ?_
  obtain ⟨hi, h⟩ := h
  refine ms_low hx hb hK hI hi d_m_enter_13 ?_
  intro H locs hI
  refine lv_aload_n hx hb d_m_enter_14 rfl (lv_at hl 0 rfl) ?_
  refine mg_M_high hx hb hts hown hK hI (hts _ q_675) d_m_enter_15 ?_
  refine lv_iload_n hx hb d_m_enter_18 rfl (lv_at hl 1 rfl) ?_
  refine lv_iload_n hx hb d_m_enter_19 rfl (lv_at hl 3 rfl) ?_
  obtain ⟨hi, h⟩ := h
  refine ms_high hx hb hK hI hi d_m_enter_20 ?_
  intro H locs hI
  refine lv_aload_n hx hb d_m_enter_21 rfl (lv_at hl 0 rfl) ?_
  refine mg_M_best hx hb hts hown hK hI (hts _ q_673) d_m_enter_22 ?_
  refine lv_iload_n hx hb d_m_enter_25 rfl (lv_at hl 1 rfl) ?_
  refine lv_aload_n hx hb d_m_enter_26 rfl (lv_at hl 0 rfl) ?_
  refine lv_iload_n hx hb d_m_enter_27 rfl (lv_at hl 1 rfl) ?_
  refine zr_i (va_runV (As := [.int v1]) (rest := [.int v1, .ref (ad 9)]) ⟨hx, hb, hml, hown, hts⟩ (t_m_ours l D ad ca h _) (cwV 1 hts (zg_V q_881 q_883 q_34 q_44 q_884) rfl rfl rfl ⟨rfl, hd_m_ours⟩ ⟨Nat.le_trans (by decide) hfr, Nat.le_trans (by decide) hlc⟩) (z_preV zNs_ok hK hN hI 0 5 rfl rfl _) rfl rfl hl.1 rfl (lv_room (Nat.le_of_ble_eq_true rfl)) d_m_enter_28 ⟨Nat.zero_le _, Nat.zero_le _⟩) hI ?_
  intro r1 u2 H locs h hI
  refine lv_if_eq hx hb d_m_enter_31 rfl (fun hc => ?_) (fun hc => ?_)
  · have h := h.1 hc
    refine lv_bipush (v := 6) hx hb d_m_enter_38 zc_bipush_6 ?_
    exact k_m_enter_40 cx0  hI (lv_sub hl [] rfl) h
  · have h := h.2 hc
    refine lv_iconst (v := (-1)) hx hb d_m_enter_34 zc_iconst_m1 ?_
    refine lv_goto hx hb d_m_enter_35 rfl ?_
    exact k_m_enter_40 cx0  hI (lv_sub hl [] rfl) h
def b_m_nextTry_44  (post : Int32 → ZS → Prop) (v2 : Int32) (u : ZS) : Prop := post v2 u
set_option maxRecDepth 100000 in
set_option maxHeartbeats 4000000 in
theorem k_m_nextTry_44 {p : Program} {l : Launch} {e : Env} {R : Room} {s : State} {m : MethodId} {args : Array Value} {below : List Frame} {meth : Method} {c : Code} {D : va_G} {A : Nat → Prop} {ad : Nat → Nat} {ca : Nat → ClassId}  {post : Int32 → ZS → Prop} (cx : zx p R s m args meth c c_m_nextTry 3 3 60 "ShortBridgeModel" (some .int) zG zNs D (mT ca)) {v2 : Int32} {u : ZS} {H : Heap} {locs : List Loc} {ls : Array Slot} (hI : zw D A s.heap (mW ad ca u) H locs) (hl : lv_has ls 3 [(2, .int v2)]) (h : b_m_nextTry_44 post v2 u) : W p l e R s m args below meth c H locs 0 0 (MQ below (va_Qi post (zE D (mT ca) (mW ad ca) A) A) args s 0 0 A) (F0 m 44 ls []) := by
  have cx0 := cx
  obtain ⟨hx, hb, hml, hown, hts, hN, hK, hr, hlk, hfr, hlc⟩ := cx
  unfold b_m_nextTry_44 at h
  refine lv_iload_n hx hb d_m_nextTry_44 rfl (lv_at hl 0 rfl) ?_
  exact zret_i hx hb hr hlk hK hI h d_m_nextTry_45
def b_m_nextTry_37 (r7 : Int32 → Int32 → ZS → Prop) (post : Int32 → ZS → Prop) (v1 : Int32) (v2 : Int32) (u : ZS) : Prop := r7 v1 (v2 + 1) u
set_option maxRecDepth 100000 in
set_option maxHeartbeats 4000000 in
theorem k_m_nextTry_37 {p : Program} {l : Launch} {e : Env} {R : Room} {s : State} {m : MethodId} {args : Array Value} {below : List Frame} {meth : Method} {c : Code} {D : va_G} {A : Nat → Prop} {ad : Nat → Nat} {ca : Nat → ClassId} {r7 : Int32 → Int32 → ZS → Prop} {post : Int32 → ZS → Prop} (cx : zx p R s m args meth c c_m_nextTry 3 3 60 "ShortBridgeModel" (some .int) zG zNs D (mT ca)) (hk7 : ∀ (v1 : Int32) (v2 : Int32) (u : ZS) (H : Heap) (locs : List Loc) (ls : Array Slot), zw D A s.heap (mW ad ca u) H locs → lv_has ls 3 [(0, .ref (ad 0)), (1, .int v1), (2, .int v2)] → r7 v1 v2 u → W p l e R s m args below meth c H locs 0 0 (MQ below (va_Qi post (zE D (mT ca) (mW ad ca) A) A) args s 0 0 A) (F0 m 7 ls [])) {v1 : Int32} {v2 : Int32} {u : ZS} {H : Heap} {locs : List Loc} {ls : Array Slot} (hI : zw D A s.heap (mW ad ca u) H locs) (hl : lv_has ls 3 [(0, .ref (ad 0)), (1, .int v1), (2, .int v2)]) (h : b_m_nextTry_37 r7 post v1 v2 u) : W p l e R s m args below meth c H locs 0 0 (MQ below (va_Qi post (zE D (mT ca) (mW ad ca) A) A) args s 0 0 A) (F0 m 37 ls []) := by
  have cx0 := cx
  obtain ⟨hx, hb, hml, hown, hts, hN, hK, hr, hlk, hfr, hlc⟩ := cx
  unfold b_m_nextTry_37 at h
  refine lv_iload_n hx hb d_m_nextTry_37 rfl (lv_at hl 2 rfl) ?_
  refine lv_iconst (v := 1) hx hb d_m_nextTry_38 zc_iconst_1 ?_
  refine lv_iadd hx hb d_m_nextTry_39 ?_
  refine lv_istore_n hx hb d_m_nextTry_40 rfl hl (by decide) rfl ?_
  intro ls hl
  have hl : lv_has ls 3 [(2, .int (v2 + 1)), (0, .ref (ad 0)), (1, .int v1)] := hl
  refine lv_goto hx hb d_m_nextTry_41 rfl ?_
  exact hk7 _ _ _ _ _ _ hI (lv_sub hl [1, 2, 0] rfl) h
def b_m_nextTry_7  (post : Int32 → ZS → Prop) : Nat → Int32 → Int32 → ZS → Prop
  | 0, _, _, _ => False
  | n + 1, v1, v2, u => (20 ≤ v2 → b_m_nextTry_44 post v2 u) ∧ (¬ (20 ≤ v2) → vp_in v1 21 ∧ (w_m_holds (aI u 3 (Int32.toNatClampNeg v1)) v2 v1 u (fun r1 u2 => (r1 = 0 → b_m_nextTry_37 (b_m_nextTry_7 post n) post v1 v2 u2) ∧ (¬ (r1 = 0) → w_m_follows v2 v1 u2 (fun r3 u4 => (¬ r3 = 0 → b_m_nextTry_44 post v2 u4) ∧ (r3 = 0 → b_m_nextTry_37 (b_m_nextTry_7 post n) post v1 v2 u4))))))
set_option maxRecDepth 100000 in
set_option maxHeartbeats 4000000 in
theorem k_m_nextTry_7 {p : Program} {l : Launch} {e : Env} {R : Room} {s : State} {m : MethodId} {args : Array Value} {below : List Frame} {meth : Method} {c : Code} {D : va_G} {A : Nat → Prop} {ad : Nat → Nat} {ca : Nat → ClassId}  {post : Int32 → ZS → Prop} (cx : zx p R s m args meth c c_m_nextTry 3 3 60 "ShortBridgeModel" (some .int) zG zNs D (mT ca)) : ∀ (n : Nat) (v1 : Int32) (v2 : Int32) (u : ZS) (H : Heap) (locs : List Loc) (ls : Array Slot), zw D A s.heap (mW ad ca u) H locs → lv_has ls 3 [(0, .ref (ad 0)), (1, .int v1), (2, .int v2)] → b_m_nextTry_7 post n v1 v2 u → W p l e R s m args below meth c H locs 0 0 (MQ below (va_Qi post (zE D (mT ca) (mW ad ca) A) A) args s 0 0 A) (F0 m 7 ls []) := by
  have cx0 := cx
  obtain ⟨hx, hb, hml, hown, hts, hN, hK, hr, hlk, hfr, hlc⟩ := cx
  intro n
  induction n with
  | zero => intro v1 v2 u H locs ls hI hl h; exact (h : False).elim
  | succ n ih =>
    intro v1 v2 u H locs ls hI hl h
    unfold b_m_nextTry_7 at h
    refine lv_iload_n hx hb d_m_nextTry_7 rfl (lv_at hl 2 rfl) ?_
    refine lv_bipush (v := 20) hx hb d_m_nextTry_8 zc_bipush_20 ?_
    refine lv_icmp_ge hx hb d_m_nextTry_10 rfl (fun hc => ?_) (fun hc => ?_)
    · have h := h.1 hc
      exact k_m_nextTry_44 cx0  hI (lv_sub hl [2] rfl) h
    · have h := h.2 hc
      refine lv_aload_n hx hb d_m_nextTry_13 rfl (lv_at hl 0 rfl) ?_
      refine lv_aload_n hx hb d_m_nextTry_14 rfl (lv_at hl 0 rfl) ?_
      refine mg_M_turnAt hx hb hts hown hK hI (hts _ q_669) d_m_nextTry_15 ?_
      refine lv_iload_n hx hb d_m_nextTry_18 rfl (lv_at hl 1 rfl) ?_
      obtain ⟨hi, h⟩ := h
      refine ma_turnAt hx hb hK hI hi d_m_nextTry_19 ?_
      refine lv_iload_n hx hb d_m_nextTry_20 rfl (lv_at hl 2 rfl) ?_
      refine lv_iload_n hx hb d_m_nextTry_21 rfl (lv_at hl 1 rfl) ?_
      refine zr_i (va_runV (As := [.int (aI u 3 (Int32.toNatClampNeg v1)), .int v2, .int v1]) (rest := []) ⟨hx, hb, hml, hown, hts⟩ (t_m_holds l D ad ca h _) (cwV 3 hts (zg_V q_834 q_836 q_29 q_44 q_837) rfl rfl rfl ⟨rfl, hd_m_holds⟩ ⟨Nat.le_trans (by decide) hfr, Nat.le_trans (by decide) hlc⟩) (z_preV zNs_ok hK hN hI 0 5 rfl rfl _) rfl rfl hl.1 rfl (lv_room (Nat.le_of_ble_eq_true rfl)) d_m_nextTry_22 ⟨Nat.zero_le _, Nat.zero_le _⟩) hI ?_
      intro r1 u2 H locs h hI
      refine lv_if_eq hx hb d_m_nextTry_25 rfl (fun hc => ?_) (fun hc => ?_)
      · have h := h.1 hc
        exact k_m_nextTry_37 cx0 ih hI (lv_sub hl [0, 1, 2] rfl) h
      · have h := h.2 hc
        refine lv_aload_n hx hb d_m_nextTry_28 rfl (lv_at hl 0 rfl) ?_
        refine lv_iload_n hx hb d_m_nextTry_29 rfl (lv_at hl 2 rfl) ?_
        refine lv_iload_n hx hb d_m_nextTry_30 rfl (lv_at hl 1 rfl) ?_
        refine zr_i (va_runV (As := [.int v2, .int v1]) (rest := []) ⟨hx, hb, hml, hown, hts⟩ (t_m_follows l D ad ca h _) (cwV 2 hts (zg_V q_842 q_844 q_30 q_44 q_845) rfl rfl rfl ⟨rfl, hd_m_follows⟩ ⟨Nat.le_trans (by decide) hfr, Nat.le_trans (by decide) hlc⟩) (z_preV zNs_ok hK hN hI 0 5 rfl rfl _) rfl rfl hl.1 rfl (lv_room (Nat.le_of_ble_eq_true rfl)) d_m_nextTry_31 ⟨Nat.zero_le _, Nat.zero_le _⟩) hI ?_
        intro r3 u4 H locs h hI
        refine lv_if_ne hx hb d_m_nextTry_34 rfl (fun hc => ?_) (fun hc => ?_)
        · have h := h.1 hc
          exact k_m_nextTry_44 cx0  hI (lv_sub hl [2] rfl) h
        · have h := h.2 hc
          exact k_m_nextTry_37 cx0 ih hI (lv_sub hl [0, 1, 2] rfl) h
def w_m_nextTry (v1 : Int32) (u : ZS) (post : Int32 → ZS → Prop) : Prop := vp_in v1 21 ∧ (∃ n0, b_m_nextTry_7 post n0 v1 (aI u 6 (Int32.toNatClampNeg v1)) u)
set_option maxRecDepth 100000 in
set_option maxHeartbeats 4000000 in
theorem t_m_nextTry (l : Launch) (D : va_G) (ad : Nat → Nat) (ca : Nat → ClassId) {v1 : Int32} {u : ZS} {post : Int32 → ZS → Prop} (h : w_m_nextTry v1 u post) : zI l y_m_nextTry (Cond.code y_m_nextTry c_m_nextTry 3 (some .int) :: zG) { frames := 3, cells := 0, slots := 0, locals := 60 } D (mT ca) zNs (mW ad ca) [.ref (ad 0), .int v1] u post := by
  refine zI_of (cc := c_m_nextTry) (maxL := 3) (ret := (some .int)) (by decide) (Nat.le_of_ble_eq_true rfl) ?_
  intro p e s m args below meth c ls A cx hI hl
  have cx0 := cx
  obtain ⟨hx, hb, hml, hown, hts, hN, hK, hr, hlk, hfr, hlc⟩ := cx
  have hl : lv_has ls 3 [(0, .ref (ad 0)), (1, .int v1)] := hl
  unfold w_m_nextTry at h
  refine lv_aload_n hx hb d_m_nextTry_0 rfl (lv_at hl 0 rfl) ?_
  refine mg_M_look hx hb hts hown hK hI (hts _ q_672) d_m_nextTry_1 ?_
  refine lv_iload_n hx hb d_m_nextTry_4 rfl (lv_at hl 1 rfl) ?_
  obtain ⟨hi, h⟩ := h
  refine ma_look hx hb hK hI hi d_m_nextTry_5 ?_
  refine lv_istore_n hx hb d_m_nextTry_6 rfl hl (by decide) rfl ?_
  intro ls hl
  have hl : lv_has ls 3 [(2, .int (aI u 6 (Int32.toNatClampNeg v1))), (0, .ref (ad 0)), (1, .int v1)] := hl
  obtain ⟨n0, h⟩ := h
  exact k_m_nextTry_7 cx0  n0 _ _ _ _ _ _ hI (lv_sub hl [1, 2, 0] rfl) h
def b_m_take_166  (post : ZS → Prop) (s0 : Int32) (s1 : Int32) (u : ZS) : Prop := vp_in s1 21 ∧ (post (pI u 6 (Int32.toNatClampNeg s1) s0))
set_option maxRecDepth 100000 in
set_option maxHeartbeats 4000000 in
theorem k_m_take_166 {p : Program} {l : Launch} {e : Env} {R : Room} {s : State} {m : MethodId} {args : Array Value} {below : List Frame} {meth : Method} {c : Code} {D : va_G} {A : Nat → Prop} {ad : Nat → Nat} {ca : Nat → ClassId}  {post : ZS → Prop} (cx : zx p R s m args meth c c_m_take 3 2 33 "ShortBridgeModel" none zG zNs D (mT ca)) {s0 : Int32} {s1 : Int32} {u : ZS} {H : Heap} {locs : List Loc} {ls : Array Slot} (hI : zw D A s.heap (mW ad ca u) H locs) (hl : lv_has ls 3 []) (h : b_m_take_166 post s0 s1 u) : W p l e R s m args below meth c H locs 0 0 (MQ below (va_Qv post (zE D (mT ca) (mW ad ca) A) A) args s 0 0 A) (F0 m 166 ls [.int s0, .int s1, .ref (ad 8)]) := by
  have cx0 := cx
  obtain ⟨hx, hb, hml, hown, hts, hN, hK, hr, hlk, hfr, hlc⟩ := cx
  unfold b_m_take_166 at h
  obtain ⟨hi, h⟩ := h
  refine ms_look hx hb hK hI hi d_m_take_166 ?_
  intro H locs hI
  exact zret_v hx hb hr hlk hK hI h d_m_take_167
def b_m_take_135  (post : ZS → Prop) (v1 : Int32) (u : ZS) : Prop := vp_in v1 21 ∧ (vp_in v1 21 ∧ (((aI u 8 (Int32.toNatClampNeg v1)) < (aI u 9 (Int32.toNatClampNeg v1)) → vp_in v1 21 ∧ (b_m_take_166 post (aI u 6 (Int32.toNatClampNeg v1)) v1 u)) ∧ (¬ ((aI u 8 (Int32.toNatClampNeg v1)) < (aI u 9 (Int32.toNatClampNeg v1))) → b_m_take_166 post 20 v1 u)))
set_option maxRecDepth 100000 in
set_option maxHeartbeats 4000000 in
theorem k_m_take_135 {p : Program} {l : Launch} {e : Env} {R : Room} {s : State} {m : MethodId} {args : Array Value} {below : List Frame} {meth : Method} {c : Code} {D : va_G} {A : Nat → Prop} {ad : Nat → Nat} {ca : Nat → ClassId}  {post : ZS → Prop} (cx : zx p R s m args meth c c_m_take 3 2 33 "ShortBridgeModel" none zG zNs D (mT ca)) {v1 : Int32} {u : ZS} {H : Heap} {locs : List Loc} {ls : Array Slot} (hI : zw D A s.heap (mW ad ca u) H locs) (hl : lv_has ls 3 [(0, .ref (ad 0)), (1, .int v1)]) (h : b_m_take_135 post v1 u) : W p l e R s m args below meth c H locs 0 0 (MQ below (va_Qv post (zE D (mT ca) (mW ad ca) A) A) args s 0 0 A) (F0 m 135 ls []) := by
  have cx0 := cx
  obtain ⟨hx, hb, hml, hown, hts, hN, hK, hr, hlk, hfr, hlc⟩ := cx
  unfold b_m_take_135 at h
  refine lv_aload_n hx hb d_m_take_135 rfl (lv_at hl 0 rfl) ?_
  refine mg_M_look hx hb hts hown hK hI (hts _ q_672) d_m_take_136 ?_
  refine lv_iload_n hx hb d_m_take_139 rfl (lv_at hl 1 rfl) ?_
  refine lv_aload_n hx hb d_m_take_140 rfl (lv_at hl 0 rfl) ?_
  refine mg_M_low hx hb hts hown hK hI (hts _ q_674) d_m_take_141 ?_
  refine lv_iload_n hx hb d_m_take_144 rfl (lv_at hl 1 rfl) ?_
  obtain ⟨hi, h⟩ := h
  refine ma_low hx hb hK hI hi d_m_take_145 ?_
  refine lv_aload_n hx hb d_m_take_146 rfl (lv_at hl 0 rfl) ?_
  refine mg_M_high hx hb hts hown hK hI (hts _ q_675) d_m_take_147 ?_
  refine lv_iload_n hx hb d_m_take_150 rfl (lv_at hl 1 rfl) ?_
  obtain ⟨hi, h⟩ := h
  refine ma_high hx hb hK hI hi d_m_take_151 ?_
  refine lv_icmp_lt hx hb d_m_take_152 rfl (fun hc => ?_) (fun hc => ?_)
  · have h := h.1 hc
    refine lv_aload_n hx hb d_m_take_160 rfl (lv_at hl 0 rfl) ?_
    refine mg_M_look hx hb hts hown hK hI (hts _ q_672) d_m_take_161 ?_
    refine lv_iload_n hx hb d_m_take_164 rfl (lv_at hl 1 rfl) ?_
    obtain ⟨hi, h⟩ := h
    refine ma_look hx hb hK hI hi d_m_take_165 ?_
    exact k_m_take_166 cx0  hI (lv_sub hl [] rfl) h
  · have h := h.2 hc
    refine lv_bipush (v := 20) hx hb d_m_take_155 zc_bipush_20 ?_
    refine lv_goto hx hb d_m_take_157 rfl ?_
    exact k_m_take_166 cx0  hI (lv_sub hl [] rfl) h
def b_m_take_134  (post : ZS → Prop) (v1 : Int32) (s0 : Int32) (s1 : Int32) (u : ZS) : Prop := vp_in s1 21 ∧ (b_m_take_135 post v1 (pI u 9 (Int32.toNatClampNeg s1) s0))
set_option maxRecDepth 100000 in
set_option maxHeartbeats 4000000 in
theorem k_m_take_134 {p : Program} {l : Launch} {e : Env} {R : Room} {s : State} {m : MethodId} {args : Array Value} {below : List Frame} {meth : Method} {c : Code} {D : va_G} {A : Nat → Prop} {ad : Nat → Nat} {ca : Nat → ClassId}  {post : ZS → Prop} (cx : zx p R s m args meth c c_m_take 3 2 33 "ShortBridgeModel" none zG zNs D (mT ca)) {v1 : Int32} {s0 : Int32} {s1 : Int32} {u : ZS} {H : Heap} {locs : List Loc} {ls : Array Slot} (hI : zw D A s.heap (mW ad ca u) H locs) (hl : lv_has ls 3 [(0, .ref (ad 0)), (1, .int v1)]) (h : b_m_take_134 post v1 s0 s1 u) : W p l e R s m args below meth c H locs 0 0 (MQ below (va_Qv post (zE D (mT ca) (mW ad ca) A) A) args s 0 0 A) (F0 m 134 ls [.int s0, .int s1, .ref (ad 11)]) := by
  have cx0 := cx
  obtain ⟨hx, hb, hml, hown, hts, hN, hK, hr, hlk, hfr, hlc⟩ := cx
  unfold b_m_take_134 at h
  obtain ⟨hi, h⟩ := h
  refine ms_high hx hb hK hI hi d_m_take_134 ?_
  intro H locs hI
  exact k_m_take_135 cx0  hI (lv_sub hl [0, 1] rfl) h
def b_m_take_98  (post : ZS → Prop) (v1 : Int32) (s0 : Int32) (s1 : Int32) (u : ZS) : Prop := vp_in s1 21 ∧ (vp_in v1 21 ∧ (vp_in v1 21 ∧ (((aI (pI u 7 (Int32.toNatClampNeg s1) s0) 9 (Int32.toNatClampNeg v1)) ≤ (aI (pI u 7 (Int32.toNatClampNeg s1) s0) 7 (Int32.toNatClampNeg v1)) → vp_in v1 21 ∧ (b_m_take_134 post v1 (aI (pI u 7 (Int32.toNatClampNeg s1) s0) 9 (Int32.toNatClampNeg v1)) v1 (pI u 7 (Int32.toNatClampNeg s1) s0))) ∧ (¬ ((aI (pI u 7 (Int32.toNatClampNeg s1) s0) 9 (Int32.toNatClampNeg v1)) ≤ (aI (pI u 7 (Int32.toNatClampNeg s1) s0) 7 (Int32.toNatClampNeg v1))) → vp_in v1 21 ∧ (b_m_take_134 post v1 (aI (pI u 7 (Int32.toNatClampNeg s1) s0) 7 (Int32.toNatClampNeg v1)) v1 (pI u 7 (Int32.toNatClampNeg s1) s0))))))
set_option maxRecDepth 100000 in
set_option maxHeartbeats 4000000 in
theorem k_m_take_98 {p : Program} {l : Launch} {e : Env} {R : Room} {s : State} {m : MethodId} {args : Array Value} {below : List Frame} {meth : Method} {c : Code} {D : va_G} {A : Nat → Prop} {ad : Nat → Nat} {ca : Nat → ClassId}  {post : ZS → Prop} (cx : zx p R s m args meth c c_m_take 3 2 33 "ShortBridgeModel" none zG zNs D (mT ca)) {v1 : Int32} {s0 : Int32} {s1 : Int32} {u : ZS} {H : Heap} {locs : List Loc} {ls : Array Slot} (hI : zw D A s.heap (mW ad ca u) H locs) (hl : lv_has ls 3 [(0, .ref (ad 0)), (1, .int v1)]) (h : b_m_take_98 post v1 s0 s1 u) : W p l e R s m args below meth c H locs 0 0 (MQ below (va_Qv post (zE D (mT ca) (mW ad ca) A) A) args s 0 0 A) (F0 m 98 ls [.int s0, .int s1, .ref (ad 9)]) := by
  have cx0 := cx
  obtain ⟨hx, hb, hml, hown, hts, hN, hK, hr, hlk, hfr, hlc⟩ := cx
  unfold b_m_take_98 at h
  obtain ⟨hi, h⟩ := h
  refine ms_best hx hb hK hI hi d_m_take_98 ?_
  intro H locs hI
  refine lv_aload_n hx hb d_m_take_99 rfl (lv_at hl 0 rfl) ?_
  refine mg_M_high hx hb hts hown hK hI (hts _ q_675) d_m_take_100 ?_
  refine lv_iload_n hx hb d_m_take_103 rfl (lv_at hl 1 rfl) ?_
  refine lv_aload_n hx hb d_m_take_104 rfl (lv_at hl 0 rfl) ?_
  refine mg_M_best hx hb hts hown hK hI (hts _ q_673) d_m_take_105 ?_
  refine lv_iload_n hx hb d_m_take_108 rfl (lv_at hl 1 rfl) ?_
  obtain ⟨hi, h⟩ := h
  refine ma_best hx hb hK hI hi d_m_take_109 ?_
  refine lv_aload_n hx hb d_m_take_110 rfl (lv_at hl 0 rfl) ?_
  refine mg_M_high hx hb hts hown hK hI (hts _ q_675) d_m_take_111 ?_
  refine lv_iload_n hx hb d_m_take_114 rfl (lv_at hl 1 rfl) ?_
  obtain ⟨hi, h⟩ := h
  refine ma_high hx hb hK hI hi d_m_take_115 ?_
  refine lv_icmp_ge hx hb d_m_take_116 rfl (fun hc => ?_) (fun hc => ?_)
  · have h := h.1 hc
    refine lv_aload_n hx hb d_m_take_128 rfl (lv_at hl 0 rfl) ?_
    refine mg_M_high hx hb hts hown hK hI (hts _ q_675) d_m_take_129 ?_
    refine lv_iload_n hx hb d_m_take_132 rfl (lv_at hl 1 rfl) ?_
    obtain ⟨hi, h⟩ := h
    refine ma_high hx hb hK hI hi d_m_take_133 ?_
    exact k_m_take_134 cx0  hI (lv_sub hl [0, 1] rfl) h
  · have h := h.2 hc
    refine lv_aload_n hx hb d_m_take_119 rfl (lv_at hl 0 rfl) ?_
    refine mg_M_best hx hb hts hown hK hI (hts _ q_673) d_m_take_120 ?_
    refine lv_iload_n hx hb d_m_take_123 rfl (lv_at hl 1 rfl) ?_
    obtain ⟨hi, h⟩ := h
    refine ma_best hx hb hK hI hi d_m_take_124 ?_
    refine lv_goto hx hb d_m_take_125 rfl ?_
    exact k_m_take_134 cx0  hI (lv_sub hl [0, 1] rfl) h
def b_m_take_69  (post : ZS → Prop) (v1 : Int32) (s0 : Int32) (s1 : Int32) (u : ZS) : Prop := vp_in s1 21 ∧ (b_m_take_135 post v1 (pI u 8 (Int32.toNatClampNeg s1) s0))
set_option maxRecDepth 100000 in
set_option maxHeartbeats 4000000 in
theorem k_m_take_69 {p : Program} {l : Launch} {e : Env} {R : Room} {s : State} {m : MethodId} {args : Array Value} {below : List Frame} {meth : Method} {c : Code} {D : va_G} {A : Nat → Prop} {ad : Nat → Nat} {ca : Nat → ClassId}  {post : ZS → Prop} (cx : zx p R s m args meth c c_m_take 3 2 33 "ShortBridgeModel" none zG zNs D (mT ca)) {v1 : Int32} {s0 : Int32} {s1 : Int32} {u : ZS} {H : Heap} {locs : List Loc} {ls : Array Slot} (hI : zw D A s.heap (mW ad ca u) H locs) (hl : lv_has ls 3 [(0, .ref (ad 0)), (1, .int v1)]) (h : b_m_take_69 post v1 s0 s1 u) : W p l e R s m args below meth c H locs 0 0 (MQ below (va_Qv post (zE D (mT ca) (mW ad ca) A) A) args s 0 0 A) (F0 m 69 ls [.int s0, .int s1, .ref (ad 10)]) := by
  have cx0 := cx
  obtain ⟨hx, hb, hml, hown, hts, hN, hK, hr, hlk, hfr, hlc⟩ := cx
  unfold b_m_take_69 at h
  obtain ⟨hi, h⟩ := h
  refine ms_low hx hb hK hI hi d_m_take_69 ?_
  intro H locs hI
  refine lv_goto hx hb d_m_take_70 rfl ?_
  exact k_m_take_135 cx0  hI (lv_sub hl [0, 1] rfl) h
def b_m_take_33  (post : ZS → Prop) (v1 : Int32) (s0 : Int32) (s1 : Int32) (u : ZS) : Prop := vp_in s1 21 ∧ (vp_in v1 21 ∧ (vp_in v1 21 ∧ (((aI (pI u 7 (Int32.toNatClampNeg s1) s0) 7 (Int32.toNatClampNeg v1)) ≤ (aI (pI u 7 (Int32.toNatClampNeg s1) s0) 8 (Int32.toNatClampNeg v1)) → vp_in v1 21 ∧ (b_m_take_69 post v1 (aI (pI u 7 (Int32.toNatClampNeg s1) s0) 8 (Int32.toNatClampNeg v1)) v1 (pI u 7 (Int32.toNatClampNeg s1) s0))) ∧ (¬ ((aI (pI u 7 (Int32.toNatClampNeg s1) s0) 7 (Int32.toNatClampNeg v1)) ≤ (aI (pI u 7 (Int32.toNatClampNeg s1) s0) 8 (Int32.toNatClampNeg v1))) → vp_in v1 21 ∧ (b_m_take_69 post v1 (aI (pI u 7 (Int32.toNatClampNeg s1) s0) 7 (Int32.toNatClampNeg v1)) v1 (pI u 7 (Int32.toNatClampNeg s1) s0))))))
set_option maxRecDepth 100000 in
set_option maxHeartbeats 4000000 in
theorem k_m_take_33 {p : Program} {l : Launch} {e : Env} {R : Room} {s : State} {m : MethodId} {args : Array Value} {below : List Frame} {meth : Method} {c : Code} {D : va_G} {A : Nat → Prop} {ad : Nat → Nat} {ca : Nat → ClassId}  {post : ZS → Prop} (cx : zx p R s m args meth c c_m_take 3 2 33 "ShortBridgeModel" none zG zNs D (mT ca)) {v1 : Int32} {s0 : Int32} {s1 : Int32} {u : ZS} {H : Heap} {locs : List Loc} {ls : Array Slot} (hI : zw D A s.heap (mW ad ca u) H locs) (hl : lv_has ls 3 [(0, .ref (ad 0)), (1, .int v1)]) (h : b_m_take_33 post v1 s0 s1 u) : W p l e R s m args below meth c H locs 0 0 (MQ below (va_Qv post (zE D (mT ca) (mW ad ca) A) A) args s 0 0 A) (F0 m 33 ls [.int s0, .int s1, .ref (ad 9)]) := by
  have cx0 := cx
  obtain ⟨hx, hb, hml, hown, hts, hN, hK, hr, hlk, hfr, hlc⟩ := cx
  unfold b_m_take_33 at h
  obtain ⟨hi, h⟩ := h
  refine ms_best hx hb hK hI hi d_m_take_33 ?_
  intro H locs hI
  refine lv_aload_n hx hb d_m_take_34 rfl (lv_at hl 0 rfl) ?_
  refine mg_M_low hx hb hts hown hK hI (hts _ q_674) d_m_take_35 ?_
  refine lv_iload_n hx hb d_m_take_38 rfl (lv_at hl 1 rfl) ?_
  refine lv_aload_n hx hb d_m_take_39 rfl (lv_at hl 0 rfl) ?_
  refine mg_M_best hx hb hts hown hK hI (hts _ q_673) d_m_take_40 ?_
  refine lv_iload_n hx hb d_m_take_43 rfl (lv_at hl 1 rfl) ?_
  obtain ⟨hi, h⟩ := h
  refine ma_best hx hb hK hI hi d_m_take_44 ?_
  refine lv_aload_n hx hb d_m_take_45 rfl (lv_at hl 0 rfl) ?_
  refine mg_M_low hx hb hts hown hK hI (hts _ q_674) d_m_take_46 ?_
  refine lv_iload_n hx hb d_m_take_49 rfl (lv_at hl 1 rfl) ?_
  obtain ⟨hi, h⟩ := h
  refine ma_low hx hb hK hI hi d_m_take_50 ?_
  refine lv_icmp_le hx hb d_m_take_51 rfl (fun hc => ?_) (fun hc => ?_)
  · have h := h.1 hc
    refine lv_aload_n hx hb d_m_take_63 rfl (lv_at hl 0 rfl) ?_
    refine mg_M_low hx hb hts hown hK hI (hts _ q_674) d_m_take_64 ?_
    refine lv_iload_n hx hb d_m_take_67 rfl (lv_at hl 1 rfl) ?_
    obtain ⟨hi, h⟩ := h
    refine ma_low hx hb hK hI hi d_m_take_68 ?_
    exact k_m_take_69 cx0  hI (lv_sub hl [0, 1] rfl) h
  · have h := h.2 hc
    refine lv_aload_n hx hb d_m_take_54 rfl (lv_at hl 0 rfl) ?_
    refine mg_M_best hx hb hts hown hK hI (hts _ q_673) d_m_take_55 ?_
    refine lv_iload_n hx hb d_m_take_58 rfl (lv_at hl 1 rfl) ?_
    obtain ⟨hi, h⟩ := h
    refine ma_best hx hb hK hI hi d_m_take_59 ?_
    refine lv_goto hx hb d_m_take_60 rfl ?_
    exact k_m_take_69 cx0  hI (lv_sub hl [0, 1] rfl) h
def w_m_take (v1 : Int32) (v2 : Int32) (u : ZS) (post : ZS → Prop) : Prop := w_m_ours v1 u (fun r1 u2 => (r1 = 0 → vp_in v1 21 ∧ (((aI u2 7 (Int32.toNatClampNeg v1)) ≤ v2 → vp_in v1 21 ∧ (b_m_take_98 post v1 (aI u2 7 (Int32.toNatClampNeg v1)) v1 u2)) ∧ (¬ ((aI u2 7 (Int32.toNatClampNeg v1)) ≤ v2) → b_m_take_98 post v1 v2 v1 u2))) ∧ (¬ (r1 = 0) → vp_in v1 21 ∧ ((v2 ≤ (aI u2 7 (Int32.toNatClampNeg v1)) → vp_in v1 21 ∧ (b_m_take_33 post v1 (aI u2 7 (Int32.toNatClampNeg v1)) v1 u2)) ∧ (¬ (v2 ≤ (aI u2 7 (Int32.toNatClampNeg v1))) → b_m_take_33 post v1 v2 v1 u2))))
set_option maxRecDepth 100000 in
set_option maxHeartbeats 4000000 in
theorem t_m_take (l : Launch) (D : va_G) (ad : Nat → Nat) (ca : Nat → ClassId) {v1 : Int32} {v2 : Int32} {u : ZS} {post : ZS → Prop} (h : w_m_take v1 v2 u post) : zV l y_m_take (Cond.code y_m_take c_m_take 3 none :: zG) { frames := 2, cells := 0, slots := 0, locals := 33 } D (mT ca) zNs (mW ad ca) [.ref (ad 0), .int v1, .int v2] u post := by
  refine zV_of (cc := c_m_take) (maxL := 3) (by decide) (Nat.le_of_ble_eq_true rfl) ?_
  intro p e s m args below meth c ls A cx hI hl
  have cx0 := cx
  obtain ⟨hx, hb, hml, hown, hts, hN, hK, hr, hlk, hfr, hlc⟩ := cx
  have hl : lv_has ls 3 [(0, .ref (ad 0)), (1, .int v1), (2, .int v2)] := hl
  unfold w_m_take at h
  refine lv_aload_n hx hb d_m_take_0 rfl (lv_at hl 0 rfl) ?_
  refine lv_iload_n hx hb d_m_take_1 rfl (lv_at hl 1 rfl) ?_
  refine zr_i (va_runV (As := [.int v1]) (rest := []) ⟨hx, hb, hml, hown, hts⟩ (t_m_ours l D ad ca h _) (cwV 1 hts (zg_V q_881 q_883 q_34 q_44 q_884) rfl rfl rfl ⟨rfl, hd_m_ours⟩ ⟨Nat.le_trans (by decide) hfr, Nat.le_trans (by decide) hlc⟩) (z_preV zNs_ok hK hN hI 0 5 rfl rfl _) rfl rfl hl.1 rfl (lv_room (Nat.le_of_ble_eq_true rfl)) d_m_take_2 ⟨Nat.zero_le _, Nat.zero_le _⟩) hI ?_
  intro r1 u2 H locs h hI
  refine lv_if_eq hx hb d_m_take_5 rfl (fun hc => ?_) (fun hc => ?_)
  · have h := h.1 hc
    refine lv_aload_n hx hb d_m_take_73 rfl (lv_at hl 0 rfl) ?_
    refine mg_M_best hx hb hts hown hK hI (hts _ q_673) d_m_take_74 ?_
    refine lv_iload_n hx hb d_m_take_77 rfl (lv_at hl 1 rfl) ?_
    refine lv_iload_n hx hb d_m_take_78 rfl (lv_at hl 2 rfl) ?_
    refine lv_aload_n hx hb d_m_take_79 rfl (lv_at hl 0 rfl) ?_
    refine mg_M_best hx hb hts hown hK hI (hts _ q_673) d_m_take_80 ?_
    refine lv_iload_n hx hb d_m_take_83 rfl (lv_at hl 1 rfl) ?_
    obtain ⟨hi, h⟩ := h
    refine ma_best hx hb hK hI hi d_m_take_84 ?_
    refine lv_icmp_ge hx hb d_m_take_85 rfl (fun hc => ?_) (fun hc => ?_)
    · have h := h.1 hc
      refine lv_aload_n hx hb d_m_take_92 rfl (lv_at hl 0 rfl) ?_
      refine mg_M_best hx hb hts hown hK hI (hts _ q_673) d_m_take_93 ?_
      refine lv_iload_n hx hb d_m_take_96 rfl (lv_at hl 1 rfl) ?_
      obtain ⟨hi, h⟩ := h
      refine ma_best hx hb hK hI hi d_m_take_97 ?_
      exact k_m_take_98 cx0  hI (lv_sub hl [0, 1] rfl) h
    · have h := h.2 hc
      refine lv_iload_n hx hb d_m_take_88 rfl (lv_at hl 2 rfl) ?_
      refine lv_goto hx hb d_m_take_89 rfl ?_
      exact k_m_take_98 cx0  hI (lv_sub hl [0, 1] rfl) h
  · have h := h.2 hc
    refine lv_aload_n hx hb d_m_take_8 rfl (lv_at hl 0 rfl) ?_
    refine mg_M_best hx hb hts hown hK hI (hts _ q_673) d_m_take_9 ?_
    refine lv_iload_n hx hb d_m_take_12 rfl (lv_at hl 1 rfl) ?_
    refine lv_iload_n hx hb d_m_take_13 rfl (lv_at hl 2 rfl) ?_
    refine lv_aload_n hx hb d_m_take_14 rfl (lv_at hl 0 rfl) ?_
    refine mg_M_best hx hb hts hown hK hI (hts _ q_673) d_m_take_15 ?_
    refine lv_iload_n hx hb d_m_take_18 rfl (lv_at hl 1 rfl) ?_
    obtain ⟨hi, h⟩ := h
    refine ma_best hx hb hK hI hi d_m_take_19 ?_
    refine lv_icmp_le hx hb d_m_take_20 rfl (fun hc => ?_) (fun hc => ?_)
    · have h := h.1 hc
      refine lv_aload_n hx hb d_m_take_27 rfl (lv_at hl 0 rfl) ?_
      refine mg_M_best hx hb hts hown hK hI (hts _ q_673) d_m_take_28 ?_
      refine lv_iload_n hx hb d_m_take_31 rfl (lv_at hl 1 rfl) ?_
      obtain ⟨hi, h⟩ := h
      refine ma_best hx hb hK hI hi d_m_take_32 ?_
      exact k_m_take_33 cx0  hI (lv_sub hl [0, 1] rfl) h
    · have h := h.2 hc
      refine lv_iload_n hx hb d_m_take_23 rfl (lv_at hl 2 rfl) ?_
      refine lv_goto hx hb d_m_take_24 rfl ?_
      exact k_m_take_33 cx0  hI (lv_sub hl [0, 1] rfl) h
def b_m_solveFrom_135 (r12 : Int32 → Int32 → Int32 → ZS → Prop) (post : Int32 → ZS → Prop) (v1 : Int32) (v2 : Int32) (v3 : Int32) (u : ZS) : Prop := r12 v1 v2 v3 u
set_option maxRecDepth 100000 in
set_option maxHeartbeats 4000000 in
theorem k_m_solveFrom_135 {p : Program} {l : Launch} {e : Env} {R : Room} {s : State} {m : MethodId} {args : Array Value} {below : List Frame} {meth : Method} {c : Code} {D : va_G} {A : Nat → Prop} {ad : Nat → Nat} {ca : Nat → ClassId} {r12 : Int32 → Int32 → Int32 → ZS → Prop} {post : Int32 → ZS → Prop} (cx : zx p R s m args meth c c_m_solveFrom 6 4 82 "ShortBridgeModel" (some .int) zG zNs D (mT ca)) (hk12 : ∀ (v1 : Int32) (v2 : Int32) (v3 : Int32) (u : ZS) (H : Heap) (locs : List Loc) (ls : Array Slot), zw D A s.heap (mW ad ca u) H locs → lv_has ls 6 [(0, .ref (ad 0)), (1, .int v1), (2, .int v2), (3, .int v3)] → r12 v1 v2 v3 u → W p l e R s m args below meth c H locs 0 0 (MQ below (va_Qi post (zE D (mT ca) (mW ad ca) A) A) args s 0 0 A) (F0 m 12 ls [])) {v1 : Int32} {v2 : Int32} {v3 : Int32} {u : ZS} {H : Heap} {locs : List Loc} {ls : Array Slot} (hI : zw D A s.heap (mW ad ca u) H locs) (hl : lv_has ls 6 [(0, .ref (ad 0)), (1, .int v1), (2, .int v2), (3, .int v3)]) (h : b_m_solveFrom_135 r12 post v1 v2 v3 u) : W p l e R s m args below meth c H locs 0 0 (MQ below (va_Qi post (zE D (mT ca) (mW ad ca) A) A) args s 0 0 A) (F0 m 135 ls []) := by
  have cx0 := cx
  obtain ⟨hx, hb, hml, hown, hts, hN, hK, hr, hlk, hfr, hlc⟩ := cx
  unfold b_m_solveFrom_135 at h
  refine lv_goto hx hb d_m_solveFrom_135 rfl ?_
  exact hk12 _ _ _ _ _ _ _ hI (lv_sub hl [0, 1, 2, 3] rfl) h
def b_m_solveFrom_122 (r12 : Int32 → Int32 → Int32 → ZS → Prop) (post : Int32 → ZS → Prop) (v1 : Int32) (v2 : Int32) (v3 : Int32) (s0 : Int32) (u : ZS) : Prop := w_m_take (v2 - 1) s0 u (fun u2 => b_m_solveFrom_135 r12 post v1 (v2 - 1) v3 u2)
set_option maxRecDepth 100000 in
set_option maxHeartbeats 4000000 in
theorem k_m_solveFrom_122 {p : Program} {l : Launch} {e : Env} {R : Room} {s : State} {m : MethodId} {args : Array Value} {below : List Frame} {meth : Method} {c : Code} {D : va_G} {A : Nat → Prop} {ad : Nat → Nat} {ca : Nat → ClassId} {r12 : Int32 → Int32 → Int32 → ZS → Prop} {post : Int32 → ZS → Prop} (cx : zx p R s m args meth c c_m_solveFrom 6 4 82 "ShortBridgeModel" (some .int) zG zNs D (mT ca)) (hk12 : ∀ (v1 : Int32) (v2 : Int32) (v3 : Int32) (u : ZS) (H : Heap) (locs : List Loc) (ls : Array Slot), zw D A s.heap (mW ad ca u) H locs → lv_has ls 6 [(0, .ref (ad 0)), (1, .int v1), (2, .int v2), (3, .int v3)] → r12 v1 v2 v3 u → W p l e R s m args below meth c H locs 0 0 (MQ below (va_Qi post (zE D (mT ca) (mW ad ca) A) A) args s 0 0 A) (F0 m 12 ls [])) {v1 : Int32} {v2 : Int32} {v3 : Int32} {s0 : Int32} {u : ZS} {H : Heap} {locs : List Loc} {ls : Array Slot} (hI : zw D A s.heap (mW ad ca u) H locs) (hl : lv_has ls 6 [(0, .ref (ad 0)), (1, .int v1), (2, .int v2), (3, .int v3)]) (h : b_m_solveFrom_122 r12 post v1 v2 v3 s0 u) : W p l e R s m args below meth c H locs 0 0 (MQ below (va_Qi post (zE D (mT ca) (mW ad ca) A) A) args s 0 0 A) (F0 m 122 ls [.int s0]) := by
  have cx0 := cx
  obtain ⟨hx, hb, hml, hown, hts, hN, hK, hr, hlk, hfr, hlc⟩ := cx
  unfold b_m_solveFrom_122 at h
  refine lv_istore hx hb d_m_solveFrom_122 hl (by decide) rfl ?_
  intro ls hl
  have hl : lv_has ls 6 [(5, .int s0), (0, .ref (ad 0)), (1, .int v1), (2, .int v2), (3, .int v3)] := hl
  refine lv_iload_n hx hb d_m_solveFrom_124 rfl (lv_at hl 3 rfl) ?_
  refine lv_iconst (v := 1) hx hb d_m_solveFrom_125 zc_iconst_1 ?_
  refine lv_isub hx hb d_m_solveFrom_126 ?_
  refine lv_istore_n hx hb d_m_solveFrom_127 rfl hl (by decide) rfl ?_
  intro ls hl
  have hl : lv_has ls 6 [(2, .int (v2 - 1)), (5, .int s0), (0, .ref (ad 0)), (1, .int v1), (3, .int v3)] := hl
  refine lv_aload_n hx hb d_m_solveFrom_128 rfl (lv_at hl 2 rfl) ?_
  refine lv_iload_n hx hb d_m_solveFrom_129 rfl (lv_at hl 0 rfl) ?_
  refine lv_iload hx hb d_m_solveFrom_130 (lv_at hl 1 rfl) ?_
  refine zr_v (va_runV (As := [.int (v2 - 1), .int s0]) (rest := []) ⟨hx, hb, hml, hown, hts⟩ (t_m_take l D ad ca h _) (cwV 2 hts (zg_V q_889 q_891 q_36 q_44 q_892) rfl rfl rfl ⟨rfl, hd_m_take⟩ ⟨Nat.le_trans (by decide) hfr, Nat.le_trans (by decide) hlc⟩) (z_preV zNs_ok hK hN hI 0 5 rfl rfl _) rfl rfl hl.1 rfl (lv_room (Nat.le_of_ble_eq_true rfl)) d_m_solveFrom_132 ⟨Nat.zero_le _, Nat.zero_le _⟩) hI ?_
  intro u2 H locs h hI
  exact k_m_solveFrom_135 cx0 hk12 hI (lv_sub hl [2, 3, 0, 4] rfl) h
def b_m_solveFrom_32 (r12 : Int32 → Int32 → Int32 → ZS → Prop) (post : Int32 → ZS → Prop) (v1 : Int32) (v2 : Int32) (v3 : Int32) (s0 : Int32) (u : ZS) : Prop := (20 ≤ s0 → (¬ v2 = v1 → (¬ v2 = 20 → vp_in v2 21 ∧ (b_m_solveFrom_122 r12 post v1 v2 v3 (aI u 7 (Int32.toNatClampNeg v2)) u)) ∧ (v2 = 20 → vp_in 20 21 ∧ (b_m_solveFrom_122 r12 post v1 v2 v3 (aI u 4 (Int32.toNatClampNeg 20)) u))) ∧ (v2 = v1 → b_m_solveFrom_135 r12 post v1 v2 0 u)) ∧ (¬ (20 ≤ s0) → vp_in v2 20 ∧ (vp_in v2 21 ∧ (w_m_goOn v2 (pI (pI u 2 (Int32.toNatClampNeg v2) s0) 6 (Int32.toNatClampNeg v2) (s0 + 1)) (fun u4 => vp_in v2 21 ∧ (vp_in v2 21 ∧ (w_m_enter (v2 + 1) (aI u4 8 (Int32.toNatClampNeg v2)) (aI u4 9 (Int32.toNatClampNeg v2)) u4 (fun u6 => b_m_solveFrom_135 r12 post v1 (v2 + 1) v3 u6)))))))
set_option maxRecDepth 100000 in
set_option maxHeartbeats 4000000 in
theorem k_m_solveFrom_32 {p : Program} {l : Launch} {e : Env} {R : Room} {s : State} {m : MethodId} {args : Array Value} {below : List Frame} {meth : Method} {c : Code} {D : va_G} {A : Nat → Prop} {ad : Nat → Nat} {ca : Nat → ClassId} {r12 : Int32 → Int32 → Int32 → ZS → Prop} {post : Int32 → ZS → Prop} (cx : zx p R s m args meth c c_m_solveFrom 6 4 82 "ShortBridgeModel" (some .int) zG zNs D (mT ca)) (hk12 : ∀ (v1 : Int32) (v2 : Int32) (v3 : Int32) (u : ZS) (H : Heap) (locs : List Loc) (ls : Array Slot), zw D A s.heap (mW ad ca u) H locs → lv_has ls 6 [(0, .ref (ad 0)), (1, .int v1), (2, .int v2), (3, .int v3)] → r12 v1 v2 v3 u → W p l e R s m args below meth c H locs 0 0 (MQ below (va_Qi post (zE D (mT ca) (mW ad ca) A) A) args s 0 0 A) (F0 m 12 ls [])) {v1 : Int32} {v2 : Int32} {v3 : Int32} {s0 : Int32} {u : ZS} {H : Heap} {locs : List Loc} {ls : Array Slot} (hI : zw D A s.heap (mW ad ca u) H locs) (hl : lv_has ls 6 [(0, .ref (ad 0)), (1, .int v1), (2, .int v2), (3, .int v3)]) (h : b_m_solveFrom_32 r12 post v1 v2 v3 s0 u) : W p l e R s m args below meth c H locs 0 0 (MQ below (va_Qi post (zE D (mT ca) (mW ad ca) A) A) args s 0 0 A) (F0 m 32 ls [.int s0]) := by
  have cx0 := cx
  obtain ⟨hx, hb, hml, hown, hts, hN, hK, hr, hlk, hfr, hlc⟩ := cx
  unfold b_m_solveFrom_32 at h
  refine lv_istore hx hb d_m_solveFrom_32 hl (by decide) rfl ?_
  intro ls hl
  have hl : lv_has ls 6 [(4, .int s0), (0, .ref (ad 0)), (1, .int v1), (2, .int v2), (3, .int v3)] := hl
  refine lv_iload hx hb d_m_solveFrom_34 (lv_at hl 0 rfl) ?_
  refine lv_bipush (v := 20) hx hb d_m_solveFrom_36 zc_bipush_20 ?_
  refine lv_icmp_ge hx hb d_m_solveFrom_38 rfl (fun hc => ?_) (fun hc => ?_)
  · have h := h.1 hc
    refine lv_iload_n hx hb d_m_solveFrom_90 rfl (lv_at hl 3 rfl) ?_
    refine lv_iload_n hx hb d_m_solveFrom_91 rfl (lv_at hl 2 rfl) ?_
    refine lv_icmp_ne hx hb d_m_solveFrom_92 rfl (fun hc => ?_) (fun hc => ?_)
    · have h := h.1 hc
      refine lv_iload_n hx hb d_m_solveFrom_100 rfl (lv_at hl 3 rfl) ?_
      refine lv_bipush (v := 20) hx hb d_m_solveFrom_101 zc_bipush_20 ?_
      refine lv_icmp_ne hx hb d_m_solveFrom_103 rfl (fun hc => ?_) (fun hc => ?_)
      · have h := h.1 hc
        refine lv_aload_n hx hb d_m_solveFrom_116 rfl (lv_at hl 1 rfl) ?_
        refine mg_M_best hx hb hts hown hK hI (hts _ q_673) d_m_solveFrom_117 ?_
        refine lv_iload_n hx hb d_m_solveFrom_120 rfl (lv_at hl 3 rfl) ?_
        obtain ⟨hi, h⟩ := h
        refine ma_best hx hb hK hI hi d_m_solveFrom_121 ?_
        exact k_m_solveFrom_122 cx0 hk12 hI (lv_sub hl [1, 2, 3, 4] rfl) h
      · have h := h.2 hc
        refine lv_aload_n hx hb d_m_solveFrom_106 rfl (lv_at hl 1 rfl) ?_
        refine mg_M_wonAt hx hb hts hown hK hI (hts _ q_670) d_m_solveFrom_107 ?_
        refine lv_bipush (v := 20) hx hb d_m_solveFrom_110 zc_bipush_20 ?_
        obtain ⟨hi, h⟩ := h
        refine ma_wonAt hx hb hK hI hi d_m_solveFrom_112 ?_
        refine lv_goto hx hb d_m_solveFrom_113 rfl ?_
        exact k_m_solveFrom_122 cx0 hk12 hI (lv_sub hl [1, 2, 3, 4] rfl) h
    · have h := h.2 hc
      refine lv_iconst (v := 0) hx hb d_m_solveFrom_95 zc_iconst_0 ?_
      refine lv_istore_n hx hb d_m_solveFrom_96 rfl hl (by decide) rfl ?_
      intro ls hl
      have hl : lv_has ls 6 [(3, .int 0), (4, .int s0), (0, .ref (ad 0)), (1, .int v1), (2, .int v2)] := hl
      refine lv_goto hx hb d_m_solveFrom_97 rfl ?_
      exact k_m_solveFrom_135 cx0 hk12 hI (lv_sub hl [2, 3, 4, 0] rfl) h
  · have h := h.2 hc
    refine lv_aload_n hx hb d_m_solveFrom_41 rfl (lv_at hl 1 rfl) ?_
    refine mg_M_card hx hb hts hown hK hI (hts _ q_664) d_m_solveFrom_42 ?_
    refine lv_iload_n hx hb d_m_solveFrom_45 rfl (lv_at hl 3 rfl) ?_
    refine lv_iload hx hb d_m_solveFrom_46 (lv_at hl 0 rfl) ?_
    obtain ⟨hi, h⟩ := h
    refine ms_card hx hb hK hI hi d_m_solveFrom_48 ?_
    intro H locs hI
    refine lv_aload_n hx hb d_m_solveFrom_49 rfl (lv_at hl 1 rfl) ?_
    refine mg_M_look hx hb hts hown hK hI (hts _ q_672) d_m_solveFrom_50 ?_
    refine lv_iload_n hx hb d_m_solveFrom_53 rfl (lv_at hl 3 rfl) ?_
    refine lv_iload hx hb d_m_solveFrom_54 (lv_at hl 0 rfl) ?_
    refine lv_iconst (v := 1) hx hb d_m_solveFrom_56 zc_iconst_1 ?_
    refine lv_iadd hx hb d_m_solveFrom_57 ?_
    obtain ⟨hi, h⟩ := h
    refine ms_look hx hb hK hI hi d_m_solveFrom_58 ?_
    intro H locs hI
    refine lv_aload_n hx hb d_m_solveFrom_59 rfl (lv_at hl 1 rfl) ?_
    refine lv_iload_n hx hb d_m_solveFrom_60 rfl (lv_at hl 3 rfl) ?_
    refine zr_v (va_runV (As := [.int v2]) (rest := []) ⟨hx, hb, hml, hown, hts⟩ (t_m_goOn l D ad ca h _) (cwV 1 hts (zg_V q_818 q_820 q_26 q_44 q_821) rfl rfl rfl ⟨rfl, hd_m_goOn⟩ ⟨Nat.le_trans (by decide) hfr, Nat.le_trans (by decide) hlc⟩) (z_preV zNs_ok hK hN hI 0 5 rfl rfl _) rfl rfl hl.1 rfl (lv_room (Nat.le_of_ble_eq_true rfl)) d_m_solveFrom_61 ⟨Nat.zero_le _, Nat.zero_le _⟩) hI ?_
    intro u4 H locs h hI
    refine lv_aload_n hx hb d_m_solveFrom_64 rfl (lv_at hl 1 rfl) ?_
    refine lv_iload_n hx hb d_m_solveFrom_65 rfl (lv_at hl 3 rfl) ?_
    refine lv_iconst (v := 1) hx hb d_m_solveFrom_66 zc_iconst_1 ?_
    refine lv_iadd hx hb d_m_solveFrom_67 ?_
    refine lv_aload_n hx hb d_m_solveFrom_68 rfl (lv_at hl 1 rfl) ?_
    refine mg_M_low hx hb hts hown hK hI (hts _ q_674) d_m_solveFrom_69 ?_
    refine lv_iload_n hx hb d_m_solveFrom_72 rfl (lv_at hl 3 rfl) ?_
    obtain ⟨hi, h⟩ := h
    refine ma_low hx hb hK hI hi d_m_solveFrom_73 ?_
    refine lv_aload_n hx hb d_m_solveFrom_74 rfl (lv_at hl 1 rfl) ?_
    refine mg_M_high hx hb hts hown hK hI (hts _ q_675) d_m_solveFrom_75 ?_
    refine lv_iload_n hx hb d_m_solveFrom_78 rfl (lv_at hl 3 rfl) ?_
    obtain ⟨hi, h⟩ := h
    refine ma_high hx hb hK hI hi d_m_solveFrom_79 ?_
    refine zr_v (va_runV (As := [.int (v2 + 1), .int (aI u4 8 (Int32.toNatClampNeg v2)), .int (aI u4 9 (Int32.toNatClampNeg v2))]) (rest := []) ⟨hx, hb, hml, hown, hts⟩ (t_m_enter l D ad ca h _) (cwV 3 hts (zg_V q_877 q_879 q_33 q_44 q_880) rfl rfl rfl ⟨rfl, hd_m_enter⟩ ⟨Nat.le_trans (by decide) hfr, Nat.le_trans (by decide) hlc⟩) (z_preV zNs_ok hK hN hI 0 5 rfl rfl _) rfl rfl hl.1 rfl (lv_room (Nat.le_of_ble_eq_true rfl)) d_m_solveFrom_80 ⟨Nat.zero_le _, Nat.zero_le _⟩) hI ?_
    intro u6 H locs h hI
    refine lv_iload_n hx hb d_m_solveFrom_83 rfl (lv_at hl 3 rfl) ?_
    refine lv_iconst (v := 1) hx hb d_m_solveFrom_84 zc_iconst_1 ?_
    refine lv_iadd hx hb d_m_solveFrom_85 ?_
    refine lv_istore_n hx hb d_m_solveFrom_86 rfl hl (by decide) rfl ?_
    intro ls hl
    have hl : lv_has ls 6 [(2, .int (v2 + 1)), (4, .int s0), (0, .ref (ad 0)), (1, .int v1), (3, .int v3)] := hl
    refine lv_goto hx hb d_m_solveFrom_87 rfl ?_
    exact k_m_solveFrom_135 cx0 hk12 hI (lv_sub hl [2, 3, 0, 4] rfl) h
def b_m_solveFrom_12  (post : Int32 → ZS → Prop) : Nat → Int32 → Int32 → Int32 → ZS → Prop
  | 0, _, _, _, _ => False
  | n + 1, v1, v2, v3, u => (v3 = 0 → vp_in v1 21 ∧ (post (aI u 7 (Int32.toNatClampNeg v1)) u)) ∧ (¬ (v3 = 0) → (¬ v2 = 20 → w_m_nextTry v2 u (fun r7 u8 => b_m_solveFrom_32 (b_m_solveFrom_12 post n) post v1 v2 v3 r7 u8)) ∧ (v2 = 20 → b_m_solveFrom_32 (b_m_solveFrom_12 post n) post v1 v2 v3 20 u))
set_option maxRecDepth 100000 in
set_option maxHeartbeats 4000000 in
theorem k_m_solveFrom_12 {p : Program} {l : Launch} {e : Env} {R : Room} {s : State} {m : MethodId} {args : Array Value} {below : List Frame} {meth : Method} {c : Code} {D : va_G} {A : Nat → Prop} {ad : Nat → Nat} {ca : Nat → ClassId}  {post : Int32 → ZS → Prop} (cx : zx p R s m args meth c c_m_solveFrom 6 4 82 "ShortBridgeModel" (some .int) zG zNs D (mT ca)) : ∀ (n : Nat) (v1 : Int32) (v2 : Int32) (v3 : Int32) (u : ZS) (H : Heap) (locs : List Loc) (ls : Array Slot), zw D A s.heap (mW ad ca u) H locs → lv_has ls 6 [(0, .ref (ad 0)), (1, .int v1), (2, .int v2), (3, .int v3)] → b_m_solveFrom_12 post n v1 v2 v3 u → W p l e R s m args below meth c H locs 0 0 (MQ below (va_Qi post (zE D (mT ca) (mW ad ca) A) A) args s 0 0 A) (F0 m 12 ls []) := by
  have cx0 := cx
  obtain ⟨hx, hb, hml, hown, hts, hN, hK, hr, hlk, hfr, hlc⟩ := cx
  intro n
  induction n with
  | zero => intro v1 v2 v3 u H locs ls hI hl h; exact (h : False).elim
  | succ n ih =>
    intro v1 v2 v3 u H locs ls hI hl h
    unfold b_m_solveFrom_12 at h
    refine lv_iload_n hx hb d_m_solveFrom_12 rfl (lv_at hl 3 rfl) ?_
    refine lv_if_eq hx hb d_m_solveFrom_13 rfl (fun hc => ?_) (fun hc => ?_)
    · have h := h.1 hc
      refine lv_aload_n hx hb d_m_solveFrom_138 rfl (lv_at hl 0 rfl) ?_
      refine mg_M_best hx hb hts hown hK hI (hts _ q_673) d_m_solveFrom_139 ?_
      refine lv_iload_n hx hb d_m_solveFrom_142 rfl (lv_at hl 1 rfl) ?_
      obtain ⟨hi, h⟩ := h
      refine ma_best hx hb hK hI hi d_m_solveFrom_143 ?_
      exact zret_i hx hb hr hlk hK hI h d_m_solveFrom_144
    · have h := h.2 hc
      refine lv_iload_n hx hb d_m_solveFrom_16 rfl (lv_at hl 2 rfl) ?_
      refine lv_bipush (v := 20) hx hb d_m_solveFrom_17 zc_bipush_20 ?_
      refine lv_icmp_ne hx hb d_m_solveFrom_19 rfl (fun hc => ?_) (fun hc => ?_)
      · have h := h.1 hc
        refine lv_aload_n hx hb d_m_solveFrom_27 rfl (lv_at hl 0 rfl) ?_
        refine lv_iload_n hx hb d_m_solveFrom_28 rfl (lv_at hl 2 rfl) ?_
        refine zr_i (va_runV (As := [.int v2]) (rest := []) ⟨hx, hb, hml, hown, hts⟩ (t_m_nextTry l D ad ca h _) (cwV 1 hts (zg_V q_885 q_887 q_35 q_44 q_888) rfl rfl rfl ⟨rfl, hd_m_nextTry⟩ ⟨Nat.le_trans (by decide) hfr, Nat.le_trans (by decide) hlc⟩) (z_preV zNs_ok hK hN hI 0 5 rfl rfl _) rfl rfl hl.1 rfl (lv_room (Nat.le_of_ble_eq_true rfl)) d_m_solveFrom_29 ⟨Nat.zero_le _, Nat.zero_le _⟩) hI ?_
        intro r7 u8 H locs h hI
        exact k_m_solveFrom_32 cx0 ih hI (lv_sub hl [0, 1, 2, 3] rfl) h
      · have h := h.2 hc
        refine lv_bipush (v := 20) hx hb d_m_solveFrom_22 zc_bipush_20 ?_
        refine lv_goto hx hb d_m_solveFrom_24 rfl ?_
        exact k_m_solveFrom_32 cx0 ih hI (lv_sub hl [0, 1, 2, 3] rfl) h
def w_m_solveFrom (v1 : Int32) (u : ZS) (post : Int32 → ZS → Prop) : Prop := w_m_enter v1 (-1 : Int32) 6 u (fun u10 => ∃ n0, b_m_solveFrom_12 post n0 v1 v1 1 u10)
set_option maxRecDepth 100000 in
set_option maxHeartbeats 4000000 in
theorem t_m_solveFrom (l : Launch) (D : va_G) (ad : Nat → Nat) (ca : Nat → ClassId) {v1 : Int32} {u : ZS} {post : Int32 → ZS → Prop} (h : w_m_solveFrom v1 u post) : zI l y_m_solveFrom (Cond.code y_m_solveFrom c_m_solveFrom 6 (some .int) :: zG) { frames := 4, cells := 0, slots := 0, locals := 82 } D (mT ca) zNs (mW ad ca) [.ref (ad 0), .int v1] u post := by
  refine zI_of (cc := c_m_solveFrom) (maxL := 6) (ret := (some .int)) (by decide) (Nat.le_of_ble_eq_true rfl) ?_
  intro p e s m args below meth c ls A cx hI hl
  have cx0 := cx
  obtain ⟨hx, hb, hml, hown, hts, hN, hK, hr, hlk, hfr, hlc⟩ := cx
  have hl : lv_has ls 6 [(0, .ref (ad 0)), (1, .int v1)] := hl
  unfold w_m_solveFrom at h
  refine lv_iload_n hx hb d_m_solveFrom_0 rfl (lv_at hl 1 rfl) ?_
  refine lv_istore_n hx hb d_m_solveFrom_1 rfl hl (by decide) rfl ?_
  intro ls hl
  have hl : lv_has ls 6 [(2, .int v1), (0, .ref (ad 0)), (1, .int v1)] := hl
  refine lv_aload_n hx hb d_m_solveFrom_2 rfl (lv_at hl 1 rfl) ?_
  refine lv_iload_n hx hb d_m_solveFrom_3 rfl (lv_at hl 0 rfl) ?_
  refine lv_iconst (v := (-1)) hx hb d_m_solveFrom_4 zc_iconst_m1 ?_
  refine lv_bipush (v := 6) hx hb d_m_solveFrom_5 zc_bipush_6 ?_
  refine zr_v (va_runV (As := [.int v1, .int (-1 : Int32), .int 6]) (rest := []) ⟨hx, hb, hml, hown, hts⟩ (t_m_enter l D ad ca h _) (cwV 3 hts (zg_V q_877 q_879 q_33 q_44 q_880) rfl rfl rfl ⟨rfl, hd_m_enter⟩ ⟨Nat.le_trans (by decide) hfr, Nat.le_trans (by decide) hlc⟩) (z_preV zNs_ok hK hN hI 0 5 rfl rfl _) rfl rfl hl.1 rfl (lv_room (Nat.le_of_ble_eq_true rfl)) d_m_solveFrom_7 ⟨Nat.zero_le _, Nat.zero_le _⟩) hI ?_
  intro u10 H locs h hI
  refine lv_iconst (v := 1) hx hb d_m_solveFrom_10 zc_iconst_1 ?_
  refine lv_istore_n hx hb d_m_solveFrom_11 rfl hl (by decide) rfl ?_
  intro ls hl
  have hl : lv_has ls 6 [(3, .int 1), (2, .int v1), (0, .ref (ad 0)), (1, .int v1)] := hl
  obtain ⟨n0, h⟩ := h
  exact k_m_solveFrom_12 cx0  n0 _ _ _ _ _ _ _ hI (lv_sub hl [2, 3, 1, 0] rfl) h
def b_m_solve_108  (post : Int32 → ZS → Prop)  (u : ZS) : Prop := ((fI u 0) ≤ 0 → w_m_solveFrom (fI u 5) u (fun r1 u2 => post r1 u2)) ∧ (¬ ((fI u 0) ≤ 0) → post 0 u)
set_option maxRecDepth 100000 in
set_option maxHeartbeats 4000000 in
theorem k_m_solve_108 {p : Program} {l : Launch} {e : Env} {R : Room} {s : State} {m : MethodId} {args : Array Value} {below : List Frame} {meth : Method} {c : Code} {D : va_G} {A : Nat → Prop} {ad : Nat → Nat} {ca : Nat → ClassId}  {post : Int32 → ZS → Prop} (cx : zx p R s m args meth c c_m_solve 5 5 107 "ShortBridgeModel" (some .int) zG zNs D (mT ca)) {u : ZS} {H : Heap} {locs : List Loc} {ls : Array Slot} (hI : zw D A s.heap (mW ad ca u) H locs) (hl : lv_has ls 5 [(0, .ref (ad 0))]) (h : b_m_solve_108 post  u) : W p l e R s m args below meth c H locs 0 0 (MQ below (va_Qi post (zE D (mT ca) (mW ad ca) A) A) args s 0 0 A) (F0 m 108 ls []) := by
  have cx0 := cx
  obtain ⟨hx, hb, hml, hown, hts, hN, hK, hr, hlk, hfr, hlc⟩ := cx
  unfold b_m_solve_108 at h
  refine lv_aload_n hx hb d_m_solve_108 rfl (lv_at hl 0 rfl) ?_
  refine mg_M_code hx hb hts hown hK hI (hts _ q_654) d_m_solve_109 ?_
  refine lv_if_le hx hb d_m_solve_112 rfl (fun hc => ?_) (fun hc => ?_)
  · have h := h.1 hc
    refine lv_aload_n hx hb d_m_solve_117 rfl (lv_at hl 0 rfl) ?_
    refine lv_aload_n hx hb d_m_solve_118 rfl (lv_at hl 0 rfl) ?_
    refine mg_M_cards hx hb hts hown hK hI (hts _ q_663) d_m_solve_119 ?_
    refine zr_i (va_runV (As := [.int (fI u 5)]) (rest := []) ⟨hx, hb, hml, hown, hts⟩ (t_m_solveFrom l D ad ca h _) (cwV 1 hts (zg_V q_873 q_875 q_32 q_44 q_876) rfl rfl rfl ⟨rfl, hd_m_solveFrom⟩ ⟨Nat.le_trans (by decide) hfr, Nat.le_trans (by decide) hlc⟩) (z_preV zNs_ok hK hN hI 0 5 rfl rfl _) rfl rfl hl.1 rfl (lv_room (Nat.le_of_ble_eq_true rfl)) d_m_solve_122 ⟨Nat.zero_le _, Nat.zero_le _⟩) hI ?_
    intro r1 u2 H locs h hI
    exact zret_i hx hb hr hlk hK hI h d_m_solve_125
  · have h := h.2 hc
    refine lv_iconst (v := 0) hx hb d_m_solve_115 zc_iconst_0 ?_
    exact zret_i hx hb hr hlk hK hI h d_m_solve_116
def b_m_solve_105  (post : Int32 → ZS → Prop) (s0 : Int32) (u : ZS) : Prop := b_m_solve_108 post (sI u 0 s0)
set_option maxRecDepth 100000 in
set_option maxHeartbeats 4000000 in
theorem k_m_solve_105 {p : Program} {l : Launch} {e : Env} {R : Room} {s : State} {m : MethodId} {args : Array Value} {below : List Frame} {meth : Method} {c : Code} {D : va_G} {A : Nat → Prop} {ad : Nat → Nat} {ca : Nat → ClassId}  {post : Int32 → ZS → Prop} (cx : zx p R s m args meth c c_m_solve 5 5 107 "ShortBridgeModel" (some .int) zG zNs D (mT ca)) {s0 : Int32} {u : ZS} {H : Heap} {locs : List Loc} {ls : Array Slot} (hI : zw D A s.heap (mW ad ca u) H locs) (hl : lv_has ls 5 [(0, .ref (ad 0))]) (h : b_m_solve_105 post s0 u) : W p l e R s m args below meth c H locs 0 0 (MQ below (va_Qi post (zE D (mT ca) (mW ad ca) A) A) args s 0 0 A) (F0 m 105 ls [.int s0, .ref (ad 0)]) := by
  have cx0 := cx
  obtain ⟨hx, hb, hml, hown, hts, hN, hK, hr, hlk, hfr, hlc⟩ := cx
  unfold b_m_solve_105 at h
  refine mp_M_code hx hb hts hown hK hI (hts _ q_654) d_m_solve_105 ?_
  intro H locs hI
  exact k_m_solve_108 cx0  hI (lv_sub hl [0] rfl) h
def b_m_solve_87 (r32 : Int32 → Int32 → ZS → Prop) (post : Int32 → ZS → Prop) (v2 : Int32) (s0 : Int32) (u : ZS) : Prop := r32 s0 (v2 + 1) u
set_option maxRecDepth 100000 in
set_option maxHeartbeats 4000000 in
theorem k_m_solve_87 {p : Program} {l : Launch} {e : Env} {R : Room} {s : State} {m : MethodId} {args : Array Value} {below : List Frame} {meth : Method} {c : Code} {D : va_G} {A : Nat → Prop} {ad : Nat → Nat} {ca : Nat → ClassId} {r32 : Int32 → Int32 → ZS → Prop} {post : Int32 → ZS → Prop} (cx : zx p R s m args meth c c_m_solve 5 5 107 "ShortBridgeModel" (some .int) zG zNs D (mT ca)) (hk32 : ∀ (v1 : Int32) (v2 : Int32) (u : ZS) (H : Heap) (locs : List Loc) (ls : Array Slot), zw D A s.heap (mW ad ca u) H locs → lv_has ls 5 [(0, .ref (ad 0)), (1, .int v1), (2, .int v2)] → r32 v1 v2 u → W p l e R s m args below meth c H locs 0 0 (MQ below (va_Qi post (zE D (mT ca) (mW ad ca) A) A) args s 0 0 A) (F0 m 32 ls [])) {v2 : Int32} {s0 : Int32} {u : ZS} {H : Heap} {locs : List Loc} {ls : Array Slot} (hI : zw D A s.heap (mW ad ca u) H locs) (hl : lv_has ls 5 [(0, .ref (ad 0)), (2, .int v2)]) (h : b_m_solve_87 r32 post v2 s0 u) : W p l e R s m args below meth c H locs 0 0 (MQ below (va_Qi post (zE D (mT ca) (mW ad ca) A) A) args s 0 0 A) (F0 m 87 ls [.int s0]) := by
  have cx0 := cx
  obtain ⟨hx, hb, hml, hown, hts, hN, hK, hr, hlk, hfr, hlc⟩ := cx
  unfold b_m_solve_87 at h
  refine lv_istore_n hx hb d_m_solve_87 rfl hl (by decide) rfl ?_
  intro ls hl
  have hl : lv_has ls 5 [(1, .int s0), (0, .ref (ad 0)), (2, .int v2)] := hl
  refine lv_iinc (k := 2) (v := (v2 + 1)) hx hb d_m_solve_88 hl rfl (zi_1 _) (by decide) rfl ?_
  intro ls hl
  have hl : lv_has ls 5 [(2, .int (v2 + 1)), (1, .int s0), (0, .ref (ad 0))] := hl
  refine lv_goto hx hb d_m_solve_91 rfl ?_
  exact hk32 _ _ _ _ _ _ hI (lv_sub hl [2, 1, 0] rfl) h
def b_m_solve_70 (r32 : Int32 → Int32 → ZS → Prop) (r42 : Int32 → Int32 → Int32 → Int32 → ZS → Prop) (post : Int32 → ZS → Prop) (v1 : Int32) (v2 : Int32) (v4 : Int32) (s0 : Int32) (u : ZS) : Prop := r42 v1 v2 s0 (v4 + 1) u
set_option maxRecDepth 100000 in
set_option maxHeartbeats 4000000 in
theorem k_m_solve_70 {p : Program} {l : Launch} {e : Env} {R : Room} {s : State} {m : MethodId} {args : Array Value} {below : List Frame} {meth : Method} {c : Code} {D : va_G} {A : Nat → Prop} {ad : Nat → Nat} {ca : Nat → ClassId} {r32 : Int32 → Int32 → ZS → Prop} {r42 : Int32 → Int32 → Int32 → Int32 → ZS → Prop} {post : Int32 → ZS → Prop} (cx : zx p R s m args meth c c_m_solve 5 5 107 "ShortBridgeModel" (some .int) zG zNs D (mT ca)) (hk32 : ∀ (v1 : Int32) (v2 : Int32) (u : ZS) (H : Heap) (locs : List Loc) (ls : Array Slot), zw D A s.heap (mW ad ca u) H locs → lv_has ls 5 [(0, .ref (ad 0)), (1, .int v1), (2, .int v2)] → r32 v1 v2 u → W p l e R s m args below meth c H locs 0 0 (MQ below (va_Qi post (zE D (mT ca) (mW ad ca) A) A) args s 0 0 A) (F0 m 32 ls [])) (hk42 : ∀ (v1 : Int32) (v2 : Int32) (v3 : Int32) (v4 : Int32) (u : ZS) (H : Heap) (locs : List Loc) (ls : Array Slot), zw D A s.heap (mW ad ca u) H locs → lv_has ls 5 [(0, .ref (ad 0)), (1, .int v1), (2, .int v2), (3, .int v3), (4, .int v4)] → r42 v1 v2 v3 v4 u → W p l e R s m args below meth c H locs 0 0 (MQ below (va_Qi post (zE D (mT ca) (mW ad ca) A) A) args s 0 0 A) (F0 m 42 ls [])) {v1 : Int32} {v2 : Int32} {v4 : Int32} {s0 : Int32} {u : ZS} {H : Heap} {locs : List Loc} {ls : Array Slot} (hI : zw D A s.heap (mW ad ca u) H locs) (hl : lv_has ls 5 [(0, .ref (ad 0)), (1, .int v1), (2, .int v2), (4, .int v4)]) (h : b_m_solve_70 r32 r42 post v1 v2 v4 s0 u) : W p l e R s m args below meth c H locs 0 0 (MQ below (va_Qi post (zE D (mT ca) (mW ad ca) A) A) args s 0 0 A) (F0 m 70 ls [.int s0]) := by
  have cx0 := cx
  obtain ⟨hx, hb, hml, hown, hts, hN, hK, hr, hlk, hfr, hlc⟩ := cx
  unfold b_m_solve_70 at h
  refine lv_istore_n hx hb d_m_solve_70 rfl hl (by decide) rfl ?_
  intro ls hl
  have hl : lv_has ls 5 [(3, .int s0), (0, .ref (ad 0)), (1, .int v1), (2, .int v2), (4, .int v4)] := hl
  refine lv_iinc (k := 4) (v := (v4 + 1)) hx hb d_m_solve_71 hl rfl (zi_1 _) (by decide) rfl ?_
  intro ls hl
  have hl : lv_has ls 5 [(4, .int (v4 + 1)), (3, .int s0), (0, .ref (ad 0)), (1, .int v1), (2, .int v2)] := hl
  refine lv_goto hx hb d_m_solve_74 rfl ?_
  exact hk42 _ _ _ _ _ _ _ _ hI (lv_sub hl [2, 3, 4, 1, 0] rfl) h
def b_m_solve_42 (r32 : Int32 → Int32 → ZS → Prop) (post : Int32 → ZS → Prop) : Nat → Int32 → Int32 → Int32 → Int32 → ZS → Prop
  | 0, _, _, _, _, _ => False
  | n + 1, v1, v2, v3, v4, u => (20 ≤ v4 → (v3 ≤ v1 → b_m_solve_87 r32 post v2 v1 u) ∧ (¬ (v3 ≤ v1) → b_m_solve_87 r32 post v2 v3 u)) ∧ (¬ (20 ≤ v4) → w_m_holds v2 v4 (fI u 5) u (fun r3 u4 => (r3 = 0 → b_m_solve_70 r32 (b_m_solve_42 r32 post n) post v1 v2 v4 v3 u4) ∧ (¬ (r3 = 0) → b_m_solve_70 r32 (b_m_solve_42 r32 post n) post v1 v2 v4 (v3 + 1) u4)))
set_option maxRecDepth 100000 in
set_option maxHeartbeats 4000000 in
theorem k_m_solve_42 {p : Program} {l : Launch} {e : Env} {R : Room} {s : State} {m : MethodId} {args : Array Value} {below : List Frame} {meth : Method} {c : Code} {D : va_G} {A : Nat → Prop} {ad : Nat → Nat} {ca : Nat → ClassId} {r32 : Int32 → Int32 → ZS → Prop} {post : Int32 → ZS → Prop} (cx : zx p R s m args meth c c_m_solve 5 5 107 "ShortBridgeModel" (some .int) zG zNs D (mT ca)) (hk32 : ∀ (v1 : Int32) (v2 : Int32) (u : ZS) (H : Heap) (locs : List Loc) (ls : Array Slot), zw D A s.heap (mW ad ca u) H locs → lv_has ls 5 [(0, .ref (ad 0)), (1, .int v1), (2, .int v2)] → r32 v1 v2 u → W p l e R s m args below meth c H locs 0 0 (MQ below (va_Qi post (zE D (mT ca) (mW ad ca) A) A) args s 0 0 A) (F0 m 32 ls [])) : ∀ (n : Nat) (v1 : Int32) (v2 : Int32) (v3 : Int32) (v4 : Int32) (u : ZS) (H : Heap) (locs : List Loc) (ls : Array Slot), zw D A s.heap (mW ad ca u) H locs → lv_has ls 5 [(0, .ref (ad 0)), (1, .int v1), (2, .int v2), (3, .int v3), (4, .int v4)] → b_m_solve_42 r32 post n v1 v2 v3 v4 u → W p l e R s m args below meth c H locs 0 0 (MQ below (va_Qi post (zE D (mT ca) (mW ad ca) A) A) args s 0 0 A) (F0 m 42 ls []) := by
  have cx0 := cx
  obtain ⟨hx, hb, hml, hown, hts, hN, hK, hr, hlk, hfr, hlc⟩ := cx
  intro n
  induction n with
  | zero => intro v1 v2 v3 v4 u H locs ls hI hl h; exact (h : False).elim
  | succ n ih =>
    intro v1 v2 v3 v4 u H locs ls hI hl h
    unfold b_m_solve_42 at h
    refine lv_iload hx hb d_m_solve_42 (lv_at hl 4 rfl) ?_
    refine lv_bipush (v := 20) hx hb d_m_solve_44 zc_bipush_20 ?_
    refine lv_icmp_ge hx hb d_m_solve_46 rfl (fun hc => ?_) (fun hc => ?_)
    · have h := h.1 hc
      refine lv_iload_n hx hb d_m_solve_77 rfl (lv_at hl 3 rfl) ?_
      refine lv_iload_n hx hb d_m_solve_78 rfl (lv_at hl 1 rfl) ?_
      refine lv_icmp_le hx hb d_m_solve_79 rfl (fun hc => ?_) (fun hc => ?_)
      · have h := h.1 hc
        refine lv_iload_n hx hb d_m_solve_86 rfl (lv_at hl 1 rfl) ?_
        exact k_m_solve_87 cx0 hk32 hI (lv_sub hl [0, 2] rfl) h
      · have h := h.2 hc
        refine lv_iload_n hx hb d_m_solve_82 rfl (lv_at hl 3 rfl) ?_
        refine lv_goto hx hb d_m_solve_83 rfl ?_
        exact k_m_solve_87 cx0 hk32 hI (lv_sub hl [0, 2] rfl) h
    · have h := h.2 hc
      refine lv_aload_n hx hb d_m_solve_49 rfl (lv_at hl 0 rfl) ?_
      refine lv_iload_n hx hb d_m_solve_50 rfl (lv_at hl 2 rfl) ?_
      refine lv_iload hx hb d_m_solve_51 (lv_at hl 4 rfl) ?_
      refine lv_aload_n hx hb d_m_solve_53 rfl (lv_at hl 0 rfl) ?_
      refine mg_M_cards hx hb hts hown hK hI (hts _ q_663) d_m_solve_54 ?_
      refine zr_i (va_runV (As := [.int v2, .int v4, .int (fI u 5)]) (rest := []) ⟨hx, hb, hml, hown, hts⟩ (t_m_holds l D ad ca h _) (cwV 3 hts (zg_V q_834 q_836 q_29 q_44 q_837) rfl rfl rfl ⟨rfl, hd_m_holds⟩ ⟨Nat.le_trans (by decide) hfr, Nat.le_trans (by decide) hlc⟩) (z_preV zNs_ok hK hN hI 0 5 rfl rfl _) rfl rfl hl.1 rfl (lv_room (Nat.le_of_ble_eq_true rfl)) d_m_solve_57 ⟨Nat.zero_le _, Nat.zero_le _⟩) hI ?_
      intro r3 u4 H locs h hI
      refine lv_if_eq hx hb d_m_solve_60 rfl (fun hc => ?_) (fun hc => ?_)
      · have h := h.1 hc
        refine lv_iload_n hx hb d_m_solve_69 rfl (lv_at hl 3 rfl) ?_
        exact k_m_solve_70 cx0 hk32 ih hI (lv_sub hl [0, 1, 2, 4] rfl) h
      · have h := h.2 hc
        refine lv_iload_n hx hb d_m_solve_63 rfl (lv_at hl 3 rfl) ?_
        refine lv_iconst (v := 1) hx hb d_m_solve_64 zc_iconst_1 ?_
        refine lv_iadd hx hb d_m_solve_65 ?_
        refine lv_goto hx hb d_m_solve_66 rfl ?_
        exact k_m_solve_70 cx0 hk32 ih hI (lv_sub hl [0, 1, 2, 4] rfl) h
def b_m_solve_32  (post : Int32 → ZS → Prop) : Nat → Int32 → Int32 → ZS → Prop
  | 0, _, _, _ => False
  | n + 1, v1, v2, u => (4 ≤ v2 → (¬ v1 = 5 → b_m_solve_105 post 0 u) ∧ (v1 = 5 → b_m_solve_105 post 2 u)) ∧ (¬ (4 ≤ v2) → ∃ n0, b_m_solve_42 (b_m_solve_32 post n) post n0 v1 v2 0 0 u)
set_option maxRecDepth 100000 in
set_option maxHeartbeats 4000000 in
theorem k_m_solve_32 {p : Program} {l : Launch} {e : Env} {R : Room} {s : State} {m : MethodId} {args : Array Value} {below : List Frame} {meth : Method} {c : Code} {D : va_G} {A : Nat → Prop} {ad : Nat → Nat} {ca : Nat → ClassId}  {post : Int32 → ZS → Prop} (cx : zx p R s m args meth c c_m_solve 5 5 107 "ShortBridgeModel" (some .int) zG zNs D (mT ca)) : ∀ (n : Nat) (v1 : Int32) (v2 : Int32) (u : ZS) (H : Heap) (locs : List Loc) (ls : Array Slot), zw D A s.heap (mW ad ca u) H locs → lv_has ls 5 [(0, .ref (ad 0)), (1, .int v1), (2, .int v2)] → b_m_solve_32 post n v1 v2 u → W p l e R s m args below meth c H locs 0 0 (MQ below (va_Qi post (zE D (mT ca) (mW ad ca) A) A) args s 0 0 A) (F0 m 32 ls []) := by
  have cx0 := cx
  obtain ⟨hx, hb, hml, hown, hts, hN, hK, hr, hlk, hfr, hlc⟩ := cx
  intro n
  induction n with
  | zero => intro v1 v2 u H locs ls hI hl h; exact (h : False).elim
  | succ n ih =>
    intro v1 v2 u H locs ls hI hl h
    unfold b_m_solve_32 at h
    refine lv_iload_n hx hb d_m_solve_32 rfl (lv_at hl 2 rfl) ?_
    refine lv_iconst (v := 4) hx hb d_m_solve_33 zc_iconst_4 ?_
    refine lv_icmp_ge hx hb d_m_solve_34 rfl (fun hc => ?_) (fun hc => ?_)
    · have h := h.1 hc
      refine lv_aload_n hx hb d_m_solve_94 rfl (lv_at hl 0 rfl) ?_
      refine lv_iload_n hx hb d_m_solve_95 rfl (lv_at hl 1 rfl) ?_
      refine lv_iconst (v := 5) hx hb d_m_solve_96 zc_iconst_5 ?_
      refine lv_icmp_ne hx hb d_m_solve_97 rfl (fun hc => ?_) (fun hc => ?_)
      · have h := h.1 hc
        refine lv_iconst (v := 0) hx hb d_m_solve_104 zc_iconst_0 ?_
        exact k_m_solve_105 cx0  hI (lv_sub hl [0] rfl) h
      · have h := h.2 hc
        refine lv_iconst (v := 2) hx hb d_m_solve_100 zc_iconst_2 ?_
        refine lv_goto hx hb d_m_solve_101 rfl ?_
        exact k_m_solve_105 cx0  hI (lv_sub hl [0] rfl) h
    · have h := h.2 hc
      refine lv_iconst (v := 0) hx hb d_m_solve_37 zc_iconst_0 ?_
      refine lv_istore_n hx hb d_m_solve_38 rfl hl (by decide) rfl ?_
      intro ls hl
      have hl : lv_has ls 5 [(3, .int 0), (0, .ref (ad 0)), (1, .int v1), (2, .int v2)] := hl
      refine lv_iconst (v := 0) hx hb d_m_solve_39 zc_iconst_0 ?_
      refine lv_istore hx hb d_m_solve_40 hl (by decide) rfl ?_
      intro ls hl
      have hl : lv_has ls 5 [(4, .int 0), (3, .int 0), (0, .ref (ad 0)), (1, .int v1), (2, .int v2)] := hl
      obtain ⟨n0, h⟩ := h
      exact k_m_solve_42 cx0 ih n0 _ _ _ _ _ _ _ _ hI (lv_sub hl [2, 3, 4, 1, 0] rfl) h
def b_m_solve_14  (post : Int32 → ZS → Prop) (s0 : Int32) (u : ZS) : Prop := w_m_readCards  (sI u 0 s0) (fun u6 => (¬ (fI u6 0) = 0 → b_m_solve_108 post u6) ∧ ((fI u6 0) = 0 → ∃ n0, b_m_solve_32 post n0 0 0 u6))
set_option maxRecDepth 100000 in
set_option maxHeartbeats 4000000 in
theorem k_m_solve_14 {p : Program} {l : Launch} {e : Env} {R : Room} {s : State} {m : MethodId} {args : Array Value} {below : List Frame} {meth : Method} {c : Code} {D : va_G} {A : Nat → Prop} {ad : Nat → Nat} {ca : Nat → ClassId}  {post : Int32 → ZS → Prop} (cx : zx p R s m args meth c c_m_solve 5 5 107 "ShortBridgeModel" (some .int) zG zNs D (mT ca)) {s0 : Int32} {u : ZS} {H : Heap} {locs : List Loc} {ls : Array Slot} (hI : zw D A s.heap (mW ad ca u) H locs) (hl : lv_has ls 5 [(0, .ref (ad 0))]) (h : b_m_solve_14 post s0 u) : W p l e R s m args below meth c H locs 0 0 (MQ below (va_Qi post (zE D (mT ca) (mW ad ca) A) A) args s 0 0 A) (F0 m 14 ls [.int s0, .ref (ad 0)]) := by
  have cx0 := cx
  obtain ⟨hx, hb, hml, hown, hts, hN, hK, hr, hlk, hfr, hlc⟩ := cx
  unfold b_m_solve_14 at h
  refine mp_M_code hx hb hts hown hK hI (hts _ q_654) d_m_solve_14 ?_
  intro H locs hI
  refine lv_aload_n hx hb d_m_solve_17 rfl (lv_at hl 0 rfl) ?_
  refine zr_v (va_runV (As := []) (rest := []) ⟨hx, hb, hml, hown, hts⟩ (t_m_readCards l D ad ca h _) (cwV 0 hts (zg_V q_814 q_816 q_25 q_44 q_817) rfl rfl rfl ⟨rfl, hd_m_readCards⟩ ⟨Nat.le_trans (by decide) hfr, Nat.le_trans (by decide) hlc⟩) (z_preV zNs_ok hK hN hI 0 5 rfl rfl _) rfl rfl hl.1 rfl (lv_room (Nat.le_of_ble_eq_true rfl)) d_m_solve_18 ⟨Nat.zero_le _, Nat.zero_le _⟩) hI ?_
  intro u6 H locs h hI
  refine lv_aload_n hx hb d_m_solve_21 rfl (lv_at hl 0 rfl) ?_
  refine mg_M_code hx hb hts hown hK hI (hts _ q_654) d_m_solve_22 ?_
  refine lv_if_ne hx hb d_m_solve_25 rfl (fun hc => ?_) (fun hc => ?_)
  · have h := h.1 hc
    exact k_m_solve_108 cx0  hI (lv_sub hl [0] rfl) h
  · have h := h.2 hc
    refine lv_iconst (v := 0) hx hb d_m_solve_28 zc_iconst_0 ?_
    refine lv_istore_n hx hb d_m_solve_29 rfl hl (by decide) rfl ?_
    intro ls hl
    have hl : lv_has ls 5 [(1, .int 0), (0, .ref (ad 0))] := hl
    refine lv_iconst (v := 0) hx hb d_m_solve_30 zc_iconst_0 ?_
    refine lv_istore_n hx hb d_m_solve_31 rfl hl (by decide) rfl ?_
    intro ls hl
    have hl : lv_has ls 5 [(2, .int 0), (1, .int 0), (0, .ref (ad 0))] := hl
    obtain ⟨n0, h⟩ := h
    exact k_m_solve_32 cx0  n0 _ _ _ _ _ _ hI (lv_sub hl [2, 1, 0] rfl) h
def w_m_solve  (u : ZS) (post : Int32 → ZS → Prop) : Prop := w_m_phaseNow  u (fun r7 u8 => (¬ r7 = 2 → b_m_solve_14 post 1 u8) ∧ (r7 = 2 → b_m_solve_14 post 0 u8))
set_option maxRecDepth 100000 in
set_option maxHeartbeats 4000000 in
theorem t_m_solve (l : Launch) (D : va_G) (ad : Nat → Nat) (ca : Nat → ClassId)  {u : ZS} {post : Int32 → ZS → Prop} (h : w_m_solve  u post) : zI l y_m_solve (Cond.code y_m_solve c_m_solve 5 (some .int) :: zG) { frames := 5, cells := 0, slots := 0, locals := 107 } D (mT ca) zNs (mW ad ca) [.ref (ad 0)] u post := by
  refine zI_of (cc := c_m_solve) (maxL := 5) (ret := (some .int)) (by decide) (Nat.le_of_ble_eq_true rfl) ?_
  intro p e s m args below meth c ls A cx hI hl
  have cx0 := cx
  obtain ⟨hx, hb, hml, hown, hts, hN, hK, hr, hlk, hfr, hlc⟩ := cx
  have hl : lv_has ls 5 [(0, .ref (ad 0))] := hl
  unfold w_m_solve at h
  refine lv_aload_n hx hb d_m_solve_0 rfl (lv_at hl 0 rfl) ?_
  refine lv_aload_n hx hb d_m_solve_1 rfl (lv_at hl 0 rfl) ?_
  refine zr_i (va_runV (As := []) (rest := [.ref (ad 0)]) ⟨hx, hb, hml, hown, hts⟩ (t_m_phaseNow l D ad ca h _) (cwV 0 hts (zg_V q_778 q_780 q_19 q_44 q_781) rfl rfl rfl ⟨rfl, hd_m_phaseNow⟩ ⟨Nat.le_trans (by decide) hfr, Nat.le_trans (by decide) hlc⟩) (z_preV zNs_ok hK hN hI 0 5 rfl rfl _) rfl rfl hl.1 rfl (lv_room (Nat.le_of_ble_eq_true rfl)) d_m_solve_2 ⟨Nat.zero_le _, Nat.zero_le _⟩) hI ?_
  intro r7 u8 H locs h hI
  refine lv_iconst (v := 2) hx hb d_m_solve_5 zc_iconst_2 ?_
  refine lv_icmp_ne hx hb d_m_solve_6 rfl (fun hc => ?_) (fun hc => ?_)
  · have h := h.1 hc
    refine lv_iconst (v := 1) hx hb d_m_solve_13 zc_iconst_1 ?_
    exact k_m_solve_14 cx0  hI (lv_sub hl [0] rfl) h
  · have h := h.2 hc
    refine lv_iconst (v := 0) hx hb d_m_solve_9 zc_iconst_0 ?_
    refine lv_goto hx hb d_m_solve_10 rfl ?_
    exact k_m_solve_14 cx0  hI (lv_sub hl [0] rfl) h
def b_m_record_27  (post : Int32 → ZS → Prop) (s0 : Int32) (u : ZS) : Prop := ((fI (sI u 0 s0) 0) ≤ 0 → w_m_scoreNow  (sI u 0 s0) (fun r1 u2 => vp_in (fI (sI u 0 s0) 10) 12 ∧ (vp_in (fI (pI u2 10 (Int32.toNatClampNeg (fI (sI u 0 s0) 10)) r1) 10) 12 ∧ (post (fI (sI (pJ (pI u2 10 (Int32.toNatClampNeg (fI (sI u 0 s0) 10)) r1) 1 (Int32.toNatClampNeg (fI (pI u2 10 (Int32.toNatClampNeg (fI (sI u 0 s0) 10)) r1) 10)) (fJ (pI u2 10 (Int32.toNatClampNeg (fI (sI u 0 s0) 10)) r1) 0)) 10 ((fI (pJ (pI u2 10 (Int32.toNatClampNeg (fI (sI u 0 s0) 10)) r1) 1 (Int32.toNatClampNeg (fI (pI u2 10 (Int32.toNatClampNeg (fI (sI u 0 s0) 10)) r1) 10)) (fJ (pI u2 10 (Int32.toNatClampNeg (fI (sI u 0 s0) 10)) r1) 0)) 10) + 1)) 10) (sI (pJ (pI u2 10 (Int32.toNatClampNeg (fI (sI u 0 s0) 10)) r1) 1 (Int32.toNatClampNeg (fI (pI u2 10 (Int32.toNatClampNeg (fI (sI u 0 s0) 10)) r1) 10)) (fJ (pI u2 10 (Int32.toNatClampNeg (fI (sI u 0 s0) 10)) r1) 0)) 10 ((fI (pJ (pI u2 10 (Int32.toNatClampNeg (fI (sI u 0 s0) 10)) r1) 1 (Int32.toNatClampNeg (fI (pI u2 10 (Int32.toNatClampNeg (fI (sI u 0 s0) 10)) r1) 10)) (fJ (pI u2 10 (Int32.toNatClampNeg (fI (sI u 0 s0) 10)) r1) 0)) 10) + 1)))))) ∧ (¬ ((fI (sI u 0 s0) 0) ≤ 0) → post 0 (sI u 0 s0))
set_option maxRecDepth 100000 in
set_option maxHeartbeats 4000000 in
theorem k_m_record_27 {p : Program} {l : Launch} {e : Env} {R : Room} {s : State} {m : MethodId} {args : Array Value} {below : List Frame} {meth : Method} {c : Code} {D : va_G} {A : Nat → Prop} {ad : Nat → Nat} {ca : Nat → ClassId}  {post : Int32 → ZS → Prop} (cx : zx p R s m args meth c c_m_record 1 6 128 "ShortBridgeModel" (some .int) zG zNs D (mT ca)) {s0 : Int32} {u : ZS} {H : Heap} {locs : List Loc} {ls : Array Slot} (hI : zw D A s.heap (mW ad ca u) H locs) (hl : lv_has ls 1 [(0, .ref (ad 0))]) (h : b_m_record_27 post s0 u) : W p l e R s m args below meth c H locs 0 0 (MQ below (va_Qi post (zE D (mT ca) (mW ad ca) A) A) args s 0 0 A) (F0 m 27 ls [.int s0, .ref (ad 0)]) := by
  have cx0 := cx
  obtain ⟨hx, hb, hml, hown, hts, hN, hK, hr, hlk, hfr, hlc⟩ := cx
  unfold b_m_record_27 at h
  refine mp_M_code hx hb hts hown hK hI (hts _ q_654) d_m_record_27 ?_
  intro H locs hI
  refine lv_aload_n hx hb d_m_record_30 rfl (lv_at hl 0 rfl) ?_
  refine mg_M_code hx hb hts hown hK hI (hts _ q_654) d_m_record_31 ?_
  refine lv_if_le hx hb d_m_record_34 rfl (fun hc => ?_) (fun hc => ?_)
  · have h := h.1 hc
    refine lv_aload_n hx hb d_m_record_39 rfl (lv_at hl 0 rfl) ?_
    refine mg_M_scores hx hb hts hown hK hI (hts _ q_677) d_m_record_40 ?_
    refine lv_aload_n hx hb d_m_record_43 rfl (lv_at hl 0 rfl) ?_
    refine mg_M_results hx hb hts hown hK hI (hts _ q_676) d_m_record_44 ?_
    refine lv_aload_n hx hb d_m_record_47 rfl (lv_at hl 0 rfl) ?_
    refine zr_i (va_runV (As := []) (rest := [.int (fI (sI u 0 s0) 10), .ref (ad 12)]) ⟨hx, hb, hml, hown, hts⟩ (t_m_scoreNow l D ad ca h _) (cwV 0 hts (zg_V q_862 q_864 q_31 q_44 q_865) rfl rfl rfl ⟨rfl, hd_m_scoreNow⟩ ⟨Nat.le_trans (by decide) hfr, Nat.le_trans (by decide) hlc⟩) (z_preV zNs_ok hK hN hI 0 5 rfl rfl _) rfl rfl hl.1 rfl (lv_room (Nat.le_of_ble_eq_true rfl)) d_m_record_48 ⟨Nat.zero_le _, Nat.zero_le _⟩) hI ?_
    intro r1 u2 H locs h hI
    obtain ⟨hi, h⟩ := h
    refine ms_scores hx hb hK hI hi d_m_record_51 ?_
    intro H locs hI
    refine lv_aload_n hx hb d_m_record_52 rfl (lv_at hl 0 rfl) ?_
    refine mg_M_numbers hx hb hts hown hK hI (hts _ q_678) d_m_record_53 ?_
    refine lv_aload_n hx hb d_m_record_56 rfl (lv_at hl 0 rfl) ?_
    refine mg_M_results hx hb hts hown hK hI (hts _ q_676) d_m_record_57 ?_
    refine lv_aload_n hx hb d_m_record_60 rfl (lv_at hl 0 rfl) ?_
    refine mg_M_dealNumber hx hb hts hown hK hI (hts _ q_656) d_m_record_61 ?_
    obtain ⟨hi, h⟩ := h
    refine ms_numbers hx hb hK hI hi d_m_record_64 ?_
    intro H locs hI
    refine lv_aload_n hx hb d_m_record_65 rfl (lv_at hl 0 rfl) ?_
    refine lv_aload_n hx hb d_m_record_66 rfl (lv_at hl 0 rfl) ?_
    refine mg_M_results hx hb hts hown hK hI (hts _ q_676) d_m_record_67 ?_
    refine lv_iconst (v := 1) hx hb d_m_record_70 zc_iconst_1 ?_
    refine lv_iadd hx hb d_m_record_71 ?_
    refine mp_M_results hx hb hts hown hK hI (hts _ q_676) d_m_record_72 ?_
    intro H locs hI
    refine lv_aload_n hx hb d_m_record_75 rfl (lv_at hl 0 rfl) ?_
    refine mg_M_results hx hb hts hown hK hI (hts _ q_676) d_m_record_76 ?_
    exact zret_i hx hb hr hlk hK hI h d_m_record_79
  · have h := h.2 hc
    refine lv_iconst (v := 0) hx hb d_m_record_37 zc_iconst_0 ?_
    exact zret_i hx hb hr hlk hK hI h d_m_record_38
def w_m_record  (u : ZS) (post : Int32 → ZS → Prop) : Prop := w_m_phaseNow  u (fun r3 u4 => (r3 = 3 → (¬ (fI u4 10) = 12 → b_m_record_27 post 0 u4) ∧ ((fI u4 10) = 12 → b_m_record_27 post 2 u4)) ∧ (¬ (r3 = 3) → b_m_record_27 post 1 u4))
set_option maxRecDepth 100000 in
set_option maxHeartbeats 4000000 in
theorem t_m_record (l : Launch) (D : va_G) (ad : Nat → Nat) (ca : Nat → ClassId)  {u : ZS} {post : Int32 → ZS → Prop} (h : w_m_record  u post) : zI l y_m_record (Cond.code y_m_record c_m_record 1 (some .int) :: zG) { frames := 6, cells := 0, slots := 0, locals := 128 } D (mT ca) zNs (mW ad ca) [.ref (ad 0)] u post := by
  refine zI_of (cc := c_m_record) (maxL := 1) (ret := (some .int)) (by decide) (Nat.le_of_ble_eq_true rfl) ?_
  intro p e s m args below meth c ls A cx hI hl
  have cx0 := cx
  obtain ⟨hx, hb, hml, hown, hts, hN, hK, hr, hlk, hfr, hlc⟩ := cx
  have hl : lv_has ls 1 [(0, .ref (ad 0))] := hl
  unfold w_m_record at h
  refine lv_aload_n hx hb d_m_record_0 rfl (lv_at hl 0 rfl) ?_
  refine lv_aload_n hx hb d_m_record_1 rfl (lv_at hl 0 rfl) ?_
  refine zr_i (va_runV (As := []) (rest := [.ref (ad 0)]) ⟨hx, hb, hml, hown, hts⟩ (t_m_phaseNow l D ad ca h _) (cwV 0 hts (zg_V q_778 q_780 q_19 q_44 q_781) rfl rfl rfl ⟨rfl, hd_m_phaseNow⟩ ⟨Nat.le_trans (by decide) hfr, Nat.le_trans (by decide) hlc⟩) (z_preV zNs_ok hK hN hI 0 5 rfl rfl _) rfl rfl hl.1 rfl (lv_room (Nat.le_of_ble_eq_true rfl)) d_m_record_2 ⟨Nat.zero_le _, Nat.zero_le _⟩) hI ?_
  intro r3 u4 H locs h hI
  refine lv_iconst (v := 3) hx hb d_m_record_5 zc_iconst_3 ?_
  refine lv_icmp_eq hx hb d_m_record_6 rfl (fun hc => ?_) (fun hc => ?_)
  · have h := h.1 hc
    refine lv_aload_n hx hb d_m_record_13 rfl (lv_at hl 0 rfl) ?_
    refine mg_M_results hx hb hts hown hK hI (hts _ q_676) d_m_record_14 ?_
    refine lv_bipush (v := 12) hx hb d_m_record_17 zc_bipush_12 ?_
    refine lv_icmp_ne hx hb d_m_record_19 rfl (fun hc => ?_) (fun hc => ?_)
    · have h := h.1 hc
      refine lv_iconst (v := 0) hx hb d_m_record_26 zc_iconst_0 ?_
      exact k_m_record_27 cx0  hI (lv_sub hl [0] rfl) h
    · have h := h.2 hc
      refine lv_iconst (v := 2) hx hb d_m_record_22 zc_iconst_2 ?_
      refine lv_goto hx hb d_m_record_23 rfl ?_
      exact k_m_record_27 cx0  hI (lv_sub hl [0] rfl) h
  · have h := h.2 hc
    refine lv_iconst (v := 1) hx hb d_m_record_9 zc_iconst_1 ?_
    refine lv_goto hx hb d_m_record_10 rfl ?_
    exact k_m_record_27 cx0  hI (lv_sub hl [0] rfl) h
def b_m_isResult_17  (post : Int32 → ZS → Prop) (s0 : Int32) (u : ZS) : Prop := (s0 = 0 ∨ s0 = 1) ∧ post s0 u
set_option maxRecDepth 100000 in
set_option maxHeartbeats 4000000 in
theorem k_m_isResult_17 {p : Program} {l : Launch} {e : Env} {R : Room} {s : State} {m : MethodId} {args : Array Value} {below : List Frame} {meth : Method} {c : Code} {D : va_G} {A : Nat → Prop} {ad : Nat → Nat} {ca : Nat → ClassId}  {post : Int32 → ZS → Prop} (cx : zx p R s m args meth c c_m_isResult 2 1 12 "ShortBridgeModel" (some .boolean) zG zNs D (mT ca)) {s0 : Int32} {u : ZS} {H : Heap} {locs : List Loc} {ls : Array Slot} (hI : zw D A s.heap (mW ad ca u) H locs) (hl : lv_has ls 2 []) (h : b_m_isResult_17 post s0 u) : W p l e R s m args below meth c H locs 0 0 (MQ below (va_Qi post (zE D (mT ca) (mW ad ca) A) A) args s 0 0 A) (F0 m 17 ls [.int s0]) := by
  have cx0 := cx
  obtain ⟨hx, hb, hml, hown, hts, hN, hK, hr, hlk, hfr, hlc⟩ := cx
  unfold b_m_isResult_17 at h
  exact zret_z hx hb hr hlk hK hI h.1 h.2 d_m_isResult_17
def b_m_isResult_16  (post : Int32 → ZS → Prop)  (u : ZS) : Prop := b_m_isResult_17 post 0 u
set_option maxRecDepth 100000 in
set_option maxHeartbeats 4000000 in
theorem k_m_isResult_16 {p : Program} {l : Launch} {e : Env} {R : Room} {s : State} {m : MethodId} {args : Array Value} {below : List Frame} {meth : Method} {c : Code} {D : va_G} {A : Nat → Prop} {ad : Nat → Nat} {ca : Nat → ClassId}  {post : Int32 → ZS → Prop} (cx : zx p R s m args meth c c_m_isResult 2 1 12 "ShortBridgeModel" (some .boolean) zG zNs D (mT ca)) {u : ZS} {H : Heap} {locs : List Loc} {ls : Array Slot} (hI : zw D A s.heap (mW ad ca u) H locs) (hl : lv_has ls 2 []) (h : b_m_isResult_16 post  u) : W p l e R s m args below meth c H locs 0 0 (MQ below (va_Qi post (zE D (mT ca) (mW ad ca) A) A) args s 0 0 A) (F0 m 16 ls []) := by
  have cx0 := cx
  obtain ⟨hx, hb, hml, hown, hts, hN, hK, hr, hlk, hfr, hlc⟩ := cx
  unfold b_m_isResult_16 at h
  refine lv_iconst (v := 0) hx hb d_m_isResult_16 zc_iconst_0 ?_
  exact k_m_isResult_17 cx0  hI (lv_sub hl [] rfl) h
def w_m_isResult (v1 : Int32) (u : ZS) (post : Int32 → ZS → Prop) : Prop := (v1 < 0 → b_m_isResult_16 post u) ∧ (¬ (v1 < 0) → ((fI u 10) ≤ v1 → b_m_isResult_16 post u) ∧ (¬ ((fI u 10) ≤ v1) → b_m_isResult_17 post 1 u))
set_option maxRecDepth 100000 in
set_option maxHeartbeats 4000000 in
theorem t_m_isResult (l : Launch) (D : va_G) (ad : Nat → Nat) (ca : Nat → ClassId) {v1 : Int32} {u : ZS} {post : Int32 → ZS → Prop} (h : w_m_isResult v1 u post) : zI l y_m_isResult (Cond.code y_m_isResult c_m_isResult 2 (some .boolean) :: zG) { frames := 1, cells := 0, slots := 0, locals := 12 } D (mT ca) zNs (mW ad ca) [.ref (ad 0), .int v1] u post := by
  refine zI_of (cc := c_m_isResult) (maxL := 2) (ret := (some .boolean)) (by decide) (Nat.le_of_ble_eq_true rfl) ?_
  intro p e s m args below meth c ls A cx hI hl
  have cx0 := cx
  obtain ⟨hx, hb, hml, hown, hts, hN, hK, hr, hlk, hfr, hlc⟩ := cx
  have hl : lv_has ls 2 [(0, .ref (ad 0)), (1, .int v1)] := hl
  unfold w_m_isResult at h
  refine lv_iload_n hx hb d_m_isResult_0 rfl (lv_at hl 1 rfl) ?_
  refine lv_if_lt hx hb d_m_isResult_1 rfl (fun hc => ?_) (fun hc => ?_)
  · have h := h.1 hc
    exact k_m_isResult_16 cx0  hI (lv_sub hl [] rfl) h
  · have h := h.2 hc
    refine lv_iload_n hx hb d_m_isResult_4 rfl (lv_at hl 1 rfl) ?_
    refine lv_aload_n hx hb d_m_isResult_5 rfl (lv_at hl 0 rfl) ?_
    refine mg_M_results hx hb hts hown hK hI (hts _ q_676) d_m_isResult_6 ?_
    refine lv_icmp_ge hx hb d_m_isResult_9 rfl (fun hc => ?_) (fun hc => ?_)
    · have h := h.1 hc
      exact k_m_isResult_16 cx0  hI (lv_sub hl [] rfl) h
    · have h := h.2 hc
      refine lv_iconst (v := 1) hx hb d_m_isResult_12 zc_iconst_1 ?_
      refine lv_goto hx hb d_m_isResult_13 rfl ?_
      exact k_m_isResult_17 cx0  hI (lv_sub hl [] rfl) h
def w_m_step (v0 : Int32) (u : ZS) (post : Int32 → ZS → Prop) : Prop := (v0 = 0 → post 20 u) ∧ (v0 = 1 → post 50 u) ∧ (v0 = 2 → post 90 u) ∧ (v0 = 3 → post 130 u) ∧ (v0 = 4 → post 170 u) ∧ (v0 = 5 → post 220 u) ∧ (v0 = 6 → post 270 u) ∧ (v0 = 7 → post 320 u) ∧ (v0 = 8 → post 370 u) ∧ (v0 = 9 → post 430 u) ∧ (v0 = 10 → post 500 u) ∧ (v0 = 11 → post 600 u) ∧ (v0 = 12 → post 750 u) ∧ (v0 = 13 → post 900 u) ∧ (v0 = 14 → post 1100 u) ∧ (v0 = 15 → post 1300 u) ∧ (v0 = 16 → post 1500 u) ∧ (v0 = 17 → post 1750 u) ∧ (¬ v0 = 0 ∧ ¬ v0 = 1 ∧ ¬ v0 = 2 ∧ ¬ v0 = 3 ∧ ¬ v0 = 4 ∧ ¬ v0 = 5 ∧ ¬ v0 = 6 ∧ ¬ v0 = 7 ∧ ¬ v0 = 8 ∧ ¬ v0 = 9 ∧ ¬ v0 = 10 ∧ ¬ v0 = 11 ∧ ¬ v0 = 12 ∧ ¬ v0 = 13 ∧ ¬ v0 = 14 ∧ ¬ v0 = 15 ∧ ¬ v0 = 16 ∧ ¬ v0 = 17 → post 2000 u)
set_option maxRecDepth 100000 in
set_option maxHeartbeats 4000000 in
theorem t_m_step (l : Launch) (D : va_G) (ad : Nat → Nat) (ca : Nat → ClassId) {v0 : Int32} {u : ZS} {post : Int32 → ZS → Prop} (h : w_m_step v0 u post) : zI l y_m_step (Cond.code y_m_step c_m_step 1 (some .int) :: zG) { frames := 1, cells := 0, slots := 0, locals := 12 } D (mT ca) zNs (mW ad ca) [.int v0] u post := by
  refine zI_of (cc := c_m_step) (maxL := 1) (ret := (some .int)) (by decide) (Nat.le_of_ble_eq_true rfl) ?_
  intro p e s m args below meth c ls A cx hI hl
  have cx0 := cx
  obtain ⟨hx, hb, hml, hown, hts, hN, hK, hr, hlk, hfr, hlc⟩ := cx
  have hl : lv_has ls 1 [(0, .int v0)] := hl
  unfold w_m_step at h
  refine lv_iload_n hx hb d_m_step_0 rfl (lv_at hl 0 rfl) ?_
  by_cases hc0 : v0 = 0
  · have h := h.1 hc0
    refine lv_tableIn hx hb d_m_step_1 (by rw [hc0]; decide) (by rw [hc0]; decide) (by rw [hc0]; rfl) rfl ?_
    refine lv_bipush (v := 20) hx hb d_m_step_88 zc_bipush_20 ?_
    exact zret_i hx hb hr hlk hK hI h d_m_step_90
  · skip
    by_cases hc1 : v0 = 1
    · have h := h.2.1 hc1
      refine lv_tableIn hx hb d_m_step_1 (by rw [hc1]; decide) (by rw [hc1]; decide) (by rw [hc1]; rfl) rfl ?_
      refine lv_bipush (v := 50) hx hb d_m_step_91 zc_bipush_50 ?_
      exact zret_i hx hb hr hlk hK hI h d_m_step_93
    · skip
      by_cases hc2 : v0 = 2
      · have h := h.2.2.1 hc2
        refine lv_tableIn hx hb d_m_step_1 (by rw [hc2]; decide) (by rw [hc2]; decide) (by rw [hc2]; rfl) rfl ?_
        refine lv_bipush (v := 90) hx hb d_m_step_94 zc_bipush_90 ?_
        exact zret_i hx hb hr hlk hK hI h d_m_step_96
      · skip
        by_cases hc3 : v0 = 3
        · have h := h.2.2.2.1 hc3
          refine lv_tableIn hx hb d_m_step_1 (by rw [hc3]; decide) (by rw [hc3]; decide) (by rw [hc3]; rfl) rfl ?_
          refine lv_sipush (v := 130) hx hb d_m_step_97 zc_sipush_130 ?_
          exact zret_i hx hb hr hlk hK hI h d_m_step_100
        · skip
          by_cases hc4 : v0 = 4
          · have h := h.2.2.2.2.1 hc4
            refine lv_tableIn hx hb d_m_step_1 (by rw [hc4]; decide) (by rw [hc4]; decide) (by rw [hc4]; rfl) rfl ?_
            refine lv_sipush (v := 170) hx hb d_m_step_101 zc_sipush_170 ?_
            exact zret_i hx hb hr hlk hK hI h d_m_step_104
          · skip
            by_cases hc5 : v0 = 5
            · have h := h.2.2.2.2.2.1 hc5
              refine lv_tableIn hx hb d_m_step_1 (by rw [hc5]; decide) (by rw [hc5]; decide) (by rw [hc5]; rfl) rfl ?_
              refine lv_sipush (v := 220) hx hb d_m_step_105 zc_sipush_220 ?_
              exact zret_i hx hb hr hlk hK hI h d_m_step_108
            · skip
              by_cases hc6 : v0 = 6
              · have h := h.2.2.2.2.2.2.1 hc6
                refine lv_tableIn hx hb d_m_step_1 (by rw [hc6]; decide) (by rw [hc6]; decide) (by rw [hc6]; rfl) rfl ?_
                refine lv_sipush (v := 270) hx hb d_m_step_109 zc_sipush_270 ?_
                exact zret_i hx hb hr hlk hK hI h d_m_step_112
              · skip
                by_cases hc7 : v0 = 7
                · have h := h.2.2.2.2.2.2.2.1 hc7
                  refine lv_tableIn hx hb d_m_step_1 (by rw [hc7]; decide) (by rw [hc7]; decide) (by rw [hc7]; rfl) rfl ?_
                  refine lv_sipush (v := 320) hx hb d_m_step_113 zc_sipush_320 ?_
                  exact zret_i hx hb hr hlk hK hI h d_m_step_116
                · skip
                  by_cases hc8 : v0 = 8
                  · have h := h.2.2.2.2.2.2.2.2.1 hc8
                    refine lv_tableIn hx hb d_m_step_1 (by rw [hc8]; decide) (by rw [hc8]; decide) (by rw [hc8]; rfl) rfl ?_
                    refine lv_sipush (v := 370) hx hb d_m_step_117 zc_sipush_370 ?_
                    exact zret_i hx hb hr hlk hK hI h d_m_step_120
                  · skip
                    by_cases hc9 : v0 = 9
                    · have h := h.2.2.2.2.2.2.2.2.2.1 hc9
                      refine lv_tableIn hx hb d_m_step_1 (by rw [hc9]; decide) (by rw [hc9]; decide) (by rw [hc9]; rfl) rfl ?_
                      refine lv_sipush (v := 430) hx hb d_m_step_121 zc_sipush_430 ?_
                      exact zret_i hx hb hr hlk hK hI h d_m_step_124
                    · skip
                      by_cases hc10 : v0 = 10
                      · have h := h.2.2.2.2.2.2.2.2.2.2.1 hc10
                        refine lv_tableIn hx hb d_m_step_1 (by rw [hc10]; decide) (by rw [hc10]; decide) (by rw [hc10]; rfl) rfl ?_
                        refine lv_sipush (v := 500) hx hb d_m_step_125 zc_sipush_500 ?_
                        exact zret_i hx hb hr hlk hK hI h d_m_step_128
                      · skip
                        by_cases hc11 : v0 = 11
                        · have h := h.2.2.2.2.2.2.2.2.2.2.2.1 hc11
                          refine lv_tableIn hx hb d_m_step_1 (by rw [hc11]; decide) (by rw [hc11]; decide) (by rw [hc11]; rfl) rfl ?_
                          refine lv_sipush (v := 600) hx hb d_m_step_129 zc_sipush_600 ?_
                          exact zret_i hx hb hr hlk hK hI h d_m_step_132
                        · skip
                          by_cases hc12 : v0 = 12
                          · have h := h.2.2.2.2.2.2.2.2.2.2.2.2.1 hc12
                            refine lv_tableIn hx hb d_m_step_1 (by rw [hc12]; decide) (by rw [hc12]; decide) (by rw [hc12]; rfl) rfl ?_
                            refine lv_sipush (v := 750) hx hb d_m_step_133 zc_sipush_750 ?_
                            exact zret_i hx hb hr hlk hK hI h d_m_step_136
                          · skip
                            by_cases hc13 : v0 = 13
                            · have h := h.2.2.2.2.2.2.2.2.2.2.2.2.2.1 hc13
                              refine lv_tableIn hx hb d_m_step_1 (by rw [hc13]; decide) (by rw [hc13]; decide) (by rw [hc13]; rfl) rfl ?_
                              refine lv_sipush (v := 900) hx hb d_m_step_137 zc_sipush_900 ?_
                              exact zret_i hx hb hr hlk hK hI h d_m_step_140
                            · skip
                              by_cases hc14 : v0 = 14
                              · have h := h.2.2.2.2.2.2.2.2.2.2.2.2.2.2.1 hc14
                                refine lv_tableIn hx hb d_m_step_1 (by rw [hc14]; decide) (by rw [hc14]; decide) (by rw [hc14]; rfl) rfl ?_
                                refine lv_sipush (v := 1100) hx hb d_m_step_141 zc_sipush_1100 ?_
                                exact zret_i hx hb hr hlk hK hI h d_m_step_144
                              · skip
                                by_cases hc15 : v0 = 15
                                · have h := h.2.2.2.2.2.2.2.2.2.2.2.2.2.2.2.1 hc15
                                  refine lv_tableIn hx hb d_m_step_1 (by rw [hc15]; decide) (by rw [hc15]; decide) (by rw [hc15]; rfl) rfl ?_
                                  refine lv_sipush (v := 1300) hx hb d_m_step_145 zc_sipush_1300 ?_
                                  exact zret_i hx hb hr hlk hK hI h d_m_step_148
                                · skip
                                  by_cases hc16 : v0 = 16
                                  · have h := h.2.2.2.2.2.2.2.2.2.2.2.2.2.2.2.2.1 hc16
                                    refine lv_tableIn hx hb d_m_step_1 (by rw [hc16]; decide) (by rw [hc16]; decide) (by rw [hc16]; rfl) rfl ?_
                                    refine lv_sipush (v := 1500) hx hb d_m_step_149 zc_sipush_1500 ?_
                                    exact zret_i hx hb hr hlk hK hI h d_m_step_152
                                  · skip
                                    by_cases hc17 : v0 = 17
                                    · have h := h.2.2.2.2.2.2.2.2.2.2.2.2.2.2.2.2.2.1 hc17
                                      refine lv_tableIn hx hb d_m_step_1 (by rw [hc17]; decide) (by rw [hc17]; decide) (by rw [hc17]; rfl) rfl ?_
                                      refine lv_sipush (v := 1750) hx hb d_m_step_153 zc_sipush_1750 ?_
                                      exact zret_i hx hb hr hlk hK hI h d_m_step_156
                                    · skip
                                      have h := h.2.2.2.2.2.2.2.2.2.2.2.2.2.2.2.2.2.2 ⟨hc0, hc1, hc2, hc3, hc4, hc5, hc6, hc7, hc8, hc9, hc10, hc11, hc12, hc13, hc14, hc15, hc16, hc17⟩
                                      have e0 := lv_neT (a := 0) hc0 (by decide)
                                      have e1 := lv_neT (a := 1) hc1 (by decide)
                                      have e2 := lv_neT (a := 2) hc2 (by decide)
                                      have e3 := lv_neT (a := 3) hc3 (by decide)
                                      have e4 := lv_neT (a := 4) hc4 (by decide)
                                      have e5 := lv_neT (a := 5) hc5 (by decide)
                                      have e6 := lv_neT (a := 6) hc6 (by decide)
                                      have e7 := lv_neT (a := 7) hc7 (by decide)
                                      have e8 := lv_neT (a := 8) hc8 (by decide)
                                      have e9 := lv_neT (a := 9) hc9 (by decide)
                                      have e10 := lv_neT (a := 10) hc10 (by decide)
                                      have e11 := lv_neT (a := 11) hc11 (by decide)
                                      have e12 := lv_neT (a := 12) hc12 (by decide)
                                      have e13 := lv_neT (a := 13) hc13 (by decide)
                                      have e14 := lv_neT (a := 14) hc14 (by decide)
                                      have e15 := lv_neT (a := 15) hc15 (by decide)
                                      have e16 := lv_neT (a := 16) hc16 (by decide)
                                      have e17 := lv_neT (a := 17) hc17 (by decide)
                                      refine lv_tableOut hx hb d_m_step_1 (by omega) rfl ?_
                                      refine lv_sipush (v := 2000) hx hb d_m_step_157 zc_sipush_2000 ?_
                                      exact zret_i hx hb hr hlk hK hI h d_m_step_160
def b_m_points_112  (post : Int32 → ZS → Prop) (s0 : Int32) (u : ZS) : Prop := post s0 u
set_option maxRecDepth 100000 in
set_option maxHeartbeats 4000000 in
theorem k_m_points_112 {p : Program} {l : Launch} {e : Env} {R : Room} {s : State} {m : MethodId} {args : Array Value} {below : List Frame} {meth : Method} {c : Code} {D : va_G} {A : Nat → Prop} {ad : Nat → Nat} {ca : Nat → ClassId}  {post : Int32 → ZS → Prop} (cx : zx p R s m args meth c c_m_points 7 2 33 "ShortBridgeModel" (some .int) zG zNs D (mT ca)) {s0 : Int32} {u : ZS} {H : Heap} {locs : List Loc} {ls : Array Slot} (hI : zw D A s.heap (mW ad ca u) H locs) (hl : lv_has ls 7 []) (h : b_m_points_112 post s0 u) : W p l e R s m args below meth c H locs 0 0 (MQ below (va_Qi post (zE D (mT ca) (mW ad ca) A) A) args s 0 0 A) (F0 m 112 ls [.int s0]) := by
  have cx0 := cx
  obtain ⟨hx, hb, hml, hown, hts, hN, hK, hr, hlk, hfr, hlc⟩ := cx
  unfold b_m_points_112 at h
  exact zret_i hx hb hr hlk hK hI h d_m_points_112
def b_m_points_92 (r66 : Int32 → Int32 → Int32 → Int32 → ZS → Prop) (post : Int32 → ZS → Prop) (v3 : Int32) (v4 : Int32) (v6 : Int32) (s0 : Int32) (u : ZS) : Prop := r66 v3 v4 s0 (v6 + 1) u
set_option maxRecDepth 100000 in
set_option maxHeartbeats 4000000 in
theorem k_m_points_92 {p : Program} {l : Launch} {e : Env} {R : Room} {s : State} {m : MethodId} {args : Array Value} {below : List Frame} {meth : Method} {c : Code} {D : va_G} {A : Nat → Prop} {ad : Nat → Nat} {ca : Nat → ClassId} {r66 : Int32 → Int32 → Int32 → Int32 → ZS → Prop} {post : Int32 → ZS → Prop} (cx : zx p R s m args meth c c_m_points 7 2 33 "ShortBridgeModel" (some .int) zG zNs D (mT ca)) (hk66 : ∀ (v3 : Int32) (v4 : Int32) (v5 : Int32) (v6 : Int32) (u : ZS) (H : Heap) (locs : List Loc) (ls : Array Slot), zw D A s.heap (mW ad ca u) H locs → lv_has ls 7 [(3, .int v3), (4, .int v4), (5, .int v5), (6, .int v6)] → r66 v3 v4 v5 v6 u → W p l e R s m args below meth c H locs 0 0 (MQ below (va_Qi post (zE D (mT ca) (mW ad ca) A) A) args s 0 0 A) (F0 m 66 ls [])) {v3 : Int32} {v4 : Int32} {v6 : Int32} {s0 : Int32} {u : ZS} {H : Heap} {locs : List Loc} {ls : Array Slot} (hI : zw D A s.heap (mW ad ca u) H locs) (hl : lv_has ls 7 [(3, .int v3), (4, .int v4), (6, .int v6)]) (h : b_m_points_92 r66 post v3 v4 v6 s0 u) : W p l e R s m args below meth c H locs 0 0 (MQ below (va_Qi post (zE D (mT ca) (mW ad ca) A) A) args s 0 0 A) (F0 m 92 ls [.int s0]) := by
  have cx0 := cx
  obtain ⟨hx, hb, hml, hown, hts, hN, hK, hr, hlk, hfr, hlc⟩ := cx
  unfold b_m_points_92 at h
  refine lv_istore hx hb d_m_points_92 hl (by decide) rfl ?_
  intro ls hl
  have hl : lv_has ls 7 [(5, .int s0), (3, .int v3), (4, .int v4), (6, .int v6)] := hl
  refine lv_iinc (k := 3) (v := (v6 + 1)) hx hb d_m_points_94 hl rfl (zi_1 _) (by decide) rfl ?_
  intro ls hl
  have hl : lv_has ls 7 [(6, .int (v6 + 1)), (5, .int s0), (3, .int v3), (4, .int v4)] := hl
  refine lv_goto hx hb d_m_points_97 rfl ?_
  exact hk66 _ _ _ _ _ _ _ _ hI (lv_sub hl [2, 3, 1, 0] rfl) h
def b_m_points_66  (post : Int32 → ZS → Prop) : Nat → Int32 → Int32 → Int32 → Int32 → ZS → Prop
  | 0, _, _, _, _, _ => False
  | n + 1, v3, v4, v5, v6, u => (19 ≤ v6 → (0 ≤ v3 → b_m_points_112 post v5 u) ∧ (¬ (0 ≤ v3) → b_m_points_112 post (-v5) u)) ∧ (¬ (19 ≤ v6) → w_m_step v6 u (fun r1 u2 => (v4 < r1 → b_m_points_92 (b_m_points_66 post n) post v3 v4 v6 v5 u2) ∧ (¬ (v4 < r1) → b_m_points_92 (b_m_points_66 post n) post v3 v4 v6 (v5 + 1) u2)))
set_option maxRecDepth 100000 in
set_option maxHeartbeats 4000000 in
theorem k_m_points_66 {p : Program} {l : Launch} {e : Env} {R : Room} {s : State} {m : MethodId} {args : Array Value} {below : List Frame} {meth : Method} {c : Code} {D : va_G} {A : Nat → Prop} {ad : Nat → Nat} {ca : Nat → ClassId}  {post : Int32 → ZS → Prop} (cx : zx p R s m args meth c c_m_points 7 2 33 "ShortBridgeModel" (some .int) zG zNs D (mT ca)) : ∀ (n : Nat) (v3 : Int32) (v4 : Int32) (v5 : Int32) (v6 : Int32) (u : ZS) (H : Heap) (locs : List Loc) (ls : Array Slot), zw D A s.heap (mW ad ca u) H locs → lv_has ls 7 [(3, .int v3), (4, .int v4), (5, .int v5), (6, .int v6)] → b_m_points_66 post n v3 v4 v5 v6 u → W p l e R s m args below meth c H locs 0 0 (MQ below (va_Qi post (zE D (mT ca) (mW ad ca) A) A) args s 0 0 A) (F0 m 66 ls []) := by
  have cx0 := cx
  obtain ⟨hx, hb, hml, hown, hts, hN, hK, hr, hlk, hfr, hlc⟩ := cx
  intro n
  induction n with
  | zero => intro v3 v4 v5 v6 u H locs ls hI hl h; exact (h : False).elim
  | succ n ih =>
    intro v3 v4 v5 v6 u H locs ls hI hl h
    unfold b_m_points_66 at h
    refine lv_iload hx hb d_m_points_66 (lv_at hl 3 rfl) ?_
    refine lv_bipush (v := 19) hx hb d_m_points_68 zc_bipush_19 ?_
    refine lv_icmp_ge hx hb d_m_points_70 rfl (fun hc => ?_) (fun hc => ?_)
    · have h := h.1 hc
      refine lv_iload_n hx hb d_m_points_100 rfl (lv_at hl 0 rfl) ?_
      refine lv_if_ge hx hb d_m_points_101 rfl (fun hc => ?_) (fun hc => ?_)
      · have h := h.1 hc
        refine lv_iload hx hb d_m_points_110 (lv_at hl 2 rfl) ?_
        exact k_m_points_112 cx0  hI (lv_sub hl [] rfl) h
      · have h := h.2 hc
        refine lv_iload hx hb d_m_points_104 (lv_at hl 2 rfl) ?_
        refine lv_ineg hx hb d_m_points_106 ?_
        refine lv_goto hx hb d_m_points_107 rfl ?_
        exact k_m_points_112 cx0  hI (lv_sub hl [] rfl) h
    · have h := h.2 hc
      refine lv_iload hx hb d_m_points_73 (lv_at hl 3 rfl) ?_
      refine zr_i (va_runS (As := [.int v6]) (rest := []) ⟨hx, hb, hml, hown, hts⟩ (t_m_step l D ad ca h _) (va_cwS 1 hts (zg_S q_905 q_906 q_44 q_907) rfl rfl rfl hd_m_step ⟨Nat.le_trans (by decide) hfr, Nat.le_trans (by decide) hlc⟩) (z_preS zNs_ok hK hN hI _) rfl rfl hl.1 rfl (lv_room (Nat.le_of_ble_eq_true rfl)) d_m_points_75 ⟨Nat.zero_le _, Nat.zero_le _⟩) hI ?_
      intro r1 u2 H locs h hI
      refine lv_iload hx hb d_m_points_78 (lv_at hl 1 rfl) ?_
      refine lv_icmp_gt hx hb d_m_points_80 rfl (fun hc => ?_) (fun hc => ?_)
      · have h := h.1 hc
        refine lv_iload hx hb d_m_points_90 (lv_at hl 2 rfl) ?_
        exact k_m_points_92 cx0 ih hI (lv_sub hl [0, 1, 3] rfl) h
      · have h := h.2 hc
        refine lv_iload hx hb d_m_points_83 (lv_at hl 2 rfl) ?_
        refine lv_iconst (v := 1) hx hb d_m_points_85 zc_iconst_1 ?_
        refine lv_iadd hx hb d_m_points_86 ?_
        refine lv_goto hx hb d_m_points_87 rfl ?_
        exact k_m_points_92 cx0 ih hI (lv_sub hl [0, 1, 3] rfl) h
def b_m_points_58  (post : Int32 → ZS → Prop) (v3 : Int32) (s0 : Int32) (u : ZS) : Prop := ∃ n0, b_m_points_66 post n0 v3 s0 0 0 u
set_option maxRecDepth 100000 in
set_option maxHeartbeats 4000000 in
theorem k_m_points_58 {p : Program} {l : Launch} {e : Env} {R : Room} {s : State} {m : MethodId} {args : Array Value} {below : List Frame} {meth : Method} {c : Code} {D : va_G} {A : Nat → Prop} {ad : Nat → Nat} {ca : Nat → ClassId}  {post : Int32 → ZS → Prop} (cx : zx p R s m args meth c c_m_points 7 2 33 "ShortBridgeModel" (some .int) zG zNs D (mT ca)) {v3 : Int32} {s0 : Int32} {u : ZS} {H : Heap} {locs : List Loc} {ls : Array Slot} (hI : zw D A s.heap (mW ad ca u) H locs) (hl : lv_has ls 7 [(3, .int v3)]) (h : b_m_points_58 post v3 s0 u) : W p l e R s m args below meth c H locs 0 0 (MQ below (va_Qi post (zE D (mT ca) (mW ad ca) A) A) args s 0 0 A) (F0 m 58 ls [.int s0]) := by
  have cx0 := cx
  obtain ⟨hx, hb, hml, hown, hts, hN, hK, hr, hlk, hfr, hlc⟩ := cx
  unfold b_m_points_58 at h
  refine lv_istore hx hb d_m_points_58 hl (by decide) rfl ?_
  intro ls hl
  have hl : lv_has ls 7 [(4, .int s0), (3, .int v3)] := hl
  refine lv_iconst (v := 0) hx hb d_m_points_60 zc_iconst_0 ?_
  refine lv_istore hx hb d_m_points_61 hl (by decide) rfl ?_
  intro ls hl
  have hl : lv_has ls 7 [(5, .int 0), (4, .int s0), (3, .int v3)] := hl
  refine lv_iconst (v := 0) hx hb d_m_points_63 zc_iconst_0 ?_
  refine lv_istore hx hb d_m_points_64 hl (by decide) rfl ?_
  intro ls hl
  have hl : lv_has ls 7 [(6, .int 0), (5, .int 0), (4, .int s0), (3, .int v3)] := hl
  obtain ⟨n0, h⟩ := h
  exact k_m_points_66 cx0  n0 _ _ _ _ _ _ _ _ hI (lv_sub hl [3, 2, 1, 0] rfl) h
def b_m_points_22  (post : Int32 → ZS → Prop) (v1 : Int32) (v2 : Int32) (s0 : Int32) (u : ZS) : Prop := ((fI (sI u 0 s0) 0) ≤ 0 → vp_in v1 12 ∧ (vp_in v2 12 ∧ ((0 ≤ ((aI (sI u 0 s0) 10 (Int32.toNatClampNeg v1)) - (aI (sI u 0 s0) 10 (Int32.toNatClampNeg v2))) → b_m_points_58 post ((aI (sI u 0 s0) 10 (Int32.toNatClampNeg v1)) - (aI (sI u 0 s0) 10 (Int32.toNatClampNeg v2))) ((aI (sI u 0 s0) 10 (Int32.toNatClampNeg v1)) - (aI (sI u 0 s0) 10 (Int32.toNatClampNeg v2))) (sI u 0 s0)) ∧ (¬ (0 ≤ ((aI (sI u 0 s0) 10 (Int32.toNatClampNeg v1)) - (aI (sI u 0 s0) 10 (Int32.toNatClampNeg v2)))) → b_m_points_58 post ((aI (sI u 0 s0) 10 (Int32.toNatClampNeg v1)) - (aI (sI u 0 s0) 10 (Int32.toNatClampNeg v2))) (-((aI (sI u 0 s0) 10 (Int32.toNatClampNeg v1)) - (aI (sI u 0 s0) 10 (Int32.toNatClampNeg v2)))) (sI u 0 s0))))) ∧ (¬ ((fI (sI u 0 s0) 0) ≤ 0) → post 0 (sI u 0 s0))
set_option maxRecDepth 100000 in
set_option maxHeartbeats 4000000 in
theorem k_m_points_22 {p : Program} {l : Launch} {e : Env} {R : Room} {s : State} {m : MethodId} {args : Array Value} {below : List Frame} {meth : Method} {c : Code} {D : va_G} {A : Nat → Prop} {ad : Nat → Nat} {ca : Nat → ClassId}  {post : Int32 → ZS → Prop} (cx : zx p R s m args meth c c_m_points 7 2 33 "ShortBridgeModel" (some .int) zG zNs D (mT ca)) {v1 : Int32} {v2 : Int32} {s0 : Int32} {u : ZS} {H : Heap} {locs : List Loc} {ls : Array Slot} (hI : zw D A s.heap (mW ad ca u) H locs) (hl : lv_has ls 7 [(0, .ref (ad 0)), (1, .int v1), (2, .int v2)]) (h : b_m_points_22 post v1 v2 s0 u) : W p l e R s m args below meth c H locs 0 0 (MQ below (va_Qi post (zE D (mT ca) (mW ad ca) A) A) args s 0 0 A) (F0 m 22 ls [.int s0, .ref (ad 0)]) := by
  have cx0 := cx
  obtain ⟨hx, hb, hml, hown, hts, hN, hK, hr, hlk, hfr, hlc⟩ := cx
  unfold b_m_points_22 at h
  refine mp_M_code hx hb hts hown hK hI (hts _ q_654) d_m_points_22 ?_
  intro H locs hI
  refine lv_aload_n hx hb d_m_points_25 rfl (lv_at hl 0 rfl) ?_
  refine mg_M_code hx hb hts hown hK hI (hts _ q_654) d_m_points_26 ?_
  refine lv_if_le hx hb d_m_points_29 rfl (fun hc => ?_) (fun hc => ?_)
  · have h := h.1 hc
    refine lv_aload_n hx hb d_m_points_34 rfl (lv_at hl 0 rfl) ?_
    refine mg_M_scores hx hb hts hown hK hI (hts _ q_677) d_m_points_35 ?_
    refine lv_iload_n hx hb d_m_points_38 rfl (lv_at hl 1 rfl) ?_
    obtain ⟨hi, h⟩ := h
    refine ma_scores hx hb hK hI hi d_m_points_39 ?_
    refine lv_aload_n hx hb d_m_points_40 rfl (lv_at hl 0 rfl) ?_
    refine mg_M_scores hx hb hts hown hK hI (hts _ q_677) d_m_points_41 ?_
    refine lv_iload_n hx hb d_m_points_44 rfl (lv_at hl 2 rfl) ?_
    obtain ⟨hi, h⟩ := h
    refine ma_scores hx hb hK hI hi d_m_points_45 ?_
    refine lv_isub hx hb d_m_points_46 ?_
    refine lv_istore_n hx hb d_m_points_47 rfl hl (by decide) rfl ?_
    intro ls hl
    have hl : lv_has ls 7 [(3, .int ((aI (sI u 0 s0) 10 (Int32.toNatClampNeg v1)) - (aI (sI u 0 s0) 10 (Int32.toNatClampNeg v2)))), (0, .ref (ad 0)), (1, .int v1), (2, .int v2)] := hl
    refine lv_iload_n hx hb d_m_points_48 rfl (lv_at hl 0 rfl) ?_
    refine lv_if_ge hx hb d_m_points_49 rfl (fun hc => ?_) (fun hc => ?_)
    · have h := h.1 hc
      refine lv_iload_n hx hb d_m_points_57 rfl (lv_at hl 0 rfl) ?_
      exact k_m_points_58 cx0  hI (lv_sub hl [0] rfl) h
    · have h := h.2 hc
      refine lv_iload_n hx hb d_m_points_52 rfl (lv_at hl 0 rfl) ?_
      refine lv_ineg hx hb d_m_points_53 ?_
      refine lv_goto hx hb d_m_points_54 rfl ?_
      exact k_m_points_58 cx0  hI (lv_sub hl [0] rfl) h
  · have h := h.2 hc
    refine lv_iconst (v := 0) hx hb d_m_points_32 zc_iconst_0 ?_
    exact zret_i hx hb hr hlk hK hI h d_m_points_33
def b_m_points_21  (post : Int32 → ZS → Prop) (v1 : Int32) (v2 : Int32) (u : ZS) : Prop := b_m_points_22 post v1 v2 1 u
set_option maxRecDepth 100000 in
set_option maxHeartbeats 4000000 in
theorem k_m_points_21 {p : Program} {l : Launch} {e : Env} {R : Room} {s : State} {m : MethodId} {args : Array Value} {below : List Frame} {meth : Method} {c : Code} {D : va_G} {A : Nat → Prop} {ad : Nat → Nat} {ca : Nat → ClassId}  {post : Int32 → ZS → Prop} (cx : zx p R s m args meth c c_m_points 7 2 33 "ShortBridgeModel" (some .int) zG zNs D (mT ca)) {v1 : Int32} {v2 : Int32} {u : ZS} {H : Heap} {locs : List Loc} {ls : Array Slot} (hI : zw D A s.heap (mW ad ca u) H locs) (hl : lv_has ls 7 [(0, .ref (ad 0)), (1, .int v1), (2, .int v2)]) (h : b_m_points_21 post v1 v2 u) : W p l e R s m args below meth c H locs 0 0 (MQ below (va_Qi post (zE D (mT ca) (mW ad ca) A) A) args s 0 0 A) (F0 m 21 ls [.ref (ad 0)]) := by
  have cx0 := cx
  obtain ⟨hx, hb, hml, hown, hts, hN, hK, hr, hlk, hfr, hlc⟩ := cx
  unfold b_m_points_21 at h
  refine lv_iconst (v := 1) hx hb d_m_points_21 zc_iconst_1 ?_
  exact k_m_points_22 cx0  hI (lv_sub hl [0, 1, 2] rfl) h
def w_m_points (v1 : Int32) (v2 : Int32) (u : ZS) (post : Int32 → ZS → Prop) : Prop := w_m_isResult v1 u (fun r3 u4 => (r3 = 0 → b_m_points_21 post v1 v2 u4) ∧ (¬ (r3 = 0) → w_m_isResult v2 u4 (fun r5 u6 => (r5 = 0 → b_m_points_21 post v1 v2 u6) ∧ (¬ (r5 = 0) → b_m_points_22 post v1 v2 0 u6))))
set_option maxRecDepth 100000 in
set_option maxHeartbeats 4000000 in
theorem t_m_points (l : Launch) (D : va_G) (ad : Nat → Nat) (ca : Nat → ClassId) {v1 : Int32} {v2 : Int32} {u : ZS} {post : Int32 → ZS → Prop} (h : w_m_points v1 v2 u post) : zI l y_m_points (Cond.code y_m_points c_m_points 7 (some .int) :: zG) { frames := 2, cells := 0, slots := 0, locals := 33 } D (mT ca) zNs (mW ad ca) [.ref (ad 0), .int v1, .int v2] u post := by
  refine zI_of (cc := c_m_points) (maxL := 7) (ret := (some .int)) (by decide) (Nat.le_of_ble_eq_true rfl) ?_
  intro p e s m args below meth c ls A cx hI hl
  have cx0 := cx
  obtain ⟨hx, hb, hml, hown, hts, hN, hK, hr, hlk, hfr, hlc⟩ := cx
  have hl : lv_has ls 7 [(0, .ref (ad 0)), (1, .int v1), (2, .int v2)] := hl
  unfold w_m_points at h
  refine lv_aload_n hx hb d_m_points_0 rfl (lv_at hl 0 rfl) ?_
  refine lv_aload_n hx hb d_m_points_1 rfl (lv_at hl 0 rfl) ?_
  refine lv_iload_n hx hb d_m_points_2 rfl (lv_at hl 1 rfl) ?_
  refine zr_i (va_runV (As := [.int v1]) (rest := [.ref (ad 0)]) ⟨hx, hb, hml, hown, hts⟩ (t_m_isResult l D ad ca h _) (cwV 1 hts (zg_V q_901 q_903 q_37 q_44 q_904) rfl rfl rfl ⟨rfl, hd_m_isResult⟩ ⟨Nat.le_trans (by decide) hfr, Nat.le_trans (by decide) hlc⟩) (z_preV zNs_ok hK hN hI 0 5 rfl rfl _) rfl rfl hl.1 rfl (lv_room (Nat.le_of_ble_eq_true rfl)) d_m_points_3 ⟨Nat.zero_le _, Nat.zero_le _⟩) hI ?_
  intro r3 u4 H locs h hI
  refine lv_if_eq hx hb d_m_points_6 rfl (fun hc => ?_) (fun hc => ?_)
  · have h := h.1 hc
    exact k_m_points_21 cx0  hI (lv_sub hl [0, 1, 2] rfl) h
  · have h := h.2 hc
    refine lv_aload_n hx hb d_m_points_9 rfl (lv_at hl 0 rfl) ?_
    refine lv_iload_n hx hb d_m_points_10 rfl (lv_at hl 2 rfl) ?_
    refine zr_i (va_runV (As := [.int v2]) (rest := [.ref (ad 0)]) ⟨hx, hb, hml, hown, hts⟩ (t_m_isResult l D ad ca h _) (cwV 1 hts (zg_V q_901 q_903 q_37 q_44 q_904) rfl rfl rfl ⟨rfl, hd_m_isResult⟩ ⟨Nat.le_trans (by decide) hfr, Nat.le_trans (by decide) hlc⟩) (z_preV zNs_ok hK hN hI 0 5 rfl rfl _) rfl rfl hl.1 rfl (lv_room (Nat.le_of_ble_eq_true rfl)) d_m_points_11 ⟨Nat.zero_le _, Nat.zero_le _⟩) hI ?_
    intro r5 u6 H locs h hI
    refine lv_if_eq hx hb d_m_points_14 rfl (fun hc => ?_) (fun hc => ?_)
    · have h := h.1 hc
      exact k_m_points_21 cx0  hI (lv_sub hl [0, 1, 2] rfl) h
    · have h := h.2 hc
      refine lv_iconst (v := 0) hx hb d_m_points_17 zc_iconst_0 ?_
      refine lv_goto hx hb d_m_points_18 rfl ?_
      exact k_m_points_22 cx0  hI (lv_sub hl [0, 1, 2] rfl) h
def b_m_places_107  (post : Int32 → ZS → Prop) (v2 : Int32) (u : ZS) : Prop := post v2 u
set_option maxRecDepth 100000 in
set_option maxHeartbeats 4000000 in
theorem k_m_places_107 {p : Program} {l : Launch} {e : Env} {R : Room} {s : State} {m : MethodId} {args : Array Value} {below : List Frame} {meth : Method} {c : Code} {D : va_G} {A : Nat → Prop} {ad : Nat → Nat} {ca : Nat → ClassId}  {post : Int32 → ZS → Prop} (cx : zx p R s m args meth c c_m_places 4 2 33 "ShortBridgeModel" (some .int) zG zNs D (mT ca)) {v2 : Int32} {u : ZS} {H : Heap} {locs : List Loc} {ls : Array Slot} (hI : zw D A s.heap (mW ad ca u) H locs) (hl : lv_has ls 4 [(2, .int v2)]) (h : b_m_places_107 post v2 u) : W p l e R s m args below meth c H locs 0 0 (MQ below (va_Qi post (zE D (mT ca) (mW ad ca) A) A) args s 0 0 A) (F0 m 107 ls []) := by
  have cx0 := cx
  obtain ⟨hx, hb, hml, hown, hts, hN, hK, hr, hlk, hfr, hlc⟩ := cx
  unfold b_m_places_107 at h
  refine lv_iload_n hx hb d_m_places_107 rfl (lv_at hl 0 rfl) ?_
  exact zret_i hx hb hr hlk hK hI h d_m_places_108
def b_m_places_101 (r21 : Int32 → Int32 → Int32 → ZS → Prop) (post : Int32 → ZS → Prop) (v1 : Int32) (v2 : Int32) (v3 : Int32) (u : ZS) : Prop := r21 v1 v2 (v3 + 1) u
set_option maxRecDepth 100000 in
set_option maxHeartbeats 4000000 in
theorem k_m_places_101 {p : Program} {l : Launch} {e : Env} {R : Room} {s : State} {m : MethodId} {args : Array Value} {below : List Frame} {meth : Method} {c : Code} {D : va_G} {A : Nat → Prop} {ad : Nat → Nat} {ca : Nat → ClassId} {r21 : Int32 → Int32 → Int32 → ZS → Prop} {post : Int32 → ZS → Prop} (cx : zx p R s m args meth c c_m_places 4 2 33 "ShortBridgeModel" (some .int) zG zNs D (mT ca)) (hk21 : ∀ (v1 : Int32) (v2 : Int32) (v3 : Int32) (u : ZS) (H : Heap) (locs : List Loc) (ls : Array Slot), zw D A s.heap (mW ad ca u) H locs → lv_has ls 4 [(0, .ref (ad 0)), (1, .int v1), (2, .int v2), (3, .int v3)] → r21 v1 v2 v3 u → W p l e R s m args below meth c H locs 0 0 (MQ below (va_Qi post (zE D (mT ca) (mW ad ca) A) A) args s 0 0 A) (F0 m 21 ls [])) {v1 : Int32} {v2 : Int32} {v3 : Int32} {u : ZS} {H : Heap} {locs : List Loc} {ls : Array Slot} (hI : zw D A s.heap (mW ad ca u) H locs) (hl : lv_has ls 4 [(0, .ref (ad 0)), (1, .int v1), (2, .int v2), (3, .int v3)]) (h : b_m_places_101 r21 post v1 v2 v3 u) : W p l e R s m args below meth c H locs 0 0 (MQ below (va_Qi post (zE D (mT ca) (mW ad ca) A) A) args s 0 0 A) (F0 m 101 ls []) := by
  have cx0 := cx
  obtain ⟨hx, hb, hml, hown, hts, hN, hK, hr, hlk, hfr, hlc⟩ := cx
  unfold b_m_places_101 at h
  refine lv_iinc (k := 3) (v := (v3 + 1)) hx hb d_m_places_101 hl rfl (zi_1 _) (by decide) rfl ?_
  intro ls hl
  have hl : lv_has ls 4 [(3, .int (v3 + 1)), (0, .ref (ad 0)), (1, .int v1), (2, .int v2)] := hl
  refine lv_goto hx hb d_m_places_104 rfl ?_
  exact hk21 _ _ _ _ _ _ _ hI (lv_sub hl [1, 2, 3, 0] rfl) h
def b_m_places_100 (r21 : Int32 → Int32 → Int32 → ZS → Prop) (post : Int32 → ZS → Prop) (v1 : Int32) (v3 : Int32) (s0 : Int32) (u : ZS) : Prop := b_m_places_101 r21 post v1 s0 v3 u
set_option maxRecDepth 100000 in
set_option maxHeartbeats 4000000 in
theorem k_m_places_100 {p : Program} {l : Launch} {e : Env} {R : Room} {s : State} {m : MethodId} {args : Array Value} {below : List Frame} {meth : Method} {c : Code} {D : va_G} {A : Nat → Prop} {ad : Nat → Nat} {ca : Nat → ClassId} {r21 : Int32 → Int32 → Int32 → ZS → Prop} {post : Int32 → ZS → Prop} (cx : zx p R s m args meth c c_m_places 4 2 33 "ShortBridgeModel" (some .int) zG zNs D (mT ca)) (hk21 : ∀ (v1 : Int32) (v2 : Int32) (v3 : Int32) (u : ZS) (H : Heap) (locs : List Loc) (ls : Array Slot), zw D A s.heap (mW ad ca u) H locs → lv_has ls 4 [(0, .ref (ad 0)), (1, .int v1), (2, .int v2), (3, .int v3)] → r21 v1 v2 v3 u → W p l e R s m args below meth c H locs 0 0 (MQ below (va_Qi post (zE D (mT ca) (mW ad ca) A) A) args s 0 0 A) (F0 m 21 ls [])) {v1 : Int32} {v3 : Int32} {s0 : Int32} {u : ZS} {H : Heap} {locs : List Loc} {ls : Array Slot} (hI : zw D A s.heap (mW ad ca u) H locs) (hl : lv_has ls 4 [(0, .ref (ad 0)), (1, .int v1), (3, .int v3)]) (h : b_m_places_100 r21 post v1 v3 s0 u) : W p l e R s m args below meth c H locs 0 0 (MQ below (va_Qi post (zE D (mT ca) (mW ad ca) A) A) args s 0 0 A) (F0 m 100 ls [.int s0]) := by
  have cx0 := cx
  obtain ⟨hx, hb, hml, hown, hts, hN, hK, hr, hlk, hfr, hlc⟩ := cx
  unfold b_m_places_100 at h
  refine lv_istore_n hx hb d_m_places_100 rfl hl (by decide) rfl ?_
  intro ls hl
  have hl : lv_has ls 4 [(2, .int s0), (0, .ref (ad 0)), (1, .int v1), (3, .int v3)] := hl
  exact k_m_places_101 cx0 hk21 hI (lv_sub hl [1, 2, 0, 3] rfl) h
def b_m_places_21  (post : Int32 → ZS → Prop) : Nat → Int32 → Int32 → Int32 → ZS → Prop
  | 0, _, _, _, _ => False
  | n + 1, v1, v2, v3, u => ((fI u 10) ≤ v3 → b_m_places_107 post v2 u) ∧ (¬ ((fI u 10) ≤ v3) → (¬ (fI u 0) = 0 → b_m_places_107 post v2 u) ∧ ((fI u 0) = 0 → (v3 = v1 → b_m_places_101 (b_m_places_21 post n) post v1 v2 v3 u) ∧ (¬ (v3 = v1) → vp_in v3 12 ∧ (vp_in v1 12 ∧ ((¬ (lg_cmp (aJ u 1 (Int32.toNatClampNeg v3)) (aJ u 1 (Int32.toNatClampNeg v1))) = 0 → b_m_places_101 (b_m_places_21 post n) post v1 v2 v3 u) ∧ ((lg_cmp (aJ u 1 (Int32.toNatClampNeg v3)) (aJ u 1 (Int32.toNatClampNeg v1))) = 0 → vp_in v3 12 ∧ (vp_in v1 12 ∧ (((aI u 10 (Int32.toNatClampNeg v1)) ≤ (aI u 10 (Int32.toNatClampNeg v3)) → vp_in v3 12 ∧ (vp_in v1 12 ∧ ((¬ (aI u 10 (Int32.toNatClampNeg v3)) = (aI u 10 (Int32.toNatClampNeg v1)) → b_m_places_100 (b_m_places_21 post n) post v1 v3 v2 u) ∧ ((aI u 10 (Int32.toNatClampNeg v3)) = (aI u 10 (Int32.toNatClampNeg v1)) → b_m_places_100 (b_m_places_21 post n) post v1 v3 (v2 + 1) u)))) ∧ (¬ ((aI u 10 (Int32.toNatClampNeg v1)) ≤ (aI u 10 (Int32.toNatClampNeg v3))) → b_m_places_100 (b_m_places_21 post n) post v1 v3 (v2 + 2) u)))))))))
set_option maxRecDepth 100000 in
set_option maxHeartbeats 4000000 in
theorem k_m_places_21 {p : Program} {l : Launch} {e : Env} {R : Room} {s : State} {m : MethodId} {args : Array Value} {below : List Frame} {meth : Method} {c : Code} {D : va_G} {A : Nat → Prop} {ad : Nat → Nat} {ca : Nat → ClassId}  {post : Int32 → ZS → Prop} (cx : zx p R s m args meth c c_m_places 4 2 33 "ShortBridgeModel" (some .int) zG zNs D (mT ca)) : ∀ (n : Nat) (v1 : Int32) (v2 : Int32) (v3 : Int32) (u : ZS) (H : Heap) (locs : List Loc) (ls : Array Slot), zw D A s.heap (mW ad ca u) H locs → lv_has ls 4 [(0, .ref (ad 0)), (1, .int v1), (2, .int v2), (3, .int v3)] → b_m_places_21 post n v1 v2 v3 u → W p l e R s m args below meth c H locs 0 0 (MQ below (va_Qi post (zE D (mT ca) (mW ad ca) A) A) args s 0 0 A) (F0 m 21 ls []) := by
  have cx0 := cx
  obtain ⟨hx, hb, hml, hown, hts, hN, hK, hr, hlk, hfr, hlc⟩ := cx
  intro n
  induction n with
  | zero => intro v1 v2 v3 u H locs ls hI hl h; exact (h : False).elim
  | succ n ih =>
    intro v1 v2 v3 u H locs ls hI hl h
    unfold b_m_places_21 at h
    refine lv_iload_n hx hb d_m_places_21 rfl (lv_at hl 3 rfl) ?_
    refine lv_aload_n hx hb d_m_places_22 rfl (lv_at hl 0 rfl) ?_
    refine mg_M_results hx hb hts hown hK hI (hts _ q_676) d_m_places_23 ?_
    refine lv_icmp_ge hx hb d_m_places_26 rfl (fun hc => ?_) (fun hc => ?_)
    · have h := h.1 hc
      exact k_m_places_107 cx0  hI (lv_sub hl [2] rfl) h
    · have h := h.2 hc
      refine lv_aload_n hx hb d_m_places_29 rfl (lv_at hl 0 rfl) ?_
      refine mg_M_code hx hb hts hown hK hI (hts _ q_654) d_m_places_30 ?_
      refine lv_if_ne hx hb d_m_places_33 rfl (fun hc => ?_) (fun hc => ?_)
      · have h := h.1 hc
        exact k_m_places_107 cx0  hI (lv_sub hl [2] rfl) h
      · have h := h.2 hc
        refine lv_iload_n hx hb d_m_places_36 rfl (lv_at hl 3 rfl) ?_
        refine lv_iload_n hx hb d_m_places_37 rfl (lv_at hl 1 rfl) ?_
        refine lv_icmp_eq hx hb d_m_places_38 rfl (fun hc => ?_) (fun hc => ?_)
        · have h := h.1 hc
          exact k_m_places_101 cx0 ih hI (lv_sub hl [0, 1, 2, 3] rfl) h
        · have h := h.2 hc
          refine lv_aload_n hx hb d_m_places_41 rfl (lv_at hl 0 rfl) ?_
          refine mg_M_numbers hx hb hts hown hK hI (hts _ q_678) d_m_places_42 ?_
          refine lv_iload_n hx hb d_m_places_45 rfl (lv_at hl 3 rfl) ?_
          obtain ⟨hi, h⟩ := h
          refine ma_numbers hx hb hK hI hi d_m_places_46 ?_
          refine lv_aload_n hx hb d_m_places_47 rfl (lv_at hl 0 rfl) ?_
          refine mg_M_numbers hx hb hts hown hK hI (hts _ q_678) d_m_places_48 ?_
          refine lv_iload_n hx hb d_m_places_51 rfl (lv_at hl 1 rfl) ?_
          obtain ⟨hi, h⟩ := h
          refine ma_numbers hx hb hK hI hi d_m_places_52 ?_
          refine W.lcmp hx hb d_m_places_53 ?_
          refine lv_if_ne hx hb d_m_places_54 rfl (fun hc => ?_) (fun hc => ?_)
          · have h := h.1 hc
            exact k_m_places_101 cx0 ih hI (lv_sub hl [0, 1, 2, 3] rfl) h
          · have h := h.2 hc
            refine lv_aload_n hx hb d_m_places_57 rfl (lv_at hl 0 rfl) ?_
            refine mg_M_scores hx hb hts hown hK hI (hts _ q_677) d_m_places_58 ?_
            refine lv_iload_n hx hb d_m_places_61 rfl (lv_at hl 3 rfl) ?_
            obtain ⟨hi, h⟩ := h
            refine ma_scores hx hb hK hI hi d_m_places_62 ?_
            refine lv_aload_n hx hb d_m_places_63 rfl (lv_at hl 0 rfl) ?_
            refine mg_M_scores hx hb hts hown hK hI (hts _ q_677) d_m_places_64 ?_
            refine lv_iload_n hx hb d_m_places_67 rfl (lv_at hl 1 rfl) ?_
            obtain ⟨hi, h⟩ := h
            refine ma_scores hx hb hK hI hi d_m_places_68 ?_
            refine lv_icmp_ge hx hb d_m_places_69 rfl (fun hc => ?_) (fun hc => ?_)
            · have h := h.1 hc
              refine lv_aload_n hx hb d_m_places_78 rfl (lv_at hl 0 rfl) ?_
              refine mg_M_scores hx hb hts hown hK hI (hts _ q_677) d_m_places_79 ?_
              refine lv_iload_n hx hb d_m_places_82 rfl (lv_at hl 3 rfl) ?_
              obtain ⟨hi, h⟩ := h
              refine ma_scores hx hb hK hI hi d_m_places_83 ?_
              refine lv_aload_n hx hb d_m_places_84 rfl (lv_at hl 0 rfl) ?_
              refine mg_M_scores hx hb hts hown hK hI (hts _ q_677) d_m_places_85 ?_
              refine lv_iload_n hx hb d_m_places_88 rfl (lv_at hl 1 rfl) ?_
              obtain ⟨hi, h⟩ := h
              refine ma_scores hx hb hK hI hi d_m_places_89 ?_
              refine lv_icmp_ne hx hb d_m_places_90 rfl (fun hc => ?_) (fun hc => ?_)
              · have h := h.1 hc
                refine lv_iload_n hx hb d_m_places_99 rfl (lv_at hl 2 rfl) ?_
                exact k_m_places_100 cx0 ih hI (lv_sub hl [0, 1, 3] rfl) h
              · have h := h.2 hc
                refine lv_iload_n hx hb d_m_places_93 rfl (lv_at hl 2 rfl) ?_
                refine lv_iconst (v := 1) hx hb d_m_places_94 zc_iconst_1 ?_
                refine lv_iadd hx hb d_m_places_95 ?_
                refine lv_goto hx hb d_m_places_96 rfl ?_
                exact k_m_places_100 cx0 ih hI (lv_sub hl [0, 1, 3] rfl) h
            · have h := h.2 hc
              refine lv_iload_n hx hb d_m_places_72 rfl (lv_at hl 2 rfl) ?_
              refine lv_iconst (v := 2) hx hb d_m_places_73 zc_iconst_2 ?_
              refine lv_iadd hx hb d_m_places_74 ?_
              refine lv_goto hx hb d_m_places_75 rfl ?_
              exact k_m_places_100 cx0 ih hI (lv_sub hl [0, 1, 3] rfl) h
def b_m_places_14  (post : Int32 → ZS → Prop) (v1 : Int32) (s0 : Int32) (u : ZS) : Prop := ∃ n0, b_m_places_21 post n0 v1 0 0 (sI u 0 s0)
set_option maxRecDepth 100000 in
set_option maxHeartbeats 4000000 in
theorem k_m_places_14 {p : Program} {l : Launch} {e : Env} {R : Room} {s : State} {m : MethodId} {args : Array Value} {below : List Frame} {meth : Method} {c : Code} {D : va_G} {A : Nat → Prop} {ad : Nat → Nat} {ca : Nat → ClassId}  {post : Int32 → ZS → Prop} (cx : zx p R s m args meth c c_m_places 4 2 33 "ShortBridgeModel" (some .int) zG zNs D (mT ca)) {v1 : Int32} {s0 : Int32} {u : ZS} {H : Heap} {locs : List Loc} {ls : Array Slot} (hI : zw D A s.heap (mW ad ca u) H locs) (hl : lv_has ls 4 [(0, .ref (ad 0)), (1, .int v1)]) (h : b_m_places_14 post v1 s0 u) : W p l e R s m args below meth c H locs 0 0 (MQ below (va_Qi post (zE D (mT ca) (mW ad ca) A) A) args s 0 0 A) (F0 m 14 ls [.int s0, .ref (ad 0)]) := by
  have cx0 := cx
  obtain ⟨hx, hb, hml, hown, hts, hN, hK, hr, hlk, hfr, hlc⟩ := cx
  unfold b_m_places_14 at h
  refine mp_M_code hx hb hts hown hK hI (hts _ q_654) d_m_places_14 ?_
  intro H locs hI
  refine lv_iconst (v := 0) hx hb d_m_places_17 zc_iconst_0 ?_
  refine lv_istore_n hx hb d_m_places_18 rfl hl (by decide) rfl ?_
  intro ls hl
  have hl : lv_has ls 4 [(2, .int 0), (0, .ref (ad 0)), (1, .int v1)] := hl
  refine lv_iconst (v := 0) hx hb d_m_places_19 zc_iconst_0 ?_
  refine lv_istore_n hx hb d_m_places_20 rfl hl (by decide) rfl ?_
  intro ls hl
  have hl : lv_has ls 4 [(3, .int 0), (2, .int 0), (0, .ref (ad 0)), (1, .int v1)] := hl
  obtain ⟨n0, h⟩ := h
  exact k_m_places_21 cx0  n0 _ _ _ _ _ _ _ hI (lv_sub hl [2, 3, 1, 0] rfl) h
def w_m_places (v1 : Int32) (u : ZS) (post : Int32 → ZS → Prop) : Prop := w_m_isResult v1 u (fun r1 u2 => (r1 = 0 → b_m_places_14 post v1 1 u2) ∧ (¬ (r1 = 0) → b_m_places_14 post v1 0 u2))
set_option maxRecDepth 100000 in
set_option maxHeartbeats 4000000 in
theorem t_m_places (l : Launch) (D : va_G) (ad : Nat → Nat) (ca : Nat → ClassId) {v1 : Int32} {u : ZS} {post : Int32 → ZS → Prop} (h : w_m_places v1 u post) : zI l y_m_places (Cond.code y_m_places c_m_places 4 (some .int) :: zG) { frames := 2, cells := 0, slots := 0, locals := 33 } D (mT ca) zNs (mW ad ca) [.ref (ad 0), .int v1] u post := by
  refine zI_of (cc := c_m_places) (maxL := 4) (ret := (some .int)) (by decide) (Nat.le_of_ble_eq_true rfl) ?_
  intro p e s m args below meth c ls A cx hI hl
  have cx0 := cx
  obtain ⟨hx, hb, hml, hown, hts, hN, hK, hr, hlk, hfr, hlc⟩ := cx
  have hl : lv_has ls 4 [(0, .ref (ad 0)), (1, .int v1)] := hl
  unfold w_m_places at h
  refine lv_aload_n hx hb d_m_places_0 rfl (lv_at hl 0 rfl) ?_
  refine lv_aload_n hx hb d_m_places_1 rfl (lv_at hl 0 rfl) ?_
  refine lv_iload_n hx hb d_m_places_2 rfl (lv_at hl 1 rfl) ?_
  refine zr_i (va_runV (As := [.int v1]) (rest := [.ref (ad 0)]) ⟨hx, hb, hml, hown, hts⟩ (t_m_isResult l D ad ca h _) (cwV 1 hts (zg_V q_901 q_903 q_37 q_44 q_904) rfl rfl rfl ⟨rfl, hd_m_isResult⟩ ⟨Nat.le_trans (by decide) hfr, Nat.le_trans (by decide) hlc⟩) (z_preV zNs_ok hK hN hI 0 5 rfl rfl _) rfl rfl hl.1 rfl (lv_room (Nat.le_of_ble_eq_true rfl)) d_m_places_3 ⟨Nat.zero_le _, Nat.zero_le _⟩) hI ?_
  intro r1 u2 H locs h hI
  refine lv_if_eq hx hb d_m_places_6 rfl (fun hc => ?_) (fun hc => ?_)
  · have h := h.1 hc
    refine lv_iconst (v := 1) hx hb d_m_places_13 zc_iconst_1 ?_
    exact k_m_places_14 cx0  hI (lv_sub hl [0, 1] rfl) h
  · have h := h.2 hc
    refine lv_iconst (v := 0) hx hb d_m_places_9 zc_iconst_0 ?_
    refine lv_goto hx hb d_m_places_10 rfl ?_
    exact k_m_places_14 cx0  hI (lv_sub hl [0, 1] rfl) h
