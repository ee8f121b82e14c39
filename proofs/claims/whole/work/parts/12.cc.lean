def b_ha_takeHand_67  (post : ZS → Prop)  (u : ZS) : Prop := post u
set_option maxRecDepth 100000 in
set_option maxHeartbeats 4000000 in
theorem k_ha_takeHand_67 {p : Program} {l : Launch} {e : Env} {R : Room} {s : State} {m : MethodId} {args : Array Value} {below : List Frame} {meth : Method} {c : Code} {D : va_G} {A : Nat → Prop} {ad : Nat → Nat} {ca : Nat → ClassId}  {post : ZS → Prop} (cx : zx p R s m args meth c c_ha_takeHand 5 1 12 "ShortBridge$Hands" none zG zNs D (cT ca)) {u : ZS} {H : Heap} {locs : List Loc} {ls : Array Slot} (hI : zw D A s.heap (cW ad ca u) H locs) (hl : lv_has ls 5 []) (h : b_ha_takeHand_67 post  u) : W p l e R s m args below meth c H locs 0 0 (MQ below (va_Qv post (zE D (cT ca) (cW ad ca) A) A) args s 0 0 A) (F0 m 67 ls []) := by
  have cx0 := cx
  obtain ⟨hx, hb, hml, hown, hts, hN, hK, hr, hlk, hfr, hlc⟩ := cx
  unfold b_ha_takeHand_67 at h
  exact zret_v hx hb hr hlk hK hI h d_ha_takeHand_67
def b_ha_takeHand_61 (r15 : Int32 → Int32 → Int32 → ZS → Prop) (post : ZS → Prop) (v2 : Int32) (v3 : Int32) (v4 : Int32) (u : ZS) : Prop := r15 v2 v3 (v4 + (-1)) u
set_option maxRecDepth 100000 in
set_option maxHeartbeats 4000000 in
theorem k_ha_takeHand_61 {p : Program} {l : Launch} {e : Env} {R : Room} {s : State} {m : MethodId} {args : Array Value} {below : List Frame} {meth : Method} {c : Code} {D : va_G} {A : Nat → Prop} {ad : Nat → Nat} {ca : Nat → ClassId} {r15 : Int32 → Int32 → Int32 → ZS → Prop} {post : ZS → Prop} (cx : zx p R s m args meth c c_ha_takeHand 5 1 12 "ShortBridge$Hands" none zG zNs D (cT ca)) (hk15 : ∀ (v2 : Int32) (v3 : Int32) (v4 : Int32) (u : ZS) (H : Heap) (locs : List Loc) (ls : Array Slot), zw D A s.heap (cW ad ca u) H locs → lv_has ls 5 [(0, .ref (ad 3)), (1, .ref (ad 1)), (2, .int v2), (3, .int v3), (4, .int v4)] → r15 v2 v3 v4 u → W p l e R s m args below meth c H locs 0 0 (MQ below (va_Qv post (zE D (cT ca) (cW ad ca) A) A) args s 0 0 A) (F0 m 15 ls [])) {v2 : Int32} {v3 : Int32} {v4 : Int32} {u : ZS} {H : Heap} {locs : List Loc} {ls : Array Slot} (hI : zw D A s.heap (cW ad ca u) H locs) (hl : lv_has ls 5 [(0, .ref (ad 3)), (1, .ref (ad 1)), (2, .int v2), (3, .int v3), (4, .int v4)]) (h : b_ha_takeHand_61 r15 post v2 v3 v4 u) : W p l e R s m args below meth c H locs 0 0 (MQ below (va_Qv post (zE D (cT ca) (cW ad ca) A) A) args s 0 0 A) (F0 m 61 ls []) := by
  have cx0 := cx
  obtain ⟨hx, hb, hml, hown, hts, hN, hK, hr, hlk, hfr, hlc⟩ := cx
  unfold b_ha_takeHand_61 at h
  refine lv_iinc (k := 4) (v := (v4 + (-1))) hx hb d_ha_takeHand_61 hl rfl (zi_m1 _) (by decide) rfl ?_
  intro ls hl
  have hl : lv_has ls 5 [(4, .int (v4 + (-1))), (0, .ref (ad 3)), (1, .ref (ad 1)), (2, .int v2), (3, .int v3)] := hl
  refine lv_goto hx hb d_ha_takeHand_64 rfl ?_
  exact hk15 _ _ _ _ _ _ _ hI (lv_sub hl [1, 2, 3, 4, 0] rfl) h
def b_ha_takeHand_15  (post : ZS → Prop) : Nat → Int32 → Int32 → Int32 → ZS → Prop
  | 0, _, _, _, _ => False
  | n + 1, v2, v3, v4, u => (v4 < 0 → b_ha_takeHand_67 post u) ∧ (¬ (v4 < 0) → (20 ≤ v3 → b_ha_takeHand_67 post u) ∧ (¬ (20 ≤ v3) → vp_in v4 20 ∧ ((¬ (aI u 0 (Int32.toNatClampNeg v4)) = v2 → b_ha_takeHand_61 (b_ha_takeHand_15 post n) post v2 v3 v4 u) ∧ ((aI u 0 (Int32.toNatClampNeg v4)) = v2 → vp_in v2 4 ∧ (vp_in v2 4 ∧ (vp_in v3 20 ∧ (b_ha_takeHand_61 (b_ha_takeHand_15 post n) post v2 (v3 + 1) v4 (pI (pI u 4 (Int32.toNatClampNeg v2) ((aI u 4 (Int32.toNatClampNeg v2)) ||| (1 <<< (v4 &&& 31)))) 5 (Int32.toNatClampNeg v3) v4))))))))
set_option maxRecDepth 100000 in
set_option maxHeartbeats 4000000 in
theorem k_ha_takeHand_15 {p : Program} {l : Launch} {e : Env} {R : Room} {s : State} {m : MethodId} {args : Array Value} {below : List Frame} {meth : Method} {c : Code} {D : va_G} {A : Nat → Prop} {ad : Nat → Nat} {ca : Nat → ClassId}  {post : ZS → Prop} (cx : zx p R s m args meth c c_ha_takeHand 5 1 12 "ShortBridge$Hands" none zG zNs D (cT ca)) : ∀ (n : Nat) (v2 : Int32) (v3 : Int32) (v4 : Int32) (u : ZS) (H : Heap) (locs : List Loc) (ls : Array Slot), zw D A s.heap (cW ad ca u) H locs → lv_has ls 5 [(0, .ref (ad 3)), (1, .ref (ad 1)), (2, .int v2), (3, .int v3), (4, .int v4)] → b_ha_takeHand_15 post n v2 v3 v4 u → W p l e R s m args below meth c H locs 0 0 (MQ below (va_Qv post (zE D (cT ca) (cW ad ca) A) A) args s 0 0 A) (F0 m 15 ls []) := by
  have cx0 := cx
  obtain ⟨hx, hb, hml, hown, hts, hN, hK, hr, hlk, hfr, hlc⟩ := cx
  intro n
  induction n with
  | zero => intro v2 v3 v4 u H locs ls hI hl h; exact (h : False).elim
  | succ n ih =>
    intro v2 v3 v4 u H locs ls hI hl h
    unfold b_ha_takeHand_15 at h
    refine lv_iload hx hb d_ha_takeHand_15 (lv_at hl 4 rfl) ?_
    refine lv_if_lt hx hb d_ha_takeHand_17 rfl (fun hc => ?_) (fun hc => ?_)
    · have h := h.1 hc
      exact k_ha_takeHand_67 cx0  hI (lv_sub hl [] rfl) h
    · have h := h.2 hc
      refine lv_iload_n hx hb d_ha_takeHand_20 rfl (lv_at hl 3 rfl) ?_
      refine lv_bipush (v := 20) hx hb d_ha_takeHand_21 zc_bipush_20 ?_
      refine lv_icmp_ge hx hb d_ha_takeHand_23 rfl (fun hc => ?_) (fun hc => ?_)
      · have h := h.1 hc
        exact k_ha_takeHand_67 cx0  hI (lv_sub hl [] rfl) h
      · have h := h.2 hc
        refine lv_aload_n hx hb d_ha_takeHand_26 rfl (lv_at hl 1 rfl) ?_
        refine cg_Deal_owners_n hx hb hts hown hK hI (va_Nw.use rfl (hN _ nw_1)) d_ha_takeHand_27 ?_
        refine lv_iload hx hb d_ha_takeHand_30 (lv_at hl 4 rfl) ?_
        obtain ⟨hi, h⟩ := h
        refine ca_owners hx hb hK hI hi d_ha_takeHand_32 ?_
        refine lv_iload_n hx hb d_ha_takeHand_33 rfl (lv_at hl 2 rfl) ?_
        refine lv_icmp_ne hx hb d_ha_takeHand_34 rfl (fun hc => ?_) (fun hc => ?_)
        · have h := h.1 hc
          exact k_ha_takeHand_61 cx0 ih hI (lv_sub hl [0, 1, 2, 3, 4] rfl) h
        · have h := h.2 hc
          refine lv_aload_n hx hb d_ha_takeHand_37 rfl (lv_at hl 0 rfl) ?_
          refine cg_Hands_held hx hb hts hown hK hI (hts _ q_109) d_ha_takeHand_38 ?_
          refine lv_iload_n hx hb d_ha_takeHand_41 rfl (lv_at hl 2 rfl) ?_
          refine lv_dup2_11 hx hb d_ha_takeHand_42 rfl rfl ?_
          obtain ⟨hi, h⟩ := h
          refine ca_held hx hb hK hI hi d_ha_takeHand_43 ?_
          refine lv_iconst (v := 1) hx hb d_ha_takeHand_44 zc_iconst_1 ?_
          refine lv_iload hx hb d_ha_takeHand_45 (lv_at hl 4 rfl) ?_
          refine lv_ishl hx hb d_ha_takeHand_47 ?_
          refine lv_ior hx hb d_ha_takeHand_48 ?_
          obtain ⟨hi, h⟩ := h
          refine cs_held hx hb hK hI hi d_ha_takeHand_49 ?_
          intro H locs hI
          refine lv_aload_n hx hb d_ha_takeHand_50 rfl (lv_at hl 0 rfl) ?_
          refine cg_Hands_cards hx hb hts hown hK hI (hts _ q_110) d_ha_takeHand_51 ?_
          refine lv_iload_n hx hb d_ha_takeHand_54 rfl (lv_at hl 3 rfl) ?_
          refine lv_iload hx hb d_ha_takeHand_55 (lv_at hl 4 rfl) ?_
          obtain ⟨hi, h⟩ := h
          refine cs_cards hx hb hK hI hi d_ha_takeHand_57 ?_
          intro H locs hI
          refine lv_iinc (k := 3) (v := (v3 + 1)) hx hb d_ha_takeHand_58 hl rfl (zi_1 _) (by decide) rfl ?_
          intro ls hl
          have hl : lv_has ls 5 [(3, .int (v3 + 1)), (0, .ref (ad 3)), (1, .ref (ad 1)), (2, .int v2), (4, .int v4)] := hl
          exact k_ha_takeHand_61 cx0 ih hI (lv_sub hl [1, 2, 3, 0, 4] rfl) h
def w_ha_takeHand (v2 : Int32) (u : ZS) (post : ZS → Prop) : Prop := vp_in v2 4 ∧ (∃ n0, b_ha_takeHand_15 post n0 v2 (v2 * 5) 19 (pI u 4 (Int32.toNatClampNeg v2) 0))
set_option maxRecDepth 100000 in
set_option maxHeartbeats 4000000 in
theorem t_ha_takeHand (l : Launch) (D : va_G) (ad : Nat → Nat) (ca : Nat → ClassId) {v2 : Int32} {u : ZS} {post : ZS → Prop} (h : w_ha_takeHand v2 u post) : zV l y_ha_takeHand (Cond.code y_ha_takeHand c_ha_takeHand 5 none :: zG) { frames := 1, cells := 0, slots := 0, locals := 12 } D (cT ca) zNs (cW ad ca) [.ref (ad 3), .ref (ad 1), .int v2] u post := by
  refine zV_of (cc := c_ha_takeHand) (maxL := 5) (by decide) (Nat.le_of_ble_eq_true rfl) ?_
  intro p e s m args below meth c ls A cx hI hl
  have cx0 := cx
  obtain ⟨hx, hb, hml, hown, hts, hN, hK, hr, hlk, hfr, hlc⟩ := cx
  have hl : lv_has ls 5 [(0, .ref (ad 3)), (1, .ref (ad 1)), (2, .int v2)] := hl
  unfold w_ha_takeHand at h
  refine lv_aload_n hx hb d_ha_takeHand_0 rfl (lv_at hl 0 rfl) ?_
  refine cg_Hands_held hx hb hts hown hK hI (hts _ q_109) d_ha_takeHand_1 ?_
  refine lv_iload_n hx hb d_ha_takeHand_4 rfl (lv_at hl 2 rfl) ?_
  refine lv_iconst (v := 0) hx hb d_ha_takeHand_5 zc_iconst_0 ?_
  obtain ⟨hi, h⟩ := h
  refine cs_held hx hb hK hI hi d_ha_takeHand_6 ?_
  intro H locs hI
  refine lv_iload_n hx hb d_ha_takeHand_7 rfl (lv_at hl 2 rfl) ?_
  refine lv_iconst (v := 5) hx hb d_ha_takeHand_8 zc_iconst_5 ?_
  refine lv_imul hx hb d_ha_takeHand_9 ?_
  refine lv_istore_n hx hb d_ha_takeHand_10 rfl hl (by decide) rfl ?_
  intro ls hl
  have hl : lv_has ls 5 [(3, .int (v2 * 5)), (0, .ref (ad 3)), (1, .ref (ad 1)), (2, .int v2)] := hl
  refine lv_bipush (v := 19) hx hb d_ha_takeHand_11 zc_bipush_19 ?_
  refine lv_istore hx hb d_ha_takeHand_13 hl (by decide) rfl ?_
  intro ls hl
  have hl : lv_has ls 5 [(4, .int 19), (3, .int (v2 * 5)), (0, .ref (ad 3)), (1, .ref (ad 1)), (2, .int v2)] := hl
  obtain ⟨n0, h⟩ := h
  exact k_ha_takeHand_15 cx0  n0 _ _ _ _ _ _ _ hI (lv_sub hl [2, 3, 4, 1, 0] rfl) h
def b_ha_take_2  (post : ZS → Prop) : Nat → Int32 → ZS → Prop
  | 0, _, _ => False
  | n + 1, v2, u => (4 ≤ v2 → post (sI u 4 0)) ∧ (¬ (4 ≤ v2) → w_ha_takeHand v2 u (fun u2 => b_ha_take_2 post n (v2 + 1) u2))
set_option maxRecDepth 100000 in
set_option maxHeartbeats 4000000 in
theorem k_ha_take_2 {p : Program} {l : Launch} {e : Env} {R : Room} {s : State} {m : MethodId} {args : Array Value} {below : List Frame} {meth : Method} {c : Code} {D : va_G} {A : Nat → Prop} {ad : Nat → Nat} {ca : Nat → ClassId}  {post : ZS → Prop} (cx : zx p R s m args meth c c_ha_take 3 2 36 "ShortBridge$Hands" none zG zNs D (cT ca)) : ∀ (n : Nat) (v2 : Int32) (u : ZS) (H : Heap) (locs : List Loc) (ls : Array Slot), zw D A s.heap (cW ad ca u) H locs → lv_has ls 3 [(0, .ref (ad 3)), (1, .ref (ad 1)), (2, .int v2)] → b_ha_take_2 post n v2 u → W p l e R s m args below meth c H locs 0 0 (MQ below (va_Qv post (zE D (cT ca) (cW ad ca) A) A) args s 0 0 A) (F0 m 2 ls []) := by
  have cx0 := cx
  obtain ⟨hx, hb, hml, hown, hts, hN, hK, hr, hlk, hfr, hlc⟩ := cx
  intro n
  induction n with
  | zero => intro v2 u H locs ls hI hl h; exact (h : False).elim
  | succ n ih =>
    intro v2 u H locs ls hI hl h
    unfold b_ha_take_2 at h
    refine lv_iload_n hx hb d_ha_take_2 rfl (lv_at hl 2 rfl) ?_
    refine lv_iconst (v := 4) hx hb d_ha_take_3 zc_iconst_4 ?_
    refine lv_icmp_ge hx hb d_ha_take_4 rfl (fun hc => ?_) (fun hc => ?_)
    · have h := h.1 hc
      refine lv_aload_n hx hb d_ha_take_19 rfl (lv_at hl 0 rfl) ?_
      refine lv_iconst (v := 0) hx hb d_ha_take_20 zc_iconst_0 ?_
      refine cp_Hands_count hx hb hts hown hK hI (hts _ q_115) d_ha_take_21 ?_
      intro H locs hI
      exact zret_v hx hb hr hlk hK hI h d_ha_take_24
    · have h := h.2 hc
      refine lv_aload_n hx hb d_ha_take_7 rfl (lv_at hl 0 rfl) ?_
      refine lv_aload_n hx hb d_ha_take_8 rfl (lv_at hl 1 rfl) ?_
      refine lv_iload_n hx hb d_ha_take_9 rfl (lv_at hl 2 rfl) ?_
      refine zr_v (va_runV (As := [.ref (ad 1), .int v2]) (rest := []) ⟨hx, hb, hml, hown, hts⟩ (t_ha_takeHand l D ad ca h _) (cwV 2 hts (zg_V q_207 q_209 q_3 q_42 q_210) rfl rfl rfl ⟨rfl, hd_ha_takeHand⟩ ⟨Nat.le_trans (by decide) hfr, Nat.le_trans (by decide) hlc⟩) (z_preV zNs_ok hK hN hI 3 3 rfl rfl _) rfl rfl hl.1 rfl (lv_room (Nat.le_of_ble_eq_true rfl)) d_ha_take_10 ⟨Nat.zero_le _, Nat.zero_le _⟩) hI ?_
      intro u2 H locs h hI
      refine lv_iinc (k := 2) (v := (v2 + 1)) hx hb d_ha_take_13 hl rfl (zi_1 _) (by decide) rfl ?_
      intro ls hl
      have hl : lv_has ls 3 [(2, .int (v2 + 1)), (0, .ref (ad 3)), (1, .ref (ad 1))] := hl
      refine lv_goto hx hb d_ha_take_16 rfl ?_
      exact ih _ _ _ _ _ hI (lv_sub hl [1, 2, 0] rfl) h
def w_ha_take  (u : ZS) (post : ZS → Prop) : Prop := ∃ n0, b_ha_take_2 post n0 0 u
set_option maxRecDepth 100000 in
set_option maxHeartbeats 4000000 in
theorem t_ha_take (l : Launch) (D : va_G) (ad : Nat → Nat) (ca : Nat → ClassId)  {u : ZS} {post : ZS → Prop} (h : w_ha_take  u post) : zV l y_ha_take (Cond.code y_ha_take c_ha_take 3 none :: zG) { frames := 2, cells := 0, slots := 0, locals := 36 } D (cT ca) zNs (cW ad ca) [.ref (ad 3), .ref (ad 1)] u post := by
  refine zV_of (cc := c_ha_take) (maxL := 3) (by decide) (Nat.le_of_ble_eq_true rfl) ?_
  intro p e s m args below meth c ls A cx hI hl
  have cx0 := cx
  obtain ⟨hx, hb, hml, hown, hts, hN, hK, hr, hlk, hfr, hlc⟩ := cx
  have hl : lv_has ls 3 [(0, .ref (ad 3)), (1, .ref (ad 1))] := hl
  unfold w_ha_take at h
  refine lv_iconst (v := 0) hx hb d_ha_take_0 zc_iconst_0 ?_
  refine lv_istore_n hx hb d_ha_take_1 rfl hl (by decide) rfl ?_
  intro ls hl
  have hl : lv_has ls 3 [(2, .int 0), (0, .ref (ad 3)), (1, .ref (ad 1))] := hl
  obtain ⟨n0, h⟩ := h
  exact k_ha_take_2 cx0  n0 _ _ _ _ _ hI (lv_sub hl [1, 2, 0] rfl) h
def b_ha_areEmpty_14  (post : Int32 → ZS → Prop) (s0 : Int32) (u : ZS) : Prop := (s0 = 0 ∨ s0 = 1) ∧ post s0 u
set_option maxRecDepth 100000 in
set_option maxHeartbeats 4000000 in
theorem k_ha_areEmpty_14 {p : Program} {l : Launch} {e : Env} {R : Room} {s : State} {m : MethodId} {args : Array Value} {below : List Frame} {meth : Method} {c : Code} {D : va_G} {A : Nat → Prop} {ad : Nat → Nat} {ca : Nat → ClassId}  {post : Int32 → ZS → Prop} (cx : zx p R s m args meth c c_ha_areEmpty 1 1 12 "ShortBridge$Hands" (some .boolean) zG zNs D (cT ca)) {s0 : Int32} {u : ZS} {H : Heap} {locs : List Loc} {ls : Array Slot} (hI : zw D A s.heap (cW ad ca u) H locs) (hl : lv_has ls 1 []) (h : b_ha_areEmpty_14 post s0 u) : W p l e R s m args below meth c H locs 0 0 (MQ below (va_Qi post (zE D (cT ca) (cW ad ca) A) A) args s 0 0 A) (F0 m 14 ls [.int s0]) := by
  have cx0 := cx
  obtain ⟨hx, hb, hml, hown, hts, hN, hK, hr, hlk, hfr, hlc⟩ := cx
  unfold b_ha_areEmpty_14 at h
  exact zret_z hx hb hr hlk hK hI h.1 h.2 d_ha_areEmpty_14
def w_ha_areEmpty  (u : ZS) (post : Int32 → ZS → Prop) : Prop := (¬ (fI u 4) = 20 → b_ha_areEmpty_14 post 0 u) ∧ ((fI u 4) = 20 → b_ha_areEmpty_14 post 1 u)
set_option maxRecDepth 100000 in
set_option maxHeartbeats 4000000 in
theorem t_ha_areEmpty (l : Launch) (D : va_G) (ad : Nat → Nat) (ca : Nat → ClassId)  {u : ZS} {post : Int32 → ZS → Prop} (h : w_ha_areEmpty  u post) : zI l y_ha_areEmpty (Cond.code y_ha_areEmpty c_ha_areEmpty 1 (some .boolean) :: zG) { frames := 1, cells := 0, slots := 0, locals := 12 } D (cT ca) zNs (cW ad ca) [.ref (ad 3)] u post := by
  refine zI_of (cc := c_ha_areEmpty) (maxL := 1) (ret := (some .boolean)) (by decide) (Nat.le_of_ble_eq_true rfl) ?_
  intro p e s m args below meth c ls A cx hI hl
  have cx0 := cx
  obtain ⟨hx, hb, hml, hown, hts, hN, hK, hr, hlk, hfr, hlc⟩ := cx
  have hl : lv_has ls 1 [(0, .ref (ad 3))] := hl
  unfold w_ha_areEmpty at h
  refine lv_aload_n hx hb d_ha_areEmpty_0 rfl (lv_at hl 0 rfl) ?_
  refine cg_Hands_count hx hb hts hown hK hI (hts _ q_115) d_ha_areEmpty_1 ?_
  refine lv_bipush (v := 20) hx hb d_ha_areEmpty_4 zc_bipush_20 ?_
  refine lv_icmp_ne hx hb d_ha_areEmpty_6 rfl (fun hc => ?_) (fun hc => ?_)
  · have h := h.1 hc
    refine lv_iconst (v := 0) hx hb d_ha_areEmpty_13 zc_iconst_0 ?_
    exact k_ha_areEmpty_14 cx0  hI (lv_sub hl [] rfl) h
  · have h := h.2 hc
    refine lv_iconst (v := 1) hx hb d_ha_areEmpty_9 zc_iconst_1 ?_
    refine lv_goto hx hb d_ha_areEmpty_10 rfl ?_
    exact k_ha_areEmpty_14 cx0  hI (lv_sub hl [] rfl) h
def w_ha_player  (u : ZS) (post : Int32 → ZS → Prop) : Prop := vp_in ((fI u 4) / 4) 6 ∧ (w_x_playerBehind (aI u 7 (Int32.toNatClampNeg ((fI u 4) / 4))) ((fI u 4) - (fI u 4) / 4 * 4) u (fun r1 u2 => post r1 u2))
set_option maxRecDepth 100000 in
set_option maxHeartbeats 4000000 in
theorem t_ha_player (l : Launch) (D : va_G) (ad : Nat → Nat) (ca : Nat → ClassId)  {u : ZS} {post : Int32 → ZS → Prop} (h : w_ha_player  u post) : zI l y_ha_player (Cond.code y_ha_player c_ha_player 1 (some .int) :: zG) { frames := 2, cells := 0, slots := 0, locals := 33 } D (cT ca) zNs (cW ad ca) [.ref (ad 3)] u post := by
  refine zI_of (cc := c_ha_player) (maxL := 1) (ret := (some .int)) (by decide) (Nat.le_of_ble_eq_true rfl) ?_
  intro p e s m args below meth c ls A cx hI hl
  have cx0 := cx
  obtain ⟨hx, hb, hml, hown, hts, hN, hK, hr, hlk, hfr, hlc⟩ := cx
  have hl : lv_has ls 1 [(0, .ref (ad 3))] := hl
  unfold w_ha_player at h
  refine lv_aload_n hx hb d_ha_player_0 rfl (lv_at hl 0 rfl) ?_
  refine cg_Hands_leaders hx hb hts hown hK hI (hts _ q_113) d_ha_player_1 ?_
  refine lv_aload_n hx hb d_ha_player_4 rfl (lv_at hl 0 rfl) ?_
  refine cg_Hands_count hx hb hts hown hK hI (hts _ q_115) d_ha_player_5 ?_
  refine lv_iconst (v := 4) hx hb d_ha_player_8 zc_iconst_4 ?_
  refine lv_idiv hx hb d_ha_player_9 (by decide) ?_
  obtain ⟨hi, h⟩ := h
  refine ca_leaders hx hb hK hI hi d_ha_player_10 ?_
  refine lv_aload_n hx hb d_ha_player_11 rfl (lv_at hl 0 rfl) ?_
  refine cg_Hands_count hx hb hts hown hK hI (hts _ q_115) d_ha_player_12 ?_
  refine lv_iconst (v := 4) hx hb d_ha_player_15 zc_iconst_4 ?_
  refine lv_irem hx hb d_ha_player_16 (by decide) ?_
  refine zr_i (va_runSN (As := [.int (aI u 7 (Int32.toNatClampNeg ((fI u 4) / 4))), .int ((fI u 4) - (fI u 4) / 4 * 4)]) (rest := []) ⟨hx, hb, hml, hown, hts⟩ (t_x_playerBehind l D ad ca h _) ⟨va_cnB 2 hts (zg_c q_269) rfl rfl rfl (hN _ nw_13) (hts _ q_39) hd_x_playerBehind ⟨Nat.le_trans (by decide) hfr, Nat.le_trans (by decide) hlc⟩, hts _ q_268, trivial⟩ (z_preS zNs_ok hK hN hI _) rfl rfl hl.1 rfl (lv_room (Nat.le_of_ble_eq_true rfl)) d_ha_player_17 ⟨Nat.zero_le _, Nat.zero_le _⟩) hI ?_
  intro r1 u2 H locs h hI
  exact zret_i hx hb hr hlk hK hI h d_ha_player_20
def b_ha_holds_29  (post : Int32 → ZS → Prop) (s0 : Int32) (u : ZS) : Prop := (s0 = 0 ∨ s0 = 1) ∧ post s0 u
set_option maxRecDepth 100000 in
set_option maxHeartbeats 4000000 in
theorem k_ha_holds_29 {p : Program} {l : Launch} {e : Env} {R : Room} {s : State} {m : MethodId} {args : Array Value} {below : List Frame} {meth : Method} {c : Code} {D : va_G} {A : Nat → Prop} {ad : Nat → Nat} {ca : Nat → ClassId}  {post : Int32 → ZS → Prop} (cx : zx p R s m args meth c c_ha_holds 3 1 12 "ShortBridge$Hands" (some .boolean) zG zNs D (cT ca)) {s0 : Int32} {u : ZS} {H : Heap} {locs : List Loc} {ls : Array Slot} (hI : zw D A s.heap (cW ad ca u) H locs) (hl : lv_has ls 3 []) (h : b_ha_holds_29 post s0 u) : W p l e R s m args below meth c H locs 0 0 (MQ below (va_Qi post (zE D (cT ca) (cW ad ca) A) A) args s 0 0 A) (F0 m 29 ls [.int s0]) := by
  have cx0 := cx
  obtain ⟨hx, hb, hml, hown, hts, hN, hK, hr, hlk, hfr, hlc⟩ := cx
  unfold b_ha_holds_29 at h
  exact zret_z hx hb hr hlk hK hI h.1 h.2 d_ha_holds_29
def b_ha_holds_28  (post : Int32 → ZS → Prop)  (u : ZS) : Prop := b_ha_holds_29 post 0 u
set_option maxRecDepth 100000 in
set_option maxHeartbeats 4000000 in
theorem k_ha_holds_28 {p : Program} {l : Launch} {e : Env} {R : Room} {s : State} {m : MethodId} {args : Array Value} {below : List Frame} {meth : Method} {c : Code} {D : va_G} {A : Nat → Prop} {ad : Nat → Nat} {ca : Nat → ClassId}  {post : Int32 → ZS → Prop} (cx : zx p R s m args meth c c_ha_holds 3 1 12 "ShortBridge$Hands" (some .boolean) zG zNs D (cT ca)) {u : ZS} {H : Heap} {locs : List Loc} {ls : Array Slot} (hI : zw D A s.heap (cW ad ca u) H locs) (hl : lv_has ls 3 []) (h : b_ha_holds_28 post  u) : W p l e R s m args below meth c H locs 0 0 (MQ below (va_Qi post (zE D (cT ca) (cW ad ca) A) A) args s 0 0 A) (F0 m 28 ls []) := by
  have cx0 := cx
  obtain ⟨hx, hb, hml, hown, hts, hN, hK, hr, hlk, hfr, hlc⟩ := cx
  unfold b_ha_holds_28 at h
  refine lv_iconst (v := 0) hx hb d_ha_holds_28 zc_iconst_0 ?_
  exact k_ha_holds_29 cx0  hI (lv_sub hl [] rfl) h
def w_ha_holds (v1 : Int32) (v2 : Int32) (u : ZS) (post : Int32 → ZS → Prop) : Prop := (v2 < 0 → b_ha_holds_28 post u) ∧ (¬ (v2 < 0) → (20 ≤ v2 → b_ha_holds_28 post u) ∧ (¬ (20 ≤ v2) → vp_in v1 4 ∧ ((¬ (((aI u 4 (Int32.toNatClampNeg v1)) >>> (v2 &&& 31)) &&& 1) = 1 → b_ha_holds_28 post u) ∧ ((((aI u 4 (Int32.toNatClampNeg v1)) >>> (v2 &&& 31)) &&& 1) = 1 → b_ha_holds_29 post 1 u))))
set_option maxRecDepth 100000 in
set_option maxHeartbeats 4000000 in
theorem t_ha_holds (l : Launch) (D : va_G) (ad : Nat → Nat) (ca : Nat → ClassId) {v1 : Int32} {v2 : Int32} {u : ZS} {post : Int32 → ZS → Prop} (h : w_ha_holds v1 v2 u post) : zI l y_ha_holds (Cond.code y_ha_holds c_ha_holds 3 (some .boolean) :: zG) { frames := 1, cells := 0, slots := 0, locals := 12 } D (cT ca) zNs (cW ad ca) [.ref (ad 3), .int v1, .int v2] u post := by
  refine zI_of (cc := c_ha_holds) (maxL := 3) (ret := (some .boolean)) (by decide) (Nat.le_of_ble_eq_true rfl) ?_
  intro p e s m args below meth c ls A cx hI hl
  have cx0 := cx
  obtain ⟨hx, hb, hml, hown, hts, hN, hK, hr, hlk, hfr, hlc⟩ := cx
  have hl : lv_has ls 3 [(0, .ref (ad 3)), (1, .int v1), (2, .int v2)] := hl
  unfold w_ha_holds at h
  refine lv_iload_n hx hb d_ha_holds_0 rfl (lv_at hl 2 rfl) ?_
  refine lv_if_lt hx hb d_ha_holds_1 rfl (fun hc => ?_) (fun hc => ?_)
  · have h := h.1 hc
    exact k_ha_holds_28 cx0  hI (lv_sub hl [] rfl) h
  · have h := h.2 hc
    refine lv_iload_n hx hb d_ha_holds_4 rfl (lv_at hl 2 rfl) ?_
    refine lv_bipush (v := 20) hx hb d_ha_holds_5 zc_bipush_20 ?_
    refine lv_icmp_ge hx hb d_ha_holds_7 rfl (fun hc => ?_) (fun hc => ?_)
    · have h := h.1 hc
      exact k_ha_holds_28 cx0  hI (lv_sub hl [] rfl) h
    · have h := h.2 hc
      refine lv_aload_n hx hb d_ha_holds_10 rfl (lv_at hl 0 rfl) ?_
      refine cg_Hands_held hx hb hts hown hK hI (hts _ q_109) d_ha_holds_11 ?_
      refine lv_iload_n hx hb d_ha_holds_14 rfl (lv_at hl 1 rfl) ?_
      obtain ⟨hi, h⟩ := h
      refine ca_held hx hb hK hI hi d_ha_holds_15 ?_
      refine lv_iload_n hx hb d_ha_holds_16 rfl (lv_at hl 2 rfl) ?_
      refine lv_ishr hx hb d_ha_holds_17 ?_
      refine lv_iconst (v := 1) hx hb d_ha_holds_18 zc_iconst_1 ?_
      refine lv_iand hx hb d_ha_holds_19 ?_
      refine lv_iconst (v := 1) hx hb d_ha_holds_20 zc_iconst_1 ?_
      refine lv_icmp_ne hx hb d_ha_holds_21 rfl (fun hc => ?_) (fun hc => ?_)
      · have h := h.1 hc
        exact k_ha_holds_28 cx0  hI (lv_sub hl [] rfl) h
      · have h := h.2 hc
        refine lv_iconst (v := 1) hx hb d_ha_holds_24 zc_iconst_1 ?_
        refine lv_goto hx hb d_ha_holds_25 rfl ?_
        exact k_ha_holds_29 cx0  hI (lv_sub hl [] rfl) h
def b_ha_takeBack_40  (post : ZS → Prop)  (u : ZS) : Prop := post u
set_option maxRecDepth 100000 in
set_option maxHeartbeats 4000000 in
theorem k_ha_takeBack_40 {p : Program} {l : Launch} {e : Env} {R : Room} {s : State} {m : MethodId} {args : Array Value} {below : List Frame} {meth : Method} {c : Code} {D : va_G} {A : Nat → Prop} {ad : Nat → Nat} {ca : Nat → ClassId}  {post : ZS → Prop} (cx : zx p R s m args meth c c_ha_takeBack 1 3 53 "ShortBridge$Hands" none zG zNs D (cT ca)) {u : ZS} {H : Heap} {locs : List Loc} {ls : Array Slot} (hI : zw D A s.heap (cW ad ca u) H locs) (hl : lv_has ls 1 []) (h : b_ha_takeBack_40 post  u) : W p l e R s m args below meth c H locs 0 0 (MQ below (va_Qv post (zE D (cT ca) (cW ad ca) A) A) args s 0 0 A) (F0 m 40 ls []) := by
  have cx0 := cx
  obtain ⟨hx, hb, hml, hown, hts, hN, hK, hr, hlk, hfr, hlc⟩ := cx
  unfold b_ha_takeBack_40 at h
  exact zret_v hx hb hr hlk hK hI h d_ha_takeBack_40
def w_ha_takeBack  (u : ZS) (post : ZS → Prop) : Prop := ((fI u 4) ≤ 0 → b_ha_takeBack_40 post u) ∧ (¬ ((fI u 4) ≤ 0) → w_ha_player  (sI u 4 ((fI u 4) - 1)) (fun r1 u2 => vp_in r1 4 ∧ (vp_in (fI u2 4) 20 ∧ (vp_in r1 4 ∧ (b_ha_takeBack_40 post (pI u2 4 (Int32.toNatClampNeg r1) ((aI u2 4 (Int32.toNatClampNeg r1)) ||| (1 <<< ((aI u2 6 (Int32.toNatClampNeg (fI u2 4))) &&& 31)))))))))
set_option maxRecDepth 100000 in
set_option maxHeartbeats 4000000 in
theorem t_ha_takeBack (l : Launch) (D : va_G) (ad : Nat → Nat) (ca : Nat → ClassId)  {u : ZS} {post : ZS → Prop} (h : w_ha_takeBack  u post) : zV l y_ha_takeBack (Cond.code y_ha_takeBack c_ha_takeBack 1 none :: zG) { frames := 3, cells := 0, slots := 0, locals := 53 } D (cT ca) zNs (cW ad ca) [.ref (ad 3)] u post := by
  refine zV_of (cc := c_ha_takeBack) (maxL := 1) (by decide) (Nat.le_of_ble_eq_true rfl) ?_
  intro p e s m args below meth c ls A cx hI hl
  have cx0 := cx
  obtain ⟨hx, hb, hml, hown, hts, hN, hK, hr, hlk, hfr, hlc⟩ := cx
  have hl : lv_has ls 1 [(0, .ref (ad 3))] := hl
  unfold w_ha_takeBack at h
  refine lv_aload_n hx hb d_ha_takeBack_0 rfl (lv_at hl 0 rfl) ?_
  refine cg_Hands_count hx hb hts hown hK hI (hts _ q_115) d_ha_takeBack_1 ?_
  refine lv_if_le hx hb d_ha_takeBack_4 rfl (fun hc => ?_) (fun hc => ?_)
  · have h := h.1 hc
    exact k_ha_takeBack_40 cx0  hI (lv_sub hl [] rfl) h
  · have h := h.2 hc
    refine lv_aload_n hx hb d_ha_takeBack_7 rfl (lv_at hl 0 rfl) ?_
    refine lv_dup hx hb d_ha_takeBack_8 rfl ?_
    refine cg_Hands_count hx hb hts hown hK hI (hts _ q_115) d_ha_takeBack_9 ?_
    refine lv_iconst (v := 1) hx hb d_ha_takeBack_12 zc_iconst_1 ?_
    refine lv_isub hx hb d_ha_takeBack_13 ?_
    refine cp_Hands_count hx hb hts hown hK hI (hts _ q_115) d_ha_takeBack_14 ?_
    intro H locs hI
    refine lv_aload_n hx hb d_ha_takeBack_17 rfl (lv_at hl 0 rfl) ?_
    refine cg_Hands_held hx hb hts hown hK hI (hts _ q_109) d_ha_takeBack_18 ?_
    refine lv_aload_n hx hb d_ha_takeBack_21 rfl (lv_at hl 0 rfl) ?_
    refine zr_i (va_runV (As := []) (rest := [.ref (ad 9)]) ⟨hx, hb, hml, hown, hts⟩ (t_ha_player l D ad ca h _) (cwV 0 hts (zg_V q_291 q_271 q_272 q_42 q_273) rfl rfl rfl ⟨rfl, hd_ha_player⟩ ⟨Nat.le_trans (by decide) hfr, Nat.le_trans (by decide) hlc⟩) (z_preV zNs_ok hK hN hI 3 3 rfl rfl _) rfl rfl hl.1 rfl (lv_room (Nat.le_of_ble_eq_true rfl)) d_ha_takeBack_22 ⟨Nat.zero_le _, Nat.zero_le _⟩) hI ?_
    intro r1 u2 H locs h hI
    refine lv_dup2_11 hx hb d_ha_takeBack_25 rfl rfl ?_
    obtain ⟨hi, h⟩ := h
    refine ca_held hx hb hK hI hi d_ha_takeBack_26 ?_
    refine lv_iconst (v := 1) hx hb d_ha_takeBack_27 zc_iconst_1 ?_
    refine lv_aload_n hx hb d_ha_takeBack_28 rfl (lv_at hl 0 rfl) ?_
    refine cg_Hands_played hx hb hts hown hK hI (hts _ q_112) d_ha_takeBack_29 ?_
    refine lv_aload_n hx hb d_ha_takeBack_32 rfl (lv_at hl 0 rfl) ?_
    refine cg_Hands_count hx hb hts hown hK hI (hts _ q_115) d_ha_takeBack_33 ?_
    obtain ⟨hi, h⟩ := h
    refine ca_played hx hb hK hI hi d_ha_takeBack_36 ?_
    refine lv_ishl hx hb d_ha_takeBack_37 ?_
    refine lv_ior hx hb d_ha_takeBack_38 ?_
    obtain ⟨hi, h⟩ := h
    refine cs_held hx hb hK hI hi d_ha_takeBack_39 ?_
    intro H locs hI
    exact k_ha_takeBack_40 cx0  hI (lv_sub hl [] rfl) h
def b_ha_won_30 (r4 : Int32 → Int32 → Int32 → ZS → Prop) (post : Int32 → ZS → Prop) (v1 : Int32) (v2 : Int32) (v3 : Int32) (u : ZS) : Prop := r4 v1 v2 (v3 + 1) u
set_option maxRecDepth 100000 in
set_option maxHeartbeats 4000000 in
theorem k_ha_won_30 {p : Program} {l : Launch} {e : Env} {R : Room} {s : State} {m : MethodId} {args : Array Value} {below : List Frame} {meth : Method} {c : Code} {D : va_G} {A : Nat → Prop} {ad : Nat → Nat} {ca : Nat → ClassId} {r4 : Int32 → Int32 → Int32 → ZS → Prop} {post : Int32 → ZS → Prop} (cx : zx p R s m args meth c c_ha_won 4 2 32 "ShortBridge$Hands" (some .int) zG zNs D (cT ca)) (hk4 : ∀ (v1 : Int32) (v2 : Int32) (v3 : Int32) (u : ZS) (H : Heap) (locs : List Loc) (ls : Array Slot), zw D A s.heap (cW ad ca u) H locs → lv_has ls 4 [(0, .ref (ad 3)), (1, .int v1), (2, .int v2), (3, .int v3)] → r4 v1 v2 v3 u → W p l e R s m args below meth c H locs 0 0 (MQ below (va_Qi post (zE D (cT ca) (cW ad ca) A) A) args s 0 0 A) (F0 m 4 ls [])) {v1 : Int32} {v2 : Int32} {v3 : Int32} {u : ZS} {H : Heap} {locs : List Loc} {ls : Array Slot} (hI : zw D A s.heap (cW ad ca u) H locs) (hl : lv_has ls 4 [(0, .ref (ad 3)), (1, .int v1), (2, .int v2), (3, .int v3)]) (h : b_ha_won_30 r4 post v1 v2 v3 u) : W p l e R s m args below meth c H locs 0 0 (MQ below (va_Qi post (zE D (cT ca) (cW ad ca) A) A) args s 0 0 A) (F0 m 30 ls []) := by
  have cx0 := cx
  obtain ⟨hx, hb, hml, hown, hts, hN, hK, hr, hlk, hfr, hlc⟩ := cx
  unfold b_ha_won_30 at h
  refine lv_iinc (k := 3) (v := (v3 + 1)) hx hb d_ha_won_30 hl rfl (zi_1 _) (by decide) rfl ?_
  intro ls hl
  have hl : lv_has ls 4 [(3, .int (v3 + 1)), (0, .ref (ad 3)), (1, .int v1), (2, .int v2)] := hl
  refine lv_goto hx hb d_ha_won_33 rfl ?_
  exact hk4 _ _ _ _ _ _ _ hI (lv_sub hl [1, 2, 3, 0] rfl) h
def b_ha_won_4  (post : Int32 → ZS → Prop) : Nat → Int32 → Int32 → Int32 → ZS → Prop
  | 0, _, _, _, _ => False
  | n + 1, v1, v2, v3, u => (((fI u 4) / 4) < v3 → post v2 u) ∧ (¬ (((fI u 4) / 4) < v3) → vp_in v3 6 ∧ (w_x_sideOf (aI u 7 (Int32.toNatClampNeg v3)) u (fun r1 u2 => (¬ r1 = v1 → b_ha_won_30 (b_ha_won_4 post n) post v1 v2 v3 u2) ∧ (r1 = v1 → b_ha_won_30 (b_ha_won_4 post n) post v1 (v2 + 1) v3 u2))))
set_option maxRecDepth 100000 in
set_option maxHeartbeats 4000000 in
theorem k_ha_won_4 {p : Program} {l : Launch} {e : Env} {R : Room} {s : State} {m : MethodId} {args : Array Value} {below : List Frame} {meth : Method} {c : Code} {D : va_G} {A : Nat → Prop} {ad : Nat → Nat} {ca : Nat → ClassId}  {post : Int32 → ZS → Prop} (cx : zx p R s m args meth c c_ha_won 4 2 32 "ShortBridge$Hands" (some .int) zG zNs D (cT ca)) : ∀ (n : Nat) (v1 : Int32) (v2 : Int32) (v3 : Int32) (u : ZS) (H : Heap) (locs : List Loc) (ls : Array Slot), zw D A s.heap (cW ad ca u) H locs → lv_has ls 4 [(0, .ref (ad 3)), (1, .int v1), (2, .int v2), (3, .int v3)] → b_ha_won_4 post n v1 v2 v3 u → W p l e R s m args below meth c H locs 0 0 (MQ below (va_Qi post (zE D (cT ca) (cW ad ca) A) A) args s 0 0 A) (F0 m 4 ls []) := by
  have cx0 := cx
  obtain ⟨hx, hb, hml, hown, hts, hN, hK, hr, hlk, hfr, hlc⟩ := cx
  intro n
  induction n with
  | zero => intro v1 v2 v3 u H locs ls hI hl h; exact (h : False).elim
  | succ n ih =>
    intro v1 v2 v3 u H locs ls hI hl h
    unfold b_ha_won_4 at h
    refine lv_iload_n hx hb d_ha_won_4 rfl (lv_at hl 3 rfl) ?_
    refine lv_aload_n hx hb d_ha_won_5 rfl (lv_at hl 0 rfl) ?_
    refine cg_Hands_count hx hb hts hown hK hI (hts _ q_115) d_ha_won_6 ?_
    refine lv_iconst (v := 4) hx hb d_ha_won_9 zc_iconst_4 ?_
    refine lv_idiv hx hb d_ha_won_10 (by decide) ?_
    refine lv_icmp_gt hx hb d_ha_won_11 rfl (fun hc => ?_) (fun hc => ?_)
    · have h := h.1 hc
      refine lv_iload_n hx hb d_ha_won_36 rfl (lv_at hl 2 rfl) ?_
      exact zret_i hx hb hr hlk hK hI h d_ha_won_37
    · have h := h.2 hc
      refine lv_aload_n hx hb d_ha_won_14 rfl (lv_at hl 0 rfl) ?_
      refine cg_Hands_leaders hx hb hts hown hK hI (hts _ q_113) d_ha_won_15 ?_
      refine lv_iload_n hx hb d_ha_won_18 rfl (lv_at hl 3 rfl) ?_
      obtain ⟨hi, h⟩ := h
      refine ca_leaders hx hb hK hI hi d_ha_won_19 ?_
      refine zr_i (va_runSN (As := [.int (aI u 7 (Int32.toNatClampNeg v3))]) (rest := []) ⟨hx, hb, hml, hown, hts⟩ (t_x_sideOf l D ad ca h _) ⟨va_cnB 1 hts (zg_c q_314) rfl rfl rfl (hN _ nw_15) (hts _ q_39) hd_x_sideOf ⟨Nat.le_trans (by decide) hfr, Nat.le_trans (by decide) hlc⟩, hts _ q_313, trivial⟩ (z_preS zNs_ok hK hN hI _) rfl rfl hl.1 rfl (lv_room (Nat.le_of_ble_eq_true rfl)) d_ha_won_20 ⟨Nat.zero_le _, Nat.zero_le _⟩) hI ?_
      intro r1 u2 H locs h hI
      refine lv_iload_n hx hb d_ha_won_23 rfl (lv_at hl 1 rfl) ?_
      refine lv_icmp_ne hx hb d_ha_won_24 rfl (fun hc => ?_) (fun hc => ?_)
      · have h := h.1 hc
        exact k_ha_won_30 cx0 ih hI (lv_sub hl [0, 1, 2, 3] rfl) h
      · have h := h.2 hc
        refine lv_iinc (k := 2) (v := (v2 + 1)) hx hb d_ha_won_27 hl rfl (zi_1 _) (by decide) rfl ?_
        intro ls hl
        have hl : lv_has ls 4 [(2, .int (v2 + 1)), (0, .ref (ad 3)), (1, .int v1), (3, .int v3)] := hl
        exact k_ha_won_30 cx0 ih hI (lv_sub hl [1, 2, 0, 3] rfl) h
def w_ha_won (v1 : Int32) (u : ZS) (post : Int32 → ZS → Prop) : Prop := ∃ n0, b_ha_won_4 post n0 v1 0 1 u
set_option maxRecDepth 100000 in
set_option maxHeartbeats 4000000 in
theorem t_ha_won (l : Launch) (D : va_G) (ad : Nat → Nat) (ca : Nat → ClassId) {v1 : Int32} {u : ZS} {post : Int32 → ZS → Prop} (h : w_ha_won v1 u post) : zI l y_ha_won (Cond.code y_ha_won c_ha_won 4 (some .int) :: zG) { frames := 2, cells := 0, slots := 0, locals := 32 } D (cT ca) zNs (cW ad ca) [.ref (ad 3), .int v1] u post := by
  refine zI_of (cc := c_ha_won) (maxL := 4) (ret := (some .int)) (by decide) (Nat.le_of_ble_eq_true rfl) ?_
  intro p e s m args below meth c ls A cx hI hl
  have cx0 := cx
  obtain ⟨hx, hb, hml, hown, hts, hN, hK, hr, hlk, hfr, hlc⟩ := cx
  have hl : lv_has ls 4 [(0, .ref (ad 3)), (1, .int v1)] := hl
  unfold w_ha_won at h
  refine lv_iconst (v := 0) hx hb d_ha_won_0 zc_iconst_0 ?_
  refine lv_istore_n hx hb d_ha_won_1 rfl hl (by decide) rfl ?_
  intro ls hl
  have hl : lv_has ls 4 [(2, .int 0), (0, .ref (ad 3)), (1, .int v1)] := hl
  refine lv_iconst (v := 1) hx hb d_ha_won_2 zc_iconst_1 ?_
  refine lv_istore_n hx hb d_ha_won_3 rfl hl (by decide) rfl ?_
  intro ls hl
  have hl : lv_has ls 4 [(3, .int 1), (2, .int 0), (0, .ref (ad 3)), (1, .int v1)] := hl
  obtain ⟨n0, h⟩ := h
  exact k_ha_won_4 cx0  n0 _ _ _ _ _ _ _ hI (lv_sub hl [2, 3, 1, 0] rfl) h
def b_ha_onTable_33  (post : Int32 → ZS → Prop) (s0 : Int32) (u : ZS) : Prop := post s0 u
set_option maxRecDepth 100000 in
set_option maxHeartbeats 4000000 in
theorem k_ha_onTable_33 {p : Program} {l : Launch} {e : Env} {R : Room} {s : State} {m : MethodId} {args : Array Value} {below : List Frame} {meth : Method} {c : Code} {D : va_G} {A : Nat → Prop} {ad : Nat → Nat} {ca : Nat → ClassId}  {post : Int32 → ZS → Prop} (cx : zx p R s m args meth c c_ha_onTable 3 1 12 "ShortBridge$Hands" (some .int) zG zNs D (cT ca)) {s0 : Int32} {u : ZS} {H : Heap} {locs : List Loc} {ls : Array Slot} (hI : zw D A s.heap (cW ad ca u) H locs) (hl : lv_has ls 3 []) (h : b_ha_onTable_33 post s0 u) : W p l e R s m args below meth c H locs 0 0 (MQ below (va_Qi post (zE D (cT ca) (cW ad ca) A) A) args s 0 0 A) (F0 m 33 ls [.int s0]) := by
  have cx0 := cx
  obtain ⟨hx, hb, hml, hown, hts, hN, hK, hr, hlk, hfr, hlc⟩ := cx
  unfold b_ha_onTable_33 at h
  exact zret_i hx hb hr hlk hK hI h d_ha_onTable_33
def b_ha_onTable_32  (post : Int32 → ZS → Prop)  (u : ZS) : Prop := b_ha_onTable_33 post (-1 : Int32) u
set_option maxRecDepth 100000 in
set_option maxHeartbeats 4000000 in
theorem k_ha_onTable_32 {p : Program} {l : Launch} {e : Env} {R : Room} {s : State} {m : MethodId} {args : Array Value} {below : List Frame} {meth : Method} {c : Code} {D : va_G} {A : Nat → Prop} {ad : Nat → Nat} {ca : Nat → ClassId}  {post : Int32 → ZS → Prop} (cx : zx p R s m args meth c c_ha_onTable 3 1 12 "ShortBridge$Hands" (some .int) zG zNs D (cT ca)) {u : ZS} {H : Heap} {locs : List Loc} {ls : Array Slot} (hI : zw D A s.heap (cW ad ca u) H locs) (hl : lv_has ls 3 []) (h : b_ha_onTable_32 post  u) : W p l e R s m args below meth c H locs 0 0 (MQ below (va_Qi post (zE D (cT ca) (cW ad ca) A) A) args s 0 0 A) (F0 m 32 ls []) := by
  have cx0 := cx
  obtain ⟨hx, hb, hml, hown, hts, hN, hK, hr, hlk, hfr, hlc⟩ := cx
  unfold b_ha_onTable_32 at h
  refine lv_iconst (v := (-1)) hx hb d_ha_onTable_32 zc_iconst_m1 ?_
  exact k_ha_onTable_33 cx0  hI (lv_sub hl [] rfl) h
def w_ha_onTable (v1 : Int32) (u : ZS) (post : Int32 → ZS → Prop) : Prop := (v1 < 0 → b_ha_onTable_32 post u) ∧ (¬ (v1 < 0) → (((fI u 4) - (fI u 4) / 4 * 4) ≤ v1 → b_ha_onTable_32 post u) ∧ (¬ (((fI u 4) - (fI u 4) / 4 * 4) ≤ v1) → vp_in (((fI u 4) - ((fI u 4) - (fI u 4) / 4 * 4)) + v1) 20 ∧ (b_ha_onTable_33 post (aI u 6 (Int32.toNatClampNeg (((fI u 4) - ((fI u 4) - (fI u 4) / 4 * 4)) + v1))) u)))
set_option maxRecDepth 100000 in
set_option maxHeartbeats 4000000 in
theorem t_ha_onTable (l : Launch) (D : va_G) (ad : Nat → Nat) (ca : Nat → ClassId) {v1 : Int32} {u : ZS} {post : Int32 → ZS → Prop} (h : w_ha_onTable v1 u post) : zI l y_ha_onTable (Cond.code y_ha_onTable c_ha_onTable 3 (some .int) :: zG) { frames := 1, cells := 0, slots := 0, locals := 12 } D (cT ca) zNs (cW ad ca) [.ref (ad 3), .int v1] u post := by
  refine zI_of (cc := c_ha_onTable) (maxL := 3) (ret := (some .int)) (by decide) (Nat.le_of_ble_eq_true rfl) ?_
  intro p e s m args below meth c ls A cx hI hl
  have cx0 := cx
  obtain ⟨hx, hb, hml, hown, hts, hN, hK, hr, hlk, hfr, hlc⟩ := cx
  have hl : lv_has ls 3 [(0, .ref (ad 3)), (1, .int v1)] := hl
  unfold w_ha_onTable at h
  refine lv_aload_n hx hb d_ha_onTable_0 rfl (lv_at hl 0 rfl) ?_
  refine cg_Hands_count hx hb hts hown hK hI (hts _ q_115) d_ha_onTable_1 ?_
  refine lv_iconst (v := 4) hx hb d_ha_onTable_4 zc_iconst_4 ?_
  refine lv_irem hx hb d_ha_onTable_5 (by decide) ?_
  refine lv_istore_n hx hb d_ha_onTable_6 rfl hl (by decide) rfl ?_
  intro ls hl
  have hl : lv_has ls 3 [(2, .int ((fI u 4) - (fI u 4) / 4 * 4)), (0, .ref (ad 3)), (1, .int v1)] := hl
  refine lv_iload_n hx hb d_ha_onTable_7 rfl (lv_at hl 2 rfl) ?_
  refine lv_if_lt hx hb d_ha_onTable_8 rfl (fun hc => ?_) (fun hc => ?_)
  · have h := h.1 hc
    exact k_ha_onTable_32 cx0  hI (lv_sub hl [] rfl) h
  · have h := h.2 hc
    refine lv_iload_n hx hb d_ha_onTable_11 rfl (lv_at hl 2 rfl) ?_
    refine lv_iload_n hx hb d_ha_onTable_12 rfl (lv_at hl 0 rfl) ?_
    refine lv_icmp_ge hx hb d_ha_onTable_13 rfl (fun hc => ?_) (fun hc => ?_)
    · have h := h.1 hc
      exact k_ha_onTable_32 cx0  hI (lv_sub hl [] rfl) h
    · have h := h.2 hc
      refine lv_aload_n hx hb d_ha_onTable_16 rfl (lv_at hl 1 rfl) ?_
      refine cg_Hands_played hx hb hts hown hK hI (hts _ q_112) d_ha_onTable_17 ?_
      refine lv_aload_n hx hb d_ha_onTable_20 rfl (lv_at hl 1 rfl) ?_
      refine cg_Hands_count hx hb hts hown hK hI (hts _ q_115) d_ha_onTable_21 ?_
      refine lv_iload_n hx hb d_ha_onTable_24 rfl (lv_at hl 0 rfl) ?_
      refine lv_isub hx hb d_ha_onTable_25 ?_
      refine lv_iload_n hx hb d_ha_onTable_26 rfl (lv_at hl 2 rfl) ?_
      refine lv_iadd hx hb d_ha_onTable_27 ?_
      obtain ⟨hi, h⟩ := h
      refine ca_played hx hb hK hI hi d_ha_onTable_28 ?_
      refine lv_goto hx hb d_ha_onTable_29 rfl ?_
      exact k_ha_onTable_33 cx0  hI (lv_sub hl [] rfl) h
def w_ha_beginPlay (v1 : Int32) (v2 : Int32) (u : ZS) (post : ZS → Prop) : Prop := w_x_playerBehind v1 1 u (fun r1 u2 => vp_in 0 6 ∧ (post (sI (pI u2 7 (Int32.toNatClampNeg 0) r1) 5 v2)))
set_option maxRecDepth 100000 in
set_option maxHeartbeats 4000000 in
theorem t_ha_beginPlay (l : Launch) (D : va_G) (ad : Nat → Nat) (ca : Nat → ClassId) {v1 : Int32} {v2 : Int32} {u : ZS} {post : ZS → Prop} (h : w_ha_beginPlay v1 v2 u post) : zV l y_ha_beginPlay (Cond.code y_ha_beginPlay c_ha_beginPlay 3 none :: zG) { frames := 2, cells := 0, slots := 0, locals := 33 } D (cT ca) zNs (cW ad ca) [.ref (ad 3), .int v1, .int v2] u post := by
  refine zV_of (cc := c_ha_beginPlay) (maxL := 3) (by decide) (Nat.le_of_ble_eq_true rfl) ?_
  intro p e s m args below meth c ls A cx hI hl
  have cx0 := cx
  obtain ⟨hx, hb, hml, hown, hts, hN, hK, hr, hlk, hfr, hlc⟩ := cx
  have hl : lv_has ls 3 [(0, .ref (ad 3)), (1, .int v1), (2, .int v2)] := hl
  unfold w_ha_beginPlay at h
  refine lv_aload_n hx hb d_ha_beginPlay_0 rfl (lv_at hl 0 rfl) ?_
  refine cg_Hands_leaders hx hb hts hown hK hI (hts _ q_113) d_ha_beginPlay_1 ?_
  refine lv_iconst (v := 0) hx hb d_ha_beginPlay_4 zc_iconst_0 ?_
  refine lv_iload_n hx hb d_ha_beginPlay_5 rfl (lv_at hl 1 rfl) ?_
  refine lv_iconst (v := 1) hx hb d_ha_beginPlay_6 zc_iconst_1 ?_
  refine zr_i (va_runSN (As := [.int v1, .int 1]) (rest := [.int 0, .ref (ad 12)]) ⟨hx, hb, hml, hown, hts⟩ (t_x_playerBehind l D ad ca h _) ⟨va_cnB 2 hts (zg_c q_269) rfl rfl rfl (hN _ nw_13) (hts _ q_39) hd_x_playerBehind ⟨Nat.le_trans (by decide) hfr, Nat.le_trans (by decide) hlc⟩, hts _ q_268, trivial⟩ (z_preS zNs_ok hK hN hI _) rfl rfl hl.1 rfl (lv_room (Nat.le_of_ble_eq_true rfl)) d_ha_beginPlay_7 ⟨Nat.zero_le _, Nat.zero_le _⟩) hI ?_
  intro r1 u2 H locs h hI
  obtain ⟨hi, h⟩ := h
  refine cs_leaders hx hb hK hI hi d_ha_beginPlay_10 ?_
  intro H locs hI
  refine lv_aload_n hx hb d_ha_beginPlay_11 rfl (lv_at hl 0 rfl) ?_
  refine lv_iload_n hx hb d_ha_beginPlay_12 rfl (lv_at hl 2 rfl) ?_
  refine cp_Hands_trump hx hb hts hown hK hI (hts _ q_117) d_ha_beginPlay_13 ?_
  intro H locs hI
  exact zret_v hx hb hr hlk hK hI h d_ha_beginPlay_16
def b_ha_allowed_53  (post : Int32 → ZS → Prop) (s0 : Int32) (u : ZS) : Prop := post s0 u
set_option maxRecDepth 100000 in
set_option maxHeartbeats 4000000 in
theorem k_ha_allowed_53 {p : Program} {l : Launch} {e : Env} {R : Room} {s : State} {m : MethodId} {args : Array Value} {below : List Frame} {meth : Method} {c : Code} {D : va_G} {A : Nat → Prop} {ad : Nat → Nat} {ca : Nat → ClassId}  {post : Int32 → ZS → Prop} (cx : zx p R s m args meth c c_ha_allowed 4 3 53 "ShortBridge$Hands" (some .int) zG zNs D (cT ca)) {s0 : Int32} {u : ZS} {H : Heap} {locs : List Loc} {ls : Array Slot} (hI : zw D A s.heap (cW ad ca u) H locs) (hl : lv_has ls 4 []) (h : b_ha_allowed_53 post s0 u) : W p l e R s m args below meth c H locs 0 0 (MQ below (va_Qi post (zE D (cT ca) (cW ad ca) A) A) args s 0 0 A) (F0 m 53 ls [.int s0]) := by
  have cx0 := cx
  obtain ⟨hx, hb, hml, hown, hts, hN, hK, hr, hlk, hfr, hlc⟩ := cx
  unfold b_ha_allowed_53 at h
  exact zret_i hx hb hr hlk hK hI h d_ha_allowed_53
def w_ha_allowed  (u : ZS) (post : Int32 → ZS → Prop) : Prop := w_ha_player  u (fun r1 u2 => vp_in r1 4 ∧ ((¬ ((fI u2 4) - (fI u2 4) / 4 * 4) = 0 → vp_in ((fI u2 4) - ((fI u2 4) - (fI u2 4) / 4 * 4)) 20 ∧ ((¬ ((aI u2 4 (Int32.toNatClampNeg r1)) &&& (31 <<< ((((aI u2 6 (Int32.toNatClampNeg ((fI u2 4) - ((fI u2 4) - (fI u2 4) / 4 * 4)))) / 5) * 5) &&& 31))) = 0 → b_ha_allowed_53 post ((aI u2 4 (Int32.toNatClampNeg r1)) &&& (31 <<< ((((aI u2 6 (Int32.toNatClampNeg ((fI u2 4) - ((fI u2 4) - (fI u2 4) / 4 * 4)))) / 5) * 5) &&& 31))) u2) ∧ (((aI u2 4 (Int32.toNatClampNeg r1)) &&& (31 <<< ((((aI u2 6 (Int32.toNatClampNeg ((fI u2 4) - ((fI u2 4) - (fI u2 4) / 4 * 4)))) / 5) * 5) &&& 31))) = 0 → b_ha_allowed_53 post (aI u2 4 (Int32.toNatClampNeg r1)) u2))) ∧ (((fI u2 4) - (fI u2 4) / 4 * 4) = 0 → post (aI u2 4 (Int32.toNatClampNeg r1)) u2)))
set_option maxRecDepth 100000 in
set_option maxHeartbeats 4000000 in
theorem t_ha_allowed (l : Launch) (D : va_G) (ad : Nat → Nat) (ca : Nat → ClassId)  {u : ZS} {post : Int32 → ZS → Prop} (h : w_ha_allowed  u post) : zI l y_ha_allowed (Cond.code y_ha_allowed c_ha_allowed 4 (some .int) :: zG) { frames := 3, cells := 0, slots := 0, locals := 53 } D (cT ca) zNs (cW ad ca) [.ref (ad 3)] u post := by
  refine zI_of (cc := c_ha_allowed) (maxL := 4) (ret := (some .int)) (by decide) (Nat.le_of_ble_eq_true rfl) ?_
  intro p e s m args below meth c ls A cx hI hl
  have cx0 := cx
  obtain ⟨hx, hb, hml, hown, hts, hN, hK, hr, hlk, hfr, hlc⟩ := cx
  have hl : lv_has ls 4 [(0, .ref (ad 3))] := hl
  unfold w_ha_allowed at h
  refine lv_aload_n hx hb d_ha_allowed_0 rfl (lv_at hl 0 rfl) ?_
  refine cg_Hands_held hx hb hts hown hK hI (hts _ q_109) d_ha_allowed_1 ?_
  refine lv_aload_n hx hb d_ha_allowed_4 rfl (lv_at hl 0 rfl) ?_
  refine zr_i (va_runV (As := []) (rest := [.ref (ad 9)]) ⟨hx, hb, hml, hown, hts⟩ (t_ha_player l D ad ca h _) (cwV 0 hts (zg_V q_291 q_271 q_272 q_42 q_273) rfl rfl rfl ⟨rfl, hd_ha_player⟩ ⟨Nat.le_trans (by decide) hfr, Nat.le_trans (by decide) hlc⟩) (z_preV zNs_ok hK hN hI 3 3 rfl rfl _) rfl rfl hl.1 rfl (lv_room (Nat.le_of_ble_eq_true rfl)) d_ha_allowed_5 ⟨Nat.zero_le _, Nat.zero_le _⟩) hI ?_
  intro r1 u2 H locs h hI
  obtain ⟨hi, h⟩ := h
  refine ca_held hx hb hK hI hi d_ha_allowed_8 ?_
  refine lv_istore_n hx hb d_ha_allowed_9 rfl hl (by decide) rfl ?_
  intro ls hl
  have hl : lv_has ls 4 [(1, .int (aI u2 4 (Int32.toNatClampNeg r1))), (0, .ref (ad 3))] := hl
  refine lv_aload_n hx hb d_ha_allowed_10 rfl (lv_at hl 1 rfl) ?_
  refine cg_Hands_count hx hb hts hown hK hI (hts _ q_115) d_ha_allowed_11 ?_
  refine lv_iconst (v := 4) hx hb d_ha_allowed_14 zc_iconst_4 ?_
  refine lv_irem hx hb d_ha_allowed_15 (by decide) ?_
  refine lv_istore_n hx hb d_ha_allowed_16 rfl hl (by decide) rfl ?_
  intro ls hl
  have hl : lv_has ls 4 [(2, .int ((fI u2 4) - (fI u2 4) / 4 * 4)), (1, .int (aI u2 4 (Int32.toNatClampNeg r1))), (0, .ref (ad 3))] := hl
  refine lv_iload_n hx hb d_ha_allowed_17 rfl (lv_at hl 0 rfl) ?_
  refine lv_if_ne hx hb d_ha_allowed_18 rfl (fun hc => ?_) (fun hc => ?_)
  · have h := h.1 hc
    refine lv_iload_n hx hb d_ha_allowed_23 rfl (lv_at hl 1 rfl) ?_
    refine lv_bipush (v := 31) hx hb d_ha_allowed_24 zc_bipush_31 ?_
    refine lv_aload_n hx hb d_ha_allowed_26 rfl (lv_at hl 2 rfl) ?_
    refine cg_Hands_played hx hb hts hown hK hI (hts _ q_112) d_ha_allowed_27 ?_
    refine lv_aload_n hx hb d_ha_allowed_30 rfl (lv_at hl 2 rfl) ?_
    refine cg_Hands_count hx hb hts hown hK hI (hts _ q_115) d_ha_allowed_31 ?_
    refine lv_iload_n hx hb d_ha_allowed_34 rfl (lv_at hl 0 rfl) ?_
    refine lv_isub hx hb d_ha_allowed_35 ?_
    obtain ⟨hi, h⟩ := h
    refine ca_played hx hb hK hI hi d_ha_allowed_36 ?_
    refine lv_iconst (v := 5) hx hb d_ha_allowed_37 zc_iconst_5 ?_
    refine lv_idiv hx hb d_ha_allowed_38 (by decide) ?_
    refine lv_iconst (v := 5) hx hb d_ha_allowed_39 zc_iconst_5 ?_
    refine lv_imul hx hb d_ha_allowed_40 ?_
    refine lv_ishl hx hb d_ha_allowed_41 ?_
    refine lv_iand hx hb d_ha_allowed_42 ?_
    refine lv_istore_n hx hb d_ha_allowed_43 rfl hl (by decide) rfl ?_
    intro ls hl
    have hl : lv_has ls 4 [(3, .int ((aI u2 4 (Int32.toNatClampNeg r1)) &&& (31 <<< ((((aI u2 6 (Int32.toNatClampNeg ((fI u2 4) - ((fI u2 4) - (fI u2 4) / 4 * 4)))) / 5) * 5) &&& 31)))), (2, .int ((fI u2 4) - (fI u2 4) / 4 * 4)), (1, .int (aI u2 4 (Int32.toNatClampNeg r1))), (0, .ref (ad 3))] := hl
    refine lv_iload_n hx hb d_ha_allowed_44 rfl (lv_at hl 0 rfl) ?_
    refine lv_if_ne hx hb d_ha_allowed_45 rfl (fun hc => ?_) (fun hc => ?_)
    · have h := h.1 hc
      refine lv_iload_n hx hb d_ha_allowed_52 rfl (lv_at hl 0 rfl) ?_
      exact k_ha_allowed_53 cx0  hI (lv_sub hl [] rfl) h
    · have h := h.2 hc
      refine lv_iload_n hx hb d_ha_allowed_48 rfl (lv_at hl 2 rfl) ?_
      refine lv_goto hx hb d_ha_allowed_49 rfl ?_
      exact k_ha_allowed_53 cx0  hI (lv_sub hl [] rfl) h
  · have h := h.2 hc
    refine lv_iload_n hx hb d_ha_allowed_21 rfl (lv_at hl 1 rfl) ?_
    exact zret_i hx hb hr hlk hK hI h d_ha_allowed_22
def b_ha_allow_17  (post : Int32 → ZS → Prop) (s0 : Int32) (u : ZS) : Prop := (s0 = 0 ∨ s0 = 1) ∧ post s0 u
set_option maxRecDepth 100000 in
set_option maxHeartbeats 4000000 in
theorem k_ha_allow_17 {p : Program} {l : Launch} {e : Env} {R : Room} {s : State} {m : MethodId} {args : Array Value} {below : List Frame} {meth : Method} {c : Code} {D : va_G} {A : Nat → Prop} {ad : Nat → Nat} {ca : Nat → ClassId}  {post : Int32 → ZS → Prop} (cx : zx p R s m args meth c c_ha_allow 2 4 76 "ShortBridge$Hands" (some .boolean) zG zNs D (cT ca)) {s0 : Int32} {u : ZS} {H : Heap} {locs : List Loc} {ls : Array Slot} (hI : zw D A s.heap (cW ad ca u) H locs) (hl : lv_has ls 2 []) (h : b_ha_allow_17 post s0 u) : W p l e R s m args below meth c H locs 0 0 (MQ below (va_Qi post (zE D (cT ca) (cW ad ca) A) A) args s 0 0 A) (F0 m 17 ls [.int s0]) := by
  have cx0 := cx
  obtain ⟨hx, hb, hml, hown, hts, hN, hK, hr, hlk, hfr, hlc⟩ := cx
  unfold b_ha_allow_17 at h
  exact zret_z hx hb hr hlk hK hI h.1 h.2 d_ha_allow_17
def w_ha_allow (v1 : Int32) (u : ZS) (post : Int32 → ZS → Prop) : Prop := w_ha_allowed  u (fun r1 u2 => (¬ ((r1 >>> (v1 &&& 31)) &&& 1) = 1 → b_ha_allow_17 post 0 u2) ∧ (((r1 >>> (v1 &&& 31)) &&& 1) = 1 → b_ha_allow_17 post 1 u2))
set_option maxRecDepth 100000 in
set_option maxHeartbeats 4000000 in
theorem t_ha_allow (l : Launch) (D : va_G) (ad : Nat → Nat) (ca : Nat → ClassId) {v1 : Int32} {u : ZS} {post : Int32 → ZS → Prop} (h : w_ha_allow v1 u post) : zI l y_ha_allow (Cond.code y_ha_allow c_ha_allow 2 (some .boolean) :: zG) { frames := 4, cells := 0, slots := 0, locals := 76 } D (cT ca) zNs (cW ad ca) [.ref (ad 3), .int v1] u post := by
  refine zI_of (cc := c_ha_allow) (maxL := 2) (ret := (some .boolean)) (by decide) (Nat.le_of_ble_eq_true rfl) ?_
  intro p e s m args below meth c ls A cx hI hl
  have cx0 := cx
  obtain ⟨hx, hb, hml, hown, hts, hN, hK, hr, hlk, hfr, hlc⟩ := cx
  have hl : lv_has ls 2 [(0, .ref (ad 3)), (1, .int v1)] := hl
  unfold w_ha_allow at h
  refine lv_aload_n hx hb d_ha_allow_0 rfl (lv_at hl 0 rfl) ?_
  refine zr_i (va_runV (As := []) (rest := []) ⟨hx, hb, hml, hown, hts⟩ (t_ha_allowed l D ad ca h _) (cwV 0 hts (zg_V q_497 q_498 q_499 q_42 q_500) rfl rfl rfl ⟨rfl, hd_ha_allowed⟩ ⟨Nat.le_trans (by decide) hfr, Nat.le_trans (by decide) hlc⟩) (z_preV zNs_ok hK hN hI 3 3 rfl rfl _) rfl rfl hl.1 rfl (lv_room (Nat.le_of_ble_eq_true rfl)) d_ha_allow_1 ⟨Nat.zero_le _, Nat.zero_le _⟩) hI ?_
  intro r1 u2 H locs h hI
  refine lv_iload_n hx hb d_ha_allow_4 rfl (lv_at hl 1 rfl) ?_
  refine lv_ishr hx hb d_ha_allow_5 ?_
  refine lv_iconst (v := 1) hx hb d_ha_allow_6 zc_iconst_1 ?_
  refine lv_iand hx hb d_ha_allow_7 ?_
  refine lv_iconst (v := 1) hx hb d_ha_allow_8 zc_iconst_1 ?_
  refine lv_icmp_ne hx hb d_ha_allow_9 rfl (fun hc => ?_) (fun hc => ?_)
  · have h := h.1 hc
    refine lv_iconst (v := 0) hx hb d_ha_allow_16 zc_iconst_0 ?_
    exact k_ha_allow_17 cx0  hI (lv_sub hl [] rfl) h
  · have h := h.2 hc
    refine lv_iconst (v := 1) hx hb d_ha_allow_12 zc_iconst_1 ?_
    refine lv_goto hx hb d_ha_allow_13 rfl ?_
    exact k_ha_allow_17 cx0  hI (lv_sub hl [] rfl) h
def b_ha_beats_37  (post : Int32 → ZS → Prop) (s0 : Int32) (u : ZS) : Prop := (s0 = 0 ∨ s0 = 1) ∧ post s0 u
set_option maxRecDepth 100000 in
set_option maxHeartbeats 4000000 in
theorem k_ha_beats_37 {p : Program} {l : Launch} {e : Env} {R : Room} {s : State} {m : MethodId} {args : Array Value} {below : List Frame} {meth : Method} {c : Code} {D : va_G} {A : Nat → Prop} {ad : Nat → Nat} {ca : Nat → ClassId}  {post : Int32 → ZS → Prop} (cx : zx p R s m args meth c c_ha_beats 4 1 12 "ShortBridge$Hands" (some .boolean) zG zNs D (cT ca)) {s0 : Int32} {u : ZS} {H : Heap} {locs : List Loc} {ls : Array Slot} (hI : zw D A s.heap (cW ad ca u) H locs) (hl : lv_has ls 4 []) (h : b_ha_beats_37 post s0 u) : W p l e R s m args below meth c H locs 0 0 (MQ below (va_Qi post (zE D (cT ca) (cW ad ca) A) A) args s 0 0 A) (F0 m 37 ls [.int s0]) := by
  have cx0 := cx
  obtain ⟨hx, hb, hml, hown, hts, hN, hK, hr, hlk, hfr, hlc⟩ := cx
  unfold b_ha_beats_37 at h
  exact zret_z hx hb hr hlk hK hI h.1 h.2 d_ha_beats_37
def w_ha_beats (v1 : Int32) (v2 : Int32) (u : ZS) (post : Int32 → ZS → Prop) : Prop := (¬ (v1 / 5) = (v2 / 5) → (¬ (v1 / 5) = (fI u 5) → b_ha_beats_37 post 0 u) ∧ ((v1 / 5) = (fI u 5) → b_ha_beats_37 post 1 u)) ∧ ((v1 / 5) = (v2 / 5) → (v1 ≤ v2 → b_ha_beats_37 post 0 u) ∧ (¬ (v1 ≤ v2) → b_ha_beats_37 post 1 u))
set_option maxRecDepth 100000 in
set_option maxHeartbeats 4000000 in
theorem t_ha_beats (l : Launch) (D : va_G) (ad : Nat → Nat) (ca : Nat → ClassId) {v1 : Int32} {v2 : Int32} {u : ZS} {post : Int32 → ZS → Prop} (h : w_ha_beats v1 v2 u post) : zI l y_ha_beats (Cond.code y_ha_beats c_ha_beats 4 (some .boolean) :: zG) { frames := 1, cells := 0, slots := 0, locals := 12 } D (cT ca) zNs (cW ad ca) [.ref (ad 3), .int v1, .int v2] u post := by
  refine zI_of (cc := c_ha_beats) (maxL := 4) (ret := (some .boolean)) (by decide) (Nat.le_of_ble_eq_true rfl) ?_
  intro p e s m args below meth c ls A cx hI hl
  have cx0 := cx
  obtain ⟨hx, hb, hml, hown, hts, hN, hK, hr, hlk, hfr, hlc⟩ := cx
  have hl : lv_has ls 4 [(0, .ref (ad 3)), (1, .int v1), (2, .int v2)] := hl
  unfold w_ha_beats at h
  refine lv_iload_n hx hb d_ha_beats_0 rfl (lv_at hl 1 rfl) ?_
  refine lv_iconst (v := 5) hx hb d_ha_beats_1 zc_iconst_5 ?_
  refine lv_idiv hx hb d_ha_beats_2 (by decide) ?_
  refine lv_istore_n hx hb d_ha_beats_3 rfl hl (by decide) rfl ?_
  intro ls hl
  have hl : lv_has ls 4 [(3, .int (v1 / 5)), (0, .ref (ad 3)), (1, .int v1), (2, .int v2)] := hl
  refine lv_iload_n hx hb d_ha_beats_4 rfl (lv_at hl 0 rfl) ?_
  refine lv_iload_n hx hb d_ha_beats_5 rfl (lv_at hl 3 rfl) ?_
  refine lv_iconst (v := 5) hx hb d_ha_beats_6 zc_iconst_5 ?_
  refine lv_idiv hx hb d_ha_beats_7 (by decide) ?_
  refine lv_icmp_ne hx hb d_ha_beats_8 rfl (fun hc => ?_) (fun hc => ?_)
  · have h := h.1 hc
    refine lv_iload_n hx hb d_ha_beats_24 rfl (lv_at hl 0 rfl) ?_
    refine lv_aload_n hx hb d_ha_beats_25 rfl (lv_at hl 1 rfl) ?_
    refine cg_Hands_trump hx hb hts hown hK hI (hts _ q_117) d_ha_beats_26 ?_
    refine lv_icmp_ne hx hb d_ha_beats_29 rfl (fun hc => ?_) (fun hc => ?_)
    · have h := h.1 hc
      refine lv_iconst (v := 0) hx hb d_ha_beats_36 zc_iconst_0 ?_
      exact k_ha_beats_37 cx0  hI (lv_sub hl [] rfl) h
    · have h := h.2 hc
      refine lv_iconst (v := 1) hx hb d_ha_beats_32 zc_iconst_1 ?_
      refine lv_goto hx hb d_ha_beats_33 rfl ?_
      exact k_ha_beats_37 cx0  hI (lv_sub hl [] rfl) h
  · have h := h.2 hc
    refine lv_iload_n hx hb d_ha_beats_11 rfl (lv_at hl 2 rfl) ?_
    refine lv_iload_n hx hb d_ha_beats_12 rfl (lv_at hl 3 rfl) ?_
    refine lv_icmp_le hx hb d_ha_beats_13 rfl (fun hc => ?_) (fun hc => ?_)
    · have h := h.1 hc
      refine lv_iconst (v := 0) hx hb d_ha_beats_20 zc_iconst_0 ?_
      refine lv_goto hx hb d_ha_beats_21 rfl ?_
      exact k_ha_beats_37 cx0  hI (lv_sub hl [] rfl) h
    · have h := h.2 hc
      refine lv_iconst (v := 1) hx hb d_ha_beats_16 zc_iconst_1 ?_
      refine lv_goto hx hb d_ha_beats_17 rfl ?_
      exact k_ha_beats_37 cx0  hI (lv_sub hl [] rfl) h
def b_ha_winnerOf_42 (r9 : Int32 → Int32 → Int32 → Int32 → ZS → Prop) (post : Int32 → ZS → Prop) (v1 : Int32) (v2 : Int32) (v3 : Int32) (v4 : Int32) (u : ZS) : Prop := r9 v1 v2 v3 (v4 + 1) u
set_option maxRecDepth 100000 in
set_option maxHeartbeats 4000000 in
theorem k_ha_winnerOf_42 {p : Program} {l : Launch} {e : Env} {R : Room} {s : State} {m : MethodId} {args : Array Value} {below : List Frame} {meth : Method} {c : Code} {D : va_G} {A : Nat → Prop} {ad : Nat → Nat} {ca : Nat → ClassId} {r9 : Int32 → Int32 → Int32 → Int32 → ZS → Prop} {post : Int32 → ZS → Prop} (cx : zx p R s m args meth c c_ha_winnerOf 5 2 35 "ShortBridge$Hands" (some .int) zG zNs D (cT ca)) (hk9 : ∀ (v1 : Int32) (v2 : Int32) (v3 : Int32) (v4 : Int32) (u : ZS) (H : Heap) (locs : List Loc) (ls : Array Slot), zw D A s.heap (cW ad ca u) H locs → lv_has ls 5 [(0, .ref (ad 3)), (1, .int v1), (2, .int v2), (3, .int v3), (4, .int v4)] → r9 v1 v2 v3 v4 u → W p l e R s m args below meth c H locs 0 0 (MQ below (va_Qi post (zE D (cT ca) (cW ad ca) A) A) args s 0 0 A) (F0 m 9 ls [])) {v1 : Int32} {v2 : Int32} {v3 : Int32} {v4 : Int32} {u : ZS} {H : Heap} {locs : List Loc} {ls : Array Slot} (hI : zw D A s.heap (cW ad ca u) H locs) (hl : lv_has ls 5 [(0, .ref (ad 3)), (1, .int v1), (2, .int v2), (3, .int v3), (4, .int v4)]) (h : b_ha_winnerOf_42 r9 post v1 v2 v3 v4 u) : W p l e R s m args below meth c H locs 0 0 (MQ below (va_Qi post (zE D (cT ca) (cW ad ca) A) A) args s 0 0 A) (F0 m 42 ls []) := by
  have cx0 := cx
  obtain ⟨hx, hb, hml, hown, hts, hN, hK, hr, hlk, hfr, hlc⟩ := cx
  unfold b_ha_winnerOf_42 at h
  refine lv_iinc (k := 4) (v := (v4 + 1)) hx hb d_ha_winnerOf_42 hl rfl (zi_1 _) (by decide) rfl ?_
  intro ls hl
  have hl : lv_has ls 5 [(4, .int (v4 + 1)), (0, .ref (ad 3)), (1, .int v1), (2, .int v2), (3, .int v3)] := hl
  refine lv_goto hx hb d_ha_winnerOf_45 rfl ?_
  exact hk9 _ _ _ _ _ _ _ _ hI (lv_sub hl [1, 2, 3, 4, 0] rfl) h
def b_ha_winnerOf_9  (post : Int32 → ZS → Prop) : Nat → Int32 → Int32 → Int32 → Int32 → ZS → Prop
  | 0, _, _, _, _, _ => False
  | n + 1, v1, v2, v3, v4, u => (4 ≤ v4 → vp_in v1 6 ∧ (w_x_playerBehind (aI u 7 (Int32.toNatClampNeg v1)) v3 u (fun r1 u2 => post r1 u2))) ∧ (¬ (4 ≤ v4) → vp_in (v2 + v4) 20 ∧ (vp_in (v2 + v3) 20 ∧ (w_ha_beats (aI u 6 (Int32.toNatClampNeg (v2 + v4))) (aI u 6 (Int32.toNatClampNeg (v2 + v3))) u (fun r3 u4 => (r3 = 0 → b_ha_winnerOf_42 (b_ha_winnerOf_9 post n) post v1 v2 v3 v4 u4) ∧ (¬ (r3 = 0) → b_ha_winnerOf_42 (b_ha_winnerOf_9 post n) post v1 v2 v4 v4 u4)))))
set_option maxRecDepth 100000 in
set_option maxHeartbeats 4000000 in
theorem k_ha_winnerOf_9 {p : Program} {l : Launch} {e : Env} {R : Room} {s : State} {m : MethodId} {args : Array Value} {below : List Frame} {meth : Method} {c : Code} {D : va_G} {A : Nat → Prop} {ad : Nat → Nat} {ca : Nat → ClassId}  {post : Int32 → ZS → Prop} (cx : zx p R s m args meth c c_ha_winnerOf 5 2 35 "ShortBridge$Hands" (some .int) zG zNs D (cT ca)) : ∀ (n : Nat) (v1 : Int32) (v2 : Int32) (v3 : Int32) (v4 : Int32) (u : ZS) (H : Heap) (locs : List Loc) (ls : Array Slot), zw D A s.heap (cW ad ca u) H locs → lv_has ls 5 [(0, .ref (ad 3)), (1, .int v1), (2, .int v2), (3, .int v3), (4, .int v4)] → b_ha_winnerOf_9 post n v1 v2 v3 v4 u → W p l e R s m args below meth c H locs 0 0 (MQ below (va_Qi post (zE D (cT ca) (cW ad ca) A) A) args s 0 0 A) (F0 m 9 ls []) := by
  have cx0 := cx
  obtain ⟨hx, hb, hml, hown, hts, hN, hK, hr, hlk, hfr, hlc⟩ := cx
  intro n
  induction n with
  | zero => intro v1 v2 v3 v4 u H locs ls hI hl h; exact (h : False).elim
  | succ n ih =>
    intro v1 v2 v3 v4 u H locs ls hI hl h
    unfold b_ha_winnerOf_9 at h
    refine lv_iload hx hb d_ha_winnerOf_9 (lv_at hl 4 rfl) ?_
    refine lv_iconst (v := 4) hx hb d_ha_winnerOf_11 zc_iconst_4 ?_
    refine lv_icmp_ge hx hb d_ha_winnerOf_12 rfl (fun hc => ?_) (fun hc => ?_)
    · have h := h.1 hc
      refine lv_aload_n hx hb d_ha_winnerOf_48 rfl (lv_at hl 0 rfl) ?_
      refine cg_Hands_leaders hx hb hts hown hK hI (hts _ q_113) d_ha_winnerOf_49 ?_
      refine lv_iload_n hx hb d_ha_winnerOf_52 rfl (lv_at hl 1 rfl) ?_
      obtain ⟨hi, h⟩ := h
      refine ca_leaders hx hb hK hI hi d_ha_winnerOf_53 ?_
      refine lv_iload_n hx hb d_ha_winnerOf_54 rfl (lv_at hl 3 rfl) ?_
      refine zr_i (va_runSN (As := [.int (aI u 7 (Int32.toNatClampNeg v1)), .int v3]) (rest := []) ⟨hx, hb, hml, hown, hts⟩ (t_x_playerBehind l D ad ca h _) ⟨va_cnB 2 hts (zg_c q_269) rfl rfl rfl (hN _ nw_13) (hts _ q_39) hd_x_playerBehind ⟨Nat.le_trans (by decide) hfr, Nat.le_trans (by decide) hlc⟩, hts _ q_268, trivial⟩ (z_preS zNs_ok hK hN hI _) rfl rfl hl.1 rfl (lv_room (Nat.le_of_ble_eq_true rfl)) d_ha_winnerOf_55 ⟨Nat.zero_le _, Nat.zero_le _⟩) hI ?_
      intro r1 u2 H locs h hI
      exact zret_i hx hb hr hlk hK hI h d_ha_winnerOf_58
    · have h := h.2 hc
      refine lv_aload_n hx hb d_ha_winnerOf_15 rfl (lv_at hl 0 rfl) ?_
      refine lv_aload_n hx hb d_ha_winnerOf_16 rfl (lv_at hl 0 rfl) ?_
      refine cg_Hands_played hx hb hts hown hK hI (hts _ q_112) d_ha_winnerOf_17 ?_
      refine lv_iload_n hx hb d_ha_winnerOf_20 rfl (lv_at hl 2 rfl) ?_
      refine lv_iload hx hb d_ha_winnerOf_21 (lv_at hl 4 rfl) ?_
      refine lv_iadd hx hb d_ha_winnerOf_23 ?_
      obtain ⟨hi, h⟩ := h
      refine ca_played hx hb hK hI hi d_ha_winnerOf_24 ?_
      refine lv_aload_n hx hb d_ha_winnerOf_25 rfl (lv_at hl 0 rfl) ?_
      refine cg_Hands_played hx hb hts hown hK hI (hts _ q_112) d_ha_winnerOf_26 ?_
      refine lv_iload_n hx hb d_ha_winnerOf_29 rfl (lv_at hl 2 rfl) ?_
      refine lv_iload_n hx hb d_ha_winnerOf_30 rfl (lv_at hl 3 rfl) ?_
      refine lv_iadd hx hb d_ha_winnerOf_31 ?_
      obtain ⟨hi, h⟩ := h
      refine ca_played hx hb hK hI hi d_ha_winnerOf_32 ?_
      refine zr_i (va_runV (As := [.int (aI u 6 (Int32.toNatClampNeg (v2 + v4))), .int (aI u 6 (Int32.toNatClampNeg (v2 + v3)))]) (rest := []) ⟨hx, hb, hml, hown, hts⟩ (t_ha_beats l D ad ca h _) (cwV 2 hts (zg_V q_510 q_512 q_12 q_42 q_513) rfl rfl rfl ⟨rfl, hd_ha_beats⟩ ⟨Nat.le_trans (by decide) hfr, Nat.le_trans (by decide) hlc⟩) (z_preV zNs_ok hK hN hI 3 3 rfl rfl _) rfl rfl hl.1 rfl (lv_room (Nat.le_of_ble_eq_true rfl)) d_ha_winnerOf_33 ⟨Nat.zero_le _, Nat.zero_le _⟩) hI ?_
      intro r3 u4 H locs h hI
      refine lv_if_eq hx hb d_ha_winnerOf_36 rfl (fun hc => ?_) (fun hc => ?_)
      · have h := h.1 hc
        exact k_ha_winnerOf_42 cx0 ih hI (lv_sub hl [0, 1, 2, 3, 4] rfl) h
      · have h := h.2 hc
        refine lv_iload hx hb d_ha_winnerOf_39 (lv_at hl 4 rfl) ?_
        refine lv_istore_n hx hb d_ha_winnerOf_41 rfl hl (by decide) rfl ?_
        intro ls hl
        have hl : lv_has ls 5 [(3, .int v4), (0, .ref (ad 3)), (1, .int v1), (2, .int v2), (4, .int v4)] := hl
        exact k_ha_winnerOf_42 cx0 ih hI (lv_sub hl [1, 2, 3, 0, 4] rfl) h
def w_ha_winnerOf (v1 : Int32) (u : ZS) (post : Int32 → ZS → Prop) : Prop := ∃ n0, b_ha_winnerOf_9 post n0 v1 (v1 * 4) 0 1 u
set_option maxRecDepth 100000 in
set_option maxHeartbeats 4000000 in
theorem t_ha_winnerOf (l : Launch) (D : va_G) (ad : Nat → Nat) (ca : Nat → ClassId) {v1 : Int32} {u : ZS} {post : Int32 → ZS → Prop} (h : w_ha_winnerOf v1 u post) : zI l y_ha_winnerOf (Cond.code y_ha_winnerOf c_ha_winnerOf 5 (some .int) :: zG) { frames := 2, cells := 0, slots := 0, locals := 35 } D (cT ca) zNs (cW ad ca) [.ref (ad 3), .int v1] u post := by
  refine zI_of (cc := c_ha_winnerOf) (maxL := 5) (ret := (some .int)) (by decide) (Nat.le_of_ble_eq_true rfl) ?_
  intro p e s m args below meth c ls A cx hI hl
  have cx0 := cx
  obtain ⟨hx, hb, hml, hown, hts, hN, hK, hr, hlk, hfr, hlc⟩ := cx
  have hl : lv_has ls 5 [(0, .ref (ad 3)), (1, .int v1)] := hl
  unfold w_ha_winnerOf at h
  refine lv_iload_n hx hb d_ha_winnerOf_0 rfl (lv_at hl 1 rfl) ?_
  refine lv_iconst (v := 4) hx hb d_ha_winnerOf_1 zc_iconst_4 ?_
  refine lv_imul hx hb d_ha_winnerOf_2 ?_
  refine lv_istore_n hx hb d_ha_winnerOf_3 rfl hl (by decide) rfl ?_
  intro ls hl
  have hl : lv_has ls 5 [(2, .int (v1 * 4)), (0, .ref (ad 3)), (1, .int v1)] := hl
  refine lv_iconst (v := 0) hx hb d_ha_winnerOf_4 zc_iconst_0 ?_
  refine lv_istore_n hx hb d_ha_winnerOf_5 rfl hl (by decide) rfl ?_
  intro ls hl
  have hl : lv_has ls 5 [(3, .int 0), (2, .int (v1 * 4)), (0, .ref (ad 3)), (1, .int v1)] := hl
  refine lv_iconst (v := 1) hx hb d_ha_winnerOf_6 zc_iconst_1 ?_
  refine lv_istore hx hb d_ha_winnerOf_7 hl (by decide) rfl ?_
  intro ls hl
  have hl : lv_has ls 5 [(4, .int 1), (3, .int 0), (2, .int (v1 * 4)), (0, .ref (ad 3)), (1, .int v1)] := hl
  obtain ⟨n0, h⟩ := h
  exact k_ha_winnerOf_9 cx0  n0 _ _ _ _ _ _ _ _ hI (lv_sub hl [3, 4, 2, 1, 0] rfl) h
def b_ha_put_78  (post : ZS → Prop)  (u : ZS) : Prop := post u
set_option maxRecDepth 100000 in
set_option maxHeartbeats 4000000 in
theorem k_ha_put_78 {p : Program} {l : Launch} {e : Env} {R : Room} {s : State} {m : MethodId} {args : Array Value} {below : List Frame} {meth : Method} {c : Code} {D : va_G} {A : Nat → Prop} {ad : Nat → Nat} {ca : Nat → ClassId}  {post : ZS → Prop} (cx : zx p R s m args meth c c_ha_put 2 3 59 "ShortBridge$Hands" none zG zNs D (cT ca)) {u : ZS} {H : Heap} {locs : List Loc} {ls : Array Slot} (hI : zw D A s.heap (cW ad ca u) H locs) (hl : lv_has ls 2 []) (h : b_ha_put_78 post  u) : W p l e R s m args below meth c H locs 0 0 (MQ below (va_Qv post (zE D (cT ca) (cW ad ca) A) A) args s 0 0 A) (F0 m 78 ls []) := by
  have cx0 := cx
  obtain ⟨hx, hb, hml, hown, hts, hN, hK, hr, hlk, hfr, hlc⟩ := cx
  unfold b_ha_put_78 at h
  exact zret_v hx hb hr hlk hK hI h d_ha_put_78
def w_ha_put (v1 : Int32) (u : ZS) (post : ZS → Prop) : Prop := (20 ≤ (fI u 4) → b_ha_put_78 post u) ∧ (¬ (20 ≤ (fI u 4)) → w_ha_player  u (fun r1 u2 => vp_in r1 4 ∧ (vp_in r1 4 ∧ (vp_in (fI (pI u2 4 (Int32.toNatClampNeg r1) ((aI u2 4 (Int32.toNatClampNeg r1)) &&& ((1 <<< (v1 &&& 31)) ^^^ (-1 : Int32)))) 4) 20 ∧ ((¬ ((fI (sI (pI (pI u2 4 (Int32.toNatClampNeg r1) ((aI u2 4 (Int32.toNatClampNeg r1)) &&& ((1 <<< (v1 &&& 31)) ^^^ (-1 : Int32)))) 6 (Int32.toNatClampNeg (fI (pI u2 4 (Int32.toNatClampNeg r1) ((aI u2 4 (Int32.toNatClampNeg r1)) &&& ((1 <<< (v1 &&& 31)) ^^^ (-1 : Int32)))) 4)) v1) 4 ((fI (pI (pI u2 4 (Int32.toNatClampNeg r1) ((aI u2 4 (Int32.toNatClampNeg r1)) &&& ((1 <<< (v1 &&& 31)) ^^^ (-1 : Int32)))) 6 (Int32.toNatClampNeg (fI (pI u2 4 (Int32.toNatClampNeg r1) ((aI u2 4 (Int32.toNatClampNeg r1)) &&& ((1 <<< (v1 &&& 31)) ^^^ (-1 : Int32)))) 4)) v1) 4) + 1)) 4) - (fI (sI (pI (pI u2 4 (Int32.toNatClampNeg r1) ((aI u2 4 (Int32.toNatClampNeg r1)) &&& ((1 <<< (v1 &&& 31)) ^^^ (-1 : Int32)))) 6 (Int32.toNatClampNeg (fI (pI u2 4 (Int32.toNatClampNeg r1) ((aI u2 4 (Int32.toNatClampNeg r1)) &&& ((1 <<< (v1 &&& 31)) ^^^ (-1 : Int32)))) 4)) v1) 4 ((fI (pI (pI u2 4 (Int32.toNatClampNeg r1) ((aI u2 4 (Int32.toNatClampNeg r1)) &&& ((1 <<< (v1 &&& 31)) ^^^ (-1 : Int32)))) 6 (Int32.toNatClampNeg (fI (pI u2 4 (Int32.toNatClampNeg r1) ((aI u2 4 (Int32.toNatClampNeg r1)) &&& ((1 <<< (v1 &&& 31)) ^^^ (-1 : Int32)))) 4)) v1) 4) + 1)) 4) / 4 * 4) = 0 → b_ha_put_78 post (sI (pI (pI u2 4 (Int32.toNatClampNeg r1) ((aI u2 4 (Int32.toNatClampNeg r1)) &&& ((1 <<< (v1 &&& 31)) ^^^ (-1 : Int32)))) 6 (Int32.toNatClampNeg (fI (pI u2 4 (Int32.toNatClampNeg r1) ((aI u2 4 (Int32.toNatClampNeg r1)) &&& ((1 <<< (v1 &&& 31)) ^^^ (-1 : Int32)))) 4)) v1) 4 ((fI (pI (pI u2 4 (Int32.toNatClampNeg r1) ((aI u2 4 (Int32.toNatClampNeg r1)) &&& ((1 <<< (v1 &&& 31)) ^^^ (-1 : Int32)))) 6 (Int32.toNatClampNeg (fI (pI u2 4 (Int32.toNatClampNeg r1) ((aI u2 4 (Int32.toNatClampNeg r1)) &&& ((1 <<< (v1 &&& 31)) ^^^ (-1 : Int32)))) 4)) v1) 4) + 1))) ∧ (((fI (sI (pI (pI u2 4 (Int32.toNatClampNeg r1) ((aI u2 4 (Int32.toNatClampNeg r1)) &&& ((1 <<< (v1 &&& 31)) ^^^ (-1 : Int32)))) 6 (Int32.toNatClampNeg (fI (pI u2 4 (Int32.toNatClampNeg r1) ((aI u2 4 (Int32.toNatClampNeg r1)) &&& ((1 <<< (v1 &&& 31)) ^^^ (-1 : Int32)))) 4)) v1) 4 ((fI (pI (pI u2 4 (Int32.toNatClampNeg r1) ((aI u2 4 (Int32.toNatClampNeg r1)) &&& ((1 <<< (v1 &&& 31)) ^^^ (-1 : Int32)))) 6 (Int32.toNatClampNeg (fI (pI u2 4 (Int32.toNatClampNeg r1) ((aI u2 4 (Int32.toNatClampNeg r1)) &&& ((1 <<< (v1 &&& 31)) ^^^ (-1 : Int32)))) 4)) v1) 4) + 1)) 4) - (fI (sI (pI (pI u2 4 (Int32.toNatClampNeg r1) ((aI u2 4 (Int32.toNatClampNeg r1)) &&& ((1 <<< (v1 &&& 31)) ^^^ (-1 : Int32)))) 6 (Int32.toNatClampNeg (fI (pI u2 4 (Int32.toNatClampNeg r1) ((aI u2 4 (Int32.toNatClampNeg r1)) &&& ((1 <<< (v1 &&& 31)) ^^^ (-1 : Int32)))) 4)) v1) 4 ((fI (pI (pI u2 4 (Int32.toNatClampNeg r1) ((aI u2 4 (Int32.toNatClampNeg r1)) &&& ((1 <<< (v1 &&& 31)) ^^^ (-1 : Int32)))) 6 (Int32.toNatClampNeg (fI (pI u2 4 (Int32.toNatClampNeg r1) ((aI u2 4 (Int32.toNatClampNeg r1)) &&& ((1 <<< (v1 &&& 31)) ^^^ (-1 : Int32)))) 4)) v1) 4) + 1)) 4) / 4 * 4) = 0 → w_ha_winnerOf (((fI (sI (pI (pI u2 4 (Int32.toNatClampNeg r1) ((aI u2 4 (Int32.toNatClampNeg r1)) &&& ((1 <<< (v1 &&& 31)) ^^^ (-1 : Int32)))) 6 (Int32.toNatClampNeg (fI (pI u2 4 (Int32.toNatClampNeg r1) ((aI u2 4 (Int32.toNatClampNeg r1)) &&& ((1 <<< (v1 &&& 31)) ^^^ (-1 : Int32)))) 4)) v1) 4 ((fI (pI (pI u2 4 (Int32.toNatClampNeg r1) ((aI u2 4 (Int32.toNatClampNeg r1)) &&& ((1 <<< (v1 &&& 31)) ^^^ (-1 : Int32)))) 6 (Int32.toNatClampNeg (fI (pI u2 4 (Int32.toNatClampNeg r1) ((aI u2 4 (Int32.toNatClampNeg r1)) &&& ((1 <<< (v1 &&& 31)) ^^^ (-1 : Int32)))) 4)) v1) 4) + 1)) 4) / 4) - 1) (sI (pI (pI u2 4 (Int32.toNatClampNeg r1) ((aI u2 4 (Int32.toNatClampNeg r1)) &&& ((1 <<< (v1 &&& 31)) ^^^ (-1 : Int32)))) 6 (Int32.toNatClampNeg (fI (pI u2 4 (Int32.toNatClampNeg r1) ((aI u2 4 (Int32.toNatClampNeg r1)) &&& ((1 <<< (v1 &&& 31)) ^^^ (-1 : Int32)))) 4)) v1) 4 ((fI (pI (pI u2 4 (Int32.toNatClampNeg r1) ((aI u2 4 (Int32.toNatClampNeg r1)) &&& ((1 <<< (v1 &&& 31)) ^^^ (-1 : Int32)))) 6 (Int32.toNatClampNeg (fI (pI u2 4 (Int32.toNatClampNeg r1) ((aI u2 4 (Int32.toNatClampNeg r1)) &&& ((1 <<< (v1 &&& 31)) ^^^ (-1 : Int32)))) 4)) v1) 4) + 1)) (fun r3 u4 => vp_in ((fI (sI (pI (pI u2 4 (Int32.toNatClampNeg r1) ((aI u2 4 (Int32.toNatClampNeg r1)) &&& ((1 <<< (v1 &&& 31)) ^^^ (-1 : Int32)))) 6 (Int32.toNatClampNeg (fI (pI u2 4 (Int32.toNatClampNeg r1) ((aI u2 4 (Int32.toNatClampNeg r1)) &&& ((1 <<< (v1 &&& 31)) ^^^ (-1 : Int32)))) 4)) v1) 4 ((fI (pI (pI u2 4 (Int32.toNatClampNeg r1) ((aI u2 4 (Int32.toNatClampNeg r1)) &&& ((1 <<< (v1 &&& 31)) ^^^ (-1 : Int32)))) 6 (Int32.toNatClampNeg (fI (pI u2 4 (Int32.toNatClampNeg r1) ((aI u2 4 (Int32.toNatClampNeg r1)) &&& ((1 <<< (v1 &&& 31)) ^^^ (-1 : Int32)))) 4)) v1) 4) + 1)) 4) / 4) 6 ∧ (b_ha_put_78 post (pI u4 7 (Int32.toNatClampNeg ((fI (sI (pI (pI u2 4 (Int32.toNatClampNeg r1) ((aI u2 4 (Int32.toNatClampNeg r1)) &&& ((1 <<< (v1 &&& 31)) ^^^ (-1 : Int32)))) 6 (Int32.toNatClampNeg (fI (pI u2 4 (Int32.toNatClampNeg r1) ((aI u2 4 (Int32.toNatClampNeg r1)) &&& ((1 <<< (v1 &&& 31)) ^^^ (-1 : Int32)))) 4)) v1) 4 ((fI (pI (pI u2 4 (Int32.toNatClampNeg r1) ((aI u2 4 (Int32.toNatClampNeg r1)) &&& ((1 <<< (v1 &&& 31)) ^^^ (-1 : Int32)))) 6 (Int32.toNatClampNeg (fI (pI u2 4 (Int32.toNatClampNeg r1) ((aI u2 4 (Int32.toNatClampNeg r1)) &&& ((1 <<< (v1 &&& 31)) ^^^ (-1 : Int32)))) 4)) v1) 4) + 1)) 4) / 4)) r3)))))))))
set_option maxRecDepth 100000 in
set_option maxHeartbeats 4000000 in
theorem t_ha_put (l : Launch) (D : va_G) (ad : Nat → Nat) (ca : Nat → ClassId) {v1 : Int32} {u : ZS} {post : ZS → Prop} (h : w_ha_put v1 u post) : zV l y_ha_put (Cond.code y_ha_put c_ha_put 2 none :: zG) { frames := 3, cells := 0, slots := 0, locals := 59 } D (cT ca) zNs (cW ad ca) [.ref (ad 3), .int v1] u post := by
  refine zV_of (cc := c_ha_put) (maxL := 2) (by decide) (Nat.le_of_ble_eq_true rfl) ?_
  intro p e s m args below meth c ls A cx hI hl
  have cx0 := cx
  obtain ⟨hx, hb, hml, hown, hts, hN, hK, hr, hlk, hfr, hlc⟩ := cx
  have hl : lv_has ls 2 [(0, .ref (ad 3)), (1, .int v1)] := hl
  unfold w_ha_put at h
  refine lv_aload_n hx hb d_ha_put_0 rfl (lv_at hl 0 rfl) ?_
  refine cg_Hands_count hx hb hts hown hK hI (hts _ q_115) d_ha_put_1 ?_
  refine lv_bipush (v := 20) hx hb d_ha_put_4 zc_bipush_20 ?_
  refine lv_icmp_ge hx hb d_ha_put_6 rfl (fun hc => ?_) (fun hc => ?_)
  · have h := h.1 hc
    exact k_ha_put_78 cx0  hI (lv_sub hl [] rfl) h
  · have h := h.2 hc
    refine lv_aload_n hx hb d_ha_put_9 rfl (lv_at hl 0 rfl) ?_
    refine cg_Hands_held hx hb hts hown hK hI (hts _ q_109) d_ha_put_10 ?_
    refine lv_aload_n hx hb d_ha_put_13 rfl (lv_at hl 0 rfl) ?_
    refine zr_i (va_runV (As := []) (rest := [.ref (ad 9)]) ⟨hx, hb, hml, hown, hts⟩ (t_ha_player l D ad ca h _) (cwV 0 hts (zg_V q_291 q_271 q_272 q_42 q_273) rfl rfl rfl ⟨rfl, hd_ha_player⟩ ⟨Nat.le_trans (by decide) hfr, Nat.le_trans (by decide) hlc⟩) (z_preV zNs_ok hK hN hI 3 3 rfl rfl _) rfl rfl hl.1 rfl (lv_room (Nat.le_of_ble_eq_true rfl)) d_ha_put_14 ⟨Nat.zero_le _, Nat.zero_le _⟩) hI ?_
    intro r1 u2 H locs h hI
    refine lv_dup2_11 hx hb d_ha_put_17 rfl rfl ?_
    obtain ⟨hi, h⟩ := h
    refine ca_held hx hb hK hI hi d_ha_put_18 ?_
    refine lv_iconst (v := 1) hx hb d_ha_put_19 zc_iconst_1 ?_
    refine lv_iload_n hx hb d_ha_put_20 rfl (lv_at hl 1 rfl) ?_
    refine lv_ishl hx hb d_ha_put_21 ?_
    refine lv_iconst (v := (-1)) hx hb d_ha_put_22 zc_iconst_m1 ?_
    refine lv_ixor hx hb d_ha_put_23 ?_
    refine lv_iand hx hb d_ha_put_24 ?_
    obtain ⟨hi, h⟩ := h
    refine cs_held hx hb hK hI hi d_ha_put_25 ?_
    intro H locs hI
    refine lv_aload_n hx hb d_ha_put_26 rfl (lv_at hl 0 rfl) ?_
    refine cg_Hands_played hx hb hts hown hK hI (hts _ q_112) d_ha_put_27 ?_
    refine lv_aload_n hx hb d_ha_put_30 rfl (lv_at hl 0 rfl) ?_
    refine cg_Hands_count hx hb hts hown hK hI (hts _ q_115) d_ha_put_31 ?_
    refine lv_iload_n hx hb d_ha_put_34 rfl (lv_at hl 1 rfl) ?_
    obtain ⟨hi, h⟩ := h
    refine cs_played hx hb hK hI hi d_ha_put_35 ?_
    intro H locs hI
    refine lv_aload_n hx hb d_ha_put_36 rfl (lv_at hl 0 rfl) ?_
    refine lv_dup hx hb d_ha_put_37 rfl ?_
    refine cg_Hands_count hx hb hts hown hK hI (hts _ q_115) d_ha_put_38 ?_
    refine lv_iconst (v := 1) hx hb d_ha_put_41 zc_iconst_1 ?_
    refine lv_iadd hx hb d_ha_put_42 ?_
    refine cp_Hands_count hx hb hts hown hK hI (hts _ q_115) d_ha_put_43 ?_
    intro H locs hI
    refine lv_aload_n hx hb d_ha_put_46 rfl (lv_at hl 0 rfl) ?_
    refine cg_Hands_count hx hb hts hown hK hI (hts _ q_115) d_ha_put_47 ?_
    refine lv_iconst (v := 4) hx hb d_ha_put_50 zc_iconst_4 ?_
    refine lv_irem hx hb d_ha_put_51 (by decide) ?_
    refine lv_if_ne hx hb d_ha_put_52 rfl (fun hc => ?_) (fun hc => ?_)
    · have h := h.1 hc
      exact k_ha_put_78 cx0  hI (lv_sub hl [] rfl) h
    · have h := h.2 hc
      refine lv_aload_n hx hb d_ha_put_55 rfl (lv_at hl 0 rfl) ?_
      refine cg_Hands_leaders hx hb hts hown hK hI (hts _ q_113) d_ha_put_56 ?_
      refine lv_aload_n hx hb d_ha_put_59 rfl (lv_at hl 0 rfl) ?_
      refine cg_Hands_count hx hb hts hown hK hI (hts _ q_115) d_ha_put_60 ?_
      refine lv_iconst (v := 4) hx hb d_ha_put_63 zc_iconst_4 ?_
      refine lv_idiv hx hb d_ha_put_64 (by decide) ?_
      refine lv_aload_n hx hb d_ha_put_65 rfl (lv_at hl 0 rfl) ?_
      refine lv_aload_n hx hb d_ha_put_66 rfl (lv_at hl 0 rfl) ?_
      refine cg_Hands_count hx hb hts hown hK hI (hts _ q_115) d_ha_put_67 ?_
      refine lv_iconst (v := 4) hx hb d_ha_put_70 zc_iconst_4 ?_
      refine lv_idiv hx hb d_ha_put_71 (by decide) ?_
      refine lv_iconst (v := 1) hx hb d_ha_put_72 zc_iconst_1 ?_
      refine lv_isub hx hb d_ha_put_73 ?_
      refine zr_i (va_runV (As := [.int (((fI (sI (pI (pI u2 4 (Int32.toNatClampNeg r1) ((aI u2 4 (Int32.toNatClampNeg r1)) &&& ((1 <<< (v1 &&& 31)) ^^^ (-1 : Int32)))) 6 (Int32.toNatClampNeg (fI (pI u2 4 (Int32.toNatClampNeg r1) ((aI u2 4 (Int32.toNatClampNeg r1)) &&& ((1 <<< (v1 &&& 31)) ^^^ (-1 : Int32)))) 4)) v1) 4 ((fI (pI (pI u2 4 (Int32.toNatClampNeg r1) ((aI u2 4 (Int32.toNatClampNeg r1)) &&& ((1 <<< (v1 &&& 31)) ^^^ (-1 : Int32)))) 6 (Int32.toNatClampNeg (fI (pI u2 4 (Int32.toNatClampNeg r1) ((aI u2 4 (Int32.toNatClampNeg r1)) &&& ((1 <<< (v1 &&& 31)) ^^^ (-1 : Int32)))) 4)) v1) 4) + 1)) 4) / 4) - 1)]) (rest := [.int ((fI (sI (pI (pI u2 4 (Int32.toNatClampNeg r1) ((aI u2 4 (Int32.toNatClampNeg r1)) &&& ((1 <<< (v1 &&& 31)) ^^^ (-1 : Int32)))) 6 (Int32.toNatClampNeg (fI (pI u2 4 (Int32.toNatClampNeg r1) ((aI u2 4 (Int32.toNatClampNeg r1)) &&& ((1 <<< (v1 &&& 31)) ^^^ (-1 : Int32)))) 4)) v1) 4 ((fI (pI (pI u2 4 (Int32.toNatClampNeg r1) ((aI u2 4 (Int32.toNatClampNeg r1)) &&& ((1 <<< (v1 &&& 31)) ^^^ (-1 : Int32)))) 6 (Int32.toNatClampNeg (fI (pI u2 4 (Int32.toNatClampNeg r1) ((aI u2 4 (Int32.toNatClampNeg r1)) &&& ((1 <<< (v1 &&& 31)) ^^^ (-1 : Int32)))) 4)) v1) 4) + 1)) 4) / 4), .ref (ad 12)]) ⟨hx, hb, hml, hown, hts⟩ (t_ha_winnerOf l D ad ca h _) (cwV 1 hts (zg_V q_506 q_508 q_11 q_42 q_509) rfl rfl rfl ⟨rfl, hd_ha_winnerOf⟩ ⟨Nat.le_trans (by decide) hfr, Nat.le_trans (by decide) hlc⟩) (z_preV zNs_ok hK hN hI 3 3 rfl rfl _) rfl rfl hl.1 rfl (lv_room (Nat.le_of_ble_eq_true rfl)) d_ha_put_74 ⟨Nat.zero_le _, Nat.zero_le _⟩) hI ?_
      intro r3 u4 H locs h hI
      obtain ⟨hi, h⟩ := h
      refine cs_leaders hx hb hK hI hi d_ha_put_77 ?_
      intro H locs hI
      exact k_ha_put_78 cx0  hI (lv_sub hl [] rfl) h
def b_ha_live_40  (post : Int32 → ZS → Prop) : Nat → Int32 → Int32 → ZS → Prop
  | 0, _, _, _ => False
  | n + 1, v1, v2, u => ((fI u 4) ≤ v2 → post v1 u) ∧ (¬ ((fI u 4) ≤ v2) → vp_in v2 20 ∧ (b_ha_live_40 post n (v1 ||| (1 <<< ((aI u 6 (Int32.toNatClampNeg v2)) &&& 31))) (v2 + 1) u))
set_option maxRecDepth 100000 in
set_option maxHeartbeats 4000000 in
theorem k_ha_live_40 {p : Program} {l : Launch} {e : Env} {R : Room} {s : State} {m : MethodId} {args : Array Value} {below : List Frame} {meth : Method} {c : Code} {D : va_G} {A : Nat → Prop} {ad : Nat → Nat} {ca : Nat → ClassId}  {post : Int32 → ZS → Prop} (cx : zx p R s m args meth c c_ha_live 3 1 12 "ShortBridge$Hands" (some .int) zG zNs D (cT ca)) : ∀ (n : Nat) (v1 : Int32) (v2 : Int32) (u : ZS) (H : Heap) (locs : List Loc) (ls : Array Slot), zw D A s.heap (cW ad ca u) H locs → lv_has ls 3 [(0, .ref (ad 3)), (1, .int v1), (2, .int v2)] → b_ha_live_40 post n v1 v2 u → W p l e R s m args below meth c H locs 0 0 (MQ below (va_Qi post (zE D (cT ca) (cW ad ca) A) A) args s 0 0 A) (F0 m 40 ls []) := by
  have cx0 := cx
  obtain ⟨hx, hb, hml, hown, hts, hN, hK, hr, hlk, hfr, hlc⟩ := cx
  intro n
  induction n with
  | zero => intro v1 v2 u H locs ls hI hl h; exact (h : False).elim
  | succ n ih =>
    intro v1 v2 u H locs ls hI hl h
    unfold b_ha_live_40 at h
    refine lv_iload_n hx hb d_ha_live_40 rfl (lv_at hl 2 rfl) ?_
    refine lv_aload_n hx hb d_ha_live_41 rfl (lv_at hl 0 rfl) ?_
    refine cg_Hands_count hx hb hts hown hK hI (hts _ q_115) d_ha_live_42 ?_
    refine lv_icmp_ge hx hb d_ha_live_45 rfl (fun hc => ?_) (fun hc => ?_)
    · have h := h.1 hc
      refine lv_iload_n hx hb d_ha_live_65 rfl (lv_at hl 1 rfl) ?_
      exact zret_i hx hb hr hlk hK hI h d_ha_live_66
    · have h := h.2 hc
      refine lv_iload_n hx hb d_ha_live_48 rfl (lv_at hl 1 rfl) ?_
      refine lv_iconst (v := 1) hx hb d_ha_live_49 zc_iconst_1 ?_
      refine lv_aload_n hx hb d_ha_live_50 rfl (lv_at hl 0 rfl) ?_
      refine cg_Hands_played hx hb hts hown hK hI (hts _ q_112) d_ha_live_51 ?_
      refine lv_iload_n hx hb d_ha_live_54 rfl (lv_at hl 2 rfl) ?_
      obtain ⟨hi, h⟩ := h
      refine ca_played hx hb hK hI hi d_ha_live_55 ?_
      refine lv_ishl hx hb d_ha_live_56 ?_
      refine lv_ior hx hb d_ha_live_57 ?_
      refine lv_istore_n hx hb d_ha_live_58 rfl hl (by decide) rfl ?_
      intro ls hl
      have hl : lv_has ls 3 [(1, .int (v1 ||| (1 <<< ((aI u 6 (Int32.toNatClampNeg v2)) &&& 31)))), (0, .ref (ad 3)), (2, .int v2)] := hl
      refine lv_iinc (k := 2) (v := (v2 + 1)) hx hb d_ha_live_59 hl rfl (zi_1 _) (by decide) rfl ?_
      intro ls hl
      have hl : lv_has ls 3 [(2, .int (v2 + 1)), (1, .int (v1 ||| (1 <<< ((aI u 6 (Int32.toNatClampNeg v2)) &&& 31)))), (0, .ref (ad 3))] := hl
      refine lv_goto hx hb d_ha_live_62 rfl ?_
      exact ih _ _ _ _ _ _ hI (lv_sub hl [2, 1, 0] rfl) h
def w_ha_live  (u : ZS) (post : Int32 → ZS → Prop) : Prop := vp_in 0 4 ∧ (vp_in 1 4 ∧ (vp_in 2 4 ∧ (vp_in 3 4 ∧ (∃ n0, b_ha_live_40 post n0 ((((aI u 4 (Int32.toNatClampNeg 0)) ||| (aI u 4 (Int32.toNatClampNeg 1))) ||| (aI u 4 (Int32.toNatClampNeg 2))) ||| (aI u 4 (Int32.toNatClampNeg 3))) ((fI u 4) - ((fI u 4) - (fI u 4) / 4 * 4)) u))))
set_option maxRecDepth 100000 in
set_option maxHeartbeats 4000000 in
theorem t_ha_live (l : Launch) (D : va_G) (ad : Nat → Nat) (ca : Nat → ClassId)  {u : ZS} {post : Int32 → ZS → Prop} (h : w_ha_live  u post) : zI l y_ha_live (Cond.code y_ha_live c_ha_live 3 (some .int) :: zG) { frames := 1, cells := 0, slots := 0, locals := 12 } D (cT ca) zNs (cW ad ca) [.ref (ad 3)] u post := by
  refine zI_of (cc := c_ha_live) (maxL := 3) (ret := (some .int)) (by decide) (Nat.le_of_ble_eq_true rfl) ?_
  intro p e s m args below meth c ls A cx hI hl
  have cx0 := cx
  obtain ⟨hx, hb, hml, hown, hts, hN, hK, hr, hlk, hfr, hlc⟩ := cx
  have hl : lv_has ls 3 [(0, .ref (ad 3))] := hl
  unfold w_ha_live at h
  refine lv_aload_n hx hb d_ha_live_0 rfl (lv_at hl 0 rfl) ?_
  refine cg_Hands_held hx hb hts hown hK hI (hts _ q_109) d_ha_live_1 ?_
  refine lv_iconst (v := 0) hx hb d_ha_live_4 zc_iconst_0 ?_
  obtain ⟨hi, h⟩ := h
  refine ca_held hx hb hK hI hi d_ha_live_5 ?_
  refine lv_aload_n hx hb d_ha_live_6 rfl (lv_at hl 0 rfl) ?_
  refine cg_Hands_held hx hb hts hown hK hI (hts _ q_109) d_ha_live_7 ?_
  refine lv_iconst (v := 1) hx hb d_ha_live_10 zc_iconst_1 ?_
  obtain ⟨hi, h⟩ := h
  refine ca_held hx hb hK hI hi d_ha_live_11 ?_
  refine lv_ior hx hb d_ha_live_12 ?_
  refine lv_aload_n hx hb d_ha_live_13 rfl (lv_at hl 0 rfl) ?_
  refine cg_Hands_held hx hb hts hown hK hI (hts _ q_109) d_ha_live_14 ?_
  refine lv_iconst (v := 2) hx hb d_ha_live_17 zc_iconst_2 ?_
  obtain ⟨hi, h⟩ := h
  refine ca_held hx hb hK hI hi d_ha_live_18 ?_
  refine lv_ior hx hb d_ha_live_19 ?_
  refine lv_aload_n hx hb d_ha_live_20 rfl (lv_at hl 0 rfl) ?_
  refine cg_Hands_held hx hb hts hown hK hI (hts _ q_109) d_ha_live_21 ?_
  refine lv_iconst (v := 3) hx hb d_ha_live_24 zc_iconst_3 ?_
  obtain ⟨hi, h⟩ := h
  refine ca_held hx hb hK hI hi d_ha_live_25 ?_
  refine lv_ior hx hb d_ha_live_26 ?_
  refine lv_istore_n hx hb d_ha_live_27 rfl hl (by decide) rfl ?_
  intro ls hl
  have hl : lv_has ls 3 [(1, .int ((((aI u 4 (Int32.toNatClampNeg 0)) ||| (aI u 4 (Int32.toNatClampNeg 1))) ||| (aI u 4 (Int32.toNatClampNeg 2))) ||| (aI u 4 (Int32.toNatClampNeg 3)))), (0, .ref (ad 3))] := hl
  refine lv_aload_n hx hb d_ha_live_28 rfl (lv_at hl 1 rfl) ?_
  refine cg_Hands_count hx hb hts hown hK hI (hts _ q_115) d_ha_live_29 ?_
  refine lv_aload_n hx hb d_ha_live_32 rfl (lv_at hl 1 rfl) ?_
  refine cg_Hands_count hx hb hts hown hK hI (hts _ q_115) d_ha_live_33 ?_
  refine lv_iconst (v := 4) hx hb d_ha_live_36 zc_iconst_4 ?_
  refine lv_irem hx hb d_ha_live_37 (by decide) ?_
  refine lv_isub hx hb d_ha_live_38 ?_
  refine lv_istore_n hx hb d_ha_live_39 rfl hl (by decide) rfl ?_
  intro ls hl
  have hl : lv_has ls 3 [(2, .int ((fI u 4) - ((fI u 4) - (fI u 4) / 4 * 4))), (1, .int ((((aI u 4 (Int32.toNatClampNeg 0)) ||| (aI u 4 (Int32.toNatClampNeg 1))) ||| (aI u 4 (Int32.toNatClampNeg 2))) ||| (aI u 4 (Int32.toNatClampNeg 3)))), (0, .ref (ad 3))] := hl
  obtain ⟨n0, h⟩ := h
  exact k_ha_live_40 cx0  n0 _ _ _ _ _ _ hI (lv_sub hl [2, 1, 0] rfl) h
