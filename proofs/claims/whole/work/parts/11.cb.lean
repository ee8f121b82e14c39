def b_de_isNumber_19  (post : Int32 → ZS → Prop) (s0 : Int32) (u : ZS) : Prop := (s0 = 0 ∨ s0 = 1) ∧ post s0 u
set_option maxRecDepth 100000 in
set_option maxHeartbeats 4000000 in
theorem k_de_isNumber_19 {p : Program} {l : Launch} {e : Env} {R : Room} {s : State} {m : MethodId} {args : Array Value} {below : List Frame} {meth : Method} {c : Code} {D : va_G} {A : Nat → Prop} {ad : Nat → Nat} {ca : Nat → ClassId}  {post : Int32 → ZS → Prop} (cx : zx p R s m args meth c c_de_isNumber 2 1 12 "ShortBridge$Deal" (some .boolean) zG zNs D (cT ca)) {s0 : Int32} {u : ZS} {H : Heap} {locs : List Loc} {ls : Array Slot} (hI : zw D A s.heap (cW ad ca u) H locs) (hl : lv_has ls 2 []) (h : b_de_isNumber_19 post s0 u) : W p l e R s m args below meth c H locs 0 0 (MQ below (va_Qi post (zE D (cT ca) (cW ad ca) A) A) args s 0 0 A) (F0 m 19 ls [.int s0]) := by
  have cx0 := cx
  obtain ⟨hx, hb, hml, hown, hts, hN, hK, hr, hlk, hfr, hlc⟩ := cx
  unfold b_de_isNumber_19 at h
  exact zret_z hx hb hr hlk hK hI h.1 h.2 d_de_isNumber_19
def b_de_isNumber_18  (post : Int32 → ZS → Prop)  (u : ZS) : Prop := b_de_isNumber_19 post 0 u
set_option maxRecDepth 100000 in
set_option maxHeartbeats 4000000 in
theorem k_de_isNumber_18 {p : Program} {l : Launch} {e : Env} {R : Room} {s : State} {m : MethodId} {args : Array Value} {below : List Frame} {meth : Method} {c : Code} {D : va_G} {A : Nat → Prop} {ad : Nat → Nat} {ca : Nat → ClassId}  {post : Int32 → ZS → Prop} (cx : zx p R s m args meth c c_de_isNumber 2 1 12 "ShortBridge$Deal" (some .boolean) zG zNs D (cT ca)) {u : ZS} {H : Heap} {locs : List Loc} {ls : Array Slot} (hI : zw D A s.heap (cW ad ca u) H locs) (hl : lv_has ls 2 []) (h : b_de_isNumber_18 post  u) : W p l e R s m args below meth c H locs 0 0 (MQ below (va_Qi post (zE D (cT ca) (cW ad ca) A) A) args s 0 0 A) (F0 m 18 ls []) := by
  have cx0 := cx
  obtain ⟨hx, hb, hml, hown, hts, hN, hK, hr, hlk, hfr, hlc⟩ := cx
  unfold b_de_isNumber_18 at h
  refine lv_iconst (v := 0) hx hb d_de_isNumber_18 zc_iconst_0 ?_
  exact k_de_isNumber_19 cx0  hI (lv_sub hl [] rfl) h
def w_de_isNumber (v0 : Int64) (u : ZS) (post : Int32 → ZS → Prop) : Prop := ((lg_cmp v0 0) < 0 → b_de_isNumber_18 post u) ∧ (¬ ((lg_cmp v0 0) < 0) → (0 ≤ (lg_cmp v0 11732745024) → b_de_isNumber_18 post u) ∧ (¬ (0 ≤ (lg_cmp v0 11732745024)) → b_de_isNumber_19 post 1 u))
set_option maxRecDepth 100000 in
set_option maxHeartbeats 4000000 in
theorem t_de_isNumber (l : Launch) (D : va_G) (ad : Nat → Nat) (ca : Nat → ClassId) {v0 : Int64} {u : ZS} {post : Int32 → ZS → Prop} (h : w_de_isNumber v0 u post) : zI l y_de_isNumber (Cond.code y_de_isNumber c_de_isNumber 2 (some .boolean) :: zG) { frames := 1, cells := 0, slots := 0, locals := 12 } D (cT ca) zNs (cW ad ca) [.long v0] u post := by
  refine zI_of (cc := c_de_isNumber) (maxL := 2) (ret := (some .boolean)) (by decide) (Nat.le_of_ble_eq_true rfl) ?_
  intro p e s m args below meth c ls A cx hI hl
  have cx0 := cx
  obtain ⟨hx, hb, hml, hown, hts, hN, hK, hr, hlk, hfr, hlc⟩ := cx
  have hl : lv_has ls 2 [(0, .long v0)] := hl
  unfold w_de_isNumber at h
  refine lv_lload_n hx hb d_de_isNumber_0 rfl (lv_at hl 0 rfl) ?_
  refine lv_lconst (v := 0) hx hb d_de_isNumber_1 (by decide) ?_
  refine W.lcmp hx hb d_de_isNumber_2 ?_
  refine lv_if_lt hx hb d_de_isNumber_3 rfl (fun hc => ?_) (fun hc => ?_)
  · have h := h.1 hc
    exact k_de_isNumber_18 cx0  hI (lv_sub hl [] rfl) h
  · have h := h.2 hc
    refine lv_lload_n hx hb d_de_isNumber_6 rfl (lv_at hl 0 rfl) ?_
    refine lv_ldc2 (v := 11732745024) hx hb hown (hts _ q_176) d_de_isNumber_7 ?_
    refine W.lcmp hx hb d_de_isNumber_10 ?_
    refine lv_if_ge hx hb d_de_isNumber_11 rfl (fun hc => ?_) (fun hc => ?_)
    · have h := h.1 hc
      exact k_de_isNumber_18 cx0  hI (lv_sub hl [] rfl) h
    · have h := h.2 hc
      refine lv_iconst (v := 1) hx hb d_de_isNumber_14 zc_iconst_1 ?_
      refine lv_goto hx hb d_de_isNumber_15 rfl ?_
      exact k_de_isNumber_19 cx0  hI (lv_sub hl [] rfl) h
def b_de_fillLeft_2  (post : ZS → Prop) : Nat → Int32 → ZS → Prop
  | 0, _, _ => False
  | n + 1, v1, u => (4 ≤ v1 → post u) ∧ (¬ (4 ≤ v1) → vp_in v1 4 ∧ (b_de_fillLeft_2 post n (v1 + 1) (pI u 2 (Int32.toNatClampNeg v1) 5)))
set_option maxRecDepth 100000 in
set_option maxHeartbeats 4000000 in
theorem k_de_fillLeft_2 {p : Program} {l : Launch} {e : Env} {R : Room} {s : State} {m : MethodId} {args : Array Value} {below : List Frame} {meth : Method} {c : Code} {D : va_G} {A : Nat → Prop} {ad : Nat → Nat} {ca : Nat → ClassId}  {post : ZS → Prop} (cx : zx p R s m args meth c c_de_fillLeft 2 1 12 "ShortBridge$Deal" none zG zNs D (cT ca)) : ∀ (n : Nat) (v1 : Int32) (u : ZS) (H : Heap) (locs : List Loc) (ls : Array Slot), zw D A s.heap (cW ad ca u) H locs → lv_has ls 2 [(0, .ref (ad 1)), (1, .int v1)] → b_de_fillLeft_2 post n v1 u → W p l e R s m args below meth c H locs 0 0 (MQ below (va_Qv post (zE D (cT ca) (cW ad ca) A) A) args s 0 0 A) (F0 m 2 ls []) := by
  have cx0 := cx
  obtain ⟨hx, hb, hml, hown, hts, hN, hK, hr, hlk, hfr, hlc⟩ := cx
  intro n
  induction n with
  | zero => intro v1 u H locs ls hI hl h; exact (h : False).elim
  | succ n ih =>
    intro v1 u H locs ls hI hl h
    unfold b_de_fillLeft_2 at h
    refine lv_iload_n hx hb d_de_fillLeft_2 rfl (lv_at hl 1 rfl) ?_
    refine lv_iconst (v := 4) hx hb d_de_fillLeft_3 zc_iconst_4 ?_
    refine lv_icmp_ge hx hb d_de_fillLeft_4 rfl (fun hc => ?_) (fun hc => ?_)
    · have h := h.1 hc
      exact zret_v hx hb hr hlk hK hI h d_de_fillLeft_20
    · have h := h.2 hc
      refine lv_aload_n hx hb d_de_fillLeft_7 rfl (lv_at hl 0 rfl) ?_
      refine cg_Deal_left hx hb hts hown hK hI (hts _ q_73) d_de_fillLeft_8 ?_
      refine lv_iload_n hx hb d_de_fillLeft_11 rfl (lv_at hl 1 rfl) ?_
      refine lv_iconst (v := 5) hx hb d_de_fillLeft_12 zc_iconst_5 ?_
      obtain ⟨hi, h⟩ := h
      refine cs_left hx hb hK hI hi d_de_fillLeft_13 ?_
      intro H locs hI
      refine lv_iinc (k := 1) (v := (v1 + 1)) hx hb d_de_fillLeft_14 hl rfl (zi_1 _) (by decide) rfl ?_
      intro ls hl
      have hl : lv_has ls 2 [(1, .int (v1 + 1)), (0, .ref (ad 1))] := hl
      refine lv_goto hx hb d_de_fillLeft_17 rfl ?_
      exact ih _ _ _ _ _ hI (lv_sub hl [1, 0] rfl) h
def w_de_fillLeft  (u : ZS) (post : ZS → Prop) : Prop := ∃ n0, b_de_fillLeft_2 post n0 0 u
set_option maxRecDepth 100000 in
set_option maxHeartbeats 4000000 in
theorem t_de_fillLeft (l : Launch) (D : va_G) (ad : Nat → Nat) (ca : Nat → ClassId)  {u : ZS} {post : ZS → Prop} (h : w_de_fillLeft  u post) : zV l y_de_fillLeft (Cond.code y_de_fillLeft c_de_fillLeft 2 none :: zG) { frames := 1, cells := 0, slots := 0, locals := 12 } D (cT ca) zNs (cW ad ca) [.ref (ad 1)] u post := by
  refine zV_of (cc := c_de_fillLeft) (maxL := 2) (by decide) (Nat.le_of_ble_eq_true rfl) ?_
  intro p e s m args below meth c ls A cx hI hl
  have cx0 := cx
  obtain ⟨hx, hb, hml, hown, hts, hN, hK, hr, hlk, hfr, hlc⟩ := cx
  have hl : lv_has ls 2 [(0, .ref (ad 1))] := hl
  unfold w_de_fillLeft at h
  refine lv_iconst (v := 0) hx hb d_de_fillLeft_0 zc_iconst_0 ?_
  refine lv_istore_n hx hb d_de_fillLeft_1 rfl hl (by decide) rfl ?_
  intro ls hl
  have hl : lv_has ls 2 [(1, .int 0), (0, .ref (ad 1))] := hl
  obtain ⟨n0, h⟩ := h
  exact k_de_fillLeft_2 cx0  n0 _ _ _ _ _ hI (lv_sub hl [1, 0] rfl) h
def w_de_share (v1 : Int64) (v3 : Int32) (v4 : Int32) (u : ZS) (post : Int64 → ZS → Prop) : Prop := vp_in v3 4 ∧ (¬ (Int32.toInt64 (20 - v4)) = 0 ∧ (post ((v1 * (Int32.toInt64 (aI u 2 (Int32.toNatClampNeg v3)))) / (Int32.toInt64 (20 - v4))) u))
set_option maxRecDepth 100000 in
set_option maxHeartbeats 4000000 in
theorem t_de_share (l : Launch) (D : va_G) (ad : Nat → Nat) (ca : Nat → ClassId) {v1 : Int64} {v3 : Int32} {v4 : Int32} {u : ZS} {post : Int64 → ZS → Prop} (h : w_de_share v1 v3 v4 u post) : zJ l y_de_share (Cond.code y_de_share c_de_share 5 (some .long) :: zG) { frames := 1, cells := 0, slots := 0, locals := 12 } D (cT ca) zNs (cW ad ca) [.ref (ad 1), .long v1, .int v3, .int v4] u post := by
  refine zJ_of (cc := c_de_share) (maxL := 5) (ret := (some .long)) (by decide) (Nat.le_of_ble_eq_true rfl) ?_
  intro p e s m args below meth c ls A cx hI hl
  have cx0 := cx
  obtain ⟨hx, hb, hml, hown, hts, hN, hK, hr, hlk, hfr, hlc⟩ := cx
  have hl : lv_has ls 5 [(0, .ref (ad 1)), (1, .long v1), (3, .int v3), (4, .int v4)] := hl
  unfold w_de_share at h
  refine lv_lload_n hx hb d_de_share_0 rfl (lv_at hl 1 rfl) ?_
  refine lv_aload_n hx hb d_de_share_1 rfl (lv_at hl 0 rfl) ?_
  refine cg_Deal_left hx hb hts hown hK hI (hts _ q_73) d_de_share_2 ?_
  refine lv_iload_n hx hb d_de_share_5 rfl (lv_at hl 2 rfl) ?_
  obtain ⟨hi, h⟩ := h
  refine ca_left hx hb hK hI hi d_de_share_6 ?_
  refine lv_i2l (v := (Int32.toInt64 (aI u 2 (Int32.toNatClampNeg v3)))) hx hb d_de_share_7 rfl ?_
  refine lv_lmul hx hb d_de_share_8 ?_
  refine lv_bipush (v := 20) hx hb d_de_share_9 zc_bipush_20 ?_
  refine lv_iload hx hb d_de_share_11 (lv_at hl 3 rfl) ?_
  refine lv_isub hx hb d_de_share_13 ?_
  refine lv_i2l (v := (Int32.toInt64 (20 - v4))) hx hb d_de_share_14 rfl ?_
  obtain ⟨h0, h⟩ := h
  refine lv_ldiv hx hb d_de_share_15 h0 ?_
  exact zret_l hx hb hr hlk hK hI h d_de_share_16
def b_de_takeNumber_77 (r19 : Int64 → Int64 → Int32 → ZS → Prop) (post : ZS → Prop) (v3 : Int64) (v7 : Int32) (v8 : Int32) (v9 : Int64) (u : ZS) : Prop := vp_in v7 20 ∧ (vp_in v8 4 ∧ (vp_in v8 4 ∧ (r19 v3 v9 (v7 + 1) (pI (pI u 0 (Int32.toNatClampNeg v7) v8) 2 (Int32.toNatClampNeg v8) ((aI (pI u 0 (Int32.toNatClampNeg v7) v8) 2 (Int32.toNatClampNeg v8)) - 1)))))
set_option maxRecDepth 100000 in
set_option maxHeartbeats 4000000 in
theorem k_de_takeNumber_77 {p : Program} {l : Launch} {e : Env} {R : Room} {s : State} {m : MethodId} {args : Array Value} {below : List Frame} {meth : Method} {c : Code} {D : va_G} {A : Nat → Prop} {ad : Nat → Nat} {ca : Nat → ClassId} {r19 : Int64 → Int64 → Int32 → ZS → Prop} {post : ZS → Prop} (cx : zx p R s m args meth c c_de_takeNumber 11 2 36 "ShortBridge$Deal" none zG zNs D (cT ca)) (hk19 : ∀ (v3 : Int64) (v5 : Int64) (v7 : Int32) (u : ZS) (H : Heap) (locs : List Loc) (ls : Array Slot), zw D A s.heap (cW ad ca u) H locs → lv_has ls 11 [(0, .ref (ad 1)), (3, .long v3), (5, .long v5), (7, .int v7)] → r19 v3 v5 v7 u → W p l e R s m args below meth c H locs 0 0 (MQ below (va_Qv post (zE D (cT ca) (cW ad ca) A) A) args s 0 0 A) (F0 m 19 ls [])) {v3 : Int64} {v7 : Int32} {v8 : Int32} {v9 : Int64} {u : ZS} {H : Heap} {locs : List Loc} {ls : Array Slot} (hI : zw D A s.heap (cW ad ca u) H locs) (hl : lv_has ls 11 [(0, .ref (ad 1)), (3, .long v3), (7, .int v7), (8, .int v8), (9, .long v9)]) (h : b_de_takeNumber_77 r19 post v3 v7 v8 v9 u) : W p l e R s m args below meth c H locs 0 0 (MQ below (va_Qv post (zE D (cT ca) (cW ad ca) A) A) args s 0 0 A) (F0 m 77 ls []) := by
  have cx0 := cx
  obtain ⟨hx, hb, hml, hown, hts, hN, hK, hr, hlk, hfr, hlc⟩ := cx
  unfold b_de_takeNumber_77 at h
  refine lv_aload_n hx hb d_de_takeNumber_77 rfl (lv_at hl 0 rfl) ?_
  refine cg_Deal_owners hx hb hts hown hK hI (hts _ q_70) d_de_takeNumber_78 ?_
  refine lv_iload hx hb d_de_takeNumber_81 (lv_at hl 2 rfl) ?_
  refine lv_iload hx hb d_de_takeNumber_83 (lv_at hl 3 rfl) ?_
  obtain ⟨hi, h⟩ := h
  refine cs_owners hx hb hK hI hi d_de_takeNumber_85 ?_
  intro H locs hI
  refine lv_aload_n hx hb d_de_takeNumber_86 rfl (lv_at hl 0 rfl) ?_
  refine cg_Deal_left hx hb hts hown hK hI (hts _ q_73) d_de_takeNumber_87 ?_
  refine lv_iload hx hb d_de_takeNumber_90 (lv_at hl 3 rfl) ?_
  refine lv_dup2_11 hx hb d_de_takeNumber_92 rfl rfl ?_
  obtain ⟨hi, h⟩ := h
  refine ca_left hx hb hK hI hi d_de_takeNumber_93 ?_
  refine lv_iconst (v := 1) hx hb d_de_takeNumber_94 zc_iconst_1 ?_
  refine lv_isub hx hb d_de_takeNumber_95 ?_
  obtain ⟨hi, h⟩ := h
  refine cs_left hx hb hK hI hi d_de_takeNumber_96 ?_
  intro H locs hI
  refine lv_lload hx hb d_de_takeNumber_97 (lv_at hl 4 rfl) ?_
  refine lv_lstore hx hb d_de_takeNumber_99 hl (by decide) rfl ?_
  intro ls hl
  have hl : lv_has ls 11 [(5, .long v9), (0, .ref (ad 1)), (3, .long v3), (7, .int v7), (8, .int v8), (9, .long v9)] := hl
  refine lv_iinc (k := 3) (v := (v7 + 1)) hx hb d_de_takeNumber_101 hl rfl (zi_1 _) (by decide) rfl ?_
  intro ls hl
  have hl : lv_has ls 11 [(7, .int (v7 + 1)), (5, .long v9), (0, .ref (ad 1)), (3, .long v3), (8, .int v8), (9, .long v9)] := hl
  refine lv_goto hx hb d_de_takeNumber_104 rfl ?_
  exact hk19 _ _ _ _ _ _ _ hI (lv_sub hl [2, 3, 1, 0] rfl) h
def b_de_takeNumber_41 (r19 : Int64 → Int64 → Int32 → ZS → Prop) (post : ZS → Prop) : Nat → Int64 → Int64 → Int32 → Int32 → Int64 → ZS → Prop
  | 0, _, _, _, _, _, _ => False
  | n + 1, v3, v5, v7, v8, v9, u => (3 ≤ v8 → b_de_takeNumber_77 r19 post v3 v7 v8 v9 u) ∧ (¬ (3 ≤ v8) → ((lg_cmp v3 v9) < 0 → b_de_takeNumber_77 r19 post v3 v7 v8 v9 u) ∧ (¬ ((lg_cmp v3 v9) < 0) → w_de_share v5 (v8 + 1) v7 u (fun r1 u2 => b_de_takeNumber_41 r19 post n (v3 - v9) v5 v7 (v8 + 1) r1 u2)))
set_option maxRecDepth 100000 in
set_option maxHeartbeats 4000000 in
theorem k_de_takeNumber_41 {p : Program} {l : Launch} {e : Env} {R : Room} {s : State} {m : MethodId} {args : Array Value} {below : List Frame} {meth : Method} {c : Code} {D : va_G} {A : Nat → Prop} {ad : Nat → Nat} {ca : Nat → ClassId} {r19 : Int64 → Int64 → Int32 → ZS → Prop} {post : ZS → Prop} (cx : zx p R s m args meth c c_de_takeNumber 11 2 36 "ShortBridge$Deal" none zG zNs D (cT ca)) (hk19 : ∀ (v3 : Int64) (v5 : Int64) (v7 : Int32) (u : ZS) (H : Heap) (locs : List Loc) (ls : Array Slot), zw D A s.heap (cW ad ca u) H locs → lv_has ls 11 [(0, .ref (ad 1)), (3, .long v3), (5, .long v5), (7, .int v7)] → r19 v3 v5 v7 u → W p l e R s m args below meth c H locs 0 0 (MQ below (va_Qv post (zE D (cT ca) (cW ad ca) A) A) args s 0 0 A) (F0 m 19 ls [])) : ∀ (n : Nat) (v3 : Int64) (v5 : Int64) (v7 : Int32) (v8 : Int32) (v9 : Int64) (u : ZS) (H : Heap) (locs : List Loc) (ls : Array Slot), zw D A s.heap (cW ad ca u) H locs → lv_has ls 11 [(0, .ref (ad 1)), (3, .long v3), (5, .long v5), (7, .int v7), (8, .int v8), (9, .long v9)] → b_de_takeNumber_41 r19 post n v3 v5 v7 v8 v9 u → W p l e R s m args below meth c H locs 0 0 (MQ below (va_Qv post (zE D (cT ca) (cW ad ca) A) A) args s 0 0 A) (F0 m 41 ls []) := by
  have cx0 := cx
  obtain ⟨hx, hb, hml, hown, hts, hN, hK, hr, hlk, hfr, hlc⟩ := cx
  intro n
  induction n with
  | zero => intro v3 v5 v7 v8 v9 u H locs ls hI hl h; exact (h : False).elim
  | succ n ih =>
    intro v3 v5 v7 v8 v9 u H locs ls hI hl h
    unfold b_de_takeNumber_41 at h
    refine lv_iload hx hb d_de_takeNumber_41 (lv_at hl 4 rfl) ?_
    refine lv_iconst (v := 3) hx hb d_de_takeNumber_43 zc_iconst_3 ?_
    refine lv_icmp_ge hx hb d_de_takeNumber_44 rfl (fun hc => ?_) (fun hc => ?_)
    · have h := h.1 hc
      exact k_de_takeNumber_77 cx0 hk19 hI (lv_sub hl [0, 1, 3, 4, 5] rfl) h
    · have h := h.2 hc
      refine lv_lload_n hx hb d_de_takeNumber_47 rfl (lv_at hl 1 rfl) ?_
      refine lv_lload hx hb d_de_takeNumber_48 (lv_at hl 5 rfl) ?_
      refine W.lcmp hx hb d_de_takeNumber_50 ?_
      refine lv_if_lt hx hb d_de_takeNumber_51 rfl (fun hc => ?_) (fun hc => ?_)
      · have h := h.1 hc
        exact k_de_takeNumber_77 cx0 hk19 hI (lv_sub hl [0, 1, 3, 4, 5] rfl) h
      · have h := h.2 hc
        refine lv_lload_n hx hb d_de_takeNumber_54 rfl (lv_at hl 1 rfl) ?_
        refine lv_lload hx hb d_de_takeNumber_55 (lv_at hl 5 rfl) ?_
        refine lv_lsub hx hb d_de_takeNumber_57 ?_
        refine lv_lstore_n hx hb d_de_takeNumber_58 rfl hl (by decide) rfl ?_
        intro ls hl
        have hl : lv_has ls 11 [(3, .long (v3 - v9)), (0, .ref (ad 1)), (5, .long v5), (7, .int v7), (8, .int v8), (9, .long v9)] := hl
        refine lv_iinc (k := 4) (v := (v8 + 1)) hx hb d_de_takeNumber_59 hl rfl (zi_1 _) (by decide) rfl ?_
        intro ls hl
        have hl : lv_has ls 11 [(8, .int (v8 + 1)), (3, .long (v3 - v9)), (0, .ref (ad 1)), (5, .long v5), (7, .int v7), (9, .long v9)] := hl
        refine lv_aload_n hx hb d_de_takeNumber_62 rfl (lv_at hl 2 rfl) ?_
        refine lv_lload hx hb d_de_takeNumber_63 (lv_at hl 3 rfl) ?_
        refine lv_iload hx hb d_de_takeNumber_65 (lv_at hl 0 rfl) ?_
        refine lv_iload hx hb d_de_takeNumber_67 (lv_at hl 4 rfl) ?_
        refine zr_l (va_runV (As := [.long v5, .int (v8 + 1), .int v7]) (rest := []) ⟨hx, hb, hml, hown, hts⟩ (t_de_share l D ad ca h _) (cwV 3 hts (zg_V q_191 q_193 q_1 q_40 q_194) rfl rfl rfl ⟨rfl, hd_de_share⟩ ⟨Nat.le_trans (by decide) hfr, Nat.le_trans (by decide) hlc⟩) (z_preV zNs_ok hK hN hI 1 1 rfl rfl _) rfl rfl hl.1 rfl (lv_room (Nat.le_of_ble_eq_true rfl)) d_de_takeNumber_69 ⟨Nat.zero_le _, Nat.zero_le _⟩) hI ?_
        intro r1 u2 H locs h hI
        refine lv_lstore hx hb d_de_takeNumber_72 hl (by decide) rfl ?_
        intro ls hl
        have hl : lv_has ls 11 [(9, .long r1), (8, .int (v8 + 1)), (3, .long (v3 - v9)), (0, .ref (ad 1)), (5, .long v5), (7, .int v7)] := hl
        refine lv_goto hx hb d_de_takeNumber_74 rfl ?_
        exact ih _ _ _ _ _ _ _ _ _ hI (lv_sub hl [3, 2, 4, 5, 1, 0] rfl) h
def b_de_takeNumber_19  (post : ZS → Prop) : Nat → Int64 → Int64 → Int32 → ZS → Prop
  | 0, _, _, _, _ => False
  | n + 1, v3, v5, v7, u => (20 ≤ v7 → post u) ∧ (¬ (20 ≤ v7) → w_de_share v5 0 v7 u (fun r3 u4 => ∃ n0, b_de_takeNumber_41 (b_de_takeNumber_19 post n) post n0 v3 v5 v7 0 r3 u4))
set_option maxRecDepth 100000 in
set_option maxHeartbeats 4000000 in
theorem k_de_takeNumber_19 {p : Program} {l : Launch} {e : Env} {R : Room} {s : State} {m : MethodId} {args : Array Value} {below : List Frame} {meth : Method} {c : Code} {D : va_G} {A : Nat → Prop} {ad : Nat → Nat} {ca : Nat → ClassId}  {post : ZS → Prop} (cx : zx p R s m args meth c c_de_takeNumber 11 2 36 "ShortBridge$Deal" none zG zNs D (cT ca)) : ∀ (n : Nat) (v3 : Int64) (v5 : Int64) (v7 : Int32) (u : ZS) (H : Heap) (locs : List Loc) (ls : Array Slot), zw D A s.heap (cW ad ca u) H locs → lv_has ls 11 [(0, .ref (ad 1)), (3, .long v3), (5, .long v5), (7, .int v7)] → b_de_takeNumber_19 post n v3 v5 v7 u → W p l e R s m args below meth c H locs 0 0 (MQ below (va_Qv post (zE D (cT ca) (cW ad ca) A) A) args s 0 0 A) (F0 m 19 ls []) := by
  have cx0 := cx
  obtain ⟨hx, hb, hml, hown, hts, hN, hK, hr, hlk, hfr, hlc⟩ := cx
  intro n
  induction n with
  | zero => intro v3 v5 v7 u H locs ls hI hl h; exact (h : False).elim
  | succ n ih =>
    intro v3 v5 v7 u H locs ls hI hl h
    unfold b_de_takeNumber_19 at h
    refine lv_iload hx hb d_de_takeNumber_19 (lv_at hl 3 rfl) ?_
    refine lv_bipush (v := 20) hx hb d_de_takeNumber_21 zc_bipush_20 ?_
    refine lv_icmp_ge hx hb d_de_takeNumber_23 rfl (fun hc => ?_) (fun hc => ?_)
    · have h := h.1 hc
      exact zret_v hx hb hr hlk hK hI h d_de_takeNumber_107
    · have h := h.2 hc
      refine lv_iconst (v := 0) hx hb d_de_takeNumber_26 zc_iconst_0 ?_
      refine lv_istore hx hb d_de_takeNumber_27 hl (by decide) rfl ?_
      intro ls hl
      have hl : lv_has ls 11 [(8, .int 0), (0, .ref (ad 1)), (3, .long v3), (5, .long v5), (7, .int v7)] := hl
      refine lv_aload_n hx hb d_de_takeNumber_29 rfl (lv_at hl 1 rfl) ?_
      refine lv_lload hx hb d_de_takeNumber_30 (lv_at hl 3 rfl) ?_
      refine lv_iload hx hb d_de_takeNumber_32 (lv_at hl 0 rfl) ?_
      refine lv_iload hx hb d_de_takeNumber_34 (lv_at hl 4 rfl) ?_
      refine zr_l (va_runV (As := [.long v5, .int 0, .int v7]) (rest := []) ⟨hx, hb, hml, hown, hts⟩ (t_de_share l D ad ca h _) (cwV 3 hts (zg_V q_191 q_193 q_1 q_40 q_194) rfl rfl rfl ⟨rfl, hd_de_share⟩ ⟨Nat.le_trans (by decide) hfr, Nat.le_trans (by decide) hlc⟩) (z_preV zNs_ok hK hN hI 1 1 rfl rfl _) rfl rfl hl.1 rfl (lv_room (Nat.le_of_ble_eq_true rfl)) d_de_takeNumber_36 ⟨Nat.zero_le _, Nat.zero_le _⟩) hI ?_
      intro r3 u4 H locs h hI
      refine lv_lstore hx hb d_de_takeNumber_39 hl (by decide) rfl ?_
      intro ls hl
      have hl : lv_has ls 11 [(9, .long r3), (8, .int 0), (0, .ref (ad 1)), (3, .long v3), (5, .long v5), (7, .int v7)] := hl
      obtain ⟨n0, h⟩ := h
      exact k_de_takeNumber_41 cx0 ih n0 _ _ _ _ _ _ _ _ _ hI (lv_sub hl [2, 3, 4, 5, 1, 0] rfl) h
def w_de_takeNumber (v1 : Int64) (u : ZS) (post : ZS → Prop) : Prop := w_de_fillLeft  (sJ u 0 v1) (fun u6 => ∃ n0, b_de_takeNumber_19 post n0 v1 11732745024 0 u6)
set_option maxRecDepth 100000 in
set_option maxHeartbeats 4000000 in
theorem t_de_takeNumber (l : Launch) (D : va_G) (ad : Nat → Nat) (ca : Nat → ClassId) {v1 : Int64} {u : ZS} {post : ZS → Prop} (h : w_de_takeNumber v1 u post) : zV l y_de_takeNumber (Cond.code y_de_takeNumber c_de_takeNumber 11 none :: zG) { frames := 2, cells := 0, slots := 0, locals := 36 } D (cT ca) zNs (cW ad ca) [.ref (ad 1), .long v1] u post := by
  refine zV_of (cc := c_de_takeNumber) (maxL := 11) (by decide) (Nat.le_of_ble_eq_true rfl) ?_
  intro p e s m args below meth c ls A cx hI hl
  have cx0 := cx
  obtain ⟨hx, hb, hml, hown, hts, hN, hK, hr, hlk, hfr, hlc⟩ := cx
  have hl : lv_has ls 11 [(0, .ref (ad 1)), (1, .long v1)] := hl
  unfold w_de_takeNumber at h
  refine lv_aload_n hx hb d_de_takeNumber_0 rfl (lv_at hl 0 rfl) ?_
  refine lv_lload_n hx hb d_de_takeNumber_1 rfl (lv_at hl 1 rfl) ?_
  refine cp_Deal_rank hx hb hts hown hK hI (hts _ q_74) d_de_takeNumber_2 ?_
  intro H locs hI
  refine lv_aload_n hx hb d_de_takeNumber_5 rfl (lv_at hl 0 rfl) ?_
  refine zr_v (va_runV (As := []) (rest := []) ⟨hx, hb, hml, hown, hts⟩ (t_de_fillLeft l D ad ca h _) (cwV 0 hts (zg_V q_187 q_189 q_0 q_40 q_190) rfl rfl rfl ⟨rfl, hd_de_fillLeft⟩ ⟨Nat.le_trans (by decide) hfr, Nat.le_trans (by decide) hlc⟩) (z_preV zNs_ok hK hN hI 1 1 rfl rfl _) rfl rfl hl.1 rfl (lv_room (Nat.le_of_ble_eq_true rfl)) d_de_takeNumber_6 ⟨Nat.zero_le _, Nat.zero_le _⟩) hI ?_
  intro u6 H locs h hI
  refine lv_lload_n hx hb d_de_takeNumber_9 rfl (lv_at hl 1 rfl) ?_
  refine lv_lstore_n hx hb d_de_takeNumber_10 rfl hl (by decide) rfl ?_
  intro ls hl
  have hl : lv_has ls 11 [(3, .long v1), (0, .ref (ad 1)), (1, .long v1)] := hl
  refine lv_ldc2 (v := 11732745024) hx hb hown (hts _ q_176) d_de_takeNumber_11 ?_
  refine lv_lstore hx hb d_de_takeNumber_14 hl (by decide) rfl ?_
  intro ls hl
  have hl : lv_has ls 11 [(5, .long 11732745024), (3, .long v1), (0, .ref (ad 1)), (1, .long v1)] := hl
  refine lv_iconst (v := 0) hx hb d_de_takeNumber_16 zc_iconst_0 ?_
  refine lv_istore hx hb d_de_takeNumber_17 hl (by decide) rfl ?_
  intro ls hl
  have hl : lv_has ls 11 [(7, .int 0), (5, .long 11732745024), (3, .long v1), (0, .ref (ad 1)), (1, .long v1)] := hl
  obtain ⟨n0, h⟩ := h
  exact k_de_takeNumber_19 cx0  n0 _ _ _ _ _ _ _ hI (lv_sub hl [3, 2, 1, 0] rfl) h
def b_de_shuffleRow_27  (post : ZS → Prop) : Nat → Int64 → Int32 → ZS → Prop
  | 0, _, _, _ => False
  | n + 1, v3, v5, u => (v5 < 1 → post u) ∧ (¬ (v5 < 1) → ¬ (Int32.toInt64 (v5 + 1)) = 0 ∧ (vp_in v5 20 ∧ (vp_in (Int64.toInt32 (((Int64.toUInt64 ((v3 * 6364136223846793005) + 1442695040888963407) >>> (Int64.toUInt64 (Int32.toInt64 33) &&& Int64.toUInt64 63)).toInt64) - ((Int64.toUInt64 ((v3 * 6364136223846793005) + 1442695040888963407) >>> (Int64.toUInt64 (Int32.toInt64 33) &&& Int64.toUInt64 63)).toInt64) / (Int32.toInt64 (v5 + 1)) * (Int32.toInt64 (v5 + 1)))) 20 ∧ (vp_in v5 20 ∧ (vp_in (Int64.toInt32 (((Int64.toUInt64 ((v3 * 6364136223846793005) + 1442695040888963407) >>> (Int64.toUInt64 (Int32.toInt64 33) &&& Int64.toUInt64 63)).toInt64) - ((Int64.toUInt64 ((v3 * 6364136223846793005) + 1442695040888963407) >>> (Int64.toUInt64 (Int32.toInt64 33) &&& Int64.toUInt64 63)).toInt64) / (Int32.toInt64 (v5 + 1)) * (Int32.toInt64 (v5 + 1)))) 20 ∧ (b_de_shuffleRow_27 post n ((v3 * 6364136223846793005) + 1442695040888963407) (v5 + (-1)) (pI (pI u 1 (Int32.toNatClampNeg v5) (aI u 1 (Int32.toNatClampNeg (Int64.toInt32 (((Int64.toUInt64 ((v3 * 6364136223846793005) + 1442695040888963407) >>> (Int64.toUInt64 (Int32.toInt64 33) &&& Int64.toUInt64 63)).toInt64) - ((Int64.toUInt64 ((v3 * 6364136223846793005) + 1442695040888963407) >>> (Int64.toUInt64 (Int32.toInt64 33) &&& Int64.toUInt64 63)).toInt64) / (Int32.toInt64 (v5 + 1)) * (Int32.toInt64 (v5 + 1))))))) 1 (Int32.toNatClampNeg (Int64.toInt32 (((Int64.toUInt64 ((v3 * 6364136223846793005) + 1442695040888963407) >>> (Int64.toUInt64 (Int32.toInt64 33) &&& Int64.toUInt64 63)).toInt64) - ((Int64.toUInt64 ((v3 * 6364136223846793005) + 1442695040888963407) >>> (Int64.toUInt64 (Int32.toInt64 33) &&& Int64.toUInt64 63)).toInt64) / (Int32.toInt64 (v5 + 1)) * (Int32.toInt64 (v5 + 1))))) (aI u 1 (Int32.toNatClampNeg v5)))))))))
set_option maxRecDepth 100000 in
set_option maxHeartbeats 4000000 in
theorem k_de_shuffleRow_27 {p : Program} {l : Launch} {e : Env} {R : Room} {s : State} {m : MethodId} {args : Array Value} {below : List Frame} {meth : Method} {c : Code} {D : va_G} {A : Nat → Prop} {ad : Nat → Nat} {ca : Nat → ClassId}  {post : ZS → Prop} (cx : zx p R s m args meth c c_de_shuffleRow 8 1 12 "ShortBridge$Deal" none zG zNs D (cT ca)) : ∀ (n : Nat) (v3 : Int64) (v5 : Int32) (u : ZS) (H : Heap) (locs : List Loc) (ls : Array Slot), zw D A s.heap (cW ad ca u) H locs → lv_has ls 8 [(0, .ref (ad 1)), (3, .long v3), (5, .int v5)] → b_de_shuffleRow_27 post n v3 v5 u → W p l e R s m args below meth c H locs 0 0 (MQ below (va_Qv post (zE D (cT ca) (cW ad ca) A) A) args s 0 0 A) (F0 m 27 ls []) := by
  have cx0 := cx
  obtain ⟨hx, hb, hml, hown, hts, hN, hK, hr, hlk, hfr, hlc⟩ := cx
  intro n
  induction n with
  | zero => intro v3 v5 u H locs ls hI hl h; exact (h : False).elim
  | succ n ih =>
    intro v3 v5 u H locs ls hI hl h
    unfold b_de_shuffleRow_27 at h
    refine lv_iload hx hb d_de_shuffleRow_27 (lv_at hl 2 rfl) ?_
    refine lv_iconst (v := 1) hx hb d_de_shuffleRow_29 zc_iconst_1 ?_
    refine lv_icmp_lt hx hb d_de_shuffleRow_30 rfl (fun hc => ?_) (fun hc => ?_)
    · have h := h.1 hc
      exact zret_v hx hb hr hlk hK hI h d_de_shuffleRow_94
    · have h := h.2 hc
      refine lv_lload_n hx hb d_de_shuffleRow_33 rfl (lv_at hl 1 rfl) ?_
      refine lv_ldc2 (v := 6364136223846793005) hx hb hown (hts _ q_224) d_de_shuffleRow_34 ?_
      refine lv_lmul hx hb d_de_shuffleRow_37 ?_
      refine lv_ldc2 (v := 1442695040888963407) hx hb hown (hts _ q_225) d_de_shuffleRow_38 ?_
      refine lv_ladd hx hb d_de_shuffleRow_41 ?_
      refine lv_lstore_n hx hb d_de_shuffleRow_42 rfl hl (by decide) rfl ?_
      intro ls hl
      have hl : lv_has ls 8 [(3, .long ((v3 * 6364136223846793005) + 1442695040888963407)), (0, .ref (ad 1)), (5, .int v5)] := hl
      refine lv_lload_n hx hb d_de_shuffleRow_43 rfl (lv_at hl 0 rfl) ?_
      refine lv_bipush (v := 33) hx hb d_de_shuffleRow_44 zc_bipush_33 ?_
      refine lv_lushr (v := ((Int64.toUInt64 ((v3 * 6364136223846793005) + 1442695040888963407) >>> (Int64.toUInt64 (Int32.toInt64 33) &&& Int64.toUInt64 63)).toInt64)) hx hb d_de_shuffleRow_46 rfl ?_
      refine lv_iload hx hb d_de_shuffleRow_47 (lv_at hl 2 rfl) ?_
      refine lv_iconst (v := 1) hx hb d_de_shuffleRow_49 zc_iconst_1 ?_
      refine lv_iadd hx hb d_de_shuffleRow_50 ?_
      refine lv_i2l (v := (Int32.toInt64 (v5 + 1))) hx hb d_de_shuffleRow_51 rfl ?_
      obtain ⟨h0, h⟩ := h
      refine lv_lrem hx hb d_de_shuffleRow_52 h0 ?_
      refine lv_l2i (v := (Int64.toInt32 (((Int64.toUInt64 ((v3 * 6364136223846793005) + 1442695040888963407) >>> (Int64.toUInt64 (Int32.toInt64 33) &&& Int64.toUInt64 63)).toInt64) - ((Int64.toUInt64 ((v3 * 6364136223846793005) + 1442695040888963407) >>> (Int64.toUInt64 (Int32.toInt64 33) &&& Int64.toUInt64 63)).toInt64) / (Int32.toInt64 (v5 + 1)) * (Int32.toInt64 (v5 + 1))))) hx hb d_de_shuffleRow_53 rfl ?_
      refine lv_istore hx hb d_de_shuffleRow_54 hl (by decide) rfl ?_
      intro ls hl
      have hl : lv_has ls 8 [(6, .int (Int64.toInt32 (((Int64.toUInt64 ((v3 * 6364136223846793005) + 1442695040888963407) >>> (Int64.toUInt64 (Int32.toInt64 33) &&& Int64.toUInt64 63)).toInt64) - ((Int64.toUInt64 ((v3 * 6364136223846793005) + 1442695040888963407) >>> (Int64.toUInt64 (Int32.toInt64 33) &&& Int64.toUInt64 63)).toInt64) / (Int32.toInt64 (v5 + 1)) * (Int32.toInt64 (v5 + 1))))), (3, .long ((v3 * 6364136223846793005) + 1442695040888963407)), (0, .ref (ad 1)), (5, .int v5)] := hl
      refine lv_aload_n hx hb d_de_shuffleRow_56 rfl (lv_at hl 2 rfl) ?_
      refine cg_Deal_row hx hb hts hown hK hI (hts _ q_72) d_de_shuffleRow_57 ?_
      refine lv_iload hx hb d_de_shuffleRow_60 (lv_at hl 3 rfl) ?_
      obtain ⟨hi, h⟩ := h
      refine ca_row hx hb hK hI hi d_de_shuffleRow_62 ?_
      refine lv_istore hx hb d_de_shuffleRow_63 hl (by decide) rfl ?_
      intro ls hl
      have hl : lv_has ls 8 [(7, .int (aI u 1 (Int32.toNatClampNeg v5))), (6, .int (Int64.toInt32 (((Int64.toUInt64 ((v3 * 6364136223846793005) + 1442695040888963407) >>> (Int64.toUInt64 (Int32.toInt64 33) &&& Int64.toUInt64 63)).toInt64) - ((Int64.toUInt64 ((v3 * 6364136223846793005) + 1442695040888963407) >>> (Int64.toUInt64 (Int32.toInt64 33) &&& Int64.toUInt64 63)).toInt64) / (Int32.toInt64 (v5 + 1)) * (Int32.toInt64 (v5 + 1))))), (3, .long ((v3 * 6364136223846793005) + 1442695040888963407)), (0, .ref (ad 1)), (5, .int v5)] := hl
      refine lv_aload_n hx hb d_de_shuffleRow_65 rfl (lv_at hl 3 rfl) ?_
      refine cg_Deal_row hx hb hts hown hK hI (hts _ q_72) d_de_shuffleRow_66 ?_
      refine lv_iload hx hb d_de_shuffleRow_69 (lv_at hl 4 rfl) ?_
      refine lv_aload_n hx hb d_de_shuffleRow_71 rfl (lv_at hl 3 rfl) ?_
      refine cg_Deal_row hx hb hts hown hK hI (hts _ q_72) d_de_shuffleRow_72 ?_
      refine lv_iload hx hb d_de_shuffleRow_75 (lv_at hl 1 rfl) ?_
      obtain ⟨hi, h⟩ := h
      refine ca_row hx hb hK hI hi d_de_shuffleRow_77 ?_
      obtain ⟨hi, h⟩ := h
      refine cs_row hx hb hK hI hi d_de_shuffleRow_78 ?_
      intro H locs hI
      refine lv_aload_n hx hb d_de_shuffleRow_79 rfl (lv_at hl 3 rfl) ?_
      refine cg_Deal_row hx hb hts hown hK hI (hts _ q_72) d_de_shuffleRow_80 ?_
      refine lv_iload hx hb d_de_shuffleRow_83 (lv_at hl 1 rfl) ?_
      refine lv_iload hx hb d_de_shuffleRow_85 (lv_at hl 0 rfl) ?_
      obtain ⟨hi, h⟩ := h
      refine cs_row hx hb hK hI hi d_de_shuffleRow_87 ?_
      intro H locs hI
      refine lv_iinc (k := 4) (v := (v5 + (-1))) hx hb d_de_shuffleRow_88 hl rfl (zi_m1 _) (by decide) rfl ?_
      intro ls hl
      have hl : lv_has ls 8 [(5, .int (v5 + (-1))), (7, .int (aI u 1 (Int32.toNatClampNeg v5))), (6, .int (Int64.toInt32 (((Int64.toUInt64 ((v3 * 6364136223846793005) + 1442695040888963407) >>> (Int64.toUInt64 (Int32.toInt64 33) &&& Int64.toUInt64 63)).toInt64) - ((Int64.toUInt64 ((v3 * 6364136223846793005) + 1442695040888963407) >>> (Int64.toUInt64 (Int32.toInt64 33) &&& Int64.toUInt64 63)).toInt64) / (Int32.toInt64 (v5 + 1)) * (Int32.toInt64 (v5 + 1))))), (3, .long ((v3 * 6364136223846793005) + 1442695040888963407)), (0, .ref (ad 1))] := hl
      refine lv_goto hx hb d_de_shuffleRow_91 rfl ?_
      exact ih _ _ _ _ _ _ hI (lv_sub hl [4, 3, 0] rfl) h
def b_de_shuffleRow_2  (post : ZS → Prop) : Nat → Int64 → Int32 → ZS → Prop
  | 0, _, _, _ => False
  | n + 1, v1, v3, u => (20 ≤ v3 → ∃ n0, b_de_shuffleRow_27 post n0 v1 19 u) ∧ (¬ (20 ≤ v3) → vp_in v3 20 ∧ (b_de_shuffleRow_2 post n v1 (v3 + 1) (pI u 1 (Int32.toNatClampNeg v3) v3)))
set_option maxRecDepth 100000 in
set_option maxHeartbeats 4000000 in
theorem k_de_shuffleRow_2 {p : Program} {l : Launch} {e : Env} {R : Room} {s : State} {m : MethodId} {args : Array Value} {below : List Frame} {meth : Method} {c : Code} {D : va_G} {A : Nat → Prop} {ad : Nat → Nat} {ca : Nat → ClassId}  {post : ZS → Prop} (cx : zx p R s m args meth c c_de_shuffleRow 8 1 12 "ShortBridge$Deal" none zG zNs D (cT ca)) : ∀ (n : Nat) (v1 : Int64) (v3 : Int32) (u : ZS) (H : Heap) (locs : List Loc) (ls : Array Slot), zw D A s.heap (cW ad ca u) H locs → lv_has ls 8 [(0, .ref (ad 1)), (1, .long v1), (3, .int v3)] → b_de_shuffleRow_2 post n v1 v3 u → W p l e R s m args below meth c H locs 0 0 (MQ below (va_Qv post (zE D (cT ca) (cW ad ca) A) A) args s 0 0 A) (F0 m 2 ls []) := by
  have cx0 := cx
  obtain ⟨hx, hb, hml, hown, hts, hN, hK, hr, hlk, hfr, hlc⟩ := cx
  intro n
  induction n with
  | zero => intro v1 v3 u H locs ls hI hl h; exact (h : False).elim
  | succ n ih =>
    intro v1 v3 u H locs ls hI hl h
    unfold b_de_shuffleRow_2 at h
    refine lv_iload_n hx hb d_de_shuffleRow_2 rfl (lv_at hl 2 rfl) ?_
    refine lv_bipush (v := 20) hx hb d_de_shuffleRow_3 zc_bipush_20 ?_
    refine lv_icmp_ge hx hb d_de_shuffleRow_5 rfl (fun hc => ?_) (fun hc => ?_)
    · have h := h.1 hc
      refine lv_lload_n hx hb d_de_shuffleRow_21 rfl (lv_at hl 1 rfl) ?_
      refine lv_lstore_n hx hb d_de_shuffleRow_22 rfl hl (by decide) rfl ?_
      intro ls hl
      have hl : lv_has ls 8 [(3, .long v1), (0, .ref (ad 1)), (1, .long v1)] := hl
      refine lv_bipush (v := 19) hx hb d_de_shuffleRow_23 zc_bipush_19 ?_
      refine lv_istore hx hb d_de_shuffleRow_25 hl (by decide) rfl ?_
      intro ls hl
      have hl : lv_has ls 8 [(5, .int 19), (3, .long v1), (0, .ref (ad 1)), (1, .long v1)] := hl
      obtain ⟨n0, h⟩ := h
      exact k_de_shuffleRow_27 cx0  n0 _ _ _ _ _ _ hI (lv_sub hl [2, 1, 0] rfl) h
    · have h := h.2 hc
      refine lv_aload_n hx hb d_de_shuffleRow_8 rfl (lv_at hl 0 rfl) ?_
      refine cg_Deal_row hx hb hts hown hK hI (hts _ q_72) d_de_shuffleRow_9 ?_
      refine lv_iload_n hx hb d_de_shuffleRow_12 rfl (lv_at hl 2 rfl) ?_
      refine lv_iload_n hx hb d_de_shuffleRow_13 rfl (lv_at hl 2 rfl) ?_
      obtain ⟨hi, h⟩ := h
      refine cs_row hx hb hK hI hi d_de_shuffleRow_14 ?_
      intro H locs hI
      refine lv_iinc (k := 2) (v := (v3 + 1)) hx hb d_de_shuffleRow_15 hl rfl (zi_1 _) (by decide) rfl ?_
      intro ls hl
      have hl : lv_has ls 8 [(3, .int (v3 + 1)), (0, .ref (ad 1)), (1, .long v1)] := hl
      refine lv_goto hx hb d_de_shuffleRow_18 rfl ?_
      exact ih _ _ _ _ _ _ hI (lv_sub hl [1, 2, 0] rfl) h
def w_de_shuffleRow (v1 : Int64) (u : ZS) (post : ZS → Prop) : Prop := ∃ n0, b_de_shuffleRow_2 post n0 v1 0 u
set_option maxRecDepth 100000 in
set_option maxHeartbeats 4000000 in
theorem t_de_shuffleRow (l : Launch) (D : va_G) (ad : Nat → Nat) (ca : Nat → ClassId) {v1 : Int64} {u : ZS} {post : ZS → Prop} (h : w_de_shuffleRow v1 u post) : zV l y_de_shuffleRow (Cond.code y_de_shuffleRow c_de_shuffleRow 8 none :: zG) { frames := 1, cells := 0, slots := 0, locals := 12 } D (cT ca) zNs (cW ad ca) [.ref (ad 1), .long v1] u post := by
  refine zV_of (cc := c_de_shuffleRow) (maxL := 8) (by decide) (Nat.le_of_ble_eq_true rfl) ?_
  intro p e s m args below meth c ls A cx hI hl
  have cx0 := cx
  obtain ⟨hx, hb, hml, hown, hts, hN, hK, hr, hlk, hfr, hlc⟩ := cx
  have hl : lv_has ls 8 [(0, .ref (ad 1)), (1, .long v1)] := hl
  unfold w_de_shuffleRow at h
  refine lv_iconst (v := 0) hx hb d_de_shuffleRow_0 zc_iconst_0 ?_
  refine lv_istore_n hx hb d_de_shuffleRow_1 rfl hl (by decide) rfl ?_
  intro ls hl
  have hl : lv_has ls 8 [(3, .int 0), (0, .ref (ad 1)), (1, .long v1)] := hl
  obtain ⟨n0, h⟩ := h
  exact k_de_shuffleRow_2 cx0  n0 _ _ _ _ _ _ hI (lv_sub hl [1, 2, 0] rfl) h
def b_de_rankOfOwners_32 (r13 : Int64 → Int64 → Int32 → ZS → Prop) (post : Int64 → ZS → Prop) : Nat → Int64 → Int64 → Int32 → Int32 → Int32 → ZS → Prop
  | 0, _, _, _, _, _, _ => False
  | n + 1, v1, v3, v5, v6, v7, u => (v6 ≤ v7 → w_de_share v3 v6 v5 u (fun r1 u2 => vp_in v6 4 ∧ (vp_in v6 4 ∧ (r13 v1 r1 (v5 + 1) (pI u2 2 (Int32.toNatClampNeg v6) ((aI u2 2 (Int32.toNatClampNeg v6)) - 1)))))) ∧ (¬ (v6 ≤ v7) → w_de_share v3 v7 v5 u (fun r3 u4 => b_de_rankOfOwners_32 r13 post n (v1 + r3) v3 v5 v6 (v7 + 1) u4))
set_option maxRecDepth 100000 in
set_option maxHeartbeats 4000000 in
theorem k_de_rankOfOwners_32 {p : Program} {l : Launch} {e : Env} {R : Room} {s : State} {m : MethodId} {args : Array Value} {below : List Frame} {meth : Method} {c : Code} {D : va_G} {A : Nat → Prop} {ad : Nat → Nat} {ca : Nat → ClassId} {r13 : Int64 → Int64 → Int32 → ZS → Prop} {post : Int64 → ZS → Prop} (cx : zx p R s m args meth c c_de_rankOfOwners 8 2 36 "ShortBridge$Deal" (some .long) zG zNs D (cT ca)) (hk13 : ∀ (v1 : Int64) (v3 : Int64) (v5 : Int32) (u : ZS) (H : Heap) (locs : List Loc) (ls : Array Slot), zw D A s.heap (cW ad ca u) H locs → lv_has ls 8 [(0, .ref (ad 1)), (1, .long v1), (3, .long v3), (5, .int v5)] → r13 v1 v3 v5 u → W p l e R s m args below meth c H locs 0 0 (MQ below (va_Ql post (zE D (cT ca) (cW ad ca) A) A) args s 0 0 A) (F0 m 13 ls [])) : ∀ (n : Nat) (v1 : Int64) (v3 : Int64) (v5 : Int32) (v6 : Int32) (v7 : Int32) (u : ZS) (H : Heap) (locs : List Loc) (ls : Array Slot), zw D A s.heap (cW ad ca u) H locs → lv_has ls 8 [(0, .ref (ad 1)), (1, .long v1), (3, .long v3), (5, .int v5), (6, .int v6), (7, .int v7)] → b_de_rankOfOwners_32 r13 post n v1 v3 v5 v6 v7 u → W p l e R s m args below meth c H locs 0 0 (MQ below (va_Ql post (zE D (cT ca) (cW ad ca) A) A) args s 0 0 A) (F0 m 32 ls []) := by
  have cx0 := cx
  obtain ⟨hx, hb, hml, hown, hts, hN, hK, hr, hlk, hfr, hlc⟩ := cx
  intro n
  induction n with
  | zero => intro v1 v3 v5 v6 v7 u H locs ls hI hl h; exact (h : False).elim
  | succ n ih =>
    intro v1 v3 v5 v6 v7 u H locs ls hI hl h
    unfold b_de_rankOfOwners_32 at h
    refine lv_iload hx hb d_de_rankOfOwners_32 (lv_at hl 5 rfl) ?_
    refine lv_iload hx hb d_de_rankOfOwners_34 (lv_at hl 4 rfl) ?_
    refine lv_icmp_ge hx hb d_de_rankOfOwners_36 rfl (fun hc => ?_) (fun hc => ?_)
    · have h := h.1 hc
      refine lv_aload_n hx hb d_de_rankOfOwners_57 rfl (lv_at hl 0 rfl) ?_
      refine lv_lload_n hx hb d_de_rankOfOwners_58 rfl (lv_at hl 2 rfl) ?_
      refine lv_iload hx hb d_de_rankOfOwners_59 (lv_at hl 4 rfl) ?_
      refine lv_iload hx hb d_de_rankOfOwners_61 (lv_at hl 3 rfl) ?_
      refine zr_l (va_runV (As := [.long v3, .int v6, .int v5]) (rest := []) ⟨hx, hb, hml, hown, hts⟩ (t_de_share l D ad ca h _) (cwV 3 hts (zg_V q_191 q_193 q_1 q_40 q_194) rfl rfl rfl ⟨rfl, hd_de_share⟩ ⟨Nat.le_trans (by decide) hfr, Nat.le_trans (by decide) hlc⟩) (z_preV zNs_ok hK hN hI 1 1 rfl rfl _) rfl rfl hl.1 rfl (lv_room (Nat.le_of_ble_eq_true rfl)) d_de_rankOfOwners_63 ⟨Nat.zero_le _, Nat.zero_le _⟩) hI ?_
      intro r1 u2 H locs h hI
      refine lv_lstore_n hx hb d_de_rankOfOwners_66 rfl hl (by decide) rfl ?_
      intro ls hl
      have hl : lv_has ls 8 [(3, .long r1), (0, .ref (ad 1)), (1, .long v1), (5, .int v5), (6, .int v6), (7, .int v7)] := hl
      refine lv_aload_n hx hb d_de_rankOfOwners_67 rfl (lv_at hl 1 rfl) ?_
      refine cg_Deal_left hx hb hts hown hK hI (hts _ q_73) d_de_rankOfOwners_68 ?_
      refine lv_iload hx hb d_de_rankOfOwners_71 (lv_at hl 4 rfl) ?_
      refine lv_dup2_11 hx hb d_de_rankOfOwners_73 rfl rfl ?_
      obtain ⟨hi, h⟩ := h
      refine ca_left hx hb hK hI hi d_de_rankOfOwners_74 ?_
      refine lv_iconst (v := 1) hx hb d_de_rankOfOwners_75 zc_iconst_1 ?_
      refine lv_isub hx hb d_de_rankOfOwners_76 ?_
      obtain ⟨hi, h⟩ := h
      refine cs_left hx hb hK hI hi d_de_rankOfOwners_77 ?_
      intro H locs hI
      refine lv_iinc (k := 3) (v := (v5 + 1)) hx hb d_de_rankOfOwners_78 hl rfl (zi_1 _) (by decide) rfl ?_
      intro ls hl
      have hl : lv_has ls 8 [(5, .int (v5 + 1)), (3, .long r1), (0, .ref (ad 1)), (1, .long v1), (6, .int v6), (7, .int v7)] := hl
      refine lv_goto hx hb d_de_rankOfOwners_81 rfl ?_
      exact hk13 _ _ _ _ _ _ _ hI (lv_sub hl [2, 3, 1, 0] rfl) h
    · have h := h.2 hc
      refine lv_lload_n hx hb d_de_rankOfOwners_39 rfl (lv_at hl 1 rfl) ?_
      refine lv_aload_n hx hb d_de_rankOfOwners_40 rfl (lv_at hl 0 rfl) ?_
      refine lv_lload_n hx hb d_de_rankOfOwners_41 rfl (lv_at hl 2 rfl) ?_
      refine lv_iload hx hb d_de_rankOfOwners_42 (lv_at hl 5 rfl) ?_
      refine lv_iload hx hb d_de_rankOfOwners_44 (lv_at hl 3 rfl) ?_
      refine zr_l (va_runV (As := [.long v3, .int v7, .int v5]) (rest := [.long v1]) ⟨hx, hb, hml, hown, hts⟩ (t_de_share l D ad ca h _) (cwV 3 hts (zg_V q_191 q_193 q_1 q_40 q_194) rfl rfl rfl ⟨rfl, hd_de_share⟩ ⟨Nat.le_trans (by decide) hfr, Nat.le_trans (by decide) hlc⟩) (z_preV zNs_ok hK hN hI 1 1 rfl rfl _) rfl rfl hl.1 rfl (lv_room (Nat.le_of_ble_eq_true rfl)) d_de_rankOfOwners_46 ⟨Nat.zero_le _, Nat.zero_le _⟩) hI ?_
      intro r3 u4 H locs h hI
      refine lv_ladd hx hb d_de_rankOfOwners_49 ?_
      refine lv_lstore_n hx hb d_de_rankOfOwners_50 rfl hl (by decide) rfl ?_
      intro ls hl
      have hl : lv_has ls 8 [(1, .long (v1 + r3)), (0, .ref (ad 1)), (3, .long v3), (5, .int v5), (6, .int v6), (7, .int v7)] := hl
      refine lv_iinc (k := 5) (v := (v7 + 1)) hx hb d_de_rankOfOwners_51 hl rfl (zi_1 _) (by decide) rfl ?_
      intro ls hl
      have hl : lv_has ls 8 [(7, .int (v7 + 1)), (1, .long (v1 + r3)), (0, .ref (ad 1)), (3, .long v3), (5, .int v5), (6, .int v6)] := hl
      refine lv_goto hx hb d_de_rankOfOwners_54 rfl ?_
      exact ih _ _ _ _ _ _ _ _ _ hI (lv_sub hl [2, 1, 3, 4, 5, 0] rfl) h
def b_de_rankOfOwners_13  (post : Int64 → ZS → Prop) : Nat → Int64 → Int64 → Int32 → ZS → Prop
  | 0, _, _, _, _ => False
  | n + 1, v1, v3, v5, u => (20 ≤ v5 → post v1 u) ∧ (¬ (20 ≤ v5) → vp_in v5 20 ∧ (∃ n0, b_de_rankOfOwners_32 (b_de_rankOfOwners_13 post n) post n0 v1 v3 v5 (aI u 0 (Int32.toNatClampNeg v5)) 0 u))
set_option maxRecDepth 100000 in
set_option maxHeartbeats 4000000 in
theorem k_de_rankOfOwners_13 {p : Program} {l : Launch} {e : Env} {R : Room} {s : State} {m : MethodId} {args : Array Value} {below : List Frame} {meth : Method} {c : Code} {D : va_G} {A : Nat → Prop} {ad : Nat → Nat} {ca : Nat → ClassId}  {post : Int64 → ZS → Prop} (cx : zx p R s m args meth c c_de_rankOfOwners 8 2 36 "ShortBridge$Deal" (some .long) zG zNs D (cT ca)) : ∀ (n : Nat) (v1 : Int64) (v3 : Int64) (v5 : Int32) (u : ZS) (H : Heap) (locs : List Loc) (ls : Array Slot), zw D A s.heap (cW ad ca u) H locs → lv_has ls 8 [(0, .ref (ad 1)), (1, .long v1), (3, .long v3), (5, .int v5)] → b_de_rankOfOwners_13 post n v1 v3 v5 u → W p l e R s m args below meth c H locs 0 0 (MQ below (va_Ql post (zE D (cT ca) (cW ad ca) A) A) args s 0 0 A) (F0 m 13 ls []) := by
  have cx0 := cx
  obtain ⟨hx, hb, hml, hown, hts, hN, hK, hr, hlk, hfr, hlc⟩ := cx
  intro n
  induction n with
  | zero => intro v1 v3 v5 u H locs ls hI hl h; exact (h : False).elim
  | succ n ih =>
    intro v1 v3 v5 u H locs ls hI hl h
    unfold b_de_rankOfOwners_13 at h
    refine lv_iload hx hb d_de_rankOfOwners_13 (lv_at hl 3 rfl) ?_
    refine lv_bipush (v := 20) hx hb d_de_rankOfOwners_15 zc_bipush_20 ?_
    refine lv_icmp_ge hx hb d_de_rankOfOwners_17 rfl (fun hc => ?_) (fun hc => ?_)
    · have h := h.1 hc
      refine lv_lload_n hx hb d_de_rankOfOwners_84 rfl (lv_at hl 1 rfl) ?_
      exact zret_l hx hb hr hlk hK hI h d_de_rankOfOwners_85
    · have h := h.2 hc
      refine lv_aload_n hx hb d_de_rankOfOwners_20 rfl (lv_at hl 0 rfl) ?_
      refine cg_Deal_owners hx hb hts hown hK hI (hts _ q_70) d_de_rankOfOwners_21 ?_
      refine lv_iload hx hb d_de_rankOfOwners_24 (lv_at hl 3 rfl) ?_
      obtain ⟨hi, h⟩ := h
      refine ca_owners hx hb hK hI hi d_de_rankOfOwners_26 ?_
      refine lv_istore hx hb d_de_rankOfOwners_27 hl (by decide) rfl ?_
      intro ls hl
      have hl : lv_has ls 8 [(6, .int (aI u 0 (Int32.toNatClampNeg v5))), (0, .ref (ad 1)), (1, .long v1), (3, .long v3), (5, .int v5)] := hl
      refine lv_iconst (v := 0) hx hb d_de_rankOfOwners_29 zc_iconst_0 ?_
      refine lv_istore hx hb d_de_rankOfOwners_30 hl (by decide) rfl ?_
      intro ls hl
      have hl : lv_has ls 8 [(7, .int 0), (6, .int (aI u 0 (Int32.toNatClampNeg v5))), (0, .ref (ad 1)), (1, .long v1), (3, .long v3), (5, .int v5)] := hl
      obtain ⟨n0, h⟩ := h
      exact k_de_rankOfOwners_32 cx0 ih n0 _ _ _ _ _ _ _ _ _ hI (lv_sub hl [2, 3, 4, 5, 1, 0] rfl) h
def w_de_rankOfOwners  (u : ZS) (post : Int64 → ZS → Prop) : Prop := w_de_fillLeft  u (fun u6 => ∃ n0, b_de_rankOfOwners_13 post n0 0 11732745024 0 u6)
set_option maxRecDepth 100000 in
set_option maxHeartbeats 4000000 in
theorem t_de_rankOfOwners (l : Launch) (D : va_G) (ad : Nat → Nat) (ca : Nat → ClassId)  {u : ZS} {post : Int64 → ZS → Prop} (h : w_de_rankOfOwners  u post) : zJ l y_de_rankOfOwners (Cond.code y_de_rankOfOwners c_de_rankOfOwners 8 (some .long) :: zG) { frames := 2, cells := 0, slots := 0, locals := 36 } D (cT ca) zNs (cW ad ca) [.ref (ad 1)] u post := by
  refine zJ_of (cc := c_de_rankOfOwners) (maxL := 8) (ret := (some .long)) (by decide) (Nat.le_of_ble_eq_true rfl) ?_
  intro p e s m args below meth c ls A cx hI hl
  have cx0 := cx
  obtain ⟨hx, hb, hml, hown, hts, hN, hK, hr, hlk, hfr, hlc⟩ := cx
  have hl : lv_has ls 8 [(0, .ref (ad 1))] := hl
  unfold w_de_rankOfOwners at h
  refine lv_aload_n hx hb d_de_rankOfOwners_0 rfl (lv_at hl 0 rfl) ?_
  refine zr_v (va_runV (As := []) (rest := []) ⟨hx, hb, hml, hown, hts⟩ (t_de_fillLeft l D ad ca h _) (cwV 0 hts (zg_V q_187 q_189 q_0 q_40 q_190) rfl rfl rfl ⟨rfl, hd_de_fillLeft⟩ ⟨Nat.le_trans (by decide) hfr, Nat.le_trans (by decide) hlc⟩) (z_preV zNs_ok hK hN hI 1 1 rfl rfl _) rfl rfl hl.1 rfl (lv_room (Nat.le_of_ble_eq_true rfl)) d_de_rankOfOwners_1 ⟨Nat.zero_le _, Nat.zero_le _⟩) hI ?_
  intro u6 H locs h hI
  refine lv_lconst (v := 0) hx hb d_de_rankOfOwners_4 (by decide) ?_
  refine lv_lstore_n hx hb d_de_rankOfOwners_5 rfl hl (by decide) rfl ?_
  intro ls hl
  have hl : lv_has ls 8 [(1, .long 0), (0, .ref (ad 1))] := hl
  refine lv_ldc2 (v := 11732745024) hx hb hown (hts _ q_176) d_de_rankOfOwners_6 ?_
  refine lv_lstore_n hx hb d_de_rankOfOwners_9 rfl hl (by decide) rfl ?_
  intro ls hl
  have hl : lv_has ls 8 [(3, .long 11732745024), (1, .long 0), (0, .ref (ad 1))] := hl
  refine lv_iconst (v := 0) hx hb d_de_rankOfOwners_10 zc_iconst_0 ?_
  refine lv_istore hx hb d_de_rankOfOwners_11 hl (by decide) rfl ?_
  intro ls hl
  have hl : lv_has ls 8 [(5, .int 0), (3, .long 11732745024), (1, .long 0), (0, .ref (ad 1))] := hl
  obtain ⟨n0, h⟩ := h
  exact k_de_rankOfOwners_13 cx0  n0 _ _ _ _ _ _ _ hI (lv_sub hl [3, 2, 1, 0] rfl) h
def b_de_takeSeed_7  (post : ZS → Prop) : Nat → Int32 → ZS → Prop
  | 0, _, _ => False
  | n + 1, v3, u => (20 ≤ v3 → w_de_rankOfOwners  u (fun r1 u2 => post (sJ u2 0 r1))) ∧ (¬ (20 ≤ v3) → vp_in v3 20 ∧ (vp_in (aI u 1 (Int32.toNatClampNeg v3)) 20 ∧ (b_de_takeSeed_7 post n (v3 + 1) (pI u 0 (Int32.toNatClampNeg (aI u 1 (Int32.toNatClampNeg v3))) (v3 / 5)))))
set_option maxRecDepth 100000 in
set_option maxHeartbeats 4000000 in
theorem k_de_takeSeed_7 {p : Program} {l : Launch} {e : Env} {R : Room} {s : State} {m : MethodId} {args : Array Value} {below : List Frame} {meth : Method} {c : Code} {D : va_G} {A : Nat → Prop} {ad : Nat → Nat} {ca : Nat → ClassId}  {post : ZS → Prop} (cx : zx p R s m args meth c c_de_takeSeed 4 3 63 "ShortBridge$Deal" none zG zNs D (cT ca)) : ∀ (n : Nat) (v3 : Int32) (u : ZS) (H : Heap) (locs : List Loc) (ls : Array Slot), zw D A s.heap (cW ad ca u) H locs → lv_has ls 4 [(0, .ref (ad 1)), (3, .int v3)] → b_de_takeSeed_7 post n v3 u → W p l e R s m args below meth c H locs 0 0 (MQ below (va_Qv post (zE D (cT ca) (cW ad ca) A) A) args s 0 0 A) (F0 m 7 ls []) := by
  have cx0 := cx
  obtain ⟨hx, hb, hml, hown, hts, hN, hK, hr, hlk, hfr, hlc⟩ := cx
  intro n
  induction n with
  | zero => intro v3 u H locs ls hI hl h; exact (h : False).elim
  | succ n ih =>
    intro v3 u H locs ls hI hl h
    unfold b_de_takeSeed_7 at h
    refine lv_iload_n hx hb d_de_takeSeed_7 rfl (lv_at hl 1 rfl) ?_
    refine lv_bipush (v := 20) hx hb d_de_takeSeed_8 zc_bipush_20 ?_
    refine lv_icmp_ge hx hb d_de_takeSeed_10 rfl (fun hc => ?_) (fun hc => ?_)
    · have h := h.1 hc
      refine lv_aload_n hx hb d_de_takeSeed_33 rfl (lv_at hl 0 rfl) ?_
      refine lv_aload_n hx hb d_de_takeSeed_34 rfl (lv_at hl 0 rfl) ?_
      refine zr_l (va_runV (As := []) (rest := [.ref (ad 1)]) ⟨hx, hb, hml, hown, hts⟩ (t_de_rankOfOwners l D ad ca h _) (cwV 0 hts (zg_V q_226 q_228 q_5 q_40 q_229) rfl rfl rfl ⟨rfl, hd_de_rankOfOwners⟩ ⟨Nat.le_trans (by decide) hfr, Nat.le_trans (by decide) hlc⟩) (z_preV zNs_ok hK hN hI 1 1 rfl rfl _) rfl rfl hl.1 rfl (lv_room (Nat.le_of_ble_eq_true rfl)) d_de_takeSeed_35 ⟨Nat.zero_le _, Nat.zero_le _⟩) hI ?_
      intro r1 u2 H locs h hI
      refine cp_Deal_rank hx hb hts hown hK hI (hts _ q_74) d_de_takeSeed_38 ?_
      intro H locs hI
      exact zret_v hx hb hr hlk hK hI h d_de_takeSeed_41
    · have h := h.2 hc
      refine lv_aload_n hx hb d_de_takeSeed_13 rfl (lv_at hl 0 rfl) ?_
      refine cg_Deal_owners hx hb hts hown hK hI (hts _ q_70) d_de_takeSeed_14 ?_
      refine lv_aload_n hx hb d_de_takeSeed_17 rfl (lv_at hl 0 rfl) ?_
      refine cg_Deal_row hx hb hts hown hK hI (hts _ q_72) d_de_takeSeed_18 ?_
      refine lv_iload_n hx hb d_de_takeSeed_21 rfl (lv_at hl 1 rfl) ?_
      obtain ⟨hi, h⟩ := h
      refine ca_row hx hb hK hI hi d_de_takeSeed_22 ?_
      refine lv_iload_n hx hb d_de_takeSeed_23 rfl (lv_at hl 1 rfl) ?_
      refine lv_iconst (v := 5) hx hb d_de_takeSeed_24 zc_iconst_5 ?_
      refine lv_idiv hx hb d_de_takeSeed_25 (by decide) ?_
      obtain ⟨hi, h⟩ := h
      refine cs_owners hx hb hK hI hi d_de_takeSeed_26 ?_
      intro H locs hI
      refine lv_iinc (k := 1) (v := (v3 + 1)) hx hb d_de_takeSeed_27 hl rfl (zi_1 _) (by decide) rfl ?_
      intro ls hl
      have hl : lv_has ls 4 [(3, .int (v3 + 1)), (0, .ref (ad 1))] := hl
      refine lv_goto hx hb d_de_takeSeed_30 rfl ?_
      exact ih _ _ _ _ _ hI (lv_sub hl [1, 0] rfl) h
def w_de_takeSeed (v1 : Int64) (u : ZS) (post : ZS → Prop) : Prop := w_de_shuffleRow v1 u (fun u4 => ∃ n0, b_de_takeSeed_7 post n0 0 u4)
set_option maxRecDepth 100000 in
set_option maxHeartbeats 4000000 in
theorem t_de_takeSeed (l : Launch) (D : va_G) (ad : Nat → Nat) (ca : Nat → ClassId) {v1 : Int64} {u : ZS} {post : ZS → Prop} (h : w_de_takeSeed v1 u post) : zV l y_de_takeSeed (Cond.code y_de_takeSeed c_de_takeSeed 4 none :: zG) { frames := 3, cells := 0, slots := 0, locals := 63 } D (cT ca) zNs (cW ad ca) [.ref (ad 1), .long v1] u post := by
  refine zV_of (cc := c_de_takeSeed) (maxL := 4) (by decide) (Nat.le_of_ble_eq_true rfl) ?_
  intro p e s m args below meth c ls A cx hI hl
  have cx0 := cx
  obtain ⟨hx, hb, hml, hown, hts, hN, hK, hr, hlk, hfr, hlc⟩ := cx
  have hl : lv_has ls 4 [(0, .ref (ad 1)), (1, .long v1)] := hl
  unfold w_de_takeSeed at h
  refine lv_aload_n hx hb d_de_takeSeed_0 rfl (lv_at hl 0 rfl) ?_
  refine lv_lload_n hx hb d_de_takeSeed_1 rfl (lv_at hl 1 rfl) ?_
  refine zr_v (va_runV (As := [.long v1]) (rest := []) ⟨hx, hb, hml, hown, hts⟩ (t_de_shuffleRow l D ad ca h _) (cwV 1 hts (zg_V q_220 q_222 q_4 q_40 q_223) rfl rfl rfl ⟨rfl, hd_de_shuffleRow⟩ ⟨Nat.le_trans (by decide) hfr, Nat.le_trans (by decide) hlc⟩) (z_preV zNs_ok hK hN hI 1 1 rfl rfl _) rfl rfl hl.1 rfl (lv_room (Nat.le_of_ble_eq_true rfl)) d_de_takeSeed_2 ⟨Nat.zero_le _, Nat.zero_le _⟩) hI ?_
  intro u4 H locs h hI
  refine lv_iconst (v := 0) hx hb d_de_takeSeed_5 zc_iconst_0 ?_
  refine lv_istore_n hx hb d_de_takeSeed_6 rfl hl (by decide) rfl ?_
  intro ls hl
  have hl : lv_has ls 4 [(3, .int 0), (0, .ref (ad 1)), (1, .long v1)] := hl
  obtain ⟨n0, h⟩ := h
  exact k_de_takeSeed_7 cx0  n0 _ _ _ _ _ hI (lv_sub hl [1, 0] rfl) h
def b_sc_missingTrick_36  (post : Int32 → ZS → Prop) (s0 : Int32) (u : ZS) : Prop := post s0 u
set_option maxRecDepth 100000 in
set_option maxHeartbeats 4000000 in
theorem k_sc_missingTrick_36 {p : Program} {l : Launch} {e : Env} {R : Room} {s : State} {m : MethodId} {args : Array Value} {below : List Frame} {meth : Method} {c : Code} {D : va_G} {A : Nat → Prop} {ad : Nat → Nat} {ca : Nat → ClassId}  {post : Int32 → ZS → Prop} (cx : zx p R s m args meth c c_sc_missingTrick 2 1 12 "ShortBridge$Scoring" (some .int) zG zNs D (cT ca)) {s0 : Int32} {u : ZS} {H : Heap} {locs : List Loc} {ls : Array Slot} (hI : zw D A s.heap (cW ad ca u) H locs) (hl : lv_has ls 2 []) (h : b_sc_missingTrick_36 post s0 u) : W p l e R s m args below meth c H locs 0 0 (MQ below (va_Qi post (zE D (cT ca) (cW ad ca) A) A) args s 0 0 A) (F0 m 36 ls [.int s0]) := by
  have cx0 := cx
  obtain ⟨hx, hb, hml, hown, hts, hN, hK, hr, hlk, hfr, hlc⟩ := cx
  unfold b_sc_missingTrick_36 at h
  exact zret_i hx hb hr hlk hK hI h d_sc_missingTrick_36
def b_sc_missingTrick_27  (post : Int32 → ZS → Prop)  (u : ZS) : Prop := b_sc_missingTrick_36 post 300 u
set_option maxRecDepth 100000 in
set_option maxHeartbeats 4000000 in
theorem k_sc_missingTrick_27 {p : Program} {l : Launch} {e : Env} {R : Room} {s : State} {m : MethodId} {args : Array Value} {below : List Frame} {meth : Method} {c : Code} {D : va_G} {A : Nat → Prop} {ad : Nat → Nat} {ca : Nat → ClassId}  {post : Int32 → ZS → Prop} (cx : zx p R s m args meth c c_sc_missingTrick 2 1 12 "ShortBridge$Scoring" (some .int) zG zNs D (cT ca)) {u : ZS} {H : Heap} {locs : List Loc} {ls : Array Slot} (hI : zw D A s.heap (cW ad ca u) H locs) (hl : lv_has ls 2 []) (h : b_sc_missingTrick_27 post  u) : W p l e R s m args below meth c H locs 0 0 (MQ below (va_Qi post (zE D (cT ca) (cW ad ca) A) A) args s 0 0 A) (F0 m 27 ls []) := by
  have cx0 := cx
  obtain ⟨hx, hb, hml, hown, hts, hN, hK, hr, hlk, hfr, hlc⟩ := cx
  unfold b_sc_missingTrick_27 at h
  refine lv_sipush (v := 300) hx hb d_sc_missingTrick_27 zc_sipush_300 ?_
  refine lv_goto hx hb d_sc_missingTrick_30 rfl ?_
  exact k_sc_missingTrick_36 cx0  hI (lv_sub hl [] rfl) h
def b_sc_missingTrick_17  (post : Int32 → ZS → Prop) (s0 : Int32) (u : ZS) : Prop := post s0 u
set_option maxRecDepth 100000 in
set_option maxHeartbeats 4000000 in
theorem k_sc_missingTrick_17 {p : Program} {l : Launch} {e : Env} {R : Room} {s : State} {m : MethodId} {args : Array Value} {below : List Frame} {meth : Method} {c : Code} {D : va_G} {A : Nat → Prop} {ad : Nat → Nat} {ca : Nat → ClassId}  {post : Int32 → ZS → Prop} (cx : zx p R s m args meth c c_sc_missingTrick 2 1 12 "ShortBridge$Scoring" (some .int) zG zNs D (cT ca)) {s0 : Int32} {u : ZS} {H : Heap} {locs : List Loc} {ls : Array Slot} (hI : zw D A s.heap (cW ad ca u) H locs) (hl : lv_has ls 2 []) (h : b_sc_missingTrick_17 post s0 u) : W p l e R s m args below meth c H locs 0 0 (MQ below (va_Qi post (zE D (cT ca) (cW ad ca) A) A) args s 0 0 A) (F0 m 17 ls [.int s0]) := by
  have cx0 := cx
  obtain ⟨hx, hb, hml, hown, hts, hN, hK, hr, hlk, hfr, hlc⟩ := cx
  unfold b_sc_missingTrick_17 at h
  exact zret_i hx hb hr hlk hK hI h d_sc_missingTrick_17
def w_sc_missingTrick (v0 : Int32) (v1 : Int32) (u : ZS) (post : Int32 → ZS → Prop) : Prop := (¬ v0 = 1 → (¬ v1 = 0 → b_sc_missingTrick_27 post u) ∧ (v1 = 0 → (v0 ≤ 3 → b_sc_missingTrick_36 post 200 u) ∧ (¬ (v0 ≤ 3) → b_sc_missingTrick_27 post u))) ∧ (v0 = 1 → (v1 = 0 → b_sc_missingTrick_17 post 100 u) ∧ (¬ (v1 = 0) → b_sc_missingTrick_17 post 200 u))
set_option maxRecDepth 100000 in
set_option maxHeartbeats 4000000 in
theorem t_sc_missingTrick (l : Launch) (D : va_G) (ad : Nat → Nat) (ca : Nat → ClassId) {v0 : Int32} {v1 : Int32} {u : ZS} {post : Int32 → ZS → Prop} (h : w_sc_missingTrick v0 v1 u post) : zI l y_sc_missingTrick (Cond.code y_sc_missingTrick c_sc_missingTrick 2 (some .int) :: zG) { frames := 1, cells := 0, slots := 0, locals := 12 } D (cT ca) zNs (cW ad ca) [.int v0, .int v1] u post := by
  refine zI_of (cc := c_sc_missingTrick) (maxL := 2) (ret := (some .int)) (by decide) (Nat.le_of_ble_eq_true rfl) ?_
  intro p e s m args below meth c ls A cx hI hl
  have cx0 := cx
  obtain ⟨hx, hb, hml, hown, hts, hN, hK, hr, hlk, hfr, hlc⟩ := cx
  have hl : lv_has ls 2 [(0, .int v0), (1, .int v1)] := hl
  unfold w_sc_missingTrick at h
  refine lv_iload_n hx hb d_sc_missingTrick_0 rfl (lv_at hl 0 rfl) ?_
  refine lv_iconst (v := 1) hx hb d_sc_missingTrick_1 zc_iconst_1 ?_
  refine lv_icmp_ne hx hb d_sc_missingTrick_2 rfl (fun hc => ?_) (fun hc => ?_)
  · have h := h.1 hc
    refine lv_iload_n hx hb d_sc_missingTrick_18 rfl (lv_at hl 1 rfl) ?_
    refine lv_if_ne hx hb d_sc_missingTrick_19 rfl (fun hc => ?_) (fun hc => ?_)
    · have h := h.1 hc
      exact k_sc_missingTrick_27 cx0  hI (lv_sub hl [] rfl) h
    · have h := h.2 hc
      refine lv_iload_n hx hb d_sc_missingTrick_22 rfl (lv_at hl 0 rfl) ?_
      refine lv_iconst (v := 3) hx hb d_sc_missingTrick_23 zc_iconst_3 ?_
      refine lv_icmp_le hx hb d_sc_missingTrick_24 rfl (fun hc => ?_) (fun hc => ?_)
      · have h := h.1 hc
        refine lv_sipush (v := 200) hx hb d_sc_missingTrick_33 zc_sipush_200 ?_
        exact k_sc_missingTrick_36 cx0  hI (lv_sub hl [] rfl) h
      · have h := h.2 hc
        exact k_sc_missingTrick_27 cx0  hI (lv_sub hl [] rfl) h
  · have h := h.2 hc
    refine lv_iload_n hx hb d_sc_missingTrick_5 rfl (lv_at hl 1 rfl) ?_
    refine lv_if_eq hx hb d_sc_missingTrick_6 rfl (fun hc => ?_) (fun hc => ?_)
    · have h := h.1 hc
      refine lv_bipush (v := 100) hx hb d_sc_missingTrick_15 zc_bipush_100 ?_
      exact k_sc_missingTrick_17 cx0  hI (lv_sub hl [] rfl) h
    · have h := h.2 hc
      refine lv_sipush (v := 200) hx hb d_sc_missingTrick_9 zc_sipush_200 ?_
      refine lv_goto hx hb d_sc_missingTrick_12 rfl ?_
      exact k_sc_missingTrick_17 cx0  hI (lv_sub hl [] rfl) h
def b_sc_penalty_23  (post : Int32 → ZS → Prop) : Nat → Int32 → Int32 → Int32 → Int32 → Int32 → ZS → Prop
  | 0, _, _, _, _, _, _ => False
  | n + 1, v0, v1, v2, v3, v4, u => (v0 < v4 → post (v3 * v1) u) ∧ (¬ (v0 < v4) → w_sc_missingTrick v4 v2 u (fun r1 u2 => b_sc_penalty_23 post n v0 v1 v2 (v3 + r1) (v4 + 1) u2))
set_option maxRecDepth 100000 in
set_option maxHeartbeats 4000000 in
theorem k_sc_penalty_23 {p : Program} {l : Launch} {e : Env} {R : Room} {s : State} {m : MethodId} {args : Array Value} {below : List Frame} {meth : Method} {c : Code} {D : va_G} {A : Nat → Prop} {ad : Nat → Nat} {ca : Nat → ClassId}  {post : Int32 → ZS → Prop} (cx : zx p R s m args meth c c_sc_penalty 5 2 33 "ShortBridge$Scoring" (some .int) zG zNs D (cT ca)) : ∀ (n : Nat) (v0 : Int32) (v1 : Int32) (v2 : Int32) (v3 : Int32) (v4 : Int32) (u : ZS) (H : Heap) (locs : List Loc) (ls : Array Slot), zw D A s.heap (cW ad ca u) H locs → lv_has ls 5 [(0, .int v0), (1, .int v1), (2, .int v2), (3, .int v3), (4, .int v4)] → b_sc_penalty_23 post n v0 v1 v2 v3 v4 u → W p l e R s m args below meth c H locs 0 0 (MQ below (va_Qi post (zE D (cT ca) (cW ad ca) A) A) args s 0 0 A) (F0 m 23 ls []) := by
  have cx0 := cx
  obtain ⟨hx, hb, hml, hown, hts, hN, hK, hr, hlk, hfr, hlc⟩ := cx
  intro n
  induction n with
  | zero => intro v0 v1 v2 v3 v4 u H locs ls hI hl h; exact (h : False).elim
  | succ n ih =>
    intro v0 v1 v2 v3 v4 u H locs ls hI hl h
    unfold b_sc_penalty_23 at h
    refine lv_iload hx hb d_sc_penalty_23 (lv_at hl 4 rfl) ?_
    refine lv_iload_n hx hb d_sc_penalty_25 rfl (lv_at hl 0 rfl) ?_
    refine lv_icmp_gt hx hb d_sc_penalty_26 rfl (fun hc => ?_) (fun hc => ?_)
    · have h := h.1 hc
      refine lv_iload_n hx hb d_sc_penalty_44 rfl (lv_at hl 3 rfl) ?_
      refine lv_iload_n hx hb d_sc_penalty_45 rfl (lv_at hl 1 rfl) ?_
      refine lv_imul hx hb d_sc_penalty_46 ?_
      exact zret_i hx hb hr hlk hK hI h d_sc_penalty_47
    · have h := h.2 hc
      refine lv_iload_n hx hb d_sc_penalty_29 rfl (lv_at hl 3 rfl) ?_
      refine lv_iload hx hb d_sc_penalty_30 (lv_at hl 4 rfl) ?_
      refine lv_iload_n hx hb d_sc_penalty_32 rfl (lv_at hl 2 rfl) ?_
      refine zr_i (va_runS (As := [.int v4, .int v2]) (rest := [.int v3]) ⟨hx, hb, hml, hown, hts⟩ (t_sc_missingTrick l D ad ca h _) (va_cwS 2 hts (zg_S q_536 q_537 q_52 q_538) rfl rfl rfl hd_sc_missingTrick ⟨Nat.le_trans (by decide) hfr, Nat.le_trans (by decide) hlc⟩) (z_preS zNs_ok hK hN hI _) rfl rfl hl.1 rfl (lv_room (Nat.le_of_ble_eq_true rfl)) d_sc_penalty_33 ⟨Nat.zero_le _, Nat.zero_le _⟩) hI ?_
      intro r1 u2 H locs h hI
      refine lv_iadd hx hb d_sc_penalty_36 ?_
      refine lv_istore_n hx hb d_sc_penalty_37 rfl hl (by decide) rfl ?_
      intro ls hl
      have hl : lv_has ls 5 [(3, .int (v3 + r1)), (0, .int v0), (1, .int v1), (2, .int v2), (4, .int v4)] := hl
      refine lv_iinc (k := 4) (v := (v4 + 1)) hx hb d_sc_penalty_38 hl rfl (zi_1 _) (by decide) rfl ?_
      intro ls hl
      have hl : lv_has ls 5 [(4, .int (v4 + 1)), (3, .int (v3 + r1)), (0, .int v0), (1, .int v1), (2, .int v2)] := hl
      refine lv_goto hx hb d_sc_penalty_41 rfl ?_
      exact ih _ _ _ _ _ _ _ _ _ hI (lv_sub hl [2, 3, 4, 1, 0] rfl) h
def b_sc_penalty_15  (post : Int32 → ZS → Prop) (v0 : Int32) (s0 : Int32) (u : ZS) : Prop := post (s0 * v0) u
set_option maxRecDepth 100000 in
set_option maxHeartbeats 4000000 in
theorem k_sc_penalty_15 {p : Program} {l : Launch} {e : Env} {R : Room} {s : State} {m : MethodId} {args : Array Value} {below : List Frame} {meth : Method} {c : Code} {D : va_G} {A : Nat → Prop} {ad : Nat → Nat} {ca : Nat → ClassId}  {post : Int32 → ZS → Prop} (cx : zx p R s m args meth c c_sc_penalty 5 2 33 "ShortBridge$Scoring" (some .int) zG zNs D (cT ca)) {v0 : Int32} {s0 : Int32} {u : ZS} {H : Heap} {locs : List Loc} {ls : Array Slot} (hI : zw D A s.heap (cW ad ca u) H locs) (hl : lv_has ls 5 [(0, .int v0)]) (h : b_sc_penalty_15 post v0 s0 u) : W p l e R s m args below meth c H locs 0 0 (MQ below (va_Qi post (zE D (cT ca) (cW ad ca) A) A) args s 0 0 A) (F0 m 15 ls [.int s0]) := by
  have cx0 := cx
  obtain ⟨hx, hb, hml, hown, hts, hN, hK, hr, hlk, hfr, hlc⟩ := cx
  unfold b_sc_penalty_15 at h
  refine lv_iload_n hx hb d_sc_penalty_15 rfl (lv_at hl 0 rfl) ?_
  refine lv_imul hx hb d_sc_penalty_16 ?_
  exact zret_i hx hb hr hlk hK hI h d_sc_penalty_17
def w_sc_penalty (v0 : Int32) (v1 : Int32) (v2 : Int32) (u : ZS) (post : Int32 → ZS → Prop) : Prop := (¬ v1 = 0 → ∃ n0, b_sc_penalty_23 post n0 v0 v1 v2 0 1 u) ∧ (v1 = 0 → (v2 = 0 → b_sc_penalty_15 post v0 50 u) ∧ (¬ (v2 = 0) → b_sc_penalty_15 post v0 100 u))
set_option maxRecDepth 100000 in
set_option maxHeartbeats 4000000 in
theorem t_sc_penalty (l : Launch) (D : va_G) (ad : Nat → Nat) (ca : Nat → ClassId) {v0 : Int32} {v1 : Int32} {v2 : Int32} {u : ZS} {post : Int32 → ZS → Prop} (h : w_sc_penalty v0 v1 v2 u post) : zI l y_sc_penalty (Cond.code y_sc_penalty c_sc_penalty 5 (some .int) :: zG) { frames := 2, cells := 0, slots := 0, locals := 33 } D (cT ca) zNs (cW ad ca) [.int v0, .int v1, .int v2] u post := by
  refine zI_of (cc := c_sc_penalty) (maxL := 5) (ret := (some .int)) (by decide) (Nat.le_of_ble_eq_true rfl) ?_
  intro p e s m args below meth c ls A cx hI hl
  have cx0 := cx
  obtain ⟨hx, hb, hml, hown, hts, hN, hK, hr, hlk, hfr, hlc⟩ := cx
  have hl : lv_has ls 5 [(0, .int v0), (1, .int v1), (2, .int v2)] := hl
  unfold w_sc_penalty at h
  refine lv_iload_n hx hb d_sc_penalty_0 rfl (lv_at hl 1 rfl) ?_
  refine lv_if_ne hx hb d_sc_penalty_1 rfl (fun hc => ?_) (fun hc => ?_)
  · have h := h.1 hc
    refine lv_iconst (v := 0) hx hb d_sc_penalty_18 zc_iconst_0 ?_
    refine lv_istore_n hx hb d_sc_penalty_19 rfl hl (by decide) rfl ?_
    intro ls hl
    have hl : lv_has ls 5 [(3, .int 0), (0, .int v0), (1, .int v1), (2, .int v2)] := hl
    refine lv_iconst (v := 1) hx hb d_sc_penalty_20 zc_iconst_1 ?_
    refine lv_istore hx hb d_sc_penalty_21 hl (by decide) rfl ?_
    intro ls hl
    have hl : lv_has ls 5 [(4, .int 1), (3, .int 0), (0, .int v0), (1, .int v1), (2, .int v2)] := hl
    obtain ⟨n0, h⟩ := h
    exact k_sc_penalty_23 cx0  n0 _ _ _ _ _ _ _ _ _ hI (lv_sub hl [2, 3, 4, 1, 0] rfl) h
  · have h := h.2 hc
    refine lv_iload_n hx hb d_sc_penalty_4 rfl (lv_at hl 2 rfl) ?_
    refine lv_if_eq hx hb d_sc_penalty_5 rfl (fun hc => ?_) (fun hc => ?_)
    · have h := h.1 hc
      refine lv_bipush (v := 50) hx hb d_sc_penalty_13 zc_bipush_50 ?_
      exact k_sc_penalty_15 cx0  hI (lv_sub hl [0] rfl) h
    · have h := h.2 hc
      refine lv_bipush (v := 100) hx hb d_sc_penalty_8 zc_bipush_100 ?_
      refine lv_goto hx hb d_sc_penalty_10 rfl ?_
      exact k_sc_penalty_15 cx0  hI (lv_sub hl [0] rfl) h
def b_sc_worth_15  (post : Int32 → ZS → Prop) (s0 : Int32) (u : ZS) : Prop := post s0 u
set_option maxRecDepth 100000 in
set_option maxHeartbeats 4000000 in
theorem k_sc_worth_15 {p : Program} {l : Launch} {e : Env} {R : Room} {s : State} {m : MethodId} {args : Array Value} {below : List Frame} {meth : Method} {c : Code} {D : va_G} {A : Nat → Prop} {ad : Nat → Nat} {ca : Nat → ClassId}  {post : Int32 → ZS → Prop} (cx : zx p R s m args meth c c_sc_worth 1 2 32 "ShortBridge$Scoring" (some .int) zG zNs D (cT ca)) {s0 : Int32} {u : ZS} {H : Heap} {locs : List Loc} {ls : Array Slot} (hI : zw D A s.heap (cW ad ca u) H locs) (hl : lv_has ls 1 []) (h : b_sc_worth_15 post s0 u) : W p l e R s m args below meth c H locs 0 0 (MQ below (va_Qi post (zE D (cT ca) (cW ad ca) A) A) args s 0 0 A) (F0 m 15 ls [.int s0]) := by
  have cx0 := cx
  obtain ⟨hx, hb, hml, hown, hts, hN, hK, hr, hlk, hfr, hlc⟩ := cx
  unfold b_sc_worth_15 at h
  exact zret_i hx hb hr hlk hK hI h d_sc_worth_15
def w_sc_worth (v0 : Int32) (u : ZS) (post : Int32 → ZS → Prop) : Prop := w_au_strain v0 u (fun r1 u2 => (2 ≤ r1 → b_sc_worth_15 post 30 u2) ∧ (¬ (2 ≤ r1) → b_sc_worth_15 post 20 u2))
set_option maxRecDepth 100000 in
set_option maxHeartbeats 4000000 in
theorem t_sc_worth (l : Launch) (D : va_G) (ad : Nat → Nat) (ca : Nat → ClassId) {v0 : Int32} {u : ZS} {post : Int32 → ZS → Prop} (h : w_sc_worth v0 u post) : zI l y_sc_worth (Cond.code y_sc_worth c_sc_worth 1 (some .int) :: zG) { frames := 2, cells := 0, slots := 0, locals := 32 } D (cT ca) zNs (cW ad ca) [.int v0] u post := by
  refine zI_of (cc := c_sc_worth) (maxL := 1) (ret := (some .int)) (by decide) (Nat.le_of_ble_eq_true rfl) ?_
  intro p e s m args below meth c ls A cx hI hl
  have cx0 := cx
  obtain ⟨hx, hb, hml, hown, hts, hN, hK, hr, hlk, hfr, hlc⟩ := cx
  have hl : lv_has ls 1 [(0, .int v0)] := hl
  unfold w_sc_worth at h
  refine lv_iload_n hx hb d_sc_worth_0 rfl (lv_at hl 0 rfl) ?_
  refine zr_i (va_runS (As := [.int v0]) (rest := []) ⟨hx, hb, hml, hown, hts⟩ (t_au_strain l D ad ca h _) (va_cwS 1 hts (zg_S q_542 q_316 q_41 q_317) rfl rfl rfl hd_au_strain ⟨Nat.le_trans (by decide) hfr, Nat.le_trans (by decide) hlc⟩) (z_preS zNs_ok hK hN hI _) rfl rfl hl.1 rfl (lv_room (Nat.le_of_ble_eq_true rfl)) d_sc_worth_1 ⟨Nat.zero_le _, Nat.zero_le _⟩) hI ?_
  intro r1 u2 H locs h hI
  refine lv_iconst (v := 2) hx hb d_sc_worth_4 zc_iconst_2 ?_
  refine lv_icmp_ge hx hb d_sc_worth_5 rfl (fun hc => ?_) (fun hc => ?_)
  · have h := h.1 hc
    refine lv_bipush (v := 30) hx hb d_sc_worth_13 zc_bipush_30 ?_
    exact k_sc_worth_15 cx0  hI (lv_sub hl [] rfl) h
  · have h := h.2 hc
    refine lv_bipush (v := 20) hx hb d_sc_worth_8 zc_bipush_20 ?_
    refine lv_goto hx hb d_sc_worth_10 rfl ?_
    exact k_sc_worth_15 cx0  hI (lv_sub hl [] rfl) h
def b_sc_made_88  (post : Int32 → ZS → Prop) (v1 : Int32) (v5 : Int32) (u : ZS) : Prop := post (v5 + (50 * v1)) u
set_option maxRecDepth 100000 in
set_option maxHeartbeats 4000000 in
theorem k_sc_made_88 {p : Program} {l : Launch} {e : Env} {R : Room} {s : State} {m : MethodId} {args : Array Value} {below : List Frame} {meth : Method} {c : Code} {D : va_G} {A : Nat → Prop} {ad : Nat → Nat} {ca : Nat → ClassId}  {post : Int32 → ZS → Prop} (cx : zx p R s m args meth c c_sc_made 6 3 52 "ShortBridge$Scoring" (some .int) zG zNs D (cT ca)) {v1 : Int32} {v5 : Int32} {u : ZS} {H : Heap} {locs : List Loc} {ls : Array Slot} (hI : zw D A s.heap (cW ad ca u) H locs) (hl : lv_has ls 6 [(1, .int v1), (5, .int v5)]) (h : b_sc_made_88 post v1 v5 u) : W p l e R s m args below meth c H locs 0 0 (MQ below (va_Qi post (zE D (cT ca) (cW ad ca) A) A) args s 0 0 A) (F0 m 88 ls []) := by
  have cx0 := cx
  obtain ⟨hx, hb, hml, hown, hts, hN, hK, hr, hlk, hfr, hlc⟩ := cx
  unfold b_sc_made_88 at h
  refine lv_iload hx hb d_sc_made_88 (lv_at hl 1 rfl) ?_
  refine lv_bipush (v := 50) hx hb d_sc_made_90 zc_bipush_50 ?_
  refine lv_iload_n hx hb d_sc_made_92 rfl (lv_at hl 0 rfl) ?_
  refine lv_imul hx hb d_sc_made_93 ?_
  refine lv_iadd hx hb d_sc_made_94 ?_
  exact zret_i hx hb hr hlk hK hI h d_sc_made_95
def b_sc_made_85  (post : Int32 → ZS → Prop) (v1 : Int32) (s0 : Int32) (s1 : Int32) (u : ZS) : Prop := b_sc_made_88 post v1 (s1 + s0) u
set_option maxRecDepth 100000 in
set_option maxHeartbeats 4000000 in
theorem k_sc_made_85 {p : Program} {l : Launch} {e : Env} {R : Room} {s : State} {m : MethodId} {args : Array Value} {below : List Frame} {meth : Method} {c : Code} {D : va_G} {A : Nat → Prop} {ad : Nat → Nat} {ca : Nat → ClassId}  {post : Int32 → ZS → Prop} (cx : zx p R s m args meth c c_sc_made 6 3 52 "ShortBridge$Scoring" (some .int) zG zNs D (cT ca)) {v1 : Int32} {s0 : Int32} {s1 : Int32} {u : ZS} {H : Heap} {locs : List Loc} {ls : Array Slot} (hI : zw D A s.heap (cW ad ca u) H locs) (hl : lv_has ls 6 [(1, .int v1)]) (h : b_sc_made_85 post v1 s0 s1 u) : W p l e R s m args below meth c H locs 0 0 (MQ below (va_Qi post (zE D (cT ca) (cW ad ca) A) A) args s 0 0 A) (F0 m 85 ls [.int s0, .int s1]) := by
  have cx0 := cx
  obtain ⟨hx, hb, hml, hown, hts, hN, hK, hr, hlk, hfr, hlc⟩ := cx
  unfold b_sc_made_85 at h
  refine lv_iadd hx hb d_sc_made_85 ?_
  refine lv_istore hx hb d_sc_made_86 hl (by decide) rfl ?_
  intro ls hl
  have hl : lv_has ls 6 [(5, .int (s1 + s0)), (1, .int v1)] := hl
  exact k_sc_made_88 cx0  hI (lv_sub hl [1, 0] rfl) h
def b_sc_made_65  (post : Int32 → ZS → Prop) (v1 : Int32) (v2 : Int32) (v3 : Int32) (v5 : Int32) (u : ZS) : Prop := (¬ v3 = 3 → b_sc_made_88 post v1 v5 u) ∧ (v3 = 3 → (v2 = 0 → b_sc_made_85 post v1 400 v5 u) ∧ (¬ (v2 = 0) → b_sc_made_85 post v1 600 v5 u))
set_option maxRecDepth 100000 in
set_option maxHeartbeats 4000000 in
theorem k_sc_made_65 {p : Program} {l : Launch} {e : Env} {R : Room} {s : State} {m : MethodId} {args : Array Value} {below : List Frame} {meth : Method} {c : Code} {D : va_G} {A : Nat → Prop} {ad : Nat → Nat} {ca : Nat → ClassId}  {post : Int32 → ZS → Prop} (cx : zx p R s m args meth c c_sc_made 6 3 52 "ShortBridge$Scoring" (some .int) zG zNs D (cT ca)) {v1 : Int32} {v2 : Int32} {v3 : Int32} {v5 : Int32} {u : ZS} {H : Heap} {locs : List Loc} {ls : Array Slot} (hI : zw D A s.heap (cW ad ca u) H locs) (hl : lv_has ls 6 [(1, .int v1), (2, .int v2), (3, .int v3), (5, .int v5)]) (h : b_sc_made_65 post v1 v2 v3 v5 u) : W p l e R s m args below meth c H locs 0 0 (MQ below (va_Qi post (zE D (cT ca) (cW ad ca) A) A) args s 0 0 A) (F0 m 65 ls []) := by
  have cx0 := cx
  obtain ⟨hx, hb, hml, hown, hts, hN, hK, hr, hlk, hfr, hlc⟩ := cx
  unfold b_sc_made_65 at h
  refine lv_iload_n hx hb d_sc_made_65 rfl (lv_at hl 2 rfl) ?_
  refine lv_iconst (v := 3) hx hb d_sc_made_66 zc_iconst_3 ?_
  refine lv_icmp_ne hx hb d_sc_made_67 rfl (fun hc => ?_) (fun hc => ?_)
  · have h := h.1 hc
    exact k_sc_made_88 cx0  hI (lv_sub hl [0, 3] rfl) h
  · have h := h.2 hc
    refine lv_iload hx hb d_sc_made_70 (lv_at hl 3 rfl) ?_
    refine lv_iload_n hx hb d_sc_made_72 rfl (lv_at hl 1 rfl) ?_
    refine lv_if_eq hx hb d_sc_made_73 rfl (fun hc => ?_) (fun hc => ?_)
    · have h := h.1 hc
      refine lv_sipush (v := 400) hx hb d_sc_made_82 zc_sipush_400 ?_
      exact k_sc_made_85 cx0  hI (lv_sub hl [0] rfl) h
    · have h := h.2 hc
      refine lv_sipush (v := 600) hx hb d_sc_made_76 zc_sipush_600 ?_
      refine lv_goto hx hb d_sc_made_79 rfl ?_
      exact k_sc_made_85 cx0  hI (lv_sub hl [0] rfl) h
def b_sc_made_62  (post : Int32 → ZS → Prop) (v1 : Int32) (v2 : Int32) (v3 : Int32) (s0 : Int32) (s1 : Int32) (u : ZS) : Prop := b_sc_made_65 post v1 v2 v3 (s1 + s0) u
set_option maxRecDepth 100000 in
set_option maxHeartbeats 4000000 in
theorem k_sc_made_62 {p : Program} {l : Launch} {e : Env} {R : Room} {s : State} {m : MethodId} {args : Array Value} {below : List Frame} {meth : Method} {c : Code} {D : va_G} {A : Nat → Prop} {ad : Nat → Nat} {ca : Nat → ClassId}  {post : Int32 → ZS → Prop} (cx : zx p R s m args meth c c_sc_made 6 3 52 "ShortBridge$Scoring" (some .int) zG zNs D (cT ca)) {v1 : Int32} {v2 : Int32} {v3 : Int32} {s0 : Int32} {s1 : Int32} {u : ZS} {H : Heap} {locs : List Loc} {ls : Array Slot} (hI : zw D A s.heap (cW ad ca u) H locs) (hl : lv_has ls 6 [(1, .int v1), (2, .int v2), (3, .int v3)]) (h : b_sc_made_62 post v1 v2 v3 s0 s1 u) : W p l e R s m args below meth c H locs 0 0 (MQ below (va_Qi post (zE D (cT ca) (cW ad ca) A) A) args s 0 0 A) (F0 m 62 ls [.int s0, .int s1]) := by
  have cx0 := cx
  obtain ⟨hx, hb, hml, hown, hts, hN, hK, hr, hlk, hfr, hlc⟩ := cx
  unfold b_sc_made_62 at h
  refine lv_iadd hx hb d_sc_made_62 ?_
  refine lv_istore hx hb d_sc_made_63 hl (by decide) rfl ?_
  intro ls hl
  have hl : lv_has ls 6 [(5, .int (s1 + s0)), (1, .int v1), (2, .int v2), (3, .int v3)] := hl
  exact k_sc_made_65 cx0  hI (lv_sub hl [1, 2, 3, 0] rfl) h
def b_sc_made_19  (post : Int32 → ZS → Prop) (v0 : Int32) (v1 : Int32) (v2 : Int32) (v3 : Int32) (s0 : Int32) (u : ZS) : Prop := w_sc_worth v0 u (fun r1 u2 => (100 ≤ (((v3 * r1) + s0) <<< (v1 &&& 31)) → (v2 = 0 → b_sc_made_62 post v1 v2 v3 300 (((v3 * r1) + s0) <<< (v1 &&& 31)) u2) ∧ (¬ (v2 = 0) → b_sc_made_62 post v1 v2 v3 500 (((v3 * r1) + s0) <<< (v1 &&& 31)) u2)) ∧ (¬ (100 ≤ (((v3 * r1) + s0) <<< (v1 &&& 31))) → b_sc_made_65 post v1 v2 v3 ((((v3 * r1) + s0) <<< (v1 &&& 31)) + 50) u2))
set_option maxRecDepth 100000 in
set_option maxHeartbeats 4000000 in
theorem k_sc_made_19 {p : Program} {l : Launch} {e : Env} {R : Room} {s : State} {m : MethodId} {args : Array Value} {below : List Frame} {meth : Method} {c : Code} {D : va_G} {A : Nat → Prop} {ad : Nat → Nat} {ca : Nat → ClassId}  {post : Int32 → ZS → Prop} (cx : zx p R s m args meth c c_sc_made 6 3 52 "ShortBridge$Scoring" (some .int) zG zNs D (cT ca)) {v0 : Int32} {v1 : Int32} {v2 : Int32} {v3 : Int32} {s0 : Int32} {u : ZS} {H : Heap} {locs : List Loc} {ls : Array Slot} (hI : zw D A s.heap (cW ad ca u) H locs) (hl : lv_has ls 6 [(0, .int v0), (1, .int v1), (2, .int v2), (3, .int v3)]) (h : b_sc_made_19 post v0 v1 v2 v3 s0 u) : W p l e R s m args below meth c H locs 0 0 (MQ below (va_Qi post (zE D (cT ca) (cW ad ca) A) A) args s 0 0 A) (F0 m 19 ls [.int s0]) := by
  have cx0 := cx
  obtain ⟨hx, hb, hml, hown, hts, hN, hK, hr, hlk, hfr, hlc⟩ := cx
  unfold b_sc_made_19 at h
  refine lv_istore hx hb d_sc_made_19 hl (by decide) rfl ?_
  intro ls hl
  have hl : lv_has ls 6 [(4, .int s0), (0, .int v0), (1, .int v1), (2, .int v2), (3, .int v3)] := hl
  refine lv_iload_n hx hb d_sc_made_21 rfl (lv_at hl 4 rfl) ?_
  refine lv_iload_n hx hb d_sc_made_22 rfl (lv_at hl 1 rfl) ?_
  refine zr_i (va_runS (As := [.int v0]) (rest := [.int v3]) ⟨hx, hb, hml, hown, hts⟩ (t_sc_worth l D ad ca h _) (va_cwS 1 hts (zg_S q_543 q_544 q_52 q_545) rfl rfl rfl hd_sc_worth ⟨Nat.le_trans (by decide) hfr, Nat.le_trans (by decide) hlc⟩) (z_preS zNs_ok hK hN hI _) rfl rfl hl.1 rfl (lv_room (Nat.le_of_ble_eq_true rfl)) d_sc_made_23 ⟨Nat.zero_le _, Nat.zero_le _⟩) hI ?_
  intro r1 u2 H locs h hI
  refine lv_imul hx hb d_sc_made_26 ?_
  refine lv_iload hx hb d_sc_made_27 (lv_at hl 0 rfl) ?_
  refine lv_iadd hx hb d_sc_made_29 ?_
  refine lv_iload_n hx hb d_sc_made_30 rfl (lv_at hl 2 rfl) ?_
  refine lv_ishl hx hb d_sc_made_31 ?_
  refine lv_istore hx hb d_sc_made_32 hl (by decide) rfl ?_
  intro ls hl
  have hl : lv_has ls 6 [(5, .int (((v3 * r1) + s0) <<< (v1 &&& 31))), (4, .int s0), (0, .int v0), (1, .int v1), (2, .int v2), (3, .int v3)] := hl
  refine lv_iload hx hb d_sc_made_34 (lv_at hl 0 rfl) ?_
  refine lv_bipush (v := 100) hx hb d_sc_made_36 zc_bipush_100 ?_
  refine lv_icmp_ge hx hb d_sc_made_38 rfl (fun hc => ?_) (fun hc => ?_)
  · have h := h.1 hc
    refine lv_iload hx hb d_sc_made_47 (lv_at hl 0 rfl) ?_
    refine lv_iload_n hx hb d_sc_made_49 rfl (lv_at hl 4 rfl) ?_
    refine lv_if_eq hx hb d_sc_made_50 rfl (fun hc => ?_) (fun hc => ?_)
    · have h := h.1 hc
      refine lv_sipush (v := 300) hx hb d_sc_made_59 zc_sipush_300 ?_
      exact k_sc_made_62 cx0  hI (lv_sub hl [3, 4, 5] rfl) h
    · have h := h.2 hc
      refine lv_sipush (v := 500) hx hb d_sc_made_53 zc_sipush_500 ?_
      refine lv_goto hx hb d_sc_made_56 rfl ?_
      exact k_sc_made_62 cx0  hI (lv_sub hl [3, 4, 5] rfl) h
  · have h := h.2 hc
    refine lv_iinc (k := 0) (v := ((((v3 * r1) + s0) <<< (v1 &&& 31)) + 50)) hx hb d_sc_made_41 hl rfl (zi_50 _) (by decide) rfl ?_
    intro ls hl
    have hl : lv_has ls 6 [(5, .int ((((v3 * r1) + s0) <<< (v1 &&& 31)) + 50)), (4, .int s0), (0, .int v0), (1, .int v1), (2, .int v2), (3, .int v3)] := hl
    refine lv_goto hx hb d_sc_made_44 rfl ?_
    exact k_sc_made_65 cx0  hI (lv_sub hl [3, 4, 5, 0] rfl) h
def w_sc_made (v0 : Int32) (v1 : Int32) (v2 : Int32) (u : ZS) (post : Int32 → ZS → Prop) : Prop := w_au_level v0 u (fun r3 u4 => w_au_strain v0 u4 (fun r5 u6 => (¬ r5 = 4 → b_sc_made_19 post v0 v1 v2 r3 0 u6) ∧ (r5 = 4 → b_sc_made_19 post v0 v1 v2 r3 10 u6)))
set_option maxRecDepth 100000 in
set_option maxHeartbeats 4000000 in
theorem t_sc_made (l : Launch) (D : va_G) (ad : Nat → Nat) (ca : Nat → ClassId) {v0 : Int32} {v1 : Int32} {v2 : Int32} {u : ZS} {post : Int32 → ZS → Prop} (h : w_sc_made v0 v1 v2 u post) : zI l y_sc_made (Cond.code y_sc_made c_sc_made 6 (some .int) :: zG) { frames := 3, cells := 0, slots := 0, locals := 52 } D (cT ca) zNs (cW ad ca) [.int v0, .int v1, .int v2] u post := by
  refine zI_of (cc := c_sc_made) (maxL := 6) (ret := (some .int)) (by decide) (Nat.le_of_ble_eq_true rfl) ?_
  intro p e s m args below meth c ls A cx hI hl
  have cx0 := cx
  obtain ⟨hx, hb, hml, hown, hts, hN, hK, hr, hlk, hfr, hlc⟩ := cx
  have hl : lv_has ls 6 [(0, .int v0), (1, .int v1), (2, .int v2)] := hl
  unfold w_sc_made at h
  refine lv_iload_n hx hb d_sc_made_0 rfl (lv_at hl 0 rfl) ?_
  refine zr_i (va_runS (As := [.int v0]) (rest := []) ⟨hx, hb, hml, hown, hts⟩ (t_au_level l D ad ca h _) (va_cwS 1 hts (zg_S q_530 q_531 q_41 q_532) rfl rfl rfl hd_au_level ⟨Nat.le_trans (by decide) hfr, Nat.le_trans (by decide) hlc⟩) (z_preS zNs_ok hK hN hI _) rfl rfl hl.1 rfl (lv_room (Nat.le_of_ble_eq_true rfl)) d_sc_made_1 ⟨Nat.zero_le _, Nat.zero_le _⟩) hI ?_
  intro r3 u4 H locs h hI
  refine lv_istore_n hx hb d_sc_made_4 rfl hl (by decide) rfl ?_
  intro ls hl
  have hl : lv_has ls 6 [(3, .int r3), (0, .int v0), (1, .int v1), (2, .int v2)] := hl
  refine lv_iload_n hx hb d_sc_made_5 rfl (lv_at hl 1 rfl) ?_
  refine zr_i (va_runS (As := [.int v0]) (rest := []) ⟨hx, hb, hml, hown, hts⟩ (t_au_strain l D ad ca h _) (va_cwS 1 hts (zg_S q_542 q_316 q_41 q_317) rfl rfl rfl hd_au_strain ⟨Nat.le_trans (by decide) hfr, Nat.le_trans (by decide) hlc⟩) (z_preS zNs_ok hK hN hI _) rfl rfl hl.1 rfl (lv_room (Nat.le_of_ble_eq_true rfl)) d_sc_made_6 ⟨Nat.zero_le _, Nat.zero_le _⟩) hI ?_
  intro r5 u6 H locs h hI
  refine lv_iconst (v := 4) hx hb d_sc_made_9 zc_iconst_4 ?_
  refine lv_icmp_ne hx hb d_sc_made_10 rfl (fun hc => ?_) (fun hc => ?_)
  · have h := h.1 hc
    refine lv_iconst (v := 0) hx hb d_sc_made_18 zc_iconst_0 ?_
    exact k_sc_made_19 cx0  hI (lv_sub hl [1, 2, 3, 0] rfl) h
  · have h := h.2 hc
    refine lv_bipush (v := 10) hx hb d_sc_made_13 zc_bipush_10 ?_
    refine lv_goto hx hb d_sc_made_15 rfl ?_
    exact k_sc_made_19 cx0  hI (lv_sub hl [1, 2, 3, 0] rfl) h
def b_sc_extraTrick_21  (post : Int32 → ZS → Prop) (v1 : Int32) (s0 : Int32) (u : ZS) : Prop := post (s0 * v1) u
set_option maxRecDepth 100000 in
set_option maxHeartbeats 4000000 in
theorem k_sc_extraTrick_21 {p : Program} {l : Launch} {e : Env} {R : Room} {s : State} {m : MethodId} {args : Array Value} {below : List Frame} {meth : Method} {c : Code} {D : va_G} {A : Nat → Prop} {ad : Nat → Nat} {ca : Nat → ClassId}  {post : Int32 → ZS → Prop} (cx : zx p R s m args meth c c_sc_extraTrick 3 3 52 "ShortBridge$Scoring" (some .int) zG zNs D (cT ca)) {v1 : Int32} {s0 : Int32} {u : ZS} {H : Heap} {locs : List Loc} {ls : Array Slot} (hI : zw D A s.heap (cW ad ca u) H locs) (hl : lv_has ls 3 [(1, .int v1)]) (h : b_sc_extraTrick_21 post v1 s0 u) : W p l e R s m args below meth c H locs 0 0 (MQ below (va_Qi post (zE D (cT ca) (cW ad ca) A) A) args s 0 0 A) (F0 m 21 ls [.int s0]) := by
  have cx0 := cx
  obtain ⟨hx, hb, hml, hown, hts, hN, hK, hr, hlk, hfr, hlc⟩ := cx
  unfold b_sc_extraTrick_21 at h
  refine lv_iload_n hx hb d_sc_extraTrick_21 rfl (lv_at hl 0 rfl) ?_
  refine lv_imul hx hb d_sc_extraTrick_22 ?_
  exact zret_i hx hb hr hlk hK hI h d_sc_extraTrick_23
def w_sc_extraTrick (v0 : Int32) (v1 : Int32) (v2 : Int32) (u : ZS) (post : Int32 → ZS → Prop) : Prop := (¬ v1 = 0 → (v2 = 0 → b_sc_extraTrick_21 post v1 100 u) ∧ (¬ (v2 = 0) → b_sc_extraTrick_21 post v1 200 u)) ∧ (v1 = 0 → w_sc_worth v0 u (fun r1 u2 => post r1 u2))
set_option maxRecDepth 100000 in
set_option maxHeartbeats 4000000 in
theorem t_sc_extraTrick (l : Launch) (D : va_G) (ad : Nat → Nat) (ca : Nat → ClassId) {v0 : Int32} {v1 : Int32} {v2 : Int32} {u : ZS} {post : Int32 → ZS → Prop} (h : w_sc_extraTrick v0 v1 v2 u post) : zI l y_sc_extraTrick (Cond.code y_sc_extraTrick c_sc_extraTrick 3 (some .int) :: zG) { frames := 3, cells := 0, slots := 0, locals := 52 } D (cT ca) zNs (cW ad ca) [.int v0, .int v1, .int v2] u post := by
  refine zI_of (cc := c_sc_extraTrick) (maxL := 3) (ret := (some .int)) (by decide) (Nat.le_of_ble_eq_true rfl) ?_
  intro p e s m args below meth c ls A cx hI hl
  have cx0 := cx
  obtain ⟨hx, hb, hml, hown, hts, hN, hK, hr, hlk, hfr, hlc⟩ := cx
  have hl : lv_has ls 3 [(0, .int v0), (1, .int v1), (2, .int v2)] := hl
  unfold w_sc_extraTrick at h
  refine lv_iload_n hx hb d_sc_extraTrick_0 rfl (lv_at hl 1 rfl) ?_
  refine lv_if_ne hx hb d_sc_extraTrick_1 rfl (fun hc => ?_) (fun hc => ?_)
  · have h := h.1 hc
    refine lv_iload_n hx hb d_sc_extraTrick_9 rfl (lv_at hl 2 rfl) ?_
    refine lv_if_eq hx hb d_sc_extraTrick_10 rfl (fun hc => ?_) (fun hc => ?_)
    · have h := h.1 hc
      refine lv_bipush (v := 100) hx hb d_sc_extraTrick_19 zc_bipush_100 ?_
      exact k_sc_extraTrick_21 cx0  hI (lv_sub hl [1] rfl) h
    · have h := h.2 hc
      refine lv_sipush (v := 200) hx hb d_sc_extraTrick_13 zc_sipush_200 ?_
      refine lv_goto hx hb d_sc_extraTrick_16 rfl ?_
      exact k_sc_extraTrick_21 cx0  hI (lv_sub hl [1] rfl) h
  · have h := h.2 hc
    refine lv_iload_n hx hb d_sc_extraTrick_4 rfl (lv_at hl 0 rfl) ?_
    refine zr_i (va_runS (As := [.int v0]) (rest := []) ⟨hx, hb, hml, hown, hts⟩ (t_sc_worth l D ad ca h _) (va_cwS 1 hts (zg_S q_543 q_544 q_52 q_545) rfl rfl rfl hd_sc_worth ⟨Nat.le_trans (by decide) hfr, Nat.le_trans (by decide) hlc⟩) (z_preS zNs_ok hK hN hI _) rfl rfl hl.1 rfl (lv_room (Nat.le_of_ble_eq_true rfl)) d_sc_extraTrick_5 ⟨Nat.zero_le _, Nat.zero_le _⟩) hI ?_
    intro r1 u2 H locs h hI
    exact zret_i hx hb hr hlk hK hI h d_sc_extraTrick_8
def w_sc_scoreOf (v0 : Int32) (v1 : Int32) (v2 : Int32) (v3 : Int32) (u : ZS) (post : Int32 → ZS → Prop) : Prop := w_au_level v0 u (fun r1 u2 => (0 ≤ (v2 - (r1 + 2)) → w_sc_made v0 v1 v3 u2 (fun r3 u4 => w_sc_extraTrick v0 v1 v3 u4 (fun r5 u6 => post (r3 + ((v2 - (r1 + 2)) * r5)) u6))) ∧ (¬ (0 ≤ (v2 - (r1 + 2))) → w_sc_penalty (-(v2 - (r1 + 2))) v1 v3 u2 (fun r7 u8 => post (-r7) u8)))
set_option maxRecDepth 100000 in
set_option maxHeartbeats 4000000 in
theorem t_sc_scoreOf (l : Launch) (D : va_G) (ad : Nat → Nat) (ca : Nat → ClassId) {v0 : Int32} {v1 : Int32} {v2 : Int32} {v3 : Int32} {u : ZS} {post : Int32 → ZS → Prop} (h : w_sc_scoreOf v0 v1 v2 v3 u post) : zI l y_sc_scoreOf (Cond.code y_sc_scoreOf c_sc_scoreOf 5 (some .int) :: zG) { frames := 4, cells := 0, slots := 0, locals := 77 } D (cT ca) zNs (cW ad ca) [.int v0, .int v1, .int v2, .int v3] u post := by
  refine zI_of (cc := c_sc_scoreOf) (maxL := 5) (ret := (some .int)) (by decide) (Nat.le_of_ble_eq_true rfl) ?_
  intro p e s m args below meth c ls A cx hI hl
  have cx0 := cx
  obtain ⟨hx, hb, hml, hown, hts, hN, hK, hr, hlk, hfr, hlc⟩ := cx
  have hl : lv_has ls 5 [(0, .int v0), (1, .int v1), (2, .int v2), (3, .int v3)] := hl
  unfold w_sc_scoreOf at h
  refine lv_iload_n hx hb d_sc_scoreOf_0 rfl (lv_at hl 2 rfl) ?_
  refine lv_iload_n hx hb d_sc_scoreOf_1 rfl (lv_at hl 0 rfl) ?_
  refine zr_i (va_runS (As := [.int v0]) (rest := [.int v2]) ⟨hx, hb, hml, hown, hts⟩ (t_au_level l D ad ca h _) (va_cwS 1 hts (zg_S q_530 q_531 q_41 q_532) rfl rfl rfl hd_au_level ⟨Nat.le_trans (by decide) hfr, Nat.le_trans (by decide) hlc⟩) (z_preS zNs_ok hK hN hI _) rfl rfl hl.1 rfl (lv_room (Nat.le_of_ble_eq_true rfl)) d_sc_scoreOf_2 ⟨Nat.zero_le _, Nat.zero_le _⟩) hI ?_
  intro r1 u2 H locs h hI
  refine lv_iconst (v := 2) hx hb d_sc_scoreOf_5 zc_iconst_2 ?_
  refine lv_iadd hx hb d_sc_scoreOf_6 ?_
  refine lv_isub hx hb d_sc_scoreOf_7 ?_
  refine lv_istore hx hb d_sc_scoreOf_8 hl (by decide) rfl ?_
  intro ls hl
  have hl : lv_has ls 5 [(4, .int (v2 - (r1 + 2))), (0, .int v0), (1, .int v1), (2, .int v2), (3, .int v3)] := hl
  refine lv_iload hx hb d_sc_scoreOf_10 (lv_at hl 0 rfl) ?_
  refine lv_if_ge hx hb d_sc_scoreOf_12 rfl (fun hc => ?_) (fun hc => ?_)
  · have h := h.1 hc
    refine lv_iload_n hx hb d_sc_scoreOf_25 rfl (lv_at hl 1 rfl) ?_
    refine lv_iload_n hx hb d_sc_scoreOf_26 rfl (lv_at hl 2 rfl) ?_
    refine lv_iload_n hx hb d_sc_scoreOf_27 rfl (lv_at hl 4 rfl) ?_
    refine zr_i (va_runS (As := [.int v0, .int v1, .int v3]) (rest := []) ⟨hx, hb, hml, hown, hts⟩ (t_sc_made l D ad ca h _) (va_cwS 3 hts (zg_S q_539 q_540 q_52 q_541) rfl rfl rfl hd_sc_made ⟨Nat.le_trans (by decide) hfr, Nat.le_trans (by decide) hlc⟩) (z_preS zNs_ok hK hN hI _) rfl rfl hl.1 rfl (lv_room (Nat.le_of_ble_eq_true rfl)) d_sc_scoreOf_28 ⟨Nat.zero_le _, Nat.zero_le _⟩) hI ?_
    intro r3 u4 H locs h hI
    refine lv_iload hx hb d_sc_scoreOf_31 (lv_at hl 0 rfl) ?_
    refine lv_iload_n hx hb d_sc_scoreOf_33 rfl (lv_at hl 1 rfl) ?_
    refine lv_iload_n hx hb d_sc_scoreOf_34 rfl (lv_at hl 2 rfl) ?_
    refine lv_iload_n hx hb d_sc_scoreOf_35 rfl (lv_at hl 4 rfl) ?_
    refine zr_i (va_runS (As := [.int v0, .int v1, .int v3]) (rest := [.int (v2 - (r1 + 2)), .int r3]) ⟨hx, hb, hml, hown, hts⟩ (t_sc_extraTrick l D ad ca h _) (va_cwS 3 hts (zg_S q_546 q_547 q_52 q_548) rfl rfl rfl hd_sc_extraTrick ⟨Nat.le_trans (by decide) hfr, Nat.le_trans (by decide) hlc⟩) (z_preS zNs_ok hK hN hI _) rfl rfl hl.1 rfl (lv_room (Nat.le_of_ble_eq_true rfl)) d_sc_scoreOf_36 ⟨Nat.zero_le _, Nat.zero_le _⟩) hI ?_
    intro r5 u6 H locs h hI
    refine lv_imul hx hb d_sc_scoreOf_39 ?_
    refine lv_iadd hx hb d_sc_scoreOf_40 ?_
    exact zret_i hx hb hr hlk hK hI h d_sc_scoreOf_41
  · have h := h.2 hc
    refine lv_iload hx hb d_sc_scoreOf_15 (lv_at hl 0 rfl) ?_
    refine lv_ineg hx hb d_sc_scoreOf_17 ?_
    refine lv_iload_n hx hb d_sc_scoreOf_18 rfl (lv_at hl 2 rfl) ?_
    refine lv_iload_n hx hb d_sc_scoreOf_19 rfl (lv_at hl 4 rfl) ?_
    refine zr_i (va_runS (As := [.int (-(v2 - (r1 + 2))), .int v1, .int v3]) (rest := []) ⟨hx, hb, hml, hown, hts⟩ (t_sc_penalty l D ad ca h _) (va_cwS 3 hts (zg_S q_533 q_534 q_52 q_535) rfl rfl rfl hd_sc_penalty ⟨Nat.le_trans (by decide) hfr, Nat.le_trans (by decide) hlc⟩) (z_preS zNs_ok hK hN hI _) rfl rfl hl.1 rfl (lv_room (Nat.le_of_ble_eq_true rfl)) d_sc_scoreOf_20 ⟨Nat.zero_le _, Nat.zero_le _⟩) hI ?_
    intro r7 u8 H locs h hI
    refine lv_ineg hx hb d_sc_scoreOf_23 ?_
    exact zret_i hx hb hr hlk hK hI h d_sc_scoreOf_24
def b_re_areFull_14  (post : Int32 → ZS → Prop) (s0 : Int32) (u : ZS) : Prop := (s0 = 0 ∨ s0 = 1) ∧ post s0 u
set_option maxRecDepth 100000 in
set_option maxHeartbeats 4000000 in
theorem k_re_areFull_14 {p : Program} {l : Launch} {e : Env} {R : Room} {s : State} {m : MethodId} {args : Array Value} {below : List Frame} {meth : Method} {c : Code} {D : va_G} {A : Nat → Prop} {ad : Nat → Nat} {ca : Nat → ClassId}  {post : Int32 → ZS → Prop} (cx : zx p R s m args meth c c_re_areFull 1 1 12 "ShortBridge$Results" (some .boolean) zG zNs D (cT ca)) {s0 : Int32} {u : ZS} {H : Heap} {locs : List Loc} {ls : Array Slot} (hI : zw D A s.heap (cW ad ca u) H locs) (hl : lv_has ls 1 []) (h : b_re_areFull_14 post s0 u) : W p l e R s m args below meth c H locs 0 0 (MQ below (va_Qi post (zE D (cT ca) (cW ad ca) A) A) args s 0 0 A) (F0 m 14 ls [.int s0]) := by
  have cx0 := cx
  obtain ⟨hx, hb, hml, hown, hts, hN, hK, hr, hlk, hfr, hlc⟩ := cx
  unfold b_re_areFull_14 at h
  exact zret_z hx hb hr hlk hK hI h.1 h.2 d_re_areFull_14
def w_re_areFull  (u : ZS) (post : Int32 → ZS → Prop) : Prop := (¬ (fI u 6) = 12 → b_re_areFull_14 post 0 u) ∧ ((fI u 6) = 12 → b_re_areFull_14 post 1 u)
set_option maxRecDepth 100000 in
set_option maxHeartbeats 4000000 in
theorem t_re_areFull (l : Launch) (D : va_G) (ad : Nat → Nat) (ca : Nat → ClassId)  {u : ZS} {post : Int32 → ZS → Prop} (h : w_re_areFull  u post) : zI l y_re_areFull (Cond.code y_re_areFull c_re_areFull 1 (some .boolean) :: zG) { frames := 1, cells := 0, slots := 0, locals := 12 } D (cT ca) zNs (cW ad ca) [.ref (ad 4)] u post := by
  refine zI_of (cc := c_re_areFull) (maxL := 1) (ret := (some .boolean)) (by decide) (Nat.le_of_ble_eq_true rfl) ?_
  intro p e s m args below meth c ls A cx hI hl
  have cx0 := cx
  obtain ⟨hx, hb, hml, hown, hts, hN, hK, hr, hlk, hfr, hlc⟩ := cx
  have hl : lv_has ls 1 [(0, .ref (ad 4))] := hl
  unfold w_re_areFull at h
  refine lv_aload_n hx hb d_re_areFull_0 rfl (lv_at hl 0 rfl) ?_
  refine cg_Results_count hx hb hts hown hK hI (hts _ q_140) d_re_areFull_1 ?_
  refine lv_bipush (v := 12) hx hb d_re_areFull_4 zc_bipush_12 ?_
  refine lv_icmp_ne hx hb d_re_areFull_6 rfl (fun hc => ?_) (fun hc => ?_)
  · have h := h.1 hc
    refine lv_iconst (v := 0) hx hb d_re_areFull_13 zc_iconst_0 ?_
    exact k_re_areFull_14 cx0  hI (lv_sub hl [] rfl) h
  · have h := h.2 hc
    refine lv_iconst (v := 1) hx hb d_re_areFull_9 zc_iconst_1 ?_
    refine lv_goto hx hb d_re_areFull_10 rfl ?_
    exact k_re_areFull_14 cx0  hI (lv_sub hl [] rfl) h
def b_re_contain_17  (post : Int32 → ZS → Prop) (s0 : Int32) (u : ZS) : Prop := (s0 = 0 ∨ s0 = 1) ∧ post s0 u
set_option maxRecDepth 100000 in
set_option maxHeartbeats 4000000 in
theorem k_re_contain_17 {p : Program} {l : Launch} {e : Env} {R : Room} {s : State} {m : MethodId} {args : Array Value} {below : List Frame} {meth : Method} {c : Code} {D : va_G} {A : Nat → Prop} {ad : Nat → Nat} {ca : Nat → ClassId}  {post : Int32 → ZS → Prop} (cx : zx p R s m args meth c c_re_contain 2 1 12 "ShortBridge$Results" (some .boolean) zG zNs D (cT ca)) {s0 : Int32} {u : ZS} {H : Heap} {locs : List Loc} {ls : Array Slot} (hI : zw D A s.heap (cW ad ca u) H locs) (hl : lv_has ls 2 []) (h : b_re_contain_17 post s0 u) : W p l e R s m args below meth c H locs 0 0 (MQ below (va_Qi post (zE D (cT ca) (cW ad ca) A) A) args s 0 0 A) (F0 m 17 ls [.int s0]) := by
  have cx0 := cx
  obtain ⟨hx, hb, hml, hown, hts, hN, hK, hr, hlk, hfr, hlc⟩ := cx
  unfold b_re_contain_17 at h
  exact zret_z hx hb hr hlk hK hI h.1 h.2 d_re_contain_17
def b_re_contain_16  (post : Int32 → ZS → Prop)  (u : ZS) : Prop := b_re_contain_17 post 0 u
set_option maxRecDepth 100000 in
set_option maxHeartbeats 4000000 in
theorem k_re_contain_16 {p : Program} {l : Launch} {e : Env} {R : Room} {s : State} {m : MethodId} {args : Array Value} {below : List Frame} {meth : Method} {c : Code} {D : va_G} {A : Nat → Prop} {ad : Nat → Nat} {ca : Nat → ClassId}  {post : Int32 → ZS → Prop} (cx : zx p R s m args meth c c_re_contain 2 1 12 "ShortBridge$Results" (some .boolean) zG zNs D (cT ca)) {u : ZS} {H : Heap} {locs : List Loc} {ls : Array Slot} (hI : zw D A s.heap (cW ad ca u) H locs) (hl : lv_has ls 2 []) (h : b_re_contain_16 post  u) : W p l e R s m args below meth c H locs 0 0 (MQ below (va_Qi post (zE D (cT ca) (cW ad ca) A) A) args s 0 0 A) (F0 m 16 ls []) := by
  have cx0 := cx
  obtain ⟨hx, hb, hml, hown, hts, hN, hK, hr, hlk, hfr, hlc⟩ := cx
  unfold b_re_contain_16 at h
  refine lv_iconst (v := 0) hx hb d_re_contain_16 zc_iconst_0 ?_
  exact k_re_contain_17 cx0  hI (lv_sub hl [] rfl) h
def w_re_contain (v1 : Int32) (u : ZS) (post : Int32 → ZS → Prop) : Prop := (v1 < 0 → b_re_contain_16 post u) ∧ (¬ (v1 < 0) → ((fI u 6) ≤ v1 → b_re_contain_16 post u) ∧ (¬ ((fI u 6) ≤ v1) → b_re_contain_17 post 1 u))
set_option maxRecDepth 100000 in
set_option maxHeartbeats 4000000 in
theorem t_re_contain (l : Launch) (D : va_G) (ad : Nat → Nat) (ca : Nat → ClassId) {v1 : Int32} {u : ZS} {post : Int32 → ZS → Prop} (h : w_re_contain v1 u post) : zI l y_re_contain (Cond.code y_re_contain c_re_contain 2 (some .boolean) :: zG) { frames := 1, cells := 0, slots := 0, locals := 12 } D (cT ca) zNs (cW ad ca) [.ref (ad 4), .int v1] u post := by
  refine zI_of (cc := c_re_contain) (maxL := 2) (ret := (some .boolean)) (by decide) (Nat.le_of_ble_eq_true rfl) ?_
  intro p e s m args below meth c ls A cx hI hl
  have cx0 := cx
  obtain ⟨hx, hb, hml, hown, hts, hN, hK, hr, hlk, hfr, hlc⟩ := cx
  have hl : lv_has ls 2 [(0, .ref (ad 4)), (1, .int v1)] := hl
  unfold w_re_contain at h
  refine lv_iload_n hx hb d_re_contain_0 rfl (lv_at hl 1 rfl) ?_
  refine lv_if_lt hx hb d_re_contain_1 rfl (fun hc => ?_) (fun hc => ?_)
  · have h := h.1 hc
    exact k_re_contain_16 cx0  hI (lv_sub hl [] rfl) h
  · have h := h.2 hc
    refine lv_iload_n hx hb d_re_contain_4 rfl (lv_at hl 1 rfl) ?_
    refine lv_aload_n hx hb d_re_contain_5 rfl (lv_at hl 0 rfl) ?_
    refine cg_Results_count hx hb hts hown hK hI (hts _ q_140) d_re_contain_6 ?_
    refine lv_icmp_ge hx hb d_re_contain_9 rfl (fun hc => ?_) (fun hc => ?_)
    · have h := h.1 hc
      exact k_re_contain_16 cx0  hI (lv_sub hl [] rfl) h
    · have h := h.2 hc
      refine lv_iconst (v := 1) hx hb d_re_contain_12 zc_iconst_1 ?_
      refine lv_goto hx hb d_re_contain_13 rfl ?_
      exact k_re_contain_17 cx0  hI (lv_sub hl [] rfl) h
def b_re_add_39  (post : ZS → Prop)  (u : ZS) : Prop := post u
set_option maxRecDepth 100000 in
set_option maxHeartbeats 4000000 in
theorem k_re_add_39 {p : Program} {l : Launch} {e : Env} {R : Room} {s : State} {m : MethodId} {args : Array Value} {below : List Frame} {meth : Method} {c : Code} {D : va_G} {A : Nat → Prop} {ad : Nat → Nat} {ca : Nat → ClassId}  {post : ZS → Prop} (cx : zx p R s m args meth c c_re_add 4 1 12 "ShortBridge$Results" none zG zNs D (cT ca)) {u : ZS} {H : Heap} {locs : List Loc} {ls : Array Slot} (hI : zw D A s.heap (cW ad ca u) H locs) (hl : lv_has ls 4 []) (h : b_re_add_39 post  u) : W p l e R s m args below meth c H locs 0 0 (MQ below (va_Qv post (zE D (cT ca) (cW ad ca) A) A) args s 0 0 A) (F0 m 39 ls []) := by
  have cx0 := cx
  obtain ⟨hx, hb, hml, hown, hts, hN, hK, hr, hlk, hfr, hlc⟩ := cx
  unfold b_re_add_39 at h
  exact zret_v hx hb hr hlk hK hI h d_re_add_39
def w_re_add (v1 : Int64) (v3 : Int32) (u : ZS) (post : ZS → Prop) : Prop := (12 ≤ (fI u 6) → b_re_add_39 post u) ∧ (¬ (12 ≤ (fI u 6)) → vp_in (fI u 6) 12 ∧ (vp_in (fI (pJ u 0 (Int32.toNatClampNeg (fI u 6)) v1) 6) 12 ∧ (b_re_add_39 post (sI (pI (pJ u 0 (Int32.toNatClampNeg (fI u 6)) v1) 8 (Int32.toNatClampNeg (fI (pJ u 0 (Int32.toNatClampNeg (fI u 6)) v1) 6)) v3) 6 ((fI (pI (pJ u 0 (Int32.toNatClampNeg (fI u 6)) v1) 8 (Int32.toNatClampNeg (fI (pJ u 0 (Int32.toNatClampNeg (fI u 6)) v1) 6)) v3) 6) + 1)))))
set_option maxRecDepth 100000 in
set_option maxHeartbeats 4000000 in
theorem t_re_add (l : Launch) (D : va_G) (ad : Nat → Nat) (ca : Nat → ClassId) {v1 : Int64} {v3 : Int32} {u : ZS} {post : ZS → Prop} (h : w_re_add v1 v3 u post) : zV l y_re_add (Cond.code y_re_add c_re_add 4 none :: zG) { frames := 1, cells := 0, slots := 0, locals := 12 } D (cT ca) zNs (cW ad ca) [.ref (ad 4), .long v1, .int v3] u post := by
  refine zV_of (cc := c_re_add) (maxL := 4) (by decide) (Nat.le_of_ble_eq_true rfl) ?_
  intro p e s m args below meth c ls A cx hI hl
  have cx0 := cx
  obtain ⟨hx, hb, hml, hown, hts, hN, hK, hr, hlk, hfr, hlc⟩ := cx
  have hl : lv_has ls 4 [(0, .ref (ad 4)), (1, .long v1), (3, .int v3)] := hl
  unfold w_re_add at h
  refine lv_aload_n hx hb d_re_add_0 rfl (lv_at hl 0 rfl) ?_
  refine cg_Results_count hx hb hts hown hK hI (hts _ q_140) d_re_add_1 ?_
  refine lv_bipush (v := 12) hx hb d_re_add_4 zc_bipush_12 ?_
  refine lv_icmp_ge hx hb d_re_add_6 rfl (fun hc => ?_) (fun hc => ?_)
  · have h := h.1 hc
    exact k_re_add_39 cx0  hI (lv_sub hl [] rfl) h
  · have h := h.2 hc
    refine lv_aload_n hx hb d_re_add_9 rfl (lv_at hl 0 rfl) ?_
    refine cg_Results_numbers hx hb hts hown hK hI (hts _ q_137) d_re_add_10 ?_
    refine lv_aload_n hx hb d_re_add_13 rfl (lv_at hl 0 rfl) ?_
    refine cg_Results_count hx hb hts hown hK hI (hts _ q_140) d_re_add_14 ?_
    refine lv_lload_n hx hb d_re_add_17 rfl (lv_at hl 1 rfl) ?_
    obtain ⟨hi, h⟩ := h
    refine cs_numbers hx hb hK hI hi d_re_add_18 ?_
    intro H locs hI
    refine lv_aload_n hx hb d_re_add_19 rfl (lv_at hl 0 rfl) ?_
    refine cg_Results_scores hx hb hts hown hK hI (hts _ q_138) d_re_add_20 ?_
    refine lv_aload_n hx hb d_re_add_23 rfl (lv_at hl 0 rfl) ?_
    refine cg_Results_count hx hb hts hown hK hI (hts _ q_140) d_re_add_24 ?_
    refine lv_iload_n hx hb d_re_add_27 rfl (lv_at hl 2 rfl) ?_
    obtain ⟨hi, h⟩ := h
    refine cs_scores hx hb hK hI hi d_re_add_28 ?_
    intro H locs hI
    refine lv_aload_n hx hb d_re_add_29 rfl (lv_at hl 0 rfl) ?_
    refine lv_dup hx hb d_re_add_30 rfl ?_
    refine cg_Results_count hx hb hts hown hK hI (hts _ q_140) d_re_add_31 ?_
    refine lv_iconst (v := 1) hx hb d_re_add_34 zc_iconst_1 ?_
    refine lv_iadd hx hb d_re_add_35 ?_
    refine cp_Results_count hx hb hts hown hK hI (hts _ q_140) d_re_add_36 ?_
    intro H locs hI
    exact k_re_add_39 cx0  hI (lv_sub hl [] rfl) h
def b_re_worthAgainst_17  (post : Int32 → ZS → Prop) (s0 : Int32) (u : ZS) : Prop := post s0 u
set_option maxRecDepth 100000 in
set_option maxHeartbeats 4000000 in
theorem k_re_worthAgainst_17 {p : Program} {l : Launch} {e : Env} {R : Room} {s : State} {m : MethodId} {args : Array Value} {below : List Frame} {meth : Method} {c : Code} {D : va_G} {A : Nat → Prop} {ad : Nat → Nat} {ca : Nat → ClassId}  {post : Int32 → ZS → Prop} (cx : zx p R s m args meth c c_re_worthAgainst 2 1 12 "ShortBridge$Results" (some .int) zG zNs D (cT ca)) {s0 : Int32} {u : ZS} {H : Heap} {locs : List Loc} {ls : Array Slot} (hI : zw D A s.heap (cW ad ca u) H locs) (hl : lv_has ls 2 []) (h : b_re_worthAgainst_17 post s0 u) : W p l e R s m args below meth c H locs 0 0 (MQ below (va_Qi post (zE D (cT ca) (cW ad ca) A) A) args s 0 0 A) (F0 m 17 ls [.int s0]) := by
  have cx0 := cx
  obtain ⟨hx, hb, hml, hown, hts, hN, hK, hr, hlk, hfr, hlc⟩ := cx
  unfold b_re_worthAgainst_17 at h
  exact zret_i hx hb hr hlk hK hI h d_re_worthAgainst_17
def w_re_worthAgainst (v0 : Int32) (v1 : Int32) (u : ZS) (post : Int32 → ZS → Prop) : Prop := (¬ v0 = v1 → (v0 ≤ v1 → b_re_worthAgainst_17 post 0 u) ∧ (¬ (v0 ≤ v1) → b_re_worthAgainst_17 post 2 u)) ∧ (v0 = v1 → post 1 u)
set_option maxRecDepth 100000 in
set_option maxHeartbeats 4000000 in
theorem t_re_worthAgainst (l : Launch) (D : va_G) (ad : Nat → Nat) (ca : Nat → ClassId) {v0 : Int32} {v1 : Int32} {u : ZS} {post : Int32 → ZS → Prop} (h : w_re_worthAgainst v0 v1 u post) : zI l y_re_worthAgainst (Cond.code y_re_worthAgainst c_re_worthAgainst 2 (some .int) :: zG) { frames := 1, cells := 0, slots := 0, locals := 12 } D (cT ca) zNs (cW ad ca) [.int v0, .int v1] u post := by
  refine zI_of (cc := c_re_worthAgainst) (maxL := 2) (ret := (some .int)) (by decide) (Nat.le_of_ble_eq_true rfl) ?_
  intro p e s m args below meth c ls A cx hI hl
  have cx0 := cx
  obtain ⟨hx, hb, hml, hown, hts, hN, hK, hr, hlk, hfr, hlc⟩ := cx
  have hl : lv_has ls 2 [(0, .int v0), (1, .int v1)] := hl
  unfold w_re_worthAgainst at h
  refine lv_iload_n hx hb d_re_worthAgainst_0 rfl (lv_at hl 0 rfl) ?_
  refine lv_iload_n hx hb d_re_worthAgainst_1 rfl (lv_at hl 1 rfl) ?_
  refine lv_icmp_ne hx hb d_re_worthAgainst_2 rfl (fun hc => ?_) (fun hc => ?_)
  · have h := h.1 hc
    refine lv_iload_n hx hb d_re_worthAgainst_7 rfl (lv_at hl 0 rfl) ?_
    refine lv_iload_n hx hb d_re_worthAgainst_8 rfl (lv_at hl 1 rfl) ?_
    refine lv_icmp_le hx hb d_re_worthAgainst_9 rfl (fun hc => ?_) (fun hc => ?_)
    · have h := h.1 hc
      refine lv_iconst (v := 0) hx hb d_re_worthAgainst_16 zc_iconst_0 ?_
      exact k_re_worthAgainst_17 cx0  hI (lv_sub hl [] rfl) h
    · have h := h.2 hc
      refine lv_iconst (v := 2) hx hb d_re_worthAgainst_12 zc_iconst_2 ?_
      refine lv_goto hx hb d_re_worthAgainst_13 rfl ?_
      exact k_re_worthAgainst_17 cx0  hI (lv_sub hl [] rfl) h
  · have h := h.2 hc
    refine lv_iconst (v := 1) hx hb d_re_worthAgainst_5 zc_iconst_1 ?_
    exact zret_i hx hb hr hlk hK hI h d_re_worthAgainst_6
def b_re_compare_51 (r4 : Int32 → Int32 → Int32 → ZS → Prop) (post : Int32 → ZS → Prop) (v1 : Int32) (v2 : Int32) (v3 : Int32) (u : ZS) : Prop := r4 v1 v2 (v3 + 1) u
set_option maxRecDepth 100000 in
set_option maxHeartbeats 4000000 in
theorem k_re_compare_51 {p : Program} {l : Launch} {e : Env} {R : Room} {s : State} {m : MethodId} {args : Array Value} {below : List Frame} {meth : Method} {c : Code} {D : va_G} {A : Nat → Prop} {ad : Nat → Nat} {ca : Nat → ClassId} {r4 : Int32 → Int32 → Int32 → ZS → Prop} {post : Int32 → ZS → Prop} (cx : zx p R s m args meth c c_re_compare 4 2 33 "ShortBridge$Results" (some .int) zG zNs D (cT ca)) (hk4 : ∀ (v1 : Int32) (v2 : Int32) (v3 : Int32) (u : ZS) (H : Heap) (locs : List Loc) (ls : Array Slot), zw D A s.heap (cW ad ca u) H locs → lv_has ls 4 [(0, .ref (ad 4)), (1, .int v1), (2, .int v2), (3, .int v3)] → r4 v1 v2 v3 u → W p l e R s m args below meth c H locs 0 0 (MQ below (va_Qi post (zE D (cT ca) (cW ad ca) A) A) args s 0 0 A) (F0 m 4 ls [])) {v1 : Int32} {v2 : Int32} {v3 : Int32} {u : ZS} {H : Heap} {locs : List Loc} {ls : Array Slot} (hI : zw D A s.heap (cW ad ca u) H locs) (hl : lv_has ls 4 [(0, .ref (ad 4)), (1, .int v1), (2, .int v2), (3, .int v3)]) (h : b_re_compare_51 r4 post v1 v2 v3 u) : W p l e R s m args below meth c H locs 0 0 (MQ below (va_Qi post (zE D (cT ca) (cW ad ca) A) A) args s 0 0 A) (F0 m 51 ls []) := by
  have cx0 := cx
  obtain ⟨hx, hb, hml, hown, hts, hN, hK, hr, hlk, hfr, hlc⟩ := cx
  unfold b_re_compare_51 at h
  refine lv_iinc (k := 3) (v := (v3 + 1)) hx hb d_re_compare_51 hl rfl (zi_1 _) (by decide) rfl ?_
  intro ls hl
  have hl : lv_has ls 4 [(3, .int (v3 + 1)), (0, .ref (ad 4)), (1, .int v1), (2, .int v2)] := hl
  refine lv_goto hx hb d_re_compare_54 rfl ?_
  exact hk4 _ _ _ _ _ _ _ hI (lv_sub hl [1, 2, 3, 0] rfl) h
def b_re_compare_4  (post : Int32 → ZS → Prop) : Nat → Int32 → Int32 → Int32 → ZS → Prop
  | 0, _, _, _, _ => False
  | n + 1, v1, v2, v3, u => ((fI u 6) ≤ v3 → post v2 u) ∧ (¬ ((fI u 6) ≤ v3) → (v3 = v1 → b_re_compare_51 (b_re_compare_4 post n) post v1 v2 v3 u) ∧ (¬ (v3 = v1) → vp_in v3 12 ∧ (vp_in v1 12 ∧ ((¬ (lg_cmp (aJ u 0 (Int32.toNatClampNeg v3)) (aJ u 0 (Int32.toNatClampNeg v1))) = 0 → b_re_compare_51 (b_re_compare_4 post n) post v1 v2 v3 u) ∧ ((lg_cmp (aJ u 0 (Int32.toNatClampNeg v3)) (aJ u 0 (Int32.toNatClampNeg v1))) = 0 → vp_in v1 12 ∧ (vp_in v3 12 ∧ (w_re_worthAgainst (aI u 8 (Int32.toNatClampNeg v1)) (aI u 8 (Int32.toNatClampNeg v3)) u (fun r1 u2 => b_re_compare_51 (b_re_compare_4 post n) post v1 (v2 + r1) v3 u2))))))))
set_option maxRecDepth 100000 in
set_option maxHeartbeats 4000000 in
theorem k_re_compare_4 {p : Program} {l : Launch} {e : Env} {R : Room} {s : State} {m : MethodId} {args : Array Value} {below : List Frame} {meth : Method} {c : Code} {D : va_G} {A : Nat → Prop} {ad : Nat → Nat} {ca : Nat → ClassId}  {post : Int32 → ZS → Prop} (cx : zx p R s m args meth c c_re_compare 4 2 33 "ShortBridge$Results" (some .int) zG zNs D (cT ca)) : ∀ (n : Nat) (v1 : Int32) (v2 : Int32) (v3 : Int32) (u : ZS) (H : Heap) (locs : List Loc) (ls : Array Slot), zw D A s.heap (cW ad ca u) H locs → lv_has ls 4 [(0, .ref (ad 4)), (1, .int v1), (2, .int v2), (3, .int v3)] → b_re_compare_4 post n v1 v2 v3 u → W p l e R s m args below meth c H locs 0 0 (MQ below (va_Qi post (zE D (cT ca) (cW ad ca) A) A) args s 0 0 A) (F0 m 4 ls []) := by
  have cx0 := cx
  obtain ⟨hx, hb, hml, hown, hts, hN, hK, hr, hlk, hfr, hlc⟩ := cx
  intro n
  induction n with
  | zero => intro v1 v2 v3 u H locs ls hI hl h; exact (h : False).elim
  | succ n ih =>
    intro v1 v2 v3 u H locs ls hI hl h
    unfold b_re_compare_4 at h
    refine lv_iload_n hx hb d_re_compare_4 rfl (lv_at hl 3 rfl) ?_
    refine lv_aload_n hx hb d_re_compare_5 rfl (lv_at hl 0 rfl) ?_
    refine cg_Results_count hx hb hts hown hK hI (hts _ q_140) d_re_compare_6 ?_
    refine lv_icmp_ge hx hb d_re_compare_9 rfl (fun hc => ?_) (fun hc => ?_)
    · have h := h.1 hc
      refine lv_iload_n hx hb d_re_compare_57 rfl (lv_at hl 2 rfl) ?_
      exact zret_i hx hb hr hlk hK hI h d_re_compare_58
    · have h := h.2 hc
      refine lv_iload_n hx hb d_re_compare_12 rfl (lv_at hl 3 rfl) ?_
      refine lv_iload_n hx hb d_re_compare_13 rfl (lv_at hl 1 rfl) ?_
      refine lv_icmp_eq hx hb d_re_compare_14 rfl (fun hc => ?_) (fun hc => ?_)
      · have h := h.1 hc
        exact k_re_compare_51 cx0 ih hI (lv_sub hl [0, 1, 2, 3] rfl) h
      · have h := h.2 hc
        refine lv_aload_n hx hb d_re_compare_17 rfl (lv_at hl 0 rfl) ?_
        refine cg_Results_numbers hx hb hts hown hK hI (hts _ q_137) d_re_compare_18 ?_
        refine lv_iload_n hx hb d_re_compare_21 rfl (lv_at hl 3 rfl) ?_
        obtain ⟨hi, h⟩ := h
        refine ca_numbers hx hb hK hI hi d_re_compare_22 ?_
        refine lv_aload_n hx hb d_re_compare_23 rfl (lv_at hl 0 rfl) ?_
        refine cg_Results_numbers hx hb hts hown hK hI (hts _ q_137) d_re_compare_24 ?_
        refine lv_iload_n hx hb d_re_compare_27 rfl (lv_at hl 1 rfl) ?_
        obtain ⟨hi, h⟩ := h
        refine ca_numbers hx hb hK hI hi d_re_compare_28 ?_
        refine W.lcmp hx hb d_re_compare_29 ?_
        refine lv_if_ne hx hb d_re_compare_30 rfl (fun hc => ?_) (fun hc => ?_)
        · have h := h.1 hc
          exact k_re_compare_51 cx0 ih hI (lv_sub hl [0, 1, 2, 3] rfl) h
        · have h := h.2 hc
          refine lv_iload_n hx hb d_re_compare_33 rfl (lv_at hl 2 rfl) ?_
          refine lv_aload_n hx hb d_re_compare_34 rfl (lv_at hl 0 rfl) ?_
          refine cg_Results_scores hx hb hts hown hK hI (hts _ q_138) d_re_compare_35 ?_
          refine lv_iload_n hx hb d_re_compare_38 rfl (lv_at hl 1 rfl) ?_
          obtain ⟨hi, h⟩ := h
          refine ca_scores hx hb hK hI hi d_re_compare_39 ?_
          refine lv_aload_n hx hb d_re_compare_40 rfl (lv_at hl 0 rfl) ?_
          refine cg_Results_scores hx hb hts hown hK hI (hts _ q_138) d_re_compare_41 ?_
          refine lv_iload_n hx hb d_re_compare_44 rfl (lv_at hl 3 rfl) ?_
          obtain ⟨hi, h⟩ := h
          refine ca_scores hx hb hK hI hi d_re_compare_45 ?_
          refine zr_i (va_runS (As := [.int (aI u 8 (Int32.toNatClampNeg v1)), .int (aI u 8 (Int32.toNatClampNeg v3))]) (rest := [.int v2]) ⟨hx, hb, hml, hown, hts⟩ (t_re_worthAgainst l D ad ca h _) (va_cwS 2 hts (zg_S q_645 q_646 q_43 q_647) rfl rfl rfl hd_re_worthAgainst ⟨Nat.le_trans (by decide) hfr, Nat.le_trans (by decide) hlc⟩) (z_preS zNs_ok hK hN hI _) rfl rfl hl.1 rfl (lv_room (Nat.le_of_ble_eq_true rfl)) d_re_compare_46 ⟨Nat.zero_le _, Nat.zero_le _⟩) hI ?_
          intro r1 u2 H locs h hI
          refine lv_iadd hx hb d_re_compare_49 ?_
          refine lv_istore_n hx hb d_re_compare_50 rfl hl (by decide) rfl ?_
          intro ls hl
          have hl : lv_has ls 4 [(2, .int (v2 + r1)), (0, .ref (ad 4)), (1, .int v1), (3, .int v3)] := hl
          exact k_re_compare_51 cx0 ih hI (lv_sub hl [1, 2, 0, 3] rfl) h
def w_re_compare (v1 : Int32) (u : ZS) (post : Int32 → ZS → Prop) : Prop := ∃ n0, b_re_compare_4 post n0 v1 0 0 u
set_option maxRecDepth 100000 in
set_option maxHeartbeats 4000000 in
theorem t_re_compare (l : Launch) (D : va_G) (ad : Nat → Nat) (ca : Nat → ClassId) {v1 : Int32} {u : ZS} {post : Int32 → ZS → Prop} (h : w_re_compare v1 u post) : zI l y_re_compare (Cond.code y_re_compare c_re_compare 4 (some .int) :: zG) { frames := 2, cells := 0, slots := 0, locals := 33 } D (cT ca) zNs (cW ad ca) [.ref (ad 4), .int v1] u post := by
  refine zI_of (cc := c_re_compare) (maxL := 4) (ret := (some .int)) (by decide) (Nat.le_of_ble_eq_true rfl) ?_
  intro p e s m args below meth c ls A cx hI hl
  have cx0 := cx
  obtain ⟨hx, hb, hml, hown, hts, hN, hK, hr, hlk, hfr, hlc⟩ := cx
  have hl : lv_has ls 4 [(0, .ref (ad 4)), (1, .int v1)] := hl
  unfold w_re_compare at h
  refine lv_iconst (v := 0) hx hb d_re_compare_0 zc_iconst_0 ?_
  refine lv_istore_n hx hb d_re_compare_1 rfl hl (by decide) rfl ?_
  intro ls hl
  have hl : lv_has ls 4 [(2, .int 0), (0, .ref (ad 4)), (1, .int v1)] := hl
  refine lv_iconst (v := 0) hx hb d_re_compare_2 zc_iconst_0 ?_
  refine lv_istore_n hx hb d_re_compare_3 rfl hl (by decide) rfl ?_
  intro ls hl
  have hl : lv_has ls 4 [(3, .int 0), (2, .int 0), (0, .ref (ad 4)), (1, .int v1)] := hl
  obtain ⟨n0, h⟩ := h
  exact k_re_compare_4 cx0  n0 _ _ _ _ _ _ _ hI (lv_sub hl [2, 3, 1, 0] rfl) h
