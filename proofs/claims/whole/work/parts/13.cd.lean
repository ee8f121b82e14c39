def w_x_begin (v1 : Int32) (v2 : Int32) (u : ZS) (post : ZS → Prop) : Prop := w_au_begin v1 (sI (sI u 0 1) 1 v2) (fun u2 => w_ha_take  u2 (fun u4 => post u4))
set_option maxRecDepth 100000 in
set_option maxHeartbeats 4000000 in
theorem t_x_begin (l : Launch) (D : va_G) (ad : Nat → Nat) (ca : Nat → ClassId) {v1 : Int32} {v2 : Int32} {u : ZS} {post : ZS → Prop} (h : w_x_begin v1 v2 u post) : zV l y_x_begin (Cond.code y_x_begin c_x_begin 3 none :: zG) { frames := 3, cells := 0, slots := 0, locals := 58 } D (cT ca) zNs (cW ad ca) [.ref (ad 0), .int v1, .int v2] u post := by
  refine zV_of (cc := c_x_begin) (maxL := 3) (by decide) (Nat.le_of_ble_eq_true rfl) ?_
  intro p e s m args below meth c ls A cx hI hl
  have cx0 := cx
  obtain ⟨hx, hb, hml, hown, hts, hN, hK, hr, hlk, hfr, hlc⟩ := cx
  have hl : lv_has ls 3 [(0, .ref (ad 0)), (1, .int v1), (2, .int v2)] := hl
  unfold w_x_begin at h
  refine lv_aload_n hx hb d_x_begin_0 rfl (lv_at hl 0 rfl) ?_
  refine lv_iconst (v := 1) hx hb d_x_begin_1 zc_iconst_1 ?_
  refine cp_X_hasBoard hx hb hts hown hK hI (hts _ q_154) (Or.inr rfl) d_x_begin_2 ?_
  intro H locs hI
  refine lv_aload_n hx hb d_x_begin_5 rfl (lv_at hl 0 rfl) ?_
  refine lv_iload_n hx hb d_x_begin_6 rfl (lv_at hl 2 rfl) ?_
  refine cp_X_vulnerability hx hb hts hown hK hI (hts _ q_155) d_x_begin_7 ?_
  intro H locs hI
  refine lv_aload_n hx hb d_x_begin_10 rfl (lv_at hl 0 rfl) ?_
  refine cg_X_auction hx hb hts hown hK hI (hts _ q_151) d_x_begin_11 ?_
  refine lv_iload_n hx hb d_x_begin_14 rfl (lv_at hl 1 rfl) ?_
  refine zr_v (va_runV (As := [.int v1]) (rest := []) ⟨hx, hb, hml, hown, hts⟩ (t_au_begin l D ad ca h _) (cwV 1 hts (zg_V q_199 q_200 q_201 q_41 q_202) rfl rfl rfl ⟨rfl, hd_au_begin⟩ ⟨Nat.le_trans (by decide) hfr, Nat.le_trans (by decide) hlc⟩) (z_preV zNs_ok hK hN hI 2 2 rfl rfl _) rfl rfl hl.1 rfl (lv_room (Nat.le_of_ble_eq_true rfl)) d_x_begin_15 ⟨Nat.zero_le _, Nat.zero_le _⟩) hI ?_
  intro u2 H locs h hI
  refine lv_aload_n hx hb d_x_begin_18 rfl (lv_at hl 0 rfl) ?_
  refine cg_X_hands hx hb hts hown hK hI (hts _ q_152) d_x_begin_19 ?_
  refine lv_aload_n hx hb d_x_begin_22 rfl (lv_at hl 0 rfl) ?_
  refine cg_X_dealt hx hb hts hown hK hI (hts _ q_150) d_x_begin_23 ?_
  refine zr_v (va_runV (As := [.ref (ad 1)]) (rest := []) ⟨hx, hb, hml, hown, hts⟩ (t_ha_take l D ad ca h _) (cwV 1 hts (zg_V q_203 q_204 q_205 q_42 q_206) rfl rfl rfl ⟨rfl, hd_ha_take⟩ ⟨Nat.le_trans (by decide) hfr, Nat.le_trans (by decide) hlc⟩) (z_preV zNs_ok hK hN hI 3 3 rfl rfl _) rfl rfl hl.1 rfl (lv_room (Nat.le_of_ble_eq_true rfl)) d_x_begin_26 ⟨Nat.zero_le _, Nat.zero_le _⟩) hI ?_
  intro u4 H locs h hI
  exact zret_v hx hb hr hlk hK hI h d_x_begin_29
def b_x_deal_16  (post : Int32 → ZS → Prop)  (u : ZS) : Prop := post 0 u
set_option maxRecDepth 100000 in
set_option maxHeartbeats 4000000 in
theorem k_x_deal_16 {p : Program} {l : Launch} {e : Env} {R : Room} {s : State} {m : MethodId} {args : Array Value} {below : List Frame} {meth : Method} {c : Code} {D : va_G} {A : Nat → Prop} {ad : Nat → Nat} {ca : Nat → ClassId}  {post : Int32 → ZS → Prop} (cx : zx p R s m args meth c c_x_deal 5 4 80 "ShortBridge" (some .boolean) zG zNs D (cT ca)) {u : ZS} {H : Heap} {locs : List Loc} {ls : Array Slot} (hI : zw D A s.heap (cW ad ca u) H locs) (hl : lv_has ls 5 []) (h : b_x_deal_16 post  u) : W p l e R s m args below meth c H locs 0 0 (MQ below (va_Qi post (zE D (cT ca) (cW ad ca) A) A) args s 0 0 A) (F0 m 16 ls []) := by
  have cx0 := cx
  obtain ⟨hx, hb, hml, hown, hts, hN, hK, hr, hlk, hfr, hlc⟩ := cx
  unfold b_x_deal_16 at h
  refine lv_iconst (v := 0) hx hb d_x_deal_16 zc_iconst_0 ?_
  exact zret_z hx hb hr hlk hK hI (Or.inl rfl) h d_x_deal_17
def w_x_deal (v1 : Int64) (v3 : Int32) (v4 : Int32) (u : ZS) (post : Int32 → ZS → Prop) : Prop := w_de_isNumber v1 u (fun r1 u2 => (r1 = 0 → b_x_deal_16 post u2) ∧ (¬ (r1 = 0) → w_x_canBegin v3 v4 u2 (fun r3 u4 => (¬ r3 = 0 → w_de_takeNumber v1 u4 (fun u6 => w_x_begin v3 v4 u6 (fun u8 => post 1 u8))) ∧ (r3 = 0 → b_x_deal_16 post u4))))
set_option maxRecDepth 100000 in
set_option maxHeartbeats 4000000 in
theorem t_x_deal (l : Launch) (D : va_G) (ad : Nat → Nat) (ca : Nat → ClassId) {v1 : Int64} {v3 : Int32} {v4 : Int32} {u : ZS} {post : Int32 → ZS → Prop} (h : w_x_deal v1 v3 v4 u post) : zI l y_x_deal (Cond.code y_x_deal c_x_deal 5 (some .boolean) :: zG) { frames := 4, cells := 0, slots := 0, locals := 80 } D (cT ca) zNs (cW ad ca) [.ref (ad 0), .long v1, .int v3, .int v4] u post := by
  refine zI_of (cc := c_x_deal) (maxL := 5) (ret := (some .boolean)) (by decide) (Nat.le_of_ble_eq_true rfl) ?_
  intro p e s m args below meth c ls A cx hI hl
  have cx0 := cx
  obtain ⟨hx, hb, hml, hown, hts, hN, hK, hr, hlk, hfr, hlc⟩ := cx
  have hl : lv_has ls 5 [(0, .ref (ad 0)), (1, .long v1), (3, .int v3), (4, .int v4)] := hl
  unfold w_x_deal at h
  refine lv_lload_n hx hb d_x_deal_0 rfl (lv_at hl 1 rfl) ?_
  refine zr_i (va_runS (As := [.long v1]) (rest := []) ⟨hx, hb, hml, hown, hts⟩ (t_de_isNumber l D ad ca h _) (va_cwS 1 hts (zg_S q_173 q_174 q_40 q_175) rfl rfl rfl hd_de_isNumber ⟨Nat.le_trans (by decide) hfr, Nat.le_trans (by decide) hlc⟩) (z_preS zNs_ok hK hN hI _) rfl rfl hl.1 rfl (lv_room (Nat.le_of_ble_eq_true rfl)) d_x_deal_1 ⟨Nat.zero_le _, Nat.zero_le _⟩) hI ?_
  intro r1 u2 H locs h hI
  refine lv_if_eq hx hb d_x_deal_4 rfl (fun hc => ?_) (fun hc => ?_)
  · have h := h.1 hc
    exact k_x_deal_16 cx0  hI (lv_sub hl [] rfl) h
  · have h := h.2 hc
    refine lv_iload_n hx hb d_x_deal_7 rfl (lv_at hl 2 rfl) ?_
    refine lv_iload hx hb d_x_deal_8 (lv_at hl 3 rfl) ?_
    refine zr_i (va_runS (As := [.int v3, .int v4]) (rest := []) ⟨hx, hb, hml, hown, hts⟩ (t_x_canBegin l D ad ca h _) (va_cwS 2 hts (zg_S q_177 q_178 q_39 q_179) rfl rfl rfl hd_x_canBegin ⟨Nat.le_trans (by decide) hfr, Nat.le_trans (by decide) hlc⟩) (z_preS zNs_ok hK hN hI _) rfl rfl hl.1 rfl (lv_room (Nat.le_of_ble_eq_true rfl)) d_x_deal_10 ⟨Nat.zero_le _, Nat.zero_le _⟩) hI ?_
    intro r3 u4 H locs h hI
    refine lv_if_ne hx hb d_x_deal_13 rfl (fun hc => ?_) (fun hc => ?_)
    · have h := h.1 hc
      refine lv_aload_n hx hb d_x_deal_18 rfl (lv_at hl 0 rfl) ?_
      refine cg_X_dealt hx hb hts hown hK hI (hts _ q_150) d_x_deal_19 ?_
      refine lv_lload_n hx hb d_x_deal_22 rfl (lv_at hl 1 rfl) ?_
      refine zr_v (va_runV (As := [.long v1]) (rest := []) ⟨hx, hb, hml, hown, hts⟩ (t_de_takeNumber l D ad ca h _) (cwV 1 hts (zg_V q_183 q_184 q_185 q_40 q_186) rfl rfl rfl ⟨rfl, hd_de_takeNumber⟩ ⟨Nat.le_trans (by decide) hfr, Nat.le_trans (by decide) hlc⟩) (z_preV zNs_ok hK hN hI 1 1 rfl rfl _) rfl rfl hl.1 rfl (lv_room (Nat.le_of_ble_eq_true rfl)) d_x_deal_23 ⟨Nat.zero_le _, Nat.zero_le _⟩) hI ?_
      intro u6 H locs h hI
      refine lv_aload_n hx hb d_x_deal_26 rfl (lv_at hl 0 rfl) ?_
      refine lv_iload_n hx hb d_x_deal_27 rfl (lv_at hl 2 rfl) ?_
      refine lv_iload hx hb d_x_deal_28 (lv_at hl 3 rfl) ?_
      refine zr_v (va_runV (As := [.int v3, .int v4]) (rest := []) ⟨hx, hb, hml, hown, hts⟩ (t_x_begin l D ad ca h _) (cwV 2 hts (zg_V q_195 q_197 q_2 q_39 q_198) rfl rfl rfl ⟨rfl, hd_x_begin⟩ ⟨Nat.le_trans (by decide) hfr, Nat.le_trans (by decide) hlc⟩) (z_preV zNs_ok hK hN hI 0 0 rfl rfl _) rfl rfl hl.1 rfl (lv_room (Nat.le_of_ble_eq_true rfl)) d_x_deal_30 ⟨Nat.zero_le _, Nat.zero_le _⟩) hI ?_
      intro u8 H locs h hI
      refine lv_iconst (v := 1) hx hb d_x_deal_33 zc_iconst_1 ?_
      exact zret_z hx hb hr hlk hK hI (Or.inr rfl) h d_x_deal_34
    · have h := h.2 hc
      exact k_x_deal_16 cx0  hI (lv_sub hl [] rfl) h
def w_x_shuffle (v1 : Int64) (v3 : Int32) (v4 : Int32) (u : ZS) (post : Int64 → ZS → Prop) : Prop := w_x_canBegin v3 v4 u (fun r1 u2 => (¬ r1 = 0 → w_de_takeSeed v1 u2 (fun u4 => w_x_begin v3 v4 u4 (fun u6 => post (fJ u6 0) u6))) ∧ (r1 = 0 → post (-1) u2))
set_option maxRecDepth 100000 in
set_option maxHeartbeats 4000000 in
theorem t_x_shuffle (l : Launch) (D : va_G) (ad : Nat → Nat) (ca : Nat → ClassId) {v1 : Int64} {v3 : Int32} {v4 : Int32} {u : ZS} {post : Int64 → ZS → Prop} (h : w_x_shuffle v1 v3 v4 u post) : zJ l y_x_shuffle (Cond.code y_x_shuffle c_x_shuffle 5 (some .long) :: zG) { frames := 4, cells := 0, slots := 0, locals := 86 } D (cT ca) zNs (cW ad ca) [.ref (ad 0), .long v1, .int v3, .int v4] u post := by
  refine zJ_of (cc := c_x_shuffle) (maxL := 5) (ret := (some .long)) (by decide) (Nat.le_of_ble_eq_true rfl) ?_
  intro p e s m args below meth c ls A cx hI hl
  have cx0 := cx
  obtain ⟨hx, hb, hml, hown, hts, hN, hK, hr, hlk, hfr, hlc⟩ := cx
  have hl : lv_has ls 5 [(0, .ref (ad 0)), (1, .long v1), (3, .int v3), (4, .int v4)] := hl
  unfold w_x_shuffle at h
  refine lv_iload_n hx hb d_x_shuffle_0 rfl (lv_at hl 2 rfl) ?_
  refine lv_iload hx hb d_x_shuffle_1 (lv_at hl 3 rfl) ?_
  refine zr_i (va_runS (As := [.int v3, .int v4]) (rest := []) ⟨hx, hb, hml, hown, hts⟩ (t_x_canBegin l D ad ca h _) (va_cwS 2 hts (zg_S q_177 q_178 q_39 q_179) rfl rfl rfl hd_x_canBegin ⟨Nat.le_trans (by decide) hfr, Nat.le_trans (by decide) hlc⟩) (z_preS zNs_ok hK hN hI _) rfl rfl hl.1 rfl (lv_room (Nat.le_of_ble_eq_true rfl)) d_x_shuffle_3 ⟨Nat.zero_le _, Nat.zero_le _⟩) hI ?_
  intro r1 u2 H locs h hI
  refine lv_if_ne hx hb d_x_shuffle_6 rfl (fun hc => ?_) (fun hc => ?_)
  · have h := h.1 hc
    refine lv_aload_n hx hb d_x_shuffle_13 rfl (lv_at hl 0 rfl) ?_
    refine cg_X_dealt hx hb hts hown hK hI (hts _ q_150) d_x_shuffle_14 ?_
    refine lv_lload_n hx hb d_x_shuffle_17 rfl (lv_at hl 1 rfl) ?_
    refine zr_v (va_runV (As := [.long v1]) (rest := []) ⟨hx, hb, hml, hown, hts⟩ (t_de_takeSeed l D ad ca h _) (cwV 1 hts (zg_V q_216 q_217 q_218 q_40 q_219) rfl rfl rfl ⟨rfl, hd_de_takeSeed⟩ ⟨Nat.le_trans (by decide) hfr, Nat.le_trans (by decide) hlc⟩) (z_preV zNs_ok hK hN hI 1 1 rfl rfl _) rfl rfl hl.1 rfl (lv_room (Nat.le_of_ble_eq_true rfl)) d_x_shuffle_18 ⟨Nat.zero_le _, Nat.zero_le _⟩) hI ?_
    intro u4 H locs h hI
    refine lv_aload_n hx hb d_x_shuffle_21 rfl (lv_at hl 0 rfl) ?_
    refine lv_iload_n hx hb d_x_shuffle_22 rfl (lv_at hl 2 rfl) ?_
    refine lv_iload hx hb d_x_shuffle_23 (lv_at hl 3 rfl) ?_
    refine zr_v (va_runV (As := [.int v3, .int v4]) (rest := []) ⟨hx, hb, hml, hown, hts⟩ (t_x_begin l D ad ca h _) (cwV 2 hts (zg_V q_195 q_197 q_2 q_39 q_198) rfl rfl rfl ⟨rfl, hd_x_begin⟩ ⟨Nat.le_trans (by decide) hfr, Nat.le_trans (by decide) hlc⟩) (z_preV zNs_ok hK hN hI 0 0 rfl rfl _) rfl rfl hl.1 rfl (lv_room (Nat.le_of_ble_eq_true rfl)) d_x_shuffle_25 ⟨Nat.zero_le _, Nat.zero_le _⟩) hI ?_
    intro u6 H locs h hI
    refine lv_aload_n hx hb d_x_shuffle_28 rfl (lv_at hl 0 rfl) ?_
    refine cg_X_dealt hx hb hts hown hK hI (hts _ q_150) d_x_shuffle_29 ?_
    refine cg_Deal_rank_n hx hb hts hown hK hI (va_Nw.use rfl (hN _ nw_2)) d_x_shuffle_32 ?_
    exact zret_l hx hb hr hlk hK hI h d_x_shuffle_35
  · have h := h.2 hc
    refine lv_ldc2 (v := -1) hx hb hown (hts _ q_215) d_x_shuffle_9 ?_
    exact zret_l hx hb hr hlk hK hI h d_x_shuffle_12
def b_x_number_20  (post : Int64 → ZS → Prop) (s0 : Int64) (u : ZS) : Prop := post s0 u
set_option maxRecDepth 100000 in
set_option maxHeartbeats 4000000 in
theorem k_x_number_20 {p : Program} {l : Launch} {e : Env} {R : Room} {s : State} {m : MethodId} {args : Array Value} {below : List Frame} {meth : Method} {c : Code} {D : va_G} {A : Nat → Prop} {ad : Nat → Nat} {ca : Nat → ClassId}  {post : Int64 → ZS → Prop} (cx : zx p R s m args meth c c_x_number 1 1 12 "ShortBridge" (some .long) zG zNs D (cT ca)) {s0 : Int64} {u : ZS} {H : Heap} {locs : List Loc} {ls : Array Slot} (hI : zw D A s.heap (cW ad ca u) H locs) (hl : lv_has ls 1 []) (h : b_x_number_20 post s0 u) : W p l e R s m args below meth c H locs 0 0 (MQ below (va_Ql post (zE D (cT ca) (cW ad ca) A) A) args s 0 0 A) (F0 m 20 ls [.long s0]) := by
  have cx0 := cx
  obtain ⟨hx, hb, hml, hown, hts, hN, hK, hr, hlk, hfr, hlc⟩ := cx
  unfold b_x_number_20 at h
  exact zret_l hx hb hr hlk hK hI h d_x_number_20
def w_x_number  (u : ZS) (post : Int64 → ZS → Prop) : Prop := ((fI u 0) = 0 → b_x_number_20 post (-1) u) ∧ (¬ ((fI u 0) = 0) → b_x_number_20 post (fJ u 0) u)
set_option maxRecDepth 100000 in
set_option maxHeartbeats 4000000 in
theorem t_x_number (l : Launch) (D : va_G) (ad : Nat → Nat) (ca : Nat → ClassId)  {u : ZS} {post : Int64 → ZS → Prop} (h : w_x_number  u post) : zJ l y_x_number (Cond.code y_x_number c_x_number 1 (some .long) :: zG) { frames := 1, cells := 0, slots := 0, locals := 12 } D (cT ca) zNs (cW ad ca) [.ref (ad 0)] u post := by
  refine zJ_of (cc := c_x_number) (maxL := 1) (ret := (some .long)) (by decide) (Nat.le_of_ble_eq_true rfl) ?_
  intro p e s m args below meth c ls A cx hI hl
  have cx0 := cx
  obtain ⟨hx, hb, hml, hown, hts, hN, hK, hr, hlk, hfr, hlc⟩ := cx
  have hl : lv_has ls 1 [(0, .ref (ad 0))] := hl
  unfold w_x_number at h
  refine lv_aload_n hx hb d_x_number_0 rfl (lv_at hl 0 rfl) ?_
  refine cg_X_hasBoard hx hb hts hown hK hI (hts _ q_154) d_x_number_1 ?_
  refine lv_if_eq hx hb d_x_number_4 rfl (fun hc => ?_) (fun hc => ?_)
  · have h := h.1 hc
    refine lv_ldc2 (v := -1) hx hb hown (hts _ q_215) d_x_number_17 ?_
    exact k_x_number_20 cx0  hI (lv_sub hl [] rfl) h
  · have h := h.2 hc
    refine lv_aload_n hx hb d_x_number_7 rfl (lv_at hl 0 rfl) ?_
    refine cg_X_dealt hx hb hts hown hK hI (hts _ q_150) d_x_number_8 ?_
    refine cg_Deal_rank_n hx hb hts hown hK hI (va_Nw.use rfl (hN _ nw_2)) d_x_number_11 ?_
    refine lv_goto hx hb d_x_number_14 rfl ?_
    exact k_x_number_20 cx0  hI (lv_sub hl [] rfl) h
def b_x_phase_47  (post : Int32 → ZS → Prop) (s0 : Int32) (u : ZS) : Prop := post s0 u
set_option maxRecDepth 100000 in
set_option maxHeartbeats 4000000 in
theorem k_x_phase_47 {p : Program} {l : Launch} {e : Env} {R : Room} {s : State} {m : MethodId} {args : Array Value} {below : List Frame} {meth : Method} {c : Code} {D : va_G} {A : Nat → Prop} {ad : Nat → Nat} {ca : Nat → ClassId}  {post : Int32 → ZS → Prop} (cx : zx p R s m args meth c c_x_phase 1 3 56 "ShortBridge" (some .int) zG zNs D (cT ca)) {s0 : Int32} {u : ZS} {H : Heap} {locs : List Loc} {ls : Array Slot} (hI : zw D A s.heap (cW ad ca u) H locs) (hl : lv_has ls 1 []) (h : b_x_phase_47 post s0 u) : W p l e R s m args below meth c H locs 0 0 (MQ below (va_Qi post (zE D (cT ca) (cW ad ca) A) A) args s 0 0 A) (F0 m 47 ls [.int s0]) := by
  have cx0 := cx
  obtain ⟨hx, hb, hml, hown, hts, hN, hK, hr, hlk, hfr, hlc⟩ := cx
  unfold b_x_phase_47 at h
  exact zret_i hx hb hr hlk hK hI h d_x_phase_47
def b_x_phase_42  (post : Int32 → ZS → Prop)  (u : ZS) : Prop := b_x_phase_47 post 3 u
set_option maxRecDepth 100000 in
set_option maxHeartbeats 4000000 in
theorem k_x_phase_42 {p : Program} {l : Launch} {e : Env} {R : Room} {s : State} {m : MethodId} {args : Array Value} {below : List Frame} {meth : Method} {c : Code} {D : va_G} {A : Nat → Prop} {ad : Nat → Nat} {ca : Nat → ClassId}  {post : Int32 → ZS → Prop} (cx : zx p R s m args meth c c_x_phase 1 3 56 "ShortBridge" (some .int) zG zNs D (cT ca)) {u : ZS} {H : Heap} {locs : List Loc} {ls : Array Slot} (hI : zw D A s.heap (cW ad ca u) H locs) (hl : lv_has ls 1 []) (h : b_x_phase_42 post  u) : W p l e R s m args below meth c H locs 0 0 (MQ below (va_Qi post (zE D (cT ca) (cW ad ca) A) A) args s 0 0 A) (F0 m 42 ls []) := by
  have cx0 := cx
  obtain ⟨hx, hb, hml, hown, hts, hN, hK, hr, hlk, hfr, hlc⟩ := cx
  unfold b_x_phase_42 at h
  refine lv_iconst (v := 3) hx hb d_x_phase_42 zc_iconst_3 ?_
  refine lv_goto hx hb d_x_phase_43 rfl ?_
  exact k_x_phase_47 cx0  hI (lv_sub hl [] rfl) h
def w_x_phase  (u : ZS) (post : Int32 → ZS → Prop) : Prop := (¬ (fI u 0) = 0 → w_au_hasEnded  u (fun r1 u2 => (¬ r1 = 0 → w_au_bid  u2 (fun r3 u4 => (r3 = (-1 : Int32) → b_x_phase_42 post u4) ∧ (¬ (r3 = (-1 : Int32)) → w_ha_areEmpty  u4 (fun r5 u6 => (r5 = 0 → b_x_phase_47 post 2 u6) ∧ (¬ (r5 = 0) → b_x_phase_42 post u6))))) ∧ (r1 = 0 → post 1 u2))) ∧ ((fI u 0) = 0 → post 0 u)
set_option maxRecDepth 100000 in
set_option maxHeartbeats 4000000 in
theorem t_x_phase (l : Launch) (D : va_G) (ad : Nat → Nat) (ca : Nat → ClassId)  {u : ZS} {post : Int32 → ZS → Prop} (h : w_x_phase  u post) : zI l y_x_phase (Cond.code y_x_phase c_x_phase 1 (some .int) :: zG) { frames := 3, cells := 0, slots := 0, locals := 56 } D (cT ca) zNs (cW ad ca) [.ref (ad 0)] u post := by
  refine zI_of (cc := c_x_phase) (maxL := 1) (ret := (some .int)) (by decide) (Nat.le_of_ble_eq_true rfl) ?_
  intro p e s m args below meth c ls A cx hI hl
  have cx0 := cx
  obtain ⟨hx, hb, hml, hown, hts, hN, hK, hr, hlk, hfr, hlc⟩ := cx
  have hl : lv_has ls 1 [(0, .ref (ad 0))] := hl
  unfold w_x_phase at h
  refine lv_aload_n hx hb d_x_phase_0 rfl (lv_at hl 0 rfl) ?_
  refine cg_X_hasBoard hx hb hts hown hK hI (hts _ q_154) d_x_phase_1 ?_
  refine lv_if_ne hx hb d_x_phase_4 rfl (fun hc => ?_) (fun hc => ?_)
  · have h := h.1 hc
    refine lv_aload_n hx hb d_x_phase_9 rfl (lv_at hl 0 rfl) ?_
    refine cg_X_auction hx hb hts hown hK hI (hts _ q_151) d_x_phase_10 ?_
    refine zr_i (va_runV (As := []) (rest := []) ⟨hx, hb, hml, hown, hts⟩ (t_au_hasEnded l D ad ca h _) (cwV 0 hts (zg_V q_238 q_239 q_240 q_41 q_241) rfl rfl rfl ⟨rfl, hd_au_hasEnded⟩ ⟨Nat.le_trans (by decide) hfr, Nat.le_trans (by decide) hlc⟩) (z_preV zNs_ok hK hN hI 2 2 rfl rfl _) rfl rfl hl.1 rfl (lv_room (Nat.le_of_ble_eq_true rfl)) d_x_phase_13 ⟨Nat.zero_le _, Nat.zero_le _⟩) hI ?_
    intro r1 u2 H locs h hI
    refine lv_if_ne hx hb d_x_phase_16 rfl (fun hc => ?_) (fun hc => ?_)
    · have h := h.1 hc
      refine lv_aload_n hx hb d_x_phase_21 rfl (lv_at hl 0 rfl) ?_
      refine cg_X_auction hx hb hts hown hK hI (hts _ q_151) d_x_phase_22 ?_
      refine zr_i (va_runV (As := []) (rest := []) ⟨hx, hb, hml, hown, hts⟩ (t_au_bid l D ad ca h _) (cwV 0 hts (zg_V q_246 q_247 q_248 q_41 q_249) rfl rfl rfl ⟨rfl, hd_au_bid⟩ ⟨Nat.le_trans (by decide) hfr, Nat.le_trans (by decide) hlc⟩) (z_preV zNs_ok hK hN hI 2 2 rfl rfl _) rfl rfl hl.1 rfl (lv_room (Nat.le_of_ble_eq_true rfl)) d_x_phase_25 ⟨Nat.zero_le _, Nat.zero_le _⟩) hI ?_
      intro r3 u4 H locs h hI
      refine lv_iconst (v := (-1)) hx hb d_x_phase_28 zc_iconst_m1 ?_
      refine lv_icmp_eq hx hb d_x_phase_29 rfl (fun hc => ?_) (fun hc => ?_)
      · have h := h.1 hc
        exact k_x_phase_42 cx0  hI (lv_sub hl [] rfl) h
      · have h := h.2 hc
        refine lv_aload_n hx hb d_x_phase_32 rfl (lv_at hl 0 rfl) ?_
        refine cg_X_hands hx hb hts hown hK hI (hts _ q_152) d_x_phase_33 ?_
        refine zr_i (va_runV (As := []) (rest := []) ⟨hx, hb, hml, hown, hts⟩ (t_ha_areEmpty l D ad ca h _) (cwV 0 hts (zg_V q_250 q_251 q_252 q_42 q_253) rfl rfl rfl ⟨rfl, hd_ha_areEmpty⟩ ⟨Nat.le_trans (by decide) hfr, Nat.le_trans (by decide) hlc⟩) (z_preV zNs_ok hK hN hI 3 3 rfl rfl _) rfl rfl hl.1 rfl (lv_room (Nat.le_of_ble_eq_true rfl)) d_x_phase_36 ⟨Nat.zero_le _, Nat.zero_le _⟩) hI ?_
        intro r5 u6 H locs h hI
        refine lv_if_eq hx hb d_x_phase_39 rfl (fun hc => ?_) (fun hc => ?_)
        · have h := h.1 hc
          refine lv_iconst (v := 2) hx hb d_x_phase_46 zc_iconst_2 ?_
          exact k_x_phase_47 cx0  hI (lv_sub hl [] rfl) h
        · have h := h.2 hc
          exact k_x_phase_42 cx0  hI (lv_sub hl [] rfl) h
    · have h := h.2 hc
      refine lv_iconst (v := 1) hx hb d_x_phase_19 zc_iconst_1 ?_
      exact zret_i hx hb hr hlk hK hI h d_x_phase_20
  · have h := h.2 hc
    refine lv_iconst (v := 0) hx hb d_x_phase_7 zc_iconst_0 ?_
    exact zret_i hx hb hr hlk hK hI h d_x_phase_8
def w_x_turn  (u : ZS) (post : Int32 → ZS → Prop) : Prop := w_x_phase  u (fun r1 u2 => (r1 = 1 → w_au_caller  u2 (fun r3 u4 => post r3 u4)) ∧ (r1 = 2 → w_ha_player  u2 (fun r5 u6 => post r5 u6)) ∧ (¬ r1 = 1 ∧ ¬ r1 = 2 → post (-1 : Int32) u2))
set_option maxRecDepth 100000 in
set_option maxHeartbeats 4000000 in
theorem t_x_turn (l : Launch) (D : va_G) (ad : Nat → Nat) (ca : Nat → ClassId)  {u : ZS} {post : Int32 → ZS → Prop} (h : w_x_turn  u post) : zI l y_x_turn (Cond.code y_x_turn c_x_turn 1 (some .int) :: zG) { frames := 4, cells := 0, slots := 0, locals := 76 } D (cT ca) zNs (cW ad ca) [.ref (ad 0)] u post := by
  refine zI_of (cc := c_x_turn) (maxL := 1) (ret := (some .int)) (by decide) (Nat.le_of_ble_eq_true rfl) ?_
  intro p e s m args below meth c ls A cx hI hl
  have cx0 := cx
  obtain ⟨hx, hb, hml, hown, hts, hN, hK, hr, hlk, hfr, hlc⟩ := cx
  have hl : lv_has ls 1 [(0, .ref (ad 0))] := hl
  unfold w_x_turn at h
  refine lv_aload_n hx hb d_x_turn_0 rfl (lv_at hl 0 rfl) ?_
  refine zr_i (va_runV (As := []) (rest := []) ⟨hx, hb, hml, hown, hts⟩ (t_x_phase l D ad ca h _) (cwV 0 hts (zg_V q_258 q_235 q_236 q_39 q_237) rfl rfl rfl ⟨rfl, hd_x_phase⟩ ⟨Nat.le_trans (by decide) hfr, Nat.le_trans (by decide) hlc⟩) (z_preV zNs_ok hK hN hI 0 0 rfl rfl _) rfl rfl hl.1 rfl (lv_room (Nat.le_of_ble_eq_true rfl)) d_x_turn_1 ⟨Nat.zero_le _, Nat.zero_le _⟩) hI ?_
  intro r1 u2 H locs h hI
  by_cases hc1 : r1 = 1
  · have h := h.1 hc1
    refine lv_lookup hx hb d_x_turn_4 rfl (by rw [hc1]) rfl ?_
    refine lv_aload_n hx hb d_x_turn_32 rfl (lv_at hl 0 rfl) ?_
    refine cg_X_auction hx hb hts hown hK hI (hts _ q_151) d_x_turn_33 ?_
    refine zr_i (va_runV (As := []) (rest := []) ⟨hx, hb, hml, hown, hts⟩ (t_au_caller l D ad ca h _) (cwV 0 hts (zg_V q_259 q_260 q_261 q_41 q_262) rfl rfl rfl ⟨rfl, hd_au_caller⟩ ⟨Nat.le_trans (by decide) hfr, Nat.le_trans (by decide) hlc⟩) (z_preV zNs_ok hK hN hI 2 2 rfl rfl _) rfl rfl hl.1 rfl (lv_room (Nat.le_of_ble_eq_true rfl)) d_x_turn_36 ⟨Nat.zero_le _, Nat.zero_le _⟩) hI ?_
    intro r3 u4 H locs h hI
    exact zret_i hx hb hr hlk hK hI h d_x_turn_39
  · skip
    by_cases hc2 : r1 = 2
    · have h := h.2.1 hc2
      refine lv_lookup hx hb d_x_turn_4 rfl (by rw [hc2]) rfl ?_
      refine lv_aload_n hx hb d_x_turn_40 rfl (lv_at hl 0 rfl) ?_
      refine cg_X_hands hx hb hts hown hK hI (hts _ q_152) d_x_turn_41 ?_
      refine zr_i (va_runV (As := []) (rest := []) ⟨hx, hb, hml, hown, hts⟩ (t_ha_player l D ad ca h _) (cwV 0 hts (zg_V q_270 q_271 q_272 q_42 q_273) rfl rfl rfl ⟨rfl, hd_ha_player⟩ ⟨Nat.le_trans (by decide) hfr, Nat.le_trans (by decide) hlc⟩) (z_preV zNs_ok hK hN hI 3 3 rfl rfl _) rfl rfl hl.1 rfl (lv_room (Nat.le_of_ble_eq_true rfl)) d_x_turn_44 ⟨Nat.zero_le _, Nat.zero_le _⟩) hI ?_
      intro r5 u6 H locs h hI
      exact zret_i hx hb hr hlk hK hI h d_x_turn_47
    · skip
      have h := h.2.2 ⟨hc1, hc2⟩
      refine lv_lookup hx hb d_x_turn_4 rfl (by show Op.lookupswitch.offset [(1, 28), (2, 36)] 44 _ = _; rw [lv_osw hc1 (by decide), lv_osw hc2 (by decide)]) rfl ?_
      refine lv_iconst (v := (-1)) hx hb d_x_turn_48 zc_iconst_m1 ?_
      exact zret_i hx hb hr hlk hK hI h d_x_turn_49
def b_x_has_24  (post : Int32 → ZS → Prop) (s0 : Int32) (u : ZS) : Prop := (s0 = 0 ∨ s0 = 1) ∧ post s0 u
set_option maxRecDepth 100000 in
set_option maxHeartbeats 4000000 in
theorem k_x_has_24 {p : Program} {l : Launch} {e : Env} {R : Room} {s : State} {m : MethodId} {args : Array Value} {below : List Frame} {meth : Method} {c : Code} {D : va_G} {A : Nat → Prop} {ad : Nat → Nat} {ca : Nat → ClassId}  {post : Int32 → ZS → Prop} (cx : zx p R s m args meth c c_x_has 3 2 34 "ShortBridge" (some .boolean) zG zNs D (cT ca)) {s0 : Int32} {u : ZS} {H : Heap} {locs : List Loc} {ls : Array Slot} (hI : zw D A s.heap (cW ad ca u) H locs) (hl : lv_has ls 3 []) (h : b_x_has_24 post s0 u) : W p l e R s m args below meth c H locs 0 0 (MQ below (va_Qi post (zE D (cT ca) (cW ad ca) A) A) args s 0 0 A) (F0 m 24 ls [.int s0]) := by
  have cx0 := cx
  obtain ⟨hx, hb, hml, hown, hts, hN, hK, hr, hlk, hfr, hlc⟩ := cx
  unfold b_x_has_24 at h
  exact zret_z hx hb hr hlk hK hI h.1 h.2 d_x_has_24
def b_x_has_23  (post : Int32 → ZS → Prop)  (u : ZS) : Prop := b_x_has_24 post 0 u
set_option maxRecDepth 100000 in
set_option maxHeartbeats 4000000 in
theorem k_x_has_23 {p : Program} {l : Launch} {e : Env} {R : Room} {s : State} {m : MethodId} {args : Array Value} {below : List Frame} {meth : Method} {c : Code} {D : va_G} {A : Nat → Prop} {ad : Nat → Nat} {ca : Nat → ClassId}  {post : Int32 → ZS → Prop} (cx : zx p R s m args meth c c_x_has 3 2 34 "ShortBridge" (some .boolean) zG zNs D (cT ca)) {u : ZS} {H : Heap} {locs : List Loc} {ls : Array Slot} (hI : zw D A s.heap (cW ad ca u) H locs) (hl : lv_has ls 3 []) (h : b_x_has_23 post  u) : W p l e R s m args below meth c H locs 0 0 (MQ below (va_Qi post (zE D (cT ca) (cW ad ca) A) A) args s 0 0 A) (F0 m 23 ls []) := by
  have cx0 := cx
  obtain ⟨hx, hb, hml, hown, hts, hN, hK, hr, hlk, hfr, hlc⟩ := cx
  unfold b_x_has_23 at h
  refine lv_iconst (v := 0) hx hb d_x_has_23 zc_iconst_0 ?_
  exact k_x_has_24 cx0  hI (lv_sub hl [] rfl) h
def w_x_has (v1 : Int32) (v2 : Int32) (u : ZS) (post : Int32 → ZS → Prop) : Prop := w_x_isPlayer v1 u (fun r1 u2 => (r1 = 0 → b_x_has_23 post u2) ∧ (¬ (r1 = 0) → w_ha_holds v1 v2 u2 (fun r3 u4 => (r3 = 0 → b_x_has_23 post u4) ∧ (¬ (r3 = 0) → b_x_has_24 post 1 u4))))
set_option maxRecDepth 100000 in
set_option maxHeartbeats 4000000 in
theorem t_x_has (l : Launch) (D : va_G) (ad : Nat → Nat) (ca : Nat → ClassId) {v1 : Int32} {v2 : Int32} {u : ZS} {post : Int32 → ZS → Prop} (h : w_x_has v1 v2 u post) : zI l y_x_has (Cond.code y_x_has c_x_has 3 (some .boolean) :: zG) { frames := 2, cells := 0, slots := 0, locals := 34 } D (cT ca) zNs (cW ad ca) [.ref (ad 0), .int v1, .int v2] u post := by
  refine zI_of (cc := c_x_has) (maxL := 3) (ret := (some .boolean)) (by decide) (Nat.le_of_ble_eq_true rfl) ?_
  intro p e s m args below meth c ls A cx hI hl
  have cx0 := cx
  obtain ⟨hx, hb, hml, hown, hts, hN, hK, hr, hlk, hfr, hlc⟩ := cx
  have hl : lv_has ls 3 [(0, .ref (ad 0)), (1, .int v1), (2, .int v2)] := hl
  unfold w_x_has at h
  refine lv_iload_n hx hb d_x_has_0 rfl (lv_at hl 1 rfl) ?_
  refine zr_i (va_runS (As := [.int v1]) (rest := []) ⟨hx, hb, hml, hown, hts⟩ (t_x_isPlayer l D ad ca h _) (va_cwS 1 hts (zg_S q_180 q_181 q_39 q_182) rfl rfl rfl hd_x_isPlayer ⟨Nat.le_trans (by decide) hfr, Nat.le_trans (by decide) hlc⟩) (z_preS zNs_ok hK hN hI _) rfl rfl hl.1 rfl (lv_room (Nat.le_of_ble_eq_true rfl)) d_x_has_1 ⟨Nat.zero_le _, Nat.zero_le _⟩) hI ?_
  intro r1 u2 H locs h hI
  refine lv_if_eq hx hb d_x_has_4 rfl (fun hc => ?_) (fun hc => ?_)
  · have h := h.1 hc
    exact k_x_has_23 cx0  hI (lv_sub hl [] rfl) h
  · have h := h.2 hc
    refine lv_aload_n hx hb d_x_has_7 rfl (lv_at hl 0 rfl) ?_
    refine cg_X_hands hx hb hts hown hK hI (hts _ q_152) d_x_has_8 ?_
    refine lv_iload_n hx hb d_x_has_11 rfl (lv_at hl 1 rfl) ?_
    refine lv_iload_n hx hb d_x_has_12 rfl (lv_at hl 2 rfl) ?_
    refine zr_i (va_runV (As := [.int v1, .int v2]) (rest := []) ⟨hx, hb, hml, hown, hts⟩ (t_ha_holds l D ad ca h _) (cwV 2 hts (zg_V q_279 q_280 q_281 q_42 q_282) rfl rfl rfl ⟨rfl, hd_ha_holds⟩ ⟨Nat.le_trans (by decide) hfr, Nat.le_trans (by decide) hlc⟩) (z_preV zNs_ok hK hN hI 3 3 rfl rfl _) rfl rfl hl.1 rfl (lv_room (Nat.le_of_ble_eq_true rfl)) d_x_has_13 ⟨Nat.zero_le _, Nat.zero_le _⟩) hI ?_
    intro r3 u4 H locs h hI
    refine lv_if_eq hx hb d_x_has_16 rfl (fun hc => ?_) (fun hc => ?_)
    · have h := h.1 hc
      exact k_x_has_23 cx0  hI (lv_sub hl [] rfl) h
    · have h := h.2 hc
      refine lv_iconst (v := 1) hx hb d_x_has_19 zc_iconst_1 ?_
      refine lv_goto hx hb d_x_has_20 rfl ?_
      exact k_x_has_24 cx0  hI (lv_sub hl [] rfl) h
def b_x_back_37  (post : Int32 → ZS → Prop)  (u : ZS) : Prop := post 0 u
set_option maxRecDepth 100000 in
set_option maxHeartbeats 4000000 in
theorem k_x_back_37 {p : Program} {l : Launch} {e : Env} {R : Room} {s : State} {m : MethodId} {args : Array Value} {below : List Frame} {meth : Method} {c : Code} {D : va_G} {A : Nat → Prop} {ad : Nat → Nat} {ca : Nat → ClassId}  {post : Int32 → ZS → Prop} (cx : zx p R s m args meth c c_x_back 1 4 76 "ShortBridge" (some .boolean) zG zNs D (cT ca)) {u : ZS} {H : Heap} {locs : List Loc} {ls : Array Slot} (hI : zw D A s.heap (cW ad ca u) H locs) (hl : lv_has ls 1 []) (h : b_x_back_37 post  u) : W p l e R s m args below meth c H locs 0 0 (MQ below (va_Qi post (zE D (cT ca) (cW ad ca) A) A) args s 0 0 A) (F0 m 37 ls []) := by
  have cx0 := cx
  obtain ⟨hx, hb, hml, hown, hts, hN, hK, hr, hlk, hfr, hlc⟩ := cx
  unfold b_x_back_37 at h
  refine lv_iconst (v := 0) hx hb d_x_back_37 zc_iconst_0 ?_
  exact zret_z hx hb hr hlk hK hI (Or.inl rfl) h d_x_back_38
def w_x_back  (u : ZS) (post : Int32 → ZS → Prop) : Prop := ((fI u 4) ≤ 0 → w_x_phase  u (fun r1 u2 => (r1 = 2 → b_x_back_37 post u2) ∧ (¬ (r1 = 2) → (¬ (fI u2 2) = 0 → w_au_takeBack  u2 (fun u4 => post 1 u4)) ∧ ((fI u2 2) = 0 → b_x_back_37 post u2)))) ∧ (¬ ((fI u 4) ≤ 0) → w_ha_takeBack  u (fun u6 => post 1 u6))
set_option maxRecDepth 100000 in
set_option maxHeartbeats 4000000 in
theorem t_x_back (l : Launch) (D : va_G) (ad : Nat → Nat) (ca : Nat → ClassId)  {u : ZS} {post : Int32 → ZS → Prop} (h : w_x_back  u post) : zI l y_x_back (Cond.code y_x_back c_x_back 1 (some .boolean) :: zG) { frames := 4, cells := 0, slots := 0, locals := 76 } D (cT ca) zNs (cW ad ca) [.ref (ad 0)] u post := by
  refine zI_of (cc := c_x_back) (maxL := 1) (ret := (some .boolean)) (by decide) (Nat.le_of_ble_eq_true rfl) ?_
  intro p e s m args below meth c ls A cx hI hl
  have cx0 := cx
  obtain ⟨hx, hb, hml, hown, hts, hN, hK, hr, hlk, hfr, hlc⟩ := cx
  have hl : lv_has ls 1 [(0, .ref (ad 0))] := hl
  unfold w_x_back at h
  refine lv_aload_n hx hb d_x_back_0 rfl (lv_at hl 0 rfl) ?_
  refine cg_X_hands hx hb hts hown hK hI (hts _ q_152) d_x_back_1 ?_
  refine cg_Hands_count_n hx hb hts hown hK hI (va_Nw.use rfl (hN _ nw_8)) d_x_back_4 ?_
  refine lv_if_le hx hb d_x_back_7 rfl (fun hc => ?_) (fun hc => ?_)
  · have h := h.1 hc
    refine lv_aload_n hx hb d_x_back_19 rfl (lv_at hl 0 rfl) ?_
    refine zr_i (va_runV (As := []) (rest := []) ⟨hx, hb, hml, hown, hts⟩ (t_x_phase l D ad ca h _) (cwV 0 hts (zg_V q_258 q_235 q_236 q_39 q_237) rfl rfl rfl ⟨rfl, hd_x_phase⟩ ⟨Nat.le_trans (by decide) hfr, Nat.le_trans (by decide) hlc⟩) (z_preV zNs_ok hK hN hI 0 0 rfl rfl _) rfl rfl hl.1 rfl (lv_room (Nat.le_of_ble_eq_true rfl)) d_x_back_20 ⟨Nat.zero_le _, Nat.zero_le _⟩) hI ?_
    intro r1 u2 H locs h hI
    refine lv_iconst (v := 2) hx hb d_x_back_23 zc_iconst_2 ?_
    refine lv_icmp_eq hx hb d_x_back_24 rfl (fun hc => ?_) (fun hc => ?_)
    · have h := h.1 hc
      exact k_x_back_37 cx0  hI (lv_sub hl [] rfl) h
    · have h := h.2 hc
      refine lv_aload_n hx hb d_x_back_27 rfl (lv_at hl 0 rfl) ?_
      refine cg_X_auction hx hb hts hown hK hI (hts _ q_151) d_x_back_28 ?_
      refine cg_Auction_count_n hx hb hts hown hK hI (va_Nw.use rfl (hN _ nw_4)) d_x_back_31 ?_
      refine lv_if_ne hx hb d_x_back_34 rfl (fun hc => ?_) (fun hc => ?_)
      · have h := h.1 hc
        refine lv_aload_n hx hb d_x_back_39 rfl (lv_at hl 0 rfl) ?_
        refine cg_X_auction hx hb hts hown hK hI (hts _ q_151) d_x_back_40 ?_
        refine zr_v (va_runV (As := []) (rest := []) ⟨hx, hb, hml, hown, hts⟩ (t_au_takeBack l D ad ca h _) (cwV 0 hts (zg_V q_292 q_293 q_294 q_41 q_295) rfl rfl rfl ⟨rfl, hd_au_takeBack⟩ ⟨Nat.le_trans (by decide) hfr, Nat.le_trans (by decide) hlc⟩) (z_preV zNs_ok hK hN hI 2 2 rfl rfl _) rfl rfl hl.1 rfl (lv_room (Nat.le_of_ble_eq_true rfl)) d_x_back_43 ⟨Nat.zero_le _, Nat.zero_le _⟩) hI ?_
        intro u4 H locs h hI
        refine lv_iconst (v := 1) hx hb d_x_back_46 zc_iconst_1 ?_
        exact zret_z hx hb hr hlk hK hI (Or.inr rfl) h d_x_back_47
      · have h := h.2 hc
        exact k_x_back_37 cx0  hI (lv_sub hl [] rfl) h
  · have h := h.2 hc
    refine lv_aload_n hx hb d_x_back_10 rfl (lv_at hl 0 rfl) ?_
    refine cg_X_hands hx hb hts hown hK hI (hts _ q_152) d_x_back_11 ?_
    refine zr_v (va_runV (As := []) (rest := []) ⟨hx, hb, hml, hown, hts⟩ (t_ha_takeBack l D ad ca h _) (cwV 0 hts (zg_V q_287 q_288 q_289 q_42 q_290) rfl rfl rfl ⟨rfl, hd_ha_takeBack⟩ ⟨Nat.le_trans (by decide) hfr, Nat.le_trans (by decide) hlc⟩) (z_preV zNs_ok hK hN hI 3 3 rfl rfl _) rfl rfl hl.1 rfl (lv_room (Nat.le_of_ble_eq_true rfl)) d_x_back_14 ⟨Nat.zero_le _, Nat.zero_le _⟩) hI ?_
    intro u6 H locs h hI
    refine lv_iconst (v := 1) hx hb d_x_back_17 zc_iconst_1 ?_
    exact zret_z hx hb hr hlk hK hI (Or.inr rfl) h d_x_back_18
def w_x_contract (v1 : Int32) (u : ZS) (post : Int32 → ZS → Prop) : Prop := w_au_bid  u (fun r1 u2 => (¬ r1 = (-1 : Int32) → (v1 = 0 → w_au_bid  u2 (fun r3 u4 => post r3 u4)) ∧ (v1 = 1 → w_au_doubled  u2 (fun r5 u6 => post r5 u6)) ∧ (v1 = 2 → w_au_declarer  u2 (fun r7 u8 => post r7 u8)) ∧ (¬ v1 = 0 ∧ ¬ v1 = 1 ∧ ¬ v1 = 2 → post (-1 : Int32) u2)) ∧ (r1 = (-1 : Int32) → post (-1 : Int32) u2))
set_option maxRecDepth 100000 in
set_option maxHeartbeats 4000000 in
theorem t_x_contract (l : Launch) (D : va_G) (ad : Nat → Nat) (ca : Nat → ClassId) {v1 : Int32} {u : ZS} {post : Int32 → ZS → Prop} (h : w_x_contract v1 u post) : zI l y_x_contract (Cond.code y_x_contract c_x_contract 2 (some .int) :: zG) { frames := 5, cells := 0, slots := 0, locals := 98 } D (cT ca) zNs (cW ad ca) [.ref (ad 0), .int v1] u post := by
  refine zI_of (cc := c_x_contract) (maxL := 2) (ret := (some .int)) (by decide) (Nat.le_of_ble_eq_true rfl) ?_
  intro p e s m args below meth c ls A cx hI hl
  have cx0 := cx
  obtain ⟨hx, hb, hml, hown, hts, hN, hK, hr, hlk, hfr, hlc⟩ := cx
  have hl : lv_has ls 2 [(0, .ref (ad 0)), (1, .int v1)] := hl
  unfold w_x_contract at h
  refine lv_aload_n hx hb d_x_contract_0 rfl (lv_at hl 0 rfl) ?_
  refine cg_X_auction hx hb hts hown hK hI (hts _ q_151) d_x_contract_1 ?_
  refine zr_i (va_runV (As := []) (rest := []) ⟨hx, hb, hml, hown, hts⟩ (t_au_bid l D ad ca h _) (cwV 0 hts (zg_V q_246 q_247 q_248 q_41 q_249) rfl rfl rfl ⟨rfl, hd_au_bid⟩ ⟨Nat.le_trans (by decide) hfr, Nat.le_trans (by decide) hlc⟩) (z_preV zNs_ok hK hN hI 2 2 rfl rfl _) rfl rfl hl.1 rfl (lv_room (Nat.le_of_ble_eq_true rfl)) d_x_contract_4 ⟨Nat.zero_le _, Nat.zero_le _⟩) hI ?_
  intro r1 u2 H locs h hI
  refine lv_iconst (v := (-1)) hx hb d_x_contract_7 zc_iconst_m1 ?_
  refine lv_icmp_ne hx hb d_x_contract_8 rfl (fun hc => ?_) (fun hc => ?_)
  · have h := h.1 hc
    refine lv_iload_n hx hb d_x_contract_13 rfl (lv_at hl 1 rfl) ?_
    by_cases hc0 : v1 = 0
    · have h := h.1 hc0
      refine lv_tableIn hx hb d_x_contract_14 (by rw [hc0]; decide) (by rw [hc0]; decide) (by rw [hc0]; rfl) rfl ?_
      refine lv_aload_n hx hb d_x_contract_40 rfl (lv_at hl 0 rfl) ?_
      refine cg_X_auction hx hb hts hown hK hI (hts _ q_151) d_x_contract_41 ?_
      refine zr_i (va_runV (As := []) (rest := []) ⟨hx, hb, hml, hown, hts⟩ (t_au_bid l D ad ca h _) (cwV 0 hts (zg_V q_246 q_247 q_248 q_41 q_249) rfl rfl rfl ⟨rfl, hd_au_bid⟩ ⟨Nat.le_trans (by decide) hfr, Nat.le_trans (by decide) hlc⟩) (z_preV zNs_ok hK hN hI 2 2 rfl rfl _) rfl rfl hl.1 rfl (lv_room (Nat.le_of_ble_eq_true rfl)) d_x_contract_44 ⟨Nat.zero_le _, Nat.zero_le _⟩) hI ?_
      intro r3 u4 H locs h hI
      exact zret_i hx hb hr hlk hK hI h d_x_contract_47
    · skip
      by_cases hc1 : v1 = 1
      · have h := h.2.1 hc1
        refine lv_tableIn hx hb d_x_contract_14 (by rw [hc1]; decide) (by rw [hc1]; decide) (by rw [hc1]; rfl) rfl ?_
        refine lv_aload_n hx hb d_x_contract_48 rfl (lv_at hl 0 rfl) ?_
        refine cg_X_auction hx hb hts hown hK hI (hts _ q_151) d_x_contract_49 ?_
        refine zr_i (va_runV (As := []) (rest := []) ⟨hx, hb, hml, hown, hts⟩ (t_au_doubled l D ad ca h _) (cwV 0 hts (zg_V q_300 q_301 q_302 q_41 q_303) rfl rfl rfl ⟨rfl, hd_au_doubled⟩ ⟨Nat.le_trans (by decide) hfr, Nat.le_trans (by decide) hlc⟩) (z_preV zNs_ok hK hN hI 2 2 rfl rfl _) rfl rfl hl.1 rfl (lv_room (Nat.le_of_ble_eq_true rfl)) d_x_contract_52 ⟨Nat.zero_le _, Nat.zero_le _⟩) hI ?_
        intro r5 u6 H locs h hI
        exact zret_i hx hb hr hlk hK hI h d_x_contract_55
      · skip
        by_cases hc2 : v1 = 2
        · have h := h.2.2.1 hc2
          refine lv_tableIn hx hb d_x_contract_14 (by rw [hc2]; decide) (by rw [hc2]; decide) (by rw [hc2]; rfl) rfl ?_
          refine lv_aload_n hx hb d_x_contract_56 rfl (lv_at hl 0 rfl) ?_
          refine cg_X_auction hx hb hts hown hK hI (hts _ q_151) d_x_contract_57 ?_
          refine zr_i (va_runV (As := []) (rest := []) ⟨hx, hb, hml, hown, hts⟩ (t_au_declarer l D ad ca h _) (cwV 0 hts (zg_V q_304 q_305 q_306 q_41 q_307) rfl rfl rfl ⟨rfl, hd_au_declarer⟩ ⟨Nat.le_trans (by decide) hfr, Nat.le_trans (by decide) hlc⟩) (z_preV zNs_ok hK hN hI 2 2 rfl rfl _) rfl rfl hl.1 rfl (lv_room (Nat.le_of_ble_eq_true rfl)) d_x_contract_60 ⟨Nat.zero_le _, Nat.zero_le _⟩) hI ?_
          intro r7 u8 H locs h hI
          exact zret_i hx hb hr hlk hK hI h d_x_contract_63
        · skip
          have h := h.2.2.2 ⟨hc0, hc1, hc2⟩
          have e0 := lv_neT (a := 0) hc0 (by decide)
          have e1 := lv_neT (a := 1) hc1 (by decide)
          have e2 := lv_neT (a := 2) hc2 (by decide)
          refine lv_tableOut hx hb d_x_contract_14 (by omega) rfl ?_
          refine lv_iconst (v := (-1)) hx hb d_x_contract_64 zc_iconst_m1 ?_
          exact zret_i hx hb hr hlk hK hI h d_x_contract_65
  · have h := h.2 hc
    refine lv_iconst (v := (-1)) hx hb d_x_contract_11 zc_iconst_m1 ?_
    exact zret_i hx hb hr hlk hK hI h d_x_contract_12
def b_x_tricks_21  (post : Int32 → ZS → Prop) (s0 : Int32) (u : ZS) : Prop := post s0 u
set_option maxRecDepth 100000 in
set_option maxHeartbeats 4000000 in
theorem k_x_tricks_21 {p : Program} {l : Launch} {e : Env} {R : Room} {s : State} {m : MethodId} {args : Array Value} {below : List Frame} {meth : Method} {c : Code} {D : va_G} {A : Nat → Prop} {ad : Nat → Nat} {ca : Nat → ClassId}  {post : Int32 → ZS → Prop} (cx : zx p R s m args meth c c_x_tricks 2 3 55 "ShortBridge" (some .int) zG zNs D (cT ca)) {s0 : Int32} {u : ZS} {H : Heap} {locs : List Loc} {ls : Array Slot} (hI : zw D A s.heap (cW ad ca u) H locs) (hl : lv_has ls 2 []) (h : b_x_tricks_21 post s0 u) : W p l e R s m args below meth c H locs 0 0 (MQ below (va_Qi post (zE D (cT ca) (cW ad ca) A) A) args s 0 0 A) (F0 m 21 ls [.int s0]) := by
  have cx0 := cx
  obtain ⟨hx, hb, hml, hown, hts, hN, hK, hr, hlk, hfr, hlc⟩ := cx
  unfold b_x_tricks_21 at h
  exact zret_i hx hb hr hlk hK hI h d_x_tricks_21
def b_x_tricks_9  (post : Int32 → ZS → Prop) (v1 : Int32) (u : ZS) : Prop := w_ha_won v1 u (fun r1 u2 => b_x_tricks_21 post r1 u2)
set_option maxRecDepth 100000 in
set_option maxHeartbeats 4000000 in
theorem k_x_tricks_9 {p : Program} {l : Launch} {e : Env} {R : Room} {s : State} {m : MethodId} {args : Array Value} {below : List Frame} {meth : Method} {c : Code} {D : va_G} {A : Nat → Prop} {ad : Nat → Nat} {ca : Nat → ClassId}  {post : Int32 → ZS → Prop} (cx : zx p R s m args meth c c_x_tricks 2 3 55 "ShortBridge" (some .int) zG zNs D (cT ca)) {v1 : Int32} {u : ZS} {H : Heap} {locs : List Loc} {ls : Array Slot} (hI : zw D A s.heap (cW ad ca u) H locs) (hl : lv_has ls 2 [(0, .ref (ad 0)), (1, .int v1)]) (h : b_x_tricks_9 post v1 u) : W p l e R s m args below meth c H locs 0 0 (MQ below (va_Qi post (zE D (cT ca) (cW ad ca) A) A) args s 0 0 A) (F0 m 9 ls []) := by
  have cx0 := cx
  obtain ⟨hx, hb, hml, hown, hts, hN, hK, hr, hlk, hfr, hlc⟩ := cx
  unfold b_x_tricks_9 at h
  refine lv_aload_n hx hb d_x_tricks_9 rfl (lv_at hl 0 rfl) ?_
  refine cg_X_hands hx hb hts hown hK hI (hts _ q_152) d_x_tricks_10 ?_
  refine lv_iload_n hx hb d_x_tricks_13 rfl (lv_at hl 1 rfl) ?_
  refine zr_i (va_runV (As := [.int v1]) (rest := []) ⟨hx, hb, hml, hown, hts⟩ (t_ha_won l D ad ca h _) (cwV 1 hts (zg_V q_322 q_323 q_324 q_42 q_325) rfl rfl rfl ⟨rfl, hd_ha_won⟩ ⟨Nat.le_trans (by decide) hfr, Nat.le_trans (by decide) hlc⟩) (z_preV zNs_ok hK hN hI 3 3 rfl rfl _) rfl rfl hl.1 rfl (lv_room (Nat.le_of_ble_eq_true rfl)) d_x_tricks_14 ⟨Nat.zero_le _, Nat.zero_le _⟩) hI ?_
  intro r1 u2 H locs h hI
  refine lv_goto hx hb d_x_tricks_17 rfl ?_
  exact k_x_tricks_21 cx0  hI (lv_sub hl [] rfl) h
def w_x_tricks (v1 : Int32) (u : ZS) (post : Int32 → ZS → Prop) : Prop := (v1 = 0 → b_x_tricks_9 post v1 u) ∧ (¬ (v1 = 0) → (¬ v1 = 1 → b_x_tricks_21 post (-1 : Int32) u) ∧ (v1 = 1 → b_x_tricks_9 post v1 u))
set_option maxRecDepth 100000 in
set_option maxHeartbeats 4000000 in
theorem t_x_tricks (l : Launch) (D : va_G) (ad : Nat → Nat) (ca : Nat → ClassId) {v1 : Int32} {u : ZS} {post : Int32 → ZS → Prop} (h : w_x_tricks v1 u post) : zI l y_x_tricks (Cond.code y_x_tricks c_x_tricks 2 (some .int) :: zG) { frames := 3, cells := 0, slots := 0, locals := 55 } D (cT ca) zNs (cW ad ca) [.ref (ad 0), .int v1] u post := by
  refine zI_of (cc := c_x_tricks) (maxL := 2) (ret := (some .int)) (by decide) (Nat.le_of_ble_eq_true rfl) ?_
  intro p e s m args below meth c ls A cx hI hl
  have cx0 := cx
  obtain ⟨hx, hb, hml, hown, hts, hN, hK, hr, hlk, hfr, hlc⟩ := cx
  have hl : lv_has ls 2 [(0, .ref (ad 0)), (1, .int v1)] := hl
  unfold w_x_tricks at h
  refine lv_iload_n hx hb d_x_tricks_0 rfl (lv_at hl 1 rfl) ?_
  refine lv_if_eq hx hb d_x_tricks_1 rfl (fun hc => ?_) (fun hc => ?_)
  · have h := h.1 hc
    exact k_x_tricks_9 cx0  hI (lv_sub hl [0, 1] rfl) h
  · have h := h.2 hc
    refine lv_iload_n hx hb d_x_tricks_4 rfl (lv_at hl 1 rfl) ?_
    refine lv_iconst (v := 1) hx hb d_x_tricks_5 zc_iconst_1 ?_
    refine lv_icmp_ne hx hb d_x_tricks_6 rfl (fun hc => ?_) (fun hc => ?_)
    · have h := h.1 hc
      refine lv_iconst (v := (-1)) hx hb d_x_tricks_20 zc_iconst_m1 ?_
      exact k_x_tricks_21 cx0  hI (lv_sub hl [] rfl) h
    · have h := h.2 hc
      exact k_x_tricks_9 cx0  hI (lv_sub hl [0, 1] rfl) h
def w_x_table (v1 : Int32) (u : ZS) (post : Int32 → ZS → Prop) : Prop := w_ha_onTable v1 u (fun r1 u2 => post r1 u2)
set_option maxRecDepth 100000 in
set_option maxHeartbeats 4000000 in
theorem t_x_table (l : Launch) (D : va_G) (ad : Nat → Nat) (ca : Nat → ClassId) {v1 : Int32} {u : ZS} {post : Int32 → ZS → Prop} (h : w_x_table v1 u post) : zI l y_x_table (Cond.code y_x_table c_x_table 2 (some .int) :: zG) { frames := 2, cells := 0, slots := 0, locals := 34 } D (cT ca) zNs (cW ad ca) [.ref (ad 0), .int v1] u post := by
  refine zI_of (cc := c_x_table) (maxL := 2) (ret := (some .int)) (by decide) (Nat.le_of_ble_eq_true rfl) ?_
  intro p e s m args below meth c ls A cx hI hl
  have cx0 := cx
  obtain ⟨hx, hb, hml, hown, hts, hN, hK, hr, hlk, hfr, hlc⟩ := cx
  have hl : lv_has ls 2 [(0, .ref (ad 0)), (1, .int v1)] := hl
  unfold w_x_table at h
  refine lv_aload_n hx hb d_x_table_0 rfl (lv_at hl 0 rfl) ?_
  refine cg_X_hands hx hb hts hown hK hI (hts _ q_152) d_x_table_1 ?_
  refine lv_iload_n hx hb d_x_table_4 rfl (lv_at hl 1 rfl) ?_
  refine zr_i (va_runV (As := [.int v1]) (rest := []) ⟨hx, hb, hml, hown, hts⟩ (t_ha_onTable l D ad ca h _) (cwV 1 hts (zg_V q_331 q_332 q_333 q_42 q_334) rfl rfl rfl ⟨rfl, hd_ha_onTable⟩ ⟨Nat.le_trans (by decide) hfr, Nat.le_trans (by decide) hlc⟩) (z_preV zNs_ok hK hN hI 3 3 rfl rfl _) rfl rfl hl.1 rfl (lv_room (Nat.le_of_ble_eq_true rfl)) d_x_table_5 ⟨Nat.zero_le _, Nat.zero_le _⟩) hI ?_
  intro r1 u2 H locs h hI
  exact zret_i hx hb hr hlk hK hI h d_x_table_8
def b_x_scoreOfSide0_78  (post : Int32 → ZS → Prop) (s0 : Int32) (u : ZS) : Prop := post s0 u
set_option maxRecDepth 100000 in
set_option maxHeartbeats 4000000 in
theorem k_x_scoreOfSide0_78 {p : Program} {l : Launch} {e : Env} {R : Room} {s : State} {m : MethodId} {args : Array Value} {below : List Frame} {meth : Method} {c : Code} {D : va_G} {A : Nat → Prop} {ad : Nat → Nat} {ca : Nat → ClassId}  {post : Int32 → ZS → Prop} (cx : zx p R s m args meth c c_x_scoreOfSide0 5 5 101 "ShortBridge" (some .int) zG zNs D (cT ca)) {s0 : Int32} {u : ZS} {H : Heap} {locs : List Loc} {ls : Array Slot} (hI : zw D A s.heap (cW ad ca u) H locs) (hl : lv_has ls 5 []) (h : b_x_scoreOfSide0_78 post s0 u) : W p l e R s m args below meth c H locs 0 0 (MQ below (va_Qi post (zE D (cT ca) (cW ad ca) A) A) args s 0 0 A) (F0 m 78 ls [.int s0]) := by
  have cx0 := cx
  obtain ⟨hx, hb, hml, hown, hts, hN, hK, hr, hlk, hfr, hlc⟩ := cx
  unfold b_x_scoreOfSide0_78 at h
  exact zret_i hx hb hr hlk hK hI h d_x_scoreOfSide0_78
def b_x_scoreOfSide0_43  (post : Int32 → ZS → Prop) (v1 : Int32) (v2 : Int32) (s0 : Int32) (u : ZS) : Prop := w_au_doubled  u (fun r1 u2 => w_ha_won v2 u2 (fun r3 u4 => w_sc_scoreOf v1 r1 r3 s0 u4 (fun r5 u6 => (¬ v2 = 0 → b_x_scoreOfSide0_78 post (-r5) u6) ∧ (v2 = 0 → b_x_scoreOfSide0_78 post r5 u6))))
set_option maxRecDepth 100000 in
set_option maxHeartbeats 4000000 in
theorem k_x_scoreOfSide0_43 {p : Program} {l : Launch} {e : Env} {R : Room} {s : State} {m : MethodId} {args : Array Value} {below : List Frame} {meth : Method} {c : Code} {D : va_G} {A : Nat → Prop} {ad : Nat → Nat} {ca : Nat → ClassId}  {post : Int32 → ZS → Prop} (cx : zx p R s m args meth c c_x_scoreOfSide0 5 5 101 "ShortBridge" (some .int) zG zNs D (cT ca)) {v1 : Int32} {v2 : Int32} {s0 : Int32} {u : ZS} {H : Heap} {locs : List Loc} {ls : Array Slot} (hI : zw D A s.heap (cW ad ca u) H locs) (hl : lv_has ls 5 [(0, .ref (ad 0)), (1, .int v1), (2, .int v2)]) (h : b_x_scoreOfSide0_43 post v1 v2 s0 u) : W p l e R s m args below meth c H locs 0 0 (MQ below (va_Qi post (zE D (cT ca) (cW ad ca) A) A) args s 0 0 A) (F0 m 43 ls [.int s0]) := by
  have cx0 := cx
  obtain ⟨hx, hb, hml, hown, hts, hN, hK, hr, hlk, hfr, hlc⟩ := cx
  unfold b_x_scoreOfSide0_43 at h
  refine lv_istore_n hx hb d_x_scoreOfSide0_43 rfl hl (by decide) rfl ?_
  intro ls hl
  have hl : lv_has ls 5 [(3, .int s0), (0, .ref (ad 0)), (1, .int v1), (2, .int v2)] := hl
  refine lv_iload_n hx hb d_x_scoreOfSide0_44 rfl (lv_at hl 2 rfl) ?_
  refine lv_aload_n hx hb d_x_scoreOfSide0_45 rfl (lv_at hl 1 rfl) ?_
  refine cg_X_auction hx hb hts hown hK hI (hts _ q_151) d_x_scoreOfSide0_46 ?_
  refine zr_i (va_runV (As := []) (rest := [.int v1]) ⟨hx, hb, hml, hown, hts⟩ (t_au_doubled l D ad ca h _) (cwV 0 hts (zg_V q_300 q_301 q_302 q_41 q_303) rfl rfl rfl ⟨rfl, hd_au_doubled⟩ ⟨Nat.le_trans (by decide) hfr, Nat.le_trans (by decide) hlc⟩) (z_preV zNs_ok hK hN hI 2 2 rfl rfl _) rfl rfl hl.1 rfl (lv_room (Nat.le_of_ble_eq_true rfl)) d_x_scoreOfSide0_49 ⟨Nat.zero_le _, Nat.zero_le _⟩) hI ?_
  intro r1 u2 H locs h hI
  refine lv_aload_n hx hb d_x_scoreOfSide0_52 rfl (lv_at hl 1 rfl) ?_
  refine cg_X_hands hx hb hts hown hK hI (hts _ q_152) d_x_scoreOfSide0_53 ?_
  refine lv_iload_n hx hb d_x_scoreOfSide0_56 rfl (lv_at hl 3 rfl) ?_
  refine zr_i (va_runV (As := [.int v2]) (rest := [.int r1, .int v1]) ⟨hx, hb, hml, hown, hts⟩ (t_ha_won l D ad ca h _) (cwV 1 hts (zg_V q_322 q_323 q_324 q_42 q_325) rfl rfl rfl ⟨rfl, hd_ha_won⟩ ⟨Nat.le_trans (by decide) hfr, Nat.le_trans (by decide) hlc⟩) (z_preV zNs_ok hK hN hI 3 3 rfl rfl _) rfl rfl hl.1 rfl (lv_room (Nat.le_of_ble_eq_true rfl)) d_x_scoreOfSide0_57 ⟨Nat.zero_le _, Nat.zero_le _⟩) hI ?_
  intro r3 u4 H locs h hI
  refine lv_iload_n hx hb d_x_scoreOfSide0_60 rfl (lv_at hl 0 rfl) ?_
  refine zr_i (va_runS (As := [.int v1, .int r1, .int r3, .int s0]) (rest := []) ⟨hx, hb, hml, hown, hts⟩ (t_sc_scoreOf l D ad ca h _) (va_cwS 4 hts (zg_S q_527 q_528 q_52 q_529) rfl rfl rfl hd_sc_scoreOf ⟨Nat.le_trans (by decide) hfr, Nat.le_trans (by decide) hlc⟩) (z_preS zNs_ok hK hN hI _) rfl rfl hl.1 rfl (lv_room (Nat.le_of_ble_eq_true rfl)) d_x_scoreOfSide0_61 ⟨Nat.zero_le _, Nat.zero_le _⟩) hI ?_
  intro r5 u6 H locs h hI
  refine lv_istore hx hb d_x_scoreOfSide0_64 hl (by decide) rfl ?_
  intro ls hl
  have hl : lv_has ls 5 [(4, .int r5), (3, .int s0), (0, .ref (ad 0)), (1, .int v1), (2, .int v2)] := hl
  refine lv_iload_n hx hb d_x_scoreOfSide0_66 rfl (lv_at hl 4 rfl) ?_
  refine lv_if_ne hx hb d_x_scoreOfSide0_67 rfl (fun hc => ?_) (fun hc => ?_)
  · have h := h.1 hc
    refine lv_iload hx hb d_x_scoreOfSide0_75 (lv_at hl 0 rfl) ?_
    refine lv_ineg hx hb d_x_scoreOfSide0_77 ?_
    exact k_x_scoreOfSide0_78 cx0  hI (lv_sub hl [] rfl) h
  · have h := h.2 hc
    refine lv_iload hx hb d_x_scoreOfSide0_70 (lv_at hl 0 rfl) ?_
    refine lv_goto hx hb d_x_scoreOfSide0_72 rfl ?_
    exact k_x_scoreOfSide0_78 cx0  hI (lv_sub hl [] rfl) h
def w_x_scoreOfSide0  (u : ZS) (post : Int32 → ZS → Prop) : Prop := w_au_bid  u (fun r7 u8 => (¬ r7 = (-1 : Int32) → w_au_declarer  u8 (fun r9 u10 => w_x_sideOf r9 u10 (fun r11 u12 => (¬ (((fI u12 1) >>> (r11 &&& 31)) &&& 1) = 1 → b_x_scoreOfSide0_43 post r7 r11 0 u12) ∧ ((((fI u12 1) >>> (r11 &&& 31)) &&& 1) = 1 → b_x_scoreOfSide0_43 post r7 r11 1 u12)))) ∧ (r7 = (-1 : Int32) → post 0 u8))
set_option maxRecDepth 100000 in
set_option maxHeartbeats 4000000 in
theorem t_x_scoreOfSide0 (l : Launch) (D : va_G) (ad : Nat → Nat) (ca : Nat → ClassId)  {u : ZS} {post : Int32 → ZS → Prop} (h : w_x_scoreOfSide0  u post) : zI l y_x_scoreOfSide0 (Cond.code y_x_scoreOfSide0 c_x_scoreOfSide0 5 (some .int) :: zG) { frames := 5, cells := 0, slots := 0, locals := 101 } D (cT ca) zNs (cW ad ca) [.ref (ad 0)] u post := by
  refine zI_of (cc := c_x_scoreOfSide0) (maxL := 5) (ret := (some .int)) (by decide) (Nat.le_of_ble_eq_true rfl) ?_
  intro p e s m args below meth c ls A cx hI hl
  have cx0 := cx
  obtain ⟨hx, hb, hml, hown, hts, hN, hK, hr, hlk, hfr, hlc⟩ := cx
  have hl : lv_has ls 5 [(0, .ref (ad 0))] := hl
  unfold w_x_scoreOfSide0 at h
  refine lv_aload_n hx hb d_x_scoreOfSide0_0 rfl (lv_at hl 0 rfl) ?_
  refine cg_X_auction hx hb hts hown hK hI (hts _ q_151) d_x_scoreOfSide0_1 ?_
  refine zr_i (va_runV (As := []) (rest := []) ⟨hx, hb, hml, hown, hts⟩ (t_au_bid l D ad ca h _) (cwV 0 hts (zg_V q_246 q_247 q_248 q_41 q_249) rfl rfl rfl ⟨rfl, hd_au_bid⟩ ⟨Nat.le_trans (by decide) hfr, Nat.le_trans (by decide) hlc⟩) (z_preV zNs_ok hK hN hI 2 2 rfl rfl _) rfl rfl hl.1 rfl (lv_room (Nat.le_of_ble_eq_true rfl)) d_x_scoreOfSide0_4 ⟨Nat.zero_le _, Nat.zero_le _⟩) hI ?_
  intro r7 u8 H locs h hI
  refine lv_istore_n hx hb d_x_scoreOfSide0_7 rfl hl (by decide) rfl ?_
  intro ls hl
  have hl : lv_has ls 5 [(1, .int r7), (0, .ref (ad 0))] := hl
  refine lv_iload_n hx hb d_x_scoreOfSide0_8 rfl (lv_at hl 0 rfl) ?_
  refine lv_iconst (v := (-1)) hx hb d_x_scoreOfSide0_9 zc_iconst_m1 ?_
  refine lv_icmp_ne hx hb d_x_scoreOfSide0_10 rfl (fun hc => ?_) (fun hc => ?_)
  · have h := h.1 hc
    refine lv_aload_n hx hb d_x_scoreOfSide0_15 rfl (lv_at hl 1 rfl) ?_
    refine cg_X_auction hx hb hts hown hK hI (hts _ q_151) d_x_scoreOfSide0_16 ?_
    refine zr_i (va_runV (As := []) (rest := []) ⟨hx, hb, hml, hown, hts⟩ (t_au_declarer l D ad ca h _) (cwV 0 hts (zg_V q_304 q_305 q_306 q_41 q_307) rfl rfl rfl ⟨rfl, hd_au_declarer⟩ ⟨Nat.le_trans (by decide) hfr, Nat.le_trans (by decide) hlc⟩) (z_preV zNs_ok hK hN hI 2 2 rfl rfl _) rfl rfl hl.1 rfl (lv_room (Nat.le_of_ble_eq_true rfl)) d_x_scoreOfSide0_19 ⟨Nat.zero_le _, Nat.zero_le _⟩) hI ?_
    intro r9 u10 H locs h hI
    refine zr_i (va_runS (As := [.int r9]) (rest := []) ⟨hx, hb, hml, hown, hts⟩ (t_x_sideOf l D ad ca h _) (va_cwS 1 hts (zg_S q_526 q_313 q_39 q_314) rfl rfl rfl hd_x_sideOf ⟨Nat.le_trans (by decide) hfr, Nat.le_trans (by decide) hlc⟩) (z_preS zNs_ok hK hN hI _) rfl rfl hl.1 rfl (lv_room (Nat.le_of_ble_eq_true rfl)) d_x_scoreOfSide0_22 ⟨Nat.zero_le _, Nat.zero_le _⟩) hI ?_
    intro r11 u12 H locs h hI
    refine lv_istore_n hx hb d_x_scoreOfSide0_25 rfl hl (by decide) rfl ?_
    intro ls hl
    have hl : lv_has ls 5 [(2, .int r11), (1, .int r7), (0, .ref (ad 0))] := hl
    refine lv_aload_n hx hb d_x_scoreOfSide0_26 rfl (lv_at hl 2 rfl) ?_
    refine cg_X_vulnerability hx hb hts hown hK hI (hts _ q_155) d_x_scoreOfSide0_27 ?_
    refine lv_iload_n hx hb d_x_scoreOfSide0_30 rfl (lv_at hl 0 rfl) ?_
    refine lv_ishr hx hb d_x_scoreOfSide0_31 ?_
    refine lv_iconst (v := 1) hx hb d_x_scoreOfSide0_32 zc_iconst_1 ?_
    refine lv_iand hx hb d_x_scoreOfSide0_33 ?_
    refine lv_iconst (v := 1) hx hb d_x_scoreOfSide0_34 zc_iconst_1 ?_
    refine lv_icmp_ne hx hb d_x_scoreOfSide0_35 rfl (fun hc => ?_) (fun hc => ?_)
    · have h := h.1 hc
      refine lv_iconst (v := 0) hx hb d_x_scoreOfSide0_42 zc_iconst_0 ?_
      exact k_x_scoreOfSide0_43 cx0  hI (lv_sub hl [2, 1, 0] rfl) h
    · have h := h.2 hc
      refine lv_iconst (v := 1) hx hb d_x_scoreOfSide0_38 zc_iconst_1 ?_
      refine lv_goto hx hb d_x_scoreOfSide0_39 rfl ?_
      exact k_x_scoreOfSide0_43 cx0  hI (lv_sub hl [2, 1, 0] rfl) h
  · have h := h.2 hc
    refine lv_iconst (v := 0) hx hb d_x_scoreOfSide0_13 zc_iconst_0 ?_
    exact zret_i hx hb hr hlk hK hI h d_x_scoreOfSide0_14
def w_so_tricksIn (v0 : Int32) (u : ZS) (post : Int32 → ZS → Prop) : Prop := post (((v0 + 4) - 1) / 4) u
set_option maxRecDepth 100000 in
set_option maxHeartbeats 4000000 in
theorem t_so_tricksIn (l : Launch) (D : va_G) (ad : Nat → Nat) (ca : Nat → ClassId) {v0 : Int32} {u : ZS} {post : Int32 → ZS → Prop} (h : w_so_tricksIn v0 u post) : zI l y_so_tricksIn (Cond.code y_so_tricksIn c_so_tricksIn 1 (some .int) :: zG) { frames := 1, cells := 0, slots := 0, locals := 12 } D (cT ca) zNs (cW ad ca) [.int v0] u post := by
  refine zI_of (cc := c_so_tricksIn) (maxL := 1) (ret := (some .int)) (by decide) (Nat.le_of_ble_eq_true rfl) ?_
  intro p e s m args below meth c ls A cx hI hl
  have cx0 := cx
  obtain ⟨hx, hb, hml, hown, hts, hN, hK, hr, hlk, hfr, hlc⟩ := cx
  have hl : lv_has ls 1 [(0, .int v0)] := hl
  unfold w_so_tricksIn at h
  refine lv_iload_n hx hb d_so_tricksIn_0 rfl (lv_at hl 0 rfl) ?_
  refine lv_iconst (v := 4) hx hb d_so_tricksIn_1 zc_iconst_4 ?_
  refine lv_iadd hx hb d_so_tricksIn_2 ?_
  refine lv_iconst (v := 1) hx hb d_so_tricksIn_3 zc_iconst_1 ?_
  refine lv_isub hx hb d_so_tricksIn_4 ?_
  refine lv_iconst (v := 4) hx hb d_so_tricksIn_5 zc_iconst_4 ?_
  refine lv_idiv hx hb d_so_tricksIn_6 (by decide) ?_
  exact zret_i hx hb hr hlk hK hI h d_so_tricksIn_7
def b_so_areAlike_14  (post : Int32 → ZS → Prop)  (u : ZS) : Prop := post 0 u
set_option maxRecDepth 100000 in
set_option maxHeartbeats 4000000 in
theorem k_so_areAlike_14 {p : Program} {l : Launch} {e : Env} {R : Room} {s : State} {m : MethodId} {args : Array Value} {below : List Frame} {meth : Method} {c : Code} {D : va_G} {A : Nat → Prop} {ad : Nat → Nat} {ca : Nat → ClassId}  {post : Int32 → ZS → Prop} (cx : zx p R s m args meth c c_so_areAlike 4 1 12 "ShortBridge$Solver" (some .boolean) zG zNs D (cT ca)) {u : ZS} {H : Heap} {locs : List Loc} {ls : Array Slot} (hI : zw D A s.heap (cW ad ca u) H locs) (hl : lv_has ls 4 []) (h : b_so_areAlike_14 post  u) : W p l e R s m args below meth c H locs 0 0 (MQ below (va_Qi post (zE D (cT ca) (cW ad ca) A) A) args s 0 0 A) (F0 m 14 ls []) := by
  have cx0 := cx
  obtain ⟨hx, hb, hml, hown, hts, hN, hK, hr, hlk, hfr, hlc⟩ := cx
  unfold b_so_areAlike_14 at h
  refine lv_iconst (v := 0) hx hb d_so_areAlike_14 zc_iconst_0 ?_
  exact zret_z hx hb hr hlk hK hI (Or.inl rfl) h d_so_areAlike_15
def b_so_areAlike_37  (post : Int32 → ZS → Prop) (s0 : Int32) (u : ZS) : Prop := (s0 = 0 ∨ s0 = 1) ∧ post s0 u
set_option maxRecDepth 100000 in
set_option maxHeartbeats 4000000 in
theorem k_so_areAlike_37 {p : Program} {l : Launch} {e : Env} {R : Room} {s : State} {m : MethodId} {args : Array Value} {below : List Frame} {meth : Method} {c : Code} {D : va_G} {A : Nat → Prop} {ad : Nat → Nat} {ca : Nat → ClassId}  {post : Int32 → ZS → Prop} (cx : zx p R s m args meth c c_so_areAlike 4 1 12 "ShortBridge$Solver" (some .boolean) zG zNs D (cT ca)) {s0 : Int32} {u : ZS} {H : Heap} {locs : List Loc} {ls : Array Slot} (hI : zw D A s.heap (cW ad ca u) H locs) (hl : lv_has ls 4 []) (h : b_so_areAlike_37 post s0 u) : W p l e R s m args below meth c H locs 0 0 (MQ below (va_Qi post (zE D (cT ca) (cW ad ca) A) A) args s 0 0 A) (F0 m 37 ls [.int s0]) := by
  have cx0 := cx
  obtain ⟨hx, hb, hml, hown, hts, hN, hK, hr, hlk, hfr, hlc⟩ := cx
  unfold b_so_areAlike_37 at h
  exact zret_z hx hb hr hlk hK hI h.1 h.2 d_so_areAlike_37
def w_so_areAlike (v0 : Int32) (v1 : Int32) (v2 : Int32) (u : ZS) (post : Int32 → ZS → Prop) : Prop := (v1 = (-1 : Int32) → b_so_areAlike_14 post u) ∧ (¬ (v1 = (-1 : Int32)) → ((v0 / 5) = (v1 / 5) → (¬ (v2 &&& ((1 <<< (v1 &&& 31)) - (1 <<< ((v0 + 1) &&& 31)))) = 0 → b_so_areAlike_37 post 0 u) ∧ ((v2 &&& ((1 <<< (v1 &&& 31)) - (1 <<< ((v0 + 1) &&& 31)))) = 0 → b_so_areAlike_37 post 1 u)) ∧ (¬ ((v0 / 5) = (v1 / 5)) → b_so_areAlike_14 post u))
set_option maxRecDepth 100000 in
set_option maxHeartbeats 4000000 in
theorem t_so_areAlike (l : Launch) (D : va_G) (ad : Nat → Nat) (ca : Nat → ClassId) {v0 : Int32} {v1 : Int32} {v2 : Int32} {u : ZS} {post : Int32 → ZS → Prop} (h : w_so_areAlike v0 v1 v2 u post) : zI l y_so_areAlike (Cond.code y_so_areAlike c_so_areAlike 4 (some .boolean) :: zG) { frames := 1, cells := 0, slots := 0, locals := 12 } D (cT ca) zNs (cW ad ca) [.int v0, .int v1, .int v2] u post := by
  refine zI_of (cc := c_so_areAlike) (maxL := 4) (ret := (some .boolean)) (by decide) (Nat.le_of_ble_eq_true rfl) ?_
  intro p e s m args below meth c ls A cx hI hl
  have cx0 := cx
  obtain ⟨hx, hb, hml, hown, hts, hN, hK, hr, hlk, hfr, hlc⟩ := cx
  have hl : lv_has ls 4 [(0, .int v0), (1, .int v1), (2, .int v2)] := hl
  unfold w_so_areAlike at h
  refine lv_iload_n hx hb d_so_areAlike_0 rfl (lv_at hl 1 rfl) ?_
  refine lv_iconst (v := (-1)) hx hb d_so_areAlike_1 zc_iconst_m1 ?_
  refine lv_icmp_eq hx hb d_so_areAlike_2 rfl (fun hc => ?_) (fun hc => ?_)
  · have h := h.1 hc
    exact k_so_areAlike_14 cx0  hI (lv_sub hl [] rfl) h
  · have h := h.2 hc
    refine lv_iload_n hx hb d_so_areAlike_5 rfl (lv_at hl 0 rfl) ?_
    refine lv_iconst (v := 5) hx hb d_so_areAlike_6 zc_iconst_5 ?_
    refine lv_idiv hx hb d_so_areAlike_7 (by decide) ?_
    refine lv_iload_n hx hb d_so_areAlike_8 rfl (lv_at hl 1 rfl) ?_
    refine lv_iconst (v := 5) hx hb d_so_areAlike_9 zc_iconst_5 ?_
    refine lv_idiv hx hb d_so_areAlike_10 (by decide) ?_
    refine lv_icmp_eq hx hb d_so_areAlike_11 rfl (fun hc => ?_) (fun hc => ?_)
    · have h := h.1 hc
      refine lv_iconst (v := 1) hx hb d_so_areAlike_16 zc_iconst_1 ?_
      refine lv_iload_n hx hb d_so_areAlike_17 rfl (lv_at hl 1 rfl) ?_
      refine lv_ishl hx hb d_so_areAlike_18 ?_
      refine lv_iconst (v := 1) hx hb d_so_areAlike_19 zc_iconst_1 ?_
      refine lv_iload_n hx hb d_so_areAlike_20 rfl (lv_at hl 0 rfl) ?_
      refine lv_iconst (v := 1) hx hb d_so_areAlike_21 zc_iconst_1 ?_
      refine lv_iadd hx hb d_so_areAlike_22 ?_
      refine lv_ishl hx hb d_so_areAlike_23 ?_
      refine lv_isub hx hb d_so_areAlike_24 ?_
      refine lv_istore_n hx hb d_so_areAlike_25 rfl hl (by decide) rfl ?_
      intro ls hl
      have hl : lv_has ls 4 [(3, .int ((1 <<< (v1 &&& 31)) - (1 <<< ((v0 + 1) &&& 31)))), (0, .int v0), (1, .int v1), (2, .int v2)] := hl
      refine lv_iload_n hx hb d_so_areAlike_26 rfl (lv_at hl 3 rfl) ?_
      refine lv_iload_n hx hb d_so_areAlike_27 rfl (lv_at hl 0 rfl) ?_
      refine lv_iand hx hb d_so_areAlike_28 ?_
      refine lv_if_ne hx hb d_so_areAlike_29 rfl (fun hc => ?_) (fun hc => ?_)
      · have h := h.1 hc
        refine lv_iconst (v := 0) hx hb d_so_areAlike_36 zc_iconst_0 ?_
        exact k_so_areAlike_37 cx0  hI (lv_sub hl [] rfl) h
      · have h := h.2 hc
        refine lv_iconst (v := 1) hx hb d_so_areAlike_32 zc_iconst_1 ?_
        refine lv_goto hx hb d_so_areAlike_33 rfl ?_
        exact k_so_areAlike_37 cx0  hI (lv_sub hl [] rfl) h
    · have h := h.2 hc
      exact k_so_areAlike_14 cx0  hI (lv_sub hl [] rfl) h
