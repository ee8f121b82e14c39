def soR (d : Nat) : Room := { frames := 2 * d + 10, cells := 0, slots := 0, locals := 56 * d + 300 }
def soW (d : Nat) : Room := { frames := 2 * d + 11, cells := 0, slots := 0, locals := 56 * d + 330 }
def b_so_reachesWith_46  (RR : Int32 → Int32 → Int32 → ZS → (Int32 → ZS → Prop) → Prop) (post : Int32 → ZS → Prop) (v4 : Int32) (s0 : Int32) (s1 : Int32) (u : ZS) : Prop := RR s1 s0 (v4 - 1) u (fun r1 u2 => w_ha_takeBack  u2 (fun u4 => (r1 = 0 ∨ r1 = 1) ∧ post r1 u4))
set_option maxRecDepth 100000 in
set_option maxHeartbeats 4000000 in
theorem k_so_reachesWith_46 {p : Program} {l : Launch} {e : Env} {R : Room} {s : State} {m : MethodId} {args : Array Value} {below : List Frame} {meth : Method} {c : Code} {D : va_G} {A : Nat → Prop} {ad : Nat → Nat} {ca : Nat → ClassId} {d : Nat} {RR : Int32 → Int32 → Int32 → ZS → (Int32 → ZS → Prop) → Prop} (hR : ∀ (a1 a2 a3 : Int32) (u : ZS) (post : Int32 → ZS → Prop), RR a1 a2 a3 u post → zI l y_so_reaches (Cond.code y_so_reaches c_so_reaches 11 (some .boolean) :: zG) (soR d) D (cT ca) zNs (cW ad ca) [.ref (ad 3), .int a1, .int a2, .int a3] u post)  {post : Int32 → ZS → Prop} (cx : zx p R s m args meth c c_so_reachesWith 7 (soW d).frames (soW d).locals "ShortBridge$Solver" (some .boolean) zG zNs D (cT ca)) {v4 : Int32} {s0 : Int32} {s1 : Int32} {u : ZS} {H : Heap} {locs : List Loc} {ls : Array Slot} (hI : zw D A s.heap (cW ad ca u) H locs) (hl : lv_has ls 7 [(1, .ref (ad 3)), (4, .int v4)]) (h : b_so_reachesWith_46 RR post v4 s0 s1 u) : W p l e R s m args below meth c H locs 0 0 (MQ below (va_Qi post (zE D (cT ca) (cW ad ca) A) A) args s 0 0 A) (F0 m 46 ls [.int s0, .int s1, .ref (ad 3)]) := by
  have cx0 := cx
  obtain ⟨hx, hb, hml, hown, hts, hN, hK, hr, hlk, hfr, hlc⟩ := cx
  unfold b_so_reachesWith_46 at h
  refine lv_iload hx hb d_so_reachesWith_46 (lv_at hl 1 rfl) ?_
  refine lv_iconst (v := 1) hx hb d_so_reachesWith_48 zc_iconst_1 ?_
  refine lv_isub hx hb d_so_reachesWith_49 ?_
  refine zr_i (va_runS (As := [.ref (ad 3), .int s1, .int s0, .int (v4 - 1)]) (rest := []) ⟨hx, hb, hml, hown, hts⟩ (hR _ _ _ _ _ h _) (va_cwS 4 hts (zg_S q_563 q_564 q_53 q_565) rfl rfl rfl hd_so_reaches ⟨Nat.le_trans (show (soR d).frames + 1 ≤ 2 * d + 11 by simp only [soR, soW]; omega) hfr, Nat.le_trans (show 8 + (11 + 11) + (soR d).locals ≤ 56 * d + 330 by simp only [soR, soW]; omega) hlc⟩) (z_preS zNs_ok hK hN hI _) rfl rfl hl.1 rfl (lv_room (Nat.le_of_ble_eq_true rfl)) d_so_reachesWith_50 ⟨Nat.zero_le _, Nat.zero_le _⟩) hI ?_
  intro r1 u2 H locs h hI
  refine lv_istore hx hb d_so_reachesWith_53 hl (by decide) rfl ?_
  intro ls hl
  have hl : lv_has ls 7 [(6, .int r1), (1, .ref (ad 3)), (4, .int v4)] := hl
  refine lv_aload_n hx hb d_so_reachesWith_55 rfl (lv_at hl 1 rfl) ?_
  refine zr_v (va_runV (As := []) (rest := []) ⟨hx, hb, hml, hown, hts⟩ (t_ha_takeBack l D ad ca h _) (cwV 0 hts (zg_V q_580 q_288 q_289 q_42 q_290) rfl rfl rfl ⟨rfl, hd_ha_takeBack⟩ ⟨Nat.le_trans (show 3 + 1 ≤ 2 * d + 11 by omega) hfr, Nat.le_trans (show 8 + (1 + 11) + 53 ≤ 56 * d + 330 by omega) hlc⟩) (z_preV zNs_ok hK hN hI 3 3 rfl rfl _) rfl rfl hl.1 rfl (lv_room (Nat.le_of_ble_eq_true rfl)) d_so_reachesWith_56 ⟨Nat.zero_le _, Nat.zero_le _⟩) hI ?_
  intro u4 H locs h hI
  refine lv_iload hx hb d_so_reachesWith_59 (lv_at hl 0 rfl) ?_
  exact zret_z hx hb hr hlk hK hI h.1 h.2 d_so_reachesWith_61
def b_so_reachesWith_30  (RR : Int32 → Int32 → Int32 → ZS → (Int32 → ZS → Prop) → Prop) (post : Int32 → ZS → Prop) (v2 : Int32) (v3 : Int32) (v4 : Int32) (s0 : Int32) (u : ZS) : Prop := (s0 = 0 → b_so_reachesWith_46 RR post v4 v3 v2 u) ∧ (¬ (s0 = 0) → b_so_reachesWith_46 RR post v4 (v3 - 1) v2 u)
set_option maxRecDepth 100000 in
set_option maxHeartbeats 4000000 in
theorem k_so_reachesWith_30 {p : Program} {l : Launch} {e : Env} {R : Room} {s : State} {m : MethodId} {args : Array Value} {below : List Frame} {meth : Method} {c : Code} {D : va_G} {A : Nat → Prop} {ad : Nat → Nat} {ca : Nat → ClassId} {d : Nat} {RR : Int32 → Int32 → Int32 → ZS → (Int32 → ZS → Prop) → Prop} (hR : ∀ (a1 a2 a3 : Int32) (u : ZS) (post : Int32 → ZS → Prop), RR a1 a2 a3 u post → zI l y_so_reaches (Cond.code y_so_reaches c_so_reaches 11 (some .boolean) :: zG) (soR d) D (cT ca) zNs (cW ad ca) [.ref (ad 3), .int a1, .int a2, .int a3] u post)  {post : Int32 → ZS → Prop} (cx : zx p R s m args meth c c_so_reachesWith 7 (soW d).frames (soW d).locals "ShortBridge$Solver" (some .boolean) zG zNs D (cT ca)) {v2 : Int32} {v3 : Int32} {v4 : Int32} {s0 : Int32} {u : ZS} {H : Heap} {locs : List Loc} {ls : Array Slot} (hI : zw D A s.heap (cW ad ca u) H locs) (hl : lv_has ls 7 [(1, .ref (ad 3)), (2, .int v2), (3, .int v3), (4, .int v4)]) (h : b_so_reachesWith_30 RR post v2 v3 v4 s0 u) : W p l e R s m args below meth c H locs 0 0 (MQ below (va_Qi post (zE D (cT ca) (cW ad ca) A) A) args s 0 0 A) (F0 m 30 ls [.int s0]) := by
  have cx0 := cx
  obtain ⟨hx, hb, hml, hown, hts, hN, hK, hr, hlk, hfr, hlc⟩ := cx
  unfold b_so_reachesWith_30 at h
  refine lv_istore hx hb d_so_reachesWith_30 hl (by decide) rfl ?_
  intro ls hl
  have hl : lv_has ls 7 [(5, .int s0), (1, .ref (ad 3)), (2, .int v2), (3, .int v3), (4, .int v4)] := hl
  refine lv_aload_n hx hb d_so_reachesWith_32 rfl (lv_at hl 1 rfl) ?_
  refine lv_iload_n hx hb d_so_reachesWith_33 rfl (lv_at hl 2 rfl) ?_
  refine lv_iload hx hb d_so_reachesWith_34 (lv_at hl 0 rfl) ?_
  refine lv_if_eq hx hb d_so_reachesWith_36 rfl (fun hc => ?_) (fun hc => ?_)
  · have h := h.1 hc
    refine lv_iload_n hx hb d_so_reachesWith_45 rfl (lv_at hl 3 rfl) ?_
    exact k_so_reachesWith_46 hR cx0  hI (lv_sub hl [1, 4] rfl) h
  · have h := h.2 hc
    refine lv_iload_n hx hb d_so_reachesWith_39 rfl (lv_at hl 3 rfl) ?_
    refine lv_iconst (v := 1) hx hb d_so_reachesWith_40 zc_iconst_1 ?_
    refine lv_isub hx hb d_so_reachesWith_41 ?_
    refine lv_goto hx hb d_so_reachesWith_42 rfl ?_
    exact k_so_reachesWith_46 hR cx0  hI (lv_sub hl [1, 4] rfl) h
def b_so_reachesWith_29  (RR : Int32 → Int32 → Int32 → ZS → (Int32 → ZS → Prop) → Prop) (post : Int32 → ZS → Prop) (v2 : Int32) (v3 : Int32) (v4 : Int32) (u : ZS) : Prop := b_so_reachesWith_30 RR post v2 v3 v4 0 u
set_option maxRecDepth 100000 in
set_option maxHeartbeats 4000000 in
theorem k_so_reachesWith_29 {p : Program} {l : Launch} {e : Env} {R : Room} {s : State} {m : MethodId} {args : Array Value} {below : List Frame} {meth : Method} {c : Code} {D : va_G} {A : Nat → Prop} {ad : Nat → Nat} {ca : Nat → ClassId} {d : Nat} {RR : Int32 → Int32 → Int32 → ZS → (Int32 → ZS → Prop) → Prop} (hR : ∀ (a1 a2 a3 : Int32) (u : ZS) (post : Int32 → ZS → Prop), RR a1 a2 a3 u post → zI l y_so_reaches (Cond.code y_so_reaches c_so_reaches 11 (some .boolean) :: zG) (soR d) D (cT ca) zNs (cW ad ca) [.ref (ad 3), .int a1, .int a2, .int a3] u post)  {post : Int32 → ZS → Prop} (cx : zx p R s m args meth c c_so_reachesWith 7 (soW d).frames (soW d).locals "ShortBridge$Solver" (some .boolean) zG zNs D (cT ca)) {v2 : Int32} {v3 : Int32} {v4 : Int32} {u : ZS} {H : Heap} {locs : List Loc} {ls : Array Slot} (hI : zw D A s.heap (cW ad ca u) H locs) (hl : lv_has ls 7 [(1, .ref (ad 3)), (2, .int v2), (3, .int v3), (4, .int v4)]) (h : b_so_reachesWith_29 RR post v2 v3 v4 u) : W p l e R s m args below meth c H locs 0 0 (MQ below (va_Qi post (zE D (cT ca) (cW ad ca) A) A) args s 0 0 A) (F0 m 29 ls []) := by
  have cx0 := cx
  obtain ⟨hx, hb, hml, hown, hts, hN, hK, hr, hlk, hfr, hlc⟩ := cx
  unfold b_so_reachesWith_29 at h
  refine lv_iconst (v := 0) hx hb d_so_reachesWith_29 zc_iconst_0 ?_
  exact k_so_reachesWith_30 hR cx0  hI (lv_sub hl [0, 1, 2, 3] rfl) h
def w_so_reachesWith (RR : Int32 → Int32 → Int32 → ZS → (Int32 → ZS → Prop) → Prop) (v0 : Int32) (v2 : Int32) (v3 : Int32) (v4 : Int32) (u : ZS) (post : Int32 → ZS → Prop) : Prop := w_ha_put v0 u (fun u6 => (¬ ((fI u6 4) - (fI u6 4) / 4 * 4) = 0 → b_so_reachesWith_29 RR post v2 v3 v4 u6) ∧ (((fI u6 4) - (fI u6 4) / 4 * 4) = 0 → w_ha_player  u6 (fun r7 u8 => w_x_sideOf r7 u8 (fun r9 u10 => (¬ r9 = v2 → b_so_reachesWith_29 RR post v2 v3 v4 u10) ∧ (r9 = v2 → b_so_reachesWith_30 RR post v2 v3 v4 1 u10)))))
set_option maxRecDepth 100000 in
set_option maxHeartbeats 4000000 in
theorem t_so_reachesWith (l : Launch) (D : va_G) (ad : Nat → Nat) (ca : Nat → ClassId) (d : Nat) {RR : Int32 → Int32 → Int32 → ZS → (Int32 → ZS → Prop) → Prop} (hR : ∀ (a1 a2 a3 : Int32) (u : ZS) (post : Int32 → ZS → Prop), RR a1 a2 a3 u post → zI l y_so_reaches (Cond.code y_so_reaches c_so_reaches 11 (some .boolean) :: zG) (soR d) D (cT ca) zNs (cW ad ca) [.ref (ad 3), .int a1, .int a2, .int a3] u post) {v0 : Int32} {v2 : Int32} {v3 : Int32} {v4 : Int32} {u : ZS} {post : Int32 → ZS → Prop} (h : w_so_reachesWith RR v0 v2 v3 v4 u post) : zI l y_so_reachesWith (Cond.code y_so_reachesWith c_so_reachesWith 7 (some .boolean) :: zG) (soW d) D (cT ca) zNs (cW ad ca) [.int v0, .ref (ad 3), .int v2, .int v3, .int v4] u post := by
  refine zI_of (cc := c_so_reachesWith) (maxL := 7) (ret := (some .boolean)) (by decide) (Nat.le_of_ble_eq_true rfl) ?_
  intro p e s m args below meth c ls A cx hI hl
  have cx0 := cx
  obtain ⟨hx, hb, hml, hown, hts, hN, hK, hr, hlk, hfr, hlc⟩ := cx
  have hl : lv_has ls 7 [(0, .int v0), (1, .ref (ad 3)), (2, .int v2), (3, .int v3), (4, .int v4)] := hl
  unfold w_so_reachesWith at h
  refine lv_aload_n hx hb d_so_reachesWith_0 rfl (lv_at hl 1 rfl) ?_
  refine lv_iload_n hx hb d_so_reachesWith_1 rfl (lv_at hl 0 rfl) ?_
  refine zr_v (va_runV (As := [.int v0]) (rest := []) ⟨hx, hb, hml, hown, hts⟩ (t_ha_put l D ad ca h _) (cwV 1 hts (zg_V q_579 q_503 q_504 q_42 q_505) rfl rfl rfl ⟨rfl, hd_ha_put⟩ ⟨Nat.le_trans (show 3 + 1 ≤ 2 * d + 11 by omega) hfr, Nat.le_trans (show 8 + (2 + 11) + 59 ≤ 56 * d + 330 by omega) hlc⟩) (z_preV zNs_ok hK hN hI 3 3 rfl rfl _) rfl rfl hl.1 rfl (lv_room (Nat.le_of_ble_eq_true rfl)) d_so_reachesWith_2 ⟨Nat.zero_le _, Nat.zero_le _⟩) hI ?_
  intro u6 H locs h hI
  refine lv_aload_n hx hb d_so_reachesWith_5 rfl (lv_at hl 1 rfl) ?_
  refine cg_Hands_count_n hx hb hts hown hK hI (va_Nw.use rfl (hN _ nw_7)) d_so_reachesWith_6 ?_
  refine lv_iconst (v := 4) hx hb d_so_reachesWith_9 zc_iconst_4 ?_
  refine lv_irem hx hb d_so_reachesWith_10 (by decide) ?_
  refine lv_if_ne hx hb d_so_reachesWith_11 rfl (fun hc => ?_) (fun hc => ?_)
  · have h := h.1 hc
    exact k_so_reachesWith_29 hR cx0  hI (lv_sub hl [1, 2, 3, 4] rfl) h
  · have h := h.2 hc
    refine lv_aload_n hx hb d_so_reachesWith_14 rfl (lv_at hl 1 rfl) ?_
    refine zr_i (va_runV (As := []) (rest := []) ⟨hx, hb, hml, hown, hts⟩ (t_ha_player l D ad ca h _) (cwV 0 hts (zg_V q_566 q_271 q_272 q_42 q_273) rfl rfl rfl ⟨rfl, hd_ha_player⟩ ⟨Nat.le_trans (show 2 + 1 ≤ 2 * d + 11 by omega) hfr, Nat.le_trans (show 8 + (1 + 11) + 33 ≤ 56 * d + 330 by omega) hlc⟩) (z_preV zNs_ok hK hN hI 3 3 rfl rfl _) rfl rfl hl.1 rfl (lv_room (Nat.le_of_ble_eq_true rfl)) d_so_reachesWith_15 ⟨Nat.zero_le _, Nat.zero_le _⟩) hI ?_
    intro r7 u8 H locs h hI
    refine zr_i (va_runSN (As := [.int r7]) (rest := []) ⟨hx, hb, hml, hown, hts⟩ (t_x_sideOf l D ad ca h _) ⟨va_cnB 1 hts (zg_c q_314) rfl rfl rfl (hN _ nw_16) (hts _ q_39) hd_x_sideOf ⟨Nat.le_trans (show 1 + 1 ≤ 2 * d + 11 by omega) hfr, Nat.le_trans (show 8 + (1 + 11) + 12 ≤ 56 * d + 330 by omega) hlc⟩, hts _ q_313, trivial⟩ (z_preS zNs_ok hK hN hI _) rfl rfl hl.1 rfl (lv_room (Nat.le_of_ble_eq_true rfl)) d_so_reachesWith_18 ⟨Nat.zero_le _, Nat.zero_le _⟩) hI ?_
    intro r9 u10 H locs h hI
    refine lv_iload_n hx hb d_so_reachesWith_21 rfl (lv_at hl 2 rfl) ?_
    refine lv_icmp_ne hx hb d_so_reachesWith_22 rfl (fun hc => ?_) (fun hc => ?_)
    · have h := h.1 hc
      exact k_so_reachesWith_29 hR cx0  hI (lv_sub hl [1, 2, 3, 4] rfl) h
    · have h := h.2 hc
      refine lv_iconst (v := 1) hx hb d_so_reachesWith_25 zc_iconst_1 ?_
      refine lv_goto hx hb d_so_reachesWith_26 rfl ?_
      exact k_so_reachesWith_30 hR cx0  hI (lv_sub hl [1, 2, 3, 4] rfl) h
def b_so_reaches_21  (RW : Int32 → Int32 → Int32 → Int32 → ZS → (Int32 → ZS → Prop) → Prop) (post : Int32 → ZS → Prop) (s0 : Int32) (u : ZS) : Prop := (s0 = 0 ∨ s0 = 1) ∧ post s0 u
set_option maxRecDepth 100000 in
set_option maxHeartbeats 4000000 in
theorem k_so_reaches_21 {p : Program} {l : Launch} {e : Env} {R : Room} {s : State} {m : MethodId} {args : Array Value} {below : List Frame} {meth : Method} {c : Code} {D : va_G} {A : Nat → Prop} {ad : Nat → Nat} {ca : Nat → ClassId} {d : Nat} {RW : Int32 → Int32 → Int32 → Int32 → ZS → (Int32 → ZS → Prop) → Prop} (hR : ∀ (a0 a2 a3 a4 : Int32) (u : ZS) (post : Int32 → ZS → Prop), RW a0 a2 a3 a4 u post → zI l y_so_reachesWith (Cond.code y_so_reachesWith c_so_reachesWith 7 (some .boolean) :: zG) (soW d) D (cT ca) zNs (cW ad ca) [.int a0, .ref (ad 3), .int a2, .int a3, .int a4] u post)  {post : Int32 → ZS → Prop} (cx : zx p R s m args meth c c_so_reaches 11 (soR (d + 1)).frames (soR (d + 1)).locals "ShortBridge$Solver" (some .boolean) zG zNs D (cT ca)) {s0 : Int32} {u : ZS} {H : Heap} {locs : List Loc} {ls : Array Slot} (hI : zw D A s.heap (cW ad ca u) H locs) (hl : lv_has ls 11 []) (h : b_so_reaches_21 RW post s0 u) : W p l e R s m args below meth c H locs 0 0 (MQ below (va_Qi post (zE D (cT ca) (cW ad ca) A) A) args s 0 0 A) (F0 m 21 ls [.int s0]) := by
  have cx0 := cx
  obtain ⟨hx, hb, hml, hown, hts, hN, hK, hr, hlk, hfr, hlc⟩ := cx
  unfold b_so_reaches_21 at h
  exact zret_z hx hb hr hlk hK hI h.1 h.2 d_so_reaches_21
def b_so_reaches_12  (RW : Int32 → Int32 → Int32 → Int32 → ZS → (Int32 → ZS → Prop) → Prop) (post : Int32 → ZS → Prop) (v2 : Int32) (u : ZS) : Prop := (0 < v2 → b_so_reaches_21 RW post 0 u) ∧ (¬ (0 < v2) → b_so_reaches_21 RW post 1 u)
set_option maxRecDepth 100000 in
set_option maxHeartbeats 4000000 in
theorem k_so_reaches_12 {p : Program} {l : Launch} {e : Env} {R : Room} {s : State} {m : MethodId} {args : Array Value} {below : List Frame} {meth : Method} {c : Code} {D : va_G} {A : Nat → Prop} {ad : Nat → Nat} {ca : Nat → ClassId} {d : Nat} {RW : Int32 → Int32 → Int32 → Int32 → ZS → (Int32 → ZS → Prop) → Prop} (hR : ∀ (a0 a2 a3 a4 : Int32) (u : ZS) (post : Int32 → ZS → Prop), RW a0 a2 a3 a4 u post → zI l y_so_reachesWith (Cond.code y_so_reachesWith c_so_reachesWith 7 (some .boolean) :: zG) (soW d) D (cT ca) zNs (cW ad ca) [.int a0, .ref (ad 3), .int a2, .int a3, .int a4] u post)  {post : Int32 → ZS → Prop} (cx : zx p R s m args meth c c_so_reaches 11 (soR (d + 1)).frames (soR (d + 1)).locals "ShortBridge$Solver" (some .boolean) zG zNs D (cT ca)) {v2 : Int32} {u : ZS} {H : Heap} {locs : List Loc} {ls : Array Slot} (hI : zw D A s.heap (cW ad ca u) H locs) (hl : lv_has ls 11 [(2, .int v2)]) (h : b_so_reaches_12 RW post v2 u) : W p l e R s m args below meth c H locs 0 0 (MQ below (va_Qi post (zE D (cT ca) (cW ad ca) A) A) args s 0 0 A) (F0 m 12 ls []) := by
  have cx0 := cx
  obtain ⟨hx, hb, hml, hown, hts, hN, hK, hr, hlk, hfr, hlc⟩ := cx
  unfold b_so_reaches_12 at h
  refine lv_iload_n hx hb d_so_reaches_12 rfl (lv_at hl 0 rfl) ?_
  refine lv_if_gt hx hb d_so_reaches_13 rfl (fun hc => ?_) (fun hc => ?_)
  · have h := h.1 hc
    refine lv_iconst (v := 0) hx hb d_so_reaches_20 zc_iconst_0 ?_
    exact k_so_reaches_21 hR cx0  hI (lv_sub hl [] rfl) h
  · have h := h.2 hc
    refine lv_iconst (v := 1) hx hb d_so_reaches_16 zc_iconst_1 ?_
    refine lv_goto hx hb d_so_reaches_17 rfl ?_
    exact k_so_reaches_21 hR cx0  hI (lv_sub hl [] rfl) h
def b_so_reaches_145  (RW : Int32 → Int32 → Int32 → Int32 → ZS → (Int32 → ZS → Prop) → Prop) (post : Int32 → ZS → Prop) (s0 : Int32) (u : ZS) : Prop := (s0 = 0 ∨ s0 = 1) ∧ post s0 u
set_option maxRecDepth 100000 in
set_option maxHeartbeats 4000000 in
theorem k_so_reaches_145 {p : Program} {l : Launch} {e : Env} {R : Room} {s : State} {m : MethodId} {args : Array Value} {below : List Frame} {meth : Method} {c : Code} {D : va_G} {A : Nat → Prop} {ad : Nat → Nat} {ca : Nat → ClassId} {d : Nat} {RW : Int32 → Int32 → Int32 → Int32 → ZS → (Int32 → ZS → Prop) → Prop} (hR : ∀ (a0 a2 a3 a4 : Int32) (u : ZS) (post : Int32 → ZS → Prop), RW a0 a2 a3 a4 u post → zI l y_so_reachesWith (Cond.code y_so_reachesWith c_so_reachesWith 7 (some .boolean) :: zG) (soW d) D (cT ca) zNs (cW ad ca) [.int a0, .ref (ad 3), .int a2, .int a3, .int a4] u post)  {post : Int32 → ZS → Prop} (cx : zx p R s m args meth c c_so_reaches 11 (soR (d + 1)).frames (soR (d + 1)).locals "ShortBridge$Solver" (some .boolean) zG zNs D (cT ca)) {s0 : Int32} {u : ZS} {H : Heap} {locs : List Loc} {ls : Array Slot} (hI : zw D A s.heap (cW ad ca u) H locs) (hl : lv_has ls 11 []) (h : b_so_reaches_145 RW post s0 u) : W p l e R s m args below meth c H locs 0 0 (MQ below (va_Qi post (zE D (cT ca) (cW ad ca) A) A) args s 0 0 A) (F0 m 145 ls [.int s0]) := by
  have cx0 := cx
  obtain ⟨hx, hb, hml, hown, hts, hN, hK, hr, hlk, hfr, hlc⟩ := cx
  unfold b_so_reaches_145 at h
  exact zret_z hx hb hr hlk hK hI h.1 h.2 d_so_reaches_145
def b_so_reaches_129 (r65 : Int32 → Int32 → Int32 → Int32 → Int32 → Int32 → Int32 → Int32 → Int32 → ZS → Prop) (RW : Int32 → Int32 → Int32 → Int32 → ZS → (Int32 → ZS → Prop) → Prop) (post : Int32 → ZS → Prop) (v1 : Int32) (v2 : Int32) (v3 : Int32) (v4 : Int32) (v5 : Int32) (v6 : Int32) (v7 : Int32) (v8 : Int32) (v9 : Int32) (u : ZS) : Prop := r65 v1 v2 v3 v4 v5 v6 v7 v8 (v9 + 1) u
set_option maxRecDepth 100000 in
set_option maxHeartbeats 4000000 in
theorem k_so_reaches_129 {p : Program} {l : Launch} {e : Env} {R : Room} {s : State} {m : MethodId} {args : Array Value} {below : List Frame} {meth : Method} {c : Code} {D : va_G} {A : Nat → Prop} {ad : Nat → Nat} {ca : Nat → ClassId} {d : Nat} {RW : Int32 → Int32 → Int32 → Int32 → ZS → (Int32 → ZS → Prop) → Prop} (hR : ∀ (a0 a2 a3 a4 : Int32) (u : ZS) (post : Int32 → ZS → Prop), RW a0 a2 a3 a4 u post → zI l y_so_reachesWith (Cond.code y_so_reachesWith c_so_reachesWith 7 (some .boolean) :: zG) (soW d) D (cT ca) zNs (cW ad ca) [.int a0, .ref (ad 3), .int a2, .int a3, .int a4] u post) {r65 : Int32 → Int32 → Int32 → Int32 → Int32 → Int32 → Int32 → Int32 → Int32 → ZS → Prop} {post : Int32 → ZS → Prop} (cx : zx p R s m args meth c c_so_reaches 11 (soR (d + 1)).frames (soR (d + 1)).locals "ShortBridge$Solver" (some .boolean) zG zNs D (cT ca)) (hk65 : ∀ (v1 : Int32) (v2 : Int32) (v3 : Int32) (v4 : Int32) (v5 : Int32) (v6 : Int32) (v7 : Int32) (v8 : Int32) (v9 : Int32) (u : ZS) (H : Heap) (locs : List Loc) (ls : Array Slot), zw D A s.heap (cW ad ca u) H locs → lv_has ls 11 [(0, .ref (ad 3)), (1, .int v1), (2, .int v2), (3, .int v3), (4, .int v4), (5, .int v5), (6, .int v6), (7, .int v7), (8, .int v8), (9, .int v9)] → r65 v1 v2 v3 v4 v5 v6 v7 v8 v9 u → W p l e R s m args below meth c H locs 0 0 (MQ below (va_Qi post (zE D (cT ca) (cW ad ca) A) A) args s 0 0 A) (F0 m 65 ls [])) {v1 : Int32} {v2 : Int32} {v3 : Int32} {v4 : Int32} {v5 : Int32} {v6 : Int32} {v7 : Int32} {v8 : Int32} {v9 : Int32} {u : ZS} {H : Heap} {locs : List Loc} {ls : Array Slot} (hI : zw D A s.heap (cW ad ca u) H locs) (hl : lv_has ls 11 [(0, .ref (ad 3)), (1, .int v1), (2, .int v2), (3, .int v3), (4, .int v4), (5, .int v5), (6, .int v6), (7, .int v7), (8, .int v8), (9, .int v9)]) (h : b_so_reaches_129 r65 RW post v1 v2 v3 v4 v5 v6 v7 v8 v9 u) : W p l e R s m args below meth c H locs 0 0 (MQ below (va_Qi post (zE D (cT ca) (cW ad ca) A) A) args s 0 0 A) (F0 m 129 ls []) := by
  have cx0 := cx
  obtain ⟨hx, hb, hml, hown, hts, hN, hK, hr, hlk, hfr, hlc⟩ := cx
  unfold b_so_reaches_129 at h
  refine lv_iinc (k := 9) (v := (v9 + 1)) hx hb d_so_reaches_129 hl rfl (zi_1 _) (by decide) rfl ?_
  intro ls hl
  have hl : lv_has ls 11 [(9, .int (v9 + 1)), (0, .ref (ad 3)), (1, .int v1), (2, .int v2), (3, .int v3), (4, .int v4), (5, .int v5), (6, .int v6), (7, .int v7), (8, .int v8)] := hl
  refine lv_goto hx hb d_so_reaches_132 rfl ?_
  exact hk65 _ _ _ _ _ _ _ _ _ _ _ _ _ hI (lv_sub hl [1, 2, 3, 4, 5, 6, 7, 8, 9, 0] rfl) h
def b_so_reaches_125 (r65 : Int32 → Int32 → Int32 → Int32 → Int32 → Int32 → Int32 → Int32 → Int32 → ZS → Prop) (RW : Int32 → Int32 → Int32 → Int32 → ZS → (Int32 → ZS → Prop) → Prop) (post : Int32 → ZS → Prop) (v1 : Int32) (v2 : Int32) (v3 : Int32) (v4 : Int32) (v5 : Int32) (v6 : Int32) (v7 : Int32) (v9 : Int32) (v10 : Int32) (u : ZS) : Prop := b_so_reaches_129 r65 RW post v1 v2 v3 v4 v5 v6 v7 v10 v9 u
set_option maxRecDepth 100000 in
set_option maxHeartbeats 4000000 in
theorem k_so_reaches_125 {p : Program} {l : Launch} {e : Env} {R : Room} {s : State} {m : MethodId} {args : Array Value} {below : List Frame} {meth : Method} {c : Code} {D : va_G} {A : Nat → Prop} {ad : Nat → Nat} {ca : Nat → ClassId} {d : Nat} {RW : Int32 → Int32 → Int32 → Int32 → ZS → (Int32 → ZS → Prop) → Prop} (hR : ∀ (a0 a2 a3 a4 : Int32) (u : ZS) (post : Int32 → ZS → Prop), RW a0 a2 a3 a4 u post → zI l y_so_reachesWith (Cond.code y_so_reachesWith c_so_reachesWith 7 (some .boolean) :: zG) (soW d) D (cT ca) zNs (cW ad ca) [.int a0, .ref (ad 3), .int a2, .int a3, .int a4] u post) {r65 : Int32 → Int32 → Int32 → Int32 → Int32 → Int32 → Int32 → Int32 → Int32 → ZS → Prop} {post : Int32 → ZS → Prop} (cx : zx p R s m args meth c c_so_reaches 11 (soR (d + 1)).frames (soR (d + 1)).locals "ShortBridge$Solver" (some .boolean) zG zNs D (cT ca)) (hk65 : ∀ (v1 : Int32) (v2 : Int32) (v3 : Int32) (v4 : Int32) (v5 : Int32) (v6 : Int32) (v7 : Int32) (v8 : Int32) (v9 : Int32) (u : ZS) (H : Heap) (locs : List Loc) (ls : Array Slot), zw D A s.heap (cW ad ca u) H locs → lv_has ls 11 [(0, .ref (ad 3)), (1, .int v1), (2, .int v2), (3, .int v3), (4, .int v4), (5, .int v5), (6, .int v6), (7, .int v7), (8, .int v8), (9, .int v9)] → r65 v1 v2 v3 v4 v5 v6 v7 v8 v9 u → W p l e R s m args below meth c H locs 0 0 (MQ below (va_Qi post (zE D (cT ca) (cW ad ca) A) A) args s 0 0 A) (F0 m 65 ls [])) {v1 : Int32} {v2 : Int32} {v3 : Int32} {v4 : Int32} {v5 : Int32} {v6 : Int32} {v7 : Int32} {v9 : Int32} {v10 : Int32} {u : ZS} {H : Heap} {locs : List Loc} {ls : Array Slot} (hI : zw D A s.heap (cW ad ca u) H locs) (hl : lv_has ls 11 [(0, .ref (ad 3)), (1, .int v1), (2, .int v2), (3, .int v3), (4, .int v4), (5, .int v5), (6, .int v6), (7, .int v7), (9, .int v9), (10, .int v10)]) (h : b_so_reaches_125 r65 RW post v1 v2 v3 v4 v5 v6 v7 v9 v10 u) : W p l e R s m args below meth c H locs 0 0 (MQ below (va_Qi post (zE D (cT ca) (cW ad ca) A) A) args s 0 0 A) (F0 m 125 ls []) := by
  have cx0 := cx
  obtain ⟨hx, hb, hml, hown, hts, hN, hK, hr, hlk, hfr, hlc⟩ := cx
  unfold b_so_reaches_125 at h
  refine lv_iload hx hb d_so_reaches_125 (lv_at hl 9 rfl) ?_
  refine lv_istore hx hb d_so_reaches_127 hl (by decide) rfl ?_
  intro ls hl
  have hl : lv_has ls 11 [(8, .int v10), (0, .ref (ad 3)), (1, .int v1), (2, .int v2), (3, .int v3), (4, .int v4), (5, .int v5), (6, .int v6), (7, .int v7), (9, .int v9), (10, .int v10)] := hl
  exact k_so_reaches_129 hR cx0 hk65 hI (lv_sub hl [1, 2, 3, 4, 5, 6, 7, 8, 0, 9] rfl) h
def b_so_reaches_65  (RW : Int32 → Int32 → Int32 → Int32 → ZS → (Int32 → ZS → Prop) → Prop) (post : Int32 → ZS → Prop) : Nat → Int32 → Int32 → Int32 → Int32 → Int32 → Int32 → Int32 → Int32 → Int32 → ZS → Prop
  | 0, _, _, _, _, _, _, _, _, _, _ => False
  | n + 1, v1, v2, v3, v4, v5, v6, v7, v8, v9, u => (((v4 + 1) * 5) ≤ v9 → (¬ v5 = 0 → b_so_reaches_145 RW post 0 u) ∧ (v5 = 0 → b_so_reaches_145 RW post 1 u)) ∧ (¬ (((v4 + 1) * 5) ≤ v9) → vp_in v9 20 ∧ ((¬ ((v6 >>> ((aI u 5 (Int32.toNatClampNeg v9)) &&& 31)) &&& 1) = 1 → b_so_reaches_129 (b_so_reaches_65 RW post n) RW post v1 v2 v3 v4 v5 v6 v7 v8 v9 u) ∧ (((v6 >>> ((aI u 5 (Int32.toNatClampNeg v9)) &&& 31)) &&& 1) = 1 → w_so_areAlike (aI u 5 (Int32.toNatClampNeg v9)) v8 v7 u (fun r1 u2 => (¬ r1 = 0 → b_so_reaches_125 (b_so_reaches_65 RW post n) RW post v1 v2 v3 v4 v5 v6 v7 v9 (aI u 5 (Int32.toNatClampNeg v9)) u2) ∧ (r1 = 0 → RW (aI u 5 (Int32.toNatClampNeg v9)) v1 v2 v3 u2 (fun r3 u4 => (¬ r3 = v5 → b_so_reaches_125 (b_so_reaches_65 RW post n) RW post v1 v2 v3 v4 v5 v6 v7 v9 (aI u 5 (Int32.toNatClampNeg v9)) u4) ∧ (r3 = v5 → (v5 = 0 ∨ v5 = 1) ∧ post v5 u4)))))))
set_option maxRecDepth 100000 in
set_option maxHeartbeats 4000000 in
theorem k_so_reaches_65 {p : Program} {l : Launch} {e : Env} {R : Room} {s : State} {m : MethodId} {args : Array Value} {below : List Frame} {meth : Method} {c : Code} {D : va_G} {A : Nat → Prop} {ad : Nat → Nat} {ca : Nat → ClassId} {d : Nat} {RW : Int32 → Int32 → Int32 → Int32 → ZS → (Int32 → ZS → Prop) → Prop} (hR : ∀ (a0 a2 a3 a4 : Int32) (u : ZS) (post : Int32 → ZS → Prop), RW a0 a2 a3 a4 u post → zI l y_so_reachesWith (Cond.code y_so_reachesWith c_so_reachesWith 7 (some .boolean) :: zG) (soW d) D (cT ca) zNs (cW ad ca) [.int a0, .ref (ad 3), .int a2, .int a3, .int a4] u post)  {post : Int32 → ZS → Prop} (cx : zx p R s m args meth c c_so_reaches 11 (soR (d + 1)).frames (soR (d + 1)).locals "ShortBridge$Solver" (some .boolean) zG zNs D (cT ca)) : ∀ (n : Nat) (v1 : Int32) (v2 : Int32) (v3 : Int32) (v4 : Int32) (v5 : Int32) (v6 : Int32) (v7 : Int32) (v8 : Int32) (v9 : Int32) (u : ZS) (H : Heap) (locs : List Loc) (ls : Array Slot), zw D A s.heap (cW ad ca u) H locs → lv_has ls 11 [(0, .ref (ad 3)), (1, .int v1), (2, .int v2), (3, .int v3), (4, .int v4), (5, .int v5), (6, .int v6), (7, .int v7), (8, .int v8), (9, .int v9)] → b_so_reaches_65 RW post n v1 v2 v3 v4 v5 v6 v7 v8 v9 u → W p l e R s m args below meth c H locs 0 0 (MQ below (va_Qi post (zE D (cT ca) (cW ad ca) A) A) args s 0 0 A) (F0 m 65 ls []) := by
  have cx0 := cx
  obtain ⟨hx, hb, hml, hown, hts, hN, hK, hr, hlk, hfr, hlc⟩ := cx
  intro n
  induction n with
  | zero => intro v1 v2 v3 v4 v5 v6 v7 v8 v9 u H locs ls hI hl h; exact (h : False).elim
  | succ n ih =>
    intro v1 v2 v3 v4 v5 v6 v7 v8 v9 u H locs ls hI hl h
    unfold b_so_reaches_65 at h
    refine lv_iload hx hb d_so_reaches_65 (lv_at hl 9 rfl) ?_
    refine lv_iload hx hb d_so_reaches_67 (lv_at hl 4 rfl) ?_
    refine lv_iconst (v := 1) hx hb d_so_reaches_69 zc_iconst_1 ?_
    refine lv_iadd hx hb d_so_reaches_70 ?_
    refine lv_iconst (v := 5) hx hb d_so_reaches_71 zc_iconst_5 ?_
    refine lv_imul hx hb d_so_reaches_72 ?_
    refine lv_icmp_ge hx hb d_so_reaches_73 rfl (fun hc => ?_) (fun hc => ?_)
    · have h := h.1 hc
      refine lv_iload hx hb d_so_reaches_135 (lv_at hl 5 rfl) ?_
      refine lv_if_ne hx hb d_so_reaches_137 rfl (fun hc => ?_) (fun hc => ?_)
      · have h := h.1 hc
        refine lv_iconst (v := 0) hx hb d_so_reaches_144 zc_iconst_0 ?_
        exact k_so_reaches_145 hR cx0  hI (lv_sub hl [] rfl) h
      · have h := h.2 hc
        refine lv_iconst (v := 1) hx hb d_so_reaches_140 zc_iconst_1 ?_
        refine lv_goto hx hb d_so_reaches_141 rfl ?_
        exact k_so_reaches_145 hR cx0  hI (lv_sub hl [] rfl) h
    · have h := h.2 hc
      refine lv_aload_n hx hb d_so_reaches_76 rfl (lv_at hl 0 rfl) ?_
      refine cg_Hands_cards_n hx hb hts hown hK hI (va_Nw.use rfl (hN _ nw_6)) d_so_reaches_77 ?_
      refine lv_iload hx hb d_so_reaches_80 (lv_at hl 9 rfl) ?_
      obtain ⟨hi, h⟩ := h
      refine ca_cards hx hb hK hI hi d_so_reaches_82 ?_
      refine lv_istore hx hb d_so_reaches_83 hl (by decide) rfl ?_
      intro ls hl
      have hl : lv_has ls 11 [(10, .int (aI u 5 (Int32.toNatClampNeg v9))), (0, .ref (ad 3)), (1, .int v1), (2, .int v2), (3, .int v3), (4, .int v4), (5, .int v5), (6, .int v6), (7, .int v7), (8, .int v8), (9, .int v9)] := hl
      refine lv_iload hx hb d_so_reaches_85 (lv_at hl 7 rfl) ?_
      refine lv_iload hx hb d_so_reaches_87 (lv_at hl 0 rfl) ?_
      refine lv_ishr hx hb d_so_reaches_89 ?_
      refine lv_iconst (v := 1) hx hb d_so_reaches_90 zc_iconst_1 ?_
      refine lv_iand hx hb d_so_reaches_91 ?_
      refine lv_iconst (v := 1) hx hb d_so_reaches_92 zc_iconst_1 ?_
      refine lv_icmp_ne hx hb d_so_reaches_93 rfl (fun hc => ?_) (fun hc => ?_)
      · have h := h.1 hc
        exact k_so_reaches_129 hR cx0 ih hI (lv_sub hl [1, 2, 3, 4, 5, 6, 7, 8, 9, 10] rfl) h
      · have h := h.2 hc
        refine lv_iload hx hb d_so_reaches_96 (lv_at hl 0 rfl) ?_
        refine lv_iload hx hb d_so_reaches_98 (lv_at hl 9 rfl) ?_
        refine lv_iload hx hb d_so_reaches_100 (lv_at hl 8 rfl) ?_
        refine zr_i (va_runS (As := [.int (aI u 5 (Int32.toNatClampNeg v9)), .int v8, .int v7]) (rest := []) ⟨hx, hb, hml, hown, hts⟩ (t_so_areAlike l D ad ca h _) (va_cwS 3 hts (zg_S q_573 q_574 q_53 q_575) rfl rfl rfl hd_so_areAlike ⟨Nat.le_trans (show 1 + 1 ≤ 2 * (d + 1) + 10 by omega) hfr, Nat.le_trans (show 8 + (4 + 11) + 12 ≤ 56 * (d + 1) + 300 by omega) hlc⟩) (z_preS zNs_ok hK hN hI _) rfl rfl hl.1 rfl (lv_room (Nat.le_of_ble_eq_true rfl)) d_so_reaches_102 ⟨Nat.zero_le _, Nat.zero_le _⟩) hI ?_
        intro r1 u2 H locs h hI
        refine lv_if_ne hx hb d_so_reaches_105 rfl (fun hc => ?_) (fun hc => ?_)
        · have h := h.1 hc
          exact k_so_reaches_125 hR cx0 ih hI (lv_sub hl [1, 2, 3, 4, 5, 6, 7, 8, 10, 0] rfl) h
        · have h := h.2 hc
          refine lv_iload hx hb d_so_reaches_108 (lv_at hl 0 rfl) ?_
          refine lv_aload_n hx hb d_so_reaches_110 rfl (lv_at hl 1 rfl) ?_
          refine lv_iload_n hx hb d_so_reaches_111 rfl (lv_at hl 2 rfl) ?_
          refine lv_iload_n hx hb d_so_reaches_112 rfl (lv_at hl 3 rfl) ?_
          refine lv_iload_n hx hb d_so_reaches_113 rfl (lv_at hl 4 rfl) ?_
          refine zr_i (va_runS (As := [.int (aI u 5 (Int32.toNatClampNeg v9)), .ref (ad 3), .int v1, .int v2, .int v3]) (rest := []) ⟨hx, hb, hml, hown, hts⟩ (hR _ _ _ _ _ _ h _) (va_cwS 5 hts (zg_S q_576 q_577 q_53 q_578) rfl rfl rfl hd_so_reachesWith ⟨Nat.le_trans (show (soW d).frames + 1 ≤ 2 * (d + 1) + 10 by simp only [soR, soW]; omega) hfr, Nat.le_trans (show 8 + (7 + 11) + (soW d).locals ≤ 56 * (d + 1) + 300 by simp only [soR, soW]; omega) hlc⟩) (z_preS zNs_ok hK hN hI _) rfl rfl hl.1 rfl (lv_room (Nat.le_of_ble_eq_true rfl)) d_so_reaches_114 ⟨Nat.zero_le _, Nat.zero_le _⟩) hI ?_
          intro r3 u4 H locs h hI
          refine lv_iload hx hb d_so_reaches_117 (lv_at hl 6 rfl) ?_
          refine lv_icmp_ne hx hb d_so_reaches_119 rfl (fun hc => ?_) (fun hc => ?_)
          · have h := h.1 hc
            exact k_so_reaches_125 hR cx0 ih hI (lv_sub hl [1, 2, 3, 4, 5, 6, 7, 8, 10, 0] rfl) h
          · have h := h.2 hc
            refine lv_iload hx hb d_so_reaches_122 (lv_at hl 6 rfl) ?_
            exact zret_z hx hb hr hlk hK hI h.1 h.2 d_so_reaches_124
def b_so_reaches_42  (RW : Int32 → Int32 → Int32 → Int32 → ZS → (Int32 → ZS → Prop) → Prop) (post : Int32 → ZS → Prop) (v1 : Int32) (v2 : Int32) (v3 : Int32) (v4 : Int32) (s0 : Int32) (u : ZS) : Prop := w_ha_allowed  u (fun r5 u6 => w_ha_live  u6 (fun r7 u8 => ∃ n0, b_so_reaches_65 RW post n0 v1 v2 v3 v4 s0 r5 r7 (-1 : Int32) (v4 * 5) u8))
set_option maxRecDepth 100000 in
set_option maxHeartbeats 4000000 in
theorem k_so_reaches_42 {p : Program} {l : Launch} {e : Env} {R : Room} {s : State} {m : MethodId} {args : Array Value} {below : List Frame} {meth : Method} {c : Code} {D : va_G} {A : Nat → Prop} {ad : Nat → Nat} {ca : Nat → ClassId} {d : Nat} {RW : Int32 → Int32 → Int32 → Int32 → ZS → (Int32 → ZS → Prop) → Prop} (hR : ∀ (a0 a2 a3 a4 : Int32) (u : ZS) (post : Int32 → ZS → Prop), RW a0 a2 a3 a4 u post → zI l y_so_reachesWith (Cond.code y_so_reachesWith c_so_reachesWith 7 (some .boolean) :: zG) (soW d) D (cT ca) zNs (cW ad ca) [.int a0, .ref (ad 3), .int a2, .int a3, .int a4] u post)  {post : Int32 → ZS → Prop} (cx : zx p R s m args meth c c_so_reaches 11 (soR (d + 1)).frames (soR (d + 1)).locals "ShortBridge$Solver" (some .boolean) zG zNs D (cT ca)) {v1 : Int32} {v2 : Int32} {v3 : Int32} {v4 : Int32} {s0 : Int32} {u : ZS} {H : Heap} {locs : List Loc} {ls : Array Slot} (hI : zw D A s.heap (cW ad ca u) H locs) (hl : lv_has ls 11 [(0, .ref (ad 3)), (1, .int v1), (2, .int v2), (3, .int v3), (4, .int v4)]) (h : b_so_reaches_42 RW post v1 v2 v3 v4 s0 u) : W p l e R s m args below meth c H locs 0 0 (MQ below (va_Qi post (zE D (cT ca) (cW ad ca) A) A) args s 0 0 A) (F0 m 42 ls [.int s0]) := by
  have cx0 := cx
  obtain ⟨hx, hb, hml, hown, hts, hN, hK, hr, hlk, hfr, hlc⟩ := cx
  unfold b_so_reaches_42 at h
  refine lv_istore hx hb d_so_reaches_42 hl (by decide) rfl ?_
  intro ls hl
  have hl : lv_has ls 11 [(5, .int s0), (0, .ref (ad 3)), (1, .int v1), (2, .int v2), (3, .int v3), (4, .int v4)] := hl
  refine lv_aload_n hx hb d_so_reaches_44 rfl (lv_at hl 1 rfl) ?_
  refine zr_i (va_runV (As := []) (rest := []) ⟨hx, hb, hml, hown, hts⟩ (t_ha_allowed l D ad ca h _) (cwV 0 hts (zg_V q_568 q_498 q_499 q_42 q_500) rfl rfl rfl ⟨rfl, hd_ha_allowed⟩ ⟨Nat.le_trans (show 3 + 1 ≤ 2 * (d + 1) + 10 by omega) hfr, Nat.le_trans (show 8 + (4 + 11) + 53 ≤ 56 * (d + 1) + 300 by omega) hlc⟩) (z_preV zNs_ok hK hN hI 3 3 rfl rfl _) rfl rfl hl.1 rfl (lv_room (Nat.le_of_ble_eq_true rfl)) d_so_reaches_45 ⟨Nat.zero_le _, Nat.zero_le _⟩) hI ?_
  intro r5 u6 H locs h hI
  refine lv_istore hx hb d_so_reaches_48 hl (by decide) rfl ?_
  intro ls hl
  have hl : lv_has ls 11 [(6, .int r5), (5, .int s0), (0, .ref (ad 3)), (1, .int v1), (2, .int v2), (3, .int v3), (4, .int v4)] := hl
  refine lv_aload_n hx hb d_so_reaches_50 rfl (lv_at hl 2 rfl) ?_
  refine zr_i (va_runV (As := []) (rest := []) ⟨hx, hb, hml, hown, hts⟩ (t_ha_live l D ad ca h _) (cwV 0 hts (zg_V q_569 q_570 q_571 q_42 q_572) rfl rfl rfl ⟨rfl, hd_ha_live⟩ ⟨Nat.le_trans (show 1 + 1 ≤ 2 * (d + 1) + 10 by omega) hfr, Nat.le_trans (show 8 + (3 + 11) + 12 ≤ 56 * (d + 1) + 300 by omega) hlc⟩) (z_preV zNs_ok hK hN hI 3 3 rfl rfl _) rfl rfl hl.1 rfl (lv_room (Nat.le_of_ble_eq_true rfl)) d_so_reaches_51 ⟨Nat.zero_le _, Nat.zero_le _⟩) hI ?_
  intro r7 u8 H locs h hI
  refine lv_istore hx hb d_so_reaches_54 hl (by decide) rfl ?_
  intro ls hl
  have hl : lv_has ls 11 [(7, .int r7), (6, .int r5), (5, .int s0), (0, .ref (ad 3)), (1, .int v1), (2, .int v2), (3, .int v3), (4, .int v4)] := hl
  refine lv_iconst (v := (-1)) hx hb d_so_reaches_56 zc_iconst_m1 ?_
  refine lv_istore hx hb d_so_reaches_57 hl (by decide) rfl ?_
  intro ls hl
  have hl : lv_has ls 11 [(8, .int (-1 : Int32)), (7, .int r7), (6, .int r5), (5, .int s0), (0, .ref (ad 3)), (1, .int v1), (2, .int v2), (3, .int v3), (4, .int v4)] := hl
  refine lv_iload hx hb d_so_reaches_59 (lv_at hl 8 rfl) ?_
  refine lv_iconst (v := 5) hx hb d_so_reaches_61 zc_iconst_5 ?_
  refine lv_imul hx hb d_so_reaches_62 ?_
  refine lv_istore hx hb d_so_reaches_63 hl (by decide) rfl ?_
  intro ls hl
  have hl : lv_has ls 11 [(9, .int (v4 * 5)), (8, .int (-1 : Int32)), (7, .int r7), (6, .int r5), (5, .int s0), (0, .ref (ad 3)), (1, .int v1), (2, .int v2), (3, .int v3), (4, .int v4)] := hl
  obtain ⟨n0, h⟩ := h
  exact k_so_reaches_65 hR cx0  n0 _ _ _ _ _ _ _ _ _ _ _ _ _ hI (lv_sub hl [5, 6, 7, 8, 9, 4, 3, 2, 1, 0] rfl) h
def w_so_reachesB (RW : Int32 → Int32 → Int32 → Int32 → ZS → (Int32 → ZS → Prop) → Prop) (v1 : Int32) (v2 : Int32) (v3 : Int32) (u : ZS) (post : Int32 → ZS → Prop) : Prop := (v2 ≤ 0 → b_so_reaches_12 RW post v2 u) ∧ (¬ (v2 ≤ 0) → w_so_tricksIn v3 u (fun r9 u10 => (v2 ≤ r9 → w_ha_player  u10 (fun r11 u12 => w_x_sideOf r11 u12 (fun r13 u14 => (¬ r13 = v1 → b_so_reaches_42 RW post v1 v2 v3 r11 0 u14) ∧ (r13 = v1 → b_so_reaches_42 RW post v1 v2 v3 r11 1 u14)))) ∧ (¬ (v2 ≤ r9) → b_so_reaches_12 RW post v2 u10)))
set_option maxRecDepth 100000 in
set_option maxHeartbeats 4000000 in
theorem t_so_reachesB (l : Launch) (D : va_G) (ad : Nat → Nat) (ca : Nat → ClassId) (d : Nat) {RW : Int32 → Int32 → Int32 → Int32 → ZS → (Int32 → ZS → Prop) → Prop} (hR : ∀ (a0 a2 a3 a4 : Int32) (u : ZS) (post : Int32 → ZS → Prop), RW a0 a2 a3 a4 u post → zI l y_so_reachesWith (Cond.code y_so_reachesWith c_so_reachesWith 7 (some .boolean) :: zG) (soW d) D (cT ca) zNs (cW ad ca) [.int a0, .ref (ad 3), .int a2, .int a3, .int a4] u post) {v1 : Int32} {v2 : Int32} {v3 : Int32} {u : ZS} {post : Int32 → ZS → Prop} (h : w_so_reachesB RW v1 v2 v3 u post) : zI l y_so_reaches (Cond.code y_so_reaches c_so_reaches 11 (some .boolean) :: zG) (soR (d + 1)) D (cT ca) zNs (cW ad ca) [.ref (ad 3), .int v1, .int v2, .int v3] u post := by
  refine zI_of (cc := c_so_reaches) (maxL := 11) (ret := (some .boolean)) (by decide) (Nat.le_of_ble_eq_true rfl) ?_
  intro p e s m args below meth c ls A cx hI hl
  have cx0 := cx
  obtain ⟨hx, hb, hml, hown, hts, hN, hK, hr, hlk, hfr, hlc⟩ := cx
  have hl : lv_has ls 11 [(0, .ref (ad 3)), (1, .int v1), (2, .int v2), (3, .int v3)] := hl
  unfold w_so_reachesB at h
  refine lv_iload_n hx hb d_so_reaches_0 rfl (lv_at hl 2 rfl) ?_
  refine lv_if_le hx hb d_so_reaches_1 rfl (fun hc => ?_) (fun hc => ?_)
  · have h := h.1 hc
    exact k_so_reaches_12 hR cx0  hI (lv_sub hl [2] rfl) h
  · have h := h.2 hc
    refine lv_iload_n hx hb d_so_reaches_4 rfl (lv_at hl 2 rfl) ?_
    refine lv_iload_n hx hb d_so_reaches_5 rfl (lv_at hl 3 rfl) ?_
    refine zr_i (va_runS (As := [.int v3]) (rest := [.int v2]) ⟨hx, hb, hml, hown, hts⟩ (t_so_tricksIn l D ad ca h _) (va_cwS 1 hts (zg_S q_560 q_561 q_53 q_562) rfl rfl rfl hd_so_tricksIn ⟨Nat.le_trans (show 1 + 1 ≤ 2 * (d + 1) + 10 by omega) hfr, Nat.le_trans (show 8 + (1 + 11) + 12 ≤ 56 * (d + 1) + 300 by omega) hlc⟩) (z_preS zNs_ok hK hN hI _) rfl rfl hl.1 rfl (lv_room (Nat.le_of_ble_eq_true rfl)) d_so_reaches_6 ⟨Nat.zero_le _, Nat.zero_le _⟩) hI ?_
    intro r9 u10 H locs h hI
    refine lv_icmp_le hx hb d_so_reaches_9 rfl (fun hc => ?_) (fun hc => ?_)
    · have h := h.1 hc
      refine lv_aload_n hx hb d_so_reaches_22 rfl (lv_at hl 0 rfl) ?_
      refine zr_i (va_runV (As := []) (rest := []) ⟨hx, hb, hml, hown, hts⟩ (t_ha_player l D ad ca h _) (cwV 0 hts (zg_V q_566 q_271 q_272 q_42 q_273) rfl rfl rfl ⟨rfl, hd_ha_player⟩ ⟨Nat.le_trans (show 2 + 1 ≤ 2 * (d + 1) + 10 by omega) hfr, Nat.le_trans (show 8 + (1 + 11) + 33 ≤ 56 * (d + 1) + 300 by omega) hlc⟩) (z_preV zNs_ok hK hN hI 3 3 rfl rfl _) rfl rfl hl.1 rfl (lv_room (Nat.le_of_ble_eq_true rfl)) d_so_reaches_23 ⟨Nat.zero_le _, Nat.zero_le _⟩) hI ?_
      intro r11 u12 H locs h hI
      refine lv_istore hx hb d_so_reaches_26 hl (by decide) rfl ?_
      intro ls hl
      have hl : lv_has ls 11 [(4, .int r11), (0, .ref (ad 3)), (1, .int v1), (2, .int v2), (3, .int v3)] := hl
      refine lv_iload hx hb d_so_reaches_28 (lv_at hl 0 rfl) ?_
      refine zr_i (va_runSN (As := [.int r11]) (rest := []) ⟨hx, hb, hml, hown, hts⟩ (t_x_sideOf l D ad ca h _) ⟨va_cnB 1 hts (zg_c q_314) rfl rfl rfl (hN _ nw_16) (hts _ q_39) hd_x_sideOf ⟨Nat.le_trans (show 1 + 1 ≤ 2 * (d + 1) + 10 by omega) hfr, Nat.le_trans (show 8 + (1 + 11) + 12 ≤ 56 * (d + 1) + 300 by omega) hlc⟩, hts _ q_313, trivial⟩ (z_preS zNs_ok hK hN hI _) rfl rfl hl.1 rfl (lv_room (Nat.le_of_ble_eq_true rfl)) d_so_reaches_30 ⟨Nat.zero_le _, Nat.zero_le _⟩) hI ?_
      intro r13 u14 H locs h hI
      refine lv_iload_n hx hb d_so_reaches_33 rfl (lv_at hl 2 rfl) ?_
      refine lv_icmp_ne hx hb d_so_reaches_34 rfl (fun hc => ?_) (fun hc => ?_)
      · have h := h.1 hc
        refine lv_iconst (v := 0) hx hb d_so_reaches_41 zc_iconst_0 ?_
        exact k_so_reaches_42 hR cx0  hI (lv_sub hl [1, 2, 3, 4, 0] rfl) h
      · have h := h.2 hc
        refine lv_iconst (v := 1) hx hb d_so_reaches_37 zc_iconst_1 ?_
        refine lv_goto hx hb d_so_reaches_38 rfl ?_
        exact k_so_reaches_42 hR cx0  hI (lv_sub hl [1, 2, 3, 4, 0] rfl) h
    · have h := h.2 hc
      exact k_so_reaches_12 hR cx0  hI (lv_sub hl [2] rfl) h
def w_so_reaches : Nat → Int32 → Int32 → Int32 → ZS → (Int32 → ZS → Prop) → Prop
  | 0, _, _, _, _, _ => False
  | d + 1, v1, v2, v3, u, post => w_so_reachesB (w_so_reachesWith (w_so_reaches d)) v1 v2 v3 u post
theorem t_so_reaches (l : Launch) (D : va_G) (ad : Nat → Nat) (ca : Nat → ClassId) : ∀ (d : Nat) {v1 v2 v3 : Int32} {u : ZS} {post : Int32 → ZS → Prop}, w_so_reaches d v1 v2 v3 u post → zI l y_so_reaches (Cond.code y_so_reaches c_so_reaches 11 (some .boolean) :: zG) (soR d) D (cT ca) zNs (cW ad ca) [.ref (ad 3), .int v1, .int v2, .int v3] u post
  | 0, _, _, _, _, _, h => (h : False).elim
  | d + 1, _, _, _, _, _, h => t_so_reachesB l D ad ca d (fun _ _ _ _ _ _ h1 => t_so_reachesWith l D ad ca d (fun _ _ _ _ _ h2 => t_so_reaches l D ad ca d h2) h1) h
def b_so_tricksOf_36  (post : Int32 → ZS → Prop) (v1 : Int32) (v3 : Int32) (u : ZS) : Prop := w_ha_won v1 u (fun r1 u2 => post (r1 + v3) u2)
set_option maxRecDepth 100000 in
set_option maxHeartbeats 4000000 in
theorem k_so_tricksOf_36 {p : Program} {l : Launch} {e : Env} {R : Room} {s : State} {m : MethodId} {args : Array Value} {below : List Frame} {meth : Method} {c : Code} {D : va_G} {A : Nat → Prop} {ad : Nat → Nat} {ca : Nat → ClassId}  {post : Int32 → ZS → Prop} (cx : zx p R s m args meth c c_so_tricksOf 4 53 1506 "ShortBridge$Solver" (some .int) zG zNs D (cT ca)) {v1 : Int32} {v3 : Int32} {u : ZS} {H : Heap} {locs : List Loc} {ls : Array Slot} (hI : zw D A s.heap (cW ad ca u) H locs) (hl : lv_has ls 4 [(0, .ref (ad 3)), (1, .int v1), (3, .int v3)]) (h : b_so_tricksOf_36 post v1 v3 u) : W p l e R s m args below meth c H locs 0 0 (MQ below (va_Qi post (zE D (cT ca) (cW ad ca) A) A) args s 0 0 A) (F0 m 36 ls []) := by
  have cx0 := cx
  obtain ⟨hx, hb, hml, hown, hts, hN, hK, hr, hlk, hfr, hlc⟩ := cx
  unfold b_so_tricksOf_36 at h
  refine lv_aload_n hx hb d_so_tricksOf_36 rfl (lv_at hl 0 rfl) ?_
  refine lv_iload_n hx hb d_so_tricksOf_37 rfl (lv_at hl 1 rfl) ?_
  refine zr_i (va_runV (As := [.int v1]) (rest := []) ⟨hx, hb, hml, hown, hts⟩ (t_ha_won l D ad ca h _) (cwV 1 hts (zg_V q_581 q_323 q_324 q_42 q_325) rfl rfl rfl ⟨rfl, hd_ha_won⟩ ⟨Nat.le_trans (by decide) hfr, Nat.le_trans (by decide) hlc⟩) (z_preV zNs_ok hK hN hI 3 3 rfl rfl _) rfl rfl hl.1 rfl (lv_room (Nat.le_of_ble_eq_true rfl)) d_so_tricksOf_38 ⟨Nat.zero_le _, Nat.zero_le _⟩) hI ?_
  intro r1 u2 H locs h hI
  refine lv_iload_n hx hb d_so_tricksOf_41 rfl (lv_at hl 2 rfl) ?_
  refine lv_iadd hx hb d_so_tricksOf_42 ?_
  exact zret_i hx hb hr hlk hK hI h d_so_tricksOf_43
def b_so_tricksOf_10  (post : Int32 → ZS → Prop) : Nat → Int32 → Int32 → Int32 → ZS → Prop
  | 0, _, _, _, _ => False
  | n + 1, v1, v2, v3, u => w_so_tricksIn v2 u (fun r3 u4 => (r3 ≤ v3 → b_so_tricksOf_36 post v1 v3 u4) ∧ (¬ (r3 ≤ v3) → w_so_reaches 21 v1 (v3 + 1) v2 u4 (fun r5 u6 => (r5 = 0 → b_so_tricksOf_36 post v1 v3 u6) ∧ (¬ (r5 = 0) → b_so_tricksOf_10 post n v1 v2 (v3 + 1) u6))))
set_option maxRecDepth 100000 in
set_option maxHeartbeats 4000000 in
theorem k_so_tricksOf_10 {p : Program} {l : Launch} {e : Env} {R : Room} {s : State} {m : MethodId} {args : Array Value} {below : List Frame} {meth : Method} {c : Code} {D : va_G} {A : Nat → Prop} {ad : Nat → Nat} {ca : Nat → ClassId}  {post : Int32 → ZS → Prop} (cx : zx p R s m args meth c c_so_tricksOf 4 53 1506 "ShortBridge$Solver" (some .int) zG zNs D (cT ca)) : ∀ (n : Nat) (v1 : Int32) (v2 : Int32) (v3 : Int32) (u : ZS) (H : Heap) (locs : List Loc) (ls : Array Slot), zw D A s.heap (cW ad ca u) H locs → lv_has ls 4 [(0, .ref (ad 3)), (1, .int v1), (2, .int v2), (3, .int v3)] → b_so_tricksOf_10 post n v1 v2 v3 u → W p l e R s m args below meth c H locs 0 0 (MQ below (va_Qi post (zE D (cT ca) (cW ad ca) A) A) args s 0 0 A) (F0 m 10 ls []) := by
  have cx0 := cx
  obtain ⟨hx, hb, hml, hown, hts, hN, hK, hr, hlk, hfr, hlc⟩ := cx
  intro n
  induction n with
  | zero => intro v1 v2 v3 u H locs ls hI hl h; exact (h : False).elim
  | succ n ih =>
    intro v1 v2 v3 u H locs ls hI hl h
    unfold b_so_tricksOf_10 at h
    refine lv_iload_n hx hb d_so_tricksOf_10 rfl (lv_at hl 3 rfl) ?_
    refine lv_iload_n hx hb d_so_tricksOf_11 rfl (lv_at hl 2 rfl) ?_
    refine zr_i (va_runS (As := [.int v2]) (rest := [.int v3]) ⟨hx, hb, hml, hown, hts⟩ (t_so_tricksIn l D ad ca h _) (va_cwS 1 hts (zg_S q_560 q_561 q_53 q_562) rfl rfl rfl hd_so_tricksIn ⟨Nat.le_trans (by decide) hfr, Nat.le_trans (by decide) hlc⟩) (z_preS zNs_ok hK hN hI _) rfl rfl hl.1 rfl (lv_room (Nat.le_of_ble_eq_true rfl)) d_so_tricksOf_12 ⟨Nat.zero_le _, Nat.zero_le _⟩) hI ?_
    intro r3 u4 H locs h hI
    refine lv_icmp_ge hx hb d_so_tricksOf_15 rfl (fun hc => ?_) (fun hc => ?_)
    · have h := h.1 hc
      exact k_so_tricksOf_36 cx0  hI (lv_sub hl [0, 1, 3] rfl) h
    · have h := h.2 hc
      refine lv_aload_n hx hb d_so_tricksOf_18 rfl (lv_at hl 0 rfl) ?_
      refine lv_iload_n hx hb d_so_tricksOf_19 rfl (lv_at hl 1 rfl) ?_
      refine lv_iload_n hx hb d_so_tricksOf_20 rfl (lv_at hl 3 rfl) ?_
      refine lv_iconst (v := 1) hx hb d_so_tricksOf_21 zc_iconst_1 ?_
      refine lv_iadd hx hb d_so_tricksOf_22 ?_
      refine lv_iload_n hx hb d_so_tricksOf_23 rfl (lv_at hl 2 rfl) ?_
      refine zr_i (va_runS (As := [.ref (ad 3), .int v1, .int (v3 + 1), .int v2]) (rest := []) ⟨hx, hb, hml, hown, hts⟩ (t_so_reaches l D ad ca 21 h _) (va_cwS 4 hts (zg_S q_563 q_564 q_53 q_565) rfl rfl rfl hd_so_reaches ⟨Nat.le_trans (by decide) hfr, Nat.le_trans (by decide) hlc⟩) (z_preS zNs_ok hK hN hI _) rfl rfl hl.1 rfl (lv_room (Nat.le_of_ble_eq_true rfl)) d_so_tricksOf_24 ⟨Nat.zero_le _, Nat.zero_le _⟩) hI ?_
      intro r5 u6 H locs h hI
      refine lv_if_eq hx hb d_so_tricksOf_27 rfl (fun hc => ?_) (fun hc => ?_)
      · have h := h.1 hc
        exact k_so_tricksOf_36 cx0  hI (lv_sub hl [0, 1, 3] rfl) h
      · have h := h.2 hc
        refine lv_iinc (k := 3) (v := (v3 + 1)) hx hb d_so_tricksOf_30 hl rfl (zi_1 _) (by decide) rfl ?_
        intro ls hl
        have hl : lv_has ls 4 [(3, .int (v3 + 1)), (0, .ref (ad 3)), (1, .int v1), (2, .int v2)] := hl
        refine lv_goto hx hb d_so_tricksOf_33 rfl ?_
        exact ih _ _ _ _ _ _ _ hI (lv_sub hl [1, 2, 3, 0] rfl) h
def w_so_tricksOf (v1 : Int32) (u : ZS) (post : Int32 → ZS → Prop) : Prop := ∃ n0, b_so_tricksOf_10 post n0 v1 (20 - (fI u 4)) 0 u
set_option maxRecDepth 100000 in
set_option maxHeartbeats 4000000 in
theorem t_so_tricksOf (l : Launch) (D : va_G) (ad : Nat → Nat) (ca : Nat → ClassId) {v1 : Int32} {u : ZS} {post : Int32 → ZS → Prop} (h : w_so_tricksOf v1 u post) : zI l y_so_tricksOf (Cond.code y_so_tricksOf c_so_tricksOf 4 (some .int) :: zG) { frames := 53, cells := 0, slots := 0, locals := 1506 } D (cT ca) zNs (cW ad ca) [.ref (ad 3), .int v1] u post := by
  refine zI_of (cc := c_so_tricksOf) (maxL := 4) (ret := (some .int)) (by decide) (Nat.le_of_ble_eq_true rfl) ?_
  intro p e s m args below meth c ls A cx hI hl
  have cx0 := cx
  obtain ⟨hx, hb, hml, hown, hts, hN, hK, hr, hlk, hfr, hlc⟩ := cx
  have hl : lv_has ls 4 [(0, .ref (ad 3)), (1, .int v1)] := hl
  unfold w_so_tricksOf at h
  refine lv_bipush (v := 20) hx hb d_so_tricksOf_0 zc_bipush_20 ?_
  refine lv_aload_n hx hb d_so_tricksOf_2 rfl (lv_at hl 0 rfl) ?_
  refine cg_Hands_count_n hx hb hts hown hK hI (va_Nw.use rfl (hN _ nw_7)) d_so_tricksOf_3 ?_
  refine lv_isub hx hb d_so_tricksOf_6 ?_
  refine lv_istore_n hx hb d_so_tricksOf_7 rfl hl (by decide) rfl ?_
  intro ls hl
  have hl : lv_has ls 4 [(2, .int (20 - (fI u 4))), (0, .ref (ad 3)), (1, .int v1)] := hl
  refine lv_iconst (v := 0) hx hb d_so_tricksOf_8 zc_iconst_0 ?_
  refine lv_istore_n hx hb d_so_tricksOf_9 rfl hl (by decide) rfl ?_
  intro ls hl
  have hl : lv_has ls 4 [(3, .int 0), (2, .int (20 - (fI u 4))), (0, .ref (ad 3)), (1, .int v1)] := hl
  obtain ⟨n0, h⟩ := h
  exact k_so_tricksOf_10 cx0  n0 _ _ _ _ _ _ _ hI (lv_sub hl [2, 3, 1, 0] rfl) h
