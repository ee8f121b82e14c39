def b_au_placeOfLatest_7  (post : Int32 → ZS → Prop) : Nat → Int32 → Int32 → ZS → Prop
  | 0, _, _, _ => False
  | n + 1, v1, v2, u => (v2 < 0 → post (-1 : Int32) u) ∧ (¬ (v2 < 0) → vp_in v2 139 ∧ (((aI u 3 (v2).toNatClampNeg) < v1 → b_au_placeOfLatest_7 post n v1 (v2 + (-1)) u) ∧ (¬ ((aI u 3 (v2).toNatClampNeg) < v1) → post v2 u)))
set_option maxRecDepth 100000 in
set_option maxHeartbeats 4000000 in
theorem k_au_placeOfLatest_7 {p : Program} {l : Launch} {e : Env} {R : Room} {s : State} {m : MethodId} {args : Array Value} {below : List Frame} {meth : Method} {c : Code} {D : va_G} {A : Nat → Prop} {ad : Nat → Nat} {ca : Nat → ClassId}  {post : Int32 → ZS → Prop} (cx : zx p R s m args meth c c_au_placeOfLatest 3 1 12 "ShortBridge$Auction" (some .int) zG zNs D (cT ca)) : ∀ (n : Nat) (v1 : Int32) (v2 : Int32) (u : ZS) (H : Heap) (locs : List Loc) (ls : Array Slot), zw D A s.heap (cW ad ca u) H locs → lv_has ls 3 [(0, .ref (ad 2)), (1, .int v1), (2, .int v2)] → b_au_placeOfLatest_7 post n v1 v2 u → W p l e R s m args below meth c H locs 0 0 (MQ below (va_Qi post (zE D (cT ca) (cW ad ca) A) A) args s 0 0 A) (F0 m 7 ls []) := by
  have cx0 := cx
  obtain ⟨hx, hb, hml, hown, hts, hN, hK, hr, hlk, hfr, hlc⟩ := cx
  intro n
  induction n with
  | zero => intro v1 v2 u H locs ls hI hl h; exact (h : False).elim
  | succ n ih =>
    intro v1 v2 u H locs ls hI hl h
    unfold b_au_placeOfLatest_7 at h
    refine lv_iload_n hx hb d_au_placeOfLatest_7 rfl (lv_at hl 2 rfl) ?_
    refine lv_if_lt hx hb d_au_placeOfLatest_8 rfl (fun hc => ?_) (fun hc => ?_)
    · have h := h.1 hc
      refine lv_iconst (v := (-1)) hx hb d_au_placeOfLatest_29 zc_iconst_m1 ?_
      exact zret_i hx hb hr hlk hK hI h d_au_placeOfLatest_30
    · have h := h.2 hc
      refine lv_aload_n hx hb d_au_placeOfLatest_11 rfl (lv_at hl 0 rfl) ?_
      refine cg_Auction_calls hx hb hts hown hK hI (hts _ q_92) d_au_placeOfLatest_12 ?_
      refine lv_iload_n hx hb d_au_placeOfLatest_15 rfl (lv_at hl 2 rfl) ?_
      obtain ⟨hi, h⟩ := h
      refine ca_calls hx hb hK hI hi d_au_placeOfLatest_16 ?_
      refine lv_iload_n hx hb d_au_placeOfLatest_17 rfl (lv_at hl 1 rfl) ?_
      refine lv_icmp_lt hx hb d_au_placeOfLatest_18 rfl (fun hc => ?_) (fun hc => ?_)
      · have h := h.1 hc
        refine lv_iinc (k := 2) (v := (v2 + (-1))) hx hb d_au_placeOfLatest_23 hl rfl (zi_m1 _) (by decide) rfl ?_
        intro ls hl
        have hl : lv_has ls 3 [(2, .int (v2 + (-1))), (0, .ref (ad 2)), (1, .int v1)] := hl
        refine lv_goto hx hb d_au_placeOfLatest_26 rfl ?_
        exact ih _ _ _ _ _ _ hI (lv_sub hl [1, 2, 0] rfl) h
      · have h := h.2 hc
        refine lv_iload_n hx hb d_au_placeOfLatest_21 rfl (lv_at hl 2 rfl) ?_
        exact zret_i hx hb hr hlk hK hI h d_au_placeOfLatest_22
def w_au_placeOfLatest (v1 : Int32) (u : ZS) (post : Int32 → ZS → Prop) : Prop := ∃ n0, b_au_placeOfLatest_7 post n0 v1 ((fI u 2) - 1) u
set_option maxRecDepth 100000 in
set_option maxHeartbeats 4000000 in
theorem t_au_placeOfLatest (l : Launch) (D : va_G) (ad : Nat → Nat) (ca : Nat → ClassId) {v1 : Int32} {u : ZS} {post : Int32 → ZS → Prop} (h : w_au_placeOfLatest v1 u post) : zI l y_au_placeOfLatest (Cond.code y_au_placeOfLatest c_au_placeOfLatest 3 (some .int) :: zG) { frames := 1, cells := 0, slots := 0, locals := 12 } D (cT ca) zNs (cW ad ca) [.ref (ad 2), .int v1] u post := by
  refine zI_of (cc := c_au_placeOfLatest) (maxL := 3) (ret := (some .int)) (by decide) (Nat.le_of_ble_eq_true rfl) ?_
  intro p e s m args below meth c ls A cx hI hl
  have cx0 := cx
  obtain ⟨hx, hb, hml, hown, hts, hN, hK, hr, hlk, hfr, hlc⟩ := cx
  have hl : lv_has ls 3 [(0, .ref (ad 2)), (1, .int v1)] := hl
  unfold w_au_placeOfLatest at h
  refine lv_aload_n hx hb d_au_placeOfLatest_0 rfl (lv_at hl 0 rfl) ?_
  refine cg_Auction_count hx hb hts hown hK hI (hts _ q_93) d_au_placeOfLatest_1 ?_
  refine lv_iconst (v := 1) hx hb d_au_placeOfLatest_4 zc_iconst_1 ?_
  refine lv_isub hx hb d_au_placeOfLatest_5 ?_
  refine lv_istore_n hx hb d_au_placeOfLatest_6 rfl hl (by decide) rfl ?_
  intro ls hl
  have hl : lv_has ls 3 [(2, .int ((fI u 2) - 1)), (0, .ref (ad 2)), (1, .int v1)] := hl
  obtain ⟨n0, h⟩ := h
  exact k_au_placeOfLatest_7 cx0  n0 _ _ _ _ _ _ hI (lv_sub hl [1, 2, 0] rfl) h
def b_au_bid_21  (post : Int32 → ZS → Prop) (s0 : Int32) (u : ZS) : Prop := post s0 u
set_option maxRecDepth 100000 in
set_option maxHeartbeats 4000000 in
theorem k_au_bid_21 {p : Program} {l : Launch} {e : Env} {R : Room} {s : State} {m : MethodId} {args : Array Value} {below : List Frame} {meth : Method} {c : Code} {D : va_G} {A : Nat → Prop} {ad : Nat → Nat} {ca : Nat → ClassId}  {post : Int32 → ZS → Prop} (cx : zx p R s m args meth c c_au_bid 2 2 34 "ShortBridge$Auction" (some .int) zG zNs D (cT ca)) {s0 : Int32} {u : ZS} {H : Heap} {locs : List Loc} {ls : Array Slot} (hI : zw D A s.heap (cW ad ca u) H locs) (hl : lv_has ls 2 []) (h : b_au_bid_21 post s0 u) : W p l e R s m args below meth c H locs 0 0 (MQ below (va_Qi post (zE D (cT ca) (cW ad ca) A) A) args s 0 0 A) (F0 m 21 ls [.int s0]) := by
  have cx0 := cx
  obtain ⟨hx, hb, hml, hown, hts, hN, hK, hr, hlk, hfr, hlc⟩ := cx
  unfold b_au_bid_21 at h
  exact zret_i hx hb hr hlk hK hI h d_au_bid_21
def w_au_bid  (u : ZS) (post : Int32 → ZS → Prop) : Prop := w_au_placeOfLatest 3 u (fun r1 u2 => (¬ r1 = (-1 : Int32) → vp_in r1 139 ∧ (b_au_bid_21 post (aI u2 3 (r1).toNatClampNeg) u2)) ∧ (¬ (¬ r1 = (-1 : Int32)) → b_au_bid_21 post (-1 : Int32) u2))
set_option maxRecDepth 100000 in
set_option maxHeartbeats 4000000 in
theorem t_au_bid (l : Launch) (D : va_G) (ad : Nat → Nat) (ca : Nat → ClassId)  {u : ZS} {post : Int32 → ZS → Prop} (h : w_au_bid  u post) : zI l y_au_bid (Cond.code y_au_bid c_au_bid 2 (some .int) :: zG) { frames := 2, cells := 0, slots := 0, locals := 34 } D (cT ca) zNs (cW ad ca) [.ref (ad 2)] u post := by
  refine zI_of (cc := c_au_bid) (maxL := 2) (ret := (some .int)) (by decide) (Nat.le_of_ble_eq_true rfl) ?_
  intro p e s m args below meth c ls A cx hI hl
  have cx0 := cx
  obtain ⟨hx, hb, hml, hown, hts, hN, hK, hr, hlk, hfr, hlc⟩ := cx
  have hl : lv_has ls 2 [(0, .ref (ad 2))] := hl
  unfold w_au_bid at h
  refine lv_aload_n hx hb d_au_bid_0 rfl (lv_at hl 0 rfl) ?_
  refine lv_iconst (v := 3) hx hb d_au_bid_1 zc_iconst_3 ?_
  refine zr_i (va_runV (As := [.int 3]) (rest := []) ⟨hx, hb, hml, hown, hts⟩ (t_au_placeOfLatest l D ad ca h _) (cwV 1 hts (zg_V q_242 q_244 q_6 q_41 q_245) rfl rfl rfl ⟨rfl, hd_au_placeOfLatest⟩ ⟨Nat.le_trans (by decide) hfr, Nat.le_trans (by decide) hlc⟩) (z_preV zNs_ok hK hN hI 2 2 rfl rfl _) rfl rfl hl.1 rfl (lv_room (Nat.le_of_ble_eq_true rfl)) d_au_bid_2 ⟨Nat.zero_le _, Nat.zero_le _⟩) hI ?_
  intro r1 u2 H locs h hI
  refine lv_istore_n hx hb d_au_bid_5 rfl hl (by decide) rfl ?_
  intro ls hl
  have hl : lv_has ls 2 [(1, .int r1), (0, .ref (ad 2))] := hl
  refine lv_iload_n hx hb d_au_bid_6 rfl (lv_at hl 0 rfl) ?_
  refine lv_iconst (v := (-1)) hx hb d_au_bid_7 zc_iconst_m1 ?_
  refine lv_icmp_ne hx hb d_au_bid_8 rfl (fun hc => ?_) (fun hc => ?_)
  · have h := h.1 hc
    refine lv_aload_n hx hb d_au_bid_15 rfl (lv_at hl 1 rfl) ?_
    refine cg_Auction_calls hx hb hts hown hK hI (hts _ q_92) d_au_bid_16 ?_
    refine lv_iload_n hx hb d_au_bid_19 rfl (lv_at hl 0 rfl) ?_
    obtain ⟨hi, h⟩ := h
    refine ca_calls hx hb hK hI hi d_au_bid_20 ?_
    exact k_au_bid_21 cx0  hI (lv_sub hl [] rfl) h
  · have h := h.2 hc
    refine lv_iconst (v := (-1)) hx hb d_au_bid_11 zc_iconst_m1 ?_
    refine lv_goto hx hb d_au_bid_12 rfl ?_
    exact k_au_bid_21 cx0  hI (lv_sub hl [] rfl) h
def b_au_hasEnded_34  (post : Int32 → ZS → Prop) (s0 : Int32) (u : ZS) : Prop := (s0 = 0 ∨ s0 = 1) ∧ post s0 u
set_option maxRecDepth 100000 in
set_option maxHeartbeats 4000000 in
theorem k_au_hasEnded_34 {p : Program} {l : Launch} {e : Env} {R : Room} {s : State} {m : MethodId} {args : Array Value} {below : List Frame} {meth : Method} {c : Code} {D : va_G} {A : Nat → Prop} {ad : Nat → Nat} {ca : Nat → ClassId}  {post : Int32 → ZS → Prop} (cx : zx p R s m args meth c c_au_hasEnded 3 2 34 "ShortBridge$Auction" (some .boolean) zG zNs D (cT ca)) {s0 : Int32} {u : ZS} {H : Heap} {locs : List Loc} {ls : Array Slot} (hI : zw D A s.heap (cW ad ca u) H locs) (hl : lv_has ls 3 []) (h : b_au_hasEnded_34 post s0 u) : W p l e R s m args below meth c H locs 0 0 (MQ below (va_Qi post (zE D (cT ca) (cW ad ca) A) A) args s 0 0 A) (F0 m 34 ls [.int s0]) := by
  have cx0 := cx
  obtain ⟨hx, hb, hml, hown, hts, hN, hK, hr, hlk, hfr, hlc⟩ := cx
  unfold b_au_hasEnded_34 at h
  exact zret_z hx hb hr hlk hK hI h.1 h.2 d_au_hasEnded_34
def b_au_hasEnded_26  (post : Int32 → ZS → Prop) (s0 : Int32) (s1 : Int32) (u : ZS) : Prop := (s1 < s0 → b_au_hasEnded_34 post 0 u) ∧ (¬ (s1 < s0) → b_au_hasEnded_34 post 1 u)
set_option maxRecDepth 100000 in
set_option maxHeartbeats 4000000 in
theorem k_au_hasEnded_26 {p : Program} {l : Launch} {e : Env} {R : Room} {s : State} {m : MethodId} {args : Array Value} {below : List Frame} {meth : Method} {c : Code} {D : va_G} {A : Nat → Prop} {ad : Nat → Nat} {ca : Nat → ClassId}  {post : Int32 → ZS → Prop} (cx : zx p R s m args meth c c_au_hasEnded 3 2 34 "ShortBridge$Auction" (some .boolean) zG zNs D (cT ca)) {s0 : Int32} {s1 : Int32} {u : ZS} {H : Heap} {locs : List Loc} {ls : Array Slot} (hI : zw D A s.heap (cW ad ca u) H locs) (hl : lv_has ls 3 []) (h : b_au_hasEnded_26 post s0 s1 u) : W p l e R s m args below meth c H locs 0 0 (MQ below (va_Qi post (zE D (cT ca) (cW ad ca) A) A) args s 0 0 A) (F0 m 26 ls [.int s0, .int s1]) := by
  have cx0 := cx
  obtain ⟨hx, hb, hml, hown, hts, hN, hK, hr, hlk, hfr, hlc⟩ := cx
  unfold b_au_hasEnded_26 at h
  refine lv_icmp_lt hx hb d_au_hasEnded_26 rfl (fun hc => ?_) (fun hc => ?_)
  · have h := h.1 hc
    refine lv_iconst (v := 0) hx hb d_au_hasEnded_33 zc_iconst_0 ?_
    exact k_au_hasEnded_34 cx0  hI (lv_sub hl [] rfl) h
  · have h := h.2 hc
    refine lv_iconst (v := 1) hx hb d_au_hasEnded_29 zc_iconst_1 ?_
    refine lv_goto hx hb d_au_hasEnded_30 rfl ?_
    exact k_au_hasEnded_34 cx0  hI (lv_sub hl [] rfl) h
def w_au_hasEnded  (u : ZS) (post : Int32 → ZS → Prop) : Prop := w_au_placeOfLatest 1 u (fun r1 u2 => (¬ r1 = (-1 : Int32) → b_au_hasEnded_26 post 3 (((fI u2 2) - 1) - r1) u2) ∧ (¬ (¬ r1 = (-1 : Int32)) → b_au_hasEnded_26 post 4 (((fI u2 2) - 1) - r1) u2))
set_option maxRecDepth 100000 in
set_option maxHeartbeats 4000000 in
theorem t_au_hasEnded (l : Launch) (D : va_G) (ad : Nat → Nat) (ca : Nat → ClassId)  {u : ZS} {post : Int32 → ZS → Prop} (h : w_au_hasEnded  u post) : zI l y_au_hasEnded (Cond.code y_au_hasEnded c_au_hasEnded 3 (some .boolean) :: zG) { frames := 2, cells := 0, slots := 0, locals := 34 } D (cT ca) zNs (cW ad ca) [.ref (ad 2)] u post := by
  refine zI_of (cc := c_au_hasEnded) (maxL := 3) (ret := (some .boolean)) (by decide) (Nat.le_of_ble_eq_true rfl) ?_
  intro p e s m args below meth c ls A cx hI hl
  have cx0 := cx
  obtain ⟨hx, hb, hml, hown, hts, hN, hK, hr, hlk, hfr, hlc⟩ := cx
  have hl : lv_has ls 3 [(0, .ref (ad 2))] := hl
  unfold w_au_hasEnded at h
  refine lv_aload_n hx hb d_au_hasEnded_0 rfl (lv_at hl 0 rfl) ?_
  refine lv_iconst (v := 1) hx hb d_au_hasEnded_1 zc_iconst_1 ?_
  refine zr_i (va_runV (As := [.int 1]) (rest := []) ⟨hx, hb, hml, hown, hts⟩ (t_au_placeOfLatest l D ad ca h _) (cwV 1 hts (zg_V q_242 q_244 q_6 q_41 q_245) rfl rfl rfl ⟨rfl, hd_au_placeOfLatest⟩ ⟨Nat.le_trans (by decide) hfr, Nat.le_trans (by decide) hlc⟩) (z_preV zNs_ok hK hN hI 2 2 rfl rfl _) rfl rfl hl.1 rfl (lv_room (Nat.le_of_ble_eq_true rfl)) d_au_hasEnded_2 ⟨Nat.zero_le _, Nat.zero_le _⟩) hI ?_
  intro r1 u2 H locs h hI
  refine lv_istore_n hx hb d_au_hasEnded_5 rfl hl (by decide) rfl ?_
  intro ls hl
  have hl : lv_has ls 3 [(1, .int r1), (0, .ref (ad 2))] := hl
  refine lv_aload_n hx hb d_au_hasEnded_6 rfl (lv_at hl 1 rfl) ?_
  refine cg_Auction_count hx hb hts hown hK hI (hts _ q_93) d_au_hasEnded_7 ?_
  refine lv_iconst (v := 1) hx hb d_au_hasEnded_10 zc_iconst_1 ?_
  refine lv_isub hx hb d_au_hasEnded_11 ?_
  refine lv_iload_n hx hb d_au_hasEnded_12 rfl (lv_at hl 0 rfl) ?_
  refine lv_isub hx hb d_au_hasEnded_13 ?_
  refine lv_istore_n hx hb d_au_hasEnded_14 rfl hl (by decide) rfl ?_
  intro ls hl
  have hl : lv_has ls 3 [(2, .int (((fI u2 2) - 1) - r1)), (1, .int r1), (0, .ref (ad 2))] := hl
  refine lv_iload_n hx hb d_au_hasEnded_15 rfl (lv_at hl 0 rfl) ?_
  refine lv_iload_n hx hb d_au_hasEnded_16 rfl (lv_at hl 1 rfl) ?_
  refine lv_iconst (v := (-1)) hx hb d_au_hasEnded_17 zc_iconst_m1 ?_
  refine lv_icmp_ne hx hb d_au_hasEnded_18 rfl (fun hc => ?_) (fun hc => ?_)
  · have h := h.1 hc
    refine lv_iconst (v := 3) hx hb d_au_hasEnded_25 zc_iconst_3 ?_
    exact k_au_hasEnded_26 cx0  hI (lv_sub hl [] rfl) h
  · have h := h.2 hc
    refine lv_iconst (v := 4) hx hb d_au_hasEnded_21 zc_iconst_4 ?_
    refine lv_goto hx hb d_au_hasEnded_22 rfl ?_
    exact k_au_hasEnded_26 cx0  hI (lv_sub hl [] rfl) h
def b_au_doubled_21  (post : Int32 → ZS → Prop)  (u : ZS) : Prop := post 0 u
set_option maxRecDepth 100000 in
set_option maxHeartbeats 4000000 in
theorem k_au_doubled_21 {p : Program} {l : Launch} {e : Env} {R : Room} {s : State} {m : MethodId} {args : Array Value} {below : List Frame} {meth : Method} {c : Code} {D : va_G} {A : Nat → Prop} {ad : Nat → Nat} {ca : Nat → ClassId}  {post : Int32 → ZS → Prop} (cx : zx p R s m args meth c c_au_doubled 2 2 34 "ShortBridge$Auction" (some .int) zG zNs D (cT ca)) {u : ZS} {H : Heap} {locs : List Loc} {ls : Array Slot} (hI : zw D A s.heap (cW ad ca u) H locs) (hl : lv_has ls 2 []) (h : b_au_doubled_21 post  u) : W p l e R s m args below meth c H locs 0 0 (MQ below (va_Qi post (zE D (cT ca) (cW ad ca) A) A) args s 0 0 A) (F0 m 21 ls []) := by
  have cx0 := cx
  obtain ⟨hx, hb, hml, hown, hts, hN, hK, hr, hlk, hfr, hlc⟩ := cx
  unfold b_au_doubled_21 at h
  refine lv_iconst (v := 0) hx hb d_au_doubled_21 zc_iconst_0 ?_
  exact zret_i hx hb hr hlk hK hI h d_au_doubled_22
def b_au_doubled_38  (post : Int32 → ZS → Prop) (s0 : Int32) (u : ZS) : Prop := post s0 u
set_option maxRecDepth 100000 in
set_option maxHeartbeats 4000000 in
theorem k_au_doubled_38 {p : Program} {l : Launch} {e : Env} {R : Room} {s : State} {m : MethodId} {args : Array Value} {below : List Frame} {meth : Method} {c : Code} {D : va_G} {A : Nat → Prop} {ad : Nat → Nat} {ca : Nat → ClassId}  {post : Int32 → ZS → Prop} (cx : zx p R s m args meth c c_au_doubled 2 2 34 "ShortBridge$Auction" (some .int) zG zNs D (cT ca)) {s0 : Int32} {u : ZS} {H : Heap} {locs : List Loc} {ls : Array Slot} (hI : zw D A s.heap (cW ad ca u) H locs) (hl : lv_has ls 2 []) (h : b_au_doubled_38 post s0 u) : W p l e R s m args below meth c H locs 0 0 (MQ below (va_Qi post (zE D (cT ca) (cW ad ca) A) A) args s 0 0 A) (F0 m 38 ls [.int s0]) := by
  have cx0 := cx
  obtain ⟨hx, hb, hml, hown, hts, hN, hK, hr, hlk, hfr, hlc⟩ := cx
  unfold b_au_doubled_38 at h
  exact zret_i hx hb hr hlk hK hI h d_au_doubled_38
def w_au_doubled  (u : ZS) (post : Int32 → ZS → Prop) : Prop := w_au_placeOfLatest 1 u (fun r1 u2 => (r1 = (-1 : Int32) → b_au_doubled_21 post u2) ∧ (¬ (r1 = (-1 : Int32)) → vp_in r1 139 ∧ (((aI u2 3 (r1).toNatClampNeg) < 3 → vp_in r1 139 ∧ ((¬ (aI u2 3 (r1).toNatClampNeg) = 2 → b_au_doubled_38 post 1 u2) ∧ (¬ (¬ (aI u2 3 (r1).toNatClampNeg) = 2) → b_au_doubled_38 post 2 u2))) ∧ (¬ ((aI u2 3 (r1).toNatClampNeg) < 3) → b_au_doubled_21 post u2))))
set_option maxRecDepth 100000 in
set_option maxHeartbeats 4000000 in
theorem t_au_doubled (l : Launch) (D : va_G) (ad : Nat → Nat) (ca : Nat → ClassId)  {u : ZS} {post : Int32 → ZS → Prop} (h : w_au_doubled  u post) : zI l y_au_doubled (Cond.code y_au_doubled c_au_doubled 2 (some .int) :: zG) { frames := 2, cells := 0, slots := 0, locals := 34 } D (cT ca) zNs (cW ad ca) [.ref (ad 2)] u post := by
  refine zI_of (cc := c_au_doubled) (maxL := 2) (ret := (some .int)) (by decide) (Nat.le_of_ble_eq_true rfl) ?_
  intro p e s m args below meth c ls A cx hI hl
  have cx0 := cx
  obtain ⟨hx, hb, hml, hown, hts, hN, hK, hr, hlk, hfr, hlc⟩ := cx
  have hl : lv_has ls 2 [(0, .ref (ad 2))] := hl
  unfold w_au_doubled at h
  refine lv_aload_n hx hb d_au_doubled_0 rfl (lv_at hl 0 rfl) ?_
  refine lv_iconst (v := 1) hx hb d_au_doubled_1 zc_iconst_1 ?_
  refine zr_i (va_runV (As := [.int 1]) (rest := []) ⟨hx, hb, hml, hown, hts⟩ (t_au_placeOfLatest l D ad ca h _) (cwV 1 hts (zg_V q_242 q_244 q_6 q_41 q_245) rfl rfl rfl ⟨rfl, hd_au_placeOfLatest⟩ ⟨Nat.le_trans (by decide) hfr, Nat.le_trans (by decide) hlc⟩) (z_preV zNs_ok hK hN hI 2 2 rfl rfl _) rfl rfl hl.1 rfl (lv_room (Nat.le_of_ble_eq_true rfl)) d_au_doubled_2 ⟨Nat.zero_le _, Nat.zero_le _⟩) hI ?_
  intro r1 u2 H locs h hI
  refine lv_istore_n hx hb d_au_doubled_5 rfl hl (by decide) rfl ?_
  intro ls hl
  have hl : lv_has ls 2 [(1, .int r1), (0, .ref (ad 2))] := hl
  refine lv_iload_n hx hb d_au_doubled_6 rfl (lv_at hl 0 rfl) ?_
  refine lv_iconst (v := (-1)) hx hb d_au_doubled_7 zc_iconst_m1 ?_
  refine lv_icmp_eq hx hb d_au_doubled_8 rfl (fun hc => ?_) (fun hc => ?_)
  · have h := h.1 hc
    exact k_au_doubled_21 cx0  hI (lv_sub hl [] rfl) h
  · have h := h.2 hc
    refine lv_aload_n hx hb d_au_doubled_11 rfl (lv_at hl 1 rfl) ?_
    refine cg_Auction_calls hx hb hts hown hK hI (hts _ q_92) d_au_doubled_12 ?_
    refine lv_iload_n hx hb d_au_doubled_15 rfl (lv_at hl 0 rfl) ?_
    obtain ⟨hi, h⟩ := h
    refine ca_calls hx hb hK hI hi d_au_doubled_16 ?_
    refine lv_iconst (v := 3) hx hb d_au_doubled_17 zc_iconst_3 ?_
    refine lv_icmp_lt hx hb d_au_doubled_18 rfl (fun hc => ?_) (fun hc => ?_)
    · have h := h.1 hc
      refine lv_aload_n hx hb d_au_doubled_23 rfl (lv_at hl 1 rfl) ?_
      refine cg_Auction_calls hx hb hts hown hK hI (hts _ q_92) d_au_doubled_24 ?_
      refine lv_iload_n hx hb d_au_doubled_27 rfl (lv_at hl 0 rfl) ?_
      obtain ⟨hi, h⟩ := h
      refine ca_calls hx hb hK hI hi d_au_doubled_28 ?_
      refine lv_iconst (v := 2) hx hb d_au_doubled_29 zc_iconst_2 ?_
      refine lv_icmp_ne hx hb d_au_doubled_30 rfl (fun hc => ?_) (fun hc => ?_)
      · have h := h.1 hc
        refine lv_iconst (v := 1) hx hb d_au_doubled_37 zc_iconst_1 ?_
        exact k_au_doubled_38 cx0  hI (lv_sub hl [] rfl) h
      · have h := h.2 hc
        refine lv_iconst (v := 2) hx hb d_au_doubled_33 zc_iconst_2 ?_
        refine lv_goto hx hb d_au_doubled_34 rfl ?_
        exact k_au_doubled_38 cx0  hI (lv_sub hl [] rfl) h
    · have h := h.2 hc
      exact k_au_doubled_21 cx0  hI (lv_sub hl [] rfl) h
def w_x_playerBehind (v0 : Int32) (v1 : Int32) (u : ZS) (post : Int32 → ZS → Prop) : Prop := post ((v0 + v1) - (v0 + v1) / 4 * 4) u
set_option maxRecDepth 100000 in
set_option maxHeartbeats 4000000 in
theorem t_x_playerBehind (l : Launch) (D : va_G) (ad : Nat → Nat) (ca : Nat → ClassId) {v0 : Int32} {v1 : Int32} {u : ZS} {post : Int32 → ZS → Prop} (h : w_x_playerBehind v0 v1 u post) : zI l y_x_playerBehind (Cond.code y_x_playerBehind c_x_playerBehind 2 (some .int) :: zG) { frames := 1, cells := 0, slots := 0, locals := 12 } D (cT ca) zNs (cW ad ca) [.int v0, .int v1] u post := by
  refine zI_of (cc := c_x_playerBehind) (maxL := 2) (ret := (some .int)) (by decide) (Nat.le_of_ble_eq_true rfl) ?_
  intro p e s m args below meth c ls A cx hI hl
  have cx0 := cx
  obtain ⟨hx, hb, hml, hown, hts, hN, hK, hr, hlk, hfr, hlc⟩ := cx
  have hl : lv_has ls 2 [(0, .int v0), (1, .int v1)] := hl
  unfold w_x_playerBehind at h
  refine lv_iload_n hx hb d_x_playerBehind_0 rfl (lv_at hl 0 rfl) ?_
  refine lv_iload_n hx hb d_x_playerBehind_1 rfl (lv_at hl 1 rfl) ?_
  refine lv_iadd hx hb d_x_playerBehind_2 ?_
  refine lv_iconst (v := 4) hx hb d_x_playerBehind_3 zc_iconst_4 ?_
  refine lv_irem hx hb d_x_playerBehind_4 (by decide) ?_
  exact zret_i hx hb hr hlk hK hI h d_x_playerBehind_5
def w_au_callerOf (v1 : Int32) (u : ZS) (post : Int32 → ZS → Prop) : Prop := w_x_playerBehind (fI u 3) v1 u (fun r1 u2 => post r1 u2)
set_option maxRecDepth 100000 in
set_option maxHeartbeats 4000000 in
theorem t_au_callerOf (l : Launch) (D : va_G) (ad : Nat → Nat) (ca : Nat → ClassId) {v1 : Int32} {u : ZS} {post : Int32 → ZS → Prop} (h : w_au_callerOf v1 u post) : zI l y_au_callerOf (Cond.code y_au_callerOf c_au_callerOf 2 (some .int) :: zG) { frames := 2, cells := 0, slots := 0, locals := 33 } D (cT ca) zNs (cW ad ca) [.ref (ad 2), .int v1] u post := by
  refine zI_of (cc := c_au_callerOf) (maxL := 2) (ret := (some .int)) (by decide) (Nat.le_of_ble_eq_true rfl) ?_
  intro p e s m args below meth c ls A cx hI hl
  have cx0 := cx
  obtain ⟨hx, hb, hml, hown, hts, hN, hK, hr, hlk, hfr, hlc⟩ := cx
  have hl : lv_has ls 2 [(0, .ref (ad 2)), (1, .int v1)] := hl
  unfold w_au_callerOf at h
  refine lv_aload_n hx hb d_au_callerOf_0 rfl (lv_at hl 0 rfl) ?_
  refine cg_Auction_dealer hx hb hts hown hK hI (hts _ q_95) d_au_callerOf_1 ?_
  refine lv_iload_n hx hb d_au_callerOf_4 rfl (lv_at hl 1 rfl) ?_
  refine zr_i (va_runSN (As := [.int (fI u 3), .int v1]) (rest := []) ⟨hx, hb, hml, hown, hts⟩ (t_x_playerBehind l D ad ca h _) ⟨va_cnB 2 hts (zg_c q_269) rfl rfl rfl (hN _ nw_12) (hts _ q_39) hd_x_playerBehind ⟨Nat.le_trans (by decide) hfr, Nat.le_trans (by decide) hlc⟩, hts _ q_268, trivial⟩ (z_preS zNs_ok hK hN hI _) rfl rfl hl.1 rfl (lv_room (Nat.le_of_ble_eq_true rfl)) d_au_callerOf_5 ⟨Nat.zero_le _, Nat.zero_le _⟩) hI ?_
  intro r1 u2 H locs h hI
  exact zret_i hx hb hr hlk hK hI h d_au_callerOf_8
def w_x_sideOf (v0 : Int32) (u : ZS) (post : Int32 → ZS → Prop) : Prop := post (v0 &&& 1) u
set_option maxRecDepth 100000 in
set_option maxHeartbeats 4000000 in
theorem t_x_sideOf (l : Launch) (D : va_G) (ad : Nat → Nat) (ca : Nat → ClassId) {v0 : Int32} {u : ZS} {post : Int32 → ZS → Prop} (h : w_x_sideOf v0 u post) : zI l y_x_sideOf (Cond.code y_x_sideOf c_x_sideOf 1 (some .int) :: zG) { frames := 1, cells := 0, slots := 0, locals := 12 } D (cT ca) zNs (cW ad ca) [.int v0] u post := by
  refine zI_of (cc := c_x_sideOf) (maxL := 1) (ret := (some .int)) (by decide) (Nat.le_of_ble_eq_true rfl) ?_
  intro p e s m args below meth c ls A cx hI hl
  have cx0 := cx
  obtain ⟨hx, hb, hml, hown, hts, hN, hK, hr, hlk, hfr, hlc⟩ := cx
  have hl : lv_has ls 1 [(0, .int v0)] := hl
  unfold w_x_sideOf at h
  refine lv_iload_n hx hb d_x_sideOf_0 rfl (lv_at hl 0 rfl) ?_
  refine lv_iconst (v := 1) hx hb d_x_sideOf_1 zc_iconst_1 ?_
  refine lv_iand hx hb d_x_sideOf_2 ?_
  exact zret_i hx hb hr hlk hK hI h d_x_sideOf_3
def b_au_isSameSide_24  (post : Int32 → ZS → Prop) (s0 : Int32) (u : ZS) : Prop := (s0 = 0 ∨ s0 = 1) ∧ post s0 u
set_option maxRecDepth 100000 in
set_option maxHeartbeats 4000000 in
theorem k_au_isSameSide_24 {p : Program} {l : Launch} {e : Env} {R : Room} {s : State} {m : MethodId} {args : Array Value} {below : List Frame} {meth : Method} {c : Code} {D : va_G} {A : Nat → Prop} {ad : Nat → Nat} {ca : Nat → ClassId}  {post : Int32 → ZS → Prop} (cx : zx p R s m args meth c c_au_isSameSide 3 3 54 "ShortBridge$Auction" (some .boolean) zG zNs D (cT ca)) {s0 : Int32} {u : ZS} {H : Heap} {locs : List Loc} {ls : Array Slot} (hI : zw D A s.heap (cW ad ca u) H locs) (hl : lv_has ls 3 []) (h : b_au_isSameSide_24 post s0 u) : W p l e R s m args below meth c H locs 0 0 (MQ below (va_Qi post (zE D (cT ca) (cW ad ca) A) A) args s 0 0 A) (F0 m 24 ls [.int s0]) := by
  have cx0 := cx
  obtain ⟨hx, hb, hml, hown, hts, hN, hK, hr, hlk, hfr, hlc⟩ := cx
  unfold b_au_isSameSide_24 at h
  exact zret_z hx hb hr hlk hK hI h.1 h.2 d_au_isSameSide_24
def w_au_isSameSide (v1 : Int32) (v2 : Int32) (u : ZS) (post : Int32 → ZS → Prop) : Prop := w_au_callerOf v1 u (fun r1 u2 => w_x_sideOf r1 u2 (fun r3 u4 => w_au_callerOf v2 u4 (fun r5 u6 => w_x_sideOf r5 u6 (fun r7 u8 => (¬ r3 = r7 → b_au_isSameSide_24 post 0 u8) ∧ (¬ (¬ r3 = r7) → b_au_isSameSide_24 post 1 u8)))))
set_option maxRecDepth 100000 in
set_option maxHeartbeats 4000000 in
theorem t_au_isSameSide (l : Launch) (D : va_G) (ad : Nat → Nat) (ca : Nat → ClassId) {v1 : Int32} {v2 : Int32} {u : ZS} {post : Int32 → ZS → Prop} (h : w_au_isSameSide v1 v2 u post) : zI l y_au_isSameSide (Cond.code y_au_isSameSide c_au_isSameSide 3 (some .boolean) :: zG) { frames := 3, cells := 0, slots := 0, locals := 54 } D (cT ca) zNs (cW ad ca) [.ref (ad 2), .int v1, .int v2] u post := by
  refine zI_of (cc := c_au_isSameSide) (maxL := 3) (ret := (some .boolean)) (by decide) (Nat.le_of_ble_eq_true rfl) ?_
  intro p e s m args below meth c ls A cx hI hl
  have cx0 := cx
  obtain ⟨hx, hb, hml, hown, hts, hN, hK, hr, hlk, hfr, hlc⟩ := cx
  have hl : lv_has ls 3 [(0, .ref (ad 2)), (1, .int v1), (2, .int v2)] := hl
  unfold w_au_isSameSide at h
  refine lv_aload_n hx hb d_au_isSameSide_0 rfl (lv_at hl 0 rfl) ?_
  refine lv_iload_n hx hb d_au_isSameSide_1 rfl (lv_at hl 1 rfl) ?_
  refine zr_i (va_runV (As := [.int v1]) (rest := []) ⟨hx, hb, hml, hown, hts⟩ (t_au_callerOf l D ad ca h _) (cwV 1 hts (zg_V q_263 q_265 q_7 q_41 q_266) rfl rfl rfl ⟨rfl, hd_au_callerOf⟩ ⟨Nat.le_trans (by decide) hfr, Nat.le_trans (by decide) hlc⟩) (z_preV zNs_ok hK hN hI 2 2 rfl rfl _) rfl rfl hl.1 rfl (lv_room (Nat.le_of_ble_eq_true rfl)) d_au_isSameSide_2 ⟨Nat.zero_le _, Nat.zero_le _⟩) hI ?_
  intro r1 u2 H locs h hI
  refine zr_i (va_runSN (As := [.int r1]) (rest := []) ⟨hx, hb, hml, hown, hts⟩ (t_x_sideOf l D ad ca h _) ⟨va_cnB 1 hts (zg_c q_314) rfl rfl rfl (hN _ nw_14) (hts _ q_39) hd_x_sideOf ⟨Nat.le_trans (by decide) hfr, Nat.le_trans (by decide) hlc⟩, hts _ q_313, trivial⟩ (z_preS zNs_ok hK hN hI _) rfl rfl hl.1 rfl (lv_room (Nat.le_of_ble_eq_true rfl)) d_au_isSameSide_5 ⟨Nat.zero_le _, Nat.zero_le _⟩) hI ?_
  intro r3 u4 H locs h hI
  refine lv_aload_n hx hb d_au_isSameSide_8 rfl (lv_at hl 0 rfl) ?_
  refine lv_iload_n hx hb d_au_isSameSide_9 rfl (lv_at hl 2 rfl) ?_
  refine zr_i (va_runV (As := [.int v2]) (rest := [.int r3]) ⟨hx, hb, hml, hown, hts⟩ (t_au_callerOf l D ad ca h _) (cwV 1 hts (zg_V q_263 q_265 q_7 q_41 q_266) rfl rfl rfl ⟨rfl, hd_au_callerOf⟩ ⟨Nat.le_trans (by decide) hfr, Nat.le_trans (by decide) hlc⟩) (z_preV zNs_ok hK hN hI 2 2 rfl rfl _) rfl rfl hl.1 rfl (lv_room (Nat.le_of_ble_eq_true rfl)) d_au_isSameSide_10 ⟨Nat.zero_le _, Nat.zero_le _⟩) hI ?_
  intro r5 u6 H locs h hI
  refine zr_i (va_runSN (As := [.int r5]) (rest := [.int r3]) ⟨hx, hb, hml, hown, hts⟩ (t_x_sideOf l D ad ca h _) ⟨va_cnB 1 hts (zg_c q_314) rfl rfl rfl (hN _ nw_14) (hts _ q_39) hd_x_sideOf ⟨Nat.le_trans (by decide) hfr, Nat.le_trans (by decide) hlc⟩, hts _ q_313, trivial⟩ (z_preS zNs_ok hK hN hI _) rfl rfl hl.1 rfl (lv_room (Nat.le_of_ble_eq_true rfl)) d_au_isSameSide_13 ⟨Nat.zero_le _, Nat.zero_le _⟩) hI ?_
  intro r7 u8 H locs h hI
  refine lv_icmp_ne hx hb d_au_isSameSide_16 rfl (fun hc => ?_) (fun hc => ?_)
  · have h := h.1 hc
    refine lv_iconst (v := 0) hx hb d_au_isSameSide_23 zc_iconst_0 ?_
    exact k_au_isSameSide_24 cx0  hI (lv_sub hl [] rfl) h
  · have h := h.2 hc
    refine lv_iconst (v := 1) hx hb d_au_isSameSide_19 zc_iconst_1 ?_
    refine lv_goto hx hb d_au_isSameSide_20 rfl ?_
    exact k_au_isSameSide_24 cx0  hI (lv_sub hl [] rfl) h
