def b_x_isPlayer_14  (post : Int32 → ZS → Prop) (s0 : Int32) (u : ZS) : Prop := (s0 = 0 ∨ s0 = 1) ∧ post s0 u
set_option maxRecDepth 100000 in
set_option maxHeartbeats 4000000 in
theorem k_x_isPlayer_14 {p : Program} {l : Launch} {e : Env} {R : Room} {s : State} {m : MethodId} {args : Array Value} {below : List Frame} {meth : Method} {c : Code} {D : va_G} {A : Nat → Prop} {ad : Nat → Nat} {ca : Nat → ClassId}  {post : Int32 → ZS → Prop} (cx : zx p R s m args meth c c_x_isPlayer 1 1 12 "ShortBridge" (some .boolean) zG zNs D (cT ca)) {s0 : Int32} {u : ZS} {H : Heap} {locs : List Loc} {ls : Array Slot} (hI : zw D A s.heap (cW ad ca u) H locs) (hl : lv_has ls 1 []) (h : b_x_isPlayer_14 post s0 u) : W p l e R s m args below meth c H locs 0 0 (MQ below (va_Qi post (zE D (cT ca) (cW ad ca) A) A) args s 0 0 A) (F0 m 14 ls [.int s0]) := by
  have cx0 := cx
  obtain ⟨hx, hb, hml, hown, hts, hN, hK, hr, hlk, hfr, hlc⟩ := cx
  unfold b_x_isPlayer_14 at h
  exact zret_z hx hb hr hlk hK hI h.1 h.2 d_x_isPlayer_14
def b_x_isPlayer_13  (post : Int32 → ZS → Prop)  (u : ZS) : Prop := b_x_isPlayer_14 post 0 u
set_option maxRecDepth 100000 in
set_option maxHeartbeats 4000000 in
theorem k_x_isPlayer_13 {p : Program} {l : Launch} {e : Env} {R : Room} {s : State} {m : MethodId} {args : Array Value} {below : List Frame} {meth : Method} {c : Code} {D : va_G} {A : Nat → Prop} {ad : Nat → Nat} {ca : Nat → ClassId}  {post : Int32 → ZS → Prop} (cx : zx p R s m args meth c c_x_isPlayer 1 1 12 "ShortBridge" (some .boolean) zG zNs D (cT ca)) {u : ZS} {H : Heap} {locs : List Loc} {ls : Array Slot} (hI : zw D A s.heap (cW ad ca u) H locs) (hl : lv_has ls 1 []) (h : b_x_isPlayer_13 post  u) : W p l e R s m args below meth c H locs 0 0 (MQ below (va_Qi post (zE D (cT ca) (cW ad ca) A) A) args s 0 0 A) (F0 m 13 ls []) := by
  have cx0 := cx
  obtain ⟨hx, hb, hml, hown, hts, hN, hK, hr, hlk, hfr, hlc⟩ := cx
  unfold b_x_isPlayer_13 at h
  refine lv_iconst (v := 0) hx hb d_x_isPlayer_13 zc_iconst_0 ?_
  exact k_x_isPlayer_14 cx0  hI (lv_sub hl [] rfl) h
def w_x_isPlayer (v0 : Int32) (u : ZS) (post : Int32 → ZS → Prop) : Prop := (v0 < 0 → b_x_isPlayer_13 post u) ∧ (¬ (v0 < 0) → (4 ≤ v0 → b_x_isPlayer_13 post u) ∧ (¬ (4 ≤ v0) → b_x_isPlayer_14 post 1 u))
set_option maxRecDepth 100000 in
set_option maxHeartbeats 4000000 in
theorem t_x_isPlayer (l : Launch) (D : va_G) (ad : Nat → Nat) (ca : Nat → ClassId) {v0 : Int32} {u : ZS} {post : Int32 → ZS → Prop} (h : w_x_isPlayer v0 u post) : zI l y_x_isPlayer (Cond.code y_x_isPlayer c_x_isPlayer 1 (some .boolean) :: zG) { frames := 1, cells := 0, slots := 0, locals := 12 } D (cT ca) zNs (cW ad ca) [.int v0] u post := by
  refine zI_of (cc := c_x_isPlayer) (maxL := 1) (ret := (some .boolean)) (by decide) (Nat.le_of_ble_eq_true rfl) ?_
  intro p e s m args below meth c ls A cx hI hl
  have cx0 := cx
  obtain ⟨hx, hb, hml, hown, hts, hN, hK, hr, hlk, hfr, hlc⟩ := cx
  have hl : lv_has ls 1 [(0, .int v0)] := hl
  unfold w_x_isPlayer at h
  refine lv_iload_n hx hb d_x_isPlayer_0 rfl (lv_at hl 0 rfl) ?_
  refine lv_if_lt hx hb d_x_isPlayer_1 rfl (fun hc => ?_) (fun hc => ?_)
  · have h := h.1 hc
    exact k_x_isPlayer_13 cx0  hI (lv_sub hl [] rfl) h
  · have h := h.2 hc
    refine lv_iload_n hx hb d_x_isPlayer_4 rfl (lv_at hl 0 rfl) ?_
    refine lv_iconst (v := 4) hx hb d_x_isPlayer_5 zc_iconst_4 ?_
    refine lv_icmp_ge hx hb d_x_isPlayer_6 rfl (fun hc => ?_) (fun hc => ?_)
    · have h := h.1 hc
      exact k_x_isPlayer_13 cx0  hI (lv_sub hl [] rfl) h
    · have h := h.2 hc
      refine lv_iconst (v := 1) hx hb d_x_isPlayer_9 zc_iconst_1 ?_
      refine lv_goto hx hb d_x_isPlayer_10 rfl ?_
      exact k_x_isPlayer_14 cx0  hI (lv_sub hl [] rfl) h
def b_x_canBegin_21  (post : Int32 → ZS → Prop) (s0 : Int32) (u : ZS) : Prop := (s0 = 0 ∨ s0 = 1) ∧ post s0 u
set_option maxRecDepth 100000 in
set_option maxHeartbeats 4000000 in
theorem k_x_canBegin_21 {p : Program} {l : Launch} {e : Env} {R : Room} {s : State} {m : MethodId} {args : Array Value} {below : List Frame} {meth : Method} {c : Code} {D : va_G} {A : Nat → Prop} {ad : Nat → Nat} {ca : Nat → ClassId}  {post : Int32 → ZS → Prop} (cx : zx p R s m args meth c c_x_canBegin 2 2 32 "ShortBridge" (some .boolean) zG zNs D (cT ca)) {s0 : Int32} {u : ZS} {H : Heap} {locs : List Loc} {ls : Array Slot} (hI : zw D A s.heap (cW ad ca u) H locs) (hl : lv_has ls 2 []) (h : b_x_canBegin_21 post s0 u) : W p l e R s m args below meth c H locs 0 0 (MQ below (va_Qi post (zE D (cT ca) (cW ad ca) A) A) args s 0 0 A) (F0 m 21 ls [.int s0]) := by
  have cx0 := cx
  obtain ⟨hx, hb, hml, hown, hts, hN, hK, hr, hlk, hfr, hlc⟩ := cx
  unfold b_x_canBegin_21 at h
  exact zret_z hx hb hr hlk hK hI h.1 h.2 d_x_canBegin_21
def b_x_canBegin_20  (post : Int32 → ZS → Prop)  (u : ZS) : Prop := b_x_canBegin_21 post 0 u
set_option maxRecDepth 100000 in
set_option maxHeartbeats 4000000 in
theorem k_x_canBegin_20 {p : Program} {l : Launch} {e : Env} {R : Room} {s : State} {m : MethodId} {args : Array Value} {below : List Frame} {meth : Method} {c : Code} {D : va_G} {A : Nat → Prop} {ad : Nat → Nat} {ca : Nat → ClassId}  {post : Int32 → ZS → Prop} (cx : zx p R s m args meth c c_x_canBegin 2 2 32 "ShortBridge" (some .boolean) zG zNs D (cT ca)) {u : ZS} {H : Heap} {locs : List Loc} {ls : Array Slot} (hI : zw D A s.heap (cW ad ca u) H locs) (hl : lv_has ls 2 []) (h : b_x_canBegin_20 post  u) : W p l e R s m args below meth c H locs 0 0 (MQ below (va_Qi post (zE D (cT ca) (cW ad ca) A) A) args s 0 0 A) (F0 m 20 ls []) := by
  have cx0 := cx
  obtain ⟨hx, hb, hml, hown, hts, hN, hK, hr, hlk, hfr, hlc⟩ := cx
  unfold b_x_canBegin_20 at h
  refine lv_iconst (v := 0) hx hb d_x_canBegin_20 zc_iconst_0 ?_
  exact k_x_canBegin_21 cx0  hI (lv_sub hl [] rfl) h
def w_x_canBegin (v0 : Int32) (v1 : Int32) (u : ZS) (post : Int32 → ZS → Prop) : Prop := w_x_isPlayer v0 u (fun r1 u2 => (r1 = 0 → b_x_canBegin_20 post u2) ∧ (¬ (r1 = 0) → (v1 < 0 → b_x_canBegin_20 post u2) ∧ (¬ (v1 < 0) → (3 < v1 → b_x_canBegin_20 post u2) ∧ (¬ (3 < v1) → b_x_canBegin_21 post 1 u2))))
set_option maxRecDepth 100000 in
set_option maxHeartbeats 4000000 in
theorem t_x_canBegin (l : Launch) (D : va_G) (ad : Nat → Nat) (ca : Nat → ClassId) {v0 : Int32} {v1 : Int32} {u : ZS} {post : Int32 → ZS → Prop} (h : w_x_canBegin v0 v1 u post) : zI l y_x_canBegin (Cond.code y_x_canBegin c_x_canBegin 2 (some .boolean) :: zG) { frames := 2, cells := 0, slots := 0, locals := 32 } D (cT ca) zNs (cW ad ca) [.int v0, .int v1] u post := by
  refine zI_of (cc := c_x_canBegin) (maxL := 2) (ret := (some .boolean)) (by decide) (Nat.le_of_ble_eq_true rfl) ?_
  intro p e s m args below meth c ls A cx hI hl
  have cx0 := cx
  obtain ⟨hx, hb, hml, hown, hts, hN, hK, hr, hlk, hfr, hlc⟩ := cx
  have hl : lv_has ls 2 [(0, .int v0), (1, .int v1)] := hl
  unfold w_x_canBegin at h
  refine lv_iload_n hx hb d_x_canBegin_0 rfl (lv_at hl 0 rfl) ?_
  refine zr_i (va_runS (As := [.int v0]) (rest := []) ⟨hx, hb, hml, hown, hts⟩ (t_x_isPlayer l D ad ca h _) (va_cwS 1 hts (zg_S q_180 q_181 q_39 q_182) rfl rfl rfl hd_x_isPlayer ⟨Nat.le_trans (by decide) hfr, Nat.le_trans (by decide) hlc⟩) (z_preS zNs_ok hK hN hI _) rfl rfl hl.1 rfl (lv_room (Nat.le_of_ble_eq_true rfl)) d_x_canBegin_1 ⟨Nat.zero_le _, Nat.zero_le _⟩) hI ?_
  intro r1 u2 H locs h hI
  refine lv_if_eq hx hb d_x_canBegin_4 rfl (fun hc => ?_) (fun hc => ?_)
  · have h := h.1 hc
    exact k_x_canBegin_20 cx0  hI (lv_sub hl [] rfl) h
  · have h := h.2 hc
    refine lv_iload_n hx hb d_x_canBegin_7 rfl (lv_at hl 1 rfl) ?_
    refine lv_if_lt hx hb d_x_canBegin_8 rfl (fun hc => ?_) (fun hc => ?_)
    · have h := h.1 hc
      exact k_x_canBegin_20 cx0  hI (lv_sub hl [] rfl) h
    · have h := h.2 hc
      refine lv_iload_n hx hb d_x_canBegin_11 rfl (lv_at hl 1 rfl) ?_
      refine lv_iconst (v := 3) hx hb d_x_canBegin_12 zc_iconst_3 ?_
      refine lv_icmp_gt hx hb d_x_canBegin_13 rfl (fun hc => ?_) (fun hc => ?_)
      · have h := h.1 hc
        exact k_x_canBegin_20 cx0  hI (lv_sub hl [] rfl) h
      · have h := h.2 hc
        refine lv_iconst (v := 1) hx hb d_x_canBegin_16 zc_iconst_1 ?_
        refine lv_goto hx hb d_x_canBegin_17 rfl ?_
        exact k_x_canBegin_21 cx0  hI (lv_sub hl [] rfl) h
def w_au_begin (v1 : Int32) (u : ZS) (post : ZS → Prop) : Prop := post (sI (sI u 3 v1) 2 0)
set_option maxRecDepth 100000 in
set_option maxHeartbeats 4000000 in
theorem t_au_begin (l : Launch) (D : va_G) (ad : Nat → Nat) (ca : Nat → ClassId) {v1 : Int32} {u : ZS} {post : ZS → Prop} (h : w_au_begin v1 u post) : zV l y_au_begin (Cond.code y_au_begin c_au_begin 2 none :: zG) { frames := 1, cells := 0, slots := 0, locals := 12 } D (cT ca) zNs (cW ad ca) [.ref (ad 2), .int v1] u post := by
  refine zV_of (cc := c_au_begin) (maxL := 2) (by decide) (Nat.le_of_ble_eq_true rfl) ?_
  intro p e s m args below meth c ls A cx hI hl
  have cx0 := cx
  obtain ⟨hx, hb, hml, hown, hts, hN, hK, hr, hlk, hfr, hlc⟩ := cx
  have hl : lv_has ls 2 [(0, .ref (ad 2)), (1, .int v1)] := hl
  unfold w_au_begin at h
  refine lv_aload_n hx hb d_au_begin_0 rfl (lv_at hl 0 rfl) ?_
  refine lv_iload_n hx hb d_au_begin_1 rfl (lv_at hl 1 rfl) ?_
  refine cp_Auction_dealer hx hb hts hown hK hI (hts _ q_95) d_au_begin_2 ?_
  intro H locs hI
  refine lv_aload_n hx hb d_au_begin_5 rfl (lv_at hl 0 rfl) ?_
  refine lv_iconst (v := 0) hx hb d_au_begin_6 zc_iconst_0 ?_
  refine cp_Auction_count hx hb hts hown hK hI (hts _ q_93) d_au_begin_7 ?_
  intro H locs hI
  exact zret_v hx hb hr hlk hK hI h d_au_begin_10
def b_au_placeOfLatest_7  (post : Int32 → ZS → Prop) : Nat → Int32 → Int32 → ZS → Prop
  | 0, _, _, _ => False
  | n + 1, v1, v2, u => (v2 < 0 → post (-1 : Int32) u) ∧ (¬ (v2 < 0) → vp_in v2 139 ∧ (((aI u 3 (Int32.toNatClampNeg v2)) < v1 → b_au_placeOfLatest_7 post n v1 (v2 + (-1)) u) ∧ (¬ ((aI u 3 (Int32.toNatClampNeg v2)) < v1) → post v2 u)))
set_option maxRecDepth 100000 in
set_option maxHeartbeats 4000000 in
theorem k_au_placeOfLatest_7 {p : Program} {l : Launch} {e : Env} {R : Room} {s : State} {m : MethodId} {args : Array Value} {below : List Frame} {meth : Method} {c : Code} {D : va_G} {A : Nat → Prop} {ad : Nat → Nat} {ca : Nat → ClassId}  {post : Int32 → ZS → Prop} (cx : zx p R s m args meth c c_au_placeOfLatest 3 1 12 "ShortBridge$Auction" (some .int) zG zNs D (cT ca)) : ∀ (n : Nat) (v1 : Int32) (v2 : Int32) (u : ZS) (H : Heap) (locs : List Loc) (ls : Array Slot), zw D A s.heap (cW ad ca u) H locs → lv_has ls 3 [(0, .ref (ad 2)), (1, .int v1), (2, .int v2)] → b_au_placeOfLatest_7 post n v1 v2 u → W p l e R s m args below meth c H locs 0 0 (MQ below (va_Qi post (zE D (cT ca) (cW ad ca) A) A) args s 0 0 A) (F0 m 7 ls []) := by
  have cx0 := cx
  obtain ⟨hx, hb, hml, hown, hts, hN, hK, hr, hlk, hfr, hlc⟩ := cx
  intro n
  induction n with
  | zero => intro v1 v2 u H locs ls hI hl h; exact (h : False).elim
  | succ n ih =>
    intro v1 v2 u H locs ls hI hl h
    unfold b_au_placeOfLatest_7 at h
    refine lv_iload_n hx hb d_au_placeOfLatest_7 rfl (lv_at hl 2 rfl) ?_
    refine lv_if_lt hx hb d_au_placeOfLatest_8 rfl (fun hc => ?_) (fun hc => ?_)
    · have h := h.1 hc
      refine lv_iconst (v := (-1)) hx hb d_au_placeOfLatest_29 zc_iconst_m1 ?_
      exact zret_i hx hb hr hlk hK hI h d_au_placeOfLatest_30
    · have h := h.2 hc
      refine lv_aload_n hx hb d_au_placeOfLatest_11 rfl (lv_at hl 0 rfl) ?_
      refine cg_Auction_calls hx hb hts hown hK hI (hts _ q_92) d_au_placeOfLatest_12 ?_
      refine lv_iload_n hx hb d_au_placeOfLatest_15 rfl (lv_at hl 2 rfl) ?_
      obtain ⟨hi, h⟩ := h
      refine ca_calls hx hb hK hI hi d_au_placeOfLatest_16 ?_
      refine lv_iload_n hx hb d_au_placeOfLatest_17 rfl (lv_at hl 1 rfl) ?_
      refine lv_icmp_lt hx hb d_au_placeOfLatest_18 rfl (fun hc => ?_) (fun hc => ?_)
      · have h := h.1 hc
        refine lv_iinc (k := 2) (v := (v2 + (-1))) hx hb d_au_placeOfLatest_23 hl rfl (zi_m1 _) (by decide) rfl ?_
        intro ls hl
        have hl : lv_has ls 3 [(2, .int (v2 + (-1))), (0, .ref (ad 2)), (1, .int v1)] := hl
        refine lv_goto hx hb d_au_placeOfLatest_26 rfl ?_
        exact ih _ _ _ _ _ _ hI (lv_sub hl [1, 2, 0] rfl) h
      · have h := h.2 hc
        refine lv_iload_n hx hb d_au_placeOfLatest_21 rfl (lv_at hl 2 rfl) ?_
        exact zret_i hx hb hr hlk hK hI h d_au_placeOfLatest_22
def w_au_placeOfLatest (v1 : Int32) (u : ZS) (post : Int32 → ZS → Prop) : Prop := ∃ n0, b_au_placeOfLatest_7 post n0 v1 ((fI u 2) - 1) u
set_option maxRecDepth 100000 in
set_option maxHeartbeats 4000000 in
theorem t_au_placeOfLatest (l : Launch) (D : va_G) (ad : Nat → Nat) (ca : Nat → ClassId) {v1 : Int32} {u : ZS} {post : Int32 → ZS → Prop} (h : w_au_placeOfLatest v1 u post) : zI l y_au_placeOfLatest (Cond.code y_au_placeOfLatest c_au_placeOfLatest 3 (some .int) :: zG) { frames := 1, cells := 0, slots := 0, locals := 12 } D (cT ca) zNs (cW ad ca) [.ref (ad 2), .int v1] u post := by
  refine zI_of (cc := c_au_placeOfLatest) (maxL := 3) (ret := (some .int)) (by decide) (Nat.le_of_ble_eq_true rfl) ?_
  intro p e s m args below meth c ls A cx hI hl
  have cx0 := cx
  obtain ⟨hx, hb, hml, hown, hts, hN, hK, hr, hlk, hfr, hlc⟩ := cx
  have hl : lv_has ls 3 [(0, .ref (ad 2)), (1, .int v1)] := hl
  unfold w_au_placeOfLatest at h
  refine lv_aload_n hx hb d_au_placeOfLatest_0 rfl (lv_at hl 0 rfl) ?_
  refine cg_Auction_count hx hb hts hown hK hI (hts _ q_93) d_au_placeOfLatest_1 ?_
  refine lv_iconst (v := 1) hx hb d_au_placeOfLatest_4 zc_iconst_1 ?_
  refine lv_isub hx hb d_au_placeOfLatest_5 ?_
  refine lv_istore_n hx hb d_au_placeOfLatest_6 rfl hl (by decide) rfl ?_
  intro ls hl
  have hl : lv_has ls 3 [(2, .int ((fI u 2) - 1)), (0, .ref (ad 2)), (1, .int v1)] := hl
  obtain ⟨n0, h⟩ := h
  exact k_au_placeOfLatest_7 cx0  n0 _ _ _ _ _ _ hI (lv_sub hl [1, 2, 0] rfl) h
def b_au_hasEnded_34  (post : Int32 → ZS → Prop) (s0 : Int32) (u : ZS) : Prop := (s0 = 0 ∨ s0 = 1) ∧ post s0 u
set_option maxRecDepth 100000 in
set_option maxHeartbeats 4000000 in
theorem k_au_hasEnded_34 {p : Program} {l : Launch} {e : Env} {R : Room} {s : State} {m : MethodId} {args : Array Value} {below : List Frame} {meth : Method} {c : Code} {D : va_G} {A : Nat → Prop} {ad : Nat → Nat} {ca : Nat → ClassId}  {post : Int32 → ZS → Prop} (cx : zx p R s m args meth c c_au_hasEnded 3 2 34 "ShortBridge$Auction" (some .boolean) zG zNs D (cT ca)) {s0 : Int32} {u : ZS} {H : Heap} {locs : List Loc} {ls : Array Slot} (hI : zw D A s.heap (cW ad ca u) H locs) (hl : lv_has ls 3 []) (h : b_au_hasEnded_34 post s0 u) : W p l e R s m args below meth c H locs 0 0 (MQ below (va_Qi post (zE D (cT ca) (cW ad ca) A) A) args s 0 0 A) (F0 m 34 ls [.int s0]) := by
  have cx0 := cx
  obtain ⟨hx, hb, hml, hown, hts, hN, hK, hr, hlk, hfr, hlc⟩ := cx
  unfold b_au_hasEnded_34 at h
  exact zret_z hx hb hr hlk hK hI h.1 h.2 d_au_hasEnded_34
def b_au_hasEnded_26  (post : Int32 → ZS → Prop) (s0 : Int32) (s1 : Int32) (u : ZS) : Prop := (s1 < s0 → b_au_hasEnded_34 post 0 u) ∧ (¬ (s1 < s0) → b_au_hasEnded_34 post 1 u)
set_option maxRecDepth 100000 in
set_option maxHeartbeats 4000000 in
theorem k_au_hasEnded_26 {p : Program} {l : Launch} {e : Env} {R : Room} {s : State} {m : MethodId} {args : Array Value} {below : List Frame} {meth : Method} {c : Code} {D : va_G} {A : Nat → Prop} {ad : Nat → Nat} {ca : Nat → ClassId}  {post : Int32 → ZS → Prop} (cx : zx p R s m args meth c c_au_hasEnded 3 2 34 "ShortBridge$Auction" (some .boolean) zG zNs D (cT ca)) {s0 : Int32} {s1 : Int32} {u : ZS} {H : Heap} {locs : List Loc} {ls : Array Slot} (hI : zw D A s.heap (cW ad ca u) H locs) (hl : lv_has ls 3 []) (h : b_au_hasEnded_26 post s0 s1 u) : W p l e R s m args below meth c H locs 0 0 (MQ below (va_Qi post (zE D (cT ca) (cW ad ca) A) A) args s 0 0 A) (F0 m 26 ls [.int s0, .int s1]) := by
  have cx0 := cx
  obtain ⟨hx, hb, hml, hown, hts, hN, hK, hr, hlk, hfr, hlc⟩ := cx
  unfold b_au_hasEnded_26 at h
  refine lv_icmp_lt hx hb d_au_hasEnded_26 rfl (fun hc => ?_) (fun hc => ?_)
  · have h := h.1 hc
    refine lv_iconst (v := 0) hx hb d_au_hasEnded_33 zc_iconst_0 ?_
    exact k_au_hasEnded_34 cx0  hI (lv_sub hl [] rfl) h
  · have h := h.2 hc
    refine lv_iconst (v := 1) hx hb d_au_hasEnded_29 zc_iconst_1 ?_
    refine lv_goto hx hb d_au_hasEnded_30 rfl ?_
    exact k_au_hasEnded_34 cx0  hI (lv_sub hl [] rfl) h
def w_au_hasEnded  (u : ZS) (post : Int32 → ZS → Prop) : Prop := w_au_placeOfLatest 1 u (fun r1 u2 => (¬ r1 = (-1 : Int32) → b_au_hasEnded_26 post 3 (((fI u2 2) - 1) - r1) u2) ∧ (r1 = (-1 : Int32) → b_au_hasEnded_26 post 4 (((fI u2 2) - 1) - r1) u2))
set_option maxRecDepth 100000 in
set_option maxHeartbeats 4000000 in
theorem t_au_hasEnded (l : Launch) (D : va_G) (ad : Nat → Nat) (ca : Nat → ClassId)  {u : ZS} {post : Int32 → ZS → Prop} (h : w_au_hasEnded  u post) : zI l y_au_hasEnded (Cond.code y_au_hasEnded c_au_hasEnded 3 (some .boolean) :: zG) { frames := 2, cells := 0, slots := 0, locals := 34 } D (cT ca) zNs (cW ad ca) [.ref (ad 2)] u post := by
  refine zI_of (cc := c_au_hasEnded) (maxL := 3) (ret := (some .boolean)) (by decide) (Nat.le_of_ble_eq_true rfl) ?_
  intro p e s m args below meth c ls A cx hI hl
  have cx0 := cx
  obtain ⟨hx, hb, hml, hown, hts, hN, hK, hr, hlk, hfr, hlc⟩ := cx
  have hl : lv_has ls 3 [(0, .ref (ad 2))] := hl
  unfold w_au_hasEnded at h
  refine lv_aload_n hx hb d_au_hasEnded_0 rfl (lv_at hl 0 rfl) ?_
  refine lv_iconst (v := 1) hx hb d_au_hasEnded_1 zc_iconst_1 ?_
  refine zr_i (va_runV (As := [.int 1]) (rest := []) ⟨hx, hb, hml, hown, hts⟩ (t_au_placeOfLatest l D ad ca h _) (cwV 1 hts (zg_V q_242 q_244 q_6 q_41 q_245) rfl rfl rfl ⟨rfl, hd_au_placeOfLatest⟩ ⟨Nat.le_trans (by decide) hfr, Nat.le_trans (by decide) hlc⟩) (z_preV zNs_ok hK hN hI 2 2 rfl rfl _) rfl rfl hl.1 rfl (lv_room (Nat.le_of_ble_eq_true rfl)) d_au_hasEnded_2 ⟨Nat.zero_le _, Nat.zero_le _⟩) hI ?_
  intro r1 u2 H locs h hI
  refine lv_istore_n hx hb d_au_hasEnded_5 rfl hl (by decide) rfl ?_
  intro ls hl
  have hl : lv_has ls 3 [(1, .int r1), (0, .ref (ad 2))] := hl
  refine lv_aload_n hx hb d_au_hasEnded_6 rfl (lv_at hl 1 rfl) ?_
  refine cg_Auction_count hx hb hts hown hK hI (hts _ q_93) d_au_hasEnded_7 ?_
  refine lv_iconst (v := 1) hx hb d_au_hasEnded_10 zc_iconst_1 ?_
  refine lv_isub hx hb d_au_hasEnded_11 ?_
  refine lv_iload_n hx hb d_au_hasEnded_12 rfl (lv_at hl 0 rfl) ?_
  refine lv_isub hx hb d_au_hasEnded_13 ?_
  refine lv_istore_n hx hb d_au_hasEnded_14 rfl hl (by decide) rfl ?_
  intro ls hl
  have hl : lv_has ls 3 [(2, .int (((fI u2 2) - 1) - r1)), (1, .int r1), (0, .ref (ad 2))] := hl
  refine lv_iload_n hx hb d_au_hasEnded_15 rfl (lv_at hl 0 rfl) ?_
  refine lv_iload_n hx hb d_au_hasEnded_16 rfl (lv_at hl 1 rfl) ?_
  refine lv_iconst (v := (-1)) hx hb d_au_hasEnded_17 zc_iconst_m1 ?_
  refine lv_icmp_ne hx hb d_au_hasEnded_18 rfl (fun hc => ?_) (fun hc => ?_)
  · have h := h.1 hc
    refine lv_iconst (v := 3) hx hb d_au_hasEnded_25 zc_iconst_3 ?_
    exact k_au_hasEnded_26 cx0  hI (lv_sub hl [] rfl) h
  · have h := h.2 hc
    refine lv_iconst (v := 4) hx hb d_au_hasEnded_21 zc_iconst_4 ?_
    refine lv_goto hx hb d_au_hasEnded_22 rfl ?_
    exact k_au_hasEnded_26 cx0  hI (lv_sub hl [] rfl) h
def b_au_bid_21  (post : Int32 → ZS → Prop) (s0 : Int32) (u : ZS) : Prop := post s0 u
set_option maxRecDepth 100000 in
set_option maxHeartbeats 4000000 in
theorem k_au_bid_21 {p : Program} {l : Launch} {e : Env} {R : Room} {s : State} {m : MethodId} {args : Array Value} {below : List Frame} {meth : Method} {c : Code} {D : va_G} {A : Nat → Prop} {ad : Nat → Nat} {ca : Nat → ClassId}  {post : Int32 → ZS → Prop} (cx : zx p R s m args meth c c_au_bid 2 2 34 "ShortBridge$Auction" (some .int) zG zNs D (cT ca)) {s0 : Int32} {u : ZS} {H : Heap} {locs : List Loc} {ls : Array Slot} (hI : zw D A s.heap (cW ad ca u) H locs) (hl : lv_has ls 2 []) (h : b_au_bid_21 post s0 u) : W p l e R s m args below meth c H locs 0 0 (MQ below (va_Qi post (zE D (cT ca) (cW ad ca) A) A) args s 0 0 A) (F0 m 21 ls [.int s0]) := by
  have cx0 := cx
  obtain ⟨hx, hb, hml, hown, hts, hN, hK, hr, hlk, hfr, hlc⟩ := cx
  unfold b_au_bid_21 at h
  exact zret_i hx hb hr hlk hK hI h d_au_bid_21
def w_au_bid  (u : ZS) (post : Int32 → ZS → Prop) : Prop := w_au_placeOfLatest 3 u (fun r1 u2 => (¬ r1 = (-1 : Int32) → vp_in r1 139 ∧ (b_au_bid_21 post (aI u2 3 (Int32.toNatClampNeg r1)) u2)) ∧ (r1 = (-1 : Int32) → b_au_bid_21 post (-1 : Int32) u2))
set_option maxRecDepth 100000 in
set_option maxHeartbeats 4000000 in
theorem t_au_bid (l : Launch) (D : va_G) (ad : Nat → Nat) (ca : Nat → ClassId)  {u : ZS} {post : Int32 → ZS → Prop} (h : w_au_bid  u post) : zI l y_au_bid (Cond.code y_au_bid c_au_bid 2 (some .int) :: zG) { frames := 2, cells := 0, slots := 0, locals := 34 } D (cT ca) zNs (cW ad ca) [.ref (ad 2)] u post := by
  refine zI_of (cc := c_au_bid) (maxL := 2) (ret := (some .int)) (by decide) (Nat.le_of_ble_eq_true rfl) ?_
  intro p e s m args below meth c ls A cx hI hl
  have cx0 := cx
  obtain ⟨hx, hb, hml, hown, hts, hN, hK, hr, hlk, hfr, hlc⟩ := cx
  have hl : lv_has ls 2 [(0, .ref (ad 2))] := hl
  unfold w_au_bid at h
  refine lv_aload_n hx hb d_au_bid_0 rfl (lv_at hl 0 rfl) ?_
  refine lv_iconst (v := 3) hx hb d_au_bid_1 zc_iconst_3 ?_
  refine zr_i (va_runV (As := [.int 3]) (rest := []) ⟨hx, hb, hml, hown, hts⟩ (t_au_placeOfLatest l D ad ca h _) (cwV 1 hts (zg_V q_242 q_244 q_6 q_41 q_245) rfl rfl rfl ⟨rfl, hd_au_placeOfLatest⟩ ⟨Nat.le_trans (by decide) hfr, Nat.le_trans (by decide) hlc⟩) (z_preV zNs_ok hK hN hI 2 2 rfl rfl _) rfl rfl hl.1 rfl (lv_room (Nat.le_of_ble_eq_true rfl)) d_au_bid_2 ⟨Nat.zero_le _, Nat.zero_le _⟩) hI ?_
  intro r1 u2 H locs h hI
  refine lv_istore_n hx hb d_au_bid_5 rfl hl (by decide) rfl ?_
  intro ls hl
  have hl : lv_has ls 2 [(1, .int r1), (0, .ref (ad 2))] := hl
  refine lv_iload_n hx hb d_au_bid_6 rfl (lv_at hl 0 rfl) ?_
  refine lv_iconst (v := (-1)) hx hb d_au_bid_7 zc_iconst_m1 ?_
  refine lv_icmp_ne hx hb d_au_bid_8 rfl (fun hc => ?_) (fun hc => ?_)
  · have h := h.1 hc
    refine lv_aload_n hx hb d_au_bid_15 rfl (lv_at hl 1 rfl) ?_
    refine cg_Auction_calls hx hb hts hown hK hI (hts _ q_92) d_au_bid_16 ?_
    refine lv_iload_n hx hb d_au_bid_19 rfl (lv_at hl 0 rfl) ?_
    obtain ⟨hi, h⟩ := h
    refine ca_calls hx hb hK hI hi d_au_bid_20 ?_
    exact k_au_bid_21 cx0  hI (lv_sub hl [] rfl) h
  · have h := h.2 hc
    refine lv_iconst (v := (-1)) hx hb d_au_bid_11 zc_iconst_m1 ?_
    refine lv_goto hx hb d_au_bid_12 rfl ?_
    exact k_au_bid_21 cx0  hI (lv_sub hl [] rfl) h
def w_x_playerBehind (v0 : Int32) (v1 : Int32) (u : ZS) (post : Int32 → ZS → Prop) : Prop := post ((v0 + v1) - (v0 + v1) / 4 * 4) u
set_option maxRecDepth 100000 in
set_option maxHeartbeats 4000000 in
theorem t_x_playerBehind (l : Launch) (D : va_G) (ad : Nat → Nat) (ca : Nat → ClassId) {v0 : Int32} {v1 : Int32} {u : ZS} {post : Int32 → ZS → Prop} (h : w_x_playerBehind v0 v1 u post) : zI l y_x_playerBehind (Cond.code y_x_playerBehind c_x_playerBehind 2 (some .int) :: zG) { frames := 1, cells := 0, slots := 0, locals := 12 } D (cT ca) zNs (cW ad ca) [.int v0, .int v1] u post := by
  refine zI_of (cc := c_x_playerBehind) (maxL := 2) (ret := (some .int)) (by decide) (Nat.le_of_ble_eq_true rfl) ?_
  intro p e s m args below meth c ls A cx hI hl
  have cx0 := cx
  obtain ⟨hx, hb, hml, hown, hts, hN, hK, hr, hlk, hfr, hlc⟩ := cx
  have hl : lv_has ls 2 [(0, .int v0), (1, .int v1)] := hl
  unfold w_x_playerBehind at h
  refine lv_iload_n hx hb d_x_playerBehind_0 rfl (lv_at hl 0 rfl) ?_
  refine lv_iload_n hx hb d_x_playerBehind_1 rfl (lv_at hl 1 rfl) ?_
  refine lv_iadd hx hb d_x_playerBehind_2 ?_
  refine lv_iconst (v := 4) hx hb d_x_playerBehind_3 zc_iconst_4 ?_
  refine lv_irem hx hb d_x_playerBehind_4 (by decide) ?_
  exact zret_i hx hb hr hlk hK hI h d_x_playerBehind_5
def w_au_callerOf (v1 : Int32) (u : ZS) (post : Int32 → ZS → Prop) : Prop := w_x_playerBehind (fI u 3) v1 u (fun r1 u2 => post r1 u2)
set_option maxRecDepth 100000 in
set_option maxHeartbeats 4000000 in
theorem t_au_callerOf (l : Launch) (D : va_G) (ad : Nat → Nat) (ca : Nat → ClassId) {v1 : Int32} {u : ZS} {post : Int32 → ZS → Prop} (h : w_au_callerOf v1 u post) : zI l y_au_callerOf (Cond.code y_au_callerOf c_au_callerOf 2 (some .int) :: zG) { frames := 2, cells := 0, slots := 0, locals := 33 } D (cT ca) zNs (cW ad ca) [.ref (ad 2), .int v1] u post := by
  refine zI_of (cc := c_au_callerOf) (maxL := 2) (ret := (some .int)) (by decide) (Nat.le_of_ble_eq_true rfl) ?_
  intro p e s m args below meth c ls A cx hI hl
  have cx0 := cx
  obtain ⟨hx, hb, hml, hown, hts, hN, hK, hr, hlk, hfr, hlc⟩ := cx
  have hl : lv_has ls 2 [(0, .ref (ad 2)), (1, .int v1)] := hl
  unfold w_au_callerOf at h
  refine lv_aload_n hx hb d_au_callerOf_0 rfl (lv_at hl 0 rfl) ?_
  refine cg_Auction_dealer hx hb hts hown hK hI (hts _ q_95) d_au_callerOf_1 ?_
  refine lv_iload_n hx hb d_au_callerOf_4 rfl (lv_at hl 1 rfl) ?_
  refine zr_i (va_runSN (As := [.int (fI u 3), .int v1]) (rest := []) ⟨hx, hb, hml, hown, hts⟩ (t_x_playerBehind l D ad ca h _) ⟨va_cnB 2 hts (zg_c q_269) rfl rfl rfl (hN _ nw_12) (hts _ q_39) hd_x_playerBehind ⟨Nat.le_trans (by decide) hfr, Nat.le_trans (by decide) hlc⟩, hts _ q_268, trivial⟩ (z_preS zNs_ok hK hN hI _) rfl rfl hl.1 rfl (lv_room (Nat.le_of_ble_eq_true rfl)) d_au_callerOf_5 ⟨Nat.zero_le _, Nat.zero_le _⟩) hI ?_
  intro r1 u2 H locs h hI
  exact zret_i hx hb hr hlk hK hI h d_au_callerOf_8
def w_au_caller  (u : ZS) (post : Int32 → ZS → Prop) : Prop := w_au_callerOf (fI u 2) u (fun r1 u2 => post r1 u2)
set_option maxRecDepth 100000 in
set_option maxHeartbeats 4000000 in
theorem t_au_caller (l : Launch) (D : va_G) (ad : Nat → Nat) (ca : Nat → ClassId)  {u : ZS} {post : Int32 → ZS → Prop} (h : w_au_caller  u post) : zI l y_au_caller (Cond.code y_au_caller c_au_caller 1 (some .int) :: zG) { frames := 3, cells := 0, slots := 0, locals := 54 } D (cT ca) zNs (cW ad ca) [.ref (ad 2)] u post := by
  refine zI_of (cc := c_au_caller) (maxL := 1) (ret := (some .int)) (by decide) (Nat.le_of_ble_eq_true rfl) ?_
  intro p e s m args below meth c ls A cx hI hl
  have cx0 := cx
  obtain ⟨hx, hb, hml, hown, hts, hN, hK, hr, hlk, hfr, hlc⟩ := cx
  have hl : lv_has ls 1 [(0, .ref (ad 2))] := hl
  unfold w_au_caller at h
  refine lv_aload_n hx hb d_au_caller_0 rfl (lv_at hl 0 rfl) ?_
  refine lv_aload_n hx hb d_au_caller_1 rfl (lv_at hl 0 rfl) ?_
  refine cg_Auction_count hx hb hts hown hK hI (hts _ q_93) d_au_caller_2 ?_
  refine zr_i (va_runV (As := [.int (fI u 2)]) (rest := []) ⟨hx, hb, hml, hown, hts⟩ (t_au_callerOf l D ad ca h _) (cwV 1 hts (zg_V q_263 q_265 q_7 q_41 q_266) rfl rfl rfl ⟨rfl, hd_au_callerOf⟩ ⟨Nat.le_trans (by decide) hfr, Nat.le_trans (by decide) hlc⟩) (z_preV zNs_ok hK hN hI 2 2 rfl rfl _) rfl rfl hl.1 rfl (lv_room (Nat.le_of_ble_eq_true rfl)) d_au_caller_5 ⟨Nat.zero_le _, Nat.zero_le _⟩) hI ?_
  intro r1 u2 H locs h hI
  exact zret_i hx hb hr hlk hK hI h d_au_caller_8
def b_au_takeBack_17  (post : ZS → Prop)  (u : ZS) : Prop := post u
set_option maxRecDepth 100000 in
set_option maxHeartbeats 4000000 in
theorem k_au_takeBack_17 {p : Program} {l : Launch} {e : Env} {R : Room} {s : State} {m : MethodId} {args : Array Value} {below : List Frame} {meth : Method} {c : Code} {D : va_G} {A : Nat → Prop} {ad : Nat → Nat} {ca : Nat → ClassId}  {post : ZS → Prop} (cx : zx p R s m args meth c c_au_takeBack 1 1 12 "ShortBridge$Auction" none zG zNs D (cT ca)) {u : ZS} {H : Heap} {locs : List Loc} {ls : Array Slot} (hI : zw D A s.heap (cW ad ca u) H locs) (hl : lv_has ls 1 []) (h : b_au_takeBack_17 post  u) : W p l e R s m args below meth c H locs 0 0 (MQ below (va_Qv post (zE D (cT ca) (cW ad ca) A) A) args s 0 0 A) (F0 m 17 ls []) := by
  have cx0 := cx
  obtain ⟨hx, hb, hml, hown, hts, hN, hK, hr, hlk, hfr, hlc⟩ := cx
  unfold b_au_takeBack_17 at h
  exact zret_v hx hb hr hlk hK hI h d_au_takeBack_17
def w_au_takeBack  (u : ZS) (post : ZS → Prop) : Prop := ((fI u 2) ≤ 0 → b_au_takeBack_17 post u) ∧ (¬ ((fI u 2) ≤ 0) → b_au_takeBack_17 post (sI u 2 ((fI u 2) - 1)))
set_option maxRecDepth 100000 in
set_option maxHeartbeats 4000000 in
theorem t_au_takeBack (l : Launch) (D : va_G) (ad : Nat → Nat) (ca : Nat → ClassId)  {u : ZS} {post : ZS → Prop} (h : w_au_takeBack  u post) : zV l y_au_takeBack (Cond.code y_au_takeBack c_au_takeBack 1 none :: zG) { frames := 1, cells := 0, slots := 0, locals := 12 } D (cT ca) zNs (cW ad ca) [.ref (ad 2)] u post := by
  refine zV_of (cc := c_au_takeBack) (maxL := 1) (by decide) (Nat.le_of_ble_eq_true rfl) ?_
  intro p e s m args below meth c ls A cx hI hl
  have cx0 := cx
  obtain ⟨hx, hb, hml, hown, hts, hN, hK, hr, hlk, hfr, hlc⟩ := cx
  have hl : lv_has ls 1 [(0, .ref (ad 2))] := hl
  unfold w_au_takeBack at h
  refine lv_aload_n hx hb d_au_takeBack_0 rfl (lv_at hl 0 rfl) ?_
  refine cg_Auction_count hx hb hts hown hK hI (hts _ q_93) d_au_takeBack_1 ?_
  refine lv_if_le hx hb d_au_takeBack_4 rfl (fun hc => ?_) (fun hc => ?_)
  · have h := h.1 hc
    exact k_au_takeBack_17 cx0  hI (lv_sub hl [] rfl) h
  · have h := h.2 hc
    refine lv_aload_n hx hb d_au_takeBack_7 rfl (lv_at hl 0 rfl) ?_
    refine lv_dup hx hb d_au_takeBack_8 rfl ?_
    refine cg_Auction_count hx hb hts hown hK hI (hts _ q_93) d_au_takeBack_9 ?_
    refine lv_iconst (v := 1) hx hb d_au_takeBack_12 zc_iconst_1 ?_
    refine lv_isub hx hb d_au_takeBack_13 ?_
    refine cp_Auction_count hx hb hts hown hK hI (hts _ q_93) d_au_takeBack_14 ?_
    intro H locs hI
    exact k_au_takeBack_17 cx0  hI (lv_sub hl [] rfl) h
def b_au_doubled_21  (post : Int32 → ZS → Prop)  (u : ZS) : Prop := post 0 u
set_option maxRecDepth 100000 in
set_option maxHeartbeats 4000000 in
theorem k_au_doubled_21 {p : Program} {l : Launch} {e : Env} {R : Room} {s : State} {m : MethodId} {args : Array Value} {below : List Frame} {meth : Method} {c : Code} {D : va_G} {A : Nat → Prop} {ad : Nat → Nat} {ca : Nat → ClassId}  {post : Int32 → ZS → Prop} (cx : zx p R s m args meth c c_au_doubled 2 2 34 "ShortBridge$Auction" (some .int) zG zNs D (cT ca)) {u : ZS} {H : Heap} {locs : List Loc} {ls : Array Slot} (hI : zw D A s.heap (cW ad ca u) H locs) (hl : lv_has ls 2 []) (h : b_au_doubled_21 post  u) : W p l e R s m args below meth c H locs 0 0 (MQ below (va_Qi post (zE D (cT ca) (cW ad ca) A) A) args s 0 0 A) (F0 m 21 ls []) := by
  have cx0 := cx
  obtain ⟨hx, hb, hml, hown, hts, hN, hK, hr, hlk, hfr, hlc⟩ := cx
  unfold b_au_doubled_21 at h
  refine lv_iconst (v := 0) hx hb d_au_doubled_21 zc_iconst_0 ?_
  exact zret_i hx hb hr hlk hK hI h d_au_doubled_22
def b_au_doubled_38  (post : Int32 → ZS → Prop) (s0 : Int32) (u : ZS) : Prop := post s0 u
set_option maxRecDepth 100000 in
set_option maxHeartbeats 4000000 in
theorem k_au_doubled_38 {p : Program} {l : Launch} {e : Env} {R : Room} {s : State} {m : MethodId} {args : Array Value} {below : List Frame} {meth : Method} {c : Code} {D : va_G} {A : Nat → Prop} {ad : Nat → Nat} {ca : Nat → ClassId}  {post : Int32 → ZS → Prop} (cx : zx p R s m args meth c c_au_doubled 2 2 34 "ShortBridge$Auction" (some .int) zG zNs D (cT ca)) {s0 : Int32} {u : ZS} {H : Heap} {locs : List Loc} {ls : Array Slot} (hI : zw D A s.heap (cW ad ca u) H locs) (hl : lv_has ls 2 []) (h : b_au_doubled_38 post s0 u) : W p l e R s m args below meth c H locs 0 0 (MQ below (va_Qi post (zE D (cT ca) (cW ad ca) A) A) args s 0 0 A) (F0 m 38 ls [.int s0]) := by
  have cx0 := cx
  obtain ⟨hx, hb, hml, hown, hts, hN, hK, hr, hlk, hfr, hlc⟩ := cx
  unfold b_au_doubled_38 at h
  exact zret_i hx hb hr hlk hK hI h d_au_doubled_38
def w_au_doubled  (u : ZS) (post : Int32 → ZS → Prop) : Prop := w_au_placeOfLatest 1 u (fun r1 u2 => (r1 = (-1 : Int32) → b_au_doubled_21 post u2) ∧ (¬ (r1 = (-1 : Int32)) → vp_in r1 139 ∧ (((aI u2 3 (Int32.toNatClampNeg r1)) < 3 → vp_in r1 139 ∧ ((¬ (aI u2 3 (Int32.toNatClampNeg r1)) = 2 → b_au_doubled_38 post 1 u2) ∧ ((aI u2 3 (Int32.toNatClampNeg r1)) = 2 → b_au_doubled_38 post 2 u2))) ∧ (¬ ((aI u2 3 (Int32.toNatClampNeg r1)) < 3) → b_au_doubled_21 post u2))))
set_option maxRecDepth 100000 in
set_option maxHeartbeats 4000000 in
theorem t_au_doubled (l : Launch) (D : va_G) (ad : Nat → Nat) (ca : Nat → ClassId)  {u : ZS} {post : Int32 → ZS → Prop} (h : w_au_doubled  u post) : zI l y_au_doubled (Cond.code y_au_doubled c_au_doubled 2 (some .int) :: zG) { frames := 2, cells := 0, slots := 0, locals := 34 } D (cT ca) zNs (cW ad ca) [.ref (ad 2)] u post := by
  refine zI_of (cc := c_au_doubled) (maxL := 2) (ret := (some .int)) (by decide) (Nat.le_of_ble_eq_true rfl) ?_
  intro p e s m args below meth c ls A cx hI hl
  have cx0 := cx
  obtain ⟨hx, hb, hml, hown, hts, hN, hK, hr, hlk, hfr, hlc⟩ := cx
  have hl : lv_has ls 2 [(0, .ref (ad 2))] := hl
  unfold w_au_doubled at h
  refine lv_aload_n hx hb d_au_doubled_0 rfl (lv_at hl 0 rfl) ?_
  refine lv_iconst (v := 1) hx hb d_au_doubled_1 zc_iconst_1 ?_
  refine zr_i (va_runV (As := [.int 1]) (rest := []) ⟨hx, hb, hml, hown, hts⟩ (t_au_placeOfLatest l D ad ca h _) (cwV 1 hts (zg_V q_242 q_244 q_6 q_41 q_245) rfl rfl rfl ⟨rfl, hd_au_placeOfLatest⟩ ⟨Nat.le_trans (by decide) hfr, Nat.le_trans (by decide) hlc⟩) (z_preV zNs_ok hK hN hI 2 2 rfl rfl _) rfl rfl hl.1 rfl (lv_room (Nat.le_of_ble_eq_true rfl)) d_au_doubled_2 ⟨Nat.zero_le _, Nat.zero_le _⟩) hI ?_
  intro r1 u2 H locs h hI
  refine lv_istore_n hx hb d_au_doubled_5 rfl hl (by decide) rfl ?_
  intro ls hl
  have hl : lv_has ls 2 [(1, .int r1), (0, .ref (ad 2))] := hl
  refine lv_iload_n hx hb d_au_doubled_6 rfl (lv_at hl 0 rfl) ?_
  refine lv_iconst (v := (-1)) hx hb d_au_doubled_7 zc_iconst_m1 ?_
  refine lv_icmp_eq hx hb d_au_doubled_8 rfl (fun hc => ?_) (fun hc => ?_)
  · have h := h.1 hc
    exact k_au_doubled_21 cx0  hI (lv_sub hl [] rfl) h
  · have h := h.2 hc
    refine lv_aload_n hx hb d_au_doubled_11 rfl (lv_at hl 1 rfl) ?_
    refine cg_Auction_calls hx hb hts hown hK hI (hts _ q_92) d_au_doubled_12 ?_
    refine lv_iload_n hx hb d_au_doubled_15 rfl (lv_at hl 0 rfl) ?_
    obtain ⟨hi, h⟩ := h
    refine ca_calls hx hb hK hI hi d_au_doubled_16 ?_
    refine lv_iconst (v := 3) hx hb d_au_doubled_17 zc_iconst_3 ?_
    refine lv_icmp_lt hx hb d_au_doubled_18 rfl (fun hc => ?_) (fun hc => ?_)
    · have h := h.1 hc
      refine lv_aload_n hx hb d_au_doubled_23 rfl (lv_at hl 1 rfl) ?_
      refine cg_Auction_calls hx hb hts hown hK hI (hts _ q_92) d_au_doubled_24 ?_
      refine lv_iload_n hx hb d_au_doubled_27 rfl (lv_at hl 0 rfl) ?_
      obtain ⟨hi, h⟩ := h
      refine ca_calls hx hb hK hI hi d_au_doubled_28 ?_
      refine lv_iconst (v := 2) hx hb d_au_doubled_29 zc_iconst_2 ?_
      refine lv_icmp_ne hx hb d_au_doubled_30 rfl (fun hc => ?_) (fun hc => ?_)
      · have h := h.1 hc
        refine lv_iconst (v := 1) hx hb d_au_doubled_37 zc_iconst_1 ?_
        exact k_au_doubled_38 cx0  hI (lv_sub hl [] rfl) h
      · have h := h.2 hc
        refine lv_iconst (v := 2) hx hb d_au_doubled_33 zc_iconst_2 ?_
        refine lv_goto hx hb d_au_doubled_34 rfl ?_
        exact k_au_doubled_38 cx0  hI (lv_sub hl [] rfl) h
    · have h := h.2 hc
      exact k_au_doubled_21 cx0  hI (lv_sub hl [] rfl) h
def w_x_sideOf (v0 : Int32) (u : ZS) (post : Int32 → ZS → Prop) : Prop := post (v0 &&& 1) u
set_option maxRecDepth 100000 in
set_option maxHeartbeats 4000000 in
theorem t_x_sideOf (l : Launch) (D : va_G) (ad : Nat → Nat) (ca : Nat → ClassId) {v0 : Int32} {u : ZS} {post : Int32 → ZS → Prop} (h : w_x_sideOf v0 u post) : zI l y_x_sideOf (Cond.code y_x_sideOf c_x_sideOf 1 (some .int) :: zG) { frames := 1, cells := 0, slots := 0, locals := 12 } D (cT ca) zNs (cW ad ca) [.int v0] u post := by
  refine zI_of (cc := c_x_sideOf) (maxL := 1) (ret := (some .int)) (by decide) (Nat.le_of_ble_eq_true rfl) ?_
  intro p e s m args below meth c ls A cx hI hl
  have cx0 := cx
  obtain ⟨hx, hb, hml, hown, hts, hN, hK, hr, hlk, hfr, hlc⟩ := cx
  have hl : lv_has ls 1 [(0, .int v0)] := hl
  unfold w_x_sideOf at h
  refine lv_iload_n hx hb d_x_sideOf_0 rfl (lv_at hl 0 rfl) ?_
  refine lv_iconst (v := 1) hx hb d_x_sideOf_1 zc_iconst_1 ?_
  refine lv_iand hx hb d_x_sideOf_2 ?_
  exact zret_i hx hb hr hlk hK hI h d_x_sideOf_3
def b_au_isSameSide_24  (post : Int32 → ZS → Prop) (s0 : Int32) (u : ZS) : Prop := (s0 = 0 ∨ s0 = 1) ∧ post s0 u
set_option maxRecDepth 100000 in
set_option maxHeartbeats 4000000 in
theorem k_au_isSameSide_24 {p : Program} {l : Launch} {e : Env} {R : Room} {s : State} {m : MethodId} {args : Array Value} {below : List Frame} {meth : Method} {c : Code} {D : va_G} {A : Nat → Prop} {ad : Nat → Nat} {ca : Nat → ClassId}  {post : Int32 → ZS → Prop} (cx : zx p R s m args meth c c_au_isSameSide 3 3 54 "ShortBridge$Auction" (some .boolean) zG zNs D (cT ca)) {s0 : Int32} {u : ZS} {H : Heap} {locs : List Loc} {ls : Array Slot} (hI : zw D A s.heap (cW ad ca u) H locs) (hl : lv_has ls 3 []) (h : b_au_isSameSide_24 post s0 u) : W p l e R s m args below meth c H locs 0 0 (MQ below (va_Qi post (zE D (cT ca) (cW ad ca) A) A) args s 0 0 A) (F0 m 24 ls [.int s0]) := by
  have cx0 := cx
  obtain ⟨hx, hb, hml, hown, hts, hN, hK, hr, hlk, hfr, hlc⟩ := cx
  unfold b_au_isSameSide_24 at h
  exact zret_z hx hb hr hlk hK hI h.1 h.2 d_au_isSameSide_24
def w_au_isSameSide (v1 : Int32) (v2 : Int32) (u : ZS) (post : Int32 → ZS → Prop) : Prop := w_au_callerOf v1 u (fun r1 u2 => w_x_sideOf r1 u2 (fun r3 u4 => w_au_callerOf v2 u4 (fun r5 u6 => w_x_sideOf r5 u6 (fun r7 u8 => (¬ r3 = r7 → b_au_isSameSide_24 post 0 u8) ∧ (r3 = r7 → b_au_isSameSide_24 post 1 u8)))))
set_option maxRecDepth 100000 in
set_option maxHeartbeats 4000000 in
theorem t_au_isSameSide (l : Launch) (D : va_G) (ad : Nat → Nat) (ca : Nat → ClassId) {v1 : Int32} {v2 : Int32} {u : ZS} {post : Int32 → ZS → Prop} (h : w_au_isSameSide v1 v2 u post) : zI l y_au_isSameSide (Cond.code y_au_isSameSide c_au_isSameSide 3 (some .boolean) :: zG) { frames := 3, cells := 0, slots := 0, locals := 54 } D (cT ca) zNs (cW ad ca) [.ref (ad 2), .int v1, .int v2] u post := by
  refine zI_of (cc := c_au_isSameSide) (maxL := 3) (ret := (some .boolean)) (by decide) (Nat.le_of_ble_eq_true rfl) ?_
  intro p e s m args below meth c ls A cx hI hl
  have cx0 := cx
  obtain ⟨hx, hb, hml, hown, hts, hN, hK, hr, hlk, hfr, hlc⟩ := cx
  have hl : lv_has ls 3 [(0, .ref (ad 2)), (1, .int v1), (2, .int v2)] := hl
  unfold w_au_isSameSide at h
  refine lv_aload_n hx hb d_au_isSameSide_0 rfl (lv_at hl 0 rfl) ?_
  refine lv_iload_n hx hb d_au_isSameSide_1 rfl (lv_at hl 1 rfl) ?_
  refine zr_i (va_runV (As := [.int v1]) (rest := []) ⟨hx, hb, hml, hown, hts⟩ (t_au_callerOf l D ad ca h _) (cwV 1 hts (zg_V q_263 q_265 q_7 q_41 q_266) rfl rfl rfl ⟨rfl, hd_au_callerOf⟩ ⟨Nat.le_trans (by decide) hfr, Nat.le_trans (by decide) hlc⟩) (z_preV zNs_ok hK hN hI 2 2 rfl rfl _) rfl rfl hl.1 rfl (lv_room (Nat.le_of_ble_eq_true rfl)) d_au_isSameSide_2 ⟨Nat.zero_le _, Nat.zero_le _⟩) hI ?_
  intro r1 u2 H locs h hI
  refine zr_i (va_runSN (As := [.int r1]) (rest := []) ⟨hx, hb, hml, hown, hts⟩ (t_x_sideOf l D ad ca h _) ⟨va_cnB 1 hts (zg_c q_314) rfl rfl rfl (hN _ nw_14) (hts _ q_39) hd_x_sideOf ⟨Nat.le_trans (by decide) hfr, Nat.le_trans (by decide) hlc⟩, hts _ q_313, trivial⟩ (z_preS zNs_ok hK hN hI _) rfl rfl hl.1 rfl (lv_room (Nat.le_of_ble_eq_true rfl)) d_au_isSameSide_5 ⟨Nat.zero_le _, Nat.zero_le _⟩) hI ?_
  intro r3 u4 H locs h hI
  refine lv_aload_n hx hb d_au_isSameSide_8 rfl (lv_at hl 0 rfl) ?_
  refine lv_iload_n hx hb d_au_isSameSide_9 rfl (lv_at hl 2 rfl) ?_
  refine zr_i (va_runV (As := [.int v2]) (rest := [.int r3]) ⟨hx, hb, hml, hown, hts⟩ (t_au_callerOf l D ad ca h _) (cwV 1 hts (zg_V q_263 q_265 q_7 q_41 q_266) rfl rfl rfl ⟨rfl, hd_au_callerOf⟩ ⟨Nat.le_trans (by decide) hfr, Nat.le_trans (by decide) hlc⟩) (z_preV zNs_ok hK hN hI 2 2 rfl rfl _) rfl rfl hl.1 rfl (lv_room (Nat.le_of_ble_eq_true rfl)) d_au_isSameSide_10 ⟨Nat.zero_le _, Nat.zero_le _⟩) hI ?_
  intro r5 u6 H locs h hI
  refine zr_i (va_runSN (As := [.int r5]) (rest := [.int r3]) ⟨hx, hb, hml, hown, hts⟩ (t_x_sideOf l D ad ca h _) ⟨va_cnB 1 hts (zg_c q_314) rfl rfl rfl (hN _ nw_14) (hts _ q_39) hd_x_sideOf ⟨Nat.le_trans (by decide) hfr, Nat.le_trans (by decide) hlc⟩, hts _ q_313, trivial⟩ (z_preS zNs_ok hK hN hI _) rfl rfl hl.1 rfl (lv_room (Nat.le_of_ble_eq_true rfl)) d_au_isSameSide_13 ⟨Nat.zero_le _, Nat.zero_le _⟩) hI ?_
  intro r7 u8 H locs h hI
  refine lv_icmp_ne hx hb d_au_isSameSide_16 rfl (fun hc => ?_) (fun hc => ?_)
  · have h := h.1 hc
    refine lv_iconst (v := 0) hx hb d_au_isSameSide_23 zc_iconst_0 ?_
    exact k_au_isSameSide_24 cx0  hI (lv_sub hl [] rfl) h
  · have h := h.2 hc
    refine lv_iconst (v := 1) hx hb d_au_isSameSide_19 zc_iconst_1 ?_
    refine lv_goto hx hb d_au_isSameSide_20 rfl ?_
    exact k_au_isSameSide_24 cx0  hI (lv_sub hl [] rfl) h
def w_au_strain (v0 : Int32) (u : ZS) (post : Int32 → ZS → Prop) : Prop := post ((v0 - 3) - (v0 - 3) / 5 * 5) u
set_option maxRecDepth 100000 in
set_option maxHeartbeats 4000000 in
theorem t_au_strain (l : Launch) (D : va_G) (ad : Nat → Nat) (ca : Nat → ClassId) {v0 : Int32} {u : ZS} {post : Int32 → ZS → Prop} (h : w_au_strain v0 u post) : zI l y_au_strain (Cond.code y_au_strain c_au_strain 1 (some .int) :: zG) { frames := 1, cells := 0, slots := 0, locals := 12 } D (cT ca) zNs (cW ad ca) [.int v0] u post := by
  refine zI_of (cc := c_au_strain) (maxL := 1) (ret := (some .int)) (by decide) (Nat.le_of_ble_eq_true rfl) ?_
  intro p e s m args below meth c ls A cx hI hl
  have cx0 := cx
  obtain ⟨hx, hb, hml, hown, hts, hN, hK, hr, hlk, hfr, hlc⟩ := cx
  have hl : lv_has ls 1 [(0, .int v0)] := hl
  unfold w_au_strain at h
  refine lv_iload_n hx hb d_au_strain_0 rfl (lv_at hl 0 rfl) ?_
  refine lv_iconst (v := 3) hx hb d_au_strain_1 zc_iconst_3 ?_
  refine lv_isub hx hb d_au_strain_2 ?_
  refine lv_iconst (v := 5) hx hb d_au_strain_3 zc_iconst_5 ?_
  refine lv_irem hx hb d_au_strain_4 (by decide) ?_
  exact zret_i hx hb hr hlk hK hI h d_au_strain_5
def b_au_declarer_66 (r15 : Int32 → Int32 → ZS → Prop) (post : Int32 → ZS → Prop) (v1 : Int32) (v2 : Int32) (u : ZS) : Prop := r15 v1 (v2 + 1) u
set_option maxRecDepth 100000 in
set_option maxHeartbeats 4000000 in
theorem k_au_declarer_66 {p : Program} {l : Launch} {e : Env} {R : Room} {s : State} {m : MethodId} {args : Array Value} {below : List Frame} {meth : Method} {c : Code} {D : va_G} {A : Nat → Prop} {ad : Nat → Nat} {ca : Nat → ClassId} {r15 : Int32 → Int32 → ZS → Prop} {post : Int32 → ZS → Prop} (cx : zx p R s m args meth c c_au_declarer 3 4 76 "ShortBridge$Auction" (some .int) zG zNs D (cT ca)) (hk15 : ∀ (v1 : Int32) (v2 : Int32) (u : ZS) (H : Heap) (locs : List Loc) (ls : Array Slot), zw D A s.heap (cW ad ca u) H locs → lv_has ls 3 [(0, .ref (ad 2)), (1, .int v1), (2, .int v2)] → r15 v1 v2 u → W p l e R s m args below meth c H locs 0 0 (MQ below (va_Qi post (zE D (cT ca) (cW ad ca) A) A) args s 0 0 A) (F0 m 15 ls [])) {v1 : Int32} {v2 : Int32} {u : ZS} {H : Heap} {locs : List Loc} {ls : Array Slot} (hI : zw D A s.heap (cW ad ca u) H locs) (hl : lv_has ls 3 [(0, .ref (ad 2)), (1, .int v1), (2, .int v2)]) (h : b_au_declarer_66 r15 post v1 v2 u) : W p l e R s m args below meth c H locs 0 0 (MQ below (va_Qi post (zE D (cT ca) (cW ad ca) A) A) args s 0 0 A) (F0 m 66 ls []) := by
  have cx0 := cx
  obtain ⟨hx, hb, hml, hown, hts, hN, hK, hr, hlk, hfr, hlc⟩ := cx
  unfold b_au_declarer_66 at h
  refine lv_iinc (k := 2) (v := (v2 + 1)) hx hb d_au_declarer_66 hl rfl (zi_1 _) (by decide) rfl ?_
  intro ls hl
  have hl : lv_has ls 3 [(2, .int (v2 + 1)), (0, .ref (ad 2)), (1, .int v1)] := hl
  refine lv_goto hx hb d_au_declarer_69 rfl ?_
  exact hk15 _ _ _ _ _ _ hI (lv_sub hl [1, 2, 0] rfl) h
def b_au_declarer_15  (post : Int32 → ZS → Prop) : Nat → Int32 → Int32 → ZS → Prop
  | 0, _, _, _ => False
  | n + 1, v1, v2, u => (v1 ≤ v2 → w_au_callerOf v1 u (fun r1 u2 => post r1 u2)) ∧ (¬ (v1 ≤ v2) → w_au_isSameSide v2 v1 u (fun r3 u4 => (r3 = 0 → b_au_declarer_66 (b_au_declarer_15 post n) post v1 v2 u4) ∧ (¬ (r3 = 0) → vp_in v2 139 ∧ (((aI u4 3 (Int32.toNatClampNeg v2)) < 3 → b_au_declarer_66 (b_au_declarer_15 post n) post v1 v2 u4) ∧ (¬ ((aI u4 3 (Int32.toNatClampNeg v2)) < 3) → vp_in v2 139 ∧ (w_au_strain (aI u4 3 (Int32.toNatClampNeg v2)) u4 (fun r5 u6 => vp_in v1 139 ∧ (w_au_strain (aI u6 3 (Int32.toNatClampNeg v1)) u6 (fun r7 u8 => (¬ r5 = r7 → b_au_declarer_66 (b_au_declarer_15 post n) post v1 v2 u8) ∧ (r5 = r7 → w_au_callerOf v2 u8 (fun r9 u10 => post r9 u10)))))))))))
set_option maxRecDepth 100000 in
set_option maxHeartbeats 4000000 in
theorem k_au_declarer_15 {p : Program} {l : Launch} {e : Env} {R : Room} {s : State} {m : MethodId} {args : Array Value} {below : List Frame} {meth : Method} {c : Code} {D : va_G} {A : Nat → Prop} {ad : Nat → Nat} {ca : Nat → ClassId}  {post : Int32 → ZS → Prop} (cx : zx p R s m args meth c c_au_declarer 3 4 76 "ShortBridge$Auction" (some .int) zG zNs D (cT ca)) : ∀ (n : Nat) (v1 : Int32) (v2 : Int32) (u : ZS) (H : Heap) (locs : List Loc) (ls : Array Slot), zw D A s.heap (cW ad ca u) H locs → lv_has ls 3 [(0, .ref (ad 2)), (1, .int v1), (2, .int v2)] → b_au_declarer_15 post n v1 v2 u → W p l e R s m args below meth c H locs 0 0 (MQ below (va_Qi post (zE D (cT ca) (cW ad ca) A) A) args s 0 0 A) (F0 m 15 ls []) := by
  have cx0 := cx
  obtain ⟨hx, hb, hml, hown, hts, hN, hK, hr, hlk, hfr, hlc⟩ := cx
  intro n
  induction n with
  | zero => intro v1 v2 u H locs ls hI hl h; exact (h : False).elim
  | succ n ih =>
    intro v1 v2 u H locs ls hI hl h
    unfold b_au_declarer_15 at h
    refine lv_iload_n hx hb d_au_declarer_15 rfl (lv_at hl 2 rfl) ?_
    refine lv_iload_n hx hb d_au_declarer_16 rfl (lv_at hl 1 rfl) ?_
    refine lv_icmp_ge hx hb d_au_declarer_17 rfl (fun hc => ?_) (fun hc => ?_)
    · have h := h.1 hc
      refine lv_aload_n hx hb d_au_declarer_72 rfl (lv_at hl 0 rfl) ?_
      refine lv_iload_n hx hb d_au_declarer_73 rfl (lv_at hl 1 rfl) ?_
      refine zr_i (va_runV (As := [.int v1]) (rest := []) ⟨hx, hb, hml, hown, hts⟩ (t_au_callerOf l D ad ca h _) (cwV 1 hts (zg_V q_263 q_265 q_7 q_41 q_266) rfl rfl rfl ⟨rfl, hd_au_callerOf⟩ ⟨Nat.le_trans (by decide) hfr, Nat.le_trans (by decide) hlc⟩) (z_preV zNs_ok hK hN hI 2 2 rfl rfl _) rfl rfl hl.1 rfl (lv_room (Nat.le_of_ble_eq_true rfl)) d_au_declarer_74 ⟨Nat.zero_le _, Nat.zero_le _⟩) hI ?_
      intro r1 u2 H locs h hI
      exact zret_i hx hb hr hlk hK hI h d_au_declarer_77
    · have h := h.2 hc
      refine lv_aload_n hx hb d_au_declarer_20 rfl (lv_at hl 0 rfl) ?_
      refine lv_iload_n hx hb d_au_declarer_21 rfl (lv_at hl 2 rfl) ?_
      refine lv_iload_n hx hb d_au_declarer_22 rfl (lv_at hl 1 rfl) ?_
      refine zr_i (va_runV (As := [.int v2, .int v1]) (rest := []) ⟨hx, hb, hml, hown, hts⟩ (t_au_isSameSide l D ad ca h _) (cwV 2 hts (zg_V q_308 q_310 q_8 q_41 q_311) rfl rfl rfl ⟨rfl, hd_au_isSameSide⟩ ⟨Nat.le_trans (by decide) hfr, Nat.le_trans (by decide) hlc⟩) (z_preV zNs_ok hK hN hI 2 2 rfl rfl _) rfl rfl hl.1 rfl (lv_room (Nat.le_of_ble_eq_true rfl)) d_au_declarer_23 ⟨Nat.zero_le _, Nat.zero_le _⟩) hI ?_
      intro r3 u4 H locs h hI
      refine lv_if_eq hx hb d_au_declarer_26 rfl (fun hc => ?_) (fun hc => ?_)
      · have h := h.1 hc
        exact k_au_declarer_66 cx0 ih hI (lv_sub hl [0, 1, 2] rfl) h
      · have h := h.2 hc
        refine lv_aload_n hx hb d_au_declarer_29 rfl (lv_at hl 0 rfl) ?_
        refine cg_Auction_calls hx hb hts hown hK hI (hts _ q_92) d_au_declarer_30 ?_
        refine lv_iload_n hx hb d_au_declarer_33 rfl (lv_at hl 2 rfl) ?_
        obtain ⟨hi, h⟩ := h
        refine ca_calls hx hb hK hI hi d_au_declarer_34 ?_
        refine lv_iconst (v := 3) hx hb d_au_declarer_35 zc_iconst_3 ?_
        refine lv_icmp_lt hx hb d_au_declarer_36 rfl (fun hc => ?_) (fun hc => ?_)
        · have h := h.1 hc
          exact k_au_declarer_66 cx0 ih hI (lv_sub hl [0, 1, 2] rfl) h
        · have h := h.2 hc
          refine lv_aload_n hx hb d_au_declarer_39 rfl (lv_at hl 0 rfl) ?_
          refine cg_Auction_calls hx hb hts hown hK hI (hts _ q_92) d_au_declarer_40 ?_
          refine lv_iload_n hx hb d_au_declarer_43 rfl (lv_at hl 2 rfl) ?_
          obtain ⟨hi, h⟩ := h
          refine ca_calls hx hb hK hI hi d_au_declarer_44 ?_
          refine zr_i (va_runS (As := [.int (aI u4 3 (Int32.toNatClampNeg v2))]) (rest := []) ⟨hx, hb, hml, hown, hts⟩ (t_au_strain l D ad ca h _) (va_cwS 1 hts (zg_S q_315 q_316 q_41 q_317) rfl rfl rfl hd_au_strain ⟨Nat.le_trans (by decide) hfr, Nat.le_trans (by decide) hlc⟩) (z_preS zNs_ok hK hN hI _) rfl rfl hl.1 rfl (lv_room (Nat.le_of_ble_eq_true rfl)) d_au_declarer_45 ⟨Nat.zero_le _, Nat.zero_le _⟩) hI ?_
          intro r5 u6 H locs h hI
          refine lv_aload_n hx hb d_au_declarer_48 rfl (lv_at hl 0 rfl) ?_
          refine cg_Auction_calls hx hb hts hown hK hI (hts _ q_92) d_au_declarer_49 ?_
          refine lv_iload_n hx hb d_au_declarer_52 rfl (lv_at hl 1 rfl) ?_
          obtain ⟨hi, h⟩ := h
          refine ca_calls hx hb hK hI hi d_au_declarer_53 ?_
          refine zr_i (va_runS (As := [.int (aI u6 3 (Int32.toNatClampNeg v1))]) (rest := [.int r5]) ⟨hx, hb, hml, hown, hts⟩ (t_au_strain l D ad ca h _) (va_cwS 1 hts (zg_S q_315 q_316 q_41 q_317) rfl rfl rfl hd_au_strain ⟨Nat.le_trans (by decide) hfr, Nat.le_trans (by decide) hlc⟩) (z_preS zNs_ok hK hN hI _) rfl rfl hl.1 rfl (lv_room (Nat.le_of_ble_eq_true rfl)) d_au_declarer_54 ⟨Nat.zero_le _, Nat.zero_le _⟩) hI ?_
          intro r7 u8 H locs h hI
          refine lv_icmp_ne hx hb d_au_declarer_57 rfl (fun hc => ?_) (fun hc => ?_)
          · have h := h.1 hc
            exact k_au_declarer_66 cx0 ih hI (lv_sub hl [0, 1, 2] rfl) h
          · have h := h.2 hc
            refine lv_aload_n hx hb d_au_declarer_60 rfl (lv_at hl 0 rfl) ?_
            refine lv_iload_n hx hb d_au_declarer_61 rfl (lv_at hl 2 rfl) ?_
            refine zr_i (va_runV (As := [.int v2]) (rest := []) ⟨hx, hb, hml, hown, hts⟩ (t_au_callerOf l D ad ca h _) (cwV 1 hts (zg_V q_263 q_265 q_7 q_41 q_266) rfl rfl rfl ⟨rfl, hd_au_callerOf⟩ ⟨Nat.le_trans (by decide) hfr, Nat.le_trans (by decide) hlc⟩) (z_preV zNs_ok hK hN hI 2 2 rfl rfl _) rfl rfl hl.1 rfl (lv_room (Nat.le_of_ble_eq_true rfl)) d_au_declarer_62 ⟨Nat.zero_le _, Nat.zero_le _⟩) hI ?_
            intro r9 u10 H locs h hI
            exact zret_i hx hb hr hlk hK hI h d_au_declarer_65
def w_au_declarer  (u : ZS) (post : Int32 → ZS → Prop) : Prop := w_au_placeOfLatest 3 u (fun r11 u12 => (¬ r11 = (-1 : Int32) → ∃ n0, b_au_declarer_15 post n0 r11 0 u12) ∧ (r11 = (-1 : Int32) → post (-1 : Int32) u12))
set_option maxRecDepth 100000 in
set_option maxHeartbeats 4000000 in
theorem t_au_declarer (l : Launch) (D : va_G) (ad : Nat → Nat) (ca : Nat → ClassId)  {u : ZS} {post : Int32 → ZS → Prop} (h : w_au_declarer  u post) : zI l y_au_declarer (Cond.code y_au_declarer c_au_declarer 3 (some .int) :: zG) { frames := 4, cells := 0, slots := 0, locals := 76 } D (cT ca) zNs (cW ad ca) [.ref (ad 2)] u post := by
  refine zI_of (cc := c_au_declarer) (maxL := 3) (ret := (some .int)) (by decide) (Nat.le_of_ble_eq_true rfl) ?_
  intro p e s m args below meth c ls A cx hI hl
  have cx0 := cx
  obtain ⟨hx, hb, hml, hown, hts, hN, hK, hr, hlk, hfr, hlc⟩ := cx
  have hl : lv_has ls 3 [(0, .ref (ad 2))] := hl
  unfold w_au_declarer at h
  refine lv_aload_n hx hb d_au_declarer_0 rfl (lv_at hl 0 rfl) ?_
  refine lv_iconst (v := 3) hx hb d_au_declarer_1 zc_iconst_3 ?_
  refine zr_i (va_runV (As := [.int 3]) (rest := []) ⟨hx, hb, hml, hown, hts⟩ (t_au_placeOfLatest l D ad ca h _) (cwV 1 hts (zg_V q_242 q_244 q_6 q_41 q_245) rfl rfl rfl ⟨rfl, hd_au_placeOfLatest⟩ ⟨Nat.le_trans (by decide) hfr, Nat.le_trans (by decide) hlc⟩) (z_preV zNs_ok hK hN hI 2 2 rfl rfl _) rfl rfl hl.1 rfl (lv_room (Nat.le_of_ble_eq_true rfl)) d_au_declarer_2 ⟨Nat.zero_le _, Nat.zero_le _⟩) hI ?_
  intro r11 u12 H locs h hI
  refine lv_istore_n hx hb d_au_declarer_5 rfl hl (by decide) rfl ?_
  intro ls hl
  have hl : lv_has ls 3 [(1, .int r11), (0, .ref (ad 2))] := hl
  refine lv_iload_n hx hb d_au_declarer_6 rfl (lv_at hl 0 rfl) ?_
  refine lv_iconst (v := (-1)) hx hb d_au_declarer_7 zc_iconst_m1 ?_
  refine lv_icmp_ne hx hb d_au_declarer_8 rfl (fun hc => ?_) (fun hc => ?_)
  · have h := h.1 hc
    refine lv_iconst (v := 0) hx hb d_au_declarer_13 zc_iconst_0 ?_
    refine lv_istore_n hx hb d_au_declarer_14 rfl hl (by decide) rfl ?_
    intro ls hl
    have hl : lv_has ls 3 [(2, .int 0), (1, .int r11), (0, .ref (ad 2))] := hl
    obtain ⟨n0, h⟩ := h
    exact k_au_declarer_15 cx0  n0 _ _ _ _ _ _ hI (lv_sub hl [2, 1, 0] rfl) h
  · have h := h.2 hc
    refine lv_iconst (v := (-1)) hx hb d_au_declarer_11 zc_iconst_m1 ?_
    exact zret_i hx hb hr hlk hK hI h d_au_declarer_12
def w_au_level (v0 : Int32) (u : ZS) (post : Int32 → ZS → Prop) : Prop := post (1 + ((v0 - 3) / 5)) u
set_option maxRecDepth 100000 in
set_option maxHeartbeats 4000000 in
theorem t_au_level (l : Launch) (D : va_G) (ad : Nat → Nat) (ca : Nat → ClassId) {v0 : Int32} {u : ZS} {post : Int32 → ZS → Prop} (h : w_au_level v0 u post) : zI l y_au_level (Cond.code y_au_level c_au_level 1 (some .int) :: zG) { frames := 1, cells := 0, slots := 0, locals := 12 } D (cT ca) zNs (cW ad ca) [.int v0] u post := by
  refine zI_of (cc := c_au_level) (maxL := 1) (ret := (some .int)) (by decide) (Nat.le_of_ble_eq_true rfl) ?_
  intro p e s m args below meth c ls A cx hI hl
  have cx0 := cx
  obtain ⟨hx, hb, hml, hown, hts, hN, hK, hr, hlk, hfr, hlc⟩ := cx
  have hl : lv_has ls 1 [(0, .int v0)] := hl
  unfold w_au_level at h
  refine lv_iconst (v := 1) hx hb d_au_level_0 zc_iconst_1 ?_
  refine lv_iload_n hx hb d_au_level_1 rfl (lv_at hl 0 rfl) ?_
  refine lv_iconst (v := 3) hx hb d_au_level_2 zc_iconst_3 ?_
  refine lv_isub hx hb d_au_level_3 ?_
  refine lv_iconst (v := 5) hx hb d_au_level_4 zc_iconst_5 ?_
  refine lv_idiv hx hb d_au_level_5 (by decide) ?_
  refine lv_iadd hx hb d_au_level_6 ?_
  exact zret_i hx hb hr hlk hK hI h d_au_level_7
def b_au_isCall_15  (post : Int32 → ZS → Prop) (s0 : Int32) (u : ZS) : Prop := (s0 = 0 ∨ s0 = 1) ∧ post s0 u
set_option maxRecDepth 100000 in
set_option maxHeartbeats 4000000 in
theorem k_au_isCall_15 {p : Program} {l : Launch} {e : Env} {R : Room} {s : State} {m : MethodId} {args : Array Value} {below : List Frame} {meth : Method} {c : Code} {D : va_G} {A : Nat → Prop} {ad : Nat → Nat} {ca : Nat → ClassId}  {post : Int32 → ZS → Prop} (cx : zx p R s m args meth c c_au_isCall 1 1 12 "ShortBridge$Auction" (some .boolean) zG zNs D (cT ca)) {s0 : Int32} {u : ZS} {H : Heap} {locs : List Loc} {ls : Array Slot} (hI : zw D A s.heap (cW ad ca u) H locs) (hl : lv_has ls 1 []) (h : b_au_isCall_15 post s0 u) : W p l e R s m args below meth c H locs 0 0 (MQ below (va_Qi post (zE D (cT ca) (cW ad ca) A) A) args s 0 0 A) (F0 m 15 ls [.int s0]) := by
  have cx0 := cx
  obtain ⟨hx, hb, hml, hown, hts, hN, hK, hr, hlk, hfr, hlc⟩ := cx
  unfold b_au_isCall_15 at h
  exact zret_z hx hb hr hlk hK hI h.1 h.2 d_au_isCall_15
def b_au_isCall_14  (post : Int32 → ZS → Prop)  (u : ZS) : Prop := b_au_isCall_15 post 0 u
set_option maxRecDepth 100000 in
set_option maxHeartbeats 4000000 in
theorem k_au_isCall_14 {p : Program} {l : Launch} {e : Env} {R : Room} {s : State} {m : MethodId} {args : Array Value} {below : List Frame} {meth : Method} {c : Code} {D : va_G} {A : Nat → Prop} {ad : Nat → Nat} {ca : Nat → ClassId}  {post : Int32 → ZS → Prop} (cx : zx p R s m args meth c c_au_isCall 1 1 12 "ShortBridge$Auction" (some .boolean) zG zNs D (cT ca)) {u : ZS} {H : Heap} {locs : List Loc} {ls : Array Slot} (hI : zw D A s.heap (cW ad ca u) H locs) (hl : lv_has ls 1 []) (h : b_au_isCall_14 post  u) : W p l e R s m args below meth c H locs 0 0 (MQ below (va_Qi post (zE D (cT ca) (cW ad ca) A) A) args s 0 0 A) (F0 m 14 ls []) := by
  have cx0 := cx
  obtain ⟨hx, hb, hml, hown, hts, hN, hK, hr, hlk, hfr, hlc⟩ := cx
  unfold b_au_isCall_14 at h
  refine lv_iconst (v := 0) hx hb d_au_isCall_14 zc_iconst_0 ?_
  exact k_au_isCall_15 cx0  hI (lv_sub hl [] rfl) h
def w_au_isCall (v0 : Int32) (u : ZS) (post : Int32 → ZS → Prop) : Prop := (v0 < 0 → b_au_isCall_14 post u) ∧ (¬ (v0 < 0) → (17 < v0 → b_au_isCall_14 post u) ∧ (¬ (17 < v0) → b_au_isCall_15 post 1 u))
set_option maxRecDepth 100000 in
set_option maxHeartbeats 4000000 in
theorem t_au_isCall (l : Launch) (D : va_G) (ad : Nat → Nat) (ca : Nat → ClassId) {v0 : Int32} {u : ZS} {post : Int32 → ZS → Prop} (h : w_au_isCall v0 u post) : zI l y_au_isCall (Cond.code y_au_isCall c_au_isCall 1 (some .boolean) :: zG) { frames := 1, cells := 0, slots := 0, locals := 12 } D (cT ca) zNs (cW ad ca) [.int v0] u post := by
  refine zI_of (cc := c_au_isCall) (maxL := 1) (ret := (some .boolean)) (by decide) (Nat.le_of_ble_eq_true rfl) ?_
  intro p e s m args below meth c ls A cx hI hl
  have cx0 := cx
  obtain ⟨hx, hb, hml, hown, hts, hN, hK, hr, hlk, hfr, hlc⟩ := cx
  have hl : lv_has ls 1 [(0, .int v0)] := hl
  unfold w_au_isCall at h
  refine lv_iload_n hx hb d_au_isCall_0 rfl (lv_at hl 0 rfl) ?_
  refine lv_if_lt hx hb d_au_isCall_1 rfl (fun hc => ?_) (fun hc => ?_)
  · have h := h.1 hc
    exact k_au_isCall_14 cx0  hI (lv_sub hl [] rfl) h
  · have h := h.2 hc
    refine lv_iload_n hx hb d_au_isCall_4 rfl (lv_at hl 0 rfl) ?_
    refine lv_bipush (v := 17) hx hb d_au_isCall_5 zc_bipush_17 ?_
    refine lv_icmp_gt hx hb d_au_isCall_7 rfl (fun hc => ?_) (fun hc => ?_)
    · have h := h.1 hc
      exact k_au_isCall_14 cx0  hI (lv_sub hl [] rfl) h
    · have h := h.2 hc
      refine lv_iconst (v := 1) hx hb d_au_isCall_10 zc_iconst_1 ?_
      refine lv_goto hx hb d_au_isCall_11 rfl ?_
      exact k_au_isCall_15 cx0  hI (lv_sub hl [] rfl) h
def b_au_latestOfOthers_33  (post : Int32 → ZS → Prop) (s0 : Int32) (u : ZS) : Prop := post s0 u
set_option maxRecDepth 100000 in
set_option maxHeartbeats 4000000 in
theorem k_au_latestOfOthers_33 {p : Program} {l : Launch} {e : Env} {R : Room} {s : State} {m : MethodId} {args : Array Value} {below : List Frame} {meth : Method} {c : Code} {D : va_G} {A : Nat → Prop} {ad : Nat → Nat} {ca : Nat → ClassId}  {post : Int32 → ZS → Prop} (cx : zx p R s m args meth c c_au_latestOfOthers 2 4 76 "ShortBridge$Auction" (some .int) zG zNs D (cT ca)) {s0 : Int32} {u : ZS} {H : Heap} {locs : List Loc} {ls : Array Slot} (hI : zw D A s.heap (cW ad ca u) H locs) (hl : lv_has ls 2 []) (h : b_au_latestOfOthers_33 post s0 u) : W p l e R s m args below meth c H locs 0 0 (MQ below (va_Qi post (zE D (cT ca) (cW ad ca) A) A) args s 0 0 A) (F0 m 33 ls [.int s0]) := by
  have cx0 := cx
  obtain ⟨hx, hb, hml, hown, hts, hN, hK, hr, hlk, hfr, hlc⟩ := cx
  unfold b_au_latestOfOthers_33 at h
  exact zret_i hx hb hr hlk hK hI h d_au_latestOfOthers_33
def b_au_latestOfOthers_23  (post : Int32 → ZS → Prop)  (u : ZS) : Prop := b_au_latestOfOthers_33 post (-1 : Int32) u
set_option maxRecDepth 100000 in
set_option maxHeartbeats 4000000 in
theorem k_au_latestOfOthers_23 {p : Program} {l : Launch} {e : Env} {R : Room} {s : State} {m : MethodId} {args : Array Value} {below : List Frame} {meth : Method} {c : Code} {D : va_G} {A : Nat → Prop} {ad : Nat → Nat} {ca : Nat → ClassId}  {post : Int32 → ZS → Prop} (cx : zx p R s m args meth c c_au_latestOfOthers 2 4 76 "ShortBridge$Auction" (some .int) zG zNs D (cT ca)) {u : ZS} {H : Heap} {locs : List Loc} {ls : Array Slot} (hI : zw D A s.heap (cW ad ca u) H locs) (hl : lv_has ls 2 []) (h : b_au_latestOfOthers_23 post  u) : W p l e R s m args below meth c H locs 0 0 (MQ below (va_Qi post (zE D (cT ca) (cW ad ca) A) A) args s 0 0 A) (F0 m 23 ls []) := by
  have cx0 := cx
  obtain ⟨hx, hb, hml, hown, hts, hN, hK, hr, hlk, hfr, hlc⟩ := cx
  unfold b_au_latestOfOthers_23 at h
  refine lv_iconst (v := (-1)) hx hb d_au_latestOfOthers_23 zc_iconst_m1 ?_
  refine lv_goto hx hb d_au_latestOfOthers_24 rfl ?_
  exact k_au_latestOfOthers_33 cx0  hI (lv_sub hl [] rfl) h
def w_au_latestOfOthers  (u : ZS) (post : Int32 → ZS → Prop) : Prop := w_au_placeOfLatest 1 u (fun r1 u2 => (r1 = (-1 : Int32) → b_au_latestOfOthers_23 post u2) ∧ (¬ (r1 = (-1 : Int32)) → w_au_isSameSide r1 (fI u2 2) u2 (fun r3 u4 => (r3 = 0 → vp_in r1 139 ∧ (b_au_latestOfOthers_33 post (aI u4 3 (Int32.toNatClampNeg r1)) u4)) ∧ (¬ (r3 = 0) → b_au_latestOfOthers_23 post u4))))
set_option maxRecDepth 100000 in
set_option maxHeartbeats 4000000 in
theorem t_au_latestOfOthers (l : Launch) (D : va_G) (ad : Nat → Nat) (ca : Nat → ClassId)  {u : ZS} {post : Int32 → ZS → Prop} (h : w_au_latestOfOthers  u post) : zI l y_au_latestOfOthers (Cond.code y_au_latestOfOthers c_au_latestOfOthers 2 (some .int) :: zG) { frames := 4, cells := 0, slots := 0, locals := 76 } D (cT ca) zNs (cW ad ca) [.ref (ad 2)] u post := by
  refine zI_of (cc := c_au_latestOfOthers) (maxL := 2) (ret := (some .int)) (by decide) (Nat.le_of_ble_eq_true rfl) ?_
  intro p e s m args below meth c ls A cx hI hl
  have cx0 := cx
  obtain ⟨hx, hb, hml, hown, hts, hN, hK, hr, hlk, hfr, hlc⟩ := cx
  have hl : lv_has ls 2 [(0, .ref (ad 2))] := hl
  unfold w_au_latestOfOthers at h
  refine lv_aload_n hx hb d_au_latestOfOthers_0 rfl (lv_at hl 0 rfl) ?_
  refine lv_iconst (v := 1) hx hb d_au_latestOfOthers_1 zc_iconst_1 ?_
  refine zr_i (va_runV (As := [.int 1]) (rest := []) ⟨hx, hb, hml, hown, hts⟩ (t_au_placeOfLatest l D ad ca h _) (cwV 1 hts (zg_V q_242 q_244 q_6 q_41 q_245) rfl rfl rfl ⟨rfl, hd_au_placeOfLatest⟩ ⟨Nat.le_trans (by decide) hfr, Nat.le_trans (by decide) hlc⟩) (z_preV zNs_ok hK hN hI 2 2 rfl rfl _) rfl rfl hl.1 rfl (lv_room (Nat.le_of_ble_eq_true rfl)) d_au_latestOfOthers_2 ⟨Nat.zero_le _, Nat.zero_le _⟩) hI ?_
  intro r1 u2 H locs h hI
  refine lv_istore_n hx hb d_au_latestOfOthers_5 rfl hl (by decide) rfl ?_
  intro ls hl
  have hl : lv_has ls 2 [(1, .int r1), (0, .ref (ad 2))] := hl
  refine lv_iload_n hx hb d_au_latestOfOthers_6 rfl (lv_at hl 0 rfl) ?_
  refine lv_iconst (v := (-1)) hx hb d_au_latestOfOthers_7 zc_iconst_m1 ?_
  refine lv_icmp_eq hx hb d_au_latestOfOthers_8 rfl (fun hc => ?_) (fun hc => ?_)
  · have h := h.1 hc
    exact k_au_latestOfOthers_23 cx0  hI (lv_sub hl [] rfl) h
  · have h := h.2 hc
    refine lv_aload_n hx hb d_au_latestOfOthers_11 rfl (lv_at hl 1 rfl) ?_
    refine lv_iload_n hx hb d_au_latestOfOthers_12 rfl (lv_at hl 0 rfl) ?_
    refine lv_aload_n hx hb d_au_latestOfOthers_13 rfl (lv_at hl 1 rfl) ?_
    refine cg_Auction_count hx hb hts hown hK hI (hts _ q_93) d_au_latestOfOthers_14 ?_
    refine zr_i (va_runV (As := [.int r1, .int (fI u2 2)]) (rest := []) ⟨hx, hb, hml, hown, hts⟩ (t_au_isSameSide l D ad ca h _) (cwV 2 hts (zg_V q_308 q_310 q_8 q_41 q_311) rfl rfl rfl ⟨rfl, hd_au_isSameSide⟩ ⟨Nat.le_trans (by decide) hfr, Nat.le_trans (by decide) hlc⟩) (z_preV zNs_ok hK hN hI 2 2 rfl rfl _) rfl rfl hl.1 rfl (lv_room (Nat.le_of_ble_eq_true rfl)) d_au_latestOfOthers_17 ⟨Nat.zero_le _, Nat.zero_le _⟩) hI ?_
    intro r3 u4 H locs h hI
    refine lv_if_eq hx hb d_au_latestOfOthers_20 rfl (fun hc => ?_) (fun hc => ?_)
    · have h := h.1 hc
      refine lv_aload_n hx hb d_au_latestOfOthers_27 rfl (lv_at hl 1 rfl) ?_
      refine cg_Auction_calls hx hb hts hown hK hI (hts _ q_92) d_au_latestOfOthers_28 ?_
      refine lv_iload_n hx hb d_au_latestOfOthers_31 rfl (lv_at hl 0 rfl) ?_
      obtain ⟨hi, h⟩ := h
      refine ca_calls hx hb hK hI hi d_au_latestOfOthers_32 ?_
      exact k_au_latestOfOthers_33 cx0  hI (lv_sub hl [] rfl) h
    · have h := h.2 hc
      exact k_au_latestOfOthers_23 cx0  hI (lv_sub hl [] rfl) h
def b_au_allows_71  (post : Int32 → ZS → Prop) (s0 : Int32) (u : ZS) : Prop := (s0 = 0 ∨ s0 = 1) ∧ post s0 u
set_option maxRecDepth 100000 in
set_option maxHeartbeats 4000000 in
theorem k_au_allows_71 {p : Program} {l : Launch} {e : Env} {R : Room} {s : State} {m : MethodId} {args : Array Value} {below : List Frame} {meth : Method} {c : Code} {D : va_G} {A : Nat → Prop} {ad : Nat → Nat} {ca : Nat → ClassId}  {post : Int32 → ZS → Prop} (cx : zx p R s m args meth c c_au_allows 2 5 97 "ShortBridge$Auction" (some .boolean) zG zNs D (cT ca)) {s0 : Int32} {u : ZS} {H : Heap} {locs : List Loc} {ls : Array Slot} (hI : zw D A s.heap (cW ad ca u) H locs) (hl : lv_has ls 2 []) (h : b_au_allows_71 post s0 u) : W p l e R s m args below meth c H locs 0 0 (MQ below (va_Qi post (zE D (cT ca) (cW ad ca) A) A) args s 0 0 A) (F0 m 71 ls [.int s0]) := by
  have cx0 := cx
  obtain ⟨hx, hb, hml, hown, hts, hN, hK, hr, hlk, hfr, hlc⟩ := cx
  unfold b_au_allows_71 at h
  exact zret_z hx hb hr hlk hK hI h.1 h.2 d_au_allows_71
def b_au_allows_43  (post : Int32 → ZS → Prop) (s0 : Int32) (u : ZS) : Prop := (s0 = 0 ∨ s0 = 1) ∧ post s0 u
set_option maxRecDepth 100000 in
set_option maxHeartbeats 4000000 in
theorem k_au_allows_43 {p : Program} {l : Launch} {e : Env} {R : Room} {s : State} {m : MethodId} {args : Array Value} {below : List Frame} {meth : Method} {c : Code} {D : va_G} {A : Nat → Prop} {ad : Nat → Nat} {ca : Nat → ClassId}  {post : Int32 → ZS → Prop} (cx : zx p R s m args meth c c_au_allows 2 5 97 "ShortBridge$Auction" (some .boolean) zG zNs D (cT ca)) {s0 : Int32} {u : ZS} {H : Heap} {locs : List Loc} {ls : Array Slot} (hI : zw D A s.heap (cW ad ca u) H locs) (hl : lv_has ls 2 []) (h : b_au_allows_43 post s0 u) : W p l e R s m args below meth c H locs 0 0 (MQ below (va_Qi post (zE D (cT ca) (cW ad ca) A) A) args s 0 0 A) (F0 m 43 ls [.int s0]) := by
  have cx0 := cx
  obtain ⟨hx, hb, hml, hown, hts, hN, hK, hr, hlk, hfr, hlc⟩ := cx
  unfold b_au_allows_43 at h
  exact zret_z hx hb hr hlk hK hI h.1 h.2 d_au_allows_43
def b_au_allows_57  (post : Int32 → ZS → Prop) (s0 : Int32) (u : ZS) : Prop := (s0 = 0 ∨ s0 = 1) ∧ post s0 u
set_option maxRecDepth 100000 in
set_option maxHeartbeats 4000000 in
theorem k_au_allows_57 {p : Program} {l : Launch} {e : Env} {R : Room} {s : State} {m : MethodId} {args : Array Value} {below : List Frame} {meth : Method} {c : Code} {D : va_G} {A : Nat → Prop} {ad : Nat → Nat} {ca : Nat → ClassId}  {post : Int32 → ZS → Prop} (cx : zx p R s m args meth c c_au_allows 2 5 97 "ShortBridge$Auction" (some .boolean) zG zNs D (cT ca)) {s0 : Int32} {u : ZS} {H : Heap} {locs : List Loc} {ls : Array Slot} (hI : zw D A s.heap (cW ad ca u) H locs) (hl : lv_has ls 2 []) (h : b_au_allows_57 post s0 u) : W p l e R s m args below meth c H locs 0 0 (MQ below (va_Qi post (zE D (cT ca) (cW ad ca) A) A) args s 0 0 A) (F0 m 57 ls [.int s0]) := by
  have cx0 := cx
  obtain ⟨hx, hb, hml, hown, hts, hN, hK, hr, hlk, hfr, hlc⟩ := cx
  unfold b_au_allows_57 at h
  exact zret_z hx hb hr hlk hK hI h.1 h.2 d_au_allows_57
def w_au_allows (v1 : Int32) (u : ZS) (post : Int32 → ZS → Prop) : Prop := (v1 = 0 → post 1 u) ∧ (v1 = 1 → w_au_latestOfOthers  u (fun r1 u2 => (r1 < 3 → b_au_allows_43 post 0 u2) ∧ (¬ (r1 < 3) → b_au_allows_43 post 1 u2))) ∧ (v1 = 2 → w_au_latestOfOthers  u (fun r3 u4 => (¬ r3 = 1 → b_au_allows_57 post 0 u4) ∧ (r3 = 1 → b_au_allows_57 post 1 u4))) ∧ (¬ v1 = 0 ∧ ¬ v1 = 1 ∧ ¬ v1 = 2 → w_au_bid  u (fun r5 u6 => (v1 ≤ r5 → b_au_allows_71 post 0 u6) ∧ (¬ (v1 ≤ r5) → b_au_allows_71 post 1 u6)))
set_option maxRecDepth 100000 in
set_option maxHeartbeats 4000000 in
theorem t_au_allows (l : Launch) (D : va_G) (ad : Nat → Nat) (ca : Nat → ClassId) {v1 : Int32} {u : ZS} {post : Int32 → ZS → Prop} (h : w_au_allows v1 u post) : zI l y_au_allows (Cond.code y_au_allows c_au_allows 2 (some .boolean) :: zG) { frames := 5, cells := 0, slots := 0, locals := 97 } D (cT ca) zNs (cW ad ca) [.ref (ad 2), .int v1] u post := by
  refine zI_of (cc := c_au_allows) (maxL := 2) (ret := (some .boolean)) (by decide) (Nat.le_of_ble_eq_true rfl) ?_
  intro p e s m args below meth c ls A cx hI hl
  have cx0 := cx
  obtain ⟨hx, hb, hml, hown, hts, hN, hK, hr, hlk, hfr, hlc⟩ := cx
  have hl : lv_has ls 2 [(0, .ref (ad 2)), (1, .int v1)] := hl
  unfold w_au_allows at h
  refine lv_iload_n hx hb d_au_allows_0 rfl (lv_at hl 1 rfl) ?_
  by_cases hc0 : v1 = 0
  · have h := h.1 hc0
    refine lv_tableIn hx hb d_au_allows_1 (by rw [hc0]; decide) (by rw [hc0]; decide) (by rw [hc0]; rfl) rfl ?_
    refine lv_iconst (v := 1) hx hb d_au_allows_28 zc_iconst_1 ?_
    exact zret_z hx hb hr hlk hK hI (Or.inr rfl) h d_au_allows_29
  · skip
    by_cases hc1 : v1 = 1
    · have h := h.2.1 hc1
      refine lv_tableIn hx hb d_au_allows_1 (by rw [hc1]; decide) (by rw [hc1]; decide) (by rw [hc1]; rfl) rfl ?_
      refine lv_aload_n hx hb d_au_allows_30 rfl (lv_at hl 0 rfl) ?_
      refine zr_i (va_runV (As := []) (rest := []) ⟨hx, hb, hml, hown, hts⟩ (t_au_latestOfOthers l D ad ca h _) (cwV 0 hts (zg_V q_438 q_440 q_10 q_41 q_441) rfl rfl rfl ⟨rfl, hd_au_latestOfOthers⟩ ⟨Nat.le_trans (by decide) hfr, Nat.le_trans (by decide) hlc⟩) (z_preV zNs_ok hK hN hI 2 2 rfl rfl _) rfl rfl hl.1 rfl (lv_room (Nat.le_of_ble_eq_true rfl)) d_au_allows_31 ⟨Nat.zero_le _, Nat.zero_le _⟩) hI ?_
      intro r1 u2 H locs h hI
      refine lv_iconst (v := 3) hx hb d_au_allows_34 zc_iconst_3 ?_
      refine lv_icmp_lt hx hb d_au_allows_35 rfl (fun hc => ?_) (fun hc => ?_)
      · have h := h.1 hc
        refine lv_iconst (v := 0) hx hb d_au_allows_42 zc_iconst_0 ?_
        exact k_au_allows_43 cx0  hI (lv_sub hl [] rfl) h
      · have h := h.2 hc
        refine lv_iconst (v := 1) hx hb d_au_allows_38 zc_iconst_1 ?_
        refine lv_goto hx hb d_au_allows_39 rfl ?_
        exact k_au_allows_43 cx0  hI (lv_sub hl [] rfl) h
    · skip
      by_cases hc2 : v1 = 2
      · have h := h.2.2.1 hc2
        refine lv_tableIn hx hb d_au_allows_1 (by rw [hc2]; decide) (by rw [hc2]; decide) (by rw [hc2]; rfl) rfl ?_
        refine lv_aload_n hx hb d_au_allows_44 rfl (lv_at hl 0 rfl) ?_
        refine zr_i (va_runV (As := []) (rest := []) ⟨hx, hb, hml, hown, hts⟩ (t_au_latestOfOthers l D ad ca h _) (cwV 0 hts (zg_V q_438 q_440 q_10 q_41 q_441) rfl rfl rfl ⟨rfl, hd_au_latestOfOthers⟩ ⟨Nat.le_trans (by decide) hfr, Nat.le_trans (by decide) hlc⟩) (z_preV zNs_ok hK hN hI 2 2 rfl rfl _) rfl rfl hl.1 rfl (lv_room (Nat.le_of_ble_eq_true rfl)) d_au_allows_45 ⟨Nat.zero_le _, Nat.zero_le _⟩) hI ?_
        intro r3 u4 H locs h hI
        refine lv_iconst (v := 1) hx hb d_au_allows_48 zc_iconst_1 ?_
        refine lv_icmp_ne hx hb d_au_allows_49 rfl (fun hc => ?_) (fun hc => ?_)
        · have h := h.1 hc
          refine lv_iconst (v := 0) hx hb d_au_allows_56 zc_iconst_0 ?_
          exact k_au_allows_57 cx0  hI (lv_sub hl [] rfl) h
        · have h := h.2 hc
          refine lv_iconst (v := 1) hx hb d_au_allows_52 zc_iconst_1 ?_
          refine lv_goto hx hb d_au_allows_53 rfl ?_
          exact k_au_allows_57 cx0  hI (lv_sub hl [] rfl) h
      · skip
        have h := h.2.2.2 ⟨hc0, hc1, hc2⟩
        have e0 := lv_neT (a := 0) hc0 (by decide)
        have e1 := lv_neT (a := 1) hc1 (by decide)
        have e2 := lv_neT (a := 2) hc2 (by decide)
        refine lv_tableOut hx hb d_au_allows_1 (by omega) rfl ?_
        refine lv_iload_n hx hb d_au_allows_58 rfl (lv_at hl 1 rfl) ?_
        refine lv_aload_n hx hb d_au_allows_59 rfl (lv_at hl 0 rfl) ?_
        refine zr_i (va_runV (As := []) (rest := [.int v1]) ⟨hx, hb, hml, hown, hts⟩ (t_au_bid l D ad ca h _) (cwV 0 hts (zg_V q_442 q_247 q_248 q_41 q_249) rfl rfl rfl ⟨rfl, hd_au_bid⟩ ⟨Nat.le_trans (by decide) hfr, Nat.le_trans (by decide) hlc⟩) (z_preV zNs_ok hK hN hI 2 2 rfl rfl _) rfl rfl hl.1 rfl (lv_room (Nat.le_of_ble_eq_true rfl)) d_au_allows_60 ⟨Nat.zero_le _, Nat.zero_le _⟩) hI ?_
        intro r5 u6 H locs h hI
        refine lv_icmp_le hx hb d_au_allows_63 rfl (fun hc => ?_) (fun hc => ?_)
        · have h := h.1 hc
          refine lv_iconst (v := 0) hx hb d_au_allows_70 zc_iconst_0 ?_
          exact k_au_allows_71 cx0  hI (lv_sub hl [] rfl) h
        · have h := h.2 hc
          refine lv_iconst (v := 1) hx hb d_au_allows_66 zc_iconst_1 ?_
          refine lv_goto hx hb d_au_allows_67 rfl ?_
          exact k_au_allows_71 cx0  hI (lv_sub hl [] rfl) h
def b_au_add_30  (post : ZS → Prop)  (u : ZS) : Prop := post u
set_option maxRecDepth 100000 in
set_option maxHeartbeats 4000000 in
theorem k_au_add_30 {p : Program} {l : Launch} {e : Env} {R : Room} {s : State} {m : MethodId} {args : Array Value} {below : List Frame} {meth : Method} {c : Code} {D : va_G} {A : Nat → Prop} {ad : Nat → Nat} {ca : Nat → ClassId}  {post : ZS → Prop} (cx : zx p R s m args meth c c_au_add 2 1 12 "ShortBridge$Auction" none zG zNs D (cT ca)) {u : ZS} {H : Heap} {locs : List Loc} {ls : Array Slot} (hI : zw D A s.heap (cW ad ca u) H locs) (hl : lv_has ls 2 []) (h : b_au_add_30 post  u) : W p l e R s m args below meth c H locs 0 0 (MQ below (va_Qv post (zE D (cT ca) (cW ad ca) A) A) args s 0 0 A) (F0 m 30 ls []) := by
  have cx0 := cx
  obtain ⟨hx, hb, hml, hown, hts, hN, hK, hr, hlk, hfr, hlc⟩ := cx
  unfold b_au_add_30 at h
  exact zret_v hx hb hr hlk hK hI h d_au_add_30
def w_au_add (v1 : Int32) (u : ZS) (post : ZS → Prop) : Prop := (139 ≤ (fI u 2) → b_au_add_30 post u) ∧ (¬ (139 ≤ (fI u 2)) → vp_in (fI u 2) 139 ∧ (b_au_add_30 post (sI (pI u 3 (Int32.toNatClampNeg (fI u 2)) v1) 2 ((fI (pI u 3 (Int32.toNatClampNeg (fI u 2)) v1) 2) + 1))))
set_option maxRecDepth 100000 in
set_option maxHeartbeats 4000000 in
theorem t_au_add (l : Launch) (D : va_G) (ad : Nat → Nat) (ca : Nat → ClassId) {v1 : Int32} {u : ZS} {post : ZS → Prop} (h : w_au_add v1 u post) : zV l y_au_add (Cond.code y_au_add c_au_add 2 none :: zG) { frames := 1, cells := 0, slots := 0, locals := 12 } D (cT ca) zNs (cW ad ca) [.ref (ad 2), .int v1] u post := by
  refine zV_of (cc := c_au_add) (maxL := 2) (by decide) (Nat.le_of_ble_eq_true rfl) ?_
  intro p e s m args below meth c ls A cx hI hl
  have cx0 := cx
  obtain ⟨hx, hb, hml, hown, hts, hN, hK, hr, hlk, hfr, hlc⟩ := cx
  have hl : lv_has ls 2 [(0, .ref (ad 2)), (1, .int v1)] := hl
  unfold w_au_add at h
  refine lv_aload_n hx hb d_au_add_0 rfl (lv_at hl 0 rfl) ?_
  refine cg_Auction_count hx hb hts hown hK hI (hts _ q_93) d_au_add_1 ?_
  refine lv_sipush (v := 139) hx hb d_au_add_4 zc_sipush_139 ?_
  refine lv_icmp_ge hx hb d_au_add_7 rfl (fun hc => ?_) (fun hc => ?_)
  · have h := h.1 hc
    exact k_au_add_30 cx0  hI (lv_sub hl [] rfl) h
  · have h := h.2 hc
    refine lv_aload_n hx hb d_au_add_10 rfl (lv_at hl 0 rfl) ?_
    refine cg_Auction_calls hx hb hts hown hK hI (hts _ q_92) d_au_add_11 ?_
    refine lv_aload_n hx hb d_au_add_14 rfl (lv_at hl 0 rfl) ?_
    refine cg_Auction_count hx hb hts hown hK hI (hts _ q_93) d_au_add_15 ?_
    refine lv_iload_n hx hb d_au_add_18 rfl (lv_at hl 1 rfl) ?_
    obtain ⟨hi, h⟩ := h
    refine cs_calls hx hb hK hI hi d_au_add_19 ?_
    intro H locs hI
    refine lv_aload_n hx hb d_au_add_20 rfl (lv_at hl 0 rfl) ?_
    refine lv_dup hx hb d_au_add_21 rfl ?_
    refine cg_Auction_count hx hb hts hown hK hI (hts _ q_93) d_au_add_22 ?_
    refine lv_iconst (v := 1) hx hb d_au_add_25 zc_iconst_1 ?_
    refine lv_iadd hx hb d_au_add_26 ?_
    refine cp_Auction_count hx hb hts hown hK hI (hts _ q_93) d_au_add_27 ?_
    intro H locs hI
    exact k_au_add_30 cx0  hI (lv_sub hl [] rfl) h
