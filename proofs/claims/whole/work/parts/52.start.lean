/-! the law's start -/
theorem st_K {s : State} {args : Array Value} (hts : ∀ w ∈ zG, w.before args s = true) : ∃ D : va_G, va_K D vwCl [] s := by
  obtain ⟨k0, j0, h0⟩ := u_known hts in_X (hts _ q_57)
  obtain ⟨k1, j1, h1⟩ := u_known hts in_Deal (hts _ q_65)
  obtain ⟨k2, j2, h2⟩ := u_known hts in_Auction (hts _ q_87)
  obtain ⟨k3, j3, h3⟩ := u_known hts in_Hands (hts _ q_104)
  obtain ⟨k4, j4, h4⟩ := u_known hts in_Results (hts _ q_132)
  obtain ⟨k5, j5, h5⟩ := u_known hts in_M (hts _ q_649)
  refine ⟨(fun k => match k with | 0 => k0 | 1 => k1 | 2 => k2 | 3 => k3 | 4 => k4 | _ => k5, fun k => match k with | 0 => j0 | 1 => j1 | 2 => j2 | 3 => j3 | 4 => j4 | _ => j5), fun c q hq => ?_, fun k q hk => by cases hk⟩
  match c, hq with
  | 0, hq => cases hq; exact h0
  | 1, hq => cases hq; exact h1
  | 2, hq => cases hq; exact h2
  | 3, hq => cases hq; exact h3
  | 4, hq => cases hq; exact h4
  | 5, hq => cases hq; exact h5
  | c + 6, hq => cases hq
theorem zNs_in : ∀ w ∈ zNs, w ∈ lw_tbl := fun w h => of_decide_eq_true (List.all_eq_true.mp (show zNs.all (fun w => decide (w ∈ lw_tbl)) = true by decide +kernel) w h)
theorem st_N {s : State} {args : Array Value} (hts : ∀ w ∈ lw_tbl, w.before args s = true) : ∀ w ∈ zNs, va_Nw w s := fun w hw => va_Nw.of (zn_on (zNs_ok w hw)) (hts w (zNs_in w hw))
theorem st_C {s : State} {args : Array Value} (hgv : (Jvm.Cond.and given_1 narrow_1).before args s = true) : xN s := by
  have hs := flat_of_before _ hgv
  have hm : ∀ q ∈ ([("java/lang/IllegalArgumentException", "java/lang/IllegalStateException"), ("java/lang/UnsupportedOperationException", "java/lang/IllegalStateException"), ("java/lang/UnsupportedOperationException", "java/lang/IllegalArgumentException"), ("java/util/NoSuchElementException", "java/lang/IllegalStateException"), ("java/lang/UnsupportedOperationException", "java/util/NoSuchElementException")] : List (String × String)), Cond.not (.castable q.1 q.2) ∈ flatC (Jvm.Cond.and given_1 narrow_1) := by decide +kernel
  exact fun q hq => va_Nc.of (hs _ (hm q hq))
theorem st_F {s : State} {args : Array Value} (hts : ∀ w ∈ lw_tbl, w.before args s = true) (hgv : (Jvm.Cond.and given_1 narrow_1).before args s = true) : xF s := by
  have hs := flat_of_before _ hgv
  have hA : ∀ a : Nat, a < s.heap.size → ¬ s.heap.size ≤ a := fun a h => Nat.not_le.mpr h
  have hel : ∀ j, j < 19 → Cond.eq (.elem (.static "ShortBridge$Scoring" "STEPS" "[I") (.int (Int32.ofNat j))) (.int (sc_F j)) ∈ flatC (Jvm.Cond.and given_1 narrow_1) := by decide +kernel
  obtain ⟨t, ht, hT⟩ := va_Tof (args := args) (s := s) (tm := .static "ShortBridge$Scoring" "STEPS" "[I") (ty := .int) (N := 19) (f := fun j => .int (sc_F j)) (A := fun q => s.heap.size ≤ q) (by decide) (hs _ (by decide +kernel)) (va_eqt (hs _ (by decide +kernel))) (fun j hj => va_eqt (hs _ (hel j hj))) hA
  refine ⟨args, hts, hs _ (by decide +kernel), hs _ (by decide +kernel), t, va_Zof (hts _ (by decide +kernel)) (hts _ (by decide +kernel)) ht hA, hT⟩
/-- the addresses of a component, all of them known -/
def st_a (ad : Nat → Nat) (k : Nat) : Nat := if k < 15 then ad k else ad 0
theorem st_had {A : Nat → Prop} {ad : Nat → Nat} {ca : Nat → ClassId} {u : ZS} (h : va_D A (cW ad ca u)) : ∀ k, A (st_a ad k) := by
  have hk : ∀ k, k < 15 → A (ad k) := by
    intro k hk
    match k, hk with
    | 0, _ => exact h.2 0 _ rfl
    | 1, _ => exact h.2 1 _ rfl
    | 2, _ => exact h.2 2 _ rfl
    | 3, _ => exact h.2 3 _ rfl
    | 4, _ => exact h.2 4 _ rfl
    | 5, _ => exact h.2 5 _ rfl
    | 6, _ => exact h.2 6 _ rfl
    | 7, _ => exact h.2 7 _ rfl
    | 8, _ => exact h.2 8 _ rfl
    | 9, _ => exact h.2 9 _ rfl
    | 10, _ => exact h.2 10 _ rfl
    | 11, _ => exact h.2 11 _ rfl
    | 12, _ => exact h.2 12 _ rfl
    | 13, _ => exact h.2 13 _ rfl
    | 14, _ => exact h.2 14 _ rfl
    | k + 15, hk => omega
  intro k
  unfold st_a
  split
  · exact hk k (by assumption)
  · exact hk 0 (by omega)
set_option maxRecDepth 100000 in
set_option maxHeartbeats 4000000 in
theorem whole_start {p : Program} {e : Env} {s : State} {m : MethodId} {below : List Frame} {meth : Method} {c : Code} (l : Launch) (htr : l.stackTraces = false) {b L : Nat} {xs : Nat → Int32} (hL : L ≤ 2560) (C0 : lw_At p s m meth c b L xs) : W p l e room_1 s m #[Value.ref b] below meth c s.heap [] 0 0 (lw_Z below #[Value.ref b] s) (entryFrame m ([Value.ref b] : List Value).toArray 7) := by
  obtain ⟨hx, hb, hr, hml, hown, hts0, hXs, hbl, hlk, hgv⟩ := C0
  have hown : s.vm.findClass "ShortBridgeLaw" = some m.cls := hown
  have hb : c.code = c_w_law := hb
  have hts : ∀ w ∈ zG, w.before #[Value.ref b] s = true := fun w h => hts0 w (List.mem_filter.mp h).1
  have hN := st_N hts0
  have hF := st_F hts0 hgv
  have hN0 := st_C hgv
  obtain ⟨D, hK⟩ := st_K hts
  have hl := lv_entry [.ref b] (n := 7) (Nat.le_of_ble_eq_true rfl)
  rw [lg_entry_eq]
  generalize (lg_sl [.ref b] ++ List.replicate (7 - (lg_sl [.ref b]).length) Slot.unset).toArray = ls at hl ⊢
  have hl : lv_has ls 7 [(0, .ref b)] := hl
  generalize hAe : (fun q => s.heap.size ≤ q) = A
  have hI : zw D A s.heap [] s.heap [] := ⟨fun k q h => (by cases h), ⟨fun i j p q h => (by cases h), fun k q h => (by cases h)⟩, va_S.rf, fun q h => (by rw [← hAe]; exact h)⟩
  refine va_new (ci := 0) (fs := [.null, .null, .null, .null, .int 0, .int 0]) (C := R_X) (T := T_X) (N := 6) hx hb hts in_X ty_X tyo_X hown (hts _ q_56) (hts _ q_57) (hts _ q_39) hK hI.1 hI.2.1 hI.2.2.1 hI.2.2.2 rfl (fun j hj => by match j, hj with | 0, _ => rfl | 1, _ => rfl | 2, _ => rfl | 3, _ => rfl | 4, _ => rfl | 5, _ => rfl | j + 6, hj => omega) (Nat.le_of_ble_eq_true rfl) (Nat.le_of_ble_eq_true rfl) d_w_law_0 ?_
  intro h0 H hP hD hS
  have hI : zw D A s.heap [(h0, .inr (0, [.null, .null, .null, .null, .int 0, .int 0]))] H _ := ⟨hP, hD, hS, hI.2.2.2⟩
  refine W.widen (k := 1) (n := 6) (Nat.le_of_ble_eq_true rfl) (Nat.le_of_ble_eq_true rfl) ?_
  refine lv_dup hx hb d_w_law_3 rfl ?_
  have hFc := va_free (wc := [(h0, .inr (0, [.null, .null, .null, .null, .int 0, .int 0]))]) hI.2.1 hI.2.2.1 hI.2.2.2 [0] rfl
  refine va_callv (va_runI (As := []) (rest := [.ref h0]) ⟨hx, hb, hml, hown, hts⟩ (i_x_init l D h0 _) (cwI 0 hts (zg_c q_60) rfl rfl rfl (hts _ q_39) (hts _ q_58) (hts _ q_59) rfl ⟨by decide, by decide, by decide +kernel⟩ ⟨Nat.le_of_ble_eq_true rfl, Nat.le_of_ble_eq_true rfl⟩) ⟨iP_blind _ _ _ _, fun U hU hW => ⟨rfl, by rw [hU], by rw [hU]; exact hI.1, va_K.moved hW.alike hK, hI.2.1.weaken (fun _ _ _ _ => trivial), fun w hw => zn_warm (zNs_ok w hw) hW (hN w hw)⟩⟩ rfl rfl hl.1 rfl (lv_room (Nat.le_of_ble_eq_true rfl)) d_w_law_4 ⟨Nat.le_of_ble_eq_true rfl, Nat.le_of_ble_eq_true rfl⟩) hI.2.2.1 (fun q _ h => hFc q h) hFc (fun w1 t H1 locs1 ht hvm hw0 hB hz1 hk1 hS => ?_)
  obtain ⟨hP1, hK1, hD1⟩ := hB
  rw [ht] at hP1
  have hK1 := va_K.moved hvm.symm hK1
  have hI : zw D A s.heap (cW (st_a w1.1) w1.2 cu) H1 locs1 := ⟨hP1, hD1.weaken (fun _ _ _ h => hFc _ h), hS, hI.2.2.2⟩
  have had := st_had (ad := w1.1) (ca := w1.2) (u := cu) hI.2.1
  have hw0 : st_a w1.1 0 = h0 := hw0
  rw [← hw0]
  clear hP hD hS hP1 hD1 hFc hk1
  generalize hade : st_a w1.1 = ad at hI had ⊢
  generalize hcae : w1.2 = ca at hI hK1
  refine W.widen (k := 15) (n := 279) (Nat.le_of_ble_eq_true rfl) (Nat.le_of_ble_eq_true rfl) ?_
  refine lv_astore_n hx hb d_w_law_7 rfl hl (by decide) rfl ?_
  intro ls hl
  have hl : lv_has ls 7 [(1, .ref (ad 0)), (0, .ref b)] := hl
  refine va_new (ci := 5) (fs := [.int 0, .int 0, .long 0, .int 0, .int 0, .null, .null, .int 0, .null, .int 0, .null, .int 0, .int 0, .int 0, .int 0, .null, .null, .null, .null, .null, .null, .null, .int 0, .null, .null]) (C := R_M) (T := T_M) (N := 25) hx hb hts in_M ty_M tyo_M hown (hts _ q_648) (hts _ q_649) (hts _ q_44) hK1 hI.1 hI.2.1 hI.2.2.1 hI.2.2.2 rfl (fun j hj => by match j, hj with | 0, _ => rfl | 1, _ => rfl | 2, _ => rfl | 3, _ => rfl | 4, _ => rfl | 5, _ => rfl | 6, _ => rfl | 7, _ => rfl | 8, _ => rfl | 9, _ => rfl | 10, _ => rfl | 11, _ => rfl | 12, _ => rfl | 13, _ => rfl | 14, _ => rfl | 15, _ => rfl | 16, _ => rfl | 17, _ => rfl | 18, _ => rfl | 19, _ => rfl | 20, _ => rfl | 21, _ => rfl | 22, _ => rfl | 23, _ => rfl | 24, _ => rfl | j + 25, hj => omega) (Nat.le_of_ble_eq_true rfl) (Nat.le_of_ble_eq_true rfl) d_w_law_8 ?_
  intro g0 H hP hD hS
  have hI : zw D A s.heap (cW ad ca cu ++ [(g0, .inr (5, [.int 0, .int 0, .long 0, .int 0, .int 0, .null, .null, .int 0, .null, .int 0, .null, .int 0, .int 0, .int 0, .int 0, .null, .null, .null, .null, .null, .null, .null, .int 0, .null, .null]))]) H _ := ⟨hP, hD, hS, hI.2.2.2⟩
  refine W.widen (k := 16) (n := 304) (Nat.le_of_ble_eq_true rfl) (Nat.le_of_ble_eq_true rfl) ?_
  refine lv_dup hx hb d_w_law_11 rfl ?_
  have hPc := hI.1.sub (ws' := [(g0, .inr (5, [.int 0, .int 0, .long 0, .int 0, .int 0, .null, .null, .int 0, .null, .int 0, .null, .int 0, .int 0, .int 0, .int 0, .null, .null, .null, .null, .null, .null, .null, .int 0, .null, .null]))]) [15] rfl
  have hDc := hI.2.1.sub (ws' := [(g0, .inr (5, [.int 0, .int 0, .long 0, .int 0, .int 0, .null, .null, .int 0, .null, .int 0, .null, .int 0, .int 0, .int 0, .int 0, .null, .null, .null, .null, .null, .null, .null, .int 0, .null, .null]))]) [15] (by decide) rfl
  have hFc := va_free (wc := [(g0, .inr (5, [.int 0, .int 0, .long 0, .int 0, .int 0, .null, .null, .int 0, .null, .int 0, .null, .int 0, .int 0, .int 0, .int 0, .null, .null, .null, .null, .null, .null, .null, .int 0, .null, .null]))]) hI.2.1 hI.2.2.1 hI.2.2.2 [15] rfl
  refine va_callv (va_runI (As := []) (rest := [.ref g0]) ⟨hx, hb, hml, hown, hts⟩ (i_m_init l D g0 _ (post := fun v => fx [] [] [] [0] zu v ∧ qmW v) (s_minit (fun v' h1 h2 => ⟨h1, h2⟩))) (cwI 0 hts (zg_c q_652) rfl rfl rfl (hts _ q_44) (hts _ q_650) (hts _ q_651) rfl ⟨by decide, by decide, by decide +kernel⟩ ⟨Nat.le_of_ble_eq_true rfl, Nat.le_of_ble_eq_true rfl⟩) ⟨iP_blind _ _ _ _, fun U hU hW => ⟨rfl, by rw [hU], by rw [hU]; exact hPc, va_K.moved hW.alike (hK1.sub (tys' := []) [] rfl), hDc.weaken (fun _ _ _ _ => trivial), fun w hw => zn_warm (zNs_ok w hw) hW (hN w hw)⟩⟩ rfl rfl hl.1 rfl (lv_room (Nat.le_of_ble_eq_true rfl)) d_w_law_12 ⟨Nat.le_of_ble_eq_true rfl, Nat.le_of_ble_eq_true rfl⟩) hI.2.2.1 (fun q _ h => hFc q h) hFc (fun w2 t H1 locs1 ht hvm hw2 hB hz1 hk1 hS => ?_)
  obtain ⟨hP1, hK2, hD1⟩ := hB
  obtain ⟨hw2, hfx, hqW⟩ := hw2
  rw [ht] at hP1
  have hK2 := va_K.moved hvm.symm hK2
  obtain ⟨hP, hD⟩ := va_join (wr := cW ad ca cu) (w1 := mW w2.1 w2.2.1 w2.2.2) hI.1 hI.2.1 [15] [0, 1, 2, 3, 4, 5, 6, 7, 8, 9, 10, 11, 12, 13, 14] rfl rfl (by decide) (by decide) hk1 hFc hP1 hD1
  have hK := hK1.app hK2
  have hI : zw D A s.heap (cW ad ca cu ++ mW w2.1 w2.2.1 w2.2.2) H1 locs1 := ⟨hP, hD, hS, hI.2.2.2⟩
  rw [← hw2]
  clear hP hD hS hP1 hD1 hPc hDc hFc hk1
  generalize w2.2.2 = v0 at hI hfx hqW
  generalize w2.1 = bd at hI ⊢
  generalize w2.2.1 = cb at hI hK
  refine W.widen (k := 29) (n := 1196) (Nat.le_of_ble_eq_true rfl) (Nat.le_of_ble_eq_true rfl) ?_
  refine lv_astore_n hx hb d_w_law_15 rfl hl (by decide) rfl ?_
  intro ls hl
  have hl : lv_has ls 7 [(2, .ref (bd 0)), (1, .ref (ad 0)), (0, .ref b)] := hl
  refine lv_iconst (v := 1) hx hb d_w_law_16 zc_iconst_1 ?_
  refine zk_long (N' := 1) hx hb hts hK hI (by decide) (by decide) (by decide) (Nat.le_of_ble_eq_true rfl) (Nat.le_of_ble_eq_true rfl) d_w_law_17 ?_
  intro od oc H hK hI
  have hK : va_K D vwCl (lT ca cb oc) s := by rw [List.append_assoc] at hK; exact hK
  rw [List.append_assoc] at hI
  have hI : zw D A s.heap (lW ad ca bd cb od oc (cu, v0, fun _ => 0)) H _ := hI
  refine W.widen (k := 30) (n := 1197) (Nat.le_of_ble_eq_true rfl) (Nat.le_of_ble_eq_true rfl) ?_
  refine lv_astore_n hx hb d_w_law_19 rfl hl (by decide) rfl ?_
  intro ls hl
  have hl : lv_has ls 7 [(3, .ref od), (2, .ref (bd 0)), (1, .ref (ad 0)), (0, .ref b)] := hl
  subst hAe
  exact j_w_law (by omega) (by omega) ⟨hx, hb, hml, hown, hts, hN, hK, hr, hlk, Nat.le_of_ble_eq_true rfl, Nat.le_of_ble_eq_true rfl⟩ ⟨hF, hN0, htr, hXs, hbl, had⟩ hI (lv_sub hl [3, 2, 1, 0] rfl) (law_all hL _ hfx hqW)
