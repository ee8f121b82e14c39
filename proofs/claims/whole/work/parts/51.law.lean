/-! the law's pure side -/
def GI (u v : ZS) : Prop := ∃ (b d n m : Nat) (cs cd ow : Nat → Nat) (r : Nat), gG b d n m cs cd ow ∧ gC u b d n m cs cd ow r ∧ gM v b d n m cs cd ow r ∧ gL u v b r
theorem law_5 {L i : Nat} (hi : i < 100000) (hL : L ≤ 2560) (h : ¬ (Int32.ofNat L - 5 < i3 i)) : i + 5 ≤ L := by
  have e : Int32.ofNat L = i3 L := rfl
  rw [e] at h
  by_cases h5 : 5 ≤ L
  · rw [i3_5, i3_sub h5, i3_lt (by omega) (by omega)] at h; omega
  · exfalso
    apply h
    rw [Int32.lt_iff_toInt_lt, i3_z (by omega)]
    have hq : L = 0 ∨ L = 1 ∨ L = 2 ∨ L = 3 ∨ L = 4 := by omega
    rcases hq with rfl | rfl | rfl | rfl | rfl
    · have : (i3 0 - 5).toInt = -5 := by decide
      omega
    · have : (i3 1 - 5).toInt = -4 := by decide
      omega
    · have : (i3 2 - 5).toInt = -3 := by decide
      omega
    · have : (i3 3 - 5).toInt = -2 := by decide
      omega
    · have : (i3 4 - 5).toInt = -1 := by decide
      omega
section Law
variable {u v : ZS} {b d n m r : Nat} {cs cd ow : Nat → Nat} {N : ZS → ZS → (Nat → Int64) → Prop} {o : Nat → Int64}
/-- a value and a code: what the law does with them -/
def lwV (N : ZS → ZS → (Nat → Int64) → Prop) (k : Int32) (u v : ZS) (o : Nat → Int64) (y : Int32) : Prop :=
  (fI v 0 = k → (¬ k = 0 → N u v o) ∧ (k = 0 → ((lg_cmp (o (Int32.toNatClampNeg 0)) (Int32.toInt64 y)) = 0 → N u v o) ∧ (¬ ((lg_cmp (o (Int32.toNatClampNeg 0)) (Int32.toInt64 y)) = 0) → False))) ∧ (¬ (fI v 0 = k) → False)
theorem lwV_0 {x y : Int32} (he : x = y) (e0 : fI v 0 = i3 0) (h : ∀ o', N u v o') : lwV N 0 u v (vp_updL o (Int32.toNatClampNeg 0) (Int32.toInt64 x)) y := by
  subst he
  exact ⟨fun _ => ⟨fun hx => absurd rfl hx, fun _ => ⟨fun _ => h _, fun hx => absurd ((lg_cmp_eq _ _).mpr ul1) hx⟩⟩, fun hx => absurd e0 hx⟩
theorem lwV_e {k : Int32} {y : Int32} (hk : ¬ k = 0) (e0 : fI v 0 = k) (h : N u v o) : lwV N k u v o y :=
  ⟨fun _ => ⟨fun _ => h, fun hx => absurd hx hk⟩, fun hx => absurd e0 hx⟩
theorem gLv {fi ai : List Nat} {v' : ZS} (hL : gL u v b r) (hx : fx fi [] ai [] v v') (h3 : 3 ∉ fi) (h10 : 10 ∉ ai) : gL u v' b r := gL_fx hx h3 h10 hL
theorem gL_0 {x : Int32} (hL : gL u v b r) : gL u (sI v 0 x) b r := gL_fx (fi := [0]) (ai := []) (fx_sI fx_rf (by decide)) (by decide) (by decide) hL
end Law
set_option maxHeartbeats 4000000 in
theorem law_step {xs : Nat → Int32} {L g i : Nat} {u v : ZS} {o : Nat → Int64} (hi : i < 100000) (hL2 : L ≤ 2560) (hGI : GI u v) (nx : i + 5 ≤ L → ∀ u v o, GI u v → b_w_law_23 xs L g (i3 (i + 5)) (u, v, o)) : b_w_law_23 xs L (g + 1) (i3 i) (u, v, o) := by
  unfold b_w_law_23
  refine ⟨fun _ => trivial, fun h5 => ?_⟩
  have h5 := law_5 hi hL2 h5
  have nx' : ∀ u v o, GI u v → b_w_law_776 (b_w_law_23 xs L g) xs L (i3 i) (u, v, o) := by
    intro u v o hg
    have := nx h5 u v o hg
    unfold b_w_law_776
    rw [i3_5, i3_add]; exact this
  clear nx
  have q0 : vp_in (i3 i) L := (i3_in (by omega)).mpr (by omega)
  have q1 : vp_in (i3 i + 1) L := by rw [i3_1, i3_add]; exact (i3_in (by omega)).mpr (by omega)
  have q2 : vp_in (i3 i + 2) L := by rw [i3_2, i3_add]; exact (i3_in (by omega)).mpr (by omega)
  have q3 : vp_in (i3 i + 3) L := by rw [i3_3, i3_add]; exact (i3_in (by omega)).mpr (by omega)
  have q4 : vp_in (i3 i + 4) L := by rw [i3_4, i3_add]; exact (i3_in (by omega)).mpr (by omega)
  generalize xs (Int32.toNatClampNeg (i3 i + 1)) = x1
  generalize xs (Int32.toNatClampNeg (i3 i + 2)) = x2
  generalize xs (Int32.toNatClampNeg (i3 i + 3)) = x3
  generalize xs (Int32.toNatClampNeg (i3 i + 4)) = x4
  generalize (Int32.toInt64 x1 <<< (Int32.toInt64 32 &&& 63)) ||| (Int32.toInt64 x2 &&& 4294967295) = x12
  unfold b_w_law_561 b_w_law_605 b_w_law_649 b_w_law_717 b_w_law_773
  generalize b_w_law_776 (b_w_law_23 xs L g) xs L (i3 i) = NN at nx' ⊢
  generalize (xs (Int32.toNatClampNeg (i3 i)) &&& 31) = K
  obtain ⟨b, d, n, m, cs, cd, ow, r, hG, hC, hM, hL⟩ := id hGI
  have hr := hL.2.2.1
  have ok : ∀ {u' v' : ZS} {o' : Nat → Int64}, gC u' b d n m cs cd ow r → gM v' b d n m cs cd ow r → gL u' v' b r → NN (u', v', o') := fun hC' hM' hL' => nx' _ _ _ ⟨b, d, n, m, cs, cd, ow, r, hG, hC', hM', hL'⟩
  refine ⟨q0, fun _ => ?_, fun _ => ?_, fun _ => ?_, fun _ => ?_, fun _ => ?_, fun _ => ?_, fun _ => ?_, fun _ => ?_, fun _ => ?_, fun _ => ?_, fun _ => ?_, fun _ => ?_, fun _ => ?_, fun _ => ?_, fun _ => ?_, fun _ => ?_, fun _ => ?_, fun _ => nx' _ _ _ hGI⟩
  · -- deal
    refine ⟨q1, q2, q3, q4, c_deal hC (fun k q hk hq e1 e2 s1 s2 u' hB hJ => ⟨q1, q2, q3, q4, m_deal hM (fun k' q' hk' hq' e1' e2' _ _ v0 v' hx0 hM0 hB' => ?_) (fun hno => absurd ⟨⟨k, hk, e1⟩, ⟨q, hq, e2, s1, s2⟩⟩ hno)⟩) (fun hno => ⟨q1, q2, q3, q4, m_deal hM (fun k q hk hq e1 e2 s1 s2 _ _ _ _ _ => absurd ⟨⟨k, hk, e1⟩, ⟨q, hq, e2, s1, s2⟩⟩ hno) (fun _ => ⟨fun _ => ok hC (gM_sI0 hM) (gL_0 hL), fun hx => absurd rfl hx⟩)⟩)⟩
    rw [e1, j6_eq (by omega) (by omega)] at e1'
    rw [e2, i3_eq (by omega) (by omega)] at e2'
    subst e1'; subst e2'
    have hk1 := rk_ow_is hk
    exact ⟨fun _ => nx' _ _ _ ⟨1, q, 0, 0, cs, cd, rk_ow k, r, gG_new (rk_deal hk1), hB.2.1, gM_new hM.2.1.2.2.2.1 hM0 hq hB', gL_new (gLv hL hx0 (by decide) (by decide)) hB hB' (by rw [rk_num hk1]; exact hJ)⟩, fun hx => absurd rfl hx⟩
  · -- shuffle
    refine ⟨q1, q2, q3, q4, c_shuf hC (fun q hq e2 s1 s2 u' hB hJ => ⟨q1, q2, q3, q4, m_shuf hM (fun q' hq' e2' _ _ v0 v' hx0 hM0 hB' => ?_) (fun hno => absurd ⟨q, hq, e2, s1, s2⟩ hno)⟩) (fun hno => ⟨q1, q2, q3, q4, m_shuf hM (fun q hq e2 s1 s2 _ _ _ _ _ => absurd ⟨q, hq, e2, s1, s2⟩ hno) (fun _ => ⟨fun _ => ok hC (gM_sI0 hM) (gL_0 hL), fun hx => absurd ((lg_cmp_eq _ _).mpr rfl) hx⟩)⟩)⟩
    rw [e2, i3_eq (by omega) (by omega)] at e2'
    subst e2'
    exact ⟨fun _ => nx' _ _ _ ⟨1, q, 0, 0, cs, cd, sh_ow (sh_row x12), r, gG_new (sh_D (sh_row_P x12)), hB.2.1, gM_new hM.2.1.2.2.2.1 hM0 hq hB', gL_new (gLv hL hx0 (by decide) (by decide)) hB hB' hJ⟩, fun hx => absurd ((lg_cmp_eq _ _).mpr rfl) hx⟩
  · -- number
    refine c_num hG hC (m_num hG hM ⟨fun _ => ok hC (gM_sI0 hM) (gL_0 hL), fun hx => hx ((lg_cmp_eq _ _).mpr ?_)⟩)
    by_cases hb : b = 0
    · rw [if_pos hb, if_pos hb]
    · rw [if_neg hb, if_neg hb]; exact hL.2.1 (by have := hG.1; omega)
  · -- phase
    exact c_ph hG hC (m_phase hG hM (fun v' hx hM' => ⟨fun _ => ok hC hM' (gLv hL hx (by decide) (by decide)), fun hx => absurd rfl hx⟩))
  · -- turn
    exact c_turn hG hC (m_turn hG hM (fun v' hx hM' => ⟨fun _ => ok hC hM' (gLv hL hx (by decide) (by decide)), fun hx => absurd rfl hx⟩))
  · -- has
    exact ⟨q1, q2, c_has hC (fun hh => ⟨q1, q2, m_has hG hM (fun _ v' hx hM' => ⟨fun _ => ok hC hM' (gLv hL hx (by decide) (by decide)), fun hx => absurd rfl hx⟩) (fun hn => absurd hh hn)⟩) (fun hn => ⟨q1, q2, m_has hG hM (fun hh => absurd hh hn) (fun _ v' hx hM' => ⟨fun _ => ok hC hM' (gLv hL hx (by decide) (by decide)), fun hx => absurd rfl hx⟩)⟩)⟩
  · -- call
    obtain ⟨k, n', cs', hK⟩ := gK_ex x1 b n m cs
    have hG' := gG_call hG hK
    have fin : ∀ (kk : Int32) (u' : ZS), i3 k = kk → gC u' b d n' m cs' cd ow r → gL u' v b r → (vp_in (i3 i + 1) L ∧ w_m_call x1 v (fun u28 => w_m_thrown u28 (fun r29 u30 => (r29 = kk → NN (u', u30, o)) ∧ (¬ (r29 = kk) → False)))) := by
      intro kk u' ek hC' hL'
      refine ⟨q1, m_call hG hM hK (fun v' hx hM' e0 => ?_)⟩
      exact ⟨fun _ => nx' _ _ _ ⟨b, d, n', m, cs', cd, ow, r, hG', hC', hM', gLv hL' hx (by decide) (by decide)⟩, fun hx => absurd (e0.trans ek) hx⟩
    refine ⟨q1, ?_⟩
    unfold w_w_call
    exact c_call hG hC hK (fun k0 u' hx hC' => fin 0 u' (by rw [k0]; rfl) hC' (gL_fxu hx (by decide) (by decide) hL)) (fun k0 hC' => Or.inl ⟨rfl, fin 1 u (by rw [k0]; rfl) hC' hL⟩) (fun k0 hC' => Or.inr (Or.inl ⟨rfl, fin 2 u (by rw [k0]; rfl) hC' hL⟩)) (fun k0 hC' => Or.inr (Or.inr ⟨rfl, fin 3 u (by rw [k0]; rfl) hC' hL⟩))
  · -- play
    obtain ⟨k, m', cd', hK⟩ := gP_ex x1 b d n m cs cd ow
    have hG' := gG_play hG hK
    have fin : ∀ (kk : Int32) (u' : ZS), i3 k = kk → gC u' b d n m' cs cd' ow r → gL u' v b r → (vp_in (i3 i + 1) L ∧ w_m_play x1 v (fun u28 => w_m_thrown u28 (fun r29 u30 => (r29 = kk → NN (u', u30, o)) ∧ (¬ (r29 = kk) → False)))) := by
      intro kk u' ek hC' hL'
      refine ⟨q1, m_play hG hM hK (fun v' hx hM' e0 => ?_)⟩
      exact ⟨fun _ => nx' _ _ _ ⟨b, d, n, m', cs, cd', ow, r, hG', hC', hM', gLv hL' hx (by decide) (by decide)⟩, fun hx => absurd (e0.trans ek) hx⟩
    refine ⟨q1, ?_⟩
    unfold w_w_play
    exact c_play hG hC hK (fun k0 u' hx hC' => fin 0 u' (by rw [k0]; rfl) hC' (gL_fxu hx (by decide) (by decide) hL)) (fun k0 hC' => Or.inl ⟨rfl, fin 1 u (by rw [k0]; rfl) hC' hL⟩) (fun k0 hC' => Or.inr (Or.inl ⟨rfl, fin 2 u (by rw [k0]; rfl) hC' hL⟩)) (fun k0 hC' => Or.inr (Or.inr ⟨rfl, fin 3 u (by rw [k0]; rfl) hC' hL⟩))
  · -- back
    obtain ⟨k, n', m', hK⟩ := gB_ex b n m cs
    have hG' := gG_back hG hK
    exact c_back hG hC hK (fun u' hx hC' => m_back hG hM hK (fun v' hx' hM' => ⟨fun _ => nx' _ _ _ ⟨b, d, n', m', cs, cd, ow, r, hG', hC', hM', gLv (gL_fxu hx (by decide) (by decide) hL) hx' (by decide) (by decide)⟩, fun hx => absurd rfl hx⟩))
  · -- contract
    exact ⟨q1, c_con hC ⟨q1, m_con hG hM (fun v' hx hM' => ⟨fun _ => ok hC hM' (gLv hL hx (by decide) (by decide)), fun hx => absurd rfl hx⟩)⟩⟩
  · -- tricks
    exact ⟨q1, c_tri hG hC ⟨q1, m_tri hG hM (fun v' hx hM' => ⟨fun _ => ok hC hM' (gLv hL hx (by decide) (by decide)), fun hx => absurd rfl hx⟩)⟩⟩
  · -- table
    exact ⟨q1, c_tab hG hC ⟨q1, m_tab hG hM ⟨fun _ => ok hC (gM_sI0 hM) (gL_0 hL), fun hx => absurd rfl hx⟩⟩⟩
  · -- score
    unfold w_w_score
    refine c_score hG hC (fun h3 => m_score hG hM (fun _ v' hx hM' e0 => ?_) (fun hn => absurd h3 hn)) (fun hn => ⟨rfl, m_score hG hM (fun h3 => absurd h3 hn) (fun _ v' hx hM' e0 => ?_)⟩)
    · exact lwV_0 (N := fun a b c => NN (a, b, c)) (by rw [hL.1]) e0 (fun _ => ok hC hM' (gLv hL hx (by decide) (by decide)))
    · exact lwV_e (N := fun a b c => NN (a, b, c)) (by decide) e0 (ok hC hM' (gLv hL hx (by decide) (by decide)))
  · -- solve
    unfold w_w_solve
    refine c_solve hG hC (fun h2 h4 w u' hx hC' hA hA' => m_solve hG hM (fun _ _ v' x hx' hM' e0 hR => ?_) (fun hn => absurd h2 hn) (fun _ hm => by omega)) (fun hn => Or.inl ⟨rfl, m_solve hG hM (fun h2 => absurd h2 hn) (fun _ v' hx hM' e0 => ?_) (fun h2 => absurd h2 hn)⟩) (fun h2 hm => Or.inr ⟨rfl, m_solve hG hM (fun _ h4 => by omega) (fun hn => absurd h2 hn) (fun _ _ v' hx hM' e0 => ?_)⟩)
    · obtain ⟨p1, -, -, p4⟩ := ph2 hG h2
      exact lwV_0 (N := fun a b c => NN (a, b, c)) (sv_eq (hG.2.2.1 p1) hG.2.2.2.2.2.1 hG.2.2.2.2.2.2 hA hA' hR).symm e0 (fun _ => ok hC' hM' (gLv (gL_fxu hx (by decide) (by decide) hL) hx' (by decide) (by decide)))
    · exact lwV_e (N := fun a b c => NN (a, b, c)) (by decide) e0 (ok hC hM' (gLv hL hx (by decide) (by decide)))
    · exact lwV_e (N := fun a b c => NN (a, b, c)) (by decide) e0 (ok hC hM' (gLv hL hx (by decide) (by decide)))
  · -- record
    unfold w_w_record
    refine c_record hG hC hr (fun h3 hr12 u' hC' f1' fJ1 fA1 fs1 fn1 => m_record hG hM hr (fun _ _ v' hM' e0 f3' fJ2 fA2 fs2 fn2 => ?_) (fun hn => absurd h3 hn) (fun _ hm => by omega)) (fun hn => Or.inl ⟨rfl, m_record hG hM hr (fun h3 => absurd h3 hn) (fun _ v' hx hM' e0 => ?_) (fun h3 => absurd h3 hn)⟩) (fun h3 hm => Or.inr ⟨rfl, m_record hG hM hr (fun _ h4 => by omega) (fun hn => absurd h3 hn) (fun _ _ v' hx hM' e0 => ?_)⟩)
    · obtain ⟨p1, -⟩ := ph3 hG h3
      refine lwV_0 (N := fun a b c => NN (a, b, c)) rfl e0 (fun _ => nx' _ _ _ ⟨b, d, n, m, cs, cd, ow, r + 1, hG, hC', hM', ⟨?_, fun hb => ?_, by omega, fun i hi => ?_⟩⟩)
      · rw [f1', f3']; exact hL.1
      · rw [fJ1, fJ2]; exact hL.2.1 hb
      · by_cases he : i = r
        · rw [he, fs1, fs2, fn1, fn2, hL.1]; exact ⟨rfl, hL.2.1 p1⟩
        · rw [(fA1 i he).1, (fA1 i he).2, (fA2 i he).1, (fA2 i he).2]; exact hL.2.2.2 i (by omega)
    · exact lwV_e (N := fun a b c => NN (a, b, c)) (by decide) e0 (ok hC hM' (gLv hL hx (by decide) (by decide)))
    · exact lwV_e (N := fun a b c => NN (a, b, c)) (by decide) e0 (ok hC hM' (gLv hL hx (by decide) (by decide)))
  · -- points
    unfold w_w_points
    refine ⟨q1, q2, c_points hC hr (fun a c ha hc e1 e2 => ⟨q1, q2, m_points hM hr (fun a' c' ha' hc' e1' e2' => ?_) (fun hn => absurd ⟨a, c, ha, hc, e1, e2⟩ hn)⟩) (fun hn => ⟨rfl, q1, q2, m_points hM hr (fun a c ha hc e1 e2 => absurd ⟨a, c, ha, hc, e1, e2⟩ hn) (fun _ => ?_)⟩)⟩
    · rw [e1, i3_eq (by omega) (by omega)] at e1'
      rw [e2, i3_eq (by omega) (by omega)] at e2'
      subst e1'; subst e2'
      exact lwV_0 (N := fun a b c => NN (a, b, c)) (by rw [(hL.2.2.2 a ha).1, (hL.2.2.2 c hc).1]) f1 (fun _ => ok hC (gM_sI0 hM) (gL_0 hL))
    · exact lwV_e (N := fun a b c => NN (a, b, c)) (by decide) f1 (ok hC (gM_sI0 hM) (gL_0 hL))
  · -- places
    unfold w_w_places
    refine ⟨q1, c_places hC hr (fun a ha e1 => ⟨q1, m_places hM hr (fun a' ha' e1' => ?_) (fun ho => (out_rng (by omega) ha ho e1).elim)⟩) (fun ho => ⟨rfl, q1, m_places hM hr (fun a ha e1 => (out_rng (by omega) ha ho e1).elim) (fun _ => ?_)⟩)⟩
    · rw [e1, i3_eq (by omega) (by omega)] at e1'
      subst e1'
      exact lwV_0 (N := fun a b c => NN (a, b, c)) (rs_sm_congr ha (fun j hj => ⟨(hL.2.2.2 j hj).2, (hL.2.2.2 j hj).1⟩)) f1 (fun _ => ok hC (gM_sI0 hM) (gL_0 hL))
    · exact lwV_e (N := fun a b c => NN (a, b, c)) (by decide) f1 (ok hC (gM_sI0 hM) (gL_0 hL))
theorem law_loop {xs : Nat → Int32} {L : Nat} (hL2 : L ≤ 2560) : ∀ (f i : Nat) (u v : ZS) (o : Nat → Int64), L < i + 5 * f + 5 → i ≤ L → GI u v → b_w_law_23 xs L (f + 1) (i3 i) (u, v, o) := by
  intro f
  induction f with
  | zero =>
    intro i u v o h1 h2 hg
    exact law_step (by omega) hL2 hg (fun h5 => by omega)
  | succ f ih =>
    intro i u v o h1 h2 hg
    exact law_step (by omega) hL2 hg (fun h5 u v o hg => ih (i + 5) u v o (by omega) (by omega) hg)
theorem GI_0 {v : ZS} (hx : fx [] [] [] [0] zu v) (hW : qmW v) : GI cu v := by
  refine ⟨0, 0, 0, 0, fun _ => 0, fun _ => 0, fun _ => 0, 0, ⟨by omega, fun _ => ⟨rfl, rfl⟩, fun h => by omega, trivial, fun h => by omega, fun i hi => by omega, by omega⟩, ⟨rfl, ⟨rfl, rfl, by omega, by omega, fun i hi => by omega, fun i hi => by omega⟩, ⟨rfl, by omega, fun i hi => by omega, fun i hi => by omega, fun p hp c => ⟨fun h => ?_, fun h => absurd h.2.1 (by decide)⟩⟩, fun h => ?_, fun h => by omega, rfl⟩, ⟨?_, ⟨?_, ?_, by omega, by omega, fun i hi => by omega, fun i hi => by omega⟩, ?_, fun i hi => by omega, fun h => by omega, ?_, hW, ?_, fun h => by omega⟩, ⟨?_, fun h => by omega, by omega, fun i hi => by omega⟩⟩
  · have hz : aI cu 4 p = i3 0 := rfl
    rw [hz, bt_0] at h
    cases h
  · exact absurd h (by decide)
  · rw [hx.1 1 (by decide)]; rfl
  · rw [hx.1 4 (by decide)]; rfl
  · rw [hx.1 2 (by decide)]; rfl
  · rw [hx.1 5 (by decide)]; rfl
  · rw [hx.2.2.1 5 (by decide)]; rfl
  · rw [hx.1 10 (by decide)]; rfl
  · rw [hx.1 3 (by decide)]; rfl
theorem law_all {xs : Nat → Int32} {L : Nat} (hL2 : L ≤ 2560) {v : ZS} (o : Nat → Int64) (hx : fx [] [] [] [0] zu v) (hW : qmW v) : w_w_law xs L (cu, v, o) :=
  ⟨L / 5 + 1, by omega, law_loop hL2 (L / 5) 0 cu v o (by omega) (by omega) (GI_0 hx hW)⟩
