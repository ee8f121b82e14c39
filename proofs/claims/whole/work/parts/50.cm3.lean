/-! score, record, points, places, solve -/
section Cm3
variable {u v : ZS} {b d n m r : Nat} {cs cd ow : Nat → Nat}
theorem vul_iff {x : Int32} {dc : Nat} : ((x >>> ((i3 dc &&& 1) &&& 31)) &&& 1 = 1) ↔ bt x (dc % 2) = true := by
  have e1 : i3 dc &&& 1 = i3 (dc % 2) := i3_a1
  have e2 : i3 (dc % 2) &&& 31 = i3 (dc % 2 % 32) := i3_a31
  have e3 : dc % 2 % 32 = dc % 2 := by omega
  rw [e1, e2, e3]
  exact bt_at (by omega)
def gS (x : Int32) (d n m : Nat) (cs cd : Nat → Nat) : Int32 := if au_bid cs n = 0 then i3 0 else sc_Z (au_bid cs n) (au_dbl cs n) (pl_wn (gt cs n) (gl d cs n) (au_dc d cs n % 2) cd (m / 4)) (if bt x (au_dc d cs n % 2) = true then 1 else 0) (au_dc d cs n)
theorem c_sos {post : Int32 → ZS → Prop} (hG : gG b d n m cs cd ow) (hC : gC u b d n m cs cd ow r) (h : post (gS (fI u 1) d n m cs cd) u) : w_x_scoreOfSide0 u post := by
  have hA := hC.2.1
  have hm20 := hG.2.2.2.2.2.2
  have hb17 := au_bid_le hA.2.2.2.2.1
  have hdc := au_dc_lt d cs n
  have hle := pl_wn_le (t := gt cs n) (l0 := gl d cs n) (s := au_dc d cs n % 2) (cd := cd) (m / 4)
  unfold gS at h
  unfold w_x_scoreOfSide0
  refine s_bid hA (fun h0 => ⟨fun hx => absurd rfl hx, fun _ => ?_⟩) (fun h3 => ⟨fun _ => s_dec hA (fun h0 => by omega) (fun _ => ?_), fun hx => ((i3_m1 (by omega)).mp hx).elim⟩)
  · rw [if_pos h0] at h; exact h
  · unfold w_x_sideOf
    dsimp only
    rw [vul_iff]
    have e1 : i3 (au_dc d cs n) &&& 1 = i3 (au_dc d cs n % 2) := i3_a1
    rw [e1]
    rw [if_neg (by omega)] at h
    have fin : ∀ q : Nat, q ≤ 1 → (if bt (fI u 1) (au_dc d cs n % 2) = true then 1 else 0) = q → b_x_scoreOfSide0_43 post (i3 (au_bid cs n)) (i3 (au_dc d cs n % 2)) (i3 q) u := by
      intro q hq e
      rw [e] at h
      unfold b_x_scoreOfSide0_43 b_x_scoreOfSide0_78
      refine s_dbl hA (s_won hC.2.2.1.1 hm20 (c_wj hG hC) gl_lt (by omega) (s_scoreOf h3 hb17 (au_dbl_le _ _) (by omega) hq ?_))
      unfold sc_Z at h
      rw [i3_0, i3_eq (by omega) (by omega)]
      exact ⟨fun hx => by rw [if_neg hx] at h; exact h, fun hx => by rw [if_pos hx] at h; exact h⟩
    exact ⟨fun hx => fin 0 (by omega) (if_neg hx), fun hx => fin 1 (by omega) (if_pos hx)⟩
theorem m_sn {post : Int32 → ZS → Prop} (hG : gG b d n m cs cd ow) (hM : gM v b d n m cs cd ow r) (hR : qmR v n d cs) (h : ∀ v', fx [] [] [3, 4, 5] [] v v' → gM v' b d n m cs cd ow r → post (gS (fI v 3) d n m cs cd) v') : w_m_scoreNow v post := by
  have hm20 := hG.2.2.2.2.2.2
  have hb17 := au_bid_le hM.2.1.2.2.2.2.1
  have hdc := au_dc_lt d cs n
  have hle := pl_wn_le (t := gt cs n) (l0 := gl d cs n) (s := au_dc d cs n % 2) (cd := cd) (m / 4)
  unfold gS at h
  unfold w_m_scoreNow
  rw [hR.1]
  refine ⟨fun hz => ?_, fun hz => ?_⟩
  · rw [i3_0, i3_eq (by omega) (by omega)] at hz
    have h3 : 3 ≤ au_bid cs n := by have := bid_3 (au_V_le hG.2.2.2.1); omega
    refine m_rd hG hM (fun v4 hx4 hM4 hP4 _ => ?_)
    have hT := qmT_of hG hR h3
    have hP := hP4 hT
    have h' := h v4 hx4 hM4
    rw [if_neg hz] at h'
    have e3 : fI v4 3 = fI v 3 := hx4.1 3 (by decide)
    have e6 : fI v4 6 = i3 (au_bid cs n) := by rw [hx4.1 6 (by decide)]; exact hR.1
    have e7 : fI v4 7 = i3 (au_dbl cs n) := by rw [hx4.1 7 (by decide)]; exact hR.2.1
    have e8 : fI v4 8 = i3 (au_dc d cs n) := by rw [hx4.1 8 (by decide)]; exact hT.2.1
    unfold w_m_trump
    dsimp only
    rw [e6, hM4.2.2.1, i3_in (by omega), i3_nat (by omega), e8, e3, vul_iff, hP.2.2.1 m (Nat.le_refl _)]
    have fin : ∀ q : Nat, q ≤ 1 → (if bt (fI v 3) (au_dc d cs n % 2) = true then 1 else 0) = q → post (sc_Z (au_bid cs n) (au_dbl cs n) (pl_wn (gt cs n) (gl d cs n) (au_dc d cs n % 2) cd (m / 4)) q (au_dc d cs n)) v4 := by
      intro q hq e
      rw [e] at h'; exact h'
    exact ⟨by omega, fun hx => s_msc (v := 0) h3 hb17 (au_dbl_le _ _) (by omega) (by omega) e7 e8 hdc (fin 0 (by omega) (if_neg hx)), fun hx => s_msc (v := 1) h3 hb17 (au_dbl_le _ _) (by omega) (by omega) e7 e8 hdc (fin 1 (by omega) (if_pos hx))⟩
  · rw [i3_0, i3_eq (by omega) (by omega)] at hz
    have h' := h v fx_rf hM
    rw [if_pos hz] at h'; exact h'
theorem c_score {post : Int32 → ZS → Prop} {exc : String → ZS → Prop} (hG : gG b d n m cs cd ow) (hC : gC u b d n m cs cd ow r) (h0 : phs b cs n m = 3 → post (gS (fI u 1) d n m cs cd) u) (h1 : phs b cs n m ≠ 3 → exc "java/lang/IllegalStateException" u) : w_x_score u post exc := by
  unfold w_x_score
  refine c_ph hG hC ?_
  rw [i3_3, ph_eq (by omega)]
  exact ⟨fun hx => c_sos hG hC (h0 hx), fun hx => h1 hx⟩
theorem m_score {post : Int32 → ZS → Prop} (hG : gG b d n m cs cd ow) (hM : gM v b d n m cs cd ow r) (h0 : phs b cs n m = 3 → ∀ v', fx [0, 6, 7, 8, 9] [] [3, 4, 5] [] v v' → gM v' b d n m cs cd ow r → fI v' 0 = i3 0 → post (gS (fI v 3) d n m cs cd) v') (h1 : phs b cs n m ≠ 3 → ∀ v', fx [0, 6, 7, 8, 9] [] [3, 4, 5] [] v v' → gM v' b d n m cs cd ow r → fI v' 0 = i3 1 → post 0 v') : w_m_score v post := by
  unfold w_m_score
  refine m_pn hG hM (fun v2 hx2 hM2 hR2 => ?_)
  have hx02 : fx [0, 6, 7, 8, 9] [] [3, 4, 5] [] v v2 := fx_mo hx2 (by decide) (by decide) (by decide) (by decide)
  rw [i3_3, ph_eq (by omega)]
  unfold b_m_score_14 b_m_score_32
  rw [f1, f1]
  refine ⟨fun hx => ⟨fun hy => absurd hy (by decide), fun _ => h1 hx _ (fx_sI hx02 (by decide)) (gM_sI0 hM2) f1⟩, fun hx => ⟨fun _ => ?_, fun hy => absurd (by decide) hy⟩⟩
  obtain ⟨p1, -⟩ := ph3 hG hx
  refine m_sn hG (gM_sI0 hM2) (qmR_sI0 (hR2 p1)) (fun v4 hx4 hM4 => ?_)
  have h' := h0 hx v4 (fx_tr (fx_sI hx02 (by decide)) (fx_mo hx4 (by decide) (by decide) (by decide) (by decide))) hM4 (by rw [hx4.1 0 (by decide), f1]; rfl)
  rw [f2 (by decide), hx2.1 3 (by decide)]
  exact h'
/-! record -/
theorem c_record {post : Int32 → ZS → Prop} {exc : String → ZS → Prop} (hG : gG b d n m cs cd ow) (hC : gC u b d n m cs cd ow r) (hr : r ≤ 12)
    (h0 : phs b cs n m = 3 → r < 12 → ∀ u', gC u' b d n m cs cd ow (r + 1) → fI u' 1 = fI u 1 → fJ u' 0 = fJ u 0 → (∀ i, i ≠ r → aI u' 8 i = aI u 8 i ∧ aJ u' 0 i = aJ u 0 i) → aI u' 8 r = gS (fI u 1) d n m cs cd → aJ u' 0 r = fJ u 0 → post (i3 (r + 1)) u')
    (h1 : phs b cs n m ≠ 3 → exc "java/lang/IllegalStateException" u) (h2 : phs b cs n m = 3 → r = 12 → exc "java/lang/UnsupportedOperationException" u) : w_x_record u post exc := by
  unfold w_x_record
  refine c_ph hG hC ?_
  have c6 := hC.2.2.2.2.2
  unfold w_re_areFull b_re_areFull_14
  rw [i3_3, ph_eq (by omega)]
  refine ⟨fun hx => ?_, fun hx => h1 hx⟩
  rw [c6, i3_12, i3_eq (by omega) (by omega)]
  refine ⟨fun hr12 => ⟨Or.inl rfl, fun _ => ?_, fun hy => absurd rfl hy⟩, fun hr12 => ⟨Or.inr rfl, fun hy => absurd hy (by decide), fun _ => h2 hx hr12⟩⟩
  refine c_sos hG hC ?_
  unfold w_re_add b_re_add_39
  simp only [f1, f4, f5, c6]
  rw [i3_12, i3_le (by omega) (by omega), i3_in (by omega), i3_nat (by omega), i3_1, i3_add]
  refine ⟨fun hy => by omega, fun _ => ⟨by omega, by omega, ?_⟩⟩
  obtain ⟨c1, c2, c3, c4, c5, -⟩ := hC
  have hx' : fx [6] [] [8] [0] u (sI (pI (pJ u 0 r (fJ u 0)) 8 r (gS (fI u 1) d n m cs cd)) 6 (i3 (r + 1))) := fx_sI (fx_pI (fx_pJ fx_rf (by decide)) (by decide)) (by decide)
  refine h0 hx (by omega) _ ⟨by rw [hx'.1 0 (by decide)]; exact c1, cA_fx hx' (by decide) (by decide) (by decide) c2, cH_fx hx' (by decide) (by decide) (by decide) c3, fun q1 q2 => cL_fx hx' (by decide) (by decide) (c4 q1 q2), fun q1 => cC_fx hx' (by decide) (c5 q1), f1⟩ (hx'.1 1 (by decide)) (hx'.2.1 0 (by decide)) (fun i hi => ⟨?_, ?_⟩) ?_ ?_
  · rw [a3, a1, a5, up2 hi]
  · rw [zh3, zh5, zh1, ul2 hi]
  · rw [a3, a1, up1]
  · rw [zh3, zh5, zh1, ul1]
theorem m_record {post : Int32 → ZS → Prop} (hG : gG b d n m cs cd ow) (hM : gM v b d n m cs cd ow r) (hr : r ≤ 12)
    (h0 : phs b cs n m = 3 → r < 12 → ∀ v', gM v' b d n m cs cd ow (r + 1) → fI v' 0 = i3 0 → fI v' 3 = fI v 3 → fJ v' 0 = fJ v 0 → (∀ i, i ≠ r → aI v' 10 i = aI v 10 i ∧ aJ v' 1 i = aJ v 1 i) → aI v' 10 r = gS (fI v 3) d n m cs cd → aJ v' 1 r = fJ v 0 → post (i3 (r + 1)) v')
    (h1 : phs b cs n m ≠ 3 → ∀ v', fx [0, 6, 7, 8, 9] [] [3, 4, 5] [] v v' → gM v' b d n m cs cd ow r → fI v' 0 = i3 1 → post 0 v') (h2 : phs b cs n m = 3 → r = 12 → ∀ v', fx [0, 6, 7, 8, 9] [] [3, 4, 5] [] v v' → gM v' b d n m cs cd ow r → fI v' 0 = i3 2 → post 0 v') : w_m_record v post := by
  unfold w_m_record
  refine m_pn hG hM (fun v2 hx2 hM2 hR2 => ?_)
  have hx02 : fx [0, 6, 7, 8, 9] [] [3, 4, 5] [] v v2 := fx_mo hx2 (by decide) (by decide) (by decide) (by decide)
  have m8 := hM2.2.2.2.2.2.2.2.1
  rw [i3_3, ph_eq (by omega)]
  refine ⟨fun hx => ?_, fun hx => ?_⟩
  · rw [m8, i3_12, i3_eq (by omega) (by omega)]
    refine ⟨fun hr12 => ?_, fun hr12 => ?_⟩
    · unfold b_m_record_27
      rw [f1]
      refine ⟨fun _ => ?_, fun hy => absurd (by decide) hy⟩
      obtain ⟨p1, -⟩ := ph3 hG hx
      refine m_sn hG (gM_sI0 hM2) (qmR_sI0 (hR2 p1)) (fun v4 hx4 hM4 => ?_)
      obtain ⟨m1, m2, m3, m4, m5, m6, m7, m8', m9⟩ := hM4
      have e3 : fI (sI v2 0 0) 3 = fI v 3 := by rw [f2 (by decide), hx2.1 3 (by decide)]
      have e10 : fI (sI v2 0 0) 10 = i3 r := by rw [f2 (by decide)]; exact m8
      have eJ : fJ v4 0 = fJ v 0 := by rw [hx4.2.1 0 (by decide), g3, hx2.2.1 0 (by decide)]
      simp only [e3, e10, f1, f4, f5, g4, m8', eJ]
      rw [i3_in (by omega), i3_nat (by omega), i3_1, i3_add]
      refine ⟨by omega, by omega, ?_⟩
      have hx' : fx [10] [] [10] [1] v4 (sI (pJ (pI v4 10 r (gS (fI v 3) d n m cs cd)) 1 r (fJ v 0)) 10 (i3 (r + 1))) := fx_sI (fx_pJ (fx_pI fx_rf (by decide)) (by decide)) (by decide)
      refine h0 hx (by omega) _ ⟨by rw [hx'.1 1 (by decide)]; exact m1, qmA_fx hx' (by decide) (by decide) (by decide) m2, by rw [hx'.1 5 (by decide)]; exact m3, by rw [hx'.2.2.1 2 (by decide)]; exact m4, by rw [hx'.2.2.1 0 (by decide)]; exact m5, by rw [hx'.2.2.1 5 (by decide)]; exact m6, qmW_fx hx' (by decide) m7, f1, fun hm => ?_⟩ ?_ ?_ ?_ (fun i hi => ⟨?_, ?_⟩) ?_ ?_
      · have hT := m9 hm
        exact ⟨by rw [hx'.1 6 (by decide)]; exact hT.1, by rw [hx'.1 8 (by decide)]; exact hT.2.1, hT.2.2⟩
      · rw [hx'.1 0 (by decide), hx4.1 0 (by decide), f1]; rfl
      · rw [hx'.1 3 (by decide), hx4.1 3 (by decide)]; exact e3
      · rw [hx'.2.1 0 (by decide)]; exact eJ
      · rw [a3, a5, a1, up2 hi, hx4.2.2.1 10 (by decide), a3, hx2.2.2.1 10 (by decide)]
      · rw [zh3, zh1, zh5, ul2 hi, hx4.2.2.2 1 (by decide), zh3, hx2.2.2.2 1 (by decide)]
      · rw [a3, a5, a1, up1]
      · rw [zh3, zh1, ul1]
    · unfold b_m_record_27
      rw [f1]
      exact ⟨fun hy => absurd hy (by decide), fun _ => h2 hx hr12 _ (fx_sI hx02 (by decide)) (gM_sI0 hM2) f1⟩
  · unfold b_m_record_27
    rw [f1]
    exact ⟨fun hy => absurd hy (by decide), fun _ => h1 hx _ (fx_sI hx02 (by decide)) (gM_sI0 hM2) f1⟩
/-! points and places -/
theorem s_cont {post : Int32 → ZS → Prop} {v1 : Int32} (hr : r ≤ 12) (h6 : fI u 6 = i3 r) (h0 : (v1 < 0 ∨ i3 r ≤ v1) → post 0 u) (h1 : ∀ i, i < r → v1 = i3 i → post 1 u) : w_re_contain v1 u post := by
  unfold w_re_contain b_re_contain_16 b_re_contain_17
  rw [h6]
  refine ⟨fun hx => ⟨Or.inl rfl, h0 (Or.inl hx)⟩, fun hx => ⟨fun hy => ⟨Or.inl rfl, h0 (Or.inr hy)⟩, fun hy => ⟨Or.inr rfl, ?_⟩⟩⟩
  obtain ⟨q, hq, rfl⟩ := i3_ex hx
  rw [i3_le (by omega) (by omega)] at hy
  exact h1 q (by omega) rfl
theorem s_isr {post : Int32 → ZS → Prop} {v1 : Int32} (hr : r ≤ 12) (h6 : fI u 10 = i3 r) (h0 : (v1 < 0 ∨ i3 r ≤ v1) → post 0 u) (h1 : ∀ i, i < r → v1 = i3 i → post 1 u) : w_m_isResult v1 u post := by
  unfold w_m_isResult b_m_isResult_16 b_m_isResult_17
  rw [h6]
  refine ⟨fun hx => ⟨Or.inl rfl, h0 (Or.inl hx)⟩, fun hx => ⟨fun hy => ⟨Or.inl rfl, h0 (Or.inr hy)⟩, fun hy => ⟨Or.inr rfl, ?_⟩⟩⟩
  obtain ⟨q, hq, rfl⟩ := i3_ex hx
  rw [i3_le (by omega) (by omega)] at hy
  exact h1 q (by omega) rfl
theorem c_points {post : Int32 → ZS → Prop} {exc : String → ZS → Prop} {v1 v2 : Int32} (hC : gC u b d n m cs cd ow r) (hr : r ≤ 12) (h0 : ∀ i j, i < r → j < r → v1 = i3 i → v2 = i3 j → post (sc_Q (aI u 8 i - aI u 8 j)) u) (h1 : (¬ ∃ i j, i < r ∧ j < r ∧ v1 = i3 i ∧ v2 = i3 j) → exc "java/lang/IndexOutOfBoundsException" u) : w_x_points v1 v2 u post exc := by
  have c6 := hC.2.2.2.2.2
  unfold w_x_points b_x_points_22
  refine s_cont hr c6 (fun ho => ⟨fun _ => h1 ?_, fun hx => absurd rfl hx⟩) (fun i hi e => ⟨fun hx => absurd hx (by decide), fun _ => s_cont hr c6 (fun ho => ⟨fun hx => absurd rfl hx, fun _ => h1 ?_⟩) (fun j hj e2 => ⟨fun _ => ?_, fun hx => absurd hx (by decide)⟩)⟩)
  · rintro ⟨i, j, hi, hj, e1, e2⟩; exact out_rng (by omega) hi ho e1
  · rintro ⟨i, j, hi, hj, e1, e2⟩; exact out_rng (by omega) hj ho e2
  · subst e; subst e2
    rw [i3_in (by omega), i3_in (by omega), i3_nat (by omega), i3_nat (by omega)]
    exact ⟨by omega, by omega, s_points (h0 i j hi hj rfl rfl)⟩
theorem m_points {post : Int32 → ZS → Prop} {v1 v2 : Int32} (hM : gM v b d n m cs cd ow r) (hr : r ≤ 12) (h0 : ∀ i j, i < r → j < r → v1 = i3 i → v2 = i3 j → post (sc_Q (aI v 10 i - aI v 10 j)) (sI v 0 (i3 0))) (h1 : (¬ ∃ i j, i < r ∧ j < r ∧ v1 = i3 i ∧ v2 = i3 j) → post 0 (sI v 0 (i3 1))) : w_m_points v1 v2 v post := by
  have m8 := hM.2.2.2.2.2.2.2.1
  have bad : (¬ ∃ i j, i < r ∧ j < r ∧ v1 = i3 i ∧ v2 = i3 j) → b_m_points_21 post v1 v2 v := by
    intro hn
    unfold b_m_points_21 b_m_points_22
    rw [f1]
    exact ⟨fun hx => absurd hx (by decide), fun _ => h1 hn⟩
  unfold w_m_points
  refine s_isr hr m8 (fun ho => ⟨fun _ => bad ?_, fun hx => absurd rfl hx⟩) (fun i hi e => ⟨fun hx => absurd hx (by decide), fun _ => s_isr hr m8 (fun ho => ⟨fun _ => bad ?_, fun hx => absurd rfl hx⟩) (fun j hj e2 => ⟨fun hx => absurd hx (by decide), fun _ => ?_⟩)⟩)
  · rintro ⟨i, j, hi, hj, e1, e2⟩; exact out_rng (by omega) hi ho e1
  · rintro ⟨i, j, hi, hj, e1, e2⟩; exact out_rng (by omega) hj ho e2
  · subst e; subst e2
    have h' := h0 i j hi hj rfl rfl
    unfold b_m_points_22 b_m_points_58
    rw [f1, i3_in (by omega), i3_in (by omega), i3_nat (by omega), i3_nat (by omega), a3]
    refine ⟨fun _ => ⟨by omega, by omega, fun hx => ?_, fun hx => ?_⟩, fun hx => absurd (by decide) hx⟩
    · have hh := s_mpoints (u := sI v 0 0) (post := post) h'
      rw [if_pos hx] at hh; exact hh
    · have hh := s_mpoints (u := sI v 0 0) (post := post) h'
      rw [if_neg hx] at hh; exact hh
theorem c_places {post : Int32 → ZS → Prop} {exc : String → ZS → Prop} {v1 : Int32} (hC : gC u b d n m cs cd ow r) (hr : r ≤ 12) (h0 : ∀ i, i < r → v1 = i3 i → post (rs_sm (aJ u 0) (aI u 8) i r) u) (h1 : (v1 < 0 ∨ i3 r ≤ v1) → exc "java/lang/IndexOutOfBoundsException" u) : w_x_places v1 u post exc := by
  have c6 := hC.2.2.2.2.2
  unfold w_x_places
  refine s_cont hr c6 (fun ho => ⟨fun hx => absurd rfl hx, fun _ => h1 ho⟩) (fun i hi e => ⟨fun _ => ?_, fun hx => absurd hx (by decide)⟩)
  subst e
  exact s_cmp c6 hr hi (h0 i hi rfl)
theorem m_places {post : Int32 → ZS → Prop} {v1 : Int32} (hM : gM v b d n m cs cd ow r) (hr : r ≤ 12) (h0 : ∀ i, i < r → v1 = i3 i → post (rs_sm (aJ v 1) (aI v 10) i r) (sI v 0 (i3 0))) (h1 : (v1 < 0 ∨ i3 r ≤ v1) → post 0 (sI v 0 (i3 1))) : w_m_places v1 v post := by
  have m8 := hM.2.2.2.2.2.2.2.1
  unfold w_m_places b_m_places_14
  have bad : (v1 < 0 ∨ i3 r ≤ v1) → ∀ f, b_m_places_21 post (f + 1) v1 0 0 (sI v 0 1) := by
    intro ho f
    unfold b_m_places_21 b_m_places_107
    exact ⟨fun _ => h1 ho, fun _ => ⟨fun _ => h1 ho, fun hx => absurd hx (by rw [f1]; decide)⟩⟩
  refine s_isr hr m8 (fun ho => ⟨fun _ => ⟨1, bad ho 0⟩, fun hx => absurd rfl hx⟩) (fun i hi e => ⟨fun hx => absurd hx (by decide), fun _ => ?_⟩)
  · subst e
    exact s_mcmp (u := sI v 0 0) (by rw [f2 (by decide)]; exact m8) (by rw [f1]; rfl) hr hi (h0 i hi rfl)
/-! solve -/
def qh (ow cd : Nat → Nat) (m p : Nat) : Nat → Nat
  | 0 => 0
  | c + 1 => qh ow cd m p c + (if ow c = p ∧ (∀ i, i < m → cd i ≠ c) then 1 else 0)
theorem qh_s (ow cd : Nat → Nat) (m p c : Nat) : qh ow cd m p (c + 1) = qh ow cd m p c + (if ow c = p ∧ (∀ i, i < m → cd i ≠ c) then 1 else 0) := rfl
theorem qh_le {p : Nat} : ∀ N, qh ow cd m p N ≤ pl_cn ow p N
  | 0 => Nat.le_refl _
  | N + 1 => by
    have ih := qh_le (p := p) N
    rw [qh_s, pl_cn_s]
    by_cases h : ow N = p
    · rw [if_pos h]; split <;> omega
    · rw [if_neg (fun hh => h hh.1)]; omega
theorem qh_eq {p : Nat} (h : ∀ i, i < m → ow (cd i) ≠ p) : ∀ N, qh ow cd m p N = pl_cn ow p N
  | 0 => rfl
  | N + 1 => by
    have ih := qh_eq (p := p) h N
    rw [qh_s, pl_cn_s, ih]
    by_cases h1 : ow N = p
    · rw [if_pos h1, if_pos ⟨h1, fun i hi e => h i hi (by rw [e]; exact h1)⟩]
    · rw [if_neg h1, if_neg (fun hh => h1 hh.1)]
theorem qh_lt {p c : Nat} (ho : ow c = p) (hi : ∃ i, i < m ∧ cd i = c) : ∀ N, c < N → qh ow cd m p N < pl_cn ow p N
  | 0, h => by omega
  | N + 1, h => by
    rw [qh_s, pl_cn_s]
    by_cases e : c = N
    · subst e
      obtain ⟨i, hi, e⟩ := hi
      have := qh_le (ow := ow) (cd := cd) (m := m) (p := p) c
      rw [if_pos ho, if_neg (fun hh => hh.2 i hi e)]; omega
    · have ih := qh_lt ho hi N (by omega)
      by_cases h : ow N = p
      · rw [if_pos h]; split <;> omega
      · rw [if_neg h, if_neg (fun hh => h hh.1)]; omega
theorem qh_five {t l0 : Nat} (hD : pl_D ow) (hV : pl_V ow t l0 cd m) (hm : m < 20) : (∃ q, q < 4 ∧ qh ow cd m q 20 = 5) ↔ m < 4 := by
  constructor
  · rintro ⟨q, hq, e⟩
    apply Classical.byContradiction
    intro hm4
    have hi : ∃ i, i < 4 ∧ pl_tn t l0 cd i = q := by
      refine ⟨(q + 4 - pl_ld t l0 cd 0 % 4) % 4, by omega, ?_⟩
      unfold pl_tn
      have e1 : (q + 4 - pl_ld t l0 cd 0 % 4) % 4 / 4 = 0 := by omega
      rw [e1]; omega
    obtain ⟨i, hi4, hi⟩ := hi
    have hl := hV i (by omega)
    have ho : ow (cd i) = q := by rw [← hi]; exact hl.2.1
    have := qh_lt (ow := ow) (cd := cd) (m := m) ho ⟨i, by omega, rfl⟩ 20 hl.1
    have := hD.2 q hq
    omega
  · intro hm4
    refine ⟨pl_tn t l0 cd m, pl_tn_lt, ?_⟩
    rw [qh_eq (fun i hi => ?_), hD.2 _ pl_tn_lt]
    have hl := hV i hi
    rw [hl.2.1]
    unfold pl_tn
    have e1 : i / 4 = 0 := by omega
    have e2 : m / 4 = 0 := by omega
    rw [e1, e2]; omega
theorem s_cin {r32 : Int32 → Int32 → ZS → Prop} {post : Int32 → ZS → Prop} (hO : ∀ c, c < 20 → aI v 0 c = i3 (ow c)) (h4 : ∀ c, c < 20 → ow c < 4) (hm20 : m ≤ 20) (hm : fI v 5 = i3 m) (hg : ∀ c, bt (aI v 5 m) c = true ↔ ∃ i, i < m ∧ cd i = c) {p best : Nat} (hp : p < 4) (hb : best ≤ 5) (hq : ∀ c, c ≤ 20 → qh ow cd m p c ≤ 20) (h : r32 (i3 (if qh ow cd m p 20 ≤ best then best else qh ow cd m p 20)) (i3 (p + 1)) v) : ∀ f c : Nat, f + c = 20 → b_m_solve_42 r32 post (f + 1) (i3 best) (i3 p) (i3 (qh ow cd m p c)) (i3 c) v := by
  intro f
  induction f with
  | zero =>
    intro c hc
    have e : c = 20 := by omega
    subst e
    have := hq 20 (by omega)
    unfold b_m_solve_42 b_m_solve_87
    rw [i3_20, i3_le (by omega) (by omega), i3_le (by omega) (by omega), i3_1, i3_add]
    refine ⟨fun _ => ⟨fun hx => ?_, fun hx => ?_⟩, fun hx => by omega⟩
    · rw [if_pos hx] at h; exact h
    · rw [if_neg hx] at h; exact h
  | succ f ih =>
    intro c hc
    have hqc := hq c (by omega)
    unfold b_m_solve_42 b_m_solve_70
    rw [i3_20, i3_le (by omega) (by omega)]
    refine ⟨fun hx => by omega, fun _ => ?_⟩
    rw [hm]
    have ih' := ih (c + 1) (by omega)
    rw [qh_s] at ih'
    refine s_mholds (cd := cd) (ow := ow) hO h4 hm20 hg hp (by omega) (fun hh => ⟨fun hx => absurd hx (by decide), fun _ => ?_⟩) (fun hh => ⟨fun _ => ?_, fun hx => absurd rfl hx⟩)
    · rw [if_pos hh] at ih'
      rw [i3_1, i3_add, i3_add]; exact ih'
    · rw [if_neg hh] at ih'
      rw [i3_1, i3_add]; exact ih'
theorem s_cout {post : Int32 → ZS → Prop} (hO : ∀ c, c < 20 → aI v 0 c = i3 (ow c)) (hD : pl_D ow) (hm20 : m ≤ 20) (hm : fI v 5 = i3 m) (hg : ∀ c, bt (aI v 5 m) c = true ↔ ∃ i, i < m ∧ cd i = c) (hy : (∃ q, q < 4 ∧ qh ow cd m q 20 = 5) → b_m_solve_105 post 2 v) (hn : (¬ ∃ q, q < 4 ∧ qh ow cd m q 20 = 5) → b_m_solve_105 post 0 v) : ∀ f p best : Nat, f + p = 4 → best ≤ 5 → (best = 5 ↔ ∃ q, q < p ∧ qh ow cd m q 20 = 5) → b_m_solve_32 post (f + 1) (i3 best) (i3 p) v := by
  intro f
  induction f with
  | zero =>
    intro p best hp hb hi
    have e : p = 4 := by omega
    subst e
    unfold b_m_solve_32
    rw [i3_4, i3_5, i3_le (by omega) (by omega), i3_eq (by omega) (by omega)]
    exact ⟨fun _ => ⟨fun hx => hn (fun hh => hx (hi.mpr hh)), fun hx => hy (hi.mp hx)⟩, fun hx => by omega⟩
  | succ f ih =>
    intro p best hp hb hi
    unfold b_m_solve_32
    rw [i3_4, i3_le (by omega) (by omega)]
    refine ⟨fun hx => by omega, fun _ => ⟨21, ?_⟩⟩
    have h5 : qh ow cd m p 20 ≤ 5 := by
      have := qh_le (ow := ow) (cd := cd) (m := m) (p := p) 20
      have := hD.2 p (by omega)
      omega
    have hq : ∀ c, c ≤ 20 → qh ow cd m p c ≤ 20 := by
      intro c hc
      have := qh_le (ow := ow) (cd := cd) (m := m) (p := p) c
      have := pl_cn_mono ow p hc
      have := hD.2 p (by omega)
      omega
    refine s_cin hO hD.1 hm20 hm hg (by omega) hb hq (ih (p + 1) _ (by omega) (by split <;> omega) ?_) 20 0 rfl
    constructor
    · intro e
      split at e
      · obtain ⟨q, hq, e⟩ := hi.mp e
        exact ⟨q, by omega, e⟩
      · exact ⟨p, by omega, e⟩
    · rintro ⟨q, hq, e⟩
      by_cases hqp : q = p
      · subst hqp
        split <;> omega
      · have := hi.mpr ⟨q, by omega, e⟩
        split <;> omega
theorem c_solve {post : Int32 → ZS → Prop} {exc : String → ZS → Prop} (hG : gG b d n m cs cd ow) (hC : gC u b d n m cs cd ow r)
    (h0 : phs b cs n m = 2 → 4 ≤ m → ∀ (w : Nat) (u' : ZS), fx [4] [] [4, 6, 7] [] u u' → gC u' b d n m cs cd ow r → pl_A ow (gt cs n) (gl d cs n) (au_dc d cs n % 2) (w : Int) (20 - m) cd m → ¬ pl_A ow (gt cs n) (gl d cs n) (au_dc d cs n % 2) ((w : Int) + 1) (20 - m) cd m → post (i3 w) u')
    (h1 : phs b cs n m ≠ 2 → exc "java/lang/IllegalStateException" u) (h2 : phs b cs n m = 2 → m < 4 → exc "java/lang/UnsupportedOperationException" u) : w_x_solve u post exc := by
  have hm20 := hG.2.2.2.2.2.2
  unfold w_x_solve
  refine c_ph hG hC ?_
  rw [i3_2, ph_eq (by omega), hC.2.2.1.1, i3_4, i3_le (by omega) (by omega)]
  refine ⟨fun hx => ⟨fun h4 => ?_, fun h4 => h2 hx (by omega)⟩, fun hx => h1 hx⟩
  obtain ⟨p1, p2, p3, p4⟩ := ph2 hG hx
  refine s_dec hC.2.1 (fun hz => by omega) (fun _ => ?_)
  unfold w_x_sideOf
  dsimp only
  have e1 : i3 (au_dc d cs n) &&& 1 = i3 (au_dc d cs n % 2) := i3_a1
  rw [e1]
  obtain ⟨c1, c2, c3, c4, c5, c6⟩ := hC
  refine s_tricksOf p1 (hG.2.2.1 p1) (by omega) hG.2.2.2.2.2.1 c3 (c4 p2 p3) (c5 p1) (fun w u' hH' hL' hx' hA hA' => h0 hx h4 w u' hx' ⟨?_, cA_fx hx' (by decide) (by decide) (by decide) c2, hH', fun _ _ => hL', fun hb => cC_fx hx' (by decide) (c5 hb), ?_⟩ hA hA')
  · rw [hx'.1 0 (by decide)]; exact c1
  · rw [hx'.1 6 (by decide)]; exact c6
theorem gM_fr {v' : ZS} (hq : qfr m v v') (hM : gM v b d n m cs cd ow r) : gM v' b d n m cs cd ow r := by
  obtain ⟨m1, m2, m3, m4, m5, m6, m7, m8, m9⟩ := hM
  obtain ⟨hx, h1, h2⟩ := hq
  refine ⟨by rw [hx.1 1 (by decide)]; exact m1, qmA_fx hx (by decide) (by decide) (by decide) m2, by rw [hx.1 5 (by decide)]; exact m3, fun i hi => ?_, by rw [hx.2.2.1 0 (by decide)]; exact m5, ?_, qmW_fx hx (by decide) m7, by rw [hx.1 10 (by decide)]; exact m8, fun hm => ?_⟩
  · rw [h1 2 (by decide) i hi]; exact m4 i hi
  · rw [h2 5 (by decide) 0 (by omega)]; exact m6
  · have hT := m9 hm
    exact ⟨by rw [hx.1 6 (by decide)]; exact hT.1, by rw [hx.1 8 (by decide)]; exact hT.2.1, hT.2.2⟩
theorem m_solve {post : Int32 → ZS → Prop} (hG : gG b d n m cs cd ow) (hM : gM v b d n m cs cd ow r)
    (h0 : phs b cs n m = 2 → 4 ≤ m → ∀ (v' : ZS) (x : Int32), fx [0, 6, 7, 8, 9] [] [2, 3, 4, 5, 6, 7, 8, 9] [] v v' → gM v' b d n m cs cd ow r → fI v' 0 = i3 0 → qR ow (gt cs n) (gl d cs n) (au_dc d cs n % 2) cd m (-1) 6 x.toInt → post x v')
    (h1 : phs b cs n m ≠ 2 → ∀ v', fx [0, 6, 7, 8, 9] [] [2, 3, 4, 5, 6, 7, 8, 9] [] v v' → gM v' b d n m cs cd ow r → fI v' 0 = i3 1 → post 0 v') (h2 : phs b cs n m = 2 → m < 4 → ∀ v', fx [0, 6, 7, 8, 9] [] [2, 3, 4, 5, 6, 7, 8, 9] [] v v' → gM v' b d n m cs cd ow r → fI v' 0 = i3 2 → post 0 v') : w_m_solve v post := by
  have hm20 := hG.2.2.2.2.2.2
  unfold w_m_solve
  refine m_pn hG hM (fun v2 hx2 hM2 hR2 => ?_)
  have hx02 : fx [0, 6, 7, 8, 9] [] [2, 3, 4, 5, 6, 7, 8, 9] [] v v2 := fx_mo hx2 (by decide) (by decide) (by decide) (by decide)
  rw [i3_2, ph_eq (by omega)]
  unfold b_m_solve_14
  refine ⟨fun hx => m_rd hG (gM_sI0 hM2) (fun v4 hx4 hM4 _ _ => ?_), fun hx => ?_⟩
  · have e0 : fI v4 0 = i3 1 := by rw [hx4.1 0 (by decide), f1]; rfl
    have hx04 := fx_tr (fx_sI hx02 (by decide)) (fx_mo hx4 (by decide) (by decide) (by decide) (by decide))
    unfold b_m_solve_108
    rw [e0]
    exact ⟨fun _ => ⟨fun hy => absurd hy (by decide), fun _ => h1 hx v4 hx04 hM4 e0⟩, fun hy => absurd hy (by decide)⟩
  · obtain ⟨p1, p2, p3, p4⟩ := ph2 hG hx
    have hT2 := qmT_sI0 (x := 0) (qmT_of hG (hR2 p1) p3)
    refine m_rd hG (gM_sI0 hM2) (fun v4 hx4 hM4 hP4 hg4 => ?_)
    have hP := hP4 hT2
    have e0 : fI v4 0 = i3 0 := by rw [hx4.1 0 (by decide), f1]; rfl
    have hx04 : fx [0, 6, 7, 8, 9] [] [2, 3, 4, 5, 6, 7, 8, 9] [] v v4 := fx_tr (fx_sI hx02 (by decide)) (fx_mo hx4 (by decide) (by decide) (by decide) (by decide))
    have hT4 : qmT v4 (au_bid cs n) (au_dc d cs n) := ⟨by rw [hx4.1 6 (by decide)]; exact hT2.1, by rw [hx4.1 8 (by decide)]; exact hT2.2.1, hT2.2.2⟩
    have hD := hG.2.2.1 p1
    have hO := hM4.2.2.2.2.1 p1
    rw [e0]
    refine ⟨fun hy => absurd rfl hy, fun _ => ⟨5, ?_⟩⟩
    refine s_cout (cd := cd) (m := m) hO hD hm20 hM4.2.2.1 hg4 (fun h5 => ?_) (fun h5 => ?_) 4 0 0 rfl (by omega) ⟨fun hh => by omega, fun ⟨q, hq, _⟩ => by omega⟩
    · have hm4 := (qh_five hD hG.2.2.2.2.2.1 p4).mp h5
      unfold b_m_solve_105 b_m_solve_108
      rw [f1]
      exact ⟨fun hy => absurd hy (by decide), fun _ => h2 hx hm4 _ (fx_sI hx04 (by decide)) (gM_sI0 hM4) f1⟩
    · have hm4 : 4 ≤ m := by
        apply Classical.byContradiction
        intro hh
        exact h5 ((qh_five hD hG.2.2.2.2.2.1 p4).mpr (by omega))
      unfold b_m_solve_105 b_m_solve_108
      rw [f1]
      refine ⟨fun _ => ?_, fun hy => absurd (by decide) hy⟩
      have e5 : fI (sI v4 0 0) 5 = i3 m := by rw [f2 (by decide)]; exact hM4.2.2.1
      rw [e5]
      refine s_solveFrom (bd := au_bid cs n) (dc := au_dc d cs n) (ow := ow) (t := gt cs n) (l0 := gl d cs n) (s := au_dc d cs n % 2) (cd := cd) rfl rfl gl_lt hD.1 p4 ⟨qmT_sI0 hT4, hO, qmP_fx (fi := [0]) (fj := []) (ai := []) (aj := []) (fx_sI fx_rf (by decide)) (by decide) (by decide) (by decide) (by decide) hP⟩ (fun v6 x hq hR => h0 hx hm4 v6 x ?_ (gM_fr hq (gM_sI0 hM4)) ?_ hR)
      · exact fx_tr (fx_sI hx04 (by decide)) (fx_mo hq.1 (by decide) (by decide) (by decide) (by decide))
      · rw [hq.1.1 0 (by decide), f1]; rfl
/-- both find the same number of tricks -/
theorem sv_eq {t l0 s w : Nat} {x : Int32} (hD : pl_D ow) (hV : pl_V ow t l0 cd m) (hm : m ≤ 20) (hA : pl_A ow t l0 s (w : Int) (20 - m) cd m) (hA' : ¬ pl_A ow t l0 s ((w : Int) + 1) (20 - m) cd m) (hR : qR ow t l0 s cd m (-1) 6 x.toInt) : x = i3 w := by
  have hle := pl_wn_le (t := t) (l0 := l0) (s := s) (cd := cd) (m / 4)
  have hub := pl_A_ub hD (by omega) hV hA
  have hw : w ≤ 5 := by omega
  have key : x.toInt = (w : Int) := by
    apply Classical.byContradiction
    intro hne
    by_cases hlt : x.toInt < (w : Int)
    · exact hR.1 (by omega) (pl_A_mono (by omega) hA)
    · exact hA' (pl_A_mono (by omega) (hR.2 (by omega)))
  rw [← Int32.toInt_inj, i3_z (by omega)]
  exact key
theorem rs_sm_congr {f f' : Nat → Int64} {g g' : Nat → Int32} {i k : Nat} (hi : i < k) (h : ∀ j, j < k → f j = f' j ∧ g j = g' j) : rs_sm f g i k = rs_sm f' g' i k := by
  have gen : ∀ j, j ≤ k → rs_sm f g i j = rs_sm f' g' i j := by
    intro j
    induction j with
    | zero => intro _; rfl
    | succ j ih =>
      intro hj
      unfold rs_sm
      rw [ih (by omega), (h j (by omega)).1, (h j (by omega)).2, (h i hi).1, (h i hi).2]
  exact gen k (Nat.le_refl _)
end Cm3
