/-! number, play, back, contract, tricks, table, score, record, points, places -/
section Cm2
variable {u v : ZS} {b d n m r : Nat} {cs cd ow : Nat → Nat}
theorem qmT_sI0 {x : Int32} {bd dc : Nat} (h : qmT v bd dc) : qmT (sI v 0 x) bd dc := ⟨by rw [f2 (by decide)]; exact h.1, by rw [f2 (by decide)]; exact h.2.1, h.2.2⟩
theorem qmR_sI0 {x : Int32} (h : qmR v n d cs) : qmR (sI v 0 x) n d cs := ⟨by rw [f2 (by decide)]; exact h.1, by rw [f2 (by decide)]; exact h.2.1, fun h3 => by rw [f2 (by decide)]; exact h.2.2.1 h3, by rw [f2 (by decide)]; exact h.2.2.2⟩
theorem gl_lt : gl d cs n < 4 := by unfold gl; omega
theorem c_num {post : Int64 → ZS → Prop} (hG : gG b d n m cs cd ow) (hC : gC u b d n m cs cd ow r) (h : post (if b = 0 then -1 else fJ u 0) u) : w_x_number u post := by
  unfold w_x_number b_x_number_20
  rw [hC.1, i3_0, i3_eq (by have := hG.1; omega) (by omega)]
  exact ⟨fun h1 => by rw [if_pos h1] at h; exact h, fun h1 => by rw [if_neg h1] at h; exact h⟩
theorem m_num {post : Int64 → ZS → Prop} (hG : gG b d n m cs cd ow) (hM : gM v b d n m cs cd ow r) (h : post (if b = 0 then -1 else fJ v 0) (sI v 0 0)) : w_m_number v post := by
  unfold w_m_number b_m_number_22
  rw [f2 (by decide), hM.1, i3_0, i3_eq (by have := hG.1; omega) (by omega)]
  exact ⟨fun h1 => by rw [if_pos h1] at h; exact h, fun h1 => by rw [if_neg h1] at h; exact h⟩
/-! a card -/
def gP (v1 : Int32) (b d n m : Nat) (cs cd ow : Nat → Nat) (k m' : Nat) (cd' : Nat → Nat) : Prop :=
  (phs b cs n m ≠ 2 ∧ k = 1 ∧ m' = m ∧ cd' = cd) ∨ (phs b cs n m = 2 ∧ (¬ ∃ c, c < 20 ∧ v1 = i3 c ∧ ow c = pl_tn (gt cs n) (gl d cs n) cd m ∧ ∀ i, i < m → cd i ≠ c) ∧ k = 2 ∧ m' = m ∧ cd' = cd) ∨ (phs b cs n m = 2 ∧ (∃ c, c < 20 ∧ v1 = i3 c ∧ (ow c = pl_tn (gt cs n) (gl d cs n) cd m ∧ ∀ i, i < m → cd i ≠ c) ∧ ¬ pl_fo ow (gt cs n) (gl d cs n) cd m c) ∧ k = 3 ∧ m' = m ∧ cd' = cd) ∨ (phs b cs n m = 2 ∧ ∃ c, c < 20 ∧ v1 = i3 c ∧ pl_lg ow (gt cs n) (gl d cs n) cd m c ∧ k = 0 ∧ m' = m + 1 ∧ cd' = va_up cd m c)
theorem gP_ex (v1 : Int32) (b d n m : Nat) (cs cd ow : Nat → Nat) : ∃ k m' cd', gP v1 b d n m cs cd ow k m' cd' := by
  by_cases h1 : phs b cs n m = 2
  · by_cases h2 : ∃ c, c < 20 ∧ v1 = i3 c ∧ ow c = pl_tn (gt cs n) (gl d cs n) cd m ∧ ∀ i, i < m → cd i ≠ c
    · obtain ⟨c, hc, e, h3, h4⟩ := h2
      by_cases h5 : pl_fo ow (gt cs n) (gl d cs n) cd m c
      · exact ⟨0, m + 1, va_up cd m c, Or.inr (Or.inr (Or.inr ⟨h1, c, hc, e, (pl_lg_iff hc).mpr ⟨⟨h3, h4⟩, h5⟩, rfl, rfl, rfl⟩))⟩
      · exact ⟨3, m, cd, Or.inr (Or.inr (Or.inl ⟨h1, ⟨c, hc, e, ⟨h3, h4⟩, h5⟩, rfl, rfl, rfl⟩))⟩
    · exact ⟨2, m, cd, Or.inr (Or.inl ⟨h1, h2, rfl, rfl, rfl⟩)⟩
  · exact ⟨1, m, cd, Or.inl ⟨h1, rfl, rfl, rfl⟩⟩
theorem gP_le {v1 : Int32} {k m' : Nat} {cd' : Nat → Nat} (h : gP v1 b d n m cs cd ow k m' cd') : k ≤ 3 := by
  rcases h with h | h | h | ⟨-, c, h⟩ <;> omega
theorem gG_play {v1 : Int32} {k m' : Nat} {cd' : Nat → Nat} (hG : gG b d n m cs cd ow) (h : gP v1 b d n m cs cd ow k m' cd') : gG b d n m' cs cd' ow := by
  rcases h with ⟨-, -, rfl, rfl⟩ | ⟨-, -, -, rfl, rfl⟩ | ⟨-, -, -, rfl, rfl⟩ | ⟨h1, c, hc, -, hl, -, rfl, rfl⟩
  · exact hG
  · exact hG
  · exact hG
  · obtain ⟨p1, p2, p3, p4⟩ := ph2 hG h1
    obtain ⟨g1, g2, g3, g4, g5, g6, g7⟩ := hG
    exact ⟨g1, fun h => by omega, g3, g4, fun _ => ⟨p2, p3⟩, pl_V_next g6 hl, by omega⟩
theorem c_play {v1 : Int32} {k m' : Nat} {cd' : Nat → Nat} {post : ZS → Prop} {exc : String → ZS → Prop} (hG : gG b d n m cs cd ow) (hC : gC u b d n m cs cd ow r) (hK : gP v1 b d n m cs cd ow k m' cd')
    (h0 : k = 0 → ∀ u', fx [4] [] [4, 6, 7] [] u u' → gC u' b d n m' cs cd' ow r → post u') (h1 : k = 1 → gC u b d n m' cs cd' ow r → exc "java/lang/IllegalStateException" u) (h2 : k = 2 → gC u b d n m' cs cd' ow r → exc "java/util/NoSuchElementException" u) (h3 : k = 3 → gC u b d n m' cs cd' ow r → exc "java/lang/UnsupportedOperationException" u) : w_x_play v1 u post exc := by
  unfold w_x_play
  refine c_ph hG hC ?_
  rw [i3_2, ph_eq (by omega)]
  rcases hK with ⟨k1, k2, rfl, rfl⟩ | ⟨k1, k2, k3, rfl, rfl⟩ | ⟨k1, ⟨c, hc, rfl, hh, hno⟩, k3, rfl, rfl⟩ | ⟨k1, c, hc, rfl, hl, k3, rfl, rfl⟩
  · exact ⟨fun hx => absurd hx k1, fun _ => h1 k2 hC⟩
  · obtain ⟨p1, p2, p3, p4⟩ := ph2 hG k1
    refine ⟨fun _ => s_player hC.2.2.1 (hC.2.2.2.1 p2 p3) ?_, fun hx => absurd k1 hx⟩
    refine s_holds hC.2.2.1 pl_tn_lt (fun _ => ⟨fun hx => absurd rfl hx, fun _ => h2 k3 hC⟩) (fun c hc e => ⟨fun hb => ?_, fun _ => ⟨fun hx => absurd rfl hx, fun _ => h2 k3 hC⟩⟩)
    obtain ⟨x1, x2, x3, x4⟩ := (hC.2.2.1.2.2.2.2 _ pl_tn_lt c).mp hb
    exact absurd ⟨c, hc, e, x3, x4⟩ k2
  · obtain ⟨p1, p2, p3, p4⟩ := ph2 hG k1
    refine ⟨fun _ => s_player hC.2.2.1 (hC.2.2.2.1 p2 p3) ?_, fun hx => absurd k1 hx⟩
    refine s_holds hC.2.2.1 pl_tn_lt (fun ho => (out_rng (by omega) hc ho rfl).elim) (fun c' hc' e => ?_)
    rw [i3_eq (by omega) (by omega)] at e
    subst e
    have hbt := (hC.2.2.1.2.2.2.2 _ pl_tn_lt c).mpr ⟨hc, p1, hh.1, hh.2⟩
    exact ⟨fun _ => ⟨fun _ => s_allow p1 hC.2.2.1 (hC.2.2.2.1 p2 p3) hc (fun hl => absurd ((pl_lg_iff hc).mp hl).2 hno) (fun _ => ⟨fun hx => absurd rfl hx, fun _ => h3 k3 hC⟩), fun hx => absurd hx (by decide)⟩, fun hb => absurd hbt hb⟩
  · obtain ⟨p1, p2, p3, p4⟩ := ph2 hG k1
    have hh := ((pl_lg_iff hc).mp hl).1
    refine ⟨fun _ => s_player hC.2.2.1 (hC.2.2.2.1 p2 p3) ?_, fun hx => absurd k1 hx⟩
    refine s_holds hC.2.2.1 pl_tn_lt (fun ho => (out_rng (by omega) hc ho rfl).elim) (fun c' hc' e => ?_)
    rw [i3_eq (by omega) (by omega)] at e
    subst e
    have hbt := (hC.2.2.1.2.2.2.2 _ pl_tn_lt c).mpr ⟨hc, p1, hh.1, hh.2⟩
    refine ⟨fun _ => ⟨fun _ => s_allow p1 hC.2.2.1 (hC.2.2.2.1 p2 p3) hc (fun _ => ⟨fun _ => ?_, fun hx => absurd hx (by decide)⟩) (fun hn => absurd hl hn), fun hx => absurd hx (by decide)⟩, fun hb => absurd hbt hb⟩
    obtain ⟨c1, c2, c3, c4, c5, c6⟩ := hC
    refine s_put p1 (hG.2.2.1 p1).1 c3 (c4 p2 p3) hl p4 (fun u' hH' hL' hx => h0 k3 u' hx ⟨?_, cA_fx hx (by decide) (by decide) (by decide) c2, hH', fun _ _ => hL', fun hb => cC_fx hx (by decide) (c5 hb), ?_⟩)
    · rw [hx.1 0 (by decide)]; exact c1
    · rw [hx.1 6 (by decide)]; exact c6
theorem m_play {v1 : Int32} {k m' : Nat} {cd' : Nat → Nat} {post : ZS → Prop} (hG : gG b d n m cs cd ow) (hM : gM v b d n m cs cd ow r) (hK : gP v1 b d n m cs cd ow k m' cd')
    (h : ∀ v', fx [0, 5, 6, 7, 8, 9] [] [2, 3, 4, 5] [] v v' → gM v' b d n m' cs cd' ow r → fI v' 0 = i3 k → post v') : w_m_play v1 v post := by
  have hk3 := gP_le hK
  have hm20 := hG.2.2.2.2.2.2
  unfold w_m_play
  refine m_pn hG hM (fun v2 hx2 hM2 hR2 => ?_)
  have hx02 : fx [0, 5, 6, 7, 8, 9] [] [2, 3, 4, 5] [] v v2 := fx_mo hx2 (by decide) (by decide) (by decide) (by decide)
  rw [i3_2, ph_eq (by omega)]
  by_cases k1 : phs b cs n m = 2
  · refine ⟨fun hx => absurd k1 hx, fun _ => ?_⟩
    obtain ⟨p1, p2, p3, p4⟩ := ph2 hG k1
    unfold b_m_play_14
    rw [f1]
    refine ⟨fun _ => ?_, fun hx => absurd (by decide) hx⟩
    have hT2 := qmT_sI0 (x := 0) (qmT_of hG (hR2 p1) p3)
    refine m_rd hG (gM_sI0 hM2) (fun v4 hx4 hM4 hP4 hg4 => ?_)
    have hx04 : fx [0, 5, 6, 7, 8, 9] [] [2, 3, 4, 5] [] v v4 := fx_tr (fx_sI hx02 (by decide)) (fx_mo hx4 (by decide) (by decide) (by decide) (by decide))
    have hP := hP4 hT2
    have hT4 : qmT v4 (au_bid cs n) (au_dc d cs n) := ⟨by rw [hx4.1 6 (by decide)]; exact hT2.1, by rw [hx4.1 8 (by decide)]; exact hT2.2.1, hT2.2.2⟩
    have bad : ∀ q : Nat, q = k → k ≠ 0 → m' = m → cd' = cd → b_m_play_92 post v1 (i3 q) v4 := by
      intro q hq hk0 e1 e2
      subst e1; subst e2; subst hq
      unfold b_m_play_92 b_m_play_122
      rw [f1, i3_0, i3_eq (by omega) (by omega)]
      exact ⟨fun _ => h _ (fx_sI hx04 (by decide)) (gM_sI0 hM4) f1, fun hx => absurd hx hk0⟩
    rcases hK with ⟨k1', k2, e1, e2⟩ | ⟨-, k2, k3, e1, e2⟩ | ⟨-, ⟨c, hc, rfl, hh, hno⟩, k3, e1, e2⟩ | ⟨-, c, hc, rfl, hl, k3, rfl, rfl⟩
    · exact absurd k1 k1'
    · have o64 : b_m_play_64 post v1 v4 := by
        unfold b_m_play_64 b_m_play_65
        exact ⟨fun hx => absurd rfl hx, fun _ => bad 2 k3.symm (by omega) e1 e2⟩
      refine ⟨fun _ => o64, fun hx => ⟨fun _ => o64, fun hy => ?_⟩⟩
      obtain ⟨c, hc, rfl⟩ := i3_ex hx
      rw [i3_20, i3_le (by omega) (by omega)] at hy
      have hc20 : c < 20 := by omega
      rw [hM4.2.2.1, i3_in (by omega), i3_nat (by omega), hP.2.1 m (Nat.le_refl _)]
      exact ⟨by omega, s_mholds (cd := cd) (ow := ow) (hM4.2.2.2.2.1 p1) (hG.2.2.1 p1).1 hm20 hg4 pl_tn_lt hc20 (fun hh => absurd ⟨c, hc20, rfl, hh.1, hh.2⟩ k2) (fun _ => ⟨fun _ => o64, fun hx => absurd rfl hx⟩)⟩
    · refine ⟨fun hx => ?_, fun _ => ⟨fun hy => ?_, fun _ => ?_⟩⟩
      · rw [i3_n0 (by omega)] at hx; exact hx.elim
      · rw [i3_20, i3_le (by omega) (by omega)] at hy; omega
      · rw [hM4.2.2.1, i3_in (by omega), i3_nat (by omega), hP.2.1 m (Nat.le_refl _)]
        refine ⟨by omega, s_mholds (cd := cd) (ow := ow) (hM4.2.2.2.2.1 p1) (hG.2.2.1 p1).1 hm20 hg4 pl_tn_lt hc (fun _ => ⟨fun hx => absurd hx (by decide), fun _ => ?_⟩) (fun hn => absurd hh hn)⟩
        unfold b_m_play_65
        refine ⟨fun _ => ?_, fun hx => absurd hx (by decide)⟩
        rw [hM4.2.2.1]
        exact s_fol (hM4.2.2.2.2.1 p1) (hG.2.2.1 p1).1 hm20 hP hc (fun hf => absurd hf hno) (fun _ => ⟨fun hx => absurd rfl hx, fun _ => bad 3 k3.symm (by omega) e1 e2⟩)
    · have hh := (pl_lg_iff hc).mp hl
      refine ⟨fun hx => ?_, fun _ => ⟨fun hy => ?_, fun _ => ?_⟩⟩
      · rw [i3_n0 (by omega)] at hx; exact hx.elim
      · rw [i3_20, i3_le (by omega) (by omega)] at hy; omega
      · rw [hM4.2.2.1, i3_in (by omega), i3_nat (by omega), hP.2.1 m (Nat.le_refl _)]
        refine ⟨by omega, s_mholds (cd := cd) (ow := ow) (hM4.2.2.2.2.1 p1) (hG.2.2.1 p1).1 hm20 hg4 pl_tn_lt hc (fun _ => ⟨fun hx => absurd hx (by decide), fun _ => ?_⟩) (fun hn => absurd hh.1 hn)⟩
        unfold b_m_play_65
        refine ⟨fun _ => ?_, fun hx => absurd hx (by decide)⟩
        rw [hM4.2.2.1]
        refine s_fol (hM4.2.2.2.2.1 p1) (hG.2.2.1 p1).1 hm20 hP hc (fun _ => ⟨fun _ => ?_, fun hx => absurd hx (by decide)⟩) (fun hn => absurd hh.2 hn)
        unfold b_m_play_92 b_m_play_122
        obtain ⟨m1, m2, m3, m4, m5, m6, m7, m8, m9⟩ := hM4
        rw [f4, f1, f2 (by decide), m3, i3_in (by omega), i3_nat (by omega), i3_1, i3_add]
        refine ⟨fun hx => absurd rfl hx, fun _ => ⟨by omega, h _ (fx_sI (fx_pI (fx_sI hx04 (by decide)) (by decide)) (by decide)) ⟨?_, ?_, f1, fun i hi => ?_, ?_, ?_, m7, ?_, fun _ => ⟨?_, ?_, hT4.2.2⟩⟩ ?_⟩⟩
        · rw [f2 (by decide), f4, f2 (by decide)]; exact m1
        · exact qmA_fx (fi := [0, 5]) (fj := []) (ai := [2]) (aj := []) (fx_sI (fx_pI (fx_sI fx_rf (by decide)) (by decide)) (by decide)) (by decide) (by decide) (by decide) m2
        · rw [a3, a1, a3]
          by_cases he : i = m
          · subst he; rw [up1, va_up_s]; exact ⟨hc, rfl⟩
          · rw [up2 he, va_up_n he]; exact m4 i (by omega)
        · rw [a3, a2 (by decide), a3]; exact m5
        · rw [a3, a2 (by decide), a3]; exact m6
        · rw [f2 (by decide), f4, f2 (by decide)]; exact m8
        · rw [f2 (by decide), f4, f2 (by decide)]; exact hT4.1
        · rw [f2 (by decide), f4, f2 (by decide)]; exact hT4.2.1
        · rw [f2 (by decide), f4, f1, k3]; rfl
  · refine ⟨fun _ => ?_, fun hx => absurd hx k1⟩
    unfold b_m_play_14
    rw [f1]
    refine ⟨fun hx => absurd hx (by decide), fun _ => ?_⟩
    rcases hK with ⟨k1', k2, rfl, rfl⟩ | ⟨k1', -⟩ | ⟨k1', -⟩ | ⟨k1', -⟩
    · exact h _ (fx_sI hx02 (by decide)) (gM_sI0 hM2) (by rw [f1, k2]; rfl)
    · exact absurd k1' k1
    · exact absurd k1' k1
    · exact absurd k1' k1
/-! back -/
def gB (b n m : Nat) (cs : Nat → Nat) (k n' m' : Nat) : Prop :=
  (k = 1 ∧ m = m' + 1 ∧ n' = n) ∨ (m = 0 ∧ (phs b cs n m = 2 ∨ n = 0) ∧ k = 0 ∧ m' = m ∧ n' = n) ∨ (m = 0 ∧ phs b cs n m ≠ 2 ∧ n = n' + 1 ∧ k = 1 ∧ m' = m)
theorem gB_ex (b n m : Nat) (cs : Nat → Nat) : ∃ k n' m', gB b n m cs k n' m' := by
  cases m with
  | succ m' => exact ⟨1, n, m', Or.inl ⟨rfl, rfl, rfl⟩⟩
  | zero =>
    by_cases h : phs b cs n 0 = 2 ∨ n = 0
    · exact ⟨0, n, 0, Or.inr (Or.inl ⟨rfl, h, rfl, rfl, rfl⟩)⟩
    · cases n with
      | zero => exact absurd (Or.inr rfl) h
      | succ n' => exact ⟨1, n', 0, Or.inr (Or.inr ⟨rfl, fun e => h (Or.inl e), rfl, rfl, rfl⟩)⟩
theorem gG_back {k n' m' : Nat} (hG : gG b d n m cs cd ow) (h : gB b n m cs k n' m') : gG b d n' m' cs cd ow := by
  obtain ⟨g1, g2, g3, g4, g5, g6, g7⟩ := id hG
  rcases h with ⟨-, rfl, rfl⟩ | ⟨-, -, -, rfl, rfl⟩ | ⟨rfl, -, rfl, -, rfl⟩
  · exact ⟨g1, fun h => by have := g2 h; omega, g3, g4, fun _ => g5 (by omega), fun i hi => g6 i (by omega), by omega⟩
  · exact hG
  · exact ⟨g1, fun h => by have := g2 h; omega, g3, g4.1, fun h => by omega, fun i hi => by omega, by omega⟩
theorem c_back {k n' m' : Nat} {post : Int32 → ZS → Prop} (hG : gG b d n m cs cd ow) (hC : gC u b d n m cs cd ow r) (hK : gB b n m cs k n' m')
    (h : ∀ u', fx [2, 4] [] [4, 6, 7] [] u u' → gC u' b d n' m' cs cd ow r → post (i3 k) u') : w_x_back u post := by
  have hm20 := hG.2.2.2.2.2.2
  have hn139 := hC.2.1.2.2.1
  unfold w_x_back
  rw [hC.2.2.1.1, i3_0, i3_le (by omega) (by omega)]
  rcases hK with ⟨k1, rfl, rfl⟩ | ⟨rfl, k1, k2, rfl, rfl⟩ | ⟨rfl, k1, rfl, k2, rfl⟩
  · refine ⟨fun hx => by omega, fun _ => ?_⟩
    obtain ⟨p2, p3⟩ := hG.2.2.2.2.1 (by omega)
    have hb1 : b = 1 := by
      apply Classical.byContradiction
      intro hb
      have := hG.2.1 (by have := hG.1; omega)
      omega
    obtain ⟨c1, c2, c3, c4, c5, c6⟩ := hC
    refine s_tbk hG.2.2.2.2.2.1 hb1 c3 (c4 p2 p3) (fun u' hH' hL' hx => ?_)
    have hh := h u' (fx_mo hx (by decide) (by decide) (by decide) (by decide)) ⟨by rw [hx.1 0 (by decide)]; exact c1, cA_fx hx (by decide) (by decide) (by decide) c2, hH', fun _ _ => hL', fun hb => cC_fx hx (by decide) (c5 hb), by rw [hx.1 6 (by decide)]; exact c6⟩
    rw [k1] at hh; exact hh
  · refine ⟨fun _ => c_ph hG hC ?_, fun hx => by omega⟩
    rw [i3_2, ph_eq (by omega), hC.2.1.1, i3_eq (by omega) (by omega)]
    have hh := h u fx_rf hC
    rw [k2] at hh
    refine ⟨fun _ => hh, fun hx => ⟨fun hy => ?_, fun _ => hh⟩⟩
    rcases k1 with k1 | k1
    · exact absurd k1 hx
    · exact absurd k1 hy
  · refine ⟨fun _ => c_ph hG hC ?_, fun hx => by omega⟩
    rw [i3_2, ph_eq (by omega), hC.2.1.1, i3_eq (by omega) (by omega)]
    refine ⟨fun hx => absurd hx k1, fun _ => ⟨fun _ => s_tb hC.2.1 (fun _ => ?_) (fun hx => by omega), fun hx => by omega⟩⟩
    obtain ⟨c1, ⟨a1', a2', a3', a4', a5', a6'⟩, c3, c4, c5, c6⟩ := hC
    have hx : fx [2] [] [] [] u (sI u 2 (i3 (n' + 1 - 1))) := fx_sI fx_rf (by decide)
    have hh := h (sI u 2 (i3 (n' + 1 - 1))) (fx_mo hx (by decide) (by decide) (by decide) (by decide)) ⟨by rw [f2 (by decide)]; exact c1, ⟨f1, by rw [f2 (by decide)]; exact a2', by omega, a4', fun i hi => a5' i (by omega), fun i hi => a6' i (by omega)⟩, cH_fx hx (by decide) (by decide) (by decide) c3, fun he _ => absurd (au_en1.mp he) hG.2.2.2.1.2.1, fun hb => cC_fx hx (by decide) (c5 hb), by rw [f2 (by decide)]; exact c6⟩
    rw [k2] at hh; exact hh
theorem gM_back {n' m' : Nat} (hM : gM v b d n m cs cd ow r) (hn : n' ≤ n) (hm : m' ≤ m) (hmn : 0 < m' → n' = n) : gM (sI (sI v 5 (i3 m')) 4 (i3 n')) b d n' m' cs cd ow r := by
  obtain ⟨m1, ⟨a1', a2', a3', a4', a5', a6'⟩, m3, m4, m5, m6, m7, m8, m9⟩ := hM
  refine ⟨by rw [f2 (by decide), f2 (by decide)]; exact m1, ⟨f1, by rw [f2 (by decide), f2 (by decide)]; exact a2', by omega, a4', fun i hi => a5' i (by omega), fun i hi => a6' i (by omega)⟩, by rw [f2 (by decide), f1], fun i hi => m4 i (by omega), m5, m6, m7, by rw [f2 (by decide), f2 (by decide)]; exact m8, fun h0 => ?_⟩
  have e := hmn h0
  subst e
  have hT := m9 (by omega)
  exact ⟨by rw [f2 (by decide), f2 (by decide)]; exact hT.1, by rw [f2 (by decide), f2 (by decide)]; exact hT.2.1, hT.2.2⟩
theorem m_back {k n' m' : Nat} {post : Int32 → ZS → Prop} (hG : gG b d n m cs cd ow) (hM : gM v b d n m cs cd ow r) (hK : gB b n m cs k n' m')
    (h : ∀ v', fx [0, 4, 5, 6, 7, 8, 9] [] [] [] v v' → gM v' b d n' m' cs cd ow r → post (i3 k) v') : w_m_back v post := by
  have hm20 := hG.2.2.2.2.2.2
  have hn139 := hM.2.1.2.2.1
  unfold w_m_back
  refine m_pn hG (gM_sI0 hM) (fun v2 hx2 hM2 _ => ?_)
  have hx02 : fx [0, 4, 5, 6, 7, 8, 9] [] [] [] v v2 := fx_tr (fx_sI fx_rf (by decide)) (fx_mo hx2 (by decide) (by decide) (by decide) (by decide))
  have e5 := hM2.2.2.1
  have e4 := hM2.2.1.1
  have hbb := hG.1
  have hb0 := hG.2.1
  have s26 : ∀ r1 : Int32, b_m_back_40 post v2 → (r1 = 2 → fI v2 5 = 0 → False) → b_m_back_26 post r1 v2 := by
    intro r1 s40 h2
    unfold b_m_back_26
    exact ⟨fun _ => s40, fun hx => ⟨fun _ => s40, fun hy => (h2 hx hy).elim⟩⟩
  rcases hK with ⟨k1, rfl, rfl⟩ | ⟨rfl, k1, k2, rfl, rfl⟩ | ⟨rfl, k1, rfl, k2, rfl⟩
  · have hh := h _ (fx_sI (fx_sI hx02 (by decide)) (by decide)) (gM_back (n' := n') (m' := m') hM2 (by omega) (by omega) (fun _ => rfl))
    rw [k1] at hh
    obtain ⟨p2, p3⟩ := hG.2.2.2.2.1 (by omega)
    have hph := ph_cases b cs n' (m' + 1)
    have s40 : b_m_back_40 post v2 := by
      unfold b_m_back_40
      refine ⟨fun hx => ?_, fun _ => ?_⟩
      · rw [e5, i3_0, i3_le (by omega) (by omega)] at hx; omega
      · unfold b_m_back_52
        refine ⟨fun hx => absurd hx (by decide), fun _ => ?_⟩
        unfold b_m_back_71 b_m_back_92
        refine ⟨fun hx => absurd hx (by decide), fun _ => ?_⟩
        rw [f2 (by decide), e5, e4, i3_1, i3_sub (by omega)]
        exact hh
    refine ⟨fun hx => ?_, fun _ => ⟨fun _ => s26 _ s40 (fun _ hy => ?_), fun hx => ?_⟩⟩
    · rw [i3_0, ph_eq (by omega)] at hx; exfalso; omega
    · rw [e5, i3_0, i3_eq (by omega) (by omega)] at hy; omega
    · rw [i3_1, ph_eq (by omega)] at hx; exfalso; omega
  · have hh := h v2 hx02 hM2
    rw [k2] at hh
    have hph := ph_cases b cs n' 0
    refine ⟨fun _ => hh, fun hx0 => ⟨fun hx1 => ?_, fun hx1 => ⟨fun _ => hh, fun hy => ?_⟩⟩⟩
    · rw [i3_0, ph_eq (by omega)] at hx0
      rw [i3_1, ph_eq (by omega)] at hx1
      have h2 : phs b cs n' 0 = 2 := by
        rcases k1 with k1 | k1
        · exact k1
        · exfalso
          have : au_en cs n' = 0 := by rw [k1]; rfl
          omega
      rw [h2]
      unfold b_m_back_26
      exact ⟨fun hy => absurd rfl hy, fun _ => ⟨fun hy => absurd e5 hy, fun _ => hh⟩⟩
    · rw [i3_1, ph_eq (by omega)] at hx1
      rw [e4, i3_0, i3_eq (by omega) (by omega)] at hy
      exfalso; omega
  · have hh := h _ (fx_sI (fx_sI hx02 (by decide)) (by decide)) (gM_back (n' := n') (m' := 0) hM2 (by omega) (by omega) (fun hx => by omega))
    rw [k2] at hh
    have hph := ph_cases b cs (n' + 1) 0
    have s40 : b_m_back_40 post v2 := by
      unfold b_m_back_40
      refine ⟨fun _ => ?_, fun hx => ?_⟩
      · unfold b_m_back_52
        refine ⟨fun _ => ?_, fun hx => absurd rfl hx⟩
        unfold b_m_back_71 b_m_back_92
        refine ⟨fun _ => ?_, fun hx => absurd rfl hx⟩
        rw [f2 (by decide), e5, e4, i3_1, i3_sub (by omega)]
        exact hh
      · rw [e5, i3_0, i3_le (by omega) (by omega)] at hx; omega
    have h2 : i3 (phs b cs (n' + 1) 0) = 2 → fI v2 5 = 0 → False := by
      intro hx _
      rw [i3_2, ph_eq (by omega)] at hx
      exact k1 hx
    refine ⟨fun hx => ?_, fun _ => ⟨fun _ => s26 _ s40 h2, fun hx => ⟨fun hy => ?_, fun _ => s26 _ s40 h2⟩⟩⟩
    · rw [i3_0, ph_eq (by omega)] at hx; exfalso; omega
    · rw [e4, i3_0, i3_eq (by omega) (by omega)] at hy; omega
/-! contract -/
theorem m_rc {post : ZS → Prop} (hG : gG b d n m cs cd ow) (hM : gM v b d n m cs cd ow r) (h : ∀ v', fx [6, 7, 8, 9] [] [] [] v v' → gM v' b d n m cs cd ow r → qmR v' n d cs → post v') : w_m_readCalls v post := by
  obtain ⟨m1, m2, m3, m4, m5, m6, m7, m8, m9⟩ := id hM
  refine s_rc hG.2.2.2.1 m2 (fun v' hx hR => h v' hx ?_ hR)
  exact ⟨by rw [hx.1 1 (by decide)]; exact m1, qmA_fx hx (by decide) (by decide) (by decide) m2, by rw [hx.1 5 (by decide)]; exact m3, by rw [hx.2.2.1 2 (by decide)]; exact m4, by rw [hx.2.2.1 0 (by decide)]; exact m5, by rw [hx.2.2.1 5 (by decide)]; exact m6, qmW_fx hx (by decide) m7, by rw [hx.1 10 (by decide)]; exact m8, fun hm => qmT_of hG hR (hG.2.2.2.2.1 hm).2⟩
def gN (v1 : Int32) (d n : Nat) (cs : Nat → Nat) : Int32 := if au_bid cs n = 0 then -(i3 1) else if v1 = i3 0 then i3 (au_bid cs n) else if v1 = i3 1 then i3 (au_dbl cs n) else if v1 = i3 2 then i3 (au_dc d cs n) else -(i3 1)
theorem c_con {post : Int32 → ZS → Prop} {v1 : Int32} (hC : gC u b d n m cs cd ow r) (h : post (gN v1 d n cs) u) : w_x_contract v1 u post := by
  have hA := hC.2.1
  have hb17 := au_bid_le hA.2.2.2.2.1
  unfold gN at h
  unfold w_x_contract
  refine s_bid hA (fun h0 => ⟨fun hx => absurd rfl hx, fun _ => ?_⟩) (fun h3 => ⟨fun _ => ⟨fun e => s_bid hA (fun h0 => by omega) (fun _ => ?_), fun e => s_dbl hA ?_, fun e => s_dec hA (fun h0 => by omega) (fun _ => ?_), fun ⟨e0, e1, e2⟩ => ?_⟩, fun hx => ((i3_m1 (by omega)).mp hx).elim⟩)
  · rw [if_pos h0] at h; exact h
  · rw [if_neg (by omega), if_pos (show v1 = i3 0 from e)] at h; exact h
  · rw [if_neg (by omega), if_neg (show ¬ v1 = i3 0 by rw [e]; decide), if_pos (show v1 = i3 1 from e)] at h; exact h
  · rw [if_neg (by omega), if_neg (show ¬ v1 = i3 0 by rw [e]; decide), if_neg (show ¬ v1 = i3 1 by rw [e]; decide), if_pos (show v1 = i3 2 from e)] at h; exact h
  · rw [if_neg (by omega), if_neg (show ¬ v1 = i3 0 from e0), if_neg (show ¬ v1 = i3 1 from e1), if_neg (show ¬ v1 = i3 2 from e2)] at h; exact h
theorem m_con {post : Int32 → ZS → Prop} {v1 : Int32} (hG : gG b d n m cs cd ow) (hM : gM v b d n m cs cd ow r) (h : ∀ v', fx [0, 6, 7, 8, 9] [] [] [] v v' → gM v' b d n m cs cd ow r → post (gN v1 d n cs) v') : w_m_contract v1 v post := by
  have hx0 : fx [0, 6, 7, 8, 9] [] [] [] v (sI v 0 0) := fx_sI fx_rf (by decide)
  have hb17 := au_bid_le hM.2.1.2.2.2.2.1
  unfold gN at h
  unfold w_m_contract b_m_contract_34 b_m_contract_65
  rw [f2 (by decide), hM.1]
  refine ⟨fun hb => m_rc hG (gM_sI0 hM) (fun v2 hx2 hM2 hR => ?_), fun hb => ?_⟩
  · have h' := h v2 (fx_tr hx0 (fx_mo hx2 (by decide) (by decide) (by decide) (by decide))) hM2
    rw [hR.1, hR.2.1]
    by_cases hz : au_bid cs n = 0
    · rw [if_pos hz] at h'
      rw [hz]
      exact ⟨fun _ => h', fun hx => absurd rfl hx⟩
    · have h3 : 3 ≤ au_bid cs n := by have := bid_3 (au_V_le hG.2.2.2.1); omega
      rw [hR.2.2.1 h3]
      rw [if_neg hz] at h'
      refine ⟨fun hx => ?_, fun _ => ⟨fun hx => ?_, fun hx => ⟨fun hy => ⟨fun e0 => ⟨fun e1 => ?_, fun e1 => ?_⟩, fun e0 => ?_⟩, fun hy => ?_⟩⟩⟩
      · rw [i3_0, i3_eq (by omega) (by omega)] at hx; omega
      · have ng : ∀ q : Nat, q ≤ 5 → ¬ v1 = i3 q := fun q hq e => out_rng (k := 6) (q := q) (by omega) (by omega) (Or.inl hx) e
        rw [if_neg (ng 0 (by omega)), if_neg (ng 1 (by omega)), if_neg (ng 2 (by omega))] at h'
        exact h'
      · obtain ⟨c, hc, rfl⟩ := i3_ex hx
        rw [i3_2, i3_le (by omega) (by omega)] at hy
        rw [i3_0, i3_eq (by omega) (by omega)] at e0
        rw [i3_1, i3_eq (by omega) (by omega)] at e1
        have : c = 2 := by omega
        subst this
        rw [if_neg (by decide), if_neg (by decide), if_pos rfl] at h'
        exact h'
      · rw [if_neg (show ¬ v1 = i3 0 from e0), if_pos (show v1 = i3 1 from e1)] at h'; exact h'
      · rw [if_pos (show v1 = i3 0 from e0)] at h'; exact h'
      · have ng : ∀ q : Nat, q ≤ 2 → v1 ≠ i3 q := by
          intro q hq e
          subst e
          apply hy
          rw [i3_2, i3_le (by omega) (by omega)]; exact hq
        rw [if_neg (ng 0 (by omega)), if_neg (ng 1 (by omega)), if_neg (ng 2 (by omega))] at h'
        exact h'
  · have hbz : b = 0 := by
      rw [i3_0, i3_eq (by have := hG.1; omega) (by omega)] at hb; exact hb
    have h' := h _ hx0 (gM_sI0 hM)
    have hn := (hG.2.1 hbz).1
    subst hn
    rw [if_pos (show au_bid cs 0 = 0 from rfl)] at h'
    exact h'
/-! tricks and the table -/
theorem pl_wn_two {t l0 : Nat} (cd : Nat → Nat) : ∀ j, pl_wn t l0 0 cd j + pl_wn t l0 1 cd j = j
  | 0 => rfl
  | j + 1 => by
    have ih := pl_wn_two (t := t) (l0 := l0) cd j
    rw [pl_wn_s, pl_wn_s]
    split <;> split <;> omega
def gW (v1 : Int32) (d n m : Nat) (cs cd : Nat → Nat) : Int32 := if v1 = i3 0 then i3 (pl_wn (gt cs n) (gl d cs n) 0 cd (m / 4)) else if v1 = i3 1 then i3 (pl_wn (gt cs n) (gl d cs n) 1 cd (m / 4)) else -(i3 1)
theorem c_wj (hG : gG b d n m cs cd ow) (hC : gC u b d n m cs cd ow r) : ∀ j, 0 < j → j ≤ m / 4 → aI u 7 j = i3 (pl_ld (gt cs n) (gl d cs n) cd j) := by
  intro j hj hjm
  obtain ⟨p2, p3⟩ := hG.2.2.2.2.1 (by omega)
  exact (hC.2.2.2.1 p2 p3).2.2.2 j hjm
theorem c_tri {post : Int32 → ZS → Prop} {v1 : Int32} (hG : gG b d n m cs cd ow) (hC : gC u b d n m cs cd ow r) (h : post (gW v1 d n m cs cd) u) : w_x_tricks v1 u post := by
  unfold gW at h
  unfold w_x_tricks b_x_tricks_9 b_x_tricks_21
  refine ⟨fun e => ?_, fun e0 => ⟨fun e1 => ?_, fun e => ?_⟩⟩
  · rw [if_pos (show v1 = i3 0 from e)] at h
    subst e
    exact s_won (s := 0) hC.2.2.1.1 hG.2.2.2.2.2.2 (c_wj hG hC) gl_lt (by omega) h
  · rw [if_neg (show ¬ v1 = i3 0 from e0), if_neg (show ¬ v1 = i3 1 from e1)] at h; exact h
  · rw [if_neg (show ¬ v1 = i3 0 by rw [e]; decide), if_pos (show v1 = i3 1 from e)] at h
    subst e
    exact s_won (s := 1) hC.2.2.1.1 hG.2.2.2.2.2.2 (c_wj hG hC) gl_lt (by omega) h
theorem m_tri {post : Int32 → ZS → Prop} {v1 : Int32} (hG : gG b d n m cs cd ow) (hM : gM v b d n m cs cd ow r) (h : ∀ v', fx [0, 6, 7, 8, 9] [] [3, 4, 5] [] v v' → gM v' b d n m cs cd ow r → post (gW v1 d n m cs cd) v') : w_m_tricks v1 v post := by
  have hm20 := hG.2.2.2.2.2.2
  have hx0 : fx [0, 6, 7, 8, 9] [] [3, 4, 5] [] v (sI v 0 0) := fx_sI fx_rf (by decide)
  unfold gW at h
  unfold w_m_tricks b_m_tricks_14 b_m_tricks_31 b_m_tricks_75
  refine ⟨fun hx => ?_, fun hx => ⟨fun hy => m_pn hG (gM_sI0 hM) (fun v2 hx2 hM2 hR2 => ?_), fun hy => ?_⟩⟩
  · have h' := h _ hx0 (gM_sI0 hM)
    have ng : ∀ q : Nat, q ≤ 5 → ¬ v1 = i3 q := fun q hq e => out_rng (k := 6) (q := q) (by omega) (by omega) (Or.inl hx) e
    rw [if_neg (ng 0 (by omega)), if_neg (ng 1 (by omega))] at h'
    exact h'
  · have hx02 : fx [0, 6, 7, 8, 9] [] [3, 4, 5] [] v v2 := fx_tr hx0 (fx_mo hx2 (by decide) (by decide) (by decide) (by decide))
    obtain ⟨s, hs, rfl⟩ := i3_ex hx
    rw [i3_1, i3_le (by omega) (by omega)] at hy
    have ans : ∀ v', fx [0, 6, 7, 8, 9] [] [3, 4, 5] [] v v' → gM v' b d n m cs cd ow r → post (i3 (pl_wn (gt cs n) (gl d cs n) s cd (m / 4))) v' := by
      intro v' hx' hM'
      have h' := h v' hx' hM'
      have hs' : s = 0 ∨ s = 1 := by omega
      rcases hs' with rfl | rfl
      · rw [if_pos rfl] at h'; exact h'
      · rw [if_neg (by decide), if_pos rfl] at h'; exact h'
    have zero : m = 0 → post 0 v2 := by
      intro hm0
      have h' := ans v2 hx02 hM2
      subst hm0
      exact h'
    have hp3 := ph_le (b := b) (cs := cs) (n := n) (m := m)
    rw [i3_2, i3_lt (by omega) (by omega)]
    refine ⟨fun hp => zero ?_, fun hp => ?_⟩
    · apply Classical.byContradiction
      intro hm
      obtain ⟨p2, p3⟩ := hG.2.2.2.2.1 (by omega)
      have hb := hG.2.1
      rcases ph_cases b cs n m with h1 | h1 | h1 | h1 <;> omega
    · have hb1 : b = 1 := by
        have := hG.1
        rcases ph_cases b cs n m with h1 | h1 | h1 | h1 <;> omega
      have hR := hR2 hb1
      have hb17 := au_bid_le hM.2.1.2.2.2.2.1
      rw [hR.1, i3_0, i3_eq (by omega) (by omega)]
      refine ⟨fun hz => ?_, fun hz => zero ?_⟩
      · have h3 : 3 ≤ au_bid cs n := by have := bid_3 (au_V_le hG.2.2.2.1); omega
        have hT := qmT_of hG hR h3
        have hdc := au_dc_lt d cs n
        refine m_rd hG hM2 (fun v4 hx4 hM4 hP4 _ => ?_)
        have hP := hP4 hT
        have hx04 := fx_tr hx02 (fx_mo hx4 (by decide) (by decide) (by decide) (by decide))
        have e8 : fI v4 8 = i3 (au_dc d cs n) := by rw [hx4.1 8 (by decide)]; exact hT.2.1
        have hle := pl_wn_le (t := gt cs n) (l0 := gl d cs n) (s := au_dc d cs n % 2) (cd := cd) (m / 4)
        rw [e8, hM4.2.2.1, i3_in (by omega), i3_nat (by omega), hP.2.2.1 m (Nat.le_refl _), i3_1, i3_a1, i3_eq (by omega) (by omega), i3_4, i3_div (by omega) (by omega), i3_sub hle]
        have h' := ans v4 hx04 hM4
        have two := pl_wn_two (t := gt cs n) (l0 := gl d cs n) cd (m / 4)
        refine ⟨fun hn => ⟨by omega, ?_⟩, fun he => ⟨by omega, ?_⟩⟩
        · have hs' : s = 0 ∨ s = 1 := by omega
          rcases hs' with rfl | rfl
          · have e : au_dc d cs n % 2 = 1 := by omega
            rw [e]
            have e2 : m / 4 - pl_wn (gt cs n) (gl d cs n) 1 cd (m / 4) = pl_wn (gt cs n) (gl d cs n) 0 cd (m / 4) := by omega
            rw [e2]; exact h'
          · have e : au_dc d cs n % 2 = 0 := by omega
            rw [e]
            have e2 : m / 4 - pl_wn (gt cs n) (gl d cs n) 0 cd (m / 4) = pl_wn (gt cs n) (gl d cs n) 1 cd (m / 4) := by omega
            rw [e2]; exact h'
        · rw [he]; exact h'
      · apply Classical.byContradiction
        intro hm
        have := hG.2.2.2.2.1 (by omega)
        omega
  · have h' := h _ hx0 (gM_sI0 hM)
    have ng : ∀ q : Nat, q ≤ 1 → v1 ≠ i3 q := by
      intro q hq e
      subst e
      apply hy
      rw [i3_1, i3_le (by omega) (by omega)]; exact hq
    rw [if_neg (ng 0 (by omega)), if_neg (ng 1 (by omega))] at h'
    exact h'
def gTb (v1 : Int32) (m : Nat) (cd : Nat → Nat) : Int32 := if v1 < 0 ∨ i3 (m % 4) ≤ v1 then -(i3 1) else i3 (cd (m - m % 4 + v1.toNatClampNeg))
theorem c_tab {post : Int32 → ZS → Prop} {v1 : Int32} (hG : gG b d n m cs cd ow) (hC : gC u b d n m cs cd ow r) (h : post (gTb v1 m cd) u) : w_x_table v1 u post := by
  unfold gTb at h
  unfold w_x_table
  refine s_table hC.2.2.1.1 hG.2.2.2.2.2.2 hC.2.2.1.2.2.2.1 (fun ho => ?_) (fun i e hi => ?_)
  · rw [if_pos ho] at h; exact h
  · subst e
    have hno : ¬ (i3 i < 0 ∨ i3 (m % 4) ≤ i3 i) := fun ho => out_rng (k := m % 4) (q := i) (by omega) hi ho rfl
    rw [if_neg hno, i3_nat (by omega)] at h; exact h
theorem m_tab {post : Int32 → ZS → Prop} {v1 : Int32} (hG : gG b d n m cs cd ow) (hM : gM v b d n m cs cd ow r) (h : post (gTb v1 m cd) (sI v 0 0)) : w_m_table v1 v post := by
  have hm20 := hG.2.2.2.2.2.2
  unfold gTb at h
  unfold w_m_table b_m_table_47 b_m_table_48
  have e5 : fI (sI v 0 0) 5 = i3 m := by rw [f2 (by decide)]; exact hM.2.2.1
  have e1 : fI (sI v 0 0) 1 = i3 b := by rw [f2 (by decide)]; exact hM.1
  have er : i3 m - i3 m / 4 * 4 = i3 (m % 4) := by
    simp (disch := omega) only [i3_0, i3_1, i3_2, i3_3, i3_4, i3_5, i3_6, i3_10, i3_12, i3_15, i3_17, i3_19, i3_20, i3_21, i3_31, i3_139, i3_div, i3_mul, i3_sub, nrem]
  have hmod := Nat.mod_le m 4
  rw [e5, e1, er, i3_sub hmod]
  refine ⟨fun hb => ?_, fun _ => ⟨fun hx => ?_, fun hx => ⟨fun hy => ?_, fun hy => ?_⟩⟩⟩
  · have hbz : b = 0 := by
      rw [i3_0, i3_eq (by have := hG.1; omega) (by omega)] at hb; exact hb
    have hm0 := (hG.2.1 hbz).2
    subst hm0
    by_cases hv : v1 < 0
    · rw [if_pos (Or.inl hv)] at h; exact h
    · have : i3 (0 % 4) ≤ v1 := by
        obtain ⟨c, hc, rfl⟩ := i3_ex hv
        rw [i3_le (by omega) (by omega)]; omega
      rw [if_pos (Or.inr this)] at h; exact h
  · rw [if_pos (Or.inl hx)] at h; exact h
  · rw [if_pos (Or.inr hy)] at h; exact h
  · obtain ⟨c, hc, rfl⟩ := i3_ex hx
    rw [i3_le (by omega) (by omega)] at hy
    have hno : ¬ (i3 c < 0 ∨ i3 (m % 4) ≤ i3 c) := fun ho => out_rng (k := m % 4) (q := c) (by omega) (by omega) ho rfl
    rw [if_neg hno, i3_nat (by omega)] at h
    rw [i3_add, i3_in (by omega), i3_nat (by omega)]
    refine ⟨by omega, ?_⟩
    rw [a3, (hM.2.2.2.1 (m - m % 4 + c) (by omega)).2]
    exact h
end Cm2
