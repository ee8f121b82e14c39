/-! what ties the class and the model: a board's ghost -/
theorem au_end_congr {cs ds : Nat → Nat} {n : Nat} (h : ∀ j, j < n → cs j = ds j) (he : au_end cs n) : au_end ds n := by
  unfold au_end at he ⊢
  rw [← au_lt_congr h]; exact he
theorem au_bid_congr {cs ds : Nat → Nat} {n : Nat} (h : ∀ j, j < n → cs j = ds j) : au_bid cs n = au_bid ds n := by
  unfold au_bid
  rw [← au_lt_congr h]
  cases hl : au_lt cs 3 n with
  | none => rfl
  | some k => exact h k (au_lt_some hl).1
theorem au_ok_congr {cs ds : Nat → Nat} {n c : Nat} (h : ∀ j, j < n → cs j = ds j) (ho : au_ok cs n c) : au_ok ds n c := by
  rcases ho with h0 | ⟨h1, k, hk, h3, hp⟩ | ⟨h1, k, hk, h3, hp⟩ | ⟨h3, hb⟩
  · exact Or.inl h0
  · exact Or.inr (Or.inl ⟨h1, k, by rw [← au_lt_congr h]; exact hk, by rw [← h k (au_lt_some hk).1]; exact h3, hp⟩)
  · exact Or.inr (Or.inr (Or.inl ⟨h1, k, by rw [← au_lt_congr h]; exact hk, by rw [← h k (au_lt_some hk).1]; exact h3, hp⟩))
  · exact Or.inr (Or.inr (Or.inr ⟨h3, by rw [← au_bid_congr h]; exact hb⟩))
theorem au_V_congr {cs ds : Nat → Nat} : ∀ {n : Nat}, (∀ j, j < n → cs j = ds j) → au_V cs n → au_V ds n
  | 0, _, _ => trivial
  | n + 1, h, ⟨h1, h2, h3, h4⟩ => by
    have hn : ∀ j, j < n → cs j = ds j := fun j hj => h j (by omega)
    have e := h n (by omega)
    exact ⟨au_V_congr hn h1, fun he => h2 (au_end_congr (fun j hj => (hn j hj).symm) he), by rw [← e]; exact h3, by rw [← e]; exact au_ok_congr hn h4⟩
/-- trumps and first leader of a board -/
def gt (cs : Nat → Nat) (n : Nat) : Nat := (au_bid cs n - 3) % 5
def gl (d : Nat) (cs : Nat → Nat) (n : Nat) : Nat := (au_dc d cs n + 1) % 4
def gG (b d n m : Nat) (cs cd ow : Nat → Nat) : Prop := b ≤ 1 ∧ (b = 0 → n = 0 ∧ m = 0) ∧ (b = 1 → pl_D ow) ∧ au_V cs n ∧ (0 < m → au_en cs n = 1 ∧ 3 ≤ au_bid cs n) ∧ pl_V ow (gt cs n) (gl d cs n) cd m ∧ m ≤ 20
def gC (u : ZS) (b d n m : Nat) (cs cd ow : Nat → Nat) (r : Nat) : Prop := fI u 0 = i3 b ∧ cA u n d cs ∧ cH u b m cd ow ∧ (au_en cs n = 1 → 3 ≤ au_bid cs n → cL u (gt cs n) (gl d cs n) m cd) ∧ (b = 1 → cC u ow) ∧ fI u 6 = i3 r
def gM (v : ZS) (b d n m : Nat) (cs cd ow : Nat → Nat) (r : Nat) : Prop := fI v 1 = i3 b ∧ qmA v n d cs ∧ fI v 5 = i3 m ∧ (∀ i, i < m → cd i < 20 ∧ aI v 2 i = i3 (cd i)) ∧ (b = 1 → ∀ c, c < 20 → aI v 0 c = i3 (ow c)) ∧ aI v 5 0 = i3 0 ∧ qmW v ∧ fI v 10 = i3 r ∧ (0 < m → qmT v (au_bid cs n) (au_dc d cs n))
def gL (u v : ZS) (b r : Nat) : Prop := fI u 1 = fI v 3 ∧ (b = 1 → fJ u 0 = fJ v 0) ∧ r ≤ 12 ∧ ∀ i, i < r → aI u 8 i = aI v 10 i ∧ aJ u 0 i = aJ v 1 i
section Gh
variable {u v : ZS} {b d n m r : Nat} {cs cd ow : Nat → Nat}
theorem ph_cases (b : Nat) (cs : Nat → Nat) (n m : Nat) : (phs b cs n m = 0 ∧ b = 0) ∨ (phs b cs n m = 1 ∧ b ≠ 0 ∧ au_en cs n = 0) ∨ (phs b cs n m = 3 ∧ b ≠ 0 ∧ au_en cs n ≠ 0 ∧ (au_bid cs n = 0 ∨ m = 20)) ∨ (phs b cs n m = 2 ∧ b ≠ 0 ∧ au_en cs n ≠ 0 ∧ ¬ (au_bid cs n = 0 ∨ m = 20)) := by
  unfold phs
  split
  · rename_i h; exact Or.inl ⟨rfl, h⟩
  · rename_i h
    split
    · rename_i h1; exact Or.inr (Or.inl ⟨rfl, h, h1⟩)
    · rename_i h1
      split
      · rename_i h2; exact Or.inr (Or.inr (Or.inl ⟨rfl, h, h1, h2⟩))
      · rename_i h2; exact Or.inr (Or.inr (Or.inr ⟨rfl, h, h1, h2⟩))
theorem ph_le : phs b cs n m ≤ 3 := by rcases ph_cases b cs n m with h | h | h | h <;> omega
theorem en_le : au_en cs n ≤ 1 := by
  unfold au_en
  cases au_lt cs 1 n <;> simp only <;> split <;> omega
theorem bid_3 (h17 : ∀ i, i < n → cs i ≤ 17) : au_bid cs n = 0 ∨ 3 ≤ au_bid cs n := by
  cases hl : au_lt cs 3 n with
  | none => exact Or.inl (au_bid0 hl)
  | some k => have := au_bid3 hl; omega
theorem ph_eq {q : Nat} (hq : q ≤ 3) : (i3 (phs b cs n m) = i3 q) ↔ phs b cs n m = q := by
  have := ph_le (b := b) (cs := cs) (n := n) (m := m)
  exact i3_eq (by omega) (by omega)
/-- facts of the play phase -/
theorem ph2 (hG : gG b d n m cs cd ow) (h : phs b cs n m = 2) : b = 1 ∧ au_en cs n = 1 ∧ 3 ≤ au_bid cs n ∧ m < 20 := by
  obtain ⟨g1, g2, g3, g4, g5, g6, g7⟩ := hG
  have he := en_le (cs := cs) (n := n)
  have hb := bid_3 (au_V_le g4)
  rcases ph_cases b cs n m with h1 | h1 | h1 | h1 <;> omega
theorem ph3 (hG : gG b d n m cs cd ow) (h : phs b cs n m = 3) : b = 1 ∧ au_en cs n = 1 ∧ (au_bid cs n = 0 ∨ (3 ≤ au_bid cs n ∧ m = 20)) := by
  obtain ⟨g1, g2, g3, g4, g5, g6, g7⟩ := hG
  have he := en_le (cs := cs) (n := n)
  have hb := bid_3 (au_V_le g4)
  rcases ph_cases b cs n m with h1 | h1 | h1 | h1 <;> omega
theorem ph1 (hG : gG b d n m cs cd ow) (h : phs b cs n m = 1) : b = 1 ∧ au_en cs n = 0 ∧ m = 0 := by
  obtain ⟨g1, g2, g3, g4, g5, g6, g7⟩ := hG
  rcases ph_cases b cs n m with h1 | h1 | h1 | h1
  · omega
  · refine ⟨by omega, h1.2.2, ?_⟩
    apply Classical.byContradiction
    intro hm
    have := g5 (by omega)
    omega
  · omega
  · omega
theorem gM_sI0 {x : Int32} (h : gM v b d n m cs cd ow r) : gM (sI v 0 x) b d n m cs cd ow r := by
  obtain ⟨m1, m2, m3, m4, m5, m6, m7, m8, m9⟩ := h
  refine ⟨by rw [f2 (by decide)]; exact m1, qmA_fx (fi := [0]) (fj := []) (ai := []) (aj := []) (fx_sI fx_rf (by decide)) (by decide) (by decide) (by decide) m2, by rw [f2 (by decide)]; exact m3, m4, m5, m6, m7, by rw [f2 (by decide)]; exact m8, fun hm => ?_⟩
  have := m9 hm
  exact ⟨by rw [f2 (by decide)]; exact this.1, by rw [f2 (by decide)]; exact this.2.1, this.2.2⟩
theorem gL_fx {fi ai : List Nat} {v' : ZS} (hx : fx fi [] ai [] v v') (h3 : 3 ∉ fi) (h10 : 10 ∉ ai) (h : gL u v b r) : gL u v' b r := by
  obtain ⟨l1, l2, l3, l4⟩ := h
  refine ⟨by rw [hx.1 3 h3]; exact l1, fun hb => by rw [hx.2.1 0 (by decide)]; exact l2 hb, l3, fun i hi => ?_⟩
  rw [hx.2.2.1 10 h10, hx.2.2.2 1 (by decide)]; exact l4 i hi
theorem gL_fxu {fi ai : List Nat} {u' : ZS} (hx : fx fi [] ai [] u u') (h1 : 1 ∉ fi) (h8 : 8 ∉ ai) (h : gL u v b r) : gL u' v b r := by
  obtain ⟨l1, l2, l3, l4⟩ := h
  refine ⟨by rw [hx.1 1 h1]; exact l1, fun hb => by rw [hx.2.1 0 (by decide)]; exact l2 hb, l3, fun i hi => ?_⟩
  rw [hx.2.2.1 8 h8, hx.2.2.2 0 (by decide)]; exact l4 i hi
theorem qmT_of (hG : gG b d n m cs cd ow) (hR : qmR v n d cs) (h3 : 3 ≤ au_bid cs n) : qmT v (au_bid cs n) (au_dc d cs n) :=
  ⟨hR.1, hR.2.2.1 h3, h3, au_bid_le (au_V_le hG.2.2.2.1), au_dc_lt d cs n⟩
theorem m_pn {post : Int32 → ZS → Prop} (hG : gG b d n m cs cd ow) (hM : gM v b d n m cs cd ow r) (h : ∀ v', fx [6, 7, 8, 9] [] [] [] v v' → gM v' b d n m cs cd ow r → (b = 1 → qmR v' n d cs) → post (i3 (phs b cs n m)) v') : w_m_phaseNow v post := by
  obtain ⟨m1, m2, m3, m4, m5, m6, m7, m8, m9⟩ := id hM
  refine s_pn hG.2.2.2.1 m2 m1 hG.1 m3 hG.2.2.2.2.2.2 (fun v' hx hR => h v' hx ?_ hR)
  refine ⟨by rw [hx.1 1 (by decide)]; exact m1, qmA_fx hx (by decide) (by decide) (by decide) m2, by rw [hx.1 5 (by decide)]; exact m3, by rw [hx.2.2.1 2 (by decide)]; exact m4, by rw [hx.2.2.1 0 (by decide)]; exact m5, by rw [hx.2.2.1 5 (by decide)]; exact m6, qmW_fx hx (by decide) m7, by rw [hx.1 10 (by decide)]; exact m8, fun hm => ?_⟩
  have hb1 : b = 1 := by
    apply Classical.byContradiction
    intro hb
    have := hG.2.1 (by have := hG.1; omega)
    omega
  exact qmT_of hG (hR hb1) (hG.2.2.2.2.1 hm).2
theorem m_rd {post : ZS → Prop} (hG : gG b d n m cs cd ow) (hM : gM v b d n m cs cd ow r) (h : ∀ v', fx [] [] [3, 4, 5] [] v v' → gM v' b d n m cs cd ow r → (qmT v (au_bid cs n) (au_dc d cs n) → qmP v' (gt cs n) (gl d cs n) (au_dc d cs n % 2) cd m) → (∀ c, bt (aI v' 5 m) c = true ↔ ∃ i, i < m ∧ cd i = c) → post v') : w_m_readCards v post := by
  obtain ⟨m1, m2, m3, m4, m5, m6, m7, m8, m9⟩ := id hM
  have keep : ∀ v', fx [] [] [3, 4, 5] [] v v' → aI v' 5 0 = i3 0 → gM v' b d n m cs cd ow r := by
    intro v' hx h50
    refine ⟨by rw [hx.1 1 (by decide)]; exact m1, qmA_fx hx (by decide) (by decide) (by decide) m2, by rw [hx.1 5 (by decide)]; exact m3, by rw [hx.2.2.1 2 (by decide)]; exact m4, by rw [hx.2.2.1 0 (by decide)]; exact m5, h50, qmW_fx hx (by decide) m7, by rw [hx.1 10 (by decide)]; exact m8, fun hm => ?_⟩
    have := m9 hm
    exact ⟨by rw [hx.1 6 (by decide)]; exact this.1, by rw [hx.1 8 (by decide)]; exact this.2.1, this.2.2⟩
  by_cases hT : qmT v (au_bid cs n) (au_dc d cs n)
  · refine s_rd (t := gt cs n) (l0 := gl d cs n) (s := au_dc d cs n % 2) (cd := cd) hT rfl rfl rfl m3 hG.2.2.2.2.2.2 m4 m6 (fun v' hx hP => h v' hx (keep v' hx ?_) (fun _ => hP) (hP.2.2.2 m (Nat.le_refl _)))
    rw [bt_z]
    intro c _
    apply Bool.eq_false_iff.mpr
    intro hb
    obtain ⟨i, hi, _⟩ := (hP.2.2.2 0 (Nat.zero_le _) c).mp hb
    omega
  · have hm0 : m = 0 := by
      apply Classical.byContradiction
      intro hm
      exact hT (m9 (by omega))
    subst hm0
    refine s_rd0 m3 (fun v' hx => ?_)
    have hx' : fx [] [] [3, 4, 5] [] v v' := fx_mo hx (by decide) (by decide) (by decide) (by decide)
    have h50 : aI v' 5 0 = i3 0 := by rw [hx.2.2.1 5 (by decide)]; exact m6
    refine h v' hx' (keep v' hx' h50) (fun hh => absurd hh hT) (fun c => ?_)
    rw [h50, bt_0]
    exact ⟨fun hh => (by cases hh), fun ⟨i, hi, _⟩ => by omega⟩
theorem c_ph {post : Int32 → ZS → Prop} (hG : gG b d n m cs cd ow) (hC : gC u b d n m cs cd ow r) (h : post (i3 (phs b cs n m)) u) : w_x_phase u post :=
  s_phase hC.2.1 hC.1 hG.1 hC.2.2.1.1 hG.2.2.2.2.2.2 h
/-- whose turn it is, as an answer -/
def gT (b d n m : Nat) (cs cd : Nat → Nat) : Int32 := if phs b cs n m = 1 then i3 ((d + n) % 4) else if phs b cs n m = 2 then i3 (pl_tn (gt cs n) (gl d cs n) cd m) else -(i3 1)
theorem c_turn {post : Int32 → ZS → Prop} (hG : gG b d n m cs cd ow) (hC : gC u b d n m cs cd ow r) (h : post (gT b d n m cs cd) u) : w_x_turn u post := by
  unfold w_x_turn
  refine c_ph hG hC ?_
  unfold gT at h
  rw [i3_1, i3_2, ph_eq (by omega), ph_eq (by omega)]
  refine ⟨fun h1 => s_caller hC.2.1 ?_, fun h2 => ?_, fun ⟨h1, h2⟩ => ?_⟩
  · rw [if_pos h1] at h; exact h
  · obtain ⟨p1, p2, p3, p4⟩ := ph2 hG h2
    rw [if_neg (by omega), if_pos h2] at h
    exact s_player hC.2.2.1 (hC.2.2.2.1 p2 p3) h
  · rw [if_neg h1, if_neg h2] at h; exact h
theorem m_turn {post : Int32 → ZS → Prop} (hG : gG b d n m cs cd ow) (hM : gM v b d n m cs cd ow r) (h : ∀ v', fx [0, 6, 7, 8, 9] [] [3, 4, 5] [] v v' → gM v' b d n m cs cd ow r → post (gT b d n m cs cd) v') : w_m_turn v post := by
  unfold w_m_turn
  refine m_pn hG (gM_sI0 hM) (fun v2 hx2 hM2 hR2 => ?_)
  have hx02 : fx [0, 6, 7, 8, 9] [] [3, 4, 5] [] v v2 := fx_tr (fx_sI fx_rf (by decide)) (fx_mo hx2 (by decide) (by decide) (by decide) (by decide))
  unfold gT at h
  rw [i3_1, i3_2, ph_eq (by omega), ph_eq (by omega)]
  refine ⟨fun h1 => m_rd hG hM2 (fun v4 hx4 hM4 hP4 _ => ?_), fun h1 => ?_⟩
  · have hx04 := fx_tr hx02 (fx_mo hx4 (by decide) (by decide) (by decide) (by decide))
    have h' := h v4 hx04 hM4
    rw [if_neg h1] at h'
    refine ⟨fun h2 => ?_, fun h2 => ?_⟩
    · rw [if_neg h2] at h'; exact h'
    · rw [if_pos h2] at h'
      obtain ⟨p1, p2, p3, p4⟩ := ph2 hG h2
      have hP := hP4 (qmT_of hG (hR2 p1) p3)
      have htn := pl_tn_lt (t := gt cs n) (l0 := gl d cs n) (cd := cd) (n := m)
      unfold b_m_turn_46
      rw [hM4.2.2.1, i3_in (by omega), i3_nat (by omega), hP.2.1 m (Nat.le_refl _)]
      exact ⟨by omega, h'⟩
  · have h' := h v2 hx02 hM2
    rw [if_pos h1] at h'
    rw [hM2.2.1.1]
    exact s_ca hM2.2.1.2.1 h'
theorem m_phase {post : Int32 → ZS → Prop} (hG : gG b d n m cs cd ow) (hM : gM v b d n m cs cd ow r) (h : ∀ v', fx [0, 6, 7, 8, 9] [] [3, 4, 5] [] v v' → gM v' b d n m cs cd ow r → post (i3 (phs b cs n m)) v') : w_m_phase v post := by
  unfold w_m_phase
  refine m_pn hG (gM_sI0 hM) (fun v2 hx2 hM2 hR2 => h v2 ?_ hM2)
  exact fx_tr (fx_sI fx_rf (by decide)) (fx_mo hx2 (by decide) (by decide) (by decide) (by decide))
/-- whether a player has a card, as the document says it -/
def gH (v1 v2 : Int32) (b m : Nat) (cd ow : Nat → Nat) : Prop := ∃ p c, p < 4 ∧ c < 20 ∧ v1 = i3 p ∧ v2 = i3 c ∧ b = 1 ∧ ow c = p ∧ ∀ i, i < m → cd i ≠ c
theorem s_ispl {post : Int32 → ZS → Prop} {p : Int32} (h0 : (p < 0 ∨ 4 ≤ p) → post 0 u) (h1 : ∀ q, q < 4 → p = i3 q → post 1 u) : w_x_isPlayer p u post := by
  simp only [b_x_isPlayer_14, b_x_isPlayer_13, w_x_isPlayer]
  refine ⟨fun hx => ⟨Or.inl trivial, h0 (Or.inl hx)⟩, fun hx => ⟨fun hy => ⟨Or.inl trivial, h0 (Or.inr hy)⟩, fun hy => ⟨Or.inr trivial, ?_⟩⟩⟩
  obtain ⟨q, hq, rfl⟩ := i3_ex hx
  rw [i3_4, i3_le (by omega) (by omega)] at hy
  exact h1 q (by omega) rfl
theorem s_mispl {post : Int32 → ZS → Prop} {p : Int32} (h0 : (p < 0 ∨ 4 ≤ p) → post 0 u) (h1 : ∀ q, q < 4 → p = i3 q → post 1 u) : w_m_isPlayer p u post := by
  simp only [b_m_isPlayer_14, b_m_isPlayer_13, w_m_isPlayer]
  refine ⟨fun hx => ⟨Or.inl trivial, h0 (Or.inl hx)⟩, fun hx => ⟨fun hy => ⟨Or.inl trivial, h0 (Or.inr hy)⟩, fun hy => ⟨Or.inr trivial, ?_⟩⟩⟩
  obtain ⟨q, hq, rfl⟩ := i3_ex hx
  rw [i3_4, i3_le (by omega) (by omega)] at hy
  exact h1 q (by omega) rfl
theorem out_rng {p : Int32} {k q : Nat} (hk : k < 2147483648) (hq : q < k) (h : p < 0 ∨ i3 k ≤ p) (e : p = i3 q) : False := by
  subst e
  rcases h with h | h
  · rw [i3_n0 (by omega)] at h; exact h
  · rw [i3_le hk (by omega)] at h; omega
theorem c_has {post : Int32 → ZS → Prop} {v1 v2 : Int32} (hC : gC u b d n m cs cd ow r) (h1 : gH v1 v2 b m cd ow → post 1 u) (h0 : ¬ gH v1 v2 b m cd ow → post 0 u) : w_x_has v1 v2 u post := by
  unfold w_x_has
  refine s_ispl (fun ho => ⟨fun _ => ⟨Or.inl rfl, h0 ?_⟩, fun hx => absurd rfl hx⟩) (fun p hp e => ⟨fun hx => absurd hx (by decide), fun _ => ?_⟩)
  · rintro ⟨p, c, hp, hc, e1, e2, -⟩
    exact out_rng (by omega) hp ho e1
  · subst e
    refine s_holds hC.2.2.1 hp (fun ho => ⟨fun _ => ⟨Or.inl rfl, h0 ?_⟩, fun hx => absurd rfl hx⟩) (fun c hc e => ⟨fun hb => ⟨fun hx => absurd hx (by decide), fun _ => ⟨Or.inr rfl, h1 ?_⟩⟩, fun hb => ⟨fun _ => ⟨Or.inl rfl, h0 ?_⟩, fun hx => absurd rfl hx⟩⟩)
    · rintro ⟨p', c, hp', hc, e1, e2, -⟩
      exact out_rng (by omega) hc ho e2
    · obtain ⟨x1, x2, x3, x4⟩ := (hC.2.2.1.2.2.2.2 p hp c).mp hb
      exact ⟨p, c, hp, hc, rfl, e, x2, x3, x4⟩
    · rintro ⟨p', c', hp', hc', e1, e2, y1, y2, y3⟩
      rw [i3_eq (by omega) (by omega)] at e1
      rw [e, i3_eq (by omega) (by omega)] at e2
      subst e1; subst e2
      exact hb ((hC.2.2.1.2.2.2.2 p hp c).mpr ⟨hc, y1, y2, y3⟩)
theorem m_has {post : Int32 → ZS → Prop} {v1 v2 : Int32} (hG : gG b d n m cs cd ow) (hM : gM v b d n m cs cd ow r) (h1 : gH v1 v2 b m cd ow → ∀ v', fx [0, 6, 7, 8, 9] [] [3, 4, 5] [] v v' → gM v' b d n m cs cd ow r → post 1 v') (h0 : ¬ gH v1 v2 b m cd ow → ∀ v', fx [0, 6, 7, 8, 9] [] [3, 4, 5] [] v v' → gM v' b d n m cs cd ow r → post 0 v') : w_m_has v1 v2 v post := by
  have hM0 : gM (sI v 0 0) b d n m cs cd ow r := gM_sI0 hM
  have hx0 : fx [0, 6, 7, 8, 9] [] [3, 4, 5] [] v (sI v 0 0) := fx_sI fx_rf (by decide)
  unfold w_m_has b_m_has_29
  rw [hM0.1, i3_0, i3_eq (by have := hG.1; omega) (by omega)]
  refine ⟨fun hb => h0 ?_ _ hx0 hM0, fun hb => ?_⟩
  · rintro ⟨p, c, -, -, -, -, e, -⟩; omega
  have hb1 : b = 1 := by have := hG.1; omega
  refine s_mispl (fun ho => ⟨fun _ => h0 ?_ _ hx0 hM0, fun hx => absurd rfl hx⟩) (fun p hp e => ⟨fun hx => absurd hx (by decide), fun _ => ⟨fun hx => h0 ?_ _ hx0 hM0, fun hx => ⟨fun hy => ?_, fun hy => h0 ?_ _ hx0 hM0⟩⟩⟩)
  · rintro ⟨p, c, hp, hc, e1, e2, -⟩
    exact out_rng (by omega) hp ho e1
  · rintro ⟨p', c, hp', hc, e1, e2, -⟩
    exact out_rng (k := 20) (by omega) hc (Or.inl hx) e2
  · obtain ⟨c, hc, rfl⟩ := i3_ex hx
    rw [i3_19, i3_le (by omega) (by omega)] at hy
    have hc20 : c < 20 := by omega
    subst e
    refine m_rd hG hM0 (fun v4 hx4 hM4 _ hg4 => ?_)
    have hx04 := fx_tr hx0 (fx_mo hx4 (by decide) (by decide) (by decide) (by decide))
    rw [hM4.2.2.1]
    refine s_mholds (cd := cd) (ow := ow) (hM4.2.2.2.2.1 hb1) (hG.2.2.1 hb1).1 hG.2.2.2.2.2.2 hg4 hp hc20 (fun hh => ⟨Or.inr rfl, h1 ⟨p, c, hp, hc20, rfl, rfl, hb1, hh.1, hh.2⟩ v4 hx04 hM4⟩) (fun hh => ⟨Or.inl rfl, h0 ?_ v4 hx04 hM4⟩)
    rintro ⟨p', c', hp', hc', e1, e2, y1, y2, y3⟩
    rw [i3_eq (by omega) (by omega)] at e1
    rw [i3_eq (by omega) (by omega)] at e2
    subst e1; subst e2
    exact hh ⟨y2, y3⟩
  · rintro ⟨p', c, hp', hc, e1, e2, -⟩
    subst e2
    rw [i3_19, i3_le (by omega) (by omega)] at hy
    omega
end Gh
