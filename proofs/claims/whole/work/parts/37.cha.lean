/-! the component's hands -/
/-- m cards cd were played; who holds what; b: whether there is a board -/
def cH (u : ZS) (b m : Nat) (cd ow : Nat → Nat) : Prop := fI u 4 = i3 m ∧ m ≤ 20 ∧ (∀ i, i < m → cd i < 20) ∧ (∀ i, i < m → aI u 6 i = i3 (cd i)) ∧ ∀ p, p < 4 → ∀ c, bt (aI u 4 p) c = true ↔ c < 20 ∧ b = 1 ∧ ow c = p ∧ ∀ i, i < m → cd i ≠ c
/-- trumps and leaders -/
def cL (u : ZS) (t l0 m : Nat) (cd : Nat → Nat) : Prop := fI u 5 = i3 t ∧ t ≤ 4 ∧ l0 < 4 ∧ ∀ j, j ≤ m / 4 → aI u 7 j = i3 (pl_ld t l0 cd j)
/-- the dealt cards, hand by hand from the highest down -/
def cC (u : ZS) (ow : Nat → Nat) : Prop := ∀ p, p < 4 → ∀ c, c < 20 → ow c = p → aI u 5 (5 * p + 5 - pl_cn ow p (c + 1)) = i3 c
theorem cH_congr {u : ZS} {b m : Nat} {cd cd' ow : Nat → Nat} (h : ∀ i, i < m → cd i = cd' i) (hH : cH u b m cd ow) : cH u b m cd' ow := by
  obtain ⟨e4, hm, hcd, h6, hb⟩ := hH
  refine ⟨e4, hm, fun i hi => by rw [← h i hi]; exact hcd i hi, fun i hi => by rw [← h i hi]; exact h6 i hi, fun p hp c => ?_⟩
  rw [hb p hp c]
  refine ⟨fun ⟨x1, x2, x3, x4⟩ => ⟨x1, x2, x3, fun i hi => by rw [← h i hi]; exact x4 i hi⟩, fun ⟨x1, x2, x3, x4⟩ => ⟨x1, x2, x3, fun i hi => by rw [h i hi]; exact x4 i hi⟩⟩
theorem cL_congr {u : ZS} {t l0 m : Nat} {cd cd' : Nat → Nat} (h : ∀ i, i < m → cd i = cd' i) (hL : cL u t l0 m cd) : cL u t l0 m cd' := by
  obtain ⟨e5, ht, hl0, hj⟩ := hL
  exact ⟨e5, ht, hl0, fun j hjm => by rw [hj j hjm, pl_ld_congr (fun i hi => h i (by omega))]⟩
theorem cH_fx {fi fj ai aj : List Nat} {u u' : ZS} {b m : Nat} {cd ow : Nat → Nat} (hx : fx fi fj ai aj u u') (e4 : 4 ∉ fi) (a4 : 4 ∉ ai) (a6 : 6 ∉ ai) (h : cH u b m cd ow) : cH u' b m cd ow := by
  obtain ⟨x1, x2, x3, x4, x5⟩ := h
  exact ⟨by rw [hx.1 4 e4]; exact x1, x2, x3, by rw [hx.2.2.1 6 a6]; exact x4, by rw [hx.2.2.1 4 a4]; exact x5⟩
theorem cL_fx {fi fj ai aj : List Nat} {u u' : ZS} {t l0 m : Nat} {cd : Nat → Nat} (hx : fx fi fj ai aj u u') (e5 : 5 ∉ fi) (a7 : 7 ∉ ai) (h : cL u t l0 m cd) : cL u' t l0 m cd := by
  obtain ⟨x1, x2, x3, x4⟩ := h
  exact ⟨by rw [hx.1 5 e5]; exact x1, x2, x3, by rw [hx.2.2.1 7 a7]; exact x4⟩
theorem cC_fx {fi fj ai aj : List Nat} {u u' : ZS} {ow : Nat → Nat} (hx : fx fi fj ai aj u u') (a5 : 5 ∉ ai) (h : cC u ow) : cC u' ow := by
  unfold cC; rw [hx.2.2.1 5 a5]; exact h
theorem cA_fx {fi fj ai aj : List Nat} {u u' : ZS} {n d : Nat} {cs : Nat → Nat} (hx : fx fi fj ai aj u u') (e2 : 2 ∉ fi) (e3 : 3 ∉ fi) (a3 : 3 ∉ ai) (h : cA u n d cs) : cA u' n d cs := by
  obtain ⟨x1, x2, x3, x4, x5, x6⟩ := h
  exact ⟨by rw [hx.1 2 e2]; exact x1, by rw [hx.1 3 e3]; exact x2, x3, x4, x5, by rw [hx.2.2.1 3 a3]; exact x6⟩
section CHa
variable {u : ZS} {b m t l0 : Nat} {cd ow : Nat → Nat} {post : Int32 → ZS → Prop}
theorem s_player (hH : cH u b m cd ow) (hL : cL u t l0 m cd) (h : post (i3 (pl_tn t l0 cd m)) u) : w_ha_player u post := by
  obtain ⟨e4, hm, hcd, h6, hb⟩ := hH
  obtain ⟨e5, ht, hl0, hj⟩ := hL
  have hlt := pl_ld_lt (t := t) (cd := cd) hl0 (m / 4)
  unfold w_ha_player w_x_playerBehind
  simp (disch := omega) only [e4, i3_0, i3_1, i3_2, i3_3, i3_4, i3_5, i3_6, i3_10, i3_12, i3_15, i3_17, i3_19, i3_20, i3_21, i3_31, i3_139, i3_add, i3_mul, i3_sub, i3_dec, i3_div, i3_eq, i3_lt, i3_le, i3_nat, i3_in, i3_m1, i3_n0, i3_a1, i3_a3, i3_a31, nrem, hj (m / 4) (Nat.le_refl _)]
  exact ⟨by omega, h⟩
theorem s_holds (hH : cH u b m cd ow) {p : Nat} (hp : p < 4) {v : Int32} (h0 : (v < 0 ∨ 20 ≤ v) → post 0 u) (h1 : ∀ c, c < 20 → v = i3 c → (bt (aI u 4 p) c = true → post 1 u) ∧ (¬ bt (aI u 4 p) c = true → post 0 u)) : w_ha_holds (i3 p) v u post := by
  obtain ⟨e4, hm, hcd, h6, hb⟩ := hH
  unfold w_ha_holds
  refine ⟨fun hx => ⟨Or.inl rfl, h0 (Or.inl hx)⟩, fun hx => ⟨fun hy => ⟨Or.inl rfl, h0 (Or.inr hy)⟩, fun hy => ?_⟩⟩
  obtain ⟨c, hc, rfl⟩ := i3_ex hx
  rw [i3_20, i3_le (by omega) hc] at hy
  have h := h1 c (by omega) rfl
  simp (disch := omega) only [b_ha_holds_29, b_ha_holds_28, w_ha_holds, i3_0, i3_1, i3_2, i3_3, i3_4, i3_5, i3_6, i3_10, i3_12, i3_15, i3_17, i3_19, i3_20, i3_21, i3_31, i3_139, i3_add, i3_mul, i3_sub, i3_dec, i3_div, i3_eq, i3_lt, i3_le, i3_nat, i3_in, i3_m1, i3_n0, i3_a1, i3_a3, i3_a31, nrem, Nat.mod_eq_of_lt (show c < 32 by omega), bt_at (x := aI u 4 p) (show c < 32 by omega)]
  exact ⟨hp, fun hz => ⟨Or.inl trivial, h.2 hz⟩, fun hz => ⟨Or.inr trivial, h.1 hz⟩⟩
/-- which cards may be played -/
theorem s_allowed (hb1 : b = 1) (hH : cH u b m cd ow) (hL : cL u t l0 m cd) (h : ∀ x, (∀ c, bt x c = true ↔ pl_lg ow t l0 cd m c) → post x u) : w_ha_allowed u post := by
  have hH' := hH
  obtain ⟨e4, hm, hcd, h6, hb⟩ := hH
  unfold w_ha_allowed
  refine s_player hH' hL ?_
  have ht4 := pl_tn_lt (t := t) (l0 := l0) (cd := cd) (n := m)
  have hb' := hb _ ht4
  simp (disch := omega) only [b_ha_allowed_53, w_ha_allowed, e4, i3_0, i3_1, i3_2, i3_3, i3_4, i3_5, i3_6, i3_10, i3_12, i3_15, i3_17, i3_19, i3_20, i3_21, i3_31, i3_139, i3_add, i3_mul, i3_sub, i3_dec, i3_div, i3_eq, i3_lt, i3_le, i3_nat, i3_in, i3_m1, i3_n0, i3_a1, i3_a3, i3_a31, nrem]
  refine ⟨ht4, fun h0 => ?_, fun h0 => ?_⟩
  · have hi : m - m % 4 < m := by omega
    have hc20 := hcd _ hi
    simp (disch := omega) only [h6 _ hi, i3_0, i3_1, i3_2, i3_3, i3_4, i3_5, i3_6, i3_10, i3_12, i3_15, i3_17, i3_19, i3_20, i3_21, i3_31, i3_139, i3_add, i3_mul, i3_sub, i3_dec, i3_div, i3_eq, i3_lt, i3_le, i3_nat, i3_in, i3_m1, i3_n0, i3_a1, i3_a3, i3_a31, nrem, Nat.mod_eq_of_lt (show cd (m - m % 4) / 5 * 5 < 32 by omega), bt_z]
    have hs : ∀ c, bt (aI u 4 (pl_tn t l0 cd m) &&& i3 31 <<< i3 (cd (m - m % 4) / 5 * 5)) c = true ↔ (c < 20 ∧ b = 1 ∧ ow c = pl_tn t l0 cd m ∧ ∀ i, i < m → cd i ≠ c) ∧ c / 5 = cd (m - m % 4) / 5 := by
      intro c
      rw [bt_and, bt_suit (by omega), Bool.and_eq_true, hb', decide_eq_true_eq]
    refine ⟨by omega, fun hx => h _ (fun c => ?_), fun hx => h _ (fun c => ?_)⟩
    · rw [hs]
      refine ⟨fun ⟨⟨x1, x2, x3, x4⟩, x5⟩ => ⟨x1, x3, x4, Or.inr (Or.inl x5)⟩, fun ⟨x1, x3, x4, x5⟩ => ⟨⟨x1, hb1, x3, x4⟩, ?_⟩⟩
      rcases x5 with x5 | x5 | x5
      · omega
      · exact x5
      · exfalso
        apply hx
        intro k hk
        apply Bool.eq_false_iff.mpr
        intro hk1
        obtain ⟨⟨y1, y2, y3, y4⟩, y5⟩ := (hs k).mp hk1
        obtain ⟨i, hi, he⟩ := x5 k y1 y5 y3
        exact y4 i hi he
    · rw [hb']
      refine ⟨fun ⟨x1, x2, x3, x4⟩ => ⟨x1, x3, x4, Or.inr (Or.inr ?_)⟩, fun ⟨x1, x3, x4, x5⟩ => ⟨x1, hb1, x3, x4⟩⟩
      intro k k1 k2 k3
      apply Classical.byContradiction
      intro hno
      have hk := hx k (by omega)
      rw [Bool.eq_false_iff] at hk
      exact hk ((hs k).mpr ⟨⟨k1, hb1, k3, fun i hi he => hno ⟨i, hi, he⟩⟩, k2⟩)
  · refine h _ (fun c => ?_)
    rw [hb']
    exact ⟨fun ⟨x1, x2, x3, x4⟩ => ⟨x1, x3, x4, Or.inl h0⟩, fun ⟨x1, x3, x4, x5⟩ => ⟨x1, hb1, x3, x4⟩⟩
theorem s_allow (hb1 : b = 1) (hH : cH u b m cd ow) (hL : cL u t l0 m cd) {c : Nat} (hc : c < 20) (h1 : pl_lg ow t l0 cd m c → post 1 u) (h0 : ¬ pl_lg ow t l0 cd m c → post 0 u) : w_ha_allow (i3 c) u post := by
  unfold w_ha_allow
  refine s_allowed hb1 hH hL (fun x hx => ?_)
  simp (disch := omega) only [b_ha_allow_17, w_ha_allow, i3_0, i3_1, i3_2, i3_3, i3_4, i3_5, i3_6, i3_10, i3_12, i3_15, i3_17, i3_19, i3_20, i3_21, i3_31, i3_139, i3_add, i3_mul, i3_sub, i3_dec, i3_div, i3_eq, i3_lt, i3_le, i3_nat, i3_in, i3_m1, i3_n0, i3_a1, i3_a3, i3_a31, nrem, Nat.mod_eq_of_lt (show c < 32 by omega), bt_at (x := x) (show c < 32 by omega), hx c]
  exact ⟨fun hz => ⟨Or.inl trivial, h0 hz⟩, fun hz => ⟨Or.inr trivial, h1 hz⟩⟩
theorem s_beats (ht : fI u 5 = i3 t) (ht4 : t ≤ 4) {c d : Nat} (hc : c < 20) (hd : d < 20) (h1 : pl_bt t c d = true → post 1 u) (h0 : ¬ pl_bt t c d = true → post 0 u) : w_ha_beats (i3 c) (i3 d) u post := by
  unfold pl_bt at h1 h0
  simp (disch := omega) only [b_ha_beats_37, w_ha_beats, ht, i3_0, i3_1, i3_2, i3_3, i3_4, i3_5, i3_6, i3_10, i3_12, i3_15, i3_17, i3_19, i3_20, i3_21, i3_31, i3_139, i3_add, i3_mul, i3_sub, i3_dec, i3_div, i3_eq, i3_lt, i3_le, i3_nat, i3_in, i3_m1, i3_n0, i3_a1, i3_a3, i3_a31, nrem]
  refine ⟨fun hx => ⟨fun hy => ⟨Or.inl trivial, h0 ?_⟩, fun hy => ⟨Or.inr trivial, h1 ?_⟩⟩, fun hx => ⟨fun hy => ⟨Or.inl trivial, h0 ?_⟩, fun hy => ⟨Or.inr trivial, h1 ?_⟩⟩⟩
  · rw [if_neg hx, decide_eq_true_eq]; exact hy
  · rw [if_neg hx, decide_eq_true_eq]; exact hy
  · rw [if_pos hx, decide_eq_true_eq]; omega
  · rw [if_pos hx, decide_eq_true_eq]; omega
theorem s_win {j : Nat} (hj : j < 5) (h6 : ∀ i, i < 4 → aI u 6 (4 * j + i) = i3 (cd (4 * j + i)) ∧ cd (4 * j + i) < 20) (ht : fI u 5 = i3 t) (ht4 : t ≤ 4) {l : Nat} (hl : l < 4) (h7 : aI u 7 j = i3 l) (h : post (i3 ((l + pl_bi t (fun i => cd (4 * j + i))) % 4)) u) : w_ha_winnerOf (i3 j) u post := by
  unfold w_ha_winnerOf
  refine ⟨4, ?_⟩
  have l1 := pl_b1_lt (t := t) (fun i => cd (4 * j + i))
  have l2 := pl_b2_lt (t := t) (fun i => cd (4 * j + i))
  have l3 := pl_bi_lt (t := t) (fun i => cd (4 * j + i))
  have e4 : j * 4 = 4 * j := by omega
  have st : ∀ (f k q q' : Nat), k < 4 → q < k → q' = (if pl_bt t (cd (4 * j + k)) (cd (4 * j + q)) = true then k else q) → b_ha_winnerOf_9 post f (i3 j) (i3 (4 * j)) (i3 q') (i3 (k + 1)) u → b_ha_winnerOf_9 post (f + 1) (i3 j) (i3 (4 * j)) (i3 q) (i3 k) u := by
    intro f k q q' hk hq eq hr
    unfold b_ha_winnerOf_9
    refine ⟨fun hx => ?_, fun _ => ?_⟩
    · rw [i3_4, i3_le (by omega) (by omega)] at hx; omega
    · simp (disch := omega) only [i3_0, i3_1, i3_2, i3_3, i3_4, i3_5, i3_6, i3_10, i3_12, i3_15, i3_17, i3_19, i3_20, i3_21, i3_31, i3_139, i3_add, i3_mul, i3_sub, i3_dec, i3_div, i3_eq, i3_lt, i3_le, i3_nat, i3_in, i3_m1, i3_n0, i3_a1, i3_a3, i3_a31, nrem, (h6 k hk).1, (h6 q (by omega)).1]
      refine ⟨by omega, by omega, s_beats ht ht4 (h6 k hk).2 (h6 q (by omega)).2 (fun hb => ?_) (fun hb => ?_)⟩
      · rw [if_pos hb] at eq; subst eq
        refine ⟨fun hx => absurd hx (by decide), fun _ => ?_⟩
        unfold b_ha_winnerOf_42
        rw [i3_1, i3_add]; exact hr
      · rw [if_neg hb] at eq; subst eq
        refine ⟨fun _ => ?_, fun hx => absurd rfl hx⟩
        unfold b_ha_winnerOf_42
        rw [i3_1, i3_add]; exact hr
  have e0 : i3 j * 4 = i3 (4 * j) := by rw [i3_4, i3_mul, e4]
  rw [e0]
  refine st 3 1 0 (pl_b1 t (fun i => cd (4 * j + i))) (by omega) (by omega) rfl ?_
  refine st 2 2 _ (pl_b2 t (fun i => cd (4 * j + i))) (by omega) l1 rfl ?_
  refine st 1 3 _ (pl_bi t (fun i => cd (4 * j + i))) (by omega) l2 rfl ?_
  unfold b_ha_winnerOf_9
  refine ⟨fun _ => ?_, fun hx => absurd (by decide) hx⟩
  unfold w_x_playerBehind
  simp (disch := omega) only [i3_0, i3_1, i3_2, i3_3, i3_4, i3_5, i3_6, i3_10, i3_12, i3_15, i3_17, i3_19, i3_20, i3_21, i3_31, i3_139, i3_add, i3_mul, i3_sub, i3_dec, i3_div, i3_eq, i3_lt, i3_le, i3_nat, i3_in, i3_m1, i3_n0, i3_a1, i3_a3, i3_a31, nrem, h7]
  exact ⟨by omega, h⟩
theorem s_put {post : ZS → Prop} (hb1 : b = 1) (hD : ∀ c, c < 20 → ow c < 4) (hH : cH u b m cd ow) (hL : cL u t l0 m cd) {c : Nat} (hl : pl_lg ow t l0 cd m c) (hm : m < 20) (h : ∀ u', cH u' b (m + 1) (va_up cd m c) ow → cL u' t l0 (m + 1) (va_up cd m c) → fx [4] [] [4, 6, 7] [] u u' → post u') : w_ha_put (i3 c) u post := by
  have hH' := hH
  have hL' := hL
  obtain ⟨e4, -, hcd, h6, hb⟩ := hH
  obtain ⟨e5, ht, hl0, hj⟩ := hL
  have ht4 := pl_tn_lt (t := t) (l0 := l0) (cd := cd) (n := m)
  have hc20 := hl.1
  -- the picture behind the card
  have key : ∀ u1, u1 = sI (pI (pI u 4 (pl_tn t l0 cd m) (aI u 4 (pl_tn t l0 cd m) &&& (i3 1 <<< i3 c ^^^ -(i3 1)))) 6 m (i3 c)) 4 (i3 (m + 1)) → cH u1 b (m + 1) (va_up cd m c) ow ∧ (fI u1 5 = i3 t ∧ aI u1 7 = aI u 7) ∧ fx [4] [] [4, 6, 7] [] u u1 := by
    intro u1 eu
    subst eu
    refine ⟨⟨f1, by omega, fun i hi => ?_, fun i hi => ?_, fun p hp x => ?_⟩, ⟨by rw [f2 (by decide), f4, f4]; exact e5, by rw [a3, a2 (by decide), a2 (by decide)]⟩, fx_sI (fx_pI (fx_pI fx_rf (by decide)) (by decide)) (by decide)⟩
    · by_cases him : i = m
      · subst him; rw [va_up_s]; exact hc20
      · rw [va_up_n him]; exact hcd i (by omega)
    · rw [a3, a1]
      by_cases him : i = m
      · subst him; rw [va_up_s, up1]
      · rw [va_up_n him, up2 him, a2 (by decide)]; exact h6 i (by omega)
    · rw [a3, a2 (by decide), a1]
      have hall : (∀ i, i < m + 1 → va_up cd m c i ≠ x) ↔ (∀ i, i < m → cd i ≠ x) ∧ c ≠ x := by
        refine ⟨fun hh => ⟨fun i hi => ?_, ?_⟩, fun hh i hi => ?_⟩
        · have := hh i (by omega); rw [va_up_n (by omega)] at this; exact this
        · have := hh m (by omega); rw [va_up_s] at this; exact this
        · by_cases him : i = m
          · subst him; rw [va_up_s]; exact hh.2
          · rw [va_up_n him]; exact hh.1 i (by omega)
      rw [hall]
      by_cases hpt : p = pl_tn t l0 cd m
      · rw [← hpt, up1, bt_and, bt_xor, Bool.and_eq_true, hb p hp x, bt_one (by omega)]
        by_cases hx : x < 32
        · rw [bt_m1 hx]
          refine ⟨fun ⟨⟨x1, x2, x3, x4⟩, x5⟩ => ⟨x1, x2, x3, x4, ?_⟩, fun ⟨x1, x2, x3, x4, x5⟩ => ⟨⟨x1, x2, x3, x4⟩, ?_⟩⟩
          · intro e; rw [← e] at x5; simp at x5
          · have : ¬ x = c := fun e => x5 e.symm
            simp [this]
        · refine ⟨fun ⟨⟨x1, _⟩, _⟩ => by omega, fun ⟨x1, _⟩ => by omega⟩
      · rw [up2 hpt, hb p hp x]
        refine ⟨fun ⟨x1, x2, x3, x4⟩ => ⟨x1, x2, x3, x4, ?_⟩, fun ⟨x1, x2, x3, x4, x5⟩ => ⟨x1, x2, x3, x4⟩⟩
        intro e
        rw [← e, hl.2.1] at x3
        exact hpt x3.symm
  obtain ⟨k1, ⟨k2, k3⟩, k4⟩ := key _ rfl
  unfold w_ha_put
  refine ⟨fun hx => ?_, fun _ => ?_⟩
  · rw [e4, i3_20, i3_le (by omega) (by omega)] at hx; omega
  refine s_player hH' hL' ?_
  simp (disch := omega) only [b_ha_put_78, w_ha_put, f1, f2, f3, f4, f5, g1, g2, g3, g4, g5, a1, a2, a3, a4, a5, zh1, zh2, zh3, zh4, zh5, e4, i3_0, i3_1, i3_2, i3_3, i3_4, i3_5, i3_6, i3_10, i3_12, i3_15, i3_17, i3_19, i3_20, i3_21, i3_31, i3_139, i3_add, i3_mul, i3_sub, i3_dec, i3_div, i3_eq, i3_lt, i3_le, i3_nat, i3_in, i3_m1, i3_n0, i3_a1, i3_a3, i3_a31, nrem, Nat.mod_eq_of_lt (show c < 32 by omega)]
  refine ⟨ht4, ht4, hm, fun hx => ?_, fun hx => ?_⟩
  · refine h _ k1 ⟨k2, ht, hl0, fun j hjm => ?_⟩ k4
    rw [k3, hj j (by omega), pl_ld_congr (cd' := va_up cd m c) (fun i hi => (va_up_n (by omega)).symm)]
  · have hq : (m + 1) / 4 - 1 = m / 4 := by omega
    rw [i3_sub (by omega), hq]
    have hld := pl_ld_lt (t := t) (cd := cd) hl0 (m / 4)
    refine s_win (cd := va_up cd m c) (l := pl_ld t l0 cd (m / 4)) (by omega) (fun i hi => ⟨k1.2.2.2.1 _ (by omega), k1.2.2.1 _ (by omega)⟩) k2 ht hld (by rw [k3]; exact hj _ (Nat.le_refl _)) ?_
    have hlast : (pl_ld t l0 cd (m / 4) + pl_bi t (fun i => va_up cd m c (4 * (m / 4) + i))) % 4 = pl_ld t l0 (va_up cd m c) ((m + 1) / 4) := by
      have e : (m + 1) / 4 = m / 4 + 1 := by omega
      rw [e, pl_ld_s, pl_ld_congr (cd := va_up cd m c) (cd' := cd) (fun i hi => va_up_n (by omega))]
    rw [hlast]
    refine ⟨by omega, h _ ?_ ?_ ?_⟩
    · exact cH_fx (fi := []) (fj := []) (ai := [7]) (aj := []) (fx_pI fx_rf (by decide)) (by decide) (by decide) (by decide) k1
    · refine ⟨k2, ht, hl0, fun j hjm => ?_⟩
      rw [a1]
      by_cases hje : j = (m + 1) / 4
      · rw [hje, up1]
      · rw [up2 hje, k3, hj j (by omega), pl_ld_congr (cd' := va_up cd m c) (fun i hi => (va_up_n (by omega)).symm)]
    · exact fx_pI k4 (by decide)
theorem s_tbk {post : ZS → Prop} (hV : pl_V ow t l0 cd (m + 1)) (hb1 : b = 1) (hH : cH u b (m + 1) cd ow) (hL : cL u t l0 (m + 1) cd) (h : ∀ u', cH u' b m cd ow → cL u' t l0 m cd → fx [4] [] [4, 6, 7] [] u u' → post u') : w_ha_takeBack u post := by
  obtain ⟨e4, hm, hcd, h6, hb⟩ := hH
  obtain ⟨e5, ht, hl0, hj⟩ := hL
  have ht4 := pl_tn_lt (t := t) (l0 := l0) (cd := cd) (n := m)
  have hld := pl_ld_lt (t := t) (cd := cd) hl0 (m / 4)
  have hc20 := hcd m (by omega)
  have hlm := hV m (by omega)
  unfold w_ha_takeBack
  rw [e4]
  refine ⟨fun hx => ?_, fun _ => ?_⟩
  · rw [i3_0, i3_le (by omega) (by omega)] at hx; omega
  unfold w_ha_player w_x_playerBehind
  simp (disch := omega) only [b_ha_takeBack_40, w_ha_takeBack, f1, f2, f3, f4, f5, g1, g2, g3, g4, g5, a1, a2, a3, a4, a5, zh1, zh2, zh3, zh4, zh5, e4, i3_0, i3_1, i3_2, i3_3, i3_4, i3_5, i3_6, i3_10, i3_12, i3_15, i3_17, i3_19, i3_20, i3_21, i3_31, i3_139, i3_add, i3_mul, i3_sub, i3_dec, i3_div, i3_eq, i3_lt, i3_le, i3_nat, i3_in, i3_m1, i3_n0, i3_a1, i3_a3, i3_a31, nrem, Nat.add_sub_cancel, hj (m / 4) (by omega), h6 m (by omega), Nat.mod_eq_of_lt (show cd m < 32 by omega)]
  have etn : (pl_ld t l0 cd (m / 4) + m % 4) % 4 = pl_tn t l0 cd m := rfl
  rw [etn]
  refine ⟨by omega, ht4, by omega, ht4, h _ ⟨?_, by omega, fun i hi => hcd i (by omega), fun i hi => ?_, fun p hp x => ?_⟩ ⟨?_, ht, hl0, fun j hjm => ?_⟩ ?_⟩
  · rw [f4]; exact f1
  · rw [a2 (by decide), a3]; exact h6 i (by omega)
  · rw [a1]
    have hall : (∀ i, i < m + 1 → cd i ≠ x) ↔ (∀ i, i < m → cd i ≠ x) ∧ cd m ≠ x := by
      refine ⟨fun hh => ⟨fun i hi => hh i (by omega), hh m (by omega)⟩, fun hh i hi => ?_⟩
      by_cases him : i = m
      · subst him; exact hh.2
      · exact hh.1 i (by omega)
    by_cases hpt : p = pl_tn t l0 cd m
    · rw [← hpt, up1, bt_or, Bool.or_eq_true, hb p hp x, bt_one (by omega), hall, decide_eq_true_eq]
      refine ⟨fun hh => ?_, fun ⟨x1, x2, x3, x4⟩ => ?_⟩
      · rcases hh with ⟨x1, x2, x3, x4, x5⟩ | hh
        · exact ⟨x1, x2, x3, x4⟩
        · subst hh
          refine ⟨hc20, hb1, by rw [hlm.2.1]; exact hpt.symm, hlm.2.2.1⟩
      · by_cases hx : x = cd m
        · exact Or.inr hx
        · exact Or.inl ⟨x1, x2, x3, x4, fun e => hx e.symm⟩
    · rw [up2 hpt, a3, hb p hp x, hall]
      refine ⟨fun ⟨x1, x2, x3, x4, x5⟩ => ⟨x1, x2, x3, x4⟩, fun ⟨x1, x2, x3, x4⟩ => ⟨x1, x2, x3, x4, ?_⟩⟩
      intro e
      rw [← e, hlm.2.1] at x3
      exact hpt x3.symm
  · rw [f4, f2 (by decide)]; exact e5
  · rw [a2 (by decide), a3]; exact hj j (by omega)
  · exact fx_pI (fx_sI fx_rf (by decide)) (by decide)
theorem s_won_l (hm : fI u 4 = i3 m) (hm20 : m ≤ 20) (hj : ∀ j, 0 < j → j ≤ m / 4 → aI u 7 j = i3 (pl_ld t l0 cd j)) (hl0 : l0 < 4) {s : Nat} (hs : s < 2) (h : post (i3 (pl_wn t l0 s cd (m / 4))) u) : ∀ f j : Nat, f + j = m / 4 → b_ha_won_4 post (f + 1) (i3 s) (i3 (pl_wn t l0 s cd j)) (i3 (j + 1)) u := by
  intro f
  induction f with
  | zero =>
    intro j he
    have e : j = m / 4 := by omega
    subst e
    unfold b_ha_won_4
    simp (disch := omega) only [hm, i3_0, i3_1, i3_2, i3_3, i3_4, i3_5, i3_6, i3_10, i3_12, i3_15, i3_17, i3_19, i3_20, i3_21, i3_31, i3_139, i3_add, i3_mul, i3_sub, i3_dec, i3_div, i3_eq, i3_lt, i3_le, i3_nat, i3_in, i3_m1, i3_n0, i3_a1, i3_a3, i3_a31, nrem]
    exact ⟨fun _ => h, fun hx => by omega⟩
  | succ f ih =>
    intro j he
    have hld := pl_ld_lt (t := t) (cd := cd) hl0 (j + 1)
    unfold b_ha_won_4 w_x_sideOf b_ha_won_30
    simp (disch := omega) only [hm, i3_0, i3_1, i3_2, i3_3, i3_4, i3_5, i3_6, i3_10, i3_12, i3_15, i3_17, i3_19, i3_20, i3_21, i3_31, i3_139, i3_add, i3_mul, i3_sub, i3_dec, i3_div, i3_eq, i3_lt, i3_le, i3_nat, i3_in, i3_m1, i3_n0, i3_a1, i3_a3, i3_a31, nrem, hj (j + 1) (by omega) (by omega)]
    refine ⟨fun hx => by omega, fun _ => ⟨by omega, fun hx => ?_, fun hx => ?_⟩⟩
    · have := ih (j + 1) (by omega)
      rw [pl_wn_s, if_neg hx] at this
      exact this
    · have := ih (j + 1) (by omega)
      rw [pl_wn_s, if_pos hx] at this
      exact this
theorem s_won (hm : fI u 4 = i3 m) (hm20 : m ≤ 20) (hj : ∀ j, 0 < j → j ≤ m / 4 → aI u 7 j = i3 (pl_ld t l0 cd j)) (hl0 : l0 < 4) {s : Nat} (hs : s < 2) (h : post (i3 (pl_wn t l0 s cd (m / 4))) u) : w_ha_won (i3 s) u post :=
  ⟨m / 4 + 1, s_won_l hm hm20 hj hl0 hs h (m / 4) 0 (by omega)⟩
theorem s_live_l (hH : cH u b m cd ow) (h : ∀ x, (∀ c, bt x c = true ↔ (∃ p, p < 4 ∧ bt (aI u 4 p) c = true) ∨ ∃ i, m - m % 4 ≤ i ∧ i < m ∧ cd i = c) → post x u) : ∀ f j : Nat, f + j = m → m - m % 4 ≤ j → ∀ x, (∀ c, bt x c = true ↔ (∃ p, p < 4 ∧ bt (aI u 4 p) c = true) ∨ ∃ i, m - m % 4 ≤ i ∧ i < j ∧ cd i = c) → b_ha_live_40 post (f + 1) x (i3 j) u := by
  obtain ⟨e4, hm, hcd, h6, hb⟩ := hH
  intro f
  induction f with
  | zero =>
    intro j he hmj x hx
    have e : j = m := by omega
    subst e
    unfold b_ha_live_40
    simp (disch := omega) only [e4, i3_0, i3_1, i3_2, i3_3, i3_4, i3_5, i3_6, i3_10, i3_12, i3_15, i3_17, i3_19, i3_20, i3_21, i3_31, i3_139, i3_add, i3_mul, i3_sub, i3_dec, i3_div, i3_eq, i3_lt, i3_le, i3_nat, i3_in, i3_m1, i3_n0, i3_a1, i3_a3, i3_a31, nrem]
    exact ⟨fun _ => h x hx, fun hy => by omega⟩
  | succ f ih =>
    intro j he hmj x hx
    have hc20 := hcd j (by omega)
    unfold b_ha_live_40
    simp (disch := omega) only [e4, i3_0, i3_1, i3_2, i3_3, i3_4, i3_5, i3_6, i3_10, i3_12, i3_15, i3_17, i3_19, i3_20, i3_21, i3_31, i3_139, i3_add, i3_mul, i3_sub, i3_dec, i3_div, i3_eq, i3_lt, i3_le, i3_nat, i3_in, i3_m1, i3_n0, i3_a1, i3_a3, i3_a31, nrem, h6 j (by omega), Nat.mod_eq_of_lt (show cd j < 32 by omega)]
    refine ⟨fun hy => by omega, fun _ => ⟨by omega, ih (j + 1) (by omega) (by omega) _ (fun c => ?_)⟩⟩
    rw [bt_or, Bool.or_eq_true, hx c, bt_one (by omega), decide_eq_true_eq]
    refine ⟨fun hh => ?_, fun hh => ?_⟩
    · rcases hh with (hh | ⟨i, h1, h2, h3⟩) | hh
      · exact Or.inl hh
      · exact Or.inr ⟨i, h1, by omega, h3⟩
      · exact Or.inr ⟨j, hmj, by omega, hh.symm⟩
    · rcases hh with hh | ⟨i, h1, h2, h3⟩
      · exact Or.inl (Or.inl hh)
      · by_cases hij : i = j
        · subst hij; exact Or.inr h3.symm
        · exact Or.inl (Or.inr ⟨i, h1, by omega, h3⟩)
/-- the live cards: all but those of finished tricks -/
theorem s_live (hb1 : b = 1) (hD : ∀ c, c < 20 → ow c < 4) (hV : pl_V ow t l0 cd m) (hH : cH u b m cd ow) (h : ∀ x, (∀ c, bt x c = true ↔ c < 20 ∧ ∀ i, i < 4 * (m / 4) → cd i ≠ c) → post x u) : w_ha_live u post := by
  have hH' := hH
  obtain ⟨e4, hm, hcd, h6, hb⟩ := hH
  unfold w_ha_live
  simp (disch := omega) only [e4, i3_0, i3_1, i3_2, i3_3, i3_4, i3_5, i3_6, i3_10, i3_12, i3_15, i3_17, i3_19, i3_20, i3_21, i3_31, i3_139, i3_add, i3_mul, i3_sub, i3_dec, i3_div, i3_eq, i3_lt, i3_le, i3_nat, i3_in, i3_m1, i3_n0, i3_a1, i3_a3, i3_a31, nrem]
  refine ⟨by omega, by omega, by omega, by omega, m % 4 + 1, ?_⟩
  refine s_live_l hH' (fun x hx => h x (fun c => ?_)) (m % 4) (m - m % 4) (by omega) (Nat.le_refl _) _ (fun c => ?_)
  · rw [hx c]
    have hq : 4 * (m / 4) = m - m % 4 := by omega
    refine ⟨fun hh => ?_, fun ⟨h1, h2⟩ => ?_⟩
    · rcases hh with ⟨p, hp, hc⟩ | ⟨i, i1, i2, i3'⟩
      · obtain ⟨x1, x2, x3, x4⟩ := (hb p hp c).mp hc
        exact ⟨x1, fun i hi => x4 i (by omega)⟩
      · subst i3'
        exact ⟨hcd i i2, fun k hk => (hV i i2).2.2.1 k (by omega)⟩
    · by_cases hp : ∃ i, i < m ∧ cd i = c
      · obtain ⟨i, hi, he⟩ := hp
        refine Or.inr ⟨i, ?_, hi, he⟩
        apply Classical.byContradiction
        intro hlt
        exact h2 i (by omega) he
      · exact Or.inl ⟨ow c, hD c h1, (hb _ (hD c h1) c).mpr ⟨h1, hb1, rfl, fun i hi he => hp ⟨i, hi, he⟩⟩⟩
  · rw [bt_or, bt_or, bt_or, Bool.or_eq_true, Bool.or_eq_true, Bool.or_eq_true]
    refine ⟨fun hh => Or.inl ?_, fun hh => ?_⟩
    · rcases hh with ((hh | hh) | hh) | hh
      · exact ⟨0, by omega, hh⟩
      · exact ⟨1, by omega, hh⟩
      · exact ⟨2, by omega, hh⟩
      · exact ⟨3, by omega, hh⟩
    · rcases hh with ⟨p, hp, hh⟩ | ⟨i, i1, i2, _⟩
      · have hq : p = 0 ∨ p = 1 ∨ p = 2 ∨ p = 3 := by omega
        rcases hq with rfl | rfl | rfl | rfl
        · exact Or.inl (Or.inl (Or.inl hh))
        · exact Or.inl (Or.inl (Or.inr hh))
        · exact Or.inl (Or.inr hh)
        · exact Or.inr hh
      · omega
theorem s_table (hm : fI u 4 = i3 m) (hm20 : m ≤ 20) (h6 : ∀ i, i < m → aI u 6 i = i3 (cd i)) {v : Int32} (h0 : (v < 0 ∨ i3 (m % 4) ≤ v) → post (-1 : Int32) u) (h1 : ∀ i, v = i3 i → i < m % 4 → post (i3 (cd (m - m % 4 + i))) u) : w_ha_onTable v u post := by
  unfold w_ha_onTable
  simp (disch := omega) only [b_ha_onTable_33, b_ha_onTable_32, w_ha_onTable, hm, i3_4, i3_add, i3_mul, i3_sub, i3_dec, i3_div, i3_eq, i3_lt, i3_le, i3_nat, i3_in, i3_m1, i3_n0, i3_a1, i3_a3, i3_a31, nrem]
  refine ⟨fun hx => h0 (Or.inl hx), fun hx => ⟨fun hy => h0 (Or.inr hy), fun hy => ?_⟩⟩
  obtain ⟨i, hi, rfl⟩ := i3_ex hx
  rw [i3_le (by omega) hi] at hy
  simp (disch := omega) only [i3_add, i3_mul, i3_sub, i3_dec, i3_div, i3_eq, i3_lt, i3_le, i3_nat, i3_in, i3_m1, i3_n0, i3_a1, i3_a3, i3_a31, nrem, h6 (m - m % 4 + i) (by omega)]
  exact ⟨by omega, h1 i rfl (by omega)⟩
end CHa
