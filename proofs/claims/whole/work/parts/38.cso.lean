/-! the component's solver -/
theorem pl_cn_mono (ow : Nat → Nat) (p : Nat) : ∀ {a b : Nat}, a ≤ b → pl_cn ow p a ≤ pl_cn ow p b
  | a, 0, h => by have e : a = 0 := by omega
                  subst e; exact Nat.le_refl _
  | a, b + 1, h => by
    by_cases hab : a = b + 1
    · subst hab; exact Nat.le_refl _
    · rw [pl_cn_s]; have := pl_cn_mono ow p (a := a) (b := b) (by omega); omega
theorem pl_at (ow : Nat → Nat) (p : Nat) : ∀ n k : Nat, 0 < k → k ≤ pl_cn ow p n → ∃ c, c < n ∧ ow c = p ∧ pl_cn ow p (c + 1) = k
  | 0, k, h0, h => by simp [pl_cn] at h; omega
  | n + 1, k, h0, h => by
    by_cases hk : k ≤ pl_cn ow p n
    · obtain ⟨c, h1, h2, h3⟩ := pl_at ow p n k h0 hk
      exact ⟨c, by omega, h2, h3⟩
    · have h' := h
      rw [pl_cn_s] at h
      have ho : ow n = p := by
        apply Classical.byContradiction
        intro hn
        rw [if_neg hn] at h; omega
      rw [if_pos ho] at h
      refine ⟨n, by omega, ho, ?_⟩
      rw [pl_cn_s, if_pos ho]; omega
/-- of two cards of a hand the higher one comes first -/
theorem pl_cn_lt {ow : Nat → Nat} {p a b : Nat} (hb : ow b = p) (h : a < b) : pl_cn ow p (a + 1) < pl_cn ow p (b + 1) := by
  have := pl_cn_mono ow p (a := a + 1) (b := b) (by omega)
  rw [pl_cn_s ow p b, if_pos hb]; omega
section CSo
variable {u : ZS} {b m t l0 s k : Nat} {cd ow : Nat → Nat} {post : Int32 → ZS → Prop}
theorem s_alike {c : Nat} (hc : c < 20) {hi y : Int32} (h0 : (hi = -(i3 1) ∨ ∃ h, h < 20 ∧ hi = i3 h ∧ (c / 5 ≠ h / 5 ∨ ∃ x, c < x ∧ x < h ∧ bt y x = true)) → post 0 u) (h1 : ∀ h, h < 20 → hi = i3 h → c / 5 = h / 5 → (∀ x, c < x → x < h → bt y x = false) → post 1 u) (hh : hi = -(i3 1) ∨ ∃ h, c < h ∧ h < 20 ∧ hi = i3 h) : w_so_areAlike (i3 c) hi y u post := by
  unfold w_so_areAlike
  rcases hh with hh | ⟨h, hch, hh20, hh⟩
  · refine ⟨fun _ => h0 (Or.inl hh), fun hx => absurd hh hx⟩
  · subst hh
    simp (disch := omega) only [b_so_areAlike_14, b_so_areAlike_37, w_so_areAlike, i3_0, i3_1, i3_2, i3_3, i3_4, i3_5, i3_6, i3_10, i3_12, i3_15, i3_17, i3_19, i3_20, i3_21, i3_31, i3_139, i3_add, i3_mul, i3_sub, i3_dec, i3_div, i3_eq, i3_lt, i3_le, i3_nat, i3_in, i3_m1, i3_n0, i3_a1, i3_a3, i3_a31, nrem, Nat.mod_eq_of_lt (show h < 32 by omega), Nat.mod_eq_of_lt (show c + 1 < 32 by omega), bt_z]
    have hs : ∀ x, bt (y &&& (i3 1 <<< i3 h - i3 1 <<< i3 (c + 1))) x = true ↔ bt y x = true ∧ c < x ∧ x < h := by
      intro x; rw [bt_and, bt_btw hch hh20, Bool.and_eq_true, decide_eq_true_eq]
    refine ⟨fun hx => hx.elim, fun _ => ⟨fun he => ⟨fun hx => ⟨Or.inl trivial, h0 (Or.inr ⟨h, hh20, rfl, Or.inr ?_⟩)⟩, fun hx => ⟨Or.inr trivial, h1 h hh20 rfl he (fun x x1 x2 => ?_)⟩⟩, fun he => h0 (Or.inr ⟨h, hh20, rfl, Or.inl he⟩)⟩⟩
    · apply Classical.byContradiction
      intro hno
      apply hx
      intro x hx32
      apply Bool.eq_false_iff.mpr
      intro hb
      obtain ⟨y1, y2, y3⟩ := (hs x).mp hb
      exact hno ⟨x, y2, y3, y1⟩
    · apply Bool.eq_false_iff.mpr
      intro hb
      have := hx x (by omega)
      rw [Bool.eq_false_iff] at this
      exact this ((hs x).mpr ⟨hb, x1, x2⟩)
/-- what a search behind m cards does -/
def cSR (ow : Nat → Nat) (b t l0 s : Nat) (RR : Int32 → Int32 → Int32 → ZS → (Int32 → ZS → Prop) → Prop) (m : Nat) : Prop :=
  ∀ (k : Nat) (cd : Nat → Nat) (u : ZS) (post : Int32 → ZS → Prop), k < 100 → pl_V ow t l0 cd m → cH u b m cd ow → cL u t l0 m cd → cC u ow →
    (∀ u', cH u' b m cd ow → cL u' t l0 m cd → fx [4] [] [4, 6, 7] [] u u' → (pl_A ow t l0 s ((pl_wn t l0 s cd (m / 4) : Int) + k) (20 - m) cd m → post 1 u') ∧ (¬ pl_A ow t l0 s ((pl_wn t l0 s cd (m / 4) : Int) + k) (20 - m) cd m → post 0 u')) →
    RR (i3 s) (i3 k) (i3 (20 - m)) u post
theorem s_rw {RR : Int32 → Int32 → Int32 → ZS → (Int32 → ZS → Prop) → Prop} (hb1 : b = 1) (hD : pl_D ow) (hm : m < 20) (hs : s < 2) (hk : 0 < k) (hk100 : k < 100) (ih : cSR ow b t l0 s RR (m + 1)) (hV : pl_V ow t l0 cd m) (hH : cH u b m cd ow) (hL : cL u t l0 m cd) (hC : cC u ow) {c : Nat} (hl : pl_lg ow t l0 cd m c)
    (h : ∀ u', cH u' b m cd ow → cL u' t l0 m cd → fx [4] [] [4, 6, 7] [] u u' → (pl_A ow t l0 s ((pl_wn t l0 s cd (m / 4) : Int) + k) (20 - (m + 1)) (va_up cd m c) (m + 1) → post 1 u') ∧ (¬ pl_A ow t l0 s ((pl_wn t l0 s cd (m / 4) : Int) + k) (20 - (m + 1)) (va_up cd m c) (m + 1) → post 0 u')) :
    w_so_reachesWith RR (i3 c) (i3 s) (i3 k) (i3 (20 - m)) u post := by
  have hl0 := hL.2.2.1
  have hV1 := pl_V_next hV hl
  unfold w_so_reachesWith
  refine s_put hb1 hD.1 hH hL hl hm (fun u6 hH6 hL6 hx6 => ?_)
  have hC6 : cC u6 ow := cC_fx hx6 (by decide) hC
  -- the rest of the search, with the need that is left
  have rest : ∀ k1 : Nat, k1 < 100 → (pl_wn t l0 s (va_up cd m c) ((m + 1) / 4) : Int) + k1 = (pl_wn t l0 s cd (m / 4) : Int) + k → RR (i3 s) (i3 k1) (i3 (20 - m) - 1) u6 (fun r1 u2 => w_ha_takeBack u2 (fun u4 => (r1 = 0 ∨ r1 = 1) ∧ post r1 u4)) := by
    intro k1 hk1 he
    have e : i3 (20 - m) - 1 = i3 (20 - (m + 1)) := by rw [i3_1, i3_sub (by omega)]; rfl
    rw [e]
    refine ih k1 (va_up cd m c) u6 _ hk1 hV1 hH6 hL6 hC6 (fun u' hH' hL' hx' => ?_)
    rw [he]
    have back : ∀ r : Int32, (r = 0 ∨ r = 1) → (∀ u'', cH u'' b m cd ow → cL u'' t l0 m cd → fx [4] [] [4, 6, 7] [] u u'' → post r u'') → w_ha_takeBack u' (fun u4 => (r = 0 ∨ r = 1) ∧ post r u4) := by
      intro r hr hp
      refine s_tbk hV1 hb1 hH' hL' (fun u'' hH'' hL'' hx'' => ⟨hr, hp u'' ?_ ?_ (fx_tr hx6 (fx_tr hx' hx''))⟩)
      · exact cH_congr (fun i hi => va_up_n (by omega)) hH''
      · exact cL_congr (fun i hi => va_up_n (by omega)) hL''
    exact ⟨fun hA => back 1 (Or.inr rfl) (fun u'' h1 h2 h3 => (h u'' h1 h2 h3).1 hA), fun hA => back 0 (Or.inl rfl) (fun u'' h1 h2 h3 => (h u'' h1 h2 h3).2 hA)⟩
  have e4 := hH6.1
  have hld := pl_ld_lt (t := t) (cd := va_up cd m c) hl0 ((m + 1) / 4)
  have e46 : fI u6 4 - fI u6 4 / 4 * 4 = i3 ((m + 1) % 4) := by
    rw [e4]
    simp (disch := omega) only [i3_0, i3_1, i3_2, i3_3, i3_4, i3_5, i3_6, i3_10, i3_12, i3_15, i3_17, i3_19, i3_20, i3_21, i3_31, i3_139, i3_add, i3_mul, i3_sub, i3_dec, i3_div, i3_eq, i3_lt, i3_le, i3_nat, i3_in, i3_m1, i3_n0, i3_a1, i3_a3, i3_a31, nrem]
  rw [e46]
  refine ⟨fun hx => ?_, fun hx => ?_⟩
  · rw [i3_0, i3_eq (by omega) (by omega)] at hx
    simp only [b_so_reachesWith_46, b_so_reachesWith_30, b_so_reachesWith_29, w_so_reachesWith]
    refine ⟨fun _ => rest k hk100 ?_, fun hy => absurd trivial hy⟩
    have e : (m + 1) / 4 = m / 4 := by omega
    rw [e, pl_wn_up (by omega)]
  · rw [i3_0, i3_eq (by omega) (by omega)] at hx
    refine s_player hH6 hL6 ?_
    have etn : pl_tn t l0 (va_up cd m c) (m + 1) = pl_ld t l0 (va_up cd m c) ((m + 1) / 4) := by
      unfold pl_tn; rw [hx, Nat.add_zero, Nat.mod_eq_of_lt hld]
    have e : (m + 1) / 4 = m / 4 + 1 := by omega
    have ew : pl_wn t l0 s (va_up cd m c) ((m + 1) / 4) = pl_wn t l0 s cd (m / 4) + (if pl_ld t l0 (va_up cd m c) ((m + 1) / 4) % 2 = s then 1 else 0) := by
      rw [e, pl_wn_s, pl_wn_up (by omega)]
    rw [etn]
    unfold w_x_sideOf
    simp (disch := omega) only [i3_1, i3_add, i3_mul, i3_sub, i3_dec, i3_div, i3_eq, i3_lt, i3_le, i3_nat, i3_in, i3_m1, i3_n0, i3_a1, i3_a3, i3_a31, nrem]
    refine ⟨fun hy => ?_, fun hy => ?_⟩
    · simp only [b_so_reachesWith_46, b_so_reachesWith_30, b_so_reachesWith_29, w_so_reachesWith]
      refine ⟨fun _ => rest k hk100 ?_, fun hz => absurd trivial hz⟩
      rw [ew, if_neg hy, Nat.add_zero]
    · simp only [b_so_reachesWith_46, b_so_reachesWith_30, b_so_reachesWith_29, w_so_reachesWith]
      refine ⟨fun hz => absurd hz (by decide), fun _ => ?_⟩
      have ek : i3 k - 1 = i3 (k - 1) := by rw [i3_1, i3_sub (by omega)]
      rw [ek]
      refine rest (k - 1) (by omega) ?_
      rw [ew, if_pos hy]
      omega
theorem s_rl {RR : Int32 → Int32 → Int32 → ZS → (Int32 → ZS → Prop) → Prop} (hb1 : b = 1) (hD : pl_D ow) (hm : m < 20) (hs : s < 2) (hk : 0 < k) (hk100 : k < 100) (ih : cSR ow b t l0 s RR (m + 1)) (hV : pl_V ow t l0 cd m) {x y : Int32} (hxl : ∀ c, bt x c = true ↔ pl_lg ow t l0 cd m c) (hyl : ∀ c, bt y c = true ↔ c < 20 ∧ ∀ i, i < 4 * (m / 4) → cd i ≠ c) {q : Nat} (hq : q = if pl_tn t l0 cd m % 2 = s then 1 else 0) (hC : cC u ow)
    (h : ∀ u', cH u' b m cd ow → cL u' t l0 m cd → fx [4] [] [4, 6, 7] [] u u' → (pl_A ow t l0 s ((pl_wn t l0 s cd (m / 4) : Int) + k) (20 - m) cd m → post 1 u') ∧ (¬ pl_A ow t l0 s ((pl_wn t l0 s cd (m / 4) : Int) + k) (20 - m) cd m → post 0 u')) :
    ∀ (f i : Nat) (hi : Int32) (u' : ZS), f + i = 5 → cH u' b m cd ow → cL u' t l0 m cd → fx [4] [] [4, 6, 7] [] u u' →
      ((hi = -(i3 1) ∧ ∀ c, pl_lg ow t l0 cd m c → pl_cn ow (pl_tn t l0 cd m) (c + 1) + i ≤ 5) ∨ ∃ hc, hi = i3 hc ∧ pl_lg ow t l0 cd m hc ∧ 5 < pl_cn ow (pl_tn t l0 cd m) (hc + 1) + i) →
      (∀ c, pl_lg ow t l0 cd m c → 5 < pl_cn ow (pl_tn t l0 cd m) (c + 1) + i → (pl_A ow t l0 s ((pl_wn t l0 s cd (m / 4) : Int) + k) (20 - (m + 1)) (va_up cd m c) (m + 1) ↔ q = 0)) →
      b_so_reaches_65 (w_so_reachesWith RR) post (f + 1) (i3 s) (i3 k) (i3 (20 - m)) (i3 (pl_tn t l0 cd m)) (i3 q) x y hi (i3 (5 * pl_tn t l0 cd m + i)) u' := by
  have ht4 := pl_tn_lt (t := t) (l0 := l0) (cd := cd) (n := m)
  have e20 : 20 - m = (20 - (m + 1)) + 1 := by omega
  have hq01 : q = 0 ∨ q = 1 := by rw [hq]; split <;> omega
  intro f
  induction f with
  | zero =>
    intro i hi u' hfi hH hL hx hhi htr
    have e5 : i = 5 := by omega
    subst e5
    unfold b_so_reaches_65
    have ei : (i3 (pl_tn t l0 cd m) + 1) * 5 = i3 (5 * pl_tn t l0 cd m + 5) := by
      rw [i3_1, i3_5, i3_add, i3_mul]; congr 1; omega
    rw [ei]
    have hall : ∀ c, pl_lg ow t l0 cd m c → 5 < pl_cn ow (pl_tn t l0 cd m) (c + 1) + 5 := by
      intro c hl
      rw [pl_cn_s, if_pos hl.2.1]; omega
    refine ⟨fun _ => ?_, fun hn => ?_⟩
    · simp (disch := omega) only [b_so_reaches_21, b_so_reaches_12, b_so_reaches_145, b_so_reaches_129, b_so_reaches_125, b_so_reaches_42, i3_0, i3_1, i3_add, i3_mul, i3_sub, i3_dec, i3_div, i3_eq, i3_lt, i3_le, i3_nat, i3_in, i3_m1, i3_n0, i3_a1, i3_a3, i3_a31, nrem]
      refine ⟨fun h0 => ⟨Or.inl trivial, (h u' hH hL hx).2 ?_⟩, fun h0 => ⟨Or.inr trivial, (h u' hH hL hx).1 ?_⟩⟩
      · rw [e20]
        intro hA
        unfold pl_A at hA
        have hown : pl_tn t l0 cd m % 2 = s := by
          apply Classical.byContradiction
          intro hno
          rw [if_neg hno] at hq; omega
        obtain ⟨c, hl, hc⟩ := hA.1 hown
        have := (htr c hl (hall c hl)).mp hc
        omega
      · rw [e20]
        unfold pl_A
        have hown : ¬ pl_tn t l0 cd m % 2 = s := by
          intro hno
          rw [if_pos hno] at hq; omega
        exact ⟨fun hno => absurd hno hown, fun _ c hl => (htr c hl (hall c hl)).mpr h0⟩
    · rw [i3_le (by omega) (by omega)] at hn; omega
  | succ f ihf =>
    intro i hi u' hfi hH hL hx hhi htr
    -- the card at this place
    obtain ⟨c, hc20, hco, hcn⟩ := pl_at ow (pl_tn t l0 cd m) 20 (5 - i) (by omega) (by rw [hD.2 _ ht4]; omega)
    have hat : aI u' 5 (5 * pl_tn t l0 cd m + i) = i3 c := by
      have := cC_fx hx (by decide) hC _ ht4 c hc20 hco
      rw [hcn] at this
      have e : 5 * pl_tn t l0 cd m + 5 - (5 - i) = 5 * pl_tn t l0 cd m + i := by omega
      rw [e] at this
      exact this
    have hpos : ∀ c', pl_lg ow t l0 cd m c' → 5 < pl_cn ow (pl_tn t l0 cd m) (c' + 1) + (i + 1) → ¬ 5 < pl_cn ow (pl_tn t l0 cd m) (c' + 1) + i → c' = c := by
      intro c' hl h1 h2
      have he : pl_cn ow (pl_tn t l0 cd m) (c' + 1) = pl_cn ow (pl_tn t l0 cd m) (c + 1) := by omega
      apply Classical.byContradiction
      intro hne
      by_cases hlt : c' < c
      · have := pl_cn_lt (a := c') hco hlt; omega
      · have := pl_cn_lt (a := c) hl.2.1 (show c < c' by omega); omega
    unfold b_so_reaches_65
    refine ⟨fun hy => ?_, fun _ => ?_⟩
    · rw [i3_1, i3_5, i3_add, i3_mul, i3_le (by omega) (by omega)] at hy; omega
    have e1 : Int32.toNatClampNeg (i3 (5 * pl_tn t l0 cd m + i)) = 5 * pl_tn t l0 cd m + i := i3_nat (by omega)
    rw [e1, hat]
    refine ⟨(i3_in (by omega)).mpr (by omega), ?_⟩
    have e2 : (x >>> (i3 c &&& 31) &&& 1 = 1) ↔ bt x c = true := by
      rw [i3_31, i3_1, i3_a31, Nat.mod_eq_of_lt (by omega), bt_at (by omega)]
    have e3 : i3 (5 * pl_tn t l0 cd m + i) + 1 = i3 (5 * pl_tn t l0 cd m + (i + 1)) := by rw [i3_1, i3_add, Nat.add_assoc]
    rw [e2, hxl c]
    refine ⟨fun hnl => ?_, fun hl => ?_⟩
    · unfold b_so_reaches_129
      rw [e3]
      refine ihf (i + 1) hi u' (by omega) hH hL hx ?_ (fun c' hl' h1 => ?_)
      · rcases hhi with ⟨he, hh⟩ | ⟨hc, he, hh1, hh2⟩
        · refine Or.inl ⟨he, fun c' hl' => ?_⟩
          apply Classical.byContradiction
          intro hno
          have := hpos c' hl' (by omega) (by have := hh c' hl'; omega)
          subst this; exact hnl hl'
        · exact Or.inr ⟨hc, he, hh1, by omega⟩
      · refine htr c' hl' ?_
        apply Classical.byContradiction
        intro hno
        have := hpos c' hl' h1 hno
        subst this; exact hnl hl'
    · -- c may be played
      have go : ∀ u'', cH u'' b m cd ow → cL u'' t l0 m cd → fx [4] [] [4, 6, 7] [] u u'' → (pl_A ow t l0 s ((pl_wn t l0 s cd (m / 4) : Int) + k) (20 - (m + 1)) (va_up cd m c) (m + 1) ↔ q = 0) → b_so_reaches_125 (b_so_reaches_65 (w_so_reachesWith RR) post (f + 1)) (w_so_reachesWith RR) post (i3 s) (i3 k) (i3 (20 - m)) (i3 (pl_tn t l0 cd m)) (i3 q) x y (i3 (5 * pl_tn t l0 cd m + i)) (i3 c) u'' := by
        intro u'' hH'' hL'' hx'' hA
        unfold b_so_reaches_125 b_so_reaches_129
        rw [e3]
        refine ihf (i + 1) (i3 c) u'' (by omega) hH'' hL'' hx'' (Or.inr ⟨c, rfl, hl, by omega⟩) (fun c' hl' h1 => ?_)
        by_cases hold : 5 < pl_cn ow (pl_tn t l0 cd m) (c' + 1) + i
        · exact htr c' hl' hold
        · have := hpos c' hl' h1 hold
          subst this; exact hA
      have hhi' : hi = -(i3 1) ∨ ∃ h, c < h ∧ h < 20 ∧ hi = i3 h := by
        rcases hhi with ⟨he, hh⟩ | ⟨hc, he, hh1, hh2⟩
        · exact Or.inl he
        · refine Or.inr ⟨hc, ?_, hh1.1, he⟩
          apply Classical.byContradiction
          intro hno
          have := pl_cn_mono ow (pl_tn t l0 cd m) (a := hc + 1) (b := c + 1) (by omega)
          omega
      refine s_alike hc20 (fun _ => ⟨fun hx0 => absurd rfl hx0, fun _ => ?_⟩) (fun hc hc20' ehc hsu hbt => ⟨fun _ => ?_, fun hx0 => absurd hx0 (by decide)⟩) hhi'
      · refine s_rw hb1 hD hm hs hk hk100 ih hV hH hL (cC_fx hx (by decide) hC) hl (fun u'' hH'' hL'' hx'' => ⟨fun hA => ⟨fun hne => ?_, fun he => ?_⟩, fun hA => ⟨fun hne => ?_, fun he => ?_⟩⟩)
        · rw [i3_1, i3_eq (by omega) (by omega)] at hne
          exact go u'' hH'' hL'' (fx_tr hx hx'') ⟨fun _ => by omega, fun _ => hA⟩
        · rw [i3_1, i3_eq (by omega) (by omega)] at he
          refine ⟨by rw [← he]; exact Or.inr rfl, ?_⟩
          rw [← he]
          refine (h u'' hH'' hL'' (fx_tr hx hx'')).1 ?_
          rw [e20]
          unfold pl_A
          have hown : pl_tn t l0 cd m % 2 = s := by
            apply Classical.byContradiction
            intro hno
            rw [if_neg hno] at hq; omega
          exact ⟨fun _ => ⟨c, hl, hA⟩, fun hno => absurd hown hno⟩
        · rw [i3_0, i3_eq (by omega) (by omega)] at hne
          exact go u'' hH'' hL'' (fx_tr hx hx'') ⟨fun hA' => absurd hA' hA, fun h0 => by omega⟩
        · rw [i3_0, i3_eq (by omega) (by omega)] at he
          refine ⟨by rw [← he]; exact Or.inl rfl, ?_⟩
          rw [← he]
          refine (h u'' hH'' hL'' (fx_tr hx hx'')).2 ?_
          rw [e20]
          intro hA'
          unfold pl_A at hA'
          have hown : ¬ pl_tn t l0 cd m % 2 = s := by
            intro hno
            rw [if_pos hno] at hq; omega
          exact hA (hA'.2 hown c hl)
      · refine go u' hH hL hx ?_
        rcases hhi with ⟨he, hh⟩ | ⟨hc', he, hh1, hh2⟩
        · exfalso
          rw [he] at ehc
          exact (i3_m1 (show hc < 2147483648 by omega)).mp ehc.symm
        · have e : hc = hc' := by
            rw [he, i3_eq (by have := hh1.1; omega) (by omega)] at ehc; exact ehc.symm
          subst e
          have hlt : c < hc := by
            rcases hhi' with h1 | ⟨h', h1, h2, h3⟩
            · exfalso; rw [h1] at ehc; exact (i3_m1 (show hc < 2147483648 by omega)).mp ehc.symm
            · rw [ehc, i3_eq (by omega) (by omega)] at h3; omega
          have hb' : ∀ z, c < z → z < hc → ∃ i, i < 4 * (m / 4) ∧ cd i = z := by
            intro z z1 z2
            have hz := hbt z z1 z2
            apply Classical.byContradiction
            intro hno
            rw [Bool.eq_false_iff] at hz
            exact hz ((hyl z).mpr ⟨by omega, fun i hi he => hno ⟨i, hi, he⟩⟩)
          have hA := htr hc hh1 hh2
          rw [← hA]
          exact ⟨pl_alike' hsu.symm hlt hV hb' hh1 hl, pl_alike hsu.symm hlt hV hb' hh1 hl⟩
theorem s_reach (hb1 : b = 1) (hD : pl_D ow) (hs : s < 2) : ∀ D m : Nat, m ≤ 20 → 20 - m < D → cSR ow b t l0 s (w_so_reaches D) m := by
  intro D
  induction D with
  | zero => intro m hm h; omega
  | succ D ihD =>
    intro m hm hmD k cd u post hk100 hV hH hL hC h
    have hr := h u hH hL fx_rf
    unfold w_so_reaches w_so_reachesB
    refine ⟨fun hx => ?_, fun hx => ?_⟩
    · rw [i3_0, i3_le (by omega) (by omega)] at hx
      simp (disch := omega) only [b_so_reaches_21, b_so_reaches_12, b_so_reaches_145, b_so_reaches_129, b_so_reaches_125, b_so_reaches_42, i3_0, i3_1, i3_add, i3_mul, i3_sub, i3_dec, i3_div, i3_eq, i3_lt, i3_le, i3_nat, i3_in, i3_m1, i3_n0, i3_a1, i3_a3, i3_a31, nrem]
      refine ⟨fun h0 => by omega, fun _ => ⟨Or.inr trivial, hr.1 (pl_A_lb hD (by omega) hV (by omega))⟩⟩
    · rw [i3_0, i3_le (by omega) (by omega)] at hx
      unfold w_so_tricksIn
      have e9 : (i3 (20 - m) + 4 - 1) / 4 = i3 ((20 - m + 3) / 4) := by
        simp (disch := omega) only [i3_0, i3_1, i3_2, i3_3, i3_4, i3_5, i3_6, i3_10, i3_12, i3_15, i3_17, i3_19, i3_20, i3_21, i3_31, i3_139, i3_add, i3_mul, i3_sub, i3_dec, i3_div, i3_eq, i3_lt, i3_le, i3_nat, i3_in, i3_m1, i3_n0, i3_a1, i3_a3, i3_a31, nrem]
        congr 1
      rw [e9]
      refine ⟨fun hle => ?_, fun hle => ?_⟩
      · rw [i3_le (by omega) (by omega)] at hle
        have hm20 : m < 20 := by omega
        have ht4 := pl_tn_lt (t := t) (l0 := l0) (cd := cd) (n := m)
        refine s_player hH hL ?_
        unfold w_x_sideOf
        have main : ∀ q : Nat, q = (if pl_tn t l0 cd m % 2 = s then 1 else 0) → b_so_reaches_42 (w_so_reachesWith (w_so_reaches D)) post (i3 s) (i3 k) (i3 (20 - m)) (i3 (pl_tn t l0 cd m)) (i3 q) u := by
          intro q hq
          unfold b_so_reaches_42
          refine s_allowed hb1 hH hL (fun x hxl => ?_)
          refine s_live hb1 hD.1 hV hH (fun y hyl => ?_)
          refine ⟨6, ?_⟩
          have e5 : i3 (pl_tn t l0 cd m) * 5 = i3 (5 * pl_tn t l0 cd m + 0) := by rw [i3_5, i3_mul]; congr 1; omega
          rw [e5]
          refine s_rl hb1 hD hm20 hs (by omega) hk100 (ihD (m + 1) (by omega) (by omega)) hV hxl hyl hq hC h 5 0 _ u (by omega) hH hL fx_rf (Or.inl ⟨rfl, fun c hl => ?_⟩) (fun c hl h5 => ?_)
          · have := pl_cn_mono ow (pl_tn t l0 cd m) (a := c + 1) (b := 20) (by have := hl.1; omega)
            rw [hD.2 _ ht4] at this; omega
          · have := pl_cn_mono ow (pl_tn t l0 cd m) (a := c + 1) (b := 20) (by have := hl.1; omega)
            rw [hD.2 _ ht4] at this; omega
        refine ⟨fun hy => ?_, fun hy => ?_⟩
        · rw [i3_1, i3_a1, i3_eq (by omega) (by omega)] at hy
          exact main 0 (by rw [if_neg hy])
        · rw [i3_1, i3_a1, i3_eq (by omega) (by omega)] at hy
          exact main 1 (by rw [if_pos hy])
      · rw [i3_le (by omega) (by omega)] at hle
        simp (disch := omega) only [b_so_reaches_21, b_so_reaches_12, b_so_reaches_145, b_so_reaches_129, b_so_reaches_125, b_so_reaches_42, i3_0, i3_1, i3_add, i3_mul, i3_sub, i3_dec, i3_div, i3_eq, i3_lt, i3_le, i3_nat, i3_in, i3_m1, i3_n0, i3_a1, i3_a3, i3_a31, nrem]
        refine ⟨fun _ => ⟨Or.inl trivial, hr.2 (fun hA => ?_)⟩, fun h0 => by omega⟩
        have := pl_A_ub hD (by omega) hV hA
        omega
theorem s_tr_l (hb1 : b = 1) (hD : pl_D ow) (hs : s < 2) (hm : m ≤ 20) (hV : pl_V ow t l0 cd m) (hC : cC u ow) (hl0 : l0 < 4)
    (h : ∀ (w : Nat) (u' : ZS), cH u' b m cd ow → cL u' t l0 m cd → fx [4] [] [4, 6, 7] [] u u' → pl_A ow t l0 s (w : Int) (20 - m) cd m → ¬ pl_A ow t l0 s ((w : Int) + 1) (20 - m) cd m → post (i3 w) u') :
    ∀ (f j : Nat) (u' : ZS), f + j = 6 → cH u' b m cd ow → cL u' t l0 m cd → fx [4] [] [4, 6, 7] [] u u' → j ≤ (20 - m + 3) / 4 → pl_A ow t l0 s ((pl_wn t l0 s cd (m / 4) : Int) + j) (20 - m) cd m → b_so_tricksOf_10 post (f + 1) (i3 s) (i3 (20 - m)) (i3 j) u' := by
  have e9 : (i3 (20 - m) + 4 - 1) / 4 = i3 ((20 - m + 3) / 4) := by
    simp (disch := omega) only [i3_0, i3_1, i3_2, i3_3, i3_4, i3_5, i3_6, i3_10, i3_12, i3_15, i3_17, i3_19, i3_20, i3_21, i3_31, i3_139, i3_add, i3_mul, i3_sub, i3_dec, i3_div, i3_eq, i3_lt, i3_le, i3_nat, i3_in, i3_m1, i3_n0, i3_a1, i3_a3, i3_a31, nrem]
    congr 1
  have ew : ∀ j : Nat, (((pl_wn t l0 s cd (m / 4) + j : Nat) : Int)) = (pl_wn t l0 s cd (m / 4) : Int) + j := fun j => by omega
  have fin : ∀ (j : Nat) (u' : ZS), j < 100 → cH u' b m cd ow → cL u' t l0 m cd → fx [4] [] [4, 6, 7] [] u u' → pl_A ow t l0 s ((pl_wn t l0 s cd (m / 4) : Int) + j) (20 - m) cd m → ¬ pl_A ow t l0 s ((pl_wn t l0 s cd (m / 4) : Int) + j + 1) (20 - m) cd m → b_so_tricksOf_36 post (i3 s) (i3 j) u' := by
    intro j u' hj hH hL hx hA hN
    unfold b_so_tricksOf_36
    refine s_won hH.1 hm (fun j _ hj => hL.2.2.2 j hj) hl0 hs ?_
    rw [i3_add]
    refine h _ u' hH hL hx ?_ ?_
    · rw [ew]; exact hA
    · rw [ew]; exact hN
  intro f
  induction f with
  | zero =>
    intro j u' hfj hH hL hx hj hA
    have : (20 - m + 3) / 4 ≤ 5 := by omega
    omega
  | succ f ih =>
    intro j u' hfj hH hL hx hj hA
    unfold b_so_tricksOf_10 w_so_tricksIn
    rw [e9]
    refine ⟨fun hle => ?_, fun hle => ?_⟩
    · rw [i3_le (by omega) (by omega)] at hle
      refine fin j u' (by omega) hH hL hx hA (fun hA' => ?_)
      have := pl_A_ub hD (by omega) hV hA'
      omega
    · rw [i3_le (by omega) (by omega)] at hle
      have e1 : i3 j + 1 = i3 (j + 1) := by rw [i3_1, i3_add]
      rw [e1]
      refine s_reach hb1 hD hs 21 m hm (by omega) (j + 1) cd u' _ (by omega) hV hH hL (cC_fx hx (by decide) hC) (fun u'' hH'' hL'' hx'' => ⟨fun hA' => ⟨fun h0 => absurd h0 (by decide), fun _ => ?_⟩, fun hA' => ⟨fun _ => ?_, fun h0 => absurd rfl h0⟩⟩)
      · exact ih (j + 1) u'' (by omega) hH'' hL'' (fx_tr hx hx'') (by omega) hA'
      · refine fin j u'' (by omega) hH'' hL'' (fx_tr hx hx'') hA (fun hA2 => hA' ?_)
        have e : (pl_wn t l0 s cd (m / 4) : Int) + ((j + 1 : Nat) : Int) = (pl_wn t l0 s cd (m / 4) : Int) + j + 1 := by omega
        rw [e]; exact hA2
theorem s_tricksOf (hb1 : b = 1) (hD : pl_D ow) (hs : s < 2) (hV : pl_V ow t l0 cd m) (hH : cH u b m cd ow) (hL : cL u t l0 m cd) (hC : cC u ow)
    (h : ∀ (w : Nat) (u' : ZS), cH u' b m cd ow → cL u' t l0 m cd → fx [4] [] [4, 6, 7] [] u u' → pl_A ow t l0 s (w : Int) (20 - m) cd m → ¬ pl_A ow t l0 s ((w : Int) + 1) (20 - m) cd m → post (i3 w) u') : w_so_tricksOf (i3 s) u post := by
  have hm := hH.2.1
  refine ⟨7, ?_⟩
  have e : 20 - fI u 4 = i3 (20 - m) := by rw [hH.1, i3_20, i3_sub hm]
  rw [e]
  exact s_tr_l hb1 hD hs hm hV hC hL.2.2.1 h 6 0 u (by omega) hH hL fx_rf (by omega) (pl_A_lb hD (by omega) hV (by omega))
end CSo
