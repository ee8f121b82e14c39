/-! the component's deal -/
section CDe
variable {u : ZS} {ow : Nat → Nat} {post : ZS → Prop}
theorem s_fill (h : ∀ u', fx [] [] [2] [] u u' → (∀ p, p < 4 → aI u' 2 p = i3 5) → post u') : w_de_fillLeft u post := by
  refine ⟨5, ?_⟩
  have st : ∀ (f p : Nat) (u' : ZS), p < 4 → b_de_fillLeft_2 post f (i3 (p + 1)) (pI u' 2 p (i3 5)) → b_de_fillLeft_2 post (f + 1) (i3 p) u' := by
    intro f p u' hp hr
    unfold b_de_fillLeft_2
    simp (disch := omega) only [i3_0, i3_1, i3_2, i3_3, i3_4, i3_5, i3_6, i3_10, i3_12, i3_15, i3_17, i3_19, i3_20, i3_21, i3_31, i3_139, i3_add, i3_mul, i3_sub, i3_dec, i3_div, i3_eq, i3_lt, i3_le, i3_nat, i3_in, i3_m1, i3_n0, i3_a1, i3_a3, i3_a31, nrem]
    exact ⟨fun hx => by omega, fun _ => ⟨hp, hr⟩⟩
  refine st 4 0 _ (by omega) (st 3 1 _ (by omega) (st 2 2 _ (by omega) (st 1 3 _ (by omega) ?_)))
  unfold b_de_fillLeft_2
  refine ⟨fun _ => h _ (fx_pI (fx_pI (fx_pI (fx_pI fx_rf (by decide)) (by decide)) (by decide)) (by decide)) (fun p hp => ?_), fun hx => absurd (by decide) hx⟩
  simp only [a1]
  have hq : p = 0 ∨ p = 1 ∨ p = 2 ∨ p = 3 := by omega
  rcases hq with rfl | rfl | rfl | rfl <;> simp [upd]
theorem s_share {post : Int64 → ZS → Prop} (hD : pl_D ow) {c p : Nat} (hc : c < 20) (hp : p < 4) (hl : aI u 2 p = i3 (rk_lf ow c p)) (h : post (j6 (rk_w (rk_lf ow c) p)) u) : w_de_share (j6 (rk_T (rk_lf ow c))) (i3 p) (i3 c) u post := by
  have hT := rk_T_le (lf := rk_lf ow c) (fun p _ => rk_lf_le ow c p)
  have h6 := rk_lf_le ow c p
  have hs := rk_sum hD (show c ≤ 20 by omega)
  have hsh := rk_share (lf := rk_lf ow c) (fun p _ => rk_lf_le ow c p) (by omega) hp
  rw [hs] at hsh
  have hmul : rk_T (rk_lf ow c) * rk_lf ow c p ≤ 11732745024 * 5 := Nat.mul_le_mul hT (by omega)
  unfold w_de_share
  rw [i3_in (by omega), i3_nat (by omega), hl, i3_20, i3_sub (by omega), j6_of (by omega), j6_of (by omega), j6_mul, j6_div (by omega) (by omega), hsh, j6_0, j6_eq (by omega) (by omega)]
  exact ⟨hp, by omega, h⟩
/-- open places behind a card that goes to its owner -/
theorem rk_lf_up {u' : ZS} {c : Nat} (hD : pl_D ow) (hc : c < 20) (hl : ∀ p, p < 4 → aI u' 2 p = i3 (rk_lf ow c p)) : ∀ p, p < 4 → upd (aI u' 2) (ow c) (aI u' 2 (ow c) - 1) p = i3 (rk_lf ow (c + 1) p) := by
  intro p hp
  show _ = i3 (rk_dn (rk_lf ow c) (ow c) p)
  unfold rk_dn
  by_cases he : p = ow c
  · subst he
    rw [up1, if_pos rfl, hl _ hp, i3_1, i3_sub (rk_pos hD hc)]
  · rw [up2 he, if_neg he]; exact hl p hp
theorem s_tn_i {num : Nat} (hn : num < 11732745024) {r19 : Int64 → Int64 → Int32 → ZS → Prop} {c : Nat} (hc : c < 20) {u' : ZS} (hl : ∀ p, p < 4 → aI u' 2 p = i3 (rk_lf (rk_ow num) c p))
    (h : r19 (j6 (num - rk_n (rk_ow num) (c + 1))) (j6 (rk_T (rk_lf (rk_ow num) (c + 1)))) (i3 (c + 1)) (pI (pI u' 0 c (i3 (rk_ow num c))) 2 (rk_ow num c) (aI u' 2 (rk_ow num c) - 1))) :
    ∀ f p : Nat, f + p = rk_ow num c → b_de_takeNumber_41 r19 post (f + 1) (j6 (num - rk_n (rk_ow num) c - rk_b (rk_lf (rk_ow num) c) p)) (j6 (rk_T (rk_lf (rk_ow num) c))) (i3 c) (i3 p) (j6 (rk_w (rk_lf (rk_ow num) c) p)) u' := by
  have hD := rk_deal (rk_ow_is hn)
  have h4 := hD.1 c hc
  obtain ⟨-, -, q1, q2⟩ := rk_ow_is hn c hc
  have hTl := rk_T_le (lf := rk_lf (rk_ow num) c) (fun p _ => rk_lf_le _ c p)
  have fin : b_de_takeNumber_77 r19 post (j6 (num - rk_n (rk_ow num) c - rk_b (rk_lf (rk_ow num) c) (rk_ow num c))) (i3 c) (i3 (rk_ow num c)) (j6 (rk_w (rk_lf (rk_ow num) c) (rk_ow num c))) u' := by
    simp (disch := omega) only [b_de_takeNumber_77, w_de_takeNumber, f1, f2, f3, f4, f5, g1, g2, g3, g4, g5, a1, a2, a3, a4, a5, zh1, zh2, zh3, zh4, zh5, i3_0, i3_1, i3_2, i3_3, i3_4, i3_5, i3_6, i3_10, i3_12, i3_15, i3_17, i3_19, i3_20, i3_21, i3_31, i3_139, i3_add, i3_mul, i3_sub, i3_dec, i3_div, i3_eq, i3_lt, i3_le, i3_nat, i3_in, i3_m1, i3_n0, i3_a1, i3_a3, i3_a31, nrem]
    refine ⟨hc, h4, h4, ?_⟩
    rw [rk_nT hD hc] at h
    have e : num - rk_n (rk_ow num) (c + 1) = num - rk_n (rk_ow num) c - rk_b (rk_lf (rk_ow num) c) (rk_ow num c) := by
      show num - (rk_n (rk_ow num) c + rk_b (rk_lf (rk_ow num) c) (rk_ow num c)) = _
      omega
    rw [e] at h
    exact h
  intro f
  induction f with
  | zero =>
    intro p hp
    have e : p = rk_ow num c := by omega
    subst e
    have hw := rk_wle hD hc h4
    have eb : rk_b (rk_lf (rk_ow num) c) (rk_ow num c + 1) = rk_b (rk_lf (rk_ow num) c) (rk_ow num c) + rk_w (rk_lf (rk_ow num) c) (rk_ow num c) := rfl
    unfold b_de_takeNumber_41
    refine ⟨fun _ => fin, fun hx => ⟨fun _ => fin, fun hy => ?_⟩⟩
    exfalso
    rw [lg_cmp_lt, j6_lt (by omega) (by omega)] at hy
    omega
  | succ f ih =>
    intro p hp
    have hp4 : p < 4 := by omega
    have hw := rk_wle hD hc hp4
    have hbp : rk_b (rk_lf (rk_ow num) c) (p + 1) ≤ rk_b (rk_lf (rk_ow num) c) (rk_ow num c) := by
      have mono : ∀ a, rk_b (rk_lf (rk_ow num) c) (p + 1) ≤ rk_b (rk_lf (rk_ow num) c) (p + 1 + a) := by
        intro a
        induction a with
        | zero => exact Nat.le_refl _
        | succ a ia => exact Nat.le_trans ia (Nat.le_add_right _ _)
      have := mono f
      have e : p + 1 + f = rk_ow num c := by omega
      rw [e] at this; exact this
    have eb : rk_b (rk_lf (rk_ow num) c) (p + 1) = rk_b (rk_lf (rk_ow num) c) p + rk_w (rk_lf (rk_ow num) c) p := rfl
    unfold b_de_takeNumber_41
    refine ⟨fun hx => ?_, fun _ => ⟨fun hx => ?_, fun _ => ?_⟩⟩
    · rw [i3_3, i3_le (by omega) (by omega)] at hx; omega
    · rw [lg_cmp_lt, j6_lt (by omega) (by omega)] at hx; omega
    · rw [i3_1, i3_add]
      refine s_share hD hc (by omega) (hl _ (by omega)) ?_
      rw [j6_sub (by omega)]
      have := ih (p + 1) (by omega)
      rw [eb] at this
      have e : num - rk_n (rk_ow num) c - rk_b (rk_lf (rk_ow num) c) p - rk_w (rk_lf (rk_ow num) c) p = num - rk_n (rk_ow num) c - (rk_b (rk_lf (rk_ow num) c) p + rk_w (rk_lf (rk_ow num) c) p) := by omega
      rw [e]
      exact this
theorem s_tn_l {num : Nat} (hn : num < 11732745024) (h : ∀ u', fx [] [] [0, 2] [] u u' → (∀ c, c < 20 → aI u' 0 c = i3 (rk_ow num c)) → post u') :
    ∀ (f c : Nat) (u' : ZS), f + c = 20 → fx [] [] [0, 2] [] u u' → (∀ p, p < 4 → aI u' 2 p = i3 (rk_lf (rk_ow num) c p)) → (∀ k, k < c → aI u' 0 k = i3 (rk_ow num k)) → b_de_takeNumber_19 post (f + 1) (j6 (num - rk_n (rk_ow num) c)) (j6 (rk_T (rk_lf (rk_ow num) c))) (i3 c) u' := by
  have hD := rk_deal (rk_ow_is hn)
  intro f
  induction f with
  | zero =>
    intro c u' hfc hx hl ho
    have e : c = 20 := by omega
    subst e
    unfold b_de_takeNumber_19
    exact ⟨fun _ => h u' hx ho, fun hy => absurd (by decide) hy⟩
  | succ f ih =>
    intro c u' hfc hx hl ho
    have hc : c < 20 := by omega
    have h4 := hD.1 c hc
    unfold b_de_takeNumber_19
    refine ⟨fun hy => ?_, fun _ => ?_⟩
    · rw [i3_20, i3_le (by omega) (by omega)] at hy; omega
    refine s_share hD hc (show 0 < 4 by omega) (hl 0 (by omega)) ⟨rk_ow num c + 1, ?_⟩
    refine s_tn_i hn hc hl (ih (c + 1) _ (by omega) (fx_pI (fx_pI hx (by decide)) (by decide)) ?_ ?_) (rk_ow num c) 0 (by omega)
    · have := rk_lf_up hD hc hl
      intro p hp
      rw [a1, a2 (by decide)]
      exact this p hp
    · intro k hk
      rw [a2 (by decide), a1]
      by_cases hkc : k = c
      · subst hkc; rw [up1]
      · rw [up2 hkc]; exact ho k (by omega)
theorem s_takeNumber {num : Nat} (hn : num < 11732745024) (h : ∀ u', fx [] [0] [0, 2] [] u u' → fJ u' 0 = j6 num → (∀ c, c < 20 → aI u' 0 c = i3 (rk_ow num c)) → post u') : w_de_takeNumber (j6 num) u post := by
  unfold w_de_takeNumber
  refine s_fill (fun u6 hx6 hl6 => ⟨21, ?_⟩)
  have := s_tn_l (u := u6) (post := post) hn (fun u' hx ho => h u' ?_ ?_ ho) 20 0 u6 (by omega) fx_rf hl6 (fun k hk => by omega)
  · have e : num - rk_n (rk_ow num) 0 = num := rfl
    have e2 : rk_T (rk_lf (rk_ow num) 0) = 11732745024 := rk_top
    rw [e, e2] at this
    exact this
  · exact fx_tr (fx_sJ fx_rf (by decide)) (fx_tr (fx_mo hx6 (by decide) (by decide) (by decide) (by decide)) (fx_mo hx (by decide) (by decide) (by decide) (by decide)))
  · rw [hx.2.1 0 (by decide), hx6.2.1 0 (by decide)]; exact g1
theorem s_rk_i {post : Int64 → ZS → Prop} (hD : pl_D ow) {r13 : Int64 → Int64 → Int32 → ZS → Prop} {c : Nat} (hc : c < 20) {u' : ZS} (hl : ∀ p, p < 4 → aI u' 2 p = i3 (rk_lf ow c p))
    (h : r13 (j6 (rk_n ow (c + 1))) (j6 (rk_T (rk_lf ow (c + 1)))) (i3 (c + 1)) (pI u' 2 (ow c) (aI u' 2 (ow c) - 1))) :
    ∀ f p : Nat, f + p = ow c → b_de_rankOfOwners_32 r13 post (f + 1) (j6 (rk_n ow c + rk_b (rk_lf ow c) p)) (j6 (rk_T (rk_lf ow c))) (i3 c) (i3 (ow c)) (i3 p) u' := by
  have h4 := hD.1 c hc
  intro f
  induction f with
  | zero =>
    intro p hp
    have e : p = ow c := by omega
    subst e
    unfold b_de_rankOfOwners_32
    refine ⟨fun _ => s_share hD hc h4 (hl _ h4) ?_, fun hx => ?_⟩
    · simp (disch := omega) only [i3_0, i3_1, i3_2, i3_3, i3_4, i3_5, i3_6, i3_10, i3_12, i3_15, i3_17, i3_19, i3_20, i3_21, i3_31, i3_139, i3_add, i3_mul, i3_sub, i3_dec, i3_div, i3_eq, i3_lt, i3_le, i3_nat, i3_in, i3_m1, i3_n0, i3_a1, i3_a3, i3_a31, nrem]
      rw [rk_nT hD hc] at h
      exact ⟨h4, h4, h⟩
    · rw [i3_le (by omega) (by omega)] at hx; omega
  | succ f ih =>
    intro p hp
    unfold b_de_rankOfOwners_32
    refine ⟨fun hx => ?_, fun _ => s_share hD hc (by omega) (hl _ (by omega)) ?_⟩
    · rw [i3_le (by omega) (by omega)] at hx; omega
    · rw [j6_add, i3_1, i3_add, Nat.add_assoc]
      exact ih (p + 1) (by omega)
theorem s_rk_l {post : Int64 → ZS → Prop} (hD : pl_D ow) (h : ∀ u', fx [] [] [2] [] u u' → post (j6 (rk_n ow 20)) u') (ho : ∀ c, c < 20 → aI u 0 c = i3 (ow c)) :
    ∀ (f c : Nat) (u' : ZS), f + c = 20 → fx [] [] [2] [] u u' → (∀ p, p < 4 → aI u' 2 p = i3 (rk_lf ow c p)) → b_de_rankOfOwners_13 post (f + 1) (j6 (rk_n ow c)) (j6 (rk_T (rk_lf ow c))) (i3 c) u' := by
  intro f
  induction f with
  | zero =>
    intro c u' hfc hx hl
    have e : c = 20 := by omega
    subst e
    unfold b_de_rankOfOwners_13
    exact ⟨fun _ => h u' hx, fun hy => absurd (by decide) hy⟩
  | succ f ih =>
    intro c u' hfc hx hl
    have hc : c < 20 := by omega
    have h4 := hD.1 c hc
    unfold b_de_rankOfOwners_13
    refine ⟨fun hy => ?_, fun _ => ⟨?_, ow c + 1, ?_⟩⟩
    · rw [i3_20, i3_le (by omega) (by omega)] at hy; omega
    · rw [i3_in (by omega)]; exact hc
    · rw [i3_nat (by omega), hx.2.2.1 0 (by decide), ho c hc]
      refine s_rk_i hD hc hl (ih (c + 1) _ (by omega) (fx_pI hx (by decide)) ?_) (ow c) 0 (by omega)
      intro p hp
      rw [a1]
      exact rk_lf_up hD hc hl p hp
theorem s_rankOf {post : Int64 → ZS → Prop} (hD : pl_D ow) (ho : ∀ c, c < 20 → aI u 0 c = i3 (ow c)) (h : ∀ u', fx [] [] [2] [] u u' → post (j6 (rk_n ow 20)) u') : w_de_rankOfOwners u post := by
  unfold w_de_rankOfOwners
  refine s_fill (fun u6 hx6 hl6 => ⟨21, ?_⟩)
  have := s_rk_l (u := u6) (post := post) hD (fun u' hx => h u' (fx_tr hx6 hx)) (fun c hc => by rw [hx6.2.2.1 0 (by decide)]; exact ho c hc) 20 0 u6 (by omega) fx_rf hl6
  have e2 : rk_T (rk_lf ow 0) = 11732745024 := rk_top
  rw [e2] at this
  exact this
/-- the changes in a row -/
theorem s_row_l {fi fj ai aj : List Nat} (hai : 1 ∈ ai) (rr : Nat → Nat)
    (hrr : ∀ (u' : ZS), fx fi fj ai aj u u' → (∀ i, i < 20 → aI u' 1 i = i3 (rr i)) → post u') :
    ∀ (k : Nat) (hh : Int64) (r : Nat → Nat) (u' : ZS), k < 20 → fx fi fj ai aj u u' → (∀ i, i < 20 → aI u' 1 i = i3 (r i)) → sh_it k hh r = rr → b_de_shuffleRow_27 post (k + 1) hh (i3 k) u' := by
  intro k
  induction k with
  | zero =>
    intro hh r u' hk hx hr he
    unfold b_de_shuffleRow_27
    refine ⟨fun _ => hrr u' hx ?_, fun hy => absurd (by decide) hy⟩
    rw [← he]; exact hr
  | succ k ih =>
    intro hh r u' hk hx hr he
    have hj := sh_j_le (sh_h hh) (k + 1)
    have ej : Int64.toInt32 (((Int64.toUInt64 ((hh * 6364136223846793005) + 1442695040888963407) >>> (Int64.toUInt64 (Int32.toInt64 33) &&& Int64.toUInt64 63)).toInt64) - ((Int64.toUInt64 ((hh * 6364136223846793005) + 1442695040888963407) >>> (Int64.toUInt64 (Int32.toInt64 33) &&& Int64.toUInt64 63)).toInt64) / (Int32.toInt64 (i3 (k + 1) + 1)) * (Int32.toInt64 (i3 (k + 1) + 1))) = i3 (sh_j (sh_h hh) (k + 1)) := sh_j_eq (h := sh_h hh) hk
    unfold b_de_shuffleRow_27
    rw [ej]
    refine ⟨fun hy => ?_, fun _ => ⟨?_, (i3_in (by omega)).mpr hk, (i3_in (by omega)).mpr (by omega), (i3_in (by omega)).mpr hk, (i3_in (by omega)).mpr (by omega), ?_⟩⟩
    · rw [i3_1, i3_lt (by omega) (by omega)] at hy; omega
    · rw [i3_1, i3_add, j6_of (by omega), j6_0, j6_eq (by omega) (by omega)]; omega
    · rw [i3_nat (by omega), i3_nat (by omega), hr _ hk, hr _ (by omega)]
      have e1 : i3 (k + 1) + (-1) = i3 k := i3_dec (by omega)
      rw [e1]
      refine ih (sh_h hh) _ _ (by omega) (fx_pI (fx_pI hx hai) hai) (fun i hi => ?_) he
      rw [a1, a1]
      unfold pl_sw
      by_cases h1 : i = sh_j (sh_h hh) (k + 1)
      · subst h1; rw [up1, if_pos rfl]
      · rw [up2 h1, if_neg h1]
        by_cases h2 : i = k + 1
        · subst h2; rw [up1, if_pos rfl]
        · rw [up2 h2, if_neg h2]; exact hr i hi
theorem s_row {seed : Int64} (h : ∀ u', fx [] [] [1] [] u u' → (∀ i, i < 20 → aI u' 1 i = i3 (sh_row seed i)) → post u') : w_de_shuffleRow seed u post := by
  refine ⟨21, ?_⟩
  have st : ∀ (f i : Nat) (u' : ZS), f + i = 20 → fx [] [] [1] [] u u' → (∀ k, k < i → aI u' 1 k = i3 k) → b_de_shuffleRow_2 post (f + 1) seed (i3 i) u' := by
    intro f
    induction f with
    | zero =>
      intro i u' hfi hx hr
      have e : i = 20 := by omega
      subst e
      unfold b_de_shuffleRow_2
      refine ⟨fun _ => ⟨20, ?_⟩, fun hy => absurd (by decide) hy⟩
      exact s_row_l (u := u) (by decide) (sh_row seed) h 19 seed (fun i => i) u' (by omega) hx hr (sh_row_d seed)
    | succ f ih =>
      intro i u' hfi hx hr
      unfold b_de_shuffleRow_2
      simp (disch := omega) only [i3_0, i3_1, i3_2, i3_3, i3_4, i3_5, i3_6, i3_10, i3_12, i3_15, i3_17, i3_19, i3_20, i3_21, i3_31, i3_139, i3_add, i3_mul, i3_sub, i3_dec, i3_div, i3_eq, i3_lt, i3_le, i3_nat, i3_in, i3_m1, i3_n0, i3_a1, i3_a3, i3_a31, nrem]
      refine ⟨fun hy => by omega, fun _ => ⟨by omega, ih (i + 1) _ (by omega) (fx_pI hx (by decide)) (fun k hk => ?_)⟩⟩
      rw [a1]
      by_cases hki : k = i
      · subst hki; rw [up1]
      · rw [up2 hki]; exact hr k (by omega)
  exact st 20 0 u (by omega) fx_rf (fun k hk => by omega)
theorem s_ts_l {r : Nat → Nat} (hP : sh_P r) (hr : ∀ i, i < 20 → aI u 1 i = i3 (r i)) (h : ∀ u', fx [] [0] [0, 2] [] u u' → fJ u' 0 = j6 (rk_n (sh_ow r) 20) → (∀ c, c < 20 → aI u' 0 c = i3 (sh_ow r c)) → post u') :
    ∀ (f i : Nat) (u' : ZS), f + i = 20 → fx [] [] [0] [] u u' → (∀ k, k < i → aI u' 0 (r k) = i3 (k / 5)) → b_de_takeSeed_7 post (f + 1) (i3 i) u' := by
  intro f
  induction f with
  | zero =>
    intro i u' hfi hx ho
    have e : i = 20 := by omega
    subst e
    have ho' : ∀ c, c < 20 → aI u' 0 c = i3 (sh_ow r c) := by
      intro c hc
      obtain ⟨i, hi, he⟩ := hP.2.2 c hc
      rw [← he, ho i hi, sh_ow_at hP hi]
    unfold b_de_takeSeed_7
    refine ⟨fun _ => s_rankOf (sh_D hP) ho' (fun u2 hx2 => h _ ?_ g1 ?_), fun hy => absurd (by decide) hy⟩
    · exact fx_sJ (fx_tr (fx_mo hx (by decide) (by decide) (by decide) (by decide)) (fx_mo hx2 (by decide) (by decide) (by decide) (by decide))) (by decide)
    · intro c hc
      rw [a4, hx2.2.2.1 0 (by decide)]; exact ho' c hc
  | succ f ih =>
    intro i u' hfi hx ho
    have hi : i < 20 := by omega
    have hri := hP.1 i hi
    unfold b_de_takeSeed_7
    simp (disch := omega) only [i3_0, i3_1, i3_2, i3_3, i3_4, i3_5, i3_6, i3_10, i3_12, i3_15, i3_17, i3_19, i3_20, i3_21, i3_31, i3_139, i3_add, i3_mul, i3_sub, i3_dec, i3_div, i3_eq, i3_lt, i3_le, i3_nat, i3_in, i3_m1, i3_n0, i3_a1, i3_a3, i3_a31, nrem, hx.2.2.1 1 (by decide), hr i hi]
    refine ⟨fun hy => by omega, fun _ => ⟨hi, hri, ih (i + 1) _ (by omega) (fx_pI hx (by decide)) (fun k hk => ?_)⟩⟩
    rw [a1]
    by_cases hki : k = i
    · subst hki; rw [up1]
    · rw [up2 (fun e => hki (hP.2.1 k i (by omega) hi e))]; exact ho k (by omega)
theorem s_takeSeed {seed : Int64} (h : ∀ u', fx [] [0] [0, 1, 2] [] u u' → fJ u' 0 = j6 (rk_n (sh_ow (sh_row seed)) 20) → (∀ c, c < 20 → aI u' 0 c = i3 (sh_ow (sh_row seed) c)) → post u') : w_de_takeSeed seed u post := by
  unfold w_de_takeSeed
  refine s_row (fun u4 hx4 hr4 => ⟨21, ?_⟩)
  exact s_ts_l (u := u4) (sh_row_P seed) hr4 (fun u' hx hj ho => h u' (fx_tr (fx_mo hx4 (by decide) (by decide) (by decide) (by decide)) (fx_mo hx (by decide) (by decide) (by decide) (by decide))) hj ho) 20 0 u4 (by omega) fx_rf (fun k hk => by omega)
/-- one hand -/
def thI (ow : Nat → Nat) (p k : Nat) (u u' : ZS) : Prop := fx [] [] [4, 5] [] u u' ∧ (∀ c, bt (aI u' 4 p) c = true ↔ k ≤ c ∧ c < 20 ∧ ow c = p) ∧ (∀ q, q ≠ p → aI u' 4 q = aI u 4 q) ∧ (∀ c, k ≤ c → c < 20 → ow c = p → aI u' 5 (5 * p + 5 - pl_cn ow p (c + 1)) = i3 c) ∧ ∀ j, (j < 5 * p ∨ 5 * p + 5 ≤ j) → aI u' 5 j = aI u 5 j
theorem s_th_l (hD : pl_D ow) {p : Nat} (hp : p < 4) (ho : ∀ c, c < 20 → aI u 0 c = i3 (ow c)) (h : ∀ u', thI ow p 0 u u' → post u') :
    ∀ (k : Nat) (u' : ZS) (v : Int32), k ≤ 20 → v = (if k = 0 then -(i3 1) else i3 (k - 1)) → thI ow p k u u' → b_ha_takeHand_15 post (k + 1) (i3 p) (i3 (5 * p + 5 - pl_cn ow p k)) v u' := by
  intro k
  induction k with
  | zero =>
    intro u' v hk hv hI
    rw [if_pos rfl] at hv
    subst hv
    unfold b_ha_takeHand_15
    exact ⟨fun _ => h u' hI, fun hx => absurd (by decide) hx⟩
  | succ k ih =>
    intro u' v hk hv hI
    rw [if_neg (by omega), Nat.add_sub_cancel] at hv
    subst hv
    have h5 := rk_cn5 hD hk hp
    have h4k := hD.1 k (by omega)
    obtain ⟨i1, i2, i3', i4, i5⟩ := id hI
    have nxt : ∀ (v : Int32), v = i3 k + -(i3 1) → v = (if k = 0 then -(i3 1) else i3 (k - 1)) := by
      intro v hv
      by_cases hk0 : k = 0
      · subst hk0; rw [if_pos rfl, hv]; rfl
      · rw [if_neg hk0, hv, i3_dec (by omega)]
    unfold b_ha_takeHand_15
    refine ⟨fun hx => ?_, fun _ => ⟨fun hx => ?_, fun hx => ?_⟩⟩
    · rw [i3_n0 (by omega)] at hx; exact hx.elim
    · rw [i3_20, i3_le (by omega) (by omega)] at hx
      have h0 : pl_cn ow p (k + 1) = 0 := by omega
      have hno : ∀ c, c < k + 1 → ow c ≠ p := by
        intro c hc he
        have := pl_cn_mono ow p (a := c + 1) (b := k + 1) (by omega)
        rw [pl_cn_s, if_pos he] at this; omega
      refine h u' ⟨i1, fun c => ?_, i3', fun c _ hc he => ?_, i5⟩
      · rw [i2 c]
        refine ⟨fun ⟨x1, x2, x3⟩ => ⟨Nat.zero_le _, x2, x3⟩, fun ⟨x1, x2, x3⟩ => ⟨?_, x2, x3⟩⟩
        apply Classical.byContradiction
        intro hlt
        exact hno c (by omega) x3
      · refine i4 c ?_ hc he
        apply Classical.byContradiction
        intro hlt
        exact hno c (by omega) he
    · rw [i3_20, i3_le (by omega) (by omega)] at hx
      rw [i3_in (by omega), i3_nat (by omega), i1.2.2.1 0 (by decide), ho k (by omega), i3_eq (by omega) (by omega)]
      refine ⟨by omega, fun hne => ?_, fun he => ?_⟩
      · unfold b_ha_takeHand_61
        have ec : pl_cn ow p (k + 1) = pl_cn ow p k := by rw [pl_cn_s, if_neg hne]; rfl
        rw [ec]
        refine ih u' _ (by omega) (nxt _ rfl) ⟨i1, fun c => ?_, i3', fun c hkc hc he => ?_, i5⟩
        · rw [i2 c]
          refine ⟨fun ⟨x1, x2, x3⟩ => ⟨by omega, x2, x3⟩, fun ⟨x1, x2, x3⟩ => ⟨?_, x2, x3⟩⟩
          apply Classical.byContradiction
          intro hlt
          have : c = k := by omega
          subst this; exact hne x3
        · refine i4 c ?_ hc he
          apply Classical.byContradiction
          intro hlt
          have : c = k := by omega
          subst this; exact hne he
      · have ec : pl_cn ow p (k + 1) = pl_cn ow p k + 1 := by rw [pl_cn_s, if_pos he]
        unfold b_ha_takeHand_61
        have e1 : i3 (5 * p + 5 - pl_cn ow p (k + 1)) + 1 = i3 (5 * p + 5 - pl_cn ow p k) := by rw [i3_1, i3_add, ec]; congr 1; omega
        have e2 : i3 k &&& 31 = i3 k := by rw [i3_31, i3_a31, Nat.mod_eq_of_lt (by omega)]
        rw [i3_in (by omega), i3_in (by omega), i3_nat (by omega), i3_nat (by omega), e1, e2]
        refine ⟨hp, hp, by omega, ih _ _ (by omega) (nxt _ rfl) ⟨fx_pI (fx_pI i1 (by decide)) (by decide), fun c => ?_, fun q hq => ?_, fun c hkc hc hco => ?_, fun j hj => ?_⟩⟩
        · rw [a2 (by decide), a1, up1, bt_or, Bool.or_eq_true, i2 c, i3_1, bt_one (by omega), decide_eq_true_eq]
          refine ⟨fun hh => ?_, fun ⟨x1, x2, x3⟩ => ?_⟩
          · rcases hh with ⟨x1, x2, x3⟩ | hh
            · exact ⟨by omega, x2, x3⟩
            · subst hh; exact ⟨Nat.le_refl _, by omega, he⟩
          · by_cases hck : c = k
            · exact Or.inr hck
            · exact Or.inl ⟨by omega, x2, x3⟩
        · rw [a2 (by decide), a1, up2 hq]; exact i3' q hq
        · rw [a1]
          by_cases hck : c = k
          · subst hck; rw [up1]
          · have hlt := pl_cn_lt (ow := ow) (p := p) (a := k) hco (show k < c by omega)
            have h5c := rk_cn5 hD (show c + 1 ≤ 20 by omega) hp
            rw [up2 (by omega), a2 (by decide)]
            exact i4 c (by omega) hc hco
        · rw [a1, up2 (by omega), a2 (by decide)]
          exact i5 j hj
theorem s_th (hD : pl_D ow) {p : Nat} (hp : p < 4) (ho : ∀ c, c < 20 → aI u 0 c = i3 (ow c)) (h : ∀ u', thI ow p 0 u u' → post u') : w_ha_takeHand (i3 p) u post := by
  unfold w_ha_takeHand
  rw [i3_in (by omega), i3_nat (by omega)]
  refine ⟨hp, 21, ?_⟩
  have e : i3 p * 5 = i3 (5 * p + 5 - pl_cn ow p 20) := by rw [hD.2 p hp, i3_5, i3_mul]; congr 1; omega
  rw [e]
  refine s_th_l hD hp ho h 20 _ _ (by omega) rfl ⟨fx_pI fx_rf (by decide), fun c => ?_, fun q hq => ?_, fun c h1 h2 => by omega, fun j _ => by rw [a2 (by decide)]⟩
  · rw [a1, up1, i3_0, bt_0]
    exact ⟨fun hh => (by cases hh), fun ⟨x1, x2, _⟩ => by omega⟩
  · rw [a1, up2 hq]
theorem s_take {cd : Nat → Nat} (hD : pl_D ow) (ho : ∀ c, c < 20 → aI u 0 c = i3 (ow c)) (h : ∀ u', fx [4] [] [4, 5] [] u u' → cH u' 1 0 cd ow → cC u' ow → post u') : w_ha_take u post := by
  refine ⟨5, ?_⟩
  have st : ∀ (f p : Nat) (u' : ZS), f + p = 4 → fx [] [] [4, 5] [] u u' → (∀ q, q < p → ∀ c, bt (aI u' 4 q) c = true ↔ c < 20 ∧ ow c = q) → (∀ q, q < p → ∀ c, c < 20 → ow c = q → aI u' 5 (5 * q + 5 - pl_cn ow q (c + 1)) = i3 c) → b_ha_take_2 post (f + 1) (i3 p) u' := by
    intro f
    induction f with
    | zero =>
      intro p u' hfp hx hb hc
      have e : p = 4 := by omega
      subst e
      unfold b_ha_take_2
      refine ⟨fun _ => h _ (fx_sI (fx_mo hx (by decide) (by decide) (by decide) (by decide)) (by decide)) ⟨f1, by omega, fun i hi => by omega, fun i hi => by omega, fun p hp c => ?_⟩ (fun p hp c hc20 hco => ?_), fun hy => absurd (by decide) hy⟩
      · rw [a3, hb p hp c]
        exact ⟨fun ⟨x1, x2⟩ => ⟨x1, rfl, x2, fun i hi => by omega⟩, fun ⟨x1, _, x2, _⟩ => ⟨x1, x2⟩⟩
      · rw [a3]; exact hc p hp c hc20 hco
    | succ f ih =>
      intro p u' hfp hx hb hc
      unfold b_ha_take_2
      refine ⟨fun hy => ?_, fun _ => ?_⟩
      · rw [i3_4, i3_le (by omega) (by omega)] at hy; omega
      refine s_th hD (by omega) (fun c hc => by rw [hx.2.2.1 0 (by decide)]; exact ho c hc) (fun u2 hI => ?_)
      obtain ⟨i1, i2, i3', i4, i5⟩ := hI
      rw [i3_1, i3_add]
      refine ih (p + 1) u2 (by omega) (fx_tr hx i1) (fun q hq c => ?_) (fun q hq c hc20 hco => ?_)
      · by_cases hqp : q = p
        · subst hqp; rw [i2 c]
          exact ⟨fun ⟨_, x2, x3⟩ => ⟨x2, x3⟩, fun ⟨x2, x3⟩ => ⟨Nat.zero_le _, x2, x3⟩⟩
        · rw [i3' q hqp]; exact hb q (by omega) c
      · have h5c := rk_cn5 hD (show c + 1 ≤ 20 by omega) (show q < 4 by omega)
        by_cases hqp : q = p
        · subst hqp; exact i4 c (Nat.zero_le _) hc20 hco
        · rw [i5 _ (by rw [pl_cn_s, if_pos hco] at *; omega)]; exact hc q (by omega) c hc20 hco
  exact st 4 0 u (by omega) fx_rf (fun q hq => by omega) (fun q hq => by omega)
end CDe
