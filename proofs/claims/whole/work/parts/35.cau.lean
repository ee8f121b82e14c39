/-! the component's auction -/
/-- the picture's auction is: n calls cs, dealer d -/
def cA (u : ZS) (n d : Nat) (cs : Nat → Nat) : Prop := fI u 2 = i3 n ∧ fI u 3 = i3 d ∧ n ≤ 139 ∧ d < 4 ∧ (∀ i, i < n → cs i ≤ 17) ∧ ∀ i, i < n → aI u 3 i = i3 (cs i)
def oI : Option Nat → Int32
  | none => -(i3 1)
  | some k => i3 k
/-- 1 if the auction has ended -/
def au_en (cs : Nat → Nat) (n : Nat) : Nat := match au_lt cs 1 n with
  | none => if 4 ≤ n then 1 else 0
  | some k => if k + 4 ≤ n then 1 else 0
theorem au_en1 {cs : Nat → Nat} {n : Nat} : au_en cs n = 1 ↔ au_end cs n := by
  unfold au_en au_end
  cases au_lt cs 1 n <;> simp only <;> split <;> omega
theorem au_en0 {cs : Nat → Nat} {n : Nat} : au_en cs n = 0 ↔ ¬ au_end cs n := by
  unfold au_en au_end
  cases au_lt cs 1 n <;> simp only <;> split <;> omega
/-- the first call of the side that names the strain of the k-th -/
def au_ff (cs : Nat → Nat) (k : Nat) : Nat → Nat → Nat
  | 0, i => i
  | f + 1, i => if 3 ≤ cs i ∧ i % 2 = k % 2 ∧ (cs i - 3) % 5 = (cs k - 3) % 5 then i else au_ff cs k f (i + 1)
def au_dc (d : Nat) (cs : Nat → Nat) (n : Nat) : Nat := match au_lt cs 3 n with
  | none => 0
  | some k => (d + au_ff cs k k 0) % 4
theorem au_ff_le {cs : Nat → Nat} {k : Nat} : ∀ {f i : Nat}, f + i = k → au_ff cs k f i ≤ k
  | 0, i, h => by unfold au_ff; omega
  | f + 1, i, h => by
    unfold au_ff
    split
    · omega
    · exact au_ff_le (by omega)
theorem au_bid0 {cs : Nat → Nat} {n : Nat} (h : au_lt cs 3 n = none) : au_bid cs n = 0 := by unfold au_bid; rw [h]
theorem au_bid3 {cs : Nat → Nat} {n k : Nat} (h : au_lt cs 3 n = some k) : au_bid cs n = cs k ∧ 3 ≤ cs k ∧ k < n := by
  have := au_lt_some h
  unfold au_bid; rw [h]; exact ⟨rfl, this.2.1, this.1⟩
theorem au_dc_lt (d : Nat) (cs : Nat → Nat) (n : Nat) : au_dc d cs n < 4 := by
  unfold au_dc
  cases au_lt cs 3 n <;> simp only <;> omega
theorem au_dbl_le (cs : Nat → Nat) (n : Nat) : au_dbl cs n ≤ 2 := by
  unfold au_dbl
  cases au_lt cs 1 n with
  | none => simp
  | some k => simp only; split <;> omega
section CAu
variable {u : ZS} {n d : Nat} {cs : Nat → Nat} {post : Int32 → ZS → Prop}
theorem s_pol_l (hA : cA u n d cs) (g : Nat) (hg : g < 100) : ∀ k : Nat, k < n → post (oI (au_lt cs g (k + 1))) u → b_au_placeOfLatest_7 post (k + 2) (i3 g) (i3 k) u := by
  obtain ⟨e2, e3, hn, hd, h17, hc⟩ := hA
  intro k
  induction k with
  | zero =>
    intro hk h
    have hc0 := h17 0 hk
    unfold b_au_placeOfLatest_7
    simp (disch := omega) only [i3_0, i3_1, i3_2, i3_3, i3_4, i3_5, i3_6, i3_10, i3_12, i3_15, i3_17, i3_19, i3_20, i3_21, i3_31, i3_139, i3_add, i3_mul, i3_sub, i3_dec, i3_div, i3_eq, i3_lt, i3_le, i3_nat, i3_in, i3_m1, i3_n0, i3_a1, i3_a3, i3_a31, nrem, hc 0 hk]
    refine ⟨fun hx => by omega, fun _ => ⟨by omega, fun hlt => ?_, fun hge => ?_⟩⟩
    · have e : i3 0 + -(i3 1) = -(i3 1) := rfl
      rw [e]
      unfold b_au_placeOfLatest_7
      refine ⟨fun _ => ?_, fun hx => absurd (by decide) hx⟩
      rw [au_lt, if_neg (by omega)] at h
      exact h
    · rw [au_lt, if_pos (by omega)] at h
      exact h
  | succ k ih =>
    intro hk h
    have hc0 := h17 (k + 1) hk
    unfold b_au_placeOfLatest_7
    simp (disch := omega) only [i3_0, i3_1, i3_2, i3_3, i3_4, i3_5, i3_6, i3_10, i3_12, i3_15, i3_17, i3_19, i3_20, i3_21, i3_31, i3_139, i3_add, i3_mul, i3_sub, i3_dec, i3_div, i3_eq, i3_lt, i3_le, i3_nat, i3_in, i3_m1, i3_n0, i3_a1, i3_a3, i3_a31, nrem, hc (k + 1) hk]
    refine ⟨fun hx => by omega, fun _ => ⟨by omega, fun hlt => ?_, fun hge => ?_⟩⟩
    · refine ih (by omega) ?_
      rw [au_lt, if_neg (by omega)] at h
      exact h
    · rw [au_lt, if_pos (by omega)] at h
      exact h
theorem s_pol (hA : cA u n d cs) (g : Nat) (hg : g < 100) (h : post (oI (au_lt cs g n)) u) : w_au_placeOfLatest (i3 g) u post := by
  have hA' := hA
  obtain ⟨e2, e3, hn, hd, h17, hc⟩ := hA
  unfold w_au_placeOfLatest
  rw [e2]
  cases n with
  | zero =>
    refine ⟨1, ?_⟩
    unfold b_au_placeOfLatest_7
    exact ⟨fun _ => h, fun hx => absurd (by decide) hx⟩
  | succ k =>
    refine ⟨k + 2, ?_⟩
    have e : i3 (k + 1) - 1 = i3 k := by rw [i3_1, i3_sub (by omega)]; rfl
    rw [e]
    exact s_pol_l hA' g hg k (by omega) h
theorem s_ended (hA : cA u n d cs) (h : post (i3 (au_en cs n)) u) : w_au_hasEnded u post := by
  have hA' := hA
  obtain ⟨e2, e3, hn, hd, h17, hc⟩ := hA
  unfold w_au_hasEnded
  refine s_pol hA' 1 (by omega) ?_
  unfold au_en at h
  cases hl : au_lt cs 1 n with
  | none =>
    rw [hl] at h
    simp only at h
    have e : i3 n - i3 1 - -(i3 1) = i3 n := by
      rw [Int32.sub_neg, Int32.sub_add_cancel]
    simp (disch := omega) only [oI, b_au_hasEnded_34, b_au_hasEnded_26, w_au_hasEnded, e2, i3_0, i3_1, i3_2, i3_3, i3_4, i3_5, i3_6, i3_10, i3_12, i3_15, i3_17, i3_19, i3_20, i3_21, i3_31, i3_139]
    rw [e]
    simp (disch := omega) only [i3_add, i3_mul, i3_sub, i3_dec, i3_div, i3_eq, i3_lt, i3_le, i3_nat, i3_in, i3_m1, i3_n0, i3_a1, i3_a3, i3_a31, nrem]
    refine ⟨fun hx => absurd trivial hx, fun _ => ⟨fun hx => ⟨Or.inl trivial, ?_⟩, fun hx => ⟨Or.inr trivial, ?_⟩⟩⟩
    · rw [if_neg (by omega)] at h; exact h
    · rw [if_pos (by omega)] at h; exact h
  | some k =>
    have hk := (au_lt_some hl).1
    rw [hl] at h
    simp only at h
    simp (disch := omega) only [oI, b_au_hasEnded_34, b_au_hasEnded_26, w_au_hasEnded, e2, i3_0, i3_1, i3_2, i3_3, i3_4, i3_5, i3_6, i3_10, i3_12, i3_15, i3_17, i3_19, i3_20, i3_21, i3_31, i3_139, i3_add, i3_mul, i3_sub, i3_dec, i3_div, i3_eq, i3_lt, i3_le, i3_nat, i3_in, i3_m1, i3_n0, i3_a1, i3_a3, i3_a31, nrem]
    refine ⟨fun _ => ⟨fun hx => ⟨Or.inl trivial, ?_⟩, fun hx => ⟨Or.inr trivial, ?_⟩⟩, fun hx => hx.elim⟩
    · rw [if_neg (by omega)] at h; exact h
    · rw [if_pos (by omega)] at h; exact h
theorem s_bid (hA : cA u n d cs) (h0 : au_bid cs n = 0 → post (-1 : Int32) u) (h3 : 3 ≤ au_bid cs n → post (i3 (au_bid cs n)) u) : w_au_bid u post := by
  have hA' := hA
  obtain ⟨e2, e3, hn, hd, h17, hc⟩ := hA
  unfold w_au_bid
  refine s_pol hA' 3 (by omega) ?_
  cases hl : au_lt cs 3 n with
  | none =>
    simp only [oI, b_au_bid_21, w_au_bid]
    exact ⟨fun hx => absurd rfl hx, fun _ => h0 (au_bid0 hl)⟩
  | some k =>
    obtain ⟨eb, h3k, hk⟩ := au_bid3 hl
    simp (disch := omega) only [oI, b_au_bid_21, w_au_bid, i3_0, i3_1, i3_2, i3_3, i3_4, i3_5, i3_6, i3_10, i3_12, i3_15, i3_17, i3_19, i3_20, i3_21, i3_31, i3_139, i3_add, i3_mul, i3_sub, i3_dec, i3_div, i3_eq, i3_lt, i3_le, i3_nat, i3_in, i3_m1, i3_n0, i3_a1, i3_a3, i3_a31, nrem, hc k hk]
    rw [eb] at h3
    exact ⟨fun _ => ⟨by omega, h3 h3k⟩, fun hx => hx.elim⟩
theorem s_dbl (hA : cA u n d cs) (h : post (i3 (au_dbl cs n)) u) : w_au_doubled u post := by
  have hA' := hA
  obtain ⟨e2, e3, hn, hd, h17, hc⟩ := hA
  unfold w_au_doubled
  refine s_pol hA' 1 (by omega) ?_
  unfold au_dbl at h
  cases hl : au_lt cs 1 n with
  | none =>
    rw [hl] at h
    simp only [oI, b_au_doubled_21, b_au_doubled_38, w_au_doubled]
    exact ⟨fun _ => h, fun hx => absurd rfl hx⟩
  | some k =>
    obtain ⟨hk, h1, -⟩ := au_lt_some hl
    have h17' := h17 k hk
    rw [hl] at h
    simp only at h
    simp (disch := omega) only [oI, b_au_doubled_21, b_au_doubled_38, w_au_doubled, i3_0, i3_1, i3_2, i3_3, i3_4, i3_5, i3_6, i3_10, i3_12, i3_15, i3_17, i3_19, i3_20, i3_21, i3_31, i3_139, i3_add, i3_mul, i3_sub, i3_dec, i3_div, i3_eq, i3_lt, i3_le, i3_nat, i3_in, i3_m1, i3_n0, i3_a1, i3_a3, i3_a31, nrem, hc k hk]
    refine ⟨fun hx => hx.elim, fun _ => ⟨by omega, fun hx => ⟨by omega, fun hy => ?_, fun hy => ?_⟩, fun hx => ?_⟩⟩
    · rw [if_neg (by omega)] at h; have e : cs k = 1 := by omega
      rw [e] at h; exact h
    · rw [if_neg (by omega), hy] at h; exact h
    · rw [if_pos (by omega)] at h; exact h
theorem s_co (hA : cA u n d cs) {i : Nat} (hi : i < 1000) (h : post (i3 ((d + i) % 4)) u) : w_au_callerOf (i3 i) u post := by
  obtain ⟨e2, e3, hn, hd, h17, hc⟩ := hA
  unfold w_au_callerOf w_x_playerBehind
  simp (disch := omega) only [e3, i3_0, i3_1, i3_2, i3_3, i3_4, i3_5, i3_6, i3_10, i3_12, i3_15, i3_17, i3_19, i3_20, i3_21, i3_31, i3_139, i3_add, i3_mul, i3_sub, i3_dec, i3_div, i3_eq, i3_lt, i3_le, i3_nat, i3_in, i3_m1, i3_n0, i3_a1, i3_a3, i3_a31, nrem]
  exact h
theorem s_caller (hA : cA u n d cs) (h : post (i3 ((d + n) % 4)) u) : w_au_caller u post := by
  unfold w_au_caller
  have hn := hA.2.2.1
  rw [hA.1]
  exact s_co hA (by omega) h
theorem s_same (hA : cA u n d cs) {i j : Nat} (hi : i < 1000) (hj : j < 1000) (h1 : i % 2 = j % 2 → post 1 u) (h0 : ¬ i % 2 = j % 2 → post 0 u) : w_au_isSameSide (i3 i) (i3 j) u post := by
  unfold w_au_isSameSide
  refine s_co hA hi ?_
  unfold w_x_sideOf
  refine s_co hA hj ?_
  simp (disch := omega) only [b_au_isSameSide_24, w_au_isSameSide, i3_0, i3_1, i3_2, i3_3, i3_4, i3_5, i3_6, i3_10, i3_12, i3_15, i3_17, i3_19, i3_20, i3_21, i3_31, i3_139, i3_add, i3_mul, i3_sub, i3_dec, i3_div, i3_eq, i3_lt, i3_le, i3_nat, i3_in, i3_m1, i3_n0, i3_a1, i3_a3, i3_a31, nrem]
  refine ⟨fun hx => ⟨Or.inl trivial, h0 (by omega)⟩, fun hx => ⟨Or.inr trivial, h1 (by omega)⟩⟩
theorem s_dec_l (hA : cA u n d cs) {k : Nat} (hk : k < n) (h3k : 3 ≤ cs k) : ∀ f i : Nat, f + i = k → post (i3 ((d + au_ff cs k f i) % 4)) u → b_au_declarer_15 post (f + 1) (i3 k) (i3 i) u := by
  have hA' := hA
  obtain ⟨e2, e3, hn, hd, h17, hc⟩ := hA
  intro f
  induction f with
  | zero =>
    intro i hi h
    unfold b_au_declarer_15
    simp (disch := omega) only [i3_0, i3_1, i3_2, i3_3, i3_4, i3_5, i3_6, i3_10, i3_12, i3_15, i3_17, i3_19, i3_20, i3_21, i3_31, i3_139, i3_add, i3_mul, i3_sub, i3_dec, i3_div, i3_eq, i3_lt, i3_le, i3_nat, i3_in, i3_m1, i3_n0, i3_a1, i3_a3, i3_a31, nrem]
    exact ⟨fun _ => s_co hA' (by omega) (by have e : k = i := by omega
                                            rw [e]; exact h), fun hx => by omega⟩
  | succ f ih =>
    intro i hi h
    have hin : i < n := by omega
    have h17' := h17 i hin
    have h17k := h17 k hk
    unfold au_ff at h
    have nxt : ¬ (3 ≤ cs i ∧ i % 2 = k % 2 ∧ (cs i - 3) % 5 = (cs k - 3) % 5) → b_au_declarer_66 (b_au_declarer_15 post (f + 1)) post (i3 k) (i3 i) u := by
      intro hx
      unfold b_au_declarer_66
      rw [i3_1, i3_add]
      rw [if_neg hx] at h
      exact ih (i + 1) (by omega) h
    unfold b_au_declarer_15
    refine ⟨fun hx => ?_, fun _ => ?_⟩
    · rw [i3_le (by omega) (by omega)] at hx; omega
    · refine s_same hA' (by omega) (by omega) (fun hs => ?_) (fun hs => ?_)
      · simp (disch := omega) only [w_au_strain, i3_0, i3_1, i3_2, i3_3, i3_4, i3_5, i3_6, i3_10, i3_12, i3_15, i3_17, i3_19, i3_20, i3_21, i3_31, i3_139, i3_add, i3_mul, i3_sub, i3_dec, i3_div, i3_eq, i3_lt, i3_le, i3_nat, i3_in, i3_m1, i3_n0, i3_a1, i3_a3, i3_a31, nrem, hc i hin, hc k hk]
        refine ⟨fun hx => by omega, fun _ => ⟨by omega, fun hx => nxt (by omega), fun hx => ⟨by omega, ?_⟩⟩⟩
        simp (disch := omega) only [w_au_strain, i3_0, i3_1, i3_2, i3_3, i3_4, i3_5, i3_6, i3_10, i3_12, i3_15, i3_17, i3_19, i3_20, i3_21, i3_31, i3_139, i3_add, i3_mul, i3_sub, i3_dec, i3_div, i3_eq, i3_lt, i3_le, i3_nat, i3_in, i3_m1, i3_n0, i3_a1, i3_a3, i3_a31, nrem, hc i hin, hc k hk]
        refine ⟨by omega, fun hy => nxt (by omega), fun hy => ?_⟩
        rw [if_pos ⟨by omega, hs, hy⟩] at h
        exact s_co hA' (by omega) h
      · exact ⟨fun _ => nxt (fun hx => hs hx.2.1), fun hx => absurd rfl hx⟩
theorem s_dec (hA : cA u n d cs) (h0 : au_bid cs n = 0 → post (-1 : Int32) u) (h3 : 3 ≤ au_bid cs n → post (i3 (au_dc d cs n)) u) : w_au_declarer u post := by
  have hA' := hA
  obtain ⟨e2, e3, hn, hd, h17, hc⟩ := hA
  unfold w_au_declarer
  refine s_pol hA' 3 (by omega) ?_
  cases hl : au_lt cs 3 n with
  | none =>
    simp only [oI]
    exact ⟨fun hx => absurd rfl hx, fun _ => h0 (au_bid0 hl)⟩
  | some k =>
    obtain ⟨eb, h3k, hk⟩ := au_bid3 hl
    simp (disch := omega) only [oI, i3_0, i3_1, i3_2, i3_3, i3_4, i3_5, i3_6, i3_10, i3_12, i3_15, i3_17, i3_19, i3_20, i3_21, i3_31, i3_139, i3_add, i3_mul, i3_sub, i3_dec, i3_div, i3_eq, i3_lt, i3_le, i3_nat, i3_in, i3_m1, i3_n0, i3_a1, i3_a3, i3_a31, nrem]
    rw [eb] at h3
    have h := h3 h3k
    unfold au_dc at h
    rw [hl] at h
    exact ⟨fun _ => ⟨k + 1, s_dec_l hA' hk h3k k 0 (by omega) h⟩, fun hx => hx.elim⟩
theorem s_loo (hA : cA u n d cs) (h0 : (au_lt cs 1 n = none ∨ ∃ k, au_lt cs 1 n = some k ∧ (n - k) % 2 = 0) → post (-1 : Int32) u) (h1 : ∀ k, au_lt cs 1 n = some k → (n - k) % 2 = 1 → post (i3 (cs k)) u) : w_au_latestOfOthers u post := by
  have hA' := hA
  obtain ⟨e2, e3, hn, hd, h17, hc⟩ := hA
  unfold w_au_latestOfOthers
  refine s_pol hA' 1 (by omega) ?_
  cases hl : au_lt cs 1 n with
  | none =>
    simp only [oI, b_au_latestOfOthers_33, b_au_latestOfOthers_23, w_au_latestOfOthers]
    exact ⟨fun _ => h0 (Or.inl hl), fun hx => absurd rfl hx⟩
  | some k =>
    obtain ⟨hk, hk1, -⟩ := au_lt_some hl
    have h17' := h17 k hk
    simp (disch := omega) only [oI, i3_0, i3_1, i3_2, i3_3, i3_4, i3_5, i3_6, i3_10, i3_12, i3_15, i3_17, i3_19, i3_20, i3_21, i3_31, i3_139, i3_add, i3_mul, i3_sub, i3_dec, i3_div, i3_eq, i3_lt, i3_le, i3_nat, i3_in, i3_m1, i3_n0, i3_a1, i3_a3, i3_a31, nrem, e2]
    refine ⟨fun hx => hx.elim, fun _ => ?_⟩
    refine s_same hA' (by omega) (by omega) (fun hs => ⟨fun hx => absurd hx (by decide), fun _ => ?_⟩) (fun hs => ⟨fun _ => ⟨by omega, ?_⟩, fun hx => absurd rfl hx⟩)
    · simp only [b_au_latestOfOthers_33, b_au_latestOfOthers_23, w_au_latestOfOthers]; exact h0 (Or.inr ⟨k, hl, by omega⟩)
    · simp (disch := omega) only [b_au_latestOfOthers_33, b_au_latestOfOthers_23, w_au_latestOfOthers, i3_add, i3_mul, i3_sub, i3_dec, i3_div, i3_eq, i3_lt, i3_le, i3_nat, i3_in, i3_m1, i3_n0, i3_a1, i3_a3, i3_a31, nrem, hc k hk]; exact h1 k hl (by omega)
theorem s_allows (hA : cA u n d cs) {c : Nat} (hc17 : c ≤ 17) (h1 : au_ok cs n c → post 1 u) (h0 : ¬ au_ok cs n c → post 0 u) : w_au_allows (i3 c) u post := by
  have hA' := hA
  obtain ⟨e2, e3, hn, hd, h17, hc⟩ := hA
  have hb17 := au_bid_le h17
  unfold w_au_allows
  refine ⟨fun hx => ?_, fun hx => ?_, fun hx => ?_, fun hx => ?_⟩
  · rw [i3_0, i3_eq (by omega) (by omega)] at hx
    exact h1 (Or.inl hx)
  · rw [i3_1, i3_eq (by omega) (by omega)] at hx
    refine s_loo hA' (fun hn => ?_) (fun k hl hp => ?_)
    · simp only [b_au_allows_71, b_au_allows_43, b_au_allows_57, w_au_allows]
      refine ⟨fun _ => ⟨Or.inl trivial, h0 ?_⟩, fun hx => absurd (by decide) hx⟩
      rintro (h | ⟨h, k, e, h3, hp⟩ | ⟨h, -⟩ | ⟨h, -⟩)
      · omega
      · rcases hn with hn | ⟨k', e', hp'⟩
        · rw [hn] at e; cases e
        · rw [e'] at e; cases e; omega
      · omega
      · omega
    · have h17' := h17 k (au_lt_some hl).1
      simp (disch := omega) only [b_au_allows_71, b_au_allows_43, b_au_allows_57, w_au_allows, i3_0, i3_1, i3_2, i3_3, i3_4, i3_5, i3_6, i3_10, i3_12, i3_15, i3_17, i3_19, i3_20, i3_21, i3_31, i3_139, i3_add, i3_mul, i3_sub, i3_dec, i3_div, i3_eq, i3_lt, i3_le, i3_nat, i3_in, i3_m1, i3_n0, i3_a1, i3_a3, i3_a31, nrem]
      refine ⟨fun hlt => ⟨Or.inl trivial, h0 ?_⟩, fun hlt => ⟨Or.inr trivial, h1 (Or.inr (Or.inl ⟨hx, k, hl, by omega, hp⟩))⟩⟩
      rintro (h | ⟨h, k', e, h3, hp⟩ | ⟨h, -⟩ | ⟨h, -⟩)
      · omega
      · rw [hl] at e; cases e; omega
      · omega
      · omega
  · rw [i3_2, i3_eq (by omega) (by omega)] at hx
    refine s_loo hA' (fun hn => ?_) (fun k hl hp => ?_)
    · simp only [b_au_allows_71, b_au_allows_43, b_au_allows_57, w_au_allows]
      refine ⟨fun _ => ⟨Or.inl trivial, h0 ?_⟩, fun hx => absurd hx (by decide)⟩
      rintro (h | ⟨h, -⟩ | ⟨h, k, e, h3, hp⟩ | ⟨h, -⟩)
      · omega
      · omega
      · rcases hn with hn | ⟨k', e', hp'⟩
        · rw [hn] at e; cases e
        · rw [e'] at e; cases e; omega
      · omega
    · have h17' := h17 k (au_lt_some hl).1
      simp (disch := omega) only [b_au_allows_71, b_au_allows_43, b_au_allows_57, w_au_allows, i3_0, i3_1, i3_2, i3_3, i3_4, i3_5, i3_6, i3_10, i3_12, i3_15, i3_17, i3_19, i3_20, i3_21, i3_31, i3_139, i3_add, i3_mul, i3_sub, i3_dec, i3_div, i3_eq, i3_lt, i3_le, i3_nat, i3_in, i3_m1, i3_n0, i3_a1, i3_a3, i3_a31, nrem]
      refine ⟨fun hlt => ⟨Or.inl trivial, h0 ?_⟩, fun hlt => ⟨Or.inr trivial, h1 (Or.inr (Or.inr (Or.inl ⟨hx, k, hl, by omega, hp⟩)))⟩⟩
      rintro (h | ⟨h, -⟩ | ⟨h, k', e, h3, hp⟩ | ⟨h, -⟩)
      · omega
      · omega
      · rw [hl] at e; cases e; omega
      · omega
  · simp (disch := omega) only [i3_0, i3_1, i3_2, i3_3, i3_4, i3_5, i3_6, i3_10, i3_12, i3_15, i3_17, i3_19, i3_20, i3_21, i3_31, i3_139, i3_add, i3_mul, i3_sub, i3_dec, i3_div, i3_eq, i3_lt, i3_le, i3_nat, i3_in, i3_m1, i3_n0, i3_a1, i3_a3, i3_a31, nrem] at hx
    refine s_bid hA' (fun hb => ?_) (fun hb => ?_)
    · simp only [b_au_allows_71, b_au_allows_43, b_au_allows_57, w_au_allows]
      refine ⟨fun hy => ?_, fun _ => ⟨Or.inr trivial, h1 (Or.inr (Or.inr (Or.inr ⟨by omega, by omega⟩)))⟩⟩
      exfalso
      rw [Int32.le_iff_toInt_le, i3_z (by omega)] at hy
      have e : (-1 : Int32).toInt = -1 := rfl
      omega
    · simp (disch := omega) only [b_au_allows_71, b_au_allows_43, b_au_allows_57, w_au_allows, i3_0, i3_1, i3_2, i3_3, i3_4, i3_5, i3_6, i3_10, i3_12, i3_15, i3_17, i3_19, i3_20, i3_21, i3_31, i3_139, i3_add, i3_mul, i3_sub, i3_dec, i3_div, i3_eq, i3_lt, i3_le, i3_nat, i3_in, i3_m1, i3_n0, i3_a1, i3_a3, i3_a31, nrem]
      refine ⟨fun hy => ⟨Or.inl trivial, h0 ?_⟩, fun hy => ⟨Or.inr trivial, h1 (Or.inr (Or.inr (Or.inr ⟨by omega, by omega⟩)))⟩⟩
      rintro (h | ⟨h, -⟩ | ⟨h, -⟩ | ⟨h, h'⟩) <;> omega
theorem s_iscall {v : Int32} (h0 : (v < 0 ∨ 17 < v) → post 0 u) (h1 : ∀ c : Nat, c ≤ 17 → v = i3 c → post 1 u) : w_au_isCall v u post := by
  simp only [b_au_isCall_15, b_au_isCall_14, w_au_isCall]
  refine ⟨fun hx => ⟨Or.inl trivial, h0 (Or.inl hx)⟩, fun hx => ⟨fun hy => ⟨Or.inl trivial, h0 (Or.inr hy)⟩, fun hy => ⟨Or.inr trivial, ?_⟩⟩⟩
  have z0 : (0 : Int32).toInt = 0 := rfl
  have z17 : (17 : Int32).toInt = 17 := rfl
  rw [Int32.lt_iff_toInt_lt, z0] at hx
  rw [Int32.lt_iff_toInt_lt, z17] at hy
  refine h1 v.toInt.toNat (by omega) ?_
  rw [← Int32.toInt_inj, i3_z (by omega)]
  omega
theorem s_add {post : ZS → Prop} (hA : cA u n d cs) (hn : n < 139) {v : Int32} (h : post (sI (pI u 3 n v) 2 (i3 (n + 1)))) : w_au_add v u post := by
  obtain ⟨e2, e3, -, hd, h17, hc⟩ := hA
  simp (disch := omega) only [b_au_add_30, w_au_add, f4, e2, i3_0, i3_1, i3_2, i3_3, i3_4, i3_5, i3_6, i3_10, i3_12, i3_15, i3_17, i3_19, i3_20, i3_21, i3_31, i3_139, i3_add, i3_mul, i3_sub, i3_dec, i3_div, i3_eq, i3_lt, i3_le, i3_nat, i3_in, i3_m1, i3_n0, i3_a1, i3_a3, i3_a31, nrem]
  exact ⟨fun hx => by omega, fun _ => ⟨by omega, h⟩⟩
theorem s_tb {post : ZS → Prop} (hA : cA u n d cs) (h : 0 < n → post (sI u 2 (i3 (n - 1)))) (h0 : n = 0 → post u) : w_au_takeBack u post := by
  obtain ⟨e2, e3, hn, hd, h17, hc⟩ := hA
  simp (disch := omega) only [b_au_takeBack_17, w_au_takeBack, e2, i3_0, i3_1, i3_2, i3_3, i3_4, i3_5, i3_6, i3_10, i3_12, i3_15, i3_17, i3_19, i3_20, i3_21, i3_31, i3_139, i3_le]
  refine ⟨fun hx => h0 (by omega), fun hx => ?_⟩
  rw [i3_sub (by omega)]
  exact h (by omega)
/-- the phase: 0 no board, 1 auction, 2 play, 3 over -/
def phs (b : Nat) (cs : Nat → Nat) (n m : Nat) : Nat := if b = 0 then 0 else if au_en cs n = 0 then 1 else if au_bid cs n = 0 ∨ m = 20 then 3 else 2
theorem s_phase {b m : Nat} (hA : cA u n d cs) (hb : fI u 0 = i3 b) (hb1 : b ≤ 1) (hm : fI u 4 = i3 m) (hm20 : m ≤ 20) (h : post (i3 (phs b cs n m)) u) : w_x_phase u post := by
  have hb17 := au_bid_le hA.2.2.2.2.1
  unfold phs at h
  unfold w_x_phase
  refine ⟨fun hx => ?_, fun hx => ?_⟩
  · rw [hb, i3_0, i3_eq (by omega) (by omega)] at hx
    rw [if_neg hx] at h
    refine s_ended hA ?_
    have hen : au_en cs n = 0 ∨ au_en cs n = 1 := by
      unfold au_en
      cases au_lt cs 1 n <;> simp only <;> split <;> omega
    rcases hen with he | he <;> rw [he] at h ⊢
    · rw [if_pos rfl] at h
      exact ⟨fun hy => absurd rfl hy, fun _ => h⟩
    · rw [if_neg (by omega)] at h
      refine ⟨fun _ => ?_, fun hy => absurd hy (by decide)⟩
      refine s_bid hA (fun h0 => ?_) (fun h3 => ?_)
      · rw [if_pos (Or.inl h0)] at h
        exact ⟨fun _ => h, fun hy => absurd rfl hy⟩
      · simp (disch := omega) only [b_x_phase_47, b_x_phase_42, w_x_phase, b_ha_areEmpty_14, w_ha_areEmpty, hm, i3_0, i3_1, i3_2, i3_3, i3_4, i3_5, i3_6, i3_10, i3_12, i3_15, i3_17, i3_19, i3_20, i3_21, i3_31, i3_139, i3_add, i3_mul, i3_sub, i3_dec, i3_div, i3_eq, i3_lt, i3_le, i3_nat, i3_in, i3_m1, i3_n0, i3_a1, i3_a3, i3_a31, nrem]
        refine ⟨fun hy => hy.elim, fun _ => ⟨fun hy => ⟨Or.inl trivial, fun _ => ?_, fun hz => absurd trivial hz⟩, fun hy => ⟨Or.inr trivial, fun hz => by omega, fun _ => ?_⟩⟩⟩
        · rw [if_neg (by omega)] at h; exact h
        · rw [if_pos (by omega)] at h; exact h
  · rw [hb, i3_0, i3_eq (by omega) (by omega)] at hx
    rw [if_pos hx] at h
    exact h
end CAu
