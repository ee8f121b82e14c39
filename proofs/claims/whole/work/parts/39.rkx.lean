/-! which deal a number is -/
def rk_pk (lf : Nat → Nat) (r : Nat) : Nat := if r < rk_b lf 1 then 0 else if r < rk_b lf 2 then 1 else if r < rk_b lf 3 then 2 else 3
def rk_st (num : Nat) : Nat → (Nat → Nat) × Nat
  | 0 => (fun _ => 5, num)
  | c + 1 => (rk_dn (rk_st num c).1 (rk_pk (rk_st num c).1 (rk_st num c).2), (rk_st num c).2 - rk_b (rk_st num c).1 (rk_pk (rk_st num c).1 (rk_st num c).2))
def rk_ow (num c : Nat) : Nat := rk_pk (rk_st num c).1 (rk_st num c).2
theorem rk_pk_ok {lf : Nat → Nat} {r : Nat} (h : r < rk_b lf 4) : rk_pk lf r < 4 ∧ rk_b lf (rk_pk lf r) ≤ r ∧ r < rk_b lf (rk_pk lf r + 1) := by
  unfold rk_pk
  split
  · rename_i h1; exact ⟨by omega, Nat.zero_le _, h1⟩
  · rename_i h1
    split
    · rename_i h2; exact ⟨by omega, by omega, h2⟩
    · rename_i h2
      split
      · rename_i h3; exact ⟨by omega, by omega, h3⟩
      · rename_i h3; exact ⟨by omega, by omega, h⟩
theorem rk_st_s (num c : Nat) : rk_st num (c + 1) = (rk_dn (rk_st num c).1 (rk_ow num c), (rk_st num c).2 - rk_b (rk_st num c).1 (rk_ow num c)) := rfl
theorem rk_st_lf (num : Nat) : ∀ c, (rk_st num c).1 = rk_lf (rk_ow num) c
  | 0 => rfl
  | c + 1 => by rw [rk_st_s, rk_st_lf num c]; rfl
theorem rk_st_ok {num : Nat} (hn : num < 11732745024) : ∀ c, c ≤ 20 → (∀ p, p < 4 → (rk_st num c).1 p < 6) ∧ (rk_st num c).1 0 + (rk_st num c).1 1 + (rk_st num c).1 2 + (rk_st num c).1 3 = 20 - c ∧ (rk_st num c).2 < rk_T (rk_st num c).1 ∧ (rk_st num c).2 + rk_n (rk_ow num) c = num
  | 0, _ => ⟨fun p _ => by show 5 < 6; omega, rfl, by show num < rk_M 5 5 5 5; rw [rk_top]; exact hn, by show num + 0 = num; omega⟩
  | c + 1, hc => by
    obtain ⟨h1, h2, h3, h4⟩ := rk_st_ok hn c (by omega)
    have h4b := rk_b4 h1 (by omega)
    obtain ⟨p1, p2, p3⟩ := rk_pk_ok (lf := (rk_st num c).1) (r := (rk_st num c).2) (by rw [h4b]; exact h3)
    have hp : rk_ow num c = rk_pk (rk_st num c).1 (rk_st num c).2 := rfl
    rw [← hp] at p1 p2 p3
    have eb : rk_b (rk_st num c).1 (rk_ow num c + 1) = rk_b (rk_st num c).1 (rk_ow num c) + rk_w (rk_st num c).1 (rk_ow num c) := rfl
    have hpos : 0 < (rk_st num c).1 (rk_ow num c) := by
      apply Classical.byContradiction
      intro h0
      have := rk_w_0 p1 (show (rk_st num c).1 (rk_ow num c) = 0 by omega)
      omega
    rw [rk_st_s]
    refine ⟨fun p hp4 => ?_, ?_, ?_, ?_⟩
    · show rk_dn (rk_st num c).1 (rk_ow num c) p < 6
      unfold rk_dn
      have := h1 p hp4
      split <;> omega
    · show rk_dn (rk_st num c).1 (rk_ow num c) 0 + rk_dn (rk_st num c).1 (rk_ow num c) 1 + rk_dn (rk_st num c).1 (rk_ow num c) 2 + rk_dn (rk_st num c).1 (rk_ow num c) 3 = 20 - (c + 1)
      unfold rk_dn
      have hq : rk_ow num c = 0 ∨ rk_ow num c = 1 ∨ rk_ow num c = 2 ∨ rk_ow num c = 3 := by omega
      rcases hq with e | e | e | e <;> rw [e] at hpos ⊢ <;> simp <;> omega
    · show (rk_st num c).2 - rk_b (rk_st num c).1 (rk_ow num c) < rk_T (rk_dn (rk_st num c).1 (rk_ow num c))
      rw [← rk_w_dn p1 hpos]; omega
    · show (rk_st num c).2 - rk_b (rk_st num c).1 (rk_ow num c) + (rk_n (rk_ow num) c + rk_b (rk_lf (rk_ow num) c) (rk_ow num c)) = num
      rw [← rk_st_lf]; omega
theorem rk_ow_is {num : Nat} (hn : num < 11732745024) : rk_is (rk_ow num) num := by
  intro c hc
  obtain ⟨h1, h2, h3, h4⟩ := rk_st_ok hn c (by omega)
  have h4b := rk_b4 h1 (by omega)
  obtain ⟨p1, p2, p3⟩ := rk_pk_ok (lf := (rk_st num c).1) (r := (rk_st num c).2) (by rw [h4b]; exact h3)
  have hp : rk_ow num c = rk_pk (rk_st num c).1 (rk_st num c).2 := rfl
  rw [← hp] at p1 p2 p3
  have eb : rk_b (rk_st num c).1 (rk_ow num c + 1) = rk_b (rk_st num c).1 (rk_ow num c) + rk_w (rk_st num c).1 (rk_ow num c) := rfl
  rw [← rk_st_lf]
  refine ⟨p1, ?_, by omega, by omega⟩
  apply Classical.byContradiction
  intro h0
  have := rk_w_0 p1 (show (rk_st num c).1 (rk_ow num c) = 0 by omega)
  omega
section RkD
variable {ow : Nat → Nat}
theorem rk_cn5 (hD : pl_D ow) {c p : Nat} (hc : c ≤ 20) (hp : p < 4) : pl_cn ow p c ≤ 5 := by
  have := pl_cn_mono ow p hc
  rw [hD.2 p hp] at this; exact this
theorem rk_sum (hD : pl_D ow) {c : Nat} (hc : c ≤ 20) : rk_lf ow c 0 + rk_lf ow c 1 + rk_lf ow c 2 + rk_lf ow c 3 = 20 - c := by
  have h := pl_cn_sum c (fun k hk => hD.1 k (by omega))
  have h0 := rk_cn5 hD hc (show 0 < 4 by omega)
  have h1 := rk_cn5 hD hc (show 1 < 4 by omega)
  have h2 := rk_cn5 hD hc (show 2 < 4 by omega)
  have h3 := rk_cn5 hD hc (show 3 < 4 by omega)
  rw [rk_lf_cn, rk_lf_cn, rk_lf_cn, rk_lf_cn]; omega
theorem rk_pos (hD : pl_D ow) {c : Nat} (hc : c < 20) : 0 < rk_lf ow c (ow c) := by
  have := rk_cn5 hD (show c + 1 ≤ 20 by omega) (hD.1 c hc)
  rw [pl_cn_s, if_pos rfl] at this
  rw [rk_lf_cn]; omega
theorem rk_nT (hD : pl_D ow) {c : Nat} (hc : c < 20) : rk_T (rk_lf ow (c + 1)) = rk_w (rk_lf ow c) (ow c) := (rk_w_dn (hD.1 c hc) (rk_pos hD hc)).symm
theorem rk_wle (hD : pl_D ow) {c p : Nat} (hc : c < 20) (hp : p < 4) : rk_w (rk_lf ow c) p ≤ 11732745024 := by
  have h4 := rk_b4 (lf := rk_lf ow c) (fun p _ => rk_lf_le ow c p) (by rw [rk_sum hD (by omega)]; omega)
  have hT := rk_T_le (lf := rk_lf ow c) (fun p _ => rk_lf_le ow c p)
  have e : rk_b (rk_lf ow c) 4 = 0 + rk_w (rk_lf ow c) 0 + rk_w (rk_lf ow c) 1 + rk_w (rk_lf ow c) 2 + rk_w (rk_lf ow c) 3 := rfl
  have hq : p = 0 ∨ p = 1 ∨ p = 2 ∨ p = 3 := by omega
  rcases hq with rfl | rfl | rfl | rfl <;> omega
end RkD
/-! shuffled rows -/
def sh_P (r : Nat → Nat) : Prop := (∀ i, i < 20 → r i < 20) ∧ (∀ i j, i < 20 → j < 20 → r i = r j → i = j) ∧ ∀ c, c < 20 → ∃ i, i < 20 ∧ r i = c
theorem sh_id : sh_P (fun i => i) := ⟨fun _ h => h, fun _ _ _ _ h => h, fun c h => ⟨c, h, rfl⟩⟩
theorem sh_sw {r : Nat → Nat} {a b : Nat} (ha : a < 20) (hb : b < 20) (h : sh_P r) : sh_P (fun i => r (pl_sw a b i)) := by
  obtain ⟨h1, h2, h3⟩ := h
  refine ⟨fun i hi => h1 _ (pl_sw_lt ha hb hi), fun i j hi hj he => pl_sw_inj (h2 _ _ (pl_sw_lt ha hb hi) (pl_sw_lt ha hb hj) he), fun c hc => ?_⟩
  obtain ⟨i, hi, he⟩ := h3 c hc
  exact ⟨pl_sw a b i, pl_sw_lt ha hb hi, by show r (pl_sw a b (pl_sw a b i)) = c; rw [pl_sw_sw]; exact he⟩
/-- the owners that a row gives -/
def sh_w (r : Nat → Nat) (o : Nat → Nat) : Nat → Nat → Nat
  | 0 => o
  | i + 1 => va_up (sh_w r o i) (r i) (i / 5)
theorem sh_w_at {r o : Nat → Nat} (h : sh_P r) : ∀ k, k ≤ 20 → ∀ i, i < k → sh_w r o k (r i) = i / 5
  | 0, _, i, hi => by omega
  | k + 1, hk, i, hi => by
    show va_up (sh_w r o k) (r k) (k / 5) (r i) = i / 5
    by_cases hik : i = k
    · subst hik; rw [va_up_s]
    · rw [va_up_n (fun e => hik (h.2.1 i k (by omega) (by omega) e))]
      exact sh_w_at h k (by omega) i (by omega)
def sh_ow (r : Nat → Nat) : Nat → Nat := sh_w r (fun _ => 0) 20
theorem sh_ow_at {r : Nat → Nat} (h : sh_P r) {i : Nat} (hi : i < 20) : sh_ow r (r i) = i / 5 := sh_w_at h 20 (by omega) i hi
theorem sh_D {r : Nat → Nat} (h : sh_P r) : pl_D (sh_ow r) := by
  have h4 : ∀ c, c < 20 → sh_ow r c < 4 := by
    intro c hc
    obtain ⟨i, hi, he⟩ := h.2.2 c hc
    rw [← he, sh_ow_at h hi]; omega
  have ge : ∀ p, p < 4 → 5 ≤ pl_cn (sh_ow r) p 20 := by
    intro p hp
    apply Classical.byContradiction
    intro hlt
    obtain ⟨g, g1, g2, g3⟩ := pl_cn_list (sh_ow r) p 20
    have ex : ∀ q, q < 5 → ∃ i, i < 4 ∧ g i = r (5 * p + q) := by
      intro q hq
      obtain ⟨i, hi, he⟩ := g3 (r (5 * p + q)) (h.1 _ (by omega)) (by rw [sh_ow_at h (by omega)]; omega)
      exact ⟨i, by omega, he⟩
    have ne : ∀ q q' i, q < q' → q' < 5 → g i = r (5 * p + q) → g i = r (5 * p + q') → False := by
      intro q q' i h1 h2 h3 h4
      have := h.2.1 (5 * p + q) (5 * p + q') (by omega) (by omega) (by rw [← h3, ← h4])
      omega
    obtain ⟨a, a1, a2⟩ := ex 0 (by omega)
    obtain ⟨b, b1, b2⟩ := ex 1 (by omega)
    obtain ⟨c, c1, c2⟩ := ex 2 (by omega)
    obtain ⟨d, d1, d2⟩ := ex 3 (by omega)
    obtain ⟨e, e1, e2⟩ := ex 4 (by omega)
    rcases pl_pig a a1 b b1 c c1 d d1 e e1 with q | q | q | q | q | q | q | q | q | q <;> subst q
    · exact ne 0 1 _ (by omega) (by omega) a2 b2
    · exact ne 0 2 _ (by omega) (by omega) a2 c2
    · exact ne 0 3 _ (by omega) (by omega) a2 d2
    · exact ne 0 4 _ (by omega) (by omega) a2 e2
    · exact ne 1 2 _ (by omega) (by omega) b2 c2
    · exact ne 1 3 _ (by omega) (by omega) b2 d2
    · exact ne 1 4 _ (by omega) (by omega) b2 e2
    · exact ne 2 3 _ (by omega) (by omega) c2 d2
    · exact ne 2 4 _ (by omega) (by omega) c2 e2
    · exact ne 3 4 _ (by omega) (by omega) d2 e2
  refine ⟨h4, fun p hp => ?_⟩
  have hs := pl_cn_sum 20 h4
  have g0 := ge 0 (by omega)
  have g1 := ge 1 (by omega)
  have g2 := ge 2 (by omega)
  have g3 := ge 3 (by omega)
  have hq : p = 0 ∨ p = 1 ∨ p = 2 ∨ p = 3 := by omega
  rcases hq with rfl | rfl | rfl | rfl <;> omega
/-- the place that the i-th card changes with -/
def sh_x (h : Int64) : Int64 := (Int64.toUInt64 h >>> (Int64.toUInt64 (Int32.toInt64 33) &&& Int64.toUInt64 63)).toInt64
def sh_h (h : Int64) : Int64 := (h * 6364136223846793005) + 1442695040888963407
def sh_n (h : Int64) : Nat := (Int64.toUInt64 h >>> (33 : UInt64)).toNat
theorem sh_n_lt (h : Int64) : sh_n h < 2147483648 := by
  unfold sh_n
  rw [UInt64.toNat_shiftRight]
  have e : (33 : UInt64).toNat % 64 = 33 := rfl
  rw [e, Nat.shiftRight_eq_div_pow]
  have := UInt64.toNat_lt (Int64.toUInt64 h)
  omega
theorem sh_x_eq (h : Int64) : sh_x h = j6 (sh_n h) := by
  have e : (Int64.toUInt64 (Int32.toInt64 33) &&& Int64.toUInt64 63) = (33 : UInt64) := by decide
  unfold sh_x sh_n
  rw [e]
  apply Int64.toBitVec_inj.mp
  show (Int64.toUInt64 h >>> (33 : UInt64)).toBitVec = BitVec.ofNat 64 (Int64.toUInt64 h >>> (33 : UInt64)).toNat
  apply BitVec.eq_of_toNat_eq
  rw [BitVec.toNat_ofNat, UInt64.toNat_toBitVec, Nat.mod_eq_of_lt (UInt64.toNat_lt _)]
def sh_j (h : Int64) (i : Nat) : Nat := sh_n h % (i + 1)
theorem sh_j_eq {h : Int64} {i : Nat} (hi : i < 20) : Int64.toInt32 (sh_x h - sh_x h / (Int32.toInt64 (i3 i + 1)) * (Int32.toInt64 (i3 i + 1))) = i3 (sh_j h i) := by
  have h1 := sh_n_lt h
  have h2 : sh_n h / (i + 1) * (i + 1) ≤ sh_n h := Nat.div_mul_le_self _ _
  have h3 : sh_n h % (i + 1) < i + 1 := Nat.mod_lt _ (by omega)
  rw [sh_x_eq, i3_1, i3_add, j6_of (by omega), j6_div (by omega) (by omega), j6_mul, j6_sub h2, nrem, j6_to (by omega)]
  rfl
theorem sh_j_le (h : Int64) (i : Nat) : sh_j h i ≤ i := by
  have : sh_n h % (i + 1) < i + 1 := Nat.mod_lt _ (by omega)
  unfold sh_j; omega
/-- the row behind the changes of the places k, k-1 .. 1 -/
def sh_it : Nat → Int64 → (Nat → Nat) → Nat → Nat
  | 0, _, r => r
  | k + 1, h, r => sh_it k (sh_h h) (fun i => r (pl_sw (sh_j (sh_h h) (k + 1)) (k + 1) i))
theorem sh_it_P : ∀ (k : Nat) (h : Int64) (r : Nat → Nat), k < 20 → sh_P r → sh_P (sh_it k h r)
  | 0, h, r, _, hr => hr
  | k + 1, h, r, hk, hr => sh_it_P k (sh_h h) _ (by omega) (sh_sw (by have := sh_j_le (sh_h h) (k + 1); omega) hk hr)
def sh_row (seed : Int64) : Nat → Nat := sh_it 19 seed (fun i => i)
theorem sh_row_P (seed : Int64) : sh_P (sh_row seed) := sh_it_P 19 seed _ (by omega) sh_id
theorem sh_row_d (seed : Int64) : sh_it 19 seed (fun i => i) = sh_row seed := by unfold sh_row; rfl
