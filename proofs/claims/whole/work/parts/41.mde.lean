/-! the model's deal -/
/-- the table of ways -/
def qmW (v : ZS) : Prop := ∀ n, n < 21 → ∀ k, k < n + 1 → aJ v 0 (21 * n + k) = j6 (rk_c n k)
theorem qmW_fx {fi fj ai aj : List Nat} {v v' : ZS} (hx : fx fi fj ai aj v v') (h0 : 0 ∉ aj) (h : qmW v) : qmW v' := by
  unfold qmW; rw [hx.2.2.2 0 h0]; exact h
theorem bt_nat {a j : Nat} (hj : j < 32) : bt (i3 a) j = a.testBit j := by
  show (BitVec.ofNat 32 a).getLsbD j = a.testBit j
  rw [BitVec.getLsbD_ofNat]
  simp [hj]
theorem i3_shr {a k : Nat} (ha : a < 2147483648) (hk : k < 32) : i3 a >>> i3 k = i3 (a / 2 ^ k) := by
  have e1 : (i3 k).toBitVec.smod 32 = BitVec.ofNat 32 k := eq_of_beq (rk_allT bt_sm_t hk)
  have hm : (i3 a).toBitVec.msb = false := by
    show (BitVec.ofNat 32 a).msb = false
    rw [BitVec.msb_eq_decide, BitVec.toNat_ofNat, Nat.mod_eq_of_lt (by omega)]
    simp; omega
  apply bt_ext
  intro j hj
  rw [bt_nat hj, Nat.testBit_div_two_pow]
  have e2 : bt (i3 a >>> i3 k) j = if k + j < 32 then bt (i3 a) (k + j) else false := by
    unfold bt
    rw [Int32.toBitVec_shiftRight, e1, BitVec.sshiftRight_eq', BitVec.toNat_ofNat, Nat.mod_eq_of_lt (by omega), BitVec.getLsbD_sshiftRight, hm]
    simp [hj]
  rw [e2]
  split
  · rename_i h; rw [bt_nat h, Nat.add_comm]
  · rename_i h
    symm
    apply Nat.testBit_lt_two_pow
    exact Nat.lt_of_lt_of_le ha (Nat.le_trans (by decide : 2147483648 ≤ 2 ^ 31) (Nat.pow_le_pow_right (by omega) (by omega)))
theorem i3_shl5_t : ((List.range 4).all fun p => (i3 1 <<< i3 (5 * p)) == i3 (2 ^ (5 * p))) = true := by decide +kernel
theorem i3_shl5 {p : Nat} (hp : p < 4) : i3 1 <<< i3 (5 * p) = i3 (2 ^ (5 * p)) := eq_of_beq (rk_allT i3_shl5_t hp)
/-- open places as one number -/
def qlE (lf : Nat → Nat) : Nat := lf 0 + 32 * lf 1 + 1024 * lf 2 + 32768 * lf 3
theorem qlE_dn {lf : Nat → Nat} {p : Nat} (hp : p < 4) (h0 : 0 < lf p) : qlE lf - 2 ^ (5 * p) = qlE (rk_dn lf p) ∧ 2 ^ (5 * p) ≤ qlE lf := by
  have hq : p = 0 ∨ p = 1 ∨ p = 2 ∨ p = 3 := by omega
  rcases hq with rfl | rfl | rfl | rfl <;> simp [qlE, rk_dn] <;> omega
section MDe
variable {v : ZS} {post : Int64 → ZS → Prop}
theorem s_rows0 {a b c d : Int32} (h0 : a < 0 ∨ b < 0 ∨ c < 0 ∨ d < 0) (h : post 0 v) : w_m_rows a b c d v post := by
  unfold w_m_rows
  refine ⟨fun _ => h, fun h1 => ⟨fun _ => h, fun h2 => ⟨fun _ => h, fun h3 => ⟨fun h4 => ?_, fun _ => h⟩⟩⟩⟩
  exfalso
  rcases h0 with h0 | h0 | h0 | h0
  · exact h1 h0
  · exact h2 h0
  · exact h3 h0
  · rw [Int32.lt_iff_toInt_lt] at h0
    rw [Int32.le_iff_toInt_le] at h4
    omega
theorem s_rows (hW : qmW v) {a b c d : Nat} (ha : a < 6) (hb : b < 6) (hc : c < 6) (hd : d < 6) (h : post (j6 (rk_M a b c d)) v) : w_m_rows (i3 a) (i3 b) (i3 c) (i3 d) v post := by
  have e : ∀ n k, n < 21 → k < n + 1 → vp_in (i3 (21 * n + k)) 441 ∧ aJ v 0 (Int32.toNatClampNeg (i3 (21 * n + k))) = j6 (rk_c n k) := by
    intro n k hn hk
    rw [i3_in (by omega), i3_nat (by omega)]
    exact ⟨by omega, hW n hn k hk⟩
  have e1 := e (a + b + c + d) a (by omega) (by omega)
  have e2 := e (b + c + d) b (by omega) (by omega)
  have e3 := e (c + d) c (by omega) (by omega)
  unfold w_m_rows
  rw [i3_n0 (by omega), i3_n0 (by omega), i3_n0 (by omega), i3_0, i3_le (by omega) (by omega), i3_21]
  simp only [i3_add, i3_mul]
  rw [e1.2, e2.2, e3.2, j6_mul, j6_mul]
  exact ⟨fun hx => hx.elim, fun _ => ⟨fun hx => hx.elim, fun _ => ⟨fun hx => hx.elim, fun _ => ⟨fun _ => ⟨e1.1, e2.1, e3.1, h⟩, fun hx => absurd (Nat.zero_le _) hx⟩⟩⟩⟩
theorem qlE_at {lf : Nat → Nat} (h6 : ∀ p, p < 4 → lf p < 6) : qlE lf % 32 = lf 0 ∧ qlE lf / 2 ^ 5 % 32 = lf 1 ∧ qlE lf / 2 ^ 10 % 32 = lf 2 ∧ qlE lf / 2 ^ 15 % 32 = lf 3 ∧ qlE lf < 1000000 := by
  have h0 := h6 0 (by omega)
  have h1 := h6 1 (by omega)
  have h2 := h6 2 (by omega)
  have h3 := h6 3 (by omega)
  unfold qlE
  omega
theorem s_rowsWith (hW : qmW v) {lf : Nat → Nat} (h6 : ∀ p, p < 4 → lf p < 6) {p : Nat} (hp : p < 4) (h : post (j6 (rk_w lf p)) v) : w_m_rowsWith (i3 (qlE lf)) (i3 p) v post := by
  obtain ⟨t0, t1, t2, t3, tE⟩ := qlE_at h6
  have h0 := h6 0 (by omega)
  have h1 := h6 1 (by omega)
  have h2 := h6 2 (by omega)
  have h3 := h6 3 (by omega)
  have q0 : i3 (qlE lf) &&& 31 = i3 (lf 0) := by rw [i3_31, i3_a31, t0]
  have q1 : i3 (qlE lf) >>> (5 &&& 31) &&& 31 = i3 (lf 1) := by
    have e : (5 &&& 31 : Int32) = i3 5 := by decide
    rw [e, i3_shr (by omega) (by omega), i3_31, i3_a31, t1]
  have q2 : i3 (qlE lf) >>> (10 &&& 31) &&& 31 = i3 (lf 2) := by
    have e : (10 &&& 31 : Int32) = i3 10 := by decide
    rw [e, i3_shr (by omega) (by omega), i3_31, i3_a31, t2]
  have q3 : i3 (qlE lf) >>> (15 &&& 31) &&& 31 = i3 (lf 3) := by
    have e : (15 &&& 31 : Int32) = i3 15 := by decide
    rw [e, i3_shr (by omega) (by omega), i3_31, i3_a31, t3]
  have z : ∀ x : Int32, x - 0 = x := fun x => by rw [Int32.sub_zero]
  have m0 : ∀ n : Nat, n = 0 → i3 n - 1 < 0 := fun n hn => by subst hn; decide
  have m1 : ∀ n : Nat, ¬ n = 0 → i3 n - 1 = i3 (n - 1) := fun n hn => by rw [i3_1, i3_sub (by omega)]
  have d01 : ¬ (i3 0 = (1 : Int32)) := by decide
  have d02 : ¬ (i3 0 = (2 : Int32)) := by decide
  have d03 : ¬ (i3 0 = (3 : Int32)) := by decide
  unfold rk_w rk_v at h
  have hq : p = 0 ∨ p = 1 ∨ p = 2 ∨ p = 3 := by omega
  unfold w_m_rowsWith b_m_rowsWith_13 b_m_rowsWith_31 b_m_rowsWith_51 b_m_rowsWith_71
  rw [q0, q1, q2, q3]
  simp only [z]
  rcases hq with rfl | rfl | rfl | rfl
  · rw [if_pos rfl] at h
    refine ⟨fun hx => absurd rfl hx, fun _ => ⟨fun _ => ⟨fun _ => ⟨fun _ => ?_, fun hx => absurd hx (by decide)⟩, fun hx => absurd hx (by decide)⟩, fun hx => absurd hx (by decide)⟩⟩
    by_cases ha : lf 0 = 0
    · rw [if_pos ha] at h; exact s_rows0 (Or.inl (m0 _ ha)) h
    · rw [if_neg ha] at h; rw [m1 _ ha]; exact s_rows hW (by omega) h1 h2 h3 h
  · rw [if_neg (by omega), if_pos rfl] at h
    refine ⟨fun _ => ⟨fun hx => absurd rfl hx, fun _ => ⟨fun _ => ⟨fun _ => ?_, fun hx => absurd hx (by decide)⟩, fun hx => absurd hx (by decide)⟩⟩, fun hx => absurd hx (by decide)⟩
    by_cases ha : lf 1 = 0
    · rw [if_pos ha] at h; exact s_rows0 (Or.inr (Or.inl (m0 _ ha))) h
    · rw [if_neg ha] at h; rw [m1 _ ha]; exact s_rows hW h0 (by omega) h2 h3 h
  · rw [if_neg (by omega), if_neg (by omega), if_pos rfl] at h
    refine ⟨fun _ => ⟨fun _ => ⟨fun hx => absurd rfl hx, fun _ => ⟨fun _ => ?_, fun hx => absurd hx (by decide)⟩⟩, fun hx => absurd hx (by decide)⟩, fun hx => absurd hx (by decide)⟩
    by_cases ha : lf 2 = 0
    · rw [if_pos ha] at h; exact s_rows0 (Or.inr (Or.inr (Or.inl (m0 _ ha)))) h
    · rw [if_neg ha] at h; rw [m1 _ ha]; exact s_rows hW h0 h1 (by omega) h3 h
  · rw [if_neg (by omega), if_neg (by omega), if_neg (by omega)] at h
    refine ⟨fun _ => ⟨fun _ => ⟨fun _ => ⟨fun hx => absurd rfl hx, fun _ => ?_⟩, fun hx => absurd hx (by decide)⟩, fun hx => absurd hx (by decide)⟩, fun hx => absurd hx (by decide)⟩
    by_cases ha : lf 3 = 0
    · rw [if_pos ha] at h; exact s_rows0 (Or.inr (Or.inr (Or.inr (m0 _ ha)))) h
    · rw [if_neg ha] at h; rw [m1 _ ha]; exact s_rows hW h0 h1 h2 (by omega) h
theorem qlE_up {ow : Nat → Nat} (hD : pl_D ow) {c : Nat} (hc : c < 20) : i3 (qlE (rk_lf ow c)) - (1 <<< ((5 * i3 (ow c)) &&& 31)) = i3 (qlE (rk_lf ow (c + 1))) := by
  have h4 := hD.1 c hc
  have e : (5 * i3 (ow c)) &&& 31 = i3 (5 * ow c) := by
    rw [i3_5, i3_mul, i3_31, i3_a31, Nat.mod_eq_of_lt (by omega)]
  obtain ⟨e1, e2⟩ := qlE_dn h4 (rk_pos hD hc)
  rw [e, i3_1, i3_shl5 h4, i3_sub e2, e1]
  rfl
theorem qlE_0 (ow : Nat → Nat) : i3 (qlE (rk_lf ow 0)) = (169125 : Int32) := by
  have e : qlE (rk_lf ow 0) = 169125 := by
    show 5 + 32 * 5 + 1024 * 5 + 32768 * 5 = 169125
    decide
  rw [e]
  rfl
theorem rk_n_0 (ow : Nat → Nat) : rk_n ow 0 = 0 := rfl
theorem s_un_i {post : ZS → Prop} (hW : qmW v) {num : Nat} (hn : num < 11732745024) {r9 : Int32 → Int64 → Int32 → ZS → Prop} {c : Nat} (hc : c < 20)
    (h : r9 (i3 (qlE (rk_lf (rk_ow num) (c + 1)))) (j6 (num - rk_n (rk_ow num) (c + 1))) (i3 (c + 1)) (pI v 0 c (i3 (rk_ow num c)))) :
    ∀ f p : Nat, f + p = rk_ow num c → b_m_unrank_19 r9 post (f + 1) (i3 (qlE (rk_lf (rk_ow num) c))) (j6 (num - rk_n (rk_ow num) c - rk_b (rk_lf (rk_ow num) c) p)) (i3 c) (i3 p) v := by
  have hD := rk_deal (rk_ow_is hn)
  have h4 := hD.1 c hc
  obtain ⟨-, -, q1, q2⟩ := rk_ow_is hn c hc
  intro f
  induction f with
  | zero =>
    intro p hp
    have e : p = rk_ow num c := by omega
    subst e
    have hw := rk_wle hD hc h4
    have eb : rk_b (rk_lf (rk_ow num) c) (rk_ow num c + 1) = rk_b (rk_lf (rk_ow num) c) (rk_ow num c) + rk_w (rk_lf (rk_ow num) c) (rk_ow num c) := rfl
    have en : num - rk_n (rk_ow num) (c + 1) = num - rk_n (rk_ow num) c - rk_b (rk_lf (rk_ow num) c) (rk_ow num c) := by
      show num - (rk_n (rk_ow num) c + rk_b (rk_lf (rk_ow num) c) (rk_ow num c)) = _
      omega
    unfold b_m_unrank_19
    refine s_rowsWith (lf := rk_lf (rk_ow num) c) hW (fun p _ => rk_lf_le _ c p) h4 ⟨fun _ => ⟨(i3_in (by omega)).mpr hc, ?_⟩, fun hy => ?_⟩
    · rw [qlE_up hD hc, i3_1, i3_add, i3_nat (by omega), ← en]; exact h
    · exfalso
      rw [lg_cmp_lt, j6_lt (by omega) (by omega)] at hy
      omega
  | succ f ih =>
    intro p hp
    have hp4 : p < 4 := by omega
    have hw := rk_wle hD hc hp4
    have hbp : rk_b (rk_lf (rk_ow num) c) (p + 1) ≤ rk_b (rk_lf (rk_ow num) c) (rk_ow num c) := by
      have mono : ∀ a, rk_b (rk_lf (rk_ow num) c) (p + 1) ≤ rk_b (rk_lf (rk_ow num) c) (p + 1 + a) := by
        intro a
        induction a with
        | zero => exact Nat.le_refl _
        | succ a ia => exact Nat.le_trans ia (Nat.le_add_right _ _)
      have := mono f
      have e : p + 1 + f = rk_ow num c := by omega
      rw [e] at this; exact this
    have eb : rk_b (rk_lf (rk_ow num) c) (p + 1) = rk_b (rk_lf (rk_ow num) c) p + rk_w (rk_lf (rk_ow num) c) p := rfl
    unfold b_m_unrank_19
    refine s_rowsWith (lf := rk_lf (rk_ow num) c) hW (fun p _ => rk_lf_le _ c p) hp4 ⟨fun hx => ?_, fun _ => s_rowsWith (lf := rk_lf (rk_ow num) c) hW (fun p _ => rk_lf_le _ c p) hp4 ?_⟩
    · rw [lg_cmp_lt, j6_lt (by omega) (by omega)] at hx; omega
    · rw [i3_1, i3_add, j6_sub (by omega)]
      have := ih (p + 1) (by omega)
      rw [eb] at this
      have e : num - rk_n (rk_ow num) c - rk_b (rk_lf (rk_ow num) c) p - rk_w (rk_lf (rk_ow num) c) p = num - rk_n (rk_ow num) c - (rk_b (rk_lf (rk_ow num) c) p + rk_w (rk_lf (rk_ow num) c) p) := by omega
      rw [e]
      exact this
theorem s_unrank {post : ZS → Prop} (hW : qmW v) {num : Nat} (hn : num < 11732745024) (h : ∀ v', fx [] [] [0] [] v v' → (∀ c, c < 20 → aI v' 0 c = i3 (rk_ow num c)) → post v') : w_m_unrank (j6 num) v post := by
  have hD := rk_deal (rk_ow_is hn)
  have st : ∀ (f c : Nat) (v' : ZS), f + c = 20 → fx [] [] [0] [] v v' → (∀ k, k < c → aI v' 0 k = i3 (rk_ow num k)) → b_m_unrank_9 post (f + 1) (i3 (qlE (rk_lf (rk_ow num) c))) (j6 (num - rk_n (rk_ow num) c)) (i3 c) v' := by
    intro f
    induction f with
    | zero =>
      intro c v' hfc hx ho
      have e : c = 20 := by omega
      subst e
      unfold b_m_unrank_9
      exact ⟨fun _ => h v' hx ho, fun hy => absurd (by decide) hy⟩
    | succ f ih =>
      intro c v' hfc hx ho
      have hc : c < 20 := by omega
      unfold b_m_unrank_9
      refine ⟨fun hy => ?_, fun _ => ⟨rk_ow num c + 1, ?_⟩⟩
      · rw [i3_20, i3_le (by omega) (by omega)] at hy; omega
      refine s_un_i (qmW_fx hx (by decide) hW) hn hc (ih (c + 1) _ (by omega) (fx_pI hx (by decide)) ?_) (rk_ow num c) 0 (by omega)
      intro k hk
      rw [a1]
      by_cases hkc : k = c
      · subst hkc; rw [up1]
      · rw [up2 hkc]; exact ho k (by omega)
  have h0 := st 20 0 v (by omega) fx_rf (fun k hk => by omega)
  rw [qlE_0, rk_n_0, Nat.sub_zero] at h0
  exact ⟨21, h0⟩
theorem s_mrank (hW : qmW v) {ow : Nat → Nat} (hD : pl_D ow) (ho : ∀ c, c < 20 → aI v 0 c = i3 (ow c)) (h : post (j6 (rk_n ow 20)) v) : w_m_rank v post := by
  have inn : ∀ (r8 : Int32 → Int64 → Int32 → ZS → Prop) (c : Nat), c < 20 → r8 (i3 (qlE (rk_lf ow (c + 1)))) (j6 (rk_n ow (c + 1))) (i3 (c + 1)) v → ∀ f p : Nat, f + p = ow c → b_m_rank_18 r8 post (f + 1) (i3 (qlE (rk_lf ow c))) (j6 (rk_n ow c + rk_b (rk_lf ow c) p)) (i3 c) (i3 p) v := by
    intro r8 c hc hr f
    have h4 := hD.1 c hc
    induction f with
    | zero =>
      intro p hp
      have e : p = ow c := by omega
      subst e
      unfold b_m_rank_18
      rw [i3_in (by omega), i3_nat (by omega), ho c hc, i3_le (by omega) (by omega), qlE_up hD hc, i3_1, i3_add]
      exact ⟨hc, fun _ => ⟨hc, hr⟩, fun hx => absurd (Nat.le_refl _) hx⟩
    | succ f ih =>
      intro p hp
      unfold b_m_rank_18
      rw [i3_in (by omega), i3_nat (by omega), ho c hc, i3_le (by omega) (by omega)]
      refine ⟨hc, fun hx => by omega, fun _ => s_rowsWith (lf := rk_lf ow c) hW (fun p _ => rk_lf_le _ c p) (by omega) ?_⟩
      rw [j6_add, i3_1, i3_add, Nat.add_assoc]
      exact ih (p + 1) (by omega)
  have st : ∀ (f c : Nat), f + c = 20 → b_m_rank_8 post (f + 1) (i3 (qlE (rk_lf ow c))) (j6 (rk_n ow c)) (i3 c) v := by
    intro f
    induction f with
    | zero =>
      intro c hfc
      have e : c = 20 := by omega
      subst e
      unfold b_m_rank_8
      exact ⟨fun _ => h, fun hy => absurd (by decide) hy⟩
    | succ f ih =>
      intro c hfc
      have hc : c < 20 := by omega
      unfold b_m_rank_8
      refine ⟨fun hy => ?_, fun _ => ⟨ow c + 1, ?_⟩⟩
      · rw [i3_20, i3_le (by omega) (by omega)] at hy; omega
      exact inn _ c hc (ih (c + 1) (by omega)) (ow c) 0 (by omega)
  have h0 := st 20 0 (by omega)
  rw [qlE_0, rk_n_0] at h0
  exact ⟨21, h0⟩
/-- a new board on the model's side -/
def qmB (v v' : ZS) (ow : Nat → Nat) (who sides : Int32) : Prop := fx [1, 2, 3, 4, 5] [0] [0, 6] [] v v' ∧ fI v' 1 = i3 1 ∧ fJ v' 0 = j6 (rk_n ow 20) ∧ fI v' 2 = who ∧ fI v' 3 = sides ∧ fI v' 4 = i3 0 ∧ fI v' 5 = i3 0 ∧ ∀ c, c < 20 → aI v' 0 c = i3 (ow c)
theorem s_mbegin {post : ZS → Prop} {v0 : ZS} (hW : qmW v) {ow : Nat → Nat} (hD : pl_D ow) (hx : fx [] [] [0, 6] [] v0 v) (ho : ∀ c, c < 20 → aI v 0 c = i3 (ow c)) {who sides : Int32} (h : ∀ v', qmB v0 v' ow who sides → post v') : w_m_begin who sides v post := by
  unfold w_m_begin
  refine s_mrank (v := sI v 1 1) hW hD ho (h _ ⟨?_, ?_, ?_, ?_, ?_, ?_, ?_, ?_⟩)
  · refine fx_sI (fx_sI (fx_sI (fx_sI (fx_sJ (fx_sI (fx_mo hx (by decide) (by decide) (by decide) (by decide)) (by decide)) (by decide)) (by decide)) (by decide)) (by decide)) (by decide)
  · rw [f2 (by decide), f2 (by decide), f2 (by decide), f2 (by decide), f3, f1]; rfl
  · rw [g3, g3, g3, g3, g1]
  · rw [f2 (by decide), f2 (by decide), f2 (by decide), f1]
  · rw [f2 (by decide), f2 (by decide), f1]
  · rw [f2 (by decide), f1]; rfl
  · rw [f1]; rfl
  · exact ho
theorem s_mrow_l {who sides : Int32} {rr : Nat → Nat} {v0 : ZS} (hrr : ∀ (v' : ZS), fx [] [] [0, 6] [] v0 v' → (∀ i, i < 20 → aI v' 6 i = i3 (rr i)) → ∃ n0, b_m_shuffle_131 post n0 who sides 0 v') :
    ∀ (k : Nat) (hh : Int64) (r : Nat → Nat) (v' : ZS), k < 20 → fx [] [] [0, 6] [] v0 v' → (∀ i, i < 20 → aI v' 6 i = i3 (r i)) → sh_it k hh r = rr → b_m_shuffle_59 post (k + 1) who sides hh (i3 k) v' := by
  intro k
  induction k with
  | zero =>
    intro hh r v' hk hx hr he
    unfold b_m_shuffle_59
    refine ⟨fun _ => hrr v' hx ?_, fun hy => absurd (by decide) hy⟩
    rw [← he]; exact hr
  | succ k ih =>
    intro hh r v' hk hx hr he
    have hj := sh_j_le (sh_h hh) (k + 1)
    have ej : Int64.toInt32 (((Int64.toUInt64 ((hh * 6364136223846793005) + 1442695040888963407) >>> (Int64.toUInt64 (Int32.toInt64 33) &&& Int64.toUInt64 63)).toInt64) - ((Int64.toUInt64 ((hh * 6364136223846793005) + 1442695040888963407) >>> (Int64.toUInt64 (Int32.toInt64 33) &&& Int64.toUInt64 63)).toInt64) / (Int32.toInt64 (i3 (k + 1) + 1)) * (Int32.toInt64 (i3 (k + 1) + 1))) = i3 (sh_j (sh_h hh) (k + 1)) := sh_j_eq (h := sh_h hh) hk
    unfold b_m_shuffle_59
    rw [ej]
    refine ⟨fun hy => ?_, fun _ => ⟨?_, (i3_in (by omega)).mpr (by omega), (i3_in (by omega)).mpr (by omega), (i3_in (by omega)).mpr (by omega), (i3_in (by omega)).mpr (by omega), ?_⟩⟩
    · rw [i3_0, i3_le (by omega) (by omega)] at hy; omega
    · rw [i3_1, i3_add, j6_of (by omega), j6_0, j6_eq (by omega) (by omega)]; omega
    · rw [i3_nat (by omega), i3_nat (by omega), hr _ hk, hr _ (by omega)]
      have e1 : i3 (k + 1) + (-1) = i3 k := i3_dec (by omega)
      rw [e1]
      refine ih (sh_h hh) _ _ (by omega) (fx_pI (fx_pI hx (by decide)) (by decide)) (fun i hi => ?_) he
      rw [a1, a1]
      unfold pl_sw
      by_cases h1 : i = sh_j (sh_h hh) (k + 1)
      · subst h1; rw [up1, if_pos rfl]
      · rw [up2 h1, if_neg h1]
        by_cases h2 : i = k + 1
        · subst h2; rw [up1, if_pos rfl]
        · rw [up2 h2, if_neg h2]; exact hr i hi
theorem s_mshuf (hW : qmW v) {seed : Int64} {who sides : Int32} (h : ∀ v', qmB v v' (sh_ow (sh_row seed)) who sides → post (j6 (rk_n (sh_ow (sh_row seed)) 20)) v') : ∃ n0, b_m_shuffle_30 post n0 seed who sides 0 v := by
  have hP := sh_row_P seed
  have own : ∀ v', fx [] [] [0, 6] [] v v' → (∀ i, i < 20 → aI v' 6 i = i3 (sh_row seed i)) → ∀ (f i : Nat) (v2 : ZS), f + i = 20 → fx [] [] [0] [] v' v2 → (∀ k, k < i → aI v2 0 (sh_row seed k) = i3 (k / 5)) → b_m_shuffle_131 post (f + 1) who sides (i3 i) v2 := by
    intro v' hx' hr f
    induction f with
    | zero =>
      intro i v2 hfi hx ho
      have e : i = 20 := by omega
      subst e
      have ho' : ∀ c, c < 20 → aI v2 0 c = i3 (sh_ow (sh_row seed) c) := by
        intro c hc
        obtain ⟨i, hi, he⟩ := hP.2.2 c hc
        rw [← he, ho i hi, sh_ow_at hP hi]
      have hx2 : fx [] [] [0, 6] [] v v2 := fx_tr hx' (fx_mo hx (by decide) (by decide) (by decide) (by decide))
      unfold b_m_shuffle_131
      refine ⟨fun _ => s_mbegin (v0 := v) (qmW_fx hx2 (by decide) hW) (sh_D hP) hx2 ho' (fun v3 hB => ?_), fun hy => absurd (by decide) hy⟩
      rw [hB.2.2.1]
      exact h v3 hB
    | succ f ih =>
      intro i v2 hfi hx ho
      have hi : i < 20 := by omega
      have hri := hP.1 i hi
      unfold b_m_shuffle_131
      simp (disch := omega) only [i3_0, i3_1, i3_2, i3_3, i3_4, i3_5, i3_6, i3_10, i3_12, i3_15, i3_17, i3_19, i3_20, i3_21, i3_31, i3_139, i3_add, i3_mul, i3_sub, i3_dec, i3_div, i3_eq, i3_lt, i3_le, i3_nat, i3_in, i3_m1, i3_n0, i3_a1, i3_a3, i3_a31, nrem, hx.2.2.1 6 (by decide), hr i hi]
      refine ⟨fun hy => by omega, fun _ => ⟨by omega, hri, ih (i + 1) _ (by omega) (fx_pI hx (by decide)) (fun k hk => ?_)⟩⟩
      rw [a1]
      by_cases hki : k = i
      · subst hki; rw [up1]
      · rw [up2 (fun e => hki (hP.2.1 k i (by omega) hi e))]; exact ho k (by omega)
  have st : ∀ (f i : Nat) (v' : ZS), f + i = 20 → fx [] [] [0, 6] [] v v' → (∀ k, k < i → aI v' 6 k = i3 k) → b_m_shuffle_30 post (f + 1) seed who sides (i3 i) v' := by
    intro f
    induction f with
    | zero =>
      intro i v' hfi hx hr
      have e : i = 20 := by omega
      subst e
      unfold b_m_shuffle_30
      refine ⟨fun _ => ⟨20, ?_⟩, fun hy => absurd (by decide) hy⟩
      exact s_mrow_l (v0 := v) (fun v2 hx2 hr2 => ⟨21, own v2 hx2 hr2 20 0 v2 (by omega) fx_rf (fun k hk => by omega)⟩) 19 seed (fun i => i) v' (by omega) hx hr (sh_row_d seed)
    | succ f ih =>
      intro i v' hfi hx hr
      unfold b_m_shuffle_30
      simp (disch := omega) only [i3_0, i3_1, i3_2, i3_3, i3_4, i3_5, i3_6, i3_10, i3_12, i3_15, i3_17, i3_19, i3_20, i3_21, i3_31, i3_139, i3_add, i3_mul, i3_sub, i3_dec, i3_div, i3_eq, i3_lt, i3_le, i3_nat, i3_in, i3_m1, i3_n0, i3_a1, i3_a3, i3_a31, nrem]
      refine ⟨fun hy => by omega, fun _ => ⟨by omega, ih (i + 1) _ (by omega) (fx_pI hx (by decide)) (fun k hk => ?_)⟩⟩
      rw [a1]
      by_cases hki : k = i
      · subst hki; rw [up1]
      · rw [up2 hki]; exact hr k (by omega)
  exact ⟨21, st 20 0 v (by omega) fx_rf (fun k hk => by omega)⟩
/-- the model's start: the table of ways is filled -/
theorem s_minit {post : ZS → Prop} (h : ∀ v', fx [] [] [] [0] v v' → qmW v' → post v') : w_m_init v post := by
  have inn : ∀ (r112 : Int32 → ZS → Prop) (n : Nat), n < 21 → ∀ (f k : Nat) (v' : ZS), f + k = n + 1 → fx [] [] [] [0] v v' → (∀ n', n' < n → ∀ k', k' < n' + 1 → aJ v' 0 (21 * n' + k') = j6 (rk_c n' k')) → (∀ k', k' < k → aJ v' 0 (21 * n + k') = j6 (rk_c n k')) → (∀ v2, fx [] [] [] [0] v v2 → (∀ n', n' < n + 1 → ∀ k', k' < n' + 1 → aJ v2 0 (21 * n' + k') = j6 (rk_c n' k')) → r112 (i3 (n + 1)) v2) → b_m_init_120 r112 post (f + 1) (i3 n) (i3 k) v' := by
    intro r112 n hn f
    induction f with
    | zero =>
      intro k v' hfk hx hold hnew hr
      unfold b_m_init_120
      rw [i3_lt (by omega) (by omega), i3_1, i3_add]
      refine ⟨fun _ => hr v' hx (fun n' hn' k' hk' => ?_), fun hy => by omega⟩
      by_cases he : n' = n
      · subst he; exact hnew k' (by omega)
      · exact hold n' (by omega) k' hk'
    | succ f ih =>
      intro k v' hfk hx hold hnew hr
      have hp := rk_pas hn (show k < n + 1 by omega)
      have go : ∀ w : Int64, w = j6 (rk_c n k) → b_m_init_177 r112 (b_m_init_120 r112 post (f + 1)) post (i3 n) (i3 k) w (i3 (21 * n + k)) v' := by
        intro w hw
        unfold b_m_init_177
        rw [i3_in (by omega), i3_nat (by omega), i3_1, i3_add, hw]
        refine ⟨by omega, ih (k + 1) _ (by omega) (fx_pJ hx (by decide)) (fun n' hn' k' hk' => ?_) (fun k' hk' => ?_) hr⟩
        · rw [zh1, ul2 (by omega)]; exact hold n' hn' k' hk'
        · rw [zh1]
          by_cases he : k' = k
          · subst he; rw [ul1]
          · rw [ul2 (by omega)]; exact hnew k' (by omega)
      unfold b_m_init_120
      rw [i3_lt (by omega) (by omega), i3_0, i3_eq (by omega) (by omega), i3_eq (by omega) (by omega)]
      have e1 : 21 * i3 n + i3 k = i3 (21 * n + k) := by rw [i3_21, i3_mul, i3_add]
      refine ⟨fun hy => by omega, fun _ => ⟨fun h0 => ?_, fun h0 => ⟨fun h1 => ?_, fun h1 => ?_⟩⟩⟩
      · unfold b_m_init_144; rw [e1]
        exact go 1 (by rw [hp, if_pos (Or.inl h0)]; rfl)
      · rw [if_neg (by omega)] at hp
        have e2 : 21 * (i3 n - 1) + i3 k = i3 (21 * (n - 1) + k) := by rw [i3_1, i3_sub (by omega), i3_21, i3_mul, i3_add]
        have e3 : i3 (21 * (n - 1) + k) - 1 = i3 (21 * (n - 1) + (k - 1)) := by rw [i3_1, i3_sub (by omega)]; congr 1; omega
        rw [e1, e2, e3, i3_in (by omega), i3_in (by omega), i3_nat (by omega), i3_nat (by omega), hold (n - 1) (by omega) (k - 1) (by omega), hold (n - 1) (by omega) k (by omega), j6_add, ← hp]
        exact ⟨by omega, by omega, go _ rfl⟩
      · unfold b_m_init_144; rw [e1]
        exact go 1 (by rw [hp, if_pos (Or.inr h1)]; rfl)
  have st : ∀ (f n : Nat) (v' : ZS), f + n = 21 → fx [] [] [] [0] v v' → (∀ n', n' < n → ∀ k', k' < n' + 1 → aJ v' 0 (21 * n' + k') = j6 (rk_c n' k')) → b_m_init_112 post (f + 1) (i3 n) v' := by
    intro f
    induction f with
    | zero =>
      intro n v' hfn hx hold
      have e : n = 21 := by omega
      subst e
      unfold b_m_init_112
      exact ⟨fun _ => h v' hx hold, fun hy => absurd (by decide) hy⟩
    | succ f ih =>
      intro n v' hfn hx hold
      unfold b_m_init_112
      rw [i3_20, i3_lt (by omega) (by omega)]
      refine ⟨fun hy => by omega, fun _ => ⟨n + 2, ?_⟩⟩
      exact inn _ n (by omega) (n + 1) 0 v' (by omega) hx hold (fun k' hk' => by omega) (fun v2 hx2 h2 => ih (n + 1) v2 (by omega) hx2 h2)
  exact ⟨22, st 21 0 v (by omega) fx_rf (fun n' hn' => by omega)⟩
end MDe
