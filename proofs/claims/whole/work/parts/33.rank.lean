/-! deals and their numbers -/
def rk_f : Nat → Nat
  | 0 => 1
  | n + 1 => (n + 1) * rk_f n
def rk_c (n k : Nat) : Nat := rk_f n / (rk_f k * rk_f (n - k))
/-- in how many ways a, b, c, d cards go to four players -/
def rk_M (a b c d : Nat) : Nat := rk_c (a + b + c + d) a * rk_c (b + c + d) b * rk_c (c + d) c
theorem rk_allT {p : Nat → Bool} {n : Nat} (h : (List.range n).all p = true) {a : Nat} (ha : a < n) : p a = true := List.all_eq_true.mp h a (List.mem_range.mpr ha)
def rk_pas_b : Bool := (List.range 21).all fun n => (List.range (n + 1)).all fun k => decide (rk_c n k = if k = 0 ∨ k = n then 1 else rk_c (n - 1) (k - 1) + rk_c (n - 1) k)
theorem rk_pas_t : rk_pas_b = true := by decide +kernel
theorem rk_pas {n k : Nat} (hn : n < 21) (hk : k < n + 1) : rk_c n k = if k = 0 ∨ k = n then 1 else rk_c (n - 1) (k - 1) + rk_c (n - 1) k := of_decide_eq_true (rk_allT (rk_allT rk_pas_t hn) hk)
/-- .. if the next card goes to p -/
def rk_v (a b c d p : Nat) : Nat := if p = 0 then (if a = 0 then 0 else rk_M (a - 1) b c d) else if p = 1 then (if b = 0 then 0 else rk_M a (b - 1) c d) else if p = 2 then (if c = 0 then 0 else rk_M a b (c - 1) d) else (if d = 0 then 0 else rk_M a b c (d - 1))
def rk_all_p (a b c d : Nat) : Prop := (0 < a + b + c + d →
    rk_M a b c d = rk_v a b c d 0 + rk_v a b c d 1 + rk_v a b c d 2 + rk_v a b c d 3 ∧ rk_M a b c d * a / (a + b + c + d) = rk_v a b c d 0 ∧ rk_M a b c d * b / (a + b + c + d) = rk_v a b c d 1 ∧ rk_M a b c d * c / (a + b + c + d) = rk_v a b c d 2 ∧ rk_M a b c d * d / (a + b + c + d) = rk_v a b c d 3) ∧ rk_M a b c d ≤ 11732745024
def rk_all_d (a b c d : Nat) : Bool := (decide (a + b + c + d = 0) || (decide (rk_M a b c d = rk_v a b c d 0 + rk_v a b c d 1 + rk_v a b c d 2 + rk_v a b c d 3) && (decide (rk_M a b c d * a / (a + b + c + d) = rk_v a b c d 0) && (decide (rk_M a b c d * b / (a + b + c + d) = rk_v a b c d 1) && (decide (rk_M a b c d * c / (a + b + c + d) = rk_v a b c d 2) && decide (rk_M a b c d * d / (a + b + c + d) = rk_v a b c d 3)))))) && decide (rk_M a b c d ≤ 11732745024)
def rk_all_b : Bool := (List.range 6).all fun a => (List.range 6).all fun b => (List.range 6).all fun c => (List.range 6).all fun d => rk_all_d a b c d
theorem rk_all_t : rk_all_b = true := by decide +kernel
theorem rk_all0 {a b c d : Nat} (ha : a < 6) (hb : b < 6) (hc : c < 6) (hd : d < 6) : rk_all_p a b c d := by
  have h : rk_all_d a b c d = true := rk_allT (rk_allT (rk_allT (rk_allT rk_all_t ha) hb) hc) hd
  unfold rk_all_d at h
  simp only [Bool.and_eq_true, Bool.or_eq_true, decide_eq_true_eq] at h
  obtain ⟨h1, h2⟩ := h
  refine ⟨fun h0 => ?_, h2⟩
  rcases h1 with h1 | h1
  · omega
  · exact h1
theorem rk_all (a : Nat) (ha : a < 6) (b : Nat) (hb : b < 6) (c : Nat) (hc : c < 6) (d : Nat) (hd : d < 6) (h0 : 0 < a + b + c + d) :
    rk_M a b c d = rk_v a b c d 0 + rk_v a b c d 1 + rk_v a b c d 2 + rk_v a b c d 3 ∧ rk_M a b c d * a / (a + b + c + d) = rk_v a b c d 0 ∧ rk_M a b c d * b / (a + b + c + d) = rk_v a b c d 1 ∧ rk_M a b c d * c / (a + b + c + d) = rk_v a b c d 2 ∧ rk_M a b c d * d / (a + b + c + d) = rk_v a b c d 3 := (rk_all0 ha hb hc hd).1 h0
theorem rk_top : rk_M 5 5 5 5 = 11732745024 := by decide +kernel
theorem rk_low : rk_M 0 0 0 0 = 1 := by decide +kernel
theorem rk_le (a : Nat) (ha : a < 6) (b : Nat) (hb : b < 6) (c : Nat) (hc : c < 6) (d : Nat) (hd : d < 6) : rk_M a b c d ≤ 11732745024 := (rk_all0 ha hb hc hd).2
/-- open places, player by player -/
def rk_w (lf : Nat → Nat) (p : Nat) : Nat := rk_v (lf 0) (lf 1) (lf 2) (lf 3) p
def rk_T (lf : Nat → Nat) : Nat := rk_M (lf 0) (lf 1) (lf 2) (lf 3)
/-- how many deals of the cards come before those that give the next card to p -/
def rk_b (lf : Nat → Nat) : Nat → Nat
  | 0 => 0
  | p + 1 => rk_b lf p + rk_w lf p
def rk_dn (lf : Nat → Nat) (p : Nat) : Nat → Nat := fun q => if q = p then lf q - 1 else lf q
/-- the open places before the card c, for the owners ow -/
def rk_lf (ow : Nat → Nat) : Nat → Nat → Nat
  | 0 => fun _ => 5
  | c + 1 => rk_dn (rk_lf ow c) (ow c)
/-- the number of the deal, as far as the first c cards say it -/
def rk_n (ow : Nat → Nat) : Nat → Nat
  | 0 => 0
  | c + 1 => rk_n ow c + rk_b (rk_lf ow c) (ow c)
theorem rk_lf_cn (ow : Nat → Nat) (p : Nat) : ∀ c : Nat, rk_lf ow c p = 5 - pl_cn ow p c
  | 0 => rfl
  | c + 1 => by
    have ih := rk_lf_cn ow p c
    show rk_dn (rk_lf ow c) (ow c) p = 5 - (pl_cn ow p c + (if ow c = p then 1 else 0))
    unfold rk_dn
    by_cases h : p = ow c
    · rw [if_pos h, if_pos h.symm, ih]; omega
    · rw [if_neg h, if_neg (fun e => h e.symm), ih]; rfl
theorem rk_w_dn {lf : Nat → Nat} {p : Nat} (hp : p < 4) (h : 0 < lf p) : rk_w lf p = rk_T (rk_dn lf p) := by
  have hq : p = 0 ∨ p = 1 ∨ p = 2 ∨ p = 3 := by omega
  rcases hq with rfl | rfl | rfl | rfl <;> simp [rk_w, rk_v, rk_T, rk_dn, Nat.ne_of_gt h]
theorem rk_w_0 {lf : Nat → Nat} {p : Nat} (hp : p < 4) (h : lf p = 0) : rk_w lf p = 0 := by
  have hq : p = 0 ∨ p = 1 ∨ p = 2 ∨ p = 3 := by omega
  rcases hq with rfl | rfl | rfl | rfl <;> simp [rk_w, rk_v, h]
theorem rk_share {lf : Nat → Nat} (h5 : ∀ p, p < 4 → lf p < 6) (h0 : 0 < lf 0 + lf 1 + lf 2 + lf 3) {p : Nat} (hp : p < 4) : rk_T lf * lf p / (lf 0 + lf 1 + lf 2 + lf 3) = rk_w lf p := by
  obtain ⟨-, e0, e1, e2, e3⟩ := rk_all (lf 0) (h5 0 (by omega)) (lf 1) (h5 1 (by omega)) (lf 2) (h5 2 (by omega)) (lf 3) (h5 3 (by omega)) h0
  have hq : p = 0 ∨ p = 1 ∨ p = 2 ∨ p = 3 := by omega
  rcases hq with rfl | rfl | rfl | rfl
  · exact e0
  · exact e1
  · exact e2
  · exact e3
theorem rk_b4 {lf : Nat → Nat} (h5 : ∀ p, p < 4 → lf p < 6) (h0 : 0 < lf 0 + lf 1 + lf 2 + lf 3) : rk_b lf 4 = rk_T lf := by
  obtain ⟨e, -⟩ := rk_all (lf 0) (h5 0 (by omega)) (lf 1) (h5 1 (by omega)) (lf 2) (h5 2 (by omega)) (lf 3) (h5 3 (by omega)) h0
  show 0 + rk_w lf 0 + rk_w lf 1 + rk_w lf 2 + rk_w lf 3 = rk_T lf
  rw [Nat.zero_add]
  exact e.symm
theorem rk_T_le {lf : Nat → Nat} (h5 : ∀ p, p < 4 → lf p < 6) : rk_T lf ≤ 11732745024 := rk_le _ (h5 0 (by omega)) _ (h5 1 (by omega)) _ (h5 2 (by omega)) _ (h5 3 (by omega))
/-- the owners of the number: a card goes to the player in whose part the rest lies -/
def rk_is (ow : Nat → Nat) (num : Nat) : Prop := ∀ c, c < 20 → ow c < 4 ∧ 0 < rk_lf ow c (ow c) ∧ rk_n ow c + rk_b (rk_lf ow c) (ow c) ≤ num ∧ num < rk_n ow c + rk_b (rk_lf ow c) (ow c + 1)
theorem rk_lf_le (ow : Nat → Nat) (c p : Nat) : rk_lf ow c p < 6 := by rw [rk_lf_cn]; omega
/-- a deal's number finds the deal again: what rank gives of the owners of a number is that number -/
theorem rk_back {ow : Nat → Nat} {num : Nat} (h : rk_is ow num) : ∀ c, c ≤ 20 → 0 < c → rk_n ow c ≤ num ∧ num < rk_n ow c + rk_T (rk_lf ow c)
  | 0, _, h0 => by omega
  | c + 1, hc, _ => by
    obtain ⟨h1, h2, h3, h4⟩ := h c (by omega)
    refine ⟨h3, ?_⟩
    show num < rk_n ow c + rk_b (rk_lf ow c) (ow c) + rk_T (rk_dn (rk_lf ow c) (ow c))
    rw [← rk_w_dn h1 h2]
    have e : rk_b (rk_lf ow c) (ow c + 1) = rk_b (rk_lf ow c) (ow c) + rk_w (rk_lf ow c) (ow c) := rfl
    omega
theorem rk_cn_le {ow : Nat → Nat} {num : Nat} (h : rk_is ow num) : ∀ c, c ≤ 20 → ∀ p, p < 4 → pl_cn ow p c ≤ 5
  | 0, _, p, _ => by simp [pl_cn]
  | c + 1, hc, p, hp => by
    have ih := rk_cn_le h c (by omega) p hp
    obtain ⟨h1, h2, -⟩ := h c (by omega)
    rw [rk_lf_cn] at h2
    show pl_cn ow p c + (if ow c = p then 1 else 0) ≤ 5
    by_cases e : ow c = p
    · rw [if_pos e]; rw [e] at h2; omega
    · rw [if_neg e]; omega
theorem pl_cn_sum {ow : Nat → Nat} : ∀ c : Nat, (∀ k, k < c → ow k < 4) → pl_cn ow 0 c + pl_cn ow 1 c + pl_cn ow 2 c + pl_cn ow 3 c = c
  | 0, _ => rfl
  | c + 1, h => by
    have ih := pl_cn_sum c (fun k hk => h k (by omega))
    have h4 := h c (by omega)
    show pl_cn ow 0 c + (if ow c = 0 then 1 else 0) + (pl_cn ow 1 c + (if ow c = 1 then 1 else 0)) + (pl_cn ow 2 c + (if ow c = 2 then 1 else 0)) + (pl_cn ow 3 c + (if ow c = 3 then 1 else 0)) = c + 1
    have hq : ow c = 0 ∨ ow c = 1 ∨ ow c = 2 ∨ ow c = 3 := by omega
    rcases hq with e | e | e | e <;> rw [e] <;> simp <;> omega
theorem rk_deal {ow : Nat → Nat} {num : Nat} (h : rk_is ow num) : pl_D ow := by
  refine ⟨fun c hc => (h c hc).1, fun p hp => ?_⟩
  have hs := pl_cn_sum 20 (fun k hk => (h k hk).1)
  have h0 := rk_cn_le h 20 (by omega) 0 (by omega)
  have h1 := rk_cn_le h 20 (by omega) 1 (by omega)
  have h2 := rk_cn_le h 20 (by omega) 2 (by omega)
  have h3 := rk_cn_le h 20 (by omega) 3 (by omega)
  have hq : p = 0 ∨ p = 1 ∨ p = 2 ∨ p = 3 := by omega
  rcases hq with rfl | rfl | rfl | rfl <;> omega
theorem rk_num {ow : Nat → Nat} {num : Nat} (h : rk_is ow num) : rk_n ow 20 = num := by
  obtain ⟨h1, h2⟩ := rk_back h 20 (by omega) (by omega)
  have hD := rk_deal h
  have e : rk_T (rk_lf ow 20) = 1 := by
    unfold rk_T
    rw [rk_lf_cn, rk_lf_cn, rk_lf_cn, rk_lf_cn, hD.2 0 (by omega), hD.2 1 (by omega), hD.2 2 (by omega), hD.2 3 (by omega)]
    exact rk_low
  omega
