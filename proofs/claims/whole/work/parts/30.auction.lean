/-! calls of a board as numbers: cs k is the k-th call (0 pass, 1 double, 2 redouble, 3.. bids), n of them -/
/-- the last place below n whose call is at least g -/
def au_lt (cs : Nat → Nat) (g : Nat) : Nat → Option Nat
  | 0 => none
  | n + 1 => if g ≤ cs n then some n else au_lt cs g n
theorem au_lt_some {cs : Nat → Nat} {g : Nat} : ∀ {n k : Nat}, au_lt cs g n = some k → k < n ∧ g ≤ cs k ∧ ∀ j, k < j → j < n → cs j < g
  | 0, k, h => by simp [au_lt] at h
  | n + 1, k, h => by
    unfold au_lt at h
    by_cases hg : g ≤ cs n
    · rw [if_pos hg] at h
      cases h
      exact ⟨Nat.lt_succ_self _, hg, fun j h1 h2 => by omega⟩
    · rw [if_neg hg] at h
      obtain ⟨h1, h2, h3⟩ := au_lt_some h
      refine ⟨by omega, h2, fun j h4 h5 => ?_⟩
      by_cases hj : j = n
      · subst hj; omega
      · exact h3 j h4 (by omega)
theorem au_lt_none {cs : Nat → Nat} {g : Nat} : ∀ {n : Nat}, au_lt cs g n = none → ∀ j, j < n → cs j < g
  | 0, _, j, hj => by omega
  | n + 1, h, j, hj => by
    unfold au_lt at h
    by_cases hg : g ≤ cs n
    · rw [if_pos hg] at h; cases h
    · rw [if_neg hg] at h
      by_cases hjn : j = n
      · subst hjn; omega
      · exact au_lt_none h j (by omega)
theorem au_lt_of {cs : Nat → Nat} {g : Nat} : ∀ {n k : Nat}, k < n → g ≤ cs k → (∀ j, k < j → j < n → cs j < g) → au_lt cs g n = some k
  | 0, k, h, _, _ => by omega
  | n + 1, k, h, hg, ha => by
    unfold au_lt
    by_cases hk : k = n
    · subst hk; rw [if_pos hg]
    · have h1 := ha n (by omega) (by omega)
      rw [if_neg (by omega)]
      exact au_lt_of (by omega) hg (fun j h2 h3 => ha j h2 (by omega))
theorem au_lt_no {cs : Nat → Nat} {g : Nat} : ∀ {n : Nat}, (∀ j, j < n → cs j < g) → au_lt cs g n = none
  | 0, _ => rfl
  | n + 1, ha => by
    unfold au_lt
    have h1 := ha n (by omega)
    rw [if_neg (by omega)]
    exact au_lt_no (fun j h3 => ha j (by omega))
theorem au_lt_congr {cs ds : Nat → Nat} {g : Nat} : ∀ {n : Nat}, (∀ j, j < n → cs j = ds j) → au_lt cs g n = au_lt ds g n
  | 0, _ => rfl
  | n + 1, ha => by
    unfold au_lt
    rw [ha n (by omega), au_lt_congr (fun j h => ha j (by omega))]
/-- the bid that stands (0: none) and whether it is doubled -/
def au_bid (cs : Nat → Nat) (n : Nat) : Nat := match au_lt cs 3 n with
  | none => 0
  | some k => cs k
def au_dbl (cs : Nat → Nat) (n : Nat) : Nat := match au_lt cs 1 n with
  | none => 0
  | some k => if 3 ≤ cs k then 0 else cs k
/-- the auction has ended -/
def au_end (cs : Nat → Nat) (n : Nat) : Prop := match au_lt cs 1 n with
  | none => 4 ≤ n
  | some k => k + 4 ≤ n
/-- the call c is allowed behind n calls -/
def au_ok (cs : Nat → Nat) (n c : Nat) : Prop :=
  c = 0 ∨ (c = 1 ∧ ∃ k, au_lt cs 1 n = some k ∧ 3 ≤ cs k ∧ (n - k) % 2 = 1) ∨ (c = 2 ∧ ∃ k, au_lt cs 1 n = some k ∧ cs k = 1 ∧ (n - k) % 2 = 1) ∨ (3 ≤ c ∧ au_bid cs n < c)
/-- every call was allowed when it was made -/
def au_V (cs : Nat → Nat) : Nat → Prop
  | 0 => True
  | n + 1 => au_V cs n ∧ ¬ au_end cs n ∧ cs n ≤ 17 ∧ au_ok cs n (cs n)
theorem au_bid_le {cs : Nat → Nat} {n : Nat} (h : ∀ j, j < n → cs j ≤ 17) : au_bid cs n ≤ 17 := by
  unfold au_bid
  cases hb : au_lt cs 3 n with
  | none => exact Nat.zero_le _
  | some k => exact h k (au_lt_some hb).1
theorem au_V_le {cs : Nat → Nat} : ∀ {n : Nat}, au_V cs n → ∀ j, j < n → cs j ≤ 17
  | 0, _, j, hj => by omega
  | n + 1, h, j, hj => by
    by_cases hjn : j = n
    · subst hjn; exact h.2.2.1
    · exact au_V_le h.1 j (by omega)
/-- how high the auction stands: 0, then 1 to 45 -/
def au_hi (cs : Nat → Nat) (n : Nat) : Nat := if au_bid cs n = 0 then 0 else 3 * (au_bid cs n - 3) + 1 + au_dbl cs n
theorem au_step {cs : Nat → Nat} : ∀ {n : Nat}, au_V cs n →
    (au_lt cs 1 n = none → n ≤ 4 ∧ au_bid cs n = 0) ∧ (∀ k, au_lt cs 1 n = some k → n ≤ k + 4 ∧ 3 ≤ au_bid cs n ∧ k ≤ 3 * au_hi cs n)
  | 0, _ => ⟨fun _ => ⟨by omega, rfl⟩, fun k h => by simp [au_lt] at h⟩
  | n + 1, h => by
    obtain ⟨hV, he, h17, hok⟩ := h
    obtain ⟨i1, i2⟩ := au_step hV
    have hle := au_bid_le (au_V_le hV)
    have hd2 : au_dbl cs n ≤ 2 := by
      unfold au_dbl
      cases hl : au_lt cs 1 n with
      | none => simp
      | some k => simp only; split <;> omega
    by_cases h0 : cs n = 0
    · -- a pass
      have e1 : au_lt cs 1 (n + 1) = au_lt cs 1 n := by rw [au_lt, if_neg (by omega)]
      have e3 : au_lt cs 3 (n + 1) = au_lt cs 3 n := by rw [au_lt, if_neg (by omega)]
      have eb : au_bid cs (n + 1) = au_bid cs n := by unfold au_bid; rw [e3]
      have ed : au_dbl cs (n + 1) = au_dbl cs n := by unfold au_dbl; rw [e1]
      have eh : au_hi cs (n + 1) = au_hi cs n := by unfold au_hi; rw [eb, ed]
      rw [e1, eb, eh]
      unfold au_end at he
      refine ⟨fun hn => ?_, fun k hk => ?_⟩
      · rw [hn] at he; exact ⟨by omega, (i1 hn).2⟩
      · rw [hk] at he; have h2 := i2 k hk; exact ⟨by omega, h2.2.1, h2.2.2⟩
    · have e1 : au_lt cs 1 (n + 1) = some n := by rw [au_lt, if_pos (by omega)]
      rw [e1]
      refine ⟨fun hn => (by cases hn), fun k hk => ?_⟩
      cases hk
      -- n is at most three behind the last call that was no pass
      have hn3 : n ≤ 3 * au_hi cs n + 3 := by
        cases hl : au_lt cs 1 n with
        | none => unfold au_end at he; rw [hl] at he; omega
        | some k => unfold au_end at he; rw [hl] at he; have h2 := i2 k hl; omega
      have ed : au_dbl cs (n + 1) = if 3 ≤ cs n then 0 else cs n := by unfold au_dbl; rw [e1]
      suffices hs : 3 ≤ au_bid cs (n + 1) ∧ au_hi cs n + 1 ≤ au_hi cs (n + 1) from ⟨by omega, hs.1, by omega⟩
      rcases hok with hc | ⟨hc, k, hk, hk3, -⟩ | ⟨hc, k, hk, hk1, -⟩ | ⟨hc, hb⟩
      · omega
      · have e3 : au_lt cs 3 (n + 1) = au_lt cs 3 n := by rw [au_lt, if_neg (by omega)]
        have eb : au_bid cs (n + 1) = au_bid cs n := by unfold au_bid; rw [e3]
        have hb3 := (i2 k hk).2.1
        have hd0 : au_dbl cs n = 0 := by unfold au_dbl; rw [hk]; simp [hk3]
        unfold au_hi
        rw [eb, ed, hd0, hc]
        refine ⟨hb3, ?_⟩
        rw [if_neg (by omega), if_neg (by omega), if_neg (by omega)]
        omega
      · have e3 : au_lt cs 3 (n + 1) = au_lt cs 3 n := by rw [au_lt, if_neg (by omega)]
        have eb : au_bid cs (n + 1) = au_bid cs n := by unfold au_bid; rw [e3]
        have hb3 := (i2 k hk).2.1
        have hd0 : au_dbl cs n = 1 := by unfold au_dbl; rw [hk]; simp [hk1]
        unfold au_hi
        rw [eb, ed, hd0, hc]
        refine ⟨hb3, ?_⟩
        rw [if_neg (by omega), if_neg (by omega), if_neg (by omega)]
        omega
      · have e3 : au_lt cs 3 (n + 1) = some n := by rw [au_lt, if_pos hc]
        have eb : au_bid cs (n + 1) = cs n := by unfold au_bid; rw [e3]
        unfold au_hi
        rw [eb, ed, if_pos hc, if_neg (by omega : ¬ cs n = 0)]
        refine ⟨hc, ?_⟩
        by_cases hb0 : au_bid cs n = 0
        · rw [if_pos hb0]; omega
        · rw [if_neg hb0]
          have h3 : 3 ≤ au_bid cs n := by
            cases hl : au_lt cs 1 n with
            | none => exact absurd (i1 hl).2 hb0
            | some k => exact (i2 k hl).2.1
          omega
theorem au_hi_le {cs : Nat → Nat} {n : Nat} (h : au_V cs n) : au_hi cs n ≤ 45 := by
  have hle := au_bid_le (au_V_le h)
  have hd2 : au_dbl cs n ≤ 2 := by
    unfold au_dbl
    cases hl : au_lt cs 1 n with
    | none => simp
    | some k => simp only; split <;> omega
  unfold au_hi
  split <;> omega
/-- no auction is longer than 139 calls; one that goes on has at most 138 -/
theorem au_len {cs : Nat → Nat} {n : Nat} (h : au_V cs n) : n ≤ 139 ∧ (¬ au_end cs n → n ≤ 138) := by
  have h45 := au_hi_le h
  obtain ⟨i1, i2⟩ := au_step h
  unfold au_end
  cases hl : au_lt cs 1 n with
  | none => have := (i1 hl).1; exact ⟨by omega, fun _ => by omega⟩
  | some k => have := i2 k hl; exact ⟨by omega, fun hn => by simp only at hn; omega⟩
/-- an auction with a bid has ended only behind three passes .. -/
theorem au_end_eq {cs : Nat → Nat} {n : Nat} (h : au_V cs n) : au_end cs n ↔ (match au_lt cs 1 n with | none => n = 4 | some k => n = k + 4) := by
  obtain ⟨i1, i2⟩ := au_step h
  unfold au_end
  cases hl : au_lt cs 1 n with
  | none => have := (i1 hl).1; simp only; omega
  | some k => have := i2 k hl; simp only; omega
