/-! every hand has five cards: somebody whose turn it is can play; how many tricks there can be -/
/-- how many cards below n the player p was dealt -/
def pl_cn (ow : Nat → Nat) (p : Nat) : Nat → Nat
  | 0 => 0
  | n + 1 => pl_cn ow p n + (if ow n = p then 1 else 0)
theorem pl_cn_s (ow : Nat → Nat) (p n : Nat) : pl_cn ow p (n + 1) = pl_cn ow p n + (if ow n = p then 1 else 0) := rfl
/-- a deal: five cards each -/
def pl_D (ow : Nat → Nat) : Prop := (∀ c, c < 20 → ow c < 4) ∧ ∀ p, p < 4 → pl_cn ow p 20 = 5
/-- they can be listed, from the highest down -/
theorem pl_cn_list (ow : Nat → Nat) (p : Nat) : ∀ n : Nat, ∃ h : Nat → Nat, (∀ i, i < pl_cn ow p n → h i < n ∧ ow (h i) = p) ∧ (∀ i j, i < j → j < pl_cn ow p n → h j < h i) ∧ (∀ c, c < n → ow c = p → ∃ i, i < pl_cn ow p n ∧ h i = c)
  | 0 => ⟨fun _ => 0, fun i hi => by simp [pl_cn] at hi, fun i j _ hj => by simp [pl_cn] at hj, fun c hc => by omega⟩
  | n + 1 => by
    obtain ⟨h, h1, h2, h3⟩ := pl_cn_list ow p n
    by_cases ho : ow n = p
    · have e : pl_cn ow p (n + 1) = pl_cn ow p n + 1 := by rw [pl_cn_s, if_pos ho]
      rw [e]
      refine ⟨fun i => if i = 0 then n else h (i - 1), fun i hi => ?_, fun i j hij hj => ?_, fun c hc hcp => ?_⟩
      · by_cases h0 : i = 0
        · simp only [h0, if_true]; exact ⟨by omega, ho⟩
        · simp only [h0, if_false]; have := h1 (i - 1) (by omega); exact ⟨by omega, this.2⟩
      · by_cases h0 : i = 0
        · have hj0 : ¬ j = 0 := by omega
          simp only [h0, hj0, if_true, if_false]; exact (h1 (j - 1) (by omega)).1
        · have hj0 : ¬ j = 0 := by omega
          simp only [h0, hj0, if_false]; exact h2 (i - 1) (j - 1) (by omega) (by omega)
      · by_cases hcn : c = n
        · exact ⟨0, by omega, by simp [hcn]⟩
        · obtain ⟨i, hi, he⟩ := h3 c (by omega) hcp
          exact ⟨i + 1, by omega, by simp [he]⟩
    · have e : pl_cn ow p (n + 1) = pl_cn ow p n := by rw [pl_cn_s, if_neg ho]; rfl
      rw [e]
      refine ⟨h, fun i hi => ⟨by have := (h1 i hi).1; omega, (h1 i hi).2⟩, h2, fun c hc hcp => ?_⟩
      by_cases hcn : c = n
      · subst hcn; exact absurd hcp ho
      · exact h3 c (by omega) hcp
theorem pl_pig : ∀ a, a < 4 → ∀ b, b < 4 → ∀ c, c < 4 → ∀ d, d < 4 → ∀ e, e < 4 → a = b ∨ a = c ∨ a = d ∨ a = e ∨ b = c ∨ b = d ∨ b = e ∨ c = d ∨ c = e ∨ d = e := by
  intro a ha b hb c hc d hd e he
  omega
section PlayBounds
variable {ow cd : Nat → Nat} {t l0 s n : Nat}
/-- where a card of p lies among the cards played: one in each trick -/
theorem pl_one (hV : pl_V ow t l0 cd n) {i j : Nat} (hi : i < n) (hj : j < n) (hq : i / 4 = j / 4) (ho : ow (cd i) = ow (cd j)) : i = j := by
  have e1 := (hV i hi).2.1
  have e2 := (hV j hj).2.1
  unfold pl_tn at e1 e2
  rw [hq] at e1
  omega
theorem pl_left (hD : pl_D ow) (hV : pl_V ow t l0 cd n) (hn : n < 20) : ∃ c, c < 20 ∧ ow c = pl_tn t l0 cd n ∧ ∀ i, i < n → cd i ≠ c := by
  obtain ⟨h, h1, h2, -⟩ := pl_cn_list ow (pl_tn t l0 cd n) 20
  rw [hD.2 _ pl_tn_lt] at h1 h2
  apply Classical.byContradiction
  intro hno
  have all : ∀ i, i < 5 → ∃ j, j < n ∧ cd j = h i ∧ j / 4 < 4 := by
    intro i hi
    apply Classical.byContradiction
    intro hx
    refine hno ⟨h i, (h1 i hi).1, (h1 i hi).2, fun j hj he => hx ⟨j, hj, he, ?_⟩⟩
    have e1 := (hV j hj).2.1
    rw [he, (h1 i hi).2] at e1
    unfold pl_tn at e1
    apply Classical.byContradiction
    intro h4
    have hq : j / 4 = n / 4 := by omega
    rw [hq] at e1
    omega
  have inj : ∀ i k, i < k → k < 5 → ∀ a b, a < n → b < n → cd a = h i → cd b = h k → a / 4 = b / 4 → False := by
    intro i k hik hk a b ha hb ea eb hq
    have e := pl_one hV ha hb hq (by rw [ea, eb, (h1 i (by omega)).2, (h1 k hk).2])
    subst e
    have := h2 i k hik hk
    omega
  obtain ⟨a, a1, a2, a3⟩ := all 0 (by omega)
  obtain ⟨b, b1, b2, b3⟩ := all 1 (by omega)
  obtain ⟨c, c1, c2, c3⟩ := all 2 (by omega)
  obtain ⟨d, d1, d2, d3⟩ := all 3 (by omega)
  obtain ⟨e, e1, e2, e3⟩ := all 4 (by omega)
  rcases pl_pig (a / 4) a3 (b / 4) b3 (c / 4) c3 (d / 4) d3 (e / 4) e3 with q | q | q | q | q | q | q | q | q | q
  · exact inj 0 1 (by omega) (by omega) a b a1 b1 a2 b2 q
  · exact inj 0 2 (by omega) (by omega) a c a1 c1 a2 c2 q
  · exact inj 0 3 (by omega) (by omega) a d a1 d1 a2 d2 q
  · exact inj 0 4 (by omega) (by omega) a e a1 e1 a2 e2 q
  · exact inj 1 2 (by omega) (by omega) b c b1 c1 b2 c2 q
  · exact inj 1 3 (by omega) (by omega) b d b1 d1 b2 d2 q
  · exact inj 1 4 (by omega) (by omega) b e b1 e1 b2 e2 q
  · exact inj 2 3 (by omega) (by omega) c d c1 d1 c2 d2 q
  · exact inj 2 4 (by omega) (by omega) c e c1 e1 c2 e2 q
  · exact inj 3 4 (by omega) (by omega) d e d1 e1 d2 e2 q
theorem pl_can (hD : pl_D ow) (hV : pl_V ow t l0 cd n) (hn : n < 20) : ∃ c, pl_lg ow t l0 cd n c := by
  obtain ⟨c, h1, h2, h3⟩ := pl_left hD hV hn
  by_cases hs : ∃ k, k < 20 ∧ k / 5 = cd (n - n % 4) / 5 ∧ ow k = pl_tn t l0 cd n ∧ ∀ i, i < n → cd i ≠ k
  · obtain ⟨k, k1, k2, k3, k4⟩ := hs
    exact ⟨k, k1, k3, k4, Or.inr (Or.inl k2)⟩
  · refine ⟨c, h1, h2, h3, Or.inr (Or.inr (fun k k1 k2 k3 => ?_))⟩
    apply Classical.byContradiction
    intro hx
    exact hs ⟨k, k1, k2, k3, fun i hi he => hx ⟨i, hi, he⟩⟩
theorem pl_wn_up {c j : Nat} (hj : 4 * j ≤ n) : pl_wn t l0 s (va_up cd n c) j = pl_wn t l0 s cd j := pl_wn_congr (fun i hi => va_up_n (by omega))
theorem pl_A_ub (hD : pl_D ow) {z : Int} : ∀ {k : Nat} {cd : Nat → Nat} {n : Nat}, n + k = 20 → pl_V ow t l0 cd n → pl_A ow t l0 s z k cd n → z ≤ (pl_wn t l0 s cd (n / 4) : Int) + ((k + 3) / 4 : Nat)
  | 0, cd, n, hn, hV, ha => by unfold pl_A at ha; omega
  | k + 1, cd, n, hn, hV, ha => by
    unfold pl_A at ha
    have hc : ∃ c, pl_lg ow t l0 cd n c ∧ pl_A ow t l0 s z k (va_up cd n c) (n + 1) := by
      by_cases hs : pl_tn t l0 cd n % 2 = s
      · exact ha.1 hs
      · obtain ⟨c, hc⟩ := pl_can hD hV (by omega)
        exact ⟨c, hc, ha.2 hs c hc⟩
    obtain ⟨c, hl, hA⟩ := hc
    have ih := pl_A_ub hD (by omega) (pl_V_next hV hl) hA
    by_cases h4 : (n + 1) % 4 = 0
    · have e : (n + 1) / 4 = n / 4 + 1 := by omega
      have e2 : pl_wn t l0 s (va_up cd n c) (n / 4 + 1) ≤ pl_wn t l0 s cd (n / 4) + 1 := by
        rw [pl_wn_s, pl_wn_up (by omega)]
        split <;> omega
      rw [e] at ih
      omega
    · have e : (n + 1) / 4 = n / 4 := by omega
      rw [e, pl_wn_up (by omega)] at ih
      omega
theorem pl_A_lb (hD : pl_D ow) {z : Int} : ∀ {k : Nat} {cd : Nat → Nat} {n : Nat}, n + k = 20 → pl_V ow t l0 cd n → z ≤ (pl_wn t l0 s cd (n / 4) : Int) → pl_A ow t l0 s z k cd n
  | 0, cd, n, hn, hV, hz => by unfold pl_A; exact hz
  | k + 1, cd, n, hn, hV, hz => by
    have step : ∀ c, pl_lg ow t l0 cd n c → pl_A ow t l0 s z k (va_up cd n c) (n + 1) := by
      intro c hl
      refine pl_A_lb hD (by omega) (pl_V_next hV hl) (Int.le_trans hz ?_)
      by_cases h4 : (n + 1) % 4 = 0
      · have e : (n + 1) / 4 = n / 4 + 1 := by omega
        rw [e, pl_wn_s, pl_wn_up (by omega)]
        split <;> omega
      · have e : (n + 1) / 4 = n / 4 := by omega
        rw [e, pl_wn_up (by omega)]
        exact Int.le_refl _
    unfold pl_A
    refine ⟨fun hs => ?_, fun hs c hl => step c hl⟩
    obtain ⟨c, hl⟩ := pl_can hD hV (by omega)
    exact ⟨c, hl, step c hl⟩
end PlayBounds
