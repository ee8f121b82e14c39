/-! the play of the cards as numbers: ow c is who was dealt the card c, cd k the k-th card played, t the trumps (4: none), l0 who leads first -/
/-- c beats b, the best card so far -/
def pl_bt (t c b : Nat) : Bool := if c / 5 = b / 5 then decide (b < c) else decide (c / 5 = t)
/-- which card of a trick wins it -/
def pl_b1 (t : Nat) (x : Nat → Nat) : Nat := if pl_bt t (x 1) (x 0) = true then 1 else 0
def pl_b2 (t : Nat) (x : Nat → Nat) : Nat := if pl_bt t (x 2) (x (pl_b1 t x)) = true then 2 else pl_b1 t x
def pl_bi (t : Nat) (x : Nat → Nat) : Nat := if pl_bt t (x 3) (x (pl_b2 t x)) = true then 3 else pl_b2 t x
/-- who leads to the j-th trick -/
def pl_ld (t l0 : Nat) (cd : Nat → Nat) : Nat → Nat
  | 0 => l0
  | j + 1 => (pl_ld t l0 cd j + pl_bi t (fun i => cd (4 * j + i))) % 4
/-- whose turn it is behind n cards -/
def pl_tn (t l0 : Nat) (cd : Nat → Nat) (n : Nat) : Nat := (pl_ld t l0 cd (n / 4) + n % 4) % 4
/-- how many of the first j tricks the side s has won -/
def pl_wn (t l0 s : Nat) (cd : Nat → Nat) : Nat → Nat
  | 0 => 0
  | j + 1 => pl_wn t l0 s cd j + (if pl_ld t l0 cd (j + 1) % 2 = s then 1 else 0)
/-- the card c may be played behind n cards -/
def pl_lg (ow : Nat → Nat) (t l0 : Nat) (cd : Nat → Nat) (n c : Nat) : Prop :=
  c < 20 ∧ ow c = pl_tn t l0 cd n ∧ (∀ i, i < n → cd i ≠ c) ∧ (n % 4 = 0 ∨ c / 5 = cd (n - n % 4) / 5 ∨ ∀ k, k < 20 → k / 5 = cd (n - n % 4) / 5 → ow k = pl_tn t l0 cd n → ∃ i, i < n ∧ cd i = k)
/-- n cards were played, each when it might be -/
def pl_V (ow : Nat → Nat) (t l0 : Nat) (cd : Nat → Nat) (n : Nat) : Prop := ∀ i, i < n → pl_lg ow t l0 cd i (cd i)
/-- behind n cards, k to go: the side s can come to z tricks in all -/
def pl_A (ow : Nat → Nat) (t l0 s : Nat) (z : Int) : Nat → (Nat → Nat) → Nat → Prop
  | 0, cd, n => z ≤ (pl_wn t l0 s cd (n / 4) : Int)
  | k + 1, cd, n => (pl_tn t l0 cd n % 2 = s → ∃ c, pl_lg ow t l0 cd n c ∧ pl_A ow t l0 s z k (va_up cd n c) (n + 1)) ∧ (¬ pl_tn t l0 cd n % 2 = s → ∀ c, pl_lg ow t l0 cd n c → pl_A ow t l0 s z k (va_up cd n c) (n + 1))
theorem pl_wn_s (t l0 s : Nat) (cd : Nat → Nat) (j : Nat) : pl_wn t l0 s cd (j + 1) = pl_wn t l0 s cd j + (if pl_ld t l0 cd (j + 1) % 2 = s then 1 else 0) := rfl
theorem pl_ld_s (t l0 : Nat) (cd : Nat → Nat) (j : Nat) : pl_ld t l0 cd (j + 1) = (pl_ld t l0 cd j + pl_bi t (fun i => cd (4 * j + i))) % 4 := rfl
section PlayPure
variable {ow cd cd' : Nat → Nat} {t l0 s n : Nat}
theorem va_up_s {α : Type} {f : Nat → α} {k : Nat} {v : α} : va_up f k v k = v := by simp [va_up]
theorem va_up_n {α : Type} {f : Nat → α} {k j : Nat} {v : α} (h : j ≠ k) : va_up f k v j = f j := by simp [va_up, h]
theorem pl_b1_lt (x : Nat → Nat) : pl_b1 t x < 2 := by unfold pl_b1; split <;> omega
theorem pl_b2_lt (x : Nat → Nat) : pl_b2 t x < 3 := by have := pl_b1_lt (t := t) x; unfold pl_b2; split <;> omega
theorem pl_bi_lt (x : Nat → Nat) : pl_bi t x < 4 := by have := pl_b2_lt (t := t) x; unfold pl_bi; split <;> omega
/-- the winner depends on which cards beat which alone -/
theorem pl_bi_same {x y : Nat → Nat} (h : ∀ i j, i < 4 → j < 4 → i ≠ j → pl_bt t (x i) (x j) = pl_bt t (y i) (y j)) : pl_bi t x = pl_bi t y := by
  have h1 : pl_b1 t x = pl_b1 t y := by unfold pl_b1; rw [h 1 0 (by omega) (by omega) (by omega)]
  have l1 := pl_b1_lt (t := t) y
  have h2 : pl_b2 t x = pl_b2 t y := by unfold pl_b2; rw [h1, h 2 (pl_b1 t y) (by omega) (by omega) (by omega)]
  have l2 := pl_b2_lt (t := t) y
  unfold pl_bi; rw [h2, h 3 (pl_b2 t y) (by omega) (by omega) (by omega)]
theorem pl_ld_same : ∀ {j : Nat}, (∀ a b, a < 4 * j → b < 4 * j → a ≠ b → a / 4 = b / 4 → pl_bt t (cd a) (cd b) = pl_bt t (cd' a) (cd' b)) → pl_ld t l0 cd j = pl_ld t l0 cd' j
  | 0, _ => rfl
  | j + 1, h => by
    have ih := pl_ld_same (j := j) (fun a b h1 h2 h3 h4 => h a b (by omega) (by omega) h3 h4)
    unfold pl_ld
    rw [ih, pl_bi_same (x := fun i => cd (4 * j + i)) (y := fun i => cd' (4 * j + i)) (fun i k hi hk hne => h (4 * j + i) (4 * j + k) (by omega) (by omega) (by omega) (by omega))]
theorem pl_ld_congr {j : Nat} (h : ∀ i, i < 4 * j → cd i = cd' i) : pl_ld t l0 cd j = pl_ld t l0 cd' j :=
  pl_ld_same (fun a b h1 h2 _ _ => by rw [h a h1, h b h2])
theorem pl_ld_lt (h0 : l0 < 4) (j : Nat) : pl_ld t l0 cd j < 4 := by cases j <;> unfold pl_ld <;> omega
theorem pl_tn_lt : pl_tn t l0 cd n < 4 := by unfold pl_tn; omega
theorem pl_tn_congr (h : ∀ i, i < n → cd i = cd' i) : pl_tn t l0 cd n = pl_tn t l0 cd' n := by
  unfold pl_tn; rw [pl_ld_congr (fun i hi => h i (by omega))]
theorem pl_wn_of : ∀ {j : Nat}, (∀ i, i ≤ j → pl_ld t l0 cd i = pl_ld t l0 cd' i) → pl_wn t l0 s cd j = pl_wn t l0 s cd' j
  | 0, _ => rfl
  | j + 1, h => by unfold pl_wn; rw [h (j + 1) (by omega), pl_wn_of (fun i hi => h i (by omega))]
theorem pl_wn_congr {j : Nat} (h : ∀ i, i < 4 * j → cd i = cd' i) : pl_wn t l0 s cd j = pl_wn t l0 s cd' j :=
  pl_wn_of (fun i hi => pl_ld_congr (fun k hk => h k (by omega)))
theorem pl_lg_congr (h : ∀ i, i < n → cd i = cd' i) {c : Nat} (hl : pl_lg ow t l0 cd n c) : pl_lg ow t l0 cd' n c := by
  obtain ⟨h1, h2, h3, h4⟩ := hl
  rw [pl_tn_congr h] at h2
  refine ⟨h1, h2, fun i hi => by rw [← h i hi]; exact h3 i hi, ?_⟩
  rcases h4 with h4 | h4 | h4
  · exact Or.inl h4
  · by_cases h0 : n % 4 = 0
    · exact Or.inl h0
    · exact Or.inr (Or.inl (by rw [← h _ (by omega)]; exact h4))
  · by_cases h0 : n % 4 = 0
    · exact Or.inl h0
    · refine Or.inr (Or.inr (fun k hk hs ho => ?_))
      obtain ⟨i, hi, he⟩ := h4 k hk (by rw [h _ (by omega)]; exact hs) (by rw [pl_tn_congr h]; exact ho)
      exact ⟨i, hi, by rw [← h i hi]; exact he⟩
theorem pl_A_congr {z : Int} : ∀ {k : Nat} {cd cd' : Nat → Nat} {n : Nat}, (∀ i, i < n → cd i = cd' i) → pl_A ow t l0 s z k cd n → pl_A ow t l0 s z k cd' n
  | 0, cd, cd', n, h, ha => by
    unfold pl_A at ha ⊢
    rw [← pl_wn_congr (fun i hi => h i (by omega))]; exact ha
  | k + 1, cd, cd', n, h, ha => by
    have hu : ∀ c i, i < n + 1 → va_up cd n c i = va_up cd' n c i := by
      intro c i hi
      by_cases hin : i = n
      · subst hin; rw [va_up_s, va_up_s]
      · rw [va_up_n hin, va_up_n hin]; exact h i (by omega)
    unfold pl_A at ha ⊢
    rw [← pl_tn_congr h]
    refine ⟨fun hs => ?_, fun hs c hc => ?_⟩
    · obtain ⟨c, hc, hA⟩ := ha.1 hs
      exact ⟨c, pl_lg_congr h hc, pl_A_congr (hu c) hA⟩
    · exact pl_A_congr (hu c) (ha.2 hs c (pl_lg_congr (fun i hi => (h i hi).symm) hc))
theorem pl_A_mono {z z' : Int} (hz : z' ≤ z) : ∀ {k : Nat} {cd : Nat → Nat} {n : Nat}, pl_A ow t l0 s z k cd n → pl_A ow t l0 s z' k cd n
  | 0, cd, n, ha => by unfold pl_A at ha ⊢; omega
  | k + 1, cd, n, ha => by
    unfold pl_A at ha ⊢
    refine ⟨fun hs => ?_, fun hs c hc => pl_A_mono hz (ha.2 hs c hc)⟩
    obtain ⟨c, hc, hA⟩ := ha.1 hs
    exact ⟨c, hc, pl_A_mono hz hA⟩
/-! two cards that no live card lies between may stand for each other -/
def pl_sw (a b c : Nat) : Nat := if c = a then b else if c = b then a else c
theorem pl_sw_sw (a b c : Nat) : pl_sw a b (pl_sw a b c) = c := by unfold pl_sw; split <;> split <;> (try split) <;> omega
theorem pl_sw_inj {a b c d : Nat} (h : pl_sw a b c = pl_sw a b d) : c = d := by rw [← pl_sw_sw a b c, h, pl_sw_sw]
theorem pl_sw_out {a b c : Nat} (h1 : c ≠ a) (h2 : c ≠ b) : pl_sw a b c = c := by unfold pl_sw; rw [if_neg h1, if_neg h2]
theorem pl_sw_lt {a b c : Nat} (ha : a < 20) (hb : b < 20) (hc : c < 20) : pl_sw a b c < 20 := by unfold pl_sw; split <;> (try split) <;> omega
theorem pl_sw_su {a b c : Nat} (h : a / 5 = b / 5) : pl_sw a b c / 5 = c / 5 := by unfold pl_sw; split <;> (try split) <;> omega
theorem pl_sw_ow {a b c : Nat} (h : ow a = ow b) : ow (pl_sw a b c) = ow c := by
  unfold pl_sw
  split
  · rename_i h1; rw [h1, h]
  · split
    · rename_i h1; rw [h1, h]
    · rfl
/-- which of two cards beats the other is the same for their stand-ins -/
theorem pl_sw_bt {a b x y : Nat} (hab : a / 5 = b / 5) (hlt : b < a) (hxy : x ≠ y) (h1 : ¬ (x = a ∧ y = b)) (h2 : ¬ (x = b ∧ y = a)) (hx : ¬ (b < x ∧ x < a)) (hy : ¬ (b < y ∧ y < a)) : pl_bt t (pl_sw a b x) (pl_sw a b y) = pl_bt t x y := by
  have e1 := pl_sw_su (c := x) hab
  have e2 := pl_sw_su (c := y) hab
  unfold pl_bt
  rw [e1, e2]
  by_cases hs : x / 5 = y / 5
  · rw [if_pos hs, if_pos hs]
    have : (pl_sw a b y < pl_sw a b x) ↔ y < x := by
      unfold pl_sw
      split <;> split <;> (try split) <;> (try split) <;> omega
    simp only [this]
  · rw [if_neg hs, if_neg hs]
/-- the tricks so far are alike for the cards and for their stand-ins -/
def pl_al (t a b : Nat) (cd : Nat → Nat) (n : Nat) : Prop := ∀ i j, i < n → j < n → i ≠ j → i / 4 = j / 4 → pl_bt t (pl_sw a b (cd i)) (pl_sw a b (cd j)) = pl_bt t (cd i) (cd j)
theorem pl_al_ld {a b j : Nat} (h : pl_al t a b cd n) (hc : ∀ i, i < n → cd' i = pl_sw a b (cd i)) (hj : 4 * j ≤ n) : pl_ld t l0 cd' j = pl_ld t l0 cd j :=
  pl_ld_same (fun x y hx hy hne hq => by rw [hc x (by omega), hc y (by omega)]; exact h x y (by omega) (by omega) hne hq)
theorem pl_al_tn {a b : Nat} (h : pl_al t a b cd n) (hc : ∀ i, i < n → cd' i = pl_sw a b (cd i)) : pl_tn t l0 cd' n = pl_tn t l0 cd n := by
  unfold pl_tn; rw [pl_al_ld h hc (by omega)]
theorem pl_al_lg {a b c : Nat} (ha : a < 20) (hb : b < 20) (ho : ow a = ow b) (hab : a / 5 = b / 5) (h : pl_al t a b cd n) (hc : ∀ i, i < n → cd' i = pl_sw a b (cd i)) (hl : pl_lg ow t l0 cd n c) : pl_lg ow t l0 cd' n (pl_sw a b c) := by
  obtain ⟨h1, h2, h3, h4⟩ := hl
  have htn : pl_tn t l0 cd' n = pl_tn t l0 cd n := pl_al_tn h hc
  refine ⟨pl_sw_lt ha hb h1, by rw [pl_sw_ow ho, htn]; exact h2, fun i hi he => ?_, ?_⟩
  · rw [hc i hi] at he; exact h3 i hi (pl_sw_inj he)
  · by_cases h0 : n % 4 = 0
    · exact Or.inl h0
    · have hs : cd' (n - n % 4) / 5 = cd (n - n % 4) / 5 := by rw [hc _ (by omega), pl_sw_su hab]
      rcases h4 with h4 | h4 | h4
      · exact Or.inl h4
      · exact Or.inr (Or.inl (by rw [hs, pl_sw_su hab]; exact h4))
      · refine Or.inr (Or.inr (fun k hk hks hko => ?_))
        rw [hs] at hks
        rw [htn] at hko
        obtain ⟨i, hi, he⟩ := h4 (pl_sw a b k) (pl_sw_lt ha hb hk) (by rw [pl_sw_su hab]; exact hks) (by rw [pl_sw_ow ho]; exact hko)
        exact ⟨i, hi, by rw [hc i hi, he, pl_sw_sw]⟩
/-- the cards of the trick that lies on the table are of different players -/
theorem pl_V_ow (hV : pl_V ow t l0 cd n) {i : Nat} (hi : i < n) (hq : i / 4 = n / 4) : ow (cd i) = (pl_ld t l0 cd (n / 4) + i % 4) % 4 := by
  have h := (hV i hi).2.1
  unfold pl_tn at h
  rw [hq] at h
  exact h
theorem pl_al_next {a b c : Nat} (ho : ow a = ow b) (hab : a / 5 = b / 5) (hlt : b < a) (hV : pl_V ow t l0 cd n) (hbt : ∀ x, b < x → x < a → ∃ i, i < 4 * (n / 4) ∧ cd i = x) (h : pl_al t a b cd n) (hl : pl_lg ow t l0 cd n c) : pl_al t a b (va_up cd n c) (n + 1) := by
  have hcn : ¬ (b < c ∧ c < a) := fun hx => by
    obtain ⟨i, hi, he⟩ := hbt c hx.1 hx.2
    exact hl.2.2.1 i (by omega) he
  have hin : ∀ i, i < n → i / 4 = n / 4 → ¬ (b < cd i ∧ cd i < a) := fun i hi hq hx => by
    obtain ⟨k, hk, he⟩ := hbt (cd i) hx.1 hx.2
    exact (hV i hi).2.2.1 k (by omega) he
  have hne : ∀ i, i < n → i / 4 = n / 4 → ow (cd i) ≠ ow c := fun i hi hq he => by
    have e1 := pl_V_ow hV hi hq
    have e2 := hl.2.1
    unfold pl_tn at e2
    omega
  intro i j hi hj hij hq
  by_cases hin' : i = n
  · subst hin'
    have hjn : j < i := by omega
    rw [va_up_s, va_up_n (by omega)]
    have hw := hne j hjn (by omega)
    refine pl_sw_bt hab hlt (fun he => hw (by rw [he])) (fun hx => hw ?_) (fun hx => hw ?_) hcn (hin j hjn (by omega))
    · rw [hx.1, hx.2, ho]
    · rw [hx.1, hx.2, ho]
  · by_cases hjn : j = n
    · subst hjn
      have hin2 : i < j := by omega
      rw [va_up_s, va_up_n (by omega)]
      have hw := hne i hin2 (by omega)
      refine pl_sw_bt hab hlt (fun he => hw (by rw [he])) (fun hx => hw ?_) (fun hx => hw ?_) (hin i hin2 (by omega)) hcn
      · rw [hx.1, hx.2, ho]
      · rw [hx.1, hx.2, ho]
    · rw [va_up_n hin', va_up_n hjn]
      exact h i j (by omega) (by omega) hij hq
theorem pl_V_next {c : Nat} (hV : pl_V ow t l0 cd n) (hl : pl_lg ow t l0 cd n c) : pl_V ow t l0 (va_up cd n c) (n + 1) := by
  intro i hi
  by_cases hin : i = n
  · subst hin
    rw [va_up_s]
    exact pl_lg_congr (fun j hj => (va_up_n (by omega)).symm) hl
  · rw [va_up_n hin]
    exact pl_lg_congr (fun j hj => (va_up_n (by omega)).symm) (hV i (by omega))
theorem pl_swap {a b : Nat} {z : Int} (ha : a < 20) (hb : b < 20) (ho : ow a = ow b) (hab : a / 5 = b / 5) (hlt : b < a) : ∀ {k : Nat} {cd cd' : Nat → Nat} {n : Nat}, pl_V ow t l0 cd n → (∀ x, b < x → x < a → ∃ i, i < 4 * (n / 4) ∧ cd i = x) → pl_al t a b cd n → (∀ i, i < n → cd' i = pl_sw a b (cd i)) →
    (pl_A ow t l0 s z k cd n → pl_A ow t l0 s z k cd' n) ∧ (pl_A ow t l0 s z k cd' n → pl_A ow t l0 s z k cd n)
  | 0, cd, cd', n, hV, hbt, hal, hc => by
    have e : pl_wn t l0 s cd' (n / 4) = pl_wn t l0 s cd (n / 4) := pl_wn_of (fun i hi => pl_al_ld hal hc (by omega))
    unfold pl_A
    rw [e]
    exact ⟨id, id⟩
  | k + 1, cd, cd', n, hV, hbt, hal, hc => by
    have htn : pl_tn t l0 cd' n = pl_tn t l0 cd n := pl_al_tn hal hc
    have hc2 : ∀ i, i < n → cd i = pl_sw a b (cd' i) := fun i hi => by rw [hc i hi, pl_sw_sw]
    have hal2 : pl_al t a b cd' n := fun i j hi hj hij hq => by
      rw [hc i hi, hc j hj, pl_sw_sw, pl_sw_sw]; exact (hal i j hi hj hij hq).symm
    have key : ∀ c, pl_lg ow t l0 cd n c → (pl_A ow t l0 s z k (va_up cd n c) (n + 1) → pl_A ow t l0 s z k (va_up cd' n (pl_sw a b c)) (n + 1)) ∧ (pl_A ow t l0 s z k (va_up cd' n (pl_sw a b c)) (n + 1) → pl_A ow t l0 s z k (va_up cd n c) (n + 1)) := by
      intro c hl
      refine pl_swap ha hb ho hab hlt (pl_V_next hV hl) (fun x h1 h2 => ?_) (pl_al_next ho hab hlt hV hbt hal hl) (fun i hi => ?_)
      · obtain ⟨i, hi, he⟩ := hbt x h1 h2
        exact ⟨i, by omega, by rw [va_up_n (by omega)]; exact he⟩
      · by_cases hin : i = n
        · subst hin; rw [va_up_s, va_up_s]
        · rw [va_up_n hin, va_up_n hin]; exact hc i (by omega)
    have back : ∀ c', pl_lg ow t l0 cd' n c' → pl_lg ow t l0 cd n (pl_sw a b c') := fun c' hl => pl_al_lg ha hb ho hab hal2 hc2 hl
    unfold pl_A
    rw [htn]
    refine ⟨fun hA => ⟨fun hs => ?_, fun hs c' hl' => ?_⟩, fun hA => ⟨fun hs => ?_, fun hs c hl => ?_⟩⟩
    · obtain ⟨c, hl, hr⟩ := hA.1 hs
      exact ⟨pl_sw a b c, pl_al_lg ha hb ho hab hal hc hl, (key c hl).1 hr⟩
    · have h1 := (key _ (back c' hl')).1 (hA.2 hs _ (back c' hl'))
      rw [pl_sw_sw] at h1
      exact h1
    · obtain ⟨c', hl', hr⟩ := hA.1 hs
      refine ⟨pl_sw a b c', back c' hl', (key _ (back c' hl')).2 ?_⟩
      rw [pl_sw_sw]
      exact hr
    · exact (key c hl).2 (hA.2 hs _ (pl_al_lg ha hb ho hab hal hc hl))
/-- two cards that may be played, with no live card between them: the one does what the other does -/
theorem pl_alike {a b k : Nat} {z : Int} (hab : a / 5 = b / 5) (hlt : b < a) (hV : pl_V ow t l0 cd n) (hbt : ∀ x, b < x → x < a → ∃ i, i < 4 * (n / 4) ∧ cd i = x) (hla : pl_lg ow t l0 cd n a) (hlb : pl_lg ow t l0 cd n b) :
    pl_A ow t l0 s z k (va_up cd n a) (n + 1) → pl_A ow t l0 s z k (va_up cd n b) (n + 1) := by
  have ho : ow a = ow b := by rw [hla.2.1, hlb.2.1]
  have h0 : pl_al t a b cd n := fun i j hi hj _ _ => by
    rw [pl_sw_out (hla.2.2.1 i hi) (hlb.2.2.1 i hi), pl_sw_out (hla.2.2.1 j hj) (hlb.2.2.1 j hj)]
  refine (pl_swap hla.1 hlb.1 ho hab hlt (pl_V_next hV hla) (fun x h1 h2 => ?_) (pl_al_next ho hab hlt hV hbt h0 hla) (fun i hi => ?_)).1
  · obtain ⟨i, hi, he⟩ := hbt x h1 h2
    exact ⟨i, by omega, by rw [va_up_n (by omega)]; exact he⟩
  · by_cases hin : i = n
    · subst hin
      rw [va_up_s, va_up_s]
      unfold pl_sw
      rw [if_pos rfl]
    · rw [va_up_n hin, va_up_n hin, pl_sw_out (hla.2.2.1 i (by omega)) (hlb.2.2.1 i (by omega))]
theorem pl_alike' {a b k : Nat} {z : Int} (hab : a / 5 = b / 5) (hlt : b < a) (hV : pl_V ow t l0 cd n) (hbt : ∀ x, b < x → x < a → ∃ i, i < 4 * (n / 4) ∧ cd i = x) (hla : pl_lg ow t l0 cd n a) (hlb : pl_lg ow t l0 cd n b) :
    pl_A ow t l0 s z k (va_up cd n b) (n + 1) → pl_A ow t l0 s z k (va_up cd n a) (n + 1) := by
  have ho : ow a = ow b := by rw [hla.2.1, hlb.2.1]
  have h0 : pl_al t a b cd n := fun i j hi hj _ _ => by
    rw [pl_sw_out (hla.2.2.1 i hi) (hlb.2.2.1 i hi), pl_sw_out (hla.2.2.1 j hj) (hlb.2.2.1 j hj)]
  refine (pl_swap hla.1 hlb.1 ho hab hlt (pl_V_next hV hla) (fun x h1 h2 => ?_) (pl_al_next ho hab hlt hV hbt h0 hla) (fun i hi => ?_)).2
  · obtain ⟨i, hi, he⟩ := hbt x h1 h2
    exact ⟨i, by omega, by rw [va_up_n (by omega)]; exact he⟩
  · by_cases hin : i = n
    · subst hin
      rw [va_up_s, va_up_s]
      unfold pl_sw
      rw [if_pos rfl]
    · rw [va_up_n hin, va_up_n hin, pl_sw_out (hla.2.2.1 i (by omega)) (hlb.2.2.1 i (by omega))]
end PlayPure
