/-! the model's play -/
/-- how high a card stands in a trick -/
def pl_ht (t led c : Nat) : Nat := if c / 5 = t then 10 + c % 5 else if c / 5 = led then 1 + c % 5 else 0
theorem pl_ht_lt (t led c : Nat) : pl_ht t led c < 20 := by unfold pl_ht; split <;> (try split) <;> omega
theorem pl_ht_bt {t led c b : Nat} (hb : b / 5 = led ∨ b / 5 = t) : pl_bt t c b = true ↔ ¬ pl_ht t led c ≤ pl_ht t led b := by
  unfold pl_bt pl_ht
  by_cases h1 : c / 5 = b / 5
  · rw [if_pos h1, decide_eq_true_eq]
    split <;> (try split) <;> (try split) <;> (try split) <;> omega
  · rw [if_neg h1, decide_eq_true_eq]
    split <;> (try split) <;> (try split) <;> (try split) <;> omega
theorem pl_bt_su {t led c b : Nat} (hb : b / 5 = led ∨ b / 5 = t) (h : pl_bt t c b = true) : c / 5 = led ∨ c / 5 = t := by
  unfold pl_bt at h
  by_cases h1 : c / 5 = b / 5
  · omega
  · rw [if_neg h1, decide_eq_true_eq] at h; exact Or.inr h
theorem bt_at0 {x : Int32} {c : Nat} (hc : c < 32) : ((x >>> i3 c) &&& i3 1 = i3 0) ↔ bt x c = false := by
  have e3 : ∀ j, bt (i3 1) j = decide (j = 0) := fun j => bt_one (c := 0) (j := j) (by omega)
  have e1 := bt_at (x := x) hc
  refine ⟨fun h => ?_, fun h => ?_⟩
  · cases hb : bt x c with
    | false => rfl
    | true =>
      rw [e1.mpr hb] at h
      exact absurd h (by decide)
  · cases hb : decide ((x >>> i3 c) &&& i3 1 = i3 0) with
    | true => exact of_decide_eq_true hb
    | false =>
      exfalso
      have h0 := of_decide_eq_false hb
      apply h0
      apply bt_ext
      intro j hj
      rw [bt_and, e3, bt_0]
      by_cases hj0 : j = 0
      · subst hj0
        cases hz : bt (x >>> i3 c) 0 with
        | false => rfl
        | true =>
          exfalso
          have : (x >>> i3 c) &&& i3 1 = i3 1 := by
            apply bt_ext
            intro k hk
            rw [bt_and, e3]
            by_cases hk0 : k = 0
            · subst hk0; rw [hz]; rfl
            · simp [hk0]
          rw [e1.mp this] at h
          cases h
      · simp [hj0]
/-- bid and declarer as the model has them -/
def qmT (v : ZS) (bd dc : Nat) : Prop := fI v 6 = i3 bd ∧ fI v 8 = i3 dc ∧ 3 ≤ bd ∧ bd ≤ 17 ∧ dc < 4
/-- what the model keeps of the play behind n cards -/
def qmP (v : ZS) (t l0 s : Nat) (cd : Nat → Nat) (n : Nat) : Prop := (∀ i, i < n → cd i < 20 ∧ aI v 2 i = i3 (cd i)) ∧ (∀ j, j ≤ n → aI v 3 j = i3 (pl_tn t l0 cd j)) ∧ (∀ j, j ≤ n → aI v 4 j = i3 (pl_wn t l0 s cd (j / 4))) ∧ ∀ j, j ≤ n → ∀ c, bt (aI v 5 j) c = true ↔ ∃ i, i < j ∧ cd i = c
/-- only the cells n + 1 of three rows have changed -/
def qgo (n : Nat) (v v' : ZS) : Prop := fx [] [] [3, 4, 5] [] v v' ∧ ∀ i, i ≠ n + 1 → aI v' 3 i = aI v 3 i ∧ aI v' 4 i = aI v 4 i ∧ aI v' 5 i = aI v 5 i
theorem pl_wn_le {t l0 s : Nat} {cd : Nat → Nat} : ∀ j, pl_wn t l0 s cd j ≤ j
  | 0 => Nat.le_refl _
  | j + 1 => by rw [pl_wn_s]; have := pl_wn_le (t := t) (l0 := l0) (s := s) (cd := cd) j; split <;> omega
section MPl
variable {v : ZS} {t l0 s n bd dc : Nat} {cd ow : Nat → Nat} {post : Int32 → ZS → Prop}
theorem s_ht (hT : qmT v bd dc) (ht : t = (bd - 3) % 5) {c led : Nat} (hc : c < 20) (hl : led < 20) (h : post (i3 (pl_ht t led c)) v) : w_m_height (i3 c) (i3 led) v post := by
  obtain ⟨e6, -, h3, h17, -⟩ := hT
  unfold pl_ht at h
  simp (disch := omega) only [b_m_height_35, w_m_height, w_m_trump, e6, i3_0, i3_1, i3_2, i3_3, i3_4, i3_5, i3_6, i3_10, i3_12, i3_15, i3_17, i3_19, i3_20, i3_21, i3_31, i3_139, i3_add, i3_mul, i3_sub, i3_dec, i3_div, i3_eq, i3_lt, i3_le, i3_nat, i3_in, i3_m1, i3_n0, i3_a1, i3_a3, i3_a31, nrem]
  subst ht
  refine ⟨fun hx => ⟨fun hy => ?_, fun hy => ?_⟩, fun hx => ?_⟩
  · rw [if_neg hx, if_neg hy] at h; exact h
  · rw [if_neg hx, if_pos hy] at h; exact h
  · rw [if_pos hx] at h; exact h
theorem s_go {post : ZS → Prop} (hT : qmT v bd dc) (ht : t = (bd - 3) % 5) (hs : s = dc % 2) (hl0 : l0 < 4) (hn : n < 20) (hP : qmP v t l0 s cd n) (hc20 : cd n < 20) (hcn : aI v 2 n = i3 (cd n)) (h : ∀ v', qgo n v v' → qmP v' t l0 s cd (n + 1) → post v') : w_m_goOn (i3 n) v post := by
  obtain ⟨p2, p3, p4, p5⟩ := hP
  obtain ⟨e6, e8, hb3, hb17, hd4⟩ := id hT
  have htn := pl_tn_lt (t := t) (l0 := l0) (cd := cd) (n := n)
  have p2' : ∀ i, i < n + 1 → cd i < 20 ∧ aI v 2 i = i3 (cd i) := fun i hi => by
    by_cases hin : i = n
    · subst hin; exact ⟨hc20, hcn⟩
    · exact p2 i (by omega)
  have g5 : ∀ (x : Int32), (∀ c, bt x c = true ↔ (bt (aI v 5 n) c = true ∨ c = cd n)) → ∀ j, j ≤ n + 1 → ∀ c, bt (upd (aI v 5) (n + 1) x j) c = true ↔ ∃ i, i < j ∧ cd i = c := by
    intro x hx j hj c
    by_cases hjn : j = n + 1
    · subst hjn
      rw [up1, hx c, p5 n (Nat.le_refl _) c]
      refine ⟨fun hh => ?_, fun ⟨i, hi, he⟩ => ?_⟩
      · rcases hh with ⟨i, hi, he⟩ | hh
        · exact ⟨i, by omega, he⟩
        · exact ⟨n, by omega, hh.symm⟩
      · by_cases hin : i = n
        · subst hin; exact Or.inr he.symm
        · exact Or.inl ⟨i, by omega, he⟩
    · rw [up2 hjn]; exact p5 j (by omega) c
  have hor : ∀ c, bt (aI v 5 n ||| i3 1 <<< i3 (cd n)) c = true ↔ (bt (aI v 5 n) c = true ∨ c = cd n) := by
    intro c
    rw [bt_or, Bool.or_eq_true, bt_one (by omega), decide_eq_true_eq]
  unfold w_m_goOn
  simp (disch := omega) only [b_m_goOn_183, b_m_goOn_182, b_m_goOn_120, w_m_goOn, f1, f2, f3, f4, f5, g1, g2, g3, g4, g5, a1, a2, a3, a4, a5, zh1, zh2, zh3, zh4, zh5, up1, up2, p3 n (Nat.le_refl _), p4 n (Nat.le_refl _), hcn, i3_0, i3_1, i3_2, i3_3, i3_4, i3_5, i3_6, i3_10, i3_12, i3_15, i3_17, i3_19, i3_20, i3_21, i3_31, i3_139, i3_add, i3_mul, i3_sub, i3_dec, i3_div, i3_eq, i3_lt, i3_le, i3_nat, i3_in, i3_m1, i3_n0, i3_a1, i3_a3, i3_a31, nrem, Nat.mod_eq_of_lt (show cd n < 32 by omega)]
  refine ⟨by omega, by omega, by omega, by omega, by omega, by omega, by omega, fun hx => ?_, fun hx => ⟨by rw [i3_sub (by omega), i3_in (by omega)]; omega, 4, ?_⟩⟩
  · refine h _ ⟨fx_pI (fx_pI (fx_pI fx_rf (by decide)) (by decide)) (by decide), fun i hi => ⟨?_, ?_, ?_⟩⟩ ⟨fun i hi => ?_, fun j hj => ?_, fun j hj => ?_, ?_⟩
    · rw [a2 (by decide), a2 (by decide), a1, up2 hi]
    · rw [a2 (by decide), a1, up2 hi, a2 (by decide)]
    · rw [a1, up2 hi, a2 (by decide), a2 (by decide)]
    · rw [a2 (by decide), a2 (by decide), a2 (by decide)]; exact p2' i hi
    · rw [a2 (by decide), a2 (by decide), a1]
      by_cases hjn : j = n + 1
      · subst hjn; rw [up1]; congr 1; unfold pl_tn
        have e : (n + 1) / 4 = n / 4 := by omega
        rw [e]; omega
      · rw [up2 hjn]; exact p3 j (by omega)
    · rw [a2 (by decide), a1, a2 (by decide)]
      by_cases hjn : j = n + 1
      · subst hjn; rw [up1]
        have e : (n + 1) / 4 = n / 4 := by omega
        rw [e]
      · rw [up2 hjn]; exact p4 j (by omega)
    · rw [a1, a2 (by decide), a2 (by decide)]; exact g5 _ hor
  · -- the trick is full
    have e3 : n - 3 = 4 * (n / 4) := by omega
    rw [i3_sub (show 3 ≤ n by omega), i3_sub (show 2 ≤ n by omega), i3_nat (by omega), e3, (p2' (4 * (n / 4)) (by omega)).2, i3_div (by have := (p2' (4 * (n / 4)) (by omega)).1; omega) (by omega)]
    have hled := (p2' (4 * (n / 4)) (by omega)).1
    generalize hu0 : pI (pI (pI v 3 (n + 1) (i3 ((pl_tn t l0 cd n + 1) % 4))) 4 (n + 1) (i3 (pl_wn t l0 s cd (n / 4)))) 5 (n + 1) (aI v 5 n ||| i3 1 <<< i3 (cd n)) = u0
    have c2 : aI u0 2 = aI v 2 := by rw [← hu0, a2 (by decide), a2 (by decide), a2 (by decide)]
    have c3 : aI u0 3 = upd (aI v 3) (n + 1) (i3 ((pl_tn t l0 cd n + 1) % 4)) := by rw [← hu0, a2 (by decide), a2 (by decide), a1]
    have c4 : aI u0 4 = upd (aI v 4) (n + 1) (i3 (pl_wn t l0 s cd (n / 4))) := by rw [← hu0, a2 (by decide), a1, a2 (by decide)]
    have c5 : aI u0 5 = upd (aI v 5) (n + 1) (aI v 5 n ||| i3 1 <<< i3 (cd n)) := by rw [← hu0, a1, a2 (by decide), a2 (by decide)]
    have cx : fx [] [] [3, 4, 5] [] v u0 := by rw [← hu0]; exact fx_pI (fx_pI (fx_pI fx_rf (by decide)) (by decide)) (by decide)
    have hT0 : qmT u0 bd dc := ⟨by rw [cx.1 6 (by decide)]; exact e6, by rw [cx.1 8 (by decide)]; exact e8, hb3, hb17, hd4⟩
    have q2 : ∀ i, i < 4 → cd (4 * (n / 4) + i) < 20 ∧ aI u0 2 (4 * (n / 4) + i) = i3 (cd (4 * (n / 4) + i)) := fun i hi => by
      rw [c2]; exact p2' _ (by omega)
    have st : ∀ (f k q q' : Nat), k < 4 → q < k → (cd (4 * (n / 4) + q) / 5 = cd (4 * (n / 4)) / 5 ∨ cd (4 * (n / 4) + q) / 5 = t) → q' = (if pl_bt t (cd (4 * (n / 4) + k)) (cd (4 * (n / 4) + q)) = true then k else q) → b_m_goOn_82 post f (i3 n) (i3 (cd (4 * (n / 4)) / 5)) (i3 (4 * (n / 4) + q')) (i3 (4 * (n / 4) + (k + 1))) u0 → b_m_goOn_82 post (f + 1) (i3 n) (i3 (cd (4 * (n / 4)) / 5)) (i3 (4 * (n / 4) + q)) (i3 (4 * (n / 4) + k)) u0 := by
      intro f k q q' hk hq hsu eq hr
      have k1 := q2 k hk
      have k2 := q2 q (by omega)
      have l1 := pl_ht_lt t (cd (4 * (n / 4)) / 5) (cd (4 * (n / 4) + k))
      have l2 := pl_ht_lt t (cd (4 * (n / 4)) / 5) (cd (4 * (n / 4) + q))
      unfold b_m_goOn_82
      refine ⟨fun hx => ?_, fun _ => ?_⟩
      · rw [i3_lt (by omega) (by omega)] at hx; omega
      · rw [i3_in (by omega), i3_nat (by omega), k1.2]
        refine ⟨by omega, s_ht hT0 ht k1.1 (by omega) ?_⟩
        rw [i3_in (by omega), i3_nat (by omega), k2.2]
        refine ⟨by omega, s_ht hT0 ht k2.1 (by omega) ?_⟩
        unfold b_m_goOn_120
        rw [i3_le (by omega) (by omega), i3_1, i3_add]
        have hb := pl_ht_bt (t := t) (c := cd (4 * (n / 4) + k)) hsu
        refine ⟨fun hx => ?_, fun hx => ?_⟩
        · rw [if_neg (fun hh => (hb.mp hh) hx)] at eq; subst eq; exact hr
        · rw [if_pos (hb.mpr hx)] at eq; subst eq; exact hr
    have l1 := pl_b1_lt (t := t) (fun i => cd (4 * (n / 4) + i))
    have l2 := pl_b2_lt (t := t) (fun i => cd (4 * (n / 4) + i))
    have l3 := pl_bi_lt (t := t) (fun i => cd (4 * (n / 4) + i))
    have su0 : cd (4 * (n / 4) + 0) / 5 = cd (4 * (n / 4)) / 5 ∨ cd (4 * (n / 4) + 0) / 5 = t := Or.inl rfl
    have suN : ∀ (k q q' : Nat), (cd (4 * (n / 4) + q) / 5 = cd (4 * (n / 4)) / 5 ∨ cd (4 * (n / 4) + q) / 5 = t) → q' = (if pl_bt t (cd (4 * (n / 4) + k)) (cd (4 * (n / 4) + q)) = true then k else q) → (cd (4 * (n / 4) + q') / 5 = cd (4 * (n / 4)) / 5 ∨ cd (4 * (n / 4) + q') / 5 = t) := by
      intro k q q' hsu eq
      by_cases hb : pl_bt t (cd (4 * (n / 4) + k)) (cd (4 * (n / 4) + q)) = true
      · rw [if_pos hb] at eq; subst eq; exact pl_bt_su hsu hb
      · rw [if_neg hb] at eq; subst eq; exact hsu
    have su1 := suN 1 0 (pl_b1 t (fun i => cd (4 * (n / 4) + i))) su0 rfl
    have su2 := suN 2 _ (pl_b2 t (fun i => cd (4 * (n / 4) + i))) su1 rfl
    have e2 : n - 2 = 4 * (n / 4) + 1 := by omega
    rw [e2]
    refine st 3 1 0 (pl_b1 t (fun i => cd (4 * (n / 4) + i))) (by omega) (by omega) su0 rfl ?_
    refine st 2 2 _ (pl_b2 t (fun i => cd (4 * (n / 4) + i))) (by omega) l1 su1 rfl ?_
    refine st 1 3 _ (pl_bi t (fun i => cd (4 * (n / 4) + i))) (by omega) l2 su2 rfl ?_
    have etop : pl_tn t l0 cd (4 * (n / 4) + pl_bi t (fun i => cd (4 * (n / 4) + i))) = pl_ld t l0 cd (n / 4 + 1) := by
      rw [pl_ld_s]; unfold pl_tn
      have e4 : (4 * (n / 4) + pl_bi t (fun i => cd (4 * (n / 4) + i))) / 4 = n / 4 := by omega
      have e5 : (4 * (n / 4) + pl_bi t (fun i => cd (4 * (n / 4) + i))) % 4 = pl_bi t (fun i => cd (4 * (n / 4) + i)) := by omega
      rw [e4, e5]
    have hld := pl_ld_lt (t := t) (cd := cd) hl0 (n / 4 + 1)
    have c3t : aI u0 3 (4 * (n / 4) + pl_bi t (fun i => cd (4 * (n / 4) + i))) = i3 (pl_ld t l0 cd (n / 4 + 1)) := by
      rw [c3, up2 (by omega), p3 _ (by omega), etop]
    have c4n : aI u0 4 n = i3 (pl_wn t l0 s cd (n / 4)) := by rw [c4, up2 (by omega)]; exact p4 n (Nat.le_refl _)
    have hf8 : fI u0 8 = i3 dc := hT0.2.1
    unfold b_m_goOn_82
    refine ⟨fun _ => ?_, fun hx => ?_⟩
    · simp (disch := omega) only [b_m_goOn_183, b_m_goOn_182, b_m_goOn_120, w_m_goOn, f1, f2, f3, f4, f5, g1, g2, g3, g4, g5, a1, a2, a3, a4, a5, zh1, zh2, zh3, zh4, zh5, up2, c3t, c4n, hf8, i3_0, i3_1, i3_2, i3_3, i3_4, i3_5, i3_6, i3_10, i3_12, i3_15, i3_17, i3_19, i3_20, i3_21, i3_31, i3_139, i3_add, i3_mul, i3_sub, i3_dec, i3_div, i3_eq, i3_lt, i3_le, i3_nat, i3_in, i3_m1, i3_n0, i3_a1, i3_a3, i3_a31, nrem]
      have ew : pl_wn t l0 s cd ((n + 1) / 4) = pl_wn t l0 s cd (n / 4) + (if pl_ld t l0 cd (n / 4 + 1) % 2 = s then 1 else 0) := by
        have e : (n + 1) / 4 = n / 4 + 1 := by omega
        rw [e, pl_wn_s]
      have fin : ∀ w : Nat, w = pl_wn t l0 s cd ((n + 1) / 4) → post (pI (pI u0 3 (n + 1) (i3 (pl_ld t l0 cd (n / 4 + 1)))) 4 (n + 1) (i3 w)) := by
        intro w hw
        refine h _ ⟨fx_pI (fx_pI cx (by decide)) (by decide), fun i hi => ⟨?_, ?_, ?_⟩⟩ ⟨fun i hi => ?_, fun j hj => ?_, fun j hj => ?_, ?_⟩
        · rw [a2 (by decide), a1, up2 hi, c3, up2 hi]
        · rw [a1, up2 hi, a2 (by decide), c4, up2 hi]
        · rw [a2 (by decide), a2 (by decide), c5, up2 hi]
        · rw [a2 (by decide), a2 (by decide), c2]; exact p2' i hi
        · rw [a2 (by decide), a1]
          by_cases hjn : j = n + 1
          · subst hjn; rw [up1]; congr 1; unfold pl_tn
            have e : (n + 1) / 4 = n / 4 + 1 := by omega
            have e' : (n + 1) % 4 = 0 := by omega
            rw [e, e']; omega
          · rw [up2 hjn, c3, up2 hjn]; exact p3 j (by omega)
        · rw [a1, a2 (by decide)]
          by_cases hjn : j = n + 1
          · subst hjn; rw [up1, hw]
          · rw [up2 hjn, c4, up2 hjn]; exact p4 j (by omega)
        · rw [a2 (by decide), a2 (by decide), c5]; exact g5 _ hor
      refine ⟨by omega, by omega, by omega, fun hy => ⟨by omega, by omega, fin _ ?_⟩, fun hy => ⟨by omega, by omega, fin _ ?_⟩⟩
      · rw [ew, if_neg (by omega)]; rfl
      · rw [ew, if_pos (by omega)]
    · rw [i3_lt (by omega) (by omega)] at hx; omega
theorem s_rd {post : ZS → Prop} (hT : qmT v bd dc) (ht : t = (bd - 3) % 5) (hs : s = dc % 2) (hl : l0 = (dc + 1) % 4) (hm : fI v 5 = i3 n) (hn : n ≤ 20) (h2 : ∀ i, i < n → cd i < 20 ∧ aI v 2 i = i3 (cd i)) (h5 : aI v 5 0 = i3 0) (h : ∀ v', fx [] [] [3, 4, 5] [] v v' → qmP v' t l0 s cd n → post v') : w_m_readCards v post := by
  have hl0 : l0 < 4 := by omega
  have st : ∀ (f k : Nat) (v' : ZS), f + k = n → fx [] [] [3, 4, 5] [] v v' → qmP v' t l0 s cd k → b_m_readCards_23 post (f + 1) (i3 k) v' := by
    intro f
    induction f with
    | zero =>
      intro k v' hfk hx hP
      have e : k = n := by omega
      subst e
      unfold b_m_readCards_23
      rw [hx.1 5 (by decide), hm, i3_le (by omega) (by omega)]
      exact ⟨fun _ => h v' hx hP, fun hy => absurd (Nat.le_refl _) hy⟩
    | succ f ih =>
      intro k v' hfk hx hP
      unfold b_m_readCards_23
      rw [hx.1 5 (by decide), hm, i3_le (by omega) (by omega)]
      refine ⟨fun hy => by omega, fun _ => s_go (bd := bd) (dc := dc) ⟨by rw [hx.1 6 (by decide)]; exact hT.1, by rw [hx.1 8 (by decide)]; exact hT.2.1, hT.2.2⟩ ht hs hl0 (by omega) hP (h2 k (by omega)).1 (by rw [hx.2.2.1 2 (by decide)]; exact (h2 k (by omega)).2) (fun v2 hq hP2 => ?_)⟩
      rw [i3_1, i3_add]
      exact ih (k + 1) v2 (by omega) (fx_tr hx hq.1) hP2
  have e0 : Int32.toNatClampNeg 0 = 0 := rfl
  unfold w_m_readCards
  rw [e0]
  refine ⟨by unfold vp_in; decide, by unfold vp_in; decide, n + 1, st n 0 _ (by omega) (fx_pI (fx_pI fx_rf (by decide)) (by decide)) ⟨fun i hi => by omega, fun j hj => ?_, fun j hj => ?_, fun j hj c => ?_⟩⟩
  · have e : j = 0 := by omega
    subst e
    rw [a2 (by decide), a1, up1, hT.2.1, i3_1, i3_add, i3_3, i3_a3]
    congr 1
    show (dc + 1) % 4 = (l0 + 0) % 4
    omega
  · have e : j = 0 := by omega
    subst e
    rw [a1, up1]; rfl
  · have e : j = 0 := by omega
    subst e
    rw [a2 (by decide), a2 (by decide), h5, bt_0]
    exact ⟨fun hh => (by cases hh), fun ⟨i, hi, _⟩ => by omega⟩
theorem s_rd0 {post : ZS → Prop} (hm : fI v 5 = i3 0) (h : ∀ v', fx [] [] [3, 4] [] v v' → post v') : w_m_readCards v post := by
  unfold w_m_readCards
  refine ⟨by unfold vp_in; decide, by unfold vp_in; decide, 1, ?_⟩
  unfold b_m_readCards_23
  refine ⟨fun _ => h _ (fx_pI (fx_pI fx_rf (by decide)) (by decide)), fun hy => absurd ?_ hy⟩
  rw [f4, f4, hm]; decide
theorem s_mholds (hO : ∀ c, c < 20 → aI v 0 c = i3 (ow c)) (h4 : ∀ c, c < 20 → ow c < 4) (hn : n ≤ 20) (hG : ∀ c, bt (aI v 5 n) c = true ↔ ∃ i, i < n ∧ cd i = c) {p c : Nat} (hp : p < 4) (hc : c < 20) (h1 : (ow c = p ∧ ∀ i, i < n → cd i ≠ c) → post 1 v) (h0 : ¬ (ow c = p ∧ ∀ i, i < n → cd i ≠ c) → post 0 v) : w_m_holds (i3 p) (i3 c) (i3 n) v post := by
  have hoc := h4 c hc
  simp (disch := omega) only [b_m_holds_28, b_m_holds_27, w_m_holds, hO c hc, i3_0, i3_1, i3_2, i3_3, i3_4, i3_5, i3_6, i3_10, i3_12, i3_15, i3_17, i3_19, i3_20, i3_21, i3_31, i3_139, i3_add, i3_mul, i3_sub, i3_dec, i3_div, i3_eq, i3_lt, i3_le, i3_nat, i3_in, i3_m1, i3_n0, i3_a1, i3_a3, i3_a31, nrem, Nat.mod_eq_of_lt (show c < 32 by omega), bt_at0 (x := aI v 5 n) (show c < 32 by omega)]
  refine ⟨hc, fun hx => ⟨Or.inl trivial, h0 (fun hh => hx hh.1)⟩, fun hx => ⟨by omega, fun hy => ⟨Or.inl trivial, h0 (fun hh => hy ?_)⟩, fun hy => ⟨Or.inr trivial, h1 ⟨hx, fun i hi he => ?_⟩⟩⟩⟩
  · apply Bool.eq_false_iff.mpr
    intro hb
    obtain ⟨i, hi, he⟩ := (hG c).mp hb
    exact hh.2 i hi he
  · rw [(hG c).mpr ⟨i, hi, he⟩] at hy; cases hy
/-- whether the suit that was led allows the card -/
def pl_fo (ow : Nat → Nat) (t l0 : Nat) (cd : Nat → Nat) (n c : Nat) : Prop := n % 4 = 0 ∨ c / 5 = cd (n - n % 4) / 5 ∨ ∀ k, k < 20 → k / 5 = cd (n - n % 4) / 5 → ow k = pl_tn t l0 cd n → ∃ i, i < n ∧ cd i = k
theorem s_fol (hO : ∀ c, c < 20 → aI v 0 c = i3 (ow c)) (h4 : ∀ c, c < 20 → ow c < 4) (hn : n ≤ 20) (hP : qmP v t l0 s cd n) {c : Nat} (hc : c < 20) (h1 : pl_fo ow t l0 cd n c → post 1 v) (h0 : ¬ pl_fo ow t l0 cd n c → post 0 v) : w_m_follows (i3 c) (i3 n) v post := by
  obtain ⟨p2, p3, p4, p5⟩ := hP
  have htn := pl_tn_lt (t := t) (l0 := l0) (cd := cd) (n := n)
  unfold w_m_follows
  have e4 : i3 n - i3 n / 4 * 4 = i3 (n % 4) := by
    simp (disch := omega) only [i3_0, i3_1, i3_2, i3_3, i3_4, i3_5, i3_6, i3_10, i3_12, i3_15, i3_17, i3_19, i3_20, i3_21, i3_31, i3_139, i3_add, i3_mul, i3_sub, i3_dec, i3_div, i3_eq, i3_lt, i3_le, i3_nat, i3_in, i3_m1, i3_n0, i3_a1, i3_a3, i3_a31, nrem]
  rw [e4, i3_0, i3_eq (by omega) (by omega)]
  refine ⟨fun hx => ?_, fun hx => h1 (Or.inl hx)⟩
  have p2l := p2 (n - n % 4) (by omega)
  rw [i3_sub (by omega), i3_in (by omega), i3_nat (by omega), p2l.2, i3_5, i3_div (by omega) (by omega), i3_mul]
  refine ⟨by omega, 6, ?_⟩
  generalize hL : cd (n - n % 4) / 5 = L
  have hL4 : L < 4 := by omega
  unfold pl_fo at h1 h0
  rw [hL] at h1 h0
  have st : ∀ f k q : Nat, f + k = 5 → ((q = 0 ∧ ∀ x, 5 * L ≤ x → x < 5 * L + k → ¬ (ow x = pl_tn t l0 cd n ∧ ∀ i, i < n → cd i ≠ x)) ∨ (q = 1 ∧ ∃ x, 5 * L ≤ x ∧ x < 5 * L + 5 ∧ (ow x = pl_tn t l0 cd n ∧ ∀ i, i < n → cd i ≠ x))) → b_m_follows_29 post (f + 1) (i3 c) (i3 n) (i3 L) (i3 q) (i3 (5 * L + k)) v := by
    intro f
    induction f with
    | zero =>
      intro k q hfk hq
      have e : k = 5 := by omega
      subst e
      have hq1 : q ≤ 1 := by omega
      unfold b_m_follows_29
      simp (disch := omega) only [b_m_follows_90, b_m_follows_85, b_m_follows_65, b_m_follows_60, w_m_follows, i3_0, i3_1, i3_2, i3_3, i3_4, i3_5, i3_6, i3_10, i3_12, i3_15, i3_17, i3_19, i3_20, i3_21, i3_31, i3_139, i3_add, i3_mul, i3_sub, i3_dec, i3_div, i3_eq, i3_lt, i3_le, i3_nat, i3_in, i3_m1, i3_n0, i3_a1, i3_a3, i3_a31, nrem]
      refine ⟨fun _ => ⟨fun hy => ⟨Or.inr trivial, h1 (Or.inr (Or.inl hy))⟩, fun hy => ⟨fun hz => ⟨Or.inl trivial, h0 ?_⟩, fun hz => ⟨Or.inr trivial, h1 (Or.inr (Or.inr ?_))⟩⟩⟩, fun hy => absurd (Nat.le_refl _) hy⟩
      · rcases hq with hq | ⟨-, x, x1, x2, x3, x4⟩
        · omega
        · rintro (hh | hh | hh)
          · exact hx hh
          · exact hy hh
          · obtain ⟨i, hi, he⟩ := hh x (by omega) (by omega) x3
            exact x4 i hi he
      · rcases hq with ⟨-, hq⟩ | hq
        · intro x x1 x2 x3
          apply Classical.byContradiction
          intro hno
          exact hq x (by omega) (by omega) ⟨x3, fun i hi he => hno ⟨i, hi, he⟩⟩
        · omega
    | succ f ih =>
      intro k q hfk hq
      have hq1 : q ≤ 1 := by omega
      unfold b_m_follows_29
      simp (disch := omega) only [i3_0, i3_1, i3_2, i3_3, i3_4, i3_5, i3_6, i3_10, i3_12, i3_15, i3_17, i3_19, i3_20, i3_21, i3_31, i3_139, i3_add, i3_mul, i3_sub, i3_dec, i3_div, i3_eq, i3_lt, i3_le, i3_nat, i3_in, i3_m1, i3_n0, i3_a1, i3_a3, i3_a31, nrem, p3 n (Nat.le_refl _)]
      refine ⟨fun hy => by omega, fun _ => ⟨fun hz => ?_, fun hz => ⟨by omega, ?_⟩⟩⟩
      · unfold b_m_follows_60 b_m_follows_65
        rw [i3_1, i3_add]
        refine ih (k + 1) 1 (by omega) ?_
        rcases hq with hq | hq
        · omega
        · exact Or.inr ⟨rfl, hq.2⟩
      · refine s_mholds (cd := cd) (ow := ow) hO h4 hn (p5 n (Nat.le_refl _)) htn (by omega) (fun hh => ⟨fun h => absurd h (by decide), fun _ => ?_⟩) (fun hh => ⟨fun _ => ?_, fun h => absurd rfl h⟩)
        · unfold b_m_follows_60 b_m_follows_65
          rw [i3_1, i3_add]
          exact ih (k + 1) 1 (by omega) (Or.inr ⟨rfl, 5 * L + k, by omega, by omega, hh⟩)
        · unfold b_m_follows_65
          rw [i3_1, i3_add]
          refine ih (k + 1) 0 (by omega) (Or.inl ⟨rfl, fun x x1 x2 => ?_⟩)
          rcases hq with ⟨-, hq⟩ | hq
          · by_cases hxk : x = 5 * L + k
            · subst hxk; exact hh
            · exact hq x x1 (by omega)
          · omega
  exact st 5 0 0 (by omega) (Or.inl ⟨rfl, fun x x1 x2 => by omega⟩)
theorem pl_lg_iff {c : Nat} (hc : c < 20) : pl_lg ow t l0 cd n c ↔ (ow c = pl_tn t l0 cd n ∧ ∀ i, i < n → cd i ≠ c) ∧ pl_fo ow t l0 cd n c :=
  ⟨fun ⟨_, h2, h3, h4⟩ => ⟨⟨h2, h3⟩, h4⟩, fun ⟨⟨h2, h3⟩, h4⟩ => ⟨hc, h2, h3, h4⟩⟩
theorem s_nt (hO : ∀ c, c < 20 → aI v 0 c = i3 (ow c)) (h4 : ∀ c, c < 20 → ow c < 4) (hn : n < 20) (hP : qmP v t l0 s cd n) {l : Nat} (hl : l ≤ 20) (hk : aI v 6 n = i3 l) (h : ∀ c, l ≤ c → c ≤ 20 → (∀ c', l ≤ c' → c' < c → ¬ pl_lg ow t l0 cd n c') → (c < 20 → pl_lg ow t l0 cd n c) → post (i3 c) v) : w_m_nextTry (i3 n) v post := by
  have htn := pl_tn_lt (t := t) (l0 := l0) (cd := cd) (n := n)
  obtain ⟨p2, p3, p4, p5⟩ := id hP
  have st : ∀ f c : Nat, f + c = 20 → l ≤ c → (∀ c', l ≤ c' → c' < c → ¬ pl_lg ow t l0 cd n c') → b_m_nextTry_7 post (f + 1) (i3 n) (i3 c) v := by
    intro f
    induction f with
    | zero =>
      intro c hfc hlc hno
      have e : c = 20 := by omega
      subst e
      unfold b_m_nextTry_7
      exact ⟨fun _ => h 20 hl (Nat.le_refl _) hno (fun hh => by omega), fun hy => absurd (by decide) hy⟩
    | succ f ih =>
      intro c hfc hlc hno
      have hc : c < 20 := by omega
      have nxt : ¬ pl_lg ow t l0 cd n c → b_m_nextTry_37 (b_m_nextTry_7 post (f + 1)) post (i3 n) (i3 c) v := by
        intro hn'
        unfold b_m_nextTry_37
        rw [i3_1, i3_add]
        refine ih (c + 1) (by omega) (by omega) (fun c' h1 h2 => ?_)
        by_cases he : c' = c
        · subst he; exact hn'
        · exact hno c' h1 (by omega)
      unfold b_m_nextTry_7
      rw [i3_20, i3_le (by omega) (by omega), i3_in (by omega), i3_nat (by omega), p3 n (Nat.le_refl _)]
      refine ⟨fun hy => by omega, fun _ => ⟨by omega, s_mholds (cd := cd) (ow := ow) hO h4 (by omega) (p5 n (Nat.le_refl _)) htn hc (fun hh => ⟨fun h => absurd h (by decide), fun _ => ?_⟩) (fun hh => ⟨fun _ => nxt (fun hl => hh ((pl_lg_iff hc).mp hl).1), fun h => absurd rfl h⟩)⟩⟩
      refine s_fol hO h4 (by omega) hP hc (fun hf => ⟨fun _ => ?_, fun h => absurd h (by decide)⟩) (fun hf => ⟨fun h => absurd rfl h, fun _ => nxt (fun hl => hf ((pl_lg_iff hc).mp hl).2)⟩)
      exact h c hlc (by omega) hno (fun _ => (pl_lg_iff hc).mpr ⟨hh, hf⟩)
  unfold w_m_nextTry
  rw [i3_in (by omega), i3_nat (by omega), hk]
  exact ⟨by omega, 20 - l + 1, st (20 - l) l (by omega) (Nat.le_refl _) (fun c' h1 h2 => by omega)⟩
end MPl
