/-! the model's search -/
/-- cells of the levels below n are as they were -/
def qfr (n : Nat) (v v' : ZS) : Prop := fx [] [] [2, 3, 4, 5, 6, 7, 8, 9] [] v v' ∧ (∀ k, k ∈ [2, 6, 7, 8, 9] → ∀ i, i < n → aI v' k i = aI v k i) ∧ ∀ k, k ∈ [3, 4, 5] → ∀ i, i ≤ n → aI v' k i = aI v k i
theorem qfr_rf {n : Nat} {v : ZS} : qfr n v v := ⟨fx_rf, fun _ _ _ _ => rfl, fun _ _ _ _ => rfl⟩
theorem qfr_tr {n : Nat} {v v' v'' : ZS} (h1 : qfr n v v') (h2 : qfr n v' v'') : qfr n v v'' :=
  ⟨fx_tr h1.1 h2.1, fun k hk i hi => (h2.2.1 k hk i hi).trans (h1.2.1 k hk i hi), fun k hk i hi => (h2.2.2 k hk i hi).trans (h1.2.2 k hk i hi)⟩
theorem qfr_up {n : Nat} {v v' : ZS} (h : qfr (n + 1) v v') : qfr n v v' :=
  ⟨h.1, fun k hk i hi => h.2.1 k hk i (by omega), fun k hk i hi => h.2.2 k hk i (by omega)⟩
theorem qfr_pI {n k i : Nat} {v v' : ZS} {x : Int32} (h : qfr n v v') (hk : (k ∈ [2, 6, 7, 8, 9] ∧ n ≤ i) ∨ (k ∈ [3, 4, 5] ∧ n < i)) : qfr n v (pI v' k i x) := by
  refine ⟨fx_pI h.1 ?_, fun k' hk' i' hi' => ?_, fun k' hk' i' hi' => ?_⟩
  · rcases hk with ⟨hk, -⟩ | ⟨hk, -⟩ <;> simp only [List.mem_cons, List.not_mem_nil, or_false] at hk ⊢ <;> omega
  · by_cases he : k' = k
    · subst he
      rcases hk with ⟨hk, hi⟩ | ⟨hk, hi⟩
      · rw [a1, up2 (by omega)]; exact h.2.1 k' hk' i' hi'
      · simp only [List.mem_cons, List.not_mem_nil, or_false] at hk hk'; omega
    · rw [a2 he]; exact h.2.1 k' hk' i' hi'
  · by_cases he : k' = k
    · subst he
      rcases hk with ⟨hk, hi⟩ | ⟨hk, hi⟩
      · simp only [List.mem_cons, List.not_mem_nil, or_false] at hk hk'; omega
      · rw [a1, up2 (by omega)]; exact h.2.2 k' hk' i' hi'
    · rw [a2 he]; exact h.2.2 k' hk' i' hi'
theorem qfr_go {n : Nat} {v v' v'' : ZS} (h : qfr n v v') (hq : qgo n v' v'') : qfr n v v'' := by
  refine ⟨fx_tr h.1 (fx_mo hq.1 (by decide) (by decide) (by decide) (by decide)), fun k hk i hi => ?_, fun k hk i hi => ?_⟩
  · rw [hq.1.2.2.1 k (by simp only [List.mem_cons, List.not_mem_nil, or_false] at hk ⊢; omega)]; exact h.2.1 k hk i hi
  · have := hq.2 i (by omega)
    have hk' := hk
    simp only [List.mem_cons, List.not_mem_nil, or_false] at hk
    rcases hk with rfl | rfl | rfl
    · rw [this.1]; exact h.2.2 _ hk' i hi
    · rw [this.2.1]; exact h.2.2 _ hk' i hi
    · rw [this.2.2]; exact h.2.2 _ hk' i hi
theorem qmP_congr {v : ZS} {t l0 s n : Nat} {cd cd' : Nat → Nat} (h : ∀ i, i < n → cd i = cd' i) (hP : qmP v t l0 s cd n) : qmP v t l0 s cd' n := by
  obtain ⟨p2, p3, p4, p5⟩ := hP
  refine ⟨fun i hi => by rw [← h i hi]; exact p2 i hi, fun j hj => by rw [p3 j hj, pl_tn_congr (fun i hi => h i (by omega))], fun j hj => by rw [p4 j hj, pl_wn_congr (fun i hi => h i (by omega))], fun j hj c => ?_⟩
  rw [p5 j hj c]
  exact ⟨fun ⟨i, hi, he⟩ => ⟨i, hi, by rw [← h i (by omega)]; exact he⟩, fun ⟨i, hi, he⟩ => ⟨i, hi, by rw [h i (by omega)]; exact he⟩⟩
theorem qmP_fr {v v' : ZS} {t l0 s n : Nat} {cd : Nat → Nat} (hq : qfr n v v') (hP : qmP v t l0 s cd n) : qmP v' t l0 s cd n := by
  obtain ⟨p2, p3, p4, p5⟩ := hP
  refine ⟨fun i hi => by rw [hq.2.1 2 (by decide) i hi]; exact p2 i hi, fun j hj => by rw [hq.2.2 3 (by decide) j hj]; exact p3 j hj, fun j hj => by rw [hq.2.2 4 (by decide) j hj]; exact p4 j hj, fun j hj c => by rw [hq.2.2 5 (by decide) j hj]; exact p5 j hj c⟩
theorem qmP_fx {v v' : ZS} {t l0 s n : Nat} {cd : Nat → Nat} {fi fj ai aj : List Nat} (hq : fx fi fj ai aj v v') (h2 : 2 ∉ ai) (h3 : 3 ∉ ai) (h4 : 4 ∉ ai) (h5 : 5 ∉ ai) (hP : qmP v t l0 s cd n) : qmP v' t l0 s cd n := by
  obtain ⟨p2, p3, p4, p5⟩ := hP
  exact ⟨by rw [hq.2.2.1 2 h2]; exact p2, by rw [hq.2.2.1 3 h3]; exact p3, by rw [hq.2.2.1 4 h4]; exact p4, by rw [hq.2.2.1 5 h5]; exact p5⟩
section MSo
variable {v : ZS} {t l0 s n bd dc : Nat} {cd ow : Nat → Nat}
/-- everything that a search at the level n leans on -/
def qmS (v : ZS) (bd dc : Nat) (ow : Nat → Nat) (t l0 s : Nat) (cd : Nat → Nat) (n : Nat) : Prop := qmT v bd dc ∧ (∀ c, c < 20 → aI v 0 c = i3 (ow c)) ∧ qmP v t l0 s cd n
theorem qmS_fr {v' : ZS} (hq : qfr n v v') (h : qmS v bd dc ow t l0 s cd n) : qmS v' bd dc ow t l0 s cd n := by
  obtain ⟨⟨x1, x2, x3⟩, x4, x5⟩ := h
  exact ⟨⟨by rw [hq.1.1 6 (by decide)]; exact x1, by rw [hq.1.1 8 (by decide)]; exact x2, x3⟩, by rw [hq.1.2.2.1 0 (by decide)]; exact x4, qmP_fr hq x5⟩
theorem s_ours {post : Int32 → ZS → Prop} (hS : qmS v bd dc ow t l0 s cd n) (hs : s = dc % 2) (hn : n ≤ 20) (h1 : pl_tn t l0 cd n % 2 = s → post 1 v) (h0 : ¬ pl_tn t l0 cd n % 2 = s → post 0 v) : w_m_ours (i3 n) v post := by
  obtain ⟨⟨e6, e8, hb3, hb17, hd4⟩, hO, p2, p3, p4, p5⟩ := hS
  have htn := pl_tn_lt (t := t) (l0 := l0) (cd := cd) (n := n)
  simp (disch := omega) only [b_m_ours_22, w_m_ours, p3 n (Nat.le_refl _), e8, i3_0, i3_1, i3_2, i3_3, i3_4, i3_5, i3_6, i3_10, i3_12, i3_15, i3_17, i3_19, i3_20, i3_21, i3_31, i3_139, i3_add, i3_mul, i3_sub, i3_dec, i3_div, i3_eq, i3_lt, i3_le, i3_nat, i3_in, i3_m1, i3_n0, i3_a1, i3_a3, i3_a31, nrem]
  exact ⟨by omega, fun hx => ⟨Or.inl trivial, h0 (by omega)⟩, fun hx => ⟨Or.inr trivial, h1 (by omega)⟩⟩
theorem s_enter {post : ZS → Prop} (hS : qmS v bd dc ow t l0 s cd n) (hs : s = dc % 2) (hn : n ≤ 20) {lo hi : Int32} (h : ∀ x : Int32, (pl_tn t l0 cd n % 2 = s → x = -(i3 1)) → (¬ pl_tn t l0 cd n % 2 = s → x = i3 6) → post (pI (pI (pI (pI v 6 n (i3 0)) 8 n lo) 9 n hi) 7 n x)) : w_m_enter (i3 n) lo hi v post := by
  unfold w_m_enter
  rw [i3_in (by omega), i3_nat (by omega)]
  have hS' : qmS (pI (pI (pI v 6 n (i3 0)) 8 n lo) 9 n hi) bd dc ow t l0 s cd n := qmS_fr (n := n) (qfr_pI (qfr_pI (qfr_pI qfr_rf (Or.inl ⟨by decide, Nat.le_refl _⟩)) (Or.inl ⟨by decide, Nat.le_refl _⟩)) (Or.inl ⟨by decide, Nat.le_refl _⟩)) hS
  refine ⟨by omega, by omega, by omega, s_ours hS' hs hn (fun ho => ⟨fun hx => absurd hx (by decide), fun _ => ?_⟩) (fun ho => ⟨fun _ => ?_, fun hx => absurd rfl hx⟩)⟩
  · unfold b_m_enter_40
    rw [i3_in (by omega), i3_nat (by omega)]
    exact ⟨by omega, h _ (fun _ => rfl) (fun hn => absurd ho hn)⟩
  · unfold b_m_enter_40
    rw [i3_in (by omega), i3_nat (by omega)]
    exact ⟨by omega, h _ (fun hn => absurd hn ho) (fun _ => rfl)⟩
theorem s_tk1 {post : ZS → Prop} (hS : qmS v bd dc ow t l0 s cd n) (hs : s = dc % 2) (hn : n ≤ 20) (ho : pl_tn t l0 cd n % 2 = s) {x : Int32} (h : ∀ b2 lo2 k2 : Int32, b2 = (if x ≤ aI v 7 n then aI v 7 n else x) → lo2 = (if b2 ≤ aI v 8 n then aI v 8 n else b2) → k2 = (if lo2 < aI v 9 n then aI v 6 n else i3 20) → post (pI (pI (pI v 7 n b2) 8 n lo2) 6 n k2)) : w_m_take (i3 n) x v post := by
  unfold w_m_take
  refine s_ours hS hs hn (fun _ => ⟨fun hx => absurd hx (by decide), fun _ => ?_⟩) (fun hno => absurd ho hno)
  have in21 : vp_in (i3 n) 21 := (i3_in (by omega)).mpr (by omega)
  rw [i3_nat (by omega)]
  have e166 : ∀ (b2 lo2 : Int32), b2 = (if x ≤ aI v 7 n then aI v 7 n else x) → lo2 = (if b2 ≤ aI v 8 n then aI v 8 n else b2) → b_m_take_69 post (i3 n) lo2 (i3 n) (pI v 7 n b2) := by
    intro b2 lo2 e1 e2
    unfold b_m_take_69 b_m_take_135 b_m_take_166
    rw [i3_nat (by omega), a1, up1, a2 (by decide), a2 (by decide), a2 (by decide), a2 (by decide)]
    refine ⟨in21, in21, in21, fun hx => ⟨in21, in21, h b2 lo2 _ e1 e2 (by rw [if_pos hx])⟩, fun hx => ⟨in21, h b2 lo2 _ e1 e2 (by rw [if_neg hx]; rfl)⟩⟩
  have e33 : ∀ b2 : Int32, b2 = (if x ≤ aI v 7 n then aI v 7 n else x) → b_m_take_33 post (i3 n) b2 (i3 n) v := by
    intro b2 e1
    unfold b_m_take_33
    rw [i3_nat (by omega), a1, up1, a2 (by decide)]
    refine ⟨in21, in21, in21, fun hx => ⟨in21, e166 b2 _ e1 (by rw [if_pos hx])⟩, fun hx => ⟨in21, e166 b2 _ e1 (by rw [if_neg hx])⟩⟩
  exact ⟨in21, fun hx => ⟨in21, e33 _ (by rw [if_pos hx])⟩, fun hx => e33 _ (by rw [if_neg hx])⟩
theorem s_tk2 {post : ZS → Prop} (hS : qmS v bd dc ow t l0 s cd n) (hs : s = dc % 2) (hn : n ≤ 20) (ho : ¬ pl_tn t l0 cd n % 2 = s) {x : Int32} (h : ∀ b2 hi2 k2 : Int32, b2 = (if aI v 7 n ≤ x then aI v 7 n else x) → hi2 = (if aI v 9 n ≤ b2 then aI v 9 n else b2) → k2 = (if aI v 8 n < hi2 then aI v 6 n else i3 20) → post (pI (pI (pI v 7 n b2) 9 n hi2) 6 n k2)) : w_m_take (i3 n) x v post := by
  unfold w_m_take
  refine s_ours hS hs hn (fun hno => absurd hno ho) (fun _ => ⟨fun _ => ?_, fun hx => absurd rfl hx⟩)
  have in21 : vp_in (i3 n) 21 := (i3_in (by omega)).mpr (by omega)
  rw [i3_nat (by omega)]
  have e134 : ∀ (b2 hi2 : Int32), b2 = (if aI v 7 n ≤ x then aI v 7 n else x) → hi2 = (if aI v 9 n ≤ b2 then aI v 9 n else b2) → b_m_take_134 post (i3 n) hi2 (i3 n) (pI v 7 n b2) := by
    intro b2 hi2 e1 e2
    unfold b_m_take_134 b_m_take_135 b_m_take_166
    rw [i3_nat (by omega), a1, up1, a2 (by decide), a2 (by decide), a2 (by decide), a2 (by decide)]
    refine ⟨in21, in21, in21, fun hx => ⟨in21, in21, h b2 hi2 _ e1 e2 (by rw [if_pos hx])⟩, fun hx => ⟨in21, h b2 hi2 _ e1 e2 (by rw [if_neg hx]; rfl)⟩⟩
  have e98 : ∀ b2 : Int32, b2 = (if aI v 7 n ≤ x then aI v 7 n else x) → b_m_take_98 post (i3 n) b2 (i3 n) v := by
    intro b2 e1
    unfold b_m_take_98
    rw [i3_nat (by omega), a1, up1, a2 (by decide)]
    refine ⟨in21, in21, in21, fun hx => ⟨in21, e134 b2 _ e1 (by rw [if_pos hx])⟩, fun hx => ⟨in21, e134 b2 _ e1 (by rw [if_neg hx])⟩⟩
  exact ⟨in21, fun hx => ⟨in21, e98 _ (by rw [if_pos hx])⟩, fun hx => e98 _ (by rw [if_neg hx])⟩
end MSo
/-- the value behind a card -/
def qAc (ow : Nat → Nat) (t l0 s : Nat) (cd : Nat → Nat) (n c : Nat) (z : Int) : Prop := pl_A ow t l0 s z (20 - (n + 1)) (va_up cd n c) (n + 1)
/-- what a search with the window (lo, hi) says -/
def qR (ow : Nat → Nat) (t l0 s : Nat) (cd : Nat → Nat) (n : Nat) (lo hi b : Int) : Prop := (b < hi → ¬ pl_A ow t l0 s (b + 1) (20 - n) cd n) ∧ (lo < b → pl_A ow t l0 s b (20 - n) cd n)
/-- a node under way: cards below l were tried -/
def qN (ow : Nat → Nat) (t l0 s : Nat) (cd : Nat → Nat) (n : Nat) (lo0 hi0 : Int) (l : Nat) (b lo hi : Int) : Prop := lo0 < hi0 ∧
  ((pl_tn t l0 cd n % 2 = s ∧ hi = hi0 ∧ ((lo = lo0 ∧ b ≤ lo0) ∨ (lo = b ∧ lo0 ≤ b)) ∧ (lo0 < b → ∃ c, pl_lg ow t l0 cd n c ∧ qAc ow t l0 s cd n c b) ∧ ((lo < hi ∧ ∀ c, pl_lg ow t l0 cd n c → c < l → ¬ qAc ow t l0 s cd n c (b + 1)) ∨ (l = 20 ∧ hi ≤ lo))) ∨
   (¬ pl_tn t l0 cd n % 2 = s ∧ lo = lo0 ∧ ((hi = hi0 ∧ hi0 ≤ b) ∨ (hi = b ∧ b ≤ hi0)) ∧ (b < hi0 → ∃ c, pl_lg ow t l0 cd n c ∧ ¬ qAc ow t l0 s cd n c (b + 1)) ∧ ((lo < hi ∧ ∀ c, pl_lg ow t l0 cd n c → c < l → qAc ow t l0 s cd n c b) ∨ (l = 20 ∧ hi ≤ lo))))
section MSp
variable {ow cd : Nat → Nat} {t l0 s n l : Nat} {lo0 hi0 b lo hi : Int}
theorem qN_end (hn : n < 20) (h : qN ow t l0 s cd n lo0 hi0 l b lo hi) (hno : ∀ c, pl_lg ow t l0 cd n c → c < l) : qR ow t l0 s cd n lo0 hi0 b := by
  have e20 : 20 - n = (20 - (n + 1)) + 1 := by omega
  unfold qR
  rw [e20]
  unfold pl_A
  obtain ⟨hw, ⟨ho, hhi, hlo, hb, hc⟩ | ⟨ho, hlo, hhi, hb, hc⟩⟩ := h
  · refine ⟨fun hlt hA => ?_, fun hlt => ⟨fun _ => hb hlt, fun hx => absurd ho hx⟩⟩
    obtain ⟨c, hl, hA⟩ := hA.1 ho
    rcases hc with ⟨h1, h2⟩ | ⟨h1, h2⟩
    · exact h2 c hl (hno c hl) hA
    · omega
  · refine ⟨fun hlt hA => ?_, fun hlt => ⟨fun hx => absurd hx ho, fun _ c hl => ?_⟩⟩
    · obtain ⟨c, hl, hN⟩ := hb hlt
      exact hN (hA.2 ho c hl)
    · rcases hc with ⟨h1, h2⟩ | ⟨h1, h2⟩
      · exact h2 c hl (hno c hl)
      · omega
theorem qAc_mono {c : Nat} {z z' : Int} (hz : z' ≤ z) (h : qAc ow t l0 s cd n c z) : qAc ow t l0 s cd n c z' := pl_A_mono hz h
/-- a child's value on our own turn -/
theorem qN_take1 {c : Nat} {x b' lo' : Int} {l' : Nat} (h : qN ow t l0 s cd n lo0 hi0 l b lo hi) (ho : pl_tn t l0 cd n % 2 = s) (hlc : l ≤ c) (hl20 : l < 20) (hl : pl_lg ow t l0 cd n c) (hno : ∀ c', l ≤ c' → c' < c → ¬ pl_lg ow t l0 cd n c')
    (hx1 : x < hi → ¬ qAc ow t l0 s cd n c (x + 1)) (hx2 : lo < x → qAc ow t l0 s cd n c x) (eb : (x ≤ b ∧ b' = b) ∨ (b < x ∧ b' = x)) (el : (b' ≤ lo ∧ lo' = lo) ∨ (lo < b' ∧ lo' = b')) (ek : (lo' < hi ∧ l' = c + 1) ∨ (hi ≤ lo' ∧ l' = 20)) : qN ow t l0 s cd n lo0 hi0 l' b' lo' hi := by
  obtain ⟨hw, ⟨-, hhi, hlo, hb, hc⟩ | ⟨ho', -⟩⟩ := h
  · have hc' : lo < hi ∧ ∀ c, pl_lg ow t l0 cd n c → c < l → ¬ qAc ow t l0 s cd n c (b + 1) := by
      rcases hc with hc | hc
      · exact hc
      · omega
    refine ⟨hw, Or.inl ⟨ho, hhi, by omega, fun hlt => ?_, ?_⟩⟩
    · rcases eb with ⟨e1, e2⟩ | ⟨e1, e2⟩
      · rw [e2] at hlt ⊢; exact hb hlt
      · rw [e2] at hlt ⊢; exact ⟨c, hl, hx2 (by omega)⟩
    · rcases ek with ⟨k1, k2⟩ | ⟨k1, k2⟩
      · refine Or.inl ⟨k1, fun c' hl' hlt hA => ?_⟩
        by_cases he : c' = c
        · subst he; exact hx1 (by omega) (qAc_mono (by omega) hA)
        · by_cases hll : c' < l
          · exact hc'.2 c' hl' hll (qAc_mono (by omega) hA)
          · exact hno c' (by omega) (by omega) hl'
      · exact Or.inr ⟨k2, k1⟩
  · exact absurd ho ho'
theorem qN_take2 {c : Nat} {x b' hi' : Int} {l' : Nat} (h : qN ow t l0 s cd n lo0 hi0 l b lo hi) (ho : ¬ pl_tn t l0 cd n % 2 = s) (hlc : l ≤ c) (hl20 : l < 20) (hl : pl_lg ow t l0 cd n c) (hno : ∀ c', l ≤ c' → c' < c → ¬ pl_lg ow t l0 cd n c')
    (hx1 : x < hi → ¬ qAc ow t l0 s cd n c (x + 1)) (hx2 : lo < x → qAc ow t l0 s cd n c x) (eb : (b ≤ x ∧ b' = b) ∨ (x < b ∧ b' = x)) (el : (hi ≤ b' ∧ hi' = hi) ∨ (b' < hi ∧ hi' = b')) (ek : (lo < hi' ∧ l' = c + 1) ∨ (hi' ≤ lo ∧ l' = 20)) : qN ow t l0 s cd n lo0 hi0 l' b' lo hi' := by
  obtain ⟨hw, ⟨ho', -⟩ | ⟨-, hlo, hhi, hb, hc⟩⟩ := h
  · exact absurd ho' ho
  · have hc' : lo < hi ∧ ∀ c, pl_lg ow t l0 cd n c → c < l → qAc ow t l0 s cd n c b := by
      rcases hc with hc | hc
      · exact hc
      · omega
    refine ⟨hw, Or.inr ⟨ho, hlo, by omega, fun hlt => ?_, ?_⟩⟩
    · rcases eb with ⟨e1, e2⟩ | ⟨e1, e2⟩
      · rw [e2] at hlt ⊢; exact hb hlt
      · rw [e2] at hlt ⊢; exact ⟨c, hl, hx1 (by omega)⟩
    · rcases ek with ⟨k1, k2⟩ | ⟨k1, k2⟩
      · refine Or.inl ⟨k1, fun c' hl' hlt => ?_⟩
        by_cases he : c' = c
        · subst he; exact qAc_mono (by omega) (hx2 (by omega))
        · by_cases hll : c' < l
          · exact qAc_mono (by omega) (hc'.2 c' hl' hll)
          · exact absurd hl' (hno c' (by omega) (by omega))
      · exact Or.inr ⟨k2, k1⟩
end MSp
