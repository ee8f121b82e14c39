/-! the model's search, from node to node -/
def qNL (post : Int32 → ZS → Prop) (bd dc : Nat) (ow : Nat → Nat) (t l0 s st k j F : Nat) : Prop :=
  ∀ (n : Nat) (cd : Nat → Nat) (lo0 hi0 b lo hi : Int) (l : Nat) (v : ZS) (f' : Nat), n + k = 20 → st ≤ n → 20 - l ≤ j → -1 ≤ lo0 → hi0 ≤ 6 → qmS v bd dc ow t l0 s cd n →
    (n < 20 → aI v 6 n = i3 l ∧ l ≤ 20 ∧ (aI v 7 n).toInt = b ∧ (aI v 8 n).toInt = lo ∧ (aI v 9 n).toInt = hi ∧ qN ow t l0 s cd n lo0 hi0 l b lo hi) →
    (∀ (v' : ZS) (x : Int32), qfr n v v' → (n < 20 → aI v' 7 n = x) → (n = 20 → aI v' 4 20 = x) → qR ow t l0 s cd n lo0 hi0 x.toInt → ∀ g, f' ≤ g → b_m_solveFrom_32 (b_m_solveFrom_12 post g) post (i3 st) (i3 n) 1 20 v') →
    ∀ g, F + f' ≤ g → b_m_solveFrom_12 post g (i3 st) (i3 n) 1 v
section MSl
variable {post : Int32 → ZS → Prop} {bd dc t l0 s st : Nat} {ow : Nat → Nat}
theorem qNL_0 : qNL post bd dc ow t l0 s st 0 20 1 := by
  intro n cd lo0 hi0 b lo hi l v f' hn hst hl hlo hhi hS _ hcont g hg
  have e : n = 20 := by omega
  subst e
  obtain ⟨g', rfl⟩ : ∃ g', g = g' + 1 := ⟨g - 1, by omega⟩
  have hw := pl_wn_le (t := t) (l0 := l0) (s := s) (cd := cd) (20 / 4)
  have e4 := hS.2.2.2.2.1 20 (Nat.le_refl _)
  unfold b_m_solveFrom_12
  refine ⟨fun hx => absurd hx (by decide), fun _ => ⟨fun hx => absurd rfl hx, fun _ => ?_⟩⟩
  refine hcont v _ qfr_rf (fun hx => by omega) (fun _ => rfl) ?_ g' (by omega)
  rw [e4, i3_z (by omega)]
  unfold qR
  refine ⟨fun _ hA => ?_, fun _ => ?_⟩
  · have e0 : 20 - 20 = 0 := rfl
    rw [e0] at hA
    unfold pl_A at hA
    omega
  · have e0 : 20 - 20 = 0 := rfl
    rw [e0]
    unfold pl_A
    exact Int.le_refl _
theorem qNL_s (ht : t = (bd - 3) % 5) (hs : s = dc % 2) (hl0 : l0 < 4) (h4 : ∀ c, c < 20 → ow c < 4) {k Fk : Nat} (ihk : qNL post bd dc ow t l0 s st k 20 Fk) : ∀ j, ∃ G, qNL post bd dc ow t l0 s st (k + 1) j G := by
  -- a node that has no card left
  have fin : ∀ (n : Nat) (cd : Nat → Nat) (lo0 hi0 b lo hi : Int) (l : Nat) (v : ZS) (f' g : Nat), n + (k + 1) = 20 → (aI v 7 n).toInt = b → qN ow t l0 s cd n lo0 hi0 l b lo hi → (∀ c, pl_lg ow t l0 cd n c → c < l) → (∀ (v' : ZS) (x : Int32), qfr n v v' → (n < 20 → aI v' 7 n = x) → (n = 20 → aI v' 4 20 = x) → qR ow t l0 s cd n lo0 hi0 x.toInt → ∀ g, f' ≤ g → b_m_solveFrom_32 (b_m_solveFrom_12 post g) post (i3 st) (i3 n) 1 20 v') → f' ≤ g → b_m_solveFrom_32 (b_m_solveFrom_12 post g) post (i3 st) (i3 n) 1 20 v := by
    intro n cd lo0 hi0 b lo hi l v f' g hn hb hN hno hcont hg
    refine hcont v (aI v 7 n) qfr_rf (fun _ => rfl) (fun hx => by omega) ?_ g hg
    rw [hb]
    exact qN_end (by omega) hN hno
  intro j
  induction j with
  | zero =>
    refine ⟨1, ?_⟩
    intro n cd lo0 hi0 b lo hi l v f' hn hst hl hlo hhi hS hnd hcont g hg
    obtain ⟨d6, dl, d7, d8, d9, hN⟩ := hnd (by omega)
    have el : l = 20 := by omega
    subst el
    obtain ⟨g', rfl⟩ : ∃ g', g = g' + 1 := ⟨g - 1, by omega⟩
    unfold b_m_solveFrom_12
    refine ⟨fun hx => absurd hx (by decide), fun _ => ⟨fun _ => ?_, fun hx => ?_⟩⟩
    · refine s_nt hS.2.1 h4 (by omega) hS.2.2 (Nat.le_refl _) d6 (fun c h1 h2 h3 h5 => ?_)
      have ec : c = 20 := by omega
      subst ec
      exact fin n cd lo0 hi0 b lo hi 20 v f' g' hn d7 hN (fun c hl => hl.1) hcont (by omega)
    · rw [i3_20, i3_eq (by omega) (by omega)] at hx; omega
  | succ j ihj =>
    obtain ⟨Gj, ihj⟩ := ihj
    refine ⟨1 + Fk + Gj, ?_⟩
    intro n cd lo0 hi0 b lo hi l v f' hn hst hl hlo hhi hS hnd hcont g hg
    obtain ⟨d6, dl, d7, d8, d9, hN⟩ := hnd (by omega)
    obtain ⟨g', rfl⟩ : ∃ g', g = g' + 1 := ⟨g - 1, by omega⟩
    unfold b_m_solveFrom_12
    refine ⟨fun hx => absurd hx (by decide), fun _ => ⟨fun _ => ?_, fun hx => ?_⟩⟩
    · refine s_nt hS.2.1 h4 (by omega) hS.2.2 dl d6 (fun c h1 h2 h3 h5 => ?_)
      by_cases hc20 : c = 20
      · subst hc20
        refine fin n cd lo0 hi0 b lo hi l v f' g' hn d7 hN (fun c hl => ?_) hcont (by omega)
        apply Classical.byContradiction
        intro hge
        exact h3 c (by omega) hl.1 hl
      · have hlg := h5 (by omega)
        have hwin : lo < hi ∧ lo0 ≤ lo ∧ hi ≤ hi0 := by
          obtain ⟨hw, ⟨-, e1, e2, -, e3⟩ | ⟨-, e1, e2, -, e3⟩⟩ := hN
          · rcases e3 with ⟨e3, -⟩ | ⟨e3, -⟩ <;> omega
          · rcases e3 with ⟨e3, -⟩ | ⟨e3, -⟩ <;> omega
        -- the card is tried
        have fr1 : qfr n v (pI (pI v 2 n (i3 c)) 6 n (i3 (c + 1))) := qfr_pI (qfr_pI qfr_rf (Or.inl ⟨by decide, Nat.le_refl _⟩)) (Or.inl ⟨by decide, Nat.le_refl _⟩)
        have hS1 := qmS_fr fr1 hS
        unfold b_m_solveFrom_32
        refine ⟨fun hx => ?_, fun _ => ?_⟩
        · rw [i3_20, i3_le (by omega) (by omega)] at hx; omega
        rw [i3_in (by omega), i3_in (by omega), i3_nat (by omega), i3_1, i3_add, i3_add]
        refine ⟨by omega, by omega, ?_⟩
        refine s_go (bd := bd) (dc := dc) (cd := va_up cd n c) hS1.1 ht hs hl0 (by omega) (qmP_congr (fun i hi => (va_up_n (by omega)).symm) hS1.2.2) (by rw [va_up_s]; exact hlg.1) (by rw [va_up_s, a2 (by decide), a1, up1]) (fun u4 hq4 hP4 => ?_)
        have fr4 : qfr n v u4 := qfr_go fr1 hq4
        have hS4 : qmS u4 bd dc ow t l0 s (va_up cd n c) (n + 1) := by
          have := qmS_fr fr4 hS
          exact ⟨this.1, this.2.1, hP4⟩
        have u48 : aI u4 8 n = aI v 8 n := by rw [hq4.1.2.2.1 8 (by decide), a2 (by decide), a2 (by decide)]
        have u49 : aI u4 9 n = aI v 9 n := by rw [hq4.1.2.2.1 9 (by decide), a2 (by decide), a2 (by decide)]
        have u47 : aI u4 7 n = aI v 7 n := by rw [hq4.1.2.2.1 7 (by decide), a2 (by decide), a2 (by decide)]
        have u46 : aI u4 6 n = i3 (c + 1) := by rw [hq4.1.2.2.1 6 (by decide), a1, up1]
        refine ⟨by omega, by omega, s_enter hS4 hs (by omega) (fun x6 hx1 hx2 => ?_)⟩
        rw [u48, u49]
        generalize hu6 : pI (pI (pI (pI u4 6 (n + 1) (i3 0)) 8 (n + 1) (aI v 8 n)) 9 (n + 1) (aI v 9 n)) 7 (n + 1) x6 = u6
        have fr6' : qfr (n + 1) u4 u6 := by
          rw [← hu6]
          exact qfr_pI (qfr_pI (qfr_pI (qfr_pI qfr_rf (Or.inl ⟨by decide, Nat.le_refl _⟩)) (Or.inl ⟨by decide, Nat.le_refl _⟩)) (Or.inl ⟨by decide, Nat.le_refl _⟩)) (Or.inl ⟨by decide, Nat.le_refl _⟩)
        have hS6 := qmS_fr fr6' hS4
        unfold b_m_solveFrom_135
        -- the search behind the card
        refine ihk (n + 1) (va_up cd n c) lo hi x6.toInt lo hi 0 u6 (Gj + f') (by omega) (by omega) (by omega) (by omega) (by omega) hS6 (fun _ => ⟨?_, by omega, ?_, ?_, ?_, ?_⟩) (fun v2 x hfr2 hx7 hx4 hRx g2 hg2 => ?_) g' (by omega)
        · rw [← hu6, a2 (by decide), a2 (by decide), a2 (by decide), a1, up1]
        · rw [← hu6, a1, up1]
        · rw [← hu6, a2 (by decide), a2 (by decide), a1, up1]; exact d8
        · rw [← hu6, a2 (by decide), a1, up1]; exact d9
        · have m1 : (-(i3 1)).toInt = -1 := rfl
          have m6 : (i3 6).toInt = 6 := rfl
          by_cases ho : pl_tn t l0 (va_up cd n c) (n + 1) % 2 = s
          · rw [hx1 ho, m1]
            exact ⟨hwin.1, Or.inl ⟨ho, rfl, by omega, fun hh => by omega, Or.inl ⟨hwin.1, fun c' _ hh => by omega⟩⟩⟩
          · rw [hx2 ho, m6]
            exact ⟨hwin.1, Or.inr ⟨ho, rfl, by omega, fun hh => by omega, Or.inl ⟨hwin.1, fun c' _ hh => by omega⟩⟩⟩
        · -- its value is taken
          have fr2 : qfr n v v2 := qfr_tr fr4 (qfr_tr (qfr_up fr6') (qfr_up hfr2))
          have hS2 := qmS_fr fr2 hS
          have v26 : aI v2 6 n = i3 (c + 1) := by rw [hfr2.2.1 6 (by decide) n (by omega), fr6'.2.1 6 (by decide) n (by omega)]; exact u46
          have v27 : (aI v2 7 n).toInt = b := by rw [hfr2.2.1 7 (by decide) n (by omega), fr6'.2.1 7 (by decide) n (by omega), u47]; exact d7
          have v28 : (aI v2 8 n).toInt = lo := by rw [hfr2.2.1 8 (by decide) n (by omega), fr6'.2.1 8 (by decide) n (by omega), u48]; exact d8
          have v29 : (aI v2 9 n).toInt = hi := by rw [hfr2.2.1 9 (by decide) n (by omega), fr6'.2.1 9 (by decide) n (by omega), u49]; exact d9
          have tk : b_m_solveFrom_122 (b_m_solveFrom_12 post g2) post (i3 st) (i3 (n + 1)) 1 x v2 := by
            unfold b_m_solveFrom_122 b_m_solveFrom_135
            have en : i3 (n + 1) - 1 = i3 n := by rw [i3_1, i3_sub (by omega)]; rfl
            rw [en]
            by_cases ho : pl_tn t l0 cd n % 2 = s
            · refine s_tk1 hS2 hs (by omega) ho (fun b2 lo2 k2 eb el ek => ?_)
              have fr3 : qfr n v2 (pI (pI (pI v2 7 n b2) 8 n lo2) 6 n k2) := qfr_pI (qfr_pI (qfr_pI qfr_rf (Or.inl ⟨by decide, Nat.le_refl _⟩)) (Or.inl ⟨by decide, Nat.le_refl _⟩)) (Or.inl ⟨by decide, Nat.le_refl _⟩)
              have eb' : (x.toInt ≤ b ∧ b2.toInt = b) ∨ (b < x.toInt ∧ b2.toInt = x.toInt) := by
                by_cases hh : x ≤ aI v2 7 n
                · rw [if_pos hh] at eb; rw [Int32.le_iff_toInt_le, v27] at hh; exact Or.inl ⟨hh, by rw [eb]; exact v27⟩
                · rw [if_neg hh] at eb; rw [Int32.le_iff_toInt_le, v27] at hh; exact Or.inr ⟨by omega, by rw [eb]⟩
              have el' : (b2.toInt ≤ lo ∧ lo2.toInt = lo) ∨ (lo < b2.toInt ∧ lo2.toInt = b2.toInt) := by
                by_cases hh : b2 ≤ aI v2 8 n
                · rw [if_pos hh] at el; rw [Int32.le_iff_toInt_le, v28] at hh; exact Or.inl ⟨hh, by rw [el]; exact v28⟩
                · rw [if_neg hh] at el; rw [Int32.le_iff_toInt_le, v28] at hh; exact Or.inr ⟨by omega, by rw [el]⟩
              have ek' : ∃ l2, k2 = i3 l2 ∧ ((lo2.toInt < hi ∧ l2 = c + 1) ∨ (hi ≤ lo2.toInt ∧ l2 = 20)) := by
                by_cases hh : lo2 < aI v2 9 n
                · rw [if_pos hh] at ek; rw [Int32.lt_iff_toInt_lt, v29] at hh; exact ⟨c + 1, by rw [ek]; exact v26, Or.inl ⟨hh, rfl⟩⟩
                · rw [if_neg hh] at ek; rw [Int32.lt_iff_toInt_lt, v29] at hh; exact ⟨20, ek, Or.inr ⟨by omega, rfl⟩⟩
              obtain ⟨l2, ek1, ek2⟩ := ek'
              have hN2 := qN_take1 hN ho h1 (by omega) hlg h3 hRx.1 hRx.2 eb' el' ek2
              refine ihj n cd lo0 hi0 b2.toInt lo2.toInt hi l2 _ f' hn hst (by omega) hlo hhi (qmS_fr fr3 hS2) (fun _ => ⟨?_, by omega, ?_, ?_, ?_, hN2⟩) (fun v3 y hfr3 hy7 hy4 hRy => hcont v3 y (qfr_tr fr2 (qfr_tr fr3 hfr3)) hy7 hy4 hRy) g2 hg2
              · rw [a1, up1]; exact ek1
              · rw [a2 (by decide), a2 (by decide), a1, up1]
              · rw [a2 (by decide), a1, up1]
              · rw [a2 (by decide), a2 (by decide), a2 (by decide)]; exact v29
            · refine s_tk2 hS2 hs (by omega) ho (fun b2 hi2 k2 eb el ek => ?_)
              have fr3 : qfr n v2 (pI (pI (pI v2 7 n b2) 9 n hi2) 6 n k2) := qfr_pI (qfr_pI (qfr_pI qfr_rf (Or.inl ⟨by decide, Nat.le_refl _⟩)) (Or.inl ⟨by decide, Nat.le_refl _⟩)) (Or.inl ⟨by decide, Nat.le_refl _⟩)
              have eb' : (b ≤ x.toInt ∧ b2.toInt = b) ∨ (x.toInt < b ∧ b2.toInt = x.toInt) := by
                by_cases hh : aI v2 7 n ≤ x
                · rw [if_pos hh] at eb; rw [Int32.le_iff_toInt_le, v27] at hh; exact Or.inl ⟨hh, by rw [eb]; exact v27⟩
                · rw [if_neg hh] at eb; rw [Int32.le_iff_toInt_le, v27] at hh; exact Or.inr ⟨by omega, by rw [eb]⟩
              have el' : (hi ≤ b2.toInt ∧ hi2.toInt = hi) ∨ (b2.toInt < hi ∧ hi2.toInt = b2.toInt) := by
                by_cases hh : aI v2 9 n ≤ b2
                · rw [if_pos hh] at el; rw [Int32.le_iff_toInt_le, v29] at hh; exact Or.inl ⟨hh, by rw [el]; exact v29⟩
                · rw [if_neg hh] at el; rw [Int32.le_iff_toInt_le, v29] at hh; exact Or.inr ⟨by omega, by rw [el]⟩
              have ek' : ∃ l2, k2 = i3 l2 ∧ ((lo < hi2.toInt ∧ l2 = c + 1) ∨ (hi2.toInt ≤ lo ∧ l2 = 20)) := by
                by_cases hh : aI v2 8 n < hi2
                · rw [if_pos hh] at ek; rw [Int32.lt_iff_toInt_lt, v28] at hh; exact ⟨c + 1, by rw [ek]; exact v26, Or.inl ⟨hh, rfl⟩⟩
                · rw [if_neg hh] at ek; rw [Int32.lt_iff_toInt_lt, v28] at hh; exact ⟨20, ek, Or.inr ⟨by omega, rfl⟩⟩
              obtain ⟨l2, ek1, ek2⟩ := ek'
              have hN2 := qN_take2 hN ho h1 (by omega) hlg h3 hRx.1 hRx.2 eb' el' ek2
              refine ihj n cd lo0 hi0 b2.toInt lo hi2.toInt l2 _ f' hn hst (by omega) hlo hhi (qmS_fr fr3 hS2) (fun _ => ⟨?_, by omega, ?_, ?_, ?_, hN2⟩) (fun v3 y hfr3 hy7 hy4 hRy => hcont v3 y (qfr_tr fr2 (qfr_tr fr3 hfr3)) hy7 hy4 hRy) g2 hg2
              · rw [a1, up1]; exact ek1
              · rw [a2 (by decide), a2 (by decide), a1, up1]
              · rw [a2 (by decide), a2 (by decide), a2 (by decide)]; exact v28
              · rw [a2 (by decide), a1, up1]
          unfold b_m_solveFrom_32
          refine ⟨fun _ => ⟨fun _ => ⟨fun hne => ?_, fun he => ?_⟩, fun he => ?_⟩, fun hx => absurd (by decide) hx⟩
          · rw [i3_20, i3_eq (by omega) (by omega)] at hne
            rw [i3_in (by omega), i3_nat (by omega), hx7 (by omega)]
            exact ⟨by omega, tk⟩
          · rw [i3_20, i3_eq (by omega) (by omega)] at he
            have e20 : Int32.toNatClampNeg 20 = 20 := rfl
            rw [e20, hx4 he]
            exact ⟨by unfold vp_in; decide, tk⟩
          · rw [i3_eq (by omega) (by omega)] at he; omega
    · rw [i3_20, i3_eq (by omega) (by omega)] at hx; omega
theorem s_solveFrom {v : ZS} {cd : Nat → Nat} {m : Nat} (ht : t = (bd - 3) % 5) (hs : s = dc % 2) (hl0 : l0 < 4) (h4 : ∀ c, c < 20 → ow c < 4) (hm : m < 20) (hS : qmS v bd dc ow t l0 s cd m) (h : ∀ (v' : ZS) (x : Int32), qfr m v v' → qR ow t l0 s cd m (-1) 6 x.toInt → post x v') : w_m_solveFrom (i3 m) v post := by
  have all : ∀ k, ∃ F, qNL post bd dc ow t l0 s m k 20 F := by
    intro k
    induction k with
    | zero => exact ⟨1, qNL_0⟩
    | succ k ih => obtain ⟨F, hF⟩ := ih; exact qNL_s ht hs hl0 h4 hF 20
  obtain ⟨F, hF⟩ := all (20 - m)
  unfold w_m_solveFrom
  refine s_enter hS hs (by omega) (fun x6 hx1 hx2 => ⟨F + 1, ?_⟩)
  generalize hu6 : pI (pI (pI (pI v 6 m (i3 0)) 8 m (-1 : Int32)) 9 m 6) 7 m x6 = u6
  have fr6 : qfr m v u6 := by
    rw [← hu6]
    exact qfr_pI (qfr_pI (qfr_pI (qfr_pI qfr_rf (Or.inl ⟨by decide, Nat.le_refl _⟩)) (Or.inl ⟨by decide, Nat.le_refl _⟩)) (Or.inl ⟨by decide, Nat.le_refl _⟩)) (Or.inl ⟨by decide, Nat.le_refl _⟩)
  refine hF m cd (-1) 6 x6.toInt (-1) 6 0 u6 1 (by omega) (Nat.le_refl _) (by omega) (by omega) (by omega) (qmS_fr fr6 hS) (fun _ => ⟨?_, by omega, ?_, ?_, ?_, ?_⟩) (fun v2 x hfr2 hx7 hx4 hRx g2 hg2 => ?_) (F + 1) (Nat.le_refl _)
  · rw [← hu6, a2 (by decide), a2 (by decide), a2 (by decide), a1, up1]
  · rw [← hu6, a1, up1]
  · rw [← hu6, a2 (by decide), a2 (by decide), a1, up1]; rfl
  · rw [← hu6, a2 (by decide), a1, up1]; rfl
  · have m1 : (-(i3 1)).toInt = -1 := rfl
    have m6 : (i3 6).toInt = 6 := rfl
    by_cases ho : pl_tn t l0 cd m % 2 = s
    · rw [hx1 ho, m1]
      exact ⟨by omega, Or.inl ⟨ho, rfl, by omega, fun hh => by omega, Or.inl ⟨by omega, fun c' _ hh => by omega⟩⟩⟩
    · rw [hx2 ho, m6]
      exact ⟨by omega, Or.inr ⟨ho, rfl, by omega, fun hh => by omega, Or.inl ⟨by omega, fun c' _ hh => by omega⟩⟩⟩
  · obtain ⟨g3, rfl⟩ : ∃ g3, g2 = g3 + 1 := ⟨g2 - 1, by omega⟩
    unfold b_m_solveFrom_32 b_m_solveFrom_135
    refine ⟨fun _ => ⟨fun hx => absurd rfl hx, fun _ => ?_⟩, fun hx => absurd (by decide) hx⟩
    unfold b_m_solveFrom_12
    rw [i3_in (by omega), i3_nat (by omega), hx7 hm]
    exact ⟨fun _ => ⟨by omega, h v2 x (qfr_tr fr6 hfr2) hRx⟩, fun hx => absurd rfl hx⟩
end MSl
