/-! the model's auction -/
def qmA (v : ZS) (n d : Nat) (cs : Nat → Nat) : Prop := fI v 4 = i3 n ∧ fI v 2 = i3 d ∧ n ≤ 139 ∧ d < 4 ∧ (∀ i, i < n → cs i ≤ 17) ∧ ∀ i, i < n → aI v 1 i = i3 (cs i)
/-- what reading the calls leaves -/
def qmR (v : ZS) (n d : Nat) (cs : Nat → Nat) : Prop := fI v 6 = i3 (au_bid cs n) ∧ fI v 7 = i3 (au_dbl cs n) ∧ (3 ≤ au_bid cs n → fI v 8 = i3 (au_dc d cs n)) ∧ fI v 9 = i3 (au_en cs n)
theorem qmA_fx {fi fj ai aj : List Nat} {v v' : ZS} {n d : Nat} {cs : Nat → Nat} (hx : fx fi fj ai aj v v') (e4 : 4 ∉ fi) (e2 : 2 ∉ fi) (a1 : 1 ∉ ai) (h : qmA v n d cs) : qmA v' n d cs := by
  obtain ⟨x1, x2, x3, x4, x5, x6⟩ := h
  exact ⟨by rw [hx.1 4 e4]; exact x1, by rw [hx.1 2 e2]; exact x2, x3, x4, x5, by rw [hx.2.2.1 1 a1]; exact x6⟩
section MAu
variable {v : ZS} {n d : Nat} {cs : Nat → Nat} {post : Int32 → ZS → Prop}
theorem s_lb (hA : qmA v n d cs) (h : post (oI (au_lt cs 1 n)) v) : w_m_latestBefore (i3 n) v post := by
  obtain ⟨e4, e2, hn, hd, h17, hc⟩ := hA
  have st : ∀ k, k ≤ n → post (oI (au_lt cs 1 k)) v → b_m_latestBefore_4 post (k + 1) (i3 k - 1) v := by
    intro k
    induction k with
    | zero =>
      intro hk h
      unfold b_m_latestBefore_4
      exact ⟨fun _ => h, fun hx => absurd (by decide) hx⟩
    | succ k ih =>
      intro hk h
      have e : i3 (k + 1) - 1 = i3 k := by rw [i3_1, i3_sub (by omega)]; rfl
      have h17' := h17 k (by omega)
      rw [e]
      unfold b_m_latestBefore_4
      rw [i3_n0 (by omega), i3_in (by omega), i3_nat (by omega), hc k (by omega), i3_0, i3_eq (by omega) (by omega)]
      refine ⟨fun hx => hx.elim, fun _ => ⟨by omega, fun hx => ?_, fun hx => ih (by omega) ?_⟩⟩
      · rw [au_lt, if_pos (by omega)] at h; exact h
      · rw [au_lt, if_neg (by omega)] at h; exact h
  exact ⟨n + 1, st n (Nat.le_refl _) h⟩
theorem s_ca (hd : fI v 2 = i3 d) {k : Nat} (h : post (i3 ((d + k) % 4)) v) : w_m_callerAt (i3 k) v post := by
  unfold w_m_callerAt
  rw [hd, i3_add, i3_3, i3_a3]
  exact h
theorem s_fo (e2 : fI v 2 = i3 d) (h17 : ∀ i, i < n → cs i ≤ 17) (hc : ∀ i, i < n → aI v 1 i = i3 (cs i)) (hn : n ≤ 139) (hd : d < 4) {k : Nat} (hk : k < n) (h3k : 3 ≤ cs k) (h : post (i3 ((d + au_ff cs k k 0) % 4)) v) : w_m_firstOf (i3 k) v post := by
  have h17k := h17 k hk
  have st : ∀ f i : Nat, f + i = k → post (i3 ((d + au_ff cs k f i) % 4)) v → b_m_firstOf_10 post (f + 1) (i3 k) (i3 ((d + k) % 4 % 2)) (i3 i) v := by
    intro f
    induction f with
    | zero =>
      intro i hi h
      have e : i = k := by omega
      subst e
      unfold b_m_firstOf_10
      simp (disch := omega) only [hc i hk, i3_0, i3_1, i3_2, i3_3, i3_4, i3_5, i3_6, i3_10, i3_12, i3_15, i3_17, i3_19, i3_20, i3_21, i3_31, i3_139, i3_add, i3_mul, i3_sub, i3_dec, i3_div, i3_eq, i3_lt, i3_le, i3_nat, i3_in, i3_m1, i3_n0, i3_a1, i3_a3, i3_a31, nrem]
      refine ⟨by omega, fun hx => by omega, fun _ => s_ca e2 ?_⟩
      simp (disch := omega) only [hc i hk, i3_0, i3_1, i3_2, i3_3, i3_4, i3_5, i3_6, i3_10, i3_12, i3_15, i3_17, i3_19, i3_20, i3_21, i3_31, i3_139, i3_add, i3_mul, i3_sub, i3_dec, i3_div, i3_eq, i3_lt, i3_le, i3_nat, i3_in, i3_m1, i3_n0, i3_a1, i3_a3, i3_a31, nrem]
      exact ⟨fun hx => absurd trivial hx, fun _ => ⟨by omega, by omega, fun _ => s_ca e2 h, fun hx => absurd trivial hx⟩⟩
    | succ f ih =>
      intro i hi h
      have hin : i < n := by omega
      have h17' := h17 i hin
      unfold au_ff at h
      have nxt : ¬ (3 ≤ cs i ∧ i % 2 = k % 2 ∧ (cs i - 3) % 5 = (cs k - 3) % 5) → b_m_firstOf_54 (b_m_firstOf_10 post (f + 1)) post (i3 k) (i3 ((d + k) % 4 % 2)) (i3 i) v := by
        intro hx
        unfold b_m_firstOf_54
        rw [i3_1, i3_add]
        rw [if_neg hx] at h
        exact ih (i + 1) (by omega) h
      unfold b_m_firstOf_10
      simp (disch := omega) only [hc i hin, hc k hk, i3_0, i3_1, i3_2, i3_3, i3_4, i3_5, i3_6, i3_10, i3_12, i3_15, i3_17, i3_19, i3_20, i3_21, i3_31, i3_139, i3_add, i3_mul, i3_sub, i3_dec, i3_div, i3_eq, i3_lt, i3_le, i3_nat, i3_in, i3_m1, i3_n0, i3_a1, i3_a3, i3_a31, nrem]
      refine ⟨by omega, fun hx => nxt (by omega), fun h3 => s_ca e2 ?_⟩
      simp (disch := omega) only [hc i hin, hc k hk, i3_0, i3_1, i3_2, i3_3, i3_4, i3_5, i3_6, i3_10, i3_12, i3_15, i3_17, i3_19, i3_20, i3_21, i3_31, i3_139, i3_add, i3_mul, i3_sub, i3_dec, i3_div, i3_eq, i3_lt, i3_le, i3_nat, i3_in, i3_m1, i3_n0, i3_a1, i3_a3, i3_a31, nrem]
      refine ⟨fun hx => nxt (by omega), fun hs => ⟨by omega, by omega, fun hx => ?_, fun hx => nxt (by omega)⟩⟩
      rw [if_pos ⟨by omega, by omega, hx⟩] at h
      exact s_ca e2 h
  unfold w_m_firstOf
  refine s_ca e2 ⟨k + 1, ?_⟩
  rw [i3_1, i3_a1]
  exact st k 0 (by omega) h
theorem s_rc {post : ZS → Prop} (hV : au_V cs n) (hA : qmA v n d cs) (h : ∀ v', fx [6, 7, 8, 9] [] [] [] v v' → qmR v' n d cs → post v') : w_m_readCalls v post := by
  have hA' := hA
  obtain ⟨e4, e2, hn, hd, h17, hc⟩ := hA
  have st : ∀ (f k : Nat) (v' : ZS), f + k = n → fx [6, 7, 8, 9] [] [] [] v v' → fI v' 6 = i3 (au_bid cs k) → fI v' 7 = i3 (au_dbl cs k) → (3 ≤ au_bid cs k → fI v' 8 = i3 (au_dc d cs k)) → b_m_readCalls_12 post (f + 1) (i3 k) v' := by
    intro f
    induction f with
    | zero =>
      intro k v' hfk hx h6 h7 h8
      have e : k = n := by omega
      subst e
      have hA2 := qmA_fx hx (by decide) (by decide) (by decide) hA'
      have e4' := hA2.1
      unfold b_m_readCalls_12
      rw [e4', i3_le (by omega) (by omega)]
      refine ⟨fun _ => s_lb hA2 ?_, fun hy => absurd (Nat.le_refl _) hy⟩
      have fin : ∀ x : Nat, x = au_en cs k → post (sI v' 9 (i3 x)) := by
        intro x hxe
        refine h _ (fx_sI hx (by decide)) ⟨by rw [f2 (by decide)]; exact h6, by rw [f2 (by decide)]; exact h7, fun h3 => by rw [f2 (by decide)]; exact h8 h3, by rw [f1, hxe]⟩
      have hend := au_end_eq hV
      cases hl : au_lt cs 1 k with
      | none =>
        rw [hl] at hend
        simp (disch := omega) only [oI, b_m_readCalls_127, b_m_readCalls_76, w_m_readCalls, e4', i3_0, i3_1, i3_2, i3_3, i3_4, i3_5, i3_6, i3_10, i3_12, i3_15, i3_17, i3_19, i3_20, i3_21, i3_31, i3_139, i3_eq]
        refine ⟨fun hy => absurd hy (by decide), fun _ => ⟨fun hy => ⟨Or.inl trivial, fin 0 ?_⟩, fun hy => ⟨Or.inr trivial, fin 1 ?_⟩⟩⟩
        · exact (au_en0.mpr (fun he => hy (hend.mp he))).symm
        · exact (au_en1.mpr (hend.mpr hy)).symm
      | some j =>
        have hj := (au_lt_some hl).1
        rw [hl] at hend
        simp only at hend
        simp (disch := omega) only [oI, b_m_readCalls_127, b_m_readCalls_76, w_m_readCalls, e4', i3_0, i3_1, i3_2, i3_3, i3_4, i3_5, i3_6, i3_10, i3_12, i3_15, i3_17, i3_19, i3_20, i3_21, i3_31, i3_139, i3_add, i3_mul, i3_sub, i3_dec, i3_div, i3_eq, i3_lt, i3_le, i3_nat, i3_in, i3_m1, i3_n0, i3_a1, i3_a3, i3_a31, nrem]
        refine ⟨fun _ => ⟨fun hy => ⟨Or.inl trivial, fin 0 ?_⟩, fun hy => ⟨Or.inr trivial, fin 1 ?_⟩⟩, fun hy => absurd (Nat.zero_le _) hy⟩
        · exact (au_en0.mpr (fun he => hy (by have := hend.mp he; omega))).symm
        · exact (au_en1.mpr (hend.mpr (by omega))).symm
    | succ f ih =>
      intro k v' hfk hx h6 h7 h8
      have hk : k < n := by omega
      have h17k := h17 k hk
      have hcv : ∀ i, i < n → aI v' 1 i = i3 (cs i) := fun i hi => by rw [hx.2.2.1 1 (by decide)]; exact hc i hi
      have ed : fI v' 2 = i3 d := by rw [hx.1 2 (by decide)]; exact e2
      have e4' : fI v' 4 = i3 n := by rw [hx.1 4 (by decide)]; exact e4
      unfold b_m_readCalls_12 b_m_readCalls_76
      simp (disch := omega) only [e4', hcv k hk, i3_0, i3_1, i3_2, i3_3, i3_4, i3_5, i3_6, i3_10, i3_12, i3_15, i3_17, i3_19, i3_20, i3_21, i3_31, i3_139, i3_add, i3_mul, i3_sub, i3_dec, i3_div, i3_eq, i3_lt, i3_le, i3_nat, i3_in, i3_m1, i3_n0, i3_a1, i3_a3, i3_a31, nrem]
      refine ⟨fun hy => by omega, fun _ => ⟨by omega, fun h2 => ⟨by omega, fun h0 => ?_, fun h0 => ⟨by omega, ?_⟩⟩, fun h2 => ⟨by omega, ?_⟩⟩⟩
      · have e1 : au_lt cs 1 (k + 1) = au_lt cs 1 k := by rw [au_lt, if_neg (by omega)]
        have e3 : au_lt cs 3 (k + 1) = au_lt cs 3 k := by rw [au_lt, if_neg (by omega)]
        refine ih (k + 1) v' (by omega) hx ?_ ?_ ?_
        · unfold au_bid at h6 ⊢; rw [e3]; exact h6
        · unfold au_dbl at h7 ⊢; rw [e1]; exact h7
        · unfold au_bid au_dc at h8 ⊢; rw [e3]; exact h8
      · have e1 : au_lt cs 1 (k + 1) = some k := by rw [au_lt, if_pos (by omega)]
        have e3 : au_lt cs 3 (k + 1) = au_lt cs 3 k := by rw [au_lt, if_neg (by omega)]
        refine ih (k + 1) _ (by omega) (fx_sI hx (by decide)) ?_ ?_ ?_
        · rw [f2 (by decide)]; unfold au_bid at h6 ⊢; rw [e3]; exact h6
        · rw [f1]; unfold au_dbl; rw [e1]; simp only; rw [if_neg (by omega)]
        · rw [f2 (by decide)]; unfold au_bid au_dc at h8 ⊢; rw [e3]; exact h8
      · have e1 : au_lt cs 1 (k + 1) = some k := by rw [au_lt, if_pos (by omega)]
        have e3 : au_lt cs 3 (k + 1) = some k := by rw [au_lt, if_pos (by omega)]
        refine s_fo (n := n) (cs := cs) (d := d) ?_ h17 (fun i hi => ?_) hn hd hk (by omega) ?_
        · rw [f2 (by decide), f2 (by decide)]; exact ed
        · rw [a3, a3]; exact hcv i hi
        · refine ih (k + 1) _ (by omega) (fx_sI (fx_sI (fx_sI hx (by decide)) (by decide)) (by decide)) ?_ ?_ ?_
          · rw [f2 (by decide), f2 (by decide), f1]; unfold au_bid; rw [e3]
          · rw [f2 (by decide), f1]; unfold au_dbl; rw [e1]; simp only; rw [if_pos (by omega)]
          · intro _; rw [f1]; unfold au_dc; rw [e3]
  refine ⟨n + 1, st n 0 _ (by omega) (fx_sI (fx_sI fx_rf (by decide)) (by decide)) ?_ ?_ ?_⟩
  · rw [f2 (by decide), f1]; rfl
  · rw [f1]; rfl
  · intro h3; have e : au_bid cs 0 = 0 := rfl; omega
theorem s_pn {b m : Nat} (hV : au_V cs n) (hA : qmA v n d cs) (hb : fI v 1 = i3 b) (hb1 : b ≤ 1) (hm : fI v 5 = i3 m) (hm20 : m ≤ 20) (h : ∀ v', fx [6, 7, 8, 9] [] [] [] v v' → (b = 1 → qmR v' n d cs) → post (i3 (phs b cs n m)) v') : w_m_phaseNow v post := by
  have hb17 := au_bid_le hA.2.2.2.2.1
  unfold phs at h
  unfold w_m_phaseNow
  rw [hb, i3_0, i3_eq (by omega) (by omega)]
  refine ⟨fun hx => ?_, fun hx => ?_⟩
  · refine s_rc hV hA (fun v' hx' hR => ?_)
    have h' := h v' hx' (fun _ => hR)
    rw [if_neg hx] at h'
    have hen : au_en cs n = 0 ∨ au_en cs n = 1 := by
      unfold au_en
      cases au_lt cs 1 n <;> simp only <;> split <;> omega
    rw [hR.2.2.2, hR.1, hx'.1 5 (by decide), hm, i3_le (by omega) (by omega), i3_20, i3_le (by omega) (by omega)]
    rcases hen with he | he <;> rw [he] at h' ⊢
    · rw [if_pos rfl] at h'
      exact ⟨fun hy => absurd rfl hy, fun _ => h'⟩
    · rw [if_neg (by omega)] at h'
      refine ⟨fun _ => ⟨fun hy => ?_, fun hy => ⟨fun hz => ?_, fun hz => ?_⟩⟩, fun hy => absurd hy (by decide)⟩
      · rw [if_pos (Or.inl (by omega))] at h'; exact h'
      · rw [if_pos (Or.inr (by omega))] at h'; exact h'
      · rw [if_neg (by omega)] at h'; exact h'
  · have h' := h v fx_rf (fun h1 => by omega)
    rw [if_pos hx] at h'
    exact h'
theorem s_mallowed (hA : qmA v n d cs) (h6 : fI v 6 = i3 (au_bid cs n)) {c : Nat} (hc17 : c ≤ 17) (h1 : au_ok cs n c → post 1 v) (h0 : ¬ au_ok cs n c → post 0 v) : w_m_allowed (i3 c) v post := by
  have hA' := hA
  obtain ⟨e4, e2, hn, hd, h17, hc⟩ := hA
  have hb17 := au_bid_le h17
  have e48 : ∀ u : Unit, (c = 0 ∨ 2 < c) → b_m_allowed_48 post (i3 c) v := by
    intro _ hcc
    simp (disch := omega) only [b_m_allowed_65, b_m_allowed_60, b_m_allowed_48, b_m_allowed_103, b_m_allowed_102, b_m_allowed_98, b_m_allowed_38, b_m_allowed_37, w_m_allowed, h6, i3_0, i3_1, i3_2, i3_3, i3_4, i3_5, i3_6, i3_10, i3_12, i3_15, i3_17, i3_19, i3_20, i3_21, i3_31, i3_139, i3_add, i3_mul, i3_sub, i3_dec, i3_div, i3_eq, i3_lt, i3_le, i3_nat, i3_in, i3_m1, i3_n0, i3_a1, i3_a3, i3_a31, nrem]
    refine ⟨fun hx => ⟨Or.inr trivial, h1 (Or.inl hx)⟩, fun hx => ⟨fun hy => ⟨Or.inl trivial, h0 ?_⟩, fun hy => ⟨Or.inr trivial, h1 (Or.inr (Or.inr (Or.inr ⟨by omega, by omega⟩)))⟩⟩⟩
    rintro (h | ⟨h, -⟩ | ⟨h, -⟩ | ⟨h, h'⟩) <;> omega
  unfold w_m_allowed
  rw [e4]
  refine s_lb hA' ?_
  have no : (au_lt cs 1 n = none ∨ ∃ k, au_lt cs 1 n = some k ∧ (n - k) % 2 = 0) → ∀ x : Int32, b_m_allowed_37 post (i3 c) x v := by
    intro hno x
    unfold b_m_allowed_37 b_m_allowed_38
    rw [i3_0, i3_eq (by omega) (by omega), i3_2, i3_le (by omega) (by omega)]
    refine ⟨fun hx => e48 () (Or.inl hx), fun hx => ⟨fun hy => ⟨fun _ => ⟨Or.inl rfl, h0 ?_⟩, fun hz => absurd rfl hz⟩, fun hy => e48 () (Or.inr (by omega))⟩⟩
    rintro (h | ⟨h, k, e, h3, hp⟩ | ⟨h, k, e, h3, hp⟩ | ⟨h, -⟩)
    · omega
    · rcases hno with hn | ⟨k', e', hp'⟩
      · rw [hn] at e; cases e
      · rw [e'] at e; cases e; omega
    · rcases hno with hn | ⟨k', e', hp'⟩
      · rw [hn] at e; cases e
      · rw [e'] at e; cases e; omega
    · omega
  cases hl : au_lt cs 1 n with
  | none =>
    simp only [oI]
    exact ⟨fun _ => no (Or.inl hl) _, fun hx => absurd (by decide) hx⟩
  | some k =>
    obtain ⟨hk, hk1, -⟩ := au_lt_some hl
    have h17' := h17 k hk
    simp only [oI]
    rw [i3_n0 (by omega)]
    refine ⟨fun hx => hx.elim, fun _ => s_ca e2 ?_⟩
    rw [e4]
    refine s_ca e2 ?_
    rw [i3_1, i3_a1, i3_a1, i3_eq (by omega) (by omega)]
    refine ⟨fun hx => no (Or.inr ⟨k, hl, by omega⟩) _, fun hx => ?_⟩
    unfold b_m_allowed_38
    rw [i3_0, i3_eq (by omega) (by omega), i3_2, i3_le (by omega) (by omega), i3_1, i3_eq (by omega) (by omega), i3_eq (by omega) (by omega), i3_in (by omega), i3_nat (by omega), hc k hk, i3_eq (by omega) (by omega), i3_le (by omega) (by omega)]
    refine ⟨fun hy => e48 () (Or.inl hy), fun hy => ⟨fun hz => ⟨fun h => by omega, fun _ => ⟨fun hc1 => ⟨by omega, fun hk1' => ⟨Or.inl rfl, h0 ?_⟩, fun hk1' => ⟨Or.inr rfl, h1 (Or.inr (Or.inr (Or.inl ⟨by omega, k, hl, hk1', by omega⟩)))⟩⟩, fun hc1 => ⟨by omega, fun hk2 => ⟨Or.inl rfl, h0 ?_⟩, fun hk2 => ⟨Or.inr rfl, h1 (Or.inr (Or.inl ⟨hc1, k, hl, by omega, by omega⟩))⟩⟩⟩⟩, fun hz => e48 () (Or.inr (by omega))⟩⟩
    · rintro (h | ⟨h, -⟩ | ⟨h, k', e, h3, hp⟩ | ⟨h, -⟩)
      · omega
      · omega
      · rw [hl] at e; cases e; exact hk1' h3
      · omega
    · rintro (h | ⟨h, k', e, h3, hp⟩ | ⟨h, -⟩ | ⟨h, -⟩)
      · omega
      · rw [hl] at e; cases e; omega
      · omega
      · omega
end MAu
