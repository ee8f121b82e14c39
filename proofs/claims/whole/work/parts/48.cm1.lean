/-! deal, shuffle, number, call, play, back -/
section Cm1
variable {u v : ZS} {b d n m r : Nat} {cs cd ow : Nat → Nat}
theorem j6_ex {x : Int64} (h0 : ¬ x < 0) : ∃ k : Nat, k < 9223372036854775808 ∧ x = j6 k := by
  have z0 : (0 : Int64).toInt = 0 := rfl
  rw [Int64.lt_iff_toInt_lt, z0] at h0
  have hl := Int64.toInt_lt x
  refine ⟨x.toInt.toNat, by omega, ?_⟩
  rw [← Int64.toInt_inj, j6_z (by omega)]
  omega
/-- a board may begin so -/
def gOk (who sides : Int32) : Prop := ∃ q, q < 4 ∧ who = i3 q ∧ ¬ sides < 0 ∧ ¬ 3 < sides
theorem s_canb {post : Int32 → ZS → Prop} {who sides : Int32} (h1 : gOk who sides → post 1 u) (h0 : ¬ gOk who sides → post 0 u) : w_x_canBegin who sides u post := by
  unfold w_x_canBegin b_x_canBegin_20 b_x_canBegin_21
  refine s_ispl (fun ho => ⟨fun _ => ⟨Or.inl rfl, h0 ?_⟩, fun hx => absurd rfl hx⟩) (fun p hp e => ⟨fun hx => absurd hx (by decide), fun _ => ⟨fun hx => ⟨Or.inl rfl, h0 ?_⟩, fun hx => ⟨fun hy => ⟨Or.inl rfl, h0 ?_⟩, fun hy => ⟨Or.inr rfl, h1 ⟨p, hp, e, hx, hy⟩⟩⟩⟩⟩)
  · rintro ⟨q, hq, e, -⟩; exact out_rng (by omega) hq ho e
  · rintro ⟨q, hq, e, e1, e2⟩; exact e1 hx
  · rintro ⟨q, hq, e, e1, e2⟩; exact e2 hy
/-- a new board on the class's side -/
def gCB (u u' : ZS) (d : Nat) (sides : Int32) (cs cd ow : Nat → Nat) (r : Nat) : Prop := fx [0, 1, 2, 3, 4] [0] [0, 1, 2, 4, 5] [] u u' ∧ gC u' 1 d 0 0 cs cd ow r ∧ fI u' 1 = sides
theorem s_xbegin {post : ZS → Prop} {u0 : ZS} {who sides : Int32} (hd : d < 4) (hw : who = i3 d) (hD : pl_D ow) (hx : fx [] [0] [0, 1, 2] [] u0 u) (ho : ∀ c, c < 20 → aI u 0 c = i3 (ow c)) (hr : fI u0 6 = i3 r) (h : ∀ u', gCB u0 u' d sides cs cd ow r → fJ u' 0 = fJ u 0 → post u') : w_x_begin who sides u post := by
  unfold w_x_begin w_au_begin
  refine s_take (cd := cd) (ow := ow) hD ho (fun u' hx' hH hC => h u' ⟨?_, ⟨?_, ⟨?_, ?_, by omega, hd, fun i hi => by omega, fun i hi => by omega⟩, hH, ?_, fun _ => hC, ?_⟩, ?_⟩ ?_)
  · refine fx_tr (fx_mo hx (by decide) (by decide) (by decide) (by decide)) (fx_tr ?_ (fx_mo hx' (by decide) (by decide) (by decide) (by decide)))
    exact fx_sI (fx_sI (fx_sI (fx_sI fx_rf (by decide)) (by decide)) (by decide)) (by decide)
  · rw [hx'.1 0 (by decide), f2 (by decide), f2 (by decide), f2 (by decide), f1]; rfl
  · rw [hx'.1 2 (by decide), f1]; rfl
  · rw [hx'.1 3 (by decide), f2 (by decide), f1]; exact hw
  · intro he
    have : au_en cs 0 = 0 := rfl
    omega
  · rw [hx'.1 6 (by decide), f2 (by decide), f2 (by decide), f2 (by decide), f2 (by decide), hx.1 6 (by decide)]; exact hr
  · rw [hx'.1 1 (by decide), f2 (by decide), f2 (by decide), f1]
  · rw [hx'.2.1 0 (by decide)]; rfl
/-- the number of a deal -/
def gNum (x : Int64) : Prop := ∃ k, k < 11732745024 ∧ x = j6 k
theorem s_isnum {post : Int32 → ZS → Prop} {x : Int64} (h1 : gNum x → post 1 u) (h0 : ¬ gNum x → post 0 u) : w_de_isNumber x u post := by
  unfold w_de_isNumber b_de_isNumber_18 b_de_isNumber_19
  rw [lg_cmp_lt, lg_cmp_ge]
  refine ⟨fun hx => ⟨Or.inl rfl, h0 ?_⟩, fun hx => ⟨fun hy => ⟨Or.inl rfl, h0 ?_⟩, fun hy => ⟨Or.inr rfl, h1 ?_⟩⟩⟩
  · rintro ⟨k, hk, rfl⟩; rw [j6_0, j6_lt (by omega) (by omega)] at hx; omega
  · rintro ⟨k, hk, rfl⟩; rw [j6_D, j6_le (by omega) (by omega)] at hy; omega
  · obtain ⟨k, hk, rfl⟩ := j6_ex hx
    rw [j6_D, j6_le (by omega) (by omega)] at hy
    exact ⟨k, by omega, rfl⟩
theorem gG_new (hD : pl_D ow) : gG 1 d 0 0 cs cd ow := ⟨by omega, fun h => by omega, fun _ => hD, trivial, fun h => by omega, fun i hi => by omega, by omega⟩
theorem gM_new {v' : ZS} {sides : Int32} (hd : d < 4) (hM : gM v b d n m cs cd ow r) {ow' : Nat → Nat} {d' : Nat} (hd' : d' < 4) (hB : qmB v v' ow' (i3 d') sides) : gM v' 1 d' 0 0 cs cd ow' r := by
  obtain ⟨m1, m2, m3, m4, m5, m6, m7, m8, m9⟩ := hM
  obtain ⟨hx, b1, b2, b3, b4, b5, b6, b7⟩ := hB
  exact ⟨b1, ⟨b5, b3, by omega, hd', fun i hi => by omega, fun i hi => by omega⟩, b6, fun i hi => by omega, fun _ => b7, by rw [hx.2.2.1 5 (by decide)]; exact m6, qmW_fx hx (by decide) m7, by rw [hx.1 10 (by decide)]; exact m8, fun hm => by omega⟩
theorem gL_new {u' v' : ZS} {sides : Int32} {ow' : Nat → Nat} {d' : Nat} (hL : gL u v b r) (hC : gCB u u' d' sides cs cd ow' r) (hB : qmB v v' ow' (i3 d') sides) (hJ : fJ u' 0 = j6 (rk_n ow' 20)) : gL u' v' 1 r := by
  obtain ⟨l1, l2, l3, l4⟩ := hL
  obtain ⟨hx, -, e1⟩ := hC
  obtain ⟨hy, b1, b2, b3, b4, -⟩ := hB
  refine ⟨by rw [e1, b4], fun _ => by rw [hJ, b2], l3, fun i hi => ?_⟩
  rw [hx.2.2.1 8 (by decide), hx.2.2.2 0 (by decide), hy.2.2.1 10 (by decide), hy.2.2.2 1 (by decide)]
  exact l4 i hi
theorem c_deal {post : Int32 → ZS → Prop} {x : Int64} {who sides : Int32} (hC : gC u b d n m cs cd ow r) (h1 : ∀ k q, k < 11732745024 → q < 4 → x = j6 k → who = i3 q → ¬ sides < 0 → ¬ 3 < sides → ∀ u', gCB u u' q sides cs cd (rk_ow k) r → fJ u' 0 = j6 k → post 1 u') (h0 : ¬ (gNum x ∧ gOk who sides) → post 0 u) : w_x_deal x who sides u post := by
  unfold w_x_deal b_x_deal_16
  refine s_isnum (fun hn => ⟨fun hx => absurd hx (by decide), fun _ => s_canb (fun hok => ⟨fun _ => ?_, fun hx => absurd hx (by decide)⟩) (fun hok => ⟨fun hx => absurd rfl hx, fun _ => h0 (fun hh => hok hh.2)⟩)⟩) (fun hn => ⟨fun _ => h0 (fun hh => hn hh.1), fun hx => absurd rfl hx⟩)
  obtain ⟨k, hk, rfl⟩ := hn
  obtain ⟨q, hq, rfl, hs1, hs2⟩ := hok
  have hD := rk_deal (rk_ow_is hk)
  refine s_takeNumber hk (fun u6 hx6 hj6 ho6 => ?_)
  refine s_xbegin (u0 := u) (cs := cs) (cd := cd) hq rfl hD (fx_mo hx6 (by decide) (by decide) (by decide) (by decide)) ho6 hC.2.2.2.2.2 (fun u8 hB hJ => ?_)
  exact h1 k q hk hq rfl rfl hs1 hs2 u8 hB (by rw [hJ]; exact hj6)
theorem m_deal {post : Int32 → ZS → Prop} {x : Int64} {who sides : Int32} (hM : gM v b d n m cs cd ow r) (h1 : ∀ k q, k < 11732745024 → q < 4 → x = j6 k → who = i3 q → ¬ sides < 0 → ¬ 3 < sides → ∀ v0 v', fx [0] [] [] [] v v0 → gM v0 b d n m cs cd ow r → qmB v0 v' (rk_ow k) (i3 q) sides → post 1 v') (h0 : ¬ (gNum x ∧ gOk who sides) → post 0 (sI v 0 0)) : w_m_deal x who sides v post := by
  have hM0 : gM (sI v 0 0) b d n m cs cd ow r := gM_sI0 hM
  unfold w_m_deal b_m_deal_37
  rw [lg_cmp_lt, lg_cmp_ge]
  refine ⟨fun hx => h0 ?_, fun hx => ⟨fun hy => h0 ?_, fun hy => ?_⟩⟩
  · rintro ⟨⟨k, hk, rfl⟩, -⟩; rw [j6_0, j6_lt (by omega) (by omega)] at hx; omega
  · rintro ⟨⟨k, hk, rfl⟩, -⟩; rw [j6_D, j6_le (by omega) (by omega)] at hy; omega
  · obtain ⟨k, hk, rfl⟩ := j6_ex hx
    rw [j6_D, j6_le (by omega) (by omega)] at hy
    have hk' : k < 11732745024 := by omega
    refine s_mispl (fun ho => ⟨fun _ => h0 ?_, fun hx => absurd rfl hx⟩) (fun q hq e => ⟨fun hx => absurd hx (by decide), fun _ => ⟨fun hs => h0 ?_, fun hs => ⟨fun hs3 => ?_, fun hs3 => h0 ?_⟩⟩⟩)
    · rintro ⟨-, q, hq, e, -⟩; exact out_rng (by omega) hq ho e
    · rintro ⟨-, q, hq, e, e1, e2⟩; exact e1 hs
    · subst e
      have hs3' : ¬ 3 < sides := by
        rw [Int32.le_iff_toInt_le] at hs3
        rw [Int32.lt_iff_toInt_lt]; omega
      refine s_unrank hM0.2.2.2.2.2.2.1 hk' (fun v4 hx4 ho4 => ?_)
      exact s_mbegin (v0 := sI v 0 0) (qmW_fx hx4 (by decide) hM0.2.2.2.2.2.2.1) (rk_deal (rk_ow_is hk')) (fx_mo hx4 (by decide) (by decide) (by decide) (by decide)) ho4 (fun v' hB => h1 k q hk' hq rfl rfl hs hs3' (sI v 0 0) v' (fx_sI fx_rf (by decide)) hM0 hB)
    · rintro ⟨-, q, hq, e, e1, e2⟩
      apply hs3
      rw [Int32.lt_iff_toInt_lt] at e2
      rw [Int32.le_iff_toInt_le]; omega
theorem c_shuf {post : Int64 → ZS → Prop} {seed : Int64} {who sides : Int32} (hC : gC u b d n m cs cd ow r) (h1 : ∀ q, q < 4 → who = i3 q → ¬ sides < 0 → ¬ 3 < sides → ∀ u', gCB u u' q sides cs cd (sh_ow (sh_row seed)) r → fJ u' 0 = j6 (rk_n (sh_ow (sh_row seed)) 20) → post (j6 (rk_n (sh_ow (sh_row seed)) 20)) u') (h0 : ¬ gOk who sides → post (-1) u) : w_x_shuffle seed who sides u post := by
  unfold w_x_shuffle
  refine s_canb (fun hok => ⟨fun _ => ?_, fun hx => absurd hx (by decide)⟩) (fun hok => ⟨fun hx => absurd rfl hx, fun _ => h0 hok⟩)
  obtain ⟨q, hq, rfl, hs1, hs2⟩ := hok
  refine s_takeSeed (fun u4 hx4 hj4 ho4 => ?_)
  refine s_xbegin (u0 := u) (cs := cs) (cd := cd) hq rfl (sh_D (sh_row_P seed)) hx4 ho4 hC.2.2.2.2.2 (fun u8 hB hJ => ?_)
  have e : fJ u8 0 = j6 (rk_n (sh_ow (sh_row seed)) 20) := by rw [hJ]; exact hj4
  rw [e]
  exact h1 q hq rfl hs1 hs2 u8 hB e
theorem m_shuf {post : Int64 → ZS → Prop} {seed : Int64} {who sides : Int32} (hM : gM v b d n m cs cd ow r) (h1 : ∀ q, q < 4 → who = i3 q → ¬ sides < 0 → ¬ 3 < sides → ∀ v0 v', fx [0] [] [] [] v v0 → gM v0 b d n m cs cd ow r → qmB v0 v' (sh_ow (sh_row seed)) (i3 q) sides → post (j6 (rk_n (sh_ow (sh_row seed)) 20)) v') (h0 : ¬ gOk who sides → post (-1) (sI v 0 0)) : w_m_shuffle seed who sides v post := by
  have hM0 : gM (sI v 0 0) b d n m cs cd ow r := gM_sI0 hM
  unfold w_m_shuffle b_m_shuffle_23
  refine s_mispl (fun ho => ⟨fun _ => h0 ?_, fun hx => absurd rfl hx⟩) (fun q hq e => ⟨fun hx => absurd hx (by decide), fun _ => ⟨fun hs => h0 ?_, fun hs => ⟨fun hs3 => ?_, fun hs3 => h0 ?_⟩⟩⟩)
  · rintro ⟨q, hq, e, -⟩; exact out_rng (by omega) hq ho e
  · rintro ⟨q, hq, e, e1, e2⟩; exact e1 hs
  · subst e
    have hs3' : ¬ 3 < sides := by
      rw [Int32.le_iff_toInt_le] at hs3
      rw [Int32.lt_iff_toInt_lt]; omega
    exact s_mshuf hM0.2.2.2.2.2.2.1 (fun v' hB => h1 q hq rfl hs hs3' (sI v 0 0) v' (fx_sI fx_rf (by decide)) hM0 hB)
  · rintro ⟨q, hq, e, e1, e2⟩
    apply hs3
    rw [Int32.lt_iff_toInt_lt] at e2
    rw [Int32.le_iff_toInt_le]; omega
/-! a call -/
def gK (v1 : Int32) (b n m : Nat) (cs : Nat → Nat) (k n' : Nat) (cs' : Nat → Nat) : Prop :=
  (phs b cs n m ≠ 1 ∧ k = 1 ∧ n' = n ∧ cs' = cs) ∨ (phs b cs n m = 1 ∧ (v1 < 0 ∨ 17 < v1) ∧ k = 2 ∧ n' = n ∧ cs' = cs) ∨ (phs b cs n m = 1 ∧ (∃ c, c ≤ 17 ∧ v1 = i3 c ∧ ¬ au_ok cs n c) ∧ k = 3 ∧ n' = n ∧ cs' = cs) ∨ (phs b cs n m = 1 ∧ ∃ c, c ≤ 17 ∧ v1 = i3 c ∧ au_ok cs n c ∧ k = 0 ∧ n' = n + 1 ∧ cs' = va_up cs n c)
theorem gK_ex (v1 : Int32) (b n m : Nat) (cs : Nat → Nat) : ∃ k n' cs', gK v1 b n m cs k n' cs' := by
  by_cases h1 : phs b cs n m = 1
  · by_cases h2 : v1 < 0 ∨ 17 < v1
    · exact ⟨2, n, cs, Or.inr (Or.inl ⟨h1, h2, rfl, rfl, rfl⟩)⟩
    · obtain ⟨c, hc, e⟩ := i3_ex (fun h => h2 (Or.inl h))
      have hc17 : c ≤ 17 := by
        apply Classical.byContradiction
        intro hh
        apply h2
        rw [e, i3_17, i3_lt (by omega) (by omega)]; exact Or.inr (by omega)
      by_cases h3 : au_ok cs n c
      · exact ⟨0, n + 1, va_up cs n c, Or.inr (Or.inr (Or.inr ⟨h1, c, hc17, e, h3, rfl, rfl, rfl⟩))⟩
      · exact ⟨3, n, cs, Or.inr (Or.inr (Or.inl ⟨h1, ⟨c, hc17, e, h3⟩, rfl, rfl, rfl⟩))⟩
  · exact ⟨1, n, cs, Or.inl ⟨h1, rfl, rfl, rfl⟩⟩
theorem gK_le {v1 : Int32} {k n' : Nat} {cs' : Nat → Nat} (h : gK v1 b n m cs k n' cs') : k ≤ 3 := by
  rcases h with h | h | h | ⟨-, c, h⟩ <;> omega
theorem gK_up {c : Nat} (hc : c ≤ 17) (hA : ∀ i, i < n → cs i ≤ 17) : ∀ i, i < n + 1 → va_up cs n c i ≤ 17 := by
  intro i hi
  by_cases he : i = n
  · subst he; rw [va_up_s]; exact hc
  · rw [va_up_n he]; exact hA i (by omega)
theorem gG_call {v1 : Int32} {k n' : Nat} {cs' : Nat → Nat} (hG : gG b d n m cs cd ow) (h : gK v1 b n m cs k n' cs') : gG b d n' m cs' cd ow := by
  rcases h with ⟨-, -, rfl, rfl⟩ | ⟨-, -, -, rfl, rfl⟩ | ⟨-, -, -, rfl, rfl⟩ | ⟨h1, c, hc, -, hok, -, rfl, rfl⟩
  · exact hG
  · exact hG
  · exact hG
  · obtain ⟨p1, p2, p3⟩ := ph1 hG h1
    obtain ⟨g1, g2, g3, g4, g5, g6, g7⟩ := hG
    have hj : ∀ j, j < n → cs j = va_up cs n c j := fun j hj => (va_up_n (by omega)).symm
    subst p3
    refine ⟨g1, fun h => by omega, g3, ⟨au_V_congr hj g4, fun he => (au_en0.mp p2) (au_end_congr (fun j h => (hj j h).symm) he), by rw [va_up_s]; exact hc, by rw [va_up_s]; exact au_ok_congr hj hok⟩, fun h => by omega, fun i hi => by omega, g7⟩
theorem c_call {v1 : Int32} {k n' : Nat} {cs' : Nat → Nat} {post : ZS → Prop} {exc : String → ZS → Prop} (hG : gG b d n m cs cd ow) (hC : gC u b d n m cs cd ow r) (hK : gK v1 b n m cs k n' cs')
    (h0 : k = 0 → ∀ u', fx [2, 5] [] [3, 7] [] u u' → gC u' b d n' m cs' cd ow r → post u') (h1 : k = 1 → gC u b d n' m cs' cd ow r → exc "java/lang/IllegalStateException" u) (h2 : k = 2 → gC u b d n' m cs' cd ow r → exc "java/lang/IllegalArgumentException" u) (h3 : k = 3 → gC u b d n' m cs' cd ow r → exc "java/lang/UnsupportedOperationException" u) : w_x_call v1 u post exc := by
  have hG' := gG_call hG hK
  unfold w_x_call
  refine c_ph hG hC ?_
  rw [i3_1, ph_eq (by omega)]
  rcases hK with ⟨k1, k2, rfl, rfl⟩ | ⟨k1, k2, k3, rfl, rfl⟩ | ⟨k1, ⟨c, hc, rfl, hno⟩, k3, rfl, rfl⟩ | ⟨k1, c, hc, rfl, hok, k3, rfl, rfl⟩
  · exact ⟨fun hx => absurd hx k1, fun _ => h1 k2 hC⟩
  · refine ⟨fun _ => s_iscall (fun _ => ⟨fun hx => absurd rfl hx, fun _ => h2 k3 hC⟩) (fun c hc e => ?_), fun hx => absurd k1 hx⟩
    exfalso
    subst e
    rcases k2 with k2 | k2
    · rw [i3_n0 (by omega)] at k2; exact k2
    · rw [i3_17, i3_lt (by omega) (by omega)] at k2; omega
  · refine ⟨fun _ => s_iscall (fun ho => ?_) (fun c' hc' e => ⟨fun _ => s_allows hC.2.1 hc (fun hok => absurd hok hno) (fun _ => ⟨fun hx => absurd rfl hx, fun _ => h3 k3 hC⟩), fun hx => absurd hx (by decide)⟩), fun hx => absurd k1 hx⟩
    exfalso
    rcases ho with ho | ho
    · rw [i3_n0 (by omega)] at ho; exact ho
    · rw [i3_17, i3_lt (by omega) (by omega)] at ho; omega
  · obtain ⟨p1, p2, p3⟩ := ph1 hG k1
    have hn138 := (au_len hG.2.2.2.1).2 (au_en0.mp p2)
    refine ⟨fun _ => s_iscall (fun ho => ?_) (fun c' hc' e => ⟨fun _ => s_allows hC.2.1 hc (fun _ => ⟨fun _ => s_add hC.2.1 (by omega) ?_, fun hx => absurd hx (by decide)⟩) (fun hno => absurd hok hno), fun hx => absurd hx (by decide)⟩), fun hx => absurd k1 hx⟩
    · exfalso
      rcases ho with ho | ho
      · rw [i3_n0 (by omega)] at ho; exact ho
      · rw [i3_17, i3_lt (by omega) (by omega)] at ho; omega
    · generalize hu1 : sI (pI u 3 n (i3 c)) 2 (i3 (n + 1)) = u1
      have hx1 : fx [2, 5] [] [3, 7] [] u u1 := by rw [← hu1]; exact fx_sI (fx_pI fx_rf (by decide)) (by decide)
      obtain ⟨c1, ⟨a1', a2', a3', a4', a5', a6'⟩, c3, c4, c5, c6⟩ := hC
      have hA1 : cA u1 (n + 1) d (va_up cs n c) := by
        rw [← hu1]
        refine ⟨f1, by rw [f2 (by decide), f4]; exact a2', by omega, a4', gK_up hc a5', fun i hi => ?_⟩
        rw [a3, a1]
        by_cases he : i = n
        · subst he; rw [up1, va_up_s]
        · rw [up2 he, va_up_n he]; exact a6' i (by omega)
      have hH1 : cH u1 b m cd ow := cH_fx (fi := [2]) (fj := []) (ai := [3]) (aj := []) (by rw [← hu1]; exact fx_sI (fx_pI fx_rf (by decide)) (by decide)) (by decide) (by decide) (by decide) c3
      have hf0 : fI u1 0 = i3 b := by rw [hx1.1 0 (by decide)]; exact c1
      have hf6 : fI u1 6 = i3 r := by rw [hx1.1 6 (by decide)]; exact c6
      have hC1 : b = 1 → cC u1 ow := fun hb => cC_fx hx1 (by decide) (c5 hb)
      refine s_phase hA1 hf0 hG.1 hH1.1 hG.2.2.2.2.2.2 ?_
      rw [i3_2, ph_eq (by omega)]
      refine ⟨fun hx => ?_, fun hx => ?_⟩
      · refine h0 k3 u1 hx1 ⟨hf0, hA1, hH1, fun he hb => ?_, hC1, hf6⟩
        exfalso
        apply hx
        rcases ph_cases b (va_up cs n c) (n + 1) m with h | h | h | h <;> omega
      · obtain ⟨q1, q2, q3, q4⟩ := ph2 hG' hx
        refine s_dec hA1 (fun h => by omega) (fun _ => s_bid hA1 (fun h => by omega) (fun _ => ?_))
        unfold w_au_strain w_ha_beginPlay w_x_playerBehind
        have hb17 := au_bid_le hA1.2.2.2.2.1
        have hdc := au_dc_lt d (va_up cs n c) (n + 1)
        have e1 : (i3 (au_dc d (va_up cs n c) (n + 1)) + 1 - (i3 (au_dc d (va_up cs n c) (n + 1)) + 1) / 4 * 4) = i3 (gl d (va_up cs n c) (n + 1)) := by
          unfold gl
          simp (disch := omega) only [i3_0, i3_1, i3_2, i3_3, i3_4, i3_5, i3_6, i3_10, i3_12, i3_15, i3_17, i3_19, i3_20, i3_21, i3_31, i3_139, i3_add, i3_div, i3_mul, i3_sub, nrem]
        have e2 : (i3 (au_bid (va_up cs n c) (n + 1)) - 3 - (i3 (au_bid (va_up cs n c) (n + 1)) - 3) / 5 * 5) = i3 (gt (va_up cs n c) (n + 1)) := by
          unfold gt
          simp (disch := omega) only [i3_0, i3_1, i3_2, i3_3, i3_4, i3_5, i3_6, i3_10, i3_12, i3_15, i3_17, i3_19, i3_20, i3_21, i3_31, i3_139, i3_add, i3_div, i3_mul, i3_sub, nrem]
        rw [e1, e2]
        have e0 : Int32.toNatClampNeg 0 = 0 := rfl
        rw [e0]
        refine ⟨by unfold vp_in; decide, h0 k3 _ (fx_sI (fx_pI hx1 (by decide)) (by decide)) ⟨?_, ?_, ?_, fun _ _ => ⟨f1, ?_, ?_, fun j hj => ?_⟩, fun hb => ?_, ?_⟩⟩
        · rw [f2 (by decide), f4]; exact hf0
        · exact cA_fx (fi := [5]) (fj := []) (ai := [7]) (aj := []) (fx_sI (fx_pI fx_rf (by decide)) (by decide)) (by decide) (by decide) (by decide) hA1
        · exact cH_fx (fi := [5]) (fj := []) (ai := [7]) (aj := []) (fx_sI (fx_pI fx_rf (by decide)) (by decide)) (by decide) (by decide) (by decide) hH1
        · unfold gt; omega
        · unfold gl; omega
        · subst p3
          have e : j = 0 := by omega
          subst e
          rw [a3, a1, up1]; rfl
        · exact cC_fx (fi := [5]) (fj := []) (ai := [7]) (aj := []) (fx_sI (fx_pI fx_rf (by decide)) (by decide)) (by decide) (hC1 hb)
        · rw [f2 (by decide), f4]; exact hf6
theorem m_call {v1 : Int32} {k n' : Nat} {cs' : Nat → Nat} {post : ZS → Prop} (hG : gG b d n m cs cd ow) (hM : gM v b d n m cs cd ow r) (hK : gK v1 b n m cs k n' cs')
    (h : ∀ v', fx [0, 4, 6, 7, 8, 9] [] [1] [] v v' → gM v' b d n' m cs' cd ow r → fI v' 0 = i3 k → post v') : w_m_call v1 v post := by
  have hk3 := gK_le hK
  unfold w_m_call
  refine m_pn hG hM (fun v2 hx2 hM2 hR2 => ?_)
  have hx02 : fx [0, 4, 6, 7, 8, 9] [] [1] [] v v2 := fx_mo hx2 (by decide) (by decide) (by decide) (by decide)
  have bad : ∀ q : Nat, q = k → k ≠ 0 → n' = n → cs' = cs → b_m_call_40 post v1 (i3 q) v2 := by
    intro q hq hk0 e1 e2
    subst e1; subst e2; subst hq
    unfold b_m_call_40 b_m_call_70
    rw [f1, i3_0, i3_eq (by omega) (by omega)]
    exact ⟨fun _ => h _ (fx_sI hx02 (by decide)) (gM_sI0 hM2) f1, fun hx => absurd hx hk0⟩
  rw [i3_1, ph_eq (by omega)]
  rcases hK with ⟨k1, k2, e1, e2⟩ | ⟨k1, k2, k3, e1, e2⟩ | ⟨k1, ⟨c, hc, rfl, hno⟩, k3, e1, e2⟩ | ⟨k1, c, hc, rfl, hok, k3, rfl, rfl⟩
  · exact ⟨fun hx => absurd hx k1, fun _ => bad 1 k2.symm (by omega) e1 e2⟩
  · refine ⟨fun _ => ⟨fun _ => bad 2 k3.symm (by omega) e1 e2, fun hx => ⟨fun hy => ?_, fun _ => bad 2 k3.symm (by omega) e1 e2⟩⟩, fun hx => absurd k1 hx⟩
    exfalso
    rcases k2 with k2 | k2
    · exact hx k2
    · rw [Int32.lt_iff_toInt_lt] at k2; rw [Int32.le_iff_toInt_le] at hy; omega
  · refine ⟨fun _ => ⟨fun hx => ?_, fun _ => ⟨fun _ => ?_, fun hy => ?_⟩⟩, fun hx => absurd k1 hx⟩
    · rw [i3_n0 (by omega)] at hx; exact hx.elim
    · obtain ⟨p1, -, -⟩ := ph1 hG k1
      refine s_mallowed hM2.2.1 (hR2 p1).1 hc (fun hok => absurd hok hno) (fun _ => ⟨fun _ => bad 3 k3.symm (by omega) e1 e2, fun hx => absurd rfl hx⟩)
    · rw [i3_17, i3_le (by omega) (by omega)] at hy; omega
  · obtain ⟨p1, p2, p3⟩ := ph1 hG k1
    have hn138 := (au_len hG.2.2.2.1).2 (au_en0.mp p2)
    refine ⟨fun _ => ⟨fun hx => ?_, fun _ => ⟨fun _ => ?_, fun hy => ?_⟩⟩, fun hx => absurd k1 hx⟩
    · rw [i3_n0 (by omega)] at hx; exact hx.elim
    · refine s_mallowed hM2.2.1 (hR2 p1).1 hc (fun _ => ⟨fun hx => absurd hx (by decide), fun _ => ?_⟩) (fun hno => absurd hok hno)
      unfold b_m_call_40 b_m_call_70
      obtain ⟨m1, ⟨a1', a2', a3', a4', a5', a6'⟩, m3, m4, m5, m6, m7, m8, m9⟩ := hM2
      rw [f4, f1, f2 (by decide), a1', i3_in (by omega), i3_nat (by omega), i3_1, i3_add]
      refine ⟨fun hx => absurd rfl hx, fun _ => ⟨by omega, h _ (fx_sI (fx_pI (fx_sI hx02 (by decide)) (by decide)) (by decide)) ⟨?_, ⟨f1, ?_, by omega, a4', gK_up hc a5', fun i hi => ?_⟩, ?_, ?_, ?_, ?_, ?_, ?_, fun hm => by omega⟩ ?_⟩⟩
      · rw [f2 (by decide), f4, f2 (by decide)]; exact m1
      · rw [f2 (by decide), f4, f2 (by decide)]; exact a2'
      · rw [a3, a1, a3]
        by_cases he : i = n
        · subst he; rw [up1, va_up_s]
        · rw [up2 he, va_up_n he]; exact a6' i (by omega)
      · rw [f2 (by decide), f4, f2 (by decide)]; exact m3
      · rw [a3, a2 (by decide), a3]; exact m4
      · rw [a3, a2 (by decide), a3]; exact m5
      · rw [a3, a2 (by decide), a3]; exact m6
      · exact m7
      · rw [f2 (by decide), f4, f2 (by decide)]; exact m8
      · rw [f2 (by decide), f4, f1, k3]; rfl
    · rw [i3_17, i3_le (by omega) (by omega)] at hy; omega
end Cm1
