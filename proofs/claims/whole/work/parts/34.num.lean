/-! whole numbers as ints and longs -/
def i3 (n : Nat) : Int32 := Int32.ofNat n
def j6 (n : Nat) : Int64 := Int64.ofNat n
theorem i3_z {a : Nat} (h : a < 2147483648) : (i3 a).toInt = a := Int32.toInt_ofNat_of_lt h
theorem i3_0 : (0 : Int32) = i3 0 := rfl
theorem i3_1 : (1 : Int32) = i3 1 := rfl
theorem i3_2 : (2 : Int32) = i3 2 := rfl
theorem i3_3 : (3 : Int32) = i3 3 := rfl
theorem i3_4 : (4 : Int32) = i3 4 := rfl
theorem i3_5 : (5 : Int32) = i3 5 := rfl
theorem i3_6 : (6 : Int32) = i3 6 := rfl
theorem i3_10 : (10 : Int32) = i3 10 := rfl
theorem i3_12 : (12 : Int32) = i3 12 := rfl
theorem i3_15 : (15 : Int32) = i3 15 := rfl
theorem i3_17 : (17 : Int32) = i3 17 := rfl
theorem i3_19 : (19 : Int32) = i3 19 := rfl
theorem i3_20 : (20 : Int32) = i3 20 := rfl
theorem i3_21 : (21 : Int32) = i3 21 := rfl
theorem i3_31 : (31 : Int32) = i3 31 := rfl
theorem i3_139 : (139 : Int32) = i3 139 := rfl
theorem i3_eq {a b : Nat} (ha : a < 2147483648) (hb : b < 2147483648) : (i3 a = i3 b) ↔ a = b := by
  rw [← Int32.toInt_inj, i3_z ha, i3_z hb]; omega
theorem i3_lt {a b : Nat} (ha : a < 2147483648) (hb : b < 2147483648) : (i3 a < i3 b) ↔ a < b := by
  rw [Int32.lt_iff_toInt_lt, i3_z ha, i3_z hb]; omega
theorem i3_le {a b : Nat} (ha : a < 2147483648) (hb : b < 2147483648) : (i3 a ≤ i3 b) ↔ a ≤ b := by
  rw [Int32.le_iff_toInt_le, i3_z ha, i3_z hb]; omega
theorem i3_add {a b : Nat} : i3 a + i3 b = i3 (a + b) := (Int32.ofNat_add a b).symm
theorem i3_mul {a b : Nat} : i3 a * i3 b = i3 (a * b) := (Int32.ofNat_mul a b).symm
theorem i3_sub {a b : Nat} (h : b ≤ a) : i3 a - i3 b = i3 (a - b) := by
  have e : i3 a = i3 (a - b) + i3 b := by rw [i3_add]; congr 1; omega
  rw [e, Int32.add_sub_cancel]
theorem i3_dec {a : Nat} (h : 1 ≤ a) : i3 a + -(i3 1) = i3 (a - 1) := by
  have e : i3 a = i3 (a - 1) + i3 1 := by rw [i3_add]; congr 1; omega
  rw [e, Int32.add_assoc]
  show i3 (a - 1) + 0 = i3 (a - 1)
  rw [Int32.add_zero]
theorem i3_div {a b : Nat} (ha : a < 2147483648) (hb : b < 2147483648) : i3 a / i3 b = i3 (a / b) := by
  have hne : i3 b ≠ -1 := by
    intro h
    have := congrArg Int32.toInt h
    rw [i3_z hb] at this
    have e : (-1 : Int32).toInt = -1 := rfl
    rw [e] at this; omega
  have hd : a / b < 2147483648 := Nat.lt_of_le_of_lt (Nat.div_le_self a b) ha
  rw [← Int32.toInt_inj, Int32.toInt_div_of_ne_right _ _ hne, i3_z ha, i3_z hb, i3_z hd]
  exact Int.ofNat_tdiv a b
theorem nrem (a b : Nat) : a - a / b * b = a % b := by
  have h := Nat.div_add_mod a b
  rw [Nat.mul_comm] at h
  omega
theorem i3_nat {a : Nat} (ha : a < 2147483648) : Int32.toNatClampNeg (i3 a) = a := by
  show (i3 a).toInt.toNat = a
  rw [i3_z ha]; rfl
theorem i3_in {a n : Nat} (ha : a < 2147483648) : vp_in (i3 a) n ↔ a < n := by
  unfold vp_in
  rw [i3_nat ha]
  have h0 : ¬ i3 a < 0 := by rw [i3_0, i3_lt ha (by omega)]; omega
  simp only [h0, false_or]; omega
theorem i3_m1 {a : Nat} (ha : a < 2147483648) : (i3 a = -(i3 1)) ↔ False := by
  refine ⟨fun h => ?_, fun h => h.elim⟩
  have := congrArg Int32.toInt h
  rw [i3_z ha] at this
  have e : (-(i3 1)).toInt = -1 := rfl
  rw [e] at this; omega
theorem i3_n0 {a : Nat} (ha : a < 2147483648) : (i3 a < (0 : Int32)) ↔ False := by rw [i3_0, i3_lt ha (by omega)]; exact ⟨fun h => absurd h (Nat.not_lt_zero _), False.elim⟩
theorem i3_and {a : Nat} (k : Nat) (hk : k ≤ 31) : i3 a &&& i3 (2 ^ k - 1) = i3 (a % 2 ^ k) := by
  apply Int32.toBitVec_inj.mp
  show BitVec.ofNat 32 a &&& BitVec.ofNat 32 (2 ^ k - 1) = BitVec.ofNat 32 (a % 2 ^ k)
  have h1 : 2 ^ k ∣ 2 ^ 32 := Nat.pow_dvd_pow 2 (by omega)
  have h2 : 2 ^ k ≤ 2 ^ 31 := Nat.pow_le_pow_right (by omega) hk
  have h3 : 0 < 2 ^ k := Nat.pow_pos (by omega)
  apply BitVec.eq_of_toNat_eq
  rw [BitVec.toNat_and, BitVec.toNat_ofNat, BitVec.toNat_ofNat, BitVec.toNat_ofNat, Nat.mod_eq_of_lt (a := 2 ^ k - 1) (by omega), Nat.and_two_pow_sub_one_eq_mod, Nat.mod_mod_of_dvd _ h1]
  have h4 := Nat.mod_lt a h3
  rw [Nat.mod_eq_of_lt (a := a % 2 ^ k) (by omega)]
theorem i3_a1 {a : Nat} : i3 a &&& i3 1 = i3 (a % 2) := i3_and 1 (by omega)
theorem i3_a3 {a : Nat} : i3 a &&& i3 3 = i3 (a % 4) := i3_and 2 (by omega)
theorem i3_a31 {a : Nat} : i3 a &&& i3 31 = i3 (a % 32) := i3_and 5 (by omega)
theorem i3_neg {a : Nat} (ha : a < 2147483648) : (-(i3 a)).toInt = -(a : Int) := by
  rw [Int32.toInt_neg, i3_z ha]
  simp only [Int.bmod]
  split <;> omega
theorem j6_z {a : Nat} (h : a < 9223372036854775808) : (j6 a).toInt = a := Int64.toInt_ofNat_of_lt h
theorem j6_eq {a b : Nat} (ha : a < 9223372036854775808) (hb : b < 9223372036854775808) : (j6 a = j6 b) ↔ a = b := by
  rw [← Int64.toInt_inj, j6_z ha, j6_z hb]; omega
theorem j6_lt {a b : Nat} (ha : a < 9223372036854775808) (hb : b < 9223372036854775808) : (j6 a < j6 b) ↔ a < b := by
  rw [Int64.lt_iff_toInt_lt, j6_z ha, j6_z hb]; omega
theorem j6_le {a b : Nat} (ha : a < 9223372036854775808) (hb : b < 9223372036854775808) : (j6 a ≤ j6 b) ↔ a ≤ b := by
  rw [Int64.le_iff_toInt_le, j6_z ha, j6_z hb]; omega
theorem j6_add {a b : Nat} : j6 a + j6 b = j6 (a + b) := (Int64.ofNat_add a b).symm
theorem j6_mul {a b : Nat} : j6 a * j6 b = j6 (a * b) := (Int64.ofNat_mul a b).symm
theorem j6_sub {a b : Nat} (h : b ≤ a) : j6 a - j6 b = j6 (a - b) := by
  have e : j6 a = j6 (a - b) + j6 b := by rw [j6_add]; congr 1; omega
  rw [e, Int64.add_sub_cancel]
theorem j6_div {a b : Nat} (ha : a < 9223372036854775808) (hb : b < 9223372036854775808) : j6 a / j6 b = j6 (a / b) := by
  have hne : j6 b ≠ -1 := by
    intro h
    have := congrArg Int64.toInt h
    rw [j6_z hb] at this
    have e : (-1 : Int64).toInt = -1 := rfl
    rw [e] at this; omega
  have hd : a / b < 9223372036854775808 := Nat.lt_of_le_of_lt (Nat.div_le_self a b) ha
  rw [← Int64.toInt_inj, Int64.toInt_div_of_ne_right _ _ hne, j6_z ha, j6_z hb, j6_z hd]
  exact Int.ofNat_tdiv a b
theorem j6_of {a : Nat} (ha : a < 2147483648) : Int32.toInt64 (i3 a) = j6 a := by
  rw [← Int64.toInt_inj, Int32.toInt_toInt64, i3_z ha, j6_z (by omega)]
theorem j6_to {a : Nat} (ha : a < 2147483648) : Int64.toInt32 (j6 a) = i3 a := by
  have h : Int64.toInt32 (Int32.toInt64 (i3 a)) = i3 a := Int32.toInt32_toInt64 _
  rw [j6_of ha] at h
  exact h
theorem j6_0 : (0 : Int64) = j6 0 := rfl
theorem j6_1 : (1 : Int64) = j6 1 := rfl
theorem j6_D : (11732745024 : Int64) = j6 11732745024 := rfl
/-! cells of a picture behind a store -/
section Cells
variable {u : ZS} {k j i : Nat} {v : Int32} {w : Int64}
theorem f1 : fI (sI u k v) k = v := by simp [fI, sI]
theorem f2 (h : j ≠ k) : fI (sI u k v) j = fI u j := by simp [fI, sI, h]
theorem f3 : fI (sJ u k w) j = fI u j := rfl
theorem f4 : fI (pI u k i v) j = fI u j := rfl
theorem f5 : fI (pJ u k i w) j = fI u j := rfl
theorem g1 : fJ (sJ u k w) k = w := by simp [fJ, sJ]
theorem g2 (h : j ≠ k) : fJ (sJ u k w) j = fJ u j := by simp [fJ, sJ, h]
theorem g3 : fJ (sI u k v) j = fJ u j := rfl
theorem g4 : fJ (pI u k i v) j = fJ u j := rfl
theorem g5 : fJ (pJ u k i w) j = fJ u j := rfl
theorem a1 : aI (pI u k i v) k = upd (aI u k) i v := by simp [aI, pI]
theorem a2 (h : j ≠ k) : aI (pI u k i v) j = aI u j := by simp [aI, pI, h]
theorem a3 : aI (sI u k v) j = aI u j := rfl
theorem a4 : aI (sJ u k w) j = aI u j := rfl
theorem a5 : aI (pJ u k i w) j = aI u j := rfl
theorem zh1 : aJ (pJ u k i w) k = vp_updL (aJ u k) i w := by simp [aJ, pJ]
theorem zh2 (h : j ≠ k) : aJ (pJ u k i w) j = aJ u j := by simp [aJ, pJ, h]
theorem zh3 : aJ (sI u k v) j = aJ u j := rfl
theorem zh4 : aJ (sJ u k w) j = aJ u j := rfl
theorem zh5 : aJ (pI u k i v) j = aJ u j := rfl
end Cells
theorem up1 {f : Nat → Int32} {k : Nat} {x : Int32} : upd f k x k = x := by simp [upd]
theorem up2 {f : Nat → Int32} {k j : Nat} {x : Int32} (h : j ≠ k) : upd f k x j = f j := by simp [upd, h]
theorem ul1 {f : Nat → Int64} {k : Nat} {x : Int64} : vp_updL f k x k = x := by simp [vp_updL]
theorem ul2 {f : Nat → Int64} {k j : Nat} {x : Int64} (h : j ≠ k) : vp_updL f k x j = f j := by simp [vp_updL, h]
/-- all but these cells are as they were -/
def fx (fi fj ai aj : List Nat) (u u' : ZS) : Prop := (∀ k, k ∉ fi → fI u' k = fI u k) ∧ (∀ k, k ∉ fj → fJ u' k = fJ u k) ∧ (∀ k, k ∉ ai → aI u' k = aI u k) ∧ (∀ k, k ∉ aj → aJ u' k = aJ u k)
section Frames
variable {fi fj ai aj : List Nat} {u u' u'' : ZS} {k i : Nat} {v : Int32} {w : Int64}
theorem fx_rf : fx fi fj ai aj u u := ⟨fun _ _ => rfl, fun _ _ => rfl, fun _ _ => rfl, fun _ _ => rfl⟩
theorem fx_tr (h1 : fx fi fj ai aj u u') (h2 : fx fi fj ai aj u' u'') : fx fi fj ai aj u u'' :=
  ⟨fun k h => (h2.1 k h).trans (h1.1 k h), fun k h => (h2.2.1 k h).trans (h1.2.1 k h), fun k h => (h2.2.2.1 k h).trans (h1.2.2.1 k h), fun k h => (h2.2.2.2 k h).trans (h1.2.2.2 k h)⟩
theorem fx_mo {fi' fj' ai' aj' : List Nat} (h : fx fi fj ai aj u u') (e1 : ∀ k ∈ fi, k ∈ fi') (e2 : ∀ k ∈ fj, k ∈ fj') (e3 : ∀ k ∈ ai, k ∈ ai') (e4 : ∀ k ∈ aj, k ∈ aj') : fx fi' fj' ai' aj' u u' :=
  ⟨fun k hk => h.1 k (fun h => hk (e1 k h)), fun k hk => h.2.1 k (fun h => hk (e2 k h)), fun k hk => h.2.2.1 k (fun h => hk (e3 k h)), fun k hk => h.2.2.2 k (fun h => hk (e4 k h))⟩
theorem fx_sI (h : fx fi fj ai aj u u') (hk : k ∈ fi) : fx fi fj ai aj u (sI u' k v) :=
  ⟨fun j hj => by rw [f2 (k := k) (j := j) (fun e => hj (by rw [e]; exact hk))]; exact h.1 j hj, h.2.1, h.2.2.1, h.2.2.2⟩
theorem fx_sJ (h : fx fi fj ai aj u u') (hk : k ∈ fj) : fx fi fj ai aj u (sJ u' k w) :=
  ⟨h.1, fun j hj => by rw [g2 (k := k) (j := j) (fun e => hj (by rw [e]; exact hk))]; exact h.2.1 j hj, h.2.2.1, h.2.2.2⟩
theorem fx_pI (h : fx fi fj ai aj u u') (hk : k ∈ ai) : fx fi fj ai aj u (pI u' k i v) :=
  ⟨h.1, h.2.1, fun j hj => by rw [a2 (k := k) (j := j) (fun e => hj (by rw [e]; exact hk))]; exact h.2.2.1 j hj, h.2.2.2⟩
theorem fx_pJ (h : fx fi fj ai aj u u') (hk : k ∈ aj) : fx fi fj ai aj u (pJ u' k i w) :=
  ⟨h.1, h.2.1, h.2.2.1, fun j hj => by rw [zh2 (k := k) (j := j) (fun e => hj (by rw [e]; exact hk))]; exact h.2.2.2 j hj⟩
end Frames
