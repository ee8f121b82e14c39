/-! bits of an int -/
def bt (x : Int32) (c : Nat) : Bool := x.toBitVec.getLsbD c
theorem bt_hi {x : Int32} {c : Nat} (h : 32 ≤ c) : bt x c = false := BitVec.getLsbD_of_ge _ _ h
theorem bt_ext {x y : Int32} (h : ∀ c, c < 32 → bt x c = bt y c) : x = y := by
  apply Int32.toBitVec_inj.mp
  apply BitVec.eq_of_getLsbD_eq
  intro i hi
  exact h i hi
theorem bt_or (x y : Int32) (c : Nat) : bt (x ||| y) c = (bt x c || bt y c) := by
  unfold bt
  rw [Int32.toBitVec_or, BitVec.getLsbD_or]
theorem bt_and (x y : Int32) (c : Nat) : bt (x &&& y) c = (bt x c && bt y c) := by
  unfold bt
  rw [Int32.toBitVec_and, BitVec.getLsbD_and]
theorem bt_xor (x y : Int32) (c : Nat) : bt (x ^^^ y) c = (bt x c ^^ bt y c) := by
  unfold bt
  rw [Int32.toBitVec_xor, BitVec.getLsbD_xor]
theorem bt_0 (c : Nat) : bt (i3 0) c = false := by
  show (0#32).getLsbD c = false
  exact BitVec.getLsbD_zero
theorem bt_m1 {c : Nat} (h : c < 32) : bt (-(i3 1)) c = true := by
  have e : (-(i3 1)).toBitVec = BitVec.allOnes 32 := by decide
  unfold bt
  rw [e, BitVec.getLsbD_allOnes]
  simp [h]
theorem bt_z {x : Int32} : x = i3 0 ↔ ∀ c, c < 32 → bt x c = false := by
  refine ⟨fun h c _ => by rw [h]; exact bt_0 c, fun h => bt_ext (fun c hc => by rw [h c hc, bt_0])⟩
theorem bt_one_t : ((List.range 32).all fun c => (List.range 32).all fun j => bt (i3 1 <<< i3 c) j == decide (j = c)) = true := by decide +kernel
theorem bt_one {c j : Nat} (hc : c < 32) : bt (i3 1 <<< i3 c) j = decide (j = c) := by
  by_cases hj : j < 32
  · exact eq_of_beq (rk_allT (rk_allT bt_one_t hc) hj)
  · rw [bt_hi (by omega)]; have : ¬ j = c := by omega
    simp [this]
theorem bt_suit_t : ((List.range 4).all fun s => (List.range 32).all fun j => bt (i3 31 <<< i3 (s * 5)) j == decide (j / 5 = s)) = true := by decide +kernel
theorem bt_suit {s j : Nat} (hs : s < 4) : bt (i3 31 <<< i3 (s * 5)) j = decide (j / 5 = s) := by
  by_cases hj : j < 32
  · exact eq_of_beq (rk_allT (rk_allT bt_suit_t hs) hj)
  · rw [bt_hi (by omega)]; have : ¬ j / 5 = s := by omega
    simp [this]
theorem bt_btw_t : ((List.range 20).all fun c => (List.range 20).all fun h => !decide (c < h) || (List.range 32).all fun j => bt ((i3 1 <<< i3 h) - (i3 1 <<< i3 (c + 1))) j == decide (c < j ∧ j < h)) = true := by decide +kernel
theorem bt_btw {c h j : Nat} (hc : c < h) (hh : h < 20) : bt ((i3 1 <<< i3 h) - (i3 1 <<< i3 (c + 1))) j = decide (c < j ∧ j < h) := by
  by_cases hj : j < 32
  · have e := rk_allT (rk_allT bt_btw_t (show c < 20 by omega)) hh
    simp only [Bool.or_eq_true, Bool.not_eq_true', decide_eq_false_iff_not] at e
    rcases e with e | e
    · omega
    · exact eq_of_beq (rk_allT e hj)
  · rw [bt_hi (by omega)]; have : ¬ (c < j ∧ j < h) := by omega
    simp [this]
theorem bt_sm_t : ((List.range 32).all fun c => (i3 c).toBitVec.smod 32 == BitVec.ofNat 32 c) = true := by decide +kernel
theorem bt_at {x : Int32} {c : Nat} (hc : c < 32) : ((x >>> i3 c) &&& i3 1 = i3 1) ↔ bt x c = true := by
  have e1 : (i3 c).toBitVec.smod 32 = BitVec.ofNat 32 c := eq_of_beq (rk_allT bt_sm_t hc)
  have e2 : bt (x >>> i3 c) 0 = bt x c := by
    unfold bt
    rw [Int32.toBitVec_shiftRight, e1, BitVec.sshiftRight_eq', BitVec.toNat_ofNat, Nat.mod_eq_of_lt (by omega), BitVec.getLsbD_sshiftRight]
    simp [hc]
  have e3 : ∀ j, bt (i3 1) j = decide (j = 0) := fun j => bt_one (c := 0) (j := j) (by omega)
  refine ⟨fun h => ?_, fun h => ?_⟩
  · have := congrArg (fun y => bt y 0) h
    simp only [bt_and, e2, e3] at this
    simpa using this
  · apply bt_ext
    intro j hj
    rw [bt_and, e3]
    by_cases h0 : j = 0
    · subst h0; rw [e2, h]; rfl
    · simp [h0]
/-- an int between bounds is a number -/
theorem i3_ex {v : Int32} (h : ¬ v < 0) : ∃ c : Nat, c < 2147483648 ∧ v = i3 c := by
  have z0 : (0 : Int32).toInt = 0 := rfl
  rw [Int32.lt_iff_toInt_lt, z0] at h
  have hl := Int32.toInt_lt v
  refine ⟨v.toInt.toNat, by omega, ?_⟩
  rw [← Int32.toInt_inj, i3_z (by omega)]
  omega
