/-! scores, points, results -/
def sc_lv (b : Int32) : Int32 := 1 + (b - 3) / 5
def sc_sn (b : Int32) : Int32 := (b - 3) - (b - 3) / 5 * 5
def sc_wo (b : Int32) : Int32 := if 2 ≤ sc_sn b then 30 else 20
def sc_m1 (b x : Int32) : Int32 := (sc_lv b * sc_wo b + (if sc_sn b = 4 then 10 else 0)) <<< (x &&& 31)
def sc_md (b x v : Int32) : Int32 := (if sc_lv b = 3 then (if v = 0 then (if 100 ≤ sc_m1 b x then (if v = 0 then sc_m1 b x + 300 else sc_m1 b x + 500) else sc_m1 b x + 50) + 400 else (if 100 ≤ sc_m1 b x then (if v = 0 then sc_m1 b x + 300 else sc_m1 b x + 500) else sc_m1 b x + 50) + 600) else (if 100 ≤ sc_m1 b x then (if v = 0 then sc_m1 b x + 300 else sc_m1 b x + 500) else sc_m1 b x + 50)) + 50 * x
def sc_ex (b x v : Int32) : Int32 := if x = 0 then sc_wo b else (if v = 0 then 100 * x else 200 * x)
def sc_mt (k v : Int32) : Int32 := if k = 1 then (if v = 0 then 100 else 200) else (if v = 0 then (if k ≤ 3 then 200 else 300) else 300)
def sc_ps (v : Int32) : Nat → Int32
  | 0 => 0
  | k + 1 => sc_ps v k + sc_mt (i3 (k + 1)) v
def sc_pe (d : Nat) (x v : Int32) : Int32 := if x = 0 then (if v = 0 then 50 * i3 d else 100 * i3 d) else sc_ps v d * x
/-- the score of declarer's side -/
def sc_S (b x t v : Nat) : Int32 := if (b - 3) / 5 + 3 ≤ t then sc_md (i3 b) (i3 x) (i3 v) + (i3 t - (sc_lv (i3 b) + 2)) * sc_ex (i3 b) (i3 x) (i3 v) else -(sc_pe ((b - 3) / 5 + 3 - t) (i3 x) (i3 v))
section CSc
variable {u : ZS} {post : Int32 → ZS → Prop} {b x v : Int32}
theorem s_worth (h : post (sc_wo b) u) : w_sc_worth b u post := by
  unfold sc_wo sc_sn at h
  simp only [b_sc_worth_15, w_sc_worth, w_au_strain]
  refine ⟨fun c => ?_, fun c => ?_⟩
  · rw [if_pos c] at h; exact h
  · rw [if_neg c] at h; exact h
theorem s_made (h : post (sc_md b x v) u) : w_sc_made b x v u post := by
  unfold sc_md sc_m1 at h
  have st : ∀ s0 : Int32, s0 = (if sc_sn b = 4 then 10 else 0) → b_sc_made_19 post b x v (sc_lv b) s0 u := by
    intro s0 e
    rw [← e] at h
    clear e
    unfold b_sc_made_19
    refine s_worth ?_
    generalize (sc_lv b * sc_wo b + s0) <<< (x &&& 31) = a at h ⊢
    simp only [b_sc_made_88, b_sc_made_85, b_sc_made_65, b_sc_made_62, b_sc_made_19, w_sc_made]
    repeat' (first | with_reducible apply And.intro | with_reducible intro _)
    all_goals first | contradiction | (simp only [*, ↓reduceIte, if_true, if_false] at h; exact h)
  simp only [w_sc_made, w_au_level, w_au_strain]
  refine ⟨fun c => st 0 ?_, fun c => st 10 ?_⟩
  · unfold sc_sn; rw [if_neg c]
  · unfold sc_sn; rw [if_pos c]
theorem s_extra (h : post (sc_ex b x v) u) : w_sc_extraTrick b x v u post := by
  unfold sc_ex at h
  unfold w_sc_extraTrick b_sc_extraTrick_21
  refine ⟨fun c => ⟨fun d => ?_, fun d => ?_⟩, fun c => s_worth ?_⟩
  · rw [if_neg c, if_pos d] at h; exact h
  · rw [if_neg c, if_neg d] at h; exact h
  · rw [if_pos c] at h; exact h
theorem s_miss {k : Int32} (h : post (sc_mt k v) u) : w_sc_missingTrick k v u post := by
  unfold sc_mt at h
  simp only [b_sc_missingTrick_36, b_sc_missingTrick_27, b_sc_missingTrick_17, w_sc_missingTrick]
  refine ⟨fun c => ⟨fun d => ?_, fun d => ⟨fun e => ?_, fun e => ?_⟩⟩, fun c => ⟨fun d => ?_, fun d => ?_⟩⟩
  · rw [if_neg c, if_neg d] at h; exact h
  · rw [if_neg c, if_pos d, if_pos e] at h; exact h
  · rw [if_neg c, if_pos d, if_neg e] at h; exact h
  · rw [if_pos c, if_pos d] at h; exact h
  · rw [if_pos c, if_neg d] at h; exact h
theorem s_pen {d : Nat} (hd : d < 1000) (h : post (sc_pe d x v) u) : w_sc_penalty (i3 d) x v u post := by
  unfold sc_pe at h
  unfold w_sc_penalty b_sc_penalty_15
  refine ⟨fun c => ⟨d + 1, ?_⟩, fun c => ⟨fun e => ?_, fun e => ?_⟩⟩
  · rw [if_neg c] at h
    have st : ∀ f k : Nat, f + k = d → b_sc_penalty_23 post (f + 1) (i3 d) x v (sc_ps v k) (i3 (k + 1)) u := by
      intro f
      induction f with
      | zero =>
        intro k hk
        have e : k = d := by omega
        subst e
        unfold b_sc_penalty_23
        rw [i3_lt (by omega) (by omega)]
        exact ⟨fun _ => h, fun hx => by omega⟩
      | succ f ih =>
        intro k hk
        unfold b_sc_penalty_23
        rw [i3_lt (by omega) (by omega)]
        refine ⟨fun hx => by omega, fun _ => s_miss ?_⟩
        rw [i3_1, i3_add]
        exact ih (k + 1) (by omega)
    exact st d 0 (by omega)
  · rw [if_pos c, if_pos e] at h; exact h
  · rw [if_pos c, if_neg e] at h; exact h
theorem s_scoreOf {b x t v : Nat} (hb : 3 ≤ b) (hb17 : b ≤ 17) (hx : x ≤ 2) (ht : t ≤ 5) (hv : v ≤ 1) (h : post (sc_S b x t v) u) : w_sc_scoreOf (i3 b) (i3 x) (i3 t) (i3 v) u post := by
  unfold sc_S at h
  have el : sc_lv (i3 b) + 2 = i3 ((b - 3) / 5 + 3) := by
    unfold sc_lv
    simp (disch := omega) only [i3_0, i3_1, i3_2, i3_3, i3_4, i3_5, i3_6, i3_10, i3_12, i3_15, i3_17, i3_19, i3_20, i3_21, i3_31, i3_139, i3_add, i3_mul, i3_sub, i3_dec, i3_div, i3_eq, i3_lt, i3_le, i3_nat, i3_in, i3_m1, i3_n0, i3_a1, i3_a3, i3_a31, nrem]
    omega
  have eq : (1 + (i3 b - 3) / 5) = sc_lv (i3 b) := rfl
  unfold w_sc_scoreOf w_au_level
  rw [eq]
  by_cases hc : (b - 3) / 5 + 3 ≤ t
  · rw [if_pos hc] at h
    refine ⟨fun _ => s_made (s_extra h), fun hn => ?_⟩
    exfalso
    rw [el, i3_sub hc, i3_0, i3_le (by omega) (by omega)] at hn
    omega
  · rw [if_neg hc] at h
    have em : -(i3 t - (sc_lv (i3 b) + 2)) = i3 ((b - 3) / 5 + 3 - t) := by
      rw [el, Int32.neg_sub, i3_sub (by omega)]
    refine ⟨fun hn => ?_, fun _ => ?_⟩
    · exfalso
      have h1 : (i3 t - (sc_lv (i3 b) + 2)) = -(i3 ((b - 3) / 5 + 3 - t)) := by rw [← em, Int32.neg_neg]
      rw [h1, Int32.le_iff_toInt_le, i3_neg (by omega)] at hn
      have z0 : (0 : Int32).toInt = 0 := rfl
      omega
    · rw [em]
      exact s_pen (by omega) h
end CSc
/-- the model's way to the same score -/
def sc_M (b x t v : Int32) : Int32 := (((sc_m1 b x + (if 100 ≤ sc_m1 b x then (if v = 0 then 300 else 500) else 50)) + (if 3 ≤ sc_lv b then (if v = 0 then 400 else 600) else 0)) + 50 * x) + sc_ex b x v * (t - (sc_lv b + 2))
theorem sc_M_t : ((List.range 18).all fun b => (List.range 3).all fun x => (List.range 6).all fun t => (List.range 2).all fun v => !decide (3 ≤ b) || (sc_M (i3 b) (i3 x) (i3 t) (i3 v) == sc_md (i3 b) (i3 x) (i3 v) + (i3 t - (sc_lv (i3 b) + 2)) * sc_ex (i3 b) (i3 x) (i3 v))) = true := by decide +kernel
theorem sc_M_eq {b x t v : Nat} (hb : 3 ≤ b) (hb17 : b ≤ 17) (hx : x ≤ 2) (ht : t ≤ 5) (hv : v ≤ 1) : sc_M (i3 b) (i3 x) (i3 t) (i3 v) = sc_md (i3 b) (i3 x) (i3 v) + (i3 t - (sc_lv (i3 b) + 2)) * sc_ex (i3 b) (i3 x) (i3 v) := by
  have h := rk_allT (rk_allT (rk_allT (rk_allT sc_M_t (show b < 18 by omega)) (show x < 3 by omega)) (show t < 6 by omega)) (show v < 2 by omega)
  rw [Bool.or_eq_true] at h
  rcases h with h | h
  · simp only [Bool.not_eq_true', decide_eq_false_iff_not] at h; omega
  · exact eq_of_beq h
section MSc
variable {u : ZS} {post : Int32 → ZS → Prop}
theorem s_lost {d t x v : Nat} (hd : d < 100) (ht : t < 100) (h : ∀ r, (t < d → r = sc_pe (d - t) (i3 x) (i3 v)) → post r u) : w_m_lostBy (i3 d - i3 t) (i3 x) (i3 v) u post := by
  unfold sc_pe at h
  unfold w_m_lostBy b_m_lostBy_19
  refine ⟨fun c => ?_, fun c => ⟨fun e => h _ (fun hlt => ?_), fun e => h _ (fun hlt => ?_)⟩⟩
  · by_cases hlt : t < d
    · have st : ∀ f k : Nat, f + k = d - t → b_m_lostBy_25 post (f + 1) (i3 (d - t)) (i3 x) (i3 v) (sc_ps (i3 v) k) (i3 (k + 1)) u := by
        intro f
        induction f with
        | zero =>
          intro k hk
          have e : k = d - t := by omega
          subst e
          unfold b_m_lostBy_25
          rw [i3_lt (by omega) (by omega)]
          refine ⟨fun _ => h _ (fun _ => ?_), fun hx => by omega⟩
          rw [if_neg c, Int32.mul_comm]
        | succ f ih =>
          intro k hk
          have nxt : ∀ s0 : Int32, s0 = sc_mt (i3 (k + 1)) (i3 v) → b_m_lostBy_80 (b_m_lostBy_25 post (f + 1)) post (i3 (d - t)) (i3 x) (i3 v) (i3 (k + 1)) s0 (sc_ps (i3 v) k) u := by
            intro s0 e
            subst e
            unfold b_m_lostBy_80
            rw [i3_1, i3_add]
            exact ih (k + 1) (by omega)
          unfold sc_mt at nxt
          unfold b_m_lostBy_25
          rw [i3_lt (by omega) (by omega)]
          refine ⟨fun hx => by omega, fun _ => ⟨fun e => ⟨fun e1 => ⟨fun e2 => nxt _ ?_, fun e2 => nxt _ ?_⟩, fun e1 => nxt _ ?_⟩, fun e => ⟨fun e1 => nxt _ ?_, fun e1 => nxt _ ?_⟩⟩⟩
          · rw [if_neg e1, if_pos e, if_neg]
            rw [i3_4, i3_le (by omega) (by omega)] at e2
            rw [i3_3, i3_le (by omega) (by omega)]; omega
          · rw [if_neg e1, if_pos e, if_pos]
            rw [i3_4, i3_le (by omega) (by omega)] at e2
            rw [i3_3, i3_le (by omega) (by omega)]; omega
          · rw [if_pos e1, if_pos e]
          · rw [if_neg e1, if_neg e]
          · rw [if_pos e1, if_neg e]
      rw [i3_sub (by omega)]
      exact ⟨d - t + 1, st (d - t) 0 (by omega)⟩
    · refine ⟨1, ?_⟩
      unfold b_m_lostBy_25
      refine ⟨fun _ => h _ (fun hh => absurd hh hlt), fun hx => absurd ?_ hx⟩
      have e : i3 d - i3 t = -(i3 (t - d)) := by rw [← Int32.neg_sub, i3_sub (by omega)]
      have z1 : (1 : Int32).toInt = 1 := rfl
      rw [e, Int32.lt_iff_toInt_lt, i3_neg (by omega), z1]; omega
  · rw [if_pos c, if_pos e, i3_sub (by omega)]
  · rw [if_pos c, if_neg e, i3_sub (by omega)]
/-- declarer's score, with its sign for side 0 -/
def sc_Z (b x t v dc : Nat) : Int32 := if dc % 2 = 0 then sc_S b x t v else -(sc_S b x t v)
theorem s_msc {bd x t v dc : Nat} (hb : 3 ≤ bd) (hb17 : bd ≤ 17) (hx : x ≤ 2) (ht : t ≤ 5) (hv : v ≤ 1) (h7 : fI u 7 = i3 x) (h8 : fI u 8 = i3 dc) (hd4 : dc < 4) (h : post (sc_Z bd x t v dc) u) : b_m_scoreNow_66 post (1 + ((i3 bd - 3) / 5)) ((i3 bd - 3) - (i3 bd - 3) / 5 * 5) (i3 t) ((1 + ((i3 bd - 3) / 5)) + 2) (i3 v) u := by
  have el : sc_lv (i3 bd) + 2 = i3 ((bd - 3) / 5 + 3) := by
    unfold sc_lv
    simp (disch := omega) only [i3_0, i3_1, i3_2, i3_3, i3_4, i3_5, i3_6, i3_10, i3_12, i3_15, i3_17, i3_19, i3_20, i3_21, i3_31, i3_139, i3_add, i3_mul, i3_sub, i3_dec, i3_div, i3_eq, i3_lt, i3_le, i3_nat, i3_in, i3_m1, i3_n0, i3_a1, i3_a3, i3_a31, nrem]
    omega
  have eq : (1 + (i3 bd - 3) / 5) = sc_lv (i3 bd) := rfl
  have es : ((i3 bd - 3) - (i3 bd - 3) / 5 * 5) = sc_sn (i3 bd) := rfl
  have fin : ∀ r : Int32, r = sc_S bd x t v → b_m_scoreNow_230 post r u := by
    intro r hr
    subst hr
    unfold b_m_scoreNow_230 b_m_scoreNow_247
    rw [h8, i3_1, i3_a1, i3_0, i3_eq (by omega) (by omega)]
    unfold sc_Z at h
    refine ⟨fun c => ?_, fun c => ?_⟩
    · rw [if_neg c] at h; exact h
    · rw [if_pos c] at h; exact h
  rw [eq, es]
  have st : ∀ s0 : Int32, s0 = sc_wo (i3 bd) → b_m_scoreNow_80 post (sc_lv (i3 bd)) (sc_sn (i3 bd)) (i3 t) (sc_lv (i3 bd) + 2) (i3 v) s0 u := by
    intro s0 e
    unfold b_m_scoreNow_80
    rw [h7, el]
    refine s_lost (by omega) (by omega) (fun r hr => ⟨fun hlt => ?_, fun hge => ?_⟩)
    · rw [i3_lt (by omega) (by omega)] at hlt
      refine fin _ ?_
      unfold sc_S
      rw [if_neg (by omega), hr hlt]
    · rw [i3_lt (by omega) (by omega)] at hge
      have hS : sc_S bd x t v = sc_M (i3 bd) (i3 x) (i3 t) (i3 v) := by
        unfold sc_S; rw [if_pos (by omega), sc_M_eq hb hb17 hx ht hv]
      rw [hS] at fin
      unfold sc_M sc_m1 sc_ex at fin
      rw [← e, el] at fin
      have s1 : ∀ t0 : Int32, t0 = (if sc_sn (i3 bd) = 4 then 10 else 0) → b_m_scoreNow_119 post (sc_lv (i3 bd)) (i3 t) (i3 ((bd - 3) / 5 + 3)) (i3 v) s0 t0 (sc_lv (i3 bd) * s0) u := by
        intro t0 e0
        rw [← e0] at fin
        clear e0
        unfold b_m_scoreNow_119
        rw [h7]
        generalize (sc_lv (i3 bd) * s0 + t0) <<< (i3 x &&& 31) = a at fin ⊢
        simp only [b_m_scoreNow_152, b_m_scoreNow_157, b_m_scoreNow_187, b_m_scoreNow_211, h7]
        repeat' (first | with_reducible apply And.intro | with_reducible intro _)
        all_goals first | contradiction | (refine fin _ ?_; simp only [*, ↓reduceIte, if_true, if_false])
      exact ⟨fun c => s1 0 (by rw [if_neg c]), fun c => s1 10 (by rw [if_pos c])⟩
  unfold sc_wo at st
  unfold b_m_scoreNow_66
  exact ⟨fun c => st 30 (by rw [if_pos c]), fun c => st 20 (by rw [if_neg c])⟩
/-- points of an amount -/
def sc_pt (a : Int32) : Nat → Int32
  | 0 => 0
  | k + 1 => if a < sc_F k then sc_pt a k else sc_pt a k + 1
def sc_Q (d : Int32) : Int32 := if 0 ≤ d then sc_pt d 19 else -(sc_pt (0 - d) 19)
theorem s_points {d : Int32} (h : post (sc_Q d) u) : w_sc_pointsOf d u post := by
  have st : ∀ f k : Nat, f + k = 19 → b_sc_pointsOf_9 post (f + 1) d (if 0 ≤ d then d else 0 - d) (sc_pt (if 0 ≤ d then d else 0 - d) k) (i3 k) u := by
    intro f
    induction f with
    | zero =>
      intro k hk
      have e : k = 19 := by omega
      subst e
      unfold b_sc_pointsOf_9 b_sc_pointsOf_45
      unfold sc_Q at h
      refine ⟨fun _ => ⟨fun c => ?_, fun c => ?_⟩, fun hx => absurd (by decide) hx⟩
      · rw [if_pos c] at h ⊢; exact h
      · rw [if_neg c] at h ⊢; exact h
    | succ f ih =>
      intro k hk
      unfold b_sc_pointsOf_9 b_sc_pointsOf_29
      rw [i3_19, i3_le (by omega) (by omega), i3_in (by omega), i3_nat (by omega), i3_1, i3_add]
      have hi := ih (k + 1) (by omega)
      refine ⟨fun hx => by omega, fun _ => ⟨by omega, fun c => ?_, fun c => ?_⟩⟩
      · rw [sc_pt, if_pos c] at hi; exact hi
      · rw [sc_pt, if_neg c] at hi; exact hi
  exact ⟨20, st 19 0 (by omega)⟩
theorem s_step {k : Nat} (hk : k < 19) (h : post (sc_F k) u) : w_m_step (i3 k) u post := by
  unfold w_m_step
  refine ⟨fun hx => ?_, fun hx => ?_, fun hx => ?_, fun hx => ?_, fun hx => ?_, fun hx => ?_, fun hx => ?_, fun hx => ?_, fun hx => ?_, fun hx => ?_, fun hx => ?_, fun hx => ?_, fun hx => ?_, fun hx => ?_, fun hx => ?_, fun hx => ?_, fun hx => ?_, fun hx => ?_, fun hx => ?_⟩
  · have e : k = 0 := (i3_eq (b := 0) (by omega) (by omega)).mp hx
    subst e; exact h
  · have e : k = 1 := (i3_eq (b := 1) (by omega) (by omega)).mp hx
    subst e; exact h
  · have e : k = 2 := (i3_eq (b := 2) (by omega) (by omega)).mp hx
    subst e; exact h
  · have e : k = 3 := (i3_eq (b := 3) (by omega) (by omega)).mp hx
    subst e; exact h
  · have e : k = 4 := (i3_eq (b := 4) (by omega) (by omega)).mp hx
    subst e; exact h
  · have e : k = 5 := (i3_eq (b := 5) (by omega) (by omega)).mp hx
    subst e; exact h
  · have e : k = 6 := (i3_eq (b := 6) (by omega) (by omega)).mp hx
    subst e; exact h
  · have e : k = 7 := (i3_eq (b := 7) (by omega) (by omega)).mp hx
    subst e; exact h
  · have e : k = 8 := (i3_eq (b := 8) (by omega) (by omega)).mp hx
    subst e; exact h
  · have e : k = 9 := (i3_eq (b := 9) (by omega) (by omega)).mp hx
    subst e; exact h
  · have e : k = 10 := (i3_eq (b := 10) (by omega) (by omega)).mp hx
    subst e; exact h
  · have e : k = 11 := (i3_eq (b := 11) (by omega) (by omega)).mp hx
    subst e; exact h
  · have e : k = 12 := (i3_eq (b := 12) (by omega) (by omega)).mp hx
    subst e; exact h
  · have e : k = 13 := (i3_eq (b := 13) (by omega) (by omega)).mp hx
    subst e; exact h
  · have e : k = 14 := (i3_eq (b := 14) (by omega) (by omega)).mp hx
    subst e; exact h
  · have e : k = 15 := (i3_eq (b := 15) (by omega) (by omega)).mp hx
    subst e; exact h
  · have e : k = 16 := (i3_eq (b := 16) (by omega) (by omega)).mp hx
    subst e; exact h
  · have e : k = 17 := (i3_eq (b := 17) (by omega) (by omega)).mp hx
    subst e; exact h
  · obtain ⟨x0, x1, x2, x3, x4, x5, x6, x7, x8, x9, x10, x11, x12, x13, x14, x15, x16, x17⟩ := hx
    have e : k = 18 := by
      have y0 : ¬ k = 0 := fun e => x0 (by rw [e]; rfl)
      have y1 : ¬ k = 1 := fun e => x1 (by rw [e]; rfl)
      have y2 : ¬ k = 2 := fun e => x2 (by rw [e]; rfl)
      have y3 : ¬ k = 3 := fun e => x3 (by rw [e]; rfl)
      have y4 : ¬ k = 4 := fun e => x4 (by rw [e]; rfl)
      have y5 : ¬ k = 5 := fun e => x5 (by rw [e]; rfl)
      have y6 : ¬ k = 6 := fun e => x6 (by rw [e]; rfl)
      have y7 : ¬ k = 7 := fun e => x7 (by rw [e]; rfl)
      have y8 : ¬ k = 8 := fun e => x8 (by rw [e]; rfl)
      have y9 : ¬ k = 9 := fun e => x9 (by rw [e]; rfl)
      have y10 : ¬ k = 10 := fun e => x10 (by rw [e]; rfl)
      have y11 : ¬ k = 11 := fun e => x11 (by rw [e]; rfl)
      have y12 : ¬ k = 12 := fun e => x12 (by rw [e]; rfl)
      have y13 : ¬ k = 13 := fun e => x13 (by rw [e]; rfl)
      have y14 : ¬ k = 14 := fun e => x14 (by rw [e]; rfl)
      have y15 : ¬ k = 15 := fun e => x15 (by rw [e]; rfl)
      have y16 : ¬ k = 16 := fun e => x16 (by rw [e]; rfl)
      have y17 : ¬ k = 17 := fun e => x17 (by rw [e]; rfl)
      omega
    subst e; exact h
theorem s_mpoints {d : Int32} (h : post (sc_Q d) u) : ∃ n0, b_m_points_66 post n0 d (if 0 ≤ d then d else -d) 0 0 u := by
  have e0 : (if 0 ≤ d then d else -d) = (if 0 ≤ d then d else 0 - d) := by rw [Int32.zero_sub]
  rw [e0]
  have st : ∀ f k : Nat, f + k = 19 → b_m_points_66 post (f + 1) d (if 0 ≤ d then d else 0 - d) (sc_pt (if 0 ≤ d then d else 0 - d) k) (i3 k) u := by
    intro f
    induction f with
    | zero =>
      intro k hk
      have e : k = 19 := by omega
      subst e
      unfold b_m_points_66 b_m_points_112
      unfold sc_Q at h
      refine ⟨fun _ => ⟨fun c => ?_, fun c => ?_⟩, fun hx => absurd (by decide) hx⟩
      · rw [if_pos c] at h ⊢; exact h
      · rw [if_neg c] at h ⊢; exact h
    | succ f ih =>
      intro k hk
      unfold b_m_points_66 b_m_points_92
      rw [i3_19, i3_le (by omega) (by omega)]
      have hi := ih (k + 1) (by omega)
      refine ⟨fun hx => by omega, fun _ => s_step (by omega) ?_⟩
      rw [i3_1, i3_add]
      refine ⟨fun c => ?_, fun c => ?_⟩
      · rw [sc_pt, if_pos c] at hi; exact hi
      · rw [sc_pt, if_neg c] at hi; exact hi
  exact ⟨20, st 19 0 (by omega)⟩
/-- what a result gets against the others -/
def rs_sm (f : Nat → Int64) (g : Nat → Int32) (i : Nat) : Nat → Int32
  | 0 => 0
  | k + 1 => if k = i then rs_sm f g i k else if f k = f i then (if g i = g k then rs_sm f g i k + 1 else if g i ≤ g k then rs_sm f g i k else rs_sm f g i k + 2) else rs_sm f g i k
theorem s_cmp {r i : Nat} (hr : fI u 6 = i3 r) (hr12 : r ≤ 12) (hi : i < r) (h : post (rs_sm (aJ u 0) (aI u 8) i r) u) : w_re_compare (i3 i) u post := by
  have st : ∀ f k : Nat, f + k = r → b_re_compare_4 post (f + 1) (i3 i) (rs_sm (aJ u 0) (aI u 8) i k) (i3 k) u := by
    intro f
    induction f with
    | zero =>
      intro k hk
      have e : k = r := by omega
      subst e
      unfold b_re_compare_4
      rw [hr, i3_le (by omega) (by omega)]
      exact ⟨fun _ => h, fun hx => absurd (Nat.le_refl _) hx⟩
    | succ f ih =>
      intro k hk
      have hn := ih (k + 1) (by omega)
      rw [rs_sm] at hn
      unfold b_re_compare_4 b_re_compare_51 w_re_worthAgainst b_re_worthAgainst_17
      rw [hr, i3_le (by omega) (by omega), i3_eq (by omega) (by omega), i3_in (by omega), i3_in (by omega), i3_nat (by omega), i3_nat (by omega), i3_1, i3_add, lg_cmp_eq]
      refine ⟨fun hx => by omega, fun _ => ⟨fun c => ?_, fun c => ⟨by omega, by omega, fun c1 => ?_, fun c1 => ⟨by omega, by omega, fun c2 => ⟨fun c3 => ?_, fun c3 => ?_⟩, fun c2 => ?_⟩⟩⟩⟩
      · rw [if_pos c] at hn; exact hn
      · rw [if_neg c, if_neg c1] at hn; exact hn
      · rw [if_neg c, if_pos c1, if_neg c2, if_pos c3] at hn; rw [Int32.add_zero]; exact hn
      · rw [if_neg c, if_pos c1, if_neg c2, if_neg c3] at hn; exact hn
      · rw [if_neg c, if_pos c1, if_pos c2] at hn; exact hn
  exact ⟨r + 1, st r 0 (by omega)⟩
theorem s_mcmp {r i : Nat} (hr : fI u 10 = i3 r) (h0 : fI u 0 = i3 0) (hr12 : r ≤ 12) (hi : i < r) (h : post (rs_sm (aJ u 1) (aI u 10) i r) u) : ∃ n0, b_m_places_21 post n0 (i3 i) 0 0 u := by
  have st : ∀ f k : Nat, f + k = r → b_m_places_21 post (f + 1) (i3 i) (rs_sm (aJ u 1) (aI u 10) i k) (i3 k) u := by
    intro f
    induction f with
    | zero =>
      intro k hk
      have e : k = r := by omega
      subst e
      unfold b_m_places_21
      rw [hr, i3_le (by omega) (by omega)]
      exact ⟨fun _ => h, fun hx => absurd (Nat.le_refl _) hx⟩
    | succ f ih =>
      intro k hk
      have hn := ih (k + 1) (by omega)
      rw [rs_sm] at hn
      unfold b_m_places_21 b_m_places_100 b_m_places_101
      rw [hr, h0, i3_le (by omega) (by omega), i3_eq (by omega) (by omega), i3_in (by omega), i3_in (by omega), i3_nat (by omega), i3_nat (by omega), i3_1, i3_add, lg_cmp_eq]
      refine ⟨fun hx => by omega, fun _ => ⟨fun hx => absurd rfl hx, fun _ => ⟨fun c => ?_, fun c => ⟨by omega, by omega, fun c1 => ?_, fun c1 => ⟨by omega, by omega, fun c3 => ⟨by omega, by omega, fun c2 => ?_, fun c2 => ?_⟩, fun c3 => ?_⟩⟩⟩⟩⟩
      · rw [if_pos c] at hn; exact hn
      · rw [if_neg c, if_neg c1] at hn; exact hn
      · rw [if_neg c, if_pos c1, if_neg (fun e => c2 e.symm), if_pos c3] at hn; exact hn
      · rw [if_neg c, if_pos c1, if_pos c2.symm] at hn; exact hn
      · have c2 : ¬ aI u 10 i = aI u 10 k := fun e => c3 (by rw [e]; exact Int32.le_refl _)
        rw [if_neg c, if_pos c1, if_neg c2, if_neg c3] at hn; exact hn
  exact ⟨r + 1, st r 0 (by omega)⟩
end MSc
