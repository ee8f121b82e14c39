/-- the start of a constructor: the new object alone -/
def iP (D : va_G) (ws : va_W) (sz : Nat) (U : State) : Prop := U.heap.size = sz ∧ va_P D vwCl ws U.heap ∧ va_K D vwCl [] U ∧ va_D (fun _ => True) ws ∧ ∀ w ∈ zNs, va_Nw w U
theorem iP_blind (D : va_G) (ws : va_W) (av : List Value) (sz : Nat) : FrameBlind (va_Pc av (iP D ws sz)) := by
  intro a U g mk q
  obtain ⟨q0, q1, qP, qK, qD, qN⟩ := q
  exact ⟨q0, q1, qP, va_K.moved (u := U) (U := U.calling g mk a) (Vm.Alike.refl U.vm) qK, qD, fun w hw => va_Nw.same (u := U) (U := U.calling g mk a) (zn_on (zNs_ok w hw)) rfl (qN w hw)⟩
section ZNew
variable {p : Program} {l : Launch} {e : Env} {R : Room} {s : State} {m : MethodId} {args : Array Value} {below : List Frame} {meth : Method} {c : Code} {H : Heap} {locs : List Loc} {cells slots : Nat} {Q : State → Prop} {cc : ByteArray} {pc : Nat} {ls : Array Slot} {rest : List Value} {D : va_G} {A : Nat → Prop} {ws : va_W} {tys : List (ClassId × FieldType)}
theorem zk_int {n : Int32} {N' : Nat} (hx : p.tables.exec = Jvm.exec) (hb : c.code = cc) (hts : ∀ w ∈ zG, w.before args s = true) (hK : va_K D vwCl tys s) (hI : zw D A s.heap ws H locs) (hn : ¬ n < 0) (hN : n.toNatClampNeg = N') (h4 : N' * 4 ≤ 536870912) (hc : cells + 1 ≤ R.cells) (hs : slots + N' ≤ R.slots) (hd : decode cc pc = .ok (.newarray .int, 2))
    (kk : ∀ (q : Nat) (cA : ClassId) (H1 : Heap), va_K D vwCl (tys ++ [(cA, .int)]) s → zw D A s.heap (ws ++ [(q, .inl (cA, N', .inl (fun _ => 0)))]) H1 locs → W p l e R s m args below meth c H1 locs (cells + 1) (slots + N') Q (F0 m (pc + 2) ls (.ref q :: rest))) : W p l e R s m args below meth c H locs cells slots Q (F0 m pc ls (.int n :: rest)) :=
  va_newa (atype := .int) (ty := .int) (a0 := (N', .inl (fun _ => 0))) hx hb (hts _ q_85) rfl hK hI.1 hI.2.1 hI.2.2.1 hI.2.2.2 (fun _ => rfl) hn hN h4 hc hs hd (fun q cA H1 hK hP hD hS => kk q cA H1 hK ⟨hP, hD, hS, hI.2.2.2⟩)
theorem zk_long {n : Int32} {N' : Nat} (hx : p.tables.exec = Jvm.exec) (hb : c.code = cc) (hts : ∀ w ∈ zG, w.before args s = true) (hK : va_K D vwCl tys s) (hI : zw D A s.heap ws H locs) (hn : ¬ n < 0) (hN : n.toNatClampNeg = N') (h4 : N' * 8 ≤ 536870912) (hc : cells + 1 ≤ R.cells) (hs : slots + N' ≤ R.slots) (hd : decode cc pc = .ok (.newarray .long, 2))
    (kk : ∀ (q : Nat) (cA : ClassId) (H1 : Heap), va_K D vwCl (tys ++ [(cA, .long)]) s → zw D A s.heap (ws ++ [(q, .inl (cA, N', .inr (.inl (fun _ => 0))))]) H1 locs → W p l e R s m args below meth c H1 locs (cells + 1) (slots + N') Q (F0 m (pc + 2) ls (.ref q :: rest))) : W p l e R s m args below meth c H locs cells slots Q (F0 m pc ls (.int n :: rest)) :=
  va_newa (atype := .long) (ty := .long) (a0 := (N', .inr (.inl (fun _ => 0)))) hx hb (hts _ q_149) rfl hK hI.1 hI.2.1 hI.2.2.1 hI.2.2.2 (fun _ => rfl) hn hN h4 hc hs hd (fun q cA H1 hK hP hD hS => kk q cA H1 hK ⟨hP, hD, hS, hI.2.2.2⟩)
end ZNew
def i_de_init_w (h0 : Nat) (w : (Nat → Nat) × (Nat → ClassId)) : va_W := [(h0, .inr (1, [.ref (w.1 0), .ref (w.1 1), .ref (w.1 2), .long 0])), (w.1 0, .inl (w.2 0, 20, .inl (fun _ => 0))), (w.1 1, .inl (w.2 1, 20, .inl (fun _ => 0))), (w.1 2, .inl (w.2 2, 4, .inl (fun _ => 0)))]
def i_de_init_t (w : (Nat → Nat) × (Nat → ClassId)) : List (ClassId × FieldType) := [(w.2 0, .int), (w.2 1, .int), (w.2 2, .int)]
set_option maxRecDepth 100000 in
set_option maxHeartbeats 4000000 in
theorem i_de_init (l : Launch) (D : va_G) (h0 sz : Nat) : Met l y_de_init (Cond.code y_de_init c_de_init 1 none :: zG) { frames := 1, cells := 3, slots := 44, locals := 12 } (va_Pc [.ref h0] (iP D [(h0, .inr (1, [.null, .null, .null, .long 0]))] sz)) (va_Qv (fun (_ : (Nat → Nat) × (Nat → ClassId)) => True) (fun w t => va_P D vwCl (i_de_init_w h0 w) t.heap ∧ va_K D vwCl (i_de_init_t w) t ∧ va_D (va_A [(h0, .inr (1, [.null, .null, .null, .long 0]))] sz) (i_de_init_w h0 w)) (va_A [(h0, .inr (1, [.null, .null, .null, .long 0]))] sz)) 3 44 (va_A [(h0, .inr (1, [.null, .null, .null, .long 0]))] sz) := by
  refine Met.ofW (cc := c_de_init) (maxL := 1) (ret := none) (by decide) rfl ?_
  intro p e s m args below meth c s₁ B hml hv
  obtain ⟨rfl, hsz, hP, hK, hD0, hN⟩ := hv
  have hx := B.exec
  have hb := B.bytes
  have hr := B.returns
  have hts0 := atoms_spec (ws := Cond.code y_de_init c_de_init 1 none :: zG) B.pre
  have hts : ∀ w ∈ zG, w.before _ s = true := fun w h => hts0 w (List.mem_cons_of_mem _ h)
  have hown : s.vm.findClass "ShortBridge$Deal" = some m.cls := findClass_of_methodNamed B.named
  have hlk := B.notSynchronized
  have hin : meth.name = "<init>" := (name_of_methodNamed B.named B.method).1
  subst hsz
  generalize hAe : va_A [(h0, .inr (1, [.null, .null, .null, .long 0]))] s.heap.size = A
  have hI : zw D A s.heap [(h0, .inr (1, [.null, .null, .null, .long 0]))] s.heap [] := by rw [← hAe]; exact ⟨hP, hD0.self, va_S.rf, fun q h => Or.inr h⟩
  have hl := lv_entry [.ref h0] (n := 1) (Nat.le_of_ble_eq_true rfl)
  rw [lg_entry_eq]
  generalize (lg_sl [.ref h0] ++ List.replicate (1 - (lg_sl [.ref h0]).length) Slot.unset).toArray = ls at hl ⊢
  have hl : lv_has ls 1 [(0, .ref h0)] := hl
  refine lv_aload_n hx hb d_de_init_0 rfl (lv_at hl 0 rfl) ?_
  refine W.objInit hx hb hown (hts _ q_69) (hts _ q_62) (hts _ q_63) rfl (by rw [hml]; exact hl.1) rfl d_de_init_1 (Nat.le_of_ble_eq_true rfl) (Nat.le_of_ble_eq_true rfl) ?_
  refine W.eq (g2 := F0 m 4 ls []) rfl ?_
  refine lv_aload_n hx hb d_de_init_4 rfl (lv_at hl 0 rfl) ?_
  refine lv_bipush (v := 20) hx hb d_de_init_5 zc_bipush_20 ?_
  refine zk_int (N' := 20) hx hb hts hK hI (by decide) (by decide) (by decide) (Nat.le_of_ble_eq_true rfl) (Nat.le_of_ble_eq_true rfl) d_de_init_7 ?_
  intro q1 c1 H hK hI
  have hK : va_K D vwCl [(c1, .int)] s := hK
  have hI : zw D A s.heap [(h0, .inr (1, [.null, .null, .null, .long 0])), (q1, .inl (c1, 20, .inl (fun _ => 0)))] H _ := hI
  refine W.widen (k := 1) (n := 20) (Nat.le_of_ble_eq_true rfl) (Nat.le_of_ble_eq_true rfl) ?_
  refine va_putF (ci := 1) (v := .ref q1) (ty := .array .int) (C := R_Deal) (T := T_Deal) (N := 4) hx hb hts in_Deal ty_Deal tyo_Deal nm_Deal hown hK hI.1 hI.2.1 hI.2.2.1 0 rfl rfl 0 (by decide) (hts _ q_70) (fun _ h9 => h9) rfl hin rfl (by decide +kernel) rfl rfl (Nat.le_of_ble_eq_true rfl) d_de_init_9 ?_
  intro H locs hP hD hS
  have hI : zw D A s.heap [(h0, .inr (1, [.ref q1, .null, .null, .long 0])), (q1, .inl (c1, 20, .inl (fun _ => 0)))] H locs := ⟨hP, hD, hS, hI.2.2.2⟩
  refine lv_aload_n hx hb d_de_init_12 rfl (lv_at hl 0 rfl) ?_
  refine lv_bipush (v := 20) hx hb d_de_init_13 zc_bipush_20 ?_
  refine zk_int (N' := 20) hx hb hts hK hI (by decide) (by decide) (by decide) (Nat.le_of_ble_eq_true rfl) (Nat.le_of_ble_eq_true rfl) d_de_init_15 ?_
  intro q2 c2 H hK hI
  have hK : va_K D vwCl [(c1, .int), (c2, .int)] s := hK
  have hI : zw D A s.heap [(h0, .inr (1, [.ref q1, .null, .null, .long 0])), (q1, .inl (c1, 20, .inl (fun _ => 0))), (q2, .inl (c2, 20, .inl (fun _ => 0)))] H _ := hI
  refine W.widen (k := 2) (n := 40) (Nat.le_of_ble_eq_true rfl) (Nat.le_of_ble_eq_true rfl) ?_
  refine va_putF (ci := 1) (v := .ref q2) (ty := .array .int) (C := R_Deal) (T := T_Deal) (N := 4) hx hb hts in_Deal ty_Deal tyo_Deal nm_Deal hown hK hI.1 hI.2.1 hI.2.2.1 0 rfl rfl 1 (by decide) (hts _ q_72) (fun _ h9 => h9) rfl hin rfl (by decide +kernel) rfl rfl (Nat.le_of_ble_eq_true rfl) d_de_init_17 ?_
  intro H locs hP hD hS
  have hI : zw D A s.heap [(h0, .inr (1, [.ref q1, .ref q2, .null, .long 0])), (q1, .inl (c1, 20, .inl (fun _ => 0))), (q2, .inl (c2, 20, .inl (fun _ => 0)))] H locs := ⟨hP, hD, hS, hI.2.2.2⟩
  refine lv_aload_n hx hb d_de_init_20 rfl (lv_at hl 0 rfl) ?_
  refine lv_iconst (v := 4) hx hb d_de_init_21 zc_iconst_4 ?_
  refine zk_int (N' := 4) hx hb hts hK hI (by decide) (by decide) (by decide) (Nat.le_of_ble_eq_true rfl) (Nat.le_of_ble_eq_true rfl) d_de_init_22 ?_
  intro q3 c3 H hK hI
  have hK : va_K D vwCl [(c1, .int), (c2, .int), (c3, .int)] s := hK
  have hI : zw D A s.heap [(h0, .inr (1, [.ref q1, .ref q2, .null, .long 0])), (q1, .inl (c1, 20, .inl (fun _ => 0))), (q2, .inl (c2, 20, .inl (fun _ => 0))), (q3, .inl (c3, 4, .inl (fun _ => 0)))] H _ := hI
  refine W.widen (k := 3) (n := 44) (Nat.le_of_ble_eq_true rfl) (Nat.le_of_ble_eq_true rfl) ?_
  refine va_putF (ci := 1) (v := .ref q3) (ty := .array .int) (C := R_Deal) (T := T_Deal) (N := 4) hx hb hts in_Deal ty_Deal tyo_Deal nm_Deal hown hK hI.1 hI.2.1 hI.2.2.1 0 rfl rfl 2 (by decide) (hts _ q_73) (fun _ h9 => h9) rfl hin rfl (by decide +kernel) rfl rfl (Nat.le_of_ble_eq_true rfl) d_de_init_24 ?_
  intro H locs hP hD hS
  have hI : zw D A s.heap [(h0, .inr (1, [.ref q1, .ref q2, .ref q3, .long 0])), (q1, .inl (c1, 20, .inl (fun _ => 0))), (q2, .inl (c2, 20, .inl (fun _ => 0))), (q3, .inl (c3, 4, .inl (fun _ => 0)))] H locs := ⟨hP, hD, hS, hI.2.2.2⟩
  exact W.vret hx hb hr (fun t ht hW => ⟨⟨(fun k => match k with | 0 => q1 | 1 => q2 | _ => q3, fun k => match k with | 0 => c1 | 1 => c2 | _ => c3), rfl, trivial, by rw [ht]; exact hI.1, va_K.moved hW.alike hK, hI.2.1⟩, hI.2.2.1.F ht⟩) hI.2.2.1.2.2 d_de_init_27 hlk
def i_au_init_w (h0 : Nat) (w : (Nat → Nat) × (Nat → ClassId)) : va_W := [(h0, .inr (2, [.ref (w.1 0), .int 0, .int 0])), (w.1 0, .inl (w.2 0, 139, .inl (fun _ => 0)))]
def i_au_init_t (w : (Nat → Nat) × (Nat → ClassId)) : List (ClassId × FieldType) := [(w.2 0, .int)]
set_option maxRecDepth 100000 in
set_option maxHeartbeats 4000000 in
theorem i_au_init (l : Launch) (D : va_G) (h0 sz : Nat) : Met l y_au_init (Cond.code y_au_init c_au_init 1 none :: zG) { frames := 1, cells := 1, slots := 139, locals := 12 } (va_Pc [.ref h0] (iP D [(h0, .inr (2, [.null, .int 0, .int 0]))] sz)) (va_Qv (fun (_ : (Nat → Nat) × (Nat → ClassId)) => True) (fun w t => va_P D vwCl (i_au_init_w h0 w) t.heap ∧ va_K D vwCl (i_au_init_t w) t ∧ va_D (va_A [(h0, .inr (2, [.null, .int 0, .int 0]))] sz) (i_au_init_w h0 w)) (va_A [(h0, .inr (2, [.null, .int 0, .int 0]))] sz)) 1 139 (va_A [(h0, .inr (2, [.null, .int 0, .int 0]))] sz) := by
  refine Met.ofW (cc := c_au_init) (maxL := 1) (ret := none) (by decide) rfl ?_
  intro p e s m args below meth c s₁ B hml hv
  obtain ⟨rfl, hsz, hP, hK, hD0, hN⟩ := hv
  have hx := B.exec
  have hb := B.bytes
  have hr := B.returns
  have hts0 := atoms_spec (ws := Cond.code y_au_init c_au_init 1 none :: zG) B.pre
  have hts : ∀ w ∈ zG, w.before _ s = true := fun w h => hts0 w (List.mem_cons_of_mem _ h)
  have hown : s.vm.findClass "ShortBridge$Auction" = some m.cls := findClass_of_methodNamed B.named
  have hlk := B.notSynchronized
  have hin : meth.name = "<init>" := (name_of_methodNamed B.named B.method).1
  subst hsz
  generalize hAe : va_A [(h0, .inr (2, [.null, .int 0, .int 0]))] s.heap.size = A
  have hI : zw D A s.heap [(h0, .inr (2, [.null, .int 0, .int 0]))] s.heap [] := by rw [← hAe]; exact ⟨hP, hD0.self, va_S.rf, fun q h => Or.inr h⟩
  have hl := lv_entry [.ref h0] (n := 1) (Nat.le_of_ble_eq_true rfl)
  rw [lg_entry_eq]
  generalize (lg_sl [.ref h0] ++ List.replicate (1 - (lg_sl [.ref h0]).length) Slot.unset).toArray = ls at hl ⊢
  have hl : lv_has ls 1 [(0, .ref h0)] := hl
  refine lv_aload_n hx hb d_au_init_0 rfl (lv_at hl 0 rfl) ?_
  refine W.objInit hx hb hown (hts _ q_91) (hts _ q_62) (hts _ q_63) rfl (by rw [hml]; exact hl.1) rfl d_au_init_1 (Nat.le_of_ble_eq_true rfl) (Nat.le_of_ble_eq_true rfl) ?_
  refine W.eq (g2 := F0 m 4 ls []) rfl ?_
  refine lv_aload_n hx hb d_au_init_4 rfl (lv_at hl 0 rfl) ?_
  refine lv_sipush (v := 139) hx hb d_au_init_5 zc_sipush_139 ?_
  refine zk_int (N' := 139) hx hb hts hK hI (by decide) (by decide) (by decide) (Nat.le_of_ble_eq_true rfl) (Nat.le_of_ble_eq_true rfl) d_au_init_8 ?_
  intro q1 c1 H hK hI
  have hK : va_K D vwCl [(c1, .int)] s := hK
  have hI : zw D A s.heap [(h0, .inr (2, [.null, .int 0, .int 0])), (q1, .inl (c1, 139, .inl (fun _ => 0)))] H _ := hI
  refine W.widen (k := 1) (n := 139) (Nat.le_of_ble_eq_true rfl) (Nat.le_of_ble_eq_true rfl) ?_
  refine va_putF (ci := 2) (v := .ref q1) (ty := .array .int) (C := R_Auction) (T := T_Auction) (N := 3) hx hb hts in_Auction ty_Auction tyo_Auction nm_Auction hown hK hI.1 hI.2.1 hI.2.2.1 0 rfl rfl 0 (by decide) (hts _ q_92) (fun _ h9 => h9) rfl hin rfl (by decide +kernel) rfl rfl (Nat.le_of_ble_eq_true rfl) d_au_init_10 ?_
  intro H locs hP hD hS
  have hI : zw D A s.heap [(h0, .inr (2, [.ref q1, .int 0, .int 0])), (q1, .inl (c1, 139, .inl (fun _ => 0)))] H locs := ⟨hP, hD, hS, hI.2.2.2⟩
  exact W.vret hx hb hr (fun t ht hW => ⟨⟨(fun k => match k with | _ => q1, fun k => match k with | _ => c1), rfl, trivial, by rw [ht]; exact hI.1, va_K.moved hW.alike hK, hI.2.1⟩, hI.2.2.1.F ht⟩) hI.2.2.1.2.2 d_au_init_13 hlk
def i_ha_init_w (h0 : Nat) (w : (Nat → Nat) × (Nat → ClassId)) : va_W := [(h0, .inr (3, [.ref (w.1 0), .ref (w.1 1), .ref (w.1 2), .ref (w.1 3), .int 0, .int 4])), (w.1 0, .inl (w.2 0, 4, .inl (fun _ => 0))), (w.1 1, .inl (w.2 1, 20, .inl (fun _ => 0))), (w.1 2, .inl (w.2 2, 20, .inl (fun _ => 0))), (w.1 3, .inl (w.2 3, 6, .inl (fun _ => 0)))]
def i_ha_init_t (w : (Nat → Nat) × (Nat → ClassId)) : List (ClassId × FieldType) := [(w.2 0, .int), (w.2 1, .int), (w.2 2, .int), (w.2 3, .int)]
set_option maxRecDepth 100000 in
set_option maxHeartbeats 4000000 in
theorem i_ha_init (l : Launch) (D : va_G) (h0 sz : Nat) : Met l y_ha_init (Cond.code y_ha_init c_ha_init 1 none :: zG) { frames := 1, cells := 4, slots := 50, locals := 12 } (va_Pc [.ref h0] (iP D [(h0, .inr (3, [.null, .null, .null, .null, .int 0, .int 0]))] sz)) (va_Qv (fun (_ : (Nat → Nat) × (Nat → ClassId)) => True) (fun w t => va_P D vwCl (i_ha_init_w h0 w) t.heap ∧ va_K D vwCl (i_ha_init_t w) t ∧ va_D (va_A [(h0, .inr (3, [.null, .null, .null, .null, .int 0, .int 0]))] sz) (i_ha_init_w h0 w)) (va_A [(h0, .inr (3, [.null, .null, .null, .null, .int 0, .int 0]))] sz)) 4 50 (va_A [(h0, .inr (3, [.null, .null, .null, .null, .int 0, .int 0]))] sz) := by
  refine Met.ofW (cc := c_ha_init) (maxL := 1) (ret := none) (by decide) rfl ?_
  intro p e s m args below meth c s₁ B hml hv
  obtain ⟨rfl, hsz, hP, hK, hD0, hN⟩ := hv
  have hx := B.exec
  have hb := B.bytes
  have hr := B.returns
  have hts0 := atoms_spec (ws := Cond.code y_ha_init c_ha_init 1 none :: zG) B.pre
  have hts : ∀ w ∈ zG, w.before _ s = true := fun w h => hts0 w (List.mem_cons_of_mem _ h)
  have hown : s.vm.findClass "ShortBridge$Hands" = some m.cls := findClass_of_methodNamed B.named
  have hlk := B.notSynchronized
  have hin : meth.name = "<init>" := (name_of_methodNamed B.named B.method).1
  subst hsz
  generalize hAe : va_A [(h0, .inr (3, [.null, .null, .null, .null, .int 0, .int 0]))] s.heap.size = A
  have hI : zw D A s.heap [(h0, .inr (3, [.null, .null, .null, .null, .int 0, .int 0]))] s.heap [] := by rw [← hAe]; exact ⟨hP, hD0.self, va_S.rf, fun q h => Or.inr h⟩
  have hl := lv_entry [.ref h0] (n := 1) (Nat.le_of_ble_eq_true rfl)
  rw [lg_entry_eq]
  generalize (lg_sl [.ref h0] ++ List.replicate (1 - (lg_sl [.ref h0]).length) Slot.unset).toArray = ls at hl ⊢
  have hl : lv_has ls 1 [(0, .ref h0)] := hl
  refine lv_aload_n hx hb d_ha_init_0 rfl (lv_at hl 0 rfl) ?_
  refine W.objInit hx hb hown (hts _ q_108) (hts _ q_62) (hts _ q_63) rfl (by rw [hml]; exact hl.1) rfl d_ha_init_1 (Nat.le_of_ble_eq_true rfl) (Nat.le_of_ble_eq_true rfl) ?_
  refine W.eq (g2 := F0 m 4 ls []) rfl ?_
  refine lv_aload_n hx hb d_ha_init_4 rfl (lv_at hl 0 rfl) ?_
  refine lv_iconst (v := 4) hx hb d_ha_init_5 zc_iconst_4 ?_
  refine zk_int (N' := 4) hx hb hts hK hI (by decide) (by decide) (by decide) (Nat.le_of_ble_eq_true rfl) (Nat.le_of_ble_eq_true rfl) d_ha_init_6 ?_
  intro q1 c1 H hK hI
  have hK : va_K D vwCl [(c1, .int)] s := hK
  have hI : zw D A s.heap [(h0, .inr (3, [.null, .null, .null, .null, .int 0, .int 0])), (q1, .inl (c1, 4, .inl (fun _ => 0)))] H _ := hI
  refine W.widen (k := 1) (n := 4) (Nat.le_of_ble_eq_true rfl) (Nat.le_of_ble_eq_true rfl) ?_
  refine va_putF (ci := 3) (v := .ref q1) (ty := .array .int) (C := R_Hands) (T := T_Hands) (N := 6) hx hb hts in_Hands ty_Hands tyo_Hands nm_Hands hown hK hI.1 hI.2.1 hI.2.2.1 0 rfl rfl 0 (by decide) (hts _ q_109) (fun _ h9 => h9) rfl hin rfl (by decide +kernel) rfl rfl (Nat.le_of_ble_eq_true rfl) d_ha_init_8 ?_
  intro H locs hP hD hS
  have hI : zw D A s.heap [(h0, .inr (3, [.ref q1, .null, .null, .null, .int 0, .int 0])), (q1, .inl (c1, 4, .inl (fun _ => 0)))] H locs := ⟨hP, hD, hS, hI.2.2.2⟩
  refine lv_aload_n hx hb d_ha_init_11 rfl (lv_at hl 0 rfl) ?_
  refine lv_bipush (v := 20) hx hb d_ha_init_12 zc_bipush_20 ?_
  refine zk_int (N' := 20) hx hb hts hK hI (by decide) (by decide) (by decide) (Nat.le_of_ble_eq_true rfl) (Nat.le_of_ble_eq_true rfl) d_ha_init_14 ?_
  intro q2 c2 H hK hI
  have hK : va_K D vwCl [(c1, .int), (c2, .int)] s := hK
  have hI : zw D A s.heap [(h0, .inr (3, [.ref q1, .null, .null, .null, .int 0, .int 0])), (q1, .inl (c1, 4, .inl (fun _ => 0))), (q2, .inl (c2, 20, .inl (fun _ => 0)))] H _ := hI
  refine W.widen (k := 2) (n := 24) (Nat.le_of_ble_eq_true rfl) (Nat.le_of_ble_eq_true rfl) ?_
  refine va_putF (ci := 3) (v := .ref q2) (ty := .array .int) (C := R_Hands) (T := T_Hands) (N := 6) hx hb hts in_Hands ty_Hands tyo_Hands nm_Hands hown hK hI.1 hI.2.1 hI.2.2.1 0 rfl rfl 1 (by decide) (hts _ q_110) (fun _ h9 => h9) rfl hin rfl (by decide +kernel) rfl rfl (Nat.le_of_ble_eq_true rfl) d_ha_init_16 ?_
  intro H locs hP hD hS
  have hI : zw D A s.heap [(h0, .inr (3, [.ref q1, .ref q2, .null, .null, .int 0, .int 0])), (q1, .inl (c1, 4, .inl (fun _ => 0))), (q2, .inl (c2, 20, .inl (fun _ => 0)))] H locs := ⟨hP, hD, hS, hI.2.2.2⟩
  refine lv_aload_n hx hb d_ha_init_19 rfl (lv_at hl 0 rfl) ?_
  refine lv_bipush (v := 20) hx hb d_ha_init_20 zc_bipush_20 ?_
  refine zk_int (N' := 20) hx hb hts hK hI (by decide) (by decide) (by decide) (Nat.le_of_ble_eq_true rfl) (Nat.le_of_ble_eq_true rfl) d_ha_init_22 ?_
  intro q3 c3 H hK hI
  have hK : va_K D vwCl [(c1, .int), (c2, .int), (c3, .int)] s := hK
  have hI : zw D A s.heap [(h0, .inr (3, [.ref q1, .ref q2, .null, .null, .int 0, .int 0])), (q1, .inl (c1, 4, .inl (fun _ => 0))), (q2, .inl (c2, 20, .inl (fun _ => 0))), (q3, .inl (c3, 20, .inl (fun _ => 0)))] H _ := hI
  refine W.widen (k := 3) (n := 44) (Nat.le_of_ble_eq_true rfl) (Nat.le_of_ble_eq_true rfl) ?_
  refine va_putF (ci := 3) (v := .ref q3) (ty := .array .int) (C := R_Hands) (T := T_Hands) (N := 6) hx hb hts in_Hands ty_Hands tyo_Hands nm_Hands hown hK hI.1 hI.2.1 hI.2.2.1 0 rfl rfl 2 (by decide) (hts _ q_112) (fun _ h9 => h9) rfl hin rfl (by decide +kernel) rfl rfl (Nat.le_of_ble_eq_true rfl) d_ha_init_24 ?_
  intro H locs hP hD hS
  have hI : zw D A s.heap [(h0, .inr (3, [.ref q1, .ref q2, .ref q3, .null, .int 0, .int 0])), (q1, .inl (c1, 4, .inl (fun _ => 0))), (q2, .inl (c2, 20, .inl (fun _ => 0))), (q3, .inl (c3, 20, .inl (fun _ => 0)))] H locs := ⟨hP, hD, hS, hI.2.2.2⟩
  refine lv_aload_n hx hb d_ha_init_27 rfl (lv_at hl 0 rfl) ?_
  refine lv_bipush (v := 6) hx hb d_ha_init_28 zc_bipush_6 ?_
  refine zk_int (N' := 6) hx hb hts hK hI (by decide) (by decide) (by decide) (Nat.le_of_ble_eq_true rfl) (Nat.le_of_ble_eq_true rfl) d_ha_init_30 ?_
  intro q4 c4 H hK hI
  have hK : va_K D vwCl [(c1, .int), (c2, .int), (c3, .int), (c4, .int)] s := hK
  have hI : zw D A s.heap [(h0, .inr (3, [.ref q1, .ref q2, .ref q3, .null, .int 0, .int 0])), (q1, .inl (c1, 4, .inl (fun _ => 0))), (q2, .inl (c2, 20, .inl (fun _ => 0))), (q3, .inl (c3, 20, .inl (fun _ => 0))), (q4, .inl (c4, 6, .inl (fun _ => 0)))] H _ := hI
  refine W.widen (k := 4) (n := 50) (Nat.le_of_ble_eq_true rfl) (Nat.le_of_ble_eq_true rfl) ?_
  refine va_putF (ci := 3) (v := .ref q4) (ty := .array .int) (C := R_Hands) (T := T_Hands) (N := 6) hx hb hts in_Hands ty_Hands tyo_Hands nm_Hands hown hK hI.1 hI.2.1 hI.2.2.1 0 rfl rfl 3 (by decide) (hts _ q_113) (fun _ h9 => h9) rfl hin rfl (by decide +kernel) rfl rfl (Nat.le_of_ble_eq_true rfl) d_ha_init_32 ?_
  intro H locs hP hD hS
  have hI : zw D A s.heap [(h0, .inr (3, [.ref q1, .ref q2, .ref q3, .ref q4, .int 0, .int 0])), (q1, .inl (c1, 4, .inl (fun _ => 0))), (q2, .inl (c2, 20, .inl (fun _ => 0))), (q3, .inl (c3, 20, .inl (fun _ => 0))), (q4, .inl (c4, 6, .inl (fun _ => 0)))] H locs := ⟨hP, hD, hS, hI.2.2.2⟩
  refine lv_aload_n hx hb d_ha_init_35 rfl (lv_at hl 0 rfl) ?_
  refine lv_iconst (v := 4) hx hb d_ha_init_36 zc_iconst_4 ?_
  refine va_put (ci := 3) (v := .int 4) (ty := .int) (C := R_Hands) (T := T_Hands) (N := 6) hx hb hts in_Hands ty_Hands tyo_Hands nm_Hands hown hK hI.1 hI.2.1 hI.2.2.1 0 rfl rfl 5 (by decide) (hts _ q_117) (fun _ h9 => h9) rfl (by decide +kernel) rfl rfl (Nat.le_of_ble_eq_true rfl) d_ha_init_37 ?_
  intro H locs hP hD hS
  have hI : zw D A s.heap [(h0, .inr (3, [.ref q1, .ref q2, .ref q3, .ref q4, .int 0, .int 4])), (q1, .inl (c1, 4, .inl (fun _ => 0))), (q2, .inl (c2, 20, .inl (fun _ => 0))), (q3, .inl (c3, 20, .inl (fun _ => 0))), (q4, .inl (c4, 6, .inl (fun _ => 0)))] H locs := ⟨hP, hD, hS, hI.2.2.2⟩
  exact W.vret hx hb hr (fun t ht hW => ⟨⟨(fun k => match k with | 0 => q1 | 1 => q2 | 2 => q3 | _ => q4, fun k => match k with | 0 => c1 | 1 => c2 | 2 => c3 | _ => c4), rfl, trivial, by rw [ht]; exact hI.1, va_K.moved hW.alike hK, hI.2.1⟩, hI.2.2.1.F ht⟩) hI.2.2.1.2.2 d_ha_init_40 hlk
def i_re_init_w (h0 : Nat) (w : (Nat → Nat) × (Nat → ClassId)) : va_W := [(h0, .inr (4, [.ref (w.1 0), .ref (w.1 1), .int 0])), (w.1 0, .inl (w.2 0, 12, .inr (.inl (fun _ => 0)))), (w.1 1, .inl (w.2 1, 12, .inl (fun _ => 0)))]
def i_re_init_t (w : (Nat → Nat) × (Nat → ClassId)) : List (ClassId × FieldType) := [(w.2 0, .long), (w.2 1, .int)]
set_option maxRecDepth 100000 in
set_option maxHeartbeats 4000000 in
theorem i_re_init (l : Launch) (D : va_G) (h0 sz : Nat) : Met l y_re_init (Cond.code y_re_init c_re_init 1 none :: zG) { frames := 1, cells := 2, slots := 24, locals := 12 } (va_Pc [.ref h0] (iP D [(h0, .inr (4, [.null, .null, .int 0]))] sz)) (va_Qv (fun (_ : (Nat → Nat) × (Nat → ClassId)) => True) (fun w t => va_P D vwCl (i_re_init_w h0 w) t.heap ∧ va_K D vwCl (i_re_init_t w) t ∧ va_D (va_A [(h0, .inr (4, [.null, .null, .int 0]))] sz) (i_re_init_w h0 w)) (va_A [(h0, .inr (4, [.null, .null, .int 0]))] sz)) 2 24 (va_A [(h0, .inr (4, [.null, .null, .int 0]))] sz) := by
  refine Met.ofW (cc := c_re_init) (maxL := 1) (ret := none) (by decide) rfl ?_
  intro p e s m args below meth c s₁ B hml hv
  obtain ⟨rfl, hsz, hP, hK, hD0, hN⟩ := hv
  have hx := B.exec
  have hb := B.bytes
  have hr := B.returns
  have hts0 := atoms_spec (ws := Cond.code y_re_init c_re_init 1 none :: zG) B.pre
  have hts : ∀ w ∈ zG, w.before _ s = true := fun w h => hts0 w (List.mem_cons_of_mem _ h)
  have hown : s.vm.findClass "ShortBridge$Results" = some m.cls := findClass_of_methodNamed B.named
  have hlk := B.notSynchronized
  have hin : meth.name = "<init>" := (name_of_methodNamed B.named B.method).1
  subst hsz
  generalize hAe : va_A [(h0, .inr (4, [.null, .null, .int 0]))] s.heap.size = A
  have hI : zw D A s.heap [(h0, .inr (4, [.null, .null, .int 0]))] s.heap [] := by rw [← hAe]; exact ⟨hP, hD0.self, va_S.rf, fun q h => Or.inr h⟩
  have hl := lv_entry [.ref h0] (n := 1) (Nat.le_of_ble_eq_true rfl)
  rw [lg_entry_eq]
  generalize (lg_sl [.ref h0] ++ List.replicate (1 - (lg_sl [.ref h0]).length) Slot.unset).toArray = ls at hl ⊢
  have hl : lv_has ls 1 [(0, .ref h0)] := hl
  refine lv_aload_n hx hb d_re_init_0 rfl (lv_at hl 0 rfl) ?_
  refine W.objInit hx hb hown (hts _ q_136) (hts _ q_62) (hts _ q_63) rfl (by rw [hml]; exact hl.1) rfl d_re_init_1 (Nat.le_of_ble_eq_true rfl) (Nat.le_of_ble_eq_true rfl) ?_
  refine W.eq (g2 := F0 m 4 ls []) rfl ?_
  refine lv_aload_n hx hb d_re_init_4 rfl (lv_at hl 0 rfl) ?_
  refine lv_bipush (v := 12) hx hb d_re_init_5 zc_bipush_12 ?_
  refine zk_long (N' := 12) hx hb hts hK hI (by decide) (by decide) (by decide) (Nat.le_of_ble_eq_true rfl) (Nat.le_of_ble_eq_true rfl) d_re_init_7 ?_
  intro q1 c1 H hK hI
  have hK : va_K D vwCl [(c1, .long)] s := hK
  have hI : zw D A s.heap [(h0, .inr (4, [.null, .null, .int 0])), (q1, .inl (c1, 12, .inr (.inl (fun _ => 0))))] H _ := hI
  refine W.widen (k := 1) (n := 12) (Nat.le_of_ble_eq_true rfl) (Nat.le_of_ble_eq_true rfl) ?_
  refine va_putF (ci := 4) (v := .ref q1) (ty := .array .long) (C := R_Results) (T := T_Results) (N := 3) hx hb hts in_Results ty_Results tyo_Results nm_Results hown hK hI.1 hI.2.1 hI.2.2.1 0 rfl rfl 0 (by decide) (hts _ q_137) (fun _ h9 => h9) rfl hin rfl (by decide +kernel) rfl rfl (Nat.le_of_ble_eq_true rfl) d_re_init_9 ?_
  intro H locs hP hD hS
  have hI : zw D A s.heap [(h0, .inr (4, [.ref q1, .null, .int 0])), (q1, .inl (c1, 12, .inr (.inl (fun _ => 0))))] H locs := ⟨hP, hD, hS, hI.2.2.2⟩
  refine lv_aload_n hx hb d_re_init_12 rfl (lv_at hl 0 rfl) ?_
  refine lv_bipush (v := 12) hx hb d_re_init_13 zc_bipush_12 ?_
  refine zk_int (N' := 12) hx hb hts hK hI (by decide) (by decide) (by decide) (Nat.le_of_ble_eq_true rfl) (Nat.le_of_ble_eq_true rfl) d_re_init_15 ?_
  intro q2 c2 H hK hI
  have hK : va_K D vwCl [(c1, .long), (c2, .int)] s := hK
  have hI : zw D A s.heap [(h0, .inr (4, [.ref q1, .null, .int 0])), (q1, .inl (c1, 12, .inr (.inl (fun _ => 0)))), (q2, .inl (c2, 12, .inl (fun _ => 0)))] H _ := hI
  refine W.widen (k := 2) (n := 24) (Nat.le_of_ble_eq_true rfl) (Nat.le_of_ble_eq_true rfl) ?_
  refine va_putF (ci := 4) (v := .ref q2) (ty := .array .int) (C := R_Results) (T := T_Results) (N := 3) hx hb hts in_Results ty_Results tyo_Results nm_Results hown hK hI.1 hI.2.1 hI.2.2.1 0 rfl rfl 1 (by decide) (hts _ q_138) (fun _ h9 => h9) rfl hin rfl (by decide +kernel) rfl rfl (Nat.le_of_ble_eq_true rfl) d_re_init_17 ?_
  intro H locs hP hD hS
  have hI : zw D A s.heap [(h0, .inr (4, [.ref q1, .ref q2, .int 0])), (q1, .inl (c1, 12, .inr (.inl (fun _ => 0)))), (q2, .inl (c2, 12, .inl (fun _ => 0)))] H locs := ⟨hP, hD, hS, hI.2.2.2⟩
  exact W.vret hx hb hr (fun t ht hW => ⟨⟨(fun k => match k with | 0 => q1 | _ => q2, fun k => match k with | 0 => c1 | _ => c2), rfl, trivial, by rw [ht]; exact hI.1, va_K.moved hW.alike hK, hI.2.1⟩, hI.2.2.1.F ht⟩) hI.2.2.1.2.2 d_re_init_20 hlk
def iE (D : va_G) (A : Nat → Prop) (w : (Nat → Nat) × (Nat → ClassId) × ZS) (t : State) : Prop := va_P D vwCl (mW w.1 w.2.1 w.2.2) t.heap ∧ va_K D vwCl (mT w.2.1) t ∧ va_D A (mW w.1 w.2.1 w.2.2)
theorem iret_m {p : Program} {l : Launch} {e : Env} {R : Room} {s : State} {m : MethodId} {args : Array Value} {below : List Frame} {meth : Method} {c : Code} {H : Heap} {locs : List Loc} {kc ks : Nat} {cc : ByteArray} {pc : Nat} {ls : Array Slot} {D : va_G} {A : Nat → Prop} {ad : Nat → Nat} {ca : Nat → ClassId} {u : ZS} {h0 : Nat} {post : ZS → Prop} (had : ad 0 = h0) (hx : p.tables.exec = Jvm.exec) (hb : c.code = cc) (hr : meth.sig.returnType = none) (hlk : meth.locks = false) (hK : va_K D vwCl (mT ca) s) (hI : zw D A s.heap (mW ad ca u) H locs) (h : post u) (d : decode cc pc = .ok (.return_, 1)) :
    W p l e R s m args below meth c H locs kc ks (MQ below (va_Qv (fun (w : (Nat → Nat) × (Nat → ClassId) × ZS) => w.1 0 = h0 ∧ post w.2.2) (iE D A) A) args s kc ks A) (F0 m pc ls []) :=
  W.vret hx hb hr (fun t ht hW => ⟨⟨(ad, ca, u), rfl, ⟨had, h⟩, by rw [ht]; exact hI.1, va_K.moved hW.alike hK, hI.2.1⟩, hI.2.2.1.F ht⟩) hI.2.2.1.2.2 d hlk
/-- a model whose fields and arrays are zero -/
def zu : ZS := (fun _ => 0, fun _ => 0, fun _ _ => 0, fun _ _ => 0)
def b_m_init_177 (r112 : Int32 → ZS → Prop) (r120 : Int32 → Int32 → ZS → Prop) (post : ZS → Prop) (v1 : Int32) (v2 : Int32) (s0 : Int64) (s1 : Int32) (u : ZS) : Prop := vp_in s1 441 ∧ (r120 v1 (v2 + 1) (pJ u 0 (Int32.toNatClampNeg s1) s0))
set_option maxRecDepth 100000 in
set_option maxHeartbeats 4000000 in
theorem k_m_init_177 {p : Program} {l : Launch} {e : Env} {R : Room} {s : State} {m : MethodId} {args : Array Value} {below : List Frame} {meth : Method} {c : Code} {D : va_G} {A : Nat → Prop} {ad : Nat → Nat} {ca : Nat → ClassId} {h0 : Nat} (had : ad 0 = h0) {r112 : Int32 → ZS → Prop} {r120 : Int32 → Int32 → ZS → Prop} {post : ZS → Prop} (cx : zx p R s m args meth c c_m_init 3 1 12 "ShortBridgeModel" none zG zNs D (mT ca)) (hk112 : ∀ (v1 : Int32) (u : ZS) (H : Heap) (locs : List Loc) (ls : Array Slot), zw D A s.heap (mW ad ca u) H locs → lv_has ls 3 [(0, .ref (ad 0)), (1, .int v1)] → r112 v1 u → W p l e R s m args below meth c H locs 13 892 (MQ below (va_Qv (fun (w : (Nat → Nat) × (Nat → ClassId) × ZS) => w.1 0 = h0 ∧ post w.2.2) (iE D A) A) args s 13 892 A) (F0 m 112 ls [])) (hk120 : ∀ (v1 : Int32) (v2 : Int32) (u : ZS) (H : Heap) (locs : List Loc) (ls : Array Slot), zw D A s.heap (mW ad ca u) H locs → lv_has ls 3 [(0, .ref (ad 0)), (1, .int v1), (2, .int v2)] → r120 v1 v2 u → W p l e R s m args below meth c H locs 13 892 (MQ below (va_Qv (fun (w : (Nat → Nat) × (Nat → ClassId) × ZS) => w.1 0 = h0 ∧ post w.2.2) (iE D A) A) args s 13 892 A) (F0 m 120 ls [])) {v1 : Int32} {v2 : Int32} {s0 : Int64} {s1 : Int32} {u : ZS} {H : Heap} {locs : List Loc} {ls : Array Slot} (hI : zw D A s.heap (mW ad ca u) H locs) (hl : lv_has ls 3 [(0, .ref (ad 0)), (1, .int v1), (2, .int v2)]) (h : b_m_init_177 r112 r120 post v1 v2 s0 s1 u) : W p l e R s m args below meth c H locs 13 892 (MQ below (va_Qv (fun (w : (Nat → Nat) × (Nat → ClassId) × ZS) => w.1 0 = h0 ∧ post w.2.2) (iE D A) A) args s 13 892 A) (F0 m 177 ls [.long s0, .int s1, .ref (ad 2)]) := by
  have cx0 := cx
  obtain ⟨hx, hb, hml, hown, hts, hN, hK, hr, hlk, hfr, hlc⟩ := cx
  unfold b_m_init_177 at h
  obtain ⟨hi, h⟩ := h
  refine ms_ways hx hb hK hI hi d_m_init_177 ?_
  intro H locs hI
  refine lv_iinc (k := 2) (v := (v2 + 1)) hx hb d_m_init_178 hl rfl (zi_1 _) (by decide) rfl ?_
  intro ls hl
  have hl : lv_has ls 3 [(2, .int (v2 + 1)), (0, .ref (ad 0)), (1, .int v1)] := hl
  refine lv_goto hx hb d_m_init_181 rfl ?_
  exact hk120 _ _ _ _ _ _ hI (lv_sub hl [1, 2, 0] rfl) h
def b_m_init_144 (r112 : Int32 → ZS → Prop) (r120 : Int32 → Int32 → ZS → Prop) (post : ZS → Prop) (v1 : Int32) (v2 : Int32) (s0 : Int32) (u : ZS) : Prop := b_m_init_177 r112 r120 post v1 v2 1 s0 u
set_option maxRecDepth 100000 in
set_option maxHeartbeats 4000000 in
theorem k_m_init_144 {p : Program} {l : Launch} {e : Env} {R : Room} {s : State} {m : MethodId} {args : Array Value} {below : List Frame} {meth : Method} {c : Code} {D : va_G} {A : Nat → Prop} {ad : Nat → Nat} {ca : Nat → ClassId} {h0 : Nat} (had : ad 0 = h0) {r112 : Int32 → ZS → Prop} {r120 : Int32 → Int32 → ZS → Prop} {post : ZS → Prop} (cx : zx p R s m args meth c c_m_init 3 1 12 "ShortBridgeModel" none zG zNs D (mT ca)) (hk112 : ∀ (v1 : Int32) (u : ZS) (H : Heap) (locs : List Loc) (ls : Array Slot), zw D A s.heap (mW ad ca u) H locs → lv_has ls 3 [(0, .ref (ad 0)), (1, .int v1)] → r112 v1 u → W p l e R s m args below meth c H locs 13 892 (MQ below (va_Qv (fun (w : (Nat → Nat) × (Nat → ClassId) × ZS) => w.1 0 = h0 ∧ post w.2.2) (iE D A) A) args s 13 892 A) (F0 m 112 ls [])) (hk120 : ∀ (v1 : Int32) (v2 : Int32) (u : ZS) (H : Heap) (locs : List Loc) (ls : Array Slot), zw D A s.heap (mW ad ca u) H locs → lv_has ls 3 [(0, .ref (ad 0)), (1, .int v1), (2, .int v2)] → r120 v1 v2 u → W p l e R s m args below meth c H locs 13 892 (MQ below (va_Qv (fun (w : (Nat → Nat) × (Nat → ClassId) × ZS) => w.1 0 = h0 ∧ post w.2.2) (iE D A) A) args s 13 892 A) (F0 m 120 ls [])) {v1 : Int32} {v2 : Int32} {s0 : Int32} {u : ZS} {H : Heap} {locs : List Loc} {ls : Array Slot} (hI : zw D A s.heap (mW ad ca u) H locs) (hl : lv_has ls 3 [(0, .ref (ad 0)), (1, .int v1), (2, .int v2)]) (h : b_m_init_144 r112 r120 post v1 v2 s0 u) : W p l e R s m args below meth c H locs 13 892 (MQ below (va_Qv (fun (w : (Nat → Nat) × (Nat → ClassId) × ZS) => w.1 0 = h0 ∧ post w.2.2) (iE D A) A) args s 13 892 A) (F0 m 144 ls [.int s0, .ref (ad 2)]) := by
  have cx0 := cx
  obtain ⟨hx, hb, hml, hown, hts, hN, hK, hr, hlk, hfr, hlc⟩ := cx
  unfold b_m_init_144 at h
  refine lv_lconst (v := 1) hx hb d_m_init_144 (by decide) ?_
  refine lv_goto hx hb d_m_init_145 rfl ?_
  exact k_m_init_177 had cx0 hk112 hk120 hI (lv_sub hl [0, 1, 2] rfl) h
def b_m_init_120 (r112 : Int32 → ZS → Prop) (post : ZS → Prop) : Nat → Int32 → Int32 → ZS → Prop
  | 0, _, _, _ => False
  | n + 1, v1, v2, u => (v1 < v2 → r112 (v1 + 1) u) ∧ (¬ (v1 < v2) → (v2 = 0 → b_m_init_144 r112 (b_m_init_120 r112 post n) post v1 v2 ((21 * v1) + v2) u) ∧ (¬ (v2 = 0) → (¬ v2 = v1 → vp_in (((21 * (v1 - 1)) + v2) - 1) 441 ∧ (vp_in ((21 * (v1 - 1)) + v2) 441 ∧ (b_m_init_177 r112 (b_m_init_120 r112 post n) post v1 v2 ((aJ u 0 (Int32.toNatClampNeg (((21 * (v1 - 1)) + v2) - 1))) + (aJ u 0 (Int32.toNatClampNeg ((21 * (v1 - 1)) + v2)))) ((21 * v1) + v2) u))) ∧ (v2 = v1 → b_m_init_144 r112 (b_m_init_120 r112 post n) post v1 v2 ((21 * v1) + v2) u)))
set_option maxRecDepth 100000 in
set_option maxHeartbeats 4000000 in
theorem k_m_init_120 {p : Program} {l : Launch} {e : Env} {R : Room} {s : State} {m : MethodId} {args : Array Value} {below : List Frame} {meth : Method} {c : Code} {D : va_G} {A : Nat → Prop} {ad : Nat → Nat} {ca : Nat → ClassId} {h0 : Nat} (had : ad 0 = h0) {r112 : Int32 → ZS → Prop} {post : ZS → Prop} (cx : zx p R s m args meth c c_m_init 3 1 12 "ShortBridgeModel" none zG zNs D (mT ca)) (hk112 : ∀ (v1 : Int32) (u : ZS) (H : Heap) (locs : List Loc) (ls : Array Slot), zw D A s.heap (mW ad ca u) H locs → lv_has ls 3 [(0, .ref (ad 0)), (1, .int v1)] → r112 v1 u → W p l e R s m args below meth c H locs 13 892 (MQ below (va_Qv (fun (w : (Nat → Nat) × (Nat → ClassId) × ZS) => w.1 0 = h0 ∧ post w.2.2) (iE D A) A) args s 13 892 A) (F0 m 112 ls [])) : ∀ (n : Nat) (v1 : Int32) (v2 : Int32) (u : ZS) (H : Heap) (locs : List Loc) (ls : Array Slot), zw D A s.heap (mW ad ca u) H locs → lv_has ls 3 [(0, .ref (ad 0)), (1, .int v1), (2, .int v2)] → b_m_init_120 r112 post n v1 v2 u → W p l e R s m args below meth c H locs 13 892 (MQ below (va_Qv (fun (w : (Nat → Nat) × (Nat → ClassId) × ZS) => w.1 0 = h0 ∧ post w.2.2) (iE D A) A) args s 13 892 A) (F0 m 120 ls []) := by
  have cx0 := cx
  obtain ⟨hx, hb, hml, hown, hts, hN, hK, hr, hlk, hfr, hlc⟩ := cx
  intro n
  induction n with
  | zero => intro v1 v2 u H locs ls hI hl h; exact (h : False).elim
  | succ n ih =>
    intro v1 v2 u H locs ls hI hl h
    unfold b_m_init_120 at h
    refine lv_iload_n hx hb d_m_init_120 rfl (lv_at hl 2 rfl) ?_
    refine lv_iload_n hx hb d_m_init_121 rfl (lv_at hl 1 rfl) ?_
    refine lv_icmp_gt hx hb d_m_init_122 rfl (fun hc => ?_) (fun hc => ?_)
    · have h := h.1 hc
      refine lv_iinc (k := 1) (v := (v1 + 1)) hx hb d_m_init_184 hl rfl (zi_1 _) (by decide) rfl ?_
      intro ls hl
      have hl : lv_has ls 3 [(1, .int (v1 + 1)), (0, .ref (ad 0)), (2, .int v2)] := hl
      refine lv_goto hx hb d_m_init_187 rfl ?_
      exact hk112 _ _ _ _ _ hI (lv_sub hl [1, 0] rfl) h
    · have h := h.2 hc
      refine lv_aload_n hx hb d_m_init_125 rfl (lv_at hl 0 rfl) ?_
      refine mg_M_ways hx hb hts hown hK hI (hts _ q_660) d_m_init_126 ?_
      refine lv_bipush (v := 21) hx hb d_m_init_129 zc_bipush_21 ?_
      refine lv_iload_n hx hb d_m_init_131 rfl (lv_at hl 1 rfl) ?_
      refine lv_imul hx hb d_m_init_132 ?_
      refine lv_iload_n hx hb d_m_init_133 rfl (lv_at hl 2 rfl) ?_
      refine lv_iadd hx hb d_m_init_134 ?_
      refine lv_iload_n hx hb d_m_init_135 rfl (lv_at hl 2 rfl) ?_
      refine lv_if_eq hx hb d_m_init_136 rfl (fun hc => ?_) (fun hc => ?_)
      · have h := h.1 hc
        exact k_m_init_144 had cx0 hk112 ih hI (lv_sub hl [0, 1, 2] rfl) h
      · have h := h.2 hc
        refine lv_iload_n hx hb d_m_init_139 rfl (lv_at hl 2 rfl) ?_
        refine lv_iload_n hx hb d_m_init_140 rfl (lv_at hl 1 rfl) ?_
        refine lv_icmp_ne hx hb d_m_init_141 rfl (fun hc => ?_) (fun hc => ?_)
        · have h := h.1 hc
          refine lv_aload_n hx hb d_m_init_148 rfl (lv_at hl 0 rfl) ?_
          refine mg_M_ways hx hb hts hown hK hI (hts _ q_660) d_m_init_149 ?_
          refine lv_bipush (v := 21) hx hb d_m_init_152 zc_bipush_21 ?_
          refine lv_iload_n hx hb d_m_init_154 rfl (lv_at hl 1 rfl) ?_
          refine lv_iconst (v := 1) hx hb d_m_init_155 zc_iconst_1 ?_
          refine lv_isub hx hb d_m_init_156 ?_
          refine lv_imul hx hb d_m_init_157 ?_
          refine lv_iload_n hx hb d_m_init_158 rfl (lv_at hl 2 rfl) ?_
          refine lv_iadd hx hb d_m_init_159 ?_
          refine lv_iconst (v := 1) hx hb d_m_init_160 zc_iconst_1 ?_
          refine lv_isub hx hb d_m_init_161 ?_
          obtain ⟨hi, h⟩ := h
          refine ma_ways hx hb hK hI hi d_m_init_162 ?_
          refine lv_aload_n hx hb d_m_init_163 rfl (lv_at hl 0 rfl) ?_
          refine mg_M_ways hx hb hts hown hK hI (hts _ q_660) d_m_init_164 ?_
          refine lv_bipush (v := 21) hx hb d_m_init_167 zc_bipush_21 ?_
          refine lv_iload_n hx hb d_m_init_169 rfl (lv_at hl 1 rfl) ?_
          refine lv_iconst (v := 1) hx hb d_m_init_170 zc_iconst_1 ?_
          refine lv_isub hx hb d_m_init_171 ?_
          refine lv_imul hx hb d_m_init_172 ?_
          refine lv_iload_n hx hb d_m_init_173 rfl (lv_at hl 2 rfl) ?_
          refine lv_iadd hx hb d_m_init_174 ?_
          obtain ⟨hi, h⟩ := h
          refine ma_ways hx hb hK hI hi d_m_init_175 ?_
          refine lv_ladd hx hb d_m_init_176 ?_
          exact k_m_init_177 had cx0 hk112 ih hI (lv_sub hl [0, 1, 2] rfl) h
        · have h := h.2 hc
          exact k_m_init_144 had cx0 hk112 ih hI (lv_sub hl [0, 1, 2] rfl) h
def b_m_init_112  (post : ZS → Prop) : Nat → Int32 → ZS → Prop
  | 0, _, _ => False
  | n + 1, v1, u => (20 < v1 → post u) ∧ (¬ (20 < v1) → ∃ n0, b_m_init_120 (b_m_init_112 post n) post n0 v1 0 u)
set_option maxRecDepth 100000 in
set_option maxHeartbeats 4000000 in
theorem k_m_init_112 {p : Program} {l : Launch} {e : Env} {R : Room} {s : State} {m : MethodId} {args : Array Value} {below : List Frame} {meth : Method} {c : Code} {D : va_G} {A : Nat → Prop} {ad : Nat → Nat} {ca : Nat → ClassId} {h0 : Nat} (had : ad 0 = h0)  {post : ZS → Prop} (cx : zx p R s m args meth c c_m_init 3 1 12 "ShortBridgeModel" none zG zNs D (mT ca)) : ∀ (n : Nat) (v1 : Int32) (u : ZS) (H : Heap) (locs : List Loc) (ls : Array Slot), zw D A s.heap (mW ad ca u) H locs → lv_has ls 3 [(0, .ref (ad 0)), (1, .int v1)] → b_m_init_112 post n v1 u → W p l e R s m args below meth c H locs 13 892 (MQ below (va_Qv (fun (w : (Nat → Nat) × (Nat → ClassId) × ZS) => w.1 0 = h0 ∧ post w.2.2) (iE D A) A) args s 13 892 A) (F0 m 112 ls []) := by
  have cx0 := cx
  obtain ⟨hx, hb, hml, hown, hts, hN, hK, hr, hlk, hfr, hlc⟩ := cx
  intro n
  induction n with
  | zero => intro v1 u H locs ls hI hl h; exact (h : False).elim
  | succ n ih =>
    intro v1 u H locs ls hI hl h
    unfold b_m_init_112 at h
    refine lv_iload_n hx hb d_m_init_112 rfl (lv_at hl 1 rfl) ?_
    refine lv_bipush (v := 20) hx hb d_m_init_113 zc_bipush_20 ?_
    refine lv_icmp_gt hx hb d_m_init_115 rfl (fun hc => ?_) (fun hc => ?_)
    · have h := h.1 hc
      exact iret_m had hx hb hr hlk hK hI h d_m_init_190
    · have h := h.2 hc
      refine lv_iconst (v := 0) hx hb d_m_init_118 zc_iconst_0 ?_
      refine lv_istore_n hx hb d_m_init_119 rfl hl (by decide) rfl ?_
      intro ls hl
      have hl : lv_has ls 3 [(2, .int 0), (0, .ref (ad 0)), (1, .int v1)] := hl
      obtain ⟨n0, h⟩ := h
      exact k_m_init_120 had cx0 ih n0 _ _ _ _ _ _ hI (lv_sub hl [1, 2, 0] rfl) h
def w_m_init (u : ZS) (post : ZS → Prop) : Prop := ∃ n0, b_m_init_112 post n0 0 u
set_option maxRecDepth 100000 in
set_option maxHeartbeats 4000000 in
theorem j_m_init {p : Program} {l : Launch} {e : Env} {R : Room} {s : State} {m : MethodId} {args : Array Value} {below : List Frame} {meth : Method} {c : Code} {D : va_G} {A : Nat → Prop} {ad : Nat → Nat} {ca : Nat → ClassId} {h0 : Nat} (had : ad 0 = h0) {post : ZS → Prop} {u : ZS} {H : Heap} {locs : List Loc} {ls : Array Slot} (cx : zx p R s m args meth c c_m_init 3 1 12 "ShortBridgeModel" none zG zNs D (mT ca)) (hI : zw D A s.heap (mW ad ca u) H locs) (hl : lv_has ls 3 [(0, .ref (ad 0))]) (h : w_m_init u post) : W p l e R s m args below meth c H locs 13 892 (MQ below (va_Qv (fun (w : (Nat → Nat) × (Nat → ClassId) × ZS) => w.1 0 = h0 ∧ post w.2.2) (iE D A) A) args s 13 892 A) (F0 m 110 ls []) := by
  have cx0 := cx
  obtain ⟨hx, hb, hml, hown, hts, hN, hK, hr, hlk, hfr, hlc⟩ := cx
  unfold w_m_init at h
  refine lv_iconst (v := 0) hx hb d_m_init_110 zc_iconst_0 ?_
  refine lv_istore_n hx hb d_m_init_111 rfl hl (by decide) rfl ?_
  intro ls hl
  have hl : lv_has ls 3 [(1, .int 0), (0, .ref (ad 0))] := hl
  obtain ⟨n0, h⟩ := h
  exact k_m_init_112 had cx0  n0 _ _ _ _ _ hI (lv_sub hl [1, 0] rfl) h
set_option maxRecDepth 100000 in
set_option maxHeartbeats 4000000 in
theorem i_m_init (l : Launch) (D : va_G) (h0 sz : Nat) {post : ZS → Prop} (h : w_m_init zu post) : Met l y_m_init (Cond.code y_m_init c_m_init 3 none :: zG) { frames := 1, cells := 13, slots := 892, locals := 12 } (va_Pc [.ref h0] (iP D [(h0, .inr (5, [.int 0, .int 0, .long 0, .int 0, .int 0, .null, .null, .int 0, .null, .int 0, .null, .int 0, .int 0, .int 0, .int 0, .null, .null, .null, .null, .null, .null, .null, .int 0, .null, .null]))] sz)) (va_Qv (fun (w : (Nat → Nat) × (Nat → ClassId) × ZS) => w.1 0 = h0 ∧ post w.2.2) (iE D (va_A [(h0, .inr (5, [.int 0, .int 0, .long 0, .int 0, .int 0, .null, .null, .int 0, .null, .int 0, .null, .int 0, .int 0, .int 0, .int 0, .null, .null, .null, .null, .null, .null, .null, .int 0, .null, .null]))] sz)) (va_A [(h0, .inr (5, [.int 0, .int 0, .long 0, .int 0, .int 0, .null, .null, .int 0, .null, .int 0, .null, .int 0, .int 0, .int 0, .int 0, .null, .null, .null, .null, .null, .null, .null, .int 0, .null, .null]))] sz)) 13 892 (va_A [(h0, .inr (5, [.int 0, .int 0, .long 0, .int 0, .int 0, .null, .null, .int 0, .null, .int 0, .null, .int 0, .int 0, .int 0, .int 0, .null, .null, .null, .null, .null, .null, .null, .int 0, .null, .null]))] sz) := by
  refine Met.ofW (cc := c_m_init) (maxL := 3) (ret := none) (by decide) rfl ?_
  intro p e s m args below meth c s₁ B hml hv
  obtain ⟨rfl, hsz, hP, hK, hD0, hN⟩ := hv
  have hx := B.exec
  have hb := B.bytes
  have hr := B.returns
  have hts0 := atoms_spec (ws := Cond.code y_m_init c_m_init 3 none :: zG) B.pre
  have hts : ∀ w ∈ zG, w.before _ s = true := fun w h => hts0 w (List.mem_cons_of_mem _ h)
  have hown : s.vm.findClass "ShortBridgeModel" = some m.cls := findClass_of_methodNamed B.named
  have hlk := B.notSynchronized
  have hin : meth.name = "<init>" := (name_of_methodNamed B.named B.method).1
  subst hsz
  generalize hAe : va_A [(h0, .inr (5, [.int 0, .int 0, .long 0, .int 0, .int 0, .null, .null, .int 0, .null, .int 0, .null, .int 0, .int 0, .int 0, .int 0, .null, .null, .null, .null, .null, .null, .null, .int 0, .null, .null]))] s.heap.size = A
  have hI : zw D A s.heap [(h0, .inr (5, [.int 0, .int 0, .long 0, .int 0, .int 0, .null, .null, .int 0, .null, .int 0, .null, .int 0, .int 0, .int 0, .int 0, .null, .null, .null, .null, .null, .null, .null, .int 0, .null, .null]))] s.heap [] := by rw [← hAe]; exact ⟨hP, hD0.self, va_S.rf, fun q h => Or.inr h⟩
  have hl := lv_entry [.ref h0] (n := 3) (Nat.le_of_ble_eq_true rfl)
  rw [lg_entry_eq]
  generalize (lg_sl [.ref h0] ++ List.replicate (3 - (lg_sl [.ref h0]).length) Slot.unset).toArray = ls at hl ⊢
  have hl : lv_has ls 3 [(0, .ref h0)] := hl
  refine lv_aload_n hx hb d_m_init_0 rfl (lv_at hl 0 rfl) ?_
  refine W.objInit hx hb hown (hts _ q_653) (hts _ q_62) (hts _ q_63) rfl (by rw [hml]; exact hl.1) rfl d_m_init_1 (Nat.le_of_ble_eq_true rfl) (Nat.le_of_ble_eq_true rfl) ?_
  refine W.eq (g2 := F0 m 4 ls []) rfl ?_
  refine lv_aload_n hx hb d_m_init_4 rfl (lv_at hl 0 rfl) ?_
  refine lv_bipush (v := 20) hx hb d_m_init_5 zc_bipush_20 ?_
  refine zk_int (N' := 20) hx hb hts hK hI (by decide) (by decide) (by decide) (Nat.le_of_ble_eq_true rfl) (Nat.le_of_ble_eq_true rfl) d_m_init_7 ?_
  intro q1 c1 H hK hI
  have hK : va_K D vwCl [(c1, .int)] s := hK
  have hI : zw D A s.heap [(h0, .inr (5, [.int 0, .int 0, .long 0, .int 0, .int 0, .null, .null, .int 0, .null, .int 0, .null, .int 0, .int 0, .int 0, .int 0, .null, .null, .null, .null, .null, .null, .null, .int 0, .null, .null])), (q1, .inl (c1, 20, .inl (fun _ => 0)))] H _ := hI
  refine W.widen (k := 1) (n := 20) (Nat.le_of_ble_eq_true rfl) (Nat.le_of_ble_eq_true rfl) ?_
  refine va_putF (ci := 5) (v := .ref q1) (ty := .array .int) (C := R_M) (T := T_M) (N := 25) hx hb hts in_M ty_M tyo_M nm_M hown hK hI.1 hI.2.1 hI.2.2.1 0 rfl rfl 5 (by decide) (hts _ q_659) (fun _ h9 => h9) rfl hin rfl (by decide +kernel) rfl rfl (Nat.le_of_ble_eq_true rfl) d_m_init_9 ?_
  intro H locs hP hD hS
  have hI : zw D A s.heap [(h0, .inr (5, [.int 0, .int 0, .long 0, .int 0, .int 0, .ref q1, .null, .int 0, .null, .int 0, .null, .int 0, .int 0, .int 0, .int 0, .null, .null, .null, .null, .null, .null, .null, .int 0, .null, .null])), (q1, .inl (c1, 20, .inl (fun _ => 0)))] H locs := ⟨hP, hD, hS, hI.2.2.2⟩
  refine lv_aload_n hx hb d_m_init_12 rfl (lv_at hl 0 rfl) ?_
  refine lv_sipush (v := 441) hx hb d_m_init_13 zc_sipush_441 ?_
  refine zk_long (N' := 441) hx hb hts hK hI (by decide) (by decide) (by decide) (Nat.le_of_ble_eq_true rfl) (Nat.le_of_ble_eq_true rfl) d_m_init_16 ?_
  intro q2 c2 H hK hI
  have hK : va_K D vwCl [(c1, .int), (c2, .long)] s := hK
  have hI : zw D A s.heap [(h0, .inr (5, [.int 0, .int 0, .long 0, .int 0, .int 0, .ref q1, .null, .int 0, .null, .int 0, .null, .int 0, .int 0, .int 0, .int 0, .null, .null, .null, .null, .null, .null, .null, .int 0, .null, .null])), (q1, .inl (c1, 20, .inl (fun _ => 0))), (q2, .inl (c2, 441, .inr (.inl (fun _ => 0))))] H _ := hI
  refine W.widen (k := 2) (n := 461) (Nat.le_of_ble_eq_true rfl) (Nat.le_of_ble_eq_true rfl) ?_
  refine va_putF (ci := 5) (v := .ref q2) (ty := .array .long) (C := R_M) (T := T_M) (N := 25) hx hb hts in_M ty_M tyo_M nm_M hown hK hI.1 hI.2.1 hI.2.2.1 0 rfl rfl 6 (by decide) (hts _ q_660) (fun _ h9 => h9) rfl hin rfl (by decide +kernel) rfl rfl (Nat.le_of_ble_eq_true rfl) d_m_init_18 ?_
  intro H locs hP hD hS
  have hI : zw D A s.heap [(h0, .inr (5, [.int 0, .int 0, .long 0, .int 0, .int 0, .ref q1, .ref q2, .int 0, .null, .int 0, .null, .int 0, .int 0, .int 0, .int 0, .null, .null, .null, .null, .null, .null, .null, .int 0, .null, .null])), (q1, .inl (c1, 20, .inl (fun _ => 0))), (q2, .inl (c2, 441, .inr (.inl (fun _ => 0))))] H locs := ⟨hP, hD, hS, hI.2.2.2⟩
  refine lv_aload_n hx hb d_m_init_21 rfl (lv_at hl 0 rfl) ?_
  refine lv_sipush (v := 240) hx hb d_m_init_22 zc_sipush_240 ?_
  refine zk_int (N' := 240) hx hb hts hK hI (by decide) (by decide) (by decide) (Nat.le_of_ble_eq_true rfl) (Nat.le_of_ble_eq_true rfl) d_m_init_25 ?_
  intro q3 c3 H hK hI
  have hK : va_K D vwCl [(c1, .int), (c2, .long), (c3, .int)] s := hK
  have hI : zw D A s.heap [(h0, .inr (5, [.int 0, .int 0, .long 0, .int 0, .int 0, .ref q1, .ref q2, .int 0, .null, .int 0, .null, .int 0, .int 0, .int 0, .int 0, .null, .null, .null, .null, .null, .null, .null, .int 0, .null, .null])), (q1, .inl (c1, 20, .inl (fun _ => 0))), (q2, .inl (c2, 441, .inr (.inl (fun _ => 0)))), (q3, .inl (c3, 240, .inl (fun _ => 0)))] H _ := hI
  refine W.widen (k := 3) (n := 701) (Nat.le_of_ble_eq_true rfl) (Nat.le_of_ble_eq_true rfl) ?_
  refine va_putF (ci := 5) (v := .ref q3) (ty := .array .int) (C := R_M) (T := T_M) (N := 25) hx hb hts in_M ty_M tyo_M nm_M hown hK hI.1 hI.2.1 hI.2.2.1 0 rfl rfl 8 (by decide) (hts _ q_662) (fun _ h9 => h9) rfl hin rfl (by decide +kernel) rfl rfl (Nat.le_of_ble_eq_true rfl) d_m_init_27 ?_
  intro H locs hP hD hS
  have hI : zw D A s.heap [(h0, .inr (5, [.int 0, .int 0, .long 0, .int 0, .int 0, .ref q1, .ref q2, .int 0, .ref q3, .int 0, .null, .int 0, .int 0, .int 0, .int 0, .null, .null, .null, .null, .null, .null, .null, .int 0, .null, .null])), (q1, .inl (c1, 20, .inl (fun _ => 0))), (q2, .inl (c2, 441, .inr (.inl (fun _ => 0)))), (q3, .inl (c3, 240, .inl (fun _ => 0)))] H locs := ⟨hP, hD, hS, hI.2.2.2⟩
  refine lv_aload_n hx hb d_m_init_30 rfl (lv_at hl 0 rfl) ?_
  refine lv_bipush (v := 20) hx hb d_m_init_31 zc_bipush_20 ?_
  refine zk_int (N' := 20) hx hb hts hK hI (by decide) (by decide) (by decide) (Nat.le_of_ble_eq_true rfl) (Nat.le_of_ble_eq_true rfl) d_m_init_33 ?_
  intro q4 c4 H hK hI
  have hK : va_K D vwCl [(c1, .int), (c2, .long), (c3, .int), (c4, .int)] s := hK
  have hI : zw D A s.heap [(h0, .inr (5, [.int 0, .int 0, .long 0, .int 0, .int 0, .ref q1, .ref q2, .int 0, .ref q3, .int 0, .null, .int 0, .int 0, .int 0, .int 0, .null, .null, .null, .null, .null, .null, .null, .int 0, .null, .null])), (q1, .inl (c1, 20, .inl (fun _ => 0))), (q2, .inl (c2, 441, .inr (.inl (fun _ => 0)))), (q3, .inl (c3, 240, .inl (fun _ => 0))), (q4, .inl (c4, 20, .inl (fun _ => 0)))] H _ := hI
  refine W.widen (k := 4) (n := 721) (Nat.le_of_ble_eq_true rfl) (Nat.le_of_ble_eq_true rfl) ?_
  refine va_putF (ci := 5) (v := .ref q4) (ty := .array .int) (C := R_M) (T := T_M) (N := 25) hx hb hts in_M ty_M tyo_M nm_M hown hK hI.1 hI.2.1 hI.2.2.1 0 rfl rfl 10 (by decide) (hts _ q_664) (fun _ h9 => h9) rfl hin rfl (by decide +kernel) rfl rfl (Nat.le_of_ble_eq_true rfl) d_m_init_35 ?_
  intro H locs hP hD hS
  have hI : zw D A s.heap [(h0, .inr (5, [.int 0, .int 0, .long 0, .int 0, .int 0, .ref q1, .ref q2, .int 0, .ref q3, .int 0, .ref q4, .int 0, .int 0, .int 0, .int 0, .null, .null, .null, .null, .null, .null, .null, .int 0, .null, .null])), (q1, .inl (c1, 20, .inl (fun _ => 0))), (q2, .inl (c2, 441, .inr (.inl (fun _ => 0)))), (q3, .inl (c3, 240, .inl (fun _ => 0))), (q4, .inl (c4, 20, .inl (fun _ => 0)))] H locs := ⟨hP, hD, hS, hI.2.2.2⟩
  refine lv_aload_n hx hb d_m_init_38 rfl (lv_at hl 0 rfl) ?_
  refine lv_bipush (v := 21) hx hb d_m_init_39 zc_bipush_21 ?_
  refine zk_int (N' := 21) hx hb hts hK hI (by decide) (by decide) (by decide) (Nat.le_of_ble_eq_true rfl) (Nat.le_of_ble_eq_true rfl) d_m_init_41 ?_
  intro q5 c5 H hK hI
  have hK : va_K D vwCl [(c1, .int), (c2, .long), (c3, .int), (c4, .int), (c5, .int)] s := hK
  have hI : zw D A s.heap [(h0, .inr (5, [.int 0, .int 0, .long 0, .int 0, .int 0, .ref q1, .ref q2, .int 0, .ref q3, .int 0, .ref q4, .int 0, .int 0, .int 0, .int 0, .null, .null, .null, .null, .null, .null, .null, .int 0, .null, .null])), (q1, .inl (c1, 20, .inl (fun _ => 0))), (q2, .inl (c2, 441, .inr (.inl (fun _ => 0)))), (q3, .inl (c3, 240, .inl (fun _ => 0))), (q4, .inl (c4, 20, .inl (fun _ => 0))), (q5, .inl (c5, 21, .inl (fun _ => 0)))] H _ := hI
  refine W.widen (k := 5) (n := 742) (Nat.le_of_ble_eq_true rfl) (Nat.le_of_ble_eq_true rfl) ?_
  refine va_putF (ci := 5) (v := .ref q5) (ty := .array .int) (C := R_M) (T := T_M) (N := 25) hx hb hts in_M ty_M tyo_M nm_M hown hK hI.1 hI.2.1 hI.2.2.1 0 rfl rfl 15 (by decide) (hts _ q_669) (fun _ h9 => h9) rfl hin rfl (by decide +kernel) rfl rfl (Nat.le_of_ble_eq_true rfl) d_m_init_43 ?_
  intro H locs hP hD hS
  have hI : zw D A s.heap [(h0, .inr (5, [.int 0, .int 0, .long 0, .int 0, .int 0, .ref q1, .ref q2, .int 0, .ref q3, .int 0, .ref q4, .int 0, .int 0, .int 0, .int 0, .ref q5, .null, .null, .null, .null, .null, .null, .int 0, .null, .null])), (q1, .inl (c1, 20, .inl (fun _ => 0))), (q2, .inl (c2, 441, .inr (.inl (fun _ => 0)))), (q3, .inl (c3, 240, .inl (fun _ => 0))), (q4, .inl (c4, 20, .inl (fun _ => 0))), (q5, .inl (c5, 21, .inl (fun _ => 0)))] H locs := ⟨hP, hD, hS, hI.2.2.2⟩
  refine lv_aload_n hx hb d_m_init_46 rfl (lv_at hl 0 rfl) ?_
  refine lv_bipush (v := 21) hx hb d_m_init_47 zc_bipush_21 ?_
  refine zk_int (N' := 21) hx hb hts hK hI (by decide) (by decide) (by decide) (Nat.le_of_ble_eq_true rfl) (Nat.le_of_ble_eq_true rfl) d_m_init_49 ?_
  intro q6 c6 H hK hI
  have hK : va_K D vwCl [(c1, .int), (c2, .long), (c3, .int), (c4, .int), (c5, .int), (c6, .int)] s := hK
  have hI : zw D A s.heap [(h0, .inr (5, [.int 0, .int 0, .long 0, .int 0, .int 0, .ref q1, .ref q2, .int 0, .ref q3, .int 0, .ref q4, .int 0, .int 0, .int 0, .int 0, .ref q5, .null, .null, .null, .null, .null, .null, .int 0, .null, .null])), (q1, .inl (c1, 20, .inl (fun _ => 0))), (q2, .inl (c2, 441, .inr (.inl (fun _ => 0)))), (q3, .inl (c3, 240, .inl (fun _ => 0))), (q4, .inl (c4, 20, .inl (fun _ => 0))), (q5, .inl (c5, 21, .inl (fun _ => 0))), (q6, .inl (c6, 21, .inl (fun _ => 0)))] H _ := hI
  refine W.widen (k := 6) (n := 763) (Nat.le_of_ble_eq_true rfl) (Nat.le_of_ble_eq_true rfl) ?_
  refine va_putF (ci := 5) (v := .ref q6) (ty := .array .int) (C := R_M) (T := T_M) (N := 25) hx hb hts in_M ty_M tyo_M nm_M hown hK hI.1 hI.2.1 hI.2.2.1 0 rfl rfl 16 (by decide) (hts _ q_670) (fun _ h9 => h9) rfl hin rfl (by decide +kernel) rfl rfl (Nat.le_of_ble_eq_true rfl) d_m_init_51 ?_
  intro H locs hP hD hS
  have hI : zw D A s.heap [(h0, .inr (5, [.int 0, .int 0, .long 0, .int 0, .int 0, .ref q1, .ref q2, .int 0, .ref q3, .int 0, .ref q4, .int 0, .int 0, .int 0, .int 0, .ref q5, .ref q6, .null, .null, .null, .null, .null, .int 0, .null, .null])), (q1, .inl (c1, 20, .inl (fun _ => 0))), (q2, .inl (c2, 441, .inr (.inl (fun _ => 0)))), (q3, .inl (c3, 240, .inl (fun _ => 0))), (q4, .inl (c4, 20, .inl (fun _ => 0))), (q5, .inl (c5, 21, .inl (fun _ => 0))), (q6, .inl (c6, 21, .inl (fun _ => 0)))] H locs := ⟨hP, hD, hS, hI.2.2.2⟩
  refine lv_aload_n hx hb d_m_init_54 rfl (lv_at hl 0 rfl) ?_
  refine lv_bipush (v := 21) hx hb d_m_init_55 zc_bipush_21 ?_
  refine zk_int (N' := 21) hx hb hts hK hI (by decide) (by decide) (by decide) (Nat.le_of_ble_eq_true rfl) (Nat.le_of_ble_eq_true rfl) d_m_init_57 ?_
  intro q7 c7 H hK hI
  have hK : va_K D vwCl [(c1, .int), (c2, .long), (c3, .int), (c4, .int), (c5, .int), (c6, .int), (c7, .int)] s := hK
  have hI : zw D A s.heap [(h0, .inr (5, [.int 0, .int 0, .long 0, .int 0, .int 0, .ref q1, .ref q2, .int 0, .ref q3, .int 0, .ref q4, .int 0, .int 0, .int 0, .int 0, .ref q5, .ref q6, .null, .null, .null, .null, .null, .int 0, .null, .null])), (q1, .inl (c1, 20, .inl (fun _ => 0))), (q2, .inl (c2, 441, .inr (.inl (fun _ => 0)))), (q3, .inl (c3, 240, .inl (fun _ => 0))), (q4, .inl (c4, 20, .inl (fun _ => 0))), (q5, .inl (c5, 21, .inl (fun _ => 0))), (q6, .inl (c6, 21, .inl (fun _ => 0))), (q7, .inl (c7, 21, .inl (fun _ => 0)))] H _ := hI
  refine W.widen (k := 7) (n := 784) (Nat.le_of_ble_eq_true rfl) (Nat.le_of_ble_eq_true rfl) ?_
  refine va_putF (ci := 5) (v := .ref q7) (ty := .array .int) (C := R_M) (T := T_M) (N := 25) hx hb hts in_M ty_M tyo_M nm_M hown hK hI.1 hI.2.1 hI.2.2.1 0 rfl rfl 17 (by decide) (hts _ q_671) (fun _ h9 => h9) rfl hin rfl (by decide +kernel) rfl rfl (Nat.le_of_ble_eq_true rfl) d_m_init_59 ?_
  intro H locs hP hD hS
  have hI : zw D A s.heap [(h0, .inr (5, [.int 0, .int 0, .long 0, .int 0, .int 0, .ref q1, .ref q2, .int 0, .ref q3, .int 0, .ref q4, .int 0, .int 0, .int 0, .int 0, .ref q5, .ref q6, .ref q7, .null, .null, .null, .null, .int 0, .null, .null])), (q1, .inl (c1, 20, .inl (fun _ => 0))), (q2, .inl (c2, 441, .inr (.inl (fun _ => 0)))), (q3, .inl (c3, 240, .inl (fun _ => 0))), (q4, .inl (c4, 20, .inl (fun _ => 0))), (q5, .inl (c5, 21, .inl (fun _ => 0))), (q6, .inl (c6, 21, .inl (fun _ => 0))), (q7, .inl (c7, 21, .inl (fun _ => 0)))] H locs := ⟨hP, hD, hS, hI.2.2.2⟩
  refine lv_aload_n hx hb d_m_init_62 rfl (lv_at hl 0 rfl) ?_
  refine lv_bipush (v := 21) hx hb d_m_init_63 zc_bipush_21 ?_
  refine zk_int (N' := 21) hx hb hts hK hI (by decide) (by decide) (by decide) (Nat.le_of_ble_eq_true rfl) (Nat.le_of_ble_eq_true rfl) d_m_init_65 ?_
  intro q8 c8 H hK hI
  have hK : va_K D vwCl [(c1, .int), (c2, .long), (c3, .int), (c4, .int), (c5, .int), (c6, .int), (c7, .int), (c8, .int)] s := hK
  have hI : zw D A s.heap [(h0, .inr (5, [.int 0, .int 0, .long 0, .int 0, .int 0, .ref q1, .ref q2, .int 0, .ref q3, .int 0, .ref q4, .int 0, .int 0, .int 0, .int 0, .ref q5, .ref q6, .ref q7, .null, .null, .null, .null, .int 0, .null, .null])), (q1, .inl (c1, 20, .inl (fun _ => 0))), (q2, .inl (c2, 441, .inr (.inl (fun _ => 0)))), (q3, .inl (c3, 240, .inl (fun _ => 0))), (q4, .inl (c4, 20, .inl (fun _ => 0))), (q5, .inl (c5, 21, .inl (fun _ => 0))), (q6, .inl (c6, 21, .inl (fun _ => 0))), (q7, .inl (c7, 21, .inl (fun _ => 0))), (q8, .inl (c8, 21, .inl (fun _ => 0)))] H _ := hI
  refine W.widen (k := 8) (n := 805) (Nat.le_of_ble_eq_true rfl) (Nat.le_of_ble_eq_true rfl) ?_
  refine va_putF (ci := 5) (v := .ref q8) (ty := .array .int) (C := R_M) (T := T_M) (N := 25) hx hb hts in_M ty_M tyo_M nm_M hown hK hI.1 hI.2.1 hI.2.2.1 0 rfl rfl 18 (by decide) (hts _ q_672) (fun _ h9 => h9) rfl hin rfl (by decide +kernel) rfl rfl (Nat.le_of_ble_eq_true rfl) d_m_init_67 ?_
  intro H locs hP hD hS
  have hI : zw D A s.heap [(h0, .inr (5, [.int 0, .int 0, .long 0, .int 0, .int 0, .ref q1, .ref q2, .int 0, .ref q3, .int 0, .ref q4, .int 0, .int 0, .int 0, .int 0, .ref q5, .ref q6, .ref q7, .ref q8, .null, .null, .null, .int 0, .null, .null])), (q1, .inl (c1, 20, .inl (fun _ => 0))), (q2, .inl (c2, 441, .inr (.inl (fun _ => 0)))), (q3, .inl (c3, 240, .inl (fun _ => 0))), (q4, .inl (c4, 20, .inl (fun _ => 0))), (q5, .inl (c5, 21, .inl (fun _ => 0))), (q6, .inl (c6, 21, .inl (fun _ => 0))), (q7, .inl (c7, 21, .inl (fun _ => 0))), (q8, .inl (c8, 21, .inl (fun _ => 0)))] H locs := ⟨hP, hD, hS, hI.2.2.2⟩
  refine lv_aload_n hx hb d_m_init_70 rfl (lv_at hl 0 rfl) ?_
  refine lv_bipush (v := 21) hx hb d_m_init_71 zc_bipush_21 ?_
  refine zk_int (N' := 21) hx hb hts hK hI (by decide) (by decide) (by decide) (Nat.le_of_ble_eq_true rfl) (Nat.le_of_ble_eq_true rfl) d_m_init_73 ?_
  intro q9 c9 H hK hI
  have hK : va_K D vwCl [(c1, .int), (c2, .long), (c3, .int), (c4, .int), (c5, .int), (c6, .int), (c7, .int), (c8, .int), (c9, .int)] s := hK
  have hI : zw D A s.heap [(h0, .inr (5, [.int 0, .int 0, .long 0, .int 0, .int 0, .ref q1, .ref q2, .int 0, .ref q3, .int 0, .ref q4, .int 0, .int 0, .int 0, .int 0, .ref q5, .ref q6, .ref q7, .ref q8, .null, .null, .null, .int 0, .null, .null])), (q1, .inl (c1, 20, .inl (fun _ => 0))), (q2, .inl (c2, 441, .inr (.inl (fun _ => 0)))), (q3, .inl (c3, 240, .inl (fun _ => 0))), (q4, .inl (c4, 20, .inl (fun _ => 0))), (q5, .inl (c5, 21, .inl (fun _ => 0))), (q6, .inl (c6, 21, .inl (fun _ => 0))), (q7, .inl (c7, 21, .inl (fun _ => 0))), (q8, .inl (c8, 21, .inl (fun _ => 0))), (q9, .inl (c9, 21, .inl (fun _ => 0)))] H _ := hI
  refine W.widen (k := 9) (n := 826) (Nat.le_of_ble_eq_true rfl) (Nat.le_of_ble_eq_true rfl) ?_
  refine va_putF (ci := 5) (v := .ref q9) (ty := .array .int) (C := R_M) (T := T_M) (N := 25) hx hb hts in_M ty_M tyo_M nm_M hown hK hI.1 hI.2.1 hI.2.2.1 0 rfl rfl 19 (by decide) (hts _ q_673) (fun _ h9 => h9) rfl hin rfl (by decide +kernel) rfl rfl (Nat.le_of_ble_eq_true rfl) d_m_init_75 ?_
  intro H locs hP hD hS
  have hI : zw D A s.heap [(h0, .inr (5, [.int 0, .int 0, .long 0, .int 0, .int 0, .ref q1, .ref q2, .int 0, .ref q3, .int 0, .ref q4, .int 0, .int 0, .int 0, .int 0, .ref q5, .ref q6, .ref q7, .ref q8, .ref q9, .null, .null, .int 0, .null, .null])), (q1, .inl (c1, 20, .inl (fun _ => 0))), (q2, .inl (c2, 441, .inr (.inl (fun _ => 0)))), (q3, .inl (c3, 240, .inl (fun _ => 0))), (q4, .inl (c4, 20, .inl (fun _ => 0))), (q5, .inl (c5, 21, .inl (fun _ => 0))), (q6, .inl (c6, 21, .inl (fun _ => 0))), (q7, .inl (c7, 21, .inl (fun _ => 0))), (q8, .inl (c8, 21, .inl (fun _ => 0))), (q9, .inl (c9, 21, .inl (fun _ => 0)))] H locs := ⟨hP, hD, hS, hI.2.2.2⟩
  refine lv_aload_n hx hb d_m_init_78 rfl (lv_at hl 0 rfl) ?_
  refine lv_bipush (v := 21) hx hb d_m_init_79 zc_bipush_21 ?_
  refine zk_int (N' := 21) hx hb hts hK hI (by decide) (by decide) (by decide) (Nat.le_of_ble_eq_true rfl) (Nat.le_of_ble_eq_true rfl) d_m_init_81 ?_
  intro q10 c10 H hK hI
  have hK : va_K D vwCl [(c1, .int), (c2, .long), (c3, .int), (c4, .int), (c5, .int), (c6, .int), (c7, .int), (c8, .int), (c9, .int), (c10, .int)] s := hK
  have hI : zw D A s.heap [(h0, .inr (5, [.int 0, .int 0, .long 0, .int 0, .int 0, .ref q1, .ref q2, .int 0, .ref q3, .int 0, .ref q4, .int 0, .int 0, .int 0, .int 0, .ref q5, .ref q6, .ref q7, .ref q8, .ref q9, .null, .null, .int 0, .null, .null])), (q1, .inl (c1, 20, .inl (fun _ => 0))), (q2, .inl (c2, 441, .inr (.inl (fun _ => 0)))), (q3, .inl (c3, 240, .inl (fun _ => 0))), (q4, .inl (c4, 20, .inl (fun _ => 0))), (q5, .inl (c5, 21, .inl (fun _ => 0))), (q6, .inl (c6, 21, .inl (fun _ => 0))), (q7, .inl (c7, 21, .inl (fun _ => 0))), (q8, .inl (c8, 21, .inl (fun _ => 0))), (q9, .inl (c9, 21, .inl (fun _ => 0))), (q10, .inl (c10, 21, .inl (fun _ => 0)))] H _ := hI
  refine W.widen (k := 10) (n := 847) (Nat.le_of_ble_eq_true rfl) (Nat.le_of_ble_eq_true rfl) ?_
  refine va_putF (ci := 5) (v := .ref q10) (ty := .array .int) (C := R_M) (T := T_M) (N := 25) hx hb hts in_M ty_M tyo_M nm_M hown hK hI.1 hI.2.1 hI.2.2.1 0 rfl rfl 20 (by decide) (hts _ q_674) (fun _ h9 => h9) rfl hin rfl (by decide +kernel) rfl rfl (Nat.le_of_ble_eq_true rfl) d_m_init_83 ?_
  intro H locs hP hD hS
  have hI : zw D A s.heap [(h0, .inr (5, [.int 0, .int 0, .long 0, .int 0, .int 0, .ref q1, .ref q2, .int 0, .ref q3, .int 0, .ref q4, .int 0, .int 0, .int 0, .int 0, .ref q5, .ref q6, .ref q7, .ref q8, .ref q9, .ref q10, .null, .int 0, .null, .null])), (q1, .inl (c1, 20, .inl (fun _ => 0))), (q2, .inl (c2, 441, .inr (.inl (fun _ => 0)))), (q3, .inl (c3, 240, .inl (fun _ => 0))), (q4, .inl (c4, 20, .inl (fun _ => 0))), (q5, .inl (c5, 21, .inl (fun _ => 0))), (q6, .inl (c6, 21, .inl (fun _ => 0))), (q7, .inl (c7, 21, .inl (fun _ => 0))), (q8, .inl (c8, 21, .inl (fun _ => 0))), (q9, .inl (c9, 21, .inl (fun _ => 0))), (q10, .inl (c10, 21, .inl (fun _ => 0)))] H locs := ⟨hP, hD, hS, hI.2.2.2⟩
  refine lv_aload_n hx hb d_m_init_86 rfl (lv_at hl 0 rfl) ?_
  refine lv_bipush (v := 21) hx hb d_m_init_87 zc_bipush_21 ?_
  refine zk_int (N' := 21) hx hb hts hK hI (by decide) (by decide) (by decide) (Nat.le_of_ble_eq_true rfl) (Nat.le_of_ble_eq_true rfl) d_m_init_89 ?_
  intro q11 c11 H hK hI
  have hK : va_K D vwCl [(c1, .int), (c2, .long), (c3, .int), (c4, .int), (c5, .int), (c6, .int), (c7, .int), (c8, .int), (c9, .int), (c10, .int), (c11, .int)] s := hK
  have hI : zw D A s.heap [(h0, .inr (5, [.int 0, .int 0, .long 0, .int 0, .int 0, .ref q1, .ref q2, .int 0, .ref q3, .int 0, .ref q4, .int 0, .int 0, .int 0, .int 0, .ref q5, .ref q6, .ref q7, .ref q8, .ref q9, .ref q10, .null, .int 0, .null, .null])), (q1, .inl (c1, 20, .inl (fun _ => 0))), (q2, .inl (c2, 441, .inr (.inl (fun _ => 0)))), (q3, .inl (c3, 240, .inl (fun _ => 0))), (q4, .inl (c4, 20, .inl (fun _ => 0))), (q5, .inl (c5, 21, .inl (fun _ => 0))), (q6, .inl (c6, 21, .inl (fun _ => 0))), (q7, .inl (c7, 21, .inl (fun _ => 0))), (q8, .inl (c8, 21, .inl (fun _ => 0))), (q9, .inl (c9, 21, .inl (fun _ => 0))), (q10, .inl (c10, 21, .inl (fun _ => 0))), (q11, .inl (c11, 21, .inl (fun _ => 0)))] H _ := hI
  refine W.widen (k := 11) (n := 868) (Nat.le_of_ble_eq_true rfl) (Nat.le_of_ble_eq_true rfl) ?_
  refine va_putF (ci := 5) (v := .ref q11) (ty := .array .int) (C := R_M) (T := T_M) (N := 25) hx hb hts in_M ty_M tyo_M nm_M hown hK hI.1 hI.2.1 hI.2.2.1 0 rfl rfl 21 (by decide) (hts _ q_675) (fun _ h9 => h9) rfl hin rfl (by decide +kernel) rfl rfl (Nat.le_of_ble_eq_true rfl) d_m_init_91 ?_
  intro H locs hP hD hS
  have hI : zw D A s.heap [(h0, .inr (5, [.int 0, .int 0, .long 0, .int 0, .int 0, .ref q1, .ref q2, .int 0, .ref q3, .int 0, .ref q4, .int 0, .int 0, .int 0, .int 0, .ref q5, .ref q6, .ref q7, .ref q8, .ref q9, .ref q10, .ref q11, .int 0, .null, .null])), (q1, .inl (c1, 20, .inl (fun _ => 0))), (q2, .inl (c2, 441, .inr (.inl (fun _ => 0)))), (q3, .inl (c3, 240, .inl (fun _ => 0))), (q4, .inl (c4, 20, .inl (fun _ => 0))), (q5, .inl (c5, 21, .inl (fun _ => 0))), (q6, .inl (c6, 21, .inl (fun _ => 0))), (q7, .inl (c7, 21, .inl (fun _ => 0))), (q8, .inl (c8, 21, .inl (fun _ => 0))), (q9, .inl (c9, 21, .inl (fun _ => 0))), (q10, .inl (c10, 21, .inl (fun _ => 0))), (q11, .inl (c11, 21, .inl (fun _ => 0)))] H locs := ⟨hP, hD, hS, hI.2.2.2⟩
  refine lv_aload_n hx hb d_m_init_94 rfl (lv_at hl 0 rfl) ?_
  refine lv_bipush (v := 12) hx hb d_m_init_95 zc_bipush_12 ?_
  refine zk_int (N' := 12) hx hb hts hK hI (by decide) (by decide) (by decide) (Nat.le_of_ble_eq_true rfl) (Nat.le_of_ble_eq_true rfl) d_m_init_97 ?_
  intro q12 c12 H hK hI
  have hK : va_K D vwCl [(c1, .int), (c2, .long), (c3, .int), (c4, .int), (c5, .int), (c6, .int), (c7, .int), (c8, .int), (c9, .int), (c10, .int), (c11, .int), (c12, .int)] s := hK
  have hI : zw D A s.heap [(h0, .inr (5, [.int 0, .int 0, .long 0, .int 0, .int 0, .ref q1, .ref q2, .int 0, .ref q3, .int 0, .ref q4, .int 0, .int 0, .int 0, .int 0, .ref q5, .ref q6, .ref q7, .ref q8, .ref q9, .ref q10, .ref q11, .int 0, .null, .null])), (q1, .inl (c1, 20, .inl (fun _ => 0))), (q2, .inl (c2, 441, .inr (.inl (fun _ => 0)))), (q3, .inl (c3, 240, .inl (fun _ => 0))), (q4, .inl (c4, 20, .inl (fun _ => 0))), (q5, .inl (c5, 21, .inl (fun _ => 0))), (q6, .inl (c6, 21, .inl (fun _ => 0))), (q7, .inl (c7, 21, .inl (fun _ => 0))), (q8, .inl (c8, 21, .inl (fun _ => 0))), (q9, .inl (c9, 21, .inl (fun _ => 0))), (q10, .inl (c10, 21, .inl (fun _ => 0))), (q11, .inl (c11, 21, .inl (fun _ => 0))), (q12, .inl (c12, 12, .inl (fun _ => 0)))] H _ := hI
  refine W.widen (k := 12) (n := 880) (Nat.le_of_ble_eq_true rfl) (Nat.le_of_ble_eq_true rfl) ?_
  refine va_putF (ci := 5) (v := .ref q12) (ty := .array .int) (C := R_M) (T := T_M) (N := 25) hx hb hts in_M ty_M tyo_M nm_M hown hK hI.1 hI.2.1 hI.2.2.1 0 rfl rfl 23 (by decide) (hts _ q_677) (fun _ h9 => h9) rfl hin rfl (by decide +kernel) rfl rfl (Nat.le_of_ble_eq_true rfl) d_m_init_99 ?_
  intro H locs hP hD hS
  have hI : zw D A s.heap [(h0, .inr (5, [.int 0, .int 0, .long 0, .int 0, .int 0, .ref q1, .ref q2, .int 0, .ref q3, .int 0, .ref q4, .int 0, .int 0, .int 0, .int 0, .ref q5, .ref q6, .ref q7, .ref q8, .ref q9, .ref q10, .ref q11, .int 0, .ref q12, .null])), (q1, .inl (c1, 20, .inl (fun _ => 0))), (q2, .inl (c2, 441, .inr (.inl (fun _ => 0)))), (q3, .inl (c3, 240, .inl (fun _ => 0))), (q4, .inl (c4, 20, .inl (fun _ => 0))), (q5, .inl (c5, 21, .inl (fun _ => 0))), (q6, .inl (c6, 21, .inl (fun _ => 0))), (q7, .inl (c7, 21, .inl (fun _ => 0))), (q8, .inl (c8, 21, .inl (fun _ => 0))), (q9, .inl (c9, 21, .inl (fun _ => 0))), (q10, .inl (c10, 21, .inl (fun _ => 0))), (q11, .inl (c11, 21, .inl (fun _ => 0))), (q12, .inl (c12, 12, .inl (fun _ => 0)))] H locs := ⟨hP, hD, hS, hI.2.2.2⟩
  refine lv_aload_n hx hb d_m_init_102 rfl (lv_at hl 0 rfl) ?_
  refine lv_bipush (v := 12) hx hb d_m_init_103 zc_bipush_12 ?_
  refine zk_long (N' := 12) hx hb hts hK hI (by decide) (by decide) (by decide) (Nat.le_of_ble_eq_true rfl) (Nat.le_of_ble_eq_true rfl) d_m_init_105 ?_
  intro q13 c13 H hK hI
  have hK : va_K D vwCl [(c1, .int), (c2, .long), (c3, .int), (c4, .int), (c5, .int), (c6, .int), (c7, .int), (c8, .int), (c9, .int), (c10, .int), (c11, .int), (c12, .int), (c13, .long)] s := hK
  have hI : zw D A s.heap [(h0, .inr (5, [.int 0, .int 0, .long 0, .int 0, .int 0, .ref q1, .ref q2, .int 0, .ref q3, .int 0, .ref q4, .int 0, .int 0, .int 0, .int 0, .ref q5, .ref q6, .ref q7, .ref q8, .ref q9, .ref q10, .ref q11, .int 0, .ref q12, .null])), (q1, .inl (c1, 20, .inl (fun _ => 0))), (q2, .inl (c2, 441, .inr (.inl (fun _ => 0)))), (q3, .inl (c3, 240, .inl (fun _ => 0))), (q4, .inl (c4, 20, .inl (fun _ => 0))), (q5, .inl (c5, 21, .inl (fun _ => 0))), (q6, .inl (c6, 21, .inl (fun _ => 0))), (q7, .inl (c7, 21, .inl (fun _ => 0))), (q8, .inl (c8, 21, .inl (fun _ => 0))), (q9, .inl (c9, 21, .inl (fun _ => 0))), (q10, .inl (c10, 21, .inl (fun _ => 0))), (q11, .inl (c11, 21, .inl (fun _ => 0))), (q12, .inl (c12, 12, .inl (fun _ => 0))), (q13, .inl (c13, 12, .inr (.inl (fun _ => 0))))] H _ := hI
  refine W.widen (k := 13) (n := 892) (Nat.le_of_ble_eq_true rfl) (Nat.le_of_ble_eq_true rfl) ?_
  refine va_putF (ci := 5) (v := .ref q13) (ty := .array .long) (C := R_M) (T := T_M) (N := 25) hx hb hts in_M ty_M tyo_M nm_M hown hK hI.1 hI.2.1 hI.2.2.1 0 rfl rfl 24 (by decide) (hts _ q_678) (fun _ h9 => h9) rfl hin rfl (by decide +kernel) rfl rfl (Nat.le_of_ble_eq_true rfl) d_m_init_107 ?_
  intro H locs hP hD hS
  have hI : zw D A s.heap [(h0, .inr (5, [.int 0, .int 0, .long 0, .int 0, .int 0, .ref q1, .ref q2, .int 0, .ref q3, .int 0, .ref q4, .int 0, .int 0, .int 0, .int 0, .ref q5, .ref q6, .ref q7, .ref q8, .ref q9, .ref q10, .ref q11, .int 0, .ref q12, .ref q13])), (q1, .inl (c1, 20, .inl (fun _ => 0))), (q2, .inl (c2, 441, .inr (.inl (fun _ => 0)))), (q3, .inl (c3, 240, .inl (fun _ => 0))), (q4, .inl (c4, 20, .inl (fun _ => 0))), (q5, .inl (c5, 21, .inl (fun _ => 0))), (q6, .inl (c6, 21, .inl (fun _ => 0))), (q7, .inl (c7, 21, .inl (fun _ => 0))), (q8, .inl (c8, 21, .inl (fun _ => 0))), (q9, .inl (c9, 21, .inl (fun _ => 0))), (q10, .inl (c10, 21, .inl (fun _ => 0))), (q11, .inl (c11, 21, .inl (fun _ => 0))), (q12, .inl (c12, 12, .inl (fun _ => 0))), (q13, .inl (c13, 12, .inr (.inl (fun _ => 0))))] H locs := ⟨hP, hD, hS, hI.2.2.2⟩
  exact j_m_init (u := zu) (ad := fun k => match k with | 0 => h0 | 1 => q1 | 2 => q2 | 3 => q3 | 4 => q4 | 5 => q5 | 6 => q6 | 7 => q7 | 8 => q8 | 9 => q9 | 10 => q10 | 11 => q11 | 12 => q12 | _ => q13) (ca := fun k => match k with | 0 => c1 | 1 => c2 | 2 => c3 | 3 => c4 | 4 => c5 | 5 => c6 | 6 => c7 | 7 => c8 | 8 => c9 | 9 => c10 | 10 => c11 | 11 => c12 | _ => c13) rfl ⟨hx, hb, hml, hown, hts, hN, hK, hr, hlk, Nat.le_refl _, Nat.le_refl _⟩ hI hl h
/-- a new component: nothing but the strain 4 -/
def cu : ZS := (fun k => if k = 5 then 4 else 0, fun _ => 0, fun _ _ => 0, fun _ _ => 0)
def iC (D : va_G) (A : Nat → Prop) (w : (Nat → Nat) × (Nat → ClassId)) (t : State) : Prop := va_P D vwCl (cW w.1 w.2 cu) t.heap ∧ va_K D vwCl (cT w.2) t ∧ va_D A (cW w.1 w.2 cu)
set_option maxRecDepth 100000 in
set_option maxHeartbeats 4000000 in
theorem i_x_init (l : Launch) (D : va_G) (h0 sz : Nat) : Met l y_x_init (Cond.code y_x_init c_x_init 1 none :: zG) { frames := 2, cells := 14, slots := 273, locals := 40 } (va_Pc [.ref h0] (iP D [(h0, .inr (0, [.null, .null, .null, .null, .int 0, .int 0]))] sz)) (va_Qv (fun (w : (Nat → Nat) × (Nat → ClassId)) => w.1 0 = h0) (iC D (va_A [(h0, .inr (0, [.null, .null, .null, .null, .int 0, .int 0]))] sz)) (va_A [(h0, .inr (0, [.null, .null, .null, .null, .int 0, .int 0]))] sz)) 14 273 (va_A [(h0, .inr (0, [.null, .null, .null, .null, .int 0, .int 0]))] sz) := by
  refine Met.ofW (cc := c_x_init) (maxL := 1) (ret := none) (by decide) rfl ?_
  intro p e s m args below meth c s₁ B hml hv
  obtain ⟨rfl, hsz, hP, hK, hD0, hN⟩ := hv
  have hx := B.exec
  have hb := B.bytes
  have hr := B.returns
  have hts0 := atoms_spec (ws := Cond.code y_x_init c_x_init 1 none :: zG) B.pre
  have hts : ∀ w ∈ zG, w.before _ s = true := fun w h => hts0 w (List.mem_cons_of_mem _ h)
  have hown : s.vm.findClass "ShortBridge" = some m.cls := findClass_of_methodNamed B.named
  have hlk := B.notSynchronized
  have hin : meth.name = "<init>" := (name_of_methodNamed B.named B.method).1
  subst hsz
  generalize hAe : va_A [(h0, .inr (0, [.null, .null, .null, .null, .int 0, .int 0]))] s.heap.size = A
  have hI : zw D A s.heap [(h0, .inr (0, [.null, .null, .null, .null, .int 0, .int 0]))] s.heap [] := by rw [← hAe]; exact ⟨hP, hD0.self, va_S.rf, fun q h => Or.inr h⟩
  have hl := lv_entry [.ref h0] (n := 1) (Nat.le_of_ble_eq_true rfl)
  rw [lg_entry_eq]
  generalize (lg_sl [.ref h0] ++ List.replicate (1 - (lg_sl [.ref h0]).length) Slot.unset).toArray = ls at hl ⊢
  have hl : lv_has ls 1 [(0, .ref h0)] := hl
  refine lv_aload_n hx hb d_x_init_0 rfl (lv_at hl 0 rfl) ?_
  refine W.objInit hx hb hown (hts _ q_61) (hts _ q_62) (hts _ q_63) rfl (by rw [hml]; exact hl.1) rfl d_x_init_1 (Nat.le_of_ble_eq_true rfl) (Nat.le_of_ble_eq_true rfl) ?_
  refine W.eq (g2 := F0 m 4 ls []) rfl ?_
  refine lv_aload_n hx hb d_x_init_4 rfl (lv_at hl 0 rfl) ?_
  refine va_new (ci := 1) (fs := [.null, .null, .null, .long 0]) (C := R_Deal) (T := T_Deal) (N := 4) hx hb hts in_Deal ty_Deal tyo_Deal hown (hts _ q_64) (hts _ q_65) (hts _ q_40) hK hI.1 hI.2.1 hI.2.2.1 hI.2.2.2 rfl (fun j hj => by match j, hj with | 0, _ => rfl | 1, _ => rfl | 2, _ => rfl | 3, _ => rfl | j + 4, hj => omega) (Nat.le_of_ble_eq_true rfl) (Nat.le_of_ble_eq_true rfl) d_x_init_5 ?_
  intro q1 H hP hD hS
  have hI : zw D A s.heap [(h0, .inr (0, [.null, .null, .null, .null, .int 0, .int 0])), (q1, .inr (1, [.null, .null, .null, .long 0]))] H _ := ⟨hP, hD, hS, hI.2.2.2⟩
  refine W.widen (k := 1) (n := 4) (Nat.le_of_ble_eq_true rfl) (Nat.le_of_ble_eq_true rfl) ?_
  refine lv_dup hx hb d_x_init_8 rfl ?_
  have hPc := hI.1.sub (ws' := [(q1, .inr (1, [.null, .null, .null, .long 0]))]) [1] rfl
  have hDc := hI.2.1.sub (ws' := [(q1, .inr (1, [.null, .null, .null, .long 0]))]) [1] (by decide) rfl
  have hFc := va_free (wc := [(q1, .inr (1, [.null, .null, .null, .long 0]))]) hI.2.1 hI.2.2.1 hI.2.2.2 [1] rfl
  refine va_callv (va_runIN (As := []) (rest := [.ref q1, .ref h0]) ⟨hx, hb, hml, hown, hts⟩ (i_de_init l D q1 _) ⟨va_cnB 0 hts (zg_c q_68) rfl rfl rfl (hN _ nw_0) (hts _ q_40) hd_de_init ⟨Nat.le_of_ble_eq_true rfl, Nat.le_of_ble_eq_true rfl⟩, rfl, hts _ q_67⟩ ⟨iP_blind _ _ _ _, fun U hU hW => ⟨rfl, by rw [hU], by rw [hU]; exact hPc, va_K.moved hW.alike (hK.sub (tys' := []) [] rfl), hDc.weaken (fun _ _ _ _ => trivial), fun w hw => zn_warm (zNs_ok w hw) hW (hN w hw)⟩⟩ rfl rfl hl.1 rfl (lv_room (Nat.le_of_ble_eq_true rfl)) d_x_init_9 ⟨Nat.le_of_ble_eq_true rfl, Nat.le_of_ble_eq_true rfl⟩) hI.2.2.1 (fun q _ h => hFc q h) hFc (fun w1 t H1 locs1 ht hvm _ hB hz1 hk1 hS => ?_)
  obtain ⟨hP1, hK1, hD1⟩ := hB
  rw [ht] at hP1
  have hK1 := va_K.moved hvm.symm hK1
  obtain ⟨hP, hD⟩ := va_join (wr := [(h0, .inr (0, [.null, .null, .null, .null, .int 0, .int 0]))]) (w1 := i_de_init_w q1 w1) hI.1 hI.2.1 [1] [0] rfl rfl (by decide) (by decide) hk1 hFc hP1 hD1
  have hK := hK.app hK1
  have hI : zw D A s.heap [(h0, .inr (0, [.null, .null, .null, .null, .int 0, .int 0])), (q1, .inr (1, [.ref (w1.1 0), .ref (w1.1 1), .ref (w1.1 2), .long 0])), (w1.1 0, .inl (w1.2 0, 20, .inl (fun _ => 0))), (w1.1 1, .inl (w1.2 1, 20, .inl (fun _ => 0))), (w1.1 2, .inl (w1.2 2, 4, .inl (fun _ => 0)))] H1 locs1 := ⟨hP, hD, hS, hI.2.2.2⟩
  clear hP hD hS hP1 hD1 hPc hDc hFc hk1
  refine W.widen (k := 4) (n := 48) (Nat.le_of_ble_eq_true rfl) (Nat.le_of_ble_eq_true rfl) ?_
  refine va_putF (ci := 0) (v := .ref q1) (ty := .object "ShortBridge$Deal") (C := R_X) (T := T_X) (N := 6) hx hb hts in_X ty_X tyo_X nm_X hown hK hI.1 hI.2.1 hI.2.2.1 0 rfl rfl 0 (by decide) (hts _ q_150) (fun _ h9 => h9) rfl hin rfl (by decide +kernel) rfl rfl (Nat.le_of_ble_eq_true rfl) d_x_init_12 ?_
  intro H locs hP hD hS
  have hI : zw D A s.heap [(h0, .inr (0, [.ref q1, .null, .null, .null, .int 0, .int 0])), (q1, .inr (1, [.ref (w1.1 0), .ref (w1.1 1), .ref (w1.1 2), .long 0])), (w1.1 0, .inl (w1.2 0, 20, .inl (fun _ => 0))), (w1.1 1, .inl (w1.2 1, 20, .inl (fun _ => 0))), (w1.1 2, .inl (w1.2 2, 4, .inl (fun _ => 0)))] H locs := ⟨hP, hD, hS, hI.2.2.2⟩
  refine lv_aload_n hx hb d_x_init_15 rfl (lv_at hl 0 rfl) ?_
  refine va_new (ci := 2) (fs := [.null, .int 0, .int 0]) (C := R_Auction) (T := T_Auction) (N := 3) hx hb hts in_Auction ty_Auction tyo_Auction hown (hts _ q_86) (hts _ q_87) (hts _ q_41) hK hI.1 hI.2.1 hI.2.2.1 hI.2.2.2 rfl (fun j hj => by match j, hj with | 0, _ => rfl | 1, _ => rfl | 2, _ => rfl | j + 3, hj => omega) (Nat.le_of_ble_eq_true rfl) (Nat.le_of_ble_eq_true rfl) d_x_init_16 ?_
  intro q2 H hP hD hS
  have hI : zw D A s.heap [(h0, .inr (0, [.ref q1, .null, .null, .null, .int 0, .int 0])), (q1, .inr (1, [.ref (w1.1 0), .ref (w1.1 1), .ref (w1.1 2), .long 0])), (w1.1 0, .inl (w1.2 0, 20, .inl (fun _ => 0))), (w1.1 1, .inl (w1.2 1, 20, .inl (fun _ => 0))), (w1.1 2, .inl (w1.2 2, 4, .inl (fun _ => 0))), (q2, .inr (2, [.null, .int 0, .int 0]))] H _ := ⟨hP, hD, hS, hI.2.2.2⟩
  refine W.widen (k := 5) (n := 51) (Nat.le_of_ble_eq_true rfl) (Nat.le_of_ble_eq_true rfl) ?_
  refine lv_dup hx hb d_x_init_19 rfl ?_
  have hPc := hI.1.sub (ws' := [(q2, .inr (2, [.null, .int 0, .int 0]))]) [5] rfl
  have hDc := hI.2.1.sub (ws' := [(q2, .inr (2, [.null, .int 0, .int 0]))]) [5] (by decide) rfl
  have hFc := va_free (wc := [(q2, .inr (2, [.null, .int 0, .int 0]))]) hI.2.1 hI.2.2.1 hI.2.2.2 [5] rfl
  refine va_callv (va_runIN (As := []) (rest := [.ref q2, .ref h0]) ⟨hx, hb, hml, hown, hts⟩ (i_au_init l D q2 _) ⟨va_cnB 0 hts (zg_c q_90) rfl rfl rfl (hN _ nw_3) (hts _ q_41) hd_au_init ⟨Nat.le_of_ble_eq_true rfl, Nat.le_of_ble_eq_true rfl⟩, rfl, hts _ q_89⟩ ⟨iP_blind _ _ _ _, fun U hU hW => ⟨rfl, by rw [hU], by rw [hU]; exact hPc, va_K.moved hW.alike (hK.sub (tys' := []) [] rfl), hDc.weaken (fun _ _ _ _ => trivial), fun w hw => zn_warm (zNs_ok w hw) hW (hN w hw)⟩⟩ rfl rfl hl.1 rfl (lv_room (Nat.le_of_ble_eq_true rfl)) d_x_init_20 ⟨Nat.le_of_ble_eq_true rfl, Nat.le_of_ble_eq_true rfl⟩) hI.2.2.1 (fun q _ h => hFc q h) hFc (fun w2 t H1 locs1 ht hvm _ hB hz1 hk1 hS => ?_)
  obtain ⟨hP1, hK1, hD1⟩ := hB
  rw [ht] at hP1
  have hK1 := va_K.moved hvm.symm hK1
  obtain ⟨hP, hD⟩ := va_join (wr := [(h0, .inr (0, [.ref q1, .null, .null, .null, .int 0, .int 0])), (q1, .inr (1, [.ref (w1.1 0), .ref (w1.1 1), .ref (w1.1 2), .long 0])), (w1.1 0, .inl (w1.2 0, 20, .inl (fun _ => 0))), (w1.1 1, .inl (w1.2 1, 20, .inl (fun _ => 0))), (w1.1 2, .inl (w1.2 2, 4, .inl (fun _ => 0)))]) (w1 := i_au_init_w q2 w2) hI.1 hI.2.1 [5] [0, 1, 2, 3, 4] rfl rfl (by decide) (by decide) hk1 hFc hP1 hD1
  have hK := hK.app hK1
  have hI : zw D A s.heap [(h0, .inr (0, [.ref q1, .null, .null, .null, .int 0, .int 0])), (q1, .inr (1, [.ref (w1.1 0), .ref (w1.1 1), .ref (w1.1 2), .long 0])), (w1.1 0, .inl (w1.2 0, 20, .inl (fun _ => 0))), (w1.1 1, .inl (w1.2 1, 20, .inl (fun _ => 0))), (w1.1 2, .inl (w1.2 2, 4, .inl (fun _ => 0))), (q2, .inr (2, [.ref (w2.1 0), .int 0, .int 0])), (w2.1 0, .inl (w2.2 0, 139, .inl (fun _ => 0)))] H1 locs1 := ⟨hP, hD, hS, hI.2.2.2⟩
  clear hP hD hS hP1 hD1 hPc hDc hFc hk1
  refine W.widen (k := 6) (n := 190) (Nat.le_of_ble_eq_true rfl) (Nat.le_of_ble_eq_true rfl) ?_
  refine va_putF (ci := 0) (v := .ref q2) (ty := .object "ShortBridge$Auction") (C := R_X) (T := T_X) (N := 6) hx hb hts in_X ty_X tyo_X nm_X hown hK hI.1 hI.2.1 hI.2.2.1 0 rfl rfl 1 (by decide) (hts _ q_151) (fun _ h9 => h9) rfl hin rfl (by decide +kernel) rfl rfl (Nat.le_of_ble_eq_true rfl) d_x_init_23 ?_
  intro H locs hP hD hS
  have hI : zw D A s.heap [(h0, .inr (0, [.ref q1, .ref q2, .null, .null, .int 0, .int 0])), (q1, .inr (1, [.ref (w1.1 0), .ref (w1.1 1), .ref (w1.1 2), .long 0])), (w1.1 0, .inl (w1.2 0, 20, .inl (fun _ => 0))), (w1.1 1, .inl (w1.2 1, 20, .inl (fun _ => 0))), (w1.1 2, .inl (w1.2 2, 4, .inl (fun _ => 0))), (q2, .inr (2, [.ref (w2.1 0), .int 0, .int 0])), (w2.1 0, .inl (w2.2 0, 139, .inl (fun _ => 0)))] H locs := ⟨hP, hD, hS, hI.2.2.2⟩
  refine lv_aload_n hx hb d_x_init_26 rfl (lv_at hl 0 rfl) ?_
  refine va_new (ci := 3) (fs := [.null, .null, .null, .null, .int 0, .int 0]) (C := R_Hands) (T := T_Hands) (N := 6) hx hb hts in_Hands ty_Hands tyo_Hands hown (hts _ q_103) (hts _ q_104) (hts _ q_42) hK hI.1 hI.2.1 hI.2.2.1 hI.2.2.2 rfl (fun j hj => by match j, hj with | 0, _ => rfl | 1, _ => rfl | 2, _ => rfl | 3, _ => rfl | 4, _ => rfl | 5, _ => rfl | j + 6, hj => omega) (Nat.le_of_ble_eq_true rfl) (Nat.le_of_ble_eq_true rfl) d_x_init_27 ?_
  intro q3 H hP hD hS
  have hI : zw D A s.heap [(h0, .inr (0, [.ref q1, .ref q2, .null, .null, .int 0, .int 0])), (q1, .inr (1, [.ref (w1.1 0), .ref (w1.1 1), .ref (w1.1 2), .long 0])), (w1.1 0, .inl (w1.2 0, 20, .inl (fun _ => 0))), (w1.1 1, .inl (w1.2 1, 20, .inl (fun _ => 0))), (w1.1 2, .inl (w1.2 2, 4, .inl (fun _ => 0))), (q2, .inr (2, [.ref (w2.1 0), .int 0, .int 0])), (w2.1 0, .inl (w2.2 0, 139, .inl (fun _ => 0))), (q3, .inr (3, [.null, .null, .null, .null, .int 0, .int 0]))] H _ := ⟨hP, hD, hS, hI.2.2.2⟩
  refine W.widen (k := 7) (n := 196) (Nat.le_of_ble_eq_true rfl) (Nat.le_of_ble_eq_true rfl) ?_
  refine lv_dup hx hb d_x_init_30 rfl ?_
  have hPc := hI.1.sub (ws' := [(q3, .inr (3, [.null, .null, .null, .null, .int 0, .int 0]))]) [7] rfl
  have hDc := hI.2.1.sub (ws' := [(q3, .inr (3, [.null, .null, .null, .null, .int 0, .int 0]))]) [7] (by decide) rfl
  have hFc := va_free (wc := [(q3, .inr (3, [.null, .null, .null, .null, .int 0, .int 0]))]) hI.2.1 hI.2.2.1 hI.2.2.2 [7] rfl
  refine va_callv (va_runIN (As := []) (rest := [.ref q3, .ref h0]) ⟨hx, hb, hml, hown, hts⟩ (i_ha_init l D q3 _) ⟨va_cnB 0 hts (zg_c q_107) rfl rfl rfl (hN _ nw_5) (hts _ q_42) hd_ha_init ⟨Nat.le_of_ble_eq_true rfl, Nat.le_of_ble_eq_true rfl⟩, rfl, hts _ q_106⟩ ⟨iP_blind _ _ _ _, fun U hU hW => ⟨rfl, by rw [hU], by rw [hU]; exact hPc, va_K.moved hW.alike (hK.sub (tys' := []) [] rfl), hDc.weaken (fun _ _ _ _ => trivial), fun w hw => zn_warm (zNs_ok w hw) hW (hN w hw)⟩⟩ rfl rfl hl.1 rfl (lv_room (Nat.le_of_ble_eq_true rfl)) d_x_init_31 ⟨Nat.le_of_ble_eq_true rfl, Nat.le_of_ble_eq_true rfl⟩) hI.2.2.1 (fun q _ h => hFc q h) hFc (fun w3 t H1 locs1 ht hvm _ hB hz1 hk1 hS => ?_)
  obtain ⟨hP1, hK1, hD1⟩ := hB
  rw [ht] at hP1
  have hK1 := va_K.moved hvm.symm hK1
  obtain ⟨hP, hD⟩ := va_join (wr := [(h0, .inr (0, [.ref q1, .ref q2, .null, .null, .int 0, .int 0])), (q1, .inr (1, [.ref (w1.1 0), .ref (w1.1 1), .ref (w1.1 2), .long 0])), (w1.1 0, .inl (w1.2 0, 20, .inl (fun _ => 0))), (w1.1 1, .inl (w1.2 1, 20, .inl (fun _ => 0))), (w1.1 2, .inl (w1.2 2, 4, .inl (fun _ => 0))), (q2, .inr (2, [.ref (w2.1 0), .int 0, .int 0])), (w2.1 0, .inl (w2.2 0, 139, .inl (fun _ => 0)))]) (w1 := i_ha_init_w q3 w3) hI.1 hI.2.1 [7] [0, 1, 2, 3, 4, 5, 6] rfl rfl (by decide) (by decide) hk1 hFc hP1 hD1
  have hK := hK.app hK1
  have hI : zw D A s.heap [(h0, .inr (0, [.ref q1, .ref q2, .null, .null, .int 0, .int 0])), (q1, .inr (1, [.ref (w1.1 0), .ref (w1.1 1), .ref (w1.1 2), .long 0])), (w1.1 0, .inl (w1.2 0, 20, .inl (fun _ => 0))), (w1.1 1, .inl (w1.2 1, 20, .inl (fun _ => 0))), (w1.1 2, .inl (w1.2 2, 4, .inl (fun _ => 0))), (q2, .inr (2, [.ref (w2.1 0), .int 0, .int 0])), (w2.1 0, .inl (w2.2 0, 139, .inl (fun _ => 0))), (q3, .inr (3, [.ref (w3.1 0), .ref (w3.1 1), .ref (w3.1 2), .ref (w3.1 3), .int 0, .int 4])), (w3.1 0, .inl (w3.2 0, 4, .inl (fun _ => 0))), (w3.1 1, .inl (w3.2 1, 20, .inl (fun _ => 0))), (w3.1 2, .inl (w3.2 2, 20, .inl (fun _ => 0))), (w3.1 3, .inl (w3.2 3, 6, .inl (fun _ => 0)))] H1 locs1 := ⟨hP, hD, hS, hI.2.2.2⟩
  clear hP hD hS hP1 hD1 hPc hDc hFc hk1
  refine W.widen (k := 11) (n := 246) (Nat.le_of_ble_eq_true rfl) (Nat.le_of_ble_eq_true rfl) ?_
  refine va_putF (ci := 0) (v := .ref q3) (ty := .object "ShortBridge$Hands") (C := R_X) (T := T_X) (N := 6) hx hb hts in_X ty_X tyo_X nm_X hown hK hI.1 hI.2.1 hI.2.2.1 0 rfl rfl 2 (by decide) (hts _ q_152) (fun _ h9 => h9) rfl hin rfl (by decide +kernel) rfl rfl (Nat.le_of_ble_eq_true rfl) d_x_init_34 ?_
  intro H locs hP hD hS
  have hI : zw D A s.heap [(h0, .inr (0, [.ref q1, .ref q2, .ref q3, .null, .int 0, .int 0])), (q1, .inr (1, [.ref (w1.1 0), .ref (w1.1 1), .ref (w1.1 2), .long 0])), (w1.1 0, .inl (w1.2 0, 20, .inl (fun _ => 0))), (w1.1 1, .inl (w1.2 1, 20, .inl (fun _ => 0))), (w1.1 2, .inl (w1.2 2, 4, .inl (fun _ => 0))), (q2, .inr (2, [.ref (w2.1 0), .int 0, .int 0])), (w2.1 0, .inl (w2.2 0, 139, .inl (fun _ => 0))), (q3, .inr (3, [.ref (w3.1 0), .ref (w3.1 1), .ref (w3.1 2), .ref (w3.1 3), .int 0, .int 4])), (w3.1 0, .inl (w3.2 0, 4, .inl (fun _ => 0))), (w3.1 1, .inl (w3.2 1, 20, .inl (fun _ => 0))), (w3.1 2, .inl (w3.2 2, 20, .inl (fun _ => 0))), (w3.1 3, .inl (w3.2 3, 6, .inl (fun _ => 0)))] H locs := ⟨hP, hD, hS, hI.2.2.2⟩
  refine lv_aload_n hx hb d_x_init_37 rfl (lv_at hl 0 rfl) ?_
  refine va_new (ci := 4) (fs := [.null, .null, .int 0]) (C := R_Results) (T := T_Results) (N := 3) hx hb hts in_Results ty_Results tyo_Results hown (hts _ q_131) (hts _ q_132) (hts _ q_43) hK hI.1 hI.2.1 hI.2.2.1 hI.2.2.2 rfl (fun j hj => by match j, hj with | 0, _ => rfl | 1, _ => rfl | 2, _ => rfl | j + 3, hj => omega) (Nat.le_of_ble_eq_true rfl) (Nat.le_of_ble_eq_true rfl) d_x_init_38 ?_
  intro q4 H hP hD hS
  have hI : zw D A s.heap [(h0, .inr (0, [.ref q1, .ref q2, .ref q3, .null, .int 0, .int 0])), (q1, .inr (1, [.ref (w1.1 0), .ref (w1.1 1), .ref (w1.1 2), .long 0])), (w1.1 0, .inl (w1.2 0, 20, .inl (fun _ => 0))), (w1.1 1, .inl (w1.2 1, 20, .inl (fun _ => 0))), (w1.1 2, .inl (w1.2 2, 4, .inl (fun _ => 0))), (q2, .inr (2, [.ref (w2.1 0), .int 0, .int 0])), (w2.1 0, .inl (w2.2 0, 139, .inl (fun _ => 0))), (q3, .inr (3, [.ref (w3.1 0), .ref (w3.1 1), .ref (w3.1 2), .ref (w3.1 3), .int 0, .int 4])), (w3.1 0, .inl (w3.2 0, 4, .inl (fun _ => 0))), (w3.1 1, .inl (w3.2 1, 20, .inl (fun _ => 0))), (w3.1 2, .inl (w3.2 2, 20, .inl (fun _ => 0))), (w3.1 3, .inl (w3.2 3, 6, .inl (fun _ => 0))), (q4, .inr (4, [.null, .null, .int 0]))] H _ := ⟨hP, hD, hS, hI.2.2.2⟩
  refine W.widen (k := 12) (n := 249) (Nat.le_of_ble_eq_true rfl) (Nat.le_of_ble_eq_true rfl) ?_
  refine lv_dup hx hb d_x_init_41 rfl ?_
  have hPc := hI.1.sub (ws' := [(q4, .inr (4, [.null, .null, .int 0]))]) [12] rfl
  have hDc := hI.2.1.sub (ws' := [(q4, .inr (4, [.null, .null, .int 0]))]) [12] (by decide) rfl
  have hFc := va_free (wc := [(q4, .inr (4, [.null, .null, .int 0]))]) hI.2.1 hI.2.2.1 hI.2.2.2 [12] rfl
  refine va_callv (va_runIN (As := []) (rest := [.ref q4, .ref h0]) ⟨hx, hb, hml, hown, hts⟩ (i_re_init l D q4 _) ⟨va_cnB 0 hts (zg_c q_135) rfl rfl rfl (hN _ nw_9) (hts _ q_43) hd_re_init ⟨Nat.le_of_ble_eq_true rfl, Nat.le_of_ble_eq_true rfl⟩, rfl, hts _ q_134⟩ ⟨iP_blind _ _ _ _, fun U hU hW => ⟨rfl, by rw [hU], by rw [hU]; exact hPc, va_K.moved hW.alike (hK.sub (tys' := []) [] rfl), hDc.weaken (fun _ _ _ _ => trivial), fun w hw => zn_warm (zNs_ok w hw) hW (hN w hw)⟩⟩ rfl rfl hl.1 rfl (lv_room (Nat.le_of_ble_eq_true rfl)) d_x_init_42 ⟨Nat.le_of_ble_eq_true rfl, Nat.le_of_ble_eq_true rfl⟩) hI.2.2.1 (fun q _ h => hFc q h) hFc (fun w4 t H1 locs1 ht hvm _ hB hz1 hk1 hS => ?_)
  obtain ⟨hP1, hK1, hD1⟩ := hB
  rw [ht] at hP1
  have hK1 := va_K.moved hvm.symm hK1
  obtain ⟨hP, hD⟩ := va_join (wr := [(h0, .inr (0, [.ref q1, .ref q2, .ref q3, .null, .int 0, .int 0])), (q1, .inr (1, [.ref (w1.1 0), .ref (w1.1 1), .ref (w1.1 2), .long 0])), (w1.1 0, .inl (w1.2 0, 20, .inl (fun _ => 0))), (w1.1 1, .inl (w1.2 1, 20, .inl (fun _ => 0))), (w1.1 2, .inl (w1.2 2, 4, .inl (fun _ => 0))), (q2, .inr (2, [.ref (w2.1 0), .int 0, .int 0])), (w2.1 0, .inl (w2.2 0, 139, .inl (fun _ => 0))), (q3, .inr (3, [.ref (w3.1 0), .ref (w3.1 1), .ref (w3.1 2), .ref (w3.1 3), .int 0, .int 4])), (w3.1 0, .inl (w3.2 0, 4, .inl (fun _ => 0))), (w3.1 1, .inl (w3.2 1, 20, .inl (fun _ => 0))), (w3.1 2, .inl (w3.2 2, 20, .inl (fun _ => 0))), (w3.1 3, .inl (w3.2 3, 6, .inl (fun _ => 0)))]) (w1 := i_re_init_w q4 w4) hI.1 hI.2.1 [12] [0, 1, 2, 3, 4, 5, 6, 7, 8, 9, 10, 11] rfl rfl (by decide) (by decide) hk1 hFc hP1 hD1
  have hK := hK.app hK1
  have hI : zw D A s.heap [(h0, .inr (0, [.ref q1, .ref q2, .ref q3, .null, .int 0, .int 0])), (q1, .inr (1, [.ref (w1.1 0), .ref (w1.1 1), .ref (w1.1 2), .long 0])), (w1.1 0, .inl (w1.2 0, 20, .inl (fun _ => 0))), (w1.1 1, .inl (w1.2 1, 20, .inl (fun _ => 0))), (w1.1 2, .inl (w1.2 2, 4, .inl (fun _ => 0))), (q2, .inr (2, [.ref (w2.1 0), .int 0, .int 0])), (w2.1 0, .inl (w2.2 0, 139, .inl (fun _ => 0))), (q3, .inr (3, [.ref (w3.1 0), .ref (w3.1 1), .ref (w3.1 2), .ref (w3.1 3), .int 0, .int 4])), (w3.1 0, .inl (w3.2 0, 4, .inl (fun _ => 0))), (w3.1 1, .inl (w3.2 1, 20, .inl (fun _ => 0))), (w3.1 2, .inl (w3.2 2, 20, .inl (fun _ => 0))), (w3.1 3, .inl (w3.2 3, 6, .inl (fun _ => 0))), (q4, .inr (4, [.ref (w4.1 0), .ref (w4.1 1), .int 0])), (w4.1 0, .inl (w4.2 0, 12, .inr (.inl (fun _ => 0)))), (w4.1 1, .inl (w4.2 1, 12, .inl (fun _ => 0)))] H1 locs1 := ⟨hP, hD, hS, hI.2.2.2⟩
  clear hP hD hS hP1 hD1 hPc hDc hFc hk1
  refine W.widen (k := 14) (n := 273) (Nat.le_of_ble_eq_true rfl) (Nat.le_of_ble_eq_true rfl) ?_
  refine va_putF (ci := 0) (v := .ref q4) (ty := .object "ShortBridge$Results") (C := R_X) (T := T_X) (N := 6) hx hb hts in_X ty_X tyo_X nm_X hown hK hI.1 hI.2.1 hI.2.2.1 0 rfl rfl 3 (by decide) (hts _ q_153) (fun _ h9 => h9) rfl hin rfl (by decide +kernel) rfl rfl (Nat.le_of_ble_eq_true rfl) d_x_init_45 ?_
  intro H locs hP hD hS
  have hI : zw D A s.heap [(h0, .inr (0, [.ref q1, .ref q2, .ref q3, .ref q4, .int 0, .int 0])), (q1, .inr (1, [.ref (w1.1 0), .ref (w1.1 1), .ref (w1.1 2), .long 0])), (w1.1 0, .inl (w1.2 0, 20, .inl (fun _ => 0))), (w1.1 1, .inl (w1.2 1, 20, .inl (fun _ => 0))), (w1.1 2, .inl (w1.2 2, 4, .inl (fun _ => 0))), (q2, .inr (2, [.ref (w2.1 0), .int 0, .int 0])), (w2.1 0, .inl (w2.2 0, 139, .inl (fun _ => 0))), (q3, .inr (3, [.ref (w3.1 0), .ref (w3.1 1), .ref (w3.1 2), .ref (w3.1 3), .int 0, .int 4])), (w3.1 0, .inl (w3.2 0, 4, .inl (fun _ => 0))), (w3.1 1, .inl (w3.2 1, 20, .inl (fun _ => 0))), (w3.1 2, .inl (w3.2 2, 20, .inl (fun _ => 0))), (w3.1 3, .inl (w3.2 3, 6, .inl (fun _ => 0))), (q4, .inr (4, [.ref (w4.1 0), .ref (w4.1 1), .int 0])), (w4.1 0, .inl (w4.2 0, 12, .inr (.inl (fun _ => 0)))), (w4.1 1, .inl (w4.2 1, 12, .inl (fun _ => 0)))] H locs := ⟨hP, hD, hS, hI.2.2.2⟩
  have hP9 := hI.1.sub (ws' := cW (fun k => match k with | 0 => h0 | 1 => q1 | 2 => q2 | 3 => q3 | 4 => q4 | 5 => w1.1 0 | 6 => w1.1 1 | 7 => w1.1 2 | 8 => w2.1 0 | 9 => w3.1 0 | 10 => w3.1 1 | 11 => w3.1 2 | 12 => w3.1 3 | 13 => w4.1 0 | _ => w4.1 1) (fun k => match k with | 0 => w1.2 0 | 1 => w1.2 1 | 2 => w1.2 2 | 3 => w2.2 0 | 4 => w3.2 0 | 5 => w3.2 1 | 6 => w3.2 2 | 7 => w3.2 3 | 8 => w4.2 0 | _ => w4.2 1) cu) [0, 1, 5, 7, 12, 2, 3, 4, 6, 8, 9, 10, 11, 13, 14] rfl
  have hD9 := hI.2.1.sub (ws' := cW (fun k => match k with | 0 => h0 | 1 => q1 | 2 => q2 | 3 => q3 | 4 => q4 | 5 => w1.1 0 | 6 => w1.1 1 | 7 => w1.1 2 | 8 => w2.1 0 | 9 => w3.1 0 | 10 => w3.1 1 | 11 => w3.1 2 | 12 => w3.1 3 | 13 => w4.1 0 | _ => w4.1 1) (fun k => match k with | 0 => w1.2 0 | 1 => w1.2 1 | 2 => w1.2 2 | 3 => w2.2 0 | 4 => w3.2 0 | 5 => w3.2 1 | 6 => w3.2 2 | 7 => w3.2 3 | 8 => w4.2 0 | _ => w4.2 1) cu) [0, 1, 5, 7, 12, 2, 3, 4, 6, 8, 9, 10, 11, 13, 14] (by decide) rfl
  exact W.vret hx hb hr (fun t ht hW => ⟨⟨(fun k => match k with | 0 => h0 | 1 => q1 | 2 => q2 | 3 => q3 | 4 => q4 | 5 => w1.1 0 | 6 => w1.1 1 | 7 => w1.1 2 | 8 => w2.1 0 | 9 => w3.1 0 | 10 => w3.1 1 | 11 => w3.1 2 | 12 => w3.1 3 | 13 => w4.1 0 | _ => w4.1 1, fun k => match k with | 0 => w1.2 0 | 1 => w1.2 1 | 2 => w1.2 2 | 3 => w2.2 0 | 4 => w3.2 0 | 5 => w3.2 1 | 6 => w3.2 2 | 7 => w3.2 3 | 8 => w4.2 0 | _ => w4.2 1), rfl, rfl, by rw [ht]; exact hP9, va_K.moved hW.alike hK, hD9⟩, hI.2.2.1.F ht⟩) hI.2.2.1.2.2 d_x_init_48 hlk
