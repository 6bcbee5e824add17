def p_X3_empty (S : CS) (post : CS → Prop) : Prop := ∀ S1 : CS, S1 = (cCC_s S (0 : Int32)) → (post S1)
set_option maxHeartbeats 1000000 in
set_option maxRecDepth 100000 in
theorem t_X3_empty {l : Launch} {dC : Nat → ClassId} {dI : Nat → Nat → Nat} {cyI cyJ cyZ : ClassId} {r : Nat → Nat} {a : Nat → Nat} {S : CS} {post : CS → Prop} (h : p_X3_empty S post) : xMv l yX3_empty wsX3_empty { frames := 0, cells := 0, slots := 0, locals := 0 } (dC, dI) (tyA cyI cyJ cyZ) r (wC cyI cyJ cyZ a) [.ref (a 3)] S post 0 0 := by
  intro sz
  refine Met.ofW (cc := cX3_empty) (maxL := 1) (ret := none) (by decide) rfl ?_
  intro p e s m args below meth c s₁ B hml hv
  obtain ⟨rfl, G, hP, hD, hS⟩ := xG.of rfl B hml hv
  generalize hAe : va_A (wC cyI cyJ cyZ a S) sz = A at G hD hS ⊢
  have G : xG p s m _ meth c cX3_empty 1 RX3 none wsX3_empty (dC, dI) (tyA cyI cyJ cyZ) r A := G
  obtain ⟨hx, hb, hml, hown, hts, hr, hlocks, hK, hE, hA⟩ := id G
  have hiX3 : ∀ w ∈ wsX30, w ∈ wsX3_empty := by decide +kernel
  have hf25 := hts (.fieldLink RX3 25 "CellMapping$Shelf" "cellCount" "I") (by decide +kernel)
  have hl := lv_entry ([.ref (a 3)]) (n := 1) (Nat.le_of_ble_eq_true rfl)
  rw [lg_entry_eq]
  generalize (lg_sl ([.ref (a 3)]) ++ List.replicate (1 - (lg_sl ([.ref (a 3)])).length) Slot.unset).toArray = ls at hl ⊢
  have hl : lv_has ls 1 [(0, .ref (a 3))] := hl
  show W p l e { frames := 0, cells := 0, slots := 0, locals := 0 } s m _ below meth c s.heap [] 0 0 _ _
  unfold p_X3_empty at h
  refine lv_aload_n hx hb dX3_empty_0 rfl (lv_at hl 0 rfl) ?_
  refine lv_iconst (v := 0) hx hb dX3_empty_1 (by decide) ?_
  refine va_put (D := (dC, dI)) (ci := 3) (v := .int (0 : Int32)) (ty := .int) (C := RX3) (T := TX3) (N := 6) hx hb hts hiX3 tyX3 tyX3_ok nmX3 hown hK hP hD hS 3 rfl rfl 5 (by decide) hf25 (fun _ h9 => h9) rfl (by decide +kernel) rfl rfl (Nat.le_of_ble_eq_true rfl) dX3_empty_2 (fun H locs hP hD hS => ?_)
  obtain ⟨S1, eS1⟩ : ∃ z : CS, z = (cCC_s S (0 : Int32)) := ⟨_, rfl⟩
  have h := h S1 eS1
  have hP := nP_cCC eS1 hP
  have hD := nD_cCC eS1 hD
  exact xr_v (S := S1) hx hb hr hlocks hK hP hD hS h (Nat.le_of_ble_eq_true rfl) (Nat.le_of_ble_eq_true rfl) dX3_empty_5
def p_X3_setDelay (S : CS) (x1 : Int32) (x2 : Int32) (x3 : Int32) (post : CS → Prop) : Prop := vp_in ((x1 * (3 : Int32)) + x2) 36 ∧ (∀ S2 : CS, S2 = (cDE_s S (upd (cDE S) ((x1 * (3 : Int32)) + x2).toNatClampNeg x3)) → (post S2))
set_option maxHeartbeats 1000000 in
set_option maxRecDepth 100000 in
theorem t_X3_setDelay {l : Launch} {dC : Nat → ClassId} {dI : Nat → Nat → Nat} {cyI cyJ cyZ : ClassId} {r : Nat → Nat} {a : Nat → Nat} {S : CS} {x1 : Int32} {x2 : Int32} {x3 : Int32} {post : CS → Prop} (h : p_X3_setDelay S x1 x2 x3 post) : xMv l yX3_setDelay wsX3_setDelay { frames := 0, cells := 0, slots := 0, locals := 0 } (dC, dI) (tyA cyI cyJ cyZ) r (wC cyI cyJ cyZ a) [.ref (a 3), .int x1, .int x2, .int x3] S post 0 0 := by
  intro sz
  refine Met.ofW (cc := cX3_setDelay) (maxL := 4) (ret := none) (by decide) rfl ?_
  intro p e s m args below meth c s₁ B hml hv
  obtain ⟨rfl, G, hP, hD, hS⟩ := xG.of rfl B hml hv
  generalize hAe : va_A (wC cyI cyJ cyZ a S) sz = A at G hD hS ⊢
  have G : xG p s m _ meth c cX3_setDelay 4 RX3 none wsX3_setDelay (dC, dI) (tyA cyI cyJ cyZ) r A := G
  obtain ⟨hx, hb, hml, hown, hts, hr, hlocks, hK, hE, hA⟩ := id G
  have hiX3 : ∀ w ∈ wsX30, w ∈ wsX3_setDelay := by decide +kernel
  have hf19 := hts (.fieldLink RX3 19 "CellMapping$Shelf" "delays" "[I") (by decide +kernel)
  have hl := lv_entry ([.ref (a 3), .int x1, .int x2, .int x3]) (n := 4) (Nat.le_of_ble_eq_true rfl)
  rw [lg_entry_eq]
  generalize (lg_sl ([.ref (a 3), .int x1, .int x2, .int x3]) ++ List.replicate (4 - (lg_sl ([.ref (a 3), .int x1, .int x2, .int x3])).length) Slot.unset).toArray = ls at hl ⊢
  have hl : lv_has ls 4 [(0, .ref (a 3)), (1, .int x1), (2, .int x2), (3, .int x3)] := hl
  show W p l e { frames := 0, cells := 0, slots := 0, locals := 0 } s m _ below meth c s.heap [] 0 0 _ _
  unfold p_X3_setDelay at h
  refine lv_aload_n hx hb dX3_setDelay_0 rfl (lv_at hl 0 rfl) ?_
  refine va_get (D := (dC, dI)) (ci := 3) (v := .ref (a 15)) (C := RX3) (T := TX3) (N := 6) hx hb hts hiX3 hown hK hP 3 rfl rfl 3 (by decide) hf19 (fun _ h9 => h9) rfl dX3_setDelay_1 ?_
  refine lv_iload_n hx hb dX3_setDelay_4 rfl (lv_at hl 1 rfl) ?_
  refine lv_iconst (v := 3) hx hb dX3_setDelay_5 (by decide) ?_
  refine lv_imul hx hb dX3_setDelay_6 ?_
  refine lv_iload_n hx hb dX3_setDelay_7 rfl (lv_at hl 2 rfl) ?_
  refine lv_iadd hx hb dX3_setDelay_8 ?_
  refine lv_iload_n hx hb dX3_setDelay_9 rfl (lv_at hl 3 rfl) ?_
  obtain ⟨i1, h⟩ := h
  refine va_iast (D := (dC, dI)) hx hb hK hP hD hS 15 0 rfl rfl i1 dX3_setDelay_10 (fun H locs hP hD hS => ?_)
  obtain ⟨S2, eS2⟩ : ∃ z : CS, z = (cDE_s S (upd (cDE S) ((x1 * (3 : Int32)) + x2).toNatClampNeg x3)) := ⟨_, rfl⟩
  have h := h S2 eS2
  have hP := nP_cDE eS2 hP
  have hD := nD_cDE eS2 hD
  exact xr_v (S := S2) hx hb hr hlocks hK hP hD hS h (Nat.le_of_ble_eq_true rfl) (Nat.le_of_ble_eq_true rfl) dX3_setDelay_11
def p_X3_delayAt (S : CS) (x1 : Int32) (x2 : Int32) (post : Int32 → Prop) : Prop := vp_in ((x1 * (3 : Int32)) + x2) 36 ∧ (post ((cDE S) ((x1 * (3 : Int32)) + x2).toNatClampNeg))
set_option maxHeartbeats 1000000 in
set_option maxRecDepth 100000 in
theorem t_X3_delayAt {l : Launch} {dC : Nat → ClassId} {dI : Nat → Nat → Nat} {cyI cyJ cyZ : ClassId} {r : Nat → Nat} {a : Nat → Nat} {S : CS} {x1 : Int32} {x2 : Int32} {post : Int32 → Prop} (h : p_X3_delayAt S x1 x2 post) : xMi l yX3_delayAt wsX3_delayAt { frames := 0, cells := 0, slots := 0, locals := 0 } (dC, dI) (tyA cyI cyJ cyZ) r (wC cyI cyJ cyZ a) [.ref (a 3), .int x1, .int x2] S (fun x u => S = u ∧ post x) 0 0 := by
  intro sz
  refine Met.ofW (cc := cX3_delayAt) (maxL := 3) (ret := (some .int)) (by decide) rfl ?_
  intro p e s m args below meth c s₁ B hml hv
  obtain ⟨rfl, G, hP, hD, hS⟩ := xG.of rfl B hml hv
  generalize hAe : va_A (wC cyI cyJ cyZ a S) sz = A at G hD hS ⊢
  have G : xG p s m _ meth c cX3_delayAt 3 RX3 (some .int) wsX3_delayAt (dC, dI) (tyA cyI cyJ cyZ) r A := G
  obtain ⟨hx, hb, hml, hown, hts, hr, hlocks, hK, hE, hA⟩ := id G
  have hiX3 : ∀ w ∈ wsX30, w ∈ wsX3_delayAt := by decide +kernel
  have hf19 := hts (.fieldLink RX3 19 "CellMapping$Shelf" "delays" "[I") (by decide +kernel)
  have hl := lv_entry ([.ref (a 3), .int x1, .int x2]) (n := 3) (Nat.le_of_ble_eq_true rfl)
  rw [lg_entry_eq]
  generalize (lg_sl ([.ref (a 3), .int x1, .int x2]) ++ List.replicate (3 - (lg_sl ([.ref (a 3), .int x1, .int x2])).length) Slot.unset).toArray = ls at hl ⊢
  have hl : lv_has ls 3 [(0, .ref (a 3)), (1, .int x1), (2, .int x2)] := hl
  show W p l e { frames := 0, cells := 0, slots := 0, locals := 0 } s m _ below meth c s.heap [] 0 0 _ _
  unfold p_X3_delayAt at h
  refine lv_aload_n hx hb dX3_delayAt_0 rfl (lv_at hl 0 rfl) ?_
  refine va_get (D := (dC, dI)) (ci := 3) (v := .ref (a 15)) (C := RX3) (T := TX3) (N := 6) hx hb hts hiX3 hown hK hP 3 rfl rfl 3 (by decide) hf19 (fun _ h9 => h9) rfl dX3_delayAt_1 ?_
  refine lv_iload_n hx hb dX3_delayAt_4 rfl (lv_at hl 1 rfl) ?_
  refine lv_iconst (v := 3) hx hb dX3_delayAt_5 (by decide) ?_
  refine lv_imul hx hb dX3_delayAt_6 ?_
  refine lv_iload_n hx hb dX3_delayAt_7 rfl (lv_at hl 2 rfl) ?_
  refine lv_iadd hx hb dX3_delayAt_8 ?_
  obtain ⟨i1, h⟩ := h
  refine va_iald (D := (dC, dI)) hx hb hK hP 15 0 rfl rfl i1 dX3_delayAt_9 ?_
  exact xr_i (S := S) hx hb hr hlocks hK hP hD hS ⟨rfl, h⟩ (Nat.le_of_ble_eq_true rfl) (Nat.le_of_ble_eq_true rfl) dX3_delayAt_10
def p_X3_isInverter (S : CS) (x1 : Int32) (post : Int32 → Prop) : Prop := vp_in x1 12 ∧ ((¬ ((cPI S) x1.toNatClampNeg) = (1 : Int32) → (post (0 : Int32))) ∧ (((cPI S) x1.toNatClampNeg) = (1 : Int32) → (vp_in x1 12 ∧ ((¬ ((cTR S) x1.toNatClampNeg) = (1 : Int32) → (post (0 : Int32))) ∧ (((cTR S) x1.toNatClampNeg) = (1 : Int32) → (post (1 : Int32)))))))
set_option maxHeartbeats 1000000 in
set_option maxRecDepth 100000 in
theorem t_X3_isInverter {l : Launch} {dC : Nat → ClassId} {dI : Nat → Nat → Nat} {cyI cyJ cyZ : ClassId} {r : Nat → Nat} {a : Nat → Nat} {S : CS} {x1 : Int32} {post : Int32 → Prop} (h : p_X3_isInverter S x1 post) : xMi l yX3_isInverter wsX3_isInverter { frames := 0, cells := 0, slots := 0, locals := 0 } (dC, dI) (tyA cyI cyJ cyZ) r (wC cyI cyJ cyZ a) [.ref (a 3), .int x1] S (fun x u => S = u ∧ post x) 0 0 := by
  intro sz
  refine Met.ofW (cc := cX3_isInverter) (maxL := 2) (ret := (some .boolean)) (by decide) rfl ?_
  intro p e s m args below meth c s₁ B hml hv
  obtain ⟨rfl, G, hP, hD, hS⟩ := xG.of rfl B hml hv
  generalize hAe : va_A (wC cyI cyJ cyZ a S) sz = A at G hD hS ⊢
  have G : xG p s m _ meth c cX3_isInverter 2 RX3 (some .boolean) wsX3_isInverter (dC, dI) (tyA cyI cyJ cyZ) r A := G
  obtain ⟨hx, hb, hml, hown, hts, hr, hlocks, hK, hE, hA⟩ := id G
  have hiX3 : ∀ w ∈ wsX30, w ∈ wsX3_isInverter := by decide +kernel
  have hf9 := hts (.fieldLink RX3 9 "CellMapping$Shelf" "pins" "[I") (by decide +kernel)
  have hf13 := hts (.fieldLink RX3 13 "CellMapping$Shelf" "truths" "[I") (by decide +kernel)
  have hl := lv_entry ([.ref (a 3), .int x1]) (n := 2) (Nat.le_of_ble_eq_true rfl)
  rw [lg_entry_eq]
  generalize (lg_sl ([.ref (a 3), .int x1]) ++ List.replicate (2 - (lg_sl ([.ref (a 3), .int x1])).length) Slot.unset).toArray = ls at hl ⊢
  have hl : lv_has ls 2 [(0, .ref (a 3)), (1, .int x1)] := hl
  show W p l e { frames := 0, cells := 0, slots := 0, locals := 0 } s m _ below meth c s.heap [] 0 0 _ _
  unfold p_X3_isInverter at h
  refine lv_aload_n hx hb dX3_isInverter_0 rfl (lv_at hl 0 rfl) ?_
  refine va_get (D := (dC, dI)) (ci := 3) (v := .ref (a 12)) (C := RX3) (T := TX3) (N := 6) hx hb hts hiX3 hown hK hP 3 rfl rfl 0 (by decide) hf9 (fun _ h9 => h9) rfl dX3_isInverter_1 ?_
  refine lv_iload_n hx hb dX3_isInverter_4 rfl (lv_at hl 1 rfl) ?_
  obtain ⟨i1, h⟩ := h
  refine va_iald (D := (dC, dI)) hx hb hK hP 12 0 rfl rfl i1 dX3_isInverter_5 ?_
  refine lv_iconst (v := 1) hx hb dX3_isInverter_6 (by decide) ?_
  refine lv_icmp_ne (tgt := 24) hx hb dX3_isInverter_7 (by decide) (fun c2 => ?_) (fun c2 => ?_)
  · have h := h.1 c2
    refine lv_iconst (v := 0) hx hb dX3_isInverter_24 (by decide) ?_
    exact xr_z (S := S) hx hb hr hlocks hK hP hD hS (by decide) ⟨rfl, h⟩ (Nat.le_of_ble_eq_true rfl) (Nat.le_of_ble_eq_true rfl) dX3_isInverter_25
  · have h := h.2 c2
    refine lv_aload_n hx hb dX3_isInverter_10 rfl (lv_at hl 0 rfl) ?_
    refine va_get (D := (dC, dI)) (ci := 3) (v := .ref (a 13)) (C := RX3) (T := TX3) (N := 6) hx hb hts hiX3 hown hK hP 3 rfl rfl 1 (by decide) hf13 (fun _ h9 => h9) rfl dX3_isInverter_11 ?_
    refine lv_iload_n hx hb dX3_isInverter_14 rfl (lv_at hl 1 rfl) ?_
    obtain ⟨i3, h⟩ := h
    refine va_iald (D := (dC, dI)) hx hb hK hP 13 0 rfl rfl i3 dX3_isInverter_15 ?_
    refine lv_iconst (v := 1) hx hb dX3_isInverter_16 (by decide) ?_
    refine lv_icmp_ne (tgt := 24) hx hb dX3_isInverter_17 (by decide) (fun c4 => ?_) (fun c4 => ?_)
    · have h := h.1 c4
      refine lv_iconst (v := 0) hx hb dX3_isInverter_24 (by decide) ?_
      exact xr_z (S := S) hx hb hr hlocks hK hP hD hS (by decide) ⟨rfl, h⟩ (Nat.le_of_ble_eq_true rfl) (Nat.le_of_ble_eq_true rfl) dX3_isInverter_25
    · have h := h.2 c4
      refine lv_iconst (v := 1) hx hb dX3_isInverter_20 (by decide) ?_
      refine lv_goto (tgt := 25) hx hb dX3_isInverter_21 (by decide) ?_
      exact xr_z (S := S) hx hb hr hlocks hK hP hD hS (by decide) ⟨rfl, h⟩ (Nat.le_of_ble_eq_true rfl) (Nat.le_of_ble_eq_true rfl) dX3_isInverter_25
def p_X3_arrangementCount (S : CS) (x1 : Int32) (post : Int32 → Prop) : Prop := vp_in x1 12 ∧ (vp_in ((cPI S) x1.toNatClampNeg) 4 ∧ (vp_in x1 12 ∧ (post ((tOC ((cPI S) x1.toNatClampNeg).toNatClampNeg) <<< (((cPI S) x1.toNatClampNeg) &&& 31)))))
set_option maxHeartbeats 1000000 in
set_option maxRecDepth 100000 in
theorem t_X3_arrangementCount {l : Launch} {dC : Nat → ClassId} {dI : Nat → Nat → Nat} {cyI cyJ cyZ : ClassId} {r : Nat → Nat} {a : Nat → Nat} {S : CS} {x1 : Int32} {post : Int32 → Prop} (h : p_X3_arrangementCount S x1 post) : xMi l yX3_arrangementCount wsX3_arrangementCount { frames := 0, cells := 0, slots := 0, locals := 0 } (dC, dI) (tyA cyI cyJ cyZ) r (wC cyI cyJ cyZ a) [.ref (a 3), .int x1] S (fun x u => S = u ∧ post x) 0 0 := by
  intro sz
  refine Met.ofW (cc := cX3_arrangementCount) (maxL := 2) (ret := (some .int)) (by decide) rfl ?_
  intro p e s m args below meth c s₁ B hml hv
  obtain ⟨rfl, G, hP, hD, hS⟩ := xG.of rfl B hml hv
  generalize hAe : va_A (wC cyI cyJ cyZ a S) sz = A at G hD hS ⊢
  have G : xG p s m _ meth c cX3_arrangementCount 2 RX3 (some .int) wsX3_arrangementCount (dC, dI) (tyA cyI cyJ cyZ) r A := G
  obtain ⟨hx, hb, hml, hown, hts, hr, hlocks, hK, hE, hA⟩ := id G
  have hf41 := hts (.fieldLink RX3 41 "CellMapping$Shelf" "ORDER_COUNT" "[I") (by decide +kernel)
  have hiX3 : ∀ w ∈ wsX30, w ∈ wsX3_arrangementCount := by decide +kernel
  have hf9 := hts (.fieldLink RX3 9 "CellMapping$Shelf" "pins" "[I") (by decide +kernel)
  have hl := lv_entry ([.ref (a 3), .int x1]) (n := 2) (Nat.le_of_ble_eq_true rfl)
  rw [lg_entry_eq]
  generalize (lg_sl ([.ref (a 3), .int x1]) ++ List.replicate (2 - (lg_sl ([.ref (a 3), .int x1])).length) Slot.unset).toArray = ls at hl ⊢
  have hl : lv_has ls 2 [(0, .ref (a 3)), (1, .int x1)] := hl
  show W p l e { frames := 0, cells := 0, slots := 0, locals := 0 } s m _ below meth c s.heap [] 0 0 _ _
  unfold p_X3_arrangementCount at h
  refine va_gets hx hb hE.1.1 hS hown hf41 (fun _ h9 => h9) dX3_arrangementCount_0 ?_
  refine lv_aload_n hx hb dX3_arrangementCount_3 rfl (lv_at hl 0 rfl) ?_
  refine va_get (D := (dC, dI)) (ci := 3) (v := .ref (a 12)) (C := RX3) (T := TX3) (N := 6) hx hb hts hiX3 hown hK hP 3 rfl rfl 0 (by decide) hf9 (fun _ h9 => h9) rfl dX3_arrangementCount_4 ?_
  refine lv_iload_n hx hb dX3_arrangementCount_7 rfl (lv_at hl 1 rfl) ?_
  obtain ⟨i1, h⟩ := h
  refine va_iald (D := (dC, dI)) hx hb hK hP 12 0 rfl rfl i1 dX3_arrangementCount_8 ?_
  obtain ⟨i2, h⟩ := h
  refine va_ti hx hb hE.1.2 hS i2 (v := .int (tOC ((cPI S) x1.toNatClampNeg).toNatClampNeg)) rfl dX3_arrangementCount_9 ?_
  refine lv_aload_n hx hb dX3_arrangementCount_10 rfl (lv_at hl 0 rfl) ?_
  refine va_get (D := (dC, dI)) (ci := 3) (v := .ref (a 12)) (C := RX3) (T := TX3) (N := 6) hx hb hts hiX3 hown hK hP 3 rfl rfl 0 (by decide) hf9 (fun _ h9 => h9) rfl dX3_arrangementCount_11 ?_
  refine lv_iload_n hx hb dX3_arrangementCount_14 rfl (lv_at hl 1 rfl) ?_
  obtain ⟨i3, h⟩ := h
  refine va_iald (D := (dC, dI)) hx hb hK hP 12 0 rfl rfl i3 dX3_arrangementCount_15 ?_
  refine lv_ishl hx hb dX3_arrangementCount_16 ?_
  exact xr_i (S := S) hx hb hr hlocks hK hP hD hS ⟨rfl, h⟩ (Nat.le_of_ble_eq_true rfl) (Nat.le_of_ble_eq_true rfl) dX3_arrangementCount_17
def p_X3_leafAt (S : CS) (x1 : Int32) (x2 : Int32) (x3 : Int32) (post : Int32 → Prop) : Prop := vp_in x1 12 ∧ (vp_in (((x2 >>> (((cPI S) x1.toNatClampNeg) &&& 31)) * (3 : Int32)) + x3) 18 ∧ (post (tOR (((x2 >>> (((cPI S) x1.toNatClampNeg) &&& 31)) * (3 : Int32)) + x3).toNatClampNeg)))
set_option maxHeartbeats 1000000 in
set_option maxRecDepth 100000 in
theorem t_X3_leafAt {l : Launch} {dC : Nat → ClassId} {dI : Nat → Nat → Nat} {cyI cyJ cyZ : ClassId} {r : Nat → Nat} {a : Nat → Nat} {S : CS} {x1 : Int32} {x2 : Int32} {x3 : Int32} {post : Int32 → Prop} (h : p_X3_leafAt S x1 x2 x3 post) : xMi l yX3_leafAt wsX3_leafAt { frames := 0, cells := 0, slots := 0, locals := 0 } (dC, dI) (tyA cyI cyJ cyZ) r (wC cyI cyJ cyZ a) [.ref (a 3), .int x1, .int x2, .int x3] S (fun x u => S = u ∧ post x) 0 0 := by
  intro sz
  refine Met.ofW (cc := cX3_leafAt) (maxL := 4) (ret := (some .int)) (by decide) rfl ?_
  intro p e s m args below meth c s₁ B hml hv
  obtain ⟨rfl, G, hP, hD, hS⟩ := xG.of rfl B hml hv
  generalize hAe : va_A (wC cyI cyJ cyZ a S) sz = A at G hD hS ⊢
  have G : xG p s m _ meth c cX3_leafAt 4 RX3 (some .int) wsX3_leafAt (dC, dI) (tyA cyI cyJ cyZ) r A := G
  obtain ⟨hx, hb, hml, hown, hts, hr, hlocks, hK, hE, hA⟩ := id G
  have hf44 := hts (.fieldLink RX3 44 "CellMapping$Shelf" "ORDERS" "[I") (by decide +kernel)
  have hiX3 : ∀ w ∈ wsX30, w ∈ wsX3_leafAt := by decide +kernel
  have hf9 := hts (.fieldLink RX3 9 "CellMapping$Shelf" "pins" "[I") (by decide +kernel)
  have hl := lv_entry ([.ref (a 3), .int x1, .int x2, .int x3]) (n := 4) (Nat.le_of_ble_eq_true rfl)
  rw [lg_entry_eq]
  generalize (lg_sl ([.ref (a 3), .int x1, .int x2, .int x3]) ++ List.replicate (4 - (lg_sl ([.ref (a 3), .int x1, .int x2, .int x3])).length) Slot.unset).toArray = ls at hl ⊢
  have hl : lv_has ls 4 [(0, .ref (a 3)), (1, .int x1), (2, .int x2), (3, .int x3)] := hl
  show W p l e { frames := 0, cells := 0, slots := 0, locals := 0 } s m _ below meth c s.heap [] 0 0 _ _
  unfold p_X3_leafAt at h
  refine va_gets hx hb hE.2.1.1 hS hown hf44 (fun _ h9 => h9) dX3_leafAt_0 ?_
  refine lv_iload_n hx hb dX3_leafAt_3 rfl (lv_at hl 2 rfl) ?_
  refine lv_aload_n hx hb dX3_leafAt_4 rfl (lv_at hl 0 rfl) ?_
  refine va_get (D := (dC, dI)) (ci := 3) (v := .ref (a 12)) (C := RX3) (T := TX3) (N := 6) hx hb hts hiX3 hown hK hP 3 rfl rfl 0 (by decide) hf9 (fun _ h9 => h9) rfl dX3_leafAt_5 ?_
  refine lv_iload_n hx hb dX3_leafAt_8 rfl (lv_at hl 1 rfl) ?_
  obtain ⟨i1, h⟩ := h
  refine va_iald (D := (dC, dI)) hx hb hK hP 12 0 rfl rfl i1 dX3_leafAt_9 ?_
  refine lv_ishr hx hb dX3_leafAt_10 ?_
  refine lv_iconst (v := 3) hx hb dX3_leafAt_11 (by decide) ?_
  refine lv_imul hx hb dX3_leafAt_12 ?_
  refine lv_iload_n hx hb dX3_leafAt_13 rfl (lv_at hl 3 rfl) ?_
  refine lv_iadd hx hb dX3_leafAt_14 ?_
  obtain ⟨i2, h⟩ := h
  refine va_ti hx hb hE.2.1.2 hS i2 (v := .int (tOR (((x2 >>> (((cPI S) x1.toNatClampNeg) &&& 31)) * (3 : Int32)) + x3).toNatClampNeg)) rfl dX3_leafAt_15 ?_
  exact xr_i (S := S) hx hb hr hlocks hK hP hD hS ⟨rfl, h⟩ (Nat.le_of_ble_eq_true rfl) (Nat.le_of_ble_eq_true rfl) dX3_leafAt_16
def p_X3_turnAt (S : CS) (x1 : Int32) (x2 : Int32) (post : Int32 → Prop) : Prop := post ((x1 >>> (x2 &&& 31)) &&& (1 : Int32))
set_option maxHeartbeats 1000000 in
set_option maxRecDepth 100000 in
theorem t_X3_turnAt {l : Launch} {dC : Nat → ClassId} {dI : Nat → Nat → Nat} {cyI cyJ cyZ : ClassId} {r : Nat → Nat} {a : Nat → Nat} {S : CS} {x1 : Int32} {x2 : Int32} {post : Int32 → Prop} (h : p_X3_turnAt S x1 x2 post) : xMi l yX3_turnAt wsX3_turnAt { frames := 0, cells := 0, slots := 0, locals := 0 } (dC, dI) (tyA cyI cyJ cyZ) r (wC cyI cyJ cyZ a) [.ref (a 3), .int x1, .int x2] S (fun x u => S = u ∧ post x) 0 0 := by
  intro sz
  refine Met.ofW (cc := cX3_turnAt) (maxL := 3) (ret := (some .int)) (by decide) rfl ?_
  intro p e s m args below meth c s₁ B hml hv
  obtain ⟨rfl, G, hP, hD, hS⟩ := xG.of rfl B hml hv
  generalize hAe : va_A (wC cyI cyJ cyZ a S) sz = A at G hD hS ⊢
  have G : xG p s m _ meth c cX3_turnAt 3 RX3 (some .int) wsX3_turnAt (dC, dI) (tyA cyI cyJ cyZ) r A := G
  obtain ⟨hx, hb, hml, hown, hts, hr, hlocks, hK, hE, hA⟩ := id G
  have hl := lv_entry ([.ref (a 3), .int x1, .int x2]) (n := 3) (Nat.le_of_ble_eq_true rfl)
  rw [lg_entry_eq]
  generalize (lg_sl ([.ref (a 3), .int x1, .int x2]) ++ List.replicate (3 - (lg_sl ([.ref (a 3), .int x1, .int x2])).length) Slot.unset).toArray = ls at hl ⊢
  have hl : lv_has ls 3 [(0, .ref (a 3)), (1, .int x1), (2, .int x2)] := hl
  show W p l e { frames := 0, cells := 0, slots := 0, locals := 0 } s m _ below meth c s.heap [] 0 0 _ _
  unfold p_X3_turnAt at h
  refine lv_iload_n hx hb dX3_turnAt_0 rfl (lv_at hl 1 rfl) ?_
  refine lv_iload_n hx hb dX3_turnAt_1 rfl (lv_at hl 2 rfl) ?_
  refine lv_ishr hx hb dX3_turnAt_2 ?_
  refine lv_iconst (v := 1) hx hb dX3_turnAt_3 (by decide) ?_
  refine lv_iand hx hb dX3_turnAt_4 ?_
  exact xr_i (S := S) hx hb hr hlocks hK hP hD hS ⟨rfl, h⟩ (Nat.le_of_ble_eq_true rfl) (Nat.le_of_ble_eq_true rfl) dX3_turnAt_5
def p_X3_arrangedTruth (S : CS) (x1 : Int32) (x2 : Int32) (post : Int32 → Prop) : Prop := vp_in ((x1 * (48 : Int32)) + x2) 576 ∧ (post ((cAG S) ((x1 * (48 : Int32)) + x2).toNatClampNeg))
set_option maxHeartbeats 1000000 in
set_option maxRecDepth 100000 in
theorem t_X3_arrangedTruth {l : Launch} {dC : Nat → ClassId} {dI : Nat → Nat → Nat} {cyI cyJ cyZ : ClassId} {r : Nat → Nat} {a : Nat → Nat} {S : CS} {x1 : Int32} {x2 : Int32} {post : Int32 → Prop} (h : p_X3_arrangedTruth S x1 x2 post) : xMi l yX3_arrangedTruth wsX3_arrangedTruth { frames := 0, cells := 0, slots := 0, locals := 0 } (dC, dI) (tyA cyI cyJ cyZ) r (wC cyI cyJ cyZ a) [.ref (a 3), .int x1, .int x2] S (fun x u => S = u ∧ post x) 0 0 := by
  intro sz
  refine Met.ofW (cc := cX3_arrangedTruth) (maxL := 3) (ret := (some .int)) (by decide) rfl ?_
  intro p e s m args below meth c s₁ B hml hv
  obtain ⟨rfl, G, hP, hD, hS⟩ := xG.of rfl B hml hv
  generalize hAe : va_A (wC cyI cyJ cyZ a S) sz = A at G hD hS ⊢
  have G : xG p s m _ meth c cX3_arrangedTruth 3 RX3 (some .int) wsX3_arrangedTruth (dC, dI) (tyA cyI cyJ cyZ) r A := G
  obtain ⟨hx, hb, hml, hown, hts, hr, hlocks, hK, hE, hA⟩ := id G
  have hiX3 : ∀ w ∈ wsX30, w ∈ wsX3_arrangedTruth := by decide +kernel
  have hf22 := hts (.fieldLink RX3 22 "CellMapping$Shelf" "arranged" "[I") (by decide +kernel)
  have hl := lv_entry ([.ref (a 3), .int x1, .int x2]) (n := 3) (Nat.le_of_ble_eq_true rfl)
  rw [lg_entry_eq]
  generalize (lg_sl ([.ref (a 3), .int x1, .int x2]) ++ List.replicate (3 - (lg_sl ([.ref (a 3), .int x1, .int x2])).length) Slot.unset).toArray = ls at hl ⊢
  have hl : lv_has ls 3 [(0, .ref (a 3)), (1, .int x1), (2, .int x2)] := hl
  show W p l e { frames := 0, cells := 0, slots := 0, locals := 0 } s m _ below meth c s.heap [] 0 0 _ _
  unfold p_X3_arrangedTruth at h
  refine lv_aload_n hx hb dX3_arrangedTruth_0 rfl (lv_at hl 0 rfl) ?_
  refine va_get (D := (dC, dI)) (ci := 3) (v := .ref (a 16)) (C := RX3) (T := TX3) (N := 6) hx hb hts hiX3 hown hK hP 3 rfl rfl 4 (by decide) hf22 (fun _ h9 => h9) rfl dX3_arrangedTruth_1 ?_
  refine lv_iload_n hx hb dX3_arrangedTruth_4 rfl (lv_at hl 1 rfl) ?_
  refine lv_bipush (v := 48) hx hb dX3_arrangedTruth_5 (by decide) ?_
  refine lv_imul hx hb dX3_arrangedTruth_7 ?_
  refine lv_iload_n hx hb dX3_arrangedTruth_8 rfl (lv_at hl 2 rfl) ?_
  refine lv_iadd hx hb dX3_arrangedTruth_9 ?_
  obtain ⟨i1, h⟩ := h
  refine va_iald (D := (dC, dI)) hx hb hK hP 16 0 rfl rfl i1 dX3_arrangedTruth_10 ?_
  exact xr_i (S := S) hx hb hr hlocks hK hP hD hS ⟨rfl, h⟩ (Nat.le_of_ble_eq_true rfl) (Nat.le_of_ble_eq_true rfl) dX3_arrangedTruth_11
def b_X3_arrange_24 (g5 : Int32 → Int32 → Prop) (S : CS) (x1 : Int32) (x2 : Int32) (x3 : Int32) (x4 : Int32) (post : Int32 → Prop) (g24 : Int32 → Int32 → Prop) (x5 : Int32) (x6 : Int32) : Prop := vp_in x1 12 ∧ ((((cPI S) x1.toNatClampNeg) ≤ x6 → (vp_in x1 12 ∧ (∀ y6 : Int32, y6 = (x3 ||| (((((cTR S) x1.toNatClampNeg) >>> (x5 &&& 31)) &&& (1 : Int32)) <<< (x4 &&& 31))) → (∀ y7 : Int32, y7 = (x4 + (1 : Int32)) → (g5 y6 y7))))) ∧ (¬ ((cPI S) x1.toNatClampNeg) ≤ x6 → (p_X3_leafAt S x1 x2 x6 (fun r8 => ∀ y10 : Int32, y10 = ((x4 >>> (r8 &&& 31)) &&& (1 : Int32)) → (p_X3_turnAt S x2 x6 (fun r11 => ∀ y13 : Int32, y13 = (x5 ||| ((y10 ^^^ r11) <<< (x6 &&& 31))) → (∀ y14 : Int32, y14 = (x6 + (1 : Int32)) → (g24 y13 y14))))))))
def p_X3_arrange_24 (g5 : Int32 → Int32 → Prop) (S : CS) (x1 : Int32) (x2 : Int32) (x3 : Int32) (x4 : Int32) (x5 : Int32) (x6 : Int32) (post : Int32 → Prop) : Prop := ∃ (I : Int32 → Int32 → Prop) (mu : Int32 → Int32 → Nat), I x5 x6 ∧ ∀ (x5 : Int32) (x6 : Int32), I x5 x6 → b_X3_arrange_24 g5 S x1 x2 x3 x4 post (fun x5' x6' => I x5' x6' ∧ mu x5' x6' < mu x5 x6) x5 x6
set_option maxHeartbeats 1000000 in
set_option maxRecDepth 100000 in
theorem t_X3_arrange_24 {p : Program} {l : Launch} {e : Env} {s : State} {m : MethodId} {args : Array Value} {below : List Frame} {meth : Method} {c : Code} {dC : Nat → ClassId} {dI : Nat → Nat → Nat} {cyI cyJ cyZ : ClassId} {r : Nat → Nat} {a : Nat → Nat} {A : Nat → Prop} {g5 : Int32 → Int32 → Prop} {S : CS} {x1 : Int32} {x2 : Int32} {x3 : Int32} {x4 : Int32} {x5 : Int32} {x6 : Int32} {post : Int32 → Prop} (G : xG p s m args meth c cX3_arrange 8 RX3 (some .int) wsX3_arrange (dC, dI) (tyA cyI cyJ cyZ) r A) (k5 : ∀ (x3' : Int32) (x4' : Int32) (H : Heap) (locs : List Loc) (ls : Array Slot), g5 x3' x4' → va_P (dC, dI) vwCl (wC cyI cyJ cyZ a S) H → va_D A (wC cyI cyJ cyZ a S) → va_S A s.heap H locs → lv_has ls 8 [(0, .ref (a 3)), (1, .int x1), (2, .int x2), (3, .int x3'), (4, .int x4')] → W p l e { frames := 1, cells := 0, slots := 0, locals := 23 } s m args below meth c H locs 0 0 (MQ below (va_Qi (fun x u => S = u ∧ post x) (xAt (dC, dI) (tyA cyI cyJ cyZ) (wC cyI cyJ cyZ a) A) A) args s 0 0 A) (F0 m 5 ls [])) (h : p_X3_arrange_24 g5 S x1 x2 x3 x4 x5 x6 post) {H : Heap} {locs : List Loc} {ls : Array Slot} (hP : va_P (dC, dI) vwCl (wC cyI cyJ cyZ a S) H) (hD : va_D A (wC cyI cyJ cyZ a S)) (hS : va_S A s.heap H locs) (hl : lv_has ls 8 [(0, .ref (a 3)), (1, .int x1), (2, .int x2), (3, .int x3), (4, .int x4), (5, .int x5), (6, .int x6)]) : W p l e { frames := 1, cells := 0, slots := 0, locals := 23 } s m args below meth c H locs 0 0 (MQ below (va_Qi (fun x u => S = u ∧ post x) (xAt (dC, dI) (tyA cyI cyJ cyZ) (wC cyI cyJ cyZ a) A) A) args s 0 0 A) (F0 m 24 ls []) := by
  obtain ⟨hx, hb, hml, hown, hts, hr, hlocks, hK, hE, hA⟩ := id G
  have hiX3 : ∀ w ∈ wsX30, w ∈ wsX3_arrange := by decide +kernel
  have hf9 := hts (.fieldLink RX3 9 "CellMapping$Shelf" "pins" "[I") (by decide +kernel)
  have hf13 := hts (.fieldLink RX3 13 "CellMapping$Shelf" "truths" "[I") (by decide +kernel)
  obtain ⟨I, mu, h0, hstep⟩ := h
  suffices hgo : ∀ (n : Nat) (x5 : Int32) (x6 : Int32), I x5 x6 → mu x5 x6 < n → ∀ (H : Heap) (locs : List Loc) (ls : Array Slot), va_P (dC, dI) vwCl (wC cyI cyJ cyZ a S) H → va_D A (wC cyI cyJ cyZ a S) → va_S A s.heap H locs → lv_has ls 8 [(0, .ref (a 3)), (1, .int x1), (2, .int x2), (3, .int x3), (4, .int x4), (5, .int x5), (6, .int x6)] → W p l e { frames := 1, cells := 0, slots := 0, locals := 23 } s m args below meth c H locs 0 0 (MQ below (va_Qi (fun x u => S = u ∧ post x) (xAt (dC, dI) (tyA cyI cyJ cyZ) (wC cyI cyJ cyZ a) A) A) args s 0 0 A) (F0 m 24 ls []) from hgo (mu x5 x6 + 1) x5 x6 h0 (Nat.lt_succ_self _) H locs ls hP hD hS hl
  clear h0 hP hD hS hl
  intro n
  induction n with
  | zero => intro x5 x6 _ h; exact absurd h (Nat.not_lt_zero _)
  | succ n ih =>
    intro x5 x6 hI hmu H locs ls hP hD hS hl
    have h := hstep x5 x6 hI
    unfold b_X3_arrange_24 at h
    have k24 : ∀ (x5' : Int32) (x6' : Int32) (H : Heap) (locs : List Loc) (ls : Array Slot), (fun x5' x6' => I x5' x6' ∧ mu x5' x6' < mu x5 x6) x5' x6' → va_P (dC, dI) vwCl (wC cyI cyJ cyZ a S) H → va_D A (wC cyI cyJ cyZ a S) → va_S A s.heap H locs → lv_has ls 8 [(0, .ref (a 3)), (1, .int x1), (2, .int x2), (3, .int x3), (4, .int x4), (5, .int x5'), (6, .int x6')] → W p l e { frames := 1, cells := 0, slots := 0, locals := 23 } s m args below meth c H locs 0 0 (MQ below (va_Qi (fun x u => S = u ∧ post x) (xAt (dC, dI) (tyA cyI cyJ cyZ) (wC cyI cyJ cyZ a) A) A) args s 0 0 A) (F0 m 24 ls []) := fun x5' x6' H locs ls hh hP hD hS hl => ih x5' x6' hh.1 (Nat.lt_of_lt_of_le hh.2 (Nat.le_of_lt_succ hmu)) H locs ls hP hD hS hl
    generalize (fun x5' x6' => I x5' x6' ∧ mu x5' x6' < mu x5 x6) = g24 at h k24
    refine lv_iload hx hb dX3_arrange_24 (lv_at hl 6 rfl) ?_
    refine lv_aload_n hx hb dX3_arrange_26 rfl (lv_at hl 0 rfl) ?_
    refine va_get (D := (dC, dI)) (ci := 3) (v := .ref (a 12)) (C := RX3) (T := TX3) (N := 6) hx hb hts hiX3 hown hK hP 3 rfl rfl 0 (by decide) hf9 (fun _ h9 => h9) rfl dX3_arrange_27 ?_
    refine lv_iload_n hx hb dX3_arrange_30 rfl (lv_at hl 1 rfl) ?_
    obtain ⟨i3, h⟩ := h
    refine va_iald (D := (dC, dI)) hx hb hK hP 12 0 rfl rfl i3 dX3_arrange_31 ?_
    refine lv_icmp_ge (tgt := 74) hx hb dX3_arrange_32 (by decide) (fun c4 => ?_) (fun c4 => ?_)
    · have h := h.1 c4
      refine lv_iload_n hx hb dX3_arrange_74 rfl (lv_at hl 3 rfl) ?_
      refine lv_aload_n hx hb dX3_arrange_75 rfl (lv_at hl 0 rfl) ?_
      refine va_get (D := (dC, dI)) (ci := 3) (v := .ref (a 13)) (C := RX3) (T := TX3) (N := 6) hx hb hts hiX3 hown hK hP 3 rfl rfl 1 (by decide) hf13 (fun _ h9 => h9) rfl dX3_arrange_76 ?_
      refine lv_iload_n hx hb dX3_arrange_79 rfl (lv_at hl 1 rfl) ?_
      obtain ⟨i5, h⟩ := h
      refine va_iald (D := (dC, dI)) hx hb hK hP 13 0 rfl rfl i5 dX3_arrange_80 ?_
      refine lv_iload hx hb dX3_arrange_81 (lv_at hl 5 rfl) ?_
      refine lv_ishr hx hb dX3_arrange_83 ?_
      refine lv_iconst (v := 1) hx hb dX3_arrange_84 (by decide) ?_
      refine lv_iand hx hb dX3_arrange_85 ?_
      refine lv_iload hx hb dX3_arrange_86 (lv_at hl 4 rfl) ?_
      refine lv_ishl hx hb dX3_arrange_88 ?_
      refine lv_ior hx hb dX3_arrange_89 ?_
      refine lv_topi (fun y6 ey6 => ?_)
      have h := h y6 ey6
      refine lv_istore_n (lv' := [(3, .int y6), (0, .ref (a 3)), (1, .int x1), (2, .int x2), (4, .int x4), (5, .int x5), (6, .int x6)]) hx hb dX3_arrange_90 rfl hl (by decide) rfl (fun ls hl => ?_)
      obtain ⟨y7, ey7⟩ : ∃ z : Int32, z = (x4 + (1 : Int32)) := ⟨_, rfl⟩
      have h := h y7 ey7
      refine lv_iinc (v := y7) (lv' := [(4, .int y7), (3, .int y6), (0, .ref (a 3)), (1, .int x1), (2, .int x2), (5, .int x5), (6, .int x6)]) hx hb dX3_arrange_91 hl (k := 4) rfl (by rw [ey7]; rfl) (by decide) rfl (fun ls hl => ?_)
      refine lv_goto (tgt := 5) hx hb dX3_arrange_94 (by decide) ?_
      exact k5 y6 y7 H locs ls h hP hD hS (lv_sub hl [2, 3, 4, 1, 0] rfl)
    · have h := h.2 c4
      refine lv_iload hx hb dX3_arrange_35 (lv_at hl 4 rfl) ?_
      refine lv_aload_n hx hb dX3_arrange_37 rfl (lv_at hl 0 rfl) ?_
      refine lv_iload_n hx hb dX3_arrange_38 rfl (lv_at hl 1 rfl) ?_
      refine lv_iload_n hx hb dX3_arrange_39 rfl (lv_at hl 2 rfl) ?_
      refine lv_iload hx hb dX3_arrange_40 (lv_at hl 6 rfl) ?_
      refine xc_Vi (wf := wC cyI cyJ cyZ a) (wr := []) (isC := [0, 1, 2, 3, 4, 5, 6, 7, 8, 9, 10, 11, 12, 13, 14, 15, 16, 17, 18, 19, 20]) (isR := []) (As := [.int x1, .int x2, .int x6]) (rest := [.int x4]) ⟨hx, hb, hml, hown, hts⟩ (t_X3_leafAt h) (cwV 3 hts gX3_arrange_X3_leafAt rfl rfl rfl (by decide +kernel) ⟨Nat.le_of_ble_eq_true rfl, Nat.le_of_ble_eq_true rfl⟩) ⟨hK, hE, hA, hP, hD, hS, rfl, rfl, rfl, rfl, by decide⟩ ⟨3, 3, _, _, rfl, rfl, rfl⟩ rfl rfl hl.1 (Nat.le_of_ble_eq_true rfl) dX3_arrange_42 ⟨Nat.le_of_ble_eq_true rfl, Nat.le_of_ble_eq_true rfl⟩ (fun r8 S9 H locs h hP hD hS => ?_)
      obtain ⟨rfl, h⟩ := h
      have hP : va_P (dC, dI) vwCl (wC cyI cyJ cyZ a S) H := hP
      have hD : va_D A (wC cyI cyJ cyZ a S) := hD
      refine lv_ishr hx hb dX3_arrange_45 ?_
      refine lv_iconst (v := 1) hx hb dX3_arrange_46 (by decide) ?_
      refine lv_iand hx hb dX3_arrange_47 ?_
      refine lv_topi (fun y10 ey10 => ?_)
      have h := h y10 ey10
      refine lv_istore (lv' := [(7, .int y10), (0, .ref (a 3)), (1, .int x1), (2, .int x2), (3, .int x3), (4, .int x4), (5, .int x5), (6, .int x6)]) hx hb dX3_arrange_48 hl (by decide) rfl (fun ls hl => ?_)
      refine lv_iload hx hb dX3_arrange_50 (lv_at hl 6 rfl) ?_
      refine lv_iload hx hb dX3_arrange_52 (lv_at hl 0 rfl) ?_
      refine lv_aload_n hx hb dX3_arrange_54 rfl (lv_at hl 1 rfl) ?_
      refine lv_iload_n hx hb dX3_arrange_55 rfl (lv_at hl 3 rfl) ?_
      refine lv_iload hx hb dX3_arrange_56 (lv_at hl 7 rfl) ?_
      refine xc_Vi (wf := wC cyI cyJ cyZ a) (wr := []) (isC := [0, 1, 2, 3, 4, 5, 6, 7, 8, 9, 10, 11, 12, 13, 14, 15, 16, 17, 18, 19, 20]) (isR := []) (As := [.int x2, .int x6]) (rest := [.int y10, .int x5]) ⟨hx, hb, hml, hown, hts⟩ (t_X3_turnAt h) (cwV 2 hts gX3_arrange_X3_turnAt rfl rfl rfl (by decide +kernel) ⟨Nat.le_of_ble_eq_true rfl, Nat.le_of_ble_eq_true rfl⟩) ⟨hK, hE, hA, hP, hD, hS, rfl, rfl, rfl, rfl, by decide⟩ ⟨3, 3, _, _, rfl, rfl, rfl⟩ rfl rfl hl.1 (Nat.le_of_ble_eq_true rfl) dX3_arrange_58 ⟨Nat.le_of_ble_eq_true rfl, Nat.le_of_ble_eq_true rfl⟩ (fun r11 S12 H locs h hP hD hS => ?_)
      obtain ⟨rfl, h⟩ := h
      have hP : va_P (dC, dI) vwCl (wC cyI cyJ cyZ a S) H := hP
      have hD : va_D A (wC cyI cyJ cyZ a S) := hD
      refine lv_ixor hx hb dX3_arrange_61 ?_
      refine lv_iload hx hb dX3_arrange_62 (lv_at hl 7 rfl) ?_
      refine lv_ishl hx hb dX3_arrange_64 ?_
      refine lv_ior hx hb dX3_arrange_65 ?_
      refine lv_topi (fun y13 ey13 => ?_)
      have h := h y13 ey13
      refine lv_istore (lv' := [(5, .int y13), (7, .int y10), (0, .ref (a 3)), (1, .int x1), (2, .int x2), (3, .int x3), (4, .int x4), (6, .int x6)]) hx hb dX3_arrange_66 hl (by decide) rfl (fun ls hl => ?_)
      obtain ⟨y14, ey14⟩ : ∃ z : Int32, z = (x6 + (1 : Int32)) := ⟨_, rfl⟩
      have h := h y14 ey14
      refine lv_iinc (v := y14) (lv' := [(6, .int y14), (5, .int y13), (7, .int y10), (0, .ref (a 3)), (1, .int x1), (2, .int x2), (3, .int x3), (4, .int x4)]) hx hb dX3_arrange_68 hl (k := 7) rfl (by rw [ey14]; rfl) (by decide) rfl (fun ls hl => ?_)
      refine lv_goto (tgt := 24) hx hb dX3_arrange_71 (by decide) ?_
      exact k24 y13 y14 H locs ls h hP hD hS (lv_sub hl [3, 4, 5, 6, 7, 1, 0] rfl)
def b_X3_arrange_5 (S : CS) (x1 : Int32) (x2 : Int32) (post : Int32 → Prop) (g5 : Int32 → Int32 → Prop) (x3 : Int32) (x4 : Int32) : Prop := vp_in x1 12 ∧ ((((1 : Int32) <<< (((cPI S) x1.toNatClampNeg) &&& 31)) ≤ x4 → (post x3)) ∧ (¬ ((1 : Int32) <<< (((cPI S) x1.toNatClampNeg) &&& 31)) ≤ x4 → (p_X3_arrange_24 g5 S x1 x2 x3 x4 (0 : Int32) (0 : Int32) post)))
def p_X3_arrange_5 (S : CS) (x1 : Int32) (x2 : Int32) (x3 : Int32) (x4 : Int32) (post : Int32 → Prop) : Prop := ∃ (I : Int32 → Int32 → Prop) (mu : Int32 → Int32 → Nat), I x3 x4 ∧ ∀ (x3 : Int32) (x4 : Int32), I x3 x4 → b_X3_arrange_5 S x1 x2 post (fun x3' x4' => I x3' x4' ∧ mu x3' x4' < mu x3 x4) x3 x4
set_option maxHeartbeats 1000000 in
set_option maxRecDepth 100000 in
theorem t_X3_arrange_5 {p : Program} {l : Launch} {e : Env} {s : State} {m : MethodId} {args : Array Value} {below : List Frame} {meth : Method} {c : Code} {dC : Nat → ClassId} {dI : Nat → Nat → Nat} {cyI cyJ cyZ : ClassId} {r : Nat → Nat} {a : Nat → Nat} {A : Nat → Prop} {S : CS} {x1 : Int32} {x2 : Int32} {x3 : Int32} {x4 : Int32} {post : Int32 → Prop} (G : xG p s m args meth c cX3_arrange 8 RX3 (some .int) wsX3_arrange (dC, dI) (tyA cyI cyJ cyZ) r A) (h : p_X3_arrange_5 S x1 x2 x3 x4 post) {H : Heap} {locs : List Loc} {ls : Array Slot} (hP : va_P (dC, dI) vwCl (wC cyI cyJ cyZ a S) H) (hD : va_D A (wC cyI cyJ cyZ a S)) (hS : va_S A s.heap H locs) (hl : lv_has ls 8 [(0, .ref (a 3)), (1, .int x1), (2, .int x2), (3, .int x3), (4, .int x4)]) : W p l e { frames := 1, cells := 0, slots := 0, locals := 23 } s m args below meth c H locs 0 0 (MQ below (va_Qi (fun x u => S = u ∧ post x) (xAt (dC, dI) (tyA cyI cyJ cyZ) (wC cyI cyJ cyZ a) A) A) args s 0 0 A) (F0 m 5 ls []) := by
  obtain ⟨hx, hb, hml, hown, hts, hr, hlocks, hK, hE, hA⟩ := id G
  have hiX3 : ∀ w ∈ wsX30, w ∈ wsX3_arrange := by decide +kernel
  have hf9 := hts (.fieldLink RX3 9 "CellMapping$Shelf" "pins" "[I") (by decide +kernel)
  obtain ⟨I, mu, h0, hstep⟩ := h
  suffices hgo : ∀ (n : Nat) (x3 : Int32) (x4 : Int32), I x3 x4 → mu x3 x4 < n → ∀ (H : Heap) (locs : List Loc) (ls : Array Slot), va_P (dC, dI) vwCl (wC cyI cyJ cyZ a S) H → va_D A (wC cyI cyJ cyZ a S) → va_S A s.heap H locs → lv_has ls 8 [(0, .ref (a 3)), (1, .int x1), (2, .int x2), (3, .int x3), (4, .int x4)] → W p l e { frames := 1, cells := 0, slots := 0, locals := 23 } s m args below meth c H locs 0 0 (MQ below (va_Qi (fun x u => S = u ∧ post x) (xAt (dC, dI) (tyA cyI cyJ cyZ) (wC cyI cyJ cyZ a) A) A) args s 0 0 A) (F0 m 5 ls []) from hgo (mu x3 x4 + 1) x3 x4 h0 (Nat.lt_succ_self _) H locs ls hP hD hS hl
  clear h0 hP hD hS hl
  intro n
  induction n with
  | zero => intro x3 x4 _ h; exact absurd h (Nat.not_lt_zero _)
  | succ n ih =>
    intro x3 x4 hI hmu H locs ls hP hD hS hl
    have h := hstep x3 x4 hI
    unfold b_X3_arrange_5 at h
    have k5 : ∀ (x3' : Int32) (x4' : Int32) (H : Heap) (locs : List Loc) (ls : Array Slot), (fun x3' x4' => I x3' x4' ∧ mu x3' x4' < mu x3 x4) x3' x4' → va_P (dC, dI) vwCl (wC cyI cyJ cyZ a S) H → va_D A (wC cyI cyJ cyZ a S) → va_S A s.heap H locs → lv_has ls 8 [(0, .ref (a 3)), (1, .int x1), (2, .int x2), (3, .int x3'), (4, .int x4')] → W p l e { frames := 1, cells := 0, slots := 0, locals := 23 } s m args below meth c H locs 0 0 (MQ below (va_Qi (fun x u => S = u ∧ post x) (xAt (dC, dI) (tyA cyI cyJ cyZ) (wC cyI cyJ cyZ a) A) A) args s 0 0 A) (F0 m 5 ls []) := fun x3' x4' H locs ls hh hP hD hS hl => ih x3' x4' hh.1 (Nat.lt_of_lt_of_le hh.2 (Nat.le_of_lt_succ hmu)) H locs ls hP hD hS hl
    generalize (fun x3' x4' => I x3' x4' ∧ mu x3' x4' < mu x3 x4) = g5 at h k5
    refine lv_iload hx hb dX3_arrange_5 (lv_at hl 4 rfl) ?_
    refine lv_iconst (v := 1) hx hb dX3_arrange_7 (by decide) ?_
    refine lv_aload_n hx hb dX3_arrange_8 rfl (lv_at hl 0 rfl) ?_
    refine va_get (D := (dC, dI)) (ci := 3) (v := .ref (a 12)) (C := RX3) (T := TX3) (N := 6) hx hb hts hiX3 hown hK hP 3 rfl rfl 0 (by decide) hf9 (fun _ h9 => h9) rfl dX3_arrange_9 ?_
    refine lv_iload_n hx hb dX3_arrange_12 rfl (lv_at hl 1 rfl) ?_
    obtain ⟨i1, h⟩ := h
    refine va_iald (D := (dC, dI)) hx hb hK hP 12 0 rfl rfl i1 dX3_arrange_13 ?_
    refine lv_ishl hx hb dX3_arrange_14 ?_
    refine lv_icmp_ge (tgt := 97) hx hb dX3_arrange_15 (by decide) (fun c2 => ?_) (fun c2 => ?_)
    · have h := h.1 c2
      refine lv_iload_n hx hb dX3_arrange_97 rfl (lv_at hl 3 rfl) ?_
      exact xr_i (S := S) hx hb hr hlocks hK hP hD hS ⟨rfl, h⟩ (Nat.le_of_ble_eq_true rfl) (Nat.le_of_ble_eq_true rfl) dX3_arrange_98
    · have h := h.2 c2
      refine lv_iconst (v := 0) hx hb dX3_arrange_18 (by decide) ?_
      refine lv_istore (lv' := [(5, .int (0 : Int32)), (0, .ref (a 3)), (1, .int x1), (2, .int x2), (3, .int x3), (4, .int x4)]) hx hb dX3_arrange_19 hl (by decide) rfl (fun ls hl => ?_)
      refine lv_iconst (v := 0) hx hb dX3_arrange_21 (by decide) ?_
      refine lv_istore (lv' := [(6, .int (0 : Int32)), (5, .int (0 : Int32)), (0, .ref (a 3)), (1, .int x1), (2, .int x2), (3, .int x3), (4, .int x4)]) hx hb dX3_arrange_22 hl (by decide) rfl (fun ls hl => ?_)
      exact t_X3_arrange_24 G k5 h hP hD hS (lv_sub hl [2, 3, 4, 5, 6, 1, 0] rfl)
def p_X3_arrange (S : CS) (x1 : Int32) (x2 : Int32) (post : Int32 → Prop) : Prop := p_X3_arrange_5 S x1 x2 (0 : Int32) (0 : Int32) post
set_option maxHeartbeats 1000000 in
set_option maxRecDepth 100000 in
theorem t_X3_arrange {l : Launch} {dC : Nat → ClassId} {dI : Nat → Nat → Nat} {cyI cyJ cyZ : ClassId} {r : Nat → Nat} {a : Nat → Nat} {S : CS} {x1 : Int32} {x2 : Int32} {post : Int32 → Prop} (h : p_X3_arrange S x1 x2 post) : xMi l yX3_arrange wsX3_arrange { frames := 1, cells := 0, slots := 0, locals := 23 } (dC, dI) (tyA cyI cyJ cyZ) r (wC cyI cyJ cyZ a) [.ref (a 3), .int x1, .int x2] S (fun x u => S = u ∧ post x) 0 0 := by
  intro sz
  refine Met.ofW (cc := cX3_arrange) (maxL := 8) (ret := (some .int)) (by decide) rfl ?_
  intro p e s m args below meth c s₁ B hml hv
  obtain ⟨rfl, G, hP, hD, hS⟩ := xG.of rfl B hml hv
  generalize hAe : va_A (wC cyI cyJ cyZ a S) sz = A at G hD hS ⊢
  have G : xG p s m _ meth c cX3_arrange 8 RX3 (some .int) wsX3_arrange (dC, dI) (tyA cyI cyJ cyZ) r A := G
  obtain ⟨hx, hb, hml, hown, hts, hr, hlocks, hK, hE, hA⟩ := id G
  have hl := lv_entry ([.ref (a 3), .int x1, .int x2]) (n := 8) (Nat.le_of_ble_eq_true rfl)
  rw [lg_entry_eq]
  generalize (lg_sl ([.ref (a 3), .int x1, .int x2]) ++ List.replicate (8 - (lg_sl ([.ref (a 3), .int x1, .int x2])).length) Slot.unset).toArray = ls at hl ⊢
  have hl : lv_has ls 8 [(0, .ref (a 3)), (1, .int x1), (2, .int x2)] := hl
  show W p l e { frames := 1, cells := 0, slots := 0, locals := 23 } s m _ below meth c s.heap [] 0 0 _ _
  unfold p_X3_arrange at h
  refine lv_iconst (v := 0) hx hb dX3_arrange_0 (by decide) ?_
  refine lv_istore_n (lv' := [(3, .int (0 : Int32)), (0, .ref (a 3)), (1, .int x1), (2, .int x2)]) hx hb dX3_arrange_1 rfl hl (by decide) rfl (fun ls hl => ?_)
  refine lv_iconst (v := 0) hx hb dX3_arrange_2 (by decide) ?_
  refine lv_istore (lv' := [(4, .int (0 : Int32)), (3, .int (0 : Int32)), (0, .ref (a 3)), (1, .int x1), (2, .int x2)]) hx hb dX3_arrange_3 hl (by decide) rfl (fun ls hl => ?_)
  exact t_X3_arrange_5 G h hP hD hS (lv_sub hl [2, 3, 4, 1, 0] rfl)
def b_X3_add_67 (x4 : Int32) (post : Int32 → CS → Prop) (g67 : CS → Int32 → Prop) (S : CS) (x5 : Int32) : Prop := p_X3_arrangementCount S x4 (fun r10 => (r10 ≤ x5 → (post x4 S)) ∧ (¬ r10 ≤ x5 → (p_X3_arrange S x4 x5 (fun r13 => vp_in ((x4 * (48 : Int32)) + x5) 576 ∧ (∀ S16 : CS, S16 = (cAG_s S (upd (cAG S) ((x4 * (48 : Int32)) + x5).toNatClampNeg r13)) → (∀ y17 : Int32, y17 = (x5 + (1 : Int32)) → (g67 S16 y17)))))))
def p_X3_add_67 (S : CS) (x4 : Int32) (x5 : Int32) (post : Int32 → CS → Prop) : Prop := ∃ (I : CS → Int32 → Prop) (mu : CS → Int32 → Nat), I S x5 ∧ ∀ (S : CS) (x5 : Int32), I S x5 → b_X3_add_67 x4 post (fun S' x5' => I S' x5' ∧ mu S' x5' < mu S x5) S x5
set_option maxHeartbeats 1000000 in
set_option maxRecDepth 100000 in
theorem t_X3_add_67 {p : Program} {l : Launch} {e : Env} {s : State} {m : MethodId} {args : Array Value} {below : List Frame} {meth : Method} {c : Code} {dC : Nat → ClassId} {dI : Nat → Nat → Nat} {cyI cyJ cyZ : ClassId} {r : Nat → Nat} {a : Nat → Nat} {A : Nat → Prop} {S : CS} {x4 : Int32} {x5 : Int32} {post : Int32 → CS → Prop} (G : xG p s m args meth c cX3_add 6 RX3 (some .int) wsX3_add (dC, dI) (tyA cyI cyJ cyZ) r A) (h : p_X3_add_67 S x4 x5 post) {H : Heap} {locs : List Loc} {ls : Array Slot} (hP : va_P (dC, dI) vwCl (wC cyI cyJ cyZ a S) H) (hD : va_D A (wC cyI cyJ cyZ a S)) (hS : va_S A s.heap H locs) (hl : lv_has ls 6 [(0, .ref (a 3)), (4, .int x4), (5, .int x5)]) : W p l e { frames := 2, cells := 0, slots := 0, locals := 50 } s m args below meth c H locs 0 0 (MQ below (va_Qi post (xAt (dC, dI) (tyA cyI cyJ cyZ) (wC cyI cyJ cyZ a) A) A) args s 0 0 A) (F0 m 67 ls []) := by
  obtain ⟨hx, hb, hml, hown, hts, hr, hlocks, hK, hE, hA⟩ := id G
  have hiX3 : ∀ w ∈ wsX30, w ∈ wsX3_add := by decide +kernel
  have hf22 := hts (.fieldLink RX3 22 "CellMapping$Shelf" "arranged" "[I") (by decide +kernel)
  obtain ⟨I, mu, h0, hstep⟩ := h
  suffices hgo : ∀ (n : Nat) (S : CS) (x5 : Int32), I S x5 → mu S x5 < n → ∀ (H : Heap) (locs : List Loc) (ls : Array Slot), va_P (dC, dI) vwCl (wC cyI cyJ cyZ a S) H → va_D A (wC cyI cyJ cyZ a S) → va_S A s.heap H locs → lv_has ls 6 [(0, .ref (a 3)), (4, .int x4), (5, .int x5)] → W p l e { frames := 2, cells := 0, slots := 0, locals := 50 } s m args below meth c H locs 0 0 (MQ below (va_Qi post (xAt (dC, dI) (tyA cyI cyJ cyZ) (wC cyI cyJ cyZ a) A) A) args s 0 0 A) (F0 m 67 ls []) from hgo (mu S x5 + 1) S x5 h0 (Nat.lt_succ_self _) H locs ls hP hD hS hl
  clear h0 hP hD hS hl
  intro n
  induction n with
  | zero => intro S x5 _ h; exact absurd h (Nat.not_lt_zero _)
  | succ n ih =>
    intro S x5 hI hmu H locs ls hP hD hS hl
    have h := hstep S x5 hI
    unfold b_X3_add_67 at h
    have k67 : ∀ (S' : CS) (x5' : Int32) (H : Heap) (locs : List Loc) (ls : Array Slot), (fun S' x5' => I S' x5' ∧ mu S' x5' < mu S x5) S' x5' → va_P (dC, dI) vwCl (wC cyI cyJ cyZ a S') H → va_D A (wC cyI cyJ cyZ a S') → va_S A s.heap H locs → lv_has ls 6 [(0, .ref (a 3)), (4, .int x4), (5, .int x5')] → W p l e { frames := 2, cells := 0, slots := 0, locals := 50 } s m args below meth c H locs 0 0 (MQ below (va_Qi post (xAt (dC, dI) (tyA cyI cyJ cyZ) (wC cyI cyJ cyZ a) A) A) args s 0 0 A) (F0 m 67 ls []) := fun S' x5' H locs ls hh hP hD hS hl => ih S' x5' hh.1 (Nat.lt_of_lt_of_le hh.2 (Nat.le_of_lt_succ hmu)) H locs ls hP hD hS hl
    generalize (fun S' x5' => I S' x5' ∧ mu S' x5' < mu S x5) = g67 at h k67
    refine lv_iload hx hb dX3_add_67 (lv_at hl 2 rfl) ?_
    refine lv_aload_n hx hb dX3_add_69 rfl (lv_at hl 0 rfl) ?_
    refine lv_iload hx hb dX3_add_70 (lv_at hl 1 rfl) ?_
    refine xc_Vi (wf := wC cyI cyJ cyZ a) (wr := []) (isC := [0, 1, 2, 3, 4, 5, 6, 7, 8, 9, 10, 11, 12, 13, 14, 15, 16, 17, 18, 19, 20]) (isR := []) (As := [.int x4]) (rest := [.int x5]) ⟨hx, hb, hml, hown, hts⟩ (t_X3_arrangementCount h) (cwV 1 hts gX3_add_X3_arrangementCount rfl rfl rfl (by decide +kernel) ⟨Nat.le_of_ble_eq_true rfl, Nat.le_of_ble_eq_true rfl⟩) ⟨hK, hE, hA, hP, hD, hS, rfl, rfl, rfl, rfl, by decide⟩ ⟨3, 3, _, _, rfl, rfl, rfl⟩ rfl rfl hl.1 (Nat.le_of_ble_eq_true rfl) dX3_add_72 ⟨Nat.le_of_ble_eq_true rfl, Nat.le_of_ble_eq_true rfl⟩ (fun r10 S11 H locs h hP hD hS => ?_)
    obtain ⟨rfl, h⟩ := h
    have hP : va_P (dC, dI) vwCl (wC cyI cyJ cyZ a S) H := hP
    have hD : va_D A (wC cyI cyJ cyZ a S) := hD
    refine lv_icmp_ge (tgt := 105) hx hb dX3_add_75 (by decide) (fun c12 => ?_) (fun c12 => ?_)
    · have h := h.1 c12
      refine lv_iload hx hb dX3_add_105 (lv_at hl 1 rfl) ?_
      exact xr_i (S := S) hx hb hr hlocks hK hP hD hS h (Nat.le_of_ble_eq_true rfl) (Nat.le_of_ble_eq_true rfl) dX3_add_107
    · have h := h.2 c12
      refine lv_aload_n hx hb dX3_add_78 rfl (lv_at hl 0 rfl) ?_
      refine va_get (D := (dC, dI)) (ci := 3) (v := .ref (a 16)) (C := RX3) (T := TX3) (N := 6) hx hb hts hiX3 hown hK hP 3 rfl rfl 4 (by decide) hf22 (fun _ h9 => h9) rfl dX3_add_79 ?_
      refine lv_iload hx hb dX3_add_82 (lv_at hl 1 rfl) ?_
      refine lv_bipush (v := 48) hx hb dX3_add_84 (by decide) ?_
      refine lv_imul hx hb dX3_add_86 ?_
      refine lv_iload hx hb dX3_add_87 (lv_at hl 2 rfl) ?_
      refine lv_iadd hx hb dX3_add_89 ?_
      refine lv_aload_n hx hb dX3_add_90 rfl (lv_at hl 0 rfl) ?_
      refine lv_iload hx hb dX3_add_91 (lv_at hl 1 rfl) ?_
      refine lv_iload hx hb dX3_add_93 (lv_at hl 2 rfl) ?_
      refine xc_Vi (wf := wC cyI cyJ cyZ a) (wr := []) (isC := [0, 1, 2, 3, 4, 5, 6, 7, 8, 9, 10, 11, 12, 13, 14, 15, 16, 17, 18, 19, 20]) (isR := []) (As := [.int x4, .int x5]) (rest := [.int ((x4 * (48 : Int32)) + x5), .ref (a 16)]) ⟨hx, hb, hml, hown, hts⟩ (t_X3_arrange h) (cwV 2 hts gX3_add_X3_arrange rfl rfl rfl (by decide +kernel) ⟨Nat.le_of_ble_eq_true rfl, Nat.le_of_ble_eq_true rfl⟩) ⟨hK, hE, hA, hP, hD, hS, rfl, rfl, rfl, rfl, by decide⟩ ⟨3, 3, _, _, rfl, rfl, rfl⟩ rfl rfl hl.1 (Nat.le_of_ble_eq_true rfl) dX3_add_95 ⟨Nat.le_of_ble_eq_true rfl, Nat.le_of_ble_eq_true rfl⟩ (fun r13 S14 H locs h hP hD hS => ?_)
      obtain ⟨rfl, h⟩ := h
      have hP : va_P (dC, dI) vwCl (wC cyI cyJ cyZ a S) H := hP
      have hD : va_D A (wC cyI cyJ cyZ a S) := hD
      obtain ⟨i15, h⟩ := h
      refine va_iast (D := (dC, dI)) hx hb hK hP hD hS 16 0 rfl rfl i15 dX3_add_98 (fun H locs hP hD hS => ?_)
      obtain ⟨S16, eS16⟩ : ∃ z : CS, z = (cAG_s S (upd (cAG S) ((x4 * (48 : Int32)) + x5).toNatClampNeg r13)) := ⟨_, rfl⟩
      have h := h S16 eS16
      have hP := nP_cAG eS16 hP
      have hD := nD_cAG eS16 hD
      obtain ⟨y17, ey17⟩ : ∃ z : Int32, z = (x5 + (1 : Int32)) := ⟨_, rfl⟩
      have h := h y17 ey17
      refine lv_iinc (v := y17) (lv' := [(5, .int y17), (0, .ref (a 3)), (4, .int x4)]) hx hb dX3_add_99 hl (k := 2) rfl (by rw [ey17]; rfl) (by decide) rfl (fun ls hl => ?_)
      refine lv_goto (tgt := 67) hx hb dX3_add_102 (by decide) ?_
      exact k67 S16 y17 H locs ls h hP hD hS (lv_sub hl [1, 2, 0] rfl)
def b_X3_add_43 (x4 : Int32) (post : Int32 → CS → Prop) (g43 : CS → Int32 → Prop) (S : CS) (x5 : Int32) : Prop := ((3 : Int32) ≤ x5 → (p_X3_add_67 S x4 (0 : Int32) post)) ∧ (¬ (3 : Int32) ≤ x5 → (p_X3_setDelay S x4 x5 (0 : Int32) (fun S18 => ∀ y19 : Int32, y19 = (x5 + (1 : Int32)) → (g43 S18 y19))))
def p_X3_add_43 (S : CS) (x4 : Int32) (x5 : Int32) (post : Int32 → CS → Prop) : Prop := ∃ (I : CS → Int32 → Prop) (mu : CS → Int32 → Nat), I S x5 ∧ ∀ (S : CS) (x5 : Int32), I S x5 → b_X3_add_43 x4 post (fun S' x5' => I S' x5' ∧ mu S' x5' < mu S x5) S x5
set_option maxHeartbeats 1000000 in
set_option maxRecDepth 100000 in
theorem t_X3_add_43 {p : Program} {l : Launch} {e : Env} {s : State} {m : MethodId} {args : Array Value} {below : List Frame} {meth : Method} {c : Code} {dC : Nat → ClassId} {dI : Nat → Nat → Nat} {cyI cyJ cyZ : ClassId} {r : Nat → Nat} {a : Nat → Nat} {A : Nat → Prop} {S : CS} {x4 : Int32} {x5 : Int32} {post : Int32 → CS → Prop} (G : xG p s m args meth c cX3_add 6 RX3 (some .int) wsX3_add (dC, dI) (tyA cyI cyJ cyZ) r A) (h : p_X3_add_43 S x4 x5 post) {H : Heap} {locs : List Loc} {ls : Array Slot} (hP : va_P (dC, dI) vwCl (wC cyI cyJ cyZ a S) H) (hD : va_D A (wC cyI cyJ cyZ a S)) (hS : va_S A s.heap H locs) (hl : lv_has ls 6 [(0, .ref (a 3)), (4, .int x4), (5, .int x5)]) : W p l e { frames := 2, cells := 0, slots := 0, locals := 50 } s m args below meth c H locs 0 0 (MQ below (va_Qi post (xAt (dC, dI) (tyA cyI cyJ cyZ) (wC cyI cyJ cyZ a) A) A) args s 0 0 A) (F0 m 43 ls []) := by
  obtain ⟨hx, hb, hml, hown, hts, hr, hlocks, hK, hE, hA⟩ := id G
  obtain ⟨I, mu, h0, hstep⟩ := h
  suffices hgo : ∀ (n : Nat) (S : CS) (x5 : Int32), I S x5 → mu S x5 < n → ∀ (H : Heap) (locs : List Loc) (ls : Array Slot), va_P (dC, dI) vwCl (wC cyI cyJ cyZ a S) H → va_D A (wC cyI cyJ cyZ a S) → va_S A s.heap H locs → lv_has ls 6 [(0, .ref (a 3)), (4, .int x4), (5, .int x5)] → W p l e { frames := 2, cells := 0, slots := 0, locals := 50 } s m args below meth c H locs 0 0 (MQ below (va_Qi post (xAt (dC, dI) (tyA cyI cyJ cyZ) (wC cyI cyJ cyZ a) A) A) args s 0 0 A) (F0 m 43 ls []) from hgo (mu S x5 + 1) S x5 h0 (Nat.lt_succ_self _) H locs ls hP hD hS hl
  clear h0 hP hD hS hl
  intro n
  induction n with
  | zero => intro S x5 _ h; exact absurd h (Nat.not_lt_zero _)
  | succ n ih =>
    intro S x5 hI hmu H locs ls hP hD hS hl
    have h := hstep S x5 hI
    unfold b_X3_add_43 at h
    have k43 : ∀ (S' : CS) (x5' : Int32) (H : Heap) (locs : List Loc) (ls : Array Slot), (fun S' x5' => I S' x5' ∧ mu S' x5' < mu S x5) S' x5' → va_P (dC, dI) vwCl (wC cyI cyJ cyZ a S') H → va_D A (wC cyI cyJ cyZ a S') → va_S A s.heap H locs → lv_has ls 6 [(0, .ref (a 3)), (4, .int x4), (5, .int x5')] → W p l e { frames := 2, cells := 0, slots := 0, locals := 50 } s m args below meth c H locs 0 0 (MQ below (va_Qi post (xAt (dC, dI) (tyA cyI cyJ cyZ) (wC cyI cyJ cyZ a) A) A) args s 0 0 A) (F0 m 43 ls []) := fun S' x5' H locs ls hh hP hD hS hl => ih S' x5' hh.1 (Nat.lt_of_lt_of_le hh.2 (Nat.le_of_lt_succ hmu)) H locs ls hP hD hS hl
    generalize (fun S' x5' => I S' x5' ∧ mu S' x5' < mu S x5) = g43 at h k43
    refine lv_iload hx hb dX3_add_43 (lv_at hl 2 rfl) ?_
    refine lv_iconst (v := 3) hx hb dX3_add_45 (by decide) ?_
    refine lv_icmp_ge (tgt := 64) hx hb dX3_add_46 (by decide) (fun c9 => ?_) (fun c9 => ?_)
    · have h := h.1 c9
      refine lv_iconst (v := 0) hx hb dX3_add_64 (by decide) ?_
      refine lv_istore (lv' := [(5, .int (0 : Int32)), (0, .ref (a 3)), (4, .int x4)]) hx hb dX3_add_65 hl (by decide) rfl (fun ls hl => ?_)
      exact t_X3_add_67 G h hP hD hS (lv_sub hl [1, 2, 0] rfl)
    · have h := h.2 c9
      refine lv_aload_n hx hb dX3_add_49 rfl (lv_at hl 0 rfl) ?_
      refine lv_iload hx hb dX3_add_50 (lv_at hl 1 rfl) ?_
      refine lv_iload hx hb dX3_add_52 (lv_at hl 2 rfl) ?_
      refine lv_iconst (v := 0) hx hb dX3_add_54 (by decide) ?_
      refine xc_Vv (wf := wC cyI cyJ cyZ a) (wr := []) (isC := [0, 1, 2, 3, 4, 5, 6, 7, 8, 9, 10, 11, 12, 13, 14, 15, 16, 17, 18, 19, 20]) (isR := []) (As := [.int x4, .int x5, .int (0 : Int32)]) (rest := []) ⟨hx, hb, hml, hown, hts⟩ (t_X3_setDelay h) (cwV 3 hts gX3_add_X3_setDelay rfl rfl rfl (by decide +kernel) ⟨Nat.le_of_ble_eq_true rfl, Nat.le_of_ble_eq_true rfl⟩) ⟨hK, hE, hA, hP, hD, hS, rfl, rfl, rfl, rfl, by decide⟩ ⟨3, 3, _, _, rfl, rfl, rfl⟩ rfl rfl hl.1 (Nat.le_of_ble_eq_true rfl) dX3_add_55 ⟨Nat.le_of_ble_eq_true rfl, Nat.le_of_ble_eq_true rfl⟩ (fun  S18 H locs h hP hD hS => ?_)
      have hP : va_P (dC, dI) vwCl (wC cyI cyJ cyZ a S18) H := hP
      have hD : va_D A (wC cyI cyJ cyZ a S18) := hD
      obtain ⟨y19, ey19⟩ : ∃ z : Int32, z = (x5 + (1 : Int32)) := ⟨_, rfl⟩
      have h := h y19 ey19
      refine lv_iinc (v := y19) (lv' := [(5, .int y19), (0, .ref (a 3)), (4, .int x4)]) hx hb dX3_add_58 hl (k := 2) rfl (by rw [ey19]; rfl) (by decide) rfl (fun ls hl => ?_)
      refine lv_goto (tgt := 43) hx hb dX3_add_61 (by decide) ?_
      exact k43 S18 y19 H locs ls h hP hD hS (lv_sub hl [1, 2, 0] rfl)
def p_X3_add (S : CS) (x1 : Int32) (x2 : Int32) (x3 : Int32) (post : Int32 → CS → Prop) : Prop := ∀ y1 : Int32, y1 = (cCC S) → (∀ S2 : CS, S2 = (cCC_s S ((cCC S) + (1 : Int32))) → (vp_in y1 12 ∧ (∀ S4 : CS, S4 = (cPI_s S2 (upd (cPI S2) y1.toNatClampNeg x1)) → (vp_in y1 12 ∧ (∀ S6 : CS, S6 = (cTR_s S4 (upd (cTR S4) y1.toNatClampNeg x2)) → (vp_in y1 12 ∧ (∀ S8 : CS, S8 = (cAR_s S6 (upd (cAR S6) y1.toNatClampNeg x3)) → (p_X3_add_43 S8 y1 (0 : Int32) post))))))))
set_option maxHeartbeats 1000000 in
set_option maxRecDepth 100000 in
theorem t_X3_add {l : Launch} {dC : Nat → ClassId} {dI : Nat → Nat → Nat} {cyI cyJ cyZ : ClassId} {r : Nat → Nat} {a : Nat → Nat} {S : CS} {x1 : Int32} {x2 : Int32} {x3 : Int32} {post : Int32 → CS → Prop} (h : p_X3_add S x1 x2 x3 post) : xMi l yX3_add wsX3_add { frames := 2, cells := 0, slots := 0, locals := 50 } (dC, dI) (tyA cyI cyJ cyZ) r (wC cyI cyJ cyZ a) [.ref (a 3), .int x1, .int x2, .int x3] S post 0 0 := by
  intro sz
  refine Met.ofW (cc := cX3_add) (maxL := 6) (ret := (some .int)) (by decide) rfl ?_
  intro p e s m args below meth c s₁ B hml hv
  obtain ⟨rfl, G, hP, hD, hS⟩ := xG.of rfl B hml hv
  generalize hAe : va_A (wC cyI cyJ cyZ a S) sz = A at G hD hS ⊢
  have G : xG p s m _ meth c cX3_add 6 RX3 (some .int) wsX3_add (dC, dI) (tyA cyI cyJ cyZ) r A := G
  obtain ⟨hx, hb, hml, hown, hts, hr, hlocks, hK, hE, hA⟩ := id G
  have hiX3 : ∀ w ∈ wsX30, w ∈ wsX3_add := by decide +kernel
  have hf25 := hts (.fieldLink RX3 25 "CellMapping$Shelf" "cellCount" "I") (by decide +kernel)
  have hf9 := hts (.fieldLink RX3 9 "CellMapping$Shelf" "pins" "[I") (by decide +kernel)
  have hf13 := hts (.fieldLink RX3 13 "CellMapping$Shelf" "truths" "[I") (by decide +kernel)
  have hf16 := hts (.fieldLink RX3 16 "CellMapping$Shelf" "areas" "[I") (by decide +kernel)
  have hl := lv_entry ([.ref (a 3), .int x1, .int x2, .int x3]) (n := 6) (Nat.le_of_ble_eq_true rfl)
  rw [lg_entry_eq]
  generalize (lg_sl ([.ref (a 3), .int x1, .int x2, .int x3]) ++ List.replicate (6 - (lg_sl ([.ref (a 3), .int x1, .int x2, .int x3])).length) Slot.unset).toArray = ls at hl ⊢
  have hl : lv_has ls 6 [(0, .ref (a 3)), (1, .int x1), (2, .int x2), (3, .int x3)] := hl
  show W p l e { frames := 2, cells := 0, slots := 0, locals := 50 } s m _ below meth c s.heap [] 0 0 _ _
  unfold p_X3_add at h
  refine lv_aload_n hx hb dX3_add_0 rfl (lv_at hl 0 rfl) ?_
  refine va_get (D := (dC, dI)) (ci := 3) (v := .int (cCC S)) (C := RX3) (T := TX3) (N := 6) hx hb hts hiX3 hown hK hP 3 rfl rfl 5 (by decide) hf25 (fun _ h9 => h9) rfl dX3_add_1 ?_
  refine lv_topi (fun y1 ey1 => ?_)
  have h := h y1 ey1
  refine lv_istore (lv' := [(4, .int y1), (0, .ref (a 3)), (1, .int x1), (2, .int x2), (3, .int x3)]) hx hb dX3_add_4 hl (by decide) rfl (fun ls hl => ?_)
  refine lv_aload_n hx hb dX3_add_6 rfl (lv_at hl 1 rfl) ?_
  refine lv_dup hx hb dX3_add_7 rfl ?_
  refine va_get (D := (dC, dI)) (ci := 3) (v := .int (cCC S)) (C := RX3) (T := TX3) (N := 6) hx hb hts hiX3 hown hK hP 3 rfl rfl 5 (by decide) hf25 (fun _ h9 => h9) rfl dX3_add_8 ?_
  refine lv_iconst (v := 1) hx hb dX3_add_11 (by decide) ?_
  refine lv_iadd hx hb dX3_add_12 ?_
  refine va_put (D := (dC, dI)) (ci := 3) (v := .int ((cCC S) + (1 : Int32))) (ty := .int) (C := RX3) (T := TX3) (N := 6) hx hb hts hiX3 tyX3 tyX3_ok nmX3 hown hK hP hD hS 3 rfl rfl 5 (by decide) hf25 (fun _ h9 => h9) rfl (by decide +kernel) rfl rfl (Nat.le_of_ble_eq_true rfl) dX3_add_13 (fun H locs hP hD hS => ?_)
  obtain ⟨S2, eS2⟩ : ∃ z : CS, z = (cCC_s S ((cCC S) + (1 : Int32))) := ⟨_, rfl⟩
  have h := h S2 eS2
  have hP := nP_cCC eS2 hP
  have hD := nD_cCC eS2 hD
  refine lv_aload_n hx hb dX3_add_16 rfl (lv_at hl 1 rfl) ?_
  refine va_get (D := (dC, dI)) (ci := 3) (v := .ref (a 12)) (C := RX3) (T := TX3) (N := 6) hx hb hts hiX3 hown hK hP 3 rfl rfl 0 (by decide) hf9 (fun _ h9 => h9) rfl dX3_add_17 ?_
  refine lv_iload hx hb dX3_add_20 (lv_at hl 0 rfl) ?_
  refine lv_iload_n hx hb dX3_add_22 rfl (lv_at hl 2 rfl) ?_
  obtain ⟨i3, h⟩ := h
  refine va_iast (D := (dC, dI)) hx hb hK hP hD hS 12 0 rfl rfl i3 dX3_add_23 (fun H locs hP hD hS => ?_)
  obtain ⟨S4, eS4⟩ : ∃ z : CS, z = (cPI_s S2 (upd (cPI S2) y1.toNatClampNeg x1)) := ⟨_, rfl⟩
  have h := h S4 eS4
  have hP := nP_cPI eS4 hP
  have hD := nD_cPI eS4 hD
  refine lv_aload_n hx hb dX3_add_24 rfl (lv_at hl 1 rfl) ?_
  refine va_get (D := (dC, dI)) (ci := 3) (v := .ref (a 13)) (C := RX3) (T := TX3) (N := 6) hx hb hts hiX3 hown hK hP 3 rfl rfl 1 (by decide) hf13 (fun _ h9 => h9) rfl dX3_add_25 ?_
  refine lv_iload hx hb dX3_add_28 (lv_at hl 0 rfl) ?_
  refine lv_iload_n hx hb dX3_add_30 rfl (lv_at hl 3 rfl) ?_
  obtain ⟨i5, h⟩ := h
  refine va_iast (D := (dC, dI)) hx hb hK hP hD hS 13 0 rfl rfl i5 dX3_add_31 (fun H locs hP hD hS => ?_)
  obtain ⟨S6, eS6⟩ : ∃ z : CS, z = (cTR_s S4 (upd (cTR S4) y1.toNatClampNeg x2)) := ⟨_, rfl⟩
  have h := h S6 eS6
  have hP := nP_cTR eS6 hP
  have hD := nD_cTR eS6 hD
  refine lv_aload_n hx hb dX3_add_32 rfl (lv_at hl 1 rfl) ?_
  refine va_get (D := (dC, dI)) (ci := 3) (v := .ref (a 14)) (C := RX3) (T := TX3) (N := 6) hx hb hts hiX3 hown hK hP 3 rfl rfl 2 (by decide) hf16 (fun _ h9 => h9) rfl dX3_add_33 ?_
  refine lv_iload hx hb dX3_add_36 (lv_at hl 0 rfl) ?_
  refine lv_iload_n hx hb dX3_add_38 rfl (lv_at hl 4 rfl) ?_
  obtain ⟨i7, h⟩ := h
  refine va_iast (D := (dC, dI)) hx hb hK hP hD hS 14 0 rfl rfl i7 dX3_add_39 (fun H locs hP hD hS => ?_)
  obtain ⟨S8, eS8⟩ : ∃ z : CS, z = (cAR_s S6 (upd (cAR S6) y1.toNatClampNeg x3)) := ⟨_, rfl⟩
  have h := h S8 eS8
  have hP := nP_cAR eS8 hP
  have hD := nD_cAR eS8 hD
  refine lv_iconst (v := 0) hx hb dX3_add_40 (by decide) ?_
  refine lv_istore (lv' := [(5, .int (0 : Int32)), (4, .int y1), (0, .ref (a 3)), (1, .int x1), (2, .int x2), (3, .int x3)]) hx hb dX3_add_41 hl (by decide) rfl (fun ls hl => ?_)
  exact t_X3_add_43 G h hP hD hS (lv_sub hl [2, 1, 0] rfl)
