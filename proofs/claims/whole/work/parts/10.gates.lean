def p_X1_forget (S : CS) (post : CS → Prop) : Prop := ∀ S1 : CS, S1 = (cSE_s S (0 : Int32)) → (post S1)
set_option maxHeartbeats 1000000 in
set_option maxRecDepth 100000 in
theorem t_X1_forget {l : Launch} {dC : Nat → ClassId} {dI : Nat → Nat → Nat} {cyI cyJ cyZ : ClassId} {r : Nat → Nat} {a : Nat → Nat} {S : CS} {post : CS → Prop} (h : p_X1_forget S post) : xMv l yX1_forget wsX1_forget { frames := 0, cells := 0, slots := 0, locals := 0 } (dC, dI) (tyA cyI cyJ cyZ) r (wC cyI cyJ cyZ a) [.ref (a 4)] S post 0 0 := by
  intro sz
  refine Met.ofW (cc := cX1_forget) (maxL := 1) (ret := none) (by decide) rfl ?_
  intro p e s m args below meth c s₁ B hml hv
  obtain ⟨rfl, G, hP, hD, hS⟩ := xG.of rfl B hml hv
  generalize hAe : va_A (wC cyI cyJ cyZ a S) sz = A at G hD hS ⊢
  have G : xG p s m _ meth c cX1_forget 1 RX1 none wsX1_forget (dC, dI) (tyA cyI cyJ cyZ) r A := G
  obtain ⟨hx, hb, hml, hown, hts, hr, hlocks, hK, hE, hA⟩ := id G
  have hiX1 : ∀ w ∈ wsX10, w ∈ wsX1_forget := by decide +kernel
  have hf35 := hts (.fieldLink RX1 35 "CellMapping$Gates" "settled" "I") (by decide +kernel)
  have hl := lv_entry ([.ref (a 4)]) (n := 1) (Nat.le_of_ble_eq_true rfl)
  rw [lg_entry_eq]
  generalize (lg_sl ([.ref (a 4)]) ++ List.replicate (1 - (lg_sl ([.ref (a 4)])).length) Slot.unset).toArray = ls at hl ⊢
  have hl : lv_has ls 1 [(0, .ref (a 4))] := hl
  show W p l e { frames := 0, cells := 0, slots := 0, locals := 0 } s m _ below meth c s.heap [] 0 0 _ _
  unfold p_X1_forget at h
  refine lv_aload_n hx hb dX1_forget_0 rfl (lv_at hl 0 rfl) ?_
  refine lv_iconst (v := 0) hx hb dX1_forget_1 (by decide) ?_
  refine va_put (D := (dC, dI)) (ci := 1) (v := .int (0 : Int32)) (ty := .int) (C := RX1) (T := TX1) (N := 6) hx hb hts hiX1 tyX1 tyX1_ok nmX1 hown hK hP hD hS 4 rfl rfl 5 (by decide) hf35 (fun _ h9 => h9) rfl (by decide +kernel) rfl rfl (Nat.le_of_ble_eq_true rfl) dX1_forget_2 (fun H locs hP hD hS => ?_)
  obtain ⟨S1, eS1⟩ : ∃ z : CS, z = (cSE_s S (0 : Int32)) := ⟨_, rfl⟩
  have h := h S1 eS1
  have hP := nP_cSE eS1 hP
  have hD := nD_cSE eS1 hD
  exact xr_v (S := S1) hx hb hr hlocks hK hP hD hS h (Nat.le_of_ble_eq_true rfl) (Nat.le_of_ble_eq_true rfl) dX1_forget_5
def p_X1_isThere (S : CS) (x1 : Int32) (post : Int32 → Prop) : Prop := vp_in x1 64 ∧ (((lg_cmp ((cGA S) x1.toNatClampNeg) (4611686018427387904 : Int64)) = 0 → (post (0 : Int32))) ∧ (¬ (lg_cmp ((cGA S) x1.toNatClampNeg) (4611686018427387904 : Int64)) = 0 → (post (1 : Int32))))
set_option maxHeartbeats 1000000 in
set_option maxRecDepth 100000 in
theorem t_X1_isThere {l : Launch} {dC : Nat → ClassId} {dI : Nat → Nat → Nat} {cyI cyJ cyZ : ClassId} {r : Nat → Nat} {a : Nat → Nat} {S : CS} {x1 : Int32} {post : Int32 → Prop} (h : p_X1_isThere S x1 post) : xMi l yX1_isThere wsX1_isThere { frames := 0, cells := 0, slots := 0, locals := 0 } (dC, dI) (tyA cyI cyJ cyZ) r (wC cyI cyJ cyZ a) [.ref (a 4), .int x1] S (fun x u => S = u ∧ post x) 0 0 := by
  intro sz
  refine Met.ofW (cc := cX1_isThere) (maxL := 2) (ret := (some .boolean)) (by decide) rfl ?_
  intro p e s m args below meth c s₁ B hml hv
  obtain ⟨rfl, G, hP, hD, hS⟩ := xG.of rfl B hml hv
  generalize hAe : va_A (wC cyI cyJ cyZ a S) sz = A at G hD hS ⊢
  have G : xG p s m _ meth c cX1_isThere 2 RX1 (some .boolean) wsX1_isThere (dC, dI) (tyA cyI cyJ cyZ) r A := G
  obtain ⟨hx, hb, hml, hown, hts, hr, hlocks, hK, hE, hA⟩ := id G
  have hiX1 : ∀ w ∈ wsX10, w ∈ wsX1_isThere := by decide +kernel
  have hf11 := hts (.fieldLink RX1 11 "CellMapping$Gates" "gates" "[J") (by decide +kernel)
  have hl := lv_entry ([.ref (a 4), .int x1]) (n := 2) (Nat.le_of_ble_eq_true rfl)
  rw [lg_entry_eq]
  generalize (lg_sl ([.ref (a 4), .int x1]) ++ List.replicate (2 - (lg_sl ([.ref (a 4), .int x1])).length) Slot.unset).toArray = ls at hl ⊢
  have hl : lv_has ls 2 [(0, .ref (a 4)), (1, .int x1)] := hl
  show W p l e { frames := 0, cells := 0, slots := 0, locals := 0 } s m _ below meth c s.heap [] 0 0 _ _
  unfold p_X1_isThere at h
  refine lv_aload_n hx hb dX1_isThere_0 rfl (lv_at hl 0 rfl) ?_
  refine va_get (D := (dC, dI)) (ci := 1) (v := .ref (a 17)) (C := RX1) (T := TX1) (N := 6) hx hb hts hiX1 hown hK hP 4 rfl rfl 3 (by decide) hf11 (fun _ h9 => h9) rfl dX1_isThere_1 ?_
  refine lv_iload_n hx hb dX1_isThere_4 rfl (lv_at hl 1 rfl) ?_
  obtain ⟨i1, h⟩ := h
  refine va_lald (D := (dC, dI)) hx hb hK hP 17 1 rfl rfl i1 dX1_isThere_5 ?_
  refine lv_ldc2 (v := 4611686018427387904) hx hb hown (hts (.constantLong RX1 46 (4611686018427387904)) (by decide +kernel)) dX1_isThere_6 ?_
  refine W.lcmp hx hb dX1_isThere_9 ?_
  refine lv_if_eq (tgt := 17) hx hb dX1_isThere_10 (by decide) (fun c2 => ?_) (fun c2 => ?_)
  · have h := h.1 c2
    refine lv_iconst (v := 0) hx hb dX1_isThere_17 (by decide) ?_
    exact xr_z (S := S) hx hb hr hlocks hK hP hD hS (by decide) ⟨rfl, h⟩ (Nat.le_of_ble_eq_true rfl) (Nat.le_of_ble_eq_true rfl) dX1_isThere_18
  · have h := h.2 c2
    refine lv_iconst (v := 1) hx hb dX1_isThere_13 (by decide) ?_
    refine lv_goto (tgt := 18) hx hb dX1_isThere_14 (by decide) ?_
    exact xr_z (S := S) hx hb hr hlocks hK hP hD hS (by decide) ⟨rfl, h⟩ (Nat.le_of_ble_eq_true rfl) (Nat.le_of_ble_eq_true rfl) dX1_isThere_18
def p_X1_hasGate (S : CS) (x1 : Int32) (post : Int32 → Prop) : Prop := p_X1_isThere S x1 (fun r1 => (r1 = 0 → (post (0 : Int32))) ∧ (¬ r1 = 0 → (p_X2_isPlainInput S x1 (fun r4 => (¬ r4 = 0 → (post (0 : Int32))) ∧ (r4 = 0 → (post (1 : Int32)))))))
set_option maxHeartbeats 1000000 in
set_option maxRecDepth 100000 in
theorem t_X1_hasGate {l : Launch} {dC : Nat → ClassId} {dI : Nat → Nat → Nat} {cyI cyJ cyZ : ClassId} {r : Nat → Nat} {a : Nat → Nat} {S : CS} {x1 : Int32} {post : Int32 → Prop} (h : p_X1_hasGate S x1 post) : xMi l yX1_hasGate wsX1_hasGate { frames := 2, cells := 0, slots := 0, locals := 42 } (dC, dI) (tyA cyI cyJ cyZ) r (wC cyI cyJ cyZ a) [.ref (a 4), .int x1] S (fun x u => S = u ∧ post x) 0 0 := by
  intro sz
  refine Met.ofW (cc := cX1_hasGate) (maxL := 2) (ret := (some .boolean)) (by decide) rfl ?_
  intro p e s m args below meth c s₁ B hml hv
  obtain ⟨rfl, G, hP, hD, hS⟩ := xG.of rfl B hml hv
  generalize hAe : va_A (wC cyI cyJ cyZ a S) sz = A at G hD hS ⊢
  have G : xG p s m _ meth c cX1_hasGate 2 RX1 (some .boolean) wsX1_hasGate (dC, dI) (tyA cyI cyJ cyZ) r A := G
  obtain ⟨hx, hb, hml, hown, hts, hr, hlocks, hK, hE, hA⟩ := id G
  have hiX1 : ∀ w ∈ wsX10, w ∈ wsX1_hasGate := by decide +kernel
  have hf23 := hts (.fieldLink RX1 23 "CellMapping$Gates" "graph" "LCellMapping$Graph;") (by decide +kernel)
  have hl := lv_entry ([.ref (a 4), .int x1]) (n := 2) (Nat.le_of_ble_eq_true rfl)
  rw [lg_entry_eq]
  generalize (lg_sl ([.ref (a 4), .int x1]) ++ List.replicate (2 - (lg_sl ([.ref (a 4), .int x1])).length) Slot.unset).toArray = ls at hl ⊢
  have hl : lv_has ls 2 [(0, .ref (a 4)), (1, .int x1)] := hl
  show W p l e { frames := 2, cells := 0, slots := 0, locals := 42 } s m _ below meth c s.heap [] 0 0 _ _
  unfold p_X1_hasGate at h
  refine lv_aload_n hx hb dX1_hasGate_0 rfl (lv_at hl 0 rfl) ?_
  refine lv_iload_n hx hb dX1_hasGate_1 rfl (lv_at hl 1 rfl) ?_
  refine xc_Vi (wf := wC cyI cyJ cyZ a) (wr := []) (isC := [0, 1, 2, 3, 4, 5, 6, 7, 8, 9, 10, 11, 12, 13, 14, 15, 16, 17, 18, 19, 20]) (isR := []) (As := [.int x1]) (rest := []) ⟨hx, hb, hml, hown, hts⟩ (t_X1_isThere h) (cwV 1 hts gX1_hasGate_X1_isThere rfl rfl rfl (by decide +kernel) ⟨Nat.le_of_ble_eq_true rfl, Nat.le_of_ble_eq_true rfl⟩) ⟨hK, hE, hA, hP, hD, hS, rfl, rfl, rfl, rfl, by decide⟩ ⟨4, 1, _, _, rfl, rfl, rfl⟩ rfl rfl hl.1 (Nat.le_of_ble_eq_true rfl) dX1_hasGate_2 ⟨Nat.le_of_ble_eq_true rfl, Nat.le_of_ble_eq_true rfl⟩ (fun r1 S2 H locs h hP hD hS => ?_)
  obtain ⟨rfl, h⟩ := h
  have hP : va_P (dC, dI) vwCl (wC cyI cyJ cyZ a S) H := hP
  have hD : va_D A (wC cyI cyJ cyZ a S) := hD
  refine lv_if_eq (tgt := 23) hx hb dX1_hasGate_5 (by decide) (fun c3 => ?_) (fun c3 => ?_)
  · have h := h.1 c3
    refine lv_iconst (v := 0) hx hb dX1_hasGate_23 (by decide) ?_
    exact xr_z (S := S) hx hb hr hlocks hK hP hD hS (by decide) ⟨rfl, h⟩ (Nat.le_of_ble_eq_true rfl) (Nat.le_of_ble_eq_true rfl) dX1_hasGate_24
  · have h := h.2 c3
    refine lv_aload_n hx hb dX1_hasGate_8 rfl (lv_at hl 0 rfl) ?_
    refine va_get (D := (dC, dI)) (ci := 1) (v := .ref (a 1)) (C := RX1) (T := TX1) (N := 6) hx hb hts hiX1 hown hK hP 4 rfl rfl 0 (by decide) hf23 (fun _ h9 => h9) rfl dX1_hasGate_9 ?_
    refine lv_iload_n hx hb dX1_hasGate_12 rfl (lv_at hl 1 rfl) ?_
    refine xc_Vi (wf := wC cyI cyJ cyZ a) (wr := []) (isC := [0, 1, 2, 3, 4, 5, 6, 7, 8, 9, 10, 11, 12, 13, 14, 15, 16, 17, 18, 19, 20]) (isR := []) (As := [.int x1]) (rest := []) ⟨hx, hb, hml, hown, hts⟩ (t_X2_isPlainInput h) (cwV 1 hts gX1_hasGate_X2_isPlainInput rfl rfl rfl (by decide +kernel) ⟨Nat.le_of_ble_eq_true rfl, Nat.le_of_ble_eq_true rfl⟩) ⟨hK, hE, hA, hP, hD, hS, rfl, rfl, rfl, rfl, by decide⟩ ⟨1, 2, _, _, rfl, rfl, rfl⟩ rfl rfl hl.1 (Nat.le_of_ble_eq_true rfl) dX1_hasGate_13 ⟨Nat.le_of_ble_eq_true rfl, Nat.le_of_ble_eq_true rfl⟩ (fun r4 S5 H locs h hP hD hS => ?_)
    obtain ⟨rfl, h⟩ := h
    have hP : va_P (dC, dI) vwCl (wC cyI cyJ cyZ a S) H := hP
    have hD : va_D A (wC cyI cyJ cyZ a S) := hD
    refine lv_if_ne (tgt := 23) hx hb dX1_hasGate_16 (by decide) (fun c6 => ?_) (fun c6 => ?_)
    · have h := h.1 c6
      refine lv_iconst (v := 0) hx hb dX1_hasGate_23 (by decide) ?_
      exact xr_z (S := S) hx hb hr hlocks hK hP hD hS (by decide) ⟨rfl, h⟩ (Nat.le_of_ble_eq_true rfl) (Nat.le_of_ble_eq_true rfl) dX1_hasGate_24
    · have h := h.2 c6
      refine lv_iconst (v := 1) hx hb dX1_hasGate_19 (by decide) ?_
      refine lv_goto (tgt := 24) hx hb dX1_hasGate_20 (by decide) ?_
      exact xr_z (S := S) hx hb hr hlocks hK hP hD hS (by decide) ⟨rfl, h⟩ (Nat.le_of_ble_eq_true rfl) (Nat.le_of_ble_eq_true rfl) dX1_hasGate_24
def p_X1_timeOf (S : CS) (x1 : Int32) (post : Int32 → Prop) : Prop := vp_in x1 64 ∧ (((lg_cmp ((cGA S) x1.toNatClampNeg) (4611686018427387904 : Int64)) = 0 → (post (-1 : Int32))) ∧ (¬ (lg_cmp ((cGA S) x1.toNatClampNeg) (4611686018427387904 : Int64)) = 0 → (vp_in x1 64 ∧ (post ((lshr ((cGA S) x1.toNatClampNeg) (23 : Int32)).toInt32)))))
set_option maxHeartbeats 1000000 in
set_option maxRecDepth 100000 in
theorem t_X1_timeOf {l : Launch} {dC : Nat → ClassId} {dI : Nat → Nat → Nat} {cyI cyJ cyZ : ClassId} {r : Nat → Nat} {a : Nat → Nat} {S : CS} {x1 : Int32} {post : Int32 → Prop} (h : p_X1_timeOf S x1 post) : xMi l yX1_timeOf wsX1_timeOf { frames := 0, cells := 0, slots := 0, locals := 0 } (dC, dI) (tyA cyI cyJ cyZ) r (wC cyI cyJ cyZ a) [.ref (a 4), .int x1] S (fun x u => S = u ∧ post x) 0 0 := by
  intro sz
  refine Met.ofW (cc := cX1_timeOf) (maxL := 2) (ret := (some .int)) (by decide) rfl ?_
  intro p e s m args below meth c s₁ B hml hv
  obtain ⟨rfl, G, hP, hD, hS⟩ := xG.of rfl B hml hv
  generalize hAe : va_A (wC cyI cyJ cyZ a S) sz = A at G hD hS ⊢
  have G : xG p s m _ meth c cX1_timeOf 2 RX1 (some .int) wsX1_timeOf (dC, dI) (tyA cyI cyJ cyZ) r A := G
  obtain ⟨hx, hb, hml, hown, hts, hr, hlocks, hK, hE, hA⟩ := id G
  have hiX1 : ∀ w ∈ wsX10, w ∈ wsX1_timeOf := by decide +kernel
  have hf11 := hts (.fieldLink RX1 11 "CellMapping$Gates" "gates" "[J") (by decide +kernel)
  have hl := lv_entry ([.ref (a 4), .int x1]) (n := 2) (Nat.le_of_ble_eq_true rfl)
  rw [lg_entry_eq]
  generalize (lg_sl ([.ref (a 4), .int x1]) ++ List.replicate (2 - (lg_sl ([.ref (a 4), .int x1])).length) Slot.unset).toArray = ls at hl ⊢
  have hl : lv_has ls 2 [(0, .ref (a 4)), (1, .int x1)] := hl
  show W p l e { frames := 0, cells := 0, slots := 0, locals := 0 } s m _ below meth c s.heap [] 0 0 _ _
  unfold p_X1_timeOf at h
  refine lv_aload_n hx hb dX1_timeOf_0 rfl (lv_at hl 0 rfl) ?_
  refine va_get (D := (dC, dI)) (ci := 1) (v := .ref (a 17)) (C := RX1) (T := TX1) (N := 6) hx hb hts hiX1 hown hK hP 4 rfl rfl 3 (by decide) hf11 (fun _ h9 => h9) rfl dX1_timeOf_1 ?_
  refine lv_iload_n hx hb dX1_timeOf_4 rfl (lv_at hl 1 rfl) ?_
  obtain ⟨i1, h⟩ := h
  refine va_lald (D := (dC, dI)) hx hb hK hP 17 1 rfl rfl i1 dX1_timeOf_5 ?_
  refine lv_ldc2 (v := 4611686018427387904) hx hb hown (hts (.constantLong RX1 46 (4611686018427387904)) (by decide +kernel)) dX1_timeOf_6 ?_
  refine W.lcmp hx hb dX1_timeOf_9 ?_
  refine lv_if_eq (tgt := 26) hx hb dX1_timeOf_10 (by decide) (fun c2 => ?_) (fun c2 => ?_)
  · have h := h.1 c2
    refine lv_iconst (v := -1) hx hb dX1_timeOf_26 (by decide) ?_
    exact xr_i (S := S) hx hb hr hlocks hK hP hD hS ⟨rfl, h⟩ (Nat.le_of_ble_eq_true rfl) (Nat.le_of_ble_eq_true rfl) dX1_timeOf_27
  · have h := h.2 c2
    refine lv_aload_n hx hb dX1_timeOf_13 rfl (lv_at hl 0 rfl) ?_
    refine va_get (D := (dC, dI)) (ci := 1) (v := .ref (a 17)) (C := RX1) (T := TX1) (N := 6) hx hb hts hiX1 hown hK hP 4 rfl rfl 3 (by decide) hf11 (fun _ h9 => h9) rfl dX1_timeOf_14 ?_
    refine lv_iload_n hx hb dX1_timeOf_17 rfl (lv_at hl 1 rfl) ?_
    obtain ⟨i3, h⟩ := h
    refine va_lald (D := (dC, dI)) hx hb hK hP 17 1 rfl rfl i3 dX1_timeOf_18 ?_
    refine lv_bipush (v := 23) hx hb dX1_timeOf_19 (by decide) ?_
    refine lv_lshr (v := (lshr ((cGA S) x1.toNatClampNeg) (23 : Int32))) hx hb dX1_timeOf_21 rfl ?_
    refine lv_l2i (v := (lshr ((cGA S) x1.toNatClampNeg) (23 : Int32)).toInt32) hx hb dX1_timeOf_22 rfl ?_
    refine lv_goto (tgt := 27) hx hb dX1_timeOf_23 (by decide) ?_
    exact xr_i (S := S) hx hb hr hlocks hK hP hD hS ⟨rfl, h⟩ (Nat.le_of_ble_eq_true rfl) (Nat.le_of_ble_eq_true rfl) dX1_timeOf_27
def p_X1_cellOf (S : CS) (x1 : Int32) (post : Int32 → Prop) : Prop := vp_in x1 64 ∧ (post (((lshr ((cGA S) x1.toNatClampNeg) (18 : Int32)).toInt32) &&& (15 : Int32)))
set_option maxHeartbeats 1000000 in
set_option maxRecDepth 100000 in
theorem t_X1_cellOf {l : Launch} {dC : Nat → ClassId} {dI : Nat → Nat → Nat} {cyI cyJ cyZ : ClassId} {r : Nat → Nat} {a : Nat → Nat} {S : CS} {x1 : Int32} {post : Int32 → Prop} (h : p_X1_cellOf S x1 post) : xMi l yX1_cellOf wsX1_cellOf { frames := 0, cells := 0, slots := 0, locals := 0 } (dC, dI) (tyA cyI cyJ cyZ) r (wC cyI cyJ cyZ a) [.ref (a 4), .int x1] S (fun x u => S = u ∧ post x) 0 0 := by
  intro sz
  refine Met.ofW (cc := cX1_cellOf) (maxL := 2) (ret := (some .int)) (by decide) rfl ?_
  intro p e s m args below meth c s₁ B hml hv
  obtain ⟨rfl, G, hP, hD, hS⟩ := xG.of rfl B hml hv
  generalize hAe : va_A (wC cyI cyJ cyZ a S) sz = A at G hD hS ⊢
  have G : xG p s m _ meth c cX1_cellOf 2 RX1 (some .int) wsX1_cellOf (dC, dI) (tyA cyI cyJ cyZ) r A := G
  obtain ⟨hx, hb, hml, hown, hts, hr, hlocks, hK, hE, hA⟩ := id G
  have hiX1 : ∀ w ∈ wsX10, w ∈ wsX1_cellOf := by decide +kernel
  have hf11 := hts (.fieldLink RX1 11 "CellMapping$Gates" "gates" "[J") (by decide +kernel)
  have hl := lv_entry ([.ref (a 4), .int x1]) (n := 2) (Nat.le_of_ble_eq_true rfl)
  rw [lg_entry_eq]
  generalize (lg_sl ([.ref (a 4), .int x1]) ++ List.replicate (2 - (lg_sl ([.ref (a 4), .int x1])).length) Slot.unset).toArray = ls at hl ⊢
  have hl : lv_has ls 2 [(0, .ref (a 4)), (1, .int x1)] := hl
  show W p l e { frames := 0, cells := 0, slots := 0, locals := 0 } s m _ below meth c s.heap [] 0 0 _ _
  unfold p_X1_cellOf at h
  refine lv_aload_n hx hb dX1_cellOf_0 rfl (lv_at hl 0 rfl) ?_
  refine va_get (D := (dC, dI)) (ci := 1) (v := .ref (a 17)) (C := RX1) (T := TX1) (N := 6) hx hb hts hiX1 hown hK hP 4 rfl rfl 3 (by decide) hf11 (fun _ h9 => h9) rfl dX1_cellOf_1 ?_
  refine lv_iload_n hx hb dX1_cellOf_4 rfl (lv_at hl 1 rfl) ?_
  obtain ⟨i1, h⟩ := h
  refine va_lald (D := (dC, dI)) hx hb hK hP 17 1 rfl rfl i1 dX1_cellOf_5 ?_
  refine lv_bipush (v := 18) hx hb dX1_cellOf_6 (by decide) ?_
  refine lv_lshr (v := (lshr ((cGA S) x1.toNatClampNeg) (18 : Int32))) hx hb dX1_cellOf_8 rfl ?_
  refine lv_l2i (v := (lshr ((cGA S) x1.toNatClampNeg) (18 : Int32)).toInt32) hx hb dX1_cellOf_9 rfl ?_
  refine lv_bipush (v := 15) hx hb dX1_cellOf_10 (by decide) ?_
  refine lv_iand hx hb dX1_cellOf_12 ?_
  exact xr_i (S := S) hx hb hr hlocks hK hP hD hS ⟨rfl, h⟩ (Nat.le_of_ble_eq_true rfl) (Nat.le_of_ble_eq_true rfl) dX1_cellOf_13
def p_X1_pinShift (S : CS) (x0 : Int32) (post : Int32 → Prop) : Prop := post (((2 : Int32) - x0) * (6 : Int32))
set_option maxHeartbeats 1000000 in
set_option maxRecDepth 100000 in
theorem t_X1_pinShift {l : Launch} {dC : Nat → ClassId} {dI : Nat → Nat → Nat} {cyI cyJ cyZ : ClassId} {r : Nat → Nat} {a : Nat → Nat} {S : CS} {x0 : Int32} {post : Int32 → Prop} (h : p_X1_pinShift S x0 post) : xMi l yX1_pinShift wsX1_pinShift { frames := 0, cells := 0, slots := 0, locals := 0 } (dC, dI) (tyA cyI cyJ cyZ) r (wC cyI cyJ cyZ a) [.int x0] S (fun x u => S = u ∧ post x) 0 0 := by
  intro sz
  refine Met.ofW (cc := cX1_pinShift) (maxL := 1) (ret := (some .int)) (by decide) rfl ?_
  intro p e s m args below meth c s₁ B hml hv
  obtain ⟨rfl, G, hP, hD, hS⟩ := xG.of rfl B hml hv
  generalize hAe : va_A (wC cyI cyJ cyZ a S) sz = A at G hD hS ⊢
  have G : xG p s m _ meth c cX1_pinShift 1 RX1 (some .int) wsX1_pinShift (dC, dI) (tyA cyI cyJ cyZ) r A := G
  obtain ⟨hx, hb, hml, hown, hts, hr, hlocks, hK, hE, hA⟩ := id G
  have hl := lv_entry ([.int x0]) (n := 1) (Nat.le_of_ble_eq_true rfl)
  rw [lg_entry_eq]
  generalize (lg_sl ([.int x0]) ++ List.replicate (1 - (lg_sl ([.int x0])).length) Slot.unset).toArray = ls at hl ⊢
  have hl : lv_has ls 1 [(0, .int x0)] := hl
  show W p l e { frames := 0, cells := 0, slots := 0, locals := 0 } s m _ below meth c s.heap [] 0 0 _ _
  unfold p_X1_pinShift at h
  refine lv_iconst (v := 2) hx hb dX1_pinShift_0 (by decide) ?_
  refine lv_iload_n hx hb dX1_pinShift_1 rfl (lv_at hl 0 rfl) ?_
  refine lv_isub hx hb dX1_pinShift_2 ?_
  refine lv_bipush (v := 6) hx hb dX1_pinShift_3 (by decide) ?_
  refine lv_imul hx hb dX1_pinShift_5 ?_
  exact xr_i (S := S) hx hb hr hlocks hK hP hD hS ⟨rfl, h⟩ (Nat.le_of_ble_eq_true rfl) (Nat.le_of_ble_eq_true rfl) dX1_pinShift_6
def p_X1_pinLiteral (S : CS) (x1 : Int32) (x2 : Int32) (post : Int32 → Prop) : Prop := vp_in x1 64 ∧ (p_X1_pinShift S x2 (fun r2 => post (((lshr ((cGA S) x1.toNatClampNeg) r2).toInt32) &&& (63 : Int32))))
set_option maxHeartbeats 1000000 in
set_option maxRecDepth 100000 in
theorem t_X1_pinLiteral {l : Launch} {dC : Nat → ClassId} {dI : Nat → Nat → Nat} {cyI cyJ cyZ : ClassId} {r : Nat → Nat} {a : Nat → Nat} {S : CS} {x1 : Int32} {x2 : Int32} {post : Int32 → Prop} (h : p_X1_pinLiteral S x1 x2 post) : xMi l yX1_pinLiteral wsX1_pinLiteral { frames := 1, cells := 0, slots := 0, locals := 20 } (dC, dI) (tyA cyI cyJ cyZ) r (wC cyI cyJ cyZ a) [.ref (a 4), .int x1, .int x2] S (fun x u => S = u ∧ post x) 0 0 := by
  intro sz
  refine Met.ofW (cc := cX1_pinLiteral) (maxL := 3) (ret := (some .int)) (by decide) rfl ?_
  intro p e s m args below meth c s₁ B hml hv
  obtain ⟨rfl, G, hP, hD, hS⟩ := xG.of rfl B hml hv
  generalize hAe : va_A (wC cyI cyJ cyZ a S) sz = A at G hD hS ⊢
  have G : xG p s m _ meth c cX1_pinLiteral 3 RX1 (some .int) wsX1_pinLiteral (dC, dI) (tyA cyI cyJ cyZ) r A := G
  obtain ⟨hx, hb, hml, hown, hts, hr, hlocks, hK, hE, hA⟩ := id G
  have hiX1 : ∀ w ∈ wsX10, w ∈ wsX1_pinLiteral := by decide +kernel
  have hf11 := hts (.fieldLink RX1 11 "CellMapping$Gates" "gates" "[J") (by decide +kernel)
  have hl := lv_entry ([.ref (a 4), .int x1, .int x2]) (n := 3) (Nat.le_of_ble_eq_true rfl)
  rw [lg_entry_eq]
  generalize (lg_sl ([.ref (a 4), .int x1, .int x2]) ++ List.replicate (3 - (lg_sl ([.ref (a 4), .int x1, .int x2])).length) Slot.unset).toArray = ls at hl ⊢
  have hl : lv_has ls 3 [(0, .ref (a 4)), (1, .int x1), (2, .int x2)] := hl
  show W p l e { frames := 1, cells := 0, slots := 0, locals := 20 } s m _ below meth c s.heap [] 0 0 _ _
  unfold p_X1_pinLiteral at h
  refine lv_aload_n hx hb dX1_pinLiteral_0 rfl (lv_at hl 0 rfl) ?_
  refine va_get (D := (dC, dI)) (ci := 1) (v := .ref (a 17)) (C := RX1) (T := TX1) (N := 6) hx hb hts hiX1 hown hK hP 4 rfl rfl 3 (by decide) hf11 (fun _ h9 => h9) rfl dX1_pinLiteral_1 ?_
  refine lv_iload_n hx hb dX1_pinLiteral_4 rfl (lv_at hl 1 rfl) ?_
  obtain ⟨i1, h⟩ := h
  refine va_lald (D := (dC, dI)) hx hb hK hP 17 1 rfl rfl i1 dX1_pinLiteral_5 ?_
  refine lv_iload_n hx hb dX1_pinLiteral_6 rfl (lv_at hl 2 rfl) ?_
  refine xc_Si (wf := wC cyI cyJ cyZ a) (wr := []) (isC := [0, 1, 2, 3, 4, 5, 6, 7, 8, 9, 10, 11, 12, 13, 14, 15, 16, 17, 18, 19, 20]) (isR := []) (As := [.int x2]) (rest := [.long ((cGA S) x1.toNatClampNeg)]) ⟨hx, hb, hml, hown, hts⟩ (t_X1_pinShift h) (va_cwS 1 hts gX1_pinLiteral_X1_pinShift rfl rfl rfl (by decide +kernel) ⟨Nat.le_of_ble_eq_true rfl, Nat.le_of_ble_eq_true rfl⟩) ⟨hK, hE, hA, hP, hD, hS, rfl, rfl, rfl, rfl, by decide⟩ rfl rfl hl.1 (Nat.le_of_ble_eq_true rfl) dX1_pinLiteral_7 ⟨Nat.le_of_ble_eq_true rfl, Nat.le_of_ble_eq_true rfl⟩ (fun r2 S3 H locs h hP hD hS => ?_)
  obtain ⟨rfl, h⟩ := h
  have hP : va_P (dC, dI) vwCl (wC cyI cyJ cyZ a S) H := hP
  have hD : va_D A (wC cyI cyJ cyZ a S) := hD
  refine lv_lshr (v := (lshr ((cGA S) x1.toNatClampNeg) r2)) hx hb dX1_pinLiteral_10 rfl ?_
  refine lv_l2i (v := (lshr ((cGA S) x1.toNatClampNeg) r2).toInt32) hx hb dX1_pinLiteral_11 rfl ?_
  refine lv_bipush (v := 63) hx hb dX1_pinLiteral_12 (by decide) ?_
  refine lv_iand hx hb dX1_pinLiteral_14 ?_
  exact xr_i (S := S) hx hb hr hlocks hK hP hD hS ⟨rfl, h⟩ (Nat.le_of_ble_eq_true rfl) (Nat.le_of_ble_eq_true rfl) dX1_pinLiteral_15
def p_X1_offer (S : CS) (x1 : Int32) (x2 : Int32) (x3 : Int64) (x5 : Int32) (post : CS → Prop) : Prop := ∀ y1 : Int64, y1 = (((lshl (x2.toInt64) (23 : Int32)) ||| (lshl (x5.toInt64) (18 : Int32))) ||| x3) → (vp_in x1 64 ∧ ((0 ≤ (lg_cmp y1 ((cGA S) x1.toNatClampNeg)) → (post S)) ∧ (¬ 0 ≤ (lg_cmp y1 ((cGA S) x1.toNatClampNeg)) → (vp_in x1 64 ∧ (∀ S5 : CS, S5 = (cGA_s S (vp_updL (cGA S) x1.toNatClampNeg y1)) → (post S5))))))
set_option maxHeartbeats 1000000 in
set_option maxRecDepth 100000 in
theorem t_X1_offer {l : Launch} {dC : Nat → ClassId} {dI : Nat → Nat → Nat} {cyI cyJ cyZ : ClassId} {r : Nat → Nat} {a : Nat → Nat} {S : CS} {x1 : Int32} {x2 : Int32} {x3 : Int64} {x5 : Int32} {post : CS → Prop} (h : p_X1_offer S x1 x2 x3 x5 post) : xMv l yX1_offer wsX1_offer { frames := 0, cells := 0, slots := 0, locals := 0 } (dC, dI) (tyA cyI cyJ cyZ) r (wC cyI cyJ cyZ a) [.ref (a 4), .int x1, .int x2, .long x3, .int x5] S post 0 0 := by
  intro sz
  refine Met.ofW (cc := cX1_offer) (maxL := 8) (ret := none) (by decide) rfl ?_
  intro p e s m args below meth c s₁ B hml hv
  obtain ⟨rfl, G, hP, hD, hS⟩ := xG.of rfl B hml hv
  generalize hAe : va_A (wC cyI cyJ cyZ a S) sz = A at G hD hS ⊢
  have G : xG p s m _ meth c cX1_offer 8 RX1 none wsX1_offer (dC, dI) (tyA cyI cyJ cyZ) r A := G
  obtain ⟨hx, hb, hml, hown, hts, hr, hlocks, hK, hE, hA⟩ := id G
  have hiX1 : ∀ w ∈ wsX10, w ∈ wsX1_offer := by decide +kernel
  have hf11 := hts (.fieldLink RX1 11 "CellMapping$Gates" "gates" "[J") (by decide +kernel)
  have hl := lv_entry ([.ref (a 4), .int x1, .int x2, .long x3, .int x5]) (n := 8) (Nat.le_of_ble_eq_true rfl)
  rw [lg_entry_eq]
  generalize (lg_sl ([.ref (a 4), .int x1, .int x2, .long x3, .int x5]) ++ List.replicate (8 - (lg_sl ([.ref (a 4), .int x1, .int x2, .long x3, .int x5])).length) Slot.unset).toArray = ls at hl ⊢
  have hl : lv_has ls 8 [(0, .ref (a 4)), (1, .int x1), (2, .int x2), (3, .long x3), (5, .int x5)] := hl
  show W p l e { frames := 0, cells := 0, slots := 0, locals := 0 } s m _ below meth c s.heap [] 0 0 _ _
  unfold p_X1_offer at h
  refine lv_iload_n hx hb dX1_offer_0 rfl (lv_at hl 2 rfl) ?_
  refine lv_i2l (v := x2.toInt64) hx hb dX1_offer_1 rfl ?_
  refine lv_bipush (v := 23) hx hb dX1_offer_2 (by decide) ?_
  refine lv_lshl (v := (lshl (x2.toInt64) (23 : Int32))) hx hb dX1_offer_4 rfl ?_
  refine lv_iload hx hb dX1_offer_5 (lv_at hl 4 rfl) ?_
  refine lv_i2l (v := x5.toInt64) hx hb dX1_offer_7 rfl ?_
  refine lv_bipush (v := 18) hx hb dX1_offer_8 (by decide) ?_
  refine lv_lshl (v := (lshl (x5.toInt64) (18 : Int32))) hx hb dX1_offer_10 rfl ?_
  refine lv_lor hx hb dX1_offer_11 ?_
  refine lv_lload_n hx hb dX1_offer_12 rfl (lv_at hl 3 rfl) ?_
  refine lv_lor hx hb dX1_offer_13 ?_
  refine lv_topl (fun y1 ey1 => ?_)
  have h := h y1 ey1
  refine lv_lstore (lv' := [(6, .long y1), (0, .ref (a 4)), (1, .int x1), (2, .int x2), (3, .long x3), (5, .int x5)]) hx hb dX1_offer_14 hl (by decide) rfl (fun ls hl => ?_)
  refine lv_lload hx hb dX1_offer_16 (lv_at hl 0 rfl) ?_
  refine lv_aload_n hx hb dX1_offer_18 rfl (lv_at hl 1 rfl) ?_
  refine va_get (D := (dC, dI)) (ci := 1) (v := .ref (a 17)) (C := RX1) (T := TX1) (N := 6) hx hb hts hiX1 hown hK hP 4 rfl rfl 3 (by decide) hf11 (fun _ h9 => h9) rfl dX1_offer_19 ?_
  refine lv_iload_n hx hb dX1_offer_22 rfl (lv_at hl 2 rfl) ?_
  obtain ⟨i2, h⟩ := h
  refine va_lald (D := (dC, dI)) hx hb hK hP 17 1 rfl rfl i2 dX1_offer_23 ?_
  refine W.lcmp hx hb dX1_offer_24 ?_
  refine lv_if_ge (tgt := 36) hx hb dX1_offer_25 (by decide) (fun c3 => ?_) (fun c3 => ?_)
  · have h := h.1 c3
    exact xr_v (S := S) hx hb hr hlocks hK hP hD hS h (Nat.le_of_ble_eq_true rfl) (Nat.le_of_ble_eq_true rfl) dX1_offer_36
  · have h := h.2 c3
    refine lv_aload_n hx hb dX1_offer_28 rfl (lv_at hl 1 rfl) ?_
    refine va_get (D := (dC, dI)) (ci := 1) (v := .ref (a 17)) (C := RX1) (T := TX1) (N := 6) hx hb hts hiX1 hown hK hP 4 rfl rfl 3 (by decide) hf11 (fun _ h9 => h9) rfl dX1_offer_29 ?_
    refine lv_iload_n hx hb dX1_offer_32 rfl (lv_at hl 2 rfl) ?_
    refine lv_lload hx hb dX1_offer_33 (lv_at hl 0 rfl) ?_
    obtain ⟨i4, h⟩ := h
    refine va_last (D := (dC, dI)) hx hb hK hP hD hS 17 1 rfl rfl i4 dX1_offer_35 (fun H locs hP hD hS => ?_)
    obtain ⟨S5, eS5⟩ : ∃ z : CS, z = (cGA_s S (vp_updL (cGA S) x1.toNatClampNeg y1)) := ⟨_, rfl⟩
    have h := h S5 eS5
    have hP := nP_cGA eS5 hP
    have hD := nD_cGA eS5 hD
    exact xr_v (S := S5) hx hb hr hlocks hK hP hD hS h (Nat.le_of_ble_eq_true rfl) (Nat.le_of_ble_eq_true rfl) dX1_offer_36
def b_X1_fitArrangement_9 (S : CS) (x1 : Int32) (x2 : Int32) (x3 : Int32) (post : CS → Prop) (g9 : Int32 → Int64 → Int32 → Prop) (x4 : Int32) (x5 : Int64) (x7 : Int32) : Prop := vp_in x2 12 ∧ ((((cPI S) x2.toNatClampNeg) ≤ x7 → (p_X1_offer S x1 x4 x5 x2 (fun S3 => post S3))) ∧ (¬ ((cPI S) x2.toNatClampNeg) ≤ x7 → (p_X3_leafAt S x2 x3 x7 (fun r4 => vp_in r4 3 ∧ (∀ y7 : Int32, y7 = ((cLN S) r4.toNatClampNeg) → (p_X3_turnAt S x3 x7 (fun r8 => ∀ y10 : Int32, y10 = (((2 : Int32) * y7) + r8) → (p_X1_timeOf S y10 (fun r11 => (¬ r11 = (-1 : Int32) → (p_X3_delayAt S x2 x7 (fun r14 => ∀ y16 : Int32, y16 = (if x4 < (r11 + r14) then (r11 + r14) else x4) → (p_X1_pinShift S x7 (fun r17 => ∀ y19 : Int64, y19 = (x5 ||| (lshl (y10.toInt64) r17)) → (∀ y20 : Int32, y20 = (x7 + (1 : Int32)) → (g9 y16 y19 y20))))))) ∧ (r11 = (-1 : Int32) → (post S)))))))))))
def p_X1_fitArrangement_9 (S : CS) (x1 : Int32) (x2 : Int32) (x3 : Int32) (x4 : Int32) (x5 : Int64) (x7 : Int32) (post : CS → Prop) : Prop := ∃ (I : Int32 → Int64 → Int32 → Prop) (mu : Int32 → Int64 → Int32 → Nat), I x4 x5 x7 ∧ ∀ (x4 : Int32) (x5 : Int64) (x7 : Int32), I x4 x5 x7 → b_X1_fitArrangement_9 S x1 x2 x3 post (fun x4' x5' x7' => I x4' x5' x7' ∧ mu x4' x5' x7' < mu x4 x5 x7) x4 x5 x7
set_option maxHeartbeats 1000000 in
set_option maxRecDepth 100000 in
theorem t_X1_fitArrangement_9 {p : Program} {l : Launch} {e : Env} {s : State} {m : MethodId} {args : Array Value} {below : List Frame} {meth : Method} {c : Code} {dC : Nat → ClassId} {dI : Nat → Nat → Nat} {cyI cyJ cyZ : ClassId} {r : Nat → Nat} {a : Nat → Nat} {A : Nat → Prop} {S : CS} {x1 : Int32} {x2 : Int32} {x3 : Int32} {x4 : Int32} {x5 : Int64} {x7 : Int32} {post : CS → Prop} (G : xG p s m args meth c cX1_fitArrangement 11 RX1 none wsX1_fitArrangement (dC, dI) (tyA cyI cyJ cyZ) r A) (h : p_X1_fitArrangement_9 S x1 x2 x3 x4 x5 x7 post) {H : Heap} {locs : List Loc} {ls : Array Slot} (hP : va_P (dC, dI) vwCl (wC cyI cyJ cyZ a S) H) (hD : va_D A (wC cyI cyJ cyZ a S)) (hS : va_S A s.heap H locs) (hl : lv_has ls 11 [(0, .ref (a 4)), (1, .int x1), (2, .int x2), (3, .int x3), (4, .int x4), (5, .long x5), (7, .int x7)]) : W p l e { frames := 1, cells := 0, slots := 0, locals := 30 } s m args below meth c H locs 0 0 (MQ below (va_Qv post (xAt (dC, dI) (tyA cyI cyJ cyZ) (wC cyI cyJ cyZ a) A) A) args s 0 0 A) (F0 m 9 ls []) := by
  obtain ⟨hx, hb, hml, hown, hts, hr, hlocks, hK, hE, hA⟩ := id G
  have hiX1 : ∀ w ∈ wsX10, w ∈ wsX1_fitArrangement := by decide +kernel
  have hf31 := hts (.fieldLink RX1 31 "CellMapping$Gates" "shelf" "LCellMapping$Shelf;") (by decide +kernel)
  have hiX3 : ∀ w ∈ wsX30, w ∈ wsX1_fitArrangement := by decide +kernel
  have hf75 := hts (.fieldLink RX1 75 "CellMapping$Shelf" "pins" "[I") (by decide +kernel)
  have hf19 := hts (.fieldLink RX1 19 "CellMapping$Gates" "leafNodes" "[I") (by decide +kernel)
  obtain ⟨I, mu, h0, hstep⟩ := h
  suffices hgo : ∀ (n : Nat) (x4 : Int32) (x5 : Int64) (x7 : Int32), I x4 x5 x7 → mu x4 x5 x7 < n → ∀ (H : Heap) (locs : List Loc) (ls : Array Slot), va_P (dC, dI) vwCl (wC cyI cyJ cyZ a S) H → va_D A (wC cyI cyJ cyZ a S) → va_S A s.heap H locs → lv_has ls 11 [(0, .ref (a 4)), (1, .int x1), (2, .int x2), (3, .int x3), (4, .int x4), (5, .long x5), (7, .int x7)] → W p l e { frames := 1, cells := 0, slots := 0, locals := 30 } s m args below meth c H locs 0 0 (MQ below (va_Qv post (xAt (dC, dI) (tyA cyI cyJ cyZ) (wC cyI cyJ cyZ a) A) A) args s 0 0 A) (F0 m 9 ls []) from hgo (mu x4 x5 x7 + 1) x4 x5 x7 h0 (Nat.lt_succ_self _) H locs ls hP hD hS hl
  clear h0 hP hD hS hl
  intro n
  induction n with
  | zero => intro x4 x5 x7 _ h; exact absurd h (Nat.not_lt_zero _)
  | succ n ih =>
    intro x4 x5 x7 hI hmu H locs ls hP hD hS hl
    have h := hstep x4 x5 x7 hI
    unfold b_X1_fitArrangement_9 at h
    have k9 : ∀ (x4' : Int32) (x5' : Int64) (x7' : Int32) (H : Heap) (locs : List Loc) (ls : Array Slot), (fun x4' x5' x7' => I x4' x5' x7' ∧ mu x4' x5' x7' < mu x4 x5 x7) x4' x5' x7' → va_P (dC, dI) vwCl (wC cyI cyJ cyZ a S) H → va_D A (wC cyI cyJ cyZ a S) → va_S A s.heap H locs → lv_has ls 11 [(0, .ref (a 4)), (1, .int x1), (2, .int x2), (3, .int x3), (4, .int x4'), (5, .long x5'), (7, .int x7')] → W p l e { frames := 1, cells := 0, slots := 0, locals := 30 } s m args below meth c H locs 0 0 (MQ below (va_Qv post (xAt (dC, dI) (tyA cyI cyJ cyZ) (wC cyI cyJ cyZ a) A) A) args s 0 0 A) (F0 m 9 ls []) := fun x4' x5' x7' H locs ls hh hP hD hS hl => ih x4' x5' x7' hh.1 (Nat.lt_of_lt_of_le hh.2 (Nat.le_of_lt_succ hmu)) H locs ls hP hD hS hl
    generalize (fun x4' x5' x7' => I x4' x5' x7' ∧ mu x4' x5' x7' < mu x4 x5 x7) = g9 at h k9
    refine lv_iload hx hb dX1_fitArrangement_9 (lv_at hl 6 rfl) ?_
    refine lv_aload_n hx hb dX1_fitArrangement_11 rfl (lv_at hl 0 rfl) ?_
    refine va_get (D := (dC, dI)) (ci := 1) (v := .ref (a 3)) (C := RX1) (T := TX1) (N := 6) hx hb hts hiX1 hown hK hP 4 rfl rfl 2 (by decide) hf31 (fun _ h9 => h9) rfl dX1_fitArrangement_12 ?_
    refine va_get (D := (dC, dI)) (ci := 3) (v := .ref (a 12)) (C := RX3) (T := TX3) (N := 6) hx hb hts hiX3 hown hK hP 3 rfl rfl 0 (by decide) hf75 (fun _ h9 => h9) rfl dX1_fitArrangement_15 ?_
    refine lv_iload_n hx hb dX1_fitArrangement_18 rfl (lv_at hl 2 rfl) ?_
    obtain ⟨i1, h⟩ := h
    refine va_iald (D := (dC, dI)) hx hb hK hP 12 0 rfl rfl i1 dX1_fitArrangement_19 ?_
    refine lv_icmp_ge (tgt := 113) hx hb dX1_fitArrangement_20 (by decide) (fun c2 => ?_) (fun c2 => ?_)
    · have h := h.1 c2
      refine lv_aload_n hx hb dX1_fitArrangement_113 rfl (lv_at hl 0 rfl) ?_
      refine lv_iload_n hx hb dX1_fitArrangement_114 rfl (lv_at hl 1 rfl) ?_
      refine lv_iload hx hb dX1_fitArrangement_115 (lv_at hl 4 rfl) ?_
      refine lv_lload hx hb dX1_fitArrangement_117 (lv_at hl 5 rfl) ?_
      refine lv_iload_n hx hb dX1_fitArrangement_119 rfl (lv_at hl 2 rfl) ?_
      refine xc_Vv (wf := wC cyI cyJ cyZ a) (wr := []) (isC := [0, 1, 2, 3, 4, 5, 6, 7, 8, 9, 10, 11, 12, 13, 14, 15, 16, 17, 18, 19, 20]) (isR := []) (As := [.int x1, .int x4, .long x5, .int x2]) (rest := []) ⟨hx, hb, hml, hown, hts⟩ (t_X1_offer h) (cwV 4 hts gX1_fitArrangement_X1_offer rfl rfl rfl (by decide +kernel) ⟨Nat.le_of_ble_eq_true rfl, Nat.le_of_ble_eq_true rfl⟩) ⟨hK, hE, hA, hP, hD, hS, rfl, rfl, rfl, rfl, by decide⟩ ⟨4, 1, _, _, rfl, rfl, rfl⟩ rfl rfl hl.1 (Nat.le_of_ble_eq_true rfl) dX1_fitArrangement_120 ⟨Nat.le_of_ble_eq_true rfl, Nat.le_of_ble_eq_true rfl⟩ (fun  S3 H locs h hP hD hS => ?_)
      have hP : va_P (dC, dI) vwCl (wC cyI cyJ cyZ a S3) H := hP
      have hD : va_D A (wC cyI cyJ cyZ a S3) := hD
      exact xr_v (S := S3) hx hb hr hlocks hK hP hD hS h (Nat.le_of_ble_eq_true rfl) (Nat.le_of_ble_eq_true rfl) dX1_fitArrangement_123
    · have h := h.2 c2
      refine lv_aload_n hx hb dX1_fitArrangement_23 rfl (lv_at hl 0 rfl) ?_
      refine va_get (D := (dC, dI)) (ci := 1) (v := .ref (a 18)) (C := RX1) (T := TX1) (N := 6) hx hb hts hiX1 hown hK hP 4 rfl rfl 4 (by decide) hf19 (fun _ h9 => h9) rfl dX1_fitArrangement_24 ?_
      refine lv_aload_n hx hb dX1_fitArrangement_27 rfl (lv_at hl 0 rfl) ?_
      refine va_get (D := (dC, dI)) (ci := 1) (v := .ref (a 3)) (C := RX1) (T := TX1) (N := 6) hx hb hts hiX1 hown hK hP 4 rfl rfl 2 (by decide) hf31 (fun _ h9 => h9) rfl dX1_fitArrangement_28 ?_
      refine lv_iload_n hx hb dX1_fitArrangement_31 rfl (lv_at hl 2 rfl) ?_
      refine lv_iload_n hx hb dX1_fitArrangement_32 rfl (lv_at hl 3 rfl) ?_
      refine lv_iload hx hb dX1_fitArrangement_33 (lv_at hl 6 rfl) ?_
      refine xc_Vi (wf := wC cyI cyJ cyZ a) (wr := []) (isC := [0, 1, 2, 3, 4, 5, 6, 7, 8, 9, 10, 11, 12, 13, 14, 15, 16, 17, 18, 19, 20]) (isR := []) (As := [.int x2, .int x3, .int x7]) (rest := [.ref (a 18)]) ⟨hx, hb, hml, hown, hts⟩ (t_X3_leafAt h) (cwV 3 hts gX1_fitArrangement_X3_leafAt rfl rfl rfl (by decide +kernel) ⟨Nat.le_of_ble_eq_true rfl, Nat.le_of_ble_eq_true rfl⟩) ⟨hK, hE, hA, hP, hD, hS, rfl, rfl, rfl, rfl, by decide⟩ ⟨3, 3, _, _, rfl, rfl, rfl⟩ rfl rfl hl.1 (Nat.le_of_ble_eq_true rfl) dX1_fitArrangement_35 ⟨Nat.le_of_ble_eq_true rfl, Nat.le_of_ble_eq_true rfl⟩ (fun r4 S5 H locs h hP hD hS => ?_)
      obtain ⟨rfl, h⟩ := h
      have hP : va_P (dC, dI) vwCl (wC cyI cyJ cyZ a S) H := hP
      have hD : va_D A (wC cyI cyJ cyZ a S) := hD
      obtain ⟨i6, h⟩ := h
      refine va_iald (D := (dC, dI)) hx hb hK hP 18 0 rfl rfl i6 dX1_fitArrangement_38 ?_
      refine lv_topi (fun y7 ey7 => ?_)
      have h := h y7 ey7
      refine lv_istore (lv' := [(8, .int y7), (0, .ref (a 4)), (1, .int x1), (2, .int x2), (3, .int x3), (4, .int x4), (5, .long x5), (7, .int x7)]) hx hb dX1_fitArrangement_39 hl (by decide) rfl (fun ls hl => ?_)
      refine lv_iconst (v := 2) hx hb dX1_fitArrangement_41 (by decide) ?_
      refine lv_iload hx hb dX1_fitArrangement_42 (lv_at hl 0 rfl) ?_
      refine lv_imul hx hb dX1_fitArrangement_44 ?_
      refine lv_aload_n hx hb dX1_fitArrangement_45 rfl (lv_at hl 1 rfl) ?_
      refine va_get (D := (dC, dI)) (ci := 1) (v := .ref (a 3)) (C := RX1) (T := TX1) (N := 6) hx hb hts hiX1 hown hK hP 4 rfl rfl 2 (by decide) hf31 (fun _ h9 => h9) rfl dX1_fitArrangement_46 ?_
      refine lv_iload_n hx hb dX1_fitArrangement_49 rfl (lv_at hl 4 rfl) ?_
      refine lv_iload hx hb dX1_fitArrangement_50 (lv_at hl 7 rfl) ?_
      refine xc_Vi (wf := wC cyI cyJ cyZ a) (wr := []) (isC := [0, 1, 2, 3, 4, 5, 6, 7, 8, 9, 10, 11, 12, 13, 14, 15, 16, 17, 18, 19, 20]) (isR := []) (As := [.int x3, .int x7]) (rest := [.int ((2 : Int32) * y7)]) ⟨hx, hb, hml, hown, hts⟩ (t_X3_turnAt h) (cwV 2 hts gX1_fitArrangement_X3_turnAt rfl rfl rfl (by decide +kernel) ⟨Nat.le_of_ble_eq_true rfl, Nat.le_of_ble_eq_true rfl⟩) ⟨hK, hE, hA, hP, hD, hS, rfl, rfl, rfl, rfl, by decide⟩ ⟨3, 3, _, _, rfl, rfl, rfl⟩ rfl rfl hl.1 (Nat.le_of_ble_eq_true rfl) dX1_fitArrangement_52 ⟨Nat.le_of_ble_eq_true rfl, Nat.le_of_ble_eq_true rfl⟩ (fun r8 S9 H locs h hP hD hS => ?_)
      obtain ⟨rfl, h⟩ := h
      have hP : va_P (dC, dI) vwCl (wC cyI cyJ cyZ a S) H := hP
      have hD : va_D A (wC cyI cyJ cyZ a S) := hD
      refine lv_iadd hx hb dX1_fitArrangement_55 ?_
      refine lv_topi (fun y10 ey10 => ?_)
      have h := h y10 ey10
      refine lv_istore (lv' := [(9, .int y10), (8, .int y7), (0, .ref (a 4)), (1, .int x1), (2, .int x2), (3, .int x3), (4, .int x4), (5, .long x5), (7, .int x7)]) hx hb dX1_fitArrangement_56 hl (by decide) rfl (fun ls hl => ?_)
      refine lv_aload_n hx hb dX1_fitArrangement_58 rfl (lv_at hl 2 rfl) ?_
      refine lv_iload hx hb dX1_fitArrangement_59 (lv_at hl 0 rfl) ?_
      refine xc_Vi (wf := wC cyI cyJ cyZ a) (wr := []) (isC := [0, 1, 2, 3, 4, 5, 6, 7, 8, 9, 10, 11, 12, 13, 14, 15, 16, 17, 18, 19, 20]) (isR := []) (As := [.int y10]) (rest := []) ⟨hx, hb, hml, hown, hts⟩ (t_X1_timeOf h) (cwV 1 hts gX1_fitArrangement_X1_timeOf rfl rfl rfl (by decide +kernel) ⟨Nat.le_of_ble_eq_true rfl, Nat.le_of_ble_eq_true rfl⟩) ⟨hK, hE, hA, hP, hD, hS, rfl, rfl, rfl, rfl, by decide⟩ ⟨4, 1, _, _, rfl, rfl, rfl⟩ rfl rfl hl.1 (Nat.le_of_ble_eq_true rfl) dX1_fitArrangement_61 ⟨Nat.le_of_ble_eq_true rfl, Nat.le_of_ble_eq_true rfl⟩ (fun r11 S12 H locs h hP hD hS => ?_)
      obtain ⟨rfl, h⟩ := h
      have hP : va_P (dC, dI) vwCl (wC cyI cyJ cyZ a S) H := hP
      have hD : va_D A (wC cyI cyJ cyZ a S) := hD
      refine lv_istore (lv' := [(10, .int r11), (9, .int y10), (8, .int y7), (0, .ref (a 4)), (1, .int x1), (2, .int x2), (3, .int x3), (4, .int x4), (5, .long x5), (7, .int x7)]) hx hb dX1_fitArrangement_64 hl (by decide) rfl (fun ls hl => ?_)
      refine lv_iload hx hb dX1_fitArrangement_66 (lv_at hl 0 rfl) ?_
      refine lv_iconst (v := -1) hx hb dX1_fitArrangement_68 (by decide) ?_
      refine lv_icmp_ne (tgt := 73) hx hb dX1_fitArrangement_69 (by decide) (fun c13 => ?_) (fun c13 => ?_)
      · have h := h.1 c13
        refine lv_iload hx hb dX1_fitArrangement_73 (lv_at hl 7 rfl) ?_
        refine lv_iload hx hb dX1_fitArrangement_75 (lv_at hl 0 rfl) ?_
        refine lv_aload_n hx hb dX1_fitArrangement_77 rfl (lv_at hl 3 rfl) ?_
        refine va_get (D := (dC, dI)) (ci := 1) (v := .ref (a 3)) (C := RX1) (T := TX1) (N := 6) hx hb hts hiX1 hown hK hP 4 rfl rfl 2 (by decide) hf31 (fun _ h9 => h9) rfl dX1_fitArrangement_78 ?_
        refine lv_iload_n hx hb dX1_fitArrangement_81 rfl (lv_at hl 5 rfl) ?_
        refine lv_iload hx hb dX1_fitArrangement_82 (lv_at hl 9 rfl) ?_
        refine xc_Vi (wf := wC cyI cyJ cyZ a) (wr := []) (isC := [0, 1, 2, 3, 4, 5, 6, 7, 8, 9, 10, 11, 12, 13, 14, 15, 16, 17, 18, 19, 20]) (isR := []) (As := [.int x2, .int x7]) (rest := [.int r11, .int x4]) ⟨hx, hb, hml, hown, hts⟩ (t_X3_delayAt h) (cwV 2 hts gX1_fitArrangement_X3_delayAt rfl rfl rfl (by decide +kernel) ⟨Nat.le_of_ble_eq_true rfl, Nat.le_of_ble_eq_true rfl⟩) ⟨hK, hE, hA, hP, hD, hS, rfl, rfl, rfl, rfl, by decide⟩ ⟨3, 3, _, _, rfl, rfl, rfl⟩ rfl rfl hl.1 (Nat.le_of_ble_eq_true rfl) dX1_fitArrangement_84 ⟨Nat.le_of_ble_eq_true rfl, Nat.le_of_ble_eq_true rfl⟩ (fun r14 S15 H locs h hP hD hS => ?_)
        obtain ⟨rfl, h⟩ := h
        have hP : va_P (dC, dI) vwCl (wC cyI cyJ cyZ a S) H := hP
        have hD : va_D A (wC cyI cyJ cyZ a S) := hD
        refine lv_iadd hx hb dX1_fitArrangement_87 ?_
        refine va_mmax hx hb (hml.trans hl.1.symm) hown (hts (.methodLink RX1 166 Lib.Math.max.name) (by decide +kernel)) (hts (.static Lib.Math.max.name) (by decide +kernel)) (hts (.initialized "java/lang/Math") (by decide +kernel)) (hts (.code Lib.Math.max.name Lib.Math.max.code 2 (some .int)) (by decide +kernel)) (Nat.le_of_ble_eq_true rfl) (Nat.le_of_ble_eq_true rfl) (Nat.le_of_ble_eq_true rfl) (Nat.le_of_ble_eq_true rfl) dX1_fitArrangement_88 ?_
        refine lv_topi (fun y16 ey16 => ?_)
        have h := h y16 ey16
        refine lv_istore (lv' := [(4, .int y16), (10, .int r11), (9, .int y10), (8, .int y7), (0, .ref (a 4)), (1, .int x1), (2, .int x2), (3, .int x3), (5, .long x5), (7, .int x7)]) hx hb dX1_fitArrangement_91 hl (by decide) rfl (fun ls hl => ?_)
        refine lv_lload hx hb dX1_fitArrangement_93 (lv_at hl 8 rfl) ?_
        refine lv_iload hx hb dX1_fitArrangement_95 (lv_at hl 2 rfl) ?_
        refine lv_i2l (v := y10.toInt64) hx hb dX1_fitArrangement_97 rfl ?_
        refine lv_iload hx hb dX1_fitArrangement_98 (lv_at hl 9 rfl) ?_
        refine xc_Si (wf := wC cyI cyJ cyZ a) (wr := []) (isC := [0, 1, 2, 3, 4, 5, 6, 7, 8, 9, 10, 11, 12, 13, 14, 15, 16, 17, 18, 19, 20]) (isR := []) (As := [.int x7]) (rest := [.long (y10.toInt64), .long x5]) ⟨hx, hb, hml, hown, hts⟩ (t_X1_pinShift h) (va_cwS 1 hts gX1_fitArrangement_X1_pinShift rfl rfl rfl (by decide +kernel) ⟨Nat.le_of_ble_eq_true rfl, Nat.le_of_ble_eq_true rfl⟩) ⟨hK, hE, hA, hP, hD, hS, rfl, rfl, rfl, rfl, by decide⟩ rfl rfl hl.1 (Nat.le_of_ble_eq_true rfl) dX1_fitArrangement_100 ⟨Nat.le_of_ble_eq_true rfl, Nat.le_of_ble_eq_true rfl⟩ (fun r17 S18 H locs h hP hD hS => ?_)
        obtain ⟨rfl, h⟩ := h
        have hP : va_P (dC, dI) vwCl (wC cyI cyJ cyZ a S) H := hP
        have hD : va_D A (wC cyI cyJ cyZ a S) := hD
        refine lv_lshl (v := (lshl (y10.toInt64) r17)) hx hb dX1_fitArrangement_103 rfl ?_
        refine lv_lor hx hb dX1_fitArrangement_104 ?_
        refine lv_topl (fun y19 ey19 => ?_)
        have h := h y19 ey19
        refine lv_lstore (lv' := [(5, .long y19), (4, .int y16), (10, .int r11), (9, .int y10), (8, .int y7), (0, .ref (a 4)), (1, .int x1), (2, .int x2), (3, .int x3), (7, .int x7)]) hx hb dX1_fitArrangement_105 hl (by decide) rfl (fun ls hl => ?_)
        obtain ⟨y20, ey20⟩ : ∃ z : Int32, z = (x7 + (1 : Int32)) := ⟨_, rfl⟩
        have h := h y20 ey20
        refine lv_iinc (v := y20) (lv' := [(7, .int y20), (5, .long y19), (4, .int y16), (10, .int r11), (9, .int y10), (8, .int y7), (0, .ref (a 4)), (1, .int x1), (2, .int x2), (3, .int x3)]) hx hb dX1_fitArrangement_107 hl (k := 9) rfl (by rw [ey20]; rfl) (by decide) rfl (fun ls hl => ?_)
        refine lv_goto (tgt := 9) hx hb dX1_fitArrangement_110 (by decide) ?_
        exact k9 y16 y19 y20 H locs ls h hP hD hS (lv_sub hl [6, 7, 8, 9, 2, 1, 0] rfl)
      · have h := h.2 c13
        exact xr_v (S := S) hx hb hr hlocks hK hP hD hS h (Nat.le_of_ble_eq_true rfl) (Nat.le_of_ble_eq_true rfl) dX1_fitArrangement_72
def p_X1_fitArrangement (S : CS) (x1 : Int32) (x2 : Int32) (x3 : Int32) (post : CS → Prop) : Prop := p_X1_fitArrangement_9 S x1 x2 x3 (0 : Int32) (0 : Int64) (0 : Int32) post
set_option maxHeartbeats 1000000 in
set_option maxRecDepth 100000 in
theorem t_X1_fitArrangement {l : Launch} {dC : Nat → ClassId} {dI : Nat → Nat → Nat} {cyI cyJ cyZ : ClassId} {r : Nat → Nat} {a : Nat → Nat} {S : CS} {x1 : Int32} {x2 : Int32} {x3 : Int32} {post : CS → Prop} (h : p_X1_fitArrangement S x1 x2 x3 post) : xMv l yX1_fitArrangement wsX1_fitArrangement { frames := 1, cells := 0, slots := 0, locals := 30 } (dC, dI) (tyA cyI cyJ cyZ) r (wC cyI cyJ cyZ a) [.ref (a 4), .int x1, .int x2, .int x3] S post 0 0 := by
  intro sz
  refine Met.ofW (cc := cX1_fitArrangement) (maxL := 11) (ret := none) (by decide) rfl ?_
  intro p e s m args below meth c s₁ B hml hv
  obtain ⟨rfl, G, hP, hD, hS⟩ := xG.of rfl B hml hv
  generalize hAe : va_A (wC cyI cyJ cyZ a S) sz = A at G hD hS ⊢
  have G : xG p s m _ meth c cX1_fitArrangement 11 RX1 none wsX1_fitArrangement (dC, dI) (tyA cyI cyJ cyZ) r A := G
  obtain ⟨hx, hb, hml, hown, hts, hr, hlocks, hK, hE, hA⟩ := id G
  have hl := lv_entry ([.ref (a 4), .int x1, .int x2, .int x3]) (n := 11) (Nat.le_of_ble_eq_true rfl)
  rw [lg_entry_eq]
  generalize (lg_sl ([.ref (a 4), .int x1, .int x2, .int x3]) ++ List.replicate (11 - (lg_sl ([.ref (a 4), .int x1, .int x2, .int x3])).length) Slot.unset).toArray = ls at hl ⊢
  have hl : lv_has ls 11 [(0, .ref (a 4)), (1, .int x1), (2, .int x2), (3, .int x3)] := hl
  show W p l e { frames := 1, cells := 0, slots := 0, locals := 30 } s m _ below meth c s.heap [] 0 0 _ _
  unfold p_X1_fitArrangement at h
  refine lv_iconst (v := 0) hx hb dX1_fitArrangement_0 (by decide) ?_
  refine lv_istore (lv' := [(4, .int (0 : Int32)), (0, .ref (a 4)), (1, .int x1), (2, .int x2), (3, .int x3)]) hx hb dX1_fitArrangement_1 hl (by decide) rfl (fun ls hl => ?_)
  refine lv_lconst (v := 0) hx hb dX1_fitArrangement_3 (by decide) ?_
  refine lv_lstore (lv' := [(5, .long (0 : Int64)), (4, .int (0 : Int32)), (0, .ref (a 4)), (1, .int x1), (2, .int x2), (3, .int x3)]) hx hb dX1_fitArrangement_4 hl (by decide) rfl (fun ls hl => ?_)
  refine lv_iconst (v := 0) hx hb dX1_fitArrangement_6 (by decide) ?_
  refine lv_istore (lv' := [(7, .int (0 : Int32)), (5, .long (0 : Int64)), (4, .int (0 : Int32)), (0, .ref (a 4)), (1, .int x1), (2, .int x2), (3, .int x3)]) hx hb dX1_fitArrangement_7 hl (by decide) rfl (fun ls hl => ?_)
  exact t_X1_fitArrangement_9 G h hP hD hS (lv_sub hl [3, 4, 5, 6, 2, 1, 0] rfl)
def b_X1_fitCell_23 (x1 : Int32) (x2 : Int32) (x3 : Int32) (post : CS → Prop) (g23 : CS → Int32 → Prop) (S : CS) (x4 : Int32) : Prop := p_X3_arrangementCount S x2 (fun r7 => (r7 ≤ x4 → (post S)) ∧ (¬ r7 ≤ x4 → (p_X3_arrangedTruth S x2 x4 (fun r10 => (¬ r10 = x3 → (∀ y13 : Int32, y13 = (x4 + (1 : Int32)) → (g23 S y13))) ∧ (r10 = x3 → (p_X1_fitArrangement S x1 x2 x4 (fun S14 => ∀ y15 : Int32, y15 = (x4 + (1 : Int32)) → (g23 S14 y15))))))))
def p_X1_fitCell_23 (S : CS) (x1 : Int32) (x2 : Int32) (x3 : Int32) (x4 : Int32) (post : CS → Prop) : Prop := ∃ (I : CS → Int32 → Prop) (mu : CS → Int32 → Nat), I S x4 ∧ ∀ (S : CS) (x4 : Int32), I S x4 → b_X1_fitCell_23 x1 x2 x3 post (fun S' x4' => I S' x4' ∧ mu S' x4' < mu S x4) S x4
set_option maxHeartbeats 1000000 in
set_option maxRecDepth 100000 in
theorem t_X1_fitCell_23 {p : Program} {l : Launch} {e : Env} {s : State} {m : MethodId} {args : Array Value} {below : List Frame} {meth : Method} {c : Code} {dC : Nat → ClassId} {dI : Nat → Nat → Nat} {cyI cyJ cyZ : ClassId} {r : Nat → Nat} {a : Nat → Nat} {A : Nat → Prop} {S : CS} {x1 : Int32} {x2 : Int32} {x3 : Int32} {x4 : Int32} {post : CS → Prop} (G : xG p s m args meth c cX1_fitCell 5 RX1 none wsX1_fitCell (dC, dI) (tyA cyI cyJ cyZ) r A) (h : p_X1_fitCell_23 S x1 x2 x3 x4 post) {H : Heap} {locs : List Loc} {ls : Array Slot} (hP : va_P (dC, dI) vwCl (wC cyI cyJ cyZ a S) H) (hD : va_D A (wC cyI cyJ cyZ a S)) (hS : va_S A s.heap H locs) (hl : lv_has ls 5 [(0, .ref (a 4)), (1, .int x1), (2, .int x2), (3, .int x3), (4, .int x4)]) : W p l e { frames := 2, cells := 0, slots := 0, locals := 60 } s m args below meth c H locs 0 0 (MQ below (va_Qv post (xAt (dC, dI) (tyA cyI cyJ cyZ) (wC cyI cyJ cyZ a) A) A) args s 0 0 A) (F0 m 23 ls []) := by
  obtain ⟨hx, hb, hml, hown, hts, hr, hlocks, hK, hE, hA⟩ := id G
  have hiX1 : ∀ w ∈ wsX10, w ∈ wsX1_fitCell := by decide +kernel
  have hf31 := hts (.fieldLink RX1 31 "CellMapping$Gates" "shelf" "LCellMapping$Shelf;") (by decide +kernel)
  obtain ⟨I, mu, h0, hstep⟩ := h
  suffices hgo : ∀ (n : Nat) (S : CS) (x4 : Int32), I S x4 → mu S x4 < n → ∀ (H : Heap) (locs : List Loc) (ls : Array Slot), va_P (dC, dI) vwCl (wC cyI cyJ cyZ a S) H → va_D A (wC cyI cyJ cyZ a S) → va_S A s.heap H locs → lv_has ls 5 [(0, .ref (a 4)), (1, .int x1), (2, .int x2), (3, .int x3), (4, .int x4)] → W p l e { frames := 2, cells := 0, slots := 0, locals := 60 } s m args below meth c H locs 0 0 (MQ below (va_Qv post (xAt (dC, dI) (tyA cyI cyJ cyZ) (wC cyI cyJ cyZ a) A) A) args s 0 0 A) (F0 m 23 ls []) from hgo (mu S x4 + 1) S x4 h0 (Nat.lt_succ_self _) H locs ls hP hD hS hl
  clear h0 hP hD hS hl
  intro n
  induction n with
  | zero => intro S x4 _ h; exact absurd h (Nat.not_lt_zero _)
  | succ n ih =>
    intro S x4 hI hmu H locs ls hP hD hS hl
    have h := hstep S x4 hI
    unfold b_X1_fitCell_23 at h
    have k23 : ∀ (S' : CS) (x4' : Int32) (H : Heap) (locs : List Loc) (ls : Array Slot), (fun S' x4' => I S' x4' ∧ mu S' x4' < mu S x4) S' x4' → va_P (dC, dI) vwCl (wC cyI cyJ cyZ a S') H → va_D A (wC cyI cyJ cyZ a S') → va_S A s.heap H locs → lv_has ls 5 [(0, .ref (a 4)), (1, .int x1), (2, .int x2), (3, .int x3), (4, .int x4')] → W p l e { frames := 2, cells := 0, slots := 0, locals := 60 } s m args below meth c H locs 0 0 (MQ below (va_Qv post (xAt (dC, dI) (tyA cyI cyJ cyZ) (wC cyI cyJ cyZ a) A) A) args s 0 0 A) (F0 m 23 ls []) := fun S' x4' H locs ls hh hP hD hS hl => ih S' x4' hh.1 (Nat.lt_of_lt_of_le hh.2 (Nat.le_of_lt_succ hmu)) H locs ls hP hD hS hl
    generalize (fun S' x4' => I S' x4' ∧ mu S' x4' < mu S x4) = g23 at h k23
    refine lv_iload hx hb dX1_fitCell_23 (lv_at hl 4 rfl) ?_
    refine lv_aload_n hx hb dX1_fitCell_25 rfl (lv_at hl 0 rfl) ?_
    refine va_get (D := (dC, dI)) (ci := 1) (v := .ref (a 3)) (C := RX1) (T := TX1) (N := 6) hx hb hts hiX1 hown hK hP 4 rfl rfl 2 (by decide) hf31 (fun _ h9 => h9) rfl dX1_fitCell_26 ?_
    refine lv_iload_n hx hb dX1_fitCell_29 rfl (lv_at hl 2 rfl) ?_
    refine xc_Vi (wf := wC cyI cyJ cyZ a) (wr := []) (isC := [0, 1, 2, 3, 4, 5, 6, 7, 8, 9, 10, 11, 12, 13, 14, 15, 16, 17, 18, 19, 20]) (isR := []) (As := [.int x2]) (rest := [.int x4]) ⟨hx, hb, hml, hown, hts⟩ (t_X3_arrangementCount h) (cwV 1 hts gX1_fitCell_X3_arrangementCount rfl rfl rfl (by decide +kernel) ⟨Nat.le_of_ble_eq_true rfl, Nat.le_of_ble_eq_true rfl⟩) ⟨hK, hE, hA, hP, hD, hS, rfl, rfl, rfl, rfl, by decide⟩ ⟨3, 3, _, _, rfl, rfl, rfl⟩ rfl rfl hl.1 (Nat.le_of_ble_eq_true rfl) dX1_fitCell_30 ⟨Nat.le_of_ble_eq_true rfl, Nat.le_of_ble_eq_true rfl⟩ (fun r7 S8 H locs h hP hD hS => ?_)
    obtain ⟨rfl, h⟩ := h
    have hP : va_P (dC, dI) vwCl (wC cyI cyJ cyZ a S) H := hP
    have hD : va_D A (wC cyI cyJ cyZ a S) := hD
    refine lv_icmp_ge (tgt := 64) hx hb dX1_fitCell_33 (by decide) (fun c9 => ?_) (fun c9 => ?_)
    · have h := h.1 c9
      exact xr_v (S := S) hx hb hr hlocks hK hP hD hS h (Nat.le_of_ble_eq_true rfl) (Nat.le_of_ble_eq_true rfl) dX1_fitCell_64
    · have h := h.2 c9
      refine lv_aload_n hx hb dX1_fitCell_36 rfl (lv_at hl 0 rfl) ?_
      refine va_get (D := (dC, dI)) (ci := 1) (v := .ref (a 3)) (C := RX1) (T := TX1) (N := 6) hx hb hts hiX1 hown hK hP 4 rfl rfl 2 (by decide) hf31 (fun _ h9 => h9) rfl dX1_fitCell_37 ?_
      refine lv_iload_n hx hb dX1_fitCell_40 rfl (lv_at hl 2 rfl) ?_
      refine lv_iload hx hb dX1_fitCell_41 (lv_at hl 4 rfl) ?_
      refine xc_Vi (wf := wC cyI cyJ cyZ a) (wr := []) (isC := [0, 1, 2, 3, 4, 5, 6, 7, 8, 9, 10, 11, 12, 13, 14, 15, 16, 17, 18, 19, 20]) (isR := []) (As := [.int x2, .int x4]) (rest := []) ⟨hx, hb, hml, hown, hts⟩ (t_X3_arrangedTruth h) (cwV 2 hts gX1_fitCell_X3_arrangedTruth rfl rfl rfl (by decide +kernel) ⟨Nat.le_of_ble_eq_true rfl, Nat.le_of_ble_eq_true rfl⟩) ⟨hK, hE, hA, hP, hD, hS, rfl, rfl, rfl, rfl, by decide⟩ ⟨3, 3, _, _, rfl, rfl, rfl⟩ rfl rfl hl.1 (Nat.le_of_ble_eq_true rfl) dX1_fitCell_43 ⟨Nat.le_of_ble_eq_true rfl, Nat.le_of_ble_eq_true rfl⟩ (fun r10 S11 H locs h hP hD hS => ?_)
      obtain ⟨rfl, h⟩ := h
      have hP : va_P (dC, dI) vwCl (wC cyI cyJ cyZ a S) H := hP
      have hD : va_D A (wC cyI cyJ cyZ a S) := hD
      refine lv_iload_n hx hb dX1_fitCell_46 rfl (lv_at hl 3 rfl) ?_
      refine lv_icmp_ne (tgt := 58) hx hb dX1_fitCell_47 (by decide) (fun c12 => ?_) (fun c12 => ?_)
      · have h := h.1 c12
        obtain ⟨y13, ey13⟩ : ∃ z : Int32, z = (x4 + (1 : Int32)) := ⟨_, rfl⟩
        have h := h y13 ey13
        refine lv_iinc (v := y13) (lv' := [(4, .int y13), (0, .ref (a 4)), (1, .int x1), (2, .int x2), (3, .int x3)]) hx hb dX1_fitCell_58 hl (k := 4) rfl (by rw [ey13]; rfl) (by decide) rfl (fun ls hl => ?_)
        refine lv_goto (tgt := 23) hx hb dX1_fitCell_61 (by decide) ?_
        exact k23 S y13 H locs ls h hP hD hS (lv_sub hl [1, 2, 3, 4, 0] rfl)
      · have h := h.2 c12
        refine lv_aload_n hx hb dX1_fitCell_50 rfl (lv_at hl 0 rfl) ?_
        refine lv_iload_n hx hb dX1_fitCell_51 rfl (lv_at hl 1 rfl) ?_
        refine lv_iload_n hx hb dX1_fitCell_52 rfl (lv_at hl 2 rfl) ?_
        refine lv_iload hx hb dX1_fitCell_53 (lv_at hl 4 rfl) ?_
        refine xc_Vv (wf := wC cyI cyJ cyZ a) (wr := []) (isC := [0, 1, 2, 3, 4, 5, 6, 7, 8, 9, 10, 11, 12, 13, 14, 15, 16, 17, 18, 19, 20]) (isR := []) (As := [.int x1, .int x2, .int x4]) (rest := []) ⟨hx, hb, hml, hown, hts⟩ (t_X1_fitArrangement h) (cwV 3 hts gX1_fitCell_X1_fitArrangement rfl rfl rfl (by decide +kernel) ⟨Nat.le_of_ble_eq_true rfl, Nat.le_of_ble_eq_true rfl⟩) ⟨hK, hE, hA, hP, hD, hS, rfl, rfl, rfl, rfl, by decide⟩ ⟨4, 1, _, _, rfl, rfl, rfl⟩ rfl rfl hl.1 (Nat.le_of_ble_eq_true rfl) dX1_fitCell_55 ⟨Nat.le_of_ble_eq_true rfl, Nat.le_of_ble_eq_true rfl⟩ (fun  S14 H locs h hP hD hS => ?_)
        have hP : va_P (dC, dI) vwCl (wC cyI cyJ cyZ a S14) H := hP
        have hD : va_D A (wC cyI cyJ cyZ a S14) := hD
        obtain ⟨y15, ey15⟩ : ∃ z : Int32, z = (x4 + (1 : Int32)) := ⟨_, rfl⟩
        have h := h y15 ey15
        refine lv_iinc (v := y15) (lv' := [(4, .int y15), (0, .ref (a 4)), (1, .int x1), (2, .int x2), (3, .int x3)]) hx hb dX1_fitCell_58 hl (k := 4) rfl (by rw [ey15]; rfl) (by decide) rfl (fun ls hl => ?_)
        refine lv_goto (tgt := 23) hx hb dX1_fitCell_61 (by decide) ?_
        exact k23 S14 y15 H locs ls h hP hD hS (lv_sub hl [1, 2, 3, 4, 0] rfl)
def p_X1_fitCell (S : CS) (x1 : Int32) (x2 : Int32) (x3 : Int32) (post : CS → Prop) : Prop := vp_in x2 12 ∧ (p_J6_bitCount_0f7a4 S ((cTR S) x2.toNatClampNeg) (fun r2 => p_J6_bitCount_0f7a4 S x3 (fun r4 => (r2 = r4 → (p_X1_fitCell_23 S x1 x2 x3 (0 : Int32) post)) ∧ (¬ r2 = r4 → (post S)))))
set_option maxHeartbeats 1000000 in
set_option maxRecDepth 100000 in
theorem t_X1_fitCell {l : Launch} {dC : Nat → ClassId} {dI : Nat → Nat → Nat} {cyI cyJ cyZ : ClassId} {r : Nat → Nat} {a : Nat → Nat} {S : CS} {x1 : Int32} {x2 : Int32} {x3 : Int32} {post : CS → Prop} (h : p_X1_fitCell S x1 x2 x3 post) : xMv l yX1_fitCell wsX1_fitCell { frames := 2, cells := 0, slots := 0, locals := 60 } (dC, dI) (tyA cyI cyJ cyZ) r (wC cyI cyJ cyZ a) [.ref (a 4), .int x1, .int x2, .int x3] S post 0 0 := by
  intro sz
  refine Met.ofW (cc := cX1_fitCell) (maxL := 5) (ret := none) (by decide) rfl ?_
  intro p e s m args below meth c s₁ B hml hv
  obtain ⟨rfl, G, hP, hD, hS⟩ := xG.of rfl B hml hv
  generalize hAe : va_A (wC cyI cyJ cyZ a S) sz = A at G hD hS ⊢
  have G : xG p s m _ meth c cX1_fitCell 5 RX1 none wsX1_fitCell (dC, dI) (tyA cyI cyJ cyZ) r A := G
  obtain ⟨hx, hb, hml, hown, hts, hr, hlocks, hK, hE, hA⟩ := id G
  have hiX1 : ∀ w ∈ wsX10, w ∈ wsX1_fitCell := by decide +kernel
  have hf31 := hts (.fieldLink RX1 31 "CellMapping$Gates" "shelf" "LCellMapping$Shelf;") (by decide +kernel)
  have hiX3 : ∀ w ∈ wsX30, w ∈ wsX1_fitCell := by decide +kernel
  have hf88 := hts (.fieldLink RX1 88 "CellMapping$Shelf" "truths" "[I") (by decide +kernel)
  have hl := lv_entry ([.ref (a 4), .int x1, .int x2, .int x3]) (n := 5) (Nat.le_of_ble_eq_true rfl)
  rw [lg_entry_eq]
  generalize (lg_sl ([.ref (a 4), .int x1, .int x2, .int x3]) ++ List.replicate (5 - (lg_sl ([.ref (a 4), .int x1, .int x2, .int x3])).length) Slot.unset).toArray = ls at hl ⊢
  have hl : lv_has ls 5 [(0, .ref (a 4)), (1, .int x1), (2, .int x2), (3, .int x3)] := hl
  show W p l e { frames := 2, cells := 0, slots := 0, locals := 60 } s m _ below meth c s.heap [] 0 0 _ _
  unfold p_X1_fitCell at h
  refine lv_aload_n hx hb dX1_fitCell_0 rfl (lv_at hl 0 rfl) ?_
  refine va_get (D := (dC, dI)) (ci := 1) (v := .ref (a 3)) (C := RX1) (T := TX1) (N := 6) hx hb hts hiX1 hown hK hP 4 rfl rfl 2 (by decide) hf31 (fun _ h9 => h9) rfl dX1_fitCell_1 ?_
  refine va_get (D := (dC, dI)) (ci := 3) (v := .ref (a 13)) (C := RX3) (T := TX3) (N := 6) hx hb hts hiX3 hown hK hP 3 rfl rfl 1 (by decide) hf88 (fun _ h9 => h9) rfl dX1_fitCell_4 ?_
  refine lv_iload_n hx hb dX1_fitCell_7 rfl (lv_at hl 2 rfl) ?_
  obtain ⟨i1, h⟩ := h
  refine va_iald (D := (dC, dI)) hx hb hK hP 13 0 rfl rfl i1 dX1_fitCell_8 ?_
  refine xc_Si (wf := wC cyI cyJ cyZ a) (wr := []) (isC := [0, 1, 2, 3, 4, 5, 6, 7, 8, 9, 10, 11, 12, 13, 14, 15, 16, 17, 18, 19, 20]) (isR := []) (As := [.int ((cTR S) x2.toNatClampNeg)]) (rest := []) ⟨hx, hb, hml, hown, hts⟩ (t_J6_bitCount_0f7a4 h) (va_cwS 1 hts gX1_fitCell_J6_bitCount_0f7a4 rfl rfl rfl (by decide +kernel) ⟨Nat.le_of_ble_eq_true rfl, Nat.le_of_ble_eq_true rfl⟩) ⟨hK, hE, hA, hP, hD, hS, rfl, rfl, rfl, rfl, by decide⟩ rfl rfl hl.1 (Nat.le_of_ble_eq_true rfl) dX1_fitCell_9 ⟨Nat.le_of_ble_eq_true rfl, Nat.le_of_ble_eq_true rfl⟩ (fun r2 S3 H locs h hP hD hS => ?_)
  obtain ⟨rfl, h⟩ := h
  have hP : va_P (dC, dI) vwCl (wC cyI cyJ cyZ a S) H := hP
  have hD : va_D A (wC cyI cyJ cyZ a S) := hD
  refine lv_iload_n hx hb dX1_fitCell_12 rfl (lv_at hl 3 rfl) ?_
  refine xc_Si (wf := wC cyI cyJ cyZ a) (wr := []) (isC := [0, 1, 2, 3, 4, 5, 6, 7, 8, 9, 10, 11, 12, 13, 14, 15, 16, 17, 18, 19, 20]) (isR := []) (As := [.int x3]) (rest := [.int r2]) ⟨hx, hb, hml, hown, hts⟩ (t_J6_bitCount_0f7a4 h) (va_cwS 1 hts gX1_fitCell_J6_bitCount_0f7a4 rfl rfl rfl (by decide +kernel) ⟨Nat.le_of_ble_eq_true rfl, Nat.le_of_ble_eq_true rfl⟩) ⟨hK, hE, hA, hP, hD, hS, rfl, rfl, rfl, rfl, by decide⟩ rfl rfl hl.1 (Nat.le_of_ble_eq_true rfl) dX1_fitCell_13 ⟨Nat.le_of_ble_eq_true rfl, Nat.le_of_ble_eq_true rfl⟩ (fun r4 S5 H locs h hP hD hS => ?_)
  obtain ⟨rfl, h⟩ := h
  have hP : va_P (dC, dI) vwCl (wC cyI cyJ cyZ a S) H := hP
  have hD : va_D A (wC cyI cyJ cyZ a S) := hD
  refine lv_icmp_eq (tgt := 20) hx hb dX1_fitCell_16 (by decide) (fun c6 => ?_) (fun c6 => ?_)
  · have h := h.1 c6
    refine lv_iconst (v := 0) hx hb dX1_fitCell_20 (by decide) ?_
    refine lv_istore (lv' := [(4, .int (0 : Int32)), (0, .ref (a 4)), (1, .int x1), (2, .int x2), (3, .int x3)]) hx hb dX1_fitCell_21 hl (by decide) rfl (fun ls hl => ?_)
    exact t_X1_fitCell_23 G h hP hD hS (lv_sub hl [1, 2, 3, 4, 0] rfl)
  · have h := h.2 c6
    exact xr_v (S := S) hx hb hr hlocks hK hP hD hS h (Nat.le_of_ble_eq_true rfl) (Nat.le_of_ble_eq_true rfl) dX1_fitCell_19
def b_X1_fitCut_50 (x1 : Int32) (x3 : Int32) (x4 : Int32) (x5 : Int32) (post : CS → Prop) (g50 : CS → Int32 → Prop) (S : CS) (x6 : Int32) : Prop := ((cCC S) ≤ x6 → (post S)) ∧ (¬ (cCC S) ≤ x6 → (vp_in x6 12 ∧ ((¬ ((cPI S) x6.toNatClampNeg) = x4 → (∀ y7 : Int32, y7 = (x6 + (1 : Int32)) → (g50 S y7))) ∧ (((cPI S) x6.toNatClampNeg) = x4 → (p_X1_fitCell S ((2 : Int32) * x1) x6 x3 (fun S8 => p_X1_fitCell S8 (((2 : Int32) * x1) + (1 : Int32)) x6 (x3 ^^^ x5) (fun S9 => ∀ y10 : Int32, y10 = (x6 + (1 : Int32)) → (g50 S9 y10))))))))
def p_X1_fitCut_50 (S : CS) (x1 : Int32) (x3 : Int32) (x4 : Int32) (x5 : Int32) (x6 : Int32) (post : CS → Prop) : Prop := ∃ (I : CS → Int32 → Prop) (mu : CS → Int32 → Nat), I S x6 ∧ ∀ (S : CS) (x6 : Int32), I S x6 → b_X1_fitCut_50 x1 x3 x4 x5 post (fun S' x6' => I S' x6' ∧ mu S' x6' < mu S x6) S x6
set_option maxHeartbeats 1000000 in
set_option maxRecDepth 100000 in
theorem t_X1_fitCut_50 {p : Program} {l : Launch} {e : Env} {s : State} {m : MethodId} {args : Array Value} {below : List Frame} {meth : Method} {c : Code} {dC : Nat → ClassId} {dI : Nat → Nat → Nat} {cyI cyJ cyZ : ClassId} {r : Nat → Nat} {a : Nat → Nat} {A : Nat → Prop} {S : CS} {x1 : Int32} {x3 : Int32} {x4 : Int32} {x5 : Int32} {x6 : Int32} {post : CS → Prop} (G : xG p s m args meth c cX1_fitCut 7 RX1 none wsX1_fitCut (dC, dI) (tyA cyI cyJ cyZ) r A) (h : p_X1_fitCut_50 S x1 x3 x4 x5 x6 post) {H : Heap} {locs : List Loc} {ls : Array Slot} (hP : va_P (dC, dI) vwCl (wC cyI cyJ cyZ a S) H) (hD : va_D A (wC cyI cyJ cyZ a S)) (hS : va_S A s.heap H locs) (hl : lv_has ls 7 [(0, .ref (a 4)), (1, .int x1), (3, .int x3), (4, .int x4), (5, .int x5), (6, .int x6)]) : W p l e { frames := 3, cells := 0, slots := 0, locals := 84 } s m args below meth c H locs 0 0 (MQ below (va_Qv post (xAt (dC, dI) (tyA cyI cyJ cyZ) (wC cyI cyJ cyZ a) A) A) args s 0 0 A) (F0 m 50 ls []) := by
  obtain ⟨hx, hb, hml, hown, hts, hr, hlocks, hK, hE, hA⟩ := id G
  have hiX1 : ∀ w ∈ wsX10, w ∈ wsX1_fitCut := by decide +kernel
  have hf31 := hts (.fieldLink RX1 31 "CellMapping$Gates" "shelf" "LCellMapping$Shelf;") (by decide +kernel)
  have hiX3 : ∀ w ∈ wsX30, w ∈ wsX1_fitCut := by decide +kernel
  have hf122 := hts (.fieldLink RX1 122 "CellMapping$Shelf" "cellCount" "I") (by decide +kernel)
  have hf75 := hts (.fieldLink RX1 75 "CellMapping$Shelf" "pins" "[I") (by decide +kernel)
  obtain ⟨I, mu, h0, hstep⟩ := h
  suffices hgo : ∀ (n : Nat) (S : CS) (x6 : Int32), I S x6 → mu S x6 < n → ∀ (H : Heap) (locs : List Loc) (ls : Array Slot), va_P (dC, dI) vwCl (wC cyI cyJ cyZ a S) H → va_D A (wC cyI cyJ cyZ a S) → va_S A s.heap H locs → lv_has ls 7 [(0, .ref (a 4)), (1, .int x1), (3, .int x3), (4, .int x4), (5, .int x5), (6, .int x6)] → W p l e { frames := 3, cells := 0, slots := 0, locals := 84 } s m args below meth c H locs 0 0 (MQ below (va_Qv post (xAt (dC, dI) (tyA cyI cyJ cyZ) (wC cyI cyJ cyZ a) A) A) args s 0 0 A) (F0 m 50 ls []) from hgo (mu S x6 + 1) S x6 h0 (Nat.lt_succ_self _) H locs ls hP hD hS hl
  clear h0 hP hD hS hl
  intro n
  induction n with
  | zero => intro S x6 _ h; exact absurd h (Nat.not_lt_zero _)
  | succ n ih =>
    intro S x6 hI hmu H locs ls hP hD hS hl
    have h := hstep S x6 hI
    unfold b_X1_fitCut_50 at h
    have k50 : ∀ (S' : CS) (x6' : Int32) (H : Heap) (locs : List Loc) (ls : Array Slot), (fun S' x6' => I S' x6' ∧ mu S' x6' < mu S x6) S' x6' → va_P (dC, dI) vwCl (wC cyI cyJ cyZ a S') H → va_D A (wC cyI cyJ cyZ a S') → va_S A s.heap H locs → lv_has ls 7 [(0, .ref (a 4)), (1, .int x1), (3, .int x3), (4, .int x4), (5, .int x5), (6, .int x6')] → W p l e { frames := 3, cells := 0, slots := 0, locals := 84 } s m args below meth c H locs 0 0 (MQ below (va_Qv post (xAt (dC, dI) (tyA cyI cyJ cyZ) (wC cyI cyJ cyZ a) A) A) args s 0 0 A) (F0 m 50 ls []) := fun S' x6' H locs ls hh hP hD hS hl => ih S' x6' hh.1 (Nat.lt_of_lt_of_le hh.2 (Nat.le_of_lt_succ hmu)) H locs ls hP hD hS hl
    generalize (fun S' x6' => I S' x6' ∧ mu S' x6' < mu S x6) = g50 at h k50
    refine lv_iload hx hb dX1_fitCut_50 (lv_at hl 5 rfl) ?_
    refine lv_aload_n hx hb dX1_fitCut_52 rfl (lv_at hl 0 rfl) ?_
    refine va_get (D := (dC, dI)) (ci := 1) (v := .ref (a 3)) (C := RX1) (T := TX1) (N := 6) hx hb hts hiX1 hown hK hP 4 rfl rfl 2 (by decide) hf31 (fun _ h9 => h9) rfl dX1_fitCut_53 ?_
    refine va_get (D := (dC, dI)) (ci := 3) (v := .int (cCC S)) (C := RX3) (T := TX3) (N := 6) hx hb hts hiX3 hown hK hP 3 rfl rfl 5 (by decide) hf122 (fun _ h9 => h9) rfl dX1_fitCut_56 ?_
    refine lv_icmp_ge (tgt := 108) hx hb dX1_fitCut_59 (by decide) (fun c4 => ?_) (fun c4 => ?_)
    · have h := h.1 c4
      exact xr_v (S := S) hx hb hr hlocks hK hP hD hS h (Nat.le_of_ble_eq_true rfl) (Nat.le_of_ble_eq_true rfl) dX1_fitCut_108
    · have h := h.2 c4
      refine lv_aload_n hx hb dX1_fitCut_62 rfl (lv_at hl 0 rfl) ?_
      refine va_get (D := (dC, dI)) (ci := 1) (v := .ref (a 3)) (C := RX1) (T := TX1) (N := 6) hx hb hts hiX1 hown hK hP 4 rfl rfl 2 (by decide) hf31 (fun _ h9 => h9) rfl dX1_fitCut_63 ?_
      refine va_get (D := (dC, dI)) (ci := 3) (v := .ref (a 12)) (C := RX3) (T := TX3) (N := 6) hx hb hts hiX3 hown hK hP 3 rfl rfl 0 (by decide) hf75 (fun _ h9 => h9) rfl dX1_fitCut_66 ?_
      refine lv_iload hx hb dX1_fitCut_69 (lv_at hl 5 rfl) ?_
      obtain ⟨i5, h⟩ := h
      refine va_iald (D := (dC, dI)) hx hb hK hP 12 0 rfl rfl i5 dX1_fitCut_71 ?_
      refine lv_iload hx hb dX1_fitCut_72 (lv_at hl 3 rfl) ?_
      refine lv_icmp_ne (tgt := 102) hx hb dX1_fitCut_74 (by decide) (fun c6 => ?_) (fun c6 => ?_)
      · have h := h.1 c6
        obtain ⟨y7, ey7⟩ : ∃ z : Int32, z = (x6 + (1 : Int32)) := ⟨_, rfl⟩
        have h := h y7 ey7
        refine lv_iinc (v := y7) (lv' := [(6, .int y7), (0, .ref (a 4)), (1, .int x1), (3, .int x3), (4, .int x4), (5, .int x5)]) hx hb dX1_fitCut_102 hl (k := 5) rfl (by rw [ey7]; rfl) (by decide) rfl (fun ls hl => ?_)
        refine lv_goto (tgt := 50) hx hb dX1_fitCut_105 (by decide) ?_
        exact k50 S y7 H locs ls h hP hD hS (lv_sub hl [1, 2, 3, 4, 5, 0] rfl)
      · have h := h.2 c6
        refine lv_aload_n hx hb dX1_fitCut_77 rfl (lv_at hl 0 rfl) ?_
        refine lv_iconst (v := 2) hx hb dX1_fitCut_78 (by decide) ?_
        refine lv_iload_n hx hb dX1_fitCut_79 rfl (lv_at hl 1 rfl) ?_
        refine lv_imul hx hb dX1_fitCut_80 ?_
        refine lv_iload hx hb dX1_fitCut_81 (lv_at hl 5 rfl) ?_
        refine lv_iload_n hx hb dX1_fitCut_83 rfl (lv_at hl 2 rfl) ?_
        refine xc_Vv (wf := wC cyI cyJ cyZ a) (wr := []) (isC := [0, 1, 2, 3, 4, 5, 6, 7, 8, 9, 10, 11, 12, 13, 14, 15, 16, 17, 18, 19, 20]) (isR := []) (As := [.int ((2 : Int32) * x1), .int x6, .int x3]) (rest := []) ⟨hx, hb, hml, hown, hts⟩ (t_X1_fitCell h) (cwV 3 hts gX1_fitCut_X1_fitCell rfl rfl rfl (by decide +kernel) ⟨Nat.le_of_ble_eq_true rfl, Nat.le_of_ble_eq_true rfl⟩) ⟨hK, hE, hA, hP, hD, hS, rfl, rfl, rfl, rfl, by decide⟩ ⟨4, 1, _, _, rfl, rfl, rfl⟩ rfl rfl hl.1 (Nat.le_of_ble_eq_true rfl) dX1_fitCut_84 ⟨Nat.le_of_ble_eq_true rfl, Nat.le_of_ble_eq_true rfl⟩ (fun  S8 H locs h hP hD hS => ?_)
        have hP : va_P (dC, dI) vwCl (wC cyI cyJ cyZ a S8) H := hP
        have hD : va_D A (wC cyI cyJ cyZ a S8) := hD
        refine lv_aload_n hx hb dX1_fitCut_87 rfl (lv_at hl 0 rfl) ?_
        refine lv_iconst (v := 2) hx hb dX1_fitCut_88 (by decide) ?_
        refine lv_iload_n hx hb dX1_fitCut_89 rfl (lv_at hl 1 rfl) ?_
        refine lv_imul hx hb dX1_fitCut_90 ?_
        refine lv_iconst (v := 1) hx hb dX1_fitCut_91 (by decide) ?_
        refine lv_iadd hx hb dX1_fitCut_92 ?_
        refine lv_iload hx hb dX1_fitCut_93 (lv_at hl 5 rfl) ?_
        refine lv_iload_n hx hb dX1_fitCut_95 rfl (lv_at hl 2 rfl) ?_
        refine lv_iload hx hb dX1_fitCut_96 (lv_at hl 4 rfl) ?_
        refine lv_ixor hx hb dX1_fitCut_98 ?_
        refine xc_Vv (wf := wC cyI cyJ cyZ a) (wr := []) (isC := [0, 1, 2, 3, 4, 5, 6, 7, 8, 9, 10, 11, 12, 13, 14, 15, 16, 17, 18, 19, 20]) (isR := []) (As := [.int (((2 : Int32) * x1) + (1 : Int32)), .int x6, .int (x3 ^^^ x5)]) (rest := []) ⟨hx, hb, hml, hown, hts⟩ (t_X1_fitCell h) (cwV 3 hts gX1_fitCut_X1_fitCell rfl rfl rfl (by decide +kernel) ⟨Nat.le_of_ble_eq_true rfl, Nat.le_of_ble_eq_true rfl⟩) ⟨hK, hE, hA, hP, hD, hS, rfl, rfl, rfl, rfl, by decide⟩ ⟨4, 1, _, _, rfl, rfl, rfl⟩ rfl rfl hl.1 (Nat.le_of_ble_eq_true rfl) dX1_fitCut_99 ⟨Nat.le_of_ble_eq_true rfl, Nat.le_of_ble_eq_true rfl⟩ (fun  S9 H locs h hP hD hS => ?_)
        have hP : va_P (dC, dI) vwCl (wC cyI cyJ cyZ a S9) H := hP
        have hD : va_D A (wC cyI cyJ cyZ a S9) := hD
        obtain ⟨y10, ey10⟩ : ∃ z : Int32, z = (x6 + (1 : Int32)) := ⟨_, rfl⟩
        have h := h y10 ey10
        refine lv_iinc (v := y10) (lv' := [(6, .int y10), (0, .ref (a 4)), (1, .int x1), (3, .int x3), (4, .int x4), (5, .int x5)]) hx hb dX1_fitCut_102 hl (k := 5) rfl (by rw [ey10]; rfl) (by decide) rfl (fun ls hl => ?_)
        refine lv_goto (tgt := 50) hx hb dX1_fitCut_105 (by decide) ?_
        exact k50 S9 y10 H locs ls h hP hD hS (lv_sub hl [1, 2, 3, 4, 5, 0] rfl)
def b_X1_fitCut_6 (x1 : Int32) (x2 : Int32) (x3 : Int32) (post : CS → Prop) (g6 : CS → Int32 → Int32 → Prop) (S : CS) (x4 : Int32) (x5 : Int32) : Prop := (x1 ≤ x5 → (p_X4_full S x4 (fun r2 => p_X1_fitCut_50 S x1 x3 x4 r2 (0 : Int32) post))) ∧ (¬ x1 ≤ x5 → ((¬ ((ushr x2 x5) &&& (1 : Int32)) = (1 : Int32) → (∀ y12 : Int32, y12 = (x5 + (1 : Int32)) → (g6 S x4 y12))) ∧ (((ushr x2 x5) &&& (1 : Int32)) = (1 : Int32) → (vp_in x4 3 ∧ (∀ S14 : CS, S14 = (cLN_s S (upd (cLN S) x4.toNatClampNeg x5)) → (∀ y15 : Int32, y15 = (x4 + (1 : Int32)) → (∀ y16 : Int32, y16 = (x5 + (1 : Int32)) → (g6 S14 y15 y16))))))))
def p_X1_fitCut_6 (S : CS) (x1 : Int32) (x2 : Int32) (x3 : Int32) (x4 : Int32) (x5 : Int32) (post : CS → Prop) : Prop := ∃ (I : CS → Int32 → Int32 → Prop) (mu : CS → Int32 → Int32 → Nat), I S x4 x5 ∧ ∀ (S : CS) (x4 : Int32) (x5 : Int32), I S x4 x5 → b_X1_fitCut_6 x1 x2 x3 post (fun S' x4' x5' => I S' x4' x5' ∧ mu S' x4' x5' < mu S x4 x5) S x4 x5
set_option maxHeartbeats 1000000 in
set_option maxRecDepth 100000 in
theorem t_X1_fitCut_6 {p : Program} {l : Launch} {e : Env} {s : State} {m : MethodId} {args : Array Value} {below : List Frame} {meth : Method} {c : Code} {dC : Nat → ClassId} {dI : Nat → Nat → Nat} {cyI cyJ cyZ : ClassId} {r : Nat → Nat} {a : Nat → Nat} {A : Nat → Prop} {S : CS} {x1 : Int32} {x2 : Int32} {x3 : Int32} {x4 : Int32} {x5 : Int32} {post : CS → Prop} (G : xG p s m args meth c cX1_fitCut 7 RX1 none wsX1_fitCut (dC, dI) (tyA cyI cyJ cyZ) r A) (h : p_X1_fitCut_6 S x1 x2 x3 x4 x5 post) {H : Heap} {locs : List Loc} {ls : Array Slot} (hP : va_P (dC, dI) vwCl (wC cyI cyJ cyZ a S) H) (hD : va_D A (wC cyI cyJ cyZ a S)) (hS : va_S A s.heap H locs) (hl : lv_has ls 7 [(0, .ref (a 4)), (1, .int x1), (2, .int x2), (3, .int x3), (4, .int x4), (5, .int x5)]) : W p l e { frames := 3, cells := 0, slots := 0, locals := 84 } s m args below meth c H locs 0 0 (MQ below (va_Qv post (xAt (dC, dI) (tyA cyI cyJ cyZ) (wC cyI cyJ cyZ a) A) A) args s 0 0 A) (F0 m 6 ls []) := by
  obtain ⟨hx, hb, hml, hown, hts, hr, hlocks, hK, hE, hA⟩ := id G
  have hiX1 : ∀ w ∈ wsX10, w ∈ wsX1_fitCut := by decide +kernel
  have hf19 := hts (.fieldLink RX1 19 "CellMapping$Gates" "leafNodes" "[I") (by decide +kernel)
  obtain ⟨I, mu, h0, hstep⟩ := h
  suffices hgo : ∀ (n : Nat) (S : CS) (x4 : Int32) (x5 : Int32), I S x4 x5 → mu S x4 x5 < n → ∀ (H : Heap) (locs : List Loc) (ls : Array Slot), va_P (dC, dI) vwCl (wC cyI cyJ cyZ a S) H → va_D A (wC cyI cyJ cyZ a S) → va_S A s.heap H locs → lv_has ls 7 [(0, .ref (a 4)), (1, .int x1), (2, .int x2), (3, .int x3), (4, .int x4), (5, .int x5)] → W p l e { frames := 3, cells := 0, slots := 0, locals := 84 } s m args below meth c H locs 0 0 (MQ below (va_Qv post (xAt (dC, dI) (tyA cyI cyJ cyZ) (wC cyI cyJ cyZ a) A) A) args s 0 0 A) (F0 m 6 ls []) from hgo (mu S x4 x5 + 1) S x4 x5 h0 (Nat.lt_succ_self _) H locs ls hP hD hS hl
  clear h0 hP hD hS hl
  intro n
  induction n with
  | zero => intro S x4 x5 _ h; exact absurd h (Nat.not_lt_zero _)
  | succ n ih =>
    intro S x4 x5 hI hmu H locs ls hP hD hS hl
    have h := hstep S x4 x5 hI
    unfold b_X1_fitCut_6 at h
    have k6 : ∀ (S' : CS) (x4' : Int32) (x5' : Int32) (H : Heap) (locs : List Loc) (ls : Array Slot), (fun S' x4' x5' => I S' x4' x5' ∧ mu S' x4' x5' < mu S x4 x5) S' x4' x5' → va_P (dC, dI) vwCl (wC cyI cyJ cyZ a S') H → va_D A (wC cyI cyJ cyZ a S') → va_S A s.heap H locs → lv_has ls 7 [(0, .ref (a 4)), (1, .int x1), (2, .int x2), (3, .int x3), (4, .int x4'), (5, .int x5')] → W p l e { frames := 3, cells := 0, slots := 0, locals := 84 } s m args below meth c H locs 0 0 (MQ below (va_Qv post (xAt (dC, dI) (tyA cyI cyJ cyZ) (wC cyI cyJ cyZ a) A) A) args s 0 0 A) (F0 m 6 ls []) := fun S' x4' x5' H locs ls hh hP hD hS hl => ih S' x4' x5' hh.1 (Nat.lt_of_lt_of_le hh.2 (Nat.le_of_lt_succ hmu)) H locs ls hP hD hS hl
    generalize (fun S' x4' x5' => I S' x4' x5' ∧ mu S' x4' x5' < mu S x4 x5) = g6 at h k6
    refine lv_iload hx hb dX1_fitCut_6 (lv_at hl 5 rfl) ?_
    refine lv_iload_n hx hb dX1_fitCut_8 rfl (lv_at hl 1 rfl) ?_
    refine lv_icmp_ge (tgt := 40) hx hb dX1_fitCut_9 (by decide) (fun c1 => ?_) (fun c1 => ?_)
    · have h := h.1 c1
      refine lv_iload hx hb dX1_fitCut_40 (lv_at hl 4 rfl) ?_
      refine xc_Si (wf := wC cyI cyJ cyZ a) (wr := []) (isC := [0, 1, 2, 3, 4, 5, 6, 7, 8, 9, 10, 11, 12, 13, 14, 15, 16, 17, 18, 19, 20]) (isR := []) (As := [.int x4]) (rest := []) ⟨hx, hb, hml, hown, hts⟩ (t_X4_full h) (va_cwS 1 hts gX1_fitCut_X4_full rfl rfl rfl (by decide +kernel) ⟨Nat.le_of_ble_eq_true rfl, Nat.le_of_ble_eq_true rfl⟩) ⟨hK, hE, hA, hP, hD, hS, rfl, rfl, rfl, rfl, by decide⟩ rfl rfl hl.1 (Nat.le_of_ble_eq_true rfl) dX1_fitCut_42 ⟨Nat.le_of_ble_eq_true rfl, Nat.le_of_ble_eq_true rfl⟩ (fun r2 S3 H locs h hP hD hS => ?_)
      obtain ⟨rfl, h⟩ := h
      have hP : va_P (dC, dI) vwCl (wC cyI cyJ cyZ a S) H := hP
      have hD : va_D A (wC cyI cyJ cyZ a S) := hD
      refine lv_istore (lv' := [(5, .int r2), (0, .ref (a 4)), (1, .int x1), (2, .int x2), (3, .int x3), (4, .int x4)]) hx hb dX1_fitCut_45 hl (by decide) rfl (fun ls hl => ?_)
      refine lv_iconst (v := 0) hx hb dX1_fitCut_47 (by decide) ?_
      refine lv_istore (lv' := [(6, .int (0 : Int32)), (5, .int r2), (0, .ref (a 4)), (1, .int x1), (2, .int x2), (3, .int x3), (4, .int x4)]) hx hb dX1_fitCut_48 hl (by decide) rfl (fun ls hl => ?_)
      exact t_X1_fitCut_50 G h hP hD hS (lv_sub hl [2, 3, 5, 6, 1, 0] rfl)
    · have h := h.2 c1
      refine lv_iload_n hx hb dX1_fitCut_12 rfl (lv_at hl 2 rfl) ?_
      refine lv_iload hx hb dX1_fitCut_13 (lv_at hl 5 rfl) ?_
      refine lv_iushr (v := (ushr x2 x5)) hx hb dX1_fitCut_15 rfl ?_
      refine lv_iconst (v := 1) hx hb dX1_fitCut_16 (by decide) ?_
      refine lv_iand hx hb dX1_fitCut_17 ?_
      refine lv_iconst (v := 1) hx hb dX1_fitCut_18 (by decide) ?_
      refine lv_icmp_ne (tgt := 34) hx hb dX1_fitCut_19 (by decide) (fun c11 => ?_) (fun c11 => ?_)
      · have h := h.1 c11
        obtain ⟨y12, ey12⟩ : ∃ z : Int32, z = (x5 + (1 : Int32)) := ⟨_, rfl⟩
        have h := h y12 ey12
        refine lv_iinc (v := y12) (lv' := [(5, .int y12), (0, .ref (a 4)), (1, .int x1), (2, .int x2), (3, .int x3), (4, .int x4)]) hx hb dX1_fitCut_34 hl (k := 5) rfl (by rw [ey12]; rfl) (by decide) rfl (fun ls hl => ?_)
        refine lv_goto (tgt := 6) hx hb dX1_fitCut_37 (by decide) ?_
        exact k6 S x4 y12 H locs ls h hP hD hS (lv_sub hl [1, 2, 3, 4, 5, 0] rfl)
      · have h := h.2 c11
        refine lv_aload_n hx hb dX1_fitCut_22 rfl (lv_at hl 0 rfl) ?_
        refine va_get (D := (dC, dI)) (ci := 1) (v := .ref (a 18)) (C := RX1) (T := TX1) (N := 6) hx hb hts hiX1 hown hK hP 4 rfl rfl 4 (by decide) hf19 (fun _ h9 => h9) rfl dX1_fitCut_23 ?_
        refine lv_iload hx hb dX1_fitCut_26 (lv_at hl 4 rfl) ?_
        refine lv_iload hx hb dX1_fitCut_28 (lv_at hl 5 rfl) ?_
        obtain ⟨i13, h⟩ := h
        refine va_iast (D := (dC, dI)) hx hb hK hP hD hS 18 0 rfl rfl i13 dX1_fitCut_30 (fun H locs hP hD hS => ?_)
        obtain ⟨S14, eS14⟩ : ∃ z : CS, z = (cLN_s S (upd (cLN S) x4.toNatClampNeg x5)) := ⟨_, rfl⟩
        have h := h S14 eS14
        have hP := nP_cLN eS14 hP
        have hD := nD_cLN eS14 hD
        obtain ⟨y15, ey15⟩ : ∃ z : Int32, z = (x4 + (1 : Int32)) := ⟨_, rfl⟩
        have h := h y15 ey15
        refine lv_iinc (v := y15) (lv' := [(4, .int y15), (0, .ref (a 4)), (1, .int x1), (2, .int x2), (3, .int x3), (5, .int x5)]) hx hb dX1_fitCut_31 hl (k := 4) rfl (by rw [ey15]; rfl) (by decide) rfl (fun ls hl => ?_)
        obtain ⟨y16, ey16⟩ : ∃ z : Int32, z = (x5 + (1 : Int32)) := ⟨_, rfl⟩
        have h := h y16 ey16
        refine lv_iinc (v := y16) (lv' := [(5, .int y16), (4, .int y15), (0, .ref (a 4)), (1, .int x1), (2, .int x2), (3, .int x3)]) hx hb dX1_fitCut_34 hl (k := 5) rfl (by rw [ey16]; rfl) (by decide) rfl (fun ls hl => ?_)
        refine lv_goto (tgt := 6) hx hb dX1_fitCut_37 (by decide) ?_
        exact k6 S14 y15 y16 H locs ls h hP hD hS (lv_sub hl [2, 3, 4, 5, 1, 0] rfl)
def p_X1_fitCut (S : CS) (x1 : Int32) (x2 : Int32) (x3 : Int32) (post : CS → Prop) : Prop := p_X1_fitCut_6 S x1 x2 x3 (0 : Int32) (0 : Int32) post
set_option maxHeartbeats 1000000 in
set_option maxRecDepth 100000 in
theorem t_X1_fitCut {l : Launch} {dC : Nat → ClassId} {dI : Nat → Nat → Nat} {cyI cyJ cyZ : ClassId} {r : Nat → Nat} {a : Nat → Nat} {S : CS} {x1 : Int32} {x2 : Int32} {x3 : Int32} {post : CS → Prop} (h : p_X1_fitCut S x1 x2 x3 post) : xMv l yX1_fitCut wsX1_fitCut { frames := 3, cells := 0, slots := 0, locals := 84 } (dC, dI) (tyA cyI cyJ cyZ) r (wC cyI cyJ cyZ a) [.ref (a 4), .int x1, .int x2, .int x3] S post 0 0 := by
  intro sz
  refine Met.ofW (cc := cX1_fitCut) (maxL := 7) (ret := none) (by decide) rfl ?_
  intro p e s m args below meth c s₁ B hml hv
  obtain ⟨rfl, G, hP, hD, hS⟩ := xG.of rfl B hml hv
  generalize hAe : va_A (wC cyI cyJ cyZ a S) sz = A at G hD hS ⊢
  have G : xG p s m _ meth c cX1_fitCut 7 RX1 none wsX1_fitCut (dC, dI) (tyA cyI cyJ cyZ) r A := G
  obtain ⟨hx, hb, hml, hown, hts, hr, hlocks, hK, hE, hA⟩ := id G
  have hl := lv_entry ([.ref (a 4), .int x1, .int x2, .int x3]) (n := 7) (Nat.le_of_ble_eq_true rfl)
  rw [lg_entry_eq]
  generalize (lg_sl ([.ref (a 4), .int x1, .int x2, .int x3]) ++ List.replicate (7 - (lg_sl ([.ref (a 4), .int x1, .int x2, .int x3])).length) Slot.unset).toArray = ls at hl ⊢
  have hl : lv_has ls 7 [(0, .ref (a 4)), (1, .int x1), (2, .int x2), (3, .int x3)] := hl
  show W p l e { frames := 3, cells := 0, slots := 0, locals := 84 } s m _ below meth c s.heap [] 0 0 _ _
  unfold p_X1_fitCut at h
  refine lv_iconst (v := 0) hx hb dX1_fitCut_0 (by decide) ?_
  refine lv_istore (lv' := [(4, .int (0 : Int32)), (0, .ref (a 4)), (1, .int x1), (2, .int x2), (3, .int x3)]) hx hb dX1_fitCut_1 hl (by decide) rfl (fun ls hl => ?_)
  refine lv_iconst (v := 0) hx hb dX1_fitCut_3 (by decide) ?_
  refine lv_istore (lv' := [(5, .int (0 : Int32)), (4, .int (0 : Int32)), (0, .ref (a 4)), (1, .int x1), (2, .int x2), (3, .int x3)]) hx hb dX1_fitCut_4 hl (by decide) rfl (fun ls hl => ?_)
  exact t_X1_fitCut_6 G h hP hD hS (lv_sub hl [2, 3, 4, 5, 1, 0] rfl)
def b_X1_fitInverters_8 (x1 : Int32) (x2 : Int32) (post : CS → Prop) (g8 : CS → Int32 → Prop) (S : CS) (x3 : Int32) : Prop := ((cCC S) ≤ x3 → (post S)) ∧ (¬ (cCC S) ≤ x3 → (p_X3_isInverter S x3 (fun r3 => (r3 = 0 → (∀ y6 : Int32, y6 = (x3 + (1 : Int32)) → (g8 S y6))) ∧ (¬ r3 = 0 → (p_X1_pinShift S (0 : Int32) (fun r7 => ∀ y9 : Int64, y9 = (lshl ((x1 ^^^ (1 : Int32)).toInt64) r7) → (p_X3_delayAt S x3 (0 : Int32) (fun r10 => p_X1_offer S x1 (x2 + r10) ((4194304 : Int64) ||| y9) x3 (fun S12 => ∀ y13 : Int32, y13 = (x3 + (1 : Int32)) → (g8 S12 y13))))))))))
def p_X1_fitInverters_8 (S : CS) (x1 : Int32) (x2 : Int32) (x3 : Int32) (post : CS → Prop) : Prop := ∃ (I : CS → Int32 → Prop) (mu : CS → Int32 → Nat), I S x3 ∧ ∀ (S : CS) (x3 : Int32), I S x3 → b_X1_fitInverters_8 x1 x2 post (fun S' x3' => I S' x3' ∧ mu S' x3' < mu S x3) S x3
set_option maxHeartbeats 1000000 in
set_option maxRecDepth 100000 in
theorem t_X1_fitInverters_8 {p : Program} {l : Launch} {e : Env} {s : State} {m : MethodId} {args : Array Value} {below : List Frame} {meth : Method} {c : Code} {dC : Nat → ClassId} {dI : Nat → Nat → Nat} {cyI cyJ cyZ : ClassId} {r : Nat → Nat} {a : Nat → Nat} {A : Nat → Prop} {S : CS} {x1 : Int32} {x2 : Int32} {x3 : Int32} {post : CS → Prop} (G : xG p s m args meth c cX1_fitInverters 6 RX1 none wsX1_fitInverters (dC, dI) (tyA cyI cyJ cyZ) r A) (h : p_X1_fitInverters_8 S x1 x2 x3 post) {H : Heap} {locs : List Loc} {ls : Array Slot} (hP : va_P (dC, dI) vwCl (wC cyI cyJ cyZ a S) H) (hD : va_D A (wC cyI cyJ cyZ a S)) (hS : va_S A s.heap H locs) (hl : lv_has ls 6 [(0, .ref (a 4)), (1, .int x1), (2, .int x2), (3, .int x3)]) : W p l e { frames := 1, cells := 0, slots := 0, locals := 27 } s m args below meth c H locs 0 0 (MQ below (va_Qv post (xAt (dC, dI) (tyA cyI cyJ cyZ) (wC cyI cyJ cyZ a) A) A) args s 0 0 A) (F0 m 8 ls []) := by
  obtain ⟨hx, hb, hml, hown, hts, hr, hlocks, hK, hE, hA⟩ := id G
  have hiX1 : ∀ w ∈ wsX10, w ∈ wsX1_fitInverters := by decide +kernel
  have hf31 := hts (.fieldLink RX1 31 "CellMapping$Gates" "shelf" "LCellMapping$Shelf;") (by decide +kernel)
  have hiX3 : ∀ w ∈ wsX30, w ∈ wsX1_fitInverters := by decide +kernel
  have hf122 := hts (.fieldLink RX1 122 "CellMapping$Shelf" "cellCount" "I") (by decide +kernel)
  obtain ⟨I, mu, h0, hstep⟩ := h
  suffices hgo : ∀ (n : Nat) (S : CS) (x3 : Int32), I S x3 → mu S x3 < n → ∀ (H : Heap) (locs : List Loc) (ls : Array Slot), va_P (dC, dI) vwCl (wC cyI cyJ cyZ a S) H → va_D A (wC cyI cyJ cyZ a S) → va_S A s.heap H locs → lv_has ls 6 [(0, .ref (a 4)), (1, .int x1), (2, .int x2), (3, .int x3)] → W p l e { frames := 1, cells := 0, slots := 0, locals := 27 } s m args below meth c H locs 0 0 (MQ below (va_Qv post (xAt (dC, dI) (tyA cyI cyJ cyZ) (wC cyI cyJ cyZ a) A) A) args s 0 0 A) (F0 m 8 ls []) from hgo (mu S x3 + 1) S x3 h0 (Nat.lt_succ_self _) H locs ls hP hD hS hl
  clear h0 hP hD hS hl
  intro n
  induction n with
  | zero => intro S x3 _ h; exact absurd h (Nat.not_lt_zero _)
  | succ n ih =>
    intro S x3 hI hmu H locs ls hP hD hS hl
    have h := hstep S x3 hI
    unfold b_X1_fitInverters_8 at h
    have k8 : ∀ (S' : CS) (x3' : Int32) (H : Heap) (locs : List Loc) (ls : Array Slot), (fun S' x3' => I S' x3' ∧ mu S' x3' < mu S x3) S' x3' → va_P (dC, dI) vwCl (wC cyI cyJ cyZ a S') H → va_D A (wC cyI cyJ cyZ a S') → va_S A s.heap H locs → lv_has ls 6 [(0, .ref (a 4)), (1, .int x1), (2, .int x2), (3, .int x3')] → W p l e { frames := 1, cells := 0, slots := 0, locals := 27 } s m args below meth c H locs 0 0 (MQ below (va_Qv post (xAt (dC, dI) (tyA cyI cyJ cyZ) (wC cyI cyJ cyZ a) A) A) args s 0 0 A) (F0 m 8 ls []) := fun S' x3' H locs ls hh hP hD hS hl => ih S' x3' hh.1 (Nat.lt_of_lt_of_le hh.2 (Nat.le_of_lt_succ hmu)) H locs ls hP hD hS hl
    generalize (fun S' x3' => I S' x3' ∧ mu S' x3' < mu S x3) = g8 at h k8
    refine lv_iload_n hx hb dX1_fitInverters_8 rfl (lv_at hl 3 rfl) ?_
    refine lv_aload_n hx hb dX1_fitInverters_9 rfl (lv_at hl 0 rfl) ?_
    refine va_get (D := (dC, dI)) (ci := 1) (v := .ref (a 3)) (C := RX1) (T := TX1) (N := 6) hx hb hts hiX1 hown hK hP 4 rfl rfl 2 (by decide) hf31 (fun _ h9 => h9) rfl dX1_fitInverters_10 ?_
    refine va_get (D := (dC, dI)) (ci := 3) (v := .int (cCC S)) (C := RX3) (T := TX3) (N := 6) hx hb hts hiX3 hown hK hP 3 rfl rfl 5 (by decide) hf122 (fun _ h9 => h9) rfl dX1_fitInverters_13 ?_
    refine lv_icmp_ge (tgt := 70) hx hb dX1_fitInverters_16 (by decide) (fun c2 => ?_) (fun c2 => ?_)
    · have h := h.1 c2
      exact xr_v (S := S) hx hb hr hlocks hK hP hD hS h (Nat.le_of_ble_eq_true rfl) (Nat.le_of_ble_eq_true rfl) dX1_fitInverters_70
    · have h := h.2 c2
      refine lv_aload_n hx hb dX1_fitInverters_19 rfl (lv_at hl 0 rfl) ?_
      refine va_get (D := (dC, dI)) (ci := 1) (v := .ref (a 3)) (C := RX1) (T := TX1) (N := 6) hx hb hts hiX1 hown hK hP 4 rfl rfl 2 (by decide) hf31 (fun _ h9 => h9) rfl dX1_fitInverters_20 ?_
      refine lv_iload_n hx hb dX1_fitInverters_23 rfl (lv_at hl 3 rfl) ?_
      refine xc_Vi (wf := wC cyI cyJ cyZ a) (wr := []) (isC := [0, 1, 2, 3, 4, 5, 6, 7, 8, 9, 10, 11, 12, 13, 14, 15, 16, 17, 18, 19, 20]) (isR := []) (As := [.int x3]) (rest := []) ⟨hx, hb, hml, hown, hts⟩ (t_X3_isInverter h) (cwV 1 hts gX1_fitInverters_X3_isInverter rfl rfl rfl (by decide +kernel) ⟨Nat.le_of_ble_eq_true rfl, Nat.le_of_ble_eq_true rfl⟩) ⟨hK, hE, hA, hP, hD, hS, rfl, rfl, rfl, rfl, by decide⟩ ⟨3, 3, _, _, rfl, rfl, rfl⟩ rfl rfl hl.1 (Nat.le_of_ble_eq_true rfl) dX1_fitInverters_24 ⟨Nat.le_of_ble_eq_true rfl, Nat.le_of_ble_eq_true rfl⟩ (fun r3 S4 H locs h hP hD hS => ?_)
      obtain ⟨rfl, h⟩ := h
      have hP : va_P (dC, dI) vwCl (wC cyI cyJ cyZ a S) H := hP
      have hD : va_D A (wC cyI cyJ cyZ a S) := hD
      refine lv_if_eq (tgt := 64) hx hb dX1_fitInverters_27 (by decide) (fun c5 => ?_) (fun c5 => ?_)
      · have h := h.1 c5
        obtain ⟨y6, ey6⟩ : ∃ z : Int32, z = (x3 + (1 : Int32)) := ⟨_, rfl⟩
        have h := h y6 ey6
        refine lv_iinc (v := y6) (lv' := [(3, .int y6), (0, .ref (a 4)), (1, .int x1), (2, .int x2)]) hx hb dX1_fitInverters_64 hl (k := 3) rfl (by rw [ey6]; rfl) (by decide) rfl (fun ls hl => ?_)
        refine lv_goto (tgt := 8) hx hb dX1_fitInverters_67 (by decide) ?_
        exact k8 S y6 H locs ls h hP hD hS (lv_sub hl [1, 2, 3, 0] rfl)
      · have h := h.2 c5
        refine lv_iload_n hx hb dX1_fitInverters_30 rfl (lv_at hl 1 rfl) ?_
        refine lv_iconst (v := 1) hx hb dX1_fitInverters_31 (by decide) ?_
        refine lv_ixor hx hb dX1_fitInverters_32 ?_
        refine lv_i2l (v := (x1 ^^^ (1 : Int32)).toInt64) hx hb dX1_fitInverters_33 rfl ?_
        refine lv_iconst (v := 0) hx hb dX1_fitInverters_34 (by decide) ?_
        refine xc_Si (wf := wC cyI cyJ cyZ a) (wr := []) (isC := [0, 1, 2, 3, 4, 5, 6, 7, 8, 9, 10, 11, 12, 13, 14, 15, 16, 17, 18, 19, 20]) (isR := []) (As := [.int (0 : Int32)]) (rest := [.long ((x1 ^^^ (1 : Int32)).toInt64)]) ⟨hx, hb, hml, hown, hts⟩ (t_X1_pinShift h) (va_cwS 1 hts gX1_fitInverters_X1_pinShift rfl rfl rfl (by decide +kernel) ⟨Nat.le_of_ble_eq_true rfl, Nat.le_of_ble_eq_true rfl⟩) ⟨hK, hE, hA, hP, hD, hS, rfl, rfl, rfl, rfl, by decide⟩ rfl rfl hl.1 (Nat.le_of_ble_eq_true rfl) dX1_fitInverters_35 ⟨Nat.le_of_ble_eq_true rfl, Nat.le_of_ble_eq_true rfl⟩ (fun r7 S8 H locs h hP hD hS => ?_)
        obtain ⟨rfl, h⟩ := h
        have hP : va_P (dC, dI) vwCl (wC cyI cyJ cyZ a S) H := hP
        have hD : va_D A (wC cyI cyJ cyZ a S) := hD
        refine lv_lshl (v := (lshl ((x1 ^^^ (1 : Int32)).toInt64) r7)) hx hb dX1_fitInverters_38 rfl ?_
        refine lv_topl (fun y9 ey9 => ?_)
        have h := h y9 ey9
        refine lv_lstore (lv' := [(4, .long y9), (0, .ref (a 4)), (1, .int x1), (2, .int x2), (3, .int x3)]) hx hb dX1_fitInverters_39 hl (by decide) rfl (fun ls hl => ?_)
        refine lv_aload_n hx hb dX1_fitInverters_41 rfl (lv_at hl 1 rfl) ?_
        refine lv_iload_n hx hb dX1_fitInverters_42 rfl (lv_at hl 2 rfl) ?_
        refine lv_iload_n hx hb dX1_fitInverters_43 rfl (lv_at hl 3 rfl) ?_
        refine lv_aload_n hx hb dX1_fitInverters_44 rfl (lv_at hl 1 rfl) ?_
        refine va_get (D := (dC, dI)) (ci := 1) (v := .ref (a 3)) (C := RX1) (T := TX1) (N := 6) hx hb hts hiX1 hown hK hP 4 rfl rfl 2 (by decide) hf31 (fun _ h9 => h9) rfl dX1_fitInverters_45 ?_
        refine lv_iload_n hx hb dX1_fitInverters_48 rfl (lv_at hl 4 rfl) ?_
        refine lv_iconst (v := 0) hx hb dX1_fitInverters_49 (by decide) ?_
        refine xc_Vi (wf := wC cyI cyJ cyZ a) (wr := []) (isC := [0, 1, 2, 3, 4, 5, 6, 7, 8, 9, 10, 11, 12, 13, 14, 15, 16, 17, 18, 19, 20]) (isR := []) (As := [.int x3, .int (0 : Int32)]) (rest := [.int x2, .int x1, .ref (a 4)]) ⟨hx, hb, hml, hown, hts⟩ (t_X3_delayAt h) (cwV 2 hts gX1_fitInverters_X3_delayAt rfl rfl rfl (by decide +kernel) ⟨Nat.le_of_ble_eq_true rfl, Nat.le_of_ble_eq_true rfl⟩) ⟨hK, hE, hA, hP, hD, hS, rfl, rfl, rfl, rfl, by decide⟩ ⟨3, 3, _, _, rfl, rfl, rfl⟩ rfl rfl hl.1 (Nat.le_of_ble_eq_true rfl) dX1_fitInverters_50 ⟨Nat.le_of_ble_eq_true rfl, Nat.le_of_ble_eq_true rfl⟩ (fun r10 S11 H locs h hP hD hS => ?_)
        obtain ⟨rfl, h⟩ := h
        have hP : va_P (dC, dI) vwCl (wC cyI cyJ cyZ a S) H := hP
        have hD : va_D A (wC cyI cyJ cyZ a S) := hD
        refine lv_iadd hx hb dX1_fitInverters_53 ?_
        refine lv_ldc2 (v := 4194304) hx hb hown (hts (.constantLong RX1 131 (4194304)) (by decide +kernel)) dX1_fitInverters_54 ?_
        refine lv_lload hx hb dX1_fitInverters_57 (lv_at hl 0 rfl) ?_
        refine lv_lor hx hb dX1_fitInverters_59 ?_
        refine lv_iload_n hx hb dX1_fitInverters_60 rfl (lv_at hl 4 rfl) ?_
        refine xc_Vv (wf := wC cyI cyJ cyZ a) (wr := []) (isC := [0, 1, 2, 3, 4, 5, 6, 7, 8, 9, 10, 11, 12, 13, 14, 15, 16, 17, 18, 19, 20]) (isR := []) (As := [.int x1, .int (x2 + r10), .long ((4194304 : Int64) ||| y9), .int x3]) (rest := []) ⟨hx, hb, hml, hown, hts⟩ (t_X1_offer h) (cwV 4 hts gX1_fitInverters_X1_offer rfl rfl rfl (by decide +kernel) ⟨Nat.le_of_ble_eq_true rfl, Nat.le_of_ble_eq_true rfl⟩) ⟨hK, hE, hA, hP, hD, hS, rfl, rfl, rfl, rfl, by decide⟩ ⟨4, 1, _, _, rfl, rfl, rfl⟩ rfl rfl hl.1 (Nat.le_of_ble_eq_true rfl) dX1_fitInverters_61 ⟨Nat.le_of_ble_eq_true rfl, Nat.le_of_ble_eq_true rfl⟩ (fun  S12 H locs h hP hD hS => ?_)
        have hP : va_P (dC, dI) vwCl (wC cyI cyJ cyZ a S12) H := hP
        have hD : va_D A (wC cyI cyJ cyZ a S12) := hD
        obtain ⟨y13, ey13⟩ : ∃ z : Int32, z = (x3 + (1 : Int32)) := ⟨_, rfl⟩
        have h := h y13 ey13
        refine lv_iinc (v := y13) (lv' := [(3, .int y13), (4, .long y9), (0, .ref (a 4)), (1, .int x1), (2, .int x2)]) hx hb dX1_fitInverters_64 hl (k := 4) rfl (by rw [ey13]; rfl) (by decide) rfl (fun ls hl => ?_)
        refine lv_goto (tgt := 8) hx hb dX1_fitInverters_67 (by decide) ?_
        exact k8 S12 y13 H locs ls h hP hD hS (lv_sub hl [2, 3, 4, 0] rfl)
def p_X1_fitInverters (S : CS) (x1 : Int32) (x2 : Int32) (post : CS → Prop) : Prop := (¬ x2 = (-1 : Int32) → (p_X1_fitInverters_8 S x1 x2 (0 : Int32) post)) ∧ (x2 = (-1 : Int32) → (post S))
set_option maxHeartbeats 1000000 in
set_option maxRecDepth 100000 in
theorem t_X1_fitInverters {l : Launch} {dC : Nat → ClassId} {dI : Nat → Nat → Nat} {cyI cyJ cyZ : ClassId} {r : Nat → Nat} {a : Nat → Nat} {S : CS} {x1 : Int32} {x2 : Int32} {post : CS → Prop} (h : p_X1_fitInverters S x1 x2 post) : xMv l yX1_fitInverters wsX1_fitInverters { frames := 1, cells := 0, slots := 0, locals := 27 } (dC, dI) (tyA cyI cyJ cyZ) r (wC cyI cyJ cyZ a) [.ref (a 4), .int x1, .int x2] S post 0 0 := by
  intro sz
  refine Met.ofW (cc := cX1_fitInverters) (maxL := 6) (ret := none) (by decide) rfl ?_
  intro p e s m args below meth c s₁ B hml hv
  obtain ⟨rfl, G, hP, hD, hS⟩ := xG.of rfl B hml hv
  generalize hAe : va_A (wC cyI cyJ cyZ a S) sz = A at G hD hS ⊢
  have G : xG p s m _ meth c cX1_fitInverters 6 RX1 none wsX1_fitInverters (dC, dI) (tyA cyI cyJ cyZ) r A := G
  obtain ⟨hx, hb, hml, hown, hts, hr, hlocks, hK, hE, hA⟩ := id G
  have hl := lv_entry ([.ref (a 4), .int x1, .int x2]) (n := 6) (Nat.le_of_ble_eq_true rfl)
  rw [lg_entry_eq]
  generalize (lg_sl ([.ref (a 4), .int x1, .int x2]) ++ List.replicate (6 - (lg_sl ([.ref (a 4), .int x1, .int x2])).length) Slot.unset).toArray = ls at hl ⊢
  have hl : lv_has ls 6 [(0, .ref (a 4)), (1, .int x1), (2, .int x2)] := hl
  show W p l e { frames := 1, cells := 0, slots := 0, locals := 27 } s m _ below meth c s.heap [] 0 0 _ _
  unfold p_X1_fitInverters at h
  refine lv_iload_n hx hb dX1_fitInverters_0 rfl (lv_at hl 2 rfl) ?_
  refine lv_iconst (v := -1) hx hb dX1_fitInverters_1 (by decide) ?_
  refine lv_icmp_ne (tgt := 6) hx hb dX1_fitInverters_2 (by decide) (fun c1 => ?_) (fun c1 => ?_)
  · have h := h.1 c1
    refine lv_iconst (v := 0) hx hb dX1_fitInverters_6 (by decide) ?_
    refine lv_istore_n (lv' := [(3, .int (0 : Int32)), (0, .ref (a 4)), (1, .int x1), (2, .int x2)]) hx hb dX1_fitInverters_7 rfl hl (by decide) rfl (fun ls hl => ?_)
    exact t_X1_fitInverters_8 G h hP hD hS (lv_sub hl [1, 2, 3, 0] rfl)
  · have h := h.2 c1
    exact xr_v (S := S) hx hb hr hlocks hK hP hD hS h (Nat.le_of_ble_eq_true rfl) (Nat.le_of_ble_eq_true rfl) dX1_fitInverters_5
def p_X1_settleNode_108 (S : CS) (x2 : Int32) (post : CS → Prop) : Prop := p_X1_timeOf S x2 (fun r12 => p_X1_timeOf S (x2 + (1 : Int32)) (fun r14 => p_X1_fitInverters S x2 r14 (fun S16 => p_X1_fitInverters S16 (x2 + (1 : Int32)) r12 (fun S17 => post S17))))
set_option maxHeartbeats 1000000 in
set_option maxRecDepth 100000 in
theorem t_X1_settleNode_108 {p : Program} {l : Launch} {e : Env} {s : State} {m : MethodId} {args : Array Value} {below : List Frame} {meth : Method} {c : Code} {dC : Nat → ClassId} {dI : Nat → Nat → Nat} {cyI cyJ cyZ : ClassId} {r : Nat → Nat} {a : Nat → Nat} {A : Nat → Prop} {S : CS} {x2 : Int32} {post : CS → Prop} (G : xG p s m args meth c cX1_settleNode 5 RX1 none wsX1_settleNode (dC, dI) (tyA cyI cyJ cyZ) r A) (h : p_X1_settleNode_108 S x2 post) {H : Heap} {locs : List Loc} {ls : Array Slot} (hP : va_P (dC, dI) vwCl (wC cyI cyJ cyZ a S) H) (hD : va_D A (wC cyI cyJ cyZ a S)) (hS : va_S A s.heap H locs) (hl : lv_has ls 5 [(0, .ref (a 4)), (2, .int x2)]) : W p l e { frames := 4, cells := 0, slots := 0, locals := 110 } s m args below meth c H locs 0 0 (MQ below (va_Qv post (xAt (dC, dI) (tyA cyI cyJ cyZ) (wC cyI cyJ cyZ a) A) A) args s 0 0 A) (F0 m 108 ls []) := by
  obtain ⟨hx, hb, hml, hown, hts, hr, hlocks, hK, hE, hA⟩ := id G
  unfold p_X1_settleNode_108 at h
  refine lv_aload_n hx hb dX1_settleNode_108 rfl (lv_at hl 0 rfl) ?_
  refine lv_iload_n hx hb dX1_settleNode_109 rfl (lv_at hl 1 rfl) ?_
  refine xc_Vi (wf := wC cyI cyJ cyZ a) (wr := []) (isC := [0, 1, 2, 3, 4, 5, 6, 7, 8, 9, 10, 11, 12, 13, 14, 15, 16, 17, 18, 19, 20]) (isR := []) (As := [.int x2]) (rest := []) ⟨hx, hb, hml, hown, hts⟩ (t_X1_timeOf h) (cwV 1 hts gX1_settleNode_X1_timeOf rfl rfl rfl (by decide +kernel) ⟨Nat.le_of_ble_eq_true rfl, Nat.le_of_ble_eq_true rfl⟩) ⟨hK, hE, hA, hP, hD, hS, rfl, rfl, rfl, rfl, by decide⟩ ⟨4, 1, _, _, rfl, rfl, rfl⟩ rfl rfl hl.1 (Nat.le_of_ble_eq_true rfl) dX1_settleNode_110 ⟨Nat.le_of_ble_eq_true rfl, Nat.le_of_ble_eq_true rfl⟩ (fun r12 S13 H locs h hP hD hS => ?_)
  obtain ⟨rfl, h⟩ := h
  have hP : va_P (dC, dI) vwCl (wC cyI cyJ cyZ a S) H := hP
  have hD : va_D A (wC cyI cyJ cyZ a S) := hD
  refine lv_istore_n (lv' := [(3, .int r12), (0, .ref (a 4)), (2, .int x2)]) hx hb dX1_settleNode_113 rfl hl (by decide) rfl (fun ls hl => ?_)
  refine lv_aload_n hx hb dX1_settleNode_114 rfl (lv_at hl 1 rfl) ?_
  refine lv_iload_n hx hb dX1_settleNode_115 rfl (lv_at hl 2 rfl) ?_
  refine lv_iconst (v := 1) hx hb dX1_settleNode_116 (by decide) ?_
  refine lv_iadd hx hb dX1_settleNode_117 ?_
  refine xc_Vi (wf := wC cyI cyJ cyZ a) (wr := []) (isC := [0, 1, 2, 3, 4, 5, 6, 7, 8, 9, 10, 11, 12, 13, 14, 15, 16, 17, 18, 19, 20]) (isR := []) (As := [.int (x2 + (1 : Int32))]) (rest := []) ⟨hx, hb, hml, hown, hts⟩ (t_X1_timeOf h) (cwV 1 hts gX1_settleNode_X1_timeOf rfl rfl rfl (by decide +kernel) ⟨Nat.le_of_ble_eq_true rfl, Nat.le_of_ble_eq_true rfl⟩) ⟨hK, hE, hA, hP, hD, hS, rfl, rfl, rfl, rfl, by decide⟩ ⟨4, 1, _, _, rfl, rfl, rfl⟩ rfl rfl hl.1 (Nat.le_of_ble_eq_true rfl) dX1_settleNode_118 ⟨Nat.le_of_ble_eq_true rfl, Nat.le_of_ble_eq_true rfl⟩ (fun r14 S15 H locs h hP hD hS => ?_)
  obtain ⟨rfl, h⟩ := h
  have hP : va_P (dC, dI) vwCl (wC cyI cyJ cyZ a S) H := hP
  have hD : va_D A (wC cyI cyJ cyZ a S) := hD
  refine lv_istore (lv' := [(4, .int r14), (3, .int r12), (0, .ref (a 4)), (2, .int x2)]) hx hb dX1_settleNode_121 hl (by decide) rfl (fun ls hl => ?_)
  refine lv_aload_n hx hb dX1_settleNode_123 rfl (lv_at hl 2 rfl) ?_
  refine lv_iload_n hx hb dX1_settleNode_124 rfl (lv_at hl 3 rfl) ?_
  refine lv_iload hx hb dX1_settleNode_125 (lv_at hl 0 rfl) ?_
  refine xc_Vv (wf := wC cyI cyJ cyZ a) (wr := []) (isC := [0, 1, 2, 3, 4, 5, 6, 7, 8, 9, 10, 11, 12, 13, 14, 15, 16, 17, 18, 19, 20]) (isR := []) (As := [.int x2, .int r14]) (rest := []) ⟨hx, hb, hml, hown, hts⟩ (t_X1_fitInverters h) (cwV 2 hts gX1_settleNode_X1_fitInverters rfl rfl rfl (by decide +kernel) ⟨Nat.le_of_ble_eq_true rfl, Nat.le_of_ble_eq_true rfl⟩) ⟨hK, hE, hA, hP, hD, hS, rfl, rfl, rfl, rfl, by decide⟩ ⟨4, 1, _, _, rfl, rfl, rfl⟩ rfl rfl hl.1 (Nat.le_of_ble_eq_true rfl) dX1_settleNode_127 ⟨Nat.le_of_ble_eq_true rfl, Nat.le_of_ble_eq_true rfl⟩ (fun  S16 H locs h hP hD hS => ?_)
  have hP : va_P (dC, dI) vwCl (wC cyI cyJ cyZ a S16) H := hP
  have hD : va_D A (wC cyI cyJ cyZ a S16) := hD
  refine lv_aload_n hx hb dX1_settleNode_130 rfl (lv_at hl 2 rfl) ?_
  refine lv_iload_n hx hb dX1_settleNode_131 rfl (lv_at hl 3 rfl) ?_
  refine lv_iconst (v := 1) hx hb dX1_settleNode_132 (by decide) ?_
  refine lv_iadd hx hb dX1_settleNode_133 ?_
  refine lv_iload_n hx hb dX1_settleNode_134 rfl (lv_at hl 1 rfl) ?_
  refine xc_Vv (wf := wC cyI cyJ cyZ a) (wr := []) (isC := [0, 1, 2, 3, 4, 5, 6, 7, 8, 9, 10, 11, 12, 13, 14, 15, 16, 17, 18, 19, 20]) (isR := []) (As := [.int (x2 + (1 : Int32)), .int r12]) (rest := []) ⟨hx, hb, hml, hown, hts⟩ (t_X1_fitInverters h) (cwV 2 hts gX1_settleNode_X1_fitInverters rfl rfl rfl (by decide +kernel) ⟨Nat.le_of_ble_eq_true rfl, Nat.le_of_ble_eq_true rfl⟩) ⟨hK, hE, hA, hP, hD, hS, rfl, rfl, rfl, rfl, by decide⟩ ⟨4, 1, _, _, rfl, rfl, rfl⟩ rfl rfl hl.1 (Nat.le_of_ble_eq_true rfl) dX1_settleNode_135 ⟨Nat.le_of_ble_eq_true rfl, Nat.le_of_ble_eq_true rfl⟩ (fun  S17 H locs h hP hD hS => ?_)
  have hP : va_P (dC, dI) vwCl (wC cyI cyJ cyZ a S17) H := hP
  have hD : va_D A (wC cyI cyJ cyZ a S17) := hD
  exact xr_v (S := S17) hx hb hr hlocks hK hP hD hS h (Nat.le_of_ble_eq_true rfl) (Nat.le_of_ble_eq_true rfl) dX1_settleNode_138
def b_X1_settleNode_67 (x1 : Int32) (x2 : Int32) (post : CS → Prop) (g67 : CS → Int32 → Prop) (S : CS) (x3 : Int32) : Prop := p_X0_size S x1 (fun r9 => (r9 ≤ x3 → (p_X1_settleNode_108 S x2 post)) ∧ (¬ r9 ≤ x3 → (p_X0_leavesAt S x1 x3 (fun r18 => p_X0_functionAt S x1 x3 (fun r20 => p_X1_fitCut S x1 r18 r20 (fun S22 => ∀ y23 : Int32, y23 = (x3 + (1 : Int32)) → (g67 S22 y23)))))))
def p_X1_settleNode_67 (S : CS) (x1 : Int32) (x2 : Int32) (x3 : Int32) (post : CS → Prop) : Prop := ∃ (I : CS → Int32 → Prop) (mu : CS → Int32 → Nat), I S x3 ∧ ∀ (S : CS) (x3 : Int32), I S x3 → b_X1_settleNode_67 x1 x2 post (fun S' x3' => I S' x3' ∧ mu S' x3' < mu S x3) S x3
set_option maxHeartbeats 1000000 in
set_option maxRecDepth 100000 in
theorem t_X1_settleNode_67 {p : Program} {l : Launch} {e : Env} {s : State} {m : MethodId} {args : Array Value} {below : List Frame} {meth : Method} {c : Code} {dC : Nat → ClassId} {dI : Nat → Nat → Nat} {cyI cyJ cyZ : ClassId} {r : Nat → Nat} {a : Nat → Nat} {A : Nat → Prop} {S : CS} {x1 : Int32} {x2 : Int32} {x3 : Int32} {post : CS → Prop} (G : xG p s m args meth c cX1_settleNode 5 RX1 none wsX1_settleNode (dC, dI) (tyA cyI cyJ cyZ) r A) (h : p_X1_settleNode_67 S x1 x2 x3 post) {H : Heap} {locs : List Loc} {ls : Array Slot} (hP : va_P (dC, dI) vwCl (wC cyI cyJ cyZ a S) H) (hD : va_D A (wC cyI cyJ cyZ a S)) (hS : va_S A s.heap H locs) (hl : lv_has ls 5 [(0, .ref (a 4)), (1, .int x1), (2, .int x2), (3, .int x3)]) : W p l e { frames := 4, cells := 0, slots := 0, locals := 110 } s m args below meth c H locs 0 0 (MQ below (va_Qv post (xAt (dC, dI) (tyA cyI cyJ cyZ) (wC cyI cyJ cyZ a) A) A) args s 0 0 A) (F0 m 67 ls []) := by
  obtain ⟨hx, hb, hml, hown, hts, hr, hlocks, hK, hE, hA⟩ := id G
  have hiX1 : ∀ w ∈ wsX10, w ∈ wsX1_settleNode := by decide +kernel
  have hf27 := hts (.fieldLink RX1 27 "CellMapping$Gates" "cutTable" "LCellMapping$CutTable;") (by decide +kernel)
  obtain ⟨I, mu, h0, hstep⟩ := h
  suffices hgo : ∀ (n : Nat) (S : CS) (x3 : Int32), I S x3 → mu S x3 < n → ∀ (H : Heap) (locs : List Loc) (ls : Array Slot), va_P (dC, dI) vwCl (wC cyI cyJ cyZ a S) H → va_D A (wC cyI cyJ cyZ a S) → va_S A s.heap H locs → lv_has ls 5 [(0, .ref (a 4)), (1, .int x1), (2, .int x2), (3, .int x3)] → W p l e { frames := 4, cells := 0, slots := 0, locals := 110 } s m args below meth c H locs 0 0 (MQ below (va_Qv post (xAt (dC, dI) (tyA cyI cyJ cyZ) (wC cyI cyJ cyZ a) A) A) args s 0 0 A) (F0 m 67 ls []) from hgo (mu S x3 + 1) S x3 h0 (Nat.lt_succ_self _) H locs ls hP hD hS hl
  clear h0 hP hD hS hl
  intro n
  induction n with
  | zero => intro S x3 _ h; exact absurd h (Nat.not_lt_zero _)
  | succ n ih =>
    intro S x3 hI hmu H locs ls hP hD hS hl
    have h := hstep S x3 hI
    unfold b_X1_settleNode_67 at h
    have k67 : ∀ (S' : CS) (x3' : Int32) (H : Heap) (locs : List Loc) (ls : Array Slot), (fun S' x3' => I S' x3' ∧ mu S' x3' < mu S x3) S' x3' → va_P (dC, dI) vwCl (wC cyI cyJ cyZ a S') H → va_D A (wC cyI cyJ cyZ a S') → va_S A s.heap H locs → lv_has ls 5 [(0, .ref (a 4)), (1, .int x1), (2, .int x2), (3, .int x3')] → W p l e { frames := 4, cells := 0, slots := 0, locals := 110 } s m args below meth c H locs 0 0 (MQ below (va_Qv post (xAt (dC, dI) (tyA cyI cyJ cyZ) (wC cyI cyJ cyZ a) A) A) args s 0 0 A) (F0 m 67 ls []) := fun S' x3' H locs ls hh hP hD hS hl => ih S' x3' hh.1 (Nat.lt_of_lt_of_le hh.2 (Nat.le_of_lt_succ hmu)) H locs ls hP hD hS hl
    generalize (fun S' x3' => I S' x3' ∧ mu S' x3' < mu S x3) = g67 at h k67
    refine lv_iload_n hx hb dX1_settleNode_67 rfl (lv_at hl 3 rfl) ?_
    refine lv_aload_n hx hb dX1_settleNode_68 rfl (lv_at hl 0 rfl) ?_
    refine va_get (D := (dC, dI)) (ci := 1) (v := .ref (a 2)) (C := RX1) (T := TX1) (N := 6) hx hb hts hiX1 hown hK hP 4 rfl rfl 1 (by decide) hf27 (fun _ h9 => h9) rfl dX1_settleNode_69 ?_
    refine lv_iload_n hx hb dX1_settleNode_72 rfl (lv_at hl 1 rfl) ?_
    refine xc_Vi (wf := wC cyI cyJ cyZ a) (wr := []) (isC := [0, 1, 2, 3, 4, 5, 6, 7, 8, 9, 10, 11, 12, 13, 14, 15, 16, 17, 18, 19, 20]) (isR := []) (As := [.int x1]) (rest := [.int x3]) ⟨hx, hb, hml, hown, hts⟩ (t_X0_size h) (cwV 1 hts gX1_settleNode_X0_size rfl rfl rfl (by decide +kernel) ⟨Nat.le_of_ble_eq_true rfl, Nat.le_of_ble_eq_true rfl⟩) ⟨hK, hE, hA, hP, hD, hS, rfl, rfl, rfl, rfl, by decide⟩ ⟨2, 0, _, _, rfl, rfl, rfl⟩ rfl rfl hl.1 (Nat.le_of_ble_eq_true rfl) dX1_settleNode_73 ⟨Nat.le_of_ble_eq_true rfl, Nat.le_of_ble_eq_true rfl⟩ (fun r9 S10 H locs h hP hD hS => ?_)
    obtain ⟨rfl, h⟩ := h
    have hP : va_P (dC, dI) vwCl (wC cyI cyJ cyZ a S) H := hP
    have hD : va_D A (wC cyI cyJ cyZ a S) := hD
    refine lv_icmp_ge (tgt := 108) hx hb dX1_settleNode_76 (by decide) (fun c11 => ?_) (fun c11 => ?_)
    · have h := h.1 c11
      exact t_X1_settleNode_108 G h hP hD hS (lv_sub hl [0, 2] rfl)
    · have h := h.2 c11
      refine lv_aload_n hx hb dX1_settleNode_79 rfl (lv_at hl 0 rfl) ?_
      refine lv_iload_n hx hb dX1_settleNode_80 rfl (lv_at hl 1 rfl) ?_
      refine lv_aload_n hx hb dX1_settleNode_81 rfl (lv_at hl 0 rfl) ?_
      refine va_get (D := (dC, dI)) (ci := 1) (v := .ref (a 2)) (C := RX1) (T := TX1) (N := 6) hx hb hts hiX1 hown hK hP 4 rfl rfl 1 (by decide) hf27 (fun _ h9 => h9) rfl dX1_settleNode_82 ?_
      refine lv_iload_n hx hb dX1_settleNode_85 rfl (lv_at hl 1 rfl) ?_
      refine lv_iload_n hx hb dX1_settleNode_86 rfl (lv_at hl 3 rfl) ?_
      refine xc_Vi (wf := wC cyI cyJ cyZ a) (wr := []) (isC := [0, 1, 2, 3, 4, 5, 6, 7, 8, 9, 10, 11, 12, 13, 14, 15, 16, 17, 18, 19, 20]) (isR := []) (As := [.int x1, .int x3]) (rest := [.int x1, .ref (a 4)]) ⟨hx, hb, hml, hown, hts⟩ (t_X0_leavesAt h) (cwV 2 hts gX1_settleNode_X0_leavesAt rfl rfl rfl (by decide +kernel) ⟨Nat.le_of_ble_eq_true rfl, Nat.le_of_ble_eq_true rfl⟩) ⟨hK, hE, hA, hP, hD, hS, rfl, rfl, rfl, rfl, by decide⟩ ⟨2, 0, _, _, rfl, rfl, rfl⟩ rfl rfl hl.1 (Nat.le_of_ble_eq_true rfl) dX1_settleNode_87 ⟨Nat.le_of_ble_eq_true rfl, Nat.le_of_ble_eq_true rfl⟩ (fun r18 S19 H locs h hP hD hS => ?_)
      obtain ⟨rfl, h⟩ := h
      have hP : va_P (dC, dI) vwCl (wC cyI cyJ cyZ a S) H := hP
      have hD : va_D A (wC cyI cyJ cyZ a S) := hD
      refine lv_aload_n hx hb dX1_settleNode_90 rfl (lv_at hl 0 rfl) ?_
      refine va_get (D := (dC, dI)) (ci := 1) (v := .ref (a 2)) (C := RX1) (T := TX1) (N := 6) hx hb hts hiX1 hown hK hP 4 rfl rfl 1 (by decide) hf27 (fun _ h9 => h9) rfl dX1_settleNode_91 ?_
      refine lv_iload_n hx hb dX1_settleNode_94 rfl (lv_at hl 1 rfl) ?_
      refine lv_iload_n hx hb dX1_settleNode_95 rfl (lv_at hl 3 rfl) ?_
      refine xc_Vi (wf := wC cyI cyJ cyZ a) (wr := []) (isC := [0, 1, 2, 3, 4, 5, 6, 7, 8, 9, 10, 11, 12, 13, 14, 15, 16, 17, 18, 19, 20]) (isR := []) (As := [.int x1, .int x3]) (rest := [.int r18, .int x1, .ref (a 4)]) ⟨hx, hb, hml, hown, hts⟩ (t_X0_functionAt h) (cwV 2 hts gX1_settleNode_X0_functionAt rfl rfl rfl (by decide +kernel) ⟨Nat.le_of_ble_eq_true rfl, Nat.le_of_ble_eq_true rfl⟩) ⟨hK, hE, hA, hP, hD, hS, rfl, rfl, rfl, rfl, by decide⟩ ⟨2, 0, _, _, rfl, rfl, rfl⟩ rfl rfl hl.1 (Nat.le_of_ble_eq_true rfl) dX1_settleNode_96 ⟨Nat.le_of_ble_eq_true rfl, Nat.le_of_ble_eq_true rfl⟩ (fun r20 S21 H locs h hP hD hS => ?_)
      obtain ⟨rfl, h⟩ := h
      have hP : va_P (dC, dI) vwCl (wC cyI cyJ cyZ a S) H := hP
      have hD : va_D A (wC cyI cyJ cyZ a S) := hD
      refine xc_Vv (wf := wC cyI cyJ cyZ a) (wr := []) (isC := [0, 1, 2, 3, 4, 5, 6, 7, 8, 9, 10, 11, 12, 13, 14, 15, 16, 17, 18, 19, 20]) (isR := []) (As := [.int x1, .int r18, .int r20]) (rest := []) ⟨hx, hb, hml, hown, hts⟩ (t_X1_fitCut h) (cwV 3 hts gX1_settleNode_X1_fitCut rfl rfl rfl (by decide +kernel) ⟨Nat.le_of_ble_eq_true rfl, Nat.le_of_ble_eq_true rfl⟩) ⟨hK, hE, hA, hP, hD, hS, rfl, rfl, rfl, rfl, by decide⟩ ⟨4, 1, _, _, rfl, rfl, rfl⟩ rfl rfl hl.1 (Nat.le_of_ble_eq_true rfl) dX1_settleNode_99 ⟨Nat.le_of_ble_eq_true rfl, Nat.le_of_ble_eq_true rfl⟩ (fun  S22 H locs h hP hD hS => ?_)
      have hP : va_P (dC, dI) vwCl (wC cyI cyJ cyZ a S22) H := hP
      have hD : va_D A (wC cyI cyJ cyZ a S22) := hD
      obtain ⟨y23, ey23⟩ : ∃ z : Int32, z = (x3 + (1 : Int32)) := ⟨_, rfl⟩
      have h := h y23 ey23
      refine lv_iinc (v := y23) (lv' := [(3, .int y23), (0, .ref (a 4)), (1, .int x1), (2, .int x2)]) hx hb dX1_settleNode_102 hl (k := 3) rfl (by rw [ey23]; rfl) (by decide) rfl (fun ls hl => ?_)
      refine lv_goto (tgt := 67) hx hb dX1_settleNode_105 (by decide) ?_
      exact k67 S22 y23 H locs ls h hP hD hS (lv_sub hl [1, 2, 3, 0] rfl)
def p_X1_settleNode (S : CS) (x1 : Int32) (post : CS → Prop) : Prop := ∀ y1 : Int32, y1 = ((2 : Int32) * x1) → (vp_in y1 64 ∧ (∀ S3 : CS, S3 = (cGA_s S (vp_updL (cGA S) y1.toNatClampNeg (4611686018427387904 : Int64))) → (vp_in (y1 + (1 : Int32)) 64 ∧ (∀ S5 : CS, S5 = (cGA_s S3 (vp_updL (cGA S3) (y1 + (1 : Int32)).toNatClampNeg (4611686018427387904 : Int64))) → (p_X2_isInput S5 x1 (fun r6 => (r6 = 0 → (p_X1_settleNode_67 S5 x1 y1 (0 : Int32) post)) ∧ (¬ r6 = 0 → (vp_in x1 32 ∧ (vp_in ((cIN S5) x1.toNatClampNeg) 8 ∧ (vp_in y1 64 ∧ (∀ S27 : CS, S27 = (cGA_s S5 (vp_updL (cGA S5) y1.toNatClampNeg (lshl (((cIT S5) ((cIN S5) x1.toNatClampNeg).toNatClampNeg).toInt64) (23 : Int32)))) → (p_X1_settleNode_108 S27 y1 post))))))))))))
set_option maxHeartbeats 1000000 in
set_option maxRecDepth 100000 in
theorem t_X1_settleNode {l : Launch} {dC : Nat → ClassId} {dI : Nat → Nat → Nat} {cyI cyJ cyZ : ClassId} {r : Nat → Nat} {a : Nat → Nat} {S : CS} {x1 : Int32} {post : CS → Prop} (h : p_X1_settleNode S x1 post) : xMv l yX1_settleNode wsX1_settleNode { frames := 4, cells := 0, slots := 0, locals := 110 } (dC, dI) (tyA cyI cyJ cyZ) r (wC cyI cyJ cyZ a) [.ref (a 4), .int x1] S post 0 0 := by
  intro sz
  refine Met.ofW (cc := cX1_settleNode) (maxL := 5) (ret := none) (by decide) rfl ?_
  intro p e s m args below meth c s₁ B hml hv
  obtain ⟨rfl, G, hP, hD, hS⟩ := xG.of rfl B hml hv
  generalize hAe : va_A (wC cyI cyJ cyZ a S) sz = A at G hD hS ⊢
  have G : xG p s m _ meth c cX1_settleNode 5 RX1 none wsX1_settleNode (dC, dI) (tyA cyI cyJ cyZ) r A := G
  obtain ⟨hx, hb, hml, hown, hts, hr, hlocks, hK, hE, hA⟩ := id G
  have hiX1 : ∀ w ∈ wsX10, w ∈ wsX1_settleNode := by decide +kernel
  have hf11 := hts (.fieldLink RX1 11 "CellMapping$Gates" "gates" "[J") (by decide +kernel)
  have hf23 := hts (.fieldLink RX1 23 "CellMapping$Gates" "graph" "LCellMapping$Graph;") (by decide +kernel)
  have hiX2 : ∀ w ∈ wsX20, w ∈ wsX1_settleNode := by decide +kernel
  have hf94 := hts (.fieldLink RX1 94 "CellMapping$Graph" "inputTime" "[I") (by decide +kernel)
  have hf97 := hts (.fieldLink RX1 97 "CellMapping$Graph" "inputNumber" "[I") (by decide +kernel)
  have hl := lv_entry ([.ref (a 4), .int x1]) (n := 5) (Nat.le_of_ble_eq_true rfl)
  rw [lg_entry_eq]
  generalize (lg_sl ([.ref (a 4), .int x1]) ++ List.replicate (5 - (lg_sl ([.ref (a 4), .int x1])).length) Slot.unset).toArray = ls at hl ⊢
  have hl : lv_has ls 5 [(0, .ref (a 4)), (1, .int x1)] := hl
  show W p l e { frames := 4, cells := 0, slots := 0, locals := 110 } s m _ below meth c s.heap [] 0 0 _ _
  unfold p_X1_settleNode at h
  refine lv_iconst (v := 2) hx hb dX1_settleNode_0 (by decide) ?_
  refine lv_iload_n hx hb dX1_settleNode_1 rfl (lv_at hl 1 rfl) ?_
  refine lv_imul hx hb dX1_settleNode_2 ?_
  refine lv_topi (fun y1 ey1 => ?_)
  have h := h y1 ey1
  refine lv_istore_n (lv' := [(2, .int y1), (0, .ref (a 4)), (1, .int x1)]) hx hb dX1_settleNode_3 rfl hl (by decide) rfl (fun ls hl => ?_)
  refine lv_aload_n hx hb dX1_settleNode_4 rfl (lv_at hl 1 rfl) ?_
  refine va_get (D := (dC, dI)) (ci := 1) (v := .ref (a 17)) (C := RX1) (T := TX1) (N := 6) hx hb hts hiX1 hown hK hP 4 rfl rfl 3 (by decide) hf11 (fun _ h9 => h9) rfl dX1_settleNode_5 ?_
  refine lv_iload_n hx hb dX1_settleNode_8 rfl (lv_at hl 0 rfl) ?_
  refine lv_ldc2 (v := 4611686018427387904) hx hb hown (hts (.constantLong RX1 46 (4611686018427387904)) (by decide +kernel)) dX1_settleNode_9 ?_
  obtain ⟨i2, h⟩ := h
  refine va_last (D := (dC, dI)) hx hb hK hP hD hS 17 1 rfl rfl i2 dX1_settleNode_12 (fun H locs hP hD hS => ?_)
  obtain ⟨S3, eS3⟩ : ∃ z : CS, z = (cGA_s S (vp_updL (cGA S) y1.toNatClampNeg (4611686018427387904 : Int64))) := ⟨_, rfl⟩
  have h := h S3 eS3
  have hP := nP_cGA eS3 hP
  have hD := nD_cGA eS3 hD
  refine lv_aload_n hx hb dX1_settleNode_13 rfl (lv_at hl 1 rfl) ?_
  refine va_get (D := (dC, dI)) (ci := 1) (v := .ref (a 17)) (C := RX1) (T := TX1) (N := 6) hx hb hts hiX1 hown hK hP 4 rfl rfl 3 (by decide) hf11 (fun _ h9 => h9) rfl dX1_settleNode_14 ?_
  refine lv_iload_n hx hb dX1_settleNode_17 rfl (lv_at hl 0 rfl) ?_
  refine lv_iconst (v := 1) hx hb dX1_settleNode_18 (by decide) ?_
  refine lv_iadd hx hb dX1_settleNode_19 ?_
  refine lv_ldc2 (v := 4611686018427387904) hx hb hown (hts (.constantLong RX1 46 (4611686018427387904)) (by decide +kernel)) dX1_settleNode_20 ?_
  obtain ⟨i4, h⟩ := h
  refine va_last (D := (dC, dI)) hx hb hK hP hD hS 17 1 rfl rfl i4 dX1_settleNode_23 (fun H locs hP hD hS => ?_)
  obtain ⟨S5, eS5⟩ : ∃ z : CS, z = (cGA_s S3 (vp_updL (cGA S3) (y1 + (1 : Int32)).toNatClampNeg (4611686018427387904 : Int64))) := ⟨_, rfl⟩
  have h := h S5 eS5
  have hP := nP_cGA eS5 hP
  have hD := nD_cGA eS5 hD
  refine lv_aload_n hx hb dX1_settleNode_24 rfl (lv_at hl 1 rfl) ?_
  refine va_get (D := (dC, dI)) (ci := 1) (v := .ref (a 1)) (C := RX1) (T := TX1) (N := 6) hx hb hts hiX1 hown hK hP 4 rfl rfl 0 (by decide) hf23 (fun _ h9 => h9) rfl dX1_settleNode_25 ?_
  refine lv_iload_n hx hb dX1_settleNode_28 rfl (lv_at hl 2 rfl) ?_
  refine xc_Vi (wf := wC cyI cyJ cyZ a) (wr := []) (isC := [0, 1, 2, 3, 4, 5, 6, 7, 8, 9, 10, 11, 12, 13, 14, 15, 16, 17, 18, 19, 20]) (isR := []) (As := [.int x1]) (rest := []) ⟨hx, hb, hml, hown, hts⟩ (t_X2_isInput h) (cwV 1 hts gX1_settleNode_X2_isInput rfl rfl rfl (by decide +kernel) ⟨Nat.le_of_ble_eq_true rfl, Nat.le_of_ble_eq_true rfl⟩) ⟨hK, hE, hA, hP, hD, hS, rfl, rfl, rfl, rfl, by decide⟩ ⟨1, 2, _, _, rfl, rfl, rfl⟩ rfl rfl hl.1 (Nat.le_of_ble_eq_true rfl) dX1_settleNode_29 ⟨Nat.le_of_ble_eq_true rfl, Nat.le_of_ble_eq_true rfl⟩ (fun r6 S7 H locs h hP hD hS => ?_)
  obtain ⟨rfl, h⟩ := h
  have hP : va_P (dC, dI) vwCl (wC cyI cyJ cyZ a S5) H := hP
  have hD : va_D A (wC cyI cyJ cyZ a S5) := hD
  refine lv_if_eq (tgt := 65) hx hb dX1_settleNode_32 (by decide) (fun c8 => ?_) (fun c8 => ?_)
  · have h := h.1 c8
    refine lv_iconst (v := 0) hx hb dX1_settleNode_65 (by decide) ?_
    refine lv_istore_n (lv' := [(3, .int (0 : Int32)), (2, .int y1), (0, .ref (a 4)), (1, .int x1)]) hx hb dX1_settleNode_66 rfl hl (by decide) rfl (fun ls hl => ?_)
    exact t_X1_settleNode_67 G h hP hD hS (lv_sub hl [2, 3, 1, 0] rfl)
  · have h := h.2 c8
    refine lv_aload_n hx hb dX1_settleNode_35 rfl (lv_at hl 1 rfl) ?_
    refine va_get (D := (dC, dI)) (ci := 1) (v := .ref (a 17)) (C := RX1) (T := TX1) (N := 6) hx hb hts hiX1 hown hK hP 4 rfl rfl 3 (by decide) hf11 (fun _ h9 => h9) rfl dX1_settleNode_36 ?_
    refine lv_iload_n hx hb dX1_settleNode_39 rfl (lv_at hl 0 rfl) ?_
    refine lv_aload_n hx hb dX1_settleNode_40 rfl (lv_at hl 1 rfl) ?_
    refine va_get (D := (dC, dI)) (ci := 1) (v := .ref (a 1)) (C := RX1) (T := TX1) (N := 6) hx hb hts hiX1 hown hK hP 4 rfl rfl 0 (by decide) hf23 (fun _ h9 => h9) rfl dX1_settleNode_41 ?_
    refine va_get (D := (dC, dI)) (ci := 2) (v := .ref (a 9)) (C := RX2) (T := TX2) (N := 6) hx hb hts hiX2 hown hK hP 1 rfl rfl 3 (by decide) hf94 (fun _ h9 => h9) rfl dX1_settleNode_44 ?_
    refine lv_aload_n hx hb dX1_settleNode_47 rfl (lv_at hl 1 rfl) ?_
    refine va_get (D := (dC, dI)) (ci := 1) (v := .ref (a 1)) (C := RX1) (T := TX1) (N := 6) hx hb hts hiX1 hown hK hP 4 rfl rfl 0 (by decide) hf23 (fun _ h9 => h9) rfl dX1_settleNode_48 ?_
    refine va_get (D := (dC, dI)) (ci := 2) (v := .ref (a 6)) (C := RX2) (T := TX2) (N := 6) hx hb hts hiX2 hown hK hP 1 rfl rfl 0 (by decide) hf97 (fun _ h9 => h9) rfl dX1_settleNode_51 ?_
    refine lv_iload_n hx hb dX1_settleNode_54 rfl (lv_at hl 2 rfl) ?_
    obtain ⟨i24, h⟩ := h
    refine va_iald (D := (dC, dI)) hx hb hK hP 6 0 rfl rfl i24 dX1_settleNode_55 ?_
    obtain ⟨i25, h⟩ := h
    refine va_iald (D := (dC, dI)) hx hb hK hP 9 0 rfl rfl i25 dX1_settleNode_56 ?_
    refine lv_i2l (v := ((cIT S5) ((cIN S5) x1.toNatClampNeg).toNatClampNeg).toInt64) hx hb dX1_settleNode_57 rfl ?_
    refine lv_bipush (v := 23) hx hb dX1_settleNode_58 (by decide) ?_
    refine lv_lshl (v := (lshl (((cIT S5) ((cIN S5) x1.toNatClampNeg).toNatClampNeg).toInt64) (23 : Int32))) hx hb dX1_settleNode_60 rfl ?_
    obtain ⟨i26, h⟩ := h
    refine va_last (D := (dC, dI)) hx hb hK hP hD hS 17 1 rfl rfl i26 dX1_settleNode_61 (fun H locs hP hD hS => ?_)
    obtain ⟨S27, eS27⟩ : ∃ z : CS, z = (cGA_s S5 (vp_updL (cGA S5) y1.toNatClampNeg (lshl (((cIT S5) ((cIN S5) x1.toNatClampNeg).toNatClampNeg).toInt64) (23 : Int32)))) := ⟨_, rfl⟩
    have h := h S27 eS27
    have hP := nP_cGA eS27 hP
    have hD := nD_cGA eS27 hD
    refine lv_goto (tgt := 108) hx hb dX1_settleNode_62 (by decide) ?_
    exact t_X1_settleNode_108 G h hP hD hS (lv_sub hl [1, 0] rfl)
def b_X1_settle_5 (post : CS → Prop) (g5 : CS → Int32 → Prop) (S : CS) (x1 : Int32) : Prop := ((cNC S) ≤ x1 → (∀ S3 : CS, S3 = (cSE_s S (cNC S)) → (post S3))) ∧ (¬ (cNC S) ≤ x1 → (p_X1_settleNode S x1 (fun S4 => ∀ y5 : Int32, y5 = (x1 + (1 : Int32)) → (g5 S4 y5))))
def p_X1_settle_5 (S : CS) (x1 : Int32) (post : CS → Prop) : Prop := ∃ (I : CS → Int32 → Prop) (mu : CS → Int32 → Nat), I S x1 ∧ ∀ (S : CS) (x1 : Int32), I S x1 → b_X1_settle_5 post (fun S' x1' => I S' x1' ∧ mu S' x1' < mu S x1) S x1
set_option maxHeartbeats 1000000 in
set_option maxRecDepth 100000 in
theorem t_X1_settle_5 {p : Program} {l : Launch} {e : Env} {s : State} {m : MethodId} {args : Array Value} {below : List Frame} {meth : Method} {c : Code} {dC : Nat → ClassId} {dI : Nat → Nat → Nat} {cyI cyJ cyZ : ClassId} {r : Nat → Nat} {a : Nat → Nat} {A : Nat → Prop} {S : CS} {x1 : Int32} {post : CS → Prop} (G : xG p s m args meth c cX1_settle 2 RX1 none wsX1_settle (dC, dI) (tyA cyI cyJ cyZ) r A) (h : p_X1_settle_5 S x1 post) {H : Heap} {locs : List Loc} {ls : Array Slot} (hP : va_P (dC, dI) vwCl (wC cyI cyJ cyZ a S) H) (hD : va_D A (wC cyI cyJ cyZ a S)) (hS : va_S A s.heap H locs) (hl : lv_has ls 2 [(0, .ref (a 4)), (1, .int x1)]) : W p l e { frames := 5, cells := 0, slots := 0, locals := 134 } s m args below meth c H locs 0 0 (MQ below (va_Qv post (xAt (dC, dI) (tyA cyI cyJ cyZ) (wC cyI cyJ cyZ a) A) A) args s 0 0 A) (F0 m 5 ls []) := by
  obtain ⟨hx, hb, hml, hown, hts, hr, hlocks, hK, hE, hA⟩ := id G
  have hiX1 : ∀ w ∈ wsX10, w ∈ wsX1_settle := by decide +kernel
  have hf23 := hts (.fieldLink RX1 23 "CellMapping$Gates" "graph" "LCellMapping$Graph;") (by decide +kernel)
  have hiX2 : ∀ w ∈ wsX20, w ∈ wsX1_settle := by decide +kernel
  have hf39 := hts (.fieldLink RX1 39 "CellMapping$Graph" "nodeCount" "I") (by decide +kernel)
  have hf35 := hts (.fieldLink RX1 35 "CellMapping$Gates" "settled" "I") (by decide +kernel)
  obtain ⟨I, mu, h0, hstep⟩ := h
  suffices hgo : ∀ (n : Nat) (S : CS) (x1 : Int32), I S x1 → mu S x1 < n → ∀ (H : Heap) (locs : List Loc) (ls : Array Slot), va_P (dC, dI) vwCl (wC cyI cyJ cyZ a S) H → va_D A (wC cyI cyJ cyZ a S) → va_S A s.heap H locs → lv_has ls 2 [(0, .ref (a 4)), (1, .int x1)] → W p l e { frames := 5, cells := 0, slots := 0, locals := 134 } s m args below meth c H locs 0 0 (MQ below (va_Qv post (xAt (dC, dI) (tyA cyI cyJ cyZ) (wC cyI cyJ cyZ a) A) A) args s 0 0 A) (F0 m 5 ls []) from hgo (mu S x1 + 1) S x1 h0 (Nat.lt_succ_self _) H locs ls hP hD hS hl
  clear h0 hP hD hS hl
  intro n
  induction n with
  | zero => intro S x1 _ h; exact absurd h (Nat.not_lt_zero _)
  | succ n ih =>
    intro S x1 hI hmu H locs ls hP hD hS hl
    have h := hstep S x1 hI
    unfold b_X1_settle_5 at h
    have k5 : ∀ (S' : CS) (x1' : Int32) (H : Heap) (locs : List Loc) (ls : Array Slot), (fun S' x1' => I S' x1' ∧ mu S' x1' < mu S x1) S' x1' → va_P (dC, dI) vwCl (wC cyI cyJ cyZ a S') H → va_D A (wC cyI cyJ cyZ a S') → va_S A s.heap H locs → lv_has ls 2 [(0, .ref (a 4)), (1, .int x1')] → W p l e { frames := 5, cells := 0, slots := 0, locals := 134 } s m args below meth c H locs 0 0 (MQ below (va_Qv post (xAt (dC, dI) (tyA cyI cyJ cyZ) (wC cyI cyJ cyZ a) A) A) args s 0 0 A) (F0 m 5 ls []) := fun S' x1' H locs ls hh hP hD hS hl => ih S' x1' hh.1 (Nat.lt_of_lt_of_le hh.2 (Nat.le_of_lt_succ hmu)) H locs ls hP hD hS hl
    generalize (fun S' x1' => I S' x1' ∧ mu S' x1' < mu S x1) = g5 at h k5
    refine lv_iload_n hx hb dX1_settle_5 rfl (lv_at hl 1 rfl) ?_
    refine lv_aload_n hx hb dX1_settle_6 rfl (lv_at hl 0 rfl) ?_
    refine va_get (D := (dC, dI)) (ci := 1) (v := .ref (a 1)) (C := RX1) (T := TX1) (N := 6) hx hb hts hiX1 hown hK hP 4 rfl rfl 0 (by decide) hf23 (fun _ h9 => h9) rfl dX1_settle_7 ?_
    refine va_get (D := (dC, dI)) (ci := 2) (v := .int (cNC S)) (C := RX2) (T := TX2) (N := 6) hx hb hts hiX2 hown hK hP 1 rfl rfl 4 (by decide) hf39 (fun _ h9 => h9) rfl dX1_settle_10 ?_
    refine lv_icmp_ge (tgt := 27) hx hb dX1_settle_13 (by decide) (fun c2 => ?_) (fun c2 => ?_)
    · have h := h.1 c2
      refine lv_aload_n hx hb dX1_settle_27 rfl (lv_at hl 0 rfl) ?_
      refine lv_aload_n hx hb dX1_settle_28 rfl (lv_at hl 0 rfl) ?_
      refine va_get (D := (dC, dI)) (ci := 1) (v := .ref (a 1)) (C := RX1) (T := TX1) (N := 6) hx hb hts hiX1 hown hK hP 4 rfl rfl 0 (by decide) hf23 (fun _ h9 => h9) rfl dX1_settle_29 ?_
      refine va_get (D := (dC, dI)) (ci := 2) (v := .int (cNC S)) (C := RX2) (T := TX2) (N := 6) hx hb hts hiX2 hown hK hP 1 rfl rfl 4 (by decide) hf39 (fun _ h9 => h9) rfl dX1_settle_32 ?_
      refine va_put (D := (dC, dI)) (ci := 1) (v := .int (cNC S)) (ty := .int) (C := RX1) (T := TX1) (N := 6) hx hb hts hiX1 tyX1 tyX1_ok nmX1 hown hK hP hD hS 4 rfl rfl 5 (by decide) hf35 (fun _ h9 => h9) rfl (by decide +kernel) rfl rfl (Nat.le_of_ble_eq_true rfl) dX1_settle_35 (fun H locs hP hD hS => ?_)
      obtain ⟨S3, eS3⟩ : ∃ z : CS, z = (cSE_s S (cNC S)) := ⟨_, rfl⟩
      have h := h S3 eS3
      have hP := nP_cSE eS3 hP
      have hD := nD_cSE eS3 hD
      exact xr_v (S := S3) hx hb hr hlocks hK hP hD hS h (Nat.le_of_ble_eq_true rfl) (Nat.le_of_ble_eq_true rfl) dX1_settle_38
    · have h := h.2 c2
      refine lv_aload_n hx hb dX1_settle_16 rfl (lv_at hl 0 rfl) ?_
      refine lv_iload_n hx hb dX1_settle_17 rfl (lv_at hl 1 rfl) ?_
      refine xc_Vv (wf := wC cyI cyJ cyZ a) (wr := []) (isC := [0, 1, 2, 3, 4, 5, 6, 7, 8, 9, 10, 11, 12, 13, 14, 15, 16, 17, 18, 19, 20]) (isR := []) (As := [.int x1]) (rest := []) ⟨hx, hb, hml, hown, hts⟩ (t_X1_settleNode h) (cwV 1 hts gX1_settle_X1_settleNode rfl rfl rfl (by decide +kernel) ⟨Nat.le_of_ble_eq_true rfl, Nat.le_of_ble_eq_true rfl⟩) ⟨hK, hE, hA, hP, hD, hS, rfl, rfl, rfl, rfl, by decide⟩ ⟨4, 1, _, _, rfl, rfl, rfl⟩ rfl rfl hl.1 (Nat.le_of_ble_eq_true rfl) dX1_settle_18 ⟨Nat.le_of_ble_eq_true rfl, Nat.le_of_ble_eq_true rfl⟩ (fun  S4 H locs h hP hD hS => ?_)
      have hP : va_P (dC, dI) vwCl (wC cyI cyJ cyZ a S4) H := hP
      have hD : va_D A (wC cyI cyJ cyZ a S4) := hD
      obtain ⟨y5, ey5⟩ : ∃ z : Int32, z = (x1 + (1 : Int32)) := ⟨_, rfl⟩
      have h := h y5 ey5
      refine lv_iinc (v := y5) (lv' := [(1, .int y5), (0, .ref (a 4))]) hx hb dX1_settle_21 hl (k := 1) rfl (by rw [ey5]; rfl) (by decide) rfl (fun ls hl => ?_)
      refine lv_goto (tgt := 5) hx hb dX1_settle_24 (by decide) ?_
      exact k5 S4 y5 H locs ls h hP hD hS (lv_sub hl [1, 0] rfl)
def p_X1_settle (S : CS) (post : CS → Prop) : Prop := ∀ y1 : Int32, y1 = (cSE S) → (p_X1_settle_5 S y1 post)
set_option maxHeartbeats 1000000 in
set_option maxRecDepth 100000 in
theorem t_X1_settle {l : Launch} {dC : Nat → ClassId} {dI : Nat → Nat → Nat} {cyI cyJ cyZ : ClassId} {r : Nat → Nat} {a : Nat → Nat} {S : CS} {post : CS → Prop} (h : p_X1_settle S post) : xMv l yX1_settle wsX1_settle { frames := 5, cells := 0, slots := 0, locals := 134 } (dC, dI) (tyA cyI cyJ cyZ) r (wC cyI cyJ cyZ a) [.ref (a 4)] S post 0 0 := by
  intro sz
  refine Met.ofW (cc := cX1_settle) (maxL := 2) (ret := none) (by decide) rfl ?_
  intro p e s m args below meth c s₁ B hml hv
  obtain ⟨rfl, G, hP, hD, hS⟩ := xG.of rfl B hml hv
  generalize hAe : va_A (wC cyI cyJ cyZ a S) sz = A at G hD hS ⊢
  have G : xG p s m _ meth c cX1_settle 2 RX1 none wsX1_settle (dC, dI) (tyA cyI cyJ cyZ) r A := G
  obtain ⟨hx, hb, hml, hown, hts, hr, hlocks, hK, hE, hA⟩ := id G
  have hiX1 : ∀ w ∈ wsX10, w ∈ wsX1_settle := by decide +kernel
  have hf35 := hts (.fieldLink RX1 35 "CellMapping$Gates" "settled" "I") (by decide +kernel)
  have hl := lv_entry ([.ref (a 4)]) (n := 2) (Nat.le_of_ble_eq_true rfl)
  rw [lg_entry_eq]
  generalize (lg_sl ([.ref (a 4)]) ++ List.replicate (2 - (lg_sl ([.ref (a 4)])).length) Slot.unset).toArray = ls at hl ⊢
  have hl : lv_has ls 2 [(0, .ref (a 4))] := hl
  show W p l e { frames := 5, cells := 0, slots := 0, locals := 134 } s m _ below meth c s.heap [] 0 0 _ _
  unfold p_X1_settle at h
  refine lv_aload_n hx hb dX1_settle_0 rfl (lv_at hl 0 rfl) ?_
  refine va_get (D := (dC, dI)) (ci := 1) (v := .int (cSE S)) (C := RX1) (T := TX1) (N := 6) hx hb hts hiX1 hown hK hP 4 rfl rfl 5 (by decide) hf35 (fun _ h9 => h9) rfl dX1_settle_1 ?_
  refine lv_topi (fun y1 ey1 => ?_)
  have h := h y1 ey1
  refine lv_istore_n (lv' := [(1, .int y1), (0, .ref (a 4))]) hx hb dX1_settle_4 rfl hl (by decide) rfl (fun ls hl => ?_)
  exact t_X1_settle_5 G h hP hD hS (lv_sub hl [1, 0] rfl)
def p_X1_baseLiteral_33 (S : CS) (x2 : Int32) (t0 : Int32) (post : Int32 → Prop) : Prop := (t0 = 0 → (post x2)) ∧ (¬ t0 = 0 → (post (x2 + (1 : Int32))))
set_option maxHeartbeats 1000000 in
set_option maxRecDepth 100000 in
theorem t_X1_baseLiteral_33 {p : Program} {l : Launch} {e : Env} {s : State} {m : MethodId} {args : Array Value} {below : List Frame} {meth : Method} {c : Code} {dC : Nat → ClassId} {dI : Nat → Nat → Nat} {cyI cyJ cyZ : ClassId} {r : Nat → Nat} {a : Nat → Nat} {A : Nat → Prop} {S : CS} {x2 : Int32} {t0 : Int32} {post : Int32 → Prop} (G : xG p s m args meth c cX1_baseLiteral 4 RX1 (some .int) wsX1_baseLiteral (dC, dI) (tyA cyI cyJ cyZ) r A) (h : p_X1_baseLiteral_33 S x2 t0 post) {H : Heap} {locs : List Loc} {ls : Array Slot} (hP : va_P (dC, dI) vwCl (wC cyI cyJ cyZ a S) H) (hD : va_D A (wC cyI cyJ cyZ a S)) (hS : va_S A s.heap H locs) (hl : lv_has ls 4 [(2, .int x2)]) : W p l e { frames := 3, cells := 0, slots := 0, locals := 63 } s m args below meth c H locs 0 0 (MQ below (va_Qi (fun x u => S = u ∧ post x) (xAt (dC, dI) (tyA cyI cyJ cyZ) (wC cyI cyJ cyZ a) A) A) args s 0 0 A) (F0 m 33 ls [.int t0]) := by
  obtain ⟨hx, hb, hml, hown, hts, hr, hlocks, hK, hE, hA⟩ := id G
  unfold p_X1_baseLiteral_33 at h
  refine lv_istore_n (lv' := [(3, .int t0), (2, .int x2)]) hx hb dX1_baseLiteral_33 rfl hl (by decide) rfl (fun ls hl => ?_)
  refine lv_iload_n hx hb dX1_baseLiteral_34 rfl (lv_at hl 0 rfl) ?_
  refine lv_if_eq (tgt := 44) hx hb dX1_baseLiteral_35 (by decide) (fun c5 => ?_) (fun c5 => ?_)
  · have h := h.1 c5
    refine lv_iload_n hx hb dX1_baseLiteral_44 rfl (lv_at hl 1 rfl) ?_
    exact xr_i (S := S) hx hb hr hlocks hK hP hD hS ⟨rfl, h⟩ (Nat.le_of_ble_eq_true rfl) (Nat.le_of_ble_eq_true rfl) dX1_baseLiteral_45
  · have h := h.2 c5
    refine lv_iload_n hx hb dX1_baseLiteral_38 rfl (lv_at hl 1 rfl) ?_
    refine lv_iconst (v := 1) hx hb dX1_baseLiteral_39 (by decide) ?_
    refine lv_iadd hx hb dX1_baseLiteral_40 ?_
    refine lv_goto (tgt := 45) hx hb dX1_baseLiteral_41 (by decide) ?_
    exact xr_i (S := S) hx hb hr hlocks hK hP hD hS ⟨rfl, h⟩ (Nat.le_of_ble_eq_true rfl) (Nat.le_of_ble_eq_true rfl) dX1_baseLiteral_45
def p_X1_baseLiteral_32 (S : CS) (x2 : Int32) (post : Int32 → Prop) : Prop := p_X1_baseLiteral_33 S x2 (0 : Int32) post
set_option maxHeartbeats 1000000 in
set_option maxRecDepth 100000 in
theorem t_X1_baseLiteral_32 {p : Program} {l : Launch} {e : Env} {s : State} {m : MethodId} {args : Array Value} {below : List Frame} {meth : Method} {c : Code} {dC : Nat → ClassId} {dI : Nat → Nat → Nat} {cyI cyJ cyZ : ClassId} {r : Nat → Nat} {a : Nat → Nat} {A : Nat → Prop} {S : CS} {x2 : Int32} {post : Int32 → Prop} (G : xG p s m args meth c cX1_baseLiteral 4 RX1 (some .int) wsX1_baseLiteral (dC, dI) (tyA cyI cyJ cyZ) r A) (h : p_X1_baseLiteral_32 S x2 post) {H : Heap} {locs : List Loc} {ls : Array Slot} (hP : va_P (dC, dI) vwCl (wC cyI cyJ cyZ a S) H) (hD : va_D A (wC cyI cyJ cyZ a S)) (hS : va_S A s.heap H locs) (hl : lv_has ls 4 [(2, .int x2)]) : W p l e { frames := 3, cells := 0, slots := 0, locals := 63 } s m args below meth c H locs 0 0 (MQ below (va_Qi (fun x u => S = u ∧ post x) (xAt (dC, dI) (tyA cyI cyJ cyZ) (wC cyI cyJ cyZ a) A) A) args s 0 0 A) (F0 m 32 ls []) := by
  obtain ⟨hx, hb, hml, hown, hts, hr, hlocks, hK, hE, hA⟩ := id G
  unfold p_X1_baseLiteral_32 at h
  refine lv_iconst (v := 0) hx hb dX1_baseLiteral_32 (by decide) ?_
  exact t_X1_baseLiteral_33 G h hP hD hS (lv_sub hl [0] rfl)
def p_X1_baseLiteral (S : CS) (x1 : Int32) (post : Int32 → Prop) : Prop := ∀ y1 : Int32, y1 = ((2 : Int32) * x1) → (p_X1_hasGate S y1 (fun r2 => (r2 = 0 → (p_X1_baseLiteral_32 S y1 post)) ∧ (¬ r2 = 0 → (vp_in y1 64 ∧ ((¬ (lg_cmp ((lshr ((cGA S) y1.toNatClampNeg) (22 : Int32)) &&& (1 : Int64)) (1 : Int64)) = 0 → (p_X1_baseLiteral_32 S y1 post)) ∧ ((lg_cmp ((lshr ((cGA S) y1.toNatClampNeg) (22 : Int32)) &&& (1 : Int64)) (1 : Int64)) = 0 → (p_X1_baseLiteral_33 S y1 (1 : Int32) post)))))))
set_option maxHeartbeats 1000000 in
set_option maxRecDepth 100000 in
theorem t_X1_baseLiteral {l : Launch} {dC : Nat → ClassId} {dI : Nat → Nat → Nat} {cyI cyJ cyZ : ClassId} {r : Nat → Nat} {a : Nat → Nat} {S : CS} {x1 : Int32} {post : Int32 → Prop} (h : p_X1_baseLiteral S x1 post) : xMi l yX1_baseLiteral wsX1_baseLiteral { frames := 3, cells := 0, slots := 0, locals := 63 } (dC, dI) (tyA cyI cyJ cyZ) r (wC cyI cyJ cyZ a) [.ref (a 4), .int x1] S (fun x u => S = u ∧ post x) 0 0 := by
  intro sz
  refine Met.ofW (cc := cX1_baseLiteral) (maxL := 4) (ret := (some .int)) (by decide) rfl ?_
  intro p e s m args below meth c s₁ B hml hv
  obtain ⟨rfl, G, hP, hD, hS⟩ := xG.of rfl B hml hv
  generalize hAe : va_A (wC cyI cyJ cyZ a S) sz = A at G hD hS ⊢
  have G : xG p s m _ meth c cX1_baseLiteral 4 RX1 (some .int) wsX1_baseLiteral (dC, dI) (tyA cyI cyJ cyZ) r A := G
  obtain ⟨hx, hb, hml, hown, hts, hr, hlocks, hK, hE, hA⟩ := id G
  have hiX1 : ∀ w ∈ wsX10, w ∈ wsX1_baseLiteral := by decide +kernel
  have hf11 := hts (.fieldLink RX1 11 "CellMapping$Gates" "gates" "[J") (by decide +kernel)
  have hl := lv_entry ([.ref (a 4), .int x1]) (n := 4) (Nat.le_of_ble_eq_true rfl)
  rw [lg_entry_eq]
  generalize (lg_sl ([.ref (a 4), .int x1]) ++ List.replicate (4 - (lg_sl ([.ref (a 4), .int x1])).length) Slot.unset).toArray = ls at hl ⊢
  have hl : lv_has ls 4 [(0, .ref (a 4)), (1, .int x1)] := hl
  show W p l e { frames := 3, cells := 0, slots := 0, locals := 63 } s m _ below meth c s.heap [] 0 0 _ _
  unfold p_X1_baseLiteral at h
  refine lv_iconst (v := 2) hx hb dX1_baseLiteral_0 (by decide) ?_
  refine lv_iload_n hx hb dX1_baseLiteral_1 rfl (lv_at hl 1 rfl) ?_
  refine lv_imul hx hb dX1_baseLiteral_2 ?_
  refine lv_topi (fun y1 ey1 => ?_)
  have h := h y1 ey1
  refine lv_istore_n (lv' := [(2, .int y1), (0, .ref (a 4)), (1, .int x1)]) hx hb dX1_baseLiteral_3 rfl hl (by decide) rfl (fun ls hl => ?_)
  refine lv_aload_n hx hb dX1_baseLiteral_4 rfl (lv_at hl 1 rfl) ?_
  refine lv_iload_n hx hb dX1_baseLiteral_5 rfl (lv_at hl 0 rfl) ?_
  refine xc_Vi (wf := wC cyI cyJ cyZ a) (wr := []) (isC := [0, 1, 2, 3, 4, 5, 6, 7, 8, 9, 10, 11, 12, 13, 14, 15, 16, 17, 18, 19, 20]) (isR := []) (As := [.int y1]) (rest := []) ⟨hx, hb, hml, hown, hts⟩ (t_X1_hasGate h) (cwV 1 hts gX1_baseLiteral_X1_hasGate rfl rfl rfl (by decide +kernel) ⟨Nat.le_of_ble_eq_true rfl, Nat.le_of_ble_eq_true rfl⟩) ⟨hK, hE, hA, hP, hD, hS, rfl, rfl, rfl, rfl, by decide⟩ ⟨4, 1, _, _, rfl, rfl, rfl⟩ rfl rfl hl.1 (Nat.le_of_ble_eq_true rfl) dX1_baseLiteral_6 ⟨Nat.le_of_ble_eq_true rfl, Nat.le_of_ble_eq_true rfl⟩ (fun r2 S3 H locs h hP hD hS => ?_)
  obtain ⟨rfl, h⟩ := h
  have hP : va_P (dC, dI) vwCl (wC cyI cyJ cyZ a S) H := hP
  have hD : va_D A (wC cyI cyJ cyZ a S) := hD
  refine lv_if_eq (tgt := 32) hx hb dX1_baseLiteral_9 (by decide) (fun c4 => ?_) (fun c4 => ?_)
  · have h := h.1 c4
    exact t_X1_baseLiteral_32 G h hP hD hS (lv_sub hl [0] rfl)
  · have h := h.2 c4
    refine lv_aload_n hx hb dX1_baseLiteral_12 rfl (lv_at hl 1 rfl) ?_
    refine va_get (D := (dC, dI)) (ci := 1) (v := .ref (a 17)) (C := RX1) (T := TX1) (N := 6) hx hb hts hiX1 hown hK hP 4 rfl rfl 3 (by decide) hf11 (fun _ h9 => h9) rfl dX1_baseLiteral_13 ?_
    refine lv_iload_n hx hb dX1_baseLiteral_16 rfl (lv_at hl 0 rfl) ?_
    obtain ⟨i6, h⟩ := h
    refine va_lald (D := (dC, dI)) hx hb hK hP 17 1 rfl rfl i6 dX1_baseLiteral_17 ?_
    refine lv_bipush (v := 22) hx hb dX1_baseLiteral_18 (by decide) ?_
    refine lv_lshr (v := (lshr ((cGA S) y1.toNatClampNeg) (22 : Int32))) hx hb dX1_baseLiteral_20 rfl ?_
    refine lv_lconst (v := 1) hx hb dX1_baseLiteral_21 (by decide) ?_
    refine lv_land hx hb dX1_baseLiteral_22 ?_
    refine lv_lconst (v := 1) hx hb dX1_baseLiteral_23 (by decide) ?_
    refine W.lcmp hx hb dX1_baseLiteral_24 ?_
    refine lv_if_ne (tgt := 32) hx hb dX1_baseLiteral_25 (by decide) (fun c7 => ?_) (fun c7 => ?_)
    · have h := h.1 c7
      exact t_X1_baseLiteral_32 G h hP hD hS (lv_sub hl [0] rfl)
    · have h := h.2 c7
      refine lv_iconst (v := 1) hx hb dX1_baseLiteral_28 (by decide) ?_
      refine lv_goto (tgt := 33) hx hb dX1_baseLiteral_29 (by decide) ?_
      exact t_X1_baseLiteral_33 G h hP hD hS (lv_sub hl [0] rfl)
def b_X1_withPins_36 (S : CS) (x3 : Int32) (post : Int64 → Prop) (g36 : Int64 → Int32 → Prop) (x4 : Int64) (x6 : Int32) : Prop := p_X1_cellOf S x3 (fun r5 => vp_in r5 12 ∧ ((((cPI S) r5.toNatClampNeg) ≤ x6 → (post x4)) ∧ (¬ ((cPI S) r5.toNatClampNeg) ≤ x6 → (p_X1_pinLiteral S x3 x6 (fun r9 => ∀ y11 : Int64, y11 = (x4 ||| (lshl (1 : Int64) r9)) → (∀ y12 : Int32, y12 = (x6 + (1 : Int32)) → (g36 y11 y12)))))))
def p_X1_withPins_36 (S : CS) (x3 : Int32) (x4 : Int64) (x6 : Int32) (post : Int64 → Prop) : Prop := ∃ (I : Int64 → Int32 → Prop) (mu : Int64 → Int32 → Nat), I x4 x6 ∧ ∀ (x4 : Int64) (x6 : Int32), I x4 x6 → b_X1_withPins_36 S x3 post (fun x4' x6' => I x4' x6' ∧ mu x4' x6' < mu x4 x6) x4 x6
set_option maxHeartbeats 1000000 in
set_option maxRecDepth 100000 in
theorem t_X1_withPins_36 {p : Program} {l : Launch} {e : Env} {s : State} {m : MethodId} {args : Array Value} {below : List Frame} {meth : Method} {c : Code} {dC : Nat → ClassId} {dI : Nat → Nat → Nat} {cyI cyJ cyZ : ClassId} {r : Nat → Nat} {a : Nat → Nat} {A : Nat → Prop} {S : CS} {x3 : Int32} {x4 : Int64} {x6 : Int32} {post : Int64 → Prop} (G : xG p s m args meth c cX1_withPins 7 RX1 (some .long) wsX1_withPins (dC, dI) (tyA cyI cyJ cyZ) r A) (h : p_X1_withPins_36 S x3 x4 x6 post) {H : Heap} {locs : List Loc} {ls : Array Slot} (hP : va_P (dC, dI) vwCl (wC cyI cyJ cyZ a S) H) (hD : va_D A (wC cyI cyJ cyZ a S)) (hS : va_S A s.heap H locs) (hl : lv_has ls 7 [(0, .ref (a 4)), (3, .int x3), (4, .long x4), (6, .int x6)]) : W p l e { frames := 3, cells := 0, slots := 0, locals := 63 } s m args below meth c H locs 0 0 (MQ below (va_Ql (fun x u => S = u ∧ post x) (xAt (dC, dI) (tyA cyI cyJ cyZ) (wC cyI cyJ cyZ a) A) A) args s 0 0 A) (F0 m 36 ls []) := by
  obtain ⟨hx, hb, hml, hown, hts, hr, hlocks, hK, hE, hA⟩ := id G
  have hiX1 : ∀ w ∈ wsX10, w ∈ wsX1_withPins := by decide +kernel
  have hf31 := hts (.fieldLink RX1 31 "CellMapping$Gates" "shelf" "LCellMapping$Shelf;") (by decide +kernel)
  have hiX3 : ∀ w ∈ wsX30, w ∈ wsX1_withPins := by decide +kernel
  have hf75 := hts (.fieldLink RX1 75 "CellMapping$Shelf" "pins" "[I") (by decide +kernel)
  obtain ⟨I, mu, h0, hstep⟩ := h
  suffices hgo : ∀ (n : Nat) (x4 : Int64) (x6 : Int32), I x4 x6 → mu x4 x6 < n → ∀ (H : Heap) (locs : List Loc) (ls : Array Slot), va_P (dC, dI) vwCl (wC cyI cyJ cyZ a S) H → va_D A (wC cyI cyJ cyZ a S) → va_S A s.heap H locs → lv_has ls 7 [(0, .ref (a 4)), (3, .int x3), (4, .long x4), (6, .int x6)] → W p l e { frames := 3, cells := 0, slots := 0, locals := 63 } s m args below meth c H locs 0 0 (MQ below (va_Ql (fun x u => S = u ∧ post x) (xAt (dC, dI) (tyA cyI cyJ cyZ) (wC cyI cyJ cyZ a) A) A) args s 0 0 A) (F0 m 36 ls []) from hgo (mu x4 x6 + 1) x4 x6 h0 (Nat.lt_succ_self _) H locs ls hP hD hS hl
  clear h0 hP hD hS hl
  intro n
  induction n with
  | zero => intro x4 x6 _ h; exact absurd h (Nat.not_lt_zero _)
  | succ n ih =>
    intro x4 x6 hI hmu H locs ls hP hD hS hl
    have h := hstep x4 x6 hI
    unfold b_X1_withPins_36 at h
    have k36 : ∀ (x4' : Int64) (x6' : Int32) (H : Heap) (locs : List Loc) (ls : Array Slot), (fun x4' x6' => I x4' x6' ∧ mu x4' x6' < mu x4 x6) x4' x6' → va_P (dC, dI) vwCl (wC cyI cyJ cyZ a S) H → va_D A (wC cyI cyJ cyZ a S) → va_S A s.heap H locs → lv_has ls 7 [(0, .ref (a 4)), (3, .int x3), (4, .long x4'), (6, .int x6')] → W p l e { frames := 3, cells := 0, slots := 0, locals := 63 } s m args below meth c H locs 0 0 (MQ below (va_Ql (fun x u => S = u ∧ post x) (xAt (dC, dI) (tyA cyI cyJ cyZ) (wC cyI cyJ cyZ a) A) A) args s 0 0 A) (F0 m 36 ls []) := fun x4' x6' H locs ls hh hP hD hS hl => ih x4' x6' hh.1 (Nat.lt_of_lt_of_le hh.2 (Nat.le_of_lt_succ hmu)) H locs ls hP hD hS hl
    generalize (fun x4' x6' => I x4' x6' ∧ mu x4' x6' < mu x4 x6) = g36 at h k36
    refine lv_iload hx hb dX1_withPins_36 (lv_at hl 3 rfl) ?_
    refine lv_aload_n hx hb dX1_withPins_38 rfl (lv_at hl 0 rfl) ?_
    refine va_get (D := (dC, dI)) (ci := 1) (v := .ref (a 3)) (C := RX1) (T := TX1) (N := 6) hx hb hts hiX1 hown hK hP 4 rfl rfl 2 (by decide) hf31 (fun _ h9 => h9) rfl dX1_withPins_39 ?_
    refine va_get (D := (dC, dI)) (ci := 3) (v := .ref (a 12)) (C := RX3) (T := TX3) (N := 6) hx hb hts hiX3 hown hK hP 3 rfl rfl 0 (by decide) hf75 (fun _ h9 => h9) rfl dX1_withPins_42 ?_
    refine lv_aload_n hx hb dX1_withPins_45 rfl (lv_at hl 0 rfl) ?_
    refine lv_iload_n hx hb dX1_withPins_46 rfl (lv_at hl 1 rfl) ?_
    refine xc_Vi (wf := wC cyI cyJ cyZ a) (wr := []) (isC := [0, 1, 2, 3, 4, 5, 6, 7, 8, 9, 10, 11, 12, 13, 14, 15, 16, 17, 18, 19, 20]) (isR := []) (As := [.int x3]) (rest := [.ref (a 12), .int x6]) ⟨hx, hb, hml, hown, hts⟩ (t_X1_cellOf h) (cwV 1 hts gX1_withPins_X1_cellOf rfl rfl rfl (by decide +kernel) ⟨Nat.le_of_ble_eq_true rfl, Nat.le_of_ble_eq_true rfl⟩) ⟨hK, hE, hA, hP, hD, hS, rfl, rfl, rfl, rfl, by decide⟩ ⟨4, 1, _, _, rfl, rfl, rfl⟩ rfl rfl hl.1 (Nat.le_of_ble_eq_true rfl) dX1_withPins_47 ⟨Nat.le_of_ble_eq_true rfl, Nat.le_of_ble_eq_true rfl⟩ (fun r5 S6 H locs h hP hD hS => ?_)
    obtain ⟨rfl, h⟩ := h
    have hP : va_P (dC, dI) vwCl (wC cyI cyJ cyZ a S) H := hP
    have hD : va_D A (wC cyI cyJ cyZ a S) := hD
    obtain ⟨i7, h⟩ := h
    refine va_iald (D := (dC, dI)) hx hb hK hP 12 0 rfl rfl i7 dX1_withPins_50 ?_
    refine lv_icmp_ge (tgt := 74) hx hb dX1_withPins_51 (by decide) (fun c8 => ?_) (fun c8 => ?_)
    · have h := h.1 c8
      refine lv_lload hx hb dX1_withPins_74 (lv_at hl 2 rfl) ?_
      exact xr_l (S := S) hx hb hr hlocks hK hP hD hS ⟨rfl, h⟩ (Nat.le_of_ble_eq_true rfl) (Nat.le_of_ble_eq_true rfl) dX1_withPins_76
    · have h := h.2 c8
      refine lv_lload hx hb dX1_withPins_54 (lv_at hl 2 rfl) ?_
      refine lv_lconst (v := 1) hx hb dX1_withPins_56 (by decide) ?_
      refine lv_aload_n hx hb dX1_withPins_57 rfl (lv_at hl 0 rfl) ?_
      refine lv_iload_n hx hb dX1_withPins_58 rfl (lv_at hl 1 rfl) ?_
      refine lv_iload hx hb dX1_withPins_59 (lv_at hl 3 rfl) ?_
      refine xc_Vi (wf := wC cyI cyJ cyZ a) (wr := []) (isC := [0, 1, 2, 3, 4, 5, 6, 7, 8, 9, 10, 11, 12, 13, 14, 15, 16, 17, 18, 19, 20]) (isR := []) (As := [.int x3, .int x6]) (rest := [.long (1 : Int64), .long x4]) ⟨hx, hb, hml, hown, hts⟩ (t_X1_pinLiteral h) (cwV 2 hts gX1_withPins_X1_pinLiteral rfl rfl rfl (by decide +kernel) ⟨Nat.le_of_ble_eq_true rfl, Nat.le_of_ble_eq_true rfl⟩) ⟨hK, hE, hA, hP, hD, hS, rfl, rfl, rfl, rfl, by decide⟩ ⟨4, 1, _, _, rfl, rfl, rfl⟩ rfl rfl hl.1 (Nat.le_of_ble_eq_true rfl) dX1_withPins_61 ⟨Nat.le_of_ble_eq_true rfl, Nat.le_of_ble_eq_true rfl⟩ (fun r9 S10 H locs h hP hD hS => ?_)
      obtain ⟨rfl, h⟩ := h
      have hP : va_P (dC, dI) vwCl (wC cyI cyJ cyZ a S) H := hP
      have hD : va_D A (wC cyI cyJ cyZ a S) := hD
      refine lv_lshl (v := (lshl (1 : Int64) r9)) hx hb dX1_withPins_64 rfl ?_
      refine lv_lor hx hb dX1_withPins_65 ?_
      refine lv_topl (fun y11 ey11 => ?_)
      have h := h y11 ey11
      refine lv_lstore (lv' := [(4, .long y11), (0, .ref (a 4)), (3, .int x3), (6, .int x6)]) hx hb dX1_withPins_66 hl (by decide) rfl (fun ls hl => ?_)
      obtain ⟨y12, ey12⟩ : ∃ z : Int32, z = (x6 + (1 : Int32)) := ⟨_, rfl⟩
      have h := h y12 ey12
      refine lv_iinc (v := y12) (lv' := [(6, .int y12), (4, .long y11), (0, .ref (a 4)), (3, .int x3)]) hx hb dX1_withPins_68 hl (k := 3) rfl (by rw [ey12]; rfl) (by decide) rfl (fun ls hl => ?_)
      refine lv_goto (tgt := 36) hx hb dX1_withPins_71 (by decide) ?_
      exact k36 y11 y12 H locs ls h hP hD hS (lv_sub hl [2, 3, 1, 0] rfl)
def p_X1_withPins (S : CS) (x1 : Int64) (x3 : Int32) (post : Int64 → Prop) : Prop := (¬ (lg_cmp ((lushr x1 x3) &&& (1 : Int64)) (0 : Int64)) = 0 → (p_X1_hasGate S x3 (fun r2 => (¬ r2 = 0 → (p_X1_withPins_36 S x3 x1 (0 : Int32) post)) ∧ (r2 = 0 → (post (x1 &&& ((lshl (1 : Int64) x3) ^^^ (-1 : Int64)))))))) ∧ ((lg_cmp ((lushr x1 x3) &&& (1 : Int64)) (0 : Int64)) = 0 → (post x1))
set_option maxHeartbeats 1000000 in
set_option maxRecDepth 100000 in
theorem t_X1_withPins {l : Launch} {dC : Nat → ClassId} {dI : Nat → Nat → Nat} {cyI cyJ cyZ : ClassId} {r : Nat → Nat} {a : Nat → Nat} {S : CS} {x1 : Int64} {x3 : Int32} {post : Int64 → Prop} (h : p_X1_withPins S x1 x3 post) : xMl l yX1_withPins wsX1_withPins { frames := 3, cells := 0, slots := 0, locals := 63 } (dC, dI) (tyA cyI cyJ cyZ) r (wC cyI cyJ cyZ a) [.ref (a 4), .long x1, .int x3] S (fun x u => S = u ∧ post x) 0 0 := by
  intro sz
  refine Met.ofW (cc := cX1_withPins) (maxL := 7) (ret := (some .long)) (by decide) rfl ?_
  intro p e s m args below meth c s₁ B hml hv
  obtain ⟨rfl, G, hP, hD, hS⟩ := xG.of rfl B hml hv
  generalize hAe : va_A (wC cyI cyJ cyZ a S) sz = A at G hD hS ⊢
  have G : xG p s m _ meth c cX1_withPins 7 RX1 (some .long) wsX1_withPins (dC, dI) (tyA cyI cyJ cyZ) r A := G
  obtain ⟨hx, hb, hml, hown, hts, hr, hlocks, hK, hE, hA⟩ := id G
  have hl := lv_entry ([.ref (a 4), .long x1, .int x3]) (n := 7) (Nat.le_of_ble_eq_true rfl)
  rw [lg_entry_eq]
  generalize (lg_sl ([.ref (a 4), .long x1, .int x3]) ++ List.replicate (7 - (lg_sl ([.ref (a 4), .long x1, .int x3])).length) Slot.unset).toArray = ls at hl ⊢
  have hl : lv_has ls 7 [(0, .ref (a 4)), (1, .long x1), (3, .int x3)] := hl
  show W p l e { frames := 3, cells := 0, slots := 0, locals := 63 } s m _ below meth c s.heap [] 0 0 _ _
  unfold p_X1_withPins at h
  refine lv_lload_n hx hb dX1_withPins_0 rfl (lv_at hl 1 rfl) ?_
  refine lv_iload_n hx hb dX1_withPins_1 rfl (lv_at hl 2 rfl) ?_
  refine lv_lushr (v := (lushr x1 x3)) hx hb dX1_withPins_2 rfl ?_
  refine lv_lconst (v := 1) hx hb dX1_withPins_3 (by decide) ?_
  refine lv_land hx hb dX1_withPins_4 ?_
  refine lv_lconst (v := 0) hx hb dX1_withPins_5 (by decide) ?_
  refine W.lcmp hx hb dX1_withPins_6 ?_
  refine lv_if_ne (tgt := 12) hx hb dX1_withPins_7 (by decide) (fun c1 => ?_) (fun c1 => ?_)
  · have h := h.1 c1
    refine lv_aload_n hx hb dX1_withPins_12 rfl (lv_at hl 0 rfl) ?_
    refine lv_iload_n hx hb dX1_withPins_13 rfl (lv_at hl 2 rfl) ?_
    refine xc_Vi (wf := wC cyI cyJ cyZ a) (wr := []) (isC := [0, 1, 2, 3, 4, 5, 6, 7, 8, 9, 10, 11, 12, 13, 14, 15, 16, 17, 18, 19, 20]) (isR := []) (As := [.int x3]) (rest := []) ⟨hx, hb, hml, hown, hts⟩ (t_X1_hasGate h) (cwV 1 hts gX1_withPins_X1_hasGate rfl rfl rfl (by decide +kernel) ⟨Nat.le_of_ble_eq_true rfl, Nat.le_of_ble_eq_true rfl⟩) ⟨hK, hE, hA, hP, hD, hS, rfl, rfl, rfl, rfl, by decide⟩ ⟨4, 1, _, _, rfl, rfl, rfl⟩ rfl rfl hl.1 (Nat.le_of_ble_eq_true rfl) dX1_withPins_14 ⟨Nat.le_of_ble_eq_true rfl, Nat.le_of_ble_eq_true rfl⟩ (fun r2 S3 H locs h hP hD hS => ?_)
    obtain ⟨rfl, h⟩ := h
    have hP : va_P (dC, dI) vwCl (wC cyI cyJ cyZ a S) H := hP
    have hD : va_D A (wC cyI cyJ cyZ a S) := hD
    refine lv_if_ne (tgt := 30) hx hb dX1_withPins_17 (by decide) (fun c4 => ?_) (fun c4 => ?_)
    · have h := h.1 c4
      refine lv_lload_n hx hb dX1_withPins_30 rfl (lv_at hl 1 rfl) ?_
      refine lv_lstore (lv' := [(4, .long x1), (0, .ref (a 4)), (1, .long x1), (3, .int x3)]) hx hb dX1_withPins_31 hl (by decide) rfl (fun ls hl => ?_)
      refine lv_iconst (v := 0) hx hb dX1_withPins_33 (by decide) ?_
      refine lv_istore (lv' := [(6, .int (0 : Int32)), (4, .long x1), (0, .ref (a 4)), (1, .long x1), (3, .int x3)]) hx hb dX1_withPins_34 hl (by decide) rfl (fun ls hl => ?_)
      exact t_X1_withPins_36 G h hP hD hS (lv_sub hl [2, 4, 1, 0] rfl)
    · have h := h.2 c4
      refine lv_lload_n hx hb dX1_withPins_20 rfl (lv_at hl 1 rfl) ?_
      refine lv_lconst (v := 1) hx hb dX1_withPins_21 (by decide) ?_
      refine lv_iload_n hx hb dX1_withPins_22 rfl (lv_at hl 2 rfl) ?_
      refine lv_lshl (v := (lshl (1 : Int64) x3)) hx hb dX1_withPins_23 rfl ?_
      refine lv_ldc2 (v := -1) hx hb hown (hts (.constantLong RX1 73 (-1)) (by decide +kernel)) dX1_withPins_24 ?_
      refine lv_lxor hx hb dX1_withPins_27 ?_
      refine lv_land hx hb dX1_withPins_28 ?_
      exact xr_l (S := S) hx hb hr hlocks hK hP hD hS ⟨rfl, h⟩ (Nat.le_of_ble_eq_true rfl) (Nat.le_of_ble_eq_true rfl) dX1_withPins_29
  · have h := h.2 c1
    refine lv_lload_n hx hb dX1_withPins_10 rfl (lv_at hl 1 rfl) ?_
    exact xr_l (S := S) hx hb hr hlocks hK hP hD hS ⟨rfl, h⟩ (Nat.le_of_ble_eq_true rfl) (Nat.le_of_ble_eq_true rfl) dX1_withPins_11
def b_X1_wantedFor_13 (S : CS) (post : Int64 → Prop) (g13 : Int64 → Int32 → Prop) (x3 : Int64) (x5 : Int32) : Prop := (x5 < 0 → (post x3)) ∧ (¬ x5 < 0 → (p_X1_baseLiteral S x5 (fun r3 => p_X1_withPins S x3 (r3 ^^^ (1 : Int32)) (fun r5 => p_X1_withPins S r5 r3 (fun r7 => ∀ y9 : Int32, y9 = (x5 + (-1 : Int32)) → (g13 r7 y9))))))
def p_X1_wantedFor_13 (S : CS) (x3 : Int64) (x5 : Int32) (post : Int64 → Prop) : Prop := ∃ (I : Int64 → Int32 → Prop) (mu : Int64 → Int32 → Nat), I x3 x5 ∧ ∀ (x3 : Int64) (x5 : Int32), I x3 x5 → b_X1_wantedFor_13 S post (fun x3' x5' => I x3' x5' ∧ mu x3' x5' < mu x3 x5) x3 x5
set_option maxHeartbeats 1000000 in
set_option maxRecDepth 100000 in
theorem t_X1_wantedFor_13 {p : Program} {l : Launch} {e : Env} {s : State} {m : MethodId} {args : Array Value} {below : List Frame} {meth : Method} {c : Code} {dC : Nat → ClassId} {dI : Nat → Nat → Nat} {cyI cyJ cyZ : ClassId} {r : Nat → Nat} {a : Nat → Nat} {A : Nat → Prop} {S : CS} {x3 : Int64} {x5 : Int32} {post : Int64 → Prop} (G : xG p s m args meth c cX1_wantedFor 7 RX1 (some .long) wsX1_wantedFor (dC, dI) (tyA cyI cyJ cyZ) r A) (h : p_X1_wantedFor_13 S x3 x5 post) {H : Heap} {locs : List Loc} {ls : Array Slot} (hP : va_P (dC, dI) vwCl (wC cyI cyJ cyZ a S) H) (hD : va_D A (wC cyI cyJ cyZ a S)) (hS : va_S A s.heap H locs) (hl : lv_has ls 7 [(0, .ref (a 4)), (3, .long x3), (5, .int x5)]) : W p l e { frames := 4, cells := 0, slots := 0, locals := 89 } s m args below meth c H locs 0 0 (MQ below (va_Ql (fun x u => S = u ∧ post x) (xAt (dC, dI) (tyA cyI cyJ cyZ) (wC cyI cyJ cyZ a) A) A) args s 0 0 A) (F0 m 13 ls []) := by
  obtain ⟨hx, hb, hml, hown, hts, hr, hlocks, hK, hE, hA⟩ := id G
  obtain ⟨I, mu, h0, hstep⟩ := h
  suffices hgo : ∀ (n : Nat) (x3 : Int64) (x5 : Int32), I x3 x5 → mu x3 x5 < n → ∀ (H : Heap) (locs : List Loc) (ls : Array Slot), va_P (dC, dI) vwCl (wC cyI cyJ cyZ a S) H → va_D A (wC cyI cyJ cyZ a S) → va_S A s.heap H locs → lv_has ls 7 [(0, .ref (a 4)), (3, .long x3), (5, .int x5)] → W p l e { frames := 4, cells := 0, slots := 0, locals := 89 } s m args below meth c H locs 0 0 (MQ below (va_Ql (fun x u => S = u ∧ post x) (xAt (dC, dI) (tyA cyI cyJ cyZ) (wC cyI cyJ cyZ a) A) A) args s 0 0 A) (F0 m 13 ls []) from hgo (mu x3 x5 + 1) x3 x5 h0 (Nat.lt_succ_self _) H locs ls hP hD hS hl
  clear h0 hP hD hS hl
  intro n
  induction n with
  | zero => intro x3 x5 _ h; exact absurd h (Nat.not_lt_zero _)
  | succ n ih =>
    intro x3 x5 hI hmu H locs ls hP hD hS hl
    have h := hstep x3 x5 hI
    unfold b_X1_wantedFor_13 at h
    have k13 : ∀ (x3' : Int64) (x5' : Int32) (H : Heap) (locs : List Loc) (ls : Array Slot), (fun x3' x5' => I x3' x5' ∧ mu x3' x5' < mu x3 x5) x3' x5' → va_P (dC, dI) vwCl (wC cyI cyJ cyZ a S) H → va_D A (wC cyI cyJ cyZ a S) → va_S A s.heap H locs → lv_has ls 7 [(0, .ref (a 4)), (3, .long x3'), (5, .int x5')] → W p l e { frames := 4, cells := 0, slots := 0, locals := 89 } s m args below meth c H locs 0 0 (MQ below (va_Ql (fun x u => S = u ∧ post x) (xAt (dC, dI) (tyA cyI cyJ cyZ) (wC cyI cyJ cyZ a) A) A) args s 0 0 A) (F0 m 13 ls []) := fun x3' x5' H locs ls hh hP hD hS hl => ih x3' x5' hh.1 (Nat.lt_of_lt_of_le hh.2 (Nat.le_of_lt_succ hmu)) H locs ls hP hD hS hl
    generalize (fun x3' x5' => I x3' x5' ∧ mu x3' x5' < mu x3 x5) = g13 at h k13
    refine lv_iload hx hb dX1_wantedFor_13 (lv_at hl 2 rfl) ?_
    refine lv_if_lt (tgt := 50) hx hb dX1_wantedFor_15 (by decide) (fun c2 => ?_) (fun c2 => ?_)
    · have h := h.1 c2
      refine lv_lload_n hx hb dX1_wantedFor_50 rfl (lv_at hl 1 rfl) ?_
      exact xr_l (S := S) hx hb hr hlocks hK hP hD hS ⟨rfl, h⟩ (Nat.le_of_ble_eq_true rfl) (Nat.le_of_ble_eq_true rfl) dX1_wantedFor_51
    · have h := h.2 c2
      refine lv_aload_n hx hb dX1_wantedFor_18 rfl (lv_at hl 0 rfl) ?_
      refine lv_iload hx hb dX1_wantedFor_19 (lv_at hl 2 rfl) ?_
      refine xc_Vi (wf := wC cyI cyJ cyZ a) (wr := []) (isC := [0, 1, 2, 3, 4, 5, 6, 7, 8, 9, 10, 11, 12, 13, 14, 15, 16, 17, 18, 19, 20]) (isR := []) (As := [.int x5]) (rest := []) ⟨hx, hb, hml, hown, hts⟩ (t_X1_baseLiteral h) (cwV 1 hts gX1_wantedFor_X1_baseLiteral rfl rfl rfl (by decide +kernel) ⟨Nat.le_of_ble_eq_true rfl, Nat.le_of_ble_eq_true rfl⟩) ⟨hK, hE, hA, hP, hD, hS, rfl, rfl, rfl, rfl, by decide⟩ ⟨4, 1, _, _, rfl, rfl, rfl⟩ rfl rfl hl.1 (Nat.le_of_ble_eq_true rfl) dX1_wantedFor_21 ⟨Nat.le_of_ble_eq_true rfl, Nat.le_of_ble_eq_true rfl⟩ (fun r3 S4 H locs h hP hD hS => ?_)
      obtain ⟨rfl, h⟩ := h
      have hP : va_P (dC, dI) vwCl (wC cyI cyJ cyZ a S) H := hP
      have hD : va_D A (wC cyI cyJ cyZ a S) := hD
      refine lv_istore (lv' := [(6, .int r3), (0, .ref (a 4)), (3, .long x3), (5, .int x5)]) hx hb dX1_wantedFor_24 hl (by decide) rfl (fun ls hl => ?_)
      refine lv_aload_n hx hb dX1_wantedFor_26 rfl (lv_at hl 1 rfl) ?_
      refine lv_lload_n hx hb dX1_wantedFor_27 rfl (lv_at hl 2 rfl) ?_
      refine lv_iload hx hb dX1_wantedFor_28 (lv_at hl 0 rfl) ?_
      refine lv_iconst (v := 1) hx hb dX1_wantedFor_30 (by decide) ?_
      refine lv_ixor hx hb dX1_wantedFor_31 ?_
      refine xc_Vl (wf := wC cyI cyJ cyZ a) (wr := []) (isC := [0, 1, 2, 3, 4, 5, 6, 7, 8, 9, 10, 11, 12, 13, 14, 15, 16, 17, 18, 19, 20]) (isR := []) (As := [.long x3, .int (r3 ^^^ (1 : Int32))]) (rest := []) ⟨hx, hb, hml, hown, hts⟩ (t_X1_withPins h) (cwV 2 hts gX1_wantedFor_X1_withPins rfl rfl rfl (by decide +kernel) ⟨Nat.le_of_ble_eq_true rfl, Nat.le_of_ble_eq_true rfl⟩) ⟨hK, hE, hA, hP, hD, hS, rfl, rfl, rfl, rfl, by decide⟩ ⟨4, 1, _, _, rfl, rfl, rfl⟩ rfl rfl hl.1 (Nat.le_of_ble_eq_true rfl) dX1_wantedFor_32 ⟨Nat.le_of_ble_eq_true rfl, Nat.le_of_ble_eq_true rfl⟩ (fun r5 S6 H locs h hP hD hS => ?_)
      obtain ⟨rfl, h⟩ := h
      have hP : va_P (dC, dI) vwCl (wC cyI cyJ cyZ a S) H := hP
      have hD : va_D A (wC cyI cyJ cyZ a S) := hD
      refine lv_lstore_n (lv' := [(3, .long r5), (6, .int r3), (0, .ref (a 4)), (5, .int x5)]) hx hb dX1_wantedFor_35 rfl hl (by decide) rfl (fun ls hl => ?_)
      refine lv_aload_n hx hb dX1_wantedFor_36 rfl (lv_at hl 2 rfl) ?_
      refine lv_lload_n hx hb dX1_wantedFor_37 rfl (lv_at hl 0 rfl) ?_
      refine lv_iload hx hb dX1_wantedFor_38 (lv_at hl 1 rfl) ?_
      refine xc_Vl (wf := wC cyI cyJ cyZ a) (wr := []) (isC := [0, 1, 2, 3, 4, 5, 6, 7, 8, 9, 10, 11, 12, 13, 14, 15, 16, 17, 18, 19, 20]) (isR := []) (As := [.long r5, .int r3]) (rest := []) ⟨hx, hb, hml, hown, hts⟩ (t_X1_withPins h) (cwV 2 hts gX1_wantedFor_X1_withPins rfl rfl rfl (by decide +kernel) ⟨Nat.le_of_ble_eq_true rfl, Nat.le_of_ble_eq_true rfl⟩) ⟨hK, hE, hA, hP, hD, hS, rfl, rfl, rfl, rfl, by decide⟩ ⟨4, 1, _, _, rfl, rfl, rfl⟩ rfl rfl hl.1 (Nat.le_of_ble_eq_true rfl) dX1_wantedFor_40 ⟨Nat.le_of_ble_eq_true rfl, Nat.le_of_ble_eq_true rfl⟩ (fun r7 S8 H locs h hP hD hS => ?_)
      obtain ⟨rfl, h⟩ := h
      have hP : va_P (dC, dI) vwCl (wC cyI cyJ cyZ a S) H := hP
      have hD : va_D A (wC cyI cyJ cyZ a S) := hD
      refine lv_lstore_n (lv' := [(3, .long r7), (6, .int r3), (0, .ref (a 4)), (5, .int x5)]) hx hb dX1_wantedFor_43 rfl hl (by decide) rfl (fun ls hl => ?_)
      obtain ⟨y9, ey9⟩ : ∃ z : Int32, z = (x5 + (-1 : Int32)) := ⟨_, rfl⟩
      have h := h y9 ey9
      refine lv_iinc (v := y9) (lv' := [(5, .int y9), (3, .long r7), (6, .int r3), (0, .ref (a 4))]) hx hb dX1_wantedFor_44 hl (k := 3) rfl (by rw [ey9]; rfl) (by decide) rfl (fun ls hl => ?_)
      refine lv_goto (tgt := 13) hx hb dX1_wantedFor_47 (by decide) ?_
      exact k13 r7 y9 H locs ls h hP hD hS (lv_sub hl [3, 1, 0] rfl)
def p_X1_wantedFor (S : CS) (x1 : Int64) (post : Int64 → Prop) : Prop := ∀ y1 : Int32, y1 = ((cNC S) - (1 : Int32)) → (p_X1_wantedFor_13 S x1 y1 post)
set_option maxHeartbeats 1000000 in
set_option maxRecDepth 100000 in
theorem t_X1_wantedFor {l : Launch} {dC : Nat → ClassId} {dI : Nat → Nat → Nat} {cyI cyJ cyZ : ClassId} {r : Nat → Nat} {a : Nat → Nat} {S : CS} {x1 : Int64} {post : Int64 → Prop} (h : p_X1_wantedFor S x1 post) : xMl l yX1_wantedFor wsX1_wantedFor { frames := 4, cells := 0, slots := 0, locals := 89 } (dC, dI) (tyA cyI cyJ cyZ) r (wC cyI cyJ cyZ a) [.ref (a 4), .long x1] S (fun x u => S = u ∧ post x) 0 0 := by
  intro sz
  refine Met.ofW (cc := cX1_wantedFor) (maxL := 7) (ret := (some .long)) (by decide) rfl ?_
  intro p e s m args below meth c s₁ B hml hv
  obtain ⟨rfl, G, hP, hD, hS⟩ := xG.of rfl B hml hv
  generalize hAe : va_A (wC cyI cyJ cyZ a S) sz = A at G hD hS ⊢
  have G : xG p s m _ meth c cX1_wantedFor 7 RX1 (some .long) wsX1_wantedFor (dC, dI) (tyA cyI cyJ cyZ) r A := G
  obtain ⟨hx, hb, hml, hown, hts, hr, hlocks, hK, hE, hA⟩ := id G
  have hiX1 : ∀ w ∈ wsX10, w ∈ wsX1_wantedFor := by decide +kernel
  have hf23 := hts (.fieldLink RX1 23 "CellMapping$Gates" "graph" "LCellMapping$Graph;") (by decide +kernel)
  have hiX2 : ∀ w ∈ wsX20, w ∈ wsX1_wantedFor := by decide +kernel
  have hf39 := hts (.fieldLink RX1 39 "CellMapping$Graph" "nodeCount" "I") (by decide +kernel)
  have hl := lv_entry ([.ref (a 4), .long x1]) (n := 7) (Nat.le_of_ble_eq_true rfl)
  rw [lg_entry_eq]
  generalize (lg_sl ([.ref (a 4), .long x1]) ++ List.replicate (7 - (lg_sl ([.ref (a 4), .long x1])).length) Slot.unset).toArray = ls at hl ⊢
  have hl : lv_has ls 7 [(0, .ref (a 4)), (1, .long x1)] := hl
  show W p l e { frames := 4, cells := 0, slots := 0, locals := 89 } s m _ below meth c s.heap [] 0 0 _ _
  unfold p_X1_wantedFor at h
  refine lv_lload_n hx hb dX1_wantedFor_0 rfl (lv_at hl 1 rfl) ?_
  refine lv_lstore_n (lv' := [(3, .long x1), (0, .ref (a 4)), (1, .long x1)]) hx hb dX1_wantedFor_1 rfl hl (by decide) rfl (fun ls hl => ?_)
  refine lv_aload_n hx hb dX1_wantedFor_2 rfl (lv_at hl 1 rfl) ?_
  refine va_get (D := (dC, dI)) (ci := 1) (v := .ref (a 1)) (C := RX1) (T := TX1) (N := 6) hx hb hts hiX1 hown hK hP 4 rfl rfl 0 (by decide) hf23 (fun _ h9 => h9) rfl dX1_wantedFor_3 ?_
  refine va_get (D := (dC, dI)) (ci := 2) (v := .int (cNC S)) (C := RX2) (T := TX2) (N := 6) hx hb hts hiX2 hown hK hP 1 rfl rfl 4 (by decide) hf39 (fun _ h9 => h9) rfl dX1_wantedFor_6 ?_
  refine lv_iconst (v := 1) hx hb dX1_wantedFor_9 (by decide) ?_
  refine lv_isub hx hb dX1_wantedFor_10 ?_
  refine lv_topi (fun y1 ey1 => ?_)
  have h := h y1 ey1
  refine lv_istore (lv' := [(5, .int y1), (3, .long x1), (0, .ref (a 4)), (1, .long x1)]) hx hb dX1_wantedFor_11 hl (by decide) rfl (fun ls hl => ?_)
  exact t_X1_wantedFor_13 G h hP hD hS (lv_sub hl [2, 1, 0] rfl)
def b_X1_gateValue_47 (S : CS) (x1 : Int64) (x3 : Int32) (x5 : Int32) (post : Int32 → Prop) (g47 : Int32 → Int32 → Prop) (x6 : Int32) (x7 : Int32) : Prop := vp_in x5 12 ∧ ((((cPI S) x5.toNatClampNeg) ≤ x7 → (vp_in x5 12 ∧ (post ((((cTR S) x5.toNatClampNeg) >>> (x6 &&& 31)) &&& (1 : Int32))))) ∧ (¬ ((cPI S) x5.toNatClampNeg) ≤ x7 → (p_X1_pinLiteral S x3 x7 (fun r12 => ∀ y14 : Int32, y14 = (x6 ||| ((((lushr x1 r12) &&& (1 : Int64)).toInt32) <<< (x7 &&& 31))) → (∀ y15 : Int32, y15 = (x7 + (1 : Int32)) → (g47 y14 y15))))))
def p_X1_gateValue_47 (S : CS) (x1 : Int64) (x3 : Int32) (x5 : Int32) (x6 : Int32) (x7 : Int32) (post : Int32 → Prop) : Prop := ∃ (I : Int32 → Int32 → Prop) (mu : Int32 → Int32 → Nat), I x6 x7 ∧ ∀ (x6 : Int32) (x7 : Int32), I x6 x7 → b_X1_gateValue_47 S x1 x3 x5 post (fun x6' x7' => I x6' x7' ∧ mu x6' x7' < mu x6 x7) x6 x7
set_option maxHeartbeats 1000000 in
set_option maxRecDepth 100000 in
theorem t_X1_gateValue_47 {p : Program} {l : Launch} {e : Env} {s : State} {m : MethodId} {args : Array Value} {below : List Frame} {meth : Method} {c : Code} {dC : Nat → ClassId} {dI : Nat → Nat → Nat} {cyI cyJ cyZ : ClassId} {r : Nat → Nat} {a : Nat → Nat} {A : Nat → Prop} {S : CS} {x1 : Int64} {x3 : Int32} {x5 : Int32} {x6 : Int32} {x7 : Int32} {post : Int32 → Prop} (G : xG p s m args meth c cX1_gateValue 8 RX1 (some .int) wsX1_gateValue (dC, dI) (tyA cyI cyJ cyZ) r A) (h : p_X1_gateValue_47 S x1 x3 x5 x6 x7 post) {H : Heap} {locs : List Loc} {ls : Array Slot} (hP : va_P (dC, dI) vwCl (wC cyI cyJ cyZ a S) H) (hD : va_D A (wC cyI cyJ cyZ a S)) (hS : va_S A s.heap H locs) (hl : lv_has ls 8 [(0, .ref (a 4)), (1, .long x1), (3, .int x3), (5, .int x5), (6, .int x6), (7, .int x7)]) : W p l e { frames := 2, cells := 0, slots := 0, locals := 42 } s m args below meth c H locs 0 0 (MQ below (va_Qi (fun x u => S = u ∧ post x) (xAt (dC, dI) (tyA cyI cyJ cyZ) (wC cyI cyJ cyZ a) A) A) args s 0 0 A) (F0 m 47 ls []) := by
  obtain ⟨hx, hb, hml, hown, hts, hr, hlocks, hK, hE, hA⟩ := id G
  have hiX1 : ∀ w ∈ wsX10, w ∈ wsX1_gateValue := by decide +kernel
  have hf31 := hts (.fieldLink RX1 31 "CellMapping$Gates" "shelf" "LCellMapping$Shelf;") (by decide +kernel)
  have hiX3 : ∀ w ∈ wsX30, w ∈ wsX1_gateValue := by decide +kernel
  have hf75 := hts (.fieldLink RX1 75 "CellMapping$Shelf" "pins" "[I") (by decide +kernel)
  have hf88 := hts (.fieldLink RX1 88 "CellMapping$Shelf" "truths" "[I") (by decide +kernel)
  obtain ⟨I, mu, h0, hstep⟩ := h
  suffices hgo : ∀ (n : Nat) (x6 : Int32) (x7 : Int32), I x6 x7 → mu x6 x7 < n → ∀ (H : Heap) (locs : List Loc) (ls : Array Slot), va_P (dC, dI) vwCl (wC cyI cyJ cyZ a S) H → va_D A (wC cyI cyJ cyZ a S) → va_S A s.heap H locs → lv_has ls 8 [(0, .ref (a 4)), (1, .long x1), (3, .int x3), (5, .int x5), (6, .int x6), (7, .int x7)] → W p l e { frames := 2, cells := 0, slots := 0, locals := 42 } s m args below meth c H locs 0 0 (MQ below (va_Qi (fun x u => S = u ∧ post x) (xAt (dC, dI) (tyA cyI cyJ cyZ) (wC cyI cyJ cyZ a) A) A) args s 0 0 A) (F0 m 47 ls []) from hgo (mu x6 x7 + 1) x6 x7 h0 (Nat.lt_succ_self _) H locs ls hP hD hS hl
  clear h0 hP hD hS hl
  intro n
  induction n with
  | zero => intro x6 x7 _ h; exact absurd h (Nat.not_lt_zero _)
  | succ n ih =>
    intro x6 x7 hI hmu H locs ls hP hD hS hl
    have h := hstep x6 x7 hI
    unfold b_X1_gateValue_47 at h
    have k47 : ∀ (x6' : Int32) (x7' : Int32) (H : Heap) (locs : List Loc) (ls : Array Slot), (fun x6' x7' => I x6' x7' ∧ mu x6' x7' < mu x6 x7) x6' x7' → va_P (dC, dI) vwCl (wC cyI cyJ cyZ a S) H → va_D A (wC cyI cyJ cyZ a S) → va_S A s.heap H locs → lv_has ls 8 [(0, .ref (a 4)), (1, .long x1), (3, .int x3), (5, .int x5), (6, .int x6'), (7, .int x7')] → W p l e { frames := 2, cells := 0, slots := 0, locals := 42 } s m args below meth c H locs 0 0 (MQ below (va_Qi (fun x u => S = u ∧ post x) (xAt (dC, dI) (tyA cyI cyJ cyZ) (wC cyI cyJ cyZ a) A) A) args s 0 0 A) (F0 m 47 ls []) := fun x6' x7' H locs ls hh hP hD hS hl => ih x6' x7' hh.1 (Nat.lt_of_lt_of_le hh.2 (Nat.le_of_lt_succ hmu)) H locs ls hP hD hS hl
    generalize (fun x6' x7' => I x6' x7' ∧ mu x6' x7' < mu x6 x7) = g47 at h k47
    refine lv_iload hx hb dX1_gateValue_47 (lv_at hl 5 rfl) ?_
    refine lv_aload_n hx hb dX1_gateValue_49 rfl (lv_at hl 0 rfl) ?_
    refine va_get (D := (dC, dI)) (ci := 1) (v := .ref (a 3)) (C := RX1) (T := TX1) (N := 6) hx hb hts hiX1 hown hK hP 4 rfl rfl 2 (by decide) hf31 (fun _ h9 => h9) rfl dX1_gateValue_50 ?_
    refine va_get (D := (dC, dI)) (ci := 3) (v := .ref (a 12)) (C := RX3) (T := TX3) (N := 6) hx hb hts hiX3 hown hK hP 3 rfl rfl 0 (by decide) hf75 (fun _ h9 => h9) rfl dX1_gateValue_53 ?_
    refine lv_iload hx hb dX1_gateValue_56 (lv_at hl 3 rfl) ?_
    obtain ⟨i9, h⟩ := h
    refine va_iald (D := (dC, dI)) hx hb hK hP 12 0 rfl rfl i9 dX1_gateValue_58 ?_
    refine lv_icmp_ge (tgt := 88) hx hb dX1_gateValue_59 (by decide) (fun c10 => ?_) (fun c10 => ?_)
    · have h := h.1 c10
      refine lv_aload_n hx hb dX1_gateValue_88 rfl (lv_at hl 0 rfl) ?_
      refine va_get (D := (dC, dI)) (ci := 1) (v := .ref (a 3)) (C := RX1) (T := TX1) (N := 6) hx hb hts hiX1 hown hK hP 4 rfl rfl 2 (by decide) hf31 (fun _ h9 => h9) rfl dX1_gateValue_89 ?_
      refine va_get (D := (dC, dI)) (ci := 3) (v := .ref (a 13)) (C := RX3) (T := TX3) (N := 6) hx hb hts hiX3 hown hK hP 3 rfl rfl 1 (by decide) hf88 (fun _ h9 => h9) rfl dX1_gateValue_92 ?_
      refine lv_iload hx hb dX1_gateValue_95 (lv_at hl 3 rfl) ?_
      obtain ⟨i11, h⟩ := h
      refine va_iald (D := (dC, dI)) hx hb hK hP 13 0 rfl rfl i11 dX1_gateValue_97 ?_
      refine lv_iload hx hb dX1_gateValue_98 (lv_at hl 4 rfl) ?_
      refine lv_ishr hx hb dX1_gateValue_100 ?_
      refine lv_iconst (v := 1) hx hb dX1_gateValue_101 (by decide) ?_
      refine lv_iand hx hb dX1_gateValue_102 ?_
      exact xr_i (S := S) hx hb hr hlocks hK hP hD hS ⟨rfl, h⟩ (Nat.le_of_ble_eq_true rfl) (Nat.le_of_ble_eq_true rfl) dX1_gateValue_103
    · have h := h.2 c10
      refine lv_iload hx hb dX1_gateValue_62 (lv_at hl 4 rfl) ?_
      refine lv_lload_n hx hb dX1_gateValue_64 rfl (lv_at hl 1 rfl) ?_
      refine lv_aload_n hx hb dX1_gateValue_65 rfl (lv_at hl 0 rfl) ?_
      refine lv_iload_n hx hb dX1_gateValue_66 rfl (lv_at hl 2 rfl) ?_
      refine lv_iload hx hb dX1_gateValue_67 (lv_at hl 5 rfl) ?_
      refine xc_Vi (wf := wC cyI cyJ cyZ a) (wr := []) (isC := [0, 1, 2, 3, 4, 5, 6, 7, 8, 9, 10, 11, 12, 13, 14, 15, 16, 17, 18, 19, 20]) (isR := []) (As := [.int x3, .int x7]) (rest := [.long x1, .int x6]) ⟨hx, hb, hml, hown, hts⟩ (t_X1_pinLiteral h) (cwV 2 hts gX1_gateValue_X1_pinLiteral rfl rfl rfl (by decide +kernel) ⟨Nat.le_of_ble_eq_true rfl, Nat.le_of_ble_eq_true rfl⟩) ⟨hK, hE, hA, hP, hD, hS, rfl, rfl, rfl, rfl, by decide⟩ ⟨4, 1, _, _, rfl, rfl, rfl⟩ rfl rfl hl.1 (Nat.le_of_ble_eq_true rfl) dX1_gateValue_69 ⟨Nat.le_of_ble_eq_true rfl, Nat.le_of_ble_eq_true rfl⟩ (fun r12 S13 H locs h hP hD hS => ?_)
      obtain ⟨rfl, h⟩ := h
      have hP : va_P (dC, dI) vwCl (wC cyI cyJ cyZ a S) H := hP
      have hD : va_D A (wC cyI cyJ cyZ a S) := hD
      refine lv_lushr (v := (lushr x1 r12)) hx hb dX1_gateValue_72 rfl ?_
      refine lv_lconst (v := 1) hx hb dX1_gateValue_73 (by decide) ?_
      refine lv_land hx hb dX1_gateValue_74 ?_
      refine lv_l2i (v := ((lushr x1 r12) &&& (1 : Int64)).toInt32) hx hb dX1_gateValue_75 rfl ?_
      refine lv_iload hx hb dX1_gateValue_76 (lv_at hl 5 rfl) ?_
      refine lv_ishl hx hb dX1_gateValue_78 ?_
      refine lv_ior hx hb dX1_gateValue_79 ?_
      refine lv_topi (fun y14 ey14 => ?_)
      have h := h y14 ey14
      refine lv_istore (lv' := [(6, .int y14), (0, .ref (a 4)), (1, .long x1), (3, .int x3), (5, .int x5), (7, .int x7)]) hx hb dX1_gateValue_80 hl (by decide) rfl (fun ls hl => ?_)
      obtain ⟨y15, ey15⟩ : ∃ z : Int32, z = (x7 + (1 : Int32)) := ⟨_, rfl⟩
      have h := h y15 ey15
      refine lv_iinc (v := y15) (lv' := [(7, .int y15), (6, .int y14), (0, .ref (a 4)), (1, .long x1), (3, .int x3), (5, .int x5)]) hx hb dX1_gateValue_82 hl (k := 5) rfl (by rw [ey15]; rfl) (by decide) rfl (fun ls hl => ?_)
      refine lv_goto (tgt := 47) hx hb dX1_gateValue_85 (by decide) ?_
      exact k47 y14 y15 H locs ls h hP hD hS (lv_sub hl [2, 3, 4, 5, 1, 0] rfl)
def p_X1_gateValue (S : CS) (x1 : Int64) (x3 : Int32) (x4 : Int32) (post : Int32 → Prop) : Prop := p_X2_isPlainInput S x3 (fun r1 => (r1 = 0 → (p_X1_isThere S x3 (fun r4 => (¬ r4 = 0 → (p_X1_cellOf S x3 (fun r7 => p_X1_gateValue_47 S x1 x3 r7 (0 : Int32) (0 : Int32) post))) ∧ (r4 = 0 → (post (0 : Int32)))))) ∧ (¬ r1 = 0 → (p_X2_inputValue S (x3 >>> ((1 : Int32) &&& 31)) x4 (fun r16 => post r16))))
set_option maxHeartbeats 1000000 in
set_option maxRecDepth 100000 in
theorem t_X1_gateValue {l : Launch} {dC : Nat → ClassId} {dI : Nat → Nat → Nat} {cyI cyJ cyZ : ClassId} {r : Nat → Nat} {a : Nat → Nat} {S : CS} {x1 : Int64} {x3 : Int32} {x4 : Int32} {post : Int32 → Prop} (h : p_X1_gateValue S x1 x3 x4 post) : xMi l yX1_gateValue wsX1_gateValue { frames := 2, cells := 0, slots := 0, locals := 42 } (dC, dI) (tyA cyI cyJ cyZ) r (wC cyI cyJ cyZ a) [.ref (a 4), .long x1, .int x3, .int x4] S (fun x u => S = u ∧ post x) 0 0 := by
  intro sz
  refine Met.ofW (cc := cX1_gateValue) (maxL := 8) (ret := (some .int)) (by decide) rfl ?_
  intro p e s m args below meth c s₁ B hml hv
  obtain ⟨rfl, G, hP, hD, hS⟩ := xG.of rfl B hml hv
  generalize hAe : va_A (wC cyI cyJ cyZ a S) sz = A at G hD hS ⊢
  have G : xG p s m _ meth c cX1_gateValue 8 RX1 (some .int) wsX1_gateValue (dC, dI) (tyA cyI cyJ cyZ) r A := G
  obtain ⟨hx, hb, hml, hown, hts, hr, hlocks, hK, hE, hA⟩ := id G
  have hiX1 : ∀ w ∈ wsX10, w ∈ wsX1_gateValue := by decide +kernel
  have hf23 := hts (.fieldLink RX1 23 "CellMapping$Gates" "graph" "LCellMapping$Graph;") (by decide +kernel)
  have hl := lv_entry ([.ref (a 4), .long x1, .int x3, .int x4]) (n := 8) (Nat.le_of_ble_eq_true rfl)
  rw [lg_entry_eq]
  generalize (lg_sl ([.ref (a 4), .long x1, .int x3, .int x4]) ++ List.replicate (8 - (lg_sl ([.ref (a 4), .long x1, .int x3, .int x4])).length) Slot.unset).toArray = ls at hl ⊢
  have hl : lv_has ls 8 [(0, .ref (a 4)), (1, .long x1), (3, .int x3), (4, .int x4)] := hl
  show W p l e { frames := 2, cells := 0, slots := 0, locals := 42 } s m _ below meth c s.heap [] 0 0 _ _
  unfold p_X1_gateValue at h
  refine lv_aload_n hx hb dX1_gateValue_0 rfl (lv_at hl 0 rfl) ?_
  refine va_get (D := (dC, dI)) (ci := 1) (v := .ref (a 1)) (C := RX1) (T := TX1) (N := 6) hx hb hts hiX1 hown hK hP 4 rfl rfl 0 (by decide) hf23 (fun _ h9 => h9) rfl dX1_gateValue_1 ?_
  refine lv_iload_n hx hb dX1_gateValue_4 rfl (lv_at hl 2 rfl) ?_
  refine xc_Vi (wf := wC cyI cyJ cyZ a) (wr := []) (isC := [0, 1, 2, 3, 4, 5, 6, 7, 8, 9, 10, 11, 12, 13, 14, 15, 16, 17, 18, 19, 20]) (isR := []) (As := [.int x3]) (rest := []) ⟨hx, hb, hml, hown, hts⟩ (t_X2_isPlainInput h) (cwV 1 hts gX1_gateValue_X2_isPlainInput rfl rfl rfl (by decide +kernel) ⟨Nat.le_of_ble_eq_true rfl, Nat.le_of_ble_eq_true rfl⟩) ⟨hK, hE, hA, hP, hD, hS, rfl, rfl, rfl, rfl, by decide⟩ ⟨1, 2, _, _, rfl, rfl, rfl⟩ rfl rfl hl.1 (Nat.le_of_ble_eq_true rfl) dX1_gateValue_5 ⟨Nat.le_of_ble_eq_true rfl, Nat.le_of_ble_eq_true rfl⟩ (fun r1 S2 H locs h hP hD hS => ?_)
  obtain ⟨rfl, h⟩ := h
  have hP : va_P (dC, dI) vwCl (wC cyI cyJ cyZ a S) H := hP
  have hD : va_D A (wC cyI cyJ cyZ a S) := hD
  refine lv_if_eq (tgt := 24) hx hb dX1_gateValue_8 (by decide) (fun c3 => ?_) (fun c3 => ?_)
  · have h := h.1 c3
    refine lv_aload_n hx hb dX1_gateValue_24 rfl (lv_at hl 0 rfl) ?_
    refine lv_iload_n hx hb dX1_gateValue_25 rfl (lv_at hl 2 rfl) ?_
    refine xc_Vi (wf := wC cyI cyJ cyZ a) (wr := []) (isC := [0, 1, 2, 3, 4, 5, 6, 7, 8, 9, 10, 11, 12, 13, 14, 15, 16, 17, 18, 19, 20]) (isR := []) (As := [.int x3]) (rest := []) ⟨hx, hb, hml, hown, hts⟩ (t_X1_isThere h) (cwV 1 hts gX1_gateValue_X1_isThere rfl rfl rfl (by decide +kernel) ⟨Nat.le_of_ble_eq_true rfl, Nat.le_of_ble_eq_true rfl⟩) ⟨hK, hE, hA, hP, hD, hS, rfl, rfl, rfl, rfl, by decide⟩ ⟨4, 1, _, _, rfl, rfl, rfl⟩ rfl rfl hl.1 (Nat.le_of_ble_eq_true rfl) dX1_gateValue_26 ⟨Nat.le_of_ble_eq_true rfl, Nat.le_of_ble_eq_true rfl⟩ (fun r4 S5 H locs h hP hD hS => ?_)
    obtain ⟨rfl, h⟩ := h
    have hP : va_P (dC, dI) vwCl (wC cyI cyJ cyZ a S) H := hP
    have hD : va_D A (wC cyI cyJ cyZ a S) := hD
    refine lv_if_ne (tgt := 34) hx hb dX1_gateValue_29 (by decide) (fun c6 => ?_) (fun c6 => ?_)
    · have h := h.1 c6
      refine lv_aload_n hx hb dX1_gateValue_34 rfl (lv_at hl 0 rfl) ?_
      refine lv_iload_n hx hb dX1_gateValue_35 rfl (lv_at hl 2 rfl) ?_
      refine xc_Vi (wf := wC cyI cyJ cyZ a) (wr := []) (isC := [0, 1, 2, 3, 4, 5, 6, 7, 8, 9, 10, 11, 12, 13, 14, 15, 16, 17, 18, 19, 20]) (isR := []) (As := [.int x3]) (rest := []) ⟨hx, hb, hml, hown, hts⟩ (t_X1_cellOf h) (cwV 1 hts gX1_gateValue_X1_cellOf rfl rfl rfl (by decide +kernel) ⟨Nat.le_of_ble_eq_true rfl, Nat.le_of_ble_eq_true rfl⟩) ⟨hK, hE, hA, hP, hD, hS, rfl, rfl, rfl, rfl, by decide⟩ ⟨4, 1, _, _, rfl, rfl, rfl⟩ rfl rfl hl.1 (Nat.le_of_ble_eq_true rfl) dX1_gateValue_36 ⟨Nat.le_of_ble_eq_true rfl, Nat.le_of_ble_eq_true rfl⟩ (fun r7 S8 H locs h hP hD hS => ?_)
      obtain ⟨rfl, h⟩ := h
      have hP : va_P (dC, dI) vwCl (wC cyI cyJ cyZ a S) H := hP
      have hD : va_D A (wC cyI cyJ cyZ a S) := hD
      refine lv_istore (lv' := [(5, .int r7), (0, .ref (a 4)), (1, .long x1), (3, .int x3), (4, .int x4)]) hx hb dX1_gateValue_39 hl (by decide) rfl (fun ls hl => ?_)
      refine lv_iconst (v := 0) hx hb dX1_gateValue_41 (by decide) ?_
      refine lv_istore (lv' := [(6, .int (0 : Int32)), (5, .int r7), (0, .ref (a 4)), (1, .long x1), (3, .int x3), (4, .int x4)]) hx hb dX1_gateValue_42 hl (by decide) rfl (fun ls hl => ?_)
      refine lv_iconst (v := 0) hx hb dX1_gateValue_44 (by decide) ?_
      refine lv_istore (lv' := [(7, .int (0 : Int32)), (6, .int (0 : Int32)), (5, .int r7), (0, .ref (a 4)), (1, .long x1), (3, .int x3), (4, .int x4)]) hx hb dX1_gateValue_45 hl (by decide) rfl (fun ls hl => ?_)
      exact t_X1_gateValue_47 G h hP hD hS (lv_sub hl [3, 4, 5, 2, 1, 0] rfl)
    · have h := h.2 c6
      refine lv_iconst (v := 0) hx hb dX1_gateValue_32 (by decide) ?_
      exact xr_i (S := S) hx hb hr hlocks hK hP hD hS ⟨rfl, h⟩ (Nat.le_of_ble_eq_true rfl) (Nat.le_of_ble_eq_true rfl) dX1_gateValue_33
  · have h := h.2 c3
    refine lv_aload_n hx hb dX1_gateValue_11 rfl (lv_at hl 0 rfl) ?_
    refine va_get (D := (dC, dI)) (ci := 1) (v := .ref (a 1)) (C := RX1) (T := TX1) (N := 6) hx hb hts hiX1 hown hK hP 4 rfl rfl 0 (by decide) hf23 (fun _ h9 => h9) rfl dX1_gateValue_12 ?_
    refine lv_iload_n hx hb dX1_gateValue_15 rfl (lv_at hl 2 rfl) ?_
    refine lv_iconst (v := 1) hx hb dX1_gateValue_16 (by decide) ?_
    refine lv_ishr hx hb dX1_gateValue_17 ?_
    refine lv_iload hx hb dX1_gateValue_18 (lv_at hl 3 rfl) ?_
    refine xc_Vi (wf := wC cyI cyJ cyZ a) (wr := []) (isC := [0, 1, 2, 3, 4, 5, 6, 7, 8, 9, 10, 11, 12, 13, 14, 15, 16, 17, 18, 19, 20]) (isR := []) (As := [.int (x3 >>> ((1 : Int32) &&& 31)), .int x4]) (rest := []) ⟨hx, hb, hml, hown, hts⟩ (t_X2_inputValue h) (cwV 2 hts gX1_gateValue_X2_inputValue rfl rfl rfl (by decide +kernel) ⟨Nat.le_of_ble_eq_true rfl, Nat.le_of_ble_eq_true rfl⟩) ⟨hK, hE, hA, hP, hD, hS, rfl, rfl, rfl, rfl, by decide⟩ ⟨1, 2, _, _, rfl, rfl, rfl⟩ rfl rfl hl.1 (Nat.le_of_ble_eq_true rfl) dX1_gateValue_20 ⟨Nat.le_of_ble_eq_true rfl, Nat.le_of_ble_eq_true rfl⟩ (fun r16 S17 H locs h hP hD hS => ?_)
    obtain ⟨rfl, h⟩ := h
    have hP : va_P (dC, dI) vwCl (wC cyI cyJ cyZ a S) H := hP
    have hD : va_D A (wC cyI cyJ cyZ a S) := hD
    exact xr_i (S := S) hx hb hr hlocks hK hP hD hS ⟨rfl, h⟩ (Nat.le_of_ble_eq_true rfl) (Nat.le_of_ble_eq_true rfl) dX1_gateValue_23
def b_X1_evaluate_5 (S : CS) (x1 : Int32) (x2 : Int32) (post : Int32 → Prop) (g5 : Int64 → Int32 → Prop) (x3 : Int64) (x5 : Int32) : Prop := ((x1 >>> ((1 : Int32) &&& 31)) < x5 → (post (((lushr x3 x1) &&& (1 : Int64)).toInt32))) ∧ (¬ (x1 >>> ((1 : Int32) &&& 31)) < x5 → (p_X1_baseLiteral S x5 (fun r2 => p_X1_gateValue S x3 r2 x2 (fun r4 => ∀ y6 : Int64, y6 = (x3 ||| (lshl (r4.toInt64) r2)) → (p_X1_gateValue S y6 (r2 ^^^ (1 : Int32)) x2 (fun r7 => ∀ y9 : Int64, y9 = (y6 ||| (lshl (r7.toInt64) (r2 ^^^ (1 : Int32)))) → (∀ y10 : Int32, y10 = (x5 + (1 : Int32)) → (g5 y9 y10))))))))
def p_X1_evaluate_5 (S : CS) (x1 : Int32) (x2 : Int32) (x3 : Int64) (x5 : Int32) (post : Int32 → Prop) : Prop := ∃ (I : Int64 → Int32 → Prop) (mu : Int64 → Int32 → Nat), I x3 x5 ∧ ∀ (x3 : Int64) (x5 : Int32), I x3 x5 → b_X1_evaluate_5 S x1 x2 post (fun x3' x5' => I x3' x5' ∧ mu x3' x5' < mu x3 x5) x3 x5
set_option maxHeartbeats 1000000 in
set_option maxRecDepth 100000 in
theorem t_X1_evaluate_5 {p : Program} {l : Launch} {e : Env} {s : State} {m : MethodId} {args : Array Value} {below : List Frame} {meth : Method} {c : Code} {dC : Nat → ClassId} {dI : Nat → Nat → Nat} {cyI cyJ cyZ : ClassId} {r : Nat → Nat} {a : Nat → Nat} {A : Nat → Prop} {S : CS} {x1 : Int32} {x2 : Int32} {x3 : Int64} {x5 : Int32} {post : Int32 → Prop} (G : xG p s m args meth c cX1_evaluate 7 RX1 (some .int) wsX1_evaluate (dC, dI) (tyA cyI cyJ cyZ) r A) (h : p_X1_evaluate_5 S x1 x2 x3 x5 post) {H : Heap} {locs : List Loc} {ls : Array Slot} (hP : va_P (dC, dI) vwCl (wC cyI cyJ cyZ a S) H) (hD : va_D A (wC cyI cyJ cyZ a S)) (hS : va_S A s.heap H locs) (hl : lv_has ls 7 [(0, .ref (a 4)), (1, .int x1), (2, .int x2), (3, .long x3), (5, .int x5)]) : W p l e { frames := 4, cells := 0, slots := 0, locals := 86 } s m args below meth c H locs 0 0 (MQ below (va_Qi (fun x u => S = u ∧ post x) (xAt (dC, dI) (tyA cyI cyJ cyZ) (wC cyI cyJ cyZ a) A) A) args s 0 0 A) (F0 m 5 ls []) := by
  obtain ⟨hx, hb, hml, hown, hts, hr, hlocks, hK, hE, hA⟩ := id G
  obtain ⟨I, mu, h0, hstep⟩ := h
  suffices hgo : ∀ (n : Nat) (x3 : Int64) (x5 : Int32), I x3 x5 → mu x3 x5 < n → ∀ (H : Heap) (locs : List Loc) (ls : Array Slot), va_P (dC, dI) vwCl (wC cyI cyJ cyZ a S) H → va_D A (wC cyI cyJ cyZ a S) → va_S A s.heap H locs → lv_has ls 7 [(0, .ref (a 4)), (1, .int x1), (2, .int x2), (3, .long x3), (5, .int x5)] → W p l e { frames := 4, cells := 0, slots := 0, locals := 86 } s m args below meth c H locs 0 0 (MQ below (va_Qi (fun x u => S = u ∧ post x) (xAt (dC, dI) (tyA cyI cyJ cyZ) (wC cyI cyJ cyZ a) A) A) args s 0 0 A) (F0 m 5 ls []) from hgo (mu x3 x5 + 1) x3 x5 h0 (Nat.lt_succ_self _) H locs ls hP hD hS hl
  clear h0 hP hD hS hl
  intro n
  induction n with
  | zero => intro x3 x5 _ h; exact absurd h (Nat.not_lt_zero _)
  | succ n ih =>
    intro x3 x5 hI hmu H locs ls hP hD hS hl
    have h := hstep x3 x5 hI
    unfold b_X1_evaluate_5 at h
    have k5 : ∀ (x3' : Int64) (x5' : Int32) (H : Heap) (locs : List Loc) (ls : Array Slot), (fun x3' x5' => I x3' x5' ∧ mu x3' x5' < mu x3 x5) x3' x5' → va_P (dC, dI) vwCl (wC cyI cyJ cyZ a S) H → va_D A (wC cyI cyJ cyZ a S) → va_S A s.heap H locs → lv_has ls 7 [(0, .ref (a 4)), (1, .int x1), (2, .int x2), (3, .long x3'), (5, .int x5')] → W p l e { frames := 4, cells := 0, slots := 0, locals := 86 } s m args below meth c H locs 0 0 (MQ below (va_Qi (fun x u => S = u ∧ post x) (xAt (dC, dI) (tyA cyI cyJ cyZ) (wC cyI cyJ cyZ a) A) A) args s 0 0 A) (F0 m 5 ls []) := fun x3' x5' H locs ls hh hP hD hS hl => ih x3' x5' hh.1 (Nat.lt_of_lt_of_le hh.2 (Nat.le_of_lt_succ hmu)) H locs ls hP hD hS hl
    generalize (fun x3' x5' => I x3' x5' ∧ mu x3' x5' < mu x3 x5) = g5 at h k5
    refine lv_iload hx hb dX1_evaluate_5 (lv_at hl 4 rfl) ?_
    refine lv_iload_n hx hb dX1_evaluate_7 rfl (lv_at hl 1 rfl) ?_
    refine lv_iconst (v := 1) hx hb dX1_evaluate_8 (by decide) ?_
    refine lv_ishr hx hb dX1_evaluate_9 ?_
    refine lv_icmp_gt (tgt := 61) hx hb dX1_evaluate_10 (by decide) (fun c1 => ?_) (fun c1 => ?_)
    · have h := h.1 c1
      refine lv_lload_n hx hb dX1_evaluate_61 rfl (lv_at hl 3 rfl) ?_
      refine lv_iload_n hx hb dX1_evaluate_62 rfl (lv_at hl 1 rfl) ?_
      refine lv_lushr (v := (lushr x3 x1)) hx hb dX1_evaluate_63 rfl ?_
      refine lv_lconst (v := 1) hx hb dX1_evaluate_64 (by decide) ?_
      refine lv_land hx hb dX1_evaluate_65 ?_
      refine lv_l2i (v := ((lushr x3 x1) &&& (1 : Int64)).toInt32) hx hb dX1_evaluate_66 rfl ?_
      exact xr_i (S := S) hx hb hr hlocks hK hP hD hS ⟨rfl, h⟩ (Nat.le_of_ble_eq_true rfl) (Nat.le_of_ble_eq_true rfl) dX1_evaluate_67
    · have h := h.2 c1
      refine lv_aload_n hx hb dX1_evaluate_13 rfl (lv_at hl 0 rfl) ?_
      refine lv_iload hx hb dX1_evaluate_14 (lv_at hl 4 rfl) ?_
      refine xc_Vi (wf := wC cyI cyJ cyZ a) (wr := []) (isC := [0, 1, 2, 3, 4, 5, 6, 7, 8, 9, 10, 11, 12, 13, 14, 15, 16, 17, 18, 19, 20]) (isR := []) (As := [.int x5]) (rest := []) ⟨hx, hb, hml, hown, hts⟩ (t_X1_baseLiteral h) (cwV 1 hts gX1_evaluate_X1_baseLiteral rfl rfl rfl (by decide +kernel) ⟨Nat.le_of_ble_eq_true rfl, Nat.le_of_ble_eq_true rfl⟩) ⟨hK, hE, hA, hP, hD, hS, rfl, rfl, rfl, rfl, by decide⟩ ⟨4, 1, _, _, rfl, rfl, rfl⟩ rfl rfl hl.1 (Nat.le_of_ble_eq_true rfl) dX1_evaluate_16 ⟨Nat.le_of_ble_eq_true rfl, Nat.le_of_ble_eq_true rfl⟩ (fun r2 S3 H locs h hP hD hS => ?_)
      obtain ⟨rfl, h⟩ := h
      have hP : va_P (dC, dI) vwCl (wC cyI cyJ cyZ a S) H := hP
      have hD : va_D A (wC cyI cyJ cyZ a S) := hD
      refine lv_istore (lv' := [(6, .int r2), (0, .ref (a 4)), (1, .int x1), (2, .int x2), (3, .long x3), (5, .int x5)]) hx hb dX1_evaluate_19 hl (by decide) rfl (fun ls hl => ?_)
      refine lv_lload_n hx hb dX1_evaluate_21 rfl (lv_at hl 4 rfl) ?_
      refine lv_aload_n hx hb dX1_evaluate_22 rfl (lv_at hl 1 rfl) ?_
      refine lv_lload_n hx hb dX1_evaluate_23 rfl (lv_at hl 4 rfl) ?_
      refine lv_iload hx hb dX1_evaluate_24 (lv_at hl 0 rfl) ?_
      refine lv_iload_n hx hb dX1_evaluate_26 rfl (lv_at hl 3 rfl) ?_
      refine xc_Vi (wf := wC cyI cyJ cyZ a) (wr := []) (isC := [0, 1, 2, 3, 4, 5, 6, 7, 8, 9, 10, 11, 12, 13, 14, 15, 16, 17, 18, 19, 20]) (isR := []) (As := [.long x3, .int r2, .int x2]) (rest := [.long x3]) ⟨hx, hb, hml, hown, hts⟩ (t_X1_gateValue h) (cwV 3 hts gX1_evaluate_X1_gateValue rfl rfl rfl (by decide +kernel) ⟨Nat.le_of_ble_eq_true rfl, Nat.le_of_ble_eq_true rfl⟩) ⟨hK, hE, hA, hP, hD, hS, rfl, rfl, rfl, rfl, by decide⟩ ⟨4, 1, _, _, rfl, rfl, rfl⟩ rfl rfl hl.1 (Nat.le_of_ble_eq_true rfl) dX1_evaluate_27 ⟨Nat.le_of_ble_eq_true rfl, Nat.le_of_ble_eq_true rfl⟩ (fun r4 S5 H locs h hP hD hS => ?_)
      obtain ⟨rfl, h⟩ := h
      have hP : va_P (dC, dI) vwCl (wC cyI cyJ cyZ a S) H := hP
      have hD : va_D A (wC cyI cyJ cyZ a S) := hD
      refine lv_i2l (v := r4.toInt64) hx hb dX1_evaluate_30 rfl ?_
      refine lv_iload hx hb dX1_evaluate_31 (lv_at hl 0 rfl) ?_
      refine lv_lshl (v := (lshl (r4.toInt64) r2)) hx hb dX1_evaluate_33 rfl ?_
      refine lv_lor hx hb dX1_evaluate_34 ?_
      refine lv_topl (fun y6 ey6 => ?_)
      have h := h y6 ey6
      refine lv_lstore_n (lv' := [(3, .long y6), (6, .int r2), (0, .ref (a 4)), (1, .int x1), (2, .int x2), (5, .int x5)]) hx hb dX1_evaluate_35 rfl hl (by decide) rfl (fun ls hl => ?_)
      refine lv_lload_n hx hb dX1_evaluate_36 rfl (lv_at hl 0 rfl) ?_
      refine lv_aload_n hx hb dX1_evaluate_37 rfl (lv_at hl 2 rfl) ?_
      refine lv_lload_n hx hb dX1_evaluate_38 rfl (lv_at hl 0 rfl) ?_
      refine lv_iload hx hb dX1_evaluate_39 (lv_at hl 1 rfl) ?_
      refine lv_iconst (v := 1) hx hb dX1_evaluate_41 (by decide) ?_
      refine lv_ixor hx hb dX1_evaluate_42 ?_
      refine lv_iload_n hx hb dX1_evaluate_43 rfl (lv_at hl 4 rfl) ?_
      refine xc_Vi (wf := wC cyI cyJ cyZ a) (wr := []) (isC := [0, 1, 2, 3, 4, 5, 6, 7, 8, 9, 10, 11, 12, 13, 14, 15, 16, 17, 18, 19, 20]) (isR := []) (As := [.long y6, .int (r2 ^^^ (1 : Int32)), .int x2]) (rest := [.long y6]) ⟨hx, hb, hml, hown, hts⟩ (t_X1_gateValue h) (cwV 3 hts gX1_evaluate_X1_gateValue rfl rfl rfl (by decide +kernel) ⟨Nat.le_of_ble_eq_true rfl, Nat.le_of_ble_eq_true rfl⟩) ⟨hK, hE, hA, hP, hD, hS, rfl, rfl, rfl, rfl, by decide⟩ ⟨4, 1, _, _, rfl, rfl, rfl⟩ rfl rfl hl.1 (Nat.le_of_ble_eq_true rfl) dX1_evaluate_44 ⟨Nat.le_of_ble_eq_true rfl, Nat.le_of_ble_eq_true rfl⟩ (fun r7 S8 H locs h hP hD hS => ?_)
      obtain ⟨rfl, h⟩ := h
      have hP : va_P (dC, dI) vwCl (wC cyI cyJ cyZ a S) H := hP
      have hD : va_D A (wC cyI cyJ cyZ a S) := hD
      refine lv_i2l (v := r7.toInt64) hx hb dX1_evaluate_47 rfl ?_
      refine lv_iload hx hb dX1_evaluate_48 (lv_at hl 1 rfl) ?_
      refine lv_iconst (v := 1) hx hb dX1_evaluate_50 (by decide) ?_
      refine lv_ixor hx hb dX1_evaluate_51 ?_
      refine lv_lshl (v := (lshl (r7.toInt64) (r2 ^^^ (1 : Int32)))) hx hb dX1_evaluate_52 rfl ?_
      refine lv_lor hx hb dX1_evaluate_53 ?_
      refine lv_topl (fun y9 ey9 => ?_)
      have h := h y9 ey9
      refine lv_lstore_n (lv' := [(3, .long y9), (6, .int r2), (0, .ref (a 4)), (1, .int x1), (2, .int x2), (5, .int x5)]) hx hb dX1_evaluate_54 rfl hl (by decide) rfl (fun ls hl => ?_)
      obtain ⟨y10, ey10⟩ : ∃ z : Int32, z = (x5 + (1 : Int32)) := ⟨_, rfl⟩
      have h := h y10 ey10
      refine lv_iinc (v := y10) (lv' := [(5, .int y10), (3, .long y9), (6, .int r2), (0, .ref (a 4)), (1, .int x1), (2, .int x2)]) hx hb dX1_evaluate_55 hl (k := 5) rfl (by rw [ey10]; rfl) (by decide) rfl (fun ls hl => ?_)
      refine lv_goto (tgt := 5) hx hb dX1_evaluate_58 (by decide) ?_
      exact k5 y9 y10 H locs ls h hP hD hS (lv_sub hl [3, 4, 5, 1, 0] rfl)
def p_X1_evaluate (S : CS) (x1 : Int32) (x2 : Int32) (post : Int32 → Prop) : Prop := p_X1_evaluate_5 S x1 x2 (0 : Int64) (0 : Int32) post
set_option maxHeartbeats 1000000 in
set_option maxRecDepth 100000 in
theorem t_X1_evaluate {l : Launch} {dC : Nat → ClassId} {dI : Nat → Nat → Nat} {cyI cyJ cyZ : ClassId} {r : Nat → Nat} {a : Nat → Nat} {S : CS} {x1 : Int32} {x2 : Int32} {post : Int32 → Prop} (h : p_X1_evaluate S x1 x2 post) : xMi l yX1_evaluate wsX1_evaluate { frames := 4, cells := 0, slots := 0, locals := 86 } (dC, dI) (tyA cyI cyJ cyZ) r (wC cyI cyJ cyZ a) [.ref (a 4), .int x1, .int x2] S (fun x u => S = u ∧ post x) 0 0 := by
  intro sz
  refine Met.ofW (cc := cX1_evaluate) (maxL := 7) (ret := (some .int)) (by decide) rfl ?_
  intro p e s m args below meth c s₁ B hml hv
  obtain ⟨rfl, G, hP, hD, hS⟩ := xG.of rfl B hml hv
  generalize hAe : va_A (wC cyI cyJ cyZ a S) sz = A at G hD hS ⊢
  have G : xG p s m _ meth c cX1_evaluate 7 RX1 (some .int) wsX1_evaluate (dC, dI) (tyA cyI cyJ cyZ) r A := G
  obtain ⟨hx, hb, hml, hown, hts, hr, hlocks, hK, hE, hA⟩ := id G
  have hl := lv_entry ([.ref (a 4), .int x1, .int x2]) (n := 7) (Nat.le_of_ble_eq_true rfl)
  rw [lg_entry_eq]
  generalize (lg_sl ([.ref (a 4), .int x1, .int x2]) ++ List.replicate (7 - (lg_sl ([.ref (a 4), .int x1, .int x2])).length) Slot.unset).toArray = ls at hl ⊢
  have hl : lv_has ls 7 [(0, .ref (a 4)), (1, .int x1), (2, .int x2)] := hl
  show W p l e { frames := 4, cells := 0, slots := 0, locals := 86 } s m _ below meth c s.heap [] 0 0 _ _
  unfold p_X1_evaluate at h
  refine lv_lconst (v := 0) hx hb dX1_evaluate_0 (by decide) ?_
  refine lv_lstore_n (lv' := [(3, .long (0 : Int64)), (0, .ref (a 4)), (1, .int x1), (2, .int x2)]) hx hb dX1_evaluate_1 rfl hl (by decide) rfl (fun ls hl => ?_)
  refine lv_iconst (v := 0) hx hb dX1_evaluate_2 (by decide) ?_
  refine lv_istore (lv' := [(5, .int (0 : Int32)), (3, .long (0 : Int64)), (0, .ref (a 4)), (1, .int x1), (2, .int x2)]) hx hb dX1_evaluate_3 hl (by decide) rfl (fun ls hl => ?_)
  exact t_X1_evaluate_5 G h hP hD hS (lv_sub hl [2, 3, 4, 1, 0] rfl)
