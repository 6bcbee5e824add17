def p_X5_requireIndex (S : CS) (x0 : Int32) (x1 : Int32) (post : Prop) (px : String → Prop) : Prop := (x0 < 0 → (px "java/lang/IndexOutOfBoundsException")) ∧ (¬ x0 < 0 → ((x0 < x1 → (post)) ∧ (¬ x0 < x1 → (px "java/lang/IndexOutOfBoundsException"))))
set_option maxHeartbeats 1000000 in
set_option maxRecDepth 100000 in
theorem t_X5_requireIndex {l : Launch} {dC : Nat → ClassId} {dI : Nat → Nat → Nat} {cyI cyJ cyZ : ClassId} {r : Nat → Nat} {a : Nat → Nat} {S : CS} {x0 : Int32} {x1 : Int32} {post : Prop} {px : String → Prop} (hl0 : l.stackTraces = false) (h : p_X5_requireIndex S x0 x1 post px) : xXv l yX5_requireIndex wsX5_requireIndex { frames := 6, cells := 1, slots := 6, locals := 81 } (dC, dI) (tyA cyI cyJ cyZ) r (wC cyI cyJ cyZ a) [.int x0, .int x1] S (fun u => S = u ∧ post) (fun E u => S = u ∧ px E) 1 6 := by
  intro sz
  refine vx_ofW (cc := cX5_requireIndex) (maxL := 2) (ret := none) (by decide) rfl ?_
  intro p e s m args below meth c s₁ B hml ht hv
  obtain ⟨rfl, G, hP, hD, hS⟩ := xG.of rfl B hml hv
  generalize hAe : va_A (wC cyI cyJ cyZ a S) sz = A at G hD hS ⊢
  have G : xG p s m _ meth c cX5_requireIndex 2 RX5 none wsX5_requireIndex (dC, dI) (tyA cyI cyJ cyZ) r A := G
  obtain ⟨hx, hb, hml, hown, hts, hr, hlocks, hK, hE, hA⟩ := id G
  have hl := lv_entry ([.int x0, .int x1]) (n := 2) (Nat.le_of_ble_eq_true rfl)
  rw [lg_entry_eq]
  generalize (lg_sl ([.int x0, .int x1]) ++ List.replicate (2 - (lg_sl ([.int x0, .int x1])).length) Slot.unset).toArray = ls at hl ⊢
  have hl : lv_has ls 2 [(0, .int x0), (1, .int x1)] := hl
  show W p l e { frames := 6, cells := 1, slots := 6, locals := 81 } s m _ below meth c s.heap [] 0 0 _ _
  unfold p_X5_requireIndex at h
  refine lv_iload_n hx hb dX5_requireIndex_0 rfl (lv_at hl 0 rfl) ?_
  refine lv_if_lt (tgt := 9) hx hb dX5_requireIndex_1 (by decide) (fun c1 => ?_) (fun c1 => ?_)
  · have h := h.1 c1
    exact xx_throw (S := S) (names := ["java/lang/RuntimeException", "java/lang/Exception"]) hx hb hl0 hown (by decide +kernel) (by decide +kernel) hts (by decide +kernel) (by decide +kernel) (by decide +kernel) (by decide +kernel) (by decide +kernel) hE.2.2.2.2.2.1 hE hK hP hD hS (hl.1.trans hml.symm) dX5_requireIndex_9 dX5_requireIndex_12 dX5_requireIndex_13 dX5_requireIndex_16 ht (Nat.le_of_ble_eq_true rfl) (Nat.le_of_ble_eq_true rfl) (Nat.le_of_ble_eq_true rfl) (Nat.le_of_ble_eq_true rfl) hlocks ⟨rfl, h⟩ (Nat.le_of_ble_eq_true rfl) (Nat.le_of_ble_eq_true rfl)
  · have h := h.2 c1
    refine lv_iload_n hx hb dX5_requireIndex_4 rfl (lv_at hl 0 rfl) ?_
    refine lv_iload_n hx hb dX5_requireIndex_5 rfl (lv_at hl 1 rfl) ?_
    refine lv_icmp_lt (tgt := 17) hx hb dX5_requireIndex_6 (by decide) (fun c2 => ?_) (fun c2 => ?_)
    · have h := h.1 c2
      exact vx_ret (xr_v (S := S) hx hb hr hlocks hK hP hD hS ⟨rfl, h⟩ (Nat.le_of_ble_eq_true rfl) (Nat.le_of_ble_eq_true rfl) dX5_requireIndex_17)
    · have h := h.2 c2
      exact xx_throw (S := S) (names := ["java/lang/RuntimeException", "java/lang/Exception"]) hx hb hl0 hown (by decide +kernel) (by decide +kernel) hts (by decide +kernel) (by decide +kernel) (by decide +kernel) (by decide +kernel) (by decide +kernel) hE.2.2.2.2.2.1 hE hK hP hD hS (hl.1.trans hml.symm) dX5_requireIndex_9 dX5_requireIndex_12 dX5_requireIndex_13 dX5_requireIndex_16 ht (Nat.le_of_ble_eq_true rfl) (Nat.le_of_ble_eq_true rfl) (Nat.le_of_ble_eq_true rfl) (Nat.le_of_ble_eq_true rfl) hlocks ⟨rfl, h⟩ (Nat.le_of_ble_eq_true rfl) (Nat.le_of_ble_eq_true rfl)
def p_X5_requireRange (S : CS) (x0 : Int32) (x1 : Int32) (x2 : Int32) (post : Prop) (px : String → Prop) : Prop := (x0 < x1 → (px "java/lang/IllegalArgumentException")) ∧ (¬ x0 < x1 → ((x0 ≤ x2 → (post)) ∧ (¬ x0 ≤ x2 → (px "java/lang/IllegalArgumentException"))))
set_option maxHeartbeats 1000000 in
set_option maxRecDepth 100000 in
theorem t_X5_requireRange {l : Launch} {dC : Nat → ClassId} {dI : Nat → Nat → Nat} {cyI cyJ cyZ : ClassId} {r : Nat → Nat} {a : Nat → Nat} {S : CS} {x0 : Int32} {x1 : Int32} {x2 : Int32} {post : Prop} {px : String → Prop} (hl0 : l.stackTraces = false) (h : p_X5_requireRange S x0 x1 x2 post px) : xXv l yX5_requireRange wsX5_requireRange { frames := 6, cells := 1, slots := 6, locals := 81 } (dC, dI) (tyA cyI cyJ cyZ) r (wC cyI cyJ cyZ a) [.int x0, .int x1, .int x2] S (fun u => S = u ∧ post) (fun E u => S = u ∧ px E) 1 6 := by
  intro sz
  refine vx_ofW (cc := cX5_requireRange) (maxL := 3) (ret := none) (by decide) rfl ?_
  intro p e s m args below meth c s₁ B hml ht hv
  obtain ⟨rfl, G, hP, hD, hS⟩ := xG.of rfl B hml hv
  generalize hAe : va_A (wC cyI cyJ cyZ a S) sz = A at G hD hS ⊢
  have G : xG p s m _ meth c cX5_requireRange 3 RX5 none wsX5_requireRange (dC, dI) (tyA cyI cyJ cyZ) r A := G
  obtain ⟨hx, hb, hml, hown, hts, hr, hlocks, hK, hE, hA⟩ := id G
  have hl := lv_entry ([.int x0, .int x1, .int x2]) (n := 3) (Nat.le_of_ble_eq_true rfl)
  rw [lg_entry_eq]
  generalize (lg_sl ([.int x0, .int x1, .int x2]) ++ List.replicate (3 - (lg_sl ([.int x0, .int x1, .int x2])).length) Slot.unset).toArray = ls at hl ⊢
  have hl : lv_has ls 3 [(0, .int x0), (1, .int x1), (2, .int x2)] := hl
  show W p l e { frames := 6, cells := 1, slots := 6, locals := 81 } s m _ below meth c s.heap [] 0 0 _ _
  unfold p_X5_requireRange at h
  refine lv_iload_n hx hb dX5_requireRange_0 rfl (lv_at hl 0 rfl) ?_
  refine lv_iload_n hx hb dX5_requireRange_1 rfl (lv_at hl 1 rfl) ?_
  refine lv_icmp_lt (tgt := 10) hx hb dX5_requireRange_2 (by decide) (fun c1 => ?_) (fun c1 => ?_)
  · have h := h.1 c1
    exact xx_throw (S := S) (names := ["java/lang/RuntimeException", "java/lang/Exception"]) hx hb hl0 hown (by decide +kernel) (by decide +kernel) hts (by decide +kernel) (by decide +kernel) (by decide +kernel) (by decide +kernel) (by decide +kernel) hE.2.2.2.2.2.2.2.1 hE hK hP hD hS (hl.1.trans hml.symm) dX5_requireRange_10 dX5_requireRange_13 dX5_requireRange_14 dX5_requireRange_17 ht (Nat.le_of_ble_eq_true rfl) (Nat.le_of_ble_eq_true rfl) (Nat.le_of_ble_eq_true rfl) (Nat.le_of_ble_eq_true rfl) hlocks ⟨rfl, h⟩ (Nat.le_of_ble_eq_true rfl) (Nat.le_of_ble_eq_true rfl)
  · have h := h.2 c1
    refine lv_iload_n hx hb dX5_requireRange_5 rfl (lv_at hl 0 rfl) ?_
    refine lv_iload_n hx hb dX5_requireRange_6 rfl (lv_at hl 2 rfl) ?_
    refine lv_icmp_le (tgt := 18) hx hb dX5_requireRange_7 (by decide) (fun c2 => ?_) (fun c2 => ?_)
    · have h := h.1 c2
      exact vx_ret (xr_v (S := S) hx hb hr hlocks hK hP hD hS ⟨rfl, h⟩ (Nat.le_of_ble_eq_true rfl) (Nat.le_of_ble_eq_true rfl) dX5_requireRange_18)
    · have h := h.2 c2
      exact xx_throw (S := S) (names := ["java/lang/RuntimeException", "java/lang/Exception"]) hx hb hl0 hown (by decide +kernel) (by decide +kernel) hts (by decide +kernel) (by decide +kernel) (by decide +kernel) (by decide +kernel) (by decide +kernel) hE.2.2.2.2.2.2.2.1 hE hK hP hD hS (hl.1.trans hml.symm) dX5_requireRange_10 dX5_requireRange_13 dX5_requireRange_14 dX5_requireRange_17 ht (Nat.le_of_ble_eq_true rfl) (Nat.le_of_ble_eq_true rfl) (Nat.le_of_ble_eq_true rfl) (Nat.le_of_ble_eq_true rfl) hlocks ⟨rfl, h⟩ (Nat.le_of_ble_eq_true rfl) (Nat.le_of_ble_eq_true rfl)
def p_X5_requireLiteral (S : CS) (x1 : Int32) (post : Prop) (px : String → Prop) : Prop := p_X5_requireIndex S x1 ((2 : Int32) * (cNC S)) (post) (fun E => px E)
set_option maxHeartbeats 1000000 in
set_option maxRecDepth 100000 in
theorem t_X5_requireLiteral {l : Launch} {dC : Nat → ClassId} {dI : Nat → Nat → Nat} {cyI cyJ cyZ : ClassId} {r : Nat → Nat} {a : Nat → Nat} {S : CS} {x1 : Int32} {post : Prop} {px : String → Prop} (hl0 : l.stackTraces = false) (h : p_X5_requireLiteral S x1 post px) : xXv l yX5_requireLiteral wsX5_requireLiteral { frames := 7, cells := 1, slots := 6, locals := 102 } (dC, dI) (tyA cyI cyJ cyZ) r (wC cyI cyJ cyZ a) [.ref (a 0), .int x1] S (fun u => S = u ∧ post) (fun E u => S = u ∧ px E) 1 6 := by
  intro sz
  refine vx_ofW (cc := cX5_requireLiteral) (maxL := 2) (ret := none) (by decide) rfl ?_
  intro p e s m args below meth c s₁ B hml ht hv
  obtain ⟨rfl, G, hP, hD, hS⟩ := xG.of rfl B hml hv
  generalize hAe : va_A (wC cyI cyJ cyZ a S) sz = A at G hD hS ⊢
  have G : xG p s m _ meth c cX5_requireLiteral 2 RX5 none wsX5_requireLiteral (dC, dI) (tyA cyI cyJ cyZ) r A := G
  obtain ⟨hx, hb, hml, hown, hts, hr, hlocks, hK, hE, hA⟩ := id G
  have hiX5 : ∀ w ∈ wsX50, w ∈ wsX5_requireLiteral := by decide +kernel
  have hf10 := hts (.fieldLink RX5 10 "CellMapping" "graph" "LCellMapping$Graph;") (by decide +kernel)
  have hiX2 : ∀ w ∈ wsX20, w ∈ wsX5_requireLiteral := by decide +kernel
  have hf66 := hts (.fieldLink RX5 66 "CellMapping$Graph" "nodeCount" "I") (by decide +kernel)
  have hl := lv_entry ([.ref (a 0), .int x1]) (n := 2) (Nat.le_of_ble_eq_true rfl)
  rw [lg_entry_eq]
  generalize (lg_sl ([.ref (a 0), .int x1]) ++ List.replicate (2 - (lg_sl ([.ref (a 0), .int x1])).length) Slot.unset).toArray = ls at hl ⊢
  have hl : lv_has ls 2 [(0, .ref (a 0)), (1, .int x1)] := hl
  show W p l e { frames := 7, cells := 1, slots := 6, locals := 102 } s m _ below meth c s.heap [] 0 0 _ _
  unfold p_X5_requireLiteral at h
  refine lv_iload_n hx hb dX5_requireLiteral_0 rfl (lv_at hl 1 rfl) ?_
  refine lv_iconst (v := 2) hx hb dX5_requireLiteral_1 (by decide) ?_
  refine lv_aload_n hx hb dX5_requireLiteral_2 rfl (lv_at hl 0 rfl) ?_
  refine va_get (D := (dC, dI)) (ci := 4) (v := .ref (a 1)) (C := RX5) (T := TX5) (N := 6) hx hb hts hiX5 hown hK hP 0 rfl rfl 0 (by decide) hf10 (fun _ h9 => h9) rfl dX5_requireLiteral_3 ?_
  refine va_get (D := (dC, dI)) (ci := 2) (v := .int (cNC S)) (C := RX2) (T := TX2) (N := 6) hx hb hts hiX2 hown hK hP 1 rfl rfl 4 (by decide) hf66 (fun _ h9 => h9) rfl dX5_requireLiteral_6 ?_
  refine lv_imul hx hb dX5_requireLiteral_9 ?_
  refine xt_Sv (wf := wC cyI cyJ cyZ a) (wr := []) (isC := [0, 1, 2, 3, 4, 5, 6, 7, 8, 9, 10, 11, 12, 13, 14, 15, 16, 17, 18, 19, 20]) (isR := []) (As := [.int x1, .int ((2 : Int32) * (cNC S))]) (rest := []) ⟨hx, hb, hml, hown, hts⟩ (t_X5_requireIndex hl0 h) (va_cwS 2 hts gX5_requireLiteral_X5_requireIndex rfl rfl rfl (by decide +kernel) ⟨Nat.le_of_ble_eq_true rfl, Nat.le_of_ble_eq_true rfl⟩) ⟨hK, hE, hA, hP, hD, hS, rfl, rfl, rfl, rfl, by decide⟩ rfl rfl hl.1 (Nat.le_of_ble_eq_true rfl) dX5_requireLiteral_10 ⟨Nat.le_of_ble_eq_true rfl, Nat.le_of_ble_eq_true rfl⟩ (fun E ce q S1 H locs h hP hD hS hce hcv hcl => ?_) (fun  S1 H locs h hP hD hS => ?_)
  · obtain ⟨rfl, h⟩ := h
    have hP : va_P (dC, dI) vwCl (wC cyI cyJ cyZ a S) H := hP
    have hD : va_D A (wC cyI cyJ cyZ a S) := hD
    exact xx_pass (S := S) ht hlocks hK hP hD hS ⟨rfl, h⟩ hce hcv hcl (Nat.le_of_ble_eq_true rfl) (Nat.le_of_ble_eq_true rfl)
  obtain ⟨rfl, h⟩ := h
  have hP : va_P (dC, dI) vwCl (wC cyI cyJ cyZ a S) H := hP
  have hD : va_D A (wC cyI cyJ cyZ a S) := hD
  exact vx_ret (xr_v (S := S) hx hb hr hlocks hK hP hD hS ⟨rfl, h⟩ (Nat.le_of_ble_eq_true rfl) (Nat.le_of_ble_eq_true rfl) dX5_requireLiteral_13)
def p_X5_requireCutIndex (S : CS) (x1 : Int32) (x2 : Int32) (post : Prop) (px : String → Prop) : Prop := p_X5_requireIndex S x1 (cNC S) ((0 ≤ x2 → (post)) ∧ (¬ 0 ≤ x2 → (px "java/lang/IndexOutOfBoundsException"))) (fun E => px E)
set_option maxHeartbeats 1000000 in
set_option maxRecDepth 100000 in
theorem t_X5_requireCutIndex {l : Launch} {dC : Nat → ClassId} {dI : Nat → Nat → Nat} {cyI cyJ cyZ : ClassId} {r : Nat → Nat} {a : Nat → Nat} {S : CS} {x1 : Int32} {x2 : Int32} {post : Prop} {px : String → Prop} (hl0 : l.stackTraces = false) (h : p_X5_requireCutIndex S x1 x2 post px) : xXv l yX5_requireCutIndex wsX5_requireCutIndex { frames := 7, cells := 2, slots := 12, locals := 102 } (dC, dI) (tyA cyI cyJ cyZ) r (wC cyI cyJ cyZ a) [.ref (a 0), .int x1, .int x2] S (fun u => S = u ∧ post) (fun E u => S = u ∧ px E) 2 12 := by
  intro sz
  refine vx_ofW (cc := cX5_requireCutIndex) (maxL := 3) (ret := none) (by decide) rfl ?_
  intro p e s m args below meth c s₁ B hml ht hv
  obtain ⟨rfl, G, hP, hD, hS⟩ := xG.of rfl B hml hv
  generalize hAe : va_A (wC cyI cyJ cyZ a S) sz = A at G hD hS ⊢
  have G : xG p s m _ meth c cX5_requireCutIndex 3 RX5 none wsX5_requireCutIndex (dC, dI) (tyA cyI cyJ cyZ) r A := G
  obtain ⟨hx, hb, hml, hown, hts, hr, hlocks, hK, hE, hA⟩ := id G
  have hiX5 : ∀ w ∈ wsX50, w ∈ wsX5_requireCutIndex := by decide +kernel
  have hf10 := hts (.fieldLink RX5 10 "CellMapping" "graph" "LCellMapping$Graph;") (by decide +kernel)
  have hiX2 : ∀ w ∈ wsX20, w ∈ wsX5_requireCutIndex := by decide +kernel
  have hf66 := hts (.fieldLink RX5 66 "CellMapping$Graph" "nodeCount" "I") (by decide +kernel)
  have hl := lv_entry ([.ref (a 0), .int x1, .int x2]) (n := 3) (Nat.le_of_ble_eq_true rfl)
  rw [lg_entry_eq]
  generalize (lg_sl ([.ref (a 0), .int x1, .int x2]) ++ List.replicate (3 - (lg_sl ([.ref (a 0), .int x1, .int x2])).length) Slot.unset).toArray = ls at hl ⊢
  have hl : lv_has ls 3 [(0, .ref (a 0)), (1, .int x1), (2, .int x2)] := hl
  show W p l e { frames := 7, cells := 2, slots := 12, locals := 102 } s m _ below meth c s.heap [] 0 0 _ _
  unfold p_X5_requireCutIndex at h
  refine lv_iload_n hx hb dX5_requireCutIndex_0 rfl (lv_at hl 1 rfl) ?_
  refine lv_aload_n hx hb dX5_requireCutIndex_1 rfl (lv_at hl 0 rfl) ?_
  refine va_get (D := (dC, dI)) (ci := 4) (v := .ref (a 1)) (C := RX5) (T := TX5) (N := 6) hx hb hts hiX5 hown hK hP 0 rfl rfl 0 (by decide) hf10 (fun _ h9 => h9) rfl dX5_requireCutIndex_2 ?_
  refine va_get (D := (dC, dI)) (ci := 2) (v := .int (cNC S)) (C := RX2) (T := TX2) (N := 6) hx hb hts hiX2 hown hK hP 1 rfl rfl 4 (by decide) hf66 (fun _ h9 => h9) rfl dX5_requireCutIndex_5 ?_
  refine xt_Sv (wf := wC cyI cyJ cyZ a) (wr := []) (isC := [0, 1, 2, 3, 4, 5, 6, 7, 8, 9, 10, 11, 12, 13, 14, 15, 16, 17, 18, 19, 20]) (isR := []) (As := [.int x1, .int (cNC S)]) (rest := []) ⟨hx, hb, hml, hown, hts⟩ (t_X5_requireIndex hl0 h) (va_cwS 2 hts gX5_requireCutIndex_X5_requireIndex rfl rfl rfl (by decide +kernel) ⟨Nat.le_of_ble_eq_true rfl, Nat.le_of_ble_eq_true rfl⟩) ⟨hK, hE, hA, hP, hD, hS, rfl, rfl, rfl, rfl, by decide⟩ rfl rfl hl.1 (Nat.le_of_ble_eq_true rfl) dX5_requireCutIndex_8 ⟨Nat.le_of_ble_eq_true rfl, Nat.le_of_ble_eq_true rfl⟩ (fun E ce q S1 H locs h hP hD hS hce hcv hcl => ?_) (fun  S1 H locs h hP hD hS => ?_)
  · obtain ⟨rfl, h⟩ := h
    have hP : va_P (dC, dI) vwCl (wC cyI cyJ cyZ a S) H := hP
    have hD : va_D A (wC cyI cyJ cyZ a S) := hD
    exact xx_pass (S := S) ht hlocks hK hP hD hS ⟨rfl, h⟩ hce hcv hcl (Nat.le_of_ble_eq_true rfl) (Nat.le_of_ble_eq_true rfl)
  obtain ⟨rfl, h⟩ := h
  have hP : va_P (dC, dI) vwCl (wC cyI cyJ cyZ a S) H := hP
  have hD : va_D A (wC cyI cyJ cyZ a S) := hD
  refine lv_iload_n hx hb dX5_requireCutIndex_11 rfl (lv_at hl 2 rfl) ?_
  refine lv_if_ge (tgt := 23) hx hb dX5_requireCutIndex_12 (by decide) (fun c2 => ?_) (fun c2 => ?_)
  · have h := h.1 c2
    exact vx_ret (xr_v (S := S) hx hb hr hlocks hK hP hD hS ⟨rfl, h⟩ (Nat.le_of_ble_eq_true rfl) (Nat.le_of_ble_eq_true rfl) dX5_requireCutIndex_23)
  · have h := h.2 c2
    exact xx_throw (S := S) (names := ["java/lang/RuntimeException", "java/lang/Exception"]) hx hb hl0 hown (by decide +kernel) (by decide +kernel) hts (by decide +kernel) (by decide +kernel) (by decide +kernel) (by decide +kernel) (by decide +kernel) hE.2.2.2.2.2.1 hE hK hP hD hS (hl.1.trans hml.symm) dX5_requireCutIndex_15 dX5_requireCutIndex_18 dX5_requireCutIndex_19 dX5_requireCutIndex_22 ht (Nat.le_of_ble_eq_true rfl) (Nat.le_of_ble_eq_true rfl) (Nat.le_of_ble_eq_true rfl) (Nat.le_of_ble_eq_true rfl) hlocks ⟨rfl, h⟩ (Nat.le_of_ble_eq_true rfl) (Nat.le_of_ble_eq_true rfl)
def b_X5_firstOutputNotArriving_2 (S : CS) (post : Int32 → Prop) (g2 : Int32 → Prop) (x1 : Int32) : Prop := ((cOC S) ≤ x1 → (post (-1 : Int32))) ∧ (¬ (cOC S) ≤ x1 → (vp_in x1 6 ∧ (p_X1_isThere S ((cOL S) x1.toNatClampNeg) (fun r3 => (¬ r3 = 0 → (∀ y6 : Int32, y6 = (x1 + (1 : Int32)) → (g2 y6))) ∧ (r3 = 0 → (post x1))))))
def p_X5_firstOutputNotArriving_2 (S : CS) (x1 : Int32) (post : Int32 → Prop) : Prop := ∃ (I : Int32 → Prop) (mu : Int32 → Nat), I x1 ∧ ∀ (x1 : Int32), I x1 → b_X5_firstOutputNotArriving_2 S post (fun x1' => I x1' ∧ mu x1' < mu x1) x1
set_option maxHeartbeats 1000000 in
set_option maxRecDepth 100000 in
theorem t_X5_firstOutputNotArriving_2 {p : Program} {l : Launch} {e : Env} {s : State} {m : MethodId} {args : Array Value} {below : List Frame} {meth : Method} {c : Code} {dC : Nat → ClassId} {dI : Nat → Nat → Nat} {cyI cyJ cyZ : ClassId} {r : Nat → Nat} {a : Nat → Nat} {A : Nat → Prop} {S : CS} {x1 : Int32} {post : Int32 → Prop} (G : xG p s m args meth c cX5_firstOutputNotArriving 2 RX5 (some .int) wsX5_firstOutputNotArriving (dC, dI) (tyA cyI cyJ cyZ) r A) (h : p_X5_firstOutputNotArriving_2 S x1 post) {H : Heap} {locs : List Loc} {ls : Array Slot} (hP : va_P (dC, dI) vwCl (wC cyI cyJ cyZ a S) H) (hD : va_D A (wC cyI cyJ cyZ a S)) (hS : va_S A s.heap H locs) (hl : lv_has ls 2 [(0, .ref (a 0)), (1, .int x1)]) : W p l e { frames := 1, cells := 0, slots := 0, locals := 21 } s m args below meth c H locs 0 0 (MQ below (va_Qi (fun x u => S = u ∧ post x) (xAt (dC, dI) (tyA cyI cyJ cyZ) (wC cyI cyJ cyZ a) A) A) args s 0 0 A) (F0 m 2 ls []) := by
  obtain ⟨hx, hb, hml, hown, hts, hr, hlocks, hK, hE, hA⟩ := id G
  have hiX5 : ∀ w ∈ wsX50, w ∈ wsX5_firstOutputNotArriving := by decide +kernel
  have hf45 := hts (.fieldLink RX5 45 "CellMapping" "outputCount" "I") (by decide +kernel)
  have hf37 := hts (.fieldLink RX5 37 "CellMapping" "gates" "LCellMapping$Gates;") (by decide +kernel)
  have hf41 := hts (.fieldLink RX5 41 "CellMapping" "outputLiterals" "[I") (by decide +kernel)
  obtain ⟨I, mu, h0, hstep⟩ := h
  suffices hgo : ∀ (n : Nat) (x1 : Int32), I x1 → mu x1 < n → ∀ (H : Heap) (locs : List Loc) (ls : Array Slot), va_P (dC, dI) vwCl (wC cyI cyJ cyZ a S) H → va_D A (wC cyI cyJ cyZ a S) → va_S A s.heap H locs → lv_has ls 2 [(0, .ref (a 0)), (1, .int x1)] → W p l e { frames := 1, cells := 0, slots := 0, locals := 21 } s m args below meth c H locs 0 0 (MQ below (va_Qi (fun x u => S = u ∧ post x) (xAt (dC, dI) (tyA cyI cyJ cyZ) (wC cyI cyJ cyZ a) A) A) args s 0 0 A) (F0 m 2 ls []) from hgo (mu x1 + 1) x1 h0 (Nat.lt_succ_self _) H locs ls hP hD hS hl
  clear h0 hP hD hS hl
  intro n
  induction n with
  | zero => intro x1 _ h; exact absurd h (Nat.not_lt_zero _)
  | succ n ih =>
    intro x1 hI hmu H locs ls hP hD hS hl
    have h := hstep x1 hI
    unfold b_X5_firstOutputNotArriving_2 at h
    have k2 : ∀ (x1' : Int32) (H : Heap) (locs : List Loc) (ls : Array Slot), (fun x1' => I x1' ∧ mu x1' < mu x1) x1' → va_P (dC, dI) vwCl (wC cyI cyJ cyZ a S) H → va_D A (wC cyI cyJ cyZ a S) → va_S A s.heap H locs → lv_has ls 2 [(0, .ref (a 0)), (1, .int x1')] → W p l e { frames := 1, cells := 0, slots := 0, locals := 21 } s m args below meth c H locs 0 0 (MQ below (va_Qi (fun x u => S = u ∧ post x) (xAt (dC, dI) (tyA cyI cyJ cyZ) (wC cyI cyJ cyZ a) A) A) args s 0 0 A) (F0 m 2 ls []) := fun x1' H locs ls hh hP hD hS hl => ih x1' hh.1 (Nat.lt_of_lt_of_le hh.2 (Nat.le_of_lt_succ hmu)) H locs ls hP hD hS hl
    generalize (fun x1' => I x1' ∧ mu x1' < mu x1) = g2 at h k2
    refine lv_iload_n hx hb dX5_firstOutputNotArriving_2 rfl (lv_at hl 1 rfl) ?_
    refine lv_aload_n hx hb dX5_firstOutputNotArriving_3 rfl (lv_at hl 0 rfl) ?_
    refine va_get (D := (dC, dI)) (ci := 4) (v := .int (cOC S)) (C := RX5) (T := TX5) (N := 6) hx hb hts hiX5 hown hK hP 0 rfl rfl 5 (by decide) hf45 (fun _ h9 => h9) rfl dX5_firstOutputNotArriving_4 ?_
    refine lv_icmp_ge (tgt := 34) hx hb dX5_firstOutputNotArriving_7 (by decide) (fun c1 => ?_) (fun c1 => ?_)
    · have h := h.1 c1
      refine lv_iconst (v := -1) hx hb dX5_firstOutputNotArriving_34 (by decide) ?_
      exact xr_i (S := S) hx hb hr hlocks hK hP hD hS ⟨rfl, h⟩ (Nat.le_of_ble_eq_true rfl) (Nat.le_of_ble_eq_true rfl) dX5_firstOutputNotArriving_35
    · have h := h.2 c1
      refine lv_aload_n hx hb dX5_firstOutputNotArriving_10 rfl (lv_at hl 0 rfl) ?_
      refine va_get (D := (dC, dI)) (ci := 4) (v := .ref (a 4)) (C := RX5) (T := TX5) (N := 6) hx hb hts hiX5 hown hK hP 0 rfl rfl 3 (by decide) hf37 (fun _ h9 => h9) rfl dX5_firstOutputNotArriving_11 ?_
      refine lv_aload_n hx hb dX5_firstOutputNotArriving_14 rfl (lv_at hl 0 rfl) ?_
      refine va_get (D := (dC, dI)) (ci := 4) (v := .ref (a 5)) (C := RX5) (T := TX5) (N := 6) hx hb hts hiX5 hown hK hP 0 rfl rfl 4 (by decide) hf41 (fun _ h9 => h9) rfl dX5_firstOutputNotArriving_15 ?_
      refine lv_iload_n hx hb dX5_firstOutputNotArriving_18 rfl (lv_at hl 1 rfl) ?_
      obtain ⟨i2, h⟩ := h
      refine va_iald (D := (dC, dI)) hx hb hK hP 5 0 rfl rfl i2 dX5_firstOutputNotArriving_19 ?_
      refine xc_Vi (wf := wC cyI cyJ cyZ a) (wr := []) (isC := [0, 1, 2, 3, 4, 5, 6, 7, 8, 9, 10, 11, 12, 13, 14, 15, 16, 17, 18, 19, 20]) (isR := []) (As := [.int ((cOL S) x1.toNatClampNeg)]) (rest := []) ⟨hx, hb, hml, hown, hts⟩ (t_X1_isThere h) (cwV 1 hts gX5_firstOutputNotArriving_X1_isThere rfl rfl rfl (by decide +kernel) ⟨Nat.le_of_ble_eq_true rfl, Nat.le_of_ble_eq_true rfl⟩) ⟨hK, hE, hA, hP, hD, hS, rfl, rfl, rfl, rfl, by decide⟩ ⟨4, 1, _, _, rfl, rfl, rfl⟩ rfl rfl hl.1 (Nat.le_of_ble_eq_true rfl) dX5_firstOutputNotArriving_20 ⟨Nat.le_of_ble_eq_true rfl, Nat.le_of_ble_eq_true rfl⟩ (fun r3 S4 H locs h hP hD hS => ?_)
      obtain ⟨rfl, h⟩ := h
      have hP : va_P (dC, dI) vwCl (wC cyI cyJ cyZ a S) H := hP
      have hD : va_D A (wC cyI cyJ cyZ a S) := hD
      refine lv_if_ne (tgt := 28) hx hb dX5_firstOutputNotArriving_23 (by decide) (fun c5 => ?_) (fun c5 => ?_)
      · have h := h.1 c5
        obtain ⟨y6, ey6⟩ : ∃ z : Int32, z = (x1 + (1 : Int32)) := ⟨_, rfl⟩
        have h := h y6 ey6
        refine lv_iinc (v := y6) (lv' := [(1, .int y6), (0, .ref (a 0))]) hx hb dX5_firstOutputNotArriving_28 hl (k := 1) rfl (by rw [ey6]; rfl) (by decide) rfl (fun ls hl => ?_)
        refine lv_goto (tgt := 2) hx hb dX5_firstOutputNotArriving_31 (by decide) ?_
        exact k2 y6 H locs ls h hP hD hS (lv_sub hl [1, 0] rfl)
      · have h := h.2 c5
        refine lv_iload_n hx hb dX5_firstOutputNotArriving_26 rfl (lv_at hl 1 rfl) ?_
        exact xr_i (S := S) hx hb hr hlocks hK hP hD hS ⟨rfl, h⟩ (Nat.le_of_ble_eq_true rfl) (Nat.le_of_ble_eq_true rfl) dX5_firstOutputNotArriving_27
def p_X5_firstOutputNotArriving (S : CS) (post : Int32 → Prop) : Prop := p_X5_firstOutputNotArriving_2 S (0 : Int32) post
set_option maxHeartbeats 1000000 in
set_option maxRecDepth 100000 in
theorem t_X5_firstOutputNotArriving {l : Launch} {dC : Nat → ClassId} {dI : Nat → Nat → Nat} {cyI cyJ cyZ : ClassId} {r : Nat → Nat} {a : Nat → Nat} {S : CS} {post : Int32 → Prop} (h : p_X5_firstOutputNotArriving S post) : xMi l yX5_firstOutputNotArriving wsX5_firstOutputNotArriving { frames := 1, cells := 0, slots := 0, locals := 21 } (dC, dI) (tyA cyI cyJ cyZ) r (wC cyI cyJ cyZ a) [.ref (a 0)] S (fun x u => S = u ∧ post x) 0 0 := by
  intro sz
  refine Met.ofW (cc := cX5_firstOutputNotArriving) (maxL := 2) (ret := (some .int)) (by decide) rfl ?_
  intro p e s m args below meth c s₁ B hml hv
  obtain ⟨rfl, G, hP, hD, hS⟩ := xG.of rfl B hml hv
  generalize hAe : va_A (wC cyI cyJ cyZ a S) sz = A at G hD hS ⊢
  have G : xG p s m _ meth c cX5_firstOutputNotArriving 2 RX5 (some .int) wsX5_firstOutputNotArriving (dC, dI) (tyA cyI cyJ cyZ) r A := G
  obtain ⟨hx, hb, hml, hown, hts, hr, hlocks, hK, hE, hA⟩ := id G
  have hl := lv_entry ([.ref (a 0)]) (n := 2) (Nat.le_of_ble_eq_true rfl)
  rw [lg_entry_eq]
  generalize (lg_sl ([.ref (a 0)]) ++ List.replicate (2 - (lg_sl ([.ref (a 0)])).length) Slot.unset).toArray = ls at hl ⊢
  have hl : lv_has ls 2 [(0, .ref (a 0))] := hl
  show W p l e { frames := 1, cells := 0, slots := 0, locals := 21 } s m _ below meth c s.heap [] 0 0 _ _
  unfold p_X5_firstOutputNotArriving at h
  refine lv_iconst (v := 0) hx hb dX5_firstOutputNotArriving_0 (by decide) ?_
  refine lv_istore_n (lv' := [(1, .int (0 : Int32)), (0, .ref (a 0))]) hx hb dX5_firstOutputNotArriving_1 rfl hl (by decide) rfl (fun ls hl => ?_)
  exact t_X5_firstOutputNotArriving_2 G h hP hD hS (lv_sub hl [1, 0] rfl)
def b_X5_wantedLiterals_14 (S : CS) (post : Int64 → Prop) (g14 : Int64 → Int32 → Prop) (x1 : Int64) (x3 : Int32) : Prop := ((cOC S) ≤ x3 → (p_X1_wantedFor S x1 (fun r5 => post r5))) ∧ (¬ (cOC S) ≤ x3 → (vp_in x3 6 ∧ (∀ y8 : Int64, y8 = (x1 ||| (lshl (1 : Int64) ((cOL S) x3.toNatClampNeg))) → (∀ y9 : Int32, y9 = (x3 + (1 : Int32)) → (g14 y8 y9)))))
def p_X5_wantedLiterals_14 (S : CS) (x1 : Int64) (x3 : Int32) (post : Int64 → Prop) : Prop := ∃ (I : Int64 → Int32 → Prop) (mu : Int64 → Int32 → Nat), I x1 x3 ∧ ∀ (x1 : Int64) (x3 : Int32), I x1 x3 → b_X5_wantedLiterals_14 S post (fun x1' x3' => I x1' x3' ∧ mu x1' x3' < mu x1 x3) x1 x3
set_option maxHeartbeats 1000000 in
set_option maxRecDepth 100000 in
theorem t_X5_wantedLiterals_14 {p : Program} {l : Launch} {e : Env} {s : State} {m : MethodId} {args : Array Value} {below : List Frame} {meth : Method} {c : Code} {dC : Nat → ClassId} {dI : Nat → Nat → Nat} {cyI cyJ cyZ : ClassId} {r : Nat → Nat} {a : Nat → Nat} {A : Nat → Prop} {S : CS} {x1 : Int64} {x3 : Int32} {post : Int64 → Prop} (G : xG p s m args meth c cX5_wantedLiterals 4 RX5 (some .long) wsX5_wantedLiterals (dC, dI) (tyA cyI cyJ cyZ) r A) (h : p_X5_wantedLiterals_14 S x1 x3 post) {H : Heap} {locs : List Loc} {ls : Array Slot} (hP : va_P (dC, dI) vwCl (wC cyI cyJ cyZ a S) H) (hD : va_D A (wC cyI cyJ cyZ a S)) (hS : va_S A s.heap H locs) (hl : lv_has ls 4 [(0, .ref (a 0)), (1, .long x1), (3, .int x3)]) : W p l e { frames := 5, cells := 0, slots := 0, locals := 115 } s m args below meth c H locs 0 0 (MQ below (va_Ql (fun x u => S = u ∧ post x) (xAt (dC, dI) (tyA cyI cyJ cyZ) (wC cyI cyJ cyZ a) A) A) args s 0 0 A) (F0 m 14 ls []) := by
  obtain ⟨hx, hb, hml, hown, hts, hr, hlocks, hK, hE, hA⟩ := id G
  have hiX5 : ∀ w ∈ wsX50, w ∈ wsX5_wantedLiterals := by decide +kernel
  have hf45 := hts (.fieldLink RX5 45 "CellMapping" "outputCount" "I") (by decide +kernel)
  have hf37 := hts (.fieldLink RX5 37 "CellMapping" "gates" "LCellMapping$Gates;") (by decide +kernel)
  have hf41 := hts (.fieldLink RX5 41 "CellMapping" "outputLiterals" "[I") (by decide +kernel)
  obtain ⟨I, mu, h0, hstep⟩ := h
  suffices hgo : ∀ (n : Nat) (x1 : Int64) (x3 : Int32), I x1 x3 → mu x1 x3 < n → ∀ (H : Heap) (locs : List Loc) (ls : Array Slot), va_P (dC, dI) vwCl (wC cyI cyJ cyZ a S) H → va_D A (wC cyI cyJ cyZ a S) → va_S A s.heap H locs → lv_has ls 4 [(0, .ref (a 0)), (1, .long x1), (3, .int x3)] → W p l e { frames := 5, cells := 0, slots := 0, locals := 115 } s m args below meth c H locs 0 0 (MQ below (va_Ql (fun x u => S = u ∧ post x) (xAt (dC, dI) (tyA cyI cyJ cyZ) (wC cyI cyJ cyZ a) A) A) args s 0 0 A) (F0 m 14 ls []) from hgo (mu x1 x3 + 1) x1 x3 h0 (Nat.lt_succ_self _) H locs ls hP hD hS hl
  clear h0 hP hD hS hl
  intro n
  induction n with
  | zero => intro x1 x3 _ h; exact absurd h (Nat.not_lt_zero _)
  | succ n ih =>
    intro x1 x3 hI hmu H locs ls hP hD hS hl
    have h := hstep x1 x3 hI
    unfold b_X5_wantedLiterals_14 at h
    have k14 : ∀ (x1' : Int64) (x3' : Int32) (H : Heap) (locs : List Loc) (ls : Array Slot), (fun x1' x3' => I x1' x3' ∧ mu x1' x3' < mu x1 x3) x1' x3' → va_P (dC, dI) vwCl (wC cyI cyJ cyZ a S) H → va_D A (wC cyI cyJ cyZ a S) → va_S A s.heap H locs → lv_has ls 4 [(0, .ref (a 0)), (1, .long x1'), (3, .int x3')] → W p l e { frames := 5, cells := 0, slots := 0, locals := 115 } s m args below meth c H locs 0 0 (MQ below (va_Ql (fun x u => S = u ∧ post x) (xAt (dC, dI) (tyA cyI cyJ cyZ) (wC cyI cyJ cyZ a) A) A) args s 0 0 A) (F0 m 14 ls []) := fun x1' x3' H locs ls hh hP hD hS hl => ih x1' x3' hh.1 (Nat.lt_of_lt_of_le hh.2 (Nat.le_of_lt_succ hmu)) H locs ls hP hD hS hl
    generalize (fun x1' x3' => I x1' x3' ∧ mu x1' x3' < mu x1 x3) = g14 at h k14
    refine lv_iload_n hx hb dX5_wantedLiterals_14 rfl (lv_at hl 2 rfl) ?_
    refine lv_aload_n hx hb dX5_wantedLiterals_15 rfl (lv_at hl 0 rfl) ?_
    refine va_get (D := (dC, dI)) (ci := 4) (v := .int (cOC S)) (C := RX5) (T := TX5) (N := 6) hx hb hts hiX5 hown hK hP 0 rfl rfl 5 (by decide) hf45 (fun _ h9 => h9) rfl dX5_wantedLiterals_16 ?_
    refine lv_icmp_ge (tgt := 39) hx hb dX5_wantedLiterals_19 (by decide) (fun c4 => ?_) (fun c4 => ?_)
    · have h := h.1 c4
      refine lv_aload_n hx hb dX5_wantedLiterals_39 rfl (lv_at hl 0 rfl) ?_
      refine va_get (D := (dC, dI)) (ci := 4) (v := .ref (a 4)) (C := RX5) (T := TX5) (N := 6) hx hb hts hiX5 hown hK hP 0 rfl rfl 3 (by decide) hf37 (fun _ h9 => h9) rfl dX5_wantedLiterals_40 ?_
      refine lv_lload_n hx hb dX5_wantedLiterals_43 rfl (lv_at hl 1 rfl) ?_
      refine xc_Vl (wf := wC cyI cyJ cyZ a) (wr := []) (isC := [0, 1, 2, 3, 4, 5, 6, 7, 8, 9, 10, 11, 12, 13, 14, 15, 16, 17, 18, 19, 20]) (isR := []) (As := [.long x1]) (rest := []) ⟨hx, hb, hml, hown, hts⟩ (t_X1_wantedFor h) (cwV 1 hts gX5_wantedLiterals_X1_wantedFor rfl rfl rfl (by decide +kernel) ⟨Nat.le_of_ble_eq_true rfl, Nat.le_of_ble_eq_true rfl⟩) ⟨hK, hE, hA, hP, hD, hS, rfl, rfl, rfl, rfl, by decide⟩ ⟨4, 1, _, _, rfl, rfl, rfl⟩ rfl rfl hl.1 (Nat.le_of_ble_eq_true rfl) dX5_wantedLiterals_44 ⟨Nat.le_of_ble_eq_true rfl, Nat.le_of_ble_eq_true rfl⟩ (fun r5 S6 H locs h hP hD hS => ?_)
      obtain ⟨rfl, h⟩ := h
      have hP : va_P (dC, dI) vwCl (wC cyI cyJ cyZ a S) H := hP
      have hD : va_D A (wC cyI cyJ cyZ a S) := hD
      exact xr_l (S := S) hx hb hr hlocks hK hP hD hS ⟨rfl, h⟩ (Nat.le_of_ble_eq_true rfl) (Nat.le_of_ble_eq_true rfl) dX5_wantedLiterals_47
    · have h := h.2 c4
      refine lv_lload_n hx hb dX5_wantedLiterals_22 rfl (lv_at hl 1 rfl) ?_
      refine lv_lconst (v := 1) hx hb dX5_wantedLiterals_23 (by decide) ?_
      refine lv_aload_n hx hb dX5_wantedLiterals_24 rfl (lv_at hl 0 rfl) ?_
      refine va_get (D := (dC, dI)) (ci := 4) (v := .ref (a 5)) (C := RX5) (T := TX5) (N := 6) hx hb hts hiX5 hown hK hP 0 rfl rfl 4 (by decide) hf41 (fun _ h9 => h9) rfl dX5_wantedLiterals_25 ?_
      refine lv_iload_n hx hb dX5_wantedLiterals_28 rfl (lv_at hl 2 rfl) ?_
      obtain ⟨i7, h⟩ := h
      refine va_iald (D := (dC, dI)) hx hb hK hP 5 0 rfl rfl i7 dX5_wantedLiterals_29 ?_
      refine lv_lshl (v := (lshl (1 : Int64) ((cOL S) x3.toNatClampNeg))) hx hb dX5_wantedLiterals_30 rfl ?_
      refine lv_lor hx hb dX5_wantedLiterals_31 ?_
      refine lv_topl (fun y8 ey8 => ?_)
      have h := h y8 ey8
      refine lv_lstore_n (lv' := [(1, .long y8), (0, .ref (a 0)), (3, .int x3)]) hx hb dX5_wantedLiterals_32 rfl hl (by decide) rfl (fun ls hl => ?_)
      obtain ⟨y9, ey9⟩ : ∃ z : Int32, z = (x3 + (1 : Int32)) := ⟨_, rfl⟩
      have h := h y9 ey9
      refine lv_iinc (v := y9) (lv' := [(3, .int y9), (1, .long y8), (0, .ref (a 0))]) hx hb dX5_wantedLiterals_33 hl (k := 2) rfl (by rw [ey9]; rfl) (by decide) rfl (fun ls hl => ?_)
      refine lv_goto (tgt := 14) hx hb dX5_wantedLiterals_36 (by decide) ?_
      exact k14 y8 y9 H locs ls h hP hD hS (lv_sub hl [2, 1, 0] rfl)
def p_X5_wantedLiterals (S : CS) (post : Int64 → Prop) : Prop := p_X5_firstOutputNotArriving S (fun r1 => (r1 = (-1 : Int32) → (p_X5_wantedLiterals_14 S (0 : Int64) (0 : Int32) post)) ∧ (¬ r1 = (-1 : Int32) → (post (0 : Int64))))
set_option maxHeartbeats 1000000 in
set_option maxRecDepth 100000 in
theorem t_X5_wantedLiterals {l : Launch} {dC : Nat → ClassId} {dI : Nat → Nat → Nat} {cyI cyJ cyZ : ClassId} {r : Nat → Nat} {a : Nat → Nat} {S : CS} {post : Int64 → Prop} (h : p_X5_wantedLiterals S post) : xMl l yX5_wantedLiterals wsX5_wantedLiterals { frames := 5, cells := 0, slots := 0, locals := 115 } (dC, dI) (tyA cyI cyJ cyZ) r (wC cyI cyJ cyZ a) [.ref (a 0)] S (fun x u => S = u ∧ post x) 0 0 := by
  intro sz
  refine Met.ofW (cc := cX5_wantedLiterals) (maxL := 4) (ret := (some .long)) (by decide) rfl ?_
  intro p e s m args below meth c s₁ B hml hv
  obtain ⟨rfl, G, hP, hD, hS⟩ := xG.of rfl B hml hv
  generalize hAe : va_A (wC cyI cyJ cyZ a S) sz = A at G hD hS ⊢
  have G : xG p s m _ meth c cX5_wantedLiterals 4 RX5 (some .long) wsX5_wantedLiterals (dC, dI) (tyA cyI cyJ cyZ) r A := G
  obtain ⟨hx, hb, hml, hown, hts, hr, hlocks, hK, hE, hA⟩ := id G
  have hl := lv_entry ([.ref (a 0)]) (n := 4) (Nat.le_of_ble_eq_true rfl)
  rw [lg_entry_eq]
  generalize (lg_sl ([.ref (a 0)]) ++ List.replicate (4 - (lg_sl ([.ref (a 0)])).length) Slot.unset).toArray = ls at hl ⊢
  have hl : lv_has ls 4 [(0, .ref (a 0))] := hl
  show W p l e { frames := 5, cells := 0, slots := 0, locals := 115 } s m _ below meth c s.heap [] 0 0 _ _
  unfold p_X5_wantedLiterals at h
  refine lv_aload_n hx hb dX5_wantedLiterals_0 rfl (lv_at hl 0 rfl) ?_
  refine xc_Vi (wf := wC cyI cyJ cyZ a) (wr := []) (isC := [0, 1, 2, 3, 4, 5, 6, 7, 8, 9, 10, 11, 12, 13, 14, 15, 16, 17, 18, 19, 20]) (isR := []) (As := []) (rest := []) ⟨hx, hb, hml, hown, hts⟩ (t_X5_firstOutputNotArriving h) (cwV 0 hts gX5_wantedLiterals_X5_firstOutputNotArriving rfl rfl rfl (by decide +kernel) ⟨Nat.le_of_ble_eq_true rfl, Nat.le_of_ble_eq_true rfl⟩) ⟨hK, hE, hA, hP, hD, hS, rfl, rfl, rfl, rfl, by decide⟩ ⟨0, 4, _, _, rfl, rfl, rfl⟩ rfl rfl hl.1 (Nat.le_of_ble_eq_true rfl) dX5_wantedLiterals_1 ⟨Nat.le_of_ble_eq_true rfl, Nat.le_of_ble_eq_true rfl⟩ (fun r1 S2 H locs h hP hD hS => ?_)
  obtain ⟨rfl, h⟩ := h
  have hP : va_P (dC, dI) vwCl (wC cyI cyJ cyZ a S) H := hP
  have hD : va_D A (wC cyI cyJ cyZ a S) := hD
  refine lv_iconst (v := -1) hx hb dX5_wantedLiterals_4 (by decide) ?_
  refine lv_icmp_eq (tgt := 10) hx hb dX5_wantedLiterals_5 (by decide) (fun c3 => ?_) (fun c3 => ?_)
  · have h := h.1 c3
    refine lv_lconst (v := 0) hx hb dX5_wantedLiterals_10 (by decide) ?_
    refine lv_lstore_n (lv' := [(1, .long (0 : Int64)), (0, .ref (a 0))]) hx hb dX5_wantedLiterals_11 rfl hl (by decide) rfl (fun ls hl => ?_)
    refine lv_iconst (v := 0) hx hb dX5_wantedLiterals_12 (by decide) ?_
    refine lv_istore_n (lv' := [(3, .int (0 : Int32)), (1, .long (0 : Int64)), (0, .ref (a 0))]) hx hb dX5_wantedLiterals_13 rfl hl (by decide) rfl (fun ls hl => ?_)
    exact t_X5_wantedLiterals_14 G h hP hD hS (lv_sub hl [2, 1, 0] rfl)
  · have h := h.2 c3
    refine lv_lconst (v := 0) hx hb dX5_wantedLiterals_8 (by decide) ?_
    exact xr_l (S := S) hx hb hr hlocks hK hP hD hS ⟨rfl, h⟩ (Nat.le_of_ble_eq_true rfl) (Nat.le_of_ble_eq_true rfl) dX5_wantedLiterals_9
def p_X5_input (S : CS) (kc : Nat) (ks : Nat) (post : Int32 → CS → Prop) (px : String → CS → Prop) : Prop := (1 ≤ kc ∧ 6 ≤ ks) ∧ (((cIC S) < (8 : Int32) → (p_X2_addInput S (fun r2 S3 => ∃ c5 k6 : Nat, (0 + c5 ≤ kc ∧ 0 + k6 ≤ ks) ∧ (p_X0_addNode S3 r2 c5 k6 (fun S4 => post ((2 : Int32) * r2) S4))))) ∧ (¬ (cIC S) < (8 : Int32) → (px "java/lang/IllegalStateException" S)))
set_option maxHeartbeats 1000000 in
set_option maxRecDepth 100000 in
theorem t_X5_input {l : Launch} {dC : Nat → ClassId} {dI : Nat → Nat → Nat} {cyI cyJ cyZ : ClassId} {r : Nat → Nat} {a : Nat → Nat} {S : CS} {kc : Nat} {ks : Nat} {post : Int32 → CS → Prop} {px : String → CS → Prop} (hl0 : l.stackTraces = false) (h : p_X5_input S kc ks post px) : xXi l yX5_input wsX5_input { frames := 6, cells := kc, slots := ks, locals := 154 } (dC, dI) (tyA cyI cyJ cyZ) r (wC cyI cyJ cyZ a) [.ref (a 0)] S post px kc ks := by
  intro sz
  refine vx_ofW (cc := cX5_input) (maxL := 2) (ret := (some .int)) (by decide) rfl ?_
  intro p e s m args below meth c s₁ B hml ht hv
  obtain ⟨rfl, G, hP, hD, hS⟩ := xG.of rfl B hml hv
  generalize hAe : va_A (wC cyI cyJ cyZ a S) sz = A at G hD hS ⊢
  have G : xG p s m _ meth c cX5_input 2 RX5 (some .int) wsX5_input (dC, dI) (tyA cyI cyJ cyZ) r A := G
  obtain ⟨hx, hb, hml, hown, hts, hr, hlocks, hK, hE, hA⟩ := id G
  have hiX5 : ∀ w ∈ wsX50, w ∈ wsX5_input := by decide +kernel
  have hf10 := hts (.fieldLink RX5 10 "CellMapping" "graph" "LCellMapping$Graph;") (by decide +kernel)
  have hiX2 : ∀ w ∈ wsX20, w ∈ wsX5_input := by decide +kernel
  have hf49 := hts (.fieldLink RX5 49 "CellMapping$Graph" "inputCount" "I") (by decide +kernel)
  have hf21 := hts (.fieldLink RX5 21 "CellMapping" "cutTable" "LCellMapping$CutTable;") (by decide +kernel)
  have hl := lv_entry ([.ref (a 0)]) (n := 2) (Nat.le_of_ble_eq_true rfl)
  rw [lg_entry_eq]
  generalize (lg_sl ([.ref (a 0)]) ++ List.replicate (2 - (lg_sl ([.ref (a 0)])).length) Slot.unset).toArray = ls at hl ⊢
  have hl : lv_has ls 2 [(0, .ref (a 0))] := hl
  show W p l e { frames := 6, cells := kc, slots := ks, locals := 154 } s m _ below meth c s.heap [] 0 0 _ _
  unfold p_X5_input at h
  obtain ⟨hk0, h⟩ := h
  have hu : 0 ≤ kc ∧ 0 ≤ ks := ⟨Nat.zero_le _, Nat.zero_le _⟩
  refine lv_aload_n hx hb dX5_input_0 rfl (lv_at hl 0 rfl) ?_
  refine va_get (D := (dC, dI)) (ci := 4) (v := .ref (a 1)) (C := RX5) (T := TX5) (N := 6) hx hb hts hiX5 hown hK hP 0 rfl rfl 0 (by decide) hf10 (fun _ h9 => h9) rfl dX5_input_1 ?_
  refine va_get (D := (dC, dI)) (ci := 2) (v := .int (cIC S)) (C := RX2) (T := TX2) (N := 6) hx hb hts hiX2 hown hK hP 1 rfl rfl 5 (by decide) hf49 (fun _ h9 => h9) rfl dX5_input_4 ?_
  refine lv_bipush (v := 8) hx hb dX5_input_7 (by decide) ?_
  refine lv_icmp_lt (tgt := 20) hx hb dX5_input_9 (by decide) (fun c1 => ?_) (fun c1 => ?_)
  · have h := h.1 c1
    refine lv_aload_n hx hb dX5_input_20 rfl (lv_at hl 0 rfl) ?_
    refine va_get (D := (dC, dI)) (ci := 4) (v := .ref (a 1)) (C := RX5) (T := TX5) (N := 6) hx hb hts hiX5 hown hK hP 0 rfl rfl 0 (by decide) hf10 (fun _ h9 => h9) rfl dX5_input_21 ?_
    refine xc_Vi (wf := wC cyI cyJ cyZ a) (wr := []) (isC := [0, 1, 2, 3, 4, 5, 6, 7, 8, 9, 10, 11, 12, 13, 14, 15, 16, 17, 18, 19, 20]) (isR := []) (As := []) (rest := []) ⟨hx, hb, hml, hown, hts⟩ (t_X2_addInput h) (cwV 0 hts gX5_input_X2_addInput rfl rfl rfl (by decide +kernel) ⟨Nat.le_of_ble_eq_true rfl, Nat.le_of_ble_eq_true rfl⟩) ⟨hK, hE, hA, hP, hD, hS, rfl, rfl, rfl, rfl, by decide⟩ ⟨1, 2, _, _, rfl, rfl, rfl⟩ rfl rfl hl.1 (Nat.le_of_ble_eq_true rfl) dX5_input_24 ⟨hu.1, hu.2⟩ (fun r2 S3 H locs h hP hD hS => ?_)
    have hP : va_P (dC, dI) vwCl (wC cyI cyJ cyZ a S3) H := hP
    have hD : va_D A (wC cyI cyJ cyZ a S3) := hD
    refine W.cs (cells' := 0) (slots' := 0) rfl rfl ?_
    refine lv_istore_n (lv' := [(1, .int r2), (0, .ref (a 0))]) hx hb dX5_input_27 rfl hl (by decide) rfl (fun ls hl => ?_)
    refine lv_aload_n hx hb dX5_input_28 rfl (lv_at hl 1 rfl) ?_
    refine va_get (D := (dC, dI)) (ci := 4) (v := .ref (a 2)) (C := RX5) (T := TX5) (N := 6) hx hb hts hiX5 hown hK hP 0 rfl rfl 1 (by decide) hf21 (fun _ h9 => h9) rfl dX5_input_29 ?_
    refine lv_iload_n hx hb dX5_input_32 rfl (lv_at hl 0 rfl) ?_
    obtain ⟨c5, k6, hu, h⟩ := h
    refine xc_Vv (wf := wC cyI cyJ cyZ a) (wr := []) (isC := [0, 1, 2, 3, 4, 5, 6, 7, 8, 9, 10, 11, 12, 13, 14, 15, 16, 17, 18, 19, 20]) (isR := []) (As := [.int r2]) (rest := []) ⟨hx, hb, hml, hown, hts⟩ (t_X0_addNode h) (cwV 1 hts gX5_input_X0_addNode rfl rfl rfl (by decide +kernel) ⟨Nat.le_of_ble_eq_true rfl, Nat.le_of_ble_eq_true rfl⟩) ⟨hK, hE, hA, hP, hD, hS, rfl, rfl, rfl, rfl, by decide⟩ ⟨2, 0, _, _, rfl, rfl, rfl⟩ rfl rfl hl.1 (Nat.le_of_ble_eq_true rfl) dX5_input_33 ⟨hu.1, hu.2⟩ (fun  S4 H locs h hP hD hS => ?_)
    have hP : va_P (dC, dI) vwCl (wC cyI cyJ cyZ a S4) H := hP
    have hD : va_D A (wC cyI cyJ cyZ a S4) := hD
    refine W.cs (cells' := (0 + c5)) (slots' := (0 + k6)) rfl rfl ?_
    refine lv_iconst (v := 2) hx hb dX5_input_36 (by decide) ?_
    refine lv_iload_n hx hb dX5_input_37 rfl (lv_at hl 0 rfl) ?_
    refine lv_imul hx hb dX5_input_38 ?_
    exact vx_ret (xr_i (S := S4) hx hb hr hlocks hK hP hD hS h hu.1 hu.2 dX5_input_39)
  · have h := h.2 c1
    exact xx_throw (S := S) (names := ["java/lang/RuntimeException", "java/lang/Exception"]) hx hb hl0 hown (by decide +kernel) (by decide +kernel) hts (by decide +kernel) (by decide +kernel) (by decide +kernel) (by decide +kernel) (by decide +kernel) hE.2.2.2.2.2.2.1 hE hK hP hD hS (hl.1.trans hml.symm) dX5_input_12 dX5_input_15 dX5_input_16 dX5_input_19 ht (Nat.le_of_ble_eq_true rfl) (Nat.le_of_ble_eq_true rfl) (by show _ ≤ kc; have := hk0.1; omega) (by show _ ≤ ks; have := hk0.2; omega) hlocks h (by show _ ≤ kc; have := hk0.1; omega) (by show _ ≤ ks; have := hk0.2; omega)
def p_X5_and (S : CS) (x1 : Int32) (x2 : Int32) (kc : Nat) (ks : Nat) (post : Int32 → CS → Prop) (px : String → CS → Prop) : Prop := (3 ≤ kc ∧ 18 ≤ ks) ∧ (p_X5_requireLiteral S x1 (p_X5_requireLiteral S x2 ((((cNC S) - (cIC S)) < (24 : Int32) → (p_X2_addAnd S x1 x2 (fun r4 S5 => ∃ c7 k8 : Nat, (((0 + 1) + 1) + c7 ≤ kc ∧ ((0 + 6) + 6) + k8 ≤ ks) ∧ (p_X0_addNode S5 r4 c7 k8 (fun S6 => post ((2 : Int32) * r4) S6))))) ∧ (¬ ((cNC S) - (cIC S)) < (24 : Int32) → (px "java/lang/IllegalStateException" S))) (fun E => px E S)) (fun E => px E S))
set_option maxHeartbeats 1000000 in
set_option maxRecDepth 100000 in
theorem t_X5_and {l : Launch} {dC : Nat → ClassId} {dI : Nat → Nat → Nat} {cyI cyJ cyZ : ClassId} {r : Nat → Nat} {a : Nat → Nat} {S : CS} {x1 : Int32} {x2 : Int32} {kc : Nat} {ks : Nat} {post : Int32 → CS → Prop} {px : String → CS → Prop} (hl0 : l.stackTraces = false) (h : p_X5_and S x1 x2 kc ks post px) : xXi l yX5_and wsX5_and { frames := 8, cells := kc, slots := ks, locals := 154 } (dC, dI) (tyA cyI cyJ cyZ) r (wC cyI cyJ cyZ a) [.ref (a 0), .int x1, .int x2] S post px kc ks := by
  intro sz
  refine vx_ofW (cc := cX5_and) (maxL := 4) (ret := (some .int)) (by decide) rfl ?_
  intro p e s m args below meth c s₁ B hml ht hv
  obtain ⟨rfl, G, hP, hD, hS⟩ := xG.of rfl B hml hv
  generalize hAe : va_A (wC cyI cyJ cyZ a S) sz = A at G hD hS ⊢
  have G : xG p s m _ meth c cX5_and 4 RX5 (some .int) wsX5_and (dC, dI) (tyA cyI cyJ cyZ) r A := G
  obtain ⟨hx, hb, hml, hown, hts, hr, hlocks, hK, hE, hA⟩ := id G
  have hiX5 : ∀ w ∈ wsX50, w ∈ wsX5_and := by decide +kernel
  have hf10 := hts (.fieldLink RX5 10 "CellMapping" "graph" "LCellMapping$Graph;") (by decide +kernel)
  have hiX2 : ∀ w ∈ wsX20, w ∈ wsX5_and := by decide +kernel
  have hf66 := hts (.fieldLink RX5 66 "CellMapping$Graph" "nodeCount" "I") (by decide +kernel)
  have hf49 := hts (.fieldLink RX5 49 "CellMapping$Graph" "inputCount" "I") (by decide +kernel)
  have hf21 := hts (.fieldLink RX5 21 "CellMapping" "cutTable" "LCellMapping$CutTable;") (by decide +kernel)
  have hl := lv_entry ([.ref (a 0), .int x1, .int x2]) (n := 4) (Nat.le_of_ble_eq_true rfl)
  rw [lg_entry_eq]
  generalize (lg_sl ([.ref (a 0), .int x1, .int x2]) ++ List.replicate (4 - (lg_sl ([.ref (a 0), .int x1, .int x2])).length) Slot.unset).toArray = ls at hl ⊢
  have hl : lv_has ls 4 [(0, .ref (a 0)), (1, .int x1), (2, .int x2)] := hl
  show W p l e { frames := 8, cells := kc, slots := ks, locals := 154 } s m _ below meth c s.heap [] 0 0 _ _
  unfold p_X5_and at h
  obtain ⟨hk0, h⟩ := h
  have hu : 0 ≤ kc ∧ 0 ≤ ks := ⟨Nat.zero_le _, Nat.zero_le _⟩
  refine lv_aload_n hx hb dX5_and_0 rfl (lv_at hl 0 rfl) ?_
  refine lv_iload_n hx hb dX5_and_1 rfl (lv_at hl 1 rfl) ?_
  refine xt_Vv (wf := wC cyI cyJ cyZ a) (wr := []) (isC := [0, 1, 2, 3, 4, 5, 6, 7, 8, 9, 10, 11, 12, 13, 14, 15, 16, 17, 18, 19, 20]) (isR := []) (As := [.int x1]) (rest := []) ⟨hx, hb, hml, hown, hts⟩ (t_X5_requireLiteral hl0 h) (cwV 1 hts gX5_and_X5_requireLiteral rfl rfl rfl (by decide +kernel) ⟨Nat.le_of_ble_eq_true rfl, Nat.le_of_ble_eq_true rfl⟩) ⟨hK, hE, hA, hP, hD, hS, rfl, rfl, rfl, rfl, by decide⟩ ⟨0, 4, _, _, rfl, rfl, rfl⟩ rfl rfl hl.1 (Nat.le_of_ble_eq_true rfl) dX5_and_2 ⟨by show _ ≤ kc; have := hk0.1; omega, by show _ ≤ ks; have := hk0.2; omega⟩ (fun E ce q S1 H locs h hP hD hS hce hcv hcl => ?_) (fun  S1 H locs h hP hD hS => ?_)
  · obtain ⟨rfl, h⟩ := h
    have hP : va_P (dC, dI) vwCl (wC cyI cyJ cyZ a S) H := hP
    have hD : va_D A (wC cyI cyJ cyZ a S) := hD
    exact xx_pass (S := S) ht hlocks hK hP hD hS h hce hcv hcl (by have := hk0.1; omega) (by have := hk0.2; omega)
  obtain ⟨rfl, h⟩ := h
  have hP : va_P (dC, dI) vwCl (wC cyI cyJ cyZ a S) H := hP
  have hD : va_D A (wC cyI cyJ cyZ a S) := hD
  refine W.cs (cells' := (0 + 1)) (slots' := (0 + 6)) rfl rfl ?_
  have hu : (0 + 1) ≤ kc ∧ (0 + 6) ≤ ks := ⟨by have := hk0.1; omega, by have := hk0.2; omega⟩
  refine lv_aload_n hx hb dX5_and_5 rfl (lv_at hl 0 rfl) ?_
  refine lv_iload_n hx hb dX5_and_6 rfl (lv_at hl 2 rfl) ?_
  refine xt_Vv (wf := wC cyI cyJ cyZ a) (wr := []) (isC := [0, 1, 2, 3, 4, 5, 6, 7, 8, 9, 10, 11, 12, 13, 14, 15, 16, 17, 18, 19, 20]) (isR := []) (As := [.int x2]) (rest := []) ⟨hx, hb, hml, hown, hts⟩ (t_X5_requireLiteral hl0 h) (cwV 1 hts gX5_and_X5_requireLiteral rfl rfl rfl (by decide +kernel) ⟨Nat.le_of_ble_eq_true rfl, Nat.le_of_ble_eq_true rfl⟩) ⟨hK, hE, hA, hP, hD, hS, rfl, rfl, rfl, rfl, by decide⟩ ⟨0, 4, _, _, rfl, rfl, rfl⟩ rfl rfl hl.1 (Nat.le_of_ble_eq_true rfl) dX5_and_7 ⟨by show _ ≤ kc; have := hk0.1; omega, by show _ ≤ ks; have := hk0.2; omega⟩ (fun E ce q S2 H locs h hP hD hS hce hcv hcl => ?_) (fun  S2 H locs h hP hD hS => ?_)
  · obtain ⟨rfl, h⟩ := h
    have hP : va_P (dC, dI) vwCl (wC cyI cyJ cyZ a S) H := hP
    have hD : va_D A (wC cyI cyJ cyZ a S) := hD
    exact xx_pass (S := S) ht hlocks hK hP hD hS h hce hcv hcl (by have := hk0.1; omega) (by have := hk0.2; omega)
  obtain ⟨rfl, h⟩ := h
  have hP : va_P (dC, dI) vwCl (wC cyI cyJ cyZ a S) H := hP
  have hD : va_D A (wC cyI cyJ cyZ a S) := hD
  refine W.cs (cells' := ((0 + 1) + 1)) (slots' := ((0 + 6) + 6)) rfl rfl ?_
  have hu : ((0 + 1) + 1) ≤ kc ∧ ((0 + 6) + 6) ≤ ks := ⟨by have := hk0.1; omega, by have := hk0.2; omega⟩
  refine lv_aload_n hx hb dX5_and_10 rfl (lv_at hl 0 rfl) ?_
  refine va_get (D := (dC, dI)) (ci := 4) (v := .ref (a 1)) (C := RX5) (T := TX5) (N := 6) hx hb hts hiX5 hown hK hP 0 rfl rfl 0 (by decide) hf10 (fun _ h9 => h9) rfl dX5_and_11 ?_
  refine va_get (D := (dC, dI)) (ci := 2) (v := .int (cNC S)) (C := RX2) (T := TX2) (N := 6) hx hb hts hiX2 hown hK hP 1 rfl rfl 4 (by decide) hf66 (fun _ h9 => h9) rfl dX5_and_14 ?_
  refine lv_aload_n hx hb dX5_and_17 rfl (lv_at hl 0 rfl) ?_
  refine va_get (D := (dC, dI)) (ci := 4) (v := .ref (a 1)) (C := RX5) (T := TX5) (N := 6) hx hb hts hiX5 hown hK hP 0 rfl rfl 0 (by decide) hf10 (fun _ h9 => h9) rfl dX5_and_18 ?_
  refine va_get (D := (dC, dI)) (ci := 2) (v := .int (cIC S)) (C := RX2) (T := TX2) (N := 6) hx hb hts hiX2 hown hK hP 1 rfl rfl 5 (by decide) hf49 (fun _ h9 => h9) rfl dX5_and_21 ?_
  refine lv_isub hx hb dX5_and_24 ?_
  refine lv_bipush (v := 24) hx hb dX5_and_25 (by decide) ?_
  refine lv_icmp_lt (tgt := 38) hx hb dX5_and_27 (by decide) (fun c3 => ?_) (fun c3 => ?_)
  · have h := h.1 c3
    refine lv_aload_n hx hb dX5_and_38 rfl (lv_at hl 0 rfl) ?_
    refine va_get (D := (dC, dI)) (ci := 4) (v := .ref (a 1)) (C := RX5) (T := TX5) (N := 6) hx hb hts hiX5 hown hK hP 0 rfl rfl 0 (by decide) hf10 (fun _ h9 => h9) rfl dX5_and_39 ?_
    refine lv_iload_n hx hb dX5_and_42 rfl (lv_at hl 1 rfl) ?_
    refine lv_iload_n hx hb dX5_and_43 rfl (lv_at hl 2 rfl) ?_
    refine xc_Vi (wf := wC cyI cyJ cyZ a) (wr := []) (isC := [0, 1, 2, 3, 4, 5, 6, 7, 8, 9, 10, 11, 12, 13, 14, 15, 16, 17, 18, 19, 20]) (isR := []) (As := [.int x1, .int x2]) (rest := []) ⟨hx, hb, hml, hown, hts⟩ (t_X2_addAnd h) (cwV 2 hts gX5_and_X2_addAnd rfl rfl rfl (by decide +kernel) ⟨Nat.le_of_ble_eq_true rfl, Nat.le_of_ble_eq_true rfl⟩) ⟨hK, hE, hA, hP, hD, hS, rfl, rfl, rfl, rfl, by decide⟩ ⟨1, 2, _, _, rfl, rfl, rfl⟩ rfl rfl hl.1 (Nat.le_of_ble_eq_true rfl) dX5_and_44 ⟨hu.1, hu.2⟩ (fun r4 S5 H locs h hP hD hS => ?_)
    have hP : va_P (dC, dI) vwCl (wC cyI cyJ cyZ a S5) H := hP
    have hD : va_D A (wC cyI cyJ cyZ a S5) := hD
    refine W.cs (cells' := ((0 + 1) + 1)) (slots' := ((0 + 6) + 6)) rfl rfl ?_
    refine lv_istore_n (lv' := [(3, .int r4), (0, .ref (a 0)), (1, .int x1), (2, .int x2)]) hx hb dX5_and_47 rfl hl (by decide) rfl (fun ls hl => ?_)
    refine lv_aload_n hx hb dX5_and_48 rfl (lv_at hl 1 rfl) ?_
    refine va_get (D := (dC, dI)) (ci := 4) (v := .ref (a 2)) (C := RX5) (T := TX5) (N := 6) hx hb hts hiX5 hown hK hP 0 rfl rfl 1 (by decide) hf21 (fun _ h9 => h9) rfl dX5_and_49 ?_
    refine lv_iload_n hx hb dX5_and_52 rfl (lv_at hl 0 rfl) ?_
    obtain ⟨c7, k8, hu, h⟩ := h
    refine xc_Vv (wf := wC cyI cyJ cyZ a) (wr := []) (isC := [0, 1, 2, 3, 4, 5, 6, 7, 8, 9, 10, 11, 12, 13, 14, 15, 16, 17, 18, 19, 20]) (isR := []) (As := [.int r4]) (rest := []) ⟨hx, hb, hml, hown, hts⟩ (t_X0_addNode h) (cwV 1 hts gX5_and_X0_addNode rfl rfl rfl (by decide +kernel) ⟨Nat.le_of_ble_eq_true rfl, Nat.le_of_ble_eq_true rfl⟩) ⟨hK, hE, hA, hP, hD, hS, rfl, rfl, rfl, rfl, by decide⟩ ⟨2, 0, _, _, rfl, rfl, rfl⟩ rfl rfl hl.1 (Nat.le_of_ble_eq_true rfl) dX5_and_53 ⟨hu.1, hu.2⟩ (fun  S6 H locs h hP hD hS => ?_)
    have hP : va_P (dC, dI) vwCl (wC cyI cyJ cyZ a S6) H := hP
    have hD : va_D A (wC cyI cyJ cyZ a S6) := hD
    refine W.cs (cells' := (((0 + 1) + 1) + c7)) (slots' := (((0 + 6) + 6) + k8)) rfl rfl ?_
    refine lv_iconst (v := 2) hx hb dX5_and_56 (by decide) ?_
    refine lv_iload_n hx hb dX5_and_57 rfl (lv_at hl 0 rfl) ?_
    refine lv_imul hx hb dX5_and_58 ?_
    exact vx_ret (xr_i (S := S6) hx hb hr hlocks hK hP hD hS h hu.1 hu.2 dX5_and_59)
  · have h := h.2 c3
    exact xx_throw (S := S) (names := ["java/lang/RuntimeException", "java/lang/Exception"]) hx hb hl0 hown (by decide +kernel) (by decide +kernel) hts (by decide +kernel) (by decide +kernel) (by decide +kernel) (by decide +kernel) (by decide +kernel) hE.2.2.2.2.2.2.1 hE hK hP hD hS (hl.1.trans hml.symm) dX5_and_30 dX5_and_33 dX5_and_34 dX5_and_37 ht (Nat.le_of_ble_eq_true rfl) (Nat.le_of_ble_eq_true rfl) (by show _ ≤ kc; have := hk0.1; omega) (by show _ ≤ ks; have := hk0.2; omega) hlocks h (by show _ ≤ kc; have := hk0.1; omega) (by show _ ≤ ks; have := hk0.2; omega)
def p_X5_output (S : CS) (x1 : Int32) (post : Int32 → CS → Prop) (px : String → CS → Prop) : Prop := p_X5_requireLiteral S x1 (((cOC S) < (6 : Int32) → (vp_in (cOC S) 6 ∧ (∀ S4 : CS, S4 = (cOL_s S (upd (cOL S) (cOC S).toNatClampNeg x1)) → (∀ S5 : CS, S5 = (cOC_s S4 ((cOC S4) + (1 : Int32))) → (post ((cOC S5) - (1 : Int32)) S5))))) ∧ (¬ (cOC S) < (6 : Int32) → (px "java/lang/IllegalStateException" S))) (fun E => px E S)
set_option maxHeartbeats 1000000 in
set_option maxRecDepth 100000 in
theorem t_X5_output {l : Launch} {dC : Nat → ClassId} {dI : Nat → Nat → Nat} {cyI cyJ cyZ : ClassId} {r : Nat → Nat} {a : Nat → Nat} {S : CS} {x1 : Int32} {post : Int32 → CS → Prop} {px : String → CS → Prop} (hl0 : l.stackTraces = false) (h : p_X5_output S x1 post px) : xXi l yX5_output wsX5_output { frames := 8, cells := 2, slots := 12, locals := 123 } (dC, dI) (tyA cyI cyJ cyZ) r (wC cyI cyJ cyZ a) [.ref (a 0), .int x1] S post px 2 12 := by
  intro sz
  refine vx_ofW (cc := cX5_output) (maxL := 2) (ret := (some .int)) (by decide) rfl ?_
  intro p e s m args below meth c s₁ B hml ht hv
  obtain ⟨rfl, G, hP, hD, hS⟩ := xG.of rfl B hml hv
  generalize hAe : va_A (wC cyI cyJ cyZ a S) sz = A at G hD hS ⊢
  have G : xG p s m _ meth c cX5_output 2 RX5 (some .int) wsX5_output (dC, dI) (tyA cyI cyJ cyZ) r A := G
  obtain ⟨hx, hb, hml, hown, hts, hr, hlocks, hK, hE, hA⟩ := id G
  have hiX5 : ∀ w ∈ wsX50, w ∈ wsX5_output := by decide +kernel
  have hf45 := hts (.fieldLink RX5 45 "CellMapping" "outputCount" "I") (by decide +kernel)
  have hf41 := hts (.fieldLink RX5 41 "CellMapping" "outputLiterals" "[I") (by decide +kernel)
  have hl := lv_entry ([.ref (a 0), .int x1]) (n := 2) (Nat.le_of_ble_eq_true rfl)
  rw [lg_entry_eq]
  generalize (lg_sl ([.ref (a 0), .int x1]) ++ List.replicate (2 - (lg_sl ([.ref (a 0), .int x1])).length) Slot.unset).toArray = ls at hl ⊢
  have hl : lv_has ls 2 [(0, .ref (a 0)), (1, .int x1)] := hl
  show W p l e { frames := 8, cells := 2, slots := 12, locals := 123 } s m _ below meth c s.heap [] 0 0 _ _
  unfold p_X5_output at h
  refine lv_aload_n hx hb dX5_output_0 rfl (lv_at hl 0 rfl) ?_
  refine lv_iload_n hx hb dX5_output_1 rfl (lv_at hl 1 rfl) ?_
  refine xt_Vv (wf := wC cyI cyJ cyZ a) (wr := []) (isC := [0, 1, 2, 3, 4, 5, 6, 7, 8, 9, 10, 11, 12, 13, 14, 15, 16, 17, 18, 19, 20]) (isR := []) (As := [.int x1]) (rest := []) ⟨hx, hb, hml, hown, hts⟩ (t_X5_requireLiteral hl0 h) (cwV 1 hts gX5_output_X5_requireLiteral rfl rfl rfl (by decide +kernel) ⟨Nat.le_of_ble_eq_true rfl, Nat.le_of_ble_eq_true rfl⟩) ⟨hK, hE, hA, hP, hD, hS, rfl, rfl, rfl, rfl, by decide⟩ ⟨0, 4, _, _, rfl, rfl, rfl⟩ rfl rfl hl.1 (Nat.le_of_ble_eq_true rfl) dX5_output_2 ⟨Nat.le_of_ble_eq_true rfl, Nat.le_of_ble_eq_true rfl⟩ (fun E ce q S1 H locs h hP hD hS hce hcv hcl => ?_) (fun  S1 H locs h hP hD hS => ?_)
  · obtain ⟨rfl, h⟩ := h
    have hP : va_P (dC, dI) vwCl (wC cyI cyJ cyZ a S) H := hP
    have hD : va_D A (wC cyI cyJ cyZ a S) := hD
    exact xx_pass (S := S) ht hlocks hK hP hD hS h hce hcv hcl (Nat.le_of_ble_eq_true rfl) (Nat.le_of_ble_eq_true rfl)
  obtain ⟨rfl, h⟩ := h
  have hP : va_P (dC, dI) vwCl (wC cyI cyJ cyZ a S) H := hP
  have hD : va_D A (wC cyI cyJ cyZ a S) := hD
  refine lv_aload_n hx hb dX5_output_5 rfl (lv_at hl 0 rfl) ?_
  refine va_get (D := (dC, dI)) (ci := 4) (v := .int (cOC S)) (C := RX5) (T := TX5) (N := 6) hx hb hts hiX5 hown hK hP 0 rfl rfl 5 (by decide) hf45 (fun _ h9 => h9) rfl dX5_output_6 ?_
  refine lv_bipush (v := 6) hx hb dX5_output_9 (by decide) ?_
  refine lv_icmp_lt (tgt := 22) hx hb dX5_output_11 (by decide) (fun c2 => ?_) (fun c2 => ?_)
  · have h := h.1 c2
    refine lv_aload_n hx hb dX5_output_22 rfl (lv_at hl 0 rfl) ?_
    refine va_get (D := (dC, dI)) (ci := 4) (v := .ref (a 5)) (C := RX5) (T := TX5) (N := 6) hx hb hts hiX5 hown hK hP 0 rfl rfl 4 (by decide) hf41 (fun _ h9 => h9) rfl dX5_output_23 ?_
    refine lv_aload_n hx hb dX5_output_26 rfl (lv_at hl 0 rfl) ?_
    refine va_get (D := (dC, dI)) (ci := 4) (v := .int (cOC S)) (C := RX5) (T := TX5) (N := 6) hx hb hts hiX5 hown hK hP 0 rfl rfl 5 (by decide) hf45 (fun _ h9 => h9) rfl dX5_output_27 ?_
    refine lv_iload_n hx hb dX5_output_30 rfl (lv_at hl 1 rfl) ?_
    obtain ⟨i3, h⟩ := h
    refine va_iast (D := (dC, dI)) hx hb hK hP hD hS 5 0 rfl rfl i3 dX5_output_31 (fun H locs hP hD hS => ?_)
    obtain ⟨S4, eS4⟩ : ∃ z : CS, z = (cOL_s S (upd (cOL S) (cOC S).toNatClampNeg x1)) := ⟨_, rfl⟩
    have h := h S4 eS4
    have hP := nP_cOL eS4 hP
    have hD := nD_cOL eS4 hD
    refine lv_aload_n hx hb dX5_output_32 rfl (lv_at hl 0 rfl) ?_
    refine lv_dup hx hb dX5_output_33 rfl ?_
    refine va_get (D := (dC, dI)) (ci := 4) (v := .int (cOC S4)) (C := RX5) (T := TX5) (N := 6) hx hb hts hiX5 hown hK hP 0 rfl rfl 5 (by decide) hf45 (fun _ h9 => h9) rfl dX5_output_34 ?_
    refine lv_iconst (v := 1) hx hb dX5_output_37 (by decide) ?_
    refine lv_iadd hx hb dX5_output_38 ?_
    refine va_put (D := (dC, dI)) (ci := 4) (v := .int ((cOC S4) + (1 : Int32))) (ty := .int) (C := RX5) (T := TX5) (N := 6) hx hb hts hiX5 tyX5 tyX5_ok nmX5 hown hK hP hD hS 0 rfl rfl 5 (by decide) hf45 (fun _ h9 => h9) rfl (by decide +kernel) rfl rfl (Nat.le_of_ble_eq_true rfl) dX5_output_39 (fun H locs hP hD hS => ?_)
    obtain ⟨S5, eS5⟩ : ∃ z : CS, z = (cOC_s S4 ((cOC S4) + (1 : Int32))) := ⟨_, rfl⟩
    have h := h S5 eS5
    have hP := nP_cOC eS5 hP
    have hD := nD_cOC eS5 hD
    refine lv_aload_n hx hb dX5_output_42 rfl (lv_at hl 0 rfl) ?_
    refine va_get (D := (dC, dI)) (ci := 4) (v := .int (cOC S5)) (C := RX5) (T := TX5) (N := 6) hx hb hts hiX5 hown hK hP 0 rfl rfl 5 (by decide) hf45 (fun _ h9 => h9) rfl dX5_output_43 ?_
    refine lv_iconst (v := 1) hx hb dX5_output_46 (by decide) ?_
    refine lv_isub hx hb dX5_output_47 ?_
    exact vx_ret (xr_i (S := S5) hx hb hr hlocks hK hP hD hS h (Nat.le_of_ble_eq_true rfl) (Nat.le_of_ble_eq_true rfl) dX5_output_48)
  · have h := h.2 c2
    exact xx_throw (S := S) (names := ["java/lang/RuntimeException", "java/lang/Exception"]) hx hb hl0 hown (by decide +kernel) (by decide +kernel) hts (by decide +kernel) (by decide +kernel) (by decide +kernel) (by decide +kernel) (by decide +kernel) hE.2.2.2.2.2.2.1 hE hK hP hD hS (hl.1.trans hml.symm) dX5_output_14 dX5_output_17 dX5_output_18 dX5_output_21 ht (Nat.le_of_ble_eq_true rfl) (Nat.le_of_ble_eq_true rfl) (Nat.le_of_ble_eq_true rfl) (Nat.le_of_ble_eq_true rfl) hlocks h (Nat.le_of_ble_eq_true rfl) (Nat.le_of_ble_eq_true rfl)
def p_X5_cell (S : CS) (x1 : Int32) (x2 : Int32) (x3 : Int32) (post : Int32 → CS → Prop) (px : String → CS → Prop) : Prop := ((cCC S) < (12 : Int32) → (p_X5_requireRange S x1 (1 : Int32) (3 : Int32) (p_X4_full S x1 (fun r3 => p_X5_requireRange S x2 (0 : Int32) r3 (p_X5_requireRange S x3 (1 : Int32) (1000 : Int32) (p_X1_forget S (fun S7 => p_X3_add S7 x1 x2 x3 (fun r8 S9 => post r8 S9))) (fun E => px E S)) (fun E => px E S))) (fun E => px E S))) ∧ (¬ (cCC S) < (12 : Int32) → (px "java/lang/IllegalStateException" S))
set_option maxHeartbeats 1000000 in
set_option maxRecDepth 100000 in
theorem t_X5_cell {l : Launch} {dC : Nat → ClassId} {dI : Nat → Nat → Nat} {cyI cyJ cyZ : ClassId} {r : Nat → Nat} {a : Nat → Nat} {S : CS} {x1 : Int32} {x2 : Int32} {x3 : Int32} {post : Int32 → CS → Prop} {px : String → CS → Prop} (hl0 : l.stackTraces = false) (h : p_X5_cell S x1 x2 x3 post px) : xXi l yX5_cell wsX5_cell { frames := 7, cells := 3, slots := 18, locals := 103 } (dC, dI) (tyA cyI cyJ cyZ) r (wC cyI cyJ cyZ a) [.ref (a 0), .int x1, .int x2, .int x3] S post px 3 18 := by
  intro sz
  refine vx_ofW (cc := cX5_cell) (maxL := 4) (ret := (some .int)) (by decide) rfl ?_
  intro p e s m args below meth c s₁ B hml ht hv
  obtain ⟨rfl, G, hP, hD, hS⟩ := xG.of rfl B hml hv
  generalize hAe : va_A (wC cyI cyJ cyZ a S) sz = A at G hD hS ⊢
  have G : xG p s m _ meth c cX5_cell 4 RX5 (some .int) wsX5_cell (dC, dI) (tyA cyI cyJ cyZ) r A := G
  obtain ⟨hx, hb, hml, hown, hts, hr, hlocks, hK, hE, hA⟩ := id G
  have hiX5 : ∀ w ∈ wsX50, w ∈ wsX5_cell := by decide +kernel
  have hf28 := hts (.fieldLink RX5 28 "CellMapping" "shelf" "LCellMapping$Shelf;") (by decide +kernel)
  have hiX3 : ∀ w ∈ wsX30, w ∈ wsX5_cell := by decide +kernel
  have hf73 := hts (.fieldLink RX5 73 "CellMapping$Shelf" "cellCount" "I") (by decide +kernel)
  have hf37 := hts (.fieldLink RX5 37 "CellMapping" "gates" "LCellMapping$Gates;") (by decide +kernel)
  have hl := lv_entry ([.ref (a 0), .int x1, .int x2, .int x3]) (n := 4) (Nat.le_of_ble_eq_true rfl)
  rw [lg_entry_eq]
  generalize (lg_sl ([.ref (a 0), .int x1, .int x2, .int x3]) ++ List.replicate (4 - (lg_sl ([.ref (a 0), .int x1, .int x2, .int x3])).length) Slot.unset).toArray = ls at hl ⊢
  have hl : lv_has ls 4 [(0, .ref (a 0)), (1, .int x1), (2, .int x2), (3, .int x3)] := hl
  show W p l e { frames := 7, cells := 3, slots := 18, locals := 103 } s m _ below meth c s.heap [] 0 0 _ _
  unfold p_X5_cell at h
  refine lv_aload_n hx hb dX5_cell_0 rfl (lv_at hl 0 rfl) ?_
  refine va_get (D := (dC, dI)) (ci := 4) (v := .ref (a 3)) (C := RX5) (T := TX5) (N := 6) hx hb hts hiX5 hown hK hP 0 rfl rfl 2 (by decide) hf28 (fun _ h9 => h9) rfl dX5_cell_1 ?_
  refine va_get (D := (dC, dI)) (ci := 3) (v := .int (cCC S)) (C := RX3) (T := TX3) (N := 6) hx hb hts hiX3 hown hK hP 3 rfl rfl 5 (by decide) hf73 (fun _ h9 => h9) rfl dX5_cell_4 ?_
  refine lv_bipush (v := 12) hx hb dX5_cell_7 (by decide) ?_
  refine lv_icmp_lt (tgt := 20) hx hb dX5_cell_9 (by decide) (fun c1 => ?_) (fun c1 => ?_)
  · have h := h.1 c1
    refine lv_iload_n hx hb dX5_cell_20 rfl (lv_at hl 1 rfl) ?_
    refine lv_iconst (v := 1) hx hb dX5_cell_21 (by decide) ?_
    refine lv_iconst (v := 3) hx hb dX5_cell_22 (by decide) ?_
    refine xt_Sv (wf := wC cyI cyJ cyZ a) (wr := []) (isC := [0, 1, 2, 3, 4, 5, 6, 7, 8, 9, 10, 11, 12, 13, 14, 15, 16, 17, 18, 19, 20]) (isR := []) (As := [.int x1, .int (1 : Int32), .int (3 : Int32)]) (rest := []) ⟨hx, hb, hml, hown, hts⟩ (t_X5_requireRange hl0 h) (va_cwS 3 hts gX5_cell_X5_requireRange rfl rfl rfl (by decide +kernel) ⟨Nat.le_of_ble_eq_true rfl, Nat.le_of_ble_eq_true rfl⟩) ⟨hK, hE, hA, hP, hD, hS, rfl, rfl, rfl, rfl, by decide⟩ rfl rfl hl.1 (Nat.le_of_ble_eq_true rfl) dX5_cell_23 ⟨Nat.le_of_ble_eq_true rfl, Nat.le_of_ble_eq_true rfl⟩ (fun E ce q S2 H locs h hP hD hS hce hcv hcl => ?_) (fun  S2 H locs h hP hD hS => ?_)
    · obtain ⟨rfl, h⟩ := h
      have hP : va_P (dC, dI) vwCl (wC cyI cyJ cyZ a S) H := hP
      have hD : va_D A (wC cyI cyJ cyZ a S) := hD
      exact xx_pass (S := S) ht hlocks hK hP hD hS h hce hcv hcl (Nat.le_of_ble_eq_true rfl) (Nat.le_of_ble_eq_true rfl)
    obtain ⟨rfl, h⟩ := h
    have hP : va_P (dC, dI) vwCl (wC cyI cyJ cyZ a S) H := hP
    have hD : va_D A (wC cyI cyJ cyZ a S) := hD
    refine lv_iload_n hx hb dX5_cell_26 rfl (lv_at hl 2 rfl) ?_
    refine lv_iconst (v := 0) hx hb dX5_cell_27 (by decide) ?_
    refine lv_iload_n hx hb dX5_cell_28 rfl (lv_at hl 1 rfl) ?_
    refine xc_Si (wf := wC cyI cyJ cyZ a) (wr := []) (isC := [0, 1, 2, 3, 4, 5, 6, 7, 8, 9, 10, 11, 12, 13, 14, 15, 16, 17, 18, 19, 20]) (isR := []) (As := [.int x1]) (rest := [.int (0 : Int32), .int x2]) ⟨hx, hb, hml, hown, hts⟩ (t_X4_full h) (va_cwS 1 hts gX5_cell_X4_full rfl rfl rfl (by decide +kernel) ⟨Nat.le_of_ble_eq_true rfl, Nat.le_of_ble_eq_true rfl⟩) ⟨hK, hE, hA, hP, hD, hS, rfl, rfl, rfl, rfl, by decide⟩ rfl rfl hl.1 (Nat.le_of_ble_eq_true rfl) dX5_cell_29 ⟨Nat.le_of_ble_eq_true rfl, Nat.le_of_ble_eq_true rfl⟩ (fun r3 S4 H locs h hP hD hS => ?_)
    obtain ⟨rfl, h⟩ := h
    have hP : va_P (dC, dI) vwCl (wC cyI cyJ cyZ a S) H := hP
    have hD : va_D A (wC cyI cyJ cyZ a S) := hD
    refine xt_Sv (wf := wC cyI cyJ cyZ a) (wr := []) (isC := [0, 1, 2, 3, 4, 5, 6, 7, 8, 9, 10, 11, 12, 13, 14, 15, 16, 17, 18, 19, 20]) (isR := []) (As := [.int x2, .int (0 : Int32), .int r3]) (rest := []) ⟨hx, hb, hml, hown, hts⟩ (t_X5_requireRange hl0 h) (va_cwS 3 hts gX5_cell_X5_requireRange rfl rfl rfl (by decide +kernel) ⟨Nat.le_of_ble_eq_true rfl, Nat.le_of_ble_eq_true rfl⟩) ⟨hK, hE, hA, hP, hD, hS, rfl, rfl, rfl, rfl, by decide⟩ rfl rfl hl.1 (Nat.le_of_ble_eq_true rfl) dX5_cell_32 ⟨Nat.le_of_ble_eq_true rfl, Nat.le_of_ble_eq_true rfl⟩ (fun E ce q S5 H locs h hP hD hS hce hcv hcl => ?_) (fun  S5 H locs h hP hD hS => ?_)
    · obtain ⟨rfl, h⟩ := h
      have hP : va_P (dC, dI) vwCl (wC cyI cyJ cyZ a S) H := hP
      have hD : va_D A (wC cyI cyJ cyZ a S) := hD
      exact xx_pass (S := S) ht hlocks hK hP hD hS h hce hcv hcl (Nat.le_of_ble_eq_true rfl) (Nat.le_of_ble_eq_true rfl)
    obtain ⟨rfl, h⟩ := h
    have hP : va_P (dC, dI) vwCl (wC cyI cyJ cyZ a S) H := hP
    have hD : va_D A (wC cyI cyJ cyZ a S) := hD
    refine lv_iload_n hx hb dX5_cell_35 rfl (lv_at hl 3 rfl) ?_
    refine lv_iconst (v := 1) hx hb dX5_cell_36 (by decide) ?_
    refine lv_sipush (v := 1000) hx hb dX5_cell_37 (by decide) ?_
    refine xt_Sv (wf := wC cyI cyJ cyZ a) (wr := []) (isC := [0, 1, 2, 3, 4, 5, 6, 7, 8, 9, 10, 11, 12, 13, 14, 15, 16, 17, 18, 19, 20]) (isR := []) (As := [.int x3, .int (1 : Int32), .int (1000 : Int32)]) (rest := []) ⟨hx, hb, hml, hown, hts⟩ (t_X5_requireRange hl0 h) (va_cwS 3 hts gX5_cell_X5_requireRange rfl rfl rfl (by decide +kernel) ⟨Nat.le_of_ble_eq_true rfl, Nat.le_of_ble_eq_true rfl⟩) ⟨hK, hE, hA, hP, hD, hS, rfl, rfl, rfl, rfl, by decide⟩ rfl rfl hl.1 (Nat.le_of_ble_eq_true rfl) dX5_cell_40 ⟨Nat.le_of_ble_eq_true rfl, Nat.le_of_ble_eq_true rfl⟩ (fun E ce q S6 H locs h hP hD hS hce hcv hcl => ?_) (fun  S6 H locs h hP hD hS => ?_)
    · obtain ⟨rfl, h⟩ := h
      have hP : va_P (dC, dI) vwCl (wC cyI cyJ cyZ a S) H := hP
      have hD : va_D A (wC cyI cyJ cyZ a S) := hD
      exact xx_pass (S := S) ht hlocks hK hP hD hS h hce hcv hcl (Nat.le_of_ble_eq_true rfl) (Nat.le_of_ble_eq_true rfl)
    obtain ⟨rfl, h⟩ := h
    have hP : va_P (dC, dI) vwCl (wC cyI cyJ cyZ a S) H := hP
    have hD : va_D A (wC cyI cyJ cyZ a S) := hD
    refine lv_aload_n hx hb dX5_cell_43 rfl (lv_at hl 0 rfl) ?_
    refine va_get (D := (dC, dI)) (ci := 4) (v := .ref (a 4)) (C := RX5) (T := TX5) (N := 6) hx hb hts hiX5 hown hK hP 0 rfl rfl 3 (by decide) hf37 (fun _ h9 => h9) rfl dX5_cell_44 ?_
    refine xc_Vv (wf := wC cyI cyJ cyZ a) (wr := []) (isC := [0, 1, 2, 3, 4, 5, 6, 7, 8, 9, 10, 11, 12, 13, 14, 15, 16, 17, 18, 19, 20]) (isR := []) (As := []) (rest := []) ⟨hx, hb, hml, hown, hts⟩ (t_X1_forget h) (cwV 0 hts gX5_cell_X1_forget rfl rfl rfl (by decide +kernel) ⟨Nat.le_of_ble_eq_true rfl, Nat.le_of_ble_eq_true rfl⟩) ⟨hK, hE, hA, hP, hD, hS, rfl, rfl, rfl, rfl, by decide⟩ ⟨4, 1, _, _, rfl, rfl, rfl⟩ rfl rfl hl.1 (Nat.le_of_ble_eq_true rfl) dX5_cell_47 ⟨Nat.le_of_ble_eq_true rfl, Nat.le_of_ble_eq_true rfl⟩ (fun  S7 H locs h hP hD hS => ?_)
    have hP : va_P (dC, dI) vwCl (wC cyI cyJ cyZ a S7) H := hP
    have hD : va_D A (wC cyI cyJ cyZ a S7) := hD
    refine lv_aload_n hx hb dX5_cell_50 rfl (lv_at hl 0 rfl) ?_
    refine va_get (D := (dC, dI)) (ci := 4) (v := .ref (a 3)) (C := RX5) (T := TX5) (N := 6) hx hb hts hiX5 hown hK hP 0 rfl rfl 2 (by decide) hf28 (fun _ h9 => h9) rfl dX5_cell_51 ?_
    refine lv_iload_n hx hb dX5_cell_54 rfl (lv_at hl 1 rfl) ?_
    refine lv_iload_n hx hb dX5_cell_55 rfl (lv_at hl 2 rfl) ?_
    refine lv_iload_n hx hb dX5_cell_56 rfl (lv_at hl 3 rfl) ?_
    refine xc_Vi (wf := wC cyI cyJ cyZ a) (wr := []) (isC := [0, 1, 2, 3, 4, 5, 6, 7, 8, 9, 10, 11, 12, 13, 14, 15, 16, 17, 18, 19, 20]) (isR := []) (As := [.int x1, .int x2, .int x3]) (rest := []) ⟨hx, hb, hml, hown, hts⟩ (t_X3_add h) (cwV 3 hts gX5_cell_X3_add rfl rfl rfl (by decide +kernel) ⟨Nat.le_of_ble_eq_true rfl, Nat.le_of_ble_eq_true rfl⟩) ⟨hK, hE, hA, hP, hD, hS, rfl, rfl, rfl, rfl, by decide⟩ ⟨3, 3, _, _, rfl, rfl, rfl⟩ rfl rfl hl.1 (Nat.le_of_ble_eq_true rfl) dX5_cell_57 ⟨Nat.le_of_ble_eq_true rfl, Nat.le_of_ble_eq_true rfl⟩ (fun r8 S9 H locs h hP hD hS => ?_)
    have hP : va_P (dC, dI) vwCl (wC cyI cyJ cyZ a S9) H := hP
    have hD : va_D A (wC cyI cyJ cyZ a S9) := hD
    exact vx_ret (xr_i (S := S9) hx hb hr hlocks hK hP hD hS h (Nat.le_of_ble_eq_true rfl) (Nat.le_of_ble_eq_true rfl) dX5_cell_60)
  · have h := h.2 c1
    exact xx_throw (S := S) (names := ["java/lang/RuntimeException", "java/lang/Exception"]) hx hb hl0 hown (by decide +kernel) (by decide +kernel) hts (by decide +kernel) (by decide +kernel) (by decide +kernel) (by decide +kernel) (by decide +kernel) hE.2.2.2.2.2.2.1 hE hK hP hD hS (hl.1.trans hml.symm) dX5_cell_12 dX5_cell_15 dX5_cell_16 dX5_cell_19 ht (Nat.le_of_ble_eq_true rfl) (Nat.le_of_ble_eq_true rfl) (Nat.le_of_ble_eq_true rfl) (Nat.le_of_ble_eq_true rfl) hlocks h (Nat.le_of_ble_eq_true rfl) (Nat.le_of_ble_eq_true rfl)
def p_X5_delay (S : CS) (x1 : Int32) (x2 : Int32) (x3 : Int32) (post : Int32 → CS → Prop) (px : String → CS → Prop) : Prop := p_X5_requireIndex S x1 (cCC S) (vp_in x1 12 ∧ (p_X5_requireIndex S x2 ((cPI S) x1.toNatClampNeg) (p_X5_requireRange S x3 (0 : Int32) (1000 : Int32) (p_X3_delayAt S x1 x2 (fun r5 => (¬ r5 = x3 → (p_X3_setDelay S x1 x2 x3 (fun S8 => p_X1_forget S8 (fun S9 => post (1 : Int32) S9)))) ∧ (r5 = x3 → (post (0 : Int32) S)))) (fun E => px E S)) (fun E => px E S))) (fun E => px E S)
set_option maxHeartbeats 1000000 in
set_option maxRecDepth 100000 in
theorem t_X5_delay {l : Launch} {dC : Nat → ClassId} {dI : Nat → Nat → Nat} {cyI cyJ cyZ : ClassId} {r : Nat → Nat} {a : Nat → Nat} {S : CS} {x1 : Int32} {x2 : Int32} {x3 : Int32} {post : Int32 → CS → Prop} {px : String → CS → Prop} (hl0 : l.stackTraces = false) (h : p_X5_delay S x1 x2 x3 post px) : xXi l yX5_delay wsX5_delay { frames := 7, cells := 3, slots := 18, locals := 103 } (dC, dI) (tyA cyI cyJ cyZ) r (wC cyI cyJ cyZ a) [.ref (a 0), .int x1, .int x2, .int x3] S post px 3 18 := by
  intro sz
  refine vx_ofW (cc := cX5_delay) (maxL := 4) (ret := (some .boolean)) (by decide) rfl ?_
  intro p e s m args below meth c s₁ B hml ht hv
  obtain ⟨rfl, G, hP, hD, hS⟩ := xG.of rfl B hml hv
  generalize hAe : va_A (wC cyI cyJ cyZ a S) sz = A at G hD hS ⊢
  have G : xG p s m _ meth c cX5_delay 4 RX5 (some .boolean) wsX5_delay (dC, dI) (tyA cyI cyJ cyZ) r A := G
  obtain ⟨hx, hb, hml, hown, hts, hr, hlocks, hK, hE, hA⟩ := id G
  have hiX5 : ∀ w ∈ wsX50, w ∈ wsX5_delay := by decide +kernel
  have hf28 := hts (.fieldLink RX5 28 "CellMapping" "shelf" "LCellMapping$Shelf;") (by decide +kernel)
  have hiX3 : ∀ w ∈ wsX30, w ∈ wsX5_delay := by decide +kernel
  have hf73 := hts (.fieldLink RX5 73 "CellMapping$Shelf" "cellCount" "I") (by decide +kernel)
  have hf97 := hts (.fieldLink RX5 97 "CellMapping$Shelf" "pins" "[I") (by decide +kernel)
  have hf37 := hts (.fieldLink RX5 37 "CellMapping" "gates" "LCellMapping$Gates;") (by decide +kernel)
  have hl := lv_entry ([.ref (a 0), .int x1, .int x2, .int x3]) (n := 4) (Nat.le_of_ble_eq_true rfl)
  rw [lg_entry_eq]
  generalize (lg_sl ([.ref (a 0), .int x1, .int x2, .int x3]) ++ List.replicate (4 - (lg_sl ([.ref (a 0), .int x1, .int x2, .int x3])).length) Slot.unset).toArray = ls at hl ⊢
  have hl : lv_has ls 4 [(0, .ref (a 0)), (1, .int x1), (2, .int x2), (3, .int x3)] := hl
  show W p l e { frames := 7, cells := 3, slots := 18, locals := 103 } s m _ below meth c s.heap [] 0 0 _ _
  unfold p_X5_delay at h
  refine lv_iload_n hx hb dX5_delay_0 rfl (lv_at hl 1 rfl) ?_
  refine lv_aload_n hx hb dX5_delay_1 rfl (lv_at hl 0 rfl) ?_
  refine va_get (D := (dC, dI)) (ci := 4) (v := .ref (a 3)) (C := RX5) (T := TX5) (N := 6) hx hb hts hiX5 hown hK hP 0 rfl rfl 2 (by decide) hf28 (fun _ h9 => h9) rfl dX5_delay_2 ?_
  refine va_get (D := (dC, dI)) (ci := 3) (v := .int (cCC S)) (C := RX3) (T := TX3) (N := 6) hx hb hts hiX3 hown hK hP 3 rfl rfl 5 (by decide) hf73 (fun _ h9 => h9) rfl dX5_delay_5 ?_
  refine xt_Sv (wf := wC cyI cyJ cyZ a) (wr := []) (isC := [0, 1, 2, 3, 4, 5, 6, 7, 8, 9, 10, 11, 12, 13, 14, 15, 16, 17, 18, 19, 20]) (isR := []) (As := [.int x1, .int (cCC S)]) (rest := []) ⟨hx, hb, hml, hown, hts⟩ (t_X5_requireIndex hl0 h) (va_cwS 2 hts gX5_delay_X5_requireIndex rfl rfl rfl (by decide +kernel) ⟨Nat.le_of_ble_eq_true rfl, Nat.le_of_ble_eq_true rfl⟩) ⟨hK, hE, hA, hP, hD, hS, rfl, rfl, rfl, rfl, by decide⟩ rfl rfl hl.1 (Nat.le_of_ble_eq_true rfl) dX5_delay_8 ⟨Nat.le_of_ble_eq_true rfl, Nat.le_of_ble_eq_true rfl⟩ (fun E ce q S1 H locs h hP hD hS hce hcv hcl => ?_) (fun  S1 H locs h hP hD hS => ?_)
  · obtain ⟨rfl, h⟩ := h
    have hP : va_P (dC, dI) vwCl (wC cyI cyJ cyZ a S) H := hP
    have hD : va_D A (wC cyI cyJ cyZ a S) := hD
    exact xx_pass (S := S) ht hlocks hK hP hD hS h hce hcv hcl (Nat.le_of_ble_eq_true rfl) (Nat.le_of_ble_eq_true rfl)
  obtain ⟨rfl, h⟩ := h
  have hP : va_P (dC, dI) vwCl (wC cyI cyJ cyZ a S) H := hP
  have hD : va_D A (wC cyI cyJ cyZ a S) := hD
  refine lv_iload_n hx hb dX5_delay_11 rfl (lv_at hl 2 rfl) ?_
  refine lv_aload_n hx hb dX5_delay_12 rfl (lv_at hl 0 rfl) ?_
  refine va_get (D := (dC, dI)) (ci := 4) (v := .ref (a 3)) (C := RX5) (T := TX5) (N := 6) hx hb hts hiX5 hown hK hP 0 rfl rfl 2 (by decide) hf28 (fun _ h9 => h9) rfl dX5_delay_13 ?_
  refine va_get (D := (dC, dI)) (ci := 3) (v := .ref (a 12)) (C := RX3) (T := TX3) (N := 6) hx hb hts hiX3 hown hK hP 3 rfl rfl 0 (by decide) hf97 (fun _ h9 => h9) rfl dX5_delay_16 ?_
  refine lv_iload_n hx hb dX5_delay_19 rfl (lv_at hl 1 rfl) ?_
  obtain ⟨i2, h⟩ := h
  refine va_iald (D := (dC, dI)) hx hb hK hP 12 0 rfl rfl i2 dX5_delay_20 ?_
  refine xt_Sv (wf := wC cyI cyJ cyZ a) (wr := []) (isC := [0, 1, 2, 3, 4, 5, 6, 7, 8, 9, 10, 11, 12, 13, 14, 15, 16, 17, 18, 19, 20]) (isR := []) (As := [.int x2, .int ((cPI S) x1.toNatClampNeg)]) (rest := []) ⟨hx, hb, hml, hown, hts⟩ (t_X5_requireIndex hl0 h) (va_cwS 2 hts gX5_delay_X5_requireIndex rfl rfl rfl (by decide +kernel) ⟨Nat.le_of_ble_eq_true rfl, Nat.le_of_ble_eq_true rfl⟩) ⟨hK, hE, hA, hP, hD, hS, rfl, rfl, rfl, rfl, by decide⟩ rfl rfl hl.1 (Nat.le_of_ble_eq_true rfl) dX5_delay_21 ⟨Nat.le_of_ble_eq_true rfl, Nat.le_of_ble_eq_true rfl⟩ (fun E ce q S3 H locs h hP hD hS hce hcv hcl => ?_) (fun  S3 H locs h hP hD hS => ?_)
  · obtain ⟨rfl, h⟩ := h
    have hP : va_P (dC, dI) vwCl (wC cyI cyJ cyZ a S) H := hP
    have hD : va_D A (wC cyI cyJ cyZ a S) := hD
    exact xx_pass (S := S) ht hlocks hK hP hD hS h hce hcv hcl (Nat.le_of_ble_eq_true rfl) (Nat.le_of_ble_eq_true rfl)
  obtain ⟨rfl, h⟩ := h
  have hP : va_P (dC, dI) vwCl (wC cyI cyJ cyZ a S) H := hP
  have hD : va_D A (wC cyI cyJ cyZ a S) := hD
  refine lv_iload_n hx hb dX5_delay_24 rfl (lv_at hl 3 rfl) ?_
  refine lv_iconst (v := 0) hx hb dX5_delay_25 (by decide) ?_
  refine lv_sipush (v := 1000) hx hb dX5_delay_26 (by decide) ?_
  refine xt_Sv (wf := wC cyI cyJ cyZ a) (wr := []) (isC := [0, 1, 2, 3, 4, 5, 6, 7, 8, 9, 10, 11, 12, 13, 14, 15, 16, 17, 18, 19, 20]) (isR := []) (As := [.int x3, .int (0 : Int32), .int (1000 : Int32)]) (rest := []) ⟨hx, hb, hml, hown, hts⟩ (t_X5_requireRange hl0 h) (va_cwS 3 hts gX5_delay_X5_requireRange rfl rfl rfl (by decide +kernel) ⟨Nat.le_of_ble_eq_true rfl, Nat.le_of_ble_eq_true rfl⟩) ⟨hK, hE, hA, hP, hD, hS, rfl, rfl, rfl, rfl, by decide⟩ rfl rfl hl.1 (Nat.le_of_ble_eq_true rfl) dX5_delay_29 ⟨Nat.le_of_ble_eq_true rfl, Nat.le_of_ble_eq_true rfl⟩ (fun E ce q S4 H locs h hP hD hS hce hcv hcl => ?_) (fun  S4 H locs h hP hD hS => ?_)
  · obtain ⟨rfl, h⟩ := h
    have hP : va_P (dC, dI) vwCl (wC cyI cyJ cyZ a S) H := hP
    have hD : va_D A (wC cyI cyJ cyZ a S) := hD
    exact xx_pass (S := S) ht hlocks hK hP hD hS h hce hcv hcl (Nat.le_of_ble_eq_true rfl) (Nat.le_of_ble_eq_true rfl)
  obtain ⟨rfl, h⟩ := h
  have hP : va_P (dC, dI) vwCl (wC cyI cyJ cyZ a S) H := hP
  have hD : va_D A (wC cyI cyJ cyZ a S) := hD
  refine lv_aload_n hx hb dX5_delay_32 rfl (lv_at hl 0 rfl) ?_
  refine va_get (D := (dC, dI)) (ci := 4) (v := .ref (a 3)) (C := RX5) (T := TX5) (N := 6) hx hb hts hiX5 hown hK hP 0 rfl rfl 2 (by decide) hf28 (fun _ h9 => h9) rfl dX5_delay_33 ?_
  refine lv_iload_n hx hb dX5_delay_36 rfl (lv_at hl 1 rfl) ?_
  refine lv_iload_n hx hb dX5_delay_37 rfl (lv_at hl 2 rfl) ?_
  refine xc_Vi (wf := wC cyI cyJ cyZ a) (wr := []) (isC := [0, 1, 2, 3, 4, 5, 6, 7, 8, 9, 10, 11, 12, 13, 14, 15, 16, 17, 18, 19, 20]) (isR := []) (As := [.int x1, .int x2]) (rest := []) ⟨hx, hb, hml, hown, hts⟩ (t_X3_delayAt h) (cwV 2 hts gX5_delay_X3_delayAt rfl rfl rfl (by decide +kernel) ⟨Nat.le_of_ble_eq_true rfl, Nat.le_of_ble_eq_true rfl⟩) ⟨hK, hE, hA, hP, hD, hS, rfl, rfl, rfl, rfl, by decide⟩ ⟨3, 3, _, _, rfl, rfl, rfl⟩ rfl rfl hl.1 (Nat.le_of_ble_eq_true rfl) dX5_delay_38 ⟨Nat.le_of_ble_eq_true rfl, Nat.le_of_ble_eq_true rfl⟩ (fun r5 S6 H locs h hP hD hS => ?_)
  obtain ⟨rfl, h⟩ := h
  have hP : va_P (dC, dI) vwCl (wC cyI cyJ cyZ a S) H := hP
  have hD : va_D A (wC cyI cyJ cyZ a S) := hD
  refine lv_iload_n hx hb dX5_delay_41 rfl (lv_at hl 3 rfl) ?_
  refine lv_icmp_ne (tgt := 47) hx hb dX5_delay_42 (by decide) (fun c7 => ?_) (fun c7 => ?_)
  · have h := h.1 c7
    refine lv_aload_n hx hb dX5_delay_47 rfl (lv_at hl 0 rfl) ?_
    refine va_get (D := (dC, dI)) (ci := 4) (v := .ref (a 3)) (C := RX5) (T := TX5) (N := 6) hx hb hts hiX5 hown hK hP 0 rfl rfl 2 (by decide) hf28 (fun _ h9 => h9) rfl dX5_delay_48 ?_
    refine lv_iload_n hx hb dX5_delay_51 rfl (lv_at hl 1 rfl) ?_
    refine lv_iload_n hx hb dX5_delay_52 rfl (lv_at hl 2 rfl) ?_
    refine lv_iload_n hx hb dX5_delay_53 rfl (lv_at hl 3 rfl) ?_
    refine xc_Vv (wf := wC cyI cyJ cyZ a) (wr := []) (isC := [0, 1, 2, 3, 4, 5, 6, 7, 8, 9, 10, 11, 12, 13, 14, 15, 16, 17, 18, 19, 20]) (isR := []) (As := [.int x1, .int x2, .int x3]) (rest := []) ⟨hx, hb, hml, hown, hts⟩ (t_X3_setDelay h) (cwV 3 hts gX5_delay_X3_setDelay rfl rfl rfl (by decide +kernel) ⟨Nat.le_of_ble_eq_true rfl, Nat.le_of_ble_eq_true rfl⟩) ⟨hK, hE, hA, hP, hD, hS, rfl, rfl, rfl, rfl, by decide⟩ ⟨3, 3, _, _, rfl, rfl, rfl⟩ rfl rfl hl.1 (Nat.le_of_ble_eq_true rfl) dX5_delay_54 ⟨Nat.le_of_ble_eq_true rfl, Nat.le_of_ble_eq_true rfl⟩ (fun  S8 H locs h hP hD hS => ?_)
    have hP : va_P (dC, dI) vwCl (wC cyI cyJ cyZ a S8) H := hP
    have hD : va_D A (wC cyI cyJ cyZ a S8) := hD
    refine lv_aload_n hx hb dX5_delay_57 rfl (lv_at hl 0 rfl) ?_
    refine va_get (D := (dC, dI)) (ci := 4) (v := .ref (a 4)) (C := RX5) (T := TX5) (N := 6) hx hb hts hiX5 hown hK hP 0 rfl rfl 3 (by decide) hf37 (fun _ h9 => h9) rfl dX5_delay_58 ?_
    refine xc_Vv (wf := wC cyI cyJ cyZ a) (wr := []) (isC := [0, 1, 2, 3, 4, 5, 6, 7, 8, 9, 10, 11, 12, 13, 14, 15, 16, 17, 18, 19, 20]) (isR := []) (As := []) (rest := []) ⟨hx, hb, hml, hown, hts⟩ (t_X1_forget h) (cwV 0 hts gX5_delay_X1_forget rfl rfl rfl (by decide +kernel) ⟨Nat.le_of_ble_eq_true rfl, Nat.le_of_ble_eq_true rfl⟩) ⟨hK, hE, hA, hP, hD, hS, rfl, rfl, rfl, rfl, by decide⟩ ⟨4, 1, _, _, rfl, rfl, rfl⟩ rfl rfl hl.1 (Nat.le_of_ble_eq_true rfl) dX5_delay_61 ⟨Nat.le_of_ble_eq_true rfl, Nat.le_of_ble_eq_true rfl⟩ (fun  S9 H locs h hP hD hS => ?_)
    have hP : va_P (dC, dI) vwCl (wC cyI cyJ cyZ a S9) H := hP
    have hD : va_D A (wC cyI cyJ cyZ a S9) := hD
    refine lv_iconst (v := 1) hx hb dX5_delay_64 (by decide) ?_
    exact vx_ret (xr_z (S := S9) hx hb hr hlocks hK hP hD hS (by decide) h (Nat.le_of_ble_eq_true rfl) (Nat.le_of_ble_eq_true rfl) dX5_delay_65)
  · have h := h.2 c7
    refine lv_iconst (v := 0) hx hb dX5_delay_45 (by decide) ?_
    exact vx_ret (xr_z (S := S) hx hb hr hlocks hK hP hD hS (by decide) h (Nat.le_of_ble_eq_true rfl) (Nat.le_of_ble_eq_true rfl) dX5_delay_46)
def p_X5_arrives (S : CS) (x1 : Int32) (x2 : Int32) (post : Int32 → CS → Prop) (px : String → CS → Prop) : Prop := p_X5_requireIndex S x1 (cIC S) (p_X5_requireRange S x2 (0 : Int32) (1000 : Int32) (vp_in x1 8 ∧ ((¬ ((cIT S) x1.toNatClampNeg) = x2 → (vp_in x1 8 ∧ (∀ S6 : CS, S6 = (cIT_s S (upd (cIT S) x1.toNatClampNeg x2)) → (p_X1_forget S6 (fun S7 => post (1 : Int32) S7))))) ∧ (((cIT S) x1.toNatClampNeg) = x2 → (post (0 : Int32) S)))) (fun E => px E S)) (fun E => px E S)
set_option maxHeartbeats 1000000 in
set_option maxRecDepth 100000 in
theorem t_X5_arrives {l : Launch} {dC : Nat → ClassId} {dI : Nat → Nat → Nat} {cyI cyJ cyZ : ClassId} {r : Nat → Nat} {a : Nat → Nat} {S : CS} {x1 : Int32} {x2 : Int32} {post : Int32 → CS → Prop} {px : String → CS → Prop} (hl0 : l.stackTraces = false) (h : p_X5_arrives S x1 x2 post px) : xXi l yX5_arrives wsX5_arrives { frames := 7, cells := 2, slots := 12, locals := 103 } (dC, dI) (tyA cyI cyJ cyZ) r (wC cyI cyJ cyZ a) [.ref (a 0), .int x1, .int x2] S post px 2 12 := by
  intro sz
  refine vx_ofW (cc := cX5_arrives) (maxL := 3) (ret := (some .boolean)) (by decide) rfl ?_
  intro p e s m args below meth c s₁ B hml ht hv
  obtain ⟨rfl, G, hP, hD, hS⟩ := xG.of rfl B hml hv
  generalize hAe : va_A (wC cyI cyJ cyZ a S) sz = A at G hD hS ⊢
  have G : xG p s m _ meth c cX5_arrives 3 RX5 (some .boolean) wsX5_arrives (dC, dI) (tyA cyI cyJ cyZ) r A := G
  obtain ⟨hx, hb, hml, hown, hts, hr, hlocks, hK, hE, hA⟩ := id G
  have hiX5 : ∀ w ∈ wsX50, w ∈ wsX5_arrives := by decide +kernel
  have hf10 := hts (.fieldLink RX5 10 "CellMapping" "graph" "LCellMapping$Graph;") (by decide +kernel)
  have hiX2 : ∀ w ∈ wsX20, w ∈ wsX5_arrives := by decide +kernel
  have hf49 := hts (.fieldLink RX5 49 "CellMapping$Graph" "inputCount" "I") (by decide +kernel)
  have hf106 := hts (.fieldLink RX5 106 "CellMapping$Graph" "inputTime" "[I") (by decide +kernel)
  have hf37 := hts (.fieldLink RX5 37 "CellMapping" "gates" "LCellMapping$Gates;") (by decide +kernel)
  have hl := lv_entry ([.ref (a 0), .int x1, .int x2]) (n := 3) (Nat.le_of_ble_eq_true rfl)
  rw [lg_entry_eq]
  generalize (lg_sl ([.ref (a 0), .int x1, .int x2]) ++ List.replicate (3 - (lg_sl ([.ref (a 0), .int x1, .int x2])).length) Slot.unset).toArray = ls at hl ⊢
  have hl : lv_has ls 3 [(0, .ref (a 0)), (1, .int x1), (2, .int x2)] := hl
  show W p l e { frames := 7, cells := 2, slots := 12, locals := 103 } s m _ below meth c s.heap [] 0 0 _ _
  unfold p_X5_arrives at h
  refine lv_iload_n hx hb dX5_arrives_0 rfl (lv_at hl 1 rfl) ?_
  refine lv_aload_n hx hb dX5_arrives_1 rfl (lv_at hl 0 rfl) ?_
  refine va_get (D := (dC, dI)) (ci := 4) (v := .ref (a 1)) (C := RX5) (T := TX5) (N := 6) hx hb hts hiX5 hown hK hP 0 rfl rfl 0 (by decide) hf10 (fun _ h9 => h9) rfl dX5_arrives_2 ?_
  refine va_get (D := (dC, dI)) (ci := 2) (v := .int (cIC S)) (C := RX2) (T := TX2) (N := 6) hx hb hts hiX2 hown hK hP 1 rfl rfl 5 (by decide) hf49 (fun _ h9 => h9) rfl dX5_arrives_5 ?_
  refine xt_Sv (wf := wC cyI cyJ cyZ a) (wr := []) (isC := [0, 1, 2, 3, 4, 5, 6, 7, 8, 9, 10, 11, 12, 13, 14, 15, 16, 17, 18, 19, 20]) (isR := []) (As := [.int x1, .int (cIC S)]) (rest := []) ⟨hx, hb, hml, hown, hts⟩ (t_X5_requireIndex hl0 h) (va_cwS 2 hts gX5_arrives_X5_requireIndex rfl rfl rfl (by decide +kernel) ⟨Nat.le_of_ble_eq_true rfl, Nat.le_of_ble_eq_true rfl⟩) ⟨hK, hE, hA, hP, hD, hS, rfl, rfl, rfl, rfl, by decide⟩ rfl rfl hl.1 (Nat.le_of_ble_eq_true rfl) dX5_arrives_8 ⟨Nat.le_of_ble_eq_true rfl, Nat.le_of_ble_eq_true rfl⟩ (fun E ce q S1 H locs h hP hD hS hce hcv hcl => ?_) (fun  S1 H locs h hP hD hS => ?_)
  · obtain ⟨rfl, h⟩ := h
    have hP : va_P (dC, dI) vwCl (wC cyI cyJ cyZ a S) H := hP
    have hD : va_D A (wC cyI cyJ cyZ a S) := hD
    exact xx_pass (S := S) ht hlocks hK hP hD hS h hce hcv hcl (Nat.le_of_ble_eq_true rfl) (Nat.le_of_ble_eq_true rfl)
  obtain ⟨rfl, h⟩ := h
  have hP : va_P (dC, dI) vwCl (wC cyI cyJ cyZ a S) H := hP
  have hD : va_D A (wC cyI cyJ cyZ a S) := hD
  refine lv_iload_n hx hb dX5_arrives_11 rfl (lv_at hl 2 rfl) ?_
  refine lv_iconst (v := 0) hx hb dX5_arrives_12 (by decide) ?_
  refine lv_sipush (v := 1000) hx hb dX5_arrives_13 (by decide) ?_
  refine xt_Sv (wf := wC cyI cyJ cyZ a) (wr := []) (isC := [0, 1, 2, 3, 4, 5, 6, 7, 8, 9, 10, 11, 12, 13, 14, 15, 16, 17, 18, 19, 20]) (isR := []) (As := [.int x2, .int (0 : Int32), .int (1000 : Int32)]) (rest := []) ⟨hx, hb, hml, hown, hts⟩ (t_X5_requireRange hl0 h) (va_cwS 3 hts gX5_arrives_X5_requireRange rfl rfl rfl (by decide +kernel) ⟨Nat.le_of_ble_eq_true rfl, Nat.le_of_ble_eq_true rfl⟩) ⟨hK, hE, hA, hP, hD, hS, rfl, rfl, rfl, rfl, by decide⟩ rfl rfl hl.1 (Nat.le_of_ble_eq_true rfl) dX5_arrives_16 ⟨Nat.le_of_ble_eq_true rfl, Nat.le_of_ble_eq_true rfl⟩ (fun E ce q S2 H locs h hP hD hS hce hcv hcl => ?_) (fun  S2 H locs h hP hD hS => ?_)
  · obtain ⟨rfl, h⟩ := h
    have hP : va_P (dC, dI) vwCl (wC cyI cyJ cyZ a S) H := hP
    have hD : va_D A (wC cyI cyJ cyZ a S) := hD
    exact xx_pass (S := S) ht hlocks hK hP hD hS h hce hcv hcl (Nat.le_of_ble_eq_true rfl) (Nat.le_of_ble_eq_true rfl)
  obtain ⟨rfl, h⟩ := h
  have hP : va_P (dC, dI) vwCl (wC cyI cyJ cyZ a S) H := hP
  have hD : va_D A (wC cyI cyJ cyZ a S) := hD
  refine lv_aload_n hx hb dX5_arrives_19 rfl (lv_at hl 0 rfl) ?_
  refine va_get (D := (dC, dI)) (ci := 4) (v := .ref (a 1)) (C := RX5) (T := TX5) (N := 6) hx hb hts hiX5 hown hK hP 0 rfl rfl 0 (by decide) hf10 (fun _ h9 => h9) rfl dX5_arrives_20 ?_
  refine va_get (D := (dC, dI)) (ci := 2) (v := .ref (a 9)) (C := RX2) (T := TX2) (N := 6) hx hb hts hiX2 hown hK hP 1 rfl rfl 3 (by decide) hf106 (fun _ h9 => h9) rfl dX5_arrives_23 ?_
  refine lv_iload_n hx hb dX5_arrives_26 rfl (lv_at hl 1 rfl) ?_
  obtain ⟨i3, h⟩ := h
  refine va_iald (D := (dC, dI)) hx hb hK hP 9 0 rfl rfl i3 dX5_arrives_27 ?_
  refine lv_iload_n hx hb dX5_arrives_28 rfl (lv_at hl 2 rfl) ?_
  refine lv_icmp_ne (tgt := 34) hx hb dX5_arrives_29 (by decide) (fun c4 => ?_) (fun c4 => ?_)
  · have h := h.1 c4
    refine lv_aload_n hx hb dX5_arrives_34 rfl (lv_at hl 0 rfl) ?_
    refine va_get (D := (dC, dI)) (ci := 4) (v := .ref (a 1)) (C := RX5) (T := TX5) (N := 6) hx hb hts hiX5 hown hK hP 0 rfl rfl 0 (by decide) hf10 (fun _ h9 => h9) rfl dX5_arrives_35 ?_
    refine va_get (D := (dC, dI)) (ci := 2) (v := .ref (a 9)) (C := RX2) (T := TX2) (N := 6) hx hb hts hiX2 hown hK hP 1 rfl rfl 3 (by decide) hf106 (fun _ h9 => h9) rfl dX5_arrives_38 ?_
    refine lv_iload_n hx hb dX5_arrives_41 rfl (lv_at hl 1 rfl) ?_
    refine lv_iload_n hx hb dX5_arrives_42 rfl (lv_at hl 2 rfl) ?_
    obtain ⟨i5, h⟩ := h
    refine va_iast (D := (dC, dI)) hx hb hK hP hD hS 9 0 rfl rfl i5 dX5_arrives_43 (fun H locs hP hD hS => ?_)
    obtain ⟨S6, eS6⟩ : ∃ z : CS, z = (cIT_s S (upd (cIT S) x1.toNatClampNeg x2)) := ⟨_, rfl⟩
    have h := h S6 eS6
    have hP := nP_cIT eS6 hP
    have hD := nD_cIT eS6 hD
    refine lv_aload_n hx hb dX5_arrives_44 rfl (lv_at hl 0 rfl) ?_
    refine va_get (D := (dC, dI)) (ci := 4) (v := .ref (a 4)) (C := RX5) (T := TX5) (N := 6) hx hb hts hiX5 hown hK hP 0 rfl rfl 3 (by decide) hf37 (fun _ h9 => h9) rfl dX5_arrives_45 ?_
    refine xc_Vv (wf := wC cyI cyJ cyZ a) (wr := []) (isC := [0, 1, 2, 3, 4, 5, 6, 7, 8, 9, 10, 11, 12, 13, 14, 15, 16, 17, 18, 19, 20]) (isR := []) (As := []) (rest := []) ⟨hx, hb, hml, hown, hts⟩ (t_X1_forget h) (cwV 0 hts gX5_arrives_X1_forget rfl rfl rfl (by decide +kernel) ⟨Nat.le_of_ble_eq_true rfl, Nat.le_of_ble_eq_true rfl⟩) ⟨hK, hE, hA, hP, hD, hS, rfl, rfl, rfl, rfl, by decide⟩ ⟨4, 1, _, _, rfl, rfl, rfl⟩ rfl rfl hl.1 (Nat.le_of_ble_eq_true rfl) dX5_arrives_48 ⟨Nat.le_of_ble_eq_true rfl, Nat.le_of_ble_eq_true rfl⟩ (fun  S7 H locs h hP hD hS => ?_)
    have hP : va_P (dC, dI) vwCl (wC cyI cyJ cyZ a S7) H := hP
    have hD : va_D A (wC cyI cyJ cyZ a S7) := hD
    refine lv_iconst (v := 1) hx hb dX5_arrives_51 (by decide) ?_
    exact vx_ret (xr_z (S := S7) hx hb hr hlocks hK hP hD hS (by decide) h (Nat.le_of_ble_eq_true rfl) (Nat.le_of_ble_eq_true rfl) dX5_arrives_52)
  · have h := h.2 c4
    refine lv_iconst (v := 0) hx hb dX5_arrives_32 (by decide) ?_
    exact vx_ret (xr_z (S := S) hx hb hr hlocks hK hP hD hS (by decide) h (Nat.le_of_ble_eq_true rfl) (Nat.le_of_ble_eq_true rfl) dX5_arrives_33)
def p_X5_cuts (S : CS) (x1 : Int32) (post : Int32 → Prop) (px : String → Prop) : Prop := p_X5_requireIndex S x1 (cNC S) (p_X0_size S x1 (fun r2 => post r2)) (fun E => px E)
set_option maxHeartbeats 1000000 in
set_option maxRecDepth 100000 in
theorem t_X5_cuts {l : Launch} {dC : Nat → ClassId} {dI : Nat → Nat → Nat} {cyI cyJ cyZ : ClassId} {r : Nat → Nat} {a : Nat → Nat} {S : CS} {x1 : Int32} {post : Int32 → Prop} {px : String → Prop} (hl0 : l.stackTraces = false) (h : p_X5_cuts S x1 post px) : xXi l yX5_cuts wsX5_cuts { frames := 7, cells := 1, slots := 6, locals := 102 } (dC, dI) (tyA cyI cyJ cyZ) r (wC cyI cyJ cyZ a) [.ref (a 0), .int x1] S (fun x u => S = u ∧ post x) (fun E u => S = u ∧ px E) 1 6 := by
  intro sz
  refine vx_ofW (cc := cX5_cuts) (maxL := 2) (ret := (some .int)) (by decide) rfl ?_
  intro p e s m args below meth c s₁ B hml ht hv
  obtain ⟨rfl, G, hP, hD, hS⟩ := xG.of rfl B hml hv
  generalize hAe : va_A (wC cyI cyJ cyZ a S) sz = A at G hD hS ⊢
  have G : xG p s m _ meth c cX5_cuts 2 RX5 (some .int) wsX5_cuts (dC, dI) (tyA cyI cyJ cyZ) r A := G
  obtain ⟨hx, hb, hml, hown, hts, hr, hlocks, hK, hE, hA⟩ := id G
  have hiX5 : ∀ w ∈ wsX50, w ∈ wsX5_cuts := by decide +kernel
  have hf10 := hts (.fieldLink RX5 10 "CellMapping" "graph" "LCellMapping$Graph;") (by decide +kernel)
  have hiX2 : ∀ w ∈ wsX20, w ∈ wsX5_cuts := by decide +kernel
  have hf66 := hts (.fieldLink RX5 66 "CellMapping$Graph" "nodeCount" "I") (by decide +kernel)
  have hf21 := hts (.fieldLink RX5 21 "CellMapping" "cutTable" "LCellMapping$CutTable;") (by decide +kernel)
  have hl := lv_entry ([.ref (a 0), .int x1]) (n := 2) (Nat.le_of_ble_eq_true rfl)
  rw [lg_entry_eq]
  generalize (lg_sl ([.ref (a 0), .int x1]) ++ List.replicate (2 - (lg_sl ([.ref (a 0), .int x1])).length) Slot.unset).toArray = ls at hl ⊢
  have hl : lv_has ls 2 [(0, .ref (a 0)), (1, .int x1)] := hl
  show W p l e { frames := 7, cells := 1, slots := 6, locals := 102 } s m _ below meth c s.heap [] 0 0 _ _
  unfold p_X5_cuts at h
  refine lv_iload_n hx hb dX5_cuts_0 rfl (lv_at hl 1 rfl) ?_
  refine lv_aload_n hx hb dX5_cuts_1 rfl (lv_at hl 0 rfl) ?_
  refine va_get (D := (dC, dI)) (ci := 4) (v := .ref (a 1)) (C := RX5) (T := TX5) (N := 6) hx hb hts hiX5 hown hK hP 0 rfl rfl 0 (by decide) hf10 (fun _ h9 => h9) rfl dX5_cuts_2 ?_
  refine va_get (D := (dC, dI)) (ci := 2) (v := .int (cNC S)) (C := RX2) (T := TX2) (N := 6) hx hb hts hiX2 hown hK hP 1 rfl rfl 4 (by decide) hf66 (fun _ h9 => h9) rfl dX5_cuts_5 ?_
  refine xt_Sv (wf := wC cyI cyJ cyZ a) (wr := []) (isC := [0, 1, 2, 3, 4, 5, 6, 7, 8, 9, 10, 11, 12, 13, 14, 15, 16, 17, 18, 19, 20]) (isR := []) (As := [.int x1, .int (cNC S)]) (rest := []) ⟨hx, hb, hml, hown, hts⟩ (t_X5_requireIndex hl0 h) (va_cwS 2 hts gX5_cuts_X5_requireIndex rfl rfl rfl (by decide +kernel) ⟨Nat.le_of_ble_eq_true rfl, Nat.le_of_ble_eq_true rfl⟩) ⟨hK, hE, hA, hP, hD, hS, rfl, rfl, rfl, rfl, by decide⟩ rfl rfl hl.1 (Nat.le_of_ble_eq_true rfl) dX5_cuts_8 ⟨Nat.le_of_ble_eq_true rfl, Nat.le_of_ble_eq_true rfl⟩ (fun E ce q S1 H locs h hP hD hS hce hcv hcl => ?_) (fun  S1 H locs h hP hD hS => ?_)
  · obtain ⟨rfl, h⟩ := h
    have hP : va_P (dC, dI) vwCl (wC cyI cyJ cyZ a S) H := hP
    have hD : va_D A (wC cyI cyJ cyZ a S) := hD
    exact xx_pass (S := S) ht hlocks hK hP hD hS ⟨rfl, h⟩ hce hcv hcl (Nat.le_of_ble_eq_true rfl) (Nat.le_of_ble_eq_true rfl)
  obtain ⟨rfl, h⟩ := h
  have hP : va_P (dC, dI) vwCl (wC cyI cyJ cyZ a S) H := hP
  have hD : va_D A (wC cyI cyJ cyZ a S) := hD
  refine lv_aload_n hx hb dX5_cuts_11 rfl (lv_at hl 0 rfl) ?_
  refine va_get (D := (dC, dI)) (ci := 4) (v := .ref (a 2)) (C := RX5) (T := TX5) (N := 6) hx hb hts hiX5 hown hK hP 0 rfl rfl 1 (by decide) hf21 (fun _ h9 => h9) rfl dX5_cuts_12 ?_
  refine lv_iload_n hx hb dX5_cuts_15 rfl (lv_at hl 1 rfl) ?_
  refine xc_Vi (wf := wC cyI cyJ cyZ a) (wr := []) (isC := [0, 1, 2, 3, 4, 5, 6, 7, 8, 9, 10, 11, 12, 13, 14, 15, 16, 17, 18, 19, 20]) (isR := []) (As := [.int x1]) (rest := []) ⟨hx, hb, hml, hown, hts⟩ (t_X0_size h) (cwV 1 hts gX5_cuts_X0_size rfl rfl rfl (by decide +kernel) ⟨Nat.le_of_ble_eq_true rfl, Nat.le_of_ble_eq_true rfl⟩) ⟨hK, hE, hA, hP, hD, hS, rfl, rfl, rfl, rfl, by decide⟩ ⟨2, 0, _, _, rfl, rfl, rfl⟩ rfl rfl hl.1 (Nat.le_of_ble_eq_true rfl) dX5_cuts_16 ⟨Nat.le_of_ble_eq_true rfl, Nat.le_of_ble_eq_true rfl⟩ (fun r2 S3 H locs h hP hD hS => ?_)
  obtain ⟨rfl, h⟩ := h
  have hP : va_P (dC, dI) vwCl (wC cyI cyJ cyZ a S) H := hP
  have hD : va_D A (wC cyI cyJ cyZ a S) := hD
  exact vx_ret (xr_i (S := S) hx hb hr hlocks hK hP hD hS ⟨rfl, h⟩ (Nat.le_of_ble_eq_true rfl) (Nat.le_of_ble_eq_true rfl) dX5_cuts_19)
def p_X5_cut (S : CS) (x1 : Int32) (x2 : Int32) (post : Int64 → Prop) (px : String → Prop) : Prop := p_X5_requireCutIndex S x1 x2 (p_X0_size S x1 (fun r2 => (r2 ≤ x2 → (post (-1 : Int64))) ∧ (¬ r2 ≤ x2 → (p_X0_leavesAt S x1 x2 (fun r5 => post (r5.toInt64)))))) (fun E => px E)
set_option maxHeartbeats 1000000 in
set_option maxRecDepth 100000 in
theorem t_X5_cut {l : Launch} {dC : Nat → ClassId} {dI : Nat → Nat → Nat} {cyI cyJ cyZ : ClassId} {r : Nat → Nat} {a : Nat → Nat} {S : CS} {x1 : Int32} {x2 : Int32} {post : Int64 → Prop} {px : String → Prop} (hl0 : l.stackTraces = false) (h : p_X5_cut S x1 x2 post px) : xXl l yX5_cut wsX5_cut { frames := 8, cells := 2, slots := 12, locals := 124 } (dC, dI) (tyA cyI cyJ cyZ) r (wC cyI cyJ cyZ a) [.ref (a 0), .int x1, .int x2] S (fun x u => S = u ∧ post x) (fun E u => S = u ∧ px E) 2 12 := by
  intro sz
  refine vx_ofW (cc := cX5_cut) (maxL := 3) (ret := (some .long)) (by decide) rfl ?_
  intro p e s m args below meth c s₁ B hml ht hv
  obtain ⟨rfl, G, hP, hD, hS⟩ := xG.of rfl B hml hv
  generalize hAe : va_A (wC cyI cyJ cyZ a S) sz = A at G hD hS ⊢
  have G : xG p s m _ meth c cX5_cut 3 RX5 (some .long) wsX5_cut (dC, dI) (tyA cyI cyJ cyZ) r A := G
  obtain ⟨hx, hb, hml, hown, hts, hr, hlocks, hK, hE, hA⟩ := id G
  have hiX5 : ∀ w ∈ wsX50, w ∈ wsX5_cut := by decide +kernel
  have hf21 := hts (.fieldLink RX5 21 "CellMapping" "cutTable" "LCellMapping$CutTable;") (by decide +kernel)
  have hl := lv_entry ([.ref (a 0), .int x1, .int x2]) (n := 3) (Nat.le_of_ble_eq_true rfl)
  rw [lg_entry_eq]
  generalize (lg_sl ([.ref (a 0), .int x1, .int x2]) ++ List.replicate (3 - (lg_sl ([.ref (a 0), .int x1, .int x2])).length) Slot.unset).toArray = ls at hl ⊢
  have hl : lv_has ls 3 [(0, .ref (a 0)), (1, .int x1), (2, .int x2)] := hl
  show W p l e { frames := 8, cells := 2, slots := 12, locals := 124 } s m _ below meth c s.heap [] 0 0 _ _
  unfold p_X5_cut at h
  refine lv_aload_n hx hb dX5_cut_0 rfl (lv_at hl 0 rfl) ?_
  refine lv_iload_n hx hb dX5_cut_1 rfl (lv_at hl 1 rfl) ?_
  refine lv_iload_n hx hb dX5_cut_2 rfl (lv_at hl 2 rfl) ?_
  refine xt_Vv (wf := wC cyI cyJ cyZ a) (wr := []) (isC := [0, 1, 2, 3, 4, 5, 6, 7, 8, 9, 10, 11, 12, 13, 14, 15, 16, 17, 18, 19, 20]) (isR := []) (As := [.int x1, .int x2]) (rest := []) ⟨hx, hb, hml, hown, hts⟩ (t_X5_requireCutIndex hl0 h) (cwV 2 hts gX5_cut_X5_requireCutIndex rfl rfl rfl (by decide +kernel) ⟨Nat.le_of_ble_eq_true rfl, Nat.le_of_ble_eq_true rfl⟩) ⟨hK, hE, hA, hP, hD, hS, rfl, rfl, rfl, rfl, by decide⟩ ⟨0, 4, _, _, rfl, rfl, rfl⟩ rfl rfl hl.1 (Nat.le_of_ble_eq_true rfl) dX5_cut_3 ⟨Nat.le_of_ble_eq_true rfl, Nat.le_of_ble_eq_true rfl⟩ (fun E ce q S1 H locs h hP hD hS hce hcv hcl => ?_) (fun  S1 H locs h hP hD hS => ?_)
  · obtain ⟨rfl, h⟩ := h
    have hP : va_P (dC, dI) vwCl (wC cyI cyJ cyZ a S) H := hP
    have hD : va_D A (wC cyI cyJ cyZ a S) := hD
    exact xx_pass (S := S) ht hlocks hK hP hD hS ⟨rfl, h⟩ hce hcv hcl (Nat.le_of_ble_eq_true rfl) (Nat.le_of_ble_eq_true rfl)
  obtain ⟨rfl, h⟩ := h
  have hP : va_P (dC, dI) vwCl (wC cyI cyJ cyZ a S) H := hP
  have hD : va_D A (wC cyI cyJ cyZ a S) := hD
  refine lv_iload_n hx hb dX5_cut_6 rfl (lv_at hl 2 rfl) ?_
  refine lv_aload_n hx hb dX5_cut_7 rfl (lv_at hl 0 rfl) ?_
  refine va_get (D := (dC, dI)) (ci := 4) (v := .ref (a 2)) (C := RX5) (T := TX5) (N := 6) hx hb hts hiX5 hown hK hP 0 rfl rfl 1 (by decide) hf21 (fun _ h9 => h9) rfl dX5_cut_8 ?_
  refine lv_iload_n hx hb dX5_cut_11 rfl (lv_at hl 1 rfl) ?_
  refine xc_Vi (wf := wC cyI cyJ cyZ a) (wr := []) (isC := [0, 1, 2, 3, 4, 5, 6, 7, 8, 9, 10, 11, 12, 13, 14, 15, 16, 17, 18, 19, 20]) (isR := []) (As := [.int x1]) (rest := [.int x2]) ⟨hx, hb, hml, hown, hts⟩ (t_X0_size h) (cwV 1 hts gX5_cut_X0_size rfl rfl rfl (by decide +kernel) ⟨Nat.le_of_ble_eq_true rfl, Nat.le_of_ble_eq_true rfl⟩) ⟨hK, hE, hA, hP, hD, hS, rfl, rfl, rfl, rfl, by decide⟩ ⟨2, 0, _, _, rfl, rfl, rfl⟩ rfl rfl hl.1 (Nat.le_of_ble_eq_true rfl) dX5_cut_12 ⟨Nat.le_of_ble_eq_true rfl, Nat.le_of_ble_eq_true rfl⟩ (fun r2 S3 H locs h hP hD hS => ?_)
  obtain ⟨rfl, h⟩ := h
  have hP : va_P (dC, dI) vwCl (wC cyI cyJ cyZ a S) H := hP
  have hD : va_D A (wC cyI cyJ cyZ a S) := hD
  refine lv_icmp_ge (tgt := 31) hx hb dX5_cut_15 (by decide) (fun c4 => ?_) (fun c4 => ?_)
  · have h := h.1 c4
    refine lv_ldc2 (v := -1) hx hb hown (hts (.constantLong RX5 118 (-1)) (by decide +kernel)) dX5_cut_31 ?_
    exact vx_ret (xr_l (S := S) hx hb hr hlocks hK hP hD hS ⟨rfl, h⟩ (Nat.le_of_ble_eq_true rfl) (Nat.le_of_ble_eq_true rfl) dX5_cut_34)
  · have h := h.2 c4
    refine lv_aload_n hx hb dX5_cut_18 rfl (lv_at hl 0 rfl) ?_
    refine va_get (D := (dC, dI)) (ci := 4) (v := .ref (a 2)) (C := RX5) (T := TX5) (N := 6) hx hb hts hiX5 hown hK hP 0 rfl rfl 1 (by decide) hf21 (fun _ h9 => h9) rfl dX5_cut_19 ?_
    refine lv_iload_n hx hb dX5_cut_22 rfl (lv_at hl 1 rfl) ?_
    refine lv_iload_n hx hb dX5_cut_23 rfl (lv_at hl 2 rfl) ?_
    refine xc_Vi (wf := wC cyI cyJ cyZ a) (wr := []) (isC := [0, 1, 2, 3, 4, 5, 6, 7, 8, 9, 10, 11, 12, 13, 14, 15, 16, 17, 18, 19, 20]) (isR := []) (As := [.int x1, .int x2]) (rest := []) ⟨hx, hb, hml, hown, hts⟩ (t_X0_leavesAt h) (cwV 2 hts gX5_cut_X0_leavesAt rfl rfl rfl (by decide +kernel) ⟨Nat.le_of_ble_eq_true rfl, Nat.le_of_ble_eq_true rfl⟩) ⟨hK, hE, hA, hP, hD, hS, rfl, rfl, rfl, rfl, by decide⟩ ⟨2, 0, _, _, rfl, rfl, rfl⟩ rfl rfl hl.1 (Nat.le_of_ble_eq_true rfl) dX5_cut_24 ⟨Nat.le_of_ble_eq_true rfl, Nat.le_of_ble_eq_true rfl⟩ (fun r5 S6 H locs h hP hD hS => ?_)
    obtain ⟨rfl, h⟩ := h
    have hP : va_P (dC, dI) vwCl (wC cyI cyJ cyZ a S) H := hP
    have hD : va_D A (wC cyI cyJ cyZ a S) := hD
    refine lv_i2l (v := r5.toInt64) hx hb dX5_cut_27 rfl ?_
    refine lv_goto (tgt := 34) hx hb dX5_cut_28 (by decide) ?_
    exact vx_ret (xr_l (S := S) hx hb hr hlocks hK hP hD hS ⟨rfl, h⟩ (Nat.le_of_ble_eq_true rfl) (Nat.le_of_ble_eq_true rfl) dX5_cut_34)
def p_X5_function (S : CS) (x1 : Int32) (x2 : Int32) (post : Int32 → Prop) (px : String → Prop) : Prop := p_X5_requireCutIndex S x1 x2 (p_X0_size S x1 (fun r2 => (r2 ≤ x2 → (post (-1 : Int32))) ∧ (¬ r2 ≤ x2 → (p_X0_functionAt S x1 x2 (fun r5 => post r5))))) (fun E => px E)
set_option maxHeartbeats 1000000 in
set_option maxRecDepth 100000 in
theorem t_X5_function {l : Launch} {dC : Nat → ClassId} {dI : Nat → Nat → Nat} {cyI cyJ cyZ : ClassId} {r : Nat → Nat} {a : Nat → Nat} {S : CS} {x1 : Int32} {x2 : Int32} {post : Int32 → Prop} {px : String → Prop} (hl0 : l.stackTraces = false) (h : p_X5_function S x1 x2 post px) : xXi l yX5_function wsX5_function { frames := 8, cells := 2, slots := 12, locals := 124 } (dC, dI) (tyA cyI cyJ cyZ) r (wC cyI cyJ cyZ a) [.ref (a 0), .int x1, .int x2] S (fun x u => S = u ∧ post x) (fun E u => S = u ∧ px E) 2 12 := by
  intro sz
  refine vx_ofW (cc := cX5_function) (maxL := 3) (ret := (some .int)) (by decide) rfl ?_
  intro p e s m args below meth c s₁ B hml ht hv
  obtain ⟨rfl, G, hP, hD, hS⟩ := xG.of rfl B hml hv
  generalize hAe : va_A (wC cyI cyJ cyZ a S) sz = A at G hD hS ⊢
  have G : xG p s m _ meth c cX5_function 3 RX5 (some .int) wsX5_function (dC, dI) (tyA cyI cyJ cyZ) r A := G
  obtain ⟨hx, hb, hml, hown, hts, hr, hlocks, hK, hE, hA⟩ := id G
  have hiX5 : ∀ w ∈ wsX50, w ∈ wsX5_function := by decide +kernel
  have hf21 := hts (.fieldLink RX5 21 "CellMapping" "cutTable" "LCellMapping$CutTable;") (by decide +kernel)
  have hl := lv_entry ([.ref (a 0), .int x1, .int x2]) (n := 3) (Nat.le_of_ble_eq_true rfl)
  rw [lg_entry_eq]
  generalize (lg_sl ([.ref (a 0), .int x1, .int x2]) ++ List.replicate (3 - (lg_sl ([.ref (a 0), .int x1, .int x2])).length) Slot.unset).toArray = ls at hl ⊢
  have hl : lv_has ls 3 [(0, .ref (a 0)), (1, .int x1), (2, .int x2)] := hl
  show W p l e { frames := 8, cells := 2, slots := 12, locals := 124 } s m _ below meth c s.heap [] 0 0 _ _
  unfold p_X5_function at h
  refine lv_aload_n hx hb dX5_function_0 rfl (lv_at hl 0 rfl) ?_
  refine lv_iload_n hx hb dX5_function_1 rfl (lv_at hl 1 rfl) ?_
  refine lv_iload_n hx hb dX5_function_2 rfl (lv_at hl 2 rfl) ?_
  refine xt_Vv (wf := wC cyI cyJ cyZ a) (wr := []) (isC := [0, 1, 2, 3, 4, 5, 6, 7, 8, 9, 10, 11, 12, 13, 14, 15, 16, 17, 18, 19, 20]) (isR := []) (As := [.int x1, .int x2]) (rest := []) ⟨hx, hb, hml, hown, hts⟩ (t_X5_requireCutIndex hl0 h) (cwV 2 hts gX5_function_X5_requireCutIndex rfl rfl rfl (by decide +kernel) ⟨Nat.le_of_ble_eq_true rfl, Nat.le_of_ble_eq_true rfl⟩) ⟨hK, hE, hA, hP, hD, hS, rfl, rfl, rfl, rfl, by decide⟩ ⟨0, 4, _, _, rfl, rfl, rfl⟩ rfl rfl hl.1 (Nat.le_of_ble_eq_true rfl) dX5_function_3 ⟨Nat.le_of_ble_eq_true rfl, Nat.le_of_ble_eq_true rfl⟩ (fun E ce q S1 H locs h hP hD hS hce hcv hcl => ?_) (fun  S1 H locs h hP hD hS => ?_)
  · obtain ⟨rfl, h⟩ := h
    have hP : va_P (dC, dI) vwCl (wC cyI cyJ cyZ a S) H := hP
    have hD : va_D A (wC cyI cyJ cyZ a S) := hD
    exact xx_pass (S := S) ht hlocks hK hP hD hS ⟨rfl, h⟩ hce hcv hcl (Nat.le_of_ble_eq_true rfl) (Nat.le_of_ble_eq_true rfl)
  obtain ⟨rfl, h⟩ := h
  have hP : va_P (dC, dI) vwCl (wC cyI cyJ cyZ a S) H := hP
  have hD : va_D A (wC cyI cyJ cyZ a S) := hD
  refine lv_iload_n hx hb dX5_function_6 rfl (lv_at hl 2 rfl) ?_
  refine lv_aload_n hx hb dX5_function_7 rfl (lv_at hl 0 rfl) ?_
  refine va_get (D := (dC, dI)) (ci := 4) (v := .ref (a 2)) (C := RX5) (T := TX5) (N := 6) hx hb hts hiX5 hown hK hP 0 rfl rfl 1 (by decide) hf21 (fun _ h9 => h9) rfl dX5_function_8 ?_
  refine lv_iload_n hx hb dX5_function_11 rfl (lv_at hl 1 rfl) ?_
  refine xc_Vi (wf := wC cyI cyJ cyZ a) (wr := []) (isC := [0, 1, 2, 3, 4, 5, 6, 7, 8, 9, 10, 11, 12, 13, 14, 15, 16, 17, 18, 19, 20]) (isR := []) (As := [.int x1]) (rest := [.int x2]) ⟨hx, hb, hml, hown, hts⟩ (t_X0_size h) (cwV 1 hts gX5_function_X0_size rfl rfl rfl (by decide +kernel) ⟨Nat.le_of_ble_eq_true rfl, Nat.le_of_ble_eq_true rfl⟩) ⟨hK, hE, hA, hP, hD, hS, rfl, rfl, rfl, rfl, by decide⟩ ⟨2, 0, _, _, rfl, rfl, rfl⟩ rfl rfl hl.1 (Nat.le_of_ble_eq_true rfl) dX5_function_12 ⟨Nat.le_of_ble_eq_true rfl, Nat.le_of_ble_eq_true rfl⟩ (fun r2 S3 H locs h hP hD hS => ?_)
  obtain ⟨rfl, h⟩ := h
  have hP : va_P (dC, dI) vwCl (wC cyI cyJ cyZ a S) H := hP
  have hD : va_D A (wC cyI cyJ cyZ a S) := hD
  refine lv_icmp_ge (tgt := 30) hx hb dX5_function_15 (by decide) (fun c4 => ?_) (fun c4 => ?_)
  · have h := h.1 c4
    refine lv_iconst (v := -1) hx hb dX5_function_30 (by decide) ?_
    exact vx_ret (xr_i (S := S) hx hb hr hlocks hK hP hD hS ⟨rfl, h⟩ (Nat.le_of_ble_eq_true rfl) (Nat.le_of_ble_eq_true rfl) dX5_function_31)
  · have h := h.2 c4
    refine lv_aload_n hx hb dX5_function_18 rfl (lv_at hl 0 rfl) ?_
    refine va_get (D := (dC, dI)) (ci := 4) (v := .ref (a 2)) (C := RX5) (T := TX5) (N := 6) hx hb hts hiX5 hown hK hP 0 rfl rfl 1 (by decide) hf21 (fun _ h9 => h9) rfl dX5_function_19 ?_
    refine lv_iload_n hx hb dX5_function_22 rfl (lv_at hl 1 rfl) ?_
    refine lv_iload_n hx hb dX5_function_23 rfl (lv_at hl 2 rfl) ?_
    refine xc_Vi (wf := wC cyI cyJ cyZ a) (wr := []) (isC := [0, 1, 2, 3, 4, 5, 6, 7, 8, 9, 10, 11, 12, 13, 14, 15, 16, 17, 18, 19, 20]) (isR := []) (As := [.int x1, .int x2]) (rest := []) ⟨hx, hb, hml, hown, hts⟩ (t_X0_functionAt h) (cwV 2 hts gX5_function_X0_functionAt rfl rfl rfl (by decide +kernel) ⟨Nat.le_of_ble_eq_true rfl, Nat.le_of_ble_eq_true rfl⟩) ⟨hK, hE, hA, hP, hD, hS, rfl, rfl, rfl, rfl, by decide⟩ ⟨2, 0, _, _, rfl, rfl, rfl⟩ rfl rfl hl.1 (Nat.le_of_ble_eq_true rfl) dX5_function_24 ⟨Nat.le_of_ble_eq_true rfl, Nat.le_of_ble_eq_true rfl⟩ (fun r5 S6 H locs h hP hD hS => ?_)
    obtain ⟨rfl, h⟩ := h
    have hP : va_P (dC, dI) vwCl (wC cyI cyJ cyZ a S) H := hP
    have hD : va_D A (wC cyI cyJ cyZ a S) := hD
    refine lv_goto (tgt := 31) hx hb dX5_function_27 (by decide) ?_
    exact vx_ret (xr_i (S := S) hx hb hr hlocks hK hP hD hS ⟨rfl, h⟩ (Nat.le_of_ble_eq_true rfl) (Nat.le_of_ble_eq_true rfl) dX5_function_31)
def p_X5_arrival (S : CS) (x1 : Int32) (post : Int32 → CS → Prop) (px : String → CS → Prop) : Prop := p_X5_requireLiteral S x1 (p_X1_settle S (fun S2 => p_X1_timeOf S2 x1 (fun r3 => post r3 S2))) (fun E => px E S)
set_option maxHeartbeats 1000000 in
set_option maxRecDepth 100000 in
theorem t_X5_arrival {l : Launch} {dC : Nat → ClassId} {dI : Nat → Nat → Nat} {cyI cyJ cyZ : ClassId} {r : Nat → Nat} {a : Nat → Nat} {S : CS} {x1 : Int32} {post : Int32 → CS → Prop} {px : String → CS → Prop} (hl0 : l.stackTraces = false) (h : p_X5_arrival S x1 post px) : xXi l yX5_arrival wsX5_arrival { frames := 8, cells := 1, slots := 6, locals := 155 } (dC, dI) (tyA cyI cyJ cyZ) r (wC cyI cyJ cyZ a) [.ref (a 0), .int x1] S post px 1 6 := by
  intro sz
  refine vx_ofW (cc := cX5_arrival) (maxL := 2) (ret := (some .int)) (by decide) rfl ?_
  intro p e s m args below meth c s₁ B hml ht hv
  obtain ⟨rfl, G, hP, hD, hS⟩ := xG.of rfl B hml hv
  generalize hAe : va_A (wC cyI cyJ cyZ a S) sz = A at G hD hS ⊢
  have G : xG p s m _ meth c cX5_arrival 2 RX5 (some .int) wsX5_arrival (dC, dI) (tyA cyI cyJ cyZ) r A := G
  obtain ⟨hx, hb, hml, hown, hts, hr, hlocks, hK, hE, hA⟩ := id G
  have hiX5 : ∀ w ∈ wsX50, w ∈ wsX5_arrival := by decide +kernel
  have hf37 := hts (.fieldLink RX5 37 "CellMapping" "gates" "LCellMapping$Gates;") (by decide +kernel)
  have hl := lv_entry ([.ref (a 0), .int x1]) (n := 2) (Nat.le_of_ble_eq_true rfl)
  rw [lg_entry_eq]
  generalize (lg_sl ([.ref (a 0), .int x1]) ++ List.replicate (2 - (lg_sl ([.ref (a 0), .int x1])).length) Slot.unset).toArray = ls at hl ⊢
  have hl : lv_has ls 2 [(0, .ref (a 0)), (1, .int x1)] := hl
  show W p l e { frames := 8, cells := 1, slots := 6, locals := 155 } s m _ below meth c s.heap [] 0 0 _ _
  unfold p_X5_arrival at h
  refine lv_aload_n hx hb dX5_arrival_0 rfl (lv_at hl 0 rfl) ?_
  refine lv_iload_n hx hb dX5_arrival_1 rfl (lv_at hl 1 rfl) ?_
  refine xt_Vv (wf := wC cyI cyJ cyZ a) (wr := []) (isC := [0, 1, 2, 3, 4, 5, 6, 7, 8, 9, 10, 11, 12, 13, 14, 15, 16, 17, 18, 19, 20]) (isR := []) (As := [.int x1]) (rest := []) ⟨hx, hb, hml, hown, hts⟩ (t_X5_requireLiteral hl0 h) (cwV 1 hts gX5_arrival_X5_requireLiteral rfl rfl rfl (by decide +kernel) ⟨Nat.le_of_ble_eq_true rfl, Nat.le_of_ble_eq_true rfl⟩) ⟨hK, hE, hA, hP, hD, hS, rfl, rfl, rfl, rfl, by decide⟩ ⟨0, 4, _, _, rfl, rfl, rfl⟩ rfl rfl hl.1 (Nat.le_of_ble_eq_true rfl) dX5_arrival_2 ⟨Nat.le_of_ble_eq_true rfl, Nat.le_of_ble_eq_true rfl⟩ (fun E ce q S1 H locs h hP hD hS hce hcv hcl => ?_) (fun  S1 H locs h hP hD hS => ?_)
  · obtain ⟨rfl, h⟩ := h
    have hP : va_P (dC, dI) vwCl (wC cyI cyJ cyZ a S) H := hP
    have hD : va_D A (wC cyI cyJ cyZ a S) := hD
    exact xx_pass (S := S) ht hlocks hK hP hD hS h hce hcv hcl (Nat.le_of_ble_eq_true rfl) (Nat.le_of_ble_eq_true rfl)
  obtain ⟨rfl, h⟩ := h
  have hP : va_P (dC, dI) vwCl (wC cyI cyJ cyZ a S) H := hP
  have hD : va_D A (wC cyI cyJ cyZ a S) := hD
  refine lv_aload_n hx hb dX5_arrival_5 rfl (lv_at hl 0 rfl) ?_
  refine va_get (D := (dC, dI)) (ci := 4) (v := .ref (a 4)) (C := RX5) (T := TX5) (N := 6) hx hb hts hiX5 hown hK hP 0 rfl rfl 3 (by decide) hf37 (fun _ h9 => h9) rfl dX5_arrival_6 ?_
  refine xc_Vv (wf := wC cyI cyJ cyZ a) (wr := []) (isC := [0, 1, 2, 3, 4, 5, 6, 7, 8, 9, 10, 11, 12, 13, 14, 15, 16, 17, 18, 19, 20]) (isR := []) (As := []) (rest := []) ⟨hx, hb, hml, hown, hts⟩ (t_X1_settle h) (cwV 0 hts gX5_arrival_X1_settle rfl rfl rfl (by decide +kernel) ⟨Nat.le_of_ble_eq_true rfl, Nat.le_of_ble_eq_true rfl⟩) ⟨hK, hE, hA, hP, hD, hS, rfl, rfl, rfl, rfl, by decide⟩ ⟨4, 1, _, _, rfl, rfl, rfl⟩ rfl rfl hl.1 (Nat.le_of_ble_eq_true rfl) dX5_arrival_9 ⟨Nat.le_of_ble_eq_true rfl, Nat.le_of_ble_eq_true rfl⟩ (fun  S2 H locs h hP hD hS => ?_)
  have hP : va_P (dC, dI) vwCl (wC cyI cyJ cyZ a S2) H := hP
  have hD : va_D A (wC cyI cyJ cyZ a S2) := hD
  refine lv_aload_n hx hb dX5_arrival_12 rfl (lv_at hl 0 rfl) ?_
  refine va_get (D := (dC, dI)) (ci := 4) (v := .ref (a 4)) (C := RX5) (T := TX5) (N := 6) hx hb hts hiX5 hown hK hP 0 rfl rfl 3 (by decide) hf37 (fun _ h9 => h9) rfl dX5_arrival_13 ?_
  refine lv_iload_n hx hb dX5_arrival_16 rfl (lv_at hl 1 rfl) ?_
  refine xc_Vi (wf := wC cyI cyJ cyZ a) (wr := []) (isC := [0, 1, 2, 3, 4, 5, 6, 7, 8, 9, 10, 11, 12, 13, 14, 15, 16, 17, 18, 19, 20]) (isR := []) (As := [.int x1]) (rest := []) ⟨hx, hb, hml, hown, hts⟩ (t_X1_timeOf h) (cwV 1 hts gX5_arrival_X1_timeOf rfl rfl rfl (by decide +kernel) ⟨Nat.le_of_ble_eq_true rfl, Nat.le_of_ble_eq_true rfl⟩) ⟨hK, hE, hA, hP, hD, hS, rfl, rfl, rfl, rfl, by decide⟩ ⟨4, 1, _, _, rfl, rfl, rfl⟩ rfl rfl hl.1 (Nat.le_of_ble_eq_true rfl) dX5_arrival_17 ⟨Nat.le_of_ble_eq_true rfl, Nat.le_of_ble_eq_true rfl⟩ (fun r3 S4 H locs h hP hD hS => ?_)
  obtain ⟨rfl, h⟩ := h
  have hP : va_P (dC, dI) vwCl (wC cyI cyJ cyZ a S2) H := hP
  have hD : va_D A (wC cyI cyJ cyZ a S2) := hD
  exact vx_ret (xr_i (S := S2) hx hb hr hlocks hK hP hD hS h (Nat.le_of_ble_eq_true rfl) (Nat.le_of_ble_eq_true rfl) dX5_arrival_20)
def p_X5_gate (S : CS) (x1 : Int32) (x2 : Int32) (post : Int32 → CS → Prop) (px : String → CS → Prop) : Prop := p_X5_requireLiteral S x1 (p_X5_requireIndex S x2 (4 : Int32) (p_X1_settle S (fun S3 => p_X1_hasGate S3 x1 (fun r4 => (¬ r4 = 0 → (p_X1_cellOf S3 x1 (fun r7 => (¬ x2 = 0 → (vp_in r7 12 ∧ ((((cPI S3) r7.toNatClampNeg) < x2 → (post (-1 : Int32) S3)) ∧ (¬ ((cPI S3) r7.toNatClampNeg) < x2 → (p_X1_pinLiteral S3 x1 (x2 - (1 : Int32)) (fun r12 => post r12 S3)))))) ∧ (x2 = 0 → (post r7 S3))))) ∧ (r4 = 0 → (post (-1 : Int32) S3))))) (fun E => px E S)) (fun E => px E S)
set_option maxHeartbeats 1000000 in
set_option maxRecDepth 100000 in
theorem t_X5_gate {l : Launch} {dC : Nat → ClassId} {dI : Nat → Nat → Nat} {cyI cyJ cyZ : ClassId} {r : Nat → Nat} {a : Nat → Nat} {S : CS} {x1 : Int32} {x2 : Int32} {post : Int32 → CS → Prop} {px : String → CS → Prop} (hl0 : l.stackTraces = false) (h : p_X5_gate S x1 x2 post px) : xXi l yX5_gate wsX5_gate { frames := 8, cells := 2, slots := 12, locals := 155 } (dC, dI) (tyA cyI cyJ cyZ) r (wC cyI cyJ cyZ a) [.ref (a 0), .int x1, .int x2] S post px 2 12 := by
  intro sz
  refine vx_ofW (cc := cX5_gate) (maxL := 4) (ret := (some .int)) (by decide) rfl ?_
  intro p e s m args below meth c s₁ B hml ht hv
  obtain ⟨rfl, G, hP, hD, hS⟩ := xG.of rfl B hml hv
  generalize hAe : va_A (wC cyI cyJ cyZ a S) sz = A at G hD hS ⊢
  have G : xG p s m _ meth c cX5_gate 4 RX5 (some .int) wsX5_gate (dC, dI) (tyA cyI cyJ cyZ) r A := G
  obtain ⟨hx, hb, hml, hown, hts, hr, hlocks, hK, hE, hA⟩ := id G
  have hiX5 : ∀ w ∈ wsX50, w ∈ wsX5_gate := by decide +kernel
  have hf37 := hts (.fieldLink RX5 37 "CellMapping" "gates" "LCellMapping$Gates;") (by decide +kernel)
  have hf28 := hts (.fieldLink RX5 28 "CellMapping" "shelf" "LCellMapping$Shelf;") (by decide +kernel)
  have hiX3 : ∀ w ∈ wsX30, w ∈ wsX5_gate := by decide +kernel
  have hf97 := hts (.fieldLink RX5 97 "CellMapping$Shelf" "pins" "[I") (by decide +kernel)
  have hl := lv_entry ([.ref (a 0), .int x1, .int x2]) (n := 4) (Nat.le_of_ble_eq_true rfl)
  rw [lg_entry_eq]
  generalize (lg_sl ([.ref (a 0), .int x1, .int x2]) ++ List.replicate (4 - (lg_sl ([.ref (a 0), .int x1, .int x2])).length) Slot.unset).toArray = ls at hl ⊢
  have hl : lv_has ls 4 [(0, .ref (a 0)), (1, .int x1), (2, .int x2)] := hl
  show W p l e { frames := 8, cells := 2, slots := 12, locals := 155 } s m _ below meth c s.heap [] 0 0 _ _
  unfold p_X5_gate at h
  refine lv_aload_n hx hb dX5_gate_0 rfl (lv_at hl 0 rfl) ?_
  refine lv_iload_n hx hb dX5_gate_1 rfl (lv_at hl 1 rfl) ?_
  refine xt_Vv (wf := wC cyI cyJ cyZ a) (wr := []) (isC := [0, 1, 2, 3, 4, 5, 6, 7, 8, 9, 10, 11, 12, 13, 14, 15, 16, 17, 18, 19, 20]) (isR := []) (As := [.int x1]) (rest := []) ⟨hx, hb, hml, hown, hts⟩ (t_X5_requireLiteral hl0 h) (cwV 1 hts gX5_gate_X5_requireLiteral rfl rfl rfl (by decide +kernel) ⟨Nat.le_of_ble_eq_true rfl, Nat.le_of_ble_eq_true rfl⟩) ⟨hK, hE, hA, hP, hD, hS, rfl, rfl, rfl, rfl, by decide⟩ ⟨0, 4, _, _, rfl, rfl, rfl⟩ rfl rfl hl.1 (Nat.le_of_ble_eq_true rfl) dX5_gate_2 ⟨Nat.le_of_ble_eq_true rfl, Nat.le_of_ble_eq_true rfl⟩ (fun E ce q S1 H locs h hP hD hS hce hcv hcl => ?_) (fun  S1 H locs h hP hD hS => ?_)
  · obtain ⟨rfl, h⟩ := h
    have hP : va_P (dC, dI) vwCl (wC cyI cyJ cyZ a S) H := hP
    have hD : va_D A (wC cyI cyJ cyZ a S) := hD
    exact xx_pass (S := S) ht hlocks hK hP hD hS h hce hcv hcl (Nat.le_of_ble_eq_true rfl) (Nat.le_of_ble_eq_true rfl)
  obtain ⟨rfl, h⟩ := h
  have hP : va_P (dC, dI) vwCl (wC cyI cyJ cyZ a S) H := hP
  have hD : va_D A (wC cyI cyJ cyZ a S) := hD
  refine lv_iload_n hx hb dX5_gate_5 rfl (lv_at hl 2 rfl) ?_
  refine lv_iconst (v := 4) hx hb dX5_gate_6 (by decide) ?_
  refine xt_Sv (wf := wC cyI cyJ cyZ a) (wr := []) (isC := [0, 1, 2, 3, 4, 5, 6, 7, 8, 9, 10, 11, 12, 13, 14, 15, 16, 17, 18, 19, 20]) (isR := []) (As := [.int x2, .int (4 : Int32)]) (rest := []) ⟨hx, hb, hml, hown, hts⟩ (t_X5_requireIndex hl0 h) (va_cwS 2 hts gX5_gate_X5_requireIndex rfl rfl rfl (by decide +kernel) ⟨Nat.le_of_ble_eq_true rfl, Nat.le_of_ble_eq_true rfl⟩) ⟨hK, hE, hA, hP, hD, hS, rfl, rfl, rfl, rfl, by decide⟩ rfl rfl hl.1 (Nat.le_of_ble_eq_true rfl) dX5_gate_7 ⟨Nat.le_of_ble_eq_true rfl, Nat.le_of_ble_eq_true rfl⟩ (fun E ce q S2 H locs h hP hD hS hce hcv hcl => ?_) (fun  S2 H locs h hP hD hS => ?_)
  · obtain ⟨rfl, h⟩ := h
    have hP : va_P (dC, dI) vwCl (wC cyI cyJ cyZ a S) H := hP
    have hD : va_D A (wC cyI cyJ cyZ a S) := hD
    exact xx_pass (S := S) ht hlocks hK hP hD hS h hce hcv hcl (Nat.le_of_ble_eq_true rfl) (Nat.le_of_ble_eq_true rfl)
  obtain ⟨rfl, h⟩ := h
  have hP : va_P (dC, dI) vwCl (wC cyI cyJ cyZ a S) H := hP
  have hD : va_D A (wC cyI cyJ cyZ a S) := hD
  refine lv_aload_n hx hb dX5_gate_10 rfl (lv_at hl 0 rfl) ?_
  refine va_get (D := (dC, dI)) (ci := 4) (v := .ref (a 4)) (C := RX5) (T := TX5) (N := 6) hx hb hts hiX5 hown hK hP 0 rfl rfl 3 (by decide) hf37 (fun _ h9 => h9) rfl dX5_gate_11 ?_
  refine xc_Vv (wf := wC cyI cyJ cyZ a) (wr := []) (isC := [0, 1, 2, 3, 4, 5, 6, 7, 8, 9, 10, 11, 12, 13, 14, 15, 16, 17, 18, 19, 20]) (isR := []) (As := []) (rest := []) ⟨hx, hb, hml, hown, hts⟩ (t_X1_settle h) (cwV 0 hts gX5_gate_X1_settle rfl rfl rfl (by decide +kernel) ⟨Nat.le_of_ble_eq_true rfl, Nat.le_of_ble_eq_true rfl⟩) ⟨hK, hE, hA, hP, hD, hS, rfl, rfl, rfl, rfl, by decide⟩ ⟨4, 1, _, _, rfl, rfl, rfl⟩ rfl rfl hl.1 (Nat.le_of_ble_eq_true rfl) dX5_gate_14 ⟨Nat.le_of_ble_eq_true rfl, Nat.le_of_ble_eq_true rfl⟩ (fun  S3 H locs h hP hD hS => ?_)
  have hP : va_P (dC, dI) vwCl (wC cyI cyJ cyZ a S3) H := hP
  have hD : va_D A (wC cyI cyJ cyZ a S3) := hD
  refine lv_aload_n hx hb dX5_gate_17 rfl (lv_at hl 0 rfl) ?_
  refine va_get (D := (dC, dI)) (ci := 4) (v := .ref (a 4)) (C := RX5) (T := TX5) (N := 6) hx hb hts hiX5 hown hK hP 0 rfl rfl 3 (by decide) hf37 (fun _ h9 => h9) rfl dX5_gate_18 ?_
  refine lv_iload_n hx hb dX5_gate_21 rfl (lv_at hl 1 rfl) ?_
  refine xc_Vi (wf := wC cyI cyJ cyZ a) (wr := []) (isC := [0, 1, 2, 3, 4, 5, 6, 7, 8, 9, 10, 11, 12, 13, 14, 15, 16, 17, 18, 19, 20]) (isR := []) (As := [.int x1]) (rest := []) ⟨hx, hb, hml, hown, hts⟩ (t_X1_hasGate h) (cwV 1 hts gX5_gate_X1_hasGate rfl rfl rfl (by decide +kernel) ⟨Nat.le_of_ble_eq_true rfl, Nat.le_of_ble_eq_true rfl⟩) ⟨hK, hE, hA, hP, hD, hS, rfl, rfl, rfl, rfl, by decide⟩ ⟨4, 1, _, _, rfl, rfl, rfl⟩ rfl rfl hl.1 (Nat.le_of_ble_eq_true rfl) dX5_gate_22 ⟨Nat.le_of_ble_eq_true rfl, Nat.le_of_ble_eq_true rfl⟩ (fun r4 S5 H locs h hP hD hS => ?_)
  obtain ⟨rfl, h⟩ := h
  have hP : va_P (dC, dI) vwCl (wC cyI cyJ cyZ a S3) H := hP
  have hD : va_D A (wC cyI cyJ cyZ a S3) := hD
  refine lv_if_ne (tgt := 30) hx hb dX5_gate_25 (by decide) (fun c6 => ?_) (fun c6 => ?_)
  · have h := h.1 c6
    refine lv_aload_n hx hb dX5_gate_30 rfl (lv_at hl 0 rfl) ?_
    refine va_get (D := (dC, dI)) (ci := 4) (v := .ref (a 4)) (C := RX5) (T := TX5) (N := 6) hx hb hts hiX5 hown hK hP 0 rfl rfl 3 (by decide) hf37 (fun _ h9 => h9) rfl dX5_gate_31 ?_
    refine lv_iload_n hx hb dX5_gate_34 rfl (lv_at hl 1 rfl) ?_
    refine xc_Vi (wf := wC cyI cyJ cyZ a) (wr := []) (isC := [0, 1, 2, 3, 4, 5, 6, 7, 8, 9, 10, 11, 12, 13, 14, 15, 16, 17, 18, 19, 20]) (isR := []) (As := [.int x1]) (rest := []) ⟨hx, hb, hml, hown, hts⟩ (t_X1_cellOf h) (cwV 1 hts gX5_gate_X1_cellOf rfl rfl rfl (by decide +kernel) ⟨Nat.le_of_ble_eq_true rfl, Nat.le_of_ble_eq_true rfl⟩) ⟨hK, hE, hA, hP, hD, hS, rfl, rfl, rfl, rfl, by decide⟩ ⟨4, 1, _, _, rfl, rfl, rfl⟩ rfl rfl hl.1 (Nat.le_of_ble_eq_true rfl) dX5_gate_35 ⟨Nat.le_of_ble_eq_true rfl, Nat.le_of_ble_eq_true rfl⟩ (fun r7 S8 H locs h hP hD hS => ?_)
    obtain ⟨rfl, h⟩ := h
    have hP : va_P (dC, dI) vwCl (wC cyI cyJ cyZ a S3) H := hP
    have hD : va_D A (wC cyI cyJ cyZ a S3) := hD
    refine lv_istore_n (lv' := [(3, .int r7), (0, .ref (a 0)), (1, .int x1), (2, .int x2)]) hx hb dX5_gate_38 rfl hl (by decide) rfl (fun ls hl => ?_)
    refine lv_iload_n hx hb dX5_gate_39 rfl (lv_at hl 3 rfl) ?_
    refine lv_if_ne (tgt := 45) hx hb dX5_gate_40 (by decide) (fun c9 => ?_) (fun c9 => ?_)
    · have h := h.1 c9
      refine lv_iload_n hx hb dX5_gate_45 rfl (lv_at hl 3 rfl) ?_
      refine lv_aload_n hx hb dX5_gate_46 rfl (lv_at hl 1 rfl) ?_
      refine va_get (D := (dC, dI)) (ci := 4) (v := .ref (a 3)) (C := RX5) (T := TX5) (N := 6) hx hb hts hiX5 hown hK hP 0 rfl rfl 2 (by decide) hf28 (fun _ h9 => h9) rfl dX5_gate_47 ?_
      refine va_get (D := (dC, dI)) (ci := 3) (v := .ref (a 12)) (C := RX3) (T := TX3) (N := 6) hx hb hts hiX3 hown hK hP 3 rfl rfl 0 (by decide) hf97 (fun _ h9 => h9) rfl dX5_gate_50 ?_
      refine lv_iload_n hx hb dX5_gate_53 rfl (lv_at hl 0 rfl) ?_
      obtain ⟨i10, h⟩ := h
      refine va_iald (D := (dC, dI)) hx hb hK hP 12 0 rfl rfl i10 dX5_gate_54 ?_
      refine lv_icmp_gt (tgt := 72) hx hb dX5_gate_55 (by decide) (fun c11 => ?_) (fun c11 => ?_)
      · have h := h.1 c11
        refine lv_iconst (v := -1) hx hb dX5_gate_72 (by decide) ?_
        exact vx_ret (xr_i (S := S3) hx hb hr hlocks hK hP hD hS h (Nat.le_of_ble_eq_true rfl) (Nat.le_of_ble_eq_true rfl) dX5_gate_73)
      · have h := h.2 c11
        refine lv_aload_n hx hb dX5_gate_58 rfl (lv_at hl 1 rfl) ?_
        refine va_get (D := (dC, dI)) (ci := 4) (v := .ref (a 4)) (C := RX5) (T := TX5) (N := 6) hx hb hts hiX5 hown hK hP 0 rfl rfl 3 (by decide) hf37 (fun _ h9 => h9) rfl dX5_gate_59 ?_
        refine lv_iload_n hx hb dX5_gate_62 rfl (lv_at hl 2 rfl) ?_
        refine lv_iload_n hx hb dX5_gate_63 rfl (lv_at hl 3 rfl) ?_
        refine lv_iconst (v := 1) hx hb dX5_gate_64 (by decide) ?_
        refine lv_isub hx hb dX5_gate_65 ?_
        refine xc_Vi (wf := wC cyI cyJ cyZ a) (wr := []) (isC := [0, 1, 2, 3, 4, 5, 6, 7, 8, 9, 10, 11, 12, 13, 14, 15, 16, 17, 18, 19, 20]) (isR := []) (As := [.int x1, .int (x2 - (1 : Int32))]) (rest := []) ⟨hx, hb, hml, hown, hts⟩ (t_X1_pinLiteral h) (cwV 2 hts gX5_gate_X1_pinLiteral rfl rfl rfl (by decide +kernel) ⟨Nat.le_of_ble_eq_true rfl, Nat.le_of_ble_eq_true rfl⟩) ⟨hK, hE, hA, hP, hD, hS, rfl, rfl, rfl, rfl, by decide⟩ ⟨4, 1, _, _, rfl, rfl, rfl⟩ rfl rfl hl.1 (Nat.le_of_ble_eq_true rfl) dX5_gate_66 ⟨Nat.le_of_ble_eq_true rfl, Nat.le_of_ble_eq_true rfl⟩ (fun r12 S13 H locs h hP hD hS => ?_)
        obtain ⟨rfl, h⟩ := h
        have hP : va_P (dC, dI) vwCl (wC cyI cyJ cyZ a S3) H := hP
        have hD : va_D A (wC cyI cyJ cyZ a S3) := hD
        refine lv_goto (tgt := 73) hx hb dX5_gate_69 (by decide) ?_
        exact vx_ret (xr_i (S := S3) hx hb hr hlocks hK hP hD hS h (Nat.le_of_ble_eq_true rfl) (Nat.le_of_ble_eq_true rfl) dX5_gate_73)
    · have h := h.2 c9
      refine lv_iload_n hx hb dX5_gate_43 rfl (lv_at hl 0 rfl) ?_
      exact vx_ret (xr_i (S := S3) hx hb hr hlocks hK hP hD hS h (Nat.le_of_ble_eq_true rfl) (Nat.le_of_ble_eq_true rfl) dX5_gate_44)
  · have h := h.2 c6
    refine lv_iconst (v := -1) hx hb dX5_gate_28 (by decide) ?_
    exact vx_ret (xr_i (S := S3) hx hb hr hlocks hK hP hD hS h (Nat.le_of_ble_eq_true rfl) (Nat.le_of_ble_eq_true rfl) dX5_gate_29)
def p_X5_run (S : CS) (post : Int32 → CS → Prop) : Prop := p_X1_settle S (fun S1 => p_X5_firstOutputNotArriving S1 (fun r2 => (¬ r2 = (-1 : Int32) → (post ((-1 : Int32) - r2) S1)) ∧ (r2 = (-1 : Int32) → (p_X5_wantedLiterals S1 (fun r5 => p_J13_bitCount_95d88 S1 r5 (fun r7 => post r7 S1))))))
set_option maxHeartbeats 1000000 in
set_option maxRecDepth 100000 in
theorem t_X5_run {l : Launch} {dC : Nat → ClassId} {dI : Nat → Nat → Nat} {cyI cyJ cyZ : ClassId} {r : Nat → Nat} {a : Nat → Nat} {S : CS} {post : Int32 → CS → Prop} (h : p_X5_run S post) : xMi l yX5_run wsX5_run { frames := 6, cells := 0, slots := 0, locals := 155 } (dC, dI) (tyA cyI cyJ cyZ) r (wC cyI cyJ cyZ a) [.ref (a 0)] S post 0 0 := by
  intro sz
  refine Met.ofW (cc := cX5_run) (maxL := 2) (ret := (some .int)) (by decide) rfl ?_
  intro p e s m args below meth c s₁ B hml hv
  obtain ⟨rfl, G, hP, hD, hS⟩ := xG.of rfl B hml hv
  generalize hAe : va_A (wC cyI cyJ cyZ a S) sz = A at G hD hS ⊢
  have G : xG p s m _ meth c cX5_run 2 RX5 (some .int) wsX5_run (dC, dI) (tyA cyI cyJ cyZ) r A := G
  obtain ⟨hx, hb, hml, hown, hts, hr, hlocks, hK, hE, hA⟩ := id G
  have hiX5 : ∀ w ∈ wsX50, w ∈ wsX5_run := by decide +kernel
  have hf37 := hts (.fieldLink RX5 37 "CellMapping" "gates" "LCellMapping$Gates;") (by decide +kernel)
  have hl := lv_entry ([.ref (a 0)]) (n := 2) (Nat.le_of_ble_eq_true rfl)
  rw [lg_entry_eq]
  generalize (lg_sl ([.ref (a 0)]) ++ List.replicate (2 - (lg_sl ([.ref (a 0)])).length) Slot.unset).toArray = ls at hl ⊢
  have hl : lv_has ls 2 [(0, .ref (a 0))] := hl
  show W p l e { frames := 6, cells := 0, slots := 0, locals := 155 } s m _ below meth c s.heap [] 0 0 _ _
  unfold p_X5_run at h
  refine lv_aload_n hx hb dX5_run_0 rfl (lv_at hl 0 rfl) ?_
  refine va_get (D := (dC, dI)) (ci := 4) (v := .ref (a 4)) (C := RX5) (T := TX5) (N := 6) hx hb hts hiX5 hown hK hP 0 rfl rfl 3 (by decide) hf37 (fun _ h9 => h9) rfl dX5_run_1 ?_
  refine xc_Vv (wf := wC cyI cyJ cyZ a) (wr := []) (isC := [0, 1, 2, 3, 4, 5, 6, 7, 8, 9, 10, 11, 12, 13, 14, 15, 16, 17, 18, 19, 20]) (isR := []) (As := []) (rest := []) ⟨hx, hb, hml, hown, hts⟩ (t_X1_settle h) (cwV 0 hts gX5_run_X1_settle rfl rfl rfl (by decide +kernel) ⟨Nat.le_of_ble_eq_true rfl, Nat.le_of_ble_eq_true rfl⟩) ⟨hK, hE, hA, hP, hD, hS, rfl, rfl, rfl, rfl, by decide⟩ ⟨4, 1, _, _, rfl, rfl, rfl⟩ rfl rfl hl.1 (Nat.le_of_ble_eq_true rfl) dX5_run_4 ⟨Nat.le_of_ble_eq_true rfl, Nat.le_of_ble_eq_true rfl⟩ (fun  S1 H locs h hP hD hS => ?_)
  have hP : va_P (dC, dI) vwCl (wC cyI cyJ cyZ a S1) H := hP
  have hD : va_D A (wC cyI cyJ cyZ a S1) := hD
  refine lv_aload_n hx hb dX5_run_7 rfl (lv_at hl 0 rfl) ?_
  refine xc_Vi (wf := wC cyI cyJ cyZ a) (wr := []) (isC := [0, 1, 2, 3, 4, 5, 6, 7, 8, 9, 10, 11, 12, 13, 14, 15, 16, 17, 18, 19, 20]) (isR := []) (As := []) (rest := []) ⟨hx, hb, hml, hown, hts⟩ (t_X5_firstOutputNotArriving h) (cwV 0 hts gX5_run_X5_firstOutputNotArriving rfl rfl rfl (by decide +kernel) ⟨Nat.le_of_ble_eq_true rfl, Nat.le_of_ble_eq_true rfl⟩) ⟨hK, hE, hA, hP, hD, hS, rfl, rfl, rfl, rfl, by decide⟩ ⟨0, 4, _, _, rfl, rfl, rfl⟩ rfl rfl hl.1 (Nat.le_of_ble_eq_true rfl) dX5_run_8 ⟨Nat.le_of_ble_eq_true rfl, Nat.le_of_ble_eq_true rfl⟩ (fun r2 S3 H locs h hP hD hS => ?_)
  obtain ⟨rfl, h⟩ := h
  have hP : va_P (dC, dI) vwCl (wC cyI cyJ cyZ a S1) H := hP
  have hD : va_D A (wC cyI cyJ cyZ a S1) := hD
  refine lv_istore_n (lv' := [(1, .int r2), (0, .ref (a 0))]) hx hb dX5_run_11 rfl hl (by decide) rfl (fun ls hl => ?_)
  refine lv_iload_n hx hb dX5_run_12 rfl (lv_at hl 0 rfl) ?_
  refine lv_iconst (v := -1) hx hb dX5_run_13 (by decide) ?_
  refine lv_icmp_ne (tgt := 27) hx hb dX5_run_14 (by decide) (fun c4 => ?_) (fun c4 => ?_)
  · have h := h.1 c4
    refine lv_iconst (v := -1) hx hb dX5_run_27 (by decide) ?_
    refine lv_iload_n hx hb dX5_run_28 rfl (lv_at hl 0 rfl) ?_
    refine lv_isub hx hb dX5_run_29 ?_
    exact xr_i (S := S1) hx hb hr hlocks hK hP hD hS h (Nat.le_of_ble_eq_true rfl) (Nat.le_of_ble_eq_true rfl) dX5_run_30
  · have h := h.2 c4
    refine lv_aload_n hx hb dX5_run_17 rfl (lv_at hl 1 rfl) ?_
    refine xc_Vl (wf := wC cyI cyJ cyZ a) (wr := []) (isC := [0, 1, 2, 3, 4, 5, 6, 7, 8, 9, 10, 11, 12, 13, 14, 15, 16, 17, 18, 19, 20]) (isR := []) (As := []) (rest := []) ⟨hx, hb, hml, hown, hts⟩ (t_X5_wantedLiterals h) (cwV 0 hts gX5_run_X5_wantedLiterals rfl rfl rfl (by decide +kernel) ⟨Nat.le_of_ble_eq_true rfl, Nat.le_of_ble_eq_true rfl⟩) ⟨hK, hE, hA, hP, hD, hS, rfl, rfl, rfl, rfl, by decide⟩ ⟨0, 4, _, _, rfl, rfl, rfl⟩ rfl rfl hl.1 (Nat.le_of_ble_eq_true rfl) dX5_run_18 ⟨Nat.le_of_ble_eq_true rfl, Nat.le_of_ble_eq_true rfl⟩ (fun r5 S6 H locs h hP hD hS => ?_)
    obtain ⟨rfl, h⟩ := h
    have hP : va_P (dC, dI) vwCl (wC cyI cyJ cyZ a S1) H := hP
    have hD : va_D A (wC cyI cyJ cyZ a S1) := hD
    refine xc_Si (wf := wC cyI cyJ cyZ a) (wr := []) (isC := [0, 1, 2, 3, 4, 5, 6, 7, 8, 9, 10, 11, 12, 13, 14, 15, 16, 17, 18, 19, 20]) (isR := []) (As := [.long r5]) (rest := []) ⟨hx, hb, hml, hown, hts⟩ (t_J13_bitCount_95d88 h) (va_cwS 1 hts gX5_run_J13_bitCount_95d88 rfl rfl rfl (by decide +kernel) ⟨Nat.le_of_ble_eq_true rfl, Nat.le_of_ble_eq_true rfl⟩) ⟨hK, hE, hA, hP, hD, hS, rfl, rfl, rfl, rfl, by decide⟩ rfl rfl hl.1 (Nat.le_of_ble_eq_true rfl) dX5_run_21 ⟨Nat.le_of_ble_eq_true rfl, Nat.le_of_ble_eq_true rfl⟩ (fun r7 S8 H locs h hP hD hS => ?_)
    obtain ⟨rfl, h⟩ := h
    have hP : va_P (dC, dI) vwCl (wC cyI cyJ cyZ a S1) H := hP
    have hD : va_D A (wC cyI cyJ cyZ a S1) := hD
    refine lv_goto (tgt := 30) hx hb dX5_run_24 (by decide) ?_
    exact xr_i (S := S1) hx hb hr hlocks hK hP hD hS h (Nat.le_of_ble_eq_true rfl) (Nat.le_of_ble_eq_true rfl) dX5_run_30
def b_X5_wanted_30 (S : CS) (x1 : Int32) (x2 : Int64) (post : Int32 → CS → Prop) (px : String → CS → Prop) (g30 : Int32 → Int32 → Prop) (x4 : Int32) (x5 : Int32) : Prop := (((2 : Int32) * (cNC S)) ≤ x5 → (post (-1 : Int32) S)) ∧ (¬ ((2 : Int32) * (cNC S)) ≤ x5 → ((¬ (lg_cmp ((lushr x2 x5) &&& (1 : Int64)) (1 : Int64)) = 0 → (∀ y7 : Int32, y7 = (x5 + (1 : Int32)) → (g30 x4 y7))) ∧ ((lg_cmp ((lushr x2 x5) &&& (1 : Int64)) (1 : Int64)) = 0 → ((¬ x4 = x1 → (∀ y9 : Int32, y9 = (x4 + (1 : Int32)) → (∀ y10 : Int32, y10 = (x5 + (1 : Int32)) → (g30 y9 y10)))) ∧ (x4 = x1 → (post x5 S))))))
def p_X5_wanted_30 (S : CS) (x1 : Int32) (x2 : Int64) (x4 : Int32) (x5 : Int32) (post : Int32 → CS → Prop) (px : String → CS → Prop) : Prop := ∃ (I : Int32 → Int32 → Prop) (mu : Int32 → Int32 → Nat), I x4 x5 ∧ ∀ (x4 : Int32) (x5 : Int32), I x4 x5 → b_X5_wanted_30 S x1 x2 post px (fun x4' x5' => I x4' x5' ∧ mu x4' x5' < mu x4 x5) x4 x5
set_option maxHeartbeats 1000000 in
set_option maxRecDepth 100000 in
theorem t_X5_wanted_30 {p : Program} {l : Launch} {e : Env} {s : State} {m : MethodId} {args : Array Value} {below : List Frame} {meth : Method} {c : Code} {dC : Nat → ClassId} {dI : Nat → Nat → Nat} {cyI cyJ cyZ : ClassId} {r : Nat → Nat} {a : Nat → Nat} {A : Nat → Prop} {S : CS} {x1 : Int32} {x2 : Int64} {x4 : Int32} {x5 : Int32} {post : Int32 → CS → Prop} {px : String → CS → Prop} (G : xG p s m args meth c cX5_wanted 6 RX5 (some .int) wsX5_wanted (dC, dI) (tyA cyI cyJ cyZ) r A) (hl0 : l.stackTraces = false) (ht : ∀ x ∈ c.exceptionTable.toList, False) (h : p_X5_wanted_30 S x1 x2 x4 x5 post px) {H : Heap} {locs : List Loc} {ls : Array Slot} (hP : va_P (dC, dI) vwCl (wC cyI cyJ cyZ a S) H) (hD : va_D A (wC cyI cyJ cyZ a S)) (hS : va_S A s.heap H locs) (hl : lv_has ls 6 [(0, .ref (a 0)), (1, .int x1), (2, .long x2), (4, .int x4), (5, .int x5)]) : W p l e { frames := 6, cells := 1, slots := 6, locals := 155 } s m args below meth c H locs 0 0 (vx_MQ below (va_Qi post (xAt (dC, dI) (tyA cyI cyJ cyZ) (wC cyI cyJ cyZ a) A) A) (vx_X (fun _ : CS => True) (xAtX (dC, dI) (tyA cyI cyJ cyZ) (wC cyI cyJ cyZ a) A px) A) args s 1 6 A) (F0 m 30 ls []) := by
  obtain ⟨hx, hb, hml, hown, hts, hr, hlocks, hK, hE, hA⟩ := id G
  have hiX5 : ∀ w ∈ wsX50, w ∈ wsX5_wanted := by decide +kernel
  have hf10 := hts (.fieldLink RX5 10 "CellMapping" "graph" "LCellMapping$Graph;") (by decide +kernel)
  have hiX2 : ∀ w ∈ wsX20, w ∈ wsX5_wanted := by decide +kernel
  have hf66 := hts (.fieldLink RX5 66 "CellMapping$Graph" "nodeCount" "I") (by decide +kernel)
  obtain ⟨I, mu, h0, hstep⟩ := h
  suffices hgo : ∀ (n : Nat) (x4 : Int32) (x5 : Int32), I x4 x5 → mu x4 x5 < n → ∀ (H : Heap) (locs : List Loc) (ls : Array Slot), va_P (dC, dI) vwCl (wC cyI cyJ cyZ a S) H → va_D A (wC cyI cyJ cyZ a S) → va_S A s.heap H locs → lv_has ls 6 [(0, .ref (a 0)), (1, .int x1), (2, .long x2), (4, .int x4), (5, .int x5)] → W p l e { frames := 6, cells := 1, slots := 6, locals := 155 } s m args below meth c H locs 0 0 (vx_MQ below (va_Qi post (xAt (dC, dI) (tyA cyI cyJ cyZ) (wC cyI cyJ cyZ a) A) A) (vx_X (fun _ : CS => True) (xAtX (dC, dI) (tyA cyI cyJ cyZ) (wC cyI cyJ cyZ a) A px) A) args s 1 6 A) (F0 m 30 ls []) from hgo (mu x4 x5 + 1) x4 x5 h0 (Nat.lt_succ_self _) H locs ls hP hD hS hl
  clear h0 hP hD hS hl
  intro n
  induction n with
  | zero => intro x4 x5 _ h; exact absurd h (Nat.not_lt_zero _)
  | succ n ih =>
    intro x4 x5 hI hmu H locs ls hP hD hS hl
    have h := hstep x4 x5 hI
    unfold b_X5_wanted_30 at h
    have k30 : ∀ (x4' : Int32) (x5' : Int32) (H : Heap) (locs : List Loc) (ls : Array Slot), (fun x4' x5' => I x4' x5' ∧ mu x4' x5' < mu x4 x5) x4' x5' → va_P (dC, dI) vwCl (wC cyI cyJ cyZ a S) H → va_D A (wC cyI cyJ cyZ a S) → va_S A s.heap H locs → lv_has ls 6 [(0, .ref (a 0)), (1, .int x1), (2, .long x2), (4, .int x4'), (5, .int x5')] → W p l e { frames := 6, cells := 1, slots := 6, locals := 155 } s m args below meth c H locs 0 0 (vx_MQ below (va_Qi post (xAt (dC, dI) (tyA cyI cyJ cyZ) (wC cyI cyJ cyZ a) A) A) (vx_X (fun _ : CS => True) (xAtX (dC, dI) (tyA cyI cyJ cyZ) (wC cyI cyJ cyZ a) A px) A) args s 1 6 A) (F0 m 30 ls []) := fun x4' x5' H locs ls hh hP hD hS hl => ih x4' x5' hh.1 (Nat.lt_of_lt_of_le hh.2 (Nat.le_of_lt_succ hmu)) H locs ls hP hD hS hl
    generalize (fun x4' x5' => I x4' x5' ∧ mu x4' x5' < mu x4 x5) = g30 at h k30
    refine lv_iload hx hb dX5_wanted_30 (lv_at hl 4 rfl) ?_
    refine lv_iconst (v := 2) hx hb dX5_wanted_32 (by decide) ?_
    refine lv_aload_n hx hb dX5_wanted_33 rfl (lv_at hl 0 rfl) ?_
    refine va_get (D := (dC, dI)) (ci := 4) (v := .ref (a 1)) (C := RX5) (T := TX5) (N := 6) hx hb hts hiX5 hown hK hP 0 rfl rfl 0 (by decide) hf10 (fun _ h9 => h9) rfl dX5_wanted_34 ?_
    refine va_get (D := (dC, dI)) (ci := 2) (v := .int (cNC S)) (C := RX2) (T := TX2) (N := 6) hx hb hts hiX2 hown hK hP 1 rfl rfl 4 (by decide) hf66 (fun _ h9 => h9) rfl dX5_wanted_37 ?_
    refine lv_imul hx hb dX5_wanted_40 ?_
    refine lv_icmp_ge (tgt := 73) hx hb dX5_wanted_41 (by decide) (fun c5 => ?_) (fun c5 => ?_)
    · have h := h.1 c5
      refine lv_iconst (v := -1) hx hb dX5_wanted_73 (by decide) ?_
      exact vx_ret (xr_i (S := S) hx hb hr hlocks hK hP hD hS h (Nat.le_of_ble_eq_true rfl) (Nat.le_of_ble_eq_true rfl) dX5_wanted_74)
    · have h := h.2 c5
      refine lv_lload_n hx hb dX5_wanted_44 rfl (lv_at hl 2 rfl) ?_
      refine lv_iload hx hb dX5_wanted_45 (lv_at hl 4 rfl) ?_
      refine lv_lushr (v := (lushr x2 x5)) hx hb dX5_wanted_47 rfl ?_
      refine lv_lconst (v := 1) hx hb dX5_wanted_48 (by decide) ?_
      refine lv_land hx hb dX5_wanted_49 ?_
      refine lv_lconst (v := 1) hx hb dX5_wanted_50 (by decide) ?_
      refine W.lcmp hx hb dX5_wanted_51 ?_
      refine lv_if_ne (tgt := 67) hx hb dX5_wanted_52 (by decide) (fun c6 => ?_) (fun c6 => ?_)
      · have h := h.1 c6
        obtain ⟨y7, ey7⟩ : ∃ z : Int32, z = (x5 + (1 : Int32)) := ⟨_, rfl⟩
        have h := h y7 ey7
        refine lv_iinc (v := y7) (lv' := [(5, .int y7), (0, .ref (a 0)), (1, .int x1), (2, .long x2), (4, .int x4)]) hx hb dX5_wanted_67 hl (k := 4) rfl (by rw [ey7]; rfl) (by decide) rfl (fun ls hl => ?_)
        refine lv_goto (tgt := 30) hx hb dX5_wanted_70 (by decide) ?_
        exact k30 x4 y7 H locs ls h hP hD hS (lv_sub hl [1, 2, 3, 4, 0] rfl)
      · have h := h.2 c6
        refine lv_iload hx hb dX5_wanted_55 (lv_at hl 3 rfl) ?_
        refine lv_iload_n hx hb dX5_wanted_57 rfl (lv_at hl 1 rfl) ?_
        refine lv_icmp_ne (tgt := 64) hx hb dX5_wanted_58 (by decide) (fun c8 => ?_) (fun c8 => ?_)
        · have h := h.1 c8
          obtain ⟨y9, ey9⟩ : ∃ z : Int32, z = (x4 + (1 : Int32)) := ⟨_, rfl⟩
          have h := h y9 ey9
          refine lv_iinc (v := y9) (lv' := [(4, .int y9), (0, .ref (a 0)), (1, .int x1), (2, .long x2), (5, .int x5)]) hx hb dX5_wanted_64 hl (k := 3) rfl (by rw [ey9]; rfl) (by decide) rfl (fun ls hl => ?_)
          obtain ⟨y10, ey10⟩ : ∃ z : Int32, z = (x5 + (1 : Int32)) := ⟨_, rfl⟩
          have h := h y10 ey10
          refine lv_iinc (v := y10) (lv' := [(5, .int y10), (4, .int y9), (0, .ref (a 0)), (1, .int x1), (2, .long x2)]) hx hb dX5_wanted_67 hl (k := 4) rfl (by rw [ey10]; rfl) (by decide) rfl (fun ls hl => ?_)
          refine lv_goto (tgt := 30) hx hb dX5_wanted_70 (by decide) ?_
          exact k30 y9 y10 H locs ls h hP hD hS (lv_sub hl [2, 3, 4, 1, 0] rfl)
        · have h := h.2 c8
          refine lv_iload hx hb dX5_wanted_61 (lv_at hl 4 rfl) ?_
          exact vx_ret (xr_i (S := S) hx hb hr hlocks hK hP hD hS h (Nat.le_of_ble_eq_true rfl) (Nat.le_of_ble_eq_true rfl) dX5_wanted_63)
def p_X5_wanted (S : CS) (x1 : Int32) (post : Int32 → CS → Prop) (px : String → CS → Prop) : Prop := (0 ≤ x1 → (p_X1_settle S (fun S2 => p_X5_wantedLiterals S2 (fun r3 => p_X5_wanted_30 S2 x1 r3 (0 : Int32) (0 : Int32) post px)))) ∧ (¬ 0 ≤ x1 → (px "java/lang/IndexOutOfBoundsException" S))
set_option maxHeartbeats 1000000 in
set_option maxRecDepth 100000 in
theorem t_X5_wanted {l : Launch} {dC : Nat → ClassId} {dI : Nat → Nat → Nat} {cyI cyJ cyZ : ClassId} {r : Nat → Nat} {a : Nat → Nat} {S : CS} {x1 : Int32} {post : Int32 → CS → Prop} {px : String → CS → Prop} (hl0 : l.stackTraces = false) (h : p_X5_wanted S x1 post px) : xXi l yX5_wanted wsX5_wanted { frames := 6, cells := 1, slots := 6, locals := 155 } (dC, dI) (tyA cyI cyJ cyZ) r (wC cyI cyJ cyZ a) [.ref (a 0), .int x1] S post px 1 6 := by
  intro sz
  refine vx_ofW (cc := cX5_wanted) (maxL := 6) (ret := (some .int)) (by decide) rfl ?_
  intro p e s m args below meth c s₁ B hml ht hv
  obtain ⟨rfl, G, hP, hD, hS⟩ := xG.of rfl B hml hv
  generalize hAe : va_A (wC cyI cyJ cyZ a S) sz = A at G hD hS ⊢
  have G : xG p s m _ meth c cX5_wanted 6 RX5 (some .int) wsX5_wanted (dC, dI) (tyA cyI cyJ cyZ) r A := G
  obtain ⟨hx, hb, hml, hown, hts, hr, hlocks, hK, hE, hA⟩ := id G
  have hiX5 : ∀ w ∈ wsX50, w ∈ wsX5_wanted := by decide +kernel
  have hf37 := hts (.fieldLink RX5 37 "CellMapping" "gates" "LCellMapping$Gates;") (by decide +kernel)
  have hl := lv_entry ([.ref (a 0), .int x1]) (n := 6) (Nat.le_of_ble_eq_true rfl)
  rw [lg_entry_eq]
  generalize (lg_sl ([.ref (a 0), .int x1]) ++ List.replicate (6 - (lg_sl ([.ref (a 0), .int x1])).length) Slot.unset).toArray = ls at hl ⊢
  have hl : lv_has ls 6 [(0, .ref (a 0)), (1, .int x1)] := hl
  show W p l e { frames := 6, cells := 1, slots := 6, locals := 155 } s m _ below meth c s.heap [] 0 0 _ _
  unfold p_X5_wanted at h
  refine lv_iload_n hx hb dX5_wanted_0 rfl (lv_at hl 1 rfl) ?_
  refine lv_if_ge (tgt := 12) hx hb dX5_wanted_1 (by decide) (fun c1 => ?_) (fun c1 => ?_)
  · have h := h.1 c1
    refine lv_aload_n hx hb dX5_wanted_12 rfl (lv_at hl 0 rfl) ?_
    refine va_get (D := (dC, dI)) (ci := 4) (v := .ref (a 4)) (C := RX5) (T := TX5) (N := 6) hx hb hts hiX5 hown hK hP 0 rfl rfl 3 (by decide) hf37 (fun _ h9 => h9) rfl dX5_wanted_13 ?_
    refine xc_Vv (wf := wC cyI cyJ cyZ a) (wr := []) (isC := [0, 1, 2, 3, 4, 5, 6, 7, 8, 9, 10, 11, 12, 13, 14, 15, 16, 17, 18, 19, 20]) (isR := []) (As := []) (rest := []) ⟨hx, hb, hml, hown, hts⟩ (t_X1_settle h) (cwV 0 hts gX5_wanted_X1_settle rfl rfl rfl (by decide +kernel) ⟨Nat.le_of_ble_eq_true rfl, Nat.le_of_ble_eq_true rfl⟩) ⟨hK, hE, hA, hP, hD, hS, rfl, rfl, rfl, rfl, by decide⟩ ⟨4, 1, _, _, rfl, rfl, rfl⟩ rfl rfl hl.1 (Nat.le_of_ble_eq_true rfl) dX5_wanted_16 ⟨Nat.le_of_ble_eq_true rfl, Nat.le_of_ble_eq_true rfl⟩ (fun  S2 H locs h hP hD hS => ?_)
    have hP : va_P (dC, dI) vwCl (wC cyI cyJ cyZ a S2) H := hP
    have hD : va_D A (wC cyI cyJ cyZ a S2) := hD
    refine lv_aload_n hx hb dX5_wanted_19 rfl (lv_at hl 0 rfl) ?_
    refine xc_Vl (wf := wC cyI cyJ cyZ a) (wr := []) (isC := [0, 1, 2, 3, 4, 5, 6, 7, 8, 9, 10, 11, 12, 13, 14, 15, 16, 17, 18, 19, 20]) (isR := []) (As := []) (rest := []) ⟨hx, hb, hml, hown, hts⟩ (t_X5_wantedLiterals h) (cwV 0 hts gX5_wanted_X5_wantedLiterals rfl rfl rfl (by decide +kernel) ⟨Nat.le_of_ble_eq_true rfl, Nat.le_of_ble_eq_true rfl⟩) ⟨hK, hE, hA, hP, hD, hS, rfl, rfl, rfl, rfl, by decide⟩ ⟨0, 4, _, _, rfl, rfl, rfl⟩ rfl rfl hl.1 (Nat.le_of_ble_eq_true rfl) dX5_wanted_20 ⟨Nat.le_of_ble_eq_true rfl, Nat.le_of_ble_eq_true rfl⟩ (fun r3 S4 H locs h hP hD hS => ?_)
    obtain ⟨rfl, h⟩ := h
    have hP : va_P (dC, dI) vwCl (wC cyI cyJ cyZ a S2) H := hP
    have hD : va_D A (wC cyI cyJ cyZ a S2) := hD
    refine lv_lstore_n (lv' := [(2, .long r3), (0, .ref (a 0)), (1, .int x1)]) hx hb dX5_wanted_23 rfl hl (by decide) rfl (fun ls hl => ?_)
    refine lv_iconst (v := 0) hx hb dX5_wanted_24 (by decide) ?_
    refine lv_istore (lv' := [(4, .int (0 : Int32)), (2, .long r3), (0, .ref (a 0)), (1, .int x1)]) hx hb dX5_wanted_25 hl (by decide) rfl (fun ls hl => ?_)
    refine lv_iconst (v := 0) hx hb dX5_wanted_27 (by decide) ?_
    refine lv_istore (lv' := [(5, .int (0 : Int32)), (4, .int (0 : Int32)), (2, .long r3), (0, .ref (a 0)), (1, .int x1)]) hx hb dX5_wanted_28 hl (by decide) rfl (fun ls hl => ?_)
    exact t_X5_wanted_30 G hl0 ht h hP hD hS (lv_sub hl [3, 4, 2, 1, 0] rfl)
  · have h := h.2 c1
    exact xx_throw (S := S) (names := ["java/lang/RuntimeException", "java/lang/Exception"]) hx hb hl0 hown (by decide +kernel) (by decide +kernel) hts (by decide +kernel) (by decide +kernel) (by decide +kernel) (by decide +kernel) (by decide +kernel) hE.2.2.2.2.2.1 hE hK hP hD hS (hl.1.trans hml.symm) dX5_wanted_4 dX5_wanted_7 dX5_wanted_8 dX5_wanted_11 ht (Nat.le_of_ble_eq_true rfl) (Nat.le_of_ble_eq_true rfl) (Nat.le_of_ble_eq_true rfl) (Nat.le_of_ble_eq_true rfl) hlocks h (Nat.le_of_ble_eq_true rfl) (Nat.le_of_ble_eq_true rfl)
def b_X5_area_17 (S : CS) (x1 : Int64) (post : Int32 → CS → Prop) (g17 : Int32 → Int32 → Prop) (x3 : Int32) (x4 : Int32) : Prop := (((2 : Int32) * (cNC S)) ≤ x4 → (post x3 S)) ∧ (¬ ((2 : Int32) * (cNC S)) ≤ x4 → ((¬ (lg_cmp ((lushr x1 x4) &&& (1 : Int64)) (1 : Int64)) = 0 → (∀ y6 : Int32, y6 = (x4 + (1 : Int32)) → (g17 x3 y6))) ∧ ((lg_cmp ((lushr x1 x4) &&& (1 : Int64)) (1 : Int64)) = 0 → (p_X1_cellOf S x4 (fun r7 => vp_in r7 12 ∧ (∀ y10 : Int32, y10 = (x3 + ((cAR S) r7.toNatClampNeg)) → (∀ y11 : Int32, y11 = (x4 + (1 : Int32)) → (g17 y10 y11))))))))
def p_X5_area_17 (S : CS) (x1 : Int64) (x3 : Int32) (x4 : Int32) (post : Int32 → CS → Prop) : Prop := ∃ (I : Int32 → Int32 → Prop) (mu : Int32 → Int32 → Nat), I x3 x4 ∧ ∀ (x3 : Int32) (x4 : Int32), I x3 x4 → b_X5_area_17 S x1 post (fun x3' x4' => I x3' x4' ∧ mu x3' x4' < mu x3 x4) x3 x4
set_option maxHeartbeats 1000000 in
set_option maxRecDepth 100000 in
theorem t_X5_area_17 {p : Program} {l : Launch} {e : Env} {s : State} {m : MethodId} {args : Array Value} {below : List Frame} {meth : Method} {c : Code} {dC : Nat → ClassId} {dI : Nat → Nat → Nat} {cyI cyJ cyZ : ClassId} {r : Nat → Nat} {a : Nat → Nat} {A : Nat → Prop} {S : CS} {x1 : Int64} {x3 : Int32} {x4 : Int32} {post : Int32 → CS → Prop} (G : xG p s m args meth c cX5_area 5 RX5 (some .int) wsX5_area (dC, dI) (tyA cyI cyJ cyZ) r A) (h : p_X5_area_17 S x1 x3 x4 post) {H : Heap} {locs : List Loc} {ls : Array Slot} (hP : va_P (dC, dI) vwCl (wC cyI cyJ cyZ a S) H) (hD : va_D A (wC cyI cyJ cyZ a S)) (hS : va_S A s.heap H locs) (hl : lv_has ls 5 [(0, .ref (a 0)), (1, .long x1), (3, .int x3), (4, .int x4)]) : W p l e { frames := 6, cells := 0, slots := 0, locals := 155 } s m args below meth c H locs 0 0 (MQ below (va_Qi post (xAt (dC, dI) (tyA cyI cyJ cyZ) (wC cyI cyJ cyZ a) A) A) args s 0 0 A) (F0 m 17 ls []) := by
  obtain ⟨hx, hb, hml, hown, hts, hr, hlocks, hK, hE, hA⟩ := id G
  have hiX5 : ∀ w ∈ wsX50, w ∈ wsX5_area := by decide +kernel
  have hf10 := hts (.fieldLink RX5 10 "CellMapping" "graph" "LCellMapping$Graph;") (by decide +kernel)
  have hiX2 : ∀ w ∈ wsX20, w ∈ wsX5_area := by decide +kernel
  have hf66 := hts (.fieldLink RX5 66 "CellMapping$Graph" "nodeCount" "I") (by decide +kernel)
  have hf28 := hts (.fieldLink RX5 28 "CellMapping" "shelf" "LCellMapping$Shelf;") (by decide +kernel)
  have hiX3 : ∀ w ∈ wsX30, w ∈ wsX5_area := by decide +kernel
  have hf155 := hts (.fieldLink RX5 155 "CellMapping$Shelf" "areas" "[I") (by decide +kernel)
  have hf37 := hts (.fieldLink RX5 37 "CellMapping" "gates" "LCellMapping$Gates;") (by decide +kernel)
  obtain ⟨I, mu, h0, hstep⟩ := h
  suffices hgo : ∀ (n : Nat) (x3 : Int32) (x4 : Int32), I x3 x4 → mu x3 x4 < n → ∀ (H : Heap) (locs : List Loc) (ls : Array Slot), va_P (dC, dI) vwCl (wC cyI cyJ cyZ a S) H → va_D A (wC cyI cyJ cyZ a S) → va_S A s.heap H locs → lv_has ls 5 [(0, .ref (a 0)), (1, .long x1), (3, .int x3), (4, .int x4)] → W p l e { frames := 6, cells := 0, slots := 0, locals := 155 } s m args below meth c H locs 0 0 (MQ below (va_Qi post (xAt (dC, dI) (tyA cyI cyJ cyZ) (wC cyI cyJ cyZ a) A) A) args s 0 0 A) (F0 m 17 ls []) from hgo (mu x3 x4 + 1) x3 x4 h0 (Nat.lt_succ_self _) H locs ls hP hD hS hl
  clear h0 hP hD hS hl
  intro n
  induction n with
  | zero => intro x3 x4 _ h; exact absurd h (Nat.not_lt_zero _)
  | succ n ih =>
    intro x3 x4 hI hmu H locs ls hP hD hS hl
    have h := hstep x3 x4 hI
    unfold b_X5_area_17 at h
    have k17 : ∀ (x3' : Int32) (x4' : Int32) (H : Heap) (locs : List Loc) (ls : Array Slot), (fun x3' x4' => I x3' x4' ∧ mu x3' x4' < mu x3 x4) x3' x4' → va_P (dC, dI) vwCl (wC cyI cyJ cyZ a S) H → va_D A (wC cyI cyJ cyZ a S) → va_S A s.heap H locs → lv_has ls 5 [(0, .ref (a 0)), (1, .long x1), (3, .int x3'), (4, .int x4')] → W p l e { frames := 6, cells := 0, slots := 0, locals := 155 } s m args below meth c H locs 0 0 (MQ below (va_Qi post (xAt (dC, dI) (tyA cyI cyJ cyZ) (wC cyI cyJ cyZ a) A) A) args s 0 0 A) (F0 m 17 ls []) := fun x3' x4' H locs ls hh hP hD hS hl => ih x3' x4' hh.1 (Nat.lt_of_lt_of_le hh.2 (Nat.le_of_lt_succ hmu)) H locs ls hP hD hS hl
    generalize (fun x3' x4' => I x3' x4' ∧ mu x3' x4' < mu x3 x4) = g17 at h k17
    refine lv_iload hx hb dX5_area_17 (lv_at hl 3 rfl) ?_
    refine lv_iconst (v := 2) hx hb dX5_area_19 (by decide) ?_
    refine lv_aload_n hx hb dX5_area_20 rfl (lv_at hl 0 rfl) ?_
    refine va_get (D := (dC, dI)) (ci := 4) (v := .ref (a 1)) (C := RX5) (T := TX5) (N := 6) hx hb hts hiX5 hown hK hP 0 rfl rfl 0 (by decide) hf10 (fun _ h9 => h9) rfl dX5_area_21 ?_
    refine va_get (D := (dC, dI)) (ci := 2) (v := .int (cNC S)) (C := RX2) (T := TX2) (N := 6) hx hb hts hiX2 hown hK hP 1 rfl rfl 4 (by decide) hf66 (fun _ h9 => h9) rfl dX5_area_24 ?_
    refine lv_imul hx hb dX5_area_27 ?_
    refine lv_icmp_ge (tgt := 68) hx hb dX5_area_28 (by decide) (fun c4 => ?_) (fun c4 => ?_)
    · have h := h.1 c4
      refine lv_iload_n hx hb dX5_area_68 rfl (lv_at hl 2 rfl) ?_
      exact xr_i (S := S) hx hb hr hlocks hK hP hD hS h (Nat.le_of_ble_eq_true rfl) (Nat.le_of_ble_eq_true rfl) dX5_area_69
    · have h := h.2 c4
      refine lv_lload_n hx hb dX5_area_31 rfl (lv_at hl 1 rfl) ?_
      refine lv_iload hx hb dX5_area_32 (lv_at hl 3 rfl) ?_
      refine lv_lushr (v := (lushr x1 x4)) hx hb dX5_area_34 rfl ?_
      refine lv_lconst (v := 1) hx hb dX5_area_35 (by decide) ?_
      refine lv_land hx hb dX5_area_36 ?_
      refine lv_lconst (v := 1) hx hb dX5_area_37 (by decide) ?_
      refine W.lcmp hx hb dX5_area_38 ?_
      refine lv_if_ne (tgt := 62) hx hb dX5_area_39 (by decide) (fun c5 => ?_) (fun c5 => ?_)
      · have h := h.1 c5
        obtain ⟨y6, ey6⟩ : ∃ z : Int32, z = (x4 + (1 : Int32)) := ⟨_, rfl⟩
        have h := h y6 ey6
        refine lv_iinc (v := y6) (lv' := [(4, .int y6), (0, .ref (a 0)), (1, .long x1), (3, .int x3)]) hx hb dX5_area_62 hl (k := 3) rfl (by rw [ey6]; rfl) (by decide) rfl (fun ls hl => ?_)
        refine lv_goto (tgt := 17) hx hb dX5_area_65 (by decide) ?_
        exact k17 x3 y6 H locs ls h hP hD hS (lv_sub hl [1, 2, 3, 0] rfl)
      · have h := h.2 c5
        refine lv_iload_n hx hb dX5_area_42 rfl (lv_at hl 2 rfl) ?_
        refine lv_aload_n hx hb dX5_area_43 rfl (lv_at hl 0 rfl) ?_
        refine va_get (D := (dC, dI)) (ci := 4) (v := .ref (a 3)) (C := RX5) (T := TX5) (N := 6) hx hb hts hiX5 hown hK hP 0 rfl rfl 2 (by decide) hf28 (fun _ h9 => h9) rfl dX5_area_44 ?_
        refine va_get (D := (dC, dI)) (ci := 3) (v := .ref (a 14)) (C := RX3) (T := TX3) (N := 6) hx hb hts hiX3 hown hK hP 3 rfl rfl 2 (by decide) hf155 (fun _ h9 => h9) rfl dX5_area_47 ?_
        refine lv_aload_n hx hb dX5_area_50 rfl (lv_at hl 0 rfl) ?_
        refine va_get (D := (dC, dI)) (ci := 4) (v := .ref (a 4)) (C := RX5) (T := TX5) (N := 6) hx hb hts hiX5 hown hK hP 0 rfl rfl 3 (by decide) hf37 (fun _ h9 => h9) rfl dX5_area_51 ?_
        refine lv_iload hx hb dX5_area_54 (lv_at hl 3 rfl) ?_
        refine xc_Vi (wf := wC cyI cyJ cyZ a) (wr := []) (isC := [0, 1, 2, 3, 4, 5, 6, 7, 8, 9, 10, 11, 12, 13, 14, 15, 16, 17, 18, 19, 20]) (isR := []) (As := [.int x4]) (rest := [.ref (a 14), .int x3]) ⟨hx, hb, hml, hown, hts⟩ (t_X1_cellOf h) (cwV 1 hts gX5_area_X1_cellOf rfl rfl rfl (by decide +kernel) ⟨Nat.le_of_ble_eq_true rfl, Nat.le_of_ble_eq_true rfl⟩) ⟨hK, hE, hA, hP, hD, hS, rfl, rfl, rfl, rfl, by decide⟩ ⟨4, 1, _, _, rfl, rfl, rfl⟩ rfl rfl hl.1 (Nat.le_of_ble_eq_true rfl) dX5_area_56 ⟨Nat.le_of_ble_eq_true rfl, Nat.le_of_ble_eq_true rfl⟩ (fun r7 S8 H locs h hP hD hS => ?_)
        obtain ⟨rfl, h⟩ := h
        have hP : va_P (dC, dI) vwCl (wC cyI cyJ cyZ a S) H := hP
        have hD : va_D A (wC cyI cyJ cyZ a S) := hD
        obtain ⟨i9, h⟩ := h
        refine va_iald (D := (dC, dI)) hx hb hK hP 14 0 rfl rfl i9 dX5_area_59 ?_
        refine lv_iadd hx hb dX5_area_60 ?_
        refine lv_topi (fun y10 ey10 => ?_)
        have h := h y10 ey10
        refine lv_istore_n (lv' := [(3, .int y10), (0, .ref (a 0)), (1, .long x1), (4, .int x4)]) hx hb dX5_area_61 rfl hl (by decide) rfl (fun ls hl => ?_)
        obtain ⟨y11, ey11⟩ : ∃ z : Int32, z = (x4 + (1 : Int32)) := ⟨_, rfl⟩
        have h := h y11 ey11
        refine lv_iinc (v := y11) (lv' := [(4, .int y11), (3, .int y10), (0, .ref (a 0)), (1, .long x1)]) hx hb dX5_area_62 hl (k := 3) rfl (by rw [ey11]; rfl) (by decide) rfl (fun ls hl => ?_)
        refine lv_goto (tgt := 17) hx hb dX5_area_65 (by decide) ?_
        exact k17 y10 y11 H locs ls h hP hD hS (lv_sub hl [2, 3, 1, 0] rfl)
def p_X5_area (S : CS) (post : Int32 → CS → Prop) : Prop := p_X1_settle S (fun S1 => p_X5_wantedLiterals S1 (fun r2 => p_X5_area_17 S1 r2 (0 : Int32) (0 : Int32) post))
set_option maxHeartbeats 1000000 in
set_option maxRecDepth 100000 in
theorem t_X5_area {l : Launch} {dC : Nat → ClassId} {dI : Nat → Nat → Nat} {cyI cyJ cyZ : ClassId} {r : Nat → Nat} {a : Nat → Nat} {S : CS} {post : Int32 → CS → Prop} (h : p_X5_area S post) : xMi l yX5_area wsX5_area { frames := 6, cells := 0, slots := 0, locals := 155 } (dC, dI) (tyA cyI cyJ cyZ) r (wC cyI cyJ cyZ a) [.ref (a 0)] S post 0 0 := by
  intro sz
  refine Met.ofW (cc := cX5_area) (maxL := 5) (ret := (some .int)) (by decide) rfl ?_
  intro p e s m args below meth c s₁ B hml hv
  obtain ⟨rfl, G, hP, hD, hS⟩ := xG.of rfl B hml hv
  generalize hAe : va_A (wC cyI cyJ cyZ a S) sz = A at G hD hS ⊢
  have G : xG p s m _ meth c cX5_area 5 RX5 (some .int) wsX5_area (dC, dI) (tyA cyI cyJ cyZ) r A := G
  obtain ⟨hx, hb, hml, hown, hts, hr, hlocks, hK, hE, hA⟩ := id G
  have hiX5 : ∀ w ∈ wsX50, w ∈ wsX5_area := by decide +kernel
  have hf37 := hts (.fieldLink RX5 37 "CellMapping" "gates" "LCellMapping$Gates;") (by decide +kernel)
  have hl := lv_entry ([.ref (a 0)]) (n := 5) (Nat.le_of_ble_eq_true rfl)
  rw [lg_entry_eq]
  generalize (lg_sl ([.ref (a 0)]) ++ List.replicate (5 - (lg_sl ([.ref (a 0)])).length) Slot.unset).toArray = ls at hl ⊢
  have hl : lv_has ls 5 [(0, .ref (a 0))] := hl
  show W p l e { frames := 6, cells := 0, slots := 0, locals := 155 } s m _ below meth c s.heap [] 0 0 _ _
  unfold p_X5_area at h
  refine lv_aload_n hx hb dX5_area_0 rfl (lv_at hl 0 rfl) ?_
  refine va_get (D := (dC, dI)) (ci := 4) (v := .ref (a 4)) (C := RX5) (T := TX5) (N := 6) hx hb hts hiX5 hown hK hP 0 rfl rfl 3 (by decide) hf37 (fun _ h9 => h9) rfl dX5_area_1 ?_
  refine xc_Vv (wf := wC cyI cyJ cyZ a) (wr := []) (isC := [0, 1, 2, 3, 4, 5, 6, 7, 8, 9, 10, 11, 12, 13, 14, 15, 16, 17, 18, 19, 20]) (isR := []) (As := []) (rest := []) ⟨hx, hb, hml, hown, hts⟩ (t_X1_settle h) (cwV 0 hts gX5_area_X1_settle rfl rfl rfl (by decide +kernel) ⟨Nat.le_of_ble_eq_true rfl, Nat.le_of_ble_eq_true rfl⟩) ⟨hK, hE, hA, hP, hD, hS, rfl, rfl, rfl, rfl, by decide⟩ ⟨4, 1, _, _, rfl, rfl, rfl⟩ rfl rfl hl.1 (Nat.le_of_ble_eq_true rfl) dX5_area_4 ⟨Nat.le_of_ble_eq_true rfl, Nat.le_of_ble_eq_true rfl⟩ (fun  S1 H locs h hP hD hS => ?_)
  have hP : va_P (dC, dI) vwCl (wC cyI cyJ cyZ a S1) H := hP
  have hD : va_D A (wC cyI cyJ cyZ a S1) := hD
  refine lv_aload_n hx hb dX5_area_7 rfl (lv_at hl 0 rfl) ?_
  refine xc_Vl (wf := wC cyI cyJ cyZ a) (wr := []) (isC := [0, 1, 2, 3, 4, 5, 6, 7, 8, 9, 10, 11, 12, 13, 14, 15, 16, 17, 18, 19, 20]) (isR := []) (As := []) (rest := []) ⟨hx, hb, hml, hown, hts⟩ (t_X5_wantedLiterals h) (cwV 0 hts gX5_area_X5_wantedLiterals rfl rfl rfl (by decide +kernel) ⟨Nat.le_of_ble_eq_true rfl, Nat.le_of_ble_eq_true rfl⟩) ⟨hK, hE, hA, hP, hD, hS, rfl, rfl, rfl, rfl, by decide⟩ ⟨0, 4, _, _, rfl, rfl, rfl⟩ rfl rfl hl.1 (Nat.le_of_ble_eq_true rfl) dX5_area_8 ⟨Nat.le_of_ble_eq_true rfl, Nat.le_of_ble_eq_true rfl⟩ (fun r2 S3 H locs h hP hD hS => ?_)
  obtain ⟨rfl, h⟩ := h
  have hP : va_P (dC, dI) vwCl (wC cyI cyJ cyZ a S1) H := hP
  have hD : va_D A (wC cyI cyJ cyZ a S1) := hD
  refine lv_lstore_n (lv' := [(1, .long r2), (0, .ref (a 0))]) hx hb dX5_area_11 rfl hl (by decide) rfl (fun ls hl => ?_)
  refine lv_iconst (v := 0) hx hb dX5_area_12 (by decide) ?_
  refine lv_istore_n (lv' := [(3, .int (0 : Int32)), (1, .long r2), (0, .ref (a 0))]) hx hb dX5_area_13 rfl hl (by decide) rfl (fun ls hl => ?_)
  refine lv_iconst (v := 0) hx hb dX5_area_14 (by decide) ?_
  refine lv_istore (lv' := [(4, .int (0 : Int32)), (3, .int (0 : Int32)), (1, .long r2), (0, .ref (a 0))]) hx hb dX5_area_15 hl (by decide) rfl (fun ls hl => ?_)
  exact t_X5_area_17 G h hP hD hS (lv_sub hl [3, 2, 1, 0] rfl)
def b_X5_worst_21 (S : CS) (post : Int32 → CS → Prop) (g21 : Int32 → Int32 → Prop) (x1 : Int32) (x2 : Int32) : Prop := ((cOC S) ≤ x2 → (post x1 S)) ∧ (¬ (cOC S) ≤ x2 → (vp_in x2 6 ∧ (p_X1_timeOf S ((cOL S) x2.toNatClampNeg) (fun r7 => ∀ y9 : Int32, y9 = (if x1 < r7 then r7 else x1) → (∀ y10 : Int32, y10 = (x2 + (1 : Int32)) → (g21 y9 y10))))))
def p_X5_worst_21 (S : CS) (x1 : Int32) (x2 : Int32) (post : Int32 → CS → Prop) : Prop := ∃ (I : Int32 → Int32 → Prop) (mu : Int32 → Int32 → Nat), I x1 x2 ∧ ∀ (x1 : Int32) (x2 : Int32), I x1 x2 → b_X5_worst_21 S post (fun x1' x2' => I x1' x2' ∧ mu x1' x2' < mu x1 x2) x1 x2
set_option maxHeartbeats 1000000 in
set_option maxRecDepth 100000 in
theorem t_X5_worst_21 {p : Program} {l : Launch} {e : Env} {s : State} {m : MethodId} {args : Array Value} {below : List Frame} {meth : Method} {c : Code} {dC : Nat → ClassId} {dI : Nat → Nat → Nat} {cyI cyJ cyZ : ClassId} {r : Nat → Nat} {a : Nat → Nat} {A : Nat → Prop} {S : CS} {x1 : Int32} {x2 : Int32} {post : Int32 → CS → Prop} (G : xG p s m args meth c cX5_worst 3 RX5 (some .int) wsX5_worst (dC, dI) (tyA cyI cyJ cyZ) r A) (h : p_X5_worst_21 S x1 x2 post) {H : Heap} {locs : List Loc} {ls : Array Slot} (hP : va_P (dC, dI) vwCl (wC cyI cyJ cyZ a S) H) (hD : va_D A (wC cyI cyJ cyZ a S)) (hS : va_S A s.heap H locs) (hl : lv_has ls 3 [(0, .ref (a 0)), (1, .int x1), (2, .int x2)]) : W p l e { frames := 6, cells := 0, slots := 0, locals := 155 } s m args below meth c H locs 0 0 (MQ below (va_Qi post (xAt (dC, dI) (tyA cyI cyJ cyZ) (wC cyI cyJ cyZ a) A) A) args s 0 0 A) (F0 m 21 ls []) := by
  obtain ⟨hx, hb, hml, hown, hts, hr, hlocks, hK, hE, hA⟩ := id G
  have hiX5 : ∀ w ∈ wsX50, w ∈ wsX5_worst := by decide +kernel
  have hf45 := hts (.fieldLink RX5 45 "CellMapping" "outputCount" "I") (by decide +kernel)
  have hf37 := hts (.fieldLink RX5 37 "CellMapping" "gates" "LCellMapping$Gates;") (by decide +kernel)
  have hf41 := hts (.fieldLink RX5 41 "CellMapping" "outputLiterals" "[I") (by decide +kernel)
  obtain ⟨I, mu, h0, hstep⟩ := h
  suffices hgo : ∀ (n : Nat) (x1 : Int32) (x2 : Int32), I x1 x2 → mu x1 x2 < n → ∀ (H : Heap) (locs : List Loc) (ls : Array Slot), va_P (dC, dI) vwCl (wC cyI cyJ cyZ a S) H → va_D A (wC cyI cyJ cyZ a S) → va_S A s.heap H locs → lv_has ls 3 [(0, .ref (a 0)), (1, .int x1), (2, .int x2)] → W p l e { frames := 6, cells := 0, slots := 0, locals := 155 } s m args below meth c H locs 0 0 (MQ below (va_Qi post (xAt (dC, dI) (tyA cyI cyJ cyZ) (wC cyI cyJ cyZ a) A) A) args s 0 0 A) (F0 m 21 ls []) from hgo (mu x1 x2 + 1) x1 x2 h0 (Nat.lt_succ_self _) H locs ls hP hD hS hl
  clear h0 hP hD hS hl
  intro n
  induction n with
  | zero => intro x1 x2 _ h; exact absurd h (Nat.not_lt_zero _)
  | succ n ih =>
    intro x1 x2 hI hmu H locs ls hP hD hS hl
    have h := hstep x1 x2 hI
    unfold b_X5_worst_21 at h
    have k21 : ∀ (x1' : Int32) (x2' : Int32) (H : Heap) (locs : List Loc) (ls : Array Slot), (fun x1' x2' => I x1' x2' ∧ mu x1' x2' < mu x1 x2) x1' x2' → va_P (dC, dI) vwCl (wC cyI cyJ cyZ a S) H → va_D A (wC cyI cyJ cyZ a S) → va_S A s.heap H locs → lv_has ls 3 [(0, .ref (a 0)), (1, .int x1'), (2, .int x2')] → W p l e { frames := 6, cells := 0, slots := 0, locals := 155 } s m args below meth c H locs 0 0 (MQ below (va_Qi post (xAt (dC, dI) (tyA cyI cyJ cyZ) (wC cyI cyJ cyZ a) A) A) args s 0 0 A) (F0 m 21 ls []) := fun x1' x2' H locs ls hh hP hD hS hl => ih x1' x2' hh.1 (Nat.lt_of_lt_of_le hh.2 (Nat.le_of_lt_succ hmu)) H locs ls hP hD hS hl
    generalize (fun x1' x2' => I x1' x2' ∧ mu x1' x2' < mu x1 x2) = g21 at h k21
    refine lv_iload_n hx hb dX5_worst_21 rfl (lv_at hl 2 rfl) ?_
    refine lv_aload_n hx hb dX5_worst_22 rfl (lv_at hl 0 rfl) ?_
    refine va_get (D := (dC, dI)) (ci := 4) (v := .int (cOC S)) (C := RX5) (T := TX5) (N := 6) hx hb hts hiX5 hown hK hP 0 rfl rfl 5 (by decide) hf45 (fun _ h9 => h9) rfl dX5_worst_23 ?_
    refine lv_icmp_ge (tgt := 53) hx hb dX5_worst_26 (by decide) (fun c5 => ?_) (fun c5 => ?_)
    · have h := h.1 c5
      refine lv_iload_n hx hb dX5_worst_53 rfl (lv_at hl 1 rfl) ?_
      exact xr_i (S := S) hx hb hr hlocks hK hP hD hS h (Nat.le_of_ble_eq_true rfl) (Nat.le_of_ble_eq_true rfl) dX5_worst_54
    · have h := h.2 c5
      refine lv_iload_n hx hb dX5_worst_29 rfl (lv_at hl 1 rfl) ?_
      refine lv_aload_n hx hb dX5_worst_30 rfl (lv_at hl 0 rfl) ?_
      refine va_get (D := (dC, dI)) (ci := 4) (v := .ref (a 4)) (C := RX5) (T := TX5) (N := 6) hx hb hts hiX5 hown hK hP 0 rfl rfl 3 (by decide) hf37 (fun _ h9 => h9) rfl dX5_worst_31 ?_
      refine lv_aload_n hx hb dX5_worst_34 rfl (lv_at hl 0 rfl) ?_
      refine va_get (D := (dC, dI)) (ci := 4) (v := .ref (a 5)) (C := RX5) (T := TX5) (N := 6) hx hb hts hiX5 hown hK hP 0 rfl rfl 4 (by decide) hf41 (fun _ h9 => h9) rfl dX5_worst_35 ?_
      refine lv_iload_n hx hb dX5_worst_38 rfl (lv_at hl 2 rfl) ?_
      obtain ⟨i6, h⟩ := h
      refine va_iald (D := (dC, dI)) hx hb hK hP 5 0 rfl rfl i6 dX5_worst_39 ?_
      refine xc_Vi (wf := wC cyI cyJ cyZ a) (wr := []) (isC := [0, 1, 2, 3, 4, 5, 6, 7, 8, 9, 10, 11, 12, 13, 14, 15, 16, 17, 18, 19, 20]) (isR := []) (As := [.int ((cOL S) x2.toNatClampNeg)]) (rest := [.int x1]) ⟨hx, hb, hml, hown, hts⟩ (t_X1_timeOf h) (cwV 1 hts gX5_worst_X1_timeOf rfl rfl rfl (by decide +kernel) ⟨Nat.le_of_ble_eq_true rfl, Nat.le_of_ble_eq_true rfl⟩) ⟨hK, hE, hA, hP, hD, hS, rfl, rfl, rfl, rfl, by decide⟩ ⟨4, 1, _, _, rfl, rfl, rfl⟩ rfl rfl hl.1 (Nat.le_of_ble_eq_true rfl) dX5_worst_40 ⟨Nat.le_of_ble_eq_true rfl, Nat.le_of_ble_eq_true rfl⟩ (fun r7 S8 H locs h hP hD hS => ?_)
      obtain ⟨rfl, h⟩ := h
      have hP : va_P (dC, dI) vwCl (wC cyI cyJ cyZ a S) H := hP
      have hD : va_D A (wC cyI cyJ cyZ a S) := hD
      refine va_mmax hx hb (hml.trans hl.1.symm) hown (hts (.methodLink RX5 158 Lib.Math.max.name) (by decide +kernel)) (hts (.static Lib.Math.max.name) (by decide +kernel)) (hts (.initialized "java/lang/Math") (by decide +kernel)) (hts (.code Lib.Math.max.name Lib.Math.max.code 2 (some .int)) (by decide +kernel)) (Nat.le_of_ble_eq_true rfl) (Nat.le_of_ble_eq_true rfl) (Nat.le_of_ble_eq_true rfl) (Nat.le_of_ble_eq_true rfl) dX5_worst_43 ?_
      refine lv_topi (fun y9 ey9 => ?_)
      have h := h y9 ey9
      refine lv_istore_n (lv' := [(1, .int y9), (0, .ref (a 0)), (2, .int x2)]) hx hb dX5_worst_46 rfl hl (by decide) rfl (fun ls hl => ?_)
      obtain ⟨y10, ey10⟩ : ∃ z : Int32, z = (x2 + (1 : Int32)) := ⟨_, rfl⟩
      have h := h y10 ey10
      refine lv_iinc (v := y10) (lv' := [(2, .int y10), (1, .int y9), (0, .ref (a 0))]) hx hb dX5_worst_47 hl (k := 2) rfl (by rw [ey10]; rfl) (by decide) rfl (fun ls hl => ?_)
      refine lv_goto (tgt := 21) hx hb dX5_worst_50 (by decide) ?_
      exact k21 y9 y10 H locs ls h hP hD hS (lv_sub hl [2, 1, 0] rfl)
def p_X5_worst (S : CS) (post : Int32 → CS → Prop) : Prop := p_X1_settle S (fun S1 => p_X5_firstOutputNotArriving S1 (fun r2 => (r2 = (-1 : Int32) → (p_X5_worst_21 S1 (0 : Int32) (0 : Int32) post)) ∧ (¬ r2 = (-1 : Int32) → (post (-1 : Int32) S1))))
set_option maxHeartbeats 1000000 in
set_option maxRecDepth 100000 in
theorem t_X5_worst {l : Launch} {dC : Nat → ClassId} {dI : Nat → Nat → Nat} {cyI cyJ cyZ : ClassId} {r : Nat → Nat} {a : Nat → Nat} {S : CS} {post : Int32 → CS → Prop} (h : p_X5_worst S post) : xMi l yX5_worst wsX5_worst { frames := 6, cells := 0, slots := 0, locals := 155 } (dC, dI) (tyA cyI cyJ cyZ) r (wC cyI cyJ cyZ a) [.ref (a 0)] S post 0 0 := by
  intro sz
  refine Met.ofW (cc := cX5_worst) (maxL := 3) (ret := (some .int)) (by decide) rfl ?_
  intro p e s m args below meth c s₁ B hml hv
  obtain ⟨rfl, G, hP, hD, hS⟩ := xG.of rfl B hml hv
  generalize hAe : va_A (wC cyI cyJ cyZ a S) sz = A at G hD hS ⊢
  have G : xG p s m _ meth c cX5_worst 3 RX5 (some .int) wsX5_worst (dC, dI) (tyA cyI cyJ cyZ) r A := G
  obtain ⟨hx, hb, hml, hown, hts, hr, hlocks, hK, hE, hA⟩ := id G
  have hiX5 : ∀ w ∈ wsX50, w ∈ wsX5_worst := by decide +kernel
  have hf37 := hts (.fieldLink RX5 37 "CellMapping" "gates" "LCellMapping$Gates;") (by decide +kernel)
  have hl := lv_entry ([.ref (a 0)]) (n := 3) (Nat.le_of_ble_eq_true rfl)
  rw [lg_entry_eq]
  generalize (lg_sl ([.ref (a 0)]) ++ List.replicate (3 - (lg_sl ([.ref (a 0)])).length) Slot.unset).toArray = ls at hl ⊢
  have hl : lv_has ls 3 [(0, .ref (a 0))] := hl
  show W p l e { frames := 6, cells := 0, slots := 0, locals := 155 } s m _ below meth c s.heap [] 0 0 _ _
  unfold p_X5_worst at h
  refine lv_aload_n hx hb dX5_worst_0 rfl (lv_at hl 0 rfl) ?_
  refine va_get (D := (dC, dI)) (ci := 4) (v := .ref (a 4)) (C := RX5) (T := TX5) (N := 6) hx hb hts hiX5 hown hK hP 0 rfl rfl 3 (by decide) hf37 (fun _ h9 => h9) rfl dX5_worst_1 ?_
  refine xc_Vv (wf := wC cyI cyJ cyZ a) (wr := []) (isC := [0, 1, 2, 3, 4, 5, 6, 7, 8, 9, 10, 11, 12, 13, 14, 15, 16, 17, 18, 19, 20]) (isR := []) (As := []) (rest := []) ⟨hx, hb, hml, hown, hts⟩ (t_X1_settle h) (cwV 0 hts gX5_worst_X1_settle rfl rfl rfl (by decide +kernel) ⟨Nat.le_of_ble_eq_true rfl, Nat.le_of_ble_eq_true rfl⟩) ⟨hK, hE, hA, hP, hD, hS, rfl, rfl, rfl, rfl, by decide⟩ ⟨4, 1, _, _, rfl, rfl, rfl⟩ rfl rfl hl.1 (Nat.le_of_ble_eq_true rfl) dX5_worst_4 ⟨Nat.le_of_ble_eq_true rfl, Nat.le_of_ble_eq_true rfl⟩ (fun  S1 H locs h hP hD hS => ?_)
  have hP : va_P (dC, dI) vwCl (wC cyI cyJ cyZ a S1) H := hP
  have hD : va_D A (wC cyI cyJ cyZ a S1) := hD
  refine lv_aload_n hx hb dX5_worst_7 rfl (lv_at hl 0 rfl) ?_
  refine xc_Vi (wf := wC cyI cyJ cyZ a) (wr := []) (isC := [0, 1, 2, 3, 4, 5, 6, 7, 8, 9, 10, 11, 12, 13, 14, 15, 16, 17, 18, 19, 20]) (isR := []) (As := []) (rest := []) ⟨hx, hb, hml, hown, hts⟩ (t_X5_firstOutputNotArriving h) (cwV 0 hts gX5_worst_X5_firstOutputNotArriving rfl rfl rfl (by decide +kernel) ⟨Nat.le_of_ble_eq_true rfl, Nat.le_of_ble_eq_true rfl⟩) ⟨hK, hE, hA, hP, hD, hS, rfl, rfl, rfl, rfl, by decide⟩ ⟨0, 4, _, _, rfl, rfl, rfl⟩ rfl rfl hl.1 (Nat.le_of_ble_eq_true rfl) dX5_worst_8 ⟨Nat.le_of_ble_eq_true rfl, Nat.le_of_ble_eq_true rfl⟩ (fun r2 S3 H locs h hP hD hS => ?_)
  obtain ⟨rfl, h⟩ := h
  have hP : va_P (dC, dI) vwCl (wC cyI cyJ cyZ a S1) H := hP
  have hD : va_D A (wC cyI cyJ cyZ a S1) := hD
  refine lv_iconst (v := -1) hx hb dX5_worst_11 (by decide) ?_
  refine lv_icmp_eq (tgt := 17) hx hb dX5_worst_12 (by decide) (fun c4 => ?_) (fun c4 => ?_)
  · have h := h.1 c4
    refine lv_iconst (v := 0) hx hb dX5_worst_17 (by decide) ?_
    refine lv_istore_n (lv' := [(1, .int (0 : Int32)), (0, .ref (a 0))]) hx hb dX5_worst_18 rfl hl (by decide) rfl (fun ls hl => ?_)
    refine lv_iconst (v := 0) hx hb dX5_worst_19 (by decide) ?_
    refine lv_istore_n (lv' := [(2, .int (0 : Int32)), (1, .int (0 : Int32)), (0, .ref (a 0))]) hx hb dX5_worst_20 rfl hl (by decide) rfl (fun ls hl => ?_)
    exact t_X5_worst_21 G h hP hD hS (lv_sub hl [2, 1, 0] rfl)
  · have h := h.2 c4
    refine lv_iconst (v := -1) hx hb dX5_worst_15 (by decide) ?_
    exact xr_i (S := S1) hx hb hr hlocks hK hP hD hS h (Nat.le_of_ble_eq_true rfl) (Nat.le_of_ble_eq_true rfl) dX5_worst_16
def p_X5_value (S : CS) (x1 : Int32) (x2 : Int32) (post : Int32 → Prop) (px : String → Prop) : Prop := p_X5_requireLiteral S x1 (p_X2_evaluate S x1 x2 (fun r2 => post r2)) (fun E => px E)
set_option maxHeartbeats 1000000 in
set_option maxRecDepth 100000 in
theorem t_X5_value {l : Launch} {dC : Nat → ClassId} {dI : Nat → Nat → Nat} {cyI cyJ cyZ : ClassId} {r : Nat → Nat} {a : Nat → Nat} {S : CS} {x1 : Int32} {x2 : Int32} {post : Int32 → Prop} {px : String → Prop} (hl0 : l.stackTraces = false) (h : p_X5_value S x1 x2 post px) : xXi l yX5_value wsX5_value { frames := 8, cells := 1, slots := 6, locals := 123 } (dC, dI) (tyA cyI cyJ cyZ) r (wC cyI cyJ cyZ a) [.ref (a 0), .int x1, .int x2] S (fun x u => S = u ∧ post x) (fun E u => S = u ∧ px E) 1 6 := by
  intro sz
  refine vx_ofW (cc := cX5_value) (maxL := 3) (ret := (some .int)) (by decide) rfl ?_
  intro p e s m args below meth c s₁ B hml ht hv
  obtain ⟨rfl, G, hP, hD, hS⟩ := xG.of rfl B hml hv
  generalize hAe : va_A (wC cyI cyJ cyZ a S) sz = A at G hD hS ⊢
  have G : xG p s m _ meth c cX5_value 3 RX5 (some .int) wsX5_value (dC, dI) (tyA cyI cyJ cyZ) r A := G
  obtain ⟨hx, hb, hml, hown, hts, hr, hlocks, hK, hE, hA⟩ := id G
  have hiX5 : ∀ w ∈ wsX50, w ∈ wsX5_value := by decide +kernel
  have hf10 := hts (.fieldLink RX5 10 "CellMapping" "graph" "LCellMapping$Graph;") (by decide +kernel)
  have hl := lv_entry ([.ref (a 0), .int x1, .int x2]) (n := 3) (Nat.le_of_ble_eq_true rfl)
  rw [lg_entry_eq]
  generalize (lg_sl ([.ref (a 0), .int x1, .int x2]) ++ List.replicate (3 - (lg_sl ([.ref (a 0), .int x1, .int x2])).length) Slot.unset).toArray = ls at hl ⊢
  have hl : lv_has ls 3 [(0, .ref (a 0)), (1, .int x1), (2, .int x2)] := hl
  show W p l e { frames := 8, cells := 1, slots := 6, locals := 123 } s m _ below meth c s.heap [] 0 0 _ _
  unfold p_X5_value at h
  refine lv_aload_n hx hb dX5_value_0 rfl (lv_at hl 0 rfl) ?_
  refine lv_iload_n hx hb dX5_value_1 rfl (lv_at hl 1 rfl) ?_
  refine xt_Vv (wf := wC cyI cyJ cyZ a) (wr := []) (isC := [0, 1, 2, 3, 4, 5, 6, 7, 8, 9, 10, 11, 12, 13, 14, 15, 16, 17, 18, 19, 20]) (isR := []) (As := [.int x1]) (rest := []) ⟨hx, hb, hml, hown, hts⟩ (t_X5_requireLiteral hl0 h) (cwV 1 hts gX5_value_X5_requireLiteral rfl rfl rfl (by decide +kernel) ⟨Nat.le_of_ble_eq_true rfl, Nat.le_of_ble_eq_true rfl⟩) ⟨hK, hE, hA, hP, hD, hS, rfl, rfl, rfl, rfl, by decide⟩ ⟨0, 4, _, _, rfl, rfl, rfl⟩ rfl rfl hl.1 (Nat.le_of_ble_eq_true rfl) dX5_value_2 ⟨Nat.le_of_ble_eq_true rfl, Nat.le_of_ble_eq_true rfl⟩ (fun E ce q S1 H locs h hP hD hS hce hcv hcl => ?_) (fun  S1 H locs h hP hD hS => ?_)
  · obtain ⟨rfl, h⟩ := h
    have hP : va_P (dC, dI) vwCl (wC cyI cyJ cyZ a S) H := hP
    have hD : va_D A (wC cyI cyJ cyZ a S) := hD
    exact xx_pass (S := S) ht hlocks hK hP hD hS ⟨rfl, h⟩ hce hcv hcl (Nat.le_of_ble_eq_true rfl) (Nat.le_of_ble_eq_true rfl)
  obtain ⟨rfl, h⟩ := h
  have hP : va_P (dC, dI) vwCl (wC cyI cyJ cyZ a S) H := hP
  have hD : va_D A (wC cyI cyJ cyZ a S) := hD
  refine lv_aload_n hx hb dX5_value_5 rfl (lv_at hl 0 rfl) ?_
  refine va_get (D := (dC, dI)) (ci := 4) (v := .ref (a 1)) (C := RX5) (T := TX5) (N := 6) hx hb hts hiX5 hown hK hP 0 rfl rfl 0 (by decide) hf10 (fun _ h9 => h9) rfl dX5_value_6 ?_
  refine lv_iload_n hx hb dX5_value_9 rfl (lv_at hl 1 rfl) ?_
  refine lv_iload_n hx hb dX5_value_10 rfl (lv_at hl 2 rfl) ?_
  refine xc_Vi (wf := wC cyI cyJ cyZ a) (wr := []) (isC := [0, 1, 2, 3, 4, 5, 6, 7, 8, 9, 10, 11, 12, 13, 14, 15, 16, 17, 18, 19, 20]) (isR := []) (As := [.int x1, .int x2]) (rest := []) ⟨hx, hb, hml, hown, hts⟩ (t_X2_evaluate h) (cwV 2 hts gX5_value_X2_evaluate rfl rfl rfl (by decide +kernel) ⟨Nat.le_of_ble_eq_true rfl, Nat.le_of_ble_eq_true rfl⟩) ⟨hK, hE, hA, hP, hD, hS, rfl, rfl, rfl, rfl, by decide⟩ ⟨1, 2, _, _, rfl, rfl, rfl⟩ rfl rfl hl.1 (Nat.le_of_ble_eq_true rfl) dX5_value_11 ⟨Nat.le_of_ble_eq_true rfl, Nat.le_of_ble_eq_true rfl⟩ (fun r2 S3 H locs h hP hD hS => ?_)
  obtain ⟨rfl, h⟩ := h
  have hP : va_P (dC, dI) vwCl (wC cyI cyJ cyZ a S) H := hP
  have hD : va_D A (wC cyI cyJ cyZ a S) := hD
  exact vx_ret (xr_i (S := S) hx hb hr hlocks hK hP hD hS ⟨rfl, h⟩ (Nat.le_of_ble_eq_true rfl) (Nat.le_of_ble_eq_true rfl) dX5_value_14)
def p_X5_mapped (S : CS) (x1 : Int32) (x2 : Int32) (post : Int32 → CS → Prop) (px : String → CS → Prop) : Prop := p_X5_requireLiteral S x1 (p_X1_settle S (fun S2 => p_X1_isThere S2 x1 (fun r3 => (r3 = 0 → (post (-1 : Int32) S2)) ∧ (¬ r3 = 0 → (p_X1_evaluate S2 x1 x2 (fun r6 => post r6 S2)))))) (fun E => px E S)
set_option maxHeartbeats 1000000 in
set_option maxRecDepth 100000 in
theorem t_X5_mapped {l : Launch} {dC : Nat → ClassId} {dI : Nat → Nat → Nat} {cyI cyJ cyZ : ClassId} {r : Nat → Nat} {a : Nat → Nat} {S : CS} {x1 : Int32} {x2 : Int32} {post : Int32 → CS → Prop} {px : String → CS → Prop} (hl0 : l.stackTraces = false) (h : p_X5_mapped S x1 x2 post px) : xXi l yX5_mapped wsX5_mapped { frames := 8, cells := 1, slots := 6, locals := 155 } (dC, dI) (tyA cyI cyJ cyZ) r (wC cyI cyJ cyZ a) [.ref (a 0), .int x1, .int x2] S post px 1 6 := by
  intro sz
  refine vx_ofW (cc := cX5_mapped) (maxL := 3) (ret := (some .int)) (by decide) rfl ?_
  intro p e s m args below meth c s₁ B hml ht hv
  obtain ⟨rfl, G, hP, hD, hS⟩ := xG.of rfl B hml hv
  generalize hAe : va_A (wC cyI cyJ cyZ a S) sz = A at G hD hS ⊢
  have G : xG p s m _ meth c cX5_mapped 3 RX5 (some .int) wsX5_mapped (dC, dI) (tyA cyI cyJ cyZ) r A := G
  obtain ⟨hx, hb, hml, hown, hts, hr, hlocks, hK, hE, hA⟩ := id G
  have hiX5 : ∀ w ∈ wsX50, w ∈ wsX5_mapped := by decide +kernel
  have hf37 := hts (.fieldLink RX5 37 "CellMapping" "gates" "LCellMapping$Gates;") (by decide +kernel)
  have hl := lv_entry ([.ref (a 0), .int x1, .int x2]) (n := 3) (Nat.le_of_ble_eq_true rfl)
  rw [lg_entry_eq]
  generalize (lg_sl ([.ref (a 0), .int x1, .int x2]) ++ List.replicate (3 - (lg_sl ([.ref (a 0), .int x1, .int x2])).length) Slot.unset).toArray = ls at hl ⊢
  have hl : lv_has ls 3 [(0, .ref (a 0)), (1, .int x1), (2, .int x2)] := hl
  show W p l e { frames := 8, cells := 1, slots := 6, locals := 155 } s m _ below meth c s.heap [] 0 0 _ _
  unfold p_X5_mapped at h
  refine lv_aload_n hx hb dX5_mapped_0 rfl (lv_at hl 0 rfl) ?_
  refine lv_iload_n hx hb dX5_mapped_1 rfl (lv_at hl 1 rfl) ?_
  refine xt_Vv (wf := wC cyI cyJ cyZ a) (wr := []) (isC := [0, 1, 2, 3, 4, 5, 6, 7, 8, 9, 10, 11, 12, 13, 14, 15, 16, 17, 18, 19, 20]) (isR := []) (As := [.int x1]) (rest := []) ⟨hx, hb, hml, hown, hts⟩ (t_X5_requireLiteral hl0 h) (cwV 1 hts gX5_mapped_X5_requireLiteral rfl rfl rfl (by decide +kernel) ⟨Nat.le_of_ble_eq_true rfl, Nat.le_of_ble_eq_true rfl⟩) ⟨hK, hE, hA, hP, hD, hS, rfl, rfl, rfl, rfl, by decide⟩ ⟨0, 4, _, _, rfl, rfl, rfl⟩ rfl rfl hl.1 (Nat.le_of_ble_eq_true rfl) dX5_mapped_2 ⟨Nat.le_of_ble_eq_true rfl, Nat.le_of_ble_eq_true rfl⟩ (fun E ce q S1 H locs h hP hD hS hce hcv hcl => ?_) (fun  S1 H locs h hP hD hS => ?_)
  · obtain ⟨rfl, h⟩ := h
    have hP : va_P (dC, dI) vwCl (wC cyI cyJ cyZ a S) H := hP
    have hD : va_D A (wC cyI cyJ cyZ a S) := hD
    exact xx_pass (S := S) ht hlocks hK hP hD hS h hce hcv hcl (Nat.le_of_ble_eq_true rfl) (Nat.le_of_ble_eq_true rfl)
  obtain ⟨rfl, h⟩ := h
  have hP : va_P (dC, dI) vwCl (wC cyI cyJ cyZ a S) H := hP
  have hD : va_D A (wC cyI cyJ cyZ a S) := hD
  refine lv_aload_n hx hb dX5_mapped_5 rfl (lv_at hl 0 rfl) ?_
  refine va_get (D := (dC, dI)) (ci := 4) (v := .ref (a 4)) (C := RX5) (T := TX5) (N := 6) hx hb hts hiX5 hown hK hP 0 rfl rfl 3 (by decide) hf37 (fun _ h9 => h9) rfl dX5_mapped_6 ?_
  refine xc_Vv (wf := wC cyI cyJ cyZ a) (wr := []) (isC := [0, 1, 2, 3, 4, 5, 6, 7, 8, 9, 10, 11, 12, 13, 14, 15, 16, 17, 18, 19, 20]) (isR := []) (As := []) (rest := []) ⟨hx, hb, hml, hown, hts⟩ (t_X1_settle h) (cwV 0 hts gX5_mapped_X1_settle rfl rfl rfl (by decide +kernel) ⟨Nat.le_of_ble_eq_true rfl, Nat.le_of_ble_eq_true rfl⟩) ⟨hK, hE, hA, hP, hD, hS, rfl, rfl, rfl, rfl, by decide⟩ ⟨4, 1, _, _, rfl, rfl, rfl⟩ rfl rfl hl.1 (Nat.le_of_ble_eq_true rfl) dX5_mapped_9 ⟨Nat.le_of_ble_eq_true rfl, Nat.le_of_ble_eq_true rfl⟩ (fun  S2 H locs h hP hD hS => ?_)
  have hP : va_P (dC, dI) vwCl (wC cyI cyJ cyZ a S2) H := hP
  have hD : va_D A (wC cyI cyJ cyZ a S2) := hD
  refine lv_aload_n hx hb dX5_mapped_12 rfl (lv_at hl 0 rfl) ?_
  refine va_get (D := (dC, dI)) (ci := 4) (v := .ref (a 4)) (C := RX5) (T := TX5) (N := 6) hx hb hts hiX5 hown hK hP 0 rfl rfl 3 (by decide) hf37 (fun _ h9 => h9) rfl dX5_mapped_13 ?_
  refine lv_iload_n hx hb dX5_mapped_16 rfl (lv_at hl 1 rfl) ?_
  refine xc_Vi (wf := wC cyI cyJ cyZ a) (wr := []) (isC := [0, 1, 2, 3, 4, 5, 6, 7, 8, 9, 10, 11, 12, 13, 14, 15, 16, 17, 18, 19, 20]) (isR := []) (As := [.int x1]) (rest := []) ⟨hx, hb, hml, hown, hts⟩ (t_X1_isThere h) (cwV 1 hts gX5_mapped_X1_isThere rfl rfl rfl (by decide +kernel) ⟨Nat.le_of_ble_eq_true rfl, Nat.le_of_ble_eq_true rfl⟩) ⟨hK, hE, hA, hP, hD, hS, rfl, rfl, rfl, rfl, by decide⟩ ⟨4, 1, _, _, rfl, rfl, rfl⟩ rfl rfl hl.1 (Nat.le_of_ble_eq_true rfl) dX5_mapped_17 ⟨Nat.le_of_ble_eq_true rfl, Nat.le_of_ble_eq_true rfl⟩ (fun r3 S4 H locs h hP hD hS => ?_)
  obtain ⟨rfl, h⟩ := h
  have hP : va_P (dC, dI) vwCl (wC cyI cyJ cyZ a S2) H := hP
  have hD : va_D A (wC cyI cyJ cyZ a S2) := hD
  refine lv_if_eq (tgt := 35) hx hb dX5_mapped_20 (by decide) (fun c5 => ?_) (fun c5 => ?_)
  · have h := h.1 c5
    refine lv_iconst (v := -1) hx hb dX5_mapped_35 (by decide) ?_
    exact vx_ret (xr_i (S := S2) hx hb hr hlocks hK hP hD hS h (Nat.le_of_ble_eq_true rfl) (Nat.le_of_ble_eq_true rfl) dX5_mapped_36)
  · have h := h.2 c5
    refine lv_aload_n hx hb dX5_mapped_23 rfl (lv_at hl 0 rfl) ?_
    refine va_get (D := (dC, dI)) (ci := 4) (v := .ref (a 4)) (C := RX5) (T := TX5) (N := 6) hx hb hts hiX5 hown hK hP 0 rfl rfl 3 (by decide) hf37 (fun _ h9 => h9) rfl dX5_mapped_24 ?_
    refine lv_iload_n hx hb dX5_mapped_27 rfl (lv_at hl 1 rfl) ?_
    refine lv_iload_n hx hb dX5_mapped_28 rfl (lv_at hl 2 rfl) ?_
    refine xc_Vi (wf := wC cyI cyJ cyZ a) (wr := []) (isC := [0, 1, 2, 3, 4, 5, 6, 7, 8, 9, 10, 11, 12, 13, 14, 15, 16, 17, 18, 19, 20]) (isR := []) (As := [.int x1, .int x2]) (rest := []) ⟨hx, hb, hml, hown, hts⟩ (t_X1_evaluate h) (cwV 2 hts gX5_mapped_X1_evaluate rfl rfl rfl (by decide +kernel) ⟨Nat.le_of_ble_eq_true rfl, Nat.le_of_ble_eq_true rfl⟩) ⟨hK, hE, hA, hP, hD, hS, rfl, rfl, rfl, rfl, by decide⟩ ⟨4, 1, _, _, rfl, rfl, rfl⟩ rfl rfl hl.1 (Nat.le_of_ble_eq_true rfl) dX5_mapped_29 ⟨Nat.le_of_ble_eq_true rfl, Nat.le_of_ble_eq_true rfl⟩ (fun r6 S7 H locs h hP hD hS => ?_)
    obtain ⟨rfl, h⟩ := h
    have hP : va_P (dC, dI) vwCl (wC cyI cyJ cyZ a S2) H := hP
    have hD : va_D A (wC cyI cyJ cyZ a S2) := hD
    refine lv_goto (tgt := 36) hx hb dX5_mapped_32 (by decide) ?_
    exact vx_ret (xr_i (S := S2) hx hb hr hlocks hK hP hD hS h (Nat.le_of_ble_eq_true rfl) (Nat.le_of_ble_eq_true rfl) dX5_mapped_36)
def p_X5_count (S : CS) (x1 : Int32) (post : Int32 → Prop) (px : String → Prop) : Prop := (x1 = (0 : Int32) → (post (cNC S))) ∧ (¬ x1 = (0 : Int32) → ((x1 = (1 : Int32) → (post (cIC S))) ∧ (¬ x1 = (1 : Int32) → ((x1 = (2 : Int32) → (post (cOC S))) ∧ (¬ x1 = (2 : Int32) → ((x1 = (3 : Int32) → (post (cCC S))) ∧ (¬ x1 = (3 : Int32) → (px "java/lang/IndexOutOfBoundsException"))))))))
set_option maxHeartbeats 1000000 in
set_option maxRecDepth 100000 in
theorem t_X5_count {l : Launch} {dC : Nat → ClassId} {dI : Nat → Nat → Nat} {cyI cyJ cyZ : ClassId} {r : Nat → Nat} {a : Nat → Nat} {S : CS} {x1 : Int32} {post : Int32 → Prop} {px : String → Prop} (hl0 : l.stackTraces = false) (h : p_X5_count S x1 post px) : xXi l yX5_count wsX5_count { frames := 6, cells := 1, slots := 6, locals := 81 } (dC, dI) (tyA cyI cyJ cyZ) r (wC cyI cyJ cyZ a) [.ref (a 0), .int x1] S (fun x u => S = u ∧ post x) (fun E u => S = u ∧ px E) 1 6 := by
  intro sz
  refine vx_ofW (cc := cX5_count) (maxL := 2) (ret := (some .int)) (by decide) rfl ?_
  intro p e s m args below meth c s₁ B hml ht hv
  obtain ⟨rfl, G, hP, hD, hS⟩ := xG.of rfl B hml hv
  generalize hAe : va_A (wC cyI cyJ cyZ a S) sz = A at G hD hS ⊢
  have G : xG p s m _ meth c cX5_count 2 RX5 (some .int) wsX5_count (dC, dI) (tyA cyI cyJ cyZ) r A := G
  obtain ⟨hx, hb, hml, hown, hts, hr, hlocks, hK, hE, hA⟩ := id G
  have hiX5 : ∀ w ∈ wsX50, w ∈ wsX5_count := by decide +kernel
  have hf10 := hts (.fieldLink RX5 10 "CellMapping" "graph" "LCellMapping$Graph;") (by decide +kernel)
  have hiX2 : ∀ w ∈ wsX20, w ∈ wsX5_count := by decide +kernel
  have hf66 := hts (.fieldLink RX5 66 "CellMapping$Graph" "nodeCount" "I") (by decide +kernel)
  have hf49 := hts (.fieldLink RX5 49 "CellMapping$Graph" "inputCount" "I") (by decide +kernel)
  have hf45 := hts (.fieldLink RX5 45 "CellMapping" "outputCount" "I") (by decide +kernel)
  have hf28 := hts (.fieldLink RX5 28 "CellMapping" "shelf" "LCellMapping$Shelf;") (by decide +kernel)
  have hiX3 : ∀ w ∈ wsX30, w ∈ wsX5_count := by decide +kernel
  have hf73 := hts (.fieldLink RX5 73 "CellMapping$Shelf" "cellCount" "I") (by decide +kernel)
  have hl := lv_entry ([.ref (a 0), .int x1]) (n := 2) (Nat.le_of_ble_eq_true rfl)
  rw [lg_entry_eq]
  generalize (lg_sl ([.ref (a 0), .int x1]) ++ List.replicate (2 - (lg_sl ([.ref (a 0), .int x1])).length) Slot.unset).toArray = ls at hl ⊢
  have hl : lv_has ls 2 [(0, .ref (a 0)), (1, .int x1)] := hl
  show W p l e { frames := 6, cells := 1, slots := 6, locals := 81 } s m _ below meth c s.heap [] 0 0 _ _
  unfold p_X5_count at h
  refine lv_iload_n hx hb dX5_count_0 rfl (lv_at hl 1 rfl) ?_
  by_cases c1 : x1 = (0 : Int32)
  · have h := h.1 c1
    refine lv_tableIn (tgt := 32) (off := 31) hx hb dX5_count_1 (by rw [c1]; decide) (by rw [c1]; decide) (by rw [c1]; rfl) (by decide) ?_
    refine lv_aload_n hx hb dX5_count_32 rfl (lv_at hl 0 rfl) ?_
    refine va_get (D := (dC, dI)) (ci := 4) (v := .ref (a 1)) (C := RX5) (T := TX5) (N := 6) hx hb hts hiX5 hown hK hP 0 rfl rfl 0 (by decide) hf10 (fun _ h9 => h9) rfl dX5_count_33 ?_
    refine va_get (D := (dC, dI)) (ci := 2) (v := .int (cNC S)) (C := RX2) (T := TX2) (N := 6) hx hb hts hiX2 hown hK hP 1 rfl rfl 4 (by decide) hf66 (fun _ h9 => h9) rfl dX5_count_36 ?_
    exact vx_ret (xr_i (S := S) hx hb hr hlocks hK hP hD hS ⟨rfl, h⟩ (Nat.le_of_ble_eq_true rfl) (Nat.le_of_ble_eq_true rfl) dX5_count_39)
  · have h := h.2 c1
    by_cases c2 : x1 = (1 : Int32)
    · have h := h.1 c2
      refine lv_tableIn (tgt := 40) (off := 39) hx hb dX5_count_1 (by rw [c2]; decide) (by rw [c2]; decide) (by rw [c2]; rfl) (by decide) ?_
      refine lv_aload_n hx hb dX5_count_40 rfl (lv_at hl 0 rfl) ?_
      refine va_get (D := (dC, dI)) (ci := 4) (v := .ref (a 1)) (C := RX5) (T := TX5) (N := 6) hx hb hts hiX5 hown hK hP 0 rfl rfl 0 (by decide) hf10 (fun _ h9 => h9) rfl dX5_count_41 ?_
      refine va_get (D := (dC, dI)) (ci := 2) (v := .int (cIC S)) (C := RX2) (T := TX2) (N := 6) hx hb hts hiX2 hown hK hP 1 rfl rfl 5 (by decide) hf49 (fun _ h9 => h9) rfl dX5_count_44 ?_
      exact vx_ret (xr_i (S := S) hx hb hr hlocks hK hP hD hS ⟨rfl, h⟩ (Nat.le_of_ble_eq_true rfl) (Nat.le_of_ble_eq_true rfl) dX5_count_47)
    · have h := h.2 c2
      by_cases c3 : x1 = (2 : Int32)
      · have h := h.1 c3
        refine lv_tableIn (tgt := 48) (off := 47) hx hb dX5_count_1 (by rw [c3]; decide) (by rw [c3]; decide) (by rw [c3]; rfl) (by decide) ?_
        refine lv_aload_n hx hb dX5_count_48 rfl (lv_at hl 0 rfl) ?_
        refine va_get (D := (dC, dI)) (ci := 4) (v := .int (cOC S)) (C := RX5) (T := TX5) (N := 6) hx hb hts hiX5 hown hK hP 0 rfl rfl 5 (by decide) hf45 (fun _ h9 => h9) rfl dX5_count_49 ?_
        exact vx_ret (xr_i (S := S) hx hb hr hlocks hK hP hD hS ⟨rfl, h⟩ (Nat.le_of_ble_eq_true rfl) (Nat.le_of_ble_eq_true rfl) dX5_count_52)
      · have h := h.2 c3
        by_cases c4 : x1 = (3 : Int32)
        · have h := h.1 c4
          refine lv_tableIn (tgt := 53) (off := 52) hx hb dX5_count_1 (by rw [c4]; decide) (by rw [c4]; decide) (by rw [c4]; rfl) (by decide) ?_
          refine lv_aload_n hx hb dX5_count_53 rfl (lv_at hl 0 rfl) ?_
          refine va_get (D := (dC, dI)) (ci := 4) (v := .ref (a 3)) (C := RX5) (T := TX5) (N := 6) hx hb hts hiX5 hown hK hP 0 rfl rfl 2 (by decide) hf28 (fun _ h9 => h9) rfl dX5_count_54 ?_
          refine va_get (D := (dC, dI)) (ci := 3) (v := .int (cCC S)) (C := RX3) (T := TX3) (N := 6) hx hb hts hiX3 hown hK hP 3 rfl rfl 5 (by decide) hf73 (fun _ h9 => h9) rfl dX5_count_57 ?_
          exact vx_ret (xr_i (S := S) hx hb hr hlocks hK hP hD hS ⟨rfl, h⟩ (Nat.le_of_ble_eq_true rfl) (Nat.le_of_ble_eq_true rfl) dX5_count_60)
        · have h := h.2 c4
          refine lv_tableOut (tgt := 61) hx hb dX5_count_1 (xsw_out c1 c2 c3 c4) (by decide) ?_
          exact xx_throw (S := S) (names := ["java/lang/RuntimeException", "java/lang/Exception"]) hx hb hl0 hown (by decide +kernel) (by decide +kernel) hts (by decide +kernel) (by decide +kernel) (by decide +kernel) (by decide +kernel) (by decide +kernel) hE.2.2.2.2.2.1 hE hK hP hD hS (hl.1.trans hml.symm) dX5_count_61 dX5_count_64 dX5_count_65 dX5_count_68 ht (Nat.le_of_ble_eq_true rfl) (Nat.le_of_ble_eq_true rfl) (Nat.le_of_ble_eq_true rfl) (Nat.le_of_ble_eq_true rfl) hlocks ⟨rfl, h⟩ (Nat.le_of_ble_eq_true rfl) (Nat.le_of_ble_eq_true rfl)
def p_X5_clear (S : CS) (post : CS → Prop) : Prop := p_X2_empty S (fun S1 => p_X3_empty S1 (fun S2 => p_X1_forget S2 (fun S3 => ∀ S4 : CS, S4 = (cOC_s S3 (0 : Int32)) → (post S4))))
set_option maxHeartbeats 1000000 in
set_option maxRecDepth 100000 in
theorem t_X5_clear {l : Launch} {dC : Nat → ClassId} {dI : Nat → Nat → Nat} {cyI cyJ cyZ : ClassId} {r : Nat → Nat} {a : Nat → Nat} {S : CS} {post : CS → Prop} (h : p_X5_clear S post) : xMv l yX5_clear wsX5_clear { frames := 1, cells := 0, slots := 0, locals := 20 } (dC, dI) (tyA cyI cyJ cyZ) r (wC cyI cyJ cyZ a) [.ref (a 0)] S post 0 0 := by
  intro sz
  refine Met.ofW (cc := cX5_clear) (maxL := 1) (ret := none) (by decide) rfl ?_
  intro p e s m args below meth c s₁ B hml hv
  obtain ⟨rfl, G, hP, hD, hS⟩ := xG.of rfl B hml hv
  generalize hAe : va_A (wC cyI cyJ cyZ a S) sz = A at G hD hS ⊢
  have G : xG p s m _ meth c cX5_clear 1 RX5 none wsX5_clear (dC, dI) (tyA cyI cyJ cyZ) r A := G
  obtain ⟨hx, hb, hml, hown, hts, hr, hlocks, hK, hE, hA⟩ := id G
  have hiX5 : ∀ w ∈ wsX50, w ∈ wsX5_clear := by decide +kernel
  have hf10 := hts (.fieldLink RX5 10 "CellMapping" "graph" "LCellMapping$Graph;") (by decide +kernel)
  have hf28 := hts (.fieldLink RX5 28 "CellMapping" "shelf" "LCellMapping$Shelf;") (by decide +kernel)
  have hf37 := hts (.fieldLink RX5 37 "CellMapping" "gates" "LCellMapping$Gates;") (by decide +kernel)
  have hf45 := hts (.fieldLink RX5 45 "CellMapping" "outputCount" "I") (by decide +kernel)
  have hl := lv_entry ([.ref (a 0)]) (n := 1) (Nat.le_of_ble_eq_true rfl)
  rw [lg_entry_eq]
  generalize (lg_sl ([.ref (a 0)]) ++ List.replicate (1 - (lg_sl ([.ref (a 0)])).length) Slot.unset).toArray = ls at hl ⊢
  have hl : lv_has ls 1 [(0, .ref (a 0))] := hl
  show W p l e { frames := 1, cells := 0, slots := 0, locals := 20 } s m _ below meth c s.heap [] 0 0 _ _
  unfold p_X5_clear at h
  refine lv_aload_n hx hb dX5_clear_0 rfl (lv_at hl 0 rfl) ?_
  refine va_get (D := (dC, dI)) (ci := 4) (v := .ref (a 1)) (C := RX5) (T := TX5) (N := 6) hx hb hts hiX5 hown hK hP 0 rfl rfl 0 (by decide) hf10 (fun _ h9 => h9) rfl dX5_clear_1 ?_
  refine xc_Vv (wf := wC cyI cyJ cyZ a) (wr := []) (isC := [0, 1, 2, 3, 4, 5, 6, 7, 8, 9, 10, 11, 12, 13, 14, 15, 16, 17, 18, 19, 20]) (isR := []) (As := []) (rest := []) ⟨hx, hb, hml, hown, hts⟩ (t_X2_empty h) (cwV 0 hts gX5_clear_X2_empty rfl rfl rfl (by decide +kernel) ⟨Nat.le_of_ble_eq_true rfl, Nat.le_of_ble_eq_true rfl⟩) ⟨hK, hE, hA, hP, hD, hS, rfl, rfl, rfl, rfl, by decide⟩ ⟨1, 2, _, _, rfl, rfl, rfl⟩ rfl rfl hl.1 (Nat.le_of_ble_eq_true rfl) dX5_clear_4 ⟨Nat.le_of_ble_eq_true rfl, Nat.le_of_ble_eq_true rfl⟩ (fun  S1 H locs h hP hD hS => ?_)
  have hP : va_P (dC, dI) vwCl (wC cyI cyJ cyZ a S1) H := hP
  have hD : va_D A (wC cyI cyJ cyZ a S1) := hD
  refine lv_aload_n hx hb dX5_clear_7 rfl (lv_at hl 0 rfl) ?_
  refine va_get (D := (dC, dI)) (ci := 4) (v := .ref (a 3)) (C := RX5) (T := TX5) (N := 6) hx hb hts hiX5 hown hK hP 0 rfl rfl 2 (by decide) hf28 (fun _ h9 => h9) rfl dX5_clear_8 ?_
  refine xc_Vv (wf := wC cyI cyJ cyZ a) (wr := []) (isC := [0, 1, 2, 3, 4, 5, 6, 7, 8, 9, 10, 11, 12, 13, 14, 15, 16, 17, 18, 19, 20]) (isR := []) (As := []) (rest := []) ⟨hx, hb, hml, hown, hts⟩ (t_X3_empty h) (cwV 0 hts gX5_clear_X3_empty rfl rfl rfl (by decide +kernel) ⟨Nat.le_of_ble_eq_true rfl, Nat.le_of_ble_eq_true rfl⟩) ⟨hK, hE, hA, hP, hD, hS, rfl, rfl, rfl, rfl, by decide⟩ ⟨3, 3, _, _, rfl, rfl, rfl⟩ rfl rfl hl.1 (Nat.le_of_ble_eq_true rfl) dX5_clear_11 ⟨Nat.le_of_ble_eq_true rfl, Nat.le_of_ble_eq_true rfl⟩ (fun  S2 H locs h hP hD hS => ?_)
  have hP : va_P (dC, dI) vwCl (wC cyI cyJ cyZ a S2) H := hP
  have hD : va_D A (wC cyI cyJ cyZ a S2) := hD
  refine lv_aload_n hx hb dX5_clear_14 rfl (lv_at hl 0 rfl) ?_
  refine va_get (D := (dC, dI)) (ci := 4) (v := .ref (a 4)) (C := RX5) (T := TX5) (N := 6) hx hb hts hiX5 hown hK hP 0 rfl rfl 3 (by decide) hf37 (fun _ h9 => h9) rfl dX5_clear_15 ?_
  refine xc_Vv (wf := wC cyI cyJ cyZ a) (wr := []) (isC := [0, 1, 2, 3, 4, 5, 6, 7, 8, 9, 10, 11, 12, 13, 14, 15, 16, 17, 18, 19, 20]) (isR := []) (As := []) (rest := []) ⟨hx, hb, hml, hown, hts⟩ (t_X1_forget h) (cwV 0 hts gX5_clear_X1_forget rfl rfl rfl (by decide +kernel) ⟨Nat.le_of_ble_eq_true rfl, Nat.le_of_ble_eq_true rfl⟩) ⟨hK, hE, hA, hP, hD, hS, rfl, rfl, rfl, rfl, by decide⟩ ⟨4, 1, _, _, rfl, rfl, rfl⟩ rfl rfl hl.1 (Nat.le_of_ble_eq_true rfl) dX5_clear_18 ⟨Nat.le_of_ble_eq_true rfl, Nat.le_of_ble_eq_true rfl⟩ (fun  S3 H locs h hP hD hS => ?_)
  have hP : va_P (dC, dI) vwCl (wC cyI cyJ cyZ a S3) H := hP
  have hD : va_D A (wC cyI cyJ cyZ a S3) := hD
  refine lv_aload_n hx hb dX5_clear_21 rfl (lv_at hl 0 rfl) ?_
  refine lv_iconst (v := 0) hx hb dX5_clear_22 (by decide) ?_
  refine va_put (D := (dC, dI)) (ci := 4) (v := .int (0 : Int32)) (ty := .int) (C := RX5) (T := TX5) (N := 6) hx hb hts hiX5 tyX5 tyX5_ok nmX5 hown hK hP hD hS 0 rfl rfl 5 (by decide) hf45 (fun _ h9 => h9) rfl (by decide +kernel) rfl rfl (Nat.le_of_ble_eq_true rfl) dX5_clear_23 (fun H locs hP hD hS => ?_)
  obtain ⟨S4, eS4⟩ : ∃ z : CS, z = (cOC_s S3 (0 : Int32)) := ⟨_, rfl⟩
  have h := h S4 eS4
  have hP := nP_cOC eS4 hP
  have hD := nD_cOC eS4 hD
  exact xr_v (S := S4) hx hb hr hlocks hK hP hD hS h (Nat.le_of_ble_eq_true rfl) (Nat.le_of_ble_eq_true rfl) dX5_clear_26
