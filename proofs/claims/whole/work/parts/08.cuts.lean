def p_X0_size (S : CS) (x1 : Int32) (post : Int32 → Prop) : Prop := vp_in (x1 + (1 : Int32)) 33 ∧ (vp_in x1 33 ∧ (post (((cST S) (x1 + (1 : Int32)).toNatClampNeg) - ((cST S) x1.toNatClampNeg))))
set_option maxHeartbeats 1000000 in
set_option maxRecDepth 100000 in
theorem t_X0_size {l : Launch} {dC : Nat → ClassId} {dI : Nat → Nat → Nat} {cyI cyJ cyZ : ClassId} {r : Nat → Nat} {a : Nat → Nat} {S : CS} {x1 : Int32} {post : Int32 → Prop} (h : p_X0_size S x1 post) : xMi l yX0_size wsX0_size { frames := 0, cells := 0, slots := 0, locals := 0 } (dC, dI) (tyA cyI cyJ cyZ) r (wC cyI cyJ cyZ a) [.ref (a 2), .int x1] S (fun x u => S = u ∧ post x) 0 0 := by
  intro sz
  refine Met.ofW (cc := cX0_size) (maxL := 2) (ret := (some .int)) (by decide) rfl ?_
  intro p e s m args below meth c s₁ B hml hv
  obtain ⟨rfl, G, hP, hD, hS⟩ := xG.of rfl B hml hv
  generalize hAe : va_A (wC cyI cyJ cyZ a S) sz = A at G hD hS ⊢
  have G : xG p s m _ meth c cX0_size 2 RX0 (some .int) wsX0_size (dC, dI) (tyA cyI cyJ cyZ) r A := G
  obtain ⟨hx, hb, hml, hown, hts, hr, hlocks, hK, hE, hA⟩ := id G
  have hiX0 : ∀ w ∈ wsX00, w ∈ wsX0_size := by decide +kernel
  have hf9 := hts (.fieldLink RX0 9 "CellMapping$CutTable" "start" "[I") (by decide +kernel)
  have hl := lv_entry ([.ref (a 2), .int x1]) (n := 2) (Nat.le_of_ble_eq_true rfl)
  rw [lg_entry_eq]
  generalize (lg_sl ([.ref (a 2), .int x1]) ++ List.replicate (2 - (lg_sl ([.ref (a 2), .int x1])).length) Slot.unset).toArray = ls at hl ⊢
  have hl : lv_has ls 2 [(0, .ref (a 2)), (1, .int x1)] := hl
  show W p l e { frames := 0, cells := 0, slots := 0, locals := 0 } s m _ below meth c s.heap [] 0 0 _ _
  unfold p_X0_size at h
  refine lv_aload_n hx hb dX0_size_0 rfl (lv_at hl 0 rfl) ?_
  refine va_get (D := (dC, dI)) (ci := 0) (v := .ref (a 10)) (C := RX0) (T := TX0) (N := 5) hx hb hts hiX0 hown hK hP 2 rfl rfl 1 (by decide) hf9 (fun _ h9 => h9) rfl dX0_size_1 ?_
  refine lv_iload_n hx hb dX0_size_4 rfl (lv_at hl 1 rfl) ?_
  refine lv_iconst (v := 1) hx hb dX0_size_5 (by decide) ?_
  refine lv_iadd hx hb dX0_size_6 ?_
  obtain ⟨i1, h⟩ := h
  refine va_iald (D := (dC, dI)) hx hb hK hP 10 0 rfl rfl i1 dX0_size_7 ?_
  refine lv_aload_n hx hb dX0_size_8 rfl (lv_at hl 0 rfl) ?_
  refine va_get (D := (dC, dI)) (ci := 0) (v := .ref (a 10)) (C := RX0) (T := TX0) (N := 5) hx hb hts hiX0 hown hK hP 2 rfl rfl 1 (by decide) hf9 (fun _ h9 => h9) rfl dX0_size_9 ?_
  refine lv_iload_n hx hb dX0_size_12 rfl (lv_at hl 1 rfl) ?_
  obtain ⟨i2, h⟩ := h
  refine va_iald (D := (dC, dI)) hx hb hK hP 10 0 rfl rfl i2 dX0_size_13 ?_
  refine lv_isub hx hb dX0_size_14 ?_
  exact xr_i (S := S) hx hb hr hlocks hK hP hD hS ⟨rfl, h⟩ (Nat.le_of_ble_eq_true rfl) (Nat.le_of_ble_eq_true rfl) dX0_size_15
def p_X0_leavesAt (S : CS) (x1 : Int32) (x2 : Int32) (post : Int32 → Prop) : Prop := vp_in x1 33 ∧ (vp_in (((cST S) x1.toNatClampNeg) + x2) (cLVn S) ∧ (post ((cLV S) (((cST S) x1.toNatClampNeg) + x2).toNatClampNeg)))
set_option maxHeartbeats 1000000 in
set_option maxRecDepth 100000 in
theorem t_X0_leavesAt {l : Launch} {dC : Nat → ClassId} {dI : Nat → Nat → Nat} {cyI cyJ cyZ : ClassId} {r : Nat → Nat} {a : Nat → Nat} {S : CS} {x1 : Int32} {x2 : Int32} {post : Int32 → Prop} (h : p_X0_leavesAt S x1 x2 post) : xMi l yX0_leavesAt wsX0_leavesAt { frames := 0, cells := 0, slots := 0, locals := 0 } (dC, dI) (tyA cyI cyJ cyZ) r (wC cyI cyJ cyZ a) [.ref (a 2), .int x1, .int x2] S (fun x u => S = u ∧ post x) 0 0 := by
  intro sz
  refine Met.ofW (cc := cX0_leavesAt) (maxL := 3) (ret := (some .int)) (by decide) rfl ?_
  intro p e s m args below meth c s₁ B hml hv
  obtain ⟨rfl, G, hP, hD, hS⟩ := xG.of rfl B hml hv
  generalize hAe : va_A (wC cyI cyJ cyZ a S) sz = A at G hD hS ⊢
  have G : xG p s m _ meth c cX0_leavesAt 3 RX0 (some .int) wsX0_leavesAt (dC, dI) (tyA cyI cyJ cyZ) r A := G
  obtain ⟨hx, hb, hml, hown, hts, hr, hlocks, hK, hE, hA⟩ := id G
  have hiX0 : ∀ w ∈ wsX00, w ∈ wsX0_leavesAt := by decide +kernel
  have hf18 := hts (.fieldLink RX0 18 "CellMapping$CutTable" "leaves" "[I") (by decide +kernel)
  have hf9 := hts (.fieldLink RX0 9 "CellMapping$CutTable" "start" "[I") (by decide +kernel)
  have hl := lv_entry ([.ref (a 2), .int x1, .int x2]) (n := 3) (Nat.le_of_ble_eq_true rfl)
  rw [lg_entry_eq]
  generalize (lg_sl ([.ref (a 2), .int x1, .int x2]) ++ List.replicate (3 - (lg_sl ([.ref (a 2), .int x1, .int x2])).length) Slot.unset).toArray = ls at hl ⊢
  have hl : lv_has ls 3 [(0, .ref (a 2)), (1, .int x1), (2, .int x2)] := hl
  show W p l e { frames := 0, cells := 0, slots := 0, locals := 0 } s m _ below meth c s.heap [] 0 0 _ _
  unfold p_X0_leavesAt at h
  refine lv_aload_n hx hb dX0_leavesAt_0 rfl (lv_at hl 0 rfl) ?_
  refine va_get (D := (dC, dI)) (ci := 0) (v := .ref (cLVa S)) (C := RX0) (T := TX0) (N := 5) hx hb hts hiX0 hown hK hP 2 rfl rfl 3 (by decide) hf18 (fun _ h9 => h9) rfl dX0_leavesAt_1 ?_
  refine lv_aload_n hx hb dX0_leavesAt_4 rfl (lv_at hl 0 rfl) ?_
  refine va_get (D := (dC, dI)) (ci := 0) (v := .ref (a 10)) (C := RX0) (T := TX0) (N := 5) hx hb hts hiX0 hown hK hP 2 rfl rfl 1 (by decide) hf9 (fun _ h9 => h9) rfl dX0_leavesAt_5 ?_
  refine lv_iload_n hx hb dX0_leavesAt_8 rfl (lv_at hl 1 rfl) ?_
  obtain ⟨i1, h⟩ := h
  refine va_iald (D := (dC, dI)) hx hb hK hP 10 0 rfl rfl i1 dX0_leavesAt_9 ?_
  refine lv_iload_n hx hb dX0_leavesAt_10 rfl (lv_at hl 2 rfl) ?_
  refine lv_iadd hx hb dX0_leavesAt_11 ?_
  obtain ⟨i2, h⟩ := h
  refine va_iald (D := (dC, dI)) hx hb hK hP 19 0 rfl rfl i2 dX0_leavesAt_12 ?_
  exact xr_i (S := S) hx hb hr hlocks hK hP hD hS ⟨rfl, h⟩ (Nat.le_of_ble_eq_true rfl) (Nat.le_of_ble_eq_true rfl) dX0_leavesAt_13
def p_X0_functionAt (S : CS) (x1 : Int32) (x2 : Int32) (post : Int32 → Prop) : Prop := vp_in x1 33 ∧ (vp_in (((cST S) x1.toNatClampNeg) + x2) (cFNn S) ∧ (post ((cFN S) (((cST S) x1.toNatClampNeg) + x2).toNatClampNeg)))
set_option maxHeartbeats 1000000 in
set_option maxRecDepth 100000 in
theorem t_X0_functionAt {l : Launch} {dC : Nat → ClassId} {dI : Nat → Nat → Nat} {cyI cyJ cyZ : ClassId} {r : Nat → Nat} {a : Nat → Nat} {S : CS} {x1 : Int32} {x2 : Int32} {post : Int32 → Prop} (h : p_X0_functionAt S x1 x2 post) : xMi l yX0_functionAt wsX0_functionAt { frames := 0, cells := 0, slots := 0, locals := 0 } (dC, dI) (tyA cyI cyJ cyZ) r (wC cyI cyJ cyZ a) [.ref (a 2), .int x1, .int x2] S (fun x u => S = u ∧ post x) 0 0 := by
  intro sz
  refine Met.ofW (cc := cX0_functionAt) (maxL := 3) (ret := (some .int)) (by decide) rfl ?_
  intro p e s m args below meth c s₁ B hml hv
  obtain ⟨rfl, G, hP, hD, hS⟩ := xG.of rfl B hml hv
  generalize hAe : va_A (wC cyI cyJ cyZ a S) sz = A at G hD hS ⊢
  have G : xG p s m _ meth c cX0_functionAt 3 RX0 (some .int) wsX0_functionAt (dC, dI) (tyA cyI cyJ cyZ) r A := G
  obtain ⟨hx, hb, hml, hown, hts, hr, hlocks, hK, hE, hA⟩ := id G
  have hiX0 : ∀ w ∈ wsX00, w ∈ wsX0_functionAt := by decide +kernel
  have hf21 := hts (.fieldLink RX0 21 "CellMapping$CutTable" "functions" "[I") (by decide +kernel)
  have hf9 := hts (.fieldLink RX0 9 "CellMapping$CutTable" "start" "[I") (by decide +kernel)
  have hl := lv_entry ([.ref (a 2), .int x1, .int x2]) (n := 3) (Nat.le_of_ble_eq_true rfl)
  rw [lg_entry_eq]
  generalize (lg_sl ([.ref (a 2), .int x1, .int x2]) ++ List.replicate (3 - (lg_sl ([.ref (a 2), .int x1, .int x2])).length) Slot.unset).toArray = ls at hl ⊢
  have hl : lv_has ls 3 [(0, .ref (a 2)), (1, .int x1), (2, .int x2)] := hl
  show W p l e { frames := 0, cells := 0, slots := 0, locals := 0 } s m _ below meth c s.heap [] 0 0 _ _
  unfold p_X0_functionAt at h
  refine lv_aload_n hx hb dX0_functionAt_0 rfl (lv_at hl 0 rfl) ?_
  refine va_get (D := (dC, dI)) (ci := 0) (v := .ref (cFNa S)) (C := RX0) (T := TX0) (N := 5) hx hb hts hiX0 hown hK hP 2 rfl rfl 4 (by decide) hf21 (fun _ h9 => h9) rfl dX0_functionAt_1 ?_
  refine lv_aload_n hx hb dX0_functionAt_4 rfl (lv_at hl 0 rfl) ?_
  refine va_get (D := (dC, dI)) (ci := 0) (v := .ref (a 10)) (C := RX0) (T := TX0) (N := 5) hx hb hts hiX0 hown hK hP 2 rfl rfl 1 (by decide) hf9 (fun _ h9 => h9) rfl dX0_functionAt_5 ?_
  refine lv_iload_n hx hb dX0_functionAt_8 rfl (lv_at hl 1 rfl) ?_
  obtain ⟨i1, h⟩ := h
  refine va_iald (D := (dC, dI)) hx hb hK hP 10 0 rfl rfl i1 dX0_functionAt_9 ?_
  refine lv_iload_n hx hb dX0_functionAt_10 rfl (lv_at hl 2 rfl) ?_
  refine lv_iadd hx hb dX0_functionAt_11 ?_
  obtain ⟨i2, h⟩ := h
  refine va_iald (D := (dC, dI)) hx hb hK hP 20 0 rfl rfl i2 dX0_functionAt_12 ?_
  exact xr_i (S := S) hx hb hr hlocks hK hP hD hS ⟨rfl, h⟩ (Nat.le_of_ble_eq_true rfl) (Nat.le_of_ble_eq_true rfl) dX0_functionAt_13
def p_X0_cutOrItself (S : CS) (x1 : Int32) (x2 : Int32) (post : Int32 → Prop) : Prop := p_X0_size S x1 (fun r1 => (r1 ≤ x2 → (post ((1 : Int32) <<< (x1 &&& 31)))) ∧ (¬ r1 ≤ x2 → (p_X0_leavesAt S x1 x2 (fun r4 => post r4))))
set_option maxHeartbeats 1000000 in
set_option maxRecDepth 100000 in
theorem t_X0_cutOrItself {l : Launch} {dC : Nat → ClassId} {dI : Nat → Nat → Nat} {cyI cyJ cyZ : ClassId} {r : Nat → Nat} {a : Nat → Nat} {S : CS} {x1 : Int32} {x2 : Int32} {post : Int32 → Prop} (h : p_X0_cutOrItself S x1 x2 post) : xMi l yX0_cutOrItself wsX0_cutOrItself { frames := 1, cells := 0, slots := 0, locals := 22 } (dC, dI) (tyA cyI cyJ cyZ) r (wC cyI cyJ cyZ a) [.ref (a 2), .int x1, .int x2] S (fun x u => S = u ∧ post x) 0 0 := by
  intro sz
  refine Met.ofW (cc := cX0_cutOrItself) (maxL := 3) (ret := (some .int)) (by decide) rfl ?_
  intro p e s m args below meth c s₁ B hml hv
  obtain ⟨rfl, G, hP, hD, hS⟩ := xG.of rfl B hml hv
  generalize hAe : va_A (wC cyI cyJ cyZ a S) sz = A at G hD hS ⊢
  have G : xG p s m _ meth c cX0_cutOrItself 3 RX0 (some .int) wsX0_cutOrItself (dC, dI) (tyA cyI cyJ cyZ) r A := G
  obtain ⟨hx, hb, hml, hown, hts, hr, hlocks, hK, hE, hA⟩ := id G
  have hl := lv_entry ([.ref (a 2), .int x1, .int x2]) (n := 3) (Nat.le_of_ble_eq_true rfl)
  rw [lg_entry_eq]
  generalize (lg_sl ([.ref (a 2), .int x1, .int x2]) ++ List.replicate (3 - (lg_sl ([.ref (a 2), .int x1, .int x2])).length) Slot.unset).toArray = ls at hl ⊢
  have hl : lv_has ls 3 [(0, .ref (a 2)), (1, .int x1), (2, .int x2)] := hl
  show W p l e { frames := 1, cells := 0, slots := 0, locals := 22 } s m _ below meth c s.heap [] 0 0 _ _
  unfold p_X0_cutOrItself at h
  refine lv_iload_n hx hb dX0_cutOrItself_0 rfl (lv_at hl 2 rfl) ?_
  refine lv_aload_n hx hb dX0_cutOrItself_1 rfl (lv_at hl 0 rfl) ?_
  refine lv_iload_n hx hb dX0_cutOrItself_2 rfl (lv_at hl 1 rfl) ?_
  refine xc_Vi (wf := wC cyI cyJ cyZ a) (wr := []) (isC := [0, 1, 2, 3, 4, 5, 6, 7, 8, 9, 10, 11, 12, 13, 14, 15, 16, 17, 18, 19, 20]) (isR := []) (As := [.int x1]) (rest := [.int x2]) ⟨hx, hb, hml, hown, hts⟩ (t_X0_size h) (cwV 1 hts gX0_cutOrItself_X0_size rfl rfl rfl (by decide +kernel) ⟨Nat.le_of_ble_eq_true rfl, Nat.le_of_ble_eq_true rfl⟩) ⟨hK, hE, hA, hP, hD, hS, rfl, rfl, rfl, rfl, by decide⟩ ⟨2, 0, _, _, rfl, rfl, rfl⟩ rfl rfl hl.1 (Nat.le_of_ble_eq_true rfl) dX0_cutOrItself_3 ⟨Nat.le_of_ble_eq_true rfl, Nat.le_of_ble_eq_true rfl⟩ (fun r1 S2 H locs h hP hD hS => ?_)
  obtain ⟨rfl, h⟩ := h
  have hP : va_P (dC, dI) vwCl (wC cyI cyJ cyZ a S) H := hP
  have hD : va_D A (wC cyI cyJ cyZ a S) := hD
  refine lv_icmp_ge (tgt := 18) hx hb dX0_cutOrItself_6 (by decide) (fun c3 => ?_) (fun c3 => ?_)
  · have h := h.1 c3
    refine lv_iconst (v := 1) hx hb dX0_cutOrItself_18 (by decide) ?_
    refine lv_iload_n hx hb dX0_cutOrItself_19 rfl (lv_at hl 1 rfl) ?_
    refine lv_ishl hx hb dX0_cutOrItself_20 ?_
    exact xr_i (S := S) hx hb hr hlocks hK hP hD hS ⟨rfl, h⟩ (Nat.le_of_ble_eq_true rfl) (Nat.le_of_ble_eq_true rfl) dX0_cutOrItself_21
  · have h := h.2 c3
    refine lv_aload_n hx hb dX0_cutOrItself_9 rfl (lv_at hl 0 rfl) ?_
    refine lv_iload_n hx hb dX0_cutOrItself_10 rfl (lv_at hl 1 rfl) ?_
    refine lv_iload_n hx hb dX0_cutOrItself_11 rfl (lv_at hl 2 rfl) ?_
    refine xc_Vi (wf := wC cyI cyJ cyZ a) (wr := []) (isC := [0, 1, 2, 3, 4, 5, 6, 7, 8, 9, 10, 11, 12, 13, 14, 15, 16, 17, 18, 19, 20]) (isR := []) (As := [.int x1, .int x2]) (rest := []) ⟨hx, hb, hml, hown, hts⟩ (t_X0_leavesAt h) (cwV 2 hts gX0_cutOrItself_X0_leavesAt rfl rfl rfl (by decide +kernel) ⟨Nat.le_of_ble_eq_true rfl, Nat.le_of_ble_eq_true rfl⟩) ⟨hK, hE, hA, hP, hD, hS, rfl, rfl, rfl, rfl, by decide⟩ ⟨2, 0, _, _, rfl, rfl, rfl⟩ rfl rfl hl.1 (Nat.le_of_ble_eq_true rfl) dX0_cutOrItself_12 ⟨Nat.le_of_ble_eq_true rfl, Nat.le_of_ble_eq_true rfl⟩ (fun r4 S5 H locs h hP hD hS => ?_)
    obtain ⟨rfl, h⟩ := h
    have hP : va_P (dC, dI) vwCl (wC cyI cyJ cyZ a S) H := hP
    have hD : va_D A (wC cyI cyJ cyZ a S) := hD
    refine lv_goto (tgt := 21) hx hb dX0_cutOrItself_15 (by decide) ?_
    exact xr_i (S := S) hx hb hr hlocks hK hP hD hS ⟨rfl, h⟩ (Nat.le_of_ble_eq_true rfl) (Nat.le_of_ble_eq_true rfl) dX0_cutOrItself_21
def b_X0_isMet_7 (S : CS) (x2 : Int32) (post : Int32 → Prop) (g7 : Int32 → Int32 → Prop) (x3 : Int32) (x4 : Int32) : Prop := (x4 < 0 → (post (1 : Int32))) ∧ (¬ x4 < 0 → ((¬ ((ushr (x3 &&& (x2 ^^^ (-1 : Int32))) x4) &&& (1 : Int32)) = (1 : Int32) → (∀ y4 : Int32, y4 = (x4 + (-1 : Int32)) → (g7 x3 y4))) ∧ (((ushr (x3 &&& (x2 ^^^ (-1 : Int32))) x4) &&& (1 : Int32)) = (1 : Int32) → (p_X2_isInput S x4 (fun r5 => (r5 = 0 → (vp_in x4 32 ∧ (vp_in x4 32 ∧ (∀ y10 : Int32, y10 = (x3 ||| (((1 : Int32) <<< ((((cLE S) x4.toNatClampNeg) >>> ((1 : Int32) &&& 31)) &&& 31)) ||| ((1 : Int32) <<< ((((cRI S) x4.toNatClampNeg) >>> ((1 : Int32) &&& 31)) &&& 31)))) → (∀ y11 : Int32, y11 = (x4 + (-1 : Int32)) → (g7 y10 y11)))))) ∧ (¬ r5 = 0 → (post (0 : Int32))))))))
def p_X0_isMet_7 (S : CS) (x2 : Int32) (x3 : Int32) (x4 : Int32) (post : Int32 → Prop) : Prop := ∃ (I : Int32 → Int32 → Prop) (mu : Int32 → Int32 → Nat), I x3 x4 ∧ ∀ (x3 : Int32) (x4 : Int32), I x3 x4 → b_X0_isMet_7 S x2 post (fun x3' x4' => I x3' x4' ∧ mu x3' x4' < mu x3 x4) x3 x4
set_option maxHeartbeats 1000000 in
set_option maxRecDepth 100000 in
theorem t_X0_isMet_7 {p : Program} {l : Launch} {e : Env} {s : State} {m : MethodId} {args : Array Value} {below : List Frame} {meth : Method} {c : Code} {dC : Nat → ClassId} {dI : Nat → Nat → Nat} {cyI cyJ cyZ : ClassId} {r : Nat → Nat} {a : Nat → Nat} {A : Nat → Prop} {S : CS} {x2 : Int32} {x3 : Int32} {x4 : Int32} {post : Int32 → Prop} (G : xG p s m args meth c cX0_isMet 5 RX0 (some .boolean) wsX0_isMet (dC, dI) (tyA cyI cyJ cyZ) r A) (h : p_X0_isMet_7 S x2 x3 x4 post) {H : Heap} {locs : List Loc} {ls : Array Slot} (hP : va_P (dC, dI) vwCl (wC cyI cyJ cyZ a S) H) (hD : va_D A (wC cyI cyJ cyZ a S)) (hS : va_S A s.heap H locs) (hl : lv_has ls 5 [(0, .ref (a 2)), (2, .int x2), (3, .int x3), (4, .int x4)]) : W p l e { frames := 1, cells := 0, slots := 0, locals := 21 } s m args below meth c H locs 0 0 (MQ below (va_Qi (fun x u => S = u ∧ post x) (xAt (dC, dI) (tyA cyI cyJ cyZ) (wC cyI cyJ cyZ a) A) A) args s 0 0 A) (F0 m 7 ls []) := by
  obtain ⟨hx, hb, hml, hown, hts, hr, hlocks, hK, hE, hA⟩ := id G
  have hiX0 : ∀ w ∈ wsX00, w ∈ wsX0_isMet := by decide +kernel
  have hf24 := hts (.fieldLink RX0 24 "CellMapping$CutTable" "graph" "LCellMapping$Graph;") (by decide +kernel)
  have hiX2 : ∀ w ∈ wsX20, w ∈ wsX0_isMet := by decide +kernel
  have hf32 := hts (.fieldLink RX0 32 "CellMapping$Graph" "left" "[I") (by decide +kernel)
  have hf35 := hts (.fieldLink RX0 35 "CellMapping$Graph" "right" "[I") (by decide +kernel)
  obtain ⟨I, mu, h0, hstep⟩ := h
  suffices hgo : ∀ (n : Nat) (x3 : Int32) (x4 : Int32), I x3 x4 → mu x3 x4 < n → ∀ (H : Heap) (locs : List Loc) (ls : Array Slot), va_P (dC, dI) vwCl (wC cyI cyJ cyZ a S) H → va_D A (wC cyI cyJ cyZ a S) → va_S A s.heap H locs → lv_has ls 5 [(0, .ref (a 2)), (2, .int x2), (3, .int x3), (4, .int x4)] → W p l e { frames := 1, cells := 0, slots := 0, locals := 21 } s m args below meth c H locs 0 0 (MQ below (va_Qi (fun x u => S = u ∧ post x) (xAt (dC, dI) (tyA cyI cyJ cyZ) (wC cyI cyJ cyZ a) A) A) args s 0 0 A) (F0 m 7 ls []) from hgo (mu x3 x4 + 1) x3 x4 h0 (Nat.lt_succ_self _) H locs ls hP hD hS hl
  clear h0 hP hD hS hl
  intro n
  induction n with
  | zero => intro x3 x4 _ h; exact absurd h (Nat.not_lt_zero _)
  | succ n ih =>
    intro x3 x4 hI hmu H locs ls hP hD hS hl
    have h := hstep x3 x4 hI
    unfold b_X0_isMet_7 at h
    have k7 : ∀ (x3' : Int32) (x4' : Int32) (H : Heap) (locs : List Loc) (ls : Array Slot), (fun x3' x4' => I x3' x4' ∧ mu x3' x4' < mu x3 x4) x3' x4' → va_P (dC, dI) vwCl (wC cyI cyJ cyZ a S) H → va_D A (wC cyI cyJ cyZ a S) → va_S A s.heap H locs → lv_has ls 5 [(0, .ref (a 2)), (2, .int x2), (3, .int x3'), (4, .int x4')] → W p l e { frames := 1, cells := 0, slots := 0, locals := 21 } s m args below meth c H locs 0 0 (MQ below (va_Qi (fun x u => S = u ∧ post x) (xAt (dC, dI) (tyA cyI cyJ cyZ) (wC cyI cyJ cyZ a) A) A) args s 0 0 A) (F0 m 7 ls []) := fun x3' x4' H locs ls hh hP hD hS hl => ih x3' x4' hh.1 (Nat.lt_of_lt_of_le hh.2 (Nat.le_of_lt_succ hmu)) H locs ls hP hD hS hl
    generalize (fun x3' x4' => I x3' x4' ∧ mu x3' x4' < mu x3 x4) = g7 at h k7
    refine lv_iload hx hb dX0_isMet_7 (lv_at hl 3 rfl) ?_
    refine lv_if_lt (tgt := 78) hx hb dX0_isMet_9 (by decide) (fun c2 => ?_) (fun c2 => ?_)
    · have h := h.1 c2
      refine lv_iconst (v := 1) hx hb dX0_isMet_78 (by decide) ?_
      exact xr_z (S := S) hx hb hr hlocks hK hP hD hS (by decide) ⟨rfl, h⟩ (Nat.le_of_ble_eq_true rfl) (Nat.le_of_ble_eq_true rfl) dX0_isMet_79
    · have h := h.2 c2
      refine lv_iload_n hx hb dX0_isMet_12 rfl (lv_at hl 2 rfl) ?_
      refine lv_iload_n hx hb dX0_isMet_13 rfl (lv_at hl 1 rfl) ?_
      refine lv_iconst (v := -1) hx hb dX0_isMet_14 (by decide) ?_
      refine lv_ixor hx hb dX0_isMet_15 ?_
      refine lv_iand hx hb dX0_isMet_16 ?_
      refine lv_iload hx hb dX0_isMet_17 (lv_at hl 3 rfl) ?_
      refine lv_iushr (v := (ushr (x3 &&& (x2 ^^^ (-1 : Int32))) x4)) hx hb dX0_isMet_19 rfl ?_
      refine lv_iconst (v := 1) hx hb dX0_isMet_20 (by decide) ?_
      refine lv_iand hx hb dX0_isMet_21 ?_
      refine lv_iconst (v := 1) hx hb dX0_isMet_22 (by decide) ?_
      refine lv_icmp_ne (tgt := 72) hx hb dX0_isMet_23 (by decide) (fun c3 => ?_) (fun c3 => ?_)
      · have h := h.1 c3
        obtain ⟨y4, ey4⟩ : ∃ z : Int32, z = (x4 + (-1 : Int32)) := ⟨_, rfl⟩
        have h := h y4 ey4
        refine lv_iinc (v := y4) (lv' := [(4, .int y4), (0, .ref (a 2)), (2, .int x2), (3, .int x3)]) hx hb dX0_isMet_72 hl (k := 3) rfl (by rw [ey4]; rfl) (by decide) rfl (fun ls hl => ?_)
        refine lv_goto (tgt := 7) hx hb dX0_isMet_75 (by decide) ?_
        exact k7 x3 y4 H locs ls h hP hD hS (lv_sub hl [1, 2, 3, 0] rfl)
      · have h := h.2 c3
        refine lv_aload_n hx hb dX0_isMet_26 rfl (lv_at hl 0 rfl) ?_
        refine va_get (D := (dC, dI)) (ci := 0) (v := .ref (a 1)) (C := RX0) (T := TX0) (N := 5) hx hb hts hiX0 hown hK hP 2 rfl rfl 0 (by decide) hf24 (fun _ h9 => h9) rfl dX0_isMet_27 ?_
        refine lv_iload hx hb dX0_isMet_30 (lv_at hl 3 rfl) ?_
        refine xc_Vi (wf := wC cyI cyJ cyZ a) (wr := []) (isC := [0, 1, 2, 3, 4, 5, 6, 7, 8, 9, 10, 11, 12, 13, 14, 15, 16, 17, 18, 19, 20]) (isR := []) (As := [.int x4]) (rest := []) ⟨hx, hb, hml, hown, hts⟩ (t_X2_isInput h) (cwV 1 hts gX0_isMet_X2_isInput rfl rfl rfl (by decide +kernel) ⟨Nat.le_of_ble_eq_true rfl, Nat.le_of_ble_eq_true rfl⟩) ⟨hK, hE, hA, hP, hD, hS, rfl, rfl, rfl, rfl, by decide⟩ ⟨1, 2, _, _, rfl, rfl, rfl⟩ rfl rfl hl.1 (Nat.le_of_ble_eq_true rfl) dX0_isMet_32 ⟨Nat.le_of_ble_eq_true rfl, Nat.le_of_ble_eq_true rfl⟩ (fun r5 S6 H locs h hP hD hS => ?_)
        obtain ⟨rfl, h⟩ := h
        have hP : va_P (dC, dI) vwCl (wC cyI cyJ cyZ a S) H := hP
        have hD : va_D A (wC cyI cyJ cyZ a S) := hD
        refine lv_if_eq (tgt := 40) hx hb dX0_isMet_35 (by decide) (fun c7 => ?_) (fun c7 => ?_)
        · have h := h.1 c7
          refine lv_iload_n hx hb dX0_isMet_40 rfl (lv_at hl 2 rfl) ?_
          refine lv_iconst (v := 1) hx hb dX0_isMet_41 (by decide) ?_
          refine lv_aload_n hx hb dX0_isMet_42 rfl (lv_at hl 0 rfl) ?_
          refine va_get (D := (dC, dI)) (ci := 0) (v := .ref (a 1)) (C := RX0) (T := TX0) (N := 5) hx hb hts hiX0 hown hK hP 2 rfl rfl 0 (by decide) hf24 (fun _ h9 => h9) rfl dX0_isMet_43 ?_
          refine va_get (D := (dC, dI)) (ci := 2) (v := .ref (a 7)) (C := RX2) (T := TX2) (N := 6) hx hb hts hiX2 hown hK hP 1 rfl rfl 1 (by decide) hf32 (fun _ h9 => h9) rfl dX0_isMet_46 ?_
          refine lv_iload hx hb dX0_isMet_49 (lv_at hl 3 rfl) ?_
          obtain ⟨i8, h⟩ := h
          refine va_iald (D := (dC, dI)) hx hb hK hP 7 0 rfl rfl i8 dX0_isMet_51 ?_
          refine lv_iconst (v := 1) hx hb dX0_isMet_52 (by decide) ?_
          refine lv_ishr hx hb dX0_isMet_53 ?_
          refine lv_ishl hx hb dX0_isMet_54 ?_
          refine lv_iconst (v := 1) hx hb dX0_isMet_55 (by decide) ?_
          refine lv_aload_n hx hb dX0_isMet_56 rfl (lv_at hl 0 rfl) ?_
          refine va_get (D := (dC, dI)) (ci := 0) (v := .ref (a 1)) (C := RX0) (T := TX0) (N := 5) hx hb hts hiX0 hown hK hP 2 rfl rfl 0 (by decide) hf24 (fun _ h9 => h9) rfl dX0_isMet_57 ?_
          refine va_get (D := (dC, dI)) (ci := 2) (v := .ref (a 8)) (C := RX2) (T := TX2) (N := 6) hx hb hts hiX2 hown hK hP 1 rfl rfl 2 (by decide) hf35 (fun _ h9 => h9) rfl dX0_isMet_60 ?_
          refine lv_iload hx hb dX0_isMet_63 (lv_at hl 3 rfl) ?_
          obtain ⟨i9, h⟩ := h
          refine va_iald (D := (dC, dI)) hx hb hK hP 8 0 rfl rfl i9 dX0_isMet_65 ?_
          refine lv_iconst (v := 1) hx hb dX0_isMet_66 (by decide) ?_
          refine lv_ishr hx hb dX0_isMet_67 ?_
          refine lv_ishl hx hb dX0_isMet_68 ?_
          refine lv_ior hx hb dX0_isMet_69 ?_
          refine lv_ior hx hb dX0_isMet_70 ?_
          refine lv_topi (fun y10 ey10 => ?_)
          have h := h y10 ey10
          refine lv_istore_n (lv' := [(3, .int y10), (0, .ref (a 2)), (2, .int x2), (4, .int x4)]) hx hb dX0_isMet_71 rfl hl (by decide) rfl (fun ls hl => ?_)
          obtain ⟨y11, ey11⟩ : ∃ z : Int32, z = (x4 + (-1 : Int32)) := ⟨_, rfl⟩
          have h := h y11 ey11
          refine lv_iinc (v := y11) (lv' := [(4, .int y11), (3, .int y10), (0, .ref (a 2)), (2, .int x2)]) hx hb dX0_isMet_72 hl (k := 3) rfl (by rw [ey11]; rfl) (by decide) rfl (fun ls hl => ?_)
          refine lv_goto (tgt := 7) hx hb dX0_isMet_75 (by decide) ?_
          exact k7 y10 y11 H locs ls h hP hD hS (lv_sub hl [2, 3, 1, 0] rfl)
        · have h := h.2 c7
          refine lv_iconst (v := 0) hx hb dX0_isMet_38 (by decide) ?_
          exact xr_z (S := S) hx hb hr hlocks hK hP hD hS (by decide) ⟨rfl, h⟩ (Nat.le_of_ble_eq_true rfl) (Nat.le_of_ble_eq_true rfl) dX0_isMet_39
def p_X0_isMet (S : CS) (x1 : Int32) (x2 : Int32) (post : Int32 → Prop) : Prop := ∀ y1 : Int32, y1 = ((1 : Int32) <<< (x1 &&& 31)) → (p_X0_isMet_7 S x2 y1 x1 post)
set_option maxHeartbeats 1000000 in
set_option maxRecDepth 100000 in
theorem t_X0_isMet {l : Launch} {dC : Nat → ClassId} {dI : Nat → Nat → Nat} {cyI cyJ cyZ : ClassId} {r : Nat → Nat} {a : Nat → Nat} {S : CS} {x1 : Int32} {x2 : Int32} {post : Int32 → Prop} (h : p_X0_isMet S x1 x2 post) : xMi l yX0_isMet wsX0_isMet { frames := 1, cells := 0, slots := 0, locals := 21 } (dC, dI) (tyA cyI cyJ cyZ) r (wC cyI cyJ cyZ a) [.ref (a 2), .int x1, .int x2] S (fun x u => S = u ∧ post x) 0 0 := by
  intro sz
  refine Met.ofW (cc := cX0_isMet) (maxL := 5) (ret := (some .boolean)) (by decide) rfl ?_
  intro p e s m args below meth c s₁ B hml hv
  obtain ⟨rfl, G, hP, hD, hS⟩ := xG.of rfl B hml hv
  generalize hAe : va_A (wC cyI cyJ cyZ a S) sz = A at G hD hS ⊢
  have G : xG p s m _ meth c cX0_isMet 5 RX0 (some .boolean) wsX0_isMet (dC, dI) (tyA cyI cyJ cyZ) r A := G
  obtain ⟨hx, hb, hml, hown, hts, hr, hlocks, hK, hE, hA⟩ := id G
  have hl := lv_entry ([.ref (a 2), .int x1, .int x2]) (n := 5) (Nat.le_of_ble_eq_true rfl)
  rw [lg_entry_eq]
  generalize (lg_sl ([.ref (a 2), .int x1, .int x2]) ++ List.replicate (5 - (lg_sl ([.ref (a 2), .int x1, .int x2])).length) Slot.unset).toArray = ls at hl ⊢
  have hl : lv_has ls 5 [(0, .ref (a 2)), (1, .int x1), (2, .int x2)] := hl
  show W p l e { frames := 1, cells := 0, slots := 0, locals := 21 } s m _ below meth c s.heap [] 0 0 _ _
  unfold p_X0_isMet at h
  refine lv_iconst (v := 1) hx hb dX0_isMet_0 (by decide) ?_
  refine lv_iload_n hx hb dX0_isMet_1 rfl (lv_at hl 1 rfl) ?_
  refine lv_ishl hx hb dX0_isMet_2 ?_
  refine lv_topi (fun y1 ey1 => ?_)
  have h := h y1 ey1
  refine lv_istore_n (lv' := [(3, .int y1), (0, .ref (a 2)), (1, .int x1), (2, .int x2)]) hx hb dX0_isMet_3 rfl hl (by decide) rfl (fun ls hl => ?_)
  refine lv_iload_n hx hb dX0_isMet_4 rfl (lv_at hl 2 rfl) ?_
  refine lv_istore (lv' := [(4, .int x1), (3, .int y1), (0, .ref (a 2)), (1, .int x1), (2, .int x2)]) hx hb dX0_isMet_5 hl (by decide) rfl (fun ls hl => ?_)
  exact t_X0_isMet_7 G h hP hD hS (lv_sub hl [2, 4, 1, 0] rfl)
def b_X0_isSmallest_2 (S : CS) (x1 : Int32) (x2 : Int32) (post : Int32 → Prop) (g2 : Int32 → Prop) (x3 : Int32) : Prop := (x1 ≤ x3 → (post (1 : Int32))) ∧ (¬ x1 ≤ x3 → ((¬ ((ushr x2 x3) &&& (1 : Int32)) = (1 : Int32) → (∀ y3 : Int32, y3 = (x3 + (1 : Int32)) → (g2 y3))) ∧ (((ushr x2 x3) &&& (1 : Int32)) = (1 : Int32) → (p_X0_isMet S x1 (x2 ^^^ ((1 : Int32) <<< (x3 &&& 31))) (fun r4 => (r4 = 0 → (∀ y7 : Int32, y7 = (x3 + (1 : Int32)) → (g2 y7))) ∧ (¬ r4 = 0 → (post (0 : Int32))))))))
def p_X0_isSmallest_2 (S : CS) (x1 : Int32) (x2 : Int32) (x3 : Int32) (post : Int32 → Prop) : Prop := ∃ (I : Int32 → Prop) (mu : Int32 → Nat), I x3 ∧ ∀ (x3 : Int32), I x3 → b_X0_isSmallest_2 S x1 x2 post (fun x3' => I x3' ∧ mu x3' < mu x3) x3
set_option maxHeartbeats 1000000 in
set_option maxRecDepth 100000 in
theorem t_X0_isSmallest_2 {p : Program} {l : Launch} {e : Env} {s : State} {m : MethodId} {args : Array Value} {below : List Frame} {meth : Method} {c : Code} {dC : Nat → ClassId} {dI : Nat → Nat → Nat} {cyI cyJ cyZ : ClassId} {r : Nat → Nat} {a : Nat → Nat} {A : Nat → Prop} {S : CS} {x1 : Int32} {x2 : Int32} {x3 : Int32} {post : Int32 → Prop} (G : xG p s m args meth c cX0_isSmallest 4 RX0 (some .boolean) wsX0_isSmallest (dC, dI) (tyA cyI cyJ cyZ) r A) (h : p_X0_isSmallest_2 S x1 x2 x3 post) {H : Heap} {locs : List Loc} {ls : Array Slot} (hP : va_P (dC, dI) vwCl (wC cyI cyJ cyZ a S) H) (hD : va_D A (wC cyI cyJ cyZ a S)) (hS : va_S A s.heap H locs) (hl : lv_has ls 4 [(0, .ref (a 2)), (1, .int x1), (2, .int x2), (3, .int x3)]) : W p l e { frames := 2, cells := 0, slots := 0, locals := 45 } s m args below meth c H locs 0 0 (MQ below (va_Qi (fun x u => S = u ∧ post x) (xAt (dC, dI) (tyA cyI cyJ cyZ) (wC cyI cyJ cyZ a) A) A) args s 0 0 A) (F0 m 2 ls []) := by
  obtain ⟨hx, hb, hml, hown, hts, hr, hlocks, hK, hE, hA⟩ := id G
  obtain ⟨I, mu, h0, hstep⟩ := h
  suffices hgo : ∀ (n : Nat) (x3 : Int32), I x3 → mu x3 < n → ∀ (H : Heap) (locs : List Loc) (ls : Array Slot), va_P (dC, dI) vwCl (wC cyI cyJ cyZ a S) H → va_D A (wC cyI cyJ cyZ a S) → va_S A s.heap H locs → lv_has ls 4 [(0, .ref (a 2)), (1, .int x1), (2, .int x2), (3, .int x3)] → W p l e { frames := 2, cells := 0, slots := 0, locals := 45 } s m args below meth c H locs 0 0 (MQ below (va_Qi (fun x u => S = u ∧ post x) (xAt (dC, dI) (tyA cyI cyJ cyZ) (wC cyI cyJ cyZ a) A) A) args s 0 0 A) (F0 m 2 ls []) from hgo (mu x3 + 1) x3 h0 (Nat.lt_succ_self _) H locs ls hP hD hS hl
  clear h0 hP hD hS hl
  intro n
  induction n with
  | zero => intro x3 _ h; exact absurd h (Nat.not_lt_zero _)
  | succ n ih =>
    intro x3 hI hmu H locs ls hP hD hS hl
    have h := hstep x3 hI
    unfold b_X0_isSmallest_2 at h
    have k2 : ∀ (x3' : Int32) (H : Heap) (locs : List Loc) (ls : Array Slot), (fun x3' => I x3' ∧ mu x3' < mu x3) x3' → va_P (dC, dI) vwCl (wC cyI cyJ cyZ a S) H → va_D A (wC cyI cyJ cyZ a S) → va_S A s.heap H locs → lv_has ls 4 [(0, .ref (a 2)), (1, .int x1), (2, .int x2), (3, .int x3')] → W p l e { frames := 2, cells := 0, slots := 0, locals := 45 } s m args below meth c H locs 0 0 (MQ below (va_Qi (fun x u => S = u ∧ post x) (xAt (dC, dI) (tyA cyI cyJ cyZ) (wC cyI cyJ cyZ a) A) A) args s 0 0 A) (F0 m 2 ls []) := fun x3' H locs ls hh hP hD hS hl => ih x3' hh.1 (Nat.lt_of_lt_of_le hh.2 (Nat.le_of_lt_succ hmu)) H locs ls hP hD hS hl
    generalize (fun x3' => I x3' ∧ mu x3' < mu x3) = g2 at h k2
    refine lv_iload_n hx hb dX0_isSmallest_2 rfl (lv_at hl 3 rfl) ?_
    refine lv_iload_n hx hb dX0_isSmallest_3 rfl (lv_at hl 1 rfl) ?_
    refine lv_icmp_ge (tgt := 37) hx hb dX0_isSmallest_4 (by decide) (fun c1 => ?_) (fun c1 => ?_)
    · have h := h.1 c1
      refine lv_iconst (v := 1) hx hb dX0_isSmallest_37 (by decide) ?_
      exact xr_z (S := S) hx hb hr hlocks hK hP hD hS (by decide) ⟨rfl, h⟩ (Nat.le_of_ble_eq_true rfl) (Nat.le_of_ble_eq_true rfl) dX0_isSmallest_38
    · have h := h.2 c1
      refine lv_iload_n hx hb dX0_isSmallest_7 rfl (lv_at hl 2 rfl) ?_
      refine lv_iload_n hx hb dX0_isSmallest_8 rfl (lv_at hl 3 rfl) ?_
      refine lv_iushr (v := (ushr x2 x3)) hx hb dX0_isSmallest_9 rfl ?_
      refine lv_iconst (v := 1) hx hb dX0_isSmallest_10 (by decide) ?_
      refine lv_iand hx hb dX0_isSmallest_11 ?_
      refine lv_iconst (v := 1) hx hb dX0_isSmallest_12 (by decide) ?_
      refine lv_icmp_ne (tgt := 31) hx hb dX0_isSmallest_13 (by decide) (fun c2 => ?_) (fun c2 => ?_)
      · have h := h.1 c2
        obtain ⟨y3, ey3⟩ : ∃ z : Int32, z = (x3 + (1 : Int32)) := ⟨_, rfl⟩
        have h := h y3 ey3
        refine lv_iinc (v := y3) (lv' := [(3, .int y3), (0, .ref (a 2)), (1, .int x1), (2, .int x2)]) hx hb dX0_isSmallest_31 hl (k := 3) rfl (by rw [ey3]; rfl) (by decide) rfl (fun ls hl => ?_)
        refine lv_goto (tgt := 2) hx hb dX0_isSmallest_34 (by decide) ?_
        exact k2 y3 H locs ls h hP hD hS (lv_sub hl [1, 2, 3, 0] rfl)
      · have h := h.2 c2
        refine lv_aload_n hx hb dX0_isSmallest_16 rfl (lv_at hl 0 rfl) ?_
        refine lv_iload_n hx hb dX0_isSmallest_17 rfl (lv_at hl 1 rfl) ?_
        refine lv_iload_n hx hb dX0_isSmallest_18 rfl (lv_at hl 2 rfl) ?_
        refine lv_iconst (v := 1) hx hb dX0_isSmallest_19 (by decide) ?_
        refine lv_iload_n hx hb dX0_isSmallest_20 rfl (lv_at hl 3 rfl) ?_
        refine lv_ishl hx hb dX0_isSmallest_21 ?_
        refine lv_ixor hx hb dX0_isSmallest_22 ?_
        refine xc_Vi (wf := wC cyI cyJ cyZ a) (wr := []) (isC := [0, 1, 2, 3, 4, 5, 6, 7, 8, 9, 10, 11, 12, 13, 14, 15, 16, 17, 18, 19, 20]) (isR := []) (As := [.int x1, .int (x2 ^^^ ((1 : Int32) <<< (x3 &&& 31)))]) (rest := []) ⟨hx, hb, hml, hown, hts⟩ (t_X0_isMet h) (cwV 2 hts gX0_isSmallest_X0_isMet rfl rfl rfl (by decide +kernel) ⟨Nat.le_of_ble_eq_true rfl, Nat.le_of_ble_eq_true rfl⟩) ⟨hK, hE, hA, hP, hD, hS, rfl, rfl, rfl, rfl, by decide⟩ ⟨2, 0, _, _, rfl, rfl, rfl⟩ rfl rfl hl.1 (Nat.le_of_ble_eq_true rfl) dX0_isSmallest_23 ⟨Nat.le_of_ble_eq_true rfl, Nat.le_of_ble_eq_true rfl⟩ (fun r4 S5 H locs h hP hD hS => ?_)
        obtain ⟨rfl, h⟩ := h
        have hP : va_P (dC, dI) vwCl (wC cyI cyJ cyZ a S) H := hP
        have hD : va_D A (wC cyI cyJ cyZ a S) := hD
        refine lv_if_eq (tgt := 31) hx hb dX0_isSmallest_26 (by decide) (fun c6 => ?_) (fun c6 => ?_)
        · have h := h.1 c6
          obtain ⟨y7, ey7⟩ : ∃ z : Int32, z = (x3 + (1 : Int32)) := ⟨_, rfl⟩
          have h := h y7 ey7
          refine lv_iinc (v := y7) (lv' := [(3, .int y7), (0, .ref (a 2)), (1, .int x1), (2, .int x2)]) hx hb dX0_isSmallest_31 hl (k := 3) rfl (by rw [ey7]; rfl) (by decide) rfl (fun ls hl => ?_)
          refine lv_goto (tgt := 2) hx hb dX0_isSmallest_34 (by decide) ?_
          exact k2 y7 H locs ls h hP hD hS (lv_sub hl [1, 2, 3, 0] rfl)
        · have h := h.2 c6
          refine lv_iconst (v := 0) hx hb dX0_isSmallest_29 (by decide) ?_
          exact xr_z (S := S) hx hb hr hlocks hK hP hD hS (by decide) ⟨rfl, h⟩ (Nat.le_of_ble_eq_true rfl) (Nat.le_of_ble_eq_true rfl) dX0_isSmallest_30
def p_X0_isSmallest (S : CS) (x1 : Int32) (x2 : Int32) (post : Int32 → Prop) : Prop := p_X0_isSmallest_2 S x1 x2 (0 : Int32) post
set_option maxHeartbeats 1000000 in
set_option maxRecDepth 100000 in
theorem t_X0_isSmallest {l : Launch} {dC : Nat → ClassId} {dI : Nat → Nat → Nat} {cyI cyJ cyZ : ClassId} {r : Nat → Nat} {a : Nat → Nat} {S : CS} {x1 : Int32} {x2 : Int32} {post : Int32 → Prop} (h : p_X0_isSmallest S x1 x2 post) : xMi l yX0_isSmallest wsX0_isSmallest { frames := 2, cells := 0, slots := 0, locals := 45 } (dC, dI) (tyA cyI cyJ cyZ) r (wC cyI cyJ cyZ a) [.ref (a 2), .int x1, .int x2] S (fun x u => S = u ∧ post x) 0 0 := by
  intro sz
  refine Met.ofW (cc := cX0_isSmallest) (maxL := 4) (ret := (some .boolean)) (by decide) rfl ?_
  intro p e s m args below meth c s₁ B hml hv
  obtain ⟨rfl, G, hP, hD, hS⟩ := xG.of rfl B hml hv
  generalize hAe : va_A (wC cyI cyJ cyZ a S) sz = A at G hD hS ⊢
  have G : xG p s m _ meth c cX0_isSmallest 4 RX0 (some .boolean) wsX0_isSmallest (dC, dI) (tyA cyI cyJ cyZ) r A := G
  obtain ⟨hx, hb, hml, hown, hts, hr, hlocks, hK, hE, hA⟩ := id G
  have hl := lv_entry ([.ref (a 2), .int x1, .int x2]) (n := 4) (Nat.le_of_ble_eq_true rfl)
  rw [lg_entry_eq]
  generalize (lg_sl ([.ref (a 2), .int x1, .int x2]) ++ List.replicate (4 - (lg_sl ([.ref (a 2), .int x1, .int x2])).length) Slot.unset).toArray = ls at hl ⊢
  have hl : lv_has ls 4 [(0, .ref (a 2)), (1, .int x1), (2, .int x2)] := hl
  show W p l e { frames := 2, cells := 0, slots := 0, locals := 45 } s m _ below meth c s.heap [] 0 0 _ _
  unfold p_X0_isSmallest at h
  refine lv_iconst (v := 0) hx hb dX0_isSmallest_0 (by decide) ?_
  refine lv_istore_n (lv' := [(3, .int (0 : Int32)), (0, .ref (a 2)), (1, .int x1), (2, .int x2)]) hx hb dX0_isSmallest_1 rfl hl (by decide) rfl (fun ls hl => ?_)
  exact t_X0_isSmallest_2 G h hP hD hS (lv_sub hl [1, 2, 3, 0] rfl)
def p_X0_insertCut_95 (S : CS) (x1 : Int32) (x2 : Int32) (x3 : Int32) (x4 : Int32) (kc : Nat) (ks : Nat) (uc : Nat) (us : Nat) (post : CS → Prop) : Prop := vp_in x4 (cLVn S) ∧ (∀ S7 : CS, S7 = (cLV_s S (upd (cLV S) x4.toNatClampNeg x2)) → (vp_in (x1 + (1 : Int32)) 33 ∧ (∀ S9 : CS, S9 = (cST_s S7 (upd (cST S7) (x1 + (1 : Int32)).toNatClampNeg (x3 + (1 : Int32)))) → (post S9))))
set_option maxHeartbeats 1000000 in
set_option maxRecDepth 100000 in
theorem t_X0_insertCut_95 {p : Program} {l : Launch} {e : Env} {s : State} {m : MethodId} {args : Array Value} {below : List Frame} {meth : Method} {c : Code} {dC : Nat → ClassId} {dI : Nat → Nat → Nat} {cyI cyJ cyZ : ClassId} {r : Nat → Nat} {a : Nat → Nat} {A : Nat → Prop} {S : CS} {x1 : Int32} {x2 : Int32} {x3 : Int32} {x4 : Int32} {kc : Nat} {ks : Nat} {uc : Nat} {us : Nat} {post : CS → Prop} (G : xG p s m args meth c cX0_insertCut 5 RX0 none wsX0_insertCut (dC, dI) (tyA cyI cyJ cyZ) r A) (hu : uc ≤ kc ∧ us ≤ ks) (h : p_X0_insertCut_95 S x1 x2 x3 x4 kc ks uc us post) {H : Heap} {locs : List Loc} {ls : Array Slot} (hP : va_P (dC, dI) vwCl (wC cyI cyJ cyZ a S) H) (hD : va_D A (wC cyI cyJ cyZ a S)) (hS : va_S A s.heap H locs) (hl : lv_has ls 5 [(0, .ref (a 2)), (1, .int x1), (2, .int x2), (3, .int x3), (4, .int x4)]) : W p l e { frames := 2, cells := kc, slots := ks, locals := 82 } s m args below meth c H locs uc us (MQ below (va_Qv post (xAt (dC, dI) (tyA cyI cyJ cyZ) (wC cyI cyJ cyZ a) A) A) args s kc ks A) (F0 m 95 ls []) := by
  obtain ⟨hx, hb, hml, hown, hts, hr, hlocks, hK, hE, hA⟩ := id G
  have hiX0 : ∀ w ∈ wsX00, w ∈ wsX0_insertCut := by decide +kernel
  have hf18 := hts (.fieldLink RX0 18 "CellMapping$CutTable" "leaves" "[I") (by decide +kernel)
  have hf9 := hts (.fieldLink RX0 9 "CellMapping$CutTable" "start" "[I") (by decide +kernel)
  unfold p_X0_insertCut_95 at h
  refine lv_aload_n hx hb dX0_insertCut_95 rfl (lv_at hl 0 rfl) ?_
  refine va_get (D := (dC, dI)) (ci := 0) (v := .ref (cLVa S)) (C := RX0) (T := TX0) (N := 5) hx hb hts hiX0 hown hK hP 2 rfl rfl 3 (by decide) hf18 (fun _ h9 => h9) rfl dX0_insertCut_96 ?_
  refine lv_iload hx hb dX0_insertCut_99 (lv_at hl 4 rfl) ?_
  refine lv_iload_n hx hb dX0_insertCut_101 rfl (lv_at hl 2 rfl) ?_
  obtain ⟨i6, h⟩ := h
  refine va_iast (D := (dC, dI)) hx hb hK hP hD hS 19 0 rfl rfl i6 dX0_insertCut_102 (fun H locs hP hD hS => ?_)
  obtain ⟨S7, eS7⟩ : ∃ z : CS, z = (cLV_s S (upd (cLV S) x4.toNatClampNeg x2)) := ⟨_, rfl⟩
  have h := h S7 eS7
  have hP := nP_cLV eS7 hP
  have hD := nD_cLV eS7 hD
  refine lv_aload_n hx hb dX0_insertCut_103 rfl (lv_at hl 0 rfl) ?_
  refine va_get (D := (dC, dI)) (ci := 0) (v := .ref (a 10)) (C := RX0) (T := TX0) (N := 5) hx hb hts hiX0 hown hK hP 2 rfl rfl 1 (by decide) hf9 (fun _ h9 => h9) rfl dX0_insertCut_104 ?_
  refine lv_iload_n hx hb dX0_insertCut_107 rfl (lv_at hl 1 rfl) ?_
  refine lv_iconst (v := 1) hx hb dX0_insertCut_108 (by decide) ?_
  refine lv_iadd hx hb dX0_insertCut_109 ?_
  refine lv_iload_n hx hb dX0_insertCut_110 rfl (lv_at hl 3 rfl) ?_
  refine lv_iconst (v := 1) hx hb dX0_insertCut_111 (by decide) ?_
  refine lv_iadd hx hb dX0_insertCut_112 ?_
  obtain ⟨i8, h⟩ := h
  refine va_iast (D := (dC, dI)) hx hb hK hP hD hS 10 0 rfl rfl i8 dX0_insertCut_113 (fun H locs hP hD hS => ?_)
  obtain ⟨S9, eS9⟩ : ∃ z : CS, z = (cST_s S7 (upd (cST S7) (x1 + (1 : Int32)).toNatClampNeg (x3 + (1 : Int32)))) := ⟨_, rfl⟩
  have h := h S9 eS9
  have hP := nP_cST eS9 hP
  have hD := nD_cST eS9 hD
  exact xr_v (S := S9) hx hb hr hlocks hK hP hD hS h hu.1 hu.2 dX0_insertCut_114
def b_X0_insertCut_49 (x1 : Int32) (x2 : Int32) (x3 : Int32) (kc : Nat) (ks : Nat) (post : CS → Prop) (g49 : CS → Int32 → Nat → Nat → Prop) (S : CS) (x4 : Int32) (uc : Nat) (us : Nat) : Prop := vp_in x1 33 ∧ ((x4 ≤ ((cST S) x1.toNatClampNeg) → (p_X0_insertCut_95 S x1 x2 x3 x4 kc ks uc us post)) ∧ (¬ x4 ≤ ((cST S) x1.toNatClampNeg) → (vp_in (x4 - (1 : Int32)) (cLVn S) ∧ ((((cLV S) (x4 - (1 : Int32)).toNatClampNeg) ≤ x2 → (p_X0_insertCut_95 S x1 x2 x3 x4 kc ks uc us post)) ∧ (¬ ((cLV S) (x4 - (1 : Int32)).toNatClampNeg) ≤ x2 → (vp_in (x4 - (1 : Int32)) (cLVn S) ∧ (vp_in x4 (cLVn S) ∧ (∀ S14 : CS, S14 = (cLV_s S (upd (cLV S) x4.toNatClampNeg ((cLV S) (x4 - (1 : Int32)).toNatClampNeg))) → (∀ y15 : Int32, y15 = (x4 + (-1 : Int32)) → (g49 S14 y15 uc us))))))))))
def p_X0_insertCut_49 (S : CS) (x1 : Int32) (x2 : Int32) (x3 : Int32) (x4 : Int32) (kc : Nat) (ks : Nat) (uc : Nat) (us : Nat) (post : CS → Prop) : Prop := ∃ (I : CS → Int32 → Nat → Nat → Prop) (mu : CS → Int32 → Nat → Nat → Nat), I S x4 uc us ∧ ∀ (S : CS) (x4 : Int32) (uc : Nat) (us : Nat), I S x4 uc us → b_X0_insertCut_49 x1 x2 x3 kc ks post (fun S' x4' uc' us' => I S' x4' uc' us' ∧ mu S' x4' uc' us' < mu S x4 uc us) S x4 uc us
set_option maxHeartbeats 1000000 in
set_option maxRecDepth 100000 in
theorem t_X0_insertCut_49 {p : Program} {l : Launch} {e : Env} {s : State} {m : MethodId} {args : Array Value} {below : List Frame} {meth : Method} {c : Code} {dC : Nat → ClassId} {dI : Nat → Nat → Nat} {cyI cyJ cyZ : ClassId} {r : Nat → Nat} {a : Nat → Nat} {A : Nat → Prop} {S : CS} {x1 : Int32} {x2 : Int32} {x3 : Int32} {x4 : Int32} {kc : Nat} {ks : Nat} {uc : Nat} {us : Nat} {post : CS → Prop} (G : xG p s m args meth c cX0_insertCut 5 RX0 none wsX0_insertCut (dC, dI) (tyA cyI cyJ cyZ) r A) (hu : uc ≤ kc ∧ us ≤ ks) (h : p_X0_insertCut_49 S x1 x2 x3 x4 kc ks uc us post) {H : Heap} {locs : List Loc} {ls : Array Slot} (hP : va_P (dC, dI) vwCl (wC cyI cyJ cyZ a S) H) (hD : va_D A (wC cyI cyJ cyZ a S)) (hS : va_S A s.heap H locs) (hl : lv_has ls 5 [(0, .ref (a 2)), (1, .int x1), (2, .int x2), (3, .int x3), (4, .int x4)]) : W p l e { frames := 2, cells := kc, slots := ks, locals := 82 } s m args below meth c H locs uc us (MQ below (va_Qv post (xAt (dC, dI) (tyA cyI cyJ cyZ) (wC cyI cyJ cyZ a) A) A) args s kc ks A) (F0 m 49 ls []) := by
  obtain ⟨hx, hb, hml, hown, hts, hr, hlocks, hK, hE, hA⟩ := id G
  have hiX0 : ∀ w ∈ wsX00, w ∈ wsX0_insertCut := by decide +kernel
  have hf9 := hts (.fieldLink RX0 9 "CellMapping$CutTable" "start" "[I") (by decide +kernel)
  have hf18 := hts (.fieldLink RX0 18 "CellMapping$CutTable" "leaves" "[I") (by decide +kernel)
  obtain ⟨I, mu, h0, hstep⟩ := h
  suffices hgo : ∀ (n : Nat) (S : CS) (x4 : Int32) (uc : Nat) (us : Nat), I S x4 uc us → mu S x4 uc us < n → ∀ (H : Heap) (locs : List Loc) (ls : Array Slot), uc ≤ kc ∧ us ≤ ks → va_P (dC, dI) vwCl (wC cyI cyJ cyZ a S) H → va_D A (wC cyI cyJ cyZ a S) → va_S A s.heap H locs → lv_has ls 5 [(0, .ref (a 2)), (1, .int x1), (2, .int x2), (3, .int x3), (4, .int x4)] → W p l e { frames := 2, cells := kc, slots := ks, locals := 82 } s m args below meth c H locs uc us (MQ below (va_Qv post (xAt (dC, dI) (tyA cyI cyJ cyZ) (wC cyI cyJ cyZ a) A) A) args s kc ks A) (F0 m 49 ls []) from hgo (mu S x4 uc us + 1) S x4 uc us h0 (Nat.lt_succ_self _) H locs ls hu hP hD hS hl
  clear h0 hP hD hS hl hu
  intro n
  induction n with
  | zero => intro S x4 uc us _ h; exact absurd h (Nat.not_lt_zero _)
  | succ n ih =>
    intro S x4 uc us hI hmu H locs ls hu hP hD hS hl
    have h := hstep S x4 uc us hI
    unfold b_X0_insertCut_49 at h
    have k49 : ∀ (S' : CS) (x4' : Int32) (uc' : Nat) (us' : Nat) (H : Heap) (locs : List Loc) (ls : Array Slot), uc' ≤ kc ∧ us' ≤ ks → (fun S' x4' uc' us' => I S' x4' uc' us' ∧ mu S' x4' uc' us' < mu S x4 uc us) S' x4' uc' us' → va_P (dC, dI) vwCl (wC cyI cyJ cyZ a S') H → va_D A (wC cyI cyJ cyZ a S') → va_S A s.heap H locs → lv_has ls 5 [(0, .ref (a 2)), (1, .int x1), (2, .int x2), (3, .int x3), (4, .int x4')] → W p l e { frames := 2, cells := kc, slots := ks, locals := 82 } s m args below meth c H locs uc' us' (MQ below (va_Qv post (xAt (dC, dI) (tyA cyI cyJ cyZ) (wC cyI cyJ cyZ a) A) A) args s kc ks A) (F0 m 49 ls []) := fun S' x4' uc' us' H locs ls hu hh hP hD hS hl => ih S' x4' uc' us' hh.1 (Nat.lt_of_lt_of_le hh.2 (Nat.le_of_lt_succ hmu)) H locs ls hu hP hD hS hl
    generalize (fun S' x4' uc' us' => I S' x4' uc' us' ∧ mu S' x4' uc' us' < mu S x4 uc us) = g49 at h k49
    refine lv_iload hx hb dX0_insertCut_49 (lv_at hl 4 rfl) ?_
    refine lv_aload_n hx hb dX0_insertCut_51 rfl (lv_at hl 0 rfl) ?_
    refine va_get (D := (dC, dI)) (ci := 0) (v := .ref (a 10)) (C := RX0) (T := TX0) (N := 5) hx hb hts hiX0 hown hK hP 2 rfl rfl 1 (by decide) hf9 (fun _ h9 => h9) rfl dX0_insertCut_52 ?_
    refine lv_iload_n hx hb dX0_insertCut_55 rfl (lv_at hl 1 rfl) ?_
    obtain ⟨i4, h⟩ := h
    refine va_iald (D := (dC, dI)) hx hb hK hP 10 0 rfl rfl i4 dX0_insertCut_56 ?_
    refine lv_icmp_le (tgt := 95) hx hb dX0_insertCut_57 (by decide) (fun c5 => ?_) (fun c5 => ?_)
    · have h := h.1 c5
      exact t_X0_insertCut_95 G hu h hP hD hS (lv_sub hl [0, 1, 2, 3, 4] rfl)
    · have h := h.2 c5
      refine lv_aload_n hx hb dX0_insertCut_60 rfl (lv_at hl 0 rfl) ?_
      refine va_get (D := (dC, dI)) (ci := 0) (v := .ref (cLVa S)) (C := RX0) (T := TX0) (N := 5) hx hb hts hiX0 hown hK hP 2 rfl rfl 3 (by decide) hf18 (fun _ h9 => h9) rfl dX0_insertCut_61 ?_
      refine lv_iload hx hb dX0_insertCut_64 (lv_at hl 4 rfl) ?_
      refine lv_iconst (v := 1) hx hb dX0_insertCut_66 (by decide) ?_
      refine lv_isub hx hb dX0_insertCut_67 ?_
      obtain ⟨i10, h⟩ := h
      refine va_iald (D := (dC, dI)) hx hb hK hP 19 0 rfl rfl i10 dX0_insertCut_68 ?_
      refine lv_iload_n hx hb dX0_insertCut_69 rfl (lv_at hl 2 rfl) ?_
      refine lv_icmp_le (tgt := 95) hx hb dX0_insertCut_70 (by decide) (fun c11 => ?_) (fun c11 => ?_)
      · have h := h.1 c11
        exact t_X0_insertCut_95 G hu h hP hD hS (lv_sub hl [0, 1, 2, 3, 4] rfl)
      · have h := h.2 c11
        refine lv_aload_n hx hb dX0_insertCut_73 rfl (lv_at hl 0 rfl) ?_
        refine va_get (D := (dC, dI)) (ci := 0) (v := .ref (cLVa S)) (C := RX0) (T := TX0) (N := 5) hx hb hts hiX0 hown hK hP 2 rfl rfl 3 (by decide) hf18 (fun _ h9 => h9) rfl dX0_insertCut_74 ?_
        refine lv_iload hx hb dX0_insertCut_77 (lv_at hl 4 rfl) ?_
        refine lv_aload_n hx hb dX0_insertCut_79 rfl (lv_at hl 0 rfl) ?_
        refine va_get (D := (dC, dI)) (ci := 0) (v := .ref (cLVa S)) (C := RX0) (T := TX0) (N := 5) hx hb hts hiX0 hown hK hP 2 rfl rfl 3 (by decide) hf18 (fun _ h9 => h9) rfl dX0_insertCut_80 ?_
        refine lv_iload hx hb dX0_insertCut_83 (lv_at hl 4 rfl) ?_
        refine lv_iconst (v := 1) hx hb dX0_insertCut_85 (by decide) ?_
        refine lv_isub hx hb dX0_insertCut_86 ?_
        obtain ⟨i12, h⟩ := h
        refine va_iald (D := (dC, dI)) hx hb hK hP 19 0 rfl rfl i12 dX0_insertCut_87 ?_
        obtain ⟨i13, h⟩ := h
        refine va_iast (D := (dC, dI)) hx hb hK hP hD hS 19 0 rfl rfl i13 dX0_insertCut_88 (fun H locs hP hD hS => ?_)
        obtain ⟨S14, eS14⟩ : ∃ z : CS, z = (cLV_s S (upd (cLV S) x4.toNatClampNeg ((cLV S) (x4 - (1 : Int32)).toNatClampNeg))) := ⟨_, rfl⟩
        have h := h S14 eS14
        have hP := nP_cLV eS14 hP
        have hD := nD_cLV eS14 hD
        obtain ⟨y15, ey15⟩ : ∃ z : Int32, z = (x4 + (-1 : Int32)) := ⟨_, rfl⟩
        have h := h y15 ey15
        refine lv_iinc (v := y15) (lv' := [(4, .int y15), (0, .ref (a 2)), (1, .int x1), (2, .int x2), (3, .int x3)]) hx hb dX0_insertCut_89 hl (k := 4) rfl (by rw [ey15]; rfl) (by decide) rfl (fun ls hl => ?_)
        refine lv_goto (tgt := 49) hx hb dX0_insertCut_92 (by decide) ?_
        exact k49 S14 y15 uc us H locs ls hu h hP hD hS (lv_sub hl [1, 2, 3, 4, 0] rfl)
def p_X0_insertCut (S : CS) (x1 : Int32) (x2 : Int32) (kc : Nat) (ks : Nat) (post : CS → Prop) : Prop := vp_in (x1 + (1 : Int32)) 33 ∧ (∀ y2 : Int32, y2 = ((cST S) (x1 + (1 : Int32)).toNatClampNeg) → ((y2 < (Int32.ofNat (cLVn S)) → (p_X0_insertCut_49 S x1 x2 y2 y2 kc ks 0 0 post)) ∧ (¬ y2 < (Int32.ofNat (cLVn S)) → (∃ N : Nat, growOK S y2 kc ks N ∧ ∀ q1 q2 : Nat, (p_X0_insertCut_49 (grown S q1 q2 N) x1 x2 y2 y2 kc ks 2 (N + N) post)))))
set_option maxHeartbeats 1000000 in
set_option maxRecDepth 100000 in
theorem t_X0_insertCut {l : Launch} {dC : Nat → ClassId} {dI : Nat → Nat → Nat} {cyI cyJ cyZ : ClassId} {r : Nat → Nat} {a : Nat → Nat} {S : CS} {x1 : Int32} {x2 : Int32} {kc : Nat} {ks : Nat} {post : CS → Prop} (h : p_X0_insertCut S x1 x2 kc ks post) : xMv l yX0_insertCut wsX0_insertCut { frames := 2, cells := kc, slots := ks, locals := 82 } (dC, dI) (tyA cyI cyJ cyZ) r (wC cyI cyJ cyZ a) [.ref (a 2), .int x1, .int x2] S post kc ks := by
  intro sz
  refine Met.ofW (cc := cX0_insertCut) (maxL := 5) (ret := none) (by decide) rfl ?_
  intro p e s m args below meth c s₁ B hml hv
  obtain ⟨rfl, G, hP, hD, hS⟩ := xG.of rfl B hml hv
  generalize hAe : va_A (wC cyI cyJ cyZ a S) sz = A at G hD hS ⊢
  have G : xG p s m _ meth c cX0_insertCut 5 RX0 none wsX0_insertCut (dC, dI) (tyA cyI cyJ cyZ) r A := G
  obtain ⟨hx, hb, hml, hown, hts, hr, hlocks, hK, hE, hA⟩ := id G
  have hiX0 : ∀ w ∈ wsX00, w ∈ wsX0_insertCut := by decide +kernel
  have hf9 := hts (.fieldLink RX0 9 "CellMapping$CutTable" "start" "[I") (by decide +kernel)
  have hf18 := hts (.fieldLink RX0 18 "CellMapping$CutTable" "leaves" "[I") (by decide +kernel)
  have hl := lv_entry ([.ref (a 2), .int x1, .int x2]) (n := 5) (Nat.le_of_ble_eq_true rfl)
  rw [lg_entry_eq]
  generalize (lg_sl ([.ref (a 2), .int x1, .int x2]) ++ List.replicate (5 - (lg_sl ([.ref (a 2), .int x1, .int x2])).length) Slot.unset).toArray = ls at hl ⊢
  have hl : lv_has ls 5 [(0, .ref (a 2)), (1, .int x1), (2, .int x2)] := hl
  show W p l e { frames := 2, cells := kc, slots := ks, locals := 82 } s m _ below meth c s.heap [] 0 0 _ _
  unfold p_X0_insertCut at h
  have hu : 0 ≤ kc ∧ 0 ≤ ks := ⟨Nat.zero_le _, Nat.zero_le _⟩
  refine lv_aload_n hx hb dX0_insertCut_0 rfl (lv_at hl 0 rfl) ?_
  refine va_get (D := (dC, dI)) (ci := 0) (v := .ref (a 10)) (C := RX0) (T := TX0) (N := 5) hx hb hts hiX0 hown hK hP 2 rfl rfl 1 (by decide) hf9 (fun _ h9 => h9) rfl dX0_insertCut_1 ?_
  refine lv_iload_n hx hb dX0_insertCut_4 rfl (lv_at hl 1 rfl) ?_
  refine lv_iconst (v := 1) hx hb dX0_insertCut_5 (by decide) ?_
  refine lv_iadd hx hb dX0_insertCut_6 ?_
  obtain ⟨i1, h⟩ := h
  refine va_iald (D := (dC, dI)) hx hb hK hP 10 0 rfl rfl i1 dX0_insertCut_7 ?_
  refine lv_topi (fun y2 ey2 => ?_)
  have h := h y2 ey2
  refine lv_istore_n (lv' := [(3, .int y2), (0, .ref (a 2)), (1, .int x1), (2, .int x2)]) hx hb dX0_insertCut_8 rfl hl (by decide) rfl (fun ls hl => ?_)
  refine lv_iload_n hx hb dX0_insertCut_9 rfl (lv_at hl 0 rfl) ?_
  refine lv_aload_n hx hb dX0_insertCut_10 rfl (lv_at hl 1 rfl) ?_
  refine va_get (D := (dC, dI)) (ci := 0) (v := .ref (cLVa S)) (C := RX0) (T := TX0) (N := 5) hx hb hts hiX0 hown hK hP 2 rfl rfl 3 (by decide) hf18 (fun _ h9 => h9) rfl dX0_insertCut_11 ?_
  refine va_alen (D := (dC, dI)) (v := (Int32.ofNat (cLVn S))) hx hb hK hP 19 0 rfl rfl rfl dX0_insertCut_14 ?_
  refine lv_icmp_lt (tgt := 46) hx hb dX0_insertCut_15 (by decide) (fun c3 => ?_) (fun c3 => ?_)
  · have h := h.1 c3
    refine lv_iload_n hx hb dX0_insertCut_46 rfl (lv_at hl 0 rfl) ?_
    refine lv_istore (lv' := [(4, .int y2), (3, .int y2), (0, .ref (a 2)), (1, .int x1), (2, .int x2)]) hx hb dX0_insertCut_47 hl (by decide) rfl (fun ls hl => ?_)
    exact t_X0_insertCut_49 G hu h hP hD hS (lv_sub hl [2, 3, 4, 1, 0] rfl)
  · have h := h.2 c3
    obtain ⟨N, hg, h⟩ := h
    refine xg_grow G hg hP hD hS hl (fun q1 q2 H locs hP hD hS => ?_)
    have h := h q1 q2
    have hu : 2 ≤ kc ∧ N + N ≤ ks := hg.2.2.2.2.2.2.2
    refine lv_iload_n hx hb dX0_insertCut_46 rfl (lv_at hl 0 rfl) ?_
    refine lv_istore (lv' := [(4, .int y2), (3, .int y2), (0, .ref (a 2)), (1, .int x1), (2, .int x2)]) hx hb dX0_insertCut_47 hl (by decide) rfl (fun ls hl => ?_)
    exact t_X0_insertCut_49 G hu h hP hD hS (lv_sub hl [2, 3, 4, 1, 0] rfl)
def b_X0_findCuts_16 (g3 : CS → Int32 → Nat → Nat → Prop) (x1 : Int32) (x2 : Int32) (x3 : Int32) (x4 : Int32) (kc : Nat) (ks : Nat) (post : CS → Prop) (g16 : CS → Int32 → Nat → Nat → Prop) (S : CS) (x5 : Int32) (uc : Nat) (us : Nat) : Prop := p_X0_size S x3 (fun r4 => (r4 < x5 → (∀ y7 : Int32, y7 = (x4 + (1 : Int32)) → (g3 S y7 uc us))) ∧ (¬ r4 < x5 → (p_X0_cutOrItself S x2 x4 (fun r8 => p_X0_cutOrItself S x3 x5 (fun r10 => ∀ y12 : Int32, y12 = (r8 ||| r10) → (p_J6_bitCount_0f7a4 S y12 (fun r13 => ((3 : Int32) < r13 → (∀ y16 : Int32, y16 = (x5 + (1 : Int32)) → (g16 S y16 uc us))) ∧ (¬ (3 : Int32) < r13 → (p_X0_isSmallest S x1 y12 (fun r17 => (r17 = 0 → (∀ y20 : Int32, y20 = (x5 + (1 : Int32)) → (g16 S y20 uc us))) ∧ (¬ r17 = 0 → (∃ c22 k23 : Nat, (uc + c22 ≤ kc ∧ us + k23 ≤ ks) ∧ (p_X0_insertCut S x1 y12 c22 k23 (fun S21 => ∀ y24 : Int32, y24 = (x5 + (1 : Int32)) → (g16 S21 y24 (uc + c22) (us + k23))))))))))))))))
def p_X0_findCuts_16 (g3 : CS → Int32 → Nat → Nat → Prop) (S : CS) (x1 : Int32) (x2 : Int32) (x3 : Int32) (x4 : Int32) (x5 : Int32) (kc : Nat) (ks : Nat) (uc : Nat) (us : Nat) (post : CS → Prop) : Prop := ∃ (I : CS → Int32 → Nat → Nat → Prop) (mu : CS → Int32 → Nat → Nat → Nat), I S x5 uc us ∧ ∀ (S : CS) (x5 : Int32) (uc : Nat) (us : Nat), I S x5 uc us → b_X0_findCuts_16 g3 x1 x2 x3 x4 kc ks post (fun S' x5' uc' us' => I S' x5' uc' us' ∧ mu S' x5' uc' us' < mu S x5 uc us) S x5 uc us
set_option maxHeartbeats 1000000 in
set_option maxRecDepth 100000 in
theorem t_X0_findCuts_16 {p : Program} {l : Launch} {e : Env} {s : State} {m : MethodId} {args : Array Value} {below : List Frame} {meth : Method} {c : Code} {dC : Nat → ClassId} {dI : Nat → Nat → Nat} {cyI cyJ cyZ : ClassId} {r : Nat → Nat} {a : Nat → Nat} {A : Nat → Prop} {g3 : CS → Int32 → Nat → Nat → Prop} {S : CS} {x1 : Int32} {x2 : Int32} {x3 : Int32} {x4 : Int32} {x5 : Int32} {kc : Nat} {ks : Nat} {uc : Nat} {us : Nat} {post : CS → Prop} (G : xG p s m args meth c cX0_findCuts 7 RX0 none wsX0_findCuts (dC, dI) (tyA cyI cyJ cyZ) r A) (hu : uc ≤ kc ∧ us ≤ ks) (k3 : ∀ (S' : CS) (x4' : Int32) (uc' : Nat) (us' : Nat) (H : Heap) (locs : List Loc) (ls : Array Slot), uc' ≤ kc ∧ us' ≤ ks → g3 S' x4' uc' us' → va_P (dC, dI) vwCl (wC cyI cyJ cyZ a S') H → va_D A (wC cyI cyJ cyZ a S') → va_S A s.heap H locs → lv_has ls 7 [(0, .ref (a 2)), (1, .int x1), (2, .int x2), (3, .int x3), (4, .int x4')] → W p l e { frames := 3, cells := kc, slots := ks, locals := 106 } s m args below meth c H locs uc' us' (MQ below (va_Qv post (xAt (dC, dI) (tyA cyI cyJ cyZ) (wC cyI cyJ cyZ a) A) A) args s kc ks A) (F0 m 3 ls [])) (h : p_X0_findCuts_16 g3 S x1 x2 x3 x4 x5 kc ks uc us post) {H : Heap} {locs : List Loc} {ls : Array Slot} (hP : va_P (dC, dI) vwCl (wC cyI cyJ cyZ a S) H) (hD : va_D A (wC cyI cyJ cyZ a S)) (hS : va_S A s.heap H locs) (hl : lv_has ls 7 [(0, .ref (a 2)), (1, .int x1), (2, .int x2), (3, .int x3), (4, .int x4), (5, .int x5)]) : W p l e { frames := 3, cells := kc, slots := ks, locals := 106 } s m args below meth c H locs uc us (MQ below (va_Qv post (xAt (dC, dI) (tyA cyI cyJ cyZ) (wC cyI cyJ cyZ a) A) A) args s kc ks A) (F0 m 16 ls []) := by
  obtain ⟨hx, hb, hml, hown, hts, hr, hlocks, hK, hE, hA⟩ := id G
  obtain ⟨I, mu, h0, hstep⟩ := h
  suffices hgo : ∀ (n : Nat) (S : CS) (x5 : Int32) (uc : Nat) (us : Nat), I S x5 uc us → mu S x5 uc us < n → ∀ (H : Heap) (locs : List Loc) (ls : Array Slot), uc ≤ kc ∧ us ≤ ks → va_P (dC, dI) vwCl (wC cyI cyJ cyZ a S) H → va_D A (wC cyI cyJ cyZ a S) → va_S A s.heap H locs → lv_has ls 7 [(0, .ref (a 2)), (1, .int x1), (2, .int x2), (3, .int x3), (4, .int x4), (5, .int x5)] → W p l e { frames := 3, cells := kc, slots := ks, locals := 106 } s m args below meth c H locs uc us (MQ below (va_Qv post (xAt (dC, dI) (tyA cyI cyJ cyZ) (wC cyI cyJ cyZ a) A) A) args s kc ks A) (F0 m 16 ls []) from hgo (mu S x5 uc us + 1) S x5 uc us h0 (Nat.lt_succ_self _) H locs ls hu hP hD hS hl
  clear h0 hP hD hS hl hu
  intro n
  induction n with
  | zero => intro S x5 uc us _ h; exact absurd h (Nat.not_lt_zero _)
  | succ n ih =>
    intro S x5 uc us hI hmu H locs ls hu hP hD hS hl
    have h := hstep S x5 uc us hI
    unfold b_X0_findCuts_16 at h
    have k16 : ∀ (S' : CS) (x5' : Int32) (uc' : Nat) (us' : Nat) (H : Heap) (locs : List Loc) (ls : Array Slot), uc' ≤ kc ∧ us' ≤ ks → (fun S' x5' uc' us' => I S' x5' uc' us' ∧ mu S' x5' uc' us' < mu S x5 uc us) S' x5' uc' us' → va_P (dC, dI) vwCl (wC cyI cyJ cyZ a S') H → va_D A (wC cyI cyJ cyZ a S') → va_S A s.heap H locs → lv_has ls 7 [(0, .ref (a 2)), (1, .int x1), (2, .int x2), (3, .int x3), (4, .int x4), (5, .int x5')] → W p l e { frames := 3, cells := kc, slots := ks, locals := 106 } s m args below meth c H locs uc' us' (MQ below (va_Qv post (xAt (dC, dI) (tyA cyI cyJ cyZ) (wC cyI cyJ cyZ a) A) A) args s kc ks A) (F0 m 16 ls []) := fun S' x5' uc' us' H locs ls hu hh hP hD hS hl => ih S' x5' uc' us' hh.1 (Nat.lt_of_lt_of_le hh.2 (Nat.le_of_lt_succ hmu)) H locs ls hu hP hD hS hl
    generalize (fun S' x5' uc' us' => I S' x5' uc' us' ∧ mu S' x5' uc' us' < mu S x5 uc us) = g16 at h k16
    refine lv_iload hx hb dX0_findCuts_16 (lv_at hl 5 rfl) ?_
    refine lv_aload_n hx hb dX0_findCuts_18 rfl (lv_at hl 0 rfl) ?_
    refine lv_iload_n hx hb dX0_findCuts_19 rfl (lv_at hl 3 rfl) ?_
    refine xc_Vi (wf := wC cyI cyJ cyZ a) (wr := []) (isC := [0, 1, 2, 3, 4, 5, 6, 7, 8, 9, 10, 11, 12, 13, 14, 15, 16, 17, 18, 19, 20]) (isR := []) (As := [.int x3]) (rest := [.int x5]) ⟨hx, hb, hml, hown, hts⟩ (t_X0_size h) (cwV 1 hts gX0_findCuts_X0_size rfl rfl rfl (by decide +kernel) ⟨Nat.le_of_ble_eq_true rfl, Nat.le_of_ble_eq_true rfl⟩) ⟨hK, hE, hA, hP, hD, hS, rfl, rfl, rfl, rfl, by decide⟩ ⟨2, 0, _, _, rfl, rfl, rfl⟩ rfl rfl hl.1 (Nat.le_of_ble_eq_true rfl) dX0_findCuts_20 ⟨hu.1, hu.2⟩ (fun r4 S5 H locs h hP hD hS => ?_)
    obtain ⟨rfl, h⟩ := h
    have hP : va_P (dC, dI) vwCl (wC cyI cyJ cyZ a S) H := hP
    have hD : va_D A (wC cyI cyJ cyZ a S) := hD
    refine W.cs (cells' := uc) (slots' := us) rfl rfl ?_
    refine lv_icmp_gt (tgt := 75) hx hb dX0_findCuts_23 (by decide) (fun c6 => ?_) (fun c6 => ?_)
    · have h := h.1 c6
      obtain ⟨y7, ey7⟩ : ∃ z : Int32, z = (x4 + (1 : Int32)) := ⟨_, rfl⟩
      have h := h y7 ey7
      refine lv_iinc (v := y7) (lv' := [(4, .int y7), (0, .ref (a 2)), (1, .int x1), (2, .int x2), (3, .int x3), (5, .int x5)]) hx hb dX0_findCuts_75 hl (k := 4) rfl (by rw [ey7]; rfl) (by decide) rfl (fun ls hl => ?_)
      refine lv_goto (tgt := 3) hx hb dX0_findCuts_78 (by decide) ?_
      exact k3 S y7 uc us H locs ls hu h hP hD hS (lv_sub hl [1, 2, 3, 4, 0] rfl)
    · have h := h.2 c6
      refine lv_aload_n hx hb dX0_findCuts_26 rfl (lv_at hl 0 rfl) ?_
      refine lv_iload_n hx hb dX0_findCuts_27 rfl (lv_at hl 2 rfl) ?_
      refine lv_iload hx hb dX0_findCuts_28 (lv_at hl 4 rfl) ?_
      refine xc_Vi (wf := wC cyI cyJ cyZ a) (wr := []) (isC := [0, 1, 2, 3, 4, 5, 6, 7, 8, 9, 10, 11, 12, 13, 14, 15, 16, 17, 18, 19, 20]) (isR := []) (As := [.int x2, .int x4]) (rest := []) ⟨hx, hb, hml, hown, hts⟩ (t_X0_cutOrItself h) (cwV 2 hts gX0_findCuts_X0_cutOrItself rfl rfl rfl (by decide +kernel) ⟨Nat.le_of_ble_eq_true rfl, Nat.le_of_ble_eq_true rfl⟩) ⟨hK, hE, hA, hP, hD, hS, rfl, rfl, rfl, rfl, by decide⟩ ⟨2, 0, _, _, rfl, rfl, rfl⟩ rfl rfl hl.1 (Nat.le_of_ble_eq_true rfl) dX0_findCuts_30 ⟨hu.1, hu.2⟩ (fun r8 S9 H locs h hP hD hS => ?_)
      obtain ⟨rfl, h⟩ := h
      have hP : va_P (dC, dI) vwCl (wC cyI cyJ cyZ a S) H := hP
      have hD : va_D A (wC cyI cyJ cyZ a S) := hD
      refine W.cs (cells' := uc) (slots' := us) rfl rfl ?_
      refine lv_aload_n hx hb dX0_findCuts_33 rfl (lv_at hl 0 rfl) ?_
      refine lv_iload_n hx hb dX0_findCuts_34 rfl (lv_at hl 3 rfl) ?_
      refine lv_iload hx hb dX0_findCuts_35 (lv_at hl 5 rfl) ?_
      refine xc_Vi (wf := wC cyI cyJ cyZ a) (wr := []) (isC := [0, 1, 2, 3, 4, 5, 6, 7, 8, 9, 10, 11, 12, 13, 14, 15, 16, 17, 18, 19, 20]) (isR := []) (As := [.int x3, .int x5]) (rest := [.int r8]) ⟨hx, hb, hml, hown, hts⟩ (t_X0_cutOrItself h) (cwV 2 hts gX0_findCuts_X0_cutOrItself rfl rfl rfl (by decide +kernel) ⟨Nat.le_of_ble_eq_true rfl, Nat.le_of_ble_eq_true rfl⟩) ⟨hK, hE, hA, hP, hD, hS, rfl, rfl, rfl, rfl, by decide⟩ ⟨2, 0, _, _, rfl, rfl, rfl⟩ rfl rfl hl.1 (Nat.le_of_ble_eq_true rfl) dX0_findCuts_37 ⟨hu.1, hu.2⟩ (fun r10 S11 H locs h hP hD hS => ?_)
      obtain ⟨rfl, h⟩ := h
      have hP : va_P (dC, dI) vwCl (wC cyI cyJ cyZ a S) H := hP
      have hD : va_D A (wC cyI cyJ cyZ a S) := hD
      refine W.cs (cells' := uc) (slots' := us) rfl rfl ?_
      refine lv_ior hx hb dX0_findCuts_40 ?_
      refine lv_topi (fun y12 ey12 => ?_)
      have h := h y12 ey12
      refine lv_istore (lv' := [(6, .int y12), (0, .ref (a 2)), (1, .int x1), (2, .int x2), (3, .int x3), (4, .int x4), (5, .int x5)]) hx hb dX0_findCuts_41 hl (by decide) rfl (fun ls hl => ?_)
      refine lv_iload hx hb dX0_findCuts_43 (lv_at hl 0 rfl) ?_
      refine xc_Si (wf := wC cyI cyJ cyZ a) (wr := []) (isC := [0, 1, 2, 3, 4, 5, 6, 7, 8, 9, 10, 11, 12, 13, 14, 15, 16, 17, 18, 19, 20]) (isR := []) (As := [.int y12]) (rest := []) ⟨hx, hb, hml, hown, hts⟩ (t_J6_bitCount_0f7a4 h) (va_cwS 1 hts gX0_findCuts_J6_bitCount_0f7a4 rfl rfl rfl (by decide +kernel) ⟨Nat.le_of_ble_eq_true rfl, Nat.le_of_ble_eq_true rfl⟩) ⟨hK, hE, hA, hP, hD, hS, rfl, rfl, rfl, rfl, by decide⟩ rfl rfl hl.1 (Nat.le_of_ble_eq_true rfl) dX0_findCuts_45 ⟨hu.1, hu.2⟩ (fun r13 S14 H locs h hP hD hS => ?_)
      obtain ⟨rfl, h⟩ := h
      have hP : va_P (dC, dI) vwCl (wC cyI cyJ cyZ a S) H := hP
      have hD : va_D A (wC cyI cyJ cyZ a S) := hD
      refine W.cs (cells' := uc) (slots' := us) rfl rfl ?_
      refine lv_iconst (v := 3) hx hb dX0_findCuts_48 (by decide) ?_
      refine lv_icmp_gt (tgt := 69) hx hb dX0_findCuts_49 (by decide) (fun c15 => ?_) (fun c15 => ?_)
      · have h := h.1 c15
        obtain ⟨y16, ey16⟩ : ∃ z : Int32, z = (x5 + (1 : Int32)) := ⟨_, rfl⟩
        have h := h y16 ey16
        refine lv_iinc (v := y16) (lv' := [(5, .int y16), (6, .int y12), (0, .ref (a 2)), (1, .int x1), (2, .int x2), (3, .int x3), (4, .int x4)]) hx hb dX0_findCuts_69 hl (k := 6) rfl (by rw [ey16]; rfl) (by decide) rfl (fun ls hl => ?_)
        refine lv_goto (tgt := 16) hx hb dX0_findCuts_72 (by decide) ?_
        exact k16 S y16 uc us H locs ls hu h hP hD hS (lv_sub hl [2, 3, 4, 5, 6, 0] rfl)
      · have h := h.2 c15
        refine lv_aload_n hx hb dX0_findCuts_52 rfl (lv_at hl 1 rfl) ?_
        refine lv_iload_n hx hb dX0_findCuts_53 rfl (lv_at hl 2 rfl) ?_
        refine lv_iload hx hb dX0_findCuts_54 (lv_at hl 0 rfl) ?_
        refine xc_Vi (wf := wC cyI cyJ cyZ a) (wr := []) (isC := [0, 1, 2, 3, 4, 5, 6, 7, 8, 9, 10, 11, 12, 13, 14, 15, 16, 17, 18, 19, 20]) (isR := []) (As := [.int x1, .int y12]) (rest := []) ⟨hx, hb, hml, hown, hts⟩ (t_X0_isSmallest h) (cwV 2 hts gX0_findCuts_X0_isSmallest rfl rfl rfl (by decide +kernel) ⟨Nat.le_of_ble_eq_true rfl, Nat.le_of_ble_eq_true rfl⟩) ⟨hK, hE, hA, hP, hD, hS, rfl, rfl, rfl, rfl, by decide⟩ ⟨2, 0, _, _, rfl, rfl, rfl⟩ rfl rfl hl.1 (Nat.le_of_ble_eq_true rfl) dX0_findCuts_56 ⟨hu.1, hu.2⟩ (fun r17 S18 H locs h hP hD hS => ?_)
        obtain ⟨rfl, h⟩ := h
        have hP : va_P (dC, dI) vwCl (wC cyI cyJ cyZ a S) H := hP
        have hD : va_D A (wC cyI cyJ cyZ a S) := hD
        refine W.cs (cells' := uc) (slots' := us) rfl rfl ?_
        refine lv_if_eq (tgt := 69) hx hb dX0_findCuts_59 (by decide) (fun c19 => ?_) (fun c19 => ?_)
        · have h := h.1 c19
          obtain ⟨y20, ey20⟩ : ∃ z : Int32, z = (x5 + (1 : Int32)) := ⟨_, rfl⟩
          have h := h y20 ey20
          refine lv_iinc (v := y20) (lv' := [(5, .int y20), (6, .int y12), (0, .ref (a 2)), (1, .int x1), (2, .int x2), (3, .int x3), (4, .int x4)]) hx hb dX0_findCuts_69 hl (k := 6) rfl (by rw [ey20]; rfl) (by decide) rfl (fun ls hl => ?_)
          refine lv_goto (tgt := 16) hx hb dX0_findCuts_72 (by decide) ?_
          exact k16 S y20 uc us H locs ls hu h hP hD hS (lv_sub hl [2, 3, 4, 5, 6, 0] rfl)
        · have h := h.2 c19
          refine lv_aload_n hx hb dX0_findCuts_62 rfl (lv_at hl 1 rfl) ?_
          refine lv_iload_n hx hb dX0_findCuts_63 rfl (lv_at hl 2 rfl) ?_
          refine lv_iload hx hb dX0_findCuts_64 (lv_at hl 0 rfl) ?_
          obtain ⟨c22, k23, hu, h⟩ := h
          refine xc_Vv (wf := wC cyI cyJ cyZ a) (wr := []) (isC := [0, 1, 2, 3, 4, 5, 6, 7, 8, 9, 10, 11, 12, 13, 14, 15, 16, 17, 18, 19, 20]) (isR := []) (As := [.int x1, .int y12]) (rest := []) ⟨hx, hb, hml, hown, hts⟩ (t_X0_insertCut h) (cwV 2 hts gX0_findCuts_X0_insertCut rfl rfl rfl (by decide +kernel) ⟨Nat.le_of_ble_eq_true rfl, Nat.le_of_ble_eq_true rfl⟩) ⟨hK, hE, hA, hP, hD, hS, rfl, rfl, rfl, rfl, by decide⟩ ⟨2, 0, _, _, rfl, rfl, rfl⟩ rfl rfl hl.1 (Nat.le_of_ble_eq_true rfl) dX0_findCuts_66 ⟨hu.1, hu.2⟩ (fun  S21 H locs h hP hD hS => ?_)
          have hP : va_P (dC, dI) vwCl (wC cyI cyJ cyZ a S21) H := hP
          have hD : va_D A (wC cyI cyJ cyZ a S21) := hD
          refine W.cs (cells' := (uc + c22)) (slots' := (us + k23)) rfl rfl ?_
          obtain ⟨y24, ey24⟩ : ∃ z : Int32, z = (x5 + (1 : Int32)) := ⟨_, rfl⟩
          have h := h y24 ey24
          refine lv_iinc (v := y24) (lv' := [(5, .int y24), (6, .int y12), (0, .ref (a 2)), (1, .int x1), (2, .int x2), (3, .int x3), (4, .int x4)]) hx hb dX0_findCuts_69 hl (k := 6) rfl (by rw [ey24]; rfl) (by decide) rfl (fun ls hl => ?_)
          refine lv_goto (tgt := 16) hx hb dX0_findCuts_72 (by decide) ?_
          exact k16 S21 y24 (uc + c22) (us + k23) H locs ls hu h hP hD hS (lv_sub hl [2, 3, 4, 5, 6, 0] rfl)
def b_X0_findCuts_3 (x1 : Int32) (x2 : Int32) (x3 : Int32) (kc : Nat) (ks : Nat) (post : CS → Prop) (g3 : CS → Int32 → Nat → Nat → Prop) (S : CS) (x4 : Int32) (uc : Nat) (us : Nat) : Prop := p_X0_size S x2 (fun r1 => (r1 < x4 → (post S)) ∧ (¬ r1 < x4 → (p_X0_findCuts_16 g3 S x1 x2 x3 x4 (0 : Int32) kc ks uc us post)))
def p_X0_findCuts_3 (S : CS) (x1 : Int32) (x2 : Int32) (x3 : Int32) (x4 : Int32) (kc : Nat) (ks : Nat) (uc : Nat) (us : Nat) (post : CS → Prop) : Prop := ∃ (I : CS → Int32 → Nat → Nat → Prop) (mu : CS → Int32 → Nat → Nat → Nat), I S x4 uc us ∧ ∀ (S : CS) (x4 : Int32) (uc : Nat) (us : Nat), I S x4 uc us → b_X0_findCuts_3 x1 x2 x3 kc ks post (fun S' x4' uc' us' => I S' x4' uc' us' ∧ mu S' x4' uc' us' < mu S x4 uc us) S x4 uc us
set_option maxHeartbeats 1000000 in
set_option maxRecDepth 100000 in
theorem t_X0_findCuts_3 {p : Program} {l : Launch} {e : Env} {s : State} {m : MethodId} {args : Array Value} {below : List Frame} {meth : Method} {c : Code} {dC : Nat → ClassId} {dI : Nat → Nat → Nat} {cyI cyJ cyZ : ClassId} {r : Nat → Nat} {a : Nat → Nat} {A : Nat → Prop} {S : CS} {x1 : Int32} {x2 : Int32} {x3 : Int32} {x4 : Int32} {kc : Nat} {ks : Nat} {uc : Nat} {us : Nat} {post : CS → Prop} (G : xG p s m args meth c cX0_findCuts 7 RX0 none wsX0_findCuts (dC, dI) (tyA cyI cyJ cyZ) r A) (hu : uc ≤ kc ∧ us ≤ ks) (h : p_X0_findCuts_3 S x1 x2 x3 x4 kc ks uc us post) {H : Heap} {locs : List Loc} {ls : Array Slot} (hP : va_P (dC, dI) vwCl (wC cyI cyJ cyZ a S) H) (hD : va_D A (wC cyI cyJ cyZ a S)) (hS : va_S A s.heap H locs) (hl : lv_has ls 7 [(0, .ref (a 2)), (1, .int x1), (2, .int x2), (3, .int x3), (4, .int x4)]) : W p l e { frames := 3, cells := kc, slots := ks, locals := 106 } s m args below meth c H locs uc us (MQ below (va_Qv post (xAt (dC, dI) (tyA cyI cyJ cyZ) (wC cyI cyJ cyZ a) A) A) args s kc ks A) (F0 m 3 ls []) := by
  obtain ⟨hx, hb, hml, hown, hts, hr, hlocks, hK, hE, hA⟩ := id G
  obtain ⟨I, mu, h0, hstep⟩ := h
  suffices hgo : ∀ (n : Nat) (S : CS) (x4 : Int32) (uc : Nat) (us : Nat), I S x4 uc us → mu S x4 uc us < n → ∀ (H : Heap) (locs : List Loc) (ls : Array Slot), uc ≤ kc ∧ us ≤ ks → va_P (dC, dI) vwCl (wC cyI cyJ cyZ a S) H → va_D A (wC cyI cyJ cyZ a S) → va_S A s.heap H locs → lv_has ls 7 [(0, .ref (a 2)), (1, .int x1), (2, .int x2), (3, .int x3), (4, .int x4)] → W p l e { frames := 3, cells := kc, slots := ks, locals := 106 } s m args below meth c H locs uc us (MQ below (va_Qv post (xAt (dC, dI) (tyA cyI cyJ cyZ) (wC cyI cyJ cyZ a) A) A) args s kc ks A) (F0 m 3 ls []) from hgo (mu S x4 uc us + 1) S x4 uc us h0 (Nat.lt_succ_self _) H locs ls hu hP hD hS hl
  clear h0 hP hD hS hl hu
  intro n
  induction n with
  | zero => intro S x4 uc us _ h; exact absurd h (Nat.not_lt_zero _)
  | succ n ih =>
    intro S x4 uc us hI hmu H locs ls hu hP hD hS hl
    have h := hstep S x4 uc us hI
    unfold b_X0_findCuts_3 at h
    have k3 : ∀ (S' : CS) (x4' : Int32) (uc' : Nat) (us' : Nat) (H : Heap) (locs : List Loc) (ls : Array Slot), uc' ≤ kc ∧ us' ≤ ks → (fun S' x4' uc' us' => I S' x4' uc' us' ∧ mu S' x4' uc' us' < mu S x4 uc us) S' x4' uc' us' → va_P (dC, dI) vwCl (wC cyI cyJ cyZ a S') H → va_D A (wC cyI cyJ cyZ a S') → va_S A s.heap H locs → lv_has ls 7 [(0, .ref (a 2)), (1, .int x1), (2, .int x2), (3, .int x3), (4, .int x4')] → W p l e { frames := 3, cells := kc, slots := ks, locals := 106 } s m args below meth c H locs uc' us' (MQ below (va_Qv post (xAt (dC, dI) (tyA cyI cyJ cyZ) (wC cyI cyJ cyZ a) A) A) args s kc ks A) (F0 m 3 ls []) := fun S' x4' uc' us' H locs ls hu hh hP hD hS hl => ih S' x4' uc' us' hh.1 (Nat.lt_of_lt_of_le hh.2 (Nat.le_of_lt_succ hmu)) H locs ls hu hP hD hS hl
    generalize (fun S' x4' uc' us' => I S' x4' uc' us' ∧ mu S' x4' uc' us' < mu S x4 uc us) = g3 at h k3
    refine lv_iload hx hb dX0_findCuts_3 (lv_at hl 4 rfl) ?_
    refine lv_aload_n hx hb dX0_findCuts_5 rfl (lv_at hl 0 rfl) ?_
    refine lv_iload_n hx hb dX0_findCuts_6 rfl (lv_at hl 2 rfl) ?_
    refine xc_Vi (wf := wC cyI cyJ cyZ a) (wr := []) (isC := [0, 1, 2, 3, 4, 5, 6, 7, 8, 9, 10, 11, 12, 13, 14, 15, 16, 17, 18, 19, 20]) (isR := []) (As := [.int x2]) (rest := [.int x4]) ⟨hx, hb, hml, hown, hts⟩ (t_X0_size h) (cwV 1 hts gX0_findCuts_X0_size rfl rfl rfl (by decide +kernel) ⟨Nat.le_of_ble_eq_true rfl, Nat.le_of_ble_eq_true rfl⟩) ⟨hK, hE, hA, hP, hD, hS, rfl, rfl, rfl, rfl, by decide⟩ ⟨2, 0, _, _, rfl, rfl, rfl⟩ rfl rfl hl.1 (Nat.le_of_ble_eq_true rfl) dX0_findCuts_7 ⟨hu.1, hu.2⟩ (fun r1 S2 H locs h hP hD hS => ?_)
    obtain ⟨rfl, h⟩ := h
    have hP : va_P (dC, dI) vwCl (wC cyI cyJ cyZ a S) H := hP
    have hD : va_D A (wC cyI cyJ cyZ a S) := hD
    refine W.cs (cells' := uc) (slots' := us) rfl rfl ?_
    refine lv_icmp_gt (tgt := 81) hx hb dX0_findCuts_10 (by decide) (fun c3 => ?_) (fun c3 => ?_)
    · have h := h.1 c3
      exact xr_v (S := S) hx hb hr hlocks hK hP hD hS h hu.1 hu.2 dX0_findCuts_81
    · have h := h.2 c3
      refine lv_iconst (v := 0) hx hb dX0_findCuts_13 (by decide) ?_
      refine lv_istore (lv' := [(5, .int (0 : Int32)), (0, .ref (a 2)), (1, .int x1), (2, .int x2), (3, .int x3), (4, .int x4)]) hx hb dX0_findCuts_14 hl (by decide) rfl (fun ls hl => ?_)
      exact t_X0_findCuts_16 G hu k3 h hP hD hS (lv_sub hl [1, 2, 3, 4, 5, 0] rfl)
def p_X0_findCuts (S : CS) (x1 : Int32) (x2 : Int32) (x3 : Int32) (kc : Nat) (ks : Nat) (post : CS → Prop) : Prop := p_X0_findCuts_3 S x1 x2 x3 (0 : Int32) kc ks 0 0 post
set_option maxHeartbeats 1000000 in
set_option maxRecDepth 100000 in
theorem t_X0_findCuts {l : Launch} {dC : Nat → ClassId} {dI : Nat → Nat → Nat} {cyI cyJ cyZ : ClassId} {r : Nat → Nat} {a : Nat → Nat} {S : CS} {x1 : Int32} {x2 : Int32} {x3 : Int32} {kc : Nat} {ks : Nat} {post : CS → Prop} (h : p_X0_findCuts S x1 x2 x3 kc ks post) : xMv l yX0_findCuts wsX0_findCuts { frames := 3, cells := kc, slots := ks, locals := 106 } (dC, dI) (tyA cyI cyJ cyZ) r (wC cyI cyJ cyZ a) [.ref (a 2), .int x1, .int x2, .int x3] S post kc ks := by
  intro sz
  refine Met.ofW (cc := cX0_findCuts) (maxL := 7) (ret := none) (by decide) rfl ?_
  intro p e s m args below meth c s₁ B hml hv
  obtain ⟨rfl, G, hP, hD, hS⟩ := xG.of rfl B hml hv
  generalize hAe : va_A (wC cyI cyJ cyZ a S) sz = A at G hD hS ⊢
  have G : xG p s m _ meth c cX0_findCuts 7 RX0 none wsX0_findCuts (dC, dI) (tyA cyI cyJ cyZ) r A := G
  obtain ⟨hx, hb, hml, hown, hts, hr, hlocks, hK, hE, hA⟩ := id G
  have hl := lv_entry ([.ref (a 2), .int x1, .int x2, .int x3]) (n := 7) (Nat.le_of_ble_eq_true rfl)
  rw [lg_entry_eq]
  generalize (lg_sl ([.ref (a 2), .int x1, .int x2, .int x3]) ++ List.replicate (7 - (lg_sl ([.ref (a 2), .int x1, .int x2, .int x3])).length) Slot.unset).toArray = ls at hl ⊢
  have hl : lv_has ls 7 [(0, .ref (a 2)), (1, .int x1), (2, .int x2), (3, .int x3)] := hl
  show W p l e { frames := 3, cells := kc, slots := ks, locals := 106 } s m _ below meth c s.heap [] 0 0 _ _
  unfold p_X0_findCuts at h
  have hu : 0 ≤ kc ∧ 0 ≤ ks := ⟨Nat.zero_le _, Nat.zero_le _⟩
  refine lv_iconst (v := 0) hx hb dX0_findCuts_0 (by decide) ?_
  refine lv_istore (lv' := [(4, .int (0 : Int32)), (0, .ref (a 2)), (1, .int x1), (2, .int x2), (3, .int x3)]) hx hb dX0_findCuts_1 hl (by decide) rfl (fun ls hl => ?_)
  exact t_X0_findCuts_3 G hu h hP hD hS (lv_sub hl [1, 2, 3, 4, 0] rfl)
def p_X0_literalTable (S : CS) (x1 : Int32) (x2 : Int32) (post : Int32 → Prop) : Prop := (¬ (x1 &&& (1 : Int32)) = 0 → (vp_in (x1 >>> ((1 : Int32) &&& 31)) 32 ∧ (post (((cTB S) (x1 >>> ((1 : Int32) &&& 31)).toNatClampNeg) ^^^ x2)))) ∧ ((x1 &&& (1 : Int32)) = 0 → (vp_in (x1 >>> ((1 : Int32) &&& 31)) 32 ∧ (post ((cTB S) (x1 >>> ((1 : Int32) &&& 31)).toNatClampNeg))))
set_option maxHeartbeats 1000000 in
set_option maxRecDepth 100000 in
theorem t_X0_literalTable {l : Launch} {dC : Nat → ClassId} {dI : Nat → Nat → Nat} {cyI cyJ cyZ : ClassId} {r : Nat → Nat} {a : Nat → Nat} {S : CS} {x1 : Int32} {x2 : Int32} {post : Int32 → Prop} (h : p_X0_literalTable S x1 x2 post) : xMi l yX0_literalTable wsX0_literalTable { frames := 0, cells := 0, slots := 0, locals := 0 } (dC, dI) (tyA cyI cyJ cyZ) r (wC cyI cyJ cyZ a) [.ref (a 2), .int x1, .int x2] S (fun x u => S = u ∧ post x) 0 0 := by
  intro sz
  refine Met.ofW (cc := cX0_literalTable) (maxL := 3) (ret := (some .int)) (by decide) rfl ?_
  intro p e s m args below meth c s₁ B hml hv
  obtain ⟨rfl, G, hP, hD, hS⟩ := xG.of rfl B hml hv
  generalize hAe : va_A (wC cyI cyJ cyZ a S) sz = A at G hD hS ⊢
  have G : xG p s m _ meth c cX0_literalTable 3 RX0 (some .int) wsX0_literalTable (dC, dI) (tyA cyI cyJ cyZ) r A := G
  obtain ⟨hx, hb, hml, hown, hts, hr, hlocks, hK, hE, hA⟩ := id G
  have hiX0 : ∀ w ∈ wsX00, w ∈ wsX0_literalTable := by decide +kernel
  have hf15 := hts (.fieldLink RX0 15 "CellMapping$CutTable" "tables" "[I") (by decide +kernel)
  have hl := lv_entry ([.ref (a 2), .int x1, .int x2]) (n := 3) (Nat.le_of_ble_eq_true rfl)
  rw [lg_entry_eq]
  generalize (lg_sl ([.ref (a 2), .int x1, .int x2]) ++ List.replicate (3 - (lg_sl ([.ref (a 2), .int x1, .int x2])).length) Slot.unset).toArray = ls at hl ⊢
  have hl : lv_has ls 3 [(0, .ref (a 2)), (1, .int x1), (2, .int x2)] := hl
  show W p l e { frames := 0, cells := 0, slots := 0, locals := 0 } s m _ below meth c s.heap [] 0 0 _ _
  unfold p_X0_literalTable at h
  refine lv_iload_n hx hb dX0_literalTable_0 rfl (lv_at hl 1 rfl) ?_
  refine lv_iconst (v := 1) hx hb dX0_literalTable_1 (by decide) ?_
  refine lv_iand hx hb dX0_literalTable_2 ?_
  refine lv_if_ne (tgt := 17) hx hb dX0_literalTable_3 (by decide) (fun c1 => ?_) (fun c1 => ?_)
  · have h := h.1 c1
    refine lv_aload_n hx hb dX0_literalTable_17 rfl (lv_at hl 0 rfl) ?_
    refine va_get (D := (dC, dI)) (ci := 0) (v := .ref (a 11)) (C := RX0) (T := TX0) (N := 5) hx hb hts hiX0 hown hK hP 2 rfl rfl 2 (by decide) hf15 (fun _ h9 => h9) rfl dX0_literalTable_18 ?_
    refine lv_iload_n hx hb dX0_literalTable_21 rfl (lv_at hl 1 rfl) ?_
    refine lv_iconst (v := 1) hx hb dX0_literalTable_22 (by decide) ?_
    refine lv_ishr hx hb dX0_literalTable_23 ?_
    obtain ⟨i2, h⟩ := h
    refine va_iald (D := (dC, dI)) hx hb hK hP 11 0 rfl rfl i2 dX0_literalTable_24 ?_
    refine lv_iload_n hx hb dX0_literalTable_25 rfl (lv_at hl 2 rfl) ?_
    refine lv_ixor hx hb dX0_literalTable_26 ?_
    exact xr_i (S := S) hx hb hr hlocks hK hP hD hS ⟨rfl, h⟩ (Nat.le_of_ble_eq_true rfl) (Nat.le_of_ble_eq_true rfl) dX0_literalTable_27
  · have h := h.2 c1
    refine lv_aload_n hx hb dX0_literalTable_6 rfl (lv_at hl 0 rfl) ?_
    refine va_get (D := (dC, dI)) (ci := 0) (v := .ref (a 11)) (C := RX0) (T := TX0) (N := 5) hx hb hts hiX0 hown hK hP 2 rfl rfl 2 (by decide) hf15 (fun _ h9 => h9) rfl dX0_literalTable_7 ?_
    refine lv_iload_n hx hb dX0_literalTable_10 rfl (lv_at hl 1 rfl) ?_
    refine lv_iconst (v := 1) hx hb dX0_literalTable_11 (by decide) ?_
    refine lv_ishr hx hb dX0_literalTable_12 ?_
    obtain ⟨i3, h⟩ := h
    refine va_iald (D := (dC, dI)) hx hb hK hP 11 0 rfl rfl i3 dX0_literalTable_13 ?_
    refine lv_goto (tgt := 27) hx hb dX0_literalTable_14 (by decide) ?_
    exact xr_i (S := S) hx hb hr hlocks hK hP hD hS ⟨rfl, h⟩ (Nat.le_of_ble_eq_true rfl) (Nat.le_of_ble_eq_true rfl) dX0_literalTable_27
def b_X0_functionOf_14 (x1 : Int32) (x2 : Int32) (x3 : Int32) (post : Int32 → CS → Prop) (g14 : CS → Int32 → Int32 → Prop) (S : CS) (x4 : Int32) (x5 : Int32) : Prop := (x1 < x5 → (vp_in x1 32 ∧ (post ((cTB S) x1.toNatClampNeg) S))) ∧ (¬ x1 < x5 → ((¬ ((ushr x2 x5) &&& (1 : Int32)) = (1 : Int32) → (p_X2_isInput S x5 (fun r8 => (r8 = 0 → (vp_in x5 32 ∧ (p_X0_literalTable S ((cLE S) x5.toNatClampNeg) x3 (fun r12 => vp_in x5 32 ∧ (p_X0_literalTable S ((cRI S) x5.toNatClampNeg) x3 (fun r15 => vp_in x5 32 ∧ (∀ S18 : CS, S18 = (cTB_s S (upd (cTB S) x5.toNatClampNeg (r12 &&& r15))) → (∀ y19 : Int32, y19 = (x5 + (1 : Int32)) → (g14 S18 x4 y19))))))))) ∧ (¬ r8 = 0 → (vp_in x5 32 ∧ (∀ S21 : CS, S21 = (cTB_s S (upd (cTB S) x5.toNatClampNeg (0 : Int32))) → (∀ y22 : Int32, y22 = (x5 + (1 : Int32)) → (g14 S21 x4 y22)))))))) ∧ (((ushr x2 x5) &&& (1 : Int32)) = (1 : Int32) → (p_X4_variable S x4 x3 (fun r23 => vp_in x5 32 ∧ (∀ S26 : CS, S26 = (cTB_s S (upd (cTB S) x5.toNatClampNeg r23)) → (∀ y27 : Int32, y27 = (x4 + (1 : Int32)) → (∀ y28 : Int32, y28 = (x5 + (1 : Int32)) → (g14 S26 y27 y28)))))))))
def p_X0_functionOf_14 (S : CS) (x1 : Int32) (x2 : Int32) (x3 : Int32) (x4 : Int32) (x5 : Int32) (post : Int32 → CS → Prop) : Prop := ∃ (I : CS → Int32 → Int32 → Prop) (mu : CS → Int32 → Int32 → Nat), I S x4 x5 ∧ ∀ (S : CS) (x4 : Int32) (x5 : Int32), I S x4 x5 → b_X0_functionOf_14 x1 x2 x3 post (fun S' x4' x5' => I S' x4' x5' ∧ mu S' x4' x5' < mu S x4 x5) S x4 x5
set_option maxHeartbeats 1000000 in
set_option maxRecDepth 100000 in
theorem t_X0_functionOf_14 {p : Program} {l : Launch} {e : Env} {s : State} {m : MethodId} {args : Array Value} {below : List Frame} {meth : Method} {c : Code} {dC : Nat → ClassId} {dI : Nat → Nat → Nat} {cyI cyJ cyZ : ClassId} {r : Nat → Nat} {a : Nat → Nat} {A : Nat → Prop} {S : CS} {x1 : Int32} {x2 : Int32} {x3 : Int32} {x4 : Int32} {x5 : Int32} {post : Int32 → CS → Prop} (G : xG p s m args meth c cX0_functionOf 6 RX0 (some .int) wsX0_functionOf (dC, dI) (tyA cyI cyJ cyZ) r A) (h : p_X0_functionOf_14 S x1 x2 x3 x4 x5 post) {H : Heap} {locs : List Loc} {ls : Array Slot} (hP : va_P (dC, dI) vwCl (wC cyI cyJ cyZ a S) H) (hD : va_D A (wC cyI cyJ cyZ a S)) (hS : va_S A s.heap H locs) (hl : lv_has ls 6 [(0, .ref (a 2)), (1, .int x1), (2, .int x2), (3, .int x3), (4, .int x4), (5, .int x5)]) : W p l e { frames := 1, cells := 0, slots := 0, locals := 22 } s m args below meth c H locs 0 0 (MQ below (va_Qi post (xAt (dC, dI) (tyA cyI cyJ cyZ) (wC cyI cyJ cyZ a) A) A) args s 0 0 A) (F0 m 14 ls []) := by
  obtain ⟨hx, hb, hml, hown, hts, hr, hlocks, hK, hE, hA⟩ := id G
  have hiX0 : ∀ w ∈ wsX00, w ∈ wsX0_functionOf := by decide +kernel
  have hf15 := hts (.fieldLink RX0 15 "CellMapping$CutTable" "tables" "[I") (by decide +kernel)
  have hf24 := hts (.fieldLink RX0 24 "CellMapping$CutTable" "graph" "LCellMapping$Graph;") (by decide +kernel)
  have hiX2 : ∀ w ∈ wsX20, w ∈ wsX0_functionOf := by decide +kernel
  have hf32 := hts (.fieldLink RX0 32 "CellMapping$Graph" "left" "[I") (by decide +kernel)
  have hf35 := hts (.fieldLink RX0 35 "CellMapping$Graph" "right" "[I") (by decide +kernel)
  obtain ⟨I, mu, h0, hstep⟩ := h
  suffices hgo : ∀ (n : Nat) (S : CS) (x4 : Int32) (x5 : Int32), I S x4 x5 → mu S x4 x5 < n → ∀ (H : Heap) (locs : List Loc) (ls : Array Slot), va_P (dC, dI) vwCl (wC cyI cyJ cyZ a S) H → va_D A (wC cyI cyJ cyZ a S) → va_S A s.heap H locs → lv_has ls 6 [(0, .ref (a 2)), (1, .int x1), (2, .int x2), (3, .int x3), (4, .int x4), (5, .int x5)] → W p l e { frames := 1, cells := 0, slots := 0, locals := 22 } s m args below meth c H locs 0 0 (MQ below (va_Qi post (xAt (dC, dI) (tyA cyI cyJ cyZ) (wC cyI cyJ cyZ a) A) A) args s 0 0 A) (F0 m 14 ls []) from hgo (mu S x4 x5 + 1) S x4 x5 h0 (Nat.lt_succ_self _) H locs ls hP hD hS hl
  clear h0 hP hD hS hl
  intro n
  induction n with
  | zero => intro S x4 x5 _ h; exact absurd h (Nat.not_lt_zero _)
  | succ n ih =>
    intro S x4 x5 hI hmu H locs ls hP hD hS hl
    have h := hstep S x4 x5 hI
    unfold b_X0_functionOf_14 at h
    have k14 : ∀ (S' : CS) (x4' : Int32) (x5' : Int32) (H : Heap) (locs : List Loc) (ls : Array Slot), (fun S' x4' x5' => I S' x4' x5' ∧ mu S' x4' x5' < mu S x4 x5) S' x4' x5' → va_P (dC, dI) vwCl (wC cyI cyJ cyZ a S') H → va_D A (wC cyI cyJ cyZ a S') → va_S A s.heap H locs → lv_has ls 6 [(0, .ref (a 2)), (1, .int x1), (2, .int x2), (3, .int x3), (4, .int x4'), (5, .int x5')] → W p l e { frames := 1, cells := 0, slots := 0, locals := 22 } s m args below meth c H locs 0 0 (MQ below (va_Qi post (xAt (dC, dI) (tyA cyI cyJ cyZ) (wC cyI cyJ cyZ a) A) A) args s 0 0 A) (F0 m 14 ls []) := fun S' x4' x5' H locs ls hh hP hD hS hl => ih S' x4' x5' hh.1 (Nat.lt_of_lt_of_le hh.2 (Nat.le_of_lt_succ hmu)) H locs ls hP hD hS hl
    generalize (fun S' x4' x5' => I S' x4' x5' ∧ mu S' x4' x5' < mu S x4 x5) = g14 at h k14
    refine lv_iload hx hb dX0_functionOf_14 (lv_at hl 5 rfl) ?_
    refine lv_iload_n hx hb dX0_functionOf_16 rfl (lv_at hl 1 rfl) ?_
    refine lv_icmp_gt (tgt := 116) hx hb dX0_functionOf_17 (by decide) (fun c5 => ?_) (fun c5 => ?_)
    · have h := h.1 c5
      refine lv_aload_n hx hb dX0_functionOf_116 rfl (lv_at hl 0 rfl) ?_
      refine va_get (D := (dC, dI)) (ci := 0) (v := .ref (a 11)) (C := RX0) (T := TX0) (N := 5) hx hb hts hiX0 hown hK hP 2 rfl rfl 2 (by decide) hf15 (fun _ h9 => h9) rfl dX0_functionOf_117 ?_
      refine lv_iload_n hx hb dX0_functionOf_120 rfl (lv_at hl 1 rfl) ?_
      obtain ⟨i6, h⟩ := h
      refine va_iald (D := (dC, dI)) hx hb hK hP 11 0 rfl rfl i6 dX0_functionOf_121 ?_
      exact xr_i (S := S) hx hb hr hlocks hK hP hD hS h (Nat.le_of_ble_eq_true rfl) (Nat.le_of_ble_eq_true rfl) dX0_functionOf_122
    · have h := h.2 c5
      refine lv_iload_n hx hb dX0_functionOf_20 rfl (lv_at hl 2 rfl) ?_
      refine lv_iload hx hb dX0_functionOf_21 (lv_at hl 5 rfl) ?_
      refine lv_iushr (v := (ushr x2 x5)) hx hb dX0_functionOf_23 rfl ?_
      refine lv_iconst (v := 1) hx hb dX0_functionOf_24 (by decide) ?_
      refine lv_iand hx hb dX0_functionOf_25 ?_
      refine lv_iconst (v := 1) hx hb dX0_functionOf_26 (by decide) ?_
      refine lv_icmp_ne (tgt := 49) hx hb dX0_functionOf_27 (by decide) (fun c7 => ?_) (fun c7 => ?_)
      · have h := h.1 c7
        refine lv_aload_n hx hb dX0_functionOf_49 rfl (lv_at hl 0 rfl) ?_
        refine va_get (D := (dC, dI)) (ci := 0) (v := .ref (a 1)) (C := RX0) (T := TX0) (N := 5) hx hb hts hiX0 hown hK hP 2 rfl rfl 0 (by decide) hf24 (fun _ h9 => h9) rfl dX0_functionOf_50 ?_
        refine lv_iload hx hb dX0_functionOf_53 (lv_at hl 5 rfl) ?_
        refine xc_Vi (wf := wC cyI cyJ cyZ a) (wr := []) (isC := [0, 1, 2, 3, 4, 5, 6, 7, 8, 9, 10, 11, 12, 13, 14, 15, 16, 17, 18, 19, 20]) (isR := []) (As := [.int x5]) (rest := []) ⟨hx, hb, hml, hown, hts⟩ (t_X2_isInput h) (cwV 1 hts gX0_functionOf_X2_isInput rfl rfl rfl (by decide +kernel) ⟨Nat.le_of_ble_eq_true rfl, Nat.le_of_ble_eq_true rfl⟩) ⟨hK, hE, hA, hP, hD, hS, rfl, rfl, rfl, rfl, by decide⟩ ⟨1, 2, _, _, rfl, rfl, rfl⟩ rfl rfl hl.1 (Nat.le_of_ble_eq_true rfl) dX0_functionOf_55 ⟨Nat.le_of_ble_eq_true rfl, Nat.le_of_ble_eq_true rfl⟩ (fun r8 S9 H locs h hP hD hS => ?_)
        obtain ⟨rfl, h⟩ := h
        have hP : va_P (dC, dI) vwCl (wC cyI cyJ cyZ a S) H := hP
        have hD : va_D A (wC cyI cyJ cyZ a S) := hD
        refine lv_if_eq (tgt := 72) hx hb dX0_functionOf_58 (by decide) (fun c10 => ?_) (fun c10 => ?_)
        · have h := h.1 c10
          refine lv_aload_n hx hb dX0_functionOf_72 rfl (lv_at hl 0 rfl) ?_
          refine va_get (D := (dC, dI)) (ci := 0) (v := .ref (a 11)) (C := RX0) (T := TX0) (N := 5) hx hb hts hiX0 hown hK hP 2 rfl rfl 2 (by decide) hf15 (fun _ h9 => h9) rfl dX0_functionOf_73 ?_
          refine lv_iload hx hb dX0_functionOf_76 (lv_at hl 5 rfl) ?_
          refine lv_aload_n hx hb dX0_functionOf_78 rfl (lv_at hl 0 rfl) ?_
          refine lv_aload_n hx hb dX0_functionOf_79 rfl (lv_at hl 0 rfl) ?_
          refine va_get (D := (dC, dI)) (ci := 0) (v := .ref (a 1)) (C := RX0) (T := TX0) (N := 5) hx hb hts hiX0 hown hK hP 2 rfl rfl 0 (by decide) hf24 (fun _ h9 => h9) rfl dX0_functionOf_80 ?_
          refine va_get (D := (dC, dI)) (ci := 2) (v := .ref (a 7)) (C := RX2) (T := TX2) (N := 6) hx hb hts hiX2 hown hK hP 1 rfl rfl 1 (by decide) hf32 (fun _ h9 => h9) rfl dX0_functionOf_83 ?_
          refine lv_iload hx hb dX0_functionOf_86 (lv_at hl 5 rfl) ?_
          obtain ⟨i11, h⟩ := h
          refine va_iald (D := (dC, dI)) hx hb hK hP 7 0 rfl rfl i11 dX0_functionOf_88 ?_
          refine lv_iload_n hx hb dX0_functionOf_89 rfl (lv_at hl 3 rfl) ?_
          refine xc_Vi (wf := wC cyI cyJ cyZ a) (wr := []) (isC := [0, 1, 2, 3, 4, 5, 6, 7, 8, 9, 10, 11, 12, 13, 14, 15, 16, 17, 18, 19, 20]) (isR := []) (As := [.int ((cLE S) x5.toNatClampNeg), .int x3]) (rest := [.int x5, .ref (a 11)]) ⟨hx, hb, hml, hown, hts⟩ (t_X0_literalTable h) (cwV 2 hts gX0_functionOf_X0_literalTable rfl rfl rfl (by decide +kernel) ⟨Nat.le_of_ble_eq_true rfl, Nat.le_of_ble_eq_true rfl⟩) ⟨hK, hE, hA, hP, hD, hS, rfl, rfl, rfl, rfl, by decide⟩ ⟨2, 0, _, _, rfl, rfl, rfl⟩ rfl rfl hl.1 (Nat.le_of_ble_eq_true rfl) dX0_functionOf_90 ⟨Nat.le_of_ble_eq_true rfl, Nat.le_of_ble_eq_true rfl⟩ (fun r12 S13 H locs h hP hD hS => ?_)
          obtain ⟨rfl, h⟩ := h
          have hP : va_P (dC, dI) vwCl (wC cyI cyJ cyZ a S) H := hP
          have hD : va_D A (wC cyI cyJ cyZ a S) := hD
          refine lv_aload_n hx hb dX0_functionOf_93 rfl (lv_at hl 0 rfl) ?_
          refine lv_aload_n hx hb dX0_functionOf_94 rfl (lv_at hl 0 rfl) ?_
          refine va_get (D := (dC, dI)) (ci := 0) (v := .ref (a 1)) (C := RX0) (T := TX0) (N := 5) hx hb hts hiX0 hown hK hP 2 rfl rfl 0 (by decide) hf24 (fun _ h9 => h9) rfl dX0_functionOf_95 ?_
          refine va_get (D := (dC, dI)) (ci := 2) (v := .ref (a 8)) (C := RX2) (T := TX2) (N := 6) hx hb hts hiX2 hown hK hP 1 rfl rfl 2 (by decide) hf35 (fun _ h9 => h9) rfl dX0_functionOf_98 ?_
          refine lv_iload hx hb dX0_functionOf_101 (lv_at hl 5 rfl) ?_
          obtain ⟨i14, h⟩ := h
          refine va_iald (D := (dC, dI)) hx hb hK hP 8 0 rfl rfl i14 dX0_functionOf_103 ?_
          refine lv_iload_n hx hb dX0_functionOf_104 rfl (lv_at hl 3 rfl) ?_
          refine xc_Vi (wf := wC cyI cyJ cyZ a) (wr := []) (isC := [0, 1, 2, 3, 4, 5, 6, 7, 8, 9, 10, 11, 12, 13, 14, 15, 16, 17, 18, 19, 20]) (isR := []) (As := [.int ((cRI S) x5.toNatClampNeg), .int x3]) (rest := [.int r12, .int x5, .ref (a 11)]) ⟨hx, hb, hml, hown, hts⟩ (t_X0_literalTable h) (cwV 2 hts gX0_functionOf_X0_literalTable rfl rfl rfl (by decide +kernel) ⟨Nat.le_of_ble_eq_true rfl, Nat.le_of_ble_eq_true rfl⟩) ⟨hK, hE, hA, hP, hD, hS, rfl, rfl, rfl, rfl, by decide⟩ ⟨2, 0, _, _, rfl, rfl, rfl⟩ rfl rfl hl.1 (Nat.le_of_ble_eq_true rfl) dX0_functionOf_105 ⟨Nat.le_of_ble_eq_true rfl, Nat.le_of_ble_eq_true rfl⟩ (fun r15 S16 H locs h hP hD hS => ?_)
          obtain ⟨rfl, h⟩ := h
          have hP : va_P (dC, dI) vwCl (wC cyI cyJ cyZ a S) H := hP
          have hD : va_D A (wC cyI cyJ cyZ a S) := hD
          refine lv_iand hx hb dX0_functionOf_108 ?_
          obtain ⟨i17, h⟩ := h
          refine va_iast (D := (dC, dI)) hx hb hK hP hD hS 11 0 rfl rfl i17 dX0_functionOf_109 (fun H locs hP hD hS => ?_)
          obtain ⟨S18, eS18⟩ : ∃ z : CS, z = (cTB_s S (upd (cTB S) x5.toNatClampNeg (r12 &&& r15))) := ⟨_, rfl⟩
          have h := h S18 eS18
          have hP := nP_cTB eS18 hP
          have hD := nD_cTB eS18 hD
          obtain ⟨y19, ey19⟩ : ∃ z : Int32, z = (x5 + (1 : Int32)) := ⟨_, rfl⟩
          have h := h y19 ey19
          refine lv_iinc (v := y19) (lv' := [(5, .int y19), (0, .ref (a 2)), (1, .int x1), (2, .int x2), (3, .int x3), (4, .int x4)]) hx hb dX0_functionOf_110 hl (k := 5) rfl (by rw [ey19]; rfl) (by decide) rfl (fun ls hl => ?_)
          refine lv_goto (tgt := 14) hx hb dX0_functionOf_113 (by decide) ?_
          exact k14 S18 x4 y19 H locs ls h hP hD hS (lv_sub hl [1, 2, 3, 4, 5, 0] rfl)
        · have h := h.2 c10
          refine lv_aload_n hx hb dX0_functionOf_61 rfl (lv_at hl 0 rfl) ?_
          refine va_get (D := (dC, dI)) (ci := 0) (v := .ref (a 11)) (C := RX0) (T := TX0) (N := 5) hx hb hts hiX0 hown hK hP 2 rfl rfl 2 (by decide) hf15 (fun _ h9 => h9) rfl dX0_functionOf_62 ?_
          refine lv_iload hx hb dX0_functionOf_65 (lv_at hl 5 rfl) ?_
          refine lv_iconst (v := 0) hx hb dX0_functionOf_67 (by decide) ?_
          obtain ⟨i20, h⟩ := h
          refine va_iast (D := (dC, dI)) hx hb hK hP hD hS 11 0 rfl rfl i20 dX0_functionOf_68 (fun H locs hP hD hS => ?_)
          obtain ⟨S21, eS21⟩ : ∃ z : CS, z = (cTB_s S (upd (cTB S) x5.toNatClampNeg (0 : Int32))) := ⟨_, rfl⟩
          have h := h S21 eS21
          have hP := nP_cTB eS21 hP
          have hD := nD_cTB eS21 hD
          refine lv_goto (tgt := 110) hx hb dX0_functionOf_69 (by decide) ?_
          obtain ⟨y22, ey22⟩ : ∃ z : Int32, z = (x5 + (1 : Int32)) := ⟨_, rfl⟩
          have h := h y22 ey22
          refine lv_iinc (v := y22) (lv' := [(5, .int y22), (0, .ref (a 2)), (1, .int x1), (2, .int x2), (3, .int x3), (4, .int x4)]) hx hb dX0_functionOf_110 hl (k := 5) rfl (by rw [ey22]; rfl) (by decide) rfl (fun ls hl => ?_)
          refine lv_goto (tgt := 14) hx hb dX0_functionOf_113 (by decide) ?_
          exact k14 S21 x4 y22 H locs ls h hP hD hS (lv_sub hl [1, 2, 3, 4, 5, 0] rfl)
      · have h := h.2 c7
        refine lv_aload_n hx hb dX0_functionOf_30 rfl (lv_at hl 0 rfl) ?_
        refine va_get (D := (dC, dI)) (ci := 0) (v := .ref (a 11)) (C := RX0) (T := TX0) (N := 5) hx hb hts hiX0 hown hK hP 2 rfl rfl 2 (by decide) hf15 (fun _ h9 => h9) rfl dX0_functionOf_31 ?_
        refine lv_iload hx hb dX0_functionOf_34 (lv_at hl 5 rfl) ?_
        refine lv_iload hx hb dX0_functionOf_36 (lv_at hl 4 rfl) ?_
        refine lv_iload_n hx hb dX0_functionOf_38 rfl (lv_at hl 3 rfl) ?_
        refine xc_Si (wf := wC cyI cyJ cyZ a) (wr := []) (isC := [0, 1, 2, 3, 4, 5, 6, 7, 8, 9, 10, 11, 12, 13, 14, 15, 16, 17, 18, 19, 20]) (isR := []) (As := [.int x4, .int x3]) (rest := [.int x5, .ref (a 11)]) ⟨hx, hb, hml, hown, hts⟩ (t_X4_variable h) (va_cwS 2 hts gX0_functionOf_X4_variable rfl rfl rfl (by decide +kernel) ⟨Nat.le_of_ble_eq_true rfl, Nat.le_of_ble_eq_true rfl⟩) ⟨hK, hE, hA, hP, hD, hS, rfl, rfl, rfl, rfl, by decide⟩ rfl rfl hl.1 (Nat.le_of_ble_eq_true rfl) dX0_functionOf_39 ⟨Nat.le_of_ble_eq_true rfl, Nat.le_of_ble_eq_true rfl⟩ (fun r23 S24 H locs h hP hD hS => ?_)
        obtain ⟨rfl, h⟩ := h
        have hP : va_P (dC, dI) vwCl (wC cyI cyJ cyZ a S) H := hP
        have hD : va_D A (wC cyI cyJ cyZ a S) := hD
        obtain ⟨i25, h⟩ := h
        refine va_iast (D := (dC, dI)) hx hb hK hP hD hS 11 0 rfl rfl i25 dX0_functionOf_42 (fun H locs hP hD hS => ?_)
        obtain ⟨S26, eS26⟩ : ∃ z : CS, z = (cTB_s S (upd (cTB S) x5.toNatClampNeg r23)) := ⟨_, rfl⟩
        have h := h S26 eS26
        have hP := nP_cTB eS26 hP
        have hD := nD_cTB eS26 hD
        obtain ⟨y27, ey27⟩ : ∃ z : Int32, z = (x4 + (1 : Int32)) := ⟨_, rfl⟩
        have h := h y27 ey27
        refine lv_iinc (v := y27) (lv' := [(4, .int y27), (0, .ref (a 2)), (1, .int x1), (2, .int x2), (3, .int x3), (5, .int x5)]) hx hb dX0_functionOf_43 hl (k := 4) rfl (by rw [ey27]; rfl) (by decide) rfl (fun ls hl => ?_)
        refine lv_goto (tgt := 110) hx hb dX0_functionOf_46 (by decide) ?_
        obtain ⟨y28, ey28⟩ : ∃ z : Int32, z = (x5 + (1 : Int32)) := ⟨_, rfl⟩
        have h := h y28 ey28
        refine lv_iinc (v := y28) (lv' := [(5, .int y28), (4, .int y27), (0, .ref (a 2)), (1, .int x1), (2, .int x2), (3, .int x3)]) hx hb dX0_functionOf_110 hl (k := 5) rfl (by rw [ey28]; rfl) (by decide) rfl (fun ls hl => ?_)
        refine lv_goto (tgt := 14) hx hb dX0_functionOf_113 (by decide) ?_
        exact k14 S26 y27 y28 H locs ls h hP hD hS (lv_sub hl [2, 3, 4, 5, 1, 0] rfl)
def p_X0_functionOf (S : CS) (x1 : Int32) (x2 : Int32) (post : Int32 → CS → Prop) : Prop := p_J6_bitCount_0f7a4 S x2 (fun r1 => p_X4_full S r1 (fun r3 => p_X0_functionOf_14 S x1 x2 r3 (0 : Int32) (0 : Int32) post))
set_option maxHeartbeats 1000000 in
set_option maxRecDepth 100000 in
theorem t_X0_functionOf {l : Launch} {dC : Nat → ClassId} {dI : Nat → Nat → Nat} {cyI cyJ cyZ : ClassId} {r : Nat → Nat} {a : Nat → Nat} {S : CS} {x1 : Int32} {x2 : Int32} {post : Int32 → CS → Prop} (h : p_X0_functionOf S x1 x2 post) : xMi l yX0_functionOf wsX0_functionOf { frames := 1, cells := 0, slots := 0, locals := 22 } (dC, dI) (tyA cyI cyJ cyZ) r (wC cyI cyJ cyZ a) [.ref (a 2), .int x1, .int x2] S post 0 0 := by
  intro sz
  refine Met.ofW (cc := cX0_functionOf) (maxL := 6) (ret := (some .int)) (by decide) rfl ?_
  intro p e s m args below meth c s₁ B hml hv
  obtain ⟨rfl, G, hP, hD, hS⟩ := xG.of rfl B hml hv
  generalize hAe : va_A (wC cyI cyJ cyZ a S) sz = A at G hD hS ⊢
  have G : xG p s m _ meth c cX0_functionOf 6 RX0 (some .int) wsX0_functionOf (dC, dI) (tyA cyI cyJ cyZ) r A := G
  obtain ⟨hx, hb, hml, hown, hts, hr, hlocks, hK, hE, hA⟩ := id G
  have hl := lv_entry ([.ref (a 2), .int x1, .int x2]) (n := 6) (Nat.le_of_ble_eq_true rfl)
  rw [lg_entry_eq]
  generalize (lg_sl ([.ref (a 2), .int x1, .int x2]) ++ List.replicate (6 - (lg_sl ([.ref (a 2), .int x1, .int x2])).length) Slot.unset).toArray = ls at hl ⊢
  have hl : lv_has ls 6 [(0, .ref (a 2)), (1, .int x1), (2, .int x2)] := hl
  show W p l e { frames := 1, cells := 0, slots := 0, locals := 22 } s m _ below meth c s.heap [] 0 0 _ _
  unfold p_X0_functionOf at h
  refine lv_iload_n hx hb dX0_functionOf_0 rfl (lv_at hl 2 rfl) ?_
  refine xc_Si (wf := wC cyI cyJ cyZ a) (wr := []) (isC := [0, 1, 2, 3, 4, 5, 6, 7, 8, 9, 10, 11, 12, 13, 14, 15, 16, 17, 18, 19, 20]) (isR := []) (As := [.int x2]) (rest := []) ⟨hx, hb, hml, hown, hts⟩ (t_J6_bitCount_0f7a4 h) (va_cwS 1 hts gX0_functionOf_J6_bitCount_0f7a4 rfl rfl rfl (by decide +kernel) ⟨Nat.le_of_ble_eq_true rfl, Nat.le_of_ble_eq_true rfl⟩) ⟨hK, hE, hA, hP, hD, hS, rfl, rfl, rfl, rfl, by decide⟩ rfl rfl hl.1 (Nat.le_of_ble_eq_true rfl) dX0_functionOf_1 ⟨Nat.le_of_ble_eq_true rfl, Nat.le_of_ble_eq_true rfl⟩ (fun r1 S2 H locs h hP hD hS => ?_)
  obtain ⟨rfl, h⟩ := h
  have hP : va_P (dC, dI) vwCl (wC cyI cyJ cyZ a S) H := hP
  have hD : va_D A (wC cyI cyJ cyZ a S) := hD
  refine xc_Si (wf := wC cyI cyJ cyZ a) (wr := []) (isC := [0, 1, 2, 3, 4, 5, 6, 7, 8, 9, 10, 11, 12, 13, 14, 15, 16, 17, 18, 19, 20]) (isR := []) (As := [.int r1]) (rest := []) ⟨hx, hb, hml, hown, hts⟩ (t_X4_full h) (va_cwS 1 hts gX0_functionOf_X4_full rfl rfl rfl (by decide +kernel) ⟨Nat.le_of_ble_eq_true rfl, Nat.le_of_ble_eq_true rfl⟩) ⟨hK, hE, hA, hP, hD, hS, rfl, rfl, rfl, rfl, by decide⟩ rfl rfl hl.1 (Nat.le_of_ble_eq_true rfl) dX0_functionOf_4 ⟨Nat.le_of_ble_eq_true rfl, Nat.le_of_ble_eq_true rfl⟩ (fun r3 S4 H locs h hP hD hS => ?_)
  obtain ⟨rfl, h⟩ := h
  have hP : va_P (dC, dI) vwCl (wC cyI cyJ cyZ a S) H := hP
  have hD : va_D A (wC cyI cyJ cyZ a S) := hD
  refine lv_istore_n (lv' := [(3, .int r3), (0, .ref (a 2)), (1, .int x1), (2, .int x2)]) hx hb dX0_functionOf_7 rfl hl (by decide) rfl (fun ls hl => ?_)
  refine lv_iconst (v := 0) hx hb dX0_functionOf_8 (by decide) ?_
  refine lv_istore (lv' := [(4, .int (0 : Int32)), (3, .int r3), (0, .ref (a 2)), (1, .int x1), (2, .int x2)]) hx hb dX0_functionOf_9 hl (by decide) rfl (fun ls hl => ?_)
  refine lv_iconst (v := 0) hx hb dX0_functionOf_11 (by decide) ?_
  refine lv_istore (lv' := [(5, .int (0 : Int32)), (4, .int (0 : Int32)), (3, .int r3), (0, .ref (a 2)), (1, .int x1), (2, .int x2)]) hx hb dX0_functionOf_12 hl (by decide) rfl (fun ls hl => ?_)
  exact t_X0_functionOf_14 G h hP hD hS (lv_sub hl [3, 4, 5, 2, 1, 0] rfl)
def b_X0_addNode_60 (x1 : Int32) (kc : Nat) (ks : Nat) (post : CS → Prop) (g60 : CS → Int32 → Nat → Nat → Prop) (S : CS) (x2 : Int32) (uc : Nat) (us : Nat) : Prop := vp_in (x1 + (1 : Int32)) 33 ∧ ((((cST S) (x1 + (1 : Int32)).toNatClampNeg) ≤ x2 → (post S)) ∧ (¬ ((cST S) (x1 + (1 : Int32)).toNatClampNeg) ≤ x2 → (vp_in x2 (cLVn S) ∧ (p_X0_functionOf S x1 ((cLV S) x2.toNatClampNeg) (fun r17 S18 => (cFNa S18) = (cFNa S) ∧ (vp_in x2 (cFNn S18) ∧ (∀ S21 : CS, S21 = (cFN_s S18 (upd (cFN S18) x2.toNatClampNeg r17)) → (∀ y22 : Int32, y22 = (x2 + (1 : Int32)) → (g60 S21 y22 uc us)))))))))
def p_X0_addNode_60 (S : CS) (x1 : Int32) (x2 : Int32) (kc : Nat) (ks : Nat) (uc : Nat) (us : Nat) (post : CS → Prop) : Prop := ∃ (I : CS → Int32 → Nat → Nat → Prop) (mu : CS → Int32 → Nat → Nat → Nat), I S x2 uc us ∧ ∀ (S : CS) (x2 : Int32) (uc : Nat) (us : Nat), I S x2 uc us → b_X0_addNode_60 x1 kc ks post (fun S' x2' uc' us' => I S' x2' uc' us' ∧ mu S' x2' uc' us' < mu S x2 uc us) S x2 uc us
set_option maxHeartbeats 1000000 in
set_option maxRecDepth 100000 in
theorem t_X0_addNode_60 {p : Program} {l : Launch} {e : Env} {s : State} {m : MethodId} {args : Array Value} {below : List Frame} {meth : Method} {c : Code} {dC : Nat → ClassId} {dI : Nat → Nat → Nat} {cyI cyJ cyZ : ClassId} {r : Nat → Nat} {a : Nat → Nat} {A : Nat → Prop} {S : CS} {x1 : Int32} {x2 : Int32} {kc : Nat} {ks : Nat} {uc : Nat} {us : Nat} {post : CS → Prop} (G : xG p s m args meth c cX0_addNode 3 RX0 none wsX0_addNode (dC, dI) (tyA cyI cyJ cyZ) r A) (hu : uc ≤ kc ∧ us ≤ ks) (h : p_X0_addNode_60 S x1 x2 kc ks uc us post) {H : Heap} {locs : List Loc} {ls : Array Slot} (hP : va_P (dC, dI) vwCl (wC cyI cyJ cyZ a S) H) (hD : va_D A (wC cyI cyJ cyZ a S)) (hS : va_S A s.heap H locs) (hl : lv_has ls 3 [(0, .ref (a 2)), (1, .int x1), (2, .int x2)]) : W p l e { frames := 4, cells := kc, slots := ks, locals := 132 } s m args below meth c H locs uc us (MQ below (va_Qv post (xAt (dC, dI) (tyA cyI cyJ cyZ) (wC cyI cyJ cyZ a) A) A) args s kc ks A) (F0 m 60 ls []) := by
  obtain ⟨hx, hb, hml, hown, hts, hr, hlocks, hK, hE, hA⟩ := id G
  have hiX0 : ∀ w ∈ wsX00, w ∈ wsX0_addNode := by decide +kernel
  have hf9 := hts (.fieldLink RX0 9 "CellMapping$CutTable" "start" "[I") (by decide +kernel)
  have hf21 := hts (.fieldLink RX0 21 "CellMapping$CutTable" "functions" "[I") (by decide +kernel)
  have hf18 := hts (.fieldLink RX0 18 "CellMapping$CutTable" "leaves" "[I") (by decide +kernel)
  obtain ⟨I, mu, h0, hstep⟩ := h
  suffices hgo : ∀ (n : Nat) (S : CS) (x2 : Int32) (uc : Nat) (us : Nat), I S x2 uc us → mu S x2 uc us < n → ∀ (H : Heap) (locs : List Loc) (ls : Array Slot), uc ≤ kc ∧ us ≤ ks → va_P (dC, dI) vwCl (wC cyI cyJ cyZ a S) H → va_D A (wC cyI cyJ cyZ a S) → va_S A s.heap H locs → lv_has ls 3 [(0, .ref (a 2)), (1, .int x1), (2, .int x2)] → W p l e { frames := 4, cells := kc, slots := ks, locals := 132 } s m args below meth c H locs uc us (MQ below (va_Qv post (xAt (dC, dI) (tyA cyI cyJ cyZ) (wC cyI cyJ cyZ a) A) A) args s kc ks A) (F0 m 60 ls []) from hgo (mu S x2 uc us + 1) S x2 uc us h0 (Nat.lt_succ_self _) H locs ls hu hP hD hS hl
  clear h0 hP hD hS hl hu
  intro n
  induction n with
  | zero => intro S x2 uc us _ h; exact absurd h (Nat.not_lt_zero _)
  | succ n ih =>
    intro S x2 uc us hI hmu H locs ls hu hP hD hS hl
    have h := hstep S x2 uc us hI
    unfold b_X0_addNode_60 at h
    have k60 : ∀ (S' : CS) (x2' : Int32) (uc' : Nat) (us' : Nat) (H : Heap) (locs : List Loc) (ls : Array Slot), uc' ≤ kc ∧ us' ≤ ks → (fun S' x2' uc' us' => I S' x2' uc' us' ∧ mu S' x2' uc' us' < mu S x2 uc us) S' x2' uc' us' → va_P (dC, dI) vwCl (wC cyI cyJ cyZ a S') H → va_D A (wC cyI cyJ cyZ a S') → va_S A s.heap H locs → lv_has ls 3 [(0, .ref (a 2)), (1, .int x1), (2, .int x2')] → W p l e { frames := 4, cells := kc, slots := ks, locals := 132 } s m args below meth c H locs uc' us' (MQ below (va_Qv post (xAt (dC, dI) (tyA cyI cyJ cyZ) (wC cyI cyJ cyZ a) A) A) args s kc ks A) (F0 m 60 ls []) := fun S' x2' uc' us' H locs ls hu hh hP hD hS hl => ih S' x2' uc' us' hh.1 (Nat.lt_of_lt_of_le hh.2 (Nat.le_of_lt_succ hmu)) H locs ls hu hP hD hS hl
    generalize (fun S' x2' uc' us' => I S' x2' uc' us' ∧ mu S' x2' uc' us' < mu S x2 uc us) = g60 at h k60
    refine lv_iload_n hx hb dX0_addNode_60 rfl (lv_at hl 2 rfl) ?_
    refine lv_aload_n hx hb dX0_addNode_61 rfl (lv_at hl 0 rfl) ?_
    refine va_get (D := (dC, dI)) (ci := 0) (v := .ref (a 10)) (C := RX0) (T := TX0) (N := 5) hx hb hts hiX0 hown hK hP 2 rfl rfl 1 (by decide) hf9 (fun _ h9 => h9) rfl dX0_addNode_62 ?_
    refine lv_iload_n hx hb dX0_addNode_65 rfl (lv_at hl 1 rfl) ?_
    refine lv_iconst (v := 1) hx hb dX0_addNode_66 (by decide) ?_
    refine lv_iadd hx hb dX0_addNode_67 ?_
    obtain ⟨i14, h⟩ := h
    refine va_iald (D := (dC, dI)) hx hb hK hP 10 0 rfl rfl i14 dX0_addNode_68 ?_
    refine lv_icmp_ge (tgt := 95) hx hb dX0_addNode_69 (by decide) (fun c15 => ?_) (fun c15 => ?_)
    · have h := h.1 c15
      exact xr_v (S := S) hx hb hr hlocks hK hP hD hS h hu.1 hu.2 dX0_addNode_95
    · have h := h.2 c15
      refine lv_aload_n hx hb dX0_addNode_72 rfl (lv_at hl 0 rfl) ?_
      refine va_get (D := (dC, dI)) (ci := 0) (v := .ref (cFNa S)) (C := RX0) (T := TX0) (N := 5) hx hb hts hiX0 hown hK hP 2 rfl rfl 4 (by decide) hf21 (fun _ h9 => h9) rfl dX0_addNode_73 ?_
      refine lv_iload_n hx hb dX0_addNode_76 rfl (lv_at hl 2 rfl) ?_
      refine lv_aload_n hx hb dX0_addNode_77 rfl (lv_at hl 0 rfl) ?_
      refine lv_iload_n hx hb dX0_addNode_78 rfl (lv_at hl 1 rfl) ?_
      refine lv_aload_n hx hb dX0_addNode_79 rfl (lv_at hl 0 rfl) ?_
      refine va_get (D := (dC, dI)) (ci := 0) (v := .ref (cLVa S)) (C := RX0) (T := TX0) (N := 5) hx hb hts hiX0 hown hK hP 2 rfl rfl 3 (by decide) hf18 (fun _ h9 => h9) rfl dX0_addNode_80 ?_
      refine lv_iload_n hx hb dX0_addNode_83 rfl (lv_at hl 2 rfl) ?_
      obtain ⟨i16, h⟩ := h
      refine va_iald (D := (dC, dI)) hx hb hK hP 19 0 rfl rfl i16 dX0_addNode_84 ?_
      refine xc_Vi (wf := wC cyI cyJ cyZ a) (wr := []) (isC := [0, 1, 2, 3, 4, 5, 6, 7, 8, 9, 10, 11, 12, 13, 14, 15, 16, 17, 18, 19, 20]) (isR := []) (As := [.int x1, .int ((cLV S) x2.toNatClampNeg)]) (rest := [.int x2, .ref (cFNa S)]) ⟨hx, hb, hml, hown, hts⟩ (t_X0_functionOf h) (cwV 2 hts gX0_addNode_X0_functionOf rfl rfl rfl (by decide +kernel) ⟨Nat.le_of_ble_eq_true rfl, Nat.le_of_ble_eq_true rfl⟩) ⟨hK, hE, hA, hP, hD, hS, rfl, rfl, rfl, rfl, by decide⟩ ⟨2, 0, _, _, rfl, rfl, rfl⟩ rfl rfl hl.1 (Nat.le_of_ble_eq_true rfl) dX0_addNode_85 ⟨hu.1, hu.2⟩ (fun r17 S18 H locs h hP hD hS => ?_)
      have hP : va_P (dC, dI) vwCl (wC cyI cyJ cyZ a S18) H := hP
      have hD : va_D A (wC cyI cyJ cyZ a S18) := hD
      refine W.cs (cells' := uc) (slots' := us) rfl rfl ?_
      obtain ⟨ha19, h⟩ := h
      rw [← ha19]
      obtain ⟨i20, h⟩ := h
      refine va_iast (D := (dC, dI)) hx hb hK hP hD hS 20 0 rfl rfl i20 dX0_addNode_88 (fun H locs hP hD hS => ?_)
      obtain ⟨S21, eS21⟩ : ∃ z : CS, z = (cFN_s S18 (upd (cFN S18) x2.toNatClampNeg r17)) := ⟨_, rfl⟩
      have h := h S21 eS21
      have hP := nP_cFN eS21 hP
      have hD := nD_cFN eS21 hD
      obtain ⟨y22, ey22⟩ : ∃ z : Int32, z = (x2 + (1 : Int32)) := ⟨_, rfl⟩
      have h := h y22 ey22
      refine lv_iinc (v := y22) (lv' := [(2, .int y22), (0, .ref (a 2)), (1, .int x1)]) hx hb dX0_addNode_89 hl (k := 2) rfl (by rw [ey22]; rfl) (by decide) rfl (fun ls hl => ?_)
      refine lv_goto (tgt := 60) hx hb dX0_addNode_92 (by decide) ?_
      exact k60 S21 y22 uc us H locs ls hu h hP hD hS (lv_sub hl [1, 2, 0] rfl)
def p_X0_addNode (S : CS) (x1 : Int32) (kc : Nat) (ks : Nat) (post : CS → Prop) : Prop := vp_in x1 33 ∧ (vp_in (x1 + (1 : Int32)) 33 ∧ (∀ S3 : CS, S3 = (cST_s S (upd (cST S) (x1 + (1 : Int32)).toNatClampNeg ((cST S) x1.toNatClampNeg))) → (p_X2_isInput S3 x1 (fun r4 => (r4 = 0 → (vp_in x1 32 ∧ (vp_in x1 32 ∧ (∃ c10 k11 : Nat, (0 + c10 ≤ kc ∧ 0 + k11 ≤ ks) ∧ (p_X0_findCuts S3 x1 (((cLE S3) x1.toNatClampNeg) >>> ((1 : Int32) &&& 31)) (((cRI S3) x1.toNatClampNeg) >>> ((1 : Int32) &&& 31)) c10 k11 (fun S9 => vp_in x1 33 ∧ (∀ y13 : Int32, y13 = ((cST S9) x1.toNatClampNeg) → (p_X0_addNode_60 S9 x1 y13 kc ks (0 + c10) (0 + k11) post)))))))) ∧ (¬ r4 = 0 → (post S3))))))
set_option maxHeartbeats 1000000 in
set_option maxRecDepth 100000 in
theorem t_X0_addNode {l : Launch} {dC : Nat → ClassId} {dI : Nat → Nat → Nat} {cyI cyJ cyZ : ClassId} {r : Nat → Nat} {a : Nat → Nat} {S : CS} {x1 : Int32} {kc : Nat} {ks : Nat} {post : CS → Prop} (h : p_X0_addNode S x1 kc ks post) : xMv l yX0_addNode wsX0_addNode { frames := 4, cells := kc, slots := ks, locals := 132 } (dC, dI) (tyA cyI cyJ cyZ) r (wC cyI cyJ cyZ a) [.ref (a 2), .int x1] S post kc ks := by
  intro sz
  refine Met.ofW (cc := cX0_addNode) (maxL := 3) (ret := none) (by decide) rfl ?_
  intro p e s m args below meth c s₁ B hml hv
  obtain ⟨rfl, G, hP, hD, hS⟩ := xG.of rfl B hml hv
  generalize hAe : va_A (wC cyI cyJ cyZ a S) sz = A at G hD hS ⊢
  have G : xG p s m _ meth c cX0_addNode 3 RX0 none wsX0_addNode (dC, dI) (tyA cyI cyJ cyZ) r A := G
  obtain ⟨hx, hb, hml, hown, hts, hr, hlocks, hK, hE, hA⟩ := id G
  have hiX0 : ∀ w ∈ wsX00, w ∈ wsX0_addNode := by decide +kernel
  have hf9 := hts (.fieldLink RX0 9 "CellMapping$CutTable" "start" "[I") (by decide +kernel)
  have hf24 := hts (.fieldLink RX0 24 "CellMapping$CutTable" "graph" "LCellMapping$Graph;") (by decide +kernel)
  have hiX2 : ∀ w ∈ wsX20, w ∈ wsX0_addNode := by decide +kernel
  have hf32 := hts (.fieldLink RX0 32 "CellMapping$Graph" "left" "[I") (by decide +kernel)
  have hf35 := hts (.fieldLink RX0 35 "CellMapping$Graph" "right" "[I") (by decide +kernel)
  have hl := lv_entry ([.ref (a 2), .int x1]) (n := 3) (Nat.le_of_ble_eq_true rfl)
  rw [lg_entry_eq]
  generalize (lg_sl ([.ref (a 2), .int x1]) ++ List.replicate (3 - (lg_sl ([.ref (a 2), .int x1])).length) Slot.unset).toArray = ls at hl ⊢
  have hl : lv_has ls 3 [(0, .ref (a 2)), (1, .int x1)] := hl
  show W p l e { frames := 4, cells := kc, slots := ks, locals := 132 } s m _ below meth c s.heap [] 0 0 _ _
  unfold p_X0_addNode at h
  have hu : 0 ≤ kc ∧ 0 ≤ ks := ⟨Nat.zero_le _, Nat.zero_le _⟩
  refine lv_aload_n hx hb dX0_addNode_0 rfl (lv_at hl 0 rfl) ?_
  refine va_get (D := (dC, dI)) (ci := 0) (v := .ref (a 10)) (C := RX0) (T := TX0) (N := 5) hx hb hts hiX0 hown hK hP 2 rfl rfl 1 (by decide) hf9 (fun _ h9 => h9) rfl dX0_addNode_1 ?_
  refine lv_iload_n hx hb dX0_addNode_4 rfl (lv_at hl 1 rfl) ?_
  refine lv_iconst (v := 1) hx hb dX0_addNode_5 (by decide) ?_
  refine lv_iadd hx hb dX0_addNode_6 ?_
  refine lv_aload_n hx hb dX0_addNode_7 rfl (lv_at hl 0 rfl) ?_
  refine va_get (D := (dC, dI)) (ci := 0) (v := .ref (a 10)) (C := RX0) (T := TX0) (N := 5) hx hb hts hiX0 hown hK hP 2 rfl rfl 1 (by decide) hf9 (fun _ h9 => h9) rfl dX0_addNode_8 ?_
  refine lv_iload_n hx hb dX0_addNode_11 rfl (lv_at hl 1 rfl) ?_
  obtain ⟨i1, h⟩ := h
  refine va_iald (D := (dC, dI)) hx hb hK hP 10 0 rfl rfl i1 dX0_addNode_12 ?_
  obtain ⟨i2, h⟩ := h
  refine va_iast (D := (dC, dI)) hx hb hK hP hD hS 10 0 rfl rfl i2 dX0_addNode_13 (fun H locs hP hD hS => ?_)
  obtain ⟨S3, eS3⟩ : ∃ z : CS, z = (cST_s S (upd (cST S) (x1 + (1 : Int32)).toNatClampNeg ((cST S) x1.toNatClampNeg))) := ⟨_, rfl⟩
  have h := h S3 eS3
  have hP := nP_cST eS3 hP
  have hD := nD_cST eS3 hD
  refine lv_aload_n hx hb dX0_addNode_14 rfl (lv_at hl 0 rfl) ?_
  refine va_get (D := (dC, dI)) (ci := 0) (v := .ref (a 1)) (C := RX0) (T := TX0) (N := 5) hx hb hts hiX0 hown hK hP 2 rfl rfl 0 (by decide) hf24 (fun _ h9 => h9) rfl dX0_addNode_15 ?_
  refine lv_iload_n hx hb dX0_addNode_18 rfl (lv_at hl 1 rfl) ?_
  refine xc_Vi (wf := wC cyI cyJ cyZ a) (wr := []) (isC := [0, 1, 2, 3, 4, 5, 6, 7, 8, 9, 10, 11, 12, 13, 14, 15, 16, 17, 18, 19, 20]) (isR := []) (As := [.int x1]) (rest := []) ⟨hx, hb, hml, hown, hts⟩ (t_X2_isInput h) (cwV 1 hts gX0_addNode_X2_isInput rfl rfl rfl (by decide +kernel) ⟨Nat.le_of_ble_eq_true rfl, Nat.le_of_ble_eq_true rfl⟩) ⟨hK, hE, hA, hP, hD, hS, rfl, rfl, rfl, rfl, by decide⟩ ⟨1, 2, _, _, rfl, rfl, rfl⟩ rfl rfl hl.1 (Nat.le_of_ble_eq_true rfl) dX0_addNode_19 ⟨hu.1, hu.2⟩ (fun r4 S5 H locs h hP hD hS => ?_)
  obtain ⟨rfl, h⟩ := h
  have hP : va_P (dC, dI) vwCl (wC cyI cyJ cyZ a S3) H := hP
  have hD : va_D A (wC cyI cyJ cyZ a S3) := hD
  refine W.cs (cells' := 0) (slots' := 0) rfl rfl ?_
  refine lv_if_eq (tgt := 26) hx hb dX0_addNode_22 (by decide) (fun c6 => ?_) (fun c6 => ?_)
  · have h := h.1 c6
    refine lv_aload_n hx hb dX0_addNode_26 rfl (lv_at hl 0 rfl) ?_
    refine lv_iload_n hx hb dX0_addNode_27 rfl (lv_at hl 1 rfl) ?_
    refine lv_aload_n hx hb dX0_addNode_28 rfl (lv_at hl 0 rfl) ?_
    refine va_get (D := (dC, dI)) (ci := 0) (v := .ref (a 1)) (C := RX0) (T := TX0) (N := 5) hx hb hts hiX0 hown hK hP 2 rfl rfl 0 (by decide) hf24 (fun _ h9 => h9) rfl dX0_addNode_29 ?_
    refine va_get (D := (dC, dI)) (ci := 2) (v := .ref (a 7)) (C := RX2) (T := TX2) (N := 6) hx hb hts hiX2 hown hK hP 1 rfl rfl 1 (by decide) hf32 (fun _ h9 => h9) rfl dX0_addNode_32 ?_
    refine lv_iload_n hx hb dX0_addNode_35 rfl (lv_at hl 1 rfl) ?_
    obtain ⟨i7, h⟩ := h
    refine va_iald (D := (dC, dI)) hx hb hK hP 7 0 rfl rfl i7 dX0_addNode_36 ?_
    refine lv_iconst (v := 1) hx hb dX0_addNode_37 (by decide) ?_
    refine lv_ishr hx hb dX0_addNode_38 ?_
    refine lv_aload_n hx hb dX0_addNode_39 rfl (lv_at hl 0 rfl) ?_
    refine va_get (D := (dC, dI)) (ci := 0) (v := .ref (a 1)) (C := RX0) (T := TX0) (N := 5) hx hb hts hiX0 hown hK hP 2 rfl rfl 0 (by decide) hf24 (fun _ h9 => h9) rfl dX0_addNode_40 ?_
    refine va_get (D := (dC, dI)) (ci := 2) (v := .ref (a 8)) (C := RX2) (T := TX2) (N := 6) hx hb hts hiX2 hown hK hP 1 rfl rfl 2 (by decide) hf35 (fun _ h9 => h9) rfl dX0_addNode_43 ?_
    refine lv_iload_n hx hb dX0_addNode_46 rfl (lv_at hl 1 rfl) ?_
    obtain ⟨i8, h⟩ := h
    refine va_iald (D := (dC, dI)) hx hb hK hP 8 0 rfl rfl i8 dX0_addNode_47 ?_
    refine lv_iconst (v := 1) hx hb dX0_addNode_48 (by decide) ?_
    refine lv_ishr hx hb dX0_addNode_49 ?_
    obtain ⟨c10, k11, hu, h⟩ := h
    refine xc_Vv (wf := wC cyI cyJ cyZ a) (wr := []) (isC := [0, 1, 2, 3, 4, 5, 6, 7, 8, 9, 10, 11, 12, 13, 14, 15, 16, 17, 18, 19, 20]) (isR := []) (As := [.int x1, .int (((cLE S3) x1.toNatClampNeg) >>> ((1 : Int32) &&& 31)), .int (((cRI S3) x1.toNatClampNeg) >>> ((1 : Int32) &&& 31))]) (rest := []) ⟨hx, hb, hml, hown, hts⟩ (t_X0_findCuts h) (cwV 3 hts gX0_addNode_X0_findCuts rfl rfl rfl (by decide +kernel) ⟨Nat.le_of_ble_eq_true rfl, Nat.le_of_ble_eq_true rfl⟩) ⟨hK, hE, hA, hP, hD, hS, rfl, rfl, rfl, rfl, by decide⟩ ⟨2, 0, _, _, rfl, rfl, rfl⟩ rfl rfl hl.1 (Nat.le_of_ble_eq_true rfl) dX0_addNode_50 ⟨hu.1, hu.2⟩ (fun  S9 H locs h hP hD hS => ?_)
    have hP : va_P (dC, dI) vwCl (wC cyI cyJ cyZ a S9) H := hP
    have hD : va_D A (wC cyI cyJ cyZ a S9) := hD
    refine W.cs (cells' := (0 + c10)) (slots' := (0 + k11)) rfl rfl ?_
    refine lv_aload_n hx hb dX0_addNode_53 rfl (lv_at hl 0 rfl) ?_
    refine va_get (D := (dC, dI)) (ci := 0) (v := .ref (a 10)) (C := RX0) (T := TX0) (N := 5) hx hb hts hiX0 hown hK hP 2 rfl rfl 1 (by decide) hf9 (fun _ h9 => h9) rfl dX0_addNode_54 ?_
    refine lv_iload_n hx hb dX0_addNode_57 rfl (lv_at hl 1 rfl) ?_
    obtain ⟨i12, h⟩ := h
    refine va_iald (D := (dC, dI)) hx hb hK hP 10 0 rfl rfl i12 dX0_addNode_58 ?_
    refine lv_topi (fun y13 ey13 => ?_)
    have h := h y13 ey13
    refine lv_istore_n (lv' := [(2, .int y13), (0, .ref (a 2)), (1, .int x1)]) hx hb dX0_addNode_59 rfl hl (by decide) rfl (fun ls hl => ?_)
    exact t_X0_addNode_60 G hu h hP hD hS (lv_sub hl [1, 2, 0] rfl)
  · have h := h.2 c6
    exact xr_v (S := S3) hx hb hr hlocks hK hP hD hS h hu.1 hu.2 dX0_addNode_25
