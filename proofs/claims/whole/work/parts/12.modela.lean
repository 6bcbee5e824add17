def p_X6_thrown (M : MS) (post : Int32 → Prop) : Prop := post (mTH M)
set_option maxHeartbeats 1000000 in
set_option maxRecDepth 100000 in
theorem t_X6_thrown {l : Launch} {dC : Nat → ClassId} {dI : Nat → Nat → Nat} {cyI cyJ cyZ : ClassId} {r : Nat → Nat} {b : Nat → Nat} {M : MS} {post : Int32 → Prop} (h : p_X6_thrown M post) : xMi l yX6_thrown wsX6_thrown { frames := 0, cells := 0, slots := 0, locals := 0 } (dC, dI) (tyA cyI cyJ cyZ) r (wM cyI cyJ cyZ b) [.ref (b 0)] M (fun x u => M = u ∧ post x) 0 0 := by
  intro sz
  refine Met.ofW (cc := cX6_thrown) (maxL := 1) (ret := (some .int)) (by decide) rfl ?_
  intro p e s m args below meth c s₁ B hml hv
  obtain ⟨rfl, G, hP, hD, hS⟩ := xG.of rfl B hml hv
  generalize hAe : va_A (wM cyI cyJ cyZ b M) sz = A at G hD hS ⊢
  have G : xG p s m _ meth c cX6_thrown 1 RX6 (some .int) wsX6_thrown (dC, dI) (tyA cyI cyJ cyZ) r A := G
  obtain ⟨hx, hb, hml, hown, hts, hr, hlocks, hK, hE, hA⟩ := id G
  have hiX6 : ∀ w ∈ wsX60, w ∈ wsX6_thrown := by decide +kernel
  have hf75 := hts (.fieldLink RX6 75 "CellMappingModel" "thrown" "I") (by decide +kernel)
  have hl := lv_entry ([.ref (b 0)]) (n := 1) (Nat.le_of_ble_eq_true rfl)
  rw [lg_entry_eq]
  generalize (lg_sl ([.ref (b 0)]) ++ List.replicate (1 - (lg_sl ([.ref (b 0)])).length) Slot.unset).toArray = ls at hl ⊢
  have hl : lv_has ls 1 [(0, .ref (b 0))] := hl
  show W p l e { frames := 0, cells := 0, slots := 0, locals := 0 } s m _ below meth c s.heap [] 0 0 _ _
  unfold p_X6_thrown at h
  refine lv_aload_n hx hb dX6_thrown_0 rfl (lv_at hl 0 rfl) ?_
  refine va_get (D := (dC, dI)) (ci := 5) (v := .int (mTH M)) (C := RX6) (T := TX6) (N := 27) hx hb hts hiX6 hown hK hP 0 rfl rfl 0 (by decide) hf75 (fun _ h9 => h9) rfl dX6_thrown_1 ?_
  exact xr_i (S := M) hx hb hr hlocks hK hP hD hS ⟨rfl, h⟩ (Nat.le_of_ble_eq_true rfl) (Nat.le_of_ble_eq_true rfl) dX6_thrown_4
def p_X6_isIn (M : MS) (x0 : Int32) (x1 : Int32) (post : Int32 → Prop) : Prop := (x0 < 0 → (post (0 : Int32))) ∧ (¬ x0 < 0 → ((x1 ≤ x0 → (post (0 : Int32))) ∧ (¬ x1 ≤ x0 → (post (1 : Int32)))))
set_option maxHeartbeats 1000000 in
set_option maxRecDepth 100000 in
theorem t_X6_isIn {l : Launch} {dC : Nat → ClassId} {dI : Nat → Nat → Nat} {cyI cyJ cyZ : ClassId} {r : Nat → Nat} {b : Nat → Nat} {M : MS} {x0 : Int32} {x1 : Int32} {post : Int32 → Prop} (h : p_X6_isIn M x0 x1 post) : xMi l yX6_isIn wsX6_isIn { frames := 0, cells := 0, slots := 0, locals := 0 } (dC, dI) (tyA cyI cyJ cyZ) r (wM cyI cyJ cyZ b) [.int x0, .int x1] M (fun x u => M = u ∧ post x) 0 0 := by
  intro sz
  refine Met.ofW (cc := cX6_isIn) (maxL := 2) (ret := (some .boolean)) (by decide) rfl ?_
  intro p e s m args below meth c s₁ B hml hv
  obtain ⟨rfl, G, hP, hD, hS⟩ := xG.of rfl B hml hv
  generalize hAe : va_A (wM cyI cyJ cyZ b M) sz = A at G hD hS ⊢
  have G : xG p s m _ meth c cX6_isIn 2 RX6 (some .boolean) wsX6_isIn (dC, dI) (tyA cyI cyJ cyZ) r A := G
  obtain ⟨hx, hb, hml, hown, hts, hr, hlocks, hK, hE, hA⟩ := id G
  have hl := lv_entry ([.int x0, .int x1]) (n := 2) (Nat.le_of_ble_eq_true rfl)
  rw [lg_entry_eq]
  generalize (lg_sl ([.int x0, .int x1]) ++ List.replicate (2 - (lg_sl ([.int x0, .int x1])).length) Slot.unset).toArray = ls at hl ⊢
  have hl : lv_has ls 2 [(0, .int x0), (1, .int x1)] := hl
  show W p l e { frames := 0, cells := 0, slots := 0, locals := 0 } s m _ below meth c s.heap [] 0 0 _ _
  unfold p_X6_isIn at h
  refine lv_iload_n hx hb dX6_isIn_0 rfl (lv_at hl 0 rfl) ?_
  refine lv_if_lt (tgt := 13) hx hb dX6_isIn_1 (by decide) (fun c1 => ?_) (fun c1 => ?_)
  · have h := h.1 c1
    refine lv_iconst (v := 0) hx hb dX6_isIn_13 (by decide) ?_
    exact xr_z (S := M) hx hb hr hlocks hK hP hD hS (by decide) ⟨rfl, h⟩ (Nat.le_of_ble_eq_true rfl) (Nat.le_of_ble_eq_true rfl) dX6_isIn_14
  · have h := h.2 c1
    refine lv_iload_n hx hb dX6_isIn_4 rfl (lv_at hl 0 rfl) ?_
    refine lv_iload_n hx hb dX6_isIn_5 rfl (lv_at hl 1 rfl) ?_
    refine lv_icmp_ge (tgt := 13) hx hb dX6_isIn_6 (by decide) (fun c2 => ?_) (fun c2 => ?_)
    · have h := h.1 c2
      refine lv_iconst (v := 0) hx hb dX6_isIn_13 (by decide) ?_
      exact xr_z (S := M) hx hb hr hlocks hK hP hD hS (by decide) ⟨rfl, h⟩ (Nat.le_of_ble_eq_true rfl) (Nat.le_of_ble_eq_true rfl) dX6_isIn_14
    · have h := h.2 c2
      refine lv_iconst (v := 1) hx hb dX6_isIn_9 (by decide) ?_
      refine lv_goto (tgt := 14) hx hb dX6_isIn_10 (by decide) ?_
      exact xr_z (S := M) hx hb hr hlocks hK hP hD hS (by decide) ⟨rfl, h⟩ (Nat.le_of_ble_eq_true rfl) (Nat.le_of_ble_eq_true rfl) dX6_isIn_14
def p_X6_isLiteral (M : MS) (x1 : Int32) (post : Int32 → Prop) : Prop := p_X6_isIn M x1 ((2 : Int32) * (mND M)) (fun r1 => (r1 = 0 ∨ r1 = 1) ∧ (post r1))
set_option maxHeartbeats 1000000 in
set_option maxRecDepth 100000 in
theorem t_X6_isLiteral {l : Launch} {dC : Nat → ClassId} {dI : Nat → Nat → Nat} {cyI cyJ cyZ : ClassId} {r : Nat → Nat} {b : Nat → Nat} {M : MS} {x1 : Int32} {post : Int32 → Prop} (h : p_X6_isLiteral M x1 post) : xMi l yX6_isLiteral wsX6_isLiteral { frames := 1, cells := 0, slots := 0, locals := 21 } (dC, dI) (tyA cyI cyJ cyZ) r (wM cyI cyJ cyZ b) [.ref (b 0), .int x1] M (fun x u => M = u ∧ post x) 0 0 := by
  intro sz
  refine Met.ofW (cc := cX6_isLiteral) (maxL := 2) (ret := (some .boolean)) (by decide) rfl ?_
  intro p e s m args below meth c s₁ B hml hv
  obtain ⟨rfl, G, hP, hD, hS⟩ := xG.of rfl B hml hv
  generalize hAe : va_A (wM cyI cyJ cyZ b M) sz = A at G hD hS ⊢
  have G : xG p s m _ meth c cX6_isLiteral 2 RX6 (some .boolean) wsX6_isLiteral (dC, dI) (tyA cyI cyJ cyZ) r A := G
  obtain ⟨hx, hb, hml, hown, hts, hr, hlocks, hK, hE, hA⟩ := id G
  have hiX6 : ∀ w ∈ wsX60, w ∈ wsX6_isLiteral := by decide +kernel
  have hf79 := hts (.fieldLink RX6 79 "CellMappingModel" "nodes" "I") (by decide +kernel)
  have hl := lv_entry ([.ref (b 0), .int x1]) (n := 2) (Nat.le_of_ble_eq_true rfl)
  rw [lg_entry_eq]
  generalize (lg_sl ([.ref (b 0), .int x1]) ++ List.replicate (2 - (lg_sl ([.ref (b 0), .int x1])).length) Slot.unset).toArray = ls at hl ⊢
  have hl : lv_has ls 2 [(0, .ref (b 0)), (1, .int x1)] := hl
  show W p l e { frames := 1, cells := 0, slots := 0, locals := 21 } s m _ below meth c s.heap [] 0 0 _ _
  unfold p_X6_isLiteral at h
  refine lv_iload_n hx hb dX6_isLiteral_0 rfl (lv_at hl 1 rfl) ?_
  refine lv_iconst (v := 2) hx hb dX6_isLiteral_1 (by decide) ?_
  refine lv_aload_n hx hb dX6_isLiteral_2 rfl (lv_at hl 0 rfl) ?_
  refine va_get (D := (dC, dI)) (ci := 5) (v := .int (mND M)) (C := RX6) (T := TX6) (N := 27) hx hb hts hiX6 hown hK hP 0 rfl rfl 1 (by decide) hf79 (fun _ h9 => h9) rfl dX6_isLiteral_3 ?_
  refine lv_imul hx hb dX6_isLiteral_6 ?_
  refine xc_Si (wf := wM cyI cyJ cyZ b) (wr := []) (isC := [0, 1, 2, 3, 4, 5, 6, 7, 8, 9, 10, 11, 12, 13, 14, 15, 16, 17, 18, 19, 20]) (isR := []) (As := [.int x1, .int ((2 : Int32) * (mND M))]) (rest := []) ⟨hx, hb, hml, hown, hts⟩ (t_X6_isIn h) (va_cwS 2 hts gX6_isLiteral_X6_isIn rfl rfl rfl (by decide +kernel) ⟨Nat.le_of_ble_eq_true rfl, Nat.le_of_ble_eq_true rfl⟩) ⟨hK, hE, hA, hP, hD, hS, rfl, rfl, rfl, rfl, by decide⟩ rfl rfl hl.1 (Nat.le_of_ble_eq_true rfl) dX6_isLiteral_7 ⟨Nat.le_of_ble_eq_true rfl, Nat.le_of_ble_eq_true rfl⟩ (fun r1 S2 H locs h hP hD hS => ?_)
  obtain ⟨rfl, h⟩ := h
  have hP : va_P (dC, dI) vwCl (wM cyI cyJ cyZ b M) H := hP
  have hD : va_D A (wM cyI cyJ cyZ b M) := hD
  obtain ⟨hz, h⟩ := h
  exact xr_z (S := M) hx hb hr hlocks hK hP hD hS hz ⟨rfl, h⟩ (Nat.le_of_ble_eq_true rfl) (Nat.le_of_ble_eq_true rfl) dX6_isLiteral_10
def p_X6_isInput (M : MS) (x1 : Int32) (post : Int32 → Prop) : Prop := vp_in x1 32 ∧ ((¬ ((mON M) x1.toNatClampNeg) = (-1 : Int32) → (post (0 : Int32))) ∧ (((mON M) x1.toNatClampNeg) = (-1 : Int32) → (post (1 : Int32))))
set_option maxHeartbeats 1000000 in
set_option maxRecDepth 100000 in
theorem t_X6_isInput {l : Launch} {dC : Nat → ClassId} {dI : Nat → Nat → Nat} {cyI cyJ cyZ : ClassId} {r : Nat → Nat} {b : Nat → Nat} {M : MS} {x1 : Int32} {post : Int32 → Prop} (h : p_X6_isInput M x1 post) : xMi l yX6_isInput wsX6_isInput { frames := 0, cells := 0, slots := 0, locals := 0 } (dC, dI) (tyA cyI cyJ cyZ) r (wM cyI cyJ cyZ b) [.ref (b 0), .int x1] M (fun x u => M = u ∧ post x) 0 0 := by
  intro sz
  refine Met.ofW (cc := cX6_isInput) (maxL := 2) (ret := (some .boolean)) (by decide) rfl ?_
  intro p e s m args below meth c s₁ B hml hv
  obtain ⟨rfl, G, hP, hD, hS⟩ := xG.of rfl B hml hv
  generalize hAe : va_A (wM cyI cyJ cyZ b M) sz = A at G hD hS ⊢
  have G : xG p s m _ meth c cX6_isInput 2 RX6 (some .boolean) wsX6_isInput (dC, dI) (tyA cyI cyJ cyZ) r A := G
  obtain ⟨hx, hb, hml, hown, hts, hr, hlocks, hK, hE, hA⟩ := id G
  have hiX6 : ∀ w ∈ wsX60, w ∈ wsX6_isInput := by decide +kernel
  have hf7 := hts (.fieldLink RX6 7 "CellMappingModel" "ones" "[I") (by decide +kernel)
  have hl := lv_entry ([.ref (b 0), .int x1]) (n := 2) (Nat.le_of_ble_eq_true rfl)
  rw [lg_entry_eq]
  generalize (lg_sl ([.ref (b 0), .int x1]) ++ List.replicate (2 - (lg_sl ([.ref (b 0), .int x1])).length) Slot.unset).toArray = ls at hl ⊢
  have hl : lv_has ls 2 [(0, .ref (b 0)), (1, .int x1)] := hl
  show W p l e { frames := 0, cells := 0, slots := 0, locals := 0 } s m _ below meth c s.heap [] 0 0 _ _
  unfold p_X6_isInput at h
  refine lv_aload_n hx hb dX6_isInput_0 rfl (lv_at hl 0 rfl) ?_
  refine va_get (D := (dC, dI)) (ci := 5) (v := .ref (b 1)) (C := RX6) (T := TX6) (N := 27) hx hb hts hiX6 hown hK hP 0 rfl rfl 4 (by decide) hf7 (fun _ h9 => h9) rfl dX6_isInput_1 ?_
  refine lv_iload_n hx hb dX6_isInput_4 rfl (lv_at hl 1 rfl) ?_
  obtain ⟨i1, h⟩ := h
  refine va_iald (D := (dC, dI)) hx hb hK hP 1 0 rfl rfl i1 dX6_isInput_5 ?_
  refine lv_iconst (v := -1) hx hb dX6_isInput_6 (by decide) ?_
  refine lv_icmp_ne (tgt := 14) hx hb dX6_isInput_7 (by decide) (fun c2 => ?_) (fun c2 => ?_)
  · have h := h.1 c2
    refine lv_iconst (v := 0) hx hb dX6_isInput_14 (by decide) ?_
    exact xr_z (S := M) hx hb hr hlocks hK hP hD hS (by decide) ⟨rfl, h⟩ (Nat.le_of_ble_eq_true rfl) (Nat.le_of_ble_eq_true rfl) dX6_isInput_15
  · have h := h.2 c2
    refine lv_iconst (v := 1) hx hb dX6_isInput_10 (by decide) ?_
    refine lv_goto (tgt := 15) hx hb dX6_isInput_11 (by decide) ?_
    exact xr_z (S := M) hx hb hr hlocks hK hP hD hS (by decide) ⟨rfl, h⟩ (Nat.le_of_ble_eq_true rfl) (Nat.le_of_ble_eq_true rfl) dX6_isInput_15
def p_X6_input_15 (M : MS) (t0 : Int32) (post : Int32 → MS → Prop) : Prop := ∀ M2 : MS, M2 = (mTH_s M t0) → (((mTH M2) ≤ 0 → (vp_in (mND M2) 32 ∧ (∀ M5 : MS, M5 = (mON_s M2 (upd (mON M2) (mND M2).toNatClampNeg (-1 : Int32))) → (vp_in (mIP M5) 8 ∧ (∀ M7 : MS, M7 = (mIN_s M5 (upd (mIN M5) (mIP M5).toNatClampNeg (mND M5))) → (vp_in (mIP M7) 8 ∧ (∀ M9 : MS, M9 = (mTI_s M7 (upd (mTI M7) (mIP M7).toNatClampNeg (0 : Int32))) → (∀ M10 : MS, M10 = (mIP_s M9 ((mIP M9) + (1 : Int32))) → (∀ M11 : MS, M11 = (mND_s M10 ((mND M10) + (1 : Int32))) → (∀ M12 : MS, M12 = (mSL_s M11 (1 : Int32)) → (post (((2 : Int32) * (mND M12)) - (2 : Int32)) M12))))))))))) ∧ (¬ (mTH M2) ≤ 0 → (post (0 : Int32) M2)))
set_option maxHeartbeats 1000000 in
set_option maxRecDepth 100000 in
theorem t_X6_input_15 {p : Program} {l : Launch} {e : Env} {s : State} {m : MethodId} {args : Array Value} {below : List Frame} {meth : Method} {c : Code} {dC : Nat → ClassId} {dI : Nat → Nat → Nat} {cyI cyJ cyZ : ClassId} {r : Nat → Nat} {b : Nat → Nat} {A : Nat → Prop} {M : MS} {t0 : Int32} {post : Int32 → MS → Prop} (G : xG p s m args meth c cX6_input 1 RX6 (some .int) wsX6_input (dC, dI) (tyA cyI cyJ cyZ) r A) (h : p_X6_input_15 M t0 post) {H : Heap} {locs : List Loc} {ls : Array Slot} (hP : va_P (dC, dI) vwCl (wM cyI cyJ cyZ b M) H) (hD : va_D A (wM cyI cyJ cyZ b M)) (hS : va_S A s.heap H locs) (hl : lv_has ls 1 [(0, .ref (b 0))]) : W p l e { frames := 0, cells := 0, slots := 0, locals := 0 } s m args below meth c H locs 0 0 (MQ below (va_Qi post (xAt (dC, dI) (tyA cyI cyJ cyZ) (wM cyI cyJ cyZ b) A) A) args s 0 0 A) (F0 m 15 ls [.int t0, .ref (b 0)]) := by
  obtain ⟨hx, hb, hml, hown, hts, hr, hlocks, hK, hE, hA⟩ := id G
  have hiX6 : ∀ w ∈ wsX60, w ∈ wsX6_input := by decide +kernel
  have hf75 := hts (.fieldLink RX6 75 "CellMappingModel" "thrown" "I") (by decide +kernel)
  have hf7 := hts (.fieldLink RX6 7 "CellMappingModel" "ones" "[I") (by decide +kernel)
  have hf79 := hts (.fieldLink RX6 79 "CellMappingModel" "nodes" "I") (by decide +kernel)
  have hf16 := hts (.fieldLink RX6 16 "CellMappingModel" "inputNodes" "[I") (by decide +kernel)
  have hf86 := hts (.fieldLink RX6 86 "CellMappingModel" "inputs" "I") (by decide +kernel)
  have hf19 := hts (.fieldLink RX6 19 "CellMappingModel" "times" "[I") (by decide +kernel)
  have hf89 := hts (.fieldLink RX6 89 "CellMappingModel" "stale" "Z") (by decide +kernel)
  unfold p_X6_input_15 at h
  refine va_put (D := (dC, dI)) (ci := 5) (v := .int t0) (ty := .int) (C := RX6) (T := TX6) (N := 27) hx hb hts hiX6 tyX6 tyX6_ok nmX6 hown hK hP hD hS 0 rfl rfl 0 (by decide) hf75 (fun _ h9 => h9) rfl (by decide +kernel) rfl rfl (Nat.le_of_ble_eq_true rfl) dX6_input_15 (fun H locs hP hD hS => ?_)
  obtain ⟨M2, eM2⟩ : ∃ z : MS, z = (mTH_s M t0) := ⟨_, rfl⟩
  have h := h M2 eM2
  have hP := nP_mTH eM2 hP
  have hD := nD_mTH eM2 hD
  refine lv_aload_n hx hb dX6_input_18 rfl (lv_at hl 0 rfl) ?_
  refine va_get (D := (dC, dI)) (ci := 5) (v := .int (mTH M2)) (C := RX6) (T := TX6) (N := 27) hx hb hts hiX6 hown hK hP 0 rfl rfl 0 (by decide) hf75 (fun _ h9 => h9) rfl dX6_input_19 ?_
  refine lv_if_le (tgt := 27) hx hb dX6_input_22 (by decide) (fun c3 => ?_) (fun c3 => ?_)
  · have h := h.1 c3
    refine lv_aload_n hx hb dX6_input_27 rfl (lv_at hl 0 rfl) ?_
    refine va_get (D := (dC, dI)) (ci := 5) (v := .ref (b 1)) (C := RX6) (T := TX6) (N := 27) hx hb hts hiX6 hown hK hP 0 rfl rfl 4 (by decide) hf7 (fun _ h9 => h9) rfl dX6_input_28 ?_
    refine lv_aload_n hx hb dX6_input_31 rfl (lv_at hl 0 rfl) ?_
    refine va_get (D := (dC, dI)) (ci := 5) (v := .int (mND M2)) (C := RX6) (T := TX6) (N := 27) hx hb hts hiX6 hown hK hP 0 rfl rfl 1 (by decide) hf79 (fun _ h9 => h9) rfl dX6_input_32 ?_
    refine lv_iconst (v := -1) hx hb dX6_input_35 (by decide) ?_
    obtain ⟨i4, h⟩ := h
    refine va_iast (D := (dC, dI)) hx hb hK hP hD hS 1 0 rfl rfl i4 dX6_input_36 (fun H locs hP hD hS => ?_)
    obtain ⟨M5, eM5⟩ : ∃ z : MS, z = (mON_s M2 (upd (mON M2) (mND M2).toNatClampNeg (-1 : Int32))) := ⟨_, rfl⟩
    have h := h M5 eM5
    have hP := nP_mON eM5 hP
    have hD := nD_mON eM5 hD
    refine lv_aload_n hx hb dX6_input_37 rfl (lv_at hl 0 rfl) ?_
    refine va_get (D := (dC, dI)) (ci := 5) (v := .ref (b 3)) (C := RX6) (T := TX6) (N := 27) hx hb hts hiX6 hown hK hP 0 rfl rfl 6 (by decide) hf16 (fun _ h9 => h9) rfl dX6_input_38 ?_
    refine lv_aload_n hx hb dX6_input_41 rfl (lv_at hl 0 rfl) ?_
    refine va_get (D := (dC, dI)) (ci := 5) (v := .int (mIP M5)) (C := RX6) (T := TX6) (N := 27) hx hb hts hiX6 hown hK hP 0 rfl rfl 2 (by decide) hf86 (fun _ h9 => h9) rfl dX6_input_42 ?_
    refine lv_aload_n hx hb dX6_input_45 rfl (lv_at hl 0 rfl) ?_
    refine va_get (D := (dC, dI)) (ci := 5) (v := .int (mND M5)) (C := RX6) (T := TX6) (N := 27) hx hb hts hiX6 hown hK hP 0 rfl rfl 1 (by decide) hf79 (fun _ h9 => h9) rfl dX6_input_46 ?_
    obtain ⟨i6, h⟩ := h
    refine va_iast (D := (dC, dI)) hx hb hK hP hD hS 3 0 rfl rfl i6 dX6_input_49 (fun H locs hP hD hS => ?_)
    obtain ⟨M7, eM7⟩ : ∃ z : MS, z = (mIN_s M5 (upd (mIN M5) (mIP M5).toNatClampNeg (mND M5))) := ⟨_, rfl⟩
    have h := h M7 eM7
    have hP := nP_mIN eM7 hP
    have hD := nD_mIN eM7 hD
    refine lv_aload_n hx hb dX6_input_50 rfl (lv_at hl 0 rfl) ?_
    refine va_get (D := (dC, dI)) (ci := 5) (v := .ref (b 4)) (C := RX6) (T := TX6) (N := 27) hx hb hts hiX6 hown hK hP 0 rfl rfl 7 (by decide) hf19 (fun _ h9 => h9) rfl dX6_input_51 ?_
    refine lv_aload_n hx hb dX6_input_54 rfl (lv_at hl 0 rfl) ?_
    refine va_get (D := (dC, dI)) (ci := 5) (v := .int (mIP M7)) (C := RX6) (T := TX6) (N := 27) hx hb hts hiX6 hown hK hP 0 rfl rfl 2 (by decide) hf86 (fun _ h9 => h9) rfl dX6_input_55 ?_
    refine lv_iconst (v := 0) hx hb dX6_input_58 (by decide) ?_
    obtain ⟨i8, h⟩ := h
    refine va_iast (D := (dC, dI)) hx hb hK hP hD hS 4 0 rfl rfl i8 dX6_input_59 (fun H locs hP hD hS => ?_)
    obtain ⟨M9, eM9⟩ : ∃ z : MS, z = (mTI_s M7 (upd (mTI M7) (mIP M7).toNatClampNeg (0 : Int32))) := ⟨_, rfl⟩
    have h := h M9 eM9
    have hP := nP_mTI eM9 hP
    have hD := nD_mTI eM9 hD
    refine lv_aload_n hx hb dX6_input_60 rfl (lv_at hl 0 rfl) ?_
    refine lv_dup hx hb dX6_input_61 rfl ?_
    refine va_get (D := (dC, dI)) (ci := 5) (v := .int (mIP M9)) (C := RX6) (T := TX6) (N := 27) hx hb hts hiX6 hown hK hP 0 rfl rfl 2 (by decide) hf86 (fun _ h9 => h9) rfl dX6_input_62 ?_
    refine lv_iconst (v := 1) hx hb dX6_input_65 (by decide) ?_
    refine lv_iadd hx hb dX6_input_66 ?_
    refine va_put (D := (dC, dI)) (ci := 5) (v := .int ((mIP M9) + (1 : Int32))) (ty := .int) (C := RX6) (T := TX6) (N := 27) hx hb hts hiX6 tyX6 tyX6_ok nmX6 hown hK hP hD hS 0 rfl rfl 2 (by decide) hf86 (fun _ h9 => h9) rfl (by decide +kernel) rfl rfl (Nat.le_of_ble_eq_true rfl) dX6_input_67 (fun H locs hP hD hS => ?_)
    obtain ⟨M10, eM10⟩ : ∃ z : MS, z = (mIP_s M9 ((mIP M9) + (1 : Int32))) := ⟨_, rfl⟩
    have h := h M10 eM10
    have hP := nP_mIP eM10 hP
    have hD := nD_mIP eM10 hD
    refine lv_aload_n hx hb dX6_input_70 rfl (lv_at hl 0 rfl) ?_
    refine lv_dup hx hb dX6_input_71 rfl ?_
    refine va_get (D := (dC, dI)) (ci := 5) (v := .int (mND M10)) (C := RX6) (T := TX6) (N := 27) hx hb hts hiX6 hown hK hP 0 rfl rfl 1 (by decide) hf79 (fun _ h9 => h9) rfl dX6_input_72 ?_
    refine lv_iconst (v := 1) hx hb dX6_input_75 (by decide) ?_
    refine lv_iadd hx hb dX6_input_76 ?_
    refine va_put (D := (dC, dI)) (ci := 5) (v := .int ((mND M10) + (1 : Int32))) (ty := .int) (C := RX6) (T := TX6) (N := 27) hx hb hts hiX6 tyX6 tyX6_ok nmX6 hown hK hP hD hS 0 rfl rfl 1 (by decide) hf79 (fun _ h9 => h9) rfl (by decide +kernel) rfl rfl (Nat.le_of_ble_eq_true rfl) dX6_input_77 (fun H locs hP hD hS => ?_)
    obtain ⟨M11, eM11⟩ : ∃ z : MS, z = (mND_s M10 ((mND M10) + (1 : Int32))) := ⟨_, rfl⟩
    have h := h M11 eM11
    have hP := nP_mND eM11 hP
    have hD := nD_mND eM11 hD
    refine lv_aload_n hx hb dX6_input_80 rfl (lv_at hl 0 rfl) ?_
    refine lv_iconst (v := 1) hx hb dX6_input_81 (by decide) ?_
    refine va_put (D := (dC, dI)) (ci := 5) (v := .int (1 : Int32)) (ty := .boolean) (C := RX6) (T := TX6) (N := 27) hx hb hts hiX6 tyX6 tyX6_ok nmX6 hown hK hP hD hS 0 rfl rfl 18 (by decide) hf89 (fun _ h9 => h9) rfl (by decide +kernel) rfl rfl (Nat.le_of_ble_eq_true rfl) dX6_input_82 (fun H locs hP hD hS => ?_)
    obtain ⟨M12, eM12⟩ : ∃ z : MS, z = (mSL_s M11 (1 : Int32)) := ⟨_, rfl⟩
    have h := h M12 eM12
    have hP := nP_mSL eM12 hP
    have hD := nD_mSL eM12 hD
    refine lv_iconst (v := 2) hx hb dX6_input_85 (by decide) ?_
    refine lv_aload_n hx hb dX6_input_86 rfl (lv_at hl 0 rfl) ?_
    refine va_get (D := (dC, dI)) (ci := 5) (v := .int (mND M12)) (C := RX6) (T := TX6) (N := 27) hx hb hts hiX6 hown hK hP 0 rfl rfl 1 (by decide) hf79 (fun _ h9 => h9) rfl dX6_input_87 ?_
    refine lv_imul hx hb dX6_input_90 ?_
    refine lv_iconst (v := 2) hx hb dX6_input_91 (by decide) ?_
    refine lv_isub hx hb dX6_input_92 ?_
    exact xr_i (S := M12) hx hb hr hlocks hK hP hD hS h (Nat.le_of_ble_eq_true rfl) (Nat.le_of_ble_eq_true rfl) dX6_input_93
  · have h := h.2 c3
    refine lv_iconst (v := 0) hx hb dX6_input_25 (by decide) ?_
    exact xr_i (S := M2) hx hb hr hlocks hK hP hD hS h (Nat.le_of_ble_eq_true rfl) (Nat.le_of_ble_eq_true rfl) dX6_input_26
def p_X6_input (M : MS) (post : Int32 → MS → Prop) : Prop := ((8 : Int32) ≤ (mIP M) → (p_X6_input_15 M (1 : Int32) post)) ∧ (¬ (8 : Int32) ≤ (mIP M) → (p_X6_input_15 M (0 : Int32) post))
set_option maxHeartbeats 1000000 in
set_option maxRecDepth 100000 in
theorem t_X6_input {l : Launch} {dC : Nat → ClassId} {dI : Nat → Nat → Nat} {cyI cyJ cyZ : ClassId} {r : Nat → Nat} {b : Nat → Nat} {M : MS} {post : Int32 → MS → Prop} (h : p_X6_input M post) : xMi l yX6_input wsX6_input { frames := 0, cells := 0, slots := 0, locals := 0 } (dC, dI) (tyA cyI cyJ cyZ) r (wM cyI cyJ cyZ b) [.ref (b 0)] M post 0 0 := by
  intro sz
  refine Met.ofW (cc := cX6_input) (maxL := 1) (ret := (some .int)) (by decide) rfl ?_
  intro p e s m args below meth c s₁ B hml hv
  obtain ⟨rfl, G, hP, hD, hS⟩ := xG.of rfl B hml hv
  generalize hAe : va_A (wM cyI cyJ cyZ b M) sz = A at G hD hS ⊢
  have G : xG p s m _ meth c cX6_input 1 RX6 (some .int) wsX6_input (dC, dI) (tyA cyI cyJ cyZ) r A := G
  obtain ⟨hx, hb, hml, hown, hts, hr, hlocks, hK, hE, hA⟩ := id G
  have hiX6 : ∀ w ∈ wsX60, w ∈ wsX6_input := by decide +kernel
  have hf86 := hts (.fieldLink RX6 86 "CellMappingModel" "inputs" "I") (by decide +kernel)
  have hl := lv_entry ([.ref (b 0)]) (n := 1) (Nat.le_of_ble_eq_true rfl)
  rw [lg_entry_eq]
  generalize (lg_sl ([.ref (b 0)]) ++ List.replicate (1 - (lg_sl ([.ref (b 0)])).length) Slot.unset).toArray = ls at hl ⊢
  have hl : lv_has ls 1 [(0, .ref (b 0))] := hl
  show W p l e { frames := 0, cells := 0, slots := 0, locals := 0 } s m _ below meth c s.heap [] 0 0 _ _
  unfold p_X6_input at h
  refine lv_aload_n hx hb dX6_input_0 rfl (lv_at hl 0 rfl) ?_
  refine lv_aload_n hx hb dX6_input_1 rfl (lv_at hl 0 rfl) ?_
  refine va_get (D := (dC, dI)) (ci := 5) (v := .int (mIP M)) (C := RX6) (T := TX6) (N := 27) hx hb hts hiX6 hown hK hP 0 rfl rfl 2 (by decide) hf86 (fun _ h9 => h9) rfl dX6_input_2 ?_
  refine lv_bipush (v := 8) hx hb dX6_input_5 (by decide) ?_
  refine lv_icmp_ge (tgt := 14) hx hb dX6_input_7 (by decide) (fun c1 => ?_) (fun c1 => ?_)
  · have h := h.1 c1
    refine lv_iconst (v := 1) hx hb dX6_input_14 (by decide) ?_
    exact t_X6_input_15 G h hP hD hS (lv_sub hl [0] rfl)
  · have h := h.2 c1
    refine lv_iconst (v := 0) hx hb dX6_input_10 (by decide) ?_
    refine lv_goto (tgt := 15) hx hb dX6_input_11 (by decide) ?_
    exact t_X6_input_15 G h hP hD hS (lv_sub hl [0] rfl)
def p_X6_below (M : MS) (x1 : Int32) (post : Int32 → Prop) : Prop := vp_in x1 32 ∧ (vp_in x1 32 ∧ (post (((1 : Int32) <<< ((((mON M) x1.toNatClampNeg) / (2 : Int32)) &&& 31)) ||| ((1 : Int32) <<< ((((mTW M) x1.toNatClampNeg) / (2 : Int32)) &&& 31)))))
set_option maxHeartbeats 1000000 in
set_option maxRecDepth 100000 in
theorem t_X6_below {l : Launch} {dC : Nat → ClassId} {dI : Nat → Nat → Nat} {cyI cyJ cyZ : ClassId} {r : Nat → Nat} {b : Nat → Nat} {M : MS} {x1 : Int32} {post : Int32 → Prop} (h : p_X6_below M x1 post) : xMi l yX6_below wsX6_below { frames := 0, cells := 0, slots := 0, locals := 0 } (dC, dI) (tyA cyI cyJ cyZ) r (wM cyI cyJ cyZ b) [.ref (b 0), .int x1] M (fun x u => M = u ∧ post x) 0 0 := by
  intro sz
  refine Met.ofW (cc := cX6_below) (maxL := 2) (ret := (some .int)) (by decide) rfl ?_
  intro p e s m args below meth c s₁ B hml hv
  obtain ⟨rfl, G, hP, hD, hS⟩ := xG.of rfl B hml hv
  generalize hAe : va_A (wM cyI cyJ cyZ b M) sz = A at G hD hS ⊢
  have G : xG p s m _ meth c cX6_below 2 RX6 (some .int) wsX6_below (dC, dI) (tyA cyI cyJ cyZ) r A := G
  obtain ⟨hx, hb, hml, hown, hts, hr, hlocks, hK, hE, hA⟩ := id G
  have hiX6 : ∀ w ∈ wsX60, w ∈ wsX6_below := by decide +kernel
  have hf7 := hts (.fieldLink RX6 7 "CellMappingModel" "ones" "[I") (by decide +kernel)
  have hf13 := hts (.fieldLink RX6 13 "CellMappingModel" "twos" "[I") (by decide +kernel)
  have hl := lv_entry ([.ref (b 0), .int x1]) (n := 2) (Nat.le_of_ble_eq_true rfl)
  rw [lg_entry_eq]
  generalize (lg_sl ([.ref (b 0), .int x1]) ++ List.replicate (2 - (lg_sl ([.ref (b 0), .int x1])).length) Slot.unset).toArray = ls at hl ⊢
  have hl : lv_has ls 2 [(0, .ref (b 0)), (1, .int x1)] := hl
  show W p l e { frames := 0, cells := 0, slots := 0, locals := 0 } s m _ below meth c s.heap [] 0 0 _ _
  unfold p_X6_below at h
  refine lv_iconst (v := 1) hx hb dX6_below_0 (by decide) ?_
  refine lv_aload_n hx hb dX6_below_1 rfl (lv_at hl 0 rfl) ?_
  refine va_get (D := (dC, dI)) (ci := 5) (v := .ref (b 1)) (C := RX6) (T := TX6) (N := 27) hx hb hts hiX6 hown hK hP 0 rfl rfl 4 (by decide) hf7 (fun _ h9 => h9) rfl dX6_below_2 ?_
  refine lv_iload_n hx hb dX6_below_5 rfl (lv_at hl 1 rfl) ?_
  obtain ⟨i1, h⟩ := h
  refine va_iald (D := (dC, dI)) hx hb hK hP 1 0 rfl rfl i1 dX6_below_6 ?_
  refine lv_iconst (v := 2) hx hb dX6_below_7 (by decide) ?_
  refine lv_idiv hx hb dX6_below_8 (by decide) ?_
  refine lv_ishl hx hb dX6_below_9 ?_
  refine lv_iconst (v := 1) hx hb dX6_below_10 (by decide) ?_
  refine lv_aload_n hx hb dX6_below_11 rfl (lv_at hl 0 rfl) ?_
  refine va_get (D := (dC, dI)) (ci := 5) (v := .ref (b 2)) (C := RX6) (T := TX6) (N := 27) hx hb hts hiX6 hown hK hP 0 rfl rfl 5 (by decide) hf13 (fun _ h9 => h9) rfl dX6_below_12 ?_
  refine lv_iload_n hx hb dX6_below_15 rfl (lv_at hl 1 rfl) ?_
  obtain ⟨i2, h⟩ := h
  refine va_iald (D := (dC, dI)) hx hb hK hP 2 0 rfl rfl i2 dX6_below_16 ?_
  refine lv_iconst (v := 2) hx hb dX6_below_17 (by decide) ?_
  refine lv_idiv hx hb dX6_below_18 (by decide) ?_
  refine lv_ishl hx hb dX6_below_19 ?_
  refine lv_ior hx hb dX6_below_20 ?_
  exact xr_i (S := M) hx hb hr hlocks hK hP hD hS ⟨rfl, h⟩ (Nat.le_of_ble_eq_true rfl) (Nat.le_of_ble_eq_true rfl) dX6_below_21
def b_X6_parts_11 (M : MS) (x2 : Int32) (post : Int32 → Prop) (g11 : Int32 → Int32 → Prop) (x3 : Int32) (x4 : Int32) : Prop := (x4 < 0 → (post (1 : Int32))) ∧ (¬ x4 < 0 → ((¬ ((ushr x3 x4) &&& (1 : Int32)) = (1 : Int32) → (∀ y6 : Int32, y6 = (x4 + (-1 : Int32)) → (g11 x3 y6))) ∧ (((ushr x3 x4) &&& (1 : Int32)) = (1 : Int32) → ((¬ ((ushr x2 x4) &&& (1 : Int32)) = 0 → (∀ y8 : Int32, y8 = (x4 + (-1 : Int32)) → (g11 x3 y8))) ∧ (((ushr x2 x4) &&& (1 : Int32)) = 0 → (p_X6_isInput M x4 (fun r9 => (r9 = 0 → (p_X6_below M x4 (fun r12 => ∀ y14 : Int32, y14 = (x3 ||| r12) → (∀ y15 : Int32, y15 = (x4 + (-1 : Int32)) → (g11 y14 y15))))) ∧ (¬ r9 = 0 → (post (0 : Int32))))))))))
def p_X6_parts_11 (M : MS) (x2 : Int32) (x3 : Int32) (x4 : Int32) (post : Int32 → Prop) : Prop := ∃ (I : Int32 → Int32 → Prop) (mu : Int32 → Int32 → Nat), I x3 x4 ∧ ∀ (x3 : Int32) (x4 : Int32), I x3 x4 → b_X6_parts_11 M x2 post (fun x3' x4' => I x3' x4' ∧ mu x3' x4' < mu x3 x4) x3 x4
set_option maxHeartbeats 1000000 in
set_option maxRecDepth 100000 in
theorem t_X6_parts_11 {p : Program} {l : Launch} {e : Env} {s : State} {m : MethodId} {args : Array Value} {below : List Frame} {meth : Method} {c : Code} {dC : Nat → ClassId} {dI : Nat → Nat → Nat} {cyI cyJ cyZ : ClassId} {r : Nat → Nat} {b : Nat → Nat} {A : Nat → Prop} {M : MS} {x2 : Int32} {x3 : Int32} {x4 : Int32} {post : Int32 → Prop} (G : xG p s m args meth c cX6_parts 5 RX6 (some .boolean) wsX6_parts (dC, dI) (tyA cyI cyJ cyZ) r A) (h : p_X6_parts_11 M x2 x3 x4 post) {H : Heap} {locs : List Loc} {ls : Array Slot} (hP : va_P (dC, dI) vwCl (wM cyI cyJ cyZ b M) H) (hD : va_D A (wM cyI cyJ cyZ b M)) (hS : va_S A s.heap H locs) (hl : lv_has ls 5 [(0, .ref (b 0)), (2, .int x2), (3, .int x3), (4, .int x4)]) : W p l e { frames := 1, cells := 0, slots := 0, locals := 21 } s m args below meth c H locs 0 0 (MQ below (va_Qi (fun x u => M = u ∧ post x) (xAt (dC, dI) (tyA cyI cyJ cyZ) (wM cyI cyJ cyZ b) A) A) args s 0 0 A) (F0 m 11 ls []) := by
  obtain ⟨hx, hb, hml, hown, hts, hr, hlocks, hK, hE, hA⟩ := id G
  obtain ⟨I, mu, h0, hstep⟩ := h
  suffices hgo : ∀ (n : Nat) (x3 : Int32) (x4 : Int32), I x3 x4 → mu x3 x4 < n → ∀ (H : Heap) (locs : List Loc) (ls : Array Slot), va_P (dC, dI) vwCl (wM cyI cyJ cyZ b M) H → va_D A (wM cyI cyJ cyZ b M) → va_S A s.heap H locs → lv_has ls 5 [(0, .ref (b 0)), (2, .int x2), (3, .int x3), (4, .int x4)] → W p l e { frames := 1, cells := 0, slots := 0, locals := 21 } s m args below meth c H locs 0 0 (MQ below (va_Qi (fun x u => M = u ∧ post x) (xAt (dC, dI) (tyA cyI cyJ cyZ) (wM cyI cyJ cyZ b) A) A) args s 0 0 A) (F0 m 11 ls []) from hgo (mu x3 x4 + 1) x3 x4 h0 (Nat.lt_succ_self _) H locs ls hP hD hS hl
  clear h0 hP hD hS hl
  intro n
  induction n with
  | zero => intro x3 x4 _ h; exact absurd h (Nat.not_lt_zero _)
  | succ n ih =>
    intro x3 x4 hI hmu H locs ls hP hD hS hl
    have h := hstep x3 x4 hI
    unfold b_X6_parts_11 at h
    have k11 : ∀ (x3' : Int32) (x4' : Int32) (H : Heap) (locs : List Loc) (ls : Array Slot), (fun x3' x4' => I x3' x4' ∧ mu x3' x4' < mu x3 x4) x3' x4' → va_P (dC, dI) vwCl (wM cyI cyJ cyZ b M) H → va_D A (wM cyI cyJ cyZ b M) → va_S A s.heap H locs → lv_has ls 5 [(0, .ref (b 0)), (2, .int x2), (3, .int x3'), (4, .int x4')] → W p l e { frames := 1, cells := 0, slots := 0, locals := 21 } s m args below meth c H locs 0 0 (MQ below (va_Qi (fun x u => M = u ∧ post x) (xAt (dC, dI) (tyA cyI cyJ cyZ) (wM cyI cyJ cyZ b) A) A) args s 0 0 A) (F0 m 11 ls []) := fun x3' x4' H locs ls hh hP hD hS hl => ih x3' x4' hh.1 (Nat.lt_of_lt_of_le hh.2 (Nat.le_of_lt_succ hmu)) H locs ls hP hD hS hl
    generalize (fun x3' x4' => I x3' x4' ∧ mu x3' x4' < mu x3 x4) = g11 at h k11
    refine lv_iload hx hb dX6_parts_11 (lv_at hl 3 rfl) ?_
    refine lv_if_lt (tgt := 61) hx hb dX6_parts_13 (by decide) (fun c4 => ?_) (fun c4 => ?_)
    · have h := h.1 c4
      refine lv_iconst (v := 1) hx hb dX6_parts_61 (by decide) ?_
      exact xr_z (S := M) hx hb hr hlocks hK hP hD hS (by decide) ⟨rfl, h⟩ (Nat.le_of_ble_eq_true rfl) (Nat.le_of_ble_eq_true rfl) dX6_parts_62
    · have h := h.2 c4
      refine lv_iload_n hx hb dX6_parts_16 rfl (lv_at hl 2 rfl) ?_
      refine lv_iload hx hb dX6_parts_17 (lv_at hl 3 rfl) ?_
      refine lv_iushr (v := (ushr x3 x4)) hx hb dX6_parts_19 rfl ?_
      refine lv_iconst (v := 1) hx hb dX6_parts_20 (by decide) ?_
      refine lv_iand hx hb dX6_parts_21 ?_
      refine lv_iconst (v := 1) hx hb dX6_parts_22 (by decide) ?_
      refine lv_icmp_ne (tgt := 55) hx hb dX6_parts_23 (by decide) (fun c5 => ?_) (fun c5 => ?_)
      · have h := h.1 c5
        obtain ⟨y6, ey6⟩ : ∃ z : Int32, z = (x4 + (-1 : Int32)) := ⟨_, rfl⟩
        have h := h y6 ey6
        refine lv_iinc (v := y6) (lv' := [(4, .int y6), (0, .ref (b 0)), (2, .int x2), (3, .int x3)]) hx hb dX6_parts_55 hl (k := 3) rfl (by rw [ey6]; rfl) (by decide) rfl (fun ls hl => ?_)
        refine lv_goto (tgt := 11) hx hb dX6_parts_58 (by decide) ?_
        exact k11 x3 y6 H locs ls h hP hD hS (lv_sub hl [1, 2, 3, 0] rfl)
      · have h := h.2 c5
        refine lv_iload_n hx hb dX6_parts_26 rfl (lv_at hl 1 rfl) ?_
        refine lv_iload hx hb dX6_parts_27 (lv_at hl 3 rfl) ?_
        refine lv_iushr (v := (ushr x2 x4)) hx hb dX6_parts_29 rfl ?_
        refine lv_iconst (v := 1) hx hb dX6_parts_30 (by decide) ?_
        refine lv_iand hx hb dX6_parts_31 ?_
        refine lv_if_ne (tgt := 55) hx hb dX6_parts_32 (by decide) (fun c7 => ?_) (fun c7 => ?_)
        · have h := h.1 c7
          obtain ⟨y8, ey8⟩ : ∃ z : Int32, z = (x4 + (-1 : Int32)) := ⟨_, rfl⟩
          have h := h y8 ey8
          refine lv_iinc (v := y8) (lv' := [(4, .int y8), (0, .ref (b 0)), (2, .int x2), (3, .int x3)]) hx hb dX6_parts_55 hl (k := 3) rfl (by rw [ey8]; rfl) (by decide) rfl (fun ls hl => ?_)
          refine lv_goto (tgt := 11) hx hb dX6_parts_58 (by decide) ?_
          exact k11 x3 y8 H locs ls h hP hD hS (lv_sub hl [1, 2, 3, 0] rfl)
        · have h := h.2 c7
          refine lv_aload_n hx hb dX6_parts_35 rfl (lv_at hl 0 rfl) ?_
          refine lv_iload hx hb dX6_parts_36 (lv_at hl 3 rfl) ?_
          refine xc_Vi (wf := wM cyI cyJ cyZ b) (wr := []) (isC := [0, 1, 2, 3, 4, 5, 6, 7, 8, 9, 10, 11, 12, 13, 14, 15, 16, 17, 18, 19, 20]) (isR := []) (As := [.int x4]) (rest := []) ⟨hx, hb, hml, hown, hts⟩ (t_X6_isInput h) (cwV 1 hts gX6_parts_X6_isInput rfl rfl rfl (by decide +kernel) ⟨Nat.le_of_ble_eq_true rfl, Nat.le_of_ble_eq_true rfl⟩) ⟨hK, hE, hA, hP, hD, hS, rfl, rfl, rfl, rfl, by decide⟩ ⟨0, 5, _, _, rfl, rfl, rfl⟩ rfl rfl hl.1 (Nat.le_of_ble_eq_true rfl) dX6_parts_38 ⟨Nat.le_of_ble_eq_true rfl, Nat.le_of_ble_eq_true rfl⟩ (fun r9 S10 H locs h hP hD hS => ?_)
          obtain ⟨rfl, h⟩ := h
          have hP : va_P (dC, dI) vwCl (wM cyI cyJ cyZ b M) H := hP
          have hD : va_D A (wM cyI cyJ cyZ b M) := hD
          refine lv_if_eq (tgt := 46) hx hb dX6_parts_41 (by decide) (fun c11 => ?_) (fun c11 => ?_)
          · have h := h.1 c11
            refine lv_iload_n hx hb dX6_parts_46 rfl (lv_at hl 2 rfl) ?_
            refine lv_aload_n hx hb dX6_parts_47 rfl (lv_at hl 0 rfl) ?_
            refine lv_iload hx hb dX6_parts_48 (lv_at hl 3 rfl) ?_
            refine xc_Vi (wf := wM cyI cyJ cyZ b) (wr := []) (isC := [0, 1, 2, 3, 4, 5, 6, 7, 8, 9, 10, 11, 12, 13, 14, 15, 16, 17, 18, 19, 20]) (isR := []) (As := [.int x4]) (rest := [.int x3]) ⟨hx, hb, hml, hown, hts⟩ (t_X6_below h) (cwV 1 hts gX6_parts_X6_below rfl rfl rfl (by decide +kernel) ⟨Nat.le_of_ble_eq_true rfl, Nat.le_of_ble_eq_true rfl⟩) ⟨hK, hE, hA, hP, hD, hS, rfl, rfl, rfl, rfl, by decide⟩ ⟨0, 5, _, _, rfl, rfl, rfl⟩ rfl rfl hl.1 (Nat.le_of_ble_eq_true rfl) dX6_parts_50 ⟨Nat.le_of_ble_eq_true rfl, Nat.le_of_ble_eq_true rfl⟩ (fun r12 S13 H locs h hP hD hS => ?_)
            obtain ⟨rfl, h⟩ := h
            have hP : va_P (dC, dI) vwCl (wM cyI cyJ cyZ b M) H := hP
            have hD : va_D A (wM cyI cyJ cyZ b M) := hD
            refine lv_ior hx hb dX6_parts_53 ?_
            refine lv_topi (fun y14 ey14 => ?_)
            have h := h y14 ey14
            refine lv_istore_n (lv' := [(3, .int y14), (0, .ref (b 0)), (2, .int x2), (4, .int x4)]) hx hb dX6_parts_54 rfl hl (by decide) rfl (fun ls hl => ?_)
            obtain ⟨y15, ey15⟩ : ∃ z : Int32, z = (x4 + (-1 : Int32)) := ⟨_, rfl⟩
            have h := h y15 ey15
            refine lv_iinc (v := y15) (lv' := [(4, .int y15), (3, .int y14), (0, .ref (b 0)), (2, .int x2)]) hx hb dX6_parts_55 hl (k := 3) rfl (by rw [ey15]; rfl) (by decide) rfl (fun ls hl => ?_)
            refine lv_goto (tgt := 11) hx hb dX6_parts_58 (by decide) ?_
            exact k11 y14 y15 H locs ls h hP hD hS (lv_sub hl [2, 3, 1, 0] rfl)
          · have h := h.2 c11
            refine lv_iconst (v := 0) hx hb dX6_parts_44 (by decide) ?_
            exact xr_z (S := M) hx hb hr hlocks hK hP hD hS (by decide) ⟨rfl, h⟩ (Nat.le_of_ble_eq_true rfl) (Nat.le_of_ble_eq_true rfl) dX6_parts_45
def p_X6_parts (M : MS) (x1 : Int32) (x2 : Int32) (post : Int32 → Prop) : Prop := p_X6_below M x1 (fun r1 => ∀ y3 : Int32, y3 = (x1 - (1 : Int32)) → (p_X6_parts_11 M x2 r1 y3 post))
set_option maxHeartbeats 1000000 in
set_option maxRecDepth 100000 in
theorem t_X6_parts {l : Launch} {dC : Nat → ClassId} {dI : Nat → Nat → Nat} {cyI cyJ cyZ : ClassId} {r : Nat → Nat} {b : Nat → Nat} {M : MS} {x1 : Int32} {x2 : Int32} {post : Int32 → Prop} (h : p_X6_parts M x1 x2 post) : xMi l yX6_parts wsX6_parts { frames := 1, cells := 0, slots := 0, locals := 21 } (dC, dI) (tyA cyI cyJ cyZ) r (wM cyI cyJ cyZ b) [.ref (b 0), .int x1, .int x2] M (fun x u => M = u ∧ post x) 0 0 := by
  intro sz
  refine Met.ofW (cc := cX6_parts) (maxL := 5) (ret := (some .boolean)) (by decide) rfl ?_
  intro p e s m args below meth c s₁ B hml hv
  obtain ⟨rfl, G, hP, hD, hS⟩ := xG.of rfl B hml hv
  generalize hAe : va_A (wM cyI cyJ cyZ b M) sz = A at G hD hS ⊢
  have G : xG p s m _ meth c cX6_parts 5 RX6 (some .boolean) wsX6_parts (dC, dI) (tyA cyI cyJ cyZ) r A := G
  obtain ⟨hx, hb, hml, hown, hts, hr, hlocks, hK, hE, hA⟩ := id G
  have hl := lv_entry ([.ref (b 0), .int x1, .int x2]) (n := 5) (Nat.le_of_ble_eq_true rfl)
  rw [lg_entry_eq]
  generalize (lg_sl ([.ref (b 0), .int x1, .int x2]) ++ List.replicate (5 - (lg_sl ([.ref (b 0), .int x1, .int x2])).length) Slot.unset).toArray = ls at hl ⊢
  have hl : lv_has ls 5 [(0, .ref (b 0)), (1, .int x1), (2, .int x2)] := hl
  show W p l e { frames := 1, cells := 0, slots := 0, locals := 21 } s m _ below meth c s.heap [] 0 0 _ _
  unfold p_X6_parts at h
  refine lv_aload_n hx hb dX6_parts_0 rfl (lv_at hl 0 rfl) ?_
  refine lv_iload_n hx hb dX6_parts_1 rfl (lv_at hl 1 rfl) ?_
  refine xc_Vi (wf := wM cyI cyJ cyZ b) (wr := []) (isC := [0, 1, 2, 3, 4, 5, 6, 7, 8, 9, 10, 11, 12, 13, 14, 15, 16, 17, 18, 19, 20]) (isR := []) (As := [.int x1]) (rest := []) ⟨hx, hb, hml, hown, hts⟩ (t_X6_below h) (cwV 1 hts gX6_parts_X6_below rfl rfl rfl (by decide +kernel) ⟨Nat.le_of_ble_eq_true rfl, Nat.le_of_ble_eq_true rfl⟩) ⟨hK, hE, hA, hP, hD, hS, rfl, rfl, rfl, rfl, by decide⟩ ⟨0, 5, _, _, rfl, rfl, rfl⟩ rfl rfl hl.1 (Nat.le_of_ble_eq_true rfl) dX6_parts_2 ⟨Nat.le_of_ble_eq_true rfl, Nat.le_of_ble_eq_true rfl⟩ (fun r1 S2 H locs h hP hD hS => ?_)
  obtain ⟨rfl, h⟩ := h
  have hP : va_P (dC, dI) vwCl (wM cyI cyJ cyZ b M) H := hP
  have hD : va_D A (wM cyI cyJ cyZ b M) := hD
  refine lv_istore_n (lv' := [(3, .int r1), (0, .ref (b 0)), (1, .int x1), (2, .int x2)]) hx hb dX6_parts_5 rfl hl (by decide) rfl (fun ls hl => ?_)
  refine lv_iload_n hx hb dX6_parts_6 rfl (lv_at hl 2 rfl) ?_
  refine lv_iconst (v := 1) hx hb dX6_parts_7 (by decide) ?_
  refine lv_isub hx hb dX6_parts_8 ?_
  refine lv_topi (fun y3 ey3 => ?_)
  have h := h y3 ey3
  refine lv_istore (lv' := [(4, .int y3), (3, .int r1), (0, .ref (b 0)), (1, .int x1), (2, .int x2)]) hx hb dX6_parts_9 hl (by decide) rfl (fun ls hl => ?_)
  exact t_X6_parts_11 G h hP hD hS (lv_sub hl [2, 4, 1, 0] rfl)
def b_X6_isCut_13 (M : MS) (x1 : Int32) (x2 : Int32) (post : Int32 → Prop) (g13 : Int32 → Prop) (x3 : Int32) : Prop := (x1 ≤ x3 → (post (1 : Int32))) ∧ (¬ x1 ≤ x3 → ((¬ ((ushr x2 x3) &&& (1 : Int32)) = (1 : Int32) → (∀ y6 : Int32, y6 = (x3 + (1 : Int32)) → (g13 y6))) ∧ (((ushr x2 x3) &&& (1 : Int32)) = (1 : Int32) → (p_X6_parts M x1 (x2 &&& (((1 : Int32) <<< (x3 &&& 31)) ^^^ (-1 : Int32))) (fun r7 => (r7 = 0 → (∀ y10 : Int32, y10 = (x3 + (1 : Int32)) → (g13 y10))) ∧ (¬ r7 = 0 → (post (0 : Int32))))))))
def p_X6_isCut_13 (M : MS) (x1 : Int32) (x2 : Int32) (x3 : Int32) (post : Int32 → Prop) : Prop := ∃ (I : Int32 → Prop) (mu : Int32 → Nat), I x3 ∧ ∀ (x3 : Int32), I x3 → b_X6_isCut_13 M x1 x2 post (fun x3' => I x3' ∧ mu x3' < mu x3) x3
set_option maxHeartbeats 1000000 in
set_option maxRecDepth 100000 in
theorem t_X6_isCut_13 {p : Program} {l : Launch} {e : Env} {s : State} {m : MethodId} {args : Array Value} {below : List Frame} {meth : Method} {c : Code} {dC : Nat → ClassId} {dI : Nat → Nat → Nat} {cyI cyJ cyZ : ClassId} {r : Nat → Nat} {b : Nat → Nat} {A : Nat → Prop} {M : MS} {x1 : Int32} {x2 : Int32} {x3 : Int32} {post : Int32 → Prop} (G : xG p s m args meth c cX6_isCut 4 RX6 (some .boolean) wsX6_isCut (dC, dI) (tyA cyI cyJ cyZ) r A) (h : p_X6_isCut_13 M x1 x2 x3 post) {H : Heap} {locs : List Loc} {ls : Array Slot} (hP : va_P (dC, dI) vwCl (wM cyI cyJ cyZ b M) H) (hD : va_D A (wM cyI cyJ cyZ b M)) (hS : va_S A s.heap H locs) (hl : lv_has ls 4 [(0, .ref (b 0)), (1, .int x1), (2, .int x2), (3, .int x3)]) : W p l e { frames := 2, cells := 0, slots := 0, locals := 45 } s m args below meth c H locs 0 0 (MQ below (va_Qi (fun x u => M = u ∧ post x) (xAt (dC, dI) (tyA cyI cyJ cyZ) (wM cyI cyJ cyZ b) A) A) args s 0 0 A) (F0 m 13 ls []) := by
  obtain ⟨hx, hb, hml, hown, hts, hr, hlocks, hK, hE, hA⟩ := id G
  obtain ⟨I, mu, h0, hstep⟩ := h
  suffices hgo : ∀ (n : Nat) (x3 : Int32), I x3 → mu x3 < n → ∀ (H : Heap) (locs : List Loc) (ls : Array Slot), va_P (dC, dI) vwCl (wM cyI cyJ cyZ b M) H → va_D A (wM cyI cyJ cyZ b M) → va_S A s.heap H locs → lv_has ls 4 [(0, .ref (b 0)), (1, .int x1), (2, .int x2), (3, .int x3)] → W p l e { frames := 2, cells := 0, slots := 0, locals := 45 } s m args below meth c H locs 0 0 (MQ below (va_Qi (fun x u => M = u ∧ post x) (xAt (dC, dI) (tyA cyI cyJ cyZ) (wM cyI cyJ cyZ b) A) A) args s 0 0 A) (F0 m 13 ls []) from hgo (mu x3 + 1) x3 h0 (Nat.lt_succ_self _) H locs ls hP hD hS hl
  clear h0 hP hD hS hl
  intro n
  induction n with
  | zero => intro x3 _ h; exact absurd h (Nat.not_lt_zero _)
  | succ n ih =>
    intro x3 hI hmu H locs ls hP hD hS hl
    have h := hstep x3 hI
    unfold b_X6_isCut_13 at h
    have k13 : ∀ (x3' : Int32) (H : Heap) (locs : List Loc) (ls : Array Slot), (fun x3' => I x3' ∧ mu x3' < mu x3) x3' → va_P (dC, dI) vwCl (wM cyI cyJ cyZ b M) H → va_D A (wM cyI cyJ cyZ b M) → va_S A s.heap H locs → lv_has ls 4 [(0, .ref (b 0)), (1, .int x1), (2, .int x2), (3, .int x3')] → W p l e { frames := 2, cells := 0, slots := 0, locals := 45 } s m args below meth c H locs 0 0 (MQ below (va_Qi (fun x u => M = u ∧ post x) (xAt (dC, dI) (tyA cyI cyJ cyZ) (wM cyI cyJ cyZ b) A) A) args s 0 0 A) (F0 m 13 ls []) := fun x3' H locs ls hh hP hD hS hl => ih x3' hh.1 (Nat.lt_of_lt_of_le hh.2 (Nat.le_of_lt_succ hmu)) H locs ls hP hD hS hl
    generalize (fun x3' => I x3' ∧ mu x3' < mu x3) = g13 at h k13
    refine lv_iload_n hx hb dX6_isCut_13 rfl (lv_at hl 3 rfl) ?_
    refine lv_iload_n hx hb dX6_isCut_14 rfl (lv_at hl 1 rfl) ?_
    refine lv_icmp_ge (tgt := 50) hx hb dX6_isCut_15 (by decide) (fun c4 => ?_) (fun c4 => ?_)
    · have h := h.1 c4
      refine lv_iconst (v := 1) hx hb dX6_isCut_50 (by decide) ?_
      exact xr_z (S := M) hx hb hr hlocks hK hP hD hS (by decide) ⟨rfl, h⟩ (Nat.le_of_ble_eq_true rfl) (Nat.le_of_ble_eq_true rfl) dX6_isCut_51
    · have h := h.2 c4
      refine lv_iload_n hx hb dX6_isCut_18 rfl (lv_at hl 2 rfl) ?_
      refine lv_iload_n hx hb dX6_isCut_19 rfl (lv_at hl 3 rfl) ?_
      refine lv_iushr (v := (ushr x2 x3)) hx hb dX6_isCut_20 rfl ?_
      refine lv_iconst (v := 1) hx hb dX6_isCut_21 (by decide) ?_
      refine lv_iand hx hb dX6_isCut_22 ?_
      refine lv_iconst (v := 1) hx hb dX6_isCut_23 (by decide) ?_
      refine lv_icmp_ne (tgt := 44) hx hb dX6_isCut_24 (by decide) (fun c5 => ?_) (fun c5 => ?_)
      · have h := h.1 c5
        obtain ⟨y6, ey6⟩ : ∃ z : Int32, z = (x3 + (1 : Int32)) := ⟨_, rfl⟩
        have h := h y6 ey6
        refine lv_iinc (v := y6) (lv' := [(3, .int y6), (0, .ref (b 0)), (1, .int x1), (2, .int x2)]) hx hb dX6_isCut_44 hl (k := 3) rfl (by rw [ey6]; rfl) (by decide) rfl (fun ls hl => ?_)
        refine lv_goto (tgt := 13) hx hb dX6_isCut_47 (by decide) ?_
        exact k13 y6 H locs ls h hP hD hS (lv_sub hl [1, 2, 3, 0] rfl)
      · have h := h.2 c5
        refine lv_aload_n hx hb dX6_isCut_27 rfl (lv_at hl 0 rfl) ?_
        refine lv_iload_n hx hb dX6_isCut_28 rfl (lv_at hl 1 rfl) ?_
        refine lv_iload_n hx hb dX6_isCut_29 rfl (lv_at hl 2 rfl) ?_
        refine lv_iconst (v := 1) hx hb dX6_isCut_30 (by decide) ?_
        refine lv_iload_n hx hb dX6_isCut_31 rfl (lv_at hl 3 rfl) ?_
        refine lv_ishl hx hb dX6_isCut_32 ?_
        refine lv_iconst (v := -1) hx hb dX6_isCut_33 (by decide) ?_
        refine lv_ixor hx hb dX6_isCut_34 ?_
        refine lv_iand hx hb dX6_isCut_35 ?_
        refine xc_Vi (wf := wM cyI cyJ cyZ b) (wr := []) (isC := [0, 1, 2, 3, 4, 5, 6, 7, 8, 9, 10, 11, 12, 13, 14, 15, 16, 17, 18, 19, 20]) (isR := []) (As := [.int x1, .int (x2 &&& (((1 : Int32) <<< (x3 &&& 31)) ^^^ (-1 : Int32)))]) (rest := []) ⟨hx, hb, hml, hown, hts⟩ (t_X6_parts h) (cwV 2 hts gX6_isCut_X6_parts rfl rfl rfl (by decide +kernel) ⟨Nat.le_of_ble_eq_true rfl, Nat.le_of_ble_eq_true rfl⟩) ⟨hK, hE, hA, hP, hD, hS, rfl, rfl, rfl, rfl, by decide⟩ ⟨0, 5, _, _, rfl, rfl, rfl⟩ rfl rfl hl.1 (Nat.le_of_ble_eq_true rfl) dX6_isCut_36 ⟨Nat.le_of_ble_eq_true rfl, Nat.le_of_ble_eq_true rfl⟩ (fun r7 S8 H locs h hP hD hS => ?_)
        obtain ⟨rfl, h⟩ := h
        have hP : va_P (dC, dI) vwCl (wM cyI cyJ cyZ b M) H := hP
        have hD : va_D A (wM cyI cyJ cyZ b M) := hD
        refine lv_if_eq (tgt := 44) hx hb dX6_isCut_39 (by decide) (fun c9 => ?_) (fun c9 => ?_)
        · have h := h.1 c9
          obtain ⟨y10, ey10⟩ : ∃ z : Int32, z = (x3 + (1 : Int32)) := ⟨_, rfl⟩
          have h := h y10 ey10
          refine lv_iinc (v := y10) (lv' := [(3, .int y10), (0, .ref (b 0)), (1, .int x1), (2, .int x2)]) hx hb dX6_isCut_44 hl (k := 3) rfl (by rw [ey10]; rfl) (by decide) rfl (fun ls hl => ?_)
          refine lv_goto (tgt := 13) hx hb dX6_isCut_47 (by decide) ?_
          exact k13 y10 H locs ls h hP hD hS (lv_sub hl [1, 2, 3, 0] rfl)
        · have h := h.2 c9
          refine lv_iconst (v := 0) hx hb dX6_isCut_42 (by decide) ?_
          exact xr_z (S := M) hx hb hr hlocks hK hP hD hS (by decide) ⟨rfl, h⟩ (Nat.le_of_ble_eq_true rfl) (Nat.le_of_ble_eq_true rfl) dX6_isCut_43
def p_X6_isCut (M : MS) (x1 : Int32) (x2 : Int32) (post : Int32 → Prop) : Prop := p_X6_parts M x1 x2 (fun r1 => (¬ r1 = 0 → (p_X6_isCut_13 M x1 x2 (0 : Int32) post)) ∧ (r1 = 0 → (post (0 : Int32))))
set_option maxHeartbeats 1000000 in
set_option maxRecDepth 100000 in
theorem t_X6_isCut {l : Launch} {dC : Nat → ClassId} {dI : Nat → Nat → Nat} {cyI cyJ cyZ : ClassId} {r : Nat → Nat} {b : Nat → Nat} {M : MS} {x1 : Int32} {x2 : Int32} {post : Int32 → Prop} (h : p_X6_isCut M x1 x2 post) : xMi l yX6_isCut wsX6_isCut { frames := 2, cells := 0, slots := 0, locals := 45 } (dC, dI) (tyA cyI cyJ cyZ) r (wM cyI cyJ cyZ b) [.ref (b 0), .int x1, .int x2] M (fun x u => M = u ∧ post x) 0 0 := by
  intro sz
  refine Met.ofW (cc := cX6_isCut) (maxL := 4) (ret := (some .boolean)) (by decide) rfl ?_
  intro p e s m args below meth c s₁ B hml hv
  obtain ⟨rfl, G, hP, hD, hS⟩ := xG.of rfl B hml hv
  generalize hAe : va_A (wM cyI cyJ cyZ b M) sz = A at G hD hS ⊢
  have G : xG p s m _ meth c cX6_isCut 4 RX6 (some .boolean) wsX6_isCut (dC, dI) (tyA cyI cyJ cyZ) r A := G
  obtain ⟨hx, hb, hml, hown, hts, hr, hlocks, hK, hE, hA⟩ := id G
  have hl := lv_entry ([.ref (b 0), .int x1, .int x2]) (n := 4) (Nat.le_of_ble_eq_true rfl)
  rw [lg_entry_eq]
  generalize (lg_sl ([.ref (b 0), .int x1, .int x2]) ++ List.replicate (4 - (lg_sl ([.ref (b 0), .int x1, .int x2])).length) Slot.unset).toArray = ls at hl ⊢
  have hl : lv_has ls 4 [(0, .ref (b 0)), (1, .int x1), (2, .int x2)] := hl
  show W p l e { frames := 2, cells := 0, slots := 0, locals := 45 } s m _ below meth c s.heap [] 0 0 _ _
  unfold p_X6_isCut at h
  refine lv_aload_n hx hb dX6_isCut_0 rfl (lv_at hl 0 rfl) ?_
  refine lv_iload_n hx hb dX6_isCut_1 rfl (lv_at hl 1 rfl) ?_
  refine lv_iload_n hx hb dX6_isCut_2 rfl (lv_at hl 2 rfl) ?_
  refine xc_Vi (wf := wM cyI cyJ cyZ b) (wr := []) (isC := [0, 1, 2, 3, 4, 5, 6, 7, 8, 9, 10, 11, 12, 13, 14, 15, 16, 17, 18, 19, 20]) (isR := []) (As := [.int x1, .int x2]) (rest := []) ⟨hx, hb, hml, hown, hts⟩ (t_X6_parts h) (cwV 2 hts gX6_isCut_X6_parts rfl rfl rfl (by decide +kernel) ⟨Nat.le_of_ble_eq_true rfl, Nat.le_of_ble_eq_true rfl⟩) ⟨hK, hE, hA, hP, hD, hS, rfl, rfl, rfl, rfl, by decide⟩ ⟨0, 5, _, _, rfl, rfl, rfl⟩ rfl rfl hl.1 (Nat.le_of_ble_eq_true rfl) dX6_isCut_3 ⟨Nat.le_of_ble_eq_true rfl, Nat.le_of_ble_eq_true rfl⟩ (fun r1 S2 H locs h hP hD hS => ?_)
  obtain ⟨rfl, h⟩ := h
  have hP : va_P (dC, dI) vwCl (wM cyI cyJ cyZ b M) H := hP
  have hD : va_D A (wM cyI cyJ cyZ b M) := hD
  refine lv_if_ne (tgt := 11) hx hb dX6_isCut_6 (by decide) (fun c3 => ?_) (fun c3 => ?_)
  · have h := h.1 c3
    refine lv_iconst (v := 0) hx hb dX6_isCut_11 (by decide) ?_
    refine lv_istore_n (lv' := [(3, .int (0 : Int32)), (0, .ref (b 0)), (1, .int x1), (2, .int x2)]) hx hb dX6_isCut_12 rfl hl (by decide) rfl (fun ls hl => ?_)
    exact t_X6_isCut_13 G h hP hD hS (lv_sub hl [1, 2, 3, 0] rfl)
  · have h := h.2 c3
    refine lv_iconst (v := 0) hx hb dX6_isCut_9 (by decide) ?_
    exact xr_z (S := M) hx hb hr hlocks hK hP hD hS (by decide) ⟨rfl, h⟩ (Nat.le_of_ble_eq_true rfl) (Nat.le_of_ble_eq_true rfl) dX6_isCut_10
def p_X6_tryCut (M : MS) (x1 : Int32) (x2 : Int32) (post : MS → Prop) : Prop := p_X6_isCut M x1 x2 (fun r1 => (r1 = 0 → (post M)) ∧ (¬ r1 = 0 → (vp_in x1 32 ∧ (∀ y5 : Int32, y5 = ((mAO M) x1.toNatClampNeg) → (vp_in y5 24 ∧ (vp_in (((5000 : Int32) * y5) + ((mCC M) y5.toNatClampNeg)) 120000 ∧ (∀ M8 : MS, M8 = (mCB_s M (upd (mCB M) (((5000 : Int32) * y5) + ((mCC M) y5.toNatClampNeg)).toNatClampNeg x2)) → (vp_in y5 24 ∧ (vp_in y5 24 ∧ (∀ M11 : MS, M11 = (mCC_s M8 (upd (mCC M8) y5.toNatClampNeg (((mCC M8) y5.toNatClampNeg) + (1 : Int32)))) → (post M11)))))))))))
set_option maxHeartbeats 1000000 in
set_option maxRecDepth 100000 in
theorem t_X6_tryCut {l : Launch} {dC : Nat → ClassId} {dI : Nat → Nat → Nat} {cyI cyJ cyZ : ClassId} {r : Nat → Nat} {b : Nat → Nat} {M : MS} {x1 : Int32} {x2 : Int32} {post : MS → Prop} (h : p_X6_tryCut M x1 x2 post) : xMv l yX6_tryCut wsX6_tryCut { frames := 3, cells := 0, slots := 0, locals := 68 } (dC, dI) (tyA cyI cyJ cyZ) r (wM cyI cyJ cyZ b) [.ref (b 0), .int x1, .int x2] M post 0 0 := by
  intro sz
  refine Met.ofW (cc := cX6_tryCut) (maxL := 4) (ret := none) (by decide) rfl ?_
  intro p e s m args below meth c s₁ B hml hv
  obtain ⟨rfl, G, hP, hD, hS⟩ := xG.of rfl B hml hv
  generalize hAe : va_A (wM cyI cyJ cyZ b M) sz = A at G hD hS ⊢
  have G : xG p s m _ meth c cX6_tryCut 4 RX6 none wsX6_tryCut (dC, dI) (tyA cyI cyJ cyZ) r A := G
  obtain ⟨hx, hb, hml, hown, hts, hr, hlocks, hK, hE, hA⟩ := id G
  have hiX6 : ∀ w ∈ wsX60, w ∈ wsX6_tryCut := by decide +kernel
  have hf37 := hts (.fieldLink RX6 37 "CellMappingModel" "andOf" "[I") (by decide +kernel)
  have hf44 := hts (.fieldLink RX6 44 "CellMappingModel" "cutBits" "[I") (by decide +kernel)
  have hf40 := hts (.fieldLink RX6 40 "CellMappingModel" "cutCounts" "[I") (by decide +kernel)
  have hl := lv_entry ([.ref (b 0), .int x1, .int x2]) (n := 4) (Nat.le_of_ble_eq_true rfl)
  rw [lg_entry_eq]
  generalize (lg_sl ([.ref (b 0), .int x1, .int x2]) ++ List.replicate (4 - (lg_sl ([.ref (b 0), .int x1, .int x2])).length) Slot.unset).toArray = ls at hl ⊢
  have hl : lv_has ls 4 [(0, .ref (b 0)), (1, .int x1), (2, .int x2)] := hl
  show W p l e { frames := 3, cells := 0, slots := 0, locals := 68 } s m _ below meth c s.heap [] 0 0 _ _
  unfold p_X6_tryCut at h
  refine lv_aload_n hx hb dX6_tryCut_0 rfl (lv_at hl 0 rfl) ?_
  refine lv_iload_n hx hb dX6_tryCut_1 rfl (lv_at hl 1 rfl) ?_
  refine lv_iload_n hx hb dX6_tryCut_2 rfl (lv_at hl 2 rfl) ?_
  refine xc_Vi (wf := wM cyI cyJ cyZ b) (wr := []) (isC := [0, 1, 2, 3, 4, 5, 6, 7, 8, 9, 10, 11, 12, 13, 14, 15, 16, 17, 18, 19, 20]) (isR := []) (As := [.int x1, .int x2]) (rest := []) ⟨hx, hb, hml, hown, hts⟩ (t_X6_isCut h) (cwV 2 hts gX6_tryCut_X6_isCut rfl rfl rfl (by decide +kernel) ⟨Nat.le_of_ble_eq_true rfl, Nat.le_of_ble_eq_true rfl⟩) ⟨hK, hE, hA, hP, hD, hS, rfl, rfl, rfl, rfl, by decide⟩ ⟨0, 5, _, _, rfl, rfl, rfl⟩ rfl rfl hl.1 (Nat.le_of_ble_eq_true rfl) dX6_tryCut_3 ⟨Nat.le_of_ble_eq_true rfl, Nat.le_of_ble_eq_true rfl⟩ (fun r1 S2 H locs h hP hD hS => ?_)
  obtain ⟨rfl, h⟩ := h
  have hP : va_P (dC, dI) vwCl (wM cyI cyJ cyZ b M) H := hP
  have hD : va_D A (wM cyI cyJ cyZ b M) := hD
  refine lv_if_eq (tgt := 44) hx hb dX6_tryCut_6 (by decide) (fun c3 => ?_) (fun c3 => ?_)
  · have h := h.1 c3
    exact xr_v (S := M) hx hb hr hlocks hK hP hD hS h (Nat.le_of_ble_eq_true rfl) (Nat.le_of_ble_eq_true rfl) dX6_tryCut_44
  · have h := h.2 c3
    refine lv_aload_n hx hb dX6_tryCut_9 rfl (lv_at hl 0 rfl) ?_
    refine va_get (D := (dC, dI)) (ci := 5) (v := .ref (b 10)) (C := RX6) (T := TX6) (N := 27) hx hb hts hiX6 hown hK hP 0 rfl rfl 15 (by decide) hf37 (fun _ h9 => h9) rfl dX6_tryCut_10 ?_
    refine lv_iload_n hx hb dX6_tryCut_13 rfl (lv_at hl 1 rfl) ?_
    obtain ⟨i4, h⟩ := h
    refine va_iald (D := (dC, dI)) hx hb hK hP 10 0 rfl rfl i4 dX6_tryCut_14 ?_
    refine lv_topi (fun y5 ey5 => ?_)
    have h := h y5 ey5
    refine lv_istore_n (lv' := [(3, .int y5), (0, .ref (b 0)), (1, .int x1), (2, .int x2)]) hx hb dX6_tryCut_15 rfl hl (by decide) rfl (fun ls hl => ?_)
    refine lv_aload_n hx hb dX6_tryCut_16 rfl (lv_at hl 1 rfl) ?_
    refine va_get (D := (dC, dI)) (ci := 5) (v := .ref (b 12)) (C := RX6) (T := TX6) (N := 27) hx hb hts hiX6 hown hK hP 0 rfl rfl 17 (by decide) hf44 (fun _ h9 => h9) rfl dX6_tryCut_17 ?_
    refine lv_sipush (v := 5000) hx hb dX6_tryCut_20 (by decide) ?_
    refine lv_iload_n hx hb dX6_tryCut_23 rfl (lv_at hl 0 rfl) ?_
    refine lv_imul hx hb dX6_tryCut_24 ?_
    refine lv_aload_n hx hb dX6_tryCut_25 rfl (lv_at hl 1 rfl) ?_
    refine va_get (D := (dC, dI)) (ci := 5) (v := .ref (b 11)) (C := RX6) (T := TX6) (N := 27) hx hb hts hiX6 hown hK hP 0 rfl rfl 16 (by decide) hf40 (fun _ h9 => h9) rfl dX6_tryCut_26 ?_
    refine lv_iload_n hx hb dX6_tryCut_29 rfl (lv_at hl 0 rfl) ?_
    obtain ⟨i6, h⟩ := h
    refine va_iald (D := (dC, dI)) hx hb hK hP 11 0 rfl rfl i6 dX6_tryCut_30 ?_
    refine lv_iadd hx hb dX6_tryCut_31 ?_
    refine lv_iload_n hx hb dX6_tryCut_32 rfl (lv_at hl 3 rfl) ?_
    obtain ⟨i7, h⟩ := h
    refine va_iast (D := (dC, dI)) hx hb hK hP hD hS 12 0 rfl rfl i7 dX6_tryCut_33 (fun H locs hP hD hS => ?_)
    obtain ⟨M8, eM8⟩ : ∃ z : MS, z = (mCB_s M (upd (mCB M) (((5000 : Int32) * y5) + ((mCC M) y5.toNatClampNeg)).toNatClampNeg x2)) := ⟨_, rfl⟩
    have h := h M8 eM8
    have hP := nP_mCB eM8 hP
    have hD := nD_mCB eM8 hD
    refine lv_aload_n hx hb dX6_tryCut_34 rfl (lv_at hl 1 rfl) ?_
    refine va_get (D := (dC, dI)) (ci := 5) (v := .ref (b 11)) (C := RX6) (T := TX6) (N := 27) hx hb hts hiX6 hown hK hP 0 rfl rfl 16 (by decide) hf40 (fun _ h9 => h9) rfl dX6_tryCut_35 ?_
    refine lv_iload_n hx hb dX6_tryCut_38 rfl (lv_at hl 0 rfl) ?_
    refine lv_dup2_11 hx hb dX6_tryCut_39 rfl rfl ?_
    obtain ⟨i9, h⟩ := h
    refine va_iald (D := (dC, dI)) hx hb hK hP 11 0 rfl rfl i9 dX6_tryCut_40 ?_
    refine lv_iconst (v := 1) hx hb dX6_tryCut_41 (by decide) ?_
    refine lv_iadd hx hb dX6_tryCut_42 ?_
    obtain ⟨i10, h⟩ := h
    refine va_iast (D := (dC, dI)) hx hb hK hP hD hS 11 0 rfl rfl i10 dX6_tryCut_43 (fun H locs hP hD hS => ?_)
    obtain ⟨M11, eM11⟩ : ∃ z : MS, z = (mCC_s M8 (upd (mCC M8) y5.toNatClampNeg (((mCC M8) y5.toNatClampNeg) + (1 : Int32)))) := ⟨_, rfl⟩
    have h := h M11 eM11
    have hP := nP_mCC eM11 hP
    have hD := nD_mCC eM11 hD
    exact xr_v (S := M11) hx hb hr hlocks hK hP hD hS h (Nat.le_of_ble_eq_true rfl) (Nat.le_of_ble_eq_true rfl) dX6_tryCut_44
def b_X6_findCuts_49 (g14 : MS → Int32 → Prop) (g29 : MS → Int32 → Prop) (x1 : Int32) (x2 : Int32) (x3 : Int32) (post : MS → Prop) (g49 : MS → Int32 → Prop) (M : MS) (x4 : Int32) : Prop := (x3 ≤ x4 → (∀ y10 : Int32, y10 = (x3 + (1 : Int32)) → (g29 M y10))) ∧ (¬ x3 ≤ x4 → (p_X6_tryCut M x1 ((((1 : Int32) <<< (x2 &&& 31)) ||| ((1 : Int32) <<< (x3 &&& 31))) ||| ((1 : Int32) <<< (x4 &&& 31))) (fun S11 => ∀ y12 : Int32, y12 = (x4 + (1 : Int32)) → (g49 S11 y12))))
def p_X6_findCuts_49 (g14 : MS → Int32 → Prop) (g29 : MS → Int32 → Prop) (M : MS) (x1 : Int32) (x2 : Int32) (x3 : Int32) (x4 : Int32) (post : MS → Prop) : Prop := ∃ (I : MS → Int32 → Prop) (mu : MS → Int32 → Nat), I M x4 ∧ ∀ (M : MS) (x4 : Int32), I M x4 → b_X6_findCuts_49 g14 g29 x1 x2 x3 post (fun M' x4' => I M' x4' ∧ mu M' x4' < mu M x4) M x4
set_option maxHeartbeats 1000000 in
set_option maxRecDepth 100000 in
theorem t_X6_findCuts_49 {p : Program} {l : Launch} {e : Env} {s : State} {m : MethodId} {args : Array Value} {below : List Frame} {meth : Method} {c : Code} {dC : Nat → ClassId} {dI : Nat → Nat → Nat} {cyI cyJ cyZ : ClassId} {r : Nat → Nat} {b : Nat → Nat} {A : Nat → Prop} {g14 : MS → Int32 → Prop} {g29 : MS → Int32 → Prop} {M : MS} {x1 : Int32} {x2 : Int32} {x3 : Int32} {x4 : Int32} {post : MS → Prop} (G : xG p s m args meth c cX6_findCuts 5 RX6 none wsX6_findCuts (dC, dI) (tyA cyI cyJ cyZ) r A) (k14 : ∀ (M' : MS) (x2' : Int32) (H : Heap) (locs : List Loc) (ls : Array Slot), g14 M' x2' → va_P (dC, dI) vwCl (wM cyI cyJ cyZ b M') H → va_D A (wM cyI cyJ cyZ b M') → va_S A s.heap H locs → lv_has ls 5 [(0, .ref (b 0)), (1, .int x1), (2, .int x2')] → W p l e { frames := 4, cells := 0, slots := 0, locals := 91 } s m args below meth c H locs 0 0 (MQ below (va_Qv post (xAt (dC, dI) (tyA cyI cyJ cyZ) (wM cyI cyJ cyZ b) A) A) args s 0 0 A) (F0 m 14 ls [])) (k29 : ∀ (M' : MS) (x3' : Int32) (H : Heap) (locs : List Loc) (ls : Array Slot), g29 M' x3' → va_P (dC, dI) vwCl (wM cyI cyJ cyZ b M') H → va_D A (wM cyI cyJ cyZ b M') → va_S A s.heap H locs → lv_has ls 5 [(0, .ref (b 0)), (1, .int x1), (2, .int x2), (3, .int x3')] → W p l e { frames := 4, cells := 0, slots := 0, locals := 91 } s m args below meth c H locs 0 0 (MQ below (va_Qv post (xAt (dC, dI) (tyA cyI cyJ cyZ) (wM cyI cyJ cyZ b) A) A) args s 0 0 A) (F0 m 29 ls [])) (h : p_X6_findCuts_49 g14 g29 M x1 x2 x3 x4 post) {H : Heap} {locs : List Loc} {ls : Array Slot} (hP : va_P (dC, dI) vwCl (wM cyI cyJ cyZ b M) H) (hD : va_D A (wM cyI cyJ cyZ b M)) (hS : va_S A s.heap H locs) (hl : lv_has ls 5 [(0, .ref (b 0)), (1, .int x1), (2, .int x2), (3, .int x3), (4, .int x4)]) : W p l e { frames := 4, cells := 0, slots := 0, locals := 91 } s m args below meth c H locs 0 0 (MQ below (va_Qv post (xAt (dC, dI) (tyA cyI cyJ cyZ) (wM cyI cyJ cyZ b) A) A) args s 0 0 A) (F0 m 49 ls []) := by
  obtain ⟨hx, hb, hml, hown, hts, hr, hlocks, hK, hE, hA⟩ := id G
  obtain ⟨I, mu, h0, hstep⟩ := h
  suffices hgo : ∀ (n : Nat) (M : MS) (x4 : Int32), I M x4 → mu M x4 < n → ∀ (H : Heap) (locs : List Loc) (ls : Array Slot), va_P (dC, dI) vwCl (wM cyI cyJ cyZ b M) H → va_D A (wM cyI cyJ cyZ b M) → va_S A s.heap H locs → lv_has ls 5 [(0, .ref (b 0)), (1, .int x1), (2, .int x2), (3, .int x3), (4, .int x4)] → W p l e { frames := 4, cells := 0, slots := 0, locals := 91 } s m args below meth c H locs 0 0 (MQ below (va_Qv post (xAt (dC, dI) (tyA cyI cyJ cyZ) (wM cyI cyJ cyZ b) A) A) args s 0 0 A) (F0 m 49 ls []) from hgo (mu M x4 + 1) M x4 h0 (Nat.lt_succ_self _) H locs ls hP hD hS hl
  clear h0 hP hD hS hl
  intro n
  induction n with
  | zero => intro M x4 _ h; exact absurd h (Nat.not_lt_zero _)
  | succ n ih =>
    intro M x4 hI hmu H locs ls hP hD hS hl
    have h := hstep M x4 hI
    unfold b_X6_findCuts_49 at h
    have k49 : ∀ (M' : MS) (x4' : Int32) (H : Heap) (locs : List Loc) (ls : Array Slot), (fun M' x4' => I M' x4' ∧ mu M' x4' < mu M x4) M' x4' → va_P (dC, dI) vwCl (wM cyI cyJ cyZ b M') H → va_D A (wM cyI cyJ cyZ b M') → va_S A s.heap H locs → lv_has ls 5 [(0, .ref (b 0)), (1, .int x1), (2, .int x2), (3, .int x3), (4, .int x4')] → W p l e { frames := 4, cells := 0, slots := 0, locals := 91 } s m args below meth c H locs 0 0 (MQ below (va_Qv post (xAt (dC, dI) (tyA cyI cyJ cyZ) (wM cyI cyJ cyZ b) A) A) args s 0 0 A) (F0 m 49 ls []) := fun M' x4' H locs ls hh hP hD hS hl => ih M' x4' hh.1 (Nat.lt_of_lt_of_le hh.2 (Nat.le_of_lt_succ hmu)) H locs ls hP hD hS hl
    generalize (fun M' x4' => I M' x4' ∧ mu M' x4' < mu M x4) = g49 at h k49
    refine lv_iload hx hb dX6_findCuts_49 (lv_at hl 4 rfl) ?_
    refine lv_iload_n hx hb dX6_findCuts_51 rfl (lv_at hl 3 rfl) ?_
    refine lv_icmp_ge (tgt := 78) hx hb dX6_findCuts_52 (by decide) (fun c9 => ?_) (fun c9 => ?_)
    · have h := h.1 c9
      obtain ⟨y10, ey10⟩ : ∃ z : Int32, z = (x3 + (1 : Int32)) := ⟨_, rfl⟩
      have h := h y10 ey10
      refine lv_iinc (v := y10) (lv' := [(3, .int y10), (0, .ref (b 0)), (1, .int x1), (2, .int x2), (4, .int x4)]) hx hb dX6_findCuts_78 hl (k := 3) rfl (by rw [ey10]; rfl) (by decide) rfl (fun ls hl => ?_)
      refine lv_goto (tgt := 29) hx hb dX6_findCuts_81 (by decide) ?_
      exact k29 M y10 H locs ls h hP hD hS (lv_sub hl [1, 2, 3, 0] rfl)
    · have h := h.2 c9
      refine lv_aload_n hx hb dX6_findCuts_55 rfl (lv_at hl 0 rfl) ?_
      refine lv_iload_n hx hb dX6_findCuts_56 rfl (lv_at hl 1 rfl) ?_
      refine lv_iconst (v := 1) hx hb dX6_findCuts_57 (by decide) ?_
      refine lv_iload_n hx hb dX6_findCuts_58 rfl (lv_at hl 2 rfl) ?_
      refine lv_ishl hx hb dX6_findCuts_59 ?_
      refine lv_iconst (v := 1) hx hb dX6_findCuts_60 (by decide) ?_
      refine lv_iload_n hx hb dX6_findCuts_61 rfl (lv_at hl 3 rfl) ?_
      refine lv_ishl hx hb dX6_findCuts_62 ?_
      refine lv_ior hx hb dX6_findCuts_63 ?_
      refine lv_iconst (v := 1) hx hb dX6_findCuts_64 (by decide) ?_
      refine lv_iload hx hb dX6_findCuts_65 (lv_at hl 4 rfl) ?_
      refine lv_ishl hx hb dX6_findCuts_67 ?_
      refine lv_ior hx hb dX6_findCuts_68 ?_
      refine xc_Vv (wf := wM cyI cyJ cyZ b) (wr := []) (isC := [0, 1, 2, 3, 4, 5, 6, 7, 8, 9, 10, 11, 12, 13, 14, 15, 16, 17, 18, 19, 20]) (isR := []) (As := [.int x1, .int ((((1 : Int32) <<< (x2 &&& 31)) ||| ((1 : Int32) <<< (x3 &&& 31))) ||| ((1 : Int32) <<< (x4 &&& 31)))]) (rest := []) ⟨hx, hb, hml, hown, hts⟩ (t_X6_tryCut h) (cwV 2 hts gX6_findCuts_X6_tryCut rfl rfl rfl (by decide +kernel) ⟨Nat.le_of_ble_eq_true rfl, Nat.le_of_ble_eq_true rfl⟩) ⟨hK, hE, hA, hP, hD, hS, rfl, rfl, rfl, rfl, by decide⟩ ⟨0, 5, _, _, rfl, rfl, rfl⟩ rfl rfl hl.1 (Nat.le_of_ble_eq_true rfl) dX6_findCuts_69 ⟨Nat.le_of_ble_eq_true rfl, Nat.le_of_ble_eq_true rfl⟩ (fun  S11 H locs h hP hD hS => ?_)
      have hP : va_P (dC, dI) vwCl (wM cyI cyJ cyZ b S11) H := hP
      have hD : va_D A (wM cyI cyJ cyZ b S11) := hD
      obtain ⟨y12, ey12⟩ : ∃ z : Int32, z = (x4 + (1 : Int32)) := ⟨_, rfl⟩
      have h := h y12 ey12
      refine lv_iinc (v := y12) (lv' := [(4, .int y12), (0, .ref (b 0)), (1, .int x1), (2, .int x2), (3, .int x3)]) hx hb dX6_findCuts_72 hl (k := 4) rfl (by rw [ey12]; rfl) (by decide) rfl (fun ls hl => ?_)
      refine lv_goto (tgt := 49) hx hb dX6_findCuts_75 (by decide) ?_
      exact k49 S11 y12 H locs ls h hP hD hS (lv_sub hl [1, 2, 3, 4, 0] rfl)
def b_X6_findCuts_29 (g14 : MS → Int32 → Prop) (x1 : Int32) (x2 : Int32) (post : MS → Prop) (g29 : MS → Int32 → Prop) (M : MS) (x3 : Int32) : Prop := (x2 ≤ x3 → (∀ y7 : Int32, y7 = (x2 + (1 : Int32)) → (g14 M y7))) ∧ (¬ x2 ≤ x3 → (p_X6_tryCut M x1 (((1 : Int32) <<< (x2 &&& 31)) ||| ((1 : Int32) <<< (x3 &&& 31))) (fun S8 => p_X6_findCuts_49 g14 g29 S8 x1 x2 x3 (0 : Int32) post)))
def p_X6_findCuts_29 (g14 : MS → Int32 → Prop) (M : MS) (x1 : Int32) (x2 : Int32) (x3 : Int32) (post : MS → Prop) : Prop := ∃ (I : MS → Int32 → Prop) (mu : MS → Int32 → Nat), I M x3 ∧ ∀ (M : MS) (x3 : Int32), I M x3 → b_X6_findCuts_29 g14 x1 x2 post (fun M' x3' => I M' x3' ∧ mu M' x3' < mu M x3) M x3
set_option maxHeartbeats 1000000 in
set_option maxRecDepth 100000 in
theorem t_X6_findCuts_29 {p : Program} {l : Launch} {e : Env} {s : State} {m : MethodId} {args : Array Value} {below : List Frame} {meth : Method} {c : Code} {dC : Nat → ClassId} {dI : Nat → Nat → Nat} {cyI cyJ cyZ : ClassId} {r : Nat → Nat} {b : Nat → Nat} {A : Nat → Prop} {g14 : MS → Int32 → Prop} {M : MS} {x1 : Int32} {x2 : Int32} {x3 : Int32} {post : MS → Prop} (G : xG p s m args meth c cX6_findCuts 5 RX6 none wsX6_findCuts (dC, dI) (tyA cyI cyJ cyZ) r A) (k14 : ∀ (M' : MS) (x2' : Int32) (H : Heap) (locs : List Loc) (ls : Array Slot), g14 M' x2' → va_P (dC, dI) vwCl (wM cyI cyJ cyZ b M') H → va_D A (wM cyI cyJ cyZ b M') → va_S A s.heap H locs → lv_has ls 5 [(0, .ref (b 0)), (1, .int x1), (2, .int x2')] → W p l e { frames := 4, cells := 0, slots := 0, locals := 91 } s m args below meth c H locs 0 0 (MQ below (va_Qv post (xAt (dC, dI) (tyA cyI cyJ cyZ) (wM cyI cyJ cyZ b) A) A) args s 0 0 A) (F0 m 14 ls [])) (h : p_X6_findCuts_29 g14 M x1 x2 x3 post) {H : Heap} {locs : List Loc} {ls : Array Slot} (hP : va_P (dC, dI) vwCl (wM cyI cyJ cyZ b M) H) (hD : va_D A (wM cyI cyJ cyZ b M)) (hS : va_S A s.heap H locs) (hl : lv_has ls 5 [(0, .ref (b 0)), (1, .int x1), (2, .int x2), (3, .int x3)]) : W p l e { frames := 4, cells := 0, slots := 0, locals := 91 } s m args below meth c H locs 0 0 (MQ below (va_Qv post (xAt (dC, dI) (tyA cyI cyJ cyZ) (wM cyI cyJ cyZ b) A) A) args s 0 0 A) (F0 m 29 ls []) := by
  obtain ⟨hx, hb, hml, hown, hts, hr, hlocks, hK, hE, hA⟩ := id G
  obtain ⟨I, mu, h0, hstep⟩ := h
  suffices hgo : ∀ (n : Nat) (M : MS) (x3 : Int32), I M x3 → mu M x3 < n → ∀ (H : Heap) (locs : List Loc) (ls : Array Slot), va_P (dC, dI) vwCl (wM cyI cyJ cyZ b M) H → va_D A (wM cyI cyJ cyZ b M) → va_S A s.heap H locs → lv_has ls 5 [(0, .ref (b 0)), (1, .int x1), (2, .int x2), (3, .int x3)] → W p l e { frames := 4, cells := 0, slots := 0, locals := 91 } s m args below meth c H locs 0 0 (MQ below (va_Qv post (xAt (dC, dI) (tyA cyI cyJ cyZ) (wM cyI cyJ cyZ b) A) A) args s 0 0 A) (F0 m 29 ls []) from hgo (mu M x3 + 1) M x3 h0 (Nat.lt_succ_self _) H locs ls hP hD hS hl
  clear h0 hP hD hS hl
  intro n
  induction n with
  | zero => intro M x3 _ h; exact absurd h (Nat.not_lt_zero _)
  | succ n ih =>
    intro M x3 hI hmu H locs ls hP hD hS hl
    have h := hstep M x3 hI
    unfold b_X6_findCuts_29 at h
    have k29 : ∀ (M' : MS) (x3' : Int32) (H : Heap) (locs : List Loc) (ls : Array Slot), (fun M' x3' => I M' x3' ∧ mu M' x3' < mu M x3) M' x3' → va_P (dC, dI) vwCl (wM cyI cyJ cyZ b M') H → va_D A (wM cyI cyJ cyZ b M') → va_S A s.heap H locs → lv_has ls 5 [(0, .ref (b 0)), (1, .int x1), (2, .int x2), (3, .int x3')] → W p l e { frames := 4, cells := 0, slots := 0, locals := 91 } s m args below meth c H locs 0 0 (MQ below (va_Qv post (xAt (dC, dI) (tyA cyI cyJ cyZ) (wM cyI cyJ cyZ b) A) A) args s 0 0 A) (F0 m 29 ls []) := fun M' x3' H locs ls hh hP hD hS hl => ih M' x3' hh.1 (Nat.lt_of_lt_of_le hh.2 (Nat.le_of_lt_succ hmu)) H locs ls hP hD hS hl
    generalize (fun M' x3' => I M' x3' ∧ mu M' x3' < mu M x3) = g29 at h k29
    refine lv_iload_n hx hb dX6_findCuts_29 rfl (lv_at hl 3 rfl) ?_
    refine lv_iload_n hx hb dX6_findCuts_30 rfl (lv_at hl 2 rfl) ?_
    refine lv_icmp_ge (tgt := 84) hx hb dX6_findCuts_31 (by decide) (fun c6 => ?_) (fun c6 => ?_)
    · have h := h.1 c6
      obtain ⟨y7, ey7⟩ : ∃ z : Int32, z = (x2 + (1 : Int32)) := ⟨_, rfl⟩
      have h := h y7 ey7
      refine lv_iinc (v := y7) (lv' := [(2, .int y7), (0, .ref (b 0)), (1, .int x1), (3, .int x3)]) hx hb dX6_findCuts_84 hl (k := 2) rfl (by rw [ey7]; rfl) (by decide) rfl (fun ls hl => ?_)
      refine lv_goto (tgt := 14) hx hb dX6_findCuts_87 (by decide) ?_
      exact k14 M y7 H locs ls h hP hD hS (lv_sub hl [1, 2, 0] rfl)
    · have h := h.2 c6
      refine lv_aload_n hx hb dX6_findCuts_34 rfl (lv_at hl 0 rfl) ?_
      refine lv_iload_n hx hb dX6_findCuts_35 rfl (lv_at hl 1 rfl) ?_
      refine lv_iconst (v := 1) hx hb dX6_findCuts_36 (by decide) ?_
      refine lv_iload_n hx hb dX6_findCuts_37 rfl (lv_at hl 2 rfl) ?_
      refine lv_ishl hx hb dX6_findCuts_38 ?_
      refine lv_iconst (v := 1) hx hb dX6_findCuts_39 (by decide) ?_
      refine lv_iload_n hx hb dX6_findCuts_40 rfl (lv_at hl 3 rfl) ?_
      refine lv_ishl hx hb dX6_findCuts_41 ?_
      refine lv_ior hx hb dX6_findCuts_42 ?_
      refine xc_Vv (wf := wM cyI cyJ cyZ b) (wr := []) (isC := [0, 1, 2, 3, 4, 5, 6, 7, 8, 9, 10, 11, 12, 13, 14, 15, 16, 17, 18, 19, 20]) (isR := []) (As := [.int x1, .int (((1 : Int32) <<< (x2 &&& 31)) ||| ((1 : Int32) <<< (x3 &&& 31)))]) (rest := []) ⟨hx, hb, hml, hown, hts⟩ (t_X6_tryCut h) (cwV 2 hts gX6_findCuts_X6_tryCut rfl rfl rfl (by decide +kernel) ⟨Nat.le_of_ble_eq_true rfl, Nat.le_of_ble_eq_true rfl⟩) ⟨hK, hE, hA, hP, hD, hS, rfl, rfl, rfl, rfl, by decide⟩ ⟨0, 5, _, _, rfl, rfl, rfl⟩ rfl rfl hl.1 (Nat.le_of_ble_eq_true rfl) dX6_findCuts_43 ⟨Nat.le_of_ble_eq_true rfl, Nat.le_of_ble_eq_true rfl⟩ (fun  S8 H locs h hP hD hS => ?_)
      have hP : va_P (dC, dI) vwCl (wM cyI cyJ cyZ b S8) H := hP
      have hD : va_D A (wM cyI cyJ cyZ b S8) := hD
      refine lv_iconst (v := 0) hx hb dX6_findCuts_46 (by decide) ?_
      refine lv_istore (lv' := [(4, .int (0 : Int32)), (0, .ref (b 0)), (1, .int x1), (2, .int x2), (3, .int x3)]) hx hb dX6_findCuts_47 hl (by decide) rfl (fun ls hl => ?_)
      exact t_X6_findCuts_49 G k14 k29 h hP hD hS (lv_sub hl [1, 2, 3, 4, 0] rfl)
def b_X6_findCuts_14 (x1 : Int32) (post : MS → Prop) (g14 : MS → Int32 → Prop) (M : MS) (x2 : Int32) : Prop := (x1 ≤ x2 → (post M)) ∧ (¬ x1 ≤ x2 → (p_X6_tryCut M x1 ((1 : Int32) <<< (x2 &&& 31)) (fun S5 => p_X6_findCuts_29 g14 S5 x1 x2 (0 : Int32) post)))
def p_X6_findCuts_14 (M : MS) (x1 : Int32) (x2 : Int32) (post : MS → Prop) : Prop := ∃ (I : MS → Int32 → Prop) (mu : MS → Int32 → Nat), I M x2 ∧ ∀ (M : MS) (x2 : Int32), I M x2 → b_X6_findCuts_14 x1 post (fun M' x2' => I M' x2' ∧ mu M' x2' < mu M x2) M x2
set_option maxHeartbeats 1000000 in
set_option maxRecDepth 100000 in
theorem t_X6_findCuts_14 {p : Program} {l : Launch} {e : Env} {s : State} {m : MethodId} {args : Array Value} {below : List Frame} {meth : Method} {c : Code} {dC : Nat → ClassId} {dI : Nat → Nat → Nat} {cyI cyJ cyZ : ClassId} {r : Nat → Nat} {b : Nat → Nat} {A : Nat → Prop} {M : MS} {x1 : Int32} {x2 : Int32} {post : MS → Prop} (G : xG p s m args meth c cX6_findCuts 5 RX6 none wsX6_findCuts (dC, dI) (tyA cyI cyJ cyZ) r A) (h : p_X6_findCuts_14 M x1 x2 post) {H : Heap} {locs : List Loc} {ls : Array Slot} (hP : va_P (dC, dI) vwCl (wM cyI cyJ cyZ b M) H) (hD : va_D A (wM cyI cyJ cyZ b M)) (hS : va_S A s.heap H locs) (hl : lv_has ls 5 [(0, .ref (b 0)), (1, .int x1), (2, .int x2)]) : W p l e { frames := 4, cells := 0, slots := 0, locals := 91 } s m args below meth c H locs 0 0 (MQ below (va_Qv post (xAt (dC, dI) (tyA cyI cyJ cyZ) (wM cyI cyJ cyZ b) A) A) args s 0 0 A) (F0 m 14 ls []) := by
  obtain ⟨hx, hb, hml, hown, hts, hr, hlocks, hK, hE, hA⟩ := id G
  obtain ⟨I, mu, h0, hstep⟩ := h
  suffices hgo : ∀ (n : Nat) (M : MS) (x2 : Int32), I M x2 → mu M x2 < n → ∀ (H : Heap) (locs : List Loc) (ls : Array Slot), va_P (dC, dI) vwCl (wM cyI cyJ cyZ b M) H → va_D A (wM cyI cyJ cyZ b M) → va_S A s.heap H locs → lv_has ls 5 [(0, .ref (b 0)), (1, .int x1), (2, .int x2)] → W p l e { frames := 4, cells := 0, slots := 0, locals := 91 } s m args below meth c H locs 0 0 (MQ below (va_Qv post (xAt (dC, dI) (tyA cyI cyJ cyZ) (wM cyI cyJ cyZ b) A) A) args s 0 0 A) (F0 m 14 ls []) from hgo (mu M x2 + 1) M x2 h0 (Nat.lt_succ_self _) H locs ls hP hD hS hl
  clear h0 hP hD hS hl
  intro n
  induction n with
  | zero => intro M x2 _ h; exact absurd h (Nat.not_lt_zero _)
  | succ n ih =>
    intro M x2 hI hmu H locs ls hP hD hS hl
    have h := hstep M x2 hI
    unfold b_X6_findCuts_14 at h
    have k14 : ∀ (M' : MS) (x2' : Int32) (H : Heap) (locs : List Loc) (ls : Array Slot), (fun M' x2' => I M' x2' ∧ mu M' x2' < mu M x2) M' x2' → va_P (dC, dI) vwCl (wM cyI cyJ cyZ b M') H → va_D A (wM cyI cyJ cyZ b M') → va_S A s.heap H locs → lv_has ls 5 [(0, .ref (b 0)), (1, .int x1), (2, .int x2')] → W p l e { frames := 4, cells := 0, slots := 0, locals := 91 } s m args below meth c H locs 0 0 (MQ below (va_Qv post (xAt (dC, dI) (tyA cyI cyJ cyZ) (wM cyI cyJ cyZ b) A) A) args s 0 0 A) (F0 m 14 ls []) := fun M' x2' H locs ls hh hP hD hS hl => ih M' x2' hh.1 (Nat.lt_of_lt_of_le hh.2 (Nat.le_of_lt_succ hmu)) H locs ls hP hD hS hl
    generalize (fun M' x2' => I M' x2' ∧ mu M' x2' < mu M x2) = g14 at h k14
    refine lv_iload_n hx hb dX6_findCuts_14 rfl (lv_at hl 2 rfl) ?_
    refine lv_iload_n hx hb dX6_findCuts_15 rfl (lv_at hl 1 rfl) ?_
    refine lv_icmp_ge (tgt := 90) hx hb dX6_findCuts_16 (by decide) (fun c4 => ?_) (fun c4 => ?_)
    · have h := h.1 c4
      exact xr_v (S := M) hx hb hr hlocks hK hP hD hS h (Nat.le_of_ble_eq_true rfl) (Nat.le_of_ble_eq_true rfl) dX6_findCuts_90
    · have h := h.2 c4
      refine lv_aload_n hx hb dX6_findCuts_19 rfl (lv_at hl 0 rfl) ?_
      refine lv_iload_n hx hb dX6_findCuts_20 rfl (lv_at hl 1 rfl) ?_
      refine lv_iconst (v := 1) hx hb dX6_findCuts_21 (by decide) ?_
      refine lv_iload_n hx hb dX6_findCuts_22 rfl (lv_at hl 2 rfl) ?_
      refine lv_ishl hx hb dX6_findCuts_23 ?_
      refine xc_Vv (wf := wM cyI cyJ cyZ b) (wr := []) (isC := [0, 1, 2, 3, 4, 5, 6, 7, 8, 9, 10, 11, 12, 13, 14, 15, 16, 17, 18, 19, 20]) (isR := []) (As := [.int x1, .int ((1 : Int32) <<< (x2 &&& 31))]) (rest := []) ⟨hx, hb, hml, hown, hts⟩ (t_X6_tryCut h) (cwV 2 hts gX6_findCuts_X6_tryCut rfl rfl rfl (by decide +kernel) ⟨Nat.le_of_ble_eq_true rfl, Nat.le_of_ble_eq_true rfl⟩) ⟨hK, hE, hA, hP, hD, hS, rfl, rfl, rfl, rfl, by decide⟩ ⟨0, 5, _, _, rfl, rfl, rfl⟩ rfl rfl hl.1 (Nat.le_of_ble_eq_true rfl) dX6_findCuts_24 ⟨Nat.le_of_ble_eq_true rfl, Nat.le_of_ble_eq_true rfl⟩ (fun  S5 H locs h hP hD hS => ?_)
      have hP : va_P (dC, dI) vwCl (wM cyI cyJ cyZ b S5) H := hP
      have hD : va_D A (wM cyI cyJ cyZ b S5) := hD
      refine lv_iconst (v := 0) hx hb dX6_findCuts_27 (by decide) ?_
      refine lv_istore_n (lv' := [(3, .int (0 : Int32)), (0, .ref (b 0)), (1, .int x1), (2, .int x2)]) hx hb dX6_findCuts_28 rfl hl (by decide) rfl (fun ls hl => ?_)
      exact t_X6_findCuts_29 G k14 h hP hD hS (lv_sub hl [1, 2, 3, 0] rfl)
def p_X6_findCuts (M : MS) (x1 : Int32) (post : MS → Prop) : Prop := vp_in x1 32 ∧ (vp_in ((mAO M) x1.toNatClampNeg) 24 ∧ (∀ M3 : MS, M3 = (mCC_s M (upd (mCC M) ((mAO M) x1.toNatClampNeg).toNatClampNeg (0 : Int32))) → (p_X6_findCuts_14 M3 x1 (0 : Int32) post)))
set_option maxHeartbeats 1000000 in
set_option maxRecDepth 100000 in
theorem t_X6_findCuts {l : Launch} {dC : Nat → ClassId} {dI : Nat → Nat → Nat} {cyI cyJ cyZ : ClassId} {r : Nat → Nat} {b : Nat → Nat} {M : MS} {x1 : Int32} {post : MS → Prop} (h : p_X6_findCuts M x1 post) : xMv l yX6_findCuts wsX6_findCuts { frames := 4, cells := 0, slots := 0, locals := 91 } (dC, dI) (tyA cyI cyJ cyZ) r (wM cyI cyJ cyZ b) [.ref (b 0), .int x1] M post 0 0 := by
  intro sz
  refine Met.ofW (cc := cX6_findCuts) (maxL := 5) (ret := none) (by decide) rfl ?_
  intro p e s m args below meth c s₁ B hml hv
  obtain ⟨rfl, G, hP, hD, hS⟩ := xG.of rfl B hml hv
  generalize hAe : va_A (wM cyI cyJ cyZ b M) sz = A at G hD hS ⊢
  have G : xG p s m _ meth c cX6_findCuts 5 RX6 none wsX6_findCuts (dC, dI) (tyA cyI cyJ cyZ) r A := G
  obtain ⟨hx, hb, hml, hown, hts, hr, hlocks, hK, hE, hA⟩ := id G
  have hiX6 : ∀ w ∈ wsX60, w ∈ wsX6_findCuts := by decide +kernel
  have hf40 := hts (.fieldLink RX6 40 "CellMappingModel" "cutCounts" "[I") (by decide +kernel)
  have hf37 := hts (.fieldLink RX6 37 "CellMappingModel" "andOf" "[I") (by decide +kernel)
  have hl := lv_entry ([.ref (b 0), .int x1]) (n := 5) (Nat.le_of_ble_eq_true rfl)
  rw [lg_entry_eq]
  generalize (lg_sl ([.ref (b 0), .int x1]) ++ List.replicate (5 - (lg_sl ([.ref (b 0), .int x1])).length) Slot.unset).toArray = ls at hl ⊢
  have hl : lv_has ls 5 [(0, .ref (b 0)), (1, .int x1)] := hl
  show W p l e { frames := 4, cells := 0, slots := 0, locals := 91 } s m _ below meth c s.heap [] 0 0 _ _
  unfold p_X6_findCuts at h
  refine lv_aload_n hx hb dX6_findCuts_0 rfl (lv_at hl 0 rfl) ?_
  refine va_get (D := (dC, dI)) (ci := 5) (v := .ref (b 11)) (C := RX6) (T := TX6) (N := 27) hx hb hts hiX6 hown hK hP 0 rfl rfl 16 (by decide) hf40 (fun _ h9 => h9) rfl dX6_findCuts_1 ?_
  refine lv_aload_n hx hb dX6_findCuts_4 rfl (lv_at hl 0 rfl) ?_
  refine va_get (D := (dC, dI)) (ci := 5) (v := .ref (b 10)) (C := RX6) (T := TX6) (N := 27) hx hb hts hiX6 hown hK hP 0 rfl rfl 15 (by decide) hf37 (fun _ h9 => h9) rfl dX6_findCuts_5 ?_
  refine lv_iload_n hx hb dX6_findCuts_8 rfl (lv_at hl 1 rfl) ?_
  obtain ⟨i1, h⟩ := h
  refine va_iald (D := (dC, dI)) hx hb hK hP 10 0 rfl rfl i1 dX6_findCuts_9 ?_
  refine lv_iconst (v := 0) hx hb dX6_findCuts_10 (by decide) ?_
  obtain ⟨i2, h⟩ := h
  refine va_iast (D := (dC, dI)) hx hb hK hP hD hS 11 0 rfl rfl i2 dX6_findCuts_11 (fun H locs hP hD hS => ?_)
  obtain ⟨M3, eM3⟩ : ∃ z : MS, z = (mCC_s M (upd (mCC M) ((mAO M) x1.toNatClampNeg).toNatClampNeg (0 : Int32))) := ⟨_, rfl⟩
  have h := h M3 eM3
  have hP := nP_mCC eM3 hP
  have hD := nD_mCC eM3 hD
  refine lv_iconst (v := 0) hx hb dX6_findCuts_12 (by decide) ?_
  refine lv_istore_n (lv' := [(2, .int (0 : Int32)), (0, .ref (b 0)), (1, .int x1)]) hx hb dX6_findCuts_13 rfl hl (by decide) rfl (fun ls hl => ?_)
  exact t_X6_findCuts_14 G h hP hD hS (lv_sub hl [1, 2, 0] rfl)
def p_X6_and_45 (M : MS) (x1 : Int32) (x2 : Int32) (t0 : Int32) (post : Int32 → MS → Prop) : Prop := ∀ M6 : MS, M6 = (mTH_s M t0) → (((mTH M6) ≤ 0 → (vp_in (mND M6) 32 ∧ (∀ M9 : MS, M9 = (mON_s M6 (upd (mON M6) (mND M6).toNatClampNeg x1)) → (vp_in (mND M9) 32 ∧ (∀ M11 : MS, M11 = (mTW_s M9 (upd (mTW M9) (mND M9).toNatClampNeg x2)) → (vp_in (mND M11) 32 ∧ (∀ M13 : MS, M13 = (mAO_s M11 (upd (mAO M11) (mND M11).toNatClampNeg (mAN M11))) → (∀ M14 : MS, M14 = (mAN_s M13 ((mAN M13) + (1 : Int32))) → (∀ M15 : MS, M15 = (mND_s M14 ((mND M14) + (1 : Int32))) → (p_X6_findCuts M15 ((mND M15) - (1 : Int32)) (fun S16 => ∀ M17 : MS, M17 = (mSL_s S16 (1 : Int32)) → (post (((2 : Int32) * (mND M17)) - (2 : Int32)) M17)))))))))))) ∧ (¬ (mTH M6) ≤ 0 → (post (0 : Int32) M6)))
set_option maxHeartbeats 1000000 in
set_option maxRecDepth 100000 in
theorem t_X6_and_45 {p : Program} {l : Launch} {e : Env} {s : State} {m : MethodId} {args : Array Value} {below : List Frame} {meth : Method} {c : Code} {dC : Nat → ClassId} {dI : Nat → Nat → Nat} {cyI cyJ cyZ : ClassId} {r : Nat → Nat} {b : Nat → Nat} {A : Nat → Prop} {M : MS} {x1 : Int32} {x2 : Int32} {t0 : Int32} {post : Int32 → MS → Prop} (G : xG p s m args meth c cX6_and 4 RX6 (some .int) wsX6_and (dC, dI) (tyA cyI cyJ cyZ) r A) (h : p_X6_and_45 M x1 x2 t0 post) {H : Heap} {locs : List Loc} {ls : Array Slot} (hP : va_P (dC, dI) vwCl (wM cyI cyJ cyZ b M) H) (hD : va_D A (wM cyI cyJ cyZ b M)) (hS : va_S A s.heap H locs) (hl : lv_has ls 4 [(0, .ref (b 0)), (1, .int x1), (2, .int x2)]) : W p l e { frames := 5, cells := 0, slots := 0, locals := 115 } s m args below meth c H locs 0 0 (MQ below (va_Qi post (xAt (dC, dI) (tyA cyI cyJ cyZ) (wM cyI cyJ cyZ b) A) A) args s 0 0 A) (F0 m 45 ls [.int t0, .ref (b 0)]) := by
  obtain ⟨hx, hb, hml, hown, hts, hr, hlocks, hK, hE, hA⟩ := id G
  have hiX6 : ∀ w ∈ wsX60, w ∈ wsX6_and := by decide +kernel
  have hf75 := hts (.fieldLink RX6 75 "CellMappingModel" "thrown" "I") (by decide +kernel)
  have hf7 := hts (.fieldLink RX6 7 "CellMappingModel" "ones" "[I") (by decide +kernel)
  have hf79 := hts (.fieldLink RX6 79 "CellMappingModel" "nodes" "I") (by decide +kernel)
  have hf13 := hts (.fieldLink RX6 13 "CellMappingModel" "twos" "[I") (by decide +kernel)
  have hf37 := hts (.fieldLink RX6 37 "CellMappingModel" "andOf" "[I") (by decide +kernel)
  have hf97 := hts (.fieldLink RX6 97 "CellMappingModel" "ands" "I") (by decide +kernel)
  have hf89 := hts (.fieldLink RX6 89 "CellMappingModel" "stale" "Z") (by decide +kernel)
  unfold p_X6_and_45 at h
  refine va_put (D := (dC, dI)) (ci := 5) (v := .int t0) (ty := .int) (C := RX6) (T := TX6) (N := 27) hx hb hts hiX6 tyX6 tyX6_ok nmX6 hown hK hP hD hS 0 rfl rfl 0 (by decide) hf75 (fun _ h9 => h9) rfl (by decide +kernel) rfl rfl (Nat.le_of_ble_eq_true rfl) dX6_and_45 (fun H locs hP hD hS => ?_)
  obtain ⟨M6, eM6⟩ : ∃ z : MS, z = (mTH_s M t0) := ⟨_, rfl⟩
  have h := h M6 eM6
  have hP := nP_mTH eM6 hP
  have hD := nD_mTH eM6 hD
  refine lv_aload_n hx hb dX6_and_48 rfl (lv_at hl 0 rfl) ?_
  refine va_get (D := (dC, dI)) (ci := 5) (v := .int (mTH M6)) (C := RX6) (T := TX6) (N := 27) hx hb hts hiX6 hown hK hP 0 rfl rfl 0 (by decide) hf75 (fun _ h9 => h9) rfl dX6_and_49 ?_
  refine lv_if_le (tgt := 57) hx hb dX6_and_52 (by decide) (fun c7 => ?_) (fun c7 => ?_)
  · have h := h.1 c7
    refine lv_aload_n hx hb dX6_and_57 rfl (lv_at hl 0 rfl) ?_
    refine va_get (D := (dC, dI)) (ci := 5) (v := .ref (b 1)) (C := RX6) (T := TX6) (N := 27) hx hb hts hiX6 hown hK hP 0 rfl rfl 4 (by decide) hf7 (fun _ h9 => h9) rfl dX6_and_58 ?_
    refine lv_aload_n hx hb dX6_and_61 rfl (lv_at hl 0 rfl) ?_
    refine va_get (D := (dC, dI)) (ci := 5) (v := .int (mND M6)) (C := RX6) (T := TX6) (N := 27) hx hb hts hiX6 hown hK hP 0 rfl rfl 1 (by decide) hf79 (fun _ h9 => h9) rfl dX6_and_62 ?_
    refine lv_iload_n hx hb dX6_and_65 rfl (lv_at hl 1 rfl) ?_
    obtain ⟨i8, h⟩ := h
    refine va_iast (D := (dC, dI)) hx hb hK hP hD hS 1 0 rfl rfl i8 dX6_and_66 (fun H locs hP hD hS => ?_)
    obtain ⟨M9, eM9⟩ : ∃ z : MS, z = (mON_s M6 (upd (mON M6) (mND M6).toNatClampNeg x1)) := ⟨_, rfl⟩
    have h := h M9 eM9
    have hP := nP_mON eM9 hP
    have hD := nD_mON eM9 hD
    refine lv_aload_n hx hb dX6_and_67 rfl (lv_at hl 0 rfl) ?_
    refine va_get (D := (dC, dI)) (ci := 5) (v := .ref (b 2)) (C := RX6) (T := TX6) (N := 27) hx hb hts hiX6 hown hK hP 0 rfl rfl 5 (by decide) hf13 (fun _ h9 => h9) rfl dX6_and_68 ?_
    refine lv_aload_n hx hb dX6_and_71 rfl (lv_at hl 0 rfl) ?_
    refine va_get (D := (dC, dI)) (ci := 5) (v := .int (mND M9)) (C := RX6) (T := TX6) (N := 27) hx hb hts hiX6 hown hK hP 0 rfl rfl 1 (by decide) hf79 (fun _ h9 => h9) rfl dX6_and_72 ?_
    refine lv_iload_n hx hb dX6_and_75 rfl (lv_at hl 2 rfl) ?_
    obtain ⟨i10, h⟩ := h
    refine va_iast (D := (dC, dI)) hx hb hK hP hD hS 2 0 rfl rfl i10 dX6_and_76 (fun H locs hP hD hS => ?_)
    obtain ⟨M11, eM11⟩ : ∃ z : MS, z = (mTW_s M9 (upd (mTW M9) (mND M9).toNatClampNeg x2)) := ⟨_, rfl⟩
    have h := h M11 eM11
    have hP := nP_mTW eM11 hP
    have hD := nD_mTW eM11 hD
    refine lv_aload_n hx hb dX6_and_77 rfl (lv_at hl 0 rfl) ?_
    refine va_get (D := (dC, dI)) (ci := 5) (v := .ref (b 10)) (C := RX6) (T := TX6) (N := 27) hx hb hts hiX6 hown hK hP 0 rfl rfl 15 (by decide) hf37 (fun _ h9 => h9) rfl dX6_and_78 ?_
    refine lv_aload_n hx hb dX6_and_81 rfl (lv_at hl 0 rfl) ?_
    refine va_get (D := (dC, dI)) (ci := 5) (v := .int (mND M11)) (C := RX6) (T := TX6) (N := 27) hx hb hts hiX6 hown hK hP 0 rfl rfl 1 (by decide) hf79 (fun _ h9 => h9) rfl dX6_and_82 ?_
    refine lv_aload_n hx hb dX6_and_85 rfl (lv_at hl 0 rfl) ?_
    refine va_get (D := (dC, dI)) (ci := 5) (v := .int (mAN M11)) (C := RX6) (T := TX6) (N := 27) hx hb hts hiX6 hown hK hP 0 rfl rfl 3 (by decide) hf97 (fun _ h9 => h9) rfl dX6_and_86 ?_
    obtain ⟨i12, h⟩ := h
    refine va_iast (D := (dC, dI)) hx hb hK hP hD hS 10 0 rfl rfl i12 dX6_and_89 (fun H locs hP hD hS => ?_)
    obtain ⟨M13, eM13⟩ : ∃ z : MS, z = (mAO_s M11 (upd (mAO M11) (mND M11).toNatClampNeg (mAN M11))) := ⟨_, rfl⟩
    have h := h M13 eM13
    have hP := nP_mAO eM13 hP
    have hD := nD_mAO eM13 hD
    refine lv_aload_n hx hb dX6_and_90 rfl (lv_at hl 0 rfl) ?_
    refine lv_dup hx hb dX6_and_91 rfl ?_
    refine va_get (D := (dC, dI)) (ci := 5) (v := .int (mAN M13)) (C := RX6) (T := TX6) (N := 27) hx hb hts hiX6 hown hK hP 0 rfl rfl 3 (by decide) hf97 (fun _ h9 => h9) rfl dX6_and_92 ?_
    refine lv_iconst (v := 1) hx hb dX6_and_95 (by decide) ?_
    refine lv_iadd hx hb dX6_and_96 ?_
    refine va_put (D := (dC, dI)) (ci := 5) (v := .int ((mAN M13) + (1 : Int32))) (ty := .int) (C := RX6) (T := TX6) (N := 27) hx hb hts hiX6 tyX6 tyX6_ok nmX6 hown hK hP hD hS 0 rfl rfl 3 (by decide) hf97 (fun _ h9 => h9) rfl (by decide +kernel) rfl rfl (Nat.le_of_ble_eq_true rfl) dX6_and_97 (fun H locs hP hD hS => ?_)
    obtain ⟨M14, eM14⟩ : ∃ z : MS, z = (mAN_s M13 ((mAN M13) + (1 : Int32))) := ⟨_, rfl⟩
    have h := h M14 eM14
    have hP := nP_mAN eM14 hP
    have hD := nD_mAN eM14 hD
    refine lv_aload_n hx hb dX6_and_100 rfl (lv_at hl 0 rfl) ?_
    refine lv_dup hx hb dX6_and_101 rfl ?_
    refine va_get (D := (dC, dI)) (ci := 5) (v := .int (mND M14)) (C := RX6) (T := TX6) (N := 27) hx hb hts hiX6 hown hK hP 0 rfl rfl 1 (by decide) hf79 (fun _ h9 => h9) rfl dX6_and_102 ?_
    refine lv_iconst (v := 1) hx hb dX6_and_105 (by decide) ?_
    refine lv_iadd hx hb dX6_and_106 ?_
    refine va_put (D := (dC, dI)) (ci := 5) (v := .int ((mND M14) + (1 : Int32))) (ty := .int) (C := RX6) (T := TX6) (N := 27) hx hb hts hiX6 tyX6 tyX6_ok nmX6 hown hK hP hD hS 0 rfl rfl 1 (by decide) hf79 (fun _ h9 => h9) rfl (by decide +kernel) rfl rfl (Nat.le_of_ble_eq_true rfl) dX6_and_107 (fun H locs hP hD hS => ?_)
    obtain ⟨M15, eM15⟩ : ∃ z : MS, z = (mND_s M14 ((mND M14) + (1 : Int32))) := ⟨_, rfl⟩
    have h := h M15 eM15
    have hP := nP_mND eM15 hP
    have hD := nD_mND eM15 hD
    refine lv_aload_n hx hb dX6_and_110 rfl (lv_at hl 0 rfl) ?_
    refine lv_aload_n hx hb dX6_and_111 rfl (lv_at hl 0 rfl) ?_
    refine va_get (D := (dC, dI)) (ci := 5) (v := .int (mND M15)) (C := RX6) (T := TX6) (N := 27) hx hb hts hiX6 hown hK hP 0 rfl rfl 1 (by decide) hf79 (fun _ h9 => h9) rfl dX6_and_112 ?_
    refine lv_iconst (v := 1) hx hb dX6_and_115 (by decide) ?_
    refine lv_isub hx hb dX6_and_116 ?_
    refine xc_Vv (wf := wM cyI cyJ cyZ b) (wr := []) (isC := [0, 1, 2, 3, 4, 5, 6, 7, 8, 9, 10, 11, 12, 13, 14, 15, 16, 17, 18, 19, 20]) (isR := []) (As := [.int ((mND M15) - (1 : Int32))]) (rest := []) ⟨hx, hb, hml, hown, hts⟩ (t_X6_findCuts h) (cwV 1 hts gX6_and_X6_findCuts rfl rfl rfl (by decide +kernel) ⟨Nat.le_of_ble_eq_true rfl, Nat.le_of_ble_eq_true rfl⟩) ⟨hK, hE, hA, hP, hD, hS, rfl, rfl, rfl, rfl, by decide⟩ ⟨0, 5, _, _, rfl, rfl, rfl⟩ rfl rfl hl.1 (Nat.le_of_ble_eq_true rfl) dX6_and_117 ⟨Nat.le_of_ble_eq_true rfl, Nat.le_of_ble_eq_true rfl⟩ (fun  S16 H locs h hP hD hS => ?_)
    have hP : va_P (dC, dI) vwCl (wM cyI cyJ cyZ b S16) H := hP
    have hD : va_D A (wM cyI cyJ cyZ b S16) := hD
    refine lv_aload_n hx hb dX6_and_120 rfl (lv_at hl 0 rfl) ?_
    refine lv_iconst (v := 1) hx hb dX6_and_121 (by decide) ?_
    refine va_put (D := (dC, dI)) (ci := 5) (v := .int (1 : Int32)) (ty := .boolean) (C := RX6) (T := TX6) (N := 27) hx hb hts hiX6 tyX6 tyX6_ok nmX6 hown hK hP hD hS 0 rfl rfl 18 (by decide) hf89 (fun _ h9 => h9) rfl (by decide +kernel) rfl rfl (Nat.le_of_ble_eq_true rfl) dX6_and_122 (fun H locs hP hD hS => ?_)
    obtain ⟨M17, eM17⟩ : ∃ z : MS, z = (mSL_s S16 (1 : Int32)) := ⟨_, rfl⟩
    have h := h M17 eM17
    have hP := nP_mSL eM17 hP
    have hD := nD_mSL eM17 hD
    refine lv_iconst (v := 2) hx hb dX6_and_125 (by decide) ?_
    refine lv_aload_n hx hb dX6_and_126 rfl (lv_at hl 0 rfl) ?_
    refine va_get (D := (dC, dI)) (ci := 5) (v := .int (mND M17)) (C := RX6) (T := TX6) (N := 27) hx hb hts hiX6 hown hK hP 0 rfl rfl 1 (by decide) hf79 (fun _ h9 => h9) rfl dX6_and_127 ?_
    refine lv_imul hx hb dX6_and_130 ?_
    refine lv_iconst (v := 2) hx hb dX6_and_131 (by decide) ?_
    refine lv_isub hx hb dX6_and_132 ?_
    exact xr_i (S := M17) hx hb hr hlocks hK hP hD hS h (Nat.le_of_ble_eq_true rfl) (Nat.le_of_ble_eq_true rfl) dX6_and_133
  · have h := h.2 c7
    refine lv_iconst (v := 0) hx hb dX6_and_55 (by decide) ?_
    exact xr_i (S := M6) hx hb hr hlocks hK hP hD hS h (Nat.le_of_ble_eq_true rfl) (Nat.le_of_ble_eq_true rfl) dX6_and_56
def p_X6_and_21 (M : MS) (x1 : Int32) (x2 : Int32) (t0 : Int32) (post : Int32 → MS → Prop) : Prop := (¬ t0 = 0 → ((¬ (mAN M) = (24 : Int32) → (p_X6_and_45 M x1 x2 (0 : Int32) post)) ∧ ((mAN M) = (24 : Int32) → (p_X6_and_45 M x1 x2 (2 : Int32) post)))) ∧ (t0 = 0 → (p_X6_and_45 M x1 x2 (1 : Int32) post))
set_option maxHeartbeats 1000000 in
set_option maxRecDepth 100000 in
theorem t_X6_and_21 {p : Program} {l : Launch} {e : Env} {s : State} {m : MethodId} {args : Array Value} {below : List Frame} {meth : Method} {c : Code} {dC : Nat → ClassId} {dI : Nat → Nat → Nat} {cyI cyJ cyZ : ClassId} {r : Nat → Nat} {b : Nat → Nat} {A : Nat → Prop} {M : MS} {x1 : Int32} {x2 : Int32} {t0 : Int32} {post : Int32 → MS → Prop} (G : xG p s m args meth c cX6_and 4 RX6 (some .int) wsX6_and (dC, dI) (tyA cyI cyJ cyZ) r A) (h : p_X6_and_21 M x1 x2 t0 post) {H : Heap} {locs : List Loc} {ls : Array Slot} (hP : va_P (dC, dI) vwCl (wM cyI cyJ cyZ b M) H) (hD : va_D A (wM cyI cyJ cyZ b M)) (hS : va_S A s.heap H locs) (hl : lv_has ls 4 [(0, .ref (b 0)), (1, .int x1), (2, .int x2)]) : W p l e { frames := 5, cells := 0, slots := 0, locals := 115 } s m args below meth c H locs 0 0 (MQ below (va_Qi post (xAt (dC, dI) (tyA cyI cyJ cyZ) (wM cyI cyJ cyZ b) A) A) args s 0 0 A) (F0 m 21 ls [.int t0]) := by
  obtain ⟨hx, hb, hml, hown, hts, hr, hlocks, hK, hE, hA⟩ := id G
  have hiX6 : ∀ w ∈ wsX60, w ∈ wsX6_and := by decide +kernel
  have hf97 := hts (.fieldLink RX6 97 "CellMappingModel" "ands" "I") (by decide +kernel)
  unfold p_X6_and_21 at h
  refine lv_istore_n (lv' := [(3, .int t0), (0, .ref (b 0)), (1, .int x1), (2, .int x2)]) hx hb dX6_and_21 rfl hl (by decide) rfl (fun ls hl => ?_)
  refine lv_aload_n hx hb dX6_and_22 rfl (lv_at hl 1 rfl) ?_
  refine lv_iload_n hx hb dX6_and_23 rfl (lv_at hl 0 rfl) ?_
  refine lv_if_ne (tgt := 31) hx hb dX6_and_24 (by decide) (fun c4 => ?_) (fun c4 => ?_)
  · have h := h.1 c4
    refine lv_aload_n hx hb dX6_and_31 rfl (lv_at hl 1 rfl) ?_
    refine va_get (D := (dC, dI)) (ci := 5) (v := .int (mAN M)) (C := RX6) (T := TX6) (N := 27) hx hb hts hiX6 hown hK hP 0 rfl rfl 3 (by decide) hf97 (fun _ h9 => h9) rfl dX6_and_32 ?_
    refine lv_bipush (v := 24) hx hb dX6_and_35 (by decide) ?_
    refine lv_icmp_ne (tgt := 44) hx hb dX6_and_37 (by decide) (fun c5 => ?_) (fun c5 => ?_)
    · have h := h.1 c5
      refine lv_iconst (v := 0) hx hb dX6_and_44 (by decide) ?_
      exact t_X6_and_45 G h hP hD hS (lv_sub hl [1, 2, 3] rfl)
    · have h := h.2 c5
      refine lv_iconst (v := 2) hx hb dX6_and_40 (by decide) ?_
      refine lv_goto (tgt := 45) hx hb dX6_and_41 (by decide) ?_
      exact t_X6_and_45 G h hP hD hS (lv_sub hl [1, 2, 3] rfl)
  · have h := h.2 c4
    refine lv_iconst (v := 1) hx hb dX6_and_27 (by decide) ?_
    refine lv_goto (tgt := 45) hx hb dX6_and_28 (by decide) ?_
    exact t_X6_and_45 G h hP hD hS (lv_sub hl [1, 2, 3] rfl)
def p_X6_and_20 (M : MS) (x1 : Int32) (x2 : Int32) (post : Int32 → MS → Prop) : Prop := p_X6_and_21 M x1 x2 (0 : Int32) post
set_option maxHeartbeats 1000000 in
set_option maxRecDepth 100000 in
theorem t_X6_and_20 {p : Program} {l : Launch} {e : Env} {s : State} {m : MethodId} {args : Array Value} {below : List Frame} {meth : Method} {c : Code} {dC : Nat → ClassId} {dI : Nat → Nat → Nat} {cyI cyJ cyZ : ClassId} {r : Nat → Nat} {b : Nat → Nat} {A : Nat → Prop} {M : MS} {x1 : Int32} {x2 : Int32} {post : Int32 → MS → Prop} (G : xG p s m args meth c cX6_and 4 RX6 (some .int) wsX6_and (dC, dI) (tyA cyI cyJ cyZ) r A) (h : p_X6_and_20 M x1 x2 post) {H : Heap} {locs : List Loc} {ls : Array Slot} (hP : va_P (dC, dI) vwCl (wM cyI cyJ cyZ b M) H) (hD : va_D A (wM cyI cyJ cyZ b M)) (hS : va_S A s.heap H locs) (hl : lv_has ls 4 [(0, .ref (b 0)), (1, .int x1), (2, .int x2)]) : W p l e { frames := 5, cells := 0, slots := 0, locals := 115 } s m args below meth c H locs 0 0 (MQ below (va_Qi post (xAt (dC, dI) (tyA cyI cyJ cyZ) (wM cyI cyJ cyZ b) A) A) args s 0 0 A) (F0 m 20 ls []) := by
  obtain ⟨hx, hb, hml, hown, hts, hr, hlocks, hK, hE, hA⟩ := id G
  unfold p_X6_and_20 at h
  refine lv_iconst (v := 0) hx hb dX6_and_20 (by decide) ?_
  exact t_X6_and_21 G h hP hD hS (lv_sub hl [0, 1, 2] rfl)
def p_X6_and (M : MS) (x1 : Int32) (x2 : Int32) (post : Int32 → MS → Prop) : Prop := p_X6_isLiteral M x1 (fun r1 => (r1 = 0 → (p_X6_and_20 M x1 x2 post)) ∧ (¬ r1 = 0 → (p_X6_isLiteral M x2 (fun r18 => (r18 = 0 → (p_X6_and_20 M x1 x2 post)) ∧ (¬ r18 = 0 → (p_X6_and_21 M x1 x2 (1 : Int32) post))))))
set_option maxHeartbeats 1000000 in
set_option maxRecDepth 100000 in
theorem t_X6_and {l : Launch} {dC : Nat → ClassId} {dI : Nat → Nat → Nat} {cyI cyJ cyZ : ClassId} {r : Nat → Nat} {b : Nat → Nat} {M : MS} {x1 : Int32} {x2 : Int32} {post : Int32 → MS → Prop} (h : p_X6_and M x1 x2 post) : xMi l yX6_and wsX6_and { frames := 5, cells := 0, slots := 0, locals := 115 } (dC, dI) (tyA cyI cyJ cyZ) r (wM cyI cyJ cyZ b) [.ref (b 0), .int x1, .int x2] M post 0 0 := by
  intro sz
  refine Met.ofW (cc := cX6_and) (maxL := 4) (ret := (some .int)) (by decide) rfl ?_
  intro p e s m args below meth c s₁ B hml hv
  obtain ⟨rfl, G, hP, hD, hS⟩ := xG.of rfl B hml hv
  generalize hAe : va_A (wM cyI cyJ cyZ b M) sz = A at G hD hS ⊢
  have G : xG p s m _ meth c cX6_and 4 RX6 (some .int) wsX6_and (dC, dI) (tyA cyI cyJ cyZ) r A := G
  obtain ⟨hx, hb, hml, hown, hts, hr, hlocks, hK, hE, hA⟩ := id G
  have hl := lv_entry ([.ref (b 0), .int x1, .int x2]) (n := 4) (Nat.le_of_ble_eq_true rfl)
  rw [lg_entry_eq]
  generalize (lg_sl ([.ref (b 0), .int x1, .int x2]) ++ List.replicate (4 - (lg_sl ([.ref (b 0), .int x1, .int x2])).length) Slot.unset).toArray = ls at hl ⊢
  have hl : lv_has ls 4 [(0, .ref (b 0)), (1, .int x1), (2, .int x2)] := hl
  show W p l e { frames := 5, cells := 0, slots := 0, locals := 115 } s m _ below meth c s.heap [] 0 0 _ _
  unfold p_X6_and at h
  refine lv_aload_n hx hb dX6_and_0 rfl (lv_at hl 0 rfl) ?_
  refine lv_iload_n hx hb dX6_and_1 rfl (lv_at hl 1 rfl) ?_
  refine xc_Vi (wf := wM cyI cyJ cyZ b) (wr := []) (isC := [0, 1, 2, 3, 4, 5, 6, 7, 8, 9, 10, 11, 12, 13, 14, 15, 16, 17, 18, 19, 20]) (isR := []) (As := [.int x1]) (rest := []) ⟨hx, hb, hml, hown, hts⟩ (t_X6_isLiteral h) (cwV 1 hts gX6_and_X6_isLiteral rfl rfl rfl (by decide +kernel) ⟨Nat.le_of_ble_eq_true rfl, Nat.le_of_ble_eq_true rfl⟩) ⟨hK, hE, hA, hP, hD, hS, rfl, rfl, rfl, rfl, by decide⟩ ⟨0, 5, _, _, rfl, rfl, rfl⟩ rfl rfl hl.1 (Nat.le_of_ble_eq_true rfl) dX6_and_2 ⟨Nat.le_of_ble_eq_true rfl, Nat.le_of_ble_eq_true rfl⟩ (fun r1 S2 H locs h hP hD hS => ?_)
  obtain ⟨rfl, h⟩ := h
  have hP : va_P (dC, dI) vwCl (wM cyI cyJ cyZ b M) H := hP
  have hD : va_D A (wM cyI cyJ cyZ b M) := hD
  refine lv_if_eq (tgt := 20) hx hb dX6_and_5 (by decide) (fun c3 => ?_) (fun c3 => ?_)
  · have h := h.1 c3
    exact t_X6_and_20 G h hP hD hS (lv_sub hl [0, 1, 2] rfl)
  · have h := h.2 c3
    refine lv_aload_n hx hb dX6_and_8 rfl (lv_at hl 0 rfl) ?_
    refine lv_iload_n hx hb dX6_and_9 rfl (lv_at hl 2 rfl) ?_
    refine xc_Vi (wf := wM cyI cyJ cyZ b) (wr := []) (isC := [0, 1, 2, 3, 4, 5, 6, 7, 8, 9, 10, 11, 12, 13, 14, 15, 16, 17, 18, 19, 20]) (isR := []) (As := [.int x2]) (rest := []) ⟨hx, hb, hml, hown, hts⟩ (t_X6_isLiteral h) (cwV 1 hts gX6_and_X6_isLiteral rfl rfl rfl (by decide +kernel) ⟨Nat.le_of_ble_eq_true rfl, Nat.le_of_ble_eq_true rfl⟩) ⟨hK, hE, hA, hP, hD, hS, rfl, rfl, rfl, rfl, by decide⟩ ⟨0, 5, _, _, rfl, rfl, rfl⟩ rfl rfl hl.1 (Nat.le_of_ble_eq_true rfl) dX6_and_10 ⟨Nat.le_of_ble_eq_true rfl, Nat.le_of_ble_eq_true rfl⟩ (fun r18 S19 H locs h hP hD hS => ?_)
    obtain ⟨rfl, h⟩ := h
    have hP : va_P (dC, dI) vwCl (wM cyI cyJ cyZ b M) H := hP
    have hD : va_D A (wM cyI cyJ cyZ b M) := hD
    refine lv_if_eq (tgt := 20) hx hb dX6_and_13 (by decide) (fun c20 => ?_) (fun c20 => ?_)
    · have h := h.1 c20
      exact t_X6_and_20 G h hP hD hS (lv_sub hl [0, 1, 2] rfl)
    · have h := h.2 c20
      refine lv_iconst (v := 1) hx hb dX6_and_16 (by decide) ?_
      refine lv_goto (tgt := 21) hx hb dX6_and_17 (by decide) ?_
      exact t_X6_and_21 G h hP hD hS (lv_sub hl [0, 1, 2] rfl)
def p_X6_output_27 (M : MS) (x1 : Int32) (t0 : Int32) (post : Int32 → MS → Prop) : Prop := ∀ M5 : MS, M5 = (mTH_s M t0) → (((mTH M5) ≤ 0 → (vp_in (mOU M5) 6 ∧ (∀ M8 : MS, M8 = (mOL_s M5 (upd (mOL M5) (mOU M5).toNatClampNeg x1)) → (∀ M9 : MS, M9 = (mOU_s M8 ((mOU M8) + (1 : Int32))) → (post ((mOU M9) - (1 : Int32)) M9))))) ∧ (¬ (mTH M5) ≤ 0 → (post (0 : Int32) M5)))
set_option maxHeartbeats 1000000 in
set_option maxRecDepth 100000 in
theorem t_X6_output_27 {p : Program} {l : Launch} {e : Env} {s : State} {m : MethodId} {args : Array Value} {below : List Frame} {meth : Method} {c : Code} {dC : Nat → ClassId} {dI : Nat → Nat → Nat} {cyI cyJ cyZ : ClassId} {r : Nat → Nat} {b : Nat → Nat} {A : Nat → Prop} {M : MS} {x1 : Int32} {t0 : Int32} {post : Int32 → MS → Prop} (G : xG p s m args meth c cX6_output 2 RX6 (some .int) wsX6_output (dC, dI) (tyA cyI cyJ cyZ) r A) (h : p_X6_output_27 M x1 t0 post) {H : Heap} {locs : List Loc} {ls : Array Slot} (hP : va_P (dC, dI) vwCl (wM cyI cyJ cyZ b M) H) (hD : va_D A (wM cyI cyJ cyZ b M)) (hS : va_S A s.heap H locs) (hl : lv_has ls 2 [(0, .ref (b 0)), (1, .int x1)]) : W p l e { frames := 2, cells := 0, slots := 0, locals := 42 } s m args below meth c H locs 0 0 (MQ below (va_Qi post (xAt (dC, dI) (tyA cyI cyJ cyZ) (wM cyI cyJ cyZ b) A) A) args s 0 0 A) (F0 m 27 ls [.int t0, .ref (b 0)]) := by
  obtain ⟨hx, hb, hml, hown, hts, hr, hlocks, hK, hE, hA⟩ := id G
  have hiX6 : ∀ w ∈ wsX60, w ∈ wsX6_output := by decide +kernel
  have hf75 := hts (.fieldLink RX6 75 "CellMappingModel" "thrown" "I") (by decide +kernel)
  have hf22 := hts (.fieldLink RX6 22 "CellMappingModel" "outputLiterals" "[I") (by decide +kernel)
  have hf104 := hts (.fieldLink RX6 104 "CellMappingModel" "outputs" "I") (by decide +kernel)
  unfold p_X6_output_27 at h
  refine va_put (D := (dC, dI)) (ci := 5) (v := .int t0) (ty := .int) (C := RX6) (T := TX6) (N := 27) hx hb hts hiX6 tyX6 tyX6_ok nmX6 hown hK hP hD hS 0 rfl rfl 0 (by decide) hf75 (fun _ h9 => h9) rfl (by decide +kernel) rfl rfl (Nat.le_of_ble_eq_true rfl) dX6_output_27 (fun H locs hP hD hS => ?_)
  obtain ⟨M5, eM5⟩ : ∃ z : MS, z = (mTH_s M t0) := ⟨_, rfl⟩
  have h := h M5 eM5
  have hP := nP_mTH eM5 hP
  have hD := nD_mTH eM5 hD
  refine lv_aload_n hx hb dX6_output_30 rfl (lv_at hl 0 rfl) ?_
  refine va_get (D := (dC, dI)) (ci := 5) (v := .int (mTH M5)) (C := RX6) (T := TX6) (N := 27) hx hb hts hiX6 hown hK hP 0 rfl rfl 0 (by decide) hf75 (fun _ h9 => h9) rfl dX6_output_31 ?_
  refine lv_if_le (tgt := 39) hx hb dX6_output_34 (by decide) (fun c6 => ?_) (fun c6 => ?_)
  · have h := h.1 c6
    refine lv_aload_n hx hb dX6_output_39 rfl (lv_at hl 0 rfl) ?_
    refine va_get (D := (dC, dI)) (ci := 5) (v := .ref (b 5)) (C := RX6) (T := TX6) (N := 27) hx hb hts hiX6 hown hK hP 0 rfl rfl 9 (by decide) hf22 (fun _ h9 => h9) rfl dX6_output_40 ?_
    refine lv_aload_n hx hb dX6_output_43 rfl (lv_at hl 0 rfl) ?_
    refine va_get (D := (dC, dI)) (ci := 5) (v := .int (mOU M5)) (C := RX6) (T := TX6) (N := 27) hx hb hts hiX6 hown hK hP 0 rfl rfl 8 (by decide) hf104 (fun _ h9 => h9) rfl dX6_output_44 ?_
    refine lv_iload_n hx hb dX6_output_47 rfl (lv_at hl 1 rfl) ?_
    obtain ⟨i7, h⟩ := h
    refine va_iast (D := (dC, dI)) hx hb hK hP hD hS 5 0 rfl rfl i7 dX6_output_48 (fun H locs hP hD hS => ?_)
    obtain ⟨M8, eM8⟩ : ∃ z : MS, z = (mOL_s M5 (upd (mOL M5) (mOU M5).toNatClampNeg x1)) := ⟨_, rfl⟩
    have h := h M8 eM8
    have hP := nP_mOL eM8 hP
    have hD := nD_mOL eM8 hD
    refine lv_aload_n hx hb dX6_output_49 rfl (lv_at hl 0 rfl) ?_
    refine lv_dup hx hb dX6_output_50 rfl ?_
    refine va_get (D := (dC, dI)) (ci := 5) (v := .int (mOU M8)) (C := RX6) (T := TX6) (N := 27) hx hb hts hiX6 hown hK hP 0 rfl rfl 8 (by decide) hf104 (fun _ h9 => h9) rfl dX6_output_51 ?_
    refine lv_iconst (v := 1) hx hb dX6_output_54 (by decide) ?_
    refine lv_iadd hx hb dX6_output_55 ?_
    refine va_put (D := (dC, dI)) (ci := 5) (v := .int ((mOU M8) + (1 : Int32))) (ty := .int) (C := RX6) (T := TX6) (N := 27) hx hb hts hiX6 tyX6 tyX6_ok nmX6 hown hK hP hD hS 0 rfl rfl 8 (by decide) hf104 (fun _ h9 => h9) rfl (by decide +kernel) rfl rfl (Nat.le_of_ble_eq_true rfl) dX6_output_56 (fun H locs hP hD hS => ?_)
    obtain ⟨M9, eM9⟩ : ∃ z : MS, z = (mOU_s M8 ((mOU M8) + (1 : Int32))) := ⟨_, rfl⟩
    have h := h M9 eM9
    have hP := nP_mOU eM9 hP
    have hD := nD_mOU eM9 hD
    refine lv_aload_n hx hb dX6_output_59 rfl (lv_at hl 0 rfl) ?_
    refine va_get (D := (dC, dI)) (ci := 5) (v := .int (mOU M9)) (C := RX6) (T := TX6) (N := 27) hx hb hts hiX6 hown hK hP 0 rfl rfl 8 (by decide) hf104 (fun _ h9 => h9) rfl dX6_output_60 ?_
    refine lv_iconst (v := 1) hx hb dX6_output_63 (by decide) ?_
    refine lv_isub hx hb dX6_output_64 ?_
    exact xr_i (S := M9) hx hb hr hlocks hK hP hD hS h (Nat.le_of_ble_eq_true rfl) (Nat.le_of_ble_eq_true rfl) dX6_output_65
  · have h := h.2 c6
    refine lv_iconst (v := 0) hx hb dX6_output_37 (by decide) ?_
    exact xr_i (S := M5) hx hb hr hlocks hK hP hD hS h (Nat.le_of_ble_eq_true rfl) (Nat.le_of_ble_eq_true rfl) dX6_output_38
def p_X6_output (M : MS) (x1 : Int32) (post : Int32 → MS → Prop) : Prop := p_X6_isLiteral M x1 (fun r1 => (¬ r1 = 0 → ((¬ (mOU M) = (6 : Int32) → (p_X6_output_27 M x1 (0 : Int32) post)) ∧ ((mOU M) = (6 : Int32) → (p_X6_output_27 M x1 (2 : Int32) post)))) ∧ (r1 = 0 → (p_X6_output_27 M x1 (1 : Int32) post)))
set_option maxHeartbeats 1000000 in
set_option maxRecDepth 100000 in
theorem t_X6_output {l : Launch} {dC : Nat → ClassId} {dI : Nat → Nat → Nat} {cyI cyJ cyZ : ClassId} {r : Nat → Nat} {b : Nat → Nat} {M : MS} {x1 : Int32} {post : Int32 → MS → Prop} (h : p_X6_output M x1 post) : xMi l yX6_output wsX6_output { frames := 2, cells := 0, slots := 0, locals := 42 } (dC, dI) (tyA cyI cyJ cyZ) r (wM cyI cyJ cyZ b) [.ref (b 0), .int x1] M post 0 0 := by
  intro sz
  refine Met.ofW (cc := cX6_output) (maxL := 2) (ret := (some .int)) (by decide) rfl ?_
  intro p e s m args below meth c s₁ B hml hv
  obtain ⟨rfl, G, hP, hD, hS⟩ := xG.of rfl B hml hv
  generalize hAe : va_A (wM cyI cyJ cyZ b M) sz = A at G hD hS ⊢
  have G : xG p s m _ meth c cX6_output 2 RX6 (some .int) wsX6_output (dC, dI) (tyA cyI cyJ cyZ) r A := G
  obtain ⟨hx, hb, hml, hown, hts, hr, hlocks, hK, hE, hA⟩ := id G
  have hiX6 : ∀ w ∈ wsX60, w ∈ wsX6_output := by decide +kernel
  have hf104 := hts (.fieldLink RX6 104 "CellMappingModel" "outputs" "I") (by decide +kernel)
  have hl := lv_entry ([.ref (b 0), .int x1]) (n := 2) (Nat.le_of_ble_eq_true rfl)
  rw [lg_entry_eq]
  generalize (lg_sl ([.ref (b 0), .int x1]) ++ List.replicate (2 - (lg_sl ([.ref (b 0), .int x1])).length) Slot.unset).toArray = ls at hl ⊢
  have hl : lv_has ls 2 [(0, .ref (b 0)), (1, .int x1)] := hl
  show W p l e { frames := 2, cells := 0, slots := 0, locals := 42 } s m _ below meth c s.heap [] 0 0 _ _
  unfold p_X6_output at h
  refine lv_aload_n hx hb dX6_output_0 rfl (lv_at hl 0 rfl) ?_
  refine lv_aload_n hx hb dX6_output_1 rfl (lv_at hl 0 rfl) ?_
  refine lv_iload_n hx hb dX6_output_2 rfl (lv_at hl 1 rfl) ?_
  refine xc_Vi (wf := wM cyI cyJ cyZ b) (wr := []) (isC := [0, 1, 2, 3, 4, 5, 6, 7, 8, 9, 10, 11, 12, 13, 14, 15, 16, 17, 18, 19, 20]) (isR := []) (As := [.int x1]) (rest := [.ref (b 0)]) ⟨hx, hb, hml, hown, hts⟩ (t_X6_isLiteral h) (cwV 1 hts gX6_output_X6_isLiteral rfl rfl rfl (by decide +kernel) ⟨Nat.le_of_ble_eq_true rfl, Nat.le_of_ble_eq_true rfl⟩) ⟨hK, hE, hA, hP, hD, hS, rfl, rfl, rfl, rfl, by decide⟩ ⟨0, 5, _, _, rfl, rfl, rfl⟩ rfl rfl hl.1 (Nat.le_of_ble_eq_true rfl) dX6_output_3 ⟨Nat.le_of_ble_eq_true rfl, Nat.le_of_ble_eq_true rfl⟩ (fun r1 S2 H locs h hP hD hS => ?_)
  obtain ⟨rfl, h⟩ := h
  have hP : va_P (dC, dI) vwCl (wM cyI cyJ cyZ b M) H := hP
  have hD : va_D A (wM cyI cyJ cyZ b M) := hD
  refine lv_if_ne (tgt := 13) hx hb dX6_output_6 (by decide) (fun c3 => ?_) (fun c3 => ?_)
  · have h := h.1 c3
    refine lv_aload_n hx hb dX6_output_13 rfl (lv_at hl 0 rfl) ?_
    refine va_get (D := (dC, dI)) (ci := 5) (v := .int (mOU M)) (C := RX6) (T := TX6) (N := 27) hx hb hts hiX6 hown hK hP 0 rfl rfl 8 (by decide) hf104 (fun _ h9 => h9) rfl dX6_output_14 ?_
    refine lv_bipush (v := 6) hx hb dX6_output_17 (by decide) ?_
    refine lv_icmp_ne (tgt := 26) hx hb dX6_output_19 (by decide) (fun c4 => ?_) (fun c4 => ?_)
    · have h := h.1 c4
      refine lv_iconst (v := 0) hx hb dX6_output_26 (by decide) ?_
      exact t_X6_output_27 G h hP hD hS (lv_sub hl [0, 1] rfl)
    · have h := h.2 c4
      refine lv_iconst (v := 2) hx hb dX6_output_22 (by decide) ?_
      refine lv_goto (tgt := 27) hx hb dX6_output_23 (by decide) ?_
      exact t_X6_output_27 G h hP hD hS (lv_sub hl [0, 1] rfl)
  · have h := h.2 c3
    refine lv_iconst (v := 1) hx hb dX6_output_9 (by decide) ?_
    refine lv_goto (tgt := 27) hx hb dX6_output_10 (by decide) ?_
    exact t_X6_output_27 G h hP hD hS (lv_sub hl [0, 1] rfl)
def p_X6_cutsOf (M : MS) (x1 : Int32) (post : Int32 → Prop) : Prop := p_X6_isInput M x1 (fun r1 => (r1 = 0 → (vp_in x1 32 ∧ (vp_in ((mAO M) x1.toNatClampNeg) 24 ∧ (post ((mCC M) ((mAO M) x1.toNatClampNeg).toNatClampNeg))))) ∧ (¬ r1 = 0 → (post (0 : Int32))))
set_option maxHeartbeats 1000000 in
set_option maxRecDepth 100000 in
theorem t_X6_cutsOf {l : Launch} {dC : Nat → ClassId} {dI : Nat → Nat → Nat} {cyI cyJ cyZ : ClassId} {r : Nat → Nat} {b : Nat → Nat} {M : MS} {x1 : Int32} {post : Int32 → Prop} (h : p_X6_cutsOf M x1 post) : xMi l yX6_cutsOf wsX6_cutsOf { frames := 1, cells := 0, slots := 0, locals := 21 } (dC, dI) (tyA cyI cyJ cyZ) r (wM cyI cyJ cyZ b) [.ref (b 0), .int x1] M (fun x u => M = u ∧ post x) 0 0 := by
  intro sz
  refine Met.ofW (cc := cX6_cutsOf) (maxL := 2) (ret := (some .int)) (by decide) rfl ?_
  intro p e s m args below meth c s₁ B hml hv
  obtain ⟨rfl, G, hP, hD, hS⟩ := xG.of rfl B hml hv
  generalize hAe : va_A (wM cyI cyJ cyZ b M) sz = A at G hD hS ⊢
  have G : xG p s m _ meth c cX6_cutsOf 2 RX6 (some .int) wsX6_cutsOf (dC, dI) (tyA cyI cyJ cyZ) r A := G
  obtain ⟨hx, hb, hml, hown, hts, hr, hlocks, hK, hE, hA⟩ := id G
  have hiX6 : ∀ w ∈ wsX60, w ∈ wsX6_cutsOf := by decide +kernel
  have hf40 := hts (.fieldLink RX6 40 "CellMappingModel" "cutCounts" "[I") (by decide +kernel)
  have hf37 := hts (.fieldLink RX6 37 "CellMappingModel" "andOf" "[I") (by decide +kernel)
  have hl := lv_entry ([.ref (b 0), .int x1]) (n := 2) (Nat.le_of_ble_eq_true rfl)
  rw [lg_entry_eq]
  generalize (lg_sl ([.ref (b 0), .int x1]) ++ List.replicate (2 - (lg_sl ([.ref (b 0), .int x1])).length) Slot.unset).toArray = ls at hl ⊢
  have hl : lv_has ls 2 [(0, .ref (b 0)), (1, .int x1)] := hl
  show W p l e { frames := 1, cells := 0, slots := 0, locals := 21 } s m _ below meth c s.heap [] 0 0 _ _
  unfold p_X6_cutsOf at h
  refine lv_aload_n hx hb dX6_cutsOf_0 rfl (lv_at hl 0 rfl) ?_
  refine lv_iload_n hx hb dX6_cutsOf_1 rfl (lv_at hl 1 rfl) ?_
  refine xc_Vi (wf := wM cyI cyJ cyZ b) (wr := []) (isC := [0, 1, 2, 3, 4, 5, 6, 7, 8, 9, 10, 11, 12, 13, 14, 15, 16, 17, 18, 19, 20]) (isR := []) (As := [.int x1]) (rest := []) ⟨hx, hb, hml, hown, hts⟩ (t_X6_isInput h) (cwV 1 hts gX6_cutsOf_X6_isInput rfl rfl rfl (by decide +kernel) ⟨Nat.le_of_ble_eq_true rfl, Nat.le_of_ble_eq_true rfl⟩) ⟨hK, hE, hA, hP, hD, hS, rfl, rfl, rfl, rfl, by decide⟩ ⟨0, 5, _, _, rfl, rfl, rfl⟩ rfl rfl hl.1 (Nat.le_of_ble_eq_true rfl) dX6_cutsOf_2 ⟨Nat.le_of_ble_eq_true rfl, Nat.le_of_ble_eq_true rfl⟩ (fun r1 S2 H locs h hP hD hS => ?_)
  obtain ⟨rfl, h⟩ := h
  have hP : va_P (dC, dI) vwCl (wM cyI cyJ cyZ b M) H := hP
  have hD : va_D A (wM cyI cyJ cyZ b M) := hD
  refine lv_if_eq (tgt := 12) hx hb dX6_cutsOf_5 (by decide) (fun c3 => ?_) (fun c3 => ?_)
  · have h := h.1 c3
    refine lv_aload_n hx hb dX6_cutsOf_12 rfl (lv_at hl 0 rfl) ?_
    refine va_get (D := (dC, dI)) (ci := 5) (v := .ref (b 11)) (C := RX6) (T := TX6) (N := 27) hx hb hts hiX6 hown hK hP 0 rfl rfl 16 (by decide) hf40 (fun _ h9 => h9) rfl dX6_cutsOf_13 ?_
    refine lv_aload_n hx hb dX6_cutsOf_16 rfl (lv_at hl 0 rfl) ?_
    refine va_get (D := (dC, dI)) (ci := 5) (v := .ref (b 10)) (C := RX6) (T := TX6) (N := 27) hx hb hts hiX6 hown hK hP 0 rfl rfl 15 (by decide) hf37 (fun _ h9 => h9) rfl dX6_cutsOf_17 ?_
    refine lv_iload_n hx hb dX6_cutsOf_20 rfl (lv_at hl 1 rfl) ?_
    obtain ⟨i4, h⟩ := h
    refine va_iald (D := (dC, dI)) hx hb hK hP 10 0 rfl rfl i4 dX6_cutsOf_21 ?_
    obtain ⟨i5, h⟩ := h
    refine va_iald (D := (dC, dI)) hx hb hK hP 11 0 rfl rfl i5 dX6_cutsOf_22 ?_
    exact xr_i (S := M) hx hb hr hlocks hK hP hD hS ⟨rfl, h⟩ (Nat.le_of_ble_eq_true rfl) (Nat.le_of_ble_eq_true rfl) dX6_cutsOf_23
  · have h := h.2 c3
    refine lv_iconst (v := 0) hx hb dX6_cutsOf_8 (by decide) ?_
    refine lv_goto (tgt := 23) hx hb dX6_cutsOf_9 (by decide) ?_
    exact xr_i (S := M) hx hb hr hlocks hK hP hD hS ⟨rfl, h⟩ (Nat.le_of_ble_eq_true rfl) (Nat.le_of_ble_eq_true rfl) dX6_cutsOf_23
def p_X6_cuts_17 (M : MS) (x1 : Int32) (t0 : Int32) (post : Int32 → MS → Prop) : Prop := ∀ M4 : MS, M4 = (mTH_s M t0) → (((mTH M4) ≤ 0 → (p_X6_cutsOf M4 x1 (fun r6 => post r6 M4))) ∧ (¬ (mTH M4) ≤ 0 → (post (0 : Int32) M4)))
set_option maxHeartbeats 1000000 in
set_option maxRecDepth 100000 in
theorem t_X6_cuts_17 {p : Program} {l : Launch} {e : Env} {s : State} {m : MethodId} {args : Array Value} {below : List Frame} {meth : Method} {c : Code} {dC : Nat → ClassId} {dI : Nat → Nat → Nat} {cyI cyJ cyZ : ClassId} {r : Nat → Nat} {b : Nat → Nat} {A : Nat → Prop} {M : MS} {x1 : Int32} {t0 : Int32} {post : Int32 → MS → Prop} (G : xG p s m args meth c cX6_cuts 2 RX6 (some .int) wsX6_cuts (dC, dI) (tyA cyI cyJ cyZ) r A) (h : p_X6_cuts_17 M x1 t0 post) {H : Heap} {locs : List Loc} {ls : Array Slot} (hP : va_P (dC, dI) vwCl (wM cyI cyJ cyZ b M) H) (hD : va_D A (wM cyI cyJ cyZ b M)) (hS : va_S A s.heap H locs) (hl : lv_has ls 2 [(0, .ref (b 0)), (1, .int x1)]) : W p l e { frames := 2, cells := 0, slots := 0, locals := 42 } s m args below meth c H locs 0 0 (MQ below (va_Qi post (xAt (dC, dI) (tyA cyI cyJ cyZ) (wM cyI cyJ cyZ b) A) A) args s 0 0 A) (F0 m 17 ls [.int t0, .ref (b 0)]) := by
  obtain ⟨hx, hb, hml, hown, hts, hr, hlocks, hK, hE, hA⟩ := id G
  have hiX6 : ∀ w ∈ wsX60, w ∈ wsX6_cuts := by decide +kernel
  have hf75 := hts (.fieldLink RX6 75 "CellMappingModel" "thrown" "I") (by decide +kernel)
  unfold p_X6_cuts_17 at h
  refine va_put (D := (dC, dI)) (ci := 5) (v := .int t0) (ty := .int) (C := RX6) (T := TX6) (N := 27) hx hb hts hiX6 tyX6 tyX6_ok nmX6 hown hK hP hD hS 0 rfl rfl 0 (by decide) hf75 (fun _ h9 => h9) rfl (by decide +kernel) rfl rfl (Nat.le_of_ble_eq_true rfl) dX6_cuts_17 (fun H locs hP hD hS => ?_)
  obtain ⟨M4, eM4⟩ : ∃ z : MS, z = (mTH_s M t0) := ⟨_, rfl⟩
  have h := h M4 eM4
  have hP := nP_mTH eM4 hP
  have hD := nD_mTH eM4 hD
  refine lv_aload_n hx hb dX6_cuts_20 rfl (lv_at hl 0 rfl) ?_
  refine va_get (D := (dC, dI)) (ci := 5) (v := .int (mTH M4)) (C := RX6) (T := TX6) (N := 27) hx hb hts hiX6 hown hK hP 0 rfl rfl 0 (by decide) hf75 (fun _ h9 => h9) rfl dX6_cuts_21 ?_
  refine lv_if_le (tgt := 31) hx hb dX6_cuts_24 (by decide) (fun c5 => ?_) (fun c5 => ?_)
  · have h := h.1 c5
    refine lv_aload_n hx hb dX6_cuts_31 rfl (lv_at hl 0 rfl) ?_
    refine lv_iload_n hx hb dX6_cuts_32 rfl (lv_at hl 1 rfl) ?_
    refine xc_Vi (wf := wM cyI cyJ cyZ b) (wr := []) (isC := [0, 1, 2, 3, 4, 5, 6, 7, 8, 9, 10, 11, 12, 13, 14, 15, 16, 17, 18, 19, 20]) (isR := []) (As := [.int x1]) (rest := []) ⟨hx, hb, hml, hown, hts⟩ (t_X6_cutsOf h) (cwV 1 hts gX6_cuts_X6_cutsOf rfl rfl rfl (by decide +kernel) ⟨Nat.le_of_ble_eq_true rfl, Nat.le_of_ble_eq_true rfl⟩) ⟨hK, hE, hA, hP, hD, hS, rfl, rfl, rfl, rfl, by decide⟩ ⟨0, 5, _, _, rfl, rfl, rfl⟩ rfl rfl hl.1 (Nat.le_of_ble_eq_true rfl) dX6_cuts_33 ⟨Nat.le_of_ble_eq_true rfl, Nat.le_of_ble_eq_true rfl⟩ (fun r6 S7 H locs h hP hD hS => ?_)
    obtain ⟨rfl, h⟩ := h
    have hP : va_P (dC, dI) vwCl (wM cyI cyJ cyZ b M4) H := hP
    have hD : va_D A (wM cyI cyJ cyZ b M4) := hD
    exact xr_i (S := M4) hx hb hr hlocks hK hP hD hS h (Nat.le_of_ble_eq_true rfl) (Nat.le_of_ble_eq_true rfl) dX6_cuts_36
  · have h := h.2 c5
    refine lv_iconst (v := 0) hx hb dX6_cuts_27 (by decide) ?_
    refine lv_goto (tgt := 36) hx hb dX6_cuts_28 (by decide) ?_
    exact xr_i (S := M4) hx hb hr hlocks hK hP hD hS h (Nat.le_of_ble_eq_true rfl) (Nat.le_of_ble_eq_true rfl) dX6_cuts_36
def p_X6_cuts (M : MS) (x1 : Int32) (post : Int32 → MS → Prop) : Prop := p_X6_isIn M x1 (mND M) (fun r1 => (r1 = 0 → (p_X6_cuts_17 M x1 (1 : Int32) post)) ∧ (¬ r1 = 0 → (p_X6_cuts_17 M x1 (0 : Int32) post)))
set_option maxHeartbeats 1000000 in
set_option maxRecDepth 100000 in
theorem t_X6_cuts {l : Launch} {dC : Nat → ClassId} {dI : Nat → Nat → Nat} {cyI cyJ cyZ : ClassId} {r : Nat → Nat} {b : Nat → Nat} {M : MS} {x1 : Int32} {post : Int32 → MS → Prop} (h : p_X6_cuts M x1 post) : xMi l yX6_cuts wsX6_cuts { frames := 2, cells := 0, slots := 0, locals := 42 } (dC, dI) (tyA cyI cyJ cyZ) r (wM cyI cyJ cyZ b) [.ref (b 0), .int x1] M post 0 0 := by
  intro sz
  refine Met.ofW (cc := cX6_cuts) (maxL := 2) (ret := (some .int)) (by decide) rfl ?_
  intro p e s m args below meth c s₁ B hml hv
  obtain ⟨rfl, G, hP, hD, hS⟩ := xG.of rfl B hml hv
  generalize hAe : va_A (wM cyI cyJ cyZ b M) sz = A at G hD hS ⊢
  have G : xG p s m _ meth c cX6_cuts 2 RX6 (some .int) wsX6_cuts (dC, dI) (tyA cyI cyJ cyZ) r A := G
  obtain ⟨hx, hb, hml, hown, hts, hr, hlocks, hK, hE, hA⟩ := id G
  have hiX6 : ∀ w ∈ wsX60, w ∈ wsX6_cuts := by decide +kernel
  have hf79 := hts (.fieldLink RX6 79 "CellMappingModel" "nodes" "I") (by decide +kernel)
  have hl := lv_entry ([.ref (b 0), .int x1]) (n := 2) (Nat.le_of_ble_eq_true rfl)
  rw [lg_entry_eq]
  generalize (lg_sl ([.ref (b 0), .int x1]) ++ List.replicate (2 - (lg_sl ([.ref (b 0), .int x1])).length) Slot.unset).toArray = ls at hl ⊢
  have hl : lv_has ls 2 [(0, .ref (b 0)), (1, .int x1)] := hl
  show W p l e { frames := 2, cells := 0, slots := 0, locals := 42 } s m _ below meth c s.heap [] 0 0 _ _
  unfold p_X6_cuts at h
  refine lv_aload_n hx hb dX6_cuts_0 rfl (lv_at hl 0 rfl) ?_
  refine lv_iload_n hx hb dX6_cuts_1 rfl (lv_at hl 1 rfl) ?_
  refine lv_aload_n hx hb dX6_cuts_2 rfl (lv_at hl 0 rfl) ?_
  refine va_get (D := (dC, dI)) (ci := 5) (v := .int (mND M)) (C := RX6) (T := TX6) (N := 27) hx hb hts hiX6 hown hK hP 0 rfl rfl 1 (by decide) hf79 (fun _ h9 => h9) rfl dX6_cuts_3 ?_
  refine xc_Si (wf := wM cyI cyJ cyZ b) (wr := []) (isC := [0, 1, 2, 3, 4, 5, 6, 7, 8, 9, 10, 11, 12, 13, 14, 15, 16, 17, 18, 19, 20]) (isR := []) (As := [.int x1, .int (mND M)]) (rest := [.ref (b 0)]) ⟨hx, hb, hml, hown, hts⟩ (t_X6_isIn h) (va_cwS 2 hts gX6_cuts_X6_isIn rfl rfl rfl (by decide +kernel) ⟨Nat.le_of_ble_eq_true rfl, Nat.le_of_ble_eq_true rfl⟩) ⟨hK, hE, hA, hP, hD, hS, rfl, rfl, rfl, rfl, by decide⟩ rfl rfl hl.1 (Nat.le_of_ble_eq_true rfl) dX6_cuts_6 ⟨Nat.le_of_ble_eq_true rfl, Nat.le_of_ble_eq_true rfl⟩ (fun r1 S2 H locs h hP hD hS => ?_)
  obtain ⟨rfl, h⟩ := h
  have hP : va_P (dC, dI) vwCl (wM cyI cyJ cyZ b M) H := hP
  have hD : va_D A (wM cyI cyJ cyZ b M) := hD
  refine lv_if_eq (tgt := 16) hx hb dX6_cuts_9 (by decide) (fun c3 => ?_) (fun c3 => ?_)
  · have h := h.1 c3
    refine lv_iconst (v := 1) hx hb dX6_cuts_16 (by decide) ?_
    exact t_X6_cuts_17 G h hP hD hS (lv_sub hl [0, 1] rfl)
  · have h := h.2 c3
    refine lv_iconst (v := 0) hx hb dX6_cuts_12 (by decide) ?_
    refine lv_goto (tgt := 17) hx hb dX6_cuts_13 (by decide) ?_
    exact t_X6_cuts_17 G h hP hD hS (lv_sub hl [0, 1] rfl)
def p_X6_cut_21 (M : MS) (x1 : Int32) (x2 : Int32) (t0 : Int32) (post : Int64 → MS → Prop) : Prop := ∀ M4 : MS, M4 = (mTH_s M t0) → (((mTH M4) ≤ 0 → (p_X6_cutsOf M4 x1 (fun r6 => (r6 ≤ x2 → (post (-1 : Int64) M4)) ∧ (¬ r6 ≤ x2 → (vp_in x1 32 ∧ (vp_in (((5000 : Int32) * ((mAO M4) x1.toNatClampNeg)) + x2) 120000 ∧ (post ((((mCB M4) (((5000 : Int32) * ((mAO M4) x1.toNatClampNeg)) + x2).toNatClampNeg).toInt64) &&& (4294967295 : Int64)) M4))))))) ∧ (¬ (mTH M4) ≤ 0 → (post (0 : Int64) M4)))
set_option maxHeartbeats 1000000 in
set_option maxRecDepth 100000 in
theorem t_X6_cut_21 {p : Program} {l : Launch} {e : Env} {s : State} {m : MethodId} {args : Array Value} {below : List Frame} {meth : Method} {c : Code} {dC : Nat → ClassId} {dI : Nat → Nat → Nat} {cyI cyJ cyZ : ClassId} {r : Nat → Nat} {b : Nat → Nat} {A : Nat → Prop} {M : MS} {x1 : Int32} {x2 : Int32} {t0 : Int32} {post : Int64 → MS → Prop} (G : xG p s m args meth c cX6_cut 3 RX6 (some .long) wsX6_cut (dC, dI) (tyA cyI cyJ cyZ) r A) (h : p_X6_cut_21 M x1 x2 t0 post) {H : Heap} {locs : List Loc} {ls : Array Slot} (hP : va_P (dC, dI) vwCl (wM cyI cyJ cyZ b M) H) (hD : va_D A (wM cyI cyJ cyZ b M)) (hS : va_S A s.heap H locs) (hl : lv_has ls 3 [(0, .ref (b 0)), (1, .int x1), (2, .int x2)]) : W p l e { frames := 2, cells := 0, slots := 0, locals := 42 } s m args below meth c H locs 0 0 (MQ below (va_Ql post (xAt (dC, dI) (tyA cyI cyJ cyZ) (wM cyI cyJ cyZ b) A) A) args s 0 0 A) (F0 m 21 ls [.int t0, .ref (b 0)]) := by
  obtain ⟨hx, hb, hml, hown, hts, hr, hlocks, hK, hE, hA⟩ := id G
  have hiX6 : ∀ w ∈ wsX60, w ∈ wsX6_cut := by decide +kernel
  have hf75 := hts (.fieldLink RX6 75 "CellMappingModel" "thrown" "I") (by decide +kernel)
  have hf44 := hts (.fieldLink RX6 44 "CellMappingModel" "cutBits" "[I") (by decide +kernel)
  have hf37 := hts (.fieldLink RX6 37 "CellMappingModel" "andOf" "[I") (by decide +kernel)
  unfold p_X6_cut_21 at h
  refine va_put (D := (dC, dI)) (ci := 5) (v := .int t0) (ty := .int) (C := RX6) (T := TX6) (N := 27) hx hb hts hiX6 tyX6 tyX6_ok nmX6 hown hK hP hD hS 0 rfl rfl 0 (by decide) hf75 (fun _ h9 => h9) rfl (by decide +kernel) rfl rfl (Nat.le_of_ble_eq_true rfl) dX6_cut_21 (fun H locs hP hD hS => ?_)
  obtain ⟨M4, eM4⟩ : ∃ z : MS, z = (mTH_s M t0) := ⟨_, rfl⟩
  have h := h M4 eM4
  have hP := nP_mTH eM4 hP
  have hD := nD_mTH eM4 hD
  refine lv_aload_n hx hb dX6_cut_24 rfl (lv_at hl 0 rfl) ?_
  refine va_get (D := (dC, dI)) (ci := 5) (v := .int (mTH M4)) (C := RX6) (T := TX6) (N := 27) hx hb hts hiX6 hown hK hP 0 rfl rfl 0 (by decide) hf75 (fun _ h9 => h9) rfl dX6_cut_25 ?_
  refine lv_if_le (tgt := 33) hx hb dX6_cut_28 (by decide) (fun c5 => ?_) (fun c5 => ?_)
  · have h := h.1 c5
    refine lv_iload_n hx hb dX6_cut_33 rfl (lv_at hl 2 rfl) ?_
    refine lv_aload_n hx hb dX6_cut_34 rfl (lv_at hl 0 rfl) ?_
    refine lv_iload_n hx hb dX6_cut_35 rfl (lv_at hl 1 rfl) ?_
    refine xc_Vi (wf := wM cyI cyJ cyZ b) (wr := []) (isC := [0, 1, 2, 3, 4, 5, 6, 7, 8, 9, 10, 11, 12, 13, 14, 15, 16, 17, 18, 19, 20]) (isR := []) (As := [.int x1]) (rest := [.int x2]) ⟨hx, hb, hml, hown, hts⟩ (t_X6_cutsOf h) (cwV 1 hts gX6_cut_X6_cutsOf rfl rfl rfl (by decide +kernel) ⟨Nat.le_of_ble_eq_true rfl, Nat.le_of_ble_eq_true rfl⟩) ⟨hK, hE, hA, hP, hD, hS, rfl, rfl, rfl, rfl, by decide⟩ ⟨0, 5, _, _, rfl, rfl, rfl⟩ rfl rfl hl.1 (Nat.le_of_ble_eq_true rfl) dX6_cut_36 ⟨Nat.le_of_ble_eq_true rfl, Nat.le_of_ble_eq_true rfl⟩ (fun r6 S7 H locs h hP hD hS => ?_)
    obtain ⟨rfl, h⟩ := h
    have hP : va_P (dC, dI) vwCl (wM cyI cyJ cyZ b M4) H := hP
    have hD : va_D A (wM cyI cyJ cyZ b M4) := hD
    refine lv_icmp_ge (tgt := 67) hx hb dX6_cut_39 (by decide) (fun c8 => ?_) (fun c8 => ?_)
    · have h := h.1 c8
      refine lv_ldc2 (v := -1) hx hb hown (hts (.constantLong RX6 129 (-1)) (by decide +kernel)) dX6_cut_67 ?_
      exact xr_l (S := M4) hx hb hr hlocks hK hP hD hS h (Nat.le_of_ble_eq_true rfl) (Nat.le_of_ble_eq_true rfl) dX6_cut_70
    · have h := h.2 c8
      refine lv_aload_n hx hb dX6_cut_42 rfl (lv_at hl 0 rfl) ?_
      refine va_get (D := (dC, dI)) (ci := 5) (v := .ref (b 12)) (C := RX6) (T := TX6) (N := 27) hx hb hts hiX6 hown hK hP 0 rfl rfl 17 (by decide) hf44 (fun _ h9 => h9) rfl dX6_cut_43 ?_
      refine lv_sipush (v := 5000) hx hb dX6_cut_46 (by decide) ?_
      refine lv_aload_n hx hb dX6_cut_49 rfl (lv_at hl 0 rfl) ?_
      refine va_get (D := (dC, dI)) (ci := 5) (v := .ref (b 10)) (C := RX6) (T := TX6) (N := 27) hx hb hts hiX6 hown hK hP 0 rfl rfl 15 (by decide) hf37 (fun _ h9 => h9) rfl dX6_cut_50 ?_
      refine lv_iload_n hx hb dX6_cut_53 rfl (lv_at hl 1 rfl) ?_
      obtain ⟨i9, h⟩ := h
      refine va_iald (D := (dC, dI)) hx hb hK hP 10 0 rfl rfl i9 dX6_cut_54 ?_
      refine lv_imul hx hb dX6_cut_55 ?_
      refine lv_iload_n hx hb dX6_cut_56 rfl (lv_at hl 2 rfl) ?_
      refine lv_iadd hx hb dX6_cut_57 ?_
      obtain ⟨i10, h⟩ := h
      refine va_iald (D := (dC, dI)) hx hb hK hP 12 0 rfl rfl i10 dX6_cut_58 ?_
      refine lv_i2l (v := ((mCB M4) (((5000 : Int32) * ((mAO M4) x1.toNatClampNeg)) + x2).toNatClampNeg).toInt64) hx hb dX6_cut_59 rfl ?_
      refine lv_ldc2 (v := 4294967295) hx hb hown (hts (.constantLong RX6 127 (4294967295)) (by decide +kernel)) dX6_cut_60 ?_
      refine lv_land hx hb dX6_cut_63 ?_
      refine lv_goto (tgt := 70) hx hb dX6_cut_64 (by decide) ?_
      exact xr_l (S := M4) hx hb hr hlocks hK hP hD hS h (Nat.le_of_ble_eq_true rfl) (Nat.le_of_ble_eq_true rfl) dX6_cut_70
  · have h := h.2 c5
    refine lv_lconst (v := 0) hx hb dX6_cut_31 (by decide) ?_
    exact xr_l (S := M4) hx hb hr hlocks hK hP hD hS h (Nat.le_of_ble_eq_true rfl) (Nat.le_of_ble_eq_true rfl) dX6_cut_32
def p_X6_cut_20 (M : MS) (x1 : Int32) (x2 : Int32) (post : Int64 → MS → Prop) : Prop := p_X6_cut_21 M x1 x2 (1 : Int32) post
set_option maxHeartbeats 1000000 in
set_option maxRecDepth 100000 in
theorem t_X6_cut_20 {p : Program} {l : Launch} {e : Env} {s : State} {m : MethodId} {args : Array Value} {below : List Frame} {meth : Method} {c : Code} {dC : Nat → ClassId} {dI : Nat → Nat → Nat} {cyI cyJ cyZ : ClassId} {r : Nat → Nat} {b : Nat → Nat} {A : Nat → Prop} {M : MS} {x1 : Int32} {x2 : Int32} {post : Int64 → MS → Prop} (G : xG p s m args meth c cX6_cut 3 RX6 (some .long) wsX6_cut (dC, dI) (tyA cyI cyJ cyZ) r A) (h : p_X6_cut_20 M x1 x2 post) {H : Heap} {locs : List Loc} {ls : Array Slot} (hP : va_P (dC, dI) vwCl (wM cyI cyJ cyZ b M) H) (hD : va_D A (wM cyI cyJ cyZ b M)) (hS : va_S A s.heap H locs) (hl : lv_has ls 3 [(0, .ref (b 0)), (1, .int x1), (2, .int x2)]) : W p l e { frames := 2, cells := 0, slots := 0, locals := 42 } s m args below meth c H locs 0 0 (MQ below (va_Ql post (xAt (dC, dI) (tyA cyI cyJ cyZ) (wM cyI cyJ cyZ b) A) A) args s 0 0 A) (F0 m 20 ls [.ref (b 0)]) := by
  obtain ⟨hx, hb, hml, hown, hts, hr, hlocks, hK, hE, hA⟩ := id G
  unfold p_X6_cut_20 at h
  refine lv_iconst (v := 1) hx hb dX6_cut_20 (by decide) ?_
  exact t_X6_cut_21 G h hP hD hS (lv_sub hl [0, 1, 2] rfl)
def p_X6_cut (M : MS) (x1 : Int32) (x2 : Int32) (post : Int64 → MS → Prop) : Prop := p_X6_isIn M x1 (mND M) (fun r1 => (r1 = 0 → (p_X6_cut_20 M x1 x2 post)) ∧ (¬ r1 = 0 → ((x2 < 0 → (p_X6_cut_20 M x1 x2 post)) ∧ (¬ x2 < 0 → (p_X6_cut_21 M x1 x2 (0 : Int32) post)))))
set_option maxHeartbeats 1000000 in
set_option maxRecDepth 100000 in
theorem t_X6_cut {l : Launch} {dC : Nat → ClassId} {dI : Nat → Nat → Nat} {cyI cyJ cyZ : ClassId} {r : Nat → Nat} {b : Nat → Nat} {M : MS} {x1 : Int32} {x2 : Int32} {post : Int64 → MS → Prop} (h : p_X6_cut M x1 x2 post) : xMl l yX6_cut wsX6_cut { frames := 2, cells := 0, slots := 0, locals := 42 } (dC, dI) (tyA cyI cyJ cyZ) r (wM cyI cyJ cyZ b) [.ref (b 0), .int x1, .int x2] M post 0 0 := by
  intro sz
  refine Met.ofW (cc := cX6_cut) (maxL := 3) (ret := (some .long)) (by decide) rfl ?_
  intro p e s m args below meth c s₁ B hml hv
  obtain ⟨rfl, G, hP, hD, hS⟩ := xG.of rfl B hml hv
  generalize hAe : va_A (wM cyI cyJ cyZ b M) sz = A at G hD hS ⊢
  have G : xG p s m _ meth c cX6_cut 3 RX6 (some .long) wsX6_cut (dC, dI) (tyA cyI cyJ cyZ) r A := G
  obtain ⟨hx, hb, hml, hown, hts, hr, hlocks, hK, hE, hA⟩ := id G
  have hiX6 : ∀ w ∈ wsX60, w ∈ wsX6_cut := by decide +kernel
  have hf79 := hts (.fieldLink RX6 79 "CellMappingModel" "nodes" "I") (by decide +kernel)
  have hl := lv_entry ([.ref (b 0), .int x1, .int x2]) (n := 3) (Nat.le_of_ble_eq_true rfl)
  rw [lg_entry_eq]
  generalize (lg_sl ([.ref (b 0), .int x1, .int x2]) ++ List.replicate (3 - (lg_sl ([.ref (b 0), .int x1, .int x2])).length) Slot.unset).toArray = ls at hl ⊢
  have hl : lv_has ls 3 [(0, .ref (b 0)), (1, .int x1), (2, .int x2)] := hl
  show W p l e { frames := 2, cells := 0, slots := 0, locals := 42 } s m _ below meth c s.heap [] 0 0 _ _
  unfold p_X6_cut at h
  refine lv_aload_n hx hb dX6_cut_0 rfl (lv_at hl 0 rfl) ?_
  refine lv_iload_n hx hb dX6_cut_1 rfl (lv_at hl 1 rfl) ?_
  refine lv_aload_n hx hb dX6_cut_2 rfl (lv_at hl 0 rfl) ?_
  refine va_get (D := (dC, dI)) (ci := 5) (v := .int (mND M)) (C := RX6) (T := TX6) (N := 27) hx hb hts hiX6 hown hK hP 0 rfl rfl 1 (by decide) hf79 (fun _ h9 => h9) rfl dX6_cut_3 ?_
  refine xc_Si (wf := wM cyI cyJ cyZ b) (wr := []) (isC := [0, 1, 2, 3, 4, 5, 6, 7, 8, 9, 10, 11, 12, 13, 14, 15, 16, 17, 18, 19, 20]) (isR := []) (As := [.int x1, .int (mND M)]) (rest := [.ref (b 0)]) ⟨hx, hb, hml, hown, hts⟩ (t_X6_isIn h) (va_cwS 2 hts gX6_cut_X6_isIn rfl rfl rfl (by decide +kernel) ⟨Nat.le_of_ble_eq_true rfl, Nat.le_of_ble_eq_true rfl⟩) ⟨hK, hE, hA, hP, hD, hS, rfl, rfl, rfl, rfl, by decide⟩ rfl rfl hl.1 (Nat.le_of_ble_eq_true rfl) dX6_cut_6 ⟨Nat.le_of_ble_eq_true rfl, Nat.le_of_ble_eq_true rfl⟩ (fun r1 S2 H locs h hP hD hS => ?_)
  obtain ⟨rfl, h⟩ := h
  have hP : va_P (dC, dI) vwCl (wM cyI cyJ cyZ b M) H := hP
  have hD : va_D A (wM cyI cyJ cyZ b M) := hD
  refine lv_if_eq (tgt := 20) hx hb dX6_cut_9 (by decide) (fun c3 => ?_) (fun c3 => ?_)
  · have h := h.1 c3
    exact t_X6_cut_20 G h hP hD hS (lv_sub hl [0, 1, 2] rfl)
  · have h := h.2 c3
    refine lv_iload_n hx hb dX6_cut_12 rfl (lv_at hl 2 rfl) ?_
    refine lv_if_lt (tgt := 20) hx hb dX6_cut_13 (by decide) (fun c11 => ?_) (fun c11 => ?_)
    · have h := h.1 c11
      exact t_X6_cut_20 G h hP hD hS (lv_sub hl [0, 1, 2] rfl)
    · have h := h.2 c11
      refine lv_iconst (v := 0) hx hb dX6_cut_16 (by decide) ?_
      refine lv_goto (tgt := 21) hx hb dX6_cut_17 (by decide) ?_
      exact t_X6_cut_21 G h hP hD hS (lv_sub hl [0, 1, 2] rfl)
def b_X6_spread_4 (x1 : Int32) (post : Int32 → MS → Prop) (g4 : MS → Int32 → Int32 → Prop) (M : MS) (x2 : Int32) (x3 : Int32) : Prop := ((mND M) ≤ x3 → (post x2 M)) ∧ (¬ (mND M) ≤ x3 → ((¬ ((ushr x1 x3) &&& (1 : Int32)) = (1 : Int32) → (∀ y3 : Int32, y3 = (x3 + (1 : Int32)) → (g4 M x2 y3))) ∧ (((ushr x1 x3) &&& (1 : Int32)) = (1 : Int32) → (vp_in x2 3 ∧ (∀ M5 : MS, M5 = (mLE_s M (upd (mLE M) x2.toNatClampNeg x3)) → (∀ y6 : Int32, y6 = (x2 + (1 : Int32)) → (∀ y7 : Int32, y7 = (x3 + (1 : Int32)) → (g4 M5 y6 y7))))))))
def p_X6_spread_4 (M : MS) (x1 : Int32) (x2 : Int32) (x3 : Int32) (post : Int32 → MS → Prop) : Prop := ∃ (I : MS → Int32 → Int32 → Prop) (mu : MS → Int32 → Int32 → Nat), I M x2 x3 ∧ ∀ (M : MS) (x2 : Int32) (x3 : Int32), I M x2 x3 → b_X6_spread_4 x1 post (fun M' x2' x3' => I M' x2' x3' ∧ mu M' x2' x3' < mu M x2 x3) M x2 x3
set_option maxHeartbeats 1000000 in
set_option maxRecDepth 100000 in
theorem t_X6_spread_4 {p : Program} {l : Launch} {e : Env} {s : State} {m : MethodId} {args : Array Value} {below : List Frame} {meth : Method} {c : Code} {dC : Nat → ClassId} {dI : Nat → Nat → Nat} {cyI cyJ cyZ : ClassId} {r : Nat → Nat} {b : Nat → Nat} {A : Nat → Prop} {M : MS} {x1 : Int32} {x2 : Int32} {x3 : Int32} {post : Int32 → MS → Prop} (G : xG p s m args meth c cX6_spread 4 RX6 (some .int) wsX6_spread (dC, dI) (tyA cyI cyJ cyZ) r A) (h : p_X6_spread_4 M x1 x2 x3 post) {H : Heap} {locs : List Loc} {ls : Array Slot} (hP : va_P (dC, dI) vwCl (wM cyI cyJ cyZ b M) H) (hD : va_D A (wM cyI cyJ cyZ b M)) (hS : va_S A s.heap H locs) (hl : lv_has ls 4 [(0, .ref (b 0)), (1, .int x1), (2, .int x2), (3, .int x3)]) : W p l e { frames := 0, cells := 0, slots := 0, locals := 0 } s m args below meth c H locs 0 0 (MQ below (va_Qi post (xAt (dC, dI) (tyA cyI cyJ cyZ) (wM cyI cyJ cyZ b) A) A) args s 0 0 A) (F0 m 4 ls []) := by
  obtain ⟨hx, hb, hml, hown, hts, hr, hlocks, hK, hE, hA⟩ := id G
  have hiX6 : ∀ w ∈ wsX60, w ∈ wsX6_spread := by decide +kernel
  have hf79 := hts (.fieldLink RX6 79 "CellMappingModel" "nodes" "I") (by decide +kernel)
  have hf66 := hts (.fieldLink RX6 66 "CellMappingModel" "leaves" "[I") (by decide +kernel)
  obtain ⟨I, mu, h0, hstep⟩ := h
  suffices hgo : ∀ (n : Nat) (M : MS) (x2 : Int32) (x3 : Int32), I M x2 x3 → mu M x2 x3 < n → ∀ (H : Heap) (locs : List Loc) (ls : Array Slot), va_P (dC, dI) vwCl (wM cyI cyJ cyZ b M) H → va_D A (wM cyI cyJ cyZ b M) → va_S A s.heap H locs → lv_has ls 4 [(0, .ref (b 0)), (1, .int x1), (2, .int x2), (3, .int x3)] → W p l e { frames := 0, cells := 0, slots := 0, locals := 0 } s m args below meth c H locs 0 0 (MQ below (va_Qi post (xAt (dC, dI) (tyA cyI cyJ cyZ) (wM cyI cyJ cyZ b) A) A) args s 0 0 A) (F0 m 4 ls []) from hgo (mu M x2 x3 + 1) M x2 x3 h0 (Nat.lt_succ_self _) H locs ls hP hD hS hl
  clear h0 hP hD hS hl
  intro n
  induction n with
  | zero => intro M x2 x3 _ h; exact absurd h (Nat.not_lt_zero _)
  | succ n ih =>
    intro M x2 x3 hI hmu H locs ls hP hD hS hl
    have h := hstep M x2 x3 hI
    unfold b_X6_spread_4 at h
    have k4 : ∀ (M' : MS) (x2' : Int32) (x3' : Int32) (H : Heap) (locs : List Loc) (ls : Array Slot), (fun M' x2' x3' => I M' x2' x3' ∧ mu M' x2' x3' < mu M x2 x3) M' x2' x3' → va_P (dC, dI) vwCl (wM cyI cyJ cyZ b M') H → va_D A (wM cyI cyJ cyZ b M') → va_S A s.heap H locs → lv_has ls 4 [(0, .ref (b 0)), (1, .int x1), (2, .int x2'), (3, .int x3')] → W p l e { frames := 0, cells := 0, slots := 0, locals := 0 } s m args below meth c H locs 0 0 (MQ below (va_Qi post (xAt (dC, dI) (tyA cyI cyJ cyZ) (wM cyI cyJ cyZ b) A) A) args s 0 0 A) (F0 m 4 ls []) := fun M' x2' x3' H locs ls hh hP hD hS hl => ih M' x2' x3' hh.1 (Nat.lt_of_lt_of_le hh.2 (Nat.le_of_lt_succ hmu)) H locs ls hP hD hS hl
    generalize (fun M' x2' x3' => I M' x2' x3' ∧ mu M' x2' x3' < mu M x2 x3) = g4 at h k4
    refine lv_iload_n hx hb dX6_spread_4 rfl (lv_at hl 3 rfl) ?_
    refine lv_aload_n hx hb dX6_spread_5 rfl (lv_at hl 0 rfl) ?_
    refine va_get (D := (dC, dI)) (ci := 5) (v := .int (mND M)) (C := RX6) (T := TX6) (N := 27) hx hb hts hiX6 hown hK hP 0 rfl rfl 1 (by decide) hf79 (fun _ h9 => h9) rfl dX6_spread_6 ?_
    refine lv_icmp_ge (tgt := 37) hx hb dX6_spread_9 (by decide) (fun c1 => ?_) (fun c1 => ?_)
    · have h := h.1 c1
      refine lv_iload_n hx hb dX6_spread_37 rfl (lv_at hl 2 rfl) ?_
      exact xr_i (S := M) hx hb hr hlocks hK hP hD hS h (Nat.le_of_ble_eq_true rfl) (Nat.le_of_ble_eq_true rfl) dX6_spread_38
    · have h := h.2 c1
      refine lv_iload_n hx hb dX6_spread_12 rfl (lv_at hl 1 rfl) ?_
      refine lv_iload_n hx hb dX6_spread_13 rfl (lv_at hl 3 rfl) ?_
      refine lv_iushr (v := (ushr x1 x3)) hx hb dX6_spread_14 rfl ?_
      refine lv_iconst (v := 1) hx hb dX6_spread_15 (by decide) ?_
      refine lv_iand hx hb dX6_spread_16 ?_
      refine lv_iconst (v := 1) hx hb dX6_spread_17 (by decide) ?_
      refine lv_icmp_ne (tgt := 31) hx hb dX6_spread_18 (by decide) (fun c2 => ?_) (fun c2 => ?_)
      · have h := h.1 c2
        obtain ⟨y3, ey3⟩ : ∃ z : Int32, z = (x3 + (1 : Int32)) := ⟨_, rfl⟩
        have h := h y3 ey3
        refine lv_iinc (v := y3) (lv' := [(3, .int y3), (0, .ref (b 0)), (1, .int x1), (2, .int x2)]) hx hb dX6_spread_31 hl (k := 3) rfl (by rw [ey3]; rfl) (by decide) rfl (fun ls hl => ?_)
        refine lv_goto (tgt := 4) hx hb dX6_spread_34 (by decide) ?_
        exact k4 M x2 y3 H locs ls h hP hD hS (lv_sub hl [1, 2, 3, 0] rfl)
      · have h := h.2 c2
        refine lv_aload_n hx hb dX6_spread_21 rfl (lv_at hl 0 rfl) ?_
        refine va_get (D := (dC, dI)) (ci := 5) (v := .ref (b 19)) (C := RX6) (T := TX6) (N := 27) hx hb hts hiX6 hown hK hP 0 rfl rfl 25 (by decide) hf66 (fun _ h9 => h9) rfl dX6_spread_22 ?_
        refine lv_iload_n hx hb dX6_spread_25 rfl (lv_at hl 2 rfl) ?_
        refine lv_iload_n hx hb dX6_spread_26 rfl (lv_at hl 3 rfl) ?_
        obtain ⟨i4, h⟩ := h
        refine va_iast (D := (dC, dI)) hx hb hK hP hD hS 19 0 rfl rfl i4 dX6_spread_27 (fun H locs hP hD hS => ?_)
        obtain ⟨M5, eM5⟩ : ∃ z : MS, z = (mLE_s M (upd (mLE M) x2.toNatClampNeg x3)) := ⟨_, rfl⟩
        have h := h M5 eM5
        have hP := nP_mLE eM5 hP
        have hD := nD_mLE eM5 hD
        obtain ⟨y6, ey6⟩ : ∃ z : Int32, z = (x2 + (1 : Int32)) := ⟨_, rfl⟩
        have h := h y6 ey6
        refine lv_iinc (v := y6) (lv' := [(2, .int y6), (0, .ref (b 0)), (1, .int x1), (3, .int x3)]) hx hb dX6_spread_28 hl (k := 2) rfl (by rw [ey6]; rfl) (by decide) rfl (fun ls hl => ?_)
        obtain ⟨y7, ey7⟩ : ∃ z : Int32, z = (x3 + (1 : Int32)) := ⟨_, rfl⟩
        have h := h y7 ey7
        refine lv_iinc (v := y7) (lv' := [(3, .int y7), (2, .int y6), (0, .ref (b 0)), (1, .int x1)]) hx hb dX6_spread_31 hl (k := 3) rfl (by rw [ey7]; rfl) (by decide) rfl (fun ls hl => ?_)
        refine lv_goto (tgt := 4) hx hb dX6_spread_34 (by decide) ?_
        exact k4 M5 y6 y7 H locs ls h hP hD hS (lv_sub hl [2, 3, 1, 0] rfl)
def p_X6_spread (M : MS) (x1 : Int32) (post : Int32 → MS → Prop) : Prop := p_X6_spread_4 M x1 (0 : Int32) (0 : Int32) post
set_option maxHeartbeats 1000000 in
set_option maxRecDepth 100000 in
theorem t_X6_spread {l : Launch} {dC : Nat → ClassId} {dI : Nat → Nat → Nat} {cyI cyJ cyZ : ClassId} {r : Nat → Nat} {b : Nat → Nat} {M : MS} {x1 : Int32} {post : Int32 → MS → Prop} (h : p_X6_spread M x1 post) : xMi l yX6_spread wsX6_spread { frames := 0, cells := 0, slots := 0, locals := 0 } (dC, dI) (tyA cyI cyJ cyZ) r (wM cyI cyJ cyZ b) [.ref (b 0), .int x1] M post 0 0 := by
  intro sz
  refine Met.ofW (cc := cX6_spread) (maxL := 4) (ret := (some .int)) (by decide) rfl ?_
  intro p e s m args below meth c s₁ B hml hv
  obtain ⟨rfl, G, hP, hD, hS⟩ := xG.of rfl B hml hv
  generalize hAe : va_A (wM cyI cyJ cyZ b M) sz = A at G hD hS ⊢
  have G : xG p s m _ meth c cX6_spread 4 RX6 (some .int) wsX6_spread (dC, dI) (tyA cyI cyJ cyZ) r A := G
  obtain ⟨hx, hb, hml, hown, hts, hr, hlocks, hK, hE, hA⟩ := id G
  have hl := lv_entry ([.ref (b 0), .int x1]) (n := 4) (Nat.le_of_ble_eq_true rfl)
  rw [lg_entry_eq]
  generalize (lg_sl ([.ref (b 0), .int x1]) ++ List.replicate (4 - (lg_sl ([.ref (b 0), .int x1])).length) Slot.unset).toArray = ls at hl ⊢
  have hl : lv_has ls 4 [(0, .ref (b 0)), (1, .int x1)] := hl
  show W p l e { frames := 0, cells := 0, slots := 0, locals := 0 } s m _ below meth c s.heap [] 0 0 _ _
  unfold p_X6_spread at h
  refine lv_iconst (v := 0) hx hb dX6_spread_0 (by decide) ?_
  refine lv_istore_n (lv' := [(2, .int (0 : Int32)), (0, .ref (b 0)), (1, .int x1)]) hx hb dX6_spread_1 rfl hl (by decide) rfl (fun ls hl => ?_)
  refine lv_iconst (v := 0) hx hb dX6_spread_2 (by decide) ?_
  refine lv_istore_n (lv' := [(3, .int (0 : Int32)), (2, .int (0 : Int32)), (0, .ref (b 0)), (1, .int x1)]) hx hb dX6_spread_3 rfl hl (by decide) rfl (fun ls hl => ?_)
  exact t_X6_spread_4 G h hP hD hS (lv_sub hl [2, 3, 1, 0] rfl)
def p_X6_turn (M : MS) (x0 : Int32) (x1 : Int32) (post : Int32 → Prop) : Prop := (¬ (x0 &&& (1 : Int32)) = (1 : Int32) → (post x1)) ∧ ((x0 &&& (1 : Int32)) = (1 : Int32) → (post ((1 : Int32) - x1)))
set_option maxHeartbeats 1000000 in
set_option maxRecDepth 100000 in
theorem t_X6_turn {l : Launch} {dC : Nat → ClassId} {dI : Nat → Nat → Nat} {cyI cyJ cyZ : ClassId} {r : Nat → Nat} {b : Nat → Nat} {M : MS} {x0 : Int32} {x1 : Int32} {post : Int32 → Prop} (h : p_X6_turn M x0 x1 post) : xMi l yX6_turn wsX6_turn { frames := 0, cells := 0, slots := 0, locals := 0 } (dC, dI) (tyA cyI cyJ cyZ) r (wM cyI cyJ cyZ b) [.int x0, .int x1] M (fun x u => M = u ∧ post x) 0 0 := by
  intro sz
  refine Met.ofW (cc := cX6_turn) (maxL := 2) (ret := (some .int)) (by decide) rfl ?_
  intro p e s m args below meth c s₁ B hml hv
  obtain ⟨rfl, G, hP, hD, hS⟩ := xG.of rfl B hml hv
  generalize hAe : va_A (wM cyI cyJ cyZ b M) sz = A at G hD hS ⊢
  have G : xG p s m _ meth c cX6_turn 2 RX6 (some .int) wsX6_turn (dC, dI) (tyA cyI cyJ cyZ) r A := G
  obtain ⟨hx, hb, hml, hown, hts, hr, hlocks, hK, hE, hA⟩ := id G
  have hl := lv_entry ([.int x0, .int x1]) (n := 2) (Nat.le_of_ble_eq_true rfl)
  rw [lg_entry_eq]
  generalize (lg_sl ([.int x0, .int x1]) ++ List.replicate (2 - (lg_sl ([.int x0, .int x1])).length) Slot.unset).toArray = ls at hl ⊢
  have hl : lv_has ls 2 [(0, .int x0), (1, .int x1)] := hl
  show W p l e { frames := 0, cells := 0, slots := 0, locals := 0 } s m _ below meth c s.heap [] 0 0 _ _
  unfold p_X6_turn at h
  refine lv_iload_n hx hb dX6_turn_0 rfl (lv_at hl 0 rfl) ?_
  refine lv_iconst (v := 1) hx hb dX6_turn_1 (by decide) ?_
  refine lv_iand hx hb dX6_turn_2 ?_
  refine lv_iconst (v := 1) hx hb dX6_turn_3 (by decide) ?_
  refine lv_icmp_ne (tgt := 13) hx hb dX6_turn_4 (by decide) (fun c1 => ?_) (fun c1 => ?_)
  · have h := h.1 c1
    refine lv_iload_n hx hb dX6_turn_13 rfl (lv_at hl 1 rfl) ?_
    exact xr_i (S := M) hx hb hr hlocks hK hP hD hS ⟨rfl, h⟩ (Nat.le_of_ble_eq_true rfl) (Nat.le_of_ble_eq_true rfl) dX6_turn_14
  · have h := h.2 c1
    refine lv_iconst (v := 1) hx hb dX6_turn_7 (by decide) ?_
    refine lv_iload_n hx hb dX6_turn_8 rfl (lv_at hl 1 rfl) ?_
    refine lv_isub hx hb dX6_turn_9 ?_
    refine lv_goto (tgt := 14) hx hb dX6_turn_10 (by decide) ?_
    exact xr_i (S := M) hx hb hr hlocks hK hP hD hS ⟨rfl, h⟩ (Nat.le_of_ble_eq_true rfl) (Nat.le_of_ble_eq_true rfl) dX6_turn_14
def b_X6_told_81 (g3 : MS → Int32 → Prop) (x1 : Int32) (x2 : Int32) (x3 : Int32) (x4 : Int32) (post : Int32 → MS → Prop) (g81 : MS → Int32 → Prop) (M : MS) (x5 : Int32) : Prop := (x2 ≤ x5 → (∀ y19 : Int32, y19 = (x4 + (1 : Int32)) → (g3 M y19))) ∧ (¬ x2 ≤ x5 → (vp_in x5 3 ∧ ((¬ ((mLE M) x5.toNatClampNeg) = x4 → (vp_in x4 64 ∧ (vp_in x4 64 ∧ (∀ M24 : MS, M24 = (mVA_s M (upd (mVA M) x4.toNatClampNeg ((mVA M) x4.toNatClampNeg))) → (∀ y25 : Int32, y25 = (x5 + (1 : Int32)) → (g81 M24 y25)))))) ∧ (((mLE M) x5.toNatClampNeg) = x4 → (vp_in x4 64 ∧ (∀ M27 : MS, M27 = (mVA_s M (upd (mVA M) x4.toNatClampNeg ((x3 >>> (x5 &&& 31)) &&& (1 : Int32)))) → (∀ y28 : Int32, y28 = (x5 + (1 : Int32)) → (g81 M27 y28))))))))
def p_X6_told_81 (g3 : MS → Int32 → Prop) (M : MS) (x1 : Int32) (x2 : Int32) (x3 : Int32) (x4 : Int32) (x5 : Int32) (post : Int32 → MS → Prop) : Prop := ∃ (I : MS → Int32 → Prop) (mu : MS → Int32 → Nat), I M x5 ∧ ∀ (M : MS) (x5 : Int32), I M x5 → b_X6_told_81 g3 x1 x2 x3 x4 post (fun M' x5' => I M' x5' ∧ mu M' x5' < mu M x5) M x5
set_option maxHeartbeats 1000000 in
set_option maxRecDepth 100000 in
theorem t_X6_told_81 {p : Program} {l : Launch} {e : Env} {s : State} {m : MethodId} {args : Array Value} {below : List Frame} {meth : Method} {c : Code} {dC : Nat → ClassId} {dI : Nat → Nat → Nat} {cyI cyJ cyZ : ClassId} {r : Nat → Nat} {b : Nat → Nat} {A : Nat → Prop} {g3 : MS → Int32 → Prop} {M : MS} {x1 : Int32} {x2 : Int32} {x3 : Int32} {x4 : Int32} {x5 : Int32} {post : Int32 → MS → Prop} (G : xG p s m args meth c cX6_told 6 RX6 (some .int) wsX6_told (dC, dI) (tyA cyI cyJ cyZ) r A) (k3 : ∀ (M' : MS) (x4' : Int32) (H : Heap) (locs : List Loc) (ls : Array Slot), g3 M' x4' → va_P (dC, dI) vwCl (wM cyI cyJ cyZ b M') H → va_D A (wM cyI cyJ cyZ b M') → va_S A s.heap H locs → lv_has ls 6 [(0, .ref (b 0)), (1, .int x1), (2, .int x2), (3, .int x3), (4, .int x4')] → W p l e { frames := 1, cells := 0, slots := 0, locals := 21 } s m args below meth c H locs 0 0 (MQ below (va_Qi post (xAt (dC, dI) (tyA cyI cyJ cyZ) (wM cyI cyJ cyZ b) A) A) args s 0 0 A) (F0 m 3 ls [])) (h : p_X6_told_81 g3 M x1 x2 x3 x4 x5 post) {H : Heap} {locs : List Loc} {ls : Array Slot} (hP : va_P (dC, dI) vwCl (wM cyI cyJ cyZ b M) H) (hD : va_D A (wM cyI cyJ cyZ b M)) (hS : va_S A s.heap H locs) (hl : lv_has ls 6 [(0, .ref (b 0)), (1, .int x1), (2, .int x2), (3, .int x3), (4, .int x4), (5, .int x5)]) : W p l e { frames := 1, cells := 0, slots := 0, locals := 21 } s m args below meth c H locs 0 0 (MQ below (va_Qi post (xAt (dC, dI) (tyA cyI cyJ cyZ) (wM cyI cyJ cyZ b) A) A) args s 0 0 A) (F0 m 81 ls []) := by
  obtain ⟨hx, hb, hml, hown, hts, hr, hlocks, hK, hE, hA⟩ := id G
  have hiX6 : ∀ w ∈ wsX60, w ∈ wsX6_told := by decide +kernel
  have hf63 := hts (.fieldLink RX6 63 "CellMappingModel" "values" "[I") (by decide +kernel)
  have hf66 := hts (.fieldLink RX6 66 "CellMappingModel" "leaves" "[I") (by decide +kernel)
  obtain ⟨I, mu, h0, hstep⟩ := h
  suffices hgo : ∀ (n : Nat) (M : MS) (x5 : Int32), I M x5 → mu M x5 < n → ∀ (H : Heap) (locs : List Loc) (ls : Array Slot), va_P (dC, dI) vwCl (wM cyI cyJ cyZ b M) H → va_D A (wM cyI cyJ cyZ b M) → va_S A s.heap H locs → lv_has ls 6 [(0, .ref (b 0)), (1, .int x1), (2, .int x2), (3, .int x3), (4, .int x4), (5, .int x5)] → W p l e { frames := 1, cells := 0, slots := 0, locals := 21 } s m args below meth c H locs 0 0 (MQ below (va_Qi post (xAt (dC, dI) (tyA cyI cyJ cyZ) (wM cyI cyJ cyZ b) A) A) args s 0 0 A) (F0 m 81 ls []) from hgo (mu M x5 + 1) M x5 h0 (Nat.lt_succ_self _) H locs ls hP hD hS hl
  clear h0 hP hD hS hl
  intro n
  induction n with
  | zero => intro M x5 _ h; exact absurd h (Nat.not_lt_zero _)
  | succ n ih =>
    intro M x5 hI hmu H locs ls hP hD hS hl
    have h := hstep M x5 hI
    unfold b_X6_told_81 at h
    have k81 : ∀ (M' : MS) (x5' : Int32) (H : Heap) (locs : List Loc) (ls : Array Slot), (fun M' x5' => I M' x5' ∧ mu M' x5' < mu M x5) M' x5' → va_P (dC, dI) vwCl (wM cyI cyJ cyZ b M') H → va_D A (wM cyI cyJ cyZ b M') → va_S A s.heap H locs → lv_has ls 6 [(0, .ref (b 0)), (1, .int x1), (2, .int x2), (3, .int x3), (4, .int x4), (5, .int x5')] → W p l e { frames := 1, cells := 0, slots := 0, locals := 21 } s m args below meth c H locs 0 0 (MQ below (va_Qi post (xAt (dC, dI) (tyA cyI cyJ cyZ) (wM cyI cyJ cyZ b) A) A) args s 0 0 A) (F0 m 81 ls []) := fun M' x5' H locs ls hh hP hD hS hl => ih M' x5' hh.1 (Nat.lt_of_lt_of_le hh.2 (Nat.le_of_lt_succ hmu)) H locs ls hP hD hS hl
    generalize (fun M' x5' => I M' x5' ∧ mu M' x5' < mu M x5) = g81 at h k81
    refine lv_iload hx hb dX6_told_81 (lv_at hl 5 rfl) ?_
    refine lv_iload_n hx hb dX6_told_83 rfl (lv_at hl 2 rfl) ?_
    refine lv_icmp_ge (tgt := 128) hx hb dX6_told_84 (by decide) (fun c18 => ?_) (fun c18 => ?_)
    · have h := h.1 c18
      obtain ⟨y19, ey19⟩ : ∃ z : Int32, z = (x4 + (1 : Int32)) := ⟨_, rfl⟩
      have h := h y19 ey19
      refine lv_iinc (v := y19) (lv' := [(4, .int y19), (0, .ref (b 0)), (1, .int x1), (2, .int x2), (3, .int x3), (5, .int x5)]) hx hb dX6_told_128 hl (k := 4) rfl (by rw [ey19]; rfl) (by decide) rfl (fun ls hl => ?_)
      refine lv_goto (tgt := 3) hx hb dX6_told_131 (by decide) ?_
      exact k3 M y19 H locs ls h hP hD hS (lv_sub hl [1, 2, 3, 4, 0] rfl)
    · have h := h.2 c18
      refine lv_aload_n hx hb dX6_told_87 rfl (lv_at hl 0 rfl) ?_
      refine va_get (D := (dC, dI)) (ci := 5) (v := .ref (b 18)) (C := RX6) (T := TX6) (N := 27) hx hb hts hiX6 hown hK hP 0 rfl rfl 24 (by decide) hf63 (fun _ h9 => h9) rfl dX6_told_88 ?_
      refine lv_iload hx hb dX6_told_91 (lv_at hl 4 rfl) ?_
      refine lv_aload_n hx hb dX6_told_93 rfl (lv_at hl 0 rfl) ?_
      refine va_get (D := (dC, dI)) (ci := 5) (v := .ref (b 19)) (C := RX6) (T := TX6) (N := 27) hx hb hts hiX6 hown hK hP 0 rfl rfl 25 (by decide) hf66 (fun _ h9 => h9) rfl dX6_told_94 ?_
      refine lv_iload hx hb dX6_told_97 (lv_at hl 5 rfl) ?_
      obtain ⟨i20, h⟩ := h
      refine va_iald (D := (dC, dI)) hx hb hK hP 19 0 rfl rfl i20 dX6_told_99 ?_
      refine lv_iload hx hb dX6_told_100 (lv_at hl 4 rfl) ?_
      refine lv_icmp_ne (tgt := 114) hx hb dX6_told_102 (by decide) (fun c21 => ?_) (fun c21 => ?_)
      · have h := h.1 c21
        refine lv_aload_n hx hb dX6_told_114 rfl (lv_at hl 0 rfl) ?_
        refine va_get (D := (dC, dI)) (ci := 5) (v := .ref (b 18)) (C := RX6) (T := TX6) (N := 27) hx hb hts hiX6 hown hK hP 0 rfl rfl 24 (by decide) hf63 (fun _ h9 => h9) rfl dX6_told_115 ?_
        refine lv_iload hx hb dX6_told_118 (lv_at hl 4 rfl) ?_
        obtain ⟨i22, h⟩ := h
        refine va_iald (D := (dC, dI)) hx hb hK hP 18 0 rfl rfl i22 dX6_told_120 ?_
        obtain ⟨i23, h⟩ := h
        refine va_iast (D := (dC, dI)) hx hb hK hP hD hS 18 0 rfl rfl i23 dX6_told_121 (fun H locs hP hD hS => ?_)
        obtain ⟨M24, eM24⟩ : ∃ z : MS, z = (mVA_s M (upd (mVA M) x4.toNatClampNeg ((mVA M) x4.toNatClampNeg))) := ⟨_, rfl⟩
        have h := h M24 eM24
        have hP := nP_mVA eM24 hP
        have hD := nD_mVA eM24 hD
        obtain ⟨y25, ey25⟩ : ∃ z : Int32, z = (x5 + (1 : Int32)) := ⟨_, rfl⟩
        have h := h y25 ey25
        refine lv_iinc (v := y25) (lv' := [(5, .int y25), (0, .ref (b 0)), (1, .int x1), (2, .int x2), (3, .int x3), (4, .int x4)]) hx hb dX6_told_122 hl (k := 5) rfl (by rw [ey25]; rfl) (by decide) rfl (fun ls hl => ?_)
        refine lv_goto (tgt := 81) hx hb dX6_told_125 (by decide) ?_
        exact k81 M24 y25 H locs ls h hP hD hS (lv_sub hl [1, 2, 3, 4, 5, 0] rfl)
      · have h := h.2 c21
        refine lv_iload_n hx hb dX6_told_105 rfl (lv_at hl 3 rfl) ?_
        refine lv_iload hx hb dX6_told_106 (lv_at hl 5 rfl) ?_
        refine lv_ishr hx hb dX6_told_108 ?_
        refine lv_iconst (v := 1) hx hb dX6_told_109 (by decide) ?_
        refine lv_iand hx hb dX6_told_110 ?_
        refine lv_goto (tgt := 121) hx hb dX6_told_111 (by decide) ?_
        obtain ⟨i26, h⟩ := h
        refine va_iast (D := (dC, dI)) hx hb hK hP hD hS 18 0 rfl rfl i26 dX6_told_121 (fun H locs hP hD hS => ?_)
        obtain ⟨M27, eM27⟩ : ∃ z : MS, z = (mVA_s M (upd (mVA M) x4.toNatClampNeg ((x3 >>> (x5 &&& 31)) &&& (1 : Int32)))) := ⟨_, rfl⟩
        have h := h M27 eM27
        have hP := nP_mVA eM27 hP
        have hD := nD_mVA eM27 hD
        obtain ⟨y28, ey28⟩ : ∃ z : Int32, z = (x5 + (1 : Int32)) := ⟨_, rfl⟩
        have h := h y28 ey28
        refine lv_iinc (v := y28) (lv' := [(5, .int y28), (0, .ref (b 0)), (1, .int x1), (2, .int x2), (3, .int x3), (4, .int x4)]) hx hb dX6_told_122 hl (k := 5) rfl (by rw [ey28]; rfl) (by decide) rfl (fun ls hl => ?_)
        refine lv_goto (tgt := 81) hx hb dX6_told_125 (by decide) ?_
        exact k81 M27 y28 H locs ls h hP hD hS (lv_sub hl [1, 2, 3, 4, 5, 0] rfl)
def b_X6_told_3 (x1 : Int32) (x2 : Int32) (x3 : Int32) (post : Int32 → MS → Prop) (g3 : MS → Int32 → Prop) (M : MS) (x4 : Int32) : Prop := (x1 < x4 → (vp_in x1 64 ∧ (post ((mVA M) x1.toNatClampNeg) M))) ∧ (¬ x1 < x4 → (p_X6_isInput M x4 (fun r3 => (r3 = 0 → (vp_in x4 32 ∧ (vp_in x4 32 ∧ (vp_in (((mON M) x4.toNatClampNeg) / (2 : Int32)) 64 ∧ (p_X6_turn M ((mON M) x4.toNatClampNeg) ((mVA M) (((mON M) x4.toNatClampNeg) / (2 : Int32)).toNatClampNeg) (fun r9 => vp_in x4 32 ∧ (vp_in x4 32 ∧ (vp_in (((mTW M) x4.toNatClampNeg) / (2 : Int32)) 64 ∧ (p_X6_turn M ((mTW M) x4.toNatClampNeg) ((mVA M) (((mTW M) x4.toNatClampNeg) / (2 : Int32)).toNatClampNeg) (fun r14 => vp_in x4 64 ∧ (∀ M17 : MS, M17 = (mVA_s M (upd (mVA M) x4.toNatClampNeg (r9 &&& r14))) → (p_X6_told_81 g3 M17 x1 x2 x3 x4 (0 : Int32) post)))))))))))) ∧ (¬ r3 = 0 → (vp_in x4 64 ∧ (∀ M30 : MS, M30 = (mVA_s M (upd (mVA M) x4.toNatClampNeg (0 : Int32))) → (p_X6_told_81 g3 M30 x1 x2 x3 x4 (0 : Int32) post)))))))
def p_X6_told_3 (M : MS) (x1 : Int32) (x2 : Int32) (x3 : Int32) (x4 : Int32) (post : Int32 → MS → Prop) : Prop := ∃ (I : MS → Int32 → Prop) (mu : MS → Int32 → Nat), I M x4 ∧ ∀ (M : MS) (x4 : Int32), I M x4 → b_X6_told_3 x1 x2 x3 post (fun M' x4' => I M' x4' ∧ mu M' x4' < mu M x4) M x4
set_option maxHeartbeats 1000000 in
set_option maxRecDepth 100000 in
theorem t_X6_told_3 {p : Program} {l : Launch} {e : Env} {s : State} {m : MethodId} {args : Array Value} {below : List Frame} {meth : Method} {c : Code} {dC : Nat → ClassId} {dI : Nat → Nat → Nat} {cyI cyJ cyZ : ClassId} {r : Nat → Nat} {b : Nat → Nat} {A : Nat → Prop} {M : MS} {x1 : Int32} {x2 : Int32} {x3 : Int32} {x4 : Int32} {post : Int32 → MS → Prop} (G : xG p s m args meth c cX6_told 6 RX6 (some .int) wsX6_told (dC, dI) (tyA cyI cyJ cyZ) r A) (h : p_X6_told_3 M x1 x2 x3 x4 post) {H : Heap} {locs : List Loc} {ls : Array Slot} (hP : va_P (dC, dI) vwCl (wM cyI cyJ cyZ b M) H) (hD : va_D A (wM cyI cyJ cyZ b M)) (hS : va_S A s.heap H locs) (hl : lv_has ls 6 [(0, .ref (b 0)), (1, .int x1), (2, .int x2), (3, .int x3), (4, .int x4)]) : W p l e { frames := 1, cells := 0, slots := 0, locals := 21 } s m args below meth c H locs 0 0 (MQ below (va_Qi post (xAt (dC, dI) (tyA cyI cyJ cyZ) (wM cyI cyJ cyZ b) A) A) args s 0 0 A) (F0 m 3 ls []) := by
  obtain ⟨hx, hb, hml, hown, hts, hr, hlocks, hK, hE, hA⟩ := id G
  have hiX6 : ∀ w ∈ wsX60, w ∈ wsX6_told := by decide +kernel
  have hf63 := hts (.fieldLink RX6 63 "CellMappingModel" "values" "[I") (by decide +kernel)
  have hf7 := hts (.fieldLink RX6 7 "CellMappingModel" "ones" "[I") (by decide +kernel)
  have hf13 := hts (.fieldLink RX6 13 "CellMappingModel" "twos" "[I") (by decide +kernel)
  obtain ⟨I, mu, h0, hstep⟩ := h
  suffices hgo : ∀ (n : Nat) (M : MS) (x4 : Int32), I M x4 → mu M x4 < n → ∀ (H : Heap) (locs : List Loc) (ls : Array Slot), va_P (dC, dI) vwCl (wM cyI cyJ cyZ b M) H → va_D A (wM cyI cyJ cyZ b M) → va_S A s.heap H locs → lv_has ls 6 [(0, .ref (b 0)), (1, .int x1), (2, .int x2), (3, .int x3), (4, .int x4)] → W p l e { frames := 1, cells := 0, slots := 0, locals := 21 } s m args below meth c H locs 0 0 (MQ below (va_Qi post (xAt (dC, dI) (tyA cyI cyJ cyZ) (wM cyI cyJ cyZ b) A) A) args s 0 0 A) (F0 m 3 ls []) from hgo (mu M x4 + 1) M x4 h0 (Nat.lt_succ_self _) H locs ls hP hD hS hl
  clear h0 hP hD hS hl
  intro n
  induction n with
  | zero => intro M x4 _ h; exact absurd h (Nat.not_lt_zero _)
  | succ n ih =>
    intro M x4 hI hmu H locs ls hP hD hS hl
    have h := hstep M x4 hI
    unfold b_X6_told_3 at h
    have k3 : ∀ (M' : MS) (x4' : Int32) (H : Heap) (locs : List Loc) (ls : Array Slot), (fun M' x4' => I M' x4' ∧ mu M' x4' < mu M x4) M' x4' → va_P (dC, dI) vwCl (wM cyI cyJ cyZ b M') H → va_D A (wM cyI cyJ cyZ b M') → va_S A s.heap H locs → lv_has ls 6 [(0, .ref (b 0)), (1, .int x1), (2, .int x2), (3, .int x3), (4, .int x4')] → W p l e { frames := 1, cells := 0, slots := 0, locals := 21 } s m args below meth c H locs 0 0 (MQ below (va_Qi post (xAt (dC, dI) (tyA cyI cyJ cyZ) (wM cyI cyJ cyZ b) A) A) args s 0 0 A) (F0 m 3 ls []) := fun M' x4' H locs ls hh hP hD hS hl => ih M' x4' hh.1 (Nat.lt_of_lt_of_le hh.2 (Nat.le_of_lt_succ hmu)) H locs ls hP hD hS hl
    generalize (fun M' x4' => I M' x4' ∧ mu M' x4' < mu M x4) = g3 at h k3
    refine lv_iload hx hb dX6_told_3 (lv_at hl 4 rfl) ?_
    refine lv_iload_n hx hb dX6_told_5 rfl (lv_at hl 1 rfl) ?_
    refine lv_icmp_gt (tgt := 134) hx hb dX6_told_6 (by decide) (fun c1 => ?_) (fun c1 => ?_)
    · have h := h.1 c1
      refine lv_aload_n hx hb dX6_told_134 rfl (lv_at hl 0 rfl) ?_
      refine va_get (D := (dC, dI)) (ci := 5) (v := .ref (b 18)) (C := RX6) (T := TX6) (N := 27) hx hb hts hiX6 hown hK hP 0 rfl rfl 24 (by decide) hf63 (fun _ h9 => h9) rfl dX6_told_135 ?_
      refine lv_iload_n hx hb dX6_told_138 rfl (lv_at hl 1 rfl) ?_
      obtain ⟨i2, h⟩ := h
      refine va_iald (D := (dC, dI)) hx hb hK hP 18 0 rfl rfl i2 dX6_told_139 ?_
      exact xr_i (S := M) hx hb hr hlocks hK hP hD hS h (Nat.le_of_ble_eq_true rfl) (Nat.le_of_ble_eq_true rfl) dX6_told_140
    · have h := h.2 c1
      refine lv_aload_n hx hb dX6_told_9 rfl (lv_at hl 0 rfl) ?_
      refine va_get (D := (dC, dI)) (ci := 5) (v := .ref (b 18)) (C := RX6) (T := TX6) (N := 27) hx hb hts hiX6 hown hK hP 0 rfl rfl 24 (by decide) hf63 (fun _ h9 => h9) rfl dX6_told_10 ?_
      refine lv_iload hx hb dX6_told_13 (lv_at hl 4 rfl) ?_
      refine lv_aload_n hx hb dX6_told_15 rfl (lv_at hl 0 rfl) ?_
      refine lv_iload hx hb dX6_told_16 (lv_at hl 4 rfl) ?_
      refine xc_Vi (wf := wM cyI cyJ cyZ b) (wr := []) (isC := [0, 1, 2, 3, 4, 5, 6, 7, 8, 9, 10, 11, 12, 13, 14, 15, 16, 17, 18, 19, 20]) (isR := []) (As := [.int x4]) (rest := [.int x4, .ref (b 18)]) ⟨hx, hb, hml, hown, hts⟩ (t_X6_isInput h) (cwV 1 hts gX6_told_X6_isInput rfl rfl rfl (by decide +kernel) ⟨Nat.le_of_ble_eq_true rfl, Nat.le_of_ble_eq_true rfl⟩) ⟨hK, hE, hA, hP, hD, hS, rfl, rfl, rfl, rfl, by decide⟩ ⟨0, 5, _, _, rfl, rfl, rfl⟩ rfl rfl hl.1 (Nat.le_of_ble_eq_true rfl) dX6_told_18 ⟨Nat.le_of_ble_eq_true rfl, Nat.le_of_ble_eq_true rfl⟩ (fun r3 S4 H locs h hP hD hS => ?_)
      obtain ⟨rfl, h⟩ := h
      have hP : va_P (dC, dI) vwCl (wM cyI cyJ cyZ b M) H := hP
      have hD : va_D A (wM cyI cyJ cyZ b M) := hD
      refine lv_if_eq (tgt := 28) hx hb dX6_told_21 (by decide) (fun c5 => ?_) (fun c5 => ?_)
      · have h := h.1 c5
        refine lv_aload_n hx hb dX6_told_28 rfl (lv_at hl 0 rfl) ?_
        refine va_get (D := (dC, dI)) (ci := 5) (v := .ref (b 1)) (C := RX6) (T := TX6) (N := 27) hx hb hts hiX6 hown hK hP 0 rfl rfl 4 (by decide) hf7 (fun _ h9 => h9) rfl dX6_told_29 ?_
        refine lv_iload hx hb dX6_told_32 (lv_at hl 4 rfl) ?_
        obtain ⟨i6, h⟩ := h
        refine va_iald (D := (dC, dI)) hx hb hK hP 1 0 rfl rfl i6 dX6_told_34 ?_
        refine lv_aload_n hx hb dX6_told_35 rfl (lv_at hl 0 rfl) ?_
        refine va_get (D := (dC, dI)) (ci := 5) (v := .ref (b 18)) (C := RX6) (T := TX6) (N := 27) hx hb hts hiX6 hown hK hP 0 rfl rfl 24 (by decide) hf63 (fun _ h9 => h9) rfl dX6_told_36 ?_
        refine lv_aload_n hx hb dX6_told_39 rfl (lv_at hl 0 rfl) ?_
        refine va_get (D := (dC, dI)) (ci := 5) (v := .ref (b 1)) (C := RX6) (T := TX6) (N := 27) hx hb hts hiX6 hown hK hP 0 rfl rfl 4 (by decide) hf7 (fun _ h9 => h9) rfl dX6_told_40 ?_
        refine lv_iload hx hb dX6_told_43 (lv_at hl 4 rfl) ?_
        obtain ⟨i7, h⟩ := h
        refine va_iald (D := (dC, dI)) hx hb hK hP 1 0 rfl rfl i7 dX6_told_45 ?_
        refine lv_iconst (v := 2) hx hb dX6_told_46 (by decide) ?_
        refine lv_idiv hx hb dX6_told_47 (by decide) ?_
        obtain ⟨i8, h⟩ := h
        refine va_iald (D := (dC, dI)) hx hb hK hP 18 0 rfl rfl i8 dX6_told_48 ?_
        refine xc_Si (wf := wM cyI cyJ cyZ b) (wr := []) (isC := [0, 1, 2, 3, 4, 5, 6, 7, 8, 9, 10, 11, 12, 13, 14, 15, 16, 17, 18, 19, 20]) (isR := []) (As := [.int ((mON M) x4.toNatClampNeg), .int ((mVA M) (((mON M) x4.toNatClampNeg) / (2 : Int32)).toNatClampNeg)]) (rest := [.int x4, .ref (b 18)]) ⟨hx, hb, hml, hown, hts⟩ (t_X6_turn h) (va_cwS 2 hts gX6_told_X6_turn rfl rfl rfl (by decide +kernel) ⟨Nat.le_of_ble_eq_true rfl, Nat.le_of_ble_eq_true rfl⟩) ⟨hK, hE, hA, hP, hD, hS, rfl, rfl, rfl, rfl, by decide⟩ rfl rfl hl.1 (Nat.le_of_ble_eq_true rfl) dX6_told_49 ⟨Nat.le_of_ble_eq_true rfl, Nat.le_of_ble_eq_true rfl⟩ (fun r9 S10 H locs h hP hD hS => ?_)
        obtain ⟨rfl, h⟩ := h
        have hP : va_P (dC, dI) vwCl (wM cyI cyJ cyZ b M) H := hP
        have hD : va_D A (wM cyI cyJ cyZ b M) := hD
        refine lv_aload_n hx hb dX6_told_52 rfl (lv_at hl 0 rfl) ?_
        refine va_get (D := (dC, dI)) (ci := 5) (v := .ref (b 2)) (C := RX6) (T := TX6) (N := 27) hx hb hts hiX6 hown hK hP 0 rfl rfl 5 (by decide) hf13 (fun _ h9 => h9) rfl dX6_told_53 ?_
        refine lv_iload hx hb dX6_told_56 (lv_at hl 4 rfl) ?_
        obtain ⟨i11, h⟩ := h
        refine va_iald (D := (dC, dI)) hx hb hK hP 2 0 rfl rfl i11 dX6_told_58 ?_
        refine lv_aload_n hx hb dX6_told_59 rfl (lv_at hl 0 rfl) ?_
        refine va_get (D := (dC, dI)) (ci := 5) (v := .ref (b 18)) (C := RX6) (T := TX6) (N := 27) hx hb hts hiX6 hown hK hP 0 rfl rfl 24 (by decide) hf63 (fun _ h9 => h9) rfl dX6_told_60 ?_
        refine lv_aload_n hx hb dX6_told_63 rfl (lv_at hl 0 rfl) ?_
        refine va_get (D := (dC, dI)) (ci := 5) (v := .ref (b 2)) (C := RX6) (T := TX6) (N := 27) hx hb hts hiX6 hown hK hP 0 rfl rfl 5 (by decide) hf13 (fun _ h9 => h9) rfl dX6_told_64 ?_
        refine lv_iload hx hb dX6_told_67 (lv_at hl 4 rfl) ?_
        obtain ⟨i12, h⟩ := h
        refine va_iald (D := (dC, dI)) hx hb hK hP 2 0 rfl rfl i12 dX6_told_69 ?_
        refine lv_iconst (v := 2) hx hb dX6_told_70 (by decide) ?_
        refine lv_idiv hx hb dX6_told_71 (by decide) ?_
        obtain ⟨i13, h⟩ := h
        refine va_iald (D := (dC, dI)) hx hb hK hP 18 0 rfl rfl i13 dX6_told_72 ?_
        refine xc_Si (wf := wM cyI cyJ cyZ b) (wr := []) (isC := [0, 1, 2, 3, 4, 5, 6, 7, 8, 9, 10, 11, 12, 13, 14, 15, 16, 17, 18, 19, 20]) (isR := []) (As := [.int ((mTW M) x4.toNatClampNeg), .int ((mVA M) (((mTW M) x4.toNatClampNeg) / (2 : Int32)).toNatClampNeg)]) (rest := [.int r9, .int x4, .ref (b 18)]) ⟨hx, hb, hml, hown, hts⟩ (t_X6_turn h) (va_cwS 2 hts gX6_told_X6_turn rfl rfl rfl (by decide +kernel) ⟨Nat.le_of_ble_eq_true rfl, Nat.le_of_ble_eq_true rfl⟩) ⟨hK, hE, hA, hP, hD, hS, rfl, rfl, rfl, rfl, by decide⟩ rfl rfl hl.1 (Nat.le_of_ble_eq_true rfl) dX6_told_73 ⟨Nat.le_of_ble_eq_true rfl, Nat.le_of_ble_eq_true rfl⟩ (fun r14 S15 H locs h hP hD hS => ?_)
        obtain ⟨rfl, h⟩ := h
        have hP : va_P (dC, dI) vwCl (wM cyI cyJ cyZ b M) H := hP
        have hD : va_D A (wM cyI cyJ cyZ b M) := hD
        refine lv_iand hx hb dX6_told_76 ?_
        obtain ⟨i16, h⟩ := h
        refine va_iast (D := (dC, dI)) hx hb hK hP hD hS 18 0 rfl rfl i16 dX6_told_77 (fun H locs hP hD hS => ?_)
        obtain ⟨M17, eM17⟩ : ∃ z : MS, z = (mVA_s M (upd (mVA M) x4.toNatClampNeg (r9 &&& r14))) := ⟨_, rfl⟩
        have h := h M17 eM17
        have hP := nP_mVA eM17 hP
        have hD := nD_mVA eM17 hD
        refine lv_iconst (v := 0) hx hb dX6_told_78 (by decide) ?_
        refine lv_istore (lv' := [(5, .int (0 : Int32)), (0, .ref (b 0)), (1, .int x1), (2, .int x2), (3, .int x3), (4, .int x4)]) hx hb dX6_told_79 hl (by decide) rfl (fun ls hl => ?_)
        exact t_X6_told_81 G k3 h hP hD hS (lv_sub hl [1, 2, 3, 4, 5, 0] rfl)
      · have h := h.2 c5
        refine lv_iconst (v := 0) hx hb dX6_told_24 (by decide) ?_
        refine lv_goto (tgt := 77) hx hb dX6_told_25 (by decide) ?_
        obtain ⟨i29, h⟩ := h
        refine va_iast (D := (dC, dI)) hx hb hK hP hD hS 18 0 rfl rfl i29 dX6_told_77 (fun H locs hP hD hS => ?_)
        obtain ⟨M30, eM30⟩ : ∃ z : MS, z = (mVA_s M (upd (mVA M) x4.toNatClampNeg (0 : Int32))) := ⟨_, rfl⟩
        have h := h M30 eM30
        have hP := nP_mVA eM30 hP
        have hD := nD_mVA eM30 hD
        refine lv_iconst (v := 0) hx hb dX6_told_78 (by decide) ?_
        refine lv_istore (lv' := [(5, .int (0 : Int32)), (0, .ref (b 0)), (1, .int x1), (2, .int x2), (3, .int x3), (4, .int x4)]) hx hb dX6_told_79 hl (by decide) rfl (fun ls hl => ?_)
        exact t_X6_told_81 G k3 h hP hD hS (lv_sub hl [1, 2, 3, 4, 5, 0] rfl)
def p_X6_told (M : MS) (x1 : Int32) (x2 : Int32) (x3 : Int32) (post : Int32 → MS → Prop) : Prop := p_X6_told_3 M x1 x2 x3 (0 : Int32) post
set_option maxHeartbeats 1000000 in
set_option maxRecDepth 100000 in
theorem t_X6_told {l : Launch} {dC : Nat → ClassId} {dI : Nat → Nat → Nat} {cyI cyJ cyZ : ClassId} {r : Nat → Nat} {b : Nat → Nat} {M : MS} {x1 : Int32} {x2 : Int32} {x3 : Int32} {post : Int32 → MS → Prop} (h : p_X6_told M x1 x2 x3 post) : xMi l yX6_told wsX6_told { frames := 1, cells := 0, slots := 0, locals := 21 } (dC, dI) (tyA cyI cyJ cyZ) r (wM cyI cyJ cyZ b) [.ref (b 0), .int x1, .int x2, .int x3] M post 0 0 := by
  intro sz
  refine Met.ofW (cc := cX6_told) (maxL := 6) (ret := (some .int)) (by decide) rfl ?_
  intro p e s m args below meth c s₁ B hml hv
  obtain ⟨rfl, G, hP, hD, hS⟩ := xG.of rfl B hml hv
  generalize hAe : va_A (wM cyI cyJ cyZ b M) sz = A at G hD hS ⊢
  have G : xG p s m _ meth c cX6_told 6 RX6 (some .int) wsX6_told (dC, dI) (tyA cyI cyJ cyZ) r A := G
  obtain ⟨hx, hb, hml, hown, hts, hr, hlocks, hK, hE, hA⟩ := id G
  have hl := lv_entry ([.ref (b 0), .int x1, .int x2, .int x3]) (n := 6) (Nat.le_of_ble_eq_true rfl)
  rw [lg_entry_eq]
  generalize (lg_sl ([.ref (b 0), .int x1, .int x2, .int x3]) ++ List.replicate (6 - (lg_sl ([.ref (b 0), .int x1, .int x2, .int x3])).length) Slot.unset).toArray = ls at hl ⊢
  have hl : lv_has ls 6 [(0, .ref (b 0)), (1, .int x1), (2, .int x2), (3, .int x3)] := hl
  show W p l e { frames := 1, cells := 0, slots := 0, locals := 21 } s m _ below meth c s.heap [] 0 0 _ _
  unfold p_X6_told at h
  refine lv_iconst (v := 0) hx hb dX6_told_0 (by decide) ?_
  refine lv_istore (lv' := [(4, .int (0 : Int32)), (0, .ref (b 0)), (1, .int x1), (2, .int x2), (3, .int x3)]) hx hb dX6_told_1 hl (by decide) rfl (fun ls hl => ?_)
  exact t_X6_told_3 G h hP hD hS (lv_sub hl [1, 2, 3, 4, 0] rfl)
def b_X6_functionOf_12 (x1 : Int32) (x3 : Int32) (post : Int32 → MS → Prop) (g12 : MS → Int32 → Int32 → Prop) (M : MS) (x4 : Int32) (x5 : Int32) : Prop := (((1 : Int32) <<< (x3 &&& 31)) ≤ x5 → (post x4 M)) ∧ (¬ ((1 : Int32) <<< (x3 &&& 31)) ≤ x5 → (p_X6_told M x1 x3 x5 (fun r4 S5 => ∀ y6 : Int32, y6 = (x4 ||| (r4 <<< (x5 &&& 31))) → (∀ y7 : Int32, y7 = (x5 + (1 : Int32)) → (g12 S5 y6 y7)))))
def p_X6_functionOf_12 (M : MS) (x1 : Int32) (x3 : Int32) (x4 : Int32) (x5 : Int32) (post : Int32 → MS → Prop) : Prop := ∃ (I : MS → Int32 → Int32 → Prop) (mu : MS → Int32 → Int32 → Nat), I M x4 x5 ∧ ∀ (M : MS) (x4 : Int32) (x5 : Int32), I M x4 x5 → b_X6_functionOf_12 x1 x3 post (fun M' x4' x5' => I M' x4' x5' ∧ mu M' x4' x5' < mu M x4 x5) M x4 x5
set_option maxHeartbeats 1000000 in
set_option maxRecDepth 100000 in
theorem t_X6_functionOf_12 {p : Program} {l : Launch} {e : Env} {s : State} {m : MethodId} {args : Array Value} {below : List Frame} {meth : Method} {c : Code} {dC : Nat → ClassId} {dI : Nat → Nat → Nat} {cyI cyJ cyZ : ClassId} {r : Nat → Nat} {b : Nat → Nat} {A : Nat → Prop} {M : MS} {x1 : Int32} {x3 : Int32} {x4 : Int32} {x5 : Int32} {post : Int32 → MS → Prop} (G : xG p s m args meth c cX6_functionOf 6 RX6 (some .int) wsX6_functionOf (dC, dI) (tyA cyI cyJ cyZ) r A) (h : p_X6_functionOf_12 M x1 x3 x4 x5 post) {H : Heap} {locs : List Loc} {ls : Array Slot} (hP : va_P (dC, dI) vwCl (wM cyI cyJ cyZ b M) H) (hD : va_D A (wM cyI cyJ cyZ b M)) (hS : va_S A s.heap H locs) (hl : lv_has ls 6 [(0, .ref (b 0)), (1, .int x1), (3, .int x3), (4, .int x4), (5, .int x5)]) : W p l e { frames := 2, cells := 0, slots := 0, locals := 46 } s m args below meth c H locs 0 0 (MQ below (va_Qi post (xAt (dC, dI) (tyA cyI cyJ cyZ) (wM cyI cyJ cyZ b) A) A) args s 0 0 A) (F0 m 12 ls []) := by
  obtain ⟨hx, hb, hml, hown, hts, hr, hlocks, hK, hE, hA⟩ := id G
  obtain ⟨I, mu, h0, hstep⟩ := h
  suffices hgo : ∀ (n : Nat) (M : MS) (x4 : Int32) (x5 : Int32), I M x4 x5 → mu M x4 x5 < n → ∀ (H : Heap) (locs : List Loc) (ls : Array Slot), va_P (dC, dI) vwCl (wM cyI cyJ cyZ b M) H → va_D A (wM cyI cyJ cyZ b M) → va_S A s.heap H locs → lv_has ls 6 [(0, .ref (b 0)), (1, .int x1), (3, .int x3), (4, .int x4), (5, .int x5)] → W p l e { frames := 2, cells := 0, slots := 0, locals := 46 } s m args below meth c H locs 0 0 (MQ below (va_Qi post (xAt (dC, dI) (tyA cyI cyJ cyZ) (wM cyI cyJ cyZ b) A) A) args s 0 0 A) (F0 m 12 ls []) from hgo (mu M x4 x5 + 1) M x4 x5 h0 (Nat.lt_succ_self _) H locs ls hP hD hS hl
  clear h0 hP hD hS hl
  intro n
  induction n with
  | zero => intro M x4 x5 _ h; exact absurd h (Nat.not_lt_zero _)
  | succ n ih =>
    intro M x4 x5 hI hmu H locs ls hP hD hS hl
    have h := hstep M x4 x5 hI
    unfold b_X6_functionOf_12 at h
    have k12 : ∀ (M' : MS) (x4' : Int32) (x5' : Int32) (H : Heap) (locs : List Loc) (ls : Array Slot), (fun M' x4' x5' => I M' x4' x5' ∧ mu M' x4' x5' < mu M x4 x5) M' x4' x5' → va_P (dC, dI) vwCl (wM cyI cyJ cyZ b M') H → va_D A (wM cyI cyJ cyZ b M') → va_S A s.heap H locs → lv_has ls 6 [(0, .ref (b 0)), (1, .int x1), (3, .int x3), (4, .int x4'), (5, .int x5')] → W p l e { frames := 2, cells := 0, slots := 0, locals := 46 } s m args below meth c H locs 0 0 (MQ below (va_Qi post (xAt (dC, dI) (tyA cyI cyJ cyZ) (wM cyI cyJ cyZ b) A) A) args s 0 0 A) (F0 m 12 ls []) := fun M' x4' x5' H locs ls hh hP hD hS hl => ih M' x4' x5' hh.1 (Nat.lt_of_lt_of_le hh.2 (Nat.le_of_lt_succ hmu)) H locs ls hP hD hS hl
    generalize (fun M' x4' x5' => I M' x4' x5' ∧ mu M' x4' x5' < mu M x4 x5) = g12 at h k12
    refine lv_iload hx hb dX6_functionOf_12 (lv_at hl 4 rfl) ?_
    refine lv_iconst (v := 1) hx hb dX6_functionOf_14 (by decide) ?_
    refine lv_iload_n hx hb dX6_functionOf_15 rfl (lv_at hl 2 rfl) ?_
    refine lv_ishl hx hb dX6_functionOf_16 ?_
    refine lv_icmp_ge (tgt := 42) hx hb dX6_functionOf_17 (by decide) (fun c3 => ?_) (fun c3 => ?_)
    · have h := h.1 c3
      refine lv_iload hx hb dX6_functionOf_42 (lv_at hl 3 rfl) ?_
      exact xr_i (S := M) hx hb hr hlocks hK hP hD hS h (Nat.le_of_ble_eq_true rfl) (Nat.le_of_ble_eq_true rfl) dX6_functionOf_44
    · have h := h.2 c3
      refine lv_iload hx hb dX6_functionOf_20 (lv_at hl 3 rfl) ?_
      refine lv_aload_n hx hb dX6_functionOf_22 rfl (lv_at hl 0 rfl) ?_
      refine lv_iload_n hx hb dX6_functionOf_23 rfl (lv_at hl 1 rfl) ?_
      refine lv_iload_n hx hb dX6_functionOf_24 rfl (lv_at hl 2 rfl) ?_
      refine lv_iload hx hb dX6_functionOf_25 (lv_at hl 4 rfl) ?_
      refine xc_Vi (wf := wM cyI cyJ cyZ b) (wr := []) (isC := [0, 1, 2, 3, 4, 5, 6, 7, 8, 9, 10, 11, 12, 13, 14, 15, 16, 17, 18, 19, 20]) (isR := []) (As := [.int x1, .int x3, .int x5]) (rest := [.int x4]) ⟨hx, hb, hml, hown, hts⟩ (t_X6_told h) (cwV 3 hts gX6_functionOf_X6_told rfl rfl rfl (by decide +kernel) ⟨Nat.le_of_ble_eq_true rfl, Nat.le_of_ble_eq_true rfl⟩) ⟨hK, hE, hA, hP, hD, hS, rfl, rfl, rfl, rfl, by decide⟩ ⟨0, 5, _, _, rfl, rfl, rfl⟩ rfl rfl hl.1 (Nat.le_of_ble_eq_true rfl) dX6_functionOf_27 ⟨Nat.le_of_ble_eq_true rfl, Nat.le_of_ble_eq_true rfl⟩ (fun r4 S5 H locs h hP hD hS => ?_)
      have hP : va_P (dC, dI) vwCl (wM cyI cyJ cyZ b S5) H := hP
      have hD : va_D A (wM cyI cyJ cyZ b S5) := hD
      refine lv_iload hx hb dX6_functionOf_30 (lv_at hl 4 rfl) ?_
      refine lv_ishl hx hb dX6_functionOf_32 ?_
      refine lv_ior hx hb dX6_functionOf_33 ?_
      refine lv_topi (fun y6 ey6 => ?_)
      have h := h y6 ey6
      refine lv_istore (lv' := [(4, .int y6), (0, .ref (b 0)), (1, .int x1), (3, .int x3), (5, .int x5)]) hx hb dX6_functionOf_34 hl (by decide) rfl (fun ls hl => ?_)
      obtain ⟨y7, ey7⟩ : ∃ z : Int32, z = (x5 + (1 : Int32)) := ⟨_, rfl⟩
      have h := h y7 ey7
      refine lv_iinc (v := y7) (lv' := [(5, .int y7), (4, .int y6), (0, .ref (b 0)), (1, .int x1), (3, .int x3)]) hx hb dX6_functionOf_36 hl (k := 4) rfl (by rw [ey7]; rfl) (by decide) rfl (fun ls hl => ?_)
      refine lv_goto (tgt := 12) hx hb dX6_functionOf_39 (by decide) ?_
      exact k12 S5 y6 y7 H locs ls h hP hD hS (lv_sub hl [2, 3, 4, 1, 0] rfl)
def p_X6_functionOf (M : MS) (x1 : Int32) (x2 : Int32) (post : Int32 → MS → Prop) : Prop := p_X6_spread M x2 (fun r1 S2 => p_X6_functionOf_12 S2 x1 r1 (0 : Int32) (0 : Int32) post)
set_option maxHeartbeats 1000000 in
set_option maxRecDepth 100000 in
theorem t_X6_functionOf {l : Launch} {dC : Nat → ClassId} {dI : Nat → Nat → Nat} {cyI cyJ cyZ : ClassId} {r : Nat → Nat} {b : Nat → Nat} {M : MS} {x1 : Int32} {x2 : Int32} {post : Int32 → MS → Prop} (h : p_X6_functionOf M x1 x2 post) : xMi l yX6_functionOf wsX6_functionOf { frames := 2, cells := 0, slots := 0, locals := 46 } (dC, dI) (tyA cyI cyJ cyZ) r (wM cyI cyJ cyZ b) [.ref (b 0), .int x1, .int x2] M post 0 0 := by
  intro sz
  refine Met.ofW (cc := cX6_functionOf) (maxL := 6) (ret := (some .int)) (by decide) rfl ?_
  intro p e s m args below meth c s₁ B hml hv
  obtain ⟨rfl, G, hP, hD, hS⟩ := xG.of rfl B hml hv
  generalize hAe : va_A (wM cyI cyJ cyZ b M) sz = A at G hD hS ⊢
  have G : xG p s m _ meth c cX6_functionOf 6 RX6 (some .int) wsX6_functionOf (dC, dI) (tyA cyI cyJ cyZ) r A := G
  obtain ⟨hx, hb, hml, hown, hts, hr, hlocks, hK, hE, hA⟩ := id G
  have hl := lv_entry ([.ref (b 0), .int x1, .int x2]) (n := 6) (Nat.le_of_ble_eq_true rfl)
  rw [lg_entry_eq]
  generalize (lg_sl ([.ref (b 0), .int x1, .int x2]) ++ List.replicate (6 - (lg_sl ([.ref (b 0), .int x1, .int x2])).length) Slot.unset).toArray = ls at hl ⊢
  have hl : lv_has ls 6 [(0, .ref (b 0)), (1, .int x1), (2, .int x2)] := hl
  show W p l e { frames := 2, cells := 0, slots := 0, locals := 46 } s m _ below meth c s.heap [] 0 0 _ _
  unfold p_X6_functionOf at h
  refine lv_aload_n hx hb dX6_functionOf_0 rfl (lv_at hl 0 rfl) ?_
  refine lv_iload_n hx hb dX6_functionOf_1 rfl (lv_at hl 2 rfl) ?_
  refine xc_Vi (wf := wM cyI cyJ cyZ b) (wr := []) (isC := [0, 1, 2, 3, 4, 5, 6, 7, 8, 9, 10, 11, 12, 13, 14, 15, 16, 17, 18, 19, 20]) (isR := []) (As := [.int x2]) (rest := []) ⟨hx, hb, hml, hown, hts⟩ (t_X6_spread h) (cwV 1 hts gX6_functionOf_X6_spread rfl rfl rfl (by decide +kernel) ⟨Nat.le_of_ble_eq_true rfl, Nat.le_of_ble_eq_true rfl⟩) ⟨hK, hE, hA, hP, hD, hS, rfl, rfl, rfl, rfl, by decide⟩ ⟨0, 5, _, _, rfl, rfl, rfl⟩ rfl rfl hl.1 (Nat.le_of_ble_eq_true rfl) dX6_functionOf_2 ⟨Nat.le_of_ble_eq_true rfl, Nat.le_of_ble_eq_true rfl⟩ (fun r1 S2 H locs h hP hD hS => ?_)
  have hP : va_P (dC, dI) vwCl (wM cyI cyJ cyZ b S2) H := hP
  have hD : va_D A (wM cyI cyJ cyZ b S2) := hD
  refine lv_istore_n (lv' := [(3, .int r1), (0, .ref (b 0)), (1, .int x1), (2, .int x2)]) hx hb dX6_functionOf_5 rfl hl (by decide) rfl (fun ls hl => ?_)
  refine lv_iconst (v := 0) hx hb dX6_functionOf_6 (by decide) ?_
  refine lv_istore (lv' := [(4, .int (0 : Int32)), (3, .int r1), (0, .ref (b 0)), (1, .int x1), (2, .int x2)]) hx hb dX6_functionOf_7 hl (by decide) rfl (fun ls hl => ?_)
  refine lv_iconst (v := 0) hx hb dX6_functionOf_9 (by decide) ?_
  refine lv_istore (lv' := [(5, .int (0 : Int32)), (4, .int (0 : Int32)), (3, .int r1), (0, .ref (b 0)), (1, .int x1), (2, .int x2)]) hx hb dX6_functionOf_10 hl (by decide) rfl (fun ls hl => ?_)
  exact t_X6_functionOf_12 G h hP hD hS (lv_sub hl [3, 4, 2, 1, 0] rfl)
def p_X6_function_21 (M : MS) (x1 : Int32) (x2 : Int32) (t0 : Int32) (post : Int32 → MS → Prop) : Prop := ∀ M4 : MS, M4 = (mTH_s M t0) → (((mTH M4) ≤ 0 → (p_X6_cutsOf M4 x1 (fun r6 => (r6 ≤ x2 → (post (-1 : Int32) M4)) ∧ (¬ r6 ≤ x2 → (vp_in x1 32 ∧ (vp_in (((5000 : Int32) * ((mAO M4) x1.toNatClampNeg)) + x2) 120000 ∧ (p_X6_functionOf M4 x1 ((mCB M4) (((5000 : Int32) * ((mAO M4) x1.toNatClampNeg)) + x2).toNatClampNeg) (fun r11 S12 => post r11 S12)))))))) ∧ (¬ (mTH M4) ≤ 0 → (post (0 : Int32) M4)))
set_option maxHeartbeats 1000000 in
set_option maxRecDepth 100000 in
theorem t_X6_function_21 {p : Program} {l : Launch} {e : Env} {s : State} {m : MethodId} {args : Array Value} {below : List Frame} {meth : Method} {c : Code} {dC : Nat → ClassId} {dI : Nat → Nat → Nat} {cyI cyJ cyZ : ClassId} {r : Nat → Nat} {b : Nat → Nat} {A : Nat → Prop} {M : MS} {x1 : Int32} {x2 : Int32} {t0 : Int32} {post : Int32 → MS → Prop} (G : xG p s m args meth c cX6_function 3 RX6 (some .int) wsX6_function (dC, dI) (tyA cyI cyJ cyZ) r A) (h : p_X6_function_21 M x1 x2 t0 post) {H : Heap} {locs : List Loc} {ls : Array Slot} (hP : va_P (dC, dI) vwCl (wM cyI cyJ cyZ b M) H) (hD : va_D A (wM cyI cyJ cyZ b M)) (hS : va_S A s.heap H locs) (hl : lv_has ls 3 [(0, .ref (b 0)), (1, .int x1), (2, .int x2)]) : W p l e { frames := 3, cells := 0, slots := 0, locals := 71 } s m args below meth c H locs 0 0 (MQ below (va_Qi post (xAt (dC, dI) (tyA cyI cyJ cyZ) (wM cyI cyJ cyZ b) A) A) args s 0 0 A) (F0 m 21 ls [.int t0, .ref (b 0)]) := by
  obtain ⟨hx, hb, hml, hown, hts, hr, hlocks, hK, hE, hA⟩ := id G
  have hiX6 : ∀ w ∈ wsX60, w ∈ wsX6_function := by decide +kernel
  have hf75 := hts (.fieldLink RX6 75 "CellMappingModel" "thrown" "I") (by decide +kernel)
  have hf44 := hts (.fieldLink RX6 44 "CellMappingModel" "cutBits" "[I") (by decide +kernel)
  have hf37 := hts (.fieldLink RX6 37 "CellMappingModel" "andOf" "[I") (by decide +kernel)
  unfold p_X6_function_21 at h
  refine va_put (D := (dC, dI)) (ci := 5) (v := .int t0) (ty := .int) (C := RX6) (T := TX6) (N := 27) hx hb hts hiX6 tyX6 tyX6_ok nmX6 hown hK hP hD hS 0 rfl rfl 0 (by decide) hf75 (fun _ h9 => h9) rfl (by decide +kernel) rfl rfl (Nat.le_of_ble_eq_true rfl) dX6_function_21 (fun H locs hP hD hS => ?_)
  obtain ⟨M4, eM4⟩ : ∃ z : MS, z = (mTH_s M t0) := ⟨_, rfl⟩
  have h := h M4 eM4
  have hP := nP_mTH eM4 hP
  have hD := nD_mTH eM4 hD
  refine lv_aload_n hx hb dX6_function_24 rfl (lv_at hl 0 rfl) ?_
  refine va_get (D := (dC, dI)) (ci := 5) (v := .int (mTH M4)) (C := RX6) (T := TX6) (N := 27) hx hb hts hiX6 hown hK hP 0 rfl rfl 0 (by decide) hf75 (fun _ h9 => h9) rfl dX6_function_25 ?_
  refine lv_if_le (tgt := 33) hx hb dX6_function_28 (by decide) (fun c5 => ?_) (fun c5 => ?_)
  · have h := h.1 c5
    refine lv_iload_n hx hb dX6_function_33 rfl (lv_at hl 2 rfl) ?_
    refine lv_aload_n hx hb dX6_function_34 rfl (lv_at hl 0 rfl) ?_
    refine lv_iload_n hx hb dX6_function_35 rfl (lv_at hl 1 rfl) ?_
    refine xc_Vi (wf := wM cyI cyJ cyZ b) (wr := []) (isC := [0, 1, 2, 3, 4, 5, 6, 7, 8, 9, 10, 11, 12, 13, 14, 15, 16, 17, 18, 19, 20]) (isR := []) (As := [.int x1]) (rest := [.int x2]) ⟨hx, hb, hml, hown, hts⟩ (t_X6_cutsOf h) (cwV 1 hts gX6_function_X6_cutsOf rfl rfl rfl (by decide +kernel) ⟨Nat.le_of_ble_eq_true rfl, Nat.le_of_ble_eq_true rfl⟩) ⟨hK, hE, hA, hP, hD, hS, rfl, rfl, rfl, rfl, by decide⟩ ⟨0, 5, _, _, rfl, rfl, rfl⟩ rfl rfl hl.1 (Nat.le_of_ble_eq_true rfl) dX6_function_36 ⟨Nat.le_of_ble_eq_true rfl, Nat.le_of_ble_eq_true rfl⟩ (fun r6 S7 H locs h hP hD hS => ?_)
    obtain ⟨rfl, h⟩ := h
    have hP : va_P (dC, dI) vwCl (wM cyI cyJ cyZ b M4) H := hP
    have hD : va_D A (wM cyI cyJ cyZ b M4) := hD
    refine lv_icmp_ge (tgt := 67) hx hb dX6_function_39 (by decide) (fun c8 => ?_) (fun c8 => ?_)
    · have h := h.1 c8
      refine lv_iconst (v := -1) hx hb dX6_function_67 (by decide) ?_
      exact xr_i (S := M4) hx hb hr hlocks hK hP hD hS h (Nat.le_of_ble_eq_true rfl) (Nat.le_of_ble_eq_true rfl) dX6_function_68
    · have h := h.2 c8
      refine lv_aload_n hx hb dX6_function_42 rfl (lv_at hl 0 rfl) ?_
      refine lv_iload_n hx hb dX6_function_43 rfl (lv_at hl 1 rfl) ?_
      refine lv_aload_n hx hb dX6_function_44 rfl (lv_at hl 0 rfl) ?_
      refine va_get (D := (dC, dI)) (ci := 5) (v := .ref (b 12)) (C := RX6) (T := TX6) (N := 27) hx hb hts hiX6 hown hK hP 0 rfl rfl 17 (by decide) hf44 (fun _ h9 => h9) rfl dX6_function_45 ?_
      refine lv_sipush (v := 5000) hx hb dX6_function_48 (by decide) ?_
      refine lv_aload_n hx hb dX6_function_51 rfl (lv_at hl 0 rfl) ?_
      refine va_get (D := (dC, dI)) (ci := 5) (v := .ref (b 10)) (C := RX6) (T := TX6) (N := 27) hx hb hts hiX6 hown hK hP 0 rfl rfl 15 (by decide) hf37 (fun _ h9 => h9) rfl dX6_function_52 ?_
      refine lv_iload_n hx hb dX6_function_55 rfl (lv_at hl 1 rfl) ?_
      obtain ⟨i9, h⟩ := h
      refine va_iald (D := (dC, dI)) hx hb hK hP 10 0 rfl rfl i9 dX6_function_56 ?_
      refine lv_imul hx hb dX6_function_57 ?_
      refine lv_iload_n hx hb dX6_function_58 rfl (lv_at hl 2 rfl) ?_
      refine lv_iadd hx hb dX6_function_59 ?_
      obtain ⟨i10, h⟩ := h
      refine va_iald (D := (dC, dI)) hx hb hK hP 12 0 rfl rfl i10 dX6_function_60 ?_
      refine xc_Vi (wf := wM cyI cyJ cyZ b) (wr := []) (isC := [0, 1, 2, 3, 4, 5, 6, 7, 8, 9, 10, 11, 12, 13, 14, 15, 16, 17, 18, 19, 20]) (isR := []) (As := [.int x1, .int ((mCB M4) (((5000 : Int32) * ((mAO M4) x1.toNatClampNeg)) + x2).toNatClampNeg)]) (rest := []) ⟨hx, hb, hml, hown, hts⟩ (t_X6_functionOf h) (cwV 2 hts gX6_function_X6_functionOf rfl rfl rfl (by decide +kernel) ⟨Nat.le_of_ble_eq_true rfl, Nat.le_of_ble_eq_true rfl⟩) ⟨hK, hE, hA, hP, hD, hS, rfl, rfl, rfl, rfl, by decide⟩ ⟨0, 5, _, _, rfl, rfl, rfl⟩ rfl rfl hl.1 (Nat.le_of_ble_eq_true rfl) dX6_function_61 ⟨Nat.le_of_ble_eq_true rfl, Nat.le_of_ble_eq_true rfl⟩ (fun r11 S12 H locs h hP hD hS => ?_)
      have hP : va_P (dC, dI) vwCl (wM cyI cyJ cyZ b S12) H := hP
      have hD : va_D A (wM cyI cyJ cyZ b S12) := hD
      refine lv_goto (tgt := 68) hx hb dX6_function_64 (by decide) ?_
      exact xr_i (S := S12) hx hb hr hlocks hK hP hD hS h (Nat.le_of_ble_eq_true rfl) (Nat.le_of_ble_eq_true rfl) dX6_function_68
  · have h := h.2 c5
    refine lv_iconst (v := 0) hx hb dX6_function_31 (by decide) ?_
    exact xr_i (S := M4) hx hb hr hlocks hK hP hD hS h (Nat.le_of_ble_eq_true rfl) (Nat.le_of_ble_eq_true rfl) dX6_function_32
def p_X6_function_20 (M : MS) (x1 : Int32) (x2 : Int32) (post : Int32 → MS → Prop) : Prop := p_X6_function_21 M x1 x2 (1 : Int32) post
set_option maxHeartbeats 1000000 in
set_option maxRecDepth 100000 in
theorem t_X6_function_20 {p : Program} {l : Launch} {e : Env} {s : State} {m : MethodId} {args : Array Value} {below : List Frame} {meth : Method} {c : Code} {dC : Nat → ClassId} {dI : Nat → Nat → Nat} {cyI cyJ cyZ : ClassId} {r : Nat → Nat} {b : Nat → Nat} {A : Nat → Prop} {M : MS} {x1 : Int32} {x2 : Int32} {post : Int32 → MS → Prop} (G : xG p s m args meth c cX6_function 3 RX6 (some .int) wsX6_function (dC, dI) (tyA cyI cyJ cyZ) r A) (h : p_X6_function_20 M x1 x2 post) {H : Heap} {locs : List Loc} {ls : Array Slot} (hP : va_P (dC, dI) vwCl (wM cyI cyJ cyZ b M) H) (hD : va_D A (wM cyI cyJ cyZ b M)) (hS : va_S A s.heap H locs) (hl : lv_has ls 3 [(0, .ref (b 0)), (1, .int x1), (2, .int x2)]) : W p l e { frames := 3, cells := 0, slots := 0, locals := 71 } s m args below meth c H locs 0 0 (MQ below (va_Qi post (xAt (dC, dI) (tyA cyI cyJ cyZ) (wM cyI cyJ cyZ b) A) A) args s 0 0 A) (F0 m 20 ls [.ref (b 0)]) := by
  obtain ⟨hx, hb, hml, hown, hts, hr, hlocks, hK, hE, hA⟩ := id G
  unfold p_X6_function_20 at h
  refine lv_iconst (v := 1) hx hb dX6_function_20 (by decide) ?_
  exact t_X6_function_21 G h hP hD hS (lv_sub hl [0, 1, 2] rfl)
def p_X6_function (M : MS) (x1 : Int32) (x2 : Int32) (post : Int32 → MS → Prop) : Prop := p_X6_isIn M x1 (mND M) (fun r1 => (r1 = 0 → (p_X6_function_20 M x1 x2 post)) ∧ (¬ r1 = 0 → ((x2 < 0 → (p_X6_function_20 M x1 x2 post)) ∧ (¬ x2 < 0 → (p_X6_function_21 M x1 x2 (0 : Int32) post)))))
set_option maxHeartbeats 1000000 in
set_option maxRecDepth 100000 in
theorem t_X6_function {l : Launch} {dC : Nat → ClassId} {dI : Nat → Nat → Nat} {cyI cyJ cyZ : ClassId} {r : Nat → Nat} {b : Nat → Nat} {M : MS} {x1 : Int32} {x2 : Int32} {post : Int32 → MS → Prop} (h : p_X6_function M x1 x2 post) : xMi l yX6_function wsX6_function { frames := 3, cells := 0, slots := 0, locals := 71 } (dC, dI) (tyA cyI cyJ cyZ) r (wM cyI cyJ cyZ b) [.ref (b 0), .int x1, .int x2] M post 0 0 := by
  intro sz
  refine Met.ofW (cc := cX6_function) (maxL := 3) (ret := (some .int)) (by decide) rfl ?_
  intro p e s m args below meth c s₁ B hml hv
  obtain ⟨rfl, G, hP, hD, hS⟩ := xG.of rfl B hml hv
  generalize hAe : va_A (wM cyI cyJ cyZ b M) sz = A at G hD hS ⊢
  have G : xG p s m _ meth c cX6_function 3 RX6 (some .int) wsX6_function (dC, dI) (tyA cyI cyJ cyZ) r A := G
  obtain ⟨hx, hb, hml, hown, hts, hr, hlocks, hK, hE, hA⟩ := id G
  have hiX6 : ∀ w ∈ wsX60, w ∈ wsX6_function := by decide +kernel
  have hf79 := hts (.fieldLink RX6 79 "CellMappingModel" "nodes" "I") (by decide +kernel)
  have hl := lv_entry ([.ref (b 0), .int x1, .int x2]) (n := 3) (Nat.le_of_ble_eq_true rfl)
  rw [lg_entry_eq]
  generalize (lg_sl ([.ref (b 0), .int x1, .int x2]) ++ List.replicate (3 - (lg_sl ([.ref (b 0), .int x1, .int x2])).length) Slot.unset).toArray = ls at hl ⊢
  have hl : lv_has ls 3 [(0, .ref (b 0)), (1, .int x1), (2, .int x2)] := hl
  show W p l e { frames := 3, cells := 0, slots := 0, locals := 71 } s m _ below meth c s.heap [] 0 0 _ _
  unfold p_X6_function at h
  refine lv_aload_n hx hb dX6_function_0 rfl (lv_at hl 0 rfl) ?_
  refine lv_iload_n hx hb dX6_function_1 rfl (lv_at hl 1 rfl) ?_
  refine lv_aload_n hx hb dX6_function_2 rfl (lv_at hl 0 rfl) ?_
  refine va_get (D := (dC, dI)) (ci := 5) (v := .int (mND M)) (C := RX6) (T := TX6) (N := 27) hx hb hts hiX6 hown hK hP 0 rfl rfl 1 (by decide) hf79 (fun _ h9 => h9) rfl dX6_function_3 ?_
  refine xc_Si (wf := wM cyI cyJ cyZ b) (wr := []) (isC := [0, 1, 2, 3, 4, 5, 6, 7, 8, 9, 10, 11, 12, 13, 14, 15, 16, 17, 18, 19, 20]) (isR := []) (As := [.int x1, .int (mND M)]) (rest := [.ref (b 0)]) ⟨hx, hb, hml, hown, hts⟩ (t_X6_isIn h) (va_cwS 2 hts gX6_function_X6_isIn rfl rfl rfl (by decide +kernel) ⟨Nat.le_of_ble_eq_true rfl, Nat.le_of_ble_eq_true rfl⟩) ⟨hK, hE, hA, hP, hD, hS, rfl, rfl, rfl, rfl, by decide⟩ rfl rfl hl.1 (Nat.le_of_ble_eq_true rfl) dX6_function_6 ⟨Nat.le_of_ble_eq_true rfl, Nat.le_of_ble_eq_true rfl⟩ (fun r1 S2 H locs h hP hD hS => ?_)
  obtain ⟨rfl, h⟩ := h
  have hP : va_P (dC, dI) vwCl (wM cyI cyJ cyZ b M) H := hP
  have hD : va_D A (wM cyI cyJ cyZ b M) := hD
  refine lv_if_eq (tgt := 20) hx hb dX6_function_9 (by decide) (fun c3 => ?_) (fun c3 => ?_)
  · have h := h.1 c3
    exact t_X6_function_20 G h hP hD hS (lv_sub hl [0, 1, 2] rfl)
  · have h := h.2 c3
    refine lv_iload_n hx hb dX6_function_12 rfl (lv_at hl 2 rfl) ?_
    refine lv_if_lt (tgt := 20) hx hb dX6_function_13 (by decide) (fun c13 => ?_) (fun c13 => ?_)
    · have h := h.1 c13
      exact t_X6_function_20 G h hP hD hS (lv_sub hl [0, 1, 2] rfl)
    · have h := h.2 c13
      refine lv_iconst (v := 0) hx hb dX6_function_16 (by decide) ?_
      refine lv_goto (tgt := 21) hx hb dX6_function_17 (by decide) ?_
      exact t_X6_function_21 G h hP hD hS (lv_sub hl [0, 1, 2] rfl)
def b_X6_cell_123 (post : Int32 → MS → Prop) (g123 : MS → Int32 → Prop) (M : MS) (x5 : Int32) : Prop := ((3 : Int32) ≤ x5 → (∀ M14 : MS, M14 = (mCE_s M ((mCE M) + (1 : Int32))) → (∀ M15 : MS, M15 = (mSL_s M14 (1 : Int32)) → (post ((mCE M15) - (1 : Int32)) M15)))) ∧ (¬ (3 : Int32) ≤ x5 → (vp_in (((3 : Int32) * (mCE M)) + x5) 36 ∧ (∀ M17 : MS, M17 = (mDE_s M (upd (mDE M) (((3 : Int32) * (mCE M)) + x5).toNatClampNeg (0 : Int32))) → (∀ y18 : Int32, y18 = (x5 + (1 : Int32)) → (g123 M17 y18)))))
def p_X6_cell_123 (M : MS) (x5 : Int32) (post : Int32 → MS → Prop) : Prop := ∃ (I : MS → Int32 → Prop) (mu : MS → Int32 → Nat), I M x5 ∧ ∀ (M : MS) (x5 : Int32), I M x5 → b_X6_cell_123 post (fun M' x5' => I M' x5' ∧ mu M' x5' < mu M x5) M x5
set_option maxHeartbeats 1000000 in
set_option maxRecDepth 100000 in
theorem t_X6_cell_123 {p : Program} {l : Launch} {e : Env} {s : State} {m : MethodId} {args : Array Value} {below : List Frame} {meth : Method} {c : Code} {dC : Nat → ClassId} {dI : Nat → Nat → Nat} {cyI cyJ cyZ : ClassId} {r : Nat → Nat} {b : Nat → Nat} {A : Nat → Prop} {M : MS} {x5 : Int32} {post : Int32 → MS → Prop} (G : xG p s m args meth c cX6_cell 6 RX6 (some .int) wsX6_cell (dC, dI) (tyA cyI cyJ cyZ) r A) (h : p_X6_cell_123 M x5 post) {H : Heap} {locs : List Loc} {ls : Array Slot} (hP : va_P (dC, dI) vwCl (wM cyI cyJ cyZ b M) H) (hD : va_D A (wM cyI cyJ cyZ b M)) (hS : va_S A s.heap H locs) (hl : lv_has ls 6 [(0, .ref (b 0)), (5, .int x5)]) : W p l e { frames := 0, cells := 0, slots := 0, locals := 0 } s m args below meth c H locs 0 0 (MQ below (va_Qi post (xAt (dC, dI) (tyA cyI cyJ cyZ) (wM cyI cyJ cyZ b) A) A) args s 0 0 A) (F0 m 123 ls []) := by
  obtain ⟨hx, hb, hml, hown, hts, hr, hlocks, hK, hE, hA⟩ := id G
  have hiX6 : ∀ w ∈ wsX60, w ∈ wsX6_cell := by decide +kernel
  have hf145 := hts (.fieldLink RX6 145 "CellMappingModel" "cells" "I") (by decide +kernel)
  have hf89 := hts (.fieldLink RX6 89 "CellMappingModel" "stale" "Z") (by decide +kernel)
  have hf34 := hts (.fieldLink RX6 34 "CellMappingModel" "delays" "[I") (by decide +kernel)
  obtain ⟨I, mu, h0, hstep⟩ := h
  suffices hgo : ∀ (n : Nat) (M : MS) (x5 : Int32), I M x5 → mu M x5 < n → ∀ (H : Heap) (locs : List Loc) (ls : Array Slot), va_P (dC, dI) vwCl (wM cyI cyJ cyZ b M) H → va_D A (wM cyI cyJ cyZ b M) → va_S A s.heap H locs → lv_has ls 6 [(0, .ref (b 0)), (5, .int x5)] → W p l e { frames := 0, cells := 0, slots := 0, locals := 0 } s m args below meth c H locs 0 0 (MQ below (va_Qi post (xAt (dC, dI) (tyA cyI cyJ cyZ) (wM cyI cyJ cyZ b) A) A) args s 0 0 A) (F0 m 123 ls []) from hgo (mu M x5 + 1) M x5 h0 (Nat.lt_succ_self _) H locs ls hP hD hS hl
  clear h0 hP hD hS hl
  intro n
  induction n with
  | zero => intro M x5 _ h; exact absurd h (Nat.not_lt_zero _)
  | succ n ih =>
    intro M x5 hI hmu H locs ls hP hD hS hl
    have h := hstep M x5 hI
    unfold b_X6_cell_123 at h
    have k123 : ∀ (M' : MS) (x5' : Int32) (H : Heap) (locs : List Loc) (ls : Array Slot), (fun M' x5' => I M' x5' ∧ mu M' x5' < mu M x5) M' x5' → va_P (dC, dI) vwCl (wM cyI cyJ cyZ b M') H → va_D A (wM cyI cyJ cyZ b M') → va_S A s.heap H locs → lv_has ls 6 [(0, .ref (b 0)), (5, .int x5')] → W p l e { frames := 0, cells := 0, slots := 0, locals := 0 } s m args below meth c H locs 0 0 (MQ below (va_Qi post (xAt (dC, dI) (tyA cyI cyJ cyZ) (wM cyI cyJ cyZ b) A) A) args s 0 0 A) (F0 m 123 ls []) := fun M' x5' H locs ls hh hP hD hS hl => ih M' x5' hh.1 (Nat.lt_of_lt_of_le hh.2 (Nat.le_of_lt_succ hmu)) H locs ls hP hD hS hl
    generalize (fun M' x5' => I M' x5' ∧ mu M' x5' < mu M x5) = g123 at h k123
    refine lv_iload hx hb dX6_cell_123 (lv_at hl 1 rfl) ?_
    refine lv_iconst (v := 3) hx hb dX6_cell_125 (by decide) ?_
    refine lv_icmp_ge (tgt := 150) hx hb dX6_cell_126 (by decide) (fun c13 => ?_) (fun c13 => ?_)
    · have h := h.1 c13
      refine lv_aload_n hx hb dX6_cell_150 rfl (lv_at hl 0 rfl) ?_
      refine lv_dup hx hb dX6_cell_151 rfl ?_
      refine va_get (D := (dC, dI)) (ci := 5) (v := .int (mCE M)) (C := RX6) (T := TX6) (N := 27) hx hb hts hiX6 hown hK hP 0 rfl rfl 10 (by decide) hf145 (fun _ h9 => h9) rfl dX6_cell_152 ?_
      refine lv_iconst (v := 1) hx hb dX6_cell_155 (by decide) ?_
      refine lv_iadd hx hb dX6_cell_156 ?_
      refine va_put (D := (dC, dI)) (ci := 5) (v := .int ((mCE M) + (1 : Int32))) (ty := .int) (C := RX6) (T := TX6) (N := 27) hx hb hts hiX6 tyX6 tyX6_ok nmX6 hown hK hP hD hS 0 rfl rfl 10 (by decide) hf145 (fun _ h9 => h9) rfl (by decide +kernel) rfl rfl (Nat.le_of_ble_eq_true rfl) dX6_cell_157 (fun H locs hP hD hS => ?_)
      obtain ⟨M14, eM14⟩ : ∃ z : MS, z = (mCE_s M ((mCE M) + (1 : Int32))) := ⟨_, rfl⟩
      have h := h M14 eM14
      have hP := nP_mCE eM14 hP
      have hD := nD_mCE eM14 hD
      refine lv_aload_n hx hb dX6_cell_160 rfl (lv_at hl 0 rfl) ?_
      refine lv_iconst (v := 1) hx hb dX6_cell_161 (by decide) ?_
      refine va_put (D := (dC, dI)) (ci := 5) (v := .int (1 : Int32)) (ty := .boolean) (C := RX6) (T := TX6) (N := 27) hx hb hts hiX6 tyX6 tyX6_ok nmX6 hown hK hP hD hS 0 rfl rfl 18 (by decide) hf89 (fun _ h9 => h9) rfl (by decide +kernel) rfl rfl (Nat.le_of_ble_eq_true rfl) dX6_cell_162 (fun H locs hP hD hS => ?_)
      obtain ⟨M15, eM15⟩ : ∃ z : MS, z = (mSL_s M14 (1 : Int32)) := ⟨_, rfl⟩
      have h := h M15 eM15
      have hP := nP_mSL eM15 hP
      have hD := nD_mSL eM15 hD
      refine lv_aload_n hx hb dX6_cell_165 rfl (lv_at hl 0 rfl) ?_
      refine va_get (D := (dC, dI)) (ci := 5) (v := .int (mCE M15)) (C := RX6) (T := TX6) (N := 27) hx hb hts hiX6 hown hK hP 0 rfl rfl 10 (by decide) hf145 (fun _ h9 => h9) rfl dX6_cell_166 ?_
      refine lv_iconst (v := 1) hx hb dX6_cell_169 (by decide) ?_
      refine lv_isub hx hb dX6_cell_170 ?_
      exact xr_i (S := M15) hx hb hr hlocks hK hP hD hS h (Nat.le_of_ble_eq_true rfl) (Nat.le_of_ble_eq_true rfl) dX6_cell_171
    · have h := h.2 c13
      refine lv_aload_n hx hb dX6_cell_129 rfl (lv_at hl 0 rfl) ?_
      refine va_get (D := (dC, dI)) (ci := 5) (v := .ref (b 9)) (C := RX6) (T := TX6) (N := 27) hx hb hts hiX6 hown hK hP 0 rfl rfl 14 (by decide) hf34 (fun _ h9 => h9) rfl dX6_cell_130 ?_
      refine lv_iconst (v := 3) hx hb dX6_cell_133 (by decide) ?_
      refine lv_aload_n hx hb dX6_cell_134 rfl (lv_at hl 0 rfl) ?_
      refine va_get (D := (dC, dI)) (ci := 5) (v := .int (mCE M)) (C := RX6) (T := TX6) (N := 27) hx hb hts hiX6 hown hK hP 0 rfl rfl 10 (by decide) hf145 (fun _ h9 => h9) rfl dX6_cell_135 ?_
      refine lv_imul hx hb dX6_cell_138 ?_
      refine lv_iload hx hb dX6_cell_139 (lv_at hl 1 rfl) ?_
      refine lv_iadd hx hb dX6_cell_141 ?_
      refine lv_iconst (v := 0) hx hb dX6_cell_142 (by decide) ?_
      obtain ⟨i16, h⟩ := h
      refine va_iast (D := (dC, dI)) hx hb hK hP hD hS 9 0 rfl rfl i16 dX6_cell_143 (fun H locs hP hD hS => ?_)
      obtain ⟨M17, eM17⟩ : ∃ z : MS, z = (mDE_s M (upd (mDE M) (((3 : Int32) * (mCE M)) + x5).toNatClampNeg (0 : Int32))) := ⟨_, rfl⟩
      have h := h M17 eM17
      have hP := nP_mDE eM17 hP
      have hD := nD_mDE eM17 hD
      obtain ⟨y18, ey18⟩ : ∃ z : Int32, z = (x5 + (1 : Int32)) := ⟨_, rfl⟩
      have h := h y18 ey18
      refine lv_iinc (v := y18) (lv' := [(5, .int y18), (0, .ref (b 0))]) hx hb dX6_cell_144 hl (k := 1) rfl (by rw [ey18]; rfl) (by decide) rfl (fun ls hl => ?_)
      refine lv_goto (tgt := 123) hx hb dX6_cell_147 (by decide) ?_
      exact k123 M17 y18 H locs ls h hP hD hS (lv_sub hl [1, 0] rfl)
def p_X6_cell_78 (M : MS) (x1 : Int32) (x2 : Int32) (x3 : Int32) (t0 : Int32) (post : Int32 → MS → Prop) : Prop := ∀ M5 : MS, M5 = (mTH_s M t0) → (((mTH M5) ≤ 0 → (vp_in (mCE M5) 12 ∧ (∀ M8 : MS, M8 = (mPI_s M5 (upd (mPI M5) (mCE M5).toNatClampNeg x1)) → (vp_in (mCE M8) 12 ∧ (∀ M10 : MS, M10 = (mTR_s M8 (upd (mTR M8) (mCE M8).toNatClampNeg x2)) → (vp_in (mCE M10) 12 ∧ (∀ M12 : MS, M12 = (mAR_s M10 (upd (mAR M10) (mCE M10).toNatClampNeg x3)) → (p_X6_cell_123 M12 (0 : Int32) post)))))))) ∧ (¬ (mTH M5) ≤ 0 → (post (0 : Int32) M5)))
set_option maxHeartbeats 1000000 in
set_option maxRecDepth 100000 in
theorem t_X6_cell_78 {p : Program} {l : Launch} {e : Env} {s : State} {m : MethodId} {args : Array Value} {below : List Frame} {meth : Method} {c : Code} {dC : Nat → ClassId} {dI : Nat → Nat → Nat} {cyI cyJ cyZ : ClassId} {r : Nat → Nat} {b : Nat → Nat} {A : Nat → Prop} {M : MS} {x1 : Int32} {x2 : Int32} {x3 : Int32} {t0 : Int32} {post : Int32 → MS → Prop} (G : xG p s m args meth c cX6_cell 6 RX6 (some .int) wsX6_cell (dC, dI) (tyA cyI cyJ cyZ) r A) (h : p_X6_cell_78 M x1 x2 x3 t0 post) {H : Heap} {locs : List Loc} {ls : Array Slot} (hP : va_P (dC, dI) vwCl (wM cyI cyJ cyZ b M) H) (hD : va_D A (wM cyI cyJ cyZ b M)) (hS : va_S A s.heap H locs) (hl : lv_has ls 6 [(0, .ref (b 0)), (1, .int x1), (2, .int x2), (3, .int x3)]) : W p l e { frames := 0, cells := 0, slots := 0, locals := 0 } s m args below meth c H locs 0 0 (MQ below (va_Qi post (xAt (dC, dI) (tyA cyI cyJ cyZ) (wM cyI cyJ cyZ b) A) A) args s 0 0 A) (F0 m 78 ls [.int t0, .ref (b 0)]) := by
  obtain ⟨hx, hb, hml, hown, hts, hr, hlocks, hK, hE, hA⟩ := id G
  have hiX6 : ∀ w ∈ wsX60, w ∈ wsX6_cell := by decide +kernel
  have hf75 := hts (.fieldLink RX6 75 "CellMappingModel" "thrown" "I") (by decide +kernel)
  have hf25 := hts (.fieldLink RX6 25 "CellMappingModel" "pins" "[I") (by decide +kernel)
  have hf145 := hts (.fieldLink RX6 145 "CellMappingModel" "cells" "I") (by decide +kernel)
  have hf28 := hts (.fieldLink RX6 28 "CellMappingModel" "truths" "[I") (by decide +kernel)
  have hf31 := hts (.fieldLink RX6 31 "CellMappingModel" "areas" "[I") (by decide +kernel)
  unfold p_X6_cell_78 at h
  refine va_put (D := (dC, dI)) (ci := 5) (v := .int t0) (ty := .int) (C := RX6) (T := TX6) (N := 27) hx hb hts hiX6 tyX6 tyX6_ok nmX6 hown hK hP hD hS 0 rfl rfl 0 (by decide) hf75 (fun _ h9 => h9) rfl (by decide +kernel) rfl rfl (Nat.le_of_ble_eq_true rfl) dX6_cell_78 (fun H locs hP hD hS => ?_)
  obtain ⟨M5, eM5⟩ : ∃ z : MS, z = (mTH_s M t0) := ⟨_, rfl⟩
  have h := h M5 eM5
  have hP := nP_mTH eM5 hP
  have hD := nD_mTH eM5 hD
  refine lv_aload_n hx hb dX6_cell_81 rfl (lv_at hl 0 rfl) ?_
  refine va_get (D := (dC, dI)) (ci := 5) (v := .int (mTH M5)) (C := RX6) (T := TX6) (N := 27) hx hb hts hiX6 hown hK hP 0 rfl rfl 0 (by decide) hf75 (fun _ h9 => h9) rfl dX6_cell_82 ?_
  refine lv_if_le (tgt := 90) hx hb dX6_cell_85 (by decide) (fun c6 => ?_) (fun c6 => ?_)
  · have h := h.1 c6
    refine lv_aload_n hx hb dX6_cell_90 rfl (lv_at hl 0 rfl) ?_
    refine va_get (D := (dC, dI)) (ci := 5) (v := .ref (b 6)) (C := RX6) (T := TX6) (N := 27) hx hb hts hiX6 hown hK hP 0 rfl rfl 11 (by decide) hf25 (fun _ h9 => h9) rfl dX6_cell_91 ?_
    refine lv_aload_n hx hb dX6_cell_94 rfl (lv_at hl 0 rfl) ?_
    refine va_get (D := (dC, dI)) (ci := 5) (v := .int (mCE M5)) (C := RX6) (T := TX6) (N := 27) hx hb hts hiX6 hown hK hP 0 rfl rfl 10 (by decide) hf145 (fun _ h9 => h9) rfl dX6_cell_95 ?_
    refine lv_iload_n hx hb dX6_cell_98 rfl (lv_at hl 1 rfl) ?_
    obtain ⟨i7, h⟩ := h
    refine va_iast (D := (dC, dI)) hx hb hK hP hD hS 6 0 rfl rfl i7 dX6_cell_99 (fun H locs hP hD hS => ?_)
    obtain ⟨M8, eM8⟩ : ∃ z : MS, z = (mPI_s M5 (upd (mPI M5) (mCE M5).toNatClampNeg x1)) := ⟨_, rfl⟩
    have h := h M8 eM8
    have hP := nP_mPI eM8 hP
    have hD := nD_mPI eM8 hD
    refine lv_aload_n hx hb dX6_cell_100 rfl (lv_at hl 0 rfl) ?_
    refine va_get (D := (dC, dI)) (ci := 5) (v := .ref (b 7)) (C := RX6) (T := TX6) (N := 27) hx hb hts hiX6 hown hK hP 0 rfl rfl 12 (by decide) hf28 (fun _ h9 => h9) rfl dX6_cell_101 ?_
    refine lv_aload_n hx hb dX6_cell_104 rfl (lv_at hl 0 rfl) ?_
    refine va_get (D := (dC, dI)) (ci := 5) (v := .int (mCE M8)) (C := RX6) (T := TX6) (N := 27) hx hb hts hiX6 hown hK hP 0 rfl rfl 10 (by decide) hf145 (fun _ h9 => h9) rfl dX6_cell_105 ?_
    refine lv_iload_n hx hb dX6_cell_108 rfl (lv_at hl 2 rfl) ?_
    obtain ⟨i9, h⟩ := h
    refine va_iast (D := (dC, dI)) hx hb hK hP hD hS 7 0 rfl rfl i9 dX6_cell_109 (fun H locs hP hD hS => ?_)
    obtain ⟨M10, eM10⟩ : ∃ z : MS, z = (mTR_s M8 (upd (mTR M8) (mCE M8).toNatClampNeg x2)) := ⟨_, rfl⟩
    have h := h M10 eM10
    have hP := nP_mTR eM10 hP
    have hD := nD_mTR eM10 hD
    refine lv_aload_n hx hb dX6_cell_110 rfl (lv_at hl 0 rfl) ?_
    refine va_get (D := (dC, dI)) (ci := 5) (v := .ref (b 8)) (C := RX6) (T := TX6) (N := 27) hx hb hts hiX6 hown hK hP 0 rfl rfl 13 (by decide) hf31 (fun _ h9 => h9) rfl dX6_cell_111 ?_
    refine lv_aload_n hx hb dX6_cell_114 rfl (lv_at hl 0 rfl) ?_
    refine va_get (D := (dC, dI)) (ci := 5) (v := .int (mCE M10)) (C := RX6) (T := TX6) (N := 27) hx hb hts hiX6 hown hK hP 0 rfl rfl 10 (by decide) hf145 (fun _ h9 => h9) rfl dX6_cell_115 ?_
    refine lv_iload_n hx hb dX6_cell_118 rfl (lv_at hl 3 rfl) ?_
    obtain ⟨i11, h⟩ := h
    refine va_iast (D := (dC, dI)) hx hb hK hP hD hS 8 0 rfl rfl i11 dX6_cell_119 (fun H locs hP hD hS => ?_)
    obtain ⟨M12, eM12⟩ : ∃ z : MS, z = (mAR_s M10 (upd (mAR M10) (mCE M10).toNatClampNeg x3)) := ⟨_, rfl⟩
    have h := h M12 eM12
    have hP := nP_mAR eM12 hP
    have hD := nD_mAR eM12 hD
    refine lv_iconst (v := 0) hx hb dX6_cell_120 (by decide) ?_
    refine lv_istore (lv' := [(5, .int (0 : Int32)), (0, .ref (b 0)), (1, .int x1), (2, .int x2), (3, .int x3)]) hx hb dX6_cell_121 hl (by decide) rfl (fun ls hl => ?_)
    exact t_X6_cell_123 G h hP hD hS (lv_sub hl [1, 0] rfl)
  · have h := h.2 c6
    refine lv_iconst (v := 0) hx hb dX6_cell_88 (by decide) ?_
    exact xr_i (S := M5) hx hb hr hlocks hK hP hD hS h (Nat.le_of_ble_eq_true rfl) (Nat.le_of_ble_eq_true rfl) dX6_cell_89
def p_X6_cell_52 (M : MS) (x1 : Int32) (x2 : Int32) (x3 : Int32) (t0 : Int32) (post : Int32 → MS → Prop) : Prop := (¬ (mCE M) = (12 : Int32) → ((t0 = 0 → (p_X6_cell_78 M x1 x2 x3 (2 : Int32) post)) ∧ (¬ t0 = 0 → (p_X6_cell_78 M x1 x2 x3 (0 : Int32) post)))) ∧ ((mCE M) = (12 : Int32) → (p_X6_cell_78 M x1 x2 x3 (1 : Int32) post))
set_option maxHeartbeats 1000000 in
set_option maxRecDepth 100000 in
theorem t_X6_cell_52 {p : Program} {l : Launch} {e : Env} {s : State} {m : MethodId} {args : Array Value} {below : List Frame} {meth : Method} {c : Code} {dC : Nat → ClassId} {dI : Nat → Nat → Nat} {cyI cyJ cyZ : ClassId} {r : Nat → Nat} {b : Nat → Nat} {A : Nat → Prop} {M : MS} {x1 : Int32} {x2 : Int32} {x3 : Int32} {t0 : Int32} {post : Int32 → MS → Prop} (G : xG p s m args meth c cX6_cell 6 RX6 (some .int) wsX6_cell (dC, dI) (tyA cyI cyJ cyZ) r A) (h : p_X6_cell_52 M x1 x2 x3 t0 post) {H : Heap} {locs : List Loc} {ls : Array Slot} (hP : va_P (dC, dI) vwCl (wM cyI cyJ cyZ b M) H) (hD : va_D A (wM cyI cyJ cyZ b M)) (hS : va_S A s.heap H locs) (hl : lv_has ls 6 [(0, .ref (b 0)), (1, .int x1), (2, .int x2), (3, .int x3)]) : W p l e { frames := 0, cells := 0, slots := 0, locals := 0 } s m args below meth c H locs 0 0 (MQ below (va_Qi post (xAt (dC, dI) (tyA cyI cyJ cyZ) (wM cyI cyJ cyZ b) A) A) args s 0 0 A) (F0 m 52 ls [.int t0]) := by
  obtain ⟨hx, hb, hml, hown, hts, hr, hlocks, hK, hE, hA⟩ := id G
  have hiX6 : ∀ w ∈ wsX60, w ∈ wsX6_cell := by decide +kernel
  have hf145 := hts (.fieldLink RX6 145 "CellMappingModel" "cells" "I") (by decide +kernel)
  unfold p_X6_cell_52 at h
  refine lv_istore (lv' := [(4, .int t0), (0, .ref (b 0)), (1, .int x1), (2, .int x2), (3, .int x3)]) hx hb dX6_cell_52 hl (by decide) rfl (fun ls hl => ?_)
  refine lv_aload_n hx hb dX6_cell_54 rfl (lv_at hl 1 rfl) ?_
  refine lv_aload_n hx hb dX6_cell_55 rfl (lv_at hl 1 rfl) ?_
  refine va_get (D := (dC, dI)) (ci := 5) (v := .int (mCE M)) (C := RX6) (T := TX6) (N := 27) hx hb hts hiX6 hown hK hP 0 rfl rfl 10 (by decide) hf145 (fun _ h9 => h9) rfl dX6_cell_56 ?_
  refine lv_bipush (v := 12) hx hb dX6_cell_59 (by decide) ?_
  refine lv_icmp_ne (tgt := 68) hx hb dX6_cell_61 (by decide) (fun c3 => ?_) (fun c3 => ?_)
  · have h := h.1 c3
    refine lv_iload hx hb dX6_cell_68 (lv_at hl 0 rfl) ?_
    refine lv_if_eq (tgt := 77) hx hb dX6_cell_70 (by decide) (fun c4 => ?_) (fun c4 => ?_)
    · have h := h.1 c4
      refine lv_iconst (v := 2) hx hb dX6_cell_77 (by decide) ?_
      exact t_X6_cell_78 G h hP hD hS (lv_sub hl [1, 2, 3, 4] rfl)
    · have h := h.2 c4
      refine lv_iconst (v := 0) hx hb dX6_cell_73 (by decide) ?_
      refine lv_goto (tgt := 78) hx hb dX6_cell_74 (by decide) ?_
      exact t_X6_cell_78 G h hP hD hS (lv_sub hl [1, 2, 3, 4] rfl)
  · have h := h.2 c3
    refine lv_iconst (v := 1) hx hb dX6_cell_64 (by decide) ?_
    refine lv_goto (tgt := 78) hx hb dX6_cell_65 (by decide) ?_
    exact t_X6_cell_78 G h hP hD hS (lv_sub hl [1, 2, 3, 4] rfl)
def p_X6_cell_51 (M : MS) (x1 : Int32) (x2 : Int32) (x3 : Int32) (post : Int32 → MS → Prop) : Prop := p_X6_cell_52 M x1 x2 x3 (0 : Int32) post
set_option maxHeartbeats 1000000 in
set_option maxRecDepth 100000 in
theorem t_X6_cell_51 {p : Program} {l : Launch} {e : Env} {s : State} {m : MethodId} {args : Array Value} {below : List Frame} {meth : Method} {c : Code} {dC : Nat → ClassId} {dI : Nat → Nat → Nat} {cyI cyJ cyZ : ClassId} {r : Nat → Nat} {b : Nat → Nat} {A : Nat → Prop} {M : MS} {x1 : Int32} {x2 : Int32} {x3 : Int32} {post : Int32 → MS → Prop} (G : xG p s m args meth c cX6_cell 6 RX6 (some .int) wsX6_cell (dC, dI) (tyA cyI cyJ cyZ) r A) (h : p_X6_cell_51 M x1 x2 x3 post) {H : Heap} {locs : List Loc} {ls : Array Slot} (hP : va_P (dC, dI) vwCl (wM cyI cyJ cyZ b M) H) (hD : va_D A (wM cyI cyJ cyZ b M)) (hS : va_S A s.heap H locs) (hl : lv_has ls 6 [(0, .ref (b 0)), (1, .int x1), (2, .int x2), (3, .int x3)]) : W p l e { frames := 0, cells := 0, slots := 0, locals := 0 } s m args below meth c H locs 0 0 (MQ below (va_Qi post (xAt (dC, dI) (tyA cyI cyJ cyZ) (wM cyI cyJ cyZ b) A) A) args s 0 0 A) (F0 m 51 ls []) := by
  obtain ⟨hx, hb, hml, hown, hts, hr, hlocks, hK, hE, hA⟩ := id G
  unfold p_X6_cell_51 at h
  refine lv_iconst (v := 0) hx hb dX6_cell_51 (by decide) ?_
  exact t_X6_cell_52 G h hP hD hS (lv_sub hl [0, 1, 2, 3] rfl)
def p_X6_cell_27 (M : MS) (x1 : Int32) (x2 : Int32) (x3 : Int32) (t0 : Int32) (post : Int32 → MS → Prop) : Prop := (t0 = 0 → (p_X6_cell_51 M x1 x2 x3 post)) ∧ (¬ t0 = 0 → ((x2 < 0 → (p_X6_cell_51 M x1 x2 x3 post)) ∧ (¬ x2 < 0 → ((((1 : Int32) <<< (((1 : Int32) <<< (x1 &&& 31)) &&& 31)) ≤ x2 → (p_X6_cell_51 M x1 x2 x3 post)) ∧ (¬ ((1 : Int32) <<< (((1 : Int32) <<< (x1 &&& 31)) &&& 31)) ≤ x2 → (p_X6_cell_52 M x1 x2 x3 (1 : Int32) post))))))
set_option maxHeartbeats 1000000 in
set_option maxRecDepth 100000 in
theorem t_X6_cell_27 {p : Program} {l : Launch} {e : Env} {s : State} {m : MethodId} {args : Array Value} {below : List Frame} {meth : Method} {c : Code} {dC : Nat → ClassId} {dI : Nat → Nat → Nat} {cyI cyJ cyZ : ClassId} {r : Nat → Nat} {b : Nat → Nat} {A : Nat → Prop} {M : MS} {x1 : Int32} {x2 : Int32} {x3 : Int32} {t0 : Int32} {post : Int32 → MS → Prop} (G : xG p s m args meth c cX6_cell 6 RX6 (some .int) wsX6_cell (dC, dI) (tyA cyI cyJ cyZ) r A) (h : p_X6_cell_27 M x1 x2 x3 t0 post) {H : Heap} {locs : List Loc} {ls : Array Slot} (hP : va_P (dC, dI) vwCl (wM cyI cyJ cyZ b M) H) (hD : va_D A (wM cyI cyJ cyZ b M)) (hS : va_S A s.heap H locs) (hl : lv_has ls 6 [(0, .ref (b 0)), (1, .int x1), (2, .int x2), (3, .int x3)]) : W p l e { frames := 0, cells := 0, slots := 0, locals := 0 } s m args below meth c H locs 0 0 (MQ below (va_Qi post (xAt (dC, dI) (tyA cyI cyJ cyZ) (wM cyI cyJ cyZ b) A) A) args s 0 0 A) (F0 m 27 ls [.int t0]) := by
  obtain ⟨hx, hb, hml, hown, hts, hr, hlocks, hK, hE, hA⟩ := id G
  unfold p_X6_cell_27 at h
  refine lv_istore (lv' := [(4, .int t0), (0, .ref (b 0)), (1, .int x1), (2, .int x2), (3, .int x3)]) hx hb dX6_cell_27 hl (by decide) rfl (fun ls hl => ?_)
  refine lv_iload hx hb dX6_cell_29 (lv_at hl 0 rfl) ?_
  refine lv_if_eq (tgt := 51) hx hb dX6_cell_31 (by decide) (fun c2 => ?_) (fun c2 => ?_)
  · have h := h.1 c2
    exact t_X6_cell_51 G h hP hD hS (lv_sub hl [1, 2, 3, 4] rfl)
  · have h := h.2 c2
    refine lv_iload_n hx hb dX6_cell_34 rfl (lv_at hl 3 rfl) ?_
    refine lv_if_lt (tgt := 51) hx hb dX6_cell_35 (by decide) (fun c19 => ?_) (fun c19 => ?_)
    · have h := h.1 c19
      exact t_X6_cell_51 G h hP hD hS (lv_sub hl [1, 2, 3, 4] rfl)
    · have h := h.2 c19
      refine lv_iload_n hx hb dX6_cell_38 rfl (lv_at hl 3 rfl) ?_
      refine lv_iconst (v := 1) hx hb dX6_cell_39 (by decide) ?_
      refine lv_iconst (v := 1) hx hb dX6_cell_40 (by decide) ?_
      refine lv_iload_n hx hb dX6_cell_41 rfl (lv_at hl 2 rfl) ?_
      refine lv_ishl hx hb dX6_cell_42 ?_
      refine lv_ishl hx hb dX6_cell_43 ?_
      refine lv_icmp_ge (tgt := 51) hx hb dX6_cell_44 (by decide) (fun c20 => ?_) (fun c20 => ?_)
      · have h := h.1 c20
        exact t_X6_cell_51 G h hP hD hS (lv_sub hl [1, 2, 3, 4] rfl)
      · have h := h.2 c20
        refine lv_iconst (v := 1) hx hb dX6_cell_47 (by decide) ?_
        refine lv_goto (tgt := 52) hx hb dX6_cell_48 (by decide) ?_
        exact t_X6_cell_52 G h hP hD hS (lv_sub hl [1, 2, 3, 4] rfl)
def p_X6_cell_26 (M : MS) (x1 : Int32) (x2 : Int32) (x3 : Int32) (post : Int32 → MS → Prop) : Prop := p_X6_cell_27 M x1 x2 x3 (0 : Int32) post
set_option maxHeartbeats 1000000 in
set_option maxRecDepth 100000 in
theorem t_X6_cell_26 {p : Program} {l : Launch} {e : Env} {s : State} {m : MethodId} {args : Array Value} {below : List Frame} {meth : Method} {c : Code} {dC : Nat → ClassId} {dI : Nat → Nat → Nat} {cyI cyJ cyZ : ClassId} {r : Nat → Nat} {b : Nat → Nat} {A : Nat → Prop} {M : MS} {x1 : Int32} {x2 : Int32} {x3 : Int32} {post : Int32 → MS → Prop} (G : xG p s m args meth c cX6_cell 6 RX6 (some .int) wsX6_cell (dC, dI) (tyA cyI cyJ cyZ) r A) (h : p_X6_cell_26 M x1 x2 x3 post) {H : Heap} {locs : List Loc} {ls : Array Slot} (hP : va_P (dC, dI) vwCl (wM cyI cyJ cyZ b M) H) (hD : va_D A (wM cyI cyJ cyZ b M)) (hS : va_S A s.heap H locs) (hl : lv_has ls 6 [(0, .ref (b 0)), (1, .int x1), (2, .int x2), (3, .int x3)]) : W p l e { frames := 0, cells := 0, slots := 0, locals := 0 } s m args below meth c H locs 0 0 (MQ below (va_Qi post (xAt (dC, dI) (tyA cyI cyJ cyZ) (wM cyI cyJ cyZ b) A) A) args s 0 0 A) (F0 m 26 ls []) := by
  obtain ⟨hx, hb, hml, hown, hts, hr, hlocks, hK, hE, hA⟩ := id G
  unfold p_X6_cell_26 at h
  refine lv_iconst (v := 0) hx hb dX6_cell_26 (by decide) ?_
  exact t_X6_cell_27 G h hP hD hS (lv_sub hl [0, 1, 2, 3] rfl)
def p_X6_cell (M : MS) (x1 : Int32) (x2 : Int32) (x3 : Int32) (post : Int32 → MS → Prop) : Prop := (x1 < (1 : Int32) → (p_X6_cell_26 M x1 x2 x3 post)) ∧ (¬ x1 < (1 : Int32) → (((3 : Int32) < x1 → (p_X6_cell_26 M x1 x2 x3 post)) ∧ (¬ (3 : Int32) < x1 → ((x3 < (1 : Int32) → (p_X6_cell_26 M x1 x2 x3 post)) ∧ (¬ x3 < (1 : Int32) → (((1000 : Int32) < x3 → (p_X6_cell_26 M x1 x2 x3 post)) ∧ (¬ (1000 : Int32) < x3 → (p_X6_cell_27 M x1 x2 x3 (1 : Int32) post))))))))
set_option maxHeartbeats 1000000 in
set_option maxRecDepth 100000 in
theorem t_X6_cell {l : Launch} {dC : Nat → ClassId} {dI : Nat → Nat → Nat} {cyI cyJ cyZ : ClassId} {r : Nat → Nat} {b : Nat → Nat} {M : MS} {x1 : Int32} {x2 : Int32} {x3 : Int32} {post : Int32 → MS → Prop} (h : p_X6_cell M x1 x2 x3 post) : xMi l yX6_cell wsX6_cell { frames := 0, cells := 0, slots := 0, locals := 0 } (dC, dI) (tyA cyI cyJ cyZ) r (wM cyI cyJ cyZ b) [.ref (b 0), .int x1, .int x2, .int x3] M post 0 0 := by
  intro sz
  refine Met.ofW (cc := cX6_cell) (maxL := 6) (ret := (some .int)) (by decide) rfl ?_
  intro p e s m args below meth c s₁ B hml hv
  obtain ⟨rfl, G, hP, hD, hS⟩ := xG.of rfl B hml hv
  generalize hAe : va_A (wM cyI cyJ cyZ b M) sz = A at G hD hS ⊢
  have G : xG p s m _ meth c cX6_cell 6 RX6 (some .int) wsX6_cell (dC, dI) (tyA cyI cyJ cyZ) r A := G
  obtain ⟨hx, hb, hml, hown, hts, hr, hlocks, hK, hE, hA⟩ := id G
  have hl := lv_entry ([.ref (b 0), .int x1, .int x2, .int x3]) (n := 6) (Nat.le_of_ble_eq_true rfl)
  rw [lg_entry_eq]
  generalize (lg_sl ([.ref (b 0), .int x1, .int x2, .int x3]) ++ List.replicate (6 - (lg_sl ([.ref (b 0), .int x1, .int x2, .int x3])).length) Slot.unset).toArray = ls at hl ⊢
  have hl : lv_has ls 6 [(0, .ref (b 0)), (1, .int x1), (2, .int x2), (3, .int x3)] := hl
  show W p l e { frames := 0, cells := 0, slots := 0, locals := 0 } s m _ below meth c s.heap [] 0 0 _ _
  unfold p_X6_cell at h
  refine lv_iload_n hx hb dX6_cell_0 rfl (lv_at hl 1 rfl) ?_
  refine lv_iconst (v := 1) hx hb dX6_cell_1 (by decide) ?_
  refine lv_icmp_lt (tgt := 26) hx hb dX6_cell_2 (by decide) (fun c1 => ?_) (fun c1 => ?_)
  · have h := h.1 c1
    exact t_X6_cell_26 G h hP hD hS (lv_sub hl [0, 1, 2, 3] rfl)
  · have h := h.2 c1
    refine lv_iload_n hx hb dX6_cell_5 rfl (lv_at hl 1 rfl) ?_
    refine lv_iconst (v := 3) hx hb dX6_cell_6 (by decide) ?_
    refine lv_icmp_gt (tgt := 26) hx hb dX6_cell_7 (by decide) (fun c21 => ?_) (fun c21 => ?_)
    · have h := h.1 c21
      exact t_X6_cell_26 G h hP hD hS (lv_sub hl [0, 1, 2, 3] rfl)
    · have h := h.2 c21
      refine lv_iload_n hx hb dX6_cell_10 rfl (lv_at hl 3 rfl) ?_
      refine lv_iconst (v := 1) hx hb dX6_cell_11 (by decide) ?_
      refine lv_icmp_lt (tgt := 26) hx hb dX6_cell_12 (by decide) (fun c22 => ?_) (fun c22 => ?_)
      · have h := h.1 c22
        exact t_X6_cell_26 G h hP hD hS (lv_sub hl [0, 1, 2, 3] rfl)
      · have h := h.2 c22
        refine lv_iload_n hx hb dX6_cell_15 rfl (lv_at hl 3 rfl) ?_
        refine lv_sipush (v := 1000) hx hb dX6_cell_16 (by decide) ?_
        refine lv_icmp_gt (tgt := 26) hx hb dX6_cell_19 (by decide) (fun c23 => ?_) (fun c23 => ?_)
        · have h := h.1 c23
          exact t_X6_cell_26 G h hP hD hS (lv_sub hl [0, 1, 2, 3] rfl)
        · have h := h.2 c23
          refine lv_iconst (v := 1) hx hb dX6_cell_22 (by decide) ?_
          refine lv_goto (tgt := 27) hx hb dX6_cell_23 (by decide) ?_
          exact t_X6_cell_27 G h hP hD hS (lv_sub hl [0, 1, 2, 3] rfl)
def p_X6_delay_72 (M : MS) (x1 : Int32) (x2 : Int32) (x3 : Int32) (t0 : Int32) (post : Int32 → MS → Prop) : Prop := ∀ M6 : MS, M6 = (mTH_s M t0) → ((0 < (mTH M6) → (post (0 : Int32) M6)) ∧ (¬ 0 < (mTH M6) → (vp_in (((3 : Int32) * x1) + x2) 36 ∧ ((¬ ((mDE M6) (((3 : Int32) * x1) + x2).toNatClampNeg) = x3 → (vp_in (((3 : Int32) * x1) + x2) 36 ∧ (∀ M11 : MS, M11 = (mDE_s M6 (upd (mDE M6) (((3 : Int32) * x1) + x2).toNatClampNeg x3)) → (∀ M12 : MS, M12 = (mSL_s M11 (1 : Int32)) → (post (1 : Int32) M12))))) ∧ (((mDE M6) (((3 : Int32) * x1) + x2).toNatClampNeg) = x3 → (post (0 : Int32) M6))))))
set_option maxHeartbeats 1000000 in
set_option maxRecDepth 100000 in
theorem t_X6_delay_72 {p : Program} {l : Launch} {e : Env} {s : State} {m : MethodId} {args : Array Value} {below : List Frame} {meth : Method} {c : Code} {dC : Nat → ClassId} {dI : Nat → Nat → Nat} {cyI cyJ cyZ : ClassId} {r : Nat → Nat} {b : Nat → Nat} {A : Nat → Prop} {M : MS} {x1 : Int32} {x2 : Int32} {x3 : Int32} {t0 : Int32} {post : Int32 → MS → Prop} (G : xG p s m args meth c cX6_delay 5 RX6 (some .boolean) wsX6_delay (dC, dI) (tyA cyI cyJ cyZ) r A) (h : p_X6_delay_72 M x1 x2 x3 t0 post) {H : Heap} {locs : List Loc} {ls : Array Slot} (hP : va_P (dC, dI) vwCl (wM cyI cyJ cyZ b M) H) (hD : va_D A (wM cyI cyJ cyZ b M)) (hS : va_S A s.heap H locs) (hl : lv_has ls 5 [(0, .ref (b 0)), (1, .int x1), (2, .int x2), (3, .int x3)]) : W p l e { frames := 1, cells := 0, slots := 0, locals := 21 } s m args below meth c H locs 0 0 (MQ below (va_Qi post (xAt (dC, dI) (tyA cyI cyJ cyZ) (wM cyI cyJ cyZ b) A) A) args s 0 0 A) (F0 m 72 ls [.int t0, .ref (b 0)]) := by
  obtain ⟨hx, hb, hml, hown, hts, hr, hlocks, hK, hE, hA⟩ := id G
  have hiX6 : ∀ w ∈ wsX60, w ∈ wsX6_delay := by decide +kernel
  have hf75 := hts (.fieldLink RX6 75 "CellMappingModel" "thrown" "I") (by decide +kernel)
  have hf34 := hts (.fieldLink RX6 34 "CellMappingModel" "delays" "[I") (by decide +kernel)
  have hf89 := hts (.fieldLink RX6 89 "CellMappingModel" "stale" "Z") (by decide +kernel)
  unfold p_X6_delay_72 at h
  refine va_put (D := (dC, dI)) (ci := 5) (v := .int t0) (ty := .int) (C := RX6) (T := TX6) (N := 27) hx hb hts hiX6 tyX6 tyX6_ok nmX6 hown hK hP hD hS 0 rfl rfl 0 (by decide) hf75 (fun _ h9 => h9) rfl (by decide +kernel) rfl rfl (Nat.le_of_ble_eq_true rfl) dX6_delay_72 (fun H locs hP hD hS => ?_)
  obtain ⟨M6, eM6⟩ : ∃ z : MS, z = (mTH_s M t0) := ⟨_, rfl⟩
  have h := h M6 eM6
  have hP := nP_mTH eM6 hP
  have hD := nD_mTH eM6 hD
  refine lv_aload_n hx hb dX6_delay_75 rfl (lv_at hl 0 rfl) ?_
  refine va_get (D := (dC, dI)) (ci := 5) (v := .int (mTH M6)) (C := RX6) (T := TX6) (N := 27) hx hb hts hiX6 hown hK hP 0 rfl rfl 0 (by decide) hf75 (fun _ h9 => h9) rfl dX6_delay_76 ?_
  refine lv_if_gt (tgt := 96) hx hb dX6_delay_79 (by decide) (fun c7 => ?_) (fun c7 => ?_)
  · have h := h.1 c7
    refine lv_iconst (v := 0) hx hb dX6_delay_96 (by decide) ?_
    exact xr_z (S := M6) hx hb hr hlocks hK hP hD hS (by decide) h (Nat.le_of_ble_eq_true rfl) (Nat.le_of_ble_eq_true rfl) dX6_delay_97
  · have h := h.2 c7
    refine lv_aload_n hx hb dX6_delay_82 rfl (lv_at hl 0 rfl) ?_
    refine va_get (D := (dC, dI)) (ci := 5) (v := .ref (b 9)) (C := RX6) (T := TX6) (N := 27) hx hb hts hiX6 hown hK hP 0 rfl rfl 14 (by decide) hf34 (fun _ h9 => h9) rfl dX6_delay_83 ?_
    refine lv_iconst (v := 3) hx hb dX6_delay_86 (by decide) ?_
    refine lv_iload_n hx hb dX6_delay_87 rfl (lv_at hl 1 rfl) ?_
    refine lv_imul hx hb dX6_delay_88 ?_
    refine lv_iload_n hx hb dX6_delay_89 rfl (lv_at hl 2 rfl) ?_
    refine lv_iadd hx hb dX6_delay_90 ?_
    obtain ⟨i8, h⟩ := h
    refine va_iald (D := (dC, dI)) hx hb hK hP 9 0 rfl rfl i8 dX6_delay_91 ?_
    refine lv_iload_n hx hb dX6_delay_92 rfl (lv_at hl 3 rfl) ?_
    refine lv_icmp_ne (tgt := 98) hx hb dX6_delay_93 (by decide) (fun c9 => ?_) (fun c9 => ?_)
    · have h := h.1 c9
      refine lv_aload_n hx hb dX6_delay_98 rfl (lv_at hl 0 rfl) ?_
      refine va_get (D := (dC, dI)) (ci := 5) (v := .ref (b 9)) (C := RX6) (T := TX6) (N := 27) hx hb hts hiX6 hown hK hP 0 rfl rfl 14 (by decide) hf34 (fun _ h9 => h9) rfl dX6_delay_99 ?_
      refine lv_iconst (v := 3) hx hb dX6_delay_102 (by decide) ?_
      refine lv_iload_n hx hb dX6_delay_103 rfl (lv_at hl 1 rfl) ?_
      refine lv_imul hx hb dX6_delay_104 ?_
      refine lv_iload_n hx hb dX6_delay_105 rfl (lv_at hl 2 rfl) ?_
      refine lv_iadd hx hb dX6_delay_106 ?_
      refine lv_iload_n hx hb dX6_delay_107 rfl (lv_at hl 3 rfl) ?_
      obtain ⟨i10, h⟩ := h
      refine va_iast (D := (dC, dI)) hx hb hK hP hD hS 9 0 rfl rfl i10 dX6_delay_108 (fun H locs hP hD hS => ?_)
      obtain ⟨M11, eM11⟩ : ∃ z : MS, z = (mDE_s M6 (upd (mDE M6) (((3 : Int32) * x1) + x2).toNatClampNeg x3)) := ⟨_, rfl⟩
      have h := h M11 eM11
      have hP := nP_mDE eM11 hP
      have hD := nD_mDE eM11 hD
      refine lv_aload_n hx hb dX6_delay_109 rfl (lv_at hl 0 rfl) ?_
      refine lv_iconst (v := 1) hx hb dX6_delay_110 (by decide) ?_
      refine va_put (D := (dC, dI)) (ci := 5) (v := .int (1 : Int32)) (ty := .boolean) (C := RX6) (T := TX6) (N := 27) hx hb hts hiX6 tyX6 tyX6_ok nmX6 hown hK hP hD hS 0 rfl rfl 18 (by decide) hf89 (fun _ h9 => h9) rfl (by decide +kernel) rfl rfl (Nat.le_of_ble_eq_true rfl) dX6_delay_111 (fun H locs hP hD hS => ?_)
      obtain ⟨M12, eM12⟩ : ∃ z : MS, z = (mSL_s M11 (1 : Int32)) := ⟨_, rfl⟩
      have h := h M12 eM12
      have hP := nP_mSL eM12 hP
      have hD := nD_mSL eM12 hD
      refine lv_iconst (v := 1) hx hb dX6_delay_114 (by decide) ?_
      exact xr_z (S := M12) hx hb hr hlocks hK hP hD hS (by decide) h (Nat.le_of_ble_eq_true rfl) (Nat.le_of_ble_eq_true rfl) dX6_delay_115
    · have h := h.2 c9
      refine lv_iconst (v := 0) hx hb dX6_delay_96 (by decide) ?_
      exact xr_z (S := M6) hx hb hr hlocks hK hP hD hS (by decide) h (Nat.le_of_ble_eq_true rfl) (Nat.le_of_ble_eq_true rfl) dX6_delay_97
def p_X6_delay_71 (M : MS) (x1 : Int32) (x2 : Int32) (x3 : Int32) (post : Int32 → MS → Prop) : Prop := p_X6_delay_72 M x1 x2 x3 (2 : Int32) post
set_option maxHeartbeats 1000000 in
set_option maxRecDepth 100000 in
theorem t_X6_delay_71 {p : Program} {l : Launch} {e : Env} {s : State} {m : MethodId} {args : Array Value} {below : List Frame} {meth : Method} {c : Code} {dC : Nat → ClassId} {dI : Nat → Nat → Nat} {cyI cyJ cyZ : ClassId} {r : Nat → Nat} {b : Nat → Nat} {A : Nat → Prop} {M : MS} {x1 : Int32} {x2 : Int32} {x3 : Int32} {post : Int32 → MS → Prop} (G : xG p s m args meth c cX6_delay 5 RX6 (some .boolean) wsX6_delay (dC, dI) (tyA cyI cyJ cyZ) r A) (h : p_X6_delay_71 M x1 x2 x3 post) {H : Heap} {locs : List Loc} {ls : Array Slot} (hP : va_P (dC, dI) vwCl (wM cyI cyJ cyZ b M) H) (hD : va_D A (wM cyI cyJ cyZ b M)) (hS : va_S A s.heap H locs) (hl : lv_has ls 5 [(0, .ref (b 0)), (1, .int x1), (2, .int x2), (3, .int x3)]) : W p l e { frames := 1, cells := 0, slots := 0, locals := 21 } s m args below meth c H locs 0 0 (MQ below (va_Qi post (xAt (dC, dI) (tyA cyI cyJ cyZ) (wM cyI cyJ cyZ b) A) A) args s 0 0 A) (F0 m 71 ls [.ref (b 0)]) := by
  obtain ⟨hx, hb, hml, hown, hts, hr, hlocks, hK, hE, hA⟩ := id G
  unfold p_X6_delay_71 at h
  refine lv_iconst (v := 2) hx hb dX6_delay_71 (by decide) ?_
  exact t_X6_delay_72 G h hP hD hS (lv_sub hl [0, 1, 2, 3] rfl)
def p_X6_delay_44 (M : MS) (x1 : Int32) (x2 : Int32) (x3 : Int32) (t0 : Int32) (post : Int32 → MS → Prop) : Prop := (¬ t0 = 0 → ((x3 < 0 → (p_X6_delay_71 M x1 x2 x3 post)) ∧ (¬ x3 < 0 → (((1000 : Int32) < x3 → (p_X6_delay_71 M x1 x2 x3 post)) ∧ (¬ (1000 : Int32) < x3 → (p_X6_delay_72 M x1 x2 x3 (0 : Int32) post)))))) ∧ (t0 = 0 → (p_X6_delay_72 M x1 x2 x3 (1 : Int32) post))
set_option maxHeartbeats 1000000 in
set_option maxRecDepth 100000 in
theorem t_X6_delay_44 {p : Program} {l : Launch} {e : Env} {s : State} {m : MethodId} {args : Array Value} {below : List Frame} {meth : Method} {c : Code} {dC : Nat → ClassId} {dI : Nat → Nat → Nat} {cyI cyJ cyZ : ClassId} {r : Nat → Nat} {b : Nat → Nat} {A : Nat → Prop} {M : MS} {x1 : Int32} {x2 : Int32} {x3 : Int32} {t0 : Int32} {post : Int32 → MS → Prop} (G : xG p s m args meth c cX6_delay 5 RX6 (some .boolean) wsX6_delay (dC, dI) (tyA cyI cyJ cyZ) r A) (h : p_X6_delay_44 M x1 x2 x3 t0 post) {H : Heap} {locs : List Loc} {ls : Array Slot} (hP : va_P (dC, dI) vwCl (wM cyI cyJ cyZ b M) H) (hD : va_D A (wM cyI cyJ cyZ b M)) (hS : va_S A s.heap H locs) (hl : lv_has ls 5 [(0, .ref (b 0)), (1, .int x1), (2, .int x2), (3, .int x3)]) : W p l e { frames := 1, cells := 0, slots := 0, locals := 21 } s m args below meth c H locs 0 0 (MQ below (va_Qi post (xAt (dC, dI) (tyA cyI cyJ cyZ) (wM cyI cyJ cyZ b) A) A) args s 0 0 A) (F0 m 44 ls [.int t0]) := by
  obtain ⟨hx, hb, hml, hown, hts, hr, hlocks, hK, hE, hA⟩ := id G
  unfold p_X6_delay_44 at h
  refine lv_istore (lv' := [(4, .int t0), (0, .ref (b 0)), (1, .int x1), (2, .int x2), (3, .int x3)]) hx hb dX6_delay_44 hl (by decide) rfl (fun ls hl => ?_)
  refine lv_aload_n hx hb dX6_delay_46 rfl (lv_at hl 1 rfl) ?_
  refine lv_iload hx hb dX6_delay_47 (lv_at hl 0 rfl) ?_
  refine lv_if_ne (tgt := 56) hx hb dX6_delay_49 (by decide) (fun c4 => ?_) (fun c4 => ?_)
  · have h := h.1 c4
    refine lv_iload_n hx hb dX6_delay_56 rfl (lv_at hl 4 rfl) ?_
    refine lv_if_lt (tgt := 71) hx hb dX6_delay_57 (by decide) (fun c5 => ?_) (fun c5 => ?_)
    · have h := h.1 c5
      exact t_X6_delay_71 G h hP hD hS (lv_sub hl [1, 2, 3, 4] rfl)
    · have h := h.2 c5
      refine lv_iload_n hx hb dX6_delay_60 rfl (lv_at hl 4 rfl) ?_
      refine lv_sipush (v := 1000) hx hb dX6_delay_61 (by decide) ?_
      refine lv_icmp_gt (tgt := 71) hx hb dX6_delay_64 (by decide) (fun c13 => ?_) (fun c13 => ?_)
      · have h := h.1 c13
        exact t_X6_delay_71 G h hP hD hS (lv_sub hl [1, 2, 3, 4] rfl)
      · have h := h.2 c13
        refine lv_iconst (v := 0) hx hb dX6_delay_67 (by decide) ?_
        refine lv_goto (tgt := 72) hx hb dX6_delay_68 (by decide) ?_
        exact t_X6_delay_72 G h hP hD hS (lv_sub hl [1, 2, 3, 4] rfl)
  · have h := h.2 c4
    refine lv_iconst (v := 1) hx hb dX6_delay_52 (by decide) ?_
    refine lv_goto (tgt := 72) hx hb dX6_delay_53 (by decide) ?_
    exact t_X6_delay_72 G h hP hD hS (lv_sub hl [1, 2, 3, 4] rfl)
def p_X6_delay_43 (M : MS) (x1 : Int32) (x2 : Int32) (x3 : Int32) (post : Int32 → MS → Prop) : Prop := p_X6_delay_44 M x1 x2 x3 (0 : Int32) post
set_option maxHeartbeats 1000000 in
set_option maxRecDepth 100000 in
theorem t_X6_delay_43 {p : Program} {l : Launch} {e : Env} {s : State} {m : MethodId} {args : Array Value} {below : List Frame} {meth : Method} {c : Code} {dC : Nat → ClassId} {dI : Nat → Nat → Nat} {cyI cyJ cyZ : ClassId} {r : Nat → Nat} {b : Nat → Nat} {A : Nat → Prop} {M : MS} {x1 : Int32} {x2 : Int32} {x3 : Int32} {post : Int32 → MS → Prop} (G : xG p s m args meth c cX6_delay 5 RX6 (some .boolean) wsX6_delay (dC, dI) (tyA cyI cyJ cyZ) r A) (h : p_X6_delay_43 M x1 x2 x3 post) {H : Heap} {locs : List Loc} {ls : Array Slot} (hP : va_P (dC, dI) vwCl (wM cyI cyJ cyZ b M) H) (hD : va_D A (wM cyI cyJ cyZ b M)) (hS : va_S A s.heap H locs) (hl : lv_has ls 5 [(0, .ref (b 0)), (1, .int x1), (2, .int x2), (3, .int x3)]) : W p l e { frames := 1, cells := 0, slots := 0, locals := 21 } s m args below meth c H locs 0 0 (MQ below (va_Qi post (xAt (dC, dI) (tyA cyI cyJ cyZ) (wM cyI cyJ cyZ b) A) A) args s 0 0 A) (F0 m 43 ls []) := by
  obtain ⟨hx, hb, hml, hown, hts, hr, hlocks, hK, hE, hA⟩ := id G
  unfold p_X6_delay_43 at h
  refine lv_iconst (v := 0) hx hb dX6_delay_43 (by decide) ?_
  exact t_X6_delay_44 G h hP hD hS (lv_sub hl [0, 1, 2, 3] rfl)
def p_X6_delay_33 (M : MS) (x1 : Int32) (x2 : Int32) (x3 : Int32) (t0 : Int32) (t1 : Int32) (post : Int32 → MS → Prop) : Prop := p_X6_isIn M t1 t0 (fun r17 => (r17 = 0 → (p_X6_delay_43 M x1 x2 x3 post)) ∧ (¬ r17 = 0 → (p_X6_delay_44 M x1 x2 x3 (1 : Int32) post)))
set_option maxHeartbeats 1000000 in
set_option maxRecDepth 100000 in
theorem t_X6_delay_33 {p : Program} {l : Launch} {e : Env} {s : State} {m : MethodId} {args : Array Value} {below : List Frame} {meth : Method} {c : Code} {dC : Nat → ClassId} {dI : Nat → Nat → Nat} {cyI cyJ cyZ : ClassId} {r : Nat → Nat} {b : Nat → Nat} {A : Nat → Prop} {M : MS} {x1 : Int32} {x2 : Int32} {x3 : Int32} {t0 : Int32} {t1 : Int32} {post : Int32 → MS → Prop} (G : xG p s m args meth c cX6_delay 5 RX6 (some .boolean) wsX6_delay (dC, dI) (tyA cyI cyJ cyZ) r A) (h : p_X6_delay_33 M x1 x2 x3 t0 t1 post) {H : Heap} {locs : List Loc} {ls : Array Slot} (hP : va_P (dC, dI) vwCl (wM cyI cyJ cyZ b M) H) (hD : va_D A (wM cyI cyJ cyZ b M)) (hS : va_S A s.heap H locs) (hl : lv_has ls 5 [(0, .ref (b 0)), (1, .int x1), (2, .int x2), (3, .int x3)]) : W p l e { frames := 1, cells := 0, slots := 0, locals := 21 } s m args below meth c H locs 0 0 (MQ below (va_Qi post (xAt (dC, dI) (tyA cyI cyJ cyZ) (wM cyI cyJ cyZ b) A) A) args s 0 0 A) (F0 m 33 ls [.int t0, .int t1]) := by
  obtain ⟨hx, hb, hml, hown, hts, hr, hlocks, hK, hE, hA⟩ := id G
  unfold p_X6_delay_33 at h
  refine xc_Si (wf := wM cyI cyJ cyZ b) (wr := []) (isC := [0, 1, 2, 3, 4, 5, 6, 7, 8, 9, 10, 11, 12, 13, 14, 15, 16, 17, 18, 19, 20]) (isR := []) (As := [.int t1, .int t0]) (rest := []) ⟨hx, hb, hml, hown, hts⟩ (t_X6_isIn h) (va_cwS 2 hts gX6_delay_X6_isIn rfl rfl rfl (by decide +kernel) ⟨Nat.le_of_ble_eq_true rfl, Nat.le_of_ble_eq_true rfl⟩) ⟨hK, hE, hA, hP, hD, hS, rfl, rfl, rfl, rfl, by decide⟩ rfl rfl hl.1 (Nat.le_of_ble_eq_true rfl) dX6_delay_33 ⟨Nat.le_of_ble_eq_true rfl, Nat.le_of_ble_eq_true rfl⟩ (fun r17 S18 H locs h hP hD hS => ?_)
  obtain ⟨rfl, h⟩ := h
  have hP : va_P (dC, dI) vwCl (wM cyI cyJ cyZ b M) H := hP
  have hD : va_D A (wM cyI cyJ cyZ b M) := hD
  refine lv_if_eq (tgt := 43) hx hb dX6_delay_36 (by decide) (fun c19 => ?_) (fun c19 => ?_)
  · have h := h.1 c19
    exact t_X6_delay_43 G h hP hD hS (lv_sub hl [0, 1, 2, 3] rfl)
  · have h := h.2 c19
    refine lv_iconst (v := 1) hx hb dX6_delay_39 (by decide) ?_
    refine lv_goto (tgt := 44) hx hb dX6_delay_40 (by decide) ?_
    exact t_X6_delay_44 G h hP hD hS (lv_sub hl [0, 1, 2, 3] rfl)
def p_X6_delay (M : MS) (x1 : Int32) (x2 : Int32) (x3 : Int32) (post : Int32 → MS → Prop) : Prop := p_X6_isIn M x1 (mCE M) (fun r1 => (r1 = 0 → (p_X6_delay_43 M x1 x2 x3 post)) ∧ (¬ r1 = 0 → (p_X6_isIn M x1 (mCE M) (fun r14 => (r14 = 0 → (p_X6_delay_33 M x1 x2 x3 (0 : Int32) x2 post)) ∧ (¬ r14 = 0 → (vp_in x1 12 ∧ (p_X6_delay_33 M x1 x2 x3 ((mPI M) x1.toNatClampNeg) x2 post)))))))
set_option maxHeartbeats 1000000 in
set_option maxRecDepth 100000 in
theorem t_X6_delay {l : Launch} {dC : Nat → ClassId} {dI : Nat → Nat → Nat} {cyI cyJ cyZ : ClassId} {r : Nat → Nat} {b : Nat → Nat} {M : MS} {x1 : Int32} {x2 : Int32} {x3 : Int32} {post : Int32 → MS → Prop} (h : p_X6_delay M x1 x2 x3 post) : xMi l yX6_delay wsX6_delay { frames := 1, cells := 0, slots := 0, locals := 21 } (dC, dI) (tyA cyI cyJ cyZ) r (wM cyI cyJ cyZ b) [.ref (b 0), .int x1, .int x2, .int x3] M post 0 0 := by
  intro sz
  refine Met.ofW (cc := cX6_delay) (maxL := 5) (ret := (some .boolean)) (by decide) rfl ?_
  intro p e s m args below meth c s₁ B hml hv
  obtain ⟨rfl, G, hP, hD, hS⟩ := xG.of rfl B hml hv
  generalize hAe : va_A (wM cyI cyJ cyZ b M) sz = A at G hD hS ⊢
  have G : xG p s m _ meth c cX6_delay 5 RX6 (some .boolean) wsX6_delay (dC, dI) (tyA cyI cyJ cyZ) r A := G
  obtain ⟨hx, hb, hml, hown, hts, hr, hlocks, hK, hE, hA⟩ := id G
  have hiX6 : ∀ w ∈ wsX60, w ∈ wsX6_delay := by decide +kernel
  have hf145 := hts (.fieldLink RX6 145 "CellMappingModel" "cells" "I") (by decide +kernel)
  have hf25 := hts (.fieldLink RX6 25 "CellMappingModel" "pins" "[I") (by decide +kernel)
  have hl := lv_entry ([.ref (b 0), .int x1, .int x2, .int x3]) (n := 5) (Nat.le_of_ble_eq_true rfl)
  rw [lg_entry_eq]
  generalize (lg_sl ([.ref (b 0), .int x1, .int x2, .int x3]) ++ List.replicate (5 - (lg_sl ([.ref (b 0), .int x1, .int x2, .int x3])).length) Slot.unset).toArray = ls at hl ⊢
  have hl : lv_has ls 5 [(0, .ref (b 0)), (1, .int x1), (2, .int x2), (3, .int x3)] := hl
  show W p l e { frames := 1, cells := 0, slots := 0, locals := 21 } s m _ below meth c s.heap [] 0 0 _ _
  unfold p_X6_delay at h
  refine lv_iload_n hx hb dX6_delay_0 rfl (lv_at hl 1 rfl) ?_
  refine lv_aload_n hx hb dX6_delay_1 rfl (lv_at hl 0 rfl) ?_
  refine va_get (D := (dC, dI)) (ci := 5) (v := .int (mCE M)) (C := RX6) (T := TX6) (N := 27) hx hb hts hiX6 hown hK hP 0 rfl rfl 10 (by decide) hf145 (fun _ h9 => h9) rfl dX6_delay_2 ?_
  refine xc_Si (wf := wM cyI cyJ cyZ b) (wr := []) (isC := [0, 1, 2, 3, 4, 5, 6, 7, 8, 9, 10, 11, 12, 13, 14, 15, 16, 17, 18, 19, 20]) (isR := []) (As := [.int x1, .int (mCE M)]) (rest := []) ⟨hx, hb, hml, hown, hts⟩ (t_X6_isIn h) (va_cwS 2 hts gX6_delay_X6_isIn rfl rfl rfl (by decide +kernel) ⟨Nat.le_of_ble_eq_true rfl, Nat.le_of_ble_eq_true rfl⟩) ⟨hK, hE, hA, hP, hD, hS, rfl, rfl, rfl, rfl, by decide⟩ rfl rfl hl.1 (Nat.le_of_ble_eq_true rfl) dX6_delay_5 ⟨Nat.le_of_ble_eq_true rfl, Nat.le_of_ble_eq_true rfl⟩ (fun r1 S2 H locs h hP hD hS => ?_)
  obtain ⟨rfl, h⟩ := h
  have hP : va_P (dC, dI) vwCl (wM cyI cyJ cyZ b M) H := hP
  have hD : va_D A (wM cyI cyJ cyZ b M) := hD
  refine lv_if_eq (tgt := 43) hx hb dX6_delay_8 (by decide) (fun c3 => ?_) (fun c3 => ?_)
  · have h := h.1 c3
    exact t_X6_delay_43 G h hP hD hS (lv_sub hl [0, 1, 2, 3] rfl)
  · have h := h.2 c3
    refine lv_iload_n hx hb dX6_delay_11 rfl (lv_at hl 2 rfl) ?_
    refine lv_iload_n hx hb dX6_delay_12 rfl (lv_at hl 1 rfl) ?_
    refine lv_aload_n hx hb dX6_delay_13 rfl (lv_at hl 0 rfl) ?_
    refine va_get (D := (dC, dI)) (ci := 5) (v := .int (mCE M)) (C := RX6) (T := TX6) (N := 27) hx hb hts hiX6 hown hK hP 0 rfl rfl 10 (by decide) hf145 (fun _ h9 => h9) rfl dX6_delay_14 ?_
    refine xc_Si (wf := wM cyI cyJ cyZ b) (wr := []) (isC := [0, 1, 2, 3, 4, 5, 6, 7, 8, 9, 10, 11, 12, 13, 14, 15, 16, 17, 18, 19, 20]) (isR := []) (As := [.int x1, .int (mCE M)]) (rest := [.int x2]) ⟨hx, hb, hml, hown, hts⟩ (t_X6_isIn h) (va_cwS 2 hts gX6_delay_X6_isIn rfl rfl rfl (by decide +kernel) ⟨Nat.le_of_ble_eq_true rfl, Nat.le_of_ble_eq_true rfl⟩) ⟨hK, hE, hA, hP, hD, hS, rfl, rfl, rfl, rfl, by decide⟩ rfl rfl hl.1 (Nat.le_of_ble_eq_true rfl) dX6_delay_17 ⟨Nat.le_of_ble_eq_true rfl, Nat.le_of_ble_eq_true rfl⟩ (fun r14 S15 H locs h hP hD hS => ?_)
    obtain ⟨rfl, h⟩ := h
    have hP : va_P (dC, dI) vwCl (wM cyI cyJ cyZ b M) H := hP
    have hD : va_D A (wM cyI cyJ cyZ b M) := hD
    refine lv_if_eq (tgt := 32) hx hb dX6_delay_20 (by decide) (fun c16 => ?_) (fun c16 => ?_)
    · have h := h.1 c16
      refine lv_iconst (v := 0) hx hb dX6_delay_32 (by decide) ?_
      exact t_X6_delay_33 G h hP hD hS (lv_sub hl [0, 1, 2, 3] rfl)
    · have h := h.2 c16
      refine lv_aload_n hx hb dX6_delay_23 rfl (lv_at hl 0 rfl) ?_
      refine va_get (D := (dC, dI)) (ci := 5) (v := .ref (b 6)) (C := RX6) (T := TX6) (N := 27) hx hb hts hiX6 hown hK hP 0 rfl rfl 11 (by decide) hf25 (fun _ h9 => h9) rfl dX6_delay_24 ?_
      refine lv_iload_n hx hb dX6_delay_27 rfl (lv_at hl 1 rfl) ?_
      obtain ⟨i20, h⟩ := h
      refine va_iald (D := (dC, dI)) hx hb hK hP 6 0 rfl rfl i20 dX6_delay_28 ?_
      refine lv_goto (tgt := 33) hx hb dX6_delay_29 (by decide) ?_
      exact t_X6_delay_33 G h hP hD hS (lv_sub hl [0, 1, 2, 3] rfl)
def p_X6_arrives_32 (M : MS) (x1 : Int32) (x2 : Int32) (t0 : Int32) (post : Int32 → MS → Prop) : Prop := ∀ M5 : MS, M5 = (mTH_s M t0) → ((0 < (mTH M5) → (post (0 : Int32) M5)) ∧ (¬ 0 < (mTH M5) → (vp_in x1 8 ∧ ((¬ ((mTI M5) x1.toNatClampNeg) = x2 → (vp_in x1 8 ∧ (∀ M10 : MS, M10 = (mTI_s M5 (upd (mTI M5) x1.toNatClampNeg x2)) → (∀ M11 : MS, M11 = (mSL_s M10 (1 : Int32)) → (post (1 : Int32) M11))))) ∧ (((mTI M5) x1.toNatClampNeg) = x2 → (post (0 : Int32) M5))))))
set_option maxHeartbeats 1000000 in
set_option maxRecDepth 100000 in
theorem t_X6_arrives_32 {p : Program} {l : Launch} {e : Env} {s : State} {m : MethodId} {args : Array Value} {below : List Frame} {meth : Method} {c : Code} {dC : Nat → ClassId} {dI : Nat → Nat → Nat} {cyI cyJ cyZ : ClassId} {r : Nat → Nat} {b : Nat → Nat} {A : Nat → Prop} {M : MS} {x1 : Int32} {x2 : Int32} {t0 : Int32} {post : Int32 → MS → Prop} (G : xG p s m args meth c cX6_arrives 3 RX6 (some .boolean) wsX6_arrives (dC, dI) (tyA cyI cyJ cyZ) r A) (h : p_X6_arrives_32 M x1 x2 t0 post) {H : Heap} {locs : List Loc} {ls : Array Slot} (hP : va_P (dC, dI) vwCl (wM cyI cyJ cyZ b M) H) (hD : va_D A (wM cyI cyJ cyZ b M)) (hS : va_S A s.heap H locs) (hl : lv_has ls 3 [(0, .ref (b 0)), (1, .int x1), (2, .int x2)]) : W p l e { frames := 1, cells := 0, slots := 0, locals := 21 } s m args below meth c H locs 0 0 (MQ below (va_Qi post (xAt (dC, dI) (tyA cyI cyJ cyZ) (wM cyI cyJ cyZ b) A) A) args s 0 0 A) (F0 m 32 ls [.int t0, .ref (b 0)]) := by
  obtain ⟨hx, hb, hml, hown, hts, hr, hlocks, hK, hE, hA⟩ := id G
  have hiX6 : ∀ w ∈ wsX60, w ∈ wsX6_arrives := by decide +kernel
  have hf75 := hts (.fieldLink RX6 75 "CellMappingModel" "thrown" "I") (by decide +kernel)
  have hf19 := hts (.fieldLink RX6 19 "CellMappingModel" "times" "[I") (by decide +kernel)
  have hf89 := hts (.fieldLink RX6 89 "CellMappingModel" "stale" "Z") (by decide +kernel)
  unfold p_X6_arrives_32 at h
  refine va_put (D := (dC, dI)) (ci := 5) (v := .int t0) (ty := .int) (C := RX6) (T := TX6) (N := 27) hx hb hts hiX6 tyX6 tyX6_ok nmX6 hown hK hP hD hS 0 rfl rfl 0 (by decide) hf75 (fun _ h9 => h9) rfl (by decide +kernel) rfl rfl (Nat.le_of_ble_eq_true rfl) dX6_arrives_32 (fun H locs hP hD hS => ?_)
  obtain ⟨M5, eM5⟩ : ∃ z : MS, z = (mTH_s M t0) := ⟨_, rfl⟩
  have h := h M5 eM5
  have hP := nP_mTH eM5 hP
  have hD := nD_mTH eM5 hD
  refine lv_aload_n hx hb dX6_arrives_35 rfl (lv_at hl 0 rfl) ?_
  refine va_get (D := (dC, dI)) (ci := 5) (v := .int (mTH M5)) (C := RX6) (T := TX6) (N := 27) hx hb hts hiX6 hown hK hP 0 rfl rfl 0 (by decide) hf75 (fun _ h9 => h9) rfl dX6_arrives_36 ?_
  refine lv_if_gt (tgt := 52) hx hb dX6_arrives_39 (by decide) (fun c6 => ?_) (fun c6 => ?_)
  · have h := h.1 c6
    refine lv_iconst (v := 0) hx hb dX6_arrives_52 (by decide) ?_
    exact xr_z (S := M5) hx hb hr hlocks hK hP hD hS (by decide) h (Nat.le_of_ble_eq_true rfl) (Nat.le_of_ble_eq_true rfl) dX6_arrives_53
  · have h := h.2 c6
    refine lv_aload_n hx hb dX6_arrives_42 rfl (lv_at hl 0 rfl) ?_
    refine va_get (D := (dC, dI)) (ci := 5) (v := .ref (b 4)) (C := RX6) (T := TX6) (N := 27) hx hb hts hiX6 hown hK hP 0 rfl rfl 7 (by decide) hf19 (fun _ h9 => h9) rfl dX6_arrives_43 ?_
    refine lv_iload_n hx hb dX6_arrives_46 rfl (lv_at hl 1 rfl) ?_
    obtain ⟨i7, h⟩ := h
    refine va_iald (D := (dC, dI)) hx hb hK hP 4 0 rfl rfl i7 dX6_arrives_47 ?_
    refine lv_iload_n hx hb dX6_arrives_48 rfl (lv_at hl 2 rfl) ?_
    refine lv_icmp_ne (tgt := 54) hx hb dX6_arrives_49 (by decide) (fun c8 => ?_) (fun c8 => ?_)
    · have h := h.1 c8
      refine lv_aload_n hx hb dX6_arrives_54 rfl (lv_at hl 0 rfl) ?_
      refine va_get (D := (dC, dI)) (ci := 5) (v := .ref (b 4)) (C := RX6) (T := TX6) (N := 27) hx hb hts hiX6 hown hK hP 0 rfl rfl 7 (by decide) hf19 (fun _ h9 => h9) rfl dX6_arrives_55 ?_
      refine lv_iload_n hx hb dX6_arrives_58 rfl (lv_at hl 1 rfl) ?_
      refine lv_iload_n hx hb dX6_arrives_59 rfl (lv_at hl 2 rfl) ?_
      obtain ⟨i9, h⟩ := h
      refine va_iast (D := (dC, dI)) hx hb hK hP hD hS 4 0 rfl rfl i9 dX6_arrives_60 (fun H locs hP hD hS => ?_)
      obtain ⟨M10, eM10⟩ : ∃ z : MS, z = (mTI_s M5 (upd (mTI M5) x1.toNatClampNeg x2)) := ⟨_, rfl⟩
      have h := h M10 eM10
      have hP := nP_mTI eM10 hP
      have hD := nD_mTI eM10 hD
      refine lv_aload_n hx hb dX6_arrives_61 rfl (lv_at hl 0 rfl) ?_
      refine lv_iconst (v := 1) hx hb dX6_arrives_62 (by decide) ?_
      refine va_put (D := (dC, dI)) (ci := 5) (v := .int (1 : Int32)) (ty := .boolean) (C := RX6) (T := TX6) (N := 27) hx hb hts hiX6 tyX6 tyX6_ok nmX6 hown hK hP hD hS 0 rfl rfl 18 (by decide) hf89 (fun _ h9 => h9) rfl (by decide +kernel) rfl rfl (Nat.le_of_ble_eq_true rfl) dX6_arrives_63 (fun H locs hP hD hS => ?_)
      obtain ⟨M11, eM11⟩ : ∃ z : MS, z = (mSL_s M10 (1 : Int32)) := ⟨_, rfl⟩
      have h := h M11 eM11
      have hP := nP_mSL eM11 hP
      have hD := nD_mSL eM11 hD
      refine lv_iconst (v := 1) hx hb dX6_arrives_66 (by decide) ?_
      exact xr_z (S := M11) hx hb hr hlocks hK hP hD hS (by decide) h (Nat.le_of_ble_eq_true rfl) (Nat.le_of_ble_eq_true rfl) dX6_arrives_67
    · have h := h.2 c8
      refine lv_iconst (v := 0) hx hb dX6_arrives_52 (by decide) ?_
      exact xr_z (S := M5) hx hb hr hlocks hK hP hD hS (by decide) h (Nat.le_of_ble_eq_true rfl) (Nat.le_of_ble_eq_true rfl) dX6_arrives_53
def p_X6_arrives_31 (M : MS) (x1 : Int32) (x2 : Int32) (post : Int32 → MS → Prop) : Prop := p_X6_arrives_32 M x1 x2 (2 : Int32) post
set_option maxHeartbeats 1000000 in
set_option maxRecDepth 100000 in
theorem t_X6_arrives_31 {p : Program} {l : Launch} {e : Env} {s : State} {m : MethodId} {args : Array Value} {below : List Frame} {meth : Method} {c : Code} {dC : Nat → ClassId} {dI : Nat → Nat → Nat} {cyI cyJ cyZ : ClassId} {r : Nat → Nat} {b : Nat → Nat} {A : Nat → Prop} {M : MS} {x1 : Int32} {x2 : Int32} {post : Int32 → MS → Prop} (G : xG p s m args meth c cX6_arrives 3 RX6 (some .boolean) wsX6_arrives (dC, dI) (tyA cyI cyJ cyZ) r A) (h : p_X6_arrives_31 M x1 x2 post) {H : Heap} {locs : List Loc} {ls : Array Slot} (hP : va_P (dC, dI) vwCl (wM cyI cyJ cyZ b M) H) (hD : va_D A (wM cyI cyJ cyZ b M)) (hS : va_S A s.heap H locs) (hl : lv_has ls 3 [(0, .ref (b 0)), (1, .int x1), (2, .int x2)]) : W p l e { frames := 1, cells := 0, slots := 0, locals := 21 } s m args below meth c H locs 0 0 (MQ below (va_Qi post (xAt (dC, dI) (tyA cyI cyJ cyZ) (wM cyI cyJ cyZ b) A) A) args s 0 0 A) (F0 m 31 ls [.ref (b 0)]) := by
  obtain ⟨hx, hb, hml, hown, hts, hr, hlocks, hK, hE, hA⟩ := id G
  unfold p_X6_arrives_31 at h
  refine lv_iconst (v := 2) hx hb dX6_arrives_31 (by decide) ?_
  exact t_X6_arrives_32 G h hP hD hS (lv_sub hl [0, 1, 2] rfl)
def p_X6_arrives (M : MS) (x1 : Int32) (x2 : Int32) (post : Int32 → MS → Prop) : Prop := p_X6_isIn M x1 (mIP M) (fun r1 => (¬ r1 = 0 → ((x2 < 0 → (p_X6_arrives_31 M x1 x2 post)) ∧ (¬ x2 < 0 → (((1000 : Int32) < x2 → (p_X6_arrives_31 M x1 x2 post)) ∧ (¬ (1000 : Int32) < x2 → (p_X6_arrives_32 M x1 x2 (0 : Int32) post)))))) ∧ (r1 = 0 → (p_X6_arrives_32 M x1 x2 (1 : Int32) post)))
set_option maxHeartbeats 1000000 in
set_option maxRecDepth 100000 in
theorem t_X6_arrives {l : Launch} {dC : Nat → ClassId} {dI : Nat → Nat → Nat} {cyI cyJ cyZ : ClassId} {r : Nat → Nat} {b : Nat → Nat} {M : MS} {x1 : Int32} {x2 : Int32} {post : Int32 → MS → Prop} (h : p_X6_arrives M x1 x2 post) : xMi l yX6_arrives wsX6_arrives { frames := 1, cells := 0, slots := 0, locals := 21 } (dC, dI) (tyA cyI cyJ cyZ) r (wM cyI cyJ cyZ b) [.ref (b 0), .int x1, .int x2] M post 0 0 := by
  intro sz
  refine Met.ofW (cc := cX6_arrives) (maxL := 3) (ret := (some .boolean)) (by decide) rfl ?_
  intro p e s m args below meth c s₁ B hml hv
  obtain ⟨rfl, G, hP, hD, hS⟩ := xG.of rfl B hml hv
  generalize hAe : va_A (wM cyI cyJ cyZ b M) sz = A at G hD hS ⊢
  have G : xG p s m _ meth c cX6_arrives 3 RX6 (some .boolean) wsX6_arrives (dC, dI) (tyA cyI cyJ cyZ) r A := G
  obtain ⟨hx, hb, hml, hown, hts, hr, hlocks, hK, hE, hA⟩ := id G
  have hiX6 : ∀ w ∈ wsX60, w ∈ wsX6_arrives := by decide +kernel
  have hf86 := hts (.fieldLink RX6 86 "CellMappingModel" "inputs" "I") (by decide +kernel)
  have hl := lv_entry ([.ref (b 0), .int x1, .int x2]) (n := 3) (Nat.le_of_ble_eq_true rfl)
  rw [lg_entry_eq]
  generalize (lg_sl ([.ref (b 0), .int x1, .int x2]) ++ List.replicate (3 - (lg_sl ([.ref (b 0), .int x1, .int x2])).length) Slot.unset).toArray = ls at hl ⊢
  have hl : lv_has ls 3 [(0, .ref (b 0)), (1, .int x1), (2, .int x2)] := hl
  show W p l e { frames := 1, cells := 0, slots := 0, locals := 21 } s m _ below meth c s.heap [] 0 0 _ _
  unfold p_X6_arrives at h
  refine lv_aload_n hx hb dX6_arrives_0 rfl (lv_at hl 0 rfl) ?_
  refine lv_iload_n hx hb dX6_arrives_1 rfl (lv_at hl 1 rfl) ?_
  refine lv_aload_n hx hb dX6_arrives_2 rfl (lv_at hl 0 rfl) ?_
  refine va_get (D := (dC, dI)) (ci := 5) (v := .int (mIP M)) (C := RX6) (T := TX6) (N := 27) hx hb hts hiX6 hown hK hP 0 rfl rfl 2 (by decide) hf86 (fun _ h9 => h9) rfl dX6_arrives_3 ?_
  refine xc_Si (wf := wM cyI cyJ cyZ b) (wr := []) (isC := [0, 1, 2, 3, 4, 5, 6, 7, 8, 9, 10, 11, 12, 13, 14, 15, 16, 17, 18, 19, 20]) (isR := []) (As := [.int x1, .int (mIP M)]) (rest := [.ref (b 0)]) ⟨hx, hb, hml, hown, hts⟩ (t_X6_isIn h) (va_cwS 2 hts gX6_arrives_X6_isIn rfl rfl rfl (by decide +kernel) ⟨Nat.le_of_ble_eq_true rfl, Nat.le_of_ble_eq_true rfl⟩) ⟨hK, hE, hA, hP, hD, hS, rfl, rfl, rfl, rfl, by decide⟩ rfl rfl hl.1 (Nat.le_of_ble_eq_true rfl) dX6_arrives_6 ⟨Nat.le_of_ble_eq_true rfl, Nat.le_of_ble_eq_true rfl⟩ (fun r1 S2 H locs h hP hD hS => ?_)
  obtain ⟨rfl, h⟩ := h
  have hP : va_P (dC, dI) vwCl (wM cyI cyJ cyZ b M) H := hP
  have hD : va_D A (wM cyI cyJ cyZ b M) := hD
  refine lv_if_ne (tgt := 16) hx hb dX6_arrives_9 (by decide) (fun c3 => ?_) (fun c3 => ?_)
  · have h := h.1 c3
    refine lv_iload_n hx hb dX6_arrives_16 rfl (lv_at hl 2 rfl) ?_
    refine lv_if_lt (tgt := 31) hx hb dX6_arrives_17 (by decide) (fun c4 => ?_) (fun c4 => ?_)
    · have h := h.1 c4
      exact t_X6_arrives_31 G h hP hD hS (lv_sub hl [0, 1, 2] rfl)
    · have h := h.2 c4
      refine lv_iload_n hx hb dX6_arrives_20 rfl (lv_at hl 2 rfl) ?_
      refine lv_sipush (v := 1000) hx hb dX6_arrives_21 (by decide) ?_
      refine lv_icmp_gt (tgt := 31) hx hb dX6_arrives_24 (by decide) (fun c12 => ?_) (fun c12 => ?_)
      · have h := h.1 c12
        exact t_X6_arrives_31 G h hP hD hS (lv_sub hl [0, 1, 2] rfl)
      · have h := h.2 c12
        refine lv_iconst (v := 0) hx hb dX6_arrives_27 (by decide) ?_
        refine lv_goto (tgt := 32) hx hb dX6_arrives_28 (by decide) ?_
        exact t_X6_arrives_32 G h hP hD hS (lv_sub hl [0, 1, 2] rfl)
  · have h := h.2 c3
    refine lv_iconst (v := 1) hx hb dX6_arrives_12 (by decide) ?_
    refine lv_goto (tgt := 32) hx hb dX6_arrives_13 (by decide) ?_
    exact t_X6_arrives_32 G h hP hD hS (lv_sub hl [0, 1, 2] rfl)
