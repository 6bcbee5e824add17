def p_X2_isInput (S : CS) (x1 : Int32) (post : Int32 → Prop) : Prop := vp_in x1 32 ∧ ((((cIN S) x1.toNatClampNeg) = (-1 : Int32) → (post (0 : Int32))) ∧ (¬ ((cIN S) x1.toNatClampNeg) = (-1 : Int32) → (post (1 : Int32))))
set_option maxHeartbeats 1000000 in
set_option maxRecDepth 100000 in
theorem t_X2_isInput {l : Launch} {dC : Nat → ClassId} {dI : Nat → Nat → Nat} {cyI cyJ cyZ : ClassId} {r : Nat → Nat} {a : Nat → Nat} {S : CS} {x1 : Int32} {post : Int32 → Prop} (h : p_X2_isInput S x1 post) : xMi l yX2_isInput wsX2_isInput { frames := 0, cells := 0, slots := 0, locals := 0 } (dC, dI) (tyA cyI cyJ cyZ) r (wC cyI cyJ cyZ a) [.ref (a 1), .int x1] S (fun x u => S = u ∧ post x) 0 0 := by
  intro sz
  refine Met.ofW (cc := cX2_isInput) (maxL := 2) (ret := (some .boolean)) (by decide) rfl ?_
  intro p e s m args below meth c s₁ B hml hv
  obtain ⟨rfl, G, hP, hD, hS⟩ := xG.of rfl B hml hv
  generalize hAe : va_A (wC cyI cyJ cyZ a S) sz = A at G hD hS ⊢
  have G : xG p s m _ meth c cX2_isInput 2 RX2 (some .boolean) wsX2_isInput (dC, dI) (tyA cyI cyJ cyZ) r A := G
  obtain ⟨hx, hb, hml, hown, hts, hr, hlocks, hK, hE, hA⟩ := id G
  have hiX2 : ∀ w ∈ wsX20, w ∈ wsX2_isInput := by decide +kernel
  have hf11 := hts (.fieldLink RX2 11 "CellMapping$Graph" "inputNumber" "[I") (by decide +kernel)
  have hl := lv_entry ([.ref (a 1), .int x1]) (n := 2) (Nat.le_of_ble_eq_true rfl)
  rw [lg_entry_eq]
  generalize (lg_sl ([.ref (a 1), .int x1]) ++ List.replicate (2 - (lg_sl ([.ref (a 1), .int x1])).length) Slot.unset).toArray = ls at hl ⊢
  have hl : lv_has ls 2 [(0, .ref (a 1)), (1, .int x1)] := hl
  show W p l e { frames := 0, cells := 0, slots := 0, locals := 0 } s m _ below meth c s.heap [] 0 0 _ _
  unfold p_X2_isInput at h
  refine lv_aload_n hx hb dX2_isInput_0 rfl (lv_at hl 0 rfl) ?_
  refine va_get (D := (dC, dI)) (ci := 2) (v := .ref (a 6)) (C := RX2) (T := TX2) (N := 6) hx hb hts hiX2 hown hK hP 1 rfl rfl 0 (by decide) hf11 (fun _ h9 => h9) rfl dX2_isInput_1 ?_
  refine lv_iload_n hx hb dX2_isInput_4 rfl (lv_at hl 1 rfl) ?_
  obtain ⟨i1, h⟩ := h
  refine va_iald (D := (dC, dI)) hx hb hK hP 6 0 rfl rfl i1 dX2_isInput_5 ?_
  refine lv_iconst (v := -1) hx hb dX2_isInput_6 (by decide) ?_
  refine lv_icmp_eq (tgt := 14) hx hb dX2_isInput_7 (by decide) (fun c2 => ?_) (fun c2 => ?_)
  · have h := h.1 c2
    refine lv_iconst (v := 0) hx hb dX2_isInput_14 (by decide) ?_
    exact xr_z (S := S) hx hb hr hlocks hK hP hD hS (by decide) ⟨rfl, h⟩ (Nat.le_of_ble_eq_true rfl) (Nat.le_of_ble_eq_true rfl) dX2_isInput_15
  · have h := h.2 c2
    refine lv_iconst (v := 1) hx hb dX2_isInput_10 (by decide) ?_
    refine lv_goto (tgt := 15) hx hb dX2_isInput_11 (by decide) ?_
    exact xr_z (S := S) hx hb hr hlocks hK hP hD hS (by decide) ⟨rfl, h⟩ (Nat.le_of_ble_eq_true rfl) (Nat.le_of_ble_eq_true rfl) dX2_isInput_15
def p_X2_isPlainInput (S : CS) (x1 : Int32) (post : Int32 → Prop) : Prop := (¬ (x1 &&& (1 : Int32)) = 0 → (post (0 : Int32))) ∧ ((x1 &&& (1 : Int32)) = 0 → (p_X2_isInput S (x1 >>> ((1 : Int32) &&& 31)) (fun r2 => (r2 = 0 → (post (0 : Int32))) ∧ (¬ r2 = 0 → (post (1 : Int32))))))
set_option maxHeartbeats 1000000 in
set_option maxRecDepth 100000 in
theorem t_X2_isPlainInput {l : Launch} {dC : Nat → ClassId} {dI : Nat → Nat → Nat} {cyI cyJ cyZ : ClassId} {r : Nat → Nat} {a : Nat → Nat} {S : CS} {x1 : Int32} {post : Int32 → Prop} (h : p_X2_isPlainInput S x1 post) : xMi l yX2_isPlainInput wsX2_isPlainInput { frames := 1, cells := 0, slots := 0, locals := 21 } (dC, dI) (tyA cyI cyJ cyZ) r (wC cyI cyJ cyZ a) [.ref (a 1), .int x1] S (fun x u => S = u ∧ post x) 0 0 := by
  intro sz
  refine Met.ofW (cc := cX2_isPlainInput) (maxL := 2) (ret := (some .boolean)) (by decide) rfl ?_
  intro p e s m args below meth c s₁ B hml hv
  obtain ⟨rfl, G, hP, hD, hS⟩ := xG.of rfl B hml hv
  generalize hAe : va_A (wC cyI cyJ cyZ a S) sz = A at G hD hS ⊢
  have G : xG p s m _ meth c cX2_isPlainInput 2 RX2 (some .boolean) wsX2_isPlainInput (dC, dI) (tyA cyI cyJ cyZ) r A := G
  obtain ⟨hx, hb, hml, hown, hts, hr, hlocks, hK, hE, hA⟩ := id G
  have hl := lv_entry ([.ref (a 1), .int x1]) (n := 2) (Nat.le_of_ble_eq_true rfl)
  rw [lg_entry_eq]
  generalize (lg_sl ([.ref (a 1), .int x1]) ++ List.replicate (2 - (lg_sl ([.ref (a 1), .int x1])).length) Slot.unset).toArray = ls at hl ⊢
  have hl : lv_has ls 2 [(0, .ref (a 1)), (1, .int x1)] := hl
  show W p l e { frames := 1, cells := 0, slots := 0, locals := 21 } s m _ below meth c s.heap [] 0 0 _ _
  unfold p_X2_isPlainInput at h
  refine lv_iload_n hx hb dX2_isPlainInput_0 rfl (lv_at hl 1 rfl) ?_
  refine lv_iconst (v := 1) hx hb dX2_isPlainInput_1 (by decide) ?_
  refine lv_iand hx hb dX2_isPlainInput_2 ?_
  refine lv_if_ne (tgt := 20) hx hb dX2_isPlainInput_3 (by decide) (fun c1 => ?_) (fun c1 => ?_)
  · have h := h.1 c1
    refine lv_iconst (v := 0) hx hb dX2_isPlainInput_20 (by decide) ?_
    exact xr_z (S := S) hx hb hr hlocks hK hP hD hS (by decide) ⟨rfl, h⟩ (Nat.le_of_ble_eq_true rfl) (Nat.le_of_ble_eq_true rfl) dX2_isPlainInput_21
  · have h := h.2 c1
    refine lv_aload_n hx hb dX2_isPlainInput_6 rfl (lv_at hl 0 rfl) ?_
    refine lv_iload_n hx hb dX2_isPlainInput_7 rfl (lv_at hl 1 rfl) ?_
    refine lv_iconst (v := 1) hx hb dX2_isPlainInput_8 (by decide) ?_
    refine lv_ishr hx hb dX2_isPlainInput_9 ?_
    refine xc_Vi (wf := wC cyI cyJ cyZ a) (wr := []) (isC := [0, 1, 2, 3, 4, 5, 6, 7, 8, 9, 10, 11, 12, 13, 14, 15, 16, 17, 18, 19, 20]) (isR := []) (As := [.int (x1 >>> ((1 : Int32) &&& 31))]) (rest := []) ⟨hx, hb, hml, hown, hts⟩ (t_X2_isInput h) (cwV 1 hts gX2_isPlainInput_X2_isInput rfl rfl rfl (by decide +kernel) ⟨Nat.le_of_ble_eq_true rfl, Nat.le_of_ble_eq_true rfl⟩) ⟨hK, hE, hA, hP, hD, hS, rfl, rfl, rfl, rfl, by decide⟩ ⟨1, 2, _, _, rfl, rfl, rfl⟩ rfl rfl hl.1 (Nat.le_of_ble_eq_true rfl) dX2_isPlainInput_10 ⟨Nat.le_of_ble_eq_true rfl, Nat.le_of_ble_eq_true rfl⟩ (fun r2 S3 H locs h hP hD hS => ?_)
    obtain ⟨rfl, h⟩ := h
    have hP : va_P (dC, dI) vwCl (wC cyI cyJ cyZ a S) H := hP
    have hD : va_D A (wC cyI cyJ cyZ a S) := hD
    refine lv_if_eq (tgt := 20) hx hb dX2_isPlainInput_13 (by decide) (fun c4 => ?_) (fun c4 => ?_)
    · have h := h.1 c4
      refine lv_iconst (v := 0) hx hb dX2_isPlainInput_20 (by decide) ?_
      exact xr_z (S := S) hx hb hr hlocks hK hP hD hS (by decide) ⟨rfl, h⟩ (Nat.le_of_ble_eq_true rfl) (Nat.le_of_ble_eq_true rfl) dX2_isPlainInput_21
    · have h := h.2 c4
      refine lv_iconst (v := 1) hx hb dX2_isPlainInput_16 (by decide) ?_
      refine lv_goto (tgt := 21) hx hb dX2_isPlainInput_17 (by decide) ?_
      exact xr_z (S := S) hx hb hr hlocks hK hP hD hS (by decide) ⟨rfl, h⟩ (Nat.le_of_ble_eq_true rfl) (Nat.le_of_ble_eq_true rfl) dX2_isPlainInput_21
def p_X2_inputValue (S : CS) (x1 : Int32) (x2 : Int32) (post : Int32 → Prop) : Prop := vp_in x1 32 ∧ (post ((ushr x2 ((cIN S) x1.toNatClampNeg)) &&& (1 : Int32)))
set_option maxHeartbeats 1000000 in
set_option maxRecDepth 100000 in
theorem t_X2_inputValue {l : Launch} {dC : Nat → ClassId} {dI : Nat → Nat → Nat} {cyI cyJ cyZ : ClassId} {r : Nat → Nat} {a : Nat → Nat} {S : CS} {x1 : Int32} {x2 : Int32} {post : Int32 → Prop} (h : p_X2_inputValue S x1 x2 post) : xMi l yX2_inputValue wsX2_inputValue { frames := 0, cells := 0, slots := 0, locals := 0 } (dC, dI) (tyA cyI cyJ cyZ) r (wC cyI cyJ cyZ a) [.ref (a 1), .int x1, .int x2] S (fun x u => S = u ∧ post x) 0 0 := by
  intro sz
  refine Met.ofW (cc := cX2_inputValue) (maxL := 3) (ret := (some .int)) (by decide) rfl ?_
  intro p e s m args below meth c s₁ B hml hv
  obtain ⟨rfl, G, hP, hD, hS⟩ := xG.of rfl B hml hv
  generalize hAe : va_A (wC cyI cyJ cyZ a S) sz = A at G hD hS ⊢
  have G : xG p s m _ meth c cX2_inputValue 3 RX2 (some .int) wsX2_inputValue (dC, dI) (tyA cyI cyJ cyZ) r A := G
  obtain ⟨hx, hb, hml, hown, hts, hr, hlocks, hK, hE, hA⟩ := id G
  have hiX2 : ∀ w ∈ wsX20, w ∈ wsX2_inputValue := by decide +kernel
  have hf11 := hts (.fieldLink RX2 11 "CellMapping$Graph" "inputNumber" "[I") (by decide +kernel)
  have hl := lv_entry ([.ref (a 1), .int x1, .int x2]) (n := 3) (Nat.le_of_ble_eq_true rfl)
  rw [lg_entry_eq]
  generalize (lg_sl ([.ref (a 1), .int x1, .int x2]) ++ List.replicate (3 - (lg_sl ([.ref (a 1), .int x1, .int x2])).length) Slot.unset).toArray = ls at hl ⊢
  have hl : lv_has ls 3 [(0, .ref (a 1)), (1, .int x1), (2, .int x2)] := hl
  show W p l e { frames := 0, cells := 0, slots := 0, locals := 0 } s m _ below meth c s.heap [] 0 0 _ _
  unfold p_X2_inputValue at h
  refine lv_iload_n hx hb dX2_inputValue_0 rfl (lv_at hl 2 rfl) ?_
  refine lv_aload_n hx hb dX2_inputValue_1 rfl (lv_at hl 0 rfl) ?_
  refine va_get (D := (dC, dI)) (ci := 2) (v := .ref (a 6)) (C := RX2) (T := TX2) (N := 6) hx hb hts hiX2 hown hK hP 1 rfl rfl 0 (by decide) hf11 (fun _ h9 => h9) rfl dX2_inputValue_2 ?_
  refine lv_iload_n hx hb dX2_inputValue_5 rfl (lv_at hl 1 rfl) ?_
  obtain ⟨i1, h⟩ := h
  refine va_iald (D := (dC, dI)) hx hb hK hP 6 0 rfl rfl i1 dX2_inputValue_6 ?_
  refine lv_iushr (v := (ushr x2 ((cIN S) x1.toNatClampNeg))) hx hb dX2_inputValue_7 rfl ?_
  refine lv_iconst (v := 1) hx hb dX2_inputValue_8 (by decide) ?_
  refine lv_iand hx hb dX2_inputValue_9 ?_
  exact xr_i (S := S) hx hb hr hlocks hK hP hD hS ⟨rfl, h⟩ (Nat.le_of_ble_eq_true rfl) (Nat.le_of_ble_eq_true rfl) dX2_inputValue_10
def p_X2_read (S : CS) (x0 : Int32) (x1 : Int32) (post : Int32 → Prop) : Prop := post (((ushr x0 (x1 >>> ((1 : Int32) &&& 31))) ^^^ x1) &&& (1 : Int32))
set_option maxHeartbeats 1000000 in
set_option maxRecDepth 100000 in
theorem t_X2_read {l : Launch} {dC : Nat → ClassId} {dI : Nat → Nat → Nat} {cyI cyJ cyZ : ClassId} {r : Nat → Nat} {a : Nat → Nat} {S : CS} {x0 : Int32} {x1 : Int32} {post : Int32 → Prop} (h : p_X2_read S x0 x1 post) : xMi l yX2_read wsX2_read { frames := 0, cells := 0, slots := 0, locals := 0 } (dC, dI) (tyA cyI cyJ cyZ) r (wC cyI cyJ cyZ a) [.int x0, .int x1] S (fun x u => S = u ∧ post x) 0 0 := by
  intro sz
  refine Met.ofW (cc := cX2_read) (maxL := 2) (ret := (some .int)) (by decide) rfl ?_
  intro p e s m args below meth c s₁ B hml hv
  obtain ⟨rfl, G, hP, hD, hS⟩ := xG.of rfl B hml hv
  generalize hAe : va_A (wC cyI cyJ cyZ a S) sz = A at G hD hS ⊢
  have G : xG p s m _ meth c cX2_read 2 RX2 (some .int) wsX2_read (dC, dI) (tyA cyI cyJ cyZ) r A := G
  obtain ⟨hx, hb, hml, hown, hts, hr, hlocks, hK, hE, hA⟩ := id G
  have hl := lv_entry ([.int x0, .int x1]) (n := 2) (Nat.le_of_ble_eq_true rfl)
  rw [lg_entry_eq]
  generalize (lg_sl ([.int x0, .int x1]) ++ List.replicate (2 - (lg_sl ([.int x0, .int x1])).length) Slot.unset).toArray = ls at hl ⊢
  have hl : lv_has ls 2 [(0, .int x0), (1, .int x1)] := hl
  show W p l e { frames := 0, cells := 0, slots := 0, locals := 0 } s m _ below meth c s.heap [] 0 0 _ _
  unfold p_X2_read at h
  refine lv_iload_n hx hb dX2_read_0 rfl (lv_at hl 0 rfl) ?_
  refine lv_iload_n hx hb dX2_read_1 rfl (lv_at hl 1 rfl) ?_
  refine lv_iconst (v := 1) hx hb dX2_read_2 (by decide) ?_
  refine lv_ishr hx hb dX2_read_3 ?_
  refine lv_iushr (v := (ushr x0 (x1 >>> ((1 : Int32) &&& 31)))) hx hb dX2_read_4 rfl ?_
  refine lv_iload_n hx hb dX2_read_5 rfl (lv_at hl 1 rfl) ?_
  refine lv_ixor hx hb dX2_read_6 ?_
  refine lv_iconst (v := 1) hx hb dX2_read_7 (by decide) ?_
  refine lv_iand hx hb dX2_read_8 ?_
  exact xr_i (S := S) hx hb hr hlocks hK hP hD hS ⟨rfl, h⟩ (Nat.le_of_ble_eq_true rfl) (Nat.le_of_ble_eq_true rfl) dX2_read_9
def p_X2_evaluate_55 (g5 : Int32 → Int32 → Prop) (S : CS) (x1 : Int32) (x2 : Int32) (x3 : Int32) (x4 : Int32) (t0 : Int32) (post : Int32 → Prop) : Prop := ∀ y13 : Int32, y13 = (x3 ||| (t0 <<< (x4 &&& 31))) → (∀ y14 : Int32, y14 = (x4 + (1 : Int32)) → (g5 y13 y14))
set_option maxHeartbeats 1000000 in
set_option maxRecDepth 100000 in
theorem t_X2_evaluate_55 {p : Program} {l : Launch} {e : Env} {s : State} {m : MethodId} {args : Array Value} {below : List Frame} {meth : Method} {c : Code} {dC : Nat → ClassId} {dI : Nat → Nat → Nat} {cyI cyJ cyZ : ClassId} {r : Nat → Nat} {a : Nat → Nat} {A : Nat → Prop} {g5 : Int32 → Int32 → Prop} {S : CS} {x1 : Int32} {x2 : Int32} {x3 : Int32} {x4 : Int32} {t0 : Int32} {post : Int32 → Prop} (G : xG p s m args meth c cX2_evaluate 6 RX2 (some .int) wsX2_evaluate (dC, dI) (tyA cyI cyJ cyZ) r A) (k5 : ∀ (x3' : Int32) (x4' : Int32) (H : Heap) (locs : List Loc) (ls : Array Slot), g5 x3' x4' → va_P (dC, dI) vwCl (wC cyI cyJ cyZ a S) H → va_D A (wC cyI cyJ cyZ a S) → va_S A s.heap H locs → lv_has ls 6 [(0, .ref (a 1)), (1, .int x1), (2, .int x2), (3, .int x3'), (4, .int x4')] → W p l e { frames := 1, cells := 0, slots := 0, locals := 22 } s m args below meth c H locs 0 0 (MQ below (va_Qi (fun x u => S = u ∧ post x) (xAt (dC, dI) (tyA cyI cyJ cyZ) (wC cyI cyJ cyZ a) A) A) args s 0 0 A) (F0 m 5 ls [])) (h : p_X2_evaluate_55 g5 S x1 x2 x3 x4 t0 post) {H : Heap} {locs : List Loc} {ls : Array Slot} (hP : va_P (dC, dI) vwCl (wC cyI cyJ cyZ a S) H) (hD : va_D A (wC cyI cyJ cyZ a S)) (hS : va_S A s.heap H locs) (hl : lv_has ls 6 [(0, .ref (a 1)), (1, .int x1), (2, .int x2), (3, .int x3), (4, .int x4)]) : W p l e { frames := 1, cells := 0, slots := 0, locals := 22 } s m args below meth c H locs 0 0 (MQ below (va_Qi (fun x u => S = u ∧ post x) (xAt (dC, dI) (tyA cyI cyJ cyZ) (wC cyI cyJ cyZ a) A) A) args s 0 0 A) (F0 m 55 ls [.int t0]) := by
  obtain ⟨hx, hb, hml, hown, hts, hr, hlocks, hK, hE, hA⟩ := id G
  unfold p_X2_evaluate_55 at h
  refine lv_istore (lv' := [(5, .int t0), (0, .ref (a 1)), (1, .int x1), (2, .int x2), (3, .int x3), (4, .int x4)]) hx hb dX2_evaluate_55 hl (by decide) rfl (fun ls hl => ?_)
  refine lv_iload_n hx hb dX2_evaluate_57 rfl (lv_at hl 4 rfl) ?_
  refine lv_iload hx hb dX2_evaluate_58 (lv_at hl 0 rfl) ?_
  refine lv_iload hx hb dX2_evaluate_60 (lv_at hl 5 rfl) ?_
  refine lv_ishl hx hb dX2_evaluate_62 ?_
  refine lv_ior hx hb dX2_evaluate_63 ?_
  refine lv_topi (fun y13 ey13 => ?_)
  have h := h y13 ey13
  refine lv_istore_n (lv' := [(3, .int y13), (5, .int t0), (0, .ref (a 1)), (1, .int x1), (2, .int x2), (4, .int x4)]) hx hb dX2_evaluate_64 rfl hl (by decide) rfl (fun ls hl => ?_)
  obtain ⟨y14, ey14⟩ : ∃ z : Int32, z = (x4 + (1 : Int32)) := ⟨_, rfl⟩
  have h := h y14 ey14
  refine lv_iinc (v := y14) (lv' := [(4, .int y14), (3, .int y13), (5, .int t0), (0, .ref (a 1)), (1, .int x1), (2, .int x2)]) hx hb dX2_evaluate_65 hl (k := 5) rfl (by rw [ey14]; rfl) (by decide) rfl (fun ls hl => ?_)
  refine lv_goto (tgt := 5) hx hb dX2_evaluate_68 (by decide) ?_
  exact k5 y13 y14 H locs ls h hP hD hS (lv_sub hl [3, 4, 5, 1, 0] rfl)
def b_X2_evaluate_5 (S : CS) (x1 : Int32) (x2 : Int32) (post : Int32 → Prop) (g5 : Int32 → Int32 → Prop) (x3 : Int32) (x4 : Int32) : Prop := ((x1 >>> ((1 : Int32) &&& 31)) < x4 → (p_X2_read S x3 x1 (fun r2 => post r2))) ∧ (¬ (x1 >>> ((1 : Int32) &&& 31)) < x4 → (p_X2_isInput S x4 (fun r4 => (r4 = 0 → (vp_in x4 32 ∧ (p_X2_read S x3 ((cLE S) x4.toNatClampNeg) (fun r8 => vp_in x4 32 ∧ (p_X2_read S x3 ((cRI S) x4.toNatClampNeg) (fun r11 => p_X2_evaluate_55 g5 S x1 x2 x3 x4 (r8 &&& r11) post)))))) ∧ (¬ r4 = 0 → (p_X2_inputValue S x4 x2 (fun r15 => p_X2_evaluate_55 g5 S x1 x2 x3 x4 r15 post))))))
def p_X2_evaluate_5 (S : CS) (x1 : Int32) (x2 : Int32) (x3 : Int32) (x4 : Int32) (post : Int32 → Prop) : Prop := ∃ (I : Int32 → Int32 → Prop) (mu : Int32 → Int32 → Nat), I x3 x4 ∧ ∀ (x3 : Int32) (x4 : Int32), I x3 x4 → b_X2_evaluate_5 S x1 x2 post (fun x3' x4' => I x3' x4' ∧ mu x3' x4' < mu x3 x4) x3 x4
set_option maxHeartbeats 1000000 in
set_option maxRecDepth 100000 in
theorem t_X2_evaluate_5 {p : Program} {l : Launch} {e : Env} {s : State} {m : MethodId} {args : Array Value} {below : List Frame} {meth : Method} {c : Code} {dC : Nat → ClassId} {dI : Nat → Nat → Nat} {cyI cyJ cyZ : ClassId} {r : Nat → Nat} {a : Nat → Nat} {A : Nat → Prop} {S : CS} {x1 : Int32} {x2 : Int32} {x3 : Int32} {x4 : Int32} {post : Int32 → Prop} (G : xG p s m args meth c cX2_evaluate 6 RX2 (some .int) wsX2_evaluate (dC, dI) (tyA cyI cyJ cyZ) r A) (h : p_X2_evaluate_5 S x1 x2 x3 x4 post) {H : Heap} {locs : List Loc} {ls : Array Slot} (hP : va_P (dC, dI) vwCl (wC cyI cyJ cyZ a S) H) (hD : va_D A (wC cyI cyJ cyZ a S)) (hS : va_S A s.heap H locs) (hl : lv_has ls 6 [(0, .ref (a 1)), (1, .int x1), (2, .int x2), (3, .int x3), (4, .int x4)]) : W p l e { frames := 1, cells := 0, slots := 0, locals := 22 } s m args below meth c H locs 0 0 (MQ below (va_Qi (fun x u => S = u ∧ post x) (xAt (dC, dI) (tyA cyI cyJ cyZ) (wC cyI cyJ cyZ a) A) A) args s 0 0 A) (F0 m 5 ls []) := by
  obtain ⟨hx, hb, hml, hown, hts, hr, hlocks, hK, hE, hA⟩ := id G
  have hiX2 : ∀ w ∈ wsX20, w ∈ wsX2_evaluate := by decide +kernel
  have hf15 := hts (.fieldLink RX2 15 "CellMapping$Graph" "left" "[I") (by decide +kernel)
  have hf18 := hts (.fieldLink RX2 18 "CellMapping$Graph" "right" "[I") (by decide +kernel)
  obtain ⟨I, mu, h0, hstep⟩ := h
  suffices hgo : ∀ (n : Nat) (x3 : Int32) (x4 : Int32), I x3 x4 → mu x3 x4 < n → ∀ (H : Heap) (locs : List Loc) (ls : Array Slot), va_P (dC, dI) vwCl (wC cyI cyJ cyZ a S) H → va_D A (wC cyI cyJ cyZ a S) → va_S A s.heap H locs → lv_has ls 6 [(0, .ref (a 1)), (1, .int x1), (2, .int x2), (3, .int x3), (4, .int x4)] → W p l e { frames := 1, cells := 0, slots := 0, locals := 22 } s m args below meth c H locs 0 0 (MQ below (va_Qi (fun x u => S = u ∧ post x) (xAt (dC, dI) (tyA cyI cyJ cyZ) (wC cyI cyJ cyZ a) A) A) args s 0 0 A) (F0 m 5 ls []) from hgo (mu x3 x4 + 1) x3 x4 h0 (Nat.lt_succ_self _) H locs ls hP hD hS hl
  clear h0 hP hD hS hl
  intro n
  induction n with
  | zero => intro x3 x4 _ h; exact absurd h (Nat.not_lt_zero _)
  | succ n ih =>
    intro x3 x4 hI hmu H locs ls hP hD hS hl
    have h := hstep x3 x4 hI
    unfold b_X2_evaluate_5 at h
    have k5 : ∀ (x3' : Int32) (x4' : Int32) (H : Heap) (locs : List Loc) (ls : Array Slot), (fun x3' x4' => I x3' x4' ∧ mu x3' x4' < mu x3 x4) x3' x4' → va_P (dC, dI) vwCl (wC cyI cyJ cyZ a S) H → va_D A (wC cyI cyJ cyZ a S) → va_S A s.heap H locs → lv_has ls 6 [(0, .ref (a 1)), (1, .int x1), (2, .int x2), (3, .int x3'), (4, .int x4')] → W p l e { frames := 1, cells := 0, slots := 0, locals := 22 } s m args below meth c H locs 0 0 (MQ below (va_Qi (fun x u => S = u ∧ post x) (xAt (dC, dI) (tyA cyI cyJ cyZ) (wC cyI cyJ cyZ a) A) A) args s 0 0 A) (F0 m 5 ls []) := fun x3' x4' H locs ls hh hP hD hS hl => ih x3' x4' hh.1 (Nat.lt_of_lt_of_le hh.2 (Nat.le_of_lt_succ hmu)) H locs ls hP hD hS hl
    generalize (fun x3' x4' => I x3' x4' ∧ mu x3' x4' < mu x3 x4) = g5 at h k5
    refine lv_iload hx hb dX2_evaluate_5 (lv_at hl 4 rfl) ?_
    refine lv_iload_n hx hb dX2_evaluate_7 rfl (lv_at hl 1 rfl) ?_
    refine lv_iconst (v := 1) hx hb dX2_evaluate_8 (by decide) ?_
    refine lv_ishr hx hb dX2_evaluate_9 ?_
    refine lv_icmp_gt (tgt := 71) hx hb dX2_evaluate_10 (by decide) (fun c1 => ?_) (fun c1 => ?_)
    · have h := h.1 c1
      refine lv_iload_n hx hb dX2_evaluate_71 rfl (lv_at hl 3 rfl) ?_
      refine lv_iload_n hx hb dX2_evaluate_72 rfl (lv_at hl 1 rfl) ?_
      refine xc_Si (wf := wC cyI cyJ cyZ a) (wr := []) (isC := [0, 1, 2, 3, 4, 5, 6, 7, 8, 9, 10, 11, 12, 13, 14, 15, 16, 17, 18, 19, 20]) (isR := []) (As := [.int x3, .int x1]) (rest := []) ⟨hx, hb, hml, hown, hts⟩ (t_X2_read h) (va_cwS 2 hts gX2_evaluate_X2_read rfl rfl rfl (by decide +kernel) ⟨Nat.le_of_ble_eq_true rfl, Nat.le_of_ble_eq_true rfl⟩) ⟨hK, hE, hA, hP, hD, hS, rfl, rfl, rfl, rfl, by decide⟩ rfl rfl hl.1 (Nat.le_of_ble_eq_true rfl) dX2_evaluate_73 ⟨Nat.le_of_ble_eq_true rfl, Nat.le_of_ble_eq_true rfl⟩ (fun r2 S3 H locs h hP hD hS => ?_)
      obtain ⟨rfl, h⟩ := h
      have hP : va_P (dC, dI) vwCl (wC cyI cyJ cyZ a S) H := hP
      have hD : va_D A (wC cyI cyJ cyZ a S) := hD
      exact xr_i (S := S) hx hb hr hlocks hK hP hD hS ⟨rfl, h⟩ (Nat.le_of_ble_eq_true rfl) (Nat.le_of_ble_eq_true rfl) dX2_evaluate_76
    · have h := h.2 c1
      refine lv_aload_n hx hb dX2_evaluate_13 rfl (lv_at hl 0 rfl) ?_
      refine lv_iload hx hb dX2_evaluate_14 (lv_at hl 4 rfl) ?_
      refine xc_Vi (wf := wC cyI cyJ cyZ a) (wr := []) (isC := [0, 1, 2, 3, 4, 5, 6, 7, 8, 9, 10, 11, 12, 13, 14, 15, 16, 17, 18, 19, 20]) (isR := []) (As := [.int x4]) (rest := []) ⟨hx, hb, hml, hown, hts⟩ (t_X2_isInput h) (cwV 1 hts gX2_evaluate_X2_isInput rfl rfl rfl (by decide +kernel) ⟨Nat.le_of_ble_eq_true rfl, Nat.le_of_ble_eq_true rfl⟩) ⟨hK, hE, hA, hP, hD, hS, rfl, rfl, rfl, rfl, by decide⟩ ⟨1, 2, _, _, rfl, rfl, rfl⟩ rfl rfl hl.1 (Nat.le_of_ble_eq_true rfl) dX2_evaluate_16 ⟨Nat.le_of_ble_eq_true rfl, Nat.le_of_ble_eq_true rfl⟩ (fun r4 S5 H locs h hP hD hS => ?_)
      obtain ⟨rfl, h⟩ := h
      have hP : va_P (dC, dI) vwCl (wC cyI cyJ cyZ a S) H := hP
      have hD : va_D A (wC cyI cyJ cyZ a S) := hD
      refine lv_if_eq (tgt := 32) hx hb dX2_evaluate_19 (by decide) (fun c6 => ?_) (fun c6 => ?_)
      · have h := h.1 c6
        refine lv_iload_n hx hb dX2_evaluate_32 rfl (lv_at hl 3 rfl) ?_
        refine lv_aload_n hx hb dX2_evaluate_33 rfl (lv_at hl 0 rfl) ?_
        refine va_get (D := (dC, dI)) (ci := 2) (v := .ref (a 7)) (C := RX2) (T := TX2) (N := 6) hx hb hts hiX2 hown hK hP 1 rfl rfl 1 (by decide) hf15 (fun _ h9 => h9) rfl dX2_evaluate_34 ?_
        refine lv_iload hx hb dX2_evaluate_37 (lv_at hl 4 rfl) ?_
        obtain ⟨i7, h⟩ := h
        refine va_iald (D := (dC, dI)) hx hb hK hP 7 0 rfl rfl i7 dX2_evaluate_39 ?_
        refine xc_Si (wf := wC cyI cyJ cyZ a) (wr := []) (isC := [0, 1, 2, 3, 4, 5, 6, 7, 8, 9, 10, 11, 12, 13, 14, 15, 16, 17, 18, 19, 20]) (isR := []) (As := [.int x3, .int ((cLE S) x4.toNatClampNeg)]) (rest := []) ⟨hx, hb, hml, hown, hts⟩ (t_X2_read h) (va_cwS 2 hts gX2_evaluate_X2_read rfl rfl rfl (by decide +kernel) ⟨Nat.le_of_ble_eq_true rfl, Nat.le_of_ble_eq_true rfl⟩) ⟨hK, hE, hA, hP, hD, hS, rfl, rfl, rfl, rfl, by decide⟩ rfl rfl hl.1 (Nat.le_of_ble_eq_true rfl) dX2_evaluate_40 ⟨Nat.le_of_ble_eq_true rfl, Nat.le_of_ble_eq_true rfl⟩ (fun r8 S9 H locs h hP hD hS => ?_)
        obtain ⟨rfl, h⟩ := h
        have hP : va_P (dC, dI) vwCl (wC cyI cyJ cyZ a S) H := hP
        have hD : va_D A (wC cyI cyJ cyZ a S) := hD
        refine lv_iload_n hx hb dX2_evaluate_43 rfl (lv_at hl 3 rfl) ?_
        refine lv_aload_n hx hb dX2_evaluate_44 rfl (lv_at hl 0 rfl) ?_
        refine va_get (D := (dC, dI)) (ci := 2) (v := .ref (a 8)) (C := RX2) (T := TX2) (N := 6) hx hb hts hiX2 hown hK hP 1 rfl rfl 2 (by decide) hf18 (fun _ h9 => h9) rfl dX2_evaluate_45 ?_
        refine lv_iload hx hb dX2_evaluate_48 (lv_at hl 4 rfl) ?_
        obtain ⟨i10, h⟩ := h
        refine va_iald (D := (dC, dI)) hx hb hK hP 8 0 rfl rfl i10 dX2_evaluate_50 ?_
        refine xc_Si (wf := wC cyI cyJ cyZ a) (wr := []) (isC := [0, 1, 2, 3, 4, 5, 6, 7, 8, 9, 10, 11, 12, 13, 14, 15, 16, 17, 18, 19, 20]) (isR := []) (As := [.int x3, .int ((cRI S) x4.toNatClampNeg)]) (rest := [.int r8]) ⟨hx, hb, hml, hown, hts⟩ (t_X2_read h) (va_cwS 2 hts gX2_evaluate_X2_read rfl rfl rfl (by decide +kernel) ⟨Nat.le_of_ble_eq_true rfl, Nat.le_of_ble_eq_true rfl⟩) ⟨hK, hE, hA, hP, hD, hS, rfl, rfl, rfl, rfl, by decide⟩ rfl rfl hl.1 (Nat.le_of_ble_eq_true rfl) dX2_evaluate_51 ⟨Nat.le_of_ble_eq_true rfl, Nat.le_of_ble_eq_true rfl⟩ (fun r11 S12 H locs h hP hD hS => ?_)
        obtain ⟨rfl, h⟩ := h
        have hP : va_P (dC, dI) vwCl (wC cyI cyJ cyZ a S) H := hP
        have hD : va_D A (wC cyI cyJ cyZ a S) := hD
        refine lv_iand hx hb dX2_evaluate_54 ?_
        exact t_X2_evaluate_55 G k5 h hP hD hS (lv_sub hl [0, 1, 2, 3, 4] rfl)
      · have h := h.2 c6
        refine lv_aload_n hx hb dX2_evaluate_22 rfl (lv_at hl 0 rfl) ?_
        refine lv_iload hx hb dX2_evaluate_23 (lv_at hl 4 rfl) ?_
        refine lv_iload_n hx hb dX2_evaluate_25 rfl (lv_at hl 2 rfl) ?_
        refine xc_Vi (wf := wC cyI cyJ cyZ a) (wr := []) (isC := [0, 1, 2, 3, 4, 5, 6, 7, 8, 9, 10, 11, 12, 13, 14, 15, 16, 17, 18, 19, 20]) (isR := []) (As := [.int x4, .int x2]) (rest := []) ⟨hx, hb, hml, hown, hts⟩ (t_X2_inputValue h) (cwV 2 hts gX2_evaluate_X2_inputValue rfl rfl rfl (by decide +kernel) ⟨Nat.le_of_ble_eq_true rfl, Nat.le_of_ble_eq_true rfl⟩) ⟨hK, hE, hA, hP, hD, hS, rfl, rfl, rfl, rfl, by decide⟩ ⟨1, 2, _, _, rfl, rfl, rfl⟩ rfl rfl hl.1 (Nat.le_of_ble_eq_true rfl) dX2_evaluate_26 ⟨Nat.le_of_ble_eq_true rfl, Nat.le_of_ble_eq_true rfl⟩ (fun r15 S16 H locs h hP hD hS => ?_)
        obtain ⟨rfl, h⟩ := h
        have hP : va_P (dC, dI) vwCl (wC cyI cyJ cyZ a S) H := hP
        have hD : va_D A (wC cyI cyJ cyZ a S) := hD
        refine lv_goto (tgt := 55) hx hb dX2_evaluate_29 (by decide) ?_
        exact t_X2_evaluate_55 G k5 h hP hD hS (lv_sub hl [0, 1, 2, 3, 4] rfl)
def p_X2_evaluate (S : CS) (x1 : Int32) (x2 : Int32) (post : Int32 → Prop) : Prop := p_X2_evaluate_5 S x1 x2 (0 : Int32) (0 : Int32) post
set_option maxHeartbeats 1000000 in
set_option maxRecDepth 100000 in
theorem t_X2_evaluate {l : Launch} {dC : Nat → ClassId} {dI : Nat → Nat → Nat} {cyI cyJ cyZ : ClassId} {r : Nat → Nat} {a : Nat → Nat} {S : CS} {x1 : Int32} {x2 : Int32} {post : Int32 → Prop} (h : p_X2_evaluate S x1 x2 post) : xMi l yX2_evaluate wsX2_evaluate { frames := 1, cells := 0, slots := 0, locals := 22 } (dC, dI) (tyA cyI cyJ cyZ) r (wC cyI cyJ cyZ a) [.ref (a 1), .int x1, .int x2] S (fun x u => S = u ∧ post x) 0 0 := by
  intro sz
  refine Met.ofW (cc := cX2_evaluate) (maxL := 6) (ret := (some .int)) (by decide) rfl ?_
  intro p e s m args below meth c s₁ B hml hv
  obtain ⟨rfl, G, hP, hD, hS⟩ := xG.of rfl B hml hv
  generalize hAe : va_A (wC cyI cyJ cyZ a S) sz = A at G hD hS ⊢
  have G : xG p s m _ meth c cX2_evaluate 6 RX2 (some .int) wsX2_evaluate (dC, dI) (tyA cyI cyJ cyZ) r A := G
  obtain ⟨hx, hb, hml, hown, hts, hr, hlocks, hK, hE, hA⟩ := id G
  have hl := lv_entry ([.ref (a 1), .int x1, .int x2]) (n := 6) (Nat.le_of_ble_eq_true rfl)
  rw [lg_entry_eq]
  generalize (lg_sl ([.ref (a 1), .int x1, .int x2]) ++ List.replicate (6 - (lg_sl ([.ref (a 1), .int x1, .int x2])).length) Slot.unset).toArray = ls at hl ⊢
  have hl : lv_has ls 6 [(0, .ref (a 1)), (1, .int x1), (2, .int x2)] := hl
  show W p l e { frames := 1, cells := 0, slots := 0, locals := 22 } s m _ below meth c s.heap [] 0 0 _ _
  unfold p_X2_evaluate at h
  refine lv_iconst (v := 0) hx hb dX2_evaluate_0 (by decide) ?_
  refine lv_istore_n (lv' := [(3, .int (0 : Int32)), (0, .ref (a 1)), (1, .int x1), (2, .int x2)]) hx hb dX2_evaluate_1 rfl hl (by decide) rfl (fun ls hl => ?_)
  refine lv_iconst (v := 0) hx hb dX2_evaluate_2 (by decide) ?_
  refine lv_istore (lv' := [(4, .int (0 : Int32)), (3, .int (0 : Int32)), (0, .ref (a 1)), (1, .int x1), (2, .int x2)]) hx hb dX2_evaluate_3 hl (by decide) rfl (fun ls hl => ?_)
  exact t_X2_evaluate_5 G h hP hD hS (lv_sub hl [2, 3, 4, 1, 0] rfl)
def p_X2_empty (S : CS) (post : CS → Prop) : Prop := ∀ S1 : CS, S1 = (cNC_s S (0 : Int32)) → (∀ S2 : CS, S2 = (cIC_s S1 (0 : Int32)) → (post S2))
set_option maxHeartbeats 1000000 in
set_option maxRecDepth 100000 in
theorem t_X2_empty {l : Launch} {dC : Nat → ClassId} {dI : Nat → Nat → Nat} {cyI cyJ cyZ : ClassId} {r : Nat → Nat} {a : Nat → Nat} {S : CS} {post : CS → Prop} (h : p_X2_empty S post) : xMv l yX2_empty wsX2_empty { frames := 0, cells := 0, slots := 0, locals := 0 } (dC, dI) (tyA cyI cyJ cyZ) r (wC cyI cyJ cyZ a) [.ref (a 1)] S post 0 0 := by
  intro sz
  refine Met.ofW (cc := cX2_empty) (maxL := 1) (ret := none) (by decide) rfl ?_
  intro p e s m args below meth c s₁ B hml hv
  obtain ⟨rfl, G, hP, hD, hS⟩ := xG.of rfl B hml hv
  generalize hAe : va_A (wC cyI cyJ cyZ a S) sz = A at G hD hS ⊢
  have G : xG p s m _ meth c cX2_empty 1 RX2 none wsX2_empty (dC, dI) (tyA cyI cyJ cyZ) r A := G
  obtain ⟨hx, hb, hml, hown, hts, hr, hlocks, hK, hE, hA⟩ := id G
  have hiX2 : ∀ w ∈ wsX20, w ∈ wsX2_empty := by decide +kernel
  have hf24 := hts (.fieldLink RX2 24 "CellMapping$Graph" "nodeCount" "I") (by decide +kernel)
  have hf28 := hts (.fieldLink RX2 28 "CellMapping$Graph" "inputCount" "I") (by decide +kernel)
  have hl := lv_entry ([.ref (a 1)]) (n := 1) (Nat.le_of_ble_eq_true rfl)
  rw [lg_entry_eq]
  generalize (lg_sl ([.ref (a 1)]) ++ List.replicate (1 - (lg_sl ([.ref (a 1)])).length) Slot.unset).toArray = ls at hl ⊢
  have hl : lv_has ls 1 [(0, .ref (a 1))] := hl
  show W p l e { frames := 0, cells := 0, slots := 0, locals := 0 } s m _ below meth c s.heap [] 0 0 _ _
  unfold p_X2_empty at h
  refine lv_aload_n hx hb dX2_empty_0 rfl (lv_at hl 0 rfl) ?_
  refine lv_iconst (v := 0) hx hb dX2_empty_1 (by decide) ?_
  refine va_put (D := (dC, dI)) (ci := 2) (v := .int (0 : Int32)) (ty := .int) (C := RX2) (T := TX2) (N := 6) hx hb hts hiX2 tyX2 tyX2_ok nmX2 hown hK hP hD hS 1 rfl rfl 4 (by decide) hf24 (fun _ h9 => h9) rfl (by decide +kernel) rfl rfl (Nat.le_of_ble_eq_true rfl) dX2_empty_2 (fun H locs hP hD hS => ?_)
  obtain ⟨S1, eS1⟩ : ∃ z : CS, z = (cNC_s S (0 : Int32)) := ⟨_, rfl⟩
  have h := h S1 eS1
  have hP := nP_cNC eS1 hP
  have hD := nD_cNC eS1 hD
  refine lv_aload_n hx hb dX2_empty_5 rfl (lv_at hl 0 rfl) ?_
  refine lv_iconst (v := 0) hx hb dX2_empty_6 (by decide) ?_
  refine va_put (D := (dC, dI)) (ci := 2) (v := .int (0 : Int32)) (ty := .int) (C := RX2) (T := TX2) (N := 6) hx hb hts hiX2 tyX2 tyX2_ok nmX2 hown hK hP hD hS 1 rfl rfl 5 (by decide) hf28 (fun _ h9 => h9) rfl (by decide +kernel) rfl rfl (Nat.le_of_ble_eq_true rfl) dX2_empty_7 (fun H locs hP hD hS => ?_)
  obtain ⟨S2, eS2⟩ : ∃ z : CS, z = (cIC_s S1 (0 : Int32)) := ⟨_, rfl⟩
  have h := h S2 eS2
  have hP := nP_cIC eS2 hP
  have hD := nD_cIC eS2 hD
  exact xr_v (S := S2) hx hb hr hlocks hK hP hD hS h (Nat.le_of_ble_eq_true rfl) (Nat.le_of_ble_eq_true rfl) dX2_empty_10
def p_X2_addInput (S : CS) (post : Int32 → CS → Prop) : Prop := vp_in (cNC S) 32 ∧ (∀ S2 : CS, S2 = (cIN_s S (upd (cIN S) (cNC S).toNatClampNeg (cIC S))) → (vp_in (cIC S2) 8 ∧ (∀ S4 : CS, S4 = (cIT_s S2 (upd (cIT S2) (cIC S2).toNatClampNeg (0 : Int32))) → (∀ S5 : CS, S5 = (cIC_s S4 ((cIC S4) + (1 : Int32))) → (∀ S6 : CS, S6 = (cNC_s S5 ((cNC S5) + (1 : Int32))) → (post ((cNC S6) - (1 : Int32)) S6))))))
set_option maxHeartbeats 1000000 in
set_option maxRecDepth 100000 in
theorem t_X2_addInput {l : Launch} {dC : Nat → ClassId} {dI : Nat → Nat → Nat} {cyI cyJ cyZ : ClassId} {r : Nat → Nat} {a : Nat → Nat} {S : CS} {post : Int32 → CS → Prop} (h : p_X2_addInput S post) : xMi l yX2_addInput wsX2_addInput { frames := 0, cells := 0, slots := 0, locals := 0 } (dC, dI) (tyA cyI cyJ cyZ) r (wC cyI cyJ cyZ a) [.ref (a 1)] S post 0 0 := by
  intro sz
  refine Met.ofW (cc := cX2_addInput) (maxL := 1) (ret := (some .int)) (by decide) rfl ?_
  intro p e s m args below meth c s₁ B hml hv
  obtain ⟨rfl, G, hP, hD, hS⟩ := xG.of rfl B hml hv
  generalize hAe : va_A (wC cyI cyJ cyZ a S) sz = A at G hD hS ⊢
  have G : xG p s m _ meth c cX2_addInput 1 RX2 (some .int) wsX2_addInput (dC, dI) (tyA cyI cyJ cyZ) r A := G
  obtain ⟨hx, hb, hml, hown, hts, hr, hlocks, hK, hE, hA⟩ := id G
  have hiX2 : ∀ w ∈ wsX20, w ∈ wsX2_addInput := by decide +kernel
  have hf11 := hts (.fieldLink RX2 11 "CellMapping$Graph" "inputNumber" "[I") (by decide +kernel)
  have hf24 := hts (.fieldLink RX2 24 "CellMapping$Graph" "nodeCount" "I") (by decide +kernel)
  have hf28 := hts (.fieldLink RX2 28 "CellMapping$Graph" "inputCount" "I") (by decide +kernel)
  have hf21 := hts (.fieldLink RX2 21 "CellMapping$Graph" "inputTime" "[I") (by decide +kernel)
  have hl := lv_entry ([.ref (a 1)]) (n := 1) (Nat.le_of_ble_eq_true rfl)
  rw [lg_entry_eq]
  generalize (lg_sl ([.ref (a 1)]) ++ List.replicate (1 - (lg_sl ([.ref (a 1)])).length) Slot.unset).toArray = ls at hl ⊢
  have hl : lv_has ls 1 [(0, .ref (a 1))] := hl
  show W p l e { frames := 0, cells := 0, slots := 0, locals := 0 } s m _ below meth c s.heap [] 0 0 _ _
  unfold p_X2_addInput at h
  refine lv_aload_n hx hb dX2_addInput_0 rfl (lv_at hl 0 rfl) ?_
  refine va_get (D := (dC, dI)) (ci := 2) (v := .ref (a 6)) (C := RX2) (T := TX2) (N := 6) hx hb hts hiX2 hown hK hP 1 rfl rfl 0 (by decide) hf11 (fun _ h9 => h9) rfl dX2_addInput_1 ?_
  refine lv_aload_n hx hb dX2_addInput_4 rfl (lv_at hl 0 rfl) ?_
  refine va_get (D := (dC, dI)) (ci := 2) (v := .int (cNC S)) (C := RX2) (T := TX2) (N := 6) hx hb hts hiX2 hown hK hP 1 rfl rfl 4 (by decide) hf24 (fun _ h9 => h9) rfl dX2_addInput_5 ?_
  refine lv_aload_n hx hb dX2_addInput_8 rfl (lv_at hl 0 rfl) ?_
  refine va_get (D := (dC, dI)) (ci := 2) (v := .int (cIC S)) (C := RX2) (T := TX2) (N := 6) hx hb hts hiX2 hown hK hP 1 rfl rfl 5 (by decide) hf28 (fun _ h9 => h9) rfl dX2_addInput_9 ?_
  obtain ⟨i1, h⟩ := h
  refine va_iast (D := (dC, dI)) hx hb hK hP hD hS 6 0 rfl rfl i1 dX2_addInput_12 (fun H locs hP hD hS => ?_)
  obtain ⟨S2, eS2⟩ : ∃ z : CS, z = (cIN_s S (upd (cIN S) (cNC S).toNatClampNeg (cIC S))) := ⟨_, rfl⟩
  have h := h S2 eS2
  have hP := nP_cIN eS2 hP
  have hD := nD_cIN eS2 hD
  refine lv_aload_n hx hb dX2_addInput_13 rfl (lv_at hl 0 rfl) ?_
  refine va_get (D := (dC, dI)) (ci := 2) (v := .ref (a 9)) (C := RX2) (T := TX2) (N := 6) hx hb hts hiX2 hown hK hP 1 rfl rfl 3 (by decide) hf21 (fun _ h9 => h9) rfl dX2_addInput_14 ?_
  refine lv_aload_n hx hb dX2_addInput_17 rfl (lv_at hl 0 rfl) ?_
  refine va_get (D := (dC, dI)) (ci := 2) (v := .int (cIC S2)) (C := RX2) (T := TX2) (N := 6) hx hb hts hiX2 hown hK hP 1 rfl rfl 5 (by decide) hf28 (fun _ h9 => h9) rfl dX2_addInput_18 ?_
  refine lv_iconst (v := 0) hx hb dX2_addInput_21 (by decide) ?_
  obtain ⟨i3, h⟩ := h
  refine va_iast (D := (dC, dI)) hx hb hK hP hD hS 9 0 rfl rfl i3 dX2_addInput_22 (fun H locs hP hD hS => ?_)
  obtain ⟨S4, eS4⟩ : ∃ z : CS, z = (cIT_s S2 (upd (cIT S2) (cIC S2).toNatClampNeg (0 : Int32))) := ⟨_, rfl⟩
  have h := h S4 eS4
  have hP := nP_cIT eS4 hP
  have hD := nD_cIT eS4 hD
  refine lv_aload_n hx hb dX2_addInput_23 rfl (lv_at hl 0 rfl) ?_
  refine lv_dup hx hb dX2_addInput_24 rfl ?_
  refine va_get (D := (dC, dI)) (ci := 2) (v := .int (cIC S4)) (C := RX2) (T := TX2) (N := 6) hx hb hts hiX2 hown hK hP 1 rfl rfl 5 (by decide) hf28 (fun _ h9 => h9) rfl dX2_addInput_25 ?_
  refine lv_iconst (v := 1) hx hb dX2_addInput_28 (by decide) ?_
  refine lv_iadd hx hb dX2_addInput_29 ?_
  refine va_put (D := (dC, dI)) (ci := 2) (v := .int ((cIC S4) + (1 : Int32))) (ty := .int) (C := RX2) (T := TX2) (N := 6) hx hb hts hiX2 tyX2 tyX2_ok nmX2 hown hK hP hD hS 1 rfl rfl 5 (by decide) hf28 (fun _ h9 => h9) rfl (by decide +kernel) rfl rfl (Nat.le_of_ble_eq_true rfl) dX2_addInput_30 (fun H locs hP hD hS => ?_)
  obtain ⟨S5, eS5⟩ : ∃ z : CS, z = (cIC_s S4 ((cIC S4) + (1 : Int32))) := ⟨_, rfl⟩
  have h := h S5 eS5
  have hP := nP_cIC eS5 hP
  have hD := nD_cIC eS5 hD
  refine lv_aload_n hx hb dX2_addInput_33 rfl (lv_at hl 0 rfl) ?_
  refine lv_dup hx hb dX2_addInput_34 rfl ?_
  refine va_get (D := (dC, dI)) (ci := 2) (v := .int (cNC S5)) (C := RX2) (T := TX2) (N := 6) hx hb hts hiX2 hown hK hP 1 rfl rfl 4 (by decide) hf24 (fun _ h9 => h9) rfl dX2_addInput_35 ?_
  refine lv_iconst (v := 1) hx hb dX2_addInput_38 (by decide) ?_
  refine lv_iadd hx hb dX2_addInput_39 ?_
  refine va_put (D := (dC, dI)) (ci := 2) (v := .int ((cNC S5) + (1 : Int32))) (ty := .int) (C := RX2) (T := TX2) (N := 6) hx hb hts hiX2 tyX2 tyX2_ok nmX2 hown hK hP hD hS 1 rfl rfl 4 (by decide) hf24 (fun _ h9 => h9) rfl (by decide +kernel) rfl rfl (Nat.le_of_ble_eq_true rfl) dX2_addInput_40 (fun H locs hP hD hS => ?_)
  obtain ⟨S6, eS6⟩ : ∃ z : CS, z = (cNC_s S5 ((cNC S5) + (1 : Int32))) := ⟨_, rfl⟩
  have h := h S6 eS6
  have hP := nP_cNC eS6 hP
  have hD := nD_cNC eS6 hD
  refine lv_aload_n hx hb dX2_addInput_43 rfl (lv_at hl 0 rfl) ?_
  refine va_get (D := (dC, dI)) (ci := 2) (v := .int (cNC S6)) (C := RX2) (T := TX2) (N := 6) hx hb hts hiX2 hown hK hP 1 rfl rfl 4 (by decide) hf24 (fun _ h9 => h9) rfl dX2_addInput_44 ?_
  refine lv_iconst (v := 1) hx hb dX2_addInput_47 (by decide) ?_
  refine lv_isub hx hb dX2_addInput_48 ?_
  exact xr_i (S := S6) hx hb hr hlocks hK hP hD hS h (Nat.le_of_ble_eq_true rfl) (Nat.le_of_ble_eq_true rfl) dX2_addInput_49
def p_X2_addAnd (S : CS) (x1 : Int32) (x2 : Int32) (post : Int32 → CS → Prop) : Prop := vp_in (cNC S) 32 ∧ (∀ S2 : CS, S2 = (cIN_s S (upd (cIN S) (cNC S).toNatClampNeg (-1 : Int32))) → (vp_in (cNC S2) 32 ∧ (∀ S4 : CS, S4 = (cLE_s S2 (upd (cLE S2) (cNC S2).toNatClampNeg x1)) → (vp_in (cNC S4) 32 ∧ (∀ S6 : CS, S6 = (cRI_s S4 (upd (cRI S4) (cNC S4).toNatClampNeg x2)) → (∀ S7 : CS, S7 = (cNC_s S6 ((cNC S6) + (1 : Int32))) → (post ((cNC S7) - (1 : Int32)) S7)))))))
set_option maxHeartbeats 1000000 in
set_option maxRecDepth 100000 in
theorem t_X2_addAnd {l : Launch} {dC : Nat → ClassId} {dI : Nat → Nat → Nat} {cyI cyJ cyZ : ClassId} {r : Nat → Nat} {a : Nat → Nat} {S : CS} {x1 : Int32} {x2 : Int32} {post : Int32 → CS → Prop} (h : p_X2_addAnd S x1 x2 post) : xMi l yX2_addAnd wsX2_addAnd { frames := 0, cells := 0, slots := 0, locals := 0 } (dC, dI) (tyA cyI cyJ cyZ) r (wC cyI cyJ cyZ a) [.ref (a 1), .int x1, .int x2] S post 0 0 := by
  intro sz
  refine Met.ofW (cc := cX2_addAnd) (maxL := 3) (ret := (some .int)) (by decide) rfl ?_
  intro p e s m args below meth c s₁ B hml hv
  obtain ⟨rfl, G, hP, hD, hS⟩ := xG.of rfl B hml hv
  generalize hAe : va_A (wC cyI cyJ cyZ a S) sz = A at G hD hS ⊢
  have G : xG p s m _ meth c cX2_addAnd 3 RX2 (some .int) wsX2_addAnd (dC, dI) (tyA cyI cyJ cyZ) r A := G
  obtain ⟨hx, hb, hml, hown, hts, hr, hlocks, hK, hE, hA⟩ := id G
  have hiX2 : ∀ w ∈ wsX20, w ∈ wsX2_addAnd := by decide +kernel
  have hf11 := hts (.fieldLink RX2 11 "CellMapping$Graph" "inputNumber" "[I") (by decide +kernel)
  have hf24 := hts (.fieldLink RX2 24 "CellMapping$Graph" "nodeCount" "I") (by decide +kernel)
  have hf15 := hts (.fieldLink RX2 15 "CellMapping$Graph" "left" "[I") (by decide +kernel)
  have hf18 := hts (.fieldLink RX2 18 "CellMapping$Graph" "right" "[I") (by decide +kernel)
  have hl := lv_entry ([.ref (a 1), .int x1, .int x2]) (n := 3) (Nat.le_of_ble_eq_true rfl)
  rw [lg_entry_eq]
  generalize (lg_sl ([.ref (a 1), .int x1, .int x2]) ++ List.replicate (3 - (lg_sl ([.ref (a 1), .int x1, .int x2])).length) Slot.unset).toArray = ls at hl ⊢
  have hl : lv_has ls 3 [(0, .ref (a 1)), (1, .int x1), (2, .int x2)] := hl
  show W p l e { frames := 0, cells := 0, slots := 0, locals := 0 } s m _ below meth c s.heap [] 0 0 _ _
  unfold p_X2_addAnd at h
  refine lv_aload_n hx hb dX2_addAnd_0 rfl (lv_at hl 0 rfl) ?_
  refine va_get (D := (dC, dI)) (ci := 2) (v := .ref (a 6)) (C := RX2) (T := TX2) (N := 6) hx hb hts hiX2 hown hK hP 1 rfl rfl 0 (by decide) hf11 (fun _ h9 => h9) rfl dX2_addAnd_1 ?_
  refine lv_aload_n hx hb dX2_addAnd_4 rfl (lv_at hl 0 rfl) ?_
  refine va_get (D := (dC, dI)) (ci := 2) (v := .int (cNC S)) (C := RX2) (T := TX2) (N := 6) hx hb hts hiX2 hown hK hP 1 rfl rfl 4 (by decide) hf24 (fun _ h9 => h9) rfl dX2_addAnd_5 ?_
  refine lv_iconst (v := -1) hx hb dX2_addAnd_8 (by decide) ?_
  obtain ⟨i1, h⟩ := h
  refine va_iast (D := (dC, dI)) hx hb hK hP hD hS 6 0 rfl rfl i1 dX2_addAnd_9 (fun H locs hP hD hS => ?_)
  obtain ⟨S2, eS2⟩ : ∃ z : CS, z = (cIN_s S (upd (cIN S) (cNC S).toNatClampNeg (-1 : Int32))) := ⟨_, rfl⟩
  have h := h S2 eS2
  have hP := nP_cIN eS2 hP
  have hD := nD_cIN eS2 hD
  refine lv_aload_n hx hb dX2_addAnd_10 rfl (lv_at hl 0 rfl) ?_
  refine va_get (D := (dC, dI)) (ci := 2) (v := .ref (a 7)) (C := RX2) (T := TX2) (N := 6) hx hb hts hiX2 hown hK hP 1 rfl rfl 1 (by decide) hf15 (fun _ h9 => h9) rfl dX2_addAnd_11 ?_
  refine lv_aload_n hx hb dX2_addAnd_14 rfl (lv_at hl 0 rfl) ?_
  refine va_get (D := (dC, dI)) (ci := 2) (v := .int (cNC S2)) (C := RX2) (T := TX2) (N := 6) hx hb hts hiX2 hown hK hP 1 rfl rfl 4 (by decide) hf24 (fun _ h9 => h9) rfl dX2_addAnd_15 ?_
  refine lv_iload_n hx hb dX2_addAnd_18 rfl (lv_at hl 1 rfl) ?_
  obtain ⟨i3, h⟩ := h
  refine va_iast (D := (dC, dI)) hx hb hK hP hD hS 7 0 rfl rfl i3 dX2_addAnd_19 (fun H locs hP hD hS => ?_)
  obtain ⟨S4, eS4⟩ : ∃ z : CS, z = (cLE_s S2 (upd (cLE S2) (cNC S2).toNatClampNeg x1)) := ⟨_, rfl⟩
  have h := h S4 eS4
  have hP := nP_cLE eS4 hP
  have hD := nD_cLE eS4 hD
  refine lv_aload_n hx hb dX2_addAnd_20 rfl (lv_at hl 0 rfl) ?_
  refine va_get (D := (dC, dI)) (ci := 2) (v := .ref (a 8)) (C := RX2) (T := TX2) (N := 6) hx hb hts hiX2 hown hK hP 1 rfl rfl 2 (by decide) hf18 (fun _ h9 => h9) rfl dX2_addAnd_21 ?_
  refine lv_aload_n hx hb dX2_addAnd_24 rfl (lv_at hl 0 rfl) ?_
  refine va_get (D := (dC, dI)) (ci := 2) (v := .int (cNC S4)) (C := RX2) (T := TX2) (N := 6) hx hb hts hiX2 hown hK hP 1 rfl rfl 4 (by decide) hf24 (fun _ h9 => h9) rfl dX2_addAnd_25 ?_
  refine lv_iload_n hx hb dX2_addAnd_28 rfl (lv_at hl 2 rfl) ?_
  obtain ⟨i5, h⟩ := h
  refine va_iast (D := (dC, dI)) hx hb hK hP hD hS 8 0 rfl rfl i5 dX2_addAnd_29 (fun H locs hP hD hS => ?_)
  obtain ⟨S6, eS6⟩ : ∃ z : CS, z = (cRI_s S4 (upd (cRI S4) (cNC S4).toNatClampNeg x2)) := ⟨_, rfl⟩
  have h := h S6 eS6
  have hP := nP_cRI eS6 hP
  have hD := nD_cRI eS6 hD
  refine lv_aload_n hx hb dX2_addAnd_30 rfl (lv_at hl 0 rfl) ?_
  refine lv_dup hx hb dX2_addAnd_31 rfl ?_
  refine va_get (D := (dC, dI)) (ci := 2) (v := .int (cNC S6)) (C := RX2) (T := TX2) (N := 6) hx hb hts hiX2 hown hK hP 1 rfl rfl 4 (by decide) hf24 (fun _ h9 => h9) rfl dX2_addAnd_32 ?_
  refine lv_iconst (v := 1) hx hb dX2_addAnd_35 (by decide) ?_
  refine lv_iadd hx hb dX2_addAnd_36 ?_
  refine va_put (D := (dC, dI)) (ci := 2) (v := .int ((cNC S6) + (1 : Int32))) (ty := .int) (C := RX2) (T := TX2) (N := 6) hx hb hts hiX2 tyX2 tyX2_ok nmX2 hown hK hP hD hS 1 rfl rfl 4 (by decide) hf24 (fun _ h9 => h9) rfl (by decide +kernel) rfl rfl (Nat.le_of_ble_eq_true rfl) dX2_addAnd_37 (fun H locs hP hD hS => ?_)
  obtain ⟨S7, eS7⟩ : ∃ z : CS, z = (cNC_s S6 ((cNC S6) + (1 : Int32))) := ⟨_, rfl⟩
  have h := h S7 eS7
  have hP := nP_cNC eS7 hP
  have hD := nD_cNC eS7 hD
  refine lv_aload_n hx hb dX2_addAnd_40 rfl (lv_at hl 0 rfl) ?_
  refine va_get (D := (dC, dI)) (ci := 2) (v := .int (cNC S7)) (C := RX2) (T := TX2) (N := 6) hx hb hts hiX2 hown hK hP 1 rfl rfl 4 (by decide) hf24 (fun _ h9 => h9) rfl dX2_addAnd_41 ?_
  refine lv_iconst (v := 1) hx hb dX2_addAnd_44 (by decide) ?_
  refine lv_isub hx hb dX2_addAnd_45 ?_
  exact xr_i (S := S7) hx hb hr hlocks hK hP hD hS h (Nat.le_of_ble_eq_true rfl) (Nat.le_of_ble_eq_true rfl) dX2_addAnd_46
def p_X4_full (S : CS) (x0 : Int32) (post : Int32 → Prop) : Prop := post (((1 : Int32) <<< (((1 : Int32) <<< (x0 &&& 31)) &&& 31)) - (1 : Int32))
set_option maxHeartbeats 1000000 in
set_option maxRecDepth 100000 in
theorem t_X4_full {l : Launch} {dC : Nat → ClassId} {dI : Nat → Nat → Nat} {cyI cyJ cyZ : ClassId} {r : Nat → Nat} {a : Nat → Nat} {S : CS} {x0 : Int32} {post : Int32 → Prop} (h : p_X4_full S x0 post) : xMi l yX4_full wsX4_full { frames := 0, cells := 0, slots := 0, locals := 0 } (dC, dI) (tyA cyI cyJ cyZ) r (wC cyI cyJ cyZ a) [.int x0] S (fun x u => S = u ∧ post x) 0 0 := by
  intro sz
  refine Met.ofW (cc := cX4_full) (maxL := 1) (ret := (some .int)) (by decide) rfl ?_
  intro p e s m args below meth c s₁ B hml hv
  obtain ⟨rfl, G, hP, hD, hS⟩ := xG.of rfl B hml hv
  generalize hAe : va_A (wC cyI cyJ cyZ a S) sz = A at G hD hS ⊢
  have G : xG p s m _ meth c cX4_full 1 RX4 (some .int) wsX4_full (dC, dI) (tyA cyI cyJ cyZ) r A := G
  obtain ⟨hx, hb, hml, hown, hts, hr, hlocks, hK, hE, hA⟩ := id G
  have hl := lv_entry ([.int x0]) (n := 1) (Nat.le_of_ble_eq_true rfl)
  rw [lg_entry_eq]
  generalize (lg_sl ([.int x0]) ++ List.replicate (1 - (lg_sl ([.int x0])).length) Slot.unset).toArray = ls at hl ⊢
  have hl : lv_has ls 1 [(0, .int x0)] := hl
  show W p l e { frames := 0, cells := 0, slots := 0, locals := 0 } s m _ below meth c s.heap [] 0 0 _ _
  unfold p_X4_full at h
  refine lv_iconst (v := 1) hx hb dX4_full_0 (by decide) ?_
  refine lv_iconst (v := 1) hx hb dX4_full_1 (by decide) ?_
  refine lv_iload_n hx hb dX4_full_2 rfl (lv_at hl 0 rfl) ?_
  refine lv_ishl hx hb dX4_full_3 ?_
  refine lv_ishl hx hb dX4_full_4 ?_
  refine lv_iconst (v := 1) hx hb dX4_full_5 (by decide) ?_
  refine lv_isub hx hb dX4_full_6 ?_
  exact xr_i (S := S) hx hb hr hlocks hK hP hD hS ⟨rfl, h⟩ (Nat.le_of_ble_eq_true rfl) (Nat.le_of_ble_eq_true rfl) dX4_full_7
def p_X4_variable (S : CS) (x0 : Int32) (x1 : Int32) (post : Int32 → Prop) : Prop := vp_in x0 3 ∧ (post ((tVA x0.toNatClampNeg) &&& x1))
set_option maxHeartbeats 1000000 in
set_option maxRecDepth 100000 in
theorem t_X4_variable {l : Launch} {dC : Nat → ClassId} {dI : Nat → Nat → Nat} {cyI cyJ cyZ : ClassId} {r : Nat → Nat} {a : Nat → Nat} {S : CS} {x0 : Int32} {x1 : Int32} {post : Int32 → Prop} (h : p_X4_variable S x0 x1 post) : xMi l yX4_variable wsX4_variable { frames := 0, cells := 0, slots := 0, locals := 0 } (dC, dI) (tyA cyI cyJ cyZ) r (wC cyI cyJ cyZ a) [.int x0, .int x1] S (fun x u => S = u ∧ post x) 0 0 := by
  intro sz
  refine Met.ofW (cc := cX4_variable) (maxL := 2) (ret := (some .int)) (by decide) rfl ?_
  intro p e s m args below meth c s₁ B hml hv
  obtain ⟨rfl, G, hP, hD, hS⟩ := xG.of rfl B hml hv
  generalize hAe : va_A (wC cyI cyJ cyZ a S) sz = A at G hD hS ⊢
  have G : xG p s m _ meth c cX4_variable 2 RX4 (some .int) wsX4_variable (dC, dI) (tyA cyI cyJ cyZ) r A := G
  obtain ⟨hx, hb, hml, hown, hts, hr, hlocks, hK, hE, hA⟩ := id G
  have hf7 := hts (.fieldLink RX4 7 "CellMapping$Tables" "VARIABLE" "[I") (by decide +kernel)
  have hl := lv_entry ([.int x0, .int x1]) (n := 2) (Nat.le_of_ble_eq_true rfl)
  rw [lg_entry_eq]
  generalize (lg_sl ([.int x0, .int x1]) ++ List.replicate (2 - (lg_sl ([.int x0, .int x1])).length) Slot.unset).toArray = ls at hl ⊢
  have hl : lv_has ls 2 [(0, .int x0), (1, .int x1)] := hl
  show W p l e { frames := 0, cells := 0, slots := 0, locals := 0 } s m _ below meth c s.heap [] 0 0 _ _
  unfold p_X4_variable at h
  refine va_gets hx hb hE.2.2.1.1 hS hown hf7 (fun _ h9 => h9) dX4_variable_0 ?_
  refine lv_iload_n hx hb dX4_variable_3 rfl (lv_at hl 0 rfl) ?_
  obtain ⟨i1, h⟩ := h
  refine va_ti hx hb hE.2.2.1.2 hS i1 (v := .int (tVA x0.toNatClampNeg)) rfl dX4_variable_4 ?_
  refine lv_iload_n hx hb dX4_variable_5 rfl (lv_at hl 1 rfl) ?_
  refine lv_iand hx hb dX4_variable_6 ?_
  exact xr_i (S := S) hx hb hr hlocks hK hP hD hS ⟨rfl, h⟩ (Nat.le_of_ble_eq_true rfl) (Nat.le_of_ble_eq_true rfl) dX4_variable_7
def p_J6_bitCount_0f7a4 (S : CS) (x0 : Int32) (post : Int32 → Prop) : Prop := ∀ y1 : Int32, y1 = (x0 - ((ushr x0 (1 : Int32)) &&& (1431655765 : Int32))) → (∀ y2 : Int32, y2 = ((y1 &&& (858993459 : Int32)) + ((ushr y1 (2 : Int32)) &&& (858993459 : Int32))) → (∀ y3 : Int32, y3 = ((y2 + (ushr y2 (4 : Int32))) &&& (252645135 : Int32)) → (∀ y4 : Int32, y4 = (y3 + (ushr y3 (8 : Int32))) → (∀ y5 : Int32, y5 = (y4 + (ushr y4 (16 : Int32))) → (post (y5 &&& (63 : Int32)))))))
set_option maxHeartbeats 1000000 in
set_option maxRecDepth 100000 in
theorem t_J6_bitCount_0f7a4 {l : Launch} {dC : Nat → ClassId} {dI : Nat → Nat → Nat} {cyI cyJ cyZ : ClassId} {r : Nat → Nat} {a : Nat → Nat} {S : CS} {x0 : Int32} {post : Int32 → Prop} (h : p_J6_bitCount_0f7a4 S x0 post) : xMi l yJ6_bitCount_0f7a4 wsJ6_bitCount_0f7a4 { frames := 0, cells := 0, slots := 0, locals := 0 } (dC, dI) (tyA cyI cyJ cyZ) r (wC cyI cyJ cyZ a) [.int x0] S (fun x u => S = u ∧ post x) 0 0 := by
  intro sz
  refine Met.ofW (cc := cJ6_bitCount_0f7a4) (maxL := 1) (ret := (some .int)) (by decide) rfl ?_
  intro p e s m args below meth c s₁ B hml hv
  obtain ⟨rfl, G, hP, hD, hS⟩ := xG.of rfl B hml hv
  generalize hAe : va_A (wC cyI cyJ cyZ a S) sz = A at G hD hS ⊢
  have G : xG p s m _ meth c cJ6_bitCount_0f7a4 1 RJ6 (some .int) wsJ6_bitCount_0f7a4 (dC, dI) (tyA cyI cyJ cyZ) r A := G
  obtain ⟨hx, hb, hml, hown, hts, hr, hlocks, hK, hE, hA⟩ := id G
  have hl := lv_entry ([.int x0]) (n := 1) (Nat.le_of_ble_eq_true rfl)
  rw [lg_entry_eq]
  generalize (lg_sl ([.int x0]) ++ List.replicate (1 - (lg_sl ([.int x0])).length) Slot.unset).toArray = ls at hl ⊢
  have hl : lv_has ls 1 [(0, .int x0)] := hl
  show W p l e { frames := 0, cells := 0, slots := 0, locals := 0 } s m _ below meth c s.heap [] 0 0 _ _
  unfold p_J6_bitCount_0f7a4 at h
  refine lv_iload_n hx hb dJ6_bitCount_0f7a4_0 rfl (lv_at hl 0 rfl) ?_
  refine lv_iload_n hx hb dJ6_bitCount_0f7a4_1 rfl (lv_at hl 0 rfl) ?_
  refine lv_iconst (v := 1) hx hb dJ6_bitCount_0f7a4_2 (by decide) ?_
  refine lv_iushr (v := (ushr x0 (1 : Int32))) hx hb dJ6_bitCount_0f7a4_3 rfl ?_
  refine lv_ldcw (v := 1431655765) hx hb hown (hts (.constant RJ6 265 (1431655765)) (by decide +kernel)) dJ6_bitCount_0f7a4_4 ?_
  refine lv_iand hx hb dJ6_bitCount_0f7a4_7 ?_
  refine lv_isub hx hb dJ6_bitCount_0f7a4_8 ?_
  refine lv_topi (fun y1 ey1 => ?_)
  have h := h y1 ey1
  refine lv_istore_n (lv' := [(0, .int y1)]) hx hb dJ6_bitCount_0f7a4_9 rfl hl (by decide) rfl (fun ls hl => ?_)
  refine lv_iload_n hx hb dJ6_bitCount_0f7a4_10 rfl (lv_at hl 0 rfl) ?_
  refine lv_ldcw (v := 858993459) hx hb hown (hts (.constant RJ6 266 (858993459)) (by decide +kernel)) dJ6_bitCount_0f7a4_11 ?_
  refine lv_iand hx hb dJ6_bitCount_0f7a4_14 ?_
  refine lv_iload_n hx hb dJ6_bitCount_0f7a4_15 rfl (lv_at hl 0 rfl) ?_
  refine lv_iconst (v := 2) hx hb dJ6_bitCount_0f7a4_16 (by decide) ?_
  refine lv_iushr (v := (ushr y1 (2 : Int32))) hx hb dJ6_bitCount_0f7a4_17 rfl ?_
  refine lv_ldcw (v := 858993459) hx hb hown (hts (.constant RJ6 266 (858993459)) (by decide +kernel)) dJ6_bitCount_0f7a4_18 ?_
  refine lv_iand hx hb dJ6_bitCount_0f7a4_21 ?_
  refine lv_iadd hx hb dJ6_bitCount_0f7a4_22 ?_
  refine lv_topi (fun y2 ey2 => ?_)
  have h := h y2 ey2
  refine lv_istore_n (lv' := [(0, .int y2)]) hx hb dJ6_bitCount_0f7a4_23 rfl hl (by decide) rfl (fun ls hl => ?_)
  refine lv_iload_n hx hb dJ6_bitCount_0f7a4_24 rfl (lv_at hl 0 rfl) ?_
  refine lv_iload_n hx hb dJ6_bitCount_0f7a4_25 rfl (lv_at hl 0 rfl) ?_
  refine lv_iconst (v := 4) hx hb dJ6_bitCount_0f7a4_26 (by decide) ?_
  refine lv_iushr (v := (ushr y2 (4 : Int32))) hx hb dJ6_bitCount_0f7a4_27 rfl ?_
  refine lv_iadd hx hb dJ6_bitCount_0f7a4_28 ?_
  refine lv_ldcw (v := 252645135) hx hb hown (hts (.constant RJ6 267 (252645135)) (by decide +kernel)) dJ6_bitCount_0f7a4_29 ?_
  refine lv_iand hx hb dJ6_bitCount_0f7a4_32 ?_
  refine lv_topi (fun y3 ey3 => ?_)
  have h := h y3 ey3
  refine lv_istore_n (lv' := [(0, .int y3)]) hx hb dJ6_bitCount_0f7a4_33 rfl hl (by decide) rfl (fun ls hl => ?_)
  refine lv_iload_n hx hb dJ6_bitCount_0f7a4_34 rfl (lv_at hl 0 rfl) ?_
  refine lv_iload_n hx hb dJ6_bitCount_0f7a4_35 rfl (lv_at hl 0 rfl) ?_
  refine lv_bipush (v := 8) hx hb dJ6_bitCount_0f7a4_36 (by decide) ?_
  refine lv_iushr (v := (ushr y3 (8 : Int32))) hx hb dJ6_bitCount_0f7a4_38 rfl ?_
  refine lv_iadd hx hb dJ6_bitCount_0f7a4_39 ?_
  refine lv_topi (fun y4 ey4 => ?_)
  have h := h y4 ey4
  refine lv_istore_n (lv' := [(0, .int y4)]) hx hb dJ6_bitCount_0f7a4_40 rfl hl (by decide) rfl (fun ls hl => ?_)
  refine lv_iload_n hx hb dJ6_bitCount_0f7a4_41 rfl (lv_at hl 0 rfl) ?_
  refine lv_iload_n hx hb dJ6_bitCount_0f7a4_42 rfl (lv_at hl 0 rfl) ?_
  refine lv_bipush (v := 16) hx hb dJ6_bitCount_0f7a4_43 (by decide) ?_
  refine lv_iushr (v := (ushr y4 (16 : Int32))) hx hb dJ6_bitCount_0f7a4_45 rfl ?_
  refine lv_iadd hx hb dJ6_bitCount_0f7a4_46 ?_
  refine lv_topi (fun y5 ey5 => ?_)
  have h := h y5 ey5
  refine lv_istore_n (lv' := [(0, .int y5)]) hx hb dJ6_bitCount_0f7a4_47 rfl hl (by decide) rfl (fun ls hl => ?_)
  refine lv_iload_n hx hb dJ6_bitCount_0f7a4_48 rfl (lv_at hl 0 rfl) ?_
  refine lv_bipush (v := 63) hx hb dJ6_bitCount_0f7a4_49 (by decide) ?_
  refine lv_iand hx hb dJ6_bitCount_0f7a4_51 ?_
  exact xr_i (S := S) hx hb hr hlocks hK hP hD hS ⟨rfl, h⟩ (Nat.le_of_ble_eq_true rfl) (Nat.le_of_ble_eq_true rfl) dJ6_bitCount_0f7a4_52
def p_J13_bitCount_95d88 (S : CS) (x0 : Int64) (post : Int32 → Prop) : Prop := ∀ y1 : Int64, y1 = (x0 - ((lushr x0 (1 : Int32)) &&& (6148914691236517205 : Int64))) → (∀ y2 : Int64, y2 = ((y1 &&& (3689348814741910323 : Int64)) + ((lushr y1 (2 : Int32)) &&& (3689348814741910323 : Int64))) → (∀ y3 : Int64, y3 = ((y2 + (lushr y2 (4 : Int32))) &&& (1085102592571150095 : Int64)) → (∀ y4 : Int64, y4 = (y3 + (lushr y3 (8 : Int32))) → (∀ y5 : Int64, y5 = (y4 + (lushr y4 (16 : Int32))) → (∀ y6 : Int64, y6 = (y5 + (lushr y5 (32 : Int32))) → (post ((y6.toInt32) &&& (127 : Int32))))))))
set_option maxHeartbeats 1000000 in
set_option maxRecDepth 100000 in
theorem t_J13_bitCount_95d88 {l : Launch} {dC : Nat → ClassId} {dI : Nat → Nat → Nat} {cyI cyJ cyZ : ClassId} {r : Nat → Nat} {a : Nat → Nat} {S : CS} {x0 : Int64} {post : Int32 → Prop} (h : p_J13_bitCount_95d88 S x0 post) : xMi l yJ13_bitCount_95d88 wsJ13_bitCount_95d88 { frames := 0, cells := 0, slots := 0, locals := 0 } (dC, dI) (tyA cyI cyJ cyZ) r (wC cyI cyJ cyZ a) [.long x0] S (fun x u => S = u ∧ post x) 0 0 := by
  intro sz
  refine Met.ofW (cc := cJ13_bitCount_95d88) (maxL := 2) (ret := (some .int)) (by decide) rfl ?_
  intro p e s m args below meth c s₁ B hml hv
  obtain ⟨rfl, G, hP, hD, hS⟩ := xG.of rfl B hml hv
  generalize hAe : va_A (wC cyI cyJ cyZ a S) sz = A at G hD hS ⊢
  have G : xG p s m _ meth c cJ13_bitCount_95d88 2 RJ13 (some .int) wsJ13_bitCount_95d88 (dC, dI) (tyA cyI cyJ cyZ) r A := G
  obtain ⟨hx, hb, hml, hown, hts, hr, hlocks, hK, hE, hA⟩ := id G
  have hl := lv_entry ([.long x0]) (n := 2) (Nat.le_of_ble_eq_true rfl)
  rw [lg_entry_eq]
  generalize (lg_sl ([.long x0]) ++ List.replicate (2 - (lg_sl ([.long x0])).length) Slot.unset).toArray = ls at hl ⊢
  have hl : lv_has ls 2 [(0, .long x0)] := hl
  show W p l e { frames := 0, cells := 0, slots := 0, locals := 0 } s m _ below meth c s.heap [] 0 0 _ _
  unfold p_J13_bitCount_95d88 at h
  refine lv_lload_n hx hb dJ13_bitCount_95d88_0 rfl (lv_at hl 0 rfl) ?_
  refine lv_lload_n hx hb dJ13_bitCount_95d88_1 rfl (lv_at hl 0 rfl) ?_
  refine lv_iconst (v := 1) hx hb dJ13_bitCount_95d88_2 (by decide) ?_
  refine lv_lushr (v := (lushr x0 (1 : Int32))) hx hb dJ13_bitCount_95d88_3 rfl ?_
  refine lv_ldc2 (v := 6148914691236517205) hx hb hown (hts (.constantLong RJ13 314 (6148914691236517205)) (by decide +kernel)) dJ13_bitCount_95d88_4 ?_
  refine lv_land hx hb dJ13_bitCount_95d88_7 ?_
  refine lv_lsub hx hb dJ13_bitCount_95d88_8 ?_
  refine lv_topl (fun y1 ey1 => ?_)
  have h := h y1 ey1
  refine lv_lstore_n (lv' := [(0, .long y1)]) hx hb dJ13_bitCount_95d88_9 rfl hl (by decide) rfl (fun ls hl => ?_)
  refine lv_lload_n hx hb dJ13_bitCount_95d88_10 rfl (lv_at hl 0 rfl) ?_
  refine lv_ldc2 (v := 3689348814741910323) hx hb hown (hts (.constantLong RJ13 316 (3689348814741910323)) (by decide +kernel)) dJ13_bitCount_95d88_11 ?_
  refine lv_land hx hb dJ13_bitCount_95d88_14 ?_
  refine lv_lload_n hx hb dJ13_bitCount_95d88_15 rfl (lv_at hl 0 rfl) ?_
  refine lv_iconst (v := 2) hx hb dJ13_bitCount_95d88_16 (by decide) ?_
  refine lv_lushr (v := (lushr y1 (2 : Int32))) hx hb dJ13_bitCount_95d88_17 rfl ?_
  refine lv_ldc2 (v := 3689348814741910323) hx hb hown (hts (.constantLong RJ13 316 (3689348814741910323)) (by decide +kernel)) dJ13_bitCount_95d88_18 ?_
  refine lv_land hx hb dJ13_bitCount_95d88_21 ?_
  refine lv_ladd hx hb dJ13_bitCount_95d88_22 ?_
  refine lv_topl (fun y2 ey2 => ?_)
  have h := h y2 ey2
  refine lv_lstore_n (lv' := [(0, .long y2)]) hx hb dJ13_bitCount_95d88_23 rfl hl (by decide) rfl (fun ls hl => ?_)
  refine lv_lload_n hx hb dJ13_bitCount_95d88_24 rfl (lv_at hl 0 rfl) ?_
  refine lv_lload_n hx hb dJ13_bitCount_95d88_25 rfl (lv_at hl 0 rfl) ?_
  refine lv_iconst (v := 4) hx hb dJ13_bitCount_95d88_26 (by decide) ?_
  refine lv_lushr (v := (lushr y2 (4 : Int32))) hx hb dJ13_bitCount_95d88_27 rfl ?_
  refine lv_ladd hx hb dJ13_bitCount_95d88_28 ?_
  refine lv_ldc2 (v := 1085102592571150095) hx hb hown (hts (.constantLong RJ13 318 (1085102592571150095)) (by decide +kernel)) dJ13_bitCount_95d88_29 ?_
  refine lv_land hx hb dJ13_bitCount_95d88_32 ?_
  refine lv_topl (fun y3 ey3 => ?_)
  have h := h y3 ey3
  refine lv_lstore_n (lv' := [(0, .long y3)]) hx hb dJ13_bitCount_95d88_33 rfl hl (by decide) rfl (fun ls hl => ?_)
  refine lv_lload_n hx hb dJ13_bitCount_95d88_34 rfl (lv_at hl 0 rfl) ?_
  refine lv_lload_n hx hb dJ13_bitCount_95d88_35 rfl (lv_at hl 0 rfl) ?_
  refine lv_bipush (v := 8) hx hb dJ13_bitCount_95d88_36 (by decide) ?_
  refine lv_lushr (v := (lushr y3 (8 : Int32))) hx hb dJ13_bitCount_95d88_38 rfl ?_
  refine lv_ladd hx hb dJ13_bitCount_95d88_39 ?_
  refine lv_topl (fun y4 ey4 => ?_)
  have h := h y4 ey4
  refine lv_lstore_n (lv' := [(0, .long y4)]) hx hb dJ13_bitCount_95d88_40 rfl hl (by decide) rfl (fun ls hl => ?_)
  refine lv_lload_n hx hb dJ13_bitCount_95d88_41 rfl (lv_at hl 0 rfl) ?_
  refine lv_lload_n hx hb dJ13_bitCount_95d88_42 rfl (lv_at hl 0 rfl) ?_
  refine lv_bipush (v := 16) hx hb dJ13_bitCount_95d88_43 (by decide) ?_
  refine lv_lushr (v := (lushr y4 (16 : Int32))) hx hb dJ13_bitCount_95d88_45 rfl ?_
  refine lv_ladd hx hb dJ13_bitCount_95d88_46 ?_
  refine lv_topl (fun y5 ey5 => ?_)
  have h := h y5 ey5
  refine lv_lstore_n (lv' := [(0, .long y5)]) hx hb dJ13_bitCount_95d88_47 rfl hl (by decide) rfl (fun ls hl => ?_)
  refine lv_lload_n hx hb dJ13_bitCount_95d88_48 rfl (lv_at hl 0 rfl) ?_
  refine lv_lload_n hx hb dJ13_bitCount_95d88_49 rfl (lv_at hl 0 rfl) ?_
  refine lv_bipush (v := 32) hx hb dJ13_bitCount_95d88_50 (by decide) ?_
  refine lv_lushr (v := (lushr y5 (32 : Int32))) hx hb dJ13_bitCount_95d88_52 rfl ?_
  refine lv_ladd hx hb dJ13_bitCount_95d88_53 ?_
  refine lv_topl (fun y6 ey6 => ?_)
  have h := h y6 ey6
  refine lv_lstore_n (lv' := [(0, .long y6)]) hx hb dJ13_bitCount_95d88_54 rfl hl (by decide) rfl (fun ls hl => ?_)
  refine lv_lload_n hx hb dJ13_bitCount_95d88_55 rfl (lv_at hl 0 rfl) ?_
  refine lv_l2i (v := y6.toInt32) hx hb dJ13_bitCount_95d88_56 rfl ?_
  refine lv_bipush (v := 127) hx hb dJ13_bitCount_95d88_57 (by decide) ?_
  refine lv_iand hx hb dJ13_bitCount_95d88_59 ?_
  exact xr_i (S := S) hx hb hr hlocks hK hP hD hS ⟨rfl, h⟩ (Nat.le_of_ble_eq_true rfl) (Nat.le_of_ble_eq_true rfl) dJ13_bitCount_95d88_60
