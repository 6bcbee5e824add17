def p_law_538 (g23 : CS → (Nat → Int64) → MS → Int32 → Nat → Nat → Prop) (xs : Nat → Int32) (L : Nat) (S : CS) (o : Nat → Int64) (M : MS) (i : Int32) (uc us : Nat) : Prop := vp_in (i + (1 : Int32)) L ∧ ((uc + 1 ≤ 601024 ∧ us + 6 ≤ 7293034) ∧ (p_L_cuts S o (xs (i + (1 : Int32)).toNatClampNeg) (fun r2 u3 => ∀ (S4 : CS) (o5 : Nat → Int64), S4 = u3.1 → o5 = u3.2 → (vp_in (i + (1 : Int32)) L ∧ (p_X6_cuts M (xs (i + (1 : Int32)).toNatClampNeg) (fun r7 M8 => p_X6_thrown M8 (fun r9 => (r9 = r2 → ((¬ r2 = 0 → (∀ y13 : Int32, y13 = (i + (4 : Int32)) → (g23 S4 o5 M8 y13 (uc + 1) (us + 6)))) ∧ (r2 = 0 → (((lg_cmp (o5 (0 : Int32).toNatClampNeg) (r7.toInt64)) = 0 → (∀ y15 : Int32, y15 = (i + (4 : Int32)) → (g23 S4 o5 M8 y15 (uc + 1) (us + 6)))) ∧ (¬ (lg_cmp (o5 (0 : Int32).toNatClampNeg) (r7.toInt64)) = 0 → (False)))))) ∧ (¬ r9 = r2 → (False)))))))))
set_option maxHeartbeats 2000000 in
set_option maxRecDepth 100000 in
theorem t_law_538 {p : Program} {l : Launch} {e : Env} {s : State} {m : MethodId} {below : List Frame} {meth : Method} {c : Code} {dC : Nat → ClassId} {dI : Nat → Nat → Nat} {cyI cyJ cyZ : ClassId} {r : Nat → Nat} {a mb : Nat → Nat} {q b L : Nat} {xs : Nat → Int32} {g23 : CS → (Nat → Int64) → MS → Int32 → Nat → Nat → Prop} {S : CS} {o : Nat → Int64} {M : MS} {i : Int32} {uc us : Nat} (G : xLG p l s m meth c b L xs dC dI cyI cyJ cyZ r) (k23 : ∀ (S' : CS) (o' : Nat → Int64) (M' : MS) (i' : Int32) (uc' us' : Nat) (H : Heap) (locs : List Loc) (ls : Array Slot), (uc' ≤ 601024 ∧ us' ≤ 7293034) → g23 S' o' M' i' uc' us' → va_P (dC, dI) vwCl (wW cyI cyJ cyZ a q mb S' o' M') H → va_D (fun q : Nat => s.heap.size ≤ q) (wW cyI cyJ cyZ a q mb S' o' M') → va_S (fun q : Nat => s.heap.size ≤ q) s.heap H locs → lv_has ls 8 [(0, .ref b), (1, .ref (a 0)), (2, .ref (mb 0)), (3, .ref q), (4, .int i')] → W p l e room_1 s m #[Value.ref b] below meth c H locs uc' us' (lw_Z below #[Value.ref b] s) (F0 m 23 ls [])) (h : p_law_538 g23 xs L S o M i uc us) {H : Heap} {locs : List Loc} {ls : Array Slot} (hu : uc ≤ 601024 ∧ us ≤ 7293034) (hP : va_P (dC, dI) vwCl (wW cyI cyJ cyZ a q mb S o M) H) (hD : va_D (fun q : Nat => s.heap.size ≤ q) (wW cyI cyJ cyZ a q mb S o M)) (hS : va_S (fun q : Nat => s.heap.size ≤ q) s.heap H locs) (hl : lv_has ls 8 [(0, .ref b), (1, .ref (a 0)), (2, .ref (mb 0)), (3, .ref q), (4, .int i)]) : W p l e room_1 s m #[Value.ref b] below meth c H locs uc us (lw_Z below #[Value.ref b] s) (F0 m 538 ls []) := by
  obtain ⟨hx, hb, hml, hown, hts, hr, hlocks, hK, hE, hX, hbl, hl0⟩ := id G
  have hbA : ¬ (fun q : Nat => s.heap.size ≤ q) b := Nat.not_le.mpr hbl
  unfold p_law_538 at h
  refine lv_aload_n hx hb dL_law_538 rfl (lv_at hl 1 rfl) ?_
  refine lv_aload_n hx hb dL_law_539 rfl (lv_at hl 0 rfl) ?_
  refine lv_iload hx hb dL_law_540 (lv_at hl 4 rfl) ?_
  refine lv_iconst (v := 1) hx hb dL_law_542 (by decide) ?_
  refine lv_iadd hx hb dL_law_543 ?_
  obtain ⟨i1, h⟩ := h
  refine va_sld hx hb hX hbl hbA hS i1 dL_law_544 ?_
  refine lv_aload_n hx hb dL_law_545 rfl (lv_at hl 3 rfl) ?_
  obtain ⟨hu, h⟩ := h
  refine xt_SXi (wf := wL cyI cyJ cyZ a q) (S := (S, o)) (wr := wM cyI cyJ cyZ mb M) (isC := [0, 1, 2, 3, 4, 5, 6, 7, 8, 9, 10, 11, 12, 13, 14, 15, 16, 17, 18, 19, 20, 21]) (isR := [22, 23, 24, 25, 26, 27, 28, 29, 30, 31, 32, 33, 34, 35, 36, 37, 38, 39, 40, 41, 42]) (As := [.ref (a 0), .int (xs (i + (1 : Int32)).toNatClampNeg), .ref q]) (rest := []) ⟨hx, hb, hml, hown, hts⟩ (t_L_cuts hl0 h) (vx_cwSW 3 hts gL_law_L_cuts rfl rfl rfl (by decide +kernel) ⟨Nat.le_of_ble_eq_true rfl, Nat.le_of_ble_eq_true rfl⟩) ⟨hK, hE, fun _ h => h, hP, hD, hS, rfl, rfl, rfl, rfl, by decide⟩ rfl rfl hl.1 (Nat.le_of_ble_eq_true rfl) dL_law_546 ⟨hu.1, hu.2⟩ (fun E ce q9 u H locs h hP hD hS hce hcv hcl => h.elim) (fun r2 u3 H locs h hP hD hS => ?_)
  obtain ⟨S4, o5⟩ := u3
  have h := h S4 o5 rfl rfl
  have hP : va_P (dC, dI) vwCl (wW cyI cyJ cyZ a q mb S4 o5 M) H := hP.sub [21, 22, 23, 24, 25, 26, 27, 28, 29, 30, 31, 32, 33, 34, 35, 36, 37, 38, 39, 40, 41, 42, 0, 1, 2, 3, 4, 5, 6, 7, 8, 9, 10, 11, 12, 13, 14, 15, 16, 17, 18, 19, 20] rfl
  have hD : va_D (fun q : Nat => s.heap.size ≤ q) (wW cyI cyJ cyZ a q mb S4 o5 M) := hD.sub [21, 22, 23, 24, 25, 26, 27, 28, 29, 30, 31, 32, 33, 34, 35, 36, 37, 38, 39, 40, 41, 42, 0, 1, 2, 3, 4, 5, 6, 7, 8, 9, 10, 11, 12, 13, 14, 15, 16, 17, 18, 19, 20] (by decide) rfl
  refine lv_istore (lv' := [(5, .int r2), (0, .ref b), (1, .ref (a 0)), (2, .ref (mb 0)), (3, .ref q), (4, .int i)]) hx hb dL_law_549 hl (by decide) rfl (fun ls hl => ?_)
  refine lv_aload_n hx hb dL_law_551 rfl (lv_at hl 3 rfl) ?_
  refine lv_aload_n hx hb dL_law_552 rfl (lv_at hl 1 rfl) ?_
  refine lv_iload hx hb dL_law_553 (lv_at hl 5 rfl) ?_
  refine lv_iconst (v := 1) hx hb dL_law_555 (by decide) ?_
  refine lv_iadd hx hb dL_law_556 ?_
  obtain ⟨i6, h⟩ := h
  refine va_sld hx hb hX hbl hbA hS i6 dL_law_557 ?_
  refine xc_Vi (wf := wM cyI cyJ cyZ mb) (S := M) (wr := wL cyI cyJ cyZ a q (S4, o5)) (isC := [22, 23, 24, 25, 26, 27, 28, 29, 30, 31, 32, 33, 34, 35, 36, 37, 38, 39, 40, 41, 42]) (isR := [0, 1, 2, 3, 4, 5, 6, 7, 8, 9, 10, 11, 12, 13, 14, 15, 16, 17, 18, 19, 20, 21]) (As := [.int (xs (i + (1 : Int32)).toNatClampNeg)]) (rest := []) ⟨hx, hb, hml, hown, hts⟩ (t_X6_cuts h) (cwV 1 hts gL_law_X6_cuts rfl rfl rfl (by decide +kernel) ⟨Nat.le_of_ble_eq_true rfl, Nat.le_of_ble_eq_true rfl⟩) ⟨hK, hE, fun _ h => h, hP, hD, hS, rfl, rfl, rfl, rfl, by decide⟩ ⟨0, 5, _, _, rfl, rfl, rfl⟩ rfl rfl hl.1 (Nat.le_of_ble_eq_true rfl) dL_law_558 ⟨hu.1, hu.2⟩ (fun r7 M8 H locs h hP hD hS => ?_)
  have hP : va_P (dC, dI) vwCl (wW cyI cyJ cyZ a q mb S4 o5 M8) H := hP
  have hD : va_D (fun q : Nat => s.heap.size ≤ q) (wW cyI cyJ cyZ a q mb S4 o5 M8) := hD
  refine W.cs (cells' := (uc + 1)) (slots' := (us + 6)) rfl rfl ?_
  refine lv_istore (lv' := [(6, .int r7), (5, .int r2), (0, .ref b), (1, .ref (a 0)), (2, .ref (mb 0)), (3, .ref q), (4, .int i)]) hx hb dL_law_561 hl (by decide) rfl (fun ls hl => ?_)
  refine lv_aload_n hx hb dL_law_563 rfl (lv_at hl 4 rfl) ?_
  refine xc_Vi (wf := wM cyI cyJ cyZ mb) (S := M8) (wr := wL cyI cyJ cyZ a q (S4, o5)) (isC := [22, 23, 24, 25, 26, 27, 28, 29, 30, 31, 32, 33, 34, 35, 36, 37, 38, 39, 40, 41, 42]) (isR := [0, 1, 2, 3, 4, 5, 6, 7, 8, 9, 10, 11, 12, 13, 14, 15, 16, 17, 18, 19, 20, 21]) (As := []) (rest := []) ⟨hx, hb, hml, hown, hts⟩ (t_X6_thrown h) (cwV 0 hts gL_law_X6_thrown rfl rfl rfl (by decide +kernel) ⟨Nat.le_of_ble_eq_true rfl, Nat.le_of_ble_eq_true rfl⟩) ⟨hK, hE, fun _ h => h, hP, hD, hS, rfl, rfl, rfl, rfl, by decide⟩ ⟨0, 5, _, _, rfl, rfl, rfl⟩ rfl rfl hl.1 (Nat.le_of_ble_eq_true rfl) dL_law_564 ⟨hu.1, hu.2⟩ (fun r9 M10 H locs h hP hD hS => ?_)
  obtain ⟨rfl, h⟩ := h
  have hP : va_P (dC, dI) vwCl (wW cyI cyJ cyZ a q mb S4 o5 M8) H := hP
  have hD : va_D (fun q : Nat => s.heap.size ≤ q) (wW cyI cyJ cyZ a q mb S4 o5 M8) := hD
  refine W.cs (cells' := (uc + 1)) (slots' := (us + 6)) rfl rfl ?_
  refine lv_iload hx hb dL_law_567 (lv_at hl 1 rfl) ?_
  refine lv_icmp_eq (tgt := 574) hx hb dL_law_569 (by decide) (fun c11 => ?_) (fun c11 => ?_)
  · have h := h.1 c11
    refine lv_iload hx hb dL_law_574 (lv_at hl 1 rfl) ?_
    refine lv_if_ne (tgt := 591) hx hb dL_law_576 (by decide) (fun c12 => ?_) (fun c12 => ?_)
    · have h := h.1 c12
      refine lv_goto (tgt := 1151) hx hb dL_law_591 (by decide) ?_
      obtain ⟨y13, ey13⟩ : ∃ z : Int32, z = (i + (4 : Int32)) := ⟨_, rfl⟩
      have h := h y13 ey13
      refine lv_iinc (v := y13) (lv' := [(4, .int y13), (6, .int r7), (5, .int r2), (0, .ref b), (1, .ref (a 0)), (2, .ref (mb 0)), (3, .ref q)]) hx hb dL_law_1151 hl (k := 6) rfl (by rw [ey13]; rfl) (by decide) rfl (fun ls hl => ?_)
      refine lv_goto (tgt := 23) hx hb dL_law_1154 (by decide) ?_
      exact k23 _ _ _ _ _ _ H locs ls hu h hP hD hS (lv_sub hl [3, 4, 5, 6, 0] rfl)
    · have h := h.2 c12
      refine lv_aload_n hx hb dL_law_579 rfl (lv_at hl 5 rfl) ?_
      refine lv_iconst (v := 0) hx hb dL_law_580 (by decide) ?_
      refine va_lald (D := (dC, dI)) hx hb hK hP 21 1 rfl rfl (by unfold vp_in; decide) dL_law_581 ?_
      refine lv_iload hx hb dL_law_582 (lv_at hl 0 rfl) ?_
      refine lv_i2l (v := r7.toInt64) hx hb dL_law_584 rfl ?_
      refine W.lcmp hx hb dL_law_585 ?_
      refine lv_if_eq (tgt := 591) hx hb dL_law_586 (by decide) (fun c14 => ?_) (fun c14 => ?_)
      · have h := h.1 c14
        refine lv_goto (tgt := 1151) hx hb dL_law_591 (by decide) ?_
        obtain ⟨y15, ey15⟩ : ∃ z : Int32, z = (i + (4 : Int32)) := ⟨_, rfl⟩
        have h := h y15 ey15
        refine lv_iinc (v := y15) (lv' := [(4, .int y15), (6, .int r7), (5, .int r2), (0, .ref b), (1, .ref (a 0)), (2, .ref (mb 0)), (3, .ref q)]) hx hb dL_law_1151 hl (k := 6) rfl (by rw [ey15]; rfl) (by decide) rfl (fun ls hl => ?_)
        refine lv_goto (tgt := 23) hx hb dL_law_1154 (by decide) ?_
        exact k23 _ _ _ _ _ _ H locs ls hu h hP hD hS (lv_sub hl [3, 4, 5, 6, 0] rfl)
      · have h := h.2 c14
        exact h.elim
  · have h := h.2 c11
    exact h.elim
def p_law_594 (g23 : CS → (Nat → Int64) → MS → Int32 → Nat → Nat → Prop) (xs : Nat → Int32) (L : Nat) (S : CS) (o : Nat → Int64) (M : MS) (i : Int32) (uc us : Nat) : Prop := vp_in (i + (1 : Int32)) L ∧ (vp_in (i + (2 : Int32)) L ∧ ((uc + 2 ≤ 601024 ∧ us + 12 ≤ 7293034) ∧ (p_L_cut S o (xs (i + (1 : Int32)).toNatClampNeg) (xs (i + (2 : Int32)).toNatClampNeg) (fun r18 u19 => ∀ (S20 : CS) (o21 : Nat → Int64), S20 = u19.1 → o21 = u19.2 → (vp_in (i + (1 : Int32)) L ∧ (vp_in (i + (2 : Int32)) L ∧ (p_X6_cut M (xs (i + (1 : Int32)).toNatClampNeg) (xs (i + (2 : Int32)).toNatClampNeg) (fun r24 M25 => p_X6_thrown M25 (fun r26 => (r26 = r18 → ((¬ r18 = 0 → (∀ y30 : Int32, y30 = (i + (4 : Int32)) → (g23 S20 o21 M25 y30 (uc + 2) (us + 12)))) ∧ (r18 = 0 → (((lg_cmp (o21 (0 : Int32).toNatClampNeg) r24) = 0 → (∀ y32 : Int32, y32 = (i + (4 : Int32)) → (g23 S20 o21 M25 y32 (uc + 2) (us + 12)))) ∧ (¬ (lg_cmp (o21 (0 : Int32).toNatClampNeg) r24) = 0 → (False)))))) ∧ (¬ r26 = r18 → (False)))))))))))
set_option maxHeartbeats 2000000 in
set_option maxRecDepth 100000 in
theorem t_law_594 {p : Program} {l : Launch} {e : Env} {s : State} {m : MethodId} {below : List Frame} {meth : Method} {c : Code} {dC : Nat → ClassId} {dI : Nat → Nat → Nat} {cyI cyJ cyZ : ClassId} {r : Nat → Nat} {a mb : Nat → Nat} {q b L : Nat} {xs : Nat → Int32} {g23 : CS → (Nat → Int64) → MS → Int32 → Nat → Nat → Prop} {S : CS} {o : Nat → Int64} {M : MS} {i : Int32} {uc us : Nat} (G : xLG p l s m meth c b L xs dC dI cyI cyJ cyZ r) (k23 : ∀ (S' : CS) (o' : Nat → Int64) (M' : MS) (i' : Int32) (uc' us' : Nat) (H : Heap) (locs : List Loc) (ls : Array Slot), (uc' ≤ 601024 ∧ us' ≤ 7293034) → g23 S' o' M' i' uc' us' → va_P (dC, dI) vwCl (wW cyI cyJ cyZ a q mb S' o' M') H → va_D (fun q : Nat => s.heap.size ≤ q) (wW cyI cyJ cyZ a q mb S' o' M') → va_S (fun q : Nat => s.heap.size ≤ q) s.heap H locs → lv_has ls 8 [(0, .ref b), (1, .ref (a 0)), (2, .ref (mb 0)), (3, .ref q), (4, .int i')] → W p l e room_1 s m #[Value.ref b] below meth c H locs uc' us' (lw_Z below #[Value.ref b] s) (F0 m 23 ls [])) (h : p_law_594 g23 xs L S o M i uc us) {H : Heap} {locs : List Loc} {ls : Array Slot} (hu : uc ≤ 601024 ∧ us ≤ 7293034) (hP : va_P (dC, dI) vwCl (wW cyI cyJ cyZ a q mb S o M) H) (hD : va_D (fun q : Nat => s.heap.size ≤ q) (wW cyI cyJ cyZ a q mb S o M)) (hS : va_S (fun q : Nat => s.heap.size ≤ q) s.heap H locs) (hl : lv_has ls 8 [(0, .ref b), (1, .ref (a 0)), (2, .ref (mb 0)), (3, .ref q), (4, .int i)]) : W p l e room_1 s m #[Value.ref b] below meth c H locs uc us (lw_Z below #[Value.ref b] s) (F0 m 594 ls []) := by
  obtain ⟨hx, hb, hml, hown, hts, hr, hlocks, hK, hE, hX, hbl, hl0⟩ := id G
  have hbA : ¬ (fun q : Nat => s.heap.size ≤ q) b := Nat.not_le.mpr hbl
  unfold p_law_594 at h
  refine lv_aload_n hx hb dL_law_594 rfl (lv_at hl 1 rfl) ?_
  refine lv_aload_n hx hb dL_law_595 rfl (lv_at hl 0 rfl) ?_
  refine lv_iload hx hb dL_law_596 (lv_at hl 4 rfl) ?_
  refine lv_iconst (v := 1) hx hb dL_law_598 (by decide) ?_
  refine lv_iadd hx hb dL_law_599 ?_
  obtain ⟨i16, h⟩ := h
  refine va_sld hx hb hX hbl hbA hS i16 dL_law_600 ?_
  refine lv_aload_n hx hb dL_law_601 rfl (lv_at hl 0 rfl) ?_
  refine lv_iload hx hb dL_law_602 (lv_at hl 4 rfl) ?_
  refine lv_iconst (v := 2) hx hb dL_law_604 (by decide) ?_
  refine lv_iadd hx hb dL_law_605 ?_
  obtain ⟨i17, h⟩ := h
  refine va_sld hx hb hX hbl hbA hS i17 dL_law_606 ?_
  refine lv_aload_n hx hb dL_law_607 rfl (lv_at hl 3 rfl) ?_
  obtain ⟨hu, h⟩ := h
  refine xt_SXi (wf := wL cyI cyJ cyZ a q) (S := (S, o)) (wr := wM cyI cyJ cyZ mb M) (isC := [0, 1, 2, 3, 4, 5, 6, 7, 8, 9, 10, 11, 12, 13, 14, 15, 16, 17, 18, 19, 20, 21]) (isR := [22, 23, 24, 25, 26, 27, 28, 29, 30, 31, 32, 33, 34, 35, 36, 37, 38, 39, 40, 41, 42]) (As := [.ref (a 0), .int (xs (i + (1 : Int32)).toNatClampNeg), .int (xs (i + (2 : Int32)).toNatClampNeg), .ref q]) (rest := []) ⟨hx, hb, hml, hown, hts⟩ (t_L_cut hl0 h) (vx_cwSW 4 hts gL_law_L_cut rfl rfl rfl (by decide +kernel) ⟨Nat.le_of_ble_eq_true rfl, Nat.le_of_ble_eq_true rfl⟩) ⟨hK, hE, fun _ h => h, hP, hD, hS, rfl, rfl, rfl, rfl, by decide⟩ rfl rfl hl.1 (Nat.le_of_ble_eq_true rfl) dL_law_608 ⟨hu.1, hu.2⟩ (fun E ce q9 u H locs h hP hD hS hce hcv hcl => h.elim) (fun r18 u19 H locs h hP hD hS => ?_)
  obtain ⟨S20, o21⟩ := u19
  have h := h S20 o21 rfl rfl
  have hP : va_P (dC, dI) vwCl (wW cyI cyJ cyZ a q mb S20 o21 M) H := hP.sub [21, 22, 23, 24, 25, 26, 27, 28, 29, 30, 31, 32, 33, 34, 35, 36, 37, 38, 39, 40, 41, 42, 0, 1, 2, 3, 4, 5, 6, 7, 8, 9, 10, 11, 12, 13, 14, 15, 16, 17, 18, 19, 20] rfl
  have hD : va_D (fun q : Nat => s.heap.size ≤ q) (wW cyI cyJ cyZ a q mb S20 o21 M) := hD.sub [21, 22, 23, 24, 25, 26, 27, 28, 29, 30, 31, 32, 33, 34, 35, 36, 37, 38, 39, 40, 41, 42, 0, 1, 2, 3, 4, 5, 6, 7, 8, 9, 10, 11, 12, 13, 14, 15, 16, 17, 18, 19, 20] (by decide) rfl
  refine lv_istore (lv' := [(5, .int r18), (0, .ref b), (1, .ref (a 0)), (2, .ref (mb 0)), (3, .ref q), (4, .int i)]) hx hb dL_law_611 hl (by decide) rfl (fun ls hl => ?_)
  refine lv_aload_n hx hb dL_law_613 rfl (lv_at hl 3 rfl) ?_
  refine lv_aload_n hx hb dL_law_614 rfl (lv_at hl 1 rfl) ?_
  refine lv_iload hx hb dL_law_615 (lv_at hl 5 rfl) ?_
  refine lv_iconst (v := 1) hx hb dL_law_617 (by decide) ?_
  refine lv_iadd hx hb dL_law_618 ?_
  obtain ⟨i22, h⟩ := h
  refine va_sld hx hb hX hbl hbA hS i22 dL_law_619 ?_
  refine lv_aload_n hx hb dL_law_620 rfl (lv_at hl 1 rfl) ?_
  refine lv_iload hx hb dL_law_621 (lv_at hl 5 rfl) ?_
  refine lv_iconst (v := 2) hx hb dL_law_623 (by decide) ?_
  refine lv_iadd hx hb dL_law_624 ?_
  obtain ⟨i23, h⟩ := h
  refine va_sld hx hb hX hbl hbA hS i23 dL_law_625 ?_
  refine xc_Vl (wf := wM cyI cyJ cyZ mb) (S := M) (wr := wL cyI cyJ cyZ a q (S20, o21)) (isC := [22, 23, 24, 25, 26, 27, 28, 29, 30, 31, 32, 33, 34, 35, 36, 37, 38, 39, 40, 41, 42]) (isR := [0, 1, 2, 3, 4, 5, 6, 7, 8, 9, 10, 11, 12, 13, 14, 15, 16, 17, 18, 19, 20, 21]) (As := [.int (xs (i + (1 : Int32)).toNatClampNeg), .int (xs (i + (2 : Int32)).toNatClampNeg)]) (rest := []) ⟨hx, hb, hml, hown, hts⟩ (t_X6_cut h) (cwV 2 hts gL_law_X6_cut rfl rfl rfl (by decide +kernel) ⟨Nat.le_of_ble_eq_true rfl, Nat.le_of_ble_eq_true rfl⟩) ⟨hK, hE, fun _ h => h, hP, hD, hS, rfl, rfl, rfl, rfl, by decide⟩ ⟨0, 5, _, _, rfl, rfl, rfl⟩ rfl rfl hl.1 (Nat.le_of_ble_eq_true rfl) dL_law_626 ⟨hu.1, hu.2⟩ (fun r24 M25 H locs h hP hD hS => ?_)
  have hP : va_P (dC, dI) vwCl (wW cyI cyJ cyZ a q mb S20 o21 M25) H := hP
  have hD : va_D (fun q : Nat => s.heap.size ≤ q) (wW cyI cyJ cyZ a q mb S20 o21 M25) := hD
  refine W.cs (cells' := (uc + 2)) (slots' := (us + 12)) rfl rfl ?_
  refine lv_lstore (lv' := [(6, .long r24), (5, .int r18), (0, .ref b), (1, .ref (a 0)), (2, .ref (mb 0)), (3, .ref q), (4, .int i)]) hx hb dL_law_629 hl (by decide) rfl (fun ls hl => ?_)
  refine lv_aload_n hx hb dL_law_631 rfl (lv_at hl 4 rfl) ?_
  refine xc_Vi (wf := wM cyI cyJ cyZ mb) (S := M25) (wr := wL cyI cyJ cyZ a q (S20, o21)) (isC := [22, 23, 24, 25, 26, 27, 28, 29, 30, 31, 32, 33, 34, 35, 36, 37, 38, 39, 40, 41, 42]) (isR := [0, 1, 2, 3, 4, 5, 6, 7, 8, 9, 10, 11, 12, 13, 14, 15, 16, 17, 18, 19, 20, 21]) (As := []) (rest := []) ⟨hx, hb, hml, hown, hts⟩ (t_X6_thrown h) (cwV 0 hts gL_law_X6_thrown rfl rfl rfl (by decide +kernel) ⟨Nat.le_of_ble_eq_true rfl, Nat.le_of_ble_eq_true rfl⟩) ⟨hK, hE, fun _ h => h, hP, hD, hS, rfl, rfl, rfl, rfl, by decide⟩ ⟨0, 5, _, _, rfl, rfl, rfl⟩ rfl rfl hl.1 (Nat.le_of_ble_eq_true rfl) dL_law_632 ⟨hu.1, hu.2⟩ (fun r26 M27 H locs h hP hD hS => ?_)
  obtain ⟨rfl, h⟩ := h
  have hP : va_P (dC, dI) vwCl (wW cyI cyJ cyZ a q mb S20 o21 M25) H := hP
  have hD : va_D (fun q : Nat => s.heap.size ≤ q) (wW cyI cyJ cyZ a q mb S20 o21 M25) := hD
  refine W.cs (cells' := (uc + 2)) (slots' := (us + 12)) rfl rfl ?_
  refine lv_iload hx hb dL_law_635 (lv_at hl 1 rfl) ?_
  refine lv_icmp_eq (tgt := 642) hx hb dL_law_637 (by decide) (fun c28 => ?_) (fun c28 => ?_)
  · have h := h.1 c28
    refine lv_iload hx hb dL_law_642 (lv_at hl 1 rfl) ?_
    refine lv_if_ne (tgt := 658) hx hb dL_law_644 (by decide) (fun c29 => ?_) (fun c29 => ?_)
    · have h := h.1 c29
      refine lv_goto (tgt := 1151) hx hb dL_law_658 (by decide) ?_
      obtain ⟨y30, ey30⟩ : ∃ z : Int32, z = (i + (4 : Int32)) := ⟨_, rfl⟩
      have h := h y30 ey30
      refine lv_iinc (v := y30) (lv' := [(4, .int y30), (6, .long r24), (5, .int r18), (0, .ref b), (1, .ref (a 0)), (2, .ref (mb 0)), (3, .ref q)]) hx hb dL_law_1151 hl (k := 6) rfl (by rw [ey30]; rfl) (by decide) rfl (fun ls hl => ?_)
      refine lv_goto (tgt := 23) hx hb dL_law_1154 (by decide) ?_
      exact k23 _ _ _ _ _ _ H locs ls hu h hP hD hS (lv_sub hl [3, 4, 5, 6, 0] rfl)
    · have h := h.2 c29
      refine lv_aload_n hx hb dL_law_647 rfl (lv_at hl 5 rfl) ?_
      refine lv_iconst (v := 0) hx hb dL_law_648 (by decide) ?_
      refine va_lald (D := (dC, dI)) hx hb hK hP 21 1 rfl rfl (by unfold vp_in; decide) dL_law_649 ?_
      refine lv_lload hx hb dL_law_650 (lv_at hl 0 rfl) ?_
      refine W.lcmp hx hb dL_law_652 ?_
      refine lv_if_eq (tgt := 658) hx hb dL_law_653 (by decide) (fun c31 => ?_) (fun c31 => ?_)
      · have h := h.1 c31
        refine lv_goto (tgt := 1151) hx hb dL_law_658 (by decide) ?_
        obtain ⟨y32, ey32⟩ : ∃ z : Int32, z = (i + (4 : Int32)) := ⟨_, rfl⟩
        have h := h y32 ey32
        refine lv_iinc (v := y32) (lv' := [(4, .int y32), (6, .long r24), (5, .int r18), (0, .ref b), (1, .ref (a 0)), (2, .ref (mb 0)), (3, .ref q)]) hx hb dL_law_1151 hl (k := 6) rfl (by rw [ey32]; rfl) (by decide) rfl (fun ls hl => ?_)
        refine lv_goto (tgt := 23) hx hb dL_law_1154 (by decide) ?_
        exact k23 _ _ _ _ _ _ H locs ls hu h hP hD hS (lv_sub hl [3, 4, 5, 6, 0] rfl)
      · have h := h.2 c31
        exact h.elim
  · have h := h.2 c28
    exact h.elim
def p_law_661 (g23 : CS → (Nat → Int64) → MS → Int32 → Nat → Nat → Prop) (xs : Nat → Int32) (L : Nat) (S : CS) (o : Nat → Int64) (M : MS) (i : Int32) (uc us : Nat) : Prop := vp_in (i + (1 : Int32)) L ∧ (vp_in (i + (2 : Int32)) L ∧ ((uc + 2 ≤ 601024 ∧ us + 12 ≤ 7293034) ∧ (p_L_function S o (xs (i + (1 : Int32)).toNatClampNeg) (xs (i + (2 : Int32)).toNatClampNeg) (fun r35 u36 => ∀ (S37 : CS) (o38 : Nat → Int64), S37 = u36.1 → o38 = u36.2 → (vp_in (i + (1 : Int32)) L ∧ (vp_in (i + (2 : Int32)) L ∧ (p_X6_function M (xs (i + (1 : Int32)).toNatClampNeg) (xs (i + (2 : Int32)).toNatClampNeg) (fun r41 M42 => p_X6_thrown M42 (fun r43 => (r43 = r35 → ((¬ r35 = 0 → (∀ y47 : Int32, y47 = (i + (4 : Int32)) → (g23 S37 o38 M42 y47 (uc + 2) (us + 12)))) ∧ (r35 = 0 → (((lg_cmp (o38 (0 : Int32).toNatClampNeg) (r41.toInt64)) = 0 → (∀ y49 : Int32, y49 = (i + (4 : Int32)) → (g23 S37 o38 M42 y49 (uc + 2) (us + 12)))) ∧ (¬ (lg_cmp (o38 (0 : Int32).toNatClampNeg) (r41.toInt64)) = 0 → (False)))))) ∧ (¬ r43 = r35 → (False)))))))))))
set_option maxHeartbeats 2000000 in
set_option maxRecDepth 100000 in
theorem t_law_661 {p : Program} {l : Launch} {e : Env} {s : State} {m : MethodId} {below : List Frame} {meth : Method} {c : Code} {dC : Nat → ClassId} {dI : Nat → Nat → Nat} {cyI cyJ cyZ : ClassId} {r : Nat → Nat} {a mb : Nat → Nat} {q b L : Nat} {xs : Nat → Int32} {g23 : CS → (Nat → Int64) → MS → Int32 → Nat → Nat → Prop} {S : CS} {o : Nat → Int64} {M : MS} {i : Int32} {uc us : Nat} (G : xLG p l s m meth c b L xs dC dI cyI cyJ cyZ r) (k23 : ∀ (S' : CS) (o' : Nat → Int64) (M' : MS) (i' : Int32) (uc' us' : Nat) (H : Heap) (locs : List Loc) (ls : Array Slot), (uc' ≤ 601024 ∧ us' ≤ 7293034) → g23 S' o' M' i' uc' us' → va_P (dC, dI) vwCl (wW cyI cyJ cyZ a q mb S' o' M') H → va_D (fun q : Nat => s.heap.size ≤ q) (wW cyI cyJ cyZ a q mb S' o' M') → va_S (fun q : Nat => s.heap.size ≤ q) s.heap H locs → lv_has ls 8 [(0, .ref b), (1, .ref (a 0)), (2, .ref (mb 0)), (3, .ref q), (4, .int i')] → W p l e room_1 s m #[Value.ref b] below meth c H locs uc' us' (lw_Z below #[Value.ref b] s) (F0 m 23 ls [])) (h : p_law_661 g23 xs L S o M i uc us) {H : Heap} {locs : List Loc} {ls : Array Slot} (hu : uc ≤ 601024 ∧ us ≤ 7293034) (hP : va_P (dC, dI) vwCl (wW cyI cyJ cyZ a q mb S o M) H) (hD : va_D (fun q : Nat => s.heap.size ≤ q) (wW cyI cyJ cyZ a q mb S o M)) (hS : va_S (fun q : Nat => s.heap.size ≤ q) s.heap H locs) (hl : lv_has ls 8 [(0, .ref b), (1, .ref (a 0)), (2, .ref (mb 0)), (3, .ref q), (4, .int i)]) : W p l e room_1 s m #[Value.ref b] below meth c H locs uc us (lw_Z below #[Value.ref b] s) (F0 m 661 ls []) := by
  obtain ⟨hx, hb, hml, hown, hts, hr, hlocks, hK, hE, hX, hbl, hl0⟩ := id G
  have hbA : ¬ (fun q : Nat => s.heap.size ≤ q) b := Nat.not_le.mpr hbl
  unfold p_law_661 at h
  refine lv_aload_n hx hb dL_law_661 rfl (lv_at hl 1 rfl) ?_
  refine lv_aload_n hx hb dL_law_662 rfl (lv_at hl 0 rfl) ?_
  refine lv_iload hx hb dL_law_663 (lv_at hl 4 rfl) ?_
  refine lv_iconst (v := 1) hx hb dL_law_665 (by decide) ?_
  refine lv_iadd hx hb dL_law_666 ?_
  obtain ⟨i33, h⟩ := h
  refine va_sld hx hb hX hbl hbA hS i33 dL_law_667 ?_
  refine lv_aload_n hx hb dL_law_668 rfl (lv_at hl 0 rfl) ?_
  refine lv_iload hx hb dL_law_669 (lv_at hl 4 rfl) ?_
  refine lv_iconst (v := 2) hx hb dL_law_671 (by decide) ?_
  refine lv_iadd hx hb dL_law_672 ?_
  obtain ⟨i34, h⟩ := h
  refine va_sld hx hb hX hbl hbA hS i34 dL_law_673 ?_
  refine lv_aload_n hx hb dL_law_674 rfl (lv_at hl 3 rfl) ?_
  obtain ⟨hu, h⟩ := h
  refine xt_SXi (wf := wL cyI cyJ cyZ a q) (S := (S, o)) (wr := wM cyI cyJ cyZ mb M) (isC := [0, 1, 2, 3, 4, 5, 6, 7, 8, 9, 10, 11, 12, 13, 14, 15, 16, 17, 18, 19, 20, 21]) (isR := [22, 23, 24, 25, 26, 27, 28, 29, 30, 31, 32, 33, 34, 35, 36, 37, 38, 39, 40, 41, 42]) (As := [.ref (a 0), .int (xs (i + (1 : Int32)).toNatClampNeg), .int (xs (i + (2 : Int32)).toNatClampNeg), .ref q]) (rest := []) ⟨hx, hb, hml, hown, hts⟩ (t_L_function hl0 h) (vx_cwSW 4 hts gL_law_L_function rfl rfl rfl (by decide +kernel) ⟨Nat.le_of_ble_eq_true rfl, Nat.le_of_ble_eq_true rfl⟩) ⟨hK, hE, fun _ h => h, hP, hD, hS, rfl, rfl, rfl, rfl, by decide⟩ rfl rfl hl.1 (Nat.le_of_ble_eq_true rfl) dL_law_675 ⟨hu.1, hu.2⟩ (fun E ce q9 u H locs h hP hD hS hce hcv hcl => h.elim) (fun r35 u36 H locs h hP hD hS => ?_)
  obtain ⟨S37, o38⟩ := u36
  have h := h S37 o38 rfl rfl
  have hP : va_P (dC, dI) vwCl (wW cyI cyJ cyZ a q mb S37 o38 M) H := hP.sub [21, 22, 23, 24, 25, 26, 27, 28, 29, 30, 31, 32, 33, 34, 35, 36, 37, 38, 39, 40, 41, 42, 0, 1, 2, 3, 4, 5, 6, 7, 8, 9, 10, 11, 12, 13, 14, 15, 16, 17, 18, 19, 20] rfl
  have hD : va_D (fun q : Nat => s.heap.size ≤ q) (wW cyI cyJ cyZ a q mb S37 o38 M) := hD.sub [21, 22, 23, 24, 25, 26, 27, 28, 29, 30, 31, 32, 33, 34, 35, 36, 37, 38, 39, 40, 41, 42, 0, 1, 2, 3, 4, 5, 6, 7, 8, 9, 10, 11, 12, 13, 14, 15, 16, 17, 18, 19, 20] (by decide) rfl
  refine lv_istore (lv' := [(5, .int r35), (0, .ref b), (1, .ref (a 0)), (2, .ref (mb 0)), (3, .ref q), (4, .int i)]) hx hb dL_law_678 hl (by decide) rfl (fun ls hl => ?_)
  refine lv_aload_n hx hb dL_law_680 rfl (lv_at hl 3 rfl) ?_
  refine lv_aload_n hx hb dL_law_681 rfl (lv_at hl 1 rfl) ?_
  refine lv_iload hx hb dL_law_682 (lv_at hl 5 rfl) ?_
  refine lv_iconst (v := 1) hx hb dL_law_684 (by decide) ?_
  refine lv_iadd hx hb dL_law_685 ?_
  obtain ⟨i39, h⟩ := h
  refine va_sld hx hb hX hbl hbA hS i39 dL_law_686 ?_
  refine lv_aload_n hx hb dL_law_687 rfl (lv_at hl 1 rfl) ?_
  refine lv_iload hx hb dL_law_688 (lv_at hl 5 rfl) ?_
  refine lv_iconst (v := 2) hx hb dL_law_690 (by decide) ?_
  refine lv_iadd hx hb dL_law_691 ?_
  obtain ⟨i40, h⟩ := h
  refine va_sld hx hb hX hbl hbA hS i40 dL_law_692 ?_
  refine xc_Vi (wf := wM cyI cyJ cyZ mb) (S := M) (wr := wL cyI cyJ cyZ a q (S37, o38)) (isC := [22, 23, 24, 25, 26, 27, 28, 29, 30, 31, 32, 33, 34, 35, 36, 37, 38, 39, 40, 41, 42]) (isR := [0, 1, 2, 3, 4, 5, 6, 7, 8, 9, 10, 11, 12, 13, 14, 15, 16, 17, 18, 19, 20, 21]) (As := [.int (xs (i + (1 : Int32)).toNatClampNeg), .int (xs (i + (2 : Int32)).toNatClampNeg)]) (rest := []) ⟨hx, hb, hml, hown, hts⟩ (t_X6_function h) (cwV 2 hts gL_law_X6_function rfl rfl rfl (by decide +kernel) ⟨Nat.le_of_ble_eq_true rfl, Nat.le_of_ble_eq_true rfl⟩) ⟨hK, hE, fun _ h => h, hP, hD, hS, rfl, rfl, rfl, rfl, by decide⟩ ⟨0, 5, _, _, rfl, rfl, rfl⟩ rfl rfl hl.1 (Nat.le_of_ble_eq_true rfl) dL_law_693 ⟨hu.1, hu.2⟩ (fun r41 M42 H locs h hP hD hS => ?_)
  have hP : va_P (dC, dI) vwCl (wW cyI cyJ cyZ a q mb S37 o38 M42) H := hP
  have hD : va_D (fun q : Nat => s.heap.size ≤ q) (wW cyI cyJ cyZ a q mb S37 o38 M42) := hD
  refine W.cs (cells' := (uc + 2)) (slots' := (us + 12)) rfl rfl ?_
  refine lv_istore (lv' := [(6, .int r41), (5, .int r35), (0, .ref b), (1, .ref (a 0)), (2, .ref (mb 0)), (3, .ref q), (4, .int i)]) hx hb dL_law_696 hl (by decide) rfl (fun ls hl => ?_)
  refine lv_aload_n hx hb dL_law_698 rfl (lv_at hl 4 rfl) ?_
  refine xc_Vi (wf := wM cyI cyJ cyZ mb) (S := M42) (wr := wL cyI cyJ cyZ a q (S37, o38)) (isC := [22, 23, 24, 25, 26, 27, 28, 29, 30, 31, 32, 33, 34, 35, 36, 37, 38, 39, 40, 41, 42]) (isR := [0, 1, 2, 3, 4, 5, 6, 7, 8, 9, 10, 11, 12, 13, 14, 15, 16, 17, 18, 19, 20, 21]) (As := []) (rest := []) ⟨hx, hb, hml, hown, hts⟩ (t_X6_thrown h) (cwV 0 hts gL_law_X6_thrown rfl rfl rfl (by decide +kernel) ⟨Nat.le_of_ble_eq_true rfl, Nat.le_of_ble_eq_true rfl⟩) ⟨hK, hE, fun _ h => h, hP, hD, hS, rfl, rfl, rfl, rfl, by decide⟩ ⟨0, 5, _, _, rfl, rfl, rfl⟩ rfl rfl hl.1 (Nat.le_of_ble_eq_true rfl) dL_law_699 ⟨hu.1, hu.2⟩ (fun r43 M44 H locs h hP hD hS => ?_)
  obtain ⟨rfl, h⟩ := h
  have hP : va_P (dC, dI) vwCl (wW cyI cyJ cyZ a q mb S37 o38 M42) H := hP
  have hD : va_D (fun q : Nat => s.heap.size ≤ q) (wW cyI cyJ cyZ a q mb S37 o38 M42) := hD
  refine W.cs (cells' := (uc + 2)) (slots' := (us + 12)) rfl rfl ?_
  refine lv_iload hx hb dL_law_702 (lv_at hl 1 rfl) ?_
  refine lv_icmp_eq (tgt := 709) hx hb dL_law_704 (by decide) (fun c45 => ?_) (fun c45 => ?_)
  · have h := h.1 c45
    refine lv_iload hx hb dL_law_709 (lv_at hl 1 rfl) ?_
    refine lv_if_ne (tgt := 726) hx hb dL_law_711 (by decide) (fun c46 => ?_) (fun c46 => ?_)
    · have h := h.1 c46
      refine lv_goto (tgt := 1151) hx hb dL_law_726 (by decide) ?_
      obtain ⟨y47, ey47⟩ : ∃ z : Int32, z = (i + (4 : Int32)) := ⟨_, rfl⟩
      have h := h y47 ey47
      refine lv_iinc (v := y47) (lv' := [(4, .int y47), (6, .int r41), (5, .int r35), (0, .ref b), (1, .ref (a 0)), (2, .ref (mb 0)), (3, .ref q)]) hx hb dL_law_1151 hl (k := 6) rfl (by rw [ey47]; rfl) (by decide) rfl (fun ls hl => ?_)
      refine lv_goto (tgt := 23) hx hb dL_law_1154 (by decide) ?_
      exact k23 _ _ _ _ _ _ H locs ls hu h hP hD hS (lv_sub hl [3, 4, 5, 6, 0] rfl)
    · have h := h.2 c46
      refine lv_aload_n hx hb dL_law_714 rfl (lv_at hl 5 rfl) ?_
      refine lv_iconst (v := 0) hx hb dL_law_715 (by decide) ?_
      refine va_lald (D := (dC, dI)) hx hb hK hP 21 1 rfl rfl (by unfold vp_in; decide) dL_law_716 ?_
      refine lv_iload hx hb dL_law_717 (lv_at hl 0 rfl) ?_
      refine lv_i2l (v := r41.toInt64) hx hb dL_law_719 rfl ?_
      refine W.lcmp hx hb dL_law_720 ?_
      refine lv_if_eq (tgt := 726) hx hb dL_law_721 (by decide) (fun c48 => ?_) (fun c48 => ?_)
      · have h := h.1 c48
        refine lv_goto (tgt := 1151) hx hb dL_law_726 (by decide) ?_
        obtain ⟨y49, ey49⟩ : ∃ z : Int32, z = (i + (4 : Int32)) := ⟨_, rfl⟩
        have h := h y49 ey49
        refine lv_iinc (v := y49) (lv' := [(4, .int y49), (6, .int r41), (5, .int r35), (0, .ref b), (1, .ref (a 0)), (2, .ref (mb 0)), (3, .ref q)]) hx hb dL_law_1151 hl (k := 6) rfl (by rw [ey49]; rfl) (by decide) rfl (fun ls hl => ?_)
        refine lv_goto (tgt := 23) hx hb dL_law_1154 (by decide) ?_
        exact k23 _ _ _ _ _ _ H locs ls hu h hP hD hS (lv_sub hl [3, 4, 5, 6, 0] rfl)
      · have h := h.2 c48
        exact h.elim
  · have h := h.2 c45
    exact h.elim
def p_law_729 (g23 : CS → (Nat → Int64) → MS → Int32 → Nat → Nat → Prop) (xs : Nat → Int32) (L : Nat) (S : CS) (o : Nat → Int64) (M : MS) (i : Int32) (uc us : Nat) : Prop := vp_in (i + (1 : Int32)) L ∧ ((uc + 1 ≤ 601024 ∧ us + 6 ≤ 7293034) ∧ (p_L_arrival S o (xs (i + (1 : Int32)).toNatClampNeg) (fun r51 u52 => ∀ (S53 : CS) (o54 : Nat → Int64), S53 = u52.1 → o54 = u52.2 → (vp_in (i + (1 : Int32)) L ∧ (p_X6_arrival M (xs (i + (1 : Int32)).toNatClampNeg) (fun r56 M57 => p_X6_thrown M57 (fun r58 => (r58 = r51 → ((¬ r51 = 0 → (∀ y62 : Int32, y62 = (i + (4 : Int32)) → (g23 S53 o54 M57 y62 (uc + 1) (us + 6)))) ∧ (r51 = 0 → (((lg_cmp (o54 (0 : Int32).toNatClampNeg) (r56.toInt64)) = 0 → (∀ y64 : Int32, y64 = (i + (4 : Int32)) → (g23 S53 o54 M57 y64 (uc + 1) (us + 6)))) ∧ (¬ (lg_cmp (o54 (0 : Int32).toNatClampNeg) (r56.toInt64)) = 0 → (False)))))) ∧ (¬ r58 = r51 → (False)))))))))
set_option maxHeartbeats 2000000 in
set_option maxRecDepth 100000 in
theorem t_law_729 {p : Program} {l : Launch} {e : Env} {s : State} {m : MethodId} {below : List Frame} {meth : Method} {c : Code} {dC : Nat → ClassId} {dI : Nat → Nat → Nat} {cyI cyJ cyZ : ClassId} {r : Nat → Nat} {a mb : Nat → Nat} {q b L : Nat} {xs : Nat → Int32} {g23 : CS → (Nat → Int64) → MS → Int32 → Nat → Nat → Prop} {S : CS} {o : Nat → Int64} {M : MS} {i : Int32} {uc us : Nat} (G : xLG p l s m meth c b L xs dC dI cyI cyJ cyZ r) (k23 : ∀ (S' : CS) (o' : Nat → Int64) (M' : MS) (i' : Int32) (uc' us' : Nat) (H : Heap) (locs : List Loc) (ls : Array Slot), (uc' ≤ 601024 ∧ us' ≤ 7293034) → g23 S' o' M' i' uc' us' → va_P (dC, dI) vwCl (wW cyI cyJ cyZ a q mb S' o' M') H → va_D (fun q : Nat => s.heap.size ≤ q) (wW cyI cyJ cyZ a q mb S' o' M') → va_S (fun q : Nat => s.heap.size ≤ q) s.heap H locs → lv_has ls 8 [(0, .ref b), (1, .ref (a 0)), (2, .ref (mb 0)), (3, .ref q), (4, .int i')] → W p l e room_1 s m #[Value.ref b] below meth c H locs uc' us' (lw_Z below #[Value.ref b] s) (F0 m 23 ls [])) (h : p_law_729 g23 xs L S o M i uc us) {H : Heap} {locs : List Loc} {ls : Array Slot} (hu : uc ≤ 601024 ∧ us ≤ 7293034) (hP : va_P (dC, dI) vwCl (wW cyI cyJ cyZ a q mb S o M) H) (hD : va_D (fun q : Nat => s.heap.size ≤ q) (wW cyI cyJ cyZ a q mb S o M)) (hS : va_S (fun q : Nat => s.heap.size ≤ q) s.heap H locs) (hl : lv_has ls 8 [(0, .ref b), (1, .ref (a 0)), (2, .ref (mb 0)), (3, .ref q), (4, .int i)]) : W p l e room_1 s m #[Value.ref b] below meth c H locs uc us (lw_Z below #[Value.ref b] s) (F0 m 729 ls []) := by
  obtain ⟨hx, hb, hml, hown, hts, hr, hlocks, hK, hE, hX, hbl, hl0⟩ := id G
  have hbA : ¬ (fun q : Nat => s.heap.size ≤ q) b := Nat.not_le.mpr hbl
  unfold p_law_729 at h
  refine lv_aload_n hx hb dL_law_729 rfl (lv_at hl 1 rfl) ?_
  refine lv_aload_n hx hb dL_law_730 rfl (lv_at hl 0 rfl) ?_
  refine lv_iload hx hb dL_law_731 (lv_at hl 4 rfl) ?_
  refine lv_iconst (v := 1) hx hb dL_law_733 (by decide) ?_
  refine lv_iadd hx hb dL_law_734 ?_
  obtain ⟨i50, h⟩ := h
  refine va_sld hx hb hX hbl hbA hS i50 dL_law_735 ?_
  refine lv_aload_n hx hb dL_law_736 rfl (lv_at hl 3 rfl) ?_
  obtain ⟨hu, h⟩ := h
  refine xt_SXi (wf := wL cyI cyJ cyZ a q) (S := (S, o)) (wr := wM cyI cyJ cyZ mb M) (isC := [0, 1, 2, 3, 4, 5, 6, 7, 8, 9, 10, 11, 12, 13, 14, 15, 16, 17, 18, 19, 20, 21]) (isR := [22, 23, 24, 25, 26, 27, 28, 29, 30, 31, 32, 33, 34, 35, 36, 37, 38, 39, 40, 41, 42]) (As := [.ref (a 0), .int (xs (i + (1 : Int32)).toNatClampNeg), .ref q]) (rest := []) ⟨hx, hb, hml, hown, hts⟩ (t_L_arrival hl0 h) (vx_cwSW 3 hts gL_law_L_arrival rfl rfl rfl (by decide +kernel) ⟨Nat.le_of_ble_eq_true rfl, Nat.le_of_ble_eq_true rfl⟩) ⟨hK, hE, fun _ h => h, hP, hD, hS, rfl, rfl, rfl, rfl, by decide⟩ rfl rfl hl.1 (Nat.le_of_ble_eq_true rfl) dL_law_737 ⟨hu.1, hu.2⟩ (fun E ce q9 u H locs h hP hD hS hce hcv hcl => h.elim) (fun r51 u52 H locs h hP hD hS => ?_)
  obtain ⟨S53, o54⟩ := u52
  have h := h S53 o54 rfl rfl
  have hP : va_P (dC, dI) vwCl (wW cyI cyJ cyZ a q mb S53 o54 M) H := hP.sub [21, 22, 23, 24, 25, 26, 27, 28, 29, 30, 31, 32, 33, 34, 35, 36, 37, 38, 39, 40, 41, 42, 0, 1, 2, 3, 4, 5, 6, 7, 8, 9, 10, 11, 12, 13, 14, 15, 16, 17, 18, 19, 20] rfl
  have hD : va_D (fun q : Nat => s.heap.size ≤ q) (wW cyI cyJ cyZ a q mb S53 o54 M) := hD.sub [21, 22, 23, 24, 25, 26, 27, 28, 29, 30, 31, 32, 33, 34, 35, 36, 37, 38, 39, 40, 41, 42, 0, 1, 2, 3, 4, 5, 6, 7, 8, 9, 10, 11, 12, 13, 14, 15, 16, 17, 18, 19, 20] (by decide) rfl
  refine lv_istore (lv' := [(5, .int r51), (0, .ref b), (1, .ref (a 0)), (2, .ref (mb 0)), (3, .ref q), (4, .int i)]) hx hb dL_law_740 hl (by decide) rfl (fun ls hl => ?_)
  refine lv_aload_n hx hb dL_law_742 rfl (lv_at hl 3 rfl) ?_
  refine lv_aload_n hx hb dL_law_743 rfl (lv_at hl 1 rfl) ?_
  refine lv_iload hx hb dL_law_744 (lv_at hl 5 rfl) ?_
  refine lv_iconst (v := 1) hx hb dL_law_746 (by decide) ?_
  refine lv_iadd hx hb dL_law_747 ?_
  obtain ⟨i55, h⟩ := h
  refine va_sld hx hb hX hbl hbA hS i55 dL_law_748 ?_
  refine xc_Vi (wf := wM cyI cyJ cyZ mb) (S := M) (wr := wL cyI cyJ cyZ a q (S53, o54)) (isC := [22, 23, 24, 25, 26, 27, 28, 29, 30, 31, 32, 33, 34, 35, 36, 37, 38, 39, 40, 41, 42]) (isR := [0, 1, 2, 3, 4, 5, 6, 7, 8, 9, 10, 11, 12, 13, 14, 15, 16, 17, 18, 19, 20, 21]) (As := [.int (xs (i + (1 : Int32)).toNatClampNeg)]) (rest := []) ⟨hx, hb, hml, hown, hts⟩ (t_X6_arrival h) (cwV 1 hts gL_law_X6_arrival rfl rfl rfl (by decide +kernel) ⟨Nat.le_of_ble_eq_true rfl, Nat.le_of_ble_eq_true rfl⟩) ⟨hK, hE, fun _ h => h, hP, hD, hS, rfl, rfl, rfl, rfl, by decide⟩ ⟨0, 5, _, _, rfl, rfl, rfl⟩ rfl rfl hl.1 (Nat.le_of_ble_eq_true rfl) dL_law_749 ⟨hu.1, hu.2⟩ (fun r56 M57 H locs h hP hD hS => ?_)
  have hP : va_P (dC, dI) vwCl (wW cyI cyJ cyZ a q mb S53 o54 M57) H := hP
  have hD : va_D (fun q : Nat => s.heap.size ≤ q) (wW cyI cyJ cyZ a q mb S53 o54 M57) := hD
  refine W.cs (cells' := (uc + 1)) (slots' := (us + 6)) rfl rfl ?_
  refine lv_istore (lv' := [(6, .int r56), (5, .int r51), (0, .ref b), (1, .ref (a 0)), (2, .ref (mb 0)), (3, .ref q), (4, .int i)]) hx hb dL_law_752 hl (by decide) rfl (fun ls hl => ?_)
  refine lv_aload_n hx hb dL_law_754 rfl (lv_at hl 4 rfl) ?_
  refine xc_Vi (wf := wM cyI cyJ cyZ mb) (S := M57) (wr := wL cyI cyJ cyZ a q (S53, o54)) (isC := [22, 23, 24, 25, 26, 27, 28, 29, 30, 31, 32, 33, 34, 35, 36, 37, 38, 39, 40, 41, 42]) (isR := [0, 1, 2, 3, 4, 5, 6, 7, 8, 9, 10, 11, 12, 13, 14, 15, 16, 17, 18, 19, 20, 21]) (As := []) (rest := []) ⟨hx, hb, hml, hown, hts⟩ (t_X6_thrown h) (cwV 0 hts gL_law_X6_thrown rfl rfl rfl (by decide +kernel) ⟨Nat.le_of_ble_eq_true rfl, Nat.le_of_ble_eq_true rfl⟩) ⟨hK, hE, fun _ h => h, hP, hD, hS, rfl, rfl, rfl, rfl, by decide⟩ ⟨0, 5, _, _, rfl, rfl, rfl⟩ rfl rfl hl.1 (Nat.le_of_ble_eq_true rfl) dL_law_755 ⟨hu.1, hu.2⟩ (fun r58 M59 H locs h hP hD hS => ?_)
  obtain ⟨rfl, h⟩ := h
  have hP : va_P (dC, dI) vwCl (wW cyI cyJ cyZ a q mb S53 o54 M57) H := hP
  have hD : va_D (fun q : Nat => s.heap.size ≤ q) (wW cyI cyJ cyZ a q mb S53 o54 M57) := hD
  refine W.cs (cells' := (uc + 1)) (slots' := (us + 6)) rfl rfl ?_
  refine lv_iload hx hb dL_law_758 (lv_at hl 1 rfl) ?_
  refine lv_icmp_eq (tgt := 765) hx hb dL_law_760 (by decide) (fun c60 => ?_) (fun c60 => ?_)
  · have h := h.1 c60
    refine lv_iload hx hb dL_law_765 (lv_at hl 1 rfl) ?_
    refine lv_if_ne (tgt := 782) hx hb dL_law_767 (by decide) (fun c61 => ?_) (fun c61 => ?_)
    · have h := h.1 c61
      refine lv_goto (tgt := 1151) hx hb dL_law_782 (by decide) ?_
      obtain ⟨y62, ey62⟩ : ∃ z : Int32, z = (i + (4 : Int32)) := ⟨_, rfl⟩
      have h := h y62 ey62
      refine lv_iinc (v := y62) (lv' := [(4, .int y62), (6, .int r56), (5, .int r51), (0, .ref b), (1, .ref (a 0)), (2, .ref (mb 0)), (3, .ref q)]) hx hb dL_law_1151 hl (k := 6) rfl (by rw [ey62]; rfl) (by decide) rfl (fun ls hl => ?_)
      refine lv_goto (tgt := 23) hx hb dL_law_1154 (by decide) ?_
      exact k23 _ _ _ _ _ _ H locs ls hu h hP hD hS (lv_sub hl [3, 4, 5, 6, 0] rfl)
    · have h := h.2 c61
      refine lv_aload_n hx hb dL_law_770 rfl (lv_at hl 5 rfl) ?_
      refine lv_iconst (v := 0) hx hb dL_law_771 (by decide) ?_
      refine va_lald (D := (dC, dI)) hx hb hK hP 21 1 rfl rfl (by unfold vp_in; decide) dL_law_772 ?_
      refine lv_iload hx hb dL_law_773 (lv_at hl 0 rfl) ?_
      refine lv_i2l (v := r56.toInt64) hx hb dL_law_775 rfl ?_
      refine W.lcmp hx hb dL_law_776 ?_
      refine lv_if_eq (tgt := 782) hx hb dL_law_777 (by decide) (fun c63 => ?_) (fun c63 => ?_)
      · have h := h.1 c63
        refine lv_goto (tgt := 1151) hx hb dL_law_782 (by decide) ?_
        obtain ⟨y64, ey64⟩ : ∃ z : Int32, z = (i + (4 : Int32)) := ⟨_, rfl⟩
        have h := h y64 ey64
        refine lv_iinc (v := y64) (lv' := [(4, .int y64), (6, .int r56), (5, .int r51), (0, .ref b), (1, .ref (a 0)), (2, .ref (mb 0)), (3, .ref q)]) hx hb dL_law_1151 hl (k := 6) rfl (by rw [ey64]; rfl) (by decide) rfl (fun ls hl => ?_)
        refine lv_goto (tgt := 23) hx hb dL_law_1154 (by decide) ?_
        exact k23 _ _ _ _ _ _ H locs ls hu h hP hD hS (lv_sub hl [3, 4, 5, 6, 0] rfl)
      · have h := h.2 c63
        exact h.elim
  · have h := h.2 c60
    exact h.elim
def p_law_785 (g23 : CS → (Nat → Int64) → MS → Int32 → Nat → Nat → Prop) (xs : Nat → Int32) (L : Nat) (S : CS) (o : Nat → Int64) (M : MS) (i : Int32) (uc us : Nat) : Prop := vp_in (i + (1 : Int32)) L ∧ (vp_in (i + (2 : Int32)) L ∧ ((uc + 2 ≤ 601024 ∧ us + 12 ≤ 7293034) ∧ (p_L_gate S o (xs (i + (1 : Int32)).toNatClampNeg) (xs (i + (2 : Int32)).toNatClampNeg) (fun r67 u68 => ∀ (S69 : CS) (o70 : Nat → Int64), S69 = u68.1 → o70 = u68.2 → (vp_in (i + (1 : Int32)) L ∧ (vp_in (i + (2 : Int32)) L ∧ (p_X6_gate M (xs (i + (1 : Int32)).toNatClampNeg) (xs (i + (2 : Int32)).toNatClampNeg) (fun r73 M74 => p_X6_thrown M74 (fun r75 => (r75 = r67 → ((¬ r67 = 0 → (∀ y79 : Int32, y79 = (i + (4 : Int32)) → (g23 S69 o70 M74 y79 (uc + 2) (us + 12)))) ∧ (r67 = 0 → (((lg_cmp (o70 (0 : Int32).toNatClampNeg) (r73.toInt64)) = 0 → (∀ y81 : Int32, y81 = (i + (4 : Int32)) → (g23 S69 o70 M74 y81 (uc + 2) (us + 12)))) ∧ (¬ (lg_cmp (o70 (0 : Int32).toNatClampNeg) (r73.toInt64)) = 0 → (False)))))) ∧ (¬ r75 = r67 → (False)))))))))))
set_option maxHeartbeats 2000000 in
set_option maxRecDepth 100000 in
theorem t_law_785 {p : Program} {l : Launch} {e : Env} {s : State} {m : MethodId} {below : List Frame} {meth : Method} {c : Code} {dC : Nat → ClassId} {dI : Nat → Nat → Nat} {cyI cyJ cyZ : ClassId} {r : Nat → Nat} {a mb : Nat → Nat} {q b L : Nat} {xs : Nat → Int32} {g23 : CS → (Nat → Int64) → MS → Int32 → Nat → Nat → Prop} {S : CS} {o : Nat → Int64} {M : MS} {i : Int32} {uc us : Nat} (G : xLG p l s m meth c b L xs dC dI cyI cyJ cyZ r) (k23 : ∀ (S' : CS) (o' : Nat → Int64) (M' : MS) (i' : Int32) (uc' us' : Nat) (H : Heap) (locs : List Loc) (ls : Array Slot), (uc' ≤ 601024 ∧ us' ≤ 7293034) → g23 S' o' M' i' uc' us' → va_P (dC, dI) vwCl (wW cyI cyJ cyZ a q mb S' o' M') H → va_D (fun q : Nat => s.heap.size ≤ q) (wW cyI cyJ cyZ a q mb S' o' M') → va_S (fun q : Nat => s.heap.size ≤ q) s.heap H locs → lv_has ls 8 [(0, .ref b), (1, .ref (a 0)), (2, .ref (mb 0)), (3, .ref q), (4, .int i')] → W p l e room_1 s m #[Value.ref b] below meth c H locs uc' us' (lw_Z below #[Value.ref b] s) (F0 m 23 ls [])) (h : p_law_785 g23 xs L S o M i uc us) {H : Heap} {locs : List Loc} {ls : Array Slot} (hu : uc ≤ 601024 ∧ us ≤ 7293034) (hP : va_P (dC, dI) vwCl (wW cyI cyJ cyZ a q mb S o M) H) (hD : va_D (fun q : Nat => s.heap.size ≤ q) (wW cyI cyJ cyZ a q mb S o M)) (hS : va_S (fun q : Nat => s.heap.size ≤ q) s.heap H locs) (hl : lv_has ls 8 [(0, .ref b), (1, .ref (a 0)), (2, .ref (mb 0)), (3, .ref q), (4, .int i)]) : W p l e room_1 s m #[Value.ref b] below meth c H locs uc us (lw_Z below #[Value.ref b] s) (F0 m 785 ls []) := by
  obtain ⟨hx, hb, hml, hown, hts, hr, hlocks, hK, hE, hX, hbl, hl0⟩ := id G
  have hbA : ¬ (fun q : Nat => s.heap.size ≤ q) b := Nat.not_le.mpr hbl
  unfold p_law_785 at h
  refine lv_aload_n hx hb dL_law_785 rfl (lv_at hl 1 rfl) ?_
  refine lv_aload_n hx hb dL_law_786 rfl (lv_at hl 0 rfl) ?_
  refine lv_iload hx hb dL_law_787 (lv_at hl 4 rfl) ?_
  refine lv_iconst (v := 1) hx hb dL_law_789 (by decide) ?_
  refine lv_iadd hx hb dL_law_790 ?_
  obtain ⟨i65, h⟩ := h
  refine va_sld hx hb hX hbl hbA hS i65 dL_law_791 ?_
  refine lv_aload_n hx hb dL_law_792 rfl (lv_at hl 0 rfl) ?_
  refine lv_iload hx hb dL_law_793 (lv_at hl 4 rfl) ?_
  refine lv_iconst (v := 2) hx hb dL_law_795 (by decide) ?_
  refine lv_iadd hx hb dL_law_796 ?_
  obtain ⟨i66, h⟩ := h
  refine va_sld hx hb hX hbl hbA hS i66 dL_law_797 ?_
  refine lv_aload_n hx hb dL_law_798 rfl (lv_at hl 3 rfl) ?_
  obtain ⟨hu, h⟩ := h
  refine xt_SXi (wf := wL cyI cyJ cyZ a q) (S := (S, o)) (wr := wM cyI cyJ cyZ mb M) (isC := [0, 1, 2, 3, 4, 5, 6, 7, 8, 9, 10, 11, 12, 13, 14, 15, 16, 17, 18, 19, 20, 21]) (isR := [22, 23, 24, 25, 26, 27, 28, 29, 30, 31, 32, 33, 34, 35, 36, 37, 38, 39, 40, 41, 42]) (As := [.ref (a 0), .int (xs (i + (1 : Int32)).toNatClampNeg), .int (xs (i + (2 : Int32)).toNatClampNeg), .ref q]) (rest := []) ⟨hx, hb, hml, hown, hts⟩ (t_L_gate hl0 h) (vx_cwSW 4 hts gL_law_L_gate rfl rfl rfl (by decide +kernel) ⟨Nat.le_of_ble_eq_true rfl, Nat.le_of_ble_eq_true rfl⟩) ⟨hK, hE, fun _ h => h, hP, hD, hS, rfl, rfl, rfl, rfl, by decide⟩ rfl rfl hl.1 (Nat.le_of_ble_eq_true rfl) dL_law_799 ⟨hu.1, hu.2⟩ (fun E ce q9 u H locs h hP hD hS hce hcv hcl => h.elim) (fun r67 u68 H locs h hP hD hS => ?_)
  obtain ⟨S69, o70⟩ := u68
  have h := h S69 o70 rfl rfl
  have hP : va_P (dC, dI) vwCl (wW cyI cyJ cyZ a q mb S69 o70 M) H := hP.sub [21, 22, 23, 24, 25, 26, 27, 28, 29, 30, 31, 32, 33, 34, 35, 36, 37, 38, 39, 40, 41, 42, 0, 1, 2, 3, 4, 5, 6, 7, 8, 9, 10, 11, 12, 13, 14, 15, 16, 17, 18, 19, 20] rfl
  have hD : va_D (fun q : Nat => s.heap.size ≤ q) (wW cyI cyJ cyZ a q mb S69 o70 M) := hD.sub [21, 22, 23, 24, 25, 26, 27, 28, 29, 30, 31, 32, 33, 34, 35, 36, 37, 38, 39, 40, 41, 42, 0, 1, 2, 3, 4, 5, 6, 7, 8, 9, 10, 11, 12, 13, 14, 15, 16, 17, 18, 19, 20] (by decide) rfl
  refine lv_istore (lv' := [(5, .int r67), (0, .ref b), (1, .ref (a 0)), (2, .ref (mb 0)), (3, .ref q), (4, .int i)]) hx hb dL_law_802 hl (by decide) rfl (fun ls hl => ?_)
  refine lv_aload_n hx hb dL_law_804 rfl (lv_at hl 3 rfl) ?_
  refine lv_aload_n hx hb dL_law_805 rfl (lv_at hl 1 rfl) ?_
  refine lv_iload hx hb dL_law_806 (lv_at hl 5 rfl) ?_
  refine lv_iconst (v := 1) hx hb dL_law_808 (by decide) ?_
  refine lv_iadd hx hb dL_law_809 ?_
  obtain ⟨i71, h⟩ := h
  refine va_sld hx hb hX hbl hbA hS i71 dL_law_810 ?_
  refine lv_aload_n hx hb dL_law_811 rfl (lv_at hl 1 rfl) ?_
  refine lv_iload hx hb dL_law_812 (lv_at hl 5 rfl) ?_
  refine lv_iconst (v := 2) hx hb dL_law_814 (by decide) ?_
  refine lv_iadd hx hb dL_law_815 ?_
  obtain ⟨i72, h⟩ := h
  refine va_sld hx hb hX hbl hbA hS i72 dL_law_816 ?_
  refine xc_Vi (wf := wM cyI cyJ cyZ mb) (S := M) (wr := wL cyI cyJ cyZ a q (S69, o70)) (isC := [22, 23, 24, 25, 26, 27, 28, 29, 30, 31, 32, 33, 34, 35, 36, 37, 38, 39, 40, 41, 42]) (isR := [0, 1, 2, 3, 4, 5, 6, 7, 8, 9, 10, 11, 12, 13, 14, 15, 16, 17, 18, 19, 20, 21]) (As := [.int (xs (i + (1 : Int32)).toNatClampNeg), .int (xs (i + (2 : Int32)).toNatClampNeg)]) (rest := []) ⟨hx, hb, hml, hown, hts⟩ (t_X6_gate h) (cwV 2 hts gL_law_X6_gate rfl rfl rfl (by decide +kernel) ⟨Nat.le_of_ble_eq_true rfl, Nat.le_of_ble_eq_true rfl⟩) ⟨hK, hE, fun _ h => h, hP, hD, hS, rfl, rfl, rfl, rfl, by decide⟩ ⟨0, 5, _, _, rfl, rfl, rfl⟩ rfl rfl hl.1 (Nat.le_of_ble_eq_true rfl) dL_law_817 ⟨hu.1, hu.2⟩ (fun r73 M74 H locs h hP hD hS => ?_)
  have hP : va_P (dC, dI) vwCl (wW cyI cyJ cyZ a q mb S69 o70 M74) H := hP
  have hD : va_D (fun q : Nat => s.heap.size ≤ q) (wW cyI cyJ cyZ a q mb S69 o70 M74) := hD
  refine W.cs (cells' := (uc + 2)) (slots' := (us + 12)) rfl rfl ?_
  refine lv_istore (lv' := [(6, .int r73), (5, .int r67), (0, .ref b), (1, .ref (a 0)), (2, .ref (mb 0)), (3, .ref q), (4, .int i)]) hx hb dL_law_820 hl (by decide) rfl (fun ls hl => ?_)
  refine lv_aload_n hx hb dL_law_822 rfl (lv_at hl 4 rfl) ?_
  refine xc_Vi (wf := wM cyI cyJ cyZ mb) (S := M74) (wr := wL cyI cyJ cyZ a q (S69, o70)) (isC := [22, 23, 24, 25, 26, 27, 28, 29, 30, 31, 32, 33, 34, 35, 36, 37, 38, 39, 40, 41, 42]) (isR := [0, 1, 2, 3, 4, 5, 6, 7, 8, 9, 10, 11, 12, 13, 14, 15, 16, 17, 18, 19, 20, 21]) (As := []) (rest := []) ⟨hx, hb, hml, hown, hts⟩ (t_X6_thrown h) (cwV 0 hts gL_law_X6_thrown rfl rfl rfl (by decide +kernel) ⟨Nat.le_of_ble_eq_true rfl, Nat.le_of_ble_eq_true rfl⟩) ⟨hK, hE, fun _ h => h, hP, hD, hS, rfl, rfl, rfl, rfl, by decide⟩ ⟨0, 5, _, _, rfl, rfl, rfl⟩ rfl rfl hl.1 (Nat.le_of_ble_eq_true rfl) dL_law_823 ⟨hu.1, hu.2⟩ (fun r75 M76 H locs h hP hD hS => ?_)
  obtain ⟨rfl, h⟩ := h
  have hP : va_P (dC, dI) vwCl (wW cyI cyJ cyZ a q mb S69 o70 M74) H := hP
  have hD : va_D (fun q : Nat => s.heap.size ≤ q) (wW cyI cyJ cyZ a q mb S69 o70 M74) := hD
  refine W.cs (cells' := (uc + 2)) (slots' := (us + 12)) rfl rfl ?_
  refine lv_iload hx hb dL_law_826 (lv_at hl 1 rfl) ?_
  refine lv_icmp_eq (tgt := 833) hx hb dL_law_828 (by decide) (fun c77 => ?_) (fun c77 => ?_)
  · have h := h.1 c77
    refine lv_iload hx hb dL_law_833 (lv_at hl 1 rfl) ?_
    refine lv_if_ne (tgt := 850) hx hb dL_law_835 (by decide) (fun c78 => ?_) (fun c78 => ?_)
    · have h := h.1 c78
      refine lv_goto (tgt := 1151) hx hb dL_law_850 (by decide) ?_
      obtain ⟨y79, ey79⟩ : ∃ z : Int32, z = (i + (4 : Int32)) := ⟨_, rfl⟩
      have h := h y79 ey79
      refine lv_iinc (v := y79) (lv' := [(4, .int y79), (6, .int r73), (5, .int r67), (0, .ref b), (1, .ref (a 0)), (2, .ref (mb 0)), (3, .ref q)]) hx hb dL_law_1151 hl (k := 6) rfl (by rw [ey79]; rfl) (by decide) rfl (fun ls hl => ?_)
      refine lv_goto (tgt := 23) hx hb dL_law_1154 (by decide) ?_
      exact k23 _ _ _ _ _ _ H locs ls hu h hP hD hS (lv_sub hl [3, 4, 5, 6, 0] rfl)
    · have h := h.2 c78
      refine lv_aload_n hx hb dL_law_838 rfl (lv_at hl 5 rfl) ?_
      refine lv_iconst (v := 0) hx hb dL_law_839 (by decide) ?_
      refine va_lald (D := (dC, dI)) hx hb hK hP 21 1 rfl rfl (by unfold vp_in; decide) dL_law_840 ?_
      refine lv_iload hx hb dL_law_841 (lv_at hl 0 rfl) ?_
      refine lv_i2l (v := r73.toInt64) hx hb dL_law_843 rfl ?_
      refine W.lcmp hx hb dL_law_844 ?_
      refine lv_if_eq (tgt := 850) hx hb dL_law_845 (by decide) (fun c80 => ?_) (fun c80 => ?_)
      · have h := h.1 c80
        refine lv_goto (tgt := 1151) hx hb dL_law_850 (by decide) ?_
        obtain ⟨y81, ey81⟩ : ∃ z : Int32, z = (i + (4 : Int32)) := ⟨_, rfl⟩
        have h := h y81 ey81
        refine lv_iinc (v := y81) (lv' := [(4, .int y81), (6, .int r73), (5, .int r67), (0, .ref b), (1, .ref (a 0)), (2, .ref (mb 0)), (3, .ref q)]) hx hb dL_law_1151 hl (k := 6) rfl (by rw [ey81]; rfl) (by decide) rfl (fun ls hl => ?_)
        refine lv_goto (tgt := 23) hx hb dL_law_1154 (by decide) ?_
        exact k23 _ _ _ _ _ _ H locs ls hu h hP hD hS (lv_sub hl [3, 4, 5, 6, 0] rfl)
      · have h := h.2 c80
        exact h.elim
  · have h := h.2 c77
    exact h.elim
def p_law_853 (g23 : CS → (Nat → Int64) → MS → Int32 → Nat → Nat → Prop) (xs : Nat → Int32) (L : Nat) (S : CS) (o : Nat → Int64) (M : MS) (i : Int32) (uc us : Nat) : Prop := p_X5_run S (fun r82 S83 => p_X6_run M (fun r84 M85 => (r82 = r84 → (∀ y87 : Int32, y87 = (i + (4 : Int32)) → (g23 S83 o M85 y87 uc us))) ∧ (¬ r82 = r84 → (False))))
set_option maxHeartbeats 2000000 in
set_option maxRecDepth 100000 in
theorem t_law_853 {p : Program} {l : Launch} {e : Env} {s : State} {m : MethodId} {below : List Frame} {meth : Method} {c : Code} {dC : Nat → ClassId} {dI : Nat → Nat → Nat} {cyI cyJ cyZ : ClassId} {r : Nat → Nat} {a mb : Nat → Nat} {q b L : Nat} {xs : Nat → Int32} {g23 : CS → (Nat → Int64) → MS → Int32 → Nat → Nat → Prop} {S : CS} {o : Nat → Int64} {M : MS} {i : Int32} {uc us : Nat} (G : xLG p l s m meth c b L xs dC dI cyI cyJ cyZ r) (k23 : ∀ (S' : CS) (o' : Nat → Int64) (M' : MS) (i' : Int32) (uc' us' : Nat) (H : Heap) (locs : List Loc) (ls : Array Slot), (uc' ≤ 601024 ∧ us' ≤ 7293034) → g23 S' o' M' i' uc' us' → va_P (dC, dI) vwCl (wW cyI cyJ cyZ a q mb S' o' M') H → va_D (fun q : Nat => s.heap.size ≤ q) (wW cyI cyJ cyZ a q mb S' o' M') → va_S (fun q : Nat => s.heap.size ≤ q) s.heap H locs → lv_has ls 8 [(0, .ref b), (1, .ref (a 0)), (2, .ref (mb 0)), (3, .ref q), (4, .int i')] → W p l e room_1 s m #[Value.ref b] below meth c H locs uc' us' (lw_Z below #[Value.ref b] s) (F0 m 23 ls [])) (h : p_law_853 g23 xs L S o M i uc us) {H : Heap} {locs : List Loc} {ls : Array Slot} (hu : uc ≤ 601024 ∧ us ≤ 7293034) (hP : va_P (dC, dI) vwCl (wW cyI cyJ cyZ a q mb S o M) H) (hD : va_D (fun q : Nat => s.heap.size ≤ q) (wW cyI cyJ cyZ a q mb S o M)) (hS : va_S (fun q : Nat => s.heap.size ≤ q) s.heap H locs) (hl : lv_has ls 8 [(0, .ref b), (1, .ref (a 0)), (2, .ref (mb 0)), (3, .ref q), (4, .int i)]) : W p l e room_1 s m #[Value.ref b] below meth c H locs uc us (lw_Z below #[Value.ref b] s) (F0 m 853 ls []) := by
  obtain ⟨hx, hb, hml, hown, hts, hr, hlocks, hK, hE, hX, hbl, hl0⟩ := id G
  have hbA : ¬ (fun q : Nat => s.heap.size ≤ q) b := Nat.not_le.mpr hbl
  unfold p_law_853 at h
  refine lv_aload_n hx hb dL_law_853 rfl (lv_at hl 1 rfl) ?_
  refine xc_Vi (wf := wC cyI cyJ cyZ a) (S := S) (wr := ([(q, .inl (cyJ, 1, .inr (.inl o)))] ++ wM cyI cyJ cyZ mb M)) (isC := [0, 1, 2, 3, 4, 5, 6, 7, 8, 9, 10, 11, 12, 13, 14, 15, 16, 17, 18, 19, 20]) (isR := [21, 22, 23, 24, 25, 26, 27, 28, 29, 30, 31, 32, 33, 34, 35, 36, 37, 38, 39, 40, 41, 42]) (As := []) (rest := []) ⟨hx, hb, hml, hown, hts⟩ (t_X5_run h) (cwV 0 hts gL_law_X5_run rfl rfl rfl (by decide +kernel) ⟨Nat.le_of_ble_eq_true rfl, Nat.le_of_ble_eq_true rfl⟩) ⟨hK, hE, fun _ h => h, hP, hD, hS, rfl, rfl, rfl, rfl, by decide⟩ ⟨0, 4, _, _, rfl, rfl, rfl⟩ rfl rfl hl.1 (Nat.le_of_ble_eq_true rfl) dL_law_854 ⟨hu.1, hu.2⟩ (fun r82 S83 H locs h hP hD hS => ?_)
  have hP : va_P (dC, dI) vwCl (wW cyI cyJ cyZ a q mb S83 o M) H := hP.sub [22, 23, 24, 25, 26, 27, 28, 29, 30, 31, 32, 33, 34, 35, 36, 37, 38, 39, 40, 41, 42, 0, 1, 2, 3, 4, 5, 6, 7, 8, 9, 10, 11, 12, 13, 14, 15, 16, 17, 18, 19, 20, 21] rfl
  have hD : va_D (fun q : Nat => s.heap.size ≤ q) (wW cyI cyJ cyZ a q mb S83 o M) := hD.sub [22, 23, 24, 25, 26, 27, 28, 29, 30, 31, 32, 33, 34, 35, 36, 37, 38, 39, 40, 41, 42, 0, 1, 2, 3, 4, 5, 6, 7, 8, 9, 10, 11, 12, 13, 14, 15, 16, 17, 18, 19, 20, 21] (by decide) rfl
  refine W.cs (cells' := uc) (slots' := us) rfl rfl ?_
  refine lv_aload_n hx hb dL_law_857 rfl (lv_at hl 2 rfl) ?_
  refine xc_Vi (wf := wM cyI cyJ cyZ mb) (S := M) (wr := wL cyI cyJ cyZ a q (S83, o)) (isC := [22, 23, 24, 25, 26, 27, 28, 29, 30, 31, 32, 33, 34, 35, 36, 37, 38, 39, 40, 41, 42]) (isR := [0, 1, 2, 3, 4, 5, 6, 7, 8, 9, 10, 11, 12, 13, 14, 15, 16, 17, 18, 19, 20, 21]) (As := []) (rest := [.int r82]) ⟨hx, hb, hml, hown, hts⟩ (t_X6_run h) (cwV 0 hts gL_law_X6_run rfl rfl rfl (by decide +kernel) ⟨Nat.le_of_ble_eq_true rfl, Nat.le_of_ble_eq_true rfl⟩) ⟨hK, hE, fun _ h => h, hP, hD, hS, rfl, rfl, rfl, rfl, by decide⟩ ⟨0, 5, _, _, rfl, rfl, rfl⟩ rfl rfl hl.1 (Nat.le_of_ble_eq_true rfl) dL_law_858 ⟨hu.1, hu.2⟩ (fun r84 M85 H locs h hP hD hS => ?_)
  have hP : va_P (dC, dI) vwCl (wW cyI cyJ cyZ a q mb S83 o M85) H := hP
  have hD : va_D (fun q : Nat => s.heap.size ≤ q) (wW cyI cyJ cyZ a q mb S83 o M85) := hD
  refine W.cs (cells' := uc) (slots' := us) rfl rfl ?_
  refine lv_icmp_eq (tgt := 1151) hx hb dL_law_861 (by decide) (fun c86 => ?_) (fun c86 => ?_)
  · have h := h.1 c86
    obtain ⟨y87, ey87⟩ : ∃ z : Int32, z = (i + (4 : Int32)) := ⟨_, rfl⟩
    have h := h y87 ey87
    refine lv_iinc (v := y87) (lv' := [(4, .int y87), (0, .ref b), (1, .ref (a 0)), (2, .ref (mb 0)), (3, .ref q)]) hx hb dL_law_1151 hl (k := 4) rfl (by rw [ey87]; rfl) (by decide) rfl (fun ls hl => ?_)
    refine lv_goto (tgt := 23) hx hb dL_law_1154 (by decide) ?_
    exact k23 _ _ _ _ _ _ H locs ls hu h hP hD hS (lv_sub hl [1, 2, 3, 4, 0] rfl)
  · have h := h.2 c86
    exact h.elim
