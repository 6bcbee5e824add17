def p_law_128 (g23 : CS → (Nat → Int64) → MS → Int32 → Nat → Nat → Prop) (xs : Nat → Int32) (L : Nat) (S : CS) (o : Nat → Int64) (M : MS) (i : Int32) (uc us : Nat) : Prop := ∃ c1 k2 : Nat, (uc + c1 ≤ 601024 ∧ us + k2 ≤ 7293034) ∧ (p_L_input S o  c1 k2 (fun r3 u4 => ∀ (S5 : CS) (o6 : Nat → Int64), S5 = u4.1 → o6 = u4.2 → (p_X6_input M (fun r7 M8 => p_X6_thrown M8 (fun r9 => (r9 = r3 → ((¬ r3 = 0 → (∀ y13 : Int32, y13 = (i + (4 : Int32)) → (g23 S5 o6 M8 y13 (uc + c1) (us + k2)))) ∧ (r3 = 0 → (((lg_cmp (o6 (0 : Int32).toNatClampNeg) (r7.toInt64)) = 0 → (∀ y15 : Int32, y15 = (i + (4 : Int32)) → (g23 S5 o6 M8 y15 (uc + c1) (us + k2)))) ∧ (¬ (lg_cmp (o6 (0 : Int32).toNatClampNeg) (r7.toInt64)) = 0 → (False)))))) ∧ (¬ r9 = r3 → (False)))))))
set_option maxHeartbeats 2000000 in
set_option maxRecDepth 100000 in
theorem t_law_128 {p : Program} {l : Launch} {e : Env} {s : State} {m : MethodId} {below : List Frame} {meth : Method} {c : Code} {dC : Nat → ClassId} {dI : Nat → Nat → Nat} {cyI cyJ cyZ : ClassId} {r : Nat → Nat} {a mb : Nat → Nat} {q b L : Nat} {xs : Nat → Int32} {g23 : CS → (Nat → Int64) → MS → Int32 → Nat → Nat → Prop} {S : CS} {o : Nat → Int64} {M : MS} {i : Int32} {uc us : Nat} (G : xLG p l s m meth c b L xs dC dI cyI cyJ cyZ r) (k23 : ∀ (S' : CS) (o' : Nat → Int64) (M' : MS) (i' : Int32) (uc' us' : Nat) (H : Heap) (locs : List Loc) (ls : Array Slot), (uc' ≤ 601024 ∧ us' ≤ 7293034) → g23 S' o' M' i' uc' us' → va_P (dC, dI) vwCl (wW cyI cyJ cyZ a q mb S' o' M') H → va_D (fun q : Nat => s.heap.size ≤ q) (wW cyI cyJ cyZ a q mb S' o' M') → va_S (fun q : Nat => s.heap.size ≤ q) s.heap H locs → lv_has ls 8 [(0, .ref b), (1, .ref (a 0)), (2, .ref (mb 0)), (3, .ref q), (4, .int i')] → W p l e room_1 s m #[Value.ref b] below meth c H locs uc' us' (lw_Z below #[Value.ref b] s) (F0 m 23 ls [])) (h : p_law_128 g23 xs L S o M i uc us) {H : Heap} {locs : List Loc} {ls : Array Slot} (hu : uc ≤ 601024 ∧ us ≤ 7293034) (hP : va_P (dC, dI) vwCl (wW cyI cyJ cyZ a q mb S o M) H) (hD : va_D (fun q : Nat => s.heap.size ≤ q) (wW cyI cyJ cyZ a q mb S o M)) (hS : va_S (fun q : Nat => s.heap.size ≤ q) s.heap H locs) (hl : lv_has ls 8 [(0, .ref b), (1, .ref (a 0)), (2, .ref (mb 0)), (3, .ref q), (4, .int i)]) : W p l e room_1 s m #[Value.ref b] below meth c H locs uc us (lw_Z below #[Value.ref b] s) (F0 m 128 ls []) := by
  obtain ⟨hx, hb, hml, hown, hts, hr, hlocks, hK, hE, hX, hbl, hl0⟩ := id G
  have hbA : ¬ (fun q : Nat => s.heap.size ≤ q) b := Nat.not_le.mpr hbl
  unfold p_law_128 at h
  refine lv_aload_n hx hb dL_law_128 rfl (lv_at hl 1 rfl) ?_
  refine lv_aload_n hx hb dL_law_129 rfl (lv_at hl 3 rfl) ?_
  obtain ⟨c1, k2, hu, h⟩ := h
  refine xt_SXi (wf := wL cyI cyJ cyZ a q) (S := (S, o)) (wr := wM cyI cyJ cyZ mb M) (isC := [0, 1, 2, 3, 4, 5, 6, 7, 8, 9, 10, 11, 12, 13, 14, 15, 16, 17, 18, 19, 20, 21]) (isR := [22, 23, 24, 25, 26, 27, 28, 29, 30, 31, 32, 33, 34, 35, 36, 37, 38, 39, 40, 41, 42]) (As := [.ref (a 0), .ref q]) (rest := []) ⟨hx, hb, hml, hown, hts⟩ (t_L_input hl0 h) (vx_cwSW 2 hts gL_law_L_input rfl rfl rfl (by decide +kernel) ⟨Nat.le_of_ble_eq_true rfl, Nat.le_of_ble_eq_true rfl⟩) ⟨hK, hE, fun _ h => h, hP, hD, hS, rfl, rfl, rfl, rfl, by decide⟩ rfl rfl hl.1 (Nat.le_of_ble_eq_true rfl) dL_law_130 ⟨hu.1, hu.2⟩ (fun E ce q9 u H locs h hP hD hS hce hcv hcl => h.elim) (fun r3 u4 H locs h hP hD hS => ?_)
  obtain ⟨S5, o6⟩ := u4
  have h := h S5 o6 rfl rfl
  have hP : va_P (dC, dI) vwCl (wW cyI cyJ cyZ a q mb S5 o6 M) H := hP.sub [21, 22, 23, 24, 25, 26, 27, 28, 29, 30, 31, 32, 33, 34, 35, 36, 37, 38, 39, 40, 41, 42, 0, 1, 2, 3, 4, 5, 6, 7, 8, 9, 10, 11, 12, 13, 14, 15, 16, 17, 18, 19, 20] rfl
  have hD : va_D (fun q : Nat => s.heap.size ≤ q) (wW cyI cyJ cyZ a q mb S5 o6 M) := hD.sub [21, 22, 23, 24, 25, 26, 27, 28, 29, 30, 31, 32, 33, 34, 35, 36, 37, 38, 39, 40, 41, 42, 0, 1, 2, 3, 4, 5, 6, 7, 8, 9, 10, 11, 12, 13, 14, 15, 16, 17, 18, 19, 20] (by decide) rfl
  refine lv_istore (lv' := [(5, .int r3), (0, .ref b), (1, .ref (a 0)), (2, .ref (mb 0)), (3, .ref q), (4, .int i)]) hx hb dL_law_133 hl (by decide) rfl (fun ls hl => ?_)
  refine lv_aload_n hx hb dL_law_135 rfl (lv_at hl 3 rfl) ?_
  refine xc_Vi (wf := wM cyI cyJ cyZ mb) (S := M) (wr := wL cyI cyJ cyZ a q (S5, o6)) (isC := [22, 23, 24, 25, 26, 27, 28, 29, 30, 31, 32, 33, 34, 35, 36, 37, 38, 39, 40, 41, 42]) (isR := [0, 1, 2, 3, 4, 5, 6, 7, 8, 9, 10, 11, 12, 13, 14, 15, 16, 17, 18, 19, 20, 21]) (As := []) (rest := []) ⟨hx, hb, hml, hown, hts⟩ (t_X6_input h) (cwV 0 hts gL_law_X6_input rfl rfl rfl (by decide +kernel) ⟨Nat.le_of_ble_eq_true rfl, Nat.le_of_ble_eq_true rfl⟩) ⟨hK, hE, fun _ h => h, hP, hD, hS, rfl, rfl, rfl, rfl, by decide⟩ ⟨0, 5, _, _, rfl, rfl, rfl⟩ rfl rfl hl.1 (Nat.le_of_ble_eq_true rfl) dL_law_136 ⟨hu.1, hu.2⟩ (fun r7 M8 H locs h hP hD hS => ?_)
  have hP : va_P (dC, dI) vwCl (wW cyI cyJ cyZ a q mb S5 o6 M8) H := hP
  have hD : va_D (fun q : Nat => s.heap.size ≤ q) (wW cyI cyJ cyZ a q mb S5 o6 M8) := hD
  refine W.cs (cells' := (uc + c1)) (slots' := (us + k2)) rfl rfl ?_
  refine lv_istore (lv' := [(6, .int r7), (5, .int r3), (0, .ref b), (1, .ref (a 0)), (2, .ref (mb 0)), (3, .ref q), (4, .int i)]) hx hb dL_law_139 hl (by decide) rfl (fun ls hl => ?_)
  refine lv_aload_n hx hb dL_law_141 rfl (lv_at hl 4 rfl) ?_
  refine xc_Vi (wf := wM cyI cyJ cyZ mb) (S := M8) (wr := wL cyI cyJ cyZ a q (S5, o6)) (isC := [22, 23, 24, 25, 26, 27, 28, 29, 30, 31, 32, 33, 34, 35, 36, 37, 38, 39, 40, 41, 42]) (isR := [0, 1, 2, 3, 4, 5, 6, 7, 8, 9, 10, 11, 12, 13, 14, 15, 16, 17, 18, 19, 20, 21]) (As := []) (rest := []) ⟨hx, hb, hml, hown, hts⟩ (t_X6_thrown h) (cwV 0 hts gL_law_X6_thrown rfl rfl rfl (by decide +kernel) ⟨Nat.le_of_ble_eq_true rfl, Nat.le_of_ble_eq_true rfl⟩) ⟨hK, hE, fun _ h => h, hP, hD, hS, rfl, rfl, rfl, rfl, by decide⟩ ⟨0, 5, _, _, rfl, rfl, rfl⟩ rfl rfl hl.1 (Nat.le_of_ble_eq_true rfl) dL_law_142 ⟨hu.1, hu.2⟩ (fun r9 M10 H locs h hP hD hS => ?_)
  obtain ⟨rfl, h⟩ := h
  have hP : va_P (dC, dI) vwCl (wW cyI cyJ cyZ a q mb S5 o6 M8) H := hP
  have hD : va_D (fun q : Nat => s.heap.size ≤ q) (wW cyI cyJ cyZ a q mb S5 o6 M8) := hD
  refine W.cs (cells' := (uc + c1)) (slots' := (us + k2)) rfl rfl ?_
  refine lv_iload hx hb dL_law_145 (lv_at hl 1 rfl) ?_
  refine lv_icmp_eq (tgt := 152) hx hb dL_law_147 (by decide) (fun c11 => ?_) (fun c11 => ?_)
  · have h := h.1 c11
    refine lv_iload hx hb dL_law_152 (lv_at hl 1 rfl) ?_
    refine lv_if_ne (tgt := 169) hx hb dL_law_154 (by decide) (fun c12 => ?_) (fun c12 => ?_)
    · have h := h.1 c12
      refine lv_goto (tgt := 1151) hx hb dL_law_169 (by decide) ?_
      obtain ⟨y13, ey13⟩ : ∃ z : Int32, z = (i + (4 : Int32)) := ⟨_, rfl⟩
      have h := h y13 ey13
      refine lv_iinc (v := y13) (lv' := [(4, .int y13), (6, .int r7), (5, .int r3), (0, .ref b), (1, .ref (a 0)), (2, .ref (mb 0)), (3, .ref q)]) hx hb dL_law_1151 hl (k := 6) rfl (by rw [ey13]; rfl) (by decide) rfl (fun ls hl => ?_)
      refine lv_goto (tgt := 23) hx hb dL_law_1154 (by decide) ?_
      exact k23 _ _ _ _ _ _ H locs ls hu h hP hD hS (lv_sub hl [3, 4, 5, 6, 0] rfl)
    · have h := h.2 c12
      refine lv_aload_n hx hb dL_law_157 rfl (lv_at hl 5 rfl) ?_
      refine lv_iconst (v := 0) hx hb dL_law_158 (by decide) ?_
      refine va_lald (D := (dC, dI)) hx hb hK hP 21 1 rfl rfl (by unfold vp_in; decide) dL_law_159 ?_
      refine lv_iload hx hb dL_law_160 (lv_at hl 0 rfl) ?_
      refine lv_i2l (v := r7.toInt64) hx hb dL_law_162 rfl ?_
      refine W.lcmp hx hb dL_law_163 ?_
      refine lv_if_eq (tgt := 169) hx hb dL_law_164 (by decide) (fun c14 => ?_) (fun c14 => ?_)
      · have h := h.1 c14
        refine lv_goto (tgt := 1151) hx hb dL_law_169 (by decide) ?_
        obtain ⟨y15, ey15⟩ : ∃ z : Int32, z = (i + (4 : Int32)) := ⟨_, rfl⟩
        have h := h y15 ey15
        refine lv_iinc (v := y15) (lv' := [(4, .int y15), (6, .int r7), (5, .int r3), (0, .ref b), (1, .ref (a 0)), (2, .ref (mb 0)), (3, .ref q)]) hx hb dL_law_1151 hl (k := 6) rfl (by rw [ey15]; rfl) (by decide) rfl (fun ls hl => ?_)
        refine lv_goto (tgt := 23) hx hb dL_law_1154 (by decide) ?_
        exact k23 _ _ _ _ _ _ H locs ls hu h hP hD hS (lv_sub hl [3, 4, 5, 6, 0] rfl)
      · have h := h.2 c14
        exact h.elim
  · have h := h.2 c11
    exact h.elim
def p_law_172 (g23 : CS → (Nat → Int64) → MS → Int32 → Nat → Nat → Prop) (xs : Nat → Int32) (L : Nat) (S : CS) (o : Nat → Int64) (M : MS) (i : Int32) (uc us : Nat) : Prop := vp_in (i + (1 : Int32)) L ∧ (vp_in (i + (2 : Int32)) L ∧ (∃ c18 k19 : Nat, (uc + c18 ≤ 601024 ∧ us + k19 ≤ 7293034) ∧ (p_L_and S o (xs (i + (1 : Int32)).toNatClampNeg) (xs (i + (2 : Int32)).toNatClampNeg) c18 k19 (fun r20 u21 => ∀ (S22 : CS) (o23 : Nat → Int64), S22 = u21.1 → o23 = u21.2 → (vp_in (i + (1 : Int32)) L ∧ (vp_in (i + (2 : Int32)) L ∧ (p_X6_and M (xs (i + (1 : Int32)).toNatClampNeg) (xs (i + (2 : Int32)).toNatClampNeg) (fun r26 M27 => p_X6_thrown M27 (fun r28 => (r28 = r20 → ((¬ r20 = 0 → (∀ y32 : Int32, y32 = (i + (4 : Int32)) → (g23 S22 o23 M27 y32 (uc + c18) (us + k19)))) ∧ (r20 = 0 → (((lg_cmp (o23 (0 : Int32).toNatClampNeg) (r26.toInt64)) = 0 → (∀ y34 : Int32, y34 = (i + (4 : Int32)) → (g23 S22 o23 M27 y34 (uc + c18) (us + k19)))) ∧ (¬ (lg_cmp (o23 (0 : Int32).toNatClampNeg) (r26.toInt64)) = 0 → (False)))))) ∧ (¬ r28 = r20 → (False)))))))))))
set_option maxHeartbeats 2000000 in
set_option maxRecDepth 100000 in
theorem t_law_172 {p : Program} {l : Launch} {e : Env} {s : State} {m : MethodId} {below : List Frame} {meth : Method} {c : Code} {dC : Nat → ClassId} {dI : Nat → Nat → Nat} {cyI cyJ cyZ : ClassId} {r : Nat → Nat} {a mb : Nat → Nat} {q b L : Nat} {xs : Nat → Int32} {g23 : CS → (Nat → Int64) → MS → Int32 → Nat → Nat → Prop} {S : CS} {o : Nat → Int64} {M : MS} {i : Int32} {uc us : Nat} (G : xLG p l s m meth c b L xs dC dI cyI cyJ cyZ r) (k23 : ∀ (S' : CS) (o' : Nat → Int64) (M' : MS) (i' : Int32) (uc' us' : Nat) (H : Heap) (locs : List Loc) (ls : Array Slot), (uc' ≤ 601024 ∧ us' ≤ 7293034) → g23 S' o' M' i' uc' us' → va_P (dC, dI) vwCl (wW cyI cyJ cyZ a q mb S' o' M') H → va_D (fun q : Nat => s.heap.size ≤ q) (wW cyI cyJ cyZ a q mb S' o' M') → va_S (fun q : Nat => s.heap.size ≤ q) s.heap H locs → lv_has ls 8 [(0, .ref b), (1, .ref (a 0)), (2, .ref (mb 0)), (3, .ref q), (4, .int i')] → W p l e room_1 s m #[Value.ref b] below meth c H locs uc' us' (lw_Z below #[Value.ref b] s) (F0 m 23 ls [])) (h : p_law_172 g23 xs L S o M i uc us) {H : Heap} {locs : List Loc} {ls : Array Slot} (hu : uc ≤ 601024 ∧ us ≤ 7293034) (hP : va_P (dC, dI) vwCl (wW cyI cyJ cyZ a q mb S o M) H) (hD : va_D (fun q : Nat => s.heap.size ≤ q) (wW cyI cyJ cyZ a q mb S o M)) (hS : va_S (fun q : Nat => s.heap.size ≤ q) s.heap H locs) (hl : lv_has ls 8 [(0, .ref b), (1, .ref (a 0)), (2, .ref (mb 0)), (3, .ref q), (4, .int i)]) : W p l e room_1 s m #[Value.ref b] below meth c H locs uc us (lw_Z below #[Value.ref b] s) (F0 m 172 ls []) := by
  obtain ⟨hx, hb, hml, hown, hts, hr, hlocks, hK, hE, hX, hbl, hl0⟩ := id G
  have hbA : ¬ (fun q : Nat => s.heap.size ≤ q) b := Nat.not_le.mpr hbl
  unfold p_law_172 at h
  refine lv_aload_n hx hb dL_law_172 rfl (lv_at hl 1 rfl) ?_
  refine lv_aload_n hx hb dL_law_173 rfl (lv_at hl 0 rfl) ?_
  refine lv_iload hx hb dL_law_174 (lv_at hl 4 rfl) ?_
  refine lv_iconst (v := 1) hx hb dL_law_176 (by decide) ?_
  refine lv_iadd hx hb dL_law_177 ?_
  obtain ⟨i16, h⟩ := h
  refine va_sld hx hb hX hbl hbA hS i16 dL_law_178 ?_
  refine lv_aload_n hx hb dL_law_179 rfl (lv_at hl 0 rfl) ?_
  refine lv_iload hx hb dL_law_180 (lv_at hl 4 rfl) ?_
  refine lv_iconst (v := 2) hx hb dL_law_182 (by decide) ?_
  refine lv_iadd hx hb dL_law_183 ?_
  obtain ⟨i17, h⟩ := h
  refine va_sld hx hb hX hbl hbA hS i17 dL_law_184 ?_
  refine lv_aload_n hx hb dL_law_185 rfl (lv_at hl 3 rfl) ?_
  obtain ⟨c18, k19, hu, h⟩ := h
  refine xt_SXi (wf := wL cyI cyJ cyZ a q) (S := (S, o)) (wr := wM cyI cyJ cyZ mb M) (isC := [0, 1, 2, 3, 4, 5, 6, 7, 8, 9, 10, 11, 12, 13, 14, 15, 16, 17, 18, 19, 20, 21]) (isR := [22, 23, 24, 25, 26, 27, 28, 29, 30, 31, 32, 33, 34, 35, 36, 37, 38, 39, 40, 41, 42]) (As := [.ref (a 0), .int (xs (i + (1 : Int32)).toNatClampNeg), .int (xs (i + (2 : Int32)).toNatClampNeg), .ref q]) (rest := []) ⟨hx, hb, hml, hown, hts⟩ (t_L_and hl0 h) (vx_cwSW 4 hts gL_law_L_and rfl rfl rfl (by decide +kernel) ⟨Nat.le_of_ble_eq_true rfl, Nat.le_of_ble_eq_true rfl⟩) ⟨hK, hE, fun _ h => h, hP, hD, hS, rfl, rfl, rfl, rfl, by decide⟩ rfl rfl hl.1 (Nat.le_of_ble_eq_true rfl) dL_law_186 ⟨hu.1, hu.2⟩ (fun E ce q9 u H locs h hP hD hS hce hcv hcl => h.elim) (fun r20 u21 H locs h hP hD hS => ?_)
  obtain ⟨S22, o23⟩ := u21
  have h := h S22 o23 rfl rfl
  have hP : va_P (dC, dI) vwCl (wW cyI cyJ cyZ a q mb S22 o23 M) H := hP.sub [21, 22, 23, 24, 25, 26, 27, 28, 29, 30, 31, 32, 33, 34, 35, 36, 37, 38, 39, 40, 41, 42, 0, 1, 2, 3, 4, 5, 6, 7, 8, 9, 10, 11, 12, 13, 14, 15, 16, 17, 18, 19, 20] rfl
  have hD : va_D (fun q : Nat => s.heap.size ≤ q) (wW cyI cyJ cyZ a q mb S22 o23 M) := hD.sub [21, 22, 23, 24, 25, 26, 27, 28, 29, 30, 31, 32, 33, 34, 35, 36, 37, 38, 39, 40, 41, 42, 0, 1, 2, 3, 4, 5, 6, 7, 8, 9, 10, 11, 12, 13, 14, 15, 16, 17, 18, 19, 20] (by decide) rfl
  refine lv_istore (lv' := [(5, .int r20), (0, .ref b), (1, .ref (a 0)), (2, .ref (mb 0)), (3, .ref q), (4, .int i)]) hx hb dL_law_189 hl (by decide) rfl (fun ls hl => ?_)
  refine lv_aload_n hx hb dL_law_191 rfl (lv_at hl 3 rfl) ?_
  refine lv_aload_n hx hb dL_law_192 rfl (lv_at hl 1 rfl) ?_
  refine lv_iload hx hb dL_law_193 (lv_at hl 5 rfl) ?_
  refine lv_iconst (v := 1) hx hb dL_law_195 (by decide) ?_
  refine lv_iadd hx hb dL_law_196 ?_
  obtain ⟨i24, h⟩ := h
  refine va_sld hx hb hX hbl hbA hS i24 dL_law_197 ?_
  refine lv_aload_n hx hb dL_law_198 rfl (lv_at hl 1 rfl) ?_
  refine lv_iload hx hb dL_law_199 (lv_at hl 5 rfl) ?_
  refine lv_iconst (v := 2) hx hb dL_law_201 (by decide) ?_
  refine lv_iadd hx hb dL_law_202 ?_
  obtain ⟨i25, h⟩ := h
  refine va_sld hx hb hX hbl hbA hS i25 dL_law_203 ?_
  refine xc_Vi (wf := wM cyI cyJ cyZ mb) (S := M) (wr := wL cyI cyJ cyZ a q (S22, o23)) (isC := [22, 23, 24, 25, 26, 27, 28, 29, 30, 31, 32, 33, 34, 35, 36, 37, 38, 39, 40, 41, 42]) (isR := [0, 1, 2, 3, 4, 5, 6, 7, 8, 9, 10, 11, 12, 13, 14, 15, 16, 17, 18, 19, 20, 21]) (As := [.int (xs (i + (1 : Int32)).toNatClampNeg), .int (xs (i + (2 : Int32)).toNatClampNeg)]) (rest := []) ⟨hx, hb, hml, hown, hts⟩ (t_X6_and h) (cwV 2 hts gL_law_X6_and rfl rfl rfl (by decide +kernel) ⟨Nat.le_of_ble_eq_true rfl, Nat.le_of_ble_eq_true rfl⟩) ⟨hK, hE, fun _ h => h, hP, hD, hS, rfl, rfl, rfl, rfl, by decide⟩ ⟨0, 5, _, _, rfl, rfl, rfl⟩ rfl rfl hl.1 (Nat.le_of_ble_eq_true rfl) dL_law_204 ⟨hu.1, hu.2⟩ (fun r26 M27 H locs h hP hD hS => ?_)
  have hP : va_P (dC, dI) vwCl (wW cyI cyJ cyZ a q mb S22 o23 M27) H := hP
  have hD : va_D (fun q : Nat => s.heap.size ≤ q) (wW cyI cyJ cyZ a q mb S22 o23 M27) := hD
  refine W.cs (cells' := (uc + c18)) (slots' := (us + k19)) rfl rfl ?_
  refine lv_istore (lv' := [(6, .int r26), (5, .int r20), (0, .ref b), (1, .ref (a 0)), (2, .ref (mb 0)), (3, .ref q), (4, .int i)]) hx hb dL_law_207 hl (by decide) rfl (fun ls hl => ?_)
  refine lv_aload_n hx hb dL_law_209 rfl (lv_at hl 4 rfl) ?_
  refine xc_Vi (wf := wM cyI cyJ cyZ mb) (S := M27) (wr := wL cyI cyJ cyZ a q (S22, o23)) (isC := [22, 23, 24, 25, 26, 27, 28, 29, 30, 31, 32, 33, 34, 35, 36, 37, 38, 39, 40, 41, 42]) (isR := [0, 1, 2, 3, 4, 5, 6, 7, 8, 9, 10, 11, 12, 13, 14, 15, 16, 17, 18, 19, 20, 21]) (As := []) (rest := []) ⟨hx, hb, hml, hown, hts⟩ (t_X6_thrown h) (cwV 0 hts gL_law_X6_thrown rfl rfl rfl (by decide +kernel) ⟨Nat.le_of_ble_eq_true rfl, Nat.le_of_ble_eq_true rfl⟩) ⟨hK, hE, fun _ h => h, hP, hD, hS, rfl, rfl, rfl, rfl, by decide⟩ ⟨0, 5, _, _, rfl, rfl, rfl⟩ rfl rfl hl.1 (Nat.le_of_ble_eq_true rfl) dL_law_210 ⟨hu.1, hu.2⟩ (fun r28 M29 H locs h hP hD hS => ?_)
  obtain ⟨rfl, h⟩ := h
  have hP : va_P (dC, dI) vwCl (wW cyI cyJ cyZ a q mb S22 o23 M27) H := hP
  have hD : va_D (fun q : Nat => s.heap.size ≤ q) (wW cyI cyJ cyZ a q mb S22 o23 M27) := hD
  refine W.cs (cells' := (uc + c18)) (slots' := (us + k19)) rfl rfl ?_
  refine lv_iload hx hb dL_law_213 (lv_at hl 1 rfl) ?_
  refine lv_icmp_eq (tgt := 220) hx hb dL_law_215 (by decide) (fun c30 => ?_) (fun c30 => ?_)
  · have h := h.1 c30
    refine lv_iload hx hb dL_law_220 (lv_at hl 1 rfl) ?_
    refine lv_if_ne (tgt := 237) hx hb dL_law_222 (by decide) (fun c31 => ?_) (fun c31 => ?_)
    · have h := h.1 c31
      refine lv_goto (tgt := 1151) hx hb dL_law_237 (by decide) ?_
      obtain ⟨y32, ey32⟩ : ∃ z : Int32, z = (i + (4 : Int32)) := ⟨_, rfl⟩
      have h := h y32 ey32
      refine lv_iinc (v := y32) (lv' := [(4, .int y32), (6, .int r26), (5, .int r20), (0, .ref b), (1, .ref (a 0)), (2, .ref (mb 0)), (3, .ref q)]) hx hb dL_law_1151 hl (k := 6) rfl (by rw [ey32]; rfl) (by decide) rfl (fun ls hl => ?_)
      refine lv_goto (tgt := 23) hx hb dL_law_1154 (by decide) ?_
      exact k23 _ _ _ _ _ _ H locs ls hu h hP hD hS (lv_sub hl [3, 4, 5, 6, 0] rfl)
    · have h := h.2 c31
      refine lv_aload_n hx hb dL_law_225 rfl (lv_at hl 5 rfl) ?_
      refine lv_iconst (v := 0) hx hb dL_law_226 (by decide) ?_
      refine va_lald (D := (dC, dI)) hx hb hK hP 21 1 rfl rfl (by unfold vp_in; decide) dL_law_227 ?_
      refine lv_iload hx hb dL_law_228 (lv_at hl 0 rfl) ?_
      refine lv_i2l (v := r26.toInt64) hx hb dL_law_230 rfl ?_
      refine W.lcmp hx hb dL_law_231 ?_
      refine lv_if_eq (tgt := 237) hx hb dL_law_232 (by decide) (fun c33 => ?_) (fun c33 => ?_)
      · have h := h.1 c33
        refine lv_goto (tgt := 1151) hx hb dL_law_237 (by decide) ?_
        obtain ⟨y34, ey34⟩ : ∃ z : Int32, z = (i + (4 : Int32)) := ⟨_, rfl⟩
        have h := h y34 ey34
        refine lv_iinc (v := y34) (lv' := [(4, .int y34), (6, .int r26), (5, .int r20), (0, .ref b), (1, .ref (a 0)), (2, .ref (mb 0)), (3, .ref q)]) hx hb dL_law_1151 hl (k := 6) rfl (by rw [ey34]; rfl) (by decide) rfl (fun ls hl => ?_)
        refine lv_goto (tgt := 23) hx hb dL_law_1154 (by decide) ?_
        exact k23 _ _ _ _ _ _ H locs ls hu h hP hD hS (lv_sub hl [3, 4, 5, 6, 0] rfl)
      · have h := h.2 c33
        exact h.elim
  · have h := h.2 c30
    exact h.elim
def p_law_240 (g23 : CS → (Nat → Int64) → MS → Int32 → Nat → Nat → Prop) (xs : Nat → Int32) (L : Nat) (S : CS) (o : Nat → Int64) (M : MS) (i : Int32) (uc us : Nat) : Prop := vp_in (i + (1 : Int32)) L ∧ ((uc + 2 ≤ 601024 ∧ us + 12 ≤ 7293034) ∧ (p_L_output S o (xs (i + (1 : Int32)).toNatClampNeg) (fun r36 u37 => ∀ (S38 : CS) (o39 : Nat → Int64), S38 = u37.1 → o39 = u37.2 → (vp_in (i + (1 : Int32)) L ∧ (p_X6_output M (xs (i + (1 : Int32)).toNatClampNeg) (fun r41 M42 => p_X6_thrown M42 (fun r43 => (r43 = r36 → ((¬ r36 = 0 → (∀ y47 : Int32, y47 = (i + (4 : Int32)) → (g23 S38 o39 M42 y47 (uc + 2) (us + 12)))) ∧ (r36 = 0 → (((lg_cmp (o39 (0 : Int32).toNatClampNeg) (r41.toInt64)) = 0 → (∀ y49 : Int32, y49 = (i + (4 : Int32)) → (g23 S38 o39 M42 y49 (uc + 2) (us + 12)))) ∧ (¬ (lg_cmp (o39 (0 : Int32).toNatClampNeg) (r41.toInt64)) = 0 → (False)))))) ∧ (¬ r43 = r36 → (False)))))))))
set_option maxHeartbeats 2000000 in
set_option maxRecDepth 100000 in
theorem t_law_240 {p : Program} {l : Launch} {e : Env} {s : State} {m : MethodId} {below : List Frame} {meth : Method} {c : Code} {dC : Nat → ClassId} {dI : Nat → Nat → Nat} {cyI cyJ cyZ : ClassId} {r : Nat → Nat} {a mb : Nat → Nat} {q b L : Nat} {xs : Nat → Int32} {g23 : CS → (Nat → Int64) → MS → Int32 → Nat → Nat → Prop} {S : CS} {o : Nat → Int64} {M : MS} {i : Int32} {uc us : Nat} (G : xLG p l s m meth c b L xs dC dI cyI cyJ cyZ r) (k23 : ∀ (S' : CS) (o' : Nat → Int64) (M' : MS) (i' : Int32) (uc' us' : Nat) (H : Heap) (locs : List Loc) (ls : Array Slot), (uc' ≤ 601024 ∧ us' ≤ 7293034) → g23 S' o' M' i' uc' us' → va_P (dC, dI) vwCl (wW cyI cyJ cyZ a q mb S' o' M') H → va_D (fun q : Nat => s.heap.size ≤ q) (wW cyI cyJ cyZ a q mb S' o' M') → va_S (fun q : Nat => s.heap.size ≤ q) s.heap H locs → lv_has ls 8 [(0, .ref b), (1, .ref (a 0)), (2, .ref (mb 0)), (3, .ref q), (4, .int i')] → W p l e room_1 s m #[Value.ref b] below meth c H locs uc' us' (lw_Z below #[Value.ref b] s) (F0 m 23 ls [])) (h : p_law_240 g23 xs L S o M i uc us) {H : Heap} {locs : List Loc} {ls : Array Slot} (hu : uc ≤ 601024 ∧ us ≤ 7293034) (hP : va_P (dC, dI) vwCl (wW cyI cyJ cyZ a q mb S o M) H) (hD : va_D (fun q : Nat => s.heap.size ≤ q) (wW cyI cyJ cyZ a q mb S o M)) (hS : va_S (fun q : Nat => s.heap.size ≤ q) s.heap H locs) (hl : lv_has ls 8 [(0, .ref b), (1, .ref (a 0)), (2, .ref (mb 0)), (3, .ref q), (4, .int i)]) : W p l e room_1 s m #[Value.ref b] below meth c H locs uc us (lw_Z below #[Value.ref b] s) (F0 m 240 ls []) := by
  obtain ⟨hx, hb, hml, hown, hts, hr, hlocks, hK, hE, hX, hbl, hl0⟩ := id G
  have hbA : ¬ (fun q : Nat => s.heap.size ≤ q) b := Nat.not_le.mpr hbl
  unfold p_law_240 at h
  refine lv_aload_n hx hb dL_law_240 rfl (lv_at hl 1 rfl) ?_
  refine lv_aload_n hx hb dL_law_241 rfl (lv_at hl 0 rfl) ?_
  refine lv_iload hx hb dL_law_242 (lv_at hl 4 rfl) ?_
  refine lv_iconst (v := 1) hx hb dL_law_244 (by decide) ?_
  refine lv_iadd hx hb dL_law_245 ?_
  obtain ⟨i35, h⟩ := h
  refine va_sld hx hb hX hbl hbA hS i35 dL_law_246 ?_
  refine lv_aload_n hx hb dL_law_247 rfl (lv_at hl 3 rfl) ?_
  obtain ⟨hu, h⟩ := h
  refine xt_SXi (wf := wL cyI cyJ cyZ a q) (S := (S, o)) (wr := wM cyI cyJ cyZ mb M) (isC := [0, 1, 2, 3, 4, 5, 6, 7, 8, 9, 10, 11, 12, 13, 14, 15, 16, 17, 18, 19, 20, 21]) (isR := [22, 23, 24, 25, 26, 27, 28, 29, 30, 31, 32, 33, 34, 35, 36, 37, 38, 39, 40, 41, 42]) (As := [.ref (a 0), .int (xs (i + (1 : Int32)).toNatClampNeg), .ref q]) (rest := []) ⟨hx, hb, hml, hown, hts⟩ (t_L_output hl0 h) (vx_cwSW 3 hts gL_law_L_output rfl rfl rfl (by decide +kernel) ⟨Nat.le_of_ble_eq_true rfl, Nat.le_of_ble_eq_true rfl⟩) ⟨hK, hE, fun _ h => h, hP, hD, hS, rfl, rfl, rfl, rfl, by decide⟩ rfl rfl hl.1 (Nat.le_of_ble_eq_true rfl) dL_law_248 ⟨hu.1, hu.2⟩ (fun E ce q9 u H locs h hP hD hS hce hcv hcl => h.elim) (fun r36 u37 H locs h hP hD hS => ?_)
  obtain ⟨S38, o39⟩ := u37
  have h := h S38 o39 rfl rfl
  have hP : va_P (dC, dI) vwCl (wW cyI cyJ cyZ a q mb S38 o39 M) H := hP.sub [21, 22, 23, 24, 25, 26, 27, 28, 29, 30, 31, 32, 33, 34, 35, 36, 37, 38, 39, 40, 41, 42, 0, 1, 2, 3, 4, 5, 6, 7, 8, 9, 10, 11, 12, 13, 14, 15, 16, 17, 18, 19, 20] rfl
  have hD : va_D (fun q : Nat => s.heap.size ≤ q) (wW cyI cyJ cyZ a q mb S38 o39 M) := hD.sub [21, 22, 23, 24, 25, 26, 27, 28, 29, 30, 31, 32, 33, 34, 35, 36, 37, 38, 39, 40, 41, 42, 0, 1, 2, 3, 4, 5, 6, 7, 8, 9, 10, 11, 12, 13, 14, 15, 16, 17, 18, 19, 20] (by decide) rfl
  refine lv_istore (lv' := [(5, .int r36), (0, .ref b), (1, .ref (a 0)), (2, .ref (mb 0)), (3, .ref q), (4, .int i)]) hx hb dL_law_251 hl (by decide) rfl (fun ls hl => ?_)
  refine lv_aload_n hx hb dL_law_253 rfl (lv_at hl 3 rfl) ?_
  refine lv_aload_n hx hb dL_law_254 rfl (lv_at hl 1 rfl) ?_
  refine lv_iload hx hb dL_law_255 (lv_at hl 5 rfl) ?_
  refine lv_iconst (v := 1) hx hb dL_law_257 (by decide) ?_
  refine lv_iadd hx hb dL_law_258 ?_
  obtain ⟨i40, h⟩ := h
  refine va_sld hx hb hX hbl hbA hS i40 dL_law_259 ?_
  refine xc_Vi (wf := wM cyI cyJ cyZ mb) (S := M) (wr := wL cyI cyJ cyZ a q (S38, o39)) (isC := [22, 23, 24, 25, 26, 27, 28, 29, 30, 31, 32, 33, 34, 35, 36, 37, 38, 39, 40, 41, 42]) (isR := [0, 1, 2, 3, 4, 5, 6, 7, 8, 9, 10, 11, 12, 13, 14, 15, 16, 17, 18, 19, 20, 21]) (As := [.int (xs (i + (1 : Int32)).toNatClampNeg)]) (rest := []) ⟨hx, hb, hml, hown, hts⟩ (t_X6_output h) (cwV 1 hts gL_law_X6_output rfl rfl rfl (by decide +kernel) ⟨Nat.le_of_ble_eq_true rfl, Nat.le_of_ble_eq_true rfl⟩) ⟨hK, hE, fun _ h => h, hP, hD, hS, rfl, rfl, rfl, rfl, by decide⟩ ⟨0, 5, _, _, rfl, rfl, rfl⟩ rfl rfl hl.1 (Nat.le_of_ble_eq_true rfl) dL_law_260 ⟨hu.1, hu.2⟩ (fun r41 M42 H locs h hP hD hS => ?_)
  have hP : va_P (dC, dI) vwCl (wW cyI cyJ cyZ a q mb S38 o39 M42) H := hP
  have hD : va_D (fun q : Nat => s.heap.size ≤ q) (wW cyI cyJ cyZ a q mb S38 o39 M42) := hD
  refine W.cs (cells' := (uc + 2)) (slots' := (us + 12)) rfl rfl ?_
  refine lv_istore (lv' := [(6, .int r41), (5, .int r36), (0, .ref b), (1, .ref (a 0)), (2, .ref (mb 0)), (3, .ref q), (4, .int i)]) hx hb dL_law_263 hl (by decide) rfl (fun ls hl => ?_)
  refine lv_aload_n hx hb dL_law_265 rfl (lv_at hl 4 rfl) ?_
  refine xc_Vi (wf := wM cyI cyJ cyZ mb) (S := M42) (wr := wL cyI cyJ cyZ a q (S38, o39)) (isC := [22, 23, 24, 25, 26, 27, 28, 29, 30, 31, 32, 33, 34, 35, 36, 37, 38, 39, 40, 41, 42]) (isR := [0, 1, 2, 3, 4, 5, 6, 7, 8, 9, 10, 11, 12, 13, 14, 15, 16, 17, 18, 19, 20, 21]) (As := []) (rest := []) ⟨hx, hb, hml, hown, hts⟩ (t_X6_thrown h) (cwV 0 hts gL_law_X6_thrown rfl rfl rfl (by decide +kernel) ⟨Nat.le_of_ble_eq_true rfl, Nat.le_of_ble_eq_true rfl⟩) ⟨hK, hE, fun _ h => h, hP, hD, hS, rfl, rfl, rfl, rfl, by decide⟩ ⟨0, 5, _, _, rfl, rfl, rfl⟩ rfl rfl hl.1 (Nat.le_of_ble_eq_true rfl) dL_law_266 ⟨hu.1, hu.2⟩ (fun r43 M44 H locs h hP hD hS => ?_)
  obtain ⟨rfl, h⟩ := h
  have hP : va_P (dC, dI) vwCl (wW cyI cyJ cyZ a q mb S38 o39 M42) H := hP
  have hD : va_D (fun q : Nat => s.heap.size ≤ q) (wW cyI cyJ cyZ a q mb S38 o39 M42) := hD
  refine W.cs (cells' := (uc + 2)) (slots' := (us + 12)) rfl rfl ?_
  refine lv_iload hx hb dL_law_269 (lv_at hl 1 rfl) ?_
  refine lv_icmp_eq (tgt := 276) hx hb dL_law_271 (by decide) (fun c45 => ?_) (fun c45 => ?_)
  · have h := h.1 c45
    refine lv_iload hx hb dL_law_276 (lv_at hl 1 rfl) ?_
    refine lv_if_ne (tgt := 293) hx hb dL_law_278 (by decide) (fun c46 => ?_) (fun c46 => ?_)
    · have h := h.1 c46
      refine lv_goto (tgt := 1151) hx hb dL_law_293 (by decide) ?_
      obtain ⟨y47, ey47⟩ : ∃ z : Int32, z = (i + (4 : Int32)) := ⟨_, rfl⟩
      have h := h y47 ey47
      refine lv_iinc (v := y47) (lv' := [(4, .int y47), (6, .int r41), (5, .int r36), (0, .ref b), (1, .ref (a 0)), (2, .ref (mb 0)), (3, .ref q)]) hx hb dL_law_1151 hl (k := 6) rfl (by rw [ey47]; rfl) (by decide) rfl (fun ls hl => ?_)
      refine lv_goto (tgt := 23) hx hb dL_law_1154 (by decide) ?_
      exact k23 _ _ _ _ _ _ H locs ls hu h hP hD hS (lv_sub hl [3, 4, 5, 6, 0] rfl)
    · have h := h.2 c46
      refine lv_aload_n hx hb dL_law_281 rfl (lv_at hl 5 rfl) ?_
      refine lv_iconst (v := 0) hx hb dL_law_282 (by decide) ?_
      refine va_lald (D := (dC, dI)) hx hb hK hP 21 1 rfl rfl (by unfold vp_in; decide) dL_law_283 ?_
      refine lv_iload hx hb dL_law_284 (lv_at hl 0 rfl) ?_
      refine lv_i2l (v := r41.toInt64) hx hb dL_law_286 rfl ?_
      refine W.lcmp hx hb dL_law_287 ?_
      refine lv_if_eq (tgt := 293) hx hb dL_law_288 (by decide) (fun c48 => ?_) (fun c48 => ?_)
      · have h := h.1 c48
        refine lv_goto (tgt := 1151) hx hb dL_law_293 (by decide) ?_
        obtain ⟨y49, ey49⟩ : ∃ z : Int32, z = (i + (4 : Int32)) := ⟨_, rfl⟩
        have h := h y49 ey49
        refine lv_iinc (v := y49) (lv' := [(4, .int y49), (6, .int r41), (5, .int r36), (0, .ref b), (1, .ref (a 0)), (2, .ref (mb 0)), (3, .ref q)]) hx hb dL_law_1151 hl (k := 6) rfl (by rw [ey49]; rfl) (by decide) rfl (fun ls hl => ?_)
        refine lv_goto (tgt := 23) hx hb dL_law_1154 (by decide) ?_
        exact k23 _ _ _ _ _ _ H locs ls hu h hP hD hS (lv_sub hl [3, 4, 5, 6, 0] rfl)
      · have h := h.2 c48
        exact h.elim
  · have h := h.2 c45
    exact h.elim
def p_law_296 (g23 : CS → (Nat → Int64) → MS → Int32 → Nat → Nat → Prop) (xs : Nat → Int32) (L : Nat) (S : CS) (o : Nat → Int64) (M : MS) (i : Int32) (uc us : Nat) : Prop := vp_in (i + (1 : Int32)) L ∧ (vp_in (i + (2 : Int32)) L ∧ (vp_in (i + (3 : Int32)) L ∧ ((uc + 3 ≤ 601024 ∧ us + 18 ≤ 7293034) ∧ (p_L_cell S o (xs (i + (1 : Int32)).toNatClampNeg) (xs (i + (2 : Int32)).toNatClampNeg) (xs (i + (3 : Int32)).toNatClampNeg) (fun r53 u54 => ∀ (S55 : CS) (o56 : Nat → Int64), S55 = u54.1 → o56 = u54.2 → (vp_in (i + (1 : Int32)) L ∧ (vp_in (i + (2 : Int32)) L ∧ (vp_in (i + (3 : Int32)) L ∧ (p_X6_cell M (xs (i + (1 : Int32)).toNatClampNeg) (xs (i + (2 : Int32)).toNatClampNeg) (xs (i + (3 : Int32)).toNatClampNeg) (fun r60 M61 => p_X6_thrown M61 (fun r62 => (r62 = r53 → ((¬ r53 = 0 → (∀ y66 : Int32, y66 = (i + (4 : Int32)) → (g23 S55 o56 M61 y66 (uc + 3) (us + 18)))) ∧ (r53 = 0 → (((lg_cmp (o56 (0 : Int32).toNatClampNeg) (r60.toInt64)) = 0 → (∀ y68 : Int32, y68 = (i + (4 : Int32)) → (g23 S55 o56 M61 y68 (uc + 3) (us + 18)))) ∧ (¬ (lg_cmp (o56 (0 : Int32).toNatClampNeg) (r60.toInt64)) = 0 → (False)))))) ∧ (¬ r62 = r53 → (False)))))))))))))
set_option maxHeartbeats 2000000 in
set_option maxRecDepth 100000 in
theorem t_law_296 {p : Program} {l : Launch} {e : Env} {s : State} {m : MethodId} {below : List Frame} {meth : Method} {c : Code} {dC : Nat → ClassId} {dI : Nat → Nat → Nat} {cyI cyJ cyZ : ClassId} {r : Nat → Nat} {a mb : Nat → Nat} {q b L : Nat} {xs : Nat → Int32} {g23 : CS → (Nat → Int64) → MS → Int32 → Nat → Nat → Prop} {S : CS} {o : Nat → Int64} {M : MS} {i : Int32} {uc us : Nat} (G : xLG p l s m meth c b L xs dC dI cyI cyJ cyZ r) (k23 : ∀ (S' : CS) (o' : Nat → Int64) (M' : MS) (i' : Int32) (uc' us' : Nat) (H : Heap) (locs : List Loc) (ls : Array Slot), (uc' ≤ 601024 ∧ us' ≤ 7293034) → g23 S' o' M' i' uc' us' → va_P (dC, dI) vwCl (wW cyI cyJ cyZ a q mb S' o' M') H → va_D (fun q : Nat => s.heap.size ≤ q) (wW cyI cyJ cyZ a q mb S' o' M') → va_S (fun q : Nat => s.heap.size ≤ q) s.heap H locs → lv_has ls 8 [(0, .ref b), (1, .ref (a 0)), (2, .ref (mb 0)), (3, .ref q), (4, .int i')] → W p l e room_1 s m #[Value.ref b] below meth c H locs uc' us' (lw_Z below #[Value.ref b] s) (F0 m 23 ls [])) (h : p_law_296 g23 xs L S o M i uc us) {H : Heap} {locs : List Loc} {ls : Array Slot} (hu : uc ≤ 601024 ∧ us ≤ 7293034) (hP : va_P (dC, dI) vwCl (wW cyI cyJ cyZ a q mb S o M) H) (hD : va_D (fun q : Nat => s.heap.size ≤ q) (wW cyI cyJ cyZ a q mb S o M)) (hS : va_S (fun q : Nat => s.heap.size ≤ q) s.heap H locs) (hl : lv_has ls 8 [(0, .ref b), (1, .ref (a 0)), (2, .ref (mb 0)), (3, .ref q), (4, .int i)]) : W p l e room_1 s m #[Value.ref b] below meth c H locs uc us (lw_Z below #[Value.ref b] s) (F0 m 296 ls []) := by
  obtain ⟨hx, hb, hml, hown, hts, hr, hlocks, hK, hE, hX, hbl, hl0⟩ := id G
  have hbA : ¬ (fun q : Nat => s.heap.size ≤ q) b := Nat.not_le.mpr hbl
  unfold p_law_296 at h
  refine lv_aload_n hx hb dL_law_296 rfl (lv_at hl 1 rfl) ?_
  refine lv_aload_n hx hb dL_law_297 rfl (lv_at hl 0 rfl) ?_
  refine lv_iload hx hb dL_law_298 (lv_at hl 4 rfl) ?_
  refine lv_iconst (v := 1) hx hb dL_law_300 (by decide) ?_
  refine lv_iadd hx hb dL_law_301 ?_
  obtain ⟨i50, h⟩ := h
  refine va_sld hx hb hX hbl hbA hS i50 dL_law_302 ?_
  refine lv_aload_n hx hb dL_law_303 rfl (lv_at hl 0 rfl) ?_
  refine lv_iload hx hb dL_law_304 (lv_at hl 4 rfl) ?_
  refine lv_iconst (v := 2) hx hb dL_law_306 (by decide) ?_
  refine lv_iadd hx hb dL_law_307 ?_
  obtain ⟨i51, h⟩ := h
  refine va_sld hx hb hX hbl hbA hS i51 dL_law_308 ?_
  refine lv_aload_n hx hb dL_law_309 rfl (lv_at hl 0 rfl) ?_
  refine lv_iload hx hb dL_law_310 (lv_at hl 4 rfl) ?_
  refine lv_iconst (v := 3) hx hb dL_law_312 (by decide) ?_
  refine lv_iadd hx hb dL_law_313 ?_
  obtain ⟨i52, h⟩ := h
  refine va_sld hx hb hX hbl hbA hS i52 dL_law_314 ?_
  refine lv_aload_n hx hb dL_law_315 rfl (lv_at hl 3 rfl) ?_
  obtain ⟨hu, h⟩ := h
  refine xt_SXi (wf := wL cyI cyJ cyZ a q) (S := (S, o)) (wr := wM cyI cyJ cyZ mb M) (isC := [0, 1, 2, 3, 4, 5, 6, 7, 8, 9, 10, 11, 12, 13, 14, 15, 16, 17, 18, 19, 20, 21]) (isR := [22, 23, 24, 25, 26, 27, 28, 29, 30, 31, 32, 33, 34, 35, 36, 37, 38, 39, 40, 41, 42]) (As := [.ref (a 0), .int (xs (i + (1 : Int32)).toNatClampNeg), .int (xs (i + (2 : Int32)).toNatClampNeg), .int (xs (i + (3 : Int32)).toNatClampNeg), .ref q]) (rest := []) ⟨hx, hb, hml, hown, hts⟩ (t_L_cell hl0 h) (vx_cwSW 5 hts gL_law_L_cell rfl rfl rfl (by decide +kernel) ⟨Nat.le_of_ble_eq_true rfl, Nat.le_of_ble_eq_true rfl⟩) ⟨hK, hE, fun _ h => h, hP, hD, hS, rfl, rfl, rfl, rfl, by decide⟩ rfl rfl hl.1 (Nat.le_of_ble_eq_true rfl) dL_law_316 ⟨hu.1, hu.2⟩ (fun E ce q9 u H locs h hP hD hS hce hcv hcl => h.elim) (fun r53 u54 H locs h hP hD hS => ?_)
  obtain ⟨S55, o56⟩ := u54
  have h := h S55 o56 rfl rfl
  have hP : va_P (dC, dI) vwCl (wW cyI cyJ cyZ a q mb S55 o56 M) H := hP.sub [21, 22, 23, 24, 25, 26, 27, 28, 29, 30, 31, 32, 33, 34, 35, 36, 37, 38, 39, 40, 41, 42, 0, 1, 2, 3, 4, 5, 6, 7, 8, 9, 10, 11, 12, 13, 14, 15, 16, 17, 18, 19, 20] rfl
  have hD : va_D (fun q : Nat => s.heap.size ≤ q) (wW cyI cyJ cyZ a q mb S55 o56 M) := hD.sub [21, 22, 23, 24, 25, 26, 27, 28, 29, 30, 31, 32, 33, 34, 35, 36, 37, 38, 39, 40, 41, 42, 0, 1, 2, 3, 4, 5, 6, 7, 8, 9, 10, 11, 12, 13, 14, 15, 16, 17, 18, 19, 20] (by decide) rfl
  refine lv_istore (lv' := [(5, .int r53), (0, .ref b), (1, .ref (a 0)), (2, .ref (mb 0)), (3, .ref q), (4, .int i)]) hx hb dL_law_319 hl (by decide) rfl (fun ls hl => ?_)
  refine lv_aload_n hx hb dL_law_321 rfl (lv_at hl 3 rfl) ?_
  refine lv_aload_n hx hb dL_law_322 rfl (lv_at hl 1 rfl) ?_
  refine lv_iload hx hb dL_law_323 (lv_at hl 5 rfl) ?_
  refine lv_iconst (v := 1) hx hb dL_law_325 (by decide) ?_
  refine lv_iadd hx hb dL_law_326 ?_
  obtain ⟨i57, h⟩ := h
  refine va_sld hx hb hX hbl hbA hS i57 dL_law_327 ?_
  refine lv_aload_n hx hb dL_law_328 rfl (lv_at hl 1 rfl) ?_
  refine lv_iload hx hb dL_law_329 (lv_at hl 5 rfl) ?_
  refine lv_iconst (v := 2) hx hb dL_law_331 (by decide) ?_
  refine lv_iadd hx hb dL_law_332 ?_
  obtain ⟨i58, h⟩ := h
  refine va_sld hx hb hX hbl hbA hS i58 dL_law_333 ?_
  refine lv_aload_n hx hb dL_law_334 rfl (lv_at hl 1 rfl) ?_
  refine lv_iload hx hb dL_law_335 (lv_at hl 5 rfl) ?_
  refine lv_iconst (v := 3) hx hb dL_law_337 (by decide) ?_
  refine lv_iadd hx hb dL_law_338 ?_
  obtain ⟨i59, h⟩ := h
  refine va_sld hx hb hX hbl hbA hS i59 dL_law_339 ?_
  refine xc_Vi (wf := wM cyI cyJ cyZ mb) (S := M) (wr := wL cyI cyJ cyZ a q (S55, o56)) (isC := [22, 23, 24, 25, 26, 27, 28, 29, 30, 31, 32, 33, 34, 35, 36, 37, 38, 39, 40, 41, 42]) (isR := [0, 1, 2, 3, 4, 5, 6, 7, 8, 9, 10, 11, 12, 13, 14, 15, 16, 17, 18, 19, 20, 21]) (As := [.int (xs (i + (1 : Int32)).toNatClampNeg), .int (xs (i + (2 : Int32)).toNatClampNeg), .int (xs (i + (3 : Int32)).toNatClampNeg)]) (rest := []) ⟨hx, hb, hml, hown, hts⟩ (t_X6_cell h) (cwV 3 hts gL_law_X6_cell rfl rfl rfl (by decide +kernel) ⟨Nat.le_of_ble_eq_true rfl, Nat.le_of_ble_eq_true rfl⟩) ⟨hK, hE, fun _ h => h, hP, hD, hS, rfl, rfl, rfl, rfl, by decide⟩ ⟨0, 5, _, _, rfl, rfl, rfl⟩ rfl rfl hl.1 (Nat.le_of_ble_eq_true rfl) dL_law_340 ⟨hu.1, hu.2⟩ (fun r60 M61 H locs h hP hD hS => ?_)
  have hP : va_P (dC, dI) vwCl (wW cyI cyJ cyZ a q mb S55 o56 M61) H := hP
  have hD : va_D (fun q : Nat => s.heap.size ≤ q) (wW cyI cyJ cyZ a q mb S55 o56 M61) := hD
  refine W.cs (cells' := (uc + 3)) (slots' := (us + 18)) rfl rfl ?_
  refine lv_istore (lv' := [(6, .int r60), (5, .int r53), (0, .ref b), (1, .ref (a 0)), (2, .ref (mb 0)), (3, .ref q), (4, .int i)]) hx hb dL_law_343 hl (by decide) rfl (fun ls hl => ?_)
  refine lv_aload_n hx hb dL_law_345 rfl (lv_at hl 4 rfl) ?_
  refine xc_Vi (wf := wM cyI cyJ cyZ mb) (S := M61) (wr := wL cyI cyJ cyZ a q (S55, o56)) (isC := [22, 23, 24, 25, 26, 27, 28, 29, 30, 31, 32, 33, 34, 35, 36, 37, 38, 39, 40, 41, 42]) (isR := [0, 1, 2, 3, 4, 5, 6, 7, 8, 9, 10, 11, 12, 13, 14, 15, 16, 17, 18, 19, 20, 21]) (As := []) (rest := []) ⟨hx, hb, hml, hown, hts⟩ (t_X6_thrown h) (cwV 0 hts gL_law_X6_thrown rfl rfl rfl (by decide +kernel) ⟨Nat.le_of_ble_eq_true rfl, Nat.le_of_ble_eq_true rfl⟩) ⟨hK, hE, fun _ h => h, hP, hD, hS, rfl, rfl, rfl, rfl, by decide⟩ ⟨0, 5, _, _, rfl, rfl, rfl⟩ rfl rfl hl.1 (Nat.le_of_ble_eq_true rfl) dL_law_346 ⟨hu.1, hu.2⟩ (fun r62 M63 H locs h hP hD hS => ?_)
  obtain ⟨rfl, h⟩ := h
  have hP : va_P (dC, dI) vwCl (wW cyI cyJ cyZ a q mb S55 o56 M61) H := hP
  have hD : va_D (fun q : Nat => s.heap.size ≤ q) (wW cyI cyJ cyZ a q mb S55 o56 M61) := hD
  refine W.cs (cells' := (uc + 3)) (slots' := (us + 18)) rfl rfl ?_
  refine lv_iload hx hb dL_law_349 (lv_at hl 1 rfl) ?_
  refine lv_icmp_eq (tgt := 356) hx hb dL_law_351 (by decide) (fun c64 => ?_) (fun c64 => ?_)
  · have h := h.1 c64
    refine lv_iload hx hb dL_law_356 (lv_at hl 1 rfl) ?_
    refine lv_if_ne (tgt := 373) hx hb dL_law_358 (by decide) (fun c65 => ?_) (fun c65 => ?_)
    · have h := h.1 c65
      refine lv_goto (tgt := 1151) hx hb dL_law_373 (by decide) ?_
      obtain ⟨y66, ey66⟩ : ∃ z : Int32, z = (i + (4 : Int32)) := ⟨_, rfl⟩
      have h := h y66 ey66
      refine lv_iinc (v := y66) (lv' := [(4, .int y66), (6, .int r60), (5, .int r53), (0, .ref b), (1, .ref (a 0)), (2, .ref (mb 0)), (3, .ref q)]) hx hb dL_law_1151 hl (k := 6) rfl (by rw [ey66]; rfl) (by decide) rfl (fun ls hl => ?_)
      refine lv_goto (tgt := 23) hx hb dL_law_1154 (by decide) ?_
      exact k23 _ _ _ _ _ _ H locs ls hu h hP hD hS (lv_sub hl [3, 4, 5, 6, 0] rfl)
    · have h := h.2 c65
      refine lv_aload_n hx hb dL_law_361 rfl (lv_at hl 5 rfl) ?_
      refine lv_iconst (v := 0) hx hb dL_law_362 (by decide) ?_
      refine va_lald (D := (dC, dI)) hx hb hK hP 21 1 rfl rfl (by unfold vp_in; decide) dL_law_363 ?_
      refine lv_iload hx hb dL_law_364 (lv_at hl 0 rfl) ?_
      refine lv_i2l (v := r60.toInt64) hx hb dL_law_366 rfl ?_
      refine W.lcmp hx hb dL_law_367 ?_
      refine lv_if_eq (tgt := 373) hx hb dL_law_368 (by decide) (fun c67 => ?_) (fun c67 => ?_)
      · have h := h.1 c67
        refine lv_goto (tgt := 1151) hx hb dL_law_373 (by decide) ?_
        obtain ⟨y68, ey68⟩ : ∃ z : Int32, z = (i + (4 : Int32)) := ⟨_, rfl⟩
        have h := h y68 ey68
        refine lv_iinc (v := y68) (lv' := [(4, .int y68), (6, .int r60), (5, .int r53), (0, .ref b), (1, .ref (a 0)), (2, .ref (mb 0)), (3, .ref q)]) hx hb dL_law_1151 hl (k := 6) rfl (by rw [ey68]; rfl) (by decide) rfl (fun ls hl => ?_)
        refine lv_goto (tgt := 23) hx hb dL_law_1154 (by decide) ?_
        exact k23 _ _ _ _ _ _ H locs ls hu h hP hD hS (lv_sub hl [3, 4, 5, 6, 0] rfl)
      · have h := h.2 c67
        exact h.elim
  · have h := h.2 c64
    exact h.elim
def p_law_376 (g23 : CS → (Nat → Int64) → MS → Int32 → Nat → Nat → Prop) (xs : Nat → Int32) (L : Nat) (S : CS) (o : Nat → Int64) (M : MS) (i : Int32) (uc us : Nat) : Prop := vp_in (i + (1 : Int32)) L ∧ (vp_in (i + (2 : Int32)) L ∧ (vp_in (i + (3 : Int32)) L ∧ ((uc + 3 ≤ 601024 ∧ us + 18 ≤ 7293034) ∧ (p_L_delay S o (xs (i + (1 : Int32)).toNatClampNeg) (xs (i + (2 : Int32)).toNatClampNeg) (xs (i + (3 : Int32)).toNatClampNeg) (fun r72 u73 => ∀ (S74 : CS) (o75 : Nat → Int64), S74 = u73.1 → o75 = u73.2 → (vp_in (i + (1 : Int32)) L ∧ (vp_in (i + (2 : Int32)) L ∧ (vp_in (i + (3 : Int32)) L ∧ (p_X6_delay M (xs (i + (1 : Int32)).toNatClampNeg) (xs (i + (2 : Int32)).toNatClampNeg) (xs (i + (3 : Int32)).toNatClampNeg) (fun r79 M80 => p_X6_thrown M80 (fun r81 => (r81 = r72 → ((¬ r72 = 0 → (∀ y85 : Int32, y85 = (i + (4 : Int32)) → (g23 S74 o75 M80 y85 (uc + 3) (us + 18)))) ∧ (r72 = 0 → ((r79 = 0 → (((lg_cmp (o75 (0 : Int32).toNatClampNeg) (0 : Int64)) = 0 → (∀ y88 : Int32, y88 = (i + (4 : Int32)) → (g23 S74 o75 M80 y88 (uc + 3) (us + 18)))) ∧ (¬ (lg_cmp (o75 (0 : Int32).toNatClampNeg) (0 : Int64)) = 0 → (False)))) ∧ (¬ r79 = 0 → (((lg_cmp (o75 (0 : Int32).toNatClampNeg) (1 : Int64)) = 0 → (∀ y90 : Int32, y90 = (i + (4 : Int32)) → (g23 S74 o75 M80 y90 (uc + 3) (us + 18)))) ∧ (¬ (lg_cmp (o75 (0 : Int32).toNatClampNeg) (1 : Int64)) = 0 → (False)))))))) ∧ (¬ r81 = r72 → (False)))))))))))))
set_option maxHeartbeats 2000000 in
set_option maxRecDepth 100000 in
theorem t_law_376 {p : Program} {l : Launch} {e : Env} {s : State} {m : MethodId} {below : List Frame} {meth : Method} {c : Code} {dC : Nat → ClassId} {dI : Nat → Nat → Nat} {cyI cyJ cyZ : ClassId} {r : Nat → Nat} {a mb : Nat → Nat} {q b L : Nat} {xs : Nat → Int32} {g23 : CS → (Nat → Int64) → MS → Int32 → Nat → Nat → Prop} {S : CS} {o : Nat → Int64} {M : MS} {i : Int32} {uc us : Nat} (G : xLG p l s m meth c b L xs dC dI cyI cyJ cyZ r) (k23 : ∀ (S' : CS) (o' : Nat → Int64) (M' : MS) (i' : Int32) (uc' us' : Nat) (H : Heap) (locs : List Loc) (ls : Array Slot), (uc' ≤ 601024 ∧ us' ≤ 7293034) → g23 S' o' M' i' uc' us' → va_P (dC, dI) vwCl (wW cyI cyJ cyZ a q mb S' o' M') H → va_D (fun q : Nat => s.heap.size ≤ q) (wW cyI cyJ cyZ a q mb S' o' M') → va_S (fun q : Nat => s.heap.size ≤ q) s.heap H locs → lv_has ls 8 [(0, .ref b), (1, .ref (a 0)), (2, .ref (mb 0)), (3, .ref q), (4, .int i')] → W p l e room_1 s m #[Value.ref b] below meth c H locs uc' us' (lw_Z below #[Value.ref b] s) (F0 m 23 ls [])) (h : p_law_376 g23 xs L S o M i uc us) {H : Heap} {locs : List Loc} {ls : Array Slot} (hu : uc ≤ 601024 ∧ us ≤ 7293034) (hP : va_P (dC, dI) vwCl (wW cyI cyJ cyZ a q mb S o M) H) (hD : va_D (fun q : Nat => s.heap.size ≤ q) (wW cyI cyJ cyZ a q mb S o M)) (hS : va_S (fun q : Nat => s.heap.size ≤ q) s.heap H locs) (hl : lv_has ls 8 [(0, .ref b), (1, .ref (a 0)), (2, .ref (mb 0)), (3, .ref q), (4, .int i)]) : W p l e room_1 s m #[Value.ref b] below meth c H locs uc us (lw_Z below #[Value.ref b] s) (F0 m 376 ls []) := by
  obtain ⟨hx, hb, hml, hown, hts, hr, hlocks, hK, hE, hX, hbl, hl0⟩ := id G
  have hbA : ¬ (fun q : Nat => s.heap.size ≤ q) b := Nat.not_le.mpr hbl
  unfold p_law_376 at h
  refine lv_aload_n hx hb dL_law_376 rfl (lv_at hl 1 rfl) ?_
  refine lv_aload_n hx hb dL_law_377 rfl (lv_at hl 0 rfl) ?_
  refine lv_iload hx hb dL_law_378 (lv_at hl 4 rfl) ?_
  refine lv_iconst (v := 1) hx hb dL_law_380 (by decide) ?_
  refine lv_iadd hx hb dL_law_381 ?_
  obtain ⟨i69, h⟩ := h
  refine va_sld hx hb hX hbl hbA hS i69 dL_law_382 ?_
  refine lv_aload_n hx hb dL_law_383 rfl (lv_at hl 0 rfl) ?_
  refine lv_iload hx hb dL_law_384 (lv_at hl 4 rfl) ?_
  refine lv_iconst (v := 2) hx hb dL_law_386 (by decide) ?_
  refine lv_iadd hx hb dL_law_387 ?_
  obtain ⟨i70, h⟩ := h
  refine va_sld hx hb hX hbl hbA hS i70 dL_law_388 ?_
  refine lv_aload_n hx hb dL_law_389 rfl (lv_at hl 0 rfl) ?_
  refine lv_iload hx hb dL_law_390 (lv_at hl 4 rfl) ?_
  refine lv_iconst (v := 3) hx hb dL_law_392 (by decide) ?_
  refine lv_iadd hx hb dL_law_393 ?_
  obtain ⟨i71, h⟩ := h
  refine va_sld hx hb hX hbl hbA hS i71 dL_law_394 ?_
  refine lv_aload_n hx hb dL_law_395 rfl (lv_at hl 3 rfl) ?_
  obtain ⟨hu, h⟩ := h
  refine xt_SXi (wf := wL cyI cyJ cyZ a q) (S := (S, o)) (wr := wM cyI cyJ cyZ mb M) (isC := [0, 1, 2, 3, 4, 5, 6, 7, 8, 9, 10, 11, 12, 13, 14, 15, 16, 17, 18, 19, 20, 21]) (isR := [22, 23, 24, 25, 26, 27, 28, 29, 30, 31, 32, 33, 34, 35, 36, 37, 38, 39, 40, 41, 42]) (As := [.ref (a 0), .int (xs (i + (1 : Int32)).toNatClampNeg), .int (xs (i + (2 : Int32)).toNatClampNeg), .int (xs (i + (3 : Int32)).toNatClampNeg), .ref q]) (rest := []) ⟨hx, hb, hml, hown, hts⟩ (t_L_delay hl0 h) (vx_cwSW 5 hts gL_law_L_delay rfl rfl rfl (by decide +kernel) ⟨Nat.le_of_ble_eq_true rfl, Nat.le_of_ble_eq_true rfl⟩) ⟨hK, hE, fun _ h => h, hP, hD, hS, rfl, rfl, rfl, rfl, by decide⟩ rfl rfl hl.1 (Nat.le_of_ble_eq_true rfl) dL_law_396 ⟨hu.1, hu.2⟩ (fun E ce q9 u H locs h hP hD hS hce hcv hcl => h.elim) (fun r72 u73 H locs h hP hD hS => ?_)
  obtain ⟨S74, o75⟩ := u73
  have h := h S74 o75 rfl rfl
  have hP : va_P (dC, dI) vwCl (wW cyI cyJ cyZ a q mb S74 o75 M) H := hP.sub [21, 22, 23, 24, 25, 26, 27, 28, 29, 30, 31, 32, 33, 34, 35, 36, 37, 38, 39, 40, 41, 42, 0, 1, 2, 3, 4, 5, 6, 7, 8, 9, 10, 11, 12, 13, 14, 15, 16, 17, 18, 19, 20] rfl
  have hD : va_D (fun q : Nat => s.heap.size ≤ q) (wW cyI cyJ cyZ a q mb S74 o75 M) := hD.sub [21, 22, 23, 24, 25, 26, 27, 28, 29, 30, 31, 32, 33, 34, 35, 36, 37, 38, 39, 40, 41, 42, 0, 1, 2, 3, 4, 5, 6, 7, 8, 9, 10, 11, 12, 13, 14, 15, 16, 17, 18, 19, 20] (by decide) rfl
  refine lv_istore (lv' := [(5, .int r72), (0, .ref b), (1, .ref (a 0)), (2, .ref (mb 0)), (3, .ref q), (4, .int i)]) hx hb dL_law_399 hl (by decide) rfl (fun ls hl => ?_)
  refine lv_aload_n hx hb dL_law_401 rfl (lv_at hl 3 rfl) ?_
  refine lv_aload_n hx hb dL_law_402 rfl (lv_at hl 1 rfl) ?_
  refine lv_iload hx hb dL_law_403 (lv_at hl 5 rfl) ?_
  refine lv_iconst (v := 1) hx hb dL_law_405 (by decide) ?_
  refine lv_iadd hx hb dL_law_406 ?_
  obtain ⟨i76, h⟩ := h
  refine va_sld hx hb hX hbl hbA hS i76 dL_law_407 ?_
  refine lv_aload_n hx hb dL_law_408 rfl (lv_at hl 1 rfl) ?_
  refine lv_iload hx hb dL_law_409 (lv_at hl 5 rfl) ?_
  refine lv_iconst (v := 2) hx hb dL_law_411 (by decide) ?_
  refine lv_iadd hx hb dL_law_412 ?_
  obtain ⟨i77, h⟩ := h
  refine va_sld hx hb hX hbl hbA hS i77 dL_law_413 ?_
  refine lv_aload_n hx hb dL_law_414 rfl (lv_at hl 1 rfl) ?_
  refine lv_iload hx hb dL_law_415 (lv_at hl 5 rfl) ?_
  refine lv_iconst (v := 3) hx hb dL_law_417 (by decide) ?_
  refine lv_iadd hx hb dL_law_418 ?_
  obtain ⟨i78, h⟩ := h
  refine va_sld hx hb hX hbl hbA hS i78 dL_law_419 ?_
  refine xc_Vi (wf := wM cyI cyJ cyZ mb) (S := M) (wr := wL cyI cyJ cyZ a q (S74, o75)) (isC := [22, 23, 24, 25, 26, 27, 28, 29, 30, 31, 32, 33, 34, 35, 36, 37, 38, 39, 40, 41, 42]) (isR := [0, 1, 2, 3, 4, 5, 6, 7, 8, 9, 10, 11, 12, 13, 14, 15, 16, 17, 18, 19, 20, 21]) (As := [.int (xs (i + (1 : Int32)).toNatClampNeg), .int (xs (i + (2 : Int32)).toNatClampNeg), .int (xs (i + (3 : Int32)).toNatClampNeg)]) (rest := []) ⟨hx, hb, hml, hown, hts⟩ (t_X6_delay h) (cwV 3 hts gL_law_X6_delay rfl rfl rfl (by decide +kernel) ⟨Nat.le_of_ble_eq_true rfl, Nat.le_of_ble_eq_true rfl⟩) ⟨hK, hE, fun _ h => h, hP, hD, hS, rfl, rfl, rfl, rfl, by decide⟩ ⟨0, 5, _, _, rfl, rfl, rfl⟩ rfl rfl hl.1 (Nat.le_of_ble_eq_true rfl) dL_law_420 ⟨hu.1, hu.2⟩ (fun r79 M80 H locs h hP hD hS => ?_)
  have hP : va_P (dC, dI) vwCl (wW cyI cyJ cyZ a q mb S74 o75 M80) H := hP
  have hD : va_D (fun q : Nat => s.heap.size ≤ q) (wW cyI cyJ cyZ a q mb S74 o75 M80) := hD
  refine W.cs (cells' := (uc + 3)) (slots' := (us + 18)) rfl rfl ?_
  refine lv_istore (lv' := [(6, .int r79), (5, .int r72), (0, .ref b), (1, .ref (a 0)), (2, .ref (mb 0)), (3, .ref q), (4, .int i)]) hx hb dL_law_423 hl (by decide) rfl (fun ls hl => ?_)
  refine lv_aload_n hx hb dL_law_425 rfl (lv_at hl 4 rfl) ?_
  refine xc_Vi (wf := wM cyI cyJ cyZ mb) (S := M80) (wr := wL cyI cyJ cyZ a q (S74, o75)) (isC := [22, 23, 24, 25, 26, 27, 28, 29, 30, 31, 32, 33, 34, 35, 36, 37, 38, 39, 40, 41, 42]) (isR := [0, 1, 2, 3, 4, 5, 6, 7, 8, 9, 10, 11, 12, 13, 14, 15, 16, 17, 18, 19, 20, 21]) (As := []) (rest := []) ⟨hx, hb, hml, hown, hts⟩ (t_X6_thrown h) (cwV 0 hts gL_law_X6_thrown rfl rfl rfl (by decide +kernel) ⟨Nat.le_of_ble_eq_true rfl, Nat.le_of_ble_eq_true rfl⟩) ⟨hK, hE, fun _ h => h, hP, hD, hS, rfl, rfl, rfl, rfl, by decide⟩ ⟨0, 5, _, _, rfl, rfl, rfl⟩ rfl rfl hl.1 (Nat.le_of_ble_eq_true rfl) dL_law_426 ⟨hu.1, hu.2⟩ (fun r81 M82 H locs h hP hD hS => ?_)
  obtain ⟨rfl, h⟩ := h
  have hP : va_P (dC, dI) vwCl (wW cyI cyJ cyZ a q mb S74 o75 M80) H := hP
  have hD : va_D (fun q : Nat => s.heap.size ≤ q) (wW cyI cyJ cyZ a q mb S74 o75 M80) := hD
  refine W.cs (cells' := (uc + 3)) (slots' := (us + 18)) rfl rfl ?_
  refine lv_iload hx hb dL_law_429 (lv_at hl 1 rfl) ?_
  refine lv_icmp_eq (tgt := 436) hx hb dL_law_431 (by decide) (fun c83 => ?_) (fun c83 => ?_)
  · have h := h.1 c83
    refine lv_iload hx hb dL_law_436 (lv_at hl 1 rfl) ?_
    refine lv_if_ne (tgt := 460) hx hb dL_law_438 (by decide) (fun c84 => ?_) (fun c84 => ?_)
    · have h := h.1 c84
      refine lv_goto (tgt := 1151) hx hb dL_law_460 (by decide) ?_
      obtain ⟨y85, ey85⟩ : ∃ z : Int32, z = (i + (4 : Int32)) := ⟨_, rfl⟩
      have h := h y85 ey85
      refine lv_iinc (v := y85) (lv' := [(4, .int y85), (6, .int r79), (5, .int r72), (0, .ref b), (1, .ref (a 0)), (2, .ref (mb 0)), (3, .ref q)]) hx hb dL_law_1151 hl (k := 6) rfl (by rw [ey85]; rfl) (by decide) rfl (fun ls hl => ?_)
      refine lv_goto (tgt := 23) hx hb dL_law_1154 (by decide) ?_
      exact k23 _ _ _ _ _ _ H locs ls hu h hP hD hS (lv_sub hl [3, 4, 5, 6, 0] rfl)
    · have h := h.2 c84
      refine lv_aload_n hx hb dL_law_441 rfl (lv_at hl 5 rfl) ?_
      refine lv_iconst (v := 0) hx hb dL_law_442 (by decide) ?_
      refine va_lald (D := (dC, dI)) hx hb hK hP 21 1 rfl rfl (by unfold vp_in; decide) dL_law_443 ?_
      refine lv_iload hx hb dL_law_444 (lv_at hl 0 rfl) ?_
      refine lv_if_eq (tgt := 453) hx hb dL_law_446 (by decide) (fun c86 => ?_) (fun c86 => ?_)
      · have h := h.1 c86
        refine lv_lconst (v := 0) hx hb dL_law_453 (by decide) ?_
        refine W.lcmp hx hb dL_law_454 ?_
        refine lv_if_eq (tgt := 460) hx hb dL_law_455 (by decide) (fun c87 => ?_) (fun c87 => ?_)
        · have h := h.1 c87
          refine lv_goto (tgt := 1151) hx hb dL_law_460 (by decide) ?_
          obtain ⟨y88, ey88⟩ : ∃ z : Int32, z = (i + (4 : Int32)) := ⟨_, rfl⟩
          have h := h y88 ey88
          refine lv_iinc (v := y88) (lv' := [(4, .int y88), (6, .int r79), (5, .int r72), (0, .ref b), (1, .ref (a 0)), (2, .ref (mb 0)), (3, .ref q)]) hx hb dL_law_1151 hl (k := 6) rfl (by rw [ey88]; rfl) (by decide) rfl (fun ls hl => ?_)
          refine lv_goto (tgt := 23) hx hb dL_law_1154 (by decide) ?_
          exact k23 _ _ _ _ _ _ H locs ls hu h hP hD hS (lv_sub hl [3, 4, 5, 6, 0] rfl)
        · have h := h.2 c87
          exact h.elim
      · have h := h.2 c86
        refine lv_lconst (v := 1) hx hb dL_law_449 (by decide) ?_
        refine lv_goto (tgt := 454) hx hb dL_law_450 (by decide) ?_
        refine W.lcmp hx hb dL_law_454 ?_
        refine lv_if_eq (tgt := 460) hx hb dL_law_455 (by decide) (fun c89 => ?_) (fun c89 => ?_)
        · have h := h.1 c89
          refine lv_goto (tgt := 1151) hx hb dL_law_460 (by decide) ?_
          obtain ⟨y90, ey90⟩ : ∃ z : Int32, z = (i + (4 : Int32)) := ⟨_, rfl⟩
          have h := h y90 ey90
          refine lv_iinc (v := y90) (lv' := [(4, .int y90), (6, .int r79), (5, .int r72), (0, .ref b), (1, .ref (a 0)), (2, .ref (mb 0)), (3, .ref q)]) hx hb dL_law_1151 hl (k := 6) rfl (by rw [ey90]; rfl) (by decide) rfl (fun ls hl => ?_)
          refine lv_goto (tgt := 23) hx hb dL_law_1154 (by decide) ?_
          exact k23 _ _ _ _ _ _ H locs ls hu h hP hD hS (lv_sub hl [3, 4, 5, 6, 0] rfl)
        · have h := h.2 c89
          exact h.elim
  · have h := h.2 c83
    exact h.elim
def p_law_463 (g23 : CS → (Nat → Int64) → MS → Int32 → Nat → Nat → Prop) (xs : Nat → Int32) (L : Nat) (S : CS) (o : Nat → Int64) (M : MS) (i : Int32) (uc us : Nat) : Prop := vp_in (i + (1 : Int32)) L ∧ (vp_in (i + (2 : Int32)) L ∧ ((uc + 2 ≤ 601024 ∧ us + 12 ≤ 7293034) ∧ (p_L_arrives S o (xs (i + (1 : Int32)).toNatClampNeg) (xs (i + (2 : Int32)).toNatClampNeg) (fun r93 u94 => ∀ (S95 : CS) (o96 : Nat → Int64), S95 = u94.1 → o96 = u94.2 → (vp_in (i + (1 : Int32)) L ∧ (vp_in (i + (2 : Int32)) L ∧ (p_X6_arrives M (xs (i + (1 : Int32)).toNatClampNeg) (xs (i + (2 : Int32)).toNatClampNeg) (fun r99 M100 => p_X6_thrown M100 (fun r101 => (r101 = r93 → ((¬ r93 = 0 → (∀ y105 : Int32, y105 = (i + (4 : Int32)) → (g23 S95 o96 M100 y105 (uc + 2) (us + 12)))) ∧ (r93 = 0 → ((r99 = 0 → (((lg_cmp (o96 (0 : Int32).toNatClampNeg) (0 : Int64)) = 0 → (∀ y108 : Int32, y108 = (i + (4 : Int32)) → (g23 S95 o96 M100 y108 (uc + 2) (us + 12)))) ∧ (¬ (lg_cmp (o96 (0 : Int32).toNatClampNeg) (0 : Int64)) = 0 → (False)))) ∧ (¬ r99 = 0 → (((lg_cmp (o96 (0 : Int32).toNatClampNeg) (1 : Int64)) = 0 → (∀ y110 : Int32, y110 = (i + (4 : Int32)) → (g23 S95 o96 M100 y110 (uc + 2) (us + 12)))) ∧ (¬ (lg_cmp (o96 (0 : Int32).toNatClampNeg) (1 : Int64)) = 0 → (False)))))))) ∧ (¬ r101 = r93 → (False)))))))))))
set_option maxHeartbeats 2000000 in
set_option maxRecDepth 100000 in
theorem t_law_463 {p : Program} {l : Launch} {e : Env} {s : State} {m : MethodId} {below : List Frame} {meth : Method} {c : Code} {dC : Nat → ClassId} {dI : Nat → Nat → Nat} {cyI cyJ cyZ : ClassId} {r : Nat → Nat} {a mb : Nat → Nat} {q b L : Nat} {xs : Nat → Int32} {g23 : CS → (Nat → Int64) → MS → Int32 → Nat → Nat → Prop} {S : CS} {o : Nat → Int64} {M : MS} {i : Int32} {uc us : Nat} (G : xLG p l s m meth c b L xs dC dI cyI cyJ cyZ r) (k23 : ∀ (S' : CS) (o' : Nat → Int64) (M' : MS) (i' : Int32) (uc' us' : Nat) (H : Heap) (locs : List Loc) (ls : Array Slot), (uc' ≤ 601024 ∧ us' ≤ 7293034) → g23 S' o' M' i' uc' us' → va_P (dC, dI) vwCl (wW cyI cyJ cyZ a q mb S' o' M') H → va_D (fun q : Nat => s.heap.size ≤ q) (wW cyI cyJ cyZ a q mb S' o' M') → va_S (fun q : Nat => s.heap.size ≤ q) s.heap H locs → lv_has ls 8 [(0, .ref b), (1, .ref (a 0)), (2, .ref (mb 0)), (3, .ref q), (4, .int i')] → W p l e room_1 s m #[Value.ref b] below meth c H locs uc' us' (lw_Z below #[Value.ref b] s) (F0 m 23 ls [])) (h : p_law_463 g23 xs L S o M i uc us) {H : Heap} {locs : List Loc} {ls : Array Slot} (hu : uc ≤ 601024 ∧ us ≤ 7293034) (hP : va_P (dC, dI) vwCl (wW cyI cyJ cyZ a q mb S o M) H) (hD : va_D (fun q : Nat => s.heap.size ≤ q) (wW cyI cyJ cyZ a q mb S o M)) (hS : va_S (fun q : Nat => s.heap.size ≤ q) s.heap H locs) (hl : lv_has ls 8 [(0, .ref b), (1, .ref (a 0)), (2, .ref (mb 0)), (3, .ref q), (4, .int i)]) : W p l e room_1 s m #[Value.ref b] below meth c H locs uc us (lw_Z below #[Value.ref b] s) (F0 m 463 ls []) := by
  obtain ⟨hx, hb, hml, hown, hts, hr, hlocks, hK, hE, hX, hbl, hl0⟩ := id G
  have hbA : ¬ (fun q : Nat => s.heap.size ≤ q) b := Nat.not_le.mpr hbl
  unfold p_law_463 at h
  refine lv_aload_n hx hb dL_law_463 rfl (lv_at hl 1 rfl) ?_
  refine lv_aload_n hx hb dL_law_464 rfl (lv_at hl 0 rfl) ?_
  refine lv_iload hx hb dL_law_465 (lv_at hl 4 rfl) ?_
  refine lv_iconst (v := 1) hx hb dL_law_467 (by decide) ?_
  refine lv_iadd hx hb dL_law_468 ?_
  obtain ⟨i91, h⟩ := h
  refine va_sld hx hb hX hbl hbA hS i91 dL_law_469 ?_
  refine lv_aload_n hx hb dL_law_470 rfl (lv_at hl 0 rfl) ?_
  refine lv_iload hx hb dL_law_471 (lv_at hl 4 rfl) ?_
  refine lv_iconst (v := 2) hx hb dL_law_473 (by decide) ?_
  refine lv_iadd hx hb dL_law_474 ?_
  obtain ⟨i92, h⟩ := h
  refine va_sld hx hb hX hbl hbA hS i92 dL_law_475 ?_
  refine lv_aload_n hx hb dL_law_476 rfl (lv_at hl 3 rfl) ?_
  obtain ⟨hu, h⟩ := h
  refine xt_SXi (wf := wL cyI cyJ cyZ a q) (S := (S, o)) (wr := wM cyI cyJ cyZ mb M) (isC := [0, 1, 2, 3, 4, 5, 6, 7, 8, 9, 10, 11, 12, 13, 14, 15, 16, 17, 18, 19, 20, 21]) (isR := [22, 23, 24, 25, 26, 27, 28, 29, 30, 31, 32, 33, 34, 35, 36, 37, 38, 39, 40, 41, 42]) (As := [.ref (a 0), .int (xs (i + (1 : Int32)).toNatClampNeg), .int (xs (i + (2 : Int32)).toNatClampNeg), .ref q]) (rest := []) ⟨hx, hb, hml, hown, hts⟩ (t_L_arrives hl0 h) (vx_cwSW 4 hts gL_law_L_arrives rfl rfl rfl (by decide +kernel) ⟨Nat.le_of_ble_eq_true rfl, Nat.le_of_ble_eq_true rfl⟩) ⟨hK, hE, fun _ h => h, hP, hD, hS, rfl, rfl, rfl, rfl, by decide⟩ rfl rfl hl.1 (Nat.le_of_ble_eq_true rfl) dL_law_477 ⟨hu.1, hu.2⟩ (fun E ce q9 u H locs h hP hD hS hce hcv hcl => h.elim) (fun r93 u94 H locs h hP hD hS => ?_)
  obtain ⟨S95, o96⟩ := u94
  have h := h S95 o96 rfl rfl
  have hP : va_P (dC, dI) vwCl (wW cyI cyJ cyZ a q mb S95 o96 M) H := hP.sub [21, 22, 23, 24, 25, 26, 27, 28, 29, 30, 31, 32, 33, 34, 35, 36, 37, 38, 39, 40, 41, 42, 0, 1, 2, 3, 4, 5, 6, 7, 8, 9, 10, 11, 12, 13, 14, 15, 16, 17, 18, 19, 20] rfl
  have hD : va_D (fun q : Nat => s.heap.size ≤ q) (wW cyI cyJ cyZ a q mb S95 o96 M) := hD.sub [21, 22, 23, 24, 25, 26, 27, 28, 29, 30, 31, 32, 33, 34, 35, 36, 37, 38, 39, 40, 41, 42, 0, 1, 2, 3, 4, 5, 6, 7, 8, 9, 10, 11, 12, 13, 14, 15, 16, 17, 18, 19, 20] (by decide) rfl
  refine lv_istore (lv' := [(5, .int r93), (0, .ref b), (1, .ref (a 0)), (2, .ref (mb 0)), (3, .ref q), (4, .int i)]) hx hb dL_law_480 hl (by decide) rfl (fun ls hl => ?_)
  refine lv_aload_n hx hb dL_law_482 rfl (lv_at hl 3 rfl) ?_
  refine lv_aload_n hx hb dL_law_483 rfl (lv_at hl 1 rfl) ?_
  refine lv_iload hx hb dL_law_484 (lv_at hl 5 rfl) ?_
  refine lv_iconst (v := 1) hx hb dL_law_486 (by decide) ?_
  refine lv_iadd hx hb dL_law_487 ?_
  obtain ⟨i97, h⟩ := h
  refine va_sld hx hb hX hbl hbA hS i97 dL_law_488 ?_
  refine lv_aload_n hx hb dL_law_489 rfl (lv_at hl 1 rfl) ?_
  refine lv_iload hx hb dL_law_490 (lv_at hl 5 rfl) ?_
  refine lv_iconst (v := 2) hx hb dL_law_492 (by decide) ?_
  refine lv_iadd hx hb dL_law_493 ?_
  obtain ⟨i98, h⟩ := h
  refine va_sld hx hb hX hbl hbA hS i98 dL_law_494 ?_
  refine xc_Vi (wf := wM cyI cyJ cyZ mb) (S := M) (wr := wL cyI cyJ cyZ a q (S95, o96)) (isC := [22, 23, 24, 25, 26, 27, 28, 29, 30, 31, 32, 33, 34, 35, 36, 37, 38, 39, 40, 41, 42]) (isR := [0, 1, 2, 3, 4, 5, 6, 7, 8, 9, 10, 11, 12, 13, 14, 15, 16, 17, 18, 19, 20, 21]) (As := [.int (xs (i + (1 : Int32)).toNatClampNeg), .int (xs (i + (2 : Int32)).toNatClampNeg)]) (rest := []) ⟨hx, hb, hml, hown, hts⟩ (t_X6_arrives h) (cwV 2 hts gL_law_X6_arrives rfl rfl rfl (by decide +kernel) ⟨Nat.le_of_ble_eq_true rfl, Nat.le_of_ble_eq_true rfl⟩) ⟨hK, hE, fun _ h => h, hP, hD, hS, rfl, rfl, rfl, rfl, by decide⟩ ⟨0, 5, _, _, rfl, rfl, rfl⟩ rfl rfl hl.1 (Nat.le_of_ble_eq_true rfl) dL_law_495 ⟨hu.1, hu.2⟩ (fun r99 M100 H locs h hP hD hS => ?_)
  have hP : va_P (dC, dI) vwCl (wW cyI cyJ cyZ a q mb S95 o96 M100) H := hP
  have hD : va_D (fun q : Nat => s.heap.size ≤ q) (wW cyI cyJ cyZ a q mb S95 o96 M100) := hD
  refine W.cs (cells' := (uc + 2)) (slots' := (us + 12)) rfl rfl ?_
  refine lv_istore (lv' := [(6, .int r99), (5, .int r93), (0, .ref b), (1, .ref (a 0)), (2, .ref (mb 0)), (3, .ref q), (4, .int i)]) hx hb dL_law_498 hl (by decide) rfl (fun ls hl => ?_)
  refine lv_aload_n hx hb dL_law_500 rfl (lv_at hl 4 rfl) ?_
  refine xc_Vi (wf := wM cyI cyJ cyZ mb) (S := M100) (wr := wL cyI cyJ cyZ a q (S95, o96)) (isC := [22, 23, 24, 25, 26, 27, 28, 29, 30, 31, 32, 33, 34, 35, 36, 37, 38, 39, 40, 41, 42]) (isR := [0, 1, 2, 3, 4, 5, 6, 7, 8, 9, 10, 11, 12, 13, 14, 15, 16, 17, 18, 19, 20, 21]) (As := []) (rest := []) ⟨hx, hb, hml, hown, hts⟩ (t_X6_thrown h) (cwV 0 hts gL_law_X6_thrown rfl rfl rfl (by decide +kernel) ⟨Nat.le_of_ble_eq_true rfl, Nat.le_of_ble_eq_true rfl⟩) ⟨hK, hE, fun _ h => h, hP, hD, hS, rfl, rfl, rfl, rfl, by decide⟩ ⟨0, 5, _, _, rfl, rfl, rfl⟩ rfl rfl hl.1 (Nat.le_of_ble_eq_true rfl) dL_law_501 ⟨hu.1, hu.2⟩ (fun r101 M102 H locs h hP hD hS => ?_)
  obtain ⟨rfl, h⟩ := h
  have hP : va_P (dC, dI) vwCl (wW cyI cyJ cyZ a q mb S95 o96 M100) H := hP
  have hD : va_D (fun q : Nat => s.heap.size ≤ q) (wW cyI cyJ cyZ a q mb S95 o96 M100) := hD
  refine W.cs (cells' := (uc + 2)) (slots' := (us + 12)) rfl rfl ?_
  refine lv_iload hx hb dL_law_504 (lv_at hl 1 rfl) ?_
  refine lv_icmp_eq (tgt := 511) hx hb dL_law_506 (by decide) (fun c103 => ?_) (fun c103 => ?_)
  · have h := h.1 c103
    refine lv_iload hx hb dL_law_511 (lv_at hl 1 rfl) ?_
    refine lv_if_ne (tgt := 535) hx hb dL_law_513 (by decide) (fun c104 => ?_) (fun c104 => ?_)
    · have h := h.1 c104
      refine lv_goto (tgt := 1151) hx hb dL_law_535 (by decide) ?_
      obtain ⟨y105, ey105⟩ : ∃ z : Int32, z = (i + (4 : Int32)) := ⟨_, rfl⟩
      have h := h y105 ey105
      refine lv_iinc (v := y105) (lv' := [(4, .int y105), (6, .int r99), (5, .int r93), (0, .ref b), (1, .ref (a 0)), (2, .ref (mb 0)), (3, .ref q)]) hx hb dL_law_1151 hl (k := 6) rfl (by rw [ey105]; rfl) (by decide) rfl (fun ls hl => ?_)
      refine lv_goto (tgt := 23) hx hb dL_law_1154 (by decide) ?_
      exact k23 _ _ _ _ _ _ H locs ls hu h hP hD hS (lv_sub hl [3, 4, 5, 6, 0] rfl)
    · have h := h.2 c104
      refine lv_aload_n hx hb dL_law_516 rfl (lv_at hl 5 rfl) ?_
      refine lv_iconst (v := 0) hx hb dL_law_517 (by decide) ?_
      refine va_lald (D := (dC, dI)) hx hb hK hP 21 1 rfl rfl (by unfold vp_in; decide) dL_law_518 ?_
      refine lv_iload hx hb dL_law_519 (lv_at hl 0 rfl) ?_
      refine lv_if_eq (tgt := 528) hx hb dL_law_521 (by decide) (fun c106 => ?_) (fun c106 => ?_)
      · have h := h.1 c106
        refine lv_lconst (v := 0) hx hb dL_law_528 (by decide) ?_
        refine W.lcmp hx hb dL_law_529 ?_
        refine lv_if_eq (tgt := 535) hx hb dL_law_530 (by decide) (fun c107 => ?_) (fun c107 => ?_)
        · have h := h.1 c107
          refine lv_goto (tgt := 1151) hx hb dL_law_535 (by decide) ?_
          obtain ⟨y108, ey108⟩ : ∃ z : Int32, z = (i + (4 : Int32)) := ⟨_, rfl⟩
          have h := h y108 ey108
          refine lv_iinc (v := y108) (lv' := [(4, .int y108), (6, .int r99), (5, .int r93), (0, .ref b), (1, .ref (a 0)), (2, .ref (mb 0)), (3, .ref q)]) hx hb dL_law_1151 hl (k := 6) rfl (by rw [ey108]; rfl) (by decide) rfl (fun ls hl => ?_)
          refine lv_goto (tgt := 23) hx hb dL_law_1154 (by decide) ?_
          exact k23 _ _ _ _ _ _ H locs ls hu h hP hD hS (lv_sub hl [3, 4, 5, 6, 0] rfl)
        · have h := h.2 c107
          exact h.elim
      · have h := h.2 c106
        refine lv_lconst (v := 1) hx hb dL_law_524 (by decide) ?_
        refine lv_goto (tgt := 529) hx hb dL_law_525 (by decide) ?_
        refine W.lcmp hx hb dL_law_529 ?_
        refine lv_if_eq (tgt := 535) hx hb dL_law_530 (by decide) (fun c109 => ?_) (fun c109 => ?_)
        · have h := h.1 c109
          refine lv_goto (tgt := 1151) hx hb dL_law_535 (by decide) ?_
          obtain ⟨y110, ey110⟩ : ∃ z : Int32, z = (i + (4 : Int32)) := ⟨_, rfl⟩
          have h := h y110 ey110
          refine lv_iinc (v := y110) (lv' := [(4, .int y110), (6, .int r99), (5, .int r93), (0, .ref b), (1, .ref (a 0)), (2, .ref (mb 0)), (3, .ref q)]) hx hb dL_law_1151 hl (k := 6) rfl (by rw [ey110]; rfl) (by decide) rfl (fun ls hl => ?_)
          refine lv_goto (tgt := 23) hx hb dL_law_1154 (by decide) ?_
          exact k23 _ _ _ _ _ _ H locs ls hu h hP hD hS (lv_sub hl [3, 4, 5, 6, 0] rfl)
        · have h := h.2 c109
          exact h.elim
  · have h := h.2 c103
    exact h.elim
