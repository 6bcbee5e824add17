def p_law_866 (g23 : CS → (Nat → Int64) → MS → Int32 → Nat → Nat → Prop) (xs : Nat → Int32) (L : Nat) (S : CS) (o : Nat → Int64) (M : MS) (i : Int32) (uc us : Nat) : Prop := vp_in (i + (1 : Int32)) L ∧ ((uc + 1 ≤ 601024 ∧ us + 6 ≤ 7293034) ∧ (p_L_wanted S o (xs (i + (1 : Int32)).toNatClampNeg) (fun r2 u3 => ∀ (S4 : CS) (o5 : Nat → Int64), S4 = u3.1 → o5 = u3.2 → (vp_in (i + (1 : Int32)) L ∧ (p_X6_wanted M (xs (i + (1 : Int32)).toNatClampNeg) (fun r7 M8 => p_X6_thrown M8 (fun r9 => (r9 = r2 → ((¬ r2 = 0 → (∀ y13 : Int32, y13 = (i + (4 : Int32)) → (g23 S4 o5 M8 y13 (uc + 1) (us + 6)))) ∧ (r2 = 0 → (((lg_cmp (o5 (0 : Int32).toNatClampNeg) (r7.toInt64)) = 0 → (∀ y15 : Int32, y15 = (i + (4 : Int32)) → (g23 S4 o5 M8 y15 (uc + 1) (us + 6)))) ∧ (¬ (lg_cmp (o5 (0 : Int32).toNatClampNeg) (r7.toInt64)) = 0 → (False)))))) ∧ (¬ r9 = r2 → (False)))))))))
set_option maxHeartbeats 2000000 in
set_option maxRecDepth 100000 in
theorem t_law_866 {p : Program} {l : Launch} {e : Env} {s : State} {m : MethodId} {below : List Frame} {meth : Method} {c : Code} {dC : Nat → ClassId} {dI : Nat → Nat → Nat} {cyI cyJ cyZ : ClassId} {r : Nat → Nat} {a mb : Nat → Nat} {q b L : Nat} {xs : Nat → Int32} {g23 : CS → (Nat → Int64) → MS → Int32 → Nat → Nat → Prop} {S : CS} {o : Nat → Int64} {M : MS} {i : Int32} {uc us : Nat} (G : xLG p l s m meth c b L xs dC dI cyI cyJ cyZ r) (k23 : ∀ (S' : CS) (o' : Nat → Int64) (M' : MS) (i' : Int32) (uc' us' : Nat) (H : Heap) (locs : List Loc) (ls : Array Slot), (uc' ≤ 601024 ∧ us' ≤ 7293034) → g23 S' o' M' i' uc' us' → va_P (dC, dI) vwCl (wW cyI cyJ cyZ a q mb S' o' M') H → va_D (fun q : Nat => s.heap.size ≤ q) (wW cyI cyJ cyZ a q mb S' o' M') → va_S (fun q : Nat => s.heap.size ≤ q) s.heap H locs → lv_has ls 8 [(0, .ref b), (1, .ref (a 0)), (2, .ref (mb 0)), (3, .ref q), (4, .int i')] → W p l e room_1 s m #[Value.ref b] below meth c H locs uc' us' (lw_Z below #[Value.ref b] s) (F0 m 23 ls [])) (h : p_law_866 g23 xs L S o M i uc us) {H : Heap} {locs : List Loc} {ls : Array Slot} (hu : uc ≤ 601024 ∧ us ≤ 7293034) (hP : va_P (dC, dI) vwCl (wW cyI cyJ cyZ a q mb S o M) H) (hD : va_D (fun q : Nat => s.heap.size ≤ q) (wW cyI cyJ cyZ a q mb S o M)) (hS : va_S (fun q : Nat => s.heap.size ≤ q) s.heap H locs) (hl : lv_has ls 8 [(0, .ref b), (1, .ref (a 0)), (2, .ref (mb 0)), (3, .ref q), (4, .int i)]) : W p l e room_1 s m #[Value.ref b] below meth c H locs uc us (lw_Z below #[Value.ref b] s) (F0 m 866 ls []) := by
  obtain ⟨hx, hb, hml, hown, hts, hr, hlocks, hK, hE, hX, hbl, hl0⟩ := id G
  have hbA : ¬ (fun q : Nat => s.heap.size ≤ q) b := Nat.not_le.mpr hbl
  unfold p_law_866 at h
  refine lv_aload_n hx hb dL_law_866 rfl (lv_at hl 1 rfl) ?_
  refine lv_aload_n hx hb dL_law_867 rfl (lv_at hl 0 rfl) ?_
  refine lv_iload hx hb dL_law_868 (lv_at hl 4 rfl) ?_
  refine lv_iconst (v := 1) hx hb dL_law_870 (by decide) ?_
  refine lv_iadd hx hb dL_law_871 ?_
  obtain ⟨i1, h⟩ := h
  refine va_sld hx hb hX hbl hbA hS i1 dL_law_872 ?_
  refine lv_aload_n hx hb dL_law_873 rfl (lv_at hl 3 rfl) ?_
  obtain ⟨hu, h⟩ := h
  refine xt_SXi (wf := wL cyI cyJ cyZ a q) (S := (S, o)) (wr := wM cyI cyJ cyZ mb M) (isC := [0, 1, 2, 3, 4, 5, 6, 7, 8, 9, 10, 11, 12, 13, 14, 15, 16, 17, 18, 19, 20, 21]) (isR := [22, 23, 24, 25, 26, 27, 28, 29, 30, 31, 32, 33, 34, 35, 36, 37, 38, 39, 40, 41, 42]) (As := [.ref (a 0), .int (xs (i + (1 : Int32)).toNatClampNeg), .ref q]) (rest := []) ⟨hx, hb, hml, hown, hts⟩ (t_L_wanted hl0 h) (vx_cwSW 3 hts gL_law_L_wanted rfl rfl rfl (by decide +kernel) ⟨Nat.le_of_ble_eq_true rfl, Nat.le_of_ble_eq_true rfl⟩) ⟨hK, hE, fun _ h => h, hP, hD, hS, rfl, rfl, rfl, rfl, by decide⟩ rfl rfl hl.1 (Nat.le_of_ble_eq_true rfl) dL_law_874 ⟨hu.1, hu.2⟩ (fun E ce q9 u H locs h hP hD hS hce hcv hcl => h.elim) (fun r2 u3 H locs h hP hD hS => ?_)
  obtain ⟨S4, o5⟩ := u3
  have h := h S4 o5 rfl rfl
  have hP : va_P (dC, dI) vwCl (wW cyI cyJ cyZ a q mb S4 o5 M) H := hP.sub [21, 22, 23, 24, 25, 26, 27, 28, 29, 30, 31, 32, 33, 34, 35, 36, 37, 38, 39, 40, 41, 42, 0, 1, 2, 3, 4, 5, 6, 7, 8, 9, 10, 11, 12, 13, 14, 15, 16, 17, 18, 19, 20] rfl
  have hD : va_D (fun q : Nat => s.heap.size ≤ q) (wW cyI cyJ cyZ a q mb S4 o5 M) := hD.sub [21, 22, 23, 24, 25, 26, 27, 28, 29, 30, 31, 32, 33, 34, 35, 36, 37, 38, 39, 40, 41, 42, 0, 1, 2, 3, 4, 5, 6, 7, 8, 9, 10, 11, 12, 13, 14, 15, 16, 17, 18, 19, 20] (by decide) rfl
  refine lv_istore (lv' := [(5, .int r2), (0, .ref b), (1, .ref (a 0)), (2, .ref (mb 0)), (3, .ref q), (4, .int i)]) hx hb dL_law_877 hl (by decide) rfl (fun ls hl => ?_)
  refine lv_aload_n hx hb dL_law_879 rfl (lv_at hl 3 rfl) ?_
  refine lv_aload_n hx hb dL_law_880 rfl (lv_at hl 1 rfl) ?_
  refine lv_iload hx hb dL_law_881 (lv_at hl 5 rfl) ?_
  refine lv_iconst (v := 1) hx hb dL_law_883 (by decide) ?_
  refine lv_iadd hx hb dL_law_884 ?_
  obtain ⟨i6, h⟩ := h
  refine va_sld hx hb hX hbl hbA hS i6 dL_law_885 ?_
  refine xc_Vi (wf := wM cyI cyJ cyZ mb) (S := M) (wr := wL cyI cyJ cyZ a q (S4, o5)) (isC := [22, 23, 24, 25, 26, 27, 28, 29, 30, 31, 32, 33, 34, 35, 36, 37, 38, 39, 40, 41, 42]) (isR := [0, 1, 2, 3, 4, 5, 6, 7, 8, 9, 10, 11, 12, 13, 14, 15, 16, 17, 18, 19, 20, 21]) (As := [.int (xs (i + (1 : Int32)).toNatClampNeg)]) (rest := []) ⟨hx, hb, hml, hown, hts⟩ (t_X6_wanted h) (cwV 1 hts gL_law_X6_wanted rfl rfl rfl (by decide +kernel) ⟨Nat.le_of_ble_eq_true rfl, Nat.le_of_ble_eq_true rfl⟩) ⟨hK, hE, fun _ h => h, hP, hD, hS, rfl, rfl, rfl, rfl, by decide⟩ ⟨0, 5, _, _, rfl, rfl, rfl⟩ rfl rfl hl.1 (Nat.le_of_ble_eq_true rfl) dL_law_886 ⟨hu.1, hu.2⟩ (fun r7 M8 H locs h hP hD hS => ?_)
  have hP : va_P (dC, dI) vwCl (wW cyI cyJ cyZ a q mb S4 o5 M8) H := hP
  have hD : va_D (fun q : Nat => s.heap.size ≤ q) (wW cyI cyJ cyZ a q mb S4 o5 M8) := hD
  refine W.cs (cells' := (uc + 1)) (slots' := (us + 6)) rfl rfl ?_
  refine lv_istore (lv' := [(6, .int r7), (5, .int r2), (0, .ref b), (1, .ref (a 0)), (2, .ref (mb 0)), (3, .ref q), (4, .int i)]) hx hb dL_law_889 hl (by decide) rfl (fun ls hl => ?_)
  refine lv_aload_n hx hb dL_law_891 rfl (lv_at hl 4 rfl) ?_
  refine xc_Vi (wf := wM cyI cyJ cyZ mb) (S := M8) (wr := wL cyI cyJ cyZ a q (S4, o5)) (isC := [22, 23, 24, 25, 26, 27, 28, 29, 30, 31, 32, 33, 34, 35, 36, 37, 38, 39, 40, 41, 42]) (isR := [0, 1, 2, 3, 4, 5, 6, 7, 8, 9, 10, 11, 12, 13, 14, 15, 16, 17, 18, 19, 20, 21]) (As := []) (rest := []) ⟨hx, hb, hml, hown, hts⟩ (t_X6_thrown h) (cwV 0 hts gL_law_X6_thrown rfl rfl rfl (by decide +kernel) ⟨Nat.le_of_ble_eq_true rfl, Nat.le_of_ble_eq_true rfl⟩) ⟨hK, hE, fun _ h => h, hP, hD, hS, rfl, rfl, rfl, rfl, by decide⟩ ⟨0, 5, _, _, rfl, rfl, rfl⟩ rfl rfl hl.1 (Nat.le_of_ble_eq_true rfl) dL_law_892 ⟨hu.1, hu.2⟩ (fun r9 M10 H locs h hP hD hS => ?_)
  obtain ⟨rfl, h⟩ := h
  have hP : va_P (dC, dI) vwCl (wW cyI cyJ cyZ a q mb S4 o5 M8) H := hP
  have hD : va_D (fun q : Nat => s.heap.size ≤ q) (wW cyI cyJ cyZ a q mb S4 o5 M8) := hD
  refine W.cs (cells' := (uc + 1)) (slots' := (us + 6)) rfl rfl ?_
  refine lv_iload hx hb dL_law_895 (lv_at hl 1 rfl) ?_
  refine lv_icmp_eq (tgt := 902) hx hb dL_law_897 (by decide) (fun c11 => ?_) (fun c11 => ?_)
  · have h := h.1 c11
    refine lv_iload hx hb dL_law_902 (lv_at hl 1 rfl) ?_
    refine lv_if_ne (tgt := 919) hx hb dL_law_904 (by decide) (fun c12 => ?_) (fun c12 => ?_)
    · have h := h.1 c12
      refine lv_goto (tgt := 1151) hx hb dL_law_919 (by decide) ?_
      obtain ⟨y13, ey13⟩ : ∃ z : Int32, z = (i + (4 : Int32)) := ⟨_, rfl⟩
      have h := h y13 ey13
      refine lv_iinc (v := y13) (lv' := [(4, .int y13), (6, .int r7), (5, .int r2), (0, .ref b), (1, .ref (a 0)), (2, .ref (mb 0)), (3, .ref q)]) hx hb dL_law_1151 hl (k := 6) rfl (by rw [ey13]; rfl) (by decide) rfl (fun ls hl => ?_)
      refine lv_goto (tgt := 23) hx hb dL_law_1154 (by decide) ?_
      exact k23 _ _ _ _ _ _ H locs ls hu h hP hD hS (lv_sub hl [3, 4, 5, 6, 0] rfl)
    · have h := h.2 c12
      refine lv_aload_n hx hb dL_law_907 rfl (lv_at hl 5 rfl) ?_
      refine lv_iconst (v := 0) hx hb dL_law_908 (by decide) ?_
      refine va_lald (D := (dC, dI)) hx hb hK hP 21 1 rfl rfl (by unfold vp_in; decide) dL_law_909 ?_
      refine lv_iload hx hb dL_law_910 (lv_at hl 0 rfl) ?_
      refine lv_i2l (v := r7.toInt64) hx hb dL_law_912 rfl ?_
      refine W.lcmp hx hb dL_law_913 ?_
      refine lv_if_eq (tgt := 919) hx hb dL_law_914 (by decide) (fun c14 => ?_) (fun c14 => ?_)
      · have h := h.1 c14
        refine lv_goto (tgt := 1151) hx hb dL_law_919 (by decide) ?_
        obtain ⟨y15, ey15⟩ : ∃ z : Int32, z = (i + (4 : Int32)) := ⟨_, rfl⟩
        have h := h y15 ey15
        refine lv_iinc (v := y15) (lv' := [(4, .int y15), (6, .int r7), (5, .int r2), (0, .ref b), (1, .ref (a 0)), (2, .ref (mb 0)), (3, .ref q)]) hx hb dL_law_1151 hl (k := 6) rfl (by rw [ey15]; rfl) (by decide) rfl (fun ls hl => ?_)
        refine lv_goto (tgt := 23) hx hb dL_law_1154 (by decide) ?_
        exact k23 _ _ _ _ _ _ H locs ls hu h hP hD hS (lv_sub hl [3, 4, 5, 6, 0] rfl)
      · have h := h.2 c14
        exact h.elim
  · have h := h.2 c11
    exact h.elim
def p_law_922 (g23 : CS → (Nat → Int64) → MS → Int32 → Nat → Nat → Prop) (xs : Nat → Int32) (L : Nat) (S : CS) (o : Nat → Int64) (M : MS) (i : Int32) (uc us : Nat) : Prop := p_X5_area S (fun r16 S17 => p_X6_area M (fun r18 M19 => (r16 = r18 → (∀ y21 : Int32, y21 = (i + (4 : Int32)) → (g23 S17 o M19 y21 uc us))) ∧ (¬ r16 = r18 → (False))))
set_option maxHeartbeats 2000000 in
set_option maxRecDepth 100000 in
theorem t_law_922 {p : Program} {l : Launch} {e : Env} {s : State} {m : MethodId} {below : List Frame} {meth : Method} {c : Code} {dC : Nat → ClassId} {dI : Nat → Nat → Nat} {cyI cyJ cyZ : ClassId} {r : Nat → Nat} {a mb : Nat → Nat} {q b L : Nat} {xs : Nat → Int32} {g23 : CS → (Nat → Int64) → MS → Int32 → Nat → Nat → Prop} {S : CS} {o : Nat → Int64} {M : MS} {i : Int32} {uc us : Nat} (G : xLG p l s m meth c b L xs dC dI cyI cyJ cyZ r) (k23 : ∀ (S' : CS) (o' : Nat → Int64) (M' : MS) (i' : Int32) (uc' us' : Nat) (H : Heap) (locs : List Loc) (ls : Array Slot), (uc' ≤ 601024 ∧ us' ≤ 7293034) → g23 S' o' M' i' uc' us' → va_P (dC, dI) vwCl (wW cyI cyJ cyZ a q mb S' o' M') H → va_D (fun q : Nat => s.heap.size ≤ q) (wW cyI cyJ cyZ a q mb S' o' M') → va_S (fun q : Nat => s.heap.size ≤ q) s.heap H locs → lv_has ls 8 [(0, .ref b), (1, .ref (a 0)), (2, .ref (mb 0)), (3, .ref q), (4, .int i')] → W p l e room_1 s m #[Value.ref b] below meth c H locs uc' us' (lw_Z below #[Value.ref b] s) (F0 m 23 ls [])) (h : p_law_922 g23 xs L S o M i uc us) {H : Heap} {locs : List Loc} {ls : Array Slot} (hu : uc ≤ 601024 ∧ us ≤ 7293034) (hP : va_P (dC, dI) vwCl (wW cyI cyJ cyZ a q mb S o M) H) (hD : va_D (fun q : Nat => s.heap.size ≤ q) (wW cyI cyJ cyZ a q mb S o M)) (hS : va_S (fun q : Nat => s.heap.size ≤ q) s.heap H locs) (hl : lv_has ls 8 [(0, .ref b), (1, .ref (a 0)), (2, .ref (mb 0)), (3, .ref q), (4, .int i)]) : W p l e room_1 s m #[Value.ref b] below meth c H locs uc us (lw_Z below #[Value.ref b] s) (F0 m 922 ls []) := by
  obtain ⟨hx, hb, hml, hown, hts, hr, hlocks, hK, hE, hX, hbl, hl0⟩ := id G
  have hbA : ¬ (fun q : Nat => s.heap.size ≤ q) b := Nat.not_le.mpr hbl
  unfold p_law_922 at h
  refine lv_aload_n hx hb dL_law_922 rfl (lv_at hl 1 rfl) ?_
  refine xc_Vi (wf := wC cyI cyJ cyZ a) (S := S) (wr := ([(q, .inl (cyJ, 1, .inr (.inl o)))] ++ wM cyI cyJ cyZ mb M)) (isC := [0, 1, 2, 3, 4, 5, 6, 7, 8, 9, 10, 11, 12, 13, 14, 15, 16, 17, 18, 19, 20]) (isR := [21, 22, 23, 24, 25, 26, 27, 28, 29, 30, 31, 32, 33, 34, 35, 36, 37, 38, 39, 40, 41, 42]) (As := []) (rest := []) ⟨hx, hb, hml, hown, hts⟩ (t_X5_area h) (cwV 0 hts gL_law_X5_area rfl rfl rfl (by decide +kernel) ⟨Nat.le_of_ble_eq_true rfl, Nat.le_of_ble_eq_true rfl⟩) ⟨hK, hE, fun _ h => h, hP, hD, hS, rfl, rfl, rfl, rfl, by decide⟩ ⟨0, 4, _, _, rfl, rfl, rfl⟩ rfl rfl hl.1 (Nat.le_of_ble_eq_true rfl) dL_law_923 ⟨hu.1, hu.2⟩ (fun r16 S17 H locs h hP hD hS => ?_)
  have hP : va_P (dC, dI) vwCl (wW cyI cyJ cyZ a q mb S17 o M) H := hP.sub [22, 23, 24, 25, 26, 27, 28, 29, 30, 31, 32, 33, 34, 35, 36, 37, 38, 39, 40, 41, 42, 0, 1, 2, 3, 4, 5, 6, 7, 8, 9, 10, 11, 12, 13, 14, 15, 16, 17, 18, 19, 20, 21] rfl
  have hD : va_D (fun q : Nat => s.heap.size ≤ q) (wW cyI cyJ cyZ a q mb S17 o M) := hD.sub [22, 23, 24, 25, 26, 27, 28, 29, 30, 31, 32, 33, 34, 35, 36, 37, 38, 39, 40, 41, 42, 0, 1, 2, 3, 4, 5, 6, 7, 8, 9, 10, 11, 12, 13, 14, 15, 16, 17, 18, 19, 20, 21] (by decide) rfl
  refine W.cs (cells' := uc) (slots' := us) rfl rfl ?_
  refine lv_aload_n hx hb dL_law_926 rfl (lv_at hl 2 rfl) ?_
  refine xc_Vi (wf := wM cyI cyJ cyZ mb) (S := M) (wr := wL cyI cyJ cyZ a q (S17, o)) (isC := [22, 23, 24, 25, 26, 27, 28, 29, 30, 31, 32, 33, 34, 35, 36, 37, 38, 39, 40, 41, 42]) (isR := [0, 1, 2, 3, 4, 5, 6, 7, 8, 9, 10, 11, 12, 13, 14, 15, 16, 17, 18, 19, 20, 21]) (As := []) (rest := [.int r16]) ⟨hx, hb, hml, hown, hts⟩ (t_X6_area h) (cwV 0 hts gL_law_X6_area rfl rfl rfl (by decide +kernel) ⟨Nat.le_of_ble_eq_true rfl, Nat.le_of_ble_eq_true rfl⟩) ⟨hK, hE, fun _ h => h, hP, hD, hS, rfl, rfl, rfl, rfl, by decide⟩ ⟨0, 5, _, _, rfl, rfl, rfl⟩ rfl rfl hl.1 (Nat.le_of_ble_eq_true rfl) dL_law_927 ⟨hu.1, hu.2⟩ (fun r18 M19 H locs h hP hD hS => ?_)
  have hP : va_P (dC, dI) vwCl (wW cyI cyJ cyZ a q mb S17 o M19) H := hP
  have hD : va_D (fun q : Nat => s.heap.size ≤ q) (wW cyI cyJ cyZ a q mb S17 o M19) := hD
  refine W.cs (cells' := uc) (slots' := us) rfl rfl ?_
  refine lv_icmp_eq (tgt := 1151) hx hb dL_law_930 (by decide) (fun c20 => ?_) (fun c20 => ?_)
  · have h := h.1 c20
    obtain ⟨y21, ey21⟩ : ∃ z : Int32, z = (i + (4 : Int32)) := ⟨_, rfl⟩
    have h := h y21 ey21
    refine lv_iinc (v := y21) (lv' := [(4, .int y21), (0, .ref b), (1, .ref (a 0)), (2, .ref (mb 0)), (3, .ref q)]) hx hb dL_law_1151 hl (k := 4) rfl (by rw [ey21]; rfl) (by decide) rfl (fun ls hl => ?_)
    refine lv_goto (tgt := 23) hx hb dL_law_1154 (by decide) ?_
    exact k23 _ _ _ _ _ _ H locs ls hu h hP hD hS (lv_sub hl [1, 2, 3, 4, 0] rfl)
  · have h := h.2 c20
    exact h.elim
def p_law_935 (g23 : CS → (Nat → Int64) → MS → Int32 → Nat → Nat → Prop) (xs : Nat → Int32) (L : Nat) (S : CS) (o : Nat → Int64) (M : MS) (i : Int32) (uc us : Nat) : Prop := p_X5_worst S (fun r22 S23 => p_X6_worst M (fun r24 M25 => (r22 = r24 → (∀ y27 : Int32, y27 = (i + (4 : Int32)) → (g23 S23 o M25 y27 uc us))) ∧ (¬ r22 = r24 → (False))))
set_option maxHeartbeats 2000000 in
set_option maxRecDepth 100000 in
theorem t_law_935 {p : Program} {l : Launch} {e : Env} {s : State} {m : MethodId} {below : List Frame} {meth : Method} {c : Code} {dC : Nat → ClassId} {dI : Nat → Nat → Nat} {cyI cyJ cyZ : ClassId} {r : Nat → Nat} {a mb : Nat → Nat} {q b L : Nat} {xs : Nat → Int32} {g23 : CS → (Nat → Int64) → MS → Int32 → Nat → Nat → Prop} {S : CS} {o : Nat → Int64} {M : MS} {i : Int32} {uc us : Nat} (G : xLG p l s m meth c b L xs dC dI cyI cyJ cyZ r) (k23 : ∀ (S' : CS) (o' : Nat → Int64) (M' : MS) (i' : Int32) (uc' us' : Nat) (H : Heap) (locs : List Loc) (ls : Array Slot), (uc' ≤ 601024 ∧ us' ≤ 7293034) → g23 S' o' M' i' uc' us' → va_P (dC, dI) vwCl (wW cyI cyJ cyZ a q mb S' o' M') H → va_D (fun q : Nat => s.heap.size ≤ q) (wW cyI cyJ cyZ a q mb S' o' M') → va_S (fun q : Nat => s.heap.size ≤ q) s.heap H locs → lv_has ls 8 [(0, .ref b), (1, .ref (a 0)), (2, .ref (mb 0)), (3, .ref q), (4, .int i')] → W p l e room_1 s m #[Value.ref b] below meth c H locs uc' us' (lw_Z below #[Value.ref b] s) (F0 m 23 ls [])) (h : p_law_935 g23 xs L S o M i uc us) {H : Heap} {locs : List Loc} {ls : Array Slot} (hu : uc ≤ 601024 ∧ us ≤ 7293034) (hP : va_P (dC, dI) vwCl (wW cyI cyJ cyZ a q mb S o M) H) (hD : va_D (fun q : Nat => s.heap.size ≤ q) (wW cyI cyJ cyZ a q mb S o M)) (hS : va_S (fun q : Nat => s.heap.size ≤ q) s.heap H locs) (hl : lv_has ls 8 [(0, .ref b), (1, .ref (a 0)), (2, .ref (mb 0)), (3, .ref q), (4, .int i)]) : W p l e room_1 s m #[Value.ref b] below meth c H locs uc us (lw_Z below #[Value.ref b] s) (F0 m 935 ls []) := by
  obtain ⟨hx, hb, hml, hown, hts, hr, hlocks, hK, hE, hX, hbl, hl0⟩ := id G
  have hbA : ¬ (fun q : Nat => s.heap.size ≤ q) b := Nat.not_le.mpr hbl
  unfold p_law_935 at h
  refine lv_aload_n hx hb dL_law_935 rfl (lv_at hl 1 rfl) ?_
  refine xc_Vi (wf := wC cyI cyJ cyZ a) (S := S) (wr := ([(q, .inl (cyJ, 1, .inr (.inl o)))] ++ wM cyI cyJ cyZ mb M)) (isC := [0, 1, 2, 3, 4, 5, 6, 7, 8, 9, 10, 11, 12, 13, 14, 15, 16, 17, 18, 19, 20]) (isR := [21, 22, 23, 24, 25, 26, 27, 28, 29, 30, 31, 32, 33, 34, 35, 36, 37, 38, 39, 40, 41, 42]) (As := []) (rest := []) ⟨hx, hb, hml, hown, hts⟩ (t_X5_worst h) (cwV 0 hts gL_law_X5_worst rfl rfl rfl (by decide +kernel) ⟨Nat.le_of_ble_eq_true rfl, Nat.le_of_ble_eq_true rfl⟩) ⟨hK, hE, fun _ h => h, hP, hD, hS, rfl, rfl, rfl, rfl, by decide⟩ ⟨0, 4, _, _, rfl, rfl, rfl⟩ rfl rfl hl.1 (Nat.le_of_ble_eq_true rfl) dL_law_936 ⟨hu.1, hu.2⟩ (fun r22 S23 H locs h hP hD hS => ?_)
  have hP : va_P (dC, dI) vwCl (wW cyI cyJ cyZ a q mb S23 o M) H := hP.sub [22, 23, 24, 25, 26, 27, 28, 29, 30, 31, 32, 33, 34, 35, 36, 37, 38, 39, 40, 41, 42, 0, 1, 2, 3, 4, 5, 6, 7, 8, 9, 10, 11, 12, 13, 14, 15, 16, 17, 18, 19, 20, 21] rfl
  have hD : va_D (fun q : Nat => s.heap.size ≤ q) (wW cyI cyJ cyZ a q mb S23 o M) := hD.sub [22, 23, 24, 25, 26, 27, 28, 29, 30, 31, 32, 33, 34, 35, 36, 37, 38, 39, 40, 41, 42, 0, 1, 2, 3, 4, 5, 6, 7, 8, 9, 10, 11, 12, 13, 14, 15, 16, 17, 18, 19, 20, 21] (by decide) rfl
  refine W.cs (cells' := uc) (slots' := us) rfl rfl ?_
  refine lv_aload_n hx hb dL_law_939 rfl (lv_at hl 2 rfl) ?_
  refine xc_Vi (wf := wM cyI cyJ cyZ mb) (S := M) (wr := wL cyI cyJ cyZ a q (S23, o)) (isC := [22, 23, 24, 25, 26, 27, 28, 29, 30, 31, 32, 33, 34, 35, 36, 37, 38, 39, 40, 41, 42]) (isR := [0, 1, 2, 3, 4, 5, 6, 7, 8, 9, 10, 11, 12, 13, 14, 15, 16, 17, 18, 19, 20, 21]) (As := []) (rest := [.int r22]) ⟨hx, hb, hml, hown, hts⟩ (t_X6_worst h) (cwV 0 hts gL_law_X6_worst rfl rfl rfl (by decide +kernel) ⟨Nat.le_of_ble_eq_true rfl, Nat.le_of_ble_eq_true rfl⟩) ⟨hK, hE, fun _ h => h, hP, hD, hS, rfl, rfl, rfl, rfl, by decide⟩ ⟨0, 5, _, _, rfl, rfl, rfl⟩ rfl rfl hl.1 (Nat.le_of_ble_eq_true rfl) dL_law_940 ⟨hu.1, hu.2⟩ (fun r24 M25 H locs h hP hD hS => ?_)
  have hP : va_P (dC, dI) vwCl (wW cyI cyJ cyZ a q mb S23 o M25) H := hP
  have hD : va_D (fun q : Nat => s.heap.size ≤ q) (wW cyI cyJ cyZ a q mb S23 o M25) := hD
  refine W.cs (cells' := uc) (slots' := us) rfl rfl ?_
  refine lv_icmp_eq (tgt := 1151) hx hb dL_law_943 (by decide) (fun c26 => ?_) (fun c26 => ?_)
  · have h := h.1 c26
    obtain ⟨y27, ey27⟩ : ∃ z : Int32, z = (i + (4 : Int32)) := ⟨_, rfl⟩
    have h := h y27 ey27
    refine lv_iinc (v := y27) (lv' := [(4, .int y27), (0, .ref b), (1, .ref (a 0)), (2, .ref (mb 0)), (3, .ref q)]) hx hb dL_law_1151 hl (k := 4) rfl (by rw [ey27]; rfl) (by decide) rfl (fun ls hl => ?_)
    refine lv_goto (tgt := 23) hx hb dL_law_1154 (by decide) ?_
    exact k23 _ _ _ _ _ _ H locs ls hu h hP hD hS (lv_sub hl [1, 2, 3, 4, 0] rfl)
  · have h := h.2 c26
    exact h.elim
def p_law_948 (g23 : CS → (Nat → Int64) → MS → Int32 → Nat → Nat → Prop) (xs : Nat → Int32) (L : Nat) (S : CS) (o : Nat → Int64) (M : MS) (i : Int32) (uc us : Nat) : Prop := vp_in (i + (1 : Int32)) L ∧ (vp_in (i + (2 : Int32)) L ∧ ((uc + 1 ≤ 601024 ∧ us + 6 ≤ 7293034) ∧ (p_L_value S o (xs (i + (1 : Int32)).toNatClampNeg) (xs (i + (2 : Int32)).toNatClampNeg) (fun r30 u31 => ∀ (S32 : CS) (o33 : Nat → Int64), S32 = u31.1 → o33 = u31.2 → (vp_in (i + (1 : Int32)) L ∧ (vp_in (i + (2 : Int32)) L ∧ (p_X6_value M (xs (i + (1 : Int32)).toNatClampNeg) (xs (i + (2 : Int32)).toNatClampNeg) (fun r36 M37 => p_X6_thrown M37 (fun r38 => (r38 = r30 → ((¬ r30 = 0 → (∀ y42 : Int32, y42 = (i + (4 : Int32)) → (g23 S32 o33 M37 y42 (uc + 1) (us + 6)))) ∧ (r30 = 0 → (((lg_cmp (o33 (0 : Int32).toNatClampNeg) (r36.toInt64)) = 0 → (∀ y44 : Int32, y44 = (i + (4 : Int32)) → (g23 S32 o33 M37 y44 (uc + 1) (us + 6)))) ∧ (¬ (lg_cmp (o33 (0 : Int32).toNatClampNeg) (r36.toInt64)) = 0 → (False)))))) ∧ (¬ r38 = r30 → (False)))))))))))
set_option maxHeartbeats 2000000 in
set_option maxRecDepth 100000 in
theorem t_law_948 {p : Program} {l : Launch} {e : Env} {s : State} {m : MethodId} {below : List Frame} {meth : Method} {c : Code} {dC : Nat → ClassId} {dI : Nat → Nat → Nat} {cyI cyJ cyZ : ClassId} {r : Nat → Nat} {a mb : Nat → Nat} {q b L : Nat} {xs : Nat → Int32} {g23 : CS → (Nat → Int64) → MS → Int32 → Nat → Nat → Prop} {S : CS} {o : Nat → Int64} {M : MS} {i : Int32} {uc us : Nat} (G : xLG p l s m meth c b L xs dC dI cyI cyJ cyZ r) (k23 : ∀ (S' : CS) (o' : Nat → Int64) (M' : MS) (i' : Int32) (uc' us' : Nat) (H : Heap) (locs : List Loc) (ls : Array Slot), (uc' ≤ 601024 ∧ us' ≤ 7293034) → g23 S' o' M' i' uc' us' → va_P (dC, dI) vwCl (wW cyI cyJ cyZ a q mb S' o' M') H → va_D (fun q : Nat => s.heap.size ≤ q) (wW cyI cyJ cyZ a q mb S' o' M') → va_S (fun q : Nat => s.heap.size ≤ q) s.heap H locs → lv_has ls 8 [(0, .ref b), (1, .ref (a 0)), (2, .ref (mb 0)), (3, .ref q), (4, .int i')] → W p l e room_1 s m #[Value.ref b] below meth c H locs uc' us' (lw_Z below #[Value.ref b] s) (F0 m 23 ls [])) (h : p_law_948 g23 xs L S o M i uc us) {H : Heap} {locs : List Loc} {ls : Array Slot} (hu : uc ≤ 601024 ∧ us ≤ 7293034) (hP : va_P (dC, dI) vwCl (wW cyI cyJ cyZ a q mb S o M) H) (hD : va_D (fun q : Nat => s.heap.size ≤ q) (wW cyI cyJ cyZ a q mb S o M)) (hS : va_S (fun q : Nat => s.heap.size ≤ q) s.heap H locs) (hl : lv_has ls 8 [(0, .ref b), (1, .ref (a 0)), (2, .ref (mb 0)), (3, .ref q), (4, .int i)]) : W p l e room_1 s m #[Value.ref b] below meth c H locs uc us (lw_Z below #[Value.ref b] s) (F0 m 948 ls []) := by
  obtain ⟨hx, hb, hml, hown, hts, hr, hlocks, hK, hE, hX, hbl, hl0⟩ := id G
  have hbA : ¬ (fun q : Nat => s.heap.size ≤ q) b := Nat.not_le.mpr hbl
  unfold p_law_948 at h
  refine lv_aload_n hx hb dL_law_948 rfl (lv_at hl 1 rfl) ?_
  refine lv_aload_n hx hb dL_law_949 rfl (lv_at hl 0 rfl) ?_
  refine lv_iload hx hb dL_law_950 (lv_at hl 4 rfl) ?_
  refine lv_iconst (v := 1) hx hb dL_law_952 (by decide) ?_
  refine lv_iadd hx hb dL_law_953 ?_
  obtain ⟨i28, h⟩ := h
  refine va_sld hx hb hX hbl hbA hS i28 dL_law_954 ?_
  refine lv_aload_n hx hb dL_law_955 rfl (lv_at hl 0 rfl) ?_
  refine lv_iload hx hb dL_law_956 (lv_at hl 4 rfl) ?_
  refine lv_iconst (v := 2) hx hb dL_law_958 (by decide) ?_
  refine lv_iadd hx hb dL_law_959 ?_
  obtain ⟨i29, h⟩ := h
  refine va_sld hx hb hX hbl hbA hS i29 dL_law_960 ?_
  refine lv_aload_n hx hb dL_law_961 rfl (lv_at hl 3 rfl) ?_
  obtain ⟨hu, h⟩ := h
  refine xt_SXi (wf := wL cyI cyJ cyZ a q) (S := (S, o)) (wr := wM cyI cyJ cyZ mb M) (isC := [0, 1, 2, 3, 4, 5, 6, 7, 8, 9, 10, 11, 12, 13, 14, 15, 16, 17, 18, 19, 20, 21]) (isR := [22, 23, 24, 25, 26, 27, 28, 29, 30, 31, 32, 33, 34, 35, 36, 37, 38, 39, 40, 41, 42]) (As := [.ref (a 0), .int (xs (i + (1 : Int32)).toNatClampNeg), .int (xs (i + (2 : Int32)).toNatClampNeg), .ref q]) (rest := []) ⟨hx, hb, hml, hown, hts⟩ (t_L_value hl0 h) (vx_cwSW 4 hts gL_law_L_value rfl rfl rfl (by decide +kernel) ⟨Nat.le_of_ble_eq_true rfl, Nat.le_of_ble_eq_true rfl⟩) ⟨hK, hE, fun _ h => h, hP, hD, hS, rfl, rfl, rfl, rfl, by decide⟩ rfl rfl hl.1 (Nat.le_of_ble_eq_true rfl) dL_law_962 ⟨hu.1, hu.2⟩ (fun E ce q9 u H locs h hP hD hS hce hcv hcl => h.elim) (fun r30 u31 H locs h hP hD hS => ?_)
  obtain ⟨S32, o33⟩ := u31
  have h := h S32 o33 rfl rfl
  have hP : va_P (dC, dI) vwCl (wW cyI cyJ cyZ a q mb S32 o33 M) H := hP.sub [21, 22, 23, 24, 25, 26, 27, 28, 29, 30, 31, 32, 33, 34, 35, 36, 37, 38, 39, 40, 41, 42, 0, 1, 2, 3, 4, 5, 6, 7, 8, 9, 10, 11, 12, 13, 14, 15, 16, 17, 18, 19, 20] rfl
  have hD : va_D (fun q : Nat => s.heap.size ≤ q) (wW cyI cyJ cyZ a q mb S32 o33 M) := hD.sub [21, 22, 23, 24, 25, 26, 27, 28, 29, 30, 31, 32, 33, 34, 35, 36, 37, 38, 39, 40, 41, 42, 0, 1, 2, 3, 4, 5, 6, 7, 8, 9, 10, 11, 12, 13, 14, 15, 16, 17, 18, 19, 20] (by decide) rfl
  refine lv_istore (lv' := [(5, .int r30), (0, .ref b), (1, .ref (a 0)), (2, .ref (mb 0)), (3, .ref q), (4, .int i)]) hx hb dL_law_965 hl (by decide) rfl (fun ls hl => ?_)
  refine lv_aload_n hx hb dL_law_967 rfl (lv_at hl 3 rfl) ?_
  refine lv_aload_n hx hb dL_law_968 rfl (lv_at hl 1 rfl) ?_
  refine lv_iload hx hb dL_law_969 (lv_at hl 5 rfl) ?_
  refine lv_iconst (v := 1) hx hb dL_law_971 (by decide) ?_
  refine lv_iadd hx hb dL_law_972 ?_
  obtain ⟨i34, h⟩ := h
  refine va_sld hx hb hX hbl hbA hS i34 dL_law_973 ?_
  refine lv_aload_n hx hb dL_law_974 rfl (lv_at hl 1 rfl) ?_
  refine lv_iload hx hb dL_law_975 (lv_at hl 5 rfl) ?_
  refine lv_iconst (v := 2) hx hb dL_law_977 (by decide) ?_
  refine lv_iadd hx hb dL_law_978 ?_
  obtain ⟨i35, h⟩ := h
  refine va_sld hx hb hX hbl hbA hS i35 dL_law_979 ?_
  refine xc_Vi (wf := wM cyI cyJ cyZ mb) (S := M) (wr := wL cyI cyJ cyZ a q (S32, o33)) (isC := [22, 23, 24, 25, 26, 27, 28, 29, 30, 31, 32, 33, 34, 35, 36, 37, 38, 39, 40, 41, 42]) (isR := [0, 1, 2, 3, 4, 5, 6, 7, 8, 9, 10, 11, 12, 13, 14, 15, 16, 17, 18, 19, 20, 21]) (As := [.int (xs (i + (1 : Int32)).toNatClampNeg), .int (xs (i + (2 : Int32)).toNatClampNeg)]) (rest := []) ⟨hx, hb, hml, hown, hts⟩ (t_X6_value h) (cwV 2 hts gL_law_X6_value rfl rfl rfl (by decide +kernel) ⟨Nat.le_of_ble_eq_true rfl, Nat.le_of_ble_eq_true rfl⟩) ⟨hK, hE, fun _ h => h, hP, hD, hS, rfl, rfl, rfl, rfl, by decide⟩ ⟨0, 5, _, _, rfl, rfl, rfl⟩ rfl rfl hl.1 (Nat.le_of_ble_eq_true rfl) dL_law_980 ⟨hu.1, hu.2⟩ (fun r36 M37 H locs h hP hD hS => ?_)
  have hP : va_P (dC, dI) vwCl (wW cyI cyJ cyZ a q mb S32 o33 M37) H := hP
  have hD : va_D (fun q : Nat => s.heap.size ≤ q) (wW cyI cyJ cyZ a q mb S32 o33 M37) := hD
  refine W.cs (cells' := (uc + 1)) (slots' := (us + 6)) rfl rfl ?_
  refine lv_istore (lv' := [(6, .int r36), (5, .int r30), (0, .ref b), (1, .ref (a 0)), (2, .ref (mb 0)), (3, .ref q), (4, .int i)]) hx hb dL_law_983 hl (by decide) rfl (fun ls hl => ?_)
  refine lv_aload_n hx hb dL_law_985 rfl (lv_at hl 4 rfl) ?_
  refine xc_Vi (wf := wM cyI cyJ cyZ mb) (S := M37) (wr := wL cyI cyJ cyZ a q (S32, o33)) (isC := [22, 23, 24, 25, 26, 27, 28, 29, 30, 31, 32, 33, 34, 35, 36, 37, 38, 39, 40, 41, 42]) (isR := [0, 1, 2, 3, 4, 5, 6, 7, 8, 9, 10, 11, 12, 13, 14, 15, 16, 17, 18, 19, 20, 21]) (As := []) (rest := []) ⟨hx, hb, hml, hown, hts⟩ (t_X6_thrown h) (cwV 0 hts gL_law_X6_thrown rfl rfl rfl (by decide +kernel) ⟨Nat.le_of_ble_eq_true rfl, Nat.le_of_ble_eq_true rfl⟩) ⟨hK, hE, fun _ h => h, hP, hD, hS, rfl, rfl, rfl, rfl, by decide⟩ ⟨0, 5, _, _, rfl, rfl, rfl⟩ rfl rfl hl.1 (Nat.le_of_ble_eq_true rfl) dL_law_986 ⟨hu.1, hu.2⟩ (fun r38 M39 H locs h hP hD hS => ?_)
  obtain ⟨rfl, h⟩ := h
  have hP : va_P (dC, dI) vwCl (wW cyI cyJ cyZ a q mb S32 o33 M37) H := hP
  have hD : va_D (fun q : Nat => s.heap.size ≤ q) (wW cyI cyJ cyZ a q mb S32 o33 M37) := hD
  refine W.cs (cells' := (uc + 1)) (slots' := (us + 6)) rfl rfl ?_
  refine lv_iload hx hb dL_law_989 (lv_at hl 1 rfl) ?_
  refine lv_icmp_eq (tgt := 996) hx hb dL_law_991 (by decide) (fun c40 => ?_) (fun c40 => ?_)
  · have h := h.1 c40
    refine lv_iload hx hb dL_law_996 (lv_at hl 1 rfl) ?_
    refine lv_if_ne (tgt := 1013) hx hb dL_law_998 (by decide) (fun c41 => ?_) (fun c41 => ?_)
    · have h := h.1 c41
      refine lv_goto (tgt := 1151) hx hb dL_law_1013 (by decide) ?_
      obtain ⟨y42, ey42⟩ : ∃ z : Int32, z = (i + (4 : Int32)) := ⟨_, rfl⟩
      have h := h y42 ey42
      refine lv_iinc (v := y42) (lv' := [(4, .int y42), (6, .int r36), (5, .int r30), (0, .ref b), (1, .ref (a 0)), (2, .ref (mb 0)), (3, .ref q)]) hx hb dL_law_1151 hl (k := 6) rfl (by rw [ey42]; rfl) (by decide) rfl (fun ls hl => ?_)
      refine lv_goto (tgt := 23) hx hb dL_law_1154 (by decide) ?_
      exact k23 _ _ _ _ _ _ H locs ls hu h hP hD hS (lv_sub hl [3, 4, 5, 6, 0] rfl)
    · have h := h.2 c41
      refine lv_aload_n hx hb dL_law_1001 rfl (lv_at hl 5 rfl) ?_
      refine lv_iconst (v := 0) hx hb dL_law_1002 (by decide) ?_
      refine va_lald (D := (dC, dI)) hx hb hK hP 21 1 rfl rfl (by unfold vp_in; decide) dL_law_1003 ?_
      refine lv_iload hx hb dL_law_1004 (lv_at hl 0 rfl) ?_
      refine lv_i2l (v := r36.toInt64) hx hb dL_law_1006 rfl ?_
      refine W.lcmp hx hb dL_law_1007 ?_
      refine lv_if_eq (tgt := 1013) hx hb dL_law_1008 (by decide) (fun c43 => ?_) (fun c43 => ?_)
      · have h := h.1 c43
        refine lv_goto (tgt := 1151) hx hb dL_law_1013 (by decide) ?_
        obtain ⟨y44, ey44⟩ : ∃ z : Int32, z = (i + (4 : Int32)) := ⟨_, rfl⟩
        have h := h y44 ey44
        refine lv_iinc (v := y44) (lv' := [(4, .int y44), (6, .int r36), (5, .int r30), (0, .ref b), (1, .ref (a 0)), (2, .ref (mb 0)), (3, .ref q)]) hx hb dL_law_1151 hl (k := 6) rfl (by rw [ey44]; rfl) (by decide) rfl (fun ls hl => ?_)
        refine lv_goto (tgt := 23) hx hb dL_law_1154 (by decide) ?_
        exact k23 _ _ _ _ _ _ H locs ls hu h hP hD hS (lv_sub hl [3, 4, 5, 6, 0] rfl)
      · have h := h.2 c43
        exact h.elim
  · have h := h.2 c40
    exact h.elim
def p_law_1016 (g23 : CS → (Nat → Int64) → MS → Int32 → Nat → Nat → Prop) (xs : Nat → Int32) (L : Nat) (S : CS) (o : Nat → Int64) (M : MS) (i : Int32) (uc us : Nat) : Prop := vp_in (i + (1 : Int32)) L ∧ (vp_in (i + (2 : Int32)) L ∧ ((uc + 1 ≤ 601024 ∧ us + 6 ≤ 7293034) ∧ (p_L_mapped S o (xs (i + (1 : Int32)).toNatClampNeg) (xs (i + (2 : Int32)).toNatClampNeg) (fun r47 u48 => ∀ (S49 : CS) (o50 : Nat → Int64), S49 = u48.1 → o50 = u48.2 → (vp_in (i + (1 : Int32)) L ∧ (vp_in (i + (2 : Int32)) L ∧ (p_X6_mapped M (xs (i + (1 : Int32)).toNatClampNeg) (xs (i + (2 : Int32)).toNatClampNeg) (fun r53 M54 => p_X6_thrown M54 (fun r55 => (r55 = r47 → ((¬ r47 = 0 → (∀ y59 : Int32, y59 = (i + (4 : Int32)) → (g23 S49 o50 M54 y59 (uc + 1) (us + 6)))) ∧ (r47 = 0 → (((lg_cmp (o50 (0 : Int32).toNatClampNeg) (r53.toInt64)) = 0 → (∀ y61 : Int32, y61 = (i + (4 : Int32)) → (g23 S49 o50 M54 y61 (uc + 1) (us + 6)))) ∧ (¬ (lg_cmp (o50 (0 : Int32).toNatClampNeg) (r53.toInt64)) = 0 → (False)))))) ∧ (¬ r55 = r47 → (False)))))))))))
set_option maxHeartbeats 2000000 in
set_option maxRecDepth 100000 in
theorem t_law_1016 {p : Program} {l : Launch} {e : Env} {s : State} {m : MethodId} {below : List Frame} {meth : Method} {c : Code} {dC : Nat → ClassId} {dI : Nat → Nat → Nat} {cyI cyJ cyZ : ClassId} {r : Nat → Nat} {a mb : Nat → Nat} {q b L : Nat} {xs : Nat → Int32} {g23 : CS → (Nat → Int64) → MS → Int32 → Nat → Nat → Prop} {S : CS} {o : Nat → Int64} {M : MS} {i : Int32} {uc us : Nat} (G : xLG p l s m meth c b L xs dC dI cyI cyJ cyZ r) (k23 : ∀ (S' : CS) (o' : Nat → Int64) (M' : MS) (i' : Int32) (uc' us' : Nat) (H : Heap) (locs : List Loc) (ls : Array Slot), (uc' ≤ 601024 ∧ us' ≤ 7293034) → g23 S' o' M' i' uc' us' → va_P (dC, dI) vwCl (wW cyI cyJ cyZ a q mb S' o' M') H → va_D (fun q : Nat => s.heap.size ≤ q) (wW cyI cyJ cyZ a q mb S' o' M') → va_S (fun q : Nat => s.heap.size ≤ q) s.heap H locs → lv_has ls 8 [(0, .ref b), (1, .ref (a 0)), (2, .ref (mb 0)), (3, .ref q), (4, .int i')] → W p l e room_1 s m #[Value.ref b] below meth c H locs uc' us' (lw_Z below #[Value.ref b] s) (F0 m 23 ls [])) (h : p_law_1016 g23 xs L S o M i uc us) {H : Heap} {locs : List Loc} {ls : Array Slot} (hu : uc ≤ 601024 ∧ us ≤ 7293034) (hP : va_P (dC, dI) vwCl (wW cyI cyJ cyZ a q mb S o M) H) (hD : va_D (fun q : Nat => s.heap.size ≤ q) (wW cyI cyJ cyZ a q mb S o M)) (hS : va_S (fun q : Nat => s.heap.size ≤ q) s.heap H locs) (hl : lv_has ls 8 [(0, .ref b), (1, .ref (a 0)), (2, .ref (mb 0)), (3, .ref q), (4, .int i)]) : W p l e room_1 s m #[Value.ref b] below meth c H locs uc us (lw_Z below #[Value.ref b] s) (F0 m 1016 ls []) := by
  obtain ⟨hx, hb, hml, hown, hts, hr, hlocks, hK, hE, hX, hbl, hl0⟩ := id G
  have hbA : ¬ (fun q : Nat => s.heap.size ≤ q) b := Nat.not_le.mpr hbl
  unfold p_law_1016 at h
  refine lv_aload_n hx hb dL_law_1016 rfl (lv_at hl 1 rfl) ?_
  refine lv_aload_n hx hb dL_law_1017 rfl (lv_at hl 0 rfl) ?_
  refine lv_iload hx hb dL_law_1018 (lv_at hl 4 rfl) ?_
  refine lv_iconst (v := 1) hx hb dL_law_1020 (by decide) ?_
  refine lv_iadd hx hb dL_law_1021 ?_
  obtain ⟨i45, h⟩ := h
  refine va_sld hx hb hX hbl hbA hS i45 dL_law_1022 ?_
  refine lv_aload_n hx hb dL_law_1023 rfl (lv_at hl 0 rfl) ?_
  refine lv_iload hx hb dL_law_1024 (lv_at hl 4 rfl) ?_
  refine lv_iconst (v := 2) hx hb dL_law_1026 (by decide) ?_
  refine lv_iadd hx hb dL_law_1027 ?_
  obtain ⟨i46, h⟩ := h
  refine va_sld hx hb hX hbl hbA hS i46 dL_law_1028 ?_
  refine lv_aload_n hx hb dL_law_1029 rfl (lv_at hl 3 rfl) ?_
  obtain ⟨hu, h⟩ := h
  refine xt_SXi (wf := wL cyI cyJ cyZ a q) (S := (S, o)) (wr := wM cyI cyJ cyZ mb M) (isC := [0, 1, 2, 3, 4, 5, 6, 7, 8, 9, 10, 11, 12, 13, 14, 15, 16, 17, 18, 19, 20, 21]) (isR := [22, 23, 24, 25, 26, 27, 28, 29, 30, 31, 32, 33, 34, 35, 36, 37, 38, 39, 40, 41, 42]) (As := [.ref (a 0), .int (xs (i + (1 : Int32)).toNatClampNeg), .int (xs (i + (2 : Int32)).toNatClampNeg), .ref q]) (rest := []) ⟨hx, hb, hml, hown, hts⟩ (t_L_mapped hl0 h) (vx_cwSW 4 hts gL_law_L_mapped rfl rfl rfl (by decide +kernel) ⟨Nat.le_of_ble_eq_true rfl, Nat.le_of_ble_eq_true rfl⟩) ⟨hK, hE, fun _ h => h, hP, hD, hS, rfl, rfl, rfl, rfl, by decide⟩ rfl rfl hl.1 (Nat.le_of_ble_eq_true rfl) dL_law_1030 ⟨hu.1, hu.2⟩ (fun E ce q9 u H locs h hP hD hS hce hcv hcl => h.elim) (fun r47 u48 H locs h hP hD hS => ?_)
  obtain ⟨S49, o50⟩ := u48
  have h := h S49 o50 rfl rfl
  have hP : va_P (dC, dI) vwCl (wW cyI cyJ cyZ a q mb S49 o50 M) H := hP.sub [21, 22, 23, 24, 25, 26, 27, 28, 29, 30, 31, 32, 33, 34, 35, 36, 37, 38, 39, 40, 41, 42, 0, 1, 2, 3, 4, 5, 6, 7, 8, 9, 10, 11, 12, 13, 14, 15, 16, 17, 18, 19, 20] rfl
  have hD : va_D (fun q : Nat => s.heap.size ≤ q) (wW cyI cyJ cyZ a q mb S49 o50 M) := hD.sub [21, 22, 23, 24, 25, 26, 27, 28, 29, 30, 31, 32, 33, 34, 35, 36, 37, 38, 39, 40, 41, 42, 0, 1, 2, 3, 4, 5, 6, 7, 8, 9, 10, 11, 12, 13, 14, 15, 16, 17, 18, 19, 20] (by decide) rfl
  refine lv_istore (lv' := [(5, .int r47), (0, .ref b), (1, .ref (a 0)), (2, .ref (mb 0)), (3, .ref q), (4, .int i)]) hx hb dL_law_1033 hl (by decide) rfl (fun ls hl => ?_)
  refine lv_aload_n hx hb dL_law_1035 rfl (lv_at hl 3 rfl) ?_
  refine lv_aload_n hx hb dL_law_1036 rfl (lv_at hl 1 rfl) ?_
  refine lv_iload hx hb dL_law_1037 (lv_at hl 5 rfl) ?_
  refine lv_iconst (v := 1) hx hb dL_law_1039 (by decide) ?_
  refine lv_iadd hx hb dL_law_1040 ?_
  obtain ⟨i51, h⟩ := h
  refine va_sld hx hb hX hbl hbA hS i51 dL_law_1041 ?_
  refine lv_aload_n hx hb dL_law_1042 rfl (lv_at hl 1 rfl) ?_
  refine lv_iload hx hb dL_law_1043 (lv_at hl 5 rfl) ?_
  refine lv_iconst (v := 2) hx hb dL_law_1045 (by decide) ?_
  refine lv_iadd hx hb dL_law_1046 ?_
  obtain ⟨i52, h⟩ := h
  refine va_sld hx hb hX hbl hbA hS i52 dL_law_1047 ?_
  refine xc_Vi (wf := wM cyI cyJ cyZ mb) (S := M) (wr := wL cyI cyJ cyZ a q (S49, o50)) (isC := [22, 23, 24, 25, 26, 27, 28, 29, 30, 31, 32, 33, 34, 35, 36, 37, 38, 39, 40, 41, 42]) (isR := [0, 1, 2, 3, 4, 5, 6, 7, 8, 9, 10, 11, 12, 13, 14, 15, 16, 17, 18, 19, 20, 21]) (As := [.int (xs (i + (1 : Int32)).toNatClampNeg), .int (xs (i + (2 : Int32)).toNatClampNeg)]) (rest := []) ⟨hx, hb, hml, hown, hts⟩ (t_X6_mapped h) (cwV 2 hts gL_law_X6_mapped rfl rfl rfl (by decide +kernel) ⟨Nat.le_of_ble_eq_true rfl, Nat.le_of_ble_eq_true rfl⟩) ⟨hK, hE, fun _ h => h, hP, hD, hS, rfl, rfl, rfl, rfl, by decide⟩ ⟨0, 5, _, _, rfl, rfl, rfl⟩ rfl rfl hl.1 (Nat.le_of_ble_eq_true rfl) dL_law_1048 ⟨hu.1, hu.2⟩ (fun r53 M54 H locs h hP hD hS => ?_)
  have hP : va_P (dC, dI) vwCl (wW cyI cyJ cyZ a q mb S49 o50 M54) H := hP
  have hD : va_D (fun q : Nat => s.heap.size ≤ q) (wW cyI cyJ cyZ a q mb S49 o50 M54) := hD
  refine W.cs (cells' := (uc + 1)) (slots' := (us + 6)) rfl rfl ?_
  refine lv_istore (lv' := [(6, .int r53), (5, .int r47), (0, .ref b), (1, .ref (a 0)), (2, .ref (mb 0)), (3, .ref q), (4, .int i)]) hx hb dL_law_1051 hl (by decide) rfl (fun ls hl => ?_)
  refine lv_aload_n hx hb dL_law_1053 rfl (lv_at hl 4 rfl) ?_
  refine xc_Vi (wf := wM cyI cyJ cyZ mb) (S := M54) (wr := wL cyI cyJ cyZ a q (S49, o50)) (isC := [22, 23, 24, 25, 26, 27, 28, 29, 30, 31, 32, 33, 34, 35, 36, 37, 38, 39, 40, 41, 42]) (isR := [0, 1, 2, 3, 4, 5, 6, 7, 8, 9, 10, 11, 12, 13, 14, 15, 16, 17, 18, 19, 20, 21]) (As := []) (rest := []) ⟨hx, hb, hml, hown, hts⟩ (t_X6_thrown h) (cwV 0 hts gL_law_X6_thrown rfl rfl rfl (by decide +kernel) ⟨Nat.le_of_ble_eq_true rfl, Nat.le_of_ble_eq_true rfl⟩) ⟨hK, hE, fun _ h => h, hP, hD, hS, rfl, rfl, rfl, rfl, by decide⟩ ⟨0, 5, _, _, rfl, rfl, rfl⟩ rfl rfl hl.1 (Nat.le_of_ble_eq_true rfl) dL_law_1054 ⟨hu.1, hu.2⟩ (fun r55 M56 H locs h hP hD hS => ?_)
  obtain ⟨rfl, h⟩ := h
  have hP : va_P (dC, dI) vwCl (wW cyI cyJ cyZ a q mb S49 o50 M54) H := hP
  have hD : va_D (fun q : Nat => s.heap.size ≤ q) (wW cyI cyJ cyZ a q mb S49 o50 M54) := hD
  refine W.cs (cells' := (uc + 1)) (slots' := (us + 6)) rfl rfl ?_
  refine lv_iload hx hb dL_law_1057 (lv_at hl 1 rfl) ?_
  refine lv_icmp_eq (tgt := 1064) hx hb dL_law_1059 (by decide) (fun c57 => ?_) (fun c57 => ?_)
  · have h := h.1 c57
    refine lv_iload hx hb dL_law_1064 (lv_at hl 1 rfl) ?_
    refine lv_if_ne (tgt := 1081) hx hb dL_law_1066 (by decide) (fun c58 => ?_) (fun c58 => ?_)
    · have h := h.1 c58
      refine lv_goto (tgt := 1151) hx hb dL_law_1081 (by decide) ?_
      obtain ⟨y59, ey59⟩ : ∃ z : Int32, z = (i + (4 : Int32)) := ⟨_, rfl⟩
      have h := h y59 ey59
      refine lv_iinc (v := y59) (lv' := [(4, .int y59), (6, .int r53), (5, .int r47), (0, .ref b), (1, .ref (a 0)), (2, .ref (mb 0)), (3, .ref q)]) hx hb dL_law_1151 hl (k := 6) rfl (by rw [ey59]; rfl) (by decide) rfl (fun ls hl => ?_)
      refine lv_goto (tgt := 23) hx hb dL_law_1154 (by decide) ?_
      exact k23 _ _ _ _ _ _ H locs ls hu h hP hD hS (lv_sub hl [3, 4, 5, 6, 0] rfl)
    · have h := h.2 c58
      refine lv_aload_n hx hb dL_law_1069 rfl (lv_at hl 5 rfl) ?_
      refine lv_iconst (v := 0) hx hb dL_law_1070 (by decide) ?_
      refine va_lald (D := (dC, dI)) hx hb hK hP 21 1 rfl rfl (by unfold vp_in; decide) dL_law_1071 ?_
      refine lv_iload hx hb dL_law_1072 (lv_at hl 0 rfl) ?_
      refine lv_i2l (v := r53.toInt64) hx hb dL_law_1074 rfl ?_
      refine W.lcmp hx hb dL_law_1075 ?_
      refine lv_if_eq (tgt := 1081) hx hb dL_law_1076 (by decide) (fun c60 => ?_) (fun c60 => ?_)
      · have h := h.1 c60
        refine lv_goto (tgt := 1151) hx hb dL_law_1081 (by decide) ?_
        obtain ⟨y61, ey61⟩ : ∃ z : Int32, z = (i + (4 : Int32)) := ⟨_, rfl⟩
        have h := h y61 ey61
        refine lv_iinc (v := y61) (lv' := [(4, .int y61), (6, .int r53), (5, .int r47), (0, .ref b), (1, .ref (a 0)), (2, .ref (mb 0)), (3, .ref q)]) hx hb dL_law_1151 hl (k := 6) rfl (by rw [ey61]; rfl) (by decide) rfl (fun ls hl => ?_)
        refine lv_goto (tgt := 23) hx hb dL_law_1154 (by decide) ?_
        exact k23 _ _ _ _ _ _ H locs ls hu h hP hD hS (lv_sub hl [3, 4, 5, 6, 0] rfl)
      · have h := h.2 c60
        exact h.elim
  · have h := h.2 c57
    exact h.elim
def p_law_1084 (g23 : CS → (Nat → Int64) → MS → Int32 → Nat → Nat → Prop) (xs : Nat → Int32) (L : Nat) (S : CS) (o : Nat → Int64) (M : MS) (i : Int32) (uc us : Nat) : Prop := vp_in (i + (1 : Int32)) L ∧ ((uc + 1 ≤ 601024 ∧ us + 6 ≤ 7293034) ∧ (p_L_count S o (xs (i + (1 : Int32)).toNatClampNeg) (fun r63 u64 => ∀ (S65 : CS) (o66 : Nat → Int64), S65 = u64.1 → o66 = u64.2 → (vp_in (i + (1 : Int32)) L ∧ (p_X6_count M (xs (i + (1 : Int32)).toNatClampNeg) (fun r68 M69 => p_X6_thrown M69 (fun r70 => (r70 = r63 → ((¬ r63 = 0 → (∀ y74 : Int32, y74 = (i + (4 : Int32)) → (g23 S65 o66 M69 y74 (uc + 1) (us + 6)))) ∧ (r63 = 0 → (((lg_cmp (o66 (0 : Int32).toNatClampNeg) (r68.toInt64)) = 0 → (∀ y76 : Int32, y76 = (i + (4 : Int32)) → (g23 S65 o66 M69 y76 (uc + 1) (us + 6)))) ∧ (¬ (lg_cmp (o66 (0 : Int32).toNatClampNeg) (r68.toInt64)) = 0 → (False)))))) ∧ (¬ r70 = r63 → (False)))))))))
set_option maxHeartbeats 2000000 in
set_option maxRecDepth 100000 in
theorem t_law_1084 {p : Program} {l : Launch} {e : Env} {s : State} {m : MethodId} {below : List Frame} {meth : Method} {c : Code} {dC : Nat → ClassId} {dI : Nat → Nat → Nat} {cyI cyJ cyZ : ClassId} {r : Nat → Nat} {a mb : Nat → Nat} {q b L : Nat} {xs : Nat → Int32} {g23 : CS → (Nat → Int64) → MS → Int32 → Nat → Nat → Prop} {S : CS} {o : Nat → Int64} {M : MS} {i : Int32} {uc us : Nat} (G : xLG p l s m meth c b L xs dC dI cyI cyJ cyZ r) (k23 : ∀ (S' : CS) (o' : Nat → Int64) (M' : MS) (i' : Int32) (uc' us' : Nat) (H : Heap) (locs : List Loc) (ls : Array Slot), (uc' ≤ 601024 ∧ us' ≤ 7293034) → g23 S' o' M' i' uc' us' → va_P (dC, dI) vwCl (wW cyI cyJ cyZ a q mb S' o' M') H → va_D (fun q : Nat => s.heap.size ≤ q) (wW cyI cyJ cyZ a q mb S' o' M') → va_S (fun q : Nat => s.heap.size ≤ q) s.heap H locs → lv_has ls 8 [(0, .ref b), (1, .ref (a 0)), (2, .ref (mb 0)), (3, .ref q), (4, .int i')] → W p l e room_1 s m #[Value.ref b] below meth c H locs uc' us' (lw_Z below #[Value.ref b] s) (F0 m 23 ls [])) (h : p_law_1084 g23 xs L S o M i uc us) {H : Heap} {locs : List Loc} {ls : Array Slot} (hu : uc ≤ 601024 ∧ us ≤ 7293034) (hP : va_P (dC, dI) vwCl (wW cyI cyJ cyZ a q mb S o M) H) (hD : va_D (fun q : Nat => s.heap.size ≤ q) (wW cyI cyJ cyZ a q mb S o M)) (hS : va_S (fun q : Nat => s.heap.size ≤ q) s.heap H locs) (hl : lv_has ls 8 [(0, .ref b), (1, .ref (a 0)), (2, .ref (mb 0)), (3, .ref q), (4, .int i)]) : W p l e room_1 s m #[Value.ref b] below meth c H locs uc us (lw_Z below #[Value.ref b] s) (F0 m 1084 ls []) := by
  obtain ⟨hx, hb, hml, hown, hts, hr, hlocks, hK, hE, hX, hbl, hl0⟩ := id G
  have hbA : ¬ (fun q : Nat => s.heap.size ≤ q) b := Nat.not_le.mpr hbl
  unfold p_law_1084 at h
  refine lv_aload_n hx hb dL_law_1084 rfl (lv_at hl 1 rfl) ?_
  refine lv_aload_n hx hb dL_law_1085 rfl (lv_at hl 0 rfl) ?_
  refine lv_iload hx hb dL_law_1086 (lv_at hl 4 rfl) ?_
  refine lv_iconst (v := 1) hx hb dL_law_1088 (by decide) ?_
  refine lv_iadd hx hb dL_law_1089 ?_
  obtain ⟨i62, h⟩ := h
  refine va_sld hx hb hX hbl hbA hS i62 dL_law_1090 ?_
  refine lv_aload_n hx hb dL_law_1091 rfl (lv_at hl 3 rfl) ?_
  obtain ⟨hu, h⟩ := h
  refine xt_SXi (wf := wL cyI cyJ cyZ a q) (S := (S, o)) (wr := wM cyI cyJ cyZ mb M) (isC := [0, 1, 2, 3, 4, 5, 6, 7, 8, 9, 10, 11, 12, 13, 14, 15, 16, 17, 18, 19, 20, 21]) (isR := [22, 23, 24, 25, 26, 27, 28, 29, 30, 31, 32, 33, 34, 35, 36, 37, 38, 39, 40, 41, 42]) (As := [.ref (a 0), .int (xs (i + (1 : Int32)).toNatClampNeg), .ref q]) (rest := []) ⟨hx, hb, hml, hown, hts⟩ (t_L_count hl0 h) (vx_cwSW 3 hts gL_law_L_count rfl rfl rfl (by decide +kernel) ⟨Nat.le_of_ble_eq_true rfl, Nat.le_of_ble_eq_true rfl⟩) ⟨hK, hE, fun _ h => h, hP, hD, hS, rfl, rfl, rfl, rfl, by decide⟩ rfl rfl hl.1 (Nat.le_of_ble_eq_true rfl) dL_law_1092 ⟨hu.1, hu.2⟩ (fun E ce q9 u H locs h hP hD hS hce hcv hcl => h.elim) (fun r63 u64 H locs h hP hD hS => ?_)
  obtain ⟨S65, o66⟩ := u64
  have h := h S65 o66 rfl rfl
  have hP : va_P (dC, dI) vwCl (wW cyI cyJ cyZ a q mb S65 o66 M) H := hP.sub [21, 22, 23, 24, 25, 26, 27, 28, 29, 30, 31, 32, 33, 34, 35, 36, 37, 38, 39, 40, 41, 42, 0, 1, 2, 3, 4, 5, 6, 7, 8, 9, 10, 11, 12, 13, 14, 15, 16, 17, 18, 19, 20] rfl
  have hD : va_D (fun q : Nat => s.heap.size ≤ q) (wW cyI cyJ cyZ a q mb S65 o66 M) := hD.sub [21, 22, 23, 24, 25, 26, 27, 28, 29, 30, 31, 32, 33, 34, 35, 36, 37, 38, 39, 40, 41, 42, 0, 1, 2, 3, 4, 5, 6, 7, 8, 9, 10, 11, 12, 13, 14, 15, 16, 17, 18, 19, 20] (by decide) rfl
  refine lv_istore (lv' := [(5, .int r63), (0, .ref b), (1, .ref (a 0)), (2, .ref (mb 0)), (3, .ref q), (4, .int i)]) hx hb dL_law_1095 hl (by decide) rfl (fun ls hl => ?_)
  refine lv_aload_n hx hb dL_law_1097 rfl (lv_at hl 3 rfl) ?_
  refine lv_aload_n hx hb dL_law_1098 rfl (lv_at hl 1 rfl) ?_
  refine lv_iload hx hb dL_law_1099 (lv_at hl 5 rfl) ?_
  refine lv_iconst (v := 1) hx hb dL_law_1101 (by decide) ?_
  refine lv_iadd hx hb dL_law_1102 ?_
  obtain ⟨i67, h⟩ := h
  refine va_sld hx hb hX hbl hbA hS i67 dL_law_1103 ?_
  refine xc_Vi (wf := wM cyI cyJ cyZ mb) (S := M) (wr := wL cyI cyJ cyZ a q (S65, o66)) (isC := [22, 23, 24, 25, 26, 27, 28, 29, 30, 31, 32, 33, 34, 35, 36, 37, 38, 39, 40, 41, 42]) (isR := [0, 1, 2, 3, 4, 5, 6, 7, 8, 9, 10, 11, 12, 13, 14, 15, 16, 17, 18, 19, 20, 21]) (As := [.int (xs (i + (1 : Int32)).toNatClampNeg)]) (rest := []) ⟨hx, hb, hml, hown, hts⟩ (t_X6_count h) (cwV 1 hts gL_law_X6_count rfl rfl rfl (by decide +kernel) ⟨Nat.le_of_ble_eq_true rfl, Nat.le_of_ble_eq_true rfl⟩) ⟨hK, hE, fun _ h => h, hP, hD, hS, rfl, rfl, rfl, rfl, by decide⟩ ⟨0, 5, _, _, rfl, rfl, rfl⟩ rfl rfl hl.1 (Nat.le_of_ble_eq_true rfl) dL_law_1104 ⟨hu.1, hu.2⟩ (fun r68 M69 H locs h hP hD hS => ?_)
  have hP : va_P (dC, dI) vwCl (wW cyI cyJ cyZ a q mb S65 o66 M69) H := hP
  have hD : va_D (fun q : Nat => s.heap.size ≤ q) (wW cyI cyJ cyZ a q mb S65 o66 M69) := hD
  refine W.cs (cells' := (uc + 1)) (slots' := (us + 6)) rfl rfl ?_
  refine lv_istore (lv' := [(6, .int r68), (5, .int r63), (0, .ref b), (1, .ref (a 0)), (2, .ref (mb 0)), (3, .ref q), (4, .int i)]) hx hb dL_law_1107 hl (by decide) rfl (fun ls hl => ?_)
  refine lv_aload_n hx hb dL_law_1109 rfl (lv_at hl 4 rfl) ?_
  refine xc_Vi (wf := wM cyI cyJ cyZ mb) (S := M69) (wr := wL cyI cyJ cyZ a q (S65, o66)) (isC := [22, 23, 24, 25, 26, 27, 28, 29, 30, 31, 32, 33, 34, 35, 36, 37, 38, 39, 40, 41, 42]) (isR := [0, 1, 2, 3, 4, 5, 6, 7, 8, 9, 10, 11, 12, 13, 14, 15, 16, 17, 18, 19, 20, 21]) (As := []) (rest := []) ⟨hx, hb, hml, hown, hts⟩ (t_X6_thrown h) (cwV 0 hts gL_law_X6_thrown rfl rfl rfl (by decide +kernel) ⟨Nat.le_of_ble_eq_true rfl, Nat.le_of_ble_eq_true rfl⟩) ⟨hK, hE, fun _ h => h, hP, hD, hS, rfl, rfl, rfl, rfl, by decide⟩ ⟨0, 5, _, _, rfl, rfl, rfl⟩ rfl rfl hl.1 (Nat.le_of_ble_eq_true rfl) dL_law_1110 ⟨hu.1, hu.2⟩ (fun r70 M71 H locs h hP hD hS => ?_)
  obtain ⟨rfl, h⟩ := h
  have hP : va_P (dC, dI) vwCl (wW cyI cyJ cyZ a q mb S65 o66 M69) H := hP
  have hD : va_D (fun q : Nat => s.heap.size ≤ q) (wW cyI cyJ cyZ a q mb S65 o66 M69) := hD
  refine W.cs (cells' := (uc + 1)) (slots' := (us + 6)) rfl rfl ?_
  refine lv_iload hx hb dL_law_1113 (lv_at hl 1 rfl) ?_
  refine lv_icmp_eq (tgt := 1120) hx hb dL_law_1115 (by decide) (fun c72 => ?_) (fun c72 => ?_)
  · have h := h.1 c72
    refine lv_iload hx hb dL_law_1120 (lv_at hl 1 rfl) ?_
    refine lv_if_ne (tgt := 1137) hx hb dL_law_1122 (by decide) (fun c73 => ?_) (fun c73 => ?_)
    · have h := h.1 c73
      refine lv_goto (tgt := 1151) hx hb dL_law_1137 (by decide) ?_
      obtain ⟨y74, ey74⟩ : ∃ z : Int32, z = (i + (4 : Int32)) := ⟨_, rfl⟩
      have h := h y74 ey74
      refine lv_iinc (v := y74) (lv' := [(4, .int y74), (6, .int r68), (5, .int r63), (0, .ref b), (1, .ref (a 0)), (2, .ref (mb 0)), (3, .ref q)]) hx hb dL_law_1151 hl (k := 6) rfl (by rw [ey74]; rfl) (by decide) rfl (fun ls hl => ?_)
      refine lv_goto (tgt := 23) hx hb dL_law_1154 (by decide) ?_
      exact k23 _ _ _ _ _ _ H locs ls hu h hP hD hS (lv_sub hl [3, 4, 5, 6, 0] rfl)
    · have h := h.2 c73
      refine lv_aload_n hx hb dL_law_1125 rfl (lv_at hl 5 rfl) ?_
      refine lv_iconst (v := 0) hx hb dL_law_1126 (by decide) ?_
      refine va_lald (D := (dC, dI)) hx hb hK hP 21 1 rfl rfl (by unfold vp_in; decide) dL_law_1127 ?_
      refine lv_iload hx hb dL_law_1128 (lv_at hl 0 rfl) ?_
      refine lv_i2l (v := r68.toInt64) hx hb dL_law_1130 rfl ?_
      refine W.lcmp hx hb dL_law_1131 ?_
      refine lv_if_eq (tgt := 1137) hx hb dL_law_1132 (by decide) (fun c75 => ?_) (fun c75 => ?_)
      · have h := h.1 c75
        refine lv_goto (tgt := 1151) hx hb dL_law_1137 (by decide) ?_
        obtain ⟨y76, ey76⟩ : ∃ z : Int32, z = (i + (4 : Int32)) := ⟨_, rfl⟩
        have h := h y76 ey76
        refine lv_iinc (v := y76) (lv' := [(4, .int y76), (6, .int r68), (5, .int r63), (0, .ref b), (1, .ref (a 0)), (2, .ref (mb 0)), (3, .ref q)]) hx hb dL_law_1151 hl (k := 6) rfl (by rw [ey76]; rfl) (by decide) rfl (fun ls hl => ?_)
        refine lv_goto (tgt := 23) hx hb dL_law_1154 (by decide) ?_
        exact k23 _ _ _ _ _ _ H locs ls hu h hP hD hS (lv_sub hl [3, 4, 5, 6, 0] rfl)
      · have h := h.2 c75
        exact h.elim
  · have h := h.2 c72
    exact h.elim
def p_law_1140 (g23 : CS → (Nat → Int64) → MS → Int32 → Nat → Nat → Prop) (xs : Nat → Int32) (L : Nat) (S : CS) (o : Nat → Int64) (M : MS) (i : Int32) (uc us : Nat) : Prop := p_X5_clear S (fun S77 => p_X6_clear M (fun M78 => ∀ y79 : Int32, y79 = (i + (4 : Int32)) → (g23 S77 o M78 y79 uc us)))
set_option maxHeartbeats 2000000 in
set_option maxRecDepth 100000 in
theorem t_law_1140 {p : Program} {l : Launch} {e : Env} {s : State} {m : MethodId} {below : List Frame} {meth : Method} {c : Code} {dC : Nat → ClassId} {dI : Nat → Nat → Nat} {cyI cyJ cyZ : ClassId} {r : Nat → Nat} {a mb : Nat → Nat} {q b L : Nat} {xs : Nat → Int32} {g23 : CS → (Nat → Int64) → MS → Int32 → Nat → Nat → Prop} {S : CS} {o : Nat → Int64} {M : MS} {i : Int32} {uc us : Nat} (G : xLG p l s m meth c b L xs dC dI cyI cyJ cyZ r) (k23 : ∀ (S' : CS) (o' : Nat → Int64) (M' : MS) (i' : Int32) (uc' us' : Nat) (H : Heap) (locs : List Loc) (ls : Array Slot), (uc' ≤ 601024 ∧ us' ≤ 7293034) → g23 S' o' M' i' uc' us' → va_P (dC, dI) vwCl (wW cyI cyJ cyZ a q mb S' o' M') H → va_D (fun q : Nat => s.heap.size ≤ q) (wW cyI cyJ cyZ a q mb S' o' M') → va_S (fun q : Nat => s.heap.size ≤ q) s.heap H locs → lv_has ls 8 [(0, .ref b), (1, .ref (a 0)), (2, .ref (mb 0)), (3, .ref q), (4, .int i')] → W p l e room_1 s m #[Value.ref b] below meth c H locs uc' us' (lw_Z below #[Value.ref b] s) (F0 m 23 ls [])) (h : p_law_1140 g23 xs L S o M i uc us) {H : Heap} {locs : List Loc} {ls : Array Slot} (hu : uc ≤ 601024 ∧ us ≤ 7293034) (hP : va_P (dC, dI) vwCl (wW cyI cyJ cyZ a q mb S o M) H) (hD : va_D (fun q : Nat => s.heap.size ≤ q) (wW cyI cyJ cyZ a q mb S o M)) (hS : va_S (fun q : Nat => s.heap.size ≤ q) s.heap H locs) (hl : lv_has ls 8 [(0, .ref b), (1, .ref (a 0)), (2, .ref (mb 0)), (3, .ref q), (4, .int i)]) : W p l e room_1 s m #[Value.ref b] below meth c H locs uc us (lw_Z below #[Value.ref b] s) (F0 m 1140 ls []) := by
  obtain ⟨hx, hb, hml, hown, hts, hr, hlocks, hK, hE, hX, hbl, hl0⟩ := id G
  have hbA : ¬ (fun q : Nat => s.heap.size ≤ q) b := Nat.not_le.mpr hbl
  unfold p_law_1140 at h
  refine lv_aload_n hx hb dL_law_1140 rfl (lv_at hl 1 rfl) ?_
  refine xc_Vv (wf := wC cyI cyJ cyZ a) (S := S) (wr := ([(q, .inl (cyJ, 1, .inr (.inl o)))] ++ wM cyI cyJ cyZ mb M)) (isC := [0, 1, 2, 3, 4, 5, 6, 7, 8, 9, 10, 11, 12, 13, 14, 15, 16, 17, 18, 19, 20]) (isR := [21, 22, 23, 24, 25, 26, 27, 28, 29, 30, 31, 32, 33, 34, 35, 36, 37, 38, 39, 40, 41, 42]) (As := []) (rest := []) ⟨hx, hb, hml, hown, hts⟩ (t_X5_clear h) (cwV 0 hts gL_law_X5_clear rfl rfl rfl (by decide +kernel) ⟨Nat.le_of_ble_eq_true rfl, Nat.le_of_ble_eq_true rfl⟩) ⟨hK, hE, fun _ h => h, hP, hD, hS, rfl, rfl, rfl, rfl, by decide⟩ ⟨0, 4, _, _, rfl, rfl, rfl⟩ rfl rfl hl.1 (Nat.le_of_ble_eq_true rfl) dL_law_1141 ⟨hu.1, hu.2⟩ (fun  S77 H locs h hP hD hS => ?_)
  have hP : va_P (dC, dI) vwCl (wW cyI cyJ cyZ a q mb S77 o M) H := hP.sub [22, 23, 24, 25, 26, 27, 28, 29, 30, 31, 32, 33, 34, 35, 36, 37, 38, 39, 40, 41, 42, 0, 1, 2, 3, 4, 5, 6, 7, 8, 9, 10, 11, 12, 13, 14, 15, 16, 17, 18, 19, 20, 21] rfl
  have hD : va_D (fun q : Nat => s.heap.size ≤ q) (wW cyI cyJ cyZ a q mb S77 o M) := hD.sub [22, 23, 24, 25, 26, 27, 28, 29, 30, 31, 32, 33, 34, 35, 36, 37, 38, 39, 40, 41, 42, 0, 1, 2, 3, 4, 5, 6, 7, 8, 9, 10, 11, 12, 13, 14, 15, 16, 17, 18, 19, 20, 21] (by decide) rfl
  refine W.cs (cells' := uc) (slots' := us) rfl rfl ?_
  refine lv_aload_n hx hb dL_law_1144 rfl (lv_at hl 2 rfl) ?_
  refine xc_Vv (wf := wM cyI cyJ cyZ mb) (S := M) (wr := wL cyI cyJ cyZ a q (S77, o)) (isC := [22, 23, 24, 25, 26, 27, 28, 29, 30, 31, 32, 33, 34, 35, 36, 37, 38, 39, 40, 41, 42]) (isR := [0, 1, 2, 3, 4, 5, 6, 7, 8, 9, 10, 11, 12, 13, 14, 15, 16, 17, 18, 19, 20, 21]) (As := []) (rest := []) ⟨hx, hb, hml, hown, hts⟩ (t_X6_clear h) (cwV 0 hts gL_law_X6_clear rfl rfl rfl (by decide +kernel) ⟨Nat.le_of_ble_eq_true rfl, Nat.le_of_ble_eq_true rfl⟩) ⟨hK, hE, fun _ h => h, hP, hD, hS, rfl, rfl, rfl, rfl, by decide⟩ ⟨0, 5, _, _, rfl, rfl, rfl⟩ rfl rfl hl.1 (Nat.le_of_ble_eq_true rfl) dL_law_1145 ⟨hu.1, hu.2⟩ (fun  M78 H locs h hP hD hS => ?_)
  have hP : va_P (dC, dI) vwCl (wW cyI cyJ cyZ a q mb S77 o M78) H := hP
  have hD : va_D (fun q : Nat => s.heap.size ≤ q) (wW cyI cyJ cyZ a q mb S77 o M78) := hD
  refine W.cs (cells' := uc) (slots' := us) rfl rfl ?_
  refine lv_goto (tgt := 1151) hx hb dL_law_1148 (by decide) ?_
  obtain ⟨y79, ey79⟩ : ∃ z : Int32, z = (i + (4 : Int32)) := ⟨_, rfl⟩
  have h := h y79 ey79
  refine lv_iinc (v := y79) (lv' := [(4, .int y79), (0, .ref b), (1, .ref (a 0)), (2, .ref (mb 0)), (3, .ref q)]) hx hb dL_law_1151 hl (k := 4) rfl (by rw [ey79]; rfl) (by decide) rfl (fun ls hl => ?_)
  refine lv_goto (tgt := 23) hx hb dL_law_1154 (by decide) ?_
  exact k23 _ _ _ _ _ _ H locs ls hu h hP hD hS (lv_sub hl [1, 2, 3, 4, 0] rfl)
