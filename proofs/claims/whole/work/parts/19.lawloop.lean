def b_law_23 (xs : Nat → Int32) (L : Nat) (g23 : CS → (Nat → Int64) → MS → Int32 → Nat → Nat → Prop) (S : CS) (o : Nat → Int64) (M : MS) (i : Int32) (uc us : Nat) : Prop := ((Int32.ofNat L - (4 : Int32)) < i → True) ∧ (¬ (Int32.ofNat L - (4 : Int32)) < i → (vp_in i L ∧ ((((xs i.toNatClampNeg) &&& (31 : Int32)) = (0 : Int32) → (p_law_128 g23 xs L S o M i uc us)) ∧ (¬ ((xs i.toNatClampNeg) &&& (31 : Int32)) = (0 : Int32) → ((((xs i.toNatClampNeg) &&& (31 : Int32)) = (1 : Int32) → (p_law_172 g23 xs L S o M i uc us)) ∧ (¬ ((xs i.toNatClampNeg) &&& (31 : Int32)) = (1 : Int32) → ((((xs i.toNatClampNeg) &&& (31 : Int32)) = (2 : Int32) → (p_law_240 g23 xs L S o M i uc us)) ∧ (¬ ((xs i.toNatClampNeg) &&& (31 : Int32)) = (2 : Int32) → ((((xs i.toNatClampNeg) &&& (31 : Int32)) = (3 : Int32) → (p_law_296 g23 xs L S o M i uc us)) ∧ (¬ ((xs i.toNatClampNeg) &&& (31 : Int32)) = (3 : Int32) → ((((xs i.toNatClampNeg) &&& (31 : Int32)) = (4 : Int32) → (p_law_376 g23 xs L S o M i uc us)) ∧ (¬ ((xs i.toNatClampNeg) &&& (31 : Int32)) = (4 : Int32) → ((((xs i.toNatClampNeg) &&& (31 : Int32)) = (5 : Int32) → (p_law_463 g23 xs L S o M i uc us)) ∧ (¬ ((xs i.toNatClampNeg) &&& (31 : Int32)) = (5 : Int32) → ((((xs i.toNatClampNeg) &&& (31 : Int32)) = (6 : Int32) → (p_law_538 g23 xs L S o M i uc us)) ∧ (¬ ((xs i.toNatClampNeg) &&& (31 : Int32)) = (6 : Int32) → ((((xs i.toNatClampNeg) &&& (31 : Int32)) = (7 : Int32) → (p_law_594 g23 xs L S o M i uc us)) ∧ (¬ ((xs i.toNatClampNeg) &&& (31 : Int32)) = (7 : Int32) → ((((xs i.toNatClampNeg) &&& (31 : Int32)) = (8 : Int32) → (p_law_661 g23 xs L S o M i uc us)) ∧ (¬ ((xs i.toNatClampNeg) &&& (31 : Int32)) = (8 : Int32) → ((((xs i.toNatClampNeg) &&& (31 : Int32)) = (9 : Int32) → (p_law_729 g23 xs L S o M i uc us)) ∧ (¬ ((xs i.toNatClampNeg) &&& (31 : Int32)) = (9 : Int32) → ((((xs i.toNatClampNeg) &&& (31 : Int32)) = (10 : Int32) → (p_law_785 g23 xs L S o M i uc us)) ∧ (¬ ((xs i.toNatClampNeg) &&& (31 : Int32)) = (10 : Int32) → ((((xs i.toNatClampNeg) &&& (31 : Int32)) = (11 : Int32) → (p_law_853 g23 xs L S o M i uc us)) ∧ (¬ ((xs i.toNatClampNeg) &&& (31 : Int32)) = (11 : Int32) → ((((xs i.toNatClampNeg) &&& (31 : Int32)) = (12 : Int32) → (p_law_866 g23 xs L S o M i uc us)) ∧ (¬ ((xs i.toNatClampNeg) &&& (31 : Int32)) = (12 : Int32) → ((((xs i.toNatClampNeg) &&& (31 : Int32)) = (13 : Int32) → (p_law_922 g23 xs L S o M i uc us)) ∧ (¬ ((xs i.toNatClampNeg) &&& (31 : Int32)) = (13 : Int32) → ((((xs i.toNatClampNeg) &&& (31 : Int32)) = (14 : Int32) → (p_law_935 g23 xs L S o M i uc us)) ∧ (¬ ((xs i.toNatClampNeg) &&& (31 : Int32)) = (14 : Int32) → ((((xs i.toNatClampNeg) &&& (31 : Int32)) = (15 : Int32) → (p_law_948 g23 xs L S o M i uc us)) ∧ (¬ ((xs i.toNatClampNeg) &&& (31 : Int32)) = (15 : Int32) → ((((xs i.toNatClampNeg) &&& (31 : Int32)) = (16 : Int32) → (p_law_1016 g23 xs L S o M i uc us)) ∧ (¬ ((xs i.toNatClampNeg) &&& (31 : Int32)) = (16 : Int32) → ((((xs i.toNatClampNeg) &&& (31 : Int32)) = (17 : Int32) → (p_law_1084 g23 xs L S o M i uc us)) ∧ (¬ ((xs i.toNatClampNeg) &&& (31 : Int32)) = (17 : Int32) → ((((xs i.toNatClampNeg) &&& (31 : Int32)) = (18 : Int32) → (p_law_1140 g23 xs L S o M i uc us)) ∧ (¬ ((xs i.toNatClampNeg) &&& (31 : Int32)) = (18 : Int32) → (∀ y1 : Int32, y1 = (i + (4 : Int32)) → (g23 S o M y1 uc us))))))))))))))))))))))))))))))))))))))))))
def p_law_23 (xs : Nat → Int32) (L : Nat) (S : CS) (o : Nat → Int64) (M : MS) (i : Int32) (uc us : Nat) : Prop := ∃ (I : CS → (Nat → Int64) → MS → Int32 → Nat → Nat → Prop) (mu : CS → (Nat → Int64) → MS → Int32 → Nat → Nat → Nat), I S o M i uc us ∧ ∀ (S : CS) (o : Nat → Int64) (M : MS) (i : Int32) (uc us : Nat), I S o M i uc us → b_law_23 xs L (fun S' o' M' i' uc' us' => I S' o' M' i' uc' us' ∧ mu S' o' M' i' uc' us' < mu S o M i uc us) S o M i uc us
set_option maxHeartbeats 2000000 in
set_option maxRecDepth 100000 in
theorem t_law_23 {p : Program} {l : Launch} {e : Env} {s : State} {m : MethodId} {below : List Frame} {meth : Method} {c : Code} {dC : Nat → ClassId} {dI : Nat → Nat → Nat} {cyI cyJ cyZ : ClassId} {r : Nat → Nat} {a mb : Nat → Nat} {q b L : Nat} {xs : Nat → Int32} {S : CS} {o : Nat → Int64} {M : MS} {i : Int32} {uc us : Nat} (G : xLG p l s m meth c b L xs dC dI cyI cyJ cyZ r) (h : p_law_23 xs L S o M i uc us) {H : Heap} {locs : List Loc} {ls : Array Slot} (hu : uc ≤ 601024 ∧ us ≤ 7293034) (hP : va_P (dC, dI) vwCl (wW cyI cyJ cyZ a q mb S o M) H) (hD : va_D (fun q : Nat => s.heap.size ≤ q) (wW cyI cyJ cyZ a q mb S o M)) (hS : va_S (fun q : Nat => s.heap.size ≤ q) s.heap H locs) (hl : lv_has ls 8 [(0, .ref b), (1, .ref (a 0)), (2, .ref (mb 0)), (3, .ref q), (4, .int i)]) : W p l e room_1 s m #[Value.ref b] below meth c H locs uc us (lw_Z below #[Value.ref b] s) (F0 m 23 ls []) := by
  obtain ⟨hx, hb, hml, hown, hts, hr, hlocks, hK, hE, hX, hbl, hl0⟩ := id G
  have hbA : ¬ (fun q : Nat => s.heap.size ≤ q) b := Nat.not_le.mpr hbl
  obtain ⟨I, mu, h0, hstep⟩ := h
  suffices hgo : ∀ (n : Nat) (S : CS) (o : Nat → Int64) (M : MS) (i : Int32) (uc us : Nat), I S o M i uc us → mu S o M i uc us < n → ∀ (H : Heap) (locs : List Loc) (ls : Array Slot), (uc ≤ 601024 ∧ us ≤ 7293034) → va_P (dC, dI) vwCl (wW cyI cyJ cyZ a q mb S o M) H → va_D (fun q : Nat => s.heap.size ≤ q) (wW cyI cyJ cyZ a q mb S o M) → va_S (fun q : Nat => s.heap.size ≤ q) s.heap H locs → lv_has ls 8 [(0, .ref b), (1, .ref (a 0)), (2, .ref (mb 0)), (3, .ref q), (4, .int i)] → W p l e room_1 s m #[Value.ref b] below meth c H locs uc us (lw_Z below #[Value.ref b] s) (F0 m 23 ls []) from hgo (mu S o M i uc us + 1) S o M i uc us h0 (Nat.lt_succ_self _) H locs ls hu hP hD hS hl
  clear h0 hP hD hS hl hu
  intro n
  induction n with
  | zero => intro S o M i uc us _ h; exact absurd h (Nat.not_lt_zero _)
  | succ n ih =>
    intro S o M i uc us hI hmu H locs ls hu hP hD hS hl
    have h := hstep S o M i uc us hI
    unfold b_law_23 at h
    have k23 : ∀ (S' : CS) (o' : Nat → Int64) (M' : MS) (i' : Int32) (uc' us' : Nat) (H : Heap) (locs : List Loc) (ls : Array Slot), (uc' ≤ 601024 ∧ us' ≤ 7293034) → (fun S' o' M' i' uc' us' => I S' o' M' i' uc' us' ∧ mu S' o' M' i' uc' us' < mu S o M i uc us) S' o' M' i' uc' us' → va_P (dC, dI) vwCl (wW cyI cyJ cyZ a q mb S' o' M') H → va_D (fun q : Nat => s.heap.size ≤ q) (wW cyI cyJ cyZ a q mb S' o' M') → va_S (fun q : Nat => s.heap.size ≤ q) s.heap H locs → lv_has ls 8 [(0, .ref b), (1, .ref (a 0)), (2, .ref (mb 0)), (3, .ref q), (4, .int i')] → W p l e room_1 s m #[Value.ref b] below meth c H locs uc' us' (lw_Z below #[Value.ref b] s) (F0 m 23 ls []) := fun S' o' M' i' uc' us' H locs ls hu hh hP hD hS hl => ih S' o' M' i' uc' us' hh.1 (Nat.lt_of_lt_of_le hh.2 (Nat.le_of_lt_succ hmu)) H locs ls hu hP hD hS hl
    generalize (fun S' o' M' i' uc' us' => I S' o' M' i' uc' us' ∧ mu S' o' M' i' uc' us' < mu S o M i uc us) = g23 at h k23
    refine lv_iload hx hb dL_law_23 (lv_at hl 4 rfl) ?_
    refine lv_aload_n hx hb dL_law_25 rfl (lv_at hl 0 rfl) ?_
    refine va_slen hx hb hX hbl hbA hS dL_law_26 ?_
    refine lv_iconst (v := 4) hx hb dL_law_27 (by decide) ?_
    refine lv_isub hx hb dL_law_28 ?_
    refine lv_icmp_gt (tgt := 1157) hx hb dL_law_29 (by decide) (fun c1 => ?_) (fun c1 => ?_)
    · refine lv_iconst (v := 1) hx hb dL_law_1157 (by decide) ?_
      refine va_forget (fun z hz => hS.2.2 z hz) ?_
      refine W.widen (k := 601024) (n := 7293034) hu.1 hu.2 ?_
      exact lw_ret hx hb hr hlocks dL_law_1158
    · have h := h.2 c1
      obtain ⟨hi, h⟩ := h
      refine lv_aload_n hx hb dL_law_32 rfl (lv_at hl 0 rfl) ?_
      refine lv_iload hx hb dL_law_33 (lv_at hl 4 rfl) ?_
      refine va_sld hx hb hX hbl hbA hS hi dL_law_35 ?_
      refine lv_bipush (v := 31) hx hb dL_law_36 (by decide) ?_
      refine lv_iand hx hb dL_law_38 ?_
      by_cases c0_ : ((xs i.toNatClampNeg) &&& (31 : Int32)) = (0 : Int32)
      · have h := h.1 c0_
        refine lv_tableIn (tgt := 128) (off := 89) hx hb dL_law_39 (by rw [c0_]; decide) (by rw [c0_]; decide) (by rw [c0_]; rfl) (by decide) ?_
        exact t_law_128 G k23 h hu hP hD hS hl
      · have h := h.2 c0_
        by_cases c1_ : ((xs i.toNatClampNeg) &&& (31 : Int32)) = (1 : Int32)
        · have h := h.1 c1_
          refine lv_tableIn (tgt := 172) (off := 133) hx hb dL_law_39 (by rw [c1_]; decide) (by rw [c1_]; decide) (by rw [c1_]; rfl) (by decide) ?_
          exact t_law_172 G k23 h hu hP hD hS hl
        · have h := h.2 c1_
          by_cases c2_ : ((xs i.toNatClampNeg) &&& (31 : Int32)) = (2 : Int32)
          · have h := h.1 c2_
            refine lv_tableIn (tgt := 240) (off := 201) hx hb dL_law_39 (by rw [c2_]; decide) (by rw [c2_]; decide) (by rw [c2_]; rfl) (by decide) ?_
            exact t_law_240 G k23 h hu hP hD hS hl
          · have h := h.2 c2_
            by_cases c3_ : ((xs i.toNatClampNeg) &&& (31 : Int32)) = (3 : Int32)
            · have h := h.1 c3_
              refine lv_tableIn (tgt := 296) (off := 257) hx hb dL_law_39 (by rw [c3_]; decide) (by rw [c3_]; decide) (by rw [c3_]; rfl) (by decide) ?_
              exact t_law_296 G k23 h hu hP hD hS hl
            · have h := h.2 c3_
              by_cases c4_ : ((xs i.toNatClampNeg) &&& (31 : Int32)) = (4 : Int32)
              · have h := h.1 c4_
                refine lv_tableIn (tgt := 376) (off := 337) hx hb dL_law_39 (by rw [c4_]; decide) (by rw [c4_]; decide) (by rw [c4_]; rfl) (by decide) ?_
                exact t_law_376 G k23 h hu hP hD hS hl
              · have h := h.2 c4_
                by_cases c5_ : ((xs i.toNatClampNeg) &&& (31 : Int32)) = (5 : Int32)
                · have h := h.1 c5_
                  refine lv_tableIn (tgt := 463) (off := 424) hx hb dL_law_39 (by rw [c5_]; decide) (by rw [c5_]; decide) (by rw [c5_]; rfl) (by decide) ?_
                  exact t_law_463 G k23 h hu hP hD hS hl
                · have h := h.2 c5_
                  by_cases c6_ : ((xs i.toNatClampNeg) &&& (31 : Int32)) = (6 : Int32)
                  · have h := h.1 c6_
                    refine lv_tableIn (tgt := 538) (off := 499) hx hb dL_law_39 (by rw [c6_]; decide) (by rw [c6_]; decide) (by rw [c6_]; rfl) (by decide) ?_
                    exact t_law_538 G k23 h hu hP hD hS hl
                  · have h := h.2 c6_
                    by_cases c7_ : ((xs i.toNatClampNeg) &&& (31 : Int32)) = (7 : Int32)
                    · have h := h.1 c7_
                      refine lv_tableIn (tgt := 594) (off := 555) hx hb dL_law_39 (by rw [c7_]; decide) (by rw [c7_]; decide) (by rw [c7_]; rfl) (by decide) ?_
                      exact t_law_594 G k23 h hu hP hD hS hl
                    · have h := h.2 c7_
                      by_cases c8_ : ((xs i.toNatClampNeg) &&& (31 : Int32)) = (8 : Int32)
                      · have h := h.1 c8_
                        refine lv_tableIn (tgt := 661) (off := 622) hx hb dL_law_39 (by rw [c8_]; decide) (by rw [c8_]; decide) (by rw [c8_]; rfl) (by decide) ?_
                        exact t_law_661 G k23 h hu hP hD hS hl
                      · have h := h.2 c8_
                        by_cases c9_ : ((xs i.toNatClampNeg) &&& (31 : Int32)) = (9 : Int32)
                        · have h := h.1 c9_
                          refine lv_tableIn (tgt := 729) (off := 690) hx hb dL_law_39 (by rw [c9_]; decide) (by rw [c9_]; decide) (by rw [c9_]; rfl) (by decide) ?_
                          exact t_law_729 G k23 h hu hP hD hS hl
                        · have h := h.2 c9_
                          by_cases c10_ : ((xs i.toNatClampNeg) &&& (31 : Int32)) = (10 : Int32)
                          · have h := h.1 c10_
                            refine lv_tableIn (tgt := 785) (off := 746) hx hb dL_law_39 (by rw [c10_]; decide) (by rw [c10_]; decide) (by rw [c10_]; rfl) (by decide) ?_
                            exact t_law_785 G k23 h hu hP hD hS hl
                          · have h := h.2 c10_
                            by_cases c11_ : ((xs i.toNatClampNeg) &&& (31 : Int32)) = (11 : Int32)
                            · have h := h.1 c11_
                              refine lv_tableIn (tgt := 853) (off := 814) hx hb dL_law_39 (by rw [c11_]; decide) (by rw [c11_]; decide) (by rw [c11_]; rfl) (by decide) ?_
                              exact t_law_853 G k23 h hu hP hD hS hl
                            · have h := h.2 c11_
                              by_cases c12_ : ((xs i.toNatClampNeg) &&& (31 : Int32)) = (12 : Int32)
                              · have h := h.1 c12_
                                refine lv_tableIn (tgt := 866) (off := 827) hx hb dL_law_39 (by rw [c12_]; decide) (by rw [c12_]; decide) (by rw [c12_]; rfl) (by decide) ?_
                                exact t_law_866 G k23 h hu hP hD hS hl
                              · have h := h.2 c12_
                                by_cases c13_ : ((xs i.toNatClampNeg) &&& (31 : Int32)) = (13 : Int32)
                                · have h := h.1 c13_
                                  refine lv_tableIn (tgt := 922) (off := 883) hx hb dL_law_39 (by rw [c13_]; decide) (by rw [c13_]; decide) (by rw [c13_]; rfl) (by decide) ?_
                                  exact t_law_922 G k23 h hu hP hD hS hl
                                · have h := h.2 c13_
                                  by_cases c14_ : ((xs i.toNatClampNeg) &&& (31 : Int32)) = (14 : Int32)
                                  · have h := h.1 c14_
                                    refine lv_tableIn (tgt := 935) (off := 896) hx hb dL_law_39 (by rw [c14_]; decide) (by rw [c14_]; decide) (by rw [c14_]; rfl) (by decide) ?_
                                    exact t_law_935 G k23 h hu hP hD hS hl
                                  · have h := h.2 c14_
                                    by_cases c15_ : ((xs i.toNatClampNeg) &&& (31 : Int32)) = (15 : Int32)
                                    · have h := h.1 c15_
                                      refine lv_tableIn (tgt := 948) (off := 909) hx hb dL_law_39 (by rw [c15_]; decide) (by rw [c15_]; decide) (by rw [c15_]; rfl) (by decide) ?_
                                      exact t_law_948 G k23 h hu hP hD hS hl
                                    · have h := h.2 c15_
                                      by_cases c16_ : ((xs i.toNatClampNeg) &&& (31 : Int32)) = (16 : Int32)
                                      · have h := h.1 c16_
                                        refine lv_tableIn (tgt := 1016) (off := 977) hx hb dL_law_39 (by rw [c16_]; decide) (by rw [c16_]; decide) (by rw [c16_]; rfl) (by decide) ?_
                                        exact t_law_1016 G k23 h hu hP hD hS hl
                                      · have h := h.2 c16_
                                        by_cases c17_ : ((xs i.toNatClampNeg) &&& (31 : Int32)) = (17 : Int32)
                                        · have h := h.1 c17_
                                          refine lv_tableIn (tgt := 1084) (off := 1045) hx hb dL_law_39 (by rw [c17_]; decide) (by rw [c17_]; decide) (by rw [c17_]; rfl) (by decide) ?_
                                          exact t_law_1084 G k23 h hu hP hD hS hl
                                        · have h := h.2 c17_
                                          by_cases c18_ : ((xs i.toNatClampNeg) &&& (31 : Int32)) = (18 : Int32)
                                          · have h := h.1 c18_
                                            refine lv_tableIn (tgt := 1140) (off := 1101) hx hb dL_law_39 (by rw [c18_]; decide) (by rw [c18_]; decide) (by rw [c18_]; rfl) (by decide) ?_
                                            exact t_law_1140 G k23 h hu hP hD hS hl
                                          · have h := h.2 c18_
                                            refine lv_tableOut (tgt := 1151) hx hb dL_law_39 (xsw_out19 c0_ c1_ c2_ c3_ c4_ c5_ c6_ c7_ c8_ c9_ c10_ c11_ c12_ c13_ c14_ c15_ c16_ c17_ c18_) (by decide) ?_
                                            obtain ⟨y1, ey1⟩ : ∃ z : Int32, z = (i + (4 : Int32)) := ⟨_, rfl⟩
                                            have h := h y1 ey1
                                            refine lv_iinc (v := y1) (lv' := [(4, .int y1), (0, .ref b), (1, .ref (a 0)), (2, .ref (mb 0)), (3, .ref q)]) hx hb dL_law_1151 hl (k := 4) rfl (by rw [ey1]; rfl) (by decide) rfl (fun ls hl => ?_)
                                            refine lv_goto (tgt := 23) hx hb dL_law_1154 (by decide) ?_
                                            exact k23 _ _ _ _ _ _ H locs ls hu h hP hD hS (lv_sub hl [1, 2, 3, 4, 0] rfl)
