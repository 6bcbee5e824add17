/-! 72 CASE5: the law's cases input and and -/
def updB (f : Nat → Bool) (k : Nat) (b : Bool) : Nat → Bool := fun j => if j = k then b else f j
def updC (f : Nat → List Nat) (k : Nat) (L : List Nat) : Nat → List Nat := fun j => if j = k then L else f j
theorem ub_s {f : Nat → Bool} {k : Nat} {b : Bool} : updB f k b k = b := if_pos rfl
theorem ub_n {f : Nat → Bool} {k j : Nat} {b : Bool} (h : j ≠ k) : updB f k b j = f j := if_neg h
theorem uc_s {f : Nat → List Nat} {k : Nat} {b : List Nat} : updC f k b k = b := if_pos rfl
theorem uc_n {f : Nat → List Nat} {k j : Nat} {b : List Nat} (h : j ≠ k) : updC f k b j = f j := if_neg h
theorem of1_gc {K n : Nat} {pn tr de P : Nat → Nat} {ip ip' : Nat → Bool} {il ir il' ir' : Nat → Nat} {Ls : List Nat} (h : ∀ j, j ≤ n → ip j = ip' j ∧ il j = il' j ∧ ir j = ir' j) : of1 K pn tr de P ip il ir Ls n = of1 K pn tr de P ip' il' ir' Ls n := by
  have e : ∀ m, tab ip il ir m n = tab ip' il' ir' m n := fun m => tab_gc h
  funext b e' y
  unfold of1
  simp only [e]
theorem setSp_gc {K n : Nat} {pn tr de P P1 : Nat → Nat} {ip ip' : Nat → Bool} {il ir il' ir' : Nat → Nat} {ct ct' : Nat → List Nat} {tmn tmn' : Nat → Nat} (h : ∀ j, j < n → ip j = ip' j ∧ il j = il' j ∧ ir j = ir' j) (hc : ∀ k, k < n → ct k = ct' k) (ht : ∀ k, k < n → tmn k = tmn' k) (q : setSp K pn tr de P P1 ip il ir ct tmn n) : setSp K pn tr de P P1 ip' il' ir' ct' tmn' n := by
  intro k hk
  obtain ⟨q1, q2, q3⟩ := q k hk
  refine ⟨?_, q2, q3⟩
  rw [← hc k hk, ← ht k hk]
  unfold nodeSp at q1 ⊢
  rw [← (h k hk).1, ← of1_gc (fun j hj => h j (by omega))]
  exact q1
section C5
variable {g23 : CS → (Nat → Int64) → MS → Int32 → Nat → Nat → Prop} {xs : Nat → Int32} {L : Nat} {S : CS} {o : Nat → Int64} {M : MS} {i : Int32} {uc us : Nat}
theorem w_128 (hR : Rel S M) (hb : uc + 1 ≤ 601024 ∧ us + 6 ≤ 7293034) (hgo : ∀ S' o' M' y, Rel S' M' → cLVn S' = cLVn S → y = i + (4 : Int32) → g23 S' o' M' y (uc + 1) (us + 6)) : p_law_128 g23 xs L S o M i uc us := by
  obtain ⟨N, I, K, O, pn, tr, ar, de, ip, il, ir, nb, inN, ct, tmn, ol, hA, hC, hM⟩ := hR
  obtain ⟨h1, h2, h3, h4, h5, h6, h7, h8, h9, s, P, P1, s1, s2, s3, s4⟩ := id hC
  obtain ⟨m1, m2, m3, m4, m5, m6, m7, m8, m9, ms⟩ := id hM
  obtain ⟨a1, a2, a3, a4, a5, a6, a7, a8, a9, a10⟩ := id hA
  have k8 : (8 : Int32) = nI 8 := rfl
  have k2 : (2 : Int32) = nI 2 := rfl
  unfold p_law_128 p_L_input p_X5_input
  refine ⟨1, 6, hb, ⟨by omega, by omega⟩, ?_⟩
  rw [h3, k8]
  refine c2 (nI_ltI (by omega) (by omega)) (fun z => ?_) (fun z => ⟨fun _ => ?_, rfl⟩)
  · unfold p_X2_addInput
    rw [h2, bx_cl (show N < 2 ^ 31 by omega)]
    refine ⟨bx_in (by omega) (by omega), ?_⟩
    intro S2 e2
    have i2 : cIC S2 = nI I := by rw [e2, gs_cIC_IN]; exact h3
    rw [i2, bx_cl (show I < 2 ^ 31 by omega)]
    refine ⟨bx_in (by omega) (by omega), ?_⟩
    intro S4 e4 S5 e5 S6 e6
    have xLE : cLE S6 = cLE S := by rw [e6, gs_cLE_NC, e5, gs_cLE_IC, e4, gs_cLE_IT, e2, gs_cLE_IN]
    have xRI : cRI S6 = cRI S := by rw [e6, gs_cRI_NC, e5, gs_cRI_IC, e4, gs_cRI_IT, e2, gs_cRI_IN]
    have xST : cST S6 = cST S := by rw [e6, gs_cST_NC, e5, gs_cST_IC, e4, gs_cST_IT, e2, gs_cST_IN]
    have xLV : cLV S6 = cLV S := by rw [e6, gs_cLV_NC, e5, gs_cLV_IC, e4, gs_cLV_IT, e2, gs_cLV_IN]
    have xFN : cFN S6 = cFN S := by rw [e6, gs_cFN_NC, e5, gs_cFN_IC, e4, gs_cFN_IT, e2, gs_cFN_IN]
    have xLVn : cLVn S6 = cLVn S := by rw [e6, gs_cLVn_NC, e5, gs_cLVn_IC, e4, gs_cLVn_IT, e2, gs_cLVn_IN]
    have xFNn : cFNn S6 = cFNn S := by rw [e6, gs_cFNn_NC, e5, gs_cFNn_IC, e4, gs_cFNn_IT, e2, gs_cFNn_IN]
    have xCC : cCC S6 = cCC S := by rw [e6, gs_cCC_NC, e5, gs_cCC_IC, e4, gs_cCC_IT, e2, gs_cCC_IN]
    have xPI : cPI S6 = cPI S := by rw [e6, gs_cPI_NC, e5, gs_cPI_IC, e4, gs_cPI_IT, e2, gs_cPI_IN]
    have xTR : cTR S6 = cTR S := by rw [e6, gs_cTR_NC, e5, gs_cTR_IC, e4, gs_cTR_IT, e2, gs_cTR_IN]
    have xAR : cAR S6 = cAR S := by rw [e6, gs_cAR_NC, e5, gs_cAR_IC, e4, gs_cAR_IT, e2, gs_cAR_IN]
    have xDE : cDE S6 = cDE S := by rw [e6, gs_cDE_NC, e5, gs_cDE_IC, e4, gs_cDE_IT, e2, gs_cDE_IN]
    have xAG : cAG S6 = cAG S := by rw [e6, gs_cAG_NC, e5, gs_cAG_IC, e4, gs_cAG_IT, e2, gs_cAG_IN]
    have xOC : cOC S6 = cOC S := by rw [e6, gs_cOC_NC, e5, gs_cOC_IC, e4, gs_cOC_IT, e2, gs_cOC_IN]
    have xOL : cOL S6 = cOL S := by rw [e6, gs_cOL_NC, e5, gs_cOL_IC, e4, gs_cOL_IT, e2, gs_cOL_IN]
    have xSE : cSE S6 = cSE S := by rw [e6, gs_cSE_NC, e5, gs_cSE_IC, e4, gs_cSE_IT, e2, gs_cSE_IN]
    have xGA : cGA S6 = cGA S := by rw [e6, gs_cGA_NC, e5, gs_cGA_IC, e4, gs_cGA_IT, e2, gs_cGA_IN]
    have xIN : cIN S6 = upd (cIN S) N (nI I) := by rw [e6, gs_cIN_NC, e5, gs_cIN_IC, e4, gs_cIN_IT, e2, gs_cIN_IN, h3]
    have xIT : cIT S6 = upd (cIT S) I 0 := by rw [e6, gs_cIT_NC, e5, gs_cIT_IC, e4, gs_cIT_IT, e2, gs_cIT_IN]
    have xIC : cIC S6 = nI (I + 1) := by rw [e6, gs_cIC_NC, e5, gs_cIC_IC, e4, gs_cIC_IT, i2, nI_1]
    have xNC : cNC S6 = nI (N + 1) := by rw [e6, gs_cNC_NC, e5, gs_cNC_IC, e4, gs_cNC_IT, e2, gs_cNC_IN, h2, nI_1]
    have ag : ∀ j, j < N → ip j = updB ip N true j ∧ il j = il j ∧ ir j = ir j := fun j hj => ⟨(ub_n (by omega)).symm, rfl, rfl⟩
    have cg : ∀ k, k < N → ct k = updC ct N [] k := fun k hk => (uc_n (by omega)).symm
    have tg : ∀ k, k < N → tmn k = updN tmn N 0 k := fun k hk => (un_n (by omega)).symm
    have G6 : cG S6 (updB ip N true) il ir (N + 1) := by
      refine ⟨by omega, fun k hk => ?_⟩
      by_cases ek : k = N
      · subst ek
        rw [ub_s, xIN, pk_us]
        exact ⟨fun _ => nI_m1 (by omega), fun q => absurd q (by decide)⟩
      · rw [ub_n ek, xIN, pk_un ek, xLE, xRI]
        exact h1.2 k (by omega)
    have T6 : cT S6 (updB ip N true) il ir (updC ct N []) N := cT_gc ag cg (cT_same h4 xST xLV xFN xLVn xFNn)
    rw [xNC, nI_pred]
    refine ⟨0, 0, ⟨by omega, by omega⟩, q_addNodeI G6 ub_s T6 uc_s (fun S' er T' eLn => ?_)⟩
    obtain ⟨r1, r2, r3, r4, r5, r6, r7, r8, r9, r10, r11, r12, r13, r14, r15, r16, r17⟩ := rsA_of er
    refine pi2 ?_
    unfold p_X6_input
    rw [m4, k8]
    refine ⟨fun q => absurd q (nI_ge z (by omega)), fun _ => ?_⟩
    unfold p_X6_input_15
    intro M2 f2
    have j2 : mND M2 = nI N := by rw [f2, gs_mND_TH]; exact m3
    rw [show mTH M2 = 0 by rw [f2, gs_mTH_TH], j2, bx_cl (show N < 2 ^ 31 by omega)]
    refine ⟨fun _ => ⟨bx_in (by omega) (by omega), ?_⟩, fun q => absurd (by decide) q⟩
    intro M5 f5
    have j5 : mIP M5 = nI I := by rw [f5, gs_mIP_ON, f2, gs_mIP_TH]; exact m4
    rw [j5, bx_cl (show I < 2 ^ 31 by omega)]
    refine ⟨bx_in (by omega) (by omega), ?_⟩
    intro M7 f7
    have j7 : mIP M7 = nI I := by rw [f7, gs_mIP_IN]; exact j5
    rw [j7, bx_cl (show I < 2 ^ 31 by omega)]
    refine ⟨bx_in (by omega) (by omega), ?_⟩
    intro M9 f9 M10 f10 M11 f11 M12 f12
    have yAN : mAN M12 = mAN M := by rw [f12, gs_mAN_SL, f11, gs_mAN_ND, f10, gs_mAN_IP, f9, gs_mAN_TI, f7, gs_mAN_IN, f5, gs_mAN_ON, f2, gs_mAN_TH]
    have yOU : mOU M12 = mOU M := by rw [f12, gs_mOU_SL, f11, gs_mOU_ND, f10, gs_mOU_IP, f9, gs_mOU_TI, f7, gs_mOU_IN, f5, gs_mOU_ON, f2, gs_mOU_TH]
    have yCE : mCE M12 = mCE M := by rw [f12, gs_mCE_SL, f11, gs_mCE_ND, f10, gs_mCE_IP, f9, gs_mCE_TI, f7, gs_mCE_IN, f5, gs_mCE_ON, f2, gs_mCE_TH]
    have yTW : mTW M12 = mTW M := by rw [f12, gs_mTW_SL, f11, gs_mTW_ND, f10, gs_mTW_IP, f9, gs_mTW_TI, f7, gs_mTW_IN, f5, gs_mTW_ON, f2, gs_mTW_TH]
    have yOL : mOL M12 = mOL M := by rw [f12, gs_mOL_SL, f11, gs_mOL_ND, f10, gs_mOL_IP, f9, gs_mOL_TI, f7, gs_mOL_IN, f5, gs_mOL_ON, f2, gs_mOL_TH]
    have yPI : mPI M12 = mPI M := by rw [f12, gs_mPI_SL, f11, gs_mPI_ND, f10, gs_mPI_IP, f9, gs_mPI_TI, f7, gs_mPI_IN, f5, gs_mPI_ON, f2, gs_mPI_TH]
    have yTR : mTR M12 = mTR M := by rw [f12, gs_mTR_SL, f11, gs_mTR_ND, f10, gs_mTR_IP, f9, gs_mTR_TI, f7, gs_mTR_IN, f5, gs_mTR_ON, f2, gs_mTR_TH]
    have yAR : mAR M12 = mAR M := by rw [f12, gs_mAR_SL, f11, gs_mAR_ND, f10, gs_mAR_IP, f9, gs_mAR_TI, f7, gs_mAR_IN, f5, gs_mAR_ON, f2, gs_mAR_TH]
    have yDE : mDE M12 = mDE M := by rw [f12, gs_mDE_SL, f11, gs_mDE_ND, f10, gs_mDE_IP, f9, gs_mDE_TI, f7, gs_mDE_IN, f5, gs_mDE_ON, f2, gs_mDE_TH]
    have yAO : mAO M12 = mAO M := by rw [f12, gs_mAO_SL, f11, gs_mAO_ND, f10, gs_mAO_IP, f9, gs_mAO_TI, f7, gs_mAO_IN, f5, gs_mAO_ON, f2, gs_mAO_TH]
    have yCC : mCC M12 = mCC M := by rw [f12, gs_mCC_SL, f11, gs_mCC_ND, f10, gs_mCC_IP, f9, gs_mCC_TI, f7, gs_mCC_IN, f5, gs_mCC_ON, f2, gs_mCC_TH]
    have yCB : mCB M12 = mCB M := by rw [f12, gs_mCB_SL, f11, gs_mCB_ND, f10, gs_mCB_IP, f9, gs_mCB_TI, f7, gs_mCB_IN, f5, gs_mCB_ON, f2, gs_mCB_TH]
    have yON : mON M12 = upd (mON M) N (-1 : Int32) := by rw [f12, gs_mON_SL, f11, gs_mON_ND, f10, gs_mON_IP, f9, gs_mON_TI, f7, gs_mON_IN, f5, gs_mON_ON, f2, gs_mON_TH]
    have yIN : mIN M12 = upd (mIN M) I (nI N) := by rw [f12, gs_mIN_SL, f11, gs_mIN_ND, f10, gs_mIN_IP, f9, gs_mIN_TI, f7, gs_mIN_IN, f5, gs_mND_ON, j2, gs_mIN_ON, f2, gs_mIN_TH]
    have yTI : mTI M12 = upd (mTI M) I 0 := by rw [f12, gs_mTI_SL, f11, gs_mTI_ND, f10, gs_mTI_IP, f9, gs_mTI_TI, f7, gs_mTI_IN, f5, gs_mTI_ON, f2, gs_mTI_TH]
    have yIP : mIP M12 = nI (I + 1) := by rw [f12, gs_mIP_SL, f11, gs_mIP_ND, f10, gs_mIP_IP, f9, gs_mIP_TI, j7, nI_1]
    have yND : mND M12 = nI (N + 1) := by rw [f12, gs_mND_SL, f11, gs_mND_ND, f10, gs_mND_IP, f9, gs_mND_TI, f7, gs_mND_IN, f5, gs_mND_ON, j2, nI_1]
    have ySL : mSL M12 = 1 := by rw [f12, gs_mSL_SL]
    have yTH : mTH M12 = 0 := by rw [f12, gs_mTH_SL, f11, gs_mTH_ND, f10, gs_mTH_IP, f9, gs_mTH_TI, f7, gs_mTH_IN, f5, gs_mTH_ON, f2, gs_mTH_TH]
    have hA' : aOK (N + 1) (I + 1) O (updB ip N true) il ir (updN nb N I) (updN inN I N) (updC ct N []) (updN tmn N 0) ol := by
      refine ⟨by omega, by omega, by omega, by omega, fun k hk hi => ?_, fun j hj => ?_, fun k hk => ?_, fun k hk => ?_, a9, fun j hj => by have := a10 j hj; omega⟩
      · by_cases ek : k = N
        · rw [ek, un_s, un_s]; exact ⟨by omega, rfl⟩
        · rw [ub_n ek] at hi
          obtain ⟨b1, b2⟩ := a5 k (by omega) hi
          rw [un_n ek, un_n (by omega)]
          exact ⟨by omega, b2⟩
      · by_cases ej : j = I
        · rw [ej, un_s, ub_s, un_s]; exact ⟨by omega, rfl, rfl⟩
        · obtain ⟨b1, b2, b3⟩ := a6 j (by omega)
          rw [un_n ej, ub_n (by omega), un_n (by omega)]
          exact ⟨by omega, b2, b3⟩
      · by_cases ek : k = N
        · rw [ek, un_s]; omega
        · rw [un_n ek]; exact a7 k (by omega)
      · by_cases ek : k = N
        · rw [ek, uc_s]; exact ⟨isCuts_inp ub_s, Nat.zero_le _⟩
        · rw [uc_n ek]
          exact ⟨isCuts_gc (fun j hj => ⟨(ag j (by omega)).1, rfl, rfl⟩) (a8 k (by omega)).1, (a8 k (by omega)).2⟩
    have hC' : cR S' (N + 1) (I + 1) K O pn tr ar de (updB ip N true) il ir (updN nb N I) (updN inN I N) (updC ct N []) (updN tmn N 0) ol := by
      refine ⟨rsA_G er G6, by rw [r2]; exact xNC, by rw [r3]; exact xIC, T', cSh_same h5 (r4.trans xCC) (r11.trans xPI) (r12.trans xTR) (r13.trans xAR) (r14.trans xDE) (r15.trans xAG), by rw [r1, xOC]; exact h6, by rw [r6, xOL]; exact h7, fun k hk hi => ?_, fun j hj => ?_, s, P, P1, by rw [r5, xSE]; exact s1, by omega, by rw [r16, xGA]; exact s3, setSp_gc (fun j hj => ag j (by omega)) (fun k hk => cg k (by omega)) (fun k hk => tg k (by omega)) s4⟩
      · rw [r7, xIN]
        by_cases ek : k = N
        · rw [ek, un_s, pk_us]
        · rw [ub_n ek] at hi
          rw [un_n ek, pk_un ek]
          exact h8 k (by omega) hi
      · rw [r10, xIT]
        by_cases ej : j = I
        · rw [ej, un_s, un_s, pk_us]; rfl
        · have := (a6 j (by omega)).1
          rw [un_n ej, un_n (by omega), pk_un ej]
          exact h9 j (by omega)
    have hM' : mR M12 (N + 1) (I + 1) K O pn tr ar de (updB ip N true) il ir (updN inN I N) (updC ct N []) (updN tmn N 0) ol := by
      refine ⟨mSh_same m1 yCE yPI yTR yAR yDE, ⟨by omega, fun k hk => ?_⟩, yND, yIP, by rw [yAN, m5, Nat.add_sub_add_right], by rw [yOU]; exact m6, by rw [yOL]; exact m7, fun j hj => ?_, fun k hk hi => ?_, fun q => absurd (ySL.symm.trans q) (by decide)⟩
      · by_cases ek : k = N
        · subst ek
          rw [ub_s, yON, pk_us]
          exact ⟨fun _ => rfl, fun q => absurd q (by decide)⟩
        · rw [ub_n ek, yON, pk_un ek, yTW]
          exact m2.2 k (by omega)
      · rw [yIN, yTI]
        by_cases ej : j = I
        · rw [ej, un_s, un_s, pk_us, pk_us]; exact ⟨rfl, rfl⟩
        · have := (a6 j (by omega)).1
          rw [un_n ej, un_n (by omega), pk_un ej, pk_un ej]
          exact m8 j (by omega)
      · by_cases ek : k = N
        · rw [ek, ub_s] at hi; cases hi
        · rw [ub_n ek] at hi
          rw [uc_n ek]
          obtain ⟨a, b1, b2, b3⟩ := m9 k (by omega) hi
          exact ⟨a, by omega, by rw [yAO]; exact b2, by unfold mL; rw [yCC, yCB]; exact b3⟩
    refine lw_fin yTH (fun _ => ?_) (fun y ey => hgo S' _ _ y (Rel_mk hA' hC' hM') (eLn.trans xLVn) ey)
    rw [outp_0, yND, k2, pk_mul, pk_mul, pk_sub (by omega)]
    exact congrArg (fun n => (nI n).toInt64) (by omega)
  · refine pi2 ?_
    unfold p_X6_input
    rw [m4, k8]
    refine ⟨fun _ => ?_, fun q => absurd (nI_le (by omega) (by omega)) q⟩
    rintro _ rfl
    rw [gs_mTH_TH]
    exact ⟨fun q => absurd q (by decide), fun _ => lw_fin (gs_mTH_TH M 1) (fun q => absurd q (by decide)) (fun y ey => hgo S o _ y (Rel_mk hA hC (mR_TH hM)) rfl ey)⟩
end C5
