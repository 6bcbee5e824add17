/-! 73 CASE6: the law's case and -/
section C6
variable {g23 : CS → (Nat → Int64) → MS → Int32 → Nat → Nat → Prop} {xs : Nat → Int32} {L : Nat} {S : CS} {o : Nat → Int64} {M : MS} {i : Int32} {uc us : Nat}
theorem w_172 (hR : Rel S M) (v1 : vp_in (i + (1 : Int32)) L) (v2 : vp_in (i + (2 : Int32)) L) (hb : ∀ c, cLVn S ≤ c → c < 2 ^ 19 → uc + (3 + (c - cLVn S) / 64) ≤ 601024 ∧ us + (18 + 4 * (c - cLVn S)) ≤ 7293034)
    (hgo : ∀ S' o' M' y, Rel S' M' → cLVn S ≤ cLVn S' → y = i + (4 : Int32) → g23 S' o' M' y (uc + (3 + (cLVn S' - cLVn S) / 64)) (us + (18 + 4 * (cLVn S' - cLVn S)))) : p_law_172 g23 xs L S o M i uc us := by
  obtain ⟨N, I, K, O, pn, tr, ar, de, ip, il, ir, nb, inN, ct, tmn, ol, hA, hC, hM⟩ := hR
  obtain ⟨h1, h2, h3, h4, h5, h6, h7, h8, h9, s, P, P1, s1, s2, s3, s4⟩ := id hC
  obtain ⟨m1, m2, m3, m4, m5, m6, m7, m8, m9, ms⟩ := id hM
  obtain ⟨a1, a2, a3, a4, a5, a6, a7, a8, a9, a10⟩ := id hA
  have k2 : (2 : Int32) = nI 2 := rfl
  have k24 : (24 : Int32) = nI 24 := rfl
  have hcap : cLVn S < 2 ^ 19 ∧ 128 ≤ cLVn S := ⟨h4.2.2.2.2.2, h4.2.2.2.2.1⟩
  unfold p_law_172 p_L_and p_X5_and p_X5_requireLiteral
  generalize xs (i + (1 : Int32)).toNatClampNeg = x1
  generalize xs (i + (2 : Int32)).toNatClampNeg = x2
  refine ⟨v1, v2, ?_⟩
  rw [h2, h3, pk_sub a3]
  show ∃ c18 k19 : Nat, (uc + c18 ≤ 601024 ∧ us + k19 ≤ 7293034) ∧ ((3 ≤ c18 ∧ 18 ≤ k19) ∧ (p_X5_requireIndex S x1 (nI 2 * nI N) (p_X5_requireIndex S x2 (nI 2 * nI N) _ _) _))
  rw [pk_mul]
  have hb0 := hb (cLVn S) (Nat.le_refl _) hcap.1
  rw [Nat.sub_self] at hb0
  have hgo0 : ∀ t : Int32, ∀ y, y = i + (4 : Int32) → g23 S o (mTH_s M t) y (uc + 3) (us + 18) := by
    intro t y ey
    have := hgo S o (mTH_s M t) y (Rel_mk hA hC (mR_TH hM)) (Nat.le_refl _) ey
    rw [Nat.sub_self] at this
    exact this
  have thr : ∀ t : Int32, ¬ t ≤ 0 → ∀ S32 o33, S32 = S → o33 = o → p_X6_and_45 M x1 x2 t (fun r36 M37 => p_X6_thrown M37 (fun r38 => (r38 = t → ((¬ t = 0 → (∀ y42 : Int32, y42 = (i + (4 : Int32)) → (g23 S32 o33 M37 y42 (uc + 3) (us + 18)))) ∧ (t = 0 → (((lg_cmp (o33 (0 : Int32).toNatClampNeg) (r36.toInt64)) = 0 → (∀ y44 : Int32, y44 = (i + (4 : Int32)) → (g23 S32 o33 M37 y44 (uc + 3) (us + 18)))) ∧ (¬ (lg_cmp (o33 (0 : Int32).toNatClampNeg) (r36.toInt64)) = 0 → (False)))))) ∧ (¬ r38 = t → (False)))) := by
    refine fun t ht => pi2' ?_
    unfold p_X6_and_45
    rintro _ rfl
    rw [gs_mTH_TH]
    exact ⟨fun q => absurd q ht, fun _ => lw_fin (gs_mTH_TH M t) (fun q => absurd (by rw [q]; decide) ht) (hgo0 t)⟩
  have t20 : ∀ S32 o33, S32 = S → o33 = o → p_X6_and_20 M x1 x2 (fun r36 M37 => p_X6_thrown M37 (fun r38 => (r38 = 1 → ((¬ (1 : Int32) = 0 → (∀ y42 : Int32, y42 = (i + (4 : Int32)) → (g23 S32 o33 M37 y42 (uc + 3) (us + 18)))) ∧ ((1 : Int32) = 0 → (((lg_cmp (o33 (0 : Int32).toNatClampNeg) (r36.toInt64)) = 0 → (∀ y44 : Int32, y44 = (i + (4 : Int32)) → (g23 S32 o33 M37 y44 (uc + 3) (us + 18)))) ∧ (¬ (lg_cmp (o33 (0 : Int32).toNatClampNeg) (r36.toInt64)) = 0 → (False)))))) ∧ (¬ r38 = 1 → (False)))) := fun S32 o33 eS eo => ⟨fun q => absurd rfl q, fun _ => thr 1 (by decide) S32 o33 eS eo⟩
  rcases pk_ix x1 (n := 2 * N) (by omega) with h | h | ⟨l1, hl1, e1⟩
  · refine ⟨3, 18, by omega, ⟨by omega, by omega⟩, q_rIn (Or.inl h) ⟨fun _ => ?_, fun q => absurd q (by decide), Or.inl rfl⟩⟩
    intro S32 o33 eS eo
    refine ⟨v1, v2, ?_⟩
    unfold p_X6_and p_X6_isLiteral
    rw [m3, k2, pk_mul]
    exact r_iIn (Or.inl h) ⟨Or.inl rfl, fun _ => t20 S32 o33 eS eo, fun q => absurd rfl q⟩
  · refine ⟨3, 18, by omega, ⟨by omega, by omega⟩, q_rIn (Or.inr h) ⟨fun _ => ?_, fun q => absurd q (by decide), Or.inl rfl⟩⟩
    intro S32 o33 eS eo
    refine ⟨v1, v2, ?_⟩
    unfold p_X6_and p_X6_isLiteral
    rw [m3, k2, pk_mul]
    exact r_iIn (Or.inr h) ⟨Or.inl rfl, fun _ => t20 S32 o33 eS eo, fun q => absurd rfl q⟩
  · subst e1
    have no2 : (x2 < 0 ∨ nI (2 * N) ≤ x2) → ∀ S32 o33, S32 = S → o33 = o → vp_in (i + (1 : Int32)) L ∧ vp_in (i + (2 : Int32)) L ∧ p_X6_and M (nI l1) x2 (fun r36 M37 => p_X6_thrown M37 (fun r38 => (r38 = 1 → ((¬ (1 : Int32) = 0 → (∀ y42 : Int32, y42 = (i + (4 : Int32)) → (g23 S32 o33 M37 y42 (uc + 3) (us + 18)))) ∧ ((1 : Int32) = 0 → (((lg_cmp (o33 (0 : Int32).toNatClampNeg) (r36.toInt64)) = 0 → (∀ y44 : Int32, y44 = (i + (4 : Int32)) → (g23 S32 o33 M37 y44 (uc + 3) (us + 18)))) ∧ (¬ (lg_cmp (o33 (0 : Int32).toNatClampNeg) (r36.toInt64)) = 0 → (False)))))) ∧ (¬ r38 = 1 → (False)))) := by
      intro hx S32 o33 eS eo
      refine ⟨v1, v2, ?_⟩
      unfold p_X6_and p_X6_isLiteral
      rw [m3, k2, pk_mul]
      exact r_iIy hl1 (by omega) ⟨Or.inr rfl, fun q => absurd q (by decide), fun _ => r_iIn hx ⟨Or.inl rfl, fun _ => t20 S32 o33 eS eo, fun q => absurd rfl q⟩⟩
    rcases pk_ix x2 (n := 2 * N) (by omega) with h | h | ⟨l2, hl2, e2⟩
    · exact ⟨3, 18, by omega, ⟨by omega, by omega⟩, q_rIy hl1 (by omega) (q_rIn (Or.inl h) ⟨fun _ => no2 (Or.inl h), fun q => absurd q (by decide), Or.inl rfl⟩)⟩
    · exact ⟨3, 18, by omega, ⟨by omega, by omega⟩, q_rIy hl1 (by omega) (q_rIn (Or.inr h) ⟨fun _ => no2 (Or.inr h), fun q => absurd q (by decide), Or.inl rfl⟩)⟩
    · subst e2
      have to21 : ∀ post, p_X6_and_21 M (nI l1) (nI l2) 1 post → p_X6_and M (nI l1) (nI l2) post := by
        intro post hq
        unfold p_X6_and p_X6_isLiteral
        rw [m3, k2, pk_mul]
        exact r_iIy hl1 (by omega) ⟨Or.inr rfl, fun q => absurd q (by decide), fun _ => r_iIy hl2 (by omega) ⟨Or.inr rfl, fun q => absurd q (by decide), fun _ => hq⟩⟩
      by_cases z : N - I < 24
      · have ag : ∀ j, j < N → ip j = updB ip N false j ∧ il j = updN il N l1 j ∧ ir j = updN ir N l2 j := fun j hj => ⟨(ub_n (by omega)).symm, (un_n (by omega)).symm, (un_n (by omega)).symm⟩
        have agh : ∀ j, j < N → ip j = updB ip N false j ∧ hf il j = hf (updN il N l1) j ∧ hf ir j = hf (updN ir N l2) j := fun j hj => ⟨(ag j hj).1, by unfold hf; rw [← (ag j hj).2.1], by unfold hf; rw [← (ag j hj).2.2]⟩
        have gok : gOK (updB ip N false) (hf (updN il N l1)) (hf (updN ir N l2)) (N + 1) := by
          intro k hk hi
          by_cases ek : k = N
          · subst ek
            unfold hf
            rw [un_s, un_s]
            omega
          · have := cG_ok h1 k (by omega) (by rw [ub_n ek] at hi; exact hi)
            rw [(agh k (by omega)).2.1, (agh k (by omega)).2.2] at this
            exact this
        obtain ⟨LF, hLF, hlen⟩ := cuts_ex gok (by omega) (show N < N + 1 by omega)
        have cg : ∀ k, k < N → ct k = updC ct N LF k := fun k hk => (uc_n (by omega)).symm
        have tg : ∀ k, k < N → tmn k = updN tmn N 0 k := fun k hk => (un_n (by omega)).symm
        have hoffN := off_le (ct := ct) (N := N) (fun k hk => (a8 k hk).2) N (Nat.le_refl _)
        have hoff' : off (updC ct N LF) N = off ct N := (off_gc N cg).symm
        have hneed : off (updC ct N LF) (N + 1) ≤ 4991 * 32 := by
          show off (updC ct N LF) N + (updC ct N LF N).length ≤ _
          rw [hoff', uc_s]
          omega
        obtain ⟨q1, q2, q3⟩ := capOf_all (off (updC ct N LF) (N + 1)) (off (updC ct N LF) (N + 1)) (cLVn S) (by omega) (by omega)
        generalize hcp : capOf (cLVn S) (off (updC ct N LF) (N + 1)) = cp at q1 q2 q3
        have hcp19 : cp < 2 ^ 19 := by omega
        refine ⟨3 + (cp - cLVn S) / 64, 18 + 4 * (cp - cLVn S), hb cp q1 hcp19, ⟨by omega, by omega⟩, q_rIy hl1 (by omega) (q_rIy hl2 (by omega) ?_)⟩
        rw [k24]
        refine ⟨fun _ => ?_, fun q => absurd (nI_lt z (by omega)) q⟩
        unfold p_X2_addAnd
        rw [h2, bx_cl (show N < 2 ^ 31 by omega)]
        refine ⟨bx_in (by omega) (by omega), ?_⟩
        intro S2 e2
        have i2 : cNC S2 = nI N := by rw [e2, gs_cNC_IN]; exact h2
        rw [i2, bx_cl (show N < 2 ^ 31 by omega)]
        refine ⟨bx_in (by omega) (by omega), ?_⟩
        intro S4 e4
        have i4 : cNC S4 = nI N := by rw [e4, gs_cNC_LE]; exact i2
        rw [i4, bx_cl (show N < 2 ^ 31 by omega)]
        refine ⟨bx_in (by omega) (by omega), ?_⟩
        intro S6 e6 S7 e7
        have xIC : cIC S7 = cIC S := by rw [e7, gs_cIC_NC, e6, gs_cIC_RI, e4, gs_cIC_LE, e2, gs_cIC_IN]
        have xST : cST S7 = cST S := by rw [e7, gs_cST_NC, e6, gs_cST_RI, e4, gs_cST_LE, e2, gs_cST_IN]
        have xLV : cLV S7 = cLV S := by rw [e7, gs_cLV_NC, e6, gs_cLV_RI, e4, gs_cLV_LE, e2, gs_cLV_IN]
        have xFN : cFN S7 = cFN S := by rw [e7, gs_cFN_NC, e6, gs_cFN_RI, e4, gs_cFN_LE, e2, gs_cFN_IN]
        have xLVn : cLVn S7 = cLVn S := by rw [e7, gs_cLVn_NC, e6, gs_cLVn_RI, e4, gs_cLVn_LE, e2, gs_cLVn_IN]
        have xFNn : cFNn S7 = cFNn S := by rw [e7, gs_cFNn_NC, e6, gs_cFNn_RI, e4, gs_cFNn_LE, e2, gs_cFNn_IN]
        have xCC : cCC S7 = cCC S := by rw [e7, gs_cCC_NC, e6, gs_cCC_RI, e4, gs_cCC_LE, e2, gs_cCC_IN]
        have xPI : cPI S7 = cPI S := by rw [e7, gs_cPI_NC, e6, gs_cPI_RI, e4, gs_cPI_LE, e2, gs_cPI_IN]
        have xTR : cTR S7 = cTR S := by rw [e7, gs_cTR_NC, e6, gs_cTR_RI, e4, gs_cTR_LE, e2, gs_cTR_IN]
        have xAR : cAR S7 = cAR S := by rw [e7, gs_cAR_NC, e6, gs_cAR_RI, e4, gs_cAR_LE, e2, gs_cAR_IN]
        have xDE : cDE S7 = cDE S := by rw [e7, gs_cDE_NC, e6, gs_cDE_RI, e4, gs_cDE_LE, e2, gs_cDE_IN]
        have xAG : cAG S7 = cAG S := by rw [e7, gs_cAG_NC, e6, gs_cAG_RI, e4, gs_cAG_LE, e2, gs_cAG_IN]
        have xOC : cOC S7 = cOC S := by rw [e7, gs_cOC_NC, e6, gs_cOC_RI, e4, gs_cOC_LE, e2, gs_cOC_IN]
        have xOL : cOL S7 = cOL S := by rw [e7, gs_cOL_NC, e6, gs_cOL_RI, e4, gs_cOL_LE, e2, gs_cOL_IN]
        have xIT : cIT S7 = cIT S := by rw [e7, gs_cIT_NC, e6, gs_cIT_RI, e4, gs_cIT_LE, e2, gs_cIT_IN]
        have xSE : cSE S7 = cSE S := by rw [e7, gs_cSE_NC, e6, gs_cSE_RI, e4, gs_cSE_LE, e2, gs_cSE_IN]
        have xGA : cGA S7 = cGA S := by rw [e7, gs_cGA_NC, e6, gs_cGA_RI, e4, gs_cGA_LE, e2, gs_cGA_IN]
        have xIN : cIN S7 = upd (cIN S) N (-1 : Int32) := by rw [e7, gs_cIN_NC, e6, gs_cIN_RI, e4, gs_cIN_LE, e2, gs_cIN_IN]
        have xLE : cLE S7 = upd (cLE S) N (nI l1) := by rw [e7, gs_cLE_NC, e6, gs_cLE_RI, e4, gs_cLE_LE, e2, gs_cLE_IN]
        have xRI : cRI S7 = upd (cRI S) N (nI l2) := by rw [e7, gs_cRI_NC, e6, gs_cRI_RI, e4, gs_cRI_LE, e2, gs_cRI_IN]
        have xNC : cNC S7 = nI (N + 1) := by rw [e7, gs_cNC_NC, e6, gs_cNC_RI, i4, nI_1]
        have G7 : cG S7 (updB ip N false) (updN il N l1) (updN ir N l2) (N + 1) := by
          refine ⟨by omega, fun k hk => ?_⟩
          by_cases ek : k = N
          · subst ek
            rw [ub_s, xIN, xLE, xRI, pk_us, pk_us, pk_us, un_s, un_s]
            exact ⟨fun q => absurd q (by decide), fun _ => ⟨rfl, rfl, rfl, hl1, hl2⟩⟩
          · rw [ub_n ek, xIN, xLE, xRI, pk_un ek, pk_un ek, pk_un ek, un_n ek, un_n ek]
            exact h1.2 k (by omega)
        have T7 : cT S7 (updB ip N false) (updN il N l1) (updN ir N l2) (updC ct N LF) N := cT_gc ag cg (cT_same h4 xST xLV xFN xLVn xFNn)
        have hcuts : ∀ k, k < N + 1 → isCuts (updB ip N false) (hf (updN il N l1)) (hf (updN ir N l2)) k (updC ct N LF k) := by
          intro k hk
          by_cases ek : k = N
          · rw [ek, uc_s]; exact hLF
          · rw [uc_n ek]; exact isCuts_gc (fun j hj => agh j (by omega)) (a8 k (by omega)).1
        rw [xNC, nI_pred]
        refine ⟨(cp - cLVn S) / 64, 4 * (cp - cLVn S), ⟨by omega, by omega⟩, q_addNode G7 ub_s hcuts T7 (by rw [uc_s]; exact hlen) (by rw [hoff']; omega) (by rw [xLVn, hcp]; exact Nat.le_refl _) (by rw [xLVn, hcp]; exact Nat.le_refl _) (fun S' er T' eLn => ?_)⟩
        rw [xLVn, hcp] at eLn
        obtain ⟨r1, r2, r3, r4, r5, r6, r7, r8, r9, r10, r11, r12, r13, r14, r15, r16, r17⟩ := rsA_of er
        refine pi2 ⟨v1, v2, to21 _ ⟨fun _ => ?_, fun q => absurd q (by decide)⟩⟩
        rw [m5, k24]
        refine ⟨fun _ => ?_, fun q => absurd ((nI_eq (by omega) (by omega)).1 q) (by omega)⟩
        unfold p_X6_and_45
        intro M6 f6
        have j6 : mND M6 = nI N := by rw [f6, gs_mND_TH]; exact m3
        rw [show mTH M6 = 0 by rw [f6, gs_mTH_TH], j6, bx_cl (show N < 2 ^ 31 by omega)]
        refine ⟨fun _ => ⟨bx_in (by omega) (by omega), ?_⟩, fun q => absurd (by decide) q⟩
        intro M9 f9
        have j9 : mND M9 = nI N := by rw [f9, gs_mND_ON]; exact j6
        rw [j9, bx_cl (show N < 2 ^ 31 by omega)]
        refine ⟨bx_in (by omega) (by omega), ?_⟩
        intro M11 f11
        have j11 : mND M11 = nI N := by rw [f11, gs_mND_TW]; exact j9
        rw [j11, bx_cl (show N < 2 ^ 31 by omega)]
        refine ⟨bx_in (by omega) (by omega), ?_⟩
        intro M13 f13 M14 f14 M15 f15
        have yIP : mIP M15 = mIP M := by rw [f15, gs_mIP_ND, f14, gs_mIP_AN, f13, gs_mIP_AO, f11, gs_mIP_TW, f9, gs_mIP_ON, f6, gs_mIP_TH]
        have yOU : mOU M15 = mOU M := by rw [f15, gs_mOU_ND, f14, gs_mOU_AN, f13, gs_mOU_AO, f11, gs_mOU_TW, f9, gs_mOU_ON, f6, gs_mOU_TH]
        have yCE : mCE M15 = mCE M := by rw [f15, gs_mCE_ND, f14, gs_mCE_AN, f13, gs_mCE_AO, f11, gs_mCE_TW, f9, gs_mCE_ON, f6, gs_mCE_TH]
        have yIN : mIN M15 = mIN M := by rw [f15, gs_mIN_ND, f14, gs_mIN_AN, f13, gs_mIN_AO, f11, gs_mIN_TW, f9, gs_mIN_ON, f6, gs_mIN_TH]
        have yTI : mTI M15 = mTI M := by rw [f15, gs_mTI_ND, f14, gs_mTI_AN, f13, gs_mTI_AO, f11, gs_mTI_TW, f9, gs_mTI_ON, f6, gs_mTI_TH]
        have yOL : mOL M15 = mOL M := by rw [f15, gs_mOL_ND, f14, gs_mOL_AN, f13, gs_mOL_AO, f11, gs_mOL_TW, f9, gs_mOL_ON, f6, gs_mOL_TH]
        have yPI : mPI M15 = mPI M := by rw [f15, gs_mPI_ND, f14, gs_mPI_AN, f13, gs_mPI_AO, f11, gs_mPI_TW, f9, gs_mPI_ON, f6, gs_mPI_TH]
        have yTR : mTR M15 = mTR M := by rw [f15, gs_mTR_ND, f14, gs_mTR_AN, f13, gs_mTR_AO, f11, gs_mTR_TW, f9, gs_mTR_ON, f6, gs_mTR_TH]
        have yAR : mAR M15 = mAR M := by rw [f15, gs_mAR_ND, f14, gs_mAR_AN, f13, gs_mAR_AO, f11, gs_mAR_TW, f9, gs_mAR_ON, f6, gs_mAR_TH]
        have yDE : mDE M15 = mDE M := by rw [f15, gs_mDE_ND, f14, gs_mDE_AN, f13, gs_mDE_AO, f11, gs_mDE_TW, f9, gs_mDE_ON, f6, gs_mDE_TH]
        have yCC : mCC M15 = mCC M := by rw [f15, gs_mCC_ND, f14, gs_mCC_AN, f13, gs_mCC_AO, f11, gs_mCC_TW, f9, gs_mCC_ON, f6, gs_mCC_TH]
        have yCB : mCB M15 = mCB M := by rw [f15, gs_mCB_ND, f14, gs_mCB_AN, f13, gs_mCB_AO, f11, gs_mCB_TW, f9, gs_mCB_ON, f6, gs_mCB_TH]
        have yON : mON M15 = upd (mON M) N (nI l1) := by rw [f15, gs_mON_ND, f14, gs_mON_AN, f13, gs_mON_AO, f11, gs_mON_TW, f9, gs_mON_ON, f6, gs_mON_TH]
        have yTW : mTW M15 = upd (mTW M) N (nI l2) := by rw [f15, gs_mTW_ND, f14, gs_mTW_AN, f13, gs_mTW_AO, f11, gs_mTW_TW, f9, gs_mTW_ON, f6, gs_mTW_TH]
        have j11a : mAN M11 = nI (N - I) := by rw [f11, gs_mAN_TW, f9, gs_mAN_ON, f6, gs_mAN_TH]; exact m5
        have yAO : mAO M15 = upd (mAO M) N (nI (N - I)) := by rw [f15, gs_mAO_ND, f14, gs_mAO_AN, f13, gs_mAO_AO, j11a, f11, gs_mAO_TW, f9, gs_mAO_ON, f6, gs_mAO_TH]
        have yAN : mAN M15 = nI (N - I + 1) := by rw [f15, gs_mAN_ND, f14, gs_mAN_AN, f13, gs_mAN_AO, j11a, nI_1]
        have yND : mND M15 = nI (N + 1) := by rw [f15, gs_mND_ND, f14, gs_mND_AN, f13, gs_mND_AO, j11, nI_1]
        have yTH : mTH M15 = 0 := by rw [f15, gs_mTH_ND, f14, gs_mTH_AN, f13, gs_mTH_AO, f11, gs_mTH_TW, f9, gs_mTH_ON, f6, gs_mTH_TH]
        have G15 : mG M15 (updB ip N false) (updN il N l1) (updN ir N l2) (N + 1) := by
          refine ⟨by omega, fun k hk => ?_⟩
          by_cases ek : k = N
          · subst ek
            rw [ub_s, yON, yTW, pk_us, pk_us, un_s, un_s]
            exact ⟨fun q => absurd q (by decide), fun _ => ⟨rfl, rfl, hl1, hl2⟩⟩
          · rw [ub_n ek, yON, yTW, pk_un ek, pk_un ek, un_n ek, un_n ek]
            exact m2.2 k (by omega)
        rw [yND, nI_pred]
        refine r_findCuts G15 ub_s (by rw [yAO, pk_us]) (by omega) hLF hlen (fun M16 em hL hO => ?_)
        intro M17 f17
        obtain ⟨t1, t2, t3, t4, t5, t6, t7, t8, t9, t10, t11, t12, t13, t14, t15, t16, t17, _⟩ := rsM_of em
        have hA' : aOK (N + 1) I O (updB ip N false) (updN il N l1) (updN ir N l2) nb inN (updC ct N LF) (updN tmn N 0) ol := by
          refine ⟨by omega, a2, by omega, by omega, fun k hk hi => ?_, fun j hj => ?_, fun k hk => ?_, fun k hk => ⟨hcuts k hk, ?_⟩, a9, fun j hj => by have := a10 j hj; omega⟩
          · by_cases ek : k = N
            · rw [ek, ub_s] at hi; cases hi
            · rw [ub_n ek] at hi
              exact a5 k (by omega) hi
          · obtain ⟨b1, b2, b3⟩ := a6 j hj
            rw [ub_n (by omega)]
            exact ⟨by omega, b2, b3⟩
          · by_cases ek : k = N
            · rw [ek, un_s]; omega
            · rw [un_n ek]; exact a7 k (by omega)
          · by_cases ek : k = N
            · rw [ek, uc_s]; exact hlen
            · rw [uc_n ek]; exact (a8 k (by omega)).2
        have hC' : cR S' (N + 1) I K O pn tr ar de (updB ip N false) (updN il N l1) (updN ir N l2) nb inN (updC ct N LF) (updN tmn N 0) ol := by
          refine ⟨rsA_G er G7, by rw [r2]; exact xNC, by rw [r3, xIC]; exact h3, T', cSh_same h5 (r4.trans xCC) (r11.trans xPI) (r12.trans xTR) (r13.trans xAR) (r14.trans xDE) (r15.trans xAG), by rw [r1, xOC]; exact h6, by rw [r6, xOL]; exact h7, fun k hk hi => ?_, fun j hj => ?_, s, P, P1, by rw [r5, xSE]; exact s1, by omega, by rw [r16, xGA]; exact s3, setSp_gc (fun j hj => ag j (by omega)) (fun k hk => cg k (by omega)) (fun k hk => tg k (by omega)) s4⟩
          · rw [r7, xIN]
            by_cases ek : k = N
            · rw [ek, ub_s] at hi; cases hi
            · rw [ub_n ek] at hi
              rw [pk_un ek]
              exact h8 k (by omega) hi
          · have := (a6 j (by omega)).1
            rw [r10, xIT, un_n (by omega)]
            exact h9 j hj
        have hM' : mR M17 (N + 1) I K O pn tr ar de (updB ip N false) (updN il N l1) (updN ir N l2) inN (updC ct N LF) (updN tmn N 0) ol := by
          refine ⟨mSh_same m1 (by rw [f17, gs_mCE_SL, t6, yCE]) (by rw [f17, gs_mPI_SL, t13, yPI]) (by rw [f17, gs_mTR_SL, t14, yTR]) (by rw [f17, gs_mAR_SL, t15, yAR]) (by rw [f17, gs_mDE_SL, t16, yDE]), mG_same G15 (by rw [f17, gs_mON_SL, t8]) (by rw [f17, gs_mTW_SL, t9]), by rw [f17, gs_mND_SL, t2]; exact yND, by rw [f17, gs_mIP_SL, t3, yIP]; exact m4, by rw [f17, gs_mAN_SL, t4, yAN, show N - I + 1 = N + 1 - I by omega], by rw [f17, gs_mOU_SL, t5, yOU]; exact m6, by rw [f17, gs_mOL_SL, t12, yOL]; exact m7, fun j hj => ?_, fun k hk hi => ?_, fun q => absurd ((show mSL M17 = 1 by rw [f17, gs_mSL_SL]).symm.trans q) (by decide)⟩
          · have := (a6 j (by omega)).1
            rw [f17, gs_mIN_SL, gs_mTI_SL, t10, t11, yIN, yTI, un_n (by omega)]
            exact m8 j hj
          · by_cases ek : k = N
            · subst ek
              rw [uc_s]
              exact ⟨k - I, by omega, by rw [f17, gs_mAO_SL, t17, yAO, pk_us], by unfold mL; rw [f17, gs_mCC_SL, gs_mCB_SL]; exact hL⟩
            · rw [ub_n ek] at hi
              rw [uc_n ek]
              obtain ⟨a, b1, b2, b3⟩ := m9 k (by omega) hi
              have hlk := (a8 k (by omega)).2
              refine ⟨a, by omega, by rw [f17, gs_mAO_SL, t17, yAO, pk_un ek]; exact b2, ?_⟩
              unfold mL
              rw [f17, gs_mCC_SL, gs_mCB_SL]
              refine ⟨by rw [hO.1 a (by omega), yCC]; exact b3.1, fun j hj => ?_⟩
              rw [hO.2 (5000 * a + j) (Or.inl (by omega)), yCB]
              exact b3.2 j hj
        have eLn' : cp = cLVn S' := eLn.symm
        have fG : ∀ y, y = i + (4 : Int32) → g23 S' (outp o ((2 : Int32) * nI N).toInt64) M17 y (uc + (3 + (cp - cLVn S) / 64)) (us + (18 + 4 * (cp - cLVn S))) := by
          intro y ey
          rw [eLn']
          exact hgo S' _ M17 y (Rel_mk hA' hC' hM') (by omega) ey
        refine lw_fin (show mTH M17 = 0 by rw [f17, gs_mTH_SL, t1, yTH]) (fun _ => ?_) fG
        rw [outp_0, show mND M17 = nI (N + 1) by rw [f17, gs_mND_SL, t2]; exact yND, k2, pk_mul, pk_mul, pk_sub (by omega)]
        exact congrArg (fun n => (nI n).toInt64) (by omega)
      · refine ⟨3, 18, by omega, ⟨by omega, by omega⟩, q_rIy hl1 (by omega) (q_rIy hl2 (by omega) ?_)⟩
        rw [k24]
        refine ⟨fun q => absurd q (nI_nlt (by omega) (by omega)), fun _ => ⟨fun q => absurd q (by decide), fun _ => ?_, Or.inr rfl⟩⟩
        intro S32 o33 eS eo
        refine ⟨v1, v2, to21 _ ⟨fun _ => ?_, fun q => absurd q (by decide)⟩⟩
        rw [m5, k24]
        exact ⟨fun q => absurd ((nI_eq (by omega) (by omega)).2 (by omega)) q, fun _ => thr 2 (by decide) S32 o33 eS eo⟩
end C6
