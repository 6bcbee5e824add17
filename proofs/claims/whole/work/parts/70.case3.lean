/-! 70 CASE3: the law's cases output, arrives, delay, clear -/
theorem mSh_same {M M' : MS} {K : Nat} {pn tr ar de : Nat → Nat} (h : mSh M K pn tr ar de) (e1 : mCE M' = mCE M) (e2 : mPI M' = mPI M) (e3 : mTR M' = mTR M) (e4 : mAR M' = mAR M) (e5 : mDE M' = mDE M) : mSh M' K pn tr ar de := by
  unfold mSh at h ⊢
  rw [e1, e2, e3, e4, e5]
  exact h
theorem mAO_same {M M' : MS} {N I : Nat} {ip : Nat → Bool} {ct : Nat → List Nat} (h : ∀ n, n < N → ip n = false → ∃ a, a < N - I ∧ mAO M n = nI a ∧ mL M a (ct n)) (e1 : mAO M' = mAO M) (e2 : mCC M' = mCC M) (e3 : mCB M' = mCB M) : ∀ n, n < N → ip n = false → ∃ a, a < N - I ∧ mAO M' n = nI a ∧ mL M' a (ct n) := by
  intro n hn hi
  obtain ⟨a, b1, b2, b3⟩ := h n hn hi
  exact ⟨a, b1, by rw [e1]; exact b2, by unfold mL; rw [e2, e3]; exact b3⟩
section C3
variable {g23 : CS → (Nat → Int64) → MS → Int32 → Nat → Nat → Prop} {xs : Nat → Int32} {L : Nat} {S : CS} {o : Nat → Int64} {M : MS} {i : Int32} {uc us : Nat}
theorem w_240 (hR : Rel S M) (v1 : vp_in (i + (1 : Int32)) L) (hb : uc + 2 ≤ 601024 ∧ us + 12 ≤ 7293034) (hgo : ∀ S' o' M' y, Rel S' M' → cLVn S' = cLVn S → y = i + (4 : Int32) → g23 S' o' M' y (uc + 2) (us + 12)) : p_law_240 g23 xs L S o M i uc us := by
  obtain ⟨N, I, K, O, pn, tr, ar, de, ip, il, ir, nb, inN, ct, tmn, ol, hA, hC, hM⟩ := hR
  obtain ⟨h1, h2, h3, h4, h5, h6, h7, h8, h9, hs⟩ := id hC
  obtain ⟨m1, m2, m3, m4, m5, m6, m7, m8, m9, ms⟩ := id hM
  have hN := hA.1
  have hO6 := hA.2.2.2.2.2.2.2.2.1
  have k2 : (2 : Int32) = nI 2 := rfl
  have k6 : (6 : Int32) = nI 6 := rfl
  unfold p_law_240 p_L_output p_X5_output p_X5_requireLiteral
  generalize xs (i + (1 : Int32)).toNatClampNeg = x
  refine ⟨v1, hb, ?_⟩
  rw [h2, h6]
  show p_X5_requireIndex S x (nI 2 * nI N) _ _
  rw [pk_mul]
  have thr : ∀ t : Int32, ¬ t ≤ 0 → ∀ S32 o33, S32 = S → o33 = o → p_X6_output_27 M x t (fun r36 M37 => p_X6_thrown M37 (fun r38 => (r38 = t → ((¬ t = 0 → (∀ y42 : Int32, y42 = (i + (4 : Int32)) → (g23 S32 o33 M37 y42 (uc + 2) (us + 12)))) ∧ (t = 0 → (((lg_cmp (o33 (0 : Int32).toNatClampNeg) (r36.toInt64)) = 0 → (∀ y44 : Int32, y44 = (i + (4 : Int32)) → (g23 S32 o33 M37 y44 (uc + 2) (us + 12)))) ∧ (¬ (lg_cmp (o33 (0 : Int32).toNatClampNeg) (r36.toInt64)) = 0 → (False)))))) ∧ (¬ r38 = t → (False)))) := by
    refine fun t ht => pi2' ?_
    unfold p_X6_output_27
    rintro _ rfl
    rw [gs_mTH_TH]
    exact ⟨fun q => absurd q ht, fun _ => lw_fin (gs_mTH_TH M t) (fun q => absurd (by rw [q]; decide) ht) (fun y ey => hgo S o _ y (Rel_mk hA hC (mR_TH hM)) rfl ey)⟩
  rcases pk_ix x (n := 2 * N) (by omega) with h | h | ⟨l, hl, e⟩
  · refine q_rIn (Or.inl h) ⟨fun _ => ?_, fun q => absurd q (by decide), Or.inl rfl⟩
    refine pi2 ?_
    refine ⟨v1, ?_⟩
    unfold p_X6_output p_X6_isLiteral
    rw [m3, k2, pk_mul]
    exact r_iIn (Or.inl h) ⟨Or.inl rfl, fun q => absurd rfl q, fun _ => thr 1 (by decide) _ _ rfl rfl⟩
  · refine q_rIn (Or.inr h) ⟨fun _ => ?_, fun q => absurd q (by decide), Or.inl rfl⟩
    refine pi2 ?_
    refine ⟨v1, ?_⟩
    unfold p_X6_output p_X6_isLiteral
    rw [m3, k2, pk_mul]
    exact r_iIn (Or.inr h) ⟨Or.inl rfl, fun q => absurd rfl q, fun _ => thr 1 (by decide) _ _ rfl rfl⟩
  · subst e
    refine q_rIy hl (by omega) ?_
    rw [k6]
    refine c2 (nI_ltI (by omega) (by omega)) (fun z => ?_) (fun z => ⟨fun q => absurd q (by decide), fun _ => ?_, Or.inr rfl⟩)
    · rw [bx_cl (show O < 2 ^ 31 by omega)]
      refine ⟨bx_in (by omega) (by omega), ?_⟩
      intro S4 e4 S5 e5
      refine pi2 ?_
      refine ⟨v1, ?_⟩
      unfold p_X6_output p_X6_isLiteral
      rw [m3, m6]
      show p_X6_isIn M (nI l) (nI 2 * nI N) _
      rw [pk_mul]
      refine r_iIy hl (by omega) ⟨Or.inr rfl, fun _ => ?_, fun q => absurd q (by decide)⟩
      refine ⟨fun _ => ?_, fun q => absurd ((nI_eq (b := 6) (by omega) (by omega)).1 q) (by omega)⟩
      unfold p_X6_output_27
      intro M5 em5
      have mo5 : mOU M5 = nI O := by rw [em5, gs_mOU_TH]; exact m6
      rw [show mTH M5 = 0 by rw [em5, gs_mTH_TH], mo5, bx_cl (show O < 2 ^ 31 by omega)]
      refine ⟨fun _ => ⟨bx_in (by omega) (by omega), ?_⟩, fun q => absurd (by decide) q⟩
      intro M8 em8 M9 em9
      have xIN : cIN S5 = cIN S := by rw [e5, gs_cIN_OC, e4, gs_cIN_OL]
      have xLE : cLE S5 = cLE S := by rw [e5, gs_cLE_OC, e4, gs_cLE_OL]
      have xRI : cRI S5 = cRI S := by rw [e5, gs_cRI_OC, e4, gs_cRI_OL]
      have xNC : cNC S5 = cNC S := by rw [e5, gs_cNC_OC, e4, gs_cNC_OL]
      have xIC : cIC S5 = cIC S := by rw [e5, gs_cIC_OC, e4, gs_cIC_OL]
      have xST : cST S5 = cST S := by rw [e5, gs_cST_OC, e4, gs_cST_OL]
      have xLV : cLV S5 = cLV S := by rw [e5, gs_cLV_OC, e4, gs_cLV_OL]
      have xFN : cFN S5 = cFN S := by rw [e5, gs_cFN_OC, e4, gs_cFN_OL]
      have xLVn : cLVn S5 = cLVn S := by rw [e5, gs_cLVn_OC, e4, gs_cLVn_OL]
      have xFNn : cFNn S5 = cFNn S := by rw [e5, gs_cFNn_OC, e4, gs_cFNn_OL]
      have xCC : cCC S5 = cCC S := by rw [e5, gs_cCC_OC, e4, gs_cCC_OL]
      have xPI : cPI S5 = cPI S := by rw [e5, gs_cPI_OC, e4, gs_cPI_OL]
      have xTR : cTR S5 = cTR S := by rw [e5, gs_cTR_OC, e4, gs_cTR_OL]
      have xAR : cAR S5 = cAR S := by rw [e5, gs_cAR_OC, e4, gs_cAR_OL]
      have xDE : cDE S5 = cDE S := by rw [e5, gs_cDE_OC, e4, gs_cDE_OL]
      have xAG : cAG S5 = cAG S := by rw [e5, gs_cAG_OC, e4, gs_cAG_OL]
      have xIT : cIT S5 = cIT S := by rw [e5, gs_cIT_OC, e4, gs_cIT_OL]
      have xSE : cSE S5 = cSE S := by rw [e5, gs_cSE_OC, e4, gs_cSE_OL]
      have xGA : cGA S5 = cGA S := by rw [e5, gs_cGA_OC, e4, gs_cGA_OL]
      have yND : mND M9 = mND M := by rw [em9, gs_mND_OU, em8, gs_mND_OL, em5, gs_mND_TH]
      have yIP : mIP M9 = mIP M := by rw [em9, gs_mIP_OU, em8, gs_mIP_OL, em5, gs_mIP_TH]
      have yAN : mAN M9 = mAN M := by rw [em9, gs_mAN_OU, em8, gs_mAN_OL, em5, gs_mAN_TH]
      have yCE : mCE M9 = mCE M := by rw [em9, gs_mCE_OU, em8, gs_mCE_OL, em5, gs_mCE_TH]
      have yON : mON M9 = mON M := by rw [em9, gs_mON_OU, em8, gs_mON_OL, em5, gs_mON_TH]
      have yTW : mTW M9 = mTW M := by rw [em9, gs_mTW_OU, em8, gs_mTW_OL, em5, gs_mTW_TH]
      have yIN : mIN M9 = mIN M := by rw [em9, gs_mIN_OU, em8, gs_mIN_OL, em5, gs_mIN_TH]
      have yTI : mTI M9 = mTI M := by rw [em9, gs_mTI_OU, em8, gs_mTI_OL, em5, gs_mTI_TH]
      have yPI : mPI M9 = mPI M := by rw [em9, gs_mPI_OU, em8, gs_mPI_OL, em5, gs_mPI_TH]
      have yTR : mTR M9 = mTR M := by rw [em9, gs_mTR_OU, em8, gs_mTR_OL, em5, gs_mTR_TH]
      have yAR : mAR M9 = mAR M := by rw [em9, gs_mAR_OU, em8, gs_mAR_OL, em5, gs_mAR_TH]
      have yDE : mDE M9 = mDE M := by rw [em9, gs_mDE_OU, em8, gs_mDE_OL, em5, gs_mDE_TH]
      have yAO : mAO M9 = mAO M := by rw [em9, gs_mAO_OU, em8, gs_mAO_OL, em5, gs_mAO_TH]
      have yCC : mCC M9 = mCC M := by rw [em9, gs_mCC_OU, em8, gs_mCC_OL, em5, gs_mCC_TH]
      have yCB : mCB M9 = mCB M := by rw [em9, gs_mCB_OU, em8, gs_mCB_OL, em5, gs_mCB_TH]
      have ySL : mSL M9 = mSL M := by rw [em9, gs_mSL_OU, em8, gs_mSL_OL, em5, gs_mSL_TH]
      have yAV : mAV M9 = mAV M := by rw [em9, gs_mAV_OU, em8, gs_mAV_OL, em5, gs_mAV_TH]
      have yGA : mGA M9 = mGA M := by rw [em9, gs_mGA_OU, em8, gs_mGA_OL, em5, gs_mGA_TH]
      have yGP : mGP M9 = mGP M := by rw [em9, gs_mGP_OU, em8, gs_mGP_OL, em5, gs_mGP_TH]
      have xOC : cOC S5 = nI (O + 1) := by rw [e5, gs_cOC_OC, e4, gs_cOC_OL, h6, nI_1]
      have xOL : cOL S5 = upd (cOL S) O (nI l) := by rw [e5, gs_cOL_OC, e4, gs_cOL_OL]
      have yOU : mOU M9 = nI (O + 1) := by rw [em9, gs_mOU_OU, em8, gs_mOU_OL, mo5, nI_1]
      have yOL : mOL M9 = upd (mOL M) O (nI l) := by rw [em9, gs_mOL_OU, em8, gs_mOL_OL, em5, gs_mOL_TH]
      have yTH : mTH M9 = 0 := by rw [em9, gs_mTH_OU, em8, gs_mTH_OL, em5, gs_mTH_TH]
      have hA' : aOK N I (O + 1) ip il ir nb inN ct tmn (updN ol O l) := by
        obtain ⟨a1, a2, a3, a4, a5, a6, a7, a8, a9, a10⟩ := hA
        refine ⟨a1, a2, a3, a4, a5, a6, a7, a8, by omega, fun j hj => ?_⟩
        by_cases ej : j = O
        · rw [ej, un_s]; exact hl
        · rw [un_n ej]; exact a10 j (by omega)
      have hC' : cR S5 N I K (O + 1) pn tr ar de ip il ir nb inN ct tmn (updN ol O l) := by
        refine ⟨cG_same h1 xIN xLE xRI, by rw [xNC]; exact h2, by rw [xIC]; exact h3, cT_same h4 xST xLV xFN xLVn xFNn, cSh_same h5 xCC xPI xTR xAR xDE xAG, xOC, fun j hj => ?_, by rw [xIN]; exact h8, by rw [xIT]; exact h9, by rw [xSE, xGA]; exact hs⟩
        rw [xOL]
        by_cases ej : j = O
        · rw [ej, un_s, pk_us]
        · rw [un_n ej, pk_un ej]; exact h7 j (by omega)
      have hM' : mR M9 N I K (O + 1) pn tr ar de ip il ir inN ct tmn (updN ol O l) := by
        refine ⟨mSh_same m1 yCE yPI yTR yAR yDE, mG_same m2 yON yTW, by rw [yND]; exact m3, by rw [yIP]; exact m4, by rw [yAN]; exact m5, yOU, fun j hj => ?_, by rw [yIN, yTI]; exact m8, mAO_same m9 yAO yCC yCB, fun q => ?_⟩
        · rw [yOL]
          by_cases ej : j = O
          · rw [ej, un_s, pk_us]
          · rw [un_n ej, pk_un ej]; exact m7 j (by omega)
        · rw [ySL] at q
          obtain ⟨P, P1, b1, b2⟩ := ms q
          exact ⟨P, P1, mGs_same b1 yAV yGA yGP, b2⟩
      refine lw_fin yTH (fun _ => ?_) (fun y ey => hgo S5 _ _ y (Rel_mk hA' hC' hM') xLVn ey)
      rw [outp_0, xOC, yOU]
    · refine pi2 ?_
      refine ⟨v1, ?_⟩
      unfold p_X6_output p_X6_isLiteral
      rw [m3, m6]
      show p_X6_isIn M (nI l) (nI 2 * nI N) _
      rw [pk_mul]
      refine r_iIy hl (by omega) ⟨Or.inr rfl, fun _ => ⟨fun q => absurd (show nI O = 6 from (nI_eq (b := 6) (by omega) (by omega)).2 (by omega)) q, fun _ => thr 2 (by decide) _ _ rfl rfl⟩, fun q => absurd q (by decide)⟩
theorem w_463 (hR : Rel S M) (v1 : vp_in (i + (1 : Int32)) L) (v2 : vp_in (i + (2 : Int32)) L) (hb : uc + 2 ≤ 601024 ∧ us + 12 ≤ 7293034) (hgo : ∀ S' o' M' y, Rel S' M' → cLVn S' = cLVn S → y = i + (4 : Int32) → g23 S' o' M' y (uc + 2) (us + 12)) : p_law_463 g23 xs L S o M i uc us := by
  obtain ⟨N, I, K, O, pn, tr, ar, de, ip, il, ir, nb, inN, ct, tmn, ol, hA, hC, hM⟩ := hR
  obtain ⟨h1, h2, h3, h4, h5, h6, h7, h8, h9, hs⟩ := id hC
  obtain ⟨m1, m2, m3, m4, m5, m6, m7, m8, m9, ms⟩ := id hM
  obtain ⟨a1, a2, a3, a4, a5, a6, a7, a8, a9, a10⟩ := id hA
  unfold p_law_463 p_L_arrives p_X5_arrives
  generalize xs (i + (1 : Int32)).toNatClampNeg = x
  generalize xs (i + (2 : Int32)).toNatClampNeg = t
  refine ⟨v1, v2, hb, ?_⟩
  rw [h3]
  have thr : ∀ c : Int32, 0 < c → ∀ S32 o33, S32 = S → o33 = o → p_X6_arrives_32 M x t c (fun r99 M37 => p_X6_thrown M37 (fun r101 => (r101 = c → ((¬ c = 0 → (∀ y105 : Int32, y105 = (i + (4 : Int32)) → (g23 S32 o33 M37 y105 (uc + 2) (us + 12)))) ∧ (c = 0 → ((r99 = 0 → (((lg_cmp (o33 (0 : Int32).toNatClampNeg) (0 : Int64)) = 0 → (∀ y108 : Int32, y108 = (i + (4 : Int32)) → (g23 S32 o33 M37 y108 (uc + 2) (us + 12)))) ∧ (¬ (lg_cmp (o33 (0 : Int32).toNatClampNeg) (0 : Int64)) = 0 → (False)))) ∧ (¬ r99 = 0 → (((lg_cmp (o33 (0 : Int32).toNatClampNeg) (1 : Int64)) = 0 → (∀ y110 : Int32, y110 = (i + (4 : Int32)) → (g23 S32 o33 M37 y110 (uc + 2) (us + 12)))) ∧ (¬ (lg_cmp (o33 (0 : Int32).toNatClampNeg) (1 : Int64)) = 0 → (False)))))))) ∧ (¬ r101 = c → (False)))) := by
    refine fun c hc => pi2' ?_
    unfold p_X6_arrives_32
    rintro _ rfl
    rw [gs_mTH_TH]
    exact ⟨fun _ => lw_finB (gs_mTH_TH M c) (fun q => absurd hc (by rw [q]; decide)) (fun y ey => hgo S o _ y (Rel_mk hA hC (mR_TH hM)) rfl ey), fun q => absurd hc q⟩
  have no : (x < 0 ∨ nI I ≤ x) → ∀ S32 o33, S32 = S → o33 = o → vp_in (i + (1 : Int32)) L ∧ vp_in (i + (2 : Int32)) L ∧ p_X6_arrives M x t (fun r99 M37 => p_X6_thrown M37 (fun r101 => (r101 = 1 → ((¬ (1 : Int32) = 0 → (∀ y105 : Int32, y105 = (i + (4 : Int32)) → (g23 S32 o33 M37 y105 (uc + 2) (us + 12)))) ∧ ((1 : Int32) = 0 → ((r99 = 0 → (((lg_cmp (o33 (0 : Int32).toNatClampNeg) (0 : Int64)) = 0 → (∀ y108 : Int32, y108 = (i + (4 : Int32)) → (g23 S32 o33 M37 y108 (uc + 2) (us + 12)))) ∧ (¬ (lg_cmp (o33 (0 : Int32).toNatClampNeg) (0 : Int64)) = 0 → (False)))) ∧ (¬ r99 = 0 → (((lg_cmp (o33 (0 : Int32).toNatClampNeg) (1 : Int64)) = 0 → (∀ y110 : Int32, y110 = (i + (4 : Int32)) → (g23 S32 o33 M37 y110 (uc + 2) (us + 12)))) ∧ (¬ (lg_cmp (o33 (0 : Int32).toNatClampNeg) (1 : Int64)) = 0 → (False)))))))) ∧ (¬ r101 = 1 → (False)))) := by
    intro hx S32 o33 eS eo
    refine ⟨v1, v2, ?_⟩
    unfold p_X6_arrives
    rw [m4]
    exact r_iIn hx ⟨fun q => absurd rfl q, fun _ => thr 1 (by decide) S32 o33 eS eo⟩
  rcases pk_ix x (n := I) (by omega) with h | h | ⟨k, hk, e⟩
  · exact q_rIn (Or.inl h) ⟨fun _ => no (Or.inl h), fun q => absurd q (by decide), Or.inl rfl⟩
  · exact q_rIn (Or.inr h) ⟨fun _ => no (Or.inr h), fun q => absurd q (by decide), Or.inl rfl⟩
  · subst e
    refine q_rIy hk (by omega) ?_
    rcases rg_ix t (a := 0) (b := 1000) (by omega) (by omega) with ⟨d, _, hd, e⟩ | hx
    · subst e
      refine q_rRy (a := 0) (b := 1000) (by omega) hd (by omega) ?_
      have rest : ∀ post, (∀ M5, M5 = mTH_s M 0 → (¬ nI (tmn (inN k)) = nI d → (∀ M10 M11, M10 = mTI_s M5 (upd (mTI M5) k (nI d)) → M11 = mSL_s M10 1 → post (1 : Int32) M11)) ∧ (nI (tmn (inN k)) = nI d → post (0 : Int32) M5)) → p_X6_arrives M (nI k) (nI d) post := by
        intro post hpost
        unfold p_X6_arrives
        rw [m4]
        refine r_iIy hk (by omega) ⟨fun _ => ⟨fun q => absurd q (nI_pos (by omega)), fun _ => ⟨fun q => absurd q (i32_nlt (nI_le (b := 1000) hd (by omega))), fun _ => ?_⟩⟩, fun q => absurd q (by decide)⟩
        unfold p_X6_arrives_32
        intro M5 e5
        have eT : mTI M5 = mTI M := by rw [e5, gs_mTI_TH]
        rw [show mTH M5 = 0 by rw [e5, gs_mTH_TH], bx_cl (show k < 2 ^ 31 by omega), eT, (m8 k hk).2]
        obtain ⟨p1, p2⟩ := hpost M5 e5
        refine ⟨fun q => absurd q (by decide), fun _ => ⟨bx_in (by omega) (by omega), fun q => ⟨bx_in (by omega) (by omega), fun M10 e10 M11 e11 => ?_⟩, p2⟩⟩
        rw [← eT] at e10
        exact p1 q M10 M11 e10 e11
      rw [bx_cl (show k < 2 ^ 31 by omega), h9 k hk]
      refine ⟨bx_in (by omega) (by omega), fun z => ⟨bx_in (by omega) (by omega), fun S6 e6 S7 e7 => ?_⟩, fun z => ?_⟩
      · refine ⟨fun q => absurd q (by decide), fun _ => ?_⟩
        refine pi2 ?_
        refine ⟨v1, v2, rest _ (fun M5 em5 => ⟨fun _ M10 M11 em10 em11 => ?_, fun q => absurd q z⟩)⟩
        have xIN : cIN S7 = cIN S := by rw [e7, gs_cIN_SE, e6, gs_cIN_IT]
        have xLE : cLE S7 = cLE S := by rw [e7, gs_cLE_SE, e6, gs_cLE_IT]
        have xRI : cRI S7 = cRI S := by rw [e7, gs_cRI_SE, e6, gs_cRI_IT]
        have xNC : cNC S7 = cNC S := by rw [e7, gs_cNC_SE, e6, gs_cNC_IT]
        have xIC : cIC S7 = cIC S := by rw [e7, gs_cIC_SE, e6, gs_cIC_IT]
        have xST : cST S7 = cST S := by rw [e7, gs_cST_SE, e6, gs_cST_IT]
        have xLV : cLV S7 = cLV S := by rw [e7, gs_cLV_SE, e6, gs_cLV_IT]
        have xFN : cFN S7 = cFN S := by rw [e7, gs_cFN_SE, e6, gs_cFN_IT]
        have xLVn : cLVn S7 = cLVn S := by rw [e7, gs_cLVn_SE, e6, gs_cLVn_IT]
        have xFNn : cFNn S7 = cFNn S := by rw [e7, gs_cFNn_SE, e6, gs_cFNn_IT]
        have xCC : cCC S7 = cCC S := by rw [e7, gs_cCC_SE, e6, gs_cCC_IT]
        have xPI : cPI S7 = cPI S := by rw [e7, gs_cPI_SE, e6, gs_cPI_IT]
        have xTR : cTR S7 = cTR S := by rw [e7, gs_cTR_SE, e6, gs_cTR_IT]
        have xAR : cAR S7 = cAR S := by rw [e7, gs_cAR_SE, e6, gs_cAR_IT]
        have xDE : cDE S7 = cDE S := by rw [e7, gs_cDE_SE, e6, gs_cDE_IT]
        have xAG : cAG S7 = cAG S := by rw [e7, gs_cAG_SE, e6, gs_cAG_IT]
        have xOC : cOC S7 = cOC S := by rw [e7, gs_cOC_SE, e6, gs_cOC_IT]
        have xOL : cOL S7 = cOL S := by rw [e7, gs_cOL_SE, e6, gs_cOL_IT]
        have xGA : cGA S7 = cGA S := by rw [e7, gs_cGA_SE, e6, gs_cGA_IT]
        have yND : mND M11 = mND M := by rw [em11, gs_mND_SL, em10, gs_mND_TI, em5, gs_mND_TH]
        have yIP : mIP M11 = mIP M := by rw [em11, gs_mIP_SL, em10, gs_mIP_TI, em5, gs_mIP_TH]
        have yAN : mAN M11 = mAN M := by rw [em11, gs_mAN_SL, em10, gs_mAN_TI, em5, gs_mAN_TH]
        have yOU : mOU M11 = mOU M := by rw [em11, gs_mOU_SL, em10, gs_mOU_TI, em5, gs_mOU_TH]
        have yCE : mCE M11 = mCE M := by rw [em11, gs_mCE_SL, em10, gs_mCE_TI, em5, gs_mCE_TH]
        have yON : mON M11 = mON M := by rw [em11, gs_mON_SL, em10, gs_mON_TI, em5, gs_mON_TH]
        have yTW : mTW M11 = mTW M := by rw [em11, gs_mTW_SL, em10, gs_mTW_TI, em5, gs_mTW_TH]
        have yIN : mIN M11 = mIN M := by rw [em11, gs_mIN_SL, em10, gs_mIN_TI, em5, gs_mIN_TH]
        have yOL : mOL M11 = mOL M := by rw [em11, gs_mOL_SL, em10, gs_mOL_TI, em5, gs_mOL_TH]
        have yPI : mPI M11 = mPI M := by rw [em11, gs_mPI_SL, em10, gs_mPI_TI, em5, gs_mPI_TH]
        have yTR : mTR M11 = mTR M := by rw [em11, gs_mTR_SL, em10, gs_mTR_TI, em5, gs_mTR_TH]
        have yAR : mAR M11 = mAR M := by rw [em11, gs_mAR_SL, em10, gs_mAR_TI, em5, gs_mAR_TH]
        have yDE : mDE M11 = mDE M := by rw [em11, gs_mDE_SL, em10, gs_mDE_TI, em5, gs_mDE_TH]
        have yAO : mAO M11 = mAO M := by rw [em11, gs_mAO_SL, em10, gs_mAO_TI, em5, gs_mAO_TH]
        have yCC : mCC M11 = mCC M := by rw [em11, gs_mCC_SL, em10, gs_mCC_TI, em5, gs_mCC_TH]
        have yCB : mCB M11 = mCB M := by rw [em11, gs_mCB_SL, em10, gs_mCB_TI, em5, gs_mCB_TH]
        have xSE : cSE S7 = nI 0 := by rw [e7, gs_cSE_SE]; rfl
        have xIT : cIT S7 = upd (cIT S) k (nI d) := by rw [e7, gs_cIT_SE, e6, gs_cIT_IT]
        have yTI : mTI M11 = upd (mTI M) k (nI d) := by rw [em11, gs_mTI_SL, em10, gs_mTI_TI, em5, gs_mTI_TH]
        have ySL : mSL M11 = 1 := by rw [em11, gs_mSL_SL]
        have yTH : mTH M11 = 0 := by rw [em11, gs_mTH_SL, em10, gs_mTH_TI, em5, gs_mTH_TH]
        have tm' : ∀ j, j < I → j ≠ k → updN tmn (inN k) d (inN j) = tmn (inN j) := fun j hj nj => un_n (fun q => nj (by rw [← (a6 j hj).2.2, q, (a6 k hk).2.2]))
        have hA' : aOK N I O ip il ir nb inN ct (updN tmn (inN k) d) ol := by
          refine ⟨a1, a2, a3, a4, a5, a6, fun j hj => ?_, a8, a9, a10⟩
          by_cases ej : j = inN k
          · rw [ej, un_s]; exact hd
          · rw [un_n ej]; exact a7 j hj
        have hC' : cR S7 N I K O pn tr ar de ip il ir nb inN ct (updN tmn (inN k) d) ol := by
          refine ⟨cG_same h1 xIN xLE xRI, by rw [xNC]; exact h2, by rw [xIC]; exact h3, cT_same h4 xST xLV xFN xLVn xFNn, cSh_same h5 xCC xPI xTR xAR xDE xAG, by rw [xOC]; exact h6, by rw [xOL]; exact h7, by rw [xIN]; exact h8, fun j hj => ?_, 0, fun _ => 0, fun _ => 0, xSE, by omega, fun l hl => absurd hl (by omega), fun l hl => absurd hl (by omega)⟩
          rw [xIT]
          by_cases ej : j = k
          · rw [ej, un_s, pk_us]
          · rw [tm' j hj ej, pk_un ej]; exact h9 j hj
        have hM' : mR M11 N I K O pn tr ar de ip il ir inN ct (updN tmn (inN k) d) ol := by
          refine ⟨mSh_same m1 yCE yPI yTR yAR yDE, mG_same m2 yON yTW, by rw [yND]; exact m3, by rw [yIP]; exact m4, by rw [yAN]; exact m5, by rw [yOU]; exact m6, by rw [yOL]; exact m7, fun j hj => ?_, mAO_same m9 yAO yCC yCB, fun q => absurd (ySL.symm.trans q) (by decide)⟩
          refine ⟨by rw [yIN]; exact (m8 j hj).1, ?_⟩
          rw [yTI]
          by_cases ej : j = k
          · rw [ej, un_s, pk_us]
          · rw [tm' j hj ej, pk_un ej]; exact (m8 j hj).2
        exact lw_finB yTH (fun _ => ⟨fun q => absurd q (by decide), fun _ => outp_0 _ _⟩) (fun y ey => hgo S7 _ _ y (Rel_mk hA' hC' hM') xLVn ey)
      · refine ⟨fun _ => ?_, fun q => absurd rfl q⟩
        refine pi2 ?_
        refine ⟨v1, v2, rest _ (fun M5 em5 => ⟨fun q => absurd z q, fun _ => ?_⟩)⟩
        subst em5
        exact lw_finB (gs_mTH_TH M 0) (fun _ => ⟨fun _ => outp_0 _ _, fun q => absurd rfl q⟩) (fun y ey => hgo S _ _ y (Rel_mk hA hC (mR_TH hM)) rfl ey)
    · refine q_rRn (a := 0) (b := 1000) hx ⟨fun q => absurd q (by decide), fun _ => ?_, Or.inr rfl⟩
      refine pi2 ?_
      refine ⟨v1, v2, ?_⟩
      unfold p_X6_arrives
      rw [m4]
      refine r_iIy hk (by omega) ⟨fun _ => ⟨fun _ => thr 2 (by decide) _ _ rfl rfl, fun q => ⟨fun _ => thr 2 (by decide) _ _ rfl rfl, fun q2 => absurd (hx.resolve_left q) q2⟩⟩, fun q => absurd q (by decide)⟩
theorem w_1140 (hR : Rel S M) (hgo : ∀ S' o' M' y, Rel S' M' → cLVn S' = cLVn S → y = i + (4 : Int32) → g23 S' o' M' y uc us) : p_law_1140 g23 xs L S o M i uc us := by
  obtain ⟨N, I, K, O, pn, tr, ar, de, ip, il, ir, nb, inN, ct, tmn, ol, hA, hC, hM⟩ := hR
  obtain ⟨h1, h2, h3, h4, h5, h6, h7, h8, h9, hs⟩ := id hC
  unfold p_law_1140 p_X5_clear p_X2_empty p_X3_empty p_X1_forget
  intro S1 e1 S2 e2 S3 e3 S4 e4 S5 e5
  unfold p_X6_clear
  intro M1 f1 M2 f2 M3 f3 M4 f4 M5 f5 M6 f6 M7 f7 y ey
  have xST : cST S5 = cST S := by rw [e5, gs_cST_OC, e4, gs_cST_SE, e3, gs_cST_CC, e2, gs_cST_IC, e1, gs_cST_NC]
  have xLVn : cLVn S5 = cLVn S := by rw [e5, gs_cLVn_OC, e4, gs_cLVn_SE, e3, gs_cLVn_CC, e2, gs_cLVn_IC, e1, gs_cLVn_NC]
  have xFNn : cFNn S5 = cFNn S := by rw [e5, gs_cFNn_OC, e4, gs_cFNn_SE, e3, gs_cFNn_CC, e2, gs_cFNn_IC, e1, gs_cFNn_NC]
  have xNC : cNC S5 = nI 0 := by rw [e5, gs_cNC_OC, e4, gs_cNC_SE, e3, gs_cNC_CC, e2, gs_cNC_IC, e1, gs_cNC_NC]; rfl
  have xIC : cIC S5 = nI 0 := by rw [e5, gs_cIC_OC, e4, gs_cIC_SE, e3, gs_cIC_CC, e2, gs_cIC_IC]; rfl
  have xCC : cCC S5 = nI 0 := by rw [e5, gs_cCC_OC, e4, gs_cCC_SE, e3, gs_cCC_CC]; rfl
  have xSE : cSE S5 = nI 0 := by rw [e5, gs_cSE_OC, e4, gs_cSE_SE]; rfl
  have xOC : cOC S5 = nI 0 := by rw [e5, gs_cOC_OC]; rfl
  have yND : mND M7 = nI 0 := by rw [f7, gs_mND_SL, f6, gs_mND_CE, f5, gs_mND_OU, f4, gs_mND_AN, f3, gs_mND_IP, f2, gs_mND_ND]; rfl
  have yIP : mIP M7 = nI 0 := by rw [f7, gs_mIP_SL, f6, gs_mIP_CE, f5, gs_mIP_OU, f4, gs_mIP_AN, f3, gs_mIP_IP]; rfl
  have yAN : mAN M7 = nI 0 := by rw [f7, gs_mAN_SL, f6, gs_mAN_CE, f5, gs_mAN_OU, f4, gs_mAN_AN]; rfl
  have yOU : mOU M7 = nI 0 := by rw [f7, gs_mOU_SL, f6, gs_mOU_CE, f5, gs_mOU_OU]; rfl
  have yCE : mCE M7 = nI 0 := by rw [f7, gs_mCE_SL, f6, gs_mCE_CE]; rfl
  have ySL : mSL M7 = 1 := by rw [f7, gs_mSL_SL]
  have c0 : cST S 0 = nI 0 := h4.1.1 0 (Nat.zero_le _)
  refine hgo S5 o M7 y (Rel_mk (N := 0) (I := 0) (K := 0) (O := 0) (pn := pn) (tr := tr) (ar := ar) (de := de) (nb := nb) (inN := inN) (ip := ip) (il := il) (ir := ir) (ct := ct) (tmn := tmn) (ol := ol) ?_ ?_ ?_) xLVn ey
  · exact ⟨by omega, by omega, by omega, by omega, fun k hk => absurd hk (by omega), fun k hk => absurd hk (by omega), fun k hk => absurd hk (by omega), fun k hk => absurd hk (by omega), by omega, fun k hk => absurd hk (by omega)⟩
  · refine ⟨⟨by omega, fun k hk => absurd hk (by omega)⟩, xNC, xIC, ⟨⟨fun k hk => ?_, fun k j hk => absurd hk (by omega)⟩, fun k j hk => absurd hk (by omega), Nat.zero_le _, by rw [xFNn, xLVn]; exact h4.2.2.2.1, by rw [xLVn]; exact h4.2.2.2.2⟩, ⟨xCC, by omega, fun c hc => absurd hc (by omega)⟩, xOC, fun k hk => absurd hk (by omega), fun k hk => absurd hk (by omega), fun k hk => absurd hk (by omega), 0, fun _ => 0, fun _ => 0, xSE, by omega, fun l hl => absurd hl (by omega), fun l hl => absurd hl (by omega)⟩
    have : k = 0 := by omega
    subst this
    rw [xST, c0]
    rfl
  · exact ⟨⟨yCE, by omega, fun c hc => absurd hc (by omega)⟩, ⟨by omega, fun k hk => absurd hk (by omega)⟩, yND, yIP, yAN, yOU, fun k hk => absurd hk (by omega), fun k hk => absurd hk (by omega), fun k hk => absurd hk (by omega), fun q => absurd (ySL.symm.trans q) (by decide)⟩
end C3
