/-! 71 CASE4: the law's cases delay and cell -/
section C4
variable {g23 : CS → (Nat → Int64) → MS → Int32 → Nat → Nat → Prop} {xs : Nat → Int32} {L : Nat} {S : CS} {o : Nat → Int64} {M : MS} {i : Int32} {uc us : Nat}
theorem w_376 (hR : Rel S M) (v1 : vp_in (i + (1 : Int32)) L) (v2 : vp_in (i + (2 : Int32)) L) (v3 : vp_in (i + (3 : Int32)) L) (hb : uc + 3 ≤ 601024 ∧ us + 18 ≤ 7293034) (hgo : ∀ S' o' M' y, Rel S' M' → cLVn S' = cLVn S → y = i + (4 : Int32) → g23 S' o' M' y (uc + 3) (us + 18)) : p_law_376 g23 xs L S o M i uc us := by
  obtain ⟨N, I, K, O, pn, tr, ar, de, ip, il, ir, nb, inN, ct, tmn, ol, hA, hC, hM⟩ := hR
  obtain ⟨h1, h2, h3, h4, h5, h6, h7, h8, h9, hs⟩ := id hC
  obtain ⟨m1, m2, m3, m4, m5, m6, m7, m8, m9, ms⟩ := id hM
  have hK := h5.2.1
  unfold p_law_376 p_L_delay p_X5_delay
  generalize xs (i + (1 : Int32)).toNatClampNeg = x
  generalize xs (i + (2 : Int32)).toNatClampNeg = x2
  generalize xs (i + (3 : Int32)).toNatClampNeg = t
  refine ⟨v1, v2, v3, hb, ?_⟩
  have thr : ∀ c : Int32, 0 < c → ∀ S32 o33, S32 = S → o33 = o → p_X6_delay_72 M x x2 t c (fun r99 M37 => p_X6_thrown M37 (fun r101 => (r101 = c → ((¬ c = 0 → (∀ y105 : Int32, y105 = (i + (4 : Int32)) → (g23 S32 o33 M37 y105 (uc + 3) (us + 18)))) ∧ (c = 0 → ((r99 = 0 → (((lg_cmp (o33 (0 : Int32).toNatClampNeg) (0 : Int64)) = 0 → (∀ y108 : Int32, y108 = (i + (4 : Int32)) → (g23 S32 o33 M37 y108 (uc + 3) (us + 18)))) ∧ (¬ (lg_cmp (o33 (0 : Int32).toNatClampNeg) (0 : Int64)) = 0 → (False)))) ∧ (¬ r99 = 0 → (((lg_cmp (o33 (0 : Int32).toNatClampNeg) (1 : Int64)) = 0 → (∀ y110 : Int32, y110 = (i + (4 : Int32)) → (g23 S32 o33 M37 y110 (uc + 3) (us + 18)))) ∧ (¬ (lg_cmp (o33 (0 : Int32).toNatClampNeg) (1 : Int64)) = 0 → (False)))))))) ∧ (¬ r101 = c → (False)))) := by
    refine fun c hc => pi2' ?_
    unfold p_X6_delay_72
    rintro _ rfl
    rw [gs_mTH_TH]
    exact ⟨fun _ => lw_finB (gs_mTH_TH M c) (fun q => absurd hc (by rw [q]; decide)) (fun y ey => hgo S o _ y (Rel_mk hA hC (mR_TH hM)) rfl ey), fun q => absurd hc q⟩
  have d43 : ∀ S32 o33, S32 = S → o33 = o → p_X6_delay_43 M x x2 t (fun r99 M37 => p_X6_thrown M37 (fun r101 => (r101 = 1 → ((¬ (1 : Int32) = 0 → (∀ y105 : Int32, y105 = (i + (4 : Int32)) → (g23 S32 o33 M37 y105 (uc + 3) (us + 18)))) ∧ ((1 : Int32) = 0 → ((r99 = 0 → (((lg_cmp (o33 (0 : Int32).toNatClampNeg) (0 : Int64)) = 0 → (∀ y108 : Int32, y108 = (i + (4 : Int32)) → (g23 S32 o33 M37 y108 (uc + 3) (us + 18)))) ∧ (¬ (lg_cmp (o33 (0 : Int32).toNatClampNeg) (0 : Int64)) = 0 → (False)))) ∧ (¬ r99 = 0 → (((lg_cmp (o33 (0 : Int32).toNatClampNeg) (1 : Int64)) = 0 → (∀ y110 : Int32, y110 = (i + (4 : Int32)) → (g23 S32 o33 M37 y110 (uc + 3) (us + 18)))) ∧ (¬ (lg_cmp (o33 (0 : Int32).toNatClampNeg) (1 : Int64)) = 0 → (False)))))))) ∧ (¬ r101 = 1 → (False)))) := fun S32 o33 a b => ⟨fun q => absurd rfl q, fun _ => thr 1 (by decide) S32 o33 a b⟩
  have no : (x < 0 ∨ nI K ≤ x) → ∀ S32 o33, S32 = S → o33 = o → vp_in (i + (1 : Int32)) L ∧ vp_in (i + (2 : Int32)) L ∧ vp_in (i + (3 : Int32)) L ∧ p_X6_delay M x x2 t (fun r99 M37 => p_X6_thrown M37 (fun r101 => (r101 = 1 → ((¬ (1 : Int32) = 0 → (∀ y105 : Int32, y105 = (i + (4 : Int32)) → (g23 S32 o33 M37 y105 (uc + 3) (us + 18)))) ∧ ((1 : Int32) = 0 → ((r99 = 0 → (((lg_cmp (o33 (0 : Int32).toNatClampNeg) (0 : Int64)) = 0 → (∀ y108 : Int32, y108 = (i + (4 : Int32)) → (g23 S32 o33 M37 y108 (uc + 3) (us + 18)))) ∧ (¬ (lg_cmp (o33 (0 : Int32).toNatClampNeg) (0 : Int64)) = 0 → (False)))) ∧ (¬ r99 = 0 → (((lg_cmp (o33 (0 : Int32).toNatClampNeg) (1 : Int64)) = 0 → (∀ y110 : Int32, y110 = (i + (4 : Int32)) → (g23 S32 o33 M37 y110 (uc + 3) (us + 18)))) ∧ (¬ (lg_cmp (o33 (0 : Int32).toNatClampNeg) (1 : Int64)) = 0 → (False)))))))) ∧ (¬ r101 = 1 → (False)))) := by
    intro hx S32 o33 eS eo
    refine ⟨v1, v2, v3, ?_⟩
    unfold p_X6_delay
    rw [m1.1]
    exact r_iIn hx ⟨fun _ => d43 S32 o33 eS eo, fun q => absurd rfl q⟩
  rw [h5.1]
  rcases pk_ix x (n := K) (by omega) with h | h | ⟨c, hc, e⟩
  · exact q_rIn (Or.inl h) ⟨fun _ => no (Or.inl h), fun q => absurd q (by decide), Or.inl rfl⟩
  · exact q_rIn (Or.inr h) ⟨fun _ => no (Or.inr h), fun q => absurd q (by decide), Or.inl rfl⟩
  · subst e
    obtain ⟨c1, c2', c3, c4, c5, c6, c7⟩ := h5.2.2 c hc
    obtain ⟨n1, n2, n3, n4, n5, n6⟩ := m1.2.2 c hc
    refine q_rIy hc (by omega) ⟨bx_in (by omega) (by omega), ?_⟩
    rw [bx_cl (show c < 2 ^ 31 by omega), c2']
    have to33 : ∀ post, p_X6_delay_33 M (nI c) x2 t (nI (pn c)) x2 post → p_X6_delay M (nI c) x2 t post := by
      intro post hq
      unfold p_X6_delay
      rw [m1.1, bx_cl (show c < 2 ^ 31 by omega), n2]
      exact r_iIy hc (by omega) ⟨fun q => absurd q (by decide), fun _ => r_iIy hc (by omega) ⟨fun q => absurd q (by decide), fun _ => ⟨bx_in (by omega) (by omega), hq⟩⟩⟩
    rcases pk_ix x2 (n := pn c) (by omega) with h | h | ⟨q, hq, e2⟩
    · refine q_rIn (Or.inl h) ⟨fun _ => ?_, fun q => absurd q (by decide), Or.inl rfl⟩
      intro S32 o33 eS eo
      exact ⟨v1, v2, v3, to33 _ (r_iIn (Or.inl h) ⟨fun _ => d43 S32 o33 eS eo, fun q => absurd rfl q⟩)⟩
    · refine q_rIn (Or.inr h) ⟨fun _ => ?_, fun q => absurd q (by decide), Or.inl rfl⟩
      intro S32 o33 eS eo
      exact ⟨v1, v2, v3, to33 _ (r_iIn (Or.inr h) ⟨fun _ => d43 S32 o33 eS eo, fun q => absurd rfl q⟩)⟩
    · subst e2
      refine q_rIy hq (by omega) ?_
      rcases rg_ix t (a := 0) (b := 1000) (by omega) (by omega) with ⟨d, _, hd, e⟩ | hx
      · subst e
        refine q_rRy (a := 0) (b := 1000) (by omega) hd (by omega) ?_
        have e3 : (nI c * (3 : Int32)) + nI q = nI (3 * c + q) := by
          rw [show (3 : Int32) = nI 3 from rfl, pk_mul, nI_add, Nat.mul_comm]
        have e3' : ((3 : Int32) * nI c) + nI q = nI (3 * c + q) := by
          rw [show (3 : Int32) = nI 3 from rfl, pk_mul, nI_add]
        have rest : ∀ post, (∀ M6, M6 = mTH_s M 0 → (¬ nI (de (3 * c + q)) = nI d → (∀ M11 M12, M11 = mDE_s M6 (upd (mDE M6) (3 * c + q) (nI d)) → M12 = mSL_s M11 1 → post (1 : Int32) M12)) ∧ (nI (de (3 * c + q)) = nI d → post (0 : Int32) M6)) → p_X6_delay M (nI c) (nI q) (nI d) post := by
          intro post hpost
          refine to33 post (r_iIy hq (by omega) ⟨fun q => absurd q (by decide), fun _ => ⟨fun _ => ⟨fun q => absurd q (nI_pos (by omega)), fun _ => ⟨fun q => absurd q (i32_nlt (nI_le (b := 1000) hd (by omega))), fun _ => ?_⟩⟩, fun q => absurd q (by decide)⟩⟩)
          unfold p_X6_delay_72
          intro M6 e6
          have eT : mDE M6 = mDE M := by rw [e6, gs_mDE_TH]
          rw [show mTH M6 = 0 by rw [e6, gs_mTH_TH], e3', bx_cl (show 3 * c + q < 2 ^ 31 by omega), eT, (n6 q (by omega)).1]
          obtain ⟨p1, p2⟩ := hpost M6 e6
          refine ⟨fun q => absurd q (by decide), fun _ => ⟨bx_in (by omega) (by omega), fun q => ⟨bx_in (by omega) (by omega), fun M10 e10 M11 e11 => ?_⟩, p2⟩⟩
          rw [← eT] at e10
          exact p1 q M10 M11 e10 e11
        unfold p_X3_delayAt
        rw [e3, bx_cl (show 3 * c + q < 2 ^ 31 by omega), (c6 q (by omega)).1]
        refine ⟨bx_in (by omega) (by omega), fun z => ?_, fun z => ?_⟩
        · unfold p_X3_setDelay
          rw [e3, bx_cl (show 3 * c + q < 2 ^ 31 by omega)]
          refine ⟨bx_in (by omega) (by omega), fun S8 e8 S9 e9 => ?_⟩
          refine ⟨fun q => absurd q (by decide), fun _ => ?_⟩
          refine pi2 ?_
          refine ⟨v1, v2, v3, rest _ (fun M6 em6 => ⟨fun _ M11 M12 em11 em12 => ?_, fun q => absurd q z⟩)⟩
          have xIN : cIN S9 = cIN S := by rw [e9, gs_cIN_SE, e8, gs_cIN_DE]
          have xLE : cLE S9 = cLE S := by rw [e9, gs_cLE_SE, e8, gs_cLE_DE]
          have xRI : cRI S9 = cRI S := by rw [e9, gs_cRI_SE, e8, gs_cRI_DE]
          have xNC : cNC S9 = cNC S := by rw [e9, gs_cNC_SE, e8, gs_cNC_DE]
          have xIC : cIC S9 = cIC S := by rw [e9, gs_cIC_SE, e8, gs_cIC_DE]
          have xST : cST S9 = cST S := by rw [e9, gs_cST_SE, e8, gs_cST_DE]
          have xLV : cLV S9 = cLV S := by rw [e9, gs_cLV_SE, e8, gs_cLV_DE]
          have xFN : cFN S9 = cFN S := by rw [e9, gs_cFN_SE, e8, gs_cFN_DE]
          have xLVn : cLVn S9 = cLVn S := by rw [e9, gs_cLVn_SE, e8, gs_cLVn_DE]
          have xFNn : cFNn S9 = cFNn S := by rw [e9, gs_cFNn_SE, e8, gs_cFNn_DE]
          have xCC : cCC S9 = cCC S := by rw [e9, gs_cCC_SE, e8, gs_cCC_DE]
          have xPI : cPI S9 = cPI S := by rw [e9, gs_cPI_SE, e8, gs_cPI_DE]
          have xTR : cTR S9 = cTR S := by rw [e9, gs_cTR_SE, e8, gs_cTR_DE]
          have xAR : cAR S9 = cAR S := by rw [e9, gs_cAR_SE, e8, gs_cAR_DE]
          have xAG : cAG S9 = cAG S := by rw [e9, gs_cAG_SE, e8, gs_cAG_DE]
          have xOC : cOC S9 = cOC S := by rw [e9, gs_cOC_SE, e8, gs_cOC_DE]
          have xOL : cOL S9 = cOL S := by rw [e9, gs_cOL_SE, e8, gs_cOL_DE]
          have xIT : cIT S9 = cIT S := by rw [e9, gs_cIT_SE, e8, gs_cIT_DE]
          have xGA : cGA S9 = cGA S := by rw [e9, gs_cGA_SE, e8, gs_cGA_DE]
          have yND : mND M12 = mND M := by rw [em12, gs_mND_SL, em11, gs_mND_DE, em6, gs_mND_TH]
          have yIP : mIP M12 = mIP M := by rw [em12, gs_mIP_SL, em11, gs_mIP_DE, em6, gs_mIP_TH]
          have yAN : mAN M12 = mAN M := by rw [em12, gs_mAN_SL, em11, gs_mAN_DE, em6, gs_mAN_TH]
          have yOU : mOU M12 = mOU M := by rw [em12, gs_mOU_SL, em11, gs_mOU_DE, em6, gs_mOU_TH]
          have yCE : mCE M12 = mCE M := by rw [em12, gs_mCE_SL, em11, gs_mCE_DE, em6, gs_mCE_TH]
          have yON : mON M12 = mON M := by rw [em12, gs_mON_SL, em11, gs_mON_DE, em6, gs_mON_TH]
          have yTW : mTW M12 = mTW M := by rw [em12, gs_mTW_SL, em11, gs_mTW_DE, em6, gs_mTW_TH]
          have yIN : mIN M12 = mIN M := by rw [em12, gs_mIN_SL, em11, gs_mIN_DE, em6, gs_mIN_TH]
          have yTI : mTI M12 = mTI M := by rw [em12, gs_mTI_SL, em11, gs_mTI_DE, em6, gs_mTI_TH]
          have yOL : mOL M12 = mOL M := by rw [em12, gs_mOL_SL, em11, gs_mOL_DE, em6, gs_mOL_TH]
          have yPI : mPI M12 = mPI M := by rw [em12, gs_mPI_SL, em11, gs_mPI_DE, em6, gs_mPI_TH]
          have yTR : mTR M12 = mTR M := by rw [em12, gs_mTR_SL, em11, gs_mTR_DE, em6, gs_mTR_TH]
          have yAR : mAR M12 = mAR M := by rw [em12, gs_mAR_SL, em11, gs_mAR_DE, em6, gs_mAR_TH]
          have yAO : mAO M12 = mAO M := by rw [em12, gs_mAO_SL, em11, gs_mAO_DE, em6, gs_mAO_TH]
          have yCC : mCC M12 = mCC M := by rw [em12, gs_mCC_SL, em11, gs_mCC_DE, em6, gs_mCC_TH]
          have yCB : mCB M12 = mCB M := by rw [em12, gs_mCB_SL, em11, gs_mCB_DE, em6, gs_mCB_TH]
          have xSE : cSE S9 = nI 0 := by rw [e9, gs_cSE_SE]; rfl
          have xDE : cDE S9 = upd (cDE S) (3 * c + q) (nI d) := by rw [e9, gs_cDE_SE, e8, gs_cDE_DE]
          have yDE : mDE M12 = upd (mDE M) (3 * c + q) (nI d) := by rw [em12, gs_mDE_SL, em11, gs_mDE_DE, em6, gs_mDE_TH]
          have ySL : mSL M12 = 1 := by rw [em12, gs_mSL_SL]
          have yTH : mTH M12 = 0 := by rw [em12, gs_mTH_SL, em11, gs_mTH_DE, em6, gs_mTH_TH]
          have hC' : cR S9 N I K O pn tr ar (updN de (3 * c + q) d) ip il ir nb inN ct tmn ol := by
            refine ⟨cG_same h1 xIN xLE xRI, by rw [xNC]; exact h2, by rw [xIC]; exact h3, cT_same h4 xST xLV xFN xLVn xFNn, ⟨by rw [xCC]; exact h5.1, hK, fun b hb => ?_⟩, by rw [xOC]; exact h6, by rw [xOL]; exact h7, by rw [xIN]; exact h8, by rw [xIT]; exact h9, 0, fun _ => 0, fun _ => 0, xSE, by omega, fun l hl => absurd hl (by omega), fun l hl => absurd hl (by omega)⟩
            obtain ⟨d1, d2, d3, d4, d5, d6, d7⟩ := h5.2.2 b hb
            refine ⟨d1, by rw [xPI]; exact d2, by rw [xTR]; exact d3, by rw [xAR]; exact d4, d5, fun j hj => ?_, by rw [xAG]; exact d7⟩
            rw [xDE]
            by_cases ej : 3 * b + j = 3 * c + q
            · rw [ej, un_s, pk_us]; exact ⟨rfl, hd⟩
            · rw [un_n ej, pk_un ej]; exact d6 j hj
          have hM' : mR M12 N I K O pn tr ar (updN de (3 * c + q) d) ip il ir inN ct tmn ol := by
            refine ⟨⟨by rw [yCE]; exact m1.1, hK, fun b hb => ?_⟩, mG_same m2 yON yTW, by rw [yND]; exact m3, by rw [yIP]; exact m4, by rw [yAN]; exact m5, by rw [yOU]; exact m6, by rw [yOL]; exact m7, by rw [yIN, yTI]; exact m8, mAO_same m9 yAO yCC yCB, fun q => absurd (ySL.symm.trans q) (by decide)⟩
            obtain ⟨d1, d2, d3, d4, d5, d6⟩ := m1.2.2 b hb
            refine ⟨d1, by rw [yPI]; exact d2, by rw [yTR]; exact d3, by rw [yAR]; exact d4, d5, fun j hj => ?_⟩
            rw [yDE]
            by_cases ej : 3 * b + j = 3 * c + q
            · rw [ej, un_s, pk_us]; exact ⟨rfl, hd⟩
            · rw [un_n ej, pk_un ej]; exact d6 j hj
          exact lw_finB yTH (fun _ => ⟨fun q => absurd q (by decide), fun _ => outp_0 _ _⟩) (fun y ey => hgo S9 _ _ y (Rel_mk hA hC' hM') xLVn ey)
        · refine ⟨fun _ => ?_, fun q => absurd rfl q⟩
          refine pi2 ?_
          refine ⟨v1, v2, v3, rest _ (fun M6 em6 => ⟨fun q => absurd z q, fun _ => ?_⟩)⟩
          subst em6
          exact lw_finB (gs_mTH_TH M 0) (fun _ => ⟨fun _ => outp_0 _ _, fun q => absurd rfl q⟩) (fun y ey => hgo S _ _ y (Rel_mk hA hC (mR_TH hM)) rfl ey)
      · refine q_rRn (a := 0) (b := 1000) hx ⟨fun q => absurd q (by decide), fun _ => ?_, Or.inr rfl⟩
        intro S32 o33 eS eo
        refine ⟨v1, v2, v3, to33 _ (r_iIy hq (by omega) ⟨fun q => absurd q (by decide), fun _ => ⟨fun _ => ⟨fun _ => thr 2 (by decide) S32 o33 eS eo, fun q => ⟨fun _ => thr 2 (by decide) S32 o33 eS eo, fun q2 => absurd (hx.resolve_left q) q2⟩⟩, fun q => absurd q (by decide)⟩⟩)⟩
theorem r_cell52 {x1 x2 x3 t0 : Int32} {post : Int32 → MS → Prop} {K : Nat} (hCE : mCE M = nI K) (hK : K ≤ 12) (hp : ∀ c : Int32, (K = 12 → c = 1) → (K ≠ 12 → t0 = 0 → c = 2) → (K ≠ 12 → t0 ≠ 0 → c = 0) → p_X6_cell_78 M x1 x2 x3 c post) : p_X6_cell_52 M x1 x2 x3 t0 post := by
  unfold p_X6_cell_52
  rw [hCE, show (12 : Int32) = nI 12 from rfl]
  refine c2n (nI_eq (by omega) (by omega)) (fun z => ⟨fun y => ?_, fun y => ?_⟩) (fun z => ?_)
  · exact hp 2 (fun q => absurd q z) (fun _ _ => rfl) (fun _ q => absurd y q)
  · exact hp 0 (fun q => absurd q z) (fun _ q => absurd q y) (fun _ _ => rfl)
  · exact hp 1 (fun _ => rfl) (fun q => absurd z q) (fun q => absurd z q)
theorem r_cell123 {post : Int32 → MS → Prop} {K : Nat} (hCE : mCE M = nI K) (hK : K < 12) (hp : ∀ f M14 M15, (∀ j, j < 3 * K → f j = mDE M j) → (∀ q, q < 3 → f (3 * K + q) = 0) → M14 = mCE_s (mDE_s M f) (nI (K + 1)) → M15 = mSL_s M14 1 → post (nI K) M15) : p_X6_cell_123 M (0 : Int32) post := by
  have k3 : (3 : Int32) = nI 3 := rfl
  unfold p_X6_cell_123
  refine ⟨fun M' x5 => ∃ q f, M' = mDE_s M f ∧ x5 = nI q ∧ q ≤ 3 ∧ (∀ j, j < 3 * K → f j = mDE M j) ∧ ∀ j, j < q → f (3 * K + j) = 0, fun _ x5 => 3 - x5.toNatClampNeg, ⟨0, mDE M, rfl, rfl, by omega, fun _ _ => rfl, fun j hj => absurd hj (by omega)⟩, ?_⟩
  rintro M' x5 ⟨q, f, eM, rfl, hq, f1, f2⟩
  have eC : mCE M' = nI K := by rw [eM, gs_mCE_DE]; exact hCE
  unfold b_X6_cell_123
  rw [k3, eC]
  refine c2 (nI_leI (by omega) (by omega)) (fun z => ?_) (fun z => ?_)
  · intro M14 e14 M15 e15
    rw [nI_1, eM] at e14
    have := hp f M14 M15 f1 (fun q hq => f2 q (by omega)) e14 e15
    rw [e15, gs_mCE_SL, e14, gs_mCE_CE, nI_pred, ← e14, ← e15]
    exact this
  · rw [pk_mul, nI_add, bx_cl (show 3 * K + q < 2 ^ 31 by omega)]
    refine ⟨bx_in (by omega) (by omega), ?_⟩
    intro M17 e17 y18 e18
    rw [eM, gs_mDE_DE] at e17
    refine ⟨⟨q + 1, upd f (3 * K + q) 0, e17, by rw [e18, nI_1], by omega, fun j hj => ?_, fun j hj => ?_⟩, mu_up e18 (by omega) (by omega)⟩
    · rw [pk_un (by omega)]; exact f1 j hj
    · by_cases ej : j = q
      · rw [ej, pk_us]
      · rw [pk_un (by omega)]; exact f2 j (by omega)
/-- the reference's cell: the code that it throws, and where it throws none, the shelf's last place -/
theorem r_cell {x1 x2 x3 : Int32} {post : Int32 → MS → Prop} {K : Nat} (hCE : mCE M = nI K) (hK : K ≤ 12) (h1 : K = 12 → post 0 (mTH_s M 1))
    (h2 : K ≠ 12 → ¬ (∃ p t a, 1 ≤ p ∧ p ≤ 3 ∧ t < 2 ^ (2 ^ p) ∧ 1 ≤ a ∧ a ≤ 1000 ∧ x1 = nI p ∧ x2 = nI t ∧ x3 = nI a) → post 0 (mTH_s M 2))
    (h0 : K ≠ 12 → (∃ p t a, 1 ≤ p ∧ p ≤ 3 ∧ t < 2 ^ (2 ^ p) ∧ 1 ≤ a ∧ a ≤ 1000 ∧ x1 = nI p ∧ x2 = nI t ∧ x3 = nI a) → p_X6_cell_78 M x1 x2 x3 0 post) : p_X6_cell M x1 x2 x3 post := by
  have t78 : ∀ c : Int32, ¬ c ≤ 0 → post 0 (mTH_s M c) → p_X6_cell_78 M x1 x2 x3 c post := by
    intro c hc hq
    unfold p_X6_cell_78
    rintro _ rfl
    rw [gs_mTH_TH]
    exact ⟨fun q => absurd q hc, fun _ => hq⟩
  have bad : ¬ (∃ p t a, 1 ≤ p ∧ p ≤ 3 ∧ t < 2 ^ (2 ^ p) ∧ 1 ≤ a ∧ a ≤ 1000 ∧ x1 = nI p ∧ x2 = nI t ∧ x3 = nI a) → p_X6_cell_51 M x1 x2 x3 post := fun hn => r_cell52 hCE hK (fun c c1 c2 _ => by
    by_cases z : K = 12
    · rw [c1 z]; exact t78 1 (by decide) (h1 z)
    · rw [c2 z rfl]; exact t78 2 (by decide) (h2 z hn))
  have bad26 : ¬ (∃ p t a, 1 ≤ p ∧ p ≤ 3 ∧ t < 2 ^ (2 ^ p) ∧ 1 ≤ a ∧ a ≤ 1000 ∧ x1 = nI p ∧ x2 = nI t ∧ x3 = nI a) → p_X6_cell_26 M x1 x2 x3 post := fun hn => ⟨fun _ => bad hn, fun q => absurd rfl q⟩
  unfold p_X6_cell
  refine ⟨fun z => bad26 ?_, fun z1 => ⟨fun z => bad26 ?_, fun z2 => ⟨fun z => bad26 ?_, fun z3 => ⟨fun z => bad26 ?_, fun z4 => ⟨fun q => absurd q (by decide), fun _ => ⟨fun z => bad ?_, fun z5 => ⟨fun z => bad ?_, fun z6 => ?_⟩⟩⟩⟩⟩⟩⟩
  · rintro ⟨p, t, a, b1, b2, b3, b4, b5, e1, e2, e3⟩
    rw [e1] at z
    exact absurd z (nI_nlt (b := 1) b1 (by omega))
  · rintro ⟨p, t, a, b1, b2, b3, b4, b5, e1, e2, e3⟩
    rw [e1] at z
    exact absurd z (nI_nlt (a := 3) b2 (by omega))
  · rintro ⟨p, t, a, b1, b2, b3, b4, b5, e1, e2, e3⟩
    rw [e3] at z
    exact absurd z (nI_nlt (b := 1) b4 (by omega))
  · rintro ⟨p, t, a, b1, b2, b3, b4, b5, e1, e2, e3⟩
    rw [e3] at z
    exact absurd z (nI_nlt (a := 1000) b5 (by omega))
  · rintro ⟨p, t, a, b1, b2, b3, b4, b5, e1, e2, e3⟩
    have := p22_3 b2
    rw [e2] at z
    exact absurd z (nI_pos (by omega))
  · rintro ⟨p, t, a, b1, b2, b3, b4, b5, e1, e2, e3⟩
    have := p22_3 b2
    have := p2_3 b2
    rw [e1, e2, bx_one (by omega), bx_one (by omega)] at z
    exact absurd z (nI_ge b3 (by omega))
  · rcases rg_ix x1 (a := 1) (b := 3) (by omega) (by omega) with ⟨p, p1, p2, e1⟩ | hx
    · rcases rg_ix x3 (a := 1) (b := 1000) (by omega) (by omega) with ⟨a, a1, a2, e3⟩ | hx
      · have q1 := p22_3 p2
        have q2 := p2_3 p2
        obtain ⟨t, ht, e2⟩ := nI_of z5
        have ht2 : t < 2 ^ (2 ^ p) := by
          rw [e1, e2, bx_one (by omega), bx_one (by omega), nI_leI (by omega) ht] at z6
          omega
        refine r_cell52 hCE hK (fun c c1 _ c3 => ?_)
        by_cases w : K = 12
        · rw [c1 w]; exact t78 1 (by decide) (h1 w)
        · rw [c3 w (by decide)]; exact h0 w ⟨p, t, a, p1, p2, ht2, a1, a2, e1, e2, e3⟩
      · exact absurd hx (fun q => q.elim z3 z4)
    · exact absurd hx (fun q => q.elim z1 z2)
theorem w_296 (hR : Rel S M) (v1 : vp_in (i + (1 : Int32)) L) (v2 : vp_in (i + (2 : Int32)) L) (v3 : vp_in (i + (3 : Int32)) L) (hb : uc + 3 ≤ 601024 ∧ us + 18 ≤ 7293034) (hgo : ∀ S' o' M' y, Rel S' M' → cLVn S' = cLVn S → y = i + (4 : Int32) → g23 S' o' M' y (uc + 3) (us + 18)) : p_law_296 g23 xs L S o M i uc us := by
  obtain ⟨N, I, K, O, pn, tr, ar, de, ip, il, ir, nb, inN, ct, tmn, ol, hA, hC, hM⟩ := hR
  obtain ⟨h1, h2, h3, h4, h5, h6, h7, h8, h9, hs⟩ := id hC
  obtain ⟨m1, m2, m3, m4, m5, m6, m7, m8, m9, ms⟩ := id hM
  have hK := h5.2.1
  unfold p_law_296 p_L_cell p_X5_cell
  generalize xs (i + (1 : Int32)).toNatClampNeg = x1
  generalize xs (i + (2 : Int32)).toNatClampNeg = x2
  generalize xs (i + (3 : Int32)).toNatClampNeg = x3
  refine ⟨v1, v2, v3, hb, ?_⟩
  have fin : ∀ c : Int32, ¬ c = 0 → ∀ S32 o33, S32 = S → o33 = o → p_X6_thrown (mTH_s M c) (fun r38 => (r38 = c → ((¬ c = 0 → (∀ y42 : Int32, y42 = (i + (4 : Int32)) → (g23 S32 o33 (mTH_s M c) y42 (uc + 3) (us + 18)))) ∧ (c = 0 → (((lg_cmp (o33 (0 : Int32).toNatClampNeg) ((0 : Int32).toInt64)) = 0 → (∀ y44 : Int32, y44 = (i + (4 : Int32)) → (g23 S32 o33 (mTH_s M c) y44 (uc + 3) (us + 18)))) ∧ (¬ (lg_cmp (o33 (0 : Int32).toNatClampNeg) ((0 : Int32).toInt64)) = 0 → (False)))))) ∧ (¬ r38 = c → (False))) := by
    refine fun c hc => pi2' ?_
    exact lw_fin (gs_mTH_TH M c) (fun q => absurd q hc) (fun y ey => hgo S o _ y (Rel_mk hA hC (mR_TH hM)) rfl ey)
  have bad : K ≠ 12 → ¬ (∃ p t a, 1 ≤ p ∧ p ≤ 3 ∧ t < 2 ^ (2 ^ p) ∧ 1 ≤ a ∧ a ≤ 1000 ∧ x1 = nI p ∧ x2 = nI t ∧ x3 = nI a) → ∀ S32 o33, S32 = S → o33 = o → vp_in (i + (1 : Int32)) L ∧ vp_in (i + (2 : Int32)) L ∧ vp_in (i + (3 : Int32)) L ∧ p_X6_cell M x1 x2 x3 (fun r36 M37 => p_X6_thrown M37 (fun r38 => (r38 = 2 → ((¬ (2 : Int32) = 0 → (∀ y42 : Int32, y42 = (i + (4 : Int32)) → (g23 S32 o33 M37 y42 (uc + 3) (us + 18)))) ∧ ((2 : Int32) = 0 → (((lg_cmp (o33 (0 : Int32).toNatClampNeg) (r36.toInt64)) = 0 → (∀ y44 : Int32, y44 = (i + (4 : Int32)) → (g23 S32 o33 M37 y44 (uc + 3) (us + 18)))) ∧ (¬ (lg_cmp (o33 (0 : Int32).toNatClampNeg) (r36.toInt64)) = 0 → (False)))))) ∧ (¬ r38 = 2 → (False)))) := fun hk hn S32 o33 eS eo =>
    ⟨v1, v2, v3, r_cell m1.1 hK (fun q => absurd q hk) (fun _ _ => fin 2 (by decide) S32 o33 eS eo) (fun _ q => absurd q hn)⟩
  rw [h5.1, show (12 : Int32) = nI 12 from rfl]
  refine c2 (nI_ltI (by omega) (by omega)) (fun z => ?_) (fun z => ⟨fun _ => ?_, fun q => absurd q (by decide), Or.inl rfl⟩)
  · rcases rg_ix x1 (a := 1) (b := 3) (by omega) (by omega) with ⟨p, p1, p2, e1⟩ | hx
    · subst e1
      have q1 := p22_3 p2
      have q2 := p2_3 p2
      refine q_rRy (a := 1) (b := 3) p1 p2 (by omega) (q_full p2 ?_)
      rcases rg_ix x2 (a := 0) (b := 2 ^ (2 ^ p) - 1) (by omega) (by omega) with ⟨t, _, t2, e2⟩ | hx
      · subst e2
        have hpp : 0 < 2 ^ (2 ^ p) := Nat.pow_pos (by omega)
        refine q_rRy (a := 0) (by omega) t2 (by omega) ?_
        rcases rg_ix x3 (a := 1) (b := 1000) (by omega) (by omega) with ⟨a, a1, a2, e3⟩ | hx
        · subst e3
          refine q_rRy (a := 1) (b := 1000) a1 a2 (by omega) ?_
          intro S7 e7
          have h5' : cSh S7 K pn tr ar de := cSh_same h5 (by rw [e7, gs_cCC_SE]) (by rw [e7, gs_cPI_SE]) (by rw [e7, gs_cTR_SE]) (by rw [e7, gs_cAR_SE]) (by rw [e7, gs_cDE_SE]) (by rw [e7, gs_cAG_SE])
          refine q_add h5' z p1 (by omega) (by omega) a1 a2 (fun S9 er hSh => ?_)
          refine pi2 ?_
          refine ⟨v1, v2, v3, r_cell m1.1 hK (fun q => absurd q (by omega)) (fun _ q => absurd ⟨p, t, a, p1, p2, by omega, a1, a2, rfl, rfl, rfl⟩ q) (fun _ _ => ?_)⟩
          unfold p_X6_cell_78
          intro M5 f5
          have g5 : mCE M5 = nI K := by rw [f5, gs_mCE_TH]; exact m1.1
          rw [show mTH M5 = 0 by rw [f5, gs_mTH_TH], g5, bx_cl (show K < 2 ^ 31 by omega)]
          refine ⟨fun _ => ⟨bx_in (by omega) (by omega), ?_⟩, fun q => absurd (by decide) q⟩
          intro M8 f8
          have g8 : mCE M8 = nI K := by rw [f8, gs_mCE_PI]; exact g5
          rw [g8, bx_cl (show K < 2 ^ 31 by omega)]
          refine ⟨bx_in (by omega) (by omega), ?_⟩
          intro M10 f10
          have g10 : mCE M10 = nI K := by rw [f10, gs_mCE_TR]; exact g8
          rw [g10, bx_cl (show K < 2 ^ 31 by omega)]
          refine ⟨bx_in (by omega) (by omega), ?_⟩
          intro M12 f12
          have g12 : mCE M12 = nI K := by rw [f12, gs_mCE_AR]; exact g10
          refine r_cell123 g12 (by omega) (fun f M14 M15 d1 d2 f14 f15 => ?_)
          generalize hM13 : mDE_s M12 f = M13 at f14
          have f13 := hM13.symm
          have yND : mND M15 = mND M := by rw [f15, gs_mND_SL, f14, gs_mND_CE, f13, gs_mND_DE, f12, gs_mND_AR, f10, gs_mND_TR, f8, gs_mND_PI, f5, gs_mND_TH]
          have yIP : mIP M15 = mIP M := by rw [f15, gs_mIP_SL, f14, gs_mIP_CE, f13, gs_mIP_DE, f12, gs_mIP_AR, f10, gs_mIP_TR, f8, gs_mIP_PI, f5, gs_mIP_TH]
          have yAN : mAN M15 = mAN M := by rw [f15, gs_mAN_SL, f14, gs_mAN_CE, f13, gs_mAN_DE, f12, gs_mAN_AR, f10, gs_mAN_TR, f8, gs_mAN_PI, f5, gs_mAN_TH]
          have yOU : mOU M15 = mOU M := by rw [f15, gs_mOU_SL, f14, gs_mOU_CE, f13, gs_mOU_DE, f12, gs_mOU_AR, f10, gs_mOU_TR, f8, gs_mOU_PI, f5, gs_mOU_TH]
          have yON : mON M15 = mON M := by rw [f15, gs_mON_SL, f14, gs_mON_CE, f13, gs_mON_DE, f12, gs_mON_AR, f10, gs_mON_TR, f8, gs_mON_PI, f5, gs_mON_TH]
          have yTW : mTW M15 = mTW M := by rw [f15, gs_mTW_SL, f14, gs_mTW_CE, f13, gs_mTW_DE, f12, gs_mTW_AR, f10, gs_mTW_TR, f8, gs_mTW_PI, f5, gs_mTW_TH]
          have yIN : mIN M15 = mIN M := by rw [f15, gs_mIN_SL, f14, gs_mIN_CE, f13, gs_mIN_DE, f12, gs_mIN_AR, f10, gs_mIN_TR, f8, gs_mIN_PI, f5, gs_mIN_TH]
          have yTI : mTI M15 = mTI M := by rw [f15, gs_mTI_SL, f14, gs_mTI_CE, f13, gs_mTI_DE, f12, gs_mTI_AR, f10, gs_mTI_TR, f8, gs_mTI_PI, f5, gs_mTI_TH]
          have yOL : mOL M15 = mOL M := by rw [f15, gs_mOL_SL, f14, gs_mOL_CE, f13, gs_mOL_DE, f12, gs_mOL_AR, f10, gs_mOL_TR, f8, gs_mOL_PI, f5, gs_mOL_TH]
          have yAO : mAO M15 = mAO M := by rw [f15, gs_mAO_SL, f14, gs_mAO_CE, f13, gs_mAO_DE, f12, gs_mAO_AR, f10, gs_mAO_TR, f8, gs_mAO_PI, f5, gs_mAO_TH]
          have yCC : mCC M15 = mCC M := by rw [f15, gs_mCC_SL, f14, gs_mCC_CE, f13, gs_mCC_DE, f12, gs_mCC_AR, f10, gs_mCC_TR, f8, gs_mCC_PI, f5, gs_mCC_TH]
          have yCB : mCB M15 = mCB M := by rw [f15, gs_mCB_SL, f14, gs_mCB_CE, f13, gs_mCB_DE, f12, gs_mCB_AR, f10, gs_mCB_TR, f8, gs_mCB_PI, f5, gs_mCB_TH]
          have yCE : mCE M15 = nI (K + 1) := by rw [f15, gs_mCE_SL, f14, gs_mCE_CE]
          have yDE : mDE M15 = f := by rw [f15, gs_mDE_SL, f14, gs_mDE_CE, f13, gs_mDE_DE]
          have dDE : mDE M12 = mDE M := by rw [f12, gs_mDE_AR, f10, gs_mDE_TR, f8, gs_mDE_PI, f5, gs_mDE_TH]
          have yPI : mPI M15 = upd (mPI M) K (nI p) := by rw [f15, gs_mPI_SL, f14, gs_mPI_CE, f13, gs_mPI_DE, f12, gs_mPI_AR, f10, gs_mPI_TR, f8, gs_mPI_PI, f5, gs_mPI_TH]
          have yTR : mTR M15 = upd (mTR M) K (nI t) := by rw [f15, gs_mTR_SL, f14, gs_mTR_CE, f13, gs_mTR_DE, f12, gs_mTR_AR, f10, gs_mTR_TR, f8, gs_mTR_PI, f5, gs_mTR_TH]
          have yAR : mAR M15 = upd (mAR M) K (nI a) := by rw [f15, gs_mAR_SL, f14, gs_mAR_CE, f13, gs_mAR_DE, f12, gs_mAR_AR, f10, gs_mAR_TR, f8, gs_mAR_PI, f5, gs_mAR_TH]
          have ySL : mSL M15 = 1 := by rw [f15, gs_mSL_SL]
          have yTH : mTH M15 = 0 := by rw [f15, gs_mTH_SL, f14, gs_mTH_CE, f13, gs_mTH_DE, f12, gs_mTH_AR, f10, gs_mTH_TR, f8, gs_mTH_PI, f5, gs_mTH_TH]
          have er' : cOC S9 = cOC S7 ∧ cNC S9 = cNC S7 ∧ cIC S9 = cIC S7 ∧ cSE S9 = cSE S7 ∧ cOL S9 = cOL S7 ∧ cIN S9 = cIN S7 ∧ cLE S9 = cLE S7 ∧ cRI S9 = cRI S7 ∧ cIT S9 = cIT S7 ∧ cST S9 = cST S7 ∧ cTB S9 = cTB S7 ∧ cGA S9 = cGA S7 ∧ cLN S9 = cLN S7 ∧ cLVa S9 = cLVa S7 ∧ cLVn S9 = cLVn S7 ∧ cLV S9 = cLV S7 ∧ cFNa S9 = cFNa S7 ∧ cFNn S9 = cFNn S7 ∧ cFN S9 = cFN S7 := by
            unfold rsS at er
            simp only [Prod.mk.injEq] at er
            exact er
          obtain ⟨r1, r2, r3, r4, r5, r6, r7, r8, r9, r10, _, _, _, _, r15, r16, _, r18, r19⟩ := er'
          have eLn : cLVn S9 = cLVn S := by rw [r15, e7, gs_cLVn_SE]
          have hC' : cR S9 N I (K + 1) O (updN pn K p) (updN tr K t) (updN ar K a) (deN de K) ip il ir nb inN ct tmn ol := by
            refine ⟨cG_same h1 (by rw [r6, e7, gs_cIN_SE]) (by rw [r7, e7, gs_cLE_SE]) (by rw [r8, e7, gs_cRI_SE]), by rw [r2, e7, gs_cNC_SE]; exact h2, by rw [r3, e7, gs_cIC_SE]; exact h3, cT_same h4 (by rw [r10, e7, gs_cST_SE]) (by rw [r16, e7, gs_cLV_SE]) (by rw [r19, e7, gs_cFN_SE]) eLn (by rw [r18, e7, gs_cFNn_SE]), hSh, by rw [r1, e7, gs_cOC_SE]; exact h6, by rw [r5, e7, gs_cOL_SE]; exact h7, by rw [r6, e7, gs_cIN_SE]; exact h8, by rw [r9, e7, gs_cIT_SE]; exact h9, 0, fun _ => 0, fun _ => 0, by rw [r4, e7, gs_cSE_SE]; rfl, by omega, fun l hl => absurd hl (by omega), fun l hl => absurd hl (by omega)⟩
          have hM' : mR M15 N I (K + 1) O (updN pn K p) (updN tr K t) (updN ar K a) (deN de K) ip il ir inN ct tmn ol := by
            refine ⟨⟨yCE, by omega, fun b hb => ?_⟩, mG_same m2 yON yTW, by rw [yND]; exact m3, by rw [yIP]; exact m4, by rw [yAN]; exact m5, by rw [yOU]; exact m6, by rw [yOL]; exact m7, by rw [yIN, yTI]; exact m8, mAO_same m9 yAO yCC yCB, fun q => absurd (ySL.symm.trans q) (by decide)⟩
            rw [yPI, yTR, yAR, yDE]
            by_cases eb : b = K
            · subst eb
              rw [un_s, un_s, un_s, pk_us, pk_us, pk_us]
              refine ⟨⟨p1, by omega, by omega⟩, rfl, rfl, rfl, ⟨a1, a2⟩, fun q hq => ?_⟩
              rw [d2 q hq]
              unfold deN
              rw [if_pos (by omega)]
              exact ⟨rfl, by omega⟩
            · obtain ⟨b1, b2, b3, b4, b5, b6⟩ := m1.2.2 b (by omega)
              rw [un_n eb, un_n eb, un_n eb, pk_un eb, pk_un eb, pk_un eb]
              refine ⟨b1, b2, b3, b4, b5, fun q hq => ?_⟩
              rw [d1 (3 * b + q) (by omega), dDE]
              unfold deN
              rw [if_neg (by omega)]
              exact b6 q hq
          exact lw_fin yTH (fun _ => by rw [outp_0]) (fun y ey => hgo S9 _ _ y (Rel_mk hA hC' hM') eLn ey)
        · refine q_rRn (a := 1) (b := 1000) hx ⟨fun q => absurd q (by decide), fun _ => bad (by omega) ?_, Or.inr rfl⟩
          rintro ⟨p', t', a', b1, b2, b3, b4, b5, f1, f2, f3⟩
          subst f3
          rcases hx with q | q
          · exact absurd q (nI_nlt (b := 1) b4 (by omega))
          · exact absurd q (nI_nlt (a := 1000) b5 (by omega))
      · refine q_rRn (a := 0) hx ⟨fun q => absurd q (by decide), fun _ => bad (by omega) ?_, Or.inr rfl⟩
        rintro ⟨p', t', a', b1, b2, b3, b4, b5, f1, f2, f3⟩
        subst f2
        have ep := (nI_eq (by omega) (by omega)).1 f1
        subst ep
        rcases hx with q | q
        · exact absurd q (nI_pos (by omega))
        · exact absurd q (nI_nlt (by omega) (by omega))
    · refine q_rRn (a := 1) (b := 3) hx ⟨fun q => absurd q (by decide), fun _ => bad (by omega) ?_, Or.inr rfl⟩
      rintro ⟨p', t', a', b1, b2, b3, b4, b5, f1, f2, f3⟩
      subst f1
      rcases hx with q | q
      · exact absurd q (nI_nlt (b := 1) b1 (by omega))
      · exact absurd q (nI_nlt (a := 3) b2 (by omega))
  · intro S32 o33 eS eo
    exact ⟨v1, v2, v3, r_cell m1.1 hK (fun _ => fin 1 (by decide) S32 o33 eS eo) (fun q => absurd (by omega) q) (fun q => absurd (by omega) q)⟩
end C4
