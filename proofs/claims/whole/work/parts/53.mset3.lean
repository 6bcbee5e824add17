/-! 53 MSET3: the loop over the nodes -/
theorem rsC_AV (M : MS) (f : Nat → Int32) : rsC (mAV_s M f) = rsC M := rfl
section MS3
variable {M0 : MS} {K N : Nat} {pn tr ar de : Nat → Nat} {ip : Nat → Bool} {il ir : Nat → Nat} {ct : Nat → List Nat} {tmn : Nat → Nat} {post : MS → Prop}
theorem r_set3 (hS : mSh M0 K pn tr ar de) (hG : mG M0 ip il ir N) (hND : mND M0 = nI N) (hct : ∀ k, k < N → ip k = false → isCuts ip (hf il) (hf ir) k (ct k)) (htm : ∀ k, k < N → tmn k ≤ 1000) (hAO : ∀ n, n < N → ip n = false → ∃ a, a < 24 ∧ mAO M0 n = nI a ∧ mL M0 a (ct n) ∧ (ct n).length ≤ 4991)
    (hclr : ∀ l, l < 2 * N → mClr M0 ip tmn l)
    (hp : ∀ M' P P1, rsC M' = rsC M0 → mSL M' = mSL M0 → (∀ l, l < 2 * N → mGt M' K pn ip l (P l) ∧ gN (2000 * N) (P l)) → setSp K pn tr de P P1 ip il ir ct tmn N → post M') : p_X6_settle_109 M0 (0 : Int32) post := by
  have hN := hG.1
  have k2 : (2 : Int32) = nI 2 := rfl
  unfold p_X6_settle_109
  refine ⟨fun M x1 => ∃ (i : Nat) (P P1 : Nat → Nat), x1 = nI i ∧ i ≤ N ∧ rsC M = rsC M0 ∧ mSL M = mSL M0 ∧ (∀ l, l < 2 * i → mGt M K pn ip l (P l) ∧ gN (2000 * i) (P l)) ∧ (∀ l, 2 * i ≤ l → l < 2 * N → mClr M ip tmn l) ∧ setSp K pn tr de P P1 ip il ir ct tmn i, fun _ x1 => N - x1.toNatClampNeg, ⟨0, fun _ => 0, fun _ => 0, rfl, by omega, rfl, rfl, fun l hl => absurd hl (by omega), fun l _ hl => hclr l hl, fun k hk => absurd hk (by omega)⟩, ?_⟩
  rintro M x1 ⟨i, P, P1, rfl, hi, a1, a2, a3, a4, a5⟩
  obtain ⟨_, q2, _, _, _, _, _, _, _, _, _, _, _, _, _, q16, q17, q18⟩ := rsC_of a1
  have hGM := rsC_G a1 hG
  have hSM := rsC_Sh a1 hS
  unfold b_X6_settle_109
  rw [q2, hND]
  refine c2 (nI_leI (by omega) (by omega)) (fun y => ?_) (fun y => ?_)
  · have e : i = N := by omega
    subst e
    exact hp M P P1 a1 a2 a3 a5
  · have hiN : i < N := by omega
    obtain ⟨c01, c02, c03, c04⟩ := a4 (2 * i) (by omega) (by omega)
    obtain ⟨c11, c12, c13, c14⟩ := a4 (2 * i + 1) (by omega) (by omega)
    have m0 : 2 * i % 2 = 0 := by omega
    have m1 : ¬ (2 * i + 1) % 2 = 0 := by omega
    have d0 : 2 * i / 2 = i := by omega
    have d1 : (2 * i + 1) / 2 = i := by omega
    have tIp : tI tp = (-1 : Int32) := if_pos rfl
    refine r_isInput hGM hiN ?_
    have g0 : 2000 * i + 1000 < 2 ^ 19 := by omega
    -- the next node, once both literals have their numbers
    have step : ∀ (M' : MS) (x0 x1 z0 z1 : Nat), rsC M' = rsC M0 → mSL M' = mSL M0 → (∀ l, l < 2 * i → mAV M' l = mAV M l ∧ mGA M' l = mGA M l ∧ ∀ q, q < 3 → mGP M' (3 * l + q) = mGP M (3 * l + q)) → (∀ l, 2 * i + 2 ≤ l → l < 2 * N → mFI M' l = mFI M l ∧ mAV M' l = mAV M l ∧ mGA M' l = mGA M l ∧ ∀ q, q < 3 → mGP M' (3 * l + q) = mGP M (3 * l + q)) → mGt M' K pn ip (2 * i) z0 → mGt M' K pn ip (2 * i + 1) z1 → gN (2000 * (i + 1)) z0 → gN (2000 * (i + 1)) z1 → nodeSp K pn tr de P ip il ir (ct i) (tmn i) i x0 x1 → invSp K pn tr de (2 * i) x1 x0 z0 → invSp K pn tr de (2 * i + 1) x0 x1 z1 → ∀ y20 : Int32, y20 = nI i + (1 : Int32) → (∃ (i : Nat) (P P1 : Nat → Nat), y20 = nI i ∧ i ≤ N ∧ rsC M' = rsC M0 ∧ mSL M' = mSL M0 ∧ (∀ l, l < 2 * i → mGt M' K pn ip l (P l) ∧ gN (2000 * i) (P l)) ∧ (∀ l, 2 * i ≤ l → l < 2 * N → mClr M' ip tmn l) ∧ setSp K pn tr de P P1 ip il ir ct tmn i) ∧ N - y20.toNatClampNeg < N - (nI i).toNatClampNeg := by
      intro M' x0 x1 z0 z1 b1 b2 b3 b4 b5 b6 b7 b8 b9 b10 b11 y20 e20
      refine ⟨⟨i + 1, _, _, by rw [e20, nI_1], by omega, b1, b2, fun l hl => ?_, fun l h1 h2 => ?_, setSp_up (by omega) (fun k hk => hct k (by omega)) a5 b9 b10 b11⟩, mu_up e20 (by omega) (by omega)⟩
      · by_cases e1 : l = 2 * i + 1
        · rw [e1, un_s]; exact ⟨b6, b8⟩
        · rw [un_n e1]
          by_cases e2 : l = 2 * i
          · rw [e2, un_s]; exact ⟨b5, b7⟩
          · rw [un_n e2]
            have h3 := a3 l (by omega)
            have h4 := b3 l (by omega)
            exact ⟨mGt_same h3.1 h4.1 h4.2.1 h4.2.2, gN_mono h3.2 (by omega)⟩
      · have h3 := a4 l (by omega) h2
        have h4 := b4 l (by omega) h2
        exact mClr_same h3 h4.1 h4.2.1 h4.2.2.1 h4.2.2.2
    have eC0 : (2 : Int32) * nI i = nI (2 * i) := pk_mul 2 i
    rw [eC0, nI_1]
    cases hip : ip i with
    | true =>
      refine ⟨fun w => absurd w (by decide), fun _ => ?_⟩
      rw [d0, hip, if_pos ⟨m0, rfl⟩] at c04
      rw [if_neg (fun q => m1 q.1)] at c14
      have ht := htm i hiN
      have etI : tI (tmn i * 2 ^ 23) = nI (tmn i) := by
        have h2 : (2 : Nat) ^ 43 < tp := by decide
        unfold tI
        rw [if_neg (by omega)]
        refine congrArg nI ?_
        omega
      have gx : gN (2000 * i + 1000) (tmn i * 2 ^ 23) := by
        right
        have h1 : tmn i * 2 ^ 23 ≤ (2000 * i + 1000) * 2 ^ 23 := Nat.mul_le_mul_right _ (by omega)
        have h2 : (2000 * i + 1000 + 1) * 2 ^ 23 = (2000 * i + 1000) * 2 ^ 23 + 2 ^ 23 := by rw [Nat.succ_mul]
        omega
      refine r_turnBy1 (T := 2000 * i + 1000) (x := tp) (xo := tmn i * 2 ^ 23) hSM hGM hiN g0 ⟨by rw [tIp]; exact c14, fun _ => ⟨c12, c13⟩, fun q => absurd rfl q⟩ (Or.inl rfl) gx (fun q => by rw [hip] at q; cases q) (fun _ => by rw [etI]; exact c04) ?_
      intro M' z r1 _ _ _ r2 r3 r4 r5
      obtain ⟨u1, u2⟩ := rsC_F r1
      have uF := (rsF_of r1).2.2.2.2.2.2.2.2.2.2.2.2.2.2.2.2.2.2.2.1
      refine step M' (tmn i * 2 ^ 23) tp (tmn i * 2 ^ 23) z (u1.trans a1) (u2.trans a2) (fun l hl => ⟨(r2.1 l (by omega)).1, (r2.1 l (by omega)).2, fun q hq => r2.2 _ (by omega)⟩) (fun l h1 h2 => ⟨by rw [uF], (r2.1 l (by omega)).1, (r2.1 l (by omega)).2, fun q hq => r2.2 _ (by omega)⟩) ?_ ?_ (gN_mono gx (by omega)) (gN_mono r4 (by omega)) ⟨fun _ => ⟨rfl, rfl⟩, fun q => by rw [hip] at q; cases q⟩ ⟨Or.inr (Or.inl rfl), (gN_lt gx (by omega)).1, fun y hy => hy.elim (fun e => Nat.le_of_eq e.symm) (fun q => absurd rfl q.1)⟩ r5
      · unfold mGt
        rw [d0, hip, if_pos ⟨m0, rfl⟩]
        exact ⟨by rw [(r2.1 (2 * i) (by omega)).1, etI]; exact c04, by rw [(r2.1 (2 * i) (by omega)).2]; exact c02, fun q hq => by rw [r2.2 _ (by omega)]; exact c03 q hq⟩
      · unfold mGt
        rw [if_neg (fun q => m1 q.1)]
        exact r3
    | false =>
      refine ⟨fun _ => ?_, fun w => absurd rfl w⟩
      obtain ⟨a, ha24, haO, haL, halen⟩ := hAO i hiN hip
      rw [d0, hip, if_neg (fun q => by cases q.2)] at c04
      rw [if_neg (fun q => m1 q.1)] at c14
      refine r_workAnd (T := 2000 * i) (P := P) hSM hGM (by rw [q2]; exact hND) hiN hip (hct i hiN hip) (by rw [q16]; exact haO) ha24 (by unfold mL; rw [q17, q18]; exact haL) halen (fun l hl => ⟨mGt_av (a3 l hl).1, (a3 l hl).2⟩) (by omega) ⟨by rw [tIp]; exact c01, fun _ => ⟨c02, c03⟩, fun q => absurd rfl q⟩ ⟨by rw [tIp]; exact c11, fun _ => ⟨c12, c13⟩, fun q => absurd rfl q⟩ ?_
      intro S9 x0 x1 w1 w2 w3 w4 w5 w6 w7 w8
      obtain ⟨v1, v2⟩ := rsC_W w1
      have wA := (rsW_of w1).2.2.2.2.2.2.2.2.2.2.2.2.2.2.2.2.2.2.2.1
      rw [bx_cl (show 2 * i < 2 ^ 31 by omega), bx_cl (show 2 * i + 1 < 2 ^ 31 by omega)]
      refine ⟨bx_in (by omega) (by omega), bx_in (by omega) (by omega), ?_⟩
      intro M12 e12
      refine ⟨bx_in (by omega) (by omega), bx_in (by omega) (by omega), ?_⟩
      intro M15 e15
      have f12 : mFI M12 = mFI S9 := by rw [e12, gs_mFI_AV]
      have A15 : mAV M15 = upd (upd (mAV S9) (2 * i) (tI x0)) (2 * i + 1) (tI x1) := by rw [e15, gs_mAV_AV, f12, w6.1, e12, gs_mAV_AV, w3.1]
      have F15 : mFI M15 = mFI S9 := by rw [e15, gs_mFI_AV, f12]
      have G15 : mGA M15 = mGA S9 := by rw [e15, gs_mGA_AV, e12, gs_mGA_AV]
      have P15 : mGP M15 = mGP S9 := by rw [e15, gs_mGP_AV, e12, gs_mGP_AV]
      have C15 : rsC M15 = rsC S9 := by rw [e15, rsC_AV, e12, rsC_AV]
      have L15 : mSL M15 = mSL S9 := by rw [e15, gs_mSL_AV, e12, gs_mSL_AV]
      have h0 : mPm M15 K pn (2 * i) x0 0 := mNm_P w3 (by rw [A15, pk_un (by omega), pk_us]) (by rw [G15]) (fun q _ => by rw [P15])
      have h1 : mPm M15 K pn (2 * i + 1) x1 0 := mNm_P w6 (by rw [A15, pk_us]) (by rw [G15]) (fun q _ => by rw [P15])
      refine r_turnBy0 (T := 2000 * i + 1000) (x := x0) (xo := x1) (rsC_Sh (C15.trans (v1.trans a1)) hS) (rsC_G (C15.trans (v1.trans a1)) hG) hiN hip g0 h0 w4 w7 (by rw [F15]; exact w6.1) ?_
      intro S16 z0 r1 _ _ _ r2 r3 r4 r5
      obtain ⟨u1, u2⟩ := rsC_F r1
      have uF := (rsF_of r1).2.2.2.2.2.2.2.2.2.2.2.2.2.2.2.2.2.2.2.1
      have h1' : mPm S16 K pn (2 * i + 1) x1 0 := mPm_same h1 (r2.1 _ (by omega)).1 (r2.1 _ (by omega)).2 (fun q hq => r2.2 _ (by omega))
      refine r_turnBy1 (T := 2000 * i + 1000) (x := x1) (xo := x0) (rsC_Sh (u1.trans (C15.trans (v1.trans a1))) hS) (rsC_G (u1.trans (C15.trans (v1.trans a1))) hG) hiN g0 h1' w7 w4 (fun _ => by rw [uF, F15]; exact w3.1) (fun q => by rw [hip] at q; cases q) ?_
      intro S17 z1 t1 _ _ _ t2 t3 t4 t5
      obtain ⟨s1, s2⟩ := rsC_F t1
      have sF := (rsF_of t1).2.2.2.2.2.2.2.2.2.2.2.2.2.2.2.2.2.2.2.1
      refine step S17 x0 x1 z0 z1 (s1.trans (u1.trans (C15.trans (v1.trans a1)))) (s2.trans (u2.trans (L15.trans (v2.trans a2)))) (fun l hl => ?_) (fun l h1 h2 => ?_) ?_ ?_ (gN_mono r4 (by omega)) (gN_mono t4 (by omega)) ⟨fun q => absurd (hip.symm.trans q) (by decide), fun _ => ⟨w5, w8⟩⟩ r5 t5
      · refine ⟨?_, ?_, fun q hq => ?_⟩
        · rw [(t2.1 l (by omega)).1, (r2.1 l (by omega)).1, A15, pk_un (by omega), pk_un (by omega), wA]
        · rw [(t2.1 l (by omega)).2, (r2.1 l (by omega)).2, G15, (w2.1 l (by omega) (by omega)).2]
        · rw [t2.2 _ (by omega), r2.2 _ (by omega), P15, w2.2 _ (by omega)]
      · refine ⟨?_, ?_, ?_, fun q hq => ?_⟩
        · rw [sF, uF, F15, (w2.1 l (by omega) (by omega)).1]
        · rw [(t2.1 l (by omega)).1, (r2.1 l (by omega)).1, A15, pk_un (by omega), pk_un (by omega), wA]
        · rw [(t2.1 l (by omega)).2, (r2.1 l (by omega)).2, G15, (w2.1 l (by omega) (by omega)).2]
        · rw [t2.2 _ (by omega), r2.2 _ (by omega), P15, w2.2 _ (by omega)]
      · unfold mGt
        rw [d0, hip, if_neg (fun q => by cases q.2)]
        exact mPm_same r3 (t2.1 _ (by omega)).1 (t2.1 _ (by omega)).2 (fun q hq => t2.2 _ (by omega))
      · unfold mGt
        rw [if_neg (fun q => m1 q.1)]
        exact t3
end MS3
