/-! 47 MMOVES2: the reference's tryMoves, its loop -/
theorem cd_2 : ∀ p, p < 4 → 1 ≤ p → ∀ code, code < cdE p → code / (2 * p * (2 * p)) < 2 * p := by decide +kernel
theorem cdE_le : ∀ p, p < 4 → cdE p ≤ 216 := by decide +kernel
theorem tb_mod (a : Nat) : (a.testBit 0).toNat = a % 2 := by
  rw [tb_0]
  have h : a % 2 = 0 ∨ a % 2 = 1 := by omega
  rcases h with h | h
  · rw [h]; rfl
  · rw [h]; rfl
theorem cz0 : (0 : Int32).toNatClampNeg = 0 := by decide
theorem cz1 : (1 : Int32).toNatClampNeg = 1 := by decide
theorem cz2 : (2 : Int32).toNatClampNeg = 2 := by decide
section MM
variable {M : MS} {K n c f x0 x1 T : Nat} {pn tr ar de P lf : Nat → Nat} {O0 O1 : Nat → Prop} {post : MS → Prop}
theorem r_moves (hS : mSh M K pn tr ar de) (hc : c < K) (hn : n < 32) (hLE : ∀ i, i < pn c → mLE M i = nI (lf i) ∧ lf i < n) (hinj : ∀ i j, i < pn c → j < pn c → lf i = lf j → i = j) (hP : ∀ l, l < 2 * n → mAV M l = tI (P l) ∧ gN T (P l)) (hT : T < 2 ^ 19) (hf : f < 2 ^ (2 ^ pn c))
    (hx0 : mNm M K pn (2 * n) x0) (hg0 : gN (T + 1000) x0) (hm0 : mn O0 x0) (hx1 : mNm M K pn (2 * n + 1) x1) (hg1 : gN (T + 1000) x1) (hm1 : mn O1 x1)
    (hpost : ∀ M' x0' x1', rsT M' = rsT M → mO2 M M' n → mNm M' K pn (2 * n) x0' → gN (T + 1000) x0' → mn (fun y => O0 y ∨ ofC tr de P lf (pn c) f c y) x0' → mNm M' K pn (2 * n + 1) x1' → gN (T + 1000) x1' → mn (fun y => O1 y ∨ ofC tr de P lf (pn c) (f ^^^ (2 ^ (2 ^ pn c) - 1)) c y) x1' → post M') : p_X6_tryMoves_27 M (nI n) (nI c) (nI (pn c)) (nI f) (nI (cdE (pn c))) (0 : Int32) post := by
  obtain ⟨s1, s2, s3⟩ := id hS
  obtain ⟨⟨b1, b2, b3⟩, b4, b5, b6, b7, b8⟩ := s3 c hc
  obtain ⟨p, ep⟩ : ∃ p, p = pn c := ⟨_, rfl⟩
  have hE := cdE_le p (by omega)
  have k2 : (2 : Int32) = nI 2 := rfl
  rw [← ep] at hpost hLE hinj hf b1 b2 ⊢
  unfold p_X6_tryMoves_27
  refine ⟨fun M' x6 => ∃ (code x0' x1' : Nat), x6 = nI code ∧ code ≤ cdE p ∧ rsT M' = rsT M ∧ mO2 M M' n ∧ mNm M' K pn (2 * n) x0' ∧ gN (T + 1000) x0' ∧ mn (fun y => O0 y ∨ ofK tr de P lf p f c code y) x0' ∧ mNm M' K pn (2 * n + 1) x1' ∧ gN (T + 1000) x1' ∧ mn (fun y => O1 y ∨ ofK tr de P lf p (f ^^^ (2 ^ (2 ^ p) - 1)) c code y) x1', fun _ x6 => cdE p - x6.toNatClampNeg, ⟨0, x0, x1, rfl, by omega, rfl, mO2_rf M n, hx0, hg0, mn_cg (fun y => ⟨Or.inl, fun h => h.elim id (fun ⟨d, hd, _⟩ => absurd hd (by omega))⟩) hm0, hx1, hg1, mn_cg (fun y => ⟨Or.inl, fun h => h.elim id (fun ⟨d, hd, _⟩ => absurd hd (by omega))⟩) hm1⟩, ?_⟩
  rintro M' x6 ⟨code, x0', x1', rfl, hcd, a1, a2, a3, a4, a5, a6, a7, a8⟩
  obtain ⟨_, _, _, _, _, _, _, _, _, _, _, _, _, _, _, _, _, _, _, q20, _, _, q23⟩ := rsT_of a1
  unfold b_X6_tryMoves_27
  refine c2 (nI_leI (by omega) (by omega)) (fun z => ?_) (fun z => ?_)
  · have e : code = cdE p := by omega
    rw [e] at a5 a8
    exact hpost M' x0' x1' a1 a2 a3 a4 (mn_cg (fun y => or_congr Iff.rfl (ofK_C b1 b2)) a5) a6 a7 (mn_cg (fun y => or_congr Iff.rfl (ofK_C b1 b2)) a8)
  · have hcode : code < cdE p := by omega
    intro y4 e4
    rw [k2, pk_mul] at e4
    subst e4
    have hne : ¬ nI (2 * p) = 0 := nI_ne0 (by omega) (by omega)
    refine ⟨hne, ?_⟩
    intro y5 e5
    rw [pk_rem (by omega) (by omega) (by omega)] at e5
    refine ⟨hne, hne, ?_⟩
    intro y6 e6
    have hdl := Nat.div_le_self code (2 * p)
    rw [pk_div (by omega) (by omega) (by omega), pk_rem (by omega) (by omega) (by omega)] at e6
    have hpp : 2 * p * (2 * p) ≤ 36 := by
      have : 2 * p ≤ 6 := by omega
      exact Nat.mul_le_mul this this
    have hpp0 : 0 < 2 * p * (2 * p) := Nat.mul_pos (by omega) (by omega)
    rw [pk_mul]
    refine ⟨nI_ne0 hpp0 (by omega), ?_⟩
    intro y7 e7
    rw [pk_div (by omega) hpp0 (by omega)] at e7
    have hd2 := cd_2 p b2 b1 code hcode
    have e5 : y5 = nI (cdD p code 0) := by rw [e5]; unfold cdD; rw [Nat.pow_zero, Nat.div_one]
    have e6 : y6 = nI (cdD p code 1) := by rw [e6]; unfold cdD; rw [Nat.pow_one]
    have e7 : y7 = nI (cdD p code 2) := by rw [e7]; unfold cdD; rw [Nat.pow_two, Nat.mod_eq_of_lt hd2]
    subst e5 e6 e7
    have D0 : cdD p code 0 < 2 * p := Nat.mod_lt _ (by omega)
    have D1 : cdD p code 1 < 2 * p := Nat.mod_lt _ (by omega)
    have D2 : cdD p code 2 < 2 * p := Nat.mod_lt _ (by omega)
    -- the next code, nothing tried
    have skip : cdO p code = false → p_X6_tryMoves_125 (fun M'' x6' => (∃ (code x0' x1' : Nat), x6' = nI code ∧ code ≤ cdE p ∧ rsT M'' = rsT M ∧ mO2 M M'' n ∧ mNm M'' K pn (2 * n) x0' ∧ gN (T + 1000) x0' ∧ mn (fun y => O0 y ∨ ofK tr de P lf p f c code y) x0' ∧ mNm M'' K pn (2 * n + 1) x1' ∧ gN (T + 1000) x1' ∧ mn (fun y => O1 y ∨ ofK tr de P lf p (f ^^^ (2 ^ (2 ^ p) - 1)) c code y) x1') ∧ cdE p - x6'.toNatClampNeg < cdE p - (nI code).toNatClampNeg) M' (nI n) (nI c) (nI p) (nI f) (nI (cdE p)) (nI code) (nI (cdD p code 0)) (nI (cdD p code 1)) (nI (cdD p code 2)) post := by
      intro ho
      have hno : ∀ (O : Nat → Prop) (f' y : Nat), (O y ∨ ofK tr de P lf p f' c code y) ↔ (O y ∨ ofK tr de P lf p f' c (code + 1) y) := by
        intro O f' y
        constructor
        · rintro (h | ⟨d, h1, h2⟩)
          · exact Or.inl h
          · exact Or.inr ⟨d, by omega, h2⟩
        · rintro (h | ⟨d, h1, h2, h3⟩)
          · exact Or.inl h
          · refine Or.inr ⟨d, ?_, h2, h3⟩
            by_cases e : d = code
            · subst e; rw [h2] at ho; cases ho
            · omega
      unfold p_X6_tryMoves_125 p_X6_tryMoves_126
      refine ⟨fun w => absurd rfl w, fun _ => ?_⟩
      intro y24 e24
      exact ⟨⟨code + 1, x0', x1', by rw [e24, nI_1], by omega, a1, a2, a3, a4, mn_cg (hno O0 f) a5, a6, a7, mn_cg (hno O1 _) a8⟩, mu_up e24 (by omega) (by omega)⟩
    have val : ∀ d, d < 2 * p → ∀ M'' : MS, mLE M'' = mLE M → (2 : Int32) * mLE M'' (nI d / (2 : Int32)).toNatClampNeg + (nI d - nI d / (2 : Int32) * (2 : Int32)) = nI (2 * lf (d / 2) + (d.testBit 0).toNat) := by
      intro d hd M'' e
      rw [k2, pk_rem (by omega) (by omega) (by omega), pk_div (by omega) (by omega) (by omega), bx_cl (by omega), e, (hLE (d / 2) (by omega)).1, pk_mul, nI_add, tb_mod]
    have vin : ∀ d, d < 2 * p → vp_in (nI d / (2 : Int32)) 3 := by
      intro d hd
      rw [k2, pk_div (by omega) (by omega) (by omega)]
      exact bx_in (by omega) (by omega)
    have fin : cdO p code = true → ∀ M19 : MS, rsT M19 = rsT M' → mFI M19 = mFI M' → mGA M19 = mGA M' → mGP M19 = mGP M' → (∀ k, k < p → mTD M19 k = nI (2 * lf (cdD p code k / 2) + ((cdD p code k).testBit 0).toNat)) → p_X6_tryCell M19 (nI n) (nI c) (nI p) (nI f) (fun S20 => ∀ y21 : Int32, y21 = nI code + (1 : Int32) → (fun M'' x6' => (∃ (code x0' x1' : Nat), x6' = nI code ∧ code ≤ cdE p ∧ rsT M'' = rsT M ∧ mO2 M M'' n ∧ mNm M'' K pn (2 * n) x0' ∧ gN (T + 1000) x0' ∧ mn (fun y => O0 y ∨ ofK tr de P lf p f c code y) x0' ∧ mNm M'' K pn (2 * n + 1) x1' ∧ gN (T + 1000) x1' ∧ mn (fun y => O1 y ∨ ofK tr de P lf p (f ^^^ (2 ^ (2 ^ p) - 1)) c code y) x1') ∧ cdE p - x6'.toNatClampNeg < cdE p - (nI code).toNatClampNeg) S20 y21) := by
      intro ho M19 r1 r2 r3 r4 r5
      obtain ⟨_, _, _, _, _, _, _, _, _, _, _, _, _, _, _, _, _, _, _, w20, _, _, w23⟩ := rsT_of (r1.trans a1)
      have hyes : ∀ (O : Nat → Prop) (f' y : Nat), ((O y ∨ ofK tr de P lf p f' c code y) ∨ (agG p (tr c) (fun q => cdD p code q / 2) (fun q => (cdD p code q).testBit 0) = f' ∧ y = ofv P de c p (fun k => 2 * lf (cdD p code k / 2) + ((cdD p code k).testBit 0).toNat))) ↔ (O y ∨ ofK tr de P lf p f' c (code + 1) y) := by
        intro O f' y
        constructor
        · rintro ((h | ⟨d, h1, h2⟩) | h)
          · exact Or.inl h
          · exact Or.inr ⟨d, by omega, h2⟩
          · exact Or.inr ⟨code, by omega, ho, h⟩
        · rintro (h | ⟨d, h1, h2, h3⟩)
          · exact Or.inl (Or.inl h)
          · by_cases e : d = code
            · subst e; exact Or.inr h3
            · exact Or.inl (Or.inr ⟨d, by omega, h2, h3⟩)
      have hcell := r_tryCell (M := M19) (K := K) (n := n) (c := c) (f := f) (x0 := x0') (x1 := x1') (T := T) (pn := pn) (tr := tr) (ar := ar) (de := de) (P := P) (lf := lf) (s := fun q => cdD p code q / 2) (t := fun q => (cdD p code q).testBit 0) (O0 := fun y => O0 y ∨ ofK tr de P lf p f c code y) (O1 := fun y => O1 y ∨ ofK tr de P lf p (f ^^^ (2 ^ (2 ^ p) - 1)) c code y) (post := fun S20 => ∀ y21 : Int32, y21 = nI code + (1 : Int32) → (fun M'' x6' => (∃ (code x0' x1' : Nat), x6' = nI code ∧ code ≤ cdE p ∧ rsT M'' = rsT M ∧ mO2 M M'' n ∧ mNm M'' K pn (2 * n) x0' ∧ gN (T + 1000) x0' ∧ mn (fun y => O0 y ∨ ofK tr de P lf p f c code y) x0' ∧ mNm M'' K pn (2 * n + 1) x1' ∧ gN (T + 1000) x1' ∧ mn (fun y => O1 y ∨ ofK tr de P lf p (f ^^^ (2 ^ (2 ^ p) - 1)) c code y) x1') ∧ cdE p - x6'.toNatClampNeg < cdE p - (nI code).toNatClampNeg) S20 y21) (rsT_Sh (r1.trans a1) hS) hc hn
      rw [← ep] at hcell
      refine hcell (fun i hi => by rw [w23]; exact hLE i hi) hinj (fun k hk => ⟨r5 k hk, cdD_lt b1⟩) (fun l hl => by rw [w20]; exact hP l hl) hT hf (mNm_same a3 (by rw [r2]) (by rw [r3]) (fun q _ => by rw [r4])) a4 a5 (mNm_same a6 (by rw [r2]) (by rw [r3]) (fun q _ => by rw [r4])) a7 a8 ?_
      intro M20 z0 z1 t1 t2 t3 t4 t5 t6 t7 t8
      intro y21 e21
      have o2 : mO2 M' M20 n := ⟨fun j h1 h2 => by have := t2.1 j h1 h2; rw [r2, r3] at this; exact this, fun j h => by have := t2.2 j h; rw [r4] at this; exact this⟩
      exact ⟨⟨code + 1, z0, z1, by rw [e21, nI_1], by omega, (rsT_E t1).trans (r1.trans a1), mO2_tr a2 o2, t3, t4, mn_cg (hyes O0 f) t5, t6, t7, mn_cg (hyes O1 _) t8⟩, mu_up e21 (by omega) (by omega)⟩
    have go : cdO p code = true → p_X6_tryMoves_121 (fun M'' x6' => (∃ (code x0' x1' : Nat), x6' = nI code ∧ code ≤ cdE p ∧ rsT M'' = rsT M ∧ mO2 M M'' n ∧ mNm M'' K pn (2 * n) x0' ∧ gN (T + 1000) x0' ∧ mn (fun y => O0 y ∨ ofK tr de P lf p f c code y) x0' ∧ mNm M'' K pn (2 * n + 1) x1' ∧ gN (T + 1000) x1' ∧ mn (fun y => O1 y ∨ ofK tr de P lf p (f ^^^ (2 ^ (2 ^ p) - 1)) c code y) x1') ∧ cdE p - x6'.toNatClampNeg < cdE p - (nI code).toNatClampNeg) M' (nI n) (nI c) (nI p) (nI f) (nI (cdE p)) (nI code) (nI (cdD p code 0)) (nI (cdD p code 1)) (nI (cdD p code 2)) post := by
      intro ho
      unfold p_X6_tryMoves_121 p_X6_tryMoves_126
      refine ⟨fun _ => ?_, fun w => absurd w (by decide)⟩
      refine ⟨vin _ D0, bx_in (k := 0) (n := 3) (by omega) (by omega), ?_⟩
      intro M13 e13
      rw [cz0, val _ D0 M' q23] at e13
      have last : ∀ (M16 : MS) (b v2 : Int32), M16 = mTD_s M13 (upd (mTD M13) 1 b) → (2 ≤ p → b = nI (2 * lf (cdD p code 1 / 2) + ((cdD p code 1).testBit 0).toNat)) → (3 ≤ p → v2 = nI (2 * lf (cdD p code 2 / 2) + ((cdD p code 2).testBit 0).toNat)) → p_X6_tryMoves_219 (fun M'' x6' => (∃ (code x0' x1' : Nat), x6' = nI code ∧ code ≤ cdE p ∧ rsT M'' = rsT M ∧ mO2 M M'' n ∧ mNm M'' K pn (2 * n) x0' ∧ gN (T + 1000) x0' ∧ mn (fun y => O0 y ∨ ofK tr de P lf p f c code y) x0' ∧ mNm M'' K pn (2 * n + 1) x1' ∧ gN (T + 1000) x1' ∧ mn (fun y => O1 y ∨ ofK tr de P lf p (f ^^^ (2 ^ (2 ^ p) - 1)) c code y) x1') ∧ cdE p - x6'.toNatClampNeg < cdE p - (nI code).toNatClampNeg) M16 (nI n) (nI c) (nI p) (nI f) (nI (cdE p)) (nI code) v2 (2 : Int32) post := by
        intro M16 b v2 e16 hb hv2
        unfold p_X6_tryMoves_219
        rw [cz2]
        refine ⟨bx_in (k := 2) (n := 3) (by omega) (by omega), ?_⟩
        intro M19 e19
        have td : mTD M19 = upd (upd (upd (mTD M') 0 (nI (2 * lf (cdD p code 0 / 2) + ((cdD p code 0).testBit 0).toNat))) 1 b) 2 v2 := by
          rw [e19, gs_mTD_TD, e16, gs_mTD_TD, e13, gs_mTD_TD]
        refine fin ho M19 (by rw [e19, rsT_TD, e16, rsT_TD, e13, rsT_TD]) (by rw [e19, gs_mFI_TD, e16, gs_mFI_TD, e13, gs_mFI_TD]) (by rw [e19, gs_mGA_TD, e16, gs_mGA_TD, e13, gs_mGA_TD]) (by rw [e19, gs_mGP_TD, e16, gs_mGP_TD, e13, gs_mGP_TD]) (fun k hk => ?_)
        rw [td]
        have hk3 : k = 0 ∨ k = 1 ∨ k = 2 := by omega
        rcases hk3 with e | e | e
        · rw [e, pk_un (by omega), pk_un (by omega), pk_us]
        · rw [e, pk_un (by omega), pk_us]; exact hb (by omega)
        · rw [e, pk_us]; exact hv2 (by omega)
      have mid : ∀ b : Int32, (2 ≤ p → b = nI (2 * lf (cdD p code 1 / 2) + ((cdD p code 1).testBit 0).toNat)) → p_X6_tryMoves_188 (fun M'' x6' => (∃ (code x0' x1' : Nat), x6' = nI code ∧ code ≤ cdE p ∧ rsT M'' = rsT M ∧ mO2 M M'' n ∧ mNm M'' K pn (2 * n) x0' ∧ gN (T + 1000) x0' ∧ mn (fun y => O0 y ∨ ofK tr de P lf p f c code y) x0' ∧ mNm M'' K pn (2 * n + 1) x1' ∧ gN (T + 1000) x1' ∧ mn (fun y => O1 y ∨ ofK tr de P lf p (f ^^^ (2 ^ (2 ^ p) - 1)) c code y) x1') ∧ cdE p - x6'.toNatClampNeg < cdE p - (nI code).toNatClampNeg) M13 (nI n) (nI c) (nI p) (nI f) (nI (cdE p)) (nI code) (nI (cdD p code 2)) b (1 : Int32) post := by
        intro b hb
        unfold p_X6_tryMoves_188
        rw [cz1]
        refine ⟨bx_in (k := 1) (n := 3) (by omega) (by omega), ?_⟩
        intro M16 e16
        refine c2 (nI_leI (b := 2) (by omega) (by omega)) (fun w => ?_) (fun w => ?_)
        · exact last M16 b _ e16 hb (fun h => absurd h (by omega))
        · refine ⟨vin _ D2, ?_⟩
          rw [val _ D2 M16 (by rw [e16, gs_mLE_TD, e13, gs_mLE_TD]; exact q23)]
          exact last M16 b _ e16 hb (fun _ => rfl)
      refine c2 (nI_leI (b := 1) (by omega) (by omega)) (fun w => ?_) (fun w => ?_)
      · exact mid _ (fun h => absurd h (by omega))
      · refine ⟨vin _ D1, ?_⟩
        rw [val _ D1 M13 (by rw [e13, gs_mLE_TD]; exact q23)]
        exact mid _ (fun _ => rfl)
    have hdv : ∀ d, d < 2 * p → nI d / (2 : Int32) = nI (d / 2) := fun d hd => by rw [k2, pk_div (by omega) (by omega) (by omega)]
    have p87 : ∀ b : Bool, b = (decide (p < 2) || decide (cdD p code 0 / 2 ≠ cdD p code 1 / 2)) → p_X6_tryMoves_87 (fun M'' x6' => (∃ (code x0' x1' : Nat), x6' = nI code ∧ code ≤ cdE p ∧ rsT M'' = rsT M ∧ mO2 M M'' n ∧ mNm M'' K pn (2 * n) x0' ∧ gN (T + 1000) x0' ∧ mn (fun y => O0 y ∨ ofK tr de P lf p f c code y) x0' ∧ mNm M'' K pn (2 * n + 1) x1' ∧ gN (T + 1000) x1' ∧ mn (fun y => O1 y ∨ ofK tr de P lf p (f ^^^ (2 ^ (2 ^ p) - 1)) c code y) x1') ∧ cdE p - x6'.toNatClampNeg < cdE p - (nI code).toNatClampNeg) M' (nI n) (nI c) (nI p) (nI f) (nI (cdE p)) (nI code) (nI (cdD p code 0)) (nI (cdD p code 1)) (nI (cdD p code 2)) (bI b) post := by
      intro b hb
      have hO : cdO p code = (b && (decide (p < 3) || (decide (cdD p code 2 / 2 ≠ cdD p code 0 / 2) && decide (cdD p code 2 / 2 ≠ cdD p code 1 / 2)))) := by rw [hb]; rfl
      unfold p_X6_tryMoves_87
      refine c2 (bI_0 _) (fun w => ?_) (fun w => ?_)
      · exact skip (by rw [hO, w]; rfl)
      · have wb : b = true := by cases b with
          | true => rfl
          | false => exact absurd rfl w
        rw [wb, Bool.true_and] at hO
        refine c2 (nI_ltI (b := 3) (by omega) (by omega)) (fun u => ?_) (fun u => ?_)
        · exact go (by rw [hO, decide_eq_true u]; rfl)
        · rw [hdv _ D0, hdv _ D1, hdv _ D2]
          refine c2 (nI_eq (by omega) (by omega)) (fun v => ?_) (fun v => ?_)
          · exact skip (by rw [hO, decide_eq_false u, decide_eq_false (fun q => q v)]; rfl)
          · refine c2 (nI_eq (by omega) (by omega)) (fun r => ?_) (fun r => ?_)
            · exact skip (by rw [hO, decide_eq_false u, decide_eq_true v, decide_eq_false (fun q => q r)]; rfl)
            · exact go (by rw [hO, decide_eq_false u, decide_eq_true v, decide_eq_true r]; rfl)
    refine c2 (nI_ltI (b := 2) (by omega) (by omega)) (fun w => ?_) (fun w => ?_)
    · exact p87 true (by rw [decide_eq_true w]; rfl)
    · rw [hdv _ D0, hdv _ D1]
      refine c2 (nI_eq (by omega) (by omega)) (fun v => ?_) (fun v => ?_)
      · exact p87 false (by rw [decide_eq_false w, decide_eq_false (fun q => q v)]; rfl)
      · exact p87 true (by rw [decide_eq_false w, decide_eq_true v]; rfl)
end MM
