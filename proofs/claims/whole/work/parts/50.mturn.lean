/-! 50 MTURN: the reference's turnBy -/
/-- the gate that the reference holds of literal l when its number is z -/
def mPm (M : MS) (K : Nat) (pn : Nat → Nat) (l z e : Nat) : Prop := mAV M l = tI z ∧ (z = tp → mGA M l = (-1 : Int32) ∧ ∀ q, q < 3 → mGP M (3 * l + q) = (-1 : Int32)) ∧
  (z ≠ tp → ∃ (t b c : Nat) (ap : Nat → Nat), z = t * 2 ^ 23 + b * 2 ^ 22 + c * 2 ^ 18 + pkx ap (pn c) ∧ t < 2 ^ 20 ∧ b < 2 ∧ c < K ∧ (b = 1 → c < e ∧ pn c = 1 ∧ ap 0 = l ^^^ 1) ∧ (∀ q, q < pn c → ap q < 64) ∧ mGA M l = nI c ∧ ∀ q, q < 3 → mGP M (3 * l + q) = if q < pn c then nI (ap q) else (-1 : Int32))
/-- all of the reference but arrivals and gates -/
def rsF (M : MS) := (mTH M, mND M, mIP M, mAN M, mOU M, mCE M, mSL M, mON M, mTW M, mIN M, mTI M, mOL M, mPI M, mTR M, mAR M, mDE M, mAO M, mCC M, mCB M, mFI M, mWA M)
theorem rsF_AV (M : MS) (f : Nat → Int32) : rsF (mAV_s M f) = rsF M := rfl
theorem rsF_GA (M : MS) (f : Nat → Int32) : rsF (mGA_s M f) = rsF M := rfl
theorem rsF_GP (M : MS) (f : Nat → Int32) : rsF (mGP_s M f) = rsF M := rfl
theorem rsF_of {M M' : MS} (e : rsF M' = rsF M) : mTH M' = mTH M ∧ mND M' = mND M ∧ mIP M' = mIP M ∧ mAN M' = mAN M ∧ mOU M' = mOU M ∧ mCE M' = mCE M ∧ mSL M' = mSL M ∧ mON M' = mON M ∧ mTW M' = mTW M ∧ mIN M' = mIN M ∧ mTI M' = mTI M ∧ mOL M' = mOL M ∧ mPI M' = mPI M ∧ mTR M' = mTR M ∧ mAR M' = mAR M ∧ mDE M' = mDE M ∧ mAO M' = mAO M ∧ mCC M' = mCC M ∧ mCB M' = mCB M ∧ mFI M' = mFI M ∧ mWA M' = mWA M := by
  unfold rsF at e
  simpa only [Prod.mk.injEq] using e
theorem rsF_Sh {M M' : MS} {K : Nat} {pn tr ar de : Nat → Nat} (e : rsF M' = rsF M) (h : mSh M K pn tr ar de) : mSh M' K pn tr ar de := by
  obtain ⟨_, _, _, _, _, e6, _, _, _, _, _, _, e13, e14, e15, e16, _⟩ := rsF_of e
  unfold mSh
  rw [e6, e13, e14, e15, e16]
  exact h
/-- nothing but literal l's gate is other -/
def mO1 (M M' : MS) (l : Nat) : Prop := (∀ j, j ≠ l → mAV M' j = mAV M j ∧ mGA M' j = mGA M j) ∧ ∀ j, (j < 3 * l ∨ 3 * l + 3 ≤ j) → mGP M' j = mGP M j
theorem mO1_rf (M : MS) (l : Nat) : mO1 M M l := ⟨fun _ _ => ⟨rfl, rfl⟩, fun _ _ => rfl⟩
theorem mO1_tr {M1 M2 M3 : MS} {l : Nat} (h1 : mO1 M1 M2 l) (h2 : mO1 M2 M3 l) : mO1 M1 M3 l := ⟨fun j a => ⟨(h2.1 j a).1.trans (h1.1 j a).1, (h2.1 j a).2.trans (h1.1 j a).2⟩, fun j a => (h2.2 j a).trans (h1.2 j a)⟩
theorem mPm_up {M : MS} {K l z e e' : Nat} {pn : Nat → Nat} (h : mPm M K pn l z e) (he : e ≤ e') : mPm M K pn l z e' := by
  refine ⟨h.1, h.2.1, fun y => ?_⟩
  obtain ⟨t, b, c, ap, a1, a2, a3, a4, a5, a6⟩ := h.2.2 y
  exact ⟨t, b, c, ap, a1, a2, a3, a4, fun q => ⟨by have := (a5 q).1; omega, (a5 q).2⟩, a6⟩
theorem tI_iv {t b c k : Nat} (ht : t < 2 ^ 20) (hb : b < 2) (hc : c < 16) (hk : k < 2 ^ 18) : tI (t * 2 ^ 23 + b * 2 ^ 22 + c * 2 ^ 18 + k) = nI t ∧ t * 2 ^ 23 + b * 2 ^ 22 + c * 2 ^ 18 + k < 2 ^ 43 := by
  have h1 : t * 2 ^ 23 + b * 2 ^ 22 + c * 2 ^ 18 + k < 2 ^ 43 := by omega
  have h2 : (2 : Nat) ^ 43 < tp := by decide
  refine ⟨?_, h1⟩
  unfold tI
  rw [if_neg (by omega)]
  refine congrArg nI ?_
  omega
section TB
variable {M : MS} {K l x xo T : Nat} {pn tr ar de : Nat → Nat} {post : MS → Prop}
theorem r_turnLoop (hS : mSh M K pn tr ar de) (hl : l < 64) (hT : T < 2 ^ 19) (hx : mPm M K pn l x 0) (hg : gN T x) (hxo : gN T xo)
    (hp : ∀ M' z, rsF M' = rsF M → mVA M' = mVA M → mLE M' = mLE M → mTD M' = mTD M → mO1 M M' l → mPm M' K pn l z K → gN (T + 1000) z → invSp K pn tr de l xo x z → post M') : p_X6_turnBy_50 M (nI l) (nI (l ^^^ 1)) (tI xo) (0 : Int32) post := by
  have s2 := hS.2.1
  have hle := (gN_lt hg (by omega)).1
  have hx1 := xor1_lt hl
  have k3 : (3 : Int32) = nI 3 := rfl
  unfold p_X6_turnBy_50
  refine ⟨fun M' x5 => ∃ (c z : Nat), x5 = nI c ∧ c ≤ K ∧ rsF M' = rsF M ∧ mVA M' = mVA M ∧ mLE M' = mLE M ∧ mTD M' = mTD M ∧ mO1 M M' l ∧ mPm M' K pn l z c ∧ gN (T + 1000) z ∧ mn (fun y => y = x ∨ (xo ≠ tp ∧ ∃ d, d < c ∧ pn d = 1 ∧ tr d = 1 ∧ y = ivv de xo l d)) z, fun _ x5 => K - x5.toNatClampNeg, ⟨0, x, rfl, by omega, rfl, rfl, rfl, rfl, mO1_rf M l, hx, gN_mono hg (by omega), ⟨Or.inr (Or.inl rfl), hle, fun y hy => hy.elim (fun e => by omega) (fun ⟨_, d, hd, _⟩ => absurd hd (by omega))⟩⟩, ?_⟩
  rintro M' x5 ⟨c, z, rfl, hc, r1, r1a, r1b, r1c, r2, r3, r4, r5⟩
  have hS' := rsF_Sh r1 hS
  unfold b_X6_turnBy_50
  rw [hS'.1]
  refine c2 (nI_leI (by omega) (by omega)) (fun y => ?_) (fun y => ?_)
  · have e : c = K := by omega
    rw [e] at r3 r5
    exact hp M' z r1 r1a r1b r1c r2 r3 r4 r5
  · obtain ⟨⟨b1, b2, b3⟩, b4, b5, b6, b7, b8⟩ := hS'.2.2 c (by omega)
    have h256 := p22_3 (show pn c ≤ 3 by omega)
    obtain ⟨d1, d2⟩ := b8 0 (by omega)
    rw [Nat.add_zero] at d1 d2
    have hix : ((3 : Int32) * nI c) = nI (3 * c) := pk_mul 3 c
    have next : ¬ (xo ≠ tp ∧ pn c = 1 ∧ tr c = 1) ∨ z ≤ ivv de xo l c → ∀ y14 : Int32, y14 = nI c + (1 : Int32) → (∃ (c z : Nat), y14 = nI c ∧ c ≤ K ∧ rsF M' = rsF M ∧ mVA M' = mVA M ∧ mLE M' = mLE M ∧ mTD M' = mTD M ∧ mO1 M M' l ∧ mPm M' K pn l z c ∧ gN (T + 1000) z ∧ mn (fun y => y = x ∨ (xo ≠ tp ∧ ∃ d, d < c ∧ pn d = 1 ∧ tr d = 1 ∧ y = ivv de xo l d)) z) ∧ K - y14.toNatClampNeg < K - (nI c).toNatClampNeg := by
      intro hno y14 e14
      refine ⟨⟨c + 1, z, by rw [e14, nI_1], by omega, r1, r1a, r1b, r1c, r2, mPm_up r3 (by omega), r4, ?_⟩, mu_up e14 (by omega) (by omega)⟩
      refine ⟨r5.1.imp id (fun h => h.imp id (fun ⟨h0, d, h1, h2⟩ => ⟨h0, d, by omega, h2⟩)), r5.2.1, fun y hy => ?_⟩
      rcases hy with hy | ⟨h0, d, h1, h2, h3, h4⟩
      · exact r5.2.2 y (Or.inl hy)
      · by_cases e : d = c
        · subst e
          rcases hno with hno | hno
          · exact absurd ⟨h0, h2, h3⟩ hno
          · rw [h4]; exact hno
        · exact r5.2.2 y (Or.inr ⟨h0, d, by omega, h2, h3, h4⟩)
    have p86 : ∀ b : Bool, (b = true ↔ pn c = 1 ∧ tr c = 1) → p_X6_turnBy_86 (fun M'' x5' => (∃ (c z : Nat), x5' = nI c ∧ c ≤ K ∧ rsF M'' = rsF M ∧ mVA M'' = mVA M ∧ mLE M'' = mLE M ∧ mTD M'' = mTD M ∧ mO1 M M'' l ∧ mPm M'' K pn l z c ∧ gN (T + 1000) z ∧ mn (fun y => y = x ∨ (xo ≠ tp ∧ ∃ d, d < c ∧ pn d = 1 ∧ tr d = 1 ∧ y = ivv de xo l d)) z) ∧ K - x5'.toNatClampNeg < K - (nI c).toNatClampNeg) M' (nI l) (nI (l ^^^ 1)) (tI xo) (nI c) (bI b) post := by
      intro b hb
      unfold p_X6_turnBy_86
      rw [hix, bx_cl (show 3 * c < 2 ^ 31 by omega), d1]
      refine ⟨bx_in (by omega) (by omega), ?_⟩
      intro y12 e12
      refine c2 (bI_0 _) (fun w => ?_) (fun w => ?_)
      · exact next (Or.inl (fun q => by rw [hb.2 q.2] at w; cases w))
      · have hbt : b = true := by cases b with
          | true => rfl
          | false => exact absurd rfl w
        have hinv := hb.1 hbt
        refine c2 (tI_m1 hxo (by omega)) (fun u => ?_) (fun u => ?_)
        · exact next (Or.inl (fun q => q.1 u))
        · have hd := gN_div hxo u
          have eT : tI xo = nI (xo / 2 ^ 23) := if_neg u
          rw [eT, nI_add] at e12
          have evv : ivv de xo l c = (xo / 2 ^ 23 + de (3 * c)) * 2 ^ 23 + 1 * 2 ^ 22 + c * 2 ^ 18 + (l ^^^ 1) * 2 ^ 12 := by unfold ivv; omega
          obtain ⟨ev1, ev2⟩ := tI_iv (t := xo / 2 ^ 23 + de (3 * c)) (b := 1) (c := c) (k := (l ^^^ 1) * 2 ^ 12) (by omega) (by omega) (by omega) (by omega)
          rw [← evv] at ev1 ev2
          have h43 : (2 : Nat) ^ 43 < tp := by decide
          have put : ivv de xo l c ≤ z → p_X6_turnBy_134 (fun M'' x5' => (∃ (c z : Nat), x5' = nI c ∧ c ≤ K ∧ rsF M'' = rsF M ∧ mVA M'' = mVA M ∧ mLE M'' = mLE M ∧ mTD M'' = mTD M ∧ mO1 M M'' l ∧ mPm M'' K pn l z c ∧ gN (T + 1000) z ∧ mn (fun y => y = x ∨ (xo ≠ tp ∧ ∃ d, d < c ∧ pn d = 1 ∧ tr d = 1 ∧ y = ivv de xo l d)) z) ∧ K - x5'.toNatClampNeg < K - (nI c).toNatClampNeg) M' (nI l) (nI (l ^^^ 1)) (tI xo) (nI c) y12 post := by
            intro hlez
            unfold p_X6_turnBy_134
            have i0 : ((3 : Int32) * nI l) = nI (3 * l) := pk_mul 3 l
            have i1 : nI (3 * l) + (1 : Int32) = nI (3 * l + 1) := nI_1 _
            have i2 : nI (3 * l) + (2 : Int32) = nI (3 * l + 2) := nI_add _ 2
            rw [i0, i1, i2, bx_cl (show l < 2 ^ 31 by omega), bx_cl (show 3 * l < 2 ^ 31 by omega), bx_cl (show 3 * l + 1 < 2 ^ 31 by omega), bx_cl (show 3 * l + 2 < 2 ^ 31 by omega)]
            refine ⟨bx_in (by omega) (by omega), ?_⟩
            intro M20 e20
            refine ⟨bx_in (by omega) (by omega), ?_⟩
            intro M22 e22
            refine ⟨bx_in (by omega) (by omega), ?_⟩
            intro M24 e24
            refine ⟨bx_in (by omega) (by omega), ?_⟩
            intro M26 e26
            refine ⟨bx_in (by omega) (by omega), ?_⟩
            intro M28 e28
            intro y29 e29
            have gP : mGP M28 = upd (upd (upd (mGP M') (3 * l) (nI (l ^^^ 1))) (3 * l + 1) (-1 : Int32)) (3 * l + 2) (-1 : Int32) := by
              rw [e28, gs_mGP_GP, e26, gs_mGP_GP, e24, gs_mGP_GP, e22, gs_mGP_GA, e20, gs_mGP_AV]
            have gA : mGA M28 = upd (mGA M') l (nI c) := by rw [e28, gs_mGA_GP, e26, gs_mGA_GP, e24, gs_mGA_GP, e22, gs_mGA_GA, e20, gs_mGA_AV]
            have gV : mAV M28 = upd (mAV M') l y12 := by rw [e28, gs_mAV_GP, e26, gs_mAV_GP, e24, gs_mAV_GP, e22, gs_mAV_GA, e20, gs_mAV_AV]
            refine ⟨⟨c + 1, ivv de xo l c, by rw [e29, nI_1], by omega, by rw [e28, rsF_GP, e26, rsF_GP, e24, rsF_GP, e22, rsF_GA, e20, rsF_AV]; exact r1, by rw [e28, gs_mVA_GP, e26, gs_mVA_GP, e24, gs_mVA_GP, e22, gs_mVA_GA, e20, gs_mVA_AV]; exact r1a, by rw [e28, gs_mLE_GP, e26, gs_mLE_GP, e24, gs_mLE_GP, e22, gs_mLE_GA, e20, gs_mLE_AV]; exact r1b, by rw [e28, gs_mTD_GP, e26, gs_mTD_GP, e24, gs_mTD_GP, e22, gs_mTD_GA, e20, gs_mTD_AV]; exact r1c, mO1_tr r2 ⟨fun j hj => by rw [gV, gA, pk_un hj, pk_un hj]; exact ⟨rfl, rfl⟩, fun j hj => by rw [gP, pk_un (by omega), pk_un (by omega), pk_un (by omega)]⟩, ?_, ivv_gN d2 (by omega) hl hxo u, ?_⟩, mu_up e29 (by omega) (by omega)⟩
            · refine ⟨by rw [gV, pk_us, e12, ev1], fun q => absurd q (by omega), fun _ => ⟨xo / 2 ^ 23 + de (3 * c), 1, c, fun _ => l ^^^ 1, ?_, by omega, by omega, by omega, fun _ => ⟨by omega, hinv.1, rfl⟩, fun _ _ => hx1, by rw [gA, pk_us], fun q hq => ?_⟩⟩
              · rw [evv, hinv.1]
                show _ = _ + (0 + (l ^^^ 1) * 4096)
                omega
              · rw [gP, hinv.1]
                have hq3 : q = 0 ∨ q = 1 ∨ q = 2 := by omega
                rcases hq3 with e | e | e
                · rw [e, if_pos (by omega), pk_un (by omega), pk_un (by omega)]
                  exact pk_us (f := mGP M') (k := 3 * l) (x := nI (l ^^^ 1))
                · rw [e, if_neg (by omega), pk_un (by omega), pk_us]
                · rw [e, if_neg (by omega), pk_us]
            · have hadd := mn_add (v := ivv de xo l c) r5
              rw [Nat.min_eq_right hlez] at hadd
              refine mn_cg (fun y => ?_) hadd
              constructor
              · rintro ((h | ⟨h0, d, h1, h2⟩) | h)
                · exact Or.inl h
                · exact Or.inr ⟨h0, d, by omega, h2⟩
                · exact Or.inr ⟨u, c, by omega, hinv.1, hinv.2, h⟩
              · rintro (h | ⟨h0, d, h1, h2, h3, h4⟩)
                · exact Or.inl (Or.inl h)
                · by_cases e : d = c
                  · subst e; exact Or.inr h4
                  · exact Or.inl (Or.inr ⟨h0, d, by omega, h2, h3, h4⟩)
          obtain ⟨g1, g2, g3⟩ := r3
          rw [bx_cl (show l < 2 ^ 31 by omega), g1]
          refine ⟨bx_in (by omega) (by omega), ?_⟩
          refine c2 (tI_m1 r4 (by omega)) (fun v => ?_) (fun v => ?_)
          · exact put (by omega)
          · obtain ⟨t, b', c0, ap, q1, q2, q3, q4, q5, q6, q7, q8⟩ := g3 v
            have hpk := pkx_lt' (show pn c0 ≤ 3 by have := (hS'.2.2 c0 q4).1.2.1; omega) q6
            obtain ⟨et, _⟩ := tI_iv (t := t) (b := b') (c := c0) (k := pkx ap (pn c0)) q2 q3 (by omega) hpk
            have etz : tI z = nI t := by rw [q1]; exact et
            rw [etz, e12]
            refine ⟨bx_in (by omega) (by omega), ?_⟩
            refine c2 (nI_leI (by omega) (by omega)) (fun r => ?_) (fun r => ?_)
            · refine next (Or.inr ?_)
              have hb2 : b' = 0 ∨ b' = 1 := by omega
              rcases hb2 with e | e
              · rw [e] at q1; omega
              · have := (q5 e).1; rw [e] at q1; omega
            · have := put (by omega)
              rw [e12] at this
              exact this
    refine ⟨bx_in (by omega) (by omega), ?_⟩
    rw [bx_cl (show c < 2 ^ 31 by omega), b4, b5]
    refine c2n (nI_eq (b := 1) (by omega) (by omega)) (fun w => ?_) (fun w => ?_)
    · exact p86 false ⟨fun h => (by cases h), fun h => absurd h.1 w⟩
    · refine ⟨bx_in (by omega) (by omega), ?_⟩
      refine c2n (nI_eq (b := 1) (by omega) (by omega)) (fun u => ?_) (fun u => ?_)
      · exact p86 false ⟨fun h => (by cases h), fun h => absurd h.2 u⟩
      · exact p86 true ⟨fun _ => ⟨w, u⟩, fun _ => rfl⟩
end TB
