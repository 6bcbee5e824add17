/-! 46 MMOVES: the reference's tryMoves -/
/-- all of the reference but its gates and the tried pins -/
def rsT (M : MS) := (mTH M, mND M, mIP M, mAN M, mOU M, mCE M, mSL M, mON M, mTW M, mIN M, mTI M, mOL M, mPI M, mTR M, mAR M, mDE M, mAO M, mCC M, mCB M, mAV M, mWA M, mVA M, mLE M)
theorem rsT_TD (M : MS) (f : Nat → Int32) : rsT (mTD_s M f) = rsT M := rfl
theorem rsT_E {M M' : MS} (e : rsE M' = rsE M) : rsT M' = rsT M := by
  obtain ⟨e1, e2, e3, e4, e5, e6, e7, e8, e9, e10, e11, e12, e13, e14, e15, e16, e17, e18, e19, e20, e21, e22, e23, _⟩ := rsE_of e
  unfold rsT
  rw [e1, e2, e3, e4, e5, e6, e7, e8, e9, e10, e11, e12, e13, e14, e15, e16, e17, e18, e19, e20, e21, e22, e23]
theorem rsT_of {M M' : MS} (e : rsT M' = rsT M) : mTH M' = mTH M ∧ mND M' = mND M ∧ mIP M' = mIP M ∧ mAN M' = mAN M ∧ mOU M' = mOU M ∧ mCE M' = mCE M ∧ mSL M' = mSL M ∧ mON M' = mON M ∧ mTW M' = mTW M ∧ mIN M' = mIN M ∧ mTI M' = mTI M ∧ mOL M' = mOL M ∧ mPI M' = mPI M ∧ mTR M' = mTR M ∧ mAR M' = mAR M ∧ mDE M' = mDE M ∧ mAO M' = mAO M ∧ mCC M' = mCC M ∧ mCB M' = mCB M ∧ mAV M' = mAV M ∧ mWA M' = mWA M ∧ mVA M' = mVA M ∧ mLE M' = mLE M := by
  unfold rsT at e
  simpa only [Prod.mk.injEq] using e
theorem rsT_Sh {M M' : MS} {K : Nat} {pn tr ar de : Nat → Nat} (e : rsT M' = rsT M) (h : mSh M K pn tr ar de) : mSh M' K pn tr ar de := by
  obtain ⟨_, _, _, _, _, e6, _, _, _, _, _, _, e13, e14, e15, e16, _⟩ := rsT_of e
  unfold mSh
  rw [e6, e13, e14, e15, e16]
  exact h
theorem cdD_lt {p code q : Nat} (hp : 1 ≤ p) : cdD p code q / 2 < p := by
  have : cdD p code q < 2 * p := Nat.mod_lt _ (by omega)
  omega
/-- what a code offers -/
def ofK (tr de P lf : Nat → Nat) (p f c e y : Nat) : Prop := ∃ code, code < e ∧ cdO p code = true ∧ agG p (tr c) (fun q => cdD p code q / 2) (fun q => (cdD p code q).testBit 0) = f ∧ y = ofv P de c p (fun q => 2 * lf (cdD p code q / 2) + ((cdD p code q).testBit 0).toNat)
theorem ofK_C {tr de P lf : Nat → Nat} {p f c y : Nat} (h1 : 1 ≤ p) (hp : p < 4) : ofK tr de P lf p f c (cdE p) y ↔ ofC tr de P lf p f c y := by
  have hag : ∀ (i : Nat) (s : Nat → Nat) (t : Nat → Bool), (∀ q, q < p → lfA p i q = s q ∧ i.testBit q = t q) → agT p (tr c) i = agG p (tr c) s t := by
    intro i s t h
    unfold agT agG
    refine mk_ext (fun v _ => ?_)
    have : pnV p i v = pnG p s t v := by
      unfold pnV pnG
      exact mk_ext (fun q hq => by rw [(h q hq).1, (h q hq).2])
    rw [this]
  constructor
  · rintro ⟨code, hc, ho, hf, hy⟩
    obtain ⟨i, hi, h⟩ := of_cd hp h1 hc ho
    refine ⟨i, hi, ?_, ?_⟩
    · rw [hag i _ _ h]; exact hf
    · rw [hy]
      refine ofv_ap (fun q hq => ?_)
      show 2 * lf (cdD p code q / 2) + ((cdD p code q).testBit 0).toNat = 2 * lf (lfA p i q) + (i.testBit q).toNat
      rw [(h q hq).1, (h q hq).2]
  · rintro ⟨i, hi, hf, hy⟩
    obtain ⟨code, hc, ho, h⟩ := cd_of p hp h1 i hi
    refine ⟨code, hc, ho, ?_, ?_⟩
    · rw [← hag i _ _ h]; exact hf
    · rw [hy]
      refine ofv_ap (fun q hq => ?_)
      show 2 * lf (lfA p i q) + (i.testBit q).toNat = 2 * lf (cdD p code q / 2) + ((cdD p code q).testBit 0).toNat
      rw [(h q hq).1, (h q hq).2]
