/-! 52 MSET: the reference's settle, its loop over the nodes -/
/-- what no call of settle changes -/
def rsC (M : MS) := (mTH M, mND M, mIP M, mAN M, mOU M, mCE M, mON M, mTW M, mIN M, mTI M, mOL M, mPI M, mTR M, mAR M, mDE M, mAO M, mCC M, mCB M)
theorem rsC_of {M M' : MS} (e : rsC M' = rsC M) : mTH M' = mTH M ∧ mND M' = mND M ∧ mIP M' = mIP M ∧ mAN M' = mAN M ∧ mOU M' = mOU M ∧ mCE M' = mCE M ∧ mON M' = mON M ∧ mTW M' = mTW M ∧ mIN M' = mIN M ∧ mTI M' = mTI M ∧ mOL M' = mOL M ∧ mPI M' = mPI M ∧ mTR M' = mTR M ∧ mAR M' = mAR M ∧ mDE M' = mDE M ∧ mAO M' = mAO M ∧ mCC M' = mCC M ∧ mCB M' = mCB M := by
  unfold rsC at e
  simpa only [Prod.mk.injEq] using e
theorem rsC_W {M M' : MS} (e : rsW M' = rsW M) : rsC M' = rsC M ∧ mSL M' = mSL M := by
  obtain ⟨e1, e2, e3, e4, e5, e6, e7, e8, e9, e10, e11, e12, e13, e14, e15, e16, e17, e18, e19, _, _⟩ := rsW_of e
  unfold rsC
  rw [e1, e2, e3, e4, e5, e6, e8, e9, e10, e11, e12, e13, e14, e15, e16, e17, e18, e19]
  exact ⟨rfl, e7⟩
theorem rsC_F {M M' : MS} (e : rsF M' = rsF M) : rsC M' = rsC M ∧ mSL M' = mSL M := by
  obtain ⟨e1, e2, e3, e4, e5, e6, e7, e8, e9, e10, e11, e12, e13, e14, e15, e16, e17, e18, e19, _, _⟩ := rsF_of e
  unfold rsC
  rw [e1, e2, e3, e4, e5, e6, e8, e9, e10, e11, e12, e13, e14, e15, e16, e17, e18, e19]
  exact ⟨rfl, e7⟩
theorem rsC_Sh {M M' : MS} {K : Nat} {pn tr ar de : Nat → Nat} (e : rsC M' = rsC M) (h : mSh M K pn tr ar de) : mSh M' K pn tr ar de := by
  obtain ⟨_, _, _, _, _, e6, _, _, _, _, _, e12, e13, e14, e15, _⟩ := rsC_of e
  unfold mSh
  rw [e6, e12, e13, e14, e15]
  exact h
theorem rsC_G {M M' : MS} {ip : Nat → Bool} {il ir : Nat → Nat} {n : Nat} (e : rsC M' = rsC M) (h : mG M ip il ir n) : mG M' ip il ir n := by
  obtain ⟨_, _, _, _, _, _, e7, e8, _⟩ := rsC_of e
  exact mG_same h e7 e8
/-- a literal that is settled -/
def mGt (M : MS) (K : Nat) (pn : Nat → Nat) (ip : Nat → Bool) (l z : Nat) : Prop := if l % 2 = 0 ∧ ip (l / 2) = true then mAV M l = tI z ∧ mGA M l = (-1 : Int32) ∧ ∀ q, q < 3 → mGP M (3 * l + q) = (-1 : Int32) else mPm M K pn l z K
/-- a literal that isn't settled yet -/
def mClr (M : MS) (ip : Nat → Bool) (tmn : Nat → Nat) (l : Nat) : Prop := mFI M l = (-1 : Int32) ∧ mGA M l = (-1 : Int32) ∧ (∀ q, q < 3 → mGP M (3 * l + q) = (-1 : Int32)) ∧ mAV M l = if l % 2 = 0 ∧ ip (l / 2) = true then nI (tmn (l / 2)) else (-1 : Int32)
theorem mGt_av {M : MS} {K l z : Nat} {pn : Nat → Nat} {ip : Nat → Bool} (h : mGt M K pn ip l z) : mAV M l = tI z := by
  unfold mGt at h
  by_cases q : l % 2 = 0 ∧ ip (l / 2) = true
  · rw [if_pos q] at h; exact h.1
  · rw [if_neg q] at h; exact h.1
theorem mPm_same {M M' : MS} {K l z e : Nat} {pn : Nat → Nat} (h : mPm M K pn l z e) (e1 : mAV M' l = mAV M l) (e2 : mGA M' l = mGA M l) (e3 : ∀ q, q < 3 → mGP M' (3 * l + q) = mGP M (3 * l + q)) : mPm M' K pn l z e := by
  obtain ⟨h1, h2, h3⟩ := h
  refine ⟨by rw [e1]; exact h1, fun z => ⟨by rw [e2]; exact (h2 z).1, fun q hq => by rw [e3 q hq]; exact (h2 z).2 q hq⟩, fun z => ?_⟩
  obtain ⟨t, b, c, ap, a1, a2, a3, a4, a5, a6, a7, a8⟩ := h3 z
  exact ⟨t, b, c, ap, a1, a2, a3, a4, a5, a6, by rw [e2]; exact a7, fun q hq => by rw [e3 q hq]; exact a8 q hq⟩
theorem mGt_same {M M' : MS} {K l z : Nat} {pn : Nat → Nat} {ip : Nat → Bool} (h : mGt M K pn ip l z) (e1 : mAV M' l = mAV M l) (e2 : mGA M' l = mGA M l) (e3 : ∀ q, q < 3 → mGP M' (3 * l + q) = mGP M (3 * l + q)) : mGt M' K pn ip l z := by
  unfold mGt at h ⊢
  by_cases q : l % 2 = 0 ∧ ip (l / 2) = true
  · rw [if_pos q] at h ⊢
    exact ⟨by rw [e1]; exact h.1, by rw [e2]; exact h.2.1, fun q hq => by rw [e3 q hq]; exact h.2.2 q hq⟩
  · rw [if_neg q] at h ⊢
    exact mPm_same h e1 e2 e3
theorem mClr_same {M M' : MS} {l : Nat} {ip : Nat → Bool} {tmn : Nat → Nat} (h : mClr M ip tmn l) (e0 : mFI M' l = mFI M l) (e1 : mAV M' l = mAV M l) (e2 : mGA M' l = mGA M l) (e3 : ∀ q, q < 3 → mGP M' (3 * l + q) = mGP M (3 * l + q)) : mClr M' ip tmn l := by
  obtain ⟨h1, h2, h3, h4⟩ := h
  exact ⟨by rw [e0]; exact h1, by rw [e2]; exact h2, fun q hq => by rw [e3 q hq]; exact h3 q hq, by rw [e1]; exact h4⟩
theorem mNm_P {M M' : MS} {K l x : Nat} {pn : Nat → Nat} (h : mNm M K pn l x) (e1 : mAV M' l = tI x) (e2 : mGA M' l = mGA M l) (e3 : ∀ q, q < 3 → mGP M' (3 * l + q) = mGP M (3 * l + q)) : mPm M' K pn l x 0 := by
  obtain ⟨h1, h2, h3⟩ := h
  refine ⟨e1, fun z => ⟨by rw [e2]; exact (h2 z).1, fun q hq => by rw [e3 q hq]; exact (h2 z).2 q hq⟩, fun z => ?_⟩
  obtain ⟨t, c, ap, a1, a2, a3, a4, a5, a6⟩ := h3 z
  exact ⟨t, 0, c, ap, by rw [Nat.zero_mul, Nat.add_zero]; exact a1, a2, Nat.zero_lt_two, a3, fun q => absurd q Nat.zero_ne_one, a4, by rw [e2]; exact a5, fun q hq => by rw [e3 q hq]; exact a6 q hq⟩
