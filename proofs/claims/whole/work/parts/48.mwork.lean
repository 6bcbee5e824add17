/-! 48 MWORK: the reference's workAnd -/
/-- all of the reference but its gates and what its tries scribble -/
def rsW (M : MS) := (mTH M, mND M, mIP M, mAN M, mOU M, mCE M, mSL M, mON M, mTW M, mIN M, mTI M, mOL M, mPI M, mTR M, mAR M, mDE M, mAO M, mCC M, mCB M, mAV M, mWA M)
theorem rsW_of {M M' : MS} (e : rsW M' = rsW M) : mTH M' = mTH M ∧ mND M' = mND M ∧ mIP M' = mIP M ∧ mAN M' = mAN M ∧ mOU M' = mOU M ∧ mCE M' = mCE M ∧ mSL M' = mSL M ∧ mON M' = mON M ∧ mTW M' = mTW M ∧ mIN M' = mIN M ∧ mTI M' = mTI M ∧ mOL M' = mOL M ∧ mPI M' = mPI M ∧ mTR M' = mTR M ∧ mAR M' = mAR M ∧ mDE M' = mDE M ∧ mAO M' = mAO M ∧ mCC M' = mCC M ∧ mCB M' = mCB M ∧ mAV M' = mAV M ∧ mWA M' = mWA M := by
  unfold rsW at e
  simpa only [Prod.mk.injEq] using e
theorem rsW_T {M M' : MS} (e : rsT M' = rsT M) : rsW M' = rsW M := by
  obtain ⟨e1, e2, e3, e4, e5, e6, e7, e8, e9, e10, e11, e12, e13, e14, e15, e16, e17, e18, e19, e20, e21, _, _⟩ := rsT_of e
  unfold rsW
  rw [e1, e2, e3, e4, e5, e6, e7, e8, e9, e10, e11, e12, e13, e14, e15, e16, e17, e18, e19, e20, e21]
theorem rsW_VA (M : MS) (f : Nat → Int32) : rsW (mVA_s M f) = rsW M := rfl
theorem rsW_LE (M : MS) (f : Nat → Int32) : rsW (mLE_s M f) = rsW M := rfl
theorem rsW_Sh {M M' : MS} {K : Nat} {pn tr ar de : Nat → Nat} (e : rsW M' = rsW M) (h : mSh M K pn tr ar de) : mSh M' K pn tr ar de := by
  obtain ⟨_, _, _, _, _, e6, _, _, _, _, _, _, e13, e14, e15, e16, _⟩ := rsW_of e
  unfold mSh
  rw [e6, e13, e14, e15, e16]
  exact h
theorem rsW_G {M M' : MS} {ip : Nat → Bool} {il ir : Nat → Nat} {n : Nat} (e : rsW M' = rsW M) (h : mG M ip il ir n) : mG M' ip il ir n := by
  obtain ⟨_, _, _, _, _, _, _, e8, e9, _⟩ := rsW_of e
  exact mG_same h e8 e9
section MW
variable {M : MS} {K n c f x0 x1 T : Nat} {pn tr ar de P lf : Nat → Nat} {O0 O1 : Nat → Prop} {post : MS → Prop}
theorem r_tryMoves (hS : mSh M K pn tr ar de) (hc : c < K) (hn : n < 32) (hLE : ∀ i, i < pn c → mLE M i = nI (lf i) ∧ lf i < n) (hinj : ∀ i j, i < pn c → j < pn c → lf i = lf j → i = j) (hP : ∀ l, l < 2 * n → mAV M l = tI (P l) ∧ gN T (P l)) (hT : T < 2 ^ 19) (hf : f < 2 ^ (2 ^ pn c))
    (hx0 : mNm M K pn (2 * n) x0) (hg0 : gN (T + 1000) x0) (hm0 : mn O0 x0) (hx1 : mNm M K pn (2 * n + 1) x1) (hg1 : gN (T + 1000) x1) (hm1 : mn O1 x1)
    (hpost : ∀ M' x0' x1', rsT M' = rsT M → mO2 M M' n → mNm M' K pn (2 * n) x0' → gN (T + 1000) x0' → mn (fun y => O0 y ∨ ofC tr de P lf (pn c) f c y) x0' → mNm M' K pn (2 * n + 1) x1' → gN (T + 1000) x1' → mn (fun y => O1 y ∨ ofC tr de P lf (pn c) (f ^^^ (2 ^ (2 ^ pn c) - 1)) c y) x1' → post M') : p_X6_tryMoves M (nI n) (nI c) (nI (pn c)) (nI f) post := by
  have hb := (hS.2.2 c hc).1
  have h := r_moves hS hc hn hLE hinj hP hT hf hx0 hg0 hm0 hx1 hg1 hm1 hpost
  unfold p_X6_tryMoves
  refine c2n (nI_eq (b := 1) (by omega) (by omega)) (fun w => ?_) (fun w => ?_)
  · refine c2n (nI_eq (b := 2) (by omega) (by omega)) (fun u => ?_) (fun u => ?_)
    · have e : pn c = 3 := by omega
      have e2 : nI (cdE (pn c)) = (216 : Int32) := by rw [e]; rfl
      rw [e2] at h
      exact h
    · have e2 : nI (cdE (pn c)) = (16 : Int32) := by rw [u]; rfl
      rw [e2] at h
      exact h
  · have e2 : nI (cdE (pn c)) = (2 : Int32) := by rw [w]; rfl
    rw [e2] at h
    exact h
end MW
