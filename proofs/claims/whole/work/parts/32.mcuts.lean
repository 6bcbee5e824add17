/-! 32 MCUTS: the reference's findCuts -/
/-- all of the reference but its rows of cuts -/
def rsM (M : MS) := (mTH M, mND M, mIP M, mAN M, mOU M, mCE M, mSL M, mON M, mTW M, mIN M, mTI M, mOL M, mPI M, mTR M, mAR M, mDE M, mAO M, mFI M, mAV M, mGA M, mGP M, mWA M, mVA M, mLE M, mTD M)
theorem rsM_CC (M : MS) (f : Nat → Int32) : rsM (mCC_s M f) = rsM M := rfl
theorem rsM_CB (M : MS) (f : Nat → Int32) : rsM (mCB_s M f) = rsM M := rfl
theorem rsM_of {M M' : MS} (e : rsM M' = rsM M) : mTH M' = mTH M ∧ mND M' = mND M ∧ mIP M' = mIP M ∧ mAN M' = mAN M ∧ mOU M' = mOU M ∧ mCE M' = mCE M ∧ mSL M' = mSL M ∧ mON M' = mON M ∧ mTW M' = mTW M ∧ mIN M' = mIN M ∧ mTI M' = mTI M ∧ mOL M' = mOL M ∧ mPI M' = mPI M ∧ mTR M' = mTR M ∧ mAR M' = mAR M ∧ mDE M' = mDE M ∧ mAO M' = mAO M ∧ mFI M' = mFI M ∧ mAV M' = mAV M ∧ mGA M' = mGA M ∧ mGP M' = mGP M ∧ mWA M' = mWA M ∧ mVA M' = mVA M ∧ mLE M' = mLE M ∧ mTD M' = mTD M := by
  unfold rsM at e
  simpa only [Prod.mk.injEq] using e
def mL (M : MS) (a : Nat) (L : List Nat) : Prop := mCC M a = nI L.length ∧ ∀ j, j < L.length → mCB M (5000 * a + j) = nI (L.getD j 0)
/-- the rows of the other ANDs -/
def mOth (M M' : MS) (a : Nat) : Prop := (∀ c, c ≠ a → mCC M' c = mCC M c) ∧ ∀ j, (j < 5000 * a ∨ 5000 * a + 5000 ≤ j) → mCB M' j = mCB M j
section MC
variable {M M0 : MS} {ip : Nat → Bool} {il ir : Nat → Nat} {n a b : Nat} {L LF : List Nat} {post : MS → Prop}
theorem rsM_G {M' : MS} (e : rsM M' = rsM M) (h : mG M ip il ir n) : mG M' ip il ir n := by
  have h2 := rsM_of e
  exact mG_same h h2.2.2.2.2.2.2.2.1 h2.2.2.2.2.2.2.2.2.1
theorem r_tryCut (hG : mG M ip il ir (n + 1)) (hi : ip n = false) (ha : mAO M n = nI a) (ha24 : a < 24) (hL : mL M a L) (hlen : L.length < 5000) (hb : b < 2 ^ n)
    (h1 : cutP ip (hf il) (hf ir) b n → ∀ M', rsM M' = rsM M → mL M' a (L ++ [b]) → mOth M M' a → post M') (h0 : ¬ cutP ip (hf il) (hf ir) b n → post M) : p_X6_tryCut M (nI n) (nI b) post := by
  have hn := hG.1
  unfold p_X6_tryCut
  refine r_isCut hG (by omega) hi hb (fun hc => ?_) (fun hc => ?_)
  · refine ⟨fun z => absurd z (by decide), fun _ => ⟨bx_in (by omega) (by omega), ?_⟩⟩
    intro y5 e5
    rw [bx_cl (show n < 2 ^ 31 by omega), ha] at e5
    subst e5
    have k5 : (5000 : Int32) = nI 5000 := rfl
    rw [bx_cl (show a < 2 ^ 31 by omega), hL.1, k5, pk_mul, nI_add, bx_cl (show 5000 * a + L.length < 2 ^ 31 by omega)]
    refine ⟨bx_in (by omega) (by omega), bx_in (by omega) (by omega), ?_⟩
    intro M8 e8
    refine ⟨bx_in (by omega) (by omega), bx_in (by omega) (by omega), ?_⟩
    intro M11 e11
    have c8 : mCC M8 = mCC M := by rw [e8, gs_mCC_CB]
    rw [c8, hL.1, nI_1] at e11
    have cc : mCC M11 = upd (mCC M) a (nI (L.length + 1)) := by rw [e11, gs_mCC_CC]
    have cb : mCB M11 = upd (mCB M) (5000 * a + L.length) (nI b) := by rw [e11, gs_mCB_CC, e8, gs_mCB_CB]
    refine h1 hc M11 (by rw [e11, rsM_CC, e8, rsM_CB]) ⟨?_, fun j hj => ?_⟩ ⟨fun c hc => ?_, fun j hj => ?_⟩
    · rw [cc, pk_us, List.length_append]; rfl
    · rw [List.length_append] at hj
      have hj2 : j < L.length + 1 := hj
      rw [cb]
      by_cases z : j = L.length
      · subst z
        rw [pk_us, List.getD_eq_getElem?_getD, List.getElem?_append_right (Nat.le_refl _), Nat.sub_self]
        rfl
      · rw [pk_un (by omega), List.getD_eq_getElem?_getD, List.getElem?_append_left (by omega), ← List.getD_eq_getElem?_getD]
        exact hL.2 j (by omega)
    · rw [cc, pk_un hc]
    · rw [cb, pk_un (by omega)]
  · exact ⟨fun _ => h0 hc, fun z => absurd rfl z⟩
theorem mOth_tr {M1 M2 M3 : MS} (h1 : mOth M1 M2 a) (h2 : mOth M2 M3 a) : mOth M1 M3 a := ⟨fun c hc => (h2.1 c hc).trans (h1.1 c hc), fun j hj => (h2.2 j hj).trans (h1.2 j hj)⟩
theorem r_findCuts (hG : mG M0 ip il ir (n + 1)) (hi : ip n = false) (ha : mAO M0 n = nI a) (ha24 : a < 24) (hLF : isCuts ip (hf il) (hf ir) n LF) (hlen : LF.length ≤ 4991)
    (hp : ∀ M', rsM M' = rsM M0 → mL M' a LF → mOth M0 M' a → post M') : p_X6_findCuts M0 (nI n) post := by
  have hn := hG.1
  have hg := mG_ok hG
  let Iv : MS → List Nat → Nat → Prop := fun M L b => rsM M = rsM M0 ∧ mL M a L ∧ mOth M0 M a ∧ isB ip (hf il) (hf ir) n b L
  have hIv : ∀ M L b, Iv M L b ↔ (rsM M = rsM M0 ∧ mL M a L ∧ mOth M0 M a ∧ isB ip (hf il) (hf ir) n b L) := fun _ _ _ => Iff.rfl
  clear_value Iv
  have tr : ∀ (M : MS) (L : List Nat) (b : Nat) (post : MS → Prop), Iv M L b → b < 2 ^ n → pc 32 b ≤ 3 → (∀ M' L', Iv M' L' (b + 1) → post M') → p_X6_tryCut M (nI n) (nI b) post := by
    intro M L b post hI hb hpc hp
    obtain ⟨i1, i2, i3, i4⟩ := (hIv M L b).1 hI
    have hsub : L.length ≤ LF.length := asc_len i4.1 hLF.1 (fun m hm => by
      have := (i4.2 m).1 hm
      exact (hLF.2 m).2 ⟨by omega, this.2⟩)
    refine r_tryCut (rsM_G i1 hG) hi (by rw [(rsM_of i1).2.2.2.2.2.2.2.2.2.2.2.2.2.2.2.2.1]; exact ha) ha24 i2 (by omega) hb (fun hc M' r1 r2 r3 => ?_) (fun hc => ?_)
    · exact hp M' _ ((hIv _ _ _).2 ⟨r1.trans i1, r2, mOth_tr i3 r3, isB_cut i4 hpc hc⟩)
    · exact hp M L ((hIv _ _ _).2 ⟨i1, i2, i3, isB_no i4 hc⟩)
  unfold p_X6_findCuts
  rw [bx_cl (show n < 2 ^ 31 by omega), ha, bx_cl (show a < 2 ^ 31 by omega)]
  refine ⟨bx_in (by omega) (by omega), bx_in (by omega) (by omega), ?_⟩
  intro M3 e3
  unfold p_X6_findCuts_14
  refine ⟨fun M x2 => ∃ (h : Nat) (L : List Nat), x2 = nI h ∧ h ≤ n ∧ Iv M L (2 ^ h), fun _ x2 => n - x2.toNatClampNeg, ⟨0, [], rfl, by omega, ?_⟩, ?_⟩
  · rw [hIv]
    refine ⟨by rw [e3, rsM_CC], ⟨by rw [e3, gs_mCC_CC, pk_us]; rfl, fun j hj => absurd hj (Nat.not_lt_zero _)⟩, ⟨fun c hc => by rw [e3, gs_mCC_CC, pk_un hc], fun j _ => by rw [e3, gs_mCB_CC]⟩, ?_⟩
    obtain ⟨L, h1, h2⟩ := isB_all hg (show n < n + 1 by omega) 0 (by omega)
    have : L = [] := List.eq_nil_of_length_eq_zero (Nat.le_zero.1 h2)
    rw [this] at h1
    exact h1
  · rintro M x2 ⟨h, L, rfl, hh, hI⟩
    unfold b_X6_findCuts_14
    refine c2 (nI_leI (by omega) (by omega)) (fun q => ?_) (fun q => ?_)
    · have : h = n := by omega
      subst this
      obtain ⟨i1, i2, i3, i4⟩ := (hIv _ _ _).1 hI
      have : L = LF := isCuts_eq i4 hLF
      subst this
      exact hp M i1 i2 i3
    · have ph := Nat.pow_lt_pow_right (show 1 < 2 by decide) (show h < n by omega)
      rw [bx_one (by omega)]
      refine tr M L (2 ^ h) _ hI ph (by rw [pc_1 (by omega)]; omega) (fun M5 L5 hI5 => ?_)
      unfold p_X6_findCuts_29
      refine ⟨fun M x3 => ∃ (m : Nat) (L : List Nat), x3 = nI m ∧ m ≤ h ∧ Iv M L (2 ^ h + 2 ^ m), fun _ x3 => h - x3.toNatClampNeg, ⟨0, L5, rfl, by omega, hI5⟩, ?_⟩
      rintro M x3 ⟨m, L, rfl, hm, hI⟩
      unfold b_X6_findCuts_29
      refine c2 (nI_leI (by omega) (by omega)) (fun q => ?_) (fun q => ?_)
      · have : m = h := by omega
        subst this
        intro y7 e7
        have e : 2 ^ m + 2 ^ m = 2 ^ (m + 1) := by rw [Nat.pow_succ]; omega
        rw [e] at hI
        exact ⟨⟨m + 1, L, by rw [e7, nI_1], by omega, hI⟩, mu_up e7 (by omega) (by omega)⟩
      · have pm := Nat.pow_lt_pow_right (show 1 < 2 by decide) (show m < h by omega)
        have ph1 := Nat.pow_le_pow_right (show 0 < 2 by decide) (show h + 1 ≤ n by omega)
        rw [Nat.pow_succ] at ph1
        rw [bx_one (by omega), bx_one (by omega), bx_or, or_add pm]
        refine tr M L (2 ^ h + 2 ^ m) _ hI (by omega) (by rw [pc_2 (by omega) (by omega)]; omega) (fun M8 L8 hI8 => ?_)
        unfold p_X6_findCuts_49
        refine ⟨fun M x4 => ∃ (l : Nat) (L : List Nat), x4 = nI l ∧ l ≤ m ∧ Iv M L (2 ^ h + 2 ^ m + 2 ^ l), fun _ x4 => m - x4.toNatClampNeg, ⟨0, L8, rfl, by omega, hI8⟩, ?_⟩
        rintro M x4 ⟨l, L, rfl, hl, hI⟩
        unfold b_X6_findCuts_49
        refine c2 (nI_leI (by omega) (by omega)) (fun q => ?_) (fun q => ?_)
        · have : l = m := by omega
          subst this
          intro y10 e10
          have e : 2 ^ h + 2 ^ l + 2 ^ l = 2 ^ h + 2 ^ (l + 1) := by rw [Nat.pow_succ]; omega
          rw [e] at hI
          exact ⟨⟨l + 1, L, by rw [e10, nI_1], by omega, hI⟩, mu_up e10 (by omega) (by omega)⟩
        · have pl := Nat.pow_lt_pow_right (show 1 < 2 by decide) (show l < m by omega)
          have pm1 := Nat.pow_le_pow_right (show 0 < 2 by decide) (show m + 1 ≤ h by omega)
          rw [Nat.pow_succ] at pm1
          have eo : 2 ^ h ||| 2 ^ m ||| 2 ^ l = 2 ^ h + 2 ^ m + 2 ^ l := by
            rw [Nat.or_assoc, or_add pl, or_add (by omega)]; omega
          rw [bx_one (by omega), bx_one (by omega), bx_one (by omega), bx_or, bx_or, eo]
          refine tr M L (2 ^ h + 2 ^ m + 2 ^ l) _ hI (by omega) (by rw [pc_3 (by omega) (by omega) (by omega)]; omega) (fun M11 L11 hI11 => ?_)
          intro y12 e12
          obtain ⟨i1, i2, i3, i4⟩ := (hIv _ _ _).1 hI11
          exact ⟨⟨l + 1, L11, by rw [e12, nI_1], by omega, (hIv _ _ _).2 ⟨i1, i2, i3, isB_low (by omega) (by omega) (by omega) i4⟩⟩, mu_up e12 (by omega) (by omega)⟩
end MC
