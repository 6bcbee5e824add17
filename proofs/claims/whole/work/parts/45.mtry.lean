/-! 45 MTRY: the reference's tryCell -/
theorem rsE_of {M M' : MS} (e : rsE M' = rsE M) : mTH M' = mTH M ∧ mND M' = mND M ∧ mIP M' = mIP M ∧ mAN M' = mAN M ∧ mOU M' = mOU M ∧ mCE M' = mCE M ∧ mSL M' = mSL M ∧ mON M' = mON M ∧ mTW M' = mTW M ∧ mIN M' = mIN M ∧ mTI M' = mTI M ∧ mOL M' = mOL M ∧ mPI M' = mPI M ∧ mTR M' = mTR M ∧ mAR M' = mAR M ∧ mDE M' = mDE M ∧ mAO M' = mAO M ∧ mCC M' = mCC M ∧ mCB M' = mCB M ∧ mAV M' = mAV M ∧ mWA M' = mWA M ∧ mVA M' = mVA M ∧ mLE M' = mLE M ∧ mTD M' = mTD M := by
  unfold rsE at e
  simpa only [Prod.mk.injEq] using e
theorem rsE_Sh {M M' : MS} {K : Nat} {pn tr ar de : Nat → Nat} (e : rsE M' = rsE M) (h : mSh M K pn tr ar de) : mSh M' K pn tr ar de := by
  obtain ⟨_, _, _, _, _, e6, _, _, _, _, _, _, e13, e14, e15, e16, _⟩ := rsE_of e
  unfold mSh
  rw [e6, e13, e14, e15, e16]
  exact h
/-- nothing but the gates of node n is other -/
def mO2 (M M' : MS) (n : Nat) : Prop := (∀ j, j ≠ 2 * n → j ≠ 2 * n + 1 → mFI M' j = mFI M j ∧ mGA M' j = mGA M j) ∧ ∀ j, (j < 6 * n ∨ 6 * n + 6 ≤ j) → mGP M' j = mGP M j
theorem mO2_rf (M : MS) (n : Nat) : mO2 M M n := ⟨fun _ _ _ => ⟨rfl, rfl⟩, fun _ _ => rfl⟩
theorem mO2_tr {M1 M2 M3 : MS} {n : Nat} (h1 : mO2 M1 M2 n) (h2 : mO2 M2 M3 n) : mO2 M1 M3 n := ⟨fun j a b => ⟨(h2.1 j a b).1.trans (h1.1 j a b).1, (h2.1 j a b).2.trans (h1.1 j a b).2⟩, fun j a => (h2.2 j a).trans (h1.2 j a)⟩
theorem mNm_same {M M' : MS} {K l x : Nat} {pn : Nat → Nat} (h : mNm M K pn l x) (e1 : mFI M' l = mFI M l) (e2 : mGA M' l = mGA M l) (e3 : ∀ q, q < 3 → mGP M' (3 * l + q) = mGP M (3 * l + q)) : mNm M' K pn l x := by
  obtain ⟨h1, h2, h3⟩ := h
  refine ⟨by rw [e1]; exact h1, fun z => ⟨by rw [e2]; exact (h2 z).1, fun q hq => by rw [e3 q hq]; exact (h2 z).2 q hq⟩, fun z => ?_⟩
  obtain ⟨t, c, ap, a1, a2, a3, a4, a5, a6⟩ := h3 z
  exact ⟨t, c, ap, a1, a2, a3, a4, by rw [e2]; exact a5, fun q hq => by rw [e3 q hq]; exact a6 q hq⟩
theorem ofv_ap {P de ap ap' : Nat → Nat} {c p : Nat} (h : ∀ q, q < p → ap q = ap' q) : ofv P de c p ap = ofv P de c p ap' := by
  unfold ofv
  have e2 : ∀ r, r ≤ p → tmx P (fun q => de (3 * c + q)) ap r = tmx P (fun q => de (3 * c + q)) ap' r := by
    intro r
    induction r with
    | zero => intro _; rfl
    | succ r ih =>
      intro hr
      show max (tmx P _ ap r) (P (ap r) / 2 ^ 23 + _) = max (tmx P _ ap' r) (P (ap' r) / 2 ^ 23 + _)
      rw [ih (by omega), h r (by omega)]
  rw [pkx_eq p h, e2 _ (Nat.le_refl _)]
  by_cases z : ∀ q, q < p → P (ap q) ≠ tp
  · rw [if_pos z, if_pos (fun q hq => by rw [← h q hq]; exact z q hq)]
  · rw [if_neg z, if_neg (fun y => z (fun q hq => by rw [h q hq]; exact y q hq))]
section MT
variable {M : MS} {K n c f x0 x1 T : Nat} {pn tr ar de P lf s : Nat → Nat} {t : Nat → Bool} {O0 O1 : Nat → Prop} {post : MS → Prop}
theorem r_tryCell (hS : mSh M K pn tr ar de) (hc : c < K) (hn : n < 32) (hLE : ∀ i, i < pn c → mLE M i = nI (lf i) ∧ lf i < n) (hinj : ∀ i j, i < pn c → j < pn c → lf i = lf j → i = j) (hTD : ∀ k, k < pn c → mTD M k = nI (2 * lf (s k) + (t k).toNat) ∧ s k < pn c) (hP : ∀ l, l < 2 * n → mAV M l = tI (P l) ∧ gN T (P l)) (hT : T < 2 ^ 19) (hf : f < 2 ^ (2 ^ pn c))
    (hx0 : mNm M K pn (2 * n) x0) (hg0 : gN (T + 1000) x0) (hm0 : mn O0 x0) (hx1 : mNm M K pn (2 * n + 1) x1) (hg1 : gN (T + 1000) x1) (hm1 : mn O1 x1)
    (hpost : ∀ M' x0' x1', rsE M' = rsE M → mO2 M M' n → mNm M' K pn (2 * n) x0' → gN (T + 1000) x0' → mn (fun y => O0 y ∨ (agG (pn c) (tr c) s t = f ∧ y = ofv P de c (pn c) (fun k => 2 * lf (s k) + (t k).toNat))) x0' → mNm M' K pn (2 * n + 1) x1' → gN (T + 1000) x1' → mn (fun y => O1 y ∨ (agG (pn c) (tr c) s t = f ^^^ (2 ^ (2 ^ pn c) - 1) ∧ y = ofv P de c (pn c) (fun k => 2 * lf (s k) + (t k).toNat))) x1' → post M') : p_X6_tryCell M (nI n) (nI c) (nI (pn c)) (nI f) post := by
  obtain ⟨s1, s2, s3⟩ := id hS
  obtain ⟨⟨b1, b2, b3⟩, b4, b5, b6, b7, b8⟩ := s3 c hc
  have h8 := p2_3 (show pn c ≤ 3 by omega)
  have h256 := p22_3 (show pn c ≤ 3 by omega)
  have hpos := Nat.two_pow_pos (2 ^ pn c)
  have k2 : (2 : Int32) = nI 2 := rfl
  obtain ⟨ap, eap⟩ : ∃ ap : Nat → Nat, ap = fun k => 2 * lf (s k) + (t k).toNat := ⟨_, rfl⟩
  rw [← eap] at hpost
  have hap : ∀ q, q < pn c → ap q < 2 * n := by
    intro q hq
    have h1 := (hLE _ (hTD q hq).2).2
    have h2 := Bool.toNat_le (t q)
    rw [eap]
    show 2 * lf (s q) + (t q).toNat < 2 * n
    omega
  have hTD' : ∀ (M' : MS), rsE M' = rsE M → ∀ q, q < pn c → mTD M' q = nI (ap q) ∧ ap q < 64 ∧ mAV M' (ap q) = tI (P (ap q)) ∧ gN T (P (ap q)) := by
    intro M' e q hq
    obtain ⟨_, _, _, _, _, _, _, _, _, _, _, _, _, _, _, _, _, _, _, e20, _, _, _, e24⟩ := rsE_of e
    have h1 := hap q hq
    have h2 := hP _ h1
    rw [e20, e24]
    exact ⟨by rw [eap]; exact (hTD q hq).1, by omega, h2.1, h2.2⟩
  have hofg : gN (T + 1000) (ofv P de c (pn c) ap) := by
    have e : ofv P de c (pn c) ap = ofv P de c (pn c) (fun j => if j < pn c then ap j else 0) := ofv_ap (fun q hq => (if_pos hq).symm)
    rw [e]
    refine ofv_gN (T := T) (by omega) (by omega) (fun j hj => ?_) (fun j hj => ?_)
    · show gN T (P (if j < pn c then ap j else 0)) ∧ _
      rw [if_pos hj]
      exact ⟨(hP _ (hap j hj)).2, (b8 j (by omega)).2⟩
    · show (if j < pn c then ap j else 0) < 64
      by_cases z : j < pn c
      · rw [if_pos z]; have := hap j z; omega
      · rw [if_neg z]; omega
  unfold p_X6_tryCell
  intro y1 e1
  rw [bx_one (by omega), bx_one (by omega)] at e1
  have e1b : y1 = nI (2 ^ (2 ^ pn c) - 1) := by
    rw [e1]
    exact pk_sub (a := 2 ^ (2 ^ pn c)) (b := 1) hpos
  rw [e1b]
  unfold p_X6_tryCell_15
  refine ⟨fun x6 x7 => ∃ v : Nat, x7 = nI v ∧ x6 = nI (mk v (fun v => (tr c).testBit (pnG (pn c) s t v))) ∧ v ≤ 2 ^ pn c, fun _ x7 => 2 ^ pn c - x7.toNatClampNeg, ⟨0, rfl, rfl, Nat.zero_le _⟩, ?_⟩
  rintro x6 x7 ⟨v, rfl, rfl, hv⟩
  unfold b_X6_tryCell_15
  rw [bx_one (by omega)]
  refine c2 (nI_leI (by omega) (by omega)) (fun z => ?_) (fun z => ?_)
  · have ev : v = 2 ^ pn c := by omega
    have eg : mk v (fun v => (tr c).testBit (pnG (pn c) s t v)) = agG (pn c) (tr c) s t := by rw [ev]; rfl
    rw [eg]
    have hgl : agG (pn c) (tr c) s t < 256 := Nat.lt_of_lt_of_le (mk_lt _ _) h256
    have hcomp : (nI f ^^^ (-1 : Int32)) &&& nI (2 ^ (2 ^ pn c) - 1) = nI (f ^^^ (2 ^ (2 ^ pn c) - 1)) := by
      rw [bx_all, bx_xor, bx_and]
      refine congrArg nI ?_
      apply Nat.eq_of_testBit_eq
      intro i
      rw [Nat.testBit_and, Nat.testBit_xor, Nat.testBit_xor, Nat.testBit_two_pow_sub_one, Nat.testBit_two_pow_sub_one]
      by_cases w : i < 2 ^ pn c
      · rw [decide_eq_true w, decide_eq_true (show i < 32 by omega)]; simp
      · rw [decide_eq_false w, Nat.testBit_lt_two_pow (Nat.lt_of_lt_of_le hf (Nat.pow_le_pow_right (by decide) (by omega)))]; simp
    have hxl : f ^^^ (2 ^ (2 ^ pn c) - 1) < 256 := Nat.lt_of_lt_of_le (Nat.xor_lt_two_pow hf (by omega)) h256
    -- the turned literal
    have sec : ∀ (M6 : MS) (x0' : Nat), rsE M6 = rsE M → mO2 M M6 n → mNm M6 K pn (2 * n) x0' → gN (T + 1000) x0' → mn (fun y => O0 y ∨ (agG (pn c) (tr c) s t = f ∧ y = ofv P de c (pn c) ap)) x0' → mNm M6 K pn (2 * n + 1) x1 → p_X6_tryCell_61 M6 (nI n) (nI c) (nI (pn c)) (nI f) (nI (2 ^ (2 ^ pn c) - 1)) (nI (agG (pn c) (tr c) s t)) post := by
      intro M6 x0' q1 q2 q3 q4 q5 q6
      unfold p_X6_tryCell_61
      rw [hcomp]
      refine c2n (nI_eq (by omega) (by omega)) (fun w => ?_) (fun w => ?_)
      · exact hpost M6 x0' x1 q1 q2 q3 q4 q5 q6 hg1 (mn_cg (fun y => ⟨Or.inl, fun h => h.elim id (fun g => absurd g.1 w)⟩) hm1)
      · rw [k2, pk_mul, nI_1]
        refine r_enter (rsE_Sh q1 hS) hc (by omega) (hTD' M6 q1) hT q6 hg1 ?_
        intro M5 r1 r2 r3 r4
        refine hpost M5 x0' _ (r1.trans q1) (mO2_tr q2 ⟨fun j _ hj2 => r3 j hj2, fun j hj => r4 j (by omega)⟩) (mNm_same q3 (r3 _ (by omega)).1 (r3 _ (by omega)).2 (fun q hq => r4 _ (by omega))) q4 q5 r2 (gN_min hg1 hofg) (mn_cg (fun y => ?_) (mn_add hm1))
        exact ⟨fun h => h.imp id (fun g => ⟨w, g⟩), fun h => h.imp id (fun g => g.2)⟩
    refine c2n (nI_eq (by omega) (by omega)) (fun w => ?_) (fun w => ?_)
    · exact sec M x0 rfl (mO2_rf M n) hx0 hg0 (mn_cg (fun y => ⟨Or.inl, fun h => h.elim id (fun g => absurd g.1 w)⟩) hm0) hx1
    · rw [k2, pk_mul]
      refine r_enter hS hc (by omega) (hTD' M rfl) hT hx0 hg0 ?_
      intro M6 r1 r2 r3 r4
      refine sec M6 _ r1 ⟨fun j hj _ => r3 j hj, fun j hj => r4 j (by omega)⟩ r2 (gN_min hg0 hofg) (mn_cg (fun y => ?_) (mn_add hm0)) (mNm_same hx1 (r3 _ (by omega)).1 (r3 _ (by omega)).2 (fun q hq => r4 _ (by omega)))
      exact ⟨fun h => h.imp id (fun g => ⟨w, g⟩), fun h => h.imp id (fun g => g.2)⟩
  · refine r_comes (by omega) (by omega) b5 (by omega) (fun i hi => ⟨(hLE i hi).1, by have := (hLE i hi).2; omega⟩) hinj hTD (by omega) ?_
    intro y9 e9 y10 e10
    rw [bI_shl (by omega), bx_or, mk_or v (fun v => (tr c).testBit (pnG (pn c) s t v))] at e9
    exact ⟨⟨v + 1, by rw [e10, nI_1], e9, by omega⟩, mu_up e10 (by omega) (by omega)⟩
end MT
