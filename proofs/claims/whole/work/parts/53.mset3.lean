/-! 53 MSET3: the loop over the nodes -/
section MS3
variable {M0 : MS} {K N : Nat} {pn tr ar de : Nat → Nat} {ip : Nat → Bool} {il ir : Nat → Nat} {ct : Nat → List Nat} {tmn : Nat → Nat} {post : MS → Prop}
theorem r_set3 (hS : mSh M0 K pn tr ar de) (hG : mG M0 ip il ir N) (hND : mND M0 = nI N) (hct : ∀ k, k < N → ip k = false → isCuts ip (hf il) (hf ir) k (ct k)) (htm : ∀ k, k < N → tmn k ≤ 1000) (hAO : ∀ n, n < N → ip n = false → ∃ a, a < 24 ∧ mAO M0 n = nI a ∧ mL M0 a (ct n) ∧ (ct n).length ≤ 4991)
    (hclr : ∀ l, l < 2 * N → mClr M0 ip tmn l)
    (hp : ∀ M' P P1, rsC M' = rsC M0 → mSL M' = mSL M0 → (∀ l, l < 2 * N → mGt M' K pn ip l (P l) ∧ gN (2000 * N) (P l)) → setSp K pn tr de P P1 ip il ir ct tmn N → post M') : p_X6_settle_109 M0 (0 : Int32) post := by
  have hN := hG.1
  have k2 : (2 : Int32) = nI 2 := rfl
  unfold p_X6_settle_109
  refine ⟨fun M x1 => ∃ (i : Nat) (P P1 : Nat → Nat), x1 = nI i ∧ i ≤ N ∧ rsC M = rsC M0 ∧ mSL M = mSL M0 ∧ (∀ l, l < 2 * i → mGt M K pn ip l (P l) ∧ gN (2000 * i) (P l)) ∧ (∀ l, 2 * i ≤ l → l < 2 * N → mClr M ip tmn l) ∧ setSp K pn tr de P P1 ip il ir ct tmn i, fun _ x1 => N - x1.toNatClampNeg, ⟨0, fun _ => 0, fun _ => 0, rfl, by omega, rfl, rfl, fun l hl => absurd hl (by omega), fun l _ hl => hclr l hl, fun k hk => absurd hk (by omega)⟩, ?_⟩
  rintro M x1 ⟨i, P, P1, rfl, hi, a1, a2, a3, a4, a5⟩
  obtain ⟨_, q2, _, _, _, _, _, _, _, _, _, _, _, _, _, q16, q17, q18⟩ := rsC_of a1
  have hGM := rsC_G a1 hG
  have hSM := rsC_Sh a1 hS
  unfold b_X6_settle_109
  rw [q2, hND]
  refine c2 (nI_leI (by omega) (by omega)) (fun y => ?_) (fun y => ?_)
  · have e : i = N := by omega
    subst e
    exact hp M P P1 a1 a2 a3 a5
  · have hiN : i < N := by omega
    obtain ⟨c01, c02, c03, c04⟩ := a4 (2 * i) (by omega) (by omega)
    obtain ⟨c11, c12, c13, c14⟩ := a4 (2 * i + 1) (by omega) (by omega)
    have m0 : 2 * i % 2 = 0 := by omega
    have m1 : ¬ (2 * i + 1) % 2 = 0 := by omega
    have d0 : 2 * i / 2 = i := by omega
    have d1 : (2 * i + 1) / 2 = i := by omega
    have tIp : tI tp = (-1 : Int32) := if_pos rfl
    refine r_isInput hGM hiN ?_
    sorry
end MS3
