/-! 60 CWANT: the class's firstOutputNotArriving and wantedLiterals -/
section CW
variable {S : CS} {K N O : Nat} {pn tr ar de P ol : Nat → Nat} {ip : Nat → Bool} {il ir : Nat → Nat}
/-- the class's outputs -/
def cOu (S : CS) (N O : Nat) (ol : Nat → Nat) : Prop := O ≤ 6 ∧ cOC S = nI O ∧ ∀ j, j < O → cOL S j = nI (ol j) ∧ ol j < 2 * N
theorem q_fona {post : Int32 → Prop} (hN : N ≤ 32) (hO : cOu S N O ol) (hS : cGt S N P)
    (hp1 : ∀ k, k < O → P (ol k) = tp → (∀ j, j < k → P (ol j) ≠ tp) → post (nI k)) (hp : (∀ j, j < O → P (ol j) ≠ tp) → post (-1 : Int32)) : p_X5_firstOutputNotArriving S post := by
  obtain ⟨hO6, hOC, hOL⟩ := hO
  unfold p_X5_firstOutputNotArriving p_X5_firstOutputNotArriving_2
  refine ⟨fun x1 => ∃ k, x1 = nI k ∧ k ≤ O ∧ ∀ j, j < k → P (ol j) ≠ tp, fun x1 => O - x1.toNatClampNeg, ⟨0, rfl, by omega, fun j hj => absurd hj (by omega)⟩, ?_⟩
  rintro x1 ⟨k, rfl, hk, hj⟩
  unfold b_X5_firstOutputNotArriving_2
  rw [hOC]
  refine c2 (nI_leI (by omega) (by omega)) (fun y => ?_) (fun y => ?_)
  · have : k = O := by omega
    subst this
    exact hp hj
  · obtain ⟨o1, o2⟩ := hOL k (by omega)
    rw [bx_cl (show k < 2 ^ 31 by omega), o1]
    refine ⟨bx_in (by omega) (by omega), ?_⟩
    refine q_isThere (by omega) (hS _ o2).1 (hS _ o2).2 (by omega) ?_
    refine c2n (bI_0 _) (fun z => ?_) (fun z => ?_)
    · rw [Bool.not_eq_false, decide_eq_true_iff] at z
      intro y6 e6
      refine ⟨⟨k + 1, by rw [e6, nI_1], by omega, fun j hj' => ?_⟩, mu_up e6 (by omega) (by omega)⟩
      by_cases ej : j = k
      · rw [ej]; exact z
      · exact hj j (by omega)
    · rw [decide_eq_false_iff_not, Classical.not_not] at z
      exact hp1 k (by omega) z hj
theorem q_wantedLiterals {post : Int64 → Prop} (hG : cG S ip il ir N) (hNC : cNC S = nI N) (hO : cOu S N O ol) (hS : cGt S N P) (hh : cSh S K pn tr ar de) (hg : gSt N K pn ip P)
    (hp1 : ∀ k, k < O → P (ol k) = tp → (∀ j, j < k → P (ol j) ≠ tp) → post (lN 0))
    (hp : ∀ w, (∀ j, j < O → P (ol j) ≠ tp) → w < 2 ^ 64 → (∀ l, w.testBit l = true ↔ Wt (outA O ol) ip pn P l) → post (lN w)) : p_X5_wantedLiterals S post := by
  have hN := hG.1
  obtain ⟨hO6, hOC, hOL⟩ := id hO
  unfold p_X5_wantedLiterals
  refine q_fona hN hO hS (fun k hk a b => ⟨fun r => absurd r (nI_m1 (by omega)), fun _ => hp1 k hk a b⟩) (fun a => ⟨fun _ => ?_, fun r => absurd rfl r⟩)
  unfold p_X5_wantedLiterals_14
  refine ⟨fun x1 x3 => ∃ w k : Nat, x1 = lN w ∧ x3 = nI k ∧ k ≤ O ∧ w < 2 ^ 64 ∧ ∀ l, w.testBit l = true ↔ outA k ol l, fun _ x3 => O - x3.toNatClampNeg, ⟨0, 0, rfl, rfl, by omega, by decide, fun l => ⟨fun q => absurd q (by rw [Nat.zero_testBit]; decide), fun ⟨j, b, _⟩ => absurd b (by omega)⟩⟩, ?_⟩
  rintro x1 x3 ⟨w, k, rfl, rfl, hk, hw, hA⟩
  unfold b_X5_wantedLiterals_14
  rw [hOC]
  refine c2 (nI_leI (by omega) (by omega)) (fun y => ?_) (fun y => ?_)
  · have : k = O := by omega
    subst this
    exact q_wantedFor hG hNC hS hh hg hw hA (fun l ⟨j, b, e⟩ => by rw [← e]; exact (hOL j b).2) (fun w' h1 h2 => hp w' a h1 h2)
  · obtain ⟨o1, o2⟩ := hOL k (by omega)
    rw [bx_cl (show k < 2 ^ 31 by omega), o1]
    refine ⟨bx_in (by omega) (by omega), ?_⟩
    intro y8 e8 y9 e9
    rw [lx_one (show ol k < 64 by omega), lx_or] at e8
    refine ⟨⟨w ||| 2 ^ ol k, k + 1, e8, by rw [e9, nI_1], by omega, Nat.or_lt_two_pow hw (p2_64 (by omega)), fun l => ?_⟩, mu_up e9 (by omega) (by omega)⟩
    rw [or2_bit, hA l]
    constructor
    · rintro (⟨j, b, e⟩ | e)
      · exact ⟨j, by omega, e⟩
      · exact ⟨k, by omega, e⟩
    · rintro ⟨j, b, e⟩
      by_cases ej : j = k
      · rw [ej] at e; exact Or.inr e
      · exact Or.inl ⟨j, by omega, e⟩
end CW
