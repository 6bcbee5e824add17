/-! 42 MCOMES: what comes by a try of the reference -/
/-- the reference's cells -/
def mSh (M : MS) (K : Nat) (pn tr ar de : Nat → Nat) : Prop :=
  mCE M = nI K ∧ K ≤ 12 ∧ ∀ c, c < K → (1 ≤ pn c ∧ pn c < 4 ∧ tr c < 2 ^ (2 ^ pn c)) ∧ mPI M c = nI (pn c) ∧ mTR M c = nI (tr c) ∧ mAR M c = nI (ar c) ∧ (1 ≤ ar c ∧ ar c ≤ 1000) ∧ ∀ q, q < 3 → mDE M (3 * c + q) = nI (de (3 * c + q)) ∧ de (3 * c + q) ≤ 1000
/-- pins' values when leaf s q is at pin q, turned if t q -/
def pnG (p : Nat) (s : Nat → Nat) (t : Nat → Bool) (v : Nat) : Nat := mk p (fun q => v.testBit (s q) ^^ t q)
def agG (p tt : Nat) (s : Nat → Nat) (t : Nat → Bool) : Nat := mk (2 ^ p) (fun v => tt.testBit (pnG p s t v))
theorem two_b (a : Nat) (b : Bool) : (2 * a + b.toNat) / 2 = a ∧ (2 * a + b.toNat).testBit 0 = b := by
  have h := Bool.toNat_le b
  refine ⟨by omega, ?_⟩
  rw [tb_0]
  cases b with
  | true => have : (2 * a + true.toNat) % 2 = 1 := by show (2 * a + 1) % 2 = 1; omega
            rw [this]; rfl
  | false => have : (2 * a + false.toNat) % 2 = 0 := by show (2 * a + 0) % 2 = 0; omega
             rw [this]; rfl
section CM
variable {M : MS} {c p tt v : Nat} {lf s : Nat → Nat} {t : Nat → Bool} {post : Int32 → Prop}
theorem r_comes (hc : c < 12) (hp : p ≤ 3) (hTR : mTR M c = nI tt) (htt : tt < 256) (hLE : ∀ i, i < p → mLE M i = nI (lf i) ∧ lf i < 32) (hinj : ∀ i j, i < p → j < p → lf i = lf j → i = j) (hTD : ∀ k, k < p → mTD M k = nI (2 * lf (s k) + (t k).toNat) ∧ s k < p) (hv : v < 8)
    (h : post (bI (tt.testBit (pnG p s t v)))) : p_X6_comes M (nI c) (nI p) (nI v) post := by
  have h8 := p2_3 hp
  have hpl : pnG p s t v < 8 := Nat.lt_of_lt_of_le (mk_lt _ _) h8
  unfold p_X6_comes p_X6_comes_6
  refine ⟨fun x4 x5 => ∃ q : Nat, x5 = nI q ∧ x4 = nI (mk q (fun q => v.testBit (s q) ^^ t q)) ∧ q ≤ p, fun _ x5 => p - x5.toNatClampNeg, ⟨0, rfl, rfl, Nat.zero_le _⟩, ?_⟩
  rintro x4 x5 ⟨q, rfl, rfl, hq⟩
  unfold b_X6_comes_6
  refine c2 (nI_leI (by omega) (by omega)) (fun z => ?_) (fun z => ?_)
  · have e : q = p := by omega
    have ep : mk q (fun q => v.testBit (s q) ^^ t q) = pnG p s t v := by rw [e]; rfl
    rw [bx_cl (show c < 2 ^ 31 by omega), hTR, ep, bx_sbit (by omega) (by omega)]
    exact ⟨bx_in (by omega) (by omega), h⟩
  · obtain ⟨d1, d2⟩ := hTD q (by omega)
    obtain ⟨l1, l2⟩ := hLE (s q) d2
    have hb := Bool.toNat_le (t q)
    obtain ⟨w1, w2⟩ := two_b (lf (s q)) (t q)
    have k2 : (2 : Int32) = nI 2 := rfl
    unfold p_X6_comes_18
    refine ⟨fun x6 x7 => ∃ (i : Nat), x7 = nI i ∧ i ≤ p ∧ x6 = bI (decide (s q < i) && v.testBit (s q)), fun _ x7 => p - x7.toNatClampNeg, ⟨0, rfl, Nat.zero_le _, rfl⟩, ?_⟩
    rintro x6 x7 ⟨i, rfl, hi, rfl⟩
    unfold b_X6_comes_18
    refine c2 (nI_leI (by omega) (by omega)) (fun y => ?_) (fun y => ?_)
    · have hsi : s q < i := by omega
      rw [decide_eq_true hsi, Bool.true_and, bx_cl (show q < 2 ^ 31 by omega), d1]
      refine ⟨bx_in (by omega) (by omega), ?_⟩
      refine r_turn ?_
      rw [w2]
      intro y7 e7 y8 e8
      rw [bI_shl (by omega), bx_or, mk_or q (fun q => v.testBit (s q) ^^ t q)] at e7
      exact ⟨⟨q + 1, by rw [e8, nI_1], e7, by omega⟩, mu_up e8 (by omega) (by omega)⟩
    · obtain ⟨m1, m2⟩ := hLE i (by omega)
      rw [bx_cl (show i < 2 ^ 31 by omega), bx_cl (show q < 2 ^ 31 by omega), d1, m1, k2, pk_div (by omega) (by omega) (by omega), w1]
      refine ⟨bx_in (by omega) (by omega), bx_in (by omega) (by omega), ?_⟩
      refine c2n (nI_eq (by omega) (by omega)) (fun w => ?_) (fun w => ?_)
      · have hne : s q ≠ i := fun e => w (by rw [e])
        intro y12 e12
        refine ⟨⟨i + 1, by rw [e12, nI_1], by omega, ?_⟩, mu_up e12 (by omega) (by omega)⟩
        by_cases u : s q < i
        · rw [decide_eq_true u, decide_eq_true (show s q < i + 1 by omega)]
        · rw [decide_eq_false u, decide_eq_false (show ¬ s q < i + 1 by omega)]
      · have he : i = s q := hinj i (s q) (by omega) d2 w
        intro y13 e13 y14 e14
        rw [bx_sbit (by omega) (by omega)] at e13
        refine ⟨⟨i + 1, by rw [e14, nI_1], by omega, ?_⟩, mu_up e14 (by omega) (by omega)⟩
        rw [e13, decide_eq_true (show s q < i + 1 by omega), Bool.true_and, he]
end CM
/-! arrangements and codes: the same tries -/
def cdE (p : Nat) : Nat := if p = 1 then 2 else if p = 2 then 16 else 216
/-- digit q of a code, by pins -/
def cdD (p code q : Nat) : Nat := code / (2 * p) ^ q % (2 * p)
/-- leaves at the pins are all other -/
def cdO (p code : Nat) : Bool := (decide (p < 2) || decide (cdD p code 0 / 2 ≠ cdD p code 1 / 2)) && (decide (p < 3) || (decide (cdD p code 2 / 2 ≠ cdD p code 0 / 2) && decide (cdD p code 2 / 2 ≠ cdD p code 1 / 2)))
theorem cd_of : ∀ p, p < 4 → 1 ≤ p → ∀ i, i < cnt p → ∃ code, code < cdE p ∧ cdO p code = true ∧ ∀ q, q < p → lfA p i q = cdD p code q / 2 ∧ i.testBit q = (cdD p code q).testBit 0 := by decide +kernel
def cdF (p code i : Nat) : Bool := (List.range p).all (fun q => decide (lfA p i q = cdD p code q / 2) && (i.testBit q == (cdD p code q).testBit 0))
theorem of_cd0 : ∀ p, p < 4 → 1 ≤ p → ∀ code, code < cdE p → (!cdO p code || (List.range (cnt p)).any (cdF p code)) = true := by decide +kernel
theorem of_cd {p : Nat} (hp : p < 4) (h1 : 1 ≤ p) {code : Nat} (hc : code < cdE p) (ho : cdO p code = true) : ∃ i, i < cnt p ∧ ∀ q, q < p → lfA p i q = cdD p code q / 2 ∧ i.testBit q = (cdD p code q).testBit 0 := by
  have h := of_cd0 p hp h1 code hc
  rw [ho] at h
  have h2 : (List.range (cnt p)).any (cdF p code) = true := h
  rw [List.any_eq_true] at h2
  obtain ⟨i, hi, hf⟩ := h2
  unfold cdF at hf
  rw [List.all_eq_true] at hf
  refine ⟨i, List.mem_range.1 hi, fun q hq => ?_⟩
  have h3 := hf q (List.mem_range.2 hq)
  rw [Bool.and_eq_true, decide_eq_true_eq, beq_iff_eq] at h3
  exact h3
