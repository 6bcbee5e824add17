/-! 34 SHELF: the class's cells and their arrangements -/
def orN (k : Nat) : Nat := [0, 1, 2, 1, 0, 2, 0, 2, 1, 2, 0, 1, 1, 2, 0, 2, 1, 0].getD k 0
def ocN (p : Nat) : Nat := [0, 1, 2, 6].getD p 0
/-- how many arrangements, by pins -/
def cnt (p : Nat) : Nat := ocN p * 2 ^ p
/-- the leaf at pin q by arrangement i -/
def lfA (p i q : Nat) : Nat := orN ((i / 2 ^ p) * 3 + q)
/-- what stands at the pins when the leaves have the bits of v -/
def pnV (p i v : Nat) : Nat := mk p (fun q => v.testBit (lfA p i q) ^^ i.testBit q)
def agT (p t i : Nat) : Nat := mk (2 ^ p) (fun v => t.testBit (pnV p i v))
theorem tOR_N : ∀ k, k < 18 → tOR k = nI (orN k) := by decide +kernel
theorem tOC_N : ∀ p, p < 4 → tOC p = nI (ocN p) := by decide +kernel
theorem orN_lt : ∀ k, k < 18 → orN k < 3 := by decide +kernel
theorem cnt_le : ∀ p, p < 4 → cnt p ≤ 48 := by decide +kernel
theorem ix_lt : ∀ p, p < 4 → ∀ i, i < cnt p → i / 2 ^ p ≤ 5 := by decide +kernel
theorem bx_sbit {a k : Nat} (ha : a < 2 ^ 31) (hk : k < 32) : (nI a >>> (nI k &&& 31)) &&& (1 : Int32) = bI (a.testBit k) := by
  rw [bx_shr ha hk, bx_1]
  unfold bI
  refine congrArg nI ?_
  rw [Nat.testBit_eq_decide_div_mod_eq]
  by_cases h : a / 2 ^ k % 2 = 1
  · rw [h]; rfl
  · have h0 : a / 2 ^ k % 2 = 0 := by omega
    rw [h0]; rfl
theorem bI_xor (a b : Bool) : bI a ^^^ bI b = bI (a ^^ b) := by cases a <;> cases b <;> decide
theorem bI_shl {b : Bool} {k : Nat} (hk : k < 31) : bI b <<< (nI k &&& 31) = nI (b.toNat * 2 ^ k) := by
  have h1 := Bool.toNat_le b
  have h2 := Nat.pow_lt_pow_right (show 1 < 2 by decide) (show k < 32 by omega)
  have h3 : b.toNat * 2 ^ k ≤ 1 * 2 ^ k := Nat.mul_le_mul_right _ h1
  unfold bI
  exact bx_shl (by omega) (by omega)
theorem pnV_lt {p i v : Nat} (h : p ≤ 3) : pnV p i v < 8 := Nat.lt_of_lt_of_le (mk_lt _ _) (p2_3 h)
theorem agT_lt {p t i : Nat} (h : p ≤ 3) : agT p t i < 256 := Nat.lt_of_lt_of_le (mk_lt _ _) (p22_3 h)
section SH
variable {S : CS} {c p t i : Nat}
theorem q_leafAt {q : Nat} {post : Int32 → Prop} (hc : c < 12) (hpi : cPI S c = nI p) (hp : p < 4) (hi : i < cnt p) (hq : q < 3) (h : post (nI (lfA p i q))) : p_X3_leafAt S (nI c) (nI i) (nI q) post := by
  have h5 := ix_lt p hp i hi
  have h48 := cnt_le p hp
  have k3 : (3 : Int32) = nI 3 := rfl
  unfold p_X3_leafAt
  rw [bx_cl (show c < 2 ^ 31 by omega), hpi, bx_shr (by omega) (by omega), k3, pk_mul, nI_add, bx_cl (by omega), tOR_N _ (by omega)]
  exact ⟨bx_in (by omega) (by omega), bx_in (by omega) (by omega), h⟩
theorem q_turnAt {q : Nat} {post : Int32 → Prop} (hi : i < 2 ^ 31) (hq : q < 3) (h : post (bI (i.testBit q))) : p_X3_turnAt S (nI i) (nI q) post := by
  unfold p_X3_turnAt
  rw [bx_sbit hi (by omega)]
  exact h
theorem q_arrangementCount {post : Int32 → Prop} (hc : c < 12) (hpi : cPI S c = nI p) (hp : p < 4) (h : post (nI (cnt p))) : p_X3_arrangementCount S (nI c) post := by
  have h48 := cnt_le p hp
  unfold cnt at h48 h
  unfold p_X3_arrangementCount
  rw [bx_cl (show c < 2 ^ 31 by omega), hpi, bx_cl (show p < 2 ^ 31 by omega), tOC_N p hp, bx_shl (by omega) (by omega)]
  exact ⟨bx_in (by omega) (by omega), bx_in (by omega) (by omega), bx_in (by omega) (by omega), h⟩
theorem q_arrange {post : Int32 → Prop} (hc : c < 12) (hpi : cPI S c = nI p) (hp : p < 4) (htr : cTR S c = nI t) (ht : t < 256) (hi : i < cnt p) (h : post (nI (agT p t i))) : p_X3_arrange S (nI c) (nI i) post := by
  have h48 := cnt_le p hp
  have h8 := p2_3 (show p ≤ 3 by omega)
  unfold p_X3_arrange p_X3_arrange_5
  refine ⟨fun x3 x4 => ∃ v : Nat, x4 = nI v ∧ x3 = nI (mk v (fun v => t.testBit (pnV p i v))) ∧ v ≤ 2 ^ p, fun _ x4 => 2 ^ p - x4.toNatClampNeg, ⟨0, rfl, rfl, Nat.zero_le _⟩, ?_⟩
  rintro x3 x4 ⟨v, rfl, rfl, hv⟩
  unfold b_X3_arrange_5
  rw [bx_cl (show c < 2 ^ 31 by omega), hpi, bx_one (by omega)]
  refine ⟨bx_in (by omega) (by omega), ?_⟩
  refine c2 (nI_leI (by omega) (by omega)) (fun z => ?_) (fun z => ?_)
  · have e : v = 2 ^ p := by omega
    unfold agT at h
    rw [← e] at h
    exact h
  · unfold p_X3_arrange_24
    refine ⟨fun x5 x6 => ∃ q : Nat, x6 = nI q ∧ x5 = nI (mk q (fun q => v.testBit (lfA p i q) ^^ i.testBit q)) ∧ q ≤ p, fun _ x6 => p - x6.toNatClampNeg, ⟨0, rfl, rfl, Nat.zero_le _⟩, ?_⟩
    rintro x5 x6 ⟨q, rfl, rfl, hq⟩
    unfold b_X3_arrange_24
    rw [bx_cl (show c < 2 ^ 31 by omega), hpi, htr]
    refine ⟨bx_in (by omega) (by omega), ?_⟩
    refine c2 (nI_leI (by omega) (by omega)) (fun y => ?_) (fun y => ?_)
    · have e : q = p := by omega
      refine ⟨bx_in (by omega) (by omega), ?_⟩
      intro y6 e6 y7 e7
      have hlt := pnV_lt (p := p) (i := i) (v := v) (by omega)
      have ep : mk q (fun q => v.testBit (lfA p i q) ^^ i.testBit q) = pnV p i v := by rw [e]; rfl
      rw [ep, bx_sbit (by omega) (by omega), bI_shl (by omega), bx_or, mk_or v (fun v => t.testBit (pnV p i v))] at e6
      exact ⟨⟨v + 1, by rw [e7, nI_1], e6, by omega⟩, mu_up e7 (by omega) (by omega)⟩
    · refine q_leafAt hc hpi hp hi (by omega) ?_
      intro y10 e10
      have hl : lfA p i q < 3 := by
        have := ix_lt p hp i hi
        unfold lfA
        exact orN_lt _ (by omega)
      rw [bx_sbit (by omega) (by omega)] at e10
      refine q_turnAt (by omega) (by omega) ?_
      intro y13 e13 y14 e14
      rw [e10, bI_xor, bI_shl (by omega), bx_or, mk_or q (fun q => v.testBit (lfA p i q) ^^ i.testBit q)] at e13
      exact ⟨⟨q + 1, by rw [e14, nI_1], e13, by omega⟩, mu_up e14 (by omega) (by omega)⟩
end SH
/-- the class's cells -/
def cSh (S : CS) (K : Nat) (pn tr ar de : Nat → Nat) : Prop :=
  cCC S = nI K ∧ K ≤ 12 ∧ ∀ c, c < K → (1 ≤ pn c ∧ pn c < 4 ∧ tr c < 2 ^ (2 ^ pn c)) ∧ cPI S c = nI (pn c) ∧ cTR S c = nI (tr c) ∧ cAR S c = nI (ar c) ∧ (1 ≤ ar c ∧ ar c ≤ 1000) ∧ (∀ q, q < 3 → cDE S (3 * c + q) = nI (de (3 * c + q)) ∧ de (3 * c + q) ≤ 1000) ∧ ∀ i, i < cnt (pn c) → cAG S (48 * c + i) = nI (agT (pn c) (tr c) i)
