/-! 63 VALUE: value of both sides -/
def vv (ip : Nat → Bool) (il ir nb : Nat → Nat) (a k : Nat) : Bool :=
  if ip k then a.testBit (nb k) else (if h : il k / 2 < k ∧ ir k / 2 < k then (vv ip il ir nb a (il k / 2) ^^ (il k).testBit 0) && (vv ip il ir nb a (ir k / 2) ^^ (ir k).testBit 0) else false)
termination_by k
decreasing_by
  · exact h.1
  · exact h.2
theorem bx_par (y : Int32) : y.toBitVec.toNat % 2 = (y.toInt % 2).toNat := by
  have h : y.toInt = y.toBitVec.toInt := rfl
  rw [h, BitVec.toInt_eq_toNat_cond]
  split <;> omega
theorem bx_sbit32 {a k : Nat} (ha : a < 2 ^ 32) (hk : k < 8) : (nI a >>> (nI k &&& 31)) &&& (1 : Int32) = bI (a.testBit k) := by
  have h := pk_shr (nI a) (nI k &&& 31) k (bs_l k (by omega))
  rw [pk_and _ (m := 1) 1 (by decide)]
  unfold bI
  refine congrArg nI ?_
  rw [Nat.toNat_testBit, Nat.pow_one, bx_par, h, Int.shiftRight_eq_div_pow]
  have t : (nI a).toInt = (nI a).toBitVec.toInt := rfl
  rw [t, BitVec.toInt_eq_toNat_cond, pk_tn ha]
  have hc : k = 0 ∨ k = 1 ∨ k = 2 ∨ k = 3 ∨ k = 4 ∨ k = 5 ∨ k = 6 ∨ k = 7 := by omega
  rcases hc with e | e | e | e | e | e | e | e <;> subst e <;> split <;> omega
section VA
variable {S : CS} {M : MS} {N I : Nat} {ip : Nat → Bool} {il ir nb inN : Nat → Nat} {a k l : Nat} {post : Int32 → Prop}
theorem vv_inp (h : ip k = true) : vv ip il ir nb a k = a.testBit (nb k) := by rw [vv, if_pos h]
theorem vv_and (h : ip k = false) (hg : il k / 2 < k ∧ ir k / 2 < k) : vv ip il ir nb a k = ((vv ip il ir nb a (il k / 2) ^^ (il k).testBit 0) && (vv ip il ir nb a (ir k / 2) ^^ (ir k).testBit 0)) := by
  rw [vv, if_neg (by rw [h]; decide), dif_pos hg]
/-- the inputs of both sides -/
def cIp (S : CS) (N I : Nat) (ip : Nat → Bool) (nb : Nat → Nat) : Prop := I ≤ 8 ∧ ∀ k, k < N → ip k = true → cIN S k = nI (nb k) ∧ nb k < I
theorem q_inputValue (h : cIp S N I ip nb) (hN : N ≤ 32) (hk : k < N) (hi : ip k = true) (ha : a < 2 ^ 32) (hp : post (bI (a.testBit (nb k)))) : p_X2_inputValue S (nI k) (nI a) post := by
  obtain ⟨h1, h2⟩ := h
  obtain ⟨h3, h4⟩ := h2 k hk hi
  unfold p_X2_inputValue
  rw [bx_cl (show k < 2 ^ 31 by omega), h3, bx_bit ha (by omega)]
  exact ⟨bx_in (by omega) (by omega), hp⟩
theorem q_read {v : Nat} (hv : v < 2 ^ 32) (hl : l < 64) (hp : post (bI (v.testBit (l / 2) ^^ l.testBit 0))) : p_X2_read S (nI v) (nI l) post := by
  unfold p_X2_read
  rw [bx_half (by omega), bx_ushr hv (by omega), bx_xor, bx_1]
  have e : (v / 2 ^ (l / 2) ^^^ l) % 2 = (v.testBit (l / 2) ^^ l.testBit 0).toNat := by
    rw [← tb_mod, Nat.testBit_xor, Nat.testBit_div_two_pow]
    rw [Nat.zero_add]
  rw [e]
  exact hp
theorem q_evaluate (hG : cG S ip il ir N) (hI : cIp S N I ip nb) (hl : l < 2 * N) (ha : a < 2 ^ 32) (hp : post (bI (vv ip il ir nb a (l / 2) ^^ l.testBit 0))) : p_X2_evaluate S (nI l) (nI a) post := by
  have hN := hG.1
  unfold p_X2_evaluate p_X2_evaluate_5
  refine ⟨fun x3 x4 => ∃ n, x3 = nI (mk n (vv ip il ir nb a)) ∧ x4 = nI n ∧ n ≤ l / 2 + 1, fun _ x4 => (l / 2 + 1) - x4.toNatClampNeg, ⟨0, rfl, rfl, by omega⟩, ?_⟩
  rintro x3 x4 ⟨n, rfl, rfl, hn⟩
  have hm : mk n (vv ip il ir nb a) < 2 ^ 32 := Nat.lt_of_lt_of_le (mk_lt _ _) (Nat.pow_le_pow_right (by omega) (by omega))
  unfold b_X2_evaluate_5
  rw [bx_half (by omega)]
  refine c2 (nI_ltI (by omega) (by omega)) (fun z => ?_) (fun z => ?_)
  · have : n = l / 2 + 1 := by omega
    subst this
    refine q_read hm (by omega) ?_
    rw [mk_bit, decide_eq_true (by omega), Bool.true_and]
    exact hp
  · have nxt : ∀ (t0 y13 y14 : Int32), t0 = bI (vv ip il ir nb a n) → y13 = (nI (mk n (vv ip il ir nb a)) ||| (t0 <<< (nI n &&& 31))) → y14 = nI n + (1 : Int32) → (∃ n', y13 = nI (mk n' (vv ip il ir nb a)) ∧ y14 = nI n' ∧ n' ≤ l / 2 + 1) := by
      intro t0 y13 y14 e0 e13 e14
      refine ⟨n + 1, ?_, by rw [e14, nI_1], by omega⟩
      have hb := Bool.toNat_le (vv ip il ir nb a n)
      have hp2 : 2 ^ n < 2 ^ 32 := bx_plt (by omega)
      have hq : (vv ip il ir nb a n).toNat * 2 ^ n < 2 ^ 32 := by
        cases vv ip il ir nb a n
        · show 0 * 2 ^ n < 2 ^ 32
          rw [Nat.zero_mul]; decide
        · show 1 * 2 ^ n < 2 ^ 32
          rw [Nat.one_mul]; exact hp2
      rw [e13, e0]
      unfold bI
      rw [bx_shl (by omega) hq, bx_or, mk_or]
    refine q_isInput hG (by omega) ?_
    refine c2 (bI_0 _) (fun y => ?_) (fun y => ?_)
    · obtain ⟨_, g⟩ := hG.2 n (by omega)
      obtain ⟨_, g2, g3, g4, g5⟩ := g y
      rw [bx_cl (show n < 2 ^ 31 by omega), g2, g3]
      refine ⟨bx_in (by omega) (by omega), q_read hm (by omega) ⟨bx_in (by omega) (by omega), q_read hm (by omega) ?_⟩⟩
      unfold p_X2_evaluate_55
      intro y13 e13 y14 e14
      refine ⟨nxt _ y13 y14 ?_ e13 e14, mu_up e14 (by omega) (by omega)⟩
      rw [bI_and, mk_bit, mk_bit, decide_eq_true (show il n / 2 < n by omega), decide_eq_true (show ir n / 2 < n by omega), Bool.true_and, Bool.true_and, vv_and y (by omega)]
    · rw [Bool.not_eq_false] at y
      refine q_inputValue hI hN (by omega) y ha ?_
      unfold p_X2_evaluate_55
      intro y13 e13 y14 e14
      exact ⟨nxt _ y13 y14 (by rw [vv_inp y]) e13 e14, mu_up e14 (by omega) (by omega)⟩
def mIp (M : MS) (N I : Nat) (ip : Nat → Bool) (nb inN : Nat → Nat) : Prop := I ≤ 8 ∧ mIP M = nI I ∧ (∀ i, i < I → mIN M i = nI (inN i) ∧ inN i < N ∧ ip (inN i) = true ∧ nb (inN i) = i) ∧ ∀ k, k < N → ip k = true → nb k < I ∧ inN (nb k) = k
theorem r_setInputs {pst : MS → Prop} (h : mIp M N I ip nb inN) (hN : N ≤ 32) (ha : a < 2 ^ 32) (hp : ∀ f, (∀ k, k < N → ip k = true → f k = bI (a.testBit (nb k))) → pst (mVA_s M f)) : p_X6_setInputs M (nI a) pst := by
  obtain ⟨h1, h2, h3, h4⟩ := h
  unfold p_X6_setInputs p_X6_setInputs_2
  refine ⟨fun M' x2 => ∃ i f, M' = mVA_s M f ∧ x2 = nI i ∧ i ≤ I ∧ ∀ j, j < i → f (inN j) = bI (a.testBit j), fun _ x2 => I - x2.toNatClampNeg, ⟨0, mVA M, rfl, rfl, by omega, fun j hj => absurd hj (by omega)⟩, ?_⟩
  rintro M' x2 ⟨i, f, eM, rfl, hi, hf⟩
  unfold b_X6_setInputs_2
  rw [show mIP M' = nI I by rw [eM, gs_mIP_VA]; exact h2]
  refine c2 (nI_leI (by omega) (by omega)) (fun z => ?_) (fun z => ?_)
  · have : i = I := by omega
    subst this
    rw [eM]
    refine hp f (fun k hk hik => ?_)
    obtain ⟨b1, b2⟩ := h4 k hk hik
    have := hf (nb k) b1
    rw [b2] at this
    exact this
  · obtain ⟨b1, b2, b3, b4⟩ := h3 i (by omega)
    rw [bx_cl (show i < 2 ^ 31 by omega), show mIN M' = mIN M by rw [eM, gs_mIN_VA], b1, bx_cl (show inN i < 2 ^ 31 by omega), bx_sbit32 ha (by omega)]
    refine ⟨bx_in (by omega) (by omega), bx_in (by omega) (by omega), ?_⟩
    intro M4 e4 y5 e5
    rw [eM, gs_mVA_VA, VA_VA] at e4
    refine ⟨⟨i + 1, _, e4, by rw [e5, nI_1], by omega, fun j hj => ?_⟩, mu_up e5 (by omega) (by omega)⟩
    by_cases ej : inN j = inN i
    · have : j = i := by
        have c := (h3 j (by omega)).2.2.2
        rw [ej, b4] at c
        exact c.symm
      rw [this, pk_us]
    · rw [pk_un ej]
      exact hf j (by
        rcases Nat.lt_or_ge j i with q | q
        · exact q
        · exact absurd (show inN j = inN i by rw [show j = i by omega]) ej)
theorem r_value33 {pst : Int32 → MS → Prop} {f0 : Nat → Int32} (hG : mG M ip il ir N) (hND : mND M = nI N) (hl : l < 2 * N) (hf : ∀ k, k < N → ip k = true → f0 k = bI (a.testBit (nb k)))
    (hp : ∀ f, pst (bI (vv ip il ir nb a (l / 2) ^^ l.testBit 0)) (mVA_s M f)) : p_X6_value_33 (mVA_s M f0) (nI l) (0 : Int32) pst := by
  have hN := hG.1
  have k2 : (2 : Int32) = nI 2 := rfl
  unfold p_X6_value_33
  refine ⟨fun M' x3 => ∃ n f, M' = mVA_s M f ∧ x3 = nI n ∧ n ≤ N ∧ (∀ k, k < N → ip k = true → f k = bI (vv ip il ir nb a k)) ∧ ∀ k, k < n → f k = bI (vv ip il ir nb a k), fun _ x3 => N - x3.toNatClampNeg, ⟨0, f0, rfl, rfl, by omega, fun k hk hi => by rw [hf k hk hi, vv_inp hi], fun k hk => absurd hk (by omega)⟩, ?_⟩
  rintro M' x3 ⟨n, f, eM, rfl, hn, hf1, hf2⟩
  have e1 : mND M' = nI N := by rw [eM, gs_mND_VA]; exact hND
  have e2 : mVA M' = f := by rw [eM, gs_mVA_VA]
  have hG' : mG M' ip il ir N := mG_same hG (by rw [eM, gs_mON_VA]) (by rw [eM, gs_mTW_VA])
  unfold b_X6_value_33
  rw [e1, e2, k2]
  refine c2 (nI_leI (by omega) (by omega)) (fun z => ?_) (fun z => ?_)
  · rw [pk_div (by omega) (by omega) (by omega), bx_cl (show l / 2 < 2 ^ 31 by omega), hf2 (l / 2) (by omega)]
    refine ⟨bx_in (by omega) (by omega), r_turn ?_⟩
    rw [eM]
    exact hp f
  · refine r_isInput hG' (by omega) ?_
    refine c2n (bI_0 _) (fun y => ?_) (fun y => ?_)
    · rw [Bool.not_eq_false] at y
      intro y14 e14
      refine ⟨⟨n + 1, f, eM, by rw [e14, nI_1], by omega, hf1, fun k hk => ?_⟩, mu_up e14 (by omega) (by omega)⟩
      by_cases ek : k = n
      · rw [ek]; exact hf1 n (by omega) y
      · exact hf2 k (by omega)
    · obtain ⟨_, g⟩ := hG'.2 n (by omega)
      obtain ⟨g1, g2, g3, g4⟩ := g y
      rw [bx_cl (show n < 2 ^ 31 by omega), g1, g2, pk_div (by omega) (by omega) (by omega), pk_div (by omega) (by omega) (by omega), bx_cl (show il n / 2 < 2 ^ 31 by omega), bx_cl (show ir n / 2 < 2 ^ 31 by omega), hf2 _ (show il n / 2 < n by omega), hf2 _ (show ir n / 2 < n by omega)]
      refine ⟨bx_in (by omega) (by omega), bx_in (by omega) (by omega), bx_in (by omega) (by omega), r_turn ⟨bx_in (by omega) (by omega), bx_in (by omega) (by omega), bx_in (by omega) (by omega), r_turn ⟨bx_in (by omega) (by omega), ?_⟩⟩⟩
      intro M26 e26 y27 e27
      rw [bI_and, ← vv_and (nb := nb) (a := a) y (by omega), eM, VA_VA] at e26
      refine ⟨⟨n + 1, _, e26, by rw [e27, nI_1], by omega, fun k hk hi => ?_, fun k hk => ?_⟩, mu_up e27 (by omega) (by omega)⟩
      · by_cases ek : k = n
        · rw [ek, y] at hi; cases hi
        · rw [pk_un ek]; exact hf1 k hk hi
      · by_cases ek : k = n
        · rw [ek, pk_us]
        · rw [pk_un ek]; exact hf2 k (by omega)
end VA
