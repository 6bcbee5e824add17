/-! 51 MTURN2: the reference's turnBy -/
theorem x1_e : ∀ n, n < 32 → (2 * n) ^^^ 1 = 2 * n + 1 ∧ (2 * n + 1) ^^^ 1 = 2 * n := by decide +kernel
section TB2
variable {M : MS} {K N n x xo T : Nat} {pn tr ar de : Nat → Nat} {ip : Nat → Bool} {il ir : Nat → Nat} {post : MS → Prop}
/-- the plain literal of an AND -/
theorem r_turnBy0 (hS : mSh M K pn tr ar de) (hG : mG M ip il ir N) (hn : n < N) (hi : ip n = false) (hT : T < 2 ^ 19) (hx : mPm M K pn (2 * n) x 0) (hg : gN T x) (hxo : gN T xo) (hF : mFI M (2 * n + 1) = tI xo)
    (hp : ∀ M' z, rsF M' = rsF M → mVA M' = mVA M → mLE M' = mLE M → mTD M' = mTD M → mO1 M M' (2 * n) → mPm M' K pn (2 * n) z K → gN (T + 1000) z → invSp K pn tr de (2 * n) xo x z → post M') : p_X6_turnBy M (nI (2 * n)) post := by
  have hN := hG.1
  have hl := r_turnLoop hS (show 2 * n < 64 by omega) hT hx hg hxo hp
  rw [(x1_e n (by omega)).1] at hl
  have k2 : (2 : Int32) = nI 2 := rfl
  have k1 : (1 : Int32) = nI 1 := rfl
  unfold p_X6_turnBy
  intro y1 e1
  rw [k1, bx_xor, (x1_e n (by omega)).1] at e1
  subst e1
  rw [k2, pk_div (by omega) (by omega) (by omega), show (2 * n + 1) / 2 = n by omega]
  refine r_isInput hG hn ?_
  rw [hi]
  refine ⟨fun _ => ?_, fun w => absurd rfl w⟩
  unfold p_X6_turnBy_24 p_X6_turnBy_25
  refine ⟨fun _ => ?_, fun w => absurd rfl w⟩
  rw [bx_cl (show 2 * n + 1 < 2 ^ 31 by omega), hF]
  refine ⟨bx_in (by omega) (by omega), ?_⟩
  intro y7 e7
  rw [e7]
  exact hl
/-- the turned literal -/
theorem r_turnBy1 (hS : mSh M K pn tr ar de) (hG : mG M ip il ir N) (hn : n < N) (hT : T < 2 ^ 19) (hx : mPm M K pn (2 * n + 1) x 0) (hg : gN T x) (hxo : gN T xo) (hF : ip n = false → mFI M (2 * n) = tI xo) (hA : ip n = true → mAV M (2 * n) = tI xo)
    (hp : ∀ M' z, rsF M' = rsF M → mVA M' = mVA M → mLE M' = mLE M → mTD M' = mTD M → mO1 M M' (2 * n + 1) → mPm M' K pn (2 * n + 1) z K → gN (T + 1000) z → invSp K pn tr de (2 * n + 1) xo x z → post M') : p_X6_turnBy M (nI (2 * n + 1)) post := by
  have hN := hG.1
  have hl := r_turnLoop hS (show 2 * n + 1 < 64 by omega) hT hx hg hxo hp
  rw [(x1_e n (by omega)).2] at hl
  have k2 : (2 : Int32) = nI 2 := rfl
  have k1 : (1 : Int32) = nI 1 := rfl
  unfold p_X6_turnBy
  intro y1 e1
  rw [k1, bx_xor, (x1_e n (by omega)).2] at e1
  subst e1
  rw [k2, pk_div (by omega) (by omega) (by omega), show 2 * n / 2 = n by omega]
  refine r_isInput hG hn ?_
  cases hi : ip n with
  | false =>
    refine ⟨fun _ => ?_, fun w => absurd rfl w⟩
    unfold p_X6_turnBy_24 p_X6_turnBy_25
    refine ⟨fun _ => ?_, fun w => absurd rfl w⟩
    rw [bx_cl (show 2 * n < 2 ^ 31 by omega), hF hi]
    refine ⟨bx_in (by omega) (by omega), ?_⟩
    intro y7 e7
    rw [e7]
    exact hl
  | true =>
    refine ⟨fun w => absurd w (by decide), fun _ => ?_⟩
    have hev : (2 * n).testBit 0 = false := by rw [tb_0, decide_eq_false (by omega)]
    refine c2n bx_odd (fun w => absurd hev w) (fun _ => ?_)
    unfold p_X6_turnBy_25
    refine ⟨fun w => absurd w (by decide), fun _ => ?_⟩
    rw [bx_cl (show 2 * n < 2 ^ 31 by omega), hA hi]
    refine ⟨bx_in (by omega) (by omega), ?_⟩
    intro y36 e36
    rw [e36]
    exact hl
end TB2
