/-! 33 MFUN: the reference's spread, told and functionOf -/
theorem rank_ex {m k : Nat} : ∀ N, k < pc N m → ∃ i, i < N ∧ m.testBit i = true ∧ pc i m = k := by
  intro N
  induction N with
  | zero => intro h; exact absurd h (Nat.not_lt_zero _)
  | succ N ih =>
    intro h
    by_cases q : k < pc N m
    · obtain ⟨i, h1, h2⟩ := ih q
      exact ⟨i, by omega, h2⟩
    · have e : pc (N + 1) m = (m.testBit N).toNat + pc N m := rfl
      cases z : m.testBit N with
      | false => rw [z] at e; have e2 : pc (N + 1) m = 0 + pc N m := e; omega
      | true => rw [z] at e; have e2 : pc (N + 1) m = 1 + pc N m := e; exact ⟨N, by omega, z, by omega⟩
theorem pc_suc1 {m i : Nat} (h : m.testBit i = true) : pc (i + 1) m = pc i m + 1 := by show (m.testBit i).toNat + pc i m = _; rw [h, Nat.add_comm]; rfl
theorem pc_suc0 {m i : Nat} (h : m.testBit i = false) : pc (i + 1) m = pc i m := by show (m.testBit i).toNat + pc i m = _; rw [h]; exact Nat.zero_add _
theorem pc_32N {m N : Nat} (hm : m < 2 ^ N) (hN : N ≤ 32) : pc N m = pc 32 m := by
  obtain ⟨d, hd⟩ : ∃ d, 32 = N + d := ⟨32 - N, by omega⟩
  rw [hd, pc_add, Nat.div_eq_of_lt hm, pc_zero]
  rfl
theorem mk_or (w : Nat) (f : Nat → Bool) : mk w f ||| ((f w).toNat * 2 ^ w) = mk (w + 1) f := by
  have h := Nat.two_pow_add_eq_or_of_lt (mk_lt w f) (f w).toNat
  rw [Nat.or_comm, Nat.mul_comm, ← h]
  show _ = mk w f + _
  rw [Nat.mul_comm, Nat.add_comm]
theorem bI_and (a b : Bool) : bI a &&& bI b = bI (a && b) := by cases a <;> cases b <;> decide
theorem bI_sub (b : Bool) : (1 : Int32) - bI b = bI (!b) := by cases b <;> decide
section MF
variable {M M0 : MS} {ip : Nat → Bool} {il ir : Nat → Nat} {n k m N v : Nat}
theorem r_spread {post : Int32 → MS → Prop} (hND : mND M = nI N) (hN : N ≤ 32) (hm : m < 2 ^ 32) (h3 : pc N m ≤ 3) (hp : ∀ f, (∀ i, i < N → m.testBit i = true → f (pc i m) = nI i) → post (nI (pc N m)) (mLE_s M f)) : p_X6_spread M (nI m) post := by
  unfold p_X6_spread p_X6_spread_4
  refine ⟨fun M' x2 x3 => ∃ (i : Nat) (f : Nat → Int32), M' = mLE_s M f ∧ x3 = nI i ∧ x2 = nI (pc i m) ∧ i ≤ N ∧ ∀ j, j < i → m.testBit j = true → f (pc j m) = nI j, fun _ _ x3 => N - x3.toNatClampNeg, ⟨0, mLE M, rfl, rfl, rfl, by omega, fun j hj => absurd hj (by omega)⟩, ?_⟩
  rintro M' x2 x3 ⟨i, f, eM, rfl, rfl, hi, hf⟩
  unfold b_X6_spread_4
  have e1 : mND M' = nI N := by rw [eM, gs_mND_LE]; exact hND
  have e2 : mLE M' = f := by rw [eM, gs_mLE_LE]
  rw [e1]
  refine c2 (nI_leI (by omega) (by omega)) (fun q => ?_) (fun q => ?_)
  · have : i = N := by omega
    subst this
    rw [eM]
    exact hp f hf
  · refine c2n (bx_bit1 hm (by omega)) (fun hb => ?_) (fun hb => ?_)
    · have hb0 : m.testBit i = false := by cases z : m.testBit i with
        | false => rfl
        | true => exact absurd z hb
      intro y3 e3
      refine ⟨⟨i + 1, f, eM, by rw [e3, nI_1], by rw [pc_suc0 hb0], by omega, fun j hj ht => ?_⟩, mu_up e3 (by omega) (by omega)⟩
      by_cases z : j = i
      · subst z; exact absurd ht hb
      · exact hf j (by omega) ht
    · have hw := pc_w (a := i + 1) (b := N) (x := m) (by omega)
      rw [pc_suc1 hb] at hw
      refine ⟨bx_in (by omega) (by omega), ?_⟩
      intro M5 e5 y6 e6 y7 e7
      rw [bx_cl (show pc i m < 2 ^ 31 by omega), e2, eM] at e5
      refine ⟨⟨i + 1, upd f (pc i m) (nI i), e5.trans rfl, by rw [e7, nI_1], by rw [e6, nI_1, pc_suc1 hb], by omega, fun j hj ht => ?_⟩, mu_up e7 (by omega) (by omega)⟩
      by_cases z : j = i
      · subst z; rw [pk_us]
      · have hw2 := pc_w (a := j + 1) (b := i) (x := m) (by omega)
        rw [pc_suc1 ht] at hw2
        rw [pk_un (by omega)]; exact hf j (by omega) ht
theorem r_turn {a : Nat} {b : Bool} {post : Int32 → Prop} (hp : post (bI (b ^^ a.testBit 0))) : p_X6_turn M (nI a) (bI b) post := by
  unfold p_X6_turn
  refine c2n bx_odd1 (fun h => ?_) (fun h => ?_)
  · have h0 : a.testBit 0 = false := by cases z : a.testBit 0 with
      | false => rfl
      | true => exact absurd z h
    rw [h0, Bool.xor_false] at hp
    exact hp
  · rw [h, Bool.xor_true] at hp
    rw [bI_sub]
    exact hp
theorem VA_VA (M : MS) (f g : Nat → Int32) : mVA_s (mVA_s M f) g = mVA_s M g := rfl
theorem r_told {post : Int32 → MS → Prop} (hG : mG M0 ip il ir n) (hk : k < n) (hLE : ∀ i, i < n → m.testBit i = true → mLE M0 (pc i m) = nI i) (hLE2 : ∀ j, j < pc n m → ∃ i, i < n ∧ m.testBit i = true ∧ pc i m = j) (h3 : pc n m ≤ 3) (hv : v < 8) (hp : ∀ g, post (bI (evl ip il ir m v k)) (mVA_s M0 g)) : p_X6_told M0 (nI k) (nI (pc n m)) (nI v) post := by
  have hn := hG.1
  have d2 : (2 : Int32) = nI 2 := rfl
  unfold p_X6_told p_X6_told_3
  refine ⟨fun M x4 => ∃ (i : Nat) (g : Nat → Int32), M = mVA_s M0 g ∧ x4 = nI i ∧ i ≤ k + 1 ∧ ∀ j, j < i → g j = bI (evl ip il ir m v j), fun _ x4 => k + 1 - x4.toNatClampNeg, ⟨0, mVA M0, rfl, rfl, by omega, fun j hj => absurd hj (by omega)⟩, ?_⟩
  rintro M x4 ⟨i, g, eM, rfl, hi, hg⟩
  have hVA : mVA M = g := by rw [eM, gs_mVA_VA]
  have hG2 : mG M ip il ir n := mG_same hG (by rw [eM, gs_mON_VA]) (by rw [eM, gs_mTW_VA])
  unfold b_X6_told_3
  refine c2 (nI_ltI (by omega) (by omega)) (fun q => ?_) (fun q => ?_)
  · refine ⟨bx_in (by omega) (by omega), ?_⟩
    rw [bx_cl (show k < 2 ^ 31 by omega), hVA, hg k (by omega), eM]
    exact hp g
  · -- the leaves' own values, behind whatever b stands there
    have inner : ∀ (b : Bool) (M1 : MS), M1 = mVA_s M0 (upd g i (bI b)) → (m.testBit i = false → b = evl ip il ir m v i) → p_X6_told_81 (fun M' x4' => (∃ (i : Nat) (g : Nat → Int32), M' = mVA_s M0 g ∧ x4' = nI i ∧ i ≤ k + 1 ∧ ∀ j, j < i → g j = bI (evl ip il ir m v j)) ∧ k + 1 - x4'.toNatClampNeg < k + 1 - (nI i).toNatClampNeg) M1 (nI k) (nI (pc n m)) (nI v) (nI i) (0 : Int32) post := by
      intro b M1 e1 hb
      unfold p_X6_told_81
      refine ⟨fun M x5 => ∃ (c : Nat) (b' : Bool), M = mVA_s M0 (upd g i (bI b')) ∧ x5 = nI c ∧ c ≤ pc n m ∧ (m.testBit i = false → b' = evl ip il ir m v i) ∧ (m.testBit i = true → pc i m < c → b' = evl ip il ir m v i), fun _ x5 => pc n m - x5.toNatClampNeg, ⟨0, b, e1, rfl, by omega, hb, fun _ h => absurd h (by omega)⟩, ?_⟩
      rintro M x5 ⟨c, b', eM', rfl, hc, hb1, hb2⟩
      have hVA' : mVA M = upd g i (bI b') := by rw [eM', gs_mVA_VA]
      have hLE' : mLE M = mLE M0 := by rw [eM', gs_mLE_VA]
      unfold b_X6_told_81
      refine c2 (nI_leI (by omega) (by omega)) (fun q => ?_) (fun q => ?_)
      · intro y19 e19
        refine ⟨⟨i + 1, upd g i (bI b'), eM', by rw [e19, nI_1], by omega, fun j hj => ?_⟩, mu_up e19 (by omega) (by omega)⟩
        by_cases z : j = i
        · subst z
          rw [pk_us]
          cases t : m.testBit j with
          | false => rw [hb1 t]
          | true =>
            have hw := pc_w (a := j + 1) (b := n) (x := m) (by omega)
            rw [pc_suc1 t] at hw
            rw [hb2 t (by omega)]
        · rw [pk_un z]; exact hg j (by omega)
      · obtain ⟨ic, hic, tic, ric⟩ := hLE2 c (by omega)
        have hlc : mLE M (nI c).toNatClampNeg = nI ic := by
          rw [bx_cl (by omega), hLE', ← ric]
          exact hLE ic hic tic
        rw [hlc]
        refine ⟨bx_in (by omega) (by omega), ?_⟩
        refine c2n (nI_eq (by omega) (by omega)) (fun z => ?_) (fun z => ?_)
        · refine ⟨bx_in (by omega) (by omega), bx_in (by omega) (by omega), ?_⟩
          intro M24 e24 y25 e25
          rw [bx_cl (show i < 2 ^ 31 by omega), hVA', pk_us, eM'] at e24
          have e24b : M24 = mVA_s M0 (upd g i (bI b')) := by
            rw [e24, VA_VA]
            congr 1
            funext j
            by_cases w : j = i
            · subst w; rw [pk_us, pk_us]
            · rw [pk_un w]
          refine ⟨⟨c + 1, b', e24b, by rw [e25, nI_1], by omega, hb1, fun t h => ?_⟩, mu_up e25 (by omega) (by omega)⟩
          by_cases w : pc i m = c
          · exfalso
            rw [← w] at hlc
            rw [bx_cl (by omega), hLE', hLE i (by omega) t] at hlc
            exact z ((nI_eq (by omega) (by omega)).1 hlc).symm
          · exact hb2 t (by omega)
        · refine ⟨bx_in (by omega) (by omega), ?_⟩
          subst z
          intro M27 e27 y28 e28
          have eb : (nI v >>> (nI c &&& 31)) &&& (1 : Int32) = bI (v.testBit c) := by
            rw [bx_shr (by omega) (by omega), bx_1]
            unfold bI
            congr 1
            rw [Nat.testBit_eq_decide_div_mod_eq]
            by_cases h : v / 2 ^ c % 2 = 1
            · rw [h]; rfl
            · have h0 : v / 2 ^ c % 2 = 0 := by omega
              rw [h0]; rfl
          rw [bx_cl (show ic < 2 ^ 31 by omega), hVA', eM', eb] at e27
          have e27b : M27 = mVA_s M0 (upd g ic (bI (v.testBit c))) := by
            rw [e27, VA_VA]
            congr 1
            funext j
            by_cases w : j = ic
            · subst w; rw [pk_us, pk_us]
            · rw [pk_un w, pk_un w, pk_un w]
          refine ⟨⟨c + 1, v.testBit c, e27b, by rw [e28, nI_1], by omega, fun t => ?_, fun t h => ?_⟩, mu_up e28 (by omega) (by omega)⟩
          · rw [t] at tic; cases tic
          · rw [evl_leaf t, ric]
    refine r_isInput hG2 (by omega) ?_
    refine c2 (bI_0 _) (fun hi0 => ?_) (fun hi0 => ?_)
    · obtain ⟨eL, eR, lL, lR⟩ := (hG2.2 i (by omega)).2 hi0
      rw [bx_cl (show i < 2 ^ 31 by omega), eL, eR, d2, pk_div (by omega) (by omega) (by omega), pk_div (by omega) (by omega) (by omega), bx_cl (show il i / 2 < 2 ^ 31 by omega), bx_cl (show ir i / 2 < 2 ^ 31 by omega), hVA, hg (il i / 2) (by omega), hg (ir i / 2) (by omega)]
      refine ⟨bx_in (by omega) (by omega), bx_in (by omega) (by omega), bx_in (by omega) (by omega), ?_⟩
      refine r_turn ?_
      refine ⟨bx_in (by omega) (by omega), bx_in (by omega) (by omega), bx_in (by omega) (by omega), ?_⟩
      refine r_turn ?_
      refine ⟨bx_in (by omega) (by omega), ?_⟩
      intro M17 e17
      rw [bI_and, eM, VA_VA] at e17
      exact inner _ M17 e17 (fun t => (evl_and t hi0 ⟨by omega, by omega⟩).symm)
    · have hi1 : ip i = true := by cases z : ip i with
        | true => rfl
        | false => exact absurd z hi0
      refine ⟨bx_in (by omega) (by omega), ?_⟩
      intro M30 e30
      rw [bx_cl (show i < 2 ^ 31 by omega), hVA, eM, VA_VA] at e30
      exact inner false M30 e30 (fun t => (evl_inp t hi1).symm)
theorem r_functionOf {post : Int32 → MS → Prop} (hG : mG M0 ip il ir n) (hND : mND M0 = nI n) (hk : k < n) (hm : m < 2 ^ k) (h3 : pc 32 m ≤ 3) (hp : ∀ f g, (∀ i, i < n → m.testBit i = true → f (pc i m) = nI i) → post (nI (tab ip il ir m k)) (mVA_s (mLE_s M0 f) g)) : p_X6_functionOf M0 (nI k) (nI m) post := by
  have hn := hG.1
  have hk2 := Nat.pow_lt_pow_right (show 1 < 2 by decide) (show k < 32 by omega)
  have hk3 := Nat.pow_lt_pow_right (show 1 < 2 by decide) hk
  have epc : pc n m = pc 32 m := pc_32N (by omega) hn
  have h8 := p2_3 h3
  unfold p_X6_functionOf
  refine r_spread hND hn (by omega) (by omega) (fun f hf => ?_)
  unfold p_X6_functionOf_12
  refine ⟨fun M x4 x5 => ∃ (w : Nat) (g : Nat → Int32), M = mVA_s (mLE_s M0 f) g ∧ x5 = nI w ∧ x4 = nI (mk w (fun u => evl ip il ir m u k)) ∧ w ≤ 2 ^ pc n m, fun _ _ x5 => 2 ^ pc n m - x5.toNatClampNeg, ⟨0, mVA (mLE_s M0 f), rfl, rfl, rfl, Nat.zero_le _⟩, ?_⟩
  rintro M x4 x5 ⟨w, g, eM, rfl, rfl, hw⟩
  unfold b_X6_functionOf_12
  rw [bx_one (show pc n m < 32 by omega)]
  rw [epc] at hw ⊢
  refine c2 (nI_leI (by omega) (by omega)) (fun q => ?_) (fun q => ?_)
  · have hw2 : w = 2 ^ pc 32 m := by omega
    have h9 := hp f g hf
    unfold tab at h9
    rw [← hw2, ← eM] at h9
    exact h9
  · have hG2 : mG M ip il ir n := mG_same hG (by rw [eM, gs_mON_VA, gs_mON_LE]) (by rw [eM, gs_mTW_VA, gs_mTW_LE])
    have hLE : mLE M = f := by rw [eM, gs_mLE_VA, gs_mLE_LE]
    rw [← epc]
    refine r_told hG2 hk (fun i hi t => by rw [hLE]; exact hf i hi t) (fun j hj => rank_ex n hj) (by omega) (by omega) (fun g2 => ?_)
    intro y6 e6 y7 e7
    unfold bI at e6
    have hbt := Bool.toNat_le (evl ip il ir m w k)
    have hw7 := Nat.pow_le_pow_right (show 0 < 2 by decide) (show w ≤ 7 by omega)
    have hbt2 : (evl ip il ir m w k).toNat * 2 ^ w ≤ 1 * 2 ^ w := Nat.mul_le_mul_right _ hbt
    rw [bx_shl (by omega) (by omega), bx_or, mk_or w (fun u => evl ip il ir m u k)] at e6
    refine ⟨⟨w + 1, g2, by rw [eM, VA_VA], by rw [e7, nI_1], e6, by rw [epc]; omega⟩, ?_⟩
    rw [epc]
    exact mu_up e7 (by omega) (by omega)
end MF
