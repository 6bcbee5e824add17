/-! 30 FUN: a cut's table; the class's functionOf and addNode -/
/-- the value at k when the leaves of m have the bits of v -/
def evl (ip : Nat → Bool) (il ir : Nat → Nat) (m v k : Nat) : Bool :=
  if m.testBit k then v.testBit (pc k m) else (!ip k && (if h : il k / 2 < k ∧ ir k / 2 < k then (evl ip il ir m v (il k / 2) ^^ (il k).testBit 0) && (evl ip il ir m v (ir k / 2) ^^ (ir k).testBit 0) else false))
termination_by k
decreasing_by
  · exact h.1
  · exact h.2
def tab (ip : Nat → Bool) (il ir : Nat → Nat) (m k : Nat) : Nat := mk (2 ^ pc 32 m) (fun v => evl ip il ir m v k)
theorem mk_ext {w : Nat} {f g : Nat → Bool} (h : ∀ v, v < w → f v = g v) : mk w f = mk w g := by
  apply Nat.eq_of_testBit_eq
  intro i
  rw [mk_bit, mk_bit]
  by_cases q : i < w
  · rw [h i q]
  · rw [decide_eq_false q]; rfl
theorem mk_and (w : Nat) (f g : Nat → Bool) : mk w f &&& mk w g = mk w (fun v => f v && g v) := by
  apply Nat.eq_of_testBit_eq
  intro i
  rw [Nat.testBit_and, mk_bit, mk_bit, mk_bit]
  cases decide (i < w) <;> cases f i <;> cases g i <;> rfl
theorem mk_not (w : Nat) (f : Nat → Bool) : mk w f ^^^ (2 ^ w - 1) = mk w (fun v => !f v) := by
  apply Nat.eq_of_testBit_eq
  intro i
  rw [Nat.testBit_xor, mk_bit, mk_bit, Nat.testBit_two_pow_sub_one]
  cases decide (i < w) <;> cases f i <;> rfl
theorem mk_0 (w : Nat) : mk w (fun _ => false) = 0 := by
  apply Nat.eq_of_testBit_eq
  intro i
  rw [mk_bit, Nat.zero_testBit, Bool.and_false]
theorem pc_w {a b x : Nat} (h : a ≤ b) : pc a x ≤ pc b x := by
  obtain ⟨d, rfl⟩ : ∃ d, b = a + d := ⟨b - a, by omega⟩
  rw [pc_add]
  omega
theorem p2_3 {p : Nat} (h : p ≤ 3) : 2 ^ p ≤ 8 := Nat.pow_le_pow_right (show 0 < 2 by decide) h
theorem p22_3 {p : Nat} (h : p ≤ 3) : 2 ^ (2 ^ p) ≤ 256 := Nat.pow_le_pow_right (show 0 < 2 by decide) (p2_3 h)
theorem q_full {S : CS} {p : Nat} {post : Int32 → Prop} (h : p ≤ 3) (hp : post (nI (2 ^ (2 ^ p) - 1))) : p_X4_full S (nI p) post := by
  have h1 := p2_3 h
  unfold p_X4_full
  rw [bx_one (by omega), bx_one (by omega)]
  have e := pk_sub (a := 2 ^ (2 ^ p)) (b := 1) (Nat.two_pow_pos _)
  show post (nI (2 ^ (2 ^ p)) - nI 1)
  rw [e]
  exact hp
theorem TB_TB (S : CS) (f g : Nat → Int32) : cTB_s (cTB_s S f) g = cTB_s S g := rfl
theorem va_tab : ∀ r, r < 3 → ∀ p, p < 4 → tVA r &&& nI (2 ^ (2 ^ p) - 1) = nI (mk (2 ^ p) (fun v => v.testBit r)) := by decide +kernel
section FUN
variable {S S0 : CS} {ip : Nat → Bool} {il ir : Nat → Nat} {n k m : Nat}
theorem evl_leaf {v : Nat} (h : m.testBit k = true) : evl ip il ir m v k = v.testBit (pc k m) := by rw [evl]; simp [h]
theorem evl_inp {v : Nat} (h : m.testBit k = false) (hi : ip k = true) : evl ip il ir m v k = false := by rw [evl]; simp [h, hi]
theorem evl_and {v : Nat} (h : m.testBit k = false) (hi : ip k = false) (hg : il k / 2 < k ∧ ir k / 2 < k) : evl ip il ir m v k = ((evl ip il ir m v (il k / 2) ^^ (il k).testBit 0) && (evl ip il ir m v (ir k / 2) ^^ (ir k).testBit 0)) := by rw [evl]; simp [h, hi, hg]
theorem tab_lt (hp : pc 32 m ≤ 3) : tab ip il ir m k < 256 := Nat.lt_of_lt_of_le (mk_lt _ _) (p22_3 hp)
theorem tb_0 (a : Nat) : a.testBit 0 = decide (a % 2 = 1) := by rw [Nat.testBit_eq_decide_div_mod_eq, Nat.pow_zero, Nat.div_one]
theorem bx_odd {a : Nat} : (nI a &&& (1 : Int32)) = 0 ↔ a.testBit 0 = false := by
  rw [bx_1, tb_0]
  have h : a % 2 = 0 ∨ a % 2 = 1 := by omega
  rcases h with h | h
  · rw [h]; exact ⟨fun _ => rfl, fun _ => rfl⟩
  · rw [h]; exact ⟨fun q => absurd q (by decide), fun q => absurd q (by decide)⟩
theorem bx_odd1 {a : Nat} : (nI a &&& (1 : Int32)) = (1 : Int32) ↔ a.testBit 0 = true := by
  rw [bx_1, tb_0]
  have h : a % 2 = 0 ∨ a % 2 = 1 := by omega
  rcases h with h | h
  · rw [h]; exact ⟨fun q => absurd q (by decide), fun q => absurd q (by decide)⟩
  · rw [h]; exact ⟨fun _ => rfl, fun _ => rfl⟩
theorem q_literalTable {a p : Nat} {g : Nat → Bool} {post : Int32 → Prop} (ha : a / 2 < 32) (e : cTB S (a / 2) = nI (mk (2 ^ p) g)) (hp : post (nI (mk (2 ^ p) (fun v => g v ^^ a.testBit 0)))) : p_X0_literalTable S (nI a) (nI (2 ^ (2 ^ p) - 1)) post := by
  unfold p_X0_literalTable
  rw [bx_half (by omega), bx_cl (by omega), e, bx_xor, mk_not]
  refine c2n bx_odd (fun h => ⟨bx_in (by omega) (by omega), ?_⟩) (fun h => ⟨bx_in (by omega) (by omega), ?_⟩)
  · have h1 : a.testBit 0 = true := by cases z : a.testBit 0 with
      | true => rfl
      | false => exact absurd z h
    rw [h1] at hp
    simpa using hp
  · rw [h] at hp
    simpa using hp
theorem q_functionOf {post : Int32 → CS → Prop} (hG : cG S0 ip il ir n) (hk : k < n) (hm : m < 2 ^ 32) (h3 : pc 32 m ≤ 3) (hp : ∀ f, post (nI (tab ip il ir m k)) (cTB_s S0 f)) : p_X0_functionOf S0 (nI k) (nI m) post := by
  have hn := hG.1
  unfold p_X0_functionOf
  refine q_pop hm ?_
  refine q_full h3 ?_
  unfold p_X0_functionOf_14
  refine ⟨fun S x4 x5 => ∃ (i : Nat) (f : Nat → Int32), S = cTB_s S0 f ∧ x5 = nI i ∧ x4 = nI (pc i m) ∧ i ≤ k + 1 ∧ ∀ j, j < i → f j = nI (tab ip il ir m j), fun _ _ x5 => k + 1 - x5.toNatClampNeg, ⟨0, cTB S0, rfl, rfl, rfl, by omega, fun j hj => absurd hj (by omega)⟩, ?_⟩
  rintro S x4 x5 ⟨i, f, eS, rfl, rfl, hi, hf⟩
  have hTB : cTB S = f := by rw [eS, gs_cTB_TB]
  have hG2 : cG S ip il ir n := cG_same hG (by rw [eS, gs_cIN_TB]) (by rw [eS, gs_cLE_TB]) (by rw [eS, gs_cRI_TB])
  unfold b_X0_functionOf_14
  refine c2 (nI_ltI (by omega) (by omega)) (fun q => ?_) (fun q => ?_)
  · refine ⟨bx_in (by omega) (by omega), ?_⟩
    rw [bx_cl (by omega), hTB, hf k (by omega), eS]
    exact hp f
  · refine c2n (bx_bit1 hm (by omega)) (fun hb => ?_) (fun hb => ?_)
    · have hb0 : m.testBit i = false := by cases z : m.testBit i with
        | false => rfl
        | true => exact absurd z hb
      have epc : pc (i + 1) m = pc i m := by show (m.testBit i).toNat + pc i m = _; rw [hb0]; exact Nat.zero_add _
      refine q_isInput hG2 (by omega) ?_
      refine c2 (bI_0 _) (fun hi0 => ?_) (fun hi0 => ?_)
      · obtain ⟨_, eL, eR, lL, lR⟩ := (hG2.2 i (by omega)).2 hi0
        rw [bx_cl (by omega), eL, eR]
        refine ⟨bx_in (by omega) (by omega), ?_⟩
        have evil := hf (il i / 2) (by omega)
        unfold tab at evil
        rw [← hTB] at evil
        refine q_literalTable (p := pc 32 m) (g := fun v => evl ip il ir m v (il i / 2)) (by omega) evil ?_
        refine ⟨bx_in (by omega) (by omega), ?_⟩
        have evir := hf (ir i / 2) (by omega)
        unfold tab at evir
        rw [← hTB] at evir
        refine q_literalTable (p := pc 32 m) (g := fun v => evl ip il ir m v (ir i / 2)) (by omega) evir ?_
        refine ⟨bx_in (by omega) (by omega), ?_⟩
        intro S18 e18 y19 e19
        rw [bx_and, mk_and, hTB, eS] at e18
        refine ⟨⟨i + 1, _, e18.trans (TB_TB S0 _ _), by rw [e19, nI_1], by rw [epc], by omega, fun j hj => ?_⟩, mu_up e19 (by omega) (by omega)⟩
        by_cases z : j = i
        · subst z
          have hT : tab ip il ir m j = mk (2 ^ pc 32 m) (fun v => (evl ip il ir m v (il j / 2) ^^ (il j).testBit 0) && (evl ip il ir m v (ir j / 2) ^^ (ir j).testBit 0)) := by
            unfold tab
            exact mk_ext (fun v _ => evl_and hb0 hi0 ⟨by omega, by omega⟩)
          rw [pk_us, hT]
        · rw [pk_un z]; exact hf j (by omega)
      · have hi1 : ip i = true := by cases z : ip i with
          | true => rfl
          | false => exact absurd z hi0
        refine ⟨bx_in (by omega) (by omega), ?_⟩
        intro S21 e21 y22 e22
        rw [bx_cl (by omega), hTB, eS] at e21
        refine ⟨⟨i + 1, _, e21.trans (TB_TB S0 _ _), by rw [e22, nI_1], by rw [epc], by omega, fun j hj => ?_⟩, mu_up e22 (by omega) (by omega)⟩
        by_cases z : j = i
        · subst z
          rw [pk_us]
          have : tab ip il ir m j = 0 := by
            rw [← mk_0 (2 ^ pc 32 m)]
            unfold tab
            exact mk_ext (fun v _ => evl_inp hb0 hi1)
          rw [this]
          rfl
        · rw [pk_un z]; exact hf j (by omega)
    · have epc : pc (i + 1) m = 1 + pc i m := by show (m.testBit i).toNat + pc i m = _; rw [hb]; rfl
      have hw := pc_w (a := i + 1) (b := 32) (x := m) (by omega)
      unfold p_X4_variable
      rw [bx_cl (show pc i m < 2 ^ 31 by omega), va_tab (pc i m) (by omega) (pc 32 m) (by omega)]
      refine ⟨bx_in (by omega) (by omega), bx_in (by omega) (by omega), ?_⟩
      intro S26 e26 y27 e27 y28 e28
      rw [bx_cl (by omega), hTB, eS] at e26
      refine ⟨⟨i + 1, _, e26.trans (TB_TB S0 _ _), by rw [e28, nI_1], by rw [e27, nI_1, epc, Nat.add_comm], by omega, fun j hj => ?_⟩, mu_up e28 (by omega) (by omega)⟩
      by_cases z : j = i
      · subst z
        have hT : tab ip il ir m j = mk (2 ^ pc 32 m) (fun v => v.testBit (pc j m)) := by
          unfold tab
          exact mk_ext (fun v _ => evl_leaf hb)
        rw [pk_us, hT]
      · rw [pk_un z]; exact hf j (by omega)
end FUN
