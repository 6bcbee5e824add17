/-! 25 WALK: both graphs, and the walk down that asks whether a set is met -/
def hf (f : Nat → Nat) : Nat → Nat := fun k => f k / 2
/-- the class's graph -/
def cG (S : CS) (ip : Nat → Bool) (il ir : Nat → Nat) (n : Nat) : Prop :=
  n ≤ 32 ∧ ∀ k, k < n → (ip k = true → cIN S k ≠ -1) ∧ (ip k = false → cIN S k = -1 ∧ cLE S k = nI (il k) ∧ cRI S k = nI (ir k) ∧ il k < 2 * k ∧ ir k < 2 * k)
/-- the reference's graph -/
def mG (M : MS) (ip : Nat → Bool) (il ir : Nat → Nat) (n : Nat) : Prop :=
  n ≤ 32 ∧ ∀ k, k < n → (ip k = true → mON M k = -1) ∧ (ip k = false → mON M k = nI (il k) ∧ mTW M k = nI (ir k) ∧ il k < 2 * k ∧ ir k < 2 * k)
theorem bI_t : bI true = (1 : Int32) := rfl
theorem bI_f : bI false = (0 : Int32) := rfl
theorem nI_m1 {a : Nat} (h : a < 2 ^ 31) : nI a ≠ (-1 : Int32) := by
  intro e
  have h1 := nI_pos h
  rw [e] at h1
  exact h1 (by decide)
theorem bx_m1p (i : Nat) : nI i + (-1 : Int32) + 1 = nI i := by
  rw [Int32.add_assoc]
  exact Int32.add_zero _
theorem bx_sub1 (k : Nat) : nI k - (1 : Int32) = nI k + (-1 : Int32) := Int32.sub_eq_add_neg _ _
theorem mu_dn {y : Int32} {j : Nat} (e : y = nI j + (-1 : Int32)) (hj : j < 2 ^ 30) : (y + 1).toNatClampNeg < (nI j + 1).toNatClampNeg := by
  rw [e, bx_m1p, nI_1, bx_cl (by omega), bx_cl (by omega)]
  omega
theorem mu_up {y : Int32} {j N : Nat} (e : y = nI j + (1 : Int32)) (hj : j < N) (hN : N < 2 ^ 30) : N - y.toNatClampNeg < N - (nI j).toNatClampNeg := by
  rw [e, nI_1, bx_cl (by omega), bx_cl (by omega)]
  omega
section WALK
variable {S S' : CS} {M M' : MS} {ip : Nat → Bool} {il ir : Nat → Nat} {n k m : Nat} {post : Int32 → Prop}
theorem cG_same (h : cG S ip il ir n) (e1 : cIN S' = cIN S) (e2 : cLE S' = cLE S) (e3 : cRI S' = cRI S) : cG S' ip il ir n := by
  unfold cG
  rw [e1, e2, e3]
  exact h
theorem mG_same (h : mG M ip il ir n) (e1 : mON M' = mON M) (e2 : mTW M' = mTW M) : mG M' ip il ir n := by
  unfold mG
  rw [e1, e2]
  exact h
theorem cG_ok (h : cG S ip il ir n) : gOK ip (hf il) (hf ir) n := by
  intro k hk hi
  obtain ⟨_, _, _, h1, h2⟩ := (h.2 k hk).2 hi
  show il k / 2 < k ∧ ir k / 2 < k
  omega
theorem mG_ok (h : mG M ip il ir n) : gOK ip (hf il) (hf ir) n := by
  intro k hk hi
  obtain ⟨_, _, h1, h2⟩ := (h.2 k hk).2 hi
  show il k / 2 < k ∧ ir k / 2 < k
  omega
theorem q_isInput (h : cG S ip il ir n) (hk : k < n) (hp : post (bI (ip k))) : p_X2_isInput S (nI k) post := by
  have hn := h.1
  unfold p_X2_isInput
  rw [bx_cl (by omega)]
  refine ⟨bx_in (by omega) (by omega), ?_⟩
  cases e : ip k with
  | true => rw [e, bI_t] at hp; exact ⟨fun h1 => absurd h1 ((h.2 k hk).1 e), fun _ => hp⟩
  | false => rw [e, bI_f] at hp; exact ⟨fun _ => hp, fun h1 => absurd ((h.2 k hk).2 e).1 h1⟩
theorem r_isInput (h : mG M ip il ir n) (hk : k < n) (hp : post (bI (ip k))) : p_X6_isInput M (nI k) post := by
  have hn := h.1
  unfold p_X6_isInput
  rw [bx_cl (by omega)]
  refine ⟨bx_in (by omega) (by omega), ?_⟩
  cases e : ip k with
  | true => rw [e, bI_t] at hp; exact ⟨fun h1 => absurd ((h.2 k hk).1 e) h1, fun _ => hp⟩
  | false =>
    rw [e, bI_f] at hp
    obtain ⟨e1, e2, e3, e4⟩ := (h.2 k hk).2 e
    refine ⟨fun _ => hp, fun h1 => ?_⟩
    rw [e1] at h1
    exact absurd h1 (nI_m1 (by omega))
/-- one step of the walk -/
theorem wk_skip {C : Nat → Bool} {r j : Nat} {b : Prop} (hb : b ↔ ∀ i, i < j + 1 → r.testBit i = true → blk ip (hf il) (hf ir) C i = true) (hc : ¬ (r.testBit j = true ∧ C j = false)) : b ↔ ∀ i, i < j → r.testBit i = true → blk ip (hf il) (hf ir) C i = true := by
  rw [hb]
  constructor
  · exact fun h i hi => h i (by omega)
  · intro h i hi ht
    by_cases e : i = j
    · subst e
      cases eC : C i with
      | true => exact blk_in eC
      | false => exact absurd ⟨ht, eC⟩ hc
    · exact h i (by omega) ht
theorem wk_down {C : Nat → Bool} {r j : Nat} {b : Prop} (hb : b ↔ ∀ i, i < j + 1 → r.testBit i = true → blk ip (hf il) (hf ir) C i = true) (hr : r.testBit j = true) (hC : C j = false) (hi : ip j = false) (hg : hf il j < j ∧ hf ir j < j) : b ↔ ∀ i, i < j → (r ||| (2 ^ hf il j ||| 2 ^ hf ir j)).testBit i = true → blk ip (hf il) (hf ir) C i = true := by
  rw [hb]
  constructor
  · intro h i hi' ht
    have hj := h j (by omega) hr
    rw [blk_and hC hi hg, Bool.and_eq_true] at hj
    rw [Nat.testBit_or, Nat.testBit_or, Nat.testBit_two_pow, Nat.testBit_two_pow, Bool.or_eq_true, Bool.or_eq_true, decide_eq_true_eq, decide_eq_true_eq] at ht
    rcases ht with ht | ht | ht
    · exact h i (by omega) ht
    · rw [← ht]; exact hj.1
    · rw [← ht]; exact hj.2
  · intro h i hi' ht
    by_cases e : i = j
    · subst e
      rw [blk_and hC hi hg, Bool.and_eq_true]
      refine ⟨h _ hg.1 ?_, h _ hg.2 ?_⟩
      · rw [Nat.testBit_or, Nat.testBit_or, Nat.testBit_two_pow_self]; simp
      · rw [Nat.testBit_or, Nat.testBit_or, Nat.testBit_two_pow_self]; simp
    · exact h i (by omega) (by rw [Nat.testBit_or, ht]; rfl)
theorem q_isMet (h : cG S ip il ir n) (hk : k < n) (hm : m < 2 ^ 32) (hp : post (bI (blk ip (hf il) (hf ir) m.testBit k))) : p_X0_isMet S (nI k) (nI m) post := by
  have hn := h.1
  unfold p_X0_isMet
  intro y1 e1
  rw [bx_one (by omega)] at e1
  subst e1
  unfold p_X0_isMet_7
  refine ⟨fun x3 x4 => ∃ r i : Nat, x3 = nI r ∧ x4 = nI i + (-1 : Int32) ∧ i ≤ k + 1 ∧ r < 2 ^ 32 ∧ (blk ip (hf il) (hf ir) m.testBit k = true ↔ ∀ j, j < i → r.testBit j = true → blk ip (hf il) (hf ir) m.testBit j = true), fun _ x4 => (x4 + 1).toNatClampNeg, ⟨2 ^ k, k + 1, rfl, (pk_m1 k).symm, by omega, bx_plt (by omega), ?_⟩, ?_⟩
  · constructor
    · intro hb j _ ht
      rw [Nat.testBit_two_pow, decide_eq_true_eq] at ht
      rw [← ht]; exact hb
    · intro hb
      exact hb k (by omega) Nat.testBit_two_pow_self
  · rintro x3 x4 ⟨r, i, rfl, rfl, hi, hr, hb⟩
    unfold b_X0_isMet_7
    refine c2 (bx_neg i (by omega)) (fun h0 => ?_) (fun h0 => ?_)
    · subst h0
      rw [hb.2 (fun j hj => absurd hj (by omega))] at hp
      exact hp
    · obtain ⟨j, rfl⟩ : ∃ j, i = j + 1 := ⟨i - 1, by omega⟩
      rw [pk_m1]
      have hbit : (ushr (nI r &&& (nI m ^^^ (-1 : Int32))) (nI j) &&& (1 : Int32) = (1 : Int32)) ↔ (r.testBit j = true ∧ m.testBit j = false) := by
        rw [bx_all, bx_xor, bx_and, bx_bit1 (bx_alt hr) (by omega), Nat.testBit_and, bx_not (by omega)]; simp
      refine c2n hbit (fun hc => ?_) (fun hc => ?_)
      · intro y4 e4
        exact ⟨⟨r, j, rfl, e4, by omega, hr, wk_skip hb hc⟩, mu_dn e4 (by omega)⟩
      · refine q_isInput h (by omega) ?_
        refine c2 (bI_0 _) (fun hi0 => ?_) (fun hi0 => ?_)
        · obtain ⟨_, eL, eR, lL, lR⟩ := (h.2 j (by omega)).2 hi0
          refine ⟨bx_in (by omega) (by omega), bx_in (by omega) (by omega), ?_⟩
          intro y10 e10 y11 e11
          rw [bx_cl (by omega), eL, eR, bx_half (by omega), bx_half (by omega), bx_one (by omega), bx_one (by omega), bx_or, bx_or] at e10
          exact ⟨⟨_, j, e10, e11, by omega, bx_lt hr (bx_lt (bx_plt (by omega)) (bx_plt (by omega))), wk_down hb hc.1 hc.2 hi0 (cG_ok h j (by omega) hi0)⟩, mu_dn e11 (by omega)⟩
        · have hi1 : ip j = true := by cases e : ip j with
            | true => rfl
            | false => exact absurd e hi0
          have hf0 : blk ip (hf il) (hf ir) m.testBit k = false := by
            cases e : blk ip (hf il) (hf ir) m.testBit k with
            | false => rfl
            | true =>
              have := hb.1 e j (by omega) hc.1
              rw [blk_inp hc.2 hi1] at this
              cases this
          rw [hf0] at hp
          exact hp
theorem r_parts (h : mG M ip il ir n) (hk : k < n) (hik : ip k = false) (hm : m < 2 ^ 32) (hmk : m.testBit k = false) (hp : post (bI (blk ip (hf il) (hf ir) m.testBit k))) : p_X6_parts M (nI k) (nI m) post := by
  have hn := h.1
  obtain ⟨eL, eR, lL, lR⟩ := (h.2 k hk).2 hik
  have d2 : (2 : Int32) = nI 2 := rfl
  unfold p_X6_parts p_X6_below
  refine ⟨bx_in (by omega) (by omega), bx_in (by omega) (by omega), ?_⟩
  intro y3 e3
  rw [bx_cl (by omega), eL, eR, d2, pk_div (by omega) (by omega) (by omega), pk_div (by omega) (by omega) (by omega), bx_one (by omega), bx_one (by omega), bx_or]
  rw [bx_sub1] at e3
  unfold p_X6_parts_11
  refine ⟨fun x3 x4 => ∃ r i : Nat, x3 = nI r ∧ x4 = nI i + (-1 : Int32) ∧ i ≤ k ∧ r < 2 ^ 32 ∧ (blk ip (hf il) (hf ir) m.testBit k = true ↔ ∀ j, j < i → r.testBit j = true → blk ip (hf il) (hf ir) m.testBit j = true), fun _ x4 => (x4 + 1).toNatClampNeg, ⟨_, k, rfl, e3, by omega, bx_lt (bx_plt (by omega)) (bx_plt (by omega)), ?_⟩, ?_⟩
  · have hb : blk ip (hf il) (hf ir) m.testBit k = true ↔ ∀ j, j < k + 1 → (2 ^ k).testBit j = true → blk ip (hf il) (hf ir) m.testBit j = true := by
      constructor
      · intro hb j _ ht
        rw [Nat.testBit_two_pow, decide_eq_true_eq] at ht
        rw [← ht]; exact hb
      · intro hb
        exact hb k (by omega) Nat.testBit_two_pow_self
    have hd := wk_down hb Nat.testBit_two_pow_self hmk hik (mG_ok h k hk hik)
    rw [hd]
    constructor
    · intro hq j hj ht
      have ht2 : (2 ^ hf il k ||| 2 ^ hf ir k).testBit j = true := ht
      exact hq j hj (by rw [Nat.testBit_or, ht2, Bool.or_true])
    · intro hq j hj ht
      rw [Nat.testBit_or, Nat.testBit_two_pow, decide_eq_false (by omega : ¬ k = j), Bool.false_or] at ht
      exact hq j hj ht
  · rintro x3 x4 ⟨r, i, rfl, rfl, hi, hr, hb⟩
    unfold b_X6_parts_11
    refine c2 (bx_neg i (by omega)) (fun h0 => ?_) (fun h0 => ?_)
    · subst h0
      rw [hb.2 (fun j hj => absurd hj (by omega))] at hp
      exact hp
    · obtain ⟨j, rfl⟩ : ∃ j, i = j + 1 := ⟨i - 1, by omega⟩
      rw [pk_m1]
      refine c2n (bx_bit1 hr (by omega)) (fun hc => ?_) (fun hc => ?_)
      · intro y4 e4
        exact ⟨⟨r, j, rfl, e4, by omega, hr, wk_skip hb (fun q => hc q.1)⟩, mu_dn e4 (by omega)⟩
      · refine c2n (bx_bit0 hm (by omega)) (fun hd => ?_) (fun hd => ?_)
        · intro y4 e4
          exact ⟨⟨r, j, rfl, e4, by omega, hr, wk_skip hb (fun q => hd q.2)⟩, mu_dn e4 (by omega)⟩
        · refine r_isInput h (by omega) ?_
          refine c2 (bI_0 _) (fun hi0 => ?_) (fun hi0 => ?_)
          · obtain ⟨eL, eR, lL, lR⟩ := (h.2 j (by omega)).2 hi0
            unfold p_X6_below
            refine ⟨bx_in (by omega) (by omega), bx_in (by omega) (by omega), ?_⟩
            intro y10 e10 y11 e11
            rw [bx_cl (by omega), eL, eR, d2, pk_div (by omega) (by omega) (by omega), pk_div (by omega) (by omega) (by omega), bx_one (by omega), bx_one (by omega), bx_or, bx_or] at e10
            exact ⟨⟨_, j, e10, e11, by omega, bx_lt hr (bx_lt (bx_plt (by omega)) (bx_plt (by omega))), wk_down hb hc hd hi0 (mG_ok h j (by omega) hi0)⟩, mu_dn e11 (by omega)⟩
          · have hi1 : ip j = true := by cases e : ip j with
              | true => rfl
              | false => exact absurd e hi0
            have hf0 : blk ip (hf il) (hf ir) m.testBit k = false := by
              cases e : blk ip (hf il) (hf ir) m.testBit k with
              | false => rfl
              | true =>
                have := hb.1 e j (by omega) hc
                rw [blk_inp hd hi1] at this
                cases this
            rw [hf0] at hp
            exact hp
/-- no node of m can be left out -/
def sml (ip : Nat → Bool) (cl cr : Nat → Nat) (m k : Nat) : Prop := ∀ i, i < k → m.testBit i = true → blk ip cl cr (m ^^^ 2 ^ i).testBit k = false
def cutP (ip : Nat → Bool) (cl cr : Nat → Nat) (m k : Nat) : Prop := blk ip cl cr m.testBit k = true ∧ sml ip cl cr m k
theorem q_isSmallest (h : cG S ip il ir n) (hk : k < n) (hm : m < 2 ^ 32) (h1 : sml ip (hf il) (hf ir) m k → post (1 : Int32)) (h0 : ¬ sml ip (hf il) (hf ir) m k → post (0 : Int32)) : p_X0_isSmallest S (nI k) (nI m) post := by
  have hn := h.1
  unfold p_X0_isSmallest p_X0_isSmallest_2
  refine ⟨fun x3 => ∃ i : Nat, x3 = nI i ∧ i ≤ k ∧ ∀ j, j < i → m.testBit j = true → blk ip (hf il) (hf ir) (m ^^^ 2 ^ j).testBit k = false, fun x3 => k - x3.toNatClampNeg, ⟨0, rfl, by omega, fun j hj => absurd hj (by omega)⟩, ?_⟩
  rintro x3 ⟨i, rfl, hi, hb⟩
  unfold b_X0_isSmallest_2
  refine c2 (nI_leI (by omega) (by omega)) (fun hc => ?_) (fun hc => ?_)
  · have : i = k := by omega
    subst this
    exact h1 hb
  · refine c2n (bx_bit1 hm (by omega)) (fun hd => ?_) (fun hd => ?_)
    · intro y3 e3
      refine ⟨⟨i + 1, by rw [e3, nI_1], by omega, fun j hj ht => ?_⟩, mu_up e3 (by omega) (by omega)⟩
      by_cases e : j = i
      · subst e; exact absurd ht hd
      · exact hb j (by omega) ht
    · rw [bx_one (by omega), bx_xor]
      refine q_isMet h hk (bx_xlt hm (bx_plt (by omega))) ?_
      refine c2 (bI_0 _) (fun he => ?_) (fun he => ?_)
      · intro y7 e7
        refine ⟨⟨i + 1, by rw [e7, nI_1], by omega, fun j hj ht => ?_⟩, mu_up e7 (by omega) (by omega)⟩
        by_cases e : j = i
        · subst e; exact he
        · exact hb j (by omega) ht
      · exact h0 (fun hs => he (hs i (by omega) hd))
theorem r_isCut (h : mG M ip il ir n) (hk : k < n) (hik : ip k = false) (hm : m < 2 ^ k) (h1 : cutP ip (hf il) (hf ir) m k → post (1 : Int32)) (h0 : ¬ cutP ip (hf il) (hf ir) m k → post (0 : Int32)) : p_X6_isCut M (nI k) (nI m) post := by
  have hn := h.1
  have hk2 : 2 ^ k < 2 ^ 32 := bx_plt (by omega)
  have hm2 : m < 2 ^ 32 := by omega
  unfold p_X6_isCut
  refine r_parts h hk hik hm2 (Nat.testBit_lt_two_pow hm) ?_
  refine c2n (bI_0 _) (fun hc => ?_) (fun hc => ?_)
  · have hbk : blk ip (hf il) (hf ir) m.testBit k = true := by cases e : blk ip (hf il) (hf ir) m.testBit k with
      | true => rfl
      | false => exact absurd e hc
    unfold p_X6_isCut_13
    refine ⟨fun x3 => ∃ i : Nat, x3 = nI i ∧ i ≤ k ∧ ∀ j, j < i → m.testBit j = true → blk ip (hf il) (hf ir) (m ^^^ 2 ^ j).testBit k = false, fun x3 => k - x3.toNatClampNeg, ⟨0, rfl, by omega, fun j hj => absurd hj (by omega)⟩, ?_⟩
    rintro x3 ⟨i, rfl, hi, hb⟩
    unfold b_X6_isCut_13
    refine c2 (nI_leI (by omega) (by omega)) (fun hc => ?_) (fun hc => ?_)
    · have : i = k := by omega
      subst this
      exact h1 ⟨hbk, hb⟩
    · refine c2n (bx_bit1 hm2 (by omega)) (fun hd => ?_) (fun hd => ?_)
      · intro y3 e3
        refine ⟨⟨i + 1, by rw [e3, nI_1], by omega, fun j hj ht => ?_⟩, mu_up e3 (by omega) (by omega)⟩
        by_cases e : j = i
        · subst e; exact absurd ht hd
        · exact hb j (by omega) ht
      · rw [bx_one (by omega), bx_all, bx_xor, bx_and]
        have ht : ∀ j, j ≤ k → (m &&& (2 ^ i ^^^ (2 ^ 32 - 1))).testBit j = (m ^^^ 2 ^ i).testBit j := by
          intro j hj
          rw [Nat.testBit_and, bx_not (by omega), Nat.testBit_xor, Nat.testBit_two_pow]
          by_cases e : i = j
          · subst e; rw [hd]; simp
          · rw [decide_eq_false e]; simp
        refine r_parts h hk hik (bx_alt hm2) ?_ ?_
        · rw [Nat.testBit_and, Nat.testBit_lt_two_pow hm]; rfl
        · rw [blk_congr (mG_ok h) hk ht]
          refine c2 (bI_0 _) (fun he => ?_) (fun he => ?_)
          · intro y7 e7
            refine ⟨⟨i + 1, by rw [e7, nI_1], by omega, fun j hj ht => ?_⟩, mu_up e7 (by omega) (by omega)⟩
            by_cases e : j = i
            · subst e; exact he
            · exact hb j (by omega) ht
          · exact h0 (fun hs => he (hs.2 i (by omega) hd))
  · exact h0 (fun q => by rw [q.1] at hc; cases hc)
end WALK
