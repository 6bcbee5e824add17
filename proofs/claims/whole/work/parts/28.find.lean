/-! 28 FIND: the row of cuts exists and is short; the class's findCuts finds it -/
theorem pc_zero (w : Nat) : pc w 0 = 0 := by
  induction w with
  | zero => rfl
  | succ w ih => show (Nat.testBit 0 w).toNat + pc w 0 = 0; rw [ih, Nat.zero_testBit]; rfl
theorem pc_top {w l y : Nat} (hl : l < w) (hy : y < 2 ^ l) : pc w (2 ^ l + y) = 1 + pc w y := by
  obtain ⟨d, rfl⟩ : ∃ d, w = l + (1 + d) := ⟨w - l - 1, by omega⟩
  rw [pc_add l, pc_add l (1 + d) y, Nat.add_div_left _ (Nat.two_pow_pos l), Nat.div_eq_of_lt hy, pc_zero]
  have e1 : pc l (2 ^ l + y) = pc l y := by
    rw [← pc_mod l (2 ^ l + y), Nat.add_mod_left, Nat.mod_eq_of_lt hy]
  have e2 : pc (1 + d) (0 + 1) = 1 := by
    rw [pc_add 1 d (0 + 1)]
    show pc 1 1 + pc d (1 / 2 ^ 1) = 1
    rw [show (1 : Nat) / 2 ^ 1 = 0 from rfl, pc_zero]
    rfl
  rw [e1, e2]
  omega
theorem pc_pos {w y : Nat} (h0 : 0 < y) (hy : y < 2 ^ w) : 0 < pc w y := by
  induction w with
  | zero => rw [Nat.pow_zero] at hy; omega
  | succ w ih =>
    show 0 < (y.testBit w).toNat + pc w y
    by_cases h : y < 2 ^ w
    · have := ih h; omega
    · have e : y.testBit w = true := by
        have e2 : y = 2 ^ w + (y - 2 ^ w) := by omega
        rw [Nat.pow_succ] at hy
        rw [e2, Nat.testBit_two_pow_add_eq, Nat.testBit_lt_two_pow (by omega)]
        rfl
      rw [e]
      show 0 < 1 + _
      omega
theorem or_add {a b : Nat} (h : b < 2 ^ a) : 2 ^ a ||| b = 2 ^ a + b := by
  have := Nat.two_pow_add_eq_or_of_lt h 1
  rw [Nat.mul_one] at this
  exact this.symm
section FIND
variable {ip : Nat → Bool} {cl cr : Nat → Nat} {n k : Nat}
def isB (ip : Nat → Bool) (cl cr : Nat → Nat) (k b : Nat) (L : List Nat) : Prop := L.Pairwise (· < ·) ∧ ∀ m, m ∈ L ↔ (m < b ∧ pc 32 m ≤ 3 ∧ cutP ip cl cr m k)
theorem isB_cut {b : Nat} {L : List Nat} (h : isB ip cl cr k b L) (hp : pc 32 b ≤ 3) (hc : cutP ip cl cr b k) : isB ip cl cr k (b + 1) (L ++ [b]) := by
  constructor
  · rw [List.pairwise_append]
    refine ⟨h.1, List.pairwise_singleton _ _, fun a ha c hc => ?_⟩
    rw [List.mem_singleton] at hc
    subst hc
    exact ((h.2 a).1 ha).1
  · intro m
    rw [List.mem_append, List.mem_singleton, h.2]
    constructor
    · rintro (⟨q1, q2⟩ | q)
      · exact ⟨by omega, q2⟩
      · subst q; exact ⟨by omega, hp, hc⟩
    · rintro ⟨q1, q2⟩
      by_cases e : m = b
      · exact Or.inr e
      · exact Or.inl ⟨by omega, q2⟩
theorem isB_no {b : Nat} {L : List Nat} (h : isB ip cl cr k b L) (hc : ¬ cutP ip cl cr b k) : isB ip cl cr k (b + 1) L := by
  refine ⟨h.1, fun m => ?_⟩
  rw [h.2]
  constructor
  · rintro ⟨q1, q2⟩
    exact ⟨by omega, q2⟩
  · rintro ⟨q1, q2⟩
    refine ⟨?_, q2⟩
    by_cases e : m = b
    · subst e; exact absurd q2.2 hc
    · omega
theorem isB_gap {b b' : Nat} {L : List Nat} (h : isB ip cl cr k b L) (hb : b ≤ b') (hg : ∀ m, b ≤ m → m < b' → 3 < pc 32 m) : isB ip cl cr k b' L := by
  refine ⟨h.1, fun m => ?_⟩
  rw [h.2]
  constructor
  · rintro ⟨q1, q2⟩
    exact ⟨by omega, q2⟩
  · rintro ⟨q1, q2⟩
    refine ⟨?_, q2⟩
    apply Nat.lt_of_not_le
    intro z
    have := hg m z q1
    omega
theorem isB_low {h m l : Nat} {L : List Nat} (hh : h < 32) (hm : m < h) (hl : l < m) (q : isB ip cl cr k (2 ^ h + 2 ^ m + 2 ^ l + 1) L) : isB ip cl cr k (2 ^ h + 2 ^ m + 2 ^ (l + 1)) L := by
  have p1 := Nat.pow_lt_pow_right (show 1 < 2 by decide) hm
  have p2 := Nat.pow_le_pow_right (show 0 < 2 by decide) (show l + 1 ≤ m from hl)
  have p3 := Nat.pow_le_pow_right (show 0 < 2 by decide) (show m + 1 ≤ h from hm)
  have e := Nat.pow_succ 2 l
  have e3 := Nat.pow_succ 2 m
  have p0 := Nat.two_pow_pos l
  refine isB_gap q (by omega) (fun x h1 h2 => ?_)
  obtain ⟨y, rfl⟩ : ∃ y, x = 2 ^ h + (2 ^ m + (2 ^ l + y)) := ⟨x - (2 ^ h + 2 ^ m + 2 ^ l), by omega⟩
  have hy : y < 2 ^ l := by omega
  have pl : 2 ^ l < 2 ^ 32 := Nat.pow_lt_pow_right (show 1 < 2 by decide) (by omega)
  rw [pc_top hh (by omega), pc_top (by omega) (by omega), pc_top (by omega) hy]
  have := pc_pos (w := 32) (y := y) (by omega) (by omega)
  omega
theorem pc_3 {h m l : Nat} (hh : h < 32) (hm : m < h) (hl : l < m) : pc 32 (2 ^ h + 2 ^ m + 2 ^ l) = 3 := by
  have p2 := Nat.pow_le_pow_right (show 0 < 2 by decide) (show l + 1 ≤ m from hl)
  have p3 := Nat.pow_le_pow_right (show 0 < 2 by decide) (show m + 1 ≤ h from hm)
  have e := Nat.pow_succ 2 l
  have e3 := Nat.pow_succ 2 m
  have p0 := Nat.two_pow_pos l
  have z := pc_zero 32
  have e4 : 2 ^ h + 2 ^ m + 2 ^ l = 2 ^ h + (2 ^ m + (2 ^ l + 0)) := by omega
  rw [e4, pc_top hh (by omega), pc_top (by omega) (by omega), pc_top (by omega) p0, z]
theorem pc_2 {h m : Nat} (hh : h < 32) (hm : m < h) : pc 32 (2 ^ h + 2 ^ m) = 2 := by
  have p3 := Nat.pow_lt_pow_right (show 1 < 2 by decide) hm
  have p0 := Nat.two_pow_pos m
  have e4 : 2 ^ h + 2 ^ m = 2 ^ h + (2 ^ m + 0) := by omega
  rw [e4, pc_top hh (by omega), pc_top (by omega) p0, pc_zero]
theorem pc_1 {h : Nat} (hh : h < 32) : pc 32 (2 ^ h) = 1 := by
  have e4 : 2 ^ h = 2 ^ h + 0 := rfl
  rw [e4, pc_top hh (Nat.two_pow_pos h), pc_zero]
def isT2 : Nat → Nat
  | 0 => 0
  | m + 1 => isT2 m + 1 + m
def isT : Nat → Nat
  | 0 => 0
  | h + 1 => isT h + 1 + isT2 h
theorem isT_le : ∀ k, k < 32 → isT k ≤ 4991 := by decide
theorem isB_try {b c : Nat} (hp : pc 32 b ≤ 3) (h : ∃ L, isB ip cl cr k b L ∧ L.length ≤ c) : ∃ L, isB ip cl cr k (b + 1) L ∧ L.length ≤ c + 1 := by
  obtain ⟨L, h1, h2⟩ := h
  by_cases q : cutP ip cl cr b k
  · exact ⟨_, isB_cut h1 hp q, by rw [List.length_append]; show _ + 1 ≤ _; omega⟩
  · exact ⟨_, isB_no h1 q, by omega⟩
theorem isB_all (hg : gOK ip cl cr n) (hk : k < n) : ∀ h, h ≤ 32 → ∃ L, isB ip cl cr k (2 ^ h) L ∧ L.length ≤ isT h := by
  have low : ∀ h m, h < 32 → m < h → ∀ c, (∃ L, isB ip cl cr k (2 ^ h + 2 ^ m + 1) L ∧ L.length ≤ c) → ∀ l, l ≤ m → ∃ L, isB ip cl cr k (2 ^ h + 2 ^ m + 2 ^ l) L ∧ L.length ≤ c + l := by
    intro h m hh hm c h0 l
    induction l with
    | zero => exact fun _ => h0
    | succ l ih =>
      intro hl
      obtain ⟨L, h1, h2⟩ := isB_try (by rw [pc_3 hh hm hl]; exact Nat.le_refl 3) (ih (by omega))
      exact ⟨L, isB_low hh hm hl h1, by omega⟩
  have mid : ∀ h, h < 32 → ∀ c, (∃ L, isB ip cl cr k (2 ^ h + 1) L ∧ L.length ≤ c) → ∀ m, m ≤ h → ∃ L, isB ip cl cr k (2 ^ h + 2 ^ m) L ∧ L.length ≤ c + isT2 m := by
    intro h hh c h0 m
    induction m with
    | zero => exact fun _ => h0
    | succ m ih =>
      intro hm
      have h1 := isB_try (by rw [pc_2 hh hm]; omega) (ih (by omega))
      obtain ⟨L, h2, h3⟩ := low h m hh hm _ h1 m (Nat.le_refl m)
      have e : 2 ^ h + 2 ^ m + 2 ^ m = 2 ^ h + 2 ^ (m + 1) := by rw [Nat.pow_succ]; omega
      rw [e] at h2
      exact ⟨L, h2, by show _ ≤ c + (isT2 m + 1 + m); omega⟩
  intro h
  induction h with
  | zero =>
    intro _
    refine ⟨[], ⟨List.Pairwise.nil, fun m => ⟨fun q => (List.not_mem_nil q).elim, ?_⟩⟩, Nat.le_refl _⟩
    rintro ⟨q1, q2, q3⟩
    have : m = 0 := by rw [Nat.pow_zero] at q1; omega
    subst this
    have := blk_none hg k hk (C := (0 : Nat).testBit) (fun j _ => Nat.zero_testBit j)
    rw [q3.1] at this
    cases this
  | succ h ih =>
    intro hh
    have h1 := isB_try (by rw [pc_1 (show h < 32 by omega)]; omega) (ih (by omega))
    obtain ⟨L, h2, h3⟩ := mid h (by omega) _ h1 h (Nat.le_refl h)
    have e : 2 ^ h + 2 ^ h = 2 ^ (h + 1) := by rw [Nat.pow_succ]; omega
    rw [e] at h2
    exact ⟨L, h2, by show _ ≤ isT h + 1 + isT2 h; omega⟩
theorem cuts_ex (hg : gOK ip cl cr n) (hn : n ≤ 32) (hk : k < n) : ∃ L, isCuts ip cl cr k L ∧ L.length ≤ 4991 := by
  obtain ⟨L, h1, h2⟩ := isB_all hg hk k (by omega)
  exact ⟨L, h1, Nat.le_trans h2 (isT_le k (by omega))⟩
theorem isCuts_inp (hi : ip k = true) : isCuts ip cl cr k [] := by
  refine ⟨List.Pairwise.nil, fun m => ⟨fun q => (List.not_mem_nil q).elim, fun ⟨q1, q2, q3⟩ => ?_⟩⟩
  have := q3.1
  rw [blk_inp (Nat.testBit_lt_two_pow q1) hi] at this
  cases this
end FIND
/-! the class -/
def off (ct : Nat → List Nat) : Nat → Nat
  | 0 => 0
  | k + 1 => off ct k + (ct k).length
theorem off_mono {ct : Nat → List Nat} {a b : Nat} (h : a ≤ b) : off ct a ≤ off ct b := by
  induction b with
  | zero => have : a = 0 := by omega
            subst this; exact Nat.le_refl _
  | succ b ih =>
    by_cases e : a = b + 1
    · subst e; exact Nat.le_refl _
    · have := ih (by omega)
      show _ ≤ off ct b + _
      omega
def cL (S : CS) (ct : Nat → List Nat) (n : Nat) : Prop := (∀ k, k ≤ n → cST S k = nI (off ct k)) ∧ ∀ k j, k < n → j < (ct k).length → cLV S (off ct k + j) = nI ((ct k).getD j 0)
section CLS
variable {S : CS} {ct : Nat → List Nat} {n k : Nat} {post : Int32 → Prop}
theorem q_size (h : cL S ct n) (hk : k < n) (hn : n ≤ 32) (ho : off ct n < 2 ^ 30) (hp : post (nI (ct k).length)) : p_X0_size S (nI k) post := by
  have o1 := off_mono (ct := ct) (show k + 1 ≤ n by omega)
  have o2 : off ct (k + 1) = off ct k + (ct k).length := rfl
  unfold p_X0_size
  rw [nI_1, bx_cl (show k + 1 < 2 ^ 31 by omega), bx_cl (show k < 2 ^ 31 by omega), h.1 k (by omega), h.1 (k + 1) (by omega), pk_sub (by omega), o2, Nat.add_sub_cancel_left]
  exact ⟨bx_in (by omega) (by omega), bx_in (by omega) (by omega), hp⟩
theorem q_leavesAt (h : cL S ct n) (hk : k < n) (hn : n ≤ 32) (ho : off ct n < 2 ^ 30) (hc : off ct n ≤ cLVn S) (hcb : cLVn S < 2 ^ 30) {j : Nat} (hj : j < (ct k).length) (hp : post (nI ((ct k).getD j 0))) : p_X0_leavesAt S (nI k) (nI j) post := by
  have o1 := off_mono (ct := ct) (show k + 1 ≤ n by omega)
  have o2 : off ct (k + 1) = off ct k + (ct k).length := rfl
  unfold p_X0_leavesAt
  rw [bx_cl (show k < 2 ^ 31 by omega), h.1 k (by omega), nI_add, bx_cl (by omega), h.2 k j hk hj]
  exact ⟨bx_in (by omega) (by omega), bx_in (by omega) (by omega), hp⟩
theorem q_cutOrItself (h : cL S ct n) (hk : k < n) (hn : n ≤ 32) (ho : off ct n < 2 ^ 30) (hc : off ct n ≤ cLVn S) (hcb : cLVn S < 2 ^ 30) {i : Nat} (hi : i < (ct k).length + 1) (hp : post (nI ((ct k ++ [2 ^ k]).getD i 0))) : p_X0_cutOrItself S (nI k) (nI i) post := by
  have o1 := off_mono (ct := ct) (show k + 1 ≤ n by omega)
  have o2 : off ct (k + 1) = off ct k + (ct k).length := rfl
  unfold p_X0_cutOrItself
  refine q_size h hk hn ho ?_
  refine c2 (nI_leI (by omega) (by omega)) (fun q => ?_) (fun q => ?_)
  · have : i = (ct k).length := by omega
    subst this
    rw [bx_one (by omega)]
    rw [List.getD_eq_getElem?_getD, List.getElem?_append_right (Nat.le_refl _), Nat.sub_self] at hp
    exact hp
  · refine q_leavesAt h hk hn ho hc hcb (by omega) ?_
    rw [List.getD_eq_getElem?_getD, List.getElem?_append_left (by omega), ← List.getD_eq_getElem?_getD] at hp
    exact hp
end CLS
