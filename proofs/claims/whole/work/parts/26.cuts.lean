/-! 26 CUTS: what the cuts of a node are, and how they come from those of its two nodes -/
/-- the number whose bits below w are f -/
def mk : Nat → (Nat → Bool) → Nat
  | 0, _ => 0
  | w + 1, f => mk w f + (f w).toNat * 2 ^ w
theorem mk_lt (w : Nat) (f : Nat → Bool) : mk w f < 2 ^ w := by
  induction w with
  | zero => exact Nat.lt_of_lt_of_le Nat.zero_lt_one (Nat.le_refl 1)
  | succ w ih =>
    show mk w f + (f w).toNat * 2 ^ w < 2 ^ (w + 1)
    rw [Nat.pow_succ]
    cases f w with
    | true => show mk w f + 1 * 2 ^ w < _; omega
    | false => show mk w f + 0 * 2 ^ w < _; omega
theorem mk_bit (w : Nat) (f : Nat → Bool) (i : Nat) : (mk w f).testBit i = (decide (i < w) && f i) := by
  induction w with
  | zero => show Nat.testBit 0 i = _; rw [Nat.zero_testBit]; simp
  | succ w ih =>
    have e : mk (w + 1) f = 2 ^ w * (f w).toNat + mk w f := by show mk w f + _ = _; rw [Nat.mul_comm, Nat.add_comm]
    rw [e, Nat.testBit_two_pow_mul_add _ (mk_lt w f)]
    by_cases h : i < w
    · rw [if_pos h, ih]; simp [h, Nat.lt_succ_of_lt h]
    · rw [if_neg h]
      by_cases h2 : i = w
      · subst h2
        rw [Nat.sub_self]
        cases f i <;> simp
      · have h3 : ¬ i < w + 1 := by omega
        have h4 : (f w).toNat < 2 ^ (i - w) := by
          have h5 : (f w).toNat ≤ 1 := Bool.toNat_le _
          have h6 : 2 ^ 1 ≤ 2 ^ (i - w) := Nat.pow_le_pow_right (by decide) (by omega)
          omega
        rw [Nat.testBit_lt_two_pow h4]; simp [h3]
theorem pc_mono {w a b : Nat} (h : ∀ i, i < w → a.testBit i = true → b.testBit i = true) : pc w a ≤ pc w b := by
  induction w with
  | zero => exact Nat.le_refl 0
  | succ w ih =>
    show (a.testBit w).toNat + pc w a ≤ (b.testBit w).toNat + pc w b
    have h1 := ih (fun i hi => h i (by omega))
    cases e : a.testBit w with
    | false => have := Bool.toNat_le (b.testBit w); show 0 + _ ≤ _; omega
    | true => rw [h w (by omega) e]; omega
theorem tb_lt {m n : Nat} (h : ∀ i, n ≤ i → m.testBit i = false) : m < 2 ^ n := by
  apply Nat.lt_of_not_le
  intro hc
  obtain ⟨i, h1, h2⟩ := Nat.exists_ge_and_testBit_of_ge_two_pow hc
  rw [h i h1] at h2
  cases h2
theorem tb_of {m n i : Nat} (h : m < 2 ^ n) (hi : m.testBit i = true) : i < n := by
  apply Nat.lt_of_not_le
  intro hc
  rw [Nat.testBit_lt_two_pow (Nat.lt_of_lt_of_le h (Nat.pow_le_pow_right (by decide) hc))] at hi
  cases hi
section CUTS
variable {ip : Nat → Bool} {cl cr : Nat → Nat} {n k m : Nat}
/-- L is the row of the cuts of k, in order -/
def isCuts (ip : Nat → Bool) (cl cr : Nat → Nat) (k : Nat) (L : List Nat) : Prop := L.Pairwise (· < ·) ∧ ∀ m, m ∈ L ↔ (m < 2 ^ k ∧ pc 32 m ≤ 3 ∧ cutP ip cl cr m k)
theorem asc_eq {L1 L2 : List Nat} (h1 : L1.Pairwise (· < ·)) (h2 : L2.Pairwise (· < ·)) (h : ∀ m, m ∈ L1 ↔ m ∈ L2) : L1 = L2 := by
  induction L1 generalizing L2 with
  | nil =>
    cases L2 with
    | nil => rfl
    | cons b t => exact absurd ((h b).2 (List.mem_cons_self ..)) (List.not_mem_nil)
  | cons a s ih =>
    cases L2 with
    | nil => exact absurd ((h a).1 (List.mem_cons_self ..)) (List.not_mem_nil)
    | cons b t =>
      rw [List.pairwise_cons] at h1 h2
      have hab : a = b := by
        have ha := (h a).1 (List.mem_cons_self ..)
        have hb := (h b).2 (List.mem_cons_self ..)
        rw [List.mem_cons] at ha hb
        rcases ha with ha | ha
        · exact ha
        · rcases hb with hb | hb
          · exact hb.symm
          · have x1 := h2.1 a ha
            have x2 := h1.1 b hb
            omega
      subst hab
      congr 1
      refine ih h1.2 h2.2 (fun m => ?_)
      have hm := h m
      rw [List.mem_cons, List.mem_cons] at hm
      constructor
      · intro q
        rcases hm.1 (Or.inr q) with e | e
        · have := h1.1 m q; omega
        · exact e
      · intro q
        rcases hm.2 (Or.inr q) with e | e
        · have := h2.1 m q; omega
        · exact e
theorem isCuts_eq {L1 L2 : List Nat} (h1 : isCuts ip cl cr k L1) (h2 : isCuts ip cl cr k L2) : L1 = L2 := asc_eq h1.1 h2.1 (fun m => by rw [h1.2, h2.2])
theorem cut_esc (hg : gOK ip cl cr n) (hk : k < n) (hb : blk ip cl cr m.testBit k = true) (hs : sml ip cl cr m k) (hm : m < 2 ^ k) : ∀ x, x < n → m.testBit x = true → esc ip cl cr m.testBit x := by
  intro x hx hmx hi hc
  have hxk := tb_of hm hmx
  have h1 := hs x hxk hmx
  have h2 := blk_drop hg hx hi hc (D := (m ^^^ 2 ^ x).testBit) (fun j hj => by rw [Nat.testBit_xor, Nat.testBit_two_pow, decide_eq_false (fun e => hj e.symm), Bool.xor_false]) k hk hb
  rw [h1] at h2
  cases h2
/-- a node of a cut's own set, or the node itself: the rows that are put together -/
def orSelf (ip : Nat → Bool) (cl cr : Nat → Nat) (k a : Nat) : Prop := a = 2 ^ k ∨ (a < 2 ^ k ∧ pc 32 a ≤ 3 ∧ cutP ip cl cr a k)
theorem os_lt {a : Nat} (h : orSelf ip cl cr k a) (hkn : k < n) : a < 2 ^ n := by
  have := Nat.pow_lt_pow_right (show 1 < 2 by decide) hkn
  rcases h with h | h
  · omega
  · omega
theorem os_blk {a : Nat} (h : orSelf ip cl cr k a) : blk ip cl cr a.testBit k = true := by
  rcases h with h | h
  · subst h; exact blk_in Nat.testBit_two_pow_self
  · exact h.2.2.1
/-- the part of m below k is what is met first -/
theorem os_fr {a : Nat} (hg : gOK ip cl cr n) (hk : k < n) (h : orSelf ip cl cr k a) (he : ∀ x, x < n → m.testBit x = true → esc ip cl cr m.testBit x) (hs : ∀ x, a.testBit x = true → m.testBit x = true) (x : Nat) : a.testBit x = fr ip cl cr m.testBit k x := by
  have h1 := fr_least hg he k hk hs (os_blk h) x
  cases e : fr ip cl cr m.testBit k x with
  | true => exact h1 e
  | false =>
    cases ea : a.testBit x with
    | false => rfl
    | true =>
      exfalso
      rcases h with h | h
      · subst h
        rw [Nat.testBit_two_pow, decide_eq_true_eq] at ea
        subst ea
        rw [fr_in (hs k Nat.testBit_two_pow_self)] at e
        simp at e
      · have hx := tb_of h.1 ea
        have h2 := h.2.2.2 x hx ea
        have hbm : blk ip cl cr m.testBit k = true := blk_mono hg k hk (fun j _ => hs j) h.2.2.1
        have h3 := fr_blk hg k hk hbm (a ^^^ 2 ^ x).testBit (fun y hy => by
          have hay := fr_least hg he k hk hs h.2.2.1 y hy
          have hne : ¬ x = y := fun q => by subst q; rw [hy] at e; cases e
          rw [Nat.testBit_xor, Nat.testBit_two_pow, decide_eq_false hne, Bool.xor_false]
          exact hay)
        rw [h2] at h3
        cases h3
/-- what two rows' parts make: both parts come back from it -/
theorem os_uniq {a b a' b' l r : Nat} (hg : gOK ip cl cr n) (hk : k < n) (hi : ip k = false) (hl : cl k = l) (hr : cr k = r) (h1 : orSelf ip cl cr l a) (h2 : orSelf ip cl cr r b) (h3 : orSelf ip cl cr l a') (h4 : orSelf ip cl cr r b') (e : a ||| b = a' ||| b') (hs : sml ip cl cr (a ||| b) k) : a = a' ∧ b = b' := by
  obtain ⟨g1, g2⟩ := hg k hk hi
  rw [hl] at g1
  rw [hr] at g2
  have hm : a ||| b < 2 ^ k := Nat.or_lt_two_pow (os_lt h1 g1) (os_lt h2 g2)
  have sa : ∀ x, a.testBit x = true → (a ||| b).testBit x = true := fun x hx => by rw [Nat.testBit_or, hx, Bool.true_or]
  have sb : ∀ x, b.testBit x = true → (a ||| b).testBit x = true := fun x hx => by rw [Nat.testBit_or, hx, Bool.or_true]
  have sa' : ∀ x, a'.testBit x = true → (a ||| b).testBit x = true := fun x hx => by rw [e, Nat.testBit_or, hx, Bool.true_or]
  have sb' : ∀ x, b'.testBit x = true → (a ||| b).testBit x = true := fun x hx => by rw [e, Nat.testBit_or, hx, Bool.or_true]
  have hb : blk ip cl cr (a ||| b).testBit k = true := by
    rw [blk_and (Nat.testBit_lt_two_pow hm) hi (by rw [hl, hr]; exact ⟨g1, g2⟩), hl, hr, blk_mono hg l (by omega) (fun j _ => sa j) (os_blk h1), blk_mono hg r (by omega) (fun j _ => sb j) (os_blk h2)]
    rfl
  have he := cut_esc hg hk hb hs hm
  constructor
  · apply Nat.eq_of_testBit_eq
    intro x
    rw [os_fr hg (by omega) h1 he sa x, os_fr hg (by omega) h3 he sa' x]
  · apply Nat.eq_of_testBit_eq
    intro x
    rw [os_fr hg (by omega) h2 he sb x, os_fr hg (by omega) h4 he sb' x]
theorem os_blkk {a b l r : Nat} (hg : gOK ip cl cr n) (hk : k < n) (hi : ip k = false) (hl : cl k = l) (hr : cr k = r) (h1 : orSelf ip cl cr l a) (h2 : orSelf ip cl cr r b) : (a ||| b) < 2 ^ k ∧ blk ip cl cr (a ||| b).testBit k = true := by
  obtain ⟨g1, g2⟩ := hg k hk hi
  rw [hl] at g1
  rw [hr] at g2
  have hm : a ||| b < 2 ^ k := Nat.or_lt_two_pow (os_lt h1 g1) (os_lt h2 g2)
  refine ⟨hm, ?_⟩
  rw [blk_and (Nat.testBit_lt_two_pow hm) hi (by rw [hl, hr]; exact ⟨g1, g2⟩), hl, hr, blk_mono hg l (by omega) (fun j _ hx => by rw [Nat.testBit_or, hx, Bool.true_or]) (os_blk h1), blk_mono hg r (by omega) (fun j _ hx => by rw [Nat.testBit_or, hx, Bool.or_true]) (os_blk h2)]
  rfl
theorem fr_os (hg : gOK ip cl cr n) (hn : n ≤ 32) {l : Nat} (hl : l < n) (hb : blk ip cl cr m.testBit l = true) (hp : pc 32 m ≤ 3) (he : ∀ x, x < n → m.testBit x = true → esc ip cl cr m.testBit x) : orSelf ip cl cr l (mk n (fr ip cl cr m.testBit l)) ∧ (∀ x, (mk n (fr ip cl cr m.testBit l)).testBit x = fr ip cl cr m.testBit l x) := by
  have hbit : ∀ x, (mk n (fr ip cl cr m.testBit l)).testBit x = fr ip cl cr m.testBit l x := by
    intro x
    rw [mk_bit]
    cases e : fr ip cl cr m.testBit l x with
    | false => rw [Bool.and_false]
    | true => have := (fr_sub hg l hl x e).2; simp; omega
  refine ⟨?_, hbit⟩
  cases eC : m.testBit l with
  | true =>
    left
    apply Nat.eq_of_testBit_eq
    intro x
    rw [hbit, fr_in eC, Nat.testBit_two_pow]
    by_cases q : x = l
    · subst q; simp
    · rw [decide_eq_false q, decide_eq_false (fun z => q z.symm)]
  | false =>
    right
    have hsub : ∀ x, fr ip cl cr m.testBit l x = true → m.testBit x = true := fun x hx => (fr_sub hg l hl x hx).1
    refine ⟨tb_lt (fun i hi => ?_), ?_, ?_, ?_⟩
    · rw [hbit]
      cases e : fr ip cl cr m.testBit l i with
      | false => rfl
      | true =>
        have h1 := fr_sub hg l hl i e
        have : i = l := by omega
        subst this
        rw [eC] at h1
        cases h1.1
    · refine Nat.le_trans (pc_mono (fun i _ hx => ?_)) hp
      rw [hbit] at hx
      exact hsub i hx
    · exact fr_blk hg l hl hb _ (fun x hx => by rw [hbit]; exact hx)
    · intro i hi hx
      cases e : blk ip cl cr (mk n (fr ip cl cr m.testBit l) ^^^ 2 ^ i).testBit l with
      | false => rfl
      | true =>
        exfalso
        have h1 := fr_least hg he l hl (X := (mk n (fr ip cl cr m.testBit l) ^^^ 2 ^ i).testBit) (fun j hj => by
          rw [Nat.testBit_xor, hbit, Nat.testBit_two_pow] at hj
          by_cases q : i = j
          · subst q; rw [hbit] at hx; exact hsub i hx
          · rw [decide_eq_false q, Bool.xor_false] at hj; exact hsub j hj) e i (by rw [hbit] at hx; exact hx)
        rw [Nat.testBit_xor, hx, Nat.testBit_two_pow_self] at h1
        cases h1
/-- every cut is put together of two parts -/
theorem os_all {l r : Nat} (hg : gOK ip cl cr n) (hn : n ≤ 32) (hk : k < n) (hi : ip k = false) (hl : cl k = l) (hr : cr k = r) (hm : m < 2 ^ k) (hp : pc 32 m ≤ 3) (hc : cutP ip cl cr m k) : ∃ a b, orSelf ip cl cr l a ∧ orSelf ip cl cr r b ∧ m = a ||| b := by
  obtain ⟨g1, g2⟩ := hg k hk hi
  have he := cut_esc hg hk hc.1 hc.2 hm
  have hb := hc.1
  rw [blk_and (Nat.testBit_lt_two_pow hm) hi ⟨g1, g2⟩, Bool.and_eq_true] at hb
  rw [hl, hr] at hb
  rw [hl] at g1
  rw [hr] at g2
  obtain ⟨o1, b1⟩ := fr_os hg hn (l := l) (by omega) hb.1 hp he
  obtain ⟨o2, b2⟩ := fr_os hg hn (l := r) (by omega) hb.2 hp he
  refine ⟨_, _, o1, o2, ?_⟩
  apply Nat.eq_of_testBit_eq
  intro x
  rw [Nat.testBit_or, b1, b2]
  cases e : (fr ip cl cr m.testBit l x || fr ip cl cr m.testBit r x) with
  | true =>
    rw [Bool.or_eq_true] at e
    rcases e with e | e
    · exact (fr_sub hg l (by omega) x e).1
    · exact (fr_sub hg r (by omega) x e).1
  | false =>
    rw [Bool.or_eq_false_iff] at e
    cases ex : m.testBit x with
    | false => rfl
    | true =>
      exfalso
      have hxk := tb_of hm ex
      have hs := hc.2 x hxk ex
      have hx2 : ∀ y, m.testBit y = true → ¬ x = y → (m ^^^ 2 ^ x).testBit y = true := fun y hy hne => by rw [Nat.testBit_xor, Nat.testBit_two_pow, decide_eq_false hne, Bool.xor_false]; exact hy
      have k1 := fr_blk hg l (by omega) hb.1 (m ^^^ 2 ^ x).testBit (fun y hy => hx2 y (fr_sub hg l (by omega) y hy).1 (fun q => by subst q; rw [hy] at e; cases e.1))
      have k2 := fr_blk hg r (by omega) hb.2 (m ^^^ 2 ^ x).testBit (fun y hy => hx2 y (fr_sub hg r (by omega) y hy).1 (fun q => by subst q; rw [hy] at e; cases e.2))
      have hk0 : (m ^^^ 2 ^ x).testBit k = false := by rw [Nat.testBit_xor, Nat.testBit_lt_two_pow hm, Nat.testBit_two_pow, decide_eq_false (by omega)]; rfl
      rw [blk_and hk0 hi (by rw [hl, hr]; exact ⟨g1, g2⟩), hl, hr, k1, k2] at hs
      cases hs
theorem os_mem {L : List Nat} (h : isCuts ip cl cr k L) (a : Nat) : a ∈ L ++ [2 ^ k] ↔ orSelf ip cl cr k a := by
  rw [List.mem_append, List.mem_singleton, h.2]
  exact Or.comm
theorem os_asc {L : List Nat} (h : isCuts ip cl cr k L) : (L ++ [2 ^ k]).Pairwise (· < ·) := by
  rw [List.pairwise_append]
  refine ⟨h.1, List.pairwise_singleton _ _, fun a ha b hb => ?_⟩
  rw [List.mem_singleton] at hb
  subst hb
  exact ((h.2 a).1 ha).1
end CUTS
