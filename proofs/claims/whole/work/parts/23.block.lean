/-! 23 BLOCK: sets of nodes that every way down meets. A graph: ip (inputs), cl, cr (the two nodes of an AND), all below; a set: Nat → Bool -/
def gOK (ip : Nat → Bool) (cl cr : Nat → Nat) (n : Nat) : Prop := ∀ k, k < n → ip k = false → cl k < k ∧ cr k < k
/-- every way from k down to an input meets C -/
def blk (ip : Nat → Bool) (cl cr : Nat → Nat) (C : Nat → Bool) (k : Nat) : Bool :=
  C k || (!ip k && (if h : cl k < k ∧ cr k < k then blk ip cl cr C (cl k) && blk ip cl cr C (cr k) else false))
termination_by k
decreasing_by
  · exact h.1
  · exact h.2
section BLK
variable {ip : Nat → Bool} {cl cr : Nat → Nat} {C D X : Nat → Bool} {n k : Nat}
theorem blk_in (h : C k = true) : blk ip cl cr C k = true := by rw [blk]; simp [h]
theorem blk_inp (hC : C k = false) (hi : ip k = true) : blk ip cl cr C k = false := by rw [blk]; simp [hC, hi]
theorem blk_and (hC : C k = false) (hi : ip k = false) (h : cl k < k ∧ cr k < k) : blk ip cl cr C k = (blk ip cl cr C (cl k) && blk ip cl cr C (cr k)) := by rw [blk]; simp [hC, hi, h]
theorem blk_mono (hg : gOK ip cl cr n) : ∀ k, k < n → (∀ j, j ≤ k → C j = true → D j = true) → blk ip cl cr C k = true → blk ip cl cr D k = true := by
  intro k
  induction k using Nat.strongRecOn with
  | ind k ih =>
    intro hk hs h
    cases hC : C k with
    | true => exact blk_in (hs k (Nat.le_refl k) hC)
    | false =>
      cases hi : ip k with
      | true => rw [blk_inp hC hi] at h; cases h
      | false =>
        obtain ⟨h1, h2⟩ := hg k hk hi
        rw [blk_and hC hi ⟨h1, h2⟩, Bool.and_eq_true] at h
        cases hD : D k with
        | true => exact blk_in hD
        | false =>
          rw [blk_and hD hi ⟨h1, h2⟩, Bool.and_eq_true]
          exact ⟨ih _ h1 (by omega) (fun j hj => hs j (by omega)) h.1, ih _ h2 (by omega) (fun j hj => hs j (by omega)) h.2⟩
theorem blk_congr (hg : gOK ip cl cr n) (hk : k < n) (hs : ∀ j, j ≤ k → C j = D j) : blk ip cl cr C k = blk ip cl cr D k := by
  cases h : blk ip cl cr C k with
  | true => exact (blk_mono hg k hk (fun j hj hc => by rw [← hs j hj]; exact hc) h).symm
  | false =>
    cases h2 : blk ip cl cr D k with
    | false => rfl
    | true => rw [blk_mono hg k hk (fun j hj hc => by rw [hs j hj]; exact hc) h2] at h; cases h
theorem blk_none (hg : gOK ip cl cr n) : ∀ k, k < n → (∀ j, j ≤ k → C j = false) → blk ip cl cr C k = false := by
  intro k
  induction k using Nat.strongRecOn with
  | ind k ih =>
    intro hk hs
    cases hi : ip k with
    | true => exact blk_inp (hs k (Nat.le_refl k)) hi
    | false =>
      obtain ⟨h1, h2⟩ := hg k hk hi
      rw [blk_and (hs k (Nat.le_refl k)) hi ⟨h1, h2⟩, ih _ h1 (by omega) (fun j hj => hs j (by omega))]
      rfl
/-- x is a leaf that can't be left out below: a way goes on from it past C -/
def esc (ip : Nat → Bool) (cl cr : Nat → Nat) (C : Nat → Bool) (x : Nat) : Prop := ip x = false → ¬ (blk ip cl cr C (cl x) = true ∧ blk ip cl cr C (cr x) = true)
/-- what is met first on the ways down from k -/
def fr (ip : Nat → Bool) (cl cr : Nat → Nat) (C : Nat → Bool) (k : Nat) (x : Nat) : Bool :=
  if C k then decide (x = k) else (!ip k && (if h : cl k < k ∧ cr k < k then fr ip cl cr C (cl k) x || fr ip cl cr C (cr k) x else false))
termination_by k
decreasing_by
  · exact h.1
  · exact h.2
theorem fr_in {x : Nat} (h : C k = true) : fr ip cl cr C k x = decide (x = k) := by rw [fr]; simp [h]
theorem fr_inp {x : Nat} (hC : C k = false) (hi : ip k = true) : fr ip cl cr C k x = false := by rw [fr]; simp [hC, hi]
theorem fr_and {x : Nat} (hC : C k = false) (hi : ip k = false) (h : cl k < k ∧ cr k < k) : fr ip cl cr C k x = (fr ip cl cr C (cl k) x || fr ip cl cr C (cr k) x) := by rw [fr]; simp [hC, hi, h]
theorem fr_sub (hg : gOK ip cl cr n) : ∀ k, k < n → ∀ x, fr ip cl cr C k x = true → C x = true ∧ x ≤ k := by
  intro k
  induction k using Nat.strongRecOn with
  | ind k ih =>
    intro hk x h
    cases hC : C k with
    | true =>
      rw [fr_in hC, decide_eq_true_eq] at h
      subst h; exact ⟨hC, Nat.le_refl _⟩
    | false =>
      cases hi : ip k with
      | true => rw [fr_inp hC hi] at h; cases h
      | false =>
        obtain ⟨h1, h2⟩ := hg k hk hi
        rw [fr_and hC hi ⟨h1, h2⟩, Bool.or_eq_true] at h
        rcases h with h | h
        · have := ih _ h1 (by omega) x h; exact ⟨this.1, by omega⟩
        · have := ih _ h2 (by omega) x h; exact ⟨this.1, by omega⟩
/-- whatever blocks k inside C holds what is met first -/
theorem fr_least (hg : gOK ip cl cr n) (he : ∀ x, x < n → C x = true → esc ip cl cr C x) : ∀ k, k < n → (∀ j, X j = true → C j = true) → blk ip cl cr X k = true → ∀ x, fr ip cl cr C k x = true → X x = true := by
  intro k
  induction k using Nat.strongRecOn with
  | ind k ih =>
    intro hk hX h x hx
    cases hC : C k with
    | true =>
      rw [fr_in hC, decide_eq_true_eq] at hx
      subst hx
      cases hXk : X x with
      | true => rfl
      | false =>
        cases hi : ip x with
        | true => rw [blk_inp hXk hi] at h; cases h
        | false =>
          obtain ⟨h1, h2⟩ := hg x hk hi
          rw [blk_and hXk hi ⟨h1, h2⟩, Bool.and_eq_true] at h
          exact absurd ⟨blk_mono hg _ (by omega) (fun j _ => hX j) h.1, blk_mono hg _ (by omega) (fun j _ => hX j) h.2⟩ (he x hk hC hi)
    | false =>
      cases hi : ip k with
      | true => rw [fr_inp hC hi] at hx; cases hx
      | false =>
        obtain ⟨h1, h2⟩ := hg k hk hi
        have hXk : X k = false := by
          cases e : X k with
          | false => rfl
          | true => rw [hX k e] at hC; cases hC
        rw [fr_and hC hi ⟨h1, h2⟩, Bool.or_eq_true] at hx
        rw [blk_and hXk hi ⟨h1, h2⟩, Bool.and_eq_true] at h
        rcases hx with hx | hx
        · exact ih _ h1 (by omega) hX h.1 x hx
        · exact ih _ h2 (by omega) hX h.2 x hx
/-- and what is met first blocks -/
theorem fr_blk (hg : gOK ip cl cr n) : ∀ k, k < n → blk ip cl cr C k = true → ∀ Y : Nat → Bool, (∀ x, fr ip cl cr C k x = true → Y x = true) → blk ip cl cr Y k = true := by
  intro k
  induction k using Nat.strongRecOn with
  | ind k ih =>
    intro hk h Y hY
    cases hC : C k with
    | true => exact blk_in (hY k (by rw [fr_in hC]; simp))
    | false =>
      cases hi : ip k with
      | true => rw [blk_inp hC hi] at h; cases h
      | false =>
        obtain ⟨h1, h2⟩ := hg k hk hi
        rw [blk_and hC hi ⟨h1, h2⟩, Bool.and_eq_true] at h
        have a1 := ih _ h1 (by omega) h.1 Y (fun x hx => hY x (by rw [fr_and hC hi ⟨h1, h2⟩, hx]; rfl))
        have a2 := ih _ h2 (by omega) h.2 Y (fun x hx => hY x (by rw [fr_and hC hi ⟨h1, h2⟩, hx, Bool.or_true]))
        cases e : Y k with
        | true => exact blk_in e
        | false => rw [blk_and e hi ⟨h1, h2⟩, a1, a2]; rfl
/-- without a leaf below which all is blocked, the same is blocked -/
theorem blk_drop (hg : gOK ip cl cr n) {x : Nat} (hx : x < n) (hi : ip x = false) (hb : blk ip cl cr C (cl x) = true ∧ blk ip cl cr C (cr x) = true) (hD : ∀ j, j ≠ x → D j = C j) : ∀ k, k < n → blk ip cl cr C k = true → blk ip cl cr D k = true := by
  have below : ∀ k, k < x → blk ip cl cr C k = blk ip cl cr D k := fun k hk => blk_congr hg (by omega) (fun j hj => (hD j (by omega)).symm)
  intro k
  induction k using Nat.strongRecOn with
  | ind k ih =>
    intro hk h
    by_cases hkx : k = x
    · subst hkx
      obtain ⟨h1, h2⟩ := hg k hk hi
      cases e : D k with
      | true => exact blk_in e
      | false => rw [blk_and e hi ⟨h1, h2⟩, ← below _ h1, ← below _ h2, hb.1, hb.2]; rfl
    · cases hC : C k with
      | true => exact blk_in (by rw [hD k hkx]; exact hC)
      | false =>
        have hDk : D k = false := by rw [hD k hkx]; exact hC
        cases hj : ip k with
        | true => rw [blk_inp hC hj] at h; cases h
        | false =>
          obtain ⟨h1, h2⟩ := hg k hk hj
          rw [blk_and hC hj ⟨h1, h2⟩, Bool.and_eq_true] at h
          rw [blk_and hDk hj ⟨h1, h2⟩, Bool.and_eq_true]
          exact ⟨ih _ h1 (by omega) h.1, ih _ h2 (by omega) h.2⟩
end BLK
