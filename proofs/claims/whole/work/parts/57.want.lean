/-! 57 WANT: the class's wantedFor is the least set -/
def pnL (pn P : Nat → Nat) (l p : Nat) : Prop := ∃ q, q < pn (ceP P l) ∧ piP P l q = p
def Wt (A : Nat → Prop) (ip : Nat → Bool) (pn P : Nat → Nat) (l : Nat) : Prop := ∀ X : Nat → Prop, (∀ l, A l → hgP ip P l = true → X l) → (∀ l p, X l → pnL pn P l p → hgP ip P p = true → X p) → X l
section WN
variable {S : CS} {K N l : Nat} {pn tr ar de P : Nat → Nat} {ip : Nat → Bool} {il ir : Nat → Nat} {A : Nat → Prop} {D : Nat → Prop}
theorem Wt_out (h1 : A l) (h2 : hgP ip P l = true) : Wt A ip pn P l := fun _ a _ => a l h1 h2
theorem Wt_pin {p : Nat} (h : Wt A ip pn P l) (h1 : pnL pn P l p) (h2 : hgP ip P p = true) : Wt A ip pn P p := fun X a b => b l p (h X a b) h1 h2
theorem pnL_lt {p : Nat} (hN : N ≤ 32) (hg : gSt N K pn ip P) (hl : l < 2 * N) (h : hgP ip P l = true) (hp : pnL pn P l p) : p < 2 * N := by
  obtain ⟨q, hq, e⟩ := hp
  rcases (hg l hl h).2 with g | g
  · have := (g.2 q hq).1
    omega
  · have : q = 0 := by omega
    subst this
    rw [← e, g.2.2.1]
    exact (x1_lt hl hN).1
theorem Wt_lt (hN : N ≤ 32) (hg : gSt N K pn ip P) (hA : ∀ l, A l → l < 2 * N) (h : Wt A ip pn P l) : l < 2 * N ∧ hgP ip P l = true :=
  h (fun l => l < 2 * N ∧ hgP ip P l = true) (fun l a b => ⟨hA l a, b⟩) (fun l p a b c => ⟨pnL_lt hN hg a.1 a.2 b, c⟩)
def wIv (A : Nat → Prop) (D : Nat → Prop) (N : Nat) (ip : Nat → Bool) (pn P : Nat → Nat) (w : Nat) : Prop :=
  (∀ l, w.testBit l = true → l < 2 * N ∧ (A l ∨ ∃ l', Wt A ip pn P l' ∧ pnL pn P l' l)) ∧ (∀ l, D l → w.testBit l = true → hgP ip P l = true) ∧ (∀ l, A l → hgP ip P l = true → w.testBit l = true) ∧ ∀ l, D l → w.testBit l = true → ∀ p, pnL pn P l p → hgP ip P p = true → w.testBit p = true
def wSp (ip : Nat → Bool) (pn P : Nat → Nat) (w b w' : Nat) : Prop := (w.testBit b = false → w' = w) ∧ (w.testBit b = true → hgP ip P b = false → ∀ l, w'.testBit l = (w.testBit l && decide (l ≠ b))) ∧ (w.testBit b = true → hgP ip P b = true → ∀ l, w'.testBit l = true ↔ (w.testBit l = true ∨ pnL pn P b l))
theorem wI_step {w w' b : Nat} (h : wIv A D N ip pn P w) (hp : hgP ip P b = true → ∀ p, pnL pn P b p → ¬ D p ∧ p ≠ b ∧ p < 2 * N) (s : wSp ip pn P w b w') : wIv A (fun l => D l ∨ l = b) N ip pn P w' := by
  obtain ⟨h1, h2, h3, h4⟩ := h
  obtain ⟨s1, s2, s3⟩ := s
  cases hb : w.testBit b
  · rw [s1 hb]
    refine ⟨h1, fun l d => ?_, h3, fun l d => ?_⟩
    · rcases d with d | d
      · exact h2 l d
      · intro q; rw [d, hb] at q; cases q
    · rcases d with d | d
      · exact h4 l d
      · intro q; rw [d, hb] at q; cases q
  · cases hh : hgP ip P b
    · have s := s2 hb hh
      have t : ∀ l, w'.testBit l = true → w.testBit l = true ∧ l ≠ b := fun l q => by
        rw [s l, Bool.and_eq_true, decide_eq_true_iff] at q; exact q
      have t' : ∀ l, w.testBit l = true → l ≠ b → w'.testBit l = true := fun l q r => by
        rw [s l, q, decide_eq_true r]; rfl
      refine ⟨fun l q => h1 l (t l q).1, fun l d q => ?_, fun l a g => t' l (h3 l a g) (fun e => ?_), fun l d q p a g => t' p ?_ (fun e => ?_)⟩
      · rcases d with d | d
        · exact h2 l d (t l q).1
        · exact absurd d (t l q).2
      · rw [e, hh] at g; cases g
      · rcases d with d | d
        · exact h4 l d (t l q).1 p a g
        · exact absurd d (t l q).2
      · rw [e, hh] at g; cases g
    · have s := s3 hb hh
      have hW : Wt A ip pn P b := by
        rcases (h1 b hb).2 with a | ⟨l', a, c⟩
        · exact Wt_out a hh
        · exact Wt_pin a c hh
      refine ⟨fun l q => ?_, fun l d q => ?_, fun l a g => (s l).2 (Or.inl (h3 l a g)), fun l d q p a g => ?_⟩
      · rcases (s l).1 q with r | r
        · exact h1 l r
        · exact ⟨(hp hh l r).2.2, Or.inr ⟨b, hW, r⟩⟩
      · rcases (s l).1 q with r | r
        · rcases d with d | d
          · exact h2 l d r
          · rw [d]; exact hh
        · rcases d with d | d
          · exact absurd d (hp hh l r).1
          · exact absurd d (hp hh l r).2.1
      · rcases (s l).1 q with r | r
        · rcases d with d | d
          · exact (s p).2 (Or.inl (h4 l d r p a g))
          · rw [d] at a; exact (s p).2 (Or.inr a)
        · rcases d with d | d
          · exact absurd d (hp hh l r).1
          · exact absurd d (hp hh l r).2.1
theorem lx_m1 : (-1 : Int64) = lN (2 ^ 64 - 1) := rfl
theorem lx_one {k : Nat} (hk : k < 64) : lshl (1 : Int64) (nI k) = lN (2 ^ k) := by
  have := lx_shl 1 hk
  rw [Nat.one_mul] at this
  exact this
theorem or2_bit {v p l : Nat} : (v ||| 2 ^ p).testBit l = true ↔ (v.testBit l = true ∨ p = l) := by
  rw [Nat.testBit_or, Bool.or_eq_true, Nat.testBit_two_pow, decide_eq_true_iff]
theorem p2_64 {p : Nat} (h : p < 64) : 2 ^ p < 2 ^ 64 := Nat.pow_lt_pow_right (by omega) h
theorem q_withPins {post : Int64 → Prop} {w b : Nat} (hG : cG S ip il ir N) (hS : cGt S N P) (hh : cSh S K pn tr ar de) (hg : gSt N K pn ip P) (hb : b < 2 * N) (hw : w < 2 ^ 64)
    (hp : ∀ w', w' < 2 ^ 64 → wSp ip pn P w b w' → post (lN w')) : p_X1_withPins S (lN w) (nI b) post := by
  have hN := hG.1
  unfold p_X1_withPins
  refine c2n (lx_bit0 hw (by omega)) (fun z => ?_) (fun z => ?_)
  · rw [Bool.not_eq_false] at z
    refine q_hasGate hG hS hb ?_
    refine c2n (bI_0 _) (fun y => ?_) (fun y => ?_)
    · rw [Bool.not_eq_false] at y
      have hx := (hg_iff.1 y).1
      have hc := (hg b hb y).1
      obtain ⟨c1, c2', c3, _⟩ := hh.2.2 _ hc
      have hK := hh.2.1
      unfold p_X1_withPins_36
      refine ⟨fun x4 x6 => ∃ v q : Nat, x4 = lN v ∧ v < 2 ^ 64 ∧ x6 = nI q ∧ q ≤ pn (ceP P b) ∧ ∀ l, v.testBit l = true ↔ (w.testBit l = true ∨ ∃ j, j < q ∧ piP P b j = l), fun _ x6 => pn (ceP P b) - x6.toNatClampNeg, ⟨w, 0, rfl, hw, rfl, by omega, fun l => ⟨fun a => Or.inl a, fun a => a.elim id (fun ⟨j, a, _⟩ => absurd a (by omega))⟩⟩, ?_⟩
      rintro x4 x6 ⟨v, q, rfl, hv, rfl, hq, hs⟩
      unfold b_X1_withPins_36
      refine q_cellOf hN hS hb hx ?_
      rw [bx_cl (show ceP P b < 2 ^ 31 by omega), c2']
      refine ⟨bx_in (by omega) (by omega), ?_⟩
      refine c2 (nI_leI (by omega) (by omega)) (fun a => ?_) (fun a => ?_)
      · have : q = pn (ceP P b) := by omega
        subst this
        exact hp v hv ⟨fun r => absurd (z.symm.trans r) (by decide), fun _ r => absurd (y.symm.trans r) (by decide), fun _ _ l => hs l⟩
      · refine q_pinLiteral hN hS hb hx (by omega) ?_
        have hp6 : piP P b q < 64 := Nat.mod_lt _ (by decide)
        intro y11 e11 y12 e12
        rw [lx_one hp6, lx_or] at e11
        refine ⟨⟨v ||| 2 ^ piP P b q, q + 1, e11, Nat.or_lt_two_pow hv (p2_64 hp6), by rw [e12, nI_1], by omega, fun l => ?_⟩, mu_up e12 (by omega) (by omega)⟩
        rw [or2_bit, hs l, or_assoc]
        refine or_congr Iff.rfl ⟨fun r => ?_, fun ⟨j, r1, r2⟩ => ?_⟩
        · rcases r with ⟨j, r1, r2⟩ | r
          · exact ⟨j, by omega, r2⟩
          · exact ⟨q, by omega, r⟩
        · by_cases e : j = q
          · subst e; exact Or.inr r2
          · exact Or.inl ⟨j, by omega, r2⟩
    · rw [lx_one (by omega), lx_m1, lx_xor, lx_and]
      refine hp _ (Nat.lt_of_le_of_lt Nat.and_le_left hw) ⟨fun r => absurd (z.symm.trans r) (by decide), fun _ _ l => ?_, fun _ r => absurd (y.symm.trans r) (by decide)⟩
      rw [Nat.testBit_and]
      cases hl : w.testBit l
      · rfl
      · have : l < 64 := tb_of hw hl
        rw [Bool.true_and, Bool.true_and, Nat.testBit_xor, Nat.testBit_two_pow, Nat.testBit_two_pow_sub_one, decide_eq_true this]
        by_cases e : b = l
        · rw [decide_eq_true e, decide_eq_false (show ¬ l ≠ b from fun h => h e.symm)]; rfl
        · rw [decide_eq_false e, decide_eq_true (show l ≠ b from fun h => e h.symm)]; rfl
  · exact hp w hw ⟨fun _ => rfl, fun r => absurd (z.symm.trans r) (by decide), fun r => absurd (z.symm.trans r) (by decide)⟩
theorem wI_mono {D' : Nat → Prop} {w : Nat} (h : wIv A D N ip pn P w) (hd : ∀ l, l < 2 * N → D' l → D l) : wIv A D' N ip pn P w := by
  obtain ⟨h1, h2, h3, h4⟩ := h
  exact ⟨h1, fun l d q => h2 l (hd l (h1 l q).1 d) q, h3, fun l d q => h4 l (hd l (h1 l q).1 d) q⟩
theorem q_wantedFor {post : Int64 → Prop} {w : Nat} (hG : cG S ip il ir N) (hNC : cNC S = nI N) (hS : cGt S N P) (hh : cSh S K pn tr ar de) (hg : gSt N K pn ip P) (hw : w < 2 ^ 64) (hA : ∀ l, w.testBit l = true ↔ A l) (hA2 : ∀ l, A l → l < 2 * N)
    (hp : ∀ w', w' < 2 ^ 64 → (∀ l, w'.testBit l = true ↔ Wt A ip pn P l) → post (lN w')) : p_X1_wantedFor S (lN w) post := by
  have hN := hG.1
  unfold p_X1_wantedFor
  intro y1 e1
  rw [hNC, bx_sub1] at e1
  unfold p_X1_wantedFor_13
  refine ⟨fun x3 x5 => ∃ v n : Nat, x3 = lN v ∧ v < 2 ^ 64 ∧ x5 = nI n + (-1 : Int32) ∧ n ≤ N ∧ wIv A (fun l => n ≤ l / 2) N ip pn P v, fun _ x5 => (x5 + 1).toNatClampNeg, ⟨w, N, rfl, hw, e1, by omega, fun l q => ⟨hA2 l ((hA l).1 q), Or.inl ((hA l).1 q)⟩, fun l d q => absurd (hA2 l ((hA l).1 q)) (by omega), fun l a _ => (hA l).2 a, fun l d q => absurd (hA2 l ((hA l).1 q)) (by omega)⟩, ?_⟩
  rintro x3 x5 ⟨v, n, rfl, hv, rfl, hn, hI⟩
  unfold b_X1_wantedFor_13
  refine c2 (bx_neg n (by omega)) (fun z => ?_) (fun z => ?_)
  · subst z
    obtain ⟨h1, h2, h3, h4⟩ := hI
    refine hp v hv (fun l => ⟨fun q => ?_, fun q => q (fun l => v.testBit l = true) h3 (fun l p a => h4 l (Nat.zero_le _) a p)⟩)
    rcases (h1 l q).2 with a | ⟨l', a, c⟩
    · exact Wt_out a (h2 l (Nat.zero_le _) q)
    · exact Wt_pin a c (h2 l (Nat.zero_le _) q)
  · obtain ⟨m, rfl⟩ : ∃ m, n = m + 1 := ⟨n - 1, by omega⟩
    rw [bx_dec]
    obtain ⟨b1, b2, b3, b4, b5, b6, b7⟩ := bs_x (ip := ip) (P := P) (n := m) (by omega)
    obtain ⟨d1, d2⟩ := bs_dn hN (show m < N by omega) hg
    refine q_baseLiteral hG hS (by omega) ?_
    rw [show (1 : Int32) = nI 1 from rfl, bx_xor]
    refine q_withPins hG hS hh hg (by omega) hv (fun v1 hv1 s1 => ?_)
    have i1 := wI_step hI (b := bsP ip P m ^^^ 1) (fun g p hpn => by
      obtain ⟨q, hq, e⟩ := hpn
      have := (d2 g q hq).1
      rw [e] at this
      rcases this with t | t
      · exact ⟨by omega, by intro r; rw [r] at t; omega, by omega⟩
      · rw [t]; exact ⟨by omega, fun r => b7 r.symm, by omega⟩) s1
    refine q_withPins hG hS hh hg (by omega) hv1 (fun v2 hv2 s2 => ?_)
    have i2 := wI_step i1 (b := bsP ip P m) (fun g p hpn => by
      obtain ⟨q, hq, e⟩ := hpn
      have t := (d1 g q hq).1
      rw [e] at t
      exact ⟨by rintro (r | r); · omega
                · rw [r] at t; omega, by intro r; rw [r] at t; omega, by omega⟩) s2
    intro y9 e9
    refine ⟨⟨v2, m, rfl, hv2, e9, by omega, wI_mono i2 (fun l _ d => ?_)⟩, mu_dn e9 (by omega)⟩
    by_cases e : l / 2 = m
    · rcases b5 l e with r | r
      · exact Or.inr r
      · exact Or.inl (Or.inr r)
    · exact Or.inl (Or.inl (by omega))
end WN
