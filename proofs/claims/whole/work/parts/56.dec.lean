/-! 56 DEC: both sides read a settled literal -/
section DC
variable {S : CS} {M : MS} {K N l T : Nat} {pn tr ar de P : Nat → Nat} {ip : Nat → Bool} {il ir : Nat → Nat} {post : Int32 → Prop}
/-- the class holds the numbers P of the literals below 2N -/
def cGt (S : CS) (N : Nat) (P : Nat → Nat) : Prop := ∀ l, l < 2 * N → cGA S l = lN (P l) ∧ gN (2000 * N) (P l)
theorem gN_43 {x : Nat} (h : gN (2000 * N) x) (hN : N ≤ 32) (hx : x ≠ tp) : x < 2 ^ 43 := by
  rcases (gN_lt h (by omega)).2 with e | e
  · exact absurd e hx
  · exact e
theorem q_isPlainInput (hG : cG S ip il ir N) (hl : l < 2 * N) (hp : post (bI (plI ip l))) : p_X2_isPlainInput S (nI l) post := by
  have hN := hG.1
  unfold p_X2_isPlainInput
  unfold plI at hp
  refine c2n bx_odd (fun h => ?_) (fun h => ?_)
  · rw [tb_0] at h
    rw [decide_eq_false (by intro z; exact h (decide_eq_false (by omega))), Bool.false_and] at hp
    exact hp
  · rw [tb_0] at h
    have h2 : ¬ l % 2 = 1 := of_decide_eq_false h
    rw [decide_eq_true (by omega), Bool.true_and] at hp
    rw [bx_half (by omega)]
    refine q_isInput hG (by omega) ?_
    refine c2 (bI_0 _) (fun z => ?_) (fun z => ?_)
    · rw [z] at hp; exact hp
    · rw [Bool.not_eq_false] at z; rw [z] at hp; exact hp
theorem q_hasGate (hG : cG S ip il ir N) (hS : cGt S N P) (hl : l < 2 * N) (hp : post (bI (hgP ip P l))) : p_X1_hasGate S (nI l) post := by
  have hN := hG.1
  unfold p_X1_hasGate
  unfold hgP at hp
  refine q_isThere (by omega) (hS l hl).1 (hS l hl).2 (by omega) ?_
  refine c2 (bI_0 _) (fun z => ?_) (fun z => ?_)
  · rw [z, Bool.false_and] at hp; exact hp
  · rw [Bool.not_eq_false] at z
    rw [z, Bool.true_and] at hp
    refine q_isPlainInput hG hl ?_
    refine c2n (bI_0 _) (fun z => ?_) (fun z => ?_)
    · rw [Bool.not_eq_false] at z; rw [z] at hp; exact hp
    · rw [z] at hp; exact hp
theorem q_cellOf (hN : N ≤ 32) (hS : cGt S N P) (hl : l < 2 * N) (hx : P l ≠ tp) (hp : post (nI (ceP P l))) : p_X1_cellOf S (nI l) post := by
  have h43 := gN_43 (hS l hl).2 hN hx
  unfold p_X1_cellOf
  rw [bx_cl (show l < 2 ^ 31 by omega), (hS l hl).1]
  refine ⟨bx_in (by omega) (by omega), ?_⟩
  have e : lshr (lN (P l)) (18 : Int32) = lN (P l / 2 ^ 18) := lx_shr (k := 18) (by omega) (by omega)
  have k15 : (15 : Int32) = nI 15 := rfl
  rw [e, lN_i, k15, bx_and, show P l / 2 ^ 18 &&& 15 = P l / 2 ^ 18 % 16 from Nat.and_two_pow_sub_one_eq_mod _ 4]
  exact hp
theorem q_pinLiteral {q : Nat} (hN : N ≤ 32) (hS : cGt S N P) (hl : l < 2 * N) (hx : P l ≠ tp) (hq : q < 3) (hp : post (nI (piP P l q))) : p_X1_pinLiteral S (nI l) (nI q) post := by
  have h43 := gN_43 (hS l hl).2 hN hx
  unfold p_X1_pinLiteral
  rw [bx_cl (show l < 2 ^ 31 by omega), (hS l hl).1]
  refine ⟨bx_in (by omega) (by omega), ?_⟩
  refine q_pinShift hq ?_
  have k63 : (63 : Int32) = nI 63 := rfl
  rw [lx_shr (by omega) (by omega), lN_i, k63, bx_and, show P l / 2 ^ ((2 - q) * 6) &&& 63 = P l / 2 ^ ((2 - q) * 6) % 64 from Nat.and_two_pow_sub_one_eq_mod _ 6]
  exact hp
/-- the literal of a node that is not by (2) -/
def bsP (ip : Nat → Bool) (P : Nat → Nat) (n : Nat) : Nat := if hgP ip P (2 * n) = true ∧ tnP P (2 * n) = 1 then 2 * n + 1 else 2 * n
theorem q_baseLiteral {n : Nat} (hG : cG S ip il ir N) (hS : cGt S N P) (hn : n < N) (hp : post (nI (bsP ip P n))) : p_X1_baseLiteral S (nI n) post := by
  have hN := hG.1
  unfold p_X1_baseLiteral
  intro y1 e1
  rw [show (2 : Int32) = nI 2 from rfl, pk_mul] at e1
  subst e1
  unfold bsP at hp
  refine q_hasGate hG hS (by omega) ?_
  unfold p_X1_baseLiteral_32 p_X1_baseLiteral_33
  refine c2 (bI_0 _) (fun z => ?_) (fun z => ?_)
  · rw [if_neg (by rw [z]; rintro ⟨a, _⟩; cases a)] at hp
    exact ⟨fun _ => hp, fun h => absurd rfl h⟩
  · rw [Bool.not_eq_false] at z
    have hx := (hg_iff.1 z).1
    have h43 := gN_43 (hS (2 * n) (by omega)).2 hN hx
    rw [bx_cl (show 2 * n < 2 ^ 31 by omega), (hS (2 * n) (by omega)).1]
    refine ⟨bx_in (by omega) (by omega), ?_⟩
    have e : lshr (lN (P (2 * n))) (22 : Int32) = lN (P (2 * n) / 2 ^ 22) := lx_shr (k := 22) (by omega) (by omega)
    have k1 : (1 : Int64) = lN 1 := rfl
    rw [e, lg_cmp_eq, wb_a1 (by omega), k1]
    refine c2n (lx_inj (by omega) (by omega)) (fun h => ?_) (fun h => ?_)
    · rw [if_neg (by rintro ⟨_, b⟩; exact h b)] at hp
      exact ⟨fun _ => hp, fun h => absurd rfl h⟩
    · rw [if_pos ⟨z, h⟩] at hp
      exact ⟨fun h => absurd h (by decide), fun _ => by rw [nI_1]; exact hp⟩
theorem bs_x {n : Nat} (hn : n < 32) : bsP ip P n < 64 ∧ bsP ip P n / 2 = n ∧ bsP ip P n ^^^ 1 < 64 ∧ (bsP ip P n ^^^ 1) / 2 = n ∧ (∀ l, l / 2 = n → l = bsP ip P n ∨ l = bsP ip P n ^^^ 1) ∧ bsP ip P n ^^^ 1 ^^^ 1 = bsP ip P n ∧ bsP ip P n ^^^ 1 ≠ bsP ip P n := by
  have hx := x1_e n hn
  unfold bsP
  by_cases z : hgP ip P (2 * n) = true ∧ tnP P (2 * n) = 1
  · rw [if_pos z, hx.2, hx.1]
    exact ⟨by omega, by omega, by omega, by omega, fun l hl => by omega, rfl, by omega⟩
  · rw [if_neg z, hx.1, hx.2]
    exact ⟨by omega, by omega, by omega, by omega, fun l hl => by omega, rfl, by omega⟩
theorem bs_dn {n : Nat} (hN : N ≤ 32) (hn : n < N) (hg : gSt N K pn ip P) : (hgP ip P (bsP ip P n) = true → ∀ q, q < pn (ceP P (bsP ip P n)) → piP P (bsP ip P n) q / 2 < n ∧ P (piP P (bsP ip P n) q) ≠ tp) ∧
    (hgP ip P (bsP ip P n ^^^ 1) = true → ∀ q, q < pn (ceP P (bsP ip P n ^^^ 1)) → (piP P (bsP ip P n ^^^ 1) q / 2 < n ∨ piP P (bsP ip P n ^^^ 1) q = bsP ip P n) ∧ P (piP P (bsP ip P n ^^^ 1) q) ≠ tp) := by
  have hx := x1_e n (by omega)
  obtain ⟨b1, b2, b3, b4, _, b6, _⟩ := bs_x (ip := ip) (P := P) (n := n) (by omega)
  refine ⟨fun h q hq => ?_, fun h q hq => ?_⟩
  · rcases (hg _ (by omega) h).2 with g | g
    · have := g.2 q hq
      rw [b2] at this
      exact this
    · exfalso
      have g1 := g.1
      have g5 := g.2.2.2.2
      clear hq b1 b2 b3 b4 b6 g
      unfold bsP at h g1 g5
      by_cases z : hgP ip P (2 * n) = true ∧ tnP P (2 * n) = 1
      · rw [if_pos z, hx.2] at g5
        have := g5 z.1
        omega
      · rw [if_neg z] at h g1
        exact z ⟨h, g1⟩
  · rcases (hg _ (by omega) h).2 with g | g
    · have := g.2 q hq
      rw [b4] at this
      exact ⟨Or.inl this.1, this.2⟩
    · obtain ⟨_, g2, g3, g4, _⟩ := g
      have : q = 0 := by omega
      subst this
      rw [g3, b6]
      rw [b6] at g4
      exact ⟨Or.inr rfl, g4⟩
/-- the reference holds the numbers P of the literals below 2N -/
def mGs (M : MS) (N K : Nat) (pn : Nat → Nat) (ip : Nat → Bool) (P : Nat → Nat) : Prop := ∀ l, l < 2 * N → mGt M K pn ip l (P l) ∧ gN (2000 * N) (P l)
theorem mGs_dec (hK : K ≤ 12) (hpn : ∀ c, c < K → pn c ≤ 3) (h : mGs M N K pn ip P) (hl : l < 2 * N) : mAV M l = tI (P l) ∧ (hgP ip P l = true → mGA M l = nI (ceP P l) ∧ ∀ q, q < 3 → mGP M (3 * l + q) = if q < pn (ceP P l) then nI (piP P l q) else (-1 : Int32)) ∧ (hgP ip P l = false → mGA M l = (-1 : Int32) ∧ ∀ q, q < 3 → mGP M (3 * l + q) = (-1 : Int32)) := by
  have h1 := (h l hl).1
  refine ⟨mGt_av h1, fun hg => ?_, fun hg => ?_⟩
  · rw [hg_iff] at hg
    have hn : ¬ (l % 2 = 0 ∧ ip (l / 2) = true) := by
      rintro ⟨a, b⟩
      have := hg.2
      unfold plI at this
      rw [decide_eq_true a, b] at this
      cases this
    unfold mGt at h1
    rw [if_neg hn] at h1
    obtain ⟨t, b, c, ap, e, _, hb, hc, _, ha, g1, g2⟩ := h1.2.2 hg.1
    obtain ⟨d1, _, d3, _⟩ := num_dec (P := P) (l := l) e hb (by omega) (hpn c hc) ha
    rw [d1]
    refine ⟨g1, fun q hq => ?_⟩
    rw [g2 q hq]
    by_cases z : q < pn c
    · rw [if_pos z, if_pos z, d3 q z]
    · rw [if_neg z, if_neg z]
  · unfold mGt at h1
    by_cases z : l % 2 = 0 ∧ ip (l / 2) = true
    · rw [if_pos z] at h1
      exact h1.2
    · rw [if_neg z] at h1
      refine h1.2.1 ?_
      by_cases w : P l = tp
      · exact w
      · exfalso
        have : hgP ip P l = true := hg_iff.2 ⟨w, by
          unfold plI
          cases hi : ip (l / 2)
          · rw [Bool.and_false]
          · rw [decide_eq_false (fun a => z ⟨a, hi⟩), Bool.false_and]⟩
        rw [this] at hg
        cases hg
end DC
