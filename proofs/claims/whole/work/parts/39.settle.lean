/-! 39 SETTLE: what the gates are; the class's settleNode -/
/-- by (2): literal l by inverter c, the other literal's number being xo -/
def ivv (de : Nat → Nat) (xo l c : Nat) : Nat := (xo / 2 ^ 23 + de (3 * c)) * 2 ^ 23 + 2 ^ 22 + c * 2 ^ 18 + (l ^^^ 1) * 2 ^ 12
def ofi (K : Nat) (pn tr de : Nat → Nat) (xo l y : Nat) : Prop := xo ≠ tp ∧ ∃ c, c < K ∧ pn c = 1 ∧ tr c = 1 ∧ y = ivv de xo l c
/-- by (1): all that the cuts of n offer, for the node (b = false) or turned -/
def of1 (K : Nat) (pn tr de P : Nat → Nat) (ip : Nat → Bool) (il ir : Nat → Nat) (L : List Nat) (n : Nat) (b : Bool) (e y : Nat) : Prop := ∃ j, j < e ∧ ofs K pn tr de P (lfM (L.getD j 0) n) (pc 32 (L.getD j 0)) (if b then tab ip il ir (L.getD j 0) n ^^^ (2 ^ (2 ^ pc 32 (L.getD j 0)) - 1) else tab ip il ir (L.getD j 0) n) y
def nodeSp (K : Nat) (pn tr de P : Nat → Nat) (ip : Nat → Bool) (il ir : Nat → Nat) (L : List Nat) (tm n x0 x1 : Nat) : Prop := (ip n = true → x0 = tm * 2 ^ 23 ∧ x1 = tp) ∧ (ip n = false → mn (of1 K pn tr de P ip il ir L n false L.length) x0 ∧ mn (of1 K pn tr de P ip il ir L n true L.length) x1)
def invSp (K : Nat) (pn tr de : Nat → Nat) (l xo x z : Nat) : Prop := mn (fun y => y = x ∨ ofi K pn tr de xo l y) z
theorem or4 (A B C D : Nat) : (A ||| B) ||| (C ||| D) = A ||| (C ||| (B ||| D)) := by
  rw [Nat.or_assoc, ← Nat.or_assoc B C D, Nat.or_comm B C, Nat.or_assoc C B D]
theorem or_iv {t c k : Nat} (hc : c < 16) (hk : k < 2 ^ 18) : (t * 2 ^ 23 ||| c * 2 ^ 18) ||| (4194304 ||| k) = t * 2 ^ 23 + 2 ^ 22 + c * 2 ^ 18 + k := by
  have e : (t * 2 ^ 23 ||| c * 2 ^ 18) ||| (4194304 ||| k) = t * 2 ^ 23 ||| (4194304 ||| (c * 2 ^ 18 ||| k)) := or4 _ _ _ _
  have h1 := Nat.two_pow_add_eq_or_of_lt (i := 18) (b := k) hk c
  have h2 := Nat.two_pow_add_eq_or_of_lt (i := 22) (b := 2 ^ 18 * c + k) (by omega) 1
  have h3 := Nat.two_pow_add_eq_or_of_lt (i := 23) (b := 2 ^ 22 * 1 + (2 ^ 18 * c + k)) (by omega) t
  have e4 : (4194304 : Nat) = 2 ^ 22 * 1 := rfl
  rw [e, e4, Nat.mul_comm t, Nat.mul_comm c, ← h1, ← h2, ← h3]
  omega
section INV
variable {S : CS} {K : Nat} {pn tr ar de : Nat → Nat} {l x xo c T : Nat} {post : CS → Prop}
theorem xor1_lt {l : Nat} (h : l < 64) : l ^^^ 1 < 64 := Nat.xor_lt_two_pow (n := 6) h (by decide)
theorem q_isInverter {pst : Int32 → Prop} (hS : cSh S K pn tr ar de) (hc : c < K) (hp : pst (bI (decide (pn c = 1 ∧ tr c = 1)))) : p_X3_isInverter S (nI c) pst := by
  obtain ⟨s1, s2, s3⟩ := hS
  obtain ⟨⟨b1, b2, b3⟩, b4, b5, _⟩ := s3 c hc
  have h256 := p22_3 (show pn c ≤ 3 by omega)
  unfold p_X3_isInverter
  rw [bx_cl (show c < 2 ^ 31 by omega), b4, b5]
  refine ⟨bx_in (by omega) (by omega), ?_⟩
  refine c2n (nI_eq (b := 1) (by omega) (by omega)) (fun z => ?_) (fun z => ?_)
  · rw [decide_eq_false (fun q => z q.1)] at hp; exact hp
  · refine ⟨bx_in (by omega) (by omega), ?_⟩
    refine c2n (nI_eq (b := 1) (by omega) (by omega)) (fun y => ?_) (fun y => ?_)
    · rw [decide_eq_false (fun q => y q.2)] at hp; exact hp
    · rw [decide_eq_true ⟨z, y⟩] at hp; exact hp
theorem gN_div {T x : Nat} (h : gN T x) (hx : x ≠ tp) : x / 2 ^ 23 ≤ T := by
  rcases h with h | h
  · exact absurd h hx
  · have := Nat.div_lt_of_lt_mul (show x < 2 ^ 23 * (T + 1) by rw [Nat.mul_comm]; exact h)
    omega
theorem tI_m1 {T x : Nat} (h : gN T x) (hT : T < 2 ^ 20) : tI x = (-1 : Int32) ↔ x = tp := by
  unfold tI
  by_cases y : x = tp
  · rw [if_pos y]; exact ⟨fun _ => y, fun _ => rfl⟩
  · rw [if_neg y]
    have := gN_div h y
    exact ⟨fun w => absurd w (nI_m1 (by omega)), fun w => absurd w y⟩
theorem ivv_gN (hd : de (3 * c) ≤ 1000) (hc : c < 12) (hl : l < 64) (h : gN T xo) (hx : xo ≠ tp) : gN (T + 1000) (ivv de xo l c) := by
  right
  have h1 := gN_div h hx
  have h2 := xor1_lt hl
  unfold ivv
  have h3 : (xo / 2 ^ 23 + de (3 * c)) * 2 ^ 23 ≤ (T + 1000) * 2 ^ 23 := Nat.mul_le_mul_right _ (by omega)
  have h4 : (T + 1000 + 1) * 2 ^ 23 = (T + 1000) * 2 ^ 23 + 2 ^ 23 := by rw [Nat.succ_mul]
  omega
theorem q_fitInverters (hS : cSh S K pn tr ar de) (hT : T < 2 ^ 19) (hl : l < 64) (hx : cGA S l = lN x) (hg : gN T x) (hxo : gN T xo)
    (hp : ∀ S' z, rsG S' = rsG S → cLN S' = cLN S → cGA S' l = lN z → gN (T + 1000) z → invSp K pn tr de l xo x z → (∀ j, j ≠ l → cGA S' j = cGA S j) → post S') : p_X1_fitInverters S (nI l) (tI xo) post := by
  have s2 := hS.2.1
  have hle := (gN_lt hg (by omega)).1
  unfold p_X1_fitInverters
  refine c2n (tI_m1 hxo (by omega)) (fun h0 => ?_) (fun h0 => ?_)
  · have eT : tI xo = nI (xo / 2 ^ 23) := if_neg h0
    have hd := gN_div hxo h0
    rw [eT]
    unfold p_X1_fitInverters_8
    refine ⟨fun S' x3 => ∃ (c z : Nat), x3 = nI c ∧ c ≤ K ∧ rsG S' = rsG S ∧ cLN S' = cLN S ∧ cGA S' l = lN z ∧ gN (T + 1000) z ∧ mn (fun y => y = x ∨ ∃ d, d < c ∧ pn d = 1 ∧ tr d = 1 ∧ y = ivv de xo l d) z ∧ (∀ j, j ≠ l → cGA S' j = cGA S j), fun _ x3 => K - x3.toNatClampNeg, ⟨0, x, rfl, by omega, rfl, rfl, hx, gN_mono hg (by omega), ⟨Or.inr (Or.inl rfl), hle, fun y hy => hy.elim (fun e => by omega) (fun ⟨d, hd, _⟩ => absurd hd (by omega))⟩, fun _ _ => rfl⟩, ?_⟩
    rintro S' x3 ⟨c, z, rfl, hc, r1, r2, r3, r4, r5, r6⟩
    have hS' := rsG_Sh r1 hS
    unfold b_X1_fitInverters_8
    rw [hS'.1]
    refine c2 (nI_leI (by omega) (by omega)) (fun y => ?_) (fun y => ?_)
    · have : c = K := by omega
      subst this
      refine hp S' z r1 r2 r3 r4 (mn_cg (fun y => ?_) r5) r6
      exact ⟨fun h => h.imp id (fun q => ⟨h0, q⟩), fun h => h.imp id (fun q => q.2)⟩
    · refine q_isInverter hS' (by omega) ?_
      refine c2 (bI_0 _) (fun w => ?_) (fun w => ?_)
      · rw [decide_eq_false_iff_not] at w
        intro y6 e6
        refine ⟨⟨c + 1, z, by rw [e6, nI_1], by omega, r1, r2, r3, r4, mn_cg (fun y => ?_) r5, r6⟩, mu_up e6 (by omega) (by omega)⟩
        constructor
        · rintro (h | ⟨d, h1, h2⟩)
          · exact Or.inl h
          · exact Or.inr ⟨d, by omega, h2⟩
        · rintro (h | ⟨d, h1, h2, h3, h4⟩)
          · exact Or.inl h
          · refine Or.inr ⟨d, ?_, h2, h3, h4⟩
            by_cases e : d = c
            · subst e; exact absurd ⟨h2, h3⟩ w
            · omega
      · have w2 : pn c = 1 ∧ tr c = 1 := by
          apply Classical.byContradiction
          intro q
          exact w (decide_eq_false q)
        obtain ⟨_, _, _, _, _, b8, _⟩ := hS'.2.2 c (by omega)
        obtain ⟨d1, d2⟩ := b8 0 (by omega)
        rw [Nat.add_zero] at d1 d2
        have hx1 := xor1_lt hl
        refine q_pinShift (q := 0) (by omega) ?_
        intro y9 e9
        have k1 : (1 : Int32) = nI 1 := rfl
        rw [k1, bx_xor, nI_l (by omega), lx_shl _ (by omega)] at e9
        unfold p_X3_delayAt
        have k3 : (3 : Int32) = nI 3 := rfl
        have k0 : (0 : Int32) = nI 0 := rfl
        rw [k3, k0, pk_mul, nI_add, bx_cl (by omega), Nat.mul_comm c 3, Nat.add_zero, d1]
        refine ⟨bx_in (by omega) (by omega), ?_⟩
        show p_X1_offer S' (nI l) (nI (xo / 2 ^ 23) + nI (de (3 * c))) _ _ _
        rw [nI_add]
        have hv : ivv de xo l c < 2 ^ 43 := by
          have := ivv_gN (T := T) d2 (by omega) hl hxo h0
          rcases (gN_lt this (by omega)).2 with q | q
          · exfalso
            have e43 : 2 ^ 43 < tp := by decide
            rcases this with t | t
            · unfold ivv at t
              have h3 : (xo / 2 ^ 23 + de (3 * c)) * 2 ^ 23 ≤ (2 ^ 19 + 1000) * 2 ^ 23 := Nat.mul_le_mul_right _ (by omega)
              have h4 : (2 ^ 19 + 1000) * 2 ^ 23 + 2 ^ 23 < 2 ^ 43 := by decide
              omega
            · have h5 : (T + 1000 + 1) * 2 ^ 23 ≤ 2 ^ 20 * 2 ^ 23 := Nat.mul_le_mul_right _ (by omega)
              have h6 : 2 ^ 20 * 2 ^ 23 = 2 ^ 43 := by decide
              omega
          · exact q
        refine q_offer (T := T + 1000) (v := ivv de xo l c) hl r3 r4 (by omega) hv ?_ ?_
        · have k23 : (23 : Int32) = nI 23 := rfl
          have k18 : (18 : Int32) = nI 18 := rfl
          have k4 : (4194304 : Int64) = lN 4194304 := rfl
          rw [e9, nI_l (by omega), nI_l (by omega), k23, k18, k4, lx_shl _ (by omega), lx_shl _ (by omega), lx_or, lx_or, lx_or, or_iv (by omega) (by omega)]
          rfl
        · intro S12 t1 t2 t3 t4
          intro y13 e13
          refine ⟨⟨c + 1, _, by rw [e13]; exact nI_1 c, by omega, t1.trans r1, t2.trans r2, t3, gN_min r4 (ivv_gN d2 (by omega) hl hxo h0), mn_cg (fun y => ?_) (mn_add r5), fun j hj => (t4 j hj).trans (r6 j hj)⟩, mu_up e13 (by omega) (by omega)⟩
          constructor
          · rintro ((h | ⟨d, h1, h2⟩) | h)
            · exact Or.inl h
            · exact Or.inr ⟨d, by omega, h2⟩
            · exact Or.inr ⟨c, by omega, w2.1, w2.2, h⟩
          · rintro (h | ⟨d, h1, h2, h3, h4⟩)
            · exact Or.inl (Or.inl h)
            · by_cases e : d = c
              · subst e; exact Or.inr h4
              · exact Or.inl (Or.inr ⟨d, by omega, h2, h3, h4⟩)
  · refine hp S x rfl rfl hx (gN_mono hg (by omega)) ⟨Or.inr (Or.inl rfl), hle, fun y hy => hy.elim (fun e => by omega) (fun q => absurd h0 q.1)⟩ (fun _ _ => rfl)
end INV
