/-! 38 FITCUT: the class's fitCut -/
/-- the leaf of rank j among the bits below N -/
def lfM (m : Nat) : Nat → Nat → Nat
  | 0, _ => 0
  | N + 1, j => if m.testBit N = true ∧ pc N m = j then N else lfM m N j
theorem lfM_eq {m : Nat} : ∀ N i, i < N → m.testBit i = true → lfM m N (pc i m) = i := by
  intro N
  induction N with
  | zero => intro i h; exact absurd h (Nat.not_lt_zero _)
  | succ N ih =>
    intro i hi ht
    show (if m.testBit N = true ∧ pc N m = pc i m then N else lfM m N (pc i m)) = i
    by_cases e : i = N
    · subst e; rw [if_pos ⟨ht, rfl⟩]
    · have hw := pc_w (a := i + 1) (b := N) (x := m) (by omega)
      rw [pc_suc1 ht] at hw
      rw [if_neg (by omega)]
      exact ih i (by omega) ht
theorem LN_LN (S : CS) (f g : Nat → Int32) : cLN_s (cLN_s S f) g = cLN_s S g := rfl
section FC2
variable {S : CS} {K : Nat} {pn tr ar de P : Nat → Nat} {n m f x0 x1 T : Nat} {O0 O1 : Nat → Prop} {post : CS → Prop}
theorem q_fitCut (hS : cSh S K pn tr ar de) (hn : n < 32) (hm : m < 2 ^ n) (h3 : pc 32 m ≤ 3) (hf : f < 2 ^ (2 ^ pc 32 m))
    (hP : ∀ l, l < 2 * n → cGA S l = lN (P l) ∧ gN T (P l)) (hT : T < 2 ^ 19)
    (hx0 : cGA S (2 * n) = lN x0) (hg0 : gN (T + 1000) x0) (hm0 : mn O0 x0) (hx1 : cGA S (2 * n + 1) = lN x1) (hg1 : gN (T + 1000) x1) (hm1 : mn O1 x1)
    (hp : ∀ S' x0' x1', rsG S' = rsG S → (∀ l, l < 2 * n → cGA S' l = cGA S l) → cGA S' (2 * n) = lN x0' → gN (T + 1000) x0' → mn (fun y => O0 y ∨ ofs K pn tr de P (lfM m n) (pc 32 m) f y) x0' → cGA S' (2 * n + 1) = lN x1' → gN (T + 1000) x1' → mn (fun y => O1 y ∨ ofs K pn tr de P (lfM m n) (pc 32 m) (f ^^^ (2 ^ (2 ^ pc 32 m) - 1)) y) x1' → post S') : p_X1_fitCut S (nI n) (nI m) (nI f) post := by
  have h256 := p22_3 h3
  have hn32 := Nat.pow_lt_pow_right (show 1 < 2 by decide) hn
  have epc : pc n m = pc 32 m := pc_32N hm (by omega)
  have s2 := hS.2.1
  unfold p_X1_fitCut p_X1_fitCut_6
  refine ⟨fun S' x4 x5 => ∃ (i : Nat) (g : Nat → Int32), S' = cLN_s S g ∧ x5 = nI i ∧ x4 = nI (pc i m) ∧ i ≤ n ∧ ∀ j, j < i → m.testBit j = true → g (pc j m) = nI j, fun _ _ x5 => n - x5.toNatClampNeg, ⟨0, cLN S, rfl, rfl, rfl, by omega, fun j hj => absurd hj (by omega)⟩, ?_⟩
  rintro S' x4 x5 ⟨i, g, eS, rfl, rfl, hi, hgl⟩
  have eLN : cLN S' = g := by rw [eS, gs_cLN_LN]
  unfold b_X1_fitCut_6
  refine c2 (nI_leI (by omega) (by omega)) (fun z => ?_) (fun z => ?_)
  · have : i = n := by omega
    subst this
    rw [epc]
    refine q_full h3 ?_
    have r0 : rsG S' = rsG S := by rw [eS, rsG_LN]
    have eGA : cGA S' = cGA S := by rw [eS, gs_cGA_LN]
    have hleaf : ∀ j, j < pc 32 m → g j = nI (lfM m i j) ∧ lfM m i j < i := by
      intro j hj
      rw [← epc] at hj
      obtain ⟨k, hk, tk, rk⟩ := rank_ex i hj
      rw [← rk, lfM_eq i k hk tk]
      exact ⟨hgl k hk tk, hk⟩
    unfold p_X1_fitCut_50
    refine ⟨fun S'' x6 => ∃ (c x0' x1' : Nat), x6 = nI c ∧ c ≤ K ∧ rsG S'' = rsG S ∧ cLN S'' = g ∧ (∀ l, l < 2 * i → cGA S'' l = cGA S l) ∧ cGA S'' (2 * i) = lN x0' ∧ gN (T + 1000) x0' ∧ mn (fun y => O0 y ∨ ofs c pn tr de P (lfM m i) (pc 32 m) f y) x0' ∧ cGA S'' (2 * i + 1) = lN x1' ∧ gN (T + 1000) x1' ∧ mn (fun y => O1 y ∨ ofs c pn tr de P (lfM m i) (pc 32 m) (f ^^^ (2 ^ (2 ^ pc 32 m) - 1)) y) x1', fun _ x6 => K - x6.toNatClampNeg, ⟨0, x0, x1, rfl, by omega, r0, eLN, fun l _ => by rw [eGA], by rw [eGA]; exact hx0, hg0, mn_cg (fun y => ⟨Or.inl, fun h => h.elim id (fun ⟨c, hc, _⟩ => absurd hc (by omega))⟩) hm0, by rw [eGA]; exact hx1, hg1, mn_cg (fun y => ⟨Or.inl, fun h => h.elim id (fun ⟨c, hc, _⟩ => absurd hc (by omega))⟩) hm1⟩, ?_⟩
    rintro S'' x6 ⟨c, x0', x1', rfl, hc, a1, a2, a3, a4, a5, a6, a7, a8, a9⟩
    have hS2 := rsG_Sh a1 hS
    unfold b_X1_fitCut_50
    rw [hS2.1]
    refine c2 (nI_leI (by omega) (by omega)) (fun y => ?_) (fun y => ?_)
    · have : c = K := by omega
      subst this
      exact hp S'' x0' x1' a1 a3 a4 a5 a6 a7 a8 a9
    · obtain ⟨⟨b1, b2, b3⟩, b4, b5, _⟩ := hS2.2.2 c (by omega)
      rw [bx_cl (show c < 2 ^ 31 by omega), b4]
      refine ⟨bx_in (by omega) (by omega), ?_⟩
      refine c2n (nI_eq (by omega) (by omega)) (fun w => ?_) (fun w => ?_)
      · have hno : ∀ (O : Nat → Prop) (f' y : Nat), (O y ∨ ofs c pn tr de P (lfM m i) (pc 32 m) f' y) ↔ (O y ∨ ofs (c + 1) pn tr de P (lfM m i) (pc 32 m) f' y) := by
          intro O f' y
          constructor
          · rintro (h | ⟨d, h1, h2⟩)
            · exact Or.inl h
            · exact Or.inr ⟨d, by omega, h2⟩
          · rintro (h | ⟨d, h1, h2⟩)
            · exact Or.inl h
            · refine Or.inr ⟨d, ?_, h2⟩
              by_cases e : d = c
              · subst e; exact absurd h2.1 w
              · omega
        intro y7 e7
        exact ⟨⟨c + 1, x0', x1', by rw [e7, nI_1], by omega, a1, a2, a3, a4, a5, mn_cg (hno O0 f) a6, a7, a8, mn_cg (hno O1 _) a9⟩, mu_up e7 (by omega) (by omega)⟩
      · have hyes : ∀ (O : Nat → Prop) (f' y : Nat), ((O y ∨ ofs c pn tr de P (lfM m i) (pc 32 m) f' y) ∨ ofC tr de P (lfM m i) (pn c) f' c y) ↔ (O y ∨ ofs (c + 1) pn tr de P (lfM m i) (pc 32 m) f' y) := by
          intro O f' y
          constructor
          · rintro ((h | ⟨d, h1, h2⟩) | h)
            · exact Or.inl h
            · exact Or.inr ⟨d, by omega, h2⟩
            · exact Or.inr ⟨c, by omega, w, by rw [w] at h; exact h⟩
          · rintro (h | ⟨d, h1, h2, h3⟩)
            · exact Or.inl (Or.inl h)
            · by_cases e : d = c
              · subst e; exact Or.inr (by rw [w]; exact h3)
              · exact Or.inl (Or.inr ⟨d, by omega, h2, h3⟩)
        have k2 : (2 : Int32) = nI 2 := rfl
        have hlf : lfO S'' (lfM m i) P (pn c) T := by
          intro j hj
          rw [w] at hj
          obtain ⟨h1, h2⟩ := hleaf j hj
          refine ⟨by rw [a2]; exact h1, by omega, fun b hb => ?_⟩
          rw [a3 _ (by omega)]
          exact hP _ (by omega)
        have hll : ∀ j, j < pn c → 2 * lfM m i j + 1 < 2 * i := fun j hj => by
          rw [w] at hj
          have := (hleaf j hj).2
          omega
        rw [k2, pk_mul, nI_1, bx_xor]
        refine q_fitCell hS2 (by omega) hlf hll hT (by omega) (by omega) a4 a5 a6 ?_
        intro S8 z0 c1 c2' c3 c4 c5 c6
        have hlf8 := lfO_same hlf hll c2' (fun j hj _ => c6 j hj)
        have hxl : f ^^^ (2 ^ (2 ^ pc 32 m) - 1) < 256 := Nat.lt_of_lt_of_le (Nat.xor_lt_two_pow hf (by have := Nat.two_pow_pos (2 ^ pc 32 m); omega)) h256
        refine q_fitCell (rsG_Sh c1 hS2) (by omega) hlf8 (fun j hj => by have := hll j hj; omega) hT hxl (by omega) (by rw [c6 _ (by omega)]; exact a7) a8 a9 ?_
        intro S9 z1 d1 d2 d3 d4 d5 d6
        intro y10 e10
        refine ⟨⟨c + 1, z0, z1, by rw [e10, nI_1], by omega, d1.trans (c1.trans a1), d2.trans (c2'.trans a2), fun l hl => ?_, ?_, c4, mn_cg (hyes O0 f) c5, d3, d4, mn_cg (hyes O1 _) d5⟩, mu_up e10 (by omega) (by omega)⟩
        · rw [d6 l (by omega), c6 l (by omega)]; exact a3 l hl
        · rw [d6 _ (by omega)]; exact c3
  · refine c2n (bx_bit1 (by omega) (by omega)) (fun hb => ?_) (fun hb => ?_)
    · have hb0 : m.testBit i = false := by cases y : m.testBit i with
        | false => rfl
        | true => exact absurd y hb
      intro y12 e12
      refine ⟨⟨i + 1, g, eS, by rw [e12, nI_1], by rw [pc_suc0 hb0], by omega, fun j hj ht => ?_⟩, mu_up e12 (by omega) (by omega)⟩
      by_cases y : j = i
      · subst y; exact absurd ht hb
      · exact hgl j (by omega) ht
    · have hw := pc_w (a := i + 1) (b := n) (x := m) (by omega)
      rw [pc_suc1 hb] at hw
      refine ⟨bx_in (by omega) (by omega), ?_⟩
      intro S14 e14 y15 e15 y16 e16
      rw [bx_cl (show pc i m < 2 ^ 31 by omega), eLN, eS, LN_LN] at e14
      refine ⟨⟨i + 1, upd g (pc i m) (nI i), e14, by rw [e16, nI_1], by rw [e15, nI_1, pc_suc1 hb], by omega, fun j hj ht => ?_⟩, mu_up e16 (by omega) (by omega)⟩
      by_cases y : j = i
      · subst y; rw [pk_us]
      · have hw2 := pc_w (a := j + 1) (b := i) (x := m) (by omega)
        rw [pc_suc1 ht] at hw2
        rw [pk_un (by omega)]; exact hgl j (by omega) ht
end FC2
