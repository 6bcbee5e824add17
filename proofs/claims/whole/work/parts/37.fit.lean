/-! 37 FIT: the least of what is offered; the class's fitCell and fitCut -/
/-- x is the least of the offers O, or tp where there is none below it -/
def mn (O : Nat → Prop) (x : Nat) : Prop := (x = tp ∨ O x) ∧ x ≤ tp ∧ ∀ y, O y → x ≤ y
theorem mn_uq {O : Nat → Prop} {x y : Nat} (h1 : mn O x) (h2 : mn O y) : x = y := by
  have a : x ≤ y := by
    rcases h2.1 with h | h
    · rw [h]; exact h1.2.1
    · exact h1.2.2 y h
  have b : y ≤ x := by
    rcases h1.1 with h | h
    · rw [h]; exact h2.2.1
    · exact h2.2.2 x h
  omega
theorem mn_cg {O O' : Nat → Prop} {x : Nat} (h : ∀ y, O y ↔ O' y) (h1 : mn O x) : mn O' x := ⟨h1.1.imp id (h x).1, h1.2.1, fun y hy => h1.2.2 y ((h y).2 hy)⟩
theorem mn_add {O : Nat → Prop} {x v : Nat} (h : mn O x) : mn (fun y => O y ∨ y = v) (min x v) := by
  rcases Nat.le_total x v with q | q
  · rw [Nat.min_eq_left q]
    refine ⟨h.1.imp id Or.inl, h.2.1, fun y hy => ?_⟩
    rcases hy with hy | hy
    · exact h.2.2 y hy
    · omega
  · rw [Nat.min_eq_right q]
    refine ⟨Or.inr (Or.inr rfl), by have := h.2.1; omega, fun y hy => ?_⟩
    rcases hy with hy | hy
    · have := h.2.2 y hy; omega
    · omega
theorem mn_none : mn (fun _ => False) tp := ⟨Or.inl rfl, Nat.le_refl _, fun _ h => h.elim⟩
/-! moves and turns leave the number of ones as it is -/
theorem pnV_perm : ∀ p, p < 4 → ∀ i, i < cnt p → ((List.range (2 ^ p)).map (pnV p i)).isPerm (List.range (2 ^ p)) = true := by decide +kernel
theorem lfA_lt : ∀ p, p < 4 → ∀ i, i < cnt p → ∀ q, q < p → lfA p i q < p := by decide +kernel
theorem pc_sum (w : Nat) (g : Nat → Bool) : pc w (mk w g) = ((List.range w).map (fun v => (g v).toNat)).sum := by
  induction w with
  | zero => rfl
  | succ w ih =>
    have e : pc (w + 1) (mk (w + 1) g) = ((mk (w + 1) g).testBit w).toNat + pc w (mk (w + 1) g) := rfl
    have e2 : pc w (mk (w + 1) g) = pc w (mk w g) := pc_congr (fun i hi => by rw [mk_bit, mk_bit, decide_eq_true hi, decide_eq_true (show i < w + 1 by omega)])
    rw [e, e2, ih, mk_bit, decide_eq_true (Nat.lt_succ_self w), List.range_succ, List.map_append, List.sum_append]
    show (g w).toNat + _ = _ + ((g w).toNat + 0)
    omega
theorem mk_self {w t : Nat} (h : t < 2 ^ w) : mk w t.testBit = t := by
  apply Nat.eq_of_testBit_eq
  intro i
  rw [mk_bit]
  by_cases q : i < w
  · rw [decide_eq_true q, Bool.true_and]
  · rw [decide_eq_false q, Bool.false_and, Nat.testBit_lt_two_pow (Nat.lt_of_lt_of_le h (Nat.pow_le_pow_right (by decide) (by omega)))]
theorem pc_agT {p t i : Nat} (hp : p < 4) (hi : i < cnt p) (ht : t < 2 ^ (2 ^ p)) : pc 32 (agT p t i) = pc 32 t := by
  have h8 := p2_3 (show p ≤ 3 by omega)
  unfold agT
  rw [← pc_32N (N := 2 ^ p) (mk_lt _ _) (by omega), ← pc_32N (N := 2 ^ p) ht (by omega), pc_sum]
  conv => rhs; rw [← mk_self ht, pc_sum]
  have hP := List.isPerm_iff.1 (pnV_perm p hp i hi)
  have e : (List.range (2 ^ p)).map (fun v => (t.testBit (pnV p i v)).toNat) = ((List.range (2 ^ p)).map (pnV p i)).map (fun v => (t.testBit v).toNat) := by rw [List.map_map]; rfl
  rw [e]
  exact (hP.map _).sum_nat
/-- the leaves that a fit may stand on -/
def lfO (S : CS) (lf P : Nat → Nat) (p T : Nat) : Prop := ∀ j, j < p → cLN S j = nI (lf j) ∧ lf j < 32 ∧ (∀ b, b < 2 → cGA S (2 * lf j + b) = lN (P (2 * lf j + b)) ∧ gN T (P (2 * lf j + b)))
/-- what cell c offers for the table f -/
def ofC (tr de P lf : Nat → Nat) (p f c y : Nat) : Prop := ∃ i, i < cnt p ∧ agT p (tr c) i = f ∧ y = ofv P de c p (apL lf p i)
def ofs (K : Nat) (pn tr de P lf : Nat → Nat) (p f y : Nat) : Prop := ∃ c, c < K ∧ pn c = p ∧ ofC tr de P lf p f c y
section FIT
variable {S : CS} {K : Nat} {pn tr ar de lf P : Nat → Nat} {l c f x p T : Nat} {O : Nat → Prop} {post : CS → Prop}
theorem ofv_T (hS : cSh S K pn tr ar de) (hc : c < K) (hlf : lfO S lf P (pn c) T) {i : Nat} (hi : i < cnt (pn c)) : gN (T + 1000) (ofv P de c (pn c) (apL lf (pn c) i)) := by
  obtain ⟨s1, s2, s3⟩ := hS
  obtain ⟨⟨b1, b2, b3⟩, b4, b5, b6, b7, b8, b9⟩ := s3 c hc
  have hap : ∀ q, q < pn c → apL lf (pn c) i q < 64 ∧ gN T (P (apL lf (pn c) i q)) := by
    intro q hq
    obtain ⟨_, h2, h3⟩ := hlf _ (lfA_lt _ b2 i hi q hq)
    have h5 := Bool.toNat_le (i.testBit q)
    exact ⟨by show 2 * lf _ + _ < 64; omega, (h3 (i.testBit q).toNat (by omega)).2⟩
  unfold ofv
  by_cases z : ∀ q, q < pn c → P (apL lf (pn c) i q) ≠ tp
  · rw [if_pos z]
    right
    have h1 := tmx_le (P := P) (dq := fun q => de (3 * c + q)) (ap := apL lf (pn c) i) (T := T) (pn c) (fun j hj => ⟨(hap j hj).2, z j hj, (b8 j (by omega)).2⟩)
    have h2 : pkx (apL lf (pn c) i) (pn c) < 2 ^ 18 := by
      have hc : pn c = 1 ∨ pn c = 2 ∨ pn c = 3 := by omega
      rcases hc with e | e | e
      · rw [e] at hap ⊢
        have := (hap 0 (by omega)).1
        show 0 + apL lf 1 i 0 * 4096 < 262144
        omega
      · rw [e] at hap ⊢
        have := (hap 0 (by omega)).1
        have := (hap 1 (by omega)).1
        show 0 + apL lf 2 i 0 * 4096 + apL lf 2 i 1 * 64 < 262144
        omega
      · rw [e] at hap ⊢
        have := (hap 0 (by omega)).1
        have := (hap 1 (by omega)).1
        have := (hap 2 (by omega)).1
        show 0 + apL lf 3 i 0 * 4096 + apL lf 3 i 1 * 64 + apL lf 3 i 2 * 1 < 262144
        omega
    have h3 : tmx P (fun q => de (3 * c + q)) (apL lf (pn c) i) (pn c) * 2 ^ 23 ≤ (T + 1000) * 2 ^ 23 := Nat.mul_le_mul_right _ h1
    have h4 : (T + 1000 + 1) * 2 ^ 23 = (T + 1000) * 2 ^ 23 + 2 ^ 23 := by rw [Nat.succ_mul]
    omega
  · rw [if_neg z]
    exact Or.inl rfl
theorem lfO_same {S' : CS} (hlf : lfO S lf P p T) (hl : ∀ j, j < p → 2 * lf j + 1 < l) (e1 : cLN S' = cLN S) (e2 : ∀ j, j ≠ l → j ≠ l + 1 → cGA S' j = cGA S j) : lfO S' lf P p T := by
  intro j hj
  obtain ⟨h1, h2, h3⟩ := hlf j hj
  have h4 := hl j hj
  refine ⟨by rw [e1]; exact h1, h2, fun b hb => ?_⟩
  rw [e2 _ (by omega) (by omega)]
  exact h3 b hb
theorem q_fitCell (hS : cSh S K pn tr ar de) (hc : c < K) (hlf : lfO S lf P (pn c) T) (hll : ∀ j, j < pn c → 2 * lf j + 1 < l) (hT : T < 2 ^ 19) (hf : f < 256)
    (hl : l < 64) (hx : cGA S l = lN x) (hg : gN (T + 1000) x) (hm : mn O x)
    (hp : ∀ S' x', rsG S' = rsG S → cLN S' = cLN S → cGA S' l = lN x' → gN (T + 1000) x' → mn (fun y => O y ∨ ofC tr de P lf (pn c) f c y) x' → (∀ j, j ≠ l → cGA S' j = cGA S j) → post S') : p_X1_fitCell S (nI l) (nI c) (nI f) post := by
  have hS0 := hS
  obtain ⟨s1, s2, s3⟩ := hS
  obtain ⟨⟨b1, b2, b3⟩, b4, b5, b6, b7, b8, b9⟩ := s3 c hc
  have h48 := cnt_le (pn c) b2
  have h256 := p22_3 (show pn c ≤ 3 by omega)
  unfold p_X1_fitCell
  rw [bx_cl (show c < 2 ^ 31 by omega), b5]
  refine ⟨bx_in (by omega) (by omega), ?_⟩
  refine q_pop (by omega) ?_
  refine q_pop (by omega) ?_
  have p1 := pc_le 32 (tr c)
  have p2 := pc_le 32 f
  refine c2 (nI_eq (by omega) (by omega)) (fun z => ?_) (fun z => ?_)
  · unfold p_X1_fitCell_23
    refine ⟨fun S' x4 => ∃ (i x' : Nat), x4 = nI i ∧ i ≤ cnt (pn c) ∧ rsG S' = rsG S ∧ cLN S' = cLN S ∧ cGA S' l = lN x' ∧ gN (T + 1000) x' ∧ mn (fun y => O y ∨ ∃ j, j < i ∧ agT (pn c) (tr c) j = f ∧ y = ofv P de c (pn c) (apL lf (pn c) j)) x' ∧ (∀ j, j ≠ l → cGA S' j = cGA S j), fun _ x4 => cnt (pn c) - x4.toNatClampNeg, ⟨0, x, rfl, by omega, rfl, rfl, hx, hg, mn_cg (fun y => ⟨Or.inl, fun h => h.elim id (fun ⟨j, hj, _⟩ => absurd hj (by omega))⟩) hm, fun _ _ => rfl⟩, ?_⟩
    rintro S' x4 ⟨i, x', rfl, hi, r1, r2, r3, r4, r5, r6⟩
    have hS' := rsG_Sh r1 hS0
    obtain ⟨_, d4, d5, _, _, _, d9⟩ := hS'.2.2 c hc
    unfold b_X1_fitCell_23
    refine q_arrangementCount (by omega) d4 b2 ?_
    refine c2 (nI_leI (by omega) (by omega)) (fun y => ?_) (fun y => ?_)
    · have : i = cnt (pn c) := by omega
      subst this
      exact hp S' x' r1 r2 r3 r4 r5 r6
    · unfold p_X3_arrangedTruth
      have k48 : (48 : Int32) = nI 48 := rfl
      rw [k48, pk_mul, nI_add, bx_cl (by omega), Nat.mul_comm c 48, d9 i (by omega)]
      refine ⟨bx_in (by omega) (by omega), ?_⟩
      have hag := agT_lt (p := pn c) (t := tr c) (i := i) (by omega)
      refine c2n (nI_eq (by omega) (by omega)) (fun w => ?_) (fun w => ?_)
      · intro y13 e13
        refine ⟨⟨i + 1, x', by rw [e13, nI_1], by omega, r1, r2, r3, r4, mn_cg (fun y => ?_) r5, r6⟩, mu_up e13 (by omega) (by omega)⟩
        constructor
        · rintro (h | ⟨j, h1, h2⟩)
          · exact Or.inl h
          · exact Or.inr ⟨j, by omega, h2⟩
        · rintro (h | ⟨j, h1, h2⟩)
          · exact Or.inl h
          · refine Or.inr ⟨j, ?_, h2⟩
            by_cases e : j = i
            · subst e; exact absurd h2.1 w
            · omega
      · have hlf' : lfO S' lf P (pn c) T := lfO_same hlf hll r2 (fun j hj _ => r6 j hj)
        refine q_fitArrangement hS' hc (by omega) hlf' (fun q hq => lfA_lt _ b2 i (by omega) q hq) hT hl r3 r4 ?_
        intro S14 t1 t2 t3 t4
        intro y15 e15
        refine ⟨⟨i + 1, _, by rw [e15, nI_1], by omega, t1.trans r1, t2.trans r2, t3, gN_min r4 (ofv_T hS' hc hlf' (by omega)), mn_cg (fun y => ?_) (mn_add r5), fun j hj => (t4 j hj).trans (r6 j hj)⟩, mu_up e15 (by omega) (by omega)⟩
        constructor
        · rintro ((h | ⟨j, h1, h2⟩) | h)
          · exact Or.inl h
          · exact Or.inr ⟨j, by omega, h2⟩
          · exact Or.inr ⟨i, by omega, w, h⟩
        · rintro (h | ⟨j, h1, h2, h3⟩)
          · exact Or.inl (Or.inl h)
          · by_cases e : j = i
            · subst e; exact Or.inr h3
            · exact Or.inl (Or.inr ⟨j, by omega, h2, h3⟩)
  · refine hp S x rfl rfl hx hg (mn_cg (fun y => ⟨Or.inl, fun h => h.elim id (fun ⟨i, hi, h2, _⟩ => ?_)⟩) hm) (fun _ _ => rfl)
    exfalso
    apply z
    rw [← h2, pc_agT b2 hi b3]
end FIT
