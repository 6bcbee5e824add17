/-! 40 SETTLE2: the class's settleNode and settle -/
theorem rsG_T {S S' : CS} {ip : Nat → Bool} {il ir : Nat → Nat} {ct : Nat → List Nat} {n : Nat} (e : rsG S' = rsG S) (h : cT S ip il ir ct n) : cT S' ip il ir ct n := by
  obtain ⟨_, _, _, _, _, _, _, _, _, _, e11, _, _, _, _, _, _, _, e19, e20, _, e22, e23⟩ := rsG_of e
  unfold cT cL
  rw [e11, e19, e20, e22, e23]
  exact h
section ST
variable {S : CS} {K N : Nat} {pn tr ar de P : Nat → Nat} {ip : Nat → Bool} {il ir : Nat → Nat} {ct : Nat → List Nat} {n tm : Nat} {post : CS → Prop}
theorem q_functionAt {pst : Int32 → Prop} (h : cT S ip il ir ct N) (hk : n < N) (hN : N ≤ 32) (ho : off ct N < 2 ^ 30) {j : Nat} (hj : j < (ct n).length) (hp : pst (nI (tab ip il ir ((ct n).getD j 0) n))) : p_X0_functionAt S (nI n) (nI j) pst := by
  obtain ⟨⟨t1, t2⟩, t3, t4, t5, t6, t7⟩ := h
  have o1 := off_mono (ct := ct) (show n + 1 ≤ N by omega)
  have o2 : off ct (n + 1) = off ct n + (ct n).length := rfl
  unfold p_X0_functionAt
  rw [bx_cl (show n < 2 ^ 31 by omega), t1 n (by omega), nI_add, bx_cl (by omega), t3 n j hk hj]
  exact ⟨bx_in (by omega) (by omega), bx_in (by omega) (by omega), hp⟩
theorem q_settleNode (hS : cSh S K pn tr ar de) (hG : cG S ip il ir N) (hn : n < N) (hT : cT S ip il ir ct N) (ho : off ct N < 2 ^ 30) (hct : ip n = false → isCuts ip (hf il) (hf ir) n (ct n)) (hin : ip n = true → ∃ i, i < 8 ∧ cIN S n = nI i ∧ cIT S i = nI tm ∧ tm ≤ 1000)
    (hP : ∀ l, l < 2 * n → cGA S l = lN (P l) ∧ gN (2000 * n) (P l))
    (hp : ∀ S' x0 x1 z0 z1, rsG S' = rsG S → (∀ l, l < 2 * n → cGA S' l = cGA S l) → cGA S' (2 * n) = lN z0 → cGA S' (2 * n + 1) = lN z1 → gN (2000 * n + 1000) x0 → gN (2000 * n + 1000) x1 → gN (2000 * (n + 1)) z0 → gN (2000 * (n + 1)) z1 → nodeSp K pn tr de P ip il ir (ct n) tm n x0 x1 → invSp K pn tr de (2 * n) x1 x0 z0 → invSp K pn tr de (2 * n + 1) x0 x1 z1 → post S') : p_X1_settleNode S (nI n) post := by
  have hN := hG.1
  have k2 : (2 : Int32) = nI 2 := rfl
  have fin : ∀ (S5 : CS) (x0 x1 : Nat), rsG S5 = rsG S → (∀ l, l < 2 * n → cGA S5 l = cGA S l) → cGA S5 (2 * n) = lN x0 → cGA S5 (2 * n + 1) = lN x1 → gN (2000 * n + 1000) x0 → gN (2000 * n + 1000) x1 → nodeSp K pn tr de P ip il ir (ct n) tm n x0 x1 → p_X1_settleNode_108 S5 (nI (2 * n)) post := by
    intro S5 x0 x1 a1 a2 a3 a4 a5 a6 a7
    unfold p_X1_settleNode_108
    refine q_timeOf (T := 2000 * n + 1000) (by omega) a3 a5 (by omega) ?_
    rw [nI_1]
    refine q_timeOf (T := 2000 * n + 1000) (by omega) a4 a6 (by omega) ?_
    refine q_fitInverters (T := 2000 * n + 1000) (rsG_Sh a1 hS) (by omega) (by omega) a3 a5 a6 ?_
    intro S16 z0 b1 b2 b3 b4 b5 b6
    refine q_fitInverters (T := 2000 * n + 1000) (rsG_Sh b1 (rsG_Sh a1 hS)) (by omega) (by omega) (by rw [b6 _ (by omega)]; exact a4) a6 a5 ?_
    intro S17 z1 c1 c2 c3 c4 c5 c6
    refine hp S17 x0 x1 z0 z1 (c1.trans (b1.trans a1)) (fun l hl => ?_) ?_ c3 a5 a6 (gN_mono b4 (by omega)) (gN_mono c4 (by omega)) a7 b5 c5
    · rw [c6 _ (by omega), b6 _ (by omega)]; exact a2 l hl
    · rw [c6 _ (by omega)]; exact b3
  unfold p_X1_settleNode
  intro y1 e1
  rw [k2, pk_mul] at e1
  subst e1
  rw [bx_cl (show 2 * n < 2 ^ 31 by omega)]
  refine ⟨bx_in (by omega) (by omega), ?_⟩
  intro S3 e3
  rw [nI_1, bx_cl (show 2 * n + 1 < 2 ^ 31 by omega)]
  refine ⟨bx_in (by omega) (by omega), ?_⟩
  intro S5 e5
  have r5 : rsG S5 = rsG S := by rw [e5, rsG_GA, e3, rsG_GA]
  have g5 : cGA S5 = vp_updL (vp_updL (cGA S) (2 * n) (lN tp)) (2 * n + 1) (lN tp) := by rw [e5, gs_cGA_GA, e3, gs_cGA_GA, tpL]
  refine q_isInput (rsG_G r5 hG) hn ?_
  refine c2 (bI_0 _) (fun hi => ?_) (fun hi => ?_)
  · unfold p_X1_settleNode_67
    have hc := hct hi
    refine ⟨fun S' x3 => ∃ (k x0 x1 : Nat), x3 = nI k ∧ k ≤ (ct n).length ∧ rsG S' = rsG S ∧ (∀ l, l < 2 * n → cGA S' l = cGA S l) ∧ cGA S' (2 * n) = lN x0 ∧ cGA S' (2 * n + 1) = lN x1 ∧ gN (2000 * n + 1000) x0 ∧ gN (2000 * n + 1000) x1 ∧ mn (of1 K pn tr de P ip il ir (ct n) n false k) x0 ∧ mn (of1 K pn tr de P ip il ir (ct n) n true k) x1, fun _ x3 => (ct n).length - x3.toNatClampNeg, ⟨0, tp, tp, rfl, by omega, r5, fun l hl => ?_, ?_, ?_, Or.inl rfl, Or.inl rfl, mn_cg (fun y => ⟨False.elim, fun ⟨j, hj, _⟩ => absurd hj (by omega)⟩) mn_none, mn_cg (fun y => ⟨False.elim, fun ⟨j, hj, _⟩ => absurd hj (by omega)⟩) mn_none⟩, ?_⟩
    · rw [g5, pk_uLn (by omega), pk_uLn (by omega)]
    · rw [g5, pk_uLn (by omega), pk_uLs]
    · rw [g5, pk_uLs]
    · rintro S' x3 ⟨k, x0, x1, rfl, hk, a1, a2, a3, a4, a5, a6, a7, a8⟩
      have hT' := rsG_T a1 hT
      have o1 := off_mono (ct := ct) (show n + 1 ≤ N by omega)
      have o2 : off ct (n + 1) = off ct n + (ct n).length := rfl
      unfold b_X1_settleNode_67
      refine q_size hT'.1 hn (by omega) ho ?_
      refine c2 (nI_leI (by omega) (by omega)) (fun y => ?_) (fun y => ?_)
      · have ek : k = (ct n).length := by omega
        rw [ek] at a7 a8
        exact fin S' x0 x1 a1 a2 a3 a4 a5 a6 ⟨fun q => absurd (hi.symm.trans q) (by decide), fun _ => ⟨a7, a8⟩⟩
      · have hkl : k < (ct n).length := by omega
        refine q_leavesAt hT'.1 hn (by omega) ho hT'.2.2.1 (by have := hT'.2.2.2.2.2; omega) hkl ?_
        refine q_functionAt hT' hn (by omega) ho hkl ?_
        obtain ⟨m, em⟩ : ∃ m, m = (ct n).getD k 0 := ⟨_, rfl⟩
        have hm := (hc.2 m).1 (by rw [em]; exact gD_mem hkl)
        rw [← em]
        refine q_fitCut (rsG_Sh a1 hS) (by omega) hm.1 hm.2.1 (mk_lt _ _) (fun l hl => by rw [a2 l hl]; exact hP l hl) (by omega) a3 a5 a7 a4 a6 a8 ?_
        intro S22 x0' x1' b1 b2 b3 b4 b5 b6 b7 b8
        intro y23 e23
        refine ⟨⟨k + 1, x0', x1', by rw [e23, nI_1], by omega, b1.trans a1, fun l hl => (b2 l hl).trans (a2 l hl), b3, b6, b4, b7, mn_cg (fun y => ?_) b5, mn_cg (fun y => ?_) b8⟩, mu_up e23 (by omega) (by omega)⟩
        · constructor
          · rintro (⟨j, h1, h2⟩ | h)
            · exact ⟨j, by omega, h2⟩
            · refine ⟨k, by omega, ?_⟩
              rw [← em, if_neg Bool.false_ne_true]
              exact h
          · rintro ⟨j, h1, h2⟩
            by_cases e : j = k
            · rw [e, ← em, if_neg Bool.false_ne_true] at h2
              exact Or.inr h2
            · exact Or.inl ⟨j, by omega, h2⟩
        · constructor
          · rintro (⟨j, h1, h2⟩ | h)
            · exact ⟨j, by omega, h2⟩
            · refine ⟨k, by omega, ?_⟩
              rw [← em, if_pos rfl]
              exact h
          · rintro ⟨j, h1, h2⟩
            by_cases e : j = k
            · rw [e, ← em, if_pos rfl] at h2
              exact Or.inr h2
            · exact Or.inl ⟨j, by omega, h2⟩
  · have hi1 : ip n = true := by cases z : ip n with
      | true => rfl
      | false => exact absurd z hi
    obtain ⟨i, h8, eIN, eIT, htm⟩ := hin hi1
    obtain ⟨_, _, _, _, _, _, q7, _, _, q10, _⟩ := rsG_of r5
    rw [bx_cl (show n < 2 ^ 31 by omega), q7, q10, eIN, bx_cl (show i < 2 ^ 31 by omega), eIT]
    refine ⟨bx_in (by omega) (by omega), bx_in (by omega) (by omega), bx_in (by omega) (by omega), ?_⟩
    intro S27 e27
    have k23 : (23 : Int32) = nI 23 := rfl
    rw [nI_l (by omega), k23, lx_shl _ (by omega), g5] at e27
    have g27 : cGA S27 = vp_updL (vp_updL (vp_updL (cGA S) (2 * n) (lN tp)) (2 * n + 1) (lN tp)) (2 * n) (lN (tm * 2 ^ 23)) := by rw [e27, gs_cGA_GA]
    refine fin S27 (tm * 2 ^ 23) tp (by rw [e27, rsG_GA]; exact r5) (fun l hl => ?_) ?_ ?_ ?_ (Or.inl rfl) ⟨fun _ => ⟨rfl, rfl⟩, fun q => absurd (hi1.symm.trans q) (by decide)⟩
    · rw [g27, pk_uLn (by omega), pk_uLn (by omega), pk_uLn (by omega)]
    · rw [g27, pk_uLs]
    · rw [g27, pk_uLn (by omega), pk_uLs]
    · right
      have h1 : tm * 2 ^ 23 ≤ (2000 * n + 1000) * 2 ^ 23 := Nat.mul_le_mul_right _ (by omega)
      have h2 : (2000 * n + 1000 + 1) * 2 ^ 23 = (2000 * n + 1000) * 2 ^ 23 + 2 ^ 23 := by rw [Nat.succ_mul]
      omega
end ST
