/-! 49 MWORK2: the reference's workAnd, its loops -/
theorem lfM_pc {m N j : Nat} (h : j < pc N m) : pc (lfM m N j) m = j ∧ m.testBit (lfM m N j) = true := by
  obtain ⟨i, h1, h2, h3⟩ := rank_ex N h
  rw [← h3, lfM_eq N i h1 h2]
  exact ⟨rfl, h2⟩
section MW2
variable {M : MS} {K N n a T : Nat} {pn tr ar de P : Nat → Nat} {ip : Nat → Bool} {il ir : Nat → Nat} {L : List Nat} {post : MS → Prop}
theorem r_cutsOf {pst : Int32 → Prop} (hG : mG M ip il ir N) (hn : n < N) (hi : ip n = false) (ha : mAO M n = nI a) (ha24 : a < 24) (hL : mL M a L) (hp : pst (nI L.length)) : p_X6_cutsOf M (nI n) pst := by
  have hN := hG.1
  unfold p_X6_cutsOf
  refine r_isInput hG hn ?_
  rw [hi]
  refine ⟨fun _ => ?_, fun w => absurd rfl w⟩
  rw [bx_cl (show n < 2 ^ 31 by omega), ha, bx_cl (show a < 2 ^ 31 by omega), hL.1]
  exact ⟨bx_in (by omega) (by omega), bx_in (by omega) (by omega), hp⟩
theorem r_workAnd (hS : mSh M K pn tr ar de) (hG : mG M ip il ir N) (hND : mND M = nI N) (hn : n < N) (hi : ip n = false) (hc : isCuts ip (hf il) (hf ir) n L) (ha : mAO M n = nI a) (ha24 : a < 24) (hL : mL M a L) (hlen : L.length ≤ 4991) (hP : ∀ l, l < 2 * n → mAV M l = tI (P l) ∧ gN T (P l)) (hT : T < 2 ^ 19) (hx0 : mNm M K pn (2 * n) tp) (hx1 : mNm M K pn (2 * n + 1) tp)
    (hpost : ∀ M' x0 x1, rsW M' = rsW M → mO2 M M' n → mNm M' K pn (2 * n) x0 → gN (T + 1000) x0 → mn (of1 K pn tr de P ip il ir L n false L.length) x0 → mNm M' K pn (2 * n + 1) x1 → gN (T + 1000) x1 → mn (of1 K pn tr de P ip il ir L n true L.length) x1 → post M') : p_X6_workAnd M (nI n) post := by
  have hN := hG.1
  have s2 := hS.2.1
  unfold p_X6_workAnd p_X6_workAnd_2
  refine ⟨fun M' x2 => ∃ (k x0 x1 : Nat), x2 = nI k ∧ k ≤ L.length ∧ rsW M' = rsW M ∧ mO2 M M' n ∧ mNm M' K pn (2 * n) x0 ∧ gN (T + 1000) x0 ∧ mn (of1 K pn tr de P ip il ir L n false k) x0 ∧ mNm M' K pn (2 * n + 1) x1 ∧ gN (T + 1000) x1 ∧ mn (of1 K pn tr de P ip il ir L n true k) x1, fun _ x2 => L.length - x2.toNatClampNeg, ⟨0, tp, tp, rfl, by omega, rfl, mO2_rf M n, hx0, Or.inl rfl, mn_cg (fun y => ⟨False.elim, fun ⟨j, hj, _⟩ => absurd hj (by omega)⟩) mn_none, hx1, Or.inl rfl, mn_cg (fun y => ⟨False.elim, fun ⟨j, hj, _⟩ => absurd hj (by omega)⟩) mn_none⟩, ?_⟩
  rintro M' x2 ⟨k, x0, x1, rfl, hk, a1, a2, a3, a4, a5, a6, a7, a8⟩
  obtain ⟨_, q2, _, _, _, _, _, _, _, _, _, _, _, _, _, _, q17, q18, q19, q20, _⟩ := rsW_of a1
  have hG' := rsW_G a1 hG
  have hL' : mL M' a L := by unfold mL; rw [q18, q19]; exact hL
  have ha' : mAO M' n = nI a := by rw [q17]; exact ha
  unfold b_X6_workAnd_2
  refine r_cutsOf hG' hn hi ha' ha24 hL' ?_
  refine c2 (nI_leI (by omega) (by omega)) (fun z => ?_) (fun z => ?_)
  · have e : k = L.length := by omega
    rw [e] at a5 a8
    exact hpost M' x0 x1 a1 a2 a3 a4 a5 a6 a7 a8
  · have hkl : k < L.length := by omega
    obtain ⟨m, em⟩ : ∃ m, m = L.getD k 0 := ⟨_, rfl⟩
    have hm := (hc.2 m).1 (by rw [em]; exact gD_mem hkl)
    have hn32 := Nat.pow_lt_pow_right (show 1 < 2 by decide) (show n < 32 by omega)
    have hnN := Nat.pow_lt_pow_right (show 1 < 2 by decide) hn
    have epn : pc n m = pc 32 m := pc_32N hm.1 (by omega)
    have epN : pc N m = pc 32 m := pc_32N (by omega) hN
    have k5 : (5000 : Int32) = nI 5000 := rfl
    rw [bx_cl (show n < 2 ^ 31 by omega), ha', k5, pk_mul, nI_add, bx_cl (show 5000 * a + k < 2 ^ 31 by omega), hL'.2 k hkl, ← em]
    refine ⟨bx_in (by omega) (by omega), bx_in (by omega) (by omega), ?_⟩
    intro y6 e6
    subst e6
    refine r_functionOf hG' (by rw [q2]; exact hND) hn hm.1 hm.2.1 (fun f1 g1 _ => ?_)
    obtain ⟨M8, e8⟩ : ∃ M8, M8 = mVA_s (mLE_s M' f1) g1 := ⟨_, rfl⟩
    rw [← e8]
    refine r_spread (N := N) (by rw [e8, gs_mND_VA, gs_mND_LE, q2]; exact hND) hN (by omega) (by omega) (fun f2 hf2 => ?_)
    obtain ⟨M10, e10⟩ : ∃ M10, M10 = mLE_s M8 f2 := ⟨_, rfl⟩
    rw [← e10, epN]
    have w10 : rsW M10 = rsW M' := by rw [e10, rsW_LE, e8, rsW_VA, rsW_LE]
    have l10 : mLE M10 = f2 := by rw [e10, gs_mLE_LE]
    have fi10 : mFI M10 = mFI M' := by rw [e10, gs_mFI_LE, e8, gs_mFI_VA, gs_mFI_LE]
    have ga10 : mGA M10 = mGA M' := by rw [e10, gs_mGA_LE, e8, gs_mGA_VA, gs_mGA_LE]
    have gp10 : mGP M10 = mGP M' := by rw [e10, gs_mGP_LE, e8, gs_mGP_VA, gs_mGP_LE]
    have hleaf : ∀ j, j < pc 32 m → f2 j = nI (lfM m n j) ∧ lfM m n j < n := by
      intro j hj
      rw [← epn] at hj
      obtain ⟨h1, h2⟩ := lfM_pc hj
      have h3 := lfM_lt hj
      have h4 := hf2 (lfM m n j) (by omega) h2
      rw [h1] at h4
      exact ⟨h4, h3⟩
    have hinj : ∀ i j, i < pc 32 m → j < pc 32 m → lfM m n i = lfM m n j → i = j := by
      intro i j h1 h2 e
      rw [← epn] at h1 h2
      have u1 := (lfM_pc h1).1
      have u2 := (lfM_pc h2).1
      rw [e] at u1
      omega
    unfold p_X6_workAnd_47
    refine ⟨fun M'' x6 => ∃ (c z0 z1 : Nat), x6 = nI c ∧ c ≤ K ∧ rsW M'' = rsW M ∧ mLE M'' = f2 ∧ mO2 M M'' n ∧ mNm M'' K pn (2 * n) z0 ∧ gN (T + 1000) z0 ∧ mn (fun y => of1 K pn tr de P ip il ir L n false k y ∨ ofs c pn tr de P (lfM m n) (pc 32 m) (tab ip il ir m n) y) z0 ∧ mNm M'' K pn (2 * n + 1) z1 ∧ gN (T + 1000) z1 ∧ mn (fun y => of1 K pn tr de P ip il ir L n true k y ∨ ofs c pn tr de P (lfM m n) (pc 32 m) (tab ip il ir m n ^^^ (2 ^ (2 ^ pc 32 m) - 1)) y) z1, fun _ x6 => K - x6.toNatClampNeg, ⟨0, x0, x1, rfl, by omega, w10.trans a1, l10, mO2_tr a2 ⟨fun j _ _ => by rw [fi10, ga10]; exact ⟨rfl, rfl⟩, fun j _ => by rw [gp10]⟩, mNm_same a3 (by rw [fi10]) (by rw [ga10]) (fun q _ => by rw [gp10]), a4, mn_cg (fun y => ⟨Or.inl, fun h => h.elim id (fun ⟨c, hc, _⟩ => absurd hc (by omega))⟩) a5, mNm_same a6 (by rw [fi10]) (by rw [ga10]) (fun q _ => by rw [gp10]), a7, mn_cg (fun y => ⟨Or.inl, fun h => h.elim id (fun ⟨c, hc, _⟩ => absurd hc (by omega))⟩) a8⟩, ?_⟩
    rintro M'' x6 ⟨c, z0, z1, rfl, hcK, b1, b2, b3, b4, b5, b6, b7, b8, b9⟩
    have hS' := rsW_Sh b1 hS
    have av := (rsW_of b1).2.2.2.2.2.2.2.2.2.2.2.2.2.2.2.2.2.2.2.1
    unfold b_X6_workAnd_47
    rw [hS'.1]
    refine c2 (nI_leI (by omega) (by omega)) (fun y => ?_) (fun y => ?_)
    · have e : c = K := by omega
      rw [e] at b6 b9
      intro y12 e12
      refine ⟨⟨k + 1, z0, z1, by rw [e12, nI_1], by omega, b1, b3, b4, b5, mn_cg (fun y => ?_) b6, b7, b8, mn_cg (fun y => ?_) b9⟩, mu_up e12 (by omega) (by omega)⟩
      · constructor
        · rintro (⟨j, h1, h2⟩ | h)
          · exact ⟨j, by omega, h2⟩
          · refine ⟨k, by omega, ?_⟩
            rw [← em, if_neg Bool.false_ne_true]
            exact h
        · rintro ⟨j, h1, h2⟩
          by_cases e : j = k
          · rw [e, ← em, if_neg Bool.false_ne_true] at h2
            exact Or.inr h2
          · exact Or.inl ⟨j, by omega, h2⟩
      · constructor
        · rintro (⟨j, h1, h2⟩ | h)
          · exact ⟨j, by omega, h2⟩
          · refine ⟨k, by omega, ?_⟩
            rw [← em, if_pos rfl]
            exact h
        · rintro ⟨j, h1, h2⟩
          by_cases e : j = k
          · rw [e, ← em, if_pos rfl] at h2
            exact Or.inr h2
          · exact Or.inl ⟨j, by omega, h2⟩
    · obtain ⟨⟨d1, d2, d3⟩, d4, _⟩ := hS'.2.2 c (by omega)
      rw [bx_cl (show c < 2 ^ 31 by omega), d4]
      refine ⟨bx_in (by omega) (by omega), ?_⟩
      refine c2n (nI_eq (by omega) (by omega)) (fun w => ?_) (fun w => ?_)
      · have hno : ∀ (O : Nat → Prop) (f' y : Nat), (O y ∨ ofs c pn tr de P (lfM m n) (pc 32 m) f' y) ↔ (O y ∨ ofs (c + 1) pn tr de P (lfM m n) (pc 32 m) f' y) := by
          intro O f' y
          constructor
          · rintro (h | ⟨d, h1, h2⟩)
            · exact Or.inl h
            · exact Or.inr ⟨d, by omega, h2⟩
          · rintro (h | ⟨d, h1, h2⟩)
            · exact Or.inl h
            · refine Or.inr ⟨d, ?_, h2⟩
              by_cases e : d = c
              · subst e; exact absurd h2.1 w
              · omega
        intro y15 e15
        exact ⟨⟨c + 1, z0, z1, by rw [e15, nI_1], by omega, b1, b2, b3, b4, b5, mn_cg (hno _ _) b6, b7, b8, mn_cg (hno _ _) b9⟩, mu_up e15 (by omega) (by omega)⟩
      · have hyes : ∀ (O : Nat → Prop) (f' y : Nat), ((O y ∨ ofs c pn tr de P (lfM m n) (pc 32 m) f' y) ∨ ofC tr de P (lfM m n) (pn c) f' c y) ↔ (O y ∨ ofs (c + 1) pn tr de P (lfM m n) (pc 32 m) f' y) := by
          intro O f' y
          constructor
          · rintro ((h | ⟨d, h1, h2⟩) | h)
            · exact Or.inl h
            · exact Or.inr ⟨d, by omega, h2⟩
            · exact Or.inr ⟨c, by omega, w, by rw [w] at h; exact h⟩
          · rintro (h | ⟨d, h1, h2, h3⟩)
            · exact Or.inl (Or.inl h)
            · by_cases e : d = c
              · subst e; exact Or.inr (by rw [w]; exact h3)
              · exact Or.inl (Or.inr ⟨d, by omega, h2, h3⟩)
        rw [← w]
        refine r_tryMoves (lf := lfM m n) hS' (by omega) (by omega) (fun i hi => by rw [w] at hi; rw [b2]; exact hleaf i hi) (fun i j h1 h2 => by rw [w] at h1 h2; exact hinj i j h1 h2) (fun l hl => by rw [av]; exact hP l hl) hT (by rw [w]; exact mk_lt _ _) b4 b5 b6 b7 b8 b9 ?_
        intro M16 t0 t1 r1 r2 r3 r4 r5 r6 r7 r8
        intro y17 e17
        have hle := (rsT_of r1).2.2.2.2.2.2.2.2.2.2.2.2.2.2.2.2.2.2.2.2.2.2
        refine ⟨⟨c + 1, t0, t1, by rw [e17, nI_1], by omega, (rsW_T r1).trans b1, hle.trans b2, mO2_tr b3 r2, r3, r4, mn_cg (fun y => ?_) r5, r6, r7, mn_cg (fun y => ?_) r8⟩, mu_up e17 (by omega) (by omega)⟩
        · rw [w]
          have := hyes (of1 K pn tr de P ip il ir L n false k) (tab ip il ir m n) y
          rw [w] at this
          exact this
        · rw [w]
          have := hyes (of1 K pn tr de P ip il ir L n true k) (tab ip il ir m n ^^^ (2 ^ (2 ^ pc 32 m) - 1)) y
          rw [w] at this
          exact this
end MW2
