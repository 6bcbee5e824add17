/-! 69 CASE2: the law's cases that settle: arrival, gate, run, wanted, area, worst, mapped -/
def gaV (ip : Nat → Bool) (pn P : Nat → Nat) (l k : Nat) : Int32 := if hgP ip P l = true then (if k = 0 then nI (ceP P l) else if k - 1 < pn (ceP P l) then nI (piP P l (k - 1)) else (-1 : Int32)) else (-1 : Int32)
section C2
variable {g23 : CS → (Nat → Int64) → MS → Int32 → Nat → Nat → Prop} {xs : Nat → Int32} {L : Nat} {S : CS} {o : Nat → Int64} {M : MS} {i : Int32} {uc us : Nat}
variable {N I K O : Nat} {pn tr ar de nb inN : Nat → Nat} {ip : Nat → Bool} {il ir : Nat → Nat} {ct : Nat → List Nat} {tmn ol : Nat → Nat}
/-- the reference settles, over the class's numbers -/
theorem mR_settleP {post : MS → Prop} {P P1 : Nat → Nat} (hA : aOK N I O ip il ir nb inN ct tmn ol) (h : mR M N I K O pn tr ar de ip il ir inN ct tmn ol) (hs : setSp K pn tr de P P1 ip il ir ct tmn N)
    (hp : ∀ M', mR M' N I K O pn tr ar de ip il ir inN ct tmn ol → mTH M' = mTH M → mGs M' N K pn ip P → post M') : p_X6_settle M post :=
  mR_settle hA h (fun M' _ _ h1 h2 h3 h4 => hp M' h1 h2 (mGs_cg h3 (set_eq hA hs h4)))
theorem w_729 (hR : Rel S M) (v1 : vp_in (i + (1 : Int32)) L) (hb : uc + 1 ≤ 601024 ∧ us + 6 ≤ 7293034) (hgo : ∀ S' o' M' y, Rel S' M' → cLVn S' = cLVn S → y = i + (4 : Int32) → g23 S' o' M' y (uc + 1) (us + 6)) : p_law_729 g23 xs L S o M i uc us := by
  obtain ⟨N, I, K, O, pn, tr, ar, de, ip, il, ir, nb, inN, ct, tmn, ol, hA, hC, hM⟩ := hR
  have h2 := hC.2.1
  obtain ⟨m1, m2, m3, m4, m5, m6, m7, m8, m9, _⟩ := id hM
  have hN := hA.1
  have k2 : (2 : Int32) = nI 2 := rfl
  unfold p_law_729 p_L_arrival p_X5_arrival p_X5_requireLiteral
  generalize xs (i + (1 : Int32)).toNatClampNeg = x
  refine ⟨v1, hb, ?_⟩
  rw [h2, k2, pk_mul]
  have no : (x < 0 ∨ nI (2 * N) ≤ x) → ∀ S32 o33, S32 = S → o33 = o → vp_in (i + (1 : Int32)) L ∧ p_X6_arrival M x (fun r36 M37 => p_X6_thrown M37 (fun r38 => (r38 = 1 → ((¬ (1 : Int32) = 0 → (∀ y42 : Int32, y42 = (i + (4 : Int32)) → (g23 S32 o33 M37 y42 (uc + 1) (us + 6)))) ∧ ((1 : Int32) = 0 → (((lg_cmp (o33 (0 : Int32).toNatClampNeg) (r36.toInt64)) = 0 → (∀ y44 : Int32, y44 = (i + (4 : Int32)) → (g23 S32 o33 M37 y44 (uc + 1) (us + 6)))) ∧ (¬ (lg_cmp (o33 (0 : Int32).toNatClampNeg) (r36.toInt64)) = 0 → (False)))))) ∧ (¬ r38 = 1 → (False)))) := by
    refine fun hx => pi2' ?_
    refine ⟨v1, ?_⟩
    unfold p_X6_arrival p_X6_isLiteral
    rw [m3, k2, pk_mul]
    refine r_iIn hx ⟨Or.inl rfl, fun _ => ?_, fun q => absurd rfl q⟩
    rintro _ rfl
    rw [gs_mTH_TH]
    exact ⟨fun q => absurd q (by decide), fun _ => lw_fin (gs_mTH_TH M 1) (fun q => absurd q (by decide)) (fun y ey => hgo S o _ y (Rel_mk hA hC (mR_TH hM)) rfl ey)⟩
  rcases pk_ix x (n := 2 * N) (by omega) with h | h | ⟨l, hl, e⟩
  · exact q_rIn (Or.inl h) ⟨fun _ => no (Or.inl h), rfl⟩
  · exact q_rIn (Or.inr h) ⟨fun _ => no (Or.inr h), rfl⟩
  · subst e
    refine q_rIy hl (by omega) (cR_settle hA hC (fun S' P P1 hC' eL hgt hs => q_timeOf (by omega) (hgt l hl).1 (hgt l hl).2 (by omega) ?_))
    refine pi2 ?_
    refine ⟨v1, ?_⟩
    unfold p_X6_arrival p_X6_isLiteral
    rw [m3, k2, pk_mul]
    refine r_iIy hl (by omega) ⟨Or.inr rfl, fun q => absurd q (by decide), fun _ => ?_⟩
    rintro _ rfl
    rw [gs_mTH_TH]
    refine ⟨fun _ => mR_settleP hA (mR_TH hM) hs (fun M' hM' eT hgs => ?_), fun q => absurd (by decide) q⟩
    rw [bx_cl (show l < 2 ^ 31 by omega), (mGs_dec m1.2.1 (sh_pn m1).2 hgs hl).1]
    refine ⟨bx_in (by omega) (by omega), ?_⟩
    exact lw_fin (eT.trans (gs_mTH_TH M 0)) (fun _ => by rw [outp_0]) (fun y ey => hgo S' _ _ y (Rel_mk hA hC' hM') eL ey)
theorem q_gate1 {l k : Nat} {post : Int32 → CS → Prop} {P : Nat → Nat} (h : cWn S N K O pn tr ar de ip il ir P ol) (hl : l < 2 * N) (hk : k < 4) (hp : post (gaV ip pn P l k) S) :
    p_X1_hasGate S (nI l) (fun r4 => (¬ r4 = 0 → (p_X1_cellOf S (nI l) (fun r7 => (¬ nI k = 0 → (vp_in r7 12 ∧ ((((cPI S) r7.toNatClampNeg) < nI k → (post (-1 : Int32) S)) ∧ (¬ ((cPI S) r7.toNatClampNeg) < nI k → (p_X1_pinLiteral S (nI l) (nI k - (1 : Int32)) (fun r12 => post r12 S)))))) ∧ (nI k = 0 → (post r7 S))))) ∧ (r4 = 0 → (post (-1 : Int32) S))) := by
  obtain ⟨hG, hNC, hO, hS, hh, hg⟩ := h
  have hN := hG.1
  have hK := hh.2.1
  refine q_hasGate hG hS hl ?_
  unfold gaV at hp
  refine c2n (bI_0 _) (fun z => ?_) (fun z => ?_)
  · rw [Bool.not_eq_false] at z
    rw [if_pos z] at hp
    have hx := (hg_iff.1 z).1
    have hc := (hg l hl z).1
    obtain ⟨c1, c2', _⟩ := hh.2.2 _ hc
    refine q_cellOf hN hS hl hx ?_
    refine c2n (show nI k = 0 ↔ k = 0 from nI_eq (b := 0) (by omega) (by omega)) (fun y => ?_) (fun y => ?_)
    · rw [if_neg y] at hp
      rw [bx_cl (show ceP P l < 2 ^ 31 by omega), c2']
      refine ⟨bx_in (by omega) (by omega), ?_⟩
      refine c2 (nI_ltI (by omega) (by omega)) (fun x => ?_) (fun x => ?_)
      · rw [if_neg (by omega)] at hp; exact hp
      · rw [if_pos (by omega)] at hp
        rw [show (1 : Int32) = nI 1 from rfl, pk_sub (by omega)]
        exact q_pinLiteral hN hS hl hx (by omega) hp
    · rw [if_pos y] at hp; exact hp
  · rw [if_neg (by rw [z]; decide)] at hp; exact hp
theorem w_785 (hR : Rel S M) (v1 : vp_in (i + (1 : Int32)) L) (v2 : vp_in (i + (2 : Int32)) L) (hb : uc + 2 ≤ 601024 ∧ us + 12 ≤ 7293034) (hgo : ∀ S' o' M' y, Rel S' M' → cLVn S' = cLVn S → y = i + (4 : Int32) → g23 S' o' M' y (uc + 2) (us + 12)) : p_law_785 g23 xs L S o M i uc us := by
  obtain ⟨N, I, K, O, pn, tr, ar, de, ip, il, ir, nb, inN, ct, tmn, ol, hA, hC, hM⟩ := hR
  have h2 := hC.2.1
  obtain ⟨m1, m2, m3, m4, m5, m6, m7, m8, m9, _⟩ := id hM
  have hN := hA.1
  have k2 : (2 : Int32) = nI 2 := rfl
  have k4 : (4 : Int32) = nI 4 := rfl
  unfold p_law_785 p_L_gate p_X5_gate p_X5_requireLiteral
  generalize xs (i + (1 : Int32)).toNatClampNeg = x
  generalize xs (i + (2 : Int32)).toNatClampNeg = x2
  refine ⟨v1, v2, hb, ?_⟩
  have no1 : p_X6_gate_21 M x x2 (fun r36 M37 => p_X6_thrown M37 (fun r38 => (r38 = 1 → ((¬ (1 : Int32) = 0 → (∀ y42 : Int32, y42 = (i + (4 : Int32)) → (g23 S o M37 y42 (uc + 2) (us + 12)))) ∧ ((1 : Int32) = 0 → (((lg_cmp (o (0 : Int32).toNatClampNeg) (r36.toInt64)) = 0 → (∀ y44 : Int32, y44 = (i + (4 : Int32)) → (g23 S o M37 y44 (uc + 2) (us + 12)))) ∧ (¬ (lg_cmp (o (0 : Int32).toNatClampNeg) (r36.toInt64)) = 0 → (False)))))) ∧ (¬ r38 = 1 → (False)))) := by
    unfold p_X6_gate_21 p_X6_gate_22
    rintro _ rfl
    rw [gs_mTH_TH]
    exact ⟨fun q => absurd q (by decide), fun _ => lw_fin (gs_mTH_TH M 1) (fun q => absurd q (by decide)) (fun y ey => hgo S o _ y (Rel_mk hA hC (mR_TH hM)) rfl ey)⟩
  have no : ((x < 0 ∨ nI (2 * N) ≤ x) ∨ (∃ l, l < 2 * N ∧ x = nI l) ∧ (x2 < 0 ∨ nI 4 ≤ x2)) → ∀ S32 o33, S32 = S → o33 = o → vp_in (i + (1 : Int32)) L ∧ vp_in (i + (2 : Int32)) L ∧ p_X6_gate M x x2 (fun r36 M37 => p_X6_thrown M37 (fun r38 => (r38 = 1 → ((¬ (1 : Int32) = 0 → (∀ y42 : Int32, y42 = (i + (4 : Int32)) → (g23 S32 o33 M37 y42 (uc + 2) (us + 12)))) ∧ ((1 : Int32) = 0 → (((lg_cmp (o33 (0 : Int32).toNatClampNeg) (r36.toInt64)) = 0 → (∀ y44 : Int32, y44 = (i + (4 : Int32)) → (g23 S32 o33 M37 y44 (uc + 2) (us + 12)))) ∧ (¬ (lg_cmp (o33 (0 : Int32).toNatClampNeg) (r36.toInt64)) = 0 → (False)))))) ∧ (¬ r38 = 1 → (False)))) := by
    refine fun hx => pi2' ?_
    refine ⟨v1, v2, ?_⟩
    unfold p_X6_gate p_X6_isLiteral
    rw [m3, k2, pk_mul]
    rcases hx with hx | ⟨⟨l, hl, e⟩, hx⟩
    · exact r_iIn hx ⟨Or.inl rfl, fun _ => no1, fun q => absurd rfl q⟩
    · rw [e] at no1 ⊢
      exact r_iIy hl (by omega) ⟨Or.inr rfl, fun q => absurd q (by decide), fun _ => r_iIn (n := 4) hx ⟨fun _ => no1, fun q => absurd rfl q⟩⟩
  rw [h2]
  show p_X5_requireIndex S x (nI 2 * nI N) _ _
  rw [pk_mul]
  rcases pk_ix x (n := 2 * N) (by omega) with h | h | ⟨l, hl, e⟩
  · exact q_rIn (Or.inl h) ⟨fun _ => no (Or.inl (Or.inl h)), rfl⟩
  · exact q_rIn (Or.inr h) ⟨fun _ => no (Or.inl (Or.inr h)), rfl⟩
  · refine e ▸ q_rIy hl (by omega) ?_
    rcases pk_ix x2 (n := 4) (by omega) with h | h | ⟨k, hk, e2⟩
    · exact q_rIn (n := 4) (Or.inl h) ⟨fun _ => e ▸ no (Or.inr ⟨⟨l, hl, e⟩, Or.inl h⟩), rfl⟩
    · exact q_rIn (n := 4) (Or.inr h) ⟨fun _ => e ▸ no (Or.inr ⟨⟨l, hl, e⟩, Or.inr h⟩), rfl⟩
    · subst e2
      refine q_rIy (n := 4) hk (by omega) (cR_settle hA hC (fun S' P P1 hC' eL hgt hs => q_gate1 (post := fun x u => ∀ (S69 : CS) (o70 : Nat → Int64), S69 = (u, outp o x.toInt64).1 → o70 = (u, outp o x.toInt64).2 → (vp_in (i + (1 : Int32)) L ∧ (vp_in (i + (2 : Int32)) L ∧ (p_X6_gate M (nI l) (nI k) (fun r73 M74 => p_X6_thrown M74 (fun r38 => (r38 = (0 : Int32) → ((¬ (0 : Int32) = 0 → (∀ y42 : Int32, y42 = (i + (4 : Int32)) → (g23 S69 o70 M74 y42 (uc + 2) (us + 12)))) ∧ ((0 : Int32) = 0 → (((lg_cmp (o70 (0 : Int32).toNatClampNeg) (r73.toInt64)) = 0 → (∀ y44 : Int32, y44 = (i + (4 : Int32)) → (g23 S69 o70 M74 y44 (uc + 2) (us + 12)))) ∧ (¬ (lg_cmp (o70 (0 : Int32).toNatClampNeg) (r73.toInt64)) = 0 → (False)))))) ∧ (¬ r38 = (0 : Int32) → (False)))))))) (a_cWn hA hC' hgt hs) hl hk ?_))
      refine pi2 ?_
      refine ⟨v1, v2, ?_⟩
      unfold p_X6_gate p_X6_isLiteral
      rw [m3]
      show p_X6_isIn M (nI l) (nI 2 * nI N) _
      rw [pk_mul]
      refine r_iIy hl (by omega) ⟨Or.inr rfl, fun q => absurd q (by decide), fun _ => r_iIy (n := 4) hk (by omega) ⟨fun q => absurd q (by decide), fun _ => ?_⟩⟩
      unfold p_X6_gate_22
      rintro _ rfl
      rw [gs_mTH_TH]
      refine ⟨fun _ => mR_settleP hA (mR_TH hM) hs (fun M' hM' eT hgs => ?_), fun q => absurd (by decide) q⟩
      obtain ⟨_, d1, d2⟩ := mGs_dec m1.2.1 (sh_pn m1).2 hgs hl
      refine c2n (show nI k = 0 ↔ k = 0 from nI_eq (b := 0) (by omega) (by omega)) (fun y => ?_) (fun y => ?_)
      · have e3 : ((3 : Int32) * nI l + nI k) - (1 : Int32) = nI (3 * l + (k - 1)) := by
          rw [show (3 : Int32) = nI 3 from rfl, show (1 : Int32) = nI 1 from rfl, pk_mul, nI_add, pk_sub (by omega)]
          exact congrArg nI (by omega)
        rw [e3, bx_cl (show 3 * l + (k - 1) < 2 ^ 31 by omega)]
        refine ⟨bx_in (by omega) (by omega), ?_⟩
        refine lw_fin (eT.trans (gs_mTH_TH M 0)) (fun _ => ?_) (fun y ey => hgo S' _ _ y (Rel_mk hA hC' hM') eL ey)
        rw [outp_0]
        refine congrArg Int32.toInt64 ?_
        unfold gaV
        cases z : hgP ip P l
        · rw [if_neg (by decide), (d2 z).2 (k - 1) (by omega)]
        · rw [if_pos rfl, if_neg y, (d1 z).2 (k - 1) (by omega)]
      · rw [bx_cl (show l < 2 ^ 31 by omega)]
        refine ⟨bx_in (by omega) (by omega), ?_⟩
        refine lw_fin (eT.trans (gs_mTH_TH M 0)) (fun _ => ?_) (fun y ey => hgo S' _ _ y (Rel_mk hA hC' hM') eL ey)
        rw [outp_0]
        refine congrArg Int32.toInt64 ?_
        unfold gaV
        cases z : hgP ip P l
        · rw [if_neg (by decide), (d2 z).1]
        · rw [if_pos rfl, if_pos y, (d1 z).1]
theorem mR_want {post : Int32 → MS → Prop} {P P1 : Nat → Nat} (hA : aOK N I O ip il ir nb inN ct tmn ol) (h : mR M N I K O pn tr ar de ip il ir inN ct tmn ol) (hs : setSp K pn tr de P P1 ip il ir ct tmn N) (hg : gSt N K pn ip P)
    (hp : ∀ (M' : MS) (r : Int32) (w : Nat → Bool), mR M' N I K O pn tr ar de ip il ir inN ct tmn ol → mTH M' = mTH M → mGs M' N K pn ip P → wEf O ol ip pn P w → isWd M' r w → ((∃ k, k < O ∧ P (ol k) = tp ∧ (∀ j, j < k → P (ol j) ≠ tp) ∧ r = nI k) ∨ ((∀ j, j < O → P (ol j) ≠ tp) ∧ r = (-1 : Int32))) → post r M') : p_X6_want M post := by
  unfold p_X6_want
  refine mR_settleP hA h hs (fun M' hM' eT hgs => r_wantE (a_mWn hA hM' hgs hg) (fun f r w h1 h2 h3 => ?_))
  exact hp _ r w (mR_WA hM') (by rw [gs_mTH_WA]; exact eT) (mGs_same hgs (gs_mAV_WA _ _) (gs_mGA_WA _ _) (gs_mGP_WA _ _)) h1 h2 h3
theorem w_853 (hR : Rel S M) (hgo : ∀ S' o' M' y, Rel S' M' → cLVn S' = cLVn S → y = i + (4 : Int32) → g23 S' o' M' y uc us) : p_law_853 g23 xs L S o M i uc us := by
  obtain ⟨N, I, K, O, pn, tr, ar, de, ip, il, ir, nb, inN, ct, tmn, ol, hA, hC, hM⟩ := hR
  have hN := hA.1
  unfold p_law_853 p_X5_run
  refine cR_settle hA hC (fun S' P P1 hC' eL hgt hs => ?_)
  have hW := a_cWn hA hC' hgt hs
  have hg := hW.2.2.2.2.2
  refine q_run1 (post := fun r82 => p_X6_run M (fun r84 M85 => (r82 = r84 → (∀ y87 : Int32, y87 = (i + (4 : Int32)) → (g23 S' o M85 y87 uc us))) ∧ (¬ r82 = r84 → (False)))) hW (fun k hk a b => ?_) (fun w a hw => ?_)
  · rintro _ rfl
    refine mR_want hA (mR_TH hM) hs hg (fun M' r w' hM' eT hgs hw' hd hr => ?_)
    refine r_run1 hN hM'.2.2.1 hd ⟨fun q => ⟨fun _ y ey => hgo S' o M' y (Rel_mk hA hC' hM') eL ey, fun r2 => r2 ?_⟩, fun q => ?_⟩
    · rcases hr with ⟨k', c1, c2, c3, c4⟩ | ⟨c1, _⟩
      · rcases Nat.lt_trichotomy k k' with t | t | t
        · exact absurd a (c3 k t)
        · rw [c4, t]
        · exact absurd c2 (b k' t)
      · exact absurd a (c1 k hk)
    · rcases hr with ⟨k', c1, c2, c3, c4⟩ | ⟨c1, _⟩
      · rw [c4] at q
        have := hA.2.2.2.2.2.2.2.2.1
        exact absurd q (nI_m1 (by omega))
      · exact absurd a (c1 k hk)
  · rintro _ rfl
    refine mR_want hA (mR_TH hM) hs hg (fun M' r w' hM' eT hgs hw' hd hr => ?_)
    refine r_run1 hN hM'.2.2.1 hd ⟨fun q => ?_, fun q => ⟨fun _ y ey => hgo S' o M' y (Rel_mk hA hC' hM') eL ey, fun r2 => r2 (by rw [wEf_uq hw hw'])⟩⟩
    rcases hr with ⟨k', c1, c2, c3, c4⟩ | ⟨_, c1⟩
    · exact absurd c2 (a k' c1)
    · exact absurd c1 q
theorem w_866 (hR : Rel S M) (v1 : vp_in (i + (1 : Int32)) L) (hb : uc + 1 ≤ 601024 ∧ us + 6 ≤ 7293034) (hgo : ∀ S' o' M' y, Rel S' M' → cLVn S' = cLVn S → y = i + (4 : Int32) → g23 S' o' M' y (uc + 1) (us + 6)) : p_law_866 g23 xs L S o M i uc us := by
  obtain ⟨N, I, K, O, pn, tr, ar, de, ip, il, ir, nb, inN, ct, tmn, ol, hA, hC, hM⟩ := hR
  have hN := hA.1
  unfold p_law_866 p_L_wanted p_X5_wanted
  generalize xs (i + (1 : Int32)).toNatClampNeg = x
  refine ⟨v1, hb, fun hx => ?_, fun hx => ⟨fun _ => ?_, rfl⟩⟩
  · obtain ⟨k, hk, e⟩ := nI_of (x := x) (i32_nlt hx)
    subst e
    refine cR_settle hA hC (fun S' P P1 hC' eL hgt hs => ?_)
    have hW := a_cWn hA hC' hgt hs
    have hg := hW.2.2.2.2.2
    refine q_wl hW (fun v w hv ev hw => q_wanted1 hW hv ev hk (fun r hr => ?_))
    refine pi2 ?_
    refine ⟨v1, ?_⟩
    unfold p_X6_wanted
    refine ⟨fun _ => ?_, fun q => absurd hx q⟩
    unfold p_X6_wanted_10
    rintro _ rfl
    rw [gs_mTH_TH]
    refine ⟨fun _ => mR_want hA (mR_TH hM) hs hg (fun M' r' w' hM' eT hgs hw' hd _ => r_wanted1 hN hM'.2.2.1 hd hk (fun r2 hr2 => ?_)), fun q => absurd (by decide) q⟩
    refine lw_fin (eT.trans (gs_mTH_TH M 0)) (fun _ => ?_) (fun y ey => hgo S' _ _ y (Rel_mk hA hC' hM') eL ey)
    rw [wEf_uq hw' hw] at hr2
    rw [outp_0, isK_uq hr hr2]
  · refine pi2 ?_
    refine ⟨v1, ?_⟩
    unfold p_X6_wanted
    refine ⟨fun q => absurd q hx, fun _ => ?_⟩
    unfold p_X6_wanted_10
    rintro _ rfl
    rw [gs_mTH_TH]
    exact ⟨fun q => absurd q (by decide), fun _ => lw_fin (gs_mTH_TH M 1) (fun q => absurd q (by decide)) (fun y ey => hgo S o _ y (Rel_mk hA hC (mR_TH hM)) rfl ey)⟩
theorem w_922 (hR : Rel S M) (hgo : ∀ S' o' M' y, Rel S' M' → cLVn S' = cLVn S → y = i + (4 : Int32) → g23 S' o' M' y uc us) : p_law_922 g23 xs L S o M i uc us := by
  obtain ⟨N, I, K, O, pn, tr, ar, de, ip, il, ir, nb, inN, ct, tmn, ol, hA, hC, hM⟩ := hR
  have hN := hA.1
  unfold p_law_922 p_X5_area
  refine cR_settle hA hC (fun S' P P1 hC' eL hgt hs => ?_)
  have hW := a_cWn hA hC' hgt hs
  have hg := hW.2.2.2.2.2
  refine q_wl hW (fun v w hv ev hw => q_area1 hW hv ev hw ?_)
  rintro _ rfl
  refine mR_want hA (mR_TH hM) hs hg (fun M' r' w' hM' eT hgs hw' hd _ => r_area1 (tr := tr) (de := de) (a_mWn hA hM' hgs hg) hM'.1 hd hw' ?_)
  exact ⟨fun _ y ey => hgo S' o M' y (Rel_mk hA hC' hM') eL ey, fun r2 => r2 (by rw [wEf_uq hw hw'])⟩
theorem w_935 (hR : Rel S M) (hgo : ∀ S' o' M' y, Rel S' M' → cLVn S' = cLVn S → y = i + (4 : Int32) → g23 S' o' M' y uc us) : p_law_935 g23 xs L S o M i uc us := by
  obtain ⟨N, I, K, O, pn, tr, ar, de, ip, il, ir, nb, inN, ct, tmn, ol, hA, hC, hM⟩ := hR
  have hN := hA.1
  have hO6 := hA.2.2.2.2.2.2.2.2.1
  unfold p_law_935 p_X5_worst
  refine cR_settle hA hC (fun S' P P1 hC' eL hgt hs => ?_)
  have hW := a_cWn hA hC' hgt hs
  have hg := hW.2.2.2.2.2
  refine q_fona hN hW.2.2.1 hgt (fun k hk a b => ⟨fun q => absurd q (nI_m1 (by omega)), fun _ => ?_⟩) (fun a => ⟨fun _ => q_worst1 hW a ?_, fun q => absurd rfl q⟩)
  · rintro _ rfl
    refine mR_settleP hA (mR_TH hM) hs (fun M' hM' eT hgs => r_worst1 (a_mWn hA hM' hgs hg) (fun _ => ?_) (fun c => absurd a (c k hk)))
    exact ⟨fun _ y ey => hgo S' o M' y (Rel_mk hA hC' hM') eL ey, fun r2 => r2 rfl⟩
  · rintro _ rfl
    refine mR_settleP hA (mR_TH hM) hs (fun M' hM' eT hgs => r_worst1 (a_mWn hA hM' hgs hg) (fun ⟨k, c1, c2⟩ => absurd c2 (a k c1)) (fun _ => ?_))
    exact ⟨fun _ y ey => hgo S' o M' y (Rel_mk hA hC' hM') eL ey, fun r2 => r2 rfl⟩
theorem w_1016 (hR : Rel S M) (v1 : vp_in (i + (1 : Int32)) L) (v2 : vp_in (i + (2 : Int32)) L) (hb : uc + 1 ≤ 601024 ∧ us + 6 ≤ 7293034) (hgo : ∀ S' o' M' y, Rel S' M' → cLVn S' = cLVn S → y = i + (4 : Int32) → g23 S' o' M' y (uc + 1) (us + 6)) : p_law_1016 g23 xs L S o M i uc us := by
  obtain ⟨N, I, K, O, pn, tr, ar, de, ip, il, ir, nb, inN, ct, tmn, ol, hA, hC, hM⟩ := hR
  have h2 := hC.2.1
  obtain ⟨m1, m2, m3, m4, m5, m6, m7, m8, m9, _⟩ := id hM
  have hN := hA.1
  have k2 : (2 : Int32) = nI 2 := rfl
  unfold p_law_1016 p_L_mapped p_X5_mapped p_X5_requireLiteral
  generalize xs (i + (1 : Int32)).toNatClampNeg = x
  generalize xs (i + (2 : Int32)).toNatClampNeg = x2
  refine ⟨v1, v2, hb, ?_⟩
  obtain ⟨a, ha, e⟩ := wb_of32 x2
  subst e
  have no : (x < 0 ∨ nI (2 * N) ≤ x) → ∀ S32 o33, S32 = S → o33 = o → vp_in (i + (1 : Int32)) L ∧ vp_in (i + (2 : Int32)) L ∧ p_X6_mapped M x (nI a) (fun r36 M37 => p_X6_thrown M37 (fun r38 => (r38 = 1 → ((¬ (1 : Int32) = 0 → (∀ y42 : Int32, y42 = (i + (4 : Int32)) → (g23 S32 o33 M37 y42 (uc + 1) (us + 6)))) ∧ ((1 : Int32) = 0 → (((lg_cmp (o33 (0 : Int32).toNatClampNeg) (r36.toInt64)) = 0 → (∀ y44 : Int32, y44 = (i + (4 : Int32)) → (g23 S32 o33 M37 y44 (uc + 1) (us + 6)))) ∧ (¬ (lg_cmp (o33 (0 : Int32).toNatClampNeg) (r36.toInt64)) = 0 → (False)))))) ∧ (¬ r38 = 1 → (False)))) := by
    refine fun hx => pi2' ?_
    refine ⟨v1, v2, ?_⟩
    unfold p_X6_mapped p_X6_isLiteral
    rw [m3, k2, pk_mul]
    refine r_iIn hx ⟨Or.inl rfl, fun _ => ?_, fun q => absurd rfl q⟩
    rintro _ rfl
    rw [gs_mTH_TH]
    exact ⟨fun q => absurd q (by decide), fun _ => lw_fin (gs_mTH_TH M 1) (fun q => absurd q (by decide)) (fun y ey => hgo S o _ y (Rel_mk hA hC (mR_TH hM)) rfl ey)⟩
  rw [h2]
  show p_X5_requireIndex S x (nI 2 * nI N) _ _
  rw [pk_mul]
  rcases pk_ix x (n := 2 * N) (by omega) with h | h | ⟨l, hl, e⟩
  · exact q_rIn (Or.inl h) ⟨fun _ => no (Or.inl h), rfl⟩
  · exact q_rIn (Or.inr h) ⟨fun _ => no (Or.inr h), rfl⟩
  · subst e
    refine q_rIy hl (by omega) (cR_settle hA hC (fun S' P P1 hC' eL hgt hs => q_isThere (by omega) (hgt l hl).1 (hgt l hl).2 (by omega) ?_))
    have hW := a_cWn hA hC' hgt hs
    obtain ⟨w1, _, _, _, w5, hg⟩ := id hW
    refine c2 (bI_0 _) (fun z => ?_) (fun z => ?_)
    · rw [decide_eq_false_iff_not, Classical.not_not] at z
      refine pi2 ?_
      refine ⟨v1, v2, ?_⟩
      unfold p_X6_mapped p_X6_isLiteral
      rw [m3]
      show p_X6_isIn M (nI l) (nI 2 * nI N) _
      rw [pk_mul]
      refine r_iIy hl (by omega) ⟨Or.inr rfl, fun q => absurd q (by decide), fun _ => ?_⟩
      rintro _ rfl
      rw [gs_mTH_TH]
      refine ⟨fun _ => mR_settleP hA (mR_TH hM) hs (fun M' hM' eT hgs => ?_), fun q => absurd (by decide) q⟩
      rw [bx_cl (show l < 2 ^ 31 by omega), (mGs_dec m1.2.1 (sh_pn m1).2 hgs hl).1]
      refine ⟨bx_in (by omega) (by omega), fun q => absurd ((tI_m1 (hgs l hl).2 (by omega)).2 z) q, fun _ => ?_⟩
      exact lw_fin (eT.trans (gs_mTH_TH M 0)) (fun _ => by rw [outp_0]) (fun y ey => hgo S' _ _ y (Rel_mk hA hC' hM') eL ey)
    · rw [Bool.not_eq_false, decide_eq_true_iff] at z
      obtain ⟨V, hV⟩ := gv_ex (nb := nb) (tr := tr) (a := a) hN hg
      refine q_gevaluate w1 (a_cIp hA hC') hgt w5 hg hl z ha hV ?_
      refine pi2 ?_
      refine ⟨v1, v2, ?_⟩
      unfold p_X6_mapped p_X6_isLiteral
      rw [m3]
      show p_X6_isIn M (nI l) (nI 2 * nI N) _
      rw [pk_mul]
      refine r_iIy hl (by omega) ⟨Or.inr rfl, fun q => absurd q (by decide), fun _ => ?_⟩
      rintro _ rfl
      rw [gs_mTH_TH]
      refine ⟨fun _ => mR_settleP hA (mR_TH hM) hs (fun M' hM' eT hgs => ?_), fun q => absurd (by decide) q⟩
      rw [bx_cl (show l < 2 ^ 31 by omega), (mGs_dec m1.2.1 (sh_pn m1).2 hgs hl).1]
      refine ⟨bx_in (by omega) (by omega), fun _ => ?_, fun q => absurd ((tI_m1 (hgs l hl).2 (by omega)).1 q) z⟩
      refine r_mapped44 (a_mIp hA hM') hM'.1 hM'.2.2.1 hgs hg hN hl z ha hV (fun f => ?_)
      exact lw_fin (by rw [gs_mTH_VA]; exact eT.trans (gs_mTH_TH M 0)) (fun _ => by rw [outp_0]) (fun y ey => hgo S' _ _ y (Rel_mk hA hC' (mR_VA hM')) eL ey)
end C2
