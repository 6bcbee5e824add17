/-! 44 ENTER2: the reference's enter -/
theorem tI_pk {t c k : Nat} (ht : t < 2 ^ 20) (hc : c < 16) (hk : k < 2 ^ 18) : tI (t * 2 ^ 23 + c * 2 ^ 18 + k) = nI t ∧ t * 2 ^ 23 + c * 2 ^ 18 + k < 2 ^ 43 := by
  have h1 : t * 2 ^ 23 + c * 2 ^ 18 + k < 2 ^ 43 := by omega
  have h2 : (2 : Nat) ^ 43 < tp := by decide
  refine ⟨?_, h1⟩
  unfold tI
  rw [if_neg (by omega)]
  refine congrArg nI ?_
  omega
section EN2
variable {M : MS} {K l c x T : Nat} {pn tr ar de P ap : Nat → Nat} {post : MS → Prop}
theorem r_enter (hS : mSh M K pn tr ar de) (hc : c < K) (hl : l < 64) (hTD : ∀ q, q < pn c → mTD M q = nI (ap q) ∧ ap q < 64 ∧ mAV M (ap q) = tI (P (ap q)) ∧ gN T (P (ap q))) (hT : T < 2 ^ 19) (hx : mNm M K pn l x) (hg : gN (T + 1000) x)
    (hpost : ∀ M', rsE M' = rsE M → mNm M' K pn l (min x (ofv P de c (pn c) ap)) → (∀ j, j ≠ l → mFI M' j = mFI M j ∧ mGA M' j = mGA M j) → (∀ j, (j < 3 * l ∨ 3 * l + 3 ≤ j) → mGP M' j = mGP M j) → post M') : p_X6_enter M (nI l) (nI c) (nI (pn c)) post := by
  obtain ⟨s1, s2, s3⟩ := hS
  obtain ⟨⟨b1, b2, b3⟩, b4, b5, b6, b7, b8⟩ := s3 c hc
  have k3 : (3 : Int32) = nI 3 := rfl
  have ha : ∀ q, q < pn c → ap q < 64 := fun q hq => (hTD q hq).2.1
  have hpk := pkx_lt' (show pn c ≤ 3 by omega) ha
  have hxle := (gN_lt hg (by omega)).1
  unfold p_X6_enter p_X6_enter_6
  refine ⟨fun x4 x5 => ∃ q : Nat, x5 = nI q ∧ x4 = nI (tmx P (fun q => de (3 * c + q)) ap q) ∧ q ≤ pn c ∧ ∀ j, j < q → P (ap j) ≠ tp, fun _ x5 => pn c - x5.toNatClampNeg, ⟨0, rfl, rfl, by omega, fun j hj => absurd hj (by omega)⟩, ?_⟩
  rintro x4 x5 ⟨q, rfl, rfl, hq, hth⟩
  have htm := tmx_le (P := P) (dq := fun q => de (3 * c + q)) (ap := ap) (T := T) q (fun j hj => ⟨(hTD j (by omega)).2.2.2, hth j hj, (b8 j (by omega)).2⟩)
  unfold b_X6_enter_6
  refine c2 (nI_leI (by omega) (by omega)) (fun z => ?_) (fun z => ?_)
  · have eq : q = pn c := by omega
    rw [eq] at htm hth ⊢
    have hof : ofv P de c (pn c) ap = tmx P (fun q => de (3 * c + q)) ap (pn c) * 2 ^ 23 + c * 2 ^ 18 + pkx ap (pn c) := if_pos hth
    rw [hof] at hpost
    generalize tmx P (fun q => de (3 * c + q)) ap (pn c) = t at htm hpost ⊢
    obtain ⟨et, hv⟩ := tI_pk (t := t) (c := c) (k := pkx ap (pn c)) (by omega) (by omega) hpk
    have h43 : (2 : Nat) ^ 43 < tp := by decide
    -- put in
    have put : t * 2 ^ 23 + c * 2 ^ 18 + pkx ap (pn c) ≤ x → p_X6_enter_113 M (nI l) (nI c) (nI (pn c)) (nI t) post := by
      intro hle
      rw [Nat.min_eq_right hle] at hpost
      unfold p_X6_enter_113 p_X6_enter_118
      refine ⟨fun w => absurd w (by decide), fun _ => ?_⟩
      rw [bx_cl (show l < 2 ^ 31 by omega)]
      refine ⟨bx_in (by omega) (by omega), ?_⟩
      intro M6 e6
      refine ⟨bx_in (by omega) (by omega), ?_⟩
      intro M8 e8
      have f8 : mFI M8 = upd (mFI M) l (nI t) := by rw [e8, gs_mFI_GA, e6, gs_mFI_FI]
      have g8 : mGA M8 = upd (mGA M) l (nI c) := by rw [e8, gs_mGA_GA, e6, gs_mGA_FI]
      have p8 : mGP M8 = mGP M := by rw [e8, gs_mGP_GA, e6, gs_mGP_FI]
      have t8 : mTD M8 = mTD M := by rw [e8, gs_mTD_GA, e6, gs_mTD_FI]
      have r8 : rsE M8 = rsE M := by rw [e8, rsE_GA, e6, rsE_FI]
      unfold p_X6_enter_143
      refine ⟨fun M' x6 => ∃ (k : Nat) (f : Nat → Int32), M' = mGP_s M8 f ∧ x6 = nI k ∧ k ≤ 3 ∧ (∀ j, j < k → f (3 * l + j) = if j < pn c then nI (ap j) else (-1 : Int32)) ∧ (∀ j, (j < 3 * l ∨ 3 * l + 3 ≤ j) → f j = mGP M j), fun _ x6 => 3 - x6.toNatClampNeg, ⟨0, mGP M8, rfl, rfl, by omega, fun j hj => absurd hj (by omega), fun j _ => by rw [p8]⟩, ?_⟩
      rintro M' x6 ⟨k, f, eM, rfl, hk, f1, f2⟩
      have dP : mGP M' = f := by rw [eM, gs_mGP_GP]
      have dT : mTD M' = mTD M := by rw [eM, gs_mTD_GP, t8]
      unfold b_X6_enter_143
      rw [k3]
      refine c2 (nI_leI (by omega) (by omega)) (fun y => ?_) (fun y => ?_)
      · have e3 : k = 3 := by omega
        subst e3
        have dF : mFI M' = upd (mFI M) l (nI t) := by rw [eM, gs_mFI_GP, f8]
        have dG : mGA M' = upd (mGA M) l (nI c) := by rw [eM, gs_mGA_GP, g8]
        refine hpost M' (by rw [eM, rsE_GP, r8]) ⟨by rw [dF, pk_us, et], fun w => absurd w (by omega), fun _ => ⟨t, c, ap, rfl, by omega, hc, ha, by rw [dG, pk_us], fun q hq => by rw [dP]; exact f1 q hq⟩⟩ (fun j hj => by rw [dF, dG, pk_un hj, pk_un hj]; exact ⟨rfl, rfl⟩) (fun j hj => by rw [dP]; exact f2 j hj)
      · rw [pk_mul, nI_add, bx_cl (show 3 * l + k < 2 ^ 31 by omega), dP]
        refine c2 (nI_leI (by omega) (by omega)) (fun w => ?_) (fun w => ?_)
        · refine ⟨bx_in (by omega) (by omega), ?_⟩
          intro M12 e12 y13 e13
          rw [eM, GP_GP] at e12
          refine ⟨⟨k + 1, _, e12, by rw [e13, nI_1], by omega, fun j hj => ?_, fun j hj => ?_⟩, mu_up e13 (by omega) (by omega)⟩
          · by_cases u : j = k
            · subst u; rw [pk_us, if_neg (by omega)]
            · rw [pk_un (by omega)]; exact f1 j (by omega)
          · rw [pk_un (by omega)]; exact f2 j hj
        · refine ⟨bx_in (by omega) (by omega), bx_in (by omega) (by omega), ?_⟩
          intro M16 e16 y17 e17
          rw [bx_cl (show k < 2 ^ 31 by omega), dT, (hTD k (by omega)).1, eM, GP_GP] at e16
          refine ⟨⟨k + 1, _, e16, by rw [e17, nI_1], by omega, fun j hj => ?_, fun j hj => ?_⟩, mu_up e17 (by omega) (by omega)⟩
          · by_cases u : j = k
            · subst u; rw [pk_us, if_pos (by omega)]
            · rw [pk_un (by omega)]; exact f1 j (by omega)
          · rw [pk_un (by omega)]; exact f2 j hj
    -- leave
    have leave : x ≤ t * 2 ^ 23 + c * 2 ^ 18 + pkx ap (pn c) → p_X6_enter_117 M (nI l) (nI c) (nI (pn c)) (nI t) post := by
      intro hle
      rw [Nat.min_eq_left hle] at hpost
      unfold p_X6_enter_117 p_X6_enter_118
      exact ⟨fun _ => hpost M rfl hx (fun _ _ => ⟨rfl, rfl⟩) (fun _ _ => rfl), fun w => absurd rfl w⟩
    obtain ⟨h1, h2, h3⟩ := hx
    rw [bx_cl (show l < 2 ^ 31 by omega), h1]
    refine ⟨bx_in (by omega) (by omega), ?_⟩
    refine c2 (tI_m1 hg (by omega)) (fun y => ?_) (fun y => ?_)
    · exact put (by omega)
    · obtain ⟨t', c', ap', ex, ht', hc', ha', hGA, hGP⟩ := h3 y
      obtain ⟨⟨d1, d2, d3⟩, _⟩ := s3 c' hc'
      have hpk' := pkx_lt' (show pn c' ≤ 3 by omega) ha'
      obtain ⟨et', hv'⟩ := tI_pk (t := t') (c := c') (k := pkx ap' (pn c')) ht' (by omega) hpk'
      have etx : tI x = nI t' := by rw [ex]; exact et'
      rw [etx]
      refine ⟨bx_in (by omega) (by omega), ?_⟩
      refine c2 (nI_ltI (by omega) (by omega)) (fun w => ?_) (fun w => ?_)
      · exact put (by omega)
      · refine ⟨bx_in (by omega) (by omega), ?_⟩
        refine c2n (nI_eq (by omega) (by omega)) (fun u => ?_) (fun u => ?_)
        · exact leave (by omega)
        · refine r_isBefore hl (by omega) (by omega) (by omega) (by omega) hGA hGP (fun q hq => (hTD q hq).1) ha ha' ?_
          refine c2 (bI_0 _) (fun r => ?_) (fun r => ?_)
          · rw [decide_eq_false_iff_not] at r
            exact leave (by omega)
          · have r2 : c * 2 ^ 18 + pkx ap (pn c) < c' * 2 ^ 18 + pkx ap' (pn c') := by
              apply Classical.byContradiction
              intro g
              exact r (decide_eq_false g)
            exact put (by omega)
  · obtain ⟨a1, a2, a3, a4⟩ := hTD q (by omega)
    rw [bx_cl (show q < 2 ^ 31 by omega), a1, bx_cl (show ap q < 2 ^ 31 by omega), a3]
    refine ⟨bx_in (by omega) (by omega), bx_in (by omega) (by omega), ?_⟩
    intro y27 e27
    rw [e27]
    refine c2n (tI_m1 a4 (by omega)) (fun y => ?_) (fun y => ?_)
    · have ht : tI (P (ap q)) = nI (P (ap q) / 2 ^ 23) := if_neg y
      have hdiv := gN_div a4 y
      obtain ⟨d1, d2⟩ := b8 q (by omega)
      rw [k3, pk_mul, nI_add, bx_cl (by omega), d1, ht, nI_add]
      refine ⟨bx_in (by omega) (by omega), ?_⟩
      intro y30 e30
      rw [e30]
      have em : tmx P (fun q => de (3 * c + q)) ap (q + 1) = max (tmx P (fun q => de (3 * c + q)) ap q) (P (ap q) / 2 ^ 23 + de (3 * c + q)) := rfl
      have hth' : ∀ j, j < q + 1 → P (ap j) ≠ tp := fun j hj => by
        by_cases u : j = q
        · subst u; exact y
        · exact hth j (by omega)
      refine c2 (nI_leI (by omega) (by omega)) (fun w => ?_) (fun w => ?_)
      · intro y32 e32
        exact ⟨⟨q + 1, by rw [e32, nI_1], by rw [em, Nat.max_eq_left w], by omega, hth'⟩, mu_up e32 (by omega) (by omega)⟩
      · intro y33 e33
        exact ⟨⟨q + 1, by rw [e33, nI_1], by rw [em, Nat.max_eq_right (by omega)], by omega, hth'⟩, mu_up e33 (by omega) (by omega)⟩
    · have hof : ofv P de c (pn c) ap = tp := if_neg (fun w => w q (by omega) y)
      rw [hof, Nat.min_eq_left hxle] at hpost
      exact hpost M rfl hx (fun _ _ => ⟨rfl, rfl⟩) (fun _ _ => rfl)
end EN2
