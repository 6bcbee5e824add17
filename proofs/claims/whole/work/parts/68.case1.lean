/-! 68 CASE1: the law's cases count, cuts, cut, function, value -/
section C1
variable {g23 : CS → (Nat → Int64) → MS → Int32 → Nat → Nat → Prop} {xs : Nat → Int32} {L : Nat} {S : CS} {o : Nat → Int64} {M : MS} {i : Int32} {uc us : Nat}
variable {N I K O : Nat} {pn tr ar de nb inN : Nat → Nat} {ip : Nat → Bool} {il ir : Nat → Nat} {ct : Nat → List Nat} {tmn ol : Nat → Nat}
theorem Rel_mk (hA : aOK N I O ip il ir nb inN ct tmn ol) (hC : cR S N I K O pn tr ar de ip il ir nb inN ct tmn ol) (hM : mR M N I K O pn tr ar de ip il ir inN ct tmn ol) : Rel S M := ⟨N, I, K, O, pn, tr, ar, de, ip, il, ir, nb, inN, ct, tmn, ol, hA, hC, hM⟩
theorem w_1084 (hR : Rel S M) (v1 : vp_in (i + (1 : Int32)) L) (hb : uc + 1 ≤ 601024 ∧ us + 6 ≤ 7293034) (hgo : ∀ S' o' M' y, Rel S' M' → cLVn S' = cLVn S → y = i + (4 : Int32) → g23 S' o' M' y (uc + 1) (us + 6)) : p_law_1084 g23 xs L S o M i uc us := by
  obtain ⟨N, I, K, O, pn, tr, ar, de, ip, il, ir, nb, inN, ct, tmn, ol, hA, hC, hM⟩ := hR
  obtain ⟨h1, h2, h3, h4, h5, h6, h7, h8, h9, _⟩ := id hC
  obtain ⟨m1, m2, m3, m4, m5, m6, m7, m8, m9, _⟩ := id hM
  unfold p_law_1084 p_L_count p_X5_count
  generalize xs (i + (1 : Int32)).toNatClampNeg = x
  refine ⟨v1, hb, ?_⟩
  have G : ∀ (t : Int32) (o' : Nat → Int64) (y : Int32), y = i + (4 : Int32) → g23 S o' (mTH_s M t) y (uc + 1) (us + 6) := fun t o' y ey => hgo S o' _ y (Rel_mk hA hC (mR_TH hM)) rfl ey
  refine ⟨fun e => ?_, fun e0 => ⟨fun e => ?_, fun e1 => ⟨fun e => ?_, fun e2 => ⟨fun e => ?_, fun e3 => ⟨fun _ => ?_, rfl⟩⟩⟩⟩⟩
  · subst e
    refine pi2 ?_
    refine ⟨v1, ?_⟩
    unfold p_X6_count
    refine r_iIy (k := 0) (n := 4) (by omega) (by omega) ⟨fun q => absurd q (by decide), fun _ => ?_⟩
    rintro _ rfl
    refine ⟨fun q => absurd rfl q, fun _ => ?_⟩
    exact lw_fin (gs_mTH_TH M 0) (fun _ => by rw [outp_0, gs_mND_TH, h2, m3]) (G 0 _)
  · subst e
    refine pi2 ?_
    refine ⟨v1, ?_⟩
    unfold p_X6_count
    refine r_iIy (k := 1) (n := 4) (by omega) (by omega) ⟨fun q => absurd q (by decide), fun _ => ?_⟩
    rintro _ rfl
    refine ⟨fun _ => ⟨fun q => absurd rfl q, fun _ => ?_⟩, fun q => absurd q (by decide)⟩
    exact lw_fin (gs_mTH_TH M 0) (fun _ => by rw [outp_0, gs_mIP_TH, h3, m4]) (G 0 _)
  · subst e
    refine pi2 ?_
    refine ⟨v1, ?_⟩
    unfold p_X6_count
    refine r_iIy (k := 2) (n := 4) (by omega) (by omega) ⟨fun q => absurd q (by decide), fun _ => ?_⟩
    rintro _ rfl
    refine ⟨fun _ => ⟨fun _ => ⟨fun q => absurd rfl q, fun _ => ?_⟩, fun q => absurd q (by decide)⟩, fun q => absurd q (by decide)⟩
    exact lw_fin (gs_mTH_TH M 0) (fun _ => by rw [outp_0, gs_mOU_TH, h6, m6]) (G 0 _)
  · subst e
    refine pi2 ?_
    refine ⟨v1, ?_⟩
    unfold p_X6_count
    refine r_iIy (k := 3) (n := 4) (by omega) (by omega) ⟨fun q => absurd q (by decide), fun _ => ?_⟩
    rintro _ rfl
    refine ⟨fun _ => ⟨fun _ => ⟨fun _ => ⟨fun q => absurd rfl q, fun _ => ?_⟩, fun q => absurd q (by decide)⟩, fun q => absurd q (by decide)⟩, fun q => absurd q (by decide)⟩
    exact lw_fin (gs_mTH_TH M 0) (fun _ => by rw [outp_0, gs_mCE_TH, h5.1, m1.1]) (G 0 _)
  · refine pi2 ?_
    refine ⟨v1, ?_⟩
    unfold p_X6_count
    have hx : x < 0 ∨ nI 4 ≤ x := by
      rcases pk_ix x (n := 4) (by omega) with h | h | ⟨k, hk, e⟩
      · exact Or.inl h
      · exact Or.inr h
      · have : k = 0 ∨ k = 1 ∨ k = 2 ∨ k = 3 := by omega
        rcases this with z | z | z | z <;> subst z
        · exact absurd e e0
        · exact absurd e e1
        · exact absurd e e2
        · exact absurd e e3
    refine r_iIn (n := 4) hx ⟨fun _ => ?_, fun q => absurd rfl q⟩
    rintro _ rfl
    refine ⟨fun _ => ⟨fun _ => ⟨fun _ => ⟨fun _ => ?_, fun q => absurd q e3⟩, fun q => absurd q e2⟩, fun q => absurd q e1⟩, fun q => absurd q e0⟩
    exact lw_fin (gs_mTH_TH M 1) (fun q => absurd q (by decide)) (G 1 _)
theorem r_cutsA {pst : Int32 → Prop} {k : Nat} (hA : aOK N I O ip il ir nb inN ct tmn ol) (hM : mR M N I K O pn tr ar de ip il ir inN ct tmn ol) (hk : k < N) (hp : pst (nI (ct k).length)) : p_X6_cutsOf M (nI k) pst := by
  obtain ⟨a1, a2, a3, a4, a5, a6, a7, a8, a9, a10⟩ := hA
  obtain ⟨m1, m2, m3, m4, m5, m6, m7, m8, m9, _⟩ := hM
  cases hi : ip k
  · obtain ⟨a, b1, b2, b3⟩ := m9 k hk hi
    exact r_cutsOf m2 hk hi b2 (by omega) b3 hp
  · unfold p_X6_cutsOf
    refine r_isInput m2 hk ?_
    rw [hi]
    refine ⟨fun w => absurd w (by decide), fun _ => ?_⟩
    rw [isCuts_eq (a8 k hk).1 (isCuts_inp hi)] at hp
    exact hp
theorem w_538 (hR : Rel S M) (v1 : vp_in (i + (1 : Int32)) L) (hb : uc + 1 ≤ 601024 ∧ us + 6 ≤ 7293034) (hgo : ∀ S' o' M' y, Rel S' M' → cLVn S' = cLVn S → y = i + (4 : Int32) → g23 S' o' M' y (uc + 1) (us + 6)) : p_law_538 g23 xs L S o M i uc us := by
  obtain ⟨N, I, K, O, pn, tr, ar, de, ip, il, ir, nb, inN, ct, tmn, ol, hA, hC, hM⟩ := hR
  obtain ⟨h1, h2, h3, h4, h5, h6, h7, h8, h9, _⟩ := id hC
  obtain ⟨m1, m2, m3, m4, m5, m6, m7, m8, m9, _⟩ := id hM
  have hN := hA.1
  have hoff := off_le (ct := ct) (N := N) (fun k hk => (hA.2.2.2.2.2.2.2.1 k hk).2) N (Nat.le_refl _)
  have G : ∀ (t : Int32) (o' : Nat → Int64) (y : Int32), y = i + (4 : Int32) → g23 S o' (mTH_s M t) y (uc + 1) (us + 6) := fun t o' y ey => hgo S o' _ y (Rel_mk hA hC (mR_TH hM)) rfl ey
  unfold p_law_538 p_L_cuts p_X5_cuts
  generalize xs (i + (1 : Int32)).toNatClampNeg = x
  refine ⟨v1, hb, ?_⟩
  rw [h2]
  have no : (x < 0 ∨ nI N ≤ x) → p_X6_cuts M x (fun r7 M8 => p_X6_thrown M8 (fun r9 => (r9 = 1 → ((¬ (1 : Int32) = 0 → (∀ y13 : Int32, y13 = (i + (4 : Int32)) → (g23 S o M8 y13 (uc + 1) (us + 6)))) ∧ ((1 : Int32) = 0 → (((lg_cmp (o (0 : Int32).toNatClampNeg) (r7.toInt64)) = 0 → (∀ y15 : Int32, y15 = (i + (4 : Int32)) → (g23 S o M8 y15 (uc + 1) (us + 6)))) ∧ (¬ (lg_cmp (o (0 : Int32).toNatClampNeg) (r7.toInt64)) = 0 → (False)))))) ∧ (¬ r9 = 1 → (False)))) := by
    intro hx
    unfold p_X6_cuts
    rw [m3]
    refine r_iIn hx ⟨fun _ => ?_, fun q => absurd rfl q⟩
    rintro _ rfl
    rw [gs_mTH_TH]
    exact ⟨fun q => absurd q (by decide), fun _ => lw_fin (gs_mTH_TH M 1) (fun q => absurd q (by decide)) (G 1 _)⟩
  rcases pk_ix x (n := N) (by omega) with h | h | ⟨k, hk, e⟩
  · exact q_rIn (Or.inl h) ⟨fun _ => pi2 ⟨v1, no (Or.inl h)⟩, rfl⟩
  · exact q_rIn (Or.inr h) ⟨fun _ => pi2 ⟨v1, no (Or.inr h)⟩, rfl⟩
  · subst e
    refine q_rIy hk (by omega) (q_size h4.1 hk hN (by omega) ?_)
    refine pi2 ?_
    refine ⟨v1, ?_⟩
    unfold p_X6_cuts
    rw [m3]
    refine r_iIy hk (by omega) ⟨fun q => absurd q (by decide), fun _ => ?_⟩
    rintro _ rfl
    rw [gs_mTH_TH]
    refine ⟨fun _ => r_cutsA hA (mR_TH hM) hk ?_, fun q => absurd (by decide) q⟩
    exact lw_fin (gs_mTH_TH M 0) (fun _ => by rw [outp_0]) (G 0 _)
theorem r_cutAt {k j : Nat} (hA : aOK N I O ip il ir nb inN ct tmn ol) (hM : mR M N I K O pn tr ar de ip il ir inN ct tmn ol) (hk : k < N) (hj : j < (ct k).length) : vp_in (nI k) 32 ∧ vp_in (((5000 : Int32) * ((mAO M) (nI k).toNatClampNeg)) + nI j) 120000 ∧ mCB M (((5000 : Int32) * ((mAO M) (nI k).toNatClampNeg)) + nI j).toNatClampNeg = nI ((ct k).getD j 0) := by
  obtain ⟨a1, a2, a3, a4, a5, a6, a7, a8, a9, a10⟩ := hA
  obtain ⟨m1, m2, m3, m4, m5, m6, m7, m8, m9, _⟩ := hM
  have hi : ip k = false := by
    cases hi : ip k
    · rfl
    · rw [isCuts_eq (a8 k hk).1 (isCuts_inp hi)] at hj
      exact absurd hj (by simp)
  obtain ⟨a, b1, b2, b3⟩ := m9 k hk hi
  have hlen := (a8 k hk).2
  rw [bx_cl (show k < 2 ^ 31 by omega), b2, show (5000 : Int32) = nI 5000 from rfl, pk_mul, nI_add, bx_cl (show 5000 * a + j < 2 ^ 31 by omega)]
  exact ⟨bx_in (by omega) (by omega), bx_in (by omega) (by omega), b3.2 j hj⟩
theorem cut_lt {k j : Nat} (hA : aOK N I O ip il ir nb inN ct tmn ol) (hk : k < N) (hj : j < (ct k).length) : (ct k).getD j 0 < 2 ^ k ∧ pc 32 ((ct k).getD j 0) ≤ 3 ∧ (ct k).getD j 0 < 2 ^ 31 := by
  have h := ((hA.2.2.2.2.2.2.2.1 k hk).1.2 ((ct k).getD j 0)).1 (gD_mem hj)
  have hN := hA.1
  exact ⟨h.1, h.2.1, Nat.lt_of_lt_of_le h.1 (Nat.pow_le_pow_right (by omega) (by omega))⟩
theorem w_594 (hR : Rel S M) (v1 : vp_in (i + (1 : Int32)) L) (v2 : vp_in (i + (2 : Int32)) L) (hb : uc + 2 ≤ 601024 ∧ us + 12 ≤ 7293034) (hgo : ∀ S' o' M' y, Rel S' M' → cLVn S' = cLVn S → y = i + (4 : Int32) → g23 S' o' M' y (uc + 2) (us + 12)) : p_law_594 g23 xs L S o M i uc us := by
  obtain ⟨N, I, K, O, pn, tr, ar, de, ip, il, ir, nb, inN, ct, tmn, ol, hA, hC, hM⟩ := hR
  obtain ⟨h1, h2, h3, h4, h5, h6, h7, h8, h9, _⟩ := id hC
  obtain ⟨m1, m2, m3, m4, m5, m6, m7, m8, m9, _⟩ := id hM
  have hN := hA.1
  have hoff := off_le (ct := ct) (N := N) (fun k hk => (hA.2.2.2.2.2.2.2.1 k hk).2) N (Nat.le_refl _)
  have G : ∀ (t : Int32) (o' : Nat → Int64) (y : Int32), y = i + (4 : Int32) → g23 S o' (mTH_s M t) y (uc + 2) (us + 12) := fun t o' y ey => hgo S o' _ y (Rel_mk hA hC (mR_TH hM)) rfl ey
  unfold p_law_594 p_L_cut p_X5_cut p_X5_requireCutIndex
  generalize xs (i + (1 : Int32)).toNatClampNeg = x
  generalize xs (i + (2 : Int32)).toNatClampNeg = x2
  refine ⟨v1, v2, hb, ?_⟩
  rw [h2]
  have no1 : p_X6_cut_20 M x x2 (fun r24 M25 => p_X6_thrown M25 (fun r26 => (r26 = 1 → ((¬ (1 : Int32) = 0 → (∀ y30 : Int32, y30 = (i + (4 : Int32)) → (g23 S o M25 y30 (uc + 2) (us + 12)))) ∧ ((1 : Int32) = 0 → (((lg_cmp (o (0 : Int32).toNatClampNeg) r24) = 0 → (∀ y32 : Int32, y32 = (i + (4 : Int32)) → (g23 S o M25 y32 (uc + 2) (us + 12)))) ∧ (¬ (lg_cmp (o (0 : Int32).toNatClampNeg) r24) = 0 → (False)))))) ∧ (¬ r26 = 1 → (False)))) := by
    unfold p_X6_cut_20 p_X6_cut_21
    rintro _ rfl
    rw [gs_mTH_TH]
    exact ⟨fun q => absurd q (by decide), fun _ => lw_fin (gs_mTH_TH M 1) (fun q => absurd q (by decide)) (G 1 _)⟩
  have no : (x < 0 ∨ nI N ≤ x) → ∀ S20 o21, S20 = S → o21 = o → vp_in (i + (1 : Int32)) L ∧ vp_in (i + (2 : Int32)) L ∧ p_X6_cut M x x2 (fun r24 M25 => p_X6_thrown M25 (fun r26 => (r26 = 1 → ((¬ (1 : Int32) = 0 → (∀ y30 : Int32, y30 = (i + (4 : Int32)) → (g23 S20 o21 M25 y30 (uc + 2) (us + 12)))) ∧ ((1 : Int32) = 0 → (((lg_cmp (o21 (0 : Int32).toNatClampNeg) r24) = 0 → (∀ y32 : Int32, y32 = (i + (4 : Int32)) → (g23 S20 o21 M25 y32 (uc + 2) (us + 12)))) ∧ (¬ (lg_cmp (o21 (0 : Int32).toNatClampNeg) r24) = 0 → (False)))))) ∧ (¬ r26 = 1 → (False)))) := by
    refine fun hx => pi2' ?_
    refine ⟨v1, v2, ?_⟩
    unfold p_X6_cut
    rw [m3]
    exact r_iIn hx ⟨fun _ => no1, fun q => absurd rfl q⟩
  rcases pk_ix x (n := N) (by omega) with h | h | ⟨k, hk, e⟩
  · exact q_rIn (Or.inl h) ⟨fun _ => no (Or.inl h), rfl⟩
  · exact q_rIn (Or.inr h) ⟨fun _ => no (Or.inr h), rfl⟩
  · subst e
    refine q_rIy hk (by omega) ⟨fun hx2 => ?_, fun hx2 => ⟨fun _ => ?_, rfl⟩⟩
    · obtain ⟨j, hj31, e⟩ := nI_of (x := x2) (i32_nlt hx2)
      subst e
      refine q_size h4.1 hk hN (by omega) ?_
      have hlen := (hA.2.2.2.2.2.2.2.1 k hk).2
      refine c2 (nI_leI (by omega) hj31) (fun z => ?_) (fun z => ?_)
      · refine pi2 ?_
        refine ⟨v1, v2, ?_⟩
        unfold p_X6_cut
        rw [m3]
        refine r_iIy hk (by omega) ⟨fun q => absurd q (by decide), fun _ => ⟨fun q => absurd q (nI_pos hj31), fun _ => ?_⟩⟩
        unfold p_X6_cut_21
        rintro _ rfl
        rw [gs_mTH_TH]
        refine ⟨fun _ => r_cutsA hA (mR_TH hM) hk ⟨fun _ => ?_, fun q => absurd (nI_le z hj31) q⟩, fun q => absurd (by decide) q⟩
        exact lw_fin (gs_mTH_TH M 0) (fun _ => by rw [outp_0]) (G 0 _)
      · refine q_leavesAt h4.1 hk hN (by omega) h4.2.2.1 (by have := h4.2.2.2.2.2; omega) (show j < (ct k).length by omega) ?_
        refine pi2 ?_
        refine ⟨v1, v2, ?_⟩
        unfold p_X6_cut
        rw [m3]
        refine r_iIy hk (by omega) ⟨fun q => absurd q (by decide), fun _ => ⟨fun q => absurd q (nI_pos hj31), fun _ => ?_⟩⟩
        unfold p_X6_cut_21
        rintro _ rfl
        rw [gs_mTH_TH]
        obtain ⟨c1, c2, c3⟩ := r_cutAt hA (mR_TH (v := 0) hM) hk (show j < (ct k).length by omega)
        refine ⟨fun _ => r_cutsA hA (mR_TH hM) hk ⟨fun q => absurd q (nI_ge (by omega) (by omega)), fun _ => ⟨c1, c2, ?_⟩⟩, fun q => absurd (by decide) q⟩
        rw [c3]
        obtain ⟨_, _, l31⟩ := cut_lt hA hk (show j < (ct k).length by omega)
        refine lw_fin (gs_mTH_TH M 0) (fun _ => ?_) (G 0 _)
        rw [outp_0, nI_l l31, show (4294967295 : Int64) = lN (2 ^ 32 - 1) from rfl, wb_mask (k := 32) (by omega) (by omega), Nat.mod_eq_of_lt (by omega)]
    · refine pi2 ?_
      refine ⟨v1, v2, ?_⟩
      unfold p_X6_cut
      rw [m3]
      refine r_iIy hk (by omega) ⟨fun q => absurd q (by decide), fun _ => ⟨fun _ => no1, fun q => absurd ?_ hx2⟩⟩
      obtain ⟨j, hj31, e⟩ := nI_of q
      rw [e]
      exact nI_pos' hj31
theorem w_661 (hR : Rel S M) (v1 : vp_in (i + (1 : Int32)) L) (v2 : vp_in (i + (2 : Int32)) L) (hb : uc + 2 ≤ 601024 ∧ us + 12 ≤ 7293034) (hgo : ∀ S' o' M' y, Rel S' M' → cLVn S' = cLVn S → y = i + (4 : Int32) → g23 S' o' M' y (uc + 2) (us + 12)) : p_law_661 g23 xs L S o M i uc us := by
  obtain ⟨N, I, K, O, pn, tr, ar, de, ip, il, ir, nb, inN, ct, tmn, ol, hA, hC, hM⟩ := hR
  obtain ⟨h1, h2, h3, h4, h5, h6, h7, h8, h9, _⟩ := id hC
  obtain ⟨m1, m2, m3, m4, m5, m6, m7, m8, m9, _⟩ := id hM
  have hN := hA.1
  have hoff := off_le (ct := ct) (N := N) (fun k hk => (hA.2.2.2.2.2.2.2.1 k hk).2) N (Nat.le_refl _)
  have G : ∀ (t : Int32) (o' : Nat → Int64) (y : Int32), y = i + (4 : Int32) → g23 S o' (mTH_s M t) y (uc + 2) (us + 12) := fun t o' y ey => hgo S o' _ y (Rel_mk hA hC (mR_TH hM)) rfl ey
  unfold p_law_661 p_L_function p_X5_function p_X5_requireCutIndex
  generalize xs (i + (1 : Int32)).toNatClampNeg = x
  generalize xs (i + (2 : Int32)).toNatClampNeg = x2
  refine ⟨v1, v2, hb, ?_⟩
  rw [h2]
  have no1 : p_X6_function_20 M x x2 (fun r24 M25 => p_X6_thrown M25 (fun r26 => (r26 = 1 → ((¬ (1 : Int32) = 0 → (∀ y30 : Int32, y30 = (i + (4 : Int32)) → (g23 S o M25 y30 (uc + 2) (us + 12)))) ∧ ((1 : Int32) = 0 → (((lg_cmp (o (0 : Int32).toNatClampNeg) r24.toInt64) = 0 → (∀ y32 : Int32, y32 = (i + (4 : Int32)) → (g23 S o M25 y32 (uc + 2) (us + 12)))) ∧ (¬ (lg_cmp (o (0 : Int32).toNatClampNeg) r24.toInt64) = 0 → (False)))))) ∧ (¬ r26 = 1 → (False)))) := by
    unfold p_X6_function_20 p_X6_function_21
    rintro _ rfl
    rw [gs_mTH_TH]
    exact ⟨fun q => absurd q (by decide), fun _ => lw_fin (gs_mTH_TH M 1) (fun q => absurd q (by decide)) (G 1 _)⟩
  have no : (x < 0 ∨ nI N ≤ x) → ∀ S20 o21, S20 = S → o21 = o → vp_in (i + (1 : Int32)) L ∧ vp_in (i + (2 : Int32)) L ∧ p_X6_function M x x2 (fun r24 M25 => p_X6_thrown M25 (fun r26 => (r26 = 1 → ((¬ (1 : Int32) = 0 → (∀ y30 : Int32, y30 = (i + (4 : Int32)) → (g23 S20 o21 M25 y30 (uc + 2) (us + 12)))) ∧ ((1 : Int32) = 0 → (((lg_cmp (o21 (0 : Int32).toNatClampNeg) r24.toInt64) = 0 → (∀ y32 : Int32, y32 = (i + (4 : Int32)) → (g23 S20 o21 M25 y32 (uc + 2) (us + 12)))) ∧ (¬ (lg_cmp (o21 (0 : Int32).toNatClampNeg) r24.toInt64) = 0 → (False)))))) ∧ (¬ r26 = 1 → (False)))) := by
    refine fun hx => pi2' ?_
    refine ⟨v1, v2, ?_⟩
    unfold p_X6_function
    rw [m3]
    exact r_iIn hx ⟨fun _ => no1, fun q => absurd rfl q⟩
  rcases pk_ix x (n := N) (by omega) with h | h | ⟨k, hk, e⟩
  · exact q_rIn (Or.inl h) ⟨fun _ => no (Or.inl h), rfl⟩
  · exact q_rIn (Or.inr h) ⟨fun _ => no (Or.inr h), rfl⟩
  · subst e
    refine q_rIy hk (by omega) ⟨fun hx2 => ?_, fun hx2 => ⟨fun _ => ?_, rfl⟩⟩
    · obtain ⟨j, hj31, e⟩ := nI_of (x := x2) (i32_nlt hx2)
      subst e
      refine q_size h4.1 hk hN (by omega) ?_
      have hlen := (hA.2.2.2.2.2.2.2.1 k hk).2
      refine c2 (nI_leI (by omega) hj31) (fun z => ?_) (fun z => ?_)
      · refine pi2 ?_
        refine ⟨v1, v2, ?_⟩
        unfold p_X6_function
        rw [m3]
        refine r_iIy hk (by omega) ⟨fun q => absurd q (by decide), fun _ => ⟨fun q => absurd q (nI_pos hj31), fun _ => ?_⟩⟩
        unfold p_X6_function_21
        rintro _ rfl
        rw [gs_mTH_TH]
        refine ⟨fun _ => r_cutsA hA (mR_TH hM) hk ⟨fun _ => ?_, fun q => absurd (nI_le z hj31) q⟩, fun q => absurd (by decide) q⟩
        exact lw_fin (gs_mTH_TH M 0) (fun _ => by rw [outp_0]) (G 0 _)
      · refine q_functionAt h4 hk hN (by omega) (show j < (ct k).length by omega) ?_
        refine pi2 ?_
        refine ⟨v1, v2, ?_⟩
        unfold p_X6_function
        rw [m3]
        refine r_iIy hk (by omega) ⟨fun q => absurd q (by decide), fun _ => ⟨fun q => absurd q (nI_pos hj31), fun _ => ?_⟩⟩
        unfold p_X6_function_21
        rintro _ rfl
        rw [gs_mTH_TH]
        obtain ⟨c1, c2, c3⟩ := r_cutAt hA (mR_TH (v := 0) hM) hk (show j < (ct k).length by omega)
        obtain ⟨l1, l2, l31⟩ := cut_lt hA hk (show j < (ct k).length by omega)
        refine ⟨fun _ => r_cutsA hA (mR_TH hM) hk ⟨fun q => absurd q (nI_ge (by omega) (by omega)), fun _ => ⟨c1, c2, ?_⟩⟩, fun q => absurd (by decide) q⟩
        rw [c3]
        refine r_functionOf (mR_TH (v := 0) hM).2.1 (mR_TH (v := 0) hM).2.2.1 hk l1 l2 (fun f g _ => ?_)
        exact lw_fin (by rw [gs_mTH_VA, gs_mTH_LE, gs_mTH_TH]) (fun _ => by rw [outp_0]) (fun y ey => hgo S _ _ y (Rel_mk hA hC (mR_VA (mR_LE (mR_TH hM)))) rfl ey)
    · refine pi2 ?_
      refine ⟨v1, v2, ?_⟩
      unfold p_X6_function
      rw [m3]
      refine r_iIy hk (by omega) ⟨fun q => absurd q (by decide), fun _ => ⟨fun _ => no1, fun q => absurd ?_ hx2⟩⟩
      obtain ⟨j, hj31, e⟩ := nI_of q
      rw [e]
      exact nI_pos' hj31
theorem a_mIp (hA : aOK N I O ip il ir nb inN ct tmn ol) (h : mR M N I K O pn tr ar de ip il ir inN ct tmn ol) : mIp M N I ip nb inN := by
  obtain ⟨a1, a2, a3, a4, a5, a6, a7, a8, a9, a10⟩ := hA
  obtain ⟨h1, h2, h3, h4, h5, h6, h7, h8, h9, _⟩ := h
  exact ⟨a2, h4, fun k hk => ⟨(h8 k hk).1, a6 k hk⟩, a5⟩
theorem a_cIp (hA : aOK N I O ip il ir nb inN ct tmn ol) (h : cR S N I K O pn tr ar de ip il ir nb inN ct tmn ol) : cIp S N I ip nb := by
  obtain ⟨h1, h2, h3, h4, h5, h6, h7, h8, h9, _⟩ := h
  exact ⟨hA.2.1, fun k hk hi => ⟨h8 k hk hi, (hA.2.2.2.2.1 k hk hi).1⟩⟩
theorem w_948 (hR : Rel S M) (v1 : vp_in (i + (1 : Int32)) L) (v2 : vp_in (i + (2 : Int32)) L) (hb : uc + 1 ≤ 601024 ∧ us + 6 ≤ 7293034) (hgo : ∀ S' o' M' y, Rel S' M' → cLVn S' = cLVn S → y = i + (4 : Int32) → g23 S' o' M' y (uc + 1) (us + 6)) : p_law_948 g23 xs L S o M i uc us := by
  obtain ⟨N, I, K, O, pn, tr, ar, de, ip, il, ir, nb, inN, ct, tmn, ol, hA, hC, hM⟩ := hR
  obtain ⟨h1, h2, h3, h4, h5, h6, h7, h8, h9, _⟩ := id hC
  obtain ⟨m1, m2, m3, m4, m5, m6, m7, m8, m9, _⟩ := id hM
  have hN := hA.1
  have k2 : (2 : Int32) = nI 2 := rfl
  unfold p_law_948 p_L_value p_X5_value p_X5_requireLiteral
  generalize xs (i + (1 : Int32)).toNatClampNeg = x
  generalize xs (i + (2 : Int32)).toNatClampNeg = x2
  refine ⟨v1, v2, hb, ?_⟩
  obtain ⟨a, ha, e⟩ := wb_of32 x2
  subst e
  rw [h2, k2, pk_mul]
  have no : (x < 0 ∨ nI (2 * N) ≤ x) → ∀ S32 o33, S32 = S → o33 = o → vp_in (i + (1 : Int32)) L ∧ vp_in (i + nI 2) L ∧ p_X6_value M x (nI a) (fun r36 M37 => p_X6_thrown M37 (fun r38 => (r38 = 1 → ((¬ (1 : Int32) = 0 → (∀ y42 : Int32, y42 = (i + (4 : Int32)) → (g23 S32 o33 M37 y42 (uc + 1) (us + 6)))) ∧ ((1 : Int32) = 0 → (((lg_cmp (o33 (0 : Int32).toNatClampNeg) (r36.toInt64)) = 0 → (∀ y44 : Int32, y44 = (i + (4 : Int32)) → (g23 S32 o33 M37 y44 (uc + 1) (us + 6)))) ∧ (¬ (lg_cmp (o33 (0 : Int32).toNatClampNeg) (r36.toInt64)) = 0 → (False)))))) ∧ (¬ r38 = 1 → (False)))) := by
    refine fun hx => pi2' ?_
    refine ⟨v1, v2, ?_⟩
    unfold p_X6_value p_X6_isLiteral
    rw [m3, k2, pk_mul]
    refine r_iIn hx ⟨Or.inl rfl, fun _ => ?_, fun q => absurd rfl q⟩
    rintro _ rfl
    rw [gs_mTH_TH]
    exact ⟨fun q => absurd q (by decide), fun _ => lw_fin (gs_mTH_TH M 1) (fun q => absurd q (by decide)) (fun y ey => hgo S o _ y (Rel_mk hA hC (mR_TH hM)) rfl ey)⟩
  rcases pk_ix x (n := 2 * N) (by omega) with h | h | ⟨l, hl, e⟩
  · exact q_rIn (Or.inl h) ⟨fun _ => no (Or.inl h), rfl⟩
  · exact q_rIn (Or.inr h) ⟨fun _ => no (Or.inr h), rfl⟩
  · subst e
    refine q_rIy hl (by omega) (q_evaluate h1 (a_cIp hA hC) hl ha ?_)
    refine pi2 ?_
    refine ⟨v1, v2, ?_⟩
    unfold p_X6_value p_X6_isLiteral
    rw [m3, k2, pk_mul]
    refine r_iIy hl (by omega) ⟨Or.inr rfl, fun q => absurd q (by decide), fun _ => ?_⟩
    rintro _ rfl
    rw [gs_mTH_TH]
    refine ⟨fun _ => r_setInputs (a_mIp hA (mR_TH hM)) hN ha (fun f hf => r_value33 (mR_TH hM).2.1 (mR_TH hM).2.2.1 hl hf (fun f' => ?_)), fun q => absurd (by decide) q⟩
    exact lw_fin (by rw [gs_mTH_VA, gs_mTH_TH]) (fun _ => by rw [outp_0]) (fun y ey => hgo S _ _ y (Rel_mk hA hC (mR_VA (mR_TH hM))) rfl ey)
end C1
