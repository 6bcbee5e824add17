/-! 35 ADD: a new cell on the class's shelf, and in the reference -/
def updN (f : Nat → Nat) (k x : Nat) : Nat → Nat := fun j => if j = k then x else f j
theorem un_s {f : Nat → Nat} {k x : Nat} : updN f k x k = x := if_pos rfl
theorem un_n {f : Nat → Nat} {k x j : Nat} (h : j ≠ k) : updN f k x j = f j := if_neg h
def deN (de : Nat → Nat) (K : Nat) : Nat → Nat := fun j => if 3 * K ≤ j then 0 else de j
/-- all of the class but its shelf -/
def rsS (S : CS) := (cOC S, cNC S, cIC S, cSE S, cOL S, cIN S, cLE S, cRI S, cIT S, cST S, cTB S, cGA S, cLN S, cLVa S, cLVn S, cLV S, cFNa S, cFNn S, cFN S)
theorem rsS_CC (S : CS) (v : Int32) : rsS (cCC_s S v) = rsS S := rfl
theorem rsS_PI (S : CS) (f : Nat → Int32) : rsS (cPI_s S f) = rsS S := rfl
theorem rsS_TR (S : CS) (f : Nat → Int32) : rsS (cTR_s S f) = rsS S := rfl
theorem rsS_AR (S : CS) (f : Nat → Int32) : rsS (cAR_s S f) = rsS S := rfl
theorem rsS_DE (S : CS) (f : Nat → Int32) : rsS (cDE_s S f) = rsS S := rfl
theorem rsS_AG (S : CS) (f : Nat → Int32) : rsS (cAG_s S f) = rsS S := rfl
theorem DE_DE (S : CS) (f g : Nat → Int32) : cDE_s (cDE_s S f) g = cDE_s S g := rfl
theorem AG_AG (S : CS) (f g : Nat → Int32) : cAG_s (cAG_s S f) g = cAG_s S g := rfl
section ADD
variable {S : CS} {K p t a : Nat} {pn tr ar de : Nat → Nat} {post : Int32 → CS → Prop}
theorem q_add (h : cSh S K pn tr ar de) (hK : K < 12) (hp1 : 1 ≤ p) (hp : p < 4) (ht : t < 2 ^ (2 ^ p)) (ha1 : 1 ≤ a) (ha : a ≤ 1000)
    (hpost : ∀ S', rsS S' = rsS S → cSh S' (K + 1) (updN pn K p) (updN tr K t) (updN ar K a) (deN de K) → post (nI K) S') : p_X3_add S (nI p) (nI t) (nI a) post := by
  obtain ⟨h1, h2, h3⟩ := h
  have h256 := p22_3 (show p ≤ 3 by omega)
  have h48 := cnt_le p hp
  have k3 : (3 : Int32) = nI 3 := rfl
  have k48 : (48 : Int32) = nI 48 := rfl
  unfold p_X3_add
  intro y1 e1 S2 e2
  rw [h1] at e1 e2
  subst e1
  rw [bx_cl (show K < 2 ^ 31 by omega)]
  refine ⟨bx_in (by omega) (by omega), ?_⟩
  intro S4 e4
  refine ⟨bx_in (by omega) (by omega), ?_⟩
  intro S6 e6
  refine ⟨bx_in (by omega) (by omega), ?_⟩
  intro S8 e8
  have sR : rsS S8 = rsS S := by rw [e8, rsS_AR, e6, rsS_TR, e4, rsS_PI, e2, rsS_CC]
  have sC : cCC S8 = nI (K + 1) := by rw [e8, gs_cCC_AR, e6, gs_cCC_TR, e4, gs_cCC_PI, e2, gs_cCC_CC, nI_1]
  have sP : cPI S8 = upd (cPI S) K (nI p) := by rw [e8, gs_cPI_AR, e6, gs_cPI_TR, e4, gs_cPI_PI, e2, gs_cPI_CC]
  have sT : cTR S8 = upd (cTR S) K (nI t) := by rw [e8, gs_cTR_AR, e6, gs_cTR_TR, e4, gs_cTR_PI, e2, gs_cTR_CC]
  have sA : cAR S8 = upd (cAR S) K (nI a) := by rw [e8, gs_cAR_AR, e6, gs_cAR_TR, e4, gs_cAR_PI, e2, gs_cAR_CC]
  have sD : cDE S8 = cDE S := by rw [e8, gs_cDE_AR, e6, gs_cDE_TR, e4, gs_cDE_PI, e2, gs_cDE_CC]
  have sG : cAG S8 = cAG S := by rw [e8, gs_cAG_AR, e6, gs_cAG_TR, e4, gs_cAG_PI, e2, gs_cAG_CC]
  clear e2 e4 e6 e8
  unfold p_X3_add_43
  refine ⟨fun S' x5 => ∃ (q : Nat) (f : Nat → Int32), S' = cDE_s S8 f ∧ x5 = nI q ∧ q ≤ 3 ∧ (∀ j, j < 3 * K → f j = cDE S j) ∧ ∀ j, j < q → f (3 * K + j) = 0, fun _ x5 => 3 - x5.toNatClampNeg, ⟨0, cDE S8, rfl, rfl, by omega, fun j _ => by rw [sD], fun j hj => absurd hj (by omega)⟩, ?_⟩
  rintro S' x5 ⟨q, f, eS, rfl, hq, f1, f2⟩
  have dD : cDE S' = f := by rw [eS, gs_cDE_DE]
  unfold b_X3_add_43
  rw [k3]
  refine c2 (nI_leI (by omega) (by omega)) (fun z => ?_) (fun z => ?_)
  · have : q = 3 := by omega
    subst this
    unfold p_X3_add_67
    refine ⟨fun S'' x5 => ∃ (i : Nat) (g : Nat → Int32), S'' = cAG_s S' g ∧ x5 = nI i ∧ i ≤ cnt p ∧ (∀ j, j < 48 * K → g j = cAG S j) ∧ ∀ j, j < i → g (48 * K + j) = nI (agT p t j), fun _ x5 => cnt p - x5.toNatClampNeg, ⟨0, cAG S', rfl, rfl, by omega, fun j _ => by rw [eS, gs_cAG_DE, sG], fun j hj => absurd hj (by omega)⟩, ?_⟩
    rintro S'' x5 ⟨i, g, eS'', rfl, hi, g1, g2⟩
    have dP : cPI S'' K = nI p := by rw [eS'', gs_cPI_AG, eS, gs_cPI_DE, sP, pk_us]
    have dT : cTR S'' K = nI t := by rw [eS'', gs_cTR_AG, eS, gs_cTR_DE, sT, pk_us]
    have dG : cAG S'' = g := by rw [eS'', gs_cAG_AG]
    unfold b_X3_add_67
    refine q_arrangementCount (by omega) dP hp ?_
    refine c2 (nI_leI (by omega) (by omega)) (fun y => ?_) (fun y => ?_)
    · have : i = cnt p := by omega
      refine hpost S'' (by rw [eS'', rsS_AG, eS, rsS_DE, sR]) ⟨by rw [eS'', gs_cCC_AG, eS, gs_cCC_DE, sC], by omega, fun c hc => ?_⟩
      have eP : cPI S'' = upd (cPI S) K (nI p) := by rw [eS'', gs_cPI_AG, eS, gs_cPI_DE, sP]
      have eT : cTR S'' = upd (cTR S) K (nI t) := by rw [eS'', gs_cTR_AG, eS, gs_cTR_DE, sT]
      have eA : cAR S'' = upd (cAR S) K (nI a) := by rw [eS'', gs_cAR_AG, eS, gs_cAR_DE, sA]
      have eD : cDE S'' = f := by rw [eS'', gs_cDE_AG, dD]
      rw [eP, eT, eA, eD, dG]
      by_cases w : c = K
      · subst w
        rw [un_s, un_s, un_s, pk_us, pk_us, pk_us]
        refine ⟨⟨hp1, hp, ht⟩, rfl, rfl, rfl, ⟨ha1, ha⟩, fun j hj => ?_, fun j hj => g2 j (by omega)⟩
        have : deN de c (3 * c + j) = 0 := if_pos (by omega)
        rw [this, f2 j hj]
        exact ⟨rfl, by omega⟩
      · obtain ⟨b1, b2, b3, b4, b5, b6, b7⟩ := h3 c (by omega)
        rw [un_n w, un_n w, un_n w, pk_un w, pk_un w, pk_un w]
        refine ⟨b1, b2, b3, b4, b5, fun j hj => ?_, fun j hj => ?_⟩
        · have : deN de K (3 * c + j) = de (3 * c + j) := if_neg (by omega)
          rw [this, f1 _ (by omega)]
          exact b6 j hj
        · have := cnt_le (pn c) b1.2.1
          rw [g1 _ (by omega)]
          exact b7 j hj
    · refine q_arrange (by omega) dP hp dT (by omega) (by omega) ?_
      rw [k48, pk_mul, nI_add, bx_cl (by omega), dG]
      refine ⟨bx_in (by omega) (by omega), ?_⟩
      intro S16 e16 y17 e17
      rw [eS'', AG_AG] at e16
      refine ⟨⟨i + 1, _, e16, by rw [e17, nI_1], by omega, fun j hj => ?_, fun j hj => ?_⟩, mu_up e17 (by omega) (by omega)⟩
      · rw [pk_un (by omega)]; exact g1 j hj
      · by_cases w : j = i
        · subst w
          rw [Nat.mul_comm K 48, pk_us]
        · rw [pk_un (by omega)]; exact g2 j (by omega)
  · unfold p_X3_setDelay
    rw [k3, pk_mul, nI_add, bx_cl (by omega), dD]
    refine ⟨bx_in (by omega) (by omega), ?_⟩
    intro S18 e18 y19 e19
    rw [eS, DE_DE] at e18
    refine ⟨⟨q + 1, _, e18, by rw [e19, nI_1], by omega, fun j hj => ?_, fun j hj => ?_⟩, mu_up e19 (by omega) (by omega)⟩
    · rw [pk_un (by omega)]; exact f1 j hj
    · by_cases w : j = q
      · subst w
        rw [Nat.mul_comm K 3, pk_us]
      · rw [pk_un (by omega)]; exact f2 j (by omega)
end ADD
