/-! 90 PURE: the law's predicate holds of every script -/
def Bd (j : Nat) (S : CS) (uc us : Nat) : Prop := uc ≤ 43 + 3 * j + (cLVn S - 128) / 64 ∧ us ≤ 121935 + 18 * j + 4 * (cLVn S - 128)
theorem Rel_cap {S : CS} {M : MS} (h : Rel S M) : 128 ≤ cLVn S ∧ cLVn S < 2 ^ 19 := by
  obtain ⟨N, I, K, O, pn, tr, ar, de, ip, il, ir, nb, inN, ct, tmn, ol, hA, hC, hM⟩ := h
  exact ⟨hC.2.2.2.1.2.2.2.2.1, hC.2.2.2.1.2.2.2.2.2⟩
theorem pure_loop {xs : Nat → Int32} {L : Nat} (hL : L ≤ 2048) {S : CS} {o : Nat → Int64} {M : MS} {uc us : Nat} (hR : Rel S M) (hB : Bd 0 S uc us) : p_law_23 xs L S o M 0 uc us := by
  unfold p_law_23
  refine ⟨fun S _ M i uc us => ∃ j, i = nI (4 * j) ∧ 4 * j ≤ L ∧ Rel S M ∧ Bd j S uc us, fun _ _ _ i _ _ => L + 4 - i.toNatClampNeg, ⟨0, rfl, by omega, hR, hB⟩, ?_⟩
  clear hR hB
  rintro S o M i uc us ⟨j, rfl, hj, hR, hB⟩
  obtain ⟨B1, B2⟩ := id hB
  obtain ⟨C1, C2⟩ := Rel_cap hR
  unfold b_law_23
  refine ⟨fun _ => trivial, fun hc => ?_⟩
  have hlt : 4 * j + 4 ≤ L := by
    rcases Nat.lt_or_ge L (4 * j + 4) with q | q
    · exfalso
      refine hc ?_
      show nI L - nI 4 < nI (4 * j)
      rw [Int32.lt_iff_toInt_lt, pk_sub_toInt (by omega) (by omega), nI_toInt (by omega)]
      omega
    · exact q
  have v0 : vp_in (nI (4 * j)) L := bx_in (by omega) (by omega)
  have v1 : vp_in (nI (4 * j) + (1 : Int32)) L := by rw [nI_1]; exact bx_in (by omega) (by omega)
  have v2 : vp_in (nI (4 * j) + (2 : Int32)) L := by rw [show (2 : Int32) = nI 2 from rfl, nI_add]; exact bx_in (by omega) (by omega)
  have v3 : vp_in (nI (4 * j) + (3 : Int32)) L := by rw [show (3 : Int32) = nI 3 from rfl, nI_add]; exact bx_in (by omega) (by omega)
  have nxt : ∀ y : Int32, y = nI (4 * j) + (4 : Int32) → y = nI (4 * (j + 1)) := by
    intro y ey
    rw [ey, show (4 : Int32) = nI 4 from rfl, nI_add]
    exact congrArg nI (by omega)
  have mui : ∀ y : Int32, y = nI (4 * j) + (4 : Int32) → L + 4 - y.toNatClampNeg < L + 4 - (nI (4 * j)).toNatClampNeg := by
    intro y ey
    rw [nxt y ey, nI_clamp (by omega), nI_clamp (by omega)]
    omega
  have bud : ∀ c s, c ≤ 3 → s ≤ 18 → uc + c ≤ 601024 ∧ us + s ≤ 7293034 := by
    intro c s hc hs
    omega
  have hand : ∀ c, cLVn S ≤ c → c < 2 ^ 19 → uc + (3 + (c - cLVn S) / 64) ≤ 601024 ∧ us + (18 + 4 * (c - cLVn S)) ≤ 7293034 := by
    intro c h1 h2
    omega
  have hand2 : ∀ S' {M' : MS}, Rel S' M' → cLVn S ≤ cLVn S' → Bd (j + 1) S' (uc + (3 + (cLVn S' - cLVn S) / 64)) (us + (18 + 4 * (cLVn S' - cLVn S))) := by
    intro S' M' _ h2
    unfold Bd
    omega
  have cont : ∀ c s, c ≤ 3 → s ≤ 18 → ∀ (S' : CS) (o' : Nat → Int64) (M' : MS) (y : Int32), Rel S' M' → cLVn S' = cLVn S → y = nI (4 * j) + (4 : Int32) → (∃ j, y = nI (4 * j) ∧ 4 * j ≤ L ∧ Rel S' M' ∧ Bd j S' (uc + c) (us + s)) ∧ L + 4 - y.toNatClampNeg < L + 4 - (nI (4 * j)).toNatClampNeg := by
    intro c s hc hs S' o' M' y r1 r2 ey
    refine ⟨⟨j + 1, nxt y ey, by omega, r1, ?_⟩, mui y ey⟩
    unfold Bd
    rw [r2]
    omega
  refine ⟨v0, ?_⟩
  generalize (xs (nI (4 * j)).toNatClampNeg &&& (31 : Int32)) = c
  refine ⟨fun _ => w_128 hR (bud 1 6 (by omega) (by omega)) (fun S' o' M' y r1 r2 ey => cont 1 6 (by omega) (by omega) S' o' M' y r1 r2 ey), fun _ => ?_⟩
  refine ⟨fun _ => w_172 hR v1 v2 hand (fun S' o' M' y r1 r2 ey => ⟨⟨j + 1, nxt y ey, by omega, r1, hand2 S' r1 r2⟩, mui y ey⟩), fun _ => ?_⟩
  refine ⟨fun _ => w_240 hR v1 (bud 2 12 (by omega) (by omega)) (fun S' o' M' y r1 r2 ey => cont 2 12 (by omega) (by omega) S' o' M' y r1 r2 ey), fun _ => ?_⟩
  refine ⟨fun _ => w_296 hR v1 v2 v3 (bud 3 18 (by omega) (by omega)) (fun S' o' M' y r1 r2 ey => cont 3 18 (by omega) (by omega) S' o' M' y r1 r2 ey), fun _ => ?_⟩
  refine ⟨fun _ => w_376 hR v1 v2 v3 (bud 3 18 (by omega) (by omega)) (fun S' o' M' y r1 r2 ey => cont 3 18 (by omega) (by omega) S' o' M' y r1 r2 ey), fun _ => ?_⟩
  refine ⟨fun _ => w_463 hR v1 v2 (bud 2 12 (by omega) (by omega)) (fun S' o' M' y r1 r2 ey => cont 2 12 (by omega) (by omega) S' o' M' y r1 r2 ey), fun _ => ?_⟩
  refine ⟨fun _ => w_538 hR v1 (bud 1 6 (by omega) (by omega)) (fun S' o' M' y r1 r2 ey => cont 1 6 (by omega) (by omega) S' o' M' y r1 r2 ey), fun _ => ?_⟩
  refine ⟨fun _ => w_594 hR v1 v2 (bud 2 12 (by omega) (by omega)) (fun S' o' M' y r1 r2 ey => cont 2 12 (by omega) (by omega) S' o' M' y r1 r2 ey), fun _ => ?_⟩
  refine ⟨fun _ => w_661 hR v1 v2 (bud 2 12 (by omega) (by omega)) (fun S' o' M' y r1 r2 ey => cont 2 12 (by omega) (by omega) S' o' M' y r1 r2 ey), fun _ => ?_⟩
  refine ⟨fun _ => w_729 hR v1 (bud 1 6 (by omega) (by omega)) (fun S' o' M' y r1 r2 ey => cont 1 6 (by omega) (by omega) S' o' M' y r1 r2 ey), fun _ => ?_⟩
  refine ⟨fun _ => w_785 hR v1 v2 (bud 2 12 (by omega) (by omega)) (fun S' o' M' y r1 r2 ey => cont 2 12 (by omega) (by omega) S' o' M' y r1 r2 ey), fun _ => ?_⟩
  refine ⟨fun _ => w_853 hR (fun S' o' M' y r1 r2 ey => cont 0 0 (by omega) (by omega) S' o' M' y r1 r2 ey), fun _ => ?_⟩
  refine ⟨fun _ => w_866 hR v1 (bud 1 6 (by omega) (by omega)) (fun S' o' M' y r1 r2 ey => cont 1 6 (by omega) (by omega) S' o' M' y r1 r2 ey), fun _ => ?_⟩
  refine ⟨fun _ => w_922 hR (fun S' o' M' y r1 r2 ey => cont 0 0 (by omega) (by omega) S' o' M' y r1 r2 ey), fun _ => ?_⟩
  refine ⟨fun _ => w_935 hR (fun S' o' M' y r1 r2 ey => cont 0 0 (by omega) (by omega) S' o' M' y r1 r2 ey), fun _ => ?_⟩
  refine ⟨fun _ => w_948 hR v1 v2 (bud 1 6 (by omega) (by omega)) (fun S' o' M' y r1 r2 ey => cont 1 6 (by omega) (by omega) S' o' M' y r1 r2 ey), fun _ => ?_⟩
  refine ⟨fun _ => w_1016 hR v1 v2 (bud 1 6 (by omega) (by omega)) (fun S' o' M' y r1 r2 ey => cont 1 6 (by omega) (by omega) S' o' M' y r1 r2 ey), fun _ => ?_⟩
  refine ⟨fun _ => w_1084 hR v1 (bud 1 6 (by omega) (by omega)) (fun S' o' M' y r1 r2 ey => cont 1 6 (by omega) (by omega) S' o' M' y r1 r2 ey), fun _ => ?_⟩
  refine ⟨fun _ => w_1140 hR (fun S' o' M' y r1 r2 ey => cont 0 0 (by omega) (by omega) S' o' M' y r1 r2 ey), fun _ => ?_⟩
  exact fun y ey => cont 0 0 (by omega) (by omega) S o M y hR rfl ey
theorem pure_law {xs : Nat → Int32} {L : Nat} (hL : L ≤ 2048) (q1 q2 : Nat) : p_X6_clear mInit (fun M => p_law_23 xs L (cInit q1 q2) (fun _ => 0) M 0 43 121935) := by
  unfold p_X6_clear
  intro M1 f1 M2 f2 M3 f3 M4 f4 M5 f5 M6 f6 M7 f7
  have yND : mND M7 = nI 0 := by rw [f7, gs_mND_SL, f6, gs_mND_CE, f5, gs_mND_OU, f4, gs_mND_AN, f3, gs_mND_IP, f2, gs_mND_ND]; rfl
  have yIP : mIP M7 = nI 0 := by rw [f7, gs_mIP_SL, f6, gs_mIP_CE, f5, gs_mIP_OU, f4, gs_mIP_AN, f3, gs_mIP_IP]; rfl
  have yAN : mAN M7 = nI 0 := by rw [f7, gs_mAN_SL, f6, gs_mAN_CE, f5, gs_mAN_OU, f4, gs_mAN_AN]; rfl
  have yOU : mOU M7 = nI 0 := by rw [f7, gs_mOU_SL, f6, gs_mOU_CE, f5, gs_mOU_OU]; rfl
  have yCE : mCE M7 = nI 0 := by rw [f7, gs_mCE_SL, f6, gs_mCE_CE]; rfl
  have ySL : mSL M7 = 1 := by rw [f7, gs_mSL_SL]
  have xLVn : cLVn (cInit q1 q2) = 128 := rfl
  refine pure_loop hL (Rel_mk (N := 0) (I := 0) (K := 0) (O := 0) (pn := fun _ => 0) (tr := fun _ => 0) (ar := fun _ => 0) (de := fun _ => 0) (nb := fun _ => 0) (inN := fun _ => 0) (ip := fun _ => true) (il := fun _ => 0) (ir := fun _ => 0) (ct := fun _ => []) (tmn := fun _ => 0) (ol := fun _ => 0) ?_ ?_ ?_) ?_
  · exact ⟨by omega, by omega, by omega, by omega, fun k hk => absurd hk (by omega), fun k hk => absurd hk (by omega), fun k hk => absurd hk (by omega), fun k hk => absurd hk (by omega), by omega, fun k hk => absurd hk (by omega)⟩
  · refine ⟨⟨by omega, fun k hk => absurd hk (by omega)⟩, rfl, rfl, ⟨⟨fun k hk => ?_, fun k j hk => absurd hk (by omega)⟩, fun k j hk => absurd hk (by omega), Nat.zero_le _, rfl, by rw [xLVn]; omega⟩, ⟨rfl, by omega, fun c hc => absurd hc (by omega)⟩, rfl, fun k hk => absurd hk (by omega), fun k hk => absurd hk (by omega), fun k hk => absurd hk (by omega), 0, fun _ => 0, fun _ => 0, rfl, by omega, fun l hl => absurd hl (by omega), fun l hl => absurd hl (by omega)⟩
    have : k = 0 := by omega
    subst this
    rfl
  · exact ⟨⟨yCE, by omega, fun c hc => absurd hc (by omega)⟩, ⟨by omega, fun k hk => absurd hk (by omega)⟩, yND, yIP, yAN, yOU, fun k hk => absurd hk (by omega), fun k hk => absurd hk (by omega), fun k hk => absurd hk (by omega), fun q => absurd (ySL.symm.trans q) (by decide)⟩
  · unfold Bd
    rw [xLVn]
    omega
