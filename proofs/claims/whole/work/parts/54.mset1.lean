/-! 54 MSET1: the reference's settle -/
theorem rsC_FI (M : MS) (f : Nat → Int32) : rsC (mFI_s M f) = rsC M := rfl
theorem rsC_GA (M : MS) (f : Nat → Int32) : rsC (mGA_s M f) = rsC M := rfl
theorem rsC_GP (M : MS) (f : Nat → Int32) : rsC (mGP_s M f) = rsC M := rfl
theorem rsC_SL (M : MS) (v : Int32) : rsC (mSL_s M v) = rsC M := rfl
theorem AV_AV (M : MS) (f g : Nat → Int32) : mAV_s (mAV_s M f) g = mAV_s M g := rfl
def mNil (M : MS) (l : Nat) : Prop := mFI M l = (-1 : Int32) ∧ mAV M l = (-1 : Int32) ∧ mGA M l = (-1 : Int32) ∧ ∀ q, q < 3 → mGP M (3 * l + q) = (-1 : Int32)
section MS1
variable {M0 : MS} {K N I : Nat} {pn tr ar de inN : Nat → Nat} {ip : Nat → Bool} {il ir : Nat → Nat} {ct : Nat → List Nat} {tmn : Nat → Nat} {post : MS → Prop}
/-- what the reference's graph, cuts and inputs must be for settle -/
def mAll (M : MS) (K N I : Nat) (pn tr ar de inN : Nat → Nat) (ip : Nat → Bool) (il ir : Nat → Nat) (ct : Nat → List Nat) (tmn : Nat → Nat) : Prop :=
  mSh M K pn tr ar de ∧ mG M ip il ir N ∧ mND M = nI N ∧ (∀ k, k < N → ip k = false → isCuts ip (hf il) (hf ir) k (ct k)) ∧ (∀ n, n < N → ip n = false → ∃ a, a < 24 ∧ mAO M n = nI a ∧ mL M a (ct n) ∧ (ct n).length ≤ 4991) ∧
  mIP M = nI I ∧ I ≤ 8 ∧ (∀ k, k < N → tmn k ≤ 1000) ∧ (∀ k, k < I → mIN M k = nI (inN k) ∧ inN k < N ∧ ip (inN k) = true ∧ mTI M k = nI (tmn (inN k))) ∧ ∀ n, n < N → ip n = true → ∃ k, k < I ∧ inN k = n
theorem mAll_C {M M' : MS} (e : rsC M' = rsC M) (h : mAll M K N I pn tr ar de inN ip il ir ct tmn) : mAll M' K N I pn tr ar de inN ip il ir ct tmn := by
  obtain ⟨h1, h2, h3, h4, h5, h6, h7, h8, h9, h10⟩ := h
  obtain ⟨_, e2, e3, _, _, _, _, _, e9, e10, _, _, _, _, _, e16, e17, e18⟩ := rsC_of e
  refine ⟨rsC_Sh e h1, rsC_G e h2, by rw [e2]; exact h3, h4, fun n hn hi => ?_, by rw [e3]; exact h6, h7, h8, fun k hk => by rw [e9, e10]; exact h9 k hk, h10⟩
  obtain ⟨a, a1, a2, a3, a4⟩ := h5 n hn hi
  exact ⟨a, a1, by rw [e16]; exact a2, by unfold mL; rw [e17, e18]; exact a3, a4⟩
theorem r_set2 (h : mAll M0 K N I pn tr ar de inN ip il ir ct tmn) (hnil : ∀ l, l < 64 → mNil M0 l)
    (hp : ∀ M' P P1, rsC M' = rsC M0 → mSL M' = mSL M0 → (∀ l, l < 2 * N → mGt M' K pn ip l (P l) ∧ gN (2000 * N) (P l)) → setSp K pn tr de P P1 ip il ir ct tmn N → post M') : p_X6_settle_74 M0 (0 : Int32) post := by
  obtain ⟨h1, h2, h3, h4, h5, h6, h7, h8, h9, h10⟩ := id h
  have hN := h2.1
  unfold p_X6_settle_74
  refine ⟨fun M x1 => ∃ (k : Nat) (f : Nat → Int32), M = mAV_s M0 f ∧ x1 = nI k ∧ k ≤ I ∧ (∀ j, j < k → f (2 * inN j) = nI (tmn (inN j))) ∧ (∀ l, (∀ j, j < k → l ≠ 2 * inN j) → f l = mAV M0 l), fun _ x1 => I - x1.toNatClampNeg, ⟨0, mAV M0, rfl, rfl, by omega, fun j hj => absurd hj (by omega), fun _ _ => rfl⟩, ?_⟩
  rintro M x1 ⟨k, f, eM, rfl, hk, f1, f2⟩
  have eC : rsC M = rsC M0 := by rw [eM, rsC_AV]
  obtain ⟨_, _, q3, _, _, _, _, _, q9, q10, _⟩ := rsC_of eC
  have eA : mAV M = f := by rw [eM, gs_mAV_AV]
  unfold b_X6_settle_74
  rw [q3, h6]
  refine c2 (nI_leI (by omega) (by omega)) (fun y => ?_) (fun y => ?_)
  · have e : k = I := by omega
    subst e
    obtain ⟨g1, g2, g3, g4, g5, _, _, _, _, _⟩ := mAll_C eC h
    refine r_set3 g1 g2 g3 g4 h8 g5 (fun l hl => ?_) (fun M' P P1 b1 b2 b3 b4 => hp M' P P1 (b1.trans eC) (b2.trans (by rw [eM, gs_mSL_AV])) b3 b4)
    obtain ⟨n1, n2, n3, n4⟩ := hnil l (by omega)
    refine ⟨by rw [eM, gs_mFI_AV]; exact n1, by rw [eM, gs_mGA_AV]; exact n3, fun q hq => by rw [eM, gs_mGP_AV]; exact n4 q hq, ?_⟩
    rw [eA]
    by_cases z : l % 2 = 0 ∧ ip (l / 2) = true
    · rw [if_pos z]
      obtain ⟨j, hj, ej⟩ := h10 (l / 2) (by omega) z.2
      have := f1 j hj
      rw [ej, show 2 * (l / 2) = l by omega] at this
      exact this
    · rw [if_neg z, f2 l (fun j hj e => z ?_)]
      · exact n2
      · rw [e, show 2 * inN j / 2 = inN j by omega]
        exact ⟨by omega, (h9 j hj).2.2.1⟩
  · obtain ⟨a1, a2, a3, a4⟩ := h9 k (by omega)
    have k2 : (2 : Int32) = nI 2 := rfl
    rw [bx_cl (show k < 2 ^ 31 by omega), q9, q10, a1, a4, k2, pk_mul, bx_cl (show 2 * inN k < 2 ^ 31 by omega), eA]
    refine ⟨bx_in (by omega) (by omega), bx_in (by omega) (by omega), bx_in (by omega) (by omega), ?_⟩
    intro M24 e24 y25 e25
    rw [eM, AV_AV] at e24
    refine ⟨⟨k + 1, _, e24, by rw [e25, nI_1], by omega, fun j hj => ?_, fun l hl => ?_⟩, mu_up e25 (by omega) (by omega)⟩
    · by_cases z : inN j = inN k
      · rw [z, pk_us]
      · rw [pk_un (by omega)]
        by_cases w : j = k
        · subst w; exact absurd rfl z
        · exact f1 j (by omega)
    · rw [pk_un (hl k (by omega))]
      exact f2 l (fun j hj => hl j (by omega))
theorem r_set1 (h : mAll M0 K N I pn tr ar de inN ip il ir ct tmn)
    (hp : ∀ M' P P1, rsC M' = rsC M0 → mSL M' = mSL M0 → (∀ l, l < 2 * N → mGt M' K pn ip l (P l) ∧ gN (2000 * N) (P l)) → setSp K pn tr de P P1 ip il ir ct tmn N → post M') : p_X6_settle_15 M0 (0 : Int32) post := by
  have k64 : (64 : Int32) = nI 64 := rfl
  have k3 : (3 : Int32) = nI 3 := rfl
  unfold p_X6_settle_15
  refine ⟨fun M x1 => ∃ l : Nat, x1 = nI l ∧ l ≤ 64 ∧ rsC M = rsC M0 ∧ mSL M = mSL M0 ∧ ∀ j, j < l → mNil M j, fun _ x1 => 64 - x1.toNatClampNeg, ⟨0, rfl, by omega, rfl, rfl, fun j hj => absurd hj (by omega)⟩, ?_⟩
  rintro M x1 ⟨l, rfl, hl, a1, a2, a3⟩
  unfold b_X6_settle_15
  rw [k64]
  refine c2 (nI_leI (by omega) (by omega)) (fun y => ?_) (fun y => ?_)
  · exact r_set2 (mAll_C a1 h) (fun j hj => a3 j (by omega)) (fun M' P P1 b1 b2 b3 b4 => hp M' P P1 (b1.trans a1) (b2.trans a2) b3 b4)
  · rw [bx_cl (show l < 2 ^ 31 by omega)]
    refine ⟨bx_in (by omega) (by omega), ?_⟩
    intro M27 e27
    refine ⟨bx_in (by omega) (by omega), ?_⟩
    intro M29 e29
    refine ⟨bx_in (by omega) (by omega), ?_⟩
    intro M31 e31
    have F : mFI M31 = upd (mFI M) l (-1 : Int32) := by rw [e31, gs_mFI_GA, e29, gs_mFI_AV, e27, gs_mFI_FI]
    have A : mAV M31 = upd (mAV M) l (-1 : Int32) := by rw [e31, gs_mAV_GA, e29, gs_mAV_AV, e27, gs_mAV_FI]
    have G : mGA M31 = upd (mGA M) l (-1 : Int32) := by rw [e31, gs_mGA_GA, e29, gs_mGA_AV, e27, gs_mGA_FI]
    have Q : mGP M31 = mGP M := by rw [e31, gs_mGP_GA, e29, gs_mGP_AV, e27, gs_mGP_FI]
    have C : rsC M31 = rsC M0 := by rw [e31, rsC_GA, e29, rsC_AV, e27, rsC_FI]; exact a1
    have Z : mSL M31 = mSL M0 := by rw [e31, gs_mSL_GA, e29, gs_mSL_AV, e27, gs_mSL_FI]; exact a2
    unfold p_X6_settle_44
    refine ⟨fun M' x2 => ∃ (q : Nat) (f : Nat → Int32), M' = mGP_s M31 f ∧ x2 = nI q ∧ q ≤ 3 ∧ (∀ j, j < 3 * l → f j = mGP M j) ∧ ∀ j, j < q → f (3 * l + j) = (-1 : Int32), fun _ x2 => 3 - x2.toNatClampNeg, ⟨0, mGP M31, rfl, rfl, by omega, fun j _ => by rw [Q], fun j hj => absurd hj (by omega)⟩, ?_⟩
    rintro M' x2 ⟨q, f, eM, rfl, hq, f1, f2⟩
    have eP : mGP M' = f := by rw [eM, gs_mGP_GP]
    unfold b_X6_settle_44
    rw [k3]
    refine c2 (nI_leI (by omega) (by omega)) (fun w => ?_) (fun w => ?_)
    · intro y33 e33
      refine ⟨⟨l + 1, by rw [e33, nI_1], by omega, by rw [eM, rsC_GP]; exact C, by rw [eM, gs_mSL_GP]; exact Z, fun j hj => ?_⟩, mu_up e33 (by omega) (by omega)⟩
      unfold mNil
      rw [eP, eM, gs_mFI_GP, gs_mAV_GP, gs_mGA_GP, F, A, G]
      by_cases u : j = l
      · subst u
        rw [pk_us, pk_us, pk_us]
        exact ⟨rfl, rfl, rfl, fun r hr => f2 r (by omega)⟩
      · rw [pk_un u, pk_un u, pk_un u]
        obtain ⟨n1, n2, n3, n4⟩ := a3 j (by omega)
        exact ⟨n1, n2, n3, fun r hr => by rw [f1 _ (by omega)]; exact n4 r hr⟩
    · rw [pk_mul, nI_add, bx_cl (show 3 * l + q < 2 ^ 31 by omega), eP]
      refine ⟨bx_in (by omega) (by omega), ?_⟩
      intro M35 e35 y36 e36
      rw [eM, GP_GP] at e35
      refine ⟨⟨q + 1, _, e35, by rw [e36, nI_1], by omega, fun j hj => ?_, fun j hj => ?_⟩, mu_up e36 (by omega) (by omega)⟩
      · rw [pk_un (by omega)]; exact f1 j hj
      · by_cases u : j = q
        · subst u; rw [pk_us]
        · rw [pk_un (by omega)]; exact f2 j (by omega)
theorem r_settle (h : mAll M0 K N I pn tr ar de inN ip il ir ct tmn)
    (h0 : mSL M0 = 0 → post M0)
    (hp : mSL M0 ≠ 0 → ∀ M' P P1, rsC M' = rsC M0 → mSL M' = 0 → (∀ l, l < 2 * N → mGt M' K pn ip l (P l) ∧ gN (2000 * N) (P l)) → setSp K pn tr de P P1 ip il ir ct tmn N → post M') : p_X6_settle M0 post := by
  unfold p_X6_settle
  refine ⟨fun z => ?_, fun z => h0 z⟩
  intro M2 e2
  have eC : rsC M2 = rsC M0 := by rw [e2, rsC_SL]
  exact r_set1 (mAll_C eC h) (fun M' P P1 b1 b2 b3 b4 => hp z M' P P1 (b1.trans eC) (by rw [b2, e2, gs_mSL_SL]) b3 b4)
end MS1
