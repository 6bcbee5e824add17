/-! 67 REL: one abstract state, held by both sides -/
def aOK (N I O : Nat) (ip : Nat → Bool) (il ir nb inN : Nat → Nat) (ct : Nat → List Nat) (tmn ol : Nat → Nat) : Prop :=
  N ≤ 32 ∧ I ≤ 8 ∧ I ≤ N ∧ N ≤ I + 24 ∧ (∀ k, k < N → ip k = true → nb k < I ∧ inN (nb k) = k) ∧ (∀ i, i < I → inN i < N ∧ ip (inN i) = true ∧ nb (inN i) = i) ∧ (∀ k, k < N → tmn k ≤ 1000) ∧
  (∀ k, k < N → isCuts ip (hf il) (hf ir) k (ct k) ∧ (ct k).length ≤ 4991) ∧ O ≤ 6 ∧ ∀ j, j < O → ol j < 2 * N
def cR (S : CS) (N I K O : Nat) (pn tr ar de : Nat → Nat) (ip : Nat → Bool) (il ir nb inN : Nat → Nat) (ct : Nat → List Nat) (tmn ol : Nat → Nat) : Prop :=
  cG S ip il ir N ∧ cNC S = nI N ∧ cIC S = nI I ∧ cT S ip il ir ct N ∧ cSh S K pn tr ar de ∧ cOC S = nI O ∧ (∀ j, j < O → cOL S j = nI (ol j)) ∧ (∀ k, k < N → ip k = true → cIN S k = nI (nb k)) ∧ (∀ i, i < I → cIT S i = nI (tmn (inN i))) ∧
  ∃ (s : Nat) (P P1 : Nat → Nat), cSE S = nI s ∧ s ≤ N ∧ (∀ l, l < 2 * s → cGA S l = lN (P l) ∧ gN (2000 * s) (P l)) ∧ setSp K pn tr de P P1 ip il ir ct tmn s
def mR (M : MS) (N I K O : Nat) (pn tr ar de : Nat → Nat) (ip : Nat → Bool) (il ir inN : Nat → Nat) (ct : Nat → List Nat) (tmn ol : Nat → Nat) : Prop :=
  mSh M K pn tr ar de ∧ mG M ip il ir N ∧ mND M = nI N ∧ mIP M = nI I ∧ mAN M = nI (N - I) ∧ mOU M = nI O ∧ (∀ j, j < O → mOL M j = nI (ol j)) ∧ (∀ i, i < I → mIN M i = nI (inN i) ∧ mTI M i = nI (tmn (inN i))) ∧ (∀ n, n < N → ip n = false → ∃ a, a < N - I ∧ mAO M n = nI a ∧ mL M a (ct n)) ∧
  (mSL M = 0 → ∃ P P1 : Nat → Nat, mGs M N K pn ip P ∧ setSp K pn tr de P P1 ip il ir ct tmn N)
def Rel (S : CS) (M : MS) : Prop := ∃ (N I K O : Nat) (pn tr ar de : Nat → Nat) (ip : Nat → Bool) (il ir nb inN : Nat → Nat) (ct : Nat → List Nat) (tmn ol : Nat → Nat), aOK N I O ip il ir nb inN ct tmn ol ∧ cR S N I K O pn tr ar de ip il ir nb inN ct tmn ol ∧ mR M N I K O pn tr ar de ip il ir inN ct tmn ol
theorem cSh_same {S S' : CS} {K : Nat} {pn tr ar de : Nat → Nat} (h : cSh S K pn tr ar de) (e1 : cCC S' = cCC S) (e2 : cPI S' = cPI S) (e3 : cTR S' = cTR S) (e4 : cAR S' = cAR S) (e5 : cDE S' = cDE S) (e6 : cAG S' = cAG S) : cSh S' K pn tr ar de := by
  unfold cSh at h ⊢
  rw [e1, e2, e3, e4, e5, e6]
  exact h
theorem cT_same {S S' : CS} {ip : Nat → Bool} {il ir : Nat → Nat} {ct : Nat → List Nat} {n : Nat} (h : cT S ip il ir ct n) (e1 : cST S' = cST S) (e2 : cLV S' = cLV S) (e3 : cFN S' = cFN S) (e4 : cLVn S' = cLVn S) (e5 : cFNn S' = cFNn S) : cT S' ip il ir ct n := by
  unfold cT cL at h ⊢
  rw [e1, e2, e3, e4, e5]
  exact h
def rsD (M : MS) := (mND M, mIP M, mAN M, mOU M, mCE M, mON M, mTW M, mIN M, mTI M, mOL M, mPI M, mTR M, mAR M, mDE M, mAO M, mCC M, mCB M)
theorem rsD_of {M M' : MS} (e : rsD M' = rsD M) : mND M' = mND M ∧ mIP M' = mIP M ∧ mAN M' = mAN M ∧ mOU M' = mOU M ∧ mCE M' = mCE M ∧ mON M' = mON M ∧ mTW M' = mTW M ∧ mIN M' = mIN M ∧ mTI M' = mTI M ∧ mOL M' = mOL M ∧ mPI M' = mPI M ∧ mTR M' = mTR M ∧ mAR M' = mAR M ∧ mDE M' = mDE M ∧ mAO M' = mAO M ∧ mCC M' = mCC M ∧ mCB M' = mCB M := by
  unfold rsD at e
  simp only [Prod.mk.injEq] at e
  exact e
theorem rsD_C {M M' : MS} (e : rsC M' = rsC M) : rsD M' = rsD M := by
  obtain ⟨_, a2, a3, a4, a5, a6, a7, a8, a9, a10, a11, a12, a13, a14, a15, a16, a17, a18⟩ := rsC_of e
  unfold rsD
  rw [a2, a3, a4, a5, a6, a7, a8, a9, a10, a11, a12, a13, a14, a15, a16, a17, a18]
theorem rsD_TH (M : MS) (v : Int32) : rsD (mTH_s M v) = rsD M := rfl
theorem rsD_WA (M : MS) (f : Nat → Int32) : rsD (mWA_s M f) = rsD M := rfl
theorem rsD_VA (M : MS) (f : Nat → Int32) : rsD (mVA_s M f) = rsD M := rfl
theorem rsD_LE (M : MS) (f : Nat → Int32) : rsD (mLE_s M f) = rsD M := rfl
section RE
variable {S : CS} {M M' : MS} {N I K O : Nat} {pn tr ar de nb inN : Nat → Nat} {ip : Nat → Bool} {il ir : Nat → Nat} {ct : Nat → List Nat} {tmn ol : Nat → Nat}
theorem mGs_cg {P P' : Nat → Nat} (h : mGs M N K pn ip P) (e : ∀ l, l < 2 * N → P' l = P l) : mGs M N K pn ip P' := fun l hl => by
  rw [e l hl]; exact h l hl
theorem mGs_same {P : Nat → Nat} (h : mGs M N K pn ip P) (e1 : mAV M' = mAV M) (e2 : mGA M' = mGA M) (e3 : mGP M' = mGP M) : mGs M' N K pn ip P := fun l hl => ⟨mGt_same (h l hl).1 (by rw [e1]) (by rw [e2]) (fun q _ => by rw [e3]), (h l hl).2⟩
theorem mSh_D (e : rsD M' = rsD M) (h : mSh M K pn tr ar de) : mSh M' K pn tr ar de := by
  obtain ⟨_, _, _, _, a5, _, _, _, _, _, a11, a12, a13, a14, _⟩ := rsD_of e
  unfold mSh at h ⊢
  rw [a5, a11, a12, a13, a14]
  exact h
theorem mR_D (h : mR M N I K O pn tr ar de ip il ir inN ct tmn ol) (e : rsD M' = rsD M) (hl : mSL M' = 0 → ∃ P P1 : Nat → Nat, mGs M' N K pn ip P ∧ setSp K pn tr de P P1 ip il ir ct tmn N) : mR M' N I K O pn tr ar de ip il ir inN ct tmn ol := by
  obtain ⟨h1, h2, h3, h4, h5, h6, h7, h8, h9, _⟩ := h
  obtain ⟨a1, a2, a3, a4, a5, a6, a7, a8, a9, a10, a11, a12, a13, a14, a15, a16, a17⟩ := rsD_of e
  refine ⟨mSh_D e h1, mG_same h2 a6 a7, by rw [a1]; exact h3, by rw [a2]; exact h4, by rw [a3]; exact h5, by rw [a4]; exact h6, by rw [a10]; exact h7, by rw [a8, a9]; exact h8, fun n hn hi => ?_, hl⟩
  obtain ⟨a, b1, b2, b3⟩ := h9 n hn hi
  exact ⟨a, b1, by rw [a15]; exact b2, by unfold mL; rw [a16, a17]; exact b3⟩
theorem mR_same (h : mR M N I K O pn tr ar de ip il ir inN ct tmn ol) (e : rsD M' = rsD M) (e0 : mSL M' = mSL M) (e1 : mAV M' = mAV M) (e2 : mGA M' = mGA M) (e3 : mGP M' = mGP M) : mR M' N I K O pn tr ar de ip il ir inN ct tmn ol := by
  refine mR_D h e (fun q => ?_)
  rw [e0] at q
  obtain ⟨P, P1, b1, b2⟩ := h.2.2.2.2.2.2.2.2.2 q
  exact ⟨P, P1, mGs_same b1 e1 e2 e3, b2⟩
theorem mR_TH {v : Int32} (h : mR M N I K O pn tr ar de ip il ir inN ct tmn ol) : mR (mTH_s M v) N I K O pn tr ar de ip il ir inN ct tmn ol := mR_same h (rsD_TH M v) (gs_mSL_TH M v) (gs_mAV_TH M v) (gs_mGA_TH M v) (gs_mGP_TH M v)
theorem mR_WA {f : Nat → Int32} (h : mR M N I K O pn tr ar de ip il ir inN ct tmn ol) : mR (mWA_s M f) N I K O pn tr ar de ip il ir inN ct tmn ol := mR_same h (rsD_WA M f) (gs_mSL_WA M f) (gs_mAV_WA M f) (gs_mGA_WA M f) (gs_mGP_WA M f)
theorem mR_VA {f : Nat → Int32} (h : mR M N I K O pn tr ar de ip il ir inN ct tmn ol) : mR (mVA_s M f) N I K O pn tr ar de ip il ir inN ct tmn ol := mR_same h (rsD_VA M f) (gs_mSL_VA M f) (gs_mAV_VA M f) (gs_mGA_VA M f) (gs_mGP_VA M f)
theorem mR_LE {f : Nat → Int32} (h : mR M N I K O pn tr ar de ip il ir inN ct tmn ol) : mR (mLE_s M f) N I K O pn tr ar de ip il ir inN ct tmn ol := mR_same h (rsD_LE M f) (gs_mSL_LE M f) (gs_mAV_LE M f) (gs_mGA_LE M f) (gs_mGP_LE M f)
theorem off_le (h : ∀ k, k < N → (ct k).length ≤ 4991) : ∀ n, n ≤ N → off ct n ≤ 4991 * n
  | 0, _ => Nat.le_refl _
  | n + 1, hn => by
    have := off_le h n (by omega)
    have := h n (by omega)
    show off ct n + (ct n).length ≤ _
    omega
theorem sh_pn (h : mSh M K pn tr ar de) : K ≤ 12 ∧ ∀ c, c < K → pn c ≤ 3 := ⟨h.2.1, fun c hc => by have := (h.2.2 c hc).1; omega⟩
theorem a_mAll (hA : aOK N I O ip il ir nb inN ct tmn ol) (h : mR M N I K O pn tr ar de ip il ir inN ct tmn ol) : mAll M K N I pn tr ar de inN ip il ir ct tmn := by
  obtain ⟨a1, a2, a3, a4, a5, a6, a7, a8, a9, a10⟩ := hA
  obtain ⟨h1, h2, h3, h4, h5, h6, h7, h8, h9, _⟩ := h
  refine ⟨h1, h2, h3, fun k hk _ => (a8 k hk).1, fun n hn hi => ?_, h4, a2, a7, fun k hk => ⟨(h8 k hk).1, (a6 k hk).1, (a6 k hk).2.1, (h8 k hk).2⟩, fun n hn hi => ⟨nb n, a5 n hn hi⟩⟩
  obtain ⟨a, b1, b2, b3⟩ := h9 n hn hi
  exact ⟨a, by omega, b2, b3, (a8 n hn).2⟩
/-- the reference settles -/
theorem mR_settle {post : MS → Prop} (hA : aOK N I O ip il ir nb inN ct tmn ol) (h : mR M N I K O pn tr ar de ip il ir inN ct tmn ol)
    (hp : ∀ M' P P1, mR M' N I K O pn tr ar de ip il ir inN ct tmn ol → mTH M' = mTH M → mGs M' N K pn ip P → setSp K pn tr de P P1 ip il ir ct tmn N → post M') : p_X6_settle M post := by
  refine r_settle (a_mAll hA h) (fun z => ?_) (fun _ M' P P1 e1 e2 e3 e4 => ?_)
  · obtain ⟨P, P1, b1, b2⟩ := h.2.2.2.2.2.2.2.2.2 z
    exact hp M P P1 h rfl b1 b2
  · exact hp M' P P1 (mR_D h (rsD_C e1) (fun _ => ⟨P, P1, e3, e4⟩)) (rsC_of e1).1 e3 e4
/-- the class settles -/
theorem cR_settle {post : CS → Prop} (hA : aOK N I O ip il ir nb inN ct tmn ol) (h : cR S N I K O pn tr ar de ip il ir nb inN ct tmn ol)
    (hp : ∀ S' P P1, cR S' N I K O pn tr ar de ip il ir nb inN ct tmn ol → cLVn S' = cLVn S → cGt S' N P → setSp K pn tr de P P1 ip il ir ct tmn N → post S') : p_X1_settle S post := by
  obtain ⟨a1, a2, a3, a4, a5, a6, a7, a8, a9, a10⟩ := id hA
  obtain ⟨h1, h2, h3, h4, h5, h6, h7, h8, h9, s, P, P1, h10, h11, h12, h13⟩ := h
  have hoff := off_le (ct := ct) (N := N) (fun k hk => (a8 k hk).2) N (Nat.le_refl _)
  refine q_settle h5 h1 h2 h4 (by omega) (fun k hk _ => (a8 k hk).1) (fun k hk hi => ?_) h10 h11 h12 h13 (fun S' P' P1' e b1 b2 => ?_)
  · obtain ⟨c1, c2⟩ := a5 k hk hi
    refine ⟨nb k, by omega, h8 k hk hi, ?_, a7 k hk⟩
    rw [h9 (nb k) c1, c2]
  · obtain ⟨g1, g2, g3, g4, g5, g6, g7, g8, g9, g10, g11, g12, g13, g14, g15, g16, g17, g18, g19, g20, g21, g22, g23⟩ := rsG_of e
    have b1' : cGt (cSE_s S' (nI N)) N P' := fun l hl => by rw [gs_cGA_SE]; exact b1 l hl
    refine hp _ P' P1' ⟨cG_same h1 (by rw [gs_cIN_SE, g7]) (by rw [gs_cLE_SE, g8]) (by rw [gs_cRI_SE, g9]), by rw [gs_cNC_SE, g2]; exact h2, by rw [gs_cIC_SE, g3]; exact h3, cT_same h4 (by rw [gs_cST_SE, g11]) (by rw [gs_cLV_SE, g20]) (by rw [gs_cFN_SE, g23]) (by rw [gs_cLVn_SE, g19]) (by rw [gs_cFNn_SE, g22]), cSh_same h5 (by rw [gs_cCC_SE, g4]) (by rw [gs_cPI_SE, g13]) (by rw [gs_cTR_SE, g14]) (by rw [gs_cAR_SE, g15]) (by rw [gs_cDE_SE, g16]) (by rw [gs_cAG_SE, g17]), by rw [gs_cOC_SE, g1]; exact h6, by rw [gs_cOL_SE, g6]; exact h7, by rw [gs_cIN_SE, g7]; exact h8, by rw [gs_cIT_SE, g10]; exact h9, N, P', P1', gs_cSE_SE _ _, Nat.le_refl _, b1', b2⟩ (by rw [gs_cLVn_SE, g19]) b1' b2
theorem set_eq {P P' P1 P1' : Nat → Nat} (hA : aOK N I O ip il ir nb inN ct tmn ol) (h : setSp K pn tr de P P1 ip il ir ct tmn N) (h' : setSp K pn tr de P' P1' ip il ir ct tmn N) : ∀ l, l < 2 * N → P l = P' l := fun l hl =>
  (setSp_uq N hA.1 (fun k hk _ => (hA.2.2.2.2.2.2.2.1 k hk).1) h h' l hl).1
theorem a_gSt {P P1 : Nat → Nat} (hA : aOK N I O ip il ir nb inN ct tmn ol) (hS : cSh S K pn tr ar de) (h : setSp K pn tr de P P1 ip il ir ct tmn N) : gSt N K pn ip P :=
  set_gSt hA.1 hS.2.1 (fun c hc => by have := (hS.2.2 c hc).1; omega) (fun k hk _ => (hA.2.2.2.2.2.2.2.1 k hk).1) hA.2.2.2.2.2.2.1 h
theorem a_cWn {P P1 : Nat → Nat} (hA : aOK N I O ip il ir nb inN ct tmn ol) (h : cR S N I K O pn tr ar de ip il ir nb inN ct tmn ol) (hg : cGt S N P) (hs : setSp K pn tr de P P1 ip il ir ct tmn N) : cWn S N K O pn tr ar de ip il ir P ol := by
  obtain ⟨h1, h2, h3, h4, h5, h6, h7, h8, h9, _⟩ := h
  exact ⟨h1, h2, ⟨hA.2.2.2.2.2.2.2.2.1, h6, fun j hj => ⟨h7 j hj, hA.2.2.2.2.2.2.2.2.2 j hj⟩⟩, hg, h5, a_gSt hA h5 hs⟩
theorem a_mWn {P : Nat → Nat} (hA : aOK N I O ip il ir nb inN ct tmn ol) (h : mR M N I K O pn tr ar de ip il ir inN ct tmn ol) (hg : mGs M N K pn ip P) (hs : gSt N K pn ip P) : mWn M N K O pn ip P ol := by
  obtain ⟨h1, h2, h3, h4, h5, h6, h7, h8, h9, _⟩ := h
  exact ⟨hA.1, h1.2.1, (sh_pn h1).2, h3, hg, hs, hA.2.2.2.2.2.2.2.2.1, h6, fun j hj => ⟨h7 j hj, hA.2.2.2.2.2.2.2.2.2 j hj⟩⟩
end RE
