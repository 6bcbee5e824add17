/-! 29 CCUTS: the class's findCuts -/
def cP (S : CS) (ct : Nat → List Nat) (n : Nat) (L : List Nat) : Prop := cL S ct n ∧ cST S (n + 1) = nI (off ct n + L.length) ∧ ∀ j, j < L.length → cLV S (off ct n + j) = nI (L.getD j 0)
/-- what stands when pairs before (i, j) have been tried -/
def fcM (ip : Nat → Bool) (cl cr : Nat → Nat) (n : Nat) (A B L : List Nat) (i j : Nat) : Prop := ∀ m, m ∈ L ↔ ∃ a b, (a < i ∨ a = i ∧ b < j) ∧ a < A.length ∧ b < B.length ∧ m = A.getD a 0 ||| B.getD b 0 ∧ pc 32 m ≤ 3 ∧ sml ip cl cr m n
theorem fcM_no {ip : Nat → Bool} {cl cr : Nat → Nat} {n : Nat} {A B L : List Nat} {i j : Nat} (h : fcM ip cl cr n A B L i j) (hn : ¬ (pc 32 (A.getD i 0 ||| B.getD j 0) ≤ 3 ∧ sml ip cl cr (A.getD i 0 ||| B.getD j 0) n)) : fcM ip cl cr n A B L i (j + 1) := by
  intro m
  rw [h m]
  constructor
  · rintro ⟨a, b, h1, h2⟩
    exact ⟨a, b, by omega, h2⟩
  · rintro ⟨a, b, h1, h2, h3, h4, h5⟩
    refine ⟨a, b, ?_, h2, h3, h4, h5⟩
    by_cases q : a = i ∧ b = j
    · obtain ⟨rfl, rfl⟩ := q
      rw [h4] at h5
      exact absurd h5 hn
    · omega
theorem fcM_yes {ip : Nat → Bool} {cl cr : Nat → Nat} {n : Nat} {A B L L' : List Nat} {i j x : Nat} (h : fcM ip cl cr n A B L i j) (hi : i < A.length) (hj : j < B.length) (hx : x = A.getD i 0 ||| B.getD j 0) (h1 : pc 32 x ≤ 3) (h2 : sml ip cl cr x n) (hL : ∀ m, m ∈ L' ↔ m = x ∨ m ∈ L) : fcM ip cl cr n A B L' i (j + 1) := by
  intro m
  rw [hL m, h m]
  constructor
  · rintro (q | ⟨a, b, q1, q2⟩)
    · subst q
      exact ⟨i, j, by omega, hi, hj, hx, h1, h2⟩
    · exact ⟨a, b, by omega, q2⟩
  · rintro ⟨a, b, q1, q2, q3, q4, q5⟩
    by_cases q : a = i ∧ b = j
    · obtain ⟨rfl, rfl⟩ := q
      exact Or.inl (q4.trans hx.symm)
    · exact Or.inr ⟨a, b, by omega, q2, q3, q4, q5⟩
theorem fcM_row {ip : Nat → Bool} {cl cr : Nat → Nat} {n : Nat} {A B L : List Nat} {i : Nat} (h : fcM ip cl cr n A B L i B.length) : fcM ip cl cr n A B L (i + 1) 0 := by
  intro m
  rw [h m]
  constructor
  · rintro ⟨a, b, h1, h2⟩
    exact ⟨a, b, by omega, h2⟩
  · rintro ⟨a, b, h1, h2, h3, h4⟩
    exact ⟨a, b, by omega, h2, h3, h4⟩
section FC
variable {S0 : CS} {ct : Nat → List Nat} {n kc ks : Nat} {ip : Nat → Bool} {il ir : Nat → Nat} {LF : List Nat} {post : CS → Prop}
theorem q_findCuts (hG : cG S0 ip il ir (n + 1)) (hi : ip n = false) (hct : ∀ k, k < n → isCuts ip (hf il) (hf ir) k (ct k)) (hP : cP S0 ct n []) (hLF : isCuts ip (hf il) (hf ir) n LF) (hlen : LF.length ≤ 4991) (hoff : off ct n ≤ 4991 * 31)
    (hcap : off ct n ≤ cLVn S0) (hcf : cFNn S0 = cLVn S0) (h128 : 128 ≤ cLVn S0) (hcB : cLVn S0 < 2 ^ 19)
    (hk : ∀ u, 64 * u + cLVn S0 ≤ capOf (cLVn S0) (off ct n + LF.length) → u ≤ kc) (hks : 4 * capOf (cLVn S0) (off ct n + LF.length) ≤ ks + 4 * cLVn S0)
    (hp : ∀ S', rsA S' = rsA S0 → cP S' ct n LF → (∀ j, j < off ct n → cFN S' j = cFN S0 j) → cLVn S' = capOf (cLVn S0) (off ct n + LF.length) → cFNn S' = cLVn S' → post S') : p_X0_findCuts S0 (nI n) (nI (il n / 2)) (nI (ir n / 2)) kc ks post := by
  have hg := cG_ok hG
  have hn := hG.1
  obtain ⟨g1, g2⟩ := hg n (by omega) hi
  obtain ⟨l, el⟩ : ∃ l, l = il n / 2 := ⟨_, rfl⟩
  obtain ⟨r, er⟩ : ∃ r, r = ir n / 2 := ⟨_, rfl⟩
  have hl : hf il n = l := el.symm
  have hr : hf ir n = r := er.symm
  rw [hl] at g1
  rw [hr] at g2
  rw [← el, ← er]
  have ctl := hct l g1
  have ctr := hct r g2
  obtain ⟨c0, ec0⟩ : ∃ c0, c0 = cLVn S0 := ⟨_, rfl⟩
  rw [← ec0] at hcap hcf h128 hcB hk hks hp
  have ho : off ct n < 2 ^ 30 := by omega
  obtain ⟨A, eA⟩ : ∃ A, A = ct l ++ [2 ^ l] := ⟨_, rfl⟩
  obtain ⟨B, eB⟩ : ∃ B, B = ct r ++ [2 ^ r] := ⟨_, rfl⟩
  have lA : A.length = (ct l).length + 1 := by rw [eA, List.length_append]; rfl
  have lB : B.length = (ct r).length + 1 := by rw [eB, List.length_append]; rfl
  have mA : ∀ a, a < A.length → orSelf ip (hf il) (hf ir) l (A.getD a 0) := fun a ha => (os_mem ctl _).1 (by rw [← eA]; exact gD_mem ha)
  have mB : ∀ b, b < B.length → orSelf ip (hf il) (hf ir) r (B.getD b 0) := fun b hb => (os_mem ctr _).1 (by rw [← eB]; exact gD_mem hb)
  have aA : A.Pairwise (· < ·) := by rw [eA]; exact os_asc ctl
  have aB : B.Pairwise (· < ·) := by rw [eB]; exact os_asc ctr
  have ol := off_mono (ct := ct) (show l + 1 ≤ n by omega)
  have ol2 : off ct (l + 1) = off ct l + (ct l).length := rfl
  have or1 := off_mono (ct := ct) (show r + 1 ≤ n by omega)
  have or2 : off ct (r + 1) = off ct r + (ct r).length := rfl
  have hsub : ∀ (L : List Nat) (i j : Nat), fcM ip (hf il) (hf ir) n A B L i j → ∀ m, m ∈ L → m ∈ LF := by
    intro L i j h m hm
    obtain ⟨a, b, _, ha, hb, e, h1, h2⟩ := (h m).1 hm
    have := os_blkk hg (by omega) hi hl hr (mA a ha) (mB b hb)
    rw [← e] at this
    exact (hLF.2 m).2 ⟨this.1, h1, this.2, h2⟩
  have h31 : ∀ m, m ∈ LF → m < 2 ^ 31 := by
    intro m hm
    have := ((hLF.2 m).1 hm).1
    have h2 := Nat.pow_le_pow_right (show 0 < 2 by decide) (show n ≤ 31 by omega)
    omega
  -- the state while the pairs are tried
  let Iv : CS → List Nat → Nat → Nat → Prop := fun S L uc us => rsA S = rsA S0 ∧ cP S ct n L ∧ L.Pairwise (· < ·) ∧ (∀ j, j < off ct n → cFN S j = cFN S0 j) ∧ cLVn S = capOf c0 (off ct n + L.length) ∧ cFNn S = cLVn S ∧ 64 * uc + c0 ≤ cLVn S ∧ us + 4 * c0 = 4 * cLVn S
  have hIv : ∀ S L uc us, Iv S L uc us ↔ (rsA S = rsA S0 ∧ cP S ct n L ∧ L.Pairwise (· < ·) ∧ (∀ j, j < off ct n → cFN S j = cFN S0 j) ∧ cLVn S = capOf c0 (off ct n + L.length) ∧ cFNn S = cLVn S ∧ 64 * uc + c0 ≤ cLVn S ∧ us + 4 * c0 = 4 * cLVn S) := fun _ _ _ _ => Iff.rfl
  clear_value Iv
  have capF : ∀ L : List Nat, L.length ≤ LF.length → off ct n + L.length ≤ capOf c0 (off ct n + L.length) ∧ c0 ≤ capOf c0 (off ct n + L.length) ∧ capOf c0 (off ct n + L.length) < 2 ^ 20 := by
    intro L hL
    have := capOf_all (off ct n + L.length) _ c0 (by omega) (Nat.le_refl _)
    omega
  unfold p_X0_findCuts p_X0_findCuts_3
  refine ⟨fun S x4 uc us => ∃ (i : Nat) (L : List Nat), x4 = nI i ∧ i ≤ A.length ∧ Iv S L uc us ∧ fcM ip (hf il) (hf ir) n A B L i 0, fun _ x4 _ _ => A.length - x4.toNatClampNeg, ⟨0, [], rfl, by omega, ?_, ?_⟩, ?_⟩
  · rw [hIv]
    refine ⟨rfl, hP, List.Pairwise.nil, fun _ _ => rfl, ?_, by rw [hcf, ec0], by omega, by omega⟩
    rw [capOf_id (show off ct n + ([] : List Nat).length ≤ c0 from hcap), ec0]
  · intro m
    constructor
    · intro q; cases q
    · rintro ⟨a, b, h1, _⟩; omega
  · rintro S x4 uc us ⟨i, L, rfl, hiA, hI, hM⟩
    obtain ⟨i1, i2, i3, i4, i5, i6, i7, i8⟩ := (hIv S L uc us).1 hI
    have hLle := asc_len i3 hLF.1 (hsub L i 0 hM)
    have hcp := capF L hLle
    unfold b_X0_findCuts_3
    refine q_size i2.1 g1 (by omega) ho ?_
    refine c2 (nI_ltI (by omega) (by omega)) (fun q => ?_) (fun q => ?_)
    · have hiE : i = A.length := by omega
      have hE : L = LF := asc_eq i3 hLF.1 (fun m => by
        rw [hM m, hLF.2 m]
        constructor
        · rintro ⟨a, b, h1, ha, hb, e, h3, h4⟩
          have := os_blkk hg (by omega) hi hl hr (mA a ha) (mB b hb)
          rw [← e] at this
          exact ⟨this.1, h3, this.2, h4⟩
        · rintro ⟨h1, h3, h4⟩
          obtain ⟨x, y, hx, hy, e⟩ := os_all hg (by omega) (by omega) hi hl hr h1 h3 h4
          have hx2 := (os_mem ctl x).2 hx
          have hy2 := (os_mem ctr y).2 hy
          rw [← eA] at hx2
          rw [← eB] at hy2
          obtain ⟨a, ha, ea⟩ := mem_gD hx2
          obtain ⟨b, hb, eb⟩ := mem_gD hy2
          exact ⟨a, b, Or.inl (by omega), ha, hb, by rw [ea, eb]; exact e, h3, h4.2⟩)
      subst hE
      exact hp S i1 i2 i4 i5 i6
    · have hiA2 : i < A.length := by omega
      unfold p_X0_findCuts_16
      refine ⟨fun S x5 uc us => ∃ (j : Nat) (L : List Nat), x5 = nI j ∧ j ≤ B.length ∧ Iv S L uc us ∧ fcM ip (hf il) (hf ir) n A B L i j, fun _ x5 _ _ => B.length - x5.toNatClampNeg, ⟨0, L, rfl, by omega, hI, hM⟩, ?_⟩
      clear i1 i2 i3 i4 i5 i6 i7 i8 hLle hcp hI hM q
      rintro S x5 uc us ⟨j, L, rfl, hjB, hI, hM⟩
      obtain ⟨i1, i2, i3, i4, i5, i6, i7, i8⟩ := (hIv S L uc us).1 hI
      have hLle := asc_len i3 hLF.1 (hsub L i j hM)
      have hcp := capF L hLle
      rw [← i5] at hcp
      unfold b_X0_findCuts_16
      refine q_size i2.1 g2 (by omega) ho ?_
      refine c2 (nI_ltI (by omega) (by omega)) (fun q => ?_) (fun q => ?_)
      · intro y7 e7
        have hjE : j = B.length := by omega
        subst hjE
        refine ⟨⟨i + 1, L, by rw [e7, nI_1], by omega, hI, fcM_row hM⟩, mu_up e7 hiA2 (by omega)⟩
      · have hjB2 : j < B.length := by omega
        refine q_cutOrItself i2.1 g1 (by omega) ho (by omega) (by omega) (by omega) ?_
        refine q_cutOrItself i2.1 g2 (by omega) ho (by omega) (by omega) (by omega) ?_
        intro y12 e12
        rw [← eA, ← eB, bx_or] at e12
        obtain ⟨x, ex⟩ : ∃ x, x = A.getD i 0 ||| B.getD j 0 := ⟨_, rfl⟩
        rw [← ex] at e12
        subst e12
        have hxb := os_blkk hg (by omega) hi hl hr (mA i hiA2) (mB j hjB2)
        rw [← ex] at hxb
        have hx31 : x < 2 ^ 31 := by
          have h2 := Nat.pow_le_pow_right (show 0 < 2 by decide) (show n ≤ 31 by omega)
          omega
        have hpc := pc_le 32 x
        refine q_pop (by omega) ?_
        refine c2 (nI_ltI (a := 3) (b := pc 32 x) (by omega) (by omega)) (fun q1 => ?_) (fun q1 => ?_)
        · intro y16 e16
          refine ⟨⟨j + 1, L, by rw [e16, nI_1], by omega, hI, fcM_no hM (fun z => ?_)⟩, mu_up e16 hjB2 (by omega)⟩
          rw [← ex] at z
          omega
        · refine q_isSmallest (rsA_G i1 hG) (by omega) (by omega) (fun hs => ?_) (fun hs => ?_)
          · refine ⟨fun z => absurd z (by decide), fun _ => ?_⟩
            have hxL : x ∉ L := by
              intro hm
              obtain ⟨a, b, h1, ha, hb, e, h3, h4⟩ := (hM x).1 hm
              have hu := os_uniq hg (by omega) hi hl hr (mA i hiA2) (mB j hjB2) (mA a ha) (mB b hb) (by rw [← ex]; exact e) (by rw [← ex]; exact hs)
              have u1 := asc_inj aA hiA2 ha hu.1
              have u2 := asc_inj aB hjB2 hb hu.2
              omega
            have hxF : x ∈ LF := (hLF.2 x).2 ⟨hxb.1, by omega, hxb.2, hs⟩
            have hst := capOf_step (off ct n + L.length) _ c0 (by omega) (Nat.le_refl _)
            have hlt : L.length + 1 ≤ LF.length := by
              have := asc_len (L1 := LF.filter (· ≠ x)) (L2 := LF) (hLF.1.filter _) hLF.1 (fun m hm => (List.mem_filter.1 hm).1)
              have h5 := asc_len i3 (hLF.1.filter (fun y => decide (y ≠ x))) (fun m hm => List.mem_filter.2 ⟨hsub L i j hM m hm, by simp; intro z; subst z; exact hxL hm⟩)
              have h6 : (LF.filter (fun y => decide (y ≠ x))).length < LF.length := by
                have := List.length_filter_lt_length_iff_exists (p := fun y => decide (y ≠ x)) (l := LF)
                exact this.2 ⟨x, hxF, by simp⟩
              omega
            have hmono := capOf_mono (c := c0) (a := off ct n + L.length + 1) (b := off ct n + LF.length) (by omega) (by omega)
            refine ⟨if off ct n + L.length < cLVn S then 0 else 2, if off ct n + L.length < cLVn S then 0 else 4 * cLVn S, ?_, ?_⟩
            · by_cases z : off ct n + L.length < cLVn S
              · rw [if_pos z, if_pos z]
                have hm2 := capOf_mono (c := c0) (a := off ct n + L.length) (b := off ct n + LF.length) (by omega) (by omega)
                refine ⟨hk _ ?_, ?_⟩
                · omega
                · omega
              · rw [if_neg z, if_neg z]
                have h7 := hst.2 (by omega)
                refine ⟨hk _ ?_, ?_⟩
                · omega
                · omega
            · refine q_insertCut (by omega) (i2.1.1 n (Nat.le_refl n)) i2.2.1 i2.2.2 hx31 (fun m hm => h31 m (hsub L i j hM m hm)) i3 hxL (by omega) i6 (by omega) (by omega) (fun z => by rw [if_neg z, if_neg z]; omega) ?_
              intro S' L' r1 r2 r3 r4 r5 r6 r7 r8 r9 r10 r11
              intro y24 e24
              refine ⟨⟨j + 1, L', by rw [e24, nI_1], by omega, ?_, fcM_yes hM hiA2 hjB2 ex (by omega) hs r7⟩, mu_up e24 hjB2 (by omega)⟩
              rw [hIv]
              have e5 : cLVn S' = capOf c0 (off ct n + L'.length) := by
                rw [r10, r3, ← Nat.add_assoc]
                by_cases z : off ct n + L.length < cLVn S
                · rw [if_pos z, hst.1 (by omega)]; exact i5
                · rw [if_neg z, hst.2 (by omega)]; omega
              refine ⟨r1.trans i1, ⟨⟨fun k hk => ?_, fun k j2 hk hj2 => ?_⟩, r4, r5⟩, r6, fun j2 hj2 => ?_, e5, r11, ?_, ?_⟩
              · rw [r2 k (by omega)]; exact i2.1.1 k hk
              · have o3 := off_mono (ct := ct) (show k + 1 ≤ n by omega)
                have o4 : off ct (k + 1) = off ct k + (ct k).length := rfl
                rw [r8 _ (by omega)]; exact i2.1.2 k j2 hk hj2
              · rw [r9 _ (by omega)]; exact i4 j2 hj2
              · rw [r10]
                by_cases z : off ct n + L.length < cLVn S
                · rw [if_pos z, if_pos z]; omega
                · rw [if_neg z, if_neg z]; omega
              · rw [r10]
                by_cases z : off ct n + L.length < cLVn S
                · rw [if_pos z, if_pos z]; omega
                · rw [if_neg z, if_neg z]; omega
          · refine ⟨fun _ => ?_, fun z => absurd rfl z⟩
            intro y20 e20
            refine ⟨⟨j + 1, L, by rw [e20, nI_1], by omega, hI, fcM_no hM (fun z => ?_)⟩, mu_up e20 hjB2 (by omega)⟩
            rw [← ex] at z
            exact hs z.2
end FC
