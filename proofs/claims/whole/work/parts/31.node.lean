/-! 31 NODE: the class's addNode; what lies below a node doesn't hang on what comes behind it -/
def cT (S : CS) (ip : Nat → Bool) (il ir : Nat → Nat) (ct : Nat → List Nat) (n : Nat) : Prop :=
  cL S ct n ∧ (∀ k j, k < n → j < (ct k).length → cFN S (off ct k + j) = nI (tab ip il ir ((ct k).getD j 0) k)) ∧ off ct n ≤ cLVn S ∧ cFNn S = cLVn S ∧ 128 ≤ cLVn S ∧ cLVn S < 2 ^ 19
theorem rsA_of {S S' : CS} (e : rsA S' = rsA S) : cOC S' = cOC S ∧ cNC S' = cNC S ∧ cIC S' = cIC S ∧ cCC S' = cCC S ∧ cSE S' = cSE S ∧ cOL S' = cOL S ∧ cIN S' = cIN S ∧ cLE S' = cLE S ∧ cRI S' = cRI S ∧ cIT S' = cIT S ∧ cPI S' = cPI S ∧ cTR S' = cTR S ∧ cAR S' = cAR S ∧ cDE S' = cDE S ∧ cAG S' = cAG S ∧ cGA S' = cGA S ∧ cLN S' = cLN S := by
  unfold rsA at e
  simpa only [Prod.mk.injEq] using e
section NODE
variable {S : CS} {ip : Nat → Bool} {il ir : Nat → Nat} {ct : Nat → List Nat} {n kc ks : Nat} {post : CS → Prop}
theorem q_addNodeI (hG : cG S ip il ir (n + 1)) (hi : ip n = true) (hT : cT S ip il ir ct n) (hn0 : ct n = []) (hp : ∀ S', rsA S' = rsA S → cT S' ip il ir ct (n + 1) → cLVn S' = cLVn S → post S') : p_X0_addNode S (nI n) kc ks post := by
  have hn := hG.1
  obtain ⟨⟨t1, t2⟩, t3, t4, t5, t6, t7⟩ := hT
  unfold p_X0_addNode
  rw [nI_1, bx_cl (show n + 1 < 2 ^ 31 by omega), bx_cl (show n < 2 ^ 31 by omega), t1 n (Nat.le_refl n)]
  refine ⟨bx_in (by omega) (by omega), bx_in (by omega) (by omega), ?_⟩
  intro S3 e3
  have r3 : rsA S3 = rsA S := by rw [e3, rsA_ST]
  refine q_isInput (rsA_G r3 hG) (by omega) ?_
  rw [hi]
  refine ⟨fun z => absurd z (by decide), fun _ => ?_⟩
  have o1 : off ct (n + 1) = off ct n := by show off ct n + (ct n).length = _; rw [hn0]; rfl
  have hST : ∀ k, k ≤ n + 1 → cST S3 k = nI (off ct k) := by
    intro k hk
    rw [e3, gs_cST_ST]
    by_cases z : k = n + 1
    · subst z; rw [pk_us, o1]
    · rw [pk_un z]; exact t1 k (by omega)
  have hLV : cLV S3 = cLV S := by rw [e3, gs_cLV_ST]
  have hFN : cFN S3 = cFN S := by rw [e3, gs_cFN_ST]
  have hLn : cLVn S3 = cLVn S := by rw [e3, gs_cLVn_ST]
  have hFn : cFNn S3 = cFNn S := by rw [e3, gs_cFNn_ST]
  refine hp S3 r3 ⟨⟨hST, fun k j hk hj => ?_⟩, fun k j hk hj => ?_, ?_, ?_, ?_, ?_⟩ hLn
  · rw [hLV]
    by_cases z : k = n
    · subst z; rw [hn0] at hj; exact absurd hj (Nat.not_lt_zero _)
    · exact t2 k j (by omega) hj
  · rw [hFN]
    by_cases z : k = n
    · subst z; rw [hn0] at hj; exact absurd hj (Nat.not_lt_zero _)
    · exact t3 k j (by omega) hj
  · rw [hLn, o1]; exact t4
  · rw [hLn, hFn]; exact t5
  · rw [hLn]; exact t6
  · rw [hLn]; exact t7
theorem q_addNode (hG : cG S ip il ir (n + 1)) (hi : ip n = false) (hct : ∀ k, k < n + 1 → isCuts ip (hf il) (hf ir) k (ct k)) (hT : cT S ip il ir ct n) (hlen : (ct n).length ≤ 4991) (hoff : off ct n ≤ 4991 * 31)
    (hk : (capOf (cLVn S) (off ct (n + 1)) - cLVn S) / 64 ≤ kc) (hks : 4 * (capOf (cLVn S) (off ct (n + 1)) - cLVn S) ≤ ks)
    (hp : ∀ S', rsA S' = rsA S → cT S' ip il ir ct (n + 1) → cLVn S' = capOf (cLVn S) (off ct (n + 1)) → post S') : p_X0_addNode S (nI n) kc ks post := by
  have hn := hG.1
  obtain ⟨⟨t1, t2⟩, t3, t4, t5, t6, t7⟩ := hT
  obtain ⟨_, eL, eR, lL, lR⟩ := (hG.2 n (by omega)).2 hi
  have o1 : off ct (n + 1) = off ct n + (ct n).length := rfl
  have hcap := capOf_all (off ct (n + 1)) _ (cLVn S) (by omega) (Nat.le_refl _)
  unfold p_X0_addNode
  rw [nI_1, bx_cl (show n + 1 < 2 ^ 31 by omega), bx_cl (show n < 2 ^ 31 by omega), t1 n (Nat.le_refl n)]
  refine ⟨bx_in (by omega) (by omega), bx_in (by omega) (by omega), ?_⟩
  intro S3 e3
  have r3 : rsA S3 = rsA S := by rw [e3, rsA_ST]
  have hG3 := rsA_G r3 hG
  refine q_isInput hG3 (by omega) ?_
  rw [hi]
  refine ⟨fun _ => ?_, fun z => absurd rfl z⟩
  have hLV : cLV S3 = cLV S := by rw [e3, gs_cLV_ST]
  have hFN : cFN S3 = cFN S := by rw [e3, gs_cFN_ST]
  have hLn : cLVn S3 = cLVn S := by rw [e3, gs_cLVn_ST]
  have hFn : cFNn S3 = cFNn S := by rw [e3, gs_cFNn_ST]
  have hLE : cLE S3 = cLE S := by rw [e3, gs_cLE_ST]
  have hRI : cRI S3 = cRI S := by rw [e3, gs_cRI_ST]
  have hP3 : cP S3 ct n [] := by
    refine ⟨⟨fun k hk => ?_, fun k j hk hj => ?_⟩, ?_, fun j hj => absurd hj (Nat.not_lt_zero _)⟩
    · rw [e3, gs_cST_ST, pk_un (by omega)]; exact t1 k hk
    · rw [hLV]; exact t2 k j hk hj
    · rw [e3, gs_cST_ST, pk_us]; rfl
  rw [hLE, hRI, eL, eR, bx_half (by omega), bx_half (by omega)]
  refine ⟨bx_in (by omega) (by omega), bx_in (by omega) (by omega), kc, ks, by omega, ?_⟩
  refine q_findCuts hG3 hi (fun k hk => hct k (by omega)) hP3 (hct n (by omega)) hlen hoff (by rw [hLn]; exact t4) (by rw [hLn, hFn]; exact t5) (by rw [hLn]; exact t6) (by rw [hLn]; exact t7) (fun u hu => ?_) ?_ ?_
  · rw [hLn, ← o1] at hu; omega
  · rw [hLn, ← o1]; omega
  · intro S9 s1 s2 s3 s4 s5
    rw [hLn, ← o1] at s4
    refine ⟨bx_in (by omega) (by omega), ?_⟩
    intro y13 e13
    rw [s2.1.1 n (Nat.le_refl n)] at e13
    have hG9 := rsA_G s1 hG3
    unfold p_X0_addNode_60
    refine ⟨fun S x2 _ _ => ∃ j : Nat, x2 = nI (off ct n + j) ∧ j ≤ (ct n).length ∧ rsA S = rsA S9 ∧ cST S = cST S9 ∧ cLV S = cLV S9 ∧ cLVn S = cLVn S9 ∧ cFNn S = cFNn S9 ∧ (∀ i, i < off ct n → cFN S i = cFN S9 i) ∧ ∀ i, i < j → cFN S (off ct n + i) = nI (tab ip il ir ((ct n).getD i 0) n), fun _ x2 _ _ => off ct (n + 1) - x2.toNatClampNeg, ⟨0, e13, by omega, rfl, rfl, rfl, rfl, rfl, fun _ _ => rfl, fun i hi => absurd hi (by omega)⟩, ?_⟩
    rintro S' x2 uc us ⟨j, rfl, hj, a1, a2, a3, a4, a5, a6, a7⟩
    unfold b_X0_addNode_60
    rw [nI_1, bx_cl (show n + 1 < 2 ^ 31 by omega), a2, s2.2.1]
    refine ⟨bx_in (by omega) (by omega), ?_⟩
    refine c2 (nI_leI (by omega) (by omega)) (fun q => ?_) (fun q => ?_)
    · have : j = (ct n).length := by omega
      subst this
      refine hp S' (a1.trans (s1.trans r3)) ⟨⟨fun k hk => ?_, fun k i hk hi2 => ?_⟩, fun k i hk hi2 => ?_, ?_, ?_, ?_, ?_⟩ (by rw [a4, s4])
      · rw [a2]
        by_cases z : k = n + 1
        · subst z; rw [s2.2.1]; rfl
        · exact s2.1.1 k (by omega)
      · rw [a3]
        by_cases z : k = n
        · subst z; exact s2.2.2 i hi2
        · exact s2.1.2 k i (by omega) hi2
      · by_cases z : k = n
        · subst z; exact a7 i hi2
        · have o3 := off_mono (ct := ct) (show k + 1 ≤ n by omega)
          have o4 : off ct (k + 1) = off ct k + (ct k).length := rfl
          rw [a6 _ (by omega), s3 _ (by omega), hFN]
          exact t3 k i (by omega) hi2
      · rw [a4, s4]; omega
      · rw [a5, a4, s5]
      · rw [a4, s4]; omega
      · rw [a4, s4]; omega
    · have hjl : j < (ct n).length := by omega
      have hm := (hct n (by omega)).2 ((ct n).getD j 0)
      have hm2 := hm.1 (gD_mem hjl)
      have h32 := Nat.pow_lt_pow_right (show 1 < 2 by decide) (show n < 32 by omega)
      rw [bx_cl (show off ct n + j < 2 ^ 31 by omega), a3, s2.2.2 j hjl, a4, s4]
      refine ⟨bx_in (by omega) (by omega), ?_⟩
      refine q_functionOf (rsA_G a1 hG9) (by omega) (by omega) hm2.2.1 (fun f => ?_)
      rw [gs_cFNa_TB, gs_cFNn_TB, a5, s5, s4]
      refine ⟨rfl, bx_in (by omega) (by omega), ?_⟩
      intro S21 e21 y22 e22
      rw [gs_cFN_TB] at e21
      refine ⟨⟨j + 1, by rw [e22, nI_1]; rfl, by omega, by rw [e21, rsA_FN, rsA_TB]; exact a1, by rw [e21, gs_cST_FN, gs_cST_TB]; exact a2, by rw [e21, gs_cLV_FN, gs_cLV_TB]; exact a3, by rw [e21, gs_cLVn_FN, gs_cLVn_TB]; exact a4.trans s4, by rw [e21, gs_cFNn_FN, gs_cFNn_TB]; exact a5.trans (s5.trans s4), fun i hi => ?_, fun i hi => ?_⟩, mu_up e22 (by omega) (by omega)⟩
      · rw [e21, gs_cFN_FN, pk_un (by omega)]; exact a6 i hi
      · rw [e21, gs_cFN_FN]
        by_cases z : i = j
        · subst z; rw [pk_us]
        · rw [pk_un (by omega)]; exact a7 i (by omega)
end NODE
section GC
variable {ip ip' : Nat → Bool} {cl cr cl' cr' il ir il' ir' : Nat → Nat} {C : Nat → Bool}
theorem blk_gc : ∀ k, (∀ j, j ≤ k → ip j = ip' j ∧ cl j = cl' j ∧ cr j = cr' j) → blk ip cl cr C k = blk ip' cl' cr' C k := by
  intro k
  induction k using Nat.strongRecOn with
  | ind k ih =>
    intro h
    obtain ⟨e1, e2, e3⟩ := h k (Nat.le_refl k)
    conv => lhs; rw [blk]
    conv => rhs; rw [blk]
    rw [← e1, ← e2, ← e3]
    by_cases q : cl k < k ∧ cr k < k
    · rw [dif_pos q, dif_pos q, ih _ q.1 (fun j hj => h j (by omega)), ih _ q.2 (fun j hj => h j (by omega))]
    · rw [dif_neg q, dif_neg q]
theorem isCuts_gc {k : Nat} {L : List Nat} (h : ∀ j, j ≤ k → ip j = ip' j ∧ cl j = cl' j ∧ cr j = cr' j) (hc : isCuts ip cl cr k L) : isCuts ip' cl' cr' k L := by
  refine ⟨hc.1, fun m => ?_⟩
  rw [hc.2]
  unfold cutP sml
  rw [blk_gc k h]
  constructor
  · rintro ⟨a, b, c, d⟩
    exact ⟨a, b, c, fun i hi hm => by rw [← blk_gc k h]; exact d i hi hm⟩
  · rintro ⟨a, b, c, d⟩
    exact ⟨a, b, c, fun i hi hm => by rw [blk_gc k h]; exact d i hi hm⟩
theorem evl_gc {m v : Nat} : ∀ k, (∀ j, j ≤ k → ip j = ip' j ∧ il j = il' j ∧ ir j = ir' j) → evl ip il ir m v k = evl ip' il' ir' m v k := by
  intro k
  induction k using Nat.strongRecOn with
  | ind k ih =>
    intro h
    obtain ⟨e1, e2, e3⟩ := h k (Nat.le_refl k)
    conv => lhs; rw [evl]
    conv => rhs; rw [evl]
    rw [← e1, ← e2, ← e3]
    by_cases q : il k / 2 < k ∧ ir k / 2 < k
    · rw [dif_pos q, dif_pos q, ih _ q.1 (fun j hj => h j (by omega)), ih _ q.2 (fun j hj => h j (by omega))]
    · rw [dif_neg q, dif_neg q]
theorem tab_gc {m k : Nat} (h : ∀ j, j ≤ k → ip j = ip' j ∧ il j = il' j ∧ ir j = ir' j) : tab ip il ir m k = tab ip' il' ir' m k := by
  unfold tab
  exact mk_ext (fun v _ => evl_gc k h)
theorem off_gc {ct ct' : Nat → List Nat} : ∀ n, (∀ k, k < n → ct k = ct' k) → off ct n = off ct' n := by
  intro n
  induction n with
  | zero => exact fun _ => rfl
  | succ n ih =>
    intro h
    show off ct n + (ct n).length = off ct' n + (ct' n).length
    rw [ih (fun k hk => h k (by omega)), h n (by omega)]
theorem cT_gc {S : CS} {ct ct' : Nat → List Nat} {n : Nat} (h : ∀ j, j < n → ip j = ip' j ∧ il j = il' j ∧ ir j = ir' j) (hc : ∀ k, k < n → ct k = ct' k) (hT : cT S ip il ir ct n) : cT S ip' il' ir' ct' n := by
  obtain ⟨⟨t1, t2⟩, t3, t4, t5⟩ := hT
  refine ⟨⟨fun k hk => ?_, fun k j hk hj => ?_⟩, fun k j hk hj => ?_, ?_, t5⟩
  · rw [← off_gc k (fun i hi => hc i (by omega))]; exact t1 k hk
  · rw [← hc k hk] at hj ⊢
    rw [← off_gc k (fun i hi => hc i (by omega))]; exact t2 k j hk hj
  · rw [← hc k hk] at hj ⊢
    rw [← off_gc k (fun i hi => hc i (by omega)), ← tab_gc (fun i hi => h i (by omega))]; exact t3 k j hk hj
  · rw [← off_gc n hc]; exact t4
end GC
