/-! 27 INS: rows of numbers in order, room that doubles, and the class's insertCut -/
theorem gD_lt {L : List Nat} {j : Nat} (h : j < L.length) : L.getD j 0 = L[j] := by rw [List.getD_eq_getElem?_getD, List.getElem?_eq_getElem h]; rfl
theorem gD_mem {L : List Nat} {j : Nat} (h : j < L.length) : L.getD j 0 ∈ L := by rw [gD_lt h]; exact List.getElem_mem h
theorem mem_gD {L : List Nat} {m : Nat} (h : m ∈ L) : ∃ j, j < L.length ∧ L.getD j 0 = m := by
  obtain ⟨j, hj, e⟩ := List.getElem_of_mem h
  exact ⟨j, hj, by rw [gD_lt hj]; exact e⟩
theorem asc_lt {L : List Nat} (h : L.Pairwise (· < ·)) {i j : Nat} (hij : i < j) (hj : j < L.length) : L.getD i 0 < L.getD j 0 := by
  rw [gD_lt hj, gD_lt (by omega)]
  exact List.pairwise_iff_getElem.1 h i j (by omega) hj hij
theorem asc_inj {L : List Nat} (h : L.Pairwise (· < ·)) {i j : Nat} (hi : i < L.length) (hj : j < L.length) (e : L.getD i 0 = L.getD j 0) : i = j := by
  rcases Nat.lt_trichotomy i j with q | q | q
  · have := asc_lt h q hj; omega
  · exact q
  · have := asc_lt h q hi; omega
theorem asc_len {L1 L2 : List Nat} (h1 : L1.Pairwise (· < ·)) (h2 : L2.Pairwise (· < ·)) (h : ∀ m, m ∈ L1 → m ∈ L2) : L1.length ≤ L2.length := by
  induction L1 generalizing L2 with
  | nil => exact Nat.zero_le _
  | cons a s ih =>
    rw [List.pairwise_cons] at h1
    obtain ⟨u, v, e⟩ := List.append_of_mem (h a (List.mem_cons_self ..))
    subst e
    rw [List.pairwise_append] at h2
    have := ih (L2 := v) h1.2 (List.pairwise_cons.1 h2.2.1).2 (fun m hm => by
      have hm2 := h m (List.mem_cons_of_mem _ hm)
      have ham := h1.1 m hm
      rw [List.mem_append, List.mem_cons] at hm2
      rcases hm2 with q | q | q
      · have := h2.2.2 m q a (List.mem_cons_self ..); omega
      · omega
      · exact q)
    rw [List.length_append, List.length_cons, List.length_cons]
    omega
/-- x put in at place p -/
def insAt (L : List Nat) (p x : Nat) : List Nat := L.take p ++ x :: L.drop p
theorem ins_len {L : List Nat} {p x : Nat} (hp : p ≤ L.length) : (insAt L p x).length = L.length + 1 := by
  unfold insAt
  rw [List.length_append, List.length_cons, List.length_take, List.length_drop]
  omega
theorem ins_mem {L : List Nat} {p x m : Nat} : m ∈ insAt L p x ↔ m = x ∨ m ∈ L := by
  unfold insAt
  rw [List.mem_append, List.mem_cons]
  have h : m ∈ L ↔ m ∈ L.take p ∨ m ∈ L.drop p := by rw [← List.mem_append, List.take_append_drop]
  rw [h]
  constructor
  · rintro (q | q | q)
    · exact Or.inr (Or.inl q)
    · exact Or.inl q
    · exact Or.inr (Or.inr q)
  · rintro (q | q | q)
    · exact Or.inr (Or.inl q)
    · exact Or.inl q
    · exact Or.inr (Or.inr q)
theorem ins_gD {L : List Nat} {p x j : Nat} (hp : p ≤ L.length) : (insAt L p x).getD j 0 = if j < p then L.getD j 0 else if j = p then x else L.getD (j - 1) 0 := by
  unfold insAt
  have hl : (L.take p).length = p := by rw [List.length_take]; omega
  rw [List.getD_eq_getElem?_getD, List.getD_eq_getElem?_getD, List.getD_eq_getElem?_getD]
  by_cases h : j < p
  · rw [if_pos h, List.getElem?_append_left (by rw [hl]; exact h), List.getElem?_take_of_lt h]
  · rw [if_neg h, List.getElem?_append_right (by rw [hl]; omega), hl]
    by_cases h2 : j = p
    · subst h2
      rw [if_pos rfl, Nat.sub_self]
      rfl
    · rw [if_neg h2]
      obtain ⟨q, hq⟩ : ∃ q, j - p = q + 1 := ⟨j - p - 1, by omega⟩
      rw [hq, List.getElem?_cons_succ, List.getElem?_drop]
      have : p + q = j - 1 := by omega
      rw [this]
theorem ins_asc {L : List Nat} {p x : Nat} (h : L.Pairwise (· < ·)) (h1 : ∀ m, m ∈ L.take p → m < x) (h2 : ∀ m, m ∈ L.drop p → x < m) : (insAt L p x).Pairwise (· < ·) := by
  unfold insAt
  rw [← List.take_append_drop p L, List.pairwise_append] at h
  rw [List.pairwise_append, List.pairwise_cons]
  refine ⟨h.1, ⟨h2, h.2.1⟩, fun a ha b hb => ?_⟩
  rw [List.mem_cons] at hb
  rcases hb with hb | hb
  · subst hb; exact h1 a ha
  · exact h.2.2 a ha b hb
/-- the room that is there once 'need' has been asked for -/
def capOf (c need : Nat) : Nat := if h : 0 < c ∧ c < need then capOf (2 * c) need else c
termination_by need - c
decreasing_by omega
theorem capOf_id {c need : Nat} (h : need ≤ c) : capOf c need = c := by rw [capOf, dif_neg (by omega)]
theorem capOf_up {c need : Nat} (h0 : 0 < c) (h : c < need) : capOf c need = capOf (2 * c) need := by rw [capOf, dif_pos ⟨h0, h⟩]
theorem capOf_all (need : Nat) : ∀ (d c : Nat), 0 < c → need - c ≤ d → c ≤ capOf c need ∧ need ≤ capOf c need ∧ (capOf c need ≤ c ∨ capOf c need < 2 * need) := by
  intro d
  induction d with
  | zero =>
    intro c h0 hd
    rw [capOf_id (by omega)]
    omega
  | succ d ih =>
    intro c h0 hd
    by_cases h : c < need
    · rw [capOf_up h0 h]
      have := ih (2 * c) (by omega) (by omega)
      omega
    · rw [capOf_id (by omega)]
      omega
theorem capOf_step (e : Nat) : ∀ (d c : Nat), 0 < c → e - c ≤ d → (e < capOf c e → capOf c (e + 1) = capOf c e) ∧ (capOf c e = e → capOf c (e + 1) = 2 * e) := by
  intro d
  induction d with
  | zero =>
    intro c h0 hd
    rw [capOf_id (show e ≤ c by omega)]
    refine ⟨fun h => capOf_id (by omega), fun h => ?_⟩
    subst h
    rw [capOf_up h0 (by omega), capOf_id (by omega)]
  | succ d ih =>
    intro c h0 hd
    by_cases h : c < e
    · rw [capOf_up h0 h, capOf_up (need := e + 1) h0 (by omega)]
      exact ih (2 * c) (by omega) (by omega)
    · rw [capOf_id (show e ≤ c by omega)]
      refine ⟨fun h => capOf_id (by omega), fun h => ?_⟩
      subst h
      rw [capOf_up h0 (by omega), capOf_id (by omega)]
theorem capOf_mono {c a b : Nat} (h0 : 0 < c) (h : a ≤ b) : capOf c a ≤ capOf c b := by
  induction b with
  | zero => have : a = 0 := by omega
            subst this; exact Nat.le_refl _
  | succ b ih =>
    by_cases e : a = b + 1
    · subst e; exact Nat.le_refl _
    · have h1 := ih (by omega)
      have h2 := capOf_step b (b - c) c h0 (Nat.le_refl _)
      have h3 := capOf_all b (b - c) c h0 (Nat.le_refl _)
      by_cases q : b < capOf c b
      · rw [h2.1 q]; exact h1
      · have q2 : capOf c b = b := by omega
        rw [h2.2 q2]
        omega
/-- all of the class but its cuts and their tables -/
def rsA (S : CS) := (cOC S, cNC S, cIC S, cCC S, cSE S, cOL S, cIN S, cLE S, cRI S, cIT S, cPI S, cTR S, cAR S, cDE S, cAG S, cGA S, cLN S)
theorem LV_LV (S : CS) (f g : Nat → Int32) : cLV_s (cLV_s S f) g = cLV_s S g := rfl
theorem rsA_LVa (S : CS) (v : Nat) : rsA (cLVa_s S v) = rsA S := rfl
theorem rsA_LVn (S : CS) (v : Nat) : rsA (cLVn_s S v) = rsA S := rfl
theorem rsA_FNa (S : CS) (v : Nat) : rsA (cFNa_s S v) = rsA S := rfl
theorem rsA_FNn (S : CS) (v : Nat) : rsA (cFNn_s S v) = rsA S := rfl
theorem rsA_ST (S : CS) (f : Nat → Int32) : rsA (cST_s S f) = rsA S := rfl
theorem rsA_LV (S : CS) (f : Nat → Int32) : rsA (cLV_s S f) = rsA S := rfl
theorem rsA_FN (S : CS) (f : Nat → Int32) : rsA (cFN_s S f) = rsA S := rfl
theorem rsA_TB (S : CS) (f : Nat → Int32) : rsA (cTB_s S f) = rsA S := rfl
theorem rsA_gr (S : CS) (a b N : Nat) : rsA (grown S a b N) = rsA S := by unfold grown; rw [rsA_FN, rsA_FNn, rsA_FNa, rsA_LV, rsA_LVn, rsA_LVa]
theorem gs_cST_gr (S : CS) (a b N : Nat) : cST (grown S a b N) = cST S := by unfold grown; rw [gs_cST_FN, gs_cST_FNn, gs_cST_FNa, gs_cST_LV, gs_cST_LVn, gs_cST_LVa]
theorem gs_cLVn_gr (S : CS) (a b N : Nat) : cLVn (grown S a b N) = N := by unfold grown; rw [gs_cLVn_FN, gs_cLVn_FNn, gs_cLVn_FNa, gs_cLVn_LV, gs_cLVn_LVn]
theorem gs_cFNn_gr (S : CS) (a b N : Nat) : cFNn (grown S a b N) = N := by unfold grown; rw [gs_cFNn_FN, gs_cFNn_FNn]
theorem gs_cLV_gr (S : CS) (a b N : Nat) : cLV (grown S a b N) = va_cpy (cLV S) (fun _ => 0) 0 0 (cLVn S) := by unfold grown; rw [gs_cLV_FN, gs_cLV_FNn, gs_cLV_FNa, gs_cLV_LV]
theorem gs_cFN_gr (S : CS) (a b N : Nat) : cFN (grown S a b N) = va_cpy (cFN S) (fun _ => 0) 0 0 (cFNn S) := by unfold grown; rw [gs_cFN_FN]
theorem rsA_G {S S' : CS} {ip : Nat → Bool} {il ir : Nat → Nat} {n : Nat} (e : rsA S' = rsA S) (h : cG S ip il ir n) : cG S' ip il ir n :=
  cG_same h (congrArg (fun t => t.2.2.2.2.2.2.1) e) (congrArg (fun t => t.2.2.2.2.2.2.2.1) e) (congrArg (fun t => t.2.2.2.2.2.2.2.2.1) e)
theorem q_insertCut {S : CS} {n o x kc ks : Nat} {L : List Nat} {post : CS → Prop} (hn : n < 32) (h0 : cST S n = nI o) (h1 : cST S (n + 1) = nI (o + L.length))
    (hL : ∀ j, j < L.length → cLV S (o + j) = nI (L.getD j 0)) (hx : x < 2 ^ 31) (hLx : ∀ m, m ∈ L → m < 2 ^ 31) (hs : L.Pairwise (· < ·)) (hxL : x ∉ L)
    (hc : o + L.length ≤ cLVn S) (hf : cFNn S = cLVn S) (h64 : 64 ≤ cLVn S) (hB : cLVn S < 2 ^ 20) (hk : ¬ o + L.length < cLVn S → 2 ≤ kc ∧ 4 * cLVn S ≤ ks)
    (hp : ∀ (S' : CS) (L' : List Nat), rsA S' = rsA S → (∀ j, j ≠ n + 1 → cST S' j = cST S j) → L'.length = L.length + 1 → cST S' (n + 1) = nI (o + L'.length) → (∀ j, j < L'.length → cLV S' (o + j) = nI (L'.getD j 0)) → L'.Pairwise (· < ·) → (∀ m, m ∈ L' ↔ m = x ∨ m ∈ L) → (∀ j, j < o → cLV S' j = cLV S j) → (∀ j, j < cLVn S → cFN S' j = cFN S j) → cLVn S' = (if o + L.length < cLVn S then cLVn S else 2 * cLVn S) → cFNn S' = cLVn S' → post S') : p_X0_insertCut S (nI n) (nI x) kc ks post := by
  have key : ∀ (S1 : CS) (uc us : Nat), rsA S1 = rsA S → cST S1 = cST S → (∀ j, j < cLVn S → cLV S1 j = cLV S j) → (∀ j, j < cLVn S → cFN S1 j = cFN S j) → cLVn S1 = (if o + L.length < cLVn S then cLVn S else 2 * cLVn S) → cFNn S1 = cLVn S1 → p_X0_insertCut_49 S1 (nI n) (nI x) (nI (o + L.length)) (nI (o + L.length)) kc ks uc us post := by
    intro S1 uc us r1 r2 r3 r3f r4 r5
    have hcap : o + L.length < cLVn S1 ∧ cLVn S1 < 2 ^ 21 := by
      rw [r4]
      by_cases q : o + L.length < cLVn S
      · rw [if_pos q]; omega
      · rw [if_neg q]; omega
    have fin : ∀ (f : Nat → Int32) (p uc us : Nat), p ≤ L.length → (∀ j, j < o → f j = cLV S1 j) → (∀ j, j < p → f (o + j) = nI (L.getD j 0)) → (∀ j, p ≤ j → j < L.length → f (o + j + 1) = nI (L.getD j 0)) → (∀ m, m ∈ L.take p → m < x) → (∀ m, m ∈ L.drop p → x < m) → p_X0_insertCut_95 (cLV_s S1 f) (nI n) (nI x) (nI (o + L.length)) (nI (o + p)) kc ks uc us post := by
      intro f p uc us hp' f1 f2 f3 t1 t2
      unfold p_X0_insertCut_95
      rw [gs_cLVn_LV]
      refine ⟨bx_in (by omega) (by omega), ?_⟩
      intro S7 e7
      rw [nI_1, bx_cl (show n + 1 < 2 ^ 31 by omega)]
      refine ⟨bx_in (by omega) (by omega), ?_⟩
      intro S9 e9
      subst e7 e9
      rw [nI_1, bx_cl (show o + p < 2 ^ 31 by omega)]
      have hlen := ins_len (x := x) hp'
      refine hp _ (insAt L p x) (by rw [rsA_ST, rsA_LV, rsA_LV, r1]) (fun j hj => ?_) hlen ?_ (fun j hj => ?_) (ins_asc hs t1 t2) (fun m => ins_mem) (fun j hj => ?_) (fun j hj => by rw [gs_cFN_ST, gs_cFN_LV, gs_cFN_LV]; exact r3f j hj) (by rw [gs_cLVn_ST, gs_cLVn_LV, gs_cLVn_LV]; exact r4) (by rw [gs_cLVn_ST, gs_cLVn_LV, gs_cLVn_LV, gs_cFNn_ST, gs_cFNn_LV, gs_cFNn_LV]; exact r5)
      · rw [gs_cST_ST, gs_cST_LV, gs_cST_LV, pk_un hj, r2]
      · rw [gs_cST_ST, pk_us, hlen]
        rfl
      · rw [gs_cLV_ST, gs_cLV_LV, gs_cLV_LV, ins_gD hp']
        by_cases q : j < p
        · rw [if_pos q, pk_un (by omega)]; exact f2 j q
        · rw [if_neg q]
          by_cases q2 : j = p
          · subst q2; rw [if_pos rfl, pk_us]
          · rw [if_neg q2, pk_un (by omega)]
            have := f3 (j - 1) (by omega) (by omega)
            rw [show o + (j - 1) + 1 = o + j by omega] at this
            exact this
      · rw [gs_cLV_ST, gs_cLV_LV, gs_cLV_LV, pk_un (by omega), f1 j hj]
        exact r3 j (by omega)
    unfold p_X0_insertCut_49
    refine ⟨fun S' x4 _ _ => ∃ (f : Nat → Int32) (p : Nat), S' = cLV_s S1 f ∧ x4 = nI (o + p) ∧ p ≤ L.length ∧ (∀ j, j < o → f j = cLV S1 j) ∧ (∀ j, j < p → f (o + j) = nI (L.getD j 0)) ∧ (∀ j, p ≤ j → j < L.length → f (o + j + 1) = nI (L.getD j 0)) ∧ (∀ m, m ∈ L.drop p → x < m), fun _ x4 _ _ => x4.toNatClampNeg, ⟨cLV S1, L.length, rfl, rfl, Nat.le_refl _, fun _ _ => rfl, fun j hj => ?_, fun j h1 h2 => absurd h1 (by omega), fun m hm => ?_⟩, ?_⟩
    · rw [r3 _ (by omega)]; exact hL j hj
    · rw [List.drop_length] at hm; cases hm
    · rintro S' x4 uc us ⟨f, p, rfl, rfl, hp', f1, f2, f3, t2⟩
      unfold b_X0_insertCut_49
      have e0 : cST (cLV_s S1 f) (nI n).toNatClampNeg = nI o := by
        rw [bx_cl (by omega)]
        rw [gs_cST_LV, r2, h0]
      rw [e0]
      refine ⟨bx_in (by omega) (by omega), ?_⟩
      refine c2 (nI_leI (by omega) (by omega)) (fun hc => ?_) (fun hc => ?_)
      · have : p = 0 := by omega
        subst this
        exact fin f 0 uc us (by omega) f1 f2 f3 (fun m hm => by rw [List.take_zero] at hm; cases hm) t2
      · obtain ⟨q, rfl⟩ : ∃ q, p = q + 1 := ⟨p - 1, by omega⟩
        have eq : o + (q + 1) = o + q + 1 := rfl
        rw [eq, nI_pred]
        have hq : L.getD q 0 < 2 ^ 31 := hLx _ (gD_mem (by omega))
        have ef : cLV (cLV_s S1 f) (nI (o + q)).toNatClampNeg = nI (L.getD q 0) := by
          rw [bx_cl (by omega), gs_cLV_LV]
          exact f2 q (by omega)
        rw [ef, gs_cLVn_LV]
        refine ⟨bx_in (by omega) (by omega), ?_⟩
        have hdrop : L.drop q = L.getD q 0 :: L.drop (q + 1) := by
          rw [gD_lt (by omega)]
          exact List.drop_eq_getElem_cons (by omega)
        refine c2 (nI_leI hq hx) (fun hd => ?_) (fun hd => ?_)
        · refine fin f (q + 1) uc us hp' f1 f2 f3 (fun m hm => ?_) t2
          obtain ⟨j, hj, ej⟩ := mem_gD hm
          rw [List.length_take] at hj
          have e2 : (L.take (q + 1)).getD j 0 = L.getD j 0 := by
            rw [List.getD_eq_getElem?_getD, List.getD_eq_getElem?_getD, List.getElem?_take_of_lt (by omega)]
          rw [e2] at ej
          have hne : m ≠ x := fun z => hxL (by rw [← z, ← ej]; exact gD_mem (by omega))
          by_cases z : j = q
          · subst z; omega
          · have := asc_lt hs (i := j) (j := q) (by omega) (by omega)
            omega
        · refine ⟨bx_in (by omega) (by omega), bx_in (by omega) (by omega), ?_⟩
          intro S14 e14 y15 e15
          rw [pk_m1] at e15
          rw [bx_cl (show o + q + 1 < 2 ^ 31 by omega), gs_cLV_LV] at e14
          have e14 : S14 = cLV_s S1 (upd f (o + q + 1) (nI (L.getD q 0))) := e14.trans (LV_LV S1 _ _)
          refine ⟨⟨upd f (o + q + 1) (nI (L.getD q 0)), q, e14, e15, by omega, fun j hj => ?_, fun j hj => ?_, fun j hj hj2 => ?_, fun m hm => ?_⟩, ?_⟩
          · rw [pk_un (by omega)]; exact f1 j hj
          · rw [pk_un (by omega)]; exact f2 j (by omega)
          · by_cases z : j = q
            · subst z; rw [pk_us]
            · rw [pk_un (by omega)]; exact f3 j (by omega) hj2
          · rw [hdrop, List.mem_cons] at hm
            rcases hm with hm | hm
            · omega
            · exact t2 m hm
          · show y15.toNatClampNeg < (nI (o + q + 1)).toNatClampNeg
            rw [e15, bx_cl (by omega), bx_cl (by omega)]
            omega
  unfold p_X0_insertCut
  rw [nI_1, bx_cl (show n + 1 < 2 ^ 31 by omega), h1]
  refine ⟨bx_in (by omega) (by omega), ?_⟩
  intro y2 e2
  subst e2
  refine c2 (nI_ltI (by omega) (by omega)) (fun hd => ?_) (fun hd => ?_)
  · exact key S 0 0 rfl rfl (fun _ _ => rfl) (fun _ _ => rfl) (by rw [if_pos hd]) hf
  · obtain ⟨hk1, hk2⟩ := hk hd
    have ecap : o + L.length = cLVn S := by omega
    refine ⟨2 * cLVn S, ?_, fun q1 q2 => ?_⟩
    · unfold growOK
      have e2 : (2 : Int32) * nI (o + L.length) = nI (2 * cLVn S) := by
        rw [ecap]
        exact pk_mul 2 _
      rw [e2]
      refine ⟨nI_pos (by omega), bx_cl (by omega), ?_, ?_, by omega, by omega, by omega, hk1, by omega⟩
      · intro z
        have := (nI_eq (a := 2 * cLVn S) (b := cLVn S) (by omega) (by omega)).1 z
        omega
      · rw [hf]
        intro z
        have := (nI_eq (a := 2 * cLVn S) (b := cLVn S) (by omega) (by omega)).1 z
        omega
    · refine key (grown S q1 q2 (2 * cLVn S)) 2 _ (rsA_gr ..) (gs_cST_gr ..) (fun j hj => ?_) (fun j hj => ?_) ?_ ?_
      · rw [gs_cLV_gr, pk_cpy_in (by omega) (by omega), Nat.zero_add, Nat.sub_zero]
      · rw [gs_cFN_gr, pk_cpy_in (by omega) (by omega), Nat.zero_add, Nat.sub_zero]
      · rw [if_neg hd, gs_cLVn_gr]
      · rw [gs_cLVn_gr, gs_cFNn_gr]
