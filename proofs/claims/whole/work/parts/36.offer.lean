/-! 36 OFFER: gates as numbers; what the class offers -/
/-- all of the class but its gates and the row of leaves -/
def rsG (S : CS) := (cOC S, cNC S, cIC S, cCC S, cSE S, cOL S, cIN S, cLE S, cRI S, cIT S, cST S, cTB S, cPI S, cTR S, cAR S, cDE S, cAG S, cLVa S, cLVn S, cLV S, cFNa S, cFNn S, cFN S)
theorem rsG_GA (S : CS) (f : Nat → Int64) : rsG (cGA_s S f) = rsG S := rfl
theorem rsG_LN (S : CS) (f : Nat → Int32) : rsG (cLN_s S f) = rsG S := rfl
theorem rsG_of {S S' : CS} (e : rsG S' = rsG S) : cOC S' = cOC S ∧ cNC S' = cNC S ∧ cIC S' = cIC S ∧ cCC S' = cCC S ∧ cSE S' = cSE S ∧ cOL S' = cOL S ∧ cIN S' = cIN S ∧ cLE S' = cLE S ∧ cRI S' = cRI S ∧ cIT S' = cIT S ∧ cST S' = cST S ∧ cTB S' = cTB S ∧ cPI S' = cPI S ∧ cTR S' = cTR S ∧ cAR S' = cAR S ∧ cDE S' = cDE S ∧ cAG S' = cAG S ∧ cLVa S' = cLVa S ∧ cLVn S' = cLVn S ∧ cLV S' = cLV S ∧ cFNa S' = cFNa S ∧ cFNn S' = cFNn S ∧ cFN S' = cFN S := by
  unfold rsG at e
  simpa only [Prod.mk.injEq] using e
theorem rsG_Sh {S S' : CS} {K : Nat} {pn tr ar de : Nat → Nat} (e : rsG S' = rsG S) (h : cSh S K pn tr ar de) : cSh S' K pn tr ar de := by
  obtain ⟨_, _, _, e4, _, _, _, _, _, _, _, _, e13, e14, e15, e16, e17, _⟩ := rsG_of e
  unfold cSh
  rw [e4, e13, e14, e15, e16, e17]
  exact h
theorem rsG_G {S S' : CS} {ip : Nat → Bool} {il ir : Nat → Nat} {n : Nat} (e : rsG S' = rsG S) (h : cG S ip il ir n) : cG S' ip il ir n := by
  obtain ⟨_, _, _, _, _, _, e7, e8, e9, _⟩ := rsG_of e
  exact cG_same h e7 e8 e9
/-- not there -/
abbrev tp : Nat := 4611686018427387904
/-- the arrival that a number tells -/
def tI (x : Nat) : Int32 := if x = tp then (-1 : Int32) else nI (x / 2 ^ 23)
/-- a gate's number: not there, or of an arrival of at most T -/
def gN (T x : Nat) : Prop := x = tp ∨ x < (T + 1) * 2 ^ 23
theorem tpL : (4611686018427387904 : Int64) = lN tp := rfl
theorem gN_lt {T x : Nat} (h : gN T x) (hT : T < 2 ^ 20) : x ≤ tp ∧ (x = tp ∨ x < 2 ^ 43) := by
  rcases h with h | h
  · exact ⟨by omega, Or.inl h⟩
  · have : (T + 1) * 2 ^ 23 ≤ 2 ^ 20 * 2 ^ 23 := Nat.mul_le_mul_right _ (by omega)
    have e : 2 ^ 20 * 2 ^ 23 = 2 ^ 43 := by decide
    have e2 : 2 ^ 43 < tp := by decide
    exact ⟨by omega, Or.inr (by omega)⟩
theorem gN_mono {T T' x : Nat} (h : gN T x) (hT : T ≤ T') : gN T' x := by
  rcases h with h | h
  · exact Or.inl h
  · exact Or.inr (Nat.lt_of_lt_of_le h (Nat.mul_le_mul_right _ (by omega)))
theorem gN_min {T x y : Nat} (h1 : gN T x) (h2 : gN T y) : gN T (min x y) := by
  rcases Nat.le_total x y with h | h
  · rw [Nat.min_eq_left h]; exact h1
  · rw [Nat.min_eq_right h]; exact h2
section OF
variable {S : CS} {l x T : Nat}
theorem q_isThere {post : Int32 → Prop} (hl : l < 64) (hx : cGA S l = lN x) (hg : gN T x) (hT : T < 2 ^ 20) (hp : post (bI (decide (x ≠ tp)))) : p_X1_isThere S (nI l) post := by
  have h1 := gN_lt hg hT
  have e63 : tp < 2 ^ 63 := by decide
  unfold p_X1_isThere
  rw [bx_cl (by omega), hx, tpL, lg_cmp_eq]
  refine ⟨bx_in (by omega) (by omega), ?_⟩
  refine c2 (lx_inj (by omega) (by decide)) (fun h => ?_) (fun h => ?_)
  · rw [decide_eq_false (fun z => z h)] at hp; exact hp
  · rw [decide_eq_true h] at hp; exact hp
theorem q_timeOf {post : Int32 → Prop} (hl : l < 64) (hx : cGA S l = lN x) (hg : gN T x) (hT : T < 2 ^ 20) (hp : post (tI x)) : p_X1_timeOf S (nI l) post := by
  have h1 := gN_lt hg hT
  have e63 : tp < 2 ^ 63 := by decide
  unfold p_X1_timeOf
  rw [bx_cl (by omega), hx, tpL, lg_cmp_eq]
  refine ⟨bx_in (by omega) (by omega), ?_⟩
  unfold tI at hp
  refine c2 (lx_inj (by omega) (by decide)) (fun h => ?_) (fun h => ?_)
  · rw [if_pos h] at hp; exact hp
  · rw [if_neg h] at hp
    refine ⟨bx_in (by omega) (by omega), ?_⟩
    have e : lshr (lN x) (23 : Int32) = lN (x / 2 ^ 23) := lx_shr (k := 23) (by omega) (by omega)
    rw [e, lN_i]
    exact hp
theorem q_offer {x2 x5 : Int32} {x3 : Int64} {v : Nat} {post : CS → Prop} (hl : l < 64) (hx : cGA S l = lN x) (hg : gN T x) (hT : T < 2 ^ 20) (hv : v < 2 ^ 43) (ev : (lshl (x2.toInt64) (23 : Int32) ||| lshl (x5.toInt64) (18 : Int32)) ||| x3 = lN v)
    (hp : ∀ S', rsG S' = rsG S → cLN S' = cLN S → cGA S' l = lN (min x v) → (∀ j, j ≠ l → cGA S' j = cGA S j) → post S') : p_X1_offer S (nI l) x2 x3 x5 post := by
  have h1 := gN_lt hg hT
  have e43 : 2 ^ 43 < tp := by decide
  have e63 : tp < 2 ^ 63 := by decide
  unfold p_X1_offer
  intro y1 e1
  rw [ev] at e1
  subst e1
  rw [bx_cl (by omega), hx]
  refine ⟨bx_in (by omega) (by omega), ?_⟩
  rw [lg_cmp_ge]
  refine c2 (pk_lLE (a := x) (b := v) (by omega) (by omega)) (fun h => ?_) (fun h => ?_)
  · exact hp S rfl rfl (by rw [hx, Nat.min_eq_left h]) (fun _ _ => rfl)
  · refine ⟨bx_in (by omega) (by omega), ?_⟩
    intro S5 e5
    exact hp S5 (by rw [e5, rsG_GA]) (by rw [e5, gs_cLN_GA]) (by rw [e5, gs_cGA_GA, pk_uLs, Nat.min_eq_right (by omega)]) (fun j hj => by rw [e5, gs_cGA_GA, pk_uLn hj])
end OF
/-- the arrival by an arrangement -/
def tmx (P dq ap : Nat → Nat) : Nat → Nat
  | 0 => 0
  | q + 1 => max (tmx P dq ap q) (P (ap q) / 2 ^ 23 + dq q)
/-- the literals at the pins, packed -/
def pkx (ap : Nat → Nat) : Nat → Nat
  | 0 => 0
  | q + 1 => pkx ap q + ap q * 2 ^ ((2 - q) * 6)
def ofv (P de : Nat → Nat) (c p : Nat) (ap : Nat → Nat) : Nat := if ∀ q, q < p → P (ap q) ≠ tp then tmx P (fun q => de (3 * c + q)) ap p * 2 ^ 23 + c * 2 ^ 18 + pkx ap p else tp
theorem or_pk {t c k : Nat} (hc : c < 16) (hk : k < 2 ^ 18) : (t * 2 ^ 23 ||| c * 2 ^ 18) ||| k = t * 2 ^ 23 + c * 2 ^ 18 + k := by
  have h1 := Nat.two_pow_add_eq_or_of_lt (i := 18) (b := k) hk c
  have h2 := Nat.two_pow_add_eq_or_of_lt (i := 23) (b := 2 ^ 18 * c + k) (by omega) t
  rw [Nat.mul_comm t, Nat.mul_comm c, Nat.or_assoc, ← h1, ← h2]
  omega
theorem pkx_or {ap : Nat → Nat} {q : Nat} (hq : q < 3) (h : ∀ j, j < 3 → ap j < 64) : pkx ap q ||| (ap q * 2 ^ ((2 - q) * 6)) = pkx ap (q + 1) := by
  have h0 := h 0 (by omega)
  have h1 := h 1 (by omega)
  have h2 := h 2 (by omega)
  have hc : q = 0 ∨ q = 1 ∨ q = 2 := by omega
  rcases hc with e | e | e
  · subst e
    show 0 ||| _ = 0 + _
    rw [Nat.zero_or, Nat.zero_add]
  · subst e
    have e1 := Nat.two_pow_add_eq_or_of_lt (i := 12) (b := ap 1 * 64) (by omega) (ap 0)
    show (0 + ap 0 * 4096) ||| (ap 1 * 64) = (0 + ap 0 * 4096) + ap 1 * 64
    rw [Nat.zero_add, Nat.mul_comm (ap 0)]
    exact e1.symm
  · subst e
    have e1 := Nat.two_pow_add_eq_or_of_lt (i := 6) (b := ap 2 * 1) (by omega) (ap 0 * 64 + ap 1)
    have e2 : 0 + ap 0 * 4096 + ap 1 * 64 = 2 ^ 6 * (ap 0 * 64 + ap 1) := by omega
    show (0 + ap 0 * 4096 + ap 1 * 64) ||| (ap 2 * 1) = (0 + ap 0 * 4096 + ap 1 * 64) + ap 2 * 1
    rw [e2]
    exact e1.symm
theorem pkx_lt {ap : Nat → Nat} (h : ∀ j, j < 3 → ap j < 64) : ∀ q, q ≤ 3 → pkx ap q < 2 ^ 18 := by
  have h0 := h 0 (by omega)
  have h1 := h 1 (by omega)
  have h2 := h 2 (by omega)
  intro q hq
  have hc : q = 0 ∨ q = 1 ∨ q = 2 ∨ q = 3 := by omega
  rcases hc with e | e | e | e
  · subst e; show 0 < _; omega
  · subst e; show 0 + ap 0 * 4096 < 262144; omega
  · subst e; show 0 + ap 0 * 4096 + ap 1 * 64 < 262144; omega
  · subst e; show 0 + ap 0 * 4096 + ap 1 * 64 + ap 2 * 1 < 262144; omega
theorem tmx_le {P dq ap : Nat → Nat} {T : Nat} : ∀ q, (∀ j, j < q → gN T (P (ap j)) ∧ P (ap j) ≠ tp ∧ dq j ≤ 1000) → tmx P dq ap q ≤ T + 1000 := by
  intro q
  induction q with
  | zero => intro _; exact Nat.zero_le _
  | succ q ih =>
    intro h
    have h1 := ih (fun j hj => h j (by omega))
    obtain ⟨h2, h3, h4⟩ := h q (by omega)
    have h5 : P (ap q) / 2 ^ 23 ≤ T := by
      rcases h2 with h2 | h2
      · exact absurd h2 h3
      · have := Nat.div_lt_of_lt_mul (show P (ap q) < 2 ^ 23 * (T + 1) by rw [Nat.mul_comm]; exact h2)
        omega
    show max (tmx P dq ap q) (P (ap q) / 2 ^ 23 + dq q) ≤ T + 1000
    exact Nat.max_le.2 ⟨h1, by omega⟩
theorem ofv_gN {P de ap : Nat → Nat} {c p T : Nat} (hc : c < 16) (hp : p ≤ 3) (h : ∀ j, j < p → gN T (P (ap j)) ∧ de (3 * c + j) ≤ 1000) (ha : ∀ j, j < 3 → ap j < 64) : gN (T + 1000) (ofv P de c p ap) := by
  unfold ofv
  by_cases q : ∀ q, q < p → P (ap q) ≠ tp
  · rw [if_pos q]
    right
    have h1 := tmx_le (P := P) (dq := fun q => de (3 * c + q)) (ap := ap) (T := T) p (fun j hj => ⟨(h j hj).1, q j hj, (h j hj).2⟩)
    have h2 := pkx_lt ha p hp
    have h3 : tmx P (fun q => de (3 * c + q)) ap p * 2 ^ 23 ≤ (T + 1000) * 2 ^ 23 := Nat.mul_le_mul_right _ h1
    have h4 : (T + 1000 + 1) * 2 ^ 23 = (T + 1000) * 2 ^ 23 + 2 ^ 23 := by rw [Nat.succ_mul]
    omega
  · rw [if_neg q]
    exact Or.inl rfl
theorem q_pinShift {S : CS} {q : Nat} {post : Int32 → Prop} (hq : q < 3) (h : post (nI ((2 - q) * 6))) : p_X1_pinShift S (nI q) post := by
  unfold p_X1_pinShift
  have e : ((2 : Int32) - nI q) * (6 : Int32) = nI ((2 - q) * 6) := by
    show (nI 2 - nI q) * nI 6 = _
    rw [pk_sub (by omega), pk_mul]
  rw [e]
  exact h
/-- the literal at pin q by arrangement i, the leaves being lf -/
def apL (lf : Nat → Nat) (p i q : Nat) : Nat := 2 * lf (lfA p i q) + (i.testBit q).toNat
section FA
variable {S : CS} {K : Nat} {pn tr ar de lf P : Nat → Nat} {l c i x T : Nat} {post : CS → Prop}
theorem q_fitArrangement (hS : cSh S K pn tr ar de) (hc : c < K) (hi : i < cnt (pn c)) (hlf : ∀ j, j < pn c → cLN S j = nI (lf j) ∧ lf j < 32 ∧ (∀ b, b < 2 → cGA S (2 * lf j + b) = lN (P (2 * lf j + b)) ∧ gN T (P (2 * lf j + b)))) (hlfA : ∀ q, q < pn c → lfA (pn c) i q < pn c) (hT : T < 2 ^ 19)
    (hl : l < 64) (hx : cGA S l = lN x) (hg : gN (T + 1000) x)
    (hp : ∀ S', rsG S' = rsG S → cLN S' = cLN S → cGA S' l = lN (min x (ofv P de c (pn c) (apL lf (pn c) i))) → (∀ j, j ≠ l → cGA S' j = cGA S j) → post S') : p_X1_fitArrangement S (nI l) (nI c) (nI i) post := by
  obtain ⟨s1, s2, s3⟩ := hS
  obtain ⟨⟨b1, b2, b3⟩, b4, b5, b6, b7, b8, b9⟩ := s3 c hc
  have h48 := cnt_le (pn c) b2
  obtain ⟨ap, eap⟩ : ∃ ap, ap = apL lf (pn c) i := ⟨_, rfl⟩
  rw [← eap] at hp
  have hap : ∀ q, q < pn c → ap q < 64 ∧ cGA S (ap q) = lN (P (ap q)) ∧ gN T (P (ap q)) := by
    intro q hq
    obtain ⟨_, h2, h3⟩ := hlf _ (hlfA q hq)
    have h4 := h3 (i.testBit q).toNat (by have := Bool.toNat_le (i.testBit q); omega)
    have h5 := Bool.toNat_le (i.testBit q)
    rw [eap]
    exact ⟨by show 2 * lf _ + _ < 64; omega, h4.1, h4.2⟩
  -- pins beyond the cell's own don't count: the same numbers with 0 there
  obtain ⟨ap', eap'⟩ : ∃ ap' : Nat → Nat, ap' = fun q => if q < pn c then ap q else 0 := ⟨_, rfl⟩
  have ap'1 : ∀ q, q < pn c → ap' q = ap q := fun q hq => by rw [eap']; exact if_pos hq
  have ap'2 : ∀ j, j < 3 → ap' j < 64 := fun j _ => by
    rw [eap']
    by_cases z : j < pn c
    · show (if j < pn c then ap j else 0) < 64; rw [if_pos z]; exact (hap j z).1
    · show (if j < pn c then ap j else 0) < 64; rw [if_neg z]; omega
  have etm : ∀ (dq : Nat → Nat) (q : Nat), q ≤ pn c → tmx P dq ap' q = tmx P dq ap q := by
    intro dq q
    induction q with
    | zero => intro _; rfl
    | succ q ih =>
      intro hq
      show max (tmx P dq ap' q) (P (ap' q) / 2 ^ 23 + dq q) = max (tmx P dq ap q) (P (ap q) / 2 ^ 23 + dq q)
      rw [ih (by omega), ap'1 q (by omega)]
  have epk : ∀ q, q ≤ pn c → pkx ap' q = pkx ap q := by
    intro q
    induction q with
    | zero => intro _; rfl
    | succ q ih =>
      intro hq
      show pkx ap' q + ap' q * _ = pkx ap q + ap q * _
      rw [ih (by omega), ap'1 q (by omega)]
  have eof : ofv P de c (pn c) ap' = ofv P de c (pn c) ap := by
    unfold ofv
    rw [etm _ _ (Nat.le_refl _), epk _ (Nat.le_refl _)]
    have : (∀ q, q < pn c → P (ap' q) ≠ tp) ↔ (∀ q, q < pn c → P (ap q) ≠ tp) := by
      constructor
      · intro z q hq; rw [← ap'1 q hq]; exact z q hq
      · intro z q hq; rw [ap'1 q hq]; exact z q hq
    by_cases z : ∀ q, q < pn c → P (ap q) ≠ tp
    · rw [if_pos z, if_pos (this.2 z)]
    · rw [if_neg z, if_neg (fun y => z (this.1 y))]
  rw [← eof] at hp
  unfold p_X1_fitArrangement p_X1_fitArrangement_9
  refine ⟨fun x4 x5 x7 => ∃ q : Nat, x7 = nI q ∧ x4 = nI (tmx P (fun q => de (3 * c + q)) ap' q) ∧ x5 = lN (pkx ap' q) ∧ q ≤ pn c ∧ ∀ j, j < q → P (ap' j) ≠ tp, fun _ _ x7 => pn c - x7.toNatClampNeg, ⟨0, rfl, rfl, rfl, by omega, fun j hj => absurd hj (by omega)⟩, ?_⟩
  rintro x4 x5 x7 ⟨q, rfl, rfl, rfl, hq, hth⟩
  have htm := tmx_le (P := P) (dq := fun q => de (3 * c + q)) (ap := ap') (T := T) q (fun j hj => ⟨by rw [ap'1 j (by omega)]; exact (hap j (by omega)).2.2, hth j hj, (b8 j (by omega)).2⟩)
  have hpk := pkx_lt ap'2 q (by omega)
  unfold b_X1_fitArrangement_9
  rw [bx_cl (show c < 2 ^ 31 by omega), b4]
  refine ⟨bx_in (by omega) (by omega), ?_⟩
  refine c2 (nI_leI (by omega) (by omega)) (fun z => ?_) (fun z => ?_)
  · have : q = pn c := by omega
    subst this
    have hof : ofv P de c (pn c) ap' = tmx P (fun q => de (3 * c + q)) ap' (pn c) * 2 ^ 23 + c * 2 ^ 18 + pkx ap' (pn c) := if_pos hth
    rw [hof] at hp
    have hb : tmx P (fun q => de (3 * c + q)) ap' (pn c) * 2 ^ 23 ≤ (T + 1000) * 2 ^ 23 := Nat.mul_le_mul_right _ htm
    have hb2 : (T + 1000) * 2 ^ 23 ≤ (2 ^ 19 + 1000) * 2 ^ 23 := Nat.mul_le_mul_right _ (by omega)
    have hb3 : (2 ^ 19 + 1000) * 2 ^ 23 + 16 * 2 ^ 18 < 2 ^ 43 := by decide
    refine q_offer (T := T + 1000) hl hx hg (by omega) (by omega) ?_ hp
    have k23 : (23 : Int32) = nI 23 := rfl
    have k18 : (18 : Int32) = nI 18 := rfl
    rw [nI_l (by omega), nI_l (by omega), k23, k18, lx_shl _ (by omega), lx_shl _ (by omega), lx_or, lx_or, or_pk (by omega) hpk]
  · have hq3 : q < 3 := by omega
    refine q_leafAt (by omega) b4 b2 hi hq3 ?_
    obtain ⟨l1, l2, l3⟩ := hlf _ (hlfA q (by omega))
    have hl3 := hlfA q (by omega)
    refine ⟨bx_in (by omega) (by omega), ?_⟩
    intro y7 e7
    rw [bx_cl (by omega), l1] at e7
    refine q_turnAt (by omega) hq3 ?_
    intro y10 e10
    have k2 : (2 : Int32) = nI 2 := rfl
    unfold bI at e10
    rw [e7, k2, pk_mul, nI_add] at e10
    have e10b : y10 = nI (ap' q) := by rw [ap'1 q (by omega), eap]; exact e10
    rw [e10b]
    obtain ⟨a1, a2, a3⟩ := hap q (by omega)
    rw [← ap'1 q (by omega)] at a1 a2 a3
    refine q_timeOf (T := T) a1 a2 a3 (by omega) ?_
    have hgl := gN_lt a3 (show T < 2 ^ 20 by omega)
    have etI : tI (P (ap' q)) = (-1 : Int32) ↔ P (ap' q) = tp := by
      unfold tI
      by_cases y : P (ap' q) = tp
      · rw [if_pos y]; exact ⟨fun _ => y, fun _ => rfl⟩
      · rw [if_neg y]
        rcases a3 with a3 | a3
        · exact absurd a3 y
        · have := Nat.div_lt_of_lt_mul (show P (ap' q) < 2 ^ 23 * (T + 1) by rw [Nat.mul_comm]; exact a3)
          exact ⟨fun w => absurd w (nI_m1 (by omega)), fun w => absurd w y⟩
    refine c2n etI (fun y => ?_) (fun y => ?_)
    · have ht : tI (P (ap' q)) = nI (P (ap' q) / 2 ^ 23) := if_neg y
      have hdiv : P (ap' q) / 2 ^ 23 ≤ T := by
        rcases a3 with a3 | a3
        · exact absurd a3 y
        · have := Nat.div_lt_of_lt_mul (show P (ap' q) < 2 ^ 23 * (T + 1) by rw [Nat.mul_comm]; exact a3)
          omega
      obtain ⟨d1, d2⟩ := b8 q hq3
      unfold p_X3_delayAt
      have k3 : (3 : Int32) = nI 3 := rfl
      rw [k3, pk_mul, nI_add, bx_cl (by omega), Nat.mul_comm c 3, d1, ht]
      refine ⟨bx_in (by omega) (by omega), ?_⟩
      intro y16 e16
      rw [nI_add] at e16
      refine q_pinShift hq3 ?_
      intro y19 e19 y20 e20
      rw [nI_l (by omega), lx_shl _ (by omega), lx_or, pkx_or hq3 ap'2] at e19
      refine ⟨⟨q + 1, by rw [e20, nI_1], ?_, e19, by omega, fun j hj => ?_⟩, mu_up e20 (by omega) (by omega)⟩
      · rw [e16]
        show _ = nI (max (tmx P (fun q => de (3 * c + q)) ap' q) (P (ap' q) / 2 ^ 23 + de (3 * c + q)))
        by_cases w : tmx P (fun q => de (3 * c + q)) ap' q < P (ap' q) / 2 ^ 23 + de (3 * c + q)
        · rw [if_pos (nI_lt w (by omega)), Nat.max_eq_right (by omega)]
        · rw [if_neg (nI_nlt (by omega) (by omega)), Nat.max_eq_left (by omega)]
      · by_cases w : j = q
        · subst w; exact y
        · exact hth j (by omega)
    · have hof : ofv P de c (pn c) ap' = tp := if_neg (fun w => w q (by omega) y)
      rw [hof] at hp
      refine hp S rfl rfl ?_ (fun _ _ => rfl)
      rw [hx, Nat.min_eq_left (gN_lt hg (by omega)).1]
end FA
