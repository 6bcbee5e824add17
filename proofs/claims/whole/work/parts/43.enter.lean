/-! 43 ENTER: the reference's isBefore and enter -/
theorem pkx_eq {ap ap' : Nat → Nat} : ∀ p, (∀ j, j < p → ap j = ap' j) → pkx ap p = pkx ap' p := by
  intro p
  induction p with
  | zero => intro _; rfl
  | succ p ih =>
    intro h
    show pkx ap p + ap p * _ = pkx ap' p + ap' p * _
    rw [ih (fun j hj => h j (by omega)), h p (by omega)]
theorem pkx_lex {ap ap' : Nat → Nat} {p k : Nat} (hp : p ≤ 3) (hk : k < p) (h : ∀ j, j < k → ap j = ap' j) (hl : ap k < ap' k) (ha : ∀ j, j < p → ap j < 64) : pkx ap p < pkx ap' p := by
  have hc : (p = 1 ∧ k = 0) ∨ (p = 2 ∧ k = 0) ∨ (p = 2 ∧ k = 1) ∨ (p = 3 ∧ k = 0) ∨ (p = 3 ∧ k = 1) ∨ (p = 3 ∧ k = 2) := by omega
  rcases hc with ⟨e, f⟩ | ⟨e, f⟩ | ⟨e, f⟩ | ⟨e, f⟩ | ⟨e, f⟩ | ⟨e, f⟩
  · subst e f
    show 0 + ap 0 * 4096 < 0 + ap' 0 * 4096
    omega
  · subst e f
    have := ha 1 (by omega)
    show 0 + ap 0 * 4096 + ap 1 * 64 < 0 + ap' 0 * 4096 + ap' 1 * 64
    omega
  · subst e f
    have := h 0 (by omega)
    show 0 + ap 0 * 4096 + ap 1 * 64 < 0 + ap' 0 * 4096 + ap' 1 * 64
    omega
  · subst e f
    have := ha 1 (by omega)
    have := ha 2 (by omega)
    show 0 + ap 0 * 4096 + ap 1 * 64 + ap 2 * 1 < 0 + ap' 0 * 4096 + ap' 1 * 64 + ap' 2 * 1
    omega
  · subst e f
    have := h 0 (by omega)
    have := ha 2 (by omega)
    show 0 + ap 0 * 4096 + ap 1 * 64 + ap 2 * 1 < 0 + ap' 0 * 4096 + ap' 1 * 64 + ap' 2 * 1
    omega
  · subst e f
    have := h 0 (by omega)
    have := h 1 (by omega)
    show 0 + ap 0 * 4096 + ap 1 * 64 + ap 2 * 1 < 0 + ap' 0 * 4096 + ap' 1 * 64 + ap' 2 * 1
    omega
theorem pkx_lt' {ap : Nat → Nat} {p : Nat} (hp : p ≤ 3) (h : ∀ j, j < p → ap j < 64) : pkx ap p < 2 ^ 18 := by
  have e : pkx ap p = pkx (fun j => if j < p then ap j else 0) p := pkx_eq p (fun j hj => (if_pos hj).symm)
  rw [e]
  refine pkx_lt (fun j _ => ?_) p hp
  show (if j < p then ap j else 0) < 64
  by_cases q : j < p
  · rw [if_pos q]; exact h j q
  · rw [if_neg q]; omega
section EN
variable {M : MS} {K l c c' : Nat} {pn ap ap' : Nat → Nat}
theorem r_isBefore {post : Int32 → Prop} (hl : l < 64) (hc : c < 12) (hc' : c' < 12) (hp : pn c ≤ 3) (hp' : pn c' ≤ 3) (hGA : mGA M l = nI c') (hGP : ∀ q, q < 3 → mGP M (3 * l + q) = if q < pn c' then nI (ap' q) else (-1 : Int32)) (hTD : ∀ q, q < pn c → mTD M q = nI (ap q)) (ha : ∀ q, q < pn c → ap q < 64) (ha' : ∀ q, q < pn c' → ap' q < 64)
    (h : post (bI (decide (c * 2 ^ 18 + pkx ap (pn c) < c' * 2 ^ 18 + pkx ap' (pn c'))))) : p_X6_isBefore M (nI l) (nI c) (nI (pn c)) post := by
  have k1 := pkx_lt' hp ha
  have k2 := pkx_lt' hp' ha'
  have k3 : (3 : Int32) = nI 3 := rfl
  unfold p_X6_isBefore
  rw [bx_cl (show l < 2 ^ 31 by omega), hGA]
  refine ⟨bx_in (by omega) (by omega), ?_⟩
  refine c2 (nI_eq (by omega) (by omega)) (fun z => ?_) (fun z => ?_)
  · subst z
    unfold p_X6_isBefore_29
    refine ⟨fun x4 => ∃ k : Nat, x4 = nI k ∧ k ≤ pn c' ∧ ∀ j, j < k → ap j = ap' j, fun x4 => pn c' - x4.toNatClampNeg, ⟨0, rfl, by omega, fun j hj => absurd hj (by omega)⟩, ?_⟩
    rintro x4 ⟨k, rfl, hk, he⟩
    unfold b_X6_isBefore_29
    refine c2 (nI_leI (by omega) (by omega)) (fun y => ?_) (fun y => ?_)
    · have e : k = pn c' := by omega
      subst e
      rw [pkx_eq _ he, decide_eq_false (by omega)] at h
      exact h
    · have g := hGP k (by omega)
      rw [if_pos (show k < pn c' by omega)] at g
      have a1 := ha k (by omega)
      have a2 := ha' k (by omega)
      rw [k3, pk_mul, nI_add, bx_cl (show 3 * l + k < 2 ^ 31 by omega), bx_cl (show k < 2 ^ 31 by omega), g, hTD k (by omega)]
      refine ⟨bx_in (by omega) (by omega), bx_in (by omega) (by omega), ?_⟩
      refine c2 (nI_eq (by omega) (by omega)) (fun w => ?_) (fun w => ?_)
      · intro y7 e7
        refine ⟨⟨k + 1, by rw [e7, nI_1], by omega, fun j hj => ?_⟩, mu_up e7 (by omega) (by omega)⟩
        by_cases u : j = k
        · subst u; exact w
        · exact he j (by omega)
      · refine ⟨bx_in (by omega) (by omega), bx_in (by omega) (by omega), ?_⟩
        refine c2 (nI_leI (by omega) (by omega)) (fun u => ?_) (fun u => ?_)
        · have := pkx_lex hp' (show k < pn c' by omega) (fun j hj => (he j hj).symm) (by omega) ha'
          rw [decide_eq_false (by omega)] at h
          exact h
        · have := pkx_lex hp' (show k < pn c' by omega) he (by omega) ha
          rw [decide_eq_true (by omega)] at h
          exact h
  · refine ⟨bx_in (by omega) (by omega), ?_⟩
    refine c2 (nI_leI (by omega) (by omega)) (fun u => ?_) (fun u => ?_)
    · rw [decide_eq_false (by omega)] at h
      exact h
    · rw [decide_eq_true (by omega)] at h
      exact h
end EN
/-- all of the reference but its gates -/
def rsE (M : MS) := (mTH M, mND M, mIP M, mAN M, mOU M, mCE M, mSL M, mON M, mTW M, mIN M, mTI M, mOL M, mPI M, mTR M, mAR M, mDE M, mAO M, mCC M, mCB M, mAV M, mWA M, mVA M, mLE M, mTD M)
theorem rsE_FI (M : MS) (f : Nat → Int32) : rsE (mFI_s M f) = rsE M := rfl
theorem rsE_GA (M : MS) (f : Nat → Int32) : rsE (mGA_s M f) = rsE M := rfl
theorem rsE_GP (M : MS) (f : Nat → Int32) : rsE (mGP_s M f) = rsE M := rfl
theorem GP_GP (M : MS) (f g : Nat → Int32) : mGP_s (mGP_s M f) g = mGP_s M g := rfl
/-- what the reference holds of literal l when its number is x -/
def mNm (M : MS) (K : Nat) (pn : Nat → Nat) (l x : Nat) : Prop := mFI M l = tI x ∧ (x = tp → mGA M l = (-1 : Int32) ∧ ∀ q, q < 3 → mGP M (3 * l + q) = (-1 : Int32)) ∧
  (x ≠ tp → ∃ (t c : Nat) (ap : Nat → Nat), x = t * 2 ^ 23 + c * 2 ^ 18 + pkx ap (pn c) ∧ t < 2 ^ 20 ∧ c < K ∧ (∀ q, q < pn c → ap q < 64) ∧ mGA M l = nI c ∧ ∀ q, q < 3 → mGP M (3 * l + q) = if q < pn c then nI (ap q) else (-1 : Int32))
