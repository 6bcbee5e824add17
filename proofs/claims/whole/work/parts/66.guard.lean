/-! 66 GUARD: the guards of both sides -/
theorem i32_nle {a b : Int32} (h : b < a) : ¬ a ≤ b := fun q => by
  rw [Int32.lt_iff_toInt_lt] at h
  rw [Int32.le_iff_toInt_le] at q
  omega
theorem i32_nlt {a b : Int32} (h : b ≤ a) : ¬ a < b := fun q => i32_nle q h
theorem rg_ix (x : Int32) {a b : Nat} (hab : a ≤ b) (hb : b < 2 ^ 30) : (∃ k, a ≤ k ∧ k ≤ b ∧ x = nI k) ∨ (x < nI a ∨ nI b < x) := by
  rcases pk_ix x (n := b + 1) (by omega) with h | h | ⟨k, h, e⟩
  · refine Or.inr (Or.inl ?_)
    rw [Int32.lt_iff_toInt_lt] at h ⊢
    rw [nI_toInt (by omega)]
    have : (0 : Int32).toInt = 0 := rfl
    omega
  · refine Or.inr (Or.inr ?_)
    rw [Int32.le_iff_toInt_le, nI_toInt (by omega)] at h
    rw [Int32.lt_iff_toInt_lt, nI_toInt (by omega)]
    omega
  · by_cases z : a ≤ k
    · exact Or.inl ⟨k, z, by omega, e⟩
    · refine Or.inr (Or.inl ?_)
      rw [e]
      exact nI_lt (by omega) (by omega)
section GU
variable {S : CS} {M : MS} {x : Int32} {n k a b : Nat} {post : Prop} {px : String → Prop} {pst : Int32 → Prop}
theorem q_rIy (hk : k < n) (hn : n < 2 ^ 31) (h : post) : p_X5_requireIndex S (nI k) (nI n) post px :=
  ⟨fun r => absurd r (nI_pos (by omega)), fun _ => ⟨fun _ => h, fun r => absurd (nI_lt hk hn) r⟩⟩
theorem q_rIn (hx : x < 0 ∨ nI n ≤ x) (h : px "java/lang/IndexOutOfBoundsException") : p_X5_requireIndex S x (nI n) post px :=
  ⟨fun _ => h, fun r => ⟨fun q => absurd (hx.resolve_left r) (i32_nle q), fun _ => h⟩⟩
theorem r_iIy (hk : k < n) (hn : n < 2 ^ 31) (h : pst (1 : Int32)) : p_X6_isIn M (nI k) (nI n) pst :=
  ⟨fun r => absurd r (nI_pos (by omega)), fun _ => ⟨fun r => absurd r (nI_ge hk hn), fun _ => h⟩⟩
theorem r_iIn (hx : x < 0 ∨ nI n ≤ x) (h : pst (0 : Int32)) : p_X6_isIn M x (nI n) pst :=
  ⟨fun _ => h, fun r => ⟨fun _ => h, fun q => absurd (hx.resolve_left r) q⟩⟩
theorem q_rRy (ha : a ≤ k) (hb : k ≤ b) (hn : b < 2 ^ 31) (h : post) : p_X5_requireRange S (nI k) (nI a) (nI b) post px :=
  ⟨fun r => absurd r (nI_nlt ha (by omega)), fun _ => ⟨fun _ => h, fun r => absurd (nI_le hb hn) r⟩⟩
theorem q_rRn (hx : x < nI a ∨ nI b < x) (h : px "java/lang/IllegalArgumentException") : p_X5_requireRange S x (nI a) (nI b) post px :=
  ⟨fun _ => h, fun r => ⟨fun q => absurd q (i32_nle (hx.resolve_left r)), fun _ => h⟩⟩
end GU
theorem lg_self (v : Int64) : lg_cmp v v = 0 := by rw [lg_cmp_eq]
theorem outp_0 (o : Nat → Int64) (v : Int64) : outp o v (0 : Int32).toNatClampNeg = v := pk_uLs
/-- the law's end of a call: the codes agree, and the answers where none was thrown -/
theorem lw_fin {c d : Int32} {v w : Int64} {G : Prop} (h : c = d) (hv : d = 0 → v = w) (hG : G) : (c = d → ((¬ d = 0 → G) ∧ (d = 0 → ((lg_cmp v w = 0 → G) ∧ (¬ lg_cmp v w = 0 → False))))) ∧ (¬ c = d → False) :=
  ⟨fun _ => ⟨fun _ => hG, fun z => ⟨fun _ => hG, fun r => r (by rw [hv z]; exact lg_self w)⟩⟩, fun r => r h⟩
theorem lw_finB {c d r : Int32} {v : Int64} {G : Prop} (h : c = d) (hv : d = 0 → (r = 0 → v = 0) ∧ (¬ r = 0 → v = 1)) (hG : G) : (c = d → ((¬ d = 0 → G) ∧ (d = 0 → ((r = 0 → ((lg_cmp v (0 : Int64) = 0 → G) ∧ (¬ lg_cmp v (0 : Int64) = 0 → False))) ∧ (¬ r = 0 → ((lg_cmp v (1 : Int64) = 0 → G) ∧ (¬ lg_cmp v (1 : Int64) = 0 → False))))))) ∧ (¬ c = d → False) :=
  ⟨fun _ => ⟨fun _ => hG, fun z => ⟨fun y => ⟨fun _ => hG, fun q => q (by rw [(hv z).1 y]; exact lg_self 0)⟩, fun y => ⟨fun _ => hG, fun q => q (by rw [(hv z).2 y]; exact lg_self 1)⟩⟩⟩, fun r => r h⟩
theorem pi2 {α β : Type} {a : α} {b : β} {Q : α → β → Prop} (h : Q a b) : ∀ x y, x = (a, b).1 → y = (a, b).2 → Q x y := by
  intro x y e1 e2
  rw [e1, e2]
  exact h
theorem pi2' {α β : Type} {a : α} {b : β} {Q : α → β → Prop} (h : Q a b) : ∀ x y, x = a → y = b → Q x y := by
  intro x y e1 e2
  rw [e1, e2]
  exact h
