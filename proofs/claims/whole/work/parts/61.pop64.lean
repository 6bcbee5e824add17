/-! 61 POP64: Long.bitCount counts -/
theorem pc_64 (x : Nat) : pc 64 x = pc 32 x + pc 32 (x / 2 ^ 32) := pc_add 32 32 x
theorem psp8 (x : Nat) : psp 8 x = psp 4 x + 256 * (256 * (256 * (256 * psp 4 (x / 2 ^ 32)))) := by
  have e : x / 256 / 256 / 256 / 256 = x / 2 ^ 32 := by omega
  show pc 8 (x % 256) + 256 * (pc 8 (x / 256 % 256) + 256 * (pc 8 (x / 256 / 256 % 256) + 256 * (pc 8 (x / 256 / 256 / 256 % 256) + 256 * psp 4 (x / 256 / 256 / 256 / 256)))) = pc 8 (x % 256) + 256 * (pc 8 (x / 256 % 256) + 256 * (pc 8 (x / 256 / 256 % 256) + 256 * (pc 8 (x / 256 / 256 / 256 % 256) + 256 * 0))) + _
  rw [e]
  omega
theorem psp4_u (x : Nat) : ∃ u0 u1 u2 u3, u0 ≤ 8 ∧ u1 ≤ 8 ∧ u2 ≤ 8 ∧ u3 ≤ 8 ∧ psp 4 x = u0 + 256 * (u1 + 256 * (u2 + 256 * u3)) ∧ pc 32 x = u0 + u1 + u2 + u3 := by
  refine ⟨pc 8 (x % 256), pc 8 (x / 256 % 256), pc 8 (x / 256 / 256 % 256), pc 8 (x / 256 / 256 / 256 % 256), pc_le 8 _, pc_le 8 _, pc_le 8 _, pc_le 8 _, rfl, ?_⟩
  rw [pc_32 x]; omega
theorem q_pop64 {S : CS} {x : Nat} {post : Int32 → Prop} (hx : x < 2 ^ 64) (h : post (nI (pc 64 x))) : p_J13_bitCount_95d88 S (lN x) post := by
  unfold p_J13_bitCount_95d88
  intro y1 e1 y2 e2 y3 e3 y4 e4 y5 e5 y6 e6
  have m5 : (6148914691236517205 : Int64) = lN (rp 0x55 8) := by decide
  have m3 : (3689348814741910323 : Int64) = lN (rp 0x33 8) := by decide
  have mf : (1085102592571150095 : Int64) = lN (rp 0x0f 8) := by decide
  have k1 : (1 : Int32) = nI 1 := rfl
  have k2 : (2 : Int32) = nI 2 := rfl
  have k4 : (4 : Int32) = nI 4 := rfl
  have k8 : (8 : Int32) = nI 8 := rfl
  have k16 : (16 : Int32) = nI 16 := rfl
  have k32 : (32 : Int32) = nI 32 := rfl
  have m127 : (127 : Int32) = nI 127 := rfl
  have hp := (pop_all 8 x hx).2
  have le1 : (x / 2) &&& rp 0x55 8 ≤ x := Nat.le_trans Nat.and_le_left (Nat.div_le_self _ _)
  have v1 : y1 = lN (pf1 8 x) := by
    rw [e1, k1, lx_ushr hx (by omega), m5, lx_and, Nat.pow_one, lN_sub le1]; rfl
  have l1 : pf1 8 x < 2 ^ 64 := Nat.lt_of_le_of_lt (Nat.sub_le _ _) hx
  have v2 : y2 = lN (pf2 8 (pf1 8 x)) := by
    rw [e2, v1, k2, lx_ushr l1 (by omega), m3, lx_and, lx_and, lN_add]; rfl
  have l2 : pf2 8 (pf1 8 x) < 2 ^ 64 := by
    have a1 : pf1 8 x &&& rp 0x33 8 ≤ rp 0x33 8 := Nat.and_le_right
    have a2 : (pf1 8 x / 4) &&& rp 0x33 8 ≤ rp 0x33 8 := Nat.and_le_right
    have a3 : rp 0x33 8 = 3689348814741910323 := rfl
    rw [a3] at a1 a2
    show (pf1 8 x &&& 3689348814741910323) + ((pf1 8 x / 4) &&& 3689348814741910323) < 2 ^ 64
    omega
  have v3 : y3 = lN (psp 8 x) := by
    rw [← hp, e3, v2, k4, lx_ushr l2 (by omega), mf, lN_add, lx_and]; rfl
  rw [psp8] at v3
  obtain ⟨u0, u1, u2, u3, a0, a1, a2, a3, hs, hc⟩ := psp4_u x
  obtain ⟨u4, u5, u6, u7, a4, a5, a6, a7, hs', hc'⟩ := psp4_u (x / 2 ^ 32)
  rw [hs, hs'] at v3
  rw [pc_64, hc, hc'] at h
  clear hp le1 v1 l1 v2 l2 e1 e2 e3 hs hs' hc hc' m5 m3 mf
  have w3 : y3 = lN (u0 + 256 * (u1 + 256 * (u2 + 256 * (u3 + 256 * (u4 + 256 * (u5 + 256 * (u6 + 256 * u7))))))) := by
    rw [v3]; exact congrArg lN (by omega)
  have w4 : y4 = lN ((u0 + u1) + 256 * ((u1 + u2) + 256 * ((u2 + u3) + 256 * ((u3 + u4) + 256 * ((u4 + u5) + 256 * ((u5 + u6) + 256 * ((u6 + u7) + 256 * u7))))))) := by
    rw [e4, w3, k8, lx_ushr (by omega) (by omega), lN_add]
    refine congrArg lN ?_
    generalize hz : (u2 + 256 * (u3 + 256 * (u4 + 256 * (u5 + 256 * (u6 + 256 * u7))))) = z
    have : (u0 + 256 * (u1 + 256 * z)) / 2 ^ 8 = u1 + 256 * z := by omega
    rw [this, ← hz]
    omega
  have w5 : y5 = lN ((u0 + u1 + u2 + u3) + 256 * ((u1 + u2 + u3 + u4) + 256 * ((u2 + u3 + u4 + u5) + 256 * ((u3 + u4 + u5 + u6) + 256 * ((u4 + u5 + u6 + u7) + 256 * ((u5 + u6 + u7) + 256 * ((u6 + u7) + 256 * u7))))))) := by
    rw [e5, w4, k16, lx_ushr (by omega) (by omega), lN_add]
    refine congrArg lN ?_
    generalize hz : ((u2 + u3) + 256 * ((u3 + u4) + 256 * ((u4 + u5) + 256 * ((u5 + u6) + 256 * ((u6 + u7) + 256 * u7))))) = z
    have : (u0 + u1 + 256 * (u1 + u2 + 256 * z)) / 2 ^ 16 = z := by omega
    rw [this, ← hz]
    omega
  have w6 : y6 = lN ((u0 + u1 + u2 + u3 + (u4 + u5 + u6 + u7)) + 256 * ((u1 + u2 + u3 + u4 + u5 + u6 + u7) + 256 * ((u2 + u3 + u4 + u5 + u6 + u7) + 256 * ((u3 + u4 + u5 + u6 + u7) + 256 * ((u4 + u5 + u6 + u7) + 256 * ((u5 + u6 + u7) + 256 * ((u6 + u7) + 256 * u7))))))) := by
    rw [e6, w5, k32, lx_ushr (by omega) (by omega), lN_add]
    refine congrArg lN ?_
    generalize hz : ((u4 + u5 + u6 + u7) + 256 * ((u5 + u6 + u7) + 256 * ((u6 + u7) + 256 * u7))) = z
    have : (u0 + u1 + u2 + u3 + 256 * (u1 + u2 + u3 + u4 + 256 * (u2 + u3 + u4 + u5 + 256 * (u3 + u4 + u5 + u6 + 256 * z)))) / 2 ^ 32 = z := by omega
    rw [this, ← hz]
    omega
  rw [w6, lN_i, m127, bx_and, show (127 : Nat) = 2 ^ 7 - 1 from rfl, Nat.and_two_pow_sub_one_eq_mod]
  generalize ((u1 + u2 + u3 + u4 + u5 + u6 + u7) + 256 * ((u2 + u3 + u4 + u5 + u6 + u7) + 256 * ((u3 + u4 + u5 + u6 + u7) + 256 * ((u4 + u5 + u6 + u7) + 256 * ((u5 + u6 + u7) + 256 * ((u6 + u7) + 256 * u7)))))) = z
  rw [show (u0 + u1 + u2 + u3 + (u4 + u5 + u6 + u7) + 256 * z) % 2 ^ 7 = u0 + u1 + u2 + u3 + (u4 + u5 + u6 + u7) by omega]
  exact h
