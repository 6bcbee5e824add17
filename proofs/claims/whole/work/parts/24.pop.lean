/-! 24 POP: the ones of a number, as Integer.bitCount and Long.bitCount count them -/
def pc : Nat → Nat → Nat
  | 0, _ => 0
  | w + 1, x => (x.testBit w).toNat + pc w x
theorem pc_add (u w x : Nat) : pc (u + w) x = pc u x + pc w (x / 2 ^ u) := by
  induction w with
  | zero => rfl
  | succ w ih =>
    show (x.testBit (u + w)).toNat + pc (u + w) x = pc u x + (((x / 2 ^ u).testBit w).toNat + pc w (x / 2 ^ u))
    rw [ih, ← Nat.shiftRight_eq_div_pow, Nat.testBit_shiftRight]
    omega
theorem pc_congr {w x y : Nat} (h : ∀ i, i < w → x.testBit i = y.testBit i) : pc w x = pc w y := by
  induction w with
  | zero => rfl
  | succ w ih =>
    show (x.testBit w).toNat + pc w x = (y.testBit w).toNat + pc w y
    rw [h w (by omega), ih (fun i hi => h i (by omega))]
theorem pc_mod (w x : Nat) : pc w (x % 2 ^ w) = pc w x := pc_congr (fun i hi => by rw [Nat.testBit_mod_two_pow]; simp [hi])
theorem pc_le (w x : Nat) : pc w x ≤ w := by
  induction w with
  | zero => exact Nat.le_refl 0
  | succ w ih =>
    show (x.testBit w).toNat + pc w x ≤ w + 1
    have : (x.testBit w).toNat ≤ 1 := Bool.toNat_le _
    omega
theorem pc_byte : ∀ a, a < 256 → ((let b1 := a - ((a / 2) &&& 0x55); let b2 := (b1 &&& 0x33) + ((b1 / 4) &&& 0x33); (b1 < 256 ∧ b2 < 256 ∧ b2 / 16 ≤ 4 ∧ b2 % 16 ≤ 4) ∧ (b2 + b2 / 16) % 16 = pc 8 a)) := by decide +kernel
/-- the bytes of a mask that repeats -/
def rp (c : Nat) : Nat → Nat
  | 0 => 0
  | k + 1 => c + 256 * rp c k
theorem tb_cat {a q i : Nat} (ha : a < 256) : (a + 256 * q).testBit i = if i < 8 then a.testBit i else q.testBit (i - 8) := by
  have e : a + 256 * q = 2 ^ 8 * q + a := by omega
  rw [e, Nat.testBit_two_pow_mul_add q ha]
theorem pop_cut {a q m M s : Nat} (ha : a < 256) (hs : s ≤ 8) (hm : m < 2 ^ (8 - s)) : ((a + 256 * q) / 2 ^ s) &&& (m + 256 * M) = ((a / 2 ^ s) &&& m) + 256 * ((q / 2 ^ s) &&& M) := by
  have hm8 : m < 256 := Nat.lt_of_lt_of_le hm (Nat.pow_le_pow_right (by decide) (by omega) : 2 ^ (8 - s) ≤ 2 ^ 8)
  have h1 : (a / 2 ^ s) &&& m < 256 := Nat.lt_of_le_of_lt Nat.and_le_right hm8
  apply Nat.eq_of_testBit_eq
  intro i
  rw [Nat.testBit_and, tb_cat hm8, tb_cat h1, ← Nat.shiftRight_eq_div_pow, Nat.testBit_shiftRight, tb_cat ha]
  by_cases hi : i < 8
  · rw [if_pos hi, if_pos hi, Nat.testBit_and, ← Nat.shiftRight_eq_div_pow, Nat.testBit_shiftRight]
    by_cases hj : s + i < 8
    · rw [if_pos hj]
    · have hz : m.testBit i = false := Nat.testBit_lt_two_pow (Nat.lt_of_lt_of_le hm (Nat.pow_le_pow_right (by decide) (by omega)))
      rw [hz]; simp
  · rw [if_neg hi, if_neg hi, if_neg (by omega), Nat.testBit_and, ← Nat.shiftRight_eq_div_pow, Nat.testBit_shiftRight]
    have : s + i - 8 = s + (i - 8) := by omega
    rw [this]
def pf1 (k x : Nat) : Nat := x - ((x / 2) &&& rp 0x55 k)
def pf2 (k y : Nat) : Nat := (y &&& rp 0x33 k) + ((y / 4) &&& rp 0x33 k)
def pf3 (k z : Nat) : Nat := (z + z / 16) &&& rp 0x0f k
def psp : Nat → Nat → Nat
  | 0, _ => 0
  | k + 1, x => pc 8 (x % 256) + 256 * psp k (x / 256)
theorem pop_f1 {k a q : Nat} (ha : a < 256) : pf1 (k + 1) (a + 256 * q) = (a - ((a / 2) &&& 0x55)) + 256 * pf1 k q := by
  unfold pf1
  have e := pop_cut (a := a) (q := q) (m := 0x55) (M := rp 0x55 k) (s := 1) ha (by omega) (by decide)
  rw [Nat.pow_one] at e
  show a + 256 * q - ((a + 256 * q) / 2 &&& (0x55 + 256 * rp 0x55 k)) = _
  rw [e]
  have h1 : (a / 2) &&& 0x55 ≤ a := Nat.le_trans Nat.and_le_left (Nat.div_le_self _ _)
  have h2 : (q / 2) &&& rp 0x55 k ≤ q := Nat.le_trans Nat.and_le_left (Nat.div_le_self _ _)
  omega
theorem pop_f2 {k b q : Nat} (hb : b < 256) : pf2 (k + 1) (b + 256 * q) = ((b &&& 0x33) + ((b / 4) &&& 0x33)) + 256 * pf2 k q := by
  unfold pf2
  have e0 := pop_cut (a := b) (q := q) (m := 0x33) (M := rp 0x33 k) (s := 0) hb (by omega) (by decide)
  have e2 := pop_cut (a := b) (q := q) (m := 0x33) (M := rp 0x33 k) (s := 2) hb (by omega) (by decide)
  rw [Nat.pow_zero, Nat.div_one, Nat.div_one, Nat.div_one] at e0
  have e4 : (2 : Nat) ^ 2 = 4 := rfl
  rw [e4] at e2
  show ((b + 256 * q) &&& (0x33 + 256 * rp 0x33 k)) + ((b + 256 * q) / 4 &&& (0x33 + 256 * rp 0x33 k)) = _
  rw [e0, e2]
  omega
theorem pop_f3 {k b q : Nat} (hb : b < 256) (h1 : b / 16 ≤ 4) (h2 : b % 16 ≤ 4) (h3 : q % 16 ≤ 4) : pf3 (k + 1) (b + 256 * q) = (b + b / 16) % 16 + 256 * pf3 k q := by
  unfold pf3
  have e : b + 256 * q + (b + 256 * q) / 16 = (b + b / 16 + 16 * (q % 16)) + 256 * (q + q / 16) := by omega
  have hlt : b + b / 16 + 16 * (q % 16) < 256 := by omega
  have e0 := pop_cut (a := b + b / 16 + 16 * (q % 16)) (q := q + q / 16) (m := 0x0f) (M := rp 0x0f k) (s := 0) hlt (by omega) (by decide)
  rw [Nat.pow_zero, Nat.div_one, Nat.div_one, Nat.div_one] at e0
  show (b + 256 * q + (b + 256 * q) / 16) &&& (0x0f + 256 * rp 0x0f k) = _
  rw [e, e0]
  have e1 : (b + b / 16 + 16 * (q % 16)) &&& 0x0f = (b + b / 16 + 16 * (q % 16)) % 16 := Nat.and_two_pow_sub_one_eq_mod _ 4
  rw [e1]
  omega
theorem pop_all : ∀ (k x : Nat), x < 256 ^ k → pf2 k (pf1 k x) % 16 ≤ 4 ∧ pf3 k (pf2 k (pf1 k x)) = psp k x := by
  intro k
  induction k with
  | zero =>
    intro x hx
    have : x = 0 := by rw [Nat.pow_zero] at hx; omega
    subst this
    exact ⟨by decide, rfl⟩
  | succ k ih =>
    intro x hx
    have hq : x / 256 < 256 ^ k := by rw [Nat.pow_succ] at hx; exact Nat.div_lt_of_lt_mul (by rw [Nat.mul_comm]; exact hx)
    have ha : x % 256 < 256 := Nat.mod_lt _ (by decide)
    have ex : x = x % 256 + 256 * (x / 256) := by omega
    obtain ⟨⟨b1, b2, b3, b4⟩, b5⟩ := pc_byte (x % 256) ha
    obtain ⟨i1, i2⟩ := ih (x / 256) hq
    have e1 : pf1 (k + 1) x = (x % 256 - ((x % 256 / 2) &&& 0x55)) + 256 * pf1 k (x / 256) := by
      conv => lhs; rw [ex]
      exact pop_f1 ha
    have e2 := pop_f2 (k := k) (q := pf1 k (x / 256)) b1
    rw [e1, e2]
    refine ⟨?_, ?_⟩
    · generalize (x % 256 - (x % 256 / 2 &&& 85) &&& 51) + ((x % 256 - (x % 256 / 2 &&& 85)) / 4 &&& 51) = z at b4 ⊢
      generalize pf2 k (pf1 k (x / 256)) = w
      omega
    · rw [pop_f3 b2 b3 b4 i1, b5, i2]
      rfl
theorem pc_step (k x : Nat) : pc (8 + k) x = pc 8 (x % 256) + pc k (x / 256) := by
  have h : pc 8 (x % 256) = pc 8 x := pc_mod 8 x
  rw [h]
  exact pc_add 8 k x
theorem pc_32 (x : Nat) : pc 32 x = pc 8 (x % 256) + (pc 8 (x / 256 % 256) + (pc 8 (x / 256 / 256 % 256) + (pc 8 (x / 256 / 256 / 256 % 256) + 0))) := by
  have a := pc_step 24 x
  have b := pc_step 16 (x / 256)
  have c := pc_step 8 (x / 256 / 256)
  have d := pc_step 0 (x / 256 / 256 / 256)
  have e : pc 0 (x / 256 / 256 / 256 / 256) = 0 := rfl
  rw [e] at d
  rw [← d, ← c, ← b, ← a]
theorem q_pop {S : CS} {x : Nat} {post : Int32 → Prop} (hx : x < 2 ^ 32) (h : post (nI (pc 32 x))) : p_J6_bitCount_0f7a4 S (nI x) post := by
  unfold p_J6_bitCount_0f7a4
  intro y1 e1 y2 e2 y3 e3 y4 e4 y5 e5
  have m5 : (1431655765 : Int32) = nI (rp 0x55 4) := by decide
  have m3 : (858993459 : Int32) = nI (rp 0x33 4) := by decide
  have mf : (252645135 : Int32) = nI (rp 0x0f 4) := by decide
  have k1 : (1 : Int32) = nI 1 := rfl
  have k2 : (2 : Int32) = nI 2 := rfl
  have k4 : (4 : Int32) = nI 4 := rfl
  have k8 : (8 : Int32) = nI 8 := rfl
  have k16 : (16 : Int32) = nI 16 := rfl
  have m63 : (63 : Int32) = nI 63 := rfl
  have hp := (pop_all 4 x hx).2
  have le1 : (x / 2) &&& rp 0x55 4 ≤ x := Nat.le_trans Nat.and_le_left (Nat.div_le_self _ _)
  have v1 : y1 = nI (pf1 4 x) := by
    rw [e1, k1, bx_ushr hx (by omega), m5, bx_and, Nat.pow_one, pk_sub le1]; rfl
  have l1 : pf1 4 x < 2 ^ 32 := Nat.lt_of_le_of_lt (Nat.sub_le _ _) hx
  have v2 : y2 = nI (pf2 4 (pf1 4 x)) := by
    rw [e2, v1, k2, bx_ushr l1 (by omega), m3, bx_and, bx_and, nI_add]; rfl
  have l2 : pf2 4 (pf1 4 x) < 2 ^ 32 := by
    have a1 : pf1 4 x &&& rp 0x33 4 ≤ rp 0x33 4 := Nat.and_le_right
    have a2 : (pf1 4 x / 4) &&& rp 0x33 4 ≤ rp 0x33 4 := Nat.and_le_right
    have a3 : rp 0x33 4 = 858993459 := rfl
    rw [a3] at a1 a2
    show (pf1 4 x &&& 858993459) + ((pf1 4 x / 4) &&& 858993459) < 2 ^ 32
    omega
  have v3 : y3 = nI (psp 4 x) := by
    rw [← hp, e3, v2, k4, bx_ushr l2 (by omega), mf, nI_add, bx_and]; rfl
  have t0 := pc_le 8 (x % 256)
  have t1 := pc_le 8 (x / 256 % 256)
  have t2 := pc_le 8 (x / 256 / 256 % 256)
  have t3 := pc_le 8 (x / 256 / 256 / 256 % 256)
  have hs : psp 4 x = pc 8 (x % 256) + 256 * (pc 8 (x / 256 % 256) + 256 * (pc 8 (x / 256 / 256 % 256) + 256 * (pc 8 (x / 256 / 256 / 256 % 256) + 256 * 0))) := rfl
  have hc := pc_32 x
  generalize pc 8 (x % 256) = u0 at *
  generalize pc 8 (x / 256 % 256) = u1 at *
  generalize pc 8 (x / 256 / 256 % 256) = u2 at *
  generalize pc 8 (x / 256 / 256 / 256 % 256) = u3 at *
  rw [hs] at v3
  clear hp le1 v1 l1 v2 l2 e1 e2 e3
  have v4 : y4 = nI ((u0 + 256 * (u1 + 256 * (u2 + 256 * (u3 + 256 * 0)))) + (u0 + 256 * (u1 + 256 * (u2 + 256 * (u3 + 256 * 0)))) / 2 ^ 8) := by
    rw [e4, v3, k8, bx_ushr (by omega) (by omega), nI_add]
  have v5 : y5 = nI (((u0 + 256 * (u1 + 256 * (u2 + 256 * (u3 + 256 * 0)))) + (u0 + 256 * (u1 + 256 * (u2 + 256 * (u3 + 256 * 0)))) / 2 ^ 8) + ((u0 + 256 * (u1 + 256 * (u2 + 256 * (u3 + 256 * 0)))) + (u0 + 256 * (u1 + 256 * (u2 + 256 * (u3 + 256 * 0)))) / 2 ^ 8) / 2 ^ 16) := by
    rw [e5, v4, k16, bx_ushr (by omega) (by omega), nI_add]
  rw [v5, m63, bx_and, show (63 : Nat) = 2 ^ 6 - 1 from rfl, Nat.and_two_pow_sub_one_eq_mod]
  have e : (((u0 + 256 * (u1 + 256 * (u2 + 256 * (u3 + 256 * 0)))) + (u0 + 256 * (u1 + 256 * (u2 + 256 * (u3 + 256 * 0)))) / 2 ^ 8) + ((u0 + 256 * (u1 + 256 * (u2 + 256 * (u3 + 256 * 0)))) + (u0 + 256 * (u1 + 256 * (u2 + 256 * (u3 + 256 * 0)))) / 2 ^ 8) / 2 ^ 16) % 2 ^ 6 = pc 32 x := by
    have a1 : (u0 + 256 * (u1 + 256 * (u2 + 256 * (u3 + 256 * 0)))) / 2 ^ 8 = u1 + 256 * (u2 + 256 * u3) := by omega
    rw [hc, a1]
    have a2 : (u0 + 256 * (u1 + 256 * (u2 + 256 * (u3 + 256 * 0))) + (u1 + 256 * (u2 + 256 * u3))) / 2 ^ 16 = u2 + u3 + 256 * u3 := by omega
    rw [a2]
    omega
  rw [e]
  exact h
