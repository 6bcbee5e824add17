/-! 64 MAPPED: what comes of a literal by the gates, both sides -/
/-- the value by gates, to a depth -/
def gvF (ip : Nat → Bool) (nb tr pn P : Nat → Nat) (a : Nat) : Nat → Nat → Bool
  | 0, _ => false
  | d + 1, l => if plI ip l = true then a.testBit (nb (l / 2)) else (tr (ceP P l)).testBit (mk (pn (ceP P l)) (fun q => gvF ip nb tr pn P a d (piP P l q)))
def geq (ip : Nat → Bool) (nb tr pn P : Nat → Nat) (a : Nat) (V : Nat → Bool) (l : Nat) : Prop := (plI ip l = true → V l = a.testBit (nb (l / 2))) ∧ (hgP ip P l = true → V l = (tr (ceP P l)).testBit (mk (pn (ceP P l)) (fun q => V (piP P l q))))
section MP
variable {S : CS} {M : MS} {K N I O : Nat} {pn tr ar de P nb inN : Nat → Nat} {ip : Nat → Bool} {il ir : Nat → Nat} {a l : Nat} {V : Nat → Bool}
def msr (ip : Nat → Bool) (P : Nat → Nat) (l : Nat) : Nat := 2 * (l / 2) + if hgP ip P l = true ∧ tnP P l = 1 then 1 else 0
theorem msr_le : 2 * (l / 2) ≤ msr ip P l ∧ msr ip P l ≤ 2 * (l / 2) + 1 := by
  unfold msr
  by_cases z : hgP ip P l = true ∧ tnP P l = 1
  · rw [if_pos z]; omega
  · rw [if_neg z]; omega
theorem msr_pin {q : Nat} (hN : N ≤ 32) (hg : gSt N K pn ip P) (hl : l < 2 * N) (h : hgP ip P l = true) (hq : q < pn (ceP P l)) : piP P l q < 2 * N ∧ P (piP P l q) ≠ tp ∧ msr ip P (piP P l q) < msr ip P l := by
  have m1 := msr_le (ip := ip) (P := P) (l := l)
  rcases (hg l hl h).2 with g | g
  · have m2 := msr_le (ip := ip) (P := P) (l := piP P l q)
    obtain ⟨g1, g2⟩ := g.2 q hq
    exact ⟨by omega, g2, by omega⟩
  · obtain ⟨g0, g1, g2, g3, g4⟩ := g
    have : q = 0 := by omega
    subst this
    obtain ⟨x1, x2⟩ := x1_lt hl hN
    rw [g2]
    refine ⟨x1, g3, ?_⟩
    have c1 : ¬ (hgP ip P (l ^^^ 1) = true ∧ tnP P (l ^^^ 1) = 1) := by rintro ⟨b1, b2⟩; have := g4 b1; omega
    have c2 : hgP ip P l = true ∧ tnP P l = 1 := ⟨h, g0⟩
    unfold msr
    rw [if_pos c2, if_neg c1, x2]
    omega
theorem gv_st (hN : N ≤ 32) (hg : gSt N K pn ip P) : ∀ d l, l < 2 * N → P l ≠ tp → msr ip P l ≤ d → ∀ f f', d < f → d < f' → gvF ip nb tr pn P a f l = gvF ip nb tr pn P a f' l := by
  intro d
  induction d with
  | zero =>
    intro l hl hx hm f f' hf hf'
    obtain ⟨f, rfl⟩ : ∃ g, f = g + 1 := ⟨f - 1, by omega⟩
    obtain ⟨f', rfl⟩ : ∃ g, f' = g + 1 := ⟨f' - 1, by omega⟩
    unfold gvF
    by_cases z : plI ip l = true
    · rw [if_pos z, if_pos z]
    · rw [if_neg z, if_neg z]
      rw [Bool.not_eq_true] at z
      have hh : hgP ip P l = true := hg_iff.2 ⟨hx, z⟩
      rw [mk_ext (fun q hq => absurd (msr_pin hN hg hl hh hq).2.2 (by omega))]
  | succ d ih =>
    intro l hl hx hm f f' hf hf'
    obtain ⟨f, rfl⟩ : ∃ g, f = g + 1 := ⟨f - 1, by omega⟩
    obtain ⟨f', rfl⟩ : ∃ g, f' = g + 1 := ⟨f' - 1, by omega⟩
    unfold gvF
    by_cases z : plI ip l = true
    · rw [if_pos z, if_pos z]
    · rw [if_neg z, if_neg z]
      rw [Bool.not_eq_true] at z
      have hh : hgP ip P l = true := hg_iff.2 ⟨hx, z⟩
      rw [mk_ext (fun q hq => ?_)]
      obtain ⟨p1, p2, p3⟩ := msr_pin hN hg hl hh hq
      exact ih _ p1 p2 (by omega) f f' (by omega) (by omega)
theorem gv_ex (hN : N ≤ 32) (hg : gSt N K pn ip P) : ∃ V, ∀ l, l < 2 * N → geq ip nb tr pn P a V l := by
  refine ⟨gvF ip nb tr pn P a 100, fun l hl => ⟨fun z => ?_, fun z => ?_⟩⟩
  · show gvF ip nb tr pn P a (99 + 1) l = _
    unfold gvF
    rw [if_pos z]
  · have hz := hg_iff.1 z
    have e : gvF ip nb tr pn P a 100 l = (tr (ceP P l)).testBit (mk (pn (ceP P l)) (fun q => gvF ip nb tr pn P a 99 (piP P l q))) := by
      show gvF ip nb tr pn P a (99 + 1) l = _
      rw [gvF, if_neg (by rw [hz.2]; decide)]
    rw [e, mk_ext (fun q hq => ?_)]
    obtain ⟨p1, p2, p3⟩ := msr_pin hN hg hl z hq
    have m := msr_le (ip := ip) (P := P) (l := piP P l q)
    exact gv_st hN hg 66 _ p1 p2 (by omega) 99 100 (by omega) (by omega)
theorem lx_bI {v k : Nat} (hv : v < 2 ^ 64) (hk : k < 64) : ((lushr (lN v) (nI k)) &&& (1 : Int64)).toInt32 = bI (v.testBit k) := by
  rw [lx_bit hv hk, lN_i]
  rfl
theorem mk_p {p : Nat} {f : Nat → Bool} (hp : p ≤ 3) : mk p f < 8 := Nat.lt_of_lt_of_le (mk_lt _ _) (p2_3 hp)
theorem q_gateValue {post : Int32 → Prop} {v : Nat} (hG : cG S ip il ir N) (hI : cIp S N I ip nb) (hS : cGt S N P) (hh : cSh S K pn tr ar de) (hg : gSt N K pn ip P) (hl : l < 2 * N) (ha : a < 2 ^ 32) (hv : v < 2 ^ 64)
    (hV : geq ip nb tr pn P a V l) (hpin : hgP ip P l = true → ∀ q, q < pn (ceP P l) → v.testBit (piP P l q) = V (piP P l q)) (hp : ∀ b, (P l ≠ tp → b = V l) → post (bI b)) : p_X1_gateValue S (lN v) (nI l) (nI a) post := by
  have hN := hG.1
  unfold p_X1_gateValue
  refine q_isPlainInput hG hl ?_
  refine c2 (bI_0 _) (fun z => ?_) (fun z => ?_)
  · refine q_isThere (by omega) (hS l hl).1 (hS l hl).2 (by omega) ?_
    refine c2n (bI_0 _) (fun y => ?_) (fun y => ?_)
    · rw [Bool.not_eq_false, decide_eq_true_iff] at y
      have hgl : hgP ip P l = true := hg_iff.2 ⟨y, z⟩
      have hc := (hg l hl hgl).1
      have hK := hh.2.1
      obtain ⟨c1, c2', c3, _⟩ := hh.2.2 _ hc
      refine q_cellOf hN hS hl y ?_
      unfold p_X1_gateValue_47
      refine ⟨fun x6 x7 => ∃ q, x6 = nI (mk q (fun q => V (piP P l q))) ∧ x7 = nI q ∧ q ≤ pn (ceP P l), fun _ x7 => pn (ceP P l) - x7.toNatClampNeg, ⟨0, rfl, rfl, by omega⟩, ?_⟩
      rintro x6 x7 ⟨q, rfl, rfl, hq⟩
      have m8 := mk_p (p := q) (f := fun q => V (piP P l q)) (by omega)
      unfold b_X1_gateValue_47
      rw [bx_cl (show ceP P l < 2 ^ 31 by omega), c2', c3]
      refine ⟨bx_in (by omega) (by omega), ?_⟩
      refine c2 (nI_leI (by omega) (by omega)) (fun x => ?_) (fun x => ?_)
      · have : q = pn (ceP P l) := by omega
        subst this
        refine ⟨bx_in (by omega) (by omega), ?_⟩
        have ht : tr (ceP P l) < 256 := Nat.lt_of_lt_of_le c1.2.2 (p22_3 (by omega))
        rw [bx_sbit (by omega) (by omega)]
        exact hp _ (fun _ => (hV.2 hgl).symm)
      · refine q_pinLiteral hN hS hl y (by omega) ?_
        have p6 : piP P l q < 64 := Nat.mod_lt _ (by decide)
        intro y14 e14 y15 e15
        rw [lx_bI hv p6, bI_shl (by omega), bx_or, hpin hgl q (by omega)] at e14
        refine ⟨⟨q + 1, ?_, by rw [e15, nI_1], by omega⟩, mu_up e15 (by omega) (by omega)⟩
        rw [e14]
        exact congrArg nI (mk_or q (fun q => V (piP P l q)))
    · rw [decide_eq_false_iff_not, Classical.not_not] at y
      exact hp false (fun r => absurd y r)
  · rw [Bool.not_eq_false] at z
    rw [bx_half (by omega)]
    have hi : ip (l / 2) = true := by
      unfold plI at z
      rw [Bool.and_eq_true] at z
      exact z.2
    refine q_inputValue hI hN (by omega) hi ha ?_
    exact hp _ (fun _ => (hV.1 z).symm)
theorem or_bit {v b k : Nat} {g : Bool} : (v ||| (g.toNat * 2 ^ b)).testBit k = (v.testBit k || (g && decide (b = k))) := by
  rw [Nat.testBit_or]
  cases g
  · show (v.testBit k || (0 * 2 ^ b).testBit k) = _
    rw [Nat.zero_mul, Nat.zero_testBit]; rfl
  · show (v.testBit k || (1 * 2 ^ b).testBit k) = _
    rw [Nat.one_mul, Nat.testBit_two_pow]; rfl
theorem bI_l (b : Bool) : (bI b).toInt64 = lN b.toNat := nI_l (by have := Bool.toNat_le b; omega)
theorem or_64 {v b : Nat} {g : Bool} (hv : v < 2 ^ 64) (hb : b < 64) : v ||| (g.toNat * 2 ^ b) < 2 ^ 64 := by
  refine Nat.or_lt_two_pow hv ?_
  cases g
  · show 0 * 2 ^ b < _
    rw [Nat.zero_mul]; decide
  · show 1 * 2 ^ b < _
    rw [Nat.one_mul]; exact p2_64 hb
theorem q_gevaluate {post : Int32 → Prop} (hG : cG S ip il ir N) (hI : cIp S N I ip nb) (hS : cGt S N P) (hh : cSh S K pn tr ar de) (hg : gSt N K pn ip P) (hl : l < 2 * N) (hx : P l ≠ tp) (ha : a < 2 ^ 32)
    (hV : ∀ l, l < 2 * N → geq ip nb tr pn P a V l) (hp : post (bI (V l))) : p_X1_evaluate S (nI l) (nI a) post := by
  have hN := hG.1
  unfold p_X1_evaluate p_X1_evaluate_5
  refine ⟨fun x3 x5 => ∃ v n, x3 = lN v ∧ x5 = nI n ∧ n ≤ l / 2 + 1 ∧ v < 2 ^ 64 ∧ (∀ k, k < 2 * n → P k ≠ tp → v.testBit k = V k) ∧ ∀ k, 2 * n ≤ k → v.testBit k = false, fun _ x5 => (l / 2 + 1) - x5.toNatClampNeg, ⟨0, 0, rfl, rfl, by omega, by decide, fun k hk => absurd hk (by omega), fun k _ => Nat.zero_testBit k⟩, ?_⟩
  rintro x3 x5 ⟨v, n, rfl, rfl, hn, hv, h1, h2⟩
  unfold b_X1_evaluate_5
  rw [bx_half (by omega)]
  refine c2 (nI_ltI (by omega) (by omega)) (fun z => ?_) (fun z => ?_)
  · rw [lx_bI hv (by omega), h1 l (by omega) hx]
    exact hp
  · obtain ⟨b1, b2, b3, b4, b5, b6, b7⟩ := bs_x (ip := ip) (P := P) (n := n) (by omega)
    obtain ⟨d1, d2⟩ := bs_dn hN (show n < N by omega) hg
    refine q_baseLiteral hG hS (by omega) ?_
    refine q_gateValue hG hI hS hh hg (by omega) ha hv (hV _ (by omega)) (fun g q hq => ?_) (fun g1 hg1 => ?_)
    · obtain ⟨e1, e2⟩ := d1 g q hq
      exact h1 _ (by omega) e2
    · intro y6 e6
      rw [bI_l, lx_shl _ b1, lx_or] at e6
      subst e6
      have hv1 := or_64 (g := g1) hv b1
      rw [show (1 : Int32) = nI 1 from rfl, bx_xor]
      refine q_gateValue hG hI hS hh hg (by omega) ha hv1 (hV _ (by omega)) (fun g q hq => ?_) (fun g2 hg2 => ?_)
      · obtain ⟨e1, e2⟩ := d2 g q hq
        rw [or_bit]
        rcases e1 with e1 | e1
        · rw [decide_eq_false (by intro r; rw [← r] at e1; omega), Bool.and_false, Bool.or_false]
          exact h1 _ (by omega) e2
        · rw [e1] at e2 ⊢
          rw [h2 _ (by omega), hg1 e2, decide_eq_true rfl, Bool.and_true, Bool.false_or]
      · intro y9 e9 y10 e10
        rw [bI_l, lx_shl _ b3, lx_or] at e9
        refine ⟨⟨_, n + 1, e9, by rw [e10]; exact nI_1 n, by omega, or_64 hv1 b3, fun k hk hxk => ?_, fun k hk => ?_⟩, mu_up e10 (by omega) (by omega)⟩
        · rw [or_bit, or_bit]
          by_cases ek : k / 2 = n
          · rw [h2 k (by omega)]
            rcases b5 k ek with r | r
            · rw [r, decide_eq_true rfl, decide_eq_false b7, Bool.and_true, Bool.and_false, Bool.false_or, Bool.or_false]
              rw [r] at hxk
              exact hg1 hxk
            · rw [r, decide_eq_true rfl, decide_eq_false (fun q => b7 q.symm), Bool.and_true, Bool.and_false, Bool.false_or, Bool.false_or]
              rw [r] at hxk
              exact hg2 hxk
          · rw [decide_eq_false (by intro r; rw [← r] at ek; omega), decide_eq_false (by intro r; rw [← r] at ek; omega), Bool.and_false, Bool.and_false, Bool.or_false, Bool.or_false]
            exact h1 k (by omega) hxk
        · rw [or_bit, or_bit, h2 k (by omega), decide_eq_false (by intro r; rw [← r] at hk; omega), decide_eq_false (by intro r; rw [← r] at hk; omega), Bool.and_false, Bool.and_false]
          rfl
end MP
