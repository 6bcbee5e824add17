/-! 41 SETTLE3: the numbers are settled by what is asked of them; the class's settle -/
def setSp (K : Nat) (pn tr de P P1 : Nat → Nat) (ip : Nat → Bool) (il ir : Nat → Nat) (ct : Nat → List Nat) (tmn : Nat → Nat) (n : Nat) : Prop :=
  ∀ k, k < n → nodeSp K pn tr de P ip il ir (ct k) (tmn k) k (P1 (2 * k)) (P1 (2 * k + 1)) ∧ invSp K pn tr de (2 * k) (P1 (2 * k + 1)) (P1 (2 * k)) (P (2 * k)) ∧ invSp K pn tr de (2 * k + 1) (P1 (2 * k)) (P1 (2 * k + 1)) (P (2 * k + 1))
theorem lfM_lt {m N j : Nat} (h : j < pc N m) : lfM m N j < N := by
  obtain ⟨i, h1, h2, h3⟩ := rank_ex N h
  rw [← h3, lfM_eq N i h1 h2]
  exact h1
theorem tmx_cg {P P' dq ap : Nat → Nat} : ∀ q, (∀ j, j < q → P (ap j) = P' (ap j)) → tmx P dq ap q = tmx P' dq ap q := by
  intro q
  induction q with
  | zero => intro _; rfl
  | succ q ih =>
    intro h
    show max (tmx P dq ap q) (P (ap q) / 2 ^ 23 + dq q) = max (tmx P' dq ap q) (P' (ap q) / 2 ^ 23 + dq q)
    rw [ih (fun j hj => h j (by omega)), h q (by omega)]
theorem ofv_cg {P P' de ap : Nat → Nat} {c p : Nat} (h : ∀ j, j < p → P (ap j) = P' (ap j)) : ofv P de c p ap = ofv P' de c p ap := by
  unfold ofv
  rw [tmx_cg p h]
  by_cases z : ∀ q, q < p → P (ap q) ≠ tp
  · rw [if_pos z, if_pos (fun q hq => by rw [← h q hq]; exact z q hq)]
  · rw [if_neg z, if_neg (fun y => z (fun q hq => by rw [h q hq]; exact y q hq))]
section S3
variable {K n : Nat} {pn tr de P P' P1 P1' : Nat → Nat} {ip : Nat → Bool} {il ir : Nat → Nat} {L : List Nat} {ct : Nat → List Nat} {tmn : Nat → Nat}
theorem of1_cg {b : Bool} {e y : Nat} (hn : n ≤ 32) (hL : ∀ m, m ∈ L → m < 2 ^ n ∧ pc 32 m ≤ 3) (he : e ≤ L.length) (h : ∀ l, l < 2 * n → P l = P' l) (q : of1 K pn tr de P ip il ir L n b e y) : of1 K pn tr de P' ip il ir L n b e y := by
  obtain ⟨j, h1, c, h2, h3, i, h4, h5, h6⟩ := q
  refine ⟨j, h1, c, h2, h3, i, h4, h5, ?_⟩
  rw [h6]
  have hm := hL _ (gD_mem (show j < L.length by omega))
  refine ofv_cg (fun q hq => h _ ?_)
  have h7 := lfA_lt _ (show pc 32 (L.getD j 0) < 4 by omega) i h4 q hq
  rw [← pc_32N hm.1 hn] at h7
  have h8 := lfM_lt h7
  have h9 := Bool.toNat_le (i.testBit q)
  rw [pc_32N hm.1 hn] at h8
  unfold apL
  omega
theorem nodeSp_cg {tm x0 x1 : Nat} (hn : n ≤ 32) (hc : ip n = false → isCuts ip (hf il) (hf ir) n L) (h : ∀ l, l < 2 * n → P l = P' l) (q : nodeSp K pn tr de P ip il ir L tm n x0 x1) : nodeSp K pn tr de P' ip il ir L tm n x0 x1 := by
  refine ⟨q.1, fun hi => ?_⟩
  have hL : ∀ m, m ∈ L → m < 2 ^ n ∧ pc 32 m ≤ 3 := fun m hm => ⟨(((hc hi).2 m).1 hm).1, (((hc hi).2 m).1 hm).2.1⟩
  have h' : ∀ l, l < 2 * n → P' l = P l := fun l hl => (h l hl).symm
  exact ⟨mn_cg (fun y => ⟨of1_cg hn hL (Nat.le_refl _) h, of1_cg hn hL (Nat.le_refl _) h'⟩) (q.2 hi).1, mn_cg (fun y => ⟨of1_cg hn hL (Nat.le_refl _) h, of1_cg hn hL (Nat.le_refl _) h'⟩) (q.2 hi).2⟩
theorem nodeSp_uq {tm x0 x1 y0 y1 : Nat} (q : nodeSp K pn tr de P ip il ir L tm n x0 x1) (r : nodeSp K pn tr de P ip il ir L tm n y0 y1) : x0 = y0 ∧ x1 = y1 := by
  cases hi : ip n with
  | true =>
    have a := q.1 hi
    have b := r.1 hi
    exact ⟨a.1.trans b.1.symm, a.2.trans b.2.symm⟩
  | false => exact ⟨mn_uq (q.2 hi).1 (r.2 hi).1, mn_uq (q.2 hi).2 (r.2 hi).2⟩
theorem setSp_uq : ∀ n, n ≤ 32 → (∀ k, k < n → ip k = false → isCuts ip (hf il) (hf ir) k (ct k)) → setSp K pn tr de P P1 ip il ir ct tmn n → setSp K pn tr de P' P1' ip il ir ct tmn n → ∀ l, l < 2 * n → P l = P' l ∧ P1 l = P1' l := by
  intro n
  induction n with
  | zero => intro _ _ _ _ l hl; exact absurd hl (by omega)
  | succ n ih =>
    intro hn hc h1 h2 l hl
    have hb := ih (by omega) (fun k hk => hc k (by omega)) (fun k hk => h1 k (by omega)) (fun k hk => h2 k (by omega))
    by_cases q : l < 2 * n
    · exact hb l q
    · obtain ⟨a1, a2, a3⟩ := h1 n (by omega)
      obtain ⟨b1, b2, b3⟩ := h2 n (by omega)
      have b1' := nodeSp_cg (show n ≤ 32 by omega) (hc n (by omega)) (fun l hl => (hb l hl).1) a1
      obtain ⟨e0, e1⟩ := nodeSp_uq b1' b1
      rw [← e0, ← e1] at b2 b3
      have f0 := mn_uq a2 b2
      have f1 := mn_uq a3 b3
      have hl2 : l = 2 * n ∨ l = 2 * n + 1 := by omega
      rcases hl2 with e | e
      · rw [e]; exact ⟨f0, e0⟩
      · rw [e]; exact ⟨f1, e1⟩
theorem setSp_up {z0 z1 x0 x1 : Nat} (hn : n < 32) (hc : ∀ k, k < n + 1 → ip k = false → isCuts ip (hf il) (hf ir) k (ct k)) (h : setSp K pn tr de P P1 ip il ir ct tmn n) (h1 : nodeSp K pn tr de P ip il ir (ct n) (tmn n) n x0 x1) (h2 : invSp K pn tr de (2 * n) x1 x0 z0) (h3 : invSp K pn tr de (2 * n + 1) x0 x1 z1) : setSp K pn tr de (updN (updN P (2 * n) z0) (2 * n + 1) z1) (updN (updN P1 (2 * n) x0) (2 * n + 1) x1) ip il ir ct tmn (n + 1) := by
  intro k hk
  have eP : ∀ l, l < 2 * k → P l = updN (updN P (2 * n) z0) (2 * n + 1) z1 l := fun l hl => by rw [un_n (by omega), un_n (by omega)]
  by_cases e : k = n
  · subst e
    rw [un_s, un_s, un_n (by omega : 2 * k ≠ 2 * k + 1), un_n (by omega : 2 * k ≠ 2 * k + 1), un_s, un_s]
    exact ⟨nodeSp_cg (by omega) (hc k (by omega)) eP h1, h2, h3⟩
  · obtain ⟨a1, a2, a3⟩ := h k (by omega)
    rw [un_n (by omega : 2 * k ≠ 2 * n + 1), un_n (by omega : 2 * k ≠ 2 * n), un_n (by omega : 2 * k + 1 ≠ 2 * n + 1), un_n (by omega : 2 * k + 1 ≠ 2 * n), un_n (by omega : 2 * k ≠ 2 * n + 1), un_n (by omega : 2 * k ≠ 2 * n), un_n (by omega : 2 * k + 1 ≠ 2 * n + 1), un_n (by omega : 2 * k + 1 ≠ 2 * n)]
    exact ⟨nodeSp_cg (by omega) (hc k (by omega)) eP a1, a2, a3⟩
end S3
section S4
variable {S : CS} {K N s : Nat} {pn tr ar de P P1 : Nat → Nat} {ip : Nat → Bool} {il ir : Nat → Nat} {ct : Nat → List Nat} {tmn : Nat → Nat} {post : CS → Prop}
theorem q_settle (hS : cSh S K pn tr ar de) (hG : cG S ip il ir N) (hNC : cNC S = nI N) (hT : cT S ip il ir ct N) (ho : off ct N < 2 ^ 30) (hct : ∀ k, k < N → ip k = false → isCuts ip (hf il) (hf ir) k (ct k)) (hin : ∀ k, k < N → ip k = true → ∃ i, i < 8 ∧ cIN S k = nI i ∧ cIT S i = nI (tmn k) ∧ tmn k ≤ 1000)
    (hSE : cSE S = nI s) (hs : s ≤ N) (hP : ∀ l, l < 2 * s → cGA S l = lN (P l) ∧ gN (2000 * s) (P l)) (hsp : setSp K pn tr de P P1 ip il ir ct tmn s)
    (hp : ∀ S' P' P1', rsG S' = rsG S → (∀ l, l < 2 * N → cGA S' l = lN (P' l) ∧ gN (2000 * N) (P' l)) → setSp K pn tr de P' P1' ip il ir ct tmn N → post (cSE_s S' (nI N))) : p_X1_settle S post := by
  have hN := hG.1
  unfold p_X1_settle
  intro y1 e1
  rw [hSE] at e1
  subst e1
  unfold p_X1_settle_5
  refine ⟨fun S' x1 => ∃ (i : Nat) (P P1 : Nat → Nat), x1 = nI i ∧ i ≤ N ∧ rsG S' = rsG S ∧ (∀ l, l < 2 * i → cGA S' l = lN (P l) ∧ gN (2000 * i) (P l)) ∧ setSp K pn tr de P P1 ip il ir ct tmn i, fun _ x1 => N - x1.toNatClampNeg, ⟨s, P, P1, rfl, hs, rfl, hP, hsp⟩, ?_⟩
  rintro S' x1 ⟨i, P, P1, rfl, hi, a1, a2, a3⟩
  obtain ⟨_, q2, _, _, _, _, q7, _, _, q10, _⟩ := rsG_of a1
  unfold b_X1_settle_5
  rw [q2, hNC]
  refine c2 (nI_leI (by omega) (by omega)) (fun y => ?_) (fun y => ?_)
  · have : i = N := by omega
    subst this
    intro S3 e3
    rw [e3]
    exact hp S' P P1 a1 a2 a3
  · refine q_settleNode (rsG_Sh a1 hS) (rsG_G a1 hG) (show i < N by omega) (rsG_T a1 hT) ho (hct i (by omega)) (fun h => by rw [q7, q10]; exact hin i (by omega) h) a2 ?_
    intro S4 x0 x1 z0 z1 b1 b2 b3 b4 b5 b6 b7 b8 b9 b10 b11
    intro y5 e5
    refine ⟨⟨i + 1, _, _, by rw [e5, nI_1], by omega, b1.trans a1, fun l hl => ?_, setSp_up (by omega) (fun k hk => hct k (by omega)) a3 b9 b10 b11⟩, mu_up e5 (by omega) (by omega)⟩
    by_cases e1 : l = 2 * i + 1
    · rw [e1, un_s]; exact ⟨b4, b8⟩
    · rw [un_n e1]
      by_cases e2 : l = 2 * i
      · rw [e2, un_s]; exact ⟨b3, b7⟩
      · rw [un_n e2, b2 l (by omega)]
        have := a2 l (by omega)
        exact ⟨this.1, gN_mono this.2 (by omega)⟩
end S4
