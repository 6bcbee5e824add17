/-! 55 GST: what a settled number says: has it a gate, which cell, which literals at the pins -/
def plI (ip : Nat → Bool) (l : Nat) : Bool := decide (l % 2 = 0) && ip (l / 2)
def hgP (ip : Nat → Bool) (P : Nat → Nat) (l : Nat) : Bool := decide (P l ≠ tp) && !plI ip l
def ceP (P : Nat → Nat) (l : Nat) : Nat := P l / 2 ^ 18 % 16
def tnP (P : Nat → Nat) (l : Nat) : Nat := P l / 2 ^ 22 % 2
def piP (P : Nat → Nat) (l q : Nat) : Nat := P l / 2 ^ ((2 - q) * 6) % 64
/-- the gates point downwards; one of a node's two literals at most is by (2) -/
def gSt (N K : Nat) (pn : Nat → Nat) (ip : Nat → Bool) (P : Nat → Nat) : Prop :=
  ∀ l, l < 2 * N → hgP ip P l = true → ceP P l < K ∧ ((tnP P l = 0 ∧ ∀ q, q < pn (ceP P l) → piP P l q / 2 < l / 2 ∧ P (piP P l q) ≠ tp) ∨ (tnP P l = 1 ∧ pn (ceP P l) = 1 ∧ piP P l 0 = l ^^^ 1 ∧ P (l ^^^ 1) ≠ tp ∧ (hgP ip P (l ^^^ 1) = true → tnP P (l ^^^ 1) = 0)))
theorem pkx_dec {ap : Nat → Nat} {p : Nat} (hp : p ≤ 3) (h : ∀ q, q < p → ap q < 64) : ∀ q, q < p → ∀ A, (A * 2 ^ 18 + pkx ap p) / 2 ^ ((2 - q) * 6) % 64 = ap q := by
  intro q hq A
  have hc : p = 0 ∨ p = 1 ∨ p = 2 ∨ p = 3 := by omega
  rcases hc with e | e | e | e
  · omega
  · subst e
    have a0 := h 0 (by omega)
    have : q = 0 := by omega
    subst this
    show (A * 262144 + (0 + ap 0 * 4096)) / 4096 % 64 = ap 0
    omega
  · subst e
    have a0 := h 0 (by omega)
    have a1 := h 1 (by omega)
    have : q = 0 ∨ q = 1 := by omega
    rcases this with e | e
    · subst e
      show (A * 262144 + (0 + ap 0 * 4096 + ap 1 * 64)) / 4096 % 64 = ap 0
      omega
    · subst e
      show (A * 262144 + (0 + ap 0 * 4096 + ap 1 * 64)) / 64 % 64 = ap 1
      omega
  · subst e
    have a0 := h 0 (by omega)
    have a1 := h 1 (by omega)
    have a2 := h 2 (by omega)
    have : q = 0 ∨ q = 1 ∨ q = 2 := by omega
    rcases this with e | e | e
    · subst e
      show (A * 262144 + (0 + ap 0 * 4096 + ap 1 * 64 + ap 2 * 1)) / 4096 % 64 = ap 0
      omega
    · subst e
      show (A * 262144 + (0 + ap 0 * 4096 + ap 1 * 64 + ap 2 * 1)) / 64 % 64 = ap 1
      omega
    · subst e
      show (A * 262144 + (0 + ap 0 * 4096 + ap 1 * 64 + ap 2 * 1)) / 1 % 64 = ap 2
      omega
theorem num_dec {P ap : Nat → Nat} {l t b c p : Nat} (e : P l = t * 2 ^ 23 + b * 2 ^ 22 + c * 2 ^ 18 + pkx ap p) (hb : b < 2) (hc : c < 16) (hp : p ≤ 3) (h : ∀ q, q < p → ap q < 64) : ceP P l = c ∧ tnP P l = b ∧ (∀ q, q < p → piP P l q = ap q) ∧ P l / 2 ^ 23 = t := by
  have hk := pkx_lt' hp h
  unfold ceP tnP piP
  rw [e]
  refine ⟨by omega, by omega, fun q hq => ?_, by omega⟩
  have := pkx_dec hp h q hq (t * 2 ^ 5 + b * 2 ^ 4 + c)
  rw [show (t * 2 ^ 5 + b * 2 ^ 4 + c) * 2 ^ 18 = t * 2 ^ 23 + b * 2 ^ 22 + c * 2 ^ 18 by omega] at this
  exact this
section GS
variable {K N k l : Nat} {pn tr de P P1 : Nat → Nat} {ip : Nat → Bool} {il ir : Nat → Nat} {ct : Nat → List Nat} {tmn : Nat → Nat}
theorem hg_iff : hgP ip P l = true ↔ P l ≠ tp ∧ plI ip l = false := by
  unfold hgP
  rw [Bool.and_eq_true, decide_eq_true_iff, Bool.not_eq_true']
/-- an offer by a cut's leaves -/
def unT (K : Nat) (pn P : Nat → Nat) (k x : Nat) : Prop := ∃ (t c : Nat) (ap : Nat → Nat), x = t * 2 ^ 23 + c * 2 ^ 18 + pkx ap (pn c) ∧ c < K ∧ ∀ q, q < pn c → ap q / 2 < k ∧ ap q < 64 ∧ P (ap q) ≠ tp
theorem of1_unT {L : List Nat} {b : Bool} {x : Nat} (hk : k < 32) (hpn : ∀ c, c < K → pn c ≤ 3) (hc : isCuts ip (hf il) (hf ir) k L) (h : of1 K pn tr de P ip il ir L k b L.length x) (hx : x ≠ tp) : unT K pn P k x := by
  obtain ⟨j, hj, c, hcK, hpc, i, hi, _, e⟩ := h
  have hm := (hc.2 (L.getD j 0)).1 (gD_mem hj)
  unfold ofv at e
  by_cases z : ∀ q, q < pc 32 (L.getD j 0) → P (apL (lfM (L.getD j 0) k) (pc 32 (L.getD j 0)) i q) ≠ tp
  · rw [if_pos z] at e
    refine ⟨_, c, apL (lfM (L.getD j 0) k) (pc 32 (L.getD j 0)) i, by rw [hpc]; exact e, hcK, fun q hq => ?_⟩
    rw [hpc] at hq
    have hlf := lfA_lt _ (by omega) i hi q hq
    have hl : lfM (L.getD j 0) k (lfA (pc 32 (L.getD j 0)) i q) < k := lfM_lt (by rw [pc_32N hm.1 (by omega)]; exact hlf)
    have hb := Bool.toNat_le (i.testBit q)
    refine ⟨?_, ?_, z q hq⟩
    · unfold apL; omega
    · unfold apL; omega
  · rw [if_neg z] at e; exact absurd e hx
theorem unT_low {x : Nat} (hK : K ≤ 12) (hpn : ∀ c, c < K → pn c ≤ 3) (h : unT K pn P k x) : x % 2 ^ 23 < 2 ^ 22 := by
  obtain ⟨t, c, ap, e, hc, h⟩ := h
  have := pkx_lt' (hpn c hc) (fun q hq => (h q hq).2.1)
  omega
theorem node_x {L : List Nat} {tm x0 x1 : Nat} (hk : k < 32) (hK : K ≤ 12) (hpn : ∀ c, c < K → pn c ≤ 3) (hc : ip k = false → isCuts ip (hf il) (hf ir) k L) (h : nodeSp K pn tr de P ip il ir L tm k x0 x1) :
    (ip k = false → (x0 ≠ tp → unT K pn P k x0) ∧ (x1 ≠ tp → unT K pn P k x1)) ∧ (x0 ≠ tp → x0 % 2 ^ 23 < 2 ^ 22) ∧ (x1 ≠ tp → x1 % 2 ^ 23 < 2 ^ 22) ∧ (ip k = true → x1 = tp) := by
  have A : ip k = false → (x0 ≠ tp → unT K pn P k x0) ∧ (x1 ≠ tp → unT K pn P k x1) := fun hi => ⟨fun z => of1_unT hk hpn (hc hi) (((h.2 hi).1.1).resolve_left z) z, fun z => of1_unT hk hpn (hc hi) (((h.2 hi).2.1).resolve_left z) z⟩
  refine ⟨A, fun z => ?_, fun z => ?_, fun hi => (h.1 hi).2⟩
  · cases hi : ip k
    · exact unT_low hK hpn ((A hi).1 z)
    · rw [(h.1 hi).1]; omega
  · cases hi : ip k
    · exact unT_low hK hpn ((A hi).2 z)
    · exact absurd (h.1 hi).2 z
theorem inv_z {xo x z : Nat} (h : invSp K pn tr de l xo x z) (hz : z ≠ tp) : z = x ∨ (xo ≠ tp ∧ ∃ c, c < K ∧ pn c = 1 ∧ z = ivv de xo l c) := by
  rcases h.1 with e | e | e
  · exact absurd e hz
  · exact Or.inl e
  · obtain ⟨h1, c, h2, h3, _, h5⟩ := e
    exact Or.inr ⟨h1, c, h2, h3, h5⟩
/-- what is known of one literal l of a node, its fellow lo, their numbers before (2) x, xo and after z, zo -/
theorem lit_gate {l lo x xo z zo : Nat} (hl : l ^^^ 1 = lo) (hlo : lo < 64) (hk : l / 2 = k) (eP : P l = z) (eO : P lo = zo) (hK : K ≤ 12) (hpn : ∀ c, c < K → pn c ≤ 3)
    (hU : x ≠ tp → plI ip l = false → unT K pn P k x) (lx : x ≠ tp → x % 2 ^ 23 < 2 ^ 22) (lxo : xo ≠ tp → xo % 2 ^ 23 < 2 ^ 22) (h1 : invSp K pn tr de l xo x z) (h2 : invSp K pn tr de lo x xo zo) (hT : xo ≤ tp) (hg : hgP ip P l = true) :
    ceP P l < K ∧ ((tnP P l = 0 ∧ ∀ q, q < pn (ceP P l) → piP P l q / 2 < l / 2 ∧ P (piP P l q) ≠ tp) ∨ (tnP P l = 1 ∧ pn (ceP P l) = 1 ∧ piP P l 0 = l ^^^ 1 ∧ P (l ^^^ 1) ≠ tp ∧ (hgP ip P (l ^^^ 1) = true → tnP P (l ^^^ 1) = 0))) := by
  rw [hg_iff, eP] at hg
  rcases inv_z h1 hg.1 with e | ⟨e0, c, hc, hp1, e⟩
  · obtain ⟨t, c, ap, e1, hc, h⟩ := hU (e ▸ hg.1) hg.2
    obtain ⟨d1, d2, d3, _⟩ := num_dec (P := P) (l := l) (t := t) (b := 0) (c := c) (p := pn c) (ap := ap) (by rw [eP, e, e1]; omega) (by omega) (by omega) (hpn c hc) (fun q hq => (h q hq).2.1)
    refine ⟨by rw [d1]; exact hc, Or.inl ⟨d2, fun q hq => ?_⟩⟩
    rw [d1] at hq
    rw [d3 q hq, hk]
    exact ⟨(h q hq).1, (h q hq).2.2⟩
  · have e2 : z = (xo / 2 ^ 23 + de (3 * c)) * 2 ^ 23 + 1 * 2 ^ 22 + c * 2 ^ 18 + pkx (fun _ => lo) 1 := by
      rw [e]
      show (xo / 2 ^ 23 + de (3 * c)) * 2 ^ 23 + 2 ^ 22 + c * 2 ^ 18 + (l ^^^ 1) * 2 ^ 12 = (xo / 2 ^ 23 + de (3 * c)) * 2 ^ 23 + 1 * 2 ^ 22 + c * 2 ^ 18 + (0 + lo * 2 ^ 12)
      rw [hl]; omega
    obtain ⟨d1, d2, d3, _⟩ := num_dec (P := P) (l := l) (t := xo / 2 ^ 23 + de (3 * c)) (b := 1) (c := c) (p := 1) (ap := fun _ => lo) (by rw [eP, e2]) (by omega) (by omega) (by omega) (fun _ _ => hlo)
    have hzo : zo ≤ xo := h2.2.2 xo (Or.inl rfl)
    refine ⟨by rw [d1]; exact hc, Or.inr ⟨d2, by rw [d1]; exact hp1, by rw [d3 0 (by omega), hl], by rw [hl, eO]; intro q; exact e0 (by omega), fun hgo => ?_⟩⟩
    rw [hl] at hgo ⊢
    rw [hg_iff, eO] at hgo
    rcases inv_z h2 hgo.1 with f | ⟨f0, c', hc', _, f⟩
    · unfold tnP
      rw [eO, f]
      have := lxo e0
      omega
    · exfalso
      have a1 : z ≤ x := h1.2.2 x (Or.inl rfl)
      have a2 := lx f0
      have a3 := lxo e0
      unfold ivv at e f
      omega
theorem x1_lt {l N : Nat} (hl : l < 2 * N) (hN : N ≤ 32) : l ^^^ 1 < 2 * N ∧ (l ^^^ 1) / 2 = l / 2 := by
  have hn := x1_e (l / 2) (by omega)
  have : l = 2 * (l / 2) ∨ l = 2 * (l / 2) + 1 := by omega
  rcases this with e | e
  · have h := hn.1
    rw [← e] at h
    rw [h]; omega
  · have h := hn.2
    rw [← e] at h
    rw [h]; omega
theorem set_gSt (hN : N ≤ 32) (hK : K ≤ 12) (hpn : ∀ c, c < K → pn c ≤ 3) (hc : ∀ k, k < N → ip k = false → isCuts ip (hf il) (hf ir) k (ct k)) (htm : ∀ k, k < N → tmn k ≤ 1000) (h : setSp K pn tr de P P1 ip il ir ct tmn N) : gSt N K pn ip P := by
  intro l hl hg
  obtain ⟨s1, s2, s3⟩ := h (l / 2) (by omega)
  obtain ⟨n1, n2, n3, n4⟩ := node_x (by omega) hK hpn (hc (l / 2) (by omega)) s1
  have hx := x1_e (l / 2) (by omega)
  have hT : (1000 : Nat) * 2 ^ 23 ≤ tp := by decide
  have b0 : P1 (2 * (l / 2)) ≤ tp := by
    cases hi : ip (l / 2)
    · exact ((s1.2 hi).1).2.1
    · have e := (s1.1 hi).1
      rw [e]
      exact Nat.le_trans (Nat.mul_le_mul_right _ (htm (l / 2) (by omega))) hT
  have b1 : P1 (2 * (l / 2) + 1) ≤ tp := by
    cases hi : ip (l / 2)
    · exact ((s1.2 hi).2).2.1
    · rw [(s1.1 hi).2]; exact Nat.le_refl _
  have : l = 2 * (l / 2) ∨ l = 2 * (l / 2) + 1 := by omega
  rcases this with e | e
  · refine lit_gate (k := l / 2) (l := l) (lo := 2 * (l / 2) + 1) (x := P1 (2 * (l / 2))) (xo := P1 (2 * (l / 2) + 1)) (z := P (2 * (l / 2))) (zo := P (2 * (l / 2) + 1)) (by rw [e]; have := hx.1; rw [show 2 * (l / 2) / 2 = l / 2 by omega]; exact this) (by omega) rfl (by rw [← e]) rfl hK hpn (fun z hp => ?_) n2 n3 (by rw [← e] at s2 ⊢; exact s2) s3 b1 hg
    refine (n1 ?_).1 z
    unfold plI at hp
    rw [decide_eq_true (show l % 2 = 0 by omega), Bool.true_and] at hp
    exact hp
  · refine lit_gate (k := l / 2) (l := l) (lo := 2 * (l / 2)) (x := P1 (2 * (l / 2) + 1)) (xo := P1 (2 * (l / 2))) (z := P (2 * (l / 2) + 1)) (zo := P (2 * (l / 2))) (by rw [e]; have := hx.2; rw [show (2 * (l / 2) + 1) / 2 = l / 2 by omega]; exact this) (by omega) rfl (by rw [← e]) rfl hK hpn (fun z hp => ?_) n3 n2 (by rw [← e] at s3 ⊢; exact s3) s2 b0 hg
    cases hi : ip (l / 2)
    · exact (n1 hi).2 z
    · exact absurd (n4 hi) z
end GS
