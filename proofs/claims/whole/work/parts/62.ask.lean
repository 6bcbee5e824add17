/-! 62 ASK: run, wanted, area, worst of both sides, once settled -/
theorem pc_cn (x : Nat) : ∀ n, pc n x = cnW x.testBit n
  | 0 => rfl
  | n + 1 => by
    show (x.testBit n).toNat + pc n x = cnW x.testBit n + (x.testBit n).toNat
    rw [pc_cn x n]; omega
theorem cnW_top {w : Nat → Bool} {n : Nat} (h : ∀ l, n ≤ l → w l = false) : ∀ d, cnW w (n + d) = cnW w n
  | 0 => rfl
  | d + 1 => by
    show cnW w (n + d) + (w (n + d)).toNat = cnW w n
    rw [cnW_top h d, h (n + d) (by omega)]
    rfl
theorem cnW_mono {w : Nat → Bool} {a : Nat} : ∀ b, a ≤ b → cnW w a ≤ cnW w b
  | 0, h => by have : a = 0 := by omega
               subst this; exact Nat.le_refl _
  | b + 1, h => by
    by_cases e : a = b + 1
    · subst e; exact Nat.le_refl _
    · have := cnW_mono (w := w) (a := a) b (by omega)
      show cnW w a ≤ cnW w b + (w b).toNat
      omega
theorem cnW_s1 {w : Nat → Bool} {l : Nat} (h : w l = true) : cnW w (l + 1) = cnW w l + 1 := by
  show cnW w l + (w l).toNat = _
  rw [h]; rfl
theorem cnW_s0 {w : Nat → Bool} {l : Nat} (h : w l = false) : cnW w (l + 1) = cnW w l := by
  show cnW w l + (w l).toNat = _
  rw [h]; rfl
def isK (w : Nat → Bool) (k n : Nat) (r : Int32) : Prop := (∃ l, l < n ∧ w l = true ∧ cnW w l = k ∧ r = nI l) ∨ ((∀ l, l < n → w l = true → cnW w l ≠ k) ∧ r = (-1 : Int32))
theorem isK_uq {w : Nat → Bool} {k n : Nat} {r r' : Int32} (h : isK w k n r) (h' : isK w k n r') : r = r' := by
  rcases h with ⟨l, a1, a2, a3, a4⟩ | ⟨a1, a2⟩
  · rcases h' with ⟨l', b1, b2, b3, b4⟩ | ⟨b1, b2⟩
    · have c1 := cnW_s1 a2
      have c2 := cnW_s1 b2
      have : l = l' := by
        rcases Nat.lt_trichotomy l l' with q | q | q
        · have := cnW_mono (w := w) (a := l + 1) l' (by omega); omega
        · exact q
        · have := cnW_mono (w := w) (a := l' + 1) l (by omega); omega
      rw [a4, b4, this]
    · exact absurd a3 (b1 l a1 a2)
  · rcases h' with ⟨l', b1, b2, b3, b4⟩ | ⟨b1, b2⟩
    · exact absurd b3 (a1 l' b1 b2)
    · rw [a2, b2]
def arW (ar ce : Nat → Nat) (w : Nat → Bool) : Nat → Nat
  | 0 => 0
  | n + 1 => arW ar ce w n + if w n = true then ar (ce n) else 0
def wmx (P ol : Nat → Nat) : Nat → Nat
  | 0 => 0
  | k + 1 => max (wmx P ol k) (P (ol k) / 2 ^ 23)
/-- the wanted literals, none where an output doesn't arrive -/
def wEf (O : Nat) (ol : Nat → Nat) (ip : Nat → Bool) (pn P : Nat → Nat) (w : Nat → Bool) : Prop := ((∃ k, k < O ∧ P (ol k) = tp) ∧ ∀ l, w l = false) ∨ ((∀ j, j < O → P (ol j) ≠ tp) ∧ ∀ l, w l = true ↔ Wt (outA O ol) ip pn P l)
section AK
variable {S : CS} {M : MS} {K N O : Nat} {pn tr ar de P ol : Nat → Nat} {ip : Nat → Bool} {il ir : Nat → Nat} {w : Nat → Bool}
theorem wEf_uq {w' : Nat → Bool} (h : wEf O ol ip pn P w) (h' : wEf O ol ip pn P w') : w = w' := by
  funext l
  rcases h with ⟨⟨k, a1, a2⟩, a3⟩ | ⟨a1, a2⟩
  · rcases h' with ⟨_, b3⟩ | ⟨b1, _⟩
    · rw [a3, b3]
    · exact absurd a2 (b1 k a1)
  · rcases h' with ⟨⟨k, b1, b2⟩, _⟩ | ⟨_, b2⟩
    · exact absurd b2 (a1 k b1)
    · exact Bool.eq_iff_iff.2 ((a2 l).trans (b2 l).symm)
theorem wEf_lt (hN : N ≤ 32) (hg : gSt N K pn ip P) (hO : ∀ j, j < O → ol j < 2 * N) (h : wEf O ol ip pn P w) {l : Nat} (hw : w l = true) : l < 2 * N ∧ hgP ip P l = true ∧ ceP P l < K := by
  rcases h with ⟨_, a⟩ | ⟨_, a⟩
  · rw [a l] at hw; cases hw
  · obtain ⟨b1, b2⟩ := Wt_lt hN hg (fun l ⟨j, b, e⟩ => by rw [← e]; exact hO j b) ((a l).1 hw)
    exact ⟨b1, b2, (hg l b1 b2).1⟩
def cWn (S : CS) (N K O : Nat) (pn tr ar de : Nat → Nat) (ip : Nat → Bool) (il ir : Nat → Nat) (P ol : Nat → Nat) : Prop := cG S ip il ir N ∧ cNC S = nI N ∧ cOu S N O ol ∧ cGt S N P ∧ cSh S K pn tr ar de ∧ gSt N K pn ip P
theorem q_wl {post : Int64 → Prop} (h : cWn S N K O pn tr ar de ip il ir P ol) (hp : ∀ (v : Nat) (w : Nat → Bool), v < 2 ^ 64 → (∀ l, v.testBit l = w l) → wEf O ol ip pn P w → post (lN v)) : p_X5_wantedLiterals S post := by
  obtain ⟨hG, hNC, hO, hS, hh, hg⟩ := h
  exact q_wantedLiterals hG hNC hO hS hh hg (fun k a b _ => hp 0 (fun _ => false) (by decide) (fun l => Nat.zero_testBit l) (Or.inl ⟨⟨k, a, b⟩, fun _ => rfl⟩)) (fun v a hv b => hp v v.testBit hv (fun _ => rfl) (Or.inr ⟨a, b⟩))
theorem q_run1 {post : Int32 → Prop} (h : cWn S N K O pn tr ar de ip il ir P ol)
    (hp1 : ∀ k, k < O → P (ol k) = tp → (∀ j, j < k → P (ol j) ≠ tp) → post ((-1 : Int32) - nI k)) (hp : ∀ (w : Nat → Bool), (∀ j, j < O → P (ol j) ≠ tp) → wEf O ol ip pn P w → post (nI (cnW w (2 * N)))) :
    p_X5_firstOutputNotArriving S (fun r2 => (¬ r2 = (-1 : Int32) → (post ((-1 : Int32) - r2))) ∧ (r2 = (-1 : Int32) → (p_X5_wantedLiterals S (fun r5 => p_J13_bitCount_95d88 S r5 (fun r7 => post r7))))) := by
  obtain ⟨hG, hNC, hO, hS, hh, hg⟩ := id h
  have hN := hG.1
  have hO6 := hO.1
  refine q_fona hN hO hS (fun k hk a b => ⟨fun _ => hp1 k hk a b, fun r => absurd r (nI_m1 (by omega))⟩) (fun a => ⟨fun r => absurd rfl r, fun _ => ?_⟩)
  refine q_wl h (fun v w hv e hw => q_pop64 hv ?_)
  have e1 : pc 64 v = cnW w (2 * N) := by
    rw [pc_cn, cnW_cg 64 (fun l _ => e l), show 64 = 2 * N + (64 - 2 * N) by omega]
    exact cnW_top (fun l hl => by
      cases z : w l
      · rfl
      · exact absurd (wEf_lt hN hg (fun j hj => (hO.2.2 j hj).2) hw z).1 (by omega)) _
  rw [e1]
  exact hp w a hw
theorem q_wanted1 {post : Int32 → CS → Prop} {px : String → CS → Prop} {k v : Nat} (h : cWn S N K O pn tr ar de ip il ir P ol) (hv : v < 2 ^ 64) (e : ∀ l, v.testBit l = w l) (hk : k < 2 ^ 31) (hp : ∀ r, isK w k (2 * N) r → post r S) : p_X5_wanted_30 S (nI k) (lN v) (0 : Int32) (0 : Int32) post px := by
  obtain ⟨hG, hNC, _⟩ := h
  have hN := hG.1
  unfold p_X5_wanted_30
  refine ⟨fun x4 x5 => ∃ l, x4 = nI (cnW w l) ∧ x5 = nI l ∧ l ≤ 2 * N ∧ ∀ j, j < l → w j = true → cnW w j ≠ k, fun _ x5 => 2 * N - x5.toNatClampNeg, ⟨0, rfl, rfl, by omega, fun j hj => absurd hj (by omega)⟩, ?_⟩
  rintro x4 x5 ⟨l, rfl, rfl, hl, hn⟩
  unfold b_X5_wanted_30
  have hc := cnW_le w l
  rw [hNC, show (2 : Int32) = nI 2 from rfl, pk_mul]
  refine c2 (nI_leI (by omega) (by omega)) (fun z => ?_) (fun z => ?_)
  · have : l = 2 * N := by omega
    subst this
    exact hp _ (Or.inr ⟨hn, rfl⟩)
  · refine c2n (lx_bit1 hv (by omega)) (fun y => ?_) (fun y => ?_)
    · rw [e l] at y
      rw [Bool.not_eq_true] at y
      intro y7 e7
      refine ⟨⟨l + 1, by rw [cnW_s0 y], by rw [e7, nI_1], by omega, fun j hj => ?_⟩, mu_up e7 (by omega) (by omega)⟩
      by_cases ej : j = l
      · rw [ej]; exact fun q => absurd (y.symm.trans q) (by decide)
      · exact hn j (by omega)
    · rw [e l] at y
      refine c2n (nI_eq (by omega) hk) (fun x => ?_) (fun x => ?_)
      · intro y9 e9 y10 e10
        refine ⟨⟨l + 1, by rw [e9, nI_1, cnW_s1 y], by rw [e10, nI_1], by omega, fun j hj => ?_⟩, mu_up e10 (by omega) (by omega)⟩
        by_cases ej : j = l
        · rw [ej]; exact fun _ => x
        · exact hn j (by omega)
      · exact hp _ (Or.inl ⟨l, by omega, y, x, rfl⟩)
theorem arW_le {ce : Nat → Nat} (h : ∀ l, w l = true → ar (ce l) ≤ 1000) : ∀ n, arW ar ce w n ≤ 1000 * n
  | 0 => Nat.le_refl _
  | n + 1 => by
    have := arW_le h n
    show arW ar ce w n + (if w n = true then ar (ce n) else 0) ≤ _
    by_cases z : w n = true
    · rw [if_pos z]; have := h n z; omega
    · rw [if_neg z]; omega
theorem q_area1 {post : Int32 → CS → Prop} {v : Nat} (h : cWn S N K O pn tr ar de ip il ir P ol) (hv : v < 2 ^ 64) (e : ∀ l, v.testBit l = w l) (hw : wEf O ol ip pn P w) (hp : post (nI (arW ar (ceP P) w (2 * N))) S) : p_X5_area_17 S (lN v) (0 : Int32) (0 : Int32) post := by
  obtain ⟨hG, hNC, hO, hS, hh, hg⟩ := h
  have hN := hG.1
  have hK := hh.2.1
  have hlt := fun l => wEf_lt (l := l) hN hg (fun j hj => (hO.2.2 j hj).2) hw
  unfold p_X5_area_17
  refine ⟨fun x3 x4 => ∃ l, x3 = nI (arW ar (ceP P) w l) ∧ x4 = nI l ∧ l ≤ 2 * N, fun _ x4 => 2 * N - x4.toNatClampNeg, ⟨0, rfl, rfl, by omega⟩, ?_⟩
  rintro x3 x4 ⟨l, rfl, rfl, hl⟩
  unfold b_X5_area_17
  rw [hNC, show (2 : Int32) = nI 2 from rfl, pk_mul]
  refine c2 (nI_leI (by omega) (by omega)) (fun z => ?_) (fun z => ?_)
  · have : l = 2 * N := by omega
    subst this
    exact hp
  · refine c2n (lx_bit1 hv (by omega)) (fun y => ?_) (fun y => ?_)
    · rw [e l] at y
      intro y6 e6
      refine ⟨⟨l + 1, ?_, by rw [e6, nI_1], by omega⟩, mu_up e6 (by omega) (by omega)⟩
      refine congrArg nI ?_
      show _ = arW ar (ceP P) w l + (if w l = true then ar (ceP P l) else 0)
      rw [if_neg y]; rfl
    · rw [e l] at y
      obtain ⟨y1, y2, y3⟩ := hlt l y
      obtain ⟨_, _, _, c4, _⟩ := hh.2.2 _ y3
      refine q_cellOf hN hS y1 (hg_iff.1 y2).1 ?_
      rw [bx_cl (show ceP P l < 2 ^ 31 by omega), c4]
      refine ⟨bx_in (by omega) (by omega), ?_⟩
      intro y10 e10 y11 e11
      refine ⟨⟨l + 1, ?_, by rw [e11, nI_1], by omega⟩, mu_up e11 (by omega) (by omega)⟩
      rw [e10, nI_add]
      refine congrArg nI ?_
      show _ = arW ar (ceP P) w l + (if w l = true then ar (ceP P l) else 0)
      rw [if_pos y]
theorem wmx_le {T : Nat} : ∀ k, (∀ j, j < k → P (ol j) / 2 ^ 23 ≤ T) → wmx P ol k ≤ T
  | 0, _ => Nat.zero_le _
  | k + 1, h => Nat.max_le.2 ⟨wmx_le k (fun j hj => h j (by omega)), h k (by omega)⟩
theorem q_worst1 {post : Int32 → CS → Prop} (h : cWn S N K O pn tr ar de ip il ir P ol) (ha : ∀ j, j < O → P (ol j) ≠ tp) (hp : post (nI (wmx P ol O)) S) : p_X5_worst_21 S (0 : Int32) (0 : Int32) post := by
  obtain ⟨hG, hNC, hO, hS, hh, hg⟩ := h
  have hN := hG.1
  obtain ⟨hO6, hOC, hOL⟩ := hO
  have hb : ∀ j, j < O → P (ol j) / 2 ^ 23 ≤ 2000 * N := fun j hj => gN_div (hS _ (hOL j hj).2).2 (ha j hj)
  unfold p_X5_worst_21
  refine ⟨fun x1 x2 => ∃ k, x1 = nI (wmx P ol k) ∧ x2 = nI k ∧ k ≤ O, fun _ x2 => O - x2.toNatClampNeg, ⟨0, rfl, rfl, by omega⟩, ?_⟩
  rintro x1 x2 ⟨k, rfl, rfl, hk⟩
  unfold b_X5_worst_21
  rw [hOC]
  refine c2 (nI_leI (by omega) (by omega)) (fun z => ?_) (fun z => ?_)
  · have : k = O := by omega
    subst this
    exact hp
  · obtain ⟨o1, o2⟩ := hOL k (by omega)
    rw [bx_cl (show k < 2 ^ 31 by omega), o1]
    refine ⟨bx_in (by omega) (by omega), ?_⟩
    refine q_timeOf (by omega) (hS _ o2).1 (hS _ o2).2 (by omega) ?_
    intro y9 e9 y10 e10
    have b1 := wmx_le k (fun j hj => hb j (by omega))
    have b2 := hb k (by omega)
    have et : tI (P (ol k)) = nI (P (ol k) / 2 ^ 23) := if_neg (ha k (by omega))
    refine ⟨⟨k + 1, ?_, by rw [e10, nI_1], by omega⟩, mu_up e10 (by omega) (by omega)⟩
    rw [e9, et]
    show _ = nI (max (wmx P ol k) (P (ol k) / 2 ^ 23))
    by_cases y : wmx P ol k < P (ol k) / 2 ^ 23
    · rw [if_pos (nI_lt y (by omega)), Nat.max_eq_right (by omega)]
    · rw [if_neg (nI_nlt (by omega) (by omega)), Nat.max_eq_left (by omega)]
/-! the reference -/
def isWd (M : MS) (r : Int32) (w : Nat → Bool) : Prop := ∀ l, l < 64 → ∀ pst : Int32 → Prop, pst (bI (w l)) → p_X6_isWanted M (nI l) r pst
theorem r_wantE {post : Int32 → MS → Prop} (h : mWn M N K O pn ip P ol)
    (hp : ∀ (f : Nat → Int32) (r : Int32) (w : Nat → Bool), wEf O ol ip pn P w → isWd (mWA_s M f) r w → ((∃ k, k < O ∧ P (ol k) = tp ∧ (∀ j, j < k → P (ol j) ≠ tp) ∧ r = nI k) ∨ ((∀ j, j < O → P (ol j) ≠ tp) ∧ r = (-1 : Int32))) → post r (mWA_s M f)) : p_X6_want_6 M (0 : Int32) post := by
  have hO := h.2.2.2.2.2.2.1
  refine r_want6 h (fun f k a b c => hp f (nI k) (fun _ => false) (Or.inl ⟨⟨k, a, b⟩, fun _ => rfl⟩) (fun l hl pst q => ⟨fun _ => q, fun r => absurd r (nI_m1 (by omega))⟩) (Or.inl ⟨k, a, b, c, rfl⟩)) (fun f w a b c => hp f (-1) w (Or.inr ⟨a, c⟩) (fun l hl pst q => ⟨fun r => absurd rfl r, fun _ => ⟨bx_in (by omega) (by omega), ?_⟩⟩) (Or.inr ⟨a, rfl⟩))
  rw [bx_cl (show l < 2 ^ 31 by omega), gs_mWA_WA, b l hl]
  refine c2 (bI_0 _) (fun z => ?_) (fun z => ?_)
  · rw [z] at q; exact q
  · rw [Bool.not_eq_false] at z; rw [z] at q; exact q
theorem r_run1 {post : Int32 → MS → Prop} {r : Int32} (hN : N ≤ 32) (hND : mND M = nI N) (hw : isWd M r w) (hp : (¬ r = (-1 : Int32) → post ((-1 : Int32) - r) M) ∧ (r = (-1 : Int32) → post (nI (cnW w (2 * N))) M)) : p_X6_run_14 M r (0 : Int32) (0 : Int32) post := by
  unfold p_X6_run_14
  refine ⟨fun x2 x3 => ∃ l, x2 = nI (cnW w l) ∧ x3 = nI l ∧ l ≤ 2 * N, fun _ x3 => 2 * N - x3.toNatClampNeg, ⟨0, rfl, rfl, by omega⟩, ?_⟩
  rintro x2 x3 ⟨l, rfl, rfl, hl⟩
  unfold b_X6_run_14
  rw [hND, show (2 : Int32) = nI 2 from rfl, pk_mul]
  refine c2 (nI_leI (by omega) (by omega)) (fun z => ?_) (fun z => ?_)
  · have : l = 2 * N := by omega
    subst this
    exact hp
  · refine hw l (by omega) _ ?_
    refine c2 (bI_0 _) (fun y => ?_) (fun y => ?_)
    · intro y9 e9
      exact ⟨⟨l + 1, by rw [cnW_s0 y], by rw [e9, nI_1], by omega⟩, mu_up e9 (by omega) (by omega)⟩
    · rw [Bool.not_eq_false] at y
      intro y10 e10 y11 e11
      exact ⟨⟨l + 1, by rw [e10, nI_1, cnW_s1 y], by rw [e11, nI_1], by omega⟩, mu_up e11 (by omega) (by omega)⟩
theorem r_wanted1 {post : Int32 → MS → Prop} {r : Int32} {k : Nat} (hN : N ≤ 32) (hND : mND M = nI N) (hw : isWd M r w) (hk : k < 2 ^ 31) (hp : ∀ r', isK w k (2 * N) r' → post r' M) : p_X6_wanted_32 M r (nI k) (0 : Int32) post := by
  unfold p_X6_wanted_32
  refine ⟨fun x3 x4 => ∃ l, x3 = nI (k - cnW w l) ∧ cnW w l ≤ k ∧ x4 = nI l ∧ l ≤ 2 * N ∧ ∀ j, j < l → w j = true → cnW w j ≠ k, fun _ x4 => 2 * N - x4.toNatClampNeg, ⟨0, rfl, Nat.zero_le _, rfl, by omega, fun j hj => absurd hj (by omega)⟩, ?_⟩
  rintro x3 x4 ⟨l, rfl, hc, rfl, hl, hn⟩
  unfold b_X6_wanted_32
  rw [hND, show (2 : Int32) = nI 2 from rfl, pk_mul]
  refine c2 (nI_leI (by omega) (by omega)) (fun z => ?_) (fun z => ?_)
  · have : l = 2 * N := by omega
    subst this
    exact hp _ (Or.inr ⟨hn, rfl⟩)
  · refine hw l (by omega) _ ?_
    refine c2 (bI_0 _) (fun y => ?_) (fun y => ?_)
    · intro y10 e10
      refine ⟨⟨l + 1, by rw [cnW_s0 y], by rw [cnW_s0 y]; exact hc, by rw [e10, nI_1], by omega, fun j hj => ?_⟩, mu_up e10 (by omega) (by omega)⟩
      by_cases ej : j = l
      · rw [ej]; exact fun q => absurd (y.symm.trans q) (by decide)
      · exact hn j (by omega)
    · rw [Bool.not_eq_false] at y
      refine c2n (show nI (k - cnW w l) = 0 ↔ k - cnW w l = 0 from nI_eq (b := 0) (by omega) (by omega)) (fun x => ?_) (fun x => ?_)
      · intro y12 e12 y13 e13
        refine ⟨⟨l + 1, ?_, by rw [cnW_s1 y]; omega, by rw [e13, nI_1], by omega, fun j hj => ?_⟩, mu_up e13 (by omega) (by omega)⟩
        · rw [e12, cnW_s1 y, show k - cnW w l = (k - (cnW w l + 1)) + 1 by omega, bx_dec]
        · by_cases ej : j = l
          · rw [ej]; exact fun _ => by omega
          · exact hn j (by omega)
      · exact hp _ (Or.inl ⟨l, by omega, y, by omega, rfl⟩)
theorem r_area1 {post : Int32 → MS → Prop} {r : Int32} (h : mWn M N K O pn ip P ol) (hSh : mSh M K pn tr ar de) (hw : isWd M r w) (hw2 : wEf O ol ip pn P w) (hp : post (nI (arW ar (ceP P) w (2 * N))) M) : p_X6_area_14 M r (0 : Int32) (0 : Int32) post := by
  obtain ⟨hN, hK, hpn, hND, hGs, hg, hO, hOU, hOL⟩ := h
  have hlt := fun l => wEf_lt (l := l) hN hg (fun j hj => (hOL j hj).2) hw2
  unfold p_X6_area_14
  refine ⟨fun x2 x3 => ∃ l, x2 = nI (arW ar (ceP P) w l) ∧ x3 = nI l ∧ l ≤ 2 * N, fun _ x3 => 2 * N - x3.toNatClampNeg, ⟨0, rfl, rfl, by omega⟩, ?_⟩
  rintro x2 x3 ⟨l, rfl, rfl, hl⟩
  unfold b_X6_area_14
  rw [hND, show (2 : Int32) = nI 2 from rfl, pk_mul]
  refine c2 (nI_leI (by omega) (by omega)) (fun z => ?_) (fun z => ?_)
  · have : l = 2 * N := by omega
    subst this
    exact hp
  · refine hw l (by omega) _ ?_
    refine c2 (bI_0 _) (fun y => ?_) (fun y => ?_)
    · intro y8 e8
      refine ⟨⟨l + 1, ?_, by rw [e8, nI_1], by omega⟩, mu_up e8 (by omega) (by omega)⟩
      refine congrArg nI ?_
      show _ = arW ar (ceP P) w l + (if w l = true then ar (ceP P l) else 0)
      rw [if_neg (by rw [y]; decide)]; rfl
    · rw [Bool.not_eq_false] at y
      obtain ⟨y1, y2, y3⟩ := hlt l y
      obtain ⟨_, _, _, c4, _⟩ := hSh.2.2 _ y3
      obtain ⟨_, m1, _⟩ := mGs_dec hK hpn hGs y1
      rw [bx_cl (show l < 2 ^ 31 by omega), (m1 y2).1, bx_cl (show ceP P l < 2 ^ 31 by omega), c4]
      refine ⟨bx_in (by omega) (by omega), bx_in (by omega) (by omega), ?_⟩
      intro y11 e11 y12 e12
      refine ⟨⟨l + 1, ?_, by rw [e12, nI_1], by omega⟩, mu_up e12 (by omega) (by omega)⟩
      rw [e11, nI_add]
      refine congrArg nI ?_
      show _ = arW ar (ceP P) w l + (if w l = true then ar (ceP P l) else 0)
      rw [if_pos y]
theorem r_worst1 {post : Int32 → MS → Prop} (h : mWn M N K O pn ip P ol) (hp1 : (∃ k, k < O ∧ P (ol k) = tp) → post (-1 : Int32) M) (hp : (∀ j, j < O → P (ol j) ≠ tp) → post (nI (wmx P ol O)) M) : p_X6_worst_13 M (0 : Int32) (0 : Int32) post := by
  obtain ⟨hN, hK, hpn, hND, hGs, hg, hO, hOU, hOL⟩ := h
  unfold p_X6_worst_13
  refine ⟨fun x1 x2 => ∃ k, x1 = nI (wmx P ol k) ∧ x2 = nI k ∧ k ≤ O ∧ ∀ j, j < k → P (ol j) ≠ tp, fun _ x2 => O - x2.toNatClampNeg, ⟨0, rfl, rfl, by omega, fun j hj => absurd hj (by omega)⟩, ?_⟩
  rintro x1 x2 ⟨k, rfl, rfl, hk, ha⟩
  unfold b_X6_worst_13
  rw [hOU]
  refine c2 (nI_leI (by omega) (by omega)) (fun z => ?_) (fun z => ?_)
  · have : k = O := by omega
    subst this
    exact hp ha
  · obtain ⟨o1, o2⟩ := hOL k (by omega)
    obtain ⟨a1, _, _⟩ := mGs_dec hK hpn hGs o2
    rw [bx_cl (show k < 2 ^ 31 by omega), o1, bx_cl (show ol k < 2 ^ 31 by omega), a1]
    refine ⟨bx_in (by omega) (by omega), bx_in (by omega) (by omega), ?_⟩
    intro y6 e6
    subst e6
    refine c2n (tI_m1 (hGs _ o2).2 (by omega)) (fun x => ?_) (fun x => hp1 ⟨k, by omega, x⟩)
    have b1 : wmx P ol k ≤ 2000 * N := wmx_le k (fun j hj => gN_div (hGs _ (hOL j (by omega)).2).2 (ha j hj))
    have b2 : P (ol k) / 2 ^ 23 ≤ 2000 * N := gN_div (hGs _ o2).2 x
    have et : tI (P (ol k)) = nI (P (ol k) / 2 ^ 23) := if_neg x
    have hj' : ∀ j, j < k + 1 → P (ol j) ≠ tp := fun j hj => by
      by_cases ej : j = k
      · rw [ej]; exact x
      · exact ha j (by omega)
    rw [et]
    refine c2 (nI_leI (by omega) (by omega)) (fun y => ?_) (fun y => ?_)
    · intro y9 e9
      refine ⟨⟨k + 1, ?_, by rw [e9, nI_1], by omega, hj'⟩, mu_up e9 (by omega) (by omega)⟩
      show _ = nI (max (wmx P ol k) (P (ol k) / 2 ^ 23))
      rw [Nat.max_eq_left (by omega)]
    · intro y10 e10
      refine ⟨⟨k + 1, ?_, by rw [e10, nI_1], by omega, hj'⟩, mu_up e10 (by omega) (by omega)⟩
      show _ = nI (max (wmx P ol k) (P (ol k) / 2 ^ 23))
      rw [Nat.max_eq_right (by omega)]
end AK
