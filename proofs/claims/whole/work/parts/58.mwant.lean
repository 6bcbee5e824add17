/-! 58 MWANT: the reference's want -/
def cnW (w : Nat → Bool) : Nat → Nat
  | 0 => 0
  | n + 1 => cnW w n + (w n).toNat
theorem cnW_le (w : Nat → Bool) : ∀ n, cnW w n ≤ n
  | 0 => Nat.le_refl _
  | n + 1 => by
    have := cnW_le w n
    have h2 := Bool.toNat_le (w n)
    show cnW w n + (w n).toNat ≤ n + 1
    omega
theorem cnW_cg {w w' : Nat → Bool} : ∀ n, (∀ l, l < n → w l = w' l) → cnW w n = cnW w' n
  | 0, _ => rfl
  | n + 1, h => by
    show cnW w n + (w n).toNat = cnW w' n + (w' n).toNat
    rw [cnW_cg n (fun l hl => h l (by omega)), h n (by omega)]
theorem cnW_up {w w' : Nat → Bool} {p : Nat} (h1 : w p = false) (h2 : w' p = true) (h : ∀ l, l ≠ p → w' l = w l) : ∀ n, p < n → cnW w' n = cnW w n + 1
  | 0, hp => absurd hp (by omega)
  | n + 1, hp => by
    show cnW w' n + (w' n).toNat = cnW w n + (w n).toNat + 1
    by_cases e : p = n
    · subst e
      rw [cnW_cg p (fun l hl => h l (by omega)), h1, h2]
      rfl
    · rw [cnW_up h1 h2 h n (by omega), h n (fun q => e q.symm)]
      omega
def rsN (M : MS) := (mTH M, mND M, mIP M, mAN M, mOU M, mCE M, mSL M, mON M, mTW M, mIN M, mTI M, mOL M, mPI M, mTR M, mAR M, mDE M, mAO M, mCC M, mCB M, mFI M, mAV M, mGA M, mGP M, mVA M, mLE M, mTD M)
theorem rsN_WA (M : MS) (f : Nat → Int32) : rsN (mWA_s M f) = rsN M := rfl
theorem WA_WA (M : MS) (f g : Nat → Int32) : mWA_s (mWA_s M f) g = mWA_s M g := rfl
theorem nar_0 : vp_nar .boolean (0 : Int32) = bI false := by decide
theorem nar_1 : vp_nar .boolean (1 : Int32) = bI true := by decide
theorem upd_bI {f : Nat → Int32} {w : Nat → Bool} {p : Nat} {b : Bool} (h : ∀ l, l < 64 → f l = bI (w l)) : ∀ l, l < 64 → upd f p (bI b) l = bI (if l = p then b else w l) := by
  intro l hl
  by_cases e : l = p
  · subst e; rw [pk_us, if_pos rfl]
  · rw [pk_un e, if_neg e]; exact h l hl
section MW
variable {M0 : MS} {K N O : Nat} {pn P ol : Nat → Nat} {ip : Nat → Bool} {A : Nat → Prop} {post : Int32 → MS → Prop}
/-- what want needs of the reference's state -/
def mWn (M : MS) (N K O : Nat) (pn : Nat → Nat) (ip : Nat → Bool) (P ol : Nat → Nat) : Prop := N ≤ 32 ∧ K ≤ 12 ∧ (∀ c, c < K → pn c ≤ 3) ∧ mND M = nI N ∧ mGs M N K pn ip P ∧ gSt N K pn ip P ∧ O ≤ 6 ∧ mOU M = nI O ∧ ∀ j, j < O → mOL M j = nI (ol j) ∧ ol j < 2 * N
def muW (M : MS) (x : Int32) : Nat := 2 * (64 - cnW (fun l => decide (mWA M l ≠ 0)) 64) + if x = 0 then 0 else 1
theorem cn_WA {M : MS} {f : Nat → Int32} {w : Nat → Bool} (e : mWA M = f) (h : ∀ l, l < 64 → f l = bI (w l)) : cnW (fun l => decide (mWA M l ≠ 0)) 64 = cnW w 64 := by
  refine cnW_cg 64 (fun l hl => ?_)
  show decide (mWA M l ≠ 0) = w l
  rw [e, h l hl]
  cases hw : w l
  · exact decide_eq_false (fun q => q ((bI_0 false).2 rfl))
  · exact decide_eq_true (fun q => absurd ((bI_0 true).1 q) (by decide))
/-- a state of the fixed point's loop: wanted ones so far -/
def wSt (M0 M : MS) (A : Nat → Prop) (ip : Nat → Bool) (pn P : Nat → Nat) (w : Nat → Bool) : Prop := ∃ f, M = mWA_s M0 f ∧ (∀ l, l < 64 → f l = bI (w l)) ∧ (∀ l, w l = true → Wt A ip pn P l) ∧ ∀ l, A l → hgP ip P l = true → w l = true
def clo (ip : Nat → Bool) (pn P : Nat → Nat) (w : Nat → Bool) (l : Nat) : Prop := w l = true → ∀ p, pnL pn P l p → hgP ip P p = true → w p = true
theorem r_want107 {M : MS} {w0 : Nat → Bool} (h : mWn M0 N K O pn ip P ol) (hA : ∀ l, A l → l < 2 * N) (h0 : wSt M0 M A ip pn P w0)
    (hp : ∀ (f : Nat → Int32) (w : Nat → Bool), (∀ l, l < 64 → f l = bI (w l)) → (∀ l, w l = true ↔ Wt A ip pn P l) → post (-1 : Int32) (mWA_s M0 f)) : p_X6_want_107 M (1 : Int32) post := by
  obtain ⟨hN, hK, hpn, hND, hGs, hg, _, _, _⟩ := h
  have k2 : (2 : Int32) = nI 2 := rfl
  have k3 : (3 : Int32) = nI 3 := rfl
  unfold p_X6_want_107
  refine ⟨fun M x1 => ∃ w, wSt M0 M A ip pn P w ∧ (x1 = 0 → ∀ l, l < 2 * N → clo ip pn P w l), muW, ⟨w0, h0, fun q => absurd q (by decide)⟩, ?_⟩
  rintro M1 x1 ⟨w1, hs1, hc1⟩
  unfold b_X6_want_107
  refine ⟨fun z => ?_, fun z => ?_⟩
  · obtain ⟨f, e, e1, e2, e3⟩ := hs1
    rw [e]
    refine hp f w1 e1 (fun l => ⟨e2 l, fun q => ?_⟩)
    exact (q (fun l => l < 2 * N ∧ w1 l = true) (fun l a g => ⟨hA l a, e3 l a g⟩) (fun l p a b g => ⟨pnL_lt hN hg a.1 (Wt_lt hN hg hA (e2 l a.2)).2 b, hc1 z l a.1 a.2 p b g⟩)).2
  · have hu : muW M1 x1 = 2 * (64 - cnW w1 64) + 1 := by
      obtain ⟨f, e, e1, _⟩ := hs1
      unfold muW
      rw [cn_WA (f := f) (w := w1) (by rw [e, gs_mWA_WA]) e1, if_neg z]
    rw [hu]
    clear hu hc1 z
    let J : MS → Int32 → Nat → (Nat → Bool) → Prop := fun M x1 l w => wSt M0 M A ip pn P w ∧ l ≤ 2 * N ∧ ((x1 = 0 ∧ cnW w 64 = cnW w1 64 ∧ ∀ j, j < l → clo ip pn P w j) ∨ (¬ x1 = 0 ∧ cnW w1 64 < cnW w 64))
    have hJ : ∀ M x1 l w, J M x1 l w ↔ (wSt M0 M A ip pn P w ∧ l ≤ 2 * N ∧ ((x1 = 0 ∧ cnW w 64 = cnW w1 64 ∧ ∀ j, j < l → clo ip pn P w j) ∨ (¬ x1 = 0 ∧ cnW w1 64 < cnW w 64))) := fun _ _ _ _ => Iff.rfl
    clear_value J
    unfold p_X6_want_115
    refine ⟨fun M x1 x2 => ∃ l w, x2 = nI l ∧ J M x1 l w, fun _ _ x2 => 2 * N - x2.toNatClampNeg, ⟨0, w1, rfl, (hJ _ _ _ _).2 ⟨hs1, by omega, Or.inl ⟨rfl, rfl, fun j hj => absurd hj (by omega)⟩⟩⟩, ?_⟩
    rintro M2 x2 x3 ⟨l, w2, rfl, hj2⟩
    have hj2' := (hJ _ _ _ _).1 hj2
    obtain ⟨hs2, hl2, hd2⟩ := hj2'
    have eND : mND M2 = nI N := by obtain ⟨f, e, _⟩ := hs2; rw [e, gs_mND_WA]; exact hND
    unfold b_X6_want_115
    rw [eND, k2, pk_mul]
    refine c2 (nI_leI (by omega) (by omega)) (fun z => ?_) (fun z => ?_)
    · have el : l = 2 * N := by omega
      subst el
      refine ⟨⟨w2, hs2, fun y => ?_⟩, ?_⟩
      · rcases hd2 with d | d
        · exact d.2.2
        · exact absurd y d.1
      · obtain ⟨f, e, e1, _⟩ := hs2
        unfold muW
        rw [cn_WA (f := f) (w := w2) (by rw [e, gs_mWA_WA]) e1]
        have c1 := cnW_le w1 64
        have c2 := cnW_le w2 64
        rcases hd2 with d | d
        · rw [if_pos d.1]; omega
        · rw [if_neg d.1]; omega
    · unfold p_X6_want_127
      refine ⟨fun M x1 x3 => ∃ q w, x3 = nI q ∧ q ≤ 3 ∧ J M x1 l w ∧ (x1 = 0 → w l = true → ∀ j, j < q → j < pn (ceP P l) → hgP ip P (piP P l j) = true → w (piP P l j) = true), fun _ _ x3 => 3 - x3.toNatClampNeg, ⟨0, w2, rfl, by omega, hj2, fun _ _ j hj => absurd hj (by omega)⟩, ?_⟩
      clear hd2 hs2 hj2 eND
      rintro M3 x4 x5 ⟨q, w3, rfl, hq, hj3, hc3⟩
      have hj3' := (hJ _ _ _ _).1 hj3
      obtain ⟨hs3, hl3, hd3⟩ := hj3'
      obtain ⟨f, e, e1, e2, e3⟩ := id hs3
      have eW : mWA M3 = f := by rw [e, gs_mWA_WA]
      have eA : mGA M3 = mGA M0 := by rw [e, gs_mGA_WA]
      have eP : mGP M3 = mGP M0 := by rw [e, gs_mGP_WA]
      unfold b_X6_want_127
      rw [k3]
      have hl64 : l < 64 := by omega
      refine c2 (nI_leI (by omega) (by omega)) (fun y => ?_) (fun y => ?_)
      · intro y8 e8
        refine ⟨⟨l + 1, w3, by rw [e8, nI_1], (hJ _ _ _ _).2 ⟨hs3, by omega, ?_⟩⟩, mu_up e8 (by omega) (by omega)⟩
        rcases hd3 with d | d
        · refine Or.inl ⟨d.1, d.2.1, fun j hj => ?_⟩
          by_cases ej : j = l
          · subst ej
            rintro hw p ⟨i, hi, ei⟩ hgp
            have hwl := Wt_lt hN hg hA (e2 j hw)
            have := hc3 d.1 hw i (by have := hpn _ (hg j hwl.1 hwl.2).1; omega) hi
            rw [ei] at this
            exact this hgp
          · exact d.2.2 j (by omega)
        · exact Or.inr d
      · rw [bx_cl (show l < 2 ^ 31 by omega), eW, e1 l hl64]
        refine ⟨bx_in (by omega) (by omega), ?_⟩
        refine c2 (bI_0 _) (fun x => ?_) (fun x => ?_)
        · intro y11 e11
          refine ⟨⟨l + 1, w3, by rw [e11, nI_1], (hJ _ _ _ _).2 ⟨hs3, by omega, ?_⟩⟩, mu_up e11 (by omega) (by omega)⟩
          rcases hd3 with d | d
          · refine Or.inl ⟨d.1, d.2.1, fun j hj => ?_⟩
            by_cases ej : j = l
            · subst ej
              intro hw
              exact absurd (x.symm.trans hw) (by decide)
            · exact d.2.2 j (by omega)
          · exact Or.inr d
        · rw [Bool.not_eq_false] at x
          have hwl := Wt_lt hN hg hA (e2 l x)
          obtain ⟨_, m1, _⟩ := mGs_dec hK hpn hGs hwl.1
          have m2 := (m1 hwl.2).2 q (by omega)
          have g3 := hpn _ (hg l hwl.1 hwl.2).1
          rw [pk_mul, nI_add, bx_cl (show 3 * l + q < 2 ^ 31 by omega), eP, m2, eA]
          refine ⟨bx_in (by omega) (by omega), ?_⟩
          intro y13 e13
          have nxt : ∀ y : Int32, y = nI q + (1 : Int32) → (x4 = 0 → w3 l = true → q < pn (ceP P l) → hgP ip P (piP P l q) = true → w3 (piP P l q) = true) → ∃ q' w, y = nI q' ∧ q' ≤ 3 ∧ J M3 x4 l w ∧ (x4 = 0 → w l = true → ∀ j, j < q' → j < pn (ceP P l) → hgP ip P (piP P l j) = true → w (piP P l j) = true) := by
            intro y ey hh
            refine ⟨q + 1, w3, by rw [ey, nI_1], by omega, hj3, fun a b j hj => ?_⟩
            by_cases ej : j = q
            · subst ej; exact hh a b
            · exact hc3 a b j (by omega)
          by_cases zq : q < pn (ceP P l)
          · rw [if_pos zq] at e13
            have p6 : piP P l q < 64 := Nat.mod_lt _ (by decide)
            have pl : piP P l q < 2 * N := pnL_lt hN hg hwl.1 hwl.2 ⟨q, zq, rfl⟩
            obtain ⟨_, n1, n2⟩ := mGs_dec hK hpn hGs pl
            rw [e13, bx_cl (show piP P l q < 2 ^ 31 by omega)]
            refine ⟨fun r => absurd r (nI_m1 (by omega)), fun _ => ⟨bx_in (by omega) (by omega), ?_⟩⟩
            cases hgp : hgP ip P (piP P l q)
            · rw [(n2 hgp).1]
              refine ⟨fun _ => ?_, fun r => absurd rfl r⟩
              intro y18 e18
              exact ⟨nxt y18 e18 (fun _ _ _ r => absurd (hgp.symm.trans r) (by decide)), mu_up e18 (by omega) (by omega)⟩
            · have hcp := (hg _ pl hgp).1
              rw [(n1 hgp).1]
              refine ⟨fun r => absurd r (nI_m1 (by omega)), fun _ => ⟨bx_in (by omega) (by omega), ?_⟩⟩
              rw [e1 _ p6]
              refine c2n (bI_0 _) (fun r => ?_) (fun r => ?_)
              · rw [Bool.not_eq_false] at r
                intro y21 e21
                exact ⟨nxt y21 e21 (fun _ _ _ _ => r), mu_up e21 (by omega) (by omega)⟩
              · refine ⟨bx_in (by omega) (by omega), ?_⟩
                intro M23 e23 y24 e24
                rw [nar_1, e, WA_WA] at e23
                refine ⟨⟨q + 1, fun j => if j = piP P l q then true else w3 j, by rw [e24, nI_1], by omega, (hJ _ _ _ _).2 ⟨⟨_, e23, upd_bI e1, fun j hj => ?_, fun j a g => ?_⟩, hl3, Or.inr ⟨by decide, ?_⟩⟩, fun a => absurd a (by decide)⟩, mu_up e24 (by omega) (by omega)⟩
                · by_cases ej : j = piP P l q
                  · rw [ej]; exact Wt_pin (e2 l x) ⟨q, zq, rfl⟩ hgp
                  · have hj' : (if j = piP P l q then true else w3 j) = true := hj
                    rw [if_neg ej] at hj'; exact e2 j hj'
                · show (if j = piP P l q then true else w3 j) = true
                  by_cases ej : j = piP P l q
                  · rw [if_pos ej]
                  · rw [if_neg ej]; exact e3 j a g
                · have := cnW_up (w := w3) (w' := fun j => if j = piP P l q then true else w3 j) (p := piP P l q) r (if_pos rfl) (fun j hj => if_neg hj) 64 p6
                  rw [this]
                  rcases hd3 with d | d
                  · rw [d.2.1]; omega
                  · have := d.2; omega
          · rw [if_neg zq] at e13
            rw [e13]
            refine ⟨fun _ => ?_, fun r => absurd rfl r⟩
            intro y15 e15
            exact ⟨nxt y15 e15 (fun _ _ r => absurd r zq), mu_up e15 (by omega) (by omega)⟩
end MW
