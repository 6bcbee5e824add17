/-! 59 MWANT2: the reference's want from its beginning -/
def outA (O : Nat) (ol : Nat → Nat) (l : Nat) : Prop := ∃ j, j < O ∧ ol j = l
section MV
variable {M0 : MS} {K N O : Nat} {pn P ol : Nat → Nat} {ip : Nat → Bool} {post : Int32 → MS → Prop}
theorem r_want60 {f0 : Nat → Int32} (h : mWn M0 N K O pn ip P ol) (h0 : ∀ l, l < 64 → f0 l = bI false)
    (hp : ∀ (f : Nat → Int32) (w : Nat → Bool), (∀ l, l < 64 → f l = bI (w l)) → (∀ l, w l = true ↔ Wt (outA O ol) ip pn P l) → post (-1 : Int32) (mWA_s M0 f)) : p_X6_want_60 (mWA_s M0 f0) (0 : Int32) post := by
  obtain ⟨hN, hK, hpn, hND, hGs, hg, hO, hOU, hOL⟩ := id h
  have hA : ∀ l, outA O ol l → l < 2 * N := fun l ⟨j, a, e⟩ => by rw [← e]; exact (hOL j a).2
  unfold p_X6_want_60
  refine ⟨fun M x1 => ∃ (k : Nat) (f : Nat → Int32) (w : Nat → Bool), M = mWA_s M0 f ∧ x1 = nI k ∧ k ≤ O ∧ (∀ l, l < 64 → f l = bI (w l)) ∧ ∀ l, w l = true ↔ ∃ j, j < k ∧ ol j = l ∧ hgP ip P l = true, fun _ x1 => O - x1.toNatClampNeg, ⟨0, f0, fun _ => false, rfl, rfl, by omega, h0, fun l => ⟨fun q => absurd (show false = true from q) (by decide), fun ⟨j, a, _⟩ => absurd a (by omega)⟩⟩, ?_⟩
  rintro M x1 ⟨k, f, w, eM, rfl, hk, e1, e2⟩
  have q1 : mOU M = nI O := by rw [eM, gs_mOU_WA]; exact hOU
  have q2 : mOL M = mOL M0 := by rw [eM, gs_mOL_WA]
  have q3 : mGA M = mGA M0 := by rw [eM, gs_mGA_WA]
  have q4 : mWA M = f := by rw [eM, gs_mWA_WA]
  unfold b_X6_want_60
  rw [q1]
  refine c2 (nI_leI (by omega) (by omega)) (fun z => ?_) (fun z => ?_)
  · have : k = O := by omega
    subst this
    refine r_want107 h hA (w0 := w) ⟨f, eM, e1, fun l hl => ?_, fun l a g => ?_⟩ hp
    · obtain ⟨j, a, b, c⟩ := (e2 l).1 hl
      exact Wt_out ⟨j, a, b⟩ c
    · obtain ⟨j, a, b⟩ := a
      exact (e2 l).2 ⟨j, a, b, g⟩
  · obtain ⟨o1, o2⟩ := hOL k (by omega)
    obtain ⟨_, n1, n2⟩ := mGs_dec hK hpn hGs o2
    rw [bx_cl (show k < 2 ^ 31 by omega), q2, o1, bx_cl (show ol k < 2 ^ 31 by omega), q3, q4]
    refine ⟨bx_in (by omega) (by omega), bx_in (by omega) (by omega), bx_in (by omega) (by omega), ?_⟩
    have stp : ∀ (b : Bool) (M' : MS) (y : Int32), hgP ip P (ol k) = b → M' = mWA_s M (upd f (ol k) (bI b)) → y = nI k + (1 : Int32) → ∃ (k' : Nat) (f : Nat → Int32) (w : Nat → Bool), M' = mWA_s M0 f ∧ y = nI k' ∧ k' ≤ O ∧ (∀ l, l < 64 → f l = bI (w l)) ∧ ∀ l, w l = true ↔ ∃ j, j < k' ∧ ol j = l ∧ hgP ip P l = true := by
      intro b M' y hb e ey
      rw [eM, WA_WA] at e
      refine ⟨k + 1, _, fun l => if l = ol k then b else w l, e, by rw [ey, nI_1], by omega, upd_bI e1, fun l => ?_⟩
      show (if l = ol k then b else w l) = true ↔ _
      by_cases el : l = ol k
      · rw [if_pos el]
        constructor
        · intro q; exact ⟨k, by omega, el.symm, by rw [el, hb]; exact q⟩
        · rintro ⟨_, _, _, g⟩; rw [el, hb] at g; exact g
      · rw [if_neg el, e2 l]
        constructor
        · rintro ⟨j, a, c⟩; exact ⟨j, by omega, c⟩
        · rintro ⟨j, a, c⟩
          by_cases ej : j = k
          · rw [ej] at c; exact absurd c.1.symm el
          · exact ⟨j, by omega, c⟩
    cases hgp : hgP ip P (ol k)
    · rw [(n2 hgp).1]
      refine ⟨fun _ => ⟨bx_in (by omega) (by omega), ?_⟩, fun r => absurd rfl r⟩
      intro M30 e30 y31 e31
      rw [nar_0] at e30
      exact ⟨stp false M30 y31 hgp e30 e31, mu_up e31 (by omega) (by omega)⟩
    · have hcp := (hg _ o2 hgp).1
      rw [(n1 hgp).1]
      refine ⟨fun r => absurd r (nI_m1 (by omega)), fun _ => ⟨bx_in (by omega) (by omega), ?_⟩⟩
      intro M33 e33 y34 e34
      rw [nar_1] at e33
      exact ⟨stp true M33 y34 hgp e33 e34, mu_up e34 (by omega) (by omega)⟩
theorem r_want6 (h : mWn M0 N K O pn ip P ol)
    (hp1 : ∀ (f : Nat → Int32) (k : Nat), k < O → P (ol k) = tp → (∀ j, j < k → P (ol j) ≠ tp) → post (nI k) (mWA_s M0 f))
    (hp : ∀ (f : Nat → Int32) (w : Nat → Bool), (∀ j, j < O → P (ol j) ≠ tp) → (∀ l, l < 64 → f l = bI (w l)) → (∀ l, w l = true ↔ Wt (outA O ol) ip pn P l) → post (-1 : Int32) (mWA_s M0 f)) : p_X6_want_6 M0 (0 : Int32) post := by
  obtain ⟨hN, hK, hpn, hND, hGs, hg, hO, hOU, hOL⟩ := id h
  have k64 : (64 : Int32) = nI 64 := rfl
  unfold p_X6_want_6
  refine ⟨fun M x1 => ∃ (l : Nat) (f : Nat → Int32), M = mWA_s M0 f ∧ x1 = nI l ∧ l ≤ 64 ∧ ∀ j, j < l → f j = bI false, fun _ x1 => 64 - x1.toNatClampNeg, ⟨0, mWA M0, rfl, rfl, by omega, fun j hj => absurd hj (by omega)⟩, ?_⟩
  rintro M x1 ⟨l, f, eM, rfl, hl, e1⟩
  unfold b_X6_want_6
  rw [k64]
  refine c2 (nI_leI (by omega) (by omega)) (fun z => ?_) (fun z => ?_)
  · have q1 : mOU M = nI O := by rw [eM, gs_mOU_WA]; exact hOU
    have q2 : mOL M = mOL M0 := by rw [eM, gs_mOL_WA]
    have q3 : mAV M = mAV M0 := by rw [eM, gs_mAV_WA]
    unfold p_X6_want_27
    refine ⟨fun x1 => ∃ k, x1 = nI k ∧ k ≤ O ∧ ∀ j, j < k → P (ol j) ≠ tp, fun x1 => O - x1.toNatClampNeg, ⟨0, rfl, by omega, fun j hj => absurd hj (by omega)⟩, ?_⟩
    rintro x1 ⟨k, rfl, hk, hj⟩
    unfold b_X6_want_27
    rw [q1]
    refine c2 (nI_leI (by omega) (by omega)) (fun y => ?_) (fun y => ?_)
    · have : k = O := by omega
      subst this
      rw [eM]
      exact r_want60 h (fun j hj => e1 j (by omega)) (fun f w => hp f w hj)
    · obtain ⟨o1, o2⟩ := hOL k (by omega)
      obtain ⟨a1, _, _⟩ := mGs_dec hK hpn hGs o2
      rw [bx_cl (show k < 2 ^ 31 by omega), q2, o1, bx_cl (show ol k < 2 ^ 31 by omega), q3, a1]
      refine ⟨bx_in (by omega) (by omega), bx_in (by omega) (by omega), ?_⟩
      refine c2n (tI_m1 (hGs _ o2).2 (by omega)) (fun x => ?_) (fun x => ?_)
      · intro y38 e38
        refine ⟨⟨k + 1, by rw [e38, nI_1], by omega, fun j hj' => ?_⟩, mu_up e38 (by omega) (by omega)⟩
        by_cases ej : j = k
        · rw [ej]; exact x
        · exact hj j (by omega)
      · rw [eM]
        exact hp1 f k (by omega) x hj
  · rw [bx_cl (show l < 2 ^ 31 by omega)]
    refine ⟨bx_in (by omega) (by omega), ?_⟩
    intro M40 e40 y41 e41
    rw [nar_0, eM, gs_mWA_WA, WA_WA] at e40
    refine ⟨⟨l + 1, _, e40, by rw [e41, nI_1], by omega, fun j hj => ?_⟩, mu_up e41 (by omega) (by omega)⟩
    by_cases ej : j = l
    · rw [ej, pk_us]
    · rw [pk_un ej]; exact e1 j (by omega)
end MV
