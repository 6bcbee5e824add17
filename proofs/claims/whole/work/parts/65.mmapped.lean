/-! 65 MMAPPED: the reference's mapped -/
section MQ
variable {M : MS} {K N I O : Nat} {pn tr ar de P ol nb inN : Nat → Nat} {ip : Nat → Bool} {il ir : Nat → Nat} {a l : Nat} {V : Nat → Bool}
theorem r_byGate {post : Int32 → Prop} {f : Nat → Int32} (hVA : mVA M = f) (hSh : mSh M K pn tr ar de) (hGs : mGs M N K pn ip P) (hg : gSt N K pn ip P) (hN : N ≤ 32) (hl : l < 2 * N) (hgl : hgP ip P l = true) (hV : geq ip nb tr pn P a V l)
    (hpin : ∀ q, q < pn (ceP P l) → f (piP P l q) = bI (V (piP P l q))) (hp : post (bI (V l))) : p_X6_byGate M (nI l) post := by
  have hK := hSh.2.1
  have hpn : ∀ c, c < K → pn c ≤ 3 := fun c hc => by have := (hSh.2.2 c hc).1; omega
  have hc := (hg l hl hgl).1
  obtain ⟨c1, c2', c3, _⟩ := hSh.2.2 _ hc
  obtain ⟨_, m1, _⟩ := mGs_dec hK hpn hGs hl
  obtain ⟨m2, m3⟩ := m1 hgl
  unfold p_X6_byGate p_X6_byGate_4
  refine ⟨fun x2 x3 => ∃ q, x2 = nI (mk q (fun q => V (piP P l q))) ∧ x3 = nI q ∧ q ≤ pn (ceP P l), fun _ x3 => pn (ceP P l) - x3.toNatClampNeg, ⟨0, rfl, rfl, by omega⟩, ?_⟩
  rintro x2 x3 ⟨q, rfl, rfl, hq⟩
  have m8 := mk_p (p := q) (f := fun q => V (piP P l q)) (by omega)
  unfold b_X6_byGate_4
  rw [bx_cl (show l < 2 ^ 31 by omega), m2, bx_cl (show ceP P l < 2 ^ 31 by omega), c2', c3]
  refine ⟨bx_in (by omega) (by omega), bx_in (by omega) (by omega), ?_⟩
  refine c2 (nI_leI (by omega) (by omega)) (fun x => ?_) (fun x => ?_)
  · have : q = pn (ceP P l) := by omega
    subst this
    refine ⟨bx_in (by omega) (by omega), bx_in (by omega) (by omega), ?_⟩
    have ht : tr (ceP P l) < 256 := Nat.lt_of_lt_of_le c1.2.2 (p22_3 (by omega))
    rw [bx_sbit (by omega) (by omega), ← hV.2 hgl]
    exact hp
  · have p6 : piP P l q < 64 := Nat.mod_lt _ (by decide)
    rw [show (3 : Int32) = nI 3 from rfl, pk_mul, nI_add, bx_cl (show 3 * l + q < 2 ^ 31 by omega), m3 q (by omega), if_pos (by omega), bx_cl (show piP P l q < 2 ^ 31 by omega), hVA, hpin q (by omega), bI_shl (by omega), bx_or]
    refine ⟨bx_in (by omega) (by omega), bx_in (by omega) (by omega), ?_⟩
    intro y8 e8 y9 e9
    refine ⟨⟨q + 1, ?_, by rw [e9, nI_1], by omega⟩, mu_up e9 (by omega) (by omega)⟩
    rw [e8]
    exact congrArg nI (mk_or q (fun q => V (piP P l q)))
theorem r_turnsOwn {post : Int32 → Prop} (hK : K ≤ 12) (hpn : ∀ c, c < K → 1 ≤ pn c ∧ pn c ≤ 3) (hGs : mGs M N K pn ip P) (hg : gSt N K pn ip P) (hN : N ≤ 32) (hl : l < 2 * N) (hgl : hgP ip P l = true) (hp : post (bI (decide (tnP P l = 1)))) : p_X6_turnsOwn M (nI l) post := by
  have hc := hg l hl hgl
  obtain ⟨_, m1, _⟩ := mGs_dec hK (fun c hc => (hpn c hc).2) hGs hl
  have m3 := (m1 hgl).2 0 (by omega)
  have hp1 := (hpn _ hc.1).1
  have p6 : piP P l 0 < 64 := Nat.mod_lt _ (by decide)
  have x6 := xor1_lt (l := l) (by omega)
  rw [Nat.add_zero, if_pos (by omega)] at m3
  unfold p_X6_turnsOwn
  rw [show (3 : Int32) = nI 3 from rfl, pk_mul, bx_cl (show 3 * l < 2 ^ 31 by omega), m3, show (1 : Int32) = nI 1 from rfl, bx_xor]
  refine ⟨bx_in (by omega) (by omega), ?_⟩
  have hx := (x1_lt hl hN).2
  refine c2n (nI_eq (by omega) (by omega)) (fun z => ?_) (fun z => ?_)
  · rw [decide_eq_false (fun r => ?_)] at hp
    · exact hp
    · rcases hc.2 with g | g
      · omega
      · exact z g.2.2.1
  · rw [decide_eq_true (p := tnP P l = 1) ?_] at hp
    · exact hp
    · rcases hc.2 with g | g
      · have := (g.2 0 (by omega)).1
        rw [z] at this
        omega
      · exact g.1
theorem r_mapped78 {pst : Int32 → MS → Prop} {f0 : Nat → Int32} (hSh : mSh M K pn tr ar de) (hND : mND M = nI N) (hGs : mGs M N K pn ip P) (hg : gSt N K pn ip P) (hN : N ≤ 32) (hl : l < 2 * N) (hx : P l ≠ tp) (hV : ∀ l, l < 2 * N → geq ip nb tr pn P a V l)
    (hf : ∀ k, k < 2 * N → plI ip k = true → f0 k = bI (V k)) (hp : ∀ f, pst (bI (V l)) (mVA_s M f)) : p_X6_mapped_78 (mVA_s M f0) (nI l) (0 : Int32) pst := by
  have hK := hSh.2.1
  have hpn : ∀ c, c < K → 1 ≤ pn c ∧ pn c ≤ 3 := fun c hc => by have := (hSh.2.2 c hc).1; omega
  have k2 : (2 : Int32) = nI 2 := rfl
  have k4 : (4 : Int32) = nI 4 := rfl
  unfold p_X6_mapped_78
  refine ⟨fun M' x3 => ∃ n f, M' = mVA_s M f ∧ x3 = nI n ∧ n ≤ N ∧ (∀ k, k < 2 * N → plI ip k = true → f k = bI (V k)) ∧ ∀ k, k < 2 * n → P k ≠ tp → f k = bI (V k), fun _ x3 => N - x3.toNatClampNeg, ⟨0, f0, rfl, rfl, by omega, hf, fun k hk => absurd hk (by omega)⟩, ?_⟩
  rintro M1 x3 ⟨n, f1, eM1, rfl, hn, hf1, hf2⟩
  unfold b_X6_mapped_78
  rw [show mND M1 = nI N by rw [eM1, gs_mND_VA]; exact hND]
  refine c2 (nI_leI (by omega) (by omega)) (fun z => ?_) (fun z => ?_)
  · rw [bx_cl (show l < 2 ^ 31 by omega), show mVA M1 = f1 by rw [eM1, gs_mVA_VA], hf2 l (by omega) hx, eM1]
    exact ⟨bx_in (by omega) (by omega), hp f1⟩
  · unfold p_X6_mapped_89
    refine ⟨fun M' x4 => ∃ t f, M' = mVA_s M f ∧ x4 = nI t ∧ t ≤ 4 ∧ (∀ k, k < 2 * N → plI ip k = true → f k = bI (V k)) ∧ (∀ k, k < 2 * n → P k ≠ tp → f k = bI (V k)) ∧ ∀ k, k / 2 = n → hgP ip P k = true → (if tnP P k = 1 then 2 + k % 2 < t else k % 2 < t) → f k = bI (V k), fun _ x4 => 4 - x4.toNatClampNeg, ⟨0, f1, eM1, rfl, by omega, hf1, hf2, fun k hk hgk q => ?_⟩, ?_⟩
    · by_cases e : tnP P k = 1
      · rw [if_pos e] at q; omega
      · rw [if_neg e] at q; omega
    · clear hf1 hf2 eM1 hf
      rintro M2 x4 ⟨t, f, eM, rfl, ht, h1, h2, h3⟩
      have eV : mVA M2 = f := by rw [eM, gs_mVA_VA]
      have hGs2 : mGs M2 N K pn ip P := fun k hk => ⟨mGt_same (hGs k hk).1 (by rw [eM, gs_mAV_VA]) (by rw [eM, gs_mGA_VA]) (fun q hq => by rw [eM, gs_mGP_VA]), (hGs k hk).2⟩
      have hSh2 : mSh M2 K pn tr ar de := by
        unfold mSh
        rw [eM, gs_mCE_VA, gs_mPI_VA, gs_mTR_VA, gs_mAR_VA, gs_mDE_VA]
        exact hSh
      unfold b_X6_mapped_89
      rw [k4]
      refine c2 (nI_leI (by omega) (by omega)) (fun y => ?_) (fun y => ?_)
      · intro y13 e13
        refine ⟨⟨n + 1, f, eM, by rw [e13, nI_1], by omega, h1, fun k hk hxk => ?_⟩, mu_up e13 (by omega) (by omega)⟩
        by_cases ek : k / 2 = n
        · cases hpl : plI ip k
          · refine h3 k ek (hg_iff.2 ⟨hxk, hpl⟩) ?_
            by_cases e : tnP P k = 1
            · rw [if_pos e]; omega
            · rw [if_neg e]; omega
          · exact h1 k (by omega) hpl
        · exact h2 k (by omega) hxk
      · intro y14 e14
        rw [bx_1, k2, pk_mul, nI_add] at e14
        have hl14 : 2 * n + t % 2 < 2 * N := by omega
        have hl64 : 2 * n + t % 2 < 64 := by omega
        have nxt : ∀ (f' : Nat → Int32) (M' : MS) (y : Int32), M' = mVA_s M f' → y = nI t + (1 : Int32) → (∀ k, k ≠ 2 * n + t % 2 → f' k = f k) → (hgP ip P (2 * n + t % 2) = true → (tnP P (2 * n + t % 2) = 1 ↔ 1 < t) → f' (2 * n + t % 2) = bI (V (2 * n + t % 2))) → (¬ (hgP ip P (2 * n + t % 2) = true ∧ (tnP P (2 * n + t % 2) = 1 ↔ 1 < t)) → f' = f) → ∃ t' f, M' = mVA_s M f ∧ y = nI t' ∧ t' ≤ 4 ∧ (∀ k, k < 2 * N → plI ip k = true → f k = bI (V k)) ∧ (∀ k, k < 2 * n → P k ≠ tp → f k = bI (V k)) ∧ ∀ k, k / 2 = n → hgP ip P k = true → (if tnP P k = 1 then 2 + k % 2 < t' else k % 2 < t') → f k = bI (V k) := by
          intro f' M' y eM' ey u1 u2 u3
          refine ⟨t + 1, f', eM', by rw [ey, nI_1], by omega, fun k hk hpl => ?_, fun k hk hxk => ?_, fun k hk hgk q => ?_⟩
          · by_cases ek : k = 2 * n + t % 2
            · rw [u3 (fun r => ?_)]
              · exact h1 k hk hpl
              · rw [← ek, hg_iff, hpl] at r
                exact absurd r.1.2 (by decide)
            · rw [u1 k ek]; exact h1 k hk hpl
          · rw [u1 k (by omega)]; exact h2 k hk hxk
          · by_cases ek : k = 2 * n + t % 2
            · rw [ek] at hgk q ⊢
              by_cases w : tnP P (2 * n + t % 2) = 1 ↔ 1 < t
              · exact u2 hgk w
              · rw [u3 (fun r => w r.2)]
                refine h3 _ (by omega) hgk ?_
                by_cases e : tnP P (2 * n + t % 2) = 1
                · rw [if_pos e] at q ⊢
                  exfalso
                  refine w ⟨fun _ => by omega, fun _ => e⟩
                · rw [if_neg e] at q ⊢
                  have : 1 < t := by
                    rcases Nat.lt_or_ge 1 t with r | r
                    · exact r
                    · exact absurd ⟨fun r2 => absurd r2 e, fun r2 => absurd r2 (by omega)⟩ w
                  omega
            · rw [u1 k ek]
              refine h3 k hk hgk ?_
              by_cases e : tnP P k = 1
              · rw [if_pos e] at q ⊢; omega
              · rw [if_neg e] at q ⊢; omega
        subst e14
        obtain ⟨_, m1, m2⟩ := mGs_dec hK (fun c hc => (hpn c hc).2) hGs2 hl14
        rw [bx_cl (show 2 * n + t % 2 < 2 ^ 31 by omega)]
        refine ⟨bx_in (by omega) (by omega), ?_⟩
        cases hgl : hgP ip P (2 * n + t % 2)
        · rw [(m2 hgl).1]
          refine ⟨fun _ => ?_, fun r => absurd rfl r⟩
          intro y17 e17
          exact ⟨nxt f M2 y17 eM e17 (fun _ _ => rfl) (fun r => absurd (hgl.symm.trans r) (by decide)) (fun _ => rfl), mu_up e17 (by omega) (by omega)⟩
        · have hc := (hg _ hl14 hgl).1
          rw [(m1 hgl).1]
          refine ⟨fun r => absurd r (nI_m1 (by omega)), fun _ => ?_⟩
          refine r_turnsOwn hK hpn hGs2 hg hN hl14 hgl ?_
          have gen : ∀ c : Bool, (c = true ↔ 1 < t) → p_X6_mapped_133 (fun M' x3' => (∃ n f, M' = mVA_s M f ∧ x3' = nI n ∧ n ≤ N ∧ (∀ k, k < 2 * N → plI ip k = true → f k = bI (V k)) ∧ ∀ k, k < 2 * n → P k ≠ tp → f k = bI (V k)) ∧ N - x3'.toNatClampNeg < N - (nI n).toNatClampNeg) (fun M' x4' => (∃ t f, M' = mVA_s M f ∧ x4' = nI t ∧ t ≤ 4 ∧ (∀ k, k < 2 * N → plI ip k = true → f k = bI (V k)) ∧ (∀ k, k < 2 * n → P k ≠ tp → f k = bI (V k)) ∧ ∀ k, k / 2 = n → hgP ip P k = true → (if tnP P k = 1 then 2 + k % 2 < t else k % 2 < t) → f k = bI (V k)) ∧ 4 - x4'.toNatClampNeg < 4 - (nI t).toNatClampNeg) M2 (nI l) (nI n) (nI t) (nI (2 * n + t % 2)) (bI c) (bI (decide (tnP P (2 * n + t % 2) = 1))) pst := by
            intro c hct
            unfold p_X6_mapped_133
            by_cases w : tnP P (2 * n + t % 2) = 1 ↔ 1 < t
            · have ec : decide (tnP P (2 * n + t % 2) = 1) = c := by
                refine Bool.eq_iff_iff.2 ?_
                rw [decide_eq_true_iff, hct]
                exact w
              rw [ec]
              refine ⟨fun r => absurd rfl r, fun _ => ?_⟩
              refine r_byGate (nb := nb) (a := a) (V := V) eV hSh2 hGs2 hg hN hl14 hgl (hV _ hl14) (fun q hq => ?_) ?_
              · rcases (hg _ hl14 hgl).2 with g | g
                · obtain ⟨g1, g2⟩ := g.2 q hq
                  exact h2 _ (by omega) g2
                · obtain ⟨g0, g1, g2, g3, g4⟩ := g
                  have : q = 0 := by omega
                  subst this
                  obtain ⟨x1, x2⟩ := x1_lt hl14 hN
                  rw [g2]
                  cases hpl : plI ip ((2 * n + t % 2) ^^^ 1)
                  · have hgo := hg_iff.2 ⟨g3, hpl⟩
                    refine h3 _ (by omega) hgo ?_
                    rw [if_neg (by rw [g4 hgo]; omega)]
                    have := w.1 g0
                    omega
                  · exact h1 _ x1 hpl
              · rw [bx_cl (show 2 * n + t % 2 < 2 ^ 31 by omega), eV]
                refine ⟨bx_in (by omega) (by omega), ?_⟩
                intro M26 e26 y27 e27
                rw [eM, VA_VA] at e26
                exact ⟨nxt _ M26 y27 e26 e27 (fun k hk => pk_un hk) (fun _ _ => pk_us) (fun r => absurd ⟨hgl, w⟩ r), mu_up e27 (by omega) (by omega)⟩
            · have ec : ¬ bI (decide (tnP P (2 * n + t % 2) = 1)) = bI c := by
                intro r
                refine w ?_
                rw [← hct, ← decide_eq_true_iff (p := tnP P (2 * n + t % 2) = 1), ← bI_1, ← bI_1, r]
              refine ⟨fun _ => ?_, fun r => absurd r ec⟩
              intro y22 e22
              exact ⟨nxt f M2 y22 eM e22 (fun _ _ => rfl) (fun _ r => absurd r w) (fun _ => rfl), mu_up e22 (by omega) (by omega)⟩
          refine c2 (show nI t ≤ (1 : Int32) ↔ t ≤ 1 from nI_leI (b := 1) (by omega) (by omega)) (fun x => ?_) (fun x => ?_)
          · exact gen false ⟨fun r => absurd r (by decide), fun r => absurd r (by omega)⟩
          · exact gen true ⟨fun _ => by omega, fun _ => rfl⟩
theorem r_mapped44 {pst : Int32 → MS → Prop} (hI : mIp M N I ip nb inN) (hSh : mSh M K pn tr ar de) (hND : mND M = nI N) (hGs : mGs M N K pn ip P) (hg : gSt N K pn ip P) (hN : N ≤ 32) (hl : l < 2 * N) (hx : P l ≠ tp) (ha : a < 2 ^ 32) (hV : ∀ l, l < 2 * N → geq ip nb tr pn P a V l)
    (hp : ∀ f, pst (bI (V l)) (mVA_s M f)) : p_X6_mapped_44 M (nI l) (nI a) (0 : Int32) pst := by
  obtain ⟨h1, h2, h3, h4⟩ := hI
  have k2 : (2 : Int32) = nI 2 := rfl
  unfold p_X6_mapped_44
  refine ⟨fun M' x2 => ∃ i f, M' = mVA_s M f ∧ x2 = nI i ∧ i ≤ I ∧ ∀ j, j < i → f (2 * inN j) = bI (a.testBit j), fun _ x2 => I - x2.toNatClampNeg, ⟨0, mVA M, rfl, rfl, by omega, fun j hj => absurd hj (by omega)⟩, ?_⟩
  rintro M' x2 ⟨i, f, eM, rfl, hi, hf⟩
  unfold b_X6_mapped_44
  rw [show mIP M' = nI I by rw [eM, gs_mIP_VA]; exact h2]
  refine c2 (nI_leI (by omega) (by omega)) (fun z => ?_) (fun z => ?_)
  · have : i = I := by omega
    subst this
    rw [eM]
    refine r_mapped78 hSh hND hGs hg hN hl hx hV (fun k hk hpl => ?_) hp
    rw [(hV k hk).1 hpl]
    unfold plI at hpl
    rw [Bool.and_eq_true, decide_eq_true_iff] at hpl
    obtain ⟨b1, b2⟩ := h4 (k / 2) (by omega) hpl.2
    have := hf (nb (k / 2)) b1
    rw [b2, show 2 * (k / 2) = k by omega] at this
    exact this
  · obtain ⟨b1, b2, b3, b4⟩ := h3 i (by omega)
    rw [bx_cl (show i < 2 ^ 31 by omega), show mIN M' = mIN M by rw [eM, gs_mIN_VA], b1, k2, pk_mul, bx_cl (show 2 * inN i < 2 ^ 31 by omega), bx_sbit32 ha (by omega)]
    refine ⟨bx_in (by omega) (by omega), bx_in (by omega) (by omega), ?_⟩
    intro M4 e4 y5 e5
    rw [eM, gs_mVA_VA, VA_VA] at e4
    refine ⟨⟨i + 1, _, e4, by rw [e5, nI_1], by omega, fun j hj => ?_⟩, mu_up e5 (by omega) (by omega)⟩
    by_cases ej : inN j = inN i
    · have : j = i := by
        have c := (h3 j (by omega)).2.2.2
        rw [ej, b4] at c
        exact c.symm
      rw [this, pk_us]
    · rw [pk_un (by omega)]
      exact hf j (by
        rcases Nat.lt_or_ge j i with q | q
        · exact q
        · exact absurd (show inN j = inN i by rw [show j = i by omega]) ej)
end MQ
