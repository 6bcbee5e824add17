def b_X6_want_127 (g107 : MS → Int32 → Prop) (g115 : MS → Int32 → Int32 → Prop) (x2 : Int32) (post : Int32 → MS → Prop) (g127 : MS → Int32 → Int32 → Prop) (M : MS) (x1 : Int32) (x3 : Int32) : Prop := ((3 : Int32) ≤ x3 → (∀ y8 : Int32, y8 = (x2 + (1 : Int32)) → (g115 M x1 y8))) ∧ (¬ (3 : Int32) ≤ x3 → (vp_in x2 64 ∧ ((((mWA M) x2.toNatClampNeg) = 0 → (∀ y11 : Int32, y11 = (x2 + (1 : Int32)) → (g115 M x1 y11))) ∧ (¬ ((mWA M) x2.toNatClampNeg) = 0 → (vp_in (((3 : Int32) * x2) + x3) 192 ∧ (∀ y13 : Int32, y13 = ((mGP M) (((3 : Int32) * x2) + x3).toNatClampNeg) → ((y13 = (-1 : Int32) → (∀ y15 : Int32, y15 = (x3 + (1 : Int32)) → (g127 M x1 y15))) ∧ (¬ y13 = (-1 : Int32) → (vp_in y13 64 ∧ ((((mGA M) y13.toNatClampNeg) = (-1 : Int32) → (∀ y18 : Int32, y18 = (x3 + (1 : Int32)) → (g127 M x1 y18))) ∧ (¬ ((mGA M) y13.toNatClampNeg) = (-1 : Int32) → (vp_in y13 64 ∧ ((¬ ((mWA M) y13.toNatClampNeg) = 0 → (∀ y21 : Int32, y21 = (x3 + (1 : Int32)) → (g127 M x1 y21))) ∧ (((mWA M) y13.toNatClampNeg) = 0 → (vp_in y13 64 ∧ (∀ M23 : MS, M23 = (mWA_s M (upd (mWA M) y13.toNatClampNeg (vp_nar .boolean (1 : Int32)))) → (∀ y24 : Int32, y24 = (x3 + (1 : Int32)) → (g127 M23 (1 : Int32) y24))))))))))))))))))
def p_X6_want_127 (g107 : MS → Int32 → Prop) (g115 : MS → Int32 → Int32 → Prop) (M : MS) (x1 : Int32) (x2 : Int32) (x3 : Int32) (post : Int32 → MS → Prop) : Prop := ∃ (I : MS → Int32 → Int32 → Prop) (mu : MS → Int32 → Int32 → Nat), I M x1 x3 ∧ ∀ (M : MS) (x1 : Int32) (x3 : Int32), I M x1 x3 → b_X6_want_127 g107 g115 x2 post (fun M' x1' x3' => I M' x1' x3' ∧ mu M' x1' x3' < mu M x1 x3) M x1 x3
set_option maxHeartbeats 1000000 in
set_option maxRecDepth 100000 in
theorem t_X6_want_127 {p : Program} {l : Launch} {e : Env} {s : State} {m : MethodId} {args : Array Value} {below : List Frame} {meth : Method} {c : Code} {dC : Nat → ClassId} {dI : Nat → Nat → Nat} {cyI cyJ cyZ : ClassId} {r : Nat → Nat} {b : Nat → Nat} {A : Nat → Prop} {g107 : MS → Int32 → Prop} {g115 : MS → Int32 → Int32 → Prop} {M : MS} {x1 : Int32} {x2 : Int32} {x3 : Int32} {post : Int32 → MS → Prop} (G : xG p s m args meth c cX6_want 5 RX6 (some .int) wsX6_want (dC, dI) (tyA cyI cyJ cyZ) r A) (k107 : ∀ (M' : MS) (x1' : Int32) (H : Heap) (locs : List Loc) (ls : Array Slot), g107 M' x1' → va_P (dC, dI) vwCl (wM cyI cyJ cyZ b M') H → va_D A (wM cyI cyJ cyZ b M') → va_S A s.heap H locs → lv_has ls 5 [(0, .ref (b 0)), (1, .int x1')] → W p l e { frames := 6, cells := 0, slots := 0, locals := 157 } s m args below meth c H locs 0 0 (MQ below (va_Qi post (xAt (dC, dI) (tyA cyI cyJ cyZ) (wM cyI cyJ cyZ b) A) A) args s 0 0 A) (F0 m 107 ls [])) (k115 : ∀ (M' : MS) (x1' : Int32) (x2' : Int32) (H : Heap) (locs : List Loc) (ls : Array Slot), g115 M' x1' x2' → va_P (dC, dI) vwCl (wM cyI cyJ cyZ b M') H → va_D A (wM cyI cyJ cyZ b M') → va_S A s.heap H locs → lv_has ls 5 [(0, .ref (b 0)), (1, .int x1'), (2, .int x2')] → W p l e { frames := 6, cells := 0, slots := 0, locals := 157 } s m args below meth c H locs 0 0 (MQ below (va_Qi post (xAt (dC, dI) (tyA cyI cyJ cyZ) (wM cyI cyJ cyZ b) A) A) args s 0 0 A) (F0 m 115 ls [])) (h : p_X6_want_127 g107 g115 M x1 x2 x3 post) {H : Heap} {locs : List Loc} {ls : Array Slot} (hP : va_P (dC, dI) vwCl (wM cyI cyJ cyZ b M) H) (hD : va_D A (wM cyI cyJ cyZ b M)) (hS : va_S A s.heap H locs) (hl : lv_has ls 5 [(0, .ref (b 0)), (1, .int x1), (2, .int x2), (3, .int x3)]) : W p l e { frames := 6, cells := 0, slots := 0, locals := 157 } s m args below meth c H locs 0 0 (MQ below (va_Qi post (xAt (dC, dI) (tyA cyI cyJ cyZ) (wM cyI cyJ cyZ b) A) A) args s 0 0 A) (F0 m 127 ls []) := by
  obtain ⟨hx, hb, hml, hown, hts, hr, hlocks, hK, hE, hA⟩ := id G
  have hiX6 : ∀ w ∈ wsX60, w ∈ wsX6_want := by decide +kernel
  have hf59 := hts (.fieldLink RX6 59 "CellMappingModel" "wants" "[Z") (by decide +kernel)
  have hf56 := hts (.fieldLink RX6 56 "CellMappingModel" "gatePins" "[I") (by decide +kernel)
  have hf53 := hts (.fieldLink RX6 53 "CellMappingModel" "gates" "[I") (by decide +kernel)
  obtain ⟨I, mu, h0, hstep⟩ := h
  suffices hgo : ∀ (n : Nat) (M : MS) (x1 : Int32) (x3 : Int32), I M x1 x3 → mu M x1 x3 < n → ∀ (H : Heap) (locs : List Loc) (ls : Array Slot), va_P (dC, dI) vwCl (wM cyI cyJ cyZ b M) H → va_D A (wM cyI cyJ cyZ b M) → va_S A s.heap H locs → lv_has ls 5 [(0, .ref (b 0)), (1, .int x1), (2, .int x2), (3, .int x3)] → W p l e { frames := 6, cells := 0, slots := 0, locals := 157 } s m args below meth c H locs 0 0 (MQ below (va_Qi post (xAt (dC, dI) (tyA cyI cyJ cyZ) (wM cyI cyJ cyZ b) A) A) args s 0 0 A) (F0 m 127 ls []) from hgo (mu M x1 x3 + 1) M x1 x3 h0 (Nat.lt_succ_self _) H locs ls hP hD hS hl
  clear h0 hP hD hS hl
  intro n
  induction n with
  | zero => intro M x1 x3 _ h; exact absurd h (Nat.not_lt_zero _)
  | succ n ih =>
    intro M x1 x3 hI hmu H locs ls hP hD hS hl
    have h := hstep M x1 x3 hI
    unfold b_X6_want_127 at h
    have k127 : ∀ (M' : MS) (x1' : Int32) (x3' : Int32) (H : Heap) (locs : List Loc) (ls : Array Slot), (fun M' x1' x3' => I M' x1' x3' ∧ mu M' x1' x3' < mu M x1 x3) M' x1' x3' → va_P (dC, dI) vwCl (wM cyI cyJ cyZ b M') H → va_D A (wM cyI cyJ cyZ b M') → va_S A s.heap H locs → lv_has ls 5 [(0, .ref (b 0)), (1, .int x1'), (2, .int x2), (3, .int x3')] → W p l e { frames := 6, cells := 0, slots := 0, locals := 157 } s m args below meth c H locs 0 0 (MQ below (va_Qi post (xAt (dC, dI) (tyA cyI cyJ cyZ) (wM cyI cyJ cyZ b) A) A) args s 0 0 A) (F0 m 127 ls []) := fun M' x1' x3' H locs ls hh hP hD hS hl => ih M' x1' x3' hh.1 (Nat.lt_of_lt_of_le hh.2 (Nat.le_of_lt_succ hmu)) H locs ls hP hD hS hl
    generalize (fun M' x1' x3' => I M' x1' x3' ∧ mu M' x1' x3' < mu M x1 x3) = g127 at h k127
    refine lv_iload_n hx hb dX6_want_127 rfl (lv_at hl 3 rfl) ?_
    refine lv_iconst (v := 3) hx hb dX6_want_128 (by decide) ?_
    refine lv_icmp_ge (tgt := 196) hx hb dX6_want_129 (by decide) (fun c7 => ?_) (fun c7 => ?_)
    · have h := h.1 c7
      obtain ⟨y8, ey8⟩ : ∃ z : Int32, z = (x2 + (1 : Int32)) := ⟨_, rfl⟩
      have h := h y8 ey8
      refine lv_iinc (v := y8) (lv' := [(2, .int y8), (0, .ref (b 0)), (1, .int x1), (3, .int x3)]) hx hb dX6_want_196 hl (k := 2) rfl (by rw [ey8]; rfl) (by decide) rfl (fun ls hl => ?_)
      refine lv_goto (tgt := 115) hx hb dX6_want_199 (by decide) ?_
      exact k115 M x1 y8 H locs ls h hP hD hS (lv_sub hl [1, 2, 0] rfl)
    · have h := h.2 c7
      refine lv_aload_n hx hb dX6_want_132 rfl (lv_at hl 0 rfl) ?_
      refine va_get (D := (dC, dI)) (ci := 5) (v := .ref (b 17)) (C := RX6) (T := TX6) (N := 27) hx hb hts hiX6 hown hK hP 0 rfl rfl 23 (by decide) hf59 (fun _ h9 => h9) rfl dX6_want_133 ?_
      refine lv_iload_n hx hb dX6_want_136 rfl (lv_at hl 2 rfl) ?_
      obtain ⟨i9, h⟩ := h
      refine va_zald (D := (dC, dI)) hx hb hK hP 17 2 rfl rfl i9 dX6_want_137 ?_
      refine lv_if_eq (tgt := 196) hx hb dX6_want_138 (by decide) (fun c10 => ?_) (fun c10 => ?_)
      · have h := h.1 c10
        obtain ⟨y11, ey11⟩ : ∃ z : Int32, z = (x2 + (1 : Int32)) := ⟨_, rfl⟩
        have h := h y11 ey11
        refine lv_iinc (v := y11) (lv' := [(2, .int y11), (0, .ref (b 0)), (1, .int x1), (3, .int x3)]) hx hb dX6_want_196 hl (k := 2) rfl (by rw [ey11]; rfl) (by decide) rfl (fun ls hl => ?_)
        refine lv_goto (tgt := 115) hx hb dX6_want_199 (by decide) ?_
        exact k115 M x1 y11 H locs ls h hP hD hS (lv_sub hl [1, 2, 0] rfl)
      · have h := h.2 c10
        refine lv_aload_n hx hb dX6_want_141 rfl (lv_at hl 0 rfl) ?_
        refine va_get (D := (dC, dI)) (ci := 5) (v := .ref (b 16)) (C := RX6) (T := TX6) (N := 27) hx hb hts hiX6 hown hK hP 0 rfl rfl 22 (by decide) hf56 (fun _ h9 => h9) rfl dX6_want_142 ?_
        refine lv_iconst (v := 3) hx hb dX6_want_145 (by decide) ?_
        refine lv_iload_n hx hb dX6_want_146 rfl (lv_at hl 2 rfl) ?_
        refine lv_imul hx hb dX6_want_147 ?_
        refine lv_iload_n hx hb dX6_want_148 rfl (lv_at hl 3 rfl) ?_
        refine lv_iadd hx hb dX6_want_149 ?_
        obtain ⟨i12, h⟩ := h
        refine va_iald (D := (dC, dI)) hx hb hK hP 16 0 rfl rfl i12 dX6_want_150 ?_
        refine lv_topi (fun y13 ey13 => ?_)
        have h := h y13 ey13
        refine lv_istore (lv' := [(4, .int y13), (0, .ref (b 0)), (1, .int x1), (2, .int x2), (3, .int x3)]) hx hb dX6_want_151 hl (by decide) rfl (fun ls hl => ?_)
        refine lv_iload hx hb dX6_want_153 (lv_at hl 0 rfl) ?_
        refine lv_iconst (v := -1) hx hb dX6_want_155 (by decide) ?_
        refine lv_icmp_eq (tgt := 190) hx hb dX6_want_156 (by decide) (fun c14 => ?_) (fun c14 => ?_)
        · have h := h.1 c14
          obtain ⟨y15, ey15⟩ : ∃ z : Int32, z = (x3 + (1 : Int32)) := ⟨_, rfl⟩
          have h := h y15 ey15
          refine lv_iinc (v := y15) (lv' := [(3, .int y15), (4, .int y13), (0, .ref (b 0)), (1, .int x1), (2, .int x2)]) hx hb dX6_want_190 hl (k := 4) rfl (by rw [ey15]; rfl) (by decide) rfl (fun ls hl => ?_)
          refine lv_goto (tgt := 127) hx hb dX6_want_193 (by decide) ?_
          exact k127 M x1 y15 H locs ls h hP hD hS (lv_sub hl [2, 3, 4, 0] rfl)
        · have h := h.2 c14
          refine lv_aload_n hx hb dX6_want_159 rfl (lv_at hl 1 rfl) ?_
          refine va_get (D := (dC, dI)) (ci := 5) (v := .ref (b 15)) (C := RX6) (T := TX6) (N := 27) hx hb hts hiX6 hown hK hP 0 rfl rfl 21 (by decide) hf53 (fun _ h9 => h9) rfl dX6_want_160 ?_
          refine lv_iload hx hb dX6_want_163 (lv_at hl 0 rfl) ?_
          obtain ⟨i16, h⟩ := h
          refine va_iald (D := (dC, dI)) hx hb hK hP 15 0 rfl rfl i16 dX6_want_165 ?_
          refine lv_iconst (v := -1) hx hb dX6_want_166 (by decide) ?_
          refine lv_icmp_eq (tgt := 190) hx hb dX6_want_167 (by decide) (fun c17 => ?_) (fun c17 => ?_)
          · have h := h.1 c17
            obtain ⟨y18, ey18⟩ : ∃ z : Int32, z = (x3 + (1 : Int32)) := ⟨_, rfl⟩
            have h := h y18 ey18
            refine lv_iinc (v := y18) (lv' := [(3, .int y18), (4, .int y13), (0, .ref (b 0)), (1, .int x1), (2, .int x2)]) hx hb dX6_want_190 hl (k := 4) rfl (by rw [ey18]; rfl) (by decide) rfl (fun ls hl => ?_)
            refine lv_goto (tgt := 127) hx hb dX6_want_193 (by decide) ?_
            exact k127 M x1 y18 H locs ls h hP hD hS (lv_sub hl [2, 3, 4, 0] rfl)
          · have h := h.2 c17
            refine lv_aload_n hx hb dX6_want_170 rfl (lv_at hl 1 rfl) ?_
            refine va_get (D := (dC, dI)) (ci := 5) (v := .ref (b 17)) (C := RX6) (T := TX6) (N := 27) hx hb hts hiX6 hown hK hP 0 rfl rfl 23 (by decide) hf59 (fun _ h9 => h9) rfl dX6_want_171 ?_
            refine lv_iload hx hb dX6_want_174 (lv_at hl 0 rfl) ?_
            obtain ⟨i19, h⟩ := h
            refine va_zald (D := (dC, dI)) hx hb hK hP 17 2 rfl rfl i19 dX6_want_176 ?_
            refine lv_if_ne (tgt := 190) hx hb dX6_want_177 (by decide) (fun c20 => ?_) (fun c20 => ?_)
            · have h := h.1 c20
              obtain ⟨y21, ey21⟩ : ∃ z : Int32, z = (x3 + (1 : Int32)) := ⟨_, rfl⟩
              have h := h y21 ey21
              refine lv_iinc (v := y21) (lv' := [(3, .int y21), (4, .int y13), (0, .ref (b 0)), (1, .int x1), (2, .int x2)]) hx hb dX6_want_190 hl (k := 4) rfl (by rw [ey21]; rfl) (by decide) rfl (fun ls hl => ?_)
              refine lv_goto (tgt := 127) hx hb dX6_want_193 (by decide) ?_
              exact k127 M x1 y21 H locs ls h hP hD hS (lv_sub hl [2, 3, 4, 0] rfl)
            · have h := h.2 c20
              refine lv_aload_n hx hb dX6_want_180 rfl (lv_at hl 1 rfl) ?_
              refine va_get (D := (dC, dI)) (ci := 5) (v := .ref (b 17)) (C := RX6) (T := TX6) (N := 27) hx hb hts hiX6 hown hK hP 0 rfl rfl 23 (by decide) hf59 (fun _ h9 => h9) rfl dX6_want_181 ?_
              refine lv_iload hx hb dX6_want_184 (lv_at hl 0 rfl) ?_
              refine lv_iconst (v := 1) hx hb dX6_want_186 (by decide) ?_
              obtain ⟨i22, h⟩ := h
              refine va_zast (D := (dC, dI)) hx hb hK hP hD hS 17 2 rfl rfl i22 dX6_want_187 (fun H locs hP hD hS => ?_)
              obtain ⟨M23, eM23⟩ : ∃ z : MS, z = (mWA_s M (upd (mWA M) y13.toNatClampNeg (vp_nar .boolean (1 : Int32)))) := ⟨_, rfl⟩
              have h := h M23 eM23
              have hP := nP_mWA eM23 hP
              have hD := nD_mWA eM23 hD
              refine lv_iconst (v := 1) hx hb dX6_want_188 (by decide) ?_
              refine lv_istore_n (lv' := [(1, .int (1 : Int32)), (4, .int y13), (0, .ref (b 0)), (2, .int x2), (3, .int x3)]) hx hb dX6_want_189 rfl hl (by decide) rfl (fun ls hl => ?_)
              obtain ⟨y24, ey24⟩ : ∃ z : Int32, z = (x3 + (1 : Int32)) := ⟨_, rfl⟩
              have h := h y24 ey24
              refine lv_iinc (v := y24) (lv' := [(3, .int y24), (1, .int (1 : Int32)), (4, .int y13), (0, .ref (b 0)), (2, .int x2)]) hx hb dX6_want_190 hl (k := 4) rfl (by rw [ey24]; rfl) (by decide) rfl (fun ls hl => ?_)
              refine lv_goto (tgt := 127) hx hb dX6_want_193 (by decide) ?_
              exact k127 M23 (1 : Int32) y24 H locs ls h hP hD hS (lv_sub hl [3, 1, 4, 0] rfl)
def b_X6_want_115 (g107 : MS → Int32 → Prop) (post : Int32 → MS → Prop) (g115 : MS → Int32 → Int32 → Prop) (M : MS) (x1 : Int32) (x2 : Int32) : Prop := (((2 : Int32) * (mND M)) ≤ x2 → (g107 M x1)) ∧ (¬ ((2 : Int32) * (mND M)) ≤ x2 → (p_X6_want_127 g107 g115 M x1 x2 (0 : Int32) post))
def p_X6_want_115 (g107 : MS → Int32 → Prop) (M : MS) (x1 : Int32) (x2 : Int32) (post : Int32 → MS → Prop) : Prop := ∃ (I : MS → Int32 → Int32 → Prop) (mu : MS → Int32 → Int32 → Nat), I M x1 x2 ∧ ∀ (M : MS) (x1 : Int32) (x2 : Int32), I M x1 x2 → b_X6_want_115 g107 post (fun M' x1' x2' => I M' x1' x2' ∧ mu M' x1' x2' < mu M x1 x2) M x1 x2
set_option maxHeartbeats 1000000 in
set_option maxRecDepth 100000 in
theorem t_X6_want_115 {p : Program} {l : Launch} {e : Env} {s : State} {m : MethodId} {args : Array Value} {below : List Frame} {meth : Method} {c : Code} {dC : Nat → ClassId} {dI : Nat → Nat → Nat} {cyI cyJ cyZ : ClassId} {r : Nat → Nat} {b : Nat → Nat} {A : Nat → Prop} {g107 : MS → Int32 → Prop} {M : MS} {x1 : Int32} {x2 : Int32} {post : Int32 → MS → Prop} (G : xG p s m args meth c cX6_want 5 RX6 (some .int) wsX6_want (dC, dI) (tyA cyI cyJ cyZ) r A) (k107 : ∀ (M' : MS) (x1' : Int32) (H : Heap) (locs : List Loc) (ls : Array Slot), g107 M' x1' → va_P (dC, dI) vwCl (wM cyI cyJ cyZ b M') H → va_D A (wM cyI cyJ cyZ b M') → va_S A s.heap H locs → lv_has ls 5 [(0, .ref (b 0)), (1, .int x1')] → W p l e { frames := 6, cells := 0, slots := 0, locals := 157 } s m args below meth c H locs 0 0 (MQ below (va_Qi post (xAt (dC, dI) (tyA cyI cyJ cyZ) (wM cyI cyJ cyZ b) A) A) args s 0 0 A) (F0 m 107 ls [])) (h : p_X6_want_115 g107 M x1 x2 post) {H : Heap} {locs : List Loc} {ls : Array Slot} (hP : va_P (dC, dI) vwCl (wM cyI cyJ cyZ b M) H) (hD : va_D A (wM cyI cyJ cyZ b M)) (hS : va_S A s.heap H locs) (hl : lv_has ls 5 [(0, .ref (b 0)), (1, .int x1), (2, .int x2)]) : W p l e { frames := 6, cells := 0, slots := 0, locals := 157 } s m args below meth c H locs 0 0 (MQ below (va_Qi post (xAt (dC, dI) (tyA cyI cyJ cyZ) (wM cyI cyJ cyZ b) A) A) args s 0 0 A) (F0 m 115 ls []) := by
  obtain ⟨hx, hb, hml, hown, hts, hr, hlocks, hK, hE, hA⟩ := id G
  have hiX6 : ∀ w ∈ wsX60, w ∈ wsX6_want := by decide +kernel
  have hf79 := hts (.fieldLink RX6 79 "CellMappingModel" "nodes" "I") (by decide +kernel)
  obtain ⟨I, mu, h0, hstep⟩ := h
  suffices hgo : ∀ (n : Nat) (M : MS) (x1 : Int32) (x2 : Int32), I M x1 x2 → mu M x1 x2 < n → ∀ (H : Heap) (locs : List Loc) (ls : Array Slot), va_P (dC, dI) vwCl (wM cyI cyJ cyZ b M) H → va_D A (wM cyI cyJ cyZ b M) → va_S A s.heap H locs → lv_has ls 5 [(0, .ref (b 0)), (1, .int x1), (2, .int x2)] → W p l e { frames := 6, cells := 0, slots := 0, locals := 157 } s m args below meth c H locs 0 0 (MQ below (va_Qi post (xAt (dC, dI) (tyA cyI cyJ cyZ) (wM cyI cyJ cyZ b) A) A) args s 0 0 A) (F0 m 115 ls []) from hgo (mu M x1 x2 + 1) M x1 x2 h0 (Nat.lt_succ_self _) H locs ls hP hD hS hl
  clear h0 hP hD hS hl
  intro n
  induction n with
  | zero => intro M x1 x2 _ h; exact absurd h (Nat.not_lt_zero _)
  | succ n ih =>
    intro M x1 x2 hI hmu H locs ls hP hD hS hl
    have h := hstep M x1 x2 hI
    unfold b_X6_want_115 at h
    have k115 : ∀ (M' : MS) (x1' : Int32) (x2' : Int32) (H : Heap) (locs : List Loc) (ls : Array Slot), (fun M' x1' x2' => I M' x1' x2' ∧ mu M' x1' x2' < mu M x1 x2) M' x1' x2' → va_P (dC, dI) vwCl (wM cyI cyJ cyZ b M') H → va_D A (wM cyI cyJ cyZ b M') → va_S A s.heap H locs → lv_has ls 5 [(0, .ref (b 0)), (1, .int x1'), (2, .int x2')] → W p l e { frames := 6, cells := 0, slots := 0, locals := 157 } s m args below meth c H locs 0 0 (MQ below (va_Qi post (xAt (dC, dI) (tyA cyI cyJ cyZ) (wM cyI cyJ cyZ b) A) A) args s 0 0 A) (F0 m 115 ls []) := fun M' x1' x2' H locs ls hh hP hD hS hl => ih M' x1' x2' hh.1 (Nat.lt_of_lt_of_le hh.2 (Nat.le_of_lt_succ hmu)) H locs ls hP hD hS hl
    generalize (fun M' x1' x2' => I M' x1' x2' ∧ mu M' x1' x2' < mu M x1 x2) = g115 at h k115
    refine lv_iload_n hx hb dX6_want_115 rfl (lv_at hl 2 rfl) ?_
    refine lv_iconst (v := 2) hx hb dX6_want_116 (by decide) ?_
    refine lv_aload_n hx hb dX6_want_117 rfl (lv_at hl 0 rfl) ?_
    refine va_get (D := (dC, dI)) (ci := 5) (v := .int (mND M)) (C := RX6) (T := TX6) (N := 27) hx hb hts hiX6 hown hK hP 0 rfl rfl 1 (by decide) hf79 (fun _ h9 => h9) rfl dX6_want_118 ?_
    refine lv_imul hx hb dX6_want_121 ?_
    refine lv_icmp_ge (tgt := 202) hx hb dX6_want_122 (by decide) (fun c6 => ?_) (fun c6 => ?_)
    · have h := h.1 c6
      refine lv_goto (tgt := 107) hx hb dX6_want_202 (by decide) ?_
      exact k107 M x1 H locs ls h hP hD hS (lv_sub hl [0, 1] rfl)
    · have h := h.2 c6
      refine lv_iconst (v := 0) hx hb dX6_want_125 (by decide) ?_
      refine lv_istore_n (lv' := [(3, .int (0 : Int32)), (0, .ref (b 0)), (1, .int x1), (2, .int x2)]) hx hb dX6_want_126 rfl hl (by decide) rfl (fun ls hl => ?_)
      exact t_X6_want_127 G k107 k115 h hP hD hS (lv_sub hl [1, 2, 3, 0] rfl)
def b_X6_want_107 (post : Int32 → MS → Prop) (g107 : MS → Int32 → Prop) (M : MS) (x1 : Int32) : Prop := (x1 = 0 → (post (-1 : Int32) M)) ∧ (¬ x1 = 0 → (p_X6_want_115 g107 M (0 : Int32) (0 : Int32) post))
def p_X6_want_107 (M : MS) (x1 : Int32) (post : Int32 → MS → Prop) : Prop := ∃ (I : MS → Int32 → Prop) (mu : MS → Int32 → Nat), I M x1 ∧ ∀ (M : MS) (x1 : Int32), I M x1 → b_X6_want_107 post (fun M' x1' => I M' x1' ∧ mu M' x1' < mu M x1) M x1
set_option maxHeartbeats 1000000 in
set_option maxRecDepth 100000 in
theorem t_X6_want_107 {p : Program} {l : Launch} {e : Env} {s : State} {m : MethodId} {args : Array Value} {below : List Frame} {meth : Method} {c : Code} {dC : Nat → ClassId} {dI : Nat → Nat → Nat} {cyI cyJ cyZ : ClassId} {r : Nat → Nat} {b : Nat → Nat} {A : Nat → Prop} {M : MS} {x1 : Int32} {post : Int32 → MS → Prop} (G : xG p s m args meth c cX6_want 5 RX6 (some .int) wsX6_want (dC, dI) (tyA cyI cyJ cyZ) r A) (h : p_X6_want_107 M x1 post) {H : Heap} {locs : List Loc} {ls : Array Slot} (hP : va_P (dC, dI) vwCl (wM cyI cyJ cyZ b M) H) (hD : va_D A (wM cyI cyJ cyZ b M)) (hS : va_S A s.heap H locs) (hl : lv_has ls 5 [(0, .ref (b 0)), (1, .int x1)]) : W p l e { frames := 6, cells := 0, slots := 0, locals := 157 } s m args below meth c H locs 0 0 (MQ below (va_Qi post (xAt (dC, dI) (tyA cyI cyJ cyZ) (wM cyI cyJ cyZ b) A) A) args s 0 0 A) (F0 m 107 ls []) := by
  obtain ⟨hx, hb, hml, hown, hts, hr, hlocks, hK, hE, hA⟩ := id G
  obtain ⟨I, mu, h0, hstep⟩ := h
  suffices hgo : ∀ (n : Nat) (M : MS) (x1 : Int32), I M x1 → mu M x1 < n → ∀ (H : Heap) (locs : List Loc) (ls : Array Slot), va_P (dC, dI) vwCl (wM cyI cyJ cyZ b M) H → va_D A (wM cyI cyJ cyZ b M) → va_S A s.heap H locs → lv_has ls 5 [(0, .ref (b 0)), (1, .int x1)] → W p l e { frames := 6, cells := 0, slots := 0, locals := 157 } s m args below meth c H locs 0 0 (MQ below (va_Qi post (xAt (dC, dI) (tyA cyI cyJ cyZ) (wM cyI cyJ cyZ b) A) A) args s 0 0 A) (F0 m 107 ls []) from hgo (mu M x1 + 1) M x1 h0 (Nat.lt_succ_self _) H locs ls hP hD hS hl
  clear h0 hP hD hS hl
  intro n
  induction n with
  | zero => intro M x1 _ h; exact absurd h (Nat.not_lt_zero _)
  | succ n ih =>
    intro M x1 hI hmu H locs ls hP hD hS hl
    have h := hstep M x1 hI
    unfold b_X6_want_107 at h
    have k107 : ∀ (M' : MS) (x1' : Int32) (H : Heap) (locs : List Loc) (ls : Array Slot), (fun M' x1' => I M' x1' ∧ mu M' x1' < mu M x1) M' x1' → va_P (dC, dI) vwCl (wM cyI cyJ cyZ b M') H → va_D A (wM cyI cyJ cyZ b M') → va_S A s.heap H locs → lv_has ls 5 [(0, .ref (b 0)), (1, .int x1')] → W p l e { frames := 6, cells := 0, slots := 0, locals := 157 } s m args below meth c H locs 0 0 (MQ below (va_Qi post (xAt (dC, dI) (tyA cyI cyJ cyZ) (wM cyI cyJ cyZ b) A) A) args s 0 0 A) (F0 m 107 ls []) := fun M' x1' H locs ls hh hP hD hS hl => ih M' x1' hh.1 (Nat.lt_of_lt_of_le hh.2 (Nat.le_of_lt_succ hmu)) H locs ls hP hD hS hl
    generalize (fun M' x1' => I M' x1' ∧ mu M' x1' < mu M x1) = g107 at h k107
    refine lv_iload_n hx hb dX6_want_107 rfl (lv_at hl 1 rfl) ?_
    refine lv_if_eq (tgt := 205) hx hb dX6_want_108 (by decide) (fun c5 => ?_) (fun c5 => ?_)
    · have h := h.1 c5
      refine lv_iconst (v := -1) hx hb dX6_want_205 (by decide) ?_
      exact xr_i (S := M) hx hb hr hlocks hK hP hD hS h (Nat.le_of_ble_eq_true rfl) (Nat.le_of_ble_eq_true rfl) dX6_want_206
    · have h := h.2 c5
      refine lv_iconst (v := 0) hx hb dX6_want_111 (by decide) ?_
      refine lv_istore_n (lv' := [(1, .int (0 : Int32)), (0, .ref (b 0))]) hx hb dX6_want_112 rfl hl (by decide) rfl (fun ls hl => ?_)
      refine lv_iconst (v := 0) hx hb dX6_want_113 (by decide) ?_
      refine lv_istore_n (lv' := [(2, .int (0 : Int32)), (1, .int (0 : Int32)), (0, .ref (b 0))]) hx hb dX6_want_114 rfl hl (by decide) rfl (fun ls hl => ?_)
      exact t_X6_want_115 G k107 h hP hD hS (lv_sub hl [2, 1, 0] rfl)
def b_X6_want_60 (post : Int32 → MS → Prop) (g60 : MS → Int32 → Prop) (M : MS) (x1 : Int32) : Prop := ((mOU M) ≤ x1 → (p_X6_want_107 M (1 : Int32) post)) ∧ (¬ (mOU M) ≤ x1 → (vp_in x1 6 ∧ (vp_in x1 6 ∧ (vp_in ((mOL M) x1.toNatClampNeg) 64 ∧ ((((mGA M) ((mOL M) x1.toNatClampNeg).toNatClampNeg) = (-1 : Int32) → (vp_in ((mOL M) x1.toNatClampNeg) 64 ∧ (∀ M30 : MS, M30 = (mWA_s M (upd (mWA M) ((mOL M) x1.toNatClampNeg).toNatClampNeg (vp_nar .boolean (0 : Int32)))) → (∀ y31 : Int32, y31 = (x1 + (1 : Int32)) → (g60 M30 y31))))) ∧ (¬ ((mGA M) ((mOL M) x1.toNatClampNeg).toNatClampNeg) = (-1 : Int32) → (vp_in ((mOL M) x1.toNatClampNeg) 64 ∧ (∀ M33 : MS, M33 = (mWA_s M (upd (mWA M) ((mOL M) x1.toNatClampNeg).toNatClampNeg (vp_nar .boolean (1 : Int32)))) → (∀ y34 : Int32, y34 = (x1 + (1 : Int32)) → (g60 M33 y34))))))))))
def p_X6_want_60 (M : MS) (x1 : Int32) (post : Int32 → MS → Prop) : Prop := ∃ (I : MS → Int32 → Prop) (mu : MS → Int32 → Nat), I M x1 ∧ ∀ (M : MS) (x1 : Int32), I M x1 → b_X6_want_60 post (fun M' x1' => I M' x1' ∧ mu M' x1' < mu M x1) M x1
set_option maxHeartbeats 1000000 in
set_option maxRecDepth 100000 in
theorem t_X6_want_60 {p : Program} {l : Launch} {e : Env} {s : State} {m : MethodId} {args : Array Value} {below : List Frame} {meth : Method} {c : Code} {dC : Nat → ClassId} {dI : Nat → Nat → Nat} {cyI cyJ cyZ : ClassId} {r : Nat → Nat} {b : Nat → Nat} {A : Nat → Prop} {M : MS} {x1 : Int32} {post : Int32 → MS → Prop} (G : xG p s m args meth c cX6_want 5 RX6 (some .int) wsX6_want (dC, dI) (tyA cyI cyJ cyZ) r A) (h : p_X6_want_60 M x1 post) {H : Heap} {locs : List Loc} {ls : Array Slot} (hP : va_P (dC, dI) vwCl (wM cyI cyJ cyZ b M) H) (hD : va_D A (wM cyI cyJ cyZ b M)) (hS : va_S A s.heap H locs) (hl : lv_has ls 5 [(0, .ref (b 0)), (1, .int x1)]) : W p l e { frames := 6, cells := 0, slots := 0, locals := 157 } s m args below meth c H locs 0 0 (MQ below (va_Qi post (xAt (dC, dI) (tyA cyI cyJ cyZ) (wM cyI cyJ cyZ b) A) A) args s 0 0 A) (F0 m 60 ls []) := by
  obtain ⟨hx, hb, hml, hown, hts, hr, hlocks, hK, hE, hA⟩ := id G
  have hiX6 : ∀ w ∈ wsX60, w ∈ wsX6_want := by decide +kernel
  have hf104 := hts (.fieldLink RX6 104 "CellMappingModel" "outputs" "I") (by decide +kernel)
  have hf59 := hts (.fieldLink RX6 59 "CellMappingModel" "wants" "[Z") (by decide +kernel)
  have hf22 := hts (.fieldLink RX6 22 "CellMappingModel" "outputLiterals" "[I") (by decide +kernel)
  have hf53 := hts (.fieldLink RX6 53 "CellMappingModel" "gates" "[I") (by decide +kernel)
  obtain ⟨I, mu, h0, hstep⟩ := h
  suffices hgo : ∀ (n : Nat) (M : MS) (x1 : Int32), I M x1 → mu M x1 < n → ∀ (H : Heap) (locs : List Loc) (ls : Array Slot), va_P (dC, dI) vwCl (wM cyI cyJ cyZ b M) H → va_D A (wM cyI cyJ cyZ b M) → va_S A s.heap H locs → lv_has ls 5 [(0, .ref (b 0)), (1, .int x1)] → W p l e { frames := 6, cells := 0, slots := 0, locals := 157 } s m args below meth c H locs 0 0 (MQ below (va_Qi post (xAt (dC, dI) (tyA cyI cyJ cyZ) (wM cyI cyJ cyZ b) A) A) args s 0 0 A) (F0 m 60 ls []) from hgo (mu M x1 + 1) M x1 h0 (Nat.lt_succ_self _) H locs ls hP hD hS hl
  clear h0 hP hD hS hl
  intro n
  induction n with
  | zero => intro M x1 _ h; exact absurd h (Nat.not_lt_zero _)
  | succ n ih =>
    intro M x1 hI hmu H locs ls hP hD hS hl
    have h := hstep M x1 hI
    unfold b_X6_want_60 at h
    have k60 : ∀ (M' : MS) (x1' : Int32) (H : Heap) (locs : List Loc) (ls : Array Slot), (fun M' x1' => I M' x1' ∧ mu M' x1' < mu M x1) M' x1' → va_P (dC, dI) vwCl (wM cyI cyJ cyZ b M') H → va_D A (wM cyI cyJ cyZ b M') → va_S A s.heap H locs → lv_has ls 5 [(0, .ref (b 0)), (1, .int x1')] → W p l e { frames := 6, cells := 0, slots := 0, locals := 157 } s m args below meth c H locs 0 0 (MQ below (va_Qi post (xAt (dC, dI) (tyA cyI cyJ cyZ) (wM cyI cyJ cyZ b) A) A) args s 0 0 A) (F0 m 60 ls []) := fun M' x1' H locs ls hh hP hD hS hl => ih M' x1' hh.1 (Nat.lt_of_lt_of_le hh.2 (Nat.le_of_lt_succ hmu)) H locs ls hP hD hS hl
    generalize (fun M' x1' => I M' x1' ∧ mu M' x1' < mu M x1) = g60 at h k60
    refine lv_iload_n hx hb dX6_want_60 rfl (lv_at hl 1 rfl) ?_
    refine lv_aload_n hx hb dX6_want_61 rfl (lv_at hl 0 rfl) ?_
    refine va_get (D := (dC, dI)) (ci := 5) (v := .int (mOU M)) (C := RX6) (T := TX6) (N := 27) hx hb hts hiX6 hown hK hP 0 rfl rfl 8 (by decide) hf104 (fun _ h9 => h9) rfl dX6_want_62 ?_
    refine lv_icmp_ge (tgt := 105) hx hb dX6_want_65 (by decide) (fun c4 => ?_) (fun c4 => ?_)
    · have h := h.1 c4
      refine lv_iconst (v := 1) hx hb dX6_want_105 (by decide) ?_
      refine lv_istore_n (lv' := [(1, .int (1 : Int32)), (0, .ref (b 0))]) hx hb dX6_want_106 rfl hl (by decide) rfl (fun ls hl => ?_)
      exact t_X6_want_107 G h hP hD hS (lv_sub hl [1, 0] rfl)
    · have h := h.2 c4
      refine lv_aload_n hx hb dX6_want_68 rfl (lv_at hl 0 rfl) ?_
      refine va_get (D := (dC, dI)) (ci := 5) (v := .ref (b 17)) (C := RX6) (T := TX6) (N := 27) hx hb hts hiX6 hown hK hP 0 rfl rfl 23 (by decide) hf59 (fun _ h9 => h9) rfl dX6_want_69 ?_
      refine lv_aload_n hx hb dX6_want_72 rfl (lv_at hl 0 rfl) ?_
      refine va_get (D := (dC, dI)) (ci := 5) (v := .ref (b 5)) (C := RX6) (T := TX6) (N := 27) hx hb hts hiX6 hown hK hP 0 rfl rfl 9 (by decide) hf22 (fun _ h9 => h9) rfl dX6_want_73 ?_
      refine lv_iload_n hx hb dX6_want_76 rfl (lv_at hl 1 rfl) ?_
      obtain ⟨i25, h⟩ := h
      refine va_iald (D := (dC, dI)) hx hb hK hP 5 0 rfl rfl i25 dX6_want_77 ?_
      refine lv_aload_n hx hb dX6_want_78 rfl (lv_at hl 0 rfl) ?_
      refine va_get (D := (dC, dI)) (ci := 5) (v := .ref (b 15)) (C := RX6) (T := TX6) (N := 27) hx hb hts hiX6 hown hK hP 0 rfl rfl 21 (by decide) hf53 (fun _ h9 => h9) rfl dX6_want_79 ?_
      refine lv_aload_n hx hb dX6_want_82 rfl (lv_at hl 0 rfl) ?_
      refine va_get (D := (dC, dI)) (ci := 5) (v := .ref (b 5)) (C := RX6) (T := TX6) (N := 27) hx hb hts hiX6 hown hK hP 0 rfl rfl 9 (by decide) hf22 (fun _ h9 => h9) rfl dX6_want_83 ?_
      refine lv_iload_n hx hb dX6_want_86 rfl (lv_at hl 1 rfl) ?_
      obtain ⟨i26, h⟩ := h
      refine va_iald (D := (dC, dI)) hx hb hK hP 5 0 rfl rfl i26 dX6_want_87 ?_
      obtain ⟨i27, h⟩ := h
      refine va_iald (D := (dC, dI)) hx hb hK hP 15 0 rfl rfl i27 dX6_want_88 ?_
      refine lv_iconst (v := -1) hx hb dX6_want_89 (by decide) ?_
      refine lv_icmp_eq (tgt := 97) hx hb dX6_want_90 (by decide) (fun c28 => ?_) (fun c28 => ?_)
      · have h := h.1 c28
        refine lv_iconst (v := 0) hx hb dX6_want_97 (by decide) ?_
        obtain ⟨i29, h⟩ := h
        refine va_zast (D := (dC, dI)) hx hb hK hP hD hS 17 2 rfl rfl i29 dX6_want_98 (fun H locs hP hD hS => ?_)
        obtain ⟨M30, eM30⟩ : ∃ z : MS, z = (mWA_s M (upd (mWA M) ((mOL M) x1.toNatClampNeg).toNatClampNeg (vp_nar .boolean (0 : Int32)))) := ⟨_, rfl⟩
        have h := h M30 eM30
        have hP := nP_mWA eM30 hP
        have hD := nD_mWA eM30 hD
        obtain ⟨y31, ey31⟩ : ∃ z : Int32, z = (x1 + (1 : Int32)) := ⟨_, rfl⟩
        have h := h y31 ey31
        refine lv_iinc (v := y31) (lv' := [(1, .int y31), (0, .ref (b 0))]) hx hb dX6_want_99 hl (k := 1) rfl (by rw [ey31]; rfl) (by decide) rfl (fun ls hl => ?_)
        refine lv_goto (tgt := 60) hx hb dX6_want_102 (by decide) ?_
        exact k60 M30 y31 H locs ls h hP hD hS (lv_sub hl [1, 0] rfl)
      · have h := h.2 c28
        refine lv_iconst (v := 1) hx hb dX6_want_93 (by decide) ?_
        refine lv_goto (tgt := 98) hx hb dX6_want_94 (by decide) ?_
        obtain ⟨i32, h⟩ := h
        refine va_zast (D := (dC, dI)) hx hb hK hP hD hS 17 2 rfl rfl i32 dX6_want_98 (fun H locs hP hD hS => ?_)
        obtain ⟨M33, eM33⟩ : ∃ z : MS, z = (mWA_s M (upd (mWA M) ((mOL M) x1.toNatClampNeg).toNatClampNeg (vp_nar .boolean (1 : Int32)))) := ⟨_, rfl⟩
        have h := h M33 eM33
        have hP := nP_mWA eM33 hP
        have hD := nD_mWA eM33 hD
        obtain ⟨y34, ey34⟩ : ∃ z : Int32, z = (x1 + (1 : Int32)) := ⟨_, rfl⟩
        have h := h y34 ey34
        refine lv_iinc (v := y34) (lv' := [(1, .int y34), (0, .ref (b 0))]) hx hb dX6_want_99 hl (k := 1) rfl (by rw [ey34]; rfl) (by decide) rfl (fun ls hl => ?_)
        refine lv_goto (tgt := 60) hx hb dX6_want_102 (by decide) ?_
        exact k60 M33 y34 H locs ls h hP hD hS (lv_sub hl [1, 0] rfl)
def b_X6_want_27 (M : MS) (post : Int32 → MS → Prop) (g27 : Int32 → Prop) (x1 : Int32) : Prop := ((mOU M) ≤ x1 → (p_X6_want_60 M (0 : Int32) post)) ∧ (¬ (mOU M) ≤ x1 → (vp_in x1 6 ∧ (vp_in ((mOL M) x1.toNatClampNeg) 64 ∧ ((¬ ((mAV M) ((mOL M) x1.toNatClampNeg).toNatClampNeg) = (-1 : Int32) → (∀ y38 : Int32, y38 = (x1 + (1 : Int32)) → (g27 y38))) ∧ (((mAV M) ((mOL M) x1.toNatClampNeg).toNatClampNeg) = (-1 : Int32) → (post x1 M))))))
def p_X6_want_27 (M : MS) (x1 : Int32) (post : Int32 → MS → Prop) : Prop := ∃ (I : Int32 → Prop) (mu : Int32 → Nat), I x1 ∧ ∀ (x1 : Int32), I x1 → b_X6_want_27 M post (fun x1' => I x1' ∧ mu x1' < mu x1) x1
set_option maxHeartbeats 1000000 in
set_option maxRecDepth 100000 in
theorem t_X6_want_27 {p : Program} {l : Launch} {e : Env} {s : State} {m : MethodId} {args : Array Value} {below : List Frame} {meth : Method} {c : Code} {dC : Nat → ClassId} {dI : Nat → Nat → Nat} {cyI cyJ cyZ : ClassId} {r : Nat → Nat} {b : Nat → Nat} {A : Nat → Prop} {M : MS} {x1 : Int32} {post : Int32 → MS → Prop} (G : xG p s m args meth c cX6_want 5 RX6 (some .int) wsX6_want (dC, dI) (tyA cyI cyJ cyZ) r A) (h : p_X6_want_27 M x1 post) {H : Heap} {locs : List Loc} {ls : Array Slot} (hP : va_P (dC, dI) vwCl (wM cyI cyJ cyZ b M) H) (hD : va_D A (wM cyI cyJ cyZ b M)) (hS : va_S A s.heap H locs) (hl : lv_has ls 5 [(0, .ref (b 0)), (1, .int x1)]) : W p l e { frames := 6, cells := 0, slots := 0, locals := 157 } s m args below meth c H locs 0 0 (MQ below (va_Qi post (xAt (dC, dI) (tyA cyI cyJ cyZ) (wM cyI cyJ cyZ b) A) A) args s 0 0 A) (F0 m 27 ls []) := by
  obtain ⟨hx, hb, hml, hown, hts, hr, hlocks, hK, hE, hA⟩ := id G
  have hiX6 : ∀ w ∈ wsX60, w ∈ wsX6_want := by decide +kernel
  have hf104 := hts (.fieldLink RX6 104 "CellMappingModel" "outputs" "I") (by decide +kernel)
  have hf50 := hts (.fieldLink RX6 50 "CellMappingModel" "arrivals" "[I") (by decide +kernel)
  have hf22 := hts (.fieldLink RX6 22 "CellMappingModel" "outputLiterals" "[I") (by decide +kernel)
  obtain ⟨I, mu, h0, hstep⟩ := h
  suffices hgo : ∀ (n : Nat) (x1 : Int32), I x1 → mu x1 < n → ∀ (H : Heap) (locs : List Loc) (ls : Array Slot), va_P (dC, dI) vwCl (wM cyI cyJ cyZ b M) H → va_D A (wM cyI cyJ cyZ b M) → va_S A s.heap H locs → lv_has ls 5 [(0, .ref (b 0)), (1, .int x1)] → W p l e { frames := 6, cells := 0, slots := 0, locals := 157 } s m args below meth c H locs 0 0 (MQ below (va_Qi post (xAt (dC, dI) (tyA cyI cyJ cyZ) (wM cyI cyJ cyZ b) A) A) args s 0 0 A) (F0 m 27 ls []) from hgo (mu x1 + 1) x1 h0 (Nat.lt_succ_self _) H locs ls hP hD hS hl
  clear h0 hP hD hS hl
  intro n
  induction n with
  | zero => intro x1 _ h; exact absurd h (Nat.not_lt_zero _)
  | succ n ih =>
    intro x1 hI hmu H locs ls hP hD hS hl
    have h := hstep x1 hI
    unfold b_X6_want_27 at h
    have k27 : ∀ (x1' : Int32) (H : Heap) (locs : List Loc) (ls : Array Slot), (fun x1' => I x1' ∧ mu x1' < mu x1) x1' → va_P (dC, dI) vwCl (wM cyI cyJ cyZ b M) H → va_D A (wM cyI cyJ cyZ b M) → va_S A s.heap H locs → lv_has ls 5 [(0, .ref (b 0)), (1, .int x1')] → W p l e { frames := 6, cells := 0, slots := 0, locals := 157 } s m args below meth c H locs 0 0 (MQ below (va_Qi post (xAt (dC, dI) (tyA cyI cyJ cyZ) (wM cyI cyJ cyZ b) A) A) args s 0 0 A) (F0 m 27 ls []) := fun x1' H locs ls hh hP hD hS hl => ih x1' hh.1 (Nat.lt_of_lt_of_le hh.2 (Nat.le_of_lt_succ hmu)) H locs ls hP hD hS hl
    generalize (fun x1' => I x1' ∧ mu x1' < mu x1) = g27 at h k27
    refine lv_iload_n hx hb dX6_want_27 rfl (lv_at hl 1 rfl) ?_
    refine lv_aload_n hx hb dX6_want_28 rfl (lv_at hl 0 rfl) ?_
    refine va_get (D := (dC, dI)) (ci := 5) (v := .int (mOU M)) (C := RX6) (T := TX6) (N := 27) hx hb hts hiX6 hown hK hP 0 rfl rfl 8 (by decide) hf104 (fun _ h9 => h9) rfl dX6_want_29 ?_
    refine lv_icmp_ge (tgt := 58) hx hb dX6_want_32 (by decide) (fun c3 => ?_) (fun c3 => ?_)
    · have h := h.1 c3
      refine lv_iconst (v := 0) hx hb dX6_want_58 (by decide) ?_
      refine lv_istore_n (lv' := [(1, .int (0 : Int32)), (0, .ref (b 0))]) hx hb dX6_want_59 rfl hl (by decide) rfl (fun ls hl => ?_)
      exact t_X6_want_60 G h hP hD hS (lv_sub hl [1, 0] rfl)
    · have h := h.2 c3
      refine lv_aload_n hx hb dX6_want_35 rfl (lv_at hl 0 rfl) ?_
      refine va_get (D := (dC, dI)) (ci := 5) (v := .ref (b 14)) (C := RX6) (T := TX6) (N := 27) hx hb hts hiX6 hown hK hP 0 rfl rfl 20 (by decide) hf50 (fun _ h9 => h9) rfl dX6_want_36 ?_
      refine lv_aload_n hx hb dX6_want_39 rfl (lv_at hl 0 rfl) ?_
      refine va_get (D := (dC, dI)) (ci := 5) (v := .ref (b 5)) (C := RX6) (T := TX6) (N := 27) hx hb hts hiX6 hown hK hP 0 rfl rfl 9 (by decide) hf22 (fun _ h9 => h9) rfl dX6_want_40 ?_
      refine lv_iload_n hx hb dX6_want_43 rfl (lv_at hl 1 rfl) ?_
      obtain ⟨i35, h⟩ := h
      refine va_iald (D := (dC, dI)) hx hb hK hP 5 0 rfl rfl i35 dX6_want_44 ?_
      obtain ⟨i36, h⟩ := h
      refine va_iald (D := (dC, dI)) hx hb hK hP 14 0 rfl rfl i36 dX6_want_45 ?_
      refine lv_iconst (v := -1) hx hb dX6_want_46 (by decide) ?_
      refine lv_icmp_ne (tgt := 52) hx hb dX6_want_47 (by decide) (fun c37 => ?_) (fun c37 => ?_)
      · have h := h.1 c37
        obtain ⟨y38, ey38⟩ : ∃ z : Int32, z = (x1 + (1 : Int32)) := ⟨_, rfl⟩
        have h := h y38 ey38
        refine lv_iinc (v := y38) (lv' := [(1, .int y38), (0, .ref (b 0))]) hx hb dX6_want_52 hl (k := 1) rfl (by rw [ey38]; rfl) (by decide) rfl (fun ls hl => ?_)
        refine lv_goto (tgt := 27) hx hb dX6_want_55 (by decide) ?_
        exact k27 y38 H locs ls h hP hD hS (lv_sub hl [1, 0] rfl)
      · have h := h.2 c37
        refine lv_iload_n hx hb dX6_want_50 rfl (lv_at hl 1 rfl) ?_
        exact xr_i (S := M) hx hb hr hlocks hK hP hD hS h (Nat.le_of_ble_eq_true rfl) (Nat.le_of_ble_eq_true rfl) dX6_want_51
def b_X6_want_6 (post : Int32 → MS → Prop) (g6 : MS → Int32 → Prop) (M : MS) (x1 : Int32) : Prop := ((64 : Int32) ≤ x1 → (p_X6_want_27 M (0 : Int32) post)) ∧ (¬ (64 : Int32) ≤ x1 → (vp_in x1 64 ∧ (∀ M40 : MS, M40 = (mWA_s M (upd (mWA M) x1.toNatClampNeg (vp_nar .boolean (0 : Int32)))) → (∀ y41 : Int32, y41 = (x1 + (1 : Int32)) → (g6 M40 y41)))))
def p_X6_want_6 (M : MS) (x1 : Int32) (post : Int32 → MS → Prop) : Prop := ∃ (I : MS → Int32 → Prop) (mu : MS → Int32 → Nat), I M x1 ∧ ∀ (M : MS) (x1 : Int32), I M x1 → b_X6_want_6 post (fun M' x1' => I M' x1' ∧ mu M' x1' < mu M x1) M x1
set_option maxHeartbeats 1000000 in
set_option maxRecDepth 100000 in
theorem t_X6_want_6 {p : Program} {l : Launch} {e : Env} {s : State} {m : MethodId} {args : Array Value} {below : List Frame} {meth : Method} {c : Code} {dC : Nat → ClassId} {dI : Nat → Nat → Nat} {cyI cyJ cyZ : ClassId} {r : Nat → Nat} {b : Nat → Nat} {A : Nat → Prop} {M : MS} {x1 : Int32} {post : Int32 → MS → Prop} (G : xG p s m args meth c cX6_want 5 RX6 (some .int) wsX6_want (dC, dI) (tyA cyI cyJ cyZ) r A) (h : p_X6_want_6 M x1 post) {H : Heap} {locs : List Loc} {ls : Array Slot} (hP : va_P (dC, dI) vwCl (wM cyI cyJ cyZ b M) H) (hD : va_D A (wM cyI cyJ cyZ b M)) (hS : va_S A s.heap H locs) (hl : lv_has ls 5 [(0, .ref (b 0)), (1, .int x1)]) : W p l e { frames := 6, cells := 0, slots := 0, locals := 157 } s m args below meth c H locs 0 0 (MQ below (va_Qi post (xAt (dC, dI) (tyA cyI cyJ cyZ) (wM cyI cyJ cyZ b) A) A) args s 0 0 A) (F0 m 6 ls []) := by
  obtain ⟨hx, hb, hml, hown, hts, hr, hlocks, hK, hE, hA⟩ := id G
  have hiX6 : ∀ w ∈ wsX60, w ∈ wsX6_want := by decide +kernel
  have hf59 := hts (.fieldLink RX6 59 "CellMappingModel" "wants" "[Z") (by decide +kernel)
  obtain ⟨I, mu, h0, hstep⟩ := h
  suffices hgo : ∀ (n : Nat) (M : MS) (x1 : Int32), I M x1 → mu M x1 < n → ∀ (H : Heap) (locs : List Loc) (ls : Array Slot), va_P (dC, dI) vwCl (wM cyI cyJ cyZ b M) H → va_D A (wM cyI cyJ cyZ b M) → va_S A s.heap H locs → lv_has ls 5 [(0, .ref (b 0)), (1, .int x1)] → W p l e { frames := 6, cells := 0, slots := 0, locals := 157 } s m args below meth c H locs 0 0 (MQ below (va_Qi post (xAt (dC, dI) (tyA cyI cyJ cyZ) (wM cyI cyJ cyZ b) A) A) args s 0 0 A) (F0 m 6 ls []) from hgo (mu M x1 + 1) M x1 h0 (Nat.lt_succ_self _) H locs ls hP hD hS hl
  clear h0 hP hD hS hl
  intro n
  induction n with
  | zero => intro M x1 _ h; exact absurd h (Nat.not_lt_zero _)
  | succ n ih =>
    intro M x1 hI hmu H locs ls hP hD hS hl
    have h := hstep M x1 hI
    unfold b_X6_want_6 at h
    have k6 : ∀ (M' : MS) (x1' : Int32) (H : Heap) (locs : List Loc) (ls : Array Slot), (fun M' x1' => I M' x1' ∧ mu M' x1' < mu M x1) M' x1' → va_P (dC, dI) vwCl (wM cyI cyJ cyZ b M') H → va_D A (wM cyI cyJ cyZ b M') → va_S A s.heap H locs → lv_has ls 5 [(0, .ref (b 0)), (1, .int x1')] → W p l e { frames := 6, cells := 0, slots := 0, locals := 157 } s m args below meth c H locs 0 0 (MQ below (va_Qi post (xAt (dC, dI) (tyA cyI cyJ cyZ) (wM cyI cyJ cyZ b) A) A) args s 0 0 A) (F0 m 6 ls []) := fun M' x1' H locs ls hh hP hD hS hl => ih M' x1' hh.1 (Nat.lt_of_lt_of_le hh.2 (Nat.le_of_lt_succ hmu)) H locs ls hP hD hS hl
    generalize (fun M' x1' => I M' x1' ∧ mu M' x1' < mu M x1) = g6 at h k6
    refine lv_iload_n hx hb dX6_want_6 rfl (lv_at hl 1 rfl) ?_
    refine lv_bipush (v := 64) hx hb dX6_want_7 (by decide) ?_
    refine lv_icmp_ge (tgt := 25) hx hb dX6_want_9 (by decide) (fun c2 => ?_) (fun c2 => ?_)
    · have h := h.1 c2
      refine lv_iconst (v := 0) hx hb dX6_want_25 (by decide) ?_
      refine lv_istore_n (lv' := [(1, .int (0 : Int32)), (0, .ref (b 0))]) hx hb dX6_want_26 rfl hl (by decide) rfl (fun ls hl => ?_)
      exact t_X6_want_27 G h hP hD hS (lv_sub hl [1, 0] rfl)
    · have h := h.2 c2
      refine lv_aload_n hx hb dX6_want_12 rfl (lv_at hl 0 rfl) ?_
      refine va_get (D := (dC, dI)) (ci := 5) (v := .ref (b 17)) (C := RX6) (T := TX6) (N := 27) hx hb hts hiX6 hown hK hP 0 rfl rfl 23 (by decide) hf59 (fun _ h9 => h9) rfl dX6_want_13 ?_
      refine lv_iload_n hx hb dX6_want_16 rfl (lv_at hl 1 rfl) ?_
      refine lv_iconst (v := 0) hx hb dX6_want_17 (by decide) ?_
      obtain ⟨i39, h⟩ := h
      refine va_zast (D := (dC, dI)) hx hb hK hP hD hS 17 2 rfl rfl i39 dX6_want_18 (fun H locs hP hD hS => ?_)
      obtain ⟨M40, eM40⟩ : ∃ z : MS, z = (mWA_s M (upd (mWA M) x1.toNatClampNeg (vp_nar .boolean (0 : Int32)))) := ⟨_, rfl⟩
      have h := h M40 eM40
      have hP := nP_mWA eM40 hP
      have hD := nD_mWA eM40 hD
      obtain ⟨y41, ey41⟩ : ∃ z : Int32, z = (x1 + (1 : Int32)) := ⟨_, rfl⟩
      have h := h y41 ey41
      refine lv_iinc (v := y41) (lv' := [(1, .int y41), (0, .ref (b 0))]) hx hb dX6_want_19 hl (k := 1) rfl (by rw [ey41]; rfl) (by decide) rfl (fun ls hl => ?_)
      refine lv_goto (tgt := 6) hx hb dX6_want_22 (by decide) ?_
      exact k6 M40 y41 H locs ls h hP hD hS (lv_sub hl [1, 0] rfl)
def p_X6_want (M : MS) (post : Int32 → MS → Prop) : Prop := p_X6_settle M (fun S1 => p_X6_want_6 S1 (0 : Int32) post)
set_option maxHeartbeats 1000000 in
set_option maxRecDepth 100000 in
theorem t_X6_want {l : Launch} {dC : Nat → ClassId} {dI : Nat → Nat → Nat} {cyI cyJ cyZ : ClassId} {r : Nat → Nat} {b : Nat → Nat} {M : MS} {post : Int32 → MS → Prop} (h : p_X6_want M post) : xMi l yX6_want wsX6_want { frames := 6, cells := 0, slots := 0, locals := 157 } (dC, dI) (tyA cyI cyJ cyZ) r (wM cyI cyJ cyZ b) [.ref (b 0)] M post 0 0 := by
  intro sz
  refine Met.ofW (cc := cX6_want) (maxL := 5) (ret := (some .int)) (by decide) rfl ?_
  intro p e s m args below meth c s₁ B hml hv
  obtain ⟨rfl, G, hP, hD, hS⟩ := xG.of rfl B hml hv
  generalize hAe : va_A (wM cyI cyJ cyZ b M) sz = A at G hD hS ⊢
  have G : xG p s m _ meth c cX6_want 5 RX6 (some .int) wsX6_want (dC, dI) (tyA cyI cyJ cyZ) r A := G
  obtain ⟨hx, hb, hml, hown, hts, hr, hlocks, hK, hE, hA⟩ := id G
  have hl := lv_entry ([.ref (b 0)]) (n := 5) (Nat.le_of_ble_eq_true rfl)
  rw [lg_entry_eq]
  generalize (lg_sl ([.ref (b 0)]) ++ List.replicate (5 - (lg_sl ([.ref (b 0)])).length) Slot.unset).toArray = ls at hl ⊢
  have hl : lv_has ls 5 [(0, .ref (b 0))] := hl
  show W p l e { frames := 6, cells := 0, slots := 0, locals := 157 } s m _ below meth c s.heap [] 0 0 _ _
  unfold p_X6_want at h
  refine lv_aload_n hx hb dX6_want_0 rfl (lv_at hl 0 rfl) ?_
  refine xc_Vv (wf := wM cyI cyJ cyZ b) (wr := []) (isC := [0, 1, 2, 3, 4, 5, 6, 7, 8, 9, 10, 11, 12, 13, 14, 15, 16, 17, 18, 19, 20]) (isR := []) (As := []) (rest := []) ⟨hx, hb, hml, hown, hts⟩ (t_X6_settle h) (cwV 0 hts gX6_want_X6_settle rfl rfl rfl (by decide +kernel) ⟨Nat.le_of_ble_eq_true rfl, Nat.le_of_ble_eq_true rfl⟩) ⟨hK, hE, hA, hP, hD, hS, rfl, rfl, rfl, rfl, by decide⟩ ⟨0, 5, _, _, rfl, rfl, rfl⟩ rfl rfl hl.1 (Nat.le_of_ble_eq_true rfl) dX6_want_1 ⟨Nat.le_of_ble_eq_true rfl, Nat.le_of_ble_eq_true rfl⟩ (fun  S1 H locs h hP hD hS => ?_)
  have hP : va_P (dC, dI) vwCl (wM cyI cyJ cyZ b S1) H := hP
  have hD : va_D A (wM cyI cyJ cyZ b S1) := hD
  refine lv_iconst (v := 0) hx hb dX6_want_4 (by decide) ?_
  refine lv_istore_n (lv' := [(1, .int (0 : Int32)), (0, .ref (b 0))]) hx hb dX6_want_5 rfl hl (by decide) rfl (fun ls hl => ?_)
  exact t_X6_want_6 G h hP hD hS (lv_sub hl [1, 0] rfl)
def p_X6_isWanted (M : MS) (x1 : Int32) (x2 : Int32) (post : Int32 → Prop) : Prop := (¬ x2 = (-1 : Int32) → (post (0 : Int32))) ∧ (x2 = (-1 : Int32) → (vp_in x1 64 ∧ ((((mWA M) x1.toNatClampNeg) = 0 → (post (0 : Int32))) ∧ (¬ ((mWA M) x1.toNatClampNeg) = 0 → (post (1 : Int32))))))
set_option maxHeartbeats 1000000 in
set_option maxRecDepth 100000 in
theorem t_X6_isWanted {l : Launch} {dC : Nat → ClassId} {dI : Nat → Nat → Nat} {cyI cyJ cyZ : ClassId} {r : Nat → Nat} {b : Nat → Nat} {M : MS} {x1 : Int32} {x2 : Int32} {post : Int32 → Prop} (h : p_X6_isWanted M x1 x2 post) : xMi l yX6_isWanted wsX6_isWanted { frames := 0, cells := 0, slots := 0, locals := 0 } (dC, dI) (tyA cyI cyJ cyZ) r (wM cyI cyJ cyZ b) [.ref (b 0), .int x1, .int x2] M (fun x u => M = u ∧ post x) 0 0 := by
  intro sz
  refine Met.ofW (cc := cX6_isWanted) (maxL := 3) (ret := (some .boolean)) (by decide) rfl ?_
  intro p e s m args below meth c s₁ B hml hv
  obtain ⟨rfl, G, hP, hD, hS⟩ := xG.of rfl B hml hv
  generalize hAe : va_A (wM cyI cyJ cyZ b M) sz = A at G hD hS ⊢
  have G : xG p s m _ meth c cX6_isWanted 3 RX6 (some .boolean) wsX6_isWanted (dC, dI) (tyA cyI cyJ cyZ) r A := G
  obtain ⟨hx, hb, hml, hown, hts, hr, hlocks, hK, hE, hA⟩ := id G
  have hiX6 : ∀ w ∈ wsX60, w ∈ wsX6_isWanted := by decide +kernel
  have hf59 := hts (.fieldLink RX6 59 "CellMappingModel" "wants" "[Z") (by decide +kernel)
  have hl := lv_entry ([.ref (b 0), .int x1, .int x2]) (n := 3) (Nat.le_of_ble_eq_true rfl)
  rw [lg_entry_eq]
  generalize (lg_sl ([.ref (b 0), .int x1, .int x2]) ++ List.replicate (3 - (lg_sl ([.ref (b 0), .int x1, .int x2])).length) Slot.unset).toArray = ls at hl ⊢
  have hl : lv_has ls 3 [(0, .ref (b 0)), (1, .int x1), (2, .int x2)] := hl
  show W p l e { frames := 0, cells := 0, slots := 0, locals := 0 } s m _ below meth c s.heap [] 0 0 _ _
  unfold p_X6_isWanted at h
  refine lv_iload_n hx hb dX6_isWanted_0 rfl (lv_at hl 2 rfl) ?_
  refine lv_iconst (v := -1) hx hb dX6_isWanted_1 (by decide) ?_
  refine lv_icmp_ne (tgt := 18) hx hb dX6_isWanted_2 (by decide) (fun c1 => ?_) (fun c1 => ?_)
  · have h := h.1 c1
    refine lv_iconst (v := 0) hx hb dX6_isWanted_18 (by decide) ?_
    exact xr_z (S := M) hx hb hr hlocks hK hP hD hS (by decide) ⟨rfl, h⟩ (Nat.le_of_ble_eq_true rfl) (Nat.le_of_ble_eq_true rfl) dX6_isWanted_19
  · have h := h.2 c1
    refine lv_aload_n hx hb dX6_isWanted_5 rfl (lv_at hl 0 rfl) ?_
    refine va_get (D := (dC, dI)) (ci := 5) (v := .ref (b 17)) (C := RX6) (T := TX6) (N := 27) hx hb hts hiX6 hown hK hP 0 rfl rfl 23 (by decide) hf59 (fun _ h9 => h9) rfl dX6_isWanted_6 ?_
    refine lv_iload_n hx hb dX6_isWanted_9 rfl (lv_at hl 1 rfl) ?_
    obtain ⟨i2, h⟩ := h
    refine va_zald (D := (dC, dI)) hx hb hK hP 17 2 rfl rfl i2 dX6_isWanted_10 ?_
    refine lv_if_eq (tgt := 18) hx hb dX6_isWanted_11 (by decide) (fun c3 => ?_) (fun c3 => ?_)
    · have h := h.1 c3
      refine lv_iconst (v := 0) hx hb dX6_isWanted_18 (by decide) ?_
      exact xr_z (S := M) hx hb hr hlocks hK hP hD hS (by decide) ⟨rfl, h⟩ (Nat.le_of_ble_eq_true rfl) (Nat.le_of_ble_eq_true rfl) dX6_isWanted_19
    · have h := h.2 c3
      refine lv_iconst (v := 1) hx hb dX6_isWanted_14 (by decide) ?_
      refine lv_goto (tgt := 19) hx hb dX6_isWanted_15 (by decide) ?_
      exact xr_z (S := M) hx hb hr hlocks hK hP hD hS (by decide) ⟨rfl, h⟩ (Nat.le_of_ble_eq_true rfl) (Nat.le_of_ble_eq_true rfl) dX6_isWanted_19
def b_X6_run_14 (M : MS) (x1 : Int32) (post : Int32 → MS → Prop) (g14 : Int32 → Int32 → Prop) (x2 : Int32) (x3 : Int32) : Prop := (((2 : Int32) * (mND M)) ≤ x3 → ((¬ x1 = (-1 : Int32) → (post ((-1 : Int32) - x1) M)) ∧ (x1 = (-1 : Int32) → (post x2 M)))) ∧ (¬ ((2 : Int32) * (mND M)) ≤ x3 → (p_X6_isWanted M x3 x1 (fun r6 => (r6 = 0 → (∀ y9 : Int32, y9 = (x3 + (1 : Int32)) → (g14 x2 y9))) ∧ (¬ r6 = 0 → (∀ y10 : Int32, y10 = (x2 + (1 : Int32)) → (∀ y11 : Int32, y11 = (x3 + (1 : Int32)) → (g14 y10 y11)))))))
def p_X6_run_14 (M : MS) (x1 : Int32) (x2 : Int32) (x3 : Int32) (post : Int32 → MS → Prop) : Prop := ∃ (I : Int32 → Int32 → Prop) (mu : Int32 → Int32 → Nat), I x2 x3 ∧ ∀ (x2 : Int32) (x3 : Int32), I x2 x3 → b_X6_run_14 M x1 post (fun x2' x3' => I x2' x3' ∧ mu x2' x3' < mu x2 x3) x2 x3
set_option maxHeartbeats 1000000 in
set_option maxRecDepth 100000 in
theorem t_X6_run_14 {p : Program} {l : Launch} {e : Env} {s : State} {m : MethodId} {args : Array Value} {below : List Frame} {meth : Method} {c : Code} {dC : Nat → ClassId} {dI : Nat → Nat → Nat} {cyI cyJ cyZ : ClassId} {r : Nat → Nat} {b : Nat → Nat} {A : Nat → Prop} {M : MS} {x1 : Int32} {x2 : Int32} {x3 : Int32} {post : Int32 → MS → Prop} (G : xG p s m args meth c cX6_run 4 RX6 (some .int) wsX6_run (dC, dI) (tyA cyI cyJ cyZ) r A) (h : p_X6_run_14 M x1 x2 x3 post) {H : Heap} {locs : List Loc} {ls : Array Slot} (hP : va_P (dC, dI) vwCl (wM cyI cyJ cyZ b M) H) (hD : va_D A (wM cyI cyJ cyZ b M)) (hS : va_S A s.heap H locs) (hl : lv_has ls 4 [(0, .ref (b 0)), (1, .int x1), (2, .int x2), (3, .int x3)]) : W p l e { frames := 7, cells := 0, slots := 0, locals := 181 } s m args below meth c H locs 0 0 (MQ below (va_Qi post (xAt (dC, dI) (tyA cyI cyJ cyZ) (wM cyI cyJ cyZ b) A) A) args s 0 0 A) (F0 m 14 ls []) := by
  obtain ⟨hx, hb, hml, hown, hts, hr, hlocks, hK, hE, hA⟩ := id G
  have hiX6 : ∀ w ∈ wsX60, w ∈ wsX6_run := by decide +kernel
  have hf79 := hts (.fieldLink RX6 79 "CellMappingModel" "nodes" "I") (by decide +kernel)
  obtain ⟨I, mu, h0, hstep⟩ := h
  suffices hgo : ∀ (n : Nat) (x2 : Int32) (x3 : Int32), I x2 x3 → mu x2 x3 < n → ∀ (H : Heap) (locs : List Loc) (ls : Array Slot), va_P (dC, dI) vwCl (wM cyI cyJ cyZ b M) H → va_D A (wM cyI cyJ cyZ b M) → va_S A s.heap H locs → lv_has ls 4 [(0, .ref (b 0)), (1, .int x1), (2, .int x2), (3, .int x3)] → W p l e { frames := 7, cells := 0, slots := 0, locals := 181 } s m args below meth c H locs 0 0 (MQ below (va_Qi post (xAt (dC, dI) (tyA cyI cyJ cyZ) (wM cyI cyJ cyZ b) A) A) args s 0 0 A) (F0 m 14 ls []) from hgo (mu x2 x3 + 1) x2 x3 h0 (Nat.lt_succ_self _) H locs ls hP hD hS hl
  clear h0 hP hD hS hl
  intro n
  induction n with
  | zero => intro x2 x3 _ h; exact absurd h (Nat.not_lt_zero _)
  | succ n ih =>
    intro x2 x3 hI hmu H locs ls hP hD hS hl
    have h := hstep x2 x3 hI
    unfold b_X6_run_14 at h
    have k14 : ∀ (x2' : Int32) (x3' : Int32) (H : Heap) (locs : List Loc) (ls : Array Slot), (fun x2' x3' => I x2' x3' ∧ mu x2' x3' < mu x2 x3) x2' x3' → va_P (dC, dI) vwCl (wM cyI cyJ cyZ b M) H → va_D A (wM cyI cyJ cyZ b M) → va_S A s.heap H locs → lv_has ls 4 [(0, .ref (b 0)), (1, .int x1), (2, .int x2'), (3, .int x3')] → W p l e { frames := 7, cells := 0, slots := 0, locals := 181 } s m args below meth c H locs 0 0 (MQ below (va_Qi post (xAt (dC, dI) (tyA cyI cyJ cyZ) (wM cyI cyJ cyZ b) A) A) args s 0 0 A) (F0 m 14 ls []) := fun x2' x3' H locs ls hh hP hD hS hl => ih x2' x3' hh.1 (Nat.lt_of_lt_of_le hh.2 (Nat.le_of_lt_succ hmu)) H locs ls hP hD hS hl
    generalize (fun x2' x3' => I x2' x3' ∧ mu x2' x3' < mu x2 x3) = g14 at h k14
    refine lv_iload_n hx hb dX6_run_14 rfl (lv_at hl 3 rfl) ?_
    refine lv_iconst (v := 2) hx hb dX6_run_15 (by decide) ?_
    refine lv_aload_n hx hb dX6_run_16 rfl (lv_at hl 0 rfl) ?_
    refine va_get (D := (dC, dI)) (ci := 5) (v := .int (mND M)) (C := RX6) (T := TX6) (N := 27) hx hb hts hiX6 hown hK hP 0 rfl rfl 1 (by decide) hf79 (fun _ h9 => h9) rfl dX6_run_17 ?_
    refine lv_imul hx hb dX6_run_20 ?_
    refine lv_icmp_ge (tgt := 47) hx hb dX6_run_21 (by decide) (fun c4 => ?_) (fun c4 => ?_)
    · have h := h.1 c4
      refine lv_iload_n hx hb dX6_run_47 rfl (lv_at hl 1 rfl) ?_
      refine lv_iconst (v := -1) hx hb dX6_run_48 (by decide) ?_
      refine lv_icmp_ne (tgt := 56) hx hb dX6_run_49 (by decide) (fun c5 => ?_) (fun c5 => ?_)
      · have h := h.1 c5
        refine lv_iconst (v := -1) hx hb dX6_run_56 (by decide) ?_
        refine lv_iload_n hx hb dX6_run_57 rfl (lv_at hl 1 rfl) ?_
        refine lv_isub hx hb dX6_run_58 ?_
        exact xr_i (S := M) hx hb hr hlocks hK hP hD hS h (Nat.le_of_ble_eq_true rfl) (Nat.le_of_ble_eq_true rfl) dX6_run_59
      · have h := h.2 c5
        refine lv_iload_n hx hb dX6_run_52 rfl (lv_at hl 2 rfl) ?_
        refine lv_goto (tgt := 59) hx hb dX6_run_53 (by decide) ?_
        exact xr_i (S := M) hx hb hr hlocks hK hP hD hS h (Nat.le_of_ble_eq_true rfl) (Nat.le_of_ble_eq_true rfl) dX6_run_59
    · have h := h.2 c4
      refine lv_aload_n hx hb dX6_run_24 rfl (lv_at hl 0 rfl) ?_
      refine lv_iload_n hx hb dX6_run_25 rfl (lv_at hl 3 rfl) ?_
      refine lv_iload_n hx hb dX6_run_26 rfl (lv_at hl 1 rfl) ?_
      refine xc_Vi (wf := wM cyI cyJ cyZ b) (wr := []) (isC := [0, 1, 2, 3, 4, 5, 6, 7, 8, 9, 10, 11, 12, 13, 14, 15, 16, 17, 18, 19, 20]) (isR := []) (As := [.int x3, .int x1]) (rest := []) ⟨hx, hb, hml, hown, hts⟩ (t_X6_isWanted h) (cwV 2 hts gX6_run_X6_isWanted rfl rfl rfl (by decide +kernel) ⟨Nat.le_of_ble_eq_true rfl, Nat.le_of_ble_eq_true rfl⟩) ⟨hK, hE, hA, hP, hD, hS, rfl, rfl, rfl, rfl, by decide⟩ ⟨0, 5, _, _, rfl, rfl, rfl⟩ rfl rfl hl.1 (Nat.le_of_ble_eq_true rfl) dX6_run_27 ⟨Nat.le_of_ble_eq_true rfl, Nat.le_of_ble_eq_true rfl⟩ (fun r6 S7 H locs h hP hD hS => ?_)
      obtain ⟨rfl, h⟩ := h
      have hP : va_P (dC, dI) vwCl (wM cyI cyJ cyZ b M) H := hP
      have hD : va_D A (wM cyI cyJ cyZ b M) := hD
      refine lv_if_eq (tgt := 39) hx hb dX6_run_30 (by decide) (fun c8 => ?_) (fun c8 => ?_)
      · have h := h.1 c8
        refine lv_iload_n hx hb dX6_run_39 rfl (lv_at hl 2 rfl) ?_
        refine lv_istore_n (lv' := [(2, .int x2), (0, .ref (b 0)), (1, .int x1), (3, .int x3)]) hx hb dX6_run_40 rfl hl (by decide) rfl (fun ls hl => ?_)
        obtain ⟨y9, ey9⟩ : ∃ z : Int32, z = (x3 + (1 : Int32)) := ⟨_, rfl⟩
        have h := h y9 ey9
        refine lv_iinc (v := y9) (lv' := [(3, .int y9), (2, .int x2), (0, .ref (b 0)), (1, .int x1)]) hx hb dX6_run_41 hl (k := 3) rfl (by rw [ey9]; rfl) (by decide) rfl (fun ls hl => ?_)
        refine lv_goto (tgt := 14) hx hb dX6_run_44 (by decide) ?_
        exact k14 x2 y9 H locs ls h hP hD hS (lv_sub hl [2, 3, 1, 0] rfl)
      · have h := h.2 c8
        refine lv_iload_n hx hb dX6_run_33 rfl (lv_at hl 2 rfl) ?_
        refine lv_iconst (v := 1) hx hb dX6_run_34 (by decide) ?_
        refine lv_iadd hx hb dX6_run_35 ?_
        refine lv_goto (tgt := 40) hx hb dX6_run_36 (by decide) ?_
        refine lv_topi (fun y10 ey10 => ?_)
        have h := h y10 ey10
        refine lv_istore_n (lv' := [(2, .int y10), (0, .ref (b 0)), (1, .int x1), (3, .int x3)]) hx hb dX6_run_40 rfl hl (by decide) rfl (fun ls hl => ?_)
        obtain ⟨y11, ey11⟩ : ∃ z : Int32, z = (x3 + (1 : Int32)) := ⟨_, rfl⟩
        have h := h y11 ey11
        refine lv_iinc (v := y11) (lv' := [(3, .int y11), (2, .int y10), (0, .ref (b 0)), (1, .int x1)]) hx hb dX6_run_41 hl (k := 3) rfl (by rw [ey11]; rfl) (by decide) rfl (fun ls hl => ?_)
        refine lv_goto (tgt := 14) hx hb dX6_run_44 (by decide) ?_
        exact k14 y10 y11 H locs ls h hP hD hS (lv_sub hl [2, 3, 1, 0] rfl)
def p_X6_run (M : MS) (post : Int32 → MS → Prop) : Prop := ∀ M1 : MS, M1 = (mTH_s M (0 : Int32)) → (p_X6_want M1 (fun r2 S3 => p_X6_run_14 S3 r2 (0 : Int32) (0 : Int32) post))
set_option maxHeartbeats 1000000 in
set_option maxRecDepth 100000 in
theorem t_X6_run {l : Launch} {dC : Nat → ClassId} {dI : Nat → Nat → Nat} {cyI cyJ cyZ : ClassId} {r : Nat → Nat} {b : Nat → Nat} {M : MS} {post : Int32 → MS → Prop} (h : p_X6_run M post) : xMi l yX6_run wsX6_run { frames := 7, cells := 0, slots := 0, locals := 181 } (dC, dI) (tyA cyI cyJ cyZ) r (wM cyI cyJ cyZ b) [.ref (b 0)] M post 0 0 := by
  intro sz
  refine Met.ofW (cc := cX6_run) (maxL := 4) (ret := (some .int)) (by decide) rfl ?_
  intro p e s m args below meth c s₁ B hml hv
  obtain ⟨rfl, G, hP, hD, hS⟩ := xG.of rfl B hml hv
  generalize hAe : va_A (wM cyI cyJ cyZ b M) sz = A at G hD hS ⊢
  have G : xG p s m _ meth c cX6_run 4 RX6 (some .int) wsX6_run (dC, dI) (tyA cyI cyJ cyZ) r A := G
  obtain ⟨hx, hb, hml, hown, hts, hr, hlocks, hK, hE, hA⟩ := id G
  have hiX6 : ∀ w ∈ wsX60, w ∈ wsX6_run := by decide +kernel
  have hf75 := hts (.fieldLink RX6 75 "CellMappingModel" "thrown" "I") (by decide +kernel)
  have hl := lv_entry ([.ref (b 0)]) (n := 4) (Nat.le_of_ble_eq_true rfl)
  rw [lg_entry_eq]
  generalize (lg_sl ([.ref (b 0)]) ++ List.replicate (4 - (lg_sl ([.ref (b 0)])).length) Slot.unset).toArray = ls at hl ⊢
  have hl : lv_has ls 4 [(0, .ref (b 0))] := hl
  show W p l e { frames := 7, cells := 0, slots := 0, locals := 181 } s m _ below meth c s.heap [] 0 0 _ _
  unfold p_X6_run at h
  refine lv_aload_n hx hb dX6_run_0 rfl (lv_at hl 0 rfl) ?_
  refine lv_iconst (v := 0) hx hb dX6_run_1 (by decide) ?_
  refine va_put (D := (dC, dI)) (ci := 5) (v := .int (0 : Int32)) (ty := .int) (C := RX6) (T := TX6) (N := 27) hx hb hts hiX6 tyX6 tyX6_ok nmX6 hown hK hP hD hS 0 rfl rfl 0 (by decide) hf75 (fun _ h9 => h9) rfl (by decide +kernel) rfl rfl (Nat.le_of_ble_eq_true rfl) dX6_run_2 (fun H locs hP hD hS => ?_)
  obtain ⟨M1, eM1⟩ : ∃ z : MS, z = (mTH_s M (0 : Int32)) := ⟨_, rfl⟩
  have h := h M1 eM1
  have hP := nP_mTH eM1 hP
  have hD := nD_mTH eM1 hD
  refine lv_aload_n hx hb dX6_run_5 rfl (lv_at hl 0 rfl) ?_
  refine xc_Vi (wf := wM cyI cyJ cyZ b) (wr := []) (isC := [0, 1, 2, 3, 4, 5, 6, 7, 8, 9, 10, 11, 12, 13, 14, 15, 16, 17, 18, 19, 20]) (isR := []) (As := []) (rest := []) ⟨hx, hb, hml, hown, hts⟩ (t_X6_want h) (cwV 0 hts gX6_run_X6_want rfl rfl rfl (by decide +kernel) ⟨Nat.le_of_ble_eq_true rfl, Nat.le_of_ble_eq_true rfl⟩) ⟨hK, hE, hA, hP, hD, hS, rfl, rfl, rfl, rfl, by decide⟩ ⟨0, 5, _, _, rfl, rfl, rfl⟩ rfl rfl hl.1 (Nat.le_of_ble_eq_true rfl) dX6_run_6 ⟨Nat.le_of_ble_eq_true rfl, Nat.le_of_ble_eq_true rfl⟩ (fun r2 S3 H locs h hP hD hS => ?_)
  have hP : va_P (dC, dI) vwCl (wM cyI cyJ cyZ b S3) H := hP
  have hD : va_D A (wM cyI cyJ cyZ b S3) := hD
  refine lv_istore_n (lv' := [(1, .int r2), (0, .ref (b 0))]) hx hb dX6_run_9 rfl hl (by decide) rfl (fun ls hl => ?_)
  refine lv_iconst (v := 0) hx hb dX6_run_10 (by decide) ?_
  refine lv_istore_n (lv' := [(2, .int (0 : Int32)), (1, .int r2), (0, .ref (b 0))]) hx hb dX6_run_11 rfl hl (by decide) rfl (fun ls hl => ?_)
  refine lv_iconst (v := 0) hx hb dX6_run_12 (by decide) ?_
  refine lv_istore_n (lv' := [(3, .int (0 : Int32)), (2, .int (0 : Int32)), (1, .int r2), (0, .ref (b 0))]) hx hb dX6_run_13 rfl hl (by decide) rfl (fun ls hl => ?_)
  exact t_X6_run_14 G h hP hD hS (lv_sub hl [3, 2, 1, 0] rfl)
def b_X6_wanted_32 (M : MS) (x2 : Int32) (post : Int32 → MS → Prop) (g32 : Int32 → Int32 → Prop) (x3 : Int32) (x4 : Int32) : Prop := (((2 : Int32) * (mND M)) ≤ x4 → (post (-1 : Int32) M)) ∧ (¬ ((2 : Int32) * (mND M)) ≤ x4 → (p_X6_isWanted M x4 x2 (fun r7 => (r7 = 0 → (∀ y10 : Int32, y10 = (x4 + (1 : Int32)) → (g32 x3 y10))) ∧ (¬ r7 = 0 → ((¬ x3 = 0 → (∀ y12 : Int32, y12 = (x3 + (-1 : Int32)) → (∀ y13 : Int32, y13 = (x4 + (1 : Int32)) → (g32 y12 y13)))) ∧ (x3 = 0 → (post x4 M)))))))
def p_X6_wanted_32 (M : MS) (x2 : Int32) (x3 : Int32) (x4 : Int32) (post : Int32 → MS → Prop) : Prop := ∃ (I : Int32 → Int32 → Prop) (mu : Int32 → Int32 → Nat), I x3 x4 ∧ ∀ (x3 : Int32) (x4 : Int32), I x3 x4 → b_X6_wanted_32 M x2 post (fun x3' x4' => I x3' x4' ∧ mu x3' x4' < mu x3 x4) x3 x4
set_option maxHeartbeats 1000000 in
set_option maxRecDepth 100000 in
theorem t_X6_wanted_32 {p : Program} {l : Launch} {e : Env} {s : State} {m : MethodId} {args : Array Value} {below : List Frame} {meth : Method} {c : Code} {dC : Nat → ClassId} {dI : Nat → Nat → Nat} {cyI cyJ cyZ : ClassId} {r : Nat → Nat} {b : Nat → Nat} {A : Nat → Prop} {M : MS} {x2 : Int32} {x3 : Int32} {x4 : Int32} {post : Int32 → MS → Prop} (G : xG p s m args meth c cX6_wanted 5 RX6 (some .int) wsX6_wanted (dC, dI) (tyA cyI cyJ cyZ) r A) (h : p_X6_wanted_32 M x2 x3 x4 post) {H : Heap} {locs : List Loc} {ls : Array Slot} (hP : va_P (dC, dI) vwCl (wM cyI cyJ cyZ b M) H) (hD : va_D A (wM cyI cyJ cyZ b M)) (hS : va_S A s.heap H locs) (hl : lv_has ls 5 [(0, .ref (b 0)), (2, .int x2), (3, .int x3), (4, .int x4)]) : W p l e { frames := 7, cells := 0, slots := 0, locals := 181 } s m args below meth c H locs 0 0 (MQ below (va_Qi post (xAt (dC, dI) (tyA cyI cyJ cyZ) (wM cyI cyJ cyZ b) A) A) args s 0 0 A) (F0 m 32 ls []) := by
  obtain ⟨hx, hb, hml, hown, hts, hr, hlocks, hK, hE, hA⟩ := id G
  have hiX6 : ∀ w ∈ wsX60, w ∈ wsX6_wanted := by decide +kernel
  have hf79 := hts (.fieldLink RX6 79 "CellMappingModel" "nodes" "I") (by decide +kernel)
  obtain ⟨I, mu, h0, hstep⟩ := h
  suffices hgo : ∀ (n : Nat) (x3 : Int32) (x4 : Int32), I x3 x4 → mu x3 x4 < n → ∀ (H : Heap) (locs : List Loc) (ls : Array Slot), va_P (dC, dI) vwCl (wM cyI cyJ cyZ b M) H → va_D A (wM cyI cyJ cyZ b M) → va_S A s.heap H locs → lv_has ls 5 [(0, .ref (b 0)), (2, .int x2), (3, .int x3), (4, .int x4)] → W p l e { frames := 7, cells := 0, slots := 0, locals := 181 } s m args below meth c H locs 0 0 (MQ below (va_Qi post (xAt (dC, dI) (tyA cyI cyJ cyZ) (wM cyI cyJ cyZ b) A) A) args s 0 0 A) (F0 m 32 ls []) from hgo (mu x3 x4 + 1) x3 x4 h0 (Nat.lt_succ_self _) H locs ls hP hD hS hl
  clear h0 hP hD hS hl
  intro n
  induction n with
  | zero => intro x3 x4 _ h; exact absurd h (Nat.not_lt_zero _)
  | succ n ih =>
    intro x3 x4 hI hmu H locs ls hP hD hS hl
    have h := hstep x3 x4 hI
    unfold b_X6_wanted_32 at h
    have k32 : ∀ (x3' : Int32) (x4' : Int32) (H : Heap) (locs : List Loc) (ls : Array Slot), (fun x3' x4' => I x3' x4' ∧ mu x3' x4' < mu x3 x4) x3' x4' → va_P (dC, dI) vwCl (wM cyI cyJ cyZ b M) H → va_D A (wM cyI cyJ cyZ b M) → va_S A s.heap H locs → lv_has ls 5 [(0, .ref (b 0)), (2, .int x2), (3, .int x3'), (4, .int x4')] → W p l e { frames := 7, cells := 0, slots := 0, locals := 181 } s m args below meth c H locs 0 0 (MQ below (va_Qi post (xAt (dC, dI) (tyA cyI cyJ cyZ) (wM cyI cyJ cyZ b) A) A) args s 0 0 A) (F0 m 32 ls []) := fun x3' x4' H locs ls hh hP hD hS hl => ih x3' x4' hh.1 (Nat.lt_of_lt_of_le hh.2 (Nat.le_of_lt_succ hmu)) H locs ls hP hD hS hl
    generalize (fun x3' x4' => I x3' x4' ∧ mu x3' x4' < mu x3 x4) = g32 at h k32
    refine lv_iload hx hb dX6_wanted_32 (lv_at hl 3 rfl) ?_
    refine lv_iconst (v := 2) hx hb dX6_wanted_34 (by decide) ?_
    refine lv_aload_n hx hb dX6_wanted_35 rfl (lv_at hl 0 rfl) ?_
    refine va_get (D := (dC, dI)) (ci := 5) (v := .int (mND M)) (C := RX6) (T := TX6) (N := 27) hx hb hts hiX6 hown hK hP 0 rfl rfl 1 (by decide) hf79 (fun _ h9 => h9) rfl dX6_wanted_36 ?_
    refine lv_imul hx hb dX6_wanted_39 ?_
    refine lv_icmp_ge (tgt := 69) hx hb dX6_wanted_40 (by decide) (fun c6 => ?_) (fun c6 => ?_)
    · have h := h.1 c6
      refine lv_iconst (v := -1) hx hb dX6_wanted_69 (by decide) ?_
      exact xr_i (S := M) hx hb hr hlocks hK hP hD hS h (Nat.le_of_ble_eq_true rfl) (Nat.le_of_ble_eq_true rfl) dX6_wanted_70
    · have h := h.2 c6
      refine lv_aload_n hx hb dX6_wanted_43 rfl (lv_at hl 0 rfl) ?_
      refine lv_iload hx hb dX6_wanted_44 (lv_at hl 3 rfl) ?_
      refine lv_iload_n hx hb dX6_wanted_46 rfl (lv_at hl 1 rfl) ?_
      refine xc_Vi (wf := wM cyI cyJ cyZ b) (wr := []) (isC := [0, 1, 2, 3, 4, 5, 6, 7, 8, 9, 10, 11, 12, 13, 14, 15, 16, 17, 18, 19, 20]) (isR := []) (As := [.int x4, .int x2]) (rest := []) ⟨hx, hb, hml, hown, hts⟩ (t_X6_isWanted h) (cwV 2 hts gX6_wanted_X6_isWanted rfl rfl rfl (by decide +kernel) ⟨Nat.le_of_ble_eq_true rfl, Nat.le_of_ble_eq_true rfl⟩) ⟨hK, hE, hA, hP, hD, hS, rfl, rfl, rfl, rfl, by decide⟩ ⟨0, 5, _, _, rfl, rfl, rfl⟩ rfl rfl hl.1 (Nat.le_of_ble_eq_true rfl) dX6_wanted_47 ⟨Nat.le_of_ble_eq_true rfl, Nat.le_of_ble_eq_true rfl⟩ (fun r7 S8 H locs h hP hD hS => ?_)
      obtain ⟨rfl, h⟩ := h
      have hP : va_P (dC, dI) vwCl (wM cyI cyJ cyZ b M) H := hP
      have hD : va_D A (wM cyI cyJ cyZ b M) := hD
      refine lv_if_eq (tgt := 63) hx hb dX6_wanted_50 (by decide) (fun c9 => ?_) (fun c9 => ?_)
      · have h := h.1 c9
        obtain ⟨y10, ey10⟩ : ∃ z : Int32, z = (x4 + (1 : Int32)) := ⟨_, rfl⟩
        have h := h y10 ey10
        refine lv_iinc (v := y10) (lv' := [(4, .int y10), (0, .ref (b 0)), (2, .int x2), (3, .int x3)]) hx hb dX6_wanted_63 hl (k := 3) rfl (by rw [ey10]; rfl) (by decide) rfl (fun ls hl => ?_)
        refine lv_goto (tgt := 32) hx hb dX6_wanted_66 (by decide) ?_
        exact k32 x3 y10 H locs ls h hP hD hS (lv_sub hl [1, 2, 3, 0] rfl)
      · have h := h.2 c9
        refine lv_iload_n hx hb dX6_wanted_53 rfl (lv_at hl 2 rfl) ?_
        refine lv_if_ne (tgt := 60) hx hb dX6_wanted_54 (by decide) (fun c11 => ?_) (fun c11 => ?_)
        · have h := h.1 c11
          obtain ⟨y12, ey12⟩ : ∃ z : Int32, z = (x3 + (-1 : Int32)) := ⟨_, rfl⟩
          have h := h y12 ey12
          refine lv_iinc (v := y12) (lv' := [(3, .int y12), (0, .ref (b 0)), (2, .int x2), (4, .int x4)]) hx hb dX6_wanted_60 hl (k := 2) rfl (by rw [ey12]; rfl) (by decide) rfl (fun ls hl => ?_)
          obtain ⟨y13, ey13⟩ : ∃ z : Int32, z = (x4 + (1 : Int32)) := ⟨_, rfl⟩
          have h := h y13 ey13
          refine lv_iinc (v := y13) (lv' := [(4, .int y13), (3, .int y12), (0, .ref (b 0)), (2, .int x2)]) hx hb dX6_wanted_63 hl (k := 3) rfl (by rw [ey13]; rfl) (by decide) rfl (fun ls hl => ?_)
          refine lv_goto (tgt := 32) hx hb dX6_wanted_66 (by decide) ?_
          exact k32 y12 y13 H locs ls h hP hD hS (lv_sub hl [2, 3, 1, 0] rfl)
        · have h := h.2 c11
          refine lv_iload hx hb dX6_wanted_57 (lv_at hl 3 rfl) ?_
          exact xr_i (S := M) hx hb hr hlocks hK hP hD hS h (Nat.le_of_ble_eq_true rfl) (Nat.le_of_ble_eq_true rfl) dX6_wanted_59
def p_X6_wanted_10 (M : MS) (x1 : Int32) (t0 : Int32) (post : Int32 → MS → Prop) : Prop := ∀ M2 : MS, M2 = (mTH_s M t0) → (((mTH M2) ≤ 0 → (p_X6_want M2 (fun r4 S5 => p_X6_wanted_32 S5 r4 x1 (0 : Int32) post))) ∧ (¬ (mTH M2) ≤ 0 → (post (0 : Int32) M2)))
set_option maxHeartbeats 1000000 in
set_option maxRecDepth 100000 in
theorem t_X6_wanted_10 {p : Program} {l : Launch} {e : Env} {s : State} {m : MethodId} {args : Array Value} {below : List Frame} {meth : Method} {c : Code} {dC : Nat → ClassId} {dI : Nat → Nat → Nat} {cyI cyJ cyZ : ClassId} {r : Nat → Nat} {b : Nat → Nat} {A : Nat → Prop} {M : MS} {x1 : Int32} {t0 : Int32} {post : Int32 → MS → Prop} (G : xG p s m args meth c cX6_wanted 5 RX6 (some .int) wsX6_wanted (dC, dI) (tyA cyI cyJ cyZ) r A) (h : p_X6_wanted_10 M x1 t0 post) {H : Heap} {locs : List Loc} {ls : Array Slot} (hP : va_P (dC, dI) vwCl (wM cyI cyJ cyZ b M) H) (hD : va_D A (wM cyI cyJ cyZ b M)) (hS : va_S A s.heap H locs) (hl : lv_has ls 5 [(0, .ref (b 0)), (1, .int x1)]) : W p l e { frames := 7, cells := 0, slots := 0, locals := 181 } s m args below meth c H locs 0 0 (MQ below (va_Qi post (xAt (dC, dI) (tyA cyI cyJ cyZ) (wM cyI cyJ cyZ b) A) A) args s 0 0 A) (F0 m 10 ls [.int t0, .ref (b 0)]) := by
  obtain ⟨hx, hb, hml, hown, hts, hr, hlocks, hK, hE, hA⟩ := id G
  have hiX6 : ∀ w ∈ wsX60, w ∈ wsX6_wanted := by decide +kernel
  have hf75 := hts (.fieldLink RX6 75 "CellMappingModel" "thrown" "I") (by decide +kernel)
  unfold p_X6_wanted_10 at h
  refine va_put (D := (dC, dI)) (ci := 5) (v := .int t0) (ty := .int) (C := RX6) (T := TX6) (N := 27) hx hb hts hiX6 tyX6 tyX6_ok nmX6 hown hK hP hD hS 0 rfl rfl 0 (by decide) hf75 (fun _ h9 => h9) rfl (by decide +kernel) rfl rfl (Nat.le_of_ble_eq_true rfl) dX6_wanted_10 (fun H locs hP hD hS => ?_)
  obtain ⟨M2, eM2⟩ : ∃ z : MS, z = (mTH_s M t0) := ⟨_, rfl⟩
  have h := h M2 eM2
  have hP := nP_mTH eM2 hP
  have hD := nD_mTH eM2 hD
  refine lv_aload_n hx hb dX6_wanted_13 rfl (lv_at hl 0 rfl) ?_
  refine va_get (D := (dC, dI)) (ci := 5) (v := .int (mTH M2)) (C := RX6) (T := TX6) (N := 27) hx hb hts hiX6 hown hK hP 0 rfl rfl 0 (by decide) hf75 (fun _ h9 => h9) rfl dX6_wanted_14 ?_
  refine lv_if_le (tgt := 22) hx hb dX6_wanted_17 (by decide) (fun c3 => ?_) (fun c3 => ?_)
  · have h := h.1 c3
    refine lv_aload_n hx hb dX6_wanted_22 rfl (lv_at hl 0 rfl) ?_
    refine xc_Vi (wf := wM cyI cyJ cyZ b) (wr := []) (isC := [0, 1, 2, 3, 4, 5, 6, 7, 8, 9, 10, 11, 12, 13, 14, 15, 16, 17, 18, 19, 20]) (isR := []) (As := []) (rest := []) ⟨hx, hb, hml, hown, hts⟩ (t_X6_want h) (cwV 0 hts gX6_wanted_X6_want rfl rfl rfl (by decide +kernel) ⟨Nat.le_of_ble_eq_true rfl, Nat.le_of_ble_eq_true rfl⟩) ⟨hK, hE, hA, hP, hD, hS, rfl, rfl, rfl, rfl, by decide⟩ ⟨0, 5, _, _, rfl, rfl, rfl⟩ rfl rfl hl.1 (Nat.le_of_ble_eq_true rfl) dX6_wanted_23 ⟨Nat.le_of_ble_eq_true rfl, Nat.le_of_ble_eq_true rfl⟩ (fun r4 S5 H locs h hP hD hS => ?_)
    have hP : va_P (dC, dI) vwCl (wM cyI cyJ cyZ b S5) H := hP
    have hD : va_D A (wM cyI cyJ cyZ b S5) := hD
    refine lv_istore_n (lv' := [(2, .int r4), (0, .ref (b 0)), (1, .int x1)]) hx hb dX6_wanted_26 rfl hl (by decide) rfl (fun ls hl => ?_)
    refine lv_iload_n hx hb dX6_wanted_27 rfl (lv_at hl 2 rfl) ?_
    refine lv_istore_n (lv' := [(3, .int x1), (2, .int r4), (0, .ref (b 0)), (1, .int x1)]) hx hb dX6_wanted_28 rfl hl (by decide) rfl (fun ls hl => ?_)
    refine lv_iconst (v := 0) hx hb dX6_wanted_29 (by decide) ?_
    refine lv_istore (lv' := [(4, .int (0 : Int32)), (3, .int x1), (2, .int r4), (0, .ref (b 0)), (1, .int x1)]) hx hb dX6_wanted_30 hl (by decide) rfl (fun ls hl => ?_)
    exact t_X6_wanted_32 G h hP hD hS (lv_sub hl [3, 2, 1, 0] rfl)
  · have h := h.2 c3
    refine lv_iconst (v := 0) hx hb dX6_wanted_20 (by decide) ?_
    exact xr_i (S := M2) hx hb hr hlocks hK hP hD hS h (Nat.le_of_ble_eq_true rfl) (Nat.le_of_ble_eq_true rfl) dX6_wanted_21
def p_X6_wanted (M : MS) (x1 : Int32) (post : Int32 → MS → Prop) : Prop := (0 ≤ x1 → (p_X6_wanted_10 M x1 (0 : Int32) post)) ∧ (¬ 0 ≤ x1 → (p_X6_wanted_10 M x1 (1 : Int32) post))
set_option maxHeartbeats 1000000 in
set_option maxRecDepth 100000 in
theorem t_X6_wanted {l : Launch} {dC : Nat → ClassId} {dI : Nat → Nat → Nat} {cyI cyJ cyZ : ClassId} {r : Nat → Nat} {b : Nat → Nat} {M : MS} {x1 : Int32} {post : Int32 → MS → Prop} (h : p_X6_wanted M x1 post) : xMi l yX6_wanted wsX6_wanted { frames := 7, cells := 0, slots := 0, locals := 181 } (dC, dI) (tyA cyI cyJ cyZ) r (wM cyI cyJ cyZ b) [.ref (b 0), .int x1] M post 0 0 := by
  intro sz
  refine Met.ofW (cc := cX6_wanted) (maxL := 5) (ret := (some .int)) (by decide) rfl ?_
  intro p e s m args below meth c s₁ B hml hv
  obtain ⟨rfl, G, hP, hD, hS⟩ := xG.of rfl B hml hv
  generalize hAe : va_A (wM cyI cyJ cyZ b M) sz = A at G hD hS ⊢
  have G : xG p s m _ meth c cX6_wanted 5 RX6 (some .int) wsX6_wanted (dC, dI) (tyA cyI cyJ cyZ) r A := G
  obtain ⟨hx, hb, hml, hown, hts, hr, hlocks, hK, hE, hA⟩ := id G
  have hl := lv_entry ([.ref (b 0), .int x1]) (n := 5) (Nat.le_of_ble_eq_true rfl)
  rw [lg_entry_eq]
  generalize (lg_sl ([.ref (b 0), .int x1]) ++ List.replicate (5 - (lg_sl ([.ref (b 0), .int x1])).length) Slot.unset).toArray = ls at hl ⊢
  have hl : lv_has ls 5 [(0, .ref (b 0)), (1, .int x1)] := hl
  show W p l e { frames := 7, cells := 0, slots := 0, locals := 181 } s m _ below meth c s.heap [] 0 0 _ _
  unfold p_X6_wanted at h
  refine lv_aload_n hx hb dX6_wanted_0 rfl (lv_at hl 0 rfl) ?_
  refine lv_iload_n hx hb dX6_wanted_1 rfl (lv_at hl 1 rfl) ?_
  refine lv_if_ge (tgt := 9) hx hb dX6_wanted_2 (by decide) (fun c1 => ?_) (fun c1 => ?_)
  · have h := h.1 c1
    refine lv_iconst (v := 0) hx hb dX6_wanted_9 (by decide) ?_
    exact t_X6_wanted_10 G h hP hD hS (lv_sub hl [0, 1] rfl)
  · have h := h.2 c1
    refine lv_iconst (v := 1) hx hb dX6_wanted_5 (by decide) ?_
    refine lv_goto (tgt := 10) hx hb dX6_wanted_6 (by decide) ?_
    exact t_X6_wanted_10 G h hP hD hS (lv_sub hl [0, 1] rfl)
def b_X6_area_14 (M : MS) (x1 : Int32) (post : Int32 → MS → Prop) (g14 : Int32 → Int32 → Prop) (x2 : Int32) (x3 : Int32) : Prop := (((2 : Int32) * (mND M)) ≤ x3 → (post x2 M)) ∧ (¬ ((2 : Int32) * (mND M)) ≤ x3 → (p_X6_isWanted M x3 x1 (fun r5 => (r5 = 0 → (∀ y8 : Int32, y8 = (x3 + (1 : Int32)) → (g14 x2 y8))) ∧ (¬ r5 = 0 → (vp_in x3 64 ∧ (vp_in ((mGA M) x3.toNatClampNeg) 12 ∧ (∀ y11 : Int32, y11 = (x2 + ((mAR M) ((mGA M) x3.toNatClampNeg).toNatClampNeg)) → (∀ y12 : Int32, y12 = (x3 + (1 : Int32)) → (g14 y11 y12)))))))))
def p_X6_area_14 (M : MS) (x1 : Int32) (x2 : Int32) (x3 : Int32) (post : Int32 → MS → Prop) : Prop := ∃ (I : Int32 → Int32 → Prop) (mu : Int32 → Int32 → Nat), I x2 x3 ∧ ∀ (x2 : Int32) (x3 : Int32), I x2 x3 → b_X6_area_14 M x1 post (fun x2' x3' => I x2' x3' ∧ mu x2' x3' < mu x2 x3) x2 x3
set_option maxHeartbeats 1000000 in
set_option maxRecDepth 100000 in
theorem t_X6_area_14 {p : Program} {l : Launch} {e : Env} {s : State} {m : MethodId} {args : Array Value} {below : List Frame} {meth : Method} {c : Code} {dC : Nat → ClassId} {dI : Nat → Nat → Nat} {cyI cyJ cyZ : ClassId} {r : Nat → Nat} {b : Nat → Nat} {A : Nat → Prop} {M : MS} {x1 : Int32} {x2 : Int32} {x3 : Int32} {post : Int32 → MS → Prop} (G : xG p s m args meth c cX6_area 4 RX6 (some .int) wsX6_area (dC, dI) (tyA cyI cyJ cyZ) r A) (h : p_X6_area_14 M x1 x2 x3 post) {H : Heap} {locs : List Loc} {ls : Array Slot} (hP : va_P (dC, dI) vwCl (wM cyI cyJ cyZ b M) H) (hD : va_D A (wM cyI cyJ cyZ b M)) (hS : va_S A s.heap H locs) (hl : lv_has ls 4 [(0, .ref (b 0)), (1, .int x1), (2, .int x2), (3, .int x3)]) : W p l e { frames := 7, cells := 0, slots := 0, locals := 181 } s m args below meth c H locs 0 0 (MQ below (va_Qi post (xAt (dC, dI) (tyA cyI cyJ cyZ) (wM cyI cyJ cyZ b) A) A) args s 0 0 A) (F0 m 14 ls []) := by
  obtain ⟨hx, hb, hml, hown, hts, hr, hlocks, hK, hE, hA⟩ := id G
  have hiX6 : ∀ w ∈ wsX60, w ∈ wsX6_area := by decide +kernel
  have hf79 := hts (.fieldLink RX6 79 "CellMappingModel" "nodes" "I") (by decide +kernel)
  have hf31 := hts (.fieldLink RX6 31 "CellMappingModel" "areas" "[I") (by decide +kernel)
  have hf53 := hts (.fieldLink RX6 53 "CellMappingModel" "gates" "[I") (by decide +kernel)
  obtain ⟨I, mu, h0, hstep⟩ := h
  suffices hgo : ∀ (n : Nat) (x2 : Int32) (x3 : Int32), I x2 x3 → mu x2 x3 < n → ∀ (H : Heap) (locs : List Loc) (ls : Array Slot), va_P (dC, dI) vwCl (wM cyI cyJ cyZ b M) H → va_D A (wM cyI cyJ cyZ b M) → va_S A s.heap H locs → lv_has ls 4 [(0, .ref (b 0)), (1, .int x1), (2, .int x2), (3, .int x3)] → W p l e { frames := 7, cells := 0, slots := 0, locals := 181 } s m args below meth c H locs 0 0 (MQ below (va_Qi post (xAt (dC, dI) (tyA cyI cyJ cyZ) (wM cyI cyJ cyZ b) A) A) args s 0 0 A) (F0 m 14 ls []) from hgo (mu x2 x3 + 1) x2 x3 h0 (Nat.lt_succ_self _) H locs ls hP hD hS hl
  clear h0 hP hD hS hl
  intro n
  induction n with
  | zero => intro x2 x3 _ h; exact absurd h (Nat.not_lt_zero _)
  | succ n ih =>
    intro x2 x3 hI hmu H locs ls hP hD hS hl
    have h := hstep x2 x3 hI
    unfold b_X6_area_14 at h
    have k14 : ∀ (x2' : Int32) (x3' : Int32) (H : Heap) (locs : List Loc) (ls : Array Slot), (fun x2' x3' => I x2' x3' ∧ mu x2' x3' < mu x2 x3) x2' x3' → va_P (dC, dI) vwCl (wM cyI cyJ cyZ b M) H → va_D A (wM cyI cyJ cyZ b M) → va_S A s.heap H locs → lv_has ls 4 [(0, .ref (b 0)), (1, .int x1), (2, .int x2'), (3, .int x3')] → W p l e { frames := 7, cells := 0, slots := 0, locals := 181 } s m args below meth c H locs 0 0 (MQ below (va_Qi post (xAt (dC, dI) (tyA cyI cyJ cyZ) (wM cyI cyJ cyZ b) A) A) args s 0 0 A) (F0 m 14 ls []) := fun x2' x3' H locs ls hh hP hD hS hl => ih x2' x3' hh.1 (Nat.lt_of_lt_of_le hh.2 (Nat.le_of_lt_succ hmu)) H locs ls hP hD hS hl
    generalize (fun x2' x3' => I x2' x3' ∧ mu x2' x3' < mu x2 x3) = g14 at h k14
    refine lv_iload_n hx hb dX6_area_14 rfl (lv_at hl 3 rfl) ?_
    refine lv_iconst (v := 2) hx hb dX6_area_15 (by decide) ?_
    refine lv_aload_n hx hb dX6_area_16 rfl (lv_at hl 0 rfl) ?_
    refine va_get (D := (dC, dI)) (ci := 5) (v := .int (mND M)) (C := RX6) (T := TX6) (N := 27) hx hb hts hiX6 hown hK hP 0 rfl rfl 1 (by decide) hf79 (fun _ h9 => h9) rfl dX6_area_17 ?_
    refine lv_imul hx hb dX6_area_20 ?_
    refine lv_icmp_ge (tgt := 57) hx hb dX6_area_21 (by decide) (fun c4 => ?_) (fun c4 => ?_)
    · have h := h.1 c4
      refine lv_iload_n hx hb dX6_area_57 rfl (lv_at hl 2 rfl) ?_
      exact xr_i (S := M) hx hb hr hlocks hK hP hD hS h (Nat.le_of_ble_eq_true rfl) (Nat.le_of_ble_eq_true rfl) dX6_area_58
    · have h := h.2 c4
      refine lv_aload_n hx hb dX6_area_24 rfl (lv_at hl 0 rfl) ?_
      refine lv_iload_n hx hb dX6_area_25 rfl (lv_at hl 3 rfl) ?_
      refine lv_iload_n hx hb dX6_area_26 rfl (lv_at hl 1 rfl) ?_
      refine xc_Vi (wf := wM cyI cyJ cyZ b) (wr := []) (isC := [0, 1, 2, 3, 4, 5, 6, 7, 8, 9, 10, 11, 12, 13, 14, 15, 16, 17, 18, 19, 20]) (isR := []) (As := [.int x3, .int x1]) (rest := []) ⟨hx, hb, hml, hown, hts⟩ (t_X6_isWanted h) (cwV 2 hts gX6_area_X6_isWanted rfl rfl rfl (by decide +kernel) ⟨Nat.le_of_ble_eq_true rfl, Nat.le_of_ble_eq_true rfl⟩) ⟨hK, hE, hA, hP, hD, hS, rfl, rfl, rfl, rfl, by decide⟩ ⟨0, 5, _, _, rfl, rfl, rfl⟩ rfl rfl hl.1 (Nat.le_of_ble_eq_true rfl) dX6_area_27 ⟨Nat.le_of_ble_eq_true rfl, Nat.le_of_ble_eq_true rfl⟩ (fun r5 S6 H locs h hP hD hS => ?_)
      obtain ⟨rfl, h⟩ := h
      have hP : va_P (dC, dI) vwCl (wM cyI cyJ cyZ b M) H := hP
      have hD : va_D A (wM cyI cyJ cyZ b M) := hD
      refine lv_if_eq (tgt := 49) hx hb dX6_area_30 (by decide) (fun c7 => ?_) (fun c7 => ?_)
      · have h := h.1 c7
        refine lv_iload_n hx hb dX6_area_49 rfl (lv_at hl 2 rfl) ?_
        refine lv_istore_n (lv' := [(2, .int x2), (0, .ref (b 0)), (1, .int x1), (3, .int x3)]) hx hb dX6_area_50 rfl hl (by decide) rfl (fun ls hl => ?_)
        obtain ⟨y8, ey8⟩ : ∃ z : Int32, z = (x3 + (1 : Int32)) := ⟨_, rfl⟩
        have h := h y8 ey8
        refine lv_iinc (v := y8) (lv' := [(3, .int y8), (2, .int x2), (0, .ref (b 0)), (1, .int x1)]) hx hb dX6_area_51 hl (k := 3) rfl (by rw [ey8]; rfl) (by decide) rfl (fun ls hl => ?_)
        refine lv_goto (tgt := 14) hx hb dX6_area_54 (by decide) ?_
        exact k14 x2 y8 H locs ls h hP hD hS (lv_sub hl [2, 3, 1, 0] rfl)
      · have h := h.2 c7
        refine lv_iload_n hx hb dX6_area_33 rfl (lv_at hl 2 rfl) ?_
        refine lv_aload_n hx hb dX6_area_34 rfl (lv_at hl 0 rfl) ?_
        refine va_get (D := (dC, dI)) (ci := 5) (v := .ref (b 8)) (C := RX6) (T := TX6) (N := 27) hx hb hts hiX6 hown hK hP 0 rfl rfl 13 (by decide) hf31 (fun _ h9 => h9) rfl dX6_area_35 ?_
        refine lv_aload_n hx hb dX6_area_38 rfl (lv_at hl 0 rfl) ?_
        refine va_get (D := (dC, dI)) (ci := 5) (v := .ref (b 15)) (C := RX6) (T := TX6) (N := 27) hx hb hts hiX6 hown hK hP 0 rfl rfl 21 (by decide) hf53 (fun _ h9 => h9) rfl dX6_area_39 ?_
        refine lv_iload_n hx hb dX6_area_42 rfl (lv_at hl 3 rfl) ?_
        obtain ⟨i9, h⟩ := h
        refine va_iald (D := (dC, dI)) hx hb hK hP 15 0 rfl rfl i9 dX6_area_43 ?_
        obtain ⟨i10, h⟩ := h
        refine va_iald (D := (dC, dI)) hx hb hK hP 8 0 rfl rfl i10 dX6_area_44 ?_
        refine lv_iadd hx hb dX6_area_45 ?_
        refine lv_goto (tgt := 50) hx hb dX6_area_46 (by decide) ?_
        refine lv_topi (fun y11 ey11 => ?_)
        have h := h y11 ey11
        refine lv_istore_n (lv' := [(2, .int y11), (0, .ref (b 0)), (1, .int x1), (3, .int x3)]) hx hb dX6_area_50 rfl hl (by decide) rfl (fun ls hl => ?_)
        obtain ⟨y12, ey12⟩ : ∃ z : Int32, z = (x3 + (1 : Int32)) := ⟨_, rfl⟩
        have h := h y12 ey12
        refine lv_iinc (v := y12) (lv' := [(3, .int y12), (2, .int y11), (0, .ref (b 0)), (1, .int x1)]) hx hb dX6_area_51 hl (k := 3) rfl (by rw [ey12]; rfl) (by decide) rfl (fun ls hl => ?_)
        refine lv_goto (tgt := 14) hx hb dX6_area_54 (by decide) ?_
        exact k14 y11 y12 H locs ls h hP hD hS (lv_sub hl [2, 3, 1, 0] rfl)
def p_X6_area (M : MS) (post : Int32 → MS → Prop) : Prop := ∀ M1 : MS, M1 = (mTH_s M (0 : Int32)) → (p_X6_want M1 (fun r2 S3 => p_X6_area_14 S3 r2 (0 : Int32) (0 : Int32) post))
set_option maxHeartbeats 1000000 in
set_option maxRecDepth 100000 in
theorem t_X6_area {l : Launch} {dC : Nat → ClassId} {dI : Nat → Nat → Nat} {cyI cyJ cyZ : ClassId} {r : Nat → Nat} {b : Nat → Nat} {M : MS} {post : Int32 → MS → Prop} (h : p_X6_area M post) : xMi l yX6_area wsX6_area { frames := 7, cells := 0, slots := 0, locals := 181 } (dC, dI) (tyA cyI cyJ cyZ) r (wM cyI cyJ cyZ b) [.ref (b 0)] M post 0 0 := by
  intro sz
  refine Met.ofW (cc := cX6_area) (maxL := 4) (ret := (some .int)) (by decide) rfl ?_
  intro p e s m args below meth c s₁ B hml hv
  obtain ⟨rfl, G, hP, hD, hS⟩ := xG.of rfl B hml hv
  generalize hAe : va_A (wM cyI cyJ cyZ b M) sz = A at G hD hS ⊢
  have G : xG p s m _ meth c cX6_area 4 RX6 (some .int) wsX6_area (dC, dI) (tyA cyI cyJ cyZ) r A := G
  obtain ⟨hx, hb, hml, hown, hts, hr, hlocks, hK, hE, hA⟩ := id G
  have hiX6 : ∀ w ∈ wsX60, w ∈ wsX6_area := by decide +kernel
  have hf75 := hts (.fieldLink RX6 75 "CellMappingModel" "thrown" "I") (by decide +kernel)
  have hl := lv_entry ([.ref (b 0)]) (n := 4) (Nat.le_of_ble_eq_true rfl)
  rw [lg_entry_eq]
  generalize (lg_sl ([.ref (b 0)]) ++ List.replicate (4 - (lg_sl ([.ref (b 0)])).length) Slot.unset).toArray = ls at hl ⊢
  have hl : lv_has ls 4 [(0, .ref (b 0))] := hl
  show W p l e { frames := 7, cells := 0, slots := 0, locals := 181 } s m _ below meth c s.heap [] 0 0 _ _
  unfold p_X6_area at h
  refine lv_aload_n hx hb dX6_area_0 rfl (lv_at hl 0 rfl) ?_
  refine lv_iconst (v := 0) hx hb dX6_area_1 (by decide) ?_
  refine va_put (D := (dC, dI)) (ci := 5) (v := .int (0 : Int32)) (ty := .int) (C := RX6) (T := TX6) (N := 27) hx hb hts hiX6 tyX6 tyX6_ok nmX6 hown hK hP hD hS 0 rfl rfl 0 (by decide) hf75 (fun _ h9 => h9) rfl (by decide +kernel) rfl rfl (Nat.le_of_ble_eq_true rfl) dX6_area_2 (fun H locs hP hD hS => ?_)
  obtain ⟨M1, eM1⟩ : ∃ z : MS, z = (mTH_s M (0 : Int32)) := ⟨_, rfl⟩
  have h := h M1 eM1
  have hP := nP_mTH eM1 hP
  have hD := nD_mTH eM1 hD
  refine lv_aload_n hx hb dX6_area_5 rfl (lv_at hl 0 rfl) ?_
  refine xc_Vi (wf := wM cyI cyJ cyZ b) (wr := []) (isC := [0, 1, 2, 3, 4, 5, 6, 7, 8, 9, 10, 11, 12, 13, 14, 15, 16, 17, 18, 19, 20]) (isR := []) (As := []) (rest := []) ⟨hx, hb, hml, hown, hts⟩ (t_X6_want h) (cwV 0 hts gX6_area_X6_want rfl rfl rfl (by decide +kernel) ⟨Nat.le_of_ble_eq_true rfl, Nat.le_of_ble_eq_true rfl⟩) ⟨hK, hE, hA, hP, hD, hS, rfl, rfl, rfl, rfl, by decide⟩ ⟨0, 5, _, _, rfl, rfl, rfl⟩ rfl rfl hl.1 (Nat.le_of_ble_eq_true rfl) dX6_area_6 ⟨Nat.le_of_ble_eq_true rfl, Nat.le_of_ble_eq_true rfl⟩ (fun r2 S3 H locs h hP hD hS => ?_)
  have hP : va_P (dC, dI) vwCl (wM cyI cyJ cyZ b S3) H := hP
  have hD : va_D A (wM cyI cyJ cyZ b S3) := hD
  refine lv_istore_n (lv' := [(1, .int r2), (0, .ref (b 0))]) hx hb dX6_area_9 rfl hl (by decide) rfl (fun ls hl => ?_)
  refine lv_iconst (v := 0) hx hb dX6_area_10 (by decide) ?_
  refine lv_istore_n (lv' := [(2, .int (0 : Int32)), (1, .int r2), (0, .ref (b 0))]) hx hb dX6_area_11 rfl hl (by decide) rfl (fun ls hl => ?_)
  refine lv_iconst (v := 0) hx hb dX6_area_12 (by decide) ?_
  refine lv_istore_n (lv' := [(3, .int (0 : Int32)), (2, .int (0 : Int32)), (1, .int r2), (0, .ref (b 0))]) hx hb dX6_area_13 rfl hl (by decide) rfl (fun ls hl => ?_)
  exact t_X6_area_14 G h hP hD hS (lv_sub hl [3, 2, 1, 0] rfl)
def b_X6_worst_13 (M : MS) (post : Int32 → MS → Prop) (g13 : Int32 → Int32 → Prop) (x1 : Int32) (x2 : Int32) : Prop := ((mOU M) ≤ x2 → (post x1 M)) ∧ (¬ (mOU M) ≤ x2 → (vp_in x2 6 ∧ (vp_in ((mOL M) x2.toNatClampNeg) 64 ∧ (∀ y6 : Int32, y6 = ((mAV M) ((mOL M) x2.toNatClampNeg).toNatClampNeg) → ((¬ y6 = (-1 : Int32) → ((y6 ≤ x1 → (∀ y9 : Int32, y9 = (x2 + (1 : Int32)) → (g13 x1 y9))) ∧ (¬ y6 ≤ x1 → (∀ y10 : Int32, y10 = (x2 + (1 : Int32)) → (g13 y6 y10))))) ∧ (y6 = (-1 : Int32) → (post (-1 : Int32) M)))))))
def p_X6_worst_13 (M : MS) (x1 : Int32) (x2 : Int32) (post : Int32 → MS → Prop) : Prop := ∃ (I : Int32 → Int32 → Prop) (mu : Int32 → Int32 → Nat), I x1 x2 ∧ ∀ (x1 : Int32) (x2 : Int32), I x1 x2 → b_X6_worst_13 M post (fun x1' x2' => I x1' x2' ∧ mu x1' x2' < mu x1 x2) x1 x2
set_option maxHeartbeats 1000000 in
set_option maxRecDepth 100000 in
theorem t_X6_worst_13 {p : Program} {l : Launch} {e : Env} {s : State} {m : MethodId} {args : Array Value} {below : List Frame} {meth : Method} {c : Code} {dC : Nat → ClassId} {dI : Nat → Nat → Nat} {cyI cyJ cyZ : ClassId} {r : Nat → Nat} {b : Nat → Nat} {A : Nat → Prop} {M : MS} {x1 : Int32} {x2 : Int32} {post : Int32 → MS → Prop} (G : xG p s m args meth c cX6_worst 4 RX6 (some .int) wsX6_worst (dC, dI) (tyA cyI cyJ cyZ) r A) (h : p_X6_worst_13 M x1 x2 post) {H : Heap} {locs : List Loc} {ls : Array Slot} (hP : va_P (dC, dI) vwCl (wM cyI cyJ cyZ b M) H) (hD : va_D A (wM cyI cyJ cyZ b M)) (hS : va_S A s.heap H locs) (hl : lv_has ls 4 [(0, .ref (b 0)), (1, .int x1), (2, .int x2)]) : W p l e { frames := 6, cells := 0, slots := 0, locals := 157 } s m args below meth c H locs 0 0 (MQ below (va_Qi post (xAt (dC, dI) (tyA cyI cyJ cyZ) (wM cyI cyJ cyZ b) A) A) args s 0 0 A) (F0 m 13 ls []) := by
  obtain ⟨hx, hb, hml, hown, hts, hr, hlocks, hK, hE, hA⟩ := id G
  have hiX6 : ∀ w ∈ wsX60, w ∈ wsX6_worst := by decide +kernel
  have hf104 := hts (.fieldLink RX6 104 "CellMappingModel" "outputs" "I") (by decide +kernel)
  have hf50 := hts (.fieldLink RX6 50 "CellMappingModel" "arrivals" "[I") (by decide +kernel)
  have hf22 := hts (.fieldLink RX6 22 "CellMappingModel" "outputLiterals" "[I") (by decide +kernel)
  obtain ⟨I, mu, h0, hstep⟩ := h
  suffices hgo : ∀ (n : Nat) (x1 : Int32) (x2 : Int32), I x1 x2 → mu x1 x2 < n → ∀ (H : Heap) (locs : List Loc) (ls : Array Slot), va_P (dC, dI) vwCl (wM cyI cyJ cyZ b M) H → va_D A (wM cyI cyJ cyZ b M) → va_S A s.heap H locs → lv_has ls 4 [(0, .ref (b 0)), (1, .int x1), (2, .int x2)] → W p l e { frames := 6, cells := 0, slots := 0, locals := 157 } s m args below meth c H locs 0 0 (MQ below (va_Qi post (xAt (dC, dI) (tyA cyI cyJ cyZ) (wM cyI cyJ cyZ b) A) A) args s 0 0 A) (F0 m 13 ls []) from hgo (mu x1 x2 + 1) x1 x2 h0 (Nat.lt_succ_self _) H locs ls hP hD hS hl
  clear h0 hP hD hS hl
  intro n
  induction n with
  | zero => intro x1 x2 _ h; exact absurd h (Nat.not_lt_zero _)
  | succ n ih =>
    intro x1 x2 hI hmu H locs ls hP hD hS hl
    have h := hstep x1 x2 hI
    unfold b_X6_worst_13 at h
    have k13 : ∀ (x1' : Int32) (x2' : Int32) (H : Heap) (locs : List Loc) (ls : Array Slot), (fun x1' x2' => I x1' x2' ∧ mu x1' x2' < mu x1 x2) x1' x2' → va_P (dC, dI) vwCl (wM cyI cyJ cyZ b M) H → va_D A (wM cyI cyJ cyZ b M) → va_S A s.heap H locs → lv_has ls 4 [(0, .ref (b 0)), (1, .int x1'), (2, .int x2')] → W p l e { frames := 6, cells := 0, slots := 0, locals := 157 } s m args below meth c H locs 0 0 (MQ below (va_Qi post (xAt (dC, dI) (tyA cyI cyJ cyZ) (wM cyI cyJ cyZ b) A) A) args s 0 0 A) (F0 m 13 ls []) := fun x1' x2' H locs ls hh hP hD hS hl => ih x1' x2' hh.1 (Nat.lt_of_lt_of_le hh.2 (Nat.le_of_lt_succ hmu)) H locs ls hP hD hS hl
    generalize (fun x1' x2' => I x1' x2' ∧ mu x1' x2' < mu x1 x2) = g13 at h k13
    refine lv_iload_n hx hb dX6_worst_13 rfl (lv_at hl 2 rfl) ?_
    refine lv_aload_n hx hb dX6_worst_14 rfl (lv_at hl 0 rfl) ?_
    refine va_get (D := (dC, dI)) (ci := 5) (v := .int (mOU M)) (C := RX6) (T := TX6) (N := 27) hx hb hts hiX6 hown hK hP 0 rfl rfl 8 (by decide) hf104 (fun _ h9 => h9) rfl dX6_worst_15 ?_
    refine lv_icmp_ge (tgt := 57) hx hb dX6_worst_18 (by decide) (fun c3 => ?_) (fun c3 => ?_)
    · have h := h.1 c3
      refine lv_iload_n hx hb dX6_worst_57 rfl (lv_at hl 1 rfl) ?_
      exact xr_i (S := M) hx hb hr hlocks hK hP hD hS h (Nat.le_of_ble_eq_true rfl) (Nat.le_of_ble_eq_true rfl) dX6_worst_58
    · have h := h.2 c3
      refine lv_aload_n hx hb dX6_worst_21 rfl (lv_at hl 0 rfl) ?_
      refine va_get (D := (dC, dI)) (ci := 5) (v := .ref (b 14)) (C := RX6) (T := TX6) (N := 27) hx hb hts hiX6 hown hK hP 0 rfl rfl 20 (by decide) hf50 (fun _ h9 => h9) rfl dX6_worst_22 ?_
      refine lv_aload_n hx hb dX6_worst_25 rfl (lv_at hl 0 rfl) ?_
      refine va_get (D := (dC, dI)) (ci := 5) (v := .ref (b 5)) (C := RX6) (T := TX6) (N := 27) hx hb hts hiX6 hown hK hP 0 rfl rfl 9 (by decide) hf22 (fun _ h9 => h9) rfl dX6_worst_26 ?_
      refine lv_iload_n hx hb dX6_worst_29 rfl (lv_at hl 2 rfl) ?_
      obtain ⟨i4, h⟩ := h
      refine va_iald (D := (dC, dI)) hx hb hK hP 5 0 rfl rfl i4 dX6_worst_30 ?_
      obtain ⟨i5, h⟩ := h
      refine va_iald (D := (dC, dI)) hx hb hK hP 14 0 rfl rfl i5 dX6_worst_31 ?_
      refine lv_topi (fun y6 ey6 => ?_)
      have h := h y6 ey6
      refine lv_istore_n (lv' := [(3, .int y6), (0, .ref (b 0)), (1, .int x1), (2, .int x2)]) hx hb dX6_worst_32 rfl hl (by decide) rfl (fun ls hl => ?_)
      refine lv_iload_n hx hb dX6_worst_33 rfl (lv_at hl 0 rfl) ?_
      refine lv_iconst (v := -1) hx hb dX6_worst_34 (by decide) ?_
      refine lv_icmp_ne (tgt := 40) hx hb dX6_worst_35 (by decide) (fun c7 => ?_) (fun c7 => ?_)
      · have h := h.1 c7
        refine lv_iload_n hx hb dX6_worst_40 rfl (lv_at hl 0 rfl) ?_
        refine lv_iload_n hx hb dX6_worst_41 rfl (lv_at hl 2 rfl) ?_
        refine lv_icmp_le (tgt := 49) hx hb dX6_worst_42 (by decide) (fun c8 => ?_) (fun c8 => ?_)
        · have h := h.1 c8
          refine lv_iload_n hx hb dX6_worst_49 rfl (lv_at hl 2 rfl) ?_
          refine lv_istore_n (lv' := [(1, .int x1), (3, .int y6), (0, .ref (b 0)), (2, .int x2)]) hx hb dX6_worst_50 rfl hl (by decide) rfl (fun ls hl => ?_)
          obtain ⟨y9, ey9⟩ : ∃ z : Int32, z = (x2 + (1 : Int32)) := ⟨_, rfl⟩
          have h := h y9 ey9
          refine lv_iinc (v := y9) (lv' := [(2, .int y9), (1, .int x1), (3, .int y6), (0, .ref (b 0))]) hx hb dX6_worst_51 hl (k := 3) rfl (by rw [ey9]; rfl) (by decide) rfl (fun ls hl => ?_)
          refine lv_goto (tgt := 13) hx hb dX6_worst_54 (by decide) ?_
          exact k13 x1 y9 H locs ls h hP hD hS (lv_sub hl [3, 1, 0] rfl)
        · have h := h.2 c8
          refine lv_iload_n hx hb dX6_worst_45 rfl (lv_at hl 0 rfl) ?_
          refine lv_goto (tgt := 50) hx hb dX6_worst_46 (by decide) ?_
          refine lv_istore_n (lv' := [(1, .int y6), (3, .int y6), (0, .ref (b 0)), (2, .int x2)]) hx hb dX6_worst_50 rfl hl (by decide) rfl (fun ls hl => ?_)
          obtain ⟨y10, ey10⟩ : ∃ z : Int32, z = (x2 + (1 : Int32)) := ⟨_, rfl⟩
          have h := h y10 ey10
          refine lv_iinc (v := y10) (lv' := [(2, .int y10), (1, .int y6), (3, .int y6), (0, .ref (b 0))]) hx hb dX6_worst_51 hl (k := 3) rfl (by rw [ey10]; rfl) (by decide) rfl (fun ls hl => ?_)
          refine lv_goto (tgt := 13) hx hb dX6_worst_54 (by decide) ?_
          exact k13 y6 y10 H locs ls h hP hD hS (lv_sub hl [3, 1, 0] rfl)
      · have h := h.2 c7
        refine lv_iconst (v := -1) hx hb dX6_worst_38 (by decide) ?_
        exact xr_i (S := M) hx hb hr hlocks hK hP hD hS h (Nat.le_of_ble_eq_true rfl) (Nat.le_of_ble_eq_true rfl) dX6_worst_39
def p_X6_worst (M : MS) (post : Int32 → MS → Prop) : Prop := ∀ M1 : MS, M1 = (mTH_s M (0 : Int32)) → (p_X6_settle M1 (fun S2 => p_X6_worst_13 S2 (0 : Int32) (0 : Int32) post))
set_option maxHeartbeats 1000000 in
set_option maxRecDepth 100000 in
theorem t_X6_worst {l : Launch} {dC : Nat → ClassId} {dI : Nat → Nat → Nat} {cyI cyJ cyZ : ClassId} {r : Nat → Nat} {b : Nat → Nat} {M : MS} {post : Int32 → MS → Prop} (h : p_X6_worst M post) : xMi l yX6_worst wsX6_worst { frames := 6, cells := 0, slots := 0, locals := 157 } (dC, dI) (tyA cyI cyJ cyZ) r (wM cyI cyJ cyZ b) [.ref (b 0)] M post 0 0 := by
  intro sz
  refine Met.ofW (cc := cX6_worst) (maxL := 4) (ret := (some .int)) (by decide) rfl ?_
  intro p e s m args below meth c s₁ B hml hv
  obtain ⟨rfl, G, hP, hD, hS⟩ := xG.of rfl B hml hv
  generalize hAe : va_A (wM cyI cyJ cyZ b M) sz = A at G hD hS ⊢
  have G : xG p s m _ meth c cX6_worst 4 RX6 (some .int) wsX6_worst (dC, dI) (tyA cyI cyJ cyZ) r A := G
  obtain ⟨hx, hb, hml, hown, hts, hr, hlocks, hK, hE, hA⟩ := id G
  have hiX6 : ∀ w ∈ wsX60, w ∈ wsX6_worst := by decide +kernel
  have hf75 := hts (.fieldLink RX6 75 "CellMappingModel" "thrown" "I") (by decide +kernel)
  have hl := lv_entry ([.ref (b 0)]) (n := 4) (Nat.le_of_ble_eq_true rfl)
  rw [lg_entry_eq]
  generalize (lg_sl ([.ref (b 0)]) ++ List.replicate (4 - (lg_sl ([.ref (b 0)])).length) Slot.unset).toArray = ls at hl ⊢
  have hl : lv_has ls 4 [(0, .ref (b 0))] := hl
  show W p l e { frames := 6, cells := 0, slots := 0, locals := 157 } s m _ below meth c s.heap [] 0 0 _ _
  unfold p_X6_worst at h
  refine lv_aload_n hx hb dX6_worst_0 rfl (lv_at hl 0 rfl) ?_
  refine lv_iconst (v := 0) hx hb dX6_worst_1 (by decide) ?_
  refine va_put (D := (dC, dI)) (ci := 5) (v := .int (0 : Int32)) (ty := .int) (C := RX6) (T := TX6) (N := 27) hx hb hts hiX6 tyX6 tyX6_ok nmX6 hown hK hP hD hS 0 rfl rfl 0 (by decide) hf75 (fun _ h9 => h9) rfl (by decide +kernel) rfl rfl (Nat.le_of_ble_eq_true rfl) dX6_worst_2 (fun H locs hP hD hS => ?_)
  obtain ⟨M1, eM1⟩ : ∃ z : MS, z = (mTH_s M (0 : Int32)) := ⟨_, rfl⟩
  have h := h M1 eM1
  have hP := nP_mTH eM1 hP
  have hD := nD_mTH eM1 hD
  refine lv_aload_n hx hb dX6_worst_5 rfl (lv_at hl 0 rfl) ?_
  refine xc_Vv (wf := wM cyI cyJ cyZ b) (wr := []) (isC := [0, 1, 2, 3, 4, 5, 6, 7, 8, 9, 10, 11, 12, 13, 14, 15, 16, 17, 18, 19, 20]) (isR := []) (As := []) (rest := []) ⟨hx, hb, hml, hown, hts⟩ (t_X6_settle h) (cwV 0 hts gX6_worst_X6_settle rfl rfl rfl (by decide +kernel) ⟨Nat.le_of_ble_eq_true rfl, Nat.le_of_ble_eq_true rfl⟩) ⟨hK, hE, hA, hP, hD, hS, rfl, rfl, rfl, rfl, by decide⟩ ⟨0, 5, _, _, rfl, rfl, rfl⟩ rfl rfl hl.1 (Nat.le_of_ble_eq_true rfl) dX6_worst_6 ⟨Nat.le_of_ble_eq_true rfl, Nat.le_of_ble_eq_true rfl⟩ (fun  S2 H locs h hP hD hS => ?_)
  have hP : va_P (dC, dI) vwCl (wM cyI cyJ cyZ b S2) H := hP
  have hD : va_D A (wM cyI cyJ cyZ b S2) := hD
  refine lv_iconst (v := 0) hx hb dX6_worst_9 (by decide) ?_
  refine lv_istore_n (lv' := [(1, .int (0 : Int32)), (0, .ref (b 0))]) hx hb dX6_worst_10 rfl hl (by decide) rfl (fun ls hl => ?_)
  refine lv_iconst (v := 0) hx hb dX6_worst_11 (by decide) ?_
  refine lv_istore_n (lv' := [(2, .int (0 : Int32)), (1, .int (0 : Int32)), (0, .ref (b 0))]) hx hb dX6_worst_12 rfl hl (by decide) rfl (fun ls hl => ?_)
  exact t_X6_worst_13 G h hP hD hS (lv_sub hl [2, 1, 0] rfl)
def b_X6_setInputs_2 (x1 : Int32) (post : MS → Prop) (g2 : MS → Int32 → Prop) (M : MS) (x2 : Int32) : Prop := ((mIP M) ≤ x2 → (post M)) ∧ (¬ (mIP M) ≤ x2 → (vp_in x2 8 ∧ (vp_in ((mIN M) x2.toNatClampNeg) 64 ∧ (∀ M4 : MS, M4 = (mVA_s M (upd (mVA M) ((mIN M) x2.toNatClampNeg).toNatClampNeg ((x1 >>> (x2 &&& 31)) &&& (1 : Int32)))) → (∀ y5 : Int32, y5 = (x2 + (1 : Int32)) → (g2 M4 y5))))))
def p_X6_setInputs_2 (M : MS) (x1 : Int32) (x2 : Int32) (post : MS → Prop) : Prop := ∃ (I : MS → Int32 → Prop) (mu : MS → Int32 → Nat), I M x2 ∧ ∀ (M : MS) (x2 : Int32), I M x2 → b_X6_setInputs_2 x1 post (fun M' x2' => I M' x2' ∧ mu M' x2' < mu M x2) M x2
set_option maxHeartbeats 1000000 in
set_option maxRecDepth 100000 in
theorem t_X6_setInputs_2 {p : Program} {l : Launch} {e : Env} {s : State} {m : MethodId} {args : Array Value} {below : List Frame} {meth : Method} {c : Code} {dC : Nat → ClassId} {dI : Nat → Nat → Nat} {cyI cyJ cyZ : ClassId} {r : Nat → Nat} {b : Nat → Nat} {A : Nat → Prop} {M : MS} {x1 : Int32} {x2 : Int32} {post : MS → Prop} (G : xG p s m args meth c cX6_setInputs 3 RX6 none wsX6_setInputs (dC, dI) (tyA cyI cyJ cyZ) r A) (h : p_X6_setInputs_2 M x1 x2 post) {H : Heap} {locs : List Loc} {ls : Array Slot} (hP : va_P (dC, dI) vwCl (wM cyI cyJ cyZ b M) H) (hD : va_D A (wM cyI cyJ cyZ b M)) (hS : va_S A s.heap H locs) (hl : lv_has ls 3 [(0, .ref (b 0)), (1, .int x1), (2, .int x2)]) : W p l e { frames := 0, cells := 0, slots := 0, locals := 0 } s m args below meth c H locs 0 0 (MQ below (va_Qv post (xAt (dC, dI) (tyA cyI cyJ cyZ) (wM cyI cyJ cyZ b) A) A) args s 0 0 A) (F0 m 2 ls []) := by
  obtain ⟨hx, hb, hml, hown, hts, hr, hlocks, hK, hE, hA⟩ := id G
  have hiX6 : ∀ w ∈ wsX60, w ∈ wsX6_setInputs := by decide +kernel
  have hf86 := hts (.fieldLink RX6 86 "CellMappingModel" "inputs" "I") (by decide +kernel)
  have hf63 := hts (.fieldLink RX6 63 "CellMappingModel" "values" "[I") (by decide +kernel)
  have hf16 := hts (.fieldLink RX6 16 "CellMappingModel" "inputNodes" "[I") (by decide +kernel)
  obtain ⟨I, mu, h0, hstep⟩ := h
  suffices hgo : ∀ (n : Nat) (M : MS) (x2 : Int32), I M x2 → mu M x2 < n → ∀ (H : Heap) (locs : List Loc) (ls : Array Slot), va_P (dC, dI) vwCl (wM cyI cyJ cyZ b M) H → va_D A (wM cyI cyJ cyZ b M) → va_S A s.heap H locs → lv_has ls 3 [(0, .ref (b 0)), (1, .int x1), (2, .int x2)] → W p l e { frames := 0, cells := 0, slots := 0, locals := 0 } s m args below meth c H locs 0 0 (MQ below (va_Qv post (xAt (dC, dI) (tyA cyI cyJ cyZ) (wM cyI cyJ cyZ b) A) A) args s 0 0 A) (F0 m 2 ls []) from hgo (mu M x2 + 1) M x2 h0 (Nat.lt_succ_self _) H locs ls hP hD hS hl
  clear h0 hP hD hS hl
  intro n
  induction n with
  | zero => intro M x2 _ h; exact absurd h (Nat.not_lt_zero _)
  | succ n ih =>
    intro M x2 hI hmu H locs ls hP hD hS hl
    have h := hstep M x2 hI
    unfold b_X6_setInputs_2 at h
    have k2 : ∀ (M' : MS) (x2' : Int32) (H : Heap) (locs : List Loc) (ls : Array Slot), (fun M' x2' => I M' x2' ∧ mu M' x2' < mu M x2) M' x2' → va_P (dC, dI) vwCl (wM cyI cyJ cyZ b M') H → va_D A (wM cyI cyJ cyZ b M') → va_S A s.heap H locs → lv_has ls 3 [(0, .ref (b 0)), (1, .int x1), (2, .int x2')] → W p l e { frames := 0, cells := 0, slots := 0, locals := 0 } s m args below meth c H locs 0 0 (MQ below (va_Qv post (xAt (dC, dI) (tyA cyI cyJ cyZ) (wM cyI cyJ cyZ b) A) A) args s 0 0 A) (F0 m 2 ls []) := fun M' x2' H locs ls hh hP hD hS hl => ih M' x2' hh.1 (Nat.lt_of_lt_of_le hh.2 (Nat.le_of_lt_succ hmu)) H locs ls hP hD hS hl
    generalize (fun M' x2' => I M' x2' ∧ mu M' x2' < mu M x2) = g2 at h k2
    refine lv_iload_n hx hb dX6_setInputs_2 rfl (lv_at hl 2 rfl) ?_
    refine lv_aload_n hx hb dX6_setInputs_3 rfl (lv_at hl 0 rfl) ?_
    refine va_get (D := (dC, dI)) (ci := 5) (v := .int (mIP M)) (C := RX6) (T := TX6) (N := 27) hx hb hts hiX6 hown hK hP 0 rfl rfl 2 (by decide) hf86 (fun _ h9 => h9) rfl dX6_setInputs_4 ?_
    refine lv_icmp_ge (tgt := 32) hx hb dX6_setInputs_7 (by decide) (fun c1 => ?_) (fun c1 => ?_)
    · have h := h.1 c1
      exact xr_v (S := M) hx hb hr hlocks hK hP hD hS h (Nat.le_of_ble_eq_true rfl) (Nat.le_of_ble_eq_true rfl) dX6_setInputs_32
    · have h := h.2 c1
      refine lv_aload_n hx hb dX6_setInputs_10 rfl (lv_at hl 0 rfl) ?_
      refine va_get (D := (dC, dI)) (ci := 5) (v := .ref (b 18)) (C := RX6) (T := TX6) (N := 27) hx hb hts hiX6 hown hK hP 0 rfl rfl 24 (by decide) hf63 (fun _ h9 => h9) rfl dX6_setInputs_11 ?_
      refine lv_aload_n hx hb dX6_setInputs_14 rfl (lv_at hl 0 rfl) ?_
      refine va_get (D := (dC, dI)) (ci := 5) (v := .ref (b 3)) (C := RX6) (T := TX6) (N := 27) hx hb hts hiX6 hown hK hP 0 rfl rfl 6 (by decide) hf16 (fun _ h9 => h9) rfl dX6_setInputs_15 ?_
      refine lv_iload_n hx hb dX6_setInputs_18 rfl (lv_at hl 2 rfl) ?_
      obtain ⟨i2, h⟩ := h
      refine va_iald (D := (dC, dI)) hx hb hK hP 3 0 rfl rfl i2 dX6_setInputs_19 ?_
      refine lv_iload_n hx hb dX6_setInputs_20 rfl (lv_at hl 1 rfl) ?_
      refine lv_iload_n hx hb dX6_setInputs_21 rfl (lv_at hl 2 rfl) ?_
      refine lv_ishr hx hb dX6_setInputs_22 ?_
      refine lv_iconst (v := 1) hx hb dX6_setInputs_23 (by decide) ?_
      refine lv_iand hx hb dX6_setInputs_24 ?_
      obtain ⟨i3, h⟩ := h
      refine va_iast (D := (dC, dI)) hx hb hK hP hD hS 18 0 rfl rfl i3 dX6_setInputs_25 (fun H locs hP hD hS => ?_)
      obtain ⟨M4, eM4⟩ : ∃ z : MS, z = (mVA_s M (upd (mVA M) ((mIN M) x2.toNatClampNeg).toNatClampNeg ((x1 >>> (x2 &&& 31)) &&& (1 : Int32)))) := ⟨_, rfl⟩
      have h := h M4 eM4
      have hP := nP_mVA eM4 hP
      have hD := nD_mVA eM4 hD
      obtain ⟨y5, ey5⟩ : ∃ z : Int32, z = (x2 + (1 : Int32)) := ⟨_, rfl⟩
      have h := h y5 ey5
      refine lv_iinc (v := y5) (lv' := [(2, .int y5), (0, .ref (b 0)), (1, .int x1)]) hx hb dX6_setInputs_26 hl (k := 2) rfl (by rw [ey5]; rfl) (by decide) rfl (fun ls hl => ?_)
      refine lv_goto (tgt := 2) hx hb dX6_setInputs_29 (by decide) ?_
      exact k2 M4 y5 H locs ls h hP hD hS (lv_sub hl [1, 2, 0] rfl)
def p_X6_setInputs (M : MS) (x1 : Int32) (post : MS → Prop) : Prop := p_X6_setInputs_2 M x1 (0 : Int32) post
set_option maxHeartbeats 1000000 in
set_option maxRecDepth 100000 in
theorem t_X6_setInputs {l : Launch} {dC : Nat → ClassId} {dI : Nat → Nat → Nat} {cyI cyJ cyZ : ClassId} {r : Nat → Nat} {b : Nat → Nat} {M : MS} {x1 : Int32} {post : MS → Prop} (h : p_X6_setInputs M x1 post) : xMv l yX6_setInputs wsX6_setInputs { frames := 0, cells := 0, slots := 0, locals := 0 } (dC, dI) (tyA cyI cyJ cyZ) r (wM cyI cyJ cyZ b) [.ref (b 0), .int x1] M post 0 0 := by
  intro sz
  refine Met.ofW (cc := cX6_setInputs) (maxL := 3) (ret := none) (by decide) rfl ?_
  intro p e s m args below meth c s₁ B hml hv
  obtain ⟨rfl, G, hP, hD, hS⟩ := xG.of rfl B hml hv
  generalize hAe : va_A (wM cyI cyJ cyZ b M) sz = A at G hD hS ⊢
  have G : xG p s m _ meth c cX6_setInputs 3 RX6 none wsX6_setInputs (dC, dI) (tyA cyI cyJ cyZ) r A := G
  obtain ⟨hx, hb, hml, hown, hts, hr, hlocks, hK, hE, hA⟩ := id G
  have hl := lv_entry ([.ref (b 0), .int x1]) (n := 3) (Nat.le_of_ble_eq_true rfl)
  rw [lg_entry_eq]
  generalize (lg_sl ([.ref (b 0), .int x1]) ++ List.replicate (3 - (lg_sl ([.ref (b 0), .int x1])).length) Slot.unset).toArray = ls at hl ⊢
  have hl : lv_has ls 3 [(0, .ref (b 0)), (1, .int x1)] := hl
  show W p l e { frames := 0, cells := 0, slots := 0, locals := 0 } s m _ below meth c s.heap [] 0 0 _ _
  unfold p_X6_setInputs at h
  refine lv_iconst (v := 0) hx hb dX6_setInputs_0 (by decide) ?_
  refine lv_istore_n (lv' := [(2, .int (0 : Int32)), (0, .ref (b 0)), (1, .int x1)]) hx hb dX6_setInputs_1 rfl hl (by decide) rfl (fun ls hl => ?_)
  exact t_X6_setInputs_2 G h hP hD hS (lv_sub hl [1, 2, 0] rfl)
def b_X6_value_33 (x1 : Int32) (post : Int32 → MS → Prop) (g33 : MS → Int32 → Prop) (M : MS) (x3 : Int32) : Prop := ((mND M) ≤ x3 → (vp_in (x1 / (2 : Int32)) 64 ∧ (p_X6_turn M x1 ((mVA M) (x1 / (2 : Int32)).toNatClampNeg) (fun r9 => post r9 M)))) ∧ (¬ (mND M) ≤ x3 → (p_X6_isInput M x3 (fun r11 => (¬ r11 = 0 → (∀ y14 : Int32, y14 = (x3 + (1 : Int32)) → (g33 M y14))) ∧ (r11 = 0 → (vp_in x3 32 ∧ (vp_in x3 32 ∧ (vp_in (((mON M) x3.toNatClampNeg) / (2 : Int32)) 64 ∧ (p_X6_turn M ((mON M) x3.toNatClampNeg) ((mVA M) (((mON M) x3.toNatClampNeg) / (2 : Int32)).toNatClampNeg) (fun r18 => vp_in x3 32 ∧ (vp_in x3 32 ∧ (vp_in (((mTW M) x3.toNatClampNeg) / (2 : Int32)) 64 ∧ (p_X6_turn M ((mTW M) x3.toNatClampNeg) ((mVA M) (((mTW M) x3.toNatClampNeg) / (2 : Int32)).toNatClampNeg) (fun r23 => vp_in x3 64 ∧ (∀ M26 : MS, M26 = (mVA_s M (upd (mVA M) x3.toNatClampNeg (r18 &&& r23))) → (∀ y27 : Int32, y27 = (x3 + (1 : Int32)) → (g33 M26 y27))))))))))))))))
def p_X6_value_33 (M : MS) (x1 : Int32) (x3 : Int32) (post : Int32 → MS → Prop) : Prop := ∃ (I : MS → Int32 → Prop) (mu : MS → Int32 → Nat), I M x3 ∧ ∀ (M : MS) (x3 : Int32), I M x3 → b_X6_value_33 x1 post (fun M' x3' => I M' x3' ∧ mu M' x3' < mu M x3) M x3
set_option maxHeartbeats 1000000 in
set_option maxRecDepth 100000 in
theorem t_X6_value_33 {p : Program} {l : Launch} {e : Env} {s : State} {m : MethodId} {args : Array Value} {below : List Frame} {meth : Method} {c : Code} {dC : Nat → ClassId} {dI : Nat → Nat → Nat} {cyI cyJ cyZ : ClassId} {r : Nat → Nat} {b : Nat → Nat} {A : Nat → Prop} {M : MS} {x1 : Int32} {x3 : Int32} {post : Int32 → MS → Prop} (G : xG p s m args meth c cX6_value 4 RX6 (some .int) wsX6_value (dC, dI) (tyA cyI cyJ cyZ) r A) (h : p_X6_value_33 M x1 x3 post) {H : Heap} {locs : List Loc} {ls : Array Slot} (hP : va_P (dC, dI) vwCl (wM cyI cyJ cyZ b M) H) (hD : va_D A (wM cyI cyJ cyZ b M)) (hS : va_S A s.heap H locs) (hl : lv_has ls 4 [(0, .ref (b 0)), (1, .int x1), (3, .int x3)]) : W p l e { frames := 2, cells := 0, slots := 0, locals := 42 } s m args below meth c H locs 0 0 (MQ below (va_Qi post (xAt (dC, dI) (tyA cyI cyJ cyZ) (wM cyI cyJ cyZ b) A) A) args s 0 0 A) (F0 m 33 ls []) := by
  obtain ⟨hx, hb, hml, hown, hts, hr, hlocks, hK, hE, hA⟩ := id G
  have hiX6 : ∀ w ∈ wsX60, w ∈ wsX6_value := by decide +kernel
  have hf79 := hts (.fieldLink RX6 79 "CellMappingModel" "nodes" "I") (by decide +kernel)
  have hf63 := hts (.fieldLink RX6 63 "CellMappingModel" "values" "[I") (by decide +kernel)
  have hf7 := hts (.fieldLink RX6 7 "CellMappingModel" "ones" "[I") (by decide +kernel)
  have hf13 := hts (.fieldLink RX6 13 "CellMappingModel" "twos" "[I") (by decide +kernel)
  obtain ⟨I, mu, h0, hstep⟩ := h
  suffices hgo : ∀ (n : Nat) (M : MS) (x3 : Int32), I M x3 → mu M x3 < n → ∀ (H : Heap) (locs : List Loc) (ls : Array Slot), va_P (dC, dI) vwCl (wM cyI cyJ cyZ b M) H → va_D A (wM cyI cyJ cyZ b M) → va_S A s.heap H locs → lv_has ls 4 [(0, .ref (b 0)), (1, .int x1), (3, .int x3)] → W p l e { frames := 2, cells := 0, slots := 0, locals := 42 } s m args below meth c H locs 0 0 (MQ below (va_Qi post (xAt (dC, dI) (tyA cyI cyJ cyZ) (wM cyI cyJ cyZ b) A) A) args s 0 0 A) (F0 m 33 ls []) from hgo (mu M x3 + 1) M x3 h0 (Nat.lt_succ_self _) H locs ls hP hD hS hl
  clear h0 hP hD hS hl
  intro n
  induction n with
  | zero => intro M x3 _ h; exact absurd h (Nat.not_lt_zero _)
  | succ n ih =>
    intro M x3 hI hmu H locs ls hP hD hS hl
    have h := hstep M x3 hI
    unfold b_X6_value_33 at h
    have k33 : ∀ (M' : MS) (x3' : Int32) (H : Heap) (locs : List Loc) (ls : Array Slot), (fun M' x3' => I M' x3' ∧ mu M' x3' < mu M x3) M' x3' → va_P (dC, dI) vwCl (wM cyI cyJ cyZ b M') H → va_D A (wM cyI cyJ cyZ b M') → va_S A s.heap H locs → lv_has ls 4 [(0, .ref (b 0)), (1, .int x1), (3, .int x3')] → W p l e { frames := 2, cells := 0, slots := 0, locals := 42 } s m args below meth c H locs 0 0 (MQ below (va_Qi post (xAt (dC, dI) (tyA cyI cyJ cyZ) (wM cyI cyJ cyZ b) A) A) args s 0 0 A) (F0 m 33 ls []) := fun M' x3' H locs ls hh hP hD hS hl => ih M' x3' hh.1 (Nat.lt_of_lt_of_le hh.2 (Nat.le_of_lt_succ hmu)) H locs ls hP hD hS hl
    generalize (fun M' x3' => I M' x3' ∧ mu M' x3' < mu M x3) = g33 at h k33
    refine lv_iload_n hx hb dX6_value_33 rfl (lv_at hl 2 rfl) ?_
    refine lv_aload_n hx hb dX6_value_34 rfl (lv_at hl 0 rfl) ?_
    refine va_get (D := (dC, dI)) (ci := 5) (v := .int (mND M)) (C := RX6) (T := TX6) (N := 27) hx hb hts hiX6 hown hK hP 0 rfl rfl 1 (by decide) hf79 (fun _ h9 => h9) rfl dX6_value_35 ?_
    refine lv_icmp_ge (tgt := 106) hx hb dX6_value_38 (by decide) (fun c7 => ?_) (fun c7 => ?_)
    · have h := h.1 c7
      refine lv_iload_n hx hb dX6_value_106 rfl (lv_at hl 1 rfl) ?_
      refine lv_aload_n hx hb dX6_value_107 rfl (lv_at hl 0 rfl) ?_
      refine va_get (D := (dC, dI)) (ci := 5) (v := .ref (b 18)) (C := RX6) (T := TX6) (N := 27) hx hb hts hiX6 hown hK hP 0 rfl rfl 24 (by decide) hf63 (fun _ h9 => h9) rfl dX6_value_108 ?_
      refine lv_iload_n hx hb dX6_value_111 rfl (lv_at hl 1 rfl) ?_
      refine lv_iconst (v := 2) hx hb dX6_value_112 (by decide) ?_
      refine lv_idiv hx hb dX6_value_113 (by decide) ?_
      obtain ⟨i8, h⟩ := h
      refine va_iald (D := (dC, dI)) hx hb hK hP 18 0 rfl rfl i8 dX6_value_114 ?_
      refine xc_Si (wf := wM cyI cyJ cyZ b) (wr := []) (isC := [0, 1, 2, 3, 4, 5, 6, 7, 8, 9, 10, 11, 12, 13, 14, 15, 16, 17, 18, 19, 20]) (isR := []) (As := [.int x1, .int ((mVA M) (x1 / (2 : Int32)).toNatClampNeg)]) (rest := []) ⟨hx, hb, hml, hown, hts⟩ (t_X6_turn h) (va_cwS 2 hts gX6_value_X6_turn rfl rfl rfl (by decide +kernel) ⟨Nat.le_of_ble_eq_true rfl, Nat.le_of_ble_eq_true rfl⟩) ⟨hK, hE, hA, hP, hD, hS, rfl, rfl, rfl, rfl, by decide⟩ rfl rfl hl.1 (Nat.le_of_ble_eq_true rfl) dX6_value_115 ⟨Nat.le_of_ble_eq_true rfl, Nat.le_of_ble_eq_true rfl⟩ (fun r9 S10 H locs h hP hD hS => ?_)
      obtain ⟨rfl, h⟩ := h
      have hP : va_P (dC, dI) vwCl (wM cyI cyJ cyZ b M) H := hP
      have hD : va_D A (wM cyI cyJ cyZ b M) := hD
      exact xr_i (S := M) hx hb hr hlocks hK hP hD hS h (Nat.le_of_ble_eq_true rfl) (Nat.le_of_ble_eq_true rfl) dX6_value_118
    · have h := h.2 c7
      refine lv_aload_n hx hb dX6_value_41 rfl (lv_at hl 0 rfl) ?_
      refine lv_iload_n hx hb dX6_value_42 rfl (lv_at hl 2 rfl) ?_
      refine xc_Vi (wf := wM cyI cyJ cyZ b) (wr := []) (isC := [0, 1, 2, 3, 4, 5, 6, 7, 8, 9, 10, 11, 12, 13, 14, 15, 16, 17, 18, 19, 20]) (isR := []) (As := [.int x3]) (rest := []) ⟨hx, hb, hml, hown, hts⟩ (t_X6_isInput h) (cwV 1 hts gX6_value_X6_isInput rfl rfl rfl (by decide +kernel) ⟨Nat.le_of_ble_eq_true rfl, Nat.le_of_ble_eq_true rfl⟩) ⟨hK, hE, hA, hP, hD, hS, rfl, rfl, rfl, rfl, by decide⟩ ⟨0, 5, _, _, rfl, rfl, rfl⟩ rfl rfl hl.1 (Nat.le_of_ble_eq_true rfl) dX6_value_43 ⟨Nat.le_of_ble_eq_true rfl, Nat.le_of_ble_eq_true rfl⟩ (fun r11 S12 H locs h hP hD hS => ?_)
      obtain ⟨rfl, h⟩ := h
      have hP : va_P (dC, dI) vwCl (wM cyI cyJ cyZ b M) H := hP
      have hD : va_D A (wM cyI cyJ cyZ b M) := hD
      refine lv_if_ne (tgt := 100) hx hb dX6_value_46 (by decide) (fun c13 => ?_) (fun c13 => ?_)
      · have h := h.1 c13
        obtain ⟨y14, ey14⟩ : ∃ z : Int32, z = (x3 + (1 : Int32)) := ⟨_, rfl⟩
        have h := h y14 ey14
        refine lv_iinc (v := y14) (lv' := [(3, .int y14), (0, .ref (b 0)), (1, .int x1)]) hx hb dX6_value_100 hl (k := 2) rfl (by rw [ey14]; rfl) (by decide) rfl (fun ls hl => ?_)
        refine lv_goto (tgt := 33) hx hb dX6_value_103 (by decide) ?_
        exact k33 M y14 H locs ls h hP hD hS (lv_sub hl [1, 2, 0] rfl)
      · have h := h.2 c13
        refine lv_aload_n hx hb dX6_value_49 rfl (lv_at hl 0 rfl) ?_
        refine va_get (D := (dC, dI)) (ci := 5) (v := .ref (b 18)) (C := RX6) (T := TX6) (N := 27) hx hb hts hiX6 hown hK hP 0 rfl rfl 24 (by decide) hf63 (fun _ h9 => h9) rfl dX6_value_50 ?_
        refine lv_iload_n hx hb dX6_value_53 rfl (lv_at hl 2 rfl) ?_
        refine lv_aload_n hx hb dX6_value_54 rfl (lv_at hl 0 rfl) ?_
        refine va_get (D := (dC, dI)) (ci := 5) (v := .ref (b 1)) (C := RX6) (T := TX6) (N := 27) hx hb hts hiX6 hown hK hP 0 rfl rfl 4 (by decide) hf7 (fun _ h9 => h9) rfl dX6_value_55 ?_
        refine lv_iload_n hx hb dX6_value_58 rfl (lv_at hl 2 rfl) ?_
        obtain ⟨i15, h⟩ := h
        refine va_iald (D := (dC, dI)) hx hb hK hP 1 0 rfl rfl i15 dX6_value_59 ?_
        refine lv_aload_n hx hb dX6_value_60 rfl (lv_at hl 0 rfl) ?_
        refine va_get (D := (dC, dI)) (ci := 5) (v := .ref (b 18)) (C := RX6) (T := TX6) (N := 27) hx hb hts hiX6 hown hK hP 0 rfl rfl 24 (by decide) hf63 (fun _ h9 => h9) rfl dX6_value_61 ?_
        refine lv_aload_n hx hb dX6_value_64 rfl (lv_at hl 0 rfl) ?_
        refine va_get (D := (dC, dI)) (ci := 5) (v := .ref (b 1)) (C := RX6) (T := TX6) (N := 27) hx hb hts hiX6 hown hK hP 0 rfl rfl 4 (by decide) hf7 (fun _ h9 => h9) rfl dX6_value_65 ?_
        refine lv_iload_n hx hb dX6_value_68 rfl (lv_at hl 2 rfl) ?_
        obtain ⟨i16, h⟩ := h
        refine va_iald (D := (dC, dI)) hx hb hK hP 1 0 rfl rfl i16 dX6_value_69 ?_
        refine lv_iconst (v := 2) hx hb dX6_value_70 (by decide) ?_
        refine lv_idiv hx hb dX6_value_71 (by decide) ?_
        obtain ⟨i17, h⟩ := h
        refine va_iald (D := (dC, dI)) hx hb hK hP 18 0 rfl rfl i17 dX6_value_72 ?_
        refine xc_Si (wf := wM cyI cyJ cyZ b) (wr := []) (isC := [0, 1, 2, 3, 4, 5, 6, 7, 8, 9, 10, 11, 12, 13, 14, 15, 16, 17, 18, 19, 20]) (isR := []) (As := [.int ((mON M) x3.toNatClampNeg), .int ((mVA M) (((mON M) x3.toNatClampNeg) / (2 : Int32)).toNatClampNeg)]) (rest := [.int x3, .ref (b 18)]) ⟨hx, hb, hml, hown, hts⟩ (t_X6_turn h) (va_cwS 2 hts gX6_value_X6_turn rfl rfl rfl (by decide +kernel) ⟨Nat.le_of_ble_eq_true rfl, Nat.le_of_ble_eq_true rfl⟩) ⟨hK, hE, hA, hP, hD, hS, rfl, rfl, rfl, rfl, by decide⟩ rfl rfl hl.1 (Nat.le_of_ble_eq_true rfl) dX6_value_73 ⟨Nat.le_of_ble_eq_true rfl, Nat.le_of_ble_eq_true rfl⟩ (fun r18 S19 H locs h hP hD hS => ?_)
        obtain ⟨rfl, h⟩ := h
        have hP : va_P (dC, dI) vwCl (wM cyI cyJ cyZ b M) H := hP
        have hD : va_D A (wM cyI cyJ cyZ b M) := hD
        refine lv_aload_n hx hb dX6_value_76 rfl (lv_at hl 0 rfl) ?_
        refine va_get (D := (dC, dI)) (ci := 5) (v := .ref (b 2)) (C := RX6) (T := TX6) (N := 27) hx hb hts hiX6 hown hK hP 0 rfl rfl 5 (by decide) hf13 (fun _ h9 => h9) rfl dX6_value_77 ?_
        refine lv_iload_n hx hb dX6_value_80 rfl (lv_at hl 2 rfl) ?_
        obtain ⟨i20, h⟩ := h
        refine va_iald (D := (dC, dI)) hx hb hK hP 2 0 rfl rfl i20 dX6_value_81 ?_
        refine lv_aload_n hx hb dX6_value_82 rfl (lv_at hl 0 rfl) ?_
        refine va_get (D := (dC, dI)) (ci := 5) (v := .ref (b 18)) (C := RX6) (T := TX6) (N := 27) hx hb hts hiX6 hown hK hP 0 rfl rfl 24 (by decide) hf63 (fun _ h9 => h9) rfl dX6_value_83 ?_
        refine lv_aload_n hx hb dX6_value_86 rfl (lv_at hl 0 rfl) ?_
        refine va_get (D := (dC, dI)) (ci := 5) (v := .ref (b 2)) (C := RX6) (T := TX6) (N := 27) hx hb hts hiX6 hown hK hP 0 rfl rfl 5 (by decide) hf13 (fun _ h9 => h9) rfl dX6_value_87 ?_
        refine lv_iload_n hx hb dX6_value_90 rfl (lv_at hl 2 rfl) ?_
        obtain ⟨i21, h⟩ := h
        refine va_iald (D := (dC, dI)) hx hb hK hP 2 0 rfl rfl i21 dX6_value_91 ?_
        refine lv_iconst (v := 2) hx hb dX6_value_92 (by decide) ?_
        refine lv_idiv hx hb dX6_value_93 (by decide) ?_
        obtain ⟨i22, h⟩ := h
        refine va_iald (D := (dC, dI)) hx hb hK hP 18 0 rfl rfl i22 dX6_value_94 ?_
        refine xc_Si (wf := wM cyI cyJ cyZ b) (wr := []) (isC := [0, 1, 2, 3, 4, 5, 6, 7, 8, 9, 10, 11, 12, 13, 14, 15, 16, 17, 18, 19, 20]) (isR := []) (As := [.int ((mTW M) x3.toNatClampNeg), .int ((mVA M) (((mTW M) x3.toNatClampNeg) / (2 : Int32)).toNatClampNeg)]) (rest := [.int r18, .int x3, .ref (b 18)]) ⟨hx, hb, hml, hown, hts⟩ (t_X6_turn h) (va_cwS 2 hts gX6_value_X6_turn rfl rfl rfl (by decide +kernel) ⟨Nat.le_of_ble_eq_true rfl, Nat.le_of_ble_eq_true rfl⟩) ⟨hK, hE, hA, hP, hD, hS, rfl, rfl, rfl, rfl, by decide⟩ rfl rfl hl.1 (Nat.le_of_ble_eq_true rfl) dX6_value_95 ⟨Nat.le_of_ble_eq_true rfl, Nat.le_of_ble_eq_true rfl⟩ (fun r23 S24 H locs h hP hD hS => ?_)
        obtain ⟨rfl, h⟩ := h
        have hP : va_P (dC, dI) vwCl (wM cyI cyJ cyZ b M) H := hP
        have hD : va_D A (wM cyI cyJ cyZ b M) := hD
        refine lv_iand hx hb dX6_value_98 ?_
        obtain ⟨i25, h⟩ := h
        refine va_iast (D := (dC, dI)) hx hb hK hP hD hS 18 0 rfl rfl i25 dX6_value_99 (fun H locs hP hD hS => ?_)
        obtain ⟨M26, eM26⟩ : ∃ z : MS, z = (mVA_s M (upd (mVA M) x3.toNatClampNeg (r18 &&& r23))) := ⟨_, rfl⟩
        have h := h M26 eM26
        have hP := nP_mVA eM26 hP
        have hD := nD_mVA eM26 hD
        obtain ⟨y27, ey27⟩ : ∃ z : Int32, z = (x3 + (1 : Int32)) := ⟨_, rfl⟩
        have h := h y27 ey27
        refine lv_iinc (v := y27) (lv' := [(3, .int y27), (0, .ref (b 0)), (1, .int x1)]) hx hb dX6_value_100 hl (k := 2) rfl (by rw [ey27]; rfl) (by decide) rfl (fun ls hl => ?_)
        refine lv_goto (tgt := 33) hx hb dX6_value_103 (by decide) ?_
        exact k33 M26 y27 H locs ls h hP hD hS (lv_sub hl [1, 2, 0] rfl)
def p_X6_value_14 (M : MS) (x1 : Int32) (x2 : Int32) (t0 : Int32) (post : Int32 → MS → Prop) : Prop := ∀ M4 : MS, M4 = (mTH_s M t0) → (((mTH M4) ≤ 0 → (p_X6_setInputs M4 x2 (fun S6 => p_X6_value_33 S6 x1 (0 : Int32) post))) ∧ (¬ (mTH M4) ≤ 0 → (post (0 : Int32) M4)))
set_option maxHeartbeats 1000000 in
set_option maxRecDepth 100000 in
theorem t_X6_value_14 {p : Program} {l : Launch} {e : Env} {s : State} {m : MethodId} {args : Array Value} {below : List Frame} {meth : Method} {c : Code} {dC : Nat → ClassId} {dI : Nat → Nat → Nat} {cyI cyJ cyZ : ClassId} {r : Nat → Nat} {b : Nat → Nat} {A : Nat → Prop} {M : MS} {x1 : Int32} {x2 : Int32} {t0 : Int32} {post : Int32 → MS → Prop} (G : xG p s m args meth c cX6_value 4 RX6 (some .int) wsX6_value (dC, dI) (tyA cyI cyJ cyZ) r A) (h : p_X6_value_14 M x1 x2 t0 post) {H : Heap} {locs : List Loc} {ls : Array Slot} (hP : va_P (dC, dI) vwCl (wM cyI cyJ cyZ b M) H) (hD : va_D A (wM cyI cyJ cyZ b M)) (hS : va_S A s.heap H locs) (hl : lv_has ls 4 [(0, .ref (b 0)), (1, .int x1), (2, .int x2)]) : W p l e { frames := 2, cells := 0, slots := 0, locals := 42 } s m args below meth c H locs 0 0 (MQ below (va_Qi post (xAt (dC, dI) (tyA cyI cyJ cyZ) (wM cyI cyJ cyZ b) A) A) args s 0 0 A) (F0 m 14 ls [.int t0, .ref (b 0)]) := by
  obtain ⟨hx, hb, hml, hown, hts, hr, hlocks, hK, hE, hA⟩ := id G
  have hiX6 : ∀ w ∈ wsX60, w ∈ wsX6_value := by decide +kernel
  have hf75 := hts (.fieldLink RX6 75 "CellMappingModel" "thrown" "I") (by decide +kernel)
  unfold p_X6_value_14 at h
  refine va_put (D := (dC, dI)) (ci := 5) (v := .int t0) (ty := .int) (C := RX6) (T := TX6) (N := 27) hx hb hts hiX6 tyX6 tyX6_ok nmX6 hown hK hP hD hS 0 rfl rfl 0 (by decide) hf75 (fun _ h9 => h9) rfl (by decide +kernel) rfl rfl (Nat.le_of_ble_eq_true rfl) dX6_value_14 (fun H locs hP hD hS => ?_)
  obtain ⟨M4, eM4⟩ : ∃ z : MS, z = (mTH_s M t0) := ⟨_, rfl⟩
  have h := h M4 eM4
  have hP := nP_mTH eM4 hP
  have hD := nD_mTH eM4 hD
  refine lv_aload_n hx hb dX6_value_17 rfl (lv_at hl 0 rfl) ?_
  refine va_get (D := (dC, dI)) (ci := 5) (v := .int (mTH M4)) (C := RX6) (T := TX6) (N := 27) hx hb hts hiX6 hown hK hP 0 rfl rfl 0 (by decide) hf75 (fun _ h9 => h9) rfl dX6_value_18 ?_
  refine lv_if_le (tgt := 26) hx hb dX6_value_21 (by decide) (fun c5 => ?_) (fun c5 => ?_)
  · have h := h.1 c5
    refine lv_aload_n hx hb dX6_value_26 rfl (lv_at hl 0 rfl) ?_
    refine lv_iload_n hx hb dX6_value_27 rfl (lv_at hl 2 rfl) ?_
    refine xc_Vv (wf := wM cyI cyJ cyZ b) (wr := []) (isC := [0, 1, 2, 3, 4, 5, 6, 7, 8, 9, 10, 11, 12, 13, 14, 15, 16, 17, 18, 19, 20]) (isR := []) (As := [.int x2]) (rest := []) ⟨hx, hb, hml, hown, hts⟩ (t_X6_setInputs h) (cwV 1 hts gX6_value_X6_setInputs rfl rfl rfl (by decide +kernel) ⟨Nat.le_of_ble_eq_true rfl, Nat.le_of_ble_eq_true rfl⟩) ⟨hK, hE, hA, hP, hD, hS, rfl, rfl, rfl, rfl, by decide⟩ ⟨0, 5, _, _, rfl, rfl, rfl⟩ rfl rfl hl.1 (Nat.le_of_ble_eq_true rfl) dX6_value_28 ⟨Nat.le_of_ble_eq_true rfl, Nat.le_of_ble_eq_true rfl⟩ (fun  S6 H locs h hP hD hS => ?_)
    have hP : va_P (dC, dI) vwCl (wM cyI cyJ cyZ b S6) H := hP
    have hD : va_D A (wM cyI cyJ cyZ b S6) := hD
    refine lv_iconst (v := 0) hx hb dX6_value_31 (by decide) ?_
    refine lv_istore_n (lv' := [(3, .int (0 : Int32)), (0, .ref (b 0)), (1, .int x1), (2, .int x2)]) hx hb dX6_value_32 rfl hl (by decide) rfl (fun ls hl => ?_)
    exact t_X6_value_33 G h hP hD hS (lv_sub hl [1, 2, 0] rfl)
  · have h := h.2 c5
    refine lv_iconst (v := 0) hx hb dX6_value_24 (by decide) ?_
    exact xr_i (S := M4) hx hb hr hlocks hK hP hD hS h (Nat.le_of_ble_eq_true rfl) (Nat.le_of_ble_eq_true rfl) dX6_value_25
def p_X6_value (M : MS) (x1 : Int32) (x2 : Int32) (post : Int32 → MS → Prop) : Prop := p_X6_isLiteral M x1 (fun r1 => (r1 = 0 → (p_X6_value_14 M x1 x2 (1 : Int32) post)) ∧ (¬ r1 = 0 → (p_X6_value_14 M x1 x2 (0 : Int32) post)))
set_option maxHeartbeats 1000000 in
set_option maxRecDepth 100000 in
theorem t_X6_value {l : Launch} {dC : Nat → ClassId} {dI : Nat → Nat → Nat} {cyI cyJ cyZ : ClassId} {r : Nat → Nat} {b : Nat → Nat} {M : MS} {x1 : Int32} {x2 : Int32} {post : Int32 → MS → Prop} (h : p_X6_value M x1 x2 post) : xMi l yX6_value wsX6_value { frames := 2, cells := 0, slots := 0, locals := 42 } (dC, dI) (tyA cyI cyJ cyZ) r (wM cyI cyJ cyZ b) [.ref (b 0), .int x1, .int x2] M post 0 0 := by
  intro sz
  refine Met.ofW (cc := cX6_value) (maxL := 4) (ret := (some .int)) (by decide) rfl ?_
  intro p e s m args below meth c s₁ B hml hv
  obtain ⟨rfl, G, hP, hD, hS⟩ := xG.of rfl B hml hv
  generalize hAe : va_A (wM cyI cyJ cyZ b M) sz = A at G hD hS ⊢
  have G : xG p s m _ meth c cX6_value 4 RX6 (some .int) wsX6_value (dC, dI) (tyA cyI cyJ cyZ) r A := G
  obtain ⟨hx, hb, hml, hown, hts, hr, hlocks, hK, hE, hA⟩ := id G
  have hl := lv_entry ([.ref (b 0), .int x1, .int x2]) (n := 4) (Nat.le_of_ble_eq_true rfl)
  rw [lg_entry_eq]
  generalize (lg_sl ([.ref (b 0), .int x1, .int x2]) ++ List.replicate (4 - (lg_sl ([.ref (b 0), .int x1, .int x2])).length) Slot.unset).toArray = ls at hl ⊢
  have hl : lv_has ls 4 [(0, .ref (b 0)), (1, .int x1), (2, .int x2)] := hl
  show W p l e { frames := 2, cells := 0, slots := 0, locals := 42 } s m _ below meth c s.heap [] 0 0 _ _
  unfold p_X6_value at h
  refine lv_aload_n hx hb dX6_value_0 rfl (lv_at hl 0 rfl) ?_
  refine lv_aload_n hx hb dX6_value_1 rfl (lv_at hl 0 rfl) ?_
  refine lv_iload_n hx hb dX6_value_2 rfl (lv_at hl 1 rfl) ?_
  refine xc_Vi (wf := wM cyI cyJ cyZ b) (wr := []) (isC := [0, 1, 2, 3, 4, 5, 6, 7, 8, 9, 10, 11, 12, 13, 14, 15, 16, 17, 18, 19, 20]) (isR := []) (As := [.int x1]) (rest := [.ref (b 0)]) ⟨hx, hb, hml, hown, hts⟩ (t_X6_isLiteral h) (cwV 1 hts gX6_value_X6_isLiteral rfl rfl rfl (by decide +kernel) ⟨Nat.le_of_ble_eq_true rfl, Nat.le_of_ble_eq_true rfl⟩) ⟨hK, hE, hA, hP, hD, hS, rfl, rfl, rfl, rfl, by decide⟩ ⟨0, 5, _, _, rfl, rfl, rfl⟩ rfl rfl hl.1 (Nat.le_of_ble_eq_true rfl) dX6_value_3 ⟨Nat.le_of_ble_eq_true rfl, Nat.le_of_ble_eq_true rfl⟩ (fun r1 S2 H locs h hP hD hS => ?_)
  obtain ⟨rfl, h⟩ := h
  have hP : va_P (dC, dI) vwCl (wM cyI cyJ cyZ b M) H := hP
  have hD : va_D A (wM cyI cyJ cyZ b M) := hD
  refine lv_if_eq (tgt := 13) hx hb dX6_value_6 (by decide) (fun c3 => ?_) (fun c3 => ?_)
  · have h := h.1 c3
    refine lv_iconst (v := 1) hx hb dX6_value_13 (by decide) ?_
    exact t_X6_value_14 G h hP hD hS (lv_sub hl [0, 1, 2] rfl)
  · have h := h.2 c3
    refine lv_iconst (v := 0) hx hb dX6_value_9 (by decide) ?_
    refine lv_goto (tgt := 14) hx hb dX6_value_10 (by decide) ?_
    exact t_X6_value_14 G h hP hD hS (lv_sub hl [0, 1, 2] rfl)
def b_X6_byGate_4 (M : MS) (x1 : Int32) (post : Int32 → Prop) (g4 : Int32 → Int32 → Prop) (x2 : Int32) (x3 : Int32) : Prop := vp_in x1 64 ∧ (vp_in ((mGA M) x1.toNatClampNeg) 12 ∧ ((((mPI M) ((mGA M) x1.toNatClampNeg).toNatClampNeg) ≤ x3 → (vp_in x1 64 ∧ (vp_in ((mGA M) x1.toNatClampNeg) 12 ∧ (post ((((mTR M) ((mGA M) x1.toNatClampNeg).toNatClampNeg) >>> (x2 &&& 31)) &&& (1 : Int32)))))) ∧ (¬ ((mPI M) ((mGA M) x1.toNatClampNeg).toNatClampNeg) ≤ x3 → (vp_in (((3 : Int32) * x1) + x3) 192 ∧ (vp_in ((mGP M) (((3 : Int32) * x1) + x3).toNatClampNeg) 64 ∧ (∀ y8 : Int32, y8 = (x2 ||| (((mVA M) ((mGP M) (((3 : Int32) * x1) + x3).toNatClampNeg).toNatClampNeg) <<< (x3 &&& 31))) → (∀ y9 : Int32, y9 = (x3 + (1 : Int32)) → (g4 y8 y9))))))))
def p_X6_byGate_4 (M : MS) (x1 : Int32) (x2 : Int32) (x3 : Int32) (post : Int32 → Prop) : Prop := ∃ (I : Int32 → Int32 → Prop) (mu : Int32 → Int32 → Nat), I x2 x3 ∧ ∀ (x2 : Int32) (x3 : Int32), I x2 x3 → b_X6_byGate_4 M x1 post (fun x2' x3' => I x2' x3' ∧ mu x2' x3' < mu x2 x3) x2 x3
set_option maxHeartbeats 1000000 in
set_option maxRecDepth 100000 in
theorem t_X6_byGate_4 {p : Program} {l : Launch} {e : Env} {s : State} {m : MethodId} {args : Array Value} {below : List Frame} {meth : Method} {c : Code} {dC : Nat → ClassId} {dI : Nat → Nat → Nat} {cyI cyJ cyZ : ClassId} {r : Nat → Nat} {b : Nat → Nat} {A : Nat → Prop} {M : MS} {x1 : Int32} {x2 : Int32} {x3 : Int32} {post : Int32 → Prop} (G : xG p s m args meth c cX6_byGate 4 RX6 (some .int) wsX6_byGate (dC, dI) (tyA cyI cyJ cyZ) r A) (h : p_X6_byGate_4 M x1 x2 x3 post) {H : Heap} {locs : List Loc} {ls : Array Slot} (hP : va_P (dC, dI) vwCl (wM cyI cyJ cyZ b M) H) (hD : va_D A (wM cyI cyJ cyZ b M)) (hS : va_S A s.heap H locs) (hl : lv_has ls 4 [(0, .ref (b 0)), (1, .int x1), (2, .int x2), (3, .int x3)]) : W p l e { frames := 0, cells := 0, slots := 0, locals := 0 } s m args below meth c H locs 0 0 (MQ below (va_Qi (fun x u => M = u ∧ post x) (xAt (dC, dI) (tyA cyI cyJ cyZ) (wM cyI cyJ cyZ b) A) A) args s 0 0 A) (F0 m 4 ls []) := by
  obtain ⟨hx, hb, hml, hown, hts, hr, hlocks, hK, hE, hA⟩ := id G
  have hiX6 : ∀ w ∈ wsX60, w ∈ wsX6_byGate := by decide +kernel
  have hf25 := hts (.fieldLink RX6 25 "CellMappingModel" "pins" "[I") (by decide +kernel)
  have hf53 := hts (.fieldLink RX6 53 "CellMappingModel" "gates" "[I") (by decide +kernel)
  have hf28 := hts (.fieldLink RX6 28 "CellMappingModel" "truths" "[I") (by decide +kernel)
  have hf63 := hts (.fieldLink RX6 63 "CellMappingModel" "values" "[I") (by decide +kernel)
  have hf56 := hts (.fieldLink RX6 56 "CellMappingModel" "gatePins" "[I") (by decide +kernel)
  obtain ⟨I, mu, h0, hstep⟩ := h
  suffices hgo : ∀ (n : Nat) (x2 : Int32) (x3 : Int32), I x2 x3 → mu x2 x3 < n → ∀ (H : Heap) (locs : List Loc) (ls : Array Slot), va_P (dC, dI) vwCl (wM cyI cyJ cyZ b M) H → va_D A (wM cyI cyJ cyZ b M) → va_S A s.heap H locs → lv_has ls 4 [(0, .ref (b 0)), (1, .int x1), (2, .int x2), (3, .int x3)] → W p l e { frames := 0, cells := 0, slots := 0, locals := 0 } s m args below meth c H locs 0 0 (MQ below (va_Qi (fun x u => M = u ∧ post x) (xAt (dC, dI) (tyA cyI cyJ cyZ) (wM cyI cyJ cyZ b) A) A) args s 0 0 A) (F0 m 4 ls []) from hgo (mu x2 x3 + 1) x2 x3 h0 (Nat.lt_succ_self _) H locs ls hP hD hS hl
  clear h0 hP hD hS hl
  intro n
  induction n with
  | zero => intro x2 x3 _ h; exact absurd h (Nat.not_lt_zero _)
  | succ n ih =>
    intro x2 x3 hI hmu H locs ls hP hD hS hl
    have h := hstep x2 x3 hI
    unfold b_X6_byGate_4 at h
    have k4 : ∀ (x2' : Int32) (x3' : Int32) (H : Heap) (locs : List Loc) (ls : Array Slot), (fun x2' x3' => I x2' x3' ∧ mu x2' x3' < mu x2 x3) x2' x3' → va_P (dC, dI) vwCl (wM cyI cyJ cyZ b M) H → va_D A (wM cyI cyJ cyZ b M) → va_S A s.heap H locs → lv_has ls 4 [(0, .ref (b 0)), (1, .int x1), (2, .int x2'), (3, .int x3')] → W p l e { frames := 0, cells := 0, slots := 0, locals := 0 } s m args below meth c H locs 0 0 (MQ below (va_Qi (fun x u => M = u ∧ post x) (xAt (dC, dI) (tyA cyI cyJ cyZ) (wM cyI cyJ cyZ b) A) A) args s 0 0 A) (F0 m 4 ls []) := fun x2' x3' H locs ls hh hP hD hS hl => ih x2' x3' hh.1 (Nat.lt_of_lt_of_le hh.2 (Nat.le_of_lt_succ hmu)) H locs ls hP hD hS hl
    generalize (fun x2' x3' => I x2' x3' ∧ mu x2' x3' < mu x2 x3) = g4 at h k4
    refine lv_iload_n hx hb dX6_byGate_4 rfl (lv_at hl 3 rfl) ?_
    refine lv_aload_n hx hb dX6_byGate_5 rfl (lv_at hl 0 rfl) ?_
    refine va_get (D := (dC, dI)) (ci := 5) (v := .ref (b 6)) (C := RX6) (T := TX6) (N := 27) hx hb hts hiX6 hown hK hP 0 rfl rfl 11 (by decide) hf25 (fun _ h9 => h9) rfl dX6_byGate_6 ?_
    refine lv_aload_n hx hb dX6_byGate_9 rfl (lv_at hl 0 rfl) ?_
    refine va_get (D := (dC, dI)) (ci := 5) (v := .ref (b 15)) (C := RX6) (T := TX6) (N := 27) hx hb hts hiX6 hown hK hP 0 rfl rfl 21 (by decide) hf53 (fun _ h9 => h9) rfl dX6_byGate_10 ?_
    refine lv_iload_n hx hb dX6_byGate_13 rfl (lv_at hl 1 rfl) ?_
    obtain ⟨i1, h⟩ := h
    refine va_iald (D := (dC, dI)) hx hb hK hP 15 0 rfl rfl i1 dX6_byGate_14 ?_
    obtain ⟨i2, h⟩ := h
    refine va_iald (D := (dC, dI)) hx hb hK hP 6 0 rfl rfl i2 dX6_byGate_15 ?_
    refine lv_icmp_ge (tgt := 45) hx hb dX6_byGate_16 (by decide) (fun c3 => ?_) (fun c3 => ?_)
    · have h := h.1 c3
      refine lv_aload_n hx hb dX6_byGate_45 rfl (lv_at hl 0 rfl) ?_
      refine va_get (D := (dC, dI)) (ci := 5) (v := .ref (b 7)) (C := RX6) (T := TX6) (N := 27) hx hb hts hiX6 hown hK hP 0 rfl rfl 12 (by decide) hf28 (fun _ h9 => h9) rfl dX6_byGate_46 ?_
      refine lv_aload_n hx hb dX6_byGate_49 rfl (lv_at hl 0 rfl) ?_
      refine va_get (D := (dC, dI)) (ci := 5) (v := .ref (b 15)) (C := RX6) (T := TX6) (N := 27) hx hb hts hiX6 hown hK hP 0 rfl rfl 21 (by decide) hf53 (fun _ h9 => h9) rfl dX6_byGate_50 ?_
      refine lv_iload_n hx hb dX6_byGate_53 rfl (lv_at hl 1 rfl) ?_
      obtain ⟨i4, h⟩ := h
      refine va_iald (D := (dC, dI)) hx hb hK hP 15 0 rfl rfl i4 dX6_byGate_54 ?_
      obtain ⟨i5, h⟩ := h
      refine va_iald (D := (dC, dI)) hx hb hK hP 7 0 rfl rfl i5 dX6_byGate_55 ?_
      refine lv_iload_n hx hb dX6_byGate_56 rfl (lv_at hl 2 rfl) ?_
      refine lv_ishr hx hb dX6_byGate_57 ?_
      refine lv_iconst (v := 1) hx hb dX6_byGate_58 (by decide) ?_
      refine lv_iand hx hb dX6_byGate_59 ?_
      exact xr_i (S := M) hx hb hr hlocks hK hP hD hS ⟨rfl, h⟩ (Nat.le_of_ble_eq_true rfl) (Nat.le_of_ble_eq_true rfl) dX6_byGate_60
    · have h := h.2 c3
      refine lv_iload_n hx hb dX6_byGate_19 rfl (lv_at hl 2 rfl) ?_
      refine lv_aload_n hx hb dX6_byGate_20 rfl (lv_at hl 0 rfl) ?_
      refine va_get (D := (dC, dI)) (ci := 5) (v := .ref (b 18)) (C := RX6) (T := TX6) (N := 27) hx hb hts hiX6 hown hK hP 0 rfl rfl 24 (by decide) hf63 (fun _ h9 => h9) rfl dX6_byGate_21 ?_
      refine lv_aload_n hx hb dX6_byGate_24 rfl (lv_at hl 0 rfl) ?_
      refine va_get (D := (dC, dI)) (ci := 5) (v := .ref (b 16)) (C := RX6) (T := TX6) (N := 27) hx hb hts hiX6 hown hK hP 0 rfl rfl 22 (by decide) hf56 (fun _ h9 => h9) rfl dX6_byGate_25 ?_
      refine lv_iconst (v := 3) hx hb dX6_byGate_28 (by decide) ?_
      refine lv_iload_n hx hb dX6_byGate_29 rfl (lv_at hl 1 rfl) ?_
      refine lv_imul hx hb dX6_byGate_30 ?_
      refine lv_iload_n hx hb dX6_byGate_31 rfl (lv_at hl 3 rfl) ?_
      refine lv_iadd hx hb dX6_byGate_32 ?_
      obtain ⟨i6, h⟩ := h
      refine va_iald (D := (dC, dI)) hx hb hK hP 16 0 rfl rfl i6 dX6_byGate_33 ?_
      obtain ⟨i7, h⟩ := h
      refine va_iald (D := (dC, dI)) hx hb hK hP 18 0 rfl rfl i7 dX6_byGate_34 ?_
      refine lv_iload_n hx hb dX6_byGate_35 rfl (lv_at hl 3 rfl) ?_
      refine lv_ishl hx hb dX6_byGate_36 ?_
      refine lv_ior hx hb dX6_byGate_37 ?_
      refine lv_topi (fun y8 ey8 => ?_)
      have h := h y8 ey8
      refine lv_istore_n (lv' := [(2, .int y8), (0, .ref (b 0)), (1, .int x1), (3, .int x3)]) hx hb dX6_byGate_38 rfl hl (by decide) rfl (fun ls hl => ?_)
      obtain ⟨y9, ey9⟩ : ∃ z : Int32, z = (x3 + (1 : Int32)) := ⟨_, rfl⟩
      have h := h y9 ey9
      refine lv_iinc (v := y9) (lv' := [(3, .int y9), (2, .int y8), (0, .ref (b 0)), (1, .int x1)]) hx hb dX6_byGate_39 hl (k := 3) rfl (by rw [ey9]; rfl) (by decide) rfl (fun ls hl => ?_)
      refine lv_goto (tgt := 4) hx hb dX6_byGate_42 (by decide) ?_
      exact k4 y8 y9 H locs ls h hP hD hS (lv_sub hl [2, 3, 1, 0] rfl)
def p_X6_byGate (M : MS) (x1 : Int32) (post : Int32 → Prop) : Prop := p_X6_byGate_4 M x1 (0 : Int32) (0 : Int32) post
set_option maxHeartbeats 1000000 in
set_option maxRecDepth 100000 in
theorem t_X6_byGate {l : Launch} {dC : Nat → ClassId} {dI : Nat → Nat → Nat} {cyI cyJ cyZ : ClassId} {r : Nat → Nat} {b : Nat → Nat} {M : MS} {x1 : Int32} {post : Int32 → Prop} (h : p_X6_byGate M x1 post) : xMi l yX6_byGate wsX6_byGate { frames := 0, cells := 0, slots := 0, locals := 0 } (dC, dI) (tyA cyI cyJ cyZ) r (wM cyI cyJ cyZ b) [.ref (b 0), .int x1] M (fun x u => M = u ∧ post x) 0 0 := by
  intro sz
  refine Met.ofW (cc := cX6_byGate) (maxL := 4) (ret := (some .int)) (by decide) rfl ?_
  intro p e s m args below meth c s₁ B hml hv
  obtain ⟨rfl, G, hP, hD, hS⟩ := xG.of rfl B hml hv
  generalize hAe : va_A (wM cyI cyJ cyZ b M) sz = A at G hD hS ⊢
  have G : xG p s m _ meth c cX6_byGate 4 RX6 (some .int) wsX6_byGate (dC, dI) (tyA cyI cyJ cyZ) r A := G
  obtain ⟨hx, hb, hml, hown, hts, hr, hlocks, hK, hE, hA⟩ := id G
  have hl := lv_entry ([.ref (b 0), .int x1]) (n := 4) (Nat.le_of_ble_eq_true rfl)
  rw [lg_entry_eq]
  generalize (lg_sl ([.ref (b 0), .int x1]) ++ List.replicate (4 - (lg_sl ([.ref (b 0), .int x1])).length) Slot.unset).toArray = ls at hl ⊢
  have hl : lv_has ls 4 [(0, .ref (b 0)), (1, .int x1)] := hl
  show W p l e { frames := 0, cells := 0, slots := 0, locals := 0 } s m _ below meth c s.heap [] 0 0 _ _
  unfold p_X6_byGate at h
  refine lv_iconst (v := 0) hx hb dX6_byGate_0 (by decide) ?_
  refine lv_istore_n (lv' := [(2, .int (0 : Int32)), (0, .ref (b 0)), (1, .int x1)]) hx hb dX6_byGate_1 rfl hl (by decide) rfl (fun ls hl => ?_)
  refine lv_iconst (v := 0) hx hb dX6_byGate_2 (by decide) ?_
  refine lv_istore_n (lv' := [(3, .int (0 : Int32)), (2, .int (0 : Int32)), (0, .ref (b 0)), (1, .int x1)]) hx hb dX6_byGate_3 rfl hl (by decide) rfl (fun ls hl => ?_)
  exact t_X6_byGate_4 G h hP hD hS (lv_sub hl [2, 3, 1, 0] rfl)
def p_X6_turnsOwn (M : MS) (x1 : Int32) (post : Int32 → Prop) : Prop := vp_in ((3 : Int32) * x1) 192 ∧ ((¬ ((mGP M) ((3 : Int32) * x1).toNatClampNeg) = (x1 ^^^ (1 : Int32)) → (post (0 : Int32))) ∧ (((mGP M) ((3 : Int32) * x1).toNatClampNeg) = (x1 ^^^ (1 : Int32)) → (post (1 : Int32))))
set_option maxHeartbeats 1000000 in
set_option maxRecDepth 100000 in
theorem t_X6_turnsOwn {l : Launch} {dC : Nat → ClassId} {dI : Nat → Nat → Nat} {cyI cyJ cyZ : ClassId} {r : Nat → Nat} {b : Nat → Nat} {M : MS} {x1 : Int32} {post : Int32 → Prop} (h : p_X6_turnsOwn M x1 post) : xMi l yX6_turnsOwn wsX6_turnsOwn { frames := 0, cells := 0, slots := 0, locals := 0 } (dC, dI) (tyA cyI cyJ cyZ) r (wM cyI cyJ cyZ b) [.ref (b 0), .int x1] M (fun x u => M = u ∧ post x) 0 0 := by
  intro sz
  refine Met.ofW (cc := cX6_turnsOwn) (maxL := 2) (ret := (some .boolean)) (by decide) rfl ?_
  intro p e s m args below meth c s₁ B hml hv
  obtain ⟨rfl, G, hP, hD, hS⟩ := xG.of rfl B hml hv
  generalize hAe : va_A (wM cyI cyJ cyZ b M) sz = A at G hD hS ⊢
  have G : xG p s m _ meth c cX6_turnsOwn 2 RX6 (some .boolean) wsX6_turnsOwn (dC, dI) (tyA cyI cyJ cyZ) r A := G
  obtain ⟨hx, hb, hml, hown, hts, hr, hlocks, hK, hE, hA⟩ := id G
  have hiX6 : ∀ w ∈ wsX60, w ∈ wsX6_turnsOwn := by decide +kernel
  have hf56 := hts (.fieldLink RX6 56 "CellMappingModel" "gatePins" "[I") (by decide +kernel)
  have hl := lv_entry ([.ref (b 0), .int x1]) (n := 2) (Nat.le_of_ble_eq_true rfl)
  rw [lg_entry_eq]
  generalize (lg_sl ([.ref (b 0), .int x1]) ++ List.replicate (2 - (lg_sl ([.ref (b 0), .int x1])).length) Slot.unset).toArray = ls at hl ⊢
  have hl : lv_has ls 2 [(0, .ref (b 0)), (1, .int x1)] := hl
  show W p l e { frames := 0, cells := 0, slots := 0, locals := 0 } s m _ below meth c s.heap [] 0 0 _ _
  unfold p_X6_turnsOwn at h
  refine lv_aload_n hx hb dX6_turnsOwn_0 rfl (lv_at hl 0 rfl) ?_
  refine va_get (D := (dC, dI)) (ci := 5) (v := .ref (b 16)) (C := RX6) (T := TX6) (N := 27) hx hb hts hiX6 hown hK hP 0 rfl rfl 22 (by decide) hf56 (fun _ h9 => h9) rfl dX6_turnsOwn_1 ?_
  refine lv_iconst (v := 3) hx hb dX6_turnsOwn_4 (by decide) ?_
  refine lv_iload_n hx hb dX6_turnsOwn_5 rfl (lv_at hl 1 rfl) ?_
  refine lv_imul hx hb dX6_turnsOwn_6 ?_
  obtain ⟨i1, h⟩ := h
  refine va_iald (D := (dC, dI)) hx hb hK hP 16 0 rfl rfl i1 dX6_turnsOwn_7 ?_
  refine lv_iload_n hx hb dX6_turnsOwn_8 rfl (lv_at hl 1 rfl) ?_
  refine lv_iconst (v := 1) hx hb dX6_turnsOwn_9 (by decide) ?_
  refine lv_ixor hx hb dX6_turnsOwn_10 ?_
  refine lv_icmp_ne (tgt := 18) hx hb dX6_turnsOwn_11 (by decide) (fun c2 => ?_) (fun c2 => ?_)
  · have h := h.1 c2
    refine lv_iconst (v := 0) hx hb dX6_turnsOwn_18 (by decide) ?_
    exact xr_z (S := M) hx hb hr hlocks hK hP hD hS (by decide) ⟨rfl, h⟩ (Nat.le_of_ble_eq_true rfl) (Nat.le_of_ble_eq_true rfl) dX6_turnsOwn_19
  · have h := h.2 c2
    refine lv_iconst (v := 1) hx hb dX6_turnsOwn_14 (by decide) ?_
    refine lv_goto (tgt := 19) hx hb dX6_turnsOwn_15 (by decide) ?_
    exact xr_z (S := M) hx hb hr hlocks hK hP hD hS (by decide) ⟨rfl, h⟩ (Nat.le_of_ble_eq_true rfl) (Nat.le_of_ble_eq_true rfl) dX6_turnsOwn_19
def p_X6_mapped_133 (g78 : MS → Int32 → Prop) (g89 : MS → Int32 → Prop) (M : MS) (x1 : Int32) (x3 : Int32) (x4 : Int32) (x5 : Int32) (t0 : Int32) (t1 : Int32) (post : Int32 → MS → Prop) : Prop := (¬ t1 = t0 → (∀ y22 : Int32, y22 = (x4 + (1 : Int32)) → (g89 M y22))) ∧ (t1 = t0 → (p_X6_byGate M x5 (fun r23 => vp_in x5 64 ∧ (∀ M26 : MS, M26 = (mVA_s M (upd (mVA M) x5.toNatClampNeg r23)) → (∀ y27 : Int32, y27 = (x4 + (1 : Int32)) → (g89 M26 y27))))))
set_option maxHeartbeats 1000000 in
set_option maxRecDepth 100000 in
theorem t_X6_mapped_133 {p : Program} {l : Launch} {e : Env} {s : State} {m : MethodId} {args : Array Value} {below : List Frame} {meth : Method} {c : Code} {dC : Nat → ClassId} {dI : Nat → Nat → Nat} {cyI cyJ cyZ : ClassId} {r : Nat → Nat} {b : Nat → Nat} {A : Nat → Prop} {g78 : MS → Int32 → Prop} {g89 : MS → Int32 → Prop} {M : MS} {x1 : Int32} {x3 : Int32} {x4 : Int32} {x5 : Int32} {t0 : Int32} {t1 : Int32} {post : Int32 → MS → Prop} (G : xG p s m args meth c cX6_mapped 6 RX6 (some .int) wsX6_mapped (dC, dI) (tyA cyI cyJ cyZ) r A) (k78 : ∀ (M' : MS) (x3' : Int32) (H : Heap) (locs : List Loc) (ls : Array Slot), g78 M' x3' → va_P (dC, dI) vwCl (wM cyI cyJ cyZ b M') H → va_D A (wM cyI cyJ cyZ b M') → va_S A s.heap H locs → lv_has ls 6 [(0, .ref (b 0)), (1, .int x1), (3, .int x3')] → W p l e { frames := 6, cells := 0, slots := 0, locals := 157 } s m args below meth c H locs 0 0 (MQ below (va_Qi post (xAt (dC, dI) (tyA cyI cyJ cyZ) (wM cyI cyJ cyZ b) A) A) args s 0 0 A) (F0 m 78 ls [])) (k89 : ∀ (M' : MS) (x4' : Int32) (H : Heap) (locs : List Loc) (ls : Array Slot), g89 M' x4' → va_P (dC, dI) vwCl (wM cyI cyJ cyZ b M') H → va_D A (wM cyI cyJ cyZ b M') → va_S A s.heap H locs → lv_has ls 6 [(0, .ref (b 0)), (1, .int x1), (3, .int x3), (4, .int x4')] → W p l e { frames := 6, cells := 0, slots := 0, locals := 157 } s m args below meth c H locs 0 0 (MQ below (va_Qi post (xAt (dC, dI) (tyA cyI cyJ cyZ) (wM cyI cyJ cyZ b) A) A) args s 0 0 A) (F0 m 89 ls [])) (h : p_X6_mapped_133 g78 g89 M x1 x3 x4 x5 t0 t1 post) {H : Heap} {locs : List Loc} {ls : Array Slot} (hP : va_P (dC, dI) vwCl (wM cyI cyJ cyZ b M) H) (hD : va_D A (wM cyI cyJ cyZ b M)) (hS : va_S A s.heap H locs) (hl : lv_has ls 6 [(0, .ref (b 0)), (1, .int x1), (3, .int x3), (4, .int x4), (5, .int x5)]) : W p l e { frames := 6, cells := 0, slots := 0, locals := 157 } s m args below meth c H locs 0 0 (MQ below (va_Qi post (xAt (dC, dI) (tyA cyI cyJ cyZ) (wM cyI cyJ cyZ b) A) A) args s 0 0 A) (F0 m 133 ls [.int t0, .int t1]) := by
  obtain ⟨hx, hb, hml, hown, hts, hr, hlocks, hK, hE, hA⟩ := id G
  have hiX6 : ∀ w ∈ wsX60, w ∈ wsX6_mapped := by decide +kernel
  have hf63 := hts (.fieldLink RX6 63 "CellMappingModel" "values" "[I") (by decide +kernel)
  unfold p_X6_mapped_133 at h
  refine lv_icmp_ne (tgt := 149) hx hb dX6_mapped_133 (by decide) (fun c21 => ?_) (fun c21 => ?_)
  · have h := h.1 c21
    obtain ⟨y22, ey22⟩ : ∃ z : Int32, z = (x4 + (1 : Int32)) := ⟨_, rfl⟩
    have h := h y22 ey22
    refine lv_iinc (v := y22) (lv' := [(4, .int y22), (0, .ref (b 0)), (1, .int x1), (3, .int x3), (5, .int x5)]) hx hb dX6_mapped_149 hl (k := 3) rfl (by rw [ey22]; rfl) (by decide) rfl (fun ls hl => ?_)
    refine lv_goto (tgt := 89) hx hb dX6_mapped_152 (by decide) ?_
    exact k89 M y22 H locs ls h hP hD hS (lv_sub hl [1, 2, 3, 0] rfl)
  · have h := h.2 c21
    refine lv_aload_n hx hb dX6_mapped_136 rfl (lv_at hl 0 rfl) ?_
    refine va_get (D := (dC, dI)) (ci := 5) (v := .ref (b 18)) (C := RX6) (T := TX6) (N := 27) hx hb hts hiX6 hown hK hP 0 rfl rfl 24 (by decide) hf63 (fun _ h9 => h9) rfl dX6_mapped_137 ?_
    refine lv_iload hx hb dX6_mapped_140 (lv_at hl 4 rfl) ?_
    refine lv_aload_n hx hb dX6_mapped_142 rfl (lv_at hl 0 rfl) ?_
    refine lv_iload hx hb dX6_mapped_143 (lv_at hl 4 rfl) ?_
    refine xc_Vi (wf := wM cyI cyJ cyZ b) (wr := []) (isC := [0, 1, 2, 3, 4, 5, 6, 7, 8, 9, 10, 11, 12, 13, 14, 15, 16, 17, 18, 19, 20]) (isR := []) (As := [.int x5]) (rest := [.int x5, .ref (b 18)]) ⟨hx, hb, hml, hown, hts⟩ (t_X6_byGate h) (cwV 1 hts gX6_mapped_X6_byGate rfl rfl rfl (by decide +kernel) ⟨Nat.le_of_ble_eq_true rfl, Nat.le_of_ble_eq_true rfl⟩) ⟨hK, hE, hA, hP, hD, hS, rfl, rfl, rfl, rfl, by decide⟩ ⟨0, 5, _, _, rfl, rfl, rfl⟩ rfl rfl hl.1 (Nat.le_of_ble_eq_true rfl) dX6_mapped_145 ⟨Nat.le_of_ble_eq_true rfl, Nat.le_of_ble_eq_true rfl⟩ (fun r23 S24 H locs h hP hD hS => ?_)
    obtain ⟨rfl, h⟩ := h
    have hP : va_P (dC, dI) vwCl (wM cyI cyJ cyZ b M) H := hP
    have hD : va_D A (wM cyI cyJ cyZ b M) := hD
    obtain ⟨i25, h⟩ := h
    refine va_iast (D := (dC, dI)) hx hb hK hP hD hS 18 0 rfl rfl i25 dX6_mapped_148 (fun H locs hP hD hS => ?_)
    obtain ⟨M26, eM26⟩ : ∃ z : MS, z = (mVA_s M (upd (mVA M) x5.toNatClampNeg r23)) := ⟨_, rfl⟩
    have h := h M26 eM26
    have hP := nP_mVA eM26 hP
    have hD := nD_mVA eM26 hD
    obtain ⟨y27, ey27⟩ : ∃ z : Int32, z = (x4 + (1 : Int32)) := ⟨_, rfl⟩
    have h := h y27 ey27
    refine lv_iinc (v := y27) (lv' := [(4, .int y27), (0, .ref (b 0)), (1, .int x1), (3, .int x3), (5, .int x5)]) hx hb dX6_mapped_149 hl (k := 3) rfl (by rw [ey27]; rfl) (by decide) rfl (fun ls hl => ?_)
    refine lv_goto (tgt := 89) hx hb dX6_mapped_152 (by decide) ?_
    exact k89 M26 y27 H locs ls h hP hD hS (lv_sub hl [1, 2, 3, 0] rfl)
def b_X6_mapped_89 (g78 : MS → Int32 → Prop) (x1 : Int32) (x3 : Int32) (post : Int32 → MS → Prop) (g89 : MS → Int32 → Prop) (M : MS) (x4 : Int32) : Prop := ((4 : Int32) ≤ x4 → (∀ y13 : Int32, y13 = (x3 + (1 : Int32)) → (g78 M y13))) ∧ (¬ (4 : Int32) ≤ x4 → (∀ y14 : Int32, y14 = (((2 : Int32) * x3) + (x4 &&& (1 : Int32))) → (vp_in y14 64 ∧ ((((mGA M) y14.toNatClampNeg) = (-1 : Int32) → (∀ y17 : Int32, y17 = (x4 + (1 : Int32)) → (g89 M y17))) ∧ (¬ ((mGA M) y14.toNatClampNeg) = (-1 : Int32) → (p_X6_turnsOwn M y14 (fun r18 => (x4 ≤ (1 : Int32) → (p_X6_mapped_133 g78 g89 M x1 x3 x4 y14 (0 : Int32) r18 post)) ∧ (¬ x4 ≤ (1 : Int32) → (p_X6_mapped_133 g78 g89 M x1 x3 x4 y14 (1 : Int32) r18 post)))))))))
def p_X6_mapped_89 (g78 : MS → Int32 → Prop) (M : MS) (x1 : Int32) (x3 : Int32) (x4 : Int32) (post : Int32 → MS → Prop) : Prop := ∃ (I : MS → Int32 → Prop) (mu : MS → Int32 → Nat), I M x4 ∧ ∀ (M : MS) (x4 : Int32), I M x4 → b_X6_mapped_89 g78 x1 x3 post (fun M' x4' => I M' x4' ∧ mu M' x4' < mu M x4) M x4
set_option maxHeartbeats 1000000 in
set_option maxRecDepth 100000 in
theorem t_X6_mapped_89 {p : Program} {l : Launch} {e : Env} {s : State} {m : MethodId} {args : Array Value} {below : List Frame} {meth : Method} {c : Code} {dC : Nat → ClassId} {dI : Nat → Nat → Nat} {cyI cyJ cyZ : ClassId} {r : Nat → Nat} {b : Nat → Nat} {A : Nat → Prop} {g78 : MS → Int32 → Prop} {M : MS} {x1 : Int32} {x3 : Int32} {x4 : Int32} {post : Int32 → MS → Prop} (G : xG p s m args meth c cX6_mapped 6 RX6 (some .int) wsX6_mapped (dC, dI) (tyA cyI cyJ cyZ) r A) (k78 : ∀ (M' : MS) (x3' : Int32) (H : Heap) (locs : List Loc) (ls : Array Slot), g78 M' x3' → va_P (dC, dI) vwCl (wM cyI cyJ cyZ b M') H → va_D A (wM cyI cyJ cyZ b M') → va_S A s.heap H locs → lv_has ls 6 [(0, .ref (b 0)), (1, .int x1), (3, .int x3')] → W p l e { frames := 6, cells := 0, slots := 0, locals := 157 } s m args below meth c H locs 0 0 (MQ below (va_Qi post (xAt (dC, dI) (tyA cyI cyJ cyZ) (wM cyI cyJ cyZ b) A) A) args s 0 0 A) (F0 m 78 ls [])) (h : p_X6_mapped_89 g78 M x1 x3 x4 post) {H : Heap} {locs : List Loc} {ls : Array Slot} (hP : va_P (dC, dI) vwCl (wM cyI cyJ cyZ b M) H) (hD : va_D A (wM cyI cyJ cyZ b M)) (hS : va_S A s.heap H locs) (hl : lv_has ls 6 [(0, .ref (b 0)), (1, .int x1), (3, .int x3), (4, .int x4)]) : W p l e { frames := 6, cells := 0, slots := 0, locals := 157 } s m args below meth c H locs 0 0 (MQ below (va_Qi post (xAt (dC, dI) (tyA cyI cyJ cyZ) (wM cyI cyJ cyZ b) A) A) args s 0 0 A) (F0 m 89 ls []) := by
  obtain ⟨hx, hb, hml, hown, hts, hr, hlocks, hK, hE, hA⟩ := id G
  have hiX6 : ∀ w ∈ wsX60, w ∈ wsX6_mapped := by decide +kernel
  have hf53 := hts (.fieldLink RX6 53 "CellMappingModel" "gates" "[I") (by decide +kernel)
  obtain ⟨I, mu, h0, hstep⟩ := h
  suffices hgo : ∀ (n : Nat) (M : MS) (x4 : Int32), I M x4 → mu M x4 < n → ∀ (H : Heap) (locs : List Loc) (ls : Array Slot), va_P (dC, dI) vwCl (wM cyI cyJ cyZ b M) H → va_D A (wM cyI cyJ cyZ b M) → va_S A s.heap H locs → lv_has ls 6 [(0, .ref (b 0)), (1, .int x1), (3, .int x3), (4, .int x4)] → W p l e { frames := 6, cells := 0, slots := 0, locals := 157 } s m args below meth c H locs 0 0 (MQ below (va_Qi post (xAt (dC, dI) (tyA cyI cyJ cyZ) (wM cyI cyJ cyZ b) A) A) args s 0 0 A) (F0 m 89 ls []) from hgo (mu M x4 + 1) M x4 h0 (Nat.lt_succ_self _) H locs ls hP hD hS hl
  clear h0 hP hD hS hl
  intro n
  induction n with
  | zero => intro M x4 _ h; exact absurd h (Nat.not_lt_zero _)
  | succ n ih =>
    intro M x4 hI hmu H locs ls hP hD hS hl
    have h := hstep M x4 hI
    unfold b_X6_mapped_89 at h
    have k89 : ∀ (M' : MS) (x4' : Int32) (H : Heap) (locs : List Loc) (ls : Array Slot), (fun M' x4' => I M' x4' ∧ mu M' x4' < mu M x4) M' x4' → va_P (dC, dI) vwCl (wM cyI cyJ cyZ b M') H → va_D A (wM cyI cyJ cyZ b M') → va_S A s.heap H locs → lv_has ls 6 [(0, .ref (b 0)), (1, .int x1), (3, .int x3), (4, .int x4')] → W p l e { frames := 6, cells := 0, slots := 0, locals := 157 } s m args below meth c H locs 0 0 (MQ below (va_Qi post (xAt (dC, dI) (tyA cyI cyJ cyZ) (wM cyI cyJ cyZ b) A) A) args s 0 0 A) (F0 m 89 ls []) := fun M' x4' H locs ls hh hP hD hS hl => ih M' x4' hh.1 (Nat.lt_of_lt_of_le hh.2 (Nat.le_of_lt_succ hmu)) H locs ls hP hD hS hl
    generalize (fun M' x4' => I M' x4' ∧ mu M' x4' < mu M x4) = g89 at h k89
    refine lv_iload hx hb dX6_mapped_89 (lv_at hl 3 rfl) ?_
    refine lv_iconst (v := 4) hx hb dX6_mapped_91 (by decide) ?_
    refine lv_icmp_ge (tgt := 155) hx hb dX6_mapped_92 (by decide) (fun c12 => ?_) (fun c12 => ?_)
    · have h := h.1 c12
      obtain ⟨y13, ey13⟩ : ∃ z : Int32, z = (x3 + (1 : Int32)) := ⟨_, rfl⟩
      have h := h y13 ey13
      refine lv_iinc (v := y13) (lv' := [(3, .int y13), (0, .ref (b 0)), (1, .int x1), (4, .int x4)]) hx hb dX6_mapped_155 hl (k := 2) rfl (by rw [ey13]; rfl) (by decide) rfl (fun ls hl => ?_)
      refine lv_goto (tgt := 78) hx hb dX6_mapped_158 (by decide) ?_
      exact k78 M y13 H locs ls h hP hD hS (lv_sub hl [1, 2, 0] rfl)
    · have h := h.2 c12
      refine lv_iconst (v := 2) hx hb dX6_mapped_95 (by decide) ?_
      refine lv_iload_n hx hb dX6_mapped_96 rfl (lv_at hl 2 rfl) ?_
      refine lv_imul hx hb dX6_mapped_97 ?_
      refine lv_iload hx hb dX6_mapped_98 (lv_at hl 3 rfl) ?_
      refine lv_iconst (v := 1) hx hb dX6_mapped_100 (by decide) ?_
      refine lv_iand hx hb dX6_mapped_101 ?_
      refine lv_iadd hx hb dX6_mapped_102 ?_
      refine lv_topi (fun y14 ey14 => ?_)
      have h := h y14 ey14
      refine lv_istore (lv' := [(5, .int y14), (0, .ref (b 0)), (1, .int x1), (3, .int x3), (4, .int x4)]) hx hb dX6_mapped_103 hl (by decide) rfl (fun ls hl => ?_)
      refine lv_aload_n hx hb dX6_mapped_105 rfl (lv_at hl 1 rfl) ?_
      refine va_get (D := (dC, dI)) (ci := 5) (v := .ref (b 15)) (C := RX6) (T := TX6) (N := 27) hx hb hts hiX6 hown hK hP 0 rfl rfl 21 (by decide) hf53 (fun _ h9 => h9) rfl dX6_mapped_106 ?_
      refine lv_iload hx hb dX6_mapped_109 (lv_at hl 0 rfl) ?_
      obtain ⟨i15, h⟩ := h
      refine va_iald (D := (dC, dI)) hx hb hK hP 15 0 rfl rfl i15 dX6_mapped_111 ?_
      refine lv_iconst (v := -1) hx hb dX6_mapped_112 (by decide) ?_
      refine lv_icmp_eq (tgt := 149) hx hb dX6_mapped_113 (by decide) (fun c16 => ?_) (fun c16 => ?_)
      · have h := h.1 c16
        obtain ⟨y17, ey17⟩ : ∃ z : Int32, z = (x4 + (1 : Int32)) := ⟨_, rfl⟩
        have h := h y17 ey17
        refine lv_iinc (v := y17) (lv' := [(4, .int y17), (5, .int y14), (0, .ref (b 0)), (1, .int x1), (3, .int x3)]) hx hb dX6_mapped_149 hl (k := 4) rfl (by rw [ey17]; rfl) (by decide) rfl (fun ls hl => ?_)
        refine lv_goto (tgt := 89) hx hb dX6_mapped_152 (by decide) ?_
        exact k89 M y17 H locs ls h hP hD hS (lv_sub hl [2, 3, 4, 0] rfl)
      · have h := h.2 c16
        refine lv_aload_n hx hb dX6_mapped_116 rfl (lv_at hl 1 rfl) ?_
        refine lv_iload hx hb dX6_mapped_117 (lv_at hl 0 rfl) ?_
        refine xc_Vi (wf := wM cyI cyJ cyZ b) (wr := []) (isC := [0, 1, 2, 3, 4, 5, 6, 7, 8, 9, 10, 11, 12, 13, 14, 15, 16, 17, 18, 19, 20]) (isR := []) (As := [.int y14]) (rest := []) ⟨hx, hb, hml, hown, hts⟩ (t_X6_turnsOwn h) (cwV 1 hts gX6_mapped_X6_turnsOwn rfl rfl rfl (by decide +kernel) ⟨Nat.le_of_ble_eq_true rfl, Nat.le_of_ble_eq_true rfl⟩) ⟨hK, hE, hA, hP, hD, hS, rfl, rfl, rfl, rfl, by decide⟩ ⟨0, 5, _, _, rfl, rfl, rfl⟩ rfl rfl hl.1 (Nat.le_of_ble_eq_true rfl) dX6_mapped_119 ⟨Nat.le_of_ble_eq_true rfl, Nat.le_of_ble_eq_true rfl⟩ (fun r18 S19 H locs h hP hD hS => ?_)
        obtain ⟨rfl, h⟩ := h
        have hP : va_P (dC, dI) vwCl (wM cyI cyJ cyZ b M) H := hP
        have hD : va_D A (wM cyI cyJ cyZ b M) := hD
        refine lv_iload hx hb dX6_mapped_122 (lv_at hl 4 rfl) ?_
        refine lv_iconst (v := 1) hx hb dX6_mapped_124 (by decide) ?_
        refine lv_icmp_le (tgt := 132) hx hb dX6_mapped_125 (by decide) (fun c20 => ?_) (fun c20 => ?_)
        · have h := h.1 c20
          refine lv_iconst (v := 0) hx hb dX6_mapped_132 (by decide) ?_
          exact t_X6_mapped_133 G k78 k89 h hP hD hS (lv_sub hl [1, 2, 3, 4, 0] rfl)
        · have h := h.2 c20
          refine lv_iconst (v := 1) hx hb dX6_mapped_128 (by decide) ?_
          refine lv_goto (tgt := 133) hx hb dX6_mapped_129 (by decide) ?_
          exact t_X6_mapped_133 G k78 k89 h hP hD hS (lv_sub hl [1, 2, 3, 4, 0] rfl)
def b_X6_mapped_78 (x1 : Int32) (post : Int32 → MS → Prop) (g78 : MS → Int32 → Prop) (M : MS) (x3 : Int32) : Prop := ((mND M) ≤ x3 → (vp_in x1 64 ∧ (post ((mVA M) x1.toNatClampNeg) M))) ∧ (¬ (mND M) ≤ x3 → (p_X6_mapped_89 g78 M x1 x3 (0 : Int32) post))
def p_X6_mapped_78 (M : MS) (x1 : Int32) (x3 : Int32) (post : Int32 → MS → Prop) : Prop := ∃ (I : MS → Int32 → Prop) (mu : MS → Int32 → Nat), I M x3 ∧ ∀ (M : MS) (x3 : Int32), I M x3 → b_X6_mapped_78 x1 post (fun M' x3' => I M' x3' ∧ mu M' x3' < mu M x3) M x3
set_option maxHeartbeats 1000000 in
set_option maxRecDepth 100000 in
theorem t_X6_mapped_78 {p : Program} {l : Launch} {e : Env} {s : State} {m : MethodId} {args : Array Value} {below : List Frame} {meth : Method} {c : Code} {dC : Nat → ClassId} {dI : Nat → Nat → Nat} {cyI cyJ cyZ : ClassId} {r : Nat → Nat} {b : Nat → Nat} {A : Nat → Prop} {M : MS} {x1 : Int32} {x3 : Int32} {post : Int32 → MS → Prop} (G : xG p s m args meth c cX6_mapped 6 RX6 (some .int) wsX6_mapped (dC, dI) (tyA cyI cyJ cyZ) r A) (h : p_X6_mapped_78 M x1 x3 post) {H : Heap} {locs : List Loc} {ls : Array Slot} (hP : va_P (dC, dI) vwCl (wM cyI cyJ cyZ b M) H) (hD : va_D A (wM cyI cyJ cyZ b M)) (hS : va_S A s.heap H locs) (hl : lv_has ls 6 [(0, .ref (b 0)), (1, .int x1), (3, .int x3)]) : W p l e { frames := 6, cells := 0, slots := 0, locals := 157 } s m args below meth c H locs 0 0 (MQ below (va_Qi post (xAt (dC, dI) (tyA cyI cyJ cyZ) (wM cyI cyJ cyZ b) A) A) args s 0 0 A) (F0 m 78 ls []) := by
  obtain ⟨hx, hb, hml, hown, hts, hr, hlocks, hK, hE, hA⟩ := id G
  have hiX6 : ∀ w ∈ wsX60, w ∈ wsX6_mapped := by decide +kernel
  have hf79 := hts (.fieldLink RX6 79 "CellMappingModel" "nodes" "I") (by decide +kernel)
  have hf63 := hts (.fieldLink RX6 63 "CellMappingModel" "values" "[I") (by decide +kernel)
  obtain ⟨I, mu, h0, hstep⟩ := h
  suffices hgo : ∀ (n : Nat) (M : MS) (x3 : Int32), I M x3 → mu M x3 < n → ∀ (H : Heap) (locs : List Loc) (ls : Array Slot), va_P (dC, dI) vwCl (wM cyI cyJ cyZ b M) H → va_D A (wM cyI cyJ cyZ b M) → va_S A s.heap H locs → lv_has ls 6 [(0, .ref (b 0)), (1, .int x1), (3, .int x3)] → W p l e { frames := 6, cells := 0, slots := 0, locals := 157 } s m args below meth c H locs 0 0 (MQ below (va_Qi post (xAt (dC, dI) (tyA cyI cyJ cyZ) (wM cyI cyJ cyZ b) A) A) args s 0 0 A) (F0 m 78 ls []) from hgo (mu M x3 + 1) M x3 h0 (Nat.lt_succ_self _) H locs ls hP hD hS hl
  clear h0 hP hD hS hl
  intro n
  induction n with
  | zero => intro M x3 _ h; exact absurd h (Nat.not_lt_zero _)
  | succ n ih =>
    intro M x3 hI hmu H locs ls hP hD hS hl
    have h := hstep M x3 hI
    unfold b_X6_mapped_78 at h
    have k78 : ∀ (M' : MS) (x3' : Int32) (H : Heap) (locs : List Loc) (ls : Array Slot), (fun M' x3' => I M' x3' ∧ mu M' x3' < mu M x3) M' x3' → va_P (dC, dI) vwCl (wM cyI cyJ cyZ b M') H → va_D A (wM cyI cyJ cyZ b M') → va_S A s.heap H locs → lv_has ls 6 [(0, .ref (b 0)), (1, .int x1), (3, .int x3')] → W p l e { frames := 6, cells := 0, slots := 0, locals := 157 } s m args below meth c H locs 0 0 (MQ below (va_Qi post (xAt (dC, dI) (tyA cyI cyJ cyZ) (wM cyI cyJ cyZ b) A) A) args s 0 0 A) (F0 m 78 ls []) := fun M' x3' H locs ls hh hP hD hS hl => ih M' x3' hh.1 (Nat.lt_of_lt_of_le hh.2 (Nat.le_of_lt_succ hmu)) H locs ls hP hD hS hl
    generalize (fun M' x3' => I M' x3' ∧ mu M' x3' < mu M x3) = g78 at h k78
    refine lv_iload_n hx hb dX6_mapped_78 rfl (lv_at hl 2 rfl) ?_
    refine lv_aload_n hx hb dX6_mapped_79 rfl (lv_at hl 0 rfl) ?_
    refine va_get (D := (dC, dI)) (ci := 5) (v := .int (mND M)) (C := RX6) (T := TX6) (N := 27) hx hb hts hiX6 hown hK hP 0 rfl rfl 1 (by decide) hf79 (fun _ h9 => h9) rfl dX6_mapped_80 ?_
    refine lv_icmp_ge (tgt := 161) hx hb dX6_mapped_83 (by decide) (fun c10 => ?_) (fun c10 => ?_)
    · have h := h.1 c10
      refine lv_aload_n hx hb dX6_mapped_161 rfl (lv_at hl 0 rfl) ?_
      refine va_get (D := (dC, dI)) (ci := 5) (v := .ref (b 18)) (C := RX6) (T := TX6) (N := 27) hx hb hts hiX6 hown hK hP 0 rfl rfl 24 (by decide) hf63 (fun _ h9 => h9) rfl dX6_mapped_162 ?_
      refine lv_iload_n hx hb dX6_mapped_165 rfl (lv_at hl 1 rfl) ?_
      obtain ⟨i11, h⟩ := h
      refine va_iald (D := (dC, dI)) hx hb hK hP 18 0 rfl rfl i11 dX6_mapped_166 ?_
      exact xr_i (S := M) hx hb hr hlocks hK hP hD hS h (Nat.le_of_ble_eq_true rfl) (Nat.le_of_ble_eq_true rfl) dX6_mapped_167
    · have h := h.2 c10
      refine lv_iconst (v := 0) hx hb dX6_mapped_86 (by decide) ?_
      refine lv_istore (lv' := [(4, .int (0 : Int32)), (0, .ref (b 0)), (1, .int x1), (3, .int x3)]) hx hb dX6_mapped_87 hl (by decide) rfl (fun ls hl => ?_)
      exact t_X6_mapped_89 G k78 h hP hD hS (lv_sub hl [1, 2, 3, 0] rfl)
def b_X6_mapped_44 (x1 : Int32) (x2 : Int32) (post : Int32 → MS → Prop) (g44 : MS → Int32 → Prop) (M : MS) (x3 : Int32) : Prop := ((mIP M) ≤ x3 → (p_X6_mapped_78 M x1 (0 : Int32) post)) ∧ (¬ (mIP M) ≤ x3 → (vp_in x3 8 ∧ (vp_in ((2 : Int32) * ((mIN M) x3.toNatClampNeg)) 64 ∧ (∀ M30 : MS, M30 = (mVA_s M (upd (mVA M) ((2 : Int32) * ((mIN M) x3.toNatClampNeg)).toNatClampNeg ((x2 >>> (x3 &&& 31)) &&& (1 : Int32)))) → (∀ y31 : Int32, y31 = (x3 + (1 : Int32)) → (g44 M30 y31))))))
def p_X6_mapped_44 (M : MS) (x1 : Int32) (x2 : Int32) (x3 : Int32) (post : Int32 → MS → Prop) : Prop := ∃ (I : MS → Int32 → Prop) (mu : MS → Int32 → Nat), I M x3 ∧ ∀ (M : MS) (x3 : Int32), I M x3 → b_X6_mapped_44 x1 x2 post (fun M' x3' => I M' x3' ∧ mu M' x3' < mu M x3) M x3
set_option maxHeartbeats 1000000 in
set_option maxRecDepth 100000 in
theorem t_X6_mapped_44 {p : Program} {l : Launch} {e : Env} {s : State} {m : MethodId} {args : Array Value} {below : List Frame} {meth : Method} {c : Code} {dC : Nat → ClassId} {dI : Nat → Nat → Nat} {cyI cyJ cyZ : ClassId} {r : Nat → Nat} {b : Nat → Nat} {A : Nat → Prop} {M : MS} {x1 : Int32} {x2 : Int32} {x3 : Int32} {post : Int32 → MS → Prop} (G : xG p s m args meth c cX6_mapped 6 RX6 (some .int) wsX6_mapped (dC, dI) (tyA cyI cyJ cyZ) r A) (h : p_X6_mapped_44 M x1 x2 x3 post) {H : Heap} {locs : List Loc} {ls : Array Slot} (hP : va_P (dC, dI) vwCl (wM cyI cyJ cyZ b M) H) (hD : va_D A (wM cyI cyJ cyZ b M)) (hS : va_S A s.heap H locs) (hl : lv_has ls 6 [(0, .ref (b 0)), (1, .int x1), (2, .int x2), (3, .int x3)]) : W p l e { frames := 6, cells := 0, slots := 0, locals := 157 } s m args below meth c H locs 0 0 (MQ below (va_Qi post (xAt (dC, dI) (tyA cyI cyJ cyZ) (wM cyI cyJ cyZ b) A) A) args s 0 0 A) (F0 m 44 ls []) := by
  obtain ⟨hx, hb, hml, hown, hts, hr, hlocks, hK, hE, hA⟩ := id G
  have hiX6 : ∀ w ∈ wsX60, w ∈ wsX6_mapped := by decide +kernel
  have hf86 := hts (.fieldLink RX6 86 "CellMappingModel" "inputs" "I") (by decide +kernel)
  have hf63 := hts (.fieldLink RX6 63 "CellMappingModel" "values" "[I") (by decide +kernel)
  have hf16 := hts (.fieldLink RX6 16 "CellMappingModel" "inputNodes" "[I") (by decide +kernel)
  obtain ⟨I, mu, h0, hstep⟩ := h
  suffices hgo : ∀ (n : Nat) (M : MS) (x3 : Int32), I M x3 → mu M x3 < n → ∀ (H : Heap) (locs : List Loc) (ls : Array Slot), va_P (dC, dI) vwCl (wM cyI cyJ cyZ b M) H → va_D A (wM cyI cyJ cyZ b M) → va_S A s.heap H locs → lv_has ls 6 [(0, .ref (b 0)), (1, .int x1), (2, .int x2), (3, .int x3)] → W p l e { frames := 6, cells := 0, slots := 0, locals := 157 } s m args below meth c H locs 0 0 (MQ below (va_Qi post (xAt (dC, dI) (tyA cyI cyJ cyZ) (wM cyI cyJ cyZ b) A) A) args s 0 0 A) (F0 m 44 ls []) from hgo (mu M x3 + 1) M x3 h0 (Nat.lt_succ_self _) H locs ls hP hD hS hl
  clear h0 hP hD hS hl
  intro n
  induction n with
  | zero => intro M x3 _ h; exact absurd h (Nat.not_lt_zero _)
  | succ n ih =>
    intro M x3 hI hmu H locs ls hP hD hS hl
    have h := hstep M x3 hI
    unfold b_X6_mapped_44 at h
    have k44 : ∀ (M' : MS) (x3' : Int32) (H : Heap) (locs : List Loc) (ls : Array Slot), (fun M' x3' => I M' x3' ∧ mu M' x3' < mu M x3) M' x3' → va_P (dC, dI) vwCl (wM cyI cyJ cyZ b M') H → va_D A (wM cyI cyJ cyZ b M') → va_S A s.heap H locs → lv_has ls 6 [(0, .ref (b 0)), (1, .int x1), (2, .int x2), (3, .int x3')] → W p l e { frames := 6, cells := 0, slots := 0, locals := 157 } s m args below meth c H locs 0 0 (MQ below (va_Qi post (xAt (dC, dI) (tyA cyI cyJ cyZ) (wM cyI cyJ cyZ b) A) A) args s 0 0 A) (F0 m 44 ls []) := fun M' x3' H locs ls hh hP hD hS hl => ih M' x3' hh.1 (Nat.lt_of_lt_of_le hh.2 (Nat.le_of_lt_succ hmu)) H locs ls hP hD hS hl
    generalize (fun M' x3' => I M' x3' ∧ mu M' x3' < mu M x3) = g44 at h k44
    refine lv_iload_n hx hb dX6_mapped_44 rfl (lv_at hl 3 rfl) ?_
    refine lv_aload_n hx hb dX6_mapped_45 rfl (lv_at hl 0 rfl) ?_
    refine va_get (D := (dC, dI)) (ci := 5) (v := .int (mIP M)) (C := RX6) (T := TX6) (N := 27) hx hb hts hiX6 hown hK hP 0 rfl rfl 2 (by decide) hf86 (fun _ h9 => h9) rfl dX6_mapped_46 ?_
    refine lv_icmp_ge (tgt := 76) hx hb dX6_mapped_49 (by decide) (fun c9 => ?_) (fun c9 => ?_)
    · have h := h.1 c9
      refine lv_iconst (v := 0) hx hb dX6_mapped_76 (by decide) ?_
      refine lv_istore_n (lv' := [(3, .int (0 : Int32)), (0, .ref (b 0)), (1, .int x1), (2, .int x2)]) hx hb dX6_mapped_77 rfl hl (by decide) rfl (fun ls hl => ?_)
      exact t_X6_mapped_78 G h hP hD hS (lv_sub hl [1, 2, 0] rfl)
    · have h := h.2 c9
      refine lv_aload_n hx hb dX6_mapped_52 rfl (lv_at hl 0 rfl) ?_
      refine va_get (D := (dC, dI)) (ci := 5) (v := .ref (b 18)) (C := RX6) (T := TX6) (N := 27) hx hb hts hiX6 hown hK hP 0 rfl rfl 24 (by decide) hf63 (fun _ h9 => h9) rfl dX6_mapped_53 ?_
      refine lv_iconst (v := 2) hx hb dX6_mapped_56 (by decide) ?_
      refine lv_aload_n hx hb dX6_mapped_57 rfl (lv_at hl 0 rfl) ?_
      refine va_get (D := (dC, dI)) (ci := 5) (v := .ref (b 3)) (C := RX6) (T := TX6) (N := 27) hx hb hts hiX6 hown hK hP 0 rfl rfl 6 (by decide) hf16 (fun _ h9 => h9) rfl dX6_mapped_58 ?_
      refine lv_iload_n hx hb dX6_mapped_61 rfl (lv_at hl 3 rfl) ?_
      obtain ⟨i28, h⟩ := h
      refine va_iald (D := (dC, dI)) hx hb hK hP 3 0 rfl rfl i28 dX6_mapped_62 ?_
      refine lv_imul hx hb dX6_mapped_63 ?_
      refine lv_iload_n hx hb dX6_mapped_64 rfl (lv_at hl 2 rfl) ?_
      refine lv_iload_n hx hb dX6_mapped_65 rfl (lv_at hl 3 rfl) ?_
      refine lv_ishr hx hb dX6_mapped_66 ?_
      refine lv_iconst (v := 1) hx hb dX6_mapped_67 (by decide) ?_
      refine lv_iand hx hb dX6_mapped_68 ?_
      obtain ⟨i29, h⟩ := h
      refine va_iast (D := (dC, dI)) hx hb hK hP hD hS 18 0 rfl rfl i29 dX6_mapped_69 (fun H locs hP hD hS => ?_)
      obtain ⟨M30, eM30⟩ : ∃ z : MS, z = (mVA_s M (upd (mVA M) ((2 : Int32) * ((mIN M) x3.toNatClampNeg)).toNatClampNeg ((x2 >>> (x3 &&& 31)) &&& (1 : Int32)))) := ⟨_, rfl⟩
      have h := h M30 eM30
      have hP := nP_mVA eM30 hP
      have hD := nD_mVA eM30 hD
      obtain ⟨y31, ey31⟩ : ∃ z : Int32, z = (x3 + (1 : Int32)) := ⟨_, rfl⟩
      have h := h y31 ey31
      refine lv_iinc (v := y31) (lv' := [(3, .int y31), (0, .ref (b 0)), (1, .int x1), (2, .int x2)]) hx hb dX6_mapped_70 hl (k := 3) rfl (by rw [ey31]; rfl) (by decide) rfl (fun ls hl => ?_)
      refine lv_goto (tgt := 44) hx hb dX6_mapped_73 (by decide) ?_
      exact k44 M30 y31 H locs ls h hP hD hS (lv_sub hl [1, 2, 3, 0] rfl)
def p_X6_mapped_14 (M : MS) (x1 : Int32) (x2 : Int32) (t0 : Int32) (post : Int32 → MS → Prop) : Prop := ∀ M4 : MS, M4 = (mTH_s M t0) → (((mTH M4) ≤ 0 → (p_X6_settle M4 (fun S6 => vp_in x1 64 ∧ ((¬ ((mAV S6) x1.toNatClampNeg) = (-1 : Int32) → (p_X6_mapped_44 S6 x1 x2 (0 : Int32) post)) ∧ (((mAV S6) x1.toNatClampNeg) = (-1 : Int32) → (post (-1 : Int32) S6)))))) ∧ (¬ (mTH M4) ≤ 0 → (post (0 : Int32) M4)))
set_option maxHeartbeats 1000000 in
set_option maxRecDepth 100000 in
theorem t_X6_mapped_14 {p : Program} {l : Launch} {e : Env} {s : State} {m : MethodId} {args : Array Value} {below : List Frame} {meth : Method} {c : Code} {dC : Nat → ClassId} {dI : Nat → Nat → Nat} {cyI cyJ cyZ : ClassId} {r : Nat → Nat} {b : Nat → Nat} {A : Nat → Prop} {M : MS} {x1 : Int32} {x2 : Int32} {t0 : Int32} {post : Int32 → MS → Prop} (G : xG p s m args meth c cX6_mapped 6 RX6 (some .int) wsX6_mapped (dC, dI) (tyA cyI cyJ cyZ) r A) (h : p_X6_mapped_14 M x1 x2 t0 post) {H : Heap} {locs : List Loc} {ls : Array Slot} (hP : va_P (dC, dI) vwCl (wM cyI cyJ cyZ b M) H) (hD : va_D A (wM cyI cyJ cyZ b M)) (hS : va_S A s.heap H locs) (hl : lv_has ls 6 [(0, .ref (b 0)), (1, .int x1), (2, .int x2)]) : W p l e { frames := 6, cells := 0, slots := 0, locals := 157 } s m args below meth c H locs 0 0 (MQ below (va_Qi post (xAt (dC, dI) (tyA cyI cyJ cyZ) (wM cyI cyJ cyZ b) A) A) args s 0 0 A) (F0 m 14 ls [.int t0, .ref (b 0)]) := by
  obtain ⟨hx, hb, hml, hown, hts, hr, hlocks, hK, hE, hA⟩ := id G
  have hiX6 : ∀ w ∈ wsX60, w ∈ wsX6_mapped := by decide +kernel
  have hf75 := hts (.fieldLink RX6 75 "CellMappingModel" "thrown" "I") (by decide +kernel)
  have hf50 := hts (.fieldLink RX6 50 "CellMappingModel" "arrivals" "[I") (by decide +kernel)
  unfold p_X6_mapped_14 at h
  refine va_put (D := (dC, dI)) (ci := 5) (v := .int t0) (ty := .int) (C := RX6) (T := TX6) (N := 27) hx hb hts hiX6 tyX6 tyX6_ok nmX6 hown hK hP hD hS 0 rfl rfl 0 (by decide) hf75 (fun _ h9 => h9) rfl (by decide +kernel) rfl rfl (Nat.le_of_ble_eq_true rfl) dX6_mapped_14 (fun H locs hP hD hS => ?_)
  obtain ⟨M4, eM4⟩ : ∃ z : MS, z = (mTH_s M t0) := ⟨_, rfl⟩
  have h := h M4 eM4
  have hP := nP_mTH eM4 hP
  have hD := nD_mTH eM4 hD
  refine lv_aload_n hx hb dX6_mapped_17 rfl (lv_at hl 0 rfl) ?_
  refine va_get (D := (dC, dI)) (ci := 5) (v := .int (mTH M4)) (C := RX6) (T := TX6) (N := 27) hx hb hts hiX6 hown hK hP 0 rfl rfl 0 (by decide) hf75 (fun _ h9 => h9) rfl dX6_mapped_18 ?_
  refine lv_if_le (tgt := 26) hx hb dX6_mapped_21 (by decide) (fun c5 => ?_) (fun c5 => ?_)
  · have h := h.1 c5
    refine lv_aload_n hx hb dX6_mapped_26 rfl (lv_at hl 0 rfl) ?_
    refine xc_Vv (wf := wM cyI cyJ cyZ b) (wr := []) (isC := [0, 1, 2, 3, 4, 5, 6, 7, 8, 9, 10, 11, 12, 13, 14, 15, 16, 17, 18, 19, 20]) (isR := []) (As := []) (rest := []) ⟨hx, hb, hml, hown, hts⟩ (t_X6_settle h) (cwV 0 hts gX6_mapped_X6_settle rfl rfl rfl (by decide +kernel) ⟨Nat.le_of_ble_eq_true rfl, Nat.le_of_ble_eq_true rfl⟩) ⟨hK, hE, hA, hP, hD, hS, rfl, rfl, rfl, rfl, by decide⟩ ⟨0, 5, _, _, rfl, rfl, rfl⟩ rfl rfl hl.1 (Nat.le_of_ble_eq_true rfl) dX6_mapped_27 ⟨Nat.le_of_ble_eq_true rfl, Nat.le_of_ble_eq_true rfl⟩ (fun  S6 H locs h hP hD hS => ?_)
    have hP : va_P (dC, dI) vwCl (wM cyI cyJ cyZ b S6) H := hP
    have hD : va_D A (wM cyI cyJ cyZ b S6) := hD
    refine lv_aload_n hx hb dX6_mapped_30 rfl (lv_at hl 0 rfl) ?_
    refine va_get (D := (dC, dI)) (ci := 5) (v := .ref (b 14)) (C := RX6) (T := TX6) (N := 27) hx hb hts hiX6 hown hK hP 0 rfl rfl 20 (by decide) hf50 (fun _ h9 => h9) rfl dX6_mapped_31 ?_
    refine lv_iload_n hx hb dX6_mapped_34 rfl (lv_at hl 1 rfl) ?_
    obtain ⟨i7, h⟩ := h
    refine va_iald (D := (dC, dI)) hx hb hK hP 14 0 rfl rfl i7 dX6_mapped_35 ?_
    refine lv_iconst (v := -1) hx hb dX6_mapped_36 (by decide) ?_
    refine lv_icmp_ne (tgt := 42) hx hb dX6_mapped_37 (by decide) (fun c8 => ?_) (fun c8 => ?_)
    · have h := h.1 c8
      refine lv_iconst (v := 0) hx hb dX6_mapped_42 (by decide) ?_
      refine lv_istore_n (lv' := [(3, .int (0 : Int32)), (0, .ref (b 0)), (1, .int x1), (2, .int x2)]) hx hb dX6_mapped_43 rfl hl (by decide) rfl (fun ls hl => ?_)
      exact t_X6_mapped_44 G h hP hD hS (lv_sub hl [1, 2, 3, 0] rfl)
    · have h := h.2 c8
      refine lv_iconst (v := -1) hx hb dX6_mapped_40 (by decide) ?_
      exact xr_i (S := S6) hx hb hr hlocks hK hP hD hS h (Nat.le_of_ble_eq_true rfl) (Nat.le_of_ble_eq_true rfl) dX6_mapped_41
  · have h := h.2 c5
    refine lv_iconst (v := 0) hx hb dX6_mapped_24 (by decide) ?_
    exact xr_i (S := M4) hx hb hr hlocks hK hP hD hS h (Nat.le_of_ble_eq_true rfl) (Nat.le_of_ble_eq_true rfl) dX6_mapped_25
def p_X6_mapped (M : MS) (x1 : Int32) (x2 : Int32) (post : Int32 → MS → Prop) : Prop := p_X6_isLiteral M x1 (fun r1 => (r1 = 0 → (p_X6_mapped_14 M x1 x2 (1 : Int32) post)) ∧ (¬ r1 = 0 → (p_X6_mapped_14 M x1 x2 (0 : Int32) post)))
set_option maxHeartbeats 1000000 in
set_option maxRecDepth 100000 in
theorem t_X6_mapped {l : Launch} {dC : Nat → ClassId} {dI : Nat → Nat → Nat} {cyI cyJ cyZ : ClassId} {r : Nat → Nat} {b : Nat → Nat} {M : MS} {x1 : Int32} {x2 : Int32} {post : Int32 → MS → Prop} (h : p_X6_mapped M x1 x2 post) : xMi l yX6_mapped wsX6_mapped { frames := 6, cells := 0, slots := 0, locals := 157 } (dC, dI) (tyA cyI cyJ cyZ) r (wM cyI cyJ cyZ b) [.ref (b 0), .int x1, .int x2] M post 0 0 := by
  intro sz
  refine Met.ofW (cc := cX6_mapped) (maxL := 6) (ret := (some .int)) (by decide) rfl ?_
  intro p e s m args below meth c s₁ B hml hv
  obtain ⟨rfl, G, hP, hD, hS⟩ := xG.of rfl B hml hv
  generalize hAe : va_A (wM cyI cyJ cyZ b M) sz = A at G hD hS ⊢
  have G : xG p s m _ meth c cX6_mapped 6 RX6 (some .int) wsX6_mapped (dC, dI) (tyA cyI cyJ cyZ) r A := G
  obtain ⟨hx, hb, hml, hown, hts, hr, hlocks, hK, hE, hA⟩ := id G
  have hl := lv_entry ([.ref (b 0), .int x1, .int x2]) (n := 6) (Nat.le_of_ble_eq_true rfl)
  rw [lg_entry_eq]
  generalize (lg_sl ([.ref (b 0), .int x1, .int x2]) ++ List.replicate (6 - (lg_sl ([.ref (b 0), .int x1, .int x2])).length) Slot.unset).toArray = ls at hl ⊢
  have hl : lv_has ls 6 [(0, .ref (b 0)), (1, .int x1), (2, .int x2)] := hl
  show W p l e { frames := 6, cells := 0, slots := 0, locals := 157 } s m _ below meth c s.heap [] 0 0 _ _
  unfold p_X6_mapped at h
  refine lv_aload_n hx hb dX6_mapped_0 rfl (lv_at hl 0 rfl) ?_
  refine lv_aload_n hx hb dX6_mapped_1 rfl (lv_at hl 0 rfl) ?_
  refine lv_iload_n hx hb dX6_mapped_2 rfl (lv_at hl 1 rfl) ?_
  refine xc_Vi (wf := wM cyI cyJ cyZ b) (wr := []) (isC := [0, 1, 2, 3, 4, 5, 6, 7, 8, 9, 10, 11, 12, 13, 14, 15, 16, 17, 18, 19, 20]) (isR := []) (As := [.int x1]) (rest := [.ref (b 0)]) ⟨hx, hb, hml, hown, hts⟩ (t_X6_isLiteral h) (cwV 1 hts gX6_mapped_X6_isLiteral rfl rfl rfl (by decide +kernel) ⟨Nat.le_of_ble_eq_true rfl, Nat.le_of_ble_eq_true rfl⟩) ⟨hK, hE, hA, hP, hD, hS, rfl, rfl, rfl, rfl, by decide⟩ ⟨0, 5, _, _, rfl, rfl, rfl⟩ rfl rfl hl.1 (Nat.le_of_ble_eq_true rfl) dX6_mapped_3 ⟨Nat.le_of_ble_eq_true rfl, Nat.le_of_ble_eq_true rfl⟩ (fun r1 S2 H locs h hP hD hS => ?_)
  obtain ⟨rfl, h⟩ := h
  have hP : va_P (dC, dI) vwCl (wM cyI cyJ cyZ b M) H := hP
  have hD : va_D A (wM cyI cyJ cyZ b M) := hD
  refine lv_if_eq (tgt := 13) hx hb dX6_mapped_6 (by decide) (fun c3 => ?_) (fun c3 => ?_)
  · have h := h.1 c3
    refine lv_iconst (v := 1) hx hb dX6_mapped_13 (by decide) ?_
    exact t_X6_mapped_14 G h hP hD hS (lv_sub hl [0, 1, 2] rfl)
  · have h := h.2 c3
    refine lv_iconst (v := 0) hx hb dX6_mapped_9 (by decide) ?_
    refine lv_goto (tgt := 14) hx hb dX6_mapped_10 (by decide) ?_
    exact t_X6_mapped_14 G h hP hD hS (lv_sub hl [0, 1, 2] rfl)
def p_X6_count_14 (M : MS) (x1 : Int32) (t0 : Int32) (post : Int32 → MS → Prop) : Prop := ∀ M4 : MS, M4 = (mTH_s M t0) → ((¬ x1 = 0 → ((¬ x1 = (1 : Int32) → ((¬ x1 = (2 : Int32) → ((¬ x1 = (3 : Int32) → (post (0 : Int32) M4)) ∧ (x1 = (3 : Int32) → (post (mCE M4) M4)))) ∧ (x1 = (2 : Int32) → (post (mOU M4) M4)))) ∧ (x1 = (1 : Int32) → (post (mIP M4) M4)))) ∧ (x1 = 0 → (post (mND M4) M4)))
set_option maxHeartbeats 1000000 in
set_option maxRecDepth 100000 in
theorem t_X6_count_14 {p : Program} {l : Launch} {e : Env} {s : State} {m : MethodId} {args : Array Value} {below : List Frame} {meth : Method} {c : Code} {dC : Nat → ClassId} {dI : Nat → Nat → Nat} {cyI cyJ cyZ : ClassId} {r : Nat → Nat} {b : Nat → Nat} {A : Nat → Prop} {M : MS} {x1 : Int32} {t0 : Int32} {post : Int32 → MS → Prop} (G : xG p s m args meth c cX6_count 2 RX6 (some .int) wsX6_count (dC, dI) (tyA cyI cyJ cyZ) r A) (h : p_X6_count_14 M x1 t0 post) {H : Heap} {locs : List Loc} {ls : Array Slot} (hP : va_P (dC, dI) vwCl (wM cyI cyJ cyZ b M) H) (hD : va_D A (wM cyI cyJ cyZ b M)) (hS : va_S A s.heap H locs) (hl : lv_has ls 2 [(0, .ref (b 0)), (1, .int x1)]) : W p l e { frames := 1, cells := 0, slots := 0, locals := 21 } s m args below meth c H locs 0 0 (MQ below (va_Qi post (xAt (dC, dI) (tyA cyI cyJ cyZ) (wM cyI cyJ cyZ b) A) A) args s 0 0 A) (F0 m 14 ls [.int t0, .ref (b 0)]) := by
  obtain ⟨hx, hb, hml, hown, hts, hr, hlocks, hK, hE, hA⟩ := id G
  have hiX6 : ∀ w ∈ wsX60, w ∈ wsX6_count := by decide +kernel
  have hf75 := hts (.fieldLink RX6 75 "CellMappingModel" "thrown" "I") (by decide +kernel)
  have hf145 := hts (.fieldLink RX6 145 "CellMappingModel" "cells" "I") (by decide +kernel)
  have hf104 := hts (.fieldLink RX6 104 "CellMappingModel" "outputs" "I") (by decide +kernel)
  have hf86 := hts (.fieldLink RX6 86 "CellMappingModel" "inputs" "I") (by decide +kernel)
  have hf79 := hts (.fieldLink RX6 79 "CellMappingModel" "nodes" "I") (by decide +kernel)
  unfold p_X6_count_14 at h
  refine va_put (D := (dC, dI)) (ci := 5) (v := .int t0) (ty := .int) (C := RX6) (T := TX6) (N := 27) hx hb hts hiX6 tyX6 tyX6_ok nmX6 hown hK hP hD hS 0 rfl rfl 0 (by decide) hf75 (fun _ h9 => h9) rfl (by decide +kernel) rfl rfl (Nat.le_of_ble_eq_true rfl) dX6_count_14 (fun H locs hP hD hS => ?_)
  obtain ⟨M4, eM4⟩ : ∃ z : MS, z = (mTH_s M t0) := ⟨_, rfl⟩
  have h := h M4 eM4
  have hP := nP_mTH eM4 hP
  have hD := nD_mTH eM4 hD
  refine lv_iload_n hx hb dX6_count_17 rfl (lv_at hl 1 rfl) ?_
  refine lv_if_ne (tgt := 28) hx hb dX6_count_18 (by decide) (fun c5 => ?_) (fun c5 => ?_)
  · have h := h.1 c5
    refine lv_iload_n hx hb dX6_count_28 rfl (lv_at hl 1 rfl) ?_
    refine lv_iconst (v := 1) hx hb dX6_count_29 (by decide) ?_
    refine lv_icmp_ne (tgt := 40) hx hb dX6_count_30 (by decide) (fun c6 => ?_) (fun c6 => ?_)
    · have h := h.1 c6
      refine lv_iload_n hx hb dX6_count_40 rfl (lv_at hl 1 rfl) ?_
      refine lv_iconst (v := 2) hx hb dX6_count_41 (by decide) ?_
      refine lv_icmp_ne (tgt := 52) hx hb dX6_count_42 (by decide) (fun c7 => ?_) (fun c7 => ?_)
      · have h := h.1 c7
        refine lv_iload_n hx hb dX6_count_52 rfl (lv_at hl 1 rfl) ?_
        refine lv_iconst (v := 3) hx hb dX6_count_53 (by decide) ?_
        refine lv_icmp_ne (tgt := 64) hx hb dX6_count_54 (by decide) (fun c8 => ?_) (fun c8 => ?_)
        · have h := h.1 c8
          refine lv_iconst (v := 0) hx hb dX6_count_64 (by decide) ?_
          exact xr_i (S := M4) hx hb hr hlocks hK hP hD hS h (Nat.le_of_ble_eq_true rfl) (Nat.le_of_ble_eq_true rfl) dX6_count_65
        · have h := h.2 c8
          refine lv_aload_n hx hb dX6_count_57 rfl (lv_at hl 0 rfl) ?_
          refine va_get (D := (dC, dI)) (ci := 5) (v := .int (mCE M4)) (C := RX6) (T := TX6) (N := 27) hx hb hts hiX6 hown hK hP 0 rfl rfl 10 (by decide) hf145 (fun _ h9 => h9) rfl dX6_count_58 ?_
          refine lv_goto (tgt := 65) hx hb dX6_count_61 (by decide) ?_
          exact xr_i (S := M4) hx hb hr hlocks hK hP hD hS h (Nat.le_of_ble_eq_true rfl) (Nat.le_of_ble_eq_true rfl) dX6_count_65
      · have h := h.2 c7
        refine lv_aload_n hx hb dX6_count_45 rfl (lv_at hl 0 rfl) ?_
        refine va_get (D := (dC, dI)) (ci := 5) (v := .int (mOU M4)) (C := RX6) (T := TX6) (N := 27) hx hb hts hiX6 hown hK hP 0 rfl rfl 8 (by decide) hf104 (fun _ h9 => h9) rfl dX6_count_46 ?_
        refine lv_goto (tgt := 65) hx hb dX6_count_49 (by decide) ?_
        exact xr_i (S := M4) hx hb hr hlocks hK hP hD hS h (Nat.le_of_ble_eq_true rfl) (Nat.le_of_ble_eq_true rfl) dX6_count_65
    · have h := h.2 c6
      refine lv_aload_n hx hb dX6_count_33 rfl (lv_at hl 0 rfl) ?_
      refine va_get (D := (dC, dI)) (ci := 5) (v := .int (mIP M4)) (C := RX6) (T := TX6) (N := 27) hx hb hts hiX6 hown hK hP 0 rfl rfl 2 (by decide) hf86 (fun _ h9 => h9) rfl dX6_count_34 ?_
      refine lv_goto (tgt := 65) hx hb dX6_count_37 (by decide) ?_
      exact xr_i (S := M4) hx hb hr hlocks hK hP hD hS h (Nat.le_of_ble_eq_true rfl) (Nat.le_of_ble_eq_true rfl) dX6_count_65
  · have h := h.2 c5
    refine lv_aload_n hx hb dX6_count_21 rfl (lv_at hl 0 rfl) ?_
    refine va_get (D := (dC, dI)) (ci := 5) (v := .int (mND M4)) (C := RX6) (T := TX6) (N := 27) hx hb hts hiX6 hown hK hP 0 rfl rfl 1 (by decide) hf79 (fun _ h9 => h9) rfl dX6_count_22 ?_
    refine lv_goto (tgt := 65) hx hb dX6_count_25 (by decide) ?_
    exact xr_i (S := M4) hx hb hr hlocks hK hP hD hS h (Nat.le_of_ble_eq_true rfl) (Nat.le_of_ble_eq_true rfl) dX6_count_65
def p_X6_count (M : MS) (x1 : Int32) (post : Int32 → MS → Prop) : Prop := p_X6_isIn M x1 (4 : Int32) (fun r1 => (r1 = 0 → (p_X6_count_14 M x1 (1 : Int32) post)) ∧ (¬ r1 = 0 → (p_X6_count_14 M x1 (0 : Int32) post)))
set_option maxHeartbeats 1000000 in
set_option maxRecDepth 100000 in
theorem t_X6_count {l : Launch} {dC : Nat → ClassId} {dI : Nat → Nat → Nat} {cyI cyJ cyZ : ClassId} {r : Nat → Nat} {b : Nat → Nat} {M : MS} {x1 : Int32} {post : Int32 → MS → Prop} (h : p_X6_count M x1 post) : xMi l yX6_count wsX6_count { frames := 1, cells := 0, slots := 0, locals := 21 } (dC, dI) (tyA cyI cyJ cyZ) r (wM cyI cyJ cyZ b) [.ref (b 0), .int x1] M post 0 0 := by
  intro sz
  refine Met.ofW (cc := cX6_count) (maxL := 2) (ret := (some .int)) (by decide) rfl ?_
  intro p e s m args below meth c s₁ B hml hv
  obtain ⟨rfl, G, hP, hD, hS⟩ := xG.of rfl B hml hv
  generalize hAe : va_A (wM cyI cyJ cyZ b M) sz = A at G hD hS ⊢
  have G : xG p s m _ meth c cX6_count 2 RX6 (some .int) wsX6_count (dC, dI) (tyA cyI cyJ cyZ) r A := G
  obtain ⟨hx, hb, hml, hown, hts, hr, hlocks, hK, hE, hA⟩ := id G
  have hl := lv_entry ([.ref (b 0), .int x1]) (n := 2) (Nat.le_of_ble_eq_true rfl)
  rw [lg_entry_eq]
  generalize (lg_sl ([.ref (b 0), .int x1]) ++ List.replicate (2 - (lg_sl ([.ref (b 0), .int x1])).length) Slot.unset).toArray = ls at hl ⊢
  have hl : lv_has ls 2 [(0, .ref (b 0)), (1, .int x1)] := hl
  show W p l e { frames := 1, cells := 0, slots := 0, locals := 21 } s m _ below meth c s.heap [] 0 0 _ _
  unfold p_X6_count at h
  refine lv_aload_n hx hb dX6_count_0 rfl (lv_at hl 0 rfl) ?_
  refine lv_iload_n hx hb dX6_count_1 rfl (lv_at hl 1 rfl) ?_
  refine lv_iconst (v := 4) hx hb dX6_count_2 (by decide) ?_
  refine xc_Si (wf := wM cyI cyJ cyZ b) (wr := []) (isC := [0, 1, 2, 3, 4, 5, 6, 7, 8, 9, 10, 11, 12, 13, 14, 15, 16, 17, 18, 19, 20]) (isR := []) (As := [.int x1, .int (4 : Int32)]) (rest := [.ref (b 0)]) ⟨hx, hb, hml, hown, hts⟩ (t_X6_isIn h) (va_cwS 2 hts gX6_count_X6_isIn rfl rfl rfl (by decide +kernel) ⟨Nat.le_of_ble_eq_true rfl, Nat.le_of_ble_eq_true rfl⟩) ⟨hK, hE, hA, hP, hD, hS, rfl, rfl, rfl, rfl, by decide⟩ rfl rfl hl.1 (Nat.le_of_ble_eq_true rfl) dX6_count_3 ⟨Nat.le_of_ble_eq_true rfl, Nat.le_of_ble_eq_true rfl⟩ (fun r1 S2 H locs h hP hD hS => ?_)
  obtain ⟨rfl, h⟩ := h
  have hP : va_P (dC, dI) vwCl (wM cyI cyJ cyZ b M) H := hP
  have hD : va_D A (wM cyI cyJ cyZ b M) := hD
  refine lv_if_eq (tgt := 13) hx hb dX6_count_6 (by decide) (fun c3 => ?_) (fun c3 => ?_)
  · have h := h.1 c3
    refine lv_iconst (v := 1) hx hb dX6_count_13 (by decide) ?_
    exact t_X6_count_14 G h hP hD hS (lv_sub hl [0, 1] rfl)
  · have h := h.2 c3
    refine lv_iconst (v := 0) hx hb dX6_count_9 (by decide) ?_
    refine lv_goto (tgt := 14) hx hb dX6_count_10 (by decide) ?_
    exact t_X6_count_14 G h hP hD hS (lv_sub hl [0, 1] rfl)
def p_X6_clear (M : MS) (post : MS → Prop) : Prop := ∀ M1 : MS, M1 = (mTH_s M (0 : Int32)) → (∀ M2 : MS, M2 = (mND_s M1 (0 : Int32)) → (∀ M3 : MS, M3 = (mIP_s M2 (0 : Int32)) → (∀ M4 : MS, M4 = (mAN_s M3 (0 : Int32)) → (∀ M5 : MS, M5 = (mOU_s M4 (0 : Int32)) → (∀ M6 : MS, M6 = (mCE_s M5 (0 : Int32)) → (∀ M7 : MS, M7 = (mSL_s M6 (1 : Int32)) → (post M7)))))))
set_option maxHeartbeats 1000000 in
set_option maxRecDepth 100000 in
theorem t_X6_clear {l : Launch} {dC : Nat → ClassId} {dI : Nat → Nat → Nat} {cyI cyJ cyZ : ClassId} {r : Nat → Nat} {b : Nat → Nat} {M : MS} {post : MS → Prop} (h : p_X6_clear M post) : xMv l yX6_clear wsX6_clear { frames := 0, cells := 0, slots := 0, locals := 0 } (dC, dI) (tyA cyI cyJ cyZ) r (wM cyI cyJ cyZ b) [.ref (b 0)] M post 0 0 := by
  intro sz
  refine Met.ofW (cc := cX6_clear) (maxL := 1) (ret := none) (by decide) rfl ?_
  intro p e s m args below meth c s₁ B hml hv
  obtain ⟨rfl, G, hP, hD, hS⟩ := xG.of rfl B hml hv
  generalize hAe : va_A (wM cyI cyJ cyZ b M) sz = A at G hD hS ⊢
  have G : xG p s m _ meth c cX6_clear 1 RX6 none wsX6_clear (dC, dI) (tyA cyI cyJ cyZ) r A := G
  obtain ⟨hx, hb, hml, hown, hts, hr, hlocks, hK, hE, hA⟩ := id G
  have hiX6 : ∀ w ∈ wsX60, w ∈ wsX6_clear := by decide +kernel
  have hf75 := hts (.fieldLink RX6 75 "CellMappingModel" "thrown" "I") (by decide +kernel)
  have hf79 := hts (.fieldLink RX6 79 "CellMappingModel" "nodes" "I") (by decide +kernel)
  have hf86 := hts (.fieldLink RX6 86 "CellMappingModel" "inputs" "I") (by decide +kernel)
  have hf97 := hts (.fieldLink RX6 97 "CellMappingModel" "ands" "I") (by decide +kernel)
  have hf104 := hts (.fieldLink RX6 104 "CellMappingModel" "outputs" "I") (by decide +kernel)
  have hf145 := hts (.fieldLink RX6 145 "CellMappingModel" "cells" "I") (by decide +kernel)
  have hf89 := hts (.fieldLink RX6 89 "CellMappingModel" "stale" "Z") (by decide +kernel)
  have hl := lv_entry ([.ref (b 0)]) (n := 1) (Nat.le_of_ble_eq_true rfl)
  rw [lg_entry_eq]
  generalize (lg_sl ([.ref (b 0)]) ++ List.replicate (1 - (lg_sl ([.ref (b 0)])).length) Slot.unset).toArray = ls at hl ⊢
  have hl : lv_has ls 1 [(0, .ref (b 0))] := hl
  show W p l e { frames := 0, cells := 0, slots := 0, locals := 0 } s m _ below meth c s.heap [] 0 0 _ _
  unfold p_X6_clear at h
  refine lv_aload_n hx hb dX6_clear_0 rfl (lv_at hl 0 rfl) ?_
  refine lv_iconst (v := 0) hx hb dX6_clear_1 (by decide) ?_
  refine va_put (D := (dC, dI)) (ci := 5) (v := .int (0 : Int32)) (ty := .int) (C := RX6) (T := TX6) (N := 27) hx hb hts hiX6 tyX6 tyX6_ok nmX6 hown hK hP hD hS 0 rfl rfl 0 (by decide) hf75 (fun _ h9 => h9) rfl (by decide +kernel) rfl rfl (Nat.le_of_ble_eq_true rfl) dX6_clear_2 (fun H locs hP hD hS => ?_)
  obtain ⟨M1, eM1⟩ : ∃ z : MS, z = (mTH_s M (0 : Int32)) := ⟨_, rfl⟩
  have h := h M1 eM1
  have hP := nP_mTH eM1 hP
  have hD := nD_mTH eM1 hD
  refine lv_aload_n hx hb dX6_clear_5 rfl (lv_at hl 0 rfl) ?_
  refine lv_iconst (v := 0) hx hb dX6_clear_6 (by decide) ?_
  refine va_put (D := (dC, dI)) (ci := 5) (v := .int (0 : Int32)) (ty := .int) (C := RX6) (T := TX6) (N := 27) hx hb hts hiX6 tyX6 tyX6_ok nmX6 hown hK hP hD hS 0 rfl rfl 1 (by decide) hf79 (fun _ h9 => h9) rfl (by decide +kernel) rfl rfl (Nat.le_of_ble_eq_true rfl) dX6_clear_7 (fun H locs hP hD hS => ?_)
  obtain ⟨M2, eM2⟩ : ∃ z : MS, z = (mND_s M1 (0 : Int32)) := ⟨_, rfl⟩
  have h := h M2 eM2
  have hP := nP_mND eM2 hP
  have hD := nD_mND eM2 hD
  refine lv_aload_n hx hb dX6_clear_10 rfl (lv_at hl 0 rfl) ?_
  refine lv_iconst (v := 0) hx hb dX6_clear_11 (by decide) ?_
  refine va_put (D := (dC, dI)) (ci := 5) (v := .int (0 : Int32)) (ty := .int) (C := RX6) (T := TX6) (N := 27) hx hb hts hiX6 tyX6 tyX6_ok nmX6 hown hK hP hD hS 0 rfl rfl 2 (by decide) hf86 (fun _ h9 => h9) rfl (by decide +kernel) rfl rfl (Nat.le_of_ble_eq_true rfl) dX6_clear_12 (fun H locs hP hD hS => ?_)
  obtain ⟨M3, eM3⟩ : ∃ z : MS, z = (mIP_s M2 (0 : Int32)) := ⟨_, rfl⟩
  have h := h M3 eM3
  have hP := nP_mIP eM3 hP
  have hD := nD_mIP eM3 hD
  refine lv_aload_n hx hb dX6_clear_15 rfl (lv_at hl 0 rfl) ?_
  refine lv_iconst (v := 0) hx hb dX6_clear_16 (by decide) ?_
  refine va_put (D := (dC, dI)) (ci := 5) (v := .int (0 : Int32)) (ty := .int) (C := RX6) (T := TX6) (N := 27) hx hb hts hiX6 tyX6 tyX6_ok nmX6 hown hK hP hD hS 0 rfl rfl 3 (by decide) hf97 (fun _ h9 => h9) rfl (by decide +kernel) rfl rfl (Nat.le_of_ble_eq_true rfl) dX6_clear_17 (fun H locs hP hD hS => ?_)
  obtain ⟨M4, eM4⟩ : ∃ z : MS, z = (mAN_s M3 (0 : Int32)) := ⟨_, rfl⟩
  have h := h M4 eM4
  have hP := nP_mAN eM4 hP
  have hD := nD_mAN eM4 hD
  refine lv_aload_n hx hb dX6_clear_20 rfl (lv_at hl 0 rfl) ?_
  refine lv_iconst (v := 0) hx hb dX6_clear_21 (by decide) ?_
  refine va_put (D := (dC, dI)) (ci := 5) (v := .int (0 : Int32)) (ty := .int) (C := RX6) (T := TX6) (N := 27) hx hb hts hiX6 tyX6 tyX6_ok nmX6 hown hK hP hD hS 0 rfl rfl 8 (by decide) hf104 (fun _ h9 => h9) rfl (by decide +kernel) rfl rfl (Nat.le_of_ble_eq_true rfl) dX6_clear_22 (fun H locs hP hD hS => ?_)
  obtain ⟨M5, eM5⟩ : ∃ z : MS, z = (mOU_s M4 (0 : Int32)) := ⟨_, rfl⟩
  have h := h M5 eM5
  have hP := nP_mOU eM5 hP
  have hD := nD_mOU eM5 hD
  refine lv_aload_n hx hb dX6_clear_25 rfl (lv_at hl 0 rfl) ?_
  refine lv_iconst (v := 0) hx hb dX6_clear_26 (by decide) ?_
  refine va_put (D := (dC, dI)) (ci := 5) (v := .int (0 : Int32)) (ty := .int) (C := RX6) (T := TX6) (N := 27) hx hb hts hiX6 tyX6 tyX6_ok nmX6 hown hK hP hD hS 0 rfl rfl 10 (by decide) hf145 (fun _ h9 => h9) rfl (by decide +kernel) rfl rfl (Nat.le_of_ble_eq_true rfl) dX6_clear_27 (fun H locs hP hD hS => ?_)
  obtain ⟨M6, eM6⟩ : ∃ z : MS, z = (mCE_s M5 (0 : Int32)) := ⟨_, rfl⟩
  have h := h M6 eM6
  have hP := nP_mCE eM6 hP
  have hD := nD_mCE eM6 hD
  refine lv_aload_n hx hb dX6_clear_30 rfl (lv_at hl 0 rfl) ?_
  refine lv_iconst (v := 1) hx hb dX6_clear_31 (by decide) ?_
  refine va_put (D := (dC, dI)) (ci := 5) (v := .int (1 : Int32)) (ty := .boolean) (C := RX6) (T := TX6) (N := 27) hx hb hts hiX6 tyX6 tyX6_ok nmX6 hown hK hP hD hS 0 rfl rfl 18 (by decide) hf89 (fun _ h9 => h9) rfl (by decide +kernel) rfl rfl (Nat.le_of_ble_eq_true rfl) dX6_clear_32 (fun H locs hP hD hS => ?_)
  obtain ⟨M7, eM7⟩ : ∃ z : MS, z = (mSL_s M6 (1 : Int32)) := ⟨_, rfl⟩
  have h := h M7 eM7
  have hP := nP_mSL eM7 hP
  have hD := nD_mSL eM7 hD
  exact xr_v (S := M7) hx hb hr hlocks hK hP hD hS h (Nat.le_of_ble_eq_true rfl) (Nat.le_of_ble_eq_true rfl) dX6_clear_35
