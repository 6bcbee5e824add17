def b_X6_isBefore_29 (M : MS) (x1 : Int32) (x3 : Int32) (post : Int32 → Prop) (g29 : Int32 → Prop) (x4 : Int32) : Prop := (x3 ≤ x4 → (post (0 : Int32))) ∧ (¬ x3 ≤ x4 → (vp_in x4 3 ∧ (vp_in (((3 : Int32) * x1) + x4) 192 ∧ ((((mTD M) x4.toNatClampNeg) = ((mGP M) (((3 : Int32) * x1) + x4).toNatClampNeg) → (∀ y7 : Int32, y7 = (x4 + (1 : Int32)) → (g29 y7))) ∧ (¬ ((mTD M) x4.toNatClampNeg) = ((mGP M) (((3 : Int32) * x1) + x4).toNatClampNeg) → (vp_in x4 3 ∧ (vp_in (((3 : Int32) * x1) + x4) 192 ∧ ((((mGP M) (((3 : Int32) * x1) + x4).toNatClampNeg) ≤ ((mTD M) x4.toNatClampNeg) → (post (0 : Int32))) ∧ (¬ ((mGP M) (((3 : Int32) * x1) + x4).toNatClampNeg) ≤ ((mTD M) x4.toNatClampNeg) → (post (1 : Int32)))))))))))
def p_X6_isBefore_29 (M : MS) (x1 : Int32) (x3 : Int32) (x4 : Int32) (post : Int32 → Prop) : Prop := ∃ (I : Int32 → Prop) (mu : Int32 → Nat), I x4 ∧ ∀ (x4 : Int32), I x4 → b_X6_isBefore_29 M x1 x3 post (fun x4' => I x4' ∧ mu x4' < mu x4) x4
set_option maxHeartbeats 1000000 in
set_option maxRecDepth 100000 in
theorem t_X6_isBefore_29 {p : Program} {l : Launch} {e : Env} {s : State} {m : MethodId} {args : Array Value} {below : List Frame} {meth : Method} {c : Code} {dC : Nat → ClassId} {dI : Nat → Nat → Nat} {cyI cyJ cyZ : ClassId} {r : Nat → Nat} {b : Nat → Nat} {A : Nat → Prop} {M : MS} {x1 : Int32} {x3 : Int32} {x4 : Int32} {post : Int32 → Prop} (G : xG p s m args meth c cX6_isBefore 5 RX6 (some .boolean) wsX6_isBefore (dC, dI) (tyA cyI cyJ cyZ) r A) (h : p_X6_isBefore_29 M x1 x3 x4 post) {H : Heap} {locs : List Loc} {ls : Array Slot} (hP : va_P (dC, dI) vwCl (wM cyI cyJ cyZ b M) H) (hD : va_D A (wM cyI cyJ cyZ b M)) (hS : va_S A s.heap H locs) (hl : lv_has ls 5 [(0, .ref (b 0)), (1, .int x1), (3, .int x3), (4, .int x4)]) : W p l e { frames := 0, cells := 0, slots := 0, locals := 0 } s m args below meth c H locs 0 0 (MQ below (va_Qi (fun x u => M = u ∧ post x) (xAt (dC, dI) (tyA cyI cyJ cyZ) (wM cyI cyJ cyZ b) A) A) args s 0 0 A) (F0 m 29 ls []) := by
  obtain ⟨hx, hb, hml, hown, hts, hr, hlocks, hK, hE, hA⟩ := id G
  have hiX6 : ∀ w ∈ wsX60, w ∈ wsX6_isBefore := by decide +kernel
  have hf69 := hts (.fieldLink RX6 69 "CellMappingModel" "tried" "[I") (by decide +kernel)
  have hf56 := hts (.fieldLink RX6 56 "CellMappingModel" "gatePins" "[I") (by decide +kernel)
  obtain ⟨I, mu, h0, hstep⟩ := h
  suffices hgo : ∀ (n : Nat) (x4 : Int32), I x4 → mu x4 < n → ∀ (H : Heap) (locs : List Loc) (ls : Array Slot), va_P (dC, dI) vwCl (wM cyI cyJ cyZ b M) H → va_D A (wM cyI cyJ cyZ b M) → va_S A s.heap H locs → lv_has ls 5 [(0, .ref (b 0)), (1, .int x1), (3, .int x3), (4, .int x4)] → W p l e { frames := 0, cells := 0, slots := 0, locals := 0 } s m args below meth c H locs 0 0 (MQ below (va_Qi (fun x u => M = u ∧ post x) (xAt (dC, dI) (tyA cyI cyJ cyZ) (wM cyI cyJ cyZ b) A) A) args s 0 0 A) (F0 m 29 ls []) from hgo (mu x4 + 1) x4 h0 (Nat.lt_succ_self _) H locs ls hP hD hS hl
  clear h0 hP hD hS hl
  intro n
  induction n with
  | zero => intro x4 _ h; exact absurd h (Nat.not_lt_zero _)
  | succ n ih =>
    intro x4 hI hmu H locs ls hP hD hS hl
    have h := hstep x4 hI
    unfold b_X6_isBefore_29 at h
    have k29 : ∀ (x4' : Int32) (H : Heap) (locs : List Loc) (ls : Array Slot), (fun x4' => I x4' ∧ mu x4' < mu x4) x4' → va_P (dC, dI) vwCl (wM cyI cyJ cyZ b M) H → va_D A (wM cyI cyJ cyZ b M) → va_S A s.heap H locs → lv_has ls 5 [(0, .ref (b 0)), (1, .int x1), (3, .int x3), (4, .int x4')] → W p l e { frames := 0, cells := 0, slots := 0, locals := 0 } s m args below meth c H locs 0 0 (MQ below (va_Qi (fun x u => M = u ∧ post x) (xAt (dC, dI) (tyA cyI cyJ cyZ) (wM cyI cyJ cyZ b) A) A) args s 0 0 A) (F0 m 29 ls []) := fun x4' H locs ls hh hP hD hS hl => ih x4' hh.1 (Nat.lt_of_lt_of_le hh.2 (Nat.le_of_lt_succ hmu)) H locs ls hP hD hS hl
    generalize (fun x4' => I x4' ∧ mu x4' < mu x4) = g29 at h k29
    refine lv_iload hx hb dX6_isBefore_29 (lv_at hl 3 rfl) ?_
    refine lv_iload_n hx hb dX6_isBefore_31 rfl (lv_at hl 2 rfl) ?_
    refine lv_icmp_ge (tgt := 89) hx hb dX6_isBefore_32 (by decide) (fun c3 => ?_) (fun c3 => ?_)
    · have h := h.1 c3
      refine lv_iconst (v := 0) hx hb dX6_isBefore_89 (by decide) ?_
      exact xr_z (S := M) hx hb hr hlocks hK hP hD hS (by decide) ⟨rfl, h⟩ (Nat.le_of_ble_eq_true rfl) (Nat.le_of_ble_eq_true rfl) dX6_isBefore_90
    · have h := h.2 c3
      refine lv_aload_n hx hb dX6_isBefore_35 rfl (lv_at hl 0 rfl) ?_
      refine va_get (D := (dC, dI)) (ci := 5) (v := .ref (b 20)) (C := RX6) (T := TX6) (N := 27) hx hb hts hiX6 hown hK hP 0 rfl rfl 26 (by decide) hf69 (fun _ h9 => h9) rfl dX6_isBefore_36 ?_
      refine lv_iload hx hb dX6_isBefore_39 (lv_at hl 3 rfl) ?_
      obtain ⟨i4, h⟩ := h
      refine va_iald (D := (dC, dI)) hx hb hK hP 20 0 rfl rfl i4 dX6_isBefore_41 ?_
      refine lv_aload_n hx hb dX6_isBefore_42 rfl (lv_at hl 0 rfl) ?_
      refine va_get (D := (dC, dI)) (ci := 5) (v := .ref (b 16)) (C := RX6) (T := TX6) (N := 27) hx hb hts hiX6 hown hK hP 0 rfl rfl 22 (by decide) hf56 (fun _ h9 => h9) rfl dX6_isBefore_43 ?_
      refine lv_iconst (v := 3) hx hb dX6_isBefore_46 (by decide) ?_
      refine lv_iload_n hx hb dX6_isBefore_47 rfl (lv_at hl 1 rfl) ?_
      refine lv_imul hx hb dX6_isBefore_48 ?_
      refine lv_iload hx hb dX6_isBefore_49 (lv_at hl 3 rfl) ?_
      refine lv_iadd hx hb dX6_isBefore_51 ?_
      obtain ⟨i5, h⟩ := h
      refine va_iald (D := (dC, dI)) hx hb hK hP 16 0 rfl rfl i5 dX6_isBefore_52 ?_
      refine lv_icmp_eq (tgt := 83) hx hb dX6_isBefore_53 (by decide) (fun c6 => ?_) (fun c6 => ?_)
      · have h := h.1 c6
        obtain ⟨y7, ey7⟩ : ∃ z : Int32, z = (x4 + (1 : Int32)) := ⟨_, rfl⟩
        have h := h y7 ey7
        refine lv_iinc (v := y7) (lv' := [(4, .int y7), (0, .ref (b 0)), (1, .int x1), (3, .int x3)]) hx hb dX6_isBefore_83 hl (k := 3) rfl (by rw [ey7]; rfl) (by decide) rfl (fun ls hl => ?_)
        refine lv_goto (tgt := 29) hx hb dX6_isBefore_86 (by decide) ?_
        exact k29 y7 H locs ls h hP hD hS (lv_sub hl [1, 2, 3, 0] rfl)
      · have h := h.2 c6
        refine lv_aload_n hx hb dX6_isBefore_56 rfl (lv_at hl 0 rfl) ?_
        refine va_get (D := (dC, dI)) (ci := 5) (v := .ref (b 20)) (C := RX6) (T := TX6) (N := 27) hx hb hts hiX6 hown hK hP 0 rfl rfl 26 (by decide) hf69 (fun _ h9 => h9) rfl dX6_isBefore_57 ?_
        refine lv_iload hx hb dX6_isBefore_60 (lv_at hl 3 rfl) ?_
        obtain ⟨i8, h⟩ := h
        refine va_iald (D := (dC, dI)) hx hb hK hP 20 0 rfl rfl i8 dX6_isBefore_62 ?_
        refine lv_aload_n hx hb dX6_isBefore_63 rfl (lv_at hl 0 rfl) ?_
        refine va_get (D := (dC, dI)) (ci := 5) (v := .ref (b 16)) (C := RX6) (T := TX6) (N := 27) hx hb hts hiX6 hown hK hP 0 rfl rfl 22 (by decide) hf56 (fun _ h9 => h9) rfl dX6_isBefore_64 ?_
        refine lv_iconst (v := 3) hx hb dX6_isBefore_67 (by decide) ?_
        refine lv_iload_n hx hb dX6_isBefore_68 rfl (lv_at hl 1 rfl) ?_
        refine lv_imul hx hb dX6_isBefore_69 ?_
        refine lv_iload hx hb dX6_isBefore_70 (lv_at hl 3 rfl) ?_
        refine lv_iadd hx hb dX6_isBefore_72 ?_
        obtain ⟨i9, h⟩ := h
        refine va_iald (D := (dC, dI)) hx hb hK hP 16 0 rfl rfl i9 dX6_isBefore_73 ?_
        refine lv_icmp_ge (tgt := 81) hx hb dX6_isBefore_74 (by decide) (fun c10 => ?_) (fun c10 => ?_)
        · have h := h.1 c10
          refine lv_iconst (v := 0) hx hb dX6_isBefore_81 (by decide) ?_
          exact xr_z (S := M) hx hb hr hlocks hK hP hD hS (by decide) ⟨rfl, h⟩ (Nat.le_of_ble_eq_true rfl) (Nat.le_of_ble_eq_true rfl) dX6_isBefore_82
        · have h := h.2 c10
          refine lv_iconst (v := 1) hx hb dX6_isBefore_77 (by decide) ?_
          refine lv_goto (tgt := 82) hx hb dX6_isBefore_78 (by decide) ?_
          exact xr_z (S := M) hx hb hr hlocks hK hP hD hS (by decide) ⟨rfl, h⟩ (Nat.le_of_ble_eq_true rfl) (Nat.le_of_ble_eq_true rfl) dX6_isBefore_82
def p_X6_isBefore (M : MS) (x1 : Int32) (x2 : Int32) (x3 : Int32) (post : Int32 → Prop) : Prop := vp_in x1 64 ∧ ((((mGA M) x1.toNatClampNeg) = x2 → (p_X6_isBefore_29 M x1 x3 (0 : Int32) post)) ∧ (¬ ((mGA M) x1.toNatClampNeg) = x2 → (vp_in x1 64 ∧ ((((mGA M) x1.toNatClampNeg) ≤ x2 → (post (0 : Int32))) ∧ (¬ ((mGA M) x1.toNatClampNeg) ≤ x2 → (post (1 : Int32)))))))
set_option maxHeartbeats 1000000 in
set_option maxRecDepth 100000 in
theorem t_X6_isBefore {l : Launch} {dC : Nat → ClassId} {dI : Nat → Nat → Nat} {cyI cyJ cyZ : ClassId} {r : Nat → Nat} {b : Nat → Nat} {M : MS} {x1 : Int32} {x2 : Int32} {x3 : Int32} {post : Int32 → Prop} (h : p_X6_isBefore M x1 x2 x3 post) : xMi l yX6_isBefore wsX6_isBefore { frames := 0, cells := 0, slots := 0, locals := 0 } (dC, dI) (tyA cyI cyJ cyZ) r (wM cyI cyJ cyZ b) [.ref (b 0), .int x1, .int x2, .int x3] M (fun x u => M = u ∧ post x) 0 0 := by
  intro sz
  refine Met.ofW (cc := cX6_isBefore) (maxL := 5) (ret := (some .boolean)) (by decide) rfl ?_
  intro p e s m args below meth c s₁ B hml hv
  obtain ⟨rfl, G, hP, hD, hS⟩ := xG.of rfl B hml hv
  generalize hAe : va_A (wM cyI cyJ cyZ b M) sz = A at G hD hS ⊢
  have G : xG p s m _ meth c cX6_isBefore 5 RX6 (some .boolean) wsX6_isBefore (dC, dI) (tyA cyI cyJ cyZ) r A := G
  obtain ⟨hx, hb, hml, hown, hts, hr, hlocks, hK, hE, hA⟩ := id G
  have hiX6 : ∀ w ∈ wsX60, w ∈ wsX6_isBefore := by decide +kernel
  have hf53 := hts (.fieldLink RX6 53 "CellMappingModel" "gates" "[I") (by decide +kernel)
  have hl := lv_entry ([.ref (b 0), .int x1, .int x2, .int x3]) (n := 5) (Nat.le_of_ble_eq_true rfl)
  rw [lg_entry_eq]
  generalize (lg_sl ([.ref (b 0), .int x1, .int x2, .int x3]) ++ List.replicate (5 - (lg_sl ([.ref (b 0), .int x1, .int x2, .int x3])).length) Slot.unset).toArray = ls at hl ⊢
  have hl : lv_has ls 5 [(0, .ref (b 0)), (1, .int x1), (2, .int x2), (3, .int x3)] := hl
  show W p l e { frames := 0, cells := 0, slots := 0, locals := 0 } s m _ below meth c s.heap [] 0 0 _ _
  unfold p_X6_isBefore at h
  refine lv_aload_n hx hb dX6_isBefore_0 rfl (lv_at hl 0 rfl) ?_
  refine va_get (D := (dC, dI)) (ci := 5) (v := .ref (b 15)) (C := RX6) (T := TX6) (N := 27) hx hb hts hiX6 hown hK hP 0 rfl rfl 21 (by decide) hf53 (fun _ h9 => h9) rfl dX6_isBefore_1 ?_
  refine lv_iload_n hx hb dX6_isBefore_4 rfl (lv_at hl 1 rfl) ?_
  obtain ⟨i1, h⟩ := h
  refine va_iald (D := (dC, dI)) hx hb hK hP 15 0 rfl rfl i1 dX6_isBefore_5 ?_
  refine lv_iload_n hx hb dX6_isBefore_6 rfl (lv_at hl 2 rfl) ?_
  refine lv_icmp_eq (tgt := 26) hx hb dX6_isBefore_7 (by decide) (fun c2 => ?_) (fun c2 => ?_)
  · have h := h.1 c2
    refine lv_iconst (v := 0) hx hb dX6_isBefore_26 (by decide) ?_
    refine lv_istore (lv' := [(4, .int (0 : Int32)), (0, .ref (b 0)), (1, .int x1), (2, .int x2), (3, .int x3)]) hx hb dX6_isBefore_27 hl (by decide) rfl (fun ls hl => ?_)
    exact t_X6_isBefore_29 G h hP hD hS (lv_sub hl [1, 2, 4, 0] rfl)
  · have h := h.2 c2
    refine lv_iload_n hx hb dX6_isBefore_10 rfl (lv_at hl 2 rfl) ?_
    refine lv_aload_n hx hb dX6_isBefore_11 rfl (lv_at hl 0 rfl) ?_
    refine va_get (D := (dC, dI)) (ci := 5) (v := .ref (b 15)) (C := RX6) (T := TX6) (N := 27) hx hb hts hiX6 hown hK hP 0 rfl rfl 21 (by decide) hf53 (fun _ h9 => h9) rfl dX6_isBefore_12 ?_
    refine lv_iload_n hx hb dX6_isBefore_15 rfl (lv_at hl 1 rfl) ?_
    obtain ⟨i11, h⟩ := h
    refine va_iald (D := (dC, dI)) hx hb hK hP 15 0 rfl rfl i11 dX6_isBefore_16 ?_
    refine lv_icmp_ge (tgt := 24) hx hb dX6_isBefore_17 (by decide) (fun c12 => ?_) (fun c12 => ?_)
    · have h := h.1 c12
      refine lv_iconst (v := 0) hx hb dX6_isBefore_24 (by decide) ?_
      exact xr_z (S := M) hx hb hr hlocks hK hP hD hS (by decide) ⟨rfl, h⟩ (Nat.le_of_ble_eq_true rfl) (Nat.le_of_ble_eq_true rfl) dX6_isBefore_25
    · have h := h.2 c12
      refine lv_iconst (v := 1) hx hb dX6_isBefore_20 (by decide) ?_
      refine lv_goto (tgt := 25) hx hb dX6_isBefore_21 (by decide) ?_
      exact xr_z (S := M) hx hb hr hlocks hK hP hD hS (by decide) ⟨rfl, h⟩ (Nat.le_of_ble_eq_true rfl) (Nat.le_of_ble_eq_true rfl) dX6_isBefore_25
def b_X6_enter_143 (x1 : Int32) (x3 : Int32) (post : MS → Prop) (g143 : MS → Int32 → Prop) (M : MS) (x6 : Int32) : Prop := ((3 : Int32) ≤ x6 → (post M)) ∧ (¬ (3 : Int32) ≤ x6 → ((x3 ≤ x6 → (vp_in (((3 : Int32) * x1) + x6) 192 ∧ (∀ M12 : MS, M12 = (mGP_s M (upd (mGP M) (((3 : Int32) * x1) + x6).toNatClampNeg (-1 : Int32))) → (∀ y13 : Int32, y13 = (x6 + (1 : Int32)) → (g143 M12 y13))))) ∧ (¬ x3 ≤ x6 → (vp_in x6 3 ∧ (vp_in (((3 : Int32) * x1) + x6) 192 ∧ (∀ M16 : MS, M16 = (mGP_s M (upd (mGP M) (((3 : Int32) * x1) + x6).toNatClampNeg ((mTD M) x6.toNatClampNeg))) → (∀ y17 : Int32, y17 = (x6 + (1 : Int32)) → (g143 M16 y17))))))))
def p_X6_enter_143 (M : MS) (x1 : Int32) (x3 : Int32) (x6 : Int32) (post : MS → Prop) : Prop := ∃ (I : MS → Int32 → Prop) (mu : MS → Int32 → Nat), I M x6 ∧ ∀ (M : MS) (x6 : Int32), I M x6 → b_X6_enter_143 x1 x3 post (fun M' x6' => I M' x6' ∧ mu M' x6' < mu M x6) M x6
set_option maxHeartbeats 1000000 in
set_option maxRecDepth 100000 in
theorem t_X6_enter_143 {p : Program} {l : Launch} {e : Env} {s : State} {m : MethodId} {args : Array Value} {below : List Frame} {meth : Method} {c : Code} {dC : Nat → ClassId} {dI : Nat → Nat → Nat} {cyI cyJ cyZ : ClassId} {r : Nat → Nat} {b : Nat → Nat} {A : Nat → Prop} {M : MS} {x1 : Int32} {x3 : Int32} {x6 : Int32} {post : MS → Prop} (G : xG p s m args meth c cX6_enter 8 RX6 none wsX6_enter (dC, dI) (tyA cyI cyJ cyZ) r A) (h : p_X6_enter_143 M x1 x3 x6 post) {H : Heap} {locs : List Loc} {ls : Array Slot} (hP : va_P (dC, dI) vwCl (wM cyI cyJ cyZ b M) H) (hD : va_D A (wM cyI cyJ cyZ b M)) (hS : va_S A s.heap H locs) (hl : lv_has ls 8 [(0, .ref (b 0)), (1, .int x1), (3, .int x3), (6, .int x6)]) : W p l e { frames := 1, cells := 0, slots := 0, locals := 24 } s m args below meth c H locs 0 0 (MQ below (va_Qv post (xAt (dC, dI) (tyA cyI cyJ cyZ) (wM cyI cyJ cyZ b) A) A) args s 0 0 A) (F0 m 143 ls []) := by
  obtain ⟨hx, hb, hml, hown, hts, hr, hlocks, hK, hE, hA⟩ := id G
  have hiX6 : ∀ w ∈ wsX60, w ∈ wsX6_enter := by decide +kernel
  have hf56 := hts (.fieldLink RX6 56 "CellMappingModel" "gatePins" "[I") (by decide +kernel)
  have hf69 := hts (.fieldLink RX6 69 "CellMappingModel" "tried" "[I") (by decide +kernel)
  obtain ⟨I, mu, h0, hstep⟩ := h
  suffices hgo : ∀ (n : Nat) (M : MS) (x6 : Int32), I M x6 → mu M x6 < n → ∀ (H : Heap) (locs : List Loc) (ls : Array Slot), va_P (dC, dI) vwCl (wM cyI cyJ cyZ b M) H → va_D A (wM cyI cyJ cyZ b M) → va_S A s.heap H locs → lv_has ls 8 [(0, .ref (b 0)), (1, .int x1), (3, .int x3), (6, .int x6)] → W p l e { frames := 1, cells := 0, slots := 0, locals := 24 } s m args below meth c H locs 0 0 (MQ below (va_Qv post (xAt (dC, dI) (tyA cyI cyJ cyZ) (wM cyI cyJ cyZ b) A) A) args s 0 0 A) (F0 m 143 ls []) from hgo (mu M x6 + 1) M x6 h0 (Nat.lt_succ_self _) H locs ls hP hD hS hl
  clear h0 hP hD hS hl
  intro n
  induction n with
  | zero => intro M x6 _ h; exact absurd h (Nat.not_lt_zero _)
  | succ n ih =>
    intro M x6 hI hmu H locs ls hP hD hS hl
    have h := hstep M x6 hI
    unfold b_X6_enter_143 at h
    have k143 : ∀ (M' : MS) (x6' : Int32) (H : Heap) (locs : List Loc) (ls : Array Slot), (fun M' x6' => I M' x6' ∧ mu M' x6' < mu M x6) M' x6' → va_P (dC, dI) vwCl (wM cyI cyJ cyZ b M') H → va_D A (wM cyI cyJ cyZ b M') → va_S A s.heap H locs → lv_has ls 8 [(0, .ref (b 0)), (1, .int x1), (3, .int x3), (6, .int x6')] → W p l e { frames := 1, cells := 0, slots := 0, locals := 24 } s m args below meth c H locs 0 0 (MQ below (va_Qv post (xAt (dC, dI) (tyA cyI cyJ cyZ) (wM cyI cyJ cyZ b) A) A) args s 0 0 A) (F0 m 143 ls []) := fun M' x6' H locs ls hh hP hD hS hl => ih M' x6' hh.1 (Nat.lt_of_lt_of_le hh.2 (Nat.le_of_lt_succ hmu)) H locs ls hP hD hS hl
    generalize (fun M' x6' => I M' x6' ∧ mu M' x6' < mu M x6) = g143 at h k143
    refine lv_iload hx hb dX6_enter_143 (lv_at hl 3 rfl) ?_
    refine lv_iconst (v := 3) hx hb dX6_enter_145 (by decide) ?_
    refine lv_icmp_ge (tgt := 183) hx hb dX6_enter_146 (by decide) (fun c9 => ?_) (fun c9 => ?_)
    · have h := h.1 c9
      exact xr_v (S := M) hx hb hr hlocks hK hP hD hS h (Nat.le_of_ble_eq_true rfl) (Nat.le_of_ble_eq_true rfl) dX6_enter_183
    · have h := h.2 c9
      refine lv_aload_n hx hb dX6_enter_149 rfl (lv_at hl 0 rfl) ?_
      refine va_get (D := (dC, dI)) (ci := 5) (v := .ref (b 16)) (C := RX6) (T := TX6) (N := 27) hx hb hts hiX6 hown hK hP 0 rfl rfl 22 (by decide) hf56 (fun _ h9 => h9) rfl dX6_enter_150 ?_
      refine lv_iconst (v := 3) hx hb dX6_enter_153 (by decide) ?_
      refine lv_iload_n hx hb dX6_enter_154 rfl (lv_at hl 1 rfl) ?_
      refine lv_imul hx hb dX6_enter_155 ?_
      refine lv_iload hx hb dX6_enter_156 (lv_at hl 3 rfl) ?_
      refine lv_iadd hx hb dX6_enter_158 ?_
      refine lv_iload hx hb dX6_enter_159 (lv_at hl 3 rfl) ?_
      refine lv_iload_n hx hb dX6_enter_161 rfl (lv_at hl 2 rfl) ?_
      refine lv_icmp_ge (tgt := 175) hx hb dX6_enter_162 (by decide) (fun c10 => ?_) (fun c10 => ?_)
      · have h := h.1 c10
        refine lv_iconst (v := -1) hx hb dX6_enter_175 (by decide) ?_
        obtain ⟨i11, h⟩ := h
        refine va_iast (D := (dC, dI)) hx hb hK hP hD hS 16 0 rfl rfl i11 dX6_enter_176 (fun H locs hP hD hS => ?_)
        obtain ⟨M12, eM12⟩ : ∃ z : MS, z = (mGP_s M (upd (mGP M) (((3 : Int32) * x1) + x6).toNatClampNeg (-1 : Int32))) := ⟨_, rfl⟩
        have h := h M12 eM12
        have hP := nP_mGP eM12 hP
        have hD := nD_mGP eM12 hD
        obtain ⟨y13, ey13⟩ : ∃ z : Int32, z = (x6 + (1 : Int32)) := ⟨_, rfl⟩
        have h := h y13 ey13
        refine lv_iinc (v := y13) (lv' := [(6, .int y13), (0, .ref (b 0)), (1, .int x1), (3, .int x3)]) hx hb dX6_enter_177 hl (k := 3) rfl (by rw [ey13]; rfl) (by decide) rfl (fun ls hl => ?_)
        refine lv_goto (tgt := 143) hx hb dX6_enter_180 (by decide) ?_
        exact k143 M12 y13 H locs ls h hP hD hS (lv_sub hl [1, 2, 3, 0] rfl)
      · have h := h.2 c10
        refine lv_aload_n hx hb dX6_enter_165 rfl (lv_at hl 0 rfl) ?_
        refine va_get (D := (dC, dI)) (ci := 5) (v := .ref (b 20)) (C := RX6) (T := TX6) (N := 27) hx hb hts hiX6 hown hK hP 0 rfl rfl 26 (by decide) hf69 (fun _ h9 => h9) rfl dX6_enter_166 ?_
        refine lv_iload hx hb dX6_enter_169 (lv_at hl 3 rfl) ?_
        obtain ⟨i14, h⟩ := h
        refine va_iald (D := (dC, dI)) hx hb hK hP 20 0 rfl rfl i14 dX6_enter_171 ?_
        refine lv_goto (tgt := 176) hx hb dX6_enter_172 (by decide) ?_
        obtain ⟨i15, h⟩ := h
        refine va_iast (D := (dC, dI)) hx hb hK hP hD hS 16 0 rfl rfl i15 dX6_enter_176 (fun H locs hP hD hS => ?_)
        obtain ⟨M16, eM16⟩ : ∃ z : MS, z = (mGP_s M (upd (mGP M) (((3 : Int32) * x1) + x6).toNatClampNeg ((mTD M) x6.toNatClampNeg))) := ⟨_, rfl⟩
        have h := h M16 eM16
        have hP := nP_mGP eM16 hP
        have hD := nD_mGP eM16 hD
        obtain ⟨y17, ey17⟩ : ∃ z : Int32, z = (x6 + (1 : Int32)) := ⟨_, rfl⟩
        have h := h y17 ey17
        refine lv_iinc (v := y17) (lv' := [(6, .int y17), (0, .ref (b 0)), (1, .int x1), (3, .int x3)]) hx hb dX6_enter_177 hl (k := 3) rfl (by rw [ey17]; rfl) (by decide) rfl (fun ls hl => ?_)
        refine lv_goto (tgt := 143) hx hb dX6_enter_180 (by decide) ?_
        exact k143 M16 y17 H locs ls h hP hD hS (lv_sub hl [1, 2, 3, 0] rfl)
def p_X6_enter_118 (M : MS) (x1 : Int32) (x2 : Int32) (x3 : Int32) (x4 : Int32) (t0 : Int32) (post : MS → Prop) : Prop := (t0 = 0 → (post M)) ∧ (¬ t0 = 0 → (vp_in x1 64 ∧ (∀ M6 : MS, M6 = (mFI_s M (upd (mFI M) x1.toNatClampNeg x4)) → (vp_in x1 64 ∧ (∀ M8 : MS, M8 = (mGA_s M6 (upd (mGA M6) x1.toNatClampNeg x2)) → (p_X6_enter_143 M8 x1 x3 (0 : Int32) post))))))
set_option maxHeartbeats 1000000 in
set_option maxRecDepth 100000 in
theorem t_X6_enter_118 {p : Program} {l : Launch} {e : Env} {s : State} {m : MethodId} {args : Array Value} {below : List Frame} {meth : Method} {c : Code} {dC : Nat → ClassId} {dI : Nat → Nat → Nat} {cyI cyJ cyZ : ClassId} {r : Nat → Nat} {b : Nat → Nat} {A : Nat → Prop} {M : MS} {x1 : Int32} {x2 : Int32} {x3 : Int32} {x4 : Int32} {t0 : Int32} {post : MS → Prop} (G : xG p s m args meth c cX6_enter 8 RX6 none wsX6_enter (dC, dI) (tyA cyI cyJ cyZ) r A) (h : p_X6_enter_118 M x1 x2 x3 x4 t0 post) {H : Heap} {locs : List Loc} {ls : Array Slot} (hP : va_P (dC, dI) vwCl (wM cyI cyJ cyZ b M) H) (hD : va_D A (wM cyI cyJ cyZ b M)) (hS : va_S A s.heap H locs) (hl : lv_has ls 8 [(0, .ref (b 0)), (1, .int x1), (2, .int x2), (3, .int x3), (4, .int x4)]) : W p l e { frames := 1, cells := 0, slots := 0, locals := 24 } s m args below meth c H locs 0 0 (MQ below (va_Qv post (xAt (dC, dI) (tyA cyI cyJ cyZ) (wM cyI cyJ cyZ b) A) A) args s 0 0 A) (F0 m 118 ls [.int t0]) := by
  obtain ⟨hx, hb, hml, hown, hts, hr, hlocks, hK, hE, hA⟩ := id G
  have hiX6 : ∀ w ∈ wsX60, w ∈ wsX6_enter := by decide +kernel
  have hf47 := hts (.fieldLink RX6 47 "CellMappingModel" "first" "[I") (by decide +kernel)
  have hf53 := hts (.fieldLink RX6 53 "CellMappingModel" "gates" "[I") (by decide +kernel)
  unfold p_X6_enter_118 at h
  refine lv_istore (lv' := [(5, .int t0), (0, .ref (b 0)), (1, .int x1), (2, .int x2), (3, .int x3), (4, .int x4)]) hx hb dX6_enter_118 hl (by decide) rfl (fun ls hl => ?_)
  refine lv_iload hx hb dX6_enter_120 (lv_at hl 0 rfl) ?_
  refine lv_if_eq (tgt := 183) hx hb dX6_enter_122 (by decide) (fun c4 => ?_) (fun c4 => ?_)
  · have h := h.1 c4
    exact xr_v (S := M) hx hb hr hlocks hK hP hD hS h (Nat.le_of_ble_eq_true rfl) (Nat.le_of_ble_eq_true rfl) dX6_enter_183
  · have h := h.2 c4
    refine lv_aload_n hx hb dX6_enter_125 rfl (lv_at hl 1 rfl) ?_
    refine va_get (D := (dC, dI)) (ci := 5) (v := .ref (b 13)) (C := RX6) (T := TX6) (N := 27) hx hb hts hiX6 hown hK hP 0 rfl rfl 19 (by decide) hf47 (fun _ h9 => h9) rfl dX6_enter_126 ?_
    refine lv_iload_n hx hb dX6_enter_129 rfl (lv_at hl 2 rfl) ?_
    refine lv_iload hx hb dX6_enter_130 (lv_at hl 5 rfl) ?_
    obtain ⟨i5, h⟩ := h
    refine va_iast (D := (dC, dI)) hx hb hK hP hD hS 13 0 rfl rfl i5 dX6_enter_132 (fun H locs hP hD hS => ?_)
    obtain ⟨M6, eM6⟩ : ∃ z : MS, z = (mFI_s M (upd (mFI M) x1.toNatClampNeg x4)) := ⟨_, rfl⟩
    have h := h M6 eM6
    have hP := nP_mFI eM6 hP
    have hD := nD_mFI eM6 hD
    refine lv_aload_n hx hb dX6_enter_133 rfl (lv_at hl 1 rfl) ?_
    refine va_get (D := (dC, dI)) (ci := 5) (v := .ref (b 15)) (C := RX6) (T := TX6) (N := 27) hx hb hts hiX6 hown hK hP 0 rfl rfl 21 (by decide) hf53 (fun _ h9 => h9) rfl dX6_enter_134 ?_
    refine lv_iload_n hx hb dX6_enter_137 rfl (lv_at hl 2 rfl) ?_
    refine lv_iload_n hx hb dX6_enter_138 rfl (lv_at hl 3 rfl) ?_
    obtain ⟨i7, h⟩ := h
    refine va_iast (D := (dC, dI)) hx hb hK hP hD hS 15 0 rfl rfl i7 dX6_enter_139 (fun H locs hP hD hS => ?_)
    obtain ⟨M8, eM8⟩ : ∃ z : MS, z = (mGA_s M6 (upd (mGA M6) x1.toNatClampNeg x2)) := ⟨_, rfl⟩
    have h := h M8 eM8
    have hP := nP_mGA eM8 hP
    have hD := nD_mGA eM8 hD
    refine lv_iconst (v := 0) hx hb dX6_enter_140 (by decide) ?_
    refine lv_istore (lv' := [(6, .int (0 : Int32)), (5, .int t0), (0, .ref (b 0)), (1, .int x1), (2, .int x2), (3, .int x3), (4, .int x4)]) hx hb dX6_enter_141 hl (by decide) rfl (fun ls hl => ?_)
    exact t_X6_enter_143 G h hP hD hS (lv_sub hl [2, 3, 5, 0] rfl)
def p_X6_enter_113 (M : MS) (x1 : Int32) (x2 : Int32) (x3 : Int32) (x4 : Int32) (post : MS → Prop) : Prop := p_X6_enter_118 M x1 x2 x3 x4 (1 : Int32) post
set_option maxHeartbeats 1000000 in
set_option maxRecDepth 100000 in
theorem t_X6_enter_113 {p : Program} {l : Launch} {e : Env} {s : State} {m : MethodId} {args : Array Value} {below : List Frame} {meth : Method} {c : Code} {dC : Nat → ClassId} {dI : Nat → Nat → Nat} {cyI cyJ cyZ : ClassId} {r : Nat → Nat} {b : Nat → Nat} {A : Nat → Prop} {M : MS} {x1 : Int32} {x2 : Int32} {x3 : Int32} {x4 : Int32} {post : MS → Prop} (G : xG p s m args meth c cX6_enter 8 RX6 none wsX6_enter (dC, dI) (tyA cyI cyJ cyZ) r A) (h : p_X6_enter_113 M x1 x2 x3 x4 post) {H : Heap} {locs : List Loc} {ls : Array Slot} (hP : va_P (dC, dI) vwCl (wM cyI cyJ cyZ b M) H) (hD : va_D A (wM cyI cyJ cyZ b M)) (hS : va_S A s.heap H locs) (hl : lv_has ls 8 [(0, .ref (b 0)), (1, .int x1), (2, .int x2), (3, .int x3), (4, .int x4)]) : W p l e { frames := 1, cells := 0, slots := 0, locals := 24 } s m args below meth c H locs 0 0 (MQ below (va_Qv post (xAt (dC, dI) (tyA cyI cyJ cyZ) (wM cyI cyJ cyZ b) A) A) args s 0 0 A) (F0 m 113 ls []) := by
  obtain ⟨hx, hb, hml, hown, hts, hr, hlocks, hK, hE, hA⟩ := id G
  unfold p_X6_enter_113 at h
  refine lv_iconst (v := 1) hx hb dX6_enter_113 (by decide) ?_
  refine lv_goto (tgt := 118) hx hb dX6_enter_114 (by decide) ?_
  exact t_X6_enter_118 G h hP hD hS (lv_sub hl [0, 1, 2, 3, 4] rfl)
def p_X6_enter_117 (M : MS) (x1 : Int32) (x2 : Int32) (x3 : Int32) (x4 : Int32) (post : MS → Prop) : Prop := p_X6_enter_118 M x1 x2 x3 x4 (0 : Int32) post
set_option maxHeartbeats 1000000 in
set_option maxRecDepth 100000 in
theorem t_X6_enter_117 {p : Program} {l : Launch} {e : Env} {s : State} {m : MethodId} {args : Array Value} {below : List Frame} {meth : Method} {c : Code} {dC : Nat → ClassId} {dI : Nat → Nat → Nat} {cyI cyJ cyZ : ClassId} {r : Nat → Nat} {b : Nat → Nat} {A : Nat → Prop} {M : MS} {x1 : Int32} {x2 : Int32} {x3 : Int32} {x4 : Int32} {post : MS → Prop} (G : xG p s m args meth c cX6_enter 8 RX6 none wsX6_enter (dC, dI) (tyA cyI cyJ cyZ) r A) (h : p_X6_enter_117 M x1 x2 x3 x4 post) {H : Heap} {locs : List Loc} {ls : Array Slot} (hP : va_P (dC, dI) vwCl (wM cyI cyJ cyZ b M) H) (hD : va_D A (wM cyI cyJ cyZ b M)) (hS : va_S A s.heap H locs) (hl : lv_has ls 8 [(0, .ref (b 0)), (1, .int x1), (2, .int x2), (3, .int x3), (4, .int x4)]) : W p l e { frames := 1, cells := 0, slots := 0, locals := 24 } s m args below meth c H locs 0 0 (MQ below (va_Qv post (xAt (dC, dI) (tyA cyI cyJ cyZ) (wM cyI cyJ cyZ b) A) A) args s 0 0 A) (F0 m 117 ls []) := by
  obtain ⟨hx, hb, hml, hown, hts, hr, hlocks, hK, hE, hA⟩ := id G
  unfold p_X6_enter_117 at h
  refine lv_iconst (v := 0) hx hb dX6_enter_117 (by decide) ?_
  exact t_X6_enter_118 G h hP hD hS (lv_sub hl [0, 1, 2, 3, 4] rfl)
def b_X6_enter_6 (M : MS) (x1 : Int32) (x2 : Int32) (x3 : Int32) (post : MS → Prop) (g6 : Int32 → Int32 → Prop) (x4 : Int32) (x5 : Int32) : Prop := (x3 ≤ x5 → (vp_in x1 64 ∧ ((((mFI M) x1.toNatClampNeg) = (-1 : Int32) → (p_X6_enter_113 M x1 x2 x3 x4 post)) ∧ (¬ ((mFI M) x1.toNatClampNeg) = (-1 : Int32) → (vp_in x1 64 ∧ ((x4 < ((mFI M) x1.toNatClampNeg) → (p_X6_enter_113 M x1 x2 x3 x4 post)) ∧ (¬ x4 < ((mFI M) x1.toNatClampNeg) → (vp_in x1 64 ∧ ((¬ x4 = ((mFI M) x1.toNatClampNeg) → (p_X6_enter_117 M x1 x2 x3 x4 post)) ∧ (x4 = ((mFI M) x1.toNatClampNeg) → (p_X6_isBefore M x1 x2 x3 (fun r22 => (r22 = 0 → (p_X6_enter_117 M x1 x2 x3 x4 post)) ∧ (¬ r22 = 0 → (p_X6_enter_113 M x1 x2 x3 x4 post)))))))))))))) ∧ (¬ x3 ≤ x5 → (vp_in x5 3 ∧ (vp_in ((mTD M) x5.toNatClampNeg) 64 ∧ (∀ y27 : Int32, y27 = ((mAV M) ((mTD M) x5.toNatClampNeg).toNatClampNeg) → ((¬ y27 = (-1 : Int32) → (vp_in (((3 : Int32) * x2) + x5) 36 ∧ (∀ y30 : Int32, y30 = (y27 + ((mDE M) (((3 : Int32) * x2) + x5).toNatClampNeg)) → ((y30 ≤ x4 → (∀ y32 : Int32, y32 = (x5 + (1 : Int32)) → (g6 x4 y32))) ∧ (¬ y30 ≤ x4 → (∀ y33 : Int32, y33 = (x5 + (1 : Int32)) → (g6 y30 y33))))))) ∧ (y27 = (-1 : Int32) → (post M)))))))
def p_X6_enter_6 (M : MS) (x1 : Int32) (x2 : Int32) (x3 : Int32) (x4 : Int32) (x5 : Int32) (post : MS → Prop) : Prop := ∃ (I : Int32 → Int32 → Prop) (mu : Int32 → Int32 → Nat), I x4 x5 ∧ ∀ (x4 : Int32) (x5 : Int32), I x4 x5 → b_X6_enter_6 M x1 x2 x3 post (fun x4' x5' => I x4' x5' ∧ mu x4' x5' < mu x4 x5) x4 x5
set_option maxHeartbeats 1000000 in
set_option maxRecDepth 100000 in
theorem t_X6_enter_6 {p : Program} {l : Launch} {e : Env} {s : State} {m : MethodId} {args : Array Value} {below : List Frame} {meth : Method} {c : Code} {dC : Nat → ClassId} {dI : Nat → Nat → Nat} {cyI cyJ cyZ : ClassId} {r : Nat → Nat} {b : Nat → Nat} {A : Nat → Prop} {M : MS} {x1 : Int32} {x2 : Int32} {x3 : Int32} {x4 : Int32} {x5 : Int32} {post : MS → Prop} (G : xG p s m args meth c cX6_enter 8 RX6 none wsX6_enter (dC, dI) (tyA cyI cyJ cyZ) r A) (h : p_X6_enter_6 M x1 x2 x3 x4 x5 post) {H : Heap} {locs : List Loc} {ls : Array Slot} (hP : va_P (dC, dI) vwCl (wM cyI cyJ cyZ b M) H) (hD : va_D A (wM cyI cyJ cyZ b M)) (hS : va_S A s.heap H locs) (hl : lv_has ls 8 [(0, .ref (b 0)), (1, .int x1), (2, .int x2), (3, .int x3), (4, .int x4), (5, .int x5)]) : W p l e { frames := 1, cells := 0, slots := 0, locals := 24 } s m args below meth c H locs 0 0 (MQ below (va_Qv post (xAt (dC, dI) (tyA cyI cyJ cyZ) (wM cyI cyJ cyZ b) A) A) args s 0 0 A) (F0 m 6 ls []) := by
  obtain ⟨hx, hb, hml, hown, hts, hr, hlocks, hK, hE, hA⟩ := id G
  have hiX6 : ∀ w ∈ wsX60, w ∈ wsX6_enter := by decide +kernel
  have hf47 := hts (.fieldLink RX6 47 "CellMappingModel" "first" "[I") (by decide +kernel)
  have hf50 := hts (.fieldLink RX6 50 "CellMappingModel" "arrivals" "[I") (by decide +kernel)
  have hf69 := hts (.fieldLink RX6 69 "CellMappingModel" "tried" "[I") (by decide +kernel)
  have hf34 := hts (.fieldLink RX6 34 "CellMappingModel" "delays" "[I") (by decide +kernel)
  obtain ⟨I, mu, h0, hstep⟩ := h
  suffices hgo : ∀ (n : Nat) (x4 : Int32) (x5 : Int32), I x4 x5 → mu x4 x5 < n → ∀ (H : Heap) (locs : List Loc) (ls : Array Slot), va_P (dC, dI) vwCl (wM cyI cyJ cyZ b M) H → va_D A (wM cyI cyJ cyZ b M) → va_S A s.heap H locs → lv_has ls 8 [(0, .ref (b 0)), (1, .int x1), (2, .int x2), (3, .int x3), (4, .int x4), (5, .int x5)] → W p l e { frames := 1, cells := 0, slots := 0, locals := 24 } s m args below meth c H locs 0 0 (MQ below (va_Qv post (xAt (dC, dI) (tyA cyI cyJ cyZ) (wM cyI cyJ cyZ b) A) A) args s 0 0 A) (F0 m 6 ls []) from hgo (mu x4 x5 + 1) x4 x5 h0 (Nat.lt_succ_self _) H locs ls hP hD hS hl
  clear h0 hP hD hS hl
  intro n
  induction n with
  | zero => intro x4 x5 _ h; exact absurd h (Nat.not_lt_zero _)
  | succ n ih =>
    intro x4 x5 hI hmu H locs ls hP hD hS hl
    have h := hstep x4 x5 hI
    unfold b_X6_enter_6 at h
    have k6 : ∀ (x4' : Int32) (x5' : Int32) (H : Heap) (locs : List Loc) (ls : Array Slot), (fun x4' x5' => I x4' x5' ∧ mu x4' x5' < mu x4 x5) x4' x5' → va_P (dC, dI) vwCl (wM cyI cyJ cyZ b M) H → va_D A (wM cyI cyJ cyZ b M) → va_S A s.heap H locs → lv_has ls 8 [(0, .ref (b 0)), (1, .int x1), (2, .int x2), (3, .int x3), (4, .int x4'), (5, .int x5')] → W p l e { frames := 1, cells := 0, slots := 0, locals := 24 } s m args below meth c H locs 0 0 (MQ below (va_Qv post (xAt (dC, dI) (tyA cyI cyJ cyZ) (wM cyI cyJ cyZ b) A) A) args s 0 0 A) (F0 m 6 ls []) := fun x4' x5' H locs ls hh hP hD hS hl => ih x4' x5' hh.1 (Nat.lt_of_lt_of_le hh.2 (Nat.le_of_lt_succ hmu)) H locs ls hP hD hS hl
    generalize (fun x4' x5' => I x4' x5' ∧ mu x4' x5' < mu x4 x5) = g6 at h k6
    refine lv_iload hx hb dX6_enter_6 (lv_at hl 5 rfl) ?_
    refine lv_iload_n hx hb dX6_enter_8 rfl (lv_at hl 3 rfl) ?_
    refine lv_icmp_ge (tgt := 71) hx hb dX6_enter_9 (by decide) (fun c1 => ?_) (fun c1 => ?_)
    · have h := h.1 c1
      refine lv_aload_n hx hb dX6_enter_71 rfl (lv_at hl 0 rfl) ?_
      refine va_get (D := (dC, dI)) (ci := 5) (v := .ref (b 13)) (C := RX6) (T := TX6) (N := 27) hx hb hts hiX6 hown hK hP 0 rfl rfl 19 (by decide) hf47 (fun _ h9 => h9) rfl dX6_enter_72 ?_
      refine lv_iload_n hx hb dX6_enter_75 rfl (lv_at hl 1 rfl) ?_
      obtain ⟨i2, h⟩ := h
      refine va_iald (D := (dC, dI)) hx hb hK hP 13 0 rfl rfl i2 dX6_enter_76 ?_
      refine lv_iconst (v := -1) hx hb dX6_enter_77 (by decide) ?_
      refine lv_icmp_eq (tgt := 113) hx hb dX6_enter_78 (by decide) (fun c3 => ?_) (fun c3 => ?_)
      · have h := h.1 c3
        exact t_X6_enter_113 G h hP hD hS (lv_sub hl [0, 1, 2, 3, 4] rfl)
      · have h := h.2 c3
        refine lv_iload hx hb dX6_enter_81 (lv_at hl 4 rfl) ?_
        refine lv_aload_n hx hb dX6_enter_83 rfl (lv_at hl 0 rfl) ?_
        refine va_get (D := (dC, dI)) (ci := 5) (v := .ref (b 13)) (C := RX6) (T := TX6) (N := 27) hx hb hts hiX6 hown hK hP 0 rfl rfl 19 (by decide) hf47 (fun _ h9 => h9) rfl dX6_enter_84 ?_
        refine lv_iload_n hx hb dX6_enter_87 rfl (lv_at hl 1 rfl) ?_
        obtain ⟨i18, h⟩ := h
        refine va_iald (D := (dC, dI)) hx hb hK hP 13 0 rfl rfl i18 dX6_enter_88 ?_
        refine lv_icmp_lt (tgt := 113) hx hb dX6_enter_89 (by decide) (fun c19 => ?_) (fun c19 => ?_)
        · have h := h.1 c19
          exact t_X6_enter_113 G h hP hD hS (lv_sub hl [0, 1, 2, 3, 4] rfl)
        · have h := h.2 c19
          refine lv_iload hx hb dX6_enter_92 (lv_at hl 4 rfl) ?_
          refine lv_aload_n hx hb dX6_enter_94 rfl (lv_at hl 0 rfl) ?_
          refine va_get (D := (dC, dI)) (ci := 5) (v := .ref (b 13)) (C := RX6) (T := TX6) (N := 27) hx hb hts hiX6 hown hK hP 0 rfl rfl 19 (by decide) hf47 (fun _ h9 => h9) rfl dX6_enter_95 ?_
          refine lv_iload_n hx hb dX6_enter_98 rfl (lv_at hl 1 rfl) ?_
          obtain ⟨i20, h⟩ := h
          refine va_iald (D := (dC, dI)) hx hb hK hP 13 0 rfl rfl i20 dX6_enter_99 ?_
          refine lv_icmp_ne (tgt := 117) hx hb dX6_enter_100 (by decide) (fun c21 => ?_) (fun c21 => ?_)
          · have h := h.1 c21
            exact t_X6_enter_117 G h hP hD hS (lv_sub hl [0, 1, 2, 3, 4] rfl)
          · have h := h.2 c21
            refine lv_aload_n hx hb dX6_enter_103 rfl (lv_at hl 0 rfl) ?_
            refine lv_iload_n hx hb dX6_enter_104 rfl (lv_at hl 1 rfl) ?_
            refine lv_iload_n hx hb dX6_enter_105 rfl (lv_at hl 2 rfl) ?_
            refine lv_iload_n hx hb dX6_enter_106 rfl (lv_at hl 3 rfl) ?_
            refine xc_Vi (wf := wM cyI cyJ cyZ b) (wr := []) (isC := [0, 1, 2, 3, 4, 5, 6, 7, 8, 9, 10, 11, 12, 13, 14, 15, 16, 17, 18, 19, 20]) (isR := []) (As := [.int x1, .int x2, .int x3]) (rest := []) ⟨hx, hb, hml, hown, hts⟩ (t_X6_isBefore h) (cwV 3 hts gX6_enter_X6_isBefore rfl rfl rfl (by decide +kernel) ⟨Nat.le_of_ble_eq_true rfl, Nat.le_of_ble_eq_true rfl⟩) ⟨hK, hE, hA, hP, hD, hS, rfl, rfl, rfl, rfl, by decide⟩ ⟨0, 5, _, _, rfl, rfl, rfl⟩ rfl rfl hl.1 (Nat.le_of_ble_eq_true rfl) dX6_enter_107 ⟨Nat.le_of_ble_eq_true rfl, Nat.le_of_ble_eq_true rfl⟩ (fun r22 S23 H locs h hP hD hS => ?_)
            obtain ⟨rfl, h⟩ := h
            have hP : va_P (dC, dI) vwCl (wM cyI cyJ cyZ b M) H := hP
            have hD : va_D A (wM cyI cyJ cyZ b M) := hD
            refine lv_if_eq (tgt := 117) hx hb dX6_enter_110 (by decide) (fun c24 => ?_) (fun c24 => ?_)
            · have h := h.1 c24
              exact t_X6_enter_117 G h hP hD hS (lv_sub hl [0, 1, 2, 3, 4] rfl)
            · have h := h.2 c24
              exact t_X6_enter_113 G h hP hD hS (lv_sub hl [0, 1, 2, 3, 4] rfl)
    · have h := h.2 c1
      refine lv_aload_n hx hb dX6_enter_12 rfl (lv_at hl 0 rfl) ?_
      refine va_get (D := (dC, dI)) (ci := 5) (v := .ref (b 14)) (C := RX6) (T := TX6) (N := 27) hx hb hts hiX6 hown hK hP 0 rfl rfl 20 (by decide) hf50 (fun _ h9 => h9) rfl dX6_enter_13 ?_
      refine lv_aload_n hx hb dX6_enter_16 rfl (lv_at hl 0 rfl) ?_
      refine va_get (D := (dC, dI)) (ci := 5) (v := .ref (b 20)) (C := RX6) (T := TX6) (N := 27) hx hb hts hiX6 hown hK hP 0 rfl rfl 26 (by decide) hf69 (fun _ h9 => h9) rfl dX6_enter_17 ?_
      refine lv_iload hx hb dX6_enter_20 (lv_at hl 5 rfl) ?_
      obtain ⟨i25, h⟩ := h
      refine va_iald (D := (dC, dI)) hx hb hK hP 20 0 rfl rfl i25 dX6_enter_22 ?_
      obtain ⟨i26, h⟩ := h
      refine va_iald (D := (dC, dI)) hx hb hK hP 14 0 rfl rfl i26 dX6_enter_23 ?_
      refine lv_topi (fun y27 ey27 => ?_)
      have h := h y27 ey27
      refine lv_istore (lv' := [(6, .int y27), (0, .ref (b 0)), (1, .int x1), (2, .int x2), (3, .int x3), (4, .int x4), (5, .int x5)]) hx hb dX6_enter_24 hl (by decide) rfl (fun ls hl => ?_)
      refine lv_iload hx hb dX6_enter_26 (lv_at hl 0 rfl) ?_
      refine lv_iconst (v := -1) hx hb dX6_enter_28 (by decide) ?_
      refine lv_icmp_ne (tgt := 33) hx hb dX6_enter_29 (by decide) (fun c28 => ?_) (fun c28 => ?_)
      · have h := h.1 c28
        refine lv_iload hx hb dX6_enter_33 (lv_at hl 0 rfl) ?_
        refine lv_aload_n hx hb dX6_enter_35 rfl (lv_at hl 1 rfl) ?_
        refine va_get (D := (dC, dI)) (ci := 5) (v := .ref (b 9)) (C := RX6) (T := TX6) (N := 27) hx hb hts hiX6 hown hK hP 0 rfl rfl 14 (by decide) hf34 (fun _ h9 => h9) rfl dX6_enter_36 ?_
        refine lv_iconst (v := 3) hx hb dX6_enter_39 (by decide) ?_
        refine lv_iload_n hx hb dX6_enter_40 rfl (lv_at hl 3 rfl) ?_
        refine lv_imul hx hb dX6_enter_41 ?_
        refine lv_iload hx hb dX6_enter_42 (lv_at hl 6 rfl) ?_
        refine lv_iadd hx hb dX6_enter_44 ?_
        obtain ⟨i29, h⟩ := h
        refine va_iald (D := (dC, dI)) hx hb hK hP 9 0 rfl rfl i29 dX6_enter_45 ?_
        refine lv_iadd hx hb dX6_enter_46 ?_
        refine lv_topi (fun y30 ey30 => ?_)
        have h := h y30 ey30
        refine lv_istore (lv' := [(7, .int y30), (6, .int y27), (0, .ref (b 0)), (1, .int x1), (2, .int x2), (3, .int x3), (4, .int x4), (5, .int x5)]) hx hb dX6_enter_47 hl (by decide) rfl (fun ls hl => ?_)
        refine lv_iload hx hb dX6_enter_49 (lv_at hl 0 rfl) ?_
        refine lv_iload hx hb dX6_enter_51 (lv_at hl 6 rfl) ?_
        refine lv_icmp_le (tgt := 61) hx hb dX6_enter_53 (by decide) (fun c31 => ?_) (fun c31 => ?_)
        · have h := h.1 c31
          refine lv_iload hx hb dX6_enter_61 (lv_at hl 6 rfl) ?_
          refine lv_istore (lv' := [(4, .int x4), (7, .int y30), (6, .int y27), (0, .ref (b 0)), (1, .int x1), (2, .int x2), (3, .int x3), (5, .int x5)]) hx hb dX6_enter_63 hl (by decide) rfl (fun ls hl => ?_)
          obtain ⟨y32, ey32⟩ : ∃ z : Int32, z = (x5 + (1 : Int32)) := ⟨_, rfl⟩
          have h := h y32 ey32
          refine lv_iinc (v := y32) (lv' := [(5, .int y32), (4, .int x4), (7, .int y30), (6, .int y27), (0, .ref (b 0)), (1, .int x1), (2, .int x2), (3, .int x3)]) hx hb dX6_enter_65 hl (k := 7) rfl (by rw [ey32]; rfl) (by decide) rfl (fun ls hl => ?_)
          refine lv_goto (tgt := 6) hx hb dX6_enter_68 (by decide) ?_
          exact k6 x4 y32 H locs ls h hP hD hS (lv_sub hl [4, 5, 6, 7, 1, 0] rfl)
        · have h := h.2 c31
          refine lv_iload hx hb dX6_enter_56 (lv_at hl 0 rfl) ?_
          refine lv_goto (tgt := 63) hx hb dX6_enter_58 (by decide) ?_
          refine lv_istore (lv' := [(4, .int y30), (7, .int y30), (6, .int y27), (0, .ref (b 0)), (1, .int x1), (2, .int x2), (3, .int x3), (5, .int x5)]) hx hb dX6_enter_63 hl (by decide) rfl (fun ls hl => ?_)
          obtain ⟨y33, ey33⟩ : ∃ z : Int32, z = (x5 + (1 : Int32)) := ⟨_, rfl⟩
          have h := h y33 ey33
          refine lv_iinc (v := y33) (lv' := [(5, .int y33), (4, .int y30), (7, .int y30), (6, .int y27), (0, .ref (b 0)), (1, .int x1), (2, .int x2), (3, .int x3)]) hx hb dX6_enter_65 hl (k := 7) rfl (by rw [ey33]; rfl) (by decide) rfl (fun ls hl => ?_)
          refine lv_goto (tgt := 6) hx hb dX6_enter_68 (by decide) ?_
          exact k6 y30 y33 H locs ls h hP hD hS (lv_sub hl [4, 5, 6, 7, 1, 0] rfl)
      · have h := h.2 c28
        exact xr_v (S := M) hx hb hr hlocks hK hP hD hS h (Nat.le_of_ble_eq_true rfl) (Nat.le_of_ble_eq_true rfl) dX6_enter_32
def p_X6_enter (M : MS) (x1 : Int32) (x2 : Int32) (x3 : Int32) (post : MS → Prop) : Prop := p_X6_enter_6 M x1 x2 x3 (0 : Int32) (0 : Int32) post
set_option maxHeartbeats 1000000 in
set_option maxRecDepth 100000 in
theorem t_X6_enter {l : Launch} {dC : Nat → ClassId} {dI : Nat → Nat → Nat} {cyI cyJ cyZ : ClassId} {r : Nat → Nat} {b : Nat → Nat} {M : MS} {x1 : Int32} {x2 : Int32} {x3 : Int32} {post : MS → Prop} (h : p_X6_enter M x1 x2 x3 post) : xMv l yX6_enter wsX6_enter { frames := 1, cells := 0, slots := 0, locals := 24 } (dC, dI) (tyA cyI cyJ cyZ) r (wM cyI cyJ cyZ b) [.ref (b 0), .int x1, .int x2, .int x3] M post 0 0 := by
  intro sz
  refine Met.ofW (cc := cX6_enter) (maxL := 8) (ret := none) (by decide) rfl ?_
  intro p e s m args below meth c s₁ B hml hv
  obtain ⟨rfl, G, hP, hD, hS⟩ := xG.of rfl B hml hv
  generalize hAe : va_A (wM cyI cyJ cyZ b M) sz = A at G hD hS ⊢
  have G : xG p s m _ meth c cX6_enter 8 RX6 none wsX6_enter (dC, dI) (tyA cyI cyJ cyZ) r A := G
  obtain ⟨hx, hb, hml, hown, hts, hr, hlocks, hK, hE, hA⟩ := id G
  have hl := lv_entry ([.ref (b 0), .int x1, .int x2, .int x3]) (n := 8) (Nat.le_of_ble_eq_true rfl)
  rw [lg_entry_eq]
  generalize (lg_sl ([.ref (b 0), .int x1, .int x2, .int x3]) ++ List.replicate (8 - (lg_sl ([.ref (b 0), .int x1, .int x2, .int x3])).length) Slot.unset).toArray = ls at hl ⊢
  have hl : lv_has ls 8 [(0, .ref (b 0)), (1, .int x1), (2, .int x2), (3, .int x3)] := hl
  show W p l e { frames := 1, cells := 0, slots := 0, locals := 24 } s m _ below meth c s.heap [] 0 0 _ _
  unfold p_X6_enter at h
  refine lv_iconst (v := 0) hx hb dX6_enter_0 (by decide) ?_
  refine lv_istore (lv' := [(4, .int (0 : Int32)), (0, .ref (b 0)), (1, .int x1), (2, .int x2), (3, .int x3)]) hx hb dX6_enter_1 hl (by decide) rfl (fun ls hl => ?_)
  refine lv_iconst (v := 0) hx hb dX6_enter_3 (by decide) ?_
  refine lv_istore (lv' := [(5, .int (0 : Int32)), (4, .int (0 : Int32)), (0, .ref (b 0)), (1, .int x1), (2, .int x2), (3, .int x3)]) hx hb dX6_enter_4 hl (by decide) rfl (fun ls hl => ?_)
  exact t_X6_enter_6 G h hP hD hS (lv_sub hl [2, 3, 4, 5, 1, 0] rfl)
def b_X6_comes_18 (g6 : Int32 → Int32 → Prop) (M : MS) (x1 : Int32) (x2 : Int32) (x3 : Int32) (x4 : Int32) (x5 : Int32) (post : Int32 → Prop) (g18 : Int32 → Int32 → Prop) (x6 : Int32) (x7 : Int32) : Prop := (x2 ≤ x7 → (vp_in x5 3 ∧ (p_X6_turn M ((mTD M) x5.toNatClampNeg) x6 (fun r5 => ∀ y7 : Int32, y7 = (x4 ||| (r5 <<< (x5 &&& 31))) → (∀ y8 : Int32, y8 = (x5 + (1 : Int32)) → (g6 y7 y8)))))) ∧ (¬ x2 ≤ x7 → (vp_in x7 3 ∧ (vp_in x5 3 ∧ ((¬ ((mLE M) x7.toNatClampNeg) = (((mTD M) x5.toNatClampNeg) / (2 : Int32)) → (∀ y12 : Int32, y12 = (x7 + (1 : Int32)) → (g18 x6 y12))) ∧ (((mLE M) x7.toNatClampNeg) = (((mTD M) x5.toNatClampNeg) / (2 : Int32)) → (∀ y13 : Int32, y13 = ((x3 >>> (x7 &&& 31)) &&& (1 : Int32)) → (∀ y14 : Int32, y14 = (x7 + (1 : Int32)) → (g18 y13 y14))))))))
def p_X6_comes_18 (g6 : Int32 → Int32 → Prop) (M : MS) (x1 : Int32) (x2 : Int32) (x3 : Int32) (x4 : Int32) (x5 : Int32) (x6 : Int32) (x7 : Int32) (post : Int32 → Prop) : Prop := ∃ (I : Int32 → Int32 → Prop) (mu : Int32 → Int32 → Nat), I x6 x7 ∧ ∀ (x6 : Int32) (x7 : Int32), I x6 x7 → b_X6_comes_18 g6 M x1 x2 x3 x4 x5 post (fun x6' x7' => I x6' x7' ∧ mu x6' x7' < mu x6 x7) x6 x7
set_option maxHeartbeats 1000000 in
set_option maxRecDepth 100000 in
theorem t_X6_comes_18 {p : Program} {l : Launch} {e : Env} {s : State} {m : MethodId} {args : Array Value} {below : List Frame} {meth : Method} {c : Code} {dC : Nat → ClassId} {dI : Nat → Nat → Nat} {cyI cyJ cyZ : ClassId} {r : Nat → Nat} {b : Nat → Nat} {A : Nat → Prop} {g6 : Int32 → Int32 → Prop} {M : MS} {x1 : Int32} {x2 : Int32} {x3 : Int32} {x4 : Int32} {x5 : Int32} {x6 : Int32} {x7 : Int32} {post : Int32 → Prop} (G : xG p s m args meth c cX6_comes 8 RX6 (some .int) wsX6_comes (dC, dI) (tyA cyI cyJ cyZ) r A) (k6 : ∀ (x4' : Int32) (x5' : Int32) (H : Heap) (locs : List Loc) (ls : Array Slot), g6 x4' x5' → va_P (dC, dI) vwCl (wM cyI cyJ cyZ b M) H → va_D A (wM cyI cyJ cyZ b M) → va_S A s.heap H locs → lv_has ls 8 [(0, .ref (b 0)), (1, .int x1), (2, .int x2), (3, .int x3), (4, .int x4'), (5, .int x5')] → W p l e { frames := 1, cells := 0, slots := 0, locals := 21 } s m args below meth c H locs 0 0 (MQ below (va_Qi (fun x u => M = u ∧ post x) (xAt (dC, dI) (tyA cyI cyJ cyZ) (wM cyI cyJ cyZ b) A) A) args s 0 0 A) (F0 m 6 ls [])) (h : p_X6_comes_18 g6 M x1 x2 x3 x4 x5 x6 x7 post) {H : Heap} {locs : List Loc} {ls : Array Slot} (hP : va_P (dC, dI) vwCl (wM cyI cyJ cyZ b M) H) (hD : va_D A (wM cyI cyJ cyZ b M)) (hS : va_S A s.heap H locs) (hl : lv_has ls 8 [(0, .ref (b 0)), (1, .int x1), (2, .int x2), (3, .int x3), (4, .int x4), (5, .int x5), (6, .int x6), (7, .int x7)]) : W p l e { frames := 1, cells := 0, slots := 0, locals := 21 } s m args below meth c H locs 0 0 (MQ below (va_Qi (fun x u => M = u ∧ post x) (xAt (dC, dI) (tyA cyI cyJ cyZ) (wM cyI cyJ cyZ b) A) A) args s 0 0 A) (F0 m 18 ls []) := by
  obtain ⟨hx, hb, hml, hown, hts, hr, hlocks, hK, hE, hA⟩ := id G
  have hiX6 : ∀ w ∈ wsX60, w ∈ wsX6_comes := by decide +kernel
  have hf69 := hts (.fieldLink RX6 69 "CellMappingModel" "tried" "[I") (by decide +kernel)
  have hf66 := hts (.fieldLink RX6 66 "CellMappingModel" "leaves" "[I") (by decide +kernel)
  obtain ⟨I, mu, h0, hstep⟩ := h
  suffices hgo : ∀ (n : Nat) (x6 : Int32) (x7 : Int32), I x6 x7 → mu x6 x7 < n → ∀ (H : Heap) (locs : List Loc) (ls : Array Slot), va_P (dC, dI) vwCl (wM cyI cyJ cyZ b M) H → va_D A (wM cyI cyJ cyZ b M) → va_S A s.heap H locs → lv_has ls 8 [(0, .ref (b 0)), (1, .int x1), (2, .int x2), (3, .int x3), (4, .int x4), (5, .int x5), (6, .int x6), (7, .int x7)] → W p l e { frames := 1, cells := 0, slots := 0, locals := 21 } s m args below meth c H locs 0 0 (MQ below (va_Qi (fun x u => M = u ∧ post x) (xAt (dC, dI) (tyA cyI cyJ cyZ) (wM cyI cyJ cyZ b) A) A) args s 0 0 A) (F0 m 18 ls []) from hgo (mu x6 x7 + 1) x6 x7 h0 (Nat.lt_succ_self _) H locs ls hP hD hS hl
  clear h0 hP hD hS hl
  intro n
  induction n with
  | zero => intro x6 x7 _ h; exact absurd h (Nat.not_lt_zero _)
  | succ n ih =>
    intro x6 x7 hI hmu H locs ls hP hD hS hl
    have h := hstep x6 x7 hI
    unfold b_X6_comes_18 at h
    have k18 : ∀ (x6' : Int32) (x7' : Int32) (H : Heap) (locs : List Loc) (ls : Array Slot), (fun x6' x7' => I x6' x7' ∧ mu x6' x7' < mu x6 x7) x6' x7' → va_P (dC, dI) vwCl (wM cyI cyJ cyZ b M) H → va_D A (wM cyI cyJ cyZ b M) → va_S A s.heap H locs → lv_has ls 8 [(0, .ref (b 0)), (1, .int x1), (2, .int x2), (3, .int x3), (4, .int x4), (5, .int x5), (6, .int x6'), (7, .int x7')] → W p l e { frames := 1, cells := 0, slots := 0, locals := 21 } s m args below meth c H locs 0 0 (MQ below (va_Qi (fun x u => M = u ∧ post x) (xAt (dC, dI) (tyA cyI cyJ cyZ) (wM cyI cyJ cyZ b) A) A) args s 0 0 A) (F0 m 18 ls []) := fun x6' x7' H locs ls hh hP hD hS hl => ih x6' x7' hh.1 (Nat.lt_of_lt_of_le hh.2 (Nat.le_of_lt_succ hmu)) H locs ls hP hD hS hl
    generalize (fun x6' x7' => I x6' x7' ∧ mu x6' x7' < mu x6 x7) = g18 at h k18
    refine lv_iload hx hb dX6_comes_18 (lv_at hl 7 rfl) ?_
    refine lv_iload_n hx hb dX6_comes_20 rfl (lv_at hl 2 rfl) ?_
    refine lv_icmp_ge (tgt := 62) hx hb dX6_comes_21 (by decide) (fun c3 => ?_) (fun c3 => ?_)
    · have h := h.1 c3
      refine lv_iload hx hb dX6_comes_62 (lv_at hl 4 rfl) ?_
      refine lv_aload_n hx hb dX6_comes_64 rfl (lv_at hl 0 rfl) ?_
      refine va_get (D := (dC, dI)) (ci := 5) (v := .ref (b 20)) (C := RX6) (T := TX6) (N := 27) hx hb hts hiX6 hown hK hP 0 rfl rfl 26 (by decide) hf69 (fun _ h9 => h9) rfl dX6_comes_65 ?_
      refine lv_iload hx hb dX6_comes_68 (lv_at hl 5 rfl) ?_
      obtain ⟨i4, h⟩ := h
      refine va_iald (D := (dC, dI)) hx hb hK hP 20 0 rfl rfl i4 dX6_comes_70 ?_
      refine lv_iload hx hb dX6_comes_71 (lv_at hl 6 rfl) ?_
      refine xc_Si (wf := wM cyI cyJ cyZ b) (wr := []) (isC := [0, 1, 2, 3, 4, 5, 6, 7, 8, 9, 10, 11, 12, 13, 14, 15, 16, 17, 18, 19, 20]) (isR := []) (As := [.int ((mTD M) x5.toNatClampNeg), .int x6]) (rest := [.int x4]) ⟨hx, hb, hml, hown, hts⟩ (t_X6_turn h) (va_cwS 2 hts gX6_comes_X6_turn rfl rfl rfl (by decide +kernel) ⟨Nat.le_of_ble_eq_true rfl, Nat.le_of_ble_eq_true rfl⟩) ⟨hK, hE, hA, hP, hD, hS, rfl, rfl, rfl, rfl, by decide⟩ rfl rfl hl.1 (Nat.le_of_ble_eq_true rfl) dX6_comes_73 ⟨Nat.le_of_ble_eq_true rfl, Nat.le_of_ble_eq_true rfl⟩ (fun r5 S6 H locs h hP hD hS => ?_)
      obtain ⟨rfl, h⟩ := h
      have hP : va_P (dC, dI) vwCl (wM cyI cyJ cyZ b M) H := hP
      have hD : va_D A (wM cyI cyJ cyZ b M) := hD
      refine lv_iload hx hb dX6_comes_76 (lv_at hl 5 rfl) ?_
      refine lv_ishl hx hb dX6_comes_78 ?_
      refine lv_ior hx hb dX6_comes_79 ?_
      refine lv_topi (fun y7 ey7 => ?_)
      have h := h y7 ey7
      refine lv_istore (lv' := [(4, .int y7), (0, .ref (b 0)), (1, .int x1), (2, .int x2), (3, .int x3), (5, .int x5), (6, .int x6), (7, .int x7)]) hx hb dX6_comes_80 hl (by decide) rfl (fun ls hl => ?_)
      obtain ⟨y8, ey8⟩ : ∃ z : Int32, z = (x5 + (1 : Int32)) := ⟨_, rfl⟩
      have h := h y8 ey8
      refine lv_iinc (v := y8) (lv' := [(5, .int y8), (4, .int y7), (0, .ref (b 0)), (1, .int x1), (2, .int x2), (3, .int x3), (6, .int x6), (7, .int x7)]) hx hb dX6_comes_82 hl (k := 5) rfl (by rw [ey8]; rfl) (by decide) rfl (fun ls hl => ?_)
      refine lv_goto (tgt := 6) hx hb dX6_comes_85 (by decide) ?_
      exact k6 y7 y8 H locs ls h hP hD hS (lv_sub hl [2, 3, 4, 5, 1, 0] rfl)
    · have h := h.2 c3
      refine lv_aload_n hx hb dX6_comes_24 rfl (lv_at hl 0 rfl) ?_
      refine va_get (D := (dC, dI)) (ci := 5) (v := .ref (b 19)) (C := RX6) (T := TX6) (N := 27) hx hb hts hiX6 hown hK hP 0 rfl rfl 25 (by decide) hf66 (fun _ h9 => h9) rfl dX6_comes_25 ?_
      refine lv_iload hx hb dX6_comes_28 (lv_at hl 7 rfl) ?_
      obtain ⟨i9, h⟩ := h
      refine va_iald (D := (dC, dI)) hx hb hK hP 19 0 rfl rfl i9 dX6_comes_30 ?_
      refine lv_aload_n hx hb dX6_comes_31 rfl (lv_at hl 0 rfl) ?_
      refine va_get (D := (dC, dI)) (ci := 5) (v := .ref (b 20)) (C := RX6) (T := TX6) (N := 27) hx hb hts hiX6 hown hK hP 0 rfl rfl 26 (by decide) hf69 (fun _ h9 => h9) rfl dX6_comes_32 ?_
      refine lv_iload hx hb dX6_comes_35 (lv_at hl 5 rfl) ?_
      obtain ⟨i10, h⟩ := h
      refine va_iald (D := (dC, dI)) hx hb hK hP 20 0 rfl rfl i10 dX6_comes_37 ?_
      refine lv_iconst (v := 2) hx hb dX6_comes_38 (by decide) ?_
      refine lv_idiv hx hb dX6_comes_39 (by decide) ?_
      refine lv_icmp_ne (tgt := 52) hx hb dX6_comes_40 (by decide) (fun c11 => ?_) (fun c11 => ?_)
      · have h := h.1 c11
        refine lv_iload hx hb dX6_comes_52 (lv_at hl 6 rfl) ?_
        refine lv_istore (lv' := [(6, .int x6), (0, .ref (b 0)), (1, .int x1), (2, .int x2), (3, .int x3), (4, .int x4), (5, .int x5), (7, .int x7)]) hx hb dX6_comes_54 hl (by decide) rfl (fun ls hl => ?_)
        obtain ⟨y12, ey12⟩ : ∃ z : Int32, z = (x7 + (1 : Int32)) := ⟨_, rfl⟩
        have h := h y12 ey12
        refine lv_iinc (v := y12) (lv' := [(7, .int y12), (6, .int x6), (0, .ref (b 0)), (1, .int x1), (2, .int x2), (3, .int x3), (4, .int x4), (5, .int x5)]) hx hb dX6_comes_56 hl (k := 7) rfl (by rw [ey12]; rfl) (by decide) rfl (fun ls hl => ?_)
        refine lv_goto (tgt := 18) hx hb dX6_comes_59 (by decide) ?_
        exact k18 x6 y12 H locs ls h hP hD hS (lv_sub hl [2, 3, 4, 5, 6, 7, 1, 0] rfl)
      · have h := h.2 c11
        refine lv_iload_n hx hb dX6_comes_43 rfl (lv_at hl 3 rfl) ?_
        refine lv_iload hx hb dX6_comes_44 (lv_at hl 7 rfl) ?_
        refine lv_ishr hx hb dX6_comes_46 ?_
        refine lv_iconst (v := 1) hx hb dX6_comes_47 (by decide) ?_
        refine lv_iand hx hb dX6_comes_48 ?_
        refine lv_goto (tgt := 54) hx hb dX6_comes_49 (by decide) ?_
        refine lv_topi (fun y13 ey13 => ?_)
        have h := h y13 ey13
        refine lv_istore (lv' := [(6, .int y13), (0, .ref (b 0)), (1, .int x1), (2, .int x2), (3, .int x3), (4, .int x4), (5, .int x5), (7, .int x7)]) hx hb dX6_comes_54 hl (by decide) rfl (fun ls hl => ?_)
        obtain ⟨y14, ey14⟩ : ∃ z : Int32, z = (x7 + (1 : Int32)) := ⟨_, rfl⟩
        have h := h y14 ey14
        refine lv_iinc (v := y14) (lv' := [(7, .int y14), (6, .int y13), (0, .ref (b 0)), (1, .int x1), (2, .int x2), (3, .int x3), (4, .int x4), (5, .int x5)]) hx hb dX6_comes_56 hl (k := 7) rfl (by rw [ey14]; rfl) (by decide) rfl (fun ls hl => ?_)
        refine lv_goto (tgt := 18) hx hb dX6_comes_59 (by decide) ?_
        exact k18 y13 y14 H locs ls h hP hD hS (lv_sub hl [2, 3, 4, 5, 6, 7, 1, 0] rfl)
def b_X6_comes_6 (M : MS) (x1 : Int32) (x2 : Int32) (x3 : Int32) (post : Int32 → Prop) (g6 : Int32 → Int32 → Prop) (x4 : Int32) (x5 : Int32) : Prop := (x2 ≤ x5 → (vp_in x1 12 ∧ (post ((((mTR M) x1.toNatClampNeg) >>> (x4 &&& 31)) &&& (1 : Int32))))) ∧ (¬ x2 ≤ x5 → (p_X6_comes_18 g6 M x1 x2 x3 x4 x5 (0 : Int32) (0 : Int32) post))
def p_X6_comes_6 (M : MS) (x1 : Int32) (x2 : Int32) (x3 : Int32) (x4 : Int32) (x5 : Int32) (post : Int32 → Prop) : Prop := ∃ (I : Int32 → Int32 → Prop) (mu : Int32 → Int32 → Nat), I x4 x5 ∧ ∀ (x4 : Int32) (x5 : Int32), I x4 x5 → b_X6_comes_6 M x1 x2 x3 post (fun x4' x5' => I x4' x5' ∧ mu x4' x5' < mu x4 x5) x4 x5
set_option maxHeartbeats 1000000 in
set_option maxRecDepth 100000 in
theorem t_X6_comes_6 {p : Program} {l : Launch} {e : Env} {s : State} {m : MethodId} {args : Array Value} {below : List Frame} {meth : Method} {c : Code} {dC : Nat → ClassId} {dI : Nat → Nat → Nat} {cyI cyJ cyZ : ClassId} {r : Nat → Nat} {b : Nat → Nat} {A : Nat → Prop} {M : MS} {x1 : Int32} {x2 : Int32} {x3 : Int32} {x4 : Int32} {x5 : Int32} {post : Int32 → Prop} (G : xG p s m args meth c cX6_comes 8 RX6 (some .int) wsX6_comes (dC, dI) (tyA cyI cyJ cyZ) r A) (h : p_X6_comes_6 M x1 x2 x3 x4 x5 post) {H : Heap} {locs : List Loc} {ls : Array Slot} (hP : va_P (dC, dI) vwCl (wM cyI cyJ cyZ b M) H) (hD : va_D A (wM cyI cyJ cyZ b M)) (hS : va_S A s.heap H locs) (hl : lv_has ls 8 [(0, .ref (b 0)), (1, .int x1), (2, .int x2), (3, .int x3), (4, .int x4), (5, .int x5)]) : W p l e { frames := 1, cells := 0, slots := 0, locals := 21 } s m args below meth c H locs 0 0 (MQ below (va_Qi (fun x u => M = u ∧ post x) (xAt (dC, dI) (tyA cyI cyJ cyZ) (wM cyI cyJ cyZ b) A) A) args s 0 0 A) (F0 m 6 ls []) := by
  obtain ⟨hx, hb, hml, hown, hts, hr, hlocks, hK, hE, hA⟩ := id G
  have hiX6 : ∀ w ∈ wsX60, w ∈ wsX6_comes := by decide +kernel
  have hf28 := hts (.fieldLink RX6 28 "CellMappingModel" "truths" "[I") (by decide +kernel)
  obtain ⟨I, mu, h0, hstep⟩ := h
  suffices hgo : ∀ (n : Nat) (x4 : Int32) (x5 : Int32), I x4 x5 → mu x4 x5 < n → ∀ (H : Heap) (locs : List Loc) (ls : Array Slot), va_P (dC, dI) vwCl (wM cyI cyJ cyZ b M) H → va_D A (wM cyI cyJ cyZ b M) → va_S A s.heap H locs → lv_has ls 8 [(0, .ref (b 0)), (1, .int x1), (2, .int x2), (3, .int x3), (4, .int x4), (5, .int x5)] → W p l e { frames := 1, cells := 0, slots := 0, locals := 21 } s m args below meth c H locs 0 0 (MQ below (va_Qi (fun x u => M = u ∧ post x) (xAt (dC, dI) (tyA cyI cyJ cyZ) (wM cyI cyJ cyZ b) A) A) args s 0 0 A) (F0 m 6 ls []) from hgo (mu x4 x5 + 1) x4 x5 h0 (Nat.lt_succ_self _) H locs ls hP hD hS hl
  clear h0 hP hD hS hl
  intro n
  induction n with
  | zero => intro x4 x5 _ h; exact absurd h (Nat.not_lt_zero _)
  | succ n ih =>
    intro x4 x5 hI hmu H locs ls hP hD hS hl
    have h := hstep x4 x5 hI
    unfold b_X6_comes_6 at h
    have k6 : ∀ (x4' : Int32) (x5' : Int32) (H : Heap) (locs : List Loc) (ls : Array Slot), (fun x4' x5' => I x4' x5' ∧ mu x4' x5' < mu x4 x5) x4' x5' → va_P (dC, dI) vwCl (wM cyI cyJ cyZ b M) H → va_D A (wM cyI cyJ cyZ b M) → va_S A s.heap H locs → lv_has ls 8 [(0, .ref (b 0)), (1, .int x1), (2, .int x2), (3, .int x3), (4, .int x4'), (5, .int x5')] → W p l e { frames := 1, cells := 0, slots := 0, locals := 21 } s m args below meth c H locs 0 0 (MQ below (va_Qi (fun x u => M = u ∧ post x) (xAt (dC, dI) (tyA cyI cyJ cyZ) (wM cyI cyJ cyZ b) A) A) args s 0 0 A) (F0 m 6 ls []) := fun x4' x5' H locs ls hh hP hD hS hl => ih x4' x5' hh.1 (Nat.lt_of_lt_of_le hh.2 (Nat.le_of_lt_succ hmu)) H locs ls hP hD hS hl
    generalize (fun x4' x5' => I x4' x5' ∧ mu x4' x5' < mu x4 x5) = g6 at h k6
    refine lv_iload hx hb dX6_comes_6 (lv_at hl 5 rfl) ?_
    refine lv_iload_n hx hb dX6_comes_8 rfl (lv_at hl 2 rfl) ?_
    refine lv_icmp_ge (tgt := 88) hx hb dX6_comes_9 (by decide) (fun c1 => ?_) (fun c1 => ?_)
    · have h := h.1 c1
      refine lv_aload_n hx hb dX6_comes_88 rfl (lv_at hl 0 rfl) ?_
      refine va_get (D := (dC, dI)) (ci := 5) (v := .ref (b 7)) (C := RX6) (T := TX6) (N := 27) hx hb hts hiX6 hown hK hP 0 rfl rfl 12 (by decide) hf28 (fun _ h9 => h9) rfl dX6_comes_89 ?_
      refine lv_iload_n hx hb dX6_comes_92 rfl (lv_at hl 1 rfl) ?_
      obtain ⟨i2, h⟩ := h
      refine va_iald (D := (dC, dI)) hx hb hK hP 7 0 rfl rfl i2 dX6_comes_93 ?_
      refine lv_iload hx hb dX6_comes_94 (lv_at hl 4 rfl) ?_
      refine lv_ishr hx hb dX6_comes_96 ?_
      refine lv_iconst (v := 1) hx hb dX6_comes_97 (by decide) ?_
      refine lv_iand hx hb dX6_comes_98 ?_
      exact xr_i (S := M) hx hb hr hlocks hK hP hD hS ⟨rfl, h⟩ (Nat.le_of_ble_eq_true rfl) (Nat.le_of_ble_eq_true rfl) dX6_comes_99
    · have h := h.2 c1
      refine lv_iconst (v := 0) hx hb dX6_comes_12 (by decide) ?_
      refine lv_istore (lv' := [(6, .int (0 : Int32)), (0, .ref (b 0)), (1, .int x1), (2, .int x2), (3, .int x3), (4, .int x4), (5, .int x5)]) hx hb dX6_comes_13 hl (by decide) rfl (fun ls hl => ?_)
      refine lv_iconst (v := 0) hx hb dX6_comes_15 (by decide) ?_
      refine lv_istore (lv' := [(7, .int (0 : Int32)), (6, .int (0 : Int32)), (0, .ref (b 0)), (1, .int x1), (2, .int x2), (3, .int x3), (4, .int x4), (5, .int x5)]) hx hb dX6_comes_16 hl (by decide) rfl (fun ls hl => ?_)
      exact t_X6_comes_18 G k6 h hP hD hS (lv_sub hl [2, 3, 4, 5, 6, 7, 1, 0] rfl)
def p_X6_comes (M : MS) (x1 : Int32) (x2 : Int32) (x3 : Int32) (post : Int32 → Prop) : Prop := p_X6_comes_6 M x1 x2 x3 (0 : Int32) (0 : Int32) post
set_option maxHeartbeats 1000000 in
set_option maxRecDepth 100000 in
theorem t_X6_comes {l : Launch} {dC : Nat → ClassId} {dI : Nat → Nat → Nat} {cyI cyJ cyZ : ClassId} {r : Nat → Nat} {b : Nat → Nat} {M : MS} {x1 : Int32} {x2 : Int32} {x3 : Int32} {post : Int32 → Prop} (h : p_X6_comes M x1 x2 x3 post) : xMi l yX6_comes wsX6_comes { frames := 1, cells := 0, slots := 0, locals := 21 } (dC, dI) (tyA cyI cyJ cyZ) r (wM cyI cyJ cyZ b) [.ref (b 0), .int x1, .int x2, .int x3] M (fun x u => M = u ∧ post x) 0 0 := by
  intro sz
  refine Met.ofW (cc := cX6_comes) (maxL := 8) (ret := (some .int)) (by decide) rfl ?_
  intro p e s m args below meth c s₁ B hml hv
  obtain ⟨rfl, G, hP, hD, hS⟩ := xG.of rfl B hml hv
  generalize hAe : va_A (wM cyI cyJ cyZ b M) sz = A at G hD hS ⊢
  have G : xG p s m _ meth c cX6_comes 8 RX6 (some .int) wsX6_comes (dC, dI) (tyA cyI cyJ cyZ) r A := G
  obtain ⟨hx, hb, hml, hown, hts, hr, hlocks, hK, hE, hA⟩ := id G
  have hl := lv_entry ([.ref (b 0), .int x1, .int x2, .int x3]) (n := 8) (Nat.le_of_ble_eq_true rfl)
  rw [lg_entry_eq]
  generalize (lg_sl ([.ref (b 0), .int x1, .int x2, .int x3]) ++ List.replicate (8 - (lg_sl ([.ref (b 0), .int x1, .int x2, .int x3])).length) Slot.unset).toArray = ls at hl ⊢
  have hl : lv_has ls 8 [(0, .ref (b 0)), (1, .int x1), (2, .int x2), (3, .int x3)] := hl
  show W p l e { frames := 1, cells := 0, slots := 0, locals := 21 } s m _ below meth c s.heap [] 0 0 _ _
  unfold p_X6_comes at h
  refine lv_iconst (v := 0) hx hb dX6_comes_0 (by decide) ?_
  refine lv_istore (lv' := [(4, .int (0 : Int32)), (0, .ref (b 0)), (1, .int x1), (2, .int x2), (3, .int x3)]) hx hb dX6_comes_1 hl (by decide) rfl (fun ls hl => ?_)
  refine lv_iconst (v := 0) hx hb dX6_comes_3 (by decide) ?_
  refine lv_istore (lv' := [(5, .int (0 : Int32)), (4, .int (0 : Int32)), (0, .ref (b 0)), (1, .int x1), (2, .int x2), (3, .int x3)]) hx hb dX6_comes_4 hl (by decide) rfl (fun ls hl => ?_)
  exact t_X6_comes_6 G h hP hD hS (lv_sub hl [2, 3, 4, 5, 1, 0] rfl)
def p_X6_tryCell_61 (M : MS) (x1 : Int32) (x2 : Int32) (x3 : Int32) (x4 : Int32) (x5 : Int32) (x6 : Int32) (post : MS → Prop) : Prop := (¬ x6 = ((x4 ^^^ (-1 : Int32)) &&& x5) → (post M)) ∧ (x6 = ((x4 ^^^ (-1 : Int32)) &&& x5) → (p_X6_enter M (((2 : Int32) * x1) + (1 : Int32)) x2 x3 (fun S5 => post S5)))
set_option maxHeartbeats 1000000 in
set_option maxRecDepth 100000 in
theorem t_X6_tryCell_61 {p : Program} {l : Launch} {e : Env} {s : State} {m : MethodId} {args : Array Value} {below : List Frame} {meth : Method} {c : Code} {dC : Nat → ClassId} {dI : Nat → Nat → Nat} {cyI cyJ cyZ : ClassId} {r : Nat → Nat} {b : Nat → Nat} {A : Nat → Prop} {M : MS} {x1 : Int32} {x2 : Int32} {x3 : Int32} {x4 : Int32} {x5 : Int32} {x6 : Int32} {post : MS → Prop} (G : xG p s m args meth c cX6_tryCell 8 RX6 none wsX6_tryCell (dC, dI) (tyA cyI cyJ cyZ) r A) (h : p_X6_tryCell_61 M x1 x2 x3 x4 x5 x6 post) {H : Heap} {locs : List Loc} {ls : Array Slot} (hP : va_P (dC, dI) vwCl (wM cyI cyJ cyZ b M) H) (hD : va_D A (wM cyI cyJ cyZ b M)) (hS : va_S A s.heap H locs) (hl : lv_has ls 8 [(0, .ref (b 0)), (1, .int x1), (2, .int x2), (3, .int x3), (4, .int x4), (5, .int x5), (6, .int x6)]) : W p l e { frames := 2, cells := 0, slots := 0, locals := 51 } s m args below meth c H locs 0 0 (MQ below (va_Qv post (xAt (dC, dI) (tyA cyI cyJ cyZ) (wM cyI cyJ cyZ b) A) A) args s 0 0 A) (F0 m 61 ls []) := by
  obtain ⟨hx, hb, hml, hown, hts, hr, hlocks, hK, hE, hA⟩ := id G
  unfold p_X6_tryCell_61 at h
  refine lv_iload hx hb dX6_tryCell_61 (lv_at hl 6 rfl) ?_
  refine lv_iload hx hb dX6_tryCell_63 (lv_at hl 4 rfl) ?_
  refine lv_iconst (v := -1) hx hb dX6_tryCell_65 (by decide) ?_
  refine lv_ixor hx hb dX6_tryCell_66 ?_
  refine lv_iload hx hb dX6_tryCell_67 (lv_at hl 5 rfl) ?_
  refine lv_iand hx hb dX6_tryCell_69 ?_
  refine lv_icmp_ne (tgt := 84) hx hb dX6_tryCell_70 (by decide) (fun c4 => ?_) (fun c4 => ?_)
  · have h := h.1 c4
    exact xr_v (S := M) hx hb hr hlocks hK hP hD hS h (Nat.le_of_ble_eq_true rfl) (Nat.le_of_ble_eq_true rfl) dX6_tryCell_84
  · have h := h.2 c4
    refine lv_aload_n hx hb dX6_tryCell_73 rfl (lv_at hl 0 rfl) ?_
    refine lv_iconst (v := 2) hx hb dX6_tryCell_74 (by decide) ?_
    refine lv_iload_n hx hb dX6_tryCell_75 rfl (lv_at hl 1 rfl) ?_
    refine lv_imul hx hb dX6_tryCell_76 ?_
    refine lv_iconst (v := 1) hx hb dX6_tryCell_77 (by decide) ?_
    refine lv_iadd hx hb dX6_tryCell_78 ?_
    refine lv_iload_n hx hb dX6_tryCell_79 rfl (lv_at hl 2 rfl) ?_
    refine lv_iload_n hx hb dX6_tryCell_80 rfl (lv_at hl 3 rfl) ?_
    refine xc_Vv (wf := wM cyI cyJ cyZ b) (wr := []) (isC := [0, 1, 2, 3, 4, 5, 6, 7, 8, 9, 10, 11, 12, 13, 14, 15, 16, 17, 18, 19, 20]) (isR := []) (As := [.int (((2 : Int32) * x1) + (1 : Int32)), .int x2, .int x3]) (rest := []) ⟨hx, hb, hml, hown, hts⟩ (t_X6_enter h) (cwV 3 hts gX6_tryCell_X6_enter rfl rfl rfl (by decide +kernel) ⟨Nat.le_of_ble_eq_true rfl, Nat.le_of_ble_eq_true rfl⟩) ⟨hK, hE, hA, hP, hD, hS, rfl, rfl, rfl, rfl, by decide⟩ ⟨0, 5, _, _, rfl, rfl, rfl⟩ rfl rfl hl.1 (Nat.le_of_ble_eq_true rfl) dX6_tryCell_81 ⟨Nat.le_of_ble_eq_true rfl, Nat.le_of_ble_eq_true rfl⟩ (fun  S5 H locs h hP hD hS => ?_)
    have hP : va_P (dC, dI) vwCl (wM cyI cyJ cyZ b S5) H := hP
    have hD : va_D A (wM cyI cyJ cyZ b S5) := hD
    exact xr_v (S := S5) hx hb hr hlocks hK hP hD hS h (Nat.le_of_ble_eq_true rfl) (Nat.le_of_ble_eq_true rfl) dX6_tryCell_84
def b_X6_tryCell_15 (M : MS) (x1 : Int32) (x2 : Int32) (x3 : Int32) (x4 : Int32) (x5 : Int32) (post : MS → Prop) (g15 : Int32 → Int32 → Prop) (x6 : Int32) (x7 : Int32) : Prop := (((1 : Int32) <<< (x3 &&& 31)) ≤ x7 → ((¬ x6 = x4 → (p_X6_tryCell_61 M x1 x2 x3 x4 x5 x6 post)) ∧ (x6 = x4 → (p_X6_enter M ((2 : Int32) * x1) x2 x3 (fun S6 => p_X6_tryCell_61 S6 x1 x2 x3 x4 x5 x6 post))))) ∧ (¬ ((1 : Int32) <<< (x3 &&& 31)) ≤ x7 → (p_X6_comes M x2 x3 x7 (fun r7 => ∀ y9 : Int32, y9 = (x6 ||| (r7 <<< (x7 &&& 31))) → (∀ y10 : Int32, y10 = (x7 + (1 : Int32)) → (g15 y9 y10)))))
def p_X6_tryCell_15 (M : MS) (x1 : Int32) (x2 : Int32) (x3 : Int32) (x4 : Int32) (x5 : Int32) (x6 : Int32) (x7 : Int32) (post : MS → Prop) : Prop := ∃ (I : Int32 → Int32 → Prop) (mu : Int32 → Int32 → Nat), I x6 x7 ∧ ∀ (x6 : Int32) (x7 : Int32), I x6 x7 → b_X6_tryCell_15 M x1 x2 x3 x4 x5 post (fun x6' x7' => I x6' x7' ∧ mu x6' x7' < mu x6 x7) x6 x7
set_option maxHeartbeats 1000000 in
set_option maxRecDepth 100000 in
theorem t_X6_tryCell_15 {p : Program} {l : Launch} {e : Env} {s : State} {m : MethodId} {args : Array Value} {below : List Frame} {meth : Method} {c : Code} {dC : Nat → ClassId} {dI : Nat → Nat → Nat} {cyI cyJ cyZ : ClassId} {r : Nat → Nat} {b : Nat → Nat} {A : Nat → Prop} {M : MS} {x1 : Int32} {x2 : Int32} {x3 : Int32} {x4 : Int32} {x5 : Int32} {x6 : Int32} {x7 : Int32} {post : MS → Prop} (G : xG p s m args meth c cX6_tryCell 8 RX6 none wsX6_tryCell (dC, dI) (tyA cyI cyJ cyZ) r A) (h : p_X6_tryCell_15 M x1 x2 x3 x4 x5 x6 x7 post) {H : Heap} {locs : List Loc} {ls : Array Slot} (hP : va_P (dC, dI) vwCl (wM cyI cyJ cyZ b M) H) (hD : va_D A (wM cyI cyJ cyZ b M)) (hS : va_S A s.heap H locs) (hl : lv_has ls 8 [(0, .ref (b 0)), (1, .int x1), (2, .int x2), (3, .int x3), (4, .int x4), (5, .int x5), (6, .int x6), (7, .int x7)]) : W p l e { frames := 2, cells := 0, slots := 0, locals := 51 } s m args below meth c H locs 0 0 (MQ below (va_Qv post (xAt (dC, dI) (tyA cyI cyJ cyZ) (wM cyI cyJ cyZ b) A) A) args s 0 0 A) (F0 m 15 ls []) := by
  obtain ⟨hx, hb, hml, hown, hts, hr, hlocks, hK, hE, hA⟩ := id G
  obtain ⟨I, mu, h0, hstep⟩ := h
  suffices hgo : ∀ (n : Nat) (x6 : Int32) (x7 : Int32), I x6 x7 → mu x6 x7 < n → ∀ (H : Heap) (locs : List Loc) (ls : Array Slot), va_P (dC, dI) vwCl (wM cyI cyJ cyZ b M) H → va_D A (wM cyI cyJ cyZ b M) → va_S A s.heap H locs → lv_has ls 8 [(0, .ref (b 0)), (1, .int x1), (2, .int x2), (3, .int x3), (4, .int x4), (5, .int x5), (6, .int x6), (7, .int x7)] → W p l e { frames := 2, cells := 0, slots := 0, locals := 51 } s m args below meth c H locs 0 0 (MQ below (va_Qv post (xAt (dC, dI) (tyA cyI cyJ cyZ) (wM cyI cyJ cyZ b) A) A) args s 0 0 A) (F0 m 15 ls []) from hgo (mu x6 x7 + 1) x6 x7 h0 (Nat.lt_succ_self _) H locs ls hP hD hS hl
  clear h0 hP hD hS hl
  intro n
  induction n with
  | zero => intro x6 x7 _ h; exact absurd h (Nat.not_lt_zero _)
  | succ n ih =>
    intro x6 x7 hI hmu H locs ls hP hD hS hl
    have h := hstep x6 x7 hI
    unfold b_X6_tryCell_15 at h
    have k15 : ∀ (x6' : Int32) (x7' : Int32) (H : Heap) (locs : List Loc) (ls : Array Slot), (fun x6' x7' => I x6' x7' ∧ mu x6' x7' < mu x6 x7) x6' x7' → va_P (dC, dI) vwCl (wM cyI cyJ cyZ b M) H → va_D A (wM cyI cyJ cyZ b M) → va_S A s.heap H locs → lv_has ls 8 [(0, .ref (b 0)), (1, .int x1), (2, .int x2), (3, .int x3), (4, .int x4), (5, .int x5), (6, .int x6'), (7, .int x7')] → W p l e { frames := 2, cells := 0, slots := 0, locals := 51 } s m args below meth c H locs 0 0 (MQ below (va_Qv post (xAt (dC, dI) (tyA cyI cyJ cyZ) (wM cyI cyJ cyZ b) A) A) args s 0 0 A) (F0 m 15 ls []) := fun x6' x7' H locs ls hh hP hD hS hl => ih x6' x7' hh.1 (Nat.lt_of_lt_of_le hh.2 (Nat.le_of_lt_succ hmu)) H locs ls hP hD hS hl
    generalize (fun x6' x7' => I x6' x7' ∧ mu x6' x7' < mu x6 x7) = g15 at h k15
    refine lv_iload hx hb dX6_tryCell_15 (lv_at hl 7 rfl) ?_
    refine lv_iconst (v := 1) hx hb dX6_tryCell_17 (by decide) ?_
    refine lv_iload_n hx hb dX6_tryCell_18 rfl (lv_at hl 3 rfl) ?_
    refine lv_ishl hx hb dX6_tryCell_19 ?_
    refine lv_icmp_ge (tgt := 45) hx hb dX6_tryCell_20 (by decide) (fun c2 => ?_) (fun c2 => ?_)
    · have h := h.1 c2
      refine lv_iload hx hb dX6_tryCell_45 (lv_at hl 6 rfl) ?_
      refine lv_iload hx hb dX6_tryCell_47 (lv_at hl 4 rfl) ?_
      refine lv_icmp_ne (tgt := 61) hx hb dX6_tryCell_49 (by decide) (fun c3 => ?_) (fun c3 => ?_)
      · have h := h.1 c3
        exact t_X6_tryCell_61 G h hP hD hS (lv_sub hl [0, 1, 2, 3, 4, 5, 6] rfl)
      · have h := h.2 c3
        refine lv_aload_n hx hb dX6_tryCell_52 rfl (lv_at hl 0 rfl) ?_
        refine lv_iconst (v := 2) hx hb dX6_tryCell_53 (by decide) ?_
        refine lv_iload_n hx hb dX6_tryCell_54 rfl (lv_at hl 1 rfl) ?_
        refine lv_imul hx hb dX6_tryCell_55 ?_
        refine lv_iload_n hx hb dX6_tryCell_56 rfl (lv_at hl 2 rfl) ?_
        refine lv_iload_n hx hb dX6_tryCell_57 rfl (lv_at hl 3 rfl) ?_
        refine xc_Vv (wf := wM cyI cyJ cyZ b) (wr := []) (isC := [0, 1, 2, 3, 4, 5, 6, 7, 8, 9, 10, 11, 12, 13, 14, 15, 16, 17, 18, 19, 20]) (isR := []) (As := [.int ((2 : Int32) * x1), .int x2, .int x3]) (rest := []) ⟨hx, hb, hml, hown, hts⟩ (t_X6_enter h) (cwV 3 hts gX6_tryCell_X6_enter rfl rfl rfl (by decide +kernel) ⟨Nat.le_of_ble_eq_true rfl, Nat.le_of_ble_eq_true rfl⟩) ⟨hK, hE, hA, hP, hD, hS, rfl, rfl, rfl, rfl, by decide⟩ ⟨0, 5, _, _, rfl, rfl, rfl⟩ rfl rfl hl.1 (Nat.le_of_ble_eq_true rfl) dX6_tryCell_58 ⟨Nat.le_of_ble_eq_true rfl, Nat.le_of_ble_eq_true rfl⟩ (fun  S6 H locs h hP hD hS => ?_)
        have hP : va_P (dC, dI) vwCl (wM cyI cyJ cyZ b S6) H := hP
        have hD : va_D A (wM cyI cyJ cyZ b S6) := hD
        exact t_X6_tryCell_61 G h hP hD hS (lv_sub hl [0, 1, 2, 3, 4, 5, 6] rfl)
    · have h := h.2 c2
      refine lv_iload hx hb dX6_tryCell_23 (lv_at hl 6 rfl) ?_
      refine lv_aload_n hx hb dX6_tryCell_25 rfl (lv_at hl 0 rfl) ?_
      refine lv_iload_n hx hb dX6_tryCell_26 rfl (lv_at hl 2 rfl) ?_
      refine lv_iload_n hx hb dX6_tryCell_27 rfl (lv_at hl 3 rfl) ?_
      refine lv_iload hx hb dX6_tryCell_28 (lv_at hl 7 rfl) ?_
      refine xc_Vi (wf := wM cyI cyJ cyZ b) (wr := []) (isC := [0, 1, 2, 3, 4, 5, 6, 7, 8, 9, 10, 11, 12, 13, 14, 15, 16, 17, 18, 19, 20]) (isR := []) (As := [.int x2, .int x3, .int x7]) (rest := [.int x6]) ⟨hx, hb, hml, hown, hts⟩ (t_X6_comes h) (cwV 3 hts gX6_tryCell_X6_comes rfl rfl rfl (by decide +kernel) ⟨Nat.le_of_ble_eq_true rfl, Nat.le_of_ble_eq_true rfl⟩) ⟨hK, hE, hA, hP, hD, hS, rfl, rfl, rfl, rfl, by decide⟩ ⟨0, 5, _, _, rfl, rfl, rfl⟩ rfl rfl hl.1 (Nat.le_of_ble_eq_true rfl) dX6_tryCell_30 ⟨Nat.le_of_ble_eq_true rfl, Nat.le_of_ble_eq_true rfl⟩ (fun r7 S8 H locs h hP hD hS => ?_)
      obtain ⟨rfl, h⟩ := h
      have hP : va_P (dC, dI) vwCl (wM cyI cyJ cyZ b M) H := hP
      have hD : va_D A (wM cyI cyJ cyZ b M) := hD
      refine lv_iload hx hb dX6_tryCell_33 (lv_at hl 7 rfl) ?_
      refine lv_ishl hx hb dX6_tryCell_35 ?_
      refine lv_ior hx hb dX6_tryCell_36 ?_
      refine lv_topi (fun y9 ey9 => ?_)
      have h := h y9 ey9
      refine lv_istore (lv' := [(6, .int y9), (0, .ref (b 0)), (1, .int x1), (2, .int x2), (3, .int x3), (4, .int x4), (5, .int x5), (7, .int x7)]) hx hb dX6_tryCell_37 hl (by decide) rfl (fun ls hl => ?_)
      obtain ⟨y10, ey10⟩ : ∃ z : Int32, z = (x7 + (1 : Int32)) := ⟨_, rfl⟩
      have h := h y10 ey10
      refine lv_iinc (v := y10) (lv' := [(7, .int y10), (6, .int y9), (0, .ref (b 0)), (1, .int x1), (2, .int x2), (3, .int x3), (4, .int x4), (5, .int x5)]) hx hb dX6_tryCell_39 hl (k := 7) rfl (by rw [ey10]; rfl) (by decide) rfl (fun ls hl => ?_)
      refine lv_goto (tgt := 15) hx hb dX6_tryCell_42 (by decide) ?_
      exact k15 y9 y10 H locs ls h hP hD hS (lv_sub hl [2, 3, 4, 5, 6, 7, 1, 0] rfl)
def p_X6_tryCell (M : MS) (x1 : Int32) (x2 : Int32) (x3 : Int32) (x4 : Int32) (post : MS → Prop) : Prop := ∀ y1 : Int32, y1 = (((1 : Int32) <<< (((1 : Int32) <<< (x3 &&& 31)) &&& 31)) - (1 : Int32)) → (p_X6_tryCell_15 M x1 x2 x3 x4 y1 (0 : Int32) (0 : Int32) post)
set_option maxHeartbeats 1000000 in
set_option maxRecDepth 100000 in
theorem t_X6_tryCell {l : Launch} {dC : Nat → ClassId} {dI : Nat → Nat → Nat} {cyI cyJ cyZ : ClassId} {r : Nat → Nat} {b : Nat → Nat} {M : MS} {x1 : Int32} {x2 : Int32} {x3 : Int32} {x4 : Int32} {post : MS → Prop} (h : p_X6_tryCell M x1 x2 x3 x4 post) : xMv l yX6_tryCell wsX6_tryCell { frames := 2, cells := 0, slots := 0, locals := 51 } (dC, dI) (tyA cyI cyJ cyZ) r (wM cyI cyJ cyZ b) [.ref (b 0), .int x1, .int x2, .int x3, .int x4] M post 0 0 := by
  intro sz
  refine Met.ofW (cc := cX6_tryCell) (maxL := 8) (ret := none) (by decide) rfl ?_
  intro p e s m args below meth c s₁ B hml hv
  obtain ⟨rfl, G, hP, hD, hS⟩ := xG.of rfl B hml hv
  generalize hAe : va_A (wM cyI cyJ cyZ b M) sz = A at G hD hS ⊢
  have G : xG p s m _ meth c cX6_tryCell 8 RX6 none wsX6_tryCell (dC, dI) (tyA cyI cyJ cyZ) r A := G
  obtain ⟨hx, hb, hml, hown, hts, hr, hlocks, hK, hE, hA⟩ := id G
  have hl := lv_entry ([.ref (b 0), .int x1, .int x2, .int x3, .int x4]) (n := 8) (Nat.le_of_ble_eq_true rfl)
  rw [lg_entry_eq]
  generalize (lg_sl ([.ref (b 0), .int x1, .int x2, .int x3, .int x4]) ++ List.replicate (8 - (lg_sl ([.ref (b 0), .int x1, .int x2, .int x3, .int x4])).length) Slot.unset).toArray = ls at hl ⊢
  have hl : lv_has ls 8 [(0, .ref (b 0)), (1, .int x1), (2, .int x2), (3, .int x3), (4, .int x4)] := hl
  show W p l e { frames := 2, cells := 0, slots := 0, locals := 51 } s m _ below meth c s.heap [] 0 0 _ _
  unfold p_X6_tryCell at h
  refine lv_iconst (v := 1) hx hb dX6_tryCell_0 (by decide) ?_
  refine lv_iconst (v := 1) hx hb dX6_tryCell_1 (by decide) ?_
  refine lv_iload_n hx hb dX6_tryCell_2 rfl (lv_at hl 3 rfl) ?_
  refine lv_ishl hx hb dX6_tryCell_3 ?_
  refine lv_ishl hx hb dX6_tryCell_4 ?_
  refine lv_iconst (v := 1) hx hb dX6_tryCell_5 (by decide) ?_
  refine lv_isub hx hb dX6_tryCell_6 ?_
  refine lv_topi (fun y1 ey1 => ?_)
  have h := h y1 ey1
  refine lv_istore (lv' := [(5, .int y1), (0, .ref (b 0)), (1, .int x1), (2, .int x2), (3, .int x3), (4, .int x4)]) hx hb dX6_tryCell_7 hl (by decide) rfl (fun ls hl => ?_)
  refine lv_iconst (v := 0) hx hb dX6_tryCell_9 (by decide) ?_
  refine lv_istore (lv' := [(6, .int (0 : Int32)), (5, .int y1), (0, .ref (b 0)), (1, .int x1), (2, .int x2), (3, .int x3), (4, .int x4)]) hx hb dX6_tryCell_10 hl (by decide) rfl (fun ls hl => ?_)
  refine lv_iconst (v := 0) hx hb dX6_tryCell_12 (by decide) ?_
  refine lv_istore (lv' := [(7, .int (0 : Int32)), (6, .int (0 : Int32)), (5, .int y1), (0, .ref (b 0)), (1, .int x1), (2, .int x2), (3, .int x3), (4, .int x4)]) hx hb dX6_tryCell_13 hl (by decide) rfl (fun ls hl => ?_)
  exact t_X6_tryCell_15 G h hP hD hS (lv_sub hl [3, 4, 5, 6, 7, 2, 1, 0] rfl)
def p_X6_tryMoves_219 (g27 : MS → Int32 → Prop) (M : MS) (x1 : Int32) (x2 : Int32) (x3 : Int32) (x4 : Int32) (x5 : Int32) (x6 : Int32) (t0 : Int32) (t1 : Int32) (post : MS → Prop) : Prop := vp_in t1 3 ∧ (∀ M19 : MS, M19 = (mTD_s M (upd (mTD M) t1.toNatClampNeg t0)) → (p_X6_tryCell M19 x1 x2 x3 x4 (fun S20 => ∀ y21 : Int32, y21 = (x6 + (1 : Int32)) → (g27 S20 y21))))
set_option maxHeartbeats 1000000 in
set_option maxRecDepth 100000 in
theorem t_X6_tryMoves_219 {p : Program} {l : Launch} {e : Env} {s : State} {m : MethodId} {args : Array Value} {below : List Frame} {meth : Method} {c : Code} {dC : Nat → ClassId} {dI : Nat → Nat → Nat} {cyI cyJ cyZ : ClassId} {r : Nat → Nat} {b : Nat → Nat} {A : Nat → Prop} {g27 : MS → Int32 → Prop} {M : MS} {x1 : Int32} {x2 : Int32} {x3 : Int32} {x4 : Int32} {x5 : Int32} {x6 : Int32} {t0 : Int32} {t1 : Int32} {post : MS → Prop} (G : xG p s m args meth c cX6_tryMoves 12 RX6 none wsX6_tryMoves (dC, dI) (tyA cyI cyJ cyZ) r A) (k27 : ∀ (M' : MS) (x6' : Int32) (H : Heap) (locs : List Loc) (ls : Array Slot), g27 M' x6' → va_P (dC, dI) vwCl (wM cyI cyJ cyZ b M') H → va_D A (wM cyI cyJ cyZ b M') → va_S A s.heap H locs → lv_has ls 12 [(0, .ref (b 0)), (1, .int x1), (2, .int x2), (3, .int x3), (4, .int x4), (5, .int x5), (6, .int x6')] → W p l e { frames := 3, cells := 0, slots := 0, locals := 78 } s m args below meth c H locs 0 0 (MQ below (va_Qv post (xAt (dC, dI) (tyA cyI cyJ cyZ) (wM cyI cyJ cyZ b) A) A) args s 0 0 A) (F0 m 27 ls [])) (h : p_X6_tryMoves_219 g27 M x1 x2 x3 x4 x5 x6 t0 t1 post) {H : Heap} {locs : List Loc} {ls : Array Slot} (hP : va_P (dC, dI) vwCl (wM cyI cyJ cyZ b M) H) (hD : va_D A (wM cyI cyJ cyZ b M)) (hS : va_S A s.heap H locs) (hl : lv_has ls 12 [(0, .ref (b 0)), (1, .int x1), (2, .int x2), (3, .int x3), (4, .int x4), (5, .int x5), (6, .int x6)]) : W p l e { frames := 3, cells := 0, slots := 0, locals := 78 } s m args below meth c H locs 0 0 (MQ below (va_Qv post (xAt (dC, dI) (tyA cyI cyJ cyZ) (wM cyI cyJ cyZ b) A) A) args s 0 0 A) (F0 m 219 ls [.int t0, .int t1, .ref (b 20)]) := by
  obtain ⟨hx, hb, hml, hown, hts, hr, hlocks, hK, hE, hA⟩ := id G
  unfold p_X6_tryMoves_219 at h
  obtain ⟨i18, h⟩ := h
  refine va_iast (D := (dC, dI)) hx hb hK hP hD hS 20 0 rfl rfl i18 dX6_tryMoves_219 (fun H locs hP hD hS => ?_)
  obtain ⟨M19, eM19⟩ : ∃ z : MS, z = (mTD_s M (upd (mTD M) t1.toNatClampNeg t0)) := ⟨_, rfl⟩
  have h := h M19 eM19
  have hP := nP_mTD eM19 hP
  have hD := nD_mTD eM19 hD
  refine lv_aload_n hx hb dX6_tryMoves_220 rfl (lv_at hl 0 rfl) ?_
  refine lv_iload_n hx hb dX6_tryMoves_221 rfl (lv_at hl 1 rfl) ?_
  refine lv_iload_n hx hb dX6_tryMoves_222 rfl (lv_at hl 2 rfl) ?_
  refine lv_iload_n hx hb dX6_tryMoves_223 rfl (lv_at hl 3 rfl) ?_
  refine lv_iload hx hb dX6_tryMoves_224 (lv_at hl 4 rfl) ?_
  refine xc_Vv (wf := wM cyI cyJ cyZ b) (wr := []) (isC := [0, 1, 2, 3, 4, 5, 6, 7, 8, 9, 10, 11, 12, 13, 14, 15, 16, 17, 18, 19, 20]) (isR := []) (As := [.int x1, .int x2, .int x3, .int x4]) (rest := []) ⟨hx, hb, hml, hown, hts⟩ (t_X6_tryCell h) (cwV 4 hts gX6_tryMoves_X6_tryCell rfl rfl rfl (by decide +kernel) ⟨Nat.le_of_ble_eq_true rfl, Nat.le_of_ble_eq_true rfl⟩) ⟨hK, hE, hA, hP, hD, hS, rfl, rfl, rfl, rfl, by decide⟩ ⟨0, 5, _, _, rfl, rfl, rfl⟩ rfl rfl hl.1 (Nat.le_of_ble_eq_true rfl) dX6_tryMoves_226 ⟨Nat.le_of_ble_eq_true rfl, Nat.le_of_ble_eq_true rfl⟩ (fun  S20 H locs h hP hD hS => ?_)
  have hP : va_P (dC, dI) vwCl (wM cyI cyJ cyZ b S20) H := hP
  have hD : va_D A (wM cyI cyJ cyZ b S20) := hD
  obtain ⟨y21, ey21⟩ : ∃ z : Int32, z = (x6 + (1 : Int32)) := ⟨_, rfl⟩
  have h := h y21 ey21
  refine lv_iinc (v := y21) (lv' := [(6, .int y21), (0, .ref (b 0)), (1, .int x1), (2, .int x2), (3, .int x3), (4, .int x4), (5, .int x5)]) hx hb dX6_tryMoves_229 hl (k := 6) rfl (by rw [ey21]; rfl) (by decide) rfl (fun ls hl => ?_)
  refine lv_goto (tgt := 27) hx hb dX6_tryMoves_232 (by decide) ?_
  exact k27 S20 y21 H locs ls h hP hD hS (lv_sub hl [1, 2, 3, 4, 5, 6, 0] rfl)
def p_X6_tryMoves_188 (g27 : MS → Int32 → Prop) (M : MS) (x1 : Int32) (x2 : Int32) (x3 : Int32) (x4 : Int32) (x5 : Int32) (x6 : Int32) (x10 : Int32) (t0 : Int32) (t1 : Int32) (post : MS → Prop) : Prop := vp_in t1 3 ∧ (∀ M16 : MS, M16 = (mTD_s M (upd (mTD M) t1.toNatClampNeg t0)) → ((x3 ≤ (2 : Int32) → (p_X6_tryMoves_219 g27 M16 x1 x2 x3 x4 x5 x6 (-1 : Int32) (2 : Int32) post)) ∧ (¬ x3 ≤ (2 : Int32) → (vp_in (x10 / (2 : Int32)) 3 ∧ (p_X6_tryMoves_219 g27 M16 x1 x2 x3 x4 x5 x6 (((2 : Int32) * ((mLE M16) (x10 / (2 : Int32)).toNatClampNeg)) + (x10 - x10 / (2 : Int32) * (2 : Int32))) (2 : Int32) post)))))
set_option maxHeartbeats 1000000 in
set_option maxRecDepth 100000 in
theorem t_X6_tryMoves_188 {p : Program} {l : Launch} {e : Env} {s : State} {m : MethodId} {args : Array Value} {below : List Frame} {meth : Method} {c : Code} {dC : Nat → ClassId} {dI : Nat → Nat → Nat} {cyI cyJ cyZ : ClassId} {r : Nat → Nat} {b : Nat → Nat} {A : Nat → Prop} {g27 : MS → Int32 → Prop} {M : MS} {x1 : Int32} {x2 : Int32} {x3 : Int32} {x4 : Int32} {x5 : Int32} {x6 : Int32} {x10 : Int32} {t0 : Int32} {t1 : Int32} {post : MS → Prop} (G : xG p s m args meth c cX6_tryMoves 12 RX6 none wsX6_tryMoves (dC, dI) (tyA cyI cyJ cyZ) r A) (k27 : ∀ (M' : MS) (x6' : Int32) (H : Heap) (locs : List Loc) (ls : Array Slot), g27 M' x6' → va_P (dC, dI) vwCl (wM cyI cyJ cyZ b M') H → va_D A (wM cyI cyJ cyZ b M') → va_S A s.heap H locs → lv_has ls 12 [(0, .ref (b 0)), (1, .int x1), (2, .int x2), (3, .int x3), (4, .int x4), (5, .int x5), (6, .int x6')] → W p l e { frames := 3, cells := 0, slots := 0, locals := 78 } s m args below meth c H locs 0 0 (MQ below (va_Qv post (xAt (dC, dI) (tyA cyI cyJ cyZ) (wM cyI cyJ cyZ b) A) A) args s 0 0 A) (F0 m 27 ls [])) (h : p_X6_tryMoves_188 g27 M x1 x2 x3 x4 x5 x6 x10 t0 t1 post) {H : Heap} {locs : List Loc} {ls : Array Slot} (hP : va_P (dC, dI) vwCl (wM cyI cyJ cyZ b M) H) (hD : va_D A (wM cyI cyJ cyZ b M)) (hS : va_S A s.heap H locs) (hl : lv_has ls 12 [(0, .ref (b 0)), (1, .int x1), (2, .int x2), (3, .int x3), (4, .int x4), (5, .int x5), (6, .int x6), (10, .int x10)]) : W p l e { frames := 3, cells := 0, slots := 0, locals := 78 } s m args below meth c H locs 0 0 (MQ below (va_Qv post (xAt (dC, dI) (tyA cyI cyJ cyZ) (wM cyI cyJ cyZ b) A) A) args s 0 0 A) (F0 m 188 ls [.int t0, .int t1, .ref (b 20)]) := by
  obtain ⟨hx, hb, hml, hown, hts, hr, hlocks, hK, hE, hA⟩ := id G
  have hiX6 : ∀ w ∈ wsX60, w ∈ wsX6_tryMoves := by decide +kernel
  have hf69 := hts (.fieldLink RX6 69 "CellMappingModel" "tried" "[I") (by decide +kernel)
  have hf66 := hts (.fieldLink RX6 66 "CellMappingModel" "leaves" "[I") (by decide +kernel)
  unfold p_X6_tryMoves_188 at h
  obtain ⟨i15, h⟩ := h
  refine va_iast (D := (dC, dI)) hx hb hK hP hD hS 20 0 rfl rfl i15 dX6_tryMoves_188 (fun H locs hP hD hS => ?_)
  obtain ⟨M16, eM16⟩ : ∃ z : MS, z = (mTD_s M (upd (mTD M) t1.toNatClampNeg t0)) := ⟨_, rfl⟩
  have h := h M16 eM16
  have hP := nP_mTD eM16 hP
  have hD := nD_mTD eM16 hD
  refine lv_aload_n hx hb dX6_tryMoves_189 rfl (lv_at hl 0 rfl) ?_
  refine va_get (D := (dC, dI)) (ci := 5) (v := .ref (b 20)) (C := RX6) (T := TX6) (N := 27) hx hb hts hiX6 hown hK hP 0 rfl rfl 26 (by decide) hf69 (fun _ h9 => h9) rfl dX6_tryMoves_190 ?_
  refine lv_iconst (v := 2) hx hb dX6_tryMoves_193 (by decide) ?_
  refine lv_iload_n hx hb dX6_tryMoves_194 rfl (lv_at hl 3 rfl) ?_
  refine lv_iconst (v := 2) hx hb dX6_tryMoves_195 (by decide) ?_
  refine lv_icmp_le (tgt := 218) hx hb dX6_tryMoves_196 (by decide) (fun c17 => ?_) (fun c17 => ?_)
  · have h := h.1 c17
    refine lv_iconst (v := -1) hx hb dX6_tryMoves_218 (by decide) ?_
    exact t_X6_tryMoves_219 G k27 h hP hD hS (lv_sub hl [0, 1, 2, 3, 4, 5, 6] rfl)
  · have h := h.2 c17
    refine lv_iconst (v := 2) hx hb dX6_tryMoves_199 (by decide) ?_
    refine lv_aload_n hx hb dX6_tryMoves_200 rfl (lv_at hl 0 rfl) ?_
    refine va_get (D := (dC, dI)) (ci := 5) (v := .ref (b 19)) (C := RX6) (T := TX6) (N := 27) hx hb hts hiX6 hown hK hP 0 rfl rfl 25 (by decide) hf66 (fun _ h9 => h9) rfl dX6_tryMoves_201 ?_
    refine lv_iload hx hb dX6_tryMoves_204 (lv_at hl 7 rfl) ?_
    refine lv_iconst (v := 2) hx hb dX6_tryMoves_206 (by decide) ?_
    refine lv_idiv hx hb dX6_tryMoves_207 (by decide) ?_
    obtain ⟨i22, h⟩ := h
    refine va_iald (D := (dC, dI)) hx hb hK hP 19 0 rfl rfl i22 dX6_tryMoves_208 ?_
    refine lv_imul hx hb dX6_tryMoves_209 ?_
    refine lv_iload hx hb dX6_tryMoves_210 (lv_at hl 7 rfl) ?_
    refine lv_iconst (v := 2) hx hb dX6_tryMoves_212 (by decide) ?_
    refine lv_irem hx hb dX6_tryMoves_213 (by decide) ?_
    refine lv_iadd hx hb dX6_tryMoves_214 ?_
    refine lv_goto (tgt := 219) hx hb dX6_tryMoves_215 (by decide) ?_
    exact t_X6_tryMoves_219 G k27 h hP hD hS (lv_sub hl [0, 1, 2, 3, 4, 5, 6] rfl)
def p_X6_tryMoves_126 (g27 : MS → Int32 → Prop) (M : MS) (x1 : Int32) (x2 : Int32) (x3 : Int32) (x4 : Int32) (x5 : Int32) (x6 : Int32) (x8 : Int32) (x9 : Int32) (x10 : Int32) (t0 : Int32) (post : MS → Prop) : Prop := (¬ t0 = 0 → (vp_in (x8 / (2 : Int32)) 3 ∧ (vp_in (0 : Int32) 3 ∧ (∀ M13 : MS, M13 = (mTD_s M (upd (mTD M) (0 : Int32).toNatClampNeg (((2 : Int32) * ((mLE M) (x8 / (2 : Int32)).toNatClampNeg)) + (x8 - x8 / (2 : Int32) * (2 : Int32))))) → ((x3 ≤ (1 : Int32) → (p_X6_tryMoves_188 g27 M13 x1 x2 x3 x4 x5 x6 x10 (-1 : Int32) (1 : Int32) post)) ∧ (¬ x3 ≤ (1 : Int32) → (vp_in (x9 / (2 : Int32)) 3 ∧ (p_X6_tryMoves_188 g27 M13 x1 x2 x3 x4 x5 x6 x10 (((2 : Int32) * ((mLE M13) (x9 / (2 : Int32)).toNatClampNeg)) + (x9 - x9 / (2 : Int32) * (2 : Int32))) (1 : Int32) post)))))))) ∧ (t0 = 0 → (∀ y24 : Int32, y24 = (x6 + (1 : Int32)) → (g27 M y24)))
set_option maxHeartbeats 1000000 in
set_option maxRecDepth 100000 in
theorem t_X6_tryMoves_126 {p : Program} {l : Launch} {e : Env} {s : State} {m : MethodId} {args : Array Value} {below : List Frame} {meth : Method} {c : Code} {dC : Nat → ClassId} {dI : Nat → Nat → Nat} {cyI cyJ cyZ : ClassId} {r : Nat → Nat} {b : Nat → Nat} {A : Nat → Prop} {g27 : MS → Int32 → Prop} {M : MS} {x1 : Int32} {x2 : Int32} {x3 : Int32} {x4 : Int32} {x5 : Int32} {x6 : Int32} {x8 : Int32} {x9 : Int32} {x10 : Int32} {t0 : Int32} {post : MS → Prop} (G : xG p s m args meth c cX6_tryMoves 12 RX6 none wsX6_tryMoves (dC, dI) (tyA cyI cyJ cyZ) r A) (k27 : ∀ (M' : MS) (x6' : Int32) (H : Heap) (locs : List Loc) (ls : Array Slot), g27 M' x6' → va_P (dC, dI) vwCl (wM cyI cyJ cyZ b M') H → va_D A (wM cyI cyJ cyZ b M') → va_S A s.heap H locs → lv_has ls 12 [(0, .ref (b 0)), (1, .int x1), (2, .int x2), (3, .int x3), (4, .int x4), (5, .int x5), (6, .int x6')] → W p l e { frames := 3, cells := 0, slots := 0, locals := 78 } s m args below meth c H locs 0 0 (MQ below (va_Qv post (xAt (dC, dI) (tyA cyI cyJ cyZ) (wM cyI cyJ cyZ b) A) A) args s 0 0 A) (F0 m 27 ls [])) (h : p_X6_tryMoves_126 g27 M x1 x2 x3 x4 x5 x6 x8 x9 x10 t0 post) {H : Heap} {locs : List Loc} {ls : Array Slot} (hP : va_P (dC, dI) vwCl (wM cyI cyJ cyZ b M) H) (hD : va_D A (wM cyI cyJ cyZ b M)) (hS : va_S A s.heap H locs) (hl : lv_has ls 12 [(0, .ref (b 0)), (1, .int x1), (2, .int x2), (3, .int x3), (4, .int x4), (5, .int x5), (6, .int x6), (8, .int x8), (9, .int x9), (10, .int x10)]) : W p l e { frames := 3, cells := 0, slots := 0, locals := 78 } s m args below meth c H locs 0 0 (MQ below (va_Qv post (xAt (dC, dI) (tyA cyI cyJ cyZ) (wM cyI cyJ cyZ b) A) A) args s 0 0 A) (F0 m 126 ls [.int t0]) := by
  obtain ⟨hx, hb, hml, hown, hts, hr, hlocks, hK, hE, hA⟩ := id G
  have hiX6 : ∀ w ∈ wsX60, w ∈ wsX6_tryMoves := by decide +kernel
  have hf69 := hts (.fieldLink RX6 69 "CellMappingModel" "tried" "[I") (by decide +kernel)
  have hf66 := hts (.fieldLink RX6 66 "CellMappingModel" "leaves" "[I") (by decide +kernel)
  unfold p_X6_tryMoves_126 at h
  refine lv_istore (lv' := [(11, .int t0), (0, .ref (b 0)), (1, .int x1), (2, .int x2), (3, .int x3), (4, .int x4), (5, .int x5), (6, .int x6), (8, .int x8), (9, .int x9), (10, .int x10)]) hx hb dX6_tryMoves_126 hl (by decide) rfl (fun ls hl => ?_)
  refine lv_iload hx hb dX6_tryMoves_128 (lv_at hl 0 rfl) ?_
  refine lv_if_ne (tgt := 136) hx hb dX6_tryMoves_130 (by decide) (fun c10 => ?_) (fun c10 => ?_)
  · have h := h.1 c10
    refine lv_aload_n hx hb dX6_tryMoves_136 rfl (lv_at hl 1 rfl) ?_
    refine va_get (D := (dC, dI)) (ci := 5) (v := .ref (b 20)) (C := RX6) (T := TX6) (N := 27) hx hb hts hiX6 hown hK hP 0 rfl rfl 26 (by decide) hf69 (fun _ h9 => h9) rfl dX6_tryMoves_137 ?_
    refine lv_iconst (v := 0) hx hb dX6_tryMoves_140 (by decide) ?_
    refine lv_iconst (v := 2) hx hb dX6_tryMoves_141 (by decide) ?_
    refine lv_aload_n hx hb dX6_tryMoves_142 rfl (lv_at hl 1 rfl) ?_
    refine va_get (D := (dC, dI)) (ci := 5) (v := .ref (b 19)) (C := RX6) (T := TX6) (N := 27) hx hb hts hiX6 hown hK hP 0 rfl rfl 25 (by decide) hf66 (fun _ h9 => h9) rfl dX6_tryMoves_143 ?_
    refine lv_iload hx hb dX6_tryMoves_146 (lv_at hl 8 rfl) ?_
    refine lv_iconst (v := 2) hx hb dX6_tryMoves_148 (by decide) ?_
    refine lv_idiv hx hb dX6_tryMoves_149 (by decide) ?_
    obtain ⟨i11, h⟩ := h
    refine va_iald (D := (dC, dI)) hx hb hK hP 19 0 rfl rfl i11 dX6_tryMoves_150 ?_
    refine lv_imul hx hb dX6_tryMoves_151 ?_
    refine lv_iload hx hb dX6_tryMoves_152 (lv_at hl 8 rfl) ?_
    refine lv_iconst (v := 2) hx hb dX6_tryMoves_154 (by decide) ?_
    refine lv_irem hx hb dX6_tryMoves_155 (by decide) ?_
    refine lv_iadd hx hb dX6_tryMoves_156 ?_
    obtain ⟨i12, h⟩ := h
    refine va_iast (D := (dC, dI)) hx hb hK hP hD hS 20 0 rfl rfl i12 dX6_tryMoves_157 (fun H locs hP hD hS => ?_)
    obtain ⟨M13, eM13⟩ : ∃ z : MS, z = (mTD_s M (upd (mTD M) (0 : Int32).toNatClampNeg (((2 : Int32) * ((mLE M) (x8 / (2 : Int32)).toNatClampNeg)) + (x8 - x8 / (2 : Int32) * (2 : Int32))))) := ⟨_, rfl⟩
    have h := h M13 eM13
    have hP := nP_mTD eM13 hP
    have hD := nD_mTD eM13 hD
    refine lv_aload_n hx hb dX6_tryMoves_158 rfl (lv_at hl 1 rfl) ?_
    refine va_get (D := (dC, dI)) (ci := 5) (v := .ref (b 20)) (C := RX6) (T := TX6) (N := 27) hx hb hts hiX6 hown hK hP 0 rfl rfl 26 (by decide) hf69 (fun _ h9 => h9) rfl dX6_tryMoves_159 ?_
    refine lv_iconst (v := 1) hx hb dX6_tryMoves_162 (by decide) ?_
    refine lv_iload_n hx hb dX6_tryMoves_163 rfl (lv_at hl 4 rfl) ?_
    refine lv_iconst (v := 1) hx hb dX6_tryMoves_164 (by decide) ?_
    refine lv_icmp_le (tgt := 187) hx hb dX6_tryMoves_165 (by decide) (fun c14 => ?_) (fun c14 => ?_)
    · have h := h.1 c14
      refine lv_iconst (v := -1) hx hb dX6_tryMoves_187 (by decide) ?_
      exact t_X6_tryMoves_188 G k27 h hP hD hS (lv_sub hl [1, 2, 3, 4, 5, 6, 7, 10] rfl)
    · have h := h.2 c14
      refine lv_iconst (v := 2) hx hb dX6_tryMoves_168 (by decide) ?_
      refine lv_aload_n hx hb dX6_tryMoves_169 rfl (lv_at hl 1 rfl) ?_
      refine va_get (D := (dC, dI)) (ci := 5) (v := .ref (b 19)) (C := RX6) (T := TX6) (N := 27) hx hb hts hiX6 hown hK hP 0 rfl rfl 25 (by decide) hf66 (fun _ h9 => h9) rfl dX6_tryMoves_170 ?_
      refine lv_iload hx hb dX6_tryMoves_173 (lv_at hl 9 rfl) ?_
      refine lv_iconst (v := 2) hx hb dX6_tryMoves_175 (by decide) ?_
      refine lv_idiv hx hb dX6_tryMoves_176 (by decide) ?_
      obtain ⟨i23, h⟩ := h
      refine va_iald (D := (dC, dI)) hx hb hK hP 19 0 rfl rfl i23 dX6_tryMoves_177 ?_
      refine lv_imul hx hb dX6_tryMoves_178 ?_
      refine lv_iload hx hb dX6_tryMoves_179 (lv_at hl 9 rfl) ?_
      refine lv_iconst (v := 2) hx hb dX6_tryMoves_181 (by decide) ?_
      refine lv_irem hx hb dX6_tryMoves_182 (by decide) ?_
      refine lv_iadd hx hb dX6_tryMoves_183 ?_
      refine lv_goto (tgt := 188) hx hb dX6_tryMoves_184 (by decide) ?_
      exact t_X6_tryMoves_188 G k27 h hP hD hS (lv_sub hl [1, 2, 3, 4, 5, 6, 7, 10] rfl)
  · have h := h.2 c10
    refine lv_goto (tgt := 229) hx hb dX6_tryMoves_133 (by decide) ?_
    obtain ⟨y24, ey24⟩ : ∃ z : Int32, z = (x6 + (1 : Int32)) := ⟨_, rfl⟩
    have h := h y24 ey24
    refine lv_iinc (v := y24) (lv' := [(6, .int y24), (11, .int t0), (0, .ref (b 0)), (1, .int x1), (2, .int x2), (3, .int x3), (4, .int x4), (5, .int x5), (8, .int x8), (9, .int x9), (10, .int x10)]) hx hb dX6_tryMoves_229 hl (k := 7) rfl (by rw [ey24]; rfl) (by decide) rfl (fun ls hl => ?_)
    refine lv_goto (tgt := 27) hx hb dX6_tryMoves_232 (by decide) ?_
    exact k27 M y24 H locs ls h hP hD hS (lv_sub hl [2, 3, 4, 5, 6, 7, 0] rfl)
def p_X6_tryMoves_125 (g27 : MS → Int32 → Prop) (M : MS) (x1 : Int32) (x2 : Int32) (x3 : Int32) (x4 : Int32) (x5 : Int32) (x6 : Int32) (x8 : Int32) (x9 : Int32) (x10 : Int32) (post : MS → Prop) : Prop := p_X6_tryMoves_126 g27 M x1 x2 x3 x4 x5 x6 x8 x9 x10 (0 : Int32) post
set_option maxHeartbeats 1000000 in
set_option maxRecDepth 100000 in
theorem t_X6_tryMoves_125 {p : Program} {l : Launch} {e : Env} {s : State} {m : MethodId} {args : Array Value} {below : List Frame} {meth : Method} {c : Code} {dC : Nat → ClassId} {dI : Nat → Nat → Nat} {cyI cyJ cyZ : ClassId} {r : Nat → Nat} {b : Nat → Nat} {A : Nat → Prop} {g27 : MS → Int32 → Prop} {M : MS} {x1 : Int32} {x2 : Int32} {x3 : Int32} {x4 : Int32} {x5 : Int32} {x6 : Int32} {x8 : Int32} {x9 : Int32} {x10 : Int32} {post : MS → Prop} (G : xG p s m args meth c cX6_tryMoves 12 RX6 none wsX6_tryMoves (dC, dI) (tyA cyI cyJ cyZ) r A) (k27 : ∀ (M' : MS) (x6' : Int32) (H : Heap) (locs : List Loc) (ls : Array Slot), g27 M' x6' → va_P (dC, dI) vwCl (wM cyI cyJ cyZ b M') H → va_D A (wM cyI cyJ cyZ b M') → va_S A s.heap H locs → lv_has ls 12 [(0, .ref (b 0)), (1, .int x1), (2, .int x2), (3, .int x3), (4, .int x4), (5, .int x5), (6, .int x6')] → W p l e { frames := 3, cells := 0, slots := 0, locals := 78 } s m args below meth c H locs 0 0 (MQ below (va_Qv post (xAt (dC, dI) (tyA cyI cyJ cyZ) (wM cyI cyJ cyZ b) A) A) args s 0 0 A) (F0 m 27 ls [])) (h : p_X6_tryMoves_125 g27 M x1 x2 x3 x4 x5 x6 x8 x9 x10 post) {H : Heap} {locs : List Loc} {ls : Array Slot} (hP : va_P (dC, dI) vwCl (wM cyI cyJ cyZ b M) H) (hD : va_D A (wM cyI cyJ cyZ b M)) (hS : va_S A s.heap H locs) (hl : lv_has ls 12 [(0, .ref (b 0)), (1, .int x1), (2, .int x2), (3, .int x3), (4, .int x4), (5, .int x5), (6, .int x6), (8, .int x8), (9, .int x9), (10, .int x10)]) : W p l e { frames := 3, cells := 0, slots := 0, locals := 78 } s m args below meth c H locs 0 0 (MQ below (va_Qv post (xAt (dC, dI) (tyA cyI cyJ cyZ) (wM cyI cyJ cyZ b) A) A) args s 0 0 A) (F0 m 125 ls []) := by
  obtain ⟨hx, hb, hml, hown, hts, hr, hlocks, hK, hE, hA⟩ := id G
  unfold p_X6_tryMoves_125 at h
  refine lv_iconst (v := 0) hx hb dX6_tryMoves_125 (by decide) ?_
  exact t_X6_tryMoves_126 G k27 h hP hD hS (lv_sub hl [0, 1, 2, 3, 4, 5, 6, 7, 8, 9] rfl)
def p_X6_tryMoves_121 (g27 : MS → Int32 → Prop) (M : MS) (x1 : Int32) (x2 : Int32) (x3 : Int32) (x4 : Int32) (x5 : Int32) (x6 : Int32) (x8 : Int32) (x9 : Int32) (x10 : Int32) (post : MS → Prop) : Prop := p_X6_tryMoves_126 g27 M x1 x2 x3 x4 x5 x6 x8 x9 x10 (1 : Int32) post
set_option maxHeartbeats 1000000 in
set_option maxRecDepth 100000 in
theorem t_X6_tryMoves_121 {p : Program} {l : Launch} {e : Env} {s : State} {m : MethodId} {args : Array Value} {below : List Frame} {meth : Method} {c : Code} {dC : Nat → ClassId} {dI : Nat → Nat → Nat} {cyI cyJ cyZ : ClassId} {r : Nat → Nat} {b : Nat → Nat} {A : Nat → Prop} {g27 : MS → Int32 → Prop} {M : MS} {x1 : Int32} {x2 : Int32} {x3 : Int32} {x4 : Int32} {x5 : Int32} {x6 : Int32} {x8 : Int32} {x9 : Int32} {x10 : Int32} {post : MS → Prop} (G : xG p s m args meth c cX6_tryMoves 12 RX6 none wsX6_tryMoves (dC, dI) (tyA cyI cyJ cyZ) r A) (k27 : ∀ (M' : MS) (x6' : Int32) (H : Heap) (locs : List Loc) (ls : Array Slot), g27 M' x6' → va_P (dC, dI) vwCl (wM cyI cyJ cyZ b M') H → va_D A (wM cyI cyJ cyZ b M') → va_S A s.heap H locs → lv_has ls 12 [(0, .ref (b 0)), (1, .int x1), (2, .int x2), (3, .int x3), (4, .int x4), (5, .int x5), (6, .int x6')] → W p l e { frames := 3, cells := 0, slots := 0, locals := 78 } s m args below meth c H locs 0 0 (MQ below (va_Qv post (xAt (dC, dI) (tyA cyI cyJ cyZ) (wM cyI cyJ cyZ b) A) A) args s 0 0 A) (F0 m 27 ls [])) (h : p_X6_tryMoves_121 g27 M x1 x2 x3 x4 x5 x6 x8 x9 x10 post) {H : Heap} {locs : List Loc} {ls : Array Slot} (hP : va_P (dC, dI) vwCl (wM cyI cyJ cyZ b M) H) (hD : va_D A (wM cyI cyJ cyZ b M)) (hS : va_S A s.heap H locs) (hl : lv_has ls 12 [(0, .ref (b 0)), (1, .int x1), (2, .int x2), (3, .int x3), (4, .int x4), (5, .int x5), (6, .int x6), (8, .int x8), (9, .int x9), (10, .int x10)]) : W p l e { frames := 3, cells := 0, slots := 0, locals := 78 } s m args below meth c H locs 0 0 (MQ below (va_Qv post (xAt (dC, dI) (tyA cyI cyJ cyZ) (wM cyI cyJ cyZ b) A) A) args s 0 0 A) (F0 m 121 ls []) := by
  obtain ⟨hx, hb, hml, hown, hts, hr, hlocks, hK, hE, hA⟩ := id G
  unfold p_X6_tryMoves_121 at h
  refine lv_iconst (v := 1) hx hb dX6_tryMoves_121 (by decide) ?_
  refine lv_goto (tgt := 126) hx hb dX6_tryMoves_122 (by decide) ?_
  exact t_X6_tryMoves_126 G k27 h hP hD hS (lv_sub hl [0, 1, 2, 3, 4, 5, 6, 7, 8, 9] rfl)
def p_X6_tryMoves_87 (g27 : MS → Int32 → Prop) (M : MS) (x1 : Int32) (x2 : Int32) (x3 : Int32) (x4 : Int32) (x5 : Int32) (x6 : Int32) (x8 : Int32) (x9 : Int32) (x10 : Int32) (t0 : Int32) (post : MS → Prop) : Prop := (t0 = 0 → (p_X6_tryMoves_125 g27 M x1 x2 x3 x4 x5 x6 x8 x9 x10 post)) ∧ (¬ t0 = 0 → ((x3 < (3 : Int32) → (p_X6_tryMoves_121 g27 M x1 x2 x3 x4 x5 x6 x8 x9 x10 post)) ∧ (¬ x3 < (3 : Int32) → (((x10 / (2 : Int32)) = (x8 / (2 : Int32)) → (p_X6_tryMoves_125 g27 M x1 x2 x3 x4 x5 x6 x8 x9 x10 post)) ∧ (¬ (x10 / (2 : Int32)) = (x8 / (2 : Int32)) → (((x10 / (2 : Int32)) = (x9 / (2 : Int32)) → (p_X6_tryMoves_125 g27 M x1 x2 x3 x4 x5 x6 x8 x9 x10 post)) ∧ (¬ (x10 / (2 : Int32)) = (x9 / (2 : Int32)) → (p_X6_tryMoves_121 g27 M x1 x2 x3 x4 x5 x6 x8 x9 x10 post))))))))
set_option maxHeartbeats 1000000 in
set_option maxRecDepth 100000 in
theorem t_X6_tryMoves_87 {p : Program} {l : Launch} {e : Env} {s : State} {m : MethodId} {args : Array Value} {below : List Frame} {meth : Method} {c : Code} {dC : Nat → ClassId} {dI : Nat → Nat → Nat} {cyI cyJ cyZ : ClassId} {r : Nat → Nat} {b : Nat → Nat} {A : Nat → Prop} {g27 : MS → Int32 → Prop} {M : MS} {x1 : Int32} {x2 : Int32} {x3 : Int32} {x4 : Int32} {x5 : Int32} {x6 : Int32} {x8 : Int32} {x9 : Int32} {x10 : Int32} {t0 : Int32} {post : MS → Prop} (G : xG p s m args meth c cX6_tryMoves 12 RX6 none wsX6_tryMoves (dC, dI) (tyA cyI cyJ cyZ) r A) (k27 : ∀ (M' : MS) (x6' : Int32) (H : Heap) (locs : List Loc) (ls : Array Slot), g27 M' x6' → va_P (dC, dI) vwCl (wM cyI cyJ cyZ b M') H → va_D A (wM cyI cyJ cyZ b M') → va_S A s.heap H locs → lv_has ls 12 [(0, .ref (b 0)), (1, .int x1), (2, .int x2), (3, .int x3), (4, .int x4), (5, .int x5), (6, .int x6')] → W p l e { frames := 3, cells := 0, slots := 0, locals := 78 } s m args below meth c H locs 0 0 (MQ below (va_Qv post (xAt (dC, dI) (tyA cyI cyJ cyZ) (wM cyI cyJ cyZ b) A) A) args s 0 0 A) (F0 m 27 ls [])) (h : p_X6_tryMoves_87 g27 M x1 x2 x3 x4 x5 x6 x8 x9 x10 t0 post) {H : Heap} {locs : List Loc} {ls : Array Slot} (hP : va_P (dC, dI) vwCl (wM cyI cyJ cyZ b M) H) (hD : va_D A (wM cyI cyJ cyZ b M)) (hS : va_S A s.heap H locs) (hl : lv_has ls 12 [(0, .ref (b 0)), (1, .int x1), (2, .int x2), (3, .int x3), (4, .int x4), (5, .int x5), (6, .int x6), (8, .int x8), (9, .int x9), (10, .int x10)]) : W p l e { frames := 3, cells := 0, slots := 0, locals := 78 } s m args below meth c H locs 0 0 (MQ below (va_Qv post (xAt (dC, dI) (tyA cyI cyJ cyZ) (wM cyI cyJ cyZ b) A) A) args s 0 0 A) (F0 m 87 ls [.int t0]) := by
  obtain ⟨hx, hb, hml, hown, hts, hr, hlocks, hK, hE, hA⟩ := id G
  unfold p_X6_tryMoves_87 at h
  refine lv_istore (lv' := [(11, .int t0), (0, .ref (b 0)), (1, .int x1), (2, .int x2), (3, .int x3), (4, .int x4), (5, .int x5), (6, .int x6), (8, .int x8), (9, .int x9), (10, .int x10)]) hx hb dX6_tryMoves_87 hl (by decide) rfl (fun ls hl => ?_)
  refine lv_iload hx hb dX6_tryMoves_89 (lv_at hl 0 rfl) ?_
  refine lv_if_eq (tgt := 125) hx hb dX6_tryMoves_91 (by decide) (fun c9 => ?_) (fun c9 => ?_)
  · have h := h.1 c9
    exact t_X6_tryMoves_125 G k27 h hP hD hS (lv_sub hl [1, 2, 3, 4, 5, 6, 7, 8, 9, 10] rfl)
  · have h := h.2 c9
    refine lv_iload_n hx hb dX6_tryMoves_94 rfl (lv_at hl 4 rfl) ?_
    refine lv_iconst (v := 3) hx hb dX6_tryMoves_95 (by decide) ?_
    refine lv_icmp_lt (tgt := 121) hx hb dX6_tryMoves_96 (by decide) (fun c25 => ?_) (fun c25 => ?_)
    · have h := h.1 c25
      exact t_X6_tryMoves_121 G k27 h hP hD hS (lv_sub hl [1, 2, 3, 4, 5, 6, 7, 8, 9, 10] rfl)
    · have h := h.2 c25
      refine lv_iload hx hb dX6_tryMoves_99 (lv_at hl 10 rfl) ?_
      refine lv_iconst (v := 2) hx hb dX6_tryMoves_101 (by decide) ?_
      refine lv_idiv hx hb dX6_tryMoves_102 (by decide) ?_
      refine lv_iload hx hb dX6_tryMoves_103 (lv_at hl 8 rfl) ?_
      refine lv_iconst (v := 2) hx hb dX6_tryMoves_105 (by decide) ?_
      refine lv_idiv hx hb dX6_tryMoves_106 (by decide) ?_
      refine lv_icmp_eq (tgt := 125) hx hb dX6_tryMoves_107 (by decide) (fun c26 => ?_) (fun c26 => ?_)
      · have h := h.1 c26
        exact t_X6_tryMoves_125 G k27 h hP hD hS (lv_sub hl [1, 2, 3, 4, 5, 6, 7, 8, 9, 10] rfl)
      · have h := h.2 c26
        refine lv_iload hx hb dX6_tryMoves_110 (lv_at hl 10 rfl) ?_
        refine lv_iconst (v := 2) hx hb dX6_tryMoves_112 (by decide) ?_
        refine lv_idiv hx hb dX6_tryMoves_113 (by decide) ?_
        refine lv_iload hx hb dX6_tryMoves_114 (lv_at hl 9 rfl) ?_
        refine lv_iconst (v := 2) hx hb dX6_tryMoves_116 (by decide) ?_
        refine lv_idiv hx hb dX6_tryMoves_117 (by decide) ?_
        refine lv_icmp_eq (tgt := 125) hx hb dX6_tryMoves_118 (by decide) (fun c27 => ?_) (fun c27 => ?_)
        · have h := h.1 c27
          exact t_X6_tryMoves_125 G k27 h hP hD hS (lv_sub hl [1, 2, 3, 4, 5, 6, 7, 8, 9, 10] rfl)
        · have h := h.2 c27
          exact t_X6_tryMoves_121 G k27 h hP hD hS (lv_sub hl [1, 2, 3, 4, 5, 6, 7, 8, 9, 10] rfl)
def p_X6_tryMoves_82 (g27 : MS → Int32 → Prop) (M : MS) (x1 : Int32) (x2 : Int32) (x3 : Int32) (x4 : Int32) (x5 : Int32) (x6 : Int32) (x8 : Int32) (x9 : Int32) (x10 : Int32) (post : MS → Prop) : Prop := p_X6_tryMoves_87 g27 M x1 x2 x3 x4 x5 x6 x8 x9 x10 (1 : Int32) post
set_option maxHeartbeats 1000000 in
set_option maxRecDepth 100000 in
theorem t_X6_tryMoves_82 {p : Program} {l : Launch} {e : Env} {s : State} {m : MethodId} {args : Array Value} {below : List Frame} {meth : Method} {c : Code} {dC : Nat → ClassId} {dI : Nat → Nat → Nat} {cyI cyJ cyZ : ClassId} {r : Nat → Nat} {b : Nat → Nat} {A : Nat → Prop} {g27 : MS → Int32 → Prop} {M : MS} {x1 : Int32} {x2 : Int32} {x3 : Int32} {x4 : Int32} {x5 : Int32} {x6 : Int32} {x8 : Int32} {x9 : Int32} {x10 : Int32} {post : MS → Prop} (G : xG p s m args meth c cX6_tryMoves 12 RX6 none wsX6_tryMoves (dC, dI) (tyA cyI cyJ cyZ) r A) (k27 : ∀ (M' : MS) (x6' : Int32) (H : Heap) (locs : List Loc) (ls : Array Slot), g27 M' x6' → va_P (dC, dI) vwCl (wM cyI cyJ cyZ b M') H → va_D A (wM cyI cyJ cyZ b M') → va_S A s.heap H locs → lv_has ls 12 [(0, .ref (b 0)), (1, .int x1), (2, .int x2), (3, .int x3), (4, .int x4), (5, .int x5), (6, .int x6')] → W p l e { frames := 3, cells := 0, slots := 0, locals := 78 } s m args below meth c H locs 0 0 (MQ below (va_Qv post (xAt (dC, dI) (tyA cyI cyJ cyZ) (wM cyI cyJ cyZ b) A) A) args s 0 0 A) (F0 m 27 ls [])) (h : p_X6_tryMoves_82 g27 M x1 x2 x3 x4 x5 x6 x8 x9 x10 post) {H : Heap} {locs : List Loc} {ls : Array Slot} (hP : va_P (dC, dI) vwCl (wM cyI cyJ cyZ b M) H) (hD : va_D A (wM cyI cyJ cyZ b M)) (hS : va_S A s.heap H locs) (hl : lv_has ls 12 [(0, .ref (b 0)), (1, .int x1), (2, .int x2), (3, .int x3), (4, .int x4), (5, .int x5), (6, .int x6), (8, .int x8), (9, .int x9), (10, .int x10)]) : W p l e { frames := 3, cells := 0, slots := 0, locals := 78 } s m args below meth c H locs 0 0 (MQ below (va_Qv post (xAt (dC, dI) (tyA cyI cyJ cyZ) (wM cyI cyJ cyZ b) A) A) args s 0 0 A) (F0 m 82 ls []) := by
  obtain ⟨hx, hb, hml, hown, hts, hr, hlocks, hK, hE, hA⟩ := id G
  unfold p_X6_tryMoves_82 at h
  refine lv_iconst (v := 1) hx hb dX6_tryMoves_82 (by decide) ?_
  refine lv_goto (tgt := 87) hx hb dX6_tryMoves_83 (by decide) ?_
  exact t_X6_tryMoves_87 G k27 h hP hD hS (lv_sub hl [0, 1, 2, 3, 4, 5, 6, 7, 8, 9] rfl)
def b_X6_tryMoves_27 (x1 : Int32) (x2 : Int32) (x3 : Int32) (x4 : Int32) (x5 : Int32) (post : MS → Prop) (g27 : MS → Int32 → Prop) (M : MS) (x6 : Int32) : Prop := (x5 ≤ x6 → (post M)) ∧ (¬ x5 ≤ x6 → (∀ y4 : Int32, y4 = ((2 : Int32) * x3) → (¬ y4 = 0 ∧ (∀ y5 : Int32, y5 = (x6 - x6 / y4 * y4) → (¬ y4 = 0 ∧ (¬ y4 = 0 ∧ (∀ y6 : Int32, y6 = ((x6 / y4) - (x6 / y4) / y4 * y4) → (¬ (y4 * y4) = 0 ∧ (∀ y7 : Int32, y7 = (x6 / (y4 * y4)) → ((x3 < (2 : Int32) → (p_X6_tryMoves_82 g27 M x1 x2 x3 x4 x5 x6 y5 y6 y7 post)) ∧ (¬ x3 < (2 : Int32) → (((y5 / (2 : Int32)) = (y6 / (2 : Int32)) → (p_X6_tryMoves_87 g27 M x1 x2 x3 x4 x5 x6 y5 y6 y7 (0 : Int32) post)) ∧ (¬ (y5 / (2 : Int32)) = (y6 / (2 : Int32)) → (p_X6_tryMoves_82 g27 M x1 x2 x3 x4 x5 x6 y5 y6 y7 post))))))))))))))
def p_X6_tryMoves_27 (M : MS) (x1 : Int32) (x2 : Int32) (x3 : Int32) (x4 : Int32) (x5 : Int32) (x6 : Int32) (post : MS → Prop) : Prop := ∃ (I : MS → Int32 → Prop) (mu : MS → Int32 → Nat), I M x6 ∧ ∀ (M : MS) (x6 : Int32), I M x6 → b_X6_tryMoves_27 x1 x2 x3 x4 x5 post (fun M' x6' => I M' x6' ∧ mu M' x6' < mu M x6) M x6
set_option maxHeartbeats 1000000 in
set_option maxRecDepth 100000 in
theorem t_X6_tryMoves_27 {p : Program} {l : Launch} {e : Env} {s : State} {m : MethodId} {args : Array Value} {below : List Frame} {meth : Method} {c : Code} {dC : Nat → ClassId} {dI : Nat → Nat → Nat} {cyI cyJ cyZ : ClassId} {r : Nat → Nat} {b : Nat → Nat} {A : Nat → Prop} {M : MS} {x1 : Int32} {x2 : Int32} {x3 : Int32} {x4 : Int32} {x5 : Int32} {x6 : Int32} {post : MS → Prop} (G : xG p s m args meth c cX6_tryMoves 12 RX6 none wsX6_tryMoves (dC, dI) (tyA cyI cyJ cyZ) r A) (h : p_X6_tryMoves_27 M x1 x2 x3 x4 x5 x6 post) {H : Heap} {locs : List Loc} {ls : Array Slot} (hP : va_P (dC, dI) vwCl (wM cyI cyJ cyZ b M) H) (hD : va_D A (wM cyI cyJ cyZ b M)) (hS : va_S A s.heap H locs) (hl : lv_has ls 12 [(0, .ref (b 0)), (1, .int x1), (2, .int x2), (3, .int x3), (4, .int x4), (5, .int x5), (6, .int x6)]) : W p l e { frames := 3, cells := 0, slots := 0, locals := 78 } s m args below meth c H locs 0 0 (MQ below (va_Qv post (xAt (dC, dI) (tyA cyI cyJ cyZ) (wM cyI cyJ cyZ b) A) A) args s 0 0 A) (F0 m 27 ls []) := by
  obtain ⟨hx, hb, hml, hown, hts, hr, hlocks, hK, hE, hA⟩ := id G
  obtain ⟨I, mu, h0, hstep⟩ := h
  suffices hgo : ∀ (n : Nat) (M : MS) (x6 : Int32), I M x6 → mu M x6 < n → ∀ (H : Heap) (locs : List Loc) (ls : Array Slot), va_P (dC, dI) vwCl (wM cyI cyJ cyZ b M) H → va_D A (wM cyI cyJ cyZ b M) → va_S A s.heap H locs → lv_has ls 12 [(0, .ref (b 0)), (1, .int x1), (2, .int x2), (3, .int x3), (4, .int x4), (5, .int x5), (6, .int x6)] → W p l e { frames := 3, cells := 0, slots := 0, locals := 78 } s m args below meth c H locs 0 0 (MQ below (va_Qv post (xAt (dC, dI) (tyA cyI cyJ cyZ) (wM cyI cyJ cyZ b) A) A) args s 0 0 A) (F0 m 27 ls []) from hgo (mu M x6 + 1) M x6 h0 (Nat.lt_succ_self _) H locs ls hP hD hS hl
  clear h0 hP hD hS hl
  intro n
  induction n with
  | zero => intro M x6 _ h; exact absurd h (Nat.not_lt_zero _)
  | succ n ih =>
    intro M x6 hI hmu H locs ls hP hD hS hl
    have h := hstep M x6 hI
    unfold b_X6_tryMoves_27 at h
    have k27 : ∀ (M' : MS) (x6' : Int32) (H : Heap) (locs : List Loc) (ls : Array Slot), (fun M' x6' => I M' x6' ∧ mu M' x6' < mu M x6) M' x6' → va_P (dC, dI) vwCl (wM cyI cyJ cyZ b M') H → va_D A (wM cyI cyJ cyZ b M') → va_S A s.heap H locs → lv_has ls 12 [(0, .ref (b 0)), (1, .int x1), (2, .int x2), (3, .int x3), (4, .int x4), (5, .int x5), (6, .int x6')] → W p l e { frames := 3, cells := 0, slots := 0, locals := 78 } s m args below meth c H locs 0 0 (MQ below (va_Qv post (xAt (dC, dI) (tyA cyI cyJ cyZ) (wM cyI cyJ cyZ b) A) A) args s 0 0 A) (F0 m 27 ls []) := fun M' x6' H locs ls hh hP hD hS hl => ih M' x6' hh.1 (Nat.lt_of_lt_of_le hh.2 (Nat.le_of_lt_succ hmu)) H locs ls hP hD hS hl
    generalize (fun M' x6' => I M' x6' ∧ mu M' x6' < mu M x6) = g27 at h k27
    refine lv_iload hx hb dX6_tryMoves_27 (lv_at hl 6 rfl) ?_
    refine lv_iload hx hb dX6_tryMoves_29 (lv_at hl 5 rfl) ?_
    refine lv_icmp_ge (tgt := 235) hx hb dX6_tryMoves_31 (by decide) (fun c3 => ?_) (fun c3 => ?_)
    · have h := h.1 c3
      exact xr_v (S := M) hx hb hr hlocks hK hP hD hS h (Nat.le_of_ble_eq_true rfl) (Nat.le_of_ble_eq_true rfl) dX6_tryMoves_235
    · have h := h.2 c3
      refine lv_iconst (v := 2) hx hb dX6_tryMoves_34 (by decide) ?_
      refine lv_iload_n hx hb dX6_tryMoves_35 rfl (lv_at hl 3 rfl) ?_
      refine lv_imul hx hb dX6_tryMoves_36 ?_
      refine lv_topi (fun y4 ey4 => ?_)
      have h := h y4 ey4
      refine lv_istore (lv' := [(7, .int y4), (0, .ref (b 0)), (1, .int x1), (2, .int x2), (3, .int x3), (4, .int x4), (5, .int x5), (6, .int x6)]) hx hb dX6_tryMoves_37 hl (by decide) rfl (fun ls hl => ?_)
      refine lv_iload hx hb dX6_tryMoves_39 (lv_at hl 7 rfl) ?_
      refine lv_iload hx hb dX6_tryMoves_41 (lv_at hl 0 rfl) ?_
      obtain ⟨hq, h⟩ := h
      refine lv_irem hx hb dX6_tryMoves_43 hq ?_
      refine lv_topi (fun y5 ey5 => ?_)
      have h := h y5 ey5
      refine lv_istore (lv' := [(8, .int y5), (7, .int y4), (0, .ref (b 0)), (1, .int x1), (2, .int x2), (3, .int x3), (4, .int x4), (5, .int x5), (6, .int x6)]) hx hb dX6_tryMoves_44 hl (by decide) rfl (fun ls hl => ?_)
      refine lv_iload hx hb dX6_tryMoves_46 (lv_at hl 8 rfl) ?_
      refine lv_iload hx hb dX6_tryMoves_48 (lv_at hl 1 rfl) ?_
      obtain ⟨hq, h⟩ := h
      refine lv_idiv hx hb dX6_tryMoves_50 hq ?_
      refine lv_iload hx hb dX6_tryMoves_51 (lv_at hl 1 rfl) ?_
      obtain ⟨hq, h⟩ := h
      refine lv_irem hx hb dX6_tryMoves_53 hq ?_
      refine lv_topi (fun y6 ey6 => ?_)
      have h := h y6 ey6
      refine lv_istore (lv' := [(9, .int y6), (8, .int y5), (7, .int y4), (0, .ref (b 0)), (1, .int x1), (2, .int x2), (3, .int x3), (4, .int x4), (5, .int x5), (6, .int x6)]) hx hb dX6_tryMoves_54 hl (by decide) rfl (fun ls hl => ?_)
      refine lv_iload hx hb dX6_tryMoves_56 (lv_at hl 9 rfl) ?_
      refine lv_iload hx hb dX6_tryMoves_58 (lv_at hl 2 rfl) ?_
      refine lv_iload hx hb dX6_tryMoves_60 (lv_at hl 2 rfl) ?_
      refine lv_imul hx hb dX6_tryMoves_62 ?_
      obtain ⟨hq, h⟩ := h
      refine lv_idiv hx hb dX6_tryMoves_63 hq ?_
      refine lv_topi (fun y7 ey7 => ?_)
      have h := h y7 ey7
      refine lv_istore (lv' := [(10, .int y7), (9, .int y6), (8, .int y5), (7, .int y4), (0, .ref (b 0)), (1, .int x1), (2, .int x2), (3, .int x3), (4, .int x4), (5, .int x5), (6, .int x6)]) hx hb dX6_tryMoves_64 hl (by decide) rfl (fun ls hl => ?_)
      refine lv_iload_n hx hb dX6_tryMoves_66 rfl (lv_at hl 7 rfl) ?_
      refine lv_iconst (v := 2) hx hb dX6_tryMoves_67 (by decide) ?_
      refine lv_icmp_lt (tgt := 82) hx hb dX6_tryMoves_68 (by decide) (fun c8 => ?_) (fun c8 => ?_)
      · have h := h.1 c8
        exact t_X6_tryMoves_82 G k27 h hP hD hS (lv_sub hl [4, 5, 6, 7, 8, 9, 10, 2, 1, 0] rfl)
      · have h := h.2 c8
        refine lv_iload hx hb dX6_tryMoves_71 (lv_at hl 2 rfl) ?_
        refine lv_iconst (v := 2) hx hb dX6_tryMoves_73 (by decide) ?_
        refine lv_idiv hx hb dX6_tryMoves_74 (by decide) ?_
        refine lv_iload hx hb dX6_tryMoves_75 (lv_at hl 1 rfl) ?_
        refine lv_iconst (v := 2) hx hb dX6_tryMoves_77 (by decide) ?_
        refine lv_idiv hx hb dX6_tryMoves_78 (by decide) ?_
        refine lv_icmp_eq (tgt := 86) hx hb dX6_tryMoves_79 (by decide) (fun c28 => ?_) (fun c28 => ?_)
        · have h := h.1 c28
          refine lv_iconst (v := 0) hx hb dX6_tryMoves_86 (by decide) ?_
          exact t_X6_tryMoves_87 G k27 h hP hD hS (lv_sub hl [4, 5, 6, 7, 8, 9, 10, 2, 1, 0] rfl)
        · have h := h.2 c28
          exact t_X6_tryMoves_82 G k27 h hP hD hS (lv_sub hl [4, 5, 6, 7, 8, 9, 10, 2, 1, 0] rfl)
def p_X6_tryMoves (M : MS) (x1 : Int32) (x2 : Int32) (x3 : Int32) (x4 : Int32) (post : MS → Prop) : Prop := (¬ x3 = (1 : Int32) → ((¬ x3 = (2 : Int32) → (p_X6_tryMoves_27 M x1 x2 x3 x4 (216 : Int32) (0 : Int32) post)) ∧ (x3 = (2 : Int32) → (p_X6_tryMoves_27 M x1 x2 x3 x4 (16 : Int32) (0 : Int32) post)))) ∧ (x3 = (1 : Int32) → (p_X6_tryMoves_27 M x1 x2 x3 x4 (2 : Int32) (0 : Int32) post))
set_option maxHeartbeats 1000000 in
set_option maxRecDepth 100000 in
theorem t_X6_tryMoves {l : Launch} {dC : Nat → ClassId} {dI : Nat → Nat → Nat} {cyI cyJ cyZ : ClassId} {r : Nat → Nat} {b : Nat → Nat} {M : MS} {x1 : Int32} {x2 : Int32} {x3 : Int32} {x4 : Int32} {post : MS → Prop} (h : p_X6_tryMoves M x1 x2 x3 x4 post) : xMv l yX6_tryMoves wsX6_tryMoves { frames := 3, cells := 0, slots := 0, locals := 78 } (dC, dI) (tyA cyI cyJ cyZ) r (wM cyI cyJ cyZ b) [.ref (b 0), .int x1, .int x2, .int x3, .int x4] M post 0 0 := by
  intro sz
  refine Met.ofW (cc := cX6_tryMoves) (maxL := 12) (ret := none) (by decide) rfl ?_
  intro p e s m args below meth c s₁ B hml hv
  obtain ⟨rfl, G, hP, hD, hS⟩ := xG.of rfl B hml hv
  generalize hAe : va_A (wM cyI cyJ cyZ b M) sz = A at G hD hS ⊢
  have G : xG p s m _ meth c cX6_tryMoves 12 RX6 none wsX6_tryMoves (dC, dI) (tyA cyI cyJ cyZ) r A := G
  obtain ⟨hx, hb, hml, hown, hts, hr, hlocks, hK, hE, hA⟩ := id G
  have hl := lv_entry ([.ref (b 0), .int x1, .int x2, .int x3, .int x4]) (n := 12) (Nat.le_of_ble_eq_true rfl)
  rw [lg_entry_eq]
  generalize (lg_sl ([.ref (b 0), .int x1, .int x2, .int x3, .int x4]) ++ List.replicate (12 - (lg_sl ([.ref (b 0), .int x1, .int x2, .int x3, .int x4])).length) Slot.unset).toArray = ls at hl ⊢
  have hl : lv_has ls 12 [(0, .ref (b 0)), (1, .int x1), (2, .int x2), (3, .int x3), (4, .int x4)] := hl
  show W p l e { frames := 3, cells := 0, slots := 0, locals := 78 } s m _ below meth c s.heap [] 0 0 _ _
  unfold p_X6_tryMoves at h
  refine lv_iload_n hx hb dX6_tryMoves_0 rfl (lv_at hl 3 rfl) ?_
  refine lv_iconst (v := 1) hx hb dX6_tryMoves_1 (by decide) ?_
  refine lv_icmp_ne (tgt := 9) hx hb dX6_tryMoves_2 (by decide) (fun c1 => ?_) (fun c1 => ?_)
  · have h := h.1 c1
    refine lv_iload_n hx hb dX6_tryMoves_9 rfl (lv_at hl 3 rfl) ?_
    refine lv_iconst (v := 2) hx hb dX6_tryMoves_10 (by decide) ?_
    refine lv_icmp_ne (tgt := 19) hx hb dX6_tryMoves_11 (by decide) (fun c2 => ?_) (fun c2 => ?_)
    · have h := h.1 c2
      refine lv_sipush (v := 216) hx hb dX6_tryMoves_19 (by decide) ?_
      refine lv_istore (lv' := [(5, .int (216 : Int32)), (0, .ref (b 0)), (1, .int x1), (2, .int x2), (3, .int x3), (4, .int x4)]) hx hb dX6_tryMoves_22 hl (by decide) rfl (fun ls hl => ?_)
      refine lv_iconst (v := 0) hx hb dX6_tryMoves_24 (by decide) ?_
      refine lv_istore (lv' := [(6, .int (0 : Int32)), (5, .int (216 : Int32)), (0, .ref (b 0)), (1, .int x1), (2, .int x2), (3, .int x3), (4, .int x4)]) hx hb dX6_tryMoves_25 hl (by decide) rfl (fun ls hl => ?_)
      exact t_X6_tryMoves_27 G h hP hD hS (lv_sub hl [2, 3, 4, 5, 6, 1, 0] rfl)
    · have h := h.2 c2
      refine lv_bipush (v := 16) hx hb dX6_tryMoves_14 (by decide) ?_
      refine lv_goto (tgt := 22) hx hb dX6_tryMoves_16 (by decide) ?_
      refine lv_istore (lv' := [(5, .int (16 : Int32)), (0, .ref (b 0)), (1, .int x1), (2, .int x2), (3, .int x3), (4, .int x4)]) hx hb dX6_tryMoves_22 hl (by decide) rfl (fun ls hl => ?_)
      refine lv_iconst (v := 0) hx hb dX6_tryMoves_24 (by decide) ?_
      refine lv_istore (lv' := [(6, .int (0 : Int32)), (5, .int (16 : Int32)), (0, .ref (b 0)), (1, .int x1), (2, .int x2), (3, .int x3), (4, .int x4)]) hx hb dX6_tryMoves_25 hl (by decide) rfl (fun ls hl => ?_)
      exact t_X6_tryMoves_27 G h hP hD hS (lv_sub hl [2, 3, 4, 5, 6, 1, 0] rfl)
  · have h := h.2 c1
    refine lv_iconst (v := 2) hx hb dX6_tryMoves_5 (by decide) ?_
    refine lv_goto (tgt := 22) hx hb dX6_tryMoves_6 (by decide) ?_
    refine lv_istore (lv' := [(5, .int (2 : Int32)), (0, .ref (b 0)), (1, .int x1), (2, .int x2), (3, .int x3), (4, .int x4)]) hx hb dX6_tryMoves_22 hl (by decide) rfl (fun ls hl => ?_)
    refine lv_iconst (v := 0) hx hb dX6_tryMoves_24 (by decide) ?_
    refine lv_istore (lv' := [(6, .int (0 : Int32)), (5, .int (2 : Int32)), (0, .ref (b 0)), (1, .int x1), (2, .int x2), (3, .int x3), (4, .int x4)]) hx hb dX6_tryMoves_25 hl (by decide) rfl (fun ls hl => ?_)
    exact t_X6_tryMoves_27 G h hP hD hS (lv_sub hl [2, 3, 4, 5, 6, 1, 0] rfl)
def b_X6_workAnd_47 (g2 : MS → Int32 → Prop) (x1 : Int32) (x2 : Int32) (x4 : Int32) (x5 : Int32) (post : MS → Prop) (g47 : MS → Int32 → Prop) (M : MS) (x6 : Int32) : Prop := ((mCE M) ≤ x6 → (∀ y12 : Int32, y12 = (x2 + (1 : Int32)) → (g2 M y12))) ∧ (¬ (mCE M) ≤ x6 → (vp_in x6 12 ∧ ((¬ ((mPI M) x6.toNatClampNeg) = x5 → (∀ y15 : Int32, y15 = (x6 + (1 : Int32)) → (g47 M y15))) ∧ (((mPI M) x6.toNatClampNeg) = x5 → (p_X6_tryMoves M x1 x6 x5 x4 (fun S16 => ∀ y17 : Int32, y17 = (x6 + (1 : Int32)) → (g47 S16 y17)))))))
def p_X6_workAnd_47 (g2 : MS → Int32 → Prop) (M : MS) (x1 : Int32) (x2 : Int32) (x4 : Int32) (x5 : Int32) (x6 : Int32) (post : MS → Prop) : Prop := ∃ (I : MS → Int32 → Prop) (mu : MS → Int32 → Nat), I M x6 ∧ ∀ (M : MS) (x6 : Int32), I M x6 → b_X6_workAnd_47 g2 x1 x2 x4 x5 post (fun M' x6' => I M' x6' ∧ mu M' x6' < mu M x6) M x6
set_option maxHeartbeats 1000000 in
set_option maxRecDepth 100000 in
theorem t_X6_workAnd_47 {p : Program} {l : Launch} {e : Env} {s : State} {m : MethodId} {args : Array Value} {below : List Frame} {meth : Method} {c : Code} {dC : Nat → ClassId} {dI : Nat → Nat → Nat} {cyI cyJ cyZ : ClassId} {r : Nat → Nat} {b : Nat → Nat} {A : Nat → Prop} {g2 : MS → Int32 → Prop} {M : MS} {x1 : Int32} {x2 : Int32} {x4 : Int32} {x5 : Int32} {x6 : Int32} {post : MS → Prop} (G : xG p s m args meth c cX6_workAnd 7 RX6 none wsX6_workAnd (dC, dI) (tyA cyI cyJ cyZ) r A) (k2 : ∀ (M' : MS) (x2' : Int32) (H : Heap) (locs : List Loc) (ls : Array Slot), g2 M' x2' → va_P (dC, dI) vwCl (wM cyI cyJ cyZ b M') H → va_D A (wM cyI cyJ cyZ b M') → va_S A s.heap H locs → lv_has ls 7 [(0, .ref (b 0)), (1, .int x1), (2, .int x2')] → W p l e { frames := 4, cells := 0, slots := 0, locals := 109 } s m args below meth c H locs 0 0 (MQ below (va_Qv post (xAt (dC, dI) (tyA cyI cyJ cyZ) (wM cyI cyJ cyZ b) A) A) args s 0 0 A) (F0 m 2 ls [])) (h : p_X6_workAnd_47 g2 M x1 x2 x4 x5 x6 post) {H : Heap} {locs : List Loc} {ls : Array Slot} (hP : va_P (dC, dI) vwCl (wM cyI cyJ cyZ b M) H) (hD : va_D A (wM cyI cyJ cyZ b M)) (hS : va_S A s.heap H locs) (hl : lv_has ls 7 [(0, .ref (b 0)), (1, .int x1), (2, .int x2), (4, .int x4), (5, .int x5), (6, .int x6)]) : W p l e { frames := 4, cells := 0, slots := 0, locals := 109 } s m args below meth c H locs 0 0 (MQ below (va_Qv post (xAt (dC, dI) (tyA cyI cyJ cyZ) (wM cyI cyJ cyZ b) A) A) args s 0 0 A) (F0 m 47 ls []) := by
  obtain ⟨hx, hb, hml, hown, hts, hr, hlocks, hK, hE, hA⟩ := id G
  have hiX6 : ∀ w ∈ wsX60, w ∈ wsX6_workAnd := by decide +kernel
  have hf145 := hts (.fieldLink RX6 145 "CellMappingModel" "cells" "I") (by decide +kernel)
  have hf25 := hts (.fieldLink RX6 25 "CellMappingModel" "pins" "[I") (by decide +kernel)
  obtain ⟨I, mu, h0, hstep⟩ := h
  suffices hgo : ∀ (n : Nat) (M : MS) (x6 : Int32), I M x6 → mu M x6 < n → ∀ (H : Heap) (locs : List Loc) (ls : Array Slot), va_P (dC, dI) vwCl (wM cyI cyJ cyZ b M) H → va_D A (wM cyI cyJ cyZ b M) → va_S A s.heap H locs → lv_has ls 7 [(0, .ref (b 0)), (1, .int x1), (2, .int x2), (4, .int x4), (5, .int x5), (6, .int x6)] → W p l e { frames := 4, cells := 0, slots := 0, locals := 109 } s m args below meth c H locs 0 0 (MQ below (va_Qv post (xAt (dC, dI) (tyA cyI cyJ cyZ) (wM cyI cyJ cyZ b) A) A) args s 0 0 A) (F0 m 47 ls []) from hgo (mu M x6 + 1) M x6 h0 (Nat.lt_succ_self _) H locs ls hP hD hS hl
  clear h0 hP hD hS hl
  intro n
  induction n with
  | zero => intro M x6 _ h; exact absurd h (Nat.not_lt_zero _)
  | succ n ih =>
    intro M x6 hI hmu H locs ls hP hD hS hl
    have h := hstep M x6 hI
    unfold b_X6_workAnd_47 at h
    have k47 : ∀ (M' : MS) (x6' : Int32) (H : Heap) (locs : List Loc) (ls : Array Slot), (fun M' x6' => I M' x6' ∧ mu M' x6' < mu M x6) M' x6' → va_P (dC, dI) vwCl (wM cyI cyJ cyZ b M') H → va_D A (wM cyI cyJ cyZ b M') → va_S A s.heap H locs → lv_has ls 7 [(0, .ref (b 0)), (1, .int x1), (2, .int x2), (4, .int x4), (5, .int x5), (6, .int x6')] → W p l e { frames := 4, cells := 0, slots := 0, locals := 109 } s m args below meth c H locs 0 0 (MQ below (va_Qv post (xAt (dC, dI) (tyA cyI cyJ cyZ) (wM cyI cyJ cyZ b) A) A) args s 0 0 A) (F0 m 47 ls []) := fun M' x6' H locs ls hh hP hD hS hl => ih M' x6' hh.1 (Nat.lt_of_lt_of_le hh.2 (Nat.le_of_lt_succ hmu)) H locs ls hP hD hS hl
    generalize (fun M' x6' => I M' x6' ∧ mu M' x6' < mu M x6) = g47 at h k47
    refine lv_iload hx hb dX6_workAnd_47 (lv_at hl 5 rfl) ?_
    refine lv_aload_n hx hb dX6_workAnd_49 rfl (lv_at hl 0 rfl) ?_
    refine va_get (D := (dC, dI)) (ci := 5) (v := .int (mCE M)) (C := RX6) (T := TX6) (N := 27) hx hb hts hiX6 hown hK hP 0 rfl rfl 10 (by decide) hf145 (fun _ h9 => h9) rfl dX6_workAnd_50 ?_
    refine lv_icmp_ge (tgt := 85) hx hb dX6_workAnd_53 (by decide) (fun c11 => ?_) (fun c11 => ?_)
    · have h := h.1 c11
      obtain ⟨y12, ey12⟩ : ∃ z : Int32, z = (x2 + (1 : Int32)) := ⟨_, rfl⟩
      have h := h y12 ey12
      refine lv_iinc (v := y12) (lv' := [(2, .int y12), (0, .ref (b 0)), (1, .int x1), (4, .int x4), (5, .int x5), (6, .int x6)]) hx hb dX6_workAnd_85 hl (k := 2) rfl (by rw [ey12]; rfl) (by decide) rfl (fun ls hl => ?_)
      refine lv_goto (tgt := 2) hx hb dX6_workAnd_88 (by decide) ?_
      exact k2 M y12 H locs ls h hP hD hS (lv_sub hl [1, 2, 0] rfl)
    · have h := h.2 c11
      refine lv_aload_n hx hb dX6_workAnd_56 rfl (lv_at hl 0 rfl) ?_
      refine va_get (D := (dC, dI)) (ci := 5) (v := .ref (b 6)) (C := RX6) (T := TX6) (N := 27) hx hb hts hiX6 hown hK hP 0 rfl rfl 11 (by decide) hf25 (fun _ h9 => h9) rfl dX6_workAnd_57 ?_
      refine lv_iload hx hb dX6_workAnd_60 (lv_at hl 5 rfl) ?_
      obtain ⟨i13, h⟩ := h
      refine va_iald (D := (dC, dI)) hx hb hK hP 6 0 rfl rfl i13 dX6_workAnd_62 ?_
      refine lv_iload hx hb dX6_workAnd_63 (lv_at hl 4 rfl) ?_
      refine lv_icmp_ne (tgt := 79) hx hb dX6_workAnd_65 (by decide) (fun c14 => ?_) (fun c14 => ?_)
      · have h := h.1 c14
        obtain ⟨y15, ey15⟩ : ∃ z : Int32, z = (x6 + (1 : Int32)) := ⟨_, rfl⟩
        have h := h y15 ey15
        refine lv_iinc (v := y15) (lv' := [(6, .int y15), (0, .ref (b 0)), (1, .int x1), (2, .int x2), (4, .int x4), (5, .int x5)]) hx hb dX6_workAnd_79 hl (k := 5) rfl (by rw [ey15]; rfl) (by decide) rfl (fun ls hl => ?_)
        refine lv_goto (tgt := 47) hx hb dX6_workAnd_82 (by decide) ?_
        exact k47 M y15 H locs ls h hP hD hS (lv_sub hl [1, 2, 3, 4, 5, 0] rfl)
      · have h := h.2 c14
        refine lv_aload_n hx hb dX6_workAnd_68 rfl (lv_at hl 0 rfl) ?_
        refine lv_iload_n hx hb dX6_workAnd_69 rfl (lv_at hl 1 rfl) ?_
        refine lv_iload hx hb dX6_workAnd_70 (lv_at hl 5 rfl) ?_
        refine lv_iload hx hb dX6_workAnd_72 (lv_at hl 4 rfl) ?_
        refine lv_iload hx hb dX6_workAnd_74 (lv_at hl 3 rfl) ?_
        refine xc_Vv (wf := wM cyI cyJ cyZ b) (wr := []) (isC := [0, 1, 2, 3, 4, 5, 6, 7, 8, 9, 10, 11, 12, 13, 14, 15, 16, 17, 18, 19, 20]) (isR := []) (As := [.int x1, .int x6, .int x5, .int x4]) (rest := []) ⟨hx, hb, hml, hown, hts⟩ (t_X6_tryMoves h) (cwV 4 hts gX6_workAnd_X6_tryMoves rfl rfl rfl (by decide +kernel) ⟨Nat.le_of_ble_eq_true rfl, Nat.le_of_ble_eq_true rfl⟩) ⟨hK, hE, hA, hP, hD, hS, rfl, rfl, rfl, rfl, by decide⟩ ⟨0, 5, _, _, rfl, rfl, rfl⟩ rfl rfl hl.1 (Nat.le_of_ble_eq_true rfl) dX6_workAnd_76 ⟨Nat.le_of_ble_eq_true rfl, Nat.le_of_ble_eq_true rfl⟩ (fun  S16 H locs h hP hD hS => ?_)
        have hP : va_P (dC, dI) vwCl (wM cyI cyJ cyZ b S16) H := hP
        have hD : va_D A (wM cyI cyJ cyZ b S16) := hD
        obtain ⟨y17, ey17⟩ : ∃ z : Int32, z = (x6 + (1 : Int32)) := ⟨_, rfl⟩
        have h := h y17 ey17
        refine lv_iinc (v := y17) (lv' := [(6, .int y17), (0, .ref (b 0)), (1, .int x1), (2, .int x2), (4, .int x4), (5, .int x5)]) hx hb dX6_workAnd_79 hl (k := 5) rfl (by rw [ey17]; rfl) (by decide) rfl (fun ls hl => ?_)
        refine lv_goto (tgt := 47) hx hb dX6_workAnd_82 (by decide) ?_
        exact k47 S16 y17 H locs ls h hP hD hS (lv_sub hl [1, 2, 3, 4, 5, 0] rfl)
def b_X6_workAnd_2 (x1 : Int32) (post : MS → Prop) (g2 : MS → Int32 → Prop) (M : MS) (x2 : Int32) : Prop := p_X6_cutsOf M x1 (fun r1 => (r1 ≤ x2 → (post M)) ∧ (¬ r1 ≤ x2 → (vp_in x1 32 ∧ (vp_in (((5000 : Int32) * ((mAO M) x1.toNatClampNeg)) + x2) 120000 ∧ (∀ y6 : Int32, y6 = ((mCB M) (((5000 : Int32) * ((mAO M) x1.toNatClampNeg)) + x2).toNatClampNeg) → (p_X6_functionOf M x1 y6 (fun r7 S8 => p_X6_spread S8 y6 (fun r9 S10 => p_X6_workAnd_47 g2 S10 x1 x2 r7 r9 (0 : Int32) post))))))))
def p_X6_workAnd_2 (M : MS) (x1 : Int32) (x2 : Int32) (post : MS → Prop) : Prop := ∃ (I : MS → Int32 → Prop) (mu : MS → Int32 → Nat), I M x2 ∧ ∀ (M : MS) (x2 : Int32), I M x2 → b_X6_workAnd_2 x1 post (fun M' x2' => I M' x2' ∧ mu M' x2' < mu M x2) M x2
set_option maxHeartbeats 1000000 in
set_option maxRecDepth 100000 in
theorem t_X6_workAnd_2 {p : Program} {l : Launch} {e : Env} {s : State} {m : MethodId} {args : Array Value} {below : List Frame} {meth : Method} {c : Code} {dC : Nat → ClassId} {dI : Nat → Nat → Nat} {cyI cyJ cyZ : ClassId} {r : Nat → Nat} {b : Nat → Nat} {A : Nat → Prop} {M : MS} {x1 : Int32} {x2 : Int32} {post : MS → Prop} (G : xG p s m args meth c cX6_workAnd 7 RX6 none wsX6_workAnd (dC, dI) (tyA cyI cyJ cyZ) r A) (h : p_X6_workAnd_2 M x1 x2 post) {H : Heap} {locs : List Loc} {ls : Array Slot} (hP : va_P (dC, dI) vwCl (wM cyI cyJ cyZ b M) H) (hD : va_D A (wM cyI cyJ cyZ b M)) (hS : va_S A s.heap H locs) (hl : lv_has ls 7 [(0, .ref (b 0)), (1, .int x1), (2, .int x2)]) : W p l e { frames := 4, cells := 0, slots := 0, locals := 109 } s m args below meth c H locs 0 0 (MQ below (va_Qv post (xAt (dC, dI) (tyA cyI cyJ cyZ) (wM cyI cyJ cyZ b) A) A) args s 0 0 A) (F0 m 2 ls []) := by
  obtain ⟨hx, hb, hml, hown, hts, hr, hlocks, hK, hE, hA⟩ := id G
  have hiX6 : ∀ w ∈ wsX60, w ∈ wsX6_workAnd := by decide +kernel
  have hf44 := hts (.fieldLink RX6 44 "CellMappingModel" "cutBits" "[I") (by decide +kernel)
  have hf37 := hts (.fieldLink RX6 37 "CellMappingModel" "andOf" "[I") (by decide +kernel)
  obtain ⟨I, mu, h0, hstep⟩ := h
  suffices hgo : ∀ (n : Nat) (M : MS) (x2 : Int32), I M x2 → mu M x2 < n → ∀ (H : Heap) (locs : List Loc) (ls : Array Slot), va_P (dC, dI) vwCl (wM cyI cyJ cyZ b M) H → va_D A (wM cyI cyJ cyZ b M) → va_S A s.heap H locs → lv_has ls 7 [(0, .ref (b 0)), (1, .int x1), (2, .int x2)] → W p l e { frames := 4, cells := 0, slots := 0, locals := 109 } s m args below meth c H locs 0 0 (MQ below (va_Qv post (xAt (dC, dI) (tyA cyI cyJ cyZ) (wM cyI cyJ cyZ b) A) A) args s 0 0 A) (F0 m 2 ls []) from hgo (mu M x2 + 1) M x2 h0 (Nat.lt_succ_self _) H locs ls hP hD hS hl
  clear h0 hP hD hS hl
  intro n
  induction n with
  | zero => intro M x2 _ h; exact absurd h (Nat.not_lt_zero _)
  | succ n ih =>
    intro M x2 hI hmu H locs ls hP hD hS hl
    have h := hstep M x2 hI
    unfold b_X6_workAnd_2 at h
    have k2 : ∀ (M' : MS) (x2' : Int32) (H : Heap) (locs : List Loc) (ls : Array Slot), (fun M' x2' => I M' x2' ∧ mu M' x2' < mu M x2) M' x2' → va_P (dC, dI) vwCl (wM cyI cyJ cyZ b M') H → va_D A (wM cyI cyJ cyZ b M') → va_S A s.heap H locs → lv_has ls 7 [(0, .ref (b 0)), (1, .int x1), (2, .int x2')] → W p l e { frames := 4, cells := 0, slots := 0, locals := 109 } s m args below meth c H locs 0 0 (MQ below (va_Qv post (xAt (dC, dI) (tyA cyI cyJ cyZ) (wM cyI cyJ cyZ b) A) A) args s 0 0 A) (F0 m 2 ls []) := fun M' x2' H locs ls hh hP hD hS hl => ih M' x2' hh.1 (Nat.lt_of_lt_of_le hh.2 (Nat.le_of_lt_succ hmu)) H locs ls hP hD hS hl
    generalize (fun M' x2' => I M' x2' ∧ mu M' x2' < mu M x2) = g2 at h k2
    refine lv_iload_n hx hb dX6_workAnd_2 rfl (lv_at hl 2 rfl) ?_
    refine lv_aload_n hx hb dX6_workAnd_3 rfl (lv_at hl 0 rfl) ?_
    refine lv_iload_n hx hb dX6_workAnd_4 rfl (lv_at hl 1 rfl) ?_
    refine xc_Vi (wf := wM cyI cyJ cyZ b) (wr := []) (isC := [0, 1, 2, 3, 4, 5, 6, 7, 8, 9, 10, 11, 12, 13, 14, 15, 16, 17, 18, 19, 20]) (isR := []) (As := [.int x1]) (rest := [.int x2]) ⟨hx, hb, hml, hown, hts⟩ (t_X6_cutsOf h) (cwV 1 hts gX6_workAnd_X6_cutsOf rfl rfl rfl (by decide +kernel) ⟨Nat.le_of_ble_eq_true rfl, Nat.le_of_ble_eq_true rfl⟩) ⟨hK, hE, hA, hP, hD, hS, rfl, rfl, rfl, rfl, by decide⟩ ⟨0, 5, _, _, rfl, rfl, rfl⟩ rfl rfl hl.1 (Nat.le_of_ble_eq_true rfl) dX6_workAnd_5 ⟨Nat.le_of_ble_eq_true rfl, Nat.le_of_ble_eq_true rfl⟩ (fun r1 S2 H locs h hP hD hS => ?_)
    obtain ⟨rfl, h⟩ := h
    have hP : va_P (dC, dI) vwCl (wM cyI cyJ cyZ b M) H := hP
    have hD : va_D A (wM cyI cyJ cyZ b M) := hD
    refine lv_icmp_ge (tgt := 91) hx hb dX6_workAnd_8 (by decide) (fun c3 => ?_) (fun c3 => ?_)
    · have h := h.1 c3
      exact xr_v (S := M) hx hb hr hlocks hK hP hD hS h (Nat.le_of_ble_eq_true rfl) (Nat.le_of_ble_eq_true rfl) dX6_workAnd_91
    · have h := h.2 c3
      refine lv_aload_n hx hb dX6_workAnd_11 rfl (lv_at hl 0 rfl) ?_
      refine va_get (D := (dC, dI)) (ci := 5) (v := .ref (b 12)) (C := RX6) (T := TX6) (N := 27) hx hb hts hiX6 hown hK hP 0 rfl rfl 17 (by decide) hf44 (fun _ h9 => h9) rfl dX6_workAnd_12 ?_
      refine lv_sipush (v := 5000) hx hb dX6_workAnd_15 (by decide) ?_
      refine lv_aload_n hx hb dX6_workAnd_18 rfl (lv_at hl 0 rfl) ?_
      refine va_get (D := (dC, dI)) (ci := 5) (v := .ref (b 10)) (C := RX6) (T := TX6) (N := 27) hx hb hts hiX6 hown hK hP 0 rfl rfl 15 (by decide) hf37 (fun _ h9 => h9) rfl dX6_workAnd_19 ?_
      refine lv_iload_n hx hb dX6_workAnd_22 rfl (lv_at hl 1 rfl) ?_
      obtain ⟨i4, h⟩ := h
      refine va_iald (D := (dC, dI)) hx hb hK hP 10 0 rfl rfl i4 dX6_workAnd_23 ?_
      refine lv_imul hx hb dX6_workAnd_24 ?_
      refine lv_iload_n hx hb dX6_workAnd_25 rfl (lv_at hl 2 rfl) ?_
      refine lv_iadd hx hb dX6_workAnd_26 ?_
      obtain ⟨i5, h⟩ := h
      refine va_iald (D := (dC, dI)) hx hb hK hP 12 0 rfl rfl i5 dX6_workAnd_27 ?_
      refine lv_topi (fun y6 ey6 => ?_)
      have h := h y6 ey6
      refine lv_istore_n (lv' := [(3, .int y6), (0, .ref (b 0)), (1, .int x1), (2, .int x2)]) hx hb dX6_workAnd_28 rfl hl (by decide) rfl (fun ls hl => ?_)
      refine lv_aload_n hx hb dX6_workAnd_29 rfl (lv_at hl 1 rfl) ?_
      refine lv_iload_n hx hb dX6_workAnd_30 rfl (lv_at hl 2 rfl) ?_
      refine lv_iload_n hx hb dX6_workAnd_31 rfl (lv_at hl 0 rfl) ?_
      refine xc_Vi (wf := wM cyI cyJ cyZ b) (wr := []) (isC := [0, 1, 2, 3, 4, 5, 6, 7, 8, 9, 10, 11, 12, 13, 14, 15, 16, 17, 18, 19, 20]) (isR := []) (As := [.int x1, .int y6]) (rest := []) ⟨hx, hb, hml, hown, hts⟩ (t_X6_functionOf h) (cwV 2 hts gX6_workAnd_X6_functionOf rfl rfl rfl (by decide +kernel) ⟨Nat.le_of_ble_eq_true rfl, Nat.le_of_ble_eq_true rfl⟩) ⟨hK, hE, hA, hP, hD, hS, rfl, rfl, rfl, rfl, by decide⟩ ⟨0, 5, _, _, rfl, rfl, rfl⟩ rfl rfl hl.1 (Nat.le_of_ble_eq_true rfl) dX6_workAnd_32 ⟨Nat.le_of_ble_eq_true rfl, Nat.le_of_ble_eq_true rfl⟩ (fun r7 S8 H locs h hP hD hS => ?_)
      have hP : va_P (dC, dI) vwCl (wM cyI cyJ cyZ b S8) H := hP
      have hD : va_D A (wM cyI cyJ cyZ b S8) := hD
      refine lv_istore (lv' := [(4, .int r7), (3, .int y6), (0, .ref (b 0)), (1, .int x1), (2, .int x2)]) hx hb dX6_workAnd_35 hl (by decide) rfl (fun ls hl => ?_)
      refine lv_aload_n hx hb dX6_workAnd_37 rfl (lv_at hl 2 rfl) ?_
      refine lv_iload_n hx hb dX6_workAnd_38 rfl (lv_at hl 1 rfl) ?_
      refine xc_Vi (wf := wM cyI cyJ cyZ b) (wr := []) (isC := [0, 1, 2, 3, 4, 5, 6, 7, 8, 9, 10, 11, 12, 13, 14, 15, 16, 17, 18, 19, 20]) (isR := []) (As := [.int y6]) (rest := []) ⟨hx, hb, hml, hown, hts⟩ (t_X6_spread h) (cwV 1 hts gX6_workAnd_X6_spread rfl rfl rfl (by decide +kernel) ⟨Nat.le_of_ble_eq_true rfl, Nat.le_of_ble_eq_true rfl⟩) ⟨hK, hE, hA, hP, hD, hS, rfl, rfl, rfl, rfl, by decide⟩ ⟨0, 5, _, _, rfl, rfl, rfl⟩ rfl rfl hl.1 (Nat.le_of_ble_eq_true rfl) dX6_workAnd_39 ⟨Nat.le_of_ble_eq_true rfl, Nat.le_of_ble_eq_true rfl⟩ (fun r9 S10 H locs h hP hD hS => ?_)
      have hP : va_P (dC, dI) vwCl (wM cyI cyJ cyZ b S10) H := hP
      have hD : va_D A (wM cyI cyJ cyZ b S10) := hD
      refine lv_istore (lv' := [(5, .int r9), (4, .int r7), (3, .int y6), (0, .ref (b 0)), (1, .int x1), (2, .int x2)]) hx hb dX6_workAnd_42 hl (by decide) rfl (fun ls hl => ?_)
      refine lv_iconst (v := 0) hx hb dX6_workAnd_44 (by decide) ?_
      refine lv_istore (lv' := [(6, .int (0 : Int32)), (5, .int r9), (4, .int r7), (3, .int y6), (0, .ref (b 0)), (1, .int x1), (2, .int x2)]) hx hb dX6_workAnd_45 hl (by decide) rfl (fun ls hl => ?_)
      exact t_X6_workAnd_47 G k2 h hP hD hS (lv_sub hl [4, 5, 6, 2, 1, 0] rfl)
def p_X6_workAnd (M : MS) (x1 : Int32) (post : MS → Prop) : Prop := p_X6_workAnd_2 M x1 (0 : Int32) post
set_option maxHeartbeats 1000000 in
set_option maxRecDepth 100000 in
theorem t_X6_workAnd {l : Launch} {dC : Nat → ClassId} {dI : Nat → Nat → Nat} {cyI cyJ cyZ : ClassId} {r : Nat → Nat} {b : Nat → Nat} {M : MS} {x1 : Int32} {post : MS → Prop} (h : p_X6_workAnd M x1 post) : xMv l yX6_workAnd wsX6_workAnd { frames := 4, cells := 0, slots := 0, locals := 109 } (dC, dI) (tyA cyI cyJ cyZ) r (wM cyI cyJ cyZ b) [.ref (b 0), .int x1] M post 0 0 := by
  intro sz
  refine Met.ofW (cc := cX6_workAnd) (maxL := 7) (ret := none) (by decide) rfl ?_
  intro p e s m args below meth c s₁ B hml hv
  obtain ⟨rfl, G, hP, hD, hS⟩ := xG.of rfl B hml hv
  generalize hAe : va_A (wM cyI cyJ cyZ b M) sz = A at G hD hS ⊢
  have G : xG p s m _ meth c cX6_workAnd 7 RX6 none wsX6_workAnd (dC, dI) (tyA cyI cyJ cyZ) r A := G
  obtain ⟨hx, hb, hml, hown, hts, hr, hlocks, hK, hE, hA⟩ := id G
  have hl := lv_entry ([.ref (b 0), .int x1]) (n := 7) (Nat.le_of_ble_eq_true rfl)
  rw [lg_entry_eq]
  generalize (lg_sl ([.ref (b 0), .int x1]) ++ List.replicate (7 - (lg_sl ([.ref (b 0), .int x1])).length) Slot.unset).toArray = ls at hl ⊢
  have hl : lv_has ls 7 [(0, .ref (b 0)), (1, .int x1)] := hl
  show W p l e { frames := 4, cells := 0, slots := 0, locals := 109 } s m _ below meth c s.heap [] 0 0 _ _
  unfold p_X6_workAnd at h
  refine lv_iconst (v := 0) hx hb dX6_workAnd_0 (by decide) ?_
  refine lv_istore_n (lv' := [(2, .int (0 : Int32)), (0, .ref (b 0)), (1, .int x1)]) hx hb dX6_workAnd_1 rfl hl (by decide) rfl (fun ls hl => ?_)
  exact t_X6_workAnd_2 G h hP hD hS (lv_sub hl [1, 2, 0] rfl)
def p_X6_turnBy_134 (g50 : MS → Int32 → Prop) (M : MS) (x1 : Int32) (x2 : Int32) (x4 : Int32) (x5 : Int32) (x7 : Int32) (post : MS → Prop) : Prop := vp_in x1 64 ∧ (∀ M20 : MS, M20 = (mAV_s M (upd (mAV M) x1.toNatClampNeg x7)) → (vp_in x1 64 ∧ (∀ M22 : MS, M22 = (mGA_s M20 (upd (mGA M20) x1.toNatClampNeg x5)) → (vp_in ((3 : Int32) * x1) 192 ∧ (∀ M24 : MS, M24 = (mGP_s M22 (upd (mGP M22) ((3 : Int32) * x1).toNatClampNeg x2)) → (vp_in (((3 : Int32) * x1) + (1 : Int32)) 192 ∧ (∀ M26 : MS, M26 = (mGP_s M24 (upd (mGP M24) (((3 : Int32) * x1) + (1 : Int32)).toNatClampNeg (-1 : Int32))) → (vp_in (((3 : Int32) * x1) + (2 : Int32)) 192 ∧ (∀ M28 : MS, M28 = (mGP_s M26 (upd (mGP M26) (((3 : Int32) * x1) + (2 : Int32)).toNatClampNeg (-1 : Int32))) → (∀ y29 : Int32, y29 = (x5 + (1 : Int32)) → (g50 M28 y29)))))))))))
set_option maxHeartbeats 1000000 in
set_option maxRecDepth 100000 in
theorem t_X6_turnBy_134 {p : Program} {l : Launch} {e : Env} {s : State} {m : MethodId} {args : Array Value} {below : List Frame} {meth : Method} {c : Code} {dC : Nat → ClassId} {dI : Nat → Nat → Nat} {cyI cyJ cyZ : ClassId} {r : Nat → Nat} {b : Nat → Nat} {A : Nat → Prop} {g50 : MS → Int32 → Prop} {M : MS} {x1 : Int32} {x2 : Int32} {x4 : Int32} {x5 : Int32} {x7 : Int32} {post : MS → Prop} (G : xG p s m args meth c cX6_turnBy 8 RX6 none wsX6_turnBy (dC, dI) (tyA cyI cyJ cyZ) r A) (k50 : ∀ (M' : MS) (x5' : Int32) (H : Heap) (locs : List Loc) (ls : Array Slot), g50 M' x5' → va_P (dC, dI) vwCl (wM cyI cyJ cyZ b M') H → va_D A (wM cyI cyJ cyZ b M') → va_S A s.heap H locs → lv_has ls 8 [(0, .ref (b 0)), (1, .int x1), (2, .int x2), (4, .int x4), (5, .int x5')] → W p l e { frames := 1, cells := 0, slots := 0, locals := 21 } s m args below meth c H locs 0 0 (MQ below (va_Qv post (xAt (dC, dI) (tyA cyI cyJ cyZ) (wM cyI cyJ cyZ b) A) A) args s 0 0 A) (F0 m 50 ls [])) (h : p_X6_turnBy_134 g50 M x1 x2 x4 x5 x7 post) {H : Heap} {locs : List Loc} {ls : Array Slot} (hP : va_P (dC, dI) vwCl (wM cyI cyJ cyZ b M) H) (hD : va_D A (wM cyI cyJ cyZ b M)) (hS : va_S A s.heap H locs) (hl : lv_has ls 8 [(0, .ref (b 0)), (1, .int x1), (2, .int x2), (4, .int x4), (5, .int x5), (7, .int x7)]) : W p l e { frames := 1, cells := 0, slots := 0, locals := 21 } s m args below meth c H locs 0 0 (MQ below (va_Qv post (xAt (dC, dI) (tyA cyI cyJ cyZ) (wM cyI cyJ cyZ b) A) A) args s 0 0 A) (F0 m 134 ls []) := by
  obtain ⟨hx, hb, hml, hown, hts, hr, hlocks, hK, hE, hA⟩ := id G
  have hiX6 : ∀ w ∈ wsX60, w ∈ wsX6_turnBy := by decide +kernel
  have hf50 := hts (.fieldLink RX6 50 "CellMappingModel" "arrivals" "[I") (by decide +kernel)
  have hf53 := hts (.fieldLink RX6 53 "CellMappingModel" "gates" "[I") (by decide +kernel)
  have hf56 := hts (.fieldLink RX6 56 "CellMappingModel" "gatePins" "[I") (by decide +kernel)
  unfold p_X6_turnBy_134 at h
  refine lv_aload_n hx hb dX6_turnBy_134 rfl (lv_at hl 0 rfl) ?_
  refine va_get (D := (dC, dI)) (ci := 5) (v := .ref (b 14)) (C := RX6) (T := TX6) (N := 27) hx hb hts hiX6 hown hK hP 0 rfl rfl 20 (by decide) hf50 (fun _ h9 => h9) rfl dX6_turnBy_135 ?_
  refine lv_iload_n hx hb dX6_turnBy_138 rfl (lv_at hl 1 rfl) ?_
  refine lv_iload hx hb dX6_turnBy_139 (lv_at hl 5 rfl) ?_
  obtain ⟨i19, h⟩ := h
  refine va_iast (D := (dC, dI)) hx hb hK hP hD hS 14 0 rfl rfl i19 dX6_turnBy_141 (fun H locs hP hD hS => ?_)
  obtain ⟨M20, eM20⟩ : ∃ z : MS, z = (mAV_s M (upd (mAV M) x1.toNatClampNeg x7)) := ⟨_, rfl⟩
  have h := h M20 eM20
  have hP := nP_mAV eM20 hP
  have hD := nD_mAV eM20 hD
  refine lv_aload_n hx hb dX6_turnBy_142 rfl (lv_at hl 0 rfl) ?_
  refine va_get (D := (dC, dI)) (ci := 5) (v := .ref (b 15)) (C := RX6) (T := TX6) (N := 27) hx hb hts hiX6 hown hK hP 0 rfl rfl 21 (by decide) hf53 (fun _ h9 => h9) rfl dX6_turnBy_143 ?_
  refine lv_iload_n hx hb dX6_turnBy_146 rfl (lv_at hl 1 rfl) ?_
  refine lv_iload hx hb dX6_turnBy_147 (lv_at hl 4 rfl) ?_
  obtain ⟨i21, h⟩ := h
  refine va_iast (D := (dC, dI)) hx hb hK hP hD hS 15 0 rfl rfl i21 dX6_turnBy_149 (fun H locs hP hD hS => ?_)
  obtain ⟨M22, eM22⟩ : ∃ z : MS, z = (mGA_s M20 (upd (mGA M20) x1.toNatClampNeg x5)) := ⟨_, rfl⟩
  have h := h M22 eM22
  have hP := nP_mGA eM22 hP
  have hD := nD_mGA eM22 hD
  refine lv_aload_n hx hb dX6_turnBy_150 rfl (lv_at hl 0 rfl) ?_
  refine va_get (D := (dC, dI)) (ci := 5) (v := .ref (b 16)) (C := RX6) (T := TX6) (N := 27) hx hb hts hiX6 hown hK hP 0 rfl rfl 22 (by decide) hf56 (fun _ h9 => h9) rfl dX6_turnBy_151 ?_
  refine lv_iconst (v := 3) hx hb dX6_turnBy_154 (by decide) ?_
  refine lv_iload_n hx hb dX6_turnBy_155 rfl (lv_at hl 1 rfl) ?_
  refine lv_imul hx hb dX6_turnBy_156 ?_
  refine lv_iload_n hx hb dX6_turnBy_157 rfl (lv_at hl 2 rfl) ?_
  obtain ⟨i23, h⟩ := h
  refine va_iast (D := (dC, dI)) hx hb hK hP hD hS 16 0 rfl rfl i23 dX6_turnBy_158 (fun H locs hP hD hS => ?_)
  obtain ⟨M24, eM24⟩ : ∃ z : MS, z = (mGP_s M22 (upd (mGP M22) ((3 : Int32) * x1).toNatClampNeg x2)) := ⟨_, rfl⟩
  have h := h M24 eM24
  have hP := nP_mGP eM24 hP
  have hD := nD_mGP eM24 hD
  refine lv_aload_n hx hb dX6_turnBy_159 rfl (lv_at hl 0 rfl) ?_
  refine va_get (D := (dC, dI)) (ci := 5) (v := .ref (b 16)) (C := RX6) (T := TX6) (N := 27) hx hb hts hiX6 hown hK hP 0 rfl rfl 22 (by decide) hf56 (fun _ h9 => h9) rfl dX6_turnBy_160 ?_
  refine lv_iconst (v := 3) hx hb dX6_turnBy_163 (by decide) ?_
  refine lv_iload_n hx hb dX6_turnBy_164 rfl (lv_at hl 1 rfl) ?_
  refine lv_imul hx hb dX6_turnBy_165 ?_
  refine lv_iconst (v := 1) hx hb dX6_turnBy_166 (by decide) ?_
  refine lv_iadd hx hb dX6_turnBy_167 ?_
  refine lv_iconst (v := -1) hx hb dX6_turnBy_168 (by decide) ?_
  obtain ⟨i25, h⟩ := h
  refine va_iast (D := (dC, dI)) hx hb hK hP hD hS 16 0 rfl rfl i25 dX6_turnBy_169 (fun H locs hP hD hS => ?_)
  obtain ⟨M26, eM26⟩ : ∃ z : MS, z = (mGP_s M24 (upd (mGP M24) (((3 : Int32) * x1) + (1 : Int32)).toNatClampNeg (-1 : Int32))) := ⟨_, rfl⟩
  have h := h M26 eM26
  have hP := nP_mGP eM26 hP
  have hD := nD_mGP eM26 hD
  refine lv_aload_n hx hb dX6_turnBy_170 rfl (lv_at hl 0 rfl) ?_
  refine va_get (D := (dC, dI)) (ci := 5) (v := .ref (b 16)) (C := RX6) (T := TX6) (N := 27) hx hb hts hiX6 hown hK hP 0 rfl rfl 22 (by decide) hf56 (fun _ h9 => h9) rfl dX6_turnBy_171 ?_
  refine lv_iconst (v := 3) hx hb dX6_turnBy_174 (by decide) ?_
  refine lv_iload_n hx hb dX6_turnBy_175 rfl (lv_at hl 1 rfl) ?_
  refine lv_imul hx hb dX6_turnBy_176 ?_
  refine lv_iconst (v := 2) hx hb dX6_turnBy_177 (by decide) ?_
  refine lv_iadd hx hb dX6_turnBy_178 ?_
  refine lv_iconst (v := -1) hx hb dX6_turnBy_179 (by decide) ?_
  obtain ⟨i27, h⟩ := h
  refine va_iast (D := (dC, dI)) hx hb hK hP hD hS 16 0 rfl rfl i27 dX6_turnBy_180 (fun H locs hP hD hS => ?_)
  obtain ⟨M28, eM28⟩ : ∃ z : MS, z = (mGP_s M26 (upd (mGP M26) (((3 : Int32) * x1) + (2 : Int32)).toNatClampNeg (-1 : Int32))) := ⟨_, rfl⟩
  have h := h M28 eM28
  have hP := nP_mGP eM28 hP
  have hD := nD_mGP eM28 hD
  obtain ⟨y29, ey29⟩ : ∃ z : Int32, z = (x5 + (1 : Int32)) := ⟨_, rfl⟩
  have h := h y29 ey29
  refine lv_iinc (v := y29) (lv' := [(5, .int y29), (0, .ref (b 0)), (1, .int x1), (2, .int x2), (4, .int x4), (7, .int x7)]) hx hb dX6_turnBy_181 hl (k := 4) rfl (by rw [ey29]; rfl) (by decide) rfl (fun ls hl => ?_)
  refine lv_goto (tgt := 50) hx hb dX6_turnBy_184 (by decide) ?_
  exact k50 M28 y29 H locs ls h hP hD hS (lv_sub hl [1, 2, 3, 4, 0] rfl)
def p_X6_turnBy_86 (g50 : MS → Int32 → Prop) (M : MS) (x1 : Int32) (x2 : Int32) (x4 : Int32) (x5 : Int32) (t0 : Int32) (post : MS → Prop) : Prop := vp_in ((3 : Int32) * x5) 36 ∧ (∀ y12 : Int32, y12 = (x4 + ((mDE M) ((3 : Int32) * x5).toNatClampNeg)) → ((t0 = 0 → (∀ y14 : Int32, y14 = (x5 + (1 : Int32)) → (g50 M y14))) ∧ (¬ t0 = 0 → ((x4 = (-1 : Int32) → (∀ y16 : Int32, y16 = (x5 + (1 : Int32)) → (g50 M y16))) ∧ (¬ x4 = (-1 : Int32) → (vp_in x1 64 ∧ ((((mAV M) x1.toNatClampNeg) = (-1 : Int32) → (p_X6_turnBy_134 g50 M x1 x2 x4 x5 y12 post)) ∧ (¬ ((mAV M) x1.toNatClampNeg) = (-1 : Int32) → (vp_in x1 64 ∧ ((((mAV M) x1.toNatClampNeg) ≤ y12 → (∀ y32 : Int32, y32 = (x5 + (1 : Int32)) → (g50 M y32))) ∧ (¬ ((mAV M) x1.toNatClampNeg) ≤ y12 → (p_X6_turnBy_134 g50 M x1 x2 x4 x5 y12 post))))))))))))
set_option maxHeartbeats 1000000 in
set_option maxRecDepth 100000 in
theorem t_X6_turnBy_86 {p : Program} {l : Launch} {e : Env} {s : State} {m : MethodId} {args : Array Value} {below : List Frame} {meth : Method} {c : Code} {dC : Nat → ClassId} {dI : Nat → Nat → Nat} {cyI cyJ cyZ : ClassId} {r : Nat → Nat} {b : Nat → Nat} {A : Nat → Prop} {g50 : MS → Int32 → Prop} {M : MS} {x1 : Int32} {x2 : Int32} {x4 : Int32} {x5 : Int32} {t0 : Int32} {post : MS → Prop} (G : xG p s m args meth c cX6_turnBy 8 RX6 none wsX6_turnBy (dC, dI) (tyA cyI cyJ cyZ) r A) (k50 : ∀ (M' : MS) (x5' : Int32) (H : Heap) (locs : List Loc) (ls : Array Slot), g50 M' x5' → va_P (dC, dI) vwCl (wM cyI cyJ cyZ b M') H → va_D A (wM cyI cyJ cyZ b M') → va_S A s.heap H locs → lv_has ls 8 [(0, .ref (b 0)), (1, .int x1), (2, .int x2), (4, .int x4), (5, .int x5')] → W p l e { frames := 1, cells := 0, slots := 0, locals := 21 } s m args below meth c H locs 0 0 (MQ below (va_Qv post (xAt (dC, dI) (tyA cyI cyJ cyZ) (wM cyI cyJ cyZ b) A) A) args s 0 0 A) (F0 m 50 ls [])) (h : p_X6_turnBy_86 g50 M x1 x2 x4 x5 t0 post) {H : Heap} {locs : List Loc} {ls : Array Slot} (hP : va_P (dC, dI) vwCl (wM cyI cyJ cyZ b M) H) (hD : va_D A (wM cyI cyJ cyZ b M)) (hS : va_S A s.heap H locs) (hl : lv_has ls 8 [(0, .ref (b 0)), (1, .int x1), (2, .int x2), (4, .int x4), (5, .int x5)]) : W p l e { frames := 1, cells := 0, slots := 0, locals := 21 } s m args below meth c H locs 0 0 (MQ below (va_Qv post (xAt (dC, dI) (tyA cyI cyJ cyZ) (wM cyI cyJ cyZ b) A) A) args s 0 0 A) (F0 m 86 ls [.int t0]) := by
  obtain ⟨hx, hb, hml, hown, hts, hr, hlocks, hK, hE, hA⟩ := id G
  have hiX6 : ∀ w ∈ wsX60, w ∈ wsX6_turnBy := by decide +kernel
  have hf34 := hts (.fieldLink RX6 34 "CellMappingModel" "delays" "[I") (by decide +kernel)
  have hf50 := hts (.fieldLink RX6 50 "CellMappingModel" "arrivals" "[I") (by decide +kernel)
  unfold p_X6_turnBy_86 at h
  refine lv_istore (lv' := [(6, .int t0), (0, .ref (b 0)), (1, .int x1), (2, .int x2), (4, .int x4), (5, .int x5)]) hx hb dX6_turnBy_86 hl (by decide) rfl (fun ls hl => ?_)
  refine lv_iload hx hb dX6_turnBy_88 (lv_at hl 4 rfl) ?_
  refine lv_aload_n hx hb dX6_turnBy_90 rfl (lv_at hl 1 rfl) ?_
  refine va_get (D := (dC, dI)) (ci := 5) (v := .ref (b 9)) (C := RX6) (T := TX6) (N := 27) hx hb hts hiX6 hown hK hP 0 rfl rfl 14 (by decide) hf34 (fun _ h9 => h9) rfl dX6_turnBy_91 ?_
  refine lv_iconst (v := 3) hx hb dX6_turnBy_94 (by decide) ?_
  refine lv_iload hx hb dX6_turnBy_95 (lv_at hl 5 rfl) ?_
  refine lv_imul hx hb dX6_turnBy_97 ?_
  obtain ⟨i11, h⟩ := h
  refine va_iald (D := (dC, dI)) hx hb hK hP 9 0 rfl rfl i11 dX6_turnBy_98 ?_
  refine lv_iadd hx hb dX6_turnBy_99 ?_
  refine lv_topi (fun y12 ey12 => ?_)
  have h := h y12 ey12
  refine lv_istore (lv' := [(7, .int y12), (6, .int t0), (0, .ref (b 0)), (1, .int x1), (2, .int x2), (4, .int x4), (5, .int x5)]) hx hb dX6_turnBy_100 hl (by decide) rfl (fun ls hl => ?_)
  refine lv_iload hx hb dX6_turnBy_102 (lv_at hl 1 rfl) ?_
  refine lv_if_eq (tgt := 181) hx hb dX6_turnBy_104 (by decide) (fun c13 => ?_) (fun c13 => ?_)
  · have h := h.1 c13
    obtain ⟨y14, ey14⟩ : ∃ z : Int32, z = (x5 + (1 : Int32)) := ⟨_, rfl⟩
    have h := h y14 ey14
    refine lv_iinc (v := y14) (lv' := [(5, .int y14), (7, .int y12), (6, .int t0), (0, .ref (b 0)), (1, .int x1), (2, .int x2), (4, .int x4)]) hx hb dX6_turnBy_181 hl (k := 6) rfl (by rw [ey14]; rfl) (by decide) rfl (fun ls hl => ?_)
    refine lv_goto (tgt := 50) hx hb dX6_turnBy_184 (by decide) ?_
    exact k50 M y14 H locs ls h hP hD hS (lv_sub hl [3, 4, 5, 6, 0] rfl)
  · have h := h.2 c13
    refine lv_iload hx hb dX6_turnBy_107 (lv_at hl 5 rfl) ?_
    refine lv_iconst (v := -1) hx hb dX6_turnBy_109 (by decide) ?_
    refine lv_icmp_eq (tgt := 181) hx hb dX6_turnBy_110 (by decide) (fun c15 => ?_) (fun c15 => ?_)
    · have h := h.1 c15
      obtain ⟨y16, ey16⟩ : ∃ z : Int32, z = (x5 + (1 : Int32)) := ⟨_, rfl⟩
      have h := h y16 ey16
      refine lv_iinc (v := y16) (lv' := [(5, .int y16), (7, .int y12), (6, .int t0), (0, .ref (b 0)), (1, .int x1), (2, .int x2), (4, .int x4)]) hx hb dX6_turnBy_181 hl (k := 6) rfl (by rw [ey16]; rfl) (by decide) rfl (fun ls hl => ?_)
      refine lv_goto (tgt := 50) hx hb dX6_turnBy_184 (by decide) ?_
      exact k50 M y16 H locs ls h hP hD hS (lv_sub hl [3, 4, 5, 6, 0] rfl)
    · have h := h.2 c15
      refine lv_aload_n hx hb dX6_turnBy_113 rfl (lv_at hl 2 rfl) ?_
      refine va_get (D := (dC, dI)) (ci := 5) (v := .ref (b 14)) (C := RX6) (T := TX6) (N := 27) hx hb hts hiX6 hown hK hP 0 rfl rfl 20 (by decide) hf50 (fun _ h9 => h9) rfl dX6_turnBy_114 ?_
      refine lv_iload_n hx hb dX6_turnBy_117 rfl (lv_at hl 3 rfl) ?_
      obtain ⟨i17, h⟩ := h
      refine va_iald (D := (dC, dI)) hx hb hK hP 14 0 rfl rfl i17 dX6_turnBy_118 ?_
      refine lv_iconst (v := -1) hx hb dX6_turnBy_119 (by decide) ?_
      refine lv_icmp_eq (tgt := 134) hx hb dX6_turnBy_120 (by decide) (fun c18 => ?_) (fun c18 => ?_)
      · have h := h.1 c18
        exact t_X6_turnBy_134 G k50 h hP hD hS (lv_sub hl [2, 3, 4, 5, 6, 0] rfl)
      · have h := h.2 c18
        refine lv_iload hx hb dX6_turnBy_123 (lv_at hl 0 rfl) ?_
        refine lv_aload_n hx hb dX6_turnBy_125 rfl (lv_at hl 2 rfl) ?_
        refine va_get (D := (dC, dI)) (ci := 5) (v := .ref (b 14)) (C := RX6) (T := TX6) (N := 27) hx hb hts hiX6 hown hK hP 0 rfl rfl 20 (by decide) hf50 (fun _ h9 => h9) rfl dX6_turnBy_126 ?_
        refine lv_iload_n hx hb dX6_turnBy_129 rfl (lv_at hl 3 rfl) ?_
        obtain ⟨i30, h⟩ := h
        refine va_iald (D := (dC, dI)) hx hb hK hP 14 0 rfl rfl i30 dX6_turnBy_130 ?_
        refine lv_icmp_ge (tgt := 181) hx hb dX6_turnBy_131 (by decide) (fun c31 => ?_) (fun c31 => ?_)
        · have h := h.1 c31
          obtain ⟨y32, ey32⟩ : ∃ z : Int32, z = (x5 + (1 : Int32)) := ⟨_, rfl⟩
          have h := h y32 ey32
          refine lv_iinc (v := y32) (lv' := [(5, .int y32), (7, .int y12), (6, .int t0), (0, .ref (b 0)), (1, .int x1), (2, .int x2), (4, .int x4)]) hx hb dX6_turnBy_181 hl (k := 6) rfl (by rw [ey32]; rfl) (by decide) rfl (fun ls hl => ?_)
          refine lv_goto (tgt := 50) hx hb dX6_turnBy_184 (by decide) ?_
          exact k50 M y32 H locs ls h hP hD hS (lv_sub hl [3, 4, 5, 6, 0] rfl)
        · have h := h.2 c31
          exact t_X6_turnBy_134 G k50 h hP hD hS (lv_sub hl [2, 3, 4, 5, 6, 0] rfl)
def p_X6_turnBy_85 (g50 : MS → Int32 → Prop) (M : MS) (x1 : Int32) (x2 : Int32) (x4 : Int32) (x5 : Int32) (post : MS → Prop) : Prop := p_X6_turnBy_86 g50 M x1 x2 x4 x5 (0 : Int32) post
set_option maxHeartbeats 1000000 in
set_option maxRecDepth 100000 in
theorem t_X6_turnBy_85 {p : Program} {l : Launch} {e : Env} {s : State} {m : MethodId} {args : Array Value} {below : List Frame} {meth : Method} {c : Code} {dC : Nat → ClassId} {dI : Nat → Nat → Nat} {cyI cyJ cyZ : ClassId} {r : Nat → Nat} {b : Nat → Nat} {A : Nat → Prop} {g50 : MS → Int32 → Prop} {M : MS} {x1 : Int32} {x2 : Int32} {x4 : Int32} {x5 : Int32} {post : MS → Prop} (G : xG p s m args meth c cX6_turnBy 8 RX6 none wsX6_turnBy (dC, dI) (tyA cyI cyJ cyZ) r A) (k50 : ∀ (M' : MS) (x5' : Int32) (H : Heap) (locs : List Loc) (ls : Array Slot), g50 M' x5' → va_P (dC, dI) vwCl (wM cyI cyJ cyZ b M') H → va_D A (wM cyI cyJ cyZ b M') → va_S A s.heap H locs → lv_has ls 8 [(0, .ref (b 0)), (1, .int x1), (2, .int x2), (4, .int x4), (5, .int x5')] → W p l e { frames := 1, cells := 0, slots := 0, locals := 21 } s m args below meth c H locs 0 0 (MQ below (va_Qv post (xAt (dC, dI) (tyA cyI cyJ cyZ) (wM cyI cyJ cyZ b) A) A) args s 0 0 A) (F0 m 50 ls [])) (h : p_X6_turnBy_85 g50 M x1 x2 x4 x5 post) {H : Heap} {locs : List Loc} {ls : Array Slot} (hP : va_P (dC, dI) vwCl (wM cyI cyJ cyZ b M) H) (hD : va_D A (wM cyI cyJ cyZ b M)) (hS : va_S A s.heap H locs) (hl : lv_has ls 8 [(0, .ref (b 0)), (1, .int x1), (2, .int x2), (4, .int x4), (5, .int x5)]) : W p l e { frames := 1, cells := 0, slots := 0, locals := 21 } s m args below meth c H locs 0 0 (MQ below (va_Qv post (xAt (dC, dI) (tyA cyI cyJ cyZ) (wM cyI cyJ cyZ b) A) A) args s 0 0 A) (F0 m 85 ls []) := by
  obtain ⟨hx, hb, hml, hown, hts, hr, hlocks, hK, hE, hA⟩ := id G
  unfold p_X6_turnBy_85 at h
  refine lv_iconst (v := 0) hx hb dX6_turnBy_85 (by decide) ?_
  exact t_X6_turnBy_86 G k50 h hP hD hS (lv_sub hl [0, 1, 2, 3, 4] rfl)
def b_X6_turnBy_50 (x1 : Int32) (x2 : Int32) (x4 : Int32) (post : MS → Prop) (g50 : MS → Int32 → Prop) (M : MS) (x5 : Int32) : Prop := ((mCE M) ≤ x5 → (post M)) ∧ (¬ (mCE M) ≤ x5 → (vp_in x5 12 ∧ ((¬ ((mPI M) x5.toNatClampNeg) = (1 : Int32) → (p_X6_turnBy_85 g50 M x1 x2 x4 x5 post)) ∧ (((mPI M) x5.toNatClampNeg) = (1 : Int32) → (vp_in x5 12 ∧ ((¬ ((mTR M) x5.toNatClampNeg) = (1 : Int32) → (p_X6_turnBy_85 g50 M x1 x2 x4 x5 post)) ∧ (((mTR M) x5.toNatClampNeg) = (1 : Int32) → (p_X6_turnBy_86 g50 M x1 x2 x4 x5 (1 : Int32) post))))))))
def p_X6_turnBy_50 (M : MS) (x1 : Int32) (x2 : Int32) (x4 : Int32) (x5 : Int32) (post : MS → Prop) : Prop := ∃ (I : MS → Int32 → Prop) (mu : MS → Int32 → Nat), I M x5 ∧ ∀ (M : MS) (x5 : Int32), I M x5 → b_X6_turnBy_50 x1 x2 x4 post (fun M' x5' => I M' x5' ∧ mu M' x5' < mu M x5) M x5
set_option maxHeartbeats 1000000 in
set_option maxRecDepth 100000 in
theorem t_X6_turnBy_50 {p : Program} {l : Launch} {e : Env} {s : State} {m : MethodId} {args : Array Value} {below : List Frame} {meth : Method} {c : Code} {dC : Nat → ClassId} {dI : Nat → Nat → Nat} {cyI cyJ cyZ : ClassId} {r : Nat → Nat} {b : Nat → Nat} {A : Nat → Prop} {M : MS} {x1 : Int32} {x2 : Int32} {x4 : Int32} {x5 : Int32} {post : MS → Prop} (G : xG p s m args meth c cX6_turnBy 8 RX6 none wsX6_turnBy (dC, dI) (tyA cyI cyJ cyZ) r A) (h : p_X6_turnBy_50 M x1 x2 x4 x5 post) {H : Heap} {locs : List Loc} {ls : Array Slot} (hP : va_P (dC, dI) vwCl (wM cyI cyJ cyZ b M) H) (hD : va_D A (wM cyI cyJ cyZ b M)) (hS : va_S A s.heap H locs) (hl : lv_has ls 8 [(0, .ref (b 0)), (1, .int x1), (2, .int x2), (4, .int x4), (5, .int x5)]) : W p l e { frames := 1, cells := 0, slots := 0, locals := 21 } s m args below meth c H locs 0 0 (MQ below (va_Qv post (xAt (dC, dI) (tyA cyI cyJ cyZ) (wM cyI cyJ cyZ b) A) A) args s 0 0 A) (F0 m 50 ls []) := by
  obtain ⟨hx, hb, hml, hown, hts, hr, hlocks, hK, hE, hA⟩ := id G
  have hiX6 : ∀ w ∈ wsX60, w ∈ wsX6_turnBy := by decide +kernel
  have hf145 := hts (.fieldLink RX6 145 "CellMappingModel" "cells" "I") (by decide +kernel)
  have hf25 := hts (.fieldLink RX6 25 "CellMappingModel" "pins" "[I") (by decide +kernel)
  have hf28 := hts (.fieldLink RX6 28 "CellMappingModel" "truths" "[I") (by decide +kernel)
  obtain ⟨I, mu, h0, hstep⟩ := h
  suffices hgo : ∀ (n : Nat) (M : MS) (x5 : Int32), I M x5 → mu M x5 < n → ∀ (H : Heap) (locs : List Loc) (ls : Array Slot), va_P (dC, dI) vwCl (wM cyI cyJ cyZ b M) H → va_D A (wM cyI cyJ cyZ b M) → va_S A s.heap H locs → lv_has ls 8 [(0, .ref (b 0)), (1, .int x1), (2, .int x2), (4, .int x4), (5, .int x5)] → W p l e { frames := 1, cells := 0, slots := 0, locals := 21 } s m args below meth c H locs 0 0 (MQ below (va_Qv post (xAt (dC, dI) (tyA cyI cyJ cyZ) (wM cyI cyJ cyZ b) A) A) args s 0 0 A) (F0 m 50 ls []) from hgo (mu M x5 + 1) M x5 h0 (Nat.lt_succ_self _) H locs ls hP hD hS hl
  clear h0 hP hD hS hl
  intro n
  induction n with
  | zero => intro M x5 _ h; exact absurd h (Nat.not_lt_zero _)
  | succ n ih =>
    intro M x5 hI hmu H locs ls hP hD hS hl
    have h := hstep M x5 hI
    unfold b_X6_turnBy_50 at h
    have k50 : ∀ (M' : MS) (x5' : Int32) (H : Heap) (locs : List Loc) (ls : Array Slot), (fun M' x5' => I M' x5' ∧ mu M' x5' < mu M x5) M' x5' → va_P (dC, dI) vwCl (wM cyI cyJ cyZ b M') H → va_D A (wM cyI cyJ cyZ b M') → va_S A s.heap H locs → lv_has ls 8 [(0, .ref (b 0)), (1, .int x1), (2, .int x2), (4, .int x4), (5, .int x5')] → W p l e { frames := 1, cells := 0, slots := 0, locals := 21 } s m args below meth c H locs 0 0 (MQ below (va_Qv post (xAt (dC, dI) (tyA cyI cyJ cyZ) (wM cyI cyJ cyZ b) A) A) args s 0 0 A) (F0 m 50 ls []) := fun M' x5' H locs ls hh hP hD hS hl => ih M' x5' hh.1 (Nat.lt_of_lt_of_le hh.2 (Nat.le_of_lt_succ hmu)) H locs ls hP hD hS hl
    generalize (fun M' x5' => I M' x5' ∧ mu M' x5' < mu M x5) = g50 at h k50
    refine lv_iload hx hb dX6_turnBy_50 (lv_at hl 4 rfl) ?_
    refine lv_aload_n hx hb dX6_turnBy_52 rfl (lv_at hl 0 rfl) ?_
    refine va_get (D := (dC, dI)) (ci := 5) (v := .int (mCE M)) (C := RX6) (T := TX6) (N := 27) hx hb hts hiX6 hown hK hP 0 rfl rfl 10 (by decide) hf145 (fun _ h9 => h9) rfl dX6_turnBy_53 ?_
    refine lv_icmp_ge (tgt := 187) hx hb dX6_turnBy_56 (by decide) (fun c8 => ?_) (fun c8 => ?_)
    · have h := h.1 c8
      exact xr_v (S := M) hx hb hr hlocks hK hP hD hS h (Nat.le_of_ble_eq_true rfl) (Nat.le_of_ble_eq_true rfl) dX6_turnBy_187
    · have h := h.2 c8
      refine lv_aload_n hx hb dX6_turnBy_59 rfl (lv_at hl 0 rfl) ?_
      refine va_get (D := (dC, dI)) (ci := 5) (v := .ref (b 6)) (C := RX6) (T := TX6) (N := 27) hx hb hts hiX6 hown hK hP 0 rfl rfl 11 (by decide) hf25 (fun _ h9 => h9) rfl dX6_turnBy_60 ?_
      refine lv_iload hx hb dX6_turnBy_63 (lv_at hl 4 rfl) ?_
      obtain ⟨i9, h⟩ := h
      refine va_iald (D := (dC, dI)) hx hb hK hP 6 0 rfl rfl i9 dX6_turnBy_65 ?_
      refine lv_iconst (v := 1) hx hb dX6_turnBy_66 (by decide) ?_
      refine lv_icmp_ne (tgt := 85) hx hb dX6_turnBy_67 (by decide) (fun c10 => ?_) (fun c10 => ?_)
      · have h := h.1 c10
        exact t_X6_turnBy_85 G k50 h hP hD hS (lv_sub hl [0, 1, 2, 3, 4] rfl)
      · have h := h.2 c10
        refine lv_aload_n hx hb dX6_turnBy_70 rfl (lv_at hl 0 rfl) ?_
        refine va_get (D := (dC, dI)) (ci := 5) (v := .ref (b 7)) (C := RX6) (T := TX6) (N := 27) hx hb hts hiX6 hown hK hP 0 rfl rfl 12 (by decide) hf28 (fun _ h9 => h9) rfl dX6_turnBy_71 ?_
        refine lv_iload hx hb dX6_turnBy_74 (lv_at hl 4 rfl) ?_
        obtain ⟨i33, h⟩ := h
        refine va_iald (D := (dC, dI)) hx hb hK hP 7 0 rfl rfl i33 dX6_turnBy_76 ?_
        refine lv_iconst (v := 1) hx hb dX6_turnBy_77 (by decide) ?_
        refine lv_icmp_ne (tgt := 85) hx hb dX6_turnBy_78 (by decide) (fun c34 => ?_) (fun c34 => ?_)
        · have h := h.1 c34
          exact t_X6_turnBy_85 G k50 h hP hD hS (lv_sub hl [0, 1, 2, 3, 4] rfl)
        · have h := h.2 c34
          refine lv_iconst (v := 1) hx hb dX6_turnBy_81 (by decide) ?_
          refine lv_goto (tgt := 86) hx hb dX6_turnBy_82 (by decide) ?_
          exact t_X6_turnBy_86 G k50 h hP hD hS (lv_sub hl [0, 1, 2, 3, 4] rfl)
def p_X6_turnBy_25 (M : MS) (x1 : Int32) (x2 : Int32) (t0 : Int32) (post : MS → Prop) : Prop := (t0 = 0 → (vp_in x2 64 ∧ (∀ y7 : Int32, y7 = ((mFI M) x2.toNatClampNeg) → (p_X6_turnBy_50 M x1 x2 y7 (0 : Int32) post)))) ∧ (¬ t0 = 0 → (vp_in x2 64 ∧ (∀ y36 : Int32, y36 = ((mAV M) x2.toNatClampNeg) → (p_X6_turnBy_50 M x1 x2 y36 (0 : Int32) post))))
set_option maxHeartbeats 1000000 in
set_option maxRecDepth 100000 in
theorem t_X6_turnBy_25 {p : Program} {l : Launch} {e : Env} {s : State} {m : MethodId} {args : Array Value} {below : List Frame} {meth : Method} {c : Code} {dC : Nat → ClassId} {dI : Nat → Nat → Nat} {cyI cyJ cyZ : ClassId} {r : Nat → Nat} {b : Nat → Nat} {A : Nat → Prop} {M : MS} {x1 : Int32} {x2 : Int32} {t0 : Int32} {post : MS → Prop} (G : xG p s m args meth c cX6_turnBy 8 RX6 none wsX6_turnBy (dC, dI) (tyA cyI cyJ cyZ) r A) (h : p_X6_turnBy_25 M x1 x2 t0 post) {H : Heap} {locs : List Loc} {ls : Array Slot} (hP : va_P (dC, dI) vwCl (wM cyI cyJ cyZ b M) H) (hD : va_D A (wM cyI cyJ cyZ b M)) (hS : va_S A s.heap H locs) (hl : lv_has ls 8 [(0, .ref (b 0)), (1, .int x1), (2, .int x2)]) : W p l e { frames := 1, cells := 0, slots := 0, locals := 21 } s m args below meth c H locs 0 0 (MQ below (va_Qv post (xAt (dC, dI) (tyA cyI cyJ cyZ) (wM cyI cyJ cyZ b) A) A) args s 0 0 A) (F0 m 25 ls [.int t0]) := by
  obtain ⟨hx, hb, hml, hown, hts, hr, hlocks, hK, hE, hA⟩ := id G
  have hiX6 : ∀ w ∈ wsX60, w ∈ wsX6_turnBy := by decide +kernel
  have hf47 := hts (.fieldLink RX6 47 "CellMappingModel" "first" "[I") (by decide +kernel)
  have hf50 := hts (.fieldLink RX6 50 "CellMappingModel" "arrivals" "[I") (by decide +kernel)
  unfold p_X6_turnBy_25 at h
  refine lv_istore_n (lv' := [(3, .int t0), (0, .ref (b 0)), (1, .int x1), (2, .int x2)]) hx hb dX6_turnBy_25 rfl hl (by decide) rfl (fun ls hl => ?_)
  refine lv_iload_n hx hb dX6_turnBy_26 rfl (lv_at hl 0 rfl) ?_
  refine lv_if_eq (tgt := 39) hx hb dX6_turnBy_27 (by decide) (fun c5 => ?_) (fun c5 => ?_)
  · have h := h.1 c5
    refine lv_aload_n hx hb dX6_turnBy_39 rfl (lv_at hl 1 rfl) ?_
    refine va_get (D := (dC, dI)) (ci := 5) (v := .ref (b 13)) (C := RX6) (T := TX6) (N := 27) hx hb hts hiX6 hown hK hP 0 rfl rfl 19 (by decide) hf47 (fun _ h9 => h9) rfl dX6_turnBy_40 ?_
    refine lv_iload_n hx hb dX6_turnBy_43 rfl (lv_at hl 3 rfl) ?_
    obtain ⟨i6, h⟩ := h
    refine va_iald (D := (dC, dI)) hx hb hK hP 13 0 rfl rfl i6 dX6_turnBy_44 ?_
    refine lv_topi (fun y7 ey7 => ?_)
    have h := h y7 ey7
    refine lv_istore (lv' := [(4, .int y7), (3, .int t0), (0, .ref (b 0)), (1, .int x1), (2, .int x2)]) hx hb dX6_turnBy_45 hl (by decide) rfl (fun ls hl => ?_)
    refine lv_iconst (v := 0) hx hb dX6_turnBy_47 (by decide) ?_
    refine lv_istore (lv' := [(5, .int (0 : Int32)), (4, .int y7), (3, .int t0), (0, .ref (b 0)), (1, .int x1), (2, .int x2)]) hx hb dX6_turnBy_48 hl (by decide) rfl (fun ls hl => ?_)
    exact t_X6_turnBy_50 G h hP hD hS (lv_sub hl [3, 4, 5, 1, 0] rfl)
  · have h := h.2 c5
    refine lv_aload_n hx hb dX6_turnBy_30 rfl (lv_at hl 1 rfl) ?_
    refine va_get (D := (dC, dI)) (ci := 5) (v := .ref (b 14)) (C := RX6) (T := TX6) (N := 27) hx hb hts hiX6 hown hK hP 0 rfl rfl 20 (by decide) hf50 (fun _ h9 => h9) rfl dX6_turnBy_31 ?_
    refine lv_iload_n hx hb dX6_turnBy_34 rfl (lv_at hl 3 rfl) ?_
    obtain ⟨i35, h⟩ := h
    refine va_iald (D := (dC, dI)) hx hb hK hP 14 0 rfl rfl i35 dX6_turnBy_35 ?_
    refine lv_goto (tgt := 45) hx hb dX6_turnBy_36 (by decide) ?_
    refine lv_topi (fun y36 ey36 => ?_)
    have h := h y36 ey36
    refine lv_istore (lv' := [(4, .int y36), (3, .int t0), (0, .ref (b 0)), (1, .int x1), (2, .int x2)]) hx hb dX6_turnBy_45 hl (by decide) rfl (fun ls hl => ?_)
    refine lv_iconst (v := 0) hx hb dX6_turnBy_47 (by decide) ?_
    refine lv_istore (lv' := [(5, .int (0 : Int32)), (4, .int y36), (3, .int t0), (0, .ref (b 0)), (1, .int x1), (2, .int x2)]) hx hb dX6_turnBy_48 hl (by decide) rfl (fun ls hl => ?_)
    exact t_X6_turnBy_50 G h hP hD hS (lv_sub hl [3, 4, 5, 1, 0] rfl)
def p_X6_turnBy_24 (M : MS) (x1 : Int32) (x2 : Int32) (post : MS → Prop) : Prop := p_X6_turnBy_25 M x1 x2 (0 : Int32) post
set_option maxHeartbeats 1000000 in
set_option maxRecDepth 100000 in
theorem t_X6_turnBy_24 {p : Program} {l : Launch} {e : Env} {s : State} {m : MethodId} {args : Array Value} {below : List Frame} {meth : Method} {c : Code} {dC : Nat → ClassId} {dI : Nat → Nat → Nat} {cyI cyJ cyZ : ClassId} {r : Nat → Nat} {b : Nat → Nat} {A : Nat → Prop} {M : MS} {x1 : Int32} {x2 : Int32} {post : MS → Prop} (G : xG p s m args meth c cX6_turnBy 8 RX6 none wsX6_turnBy (dC, dI) (tyA cyI cyJ cyZ) r A) (h : p_X6_turnBy_24 M x1 x2 post) {H : Heap} {locs : List Loc} {ls : Array Slot} (hP : va_P (dC, dI) vwCl (wM cyI cyJ cyZ b M) H) (hD : va_D A (wM cyI cyJ cyZ b M)) (hS : va_S A s.heap H locs) (hl : lv_has ls 8 [(0, .ref (b 0)), (1, .int x1), (2, .int x2)]) : W p l e { frames := 1, cells := 0, slots := 0, locals := 21 } s m args below meth c H locs 0 0 (MQ below (va_Qv post (xAt (dC, dI) (tyA cyI cyJ cyZ) (wM cyI cyJ cyZ b) A) A) args s 0 0 A) (F0 m 24 ls []) := by
  obtain ⟨hx, hb, hml, hown, hts, hr, hlocks, hK, hE, hA⟩ := id G
  unfold p_X6_turnBy_24 at h
  refine lv_iconst (v := 0) hx hb dX6_turnBy_24 (by decide) ?_
  exact t_X6_turnBy_25 G h hP hD hS (lv_sub hl [0, 1, 2] rfl)
def p_X6_turnBy (M : MS) (x1 : Int32) (post : MS → Prop) : Prop := ∀ y1 : Int32, y1 = (x1 ^^^ (1 : Int32)) → (p_X6_isInput M (y1 / (2 : Int32)) (fun r2 => (r2 = 0 → (p_X6_turnBy_24 M x1 y1 post)) ∧ (¬ r2 = 0 → ((¬ (y1 &&& (1 : Int32)) = 0 → (p_X6_turnBy_24 M x1 y1 post)) ∧ ((y1 &&& (1 : Int32)) = 0 → (p_X6_turnBy_25 M x1 y1 (1 : Int32) post))))))
set_option maxHeartbeats 1000000 in
set_option maxRecDepth 100000 in
theorem t_X6_turnBy {l : Launch} {dC : Nat → ClassId} {dI : Nat → Nat → Nat} {cyI cyJ cyZ : ClassId} {r : Nat → Nat} {b : Nat → Nat} {M : MS} {x1 : Int32} {post : MS → Prop} (h : p_X6_turnBy M x1 post) : xMv l yX6_turnBy wsX6_turnBy { frames := 1, cells := 0, slots := 0, locals := 21 } (dC, dI) (tyA cyI cyJ cyZ) r (wM cyI cyJ cyZ b) [.ref (b 0), .int x1] M post 0 0 := by
  intro sz
  refine Met.ofW (cc := cX6_turnBy) (maxL := 8) (ret := none) (by decide) rfl ?_
  intro p e s m args below meth c s₁ B hml hv
  obtain ⟨rfl, G, hP, hD, hS⟩ := xG.of rfl B hml hv
  generalize hAe : va_A (wM cyI cyJ cyZ b M) sz = A at G hD hS ⊢
  have G : xG p s m _ meth c cX6_turnBy 8 RX6 none wsX6_turnBy (dC, dI) (tyA cyI cyJ cyZ) r A := G
  obtain ⟨hx, hb, hml, hown, hts, hr, hlocks, hK, hE, hA⟩ := id G
  have hl := lv_entry ([.ref (b 0), .int x1]) (n := 8) (Nat.le_of_ble_eq_true rfl)
  rw [lg_entry_eq]
  generalize (lg_sl ([.ref (b 0), .int x1]) ++ List.replicate (8 - (lg_sl ([.ref (b 0), .int x1])).length) Slot.unset).toArray = ls at hl ⊢
  have hl : lv_has ls 8 [(0, .ref (b 0)), (1, .int x1)] := hl
  show W p l e { frames := 1, cells := 0, slots := 0, locals := 21 } s m _ below meth c s.heap [] 0 0 _ _
  unfold p_X6_turnBy at h
  refine lv_iload_n hx hb dX6_turnBy_0 rfl (lv_at hl 1 rfl) ?_
  refine lv_iconst (v := 1) hx hb dX6_turnBy_1 (by decide) ?_
  refine lv_ixor hx hb dX6_turnBy_2 ?_
  refine lv_topi (fun y1 ey1 => ?_)
  have h := h y1 ey1
  refine lv_istore_n (lv' := [(2, .int y1), (0, .ref (b 0)), (1, .int x1)]) hx hb dX6_turnBy_3 rfl hl (by decide) rfl (fun ls hl => ?_)
  refine lv_aload_n hx hb dX6_turnBy_4 rfl (lv_at hl 1 rfl) ?_
  refine lv_iload_n hx hb dX6_turnBy_5 rfl (lv_at hl 0 rfl) ?_
  refine lv_iconst (v := 2) hx hb dX6_turnBy_6 (by decide) ?_
  refine lv_idiv hx hb dX6_turnBy_7 (by decide) ?_
  refine xc_Vi (wf := wM cyI cyJ cyZ b) (wr := []) (isC := [0, 1, 2, 3, 4, 5, 6, 7, 8, 9, 10, 11, 12, 13, 14, 15, 16, 17, 18, 19, 20]) (isR := []) (As := [.int (y1 / (2 : Int32))]) (rest := []) ⟨hx, hb, hml, hown, hts⟩ (t_X6_isInput h) (cwV 1 hts gX6_turnBy_X6_isInput rfl rfl rfl (by decide +kernel) ⟨Nat.le_of_ble_eq_true rfl, Nat.le_of_ble_eq_true rfl⟩) ⟨hK, hE, hA, hP, hD, hS, rfl, rfl, rfl, rfl, by decide⟩ ⟨0, 5, _, _, rfl, rfl, rfl⟩ rfl rfl hl.1 (Nat.le_of_ble_eq_true rfl) dX6_turnBy_8 ⟨Nat.le_of_ble_eq_true rfl, Nat.le_of_ble_eq_true rfl⟩ (fun r2 S3 H locs h hP hD hS => ?_)
  obtain ⟨rfl, h⟩ := h
  have hP : va_P (dC, dI) vwCl (wM cyI cyJ cyZ b M) H := hP
  have hD : va_D A (wM cyI cyJ cyZ b M) := hD
  refine lv_if_eq (tgt := 24) hx hb dX6_turnBy_11 (by decide) (fun c4 => ?_) (fun c4 => ?_)
  · have h := h.1 c4
    exact t_X6_turnBy_24 G h hP hD hS (lv_sub hl [1, 2, 0] rfl)
  · have h := h.2 c4
    refine lv_iload_n hx hb dX6_turnBy_14 rfl (lv_at hl 0 rfl) ?_
    refine lv_iconst (v := 1) hx hb dX6_turnBy_15 (by decide) ?_
    refine lv_iand hx hb dX6_turnBy_16 ?_
    refine lv_if_ne (tgt := 24) hx hb dX6_turnBy_17 (by decide) (fun c37 => ?_) (fun c37 => ?_)
    · have h := h.1 c37
      exact t_X6_turnBy_24 G h hP hD hS (lv_sub hl [1, 2, 0] rfl)
    · have h := h.2 c37
      refine lv_iconst (v := 1) hx hb dX6_turnBy_20 (by decide) ?_
      refine lv_goto (tgt := 25) hx hb dX6_turnBy_21 (by decide) ?_
      exact t_X6_turnBy_25 G h hP hD hS (lv_sub hl [1, 2, 0] rfl)
def b_X6_settle_109 (post : MS → Prop) (g109 : MS → Int32 → Prop) (M : MS) (x1 : Int32) : Prop := ((mND M) ≤ x1 → (post M)) ∧ (¬ (mND M) ≤ x1 → (p_X6_isInput M x1 (fun r6 => (r6 = 0 → (p_X6_workAnd M x1 (fun S9 => vp_in ((2 : Int32) * x1) 64 ∧ (vp_in ((2 : Int32) * x1) 64 ∧ (∀ M12 : MS, M12 = (mAV_s S9 (upd (mAV S9) ((2 : Int32) * x1).toNatClampNeg ((mFI S9) ((2 : Int32) * x1).toNatClampNeg))) → (vp_in (((2 : Int32) * x1) + (1 : Int32)) 64 ∧ (vp_in (((2 : Int32) * x1) + (1 : Int32)) 64 ∧ (∀ M15 : MS, M15 = (mAV_s M12 (upd (mAV M12) (((2 : Int32) * x1) + (1 : Int32)).toNatClampNeg ((mFI M12) (((2 : Int32) * x1) + (1 : Int32)).toNatClampNeg))) → (p_X6_turnBy M15 ((2 : Int32) * x1) (fun S16 => p_X6_turnBy S16 (((2 : Int32) * x1) + (1 : Int32)) (fun S17 => ∀ y18 : Int32, y18 = (x1 + (1 : Int32)) → (g109 S17 y18)))))))))))) ∧ (¬ r6 = 0 → (p_X6_turnBy M (((2 : Int32) * x1) + (1 : Int32)) (fun S19 => ∀ y20 : Int32, y20 = (x1 + (1 : Int32)) → (g109 S19 y20)))))))
def p_X6_settle_109 (M : MS) (x1 : Int32) (post : MS → Prop) : Prop := ∃ (I : MS → Int32 → Prop) (mu : MS → Int32 → Nat), I M x1 ∧ ∀ (M : MS) (x1 : Int32), I M x1 → b_X6_settle_109 post (fun M' x1' => I M' x1' ∧ mu M' x1' < mu M x1) M x1
set_option maxHeartbeats 1000000 in
set_option maxRecDepth 100000 in
theorem t_X6_settle_109 {p : Program} {l : Launch} {e : Env} {s : State} {m : MethodId} {args : Array Value} {below : List Frame} {meth : Method} {c : Code} {dC : Nat → ClassId} {dI : Nat → Nat → Nat} {cyI cyJ cyZ : ClassId} {r : Nat → Nat} {b : Nat → Nat} {A : Nat → Prop} {M : MS} {x1 : Int32} {post : MS → Prop} (G : xG p s m args meth c cX6_settle 3 RX6 none wsX6_settle (dC, dI) (tyA cyI cyJ cyZ) r A) (h : p_X6_settle_109 M x1 post) {H : Heap} {locs : List Loc} {ls : Array Slot} (hP : va_P (dC, dI) vwCl (wM cyI cyJ cyZ b M) H) (hD : va_D A (wM cyI cyJ cyZ b M)) (hS : va_S A s.heap H locs) (hl : lv_has ls 3 [(0, .ref (b 0)), (1, .int x1)]) : W p l e { frames := 5, cells := 0, slots := 0, locals := 135 } s m args below meth c H locs 0 0 (MQ below (va_Qv post (xAt (dC, dI) (tyA cyI cyJ cyZ) (wM cyI cyJ cyZ b) A) A) args s 0 0 A) (F0 m 109 ls []) := by
  obtain ⟨hx, hb, hml, hown, hts, hr, hlocks, hK, hE, hA⟩ := id G
  have hiX6 : ∀ w ∈ wsX60, w ∈ wsX6_settle := by decide +kernel
  have hf79 := hts (.fieldLink RX6 79 "CellMappingModel" "nodes" "I") (by decide +kernel)
  have hf50 := hts (.fieldLink RX6 50 "CellMappingModel" "arrivals" "[I") (by decide +kernel)
  have hf47 := hts (.fieldLink RX6 47 "CellMappingModel" "first" "[I") (by decide +kernel)
  obtain ⟨I, mu, h0, hstep⟩ := h
  suffices hgo : ∀ (n : Nat) (M : MS) (x1 : Int32), I M x1 → mu M x1 < n → ∀ (H : Heap) (locs : List Loc) (ls : Array Slot), va_P (dC, dI) vwCl (wM cyI cyJ cyZ b M) H → va_D A (wM cyI cyJ cyZ b M) → va_S A s.heap H locs → lv_has ls 3 [(0, .ref (b 0)), (1, .int x1)] → W p l e { frames := 5, cells := 0, slots := 0, locals := 135 } s m args below meth c H locs 0 0 (MQ below (va_Qv post (xAt (dC, dI) (tyA cyI cyJ cyZ) (wM cyI cyJ cyZ b) A) A) args s 0 0 A) (F0 m 109 ls []) from hgo (mu M x1 + 1) M x1 h0 (Nat.lt_succ_self _) H locs ls hP hD hS hl
  clear h0 hP hD hS hl
  intro n
  induction n with
  | zero => intro M x1 _ h; exact absurd h (Nat.not_lt_zero _)
  | succ n ih =>
    intro M x1 hI hmu H locs ls hP hD hS hl
    have h := hstep M x1 hI
    unfold b_X6_settle_109 at h
    have k109 : ∀ (M' : MS) (x1' : Int32) (H : Heap) (locs : List Loc) (ls : Array Slot), (fun M' x1' => I M' x1' ∧ mu M' x1' < mu M x1) M' x1' → va_P (dC, dI) vwCl (wM cyI cyJ cyZ b M') H → va_D A (wM cyI cyJ cyZ b M') → va_S A s.heap H locs → lv_has ls 3 [(0, .ref (b 0)), (1, .int x1')] → W p l e { frames := 5, cells := 0, slots := 0, locals := 135 } s m args below meth c H locs 0 0 (MQ below (va_Qv post (xAt (dC, dI) (tyA cyI cyJ cyZ) (wM cyI cyJ cyZ b) A) A) args s 0 0 A) (F0 m 109 ls []) := fun M' x1' H locs ls hh hP hD hS hl => ih M' x1' hh.1 (Nat.lt_of_lt_of_le hh.2 (Nat.le_of_lt_succ hmu)) H locs ls hP hD hS hl
    generalize (fun M' x1' => I M' x1' ∧ mu M' x1' < mu M x1) = g109 at h k109
    refine lv_iload_n hx hb dX6_settle_109 rfl (lv_at hl 1 rfl) ?_
    refine lv_aload_n hx hb dX6_settle_110 rfl (lv_at hl 0 rfl) ?_
    refine va_get (D := (dC, dI)) (ci := 5) (v := .int (mND M)) (C := RX6) (T := TX6) (N := 27) hx hb hts hiX6 hown hK hP 0 rfl rfl 1 (by decide) hf79 (fun _ h9 => h9) rfl dX6_settle_111 ?_
    refine lv_icmp_ge (tgt := 200) hx hb dX6_settle_114 (by decide) (fun c5 => ?_) (fun c5 => ?_)
    · have h := h.1 c5
      exact xr_v (S := M) hx hb hr hlocks hK hP hD hS h (Nat.le_of_ble_eq_true rfl) (Nat.le_of_ble_eq_true rfl) dX6_settle_200
    · have h := h.2 c5
      refine lv_aload_n hx hb dX6_settle_117 rfl (lv_at hl 0 rfl) ?_
      refine lv_iload_n hx hb dX6_settle_118 rfl (lv_at hl 1 rfl) ?_
      refine xc_Vi (wf := wM cyI cyJ cyZ b) (wr := []) (isC := [0, 1, 2, 3, 4, 5, 6, 7, 8, 9, 10, 11, 12, 13, 14, 15, 16, 17, 18, 19, 20]) (isR := []) (As := [.int x1]) (rest := []) ⟨hx, hb, hml, hown, hts⟩ (t_X6_isInput h) (cwV 1 hts gX6_settle_X6_isInput rfl rfl rfl (by decide +kernel) ⟨Nat.le_of_ble_eq_true rfl, Nat.le_of_ble_eq_true rfl⟩) ⟨hK, hE, hA, hP, hD, hS, rfl, rfl, rfl, rfl, by decide⟩ ⟨0, 5, _, _, rfl, rfl, rfl⟩ rfl rfl hl.1 (Nat.le_of_ble_eq_true rfl) dX6_settle_119 ⟨Nat.le_of_ble_eq_true rfl, Nat.le_of_ble_eq_true rfl⟩ (fun r6 S7 H locs h hP hD hS => ?_)
      obtain ⟨rfl, h⟩ := h
      have hP : va_P (dC, dI) vwCl (wM cyI cyJ cyZ b M) H := hP
      have hD : va_D A (wM cyI cyJ cyZ b M) := hD
      refine lv_if_eq (tgt := 137) hx hb dX6_settle_122 (by decide) (fun c8 => ?_) (fun c8 => ?_)
      · have h := h.1 c8
        refine lv_aload_n hx hb dX6_settle_137 rfl (lv_at hl 0 rfl) ?_
        refine lv_iload_n hx hb dX6_settle_138 rfl (lv_at hl 1 rfl) ?_
        refine xc_Vv (wf := wM cyI cyJ cyZ b) (wr := []) (isC := [0, 1, 2, 3, 4, 5, 6, 7, 8, 9, 10, 11, 12, 13, 14, 15, 16, 17, 18, 19, 20]) (isR := []) (As := [.int x1]) (rest := []) ⟨hx, hb, hml, hown, hts⟩ (t_X6_workAnd h) (cwV 1 hts gX6_settle_X6_workAnd rfl rfl rfl (by decide +kernel) ⟨Nat.le_of_ble_eq_true rfl, Nat.le_of_ble_eq_true rfl⟩) ⟨hK, hE, hA, hP, hD, hS, rfl, rfl, rfl, rfl, by decide⟩ ⟨0, 5, _, _, rfl, rfl, rfl⟩ rfl rfl hl.1 (Nat.le_of_ble_eq_true rfl) dX6_settle_139 ⟨Nat.le_of_ble_eq_true rfl, Nat.le_of_ble_eq_true rfl⟩ (fun  S9 H locs h hP hD hS => ?_)
        have hP : va_P (dC, dI) vwCl (wM cyI cyJ cyZ b S9) H := hP
        have hD : va_D A (wM cyI cyJ cyZ b S9) := hD
        refine lv_aload_n hx hb dX6_settle_142 rfl (lv_at hl 0 rfl) ?_
        refine va_get (D := (dC, dI)) (ci := 5) (v := .ref (b 14)) (C := RX6) (T := TX6) (N := 27) hx hb hts hiX6 hown hK hP 0 rfl rfl 20 (by decide) hf50 (fun _ h9 => h9) rfl dX6_settle_143 ?_
        refine lv_iconst (v := 2) hx hb dX6_settle_146 (by decide) ?_
        refine lv_iload_n hx hb dX6_settle_147 rfl (lv_at hl 1 rfl) ?_
        refine lv_imul hx hb dX6_settle_148 ?_
        refine lv_aload_n hx hb dX6_settle_149 rfl (lv_at hl 0 rfl) ?_
        refine va_get (D := (dC, dI)) (ci := 5) (v := .ref (b 13)) (C := RX6) (T := TX6) (N := 27) hx hb hts hiX6 hown hK hP 0 rfl rfl 19 (by decide) hf47 (fun _ h9 => h9) rfl dX6_settle_150 ?_
        refine lv_iconst (v := 2) hx hb dX6_settle_153 (by decide) ?_
        refine lv_iload_n hx hb dX6_settle_154 rfl (lv_at hl 1 rfl) ?_
        refine lv_imul hx hb dX6_settle_155 ?_
        obtain ⟨i10, h⟩ := h
        refine va_iald (D := (dC, dI)) hx hb hK hP 13 0 rfl rfl i10 dX6_settle_156 ?_
        obtain ⟨i11, h⟩ := h
        refine va_iast (D := (dC, dI)) hx hb hK hP hD hS 14 0 rfl rfl i11 dX6_settle_157 (fun H locs hP hD hS => ?_)
        obtain ⟨M12, eM12⟩ : ∃ z : MS, z = (mAV_s S9 (upd (mAV S9) ((2 : Int32) * x1).toNatClampNeg ((mFI S9) ((2 : Int32) * x1).toNatClampNeg))) := ⟨_, rfl⟩
        have h := h M12 eM12
        have hP := nP_mAV eM12 hP
        have hD := nD_mAV eM12 hD
        refine lv_aload_n hx hb dX6_settle_158 rfl (lv_at hl 0 rfl) ?_
        refine va_get (D := (dC, dI)) (ci := 5) (v := .ref (b 14)) (C := RX6) (T := TX6) (N := 27) hx hb hts hiX6 hown hK hP 0 rfl rfl 20 (by decide) hf50 (fun _ h9 => h9) rfl dX6_settle_159 ?_
        refine lv_iconst (v := 2) hx hb dX6_settle_162 (by decide) ?_
        refine lv_iload_n hx hb dX6_settle_163 rfl (lv_at hl 1 rfl) ?_
        refine lv_imul hx hb dX6_settle_164 ?_
        refine lv_iconst (v := 1) hx hb dX6_settle_165 (by decide) ?_
        refine lv_iadd hx hb dX6_settle_166 ?_
        refine lv_aload_n hx hb dX6_settle_167 rfl (lv_at hl 0 rfl) ?_
        refine va_get (D := (dC, dI)) (ci := 5) (v := .ref (b 13)) (C := RX6) (T := TX6) (N := 27) hx hb hts hiX6 hown hK hP 0 rfl rfl 19 (by decide) hf47 (fun _ h9 => h9) rfl dX6_settle_168 ?_
        refine lv_iconst (v := 2) hx hb dX6_settle_171 (by decide) ?_
        refine lv_iload_n hx hb dX6_settle_172 rfl (lv_at hl 1 rfl) ?_
        refine lv_imul hx hb dX6_settle_173 ?_
        refine lv_iconst (v := 1) hx hb dX6_settle_174 (by decide) ?_
        refine lv_iadd hx hb dX6_settle_175 ?_
        obtain ⟨i13, h⟩ := h
        refine va_iald (D := (dC, dI)) hx hb hK hP 13 0 rfl rfl i13 dX6_settle_176 ?_
        obtain ⟨i14, h⟩ := h
        refine va_iast (D := (dC, dI)) hx hb hK hP hD hS 14 0 rfl rfl i14 dX6_settle_177 (fun H locs hP hD hS => ?_)
        obtain ⟨M15, eM15⟩ : ∃ z : MS, z = (mAV_s M12 (upd (mAV M12) (((2 : Int32) * x1) + (1 : Int32)).toNatClampNeg ((mFI M12) (((2 : Int32) * x1) + (1 : Int32)).toNatClampNeg))) := ⟨_, rfl⟩
        have h := h M15 eM15
        have hP := nP_mAV eM15 hP
        have hD := nD_mAV eM15 hD
        refine lv_aload_n hx hb dX6_settle_178 rfl (lv_at hl 0 rfl) ?_
        refine lv_iconst (v := 2) hx hb dX6_settle_179 (by decide) ?_
        refine lv_iload_n hx hb dX6_settle_180 rfl (lv_at hl 1 rfl) ?_
        refine lv_imul hx hb dX6_settle_181 ?_
        refine xc_Vv (wf := wM cyI cyJ cyZ b) (wr := []) (isC := [0, 1, 2, 3, 4, 5, 6, 7, 8, 9, 10, 11, 12, 13, 14, 15, 16, 17, 18, 19, 20]) (isR := []) (As := [.int ((2 : Int32) * x1)]) (rest := []) ⟨hx, hb, hml, hown, hts⟩ (t_X6_turnBy h) (cwV 1 hts gX6_settle_X6_turnBy rfl rfl rfl (by decide +kernel) ⟨Nat.le_of_ble_eq_true rfl, Nat.le_of_ble_eq_true rfl⟩) ⟨hK, hE, hA, hP, hD, hS, rfl, rfl, rfl, rfl, by decide⟩ ⟨0, 5, _, _, rfl, rfl, rfl⟩ rfl rfl hl.1 (Nat.le_of_ble_eq_true rfl) dX6_settle_182 ⟨Nat.le_of_ble_eq_true rfl, Nat.le_of_ble_eq_true rfl⟩ (fun  S16 H locs h hP hD hS => ?_)
        have hP : va_P (dC, dI) vwCl (wM cyI cyJ cyZ b S16) H := hP
        have hD : va_D A (wM cyI cyJ cyZ b S16) := hD
        refine lv_aload_n hx hb dX6_settle_185 rfl (lv_at hl 0 rfl) ?_
        refine lv_iconst (v := 2) hx hb dX6_settle_186 (by decide) ?_
        refine lv_iload_n hx hb dX6_settle_187 rfl (lv_at hl 1 rfl) ?_
        refine lv_imul hx hb dX6_settle_188 ?_
        refine lv_iconst (v := 1) hx hb dX6_settle_189 (by decide) ?_
        refine lv_iadd hx hb dX6_settle_190 ?_
        refine xc_Vv (wf := wM cyI cyJ cyZ b) (wr := []) (isC := [0, 1, 2, 3, 4, 5, 6, 7, 8, 9, 10, 11, 12, 13, 14, 15, 16, 17, 18, 19, 20]) (isR := []) (As := [.int (((2 : Int32) * x1) + (1 : Int32))]) (rest := []) ⟨hx, hb, hml, hown, hts⟩ (t_X6_turnBy h) (cwV 1 hts gX6_settle_X6_turnBy rfl rfl rfl (by decide +kernel) ⟨Nat.le_of_ble_eq_true rfl, Nat.le_of_ble_eq_true rfl⟩) ⟨hK, hE, hA, hP, hD, hS, rfl, rfl, rfl, rfl, by decide⟩ ⟨0, 5, _, _, rfl, rfl, rfl⟩ rfl rfl hl.1 (Nat.le_of_ble_eq_true rfl) dX6_settle_191 ⟨Nat.le_of_ble_eq_true rfl, Nat.le_of_ble_eq_true rfl⟩ (fun  S17 H locs h hP hD hS => ?_)
        have hP : va_P (dC, dI) vwCl (wM cyI cyJ cyZ b S17) H := hP
        have hD : va_D A (wM cyI cyJ cyZ b S17) := hD
        obtain ⟨y18, ey18⟩ : ∃ z : Int32, z = (x1 + (1 : Int32)) := ⟨_, rfl⟩
        have h := h y18 ey18
        refine lv_iinc (v := y18) (lv' := [(1, .int y18), (0, .ref (b 0))]) hx hb dX6_settle_194 hl (k := 1) rfl (by rw [ey18]; rfl) (by decide) rfl (fun ls hl => ?_)
        refine lv_goto (tgt := 109) hx hb dX6_settle_197 (by decide) ?_
        exact k109 S17 y18 H locs ls h hP hD hS (lv_sub hl [1, 0] rfl)
      · have h := h.2 c8
        refine lv_aload_n hx hb dX6_settle_125 rfl (lv_at hl 0 rfl) ?_
        refine lv_iconst (v := 2) hx hb dX6_settle_126 (by decide) ?_
        refine lv_iload_n hx hb dX6_settle_127 rfl (lv_at hl 1 rfl) ?_
        refine lv_imul hx hb dX6_settle_128 ?_
        refine lv_iconst (v := 1) hx hb dX6_settle_129 (by decide) ?_
        refine lv_iadd hx hb dX6_settle_130 ?_
        refine xc_Vv (wf := wM cyI cyJ cyZ b) (wr := []) (isC := [0, 1, 2, 3, 4, 5, 6, 7, 8, 9, 10, 11, 12, 13, 14, 15, 16, 17, 18, 19, 20]) (isR := []) (As := [.int (((2 : Int32) * x1) + (1 : Int32))]) (rest := []) ⟨hx, hb, hml, hown, hts⟩ (t_X6_turnBy h) (cwV 1 hts gX6_settle_X6_turnBy rfl rfl rfl (by decide +kernel) ⟨Nat.le_of_ble_eq_true rfl, Nat.le_of_ble_eq_true rfl⟩) ⟨hK, hE, hA, hP, hD, hS, rfl, rfl, rfl, rfl, by decide⟩ ⟨0, 5, _, _, rfl, rfl, rfl⟩ rfl rfl hl.1 (Nat.le_of_ble_eq_true rfl) dX6_settle_131 ⟨Nat.le_of_ble_eq_true rfl, Nat.le_of_ble_eq_true rfl⟩ (fun  S19 H locs h hP hD hS => ?_)
        have hP : va_P (dC, dI) vwCl (wM cyI cyJ cyZ b S19) H := hP
        have hD : va_D A (wM cyI cyJ cyZ b S19) := hD
        refine lv_goto (tgt := 194) hx hb dX6_settle_134 (by decide) ?_
        obtain ⟨y20, ey20⟩ : ∃ z : Int32, z = (x1 + (1 : Int32)) := ⟨_, rfl⟩
        have h := h y20 ey20
        refine lv_iinc (v := y20) (lv' := [(1, .int y20), (0, .ref (b 0))]) hx hb dX6_settle_194 hl (k := 1) rfl (by rw [ey20]; rfl) (by decide) rfl (fun ls hl => ?_)
        refine lv_goto (tgt := 109) hx hb dX6_settle_197 (by decide) ?_
        exact k109 S19 y20 H locs ls h hP hD hS (lv_sub hl [1, 0] rfl)
def b_X6_settle_74 (post : MS → Prop) (g74 : MS → Int32 → Prop) (M : MS) (x1 : Int32) : Prop := ((mIP M) ≤ x1 → (p_X6_settle_109 M (0 : Int32) post)) ∧ (¬ (mIP M) ≤ x1 → (vp_in x1 8 ∧ (vp_in x1 8 ∧ (vp_in ((2 : Int32) * ((mIN M) x1.toNatClampNeg)) 64 ∧ (∀ M24 : MS, M24 = (mAV_s M (upd (mAV M) ((2 : Int32) * ((mIN M) x1.toNatClampNeg)).toNatClampNeg ((mTI M) x1.toNatClampNeg))) → (∀ y25 : Int32, y25 = (x1 + (1 : Int32)) → (g74 M24 y25)))))))
def p_X6_settle_74 (M : MS) (x1 : Int32) (post : MS → Prop) : Prop := ∃ (I : MS → Int32 → Prop) (mu : MS → Int32 → Nat), I M x1 ∧ ∀ (M : MS) (x1 : Int32), I M x1 → b_X6_settle_74 post (fun M' x1' => I M' x1' ∧ mu M' x1' < mu M x1) M x1
set_option maxHeartbeats 1000000 in
set_option maxRecDepth 100000 in
theorem t_X6_settle_74 {p : Program} {l : Launch} {e : Env} {s : State} {m : MethodId} {args : Array Value} {below : List Frame} {meth : Method} {c : Code} {dC : Nat → ClassId} {dI : Nat → Nat → Nat} {cyI cyJ cyZ : ClassId} {r : Nat → Nat} {b : Nat → Nat} {A : Nat → Prop} {M : MS} {x1 : Int32} {post : MS → Prop} (G : xG p s m args meth c cX6_settle 3 RX6 none wsX6_settle (dC, dI) (tyA cyI cyJ cyZ) r A) (h : p_X6_settle_74 M x1 post) {H : Heap} {locs : List Loc} {ls : Array Slot} (hP : va_P (dC, dI) vwCl (wM cyI cyJ cyZ b M) H) (hD : va_D A (wM cyI cyJ cyZ b M)) (hS : va_S A s.heap H locs) (hl : lv_has ls 3 [(0, .ref (b 0)), (1, .int x1)]) : W p l e { frames := 5, cells := 0, slots := 0, locals := 135 } s m args below meth c H locs 0 0 (MQ below (va_Qv post (xAt (dC, dI) (tyA cyI cyJ cyZ) (wM cyI cyJ cyZ b) A) A) args s 0 0 A) (F0 m 74 ls []) := by
  obtain ⟨hx, hb, hml, hown, hts, hr, hlocks, hK, hE, hA⟩ := id G
  have hiX6 : ∀ w ∈ wsX60, w ∈ wsX6_settle := by decide +kernel
  have hf86 := hts (.fieldLink RX6 86 "CellMappingModel" "inputs" "I") (by decide +kernel)
  have hf50 := hts (.fieldLink RX6 50 "CellMappingModel" "arrivals" "[I") (by decide +kernel)
  have hf16 := hts (.fieldLink RX6 16 "CellMappingModel" "inputNodes" "[I") (by decide +kernel)
  have hf19 := hts (.fieldLink RX6 19 "CellMappingModel" "times" "[I") (by decide +kernel)
  obtain ⟨I, mu, h0, hstep⟩ := h
  suffices hgo : ∀ (n : Nat) (M : MS) (x1 : Int32), I M x1 → mu M x1 < n → ∀ (H : Heap) (locs : List Loc) (ls : Array Slot), va_P (dC, dI) vwCl (wM cyI cyJ cyZ b M) H → va_D A (wM cyI cyJ cyZ b M) → va_S A s.heap H locs → lv_has ls 3 [(0, .ref (b 0)), (1, .int x1)] → W p l e { frames := 5, cells := 0, slots := 0, locals := 135 } s m args below meth c H locs 0 0 (MQ below (va_Qv post (xAt (dC, dI) (tyA cyI cyJ cyZ) (wM cyI cyJ cyZ b) A) A) args s 0 0 A) (F0 m 74 ls []) from hgo (mu M x1 + 1) M x1 h0 (Nat.lt_succ_self _) H locs ls hP hD hS hl
  clear h0 hP hD hS hl
  intro n
  induction n with
  | zero => intro M x1 _ h; exact absurd h (Nat.not_lt_zero _)
  | succ n ih =>
    intro M x1 hI hmu H locs ls hP hD hS hl
    have h := hstep M x1 hI
    unfold b_X6_settle_74 at h
    have k74 : ∀ (M' : MS) (x1' : Int32) (H : Heap) (locs : List Loc) (ls : Array Slot), (fun M' x1' => I M' x1' ∧ mu M' x1' < mu M x1) M' x1' → va_P (dC, dI) vwCl (wM cyI cyJ cyZ b M') H → va_D A (wM cyI cyJ cyZ b M') → va_S A s.heap H locs → lv_has ls 3 [(0, .ref (b 0)), (1, .int x1')] → W p l e { frames := 5, cells := 0, slots := 0, locals := 135 } s m args below meth c H locs 0 0 (MQ below (va_Qv post (xAt (dC, dI) (tyA cyI cyJ cyZ) (wM cyI cyJ cyZ b) A) A) args s 0 0 A) (F0 m 74 ls []) := fun M' x1' H locs ls hh hP hD hS hl => ih M' x1' hh.1 (Nat.lt_of_lt_of_le hh.2 (Nat.le_of_lt_succ hmu)) H locs ls hP hD hS hl
    generalize (fun M' x1' => I M' x1' ∧ mu M' x1' < mu M x1) = g74 at h k74
    refine lv_iload_n hx hb dX6_settle_74 rfl (lv_at hl 1 rfl) ?_
    refine lv_aload_n hx hb dX6_settle_75 rfl (lv_at hl 0 rfl) ?_
    refine va_get (D := (dC, dI)) (ci := 5) (v := .int (mIP M)) (C := RX6) (T := TX6) (N := 27) hx hb hts hiX6 hown hK hP 0 rfl rfl 2 (by decide) hf86 (fun _ h9 => h9) rfl dX6_settle_76 ?_
    refine lv_icmp_ge (tgt := 107) hx hb dX6_settle_79 (by decide) (fun c4 => ?_) (fun c4 => ?_)
    · have h := h.1 c4
      refine lv_iconst (v := 0) hx hb dX6_settle_107 (by decide) ?_
      refine lv_istore_n (lv' := [(1, .int (0 : Int32)), (0, .ref (b 0))]) hx hb dX6_settle_108 rfl hl (by decide) rfl (fun ls hl => ?_)
      exact t_X6_settle_109 G h hP hD hS (lv_sub hl [1, 0] rfl)
    · have h := h.2 c4
      refine lv_aload_n hx hb dX6_settle_82 rfl (lv_at hl 0 rfl) ?_
      refine va_get (D := (dC, dI)) (ci := 5) (v := .ref (b 14)) (C := RX6) (T := TX6) (N := 27) hx hb hts hiX6 hown hK hP 0 rfl rfl 20 (by decide) hf50 (fun _ h9 => h9) rfl dX6_settle_83 ?_
      refine lv_iconst (v := 2) hx hb dX6_settle_86 (by decide) ?_
      refine lv_aload_n hx hb dX6_settle_87 rfl (lv_at hl 0 rfl) ?_
      refine va_get (D := (dC, dI)) (ci := 5) (v := .ref (b 3)) (C := RX6) (T := TX6) (N := 27) hx hb hts hiX6 hown hK hP 0 rfl rfl 6 (by decide) hf16 (fun _ h9 => h9) rfl dX6_settle_88 ?_
      refine lv_iload_n hx hb dX6_settle_91 rfl (lv_at hl 1 rfl) ?_
      obtain ⟨i21, h⟩ := h
      refine va_iald (D := (dC, dI)) hx hb hK hP 3 0 rfl rfl i21 dX6_settle_92 ?_
      refine lv_imul hx hb dX6_settle_93 ?_
      refine lv_aload_n hx hb dX6_settle_94 rfl (lv_at hl 0 rfl) ?_
      refine va_get (D := (dC, dI)) (ci := 5) (v := .ref (b 4)) (C := RX6) (T := TX6) (N := 27) hx hb hts hiX6 hown hK hP 0 rfl rfl 7 (by decide) hf19 (fun _ h9 => h9) rfl dX6_settle_95 ?_
      refine lv_iload_n hx hb dX6_settle_98 rfl (lv_at hl 1 rfl) ?_
      obtain ⟨i22, h⟩ := h
      refine va_iald (D := (dC, dI)) hx hb hK hP 4 0 rfl rfl i22 dX6_settle_99 ?_
      obtain ⟨i23, h⟩ := h
      refine va_iast (D := (dC, dI)) hx hb hK hP hD hS 14 0 rfl rfl i23 dX6_settle_100 (fun H locs hP hD hS => ?_)
      obtain ⟨M24, eM24⟩ : ∃ z : MS, z = (mAV_s M (upd (mAV M) ((2 : Int32) * ((mIN M) x1.toNatClampNeg)).toNatClampNeg ((mTI M) x1.toNatClampNeg))) := ⟨_, rfl⟩
      have h := h M24 eM24
      have hP := nP_mAV eM24 hP
      have hD := nD_mAV eM24 hD
      obtain ⟨y25, ey25⟩ : ∃ z : Int32, z = (x1 + (1 : Int32)) := ⟨_, rfl⟩
      have h := h y25 ey25
      refine lv_iinc (v := y25) (lv' := [(1, .int y25), (0, .ref (b 0))]) hx hb dX6_settle_101 hl (k := 1) rfl (by rw [ey25]; rfl) (by decide) rfl (fun ls hl => ?_)
      refine lv_goto (tgt := 74) hx hb dX6_settle_104 (by decide) ?_
      exact k74 M24 y25 H locs ls h hP hD hS (lv_sub hl [1, 0] rfl)
def b_X6_settle_44 (g15 : MS → Int32 → Prop) (x1 : Int32) (post : MS → Prop) (g44 : MS → Int32 → Prop) (M : MS) (x2 : Int32) : Prop := ((3 : Int32) ≤ x2 → (∀ y33 : Int32, y33 = (x1 + (1 : Int32)) → (g15 M y33))) ∧ (¬ (3 : Int32) ≤ x2 → (vp_in (((3 : Int32) * x1) + x2) 192 ∧ (∀ M35 : MS, M35 = (mGP_s M (upd (mGP M) (((3 : Int32) * x1) + x2).toNatClampNeg (-1 : Int32))) → (∀ y36 : Int32, y36 = (x2 + (1 : Int32)) → (g44 M35 y36)))))
def p_X6_settle_44 (g15 : MS → Int32 → Prop) (M : MS) (x1 : Int32) (x2 : Int32) (post : MS → Prop) : Prop := ∃ (I : MS → Int32 → Prop) (mu : MS → Int32 → Nat), I M x2 ∧ ∀ (M : MS) (x2 : Int32), I M x2 → b_X6_settle_44 g15 x1 post (fun M' x2' => I M' x2' ∧ mu M' x2' < mu M x2) M x2
set_option maxHeartbeats 1000000 in
set_option maxRecDepth 100000 in
theorem t_X6_settle_44 {p : Program} {l : Launch} {e : Env} {s : State} {m : MethodId} {args : Array Value} {below : List Frame} {meth : Method} {c : Code} {dC : Nat → ClassId} {dI : Nat → Nat → Nat} {cyI cyJ cyZ : ClassId} {r : Nat → Nat} {b : Nat → Nat} {A : Nat → Prop} {g15 : MS → Int32 → Prop} {M : MS} {x1 : Int32} {x2 : Int32} {post : MS → Prop} (G : xG p s m args meth c cX6_settle 3 RX6 none wsX6_settle (dC, dI) (tyA cyI cyJ cyZ) r A) (k15 : ∀ (M' : MS) (x1' : Int32) (H : Heap) (locs : List Loc) (ls : Array Slot), g15 M' x1' → va_P (dC, dI) vwCl (wM cyI cyJ cyZ b M') H → va_D A (wM cyI cyJ cyZ b M') → va_S A s.heap H locs → lv_has ls 3 [(0, .ref (b 0)), (1, .int x1')] → W p l e { frames := 5, cells := 0, slots := 0, locals := 135 } s m args below meth c H locs 0 0 (MQ below (va_Qv post (xAt (dC, dI) (tyA cyI cyJ cyZ) (wM cyI cyJ cyZ b) A) A) args s 0 0 A) (F0 m 15 ls [])) (h : p_X6_settle_44 g15 M x1 x2 post) {H : Heap} {locs : List Loc} {ls : Array Slot} (hP : va_P (dC, dI) vwCl (wM cyI cyJ cyZ b M) H) (hD : va_D A (wM cyI cyJ cyZ b M)) (hS : va_S A s.heap H locs) (hl : lv_has ls 3 [(0, .ref (b 0)), (1, .int x1), (2, .int x2)]) : W p l e { frames := 5, cells := 0, slots := 0, locals := 135 } s m args below meth c H locs 0 0 (MQ below (va_Qv post (xAt (dC, dI) (tyA cyI cyJ cyZ) (wM cyI cyJ cyZ b) A) A) args s 0 0 A) (F0 m 44 ls []) := by
  obtain ⟨hx, hb, hml, hown, hts, hr, hlocks, hK, hE, hA⟩ := id G
  have hiX6 : ∀ w ∈ wsX60, w ∈ wsX6_settle := by decide +kernel
  have hf56 := hts (.fieldLink RX6 56 "CellMappingModel" "gatePins" "[I") (by decide +kernel)
  obtain ⟨I, mu, h0, hstep⟩ := h
  suffices hgo : ∀ (n : Nat) (M : MS) (x2 : Int32), I M x2 → mu M x2 < n → ∀ (H : Heap) (locs : List Loc) (ls : Array Slot), va_P (dC, dI) vwCl (wM cyI cyJ cyZ b M) H → va_D A (wM cyI cyJ cyZ b M) → va_S A s.heap H locs → lv_has ls 3 [(0, .ref (b 0)), (1, .int x1), (2, .int x2)] → W p l e { frames := 5, cells := 0, slots := 0, locals := 135 } s m args below meth c H locs 0 0 (MQ below (va_Qv post (xAt (dC, dI) (tyA cyI cyJ cyZ) (wM cyI cyJ cyZ b) A) A) args s 0 0 A) (F0 m 44 ls []) from hgo (mu M x2 + 1) M x2 h0 (Nat.lt_succ_self _) H locs ls hP hD hS hl
  clear h0 hP hD hS hl
  intro n
  induction n with
  | zero => intro M x2 _ h; exact absurd h (Nat.not_lt_zero _)
  | succ n ih =>
    intro M x2 hI hmu H locs ls hP hD hS hl
    have h := hstep M x2 hI
    unfold b_X6_settle_44 at h
    have k44 : ∀ (M' : MS) (x2' : Int32) (H : Heap) (locs : List Loc) (ls : Array Slot), (fun M' x2' => I M' x2' ∧ mu M' x2' < mu M x2) M' x2' → va_P (dC, dI) vwCl (wM cyI cyJ cyZ b M') H → va_D A (wM cyI cyJ cyZ b M') → va_S A s.heap H locs → lv_has ls 3 [(0, .ref (b 0)), (1, .int x1), (2, .int x2')] → W p l e { frames := 5, cells := 0, slots := 0, locals := 135 } s m args below meth c H locs 0 0 (MQ below (va_Qv post (xAt (dC, dI) (tyA cyI cyJ cyZ) (wM cyI cyJ cyZ b) A) A) args s 0 0 A) (F0 m 44 ls []) := fun M' x2' H locs ls hh hP hD hS hl => ih M' x2' hh.1 (Nat.lt_of_lt_of_le hh.2 (Nat.le_of_lt_succ hmu)) H locs ls hP hD hS hl
    generalize (fun M' x2' => I M' x2' ∧ mu M' x2' < mu M x2) = g44 at h k44
    refine lv_iload_n hx hb dX6_settle_44 rfl (lv_at hl 2 rfl) ?_
    refine lv_iconst (v := 3) hx hb dX6_settle_45 (by decide) ?_
    refine lv_icmp_ge (tgt := 66) hx hb dX6_settle_46 (by decide) (fun c32 => ?_) (fun c32 => ?_)
    · have h := h.1 c32
      obtain ⟨y33, ey33⟩ : ∃ z : Int32, z = (x1 + (1 : Int32)) := ⟨_, rfl⟩
      have h := h y33 ey33
      refine lv_iinc (v := y33) (lv' := [(1, .int y33), (0, .ref (b 0)), (2, .int x2)]) hx hb dX6_settle_66 hl (k := 1) rfl (by rw [ey33]; rfl) (by decide) rfl (fun ls hl => ?_)
      refine lv_goto (tgt := 15) hx hb dX6_settle_69 (by decide) ?_
      exact k15 M y33 H locs ls h hP hD hS (lv_sub hl [1, 0] rfl)
    · have h := h.2 c32
      refine lv_aload_n hx hb dX6_settle_49 rfl (lv_at hl 0 rfl) ?_
      refine va_get (D := (dC, dI)) (ci := 5) (v := .ref (b 16)) (C := RX6) (T := TX6) (N := 27) hx hb hts hiX6 hown hK hP 0 rfl rfl 22 (by decide) hf56 (fun _ h9 => h9) rfl dX6_settle_50 ?_
      refine lv_iconst (v := 3) hx hb dX6_settle_53 (by decide) ?_
      refine lv_iload_n hx hb dX6_settle_54 rfl (lv_at hl 1 rfl) ?_
      refine lv_imul hx hb dX6_settle_55 ?_
      refine lv_iload_n hx hb dX6_settle_56 rfl (lv_at hl 2 rfl) ?_
      refine lv_iadd hx hb dX6_settle_57 ?_
      refine lv_iconst (v := -1) hx hb dX6_settle_58 (by decide) ?_
      obtain ⟨i34, h⟩ := h
      refine va_iast (D := (dC, dI)) hx hb hK hP hD hS 16 0 rfl rfl i34 dX6_settle_59 (fun H locs hP hD hS => ?_)
      obtain ⟨M35, eM35⟩ : ∃ z : MS, z = (mGP_s M (upd (mGP M) (((3 : Int32) * x1) + x2).toNatClampNeg (-1 : Int32))) := ⟨_, rfl⟩
      have h := h M35 eM35
      have hP := nP_mGP eM35 hP
      have hD := nD_mGP eM35 hD
      obtain ⟨y36, ey36⟩ : ∃ z : Int32, z = (x2 + (1 : Int32)) := ⟨_, rfl⟩
      have h := h y36 ey36
      refine lv_iinc (v := y36) (lv' := [(2, .int y36), (0, .ref (b 0)), (1, .int x1)]) hx hb dX6_settle_60 hl (k := 2) rfl (by rw [ey36]; rfl) (by decide) rfl (fun ls hl => ?_)
      refine lv_goto (tgt := 44) hx hb dX6_settle_63 (by decide) ?_
      exact k44 M35 y36 H locs ls h hP hD hS (lv_sub hl [1, 2, 0] rfl)
def b_X6_settle_15 (post : MS → Prop) (g15 : MS → Int32 → Prop) (M : MS) (x1 : Int32) : Prop := ((64 : Int32) ≤ x1 → (p_X6_settle_74 M (0 : Int32) post)) ∧ (¬ (64 : Int32) ≤ x1 → (vp_in x1 64 ∧ (∀ M27 : MS, M27 = (mFI_s M (upd (mFI M) x1.toNatClampNeg (-1 : Int32))) → (vp_in x1 64 ∧ (∀ M29 : MS, M29 = (mAV_s M27 (upd (mAV M27) x1.toNatClampNeg (-1 : Int32))) → (vp_in x1 64 ∧ (∀ M31 : MS, M31 = (mGA_s M29 (upd (mGA M29) x1.toNatClampNeg (-1 : Int32))) → (p_X6_settle_44 g15 M31 x1 (0 : Int32) post))))))))
def p_X6_settle_15 (M : MS) (x1 : Int32) (post : MS → Prop) : Prop := ∃ (I : MS → Int32 → Prop) (mu : MS → Int32 → Nat), I M x1 ∧ ∀ (M : MS) (x1 : Int32), I M x1 → b_X6_settle_15 post (fun M' x1' => I M' x1' ∧ mu M' x1' < mu M x1) M x1
set_option maxHeartbeats 1000000 in
set_option maxRecDepth 100000 in
theorem t_X6_settle_15 {p : Program} {l : Launch} {e : Env} {s : State} {m : MethodId} {args : Array Value} {below : List Frame} {meth : Method} {c : Code} {dC : Nat → ClassId} {dI : Nat → Nat → Nat} {cyI cyJ cyZ : ClassId} {r : Nat → Nat} {b : Nat → Nat} {A : Nat → Prop} {M : MS} {x1 : Int32} {post : MS → Prop} (G : xG p s m args meth c cX6_settle 3 RX6 none wsX6_settle (dC, dI) (tyA cyI cyJ cyZ) r A) (h : p_X6_settle_15 M x1 post) {H : Heap} {locs : List Loc} {ls : Array Slot} (hP : va_P (dC, dI) vwCl (wM cyI cyJ cyZ b M) H) (hD : va_D A (wM cyI cyJ cyZ b M)) (hS : va_S A s.heap H locs) (hl : lv_has ls 3 [(0, .ref (b 0)), (1, .int x1)]) : W p l e { frames := 5, cells := 0, slots := 0, locals := 135 } s m args below meth c H locs 0 0 (MQ below (va_Qv post (xAt (dC, dI) (tyA cyI cyJ cyZ) (wM cyI cyJ cyZ b) A) A) args s 0 0 A) (F0 m 15 ls []) := by
  obtain ⟨hx, hb, hml, hown, hts, hr, hlocks, hK, hE, hA⟩ := id G
  have hiX6 : ∀ w ∈ wsX60, w ∈ wsX6_settle := by decide +kernel
  have hf47 := hts (.fieldLink RX6 47 "CellMappingModel" "first" "[I") (by decide +kernel)
  have hf50 := hts (.fieldLink RX6 50 "CellMappingModel" "arrivals" "[I") (by decide +kernel)
  have hf53 := hts (.fieldLink RX6 53 "CellMappingModel" "gates" "[I") (by decide +kernel)
  obtain ⟨I, mu, h0, hstep⟩ := h
  suffices hgo : ∀ (n : Nat) (M : MS) (x1 : Int32), I M x1 → mu M x1 < n → ∀ (H : Heap) (locs : List Loc) (ls : Array Slot), va_P (dC, dI) vwCl (wM cyI cyJ cyZ b M) H → va_D A (wM cyI cyJ cyZ b M) → va_S A s.heap H locs → lv_has ls 3 [(0, .ref (b 0)), (1, .int x1)] → W p l e { frames := 5, cells := 0, slots := 0, locals := 135 } s m args below meth c H locs 0 0 (MQ below (va_Qv post (xAt (dC, dI) (tyA cyI cyJ cyZ) (wM cyI cyJ cyZ b) A) A) args s 0 0 A) (F0 m 15 ls []) from hgo (mu M x1 + 1) M x1 h0 (Nat.lt_succ_self _) H locs ls hP hD hS hl
  clear h0 hP hD hS hl
  intro n
  induction n with
  | zero => intro M x1 _ h; exact absurd h (Nat.not_lt_zero _)
  | succ n ih =>
    intro M x1 hI hmu H locs ls hP hD hS hl
    have h := hstep M x1 hI
    unfold b_X6_settle_15 at h
    have k15 : ∀ (M' : MS) (x1' : Int32) (H : Heap) (locs : List Loc) (ls : Array Slot), (fun M' x1' => I M' x1' ∧ mu M' x1' < mu M x1) M' x1' → va_P (dC, dI) vwCl (wM cyI cyJ cyZ b M') H → va_D A (wM cyI cyJ cyZ b M') → va_S A s.heap H locs → lv_has ls 3 [(0, .ref (b 0)), (1, .int x1')] → W p l e { frames := 5, cells := 0, slots := 0, locals := 135 } s m args below meth c H locs 0 0 (MQ below (va_Qv post (xAt (dC, dI) (tyA cyI cyJ cyZ) (wM cyI cyJ cyZ b) A) A) args s 0 0 A) (F0 m 15 ls []) := fun M' x1' H locs ls hh hP hD hS hl => ih M' x1' hh.1 (Nat.lt_of_lt_of_le hh.2 (Nat.le_of_lt_succ hmu)) H locs ls hP hD hS hl
    generalize (fun M' x1' => I M' x1' ∧ mu M' x1' < mu M x1) = g15 at h k15
    refine lv_iload_n hx hb dX6_settle_15 rfl (lv_at hl 1 rfl) ?_
    refine lv_bipush (v := 64) hx hb dX6_settle_16 (by decide) ?_
    refine lv_icmp_ge (tgt := 72) hx hb dX6_settle_18 (by decide) (fun c3 => ?_) (fun c3 => ?_)
    · have h := h.1 c3
      refine lv_iconst (v := 0) hx hb dX6_settle_72 (by decide) ?_
      refine lv_istore_n (lv' := [(1, .int (0 : Int32)), (0, .ref (b 0))]) hx hb dX6_settle_73 rfl hl (by decide) rfl (fun ls hl => ?_)
      exact t_X6_settle_74 G h hP hD hS (lv_sub hl [1, 0] rfl)
    · have h := h.2 c3
      refine lv_aload_n hx hb dX6_settle_21 rfl (lv_at hl 0 rfl) ?_
      refine va_get (D := (dC, dI)) (ci := 5) (v := .ref (b 13)) (C := RX6) (T := TX6) (N := 27) hx hb hts hiX6 hown hK hP 0 rfl rfl 19 (by decide) hf47 (fun _ h9 => h9) rfl dX6_settle_22 ?_
      refine lv_iload_n hx hb dX6_settle_25 rfl (lv_at hl 1 rfl) ?_
      refine lv_iconst (v := -1) hx hb dX6_settle_26 (by decide) ?_
      obtain ⟨i26, h⟩ := h
      refine va_iast (D := (dC, dI)) hx hb hK hP hD hS 13 0 rfl rfl i26 dX6_settle_27 (fun H locs hP hD hS => ?_)
      obtain ⟨M27, eM27⟩ : ∃ z : MS, z = (mFI_s M (upd (mFI M) x1.toNatClampNeg (-1 : Int32))) := ⟨_, rfl⟩
      have h := h M27 eM27
      have hP := nP_mFI eM27 hP
      have hD := nD_mFI eM27 hD
      refine lv_aload_n hx hb dX6_settle_28 rfl (lv_at hl 0 rfl) ?_
      refine va_get (D := (dC, dI)) (ci := 5) (v := .ref (b 14)) (C := RX6) (T := TX6) (N := 27) hx hb hts hiX6 hown hK hP 0 rfl rfl 20 (by decide) hf50 (fun _ h9 => h9) rfl dX6_settle_29 ?_
      refine lv_iload_n hx hb dX6_settle_32 rfl (lv_at hl 1 rfl) ?_
      refine lv_iconst (v := -1) hx hb dX6_settle_33 (by decide) ?_
      obtain ⟨i28, h⟩ := h
      refine va_iast (D := (dC, dI)) hx hb hK hP hD hS 14 0 rfl rfl i28 dX6_settle_34 (fun H locs hP hD hS => ?_)
      obtain ⟨M29, eM29⟩ : ∃ z : MS, z = (mAV_s M27 (upd (mAV M27) x1.toNatClampNeg (-1 : Int32))) := ⟨_, rfl⟩
      have h := h M29 eM29
      have hP := nP_mAV eM29 hP
      have hD := nD_mAV eM29 hD
      refine lv_aload_n hx hb dX6_settle_35 rfl (lv_at hl 0 rfl) ?_
      refine va_get (D := (dC, dI)) (ci := 5) (v := .ref (b 15)) (C := RX6) (T := TX6) (N := 27) hx hb hts hiX6 hown hK hP 0 rfl rfl 21 (by decide) hf53 (fun _ h9 => h9) rfl dX6_settle_36 ?_
      refine lv_iload_n hx hb dX6_settle_39 rfl (lv_at hl 1 rfl) ?_
      refine lv_iconst (v := -1) hx hb dX6_settle_40 (by decide) ?_
      obtain ⟨i30, h⟩ := h
      refine va_iast (D := (dC, dI)) hx hb hK hP hD hS 15 0 rfl rfl i30 dX6_settle_41 (fun H locs hP hD hS => ?_)
      obtain ⟨M31, eM31⟩ : ∃ z : MS, z = (mGA_s M29 (upd (mGA M29) x1.toNatClampNeg (-1 : Int32))) := ⟨_, rfl⟩
      have h := h M31 eM31
      have hP := nP_mGA eM31 hP
      have hD := nD_mGA eM31 hD
      refine lv_iconst (v := 0) hx hb dX6_settle_42 (by decide) ?_
      refine lv_istore_n (lv' := [(2, .int (0 : Int32)), (0, .ref (b 0)), (1, .int x1)]) hx hb dX6_settle_43 rfl hl (by decide) rfl (fun ls hl => ?_)
      exact t_X6_settle_44 G k15 h hP hD hS (lv_sub hl [1, 2, 0] rfl)
def p_X6_settle (M : MS) (post : MS → Prop) : Prop := (¬ (mSL M) = 0 → (∀ M2 : MS, M2 = (mSL_s M (0 : Int32)) → (p_X6_settle_15 M2 (0 : Int32) post))) ∧ ((mSL M) = 0 → (post M))
set_option maxHeartbeats 1000000 in
set_option maxRecDepth 100000 in
theorem t_X6_settle {l : Launch} {dC : Nat → ClassId} {dI : Nat → Nat → Nat} {cyI cyJ cyZ : ClassId} {r : Nat → Nat} {b : Nat → Nat} {M : MS} {post : MS → Prop} (h : p_X6_settle M post) : xMv l yX6_settle wsX6_settle { frames := 5, cells := 0, slots := 0, locals := 135 } (dC, dI) (tyA cyI cyJ cyZ) r (wM cyI cyJ cyZ b) [.ref (b 0)] M post 0 0 := by
  intro sz
  refine Met.ofW (cc := cX6_settle) (maxL := 3) (ret := none) (by decide) rfl ?_
  intro p e s m args below meth c s₁ B hml hv
  obtain ⟨rfl, G, hP, hD, hS⟩ := xG.of rfl B hml hv
  generalize hAe : va_A (wM cyI cyJ cyZ b M) sz = A at G hD hS ⊢
  have G : xG p s m _ meth c cX6_settle 3 RX6 none wsX6_settle (dC, dI) (tyA cyI cyJ cyZ) r A := G
  obtain ⟨hx, hb, hml, hown, hts, hr, hlocks, hK, hE, hA⟩ := id G
  have hiX6 : ∀ w ∈ wsX60, w ∈ wsX6_settle := by decide +kernel
  have hf89 := hts (.fieldLink RX6 89 "CellMappingModel" "stale" "Z") (by decide +kernel)
  have hl := lv_entry ([.ref (b 0)]) (n := 3) (Nat.le_of_ble_eq_true rfl)
  rw [lg_entry_eq]
  generalize (lg_sl ([.ref (b 0)]) ++ List.replicate (3 - (lg_sl ([.ref (b 0)])).length) Slot.unset).toArray = ls at hl ⊢
  have hl : lv_has ls 3 [(0, .ref (b 0))] := hl
  show W p l e { frames := 5, cells := 0, slots := 0, locals := 135 } s m _ below meth c s.heap [] 0 0 _ _
  unfold p_X6_settle at h
  refine lv_aload_n hx hb dX6_settle_0 rfl (lv_at hl 0 rfl) ?_
  refine va_get (D := (dC, dI)) (ci := 5) (v := .int (mSL M)) (C := RX6) (T := TX6) (N := 27) hx hb hts hiX6 hown hK hP 0 rfl rfl 18 (by decide) hf89 (fun _ h9 => h9) rfl dX6_settle_1 ?_
  refine lv_if_ne (tgt := 8) hx hb dX6_settle_4 (by decide) (fun c1 => ?_) (fun c1 => ?_)
  · have h := h.1 c1
    refine lv_aload_n hx hb dX6_settle_8 rfl (lv_at hl 0 rfl) ?_
    refine lv_iconst (v := 0) hx hb dX6_settle_9 (by decide) ?_
    refine va_put (D := (dC, dI)) (ci := 5) (v := .int (0 : Int32)) (ty := .boolean) (C := RX6) (T := TX6) (N := 27) hx hb hts hiX6 tyX6 tyX6_ok nmX6 hown hK hP hD hS 0 rfl rfl 18 (by decide) hf89 (fun _ h9 => h9) rfl (by decide +kernel) rfl rfl (Nat.le_of_ble_eq_true rfl) dX6_settle_10 (fun H locs hP hD hS => ?_)
    obtain ⟨M2, eM2⟩ : ∃ z : MS, z = (mSL_s M (0 : Int32)) := ⟨_, rfl⟩
    have h := h M2 eM2
    have hP := nP_mSL eM2 hP
    have hD := nD_mSL eM2 hD
    refine lv_iconst (v := 0) hx hb dX6_settle_13 (by decide) ?_
    refine lv_istore_n (lv' := [(1, .int (0 : Int32)), (0, .ref (b 0))]) hx hb dX6_settle_14 rfl hl (by decide) rfl (fun ls hl => ?_)
    exact t_X6_settle_15 G h hP hD hS (lv_sub hl [1, 0] rfl)
  · have h := h.2 c1
    exact xr_v (S := M) hx hb hr hlocks hK hP hD hS h (Nat.le_of_ble_eq_true rfl) (Nat.le_of_ble_eq_true rfl) dX6_settle_7
def p_X6_arrival_14 (M : MS) (x1 : Int32) (t0 : Int32) (post : Int32 → MS → Prop) : Prop := ∀ M4 : MS, M4 = (mTH_s M t0) → (((mTH M4) ≤ 0 → (p_X6_settle M4 (fun S6 => vp_in x1 64 ∧ (post ((mAV S6) x1.toNatClampNeg) S6)))) ∧ (¬ (mTH M4) ≤ 0 → (post (0 : Int32) M4)))
set_option maxHeartbeats 1000000 in
set_option maxRecDepth 100000 in
theorem t_X6_arrival_14 {p : Program} {l : Launch} {e : Env} {s : State} {m : MethodId} {args : Array Value} {below : List Frame} {meth : Method} {c : Code} {dC : Nat → ClassId} {dI : Nat → Nat → Nat} {cyI cyJ cyZ : ClassId} {r : Nat → Nat} {b : Nat → Nat} {A : Nat → Prop} {M : MS} {x1 : Int32} {t0 : Int32} {post : Int32 → MS → Prop} (G : xG p s m args meth c cX6_arrival 2 RX6 (some .int) wsX6_arrival (dC, dI) (tyA cyI cyJ cyZ) r A) (h : p_X6_arrival_14 M x1 t0 post) {H : Heap} {locs : List Loc} {ls : Array Slot} (hP : va_P (dC, dI) vwCl (wM cyI cyJ cyZ b M) H) (hD : va_D A (wM cyI cyJ cyZ b M)) (hS : va_S A s.heap H locs) (hl : lv_has ls 2 [(0, .ref (b 0)), (1, .int x1)]) : W p l e { frames := 6, cells := 0, slots := 0, locals := 157 } s m args below meth c H locs 0 0 (MQ below (va_Qi post (xAt (dC, dI) (tyA cyI cyJ cyZ) (wM cyI cyJ cyZ b) A) A) args s 0 0 A) (F0 m 14 ls [.int t0, .ref (b 0)]) := by
  obtain ⟨hx, hb, hml, hown, hts, hr, hlocks, hK, hE, hA⟩ := id G
  have hiX6 : ∀ w ∈ wsX60, w ∈ wsX6_arrival := by decide +kernel
  have hf75 := hts (.fieldLink RX6 75 "CellMappingModel" "thrown" "I") (by decide +kernel)
  have hf50 := hts (.fieldLink RX6 50 "CellMappingModel" "arrivals" "[I") (by decide +kernel)
  unfold p_X6_arrival_14 at h
  refine va_put (D := (dC, dI)) (ci := 5) (v := .int t0) (ty := .int) (C := RX6) (T := TX6) (N := 27) hx hb hts hiX6 tyX6 tyX6_ok nmX6 hown hK hP hD hS 0 rfl rfl 0 (by decide) hf75 (fun _ h9 => h9) rfl (by decide +kernel) rfl rfl (Nat.le_of_ble_eq_true rfl) dX6_arrival_14 (fun H locs hP hD hS => ?_)
  obtain ⟨M4, eM4⟩ : ∃ z : MS, z = (mTH_s M t0) := ⟨_, rfl⟩
  have h := h M4 eM4
  have hP := nP_mTH eM4 hP
  have hD := nD_mTH eM4 hD
  refine lv_aload_n hx hb dX6_arrival_17 rfl (lv_at hl 0 rfl) ?_
  refine va_get (D := (dC, dI)) (ci := 5) (v := .int (mTH M4)) (C := RX6) (T := TX6) (N := 27) hx hb hts hiX6 hown hK hP 0 rfl rfl 0 (by decide) hf75 (fun _ h9 => h9) rfl dX6_arrival_18 ?_
  refine lv_if_le (tgt := 26) hx hb dX6_arrival_21 (by decide) (fun c5 => ?_) (fun c5 => ?_)
  · have h := h.1 c5
    refine lv_aload_n hx hb dX6_arrival_26 rfl (lv_at hl 0 rfl) ?_
    refine xc_Vv (wf := wM cyI cyJ cyZ b) (wr := []) (isC := [0, 1, 2, 3, 4, 5, 6, 7, 8, 9, 10, 11, 12, 13, 14, 15, 16, 17, 18, 19, 20]) (isR := []) (As := []) (rest := []) ⟨hx, hb, hml, hown, hts⟩ (t_X6_settle h) (cwV 0 hts gX6_arrival_X6_settle rfl rfl rfl (by decide +kernel) ⟨Nat.le_of_ble_eq_true rfl, Nat.le_of_ble_eq_true rfl⟩) ⟨hK, hE, hA, hP, hD, hS, rfl, rfl, rfl, rfl, by decide⟩ ⟨0, 5, _, _, rfl, rfl, rfl⟩ rfl rfl hl.1 (Nat.le_of_ble_eq_true rfl) dX6_arrival_27 ⟨Nat.le_of_ble_eq_true rfl, Nat.le_of_ble_eq_true rfl⟩ (fun  S6 H locs h hP hD hS => ?_)
    have hP : va_P (dC, dI) vwCl (wM cyI cyJ cyZ b S6) H := hP
    have hD : va_D A (wM cyI cyJ cyZ b S6) := hD
    refine lv_aload_n hx hb dX6_arrival_30 rfl (lv_at hl 0 rfl) ?_
    refine va_get (D := (dC, dI)) (ci := 5) (v := .ref (b 14)) (C := RX6) (T := TX6) (N := 27) hx hb hts hiX6 hown hK hP 0 rfl rfl 20 (by decide) hf50 (fun _ h9 => h9) rfl dX6_arrival_31 ?_
    refine lv_iload_n hx hb dX6_arrival_34 rfl (lv_at hl 1 rfl) ?_
    obtain ⟨i7, h⟩ := h
    refine va_iald (D := (dC, dI)) hx hb hK hP 14 0 rfl rfl i7 dX6_arrival_35 ?_
    exact xr_i (S := S6) hx hb hr hlocks hK hP hD hS h (Nat.le_of_ble_eq_true rfl) (Nat.le_of_ble_eq_true rfl) dX6_arrival_36
  · have h := h.2 c5
    refine lv_iconst (v := 0) hx hb dX6_arrival_24 (by decide) ?_
    exact xr_i (S := M4) hx hb hr hlocks hK hP hD hS h (Nat.le_of_ble_eq_true rfl) (Nat.le_of_ble_eq_true rfl) dX6_arrival_25
def p_X6_arrival (M : MS) (x1 : Int32) (post : Int32 → MS → Prop) : Prop := p_X6_isLiteral M x1 (fun r1 => (r1 = 0 → (p_X6_arrival_14 M x1 (1 : Int32) post)) ∧ (¬ r1 = 0 → (p_X6_arrival_14 M x1 (0 : Int32) post)))
set_option maxHeartbeats 1000000 in
set_option maxRecDepth 100000 in
theorem t_X6_arrival {l : Launch} {dC : Nat → ClassId} {dI : Nat → Nat → Nat} {cyI cyJ cyZ : ClassId} {r : Nat → Nat} {b : Nat → Nat} {M : MS} {x1 : Int32} {post : Int32 → MS → Prop} (h : p_X6_arrival M x1 post) : xMi l yX6_arrival wsX6_arrival { frames := 6, cells := 0, slots := 0, locals := 157 } (dC, dI) (tyA cyI cyJ cyZ) r (wM cyI cyJ cyZ b) [.ref (b 0), .int x1] M post 0 0 := by
  intro sz
  refine Met.ofW (cc := cX6_arrival) (maxL := 2) (ret := (some .int)) (by decide) rfl ?_
  intro p e s m args below meth c s₁ B hml hv
  obtain ⟨rfl, G, hP, hD, hS⟩ := xG.of rfl B hml hv
  generalize hAe : va_A (wM cyI cyJ cyZ b M) sz = A at G hD hS ⊢
  have G : xG p s m _ meth c cX6_arrival 2 RX6 (some .int) wsX6_arrival (dC, dI) (tyA cyI cyJ cyZ) r A := G
  obtain ⟨hx, hb, hml, hown, hts, hr, hlocks, hK, hE, hA⟩ := id G
  have hl := lv_entry ([.ref (b 0), .int x1]) (n := 2) (Nat.le_of_ble_eq_true rfl)
  rw [lg_entry_eq]
  generalize (lg_sl ([.ref (b 0), .int x1]) ++ List.replicate (2 - (lg_sl ([.ref (b 0), .int x1])).length) Slot.unset).toArray = ls at hl ⊢
  have hl : lv_has ls 2 [(0, .ref (b 0)), (1, .int x1)] := hl
  show W p l e { frames := 6, cells := 0, slots := 0, locals := 157 } s m _ below meth c s.heap [] 0 0 _ _
  unfold p_X6_arrival at h
  refine lv_aload_n hx hb dX6_arrival_0 rfl (lv_at hl 0 rfl) ?_
  refine lv_aload_n hx hb dX6_arrival_1 rfl (lv_at hl 0 rfl) ?_
  refine lv_iload_n hx hb dX6_arrival_2 rfl (lv_at hl 1 rfl) ?_
  refine xc_Vi (wf := wM cyI cyJ cyZ b) (wr := []) (isC := [0, 1, 2, 3, 4, 5, 6, 7, 8, 9, 10, 11, 12, 13, 14, 15, 16, 17, 18, 19, 20]) (isR := []) (As := [.int x1]) (rest := [.ref (b 0)]) ⟨hx, hb, hml, hown, hts⟩ (t_X6_isLiteral h) (cwV 1 hts gX6_arrival_X6_isLiteral rfl rfl rfl (by decide +kernel) ⟨Nat.le_of_ble_eq_true rfl, Nat.le_of_ble_eq_true rfl⟩) ⟨hK, hE, hA, hP, hD, hS, rfl, rfl, rfl, rfl, by decide⟩ ⟨0, 5, _, _, rfl, rfl, rfl⟩ rfl rfl hl.1 (Nat.le_of_ble_eq_true rfl) dX6_arrival_3 ⟨Nat.le_of_ble_eq_true rfl, Nat.le_of_ble_eq_true rfl⟩ (fun r1 S2 H locs h hP hD hS => ?_)
  obtain ⟨rfl, h⟩ := h
  have hP : va_P (dC, dI) vwCl (wM cyI cyJ cyZ b M) H := hP
  have hD : va_D A (wM cyI cyJ cyZ b M) := hD
  refine lv_if_eq (tgt := 13) hx hb dX6_arrival_6 (by decide) (fun c3 => ?_) (fun c3 => ?_)
  · have h := h.1 c3
    refine lv_iconst (v := 1) hx hb dX6_arrival_13 (by decide) ?_
    exact t_X6_arrival_14 G h hP hD hS (lv_sub hl [0, 1] rfl)
  · have h := h.2 c3
    refine lv_iconst (v := 0) hx hb dX6_arrival_9 (by decide) ?_
    refine lv_goto (tgt := 14) hx hb dX6_arrival_10 (by decide) ?_
    exact t_X6_arrival_14 G h hP hD hS (lv_sub hl [0, 1] rfl)
def p_X6_gate_22 (M : MS) (x1 : Int32) (x2 : Int32) (t0 : Int32) (post : Int32 → MS → Prop) : Prop := ∀ M4 : MS, M4 = (mTH_s M t0) → (((mTH M4) ≤ 0 → (p_X6_settle M4 (fun S6 => (¬ x2 = 0 → (vp_in ((((3 : Int32) * x1) + x2) - (1 : Int32)) 192 ∧ (post ((mGP S6) ((((3 : Int32) * x1) + x2) - (1 : Int32)).toNatClampNeg) S6))) ∧ (x2 = 0 → (vp_in x1 64 ∧ (post ((mGA S6) x1.toNatClampNeg) S6)))))) ∧ (¬ (mTH M4) ≤ 0 → (post (0 : Int32) M4)))
set_option maxHeartbeats 1000000 in
set_option maxRecDepth 100000 in
theorem t_X6_gate_22 {p : Program} {l : Launch} {e : Env} {s : State} {m : MethodId} {args : Array Value} {below : List Frame} {meth : Method} {c : Code} {dC : Nat → ClassId} {dI : Nat → Nat → Nat} {cyI cyJ cyZ : ClassId} {r : Nat → Nat} {b : Nat → Nat} {A : Nat → Prop} {M : MS} {x1 : Int32} {x2 : Int32} {t0 : Int32} {post : Int32 → MS → Prop} (G : xG p s m args meth c cX6_gate 3 RX6 (some .int) wsX6_gate (dC, dI) (tyA cyI cyJ cyZ) r A) (h : p_X6_gate_22 M x1 x2 t0 post) {H : Heap} {locs : List Loc} {ls : Array Slot} (hP : va_P (dC, dI) vwCl (wM cyI cyJ cyZ b M) H) (hD : va_D A (wM cyI cyJ cyZ b M)) (hS : va_S A s.heap H locs) (hl : lv_has ls 3 [(0, .ref (b 0)), (1, .int x1), (2, .int x2)]) : W p l e { frames := 6, cells := 0, slots := 0, locals := 157 } s m args below meth c H locs 0 0 (MQ below (va_Qi post (xAt (dC, dI) (tyA cyI cyJ cyZ) (wM cyI cyJ cyZ b) A) A) args s 0 0 A) (F0 m 22 ls [.int t0, .ref (b 0)]) := by
  obtain ⟨hx, hb, hml, hown, hts, hr, hlocks, hK, hE, hA⟩ := id G
  have hiX6 : ∀ w ∈ wsX60, w ∈ wsX6_gate := by decide +kernel
  have hf75 := hts (.fieldLink RX6 75 "CellMappingModel" "thrown" "I") (by decide +kernel)
  have hf56 := hts (.fieldLink RX6 56 "CellMappingModel" "gatePins" "[I") (by decide +kernel)
  have hf53 := hts (.fieldLink RX6 53 "CellMappingModel" "gates" "[I") (by decide +kernel)
  unfold p_X6_gate_22 at h
  refine va_put (D := (dC, dI)) (ci := 5) (v := .int t0) (ty := .int) (C := RX6) (T := TX6) (N := 27) hx hb hts hiX6 tyX6 tyX6_ok nmX6 hown hK hP hD hS 0 rfl rfl 0 (by decide) hf75 (fun _ h9 => h9) rfl (by decide +kernel) rfl rfl (Nat.le_of_ble_eq_true rfl) dX6_gate_22 (fun H locs hP hD hS => ?_)
  obtain ⟨M4, eM4⟩ : ∃ z : MS, z = (mTH_s M t0) := ⟨_, rfl⟩
  have h := h M4 eM4
  have hP := nP_mTH eM4 hP
  have hD := nD_mTH eM4 hD
  refine lv_aload_n hx hb dX6_gate_25 rfl (lv_at hl 0 rfl) ?_
  refine va_get (D := (dC, dI)) (ci := 5) (v := .int (mTH M4)) (C := RX6) (T := TX6) (N := 27) hx hb hts hiX6 hown hK hP 0 rfl rfl 0 (by decide) hf75 (fun _ h9 => h9) rfl dX6_gate_26 ?_
  refine lv_if_le (tgt := 34) hx hb dX6_gate_29 (by decide) (fun c5 => ?_) (fun c5 => ?_)
  · have h := h.1 c5
    refine lv_aload_n hx hb dX6_gate_34 rfl (lv_at hl 0 rfl) ?_
    refine xc_Vv (wf := wM cyI cyJ cyZ b) (wr := []) (isC := [0, 1, 2, 3, 4, 5, 6, 7, 8, 9, 10, 11, 12, 13, 14, 15, 16, 17, 18, 19, 20]) (isR := []) (As := []) (rest := []) ⟨hx, hb, hml, hown, hts⟩ (t_X6_settle h) (cwV 0 hts gX6_gate_X6_settle rfl rfl rfl (by decide +kernel) ⟨Nat.le_of_ble_eq_true rfl, Nat.le_of_ble_eq_true rfl⟩) ⟨hK, hE, hA, hP, hD, hS, rfl, rfl, rfl, rfl, by decide⟩ ⟨0, 5, _, _, rfl, rfl, rfl⟩ rfl rfl hl.1 (Nat.le_of_ble_eq_true rfl) dX6_gate_35 ⟨Nat.le_of_ble_eq_true rfl, Nat.le_of_ble_eq_true rfl⟩ (fun  S6 H locs h hP hD hS => ?_)
    have hP : va_P (dC, dI) vwCl (wM cyI cyJ cyZ b S6) H := hP
    have hD : va_D A (wM cyI cyJ cyZ b S6) := hD
    refine lv_iload_n hx hb dX6_gate_38 rfl (lv_at hl 2 rfl) ?_
    refine lv_if_ne (tgt := 51) hx hb dX6_gate_39 (by decide) (fun c7 => ?_) (fun c7 => ?_)
    · have h := h.1 c7
      refine lv_aload_n hx hb dX6_gate_51 rfl (lv_at hl 0 rfl) ?_
      refine va_get (D := (dC, dI)) (ci := 5) (v := .ref (b 16)) (C := RX6) (T := TX6) (N := 27) hx hb hts hiX6 hown hK hP 0 rfl rfl 22 (by decide) hf56 (fun _ h9 => h9) rfl dX6_gate_52 ?_
      refine lv_iconst (v := 3) hx hb dX6_gate_55 (by decide) ?_
      refine lv_iload_n hx hb dX6_gate_56 rfl (lv_at hl 1 rfl) ?_
      refine lv_imul hx hb dX6_gate_57 ?_
      refine lv_iload_n hx hb dX6_gate_58 rfl (lv_at hl 2 rfl) ?_
      refine lv_iadd hx hb dX6_gate_59 ?_
      refine lv_iconst (v := 1) hx hb dX6_gate_60 (by decide) ?_
      refine lv_isub hx hb dX6_gate_61 ?_
      obtain ⟨i8, h⟩ := h
      refine va_iald (D := (dC, dI)) hx hb hK hP 16 0 rfl rfl i8 dX6_gate_62 ?_
      exact xr_i (S := S6) hx hb hr hlocks hK hP hD hS h (Nat.le_of_ble_eq_true rfl) (Nat.le_of_ble_eq_true rfl) dX6_gate_63
    · have h := h.2 c7
      refine lv_aload_n hx hb dX6_gate_42 rfl (lv_at hl 0 rfl) ?_
      refine va_get (D := (dC, dI)) (ci := 5) (v := .ref (b 15)) (C := RX6) (T := TX6) (N := 27) hx hb hts hiX6 hown hK hP 0 rfl rfl 21 (by decide) hf53 (fun _ h9 => h9) rfl dX6_gate_43 ?_
      refine lv_iload_n hx hb dX6_gate_46 rfl (lv_at hl 1 rfl) ?_
      obtain ⟨i9, h⟩ := h
      refine va_iald (D := (dC, dI)) hx hb hK hP 15 0 rfl rfl i9 dX6_gate_47 ?_
      refine lv_goto (tgt := 63) hx hb dX6_gate_48 (by decide) ?_
      exact xr_i (S := S6) hx hb hr hlocks hK hP hD hS h (Nat.le_of_ble_eq_true rfl) (Nat.le_of_ble_eq_true rfl) dX6_gate_63
  · have h := h.2 c5
    refine lv_iconst (v := 0) hx hb dX6_gate_32 (by decide) ?_
    exact xr_i (S := M4) hx hb hr hlocks hK hP hD hS h (Nat.le_of_ble_eq_true rfl) (Nat.le_of_ble_eq_true rfl) dX6_gate_33
def p_X6_gate_21 (M : MS) (x1 : Int32) (x2 : Int32) (post : Int32 → MS → Prop) : Prop := p_X6_gate_22 M x1 x2 (1 : Int32) post
set_option maxHeartbeats 1000000 in
set_option maxRecDepth 100000 in
theorem t_X6_gate_21 {p : Program} {l : Launch} {e : Env} {s : State} {m : MethodId} {args : Array Value} {below : List Frame} {meth : Method} {c : Code} {dC : Nat → ClassId} {dI : Nat → Nat → Nat} {cyI cyJ cyZ : ClassId} {r : Nat → Nat} {b : Nat → Nat} {A : Nat → Prop} {M : MS} {x1 : Int32} {x2 : Int32} {post : Int32 → MS → Prop} (G : xG p s m args meth c cX6_gate 3 RX6 (some .int) wsX6_gate (dC, dI) (tyA cyI cyJ cyZ) r A) (h : p_X6_gate_21 M x1 x2 post) {H : Heap} {locs : List Loc} {ls : Array Slot} (hP : va_P (dC, dI) vwCl (wM cyI cyJ cyZ b M) H) (hD : va_D A (wM cyI cyJ cyZ b M)) (hS : va_S A s.heap H locs) (hl : lv_has ls 3 [(0, .ref (b 0)), (1, .int x1), (2, .int x2)]) : W p l e { frames := 6, cells := 0, slots := 0, locals := 157 } s m args below meth c H locs 0 0 (MQ below (va_Qi post (xAt (dC, dI) (tyA cyI cyJ cyZ) (wM cyI cyJ cyZ b) A) A) args s 0 0 A) (F0 m 21 ls [.ref (b 0)]) := by
  obtain ⟨hx, hb, hml, hown, hts, hr, hlocks, hK, hE, hA⟩ := id G
  unfold p_X6_gate_21 at h
  refine lv_iconst (v := 1) hx hb dX6_gate_21 (by decide) ?_
  exact t_X6_gate_22 G h hP hD hS (lv_sub hl [0, 1, 2] rfl)
def p_X6_gate (M : MS) (x1 : Int32) (x2 : Int32) (post : Int32 → MS → Prop) : Prop := p_X6_isLiteral M x1 (fun r1 => (r1 = 0 → (p_X6_gate_21 M x1 x2 post)) ∧ (¬ r1 = 0 → (p_X6_isIn M x2 (4 : Int32) (fun r10 => (r10 = 0 → (p_X6_gate_21 M x1 x2 post)) ∧ (¬ r10 = 0 → (p_X6_gate_22 M x1 x2 (0 : Int32) post))))))
set_option maxHeartbeats 1000000 in
set_option maxRecDepth 100000 in
theorem t_X6_gate {l : Launch} {dC : Nat → ClassId} {dI : Nat → Nat → Nat} {cyI cyJ cyZ : ClassId} {r : Nat → Nat} {b : Nat → Nat} {M : MS} {x1 : Int32} {x2 : Int32} {post : Int32 → MS → Prop} (h : p_X6_gate M x1 x2 post) : xMi l yX6_gate wsX6_gate { frames := 6, cells := 0, slots := 0, locals := 157 } (dC, dI) (tyA cyI cyJ cyZ) r (wM cyI cyJ cyZ b) [.ref (b 0), .int x1, .int x2] M post 0 0 := by
  intro sz
  refine Met.ofW (cc := cX6_gate) (maxL := 3) (ret := (some .int)) (by decide) rfl ?_
  intro p e s m args below meth c s₁ B hml hv
  obtain ⟨rfl, G, hP, hD, hS⟩ := xG.of rfl B hml hv
  generalize hAe : va_A (wM cyI cyJ cyZ b M) sz = A at G hD hS ⊢
  have G : xG p s m _ meth c cX6_gate 3 RX6 (some .int) wsX6_gate (dC, dI) (tyA cyI cyJ cyZ) r A := G
  obtain ⟨hx, hb, hml, hown, hts, hr, hlocks, hK, hE, hA⟩ := id G
  have hl := lv_entry ([.ref (b 0), .int x1, .int x2]) (n := 3) (Nat.le_of_ble_eq_true rfl)
  rw [lg_entry_eq]
  generalize (lg_sl ([.ref (b 0), .int x1, .int x2]) ++ List.replicate (3 - (lg_sl ([.ref (b 0), .int x1, .int x2])).length) Slot.unset).toArray = ls at hl ⊢
  have hl : lv_has ls 3 [(0, .ref (b 0)), (1, .int x1), (2, .int x2)] := hl
  show W p l e { frames := 6, cells := 0, slots := 0, locals := 157 } s m _ below meth c s.heap [] 0 0 _ _
  unfold p_X6_gate at h
  refine lv_aload_n hx hb dX6_gate_0 rfl (lv_at hl 0 rfl) ?_
  refine lv_aload_n hx hb dX6_gate_1 rfl (lv_at hl 0 rfl) ?_
  refine lv_iload_n hx hb dX6_gate_2 rfl (lv_at hl 1 rfl) ?_
  refine xc_Vi (wf := wM cyI cyJ cyZ b) (wr := []) (isC := [0, 1, 2, 3, 4, 5, 6, 7, 8, 9, 10, 11, 12, 13, 14, 15, 16, 17, 18, 19, 20]) (isR := []) (As := [.int x1]) (rest := [.ref (b 0)]) ⟨hx, hb, hml, hown, hts⟩ (t_X6_isLiteral h) (cwV 1 hts gX6_gate_X6_isLiteral rfl rfl rfl (by decide +kernel) ⟨Nat.le_of_ble_eq_true rfl, Nat.le_of_ble_eq_true rfl⟩) ⟨hK, hE, hA, hP, hD, hS, rfl, rfl, rfl, rfl, by decide⟩ ⟨0, 5, _, _, rfl, rfl, rfl⟩ rfl rfl hl.1 (Nat.le_of_ble_eq_true rfl) dX6_gate_3 ⟨Nat.le_of_ble_eq_true rfl, Nat.le_of_ble_eq_true rfl⟩ (fun r1 S2 H locs h hP hD hS => ?_)
  obtain ⟨rfl, h⟩ := h
  have hP : va_P (dC, dI) vwCl (wM cyI cyJ cyZ b M) H := hP
  have hD : va_D A (wM cyI cyJ cyZ b M) := hD
  refine lv_if_eq (tgt := 21) hx hb dX6_gate_6 (by decide) (fun c3 => ?_) (fun c3 => ?_)
  · have h := h.1 c3
    exact t_X6_gate_21 G h hP hD hS (lv_sub hl [0, 1, 2] rfl)
  · have h := h.2 c3
    refine lv_iload_n hx hb dX6_gate_9 rfl (lv_at hl 2 rfl) ?_
    refine lv_iconst (v := 4) hx hb dX6_gate_10 (by decide) ?_
    refine xc_Si (wf := wM cyI cyJ cyZ b) (wr := []) (isC := [0, 1, 2, 3, 4, 5, 6, 7, 8, 9, 10, 11, 12, 13, 14, 15, 16, 17, 18, 19, 20]) (isR := []) (As := [.int x2, .int (4 : Int32)]) (rest := [.ref (b 0)]) ⟨hx, hb, hml, hown, hts⟩ (t_X6_isIn h) (va_cwS 2 hts gX6_gate_X6_isIn rfl rfl rfl (by decide +kernel) ⟨Nat.le_of_ble_eq_true rfl, Nat.le_of_ble_eq_true rfl⟩) ⟨hK, hE, hA, hP, hD, hS, rfl, rfl, rfl, rfl, by decide⟩ rfl rfl hl.1 (Nat.le_of_ble_eq_true rfl) dX6_gate_11 ⟨Nat.le_of_ble_eq_true rfl, Nat.le_of_ble_eq_true rfl⟩ (fun r10 S11 H locs h hP hD hS => ?_)
    obtain ⟨rfl, h⟩ := h
    have hP : va_P (dC, dI) vwCl (wM cyI cyJ cyZ b M) H := hP
    have hD : va_D A (wM cyI cyJ cyZ b M) := hD
    refine lv_if_eq (tgt := 21) hx hb dX6_gate_14 (by decide) (fun c12 => ?_) (fun c12 => ?_)
    · have h := h.1 c12
      exact t_X6_gate_21 G h hP hD hS (lv_sub hl [0, 1, 2] rfl)
    · have h := h.2 c12
      refine lv_iconst (v := 0) hx hb dX6_gate_17 (by decide) ?_
      refine lv_goto (tgt := 22) hx hb dX6_gate_18 (by decide) ?_
      exact t_X6_gate_22 G h hP hD hS (lv_sub hl [0, 1, 2] rfl)
