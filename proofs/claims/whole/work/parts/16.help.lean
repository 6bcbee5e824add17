/-! 16 HELPERS: the law's try and catch, by a program (wip/genlaw.py) -/
def outp (o : Nat → Int64) (v : Int64) : Nat → Int64 := vp_updL o (0 : Int32).toNatClampNeg v
def wL (cyI cyJ cyZ : ClassId) (a : Nat → Nat) (q : Nat) (u : CS × (Nat → Int64)) : va_W := wC cyI cyJ cyZ a u.1 ++ [(q, .inl (cyJ, 1, .inr (.inl u.2)))]
theorem xG.ofH {p : Program} {l : Launch} {e : Env} {s : State} {m : MethodId} {args : Array Value} {below : List Frame} {meth : Method} {c : Code} {D : va_G} {tys : List (ClassId × FieldType)} {r : Nat → Nat} {y : MethodName} {cc : ByteArray} {maxL : Nat} {ret : Option FieldType} {wc : List Cond} {rm : Room} {av : List Value} {wf : va_W} {sz : Nat} {s₁ : State} (B : BodyLoose p l y (headSpec wc rm) cc maxL ret e s m args below meth c s₁) (hml : c.maxLocals = maxL) (hv : va_Pc av (xPre D tys r wf sz) args s) :
    args = av.toArray ∧ xG p s m args meth c cc maxL y.cls ret wc D tys r (va_A wf sz) ∧ va_P D vwCl wf s.heap ∧ va_D (va_A wf sz) wf ∧ va_S (va_A wf sz) s.heap s.heap [] := by
  obtain ⟨h1, h2, h3, h4, h5, h6⟩ := hv
  exact ⟨h1, ⟨B.exec, B.bytes, hml, findClass_of_methodNamed B.named, atoms_spec (ws := wc) B.pre, B.returns, B.notSynchronized, h4, h6, fun q h => Or.inr (by rw [← h2]; exact h)⟩, h3, h5.self, va_S.rf⟩
def p_L_input (S : CS) (o : Nat → Int64) (kc ks : Nat) (post : Int32 → CS × (Nat → Int64) → Prop) : Prop := p_X5_input S kc ks (fun x u => post 0 (u, outp o x.toInt64)) (fun E u => (E = "java/lang/IllegalStateException" → post 1 (u, o)) ∧ (E = "java/lang/IllegalStateException"))
set_option maxHeartbeats 1000000 in
set_option maxRecDepth 100000 in
theorem t_L_input {l : Launch} {dC : Nat → ClassId} {dI : Nat → Nat → Nat} {cyI cyJ cyZ : ClassId} {r : Nat → Nat} {a : Nat → Nat} {q : Nat} {S : CS} {o : Nat → Int64} {kc ks : Nat} {post : Int32 → CS × (Nat → Int64) → Prop} (hl0 : l.stackTraces = false) (h : p_L_input S o kc ks post) : xXi l yL_input wsL_input { frames := 7, cells := kc, slots := ks, locals := 175 } (dC, dI) (tyA cyI cyJ cyZ) r (wL cyI cyJ cyZ a q) [.ref (a 0), .ref q] (S, o) post (fun _ _ => False) kc ks := by
  intro sz
  refine vx_ofWH (cc := cL_input) (maxL := 3) (ret := (some .int)) (hh := [(0, 8, 11, 13)]) (by decide) rfl ?_
  intro p e s m args below meth c s₁ B hml hv
  have htab := vx_table (x := yL_input) B (atoms_spec (ws := wsL_input) B.pre _ List.mem_cons_self)
  obtain ⟨rfl, G, hP, hD, hS⟩ := xG.ofH B hml hv
  generalize hAe : va_A (wL cyI cyJ cyZ a q (S, o)) sz = A at G hD hS ⊢
  have G : xG p s m _ meth c cL_input 3 RL (some .int) wsL_input (dC, dI) (tyA cyI cyJ cyZ) r A := G
  obtain ⟨hx, hb, hml, hown, hts, hr, hlocks, hK, hE, hA⟩ := id G
  have hl := lv_entry ([.ref (a 0), .ref q]) (n := 3) (Nat.le_of_ble_eq_true rfl)
  rw [lg_entry_eq]
  generalize (lg_sl ([.ref (a 0), .ref q]) ++ List.replicate (3 - (lg_sl ([.ref (a 0), .ref q])).length) Slot.unset).toArray = ls at hl ⊢
  have hl : lv_has ls 3 [(0, .ref (a 0)), (1, .ref q)] := hl
  show W p l e { frames := 7, cells := kc, slots := ks, locals := 175 } s m _ below meth c s.heap [] 0 0 _ _
  unfold p_L_input at h
  refine lv_aload_n hx hb dL_input_0 rfl (lv_at hl 1 rfl) ?_
  refine lv_iconst (v := 0) hx hb dL_input_1 (by decide) ?_
  refine lv_aload_n hx hb dL_input_2 rfl (lv_at hl 0 rfl) ?_
  refine xt_Vi (wf := wC cyI cyJ cyZ a) (S := S) (wr := [(q, .inl (cyJ, 1, .inr (.inl o)))]) (isC := [0, 1, 2, 3, 4, 5, 6, 7, 8, 9, 10, 11, 12, 13, 14, 15, 16, 17, 18, 19, 20]) (isR := [21]) (As := []) (rest := [.int 0, .ref q]) ⟨hx, hb, hml, hown, hts⟩ (t_X5_input hl0 h) (cwV 0 hts gL_input_X5_input rfl rfl rfl (by decide +kernel) ⟨Nat.le_of_ble_eq_true rfl, Nat.le_of_ble_eq_true rfl⟩) ⟨hK, hE, hA, hP, hD, hS, rfl, rfl, rfl, rfl, by decide⟩ ⟨0, 4, _, _, rfl, rfl, rfl⟩ rfl rfl hl.1 (Nat.le_of_ble_eq_true rfl) dL_input_3 ⟨Nat.le_of_eq (Nat.zero_add _), Nat.le_of_eq (Nat.zero_add _)⟩ (fun E ce q9 u H locs h hP hD hS hce hcv hcl => ?_) (fun x u H locs h hP hD hS => ?_)
  · have hP : va_P (dC, dI) vwCl (wL cyI cyJ cyZ a q (u, o)) H := hP.sub [1, 2, 3, 4, 5, 6, 7, 8, 9, 10, 11, 12, 13, 14, 15, 16, 17, 18, 19, 20, 21, 0] rfl
    have hD : va_D A (wL cyI cyJ cyZ a q (u, o)) := hD.sub [1, 2, 3, 4, 5, 6, 7, 8, 9, 10, 11, 12, 13, 14, 15, 16, 17, 18, 19, 20, 21, 0] (by decide) rfl
    obtain ⟨h1, hor⟩ := h
    rcases hor with rfl
    · have h := h1 rfl
      refine vx_catch (own := RL) (name := "java/lang/IllegalStateException") hown [] ⟨0, 8, 11, 13⟩ [] htab (fun z hz => absurd hz List.not_mem_nil) rfl (by decide) (hts (.classLink RL 13 "java/lang/IllegalStateException") (by decide +kernel)) hE.2.2.2.2.2.2.1.word hce hcv hcl ?_
      refine lv_astore_n (lv' := [(2, .ref q9), (0, .ref (a 0)), (1, .ref q)]) hx hb dL_input_11 rfl hl (by decide) rfl (fun ls hl => ?_)
      refine lv_iconst (v := 1) hx hb dL_input_12 (by decide) ?_
      exact vx_ret (xr_i (wf := wL cyI cyJ cyZ a q) (S := (u, o)) hx hb hr hlocks hK hP hD hS h (Nat.le_of_eq (Nat.zero_add _)) (Nat.le_of_eq (Nat.zero_add _)) dL_input_13)
  have hP : va_P (dC, dI) vwCl (wL cyI cyJ cyZ a q (u, o)) H := hP.sub [1, 2, 3, 4, 5, 6, 7, 8, 9, 10, 11, 12, 13, 14, 15, 16, 17, 18, 19, 20, 21, 0] rfl
  have hD : va_D A (wL cyI cyJ cyZ a q (u, o)) := hD.sub [1, 2, 3, 4, 5, 6, 7, 8, 9, 10, 11, 12, 13, 14, 15, 16, 17, 18, 19, 20, 21, 0] (by decide) rfl
  refine lv_i2l (v := x.toInt64) hx hb dL_input_6 rfl ?_
  refine va_last (D := (dC, dI)) hx hb hK hP hD hS 21 1 rfl rfl (by unfold vp_in; decide) dL_input_7 (fun H locs hP hD hS => ?_)
  have hP : va_P (dC, dI) vwCl (wL cyI cyJ cyZ a q (u, outp o x.toInt64)) H := hP
  have hD : va_D A (wL cyI cyJ cyZ a q (u, outp o x.toInt64)) := hD
  refine lv_goto (tgt := 14) hx hb dL_input_8 (by decide) ?_
  refine lv_iconst (v := 0) hx hb dL_input_14 (by decide) ?_
  exact vx_ret (xr_i (wf := wL cyI cyJ cyZ a q) (S := (u, outp o x.toInt64)) hx hb hr hlocks hK hP hD hS h (Nat.le_of_eq (Nat.zero_add _)) (Nat.le_of_eq (Nat.zero_add _)) dL_input_15)
def p_L_and (S : CS) (o : Nat → Int64) (x1 : Int32) (x2 : Int32) (kc ks : Nat) (post : Int32 → CS × (Nat → Int64) → Prop) : Prop := p_X5_and S x1 x2 kc ks (fun x u => post 0 (u, outp o x.toInt64)) (fun E u => (E = "java/lang/IndexOutOfBoundsException" → post 1 (u, o)) ∧ (E = "java/lang/IllegalStateException" → post 2 (u, o)) ∧ (E = "java/lang/IndexOutOfBoundsException" ∨ E = "java/lang/IllegalStateException"))
set_option maxHeartbeats 1000000 in
set_option maxRecDepth 100000 in
theorem t_L_and {l : Launch} {dC : Nat → ClassId} {dI : Nat → Nat → Nat} {cyI cyJ cyZ : ClassId} {r : Nat → Nat} {a : Nat → Nat} {q : Nat} {S : CS} {o : Nat → Int64} {x1 : Int32} {x2 : Int32} {kc ks : Nat} {post : Int32 → CS × (Nat → Int64) → Prop} (hl0 : l.stackTraces = false) (h : p_L_and S o x1 x2 kc ks post) : xXi l yL_and wsL_and { frames := 9, cells := kc, slots := ks, locals := 177 } (dC, dI) (tyA cyI cyJ cyZ) r (wL cyI cyJ cyZ a q) [.ref (a 0), .int x1, .int x2, .ref q] (S, o) post (fun _ _ => False) kc ks := by
  intro sz
  refine vx_ofWH (cc := cL_and) (maxL := 5) (ret := (some .int)) (hh := [(0, 10, 13, 19), (0, 10, 17, 13)]) (by decide) rfl ?_
  intro p e s m args below meth c s₁ B hml hv
  have htab := vx_table (x := yL_and) B (atoms_spec (ws := wsL_and) B.pre _ List.mem_cons_self)
  obtain ⟨rfl, G, hP, hD, hS⟩ := xG.ofH B hml hv
  generalize hAe : va_A (wL cyI cyJ cyZ a q (S, o)) sz = A at G hD hS ⊢
  have G : xG p s m _ meth c cL_and 5 RL (some .int) wsL_and (dC, dI) (tyA cyI cyJ cyZ) r A := G
  obtain ⟨hx, hb, hml, hown, hts, hr, hlocks, hK, hE, hA⟩ := id G
  have hl := lv_entry ([.ref (a 0), .int x1, .int x2, .ref q]) (n := 5) (Nat.le_of_ble_eq_true rfl)
  rw [lg_entry_eq]
  generalize (lg_sl ([.ref (a 0), .int x1, .int x2, .ref q]) ++ List.replicate (5 - (lg_sl ([.ref (a 0), .int x1, .int x2, .ref q])).length) Slot.unset).toArray = ls at hl ⊢
  have hl : lv_has ls 5 [(0, .ref (a 0)), (1, .int x1), (2, .int x2), (3, .ref q)] := hl
  show W p l e { frames := 9, cells := kc, slots := ks, locals := 177 } s m _ below meth c s.heap [] 0 0 _ _
  unfold p_L_and at h
  refine lv_aload_n hx hb dL_and_0 rfl (lv_at hl 3 rfl) ?_
  refine lv_iconst (v := 0) hx hb dL_and_1 (by decide) ?_
  refine lv_aload_n hx hb dL_and_2 rfl (lv_at hl 0 rfl) ?_
  refine lv_iload_n hx hb dL_and_3 rfl (lv_at hl 1 rfl) ?_
  refine lv_iload_n hx hb dL_and_4 rfl (lv_at hl 2 rfl) ?_
  refine xt_Vi (wf := wC cyI cyJ cyZ a) (S := S) (wr := [(q, .inl (cyJ, 1, .inr (.inl o)))]) (isC := [0, 1, 2, 3, 4, 5, 6, 7, 8, 9, 10, 11, 12, 13, 14, 15, 16, 17, 18, 19, 20]) (isR := [21]) (As := [.int x1, .int x2]) (rest := [.int 0, .ref q]) ⟨hx, hb, hml, hown, hts⟩ (t_X5_and hl0 h) (cwV 2 hts gL_and_X5_and rfl rfl rfl (by decide +kernel) ⟨Nat.le_of_ble_eq_true rfl, Nat.le_of_ble_eq_true rfl⟩) ⟨hK, hE, hA, hP, hD, hS, rfl, rfl, rfl, rfl, by decide⟩ ⟨0, 4, _, _, rfl, rfl, rfl⟩ rfl rfl hl.1 (Nat.le_of_ble_eq_true rfl) dL_and_5 ⟨Nat.le_of_eq (Nat.zero_add _), Nat.le_of_eq (Nat.zero_add _)⟩ (fun E ce q9 u H locs h hP hD hS hce hcv hcl => ?_) (fun x u H locs h hP hD hS => ?_)
  · have hP : va_P (dC, dI) vwCl (wL cyI cyJ cyZ a q (u, o)) H := hP.sub [1, 2, 3, 4, 5, 6, 7, 8, 9, 10, 11, 12, 13, 14, 15, 16, 17, 18, 19, 20, 21, 0] rfl
    have hD : va_D A (wL cyI cyJ cyZ a q (u, o)) := hD.sub [1, 2, 3, 4, 5, 6, 7, 8, 9, 10, 11, 12, 13, 14, 15, 16, 17, 18, 19, 20, 21, 0] (by decide) rfl
    obtain ⟨h1, h2, hor⟩ := h
    rcases hor with rfl | rfl
    · have h := h1 rfl
      refine vx_catch (own := RL) (name := "java/lang/IndexOutOfBoundsException") hown [] ⟨0, 10, 13, 19⟩ [⟨0, 10, 17, 13⟩] htab (fun z hz => absurd hz List.not_mem_nil) rfl (by decide) (hts (.classLink RL 19 "java/lang/IndexOutOfBoundsException") (by decide +kernel)) hE.2.2.2.2.2.1.word hce hcv hcl ?_
      refine lv_astore (lv' := [(4, .ref q9), (0, .ref (a 0)), (1, .int x1), (2, .int x2), (3, .ref q)]) hx hb dL_and_13 hl (by decide) rfl (fun ls hl => ?_)
      refine lv_iconst (v := 1) hx hb dL_and_15 (by decide) ?_
      exact vx_ret (xr_i (wf := wL cyI cyJ cyZ a q) (S := (u, o)) hx hb hr hlocks hK hP hD hS h (Nat.le_of_eq (Nat.zero_add _)) (Nat.le_of_eq (Nat.zero_add _)) dL_and_16)
    · have h := h2 rfl
      have hpass : ∀ z ∈ ([⟨0, 10, 13, 19⟩] : List ExceptionTableEntry), covers z 5 = false ∨ (z.catchType ≠ 0 ∧ ∃ nm : String, (Cond.classLink RL z.catchType nm).before _ s = true ∧ va_Nc "java/lang/IllegalStateException" nm s) := fun z hz => by
        rw [List.mem_singleton] at hz; subst hz
        exact Or.inr ⟨by decide, "java/lang/IndexOutOfBoundsException", hts (.classLink RL 19 "java/lang/IndexOutOfBoundsException") (by decide +kernel), hE.2.2.2.2.2.2.2.2.1⟩
      refine vx_catch (own := RL) (name := "java/lang/IllegalStateException") hown [⟨0, 10, 13, 19⟩] ⟨0, 10, 17, 13⟩ [] htab hpass rfl (by decide) (hts (.classLink RL 13 "java/lang/IllegalStateException") (by decide +kernel)) hE.2.2.2.2.2.2.1.word hce hcv hcl ?_
      refine lv_astore (lv' := [(4, .ref q9), (0, .ref (a 0)), (1, .int x1), (2, .int x2), (3, .ref q)]) hx hb dL_and_17 hl (by decide) rfl (fun ls hl => ?_)
      refine lv_iconst (v := 2) hx hb dL_and_19 (by decide) ?_
      exact vx_ret (xr_i (wf := wL cyI cyJ cyZ a q) (S := (u, o)) hx hb hr hlocks hK hP hD hS h (Nat.le_of_eq (Nat.zero_add _)) (Nat.le_of_eq (Nat.zero_add _)) dL_and_20)
  have hP : va_P (dC, dI) vwCl (wL cyI cyJ cyZ a q (u, o)) H := hP.sub [1, 2, 3, 4, 5, 6, 7, 8, 9, 10, 11, 12, 13, 14, 15, 16, 17, 18, 19, 20, 21, 0] rfl
  have hD : va_D A (wL cyI cyJ cyZ a q (u, o)) := hD.sub [1, 2, 3, 4, 5, 6, 7, 8, 9, 10, 11, 12, 13, 14, 15, 16, 17, 18, 19, 20, 21, 0] (by decide) rfl
  refine lv_i2l (v := x.toInt64) hx hb dL_and_8 rfl ?_
  refine va_last (D := (dC, dI)) hx hb hK hP hD hS 21 1 rfl rfl (by unfold vp_in; decide) dL_and_9 (fun H locs hP hD hS => ?_)
  have hP : va_P (dC, dI) vwCl (wL cyI cyJ cyZ a q (u, outp o x.toInt64)) H := hP
  have hD : va_D A (wL cyI cyJ cyZ a q (u, outp o x.toInt64)) := hD
  refine lv_goto (tgt := 21) hx hb dL_and_10 (by decide) ?_
  refine lv_iconst (v := 0) hx hb dL_and_21 (by decide) ?_
  exact vx_ret (xr_i (wf := wL cyI cyJ cyZ a q) (S := (u, outp o x.toInt64)) hx hb hr hlocks hK hP hD hS h (Nat.le_of_eq (Nat.zero_add _)) (Nat.le_of_eq (Nat.zero_add _)) dL_and_22)
def p_L_output (S : CS) (o : Nat → Int64) (x1 : Int32) (post : Int32 → CS × (Nat → Int64) → Prop) : Prop := p_X5_output S x1 (fun x u => post 0 (u, outp o x.toInt64)) (fun E u => (E = "java/lang/IndexOutOfBoundsException" → post 1 (u, o)) ∧ (E = "java/lang/IllegalStateException" → post 2 (u, o)) ∧ (E = "java/lang/IndexOutOfBoundsException" ∨ E = "java/lang/IllegalStateException"))
set_option maxHeartbeats 1000000 in
set_option maxRecDepth 100000 in
theorem t_L_output {l : Launch} {dC : Nat → ClassId} {dI : Nat → Nat → Nat} {cyI cyJ cyZ : ClassId} {r : Nat → Nat} {a : Nat → Nat} {q : Nat} {S : CS} {o : Nat → Int64} {x1 : Int32} {post : Int32 → CS × (Nat → Int64) → Prop} (hl0 : l.stackTraces = false) (h : p_L_output S o x1 post) : xXi l yL_output wsL_output { frames := 9, cells := 2, slots := 12, locals := 144 } (dC, dI) (tyA cyI cyJ cyZ) r (wL cyI cyJ cyZ a q) [.ref (a 0), .int x1, .ref q] (S, o) post (fun _ _ => False) 2 12 := by
  intro sz
  refine vx_ofWH (cc := cL_output) (maxL := 4) (ret := (some .int)) (hh := [(0, 9, 12, 19), (0, 9, 15, 13)]) (by decide) rfl ?_
  intro p e s m args below meth c s₁ B hml hv
  have htab := vx_table (x := yL_output) B (atoms_spec (ws := wsL_output) B.pre _ List.mem_cons_self)
  obtain ⟨rfl, G, hP, hD, hS⟩ := xG.ofH B hml hv
  generalize hAe : va_A (wL cyI cyJ cyZ a q (S, o)) sz = A at G hD hS ⊢
  have G : xG p s m _ meth c cL_output 4 RL (some .int) wsL_output (dC, dI) (tyA cyI cyJ cyZ) r A := G
  obtain ⟨hx, hb, hml, hown, hts, hr, hlocks, hK, hE, hA⟩ := id G
  have hl := lv_entry ([.ref (a 0), .int x1, .ref q]) (n := 4) (Nat.le_of_ble_eq_true rfl)
  rw [lg_entry_eq]
  generalize (lg_sl ([.ref (a 0), .int x1, .ref q]) ++ List.replicate (4 - (lg_sl ([.ref (a 0), .int x1, .ref q])).length) Slot.unset).toArray = ls at hl ⊢
  have hl : lv_has ls 4 [(0, .ref (a 0)), (1, .int x1), (2, .ref q)] := hl
  show W p l e { frames := 9, cells := 2, slots := 12, locals := 144 } s m _ below meth c s.heap [] 0 0 _ _
  unfold p_L_output at h
  refine lv_aload_n hx hb dL_output_0 rfl (lv_at hl 2 rfl) ?_
  refine lv_iconst (v := 0) hx hb dL_output_1 (by decide) ?_
  refine lv_aload_n hx hb dL_output_2 rfl (lv_at hl 0 rfl) ?_
  refine lv_iload_n hx hb dL_output_3 rfl (lv_at hl 1 rfl) ?_
  refine xt_Vi (wf := wC cyI cyJ cyZ a) (S := S) (wr := [(q, .inl (cyJ, 1, .inr (.inl o)))]) (isC := [0, 1, 2, 3, 4, 5, 6, 7, 8, 9, 10, 11, 12, 13, 14, 15, 16, 17, 18, 19, 20]) (isR := [21]) (As := [.int x1]) (rest := [.int 0, .ref q]) ⟨hx, hb, hml, hown, hts⟩ (t_X5_output hl0 h) (cwV 1 hts gL_output_X5_output rfl rfl rfl (by decide +kernel) ⟨Nat.le_of_ble_eq_true rfl, Nat.le_of_ble_eq_true rfl⟩) ⟨hK, hE, hA, hP, hD, hS, rfl, rfl, rfl, rfl, by decide⟩ ⟨0, 4, _, _, rfl, rfl, rfl⟩ rfl rfl hl.1 (Nat.le_of_ble_eq_true rfl) dL_output_4 ⟨(Nat.le_of_ble_eq_true rfl), (Nat.le_of_ble_eq_true rfl)⟩ (fun E ce q9 u H locs h hP hD hS hce hcv hcl => ?_) (fun x u H locs h hP hD hS => ?_)
  · have hP : va_P (dC, dI) vwCl (wL cyI cyJ cyZ a q (u, o)) H := hP.sub [1, 2, 3, 4, 5, 6, 7, 8, 9, 10, 11, 12, 13, 14, 15, 16, 17, 18, 19, 20, 21, 0] rfl
    have hD : va_D A (wL cyI cyJ cyZ a q (u, o)) := hD.sub [1, 2, 3, 4, 5, 6, 7, 8, 9, 10, 11, 12, 13, 14, 15, 16, 17, 18, 19, 20, 21, 0] (by decide) rfl
    obtain ⟨h1, h2, hor⟩ := h
    rcases hor with rfl | rfl
    · have h := h1 rfl
      refine vx_catch (own := RL) (name := "java/lang/IndexOutOfBoundsException") hown [] ⟨0, 9, 12, 19⟩ [⟨0, 9, 15, 13⟩] htab (fun z hz => absurd hz List.not_mem_nil) rfl (by decide) (hts (.classLink RL 19 "java/lang/IndexOutOfBoundsException") (by decide +kernel)) hE.2.2.2.2.2.1.word hce hcv hcl ?_
      refine lv_astore_n (lv' := [(3, .ref q9), (0, .ref (a 0)), (1, .int x1), (2, .ref q)]) hx hb dL_output_12 rfl hl (by decide) rfl (fun ls hl => ?_)
      refine lv_iconst (v := 1) hx hb dL_output_13 (by decide) ?_
      exact vx_ret (xr_i (wf := wL cyI cyJ cyZ a q) (S := (u, o)) hx hb hr hlocks hK hP hD hS h (Nat.le_of_ble_eq_true rfl) (Nat.le_of_ble_eq_true rfl) dL_output_14)
    · have h := h2 rfl
      have hpass : ∀ z ∈ ([⟨0, 9, 12, 19⟩] : List ExceptionTableEntry), covers z 4 = false ∨ (z.catchType ≠ 0 ∧ ∃ nm : String, (Cond.classLink RL z.catchType nm).before _ s = true ∧ va_Nc "java/lang/IllegalStateException" nm s) := fun z hz => by
        rw [List.mem_singleton] at hz; subst hz
        exact Or.inr ⟨by decide, "java/lang/IndexOutOfBoundsException", hts (.classLink RL 19 "java/lang/IndexOutOfBoundsException") (by decide +kernel), hE.2.2.2.2.2.2.2.2.1⟩
      refine vx_catch (own := RL) (name := "java/lang/IllegalStateException") hown [⟨0, 9, 12, 19⟩] ⟨0, 9, 15, 13⟩ [] htab hpass rfl (by decide) (hts (.classLink RL 13 "java/lang/IllegalStateException") (by decide +kernel)) hE.2.2.2.2.2.2.1.word hce hcv hcl ?_
      refine lv_astore_n (lv' := [(3, .ref q9), (0, .ref (a 0)), (1, .int x1), (2, .ref q)]) hx hb dL_output_15 rfl hl (by decide) rfl (fun ls hl => ?_)
      refine lv_iconst (v := 2) hx hb dL_output_16 (by decide) ?_
      exact vx_ret (xr_i (wf := wL cyI cyJ cyZ a q) (S := (u, o)) hx hb hr hlocks hK hP hD hS h (Nat.le_of_ble_eq_true rfl) (Nat.le_of_ble_eq_true rfl) dL_output_17)
  have hP : va_P (dC, dI) vwCl (wL cyI cyJ cyZ a q (u, o)) H := hP.sub [1, 2, 3, 4, 5, 6, 7, 8, 9, 10, 11, 12, 13, 14, 15, 16, 17, 18, 19, 20, 21, 0] rfl
  have hD : va_D A (wL cyI cyJ cyZ a q (u, o)) := hD.sub [1, 2, 3, 4, 5, 6, 7, 8, 9, 10, 11, 12, 13, 14, 15, 16, 17, 18, 19, 20, 21, 0] (by decide) rfl
  refine lv_i2l (v := x.toInt64) hx hb dL_output_7 rfl ?_
  refine va_last (D := (dC, dI)) hx hb hK hP hD hS 21 1 rfl rfl (by unfold vp_in; decide) dL_output_8 (fun H locs hP hD hS => ?_)
  have hP : va_P (dC, dI) vwCl (wL cyI cyJ cyZ a q (u, outp o x.toInt64)) H := hP
  have hD : va_D A (wL cyI cyJ cyZ a q (u, outp o x.toInt64)) := hD
  refine lv_goto (tgt := 18) hx hb dL_output_9 (by decide) ?_
  refine lv_iconst (v := 0) hx hb dL_output_18 (by decide) ?_
  exact vx_ret (xr_i (wf := wL cyI cyJ cyZ a q) (S := (u, outp o x.toInt64)) hx hb hr hlocks hK hP hD hS h (Nat.le_of_ble_eq_true rfl) (Nat.le_of_ble_eq_true rfl) dL_output_19)
def p_L_cell (S : CS) (o : Nat → Int64) (x1 : Int32) (x2 : Int32) (x3 : Int32) (post : Int32 → CS × (Nat → Int64) → Prop) : Prop := p_X5_cell S x1 x2 x3 (fun x u => post 0 (u, outp o x.toInt64)) (fun E u => (E = "java/lang/IllegalStateException" → post 1 (u, o)) ∧ (E = "java/lang/IllegalArgumentException" → post 2 (u, o)) ∧ (E = "java/lang/IllegalStateException" ∨ E = "java/lang/IllegalArgumentException"))
set_option maxHeartbeats 1000000 in
set_option maxRecDepth 100000 in
theorem t_L_cell {l : Launch} {dC : Nat → ClassId} {dI : Nat → Nat → Nat} {cyI cyJ cyZ : ClassId} {r : Nat → Nat} {a : Nat → Nat} {q : Nat} {S : CS} {o : Nat → Int64} {x1 : Int32} {x2 : Int32} {x3 : Int32} {post : Int32 → CS × (Nat → Int64) → Prop} (hl0 : l.stackTraces = false) (h : p_L_cell S o x1 x2 x3 post) : xXi l yL_cell wsL_cell { frames := 8, cells := 3, slots := 18, locals := 126 } (dC, dI) (tyA cyI cyJ cyZ) r (wL cyI cyJ cyZ a q) [.ref (a 0), .int x1, .int x2, .int x3, .ref q] (S, o) post (fun _ _ => False) 3 18 := by
  intro sz
  refine vx_ofWH (cc := cL_cell) (maxL := 6) (ret := (some .int)) (hh := [(0, 12, 15, 13), (0, 12, 19, 29)]) (by decide) rfl ?_
  intro p e s m args below meth c s₁ B hml hv
  have htab := vx_table (x := yL_cell) B (atoms_spec (ws := wsL_cell) B.pre _ List.mem_cons_self)
  obtain ⟨rfl, G, hP, hD, hS⟩ := xG.ofH B hml hv
  generalize hAe : va_A (wL cyI cyJ cyZ a q (S, o)) sz = A at G hD hS ⊢
  have G : xG p s m _ meth c cL_cell 6 RL (some .int) wsL_cell (dC, dI) (tyA cyI cyJ cyZ) r A := G
  obtain ⟨hx, hb, hml, hown, hts, hr, hlocks, hK, hE, hA⟩ := id G
  have hl := lv_entry ([.ref (a 0), .int x1, .int x2, .int x3, .ref q]) (n := 6) (Nat.le_of_ble_eq_true rfl)
  rw [lg_entry_eq]
  generalize (lg_sl ([.ref (a 0), .int x1, .int x2, .int x3, .ref q]) ++ List.replicate (6 - (lg_sl ([.ref (a 0), .int x1, .int x2, .int x3, .ref q])).length) Slot.unset).toArray = ls at hl ⊢
  have hl : lv_has ls 6 [(0, .ref (a 0)), (1, .int x1), (2, .int x2), (3, .int x3), (4, .ref q)] := hl
  show W p l e { frames := 8, cells := 3, slots := 18, locals := 126 } s m _ below meth c s.heap [] 0 0 _ _
  unfold p_L_cell at h
  refine lv_aload hx hb dL_cell_0 (lv_at hl 4 rfl) ?_
  refine lv_iconst (v := 0) hx hb dL_cell_2 (by decide) ?_
  refine lv_aload_n hx hb dL_cell_3 rfl (lv_at hl 0 rfl) ?_
  refine lv_iload_n hx hb dL_cell_4 rfl (lv_at hl 1 rfl) ?_
  refine lv_iload_n hx hb dL_cell_5 rfl (lv_at hl 2 rfl) ?_
  refine lv_iload_n hx hb dL_cell_6 rfl (lv_at hl 3 rfl) ?_
  refine xt_Vi (wf := wC cyI cyJ cyZ a) (S := S) (wr := [(q, .inl (cyJ, 1, .inr (.inl o)))]) (isC := [0, 1, 2, 3, 4, 5, 6, 7, 8, 9, 10, 11, 12, 13, 14, 15, 16, 17, 18, 19, 20]) (isR := [21]) (As := [.int x1, .int x2, .int x3]) (rest := [.int 0, .ref q]) ⟨hx, hb, hml, hown, hts⟩ (t_X5_cell hl0 h) (cwV 3 hts gL_cell_X5_cell rfl rfl rfl (by decide +kernel) ⟨Nat.le_of_ble_eq_true rfl, Nat.le_of_ble_eq_true rfl⟩) ⟨hK, hE, hA, hP, hD, hS, rfl, rfl, rfl, rfl, by decide⟩ ⟨0, 4, _, _, rfl, rfl, rfl⟩ rfl rfl hl.1 (Nat.le_of_ble_eq_true rfl) dL_cell_7 ⟨(Nat.le_of_ble_eq_true rfl), (Nat.le_of_ble_eq_true rfl)⟩ (fun E ce q9 u H locs h hP hD hS hce hcv hcl => ?_) (fun x u H locs h hP hD hS => ?_)
  · have hP : va_P (dC, dI) vwCl (wL cyI cyJ cyZ a q (u, o)) H := hP.sub [1, 2, 3, 4, 5, 6, 7, 8, 9, 10, 11, 12, 13, 14, 15, 16, 17, 18, 19, 20, 21, 0] rfl
    have hD : va_D A (wL cyI cyJ cyZ a q (u, o)) := hD.sub [1, 2, 3, 4, 5, 6, 7, 8, 9, 10, 11, 12, 13, 14, 15, 16, 17, 18, 19, 20, 21, 0] (by decide) rfl
    obtain ⟨h1, h2, hor⟩ := h
    rcases hor with rfl | rfl
    · have h := h1 rfl
      refine vx_catch (own := RL) (name := "java/lang/IllegalStateException") hown [] ⟨0, 12, 15, 13⟩ [⟨0, 12, 19, 29⟩] htab (fun z hz => absurd hz List.not_mem_nil) rfl (by decide) (hts (.classLink RL 13 "java/lang/IllegalStateException") (by decide +kernel)) hE.2.2.2.2.2.2.1.word hce hcv hcl ?_
      refine lv_astore (lv' := [(5, .ref q9), (0, .ref (a 0)), (1, .int x1), (2, .int x2), (3, .int x3), (4, .ref q)]) hx hb dL_cell_15 hl (by decide) rfl (fun ls hl => ?_)
      refine lv_iconst (v := 1) hx hb dL_cell_17 (by decide) ?_
      exact vx_ret (xr_i (wf := wL cyI cyJ cyZ a q) (S := (u, o)) hx hb hr hlocks hK hP hD hS h (Nat.le_of_ble_eq_true rfl) (Nat.le_of_ble_eq_true rfl) dL_cell_18)
    · have h := h2 rfl
      have hpass : ∀ z ∈ ([⟨0, 12, 15, 13⟩] : List ExceptionTableEntry), covers z 7 = false ∨ (z.catchType ≠ 0 ∧ ∃ nm : String, (Cond.classLink RL z.catchType nm).before _ s = true ∧ va_Nc "java/lang/IllegalArgumentException" nm s) := fun z hz => by
        rw [List.mem_singleton] at hz; subst hz
        exact Or.inr ⟨by decide, "java/lang/IllegalStateException", hts (.classLink RL 13 "java/lang/IllegalStateException") (by decide +kernel), hE.2.2.2.2.2.2.2.2.2.1⟩
      refine vx_catch (own := RL) (name := "java/lang/IllegalArgumentException") hown [⟨0, 12, 15, 13⟩] ⟨0, 12, 19, 29⟩ [] htab hpass rfl (by decide) (hts (.classLink RL 29 "java/lang/IllegalArgumentException") (by decide +kernel)) hE.2.2.2.2.2.2.2.1.word hce hcv hcl ?_
      refine lv_astore (lv' := [(5, .ref q9), (0, .ref (a 0)), (1, .int x1), (2, .int x2), (3, .int x3), (4, .ref q)]) hx hb dL_cell_19 hl (by decide) rfl (fun ls hl => ?_)
      refine lv_iconst (v := 2) hx hb dL_cell_21 (by decide) ?_
      exact vx_ret (xr_i (wf := wL cyI cyJ cyZ a q) (S := (u, o)) hx hb hr hlocks hK hP hD hS h (Nat.le_of_ble_eq_true rfl) (Nat.le_of_ble_eq_true rfl) dL_cell_22)
  have hP : va_P (dC, dI) vwCl (wL cyI cyJ cyZ a q (u, o)) H := hP.sub [1, 2, 3, 4, 5, 6, 7, 8, 9, 10, 11, 12, 13, 14, 15, 16, 17, 18, 19, 20, 21, 0] rfl
  have hD : va_D A (wL cyI cyJ cyZ a q (u, o)) := hD.sub [1, 2, 3, 4, 5, 6, 7, 8, 9, 10, 11, 12, 13, 14, 15, 16, 17, 18, 19, 20, 21, 0] (by decide) rfl
  refine lv_i2l (v := x.toInt64) hx hb dL_cell_10 rfl ?_
  refine va_last (D := (dC, dI)) hx hb hK hP hD hS 21 1 rfl rfl (by unfold vp_in; decide) dL_cell_11 (fun H locs hP hD hS => ?_)
  have hP : va_P (dC, dI) vwCl (wL cyI cyJ cyZ a q (u, outp o x.toInt64)) H := hP
  have hD : va_D A (wL cyI cyJ cyZ a q (u, outp o x.toInt64)) := hD
  refine lv_goto (tgt := 23) hx hb dL_cell_12 (by decide) ?_
  refine lv_iconst (v := 0) hx hb dL_cell_23 (by decide) ?_
  exact vx_ret (xr_i (wf := wL cyI cyJ cyZ a q) (S := (u, outp o x.toInt64)) hx hb hr hlocks hK hP hD hS h (Nat.le_of_ble_eq_true rfl) (Nat.le_of_ble_eq_true rfl) dL_cell_24)
def p_L_delay (S : CS) (o : Nat → Int64) (x1 : Int32) (x2 : Int32) (x3 : Int32) (post : Int32 → CS × (Nat → Int64) → Prop) : Prop := p_X5_delay S x1 x2 x3 (fun x u => (x = 0 → post 0 (u, outp o 0)) ∧ (¬ x = 0 → post 0 (u, outp o 1))) (fun E u => (E = "java/lang/IndexOutOfBoundsException" → post 1 (u, o)) ∧ (E = "java/lang/IllegalArgumentException" → post 2 (u, o)) ∧ (E = "java/lang/IndexOutOfBoundsException" ∨ E = "java/lang/IllegalArgumentException"))
set_option maxHeartbeats 1000000 in
set_option maxRecDepth 100000 in
theorem t_L_delay {l : Launch} {dC : Nat → ClassId} {dI : Nat → Nat → Nat} {cyI cyJ cyZ : ClassId} {r : Nat → Nat} {a : Nat → Nat} {q : Nat} {S : CS} {o : Nat → Int64} {x1 : Int32} {x2 : Int32} {x3 : Int32} {post : Int32 → CS × (Nat → Int64) → Prop} (hl0 : l.stackTraces = false) (h : p_L_delay S o x1 x2 x3 post) : xXi l yL_delay wsL_delay { frames := 8, cells := 3, slots := 18, locals := 126 } (dC, dI) (tyA cyI cyJ cyZ) r (wL cyI cyJ cyZ a q) [.ref (a 0), .int x1, .int x2, .int x3, .ref q] (S, o) post (fun _ _ => False) 3 18 := by
  intro sz
  refine vx_ofWH (cc := cL_delay) (maxL := 6) (ret := (some .int)) (hh := [(0, 19, 22, 19), (0, 19, 26, 29)]) (by decide) rfl ?_
  intro p e s m args below meth c s₁ B hml hv
  have htab := vx_table (x := yL_delay) B (atoms_spec (ws := wsL_delay) B.pre _ List.mem_cons_self)
  obtain ⟨rfl, G, hP, hD, hS⟩ := xG.ofH B hml hv
  generalize hAe : va_A (wL cyI cyJ cyZ a q (S, o)) sz = A at G hD hS ⊢
  have G : xG p s m _ meth c cL_delay 6 RL (some .int) wsL_delay (dC, dI) (tyA cyI cyJ cyZ) r A := G
  obtain ⟨hx, hb, hml, hown, hts, hr, hlocks, hK, hE, hA⟩ := id G
  have hl := lv_entry ([.ref (a 0), .int x1, .int x2, .int x3, .ref q]) (n := 6) (Nat.le_of_ble_eq_true rfl)
  rw [lg_entry_eq]
  generalize (lg_sl ([.ref (a 0), .int x1, .int x2, .int x3, .ref q]) ++ List.replicate (6 - (lg_sl ([.ref (a 0), .int x1, .int x2, .int x3, .ref q])).length) Slot.unset).toArray = ls at hl ⊢
  have hl : lv_has ls 6 [(0, .ref (a 0)), (1, .int x1), (2, .int x2), (3, .int x3), (4, .ref q)] := hl
  show W p l e { frames := 8, cells := 3, slots := 18, locals := 126 } s m _ below meth c s.heap [] 0 0 _ _
  unfold p_L_delay at h
  refine lv_aload hx hb dL_delay_0 (lv_at hl 4 rfl) ?_
  refine lv_iconst (v := 0) hx hb dL_delay_2 (by decide) ?_
  refine lv_aload_n hx hb dL_delay_3 rfl (lv_at hl 0 rfl) ?_
  refine lv_iload_n hx hb dL_delay_4 rfl (lv_at hl 1 rfl) ?_
  refine lv_iload_n hx hb dL_delay_5 rfl (lv_at hl 2 rfl) ?_
  refine lv_iload_n hx hb dL_delay_6 rfl (lv_at hl 3 rfl) ?_
  refine xt_Vi (wf := wC cyI cyJ cyZ a) (S := S) (wr := [(q, .inl (cyJ, 1, .inr (.inl o)))]) (isC := [0, 1, 2, 3, 4, 5, 6, 7, 8, 9, 10, 11, 12, 13, 14, 15, 16, 17, 18, 19, 20]) (isR := [21]) (As := [.int x1, .int x2, .int x3]) (rest := [.int 0, .ref q]) ⟨hx, hb, hml, hown, hts⟩ (t_X5_delay hl0 h) (cwV 3 hts gL_delay_X5_delay rfl rfl rfl (by decide +kernel) ⟨Nat.le_of_ble_eq_true rfl, Nat.le_of_ble_eq_true rfl⟩) ⟨hK, hE, hA, hP, hD, hS, rfl, rfl, rfl, rfl, by decide⟩ ⟨0, 4, _, _, rfl, rfl, rfl⟩ rfl rfl hl.1 (Nat.le_of_ble_eq_true rfl) dL_delay_7 ⟨(Nat.le_of_ble_eq_true rfl), (Nat.le_of_ble_eq_true rfl)⟩ (fun E ce q9 u H locs h hP hD hS hce hcv hcl => ?_) (fun x u H locs h hP hD hS => ?_)
  · have hP : va_P (dC, dI) vwCl (wL cyI cyJ cyZ a q (u, o)) H := hP.sub [1, 2, 3, 4, 5, 6, 7, 8, 9, 10, 11, 12, 13, 14, 15, 16, 17, 18, 19, 20, 21, 0] rfl
    have hD : va_D A (wL cyI cyJ cyZ a q (u, o)) := hD.sub [1, 2, 3, 4, 5, 6, 7, 8, 9, 10, 11, 12, 13, 14, 15, 16, 17, 18, 19, 20, 21, 0] (by decide) rfl
    obtain ⟨h1, h2, hor⟩ := h
    rcases hor with rfl | rfl
    · have h := h1 rfl
      refine vx_catch (own := RL) (name := "java/lang/IndexOutOfBoundsException") hown [] ⟨0, 19, 22, 19⟩ [⟨0, 19, 26, 29⟩] htab (fun z hz => absurd hz List.not_mem_nil) rfl (by decide) (hts (.classLink RL 19 "java/lang/IndexOutOfBoundsException") (by decide +kernel)) hE.2.2.2.2.2.1.word hce hcv hcl ?_
      refine lv_astore (lv' := [(5, .ref q9), (0, .ref (a 0)), (1, .int x1), (2, .int x2), (3, .int x3), (4, .ref q)]) hx hb dL_delay_22 hl (by decide) rfl (fun ls hl => ?_)
      refine lv_iconst (v := 1) hx hb dL_delay_24 (by decide) ?_
      exact vx_ret (xr_i (wf := wL cyI cyJ cyZ a q) (S := (u, o)) hx hb hr hlocks hK hP hD hS h (Nat.le_of_ble_eq_true rfl) (Nat.le_of_ble_eq_true rfl) dL_delay_25)
    · have h := h2 rfl
      have hpass : ∀ z ∈ ([⟨0, 19, 22, 19⟩] : List ExceptionTableEntry), covers z 7 = false ∨ (z.catchType ≠ 0 ∧ ∃ nm : String, (Cond.classLink RL z.catchType nm).before _ s = true ∧ va_Nc "java/lang/IllegalArgumentException" nm s) := fun z hz => by
        rw [List.mem_singleton] at hz; subst hz
        exact Or.inr ⟨by decide, "java/lang/IndexOutOfBoundsException", hts (.classLink RL 19 "java/lang/IndexOutOfBoundsException") (by decide +kernel), hE.2.2.2.2.2.2.2.2.2.2.1⟩
      refine vx_catch (own := RL) (name := "java/lang/IllegalArgumentException") hown [⟨0, 19, 22, 19⟩] ⟨0, 19, 26, 29⟩ [] htab hpass rfl (by decide) (hts (.classLink RL 29 "java/lang/IllegalArgumentException") (by decide +kernel)) hE.2.2.2.2.2.2.2.1.word hce hcv hcl ?_
      refine lv_astore (lv' := [(5, .ref q9), (0, .ref (a 0)), (1, .int x1), (2, .int x2), (3, .int x3), (4, .ref q)]) hx hb dL_delay_26 hl (by decide) rfl (fun ls hl => ?_)
      refine lv_iconst (v := 2) hx hb dL_delay_28 (by decide) ?_
      exact vx_ret (xr_i (wf := wL cyI cyJ cyZ a q) (S := (u, o)) hx hb hr hlocks hK hP hD hS h (Nat.le_of_ble_eq_true rfl) (Nat.le_of_ble_eq_true rfl) dL_delay_29)
  have hP : va_P (dC, dI) vwCl (wL cyI cyJ cyZ a q (u, o)) H := hP.sub [1, 2, 3, 4, 5, 6, 7, 8, 9, 10, 11, 12, 13, 14, 15, 16, 17, 18, 19, 20, 21, 0] rfl
  have hD : va_D A (wL cyI cyJ cyZ a q (u, o)) := hD.sub [1, 2, 3, 4, 5, 6, 7, 8, 9, 10, 11, 12, 13, 14, 15, 16, 17, 18, 19, 20, 21, 0] (by decide) rfl
  refine lv_if_eq (tgt := 17) hx hb dL_delay_10 (by decide) (fun c1 => ?_) (fun c1 => ?_)
  · have h := h.1 c1
    refine lv_lconst (v := 0) hx hb dL_delay_17 (by decide) ?_
    refine va_last (D := (dC, dI)) hx hb hK hP hD hS 21 1 rfl rfl (by unfold vp_in; decide) dL_delay_18 (fun H locs hP hD hS => ?_)
    have hP : va_P (dC, dI) vwCl (wL cyI cyJ cyZ a q (u, outp o 0)) H := hP
    have hD : va_D A (wL cyI cyJ cyZ a q (u, outp o 0)) := hD
    refine lv_goto (tgt := 30) hx hb dL_delay_19 (by decide) ?_
    refine lv_iconst (v := 0) hx hb dL_delay_30 (by decide) ?_
    exact vx_ret (xr_i (wf := wL cyI cyJ cyZ a q) (S := (u, outp o 0)) hx hb hr hlocks hK hP hD hS h (Nat.le_of_ble_eq_true rfl) (Nat.le_of_ble_eq_true rfl) dL_delay_31)
  · have h := h.2 c1
    refine lv_lconst (v := 1) hx hb dL_delay_13 (by decide) ?_
    refine lv_goto (tgt := 18) hx hb dL_delay_14 (by decide) ?_
    refine va_last (D := (dC, dI)) hx hb hK hP hD hS 21 1 rfl rfl (by unfold vp_in; decide) dL_delay_18 (fun H locs hP hD hS => ?_)
    have hP : va_P (dC, dI) vwCl (wL cyI cyJ cyZ a q (u, outp o 1)) H := hP
    have hD : va_D A (wL cyI cyJ cyZ a q (u, outp o 1)) := hD
    refine lv_goto (tgt := 30) hx hb dL_delay_19 (by decide) ?_
    refine lv_iconst (v := 0) hx hb dL_delay_30 (by decide) ?_
    exact vx_ret (xr_i (wf := wL cyI cyJ cyZ a q) (S := (u, outp o 1)) hx hb hr hlocks hK hP hD hS h (Nat.le_of_ble_eq_true rfl) (Nat.le_of_ble_eq_true rfl) dL_delay_31)
def p_L_arrives (S : CS) (o : Nat → Int64) (x1 : Int32) (x2 : Int32) (post : Int32 → CS × (Nat → Int64) → Prop) : Prop := p_X5_arrives S x1 x2 (fun x u => (x = 0 → post 0 (u, outp o 0)) ∧ (¬ x = 0 → post 0 (u, outp o 1))) (fun E u => (E = "java/lang/IndexOutOfBoundsException" → post 1 (u, o)) ∧ (E = "java/lang/IllegalArgumentException" → post 2 (u, o)) ∧ (E = "java/lang/IndexOutOfBoundsException" ∨ E = "java/lang/IllegalArgumentException"))
set_option maxHeartbeats 1000000 in
set_option maxRecDepth 100000 in
theorem t_L_arrives {l : Launch} {dC : Nat → ClassId} {dI : Nat → Nat → Nat} {cyI cyJ cyZ : ClassId} {r : Nat → Nat} {a : Nat → Nat} {q : Nat} {S : CS} {o : Nat → Int64} {x1 : Int32} {x2 : Int32} {post : Int32 → CS × (Nat → Int64) → Prop} (hl0 : l.stackTraces = false) (h : p_L_arrives S o x1 x2 post) : xXi l yL_arrives wsL_arrives { frames := 8, cells := 2, slots := 12, locals := 125 } (dC, dI) (tyA cyI cyJ cyZ) r (wL cyI cyJ cyZ a q) [.ref (a 0), .int x1, .int x2, .ref q] (S, o) post (fun _ _ => False) 2 12 := by
  intro sz
  refine vx_ofWH (cc := cL_arrives) (maxL := 5) (ret := (some .int)) (hh := [(0, 17, 20, 19), (0, 17, 24, 29)]) (by decide) rfl ?_
  intro p e s m args below meth c s₁ B hml hv
  have htab := vx_table (x := yL_arrives) B (atoms_spec (ws := wsL_arrives) B.pre _ List.mem_cons_self)
  obtain ⟨rfl, G, hP, hD, hS⟩ := xG.ofH B hml hv
  generalize hAe : va_A (wL cyI cyJ cyZ a q (S, o)) sz = A at G hD hS ⊢
  have G : xG p s m _ meth c cL_arrives 5 RL (some .int) wsL_arrives (dC, dI) (tyA cyI cyJ cyZ) r A := G
  obtain ⟨hx, hb, hml, hown, hts, hr, hlocks, hK, hE, hA⟩ := id G
  have hl := lv_entry ([.ref (a 0), .int x1, .int x2, .ref q]) (n := 5) (Nat.le_of_ble_eq_true rfl)
  rw [lg_entry_eq]
  generalize (lg_sl ([.ref (a 0), .int x1, .int x2, .ref q]) ++ List.replicate (5 - (lg_sl ([.ref (a 0), .int x1, .int x2, .ref q])).length) Slot.unset).toArray = ls at hl ⊢
  have hl : lv_has ls 5 [(0, .ref (a 0)), (1, .int x1), (2, .int x2), (3, .ref q)] := hl
  show W p l e { frames := 8, cells := 2, slots := 12, locals := 125 } s m _ below meth c s.heap [] 0 0 _ _
  unfold p_L_arrives at h
  refine lv_aload_n hx hb dL_arrives_0 rfl (lv_at hl 3 rfl) ?_
  refine lv_iconst (v := 0) hx hb dL_arrives_1 (by decide) ?_
  refine lv_aload_n hx hb dL_arrives_2 rfl (lv_at hl 0 rfl) ?_
  refine lv_iload_n hx hb dL_arrives_3 rfl (lv_at hl 1 rfl) ?_
  refine lv_iload_n hx hb dL_arrives_4 rfl (lv_at hl 2 rfl) ?_
  refine xt_Vi (wf := wC cyI cyJ cyZ a) (S := S) (wr := [(q, .inl (cyJ, 1, .inr (.inl o)))]) (isC := [0, 1, 2, 3, 4, 5, 6, 7, 8, 9, 10, 11, 12, 13, 14, 15, 16, 17, 18, 19, 20]) (isR := [21]) (As := [.int x1, .int x2]) (rest := [.int 0, .ref q]) ⟨hx, hb, hml, hown, hts⟩ (t_X5_arrives hl0 h) (cwV 2 hts gL_arrives_X5_arrives rfl rfl rfl (by decide +kernel) ⟨Nat.le_of_ble_eq_true rfl, Nat.le_of_ble_eq_true rfl⟩) ⟨hK, hE, hA, hP, hD, hS, rfl, rfl, rfl, rfl, by decide⟩ ⟨0, 4, _, _, rfl, rfl, rfl⟩ rfl rfl hl.1 (Nat.le_of_ble_eq_true rfl) dL_arrives_5 ⟨(Nat.le_of_ble_eq_true rfl), (Nat.le_of_ble_eq_true rfl)⟩ (fun E ce q9 u H locs h hP hD hS hce hcv hcl => ?_) (fun x u H locs h hP hD hS => ?_)
  · have hP : va_P (dC, dI) vwCl (wL cyI cyJ cyZ a q (u, o)) H := hP.sub [1, 2, 3, 4, 5, 6, 7, 8, 9, 10, 11, 12, 13, 14, 15, 16, 17, 18, 19, 20, 21, 0] rfl
    have hD : va_D A (wL cyI cyJ cyZ a q (u, o)) := hD.sub [1, 2, 3, 4, 5, 6, 7, 8, 9, 10, 11, 12, 13, 14, 15, 16, 17, 18, 19, 20, 21, 0] (by decide) rfl
    obtain ⟨h1, h2, hor⟩ := h
    rcases hor with rfl | rfl
    · have h := h1 rfl
      refine vx_catch (own := RL) (name := "java/lang/IndexOutOfBoundsException") hown [] ⟨0, 17, 20, 19⟩ [⟨0, 17, 24, 29⟩] htab (fun z hz => absurd hz List.not_mem_nil) rfl (by decide) (hts (.classLink RL 19 "java/lang/IndexOutOfBoundsException") (by decide +kernel)) hE.2.2.2.2.2.1.word hce hcv hcl ?_
      refine lv_astore (lv' := [(4, .ref q9), (0, .ref (a 0)), (1, .int x1), (2, .int x2), (3, .ref q)]) hx hb dL_arrives_20 hl (by decide) rfl (fun ls hl => ?_)
      refine lv_iconst (v := 1) hx hb dL_arrives_22 (by decide) ?_
      exact vx_ret (xr_i (wf := wL cyI cyJ cyZ a q) (S := (u, o)) hx hb hr hlocks hK hP hD hS h (Nat.le_of_ble_eq_true rfl) (Nat.le_of_ble_eq_true rfl) dL_arrives_23)
    · have h := h2 rfl
      have hpass : ∀ z ∈ ([⟨0, 17, 20, 19⟩] : List ExceptionTableEntry), covers z 5 = false ∨ (z.catchType ≠ 0 ∧ ∃ nm : String, (Cond.classLink RL z.catchType nm).before _ s = true ∧ va_Nc "java/lang/IllegalArgumentException" nm s) := fun z hz => by
        rw [List.mem_singleton] at hz; subst hz
        exact Or.inr ⟨by decide, "java/lang/IndexOutOfBoundsException", hts (.classLink RL 19 "java/lang/IndexOutOfBoundsException") (by decide +kernel), hE.2.2.2.2.2.2.2.2.2.2.1⟩
      refine vx_catch (own := RL) (name := "java/lang/IllegalArgumentException") hown [⟨0, 17, 20, 19⟩] ⟨0, 17, 24, 29⟩ [] htab hpass rfl (by decide) (hts (.classLink RL 29 "java/lang/IllegalArgumentException") (by decide +kernel)) hE.2.2.2.2.2.2.2.1.word hce hcv hcl ?_
      refine lv_astore (lv' := [(4, .ref q9), (0, .ref (a 0)), (1, .int x1), (2, .int x2), (3, .ref q)]) hx hb dL_arrives_24 hl (by decide) rfl (fun ls hl => ?_)
      refine lv_iconst (v := 2) hx hb dL_arrives_26 (by decide) ?_
      exact vx_ret (xr_i (wf := wL cyI cyJ cyZ a q) (S := (u, o)) hx hb hr hlocks hK hP hD hS h (Nat.le_of_ble_eq_true rfl) (Nat.le_of_ble_eq_true rfl) dL_arrives_27)
  have hP : va_P (dC, dI) vwCl (wL cyI cyJ cyZ a q (u, o)) H := hP.sub [1, 2, 3, 4, 5, 6, 7, 8, 9, 10, 11, 12, 13, 14, 15, 16, 17, 18, 19, 20, 21, 0] rfl
  have hD : va_D A (wL cyI cyJ cyZ a q (u, o)) := hD.sub [1, 2, 3, 4, 5, 6, 7, 8, 9, 10, 11, 12, 13, 14, 15, 16, 17, 18, 19, 20, 21, 0] (by decide) rfl
  refine lv_if_eq (tgt := 15) hx hb dL_arrives_8 (by decide) (fun c1 => ?_) (fun c1 => ?_)
  · have h := h.1 c1
    refine lv_lconst (v := 0) hx hb dL_arrives_15 (by decide) ?_
    refine va_last (D := (dC, dI)) hx hb hK hP hD hS 21 1 rfl rfl (by unfold vp_in; decide) dL_arrives_16 (fun H locs hP hD hS => ?_)
    have hP : va_P (dC, dI) vwCl (wL cyI cyJ cyZ a q (u, outp o 0)) H := hP
    have hD : va_D A (wL cyI cyJ cyZ a q (u, outp o 0)) := hD
    refine lv_goto (tgt := 28) hx hb dL_arrives_17 (by decide) ?_
    refine lv_iconst (v := 0) hx hb dL_arrives_28 (by decide) ?_
    exact vx_ret (xr_i (wf := wL cyI cyJ cyZ a q) (S := (u, outp o 0)) hx hb hr hlocks hK hP hD hS h (Nat.le_of_ble_eq_true rfl) (Nat.le_of_ble_eq_true rfl) dL_arrives_29)
  · have h := h.2 c1
    refine lv_lconst (v := 1) hx hb dL_arrives_11 (by decide) ?_
    refine lv_goto (tgt := 16) hx hb dL_arrives_12 (by decide) ?_
    refine va_last (D := (dC, dI)) hx hb hK hP hD hS 21 1 rfl rfl (by unfold vp_in; decide) dL_arrives_16 (fun H locs hP hD hS => ?_)
    have hP : va_P (dC, dI) vwCl (wL cyI cyJ cyZ a q (u, outp o 1)) H := hP
    have hD : va_D A (wL cyI cyJ cyZ a q (u, outp o 1)) := hD
    refine lv_goto (tgt := 28) hx hb dL_arrives_17 (by decide) ?_
    refine lv_iconst (v := 0) hx hb dL_arrives_28 (by decide) ?_
    exact vx_ret (xr_i (wf := wL cyI cyJ cyZ a q) (S := (u, outp o 1)) hx hb hr hlocks hK hP hD hS h (Nat.le_of_ble_eq_true rfl) (Nat.le_of_ble_eq_true rfl) dL_arrives_29)
def p_L_cuts (S : CS) (o : Nat → Int64) (x1 : Int32) (post : Int32 → CS × (Nat → Int64) → Prop) : Prop := p_X5_cuts S x1 (fun x => post 0 (S, outp o x.toInt64)) (fun E => (E = "java/lang/IndexOutOfBoundsException" → post 1 (S, o)) ∧ (E = "java/lang/IndexOutOfBoundsException"))
set_option maxHeartbeats 1000000 in
set_option maxRecDepth 100000 in
theorem t_L_cuts {l : Launch} {dC : Nat → ClassId} {dI : Nat → Nat → Nat} {cyI cyJ cyZ : ClassId} {r : Nat → Nat} {a : Nat → Nat} {q : Nat} {S : CS} {o : Nat → Int64} {x1 : Int32} {post : Int32 → CS × (Nat → Int64) → Prop} (hl0 : l.stackTraces = false) (h : p_L_cuts S o x1 post) : xXi l yL_cuts wsL_cuts { frames := 8, cells := 1, slots := 6, locals := 123 } (dC, dI) (tyA cyI cyJ cyZ) r (wL cyI cyJ cyZ a q) [.ref (a 0), .int x1, .ref q] (S, o) post (fun _ _ => False) 1 6 := by
  intro sz
  refine vx_ofWH (cc := cL_cuts) (maxL := 4) (ret := (some .int)) (hh := [(0, 9, 12, 19)]) (by decide) rfl ?_
  intro p e s m args below meth c s₁ B hml hv
  have htab := vx_table (x := yL_cuts) B (atoms_spec (ws := wsL_cuts) B.pre _ List.mem_cons_self)
  obtain ⟨rfl, G, hP, hD, hS⟩ := xG.ofH B hml hv
  generalize hAe : va_A (wL cyI cyJ cyZ a q (S, o)) sz = A at G hD hS ⊢
  have G : xG p s m _ meth c cL_cuts 4 RL (some .int) wsL_cuts (dC, dI) (tyA cyI cyJ cyZ) r A := G
  obtain ⟨hx, hb, hml, hown, hts, hr, hlocks, hK, hE, hA⟩ := id G
  have hl := lv_entry ([.ref (a 0), .int x1, .ref q]) (n := 4) (Nat.le_of_ble_eq_true rfl)
  rw [lg_entry_eq]
  generalize (lg_sl ([.ref (a 0), .int x1, .ref q]) ++ List.replicate (4 - (lg_sl ([.ref (a 0), .int x1, .ref q])).length) Slot.unset).toArray = ls at hl ⊢
  have hl : lv_has ls 4 [(0, .ref (a 0)), (1, .int x1), (2, .ref q)] := hl
  show W p l e { frames := 8, cells := 1, slots := 6, locals := 123 } s m _ below meth c s.heap [] 0 0 _ _
  unfold p_L_cuts at h
  refine lv_aload_n hx hb dL_cuts_0 rfl (lv_at hl 2 rfl) ?_
  refine lv_iconst (v := 0) hx hb dL_cuts_1 (by decide) ?_
  refine lv_aload_n hx hb dL_cuts_2 rfl (lv_at hl 0 rfl) ?_
  refine lv_iload_n hx hb dL_cuts_3 rfl (lv_at hl 1 rfl) ?_
  refine xt_Vi (wf := wC cyI cyJ cyZ a) (S := S) (wr := [(q, .inl (cyJ, 1, .inr (.inl o)))]) (isC := [0, 1, 2, 3, 4, 5, 6, 7, 8, 9, 10, 11, 12, 13, 14, 15, 16, 17, 18, 19, 20]) (isR := [21]) (As := [.int x1]) (rest := [.int 0, .ref q]) ⟨hx, hb, hml, hown, hts⟩ (t_X5_cuts hl0 h) (cwV 1 hts gL_cuts_X5_cuts rfl rfl rfl (by decide +kernel) ⟨Nat.le_of_ble_eq_true rfl, Nat.le_of_ble_eq_true rfl⟩) ⟨hK, hE, hA, hP, hD, hS, rfl, rfl, rfl, rfl, by decide⟩ ⟨0, 4, _, _, rfl, rfl, rfl⟩ rfl rfl hl.1 (Nat.le_of_ble_eq_true rfl) dL_cuts_4 ⟨(Nat.le_of_ble_eq_true rfl), (Nat.le_of_ble_eq_true rfl)⟩ (fun E ce q9 u H locs h hP hD hS hce hcv hcl => ?_) (fun x u H locs h hP hD hS => ?_)
  · obtain ⟨rfl, h⟩ := h
    have hP : va_P (dC, dI) vwCl (wL cyI cyJ cyZ a q (S, o)) H := hP.sub [1, 2, 3, 4, 5, 6, 7, 8, 9, 10, 11, 12, 13, 14, 15, 16, 17, 18, 19, 20, 21, 0] rfl
    have hD : va_D A (wL cyI cyJ cyZ a q (S, o)) := hD.sub [1, 2, 3, 4, 5, 6, 7, 8, 9, 10, 11, 12, 13, 14, 15, 16, 17, 18, 19, 20, 21, 0] (by decide) rfl
    obtain ⟨h1, hor⟩ := h
    rcases hor with rfl
    · have h := h1 rfl
      refine vx_catch (own := RL) (name := "java/lang/IndexOutOfBoundsException") hown [] ⟨0, 9, 12, 19⟩ [] htab (fun z hz => absurd hz List.not_mem_nil) rfl (by decide) (hts (.classLink RL 19 "java/lang/IndexOutOfBoundsException") (by decide +kernel)) hE.2.2.2.2.2.1.word hce hcv hcl ?_
      refine lv_astore_n (lv' := [(3, .ref q9), (0, .ref (a 0)), (1, .int x1), (2, .ref q)]) hx hb dL_cuts_12 rfl hl (by decide) rfl (fun ls hl => ?_)
      refine lv_iconst (v := 1) hx hb dL_cuts_13 (by decide) ?_
      exact vx_ret (xr_i (wf := wL cyI cyJ cyZ a q) (S := (S, o)) hx hb hr hlocks hK hP hD hS h (Nat.le_of_ble_eq_true rfl) (Nat.le_of_ble_eq_true rfl) dL_cuts_14)
  obtain ⟨rfl, h⟩ := h
  have hP : va_P (dC, dI) vwCl (wL cyI cyJ cyZ a q (S, o)) H := hP.sub [1, 2, 3, 4, 5, 6, 7, 8, 9, 10, 11, 12, 13, 14, 15, 16, 17, 18, 19, 20, 21, 0] rfl
  have hD : va_D A (wL cyI cyJ cyZ a q (S, o)) := hD.sub [1, 2, 3, 4, 5, 6, 7, 8, 9, 10, 11, 12, 13, 14, 15, 16, 17, 18, 19, 20, 21, 0] (by decide) rfl
  refine lv_i2l (v := x.toInt64) hx hb dL_cuts_7 rfl ?_
  refine va_last (D := (dC, dI)) hx hb hK hP hD hS 21 1 rfl rfl (by unfold vp_in; decide) dL_cuts_8 (fun H locs hP hD hS => ?_)
  have hP : va_P (dC, dI) vwCl (wL cyI cyJ cyZ a q (S, outp o x.toInt64)) H := hP
  have hD : va_D A (wL cyI cyJ cyZ a q (S, outp o x.toInt64)) := hD
  refine lv_goto (tgt := 15) hx hb dL_cuts_9 (by decide) ?_
  refine lv_iconst (v := 0) hx hb dL_cuts_15 (by decide) ?_
  exact vx_ret (xr_i (wf := wL cyI cyJ cyZ a q) (S := (S, outp o x.toInt64)) hx hb hr hlocks hK hP hD hS h (Nat.le_of_ble_eq_true rfl) (Nat.le_of_ble_eq_true rfl) dL_cuts_16)
def p_L_cut (S : CS) (o : Nat → Int64) (x1 : Int32) (x2 : Int32) (post : Int32 → CS × (Nat → Int64) → Prop) : Prop := p_X5_cut S x1 x2 (fun x => post 0 (S, outp o x)) (fun E => (E = "java/lang/IndexOutOfBoundsException" → post 1 (S, o)) ∧ (E = "java/lang/IndexOutOfBoundsException"))
set_option maxHeartbeats 1000000 in
set_option maxRecDepth 100000 in
theorem t_L_cut {l : Launch} {dC : Nat → ClassId} {dI : Nat → Nat → Nat} {cyI cyJ cyZ : ClassId} {r : Nat → Nat} {a : Nat → Nat} {q : Nat} {S : CS} {o : Nat → Int64} {x1 : Int32} {x2 : Int32} {post : Int32 → CS × (Nat → Int64) → Prop} (hl0 : l.stackTraces = false) (h : p_L_cut S o x1 x2 post) : xXi l yL_cut wsL_cut { frames := 9, cells := 2, slots := 12, locals := 146 } (dC, dI) (tyA cyI cyJ cyZ) r (wL cyI cyJ cyZ a q) [.ref (a 0), .int x1, .int x2, .ref q] (S, o) post (fun _ _ => False) 2 12 := by
  intro sz
  refine vx_ofWH (cc := cL_cut) (maxL := 5) (ret := (some .int)) (hh := [(0, 9, 12, 19)]) (by decide) rfl ?_
  intro p e s m args below meth c s₁ B hml hv
  have htab := vx_table (x := yL_cut) B (atoms_spec (ws := wsL_cut) B.pre _ List.mem_cons_self)
  obtain ⟨rfl, G, hP, hD, hS⟩ := xG.ofH B hml hv
  generalize hAe : va_A (wL cyI cyJ cyZ a q (S, o)) sz = A at G hD hS ⊢
  have G : xG p s m _ meth c cL_cut 5 RL (some .int) wsL_cut (dC, dI) (tyA cyI cyJ cyZ) r A := G
  obtain ⟨hx, hb, hml, hown, hts, hr, hlocks, hK, hE, hA⟩ := id G
  have hl := lv_entry ([.ref (a 0), .int x1, .int x2, .ref q]) (n := 5) (Nat.le_of_ble_eq_true rfl)
  rw [lg_entry_eq]
  generalize (lg_sl ([.ref (a 0), .int x1, .int x2, .ref q]) ++ List.replicate (5 - (lg_sl ([.ref (a 0), .int x1, .int x2, .ref q])).length) Slot.unset).toArray = ls at hl ⊢
  have hl : lv_has ls 5 [(0, .ref (a 0)), (1, .int x1), (2, .int x2), (3, .ref q)] := hl
  show W p l e { frames := 9, cells := 2, slots := 12, locals := 146 } s m _ below meth c s.heap [] 0 0 _ _
  unfold p_L_cut at h
  refine lv_aload_n hx hb dL_cut_0 rfl (lv_at hl 3 rfl) ?_
  refine lv_iconst (v := 0) hx hb dL_cut_1 (by decide) ?_
  refine lv_aload_n hx hb dL_cut_2 rfl (lv_at hl 0 rfl) ?_
  refine lv_iload_n hx hb dL_cut_3 rfl (lv_at hl 1 rfl) ?_
  refine lv_iload_n hx hb dL_cut_4 rfl (lv_at hl 2 rfl) ?_
  refine xt_Vl (wf := wC cyI cyJ cyZ a) (S := S) (wr := [(q, .inl (cyJ, 1, .inr (.inl o)))]) (isC := [0, 1, 2, 3, 4, 5, 6, 7, 8, 9, 10, 11, 12, 13, 14, 15, 16, 17, 18, 19, 20]) (isR := [21]) (As := [.int x1, .int x2]) (rest := [.int 0, .ref q]) ⟨hx, hb, hml, hown, hts⟩ (t_X5_cut hl0 h) (cwV 2 hts gL_cut_X5_cut rfl rfl rfl (by decide +kernel) ⟨Nat.le_of_ble_eq_true rfl, Nat.le_of_ble_eq_true rfl⟩) ⟨hK, hE, hA, hP, hD, hS, rfl, rfl, rfl, rfl, by decide⟩ ⟨0, 4, _, _, rfl, rfl, rfl⟩ rfl rfl hl.1 (Nat.le_of_ble_eq_true rfl) dL_cut_5 ⟨(Nat.le_of_ble_eq_true rfl), (Nat.le_of_ble_eq_true rfl)⟩ (fun E ce q9 u H locs h hP hD hS hce hcv hcl => ?_) (fun x u H locs h hP hD hS => ?_)
  · obtain ⟨rfl, h⟩ := h
    have hP : va_P (dC, dI) vwCl (wL cyI cyJ cyZ a q (S, o)) H := hP.sub [1, 2, 3, 4, 5, 6, 7, 8, 9, 10, 11, 12, 13, 14, 15, 16, 17, 18, 19, 20, 21, 0] rfl
    have hD : va_D A (wL cyI cyJ cyZ a q (S, o)) := hD.sub [1, 2, 3, 4, 5, 6, 7, 8, 9, 10, 11, 12, 13, 14, 15, 16, 17, 18, 19, 20, 21, 0] (by decide) rfl
    obtain ⟨h1, hor⟩ := h
    rcases hor with rfl
    · have h := h1 rfl
      refine vx_catch (own := RL) (name := "java/lang/IndexOutOfBoundsException") hown [] ⟨0, 9, 12, 19⟩ [] htab (fun z hz => absurd hz List.not_mem_nil) rfl (by decide) (hts (.classLink RL 19 "java/lang/IndexOutOfBoundsException") (by decide +kernel)) hE.2.2.2.2.2.1.word hce hcv hcl ?_
      refine lv_astore (lv' := [(4, .ref q9), (0, .ref (a 0)), (1, .int x1), (2, .int x2), (3, .ref q)]) hx hb dL_cut_12 hl (by decide) rfl (fun ls hl => ?_)
      refine lv_iconst (v := 1) hx hb dL_cut_14 (by decide) ?_
      exact vx_ret (xr_i (wf := wL cyI cyJ cyZ a q) (S := (S, o)) hx hb hr hlocks hK hP hD hS h (Nat.le_of_ble_eq_true rfl) (Nat.le_of_ble_eq_true rfl) dL_cut_15)
  obtain ⟨rfl, h⟩ := h
  have hP : va_P (dC, dI) vwCl (wL cyI cyJ cyZ a q (S, o)) H := hP.sub [1, 2, 3, 4, 5, 6, 7, 8, 9, 10, 11, 12, 13, 14, 15, 16, 17, 18, 19, 20, 21, 0] rfl
  have hD : va_D A (wL cyI cyJ cyZ a q (S, o)) := hD.sub [1, 2, 3, 4, 5, 6, 7, 8, 9, 10, 11, 12, 13, 14, 15, 16, 17, 18, 19, 20, 21, 0] (by decide) rfl
  refine va_last (D := (dC, dI)) hx hb hK hP hD hS 21 1 rfl rfl (by unfold vp_in; decide) dL_cut_8 (fun H locs hP hD hS => ?_)
  have hP : va_P (dC, dI) vwCl (wL cyI cyJ cyZ a q (S, outp o x)) H := hP
  have hD : va_D A (wL cyI cyJ cyZ a q (S, outp o x)) := hD
  refine lv_goto (tgt := 16) hx hb dL_cut_9 (by decide) ?_
  refine lv_iconst (v := 0) hx hb dL_cut_16 (by decide) ?_
  exact vx_ret (xr_i (wf := wL cyI cyJ cyZ a q) (S := (S, outp o x)) hx hb hr hlocks hK hP hD hS h (Nat.le_of_ble_eq_true rfl) (Nat.le_of_ble_eq_true rfl) dL_cut_17)
def p_L_function (S : CS) (o : Nat → Int64) (x1 : Int32) (x2 : Int32) (post : Int32 → CS × (Nat → Int64) → Prop) : Prop := p_X5_function S x1 x2 (fun x => post 0 (S, outp o x.toInt64)) (fun E => (E = "java/lang/IndexOutOfBoundsException" → post 1 (S, o)) ∧ (E = "java/lang/IndexOutOfBoundsException"))
set_option maxHeartbeats 1000000 in
set_option maxRecDepth 100000 in
theorem t_L_function {l : Launch} {dC : Nat → ClassId} {dI : Nat → Nat → Nat} {cyI cyJ cyZ : ClassId} {r : Nat → Nat} {a : Nat → Nat} {q : Nat} {S : CS} {o : Nat → Int64} {x1 : Int32} {x2 : Int32} {post : Int32 → CS × (Nat → Int64) → Prop} (hl0 : l.stackTraces = false) (h : p_L_function S o x1 x2 post) : xXi l yL_function wsL_function { frames := 9, cells := 2, slots := 12, locals := 146 } (dC, dI) (tyA cyI cyJ cyZ) r (wL cyI cyJ cyZ a q) [.ref (a 0), .int x1, .int x2, .ref q] (S, o) post (fun _ _ => False) 2 12 := by
  intro sz
  refine vx_ofWH (cc := cL_function) (maxL := 5) (ret := (some .int)) (hh := [(0, 10, 13, 19)]) (by decide) rfl ?_
  intro p e s m args below meth c s₁ B hml hv
  have htab := vx_table (x := yL_function) B (atoms_spec (ws := wsL_function) B.pre _ List.mem_cons_self)
  obtain ⟨rfl, G, hP, hD, hS⟩ := xG.ofH B hml hv
  generalize hAe : va_A (wL cyI cyJ cyZ a q (S, o)) sz = A at G hD hS ⊢
  have G : xG p s m _ meth c cL_function 5 RL (some .int) wsL_function (dC, dI) (tyA cyI cyJ cyZ) r A := G
  obtain ⟨hx, hb, hml, hown, hts, hr, hlocks, hK, hE, hA⟩ := id G
  have hl := lv_entry ([.ref (a 0), .int x1, .int x2, .ref q]) (n := 5) (Nat.le_of_ble_eq_true rfl)
  rw [lg_entry_eq]
  generalize (lg_sl ([.ref (a 0), .int x1, .int x2, .ref q]) ++ List.replicate (5 - (lg_sl ([.ref (a 0), .int x1, .int x2, .ref q])).length) Slot.unset).toArray = ls at hl ⊢
  have hl : lv_has ls 5 [(0, .ref (a 0)), (1, .int x1), (2, .int x2), (3, .ref q)] := hl
  show W p l e { frames := 9, cells := 2, slots := 12, locals := 146 } s m _ below meth c s.heap [] 0 0 _ _
  unfold p_L_function at h
  refine lv_aload_n hx hb dL_function_0 rfl (lv_at hl 3 rfl) ?_
  refine lv_iconst (v := 0) hx hb dL_function_1 (by decide) ?_
  refine lv_aload_n hx hb dL_function_2 rfl (lv_at hl 0 rfl) ?_
  refine lv_iload_n hx hb dL_function_3 rfl (lv_at hl 1 rfl) ?_
  refine lv_iload_n hx hb dL_function_4 rfl (lv_at hl 2 rfl) ?_
  refine xt_Vi (wf := wC cyI cyJ cyZ a) (S := S) (wr := [(q, .inl (cyJ, 1, .inr (.inl o)))]) (isC := [0, 1, 2, 3, 4, 5, 6, 7, 8, 9, 10, 11, 12, 13, 14, 15, 16, 17, 18, 19, 20]) (isR := [21]) (As := [.int x1, .int x2]) (rest := [.int 0, .ref q]) ⟨hx, hb, hml, hown, hts⟩ (t_X5_function hl0 h) (cwV 2 hts gL_function_X5_function rfl rfl rfl (by decide +kernel) ⟨Nat.le_of_ble_eq_true rfl, Nat.le_of_ble_eq_true rfl⟩) ⟨hK, hE, hA, hP, hD, hS, rfl, rfl, rfl, rfl, by decide⟩ ⟨0, 4, _, _, rfl, rfl, rfl⟩ rfl rfl hl.1 (Nat.le_of_ble_eq_true rfl) dL_function_5 ⟨(Nat.le_of_ble_eq_true rfl), (Nat.le_of_ble_eq_true rfl)⟩ (fun E ce q9 u H locs h hP hD hS hce hcv hcl => ?_) (fun x u H locs h hP hD hS => ?_)
  · obtain ⟨rfl, h⟩ := h
    have hP : va_P (dC, dI) vwCl (wL cyI cyJ cyZ a q (S, o)) H := hP.sub [1, 2, 3, 4, 5, 6, 7, 8, 9, 10, 11, 12, 13, 14, 15, 16, 17, 18, 19, 20, 21, 0] rfl
    have hD : va_D A (wL cyI cyJ cyZ a q (S, o)) := hD.sub [1, 2, 3, 4, 5, 6, 7, 8, 9, 10, 11, 12, 13, 14, 15, 16, 17, 18, 19, 20, 21, 0] (by decide) rfl
    obtain ⟨h1, hor⟩ := h
    rcases hor with rfl
    · have h := h1 rfl
      refine vx_catch (own := RL) (name := "java/lang/IndexOutOfBoundsException") hown [] ⟨0, 10, 13, 19⟩ [] htab (fun z hz => absurd hz List.not_mem_nil) rfl (by decide) (hts (.classLink RL 19 "java/lang/IndexOutOfBoundsException") (by decide +kernel)) hE.2.2.2.2.2.1.word hce hcv hcl ?_
      refine lv_astore (lv' := [(4, .ref q9), (0, .ref (a 0)), (1, .int x1), (2, .int x2), (3, .ref q)]) hx hb dL_function_13 hl (by decide) rfl (fun ls hl => ?_)
      refine lv_iconst (v := 1) hx hb dL_function_15 (by decide) ?_
      exact vx_ret (xr_i (wf := wL cyI cyJ cyZ a q) (S := (S, o)) hx hb hr hlocks hK hP hD hS h (Nat.le_of_ble_eq_true rfl) (Nat.le_of_ble_eq_true rfl) dL_function_16)
  obtain ⟨rfl, h⟩ := h
  have hP : va_P (dC, dI) vwCl (wL cyI cyJ cyZ a q (S, o)) H := hP.sub [1, 2, 3, 4, 5, 6, 7, 8, 9, 10, 11, 12, 13, 14, 15, 16, 17, 18, 19, 20, 21, 0] rfl
  have hD : va_D A (wL cyI cyJ cyZ a q (S, o)) := hD.sub [1, 2, 3, 4, 5, 6, 7, 8, 9, 10, 11, 12, 13, 14, 15, 16, 17, 18, 19, 20, 21, 0] (by decide) rfl
  refine lv_i2l (v := x.toInt64) hx hb dL_function_8 rfl ?_
  refine va_last (D := (dC, dI)) hx hb hK hP hD hS 21 1 rfl rfl (by unfold vp_in; decide) dL_function_9 (fun H locs hP hD hS => ?_)
  have hP : va_P (dC, dI) vwCl (wL cyI cyJ cyZ a q (S, outp o x.toInt64)) H := hP
  have hD : va_D A (wL cyI cyJ cyZ a q (S, outp o x.toInt64)) := hD
  refine lv_goto (tgt := 17) hx hb dL_function_10 (by decide) ?_
  refine lv_iconst (v := 0) hx hb dL_function_17 (by decide) ?_
  exact vx_ret (xr_i (wf := wL cyI cyJ cyZ a q) (S := (S, outp o x.toInt64)) hx hb hr hlocks hK hP hD hS h (Nat.le_of_ble_eq_true rfl) (Nat.le_of_ble_eq_true rfl) dL_function_18)
def p_L_arrival (S : CS) (o : Nat → Int64) (x1 : Int32) (post : Int32 → CS × (Nat → Int64) → Prop) : Prop := p_X5_arrival S x1 (fun x u => post 0 (u, outp o x.toInt64)) (fun E u => (E = "java/lang/IndexOutOfBoundsException" → post 1 (u, o)) ∧ (E = "java/lang/IndexOutOfBoundsException"))
set_option maxHeartbeats 1000000 in
set_option maxRecDepth 100000 in
theorem t_L_arrival {l : Launch} {dC : Nat → ClassId} {dI : Nat → Nat → Nat} {cyI cyJ cyZ : ClassId} {r : Nat → Nat} {a : Nat → Nat} {q : Nat} {S : CS} {o : Nat → Int64} {x1 : Int32} {post : Int32 → CS × (Nat → Int64) → Prop} (hl0 : l.stackTraces = false) (h : p_L_arrival S o x1 post) : xXi l yL_arrival wsL_arrival { frames := 9, cells := 1, slots := 6, locals := 176 } (dC, dI) (tyA cyI cyJ cyZ) r (wL cyI cyJ cyZ a q) [.ref (a 0), .int x1, .ref q] (S, o) post (fun _ _ => False) 1 6 := by
  intro sz
  refine vx_ofWH (cc := cL_arrival) (maxL := 4) (ret := (some .int)) (hh := [(0, 9, 12, 19)]) (by decide) rfl ?_
  intro p e s m args below meth c s₁ B hml hv
  have htab := vx_table (x := yL_arrival) B (atoms_spec (ws := wsL_arrival) B.pre _ List.mem_cons_self)
  obtain ⟨rfl, G, hP, hD, hS⟩ := xG.ofH B hml hv
  generalize hAe : va_A (wL cyI cyJ cyZ a q (S, o)) sz = A at G hD hS ⊢
  have G : xG p s m _ meth c cL_arrival 4 RL (some .int) wsL_arrival (dC, dI) (tyA cyI cyJ cyZ) r A := G
  obtain ⟨hx, hb, hml, hown, hts, hr, hlocks, hK, hE, hA⟩ := id G
  have hl := lv_entry ([.ref (a 0), .int x1, .ref q]) (n := 4) (Nat.le_of_ble_eq_true rfl)
  rw [lg_entry_eq]
  generalize (lg_sl ([.ref (a 0), .int x1, .ref q]) ++ List.replicate (4 - (lg_sl ([.ref (a 0), .int x1, .ref q])).length) Slot.unset).toArray = ls at hl ⊢
  have hl : lv_has ls 4 [(0, .ref (a 0)), (1, .int x1), (2, .ref q)] := hl
  show W p l e { frames := 9, cells := 1, slots := 6, locals := 176 } s m _ below meth c s.heap [] 0 0 _ _
  unfold p_L_arrival at h
  refine lv_aload_n hx hb dL_arrival_0 rfl (lv_at hl 2 rfl) ?_
  refine lv_iconst (v := 0) hx hb dL_arrival_1 (by decide) ?_
  refine lv_aload_n hx hb dL_arrival_2 rfl (lv_at hl 0 rfl) ?_
  refine lv_iload_n hx hb dL_arrival_3 rfl (lv_at hl 1 rfl) ?_
  refine xt_Vi (wf := wC cyI cyJ cyZ a) (S := S) (wr := [(q, .inl (cyJ, 1, .inr (.inl o)))]) (isC := [0, 1, 2, 3, 4, 5, 6, 7, 8, 9, 10, 11, 12, 13, 14, 15, 16, 17, 18, 19, 20]) (isR := [21]) (As := [.int x1]) (rest := [.int 0, .ref q]) ⟨hx, hb, hml, hown, hts⟩ (t_X5_arrival hl0 h) (cwV 1 hts gL_arrival_X5_arrival rfl rfl rfl (by decide +kernel) ⟨Nat.le_of_ble_eq_true rfl, Nat.le_of_ble_eq_true rfl⟩) ⟨hK, hE, hA, hP, hD, hS, rfl, rfl, rfl, rfl, by decide⟩ ⟨0, 4, _, _, rfl, rfl, rfl⟩ rfl rfl hl.1 (Nat.le_of_ble_eq_true rfl) dL_arrival_4 ⟨(Nat.le_of_ble_eq_true rfl), (Nat.le_of_ble_eq_true rfl)⟩ (fun E ce q9 u H locs h hP hD hS hce hcv hcl => ?_) (fun x u H locs h hP hD hS => ?_)
  · have hP : va_P (dC, dI) vwCl (wL cyI cyJ cyZ a q (u, o)) H := hP.sub [1, 2, 3, 4, 5, 6, 7, 8, 9, 10, 11, 12, 13, 14, 15, 16, 17, 18, 19, 20, 21, 0] rfl
    have hD : va_D A (wL cyI cyJ cyZ a q (u, o)) := hD.sub [1, 2, 3, 4, 5, 6, 7, 8, 9, 10, 11, 12, 13, 14, 15, 16, 17, 18, 19, 20, 21, 0] (by decide) rfl
    obtain ⟨h1, hor⟩ := h
    rcases hor with rfl
    · have h := h1 rfl
      refine vx_catch (own := RL) (name := "java/lang/IndexOutOfBoundsException") hown [] ⟨0, 9, 12, 19⟩ [] htab (fun z hz => absurd hz List.not_mem_nil) rfl (by decide) (hts (.classLink RL 19 "java/lang/IndexOutOfBoundsException") (by decide +kernel)) hE.2.2.2.2.2.1.word hce hcv hcl ?_
      refine lv_astore_n (lv' := [(3, .ref q9), (0, .ref (a 0)), (1, .int x1), (2, .ref q)]) hx hb dL_arrival_12 rfl hl (by decide) rfl (fun ls hl => ?_)
      refine lv_iconst (v := 1) hx hb dL_arrival_13 (by decide) ?_
      exact vx_ret (xr_i (wf := wL cyI cyJ cyZ a q) (S := (u, o)) hx hb hr hlocks hK hP hD hS h (Nat.le_of_ble_eq_true rfl) (Nat.le_of_ble_eq_true rfl) dL_arrival_14)
  have hP : va_P (dC, dI) vwCl (wL cyI cyJ cyZ a q (u, o)) H := hP.sub [1, 2, 3, 4, 5, 6, 7, 8, 9, 10, 11, 12, 13, 14, 15, 16, 17, 18, 19, 20, 21, 0] rfl
  have hD : va_D A (wL cyI cyJ cyZ a q (u, o)) := hD.sub [1, 2, 3, 4, 5, 6, 7, 8, 9, 10, 11, 12, 13, 14, 15, 16, 17, 18, 19, 20, 21, 0] (by decide) rfl
  refine lv_i2l (v := x.toInt64) hx hb dL_arrival_7 rfl ?_
  refine va_last (D := (dC, dI)) hx hb hK hP hD hS 21 1 rfl rfl (by unfold vp_in; decide) dL_arrival_8 (fun H locs hP hD hS => ?_)
  have hP : va_P (dC, dI) vwCl (wL cyI cyJ cyZ a q (u, outp o x.toInt64)) H := hP
  have hD : va_D A (wL cyI cyJ cyZ a q (u, outp o x.toInt64)) := hD
  refine lv_goto (tgt := 15) hx hb dL_arrival_9 (by decide) ?_
  refine lv_iconst (v := 0) hx hb dL_arrival_15 (by decide) ?_
  exact vx_ret (xr_i (wf := wL cyI cyJ cyZ a q) (S := (u, outp o x.toInt64)) hx hb hr hlocks hK hP hD hS h (Nat.le_of_ble_eq_true rfl) (Nat.le_of_ble_eq_true rfl) dL_arrival_16)
def p_L_gate (S : CS) (o : Nat → Int64) (x1 : Int32) (x2 : Int32) (post : Int32 → CS × (Nat → Int64) → Prop) : Prop := p_X5_gate S x1 x2 (fun x u => post 0 (u, outp o x.toInt64)) (fun E u => (E = "java/lang/IndexOutOfBoundsException" → post 1 (u, o)) ∧ (E = "java/lang/IndexOutOfBoundsException"))
set_option maxHeartbeats 1000000 in
set_option maxRecDepth 100000 in
theorem t_L_gate {l : Launch} {dC : Nat → ClassId} {dI : Nat → Nat → Nat} {cyI cyJ cyZ : ClassId} {r : Nat → Nat} {a : Nat → Nat} {q : Nat} {S : CS} {o : Nat → Int64} {x1 : Int32} {x2 : Int32} {post : Int32 → CS × (Nat → Int64) → Prop} (hl0 : l.stackTraces = false) (h : p_L_gate S o x1 x2 post) : xXi l yL_gate wsL_gate { frames := 9, cells := 2, slots := 12, locals := 178 } (dC, dI) (tyA cyI cyJ cyZ) r (wL cyI cyJ cyZ a q) [.ref (a 0), .int x1, .int x2, .ref q] (S, o) post (fun _ _ => False) 2 12 := by
  intro sz
  refine vx_ofWH (cc := cL_gate) (maxL := 5) (ret := (some .int)) (hh := [(0, 10, 13, 19)]) (by decide) rfl ?_
  intro p e s m args below meth c s₁ B hml hv
  have htab := vx_table (x := yL_gate) B (atoms_spec (ws := wsL_gate) B.pre _ List.mem_cons_self)
  obtain ⟨rfl, G, hP, hD, hS⟩ := xG.ofH B hml hv
  generalize hAe : va_A (wL cyI cyJ cyZ a q (S, o)) sz = A at G hD hS ⊢
  have G : xG p s m _ meth c cL_gate 5 RL (some .int) wsL_gate (dC, dI) (tyA cyI cyJ cyZ) r A := G
  obtain ⟨hx, hb, hml, hown, hts, hr, hlocks, hK, hE, hA⟩ := id G
  have hl := lv_entry ([.ref (a 0), .int x1, .int x2, .ref q]) (n := 5) (Nat.le_of_ble_eq_true rfl)
  rw [lg_entry_eq]
  generalize (lg_sl ([.ref (a 0), .int x1, .int x2, .ref q]) ++ List.replicate (5 - (lg_sl ([.ref (a 0), .int x1, .int x2, .ref q])).length) Slot.unset).toArray = ls at hl ⊢
  have hl : lv_has ls 5 [(0, .ref (a 0)), (1, .int x1), (2, .int x2), (3, .ref q)] := hl
  show W p l e { frames := 9, cells := 2, slots := 12, locals := 178 } s m _ below meth c s.heap [] 0 0 _ _
  unfold p_L_gate at h
  refine lv_aload_n hx hb dL_gate_0 rfl (lv_at hl 3 rfl) ?_
  refine lv_iconst (v := 0) hx hb dL_gate_1 (by decide) ?_
  refine lv_aload_n hx hb dL_gate_2 rfl (lv_at hl 0 rfl) ?_
  refine lv_iload_n hx hb dL_gate_3 rfl (lv_at hl 1 rfl) ?_
  refine lv_iload_n hx hb dL_gate_4 rfl (lv_at hl 2 rfl) ?_
  refine xt_Vi (wf := wC cyI cyJ cyZ a) (S := S) (wr := [(q, .inl (cyJ, 1, .inr (.inl o)))]) (isC := [0, 1, 2, 3, 4, 5, 6, 7, 8, 9, 10, 11, 12, 13, 14, 15, 16, 17, 18, 19, 20]) (isR := [21]) (As := [.int x1, .int x2]) (rest := [.int 0, .ref q]) ⟨hx, hb, hml, hown, hts⟩ (t_X5_gate hl0 h) (cwV 2 hts gL_gate_X5_gate rfl rfl rfl (by decide +kernel) ⟨Nat.le_of_ble_eq_true rfl, Nat.le_of_ble_eq_true rfl⟩) ⟨hK, hE, hA, hP, hD, hS, rfl, rfl, rfl, rfl, by decide⟩ ⟨0, 4, _, _, rfl, rfl, rfl⟩ rfl rfl hl.1 (Nat.le_of_ble_eq_true rfl) dL_gate_5 ⟨(Nat.le_of_ble_eq_true rfl), (Nat.le_of_ble_eq_true rfl)⟩ (fun E ce q9 u H locs h hP hD hS hce hcv hcl => ?_) (fun x u H locs h hP hD hS => ?_)
  · have hP : va_P (dC, dI) vwCl (wL cyI cyJ cyZ a q (u, o)) H := hP.sub [1, 2, 3, 4, 5, 6, 7, 8, 9, 10, 11, 12, 13, 14, 15, 16, 17, 18, 19, 20, 21, 0] rfl
    have hD : va_D A (wL cyI cyJ cyZ a q (u, o)) := hD.sub [1, 2, 3, 4, 5, 6, 7, 8, 9, 10, 11, 12, 13, 14, 15, 16, 17, 18, 19, 20, 21, 0] (by decide) rfl
    obtain ⟨h1, hor⟩ := h
    rcases hor with rfl
    · have h := h1 rfl
      refine vx_catch (own := RL) (name := "java/lang/IndexOutOfBoundsException") hown [] ⟨0, 10, 13, 19⟩ [] htab (fun z hz => absurd hz List.not_mem_nil) rfl (by decide) (hts (.classLink RL 19 "java/lang/IndexOutOfBoundsException") (by decide +kernel)) hE.2.2.2.2.2.1.word hce hcv hcl ?_
      refine lv_astore (lv' := [(4, .ref q9), (0, .ref (a 0)), (1, .int x1), (2, .int x2), (3, .ref q)]) hx hb dL_gate_13 hl (by decide) rfl (fun ls hl => ?_)
      refine lv_iconst (v := 1) hx hb dL_gate_15 (by decide) ?_
      exact vx_ret (xr_i (wf := wL cyI cyJ cyZ a q) (S := (u, o)) hx hb hr hlocks hK hP hD hS h (Nat.le_of_ble_eq_true rfl) (Nat.le_of_ble_eq_true rfl) dL_gate_16)
  have hP : va_P (dC, dI) vwCl (wL cyI cyJ cyZ a q (u, o)) H := hP.sub [1, 2, 3, 4, 5, 6, 7, 8, 9, 10, 11, 12, 13, 14, 15, 16, 17, 18, 19, 20, 21, 0] rfl
  have hD : va_D A (wL cyI cyJ cyZ a q (u, o)) := hD.sub [1, 2, 3, 4, 5, 6, 7, 8, 9, 10, 11, 12, 13, 14, 15, 16, 17, 18, 19, 20, 21, 0] (by decide) rfl
  refine lv_i2l (v := x.toInt64) hx hb dL_gate_8 rfl ?_
  refine va_last (D := (dC, dI)) hx hb hK hP hD hS 21 1 rfl rfl (by unfold vp_in; decide) dL_gate_9 (fun H locs hP hD hS => ?_)
  have hP : va_P (dC, dI) vwCl (wL cyI cyJ cyZ a q (u, outp o x.toInt64)) H := hP
  have hD : va_D A (wL cyI cyJ cyZ a q (u, outp o x.toInt64)) := hD
  refine lv_goto (tgt := 17) hx hb dL_gate_10 (by decide) ?_
  refine lv_iconst (v := 0) hx hb dL_gate_17 (by decide) ?_
  exact vx_ret (xr_i (wf := wL cyI cyJ cyZ a q) (S := (u, outp o x.toInt64)) hx hb hr hlocks hK hP hD hS h (Nat.le_of_ble_eq_true rfl) (Nat.le_of_ble_eq_true rfl) dL_gate_18)
def p_L_wanted (S : CS) (o : Nat → Int64) (x1 : Int32) (post : Int32 → CS × (Nat → Int64) → Prop) : Prop := p_X5_wanted S x1 (fun x u => post 0 (u, outp o x.toInt64)) (fun E u => (E = "java/lang/IndexOutOfBoundsException" → post 1 (u, o)) ∧ (E = "java/lang/IndexOutOfBoundsException"))
set_option maxHeartbeats 1000000 in
set_option maxRecDepth 100000 in
theorem t_L_wanted {l : Launch} {dC : Nat → ClassId} {dI : Nat → Nat → Nat} {cyI cyJ cyZ : ClassId} {r : Nat → Nat} {a : Nat → Nat} {q : Nat} {S : CS} {o : Nat → Int64} {x1 : Int32} {post : Int32 → CS × (Nat → Int64) → Prop} (hl0 : l.stackTraces = false) (h : p_L_wanted S o x1 post) : xXi l yL_wanted wsL_wanted { frames := 7, cells := 1, slots := 6, locals := 180 } (dC, dI) (tyA cyI cyJ cyZ) r (wL cyI cyJ cyZ a q) [.ref (a 0), .int x1, .ref q] (S, o) post (fun _ _ => False) 1 6 := by
  intro sz
  refine vx_ofWH (cc := cL_wanted) (maxL := 4) (ret := (some .int)) (hh := [(0, 9, 12, 19)]) (by decide) rfl ?_
  intro p e s m args below meth c s₁ B hml hv
  have htab := vx_table (x := yL_wanted) B (atoms_spec (ws := wsL_wanted) B.pre _ List.mem_cons_self)
  obtain ⟨rfl, G, hP, hD, hS⟩ := xG.ofH B hml hv
  generalize hAe : va_A (wL cyI cyJ cyZ a q (S, o)) sz = A at G hD hS ⊢
  have G : xG p s m _ meth c cL_wanted 4 RL (some .int) wsL_wanted (dC, dI) (tyA cyI cyJ cyZ) r A := G
  obtain ⟨hx, hb, hml, hown, hts, hr, hlocks, hK, hE, hA⟩ := id G
  have hl := lv_entry ([.ref (a 0), .int x1, .ref q]) (n := 4) (Nat.le_of_ble_eq_true rfl)
  rw [lg_entry_eq]
  generalize (lg_sl ([.ref (a 0), .int x1, .ref q]) ++ List.replicate (4 - (lg_sl ([.ref (a 0), .int x1, .ref q])).length) Slot.unset).toArray = ls at hl ⊢
  have hl : lv_has ls 4 [(0, .ref (a 0)), (1, .int x1), (2, .ref q)] := hl
  show W p l e { frames := 7, cells := 1, slots := 6, locals := 180 } s m _ below meth c s.heap [] 0 0 _ _
  unfold p_L_wanted at h
  refine lv_aload_n hx hb dL_wanted_0 rfl (lv_at hl 2 rfl) ?_
  refine lv_iconst (v := 0) hx hb dL_wanted_1 (by decide) ?_
  refine lv_aload_n hx hb dL_wanted_2 rfl (lv_at hl 0 rfl) ?_
  refine lv_iload_n hx hb dL_wanted_3 rfl (lv_at hl 1 rfl) ?_
  refine xt_Vi (wf := wC cyI cyJ cyZ a) (S := S) (wr := [(q, .inl (cyJ, 1, .inr (.inl o)))]) (isC := [0, 1, 2, 3, 4, 5, 6, 7, 8, 9, 10, 11, 12, 13, 14, 15, 16, 17, 18, 19, 20]) (isR := [21]) (As := [.int x1]) (rest := [.int 0, .ref q]) ⟨hx, hb, hml, hown, hts⟩ (t_X5_wanted hl0 h) (cwV 1 hts gL_wanted_X5_wanted rfl rfl rfl (by decide +kernel) ⟨Nat.le_of_ble_eq_true rfl, Nat.le_of_ble_eq_true rfl⟩) ⟨hK, hE, hA, hP, hD, hS, rfl, rfl, rfl, rfl, by decide⟩ ⟨0, 4, _, _, rfl, rfl, rfl⟩ rfl rfl hl.1 (Nat.le_of_ble_eq_true rfl) dL_wanted_4 ⟨(Nat.le_of_ble_eq_true rfl), (Nat.le_of_ble_eq_true rfl)⟩ (fun E ce q9 u H locs h hP hD hS hce hcv hcl => ?_) (fun x u H locs h hP hD hS => ?_)
  · have hP : va_P (dC, dI) vwCl (wL cyI cyJ cyZ a q (u, o)) H := hP.sub [1, 2, 3, 4, 5, 6, 7, 8, 9, 10, 11, 12, 13, 14, 15, 16, 17, 18, 19, 20, 21, 0] rfl
    have hD : va_D A (wL cyI cyJ cyZ a q (u, o)) := hD.sub [1, 2, 3, 4, 5, 6, 7, 8, 9, 10, 11, 12, 13, 14, 15, 16, 17, 18, 19, 20, 21, 0] (by decide) rfl
    obtain ⟨h1, hor⟩ := h
    rcases hor with rfl
    · have h := h1 rfl
      refine vx_catch (own := RL) (name := "java/lang/IndexOutOfBoundsException") hown [] ⟨0, 9, 12, 19⟩ [] htab (fun z hz => absurd hz List.not_mem_nil) rfl (by decide) (hts (.classLink RL 19 "java/lang/IndexOutOfBoundsException") (by decide +kernel)) hE.2.2.2.2.2.1.word hce hcv hcl ?_
      refine lv_astore_n (lv' := [(3, .ref q9), (0, .ref (a 0)), (1, .int x1), (2, .ref q)]) hx hb dL_wanted_12 rfl hl (by decide) rfl (fun ls hl => ?_)
      refine lv_iconst (v := 1) hx hb dL_wanted_13 (by decide) ?_
      exact vx_ret (xr_i (wf := wL cyI cyJ cyZ a q) (S := (u, o)) hx hb hr hlocks hK hP hD hS h (Nat.le_of_ble_eq_true rfl) (Nat.le_of_ble_eq_true rfl) dL_wanted_14)
  have hP : va_P (dC, dI) vwCl (wL cyI cyJ cyZ a q (u, o)) H := hP.sub [1, 2, 3, 4, 5, 6, 7, 8, 9, 10, 11, 12, 13, 14, 15, 16, 17, 18, 19, 20, 21, 0] rfl
  have hD : va_D A (wL cyI cyJ cyZ a q (u, o)) := hD.sub [1, 2, 3, 4, 5, 6, 7, 8, 9, 10, 11, 12, 13, 14, 15, 16, 17, 18, 19, 20, 21, 0] (by decide) rfl
  refine lv_i2l (v := x.toInt64) hx hb dL_wanted_7 rfl ?_
  refine va_last (D := (dC, dI)) hx hb hK hP hD hS 21 1 rfl rfl (by unfold vp_in; decide) dL_wanted_8 (fun H locs hP hD hS => ?_)
  have hP : va_P (dC, dI) vwCl (wL cyI cyJ cyZ a q (u, outp o x.toInt64)) H := hP
  have hD : va_D A (wL cyI cyJ cyZ a q (u, outp o x.toInt64)) := hD
  refine lv_goto (tgt := 15) hx hb dL_wanted_9 (by decide) ?_
  refine lv_iconst (v := 0) hx hb dL_wanted_15 (by decide) ?_
  exact vx_ret (xr_i (wf := wL cyI cyJ cyZ a q) (S := (u, outp o x.toInt64)) hx hb hr hlocks hK hP hD hS h (Nat.le_of_ble_eq_true rfl) (Nat.le_of_ble_eq_true rfl) dL_wanted_16)
def p_L_value (S : CS) (o : Nat → Int64) (x1 : Int32) (x2 : Int32) (post : Int32 → CS × (Nat → Int64) → Prop) : Prop := p_X5_value S x1 x2 (fun x => post 0 (S, outp o x.toInt64)) (fun E => (E = "java/lang/IndexOutOfBoundsException" → post 1 (S, o)) ∧ (E = "java/lang/IndexOutOfBoundsException"))
set_option maxHeartbeats 1000000 in
set_option maxRecDepth 100000 in
theorem t_L_value {l : Launch} {dC : Nat → ClassId} {dI : Nat → Nat → Nat} {cyI cyJ cyZ : ClassId} {r : Nat → Nat} {a : Nat → Nat} {q : Nat} {S : CS} {o : Nat → Int64} {x1 : Int32} {x2 : Int32} {post : Int32 → CS × (Nat → Int64) → Prop} (hl0 : l.stackTraces = false) (h : p_L_value S o x1 x2 post) : xXi l yL_value wsL_value { frames := 9, cells := 1, slots := 6, locals := 145 } (dC, dI) (tyA cyI cyJ cyZ) r (wL cyI cyJ cyZ a q) [.ref (a 0), .int x1, .int x2, .ref q] (S, o) post (fun _ _ => False) 1 6 := by
  intro sz
  refine vx_ofWH (cc := cL_value) (maxL := 5) (ret := (some .int)) (hh := [(0, 10, 13, 19)]) (by decide) rfl ?_
  intro p e s m args below meth c s₁ B hml hv
  have htab := vx_table (x := yL_value) B (atoms_spec (ws := wsL_value) B.pre _ List.mem_cons_self)
  obtain ⟨rfl, G, hP, hD, hS⟩ := xG.ofH B hml hv
  generalize hAe : va_A (wL cyI cyJ cyZ a q (S, o)) sz = A at G hD hS ⊢
  have G : xG p s m _ meth c cL_value 5 RL (some .int) wsL_value (dC, dI) (tyA cyI cyJ cyZ) r A := G
  obtain ⟨hx, hb, hml, hown, hts, hr, hlocks, hK, hE, hA⟩ := id G
  have hl := lv_entry ([.ref (a 0), .int x1, .int x2, .ref q]) (n := 5) (Nat.le_of_ble_eq_true rfl)
  rw [lg_entry_eq]
  generalize (lg_sl ([.ref (a 0), .int x1, .int x2, .ref q]) ++ List.replicate (5 - (lg_sl ([.ref (a 0), .int x1, .int x2, .ref q])).length) Slot.unset).toArray = ls at hl ⊢
  have hl : lv_has ls 5 [(0, .ref (a 0)), (1, .int x1), (2, .int x2), (3, .ref q)] := hl
  show W p l e { frames := 9, cells := 1, slots := 6, locals := 145 } s m _ below meth c s.heap [] 0 0 _ _
  unfold p_L_value at h
  refine lv_aload_n hx hb dL_value_0 rfl (lv_at hl 3 rfl) ?_
  refine lv_iconst (v := 0) hx hb dL_value_1 (by decide) ?_
  refine lv_aload_n hx hb dL_value_2 rfl (lv_at hl 0 rfl) ?_
  refine lv_iload_n hx hb dL_value_3 rfl (lv_at hl 1 rfl) ?_
  refine lv_iload_n hx hb dL_value_4 rfl (lv_at hl 2 rfl) ?_
  refine xt_Vi (wf := wC cyI cyJ cyZ a) (S := S) (wr := [(q, .inl (cyJ, 1, .inr (.inl o)))]) (isC := [0, 1, 2, 3, 4, 5, 6, 7, 8, 9, 10, 11, 12, 13, 14, 15, 16, 17, 18, 19, 20]) (isR := [21]) (As := [.int x1, .int x2]) (rest := [.int 0, .ref q]) ⟨hx, hb, hml, hown, hts⟩ (t_X5_value hl0 h) (cwV 2 hts gL_value_X5_value rfl rfl rfl (by decide +kernel) ⟨Nat.le_of_ble_eq_true rfl, Nat.le_of_ble_eq_true rfl⟩) ⟨hK, hE, hA, hP, hD, hS, rfl, rfl, rfl, rfl, by decide⟩ ⟨0, 4, _, _, rfl, rfl, rfl⟩ rfl rfl hl.1 (Nat.le_of_ble_eq_true rfl) dL_value_5 ⟨(Nat.le_of_ble_eq_true rfl), (Nat.le_of_ble_eq_true rfl)⟩ (fun E ce q9 u H locs h hP hD hS hce hcv hcl => ?_) (fun x u H locs h hP hD hS => ?_)
  · obtain ⟨rfl, h⟩ := h
    have hP : va_P (dC, dI) vwCl (wL cyI cyJ cyZ a q (S, o)) H := hP.sub [1, 2, 3, 4, 5, 6, 7, 8, 9, 10, 11, 12, 13, 14, 15, 16, 17, 18, 19, 20, 21, 0] rfl
    have hD : va_D A (wL cyI cyJ cyZ a q (S, o)) := hD.sub [1, 2, 3, 4, 5, 6, 7, 8, 9, 10, 11, 12, 13, 14, 15, 16, 17, 18, 19, 20, 21, 0] (by decide) rfl
    obtain ⟨h1, hor⟩ := h
    rcases hor with rfl
    · have h := h1 rfl
      refine vx_catch (own := RL) (name := "java/lang/IndexOutOfBoundsException") hown [] ⟨0, 10, 13, 19⟩ [] htab (fun z hz => absurd hz List.not_mem_nil) rfl (by decide) (hts (.classLink RL 19 "java/lang/IndexOutOfBoundsException") (by decide +kernel)) hE.2.2.2.2.2.1.word hce hcv hcl ?_
      refine lv_astore (lv' := [(4, .ref q9), (0, .ref (a 0)), (1, .int x1), (2, .int x2), (3, .ref q)]) hx hb dL_value_13 hl (by decide) rfl (fun ls hl => ?_)
      refine lv_iconst (v := 1) hx hb dL_value_15 (by decide) ?_
      exact vx_ret (xr_i (wf := wL cyI cyJ cyZ a q) (S := (S, o)) hx hb hr hlocks hK hP hD hS h (Nat.le_of_ble_eq_true rfl) (Nat.le_of_ble_eq_true rfl) dL_value_16)
  obtain ⟨rfl, h⟩ := h
  have hP : va_P (dC, dI) vwCl (wL cyI cyJ cyZ a q (S, o)) H := hP.sub [1, 2, 3, 4, 5, 6, 7, 8, 9, 10, 11, 12, 13, 14, 15, 16, 17, 18, 19, 20, 21, 0] rfl
  have hD : va_D A (wL cyI cyJ cyZ a q (S, o)) := hD.sub [1, 2, 3, 4, 5, 6, 7, 8, 9, 10, 11, 12, 13, 14, 15, 16, 17, 18, 19, 20, 21, 0] (by decide) rfl
  refine lv_i2l (v := x.toInt64) hx hb dL_value_8 rfl ?_
  refine va_last (D := (dC, dI)) hx hb hK hP hD hS 21 1 rfl rfl (by unfold vp_in; decide) dL_value_9 (fun H locs hP hD hS => ?_)
  have hP : va_P (dC, dI) vwCl (wL cyI cyJ cyZ a q (S, outp o x.toInt64)) H := hP
  have hD : va_D A (wL cyI cyJ cyZ a q (S, outp o x.toInt64)) := hD
  refine lv_goto (tgt := 17) hx hb dL_value_10 (by decide) ?_
  refine lv_iconst (v := 0) hx hb dL_value_17 (by decide) ?_
  exact vx_ret (xr_i (wf := wL cyI cyJ cyZ a q) (S := (S, outp o x.toInt64)) hx hb hr hlocks hK hP hD hS h (Nat.le_of_ble_eq_true rfl) (Nat.le_of_ble_eq_true rfl) dL_value_18)
def p_L_mapped (S : CS) (o : Nat → Int64) (x1 : Int32) (x2 : Int32) (post : Int32 → CS × (Nat → Int64) → Prop) : Prop := p_X5_mapped S x1 x2 (fun x u => post 0 (u, outp o x.toInt64)) (fun E u => (E = "java/lang/IndexOutOfBoundsException" → post 1 (u, o)) ∧ (E = "java/lang/IndexOutOfBoundsException"))
set_option maxHeartbeats 1000000 in
set_option maxRecDepth 100000 in
theorem t_L_mapped {l : Launch} {dC : Nat → ClassId} {dI : Nat → Nat → Nat} {cyI cyJ cyZ : ClassId} {r : Nat → Nat} {a : Nat → Nat} {q : Nat} {S : CS} {o : Nat → Int64} {x1 : Int32} {x2 : Int32} {post : Int32 → CS × (Nat → Int64) → Prop} (hl0 : l.stackTraces = false) (h : p_L_mapped S o x1 x2 post) : xXi l yL_mapped wsL_mapped { frames := 9, cells := 1, slots := 6, locals := 177 } (dC, dI) (tyA cyI cyJ cyZ) r (wL cyI cyJ cyZ a q) [.ref (a 0), .int x1, .int x2, .ref q] (S, o) post (fun _ _ => False) 1 6 := by
  intro sz
  refine vx_ofWH (cc := cL_mapped) (maxL := 5) (ret := (some .int)) (hh := [(0, 10, 13, 19)]) (by decide) rfl ?_
  intro p e s m args below meth c s₁ B hml hv
  have htab := vx_table (x := yL_mapped) B (atoms_spec (ws := wsL_mapped) B.pre _ List.mem_cons_self)
  obtain ⟨rfl, G, hP, hD, hS⟩ := xG.ofH B hml hv
  generalize hAe : va_A (wL cyI cyJ cyZ a q (S, o)) sz = A at G hD hS ⊢
  have G : xG p s m _ meth c cL_mapped 5 RL (some .int) wsL_mapped (dC, dI) (tyA cyI cyJ cyZ) r A := G
  obtain ⟨hx, hb, hml, hown, hts, hr, hlocks, hK, hE, hA⟩ := id G
  have hl := lv_entry ([.ref (a 0), .int x1, .int x2, .ref q]) (n := 5) (Nat.le_of_ble_eq_true rfl)
  rw [lg_entry_eq]
  generalize (lg_sl ([.ref (a 0), .int x1, .int x2, .ref q]) ++ List.replicate (5 - (lg_sl ([.ref (a 0), .int x1, .int x2, .ref q])).length) Slot.unset).toArray = ls at hl ⊢
  have hl : lv_has ls 5 [(0, .ref (a 0)), (1, .int x1), (2, .int x2), (3, .ref q)] := hl
  show W p l e { frames := 9, cells := 1, slots := 6, locals := 177 } s m _ below meth c s.heap [] 0 0 _ _
  unfold p_L_mapped at h
  refine lv_aload_n hx hb dL_mapped_0 rfl (lv_at hl 3 rfl) ?_
  refine lv_iconst (v := 0) hx hb dL_mapped_1 (by decide) ?_
  refine lv_aload_n hx hb dL_mapped_2 rfl (lv_at hl 0 rfl) ?_
  refine lv_iload_n hx hb dL_mapped_3 rfl (lv_at hl 1 rfl) ?_
  refine lv_iload_n hx hb dL_mapped_4 rfl (lv_at hl 2 rfl) ?_
  refine xt_Vi (wf := wC cyI cyJ cyZ a) (S := S) (wr := [(q, .inl (cyJ, 1, .inr (.inl o)))]) (isC := [0, 1, 2, 3, 4, 5, 6, 7, 8, 9, 10, 11, 12, 13, 14, 15, 16, 17, 18, 19, 20]) (isR := [21]) (As := [.int x1, .int x2]) (rest := [.int 0, .ref q]) ⟨hx, hb, hml, hown, hts⟩ (t_X5_mapped hl0 h) (cwV 2 hts gL_mapped_X5_mapped rfl rfl rfl (by decide +kernel) ⟨Nat.le_of_ble_eq_true rfl, Nat.le_of_ble_eq_true rfl⟩) ⟨hK, hE, hA, hP, hD, hS, rfl, rfl, rfl, rfl, by decide⟩ ⟨0, 4, _, _, rfl, rfl, rfl⟩ rfl rfl hl.1 (Nat.le_of_ble_eq_true rfl) dL_mapped_5 ⟨(Nat.le_of_ble_eq_true rfl), (Nat.le_of_ble_eq_true rfl)⟩ (fun E ce q9 u H locs h hP hD hS hce hcv hcl => ?_) (fun x u H locs h hP hD hS => ?_)
  · have hP : va_P (dC, dI) vwCl (wL cyI cyJ cyZ a q (u, o)) H := hP.sub [1, 2, 3, 4, 5, 6, 7, 8, 9, 10, 11, 12, 13, 14, 15, 16, 17, 18, 19, 20, 21, 0] rfl
    have hD : va_D A (wL cyI cyJ cyZ a q (u, o)) := hD.sub [1, 2, 3, 4, 5, 6, 7, 8, 9, 10, 11, 12, 13, 14, 15, 16, 17, 18, 19, 20, 21, 0] (by decide) rfl
    obtain ⟨h1, hor⟩ := h
    rcases hor with rfl
    · have h := h1 rfl
      refine vx_catch (own := RL) (name := "java/lang/IndexOutOfBoundsException") hown [] ⟨0, 10, 13, 19⟩ [] htab (fun z hz => absurd hz List.not_mem_nil) rfl (by decide) (hts (.classLink RL 19 "java/lang/IndexOutOfBoundsException") (by decide +kernel)) hE.2.2.2.2.2.1.word hce hcv hcl ?_
      refine lv_astore (lv' := [(4, .ref q9), (0, .ref (a 0)), (1, .int x1), (2, .int x2), (3, .ref q)]) hx hb dL_mapped_13 hl (by decide) rfl (fun ls hl => ?_)
      refine lv_iconst (v := 1) hx hb dL_mapped_15 (by decide) ?_
      exact vx_ret (xr_i (wf := wL cyI cyJ cyZ a q) (S := (u, o)) hx hb hr hlocks hK hP hD hS h (Nat.le_of_ble_eq_true rfl) (Nat.le_of_ble_eq_true rfl) dL_mapped_16)
  have hP : va_P (dC, dI) vwCl (wL cyI cyJ cyZ a q (u, o)) H := hP.sub [1, 2, 3, 4, 5, 6, 7, 8, 9, 10, 11, 12, 13, 14, 15, 16, 17, 18, 19, 20, 21, 0] rfl
  have hD : va_D A (wL cyI cyJ cyZ a q (u, o)) := hD.sub [1, 2, 3, 4, 5, 6, 7, 8, 9, 10, 11, 12, 13, 14, 15, 16, 17, 18, 19, 20, 21, 0] (by decide) rfl
  refine lv_i2l (v := x.toInt64) hx hb dL_mapped_8 rfl ?_
  refine va_last (D := (dC, dI)) hx hb hK hP hD hS 21 1 rfl rfl (by unfold vp_in; decide) dL_mapped_9 (fun H locs hP hD hS => ?_)
  have hP : va_P (dC, dI) vwCl (wL cyI cyJ cyZ a q (u, outp o x.toInt64)) H := hP
  have hD : va_D A (wL cyI cyJ cyZ a q (u, outp o x.toInt64)) := hD
  refine lv_goto (tgt := 17) hx hb dL_mapped_10 (by decide) ?_
  refine lv_iconst (v := 0) hx hb dL_mapped_17 (by decide) ?_
  exact vx_ret (xr_i (wf := wL cyI cyJ cyZ a q) (S := (u, outp o x.toInt64)) hx hb hr hlocks hK hP hD hS h (Nat.le_of_ble_eq_true rfl) (Nat.le_of_ble_eq_true rfl) dL_mapped_18)
def p_L_count (S : CS) (o : Nat → Int64) (x1 : Int32) (post : Int32 → CS × (Nat → Int64) → Prop) : Prop := p_X5_count S x1 (fun x => post 0 (S, outp o x.toInt64)) (fun E => (E = "java/lang/IndexOutOfBoundsException" → post 1 (S, o)) ∧ (E = "java/lang/IndexOutOfBoundsException"))
set_option maxHeartbeats 1000000 in
set_option maxRecDepth 100000 in
theorem t_L_count {l : Launch} {dC : Nat → ClassId} {dI : Nat → Nat → Nat} {cyI cyJ cyZ : ClassId} {r : Nat → Nat} {a : Nat → Nat} {q : Nat} {S : CS} {o : Nat → Int64} {x1 : Int32} {post : Int32 → CS × (Nat → Int64) → Prop} (hl0 : l.stackTraces = false) (h : p_L_count S o x1 post) : xXi l yL_count wsL_count { frames := 7, cells := 1, slots := 6, locals := 102 } (dC, dI) (tyA cyI cyJ cyZ) r (wL cyI cyJ cyZ a q) [.ref (a 0), .int x1, .ref q] (S, o) post (fun _ _ => False) 1 6 := by
  intro sz
  refine vx_ofWH (cc := cL_count) (maxL := 4) (ret := (some .int)) (hh := [(0, 9, 12, 19)]) (by decide) rfl ?_
  intro p e s m args below meth c s₁ B hml hv
  have htab := vx_table (x := yL_count) B (atoms_spec (ws := wsL_count) B.pre _ List.mem_cons_self)
  obtain ⟨rfl, G, hP, hD, hS⟩ := xG.ofH B hml hv
  generalize hAe : va_A (wL cyI cyJ cyZ a q (S, o)) sz = A at G hD hS ⊢
  have G : xG p s m _ meth c cL_count 4 RL (some .int) wsL_count (dC, dI) (tyA cyI cyJ cyZ) r A := G
  obtain ⟨hx, hb, hml, hown, hts, hr, hlocks, hK, hE, hA⟩ := id G
  have hl := lv_entry ([.ref (a 0), .int x1, .ref q]) (n := 4) (Nat.le_of_ble_eq_true rfl)
  rw [lg_entry_eq]
  generalize (lg_sl ([.ref (a 0), .int x1, .ref q]) ++ List.replicate (4 - (lg_sl ([.ref (a 0), .int x1, .ref q])).length) Slot.unset).toArray = ls at hl ⊢
  have hl : lv_has ls 4 [(0, .ref (a 0)), (1, .int x1), (2, .ref q)] := hl
  show W p l e { frames := 7, cells := 1, slots := 6, locals := 102 } s m _ below meth c s.heap [] 0 0 _ _
  unfold p_L_count at h
  refine lv_aload_n hx hb dL_count_0 rfl (lv_at hl 2 rfl) ?_
  refine lv_iconst (v := 0) hx hb dL_count_1 (by decide) ?_
  refine lv_aload_n hx hb dL_count_2 rfl (lv_at hl 0 rfl) ?_
  refine lv_iload_n hx hb dL_count_3 rfl (lv_at hl 1 rfl) ?_
  refine xt_Vi (wf := wC cyI cyJ cyZ a) (S := S) (wr := [(q, .inl (cyJ, 1, .inr (.inl o)))]) (isC := [0, 1, 2, 3, 4, 5, 6, 7, 8, 9, 10, 11, 12, 13, 14, 15, 16, 17, 18, 19, 20]) (isR := [21]) (As := [.int x1]) (rest := [.int 0, .ref q]) ⟨hx, hb, hml, hown, hts⟩ (t_X5_count hl0 h) (cwV 1 hts gL_count_X5_count rfl rfl rfl (by decide +kernel) ⟨Nat.le_of_ble_eq_true rfl, Nat.le_of_ble_eq_true rfl⟩) ⟨hK, hE, hA, hP, hD, hS, rfl, rfl, rfl, rfl, by decide⟩ ⟨0, 4, _, _, rfl, rfl, rfl⟩ rfl rfl hl.1 (Nat.le_of_ble_eq_true rfl) dL_count_4 ⟨(Nat.le_of_ble_eq_true rfl), (Nat.le_of_ble_eq_true rfl)⟩ (fun E ce q9 u H locs h hP hD hS hce hcv hcl => ?_) (fun x u H locs h hP hD hS => ?_)
  · obtain ⟨rfl, h⟩ := h
    have hP : va_P (dC, dI) vwCl (wL cyI cyJ cyZ a q (S, o)) H := hP.sub [1, 2, 3, 4, 5, 6, 7, 8, 9, 10, 11, 12, 13, 14, 15, 16, 17, 18, 19, 20, 21, 0] rfl
    have hD : va_D A (wL cyI cyJ cyZ a q (S, o)) := hD.sub [1, 2, 3, 4, 5, 6, 7, 8, 9, 10, 11, 12, 13, 14, 15, 16, 17, 18, 19, 20, 21, 0] (by decide) rfl
    obtain ⟨h1, hor⟩ := h
    rcases hor with rfl
    · have h := h1 rfl
      refine vx_catch (own := RL) (name := "java/lang/IndexOutOfBoundsException") hown [] ⟨0, 9, 12, 19⟩ [] htab (fun z hz => absurd hz List.not_mem_nil) rfl (by decide) (hts (.classLink RL 19 "java/lang/IndexOutOfBoundsException") (by decide +kernel)) hE.2.2.2.2.2.1.word hce hcv hcl ?_
      refine lv_astore_n (lv' := [(3, .ref q9), (0, .ref (a 0)), (1, .int x1), (2, .ref q)]) hx hb dL_count_12 rfl hl (by decide) rfl (fun ls hl => ?_)
      refine lv_iconst (v := 1) hx hb dL_count_13 (by decide) ?_
      exact vx_ret (xr_i (wf := wL cyI cyJ cyZ a q) (S := (S, o)) hx hb hr hlocks hK hP hD hS h (Nat.le_of_ble_eq_true rfl) (Nat.le_of_ble_eq_true rfl) dL_count_14)
  obtain ⟨rfl, h⟩ := h
  have hP : va_P (dC, dI) vwCl (wL cyI cyJ cyZ a q (S, o)) H := hP.sub [1, 2, 3, 4, 5, 6, 7, 8, 9, 10, 11, 12, 13, 14, 15, 16, 17, 18, 19, 20, 21, 0] rfl
  have hD : va_D A (wL cyI cyJ cyZ a q (S, o)) := hD.sub [1, 2, 3, 4, 5, 6, 7, 8, 9, 10, 11, 12, 13, 14, 15, 16, 17, 18, 19, 20, 21, 0] (by decide) rfl
  refine lv_i2l (v := x.toInt64) hx hb dL_count_7 rfl ?_
  refine va_last (D := (dC, dI)) hx hb hK hP hD hS 21 1 rfl rfl (by unfold vp_in; decide) dL_count_8 (fun H locs hP hD hS => ?_)
  have hP : va_P (dC, dI) vwCl (wL cyI cyJ cyZ a q (S, outp o x.toInt64)) H := hP
  have hD : va_D A (wL cyI cyJ cyZ a q (S, outp o x.toInt64)) := hD
  refine lv_goto (tgt := 15) hx hb dL_count_9 (by decide) ?_
  refine lv_iconst (v := 0) hx hb dL_count_15 (by decide) ?_
  exact vx_ret (xr_i (wf := wL cyI cyJ cyZ a q) (S := (S, outp o x.toInt64)) hx hb hr hlocks hK hP hD hS h (Nat.le_of_ble_eq_true rfl) (Nat.le_of_ble_eq_true rfl) dL_count_16)
