/-! 04 FRAME: what every method of ours stands on: the static tables (ev), the uniform contracts (xMi, xMv, xMl; xXi .. where it may throw), a call as one row (xc_..), a return as one row (xr_..) -/
def tOC : Nat → Int32 := fun k => ([0, 1, 2, 6] : List Int32).getD k 0
def tOR : Nat → Int32 := fun k => ([0, 1, 2, 1, 0, 2, 0, 2, 1, 2, 0, 1, 1, 2, 0, 2, 1, 0] : List Int32).getD k 0
def tVA : Nat → Int32 := fun k => ([170, 204, 240] : List Int32).getD k 0
/-- a static int array that nobody writes: the field, its array, both outside A -/
def ev1 (C n : String) (q L : Nat) (xs : Nat → Int32) (A : Nat → Prop) (U : State) (H : Heap) : Prop := va_Z C n "[I" (.ref q) A U H ∧ va_T .int q L (fun j => .int (xs j)) A U H
theorem ev1.moved {C n : String} {q L : Nat} {xs : Nat → Int32} {A : Nat → Prop} {u U : State} {H : Heap} (hvm : u.vm.Alike U.vm) (h : ev1 C n q L xs A u H) : ev1 C n q L xs A U H := ⟨va_Z.moved hvm h.1, va_T.moved hvm h.2⟩
theorem ev1.kept {C n : String} {q L : Nat} {xs : Nat → Int32} {A : Nat → Prop} {U : State} {H H1 : Heap} (h : ev1 C n q L xs A U H) (hq : ∀ a : Nat, a < H.size → ¬ A a → H1[a]? = H[a]?) (hz : H.size ≤ H1.size) : ev1 C n q L xs A U H1 := ⟨h.1.kept hq, h.2.kept hq⟩
theorem ev1.narrow {C n : String} {q L : Nat} {xs : Nat → Int32} {A B : Nat → Prop} {U : State} {H : Heap} (h : ev1 C n q L xs A U H) (hAB : ∀ q, B q → A q) : ev1 C n q L xs B U H := ⟨h.1.narrow hAB, h.2.narrow hAB⟩
/-- a class that is one of itself, by the tables -/
def cok (X : String) (U : State) : Prop := ∃ c : ClassId, U.vm.findClass X = some c ∧ U.vm.assignable c c = true
theorem cok.moved {X : String} {u U : State} (hvm : u.vm.Alike U.vm) (h : cok X u) : cok X U := by
  obtain ⟨c, h1, h2⟩ := h
  exact ⟨c, by rw [hvm.findClass]; exact h1, by rw [hvm.assignable]; exact h2⟩
theorem cok.word {X : String} {s : State} {args : Array Value} (h : cok X s) : (Cond.castable X X).before args s = true := by
  obtain ⟨c, h1, h2⟩ := h
  simp [Cond.before, Cond.holds, Cond.value, h1, h2]
theorem cok.of {X : String} {s : State} {args : Array Value} (h : (Cond.castable X X).before args s = true) : cok X s := by
  obtain ⟨c3, c4, h3, h4, h5⟩ := Cond.castable_spec h
  cases Option.some.inj (h3.symm.trans h4)
  exact ⟨c3, h3, h5⟩
def exI : String := "java/lang/IndexOutOfBoundsException"
def exS : String := "java/lang/IllegalStateException"
def exA : String := "java/lang/IllegalArgumentException"
/-- the constructors without arguments that an exception's constructor calls, by the tables -/
def dec0 (Y : String) (U : State) : Prop := va_Nw (.declares (Bundle.init0 Y)) U
theorem dec0.moved {Y : String} {u U : State} (hvm : u.vm.Alike U.vm) (h : dec0 Y u) : dec0 Y U := va_tabs rfl (rfl : (u.setVm U.vm).vm = U.vm) (by rw [Cond.declares_setVm hvm]; exact h)
def decs (U : State) : Prop := dec0 "java/lang/RuntimeException" U ∧ dec0 "java/lang/Exception" U ∧ dec0 Bundle.tN U
theorem decs.moved {u U : State} (hvm : u.vm.Alike U.vm) (h : decs u) : decs U := ⟨h.1.moved hvm, h.2.1.moved hvm, h.2.2.moved hvm⟩
def evx (U : State) : Prop := cok exI U ∧ cok exS U ∧ cok exA U ∧ va_Nc exS exI U ∧ va_Nc exA exS U ∧ va_Nc exA exI U ∧ decs U
theorem evx.moved {u U : State} (hvm : u.vm.Alike U.vm) (h : evx u) : evx U := ⟨h.1.moved hvm, h.2.1.moved hvm, h.2.2.1.moved hvm, h.2.2.2.1.moved hvm, h.2.2.2.2.1.moved hvm, h.2.2.2.2.2.1.moved hvm, h.2.2.2.2.2.2.moved hvm⟩
def ev (r : Nat → Nat) (A : Nat → Prop) (U : State) (H : Heap) : Prop :=
  ev1 "CellMapping$Shelf" "ORDER_COUNT" (r 0) 4 tOC A U H ∧ ev1 "CellMapping$Shelf" "ORDERS" (r 1) 18 tOR A U H ∧ ev1 "CellMapping$Tables" "VARIABLE" (r 2) 3 tVA A U H ∧ vx_Zq Bundle.tN "UNASSIGNED_STACK" Bundle.steD A U H ∧ vx_Zq Bundle.tN "SUPPRESSED_SENTINEL" Bundle.listD A U H ∧ evx U
theorem ev.moved {r : Nat → Nat} {A : Nat → Prop} {u U : State} {H : Heap} (hvm : u.vm.Alike U.vm) (h : ev r A u H) : ev r A U H := ⟨ev1.moved hvm h.1, ev1.moved hvm h.2.1, ev1.moved hvm h.2.2.1, vx_Zq.moved hvm h.2.2.2.1, vx_Zq.moved hvm h.2.2.2.2.1, h.2.2.2.2.2.moved hvm⟩
theorem ev.kept {r : Nat → Nat} {A : Nat → Prop} {U : State} {H H1 : Heap} (h : ev r A U H) (hq : ∀ a : Nat, a < H.size → ¬ A a → H1[a]? = H[a]?) (hz : H.size ≤ H1.size) : ev r A U H1 := ⟨h.1.kept hq hz, h.2.1.kept hq hz, h.2.2.1.kept hq hz, h.2.2.2.1.kept hq, h.2.2.2.2.1.kept hq, h.2.2.2.2.2⟩
theorem ev.narrow {r : Nat → Nat} {A B : Nat → Prop} {U : State} {H : Heap} (h : ev r A U H) (hAB : ∀ q, B q → A q) : ev r B U H := ⟨h.1.narrow hAB, h.2.1.narrow hAB, h.2.2.1.narrow hAB, h.2.2.2.1.narrow hAB, h.2.2.2.2.1.narrow hAB, h.2.2.2.2.2⟩
theorem ev.on {r : Nat → Nat} {A : Nat → Prop} {s : State} {H : Heap} {locs : List Loc} (h : ev r A s s.heap) (hS : va_S A s.heap H locs) : ev r A s H := h.kept hS.2.1 hS.1
/-- a method's start, over the world ws -/
def xPre (D : va_G) (tys : List (ClassId × FieldType)) (r : Nat → Nat) (ws : va_W) (sz : Nat) (U : State) : Prop := U.heap.size = sz ∧ va_P D vwCl ws U.heap ∧ va_K D vwCl tys U ∧ va_D (fun _ => True) ws ∧ ev r (va_A ws sz) U U.heap
/-- its end, over the world of the state u -/
def xAt {σ : Type} (D : va_G) (tys : List (ClassId × FieldType)) (wf : σ → va_W) (A : Nat → Prop) (u : σ) (t : State) : Prop := va_P D vwCl (wf u) t.heap ∧ va_K D vwCl tys t ∧ va_D A (wf u)
def xAtX {σ : Type} (D : va_G) (tys : List (ClassId × FieldType)) (wf : σ → va_W) (A : Nat → Prop) (px : String → σ → Prop) (E : String) (u : σ) (t : State) : Prop := px E u ∧ xAt D tys wf A u t
/-- the uniform contracts: from the state S the answer and the state behind satisfy post -/
def xMi {σ : Type} (l : Launch) (y : MethodName) (wc : List Cond) (rm : Room) (D : va_G) (tys : List (ClassId × FieldType)) (r : Nat → Nat) (wf : σ → va_W) (av : List Value) (S : σ) (post : Int32 → σ → Prop) (mc ms : Nat) : Prop :=
  ∀ sz : Nat, Met l y wc rm (va_Pc av (xPre D tys r (wf S) sz)) (va_Qi post (xAt D tys wf (va_A (wf S) sz)) (va_A (wf S) sz)) mc ms (va_A (wf S) sz)
def xMl {σ : Type} (l : Launch) (y : MethodName) (wc : List Cond) (rm : Room) (D : va_G) (tys : List (ClassId × FieldType)) (r : Nat → Nat) (wf : σ → va_W) (av : List Value) (S : σ) (post : Int64 → σ → Prop) (mc ms : Nat) : Prop :=
  ∀ sz : Nat, Met l y wc rm (va_Pc av (xPre D tys r (wf S) sz)) (va_Ql post (xAt D tys wf (va_A (wf S) sz)) (va_A (wf S) sz)) mc ms (va_A (wf S) sz)
def xMv {σ : Type} (l : Launch) (y : MethodName) (wc : List Cond) (rm : Room) (D : va_G) (tys : List (ClassId × FieldType)) (r : Nat → Nat) (wf : σ → va_W) (av : List Value) (S : σ) (post : σ → Prop) (mc ms : Nat) : Prop :=
  ∀ sz : Nat, Met l y wc rm (va_Pc av (xPre D tys r (wf S) sz)) (va_Qv post (xAt D tys wf (va_A (wf S) sz)) (va_A (wf S) sz)) mc ms (va_A (wf S) sz)
/-- .. of methods that may throw: px the class and the state then -/
def xXi {σ : Type} (l : Launch) (y : MethodName) (wc : List Cond) (rm : Room) (D : va_G) (tys : List (ClassId × FieldType)) (r : Nat → Nat) (wf : σ → va_W) (av : List Value) (S : σ) (post : Int32 → σ → Prop) (px : String → σ → Prop) (mc ms : Nat) : Prop :=
  ∀ sz : Nat, vx_Met l y wc rm (va_Pc av (xPre D tys r (wf S) sz)) (va_Qi post (xAt D tys wf (va_A (wf S) sz)) (va_A (wf S) sz)) (vx_X (fun _ : σ => True) (xAtX D tys wf (va_A (wf S) sz) px) (va_A (wf S) sz)) mc ms (va_A (wf S) sz)
def xXl {σ : Type} (l : Launch) (y : MethodName) (wc : List Cond) (rm : Room) (D : va_G) (tys : List (ClassId × FieldType)) (r : Nat → Nat) (wf : σ → va_W) (av : List Value) (S : σ) (post : Int64 → σ → Prop) (px : String → σ → Prop) (mc ms : Nat) : Prop :=
  ∀ sz : Nat, vx_Met l y wc rm (va_Pc av (xPre D tys r (wf S) sz)) (va_Ql post (xAt D tys wf (va_A (wf S) sz)) (va_A (wf S) sz)) (vx_X (fun _ : σ => True) (xAtX D tys wf (va_A (wf S) sz) px) (va_A (wf S) sz)) mc ms (va_A (wf S) sz)
def xXv {σ : Type} (l : Launch) (y : MethodName) (wc : List Cond) (rm : Room) (D : va_G) (tys : List (ClassId × FieldType)) (r : Nat → Nat) (wf : σ → va_W) (av : List Value) (S : σ) (post : σ → Prop) (px : String → σ → Prop) (mc ms : Nat) : Prop :=
  ∀ sz : Nat, vx_Met l y wc rm (va_Pc av (xPre D tys r (wf S) sz)) (va_Qv post (xAt D tys wf (va_A (wf S) sz)) (va_A (wf S) sz)) (vx_X (fun _ : σ => True) (xAtX D tys wf (va_A (wf S) sz) px) (va_A (wf S) sz)) mc ms (va_A (wf S) sz)
section XC
variable {p : Program} {l : Launch} {e : Env} {R : Room} {s : State} {m : MethodId} {args : Array Value} {below : List Frame} {meth : Method} {c : Code} {H : Heap} {locs : List Loc} {cells slots : Nat} {Q : State → Prop}
variable {pc : Nat} {ls : Array Slot} {rest st0 : List Value} {A : Nat → Prop} {D : va_G} {tys : List (ClassId × FieldType)} {r : Nat → Nat}
variable {y : MethodName} {bytes cc : ByteArray} {maxL nL mc ms n index : Nat} {ret : Option FieldType} {wc : List Cond} {rm : Room} {Ts : List Cond} {own C : String} {b : Addr} {As : List Value} {av : List Value}
/-- what a call site has: the caller's context over its world ws; the callee's part of it (places isC), the rest (places isR) -/
def xSite (D : va_G) (tys : List (ClassId × FieldType)) (r : Nat → Nat) (A : Nat → Prop) (s : State) (H : Heap) (locs : List Loc) (ws wk wr : va_W) (isC isR : List Nat) : Prop :=
  va_K D vwCl tys s ∧ ev r A s s.heap ∧ (∀ q, s.heap.size ≤ q → A q) ∧ va_P D vwCl ws H ∧ va_D A ws ∧ va_S A s.heap H locs ∧ isC.map (fun i => ws[i]?) = wk.map some ∧ isR.map (fun i => ws[i]?) = wr.map some ∧ va_nd isC = true ∧ va_nd isR = true ∧ (∀ i ∈ isR, i ∉ isC)
theorem xSite.part {ws wk wr : va_W} {isC isR : List Nat} (h : xSite D tys r A s H locs ws wk wr isC isR) : va_P D vwCl wk H ∧ va_D A wk ∧ (∀ q, va_A wk H.size q → A q) := by
  obtain ⟨hK, hE, hA, hP, hD, hS, hC, hR, hnC, hnR, hdis⟩ := h
  refine ⟨fun k q hk => ?_, hD.sub isC hnC hC, va_free hD hS hA isC hC⟩
  have h1 : (isC.map (fun i => ws[i]?))[k]? = some (some q) := by rw [hC, List.getElem?_map, hk]; rfl
  rw [List.getElem?_map] at h1
  cases hi : isC[k]? with
  | none => rw [hi] at h1; cases h1
  | some i => rw [hi] at h1; exact hP i q (Option.some.inj h1)
theorem xSite.pre {ws wk wr : va_W} {isC isR : List Nat} (h : xSite D tys r A s H locs ws wk wr isC isR) : FrameBlind (va_Pc av (xPre D tys r wk H.size)) ∧ ∀ U : State, U.heap = H → s.WarmedH U.vm → va_Pc av (xPre D tys r wk H.size) av.toArray U := by
  obtain ⟨p1, p2, p3⟩ := h.part
  obtain ⟨hK, hE, hA, hP, hD, hS, hC, hR, hnC, hnR, hdis⟩ := h
  refine ⟨fun a U g mk q => ?_, fun U hU hW => ⟨rfl, by rw [hU], by rw [hU]; exact p1, va_K.moved hW.alike hK, p2.weaken (fun _ _ _ _ => trivial), ?_⟩⟩
  · obtain ⟨q0, q1, qP, qK, qD, qE⟩ := q
    exact ⟨q0, q1, qP, va_K.moved (u := U) (U := U.calling g mk a) (Vm.Alike.refl U.vm) qK, qD, ev.moved (u := U) (U := U.calling g mk a) (Vm.Alike.refl U.vm) qE⟩
  · rw [hU]
    exact (hE.on hS |>.narrow p3).moved hW.alike
/-- behind the call -/
theorem xSite.back {ws wk wr w1 : va_W} {isC isR : List Nat} {H1 : Heap} (h : xSite D tys r A s H locs ws wk wr isC isR) (hk : ∀ q : Nat, q < H.size → ¬ va_A wk H.size q → H1[q]? = H[q]?) (h1 : va_P D vwCl w1 H1) (h2 : va_D (va_A wk H.size) w1) : va_P D vwCl (wr ++ w1) H1 ∧ va_D A (wr ++ w1) := by
  obtain ⟨p1, p2, p3⟩ := h.part
  obtain ⟨hK, hE, hA, hP, hD, hS, hC, hR, hnC, hnR, hdis⟩ := h
  exact va_join hP hD isC isR hC hR hnR hdis hk p3 h1 h2
/-- the receiver -/
def xRcv (wk : va_W) (C : String) (b : Addr) : Prop := ∃ (q0 ci : Nat) (q : vw_C) (fs : List Value), vwCl[ci]? = some q ∧ q.1 = C ∧ wk[q0]? = some (b, .inr (ci, fs))
theorem xRcv.pre {ws wk wr : va_W} {isC isR : List Nat} (h : xSite D tys r A s H locs ws wk wr isC isR) (hr : xRcv wk C b) : ∃ cell : Cell, H[b]? = some cell ∧ cell.vm.isStatics = false ∧ s.vm.findClass C = some cell.cls := by
  obtain ⟨q0, ci, q, fs, h1, h2, h3⟩ := hr
  subst h2
  exact va_recv h.1 h.part.1 h1 h3
theorem xc_Vi {σ : Type} {wf : σ → va_W} {S : σ} {post : Int32 → σ → Prop} {ws wr : va_W} {isC isR : List Nat} (F : CallFix p m c cc nL s args Ts own) (hM : xMi l y wc rm D tys r wf (.ref b :: As) S post mc ms) (cw : CallW R s args own C index y bytes maxL ret wc rm mc ms n)
    (hs : xSite D tys r A s H locs ws (wf S) wr isC isR) (hrc : xRcv (wf S) C b) (hst : st0 = As.reverse ++ .ref b :: rest) (hn : As.length = n) (hsz : ls.size = nL) (hrm : (rest.map fun v => v.category).sum ≤ 8) (hdg : decode cc pc = .ok (.invokevirtual index, 3)) (hf : cells + mc ≤ R.cells ∧ slots + ms ≤ R.slots)
    (kk : ∀ (x : Int32) (u : σ) (H1 : Heap) (locs1 : List Loc), post x u → va_P D vwCl (wr ++ wf u) H1 → va_D A (wr ++ wf u) → va_S A s.heap H1 locs1 → W p l e R s m args below meth c H1 locs1 (cells + mc) (slots + ms) Q (F0 m (pc + 3) ls (.int x :: rest))) : W p l e R s m args below meth c H locs cells slots Q (F0 m pc ls st0) := by
  subst hst
  refine va_calli (va_runV (As := As) (rest := rest) F (hM H.size) cw ⟨hs.pre.1, xRcv.pre hs hrc, hs.pre.2⟩ rfl hn hsz rfl (lv_room hrm) hdg hf) hs.2.2.2.2.2.1 (fun q _ h => hs.part.2.2 q h) hs.part.2.2 (fun x u t H1 locs1 ht hvm hw hB hz hk hS => ?_)
  obtain ⟨b1, b2, b3⟩ := hB
  rw [ht] at b1
  obtain ⟨c1, c2⟩ := hs.back hk b1 b3
  exact kk x u H1 locs1 hw c1 c2 hS
theorem xc_Vl {σ : Type} {wf : σ → va_W} {S : σ} {post : Int64 → σ → Prop} {ws wr : va_W} {isC isR : List Nat} (F : CallFix p m c cc nL s args Ts own) (hM : xMl l y wc rm D tys r wf (.ref b :: As) S post mc ms) (cw : CallW R s args own C index y bytes maxL ret wc rm mc ms n)
    (hs : xSite D tys r A s H locs ws (wf S) wr isC isR) (hrc : xRcv (wf S) C b) (hst : st0 = As.reverse ++ .ref b :: rest) (hn : As.length = n) (hsz : ls.size = nL) (hrm : (rest.map fun v => v.category).sum ≤ 8) (hdg : decode cc pc = .ok (.invokevirtual index, 3)) (hf : cells + mc ≤ R.cells ∧ slots + ms ≤ R.slots)
    (kk : ∀ (x : Int64) (u : σ) (H1 : Heap) (locs1 : List Loc), post x u → va_P D vwCl (wr ++ wf u) H1 → va_D A (wr ++ wf u) → va_S A s.heap H1 locs1 → W p l e R s m args below meth c H1 locs1 (cells + mc) (slots + ms) Q (F0 m (pc + 3) ls (.long x :: rest))) : W p l e R s m args below meth c H locs cells slots Q (F0 m pc ls st0) := by
  subst hst
  refine va_calll (va_runV (As := As) (rest := rest) F (hM H.size) cw ⟨hs.pre.1, xRcv.pre hs hrc, hs.pre.2⟩ rfl hn hsz rfl (lv_room hrm) hdg hf) hs.2.2.2.2.2.1 (fun q _ h => hs.part.2.2 q h) hs.part.2.2 (fun x u t H1 locs1 ht hvm hw hB hz hk hS => ?_)
  obtain ⟨b1, b2, b3⟩ := hB
  rw [ht] at b1
  obtain ⟨c1, c2⟩ := hs.back hk b1 b3
  exact kk x u H1 locs1 hw c1 c2 hS
theorem xc_Vv {σ : Type} {wf : σ → va_W} {S : σ} {post : σ → Prop} {ws wr : va_W} {isC isR : List Nat} (F : CallFix p m c cc nL s args Ts own) (hM : xMv l y wc rm D tys r wf (.ref b :: As) S post mc ms) (cw : CallW R s args own C index y bytes maxL ret wc rm mc ms n)
    (hs : xSite D tys r A s H locs ws (wf S) wr isC isR) (hrc : xRcv (wf S) C b) (hst : st0 = As.reverse ++ .ref b :: rest) (hn : As.length = n) (hsz : ls.size = nL) (hrm : (rest.map fun v => v.category).sum ≤ 8) (hdg : decode cc pc = .ok (.invokevirtual index, 3)) (hf : cells + mc ≤ R.cells ∧ slots + ms ≤ R.slots)
    (kk : ∀ (u : σ) (H1 : Heap) (locs1 : List Loc), post u → va_P D vwCl (wr ++ wf u) H1 → va_D A (wr ++ wf u) → va_S A s.heap H1 locs1 → W p l e R s m args below meth c H1 locs1 (cells + mc) (slots + ms) Q (F0 m (pc + 3) ls rest)) : W p l e R s m args below meth c H locs cells slots Q (F0 m pc ls st0) := by
  subst hst
  refine va_callv (va_runV (As := As) (rest := rest) F (hM H.size) cw ⟨hs.pre.1, xRcv.pre hs hrc, hs.pre.2⟩ rfl hn hsz rfl (lv_room hrm) hdg hf) hs.2.2.2.2.2.1 (fun q _ h => hs.part.2.2 q h) hs.part.2.2 (fun u t H1 locs1 ht hvm hw hB hz hk hS => ?_)
  obtain ⟨b1, b2, b3⟩ := hB
  rw [ht] at b1
  obtain ⟨c1, c2⟩ := hs.back hk b1 b3
  exact kk u H1 locs1 hw c1 c2 hS
theorem xc_Si {σ : Type} {wf : σ → va_W} {S : σ} {post : Int32 → σ → Prop} {ws wr : va_W} {isC isR : List Nat} (F : CallFix p m c cc nL s args Ts own) (hM : xMi l y wc rm D tys r wf As S post mc ms) (cw : CallB R s args own index y bytes maxL ret wc rm mc ms n ∧ (Cond.static y).before args s = true)
    (hs : xSite D tys r A s H locs ws (wf S) wr isC isR) (hst : st0 = As.reverse ++ rest) (hn : As.length = n) (hsz : ls.size = nL) (hrm : (rest.map fun v => v.category).sum ≤ 8) (hdg : decode cc pc = .ok (.invokestatic index, 3)) (hf : cells + mc ≤ R.cells ∧ slots + ms ≤ R.slots)
    (kk : ∀ (x : Int32) (u : σ) (H1 : Heap) (locs1 : List Loc), post x u → va_P D vwCl (wr ++ wf u) H1 → va_D A (wr ++ wf u) → va_S A s.heap H1 locs1 → W p l e R s m args below meth c H1 locs1 (cells + mc) (slots + ms) Q (F0 m (pc + 3) ls (.int x :: rest))) : W p l e R s m args below meth c H locs cells slots Q (F0 m pc ls st0) := by
  subst hst
  refine va_calli (va_runS (As := As) (rest := rest) F (hM H.size) cw hs.pre rfl hn hsz rfl (lv_room hrm) hdg hf) hs.2.2.2.2.2.1 (fun q _ h => hs.part.2.2 q h) hs.part.2.2 (fun x u t H1 locs1 ht hvm hw hB hz hk hS => ?_)
  obtain ⟨b1, b2, b3⟩ := hB
  rw [ht] at b1
  obtain ⟨c1, c2⟩ := hs.back hk b1 b3
  exact kk x u H1 locs1 hw c1 c2 hS
/-- returns -/
theorem xr_q {σ : Type} {wf : σ → va_W} {S : σ} (hK : va_K D vwCl tys s) (hP : va_P D vwCl (wf S) H) (hD : va_D A (wf S)) {t : State} (ht : t.heap = H) (hW : s.WarmedH t.vm) : xAt D tys wf A S t := ⟨by rw [ht]; exact hP, va_K.moved hW.alike hK, hD⟩
theorem xr_i {σ : Type} {wf : σ → va_W} {S : σ} {post : Int32 → σ → Prop} {v : Int32} (hx : p.tables.exec = Jvm.exec) (hb : c.code = cc) (hr : meth.sig.returnType = some .int) (hlocks : meth.locks = false) (hK : va_K D vwCl tys s) (hP : va_P D vwCl (wf S) H) (hD : va_D A (wf S)) (hS : va_S A s.heap H locs) (h : post v S) (hc : cells ≤ mc) (hs : slots ≤ ms) (hdg : decode cc pc = .ok (.ireturn, 1)) :
    W p l e R s m args below meth c H locs cells slots (MQ below (va_Qi post (xAt D tys wf A) A) args s mc ms A) (F0 m pc ls [.int v]) :=
  W.widen hc hs (W.iret hx hb hr (fun t ht hW => ⟨⟨v, S, rfl, h, xr_q hK hP hD ht hW⟩, hS.F ht⟩) hS.2.2 hdg hlocks)
theorem xr_z {σ : Type} {wf : σ → va_W} {S : σ} {post : Int32 → σ → Prop} {v : Int32} (hx : p.tables.exec = Jvm.exec) (hb : c.code = cc) (hr : meth.sig.returnType = some .boolean) (hlocks : meth.locks = false) (hK : va_K D vwCl tys s) (hP : va_P D vwCl (wf S) H) (hD : va_D A (wf S)) (hS : va_S A s.heap H locs) (hv : v = 0 ∨ v = 1) (h : post v S) (hc : cells ≤ mc) (hs : slots ≤ ms) (hdg : decode cc pc = .ok (.ireturn, 1)) :
    W p l e R s m args below meth c H locs cells slots (MQ below (va_Qi post (xAt D tys wf A) A) args s mc ms A) (F0 m pc ls [.int v]) :=
  W.widen hc hs (W.zret hx hb hr (by rcases hv with rfl | rfl <;> rfl) (fun t ht hW => ⟨⟨v, S, rfl, h, xr_q hK hP hD ht hW⟩, hS.F ht⟩) hS.2.2 hdg hlocks)
theorem xr_l {σ : Type} {wf : σ → va_W} {S : σ} {post : Int64 → σ → Prop} {v : Int64} (hx : p.tables.exec = Jvm.exec) (hb : c.code = cc) (hr : meth.sig.returnType = some .long) (hlocks : meth.locks = false) (hK : va_K D vwCl tys s) (hP : va_P D vwCl (wf S) H) (hD : va_D A (wf S)) (hS : va_S A s.heap H locs) (h : post v S) (hc : cells ≤ mc) (hs : slots ≤ ms) (hdg : decode cc pc = .ok (.lreturn, 1)) :
    W p l e R s m args below meth c H locs cells slots (MQ below (va_Ql post (xAt D tys wf A) A) args s mc ms A) (F0 m pc ls [.long v]) :=
  W.widen hc hs (W.lret hx hb hr (fun t ht hW => ⟨⟨v, S, rfl, h, xr_q hK hP hD ht hW⟩, hS.F ht⟩) hS.2.2 hdg hlocks)
theorem xr_v {σ : Type} {wf : σ → va_W} {S : σ} {post : σ → Prop} (hx : p.tables.exec = Jvm.exec) (hb : c.code = cc) (hr : meth.sig.returnType = none) (hlocks : meth.locks = false) (hK : va_K D vwCl tys s) (hP : va_P D vwCl (wf S) H) (hD : va_D A (wf S)) (hS : va_S A s.heap H locs) (h : post S) (hc : cells ≤ mc) (hs : slots ≤ ms) (hdg : decode cc pc = .ok (.return_, 1)) :
    W p l e R s m args below meth c H locs cells slots (MQ below (va_Qv post (xAt D tys wf A) A) args s mc ms A) (F0 m pc ls []) :=
  W.widen hc hs (W.vret hx hb hr (fun t ht hW => ⟨⟨S, rfl, h, xr_q hK hP hD ht hW⟩, hS.F ht⟩) hS.2.2 hdg hlocks)
/-- what stays the same in a method's body -/
def xG (p : Program) (s : State) (m : MethodId) (args : Array Value) (meth : Method) (c : Code) (cc : ByteArray) (nL : Nat) (own : String) (ret : Option FieldType) (Ts : List Cond) (D : va_G) (tys : List (ClassId × FieldType)) (r : Nat → Nat) (A : Nat → Prop) : Prop :=
  p.tables.exec = Jvm.exec ∧ c.code = cc ∧ c.maxLocals = nL ∧ s.vm.findClass own = some m.cls ∧ (∀ w ∈ Ts, w.before args s = true) ∧ meth.sig.returnType = ret ∧ meth.locks = false ∧ va_K D vwCl tys s ∧ ev r A s s.heap ∧ (∀ q, s.heap.size ≤ q → A q)
theorem xG.fix {nL : Nat} (g : xG p s m args meth c cc nL own ret Ts D tys r A) : CallFix p m c cc nL s args Ts own := ⟨g.1, g.2.1, g.2.2.1, g.2.2.2.1, g.2.2.2.2.1⟩
/-- the beginning of a body -/
theorem xG.of {wf : va_W} {sz : Nat} {s₁ : State} {ws' : List Cond} (hw : wc = Cond.code y cc maxL ret :: ws') (B : BodyLoose p l y (headSpec wc rm) cc maxL ret e s m args below meth c s₁) (hml : c.maxLocals = maxL) (hv : va_Pc av (xPre D tys r wf sz) args s) :
    args = av.toArray ∧ xG p s m args meth c cc maxL y.cls ret wc D tys r (va_A wf sz) ∧ va_P D vwCl wf s.heap ∧ va_D (va_A wf sz) wf ∧ va_S (va_A wf sz) s.heap s.heap [] := by
  obtain ⟨h1, h2, h3, h4, h5, h6⟩ := hv
  exact ⟨h1, ⟨B.exec, B.bytes, hml, findClass_of_methodNamed B.named, atoms_spec (ws := wc) B.pre, B.returns, B.notSynchronized, h4, h6, fun q h => Or.inr (by rw [← h2]; exact h)⟩, h3, h5.self, va_S.rf⟩
end XC
