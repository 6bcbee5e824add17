/-! 05 THROW: contracts that may throw, called and thrown, in the uniform form -/
section XT
variable {p : Program} {l : Launch} {e : Env} {R : Room} {s : State} {m : MethodId} {args : Array Value} {below : List Frame} {meth : Method} {c : Code} {H : Heap} {locs : List Loc} {cells slots : Nat} {Q : State → Prop}
variable {pc : Nat} {ls : Array Slot} {rest st0 : List Value} {A : Nat → Prop} {D : va_G} {tys : List (ClassId × FieldType)} {r : Nat → Nat}
variable {y : MethodName} {bytes cc : ByteArray} {maxL nL mc ms n index : Nat} {ret : Option FieldType} {wc : List Cond} {rm : Room} {Ts : List Cond} {own C : String} {b : Addr} {As : List Value} {av : List Value}
/-- what is thrown, and the world then -/
theorem xx_out {σ : Type} {wf : σ → va_W} {S : σ} {px : String → σ → Prop} {E : String} (hK : va_K D vwCl tys s) (hP : va_P D vwCl (wf S) H) (hD : va_D A (wf S)) (hS : va_S A s.heap H locs) (h : px E S) (t : State) (hvm : s.vm.Alike t.vm) (hz : H.size ≤ t.heap.size) (hk : ∀ q : Nat, q < H.size → t.heap[q]? = H[q]?) :
    vx_X (fun _ : σ => True) (xAtX D tys wf A px) A E s t :=
  ⟨S, trivial, ⟨h, hP.kept (fun k q hq => hk q.1 ((hP k q hq).lt)), va_K.moved hvm hK, hD⟩, Nat.le_trans hS.1 hz, fun q h1 h2 => (hk q (Nat.lt_of_lt_of_le h1 hS.1)).trans (hS.2.1 q h1 h2)⟩
/-- what a callee threw goes on to the caller -/
theorem xx_pass {σ : Type} {wf : σ → va_W} {S : σ} {px : String → σ → Prop} {Qc : Array Value → State → Outcome → State → Prop} {E : String} {ce : Cell} {q : Addr} (ht : ∀ x ∈ c.exceptionTable.toList, False) (hlocks : meth.locks = false) (hK : va_K D vwCl tys s) (hP : va_P D vwCl (wf S) H) (hD : va_D A (wf S)) (hS : va_S A s.heap H locs) (h : px E S)
    (hce : H[q]? = some ce) (hcv : ce.vm = .none) (hcl : s.vm.findClass E = some ce.cls) (hc : cells ≤ mc) (hs : slots ≤ ms) :
    vx_W p l e R s m args below meth c H locs cells slots (vx_MQ below Qc (vx_X (fun _ : σ => True) (xAtX D tys wf A px) A) args s mc ms A) (F0 m pc ls rest) q :=
  vx_out (fun x hx => (ht x hx).elim) hlocks hce hcv hcl (fun t e1 hvm => xx_out hK hP hD hS h t hvm (by rw [e1]; exact Nat.le_refl _) (fun q _ => by rw [e1])) hS.2.2 hc hs
theorem xt_Vi {σ : Type} {wf : σ → va_W} {S : σ} {post : Int32 → σ → Prop} {px : String → σ → Prop} {ws wr : va_W} {isC isR : List Nat} (F : CallFix p m c cc nL s args Ts own) (hM : xXi l y wc rm D tys r wf (.ref b :: As) S post px mc ms) (cw : CallW R s args own C index y bytes maxL ret wc rm mc ms n)
    (hs : xSite D tys r A s H locs ws (wf S) wr isC isR) (hrc : xRcv (wf S) C b) (hst : st0 = As.reverse ++ .ref b :: rest) (hn : As.length = n) (hsz : ls.size = nL) (hrm : (rest.map fun v => v.category).sum ≤ 8) (hdg : decode cc pc = .ok (.invokevirtual index, 3)) (hf : cells + mc ≤ R.cells ∧ slots + ms ≤ R.slots)
    (kx : ∀ (E : String) (ce : Cell) (q : Addr) (u : σ) (H1 : Heap) (locs1 : List Loc), px E u → va_P D vwCl (wr ++ wf u) H1 → va_D A (wr ++ wf u) → va_S A s.heap H1 locs1 → H1[q]? = some ce → ce.vm = .none → s.vm.findClass E = some ce.cls → vx_W p l e R s m args below meth c H1 locs1 (cells + mc) (slots + ms) Q (F0 m pc ls rest) q)
    (kk : ∀ (x : Int32) (u : σ) (H1 : Heap) (locs1 : List Loc), post x u → va_P D vwCl (wr ++ wf u) H1 → va_D A (wr ++ wf u) → va_S A s.heap H1 locs1 → W p l e R s m args below meth c H1 locs1 (cells + mc) (slots + ms) Q (F0 m (pc + 3) ls (.int x :: rest))) : W p l e R s m args below meth c H locs cells slots Q (F0 m pc ls st0) := by
  subst hst
  refine vx_calli (vx_runV (As := As) (rest := rest) F (hM H.size) cw ⟨hs.pre.1, xRcv.pre hs hrc, hs.pre.2⟩ rfl hn hsz rfl (lv_room hrm) hdg hf) hs.2.2.2.2.2.1 (fun q _ h => hs.part.2.2 q h) hs.part.2.2 (fun q _ h => hs.part.2.2 q h) (fun E ce q u t H1 locs1 ht hvm _ hB hz hk hS hce hcv hcl => ?_) (fun x u t H1 locs1 ht hvm hw hB hz hk hS => ?_)
  · obtain ⟨hp, b1, b2, b3⟩ := hB
    rw [ht] at b1
    obtain ⟨c1, c2⟩ := hs.back hk b1 b3
    exact kx E ce q u H1 locs1 hp c1 c2 hS hce hcv hcl
  · obtain ⟨b1, b2, b3⟩ := hB
    rw [ht] at b1
    obtain ⟨c1, c2⟩ := hs.back hk b1 b3
    exact kk x u H1 locs1 hw c1 c2 hS
theorem xt_Vl {σ : Type} {wf : σ → va_W} {S : σ} {post : Int64 → σ → Prop} {px : String → σ → Prop} {ws wr : va_W} {isC isR : List Nat} (F : CallFix p m c cc nL s args Ts own) (hM : xXl l y wc rm D tys r wf (.ref b :: As) S post px mc ms) (cw : CallW R s args own C index y bytes maxL ret wc rm mc ms n)
    (hs : xSite D tys r A s H locs ws (wf S) wr isC isR) (hrc : xRcv (wf S) C b) (hst : st0 = As.reverse ++ .ref b :: rest) (hn : As.length = n) (hsz : ls.size = nL) (hrm : (rest.map fun v => v.category).sum ≤ 8) (hdg : decode cc pc = .ok (.invokevirtual index, 3)) (hf : cells + mc ≤ R.cells ∧ slots + ms ≤ R.slots)
    (kx : ∀ (E : String) (ce : Cell) (q : Addr) (u : σ) (H1 : Heap) (locs1 : List Loc), px E u → va_P D vwCl (wr ++ wf u) H1 → va_D A (wr ++ wf u) → va_S A s.heap H1 locs1 → H1[q]? = some ce → ce.vm = .none → s.vm.findClass E = some ce.cls → vx_W p l e R s m args below meth c H1 locs1 (cells + mc) (slots + ms) Q (F0 m pc ls rest) q)
    (kk : ∀ (x : Int64) (u : σ) (H1 : Heap) (locs1 : List Loc), post x u → va_P D vwCl (wr ++ wf u) H1 → va_D A (wr ++ wf u) → va_S A s.heap H1 locs1 → W p l e R s m args below meth c H1 locs1 (cells + mc) (slots + ms) Q (F0 m (pc + 3) ls (.long x :: rest))) : W p l e R s m args below meth c H locs cells slots Q (F0 m pc ls st0) := by
  subst hst
  refine vx_calll (vx_runV (As := As) (rest := rest) F (hM H.size) cw ⟨hs.pre.1, xRcv.pre hs hrc, hs.pre.2⟩ rfl hn hsz rfl (lv_room hrm) hdg hf) hs.2.2.2.2.2.1 (fun q _ h => hs.part.2.2 q h) hs.part.2.2 (fun q _ h => hs.part.2.2 q h) (fun E ce q u t H1 locs1 ht hvm _ hB hz hk hS hce hcv hcl => ?_) (fun x u t H1 locs1 ht hvm hw hB hz hk hS => ?_)
  · obtain ⟨hp, b1, b2, b3⟩ := hB
    rw [ht] at b1
    obtain ⟨c1, c2⟩ := hs.back hk b1 b3
    exact kx E ce q u H1 locs1 hp c1 c2 hS hce hcv hcl
  · obtain ⟨b1, b2, b3⟩ := hB
    rw [ht] at b1
    obtain ⟨c1, c2⟩ := hs.back hk b1 b3
    exact kk x u H1 locs1 hw c1 c2 hS
theorem xt_Vv {σ : Type} {wf : σ → va_W} {S : σ} {post : σ → Prop} {px : String → σ → Prop} {ws wr : va_W} {isC isR : List Nat} (F : CallFix p m c cc nL s args Ts own) (hM : xXv l y wc rm D tys r wf (.ref b :: As) S post px mc ms) (cw : CallW R s args own C index y bytes maxL ret wc rm mc ms n)
    (hs : xSite D tys r A s H locs ws (wf S) wr isC isR) (hrc : xRcv (wf S) C b) (hst : st0 = As.reverse ++ .ref b :: rest) (hn : As.length = n) (hsz : ls.size = nL) (hrm : (rest.map fun v => v.category).sum ≤ 8) (hdg : decode cc pc = .ok (.invokevirtual index, 3)) (hf : cells + mc ≤ R.cells ∧ slots + ms ≤ R.slots)
    (kx : ∀ (E : String) (ce : Cell) (q : Addr) (u : σ) (H1 : Heap) (locs1 : List Loc), px E u → va_P D vwCl (wr ++ wf u) H1 → va_D A (wr ++ wf u) → va_S A s.heap H1 locs1 → H1[q]? = some ce → ce.vm = .none → s.vm.findClass E = some ce.cls → vx_W p l e R s m args below meth c H1 locs1 (cells + mc) (slots + ms) Q (F0 m pc ls rest) q)
    (kk : ∀ (u : σ) (H1 : Heap) (locs1 : List Loc), post u → va_P D vwCl (wr ++ wf u) H1 → va_D A (wr ++ wf u) → va_S A s.heap H1 locs1 → W p l e R s m args below meth c H1 locs1 (cells + mc) (slots + ms) Q (F0 m (pc + 3) ls rest)) : W p l e R s m args below meth c H locs cells slots Q (F0 m pc ls st0) := by
  subst hst
  refine vx_callv (vx_runV (As := As) (rest := rest) F (hM H.size) cw ⟨hs.pre.1, xRcv.pre hs hrc, hs.pre.2⟩ rfl hn hsz rfl (lv_room hrm) hdg hf) hs.2.2.2.2.2.1 (fun q _ h => hs.part.2.2 q h) hs.part.2.2 (fun q _ h => hs.part.2.2 q h) (fun E ce q u t H1 locs1 ht hvm _ hB hz hk hS hce hcv hcl => ?_) (fun u t H1 locs1 ht hvm hw hB hz hk hS => ?_)
  · obtain ⟨hp, b1, b2, b3⟩ := hB
    rw [ht] at b1
    obtain ⟨c1, c2⟩ := hs.back hk b1 b3
    exact kx E ce q u H1 locs1 hp c1 c2 hS hce hcv hcl
  · obtain ⟨b1, b2, b3⟩ := hB
    rw [ht] at b1
    obtain ⟨c1, c2⟩ := hs.back hk b1 b3
    exact kk u H1 locs1 hw c1 c2 hS
theorem xt_Sv {σ : Type} {wf : σ → va_W} {S : σ} {post : σ → Prop} {px : String → σ → Prop} {ws wr : va_W} {isC isR : List Nat} (F : CallFix p m c cc nL s args Ts own) (hM : xXv l y wc rm D tys r wf As S post px mc ms) (cw : CallB R s args own index y bytes maxL ret wc rm mc ms n ∧ (Cond.static y).before args s = true)
    (hs : xSite D tys r A s H locs ws (wf S) wr isC isR) (hst : st0 = As.reverse ++ rest) (hn : As.length = n) (hsz : ls.size = nL) (hrm : (rest.map fun v => v.category).sum ≤ 8) (hdg : decode cc pc = .ok (.invokestatic index, 3)) (hf : cells + mc ≤ R.cells ∧ slots + ms ≤ R.slots)
    (kx : ∀ (E : String) (ce : Cell) (q : Addr) (u : σ) (H1 : Heap) (locs1 : List Loc), px E u → va_P D vwCl (wr ++ wf u) H1 → va_D A (wr ++ wf u) → va_S A s.heap H1 locs1 → H1[q]? = some ce → ce.vm = .none → s.vm.findClass E = some ce.cls → vx_W p l e R s m args below meth c H1 locs1 (cells + mc) (slots + ms) Q (F0 m pc ls rest) q)
    (kk : ∀ (u : σ) (H1 : Heap) (locs1 : List Loc), post u → va_P D vwCl (wr ++ wf u) H1 → va_D A (wr ++ wf u) → va_S A s.heap H1 locs1 → W p l e R s m args below meth c H1 locs1 (cells + mc) (slots + ms) Q (F0 m (pc + 3) ls rest)) : W p l e R s m args below meth c H locs cells slots Q (F0 m pc ls st0) := by
  subst hst
  refine vx_callv (vx_runS (As := As) (rest := rest) F (hM H.size) cw hs.pre rfl hn hsz rfl (lv_room hrm) hdg hf) hs.2.2.2.2.2.1 (fun q _ h => hs.part.2.2 q h) hs.part.2.2 (fun q _ h => hs.part.2.2 q h) (fun E ce q u t H1 locs1 ht hvm _ hB hz hk hS hce hcv hcl => ?_) (fun u t H1 locs1 ht hvm hw hB hz hk hS => ?_)
  · obtain ⟨hp, b1, b2, b3⟩ := hB
    rw [ht] at b1
    obtain ⟨c1, c2⟩ := hs.back hk b1 b3
    exact kx E ce q u H1 locs1 hp c1 c2 hS hce hcv hcl
  · obtain ⟨b1, b2, b3⟩ := hB
    rw [ht] at b1
    obtain ⟨c1, c2⟩ := hs.back hk b1 b3
    exact kk u H1 locs1 hw c1 c2 hS
/-- a static callee in the rest of the worlds: void -/
theorem xc_Sv {σ : Type} {wf : σ → va_W} {S : σ} {post : σ → Prop} {ws wr : va_W} {isC isR : List Nat} (F : CallFix p m c cc nL s args Ts own) (hM : xMv l y wc rm D tys r wf As S post mc ms) (cw : CallB R s args own index y bytes maxL ret wc rm mc ms n ∧ (Cond.static y).before args s = true)
    (hs : xSite D tys r A s H locs ws (wf S) wr isC isR) (hst : st0 = As.reverse ++ rest) (hn : As.length = n) (hsz : ls.size = nL) (hrm : (rest.map fun v => v.category).sum ≤ 8) (hdg : decode cc pc = .ok (.invokestatic index, 3)) (hf : cells + mc ≤ R.cells ∧ slots + ms ≤ R.slots)
    (kk : ∀ (u : σ) (H1 : Heap) (locs1 : List Loc), post u → va_P D vwCl (wr ++ wf u) H1 → va_D A (wr ++ wf u) → va_S A s.heap H1 locs1 → W p l e R s m args below meth c H1 locs1 (cells + mc) (slots + ms) Q (F0 m (pc + 3) ls rest)) : W p l e R s m args below meth c H locs cells slots Q (F0 m pc ls st0) := by
  subst hst
  refine va_callv (va_runS (As := As) (rest := rest) F (hM H.size) cw hs.pre rfl hn hsz rfl (lv_room hrm) hdg hf) hs.2.2.2.2.2.1 (fun q _ h => hs.part.2.2 q h) hs.part.2.2 (fun u t H1 locs1 ht hvm hw hB hz hk hS => ?_)
  obtain ⟨b1, b2, b3⟩ := hB
  rw [ht] at b1
  obtain ⟨c1, c2⟩ := hs.back hk b1 b3
  exact kk u H1 locs1 hw c1 c2 hS
/-- 'throw new E()' -/
theorem xx_throw {σ : Type} {wf : σ → va_W} {S : σ} {px : String → σ → Prop} {Qc : Array Value → State → Outcome → State → Prop} {cls : String} {names : List String} {ik ic : Nat} (hx : p.tables.exec = Jvm.exec) (hb : c.code = cc) (hl : l.stackTraces = false) (hown : s.vm.findClass own = some m.cls) (hcls : Bundle.fit cls = true) (hnames : ∀ n ∈ names, Bundle.fit n = true)
    (hts : ∀ w ∈ Ts, w.before args s = true) (hk : Cond.classLink own ik cls ∈ Ts) (hini : Cond.initialized cls ∈ Ts) (hat : ∀ w ∈ (vx_at0 own ic cls names).filter goodWord, w ∈ Ts) (hat2 : ∀ w ∈ (vx_at0 own ic cls names).filter (fun w => !goodWord w), w ∈ [Cond.castable cls cls, Cond.declares (Bundle.init0 "java/lang/RuntimeException"), Cond.declares (Bundle.init0 "java/lang/Exception"), Cond.declares (Bundle.init0 Bundle.tN)]) (hgood : (Cond.classLink own ik cls :: Cond.initialized cls :: vx_at0 own ic cls names).all vx_ot = true)
    (hcok : cok cls s) (hE : ev r A s s.heap) (hK : va_K D vwCl tys s) (hP : va_P D vwCl (wf S) H) (hD : va_D A (wf S)) (hS : va_S A s.heap H locs) (hsize : ls.size = c.maxLocals)
    (d0 : decode cc pc = .ok (.new ik, 3)) (d3 : decode cc (pc + 3) = .ok (.dup, 1)) (d4 : decode cc (pc + 4) = .ok (.invokespecial ic, 3)) (d7 : decode cc (pc + 7) = .ok (.athrow, 1)) (ht : ∀ x ∈ c.exceptionTable.toList, False)
    (hRf : names.length + 3 < R.frames) (hRl : (rest.map fun v => v.category).sum + (13 * (names.length + 1) + 42) ≤ R.locals) (hRc : cells + 1 ≤ R.cells) (hRs : slots + 6 ≤ R.slots) (hlocks : meth.locks = false) (h : px cls S) (hc : cells + 1 ≤ mc) (hs : slots + 6 ≤ ms) :
    W p l e R s m args below meth c H locs cells slots (vx_MQ below Qc (vx_X (fun _ : σ => True) (xAtX D tys wf A px) A) args s mc ms A) (F0 m pc ls rest) :=
  vx_throw0 hx hb hl hown hcls hnames (hts _ hk) (hts _ hini) (vx_hat (fun w hw => hts w (hat w hw)) hat2 (vx_c hcok.word (vx_c (va_Nw.use rfl hE.2.2.2.2.2.2.2.2.2.2.2.1) (vx_c (va_Nw.use rfl hE.2.2.2.2.2.2.2.2.2.2.2.2.1) (vx_c (va_Nw.use rfl hE.2.2.2.2.2.2.2.2.2.2.2.2.2) vx_n))))) (fun w hw => List.all_eq_true.mp hgood w hw) hE.2.2.2.1 hE.2.2.2.2.1 hS hsize d0 d3 d4 d7 (fun x hx => (ht x hx).elim) hRf hRl hRc hRs hlocks
    (fun t hvm hz hk => xx_out hK hP hD hS h t hvm hz hk) hS.2.2 hc hs
end XT
theorem xsw_ne {x k : Int32} {n : Int} (h : ¬ x = k) (hk : k.toInt = n) : x.toInt ≠ n := fun q => h (Int32.toInt_inj.mp (q.trans hk.symm))
theorem xsw_out {x : Int32} (h0 : ¬ x = 0) (h1 : ¬ x = 1) (h2 : ¬ x = 2) (h3 : ¬ x = 3) : x.toInt < 0 ∨ 3 < x.toInt := by
  have e0 := xsw_ne h0 (n := 0) (by decide)
  have e1 := xsw_ne h1 (n := 1) (by decide)
  have e2 := xsw_ne h2 (n := 2) (by decide)
  have e3 := xsw_ne h3 (n := 3) (by decide)
  omega
