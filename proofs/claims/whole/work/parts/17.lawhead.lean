/-! THE CLAIM OUT OF ONE WALK OF THE LAW'S BODY. Your part is whole_start (and what it stands on); all else here is the same for every law, but numbers. -/
def R_law : String := "CellMappingLaw"
def lw_P (b : Addr) (xs : List Int32) (args : Array Value) (s : State) : Prop := args = #[.ref b] ∧ s.IntsAt b xs ∧ xs.length ≤ 2048 ∧ (Jvm.Cond.and given_1 narrow_1).before args s = true
def lw_Q (_ : Array Value) (s : State) (o : Outcome) (t : State) : Prop := o = .returned (some (.int 1)) ∧ Framed s o t [] 601024 7293034
def lw_Z (below : List Frame) (a : Array Value) (s : State) : State → Prop := fun t => ∃ o, t.status = .running ∧ Ended t below o ∧ lw_Q a s o t
/-- the law's own end, with 1 on the stack, nothing written that was there before, its room as the claim has it -/
theorem lw_ret {p : Program} {l : Launch} {e : Env} {s : State} {m : MethodId} {below : List Frame} {meth : Method} {c : Code} {b : Nat} (hx : p.tables.exec = Jvm.exec) (hb : c.code = code) (hr : meth.sig.returnType = ret) (hlocks : meth.locks = false) {pc : Nat} {H : Heap} {ls : Array Slot} (hdg : decode code pc = .ok (.ireturn, 1)) : W p l e room_1 s m #[Value.ref b] below meth c H [] 601024 7293034 (lw_Z below #[Value.ref b] s) (F0 m pc ls [.int 1]) := by
  intro T hT X
  obtain ⟨fs, hret, hrun, hended, hW, hframe⟩ := X.leave (v := some (.int 1)) (hlocks := hlocks) (fun h => by rw [hr] at h; cases h)
  have hmeth' : T.vm.method? m = some meth := X.method'
  refine ⟨T.setFrames fs, ?_, .returned (some (.int 1)), hrun, hended, rfl, ⟨_, rfl⟩, hW, hframe⟩
  jvm_step X.here [X.here.top, hx, hb, hdg, hmeth', hr, ret, narrow_b1]
  (try refine ⟨rfl, ?_⟩); (try refine ⟨rfl, ?_⟩)
  first | (intro acts; rw [hret _ acts rfl rfl rfl]) | rw [hret _ _ rfl rfl rfl]
  exact Steps.refl _
/-- what holds at the law's entry: the machine, the code, the tables' words (any of lw_tbl by 'hts w (by decide +kernel)'), the script of L ints xs at the cell b, what the Statement gives of the start (any of its parts by flat_of_before) -/
def lw_At (p : Program) (s : State) (m : MethodId) (meth : Method) (c : Code) (b L : Nat) (xs : Nat → Int32) : Prop :=
  p.tables.exec = Jvm.exec ∧ c.code = code ∧ meth.sig.returnType = ret ∧ c.maxLocals = 8 ∧ s.vm.findClass R_law = some m.cls ∧ (∀ w ∈ lw_tbl, w.before #[Value.ref b] s = true) ∧ va_X b L xs s s.heap ∧ b < s.heap.size ∧ meth.locks = false ∧ (Jvm.Cond.and given_1 narrow_1).before #[Value.ref b] s = true
def wW (cyI cyJ cyZ : ClassId) (a : Nat → Nat) (q : Nat) (mb : Nat → Nat) (S : CS) (o : Nat → Int64) (M : MS) : va_W := wL cyI cyJ cyZ a q (S, o) ++ wM cyI cyJ cyZ mb M
/-- what stays the same in the law's body -/
def xLG (p : Program) (l : Launch) (s : State) (m : MethodId) (meth : Method) (c : Code) (b L : Nat) (xs : Nat → Int32) (dC : Nat → ClassId) (dI : Nat → Nat → Nat) (cyI cyJ cyZ : ClassId) (r : Nat → Nat) : Prop :=
  p.tables.exec = Jvm.exec ∧ c.code = code ∧ c.maxLocals = 8 ∧ s.vm.findClass RL = some m.cls ∧ (∀ w ∈ wsL_law, w.before #[Value.ref b] s = true) ∧ meth.sig.returnType = ret ∧ meth.locks = false ∧ va_K (dC, dI) vwCl (tyA cyI cyJ cyZ) s ∧ ev r (fun q : Nat => s.heap.size ≤ q) s s.heap ∧ va_X b L xs s s.heap ∧ b < s.heap.size ∧ l.stackTraces = false
theorem xsw_out19 {x : Int32} (h0 : ¬ x = 0) (h1 : ¬ x = 1) (h2 : ¬ x = 2) (h3 : ¬ x = 3) (h4 : ¬ x = 4) (h5 : ¬ x = 5) (h6 : ¬ x = 6) (h7 : ¬ x = 7) (h8 : ¬ x = 8) (h9 : ¬ x = 9) (h10 : ¬ x = 10) (h11 : ¬ x = 11) (h12 : ¬ x = 12) (h13 : ¬ x = 13) (h14 : ¬ x = 14) (h15 : ¬ x = 15) (h16 : ¬ x = 16) (h17 : ¬ x = 17) (h18 : ¬ x = 18) : x.toInt < 0 ∨ 18 < x.toInt := by
  have e0 := xsw_ne h0 (n := 0) (by decide)
  have e1 := xsw_ne h1 (n := 1) (by decide)
  have e2 := xsw_ne h2 (n := 2) (by decide)
  have e3 := xsw_ne h3 (n := 3) (by decide)
  have e4 := xsw_ne h4 (n := 4) (by decide)
  have e5 := xsw_ne h5 (n := 5) (by decide)
  have e6 := xsw_ne h6 (n := 6) (by decide)
  have e7 := xsw_ne h7 (n := 7) (by decide)
  have e8 := xsw_ne h8 (n := 8) (by decide)
  have e9 := xsw_ne h9 (n := 9) (by decide)
  have e10 := xsw_ne h10 (n := 10) (by decide)
  have e11 := xsw_ne h11 (n := 11) (by decide)
  have e12 := xsw_ne h12 (n := 12) (by decide)
  have e13 := xsw_ne h13 (n := 13) (by decide)
  have e14 := xsw_ne h14 (n := 14) (by decide)
  have e15 := xsw_ne h15 (n := 15) (by decide)
  have e16 := xsw_ne h16 (n := 16) (by decide)
  have e17 := xsw_ne h17 (n := 17) (by decide)
  have e18 := xsw_ne h18 (n := 18) (by decide)
  omega
section XTX
variable {p : Program} {l : Launch} {e : Env} {R : Room} {s : State} {m : MethodId} {args : Array Value} {below : List Frame} {meth : Method} {c : Code} {H : Heap} {locs : List Loc} {cells slots : Nat} {Q : State → Prop}
variable {pc : Nat} {ls : Array Slot} {rest st0 : List Value} {A : Nat → Prop} {D : va_G} {tys : List (ClassId × FieldType)} {r : Nat → Nat}
variable {y : MethodName} {bytes cc : ByteArray} {maxL nL mc ms n index : Nat} {ret : Option FieldType} {wc : List Cond} {rm : Room} {Ts : List Cond} {own C : String} {As : List Value}
/-- a static callee with a table of its own -/
theorem xt_SXi {hh : List (Nat × Nat × Nat × Nat)} {σ : Type} {wf : σ → va_W} {S : σ} {post : Int32 → σ → Prop} {px : String → σ → Prop} {ws wr : va_W} {isC isR : List Nat} (F : CallFix p m c cc nL s args Ts own) (hM : xXi l y wc rm D tys r wf As S post px mc ms) (cw : vx_CSW R s args own index y bytes maxL ret hh wc rm mc ms n)
    (hs : xSite D tys r A s H locs ws (wf S) wr isC isR) (hst : st0 = As.reverse ++ rest) (hn : As.length = n) (hsz : ls.size = nL) (hrm : (rest.map fun v => v.category).sum ≤ 8) (hdg : decode cc pc = .ok (.invokestatic index, 3)) (hf : cells + mc ≤ R.cells ∧ slots + ms ≤ R.slots)
    (kx : ∀ (E : String) (ce : Cell) (q : Addr) (u : σ) (H1 : Heap) (locs1 : List Loc), px E u → va_P D vwCl (wr ++ wf u) H1 → va_D A (wr ++ wf u) → va_S A s.heap H1 locs1 → H1[q]? = some ce → ce.vm = .none → s.vm.findClass E = some ce.cls → vx_W p l e R s m args below meth c H1 locs1 (cells + mc) (slots + ms) Q (F0 m pc ls rest) q)
    (kk : ∀ (x : Int32) (u : σ) (H1 : Heap) (locs1 : List Loc), post x u → va_P D vwCl (wr ++ wf u) H1 → va_D A (wr ++ wf u) → va_S A s.heap H1 locs1 → W p l e R s m args below meth c H1 locs1 (cells + mc) (slots + ms) Q (F0 m (pc + 3) ls (.int x :: rest))) : W p l e R s m args below meth c H locs cells slots Q (F0 m pc ls st0) := by
  subst hst
  refine vx_calli (vx_runSX (As := As) (rest := rest) F (hM H.size) cw hs.pre rfl hn hsz rfl (lv_room hrm) hdg hf) hs.2.2.2.2.2.1 (fun q _ h => hs.part.2.2 q h) hs.part.2.2 (fun q _ h => hs.part.2.2 q h) (fun E ce q u t H1 locs1 ht hvm _ hB hz hk hS hce hcv hcl => ?_) (fun x u t H1 locs1 ht hvm hw hB hz hk hS => ?_)
  · obtain ⟨hp, b1, b2, b3⟩ := hB
    rw [ht] at b1
    obtain ⟨c1, c2⟩ := hs.back hk b1 b3
    exact kx E ce q u H1 locs1 hp c1 c2 hS hce hcv hcl
  · obtain ⟨b1, b2, b3⟩ := hB
    rw [ht] at b1
    obtain ⟨c1, c2⟩ := hs.back hk b1 b3
    exact kk x u H1 locs1 hw c1 c2 hS
end XTX
