/-! 21 START: from the law's entry to its loop; by a program (wip/genstart.py) -/
theorem arrK {args : Array Value} {s : State} {ty : FieldType} (h : (Cond.arrayClass ty).before args s = true) : ∃ cA : ClassId, ArrOfT s cA ty ∧ s.vm.findClass ("[" ++ ty.toString) = some cA := by
  obtain ⟨c, k, comp, h1, h2, h3⟩ := Cond.arrayClass_spec h
  exact ⟨c, fun n z => ⟨fun k h => (by cases h), k, h2, comp, h3⟩, h1⟩
/-- a static table of ints, out of the Statement's premises -/
theorem ev1_of {args : Array Value} {s : State} {C n : String} {N : Nat} {f : Nat → Int32} {A : Nat → Prop} (hN : N < 2 ^ 31) (hl : (Cond.laysStatic C n "[I").before args s = true) (hini : (Cond.initialized C).before args s = true) (harr : (Cond.arrayOf (.static C n "[I") .int).before args s = true)
    (hlen : (Cond.eq (.length (.static C n "[I")) (.int (Int32.ofNat N))).before args s = true) (hel : ∀ j : Nat, j < N → (Cond.eq (.elem (.static C n "[I") (.int (Int32.ofNat j))) (.int (f j))).before args s = true) (hA : ∀ a : Nat, a < s.heap.size → ¬ A a) : ∃ q : Nat, ev1 C n q N f A s s.heap := by
  obtain ⟨t, ht, hT⟩ := va_Tof (ty := .int) (N := N) (f := fun j => .int (f j)) (A := A) hN harr (va_eqt hlen) (fun j hj => va_eqt (hel j hj)) hA
  exact ⟨t, va_Zref hl hini ht hA, hT⟩
set_option maxHeartbeats 2000000 in
set_option maxRecDepth 100000 in
theorem ev_start {s : State} {b : Nat} (hts : ∀ w ∈ lw_tbl, w.before #[Value.ref b] s = true) (hgv : (Jvm.Cond.and given_1 narrow_1).before #[Value.ref b] s = true) : ∃ r : Nat → Nat, ev r (fun q : Nat => s.heap.size ≤ q) s s.heap := by
  have hn := flat_of_before _ hgv
  have hA : ∀ a : Nat, a < s.heap.size → ¬ (fun q : Nat => s.heap.size ≤ q) a := fun a h => Nat.not_le.mpr h
  obtain ⟨e0, he0⟩ := ev1_of (C := "CellMapping$Shelf") (n := "ORDER_COUNT") (N := 4) (f := tOC) (A := fun q : Nat => s.heap.size ≤ q) (by decide) (hts _ (by decide +kernel)) (hts _ (by decide +kernel)) (hn _ (by decide +kernel)) (hn _ (by decide +kernel)) (fun j hj => by rcases (show j = 0 ∨ j = 1 ∨ j = 2 ∨ j = 3 by omega) with rfl | rfl | rfl | rfl <;> exact hn _ (by decide +kernel)) hA
  obtain ⟨e1, he1⟩ := ev1_of (C := "CellMapping$Shelf") (n := "ORDERS") (N := 18) (f := tOR) (A := fun q : Nat => s.heap.size ≤ q) (by decide) (hts _ (by decide +kernel)) (hts _ (by decide +kernel)) (hn _ (by decide +kernel)) (hn _ (by decide +kernel)) (fun j hj => by rcases (show j = 0 ∨ j = 1 ∨ j = 2 ∨ j = 3 ∨ j = 4 ∨ j = 5 ∨ j = 6 ∨ j = 7 ∨ j = 8 ∨ j = 9 ∨ j = 10 ∨ j = 11 ∨ j = 12 ∨ j = 13 ∨ j = 14 ∨ j = 15 ∨ j = 16 ∨ j = 17 by omega) with rfl | rfl | rfl | rfl | rfl | rfl | rfl | rfl | rfl | rfl | rfl | rfl | rfl | rfl | rfl | rfl | rfl | rfl <;> exact hn _ (by decide +kernel)) hA
  obtain ⟨e2, he2⟩ := ev1_of (C := "CellMapping$Tables") (n := "VARIABLE") (N := 3) (f := tVA) (A := fun q : Nat => s.heap.size ≤ q) (by decide) (hts _ (by decide +kernel)) (hts _ (by decide +kernel)) (hn _ (by decide +kernel)) (hn _ (by decide +kernel)) (fun j hj => by rcases (show j = 0 ∨ j = 1 ∨ j = 2 by omega) with rfl | rfl | rfl <;> exact hn _ (by decide +kernel)) hA
  refine ⟨fun k => if k = 0 then e0 else if k = 1 then e1 else e2, he0, he1, he2, vx_Zqof (hts _ (by decide +kernel)) (hts _ (by decide +kernel)) (hn _ (by decide +kernel)) hA, vx_Zqof (hts _ (by decide +kernel)) (hts _ (by decide +kernel)) (hn _ (by decide +kernel)) hA, ?_⟩
  exact ⟨cok.of (hts (.castable exI exI) (by decide +kernel)), cok.of (hts (.castable exS exS) (by decide +kernel)), cok.of (hts (.castable exA exA) (by decide +kernel)), va_Nc.of (hn _ (by decide +kernel)), va_Nc.of (hn _ (by decide +kernel)), va_Nc.of (hn _ (by decide +kernel)), va_Nw.of rfl (hts _ (by decide +kernel)), va_Nw.of rfl (hts _ (by decide +kernel)), va_Nw.of rfl (hts _ (by decide +kernel))⟩
set_option maxHeartbeats 2000000 in
set_option maxRecDepth 100000 in
theorem K_start {s : State} {b : Nat} (hts : ∀ w ∈ lw_tbl, w.before #[Value.ref b] s = true) : ∃ (dC : Nat → ClassId) (dI : Nat → Nat → Nat) (cyI cyJ cyZ : ClassId), va_K (dC, dI) vwCl (tyA cyI cyJ cyZ) s := by
  obtain ⟨c0, iS0, hKn0⟩ := u_known (C := RX0) (T := TX0) (N := 5) (n := 5) hts inX0 (hts (.instantiable RX0 5) (by decide +kernel))
  obtain ⟨c1, iS1, hKn1⟩ := u_known (C := RX1) (T := TX1) (N := 6) (n := 6) hts inX1 (hts (.instantiable RX1 6) (by decide +kernel))
  obtain ⟨c2, iS2, hKn2⟩ := u_known (C := RX2) (T := TX2) (N := 6) (n := 6) hts inX2 (hts (.instantiable RX2 6) (by decide +kernel))
  obtain ⟨c3, iS3, hKn3⟩ := u_known (C := RX3) (T := TX3) (N := 6) (n := 6) hts inX3 (hts (.instantiable RX3 6) (by decide +kernel))
  obtain ⟨c4, iS4, hKn4⟩ := u_known (C := RX5) (T := TX5) (N := 6) (n := 6) hts inX5 (hts (.instantiable RX5 6) (by decide +kernel))
  obtain ⟨c5, iS5, hKn5⟩ := u_known (C := RX6) (T := TX6) (N := 27) (n := 27) hts inX6 (hts (.instantiable RX6 27) (by decide +kernel))
  obtain ⟨cyI, a1, b1⟩ := arrK (hts (.arrayClass .int) (by decide +kernel))
  obtain ⟨cyJ, a2, b2⟩ := arrK (hts (.arrayClass .long) (by decide +kernel))
  obtain ⟨cyZ, a3, b3⟩ := arrK (hts (.arrayClass .boolean) (by decide +kernel))
  refine ⟨fun k => if k = 0 then c0 else if k = 1 then c1 else if k = 2 then c2 else if k = 3 then c3 else if k = 4 then c4 else c5, fun k => if k = 0 then iS0 else if k = 1 then iS1 else if k = 2 then iS2 else if k = 3 then iS3 else if k = 4 then iS4 else iS5, cyI, cyJ, cyZ, ?_, ?_⟩
  · intro k q hq
    match k, hq with
    | 0, hq => cases hq; exact hKn0
    | 1, hq => cases hq; exact hKn1
    | 2, hq => cases hq; exact hKn2
    | 3, hq => cases hq; exact hKn3
    | 4, hq => cases hq; exact hKn4
    | 5, hq => cases hq; exact hKn5
    | k + 6, hq => simp [vwCl] at hq
  · intro k q hq
    match k, hq with
    | 0, hq => cases hq; exact ⟨a1, b1⟩
    | 1, hq => cases hq; exact ⟨a2, b2⟩
    | 2, hq => cases hq; exact ⟨a3, b3⟩
    | k + 3, hq => simp [tyA] at hq
set_option maxHeartbeats 2000000 in
set_option maxRecDepth 100000 in
/-- the law from its entry, out of its predicate -/
theorem law_start {p : Program} {e : Env} {s : State} {m : MethodId} {below : List Frame} {meth : Method} {c : Code} (l : Launch) {b L : Nat} {xs : Nat → Int32} (hl0 : l.stackTraces = false) (C0 : lw_At p s m meth c b L xs) (hpure : ∀ q1 q2 : Nat, p_X6_clear mInit (fun M => p_law_23 xs L (cInit q1 q2) (fun _ => 0) M 0 43 121935)) : W p l e room_1 s m #[Value.ref b] below meth c s.heap [] 0 0 (lw_Z below #[Value.ref b] s) (entryFrame m ([Value.ref b] : List Value).toArray 8) := by
  obtain ⟨hx, hb, hr, hml, hown, hts0, hX, hbl, hlocks, hgv⟩ := id C0
  have hts : ∀ w ∈ wsL_law, w.before #[Value.ref b] s = true := fun w h => hts0 w (wsL_law_in w h)
  have hown : s.vm.findClass RL = some m.cls := hown
  obtain ⟨r, hE⟩ := ev_start hts0 hgv
  obtain ⟨dC, dI, cyI, cyJ, cyZ, hK⟩ := K_start hts0
  have hnest : nestOK s := ⟨va_Nw.of rfl (hts0 _ (by decide +kernel)), va_Nw.of rfl (hts0 _ (by decide +kernel))⟩
  have hA : ∀ q : Nat, s.heap.size ≤ q → (fun q : Nat => s.heap.size ≤ q) q := fun _ h => h
  have hS : va_S (fun q : Nat => s.heap.size ≤ q) s.heap s.heap [] := va_S.rf
  have hP : va_P (dC, dI) vwCl [] s.heap := fun k q h => by simp at h
  have hD : va_D (fun q : Nat => s.heap.size ≤ q) [] := ⟨fun i j p q h => by simp at h, fun k q h => by simp at h⟩
  have hl := lv_entry ([.ref b]) (n := 8) (Nat.le_of_ble_eq_true rfl)
  rw [lg_entry_eq]
  generalize (lg_sl ([.ref b]) ++ List.replicate (8 - (lg_sl ([.ref b])).length) Slot.unset).toArray = ls at hl ⊢
  have hl : lv_has ls 8 [(0, .ref b)] := hl
  refine va_new (ci := 4) (fs := [.null, .null, .null, .null, .null, .int 0]) (C := RX5) (T := TX5) (N := 6) hx hb hts (by exact inlX5) tyX5 tyX5_ok hown (hts (.classLink RL 8 RX5) (by decide +kernel)) (hts (.instantiable RX5 6) (by decide +kernel)) (hts (.initialized RX5) (by decide +kernel)) hK hP hD hS hA rfl (fun j hj => by rcases (show j = 0 ∨ j = 1 ∨ j = 2 ∨ j = 3 ∨ j = 4 ∨ j = 5 by omega) with rfl | rfl | rfl | rfl | rfl | rfl <;> rfl) (Nat.le_of_ble_eq_true rfl) (Nat.le_of_ble_eq_true rfl) dL_law_0 (fun h0 H hP hD hS => ?_)
  have hP : va_P (dC, dI) vwCl [(h0, .inr (4, [.null, .null, .null, .null, .null, .int 0]))] H := hP
  have hD : va_D (fun q : Nat => s.heap.size ≤ q) [(h0, .inr (4, [.null, .null, .null, .null, .null, .int 0]))] := hD
  refine W.cs (cells' := 1) (slots' := 6) rfl rfl ?_
  refine lv_dup hx hb dL_law_3 rfl ?_
  have hs : xSite (dC, dI) (tyA cyI cyJ cyZ) r (fun q : Nat => s.heap.size ≤ q) s H _ [(h0, .inr (4, [.null, .null, .null, .null, .null, .int 0]))] (wi_X5_init cyI cyJ cyZ h0 (.inl ())) [] [0] [] := ⟨hK, hE, hA, hP, hD, hS, rfl, rfl, rfl, rfl, by decide⟩
  refine va_callv (va_runI (As := []) (rest := [.ref h0]) ⟨hx, hb, hml, hown, hts⟩ (t_X5_init (l := l) (dC := dC) (dI := dI) (cyI := cyI) (cyJ := cyJ) (cyZ := cyZ) (r := r) (h0 := h0) H.size) (cwI 0 hts gL_law_X5_init rfl rfl rfl (hts (.initialized RX5) (by decide +kernel)) (hts (.methodLink RL 67 yX5_init) (by decide +kernel)) (hts (.instanceMethod yX5_init) (by decide +kernel)) rfl (by decide +kernel) ⟨Nat.le_of_ble_eq_true rfl, Nat.le_of_ble_eq_true rfl⟩)
    ⟨fun a U g mk hq => ⟨hq.1, (hs.pre (av := [.ref h0])).1 a U g mk ⟨hq.1, hq.2.1⟩ |>.2, va_Nw.same rfl rfl hq.2.2.1, va_Nw.same rfl rfl hq.2.2.2⟩, fun U hU hW => ⟨rfl, ((hs.pre (av := [.ref h0])).2 U hU hW).2, va_Nw.warmM hW hnest.1, va_Nw.warmM hW hnest.2⟩⟩ rfl rfl hl.1 rfl (lv_room (Nat.le_of_ble_eq_true rfl)) dL_law_4 ⟨Nat.le_of_ble_eq_true rfl, Nat.le_of_ble_eq_true rfl⟩) hS (fun q _ h => hs.part.2.2 q h) hs.part.2.2 (fun u t H1 locs ht hvm hw hB hz hk hS => ?_)
  obtain ⟨a, q1, q2, ha, rfl⟩ := hw
  obtain ⟨b1, b2, b3⟩ := hB
  rw [ht] at b1
  obtain ⟨hP, hD⟩ := hs.back hk b1 b3
  generalize H1 = H at hP hS ⊢
  subst ha
  have hP : va_P (dC, dI) vwCl (wC cyI cyJ cyZ a (cInit q1 q2)) H := hP
  have hD : va_D (fun q : Nat => s.heap.size ≤ q) (wC cyI cyJ cyZ a (cInit q1 q2)) := hD
  refine W.cs (cells' := 21) (slots' := 1175) rfl rfl ?_
  refine lv_astore_n (lv' := [(1, .ref (a 0)), (0, .ref b)]) hx hb dL_law_7 rfl hl (by decide) rfl (fun ls hl => ?_)
  generalize hSi : cInit q1 q2 = S0 at hP hD
  refine va_new (ci := 5) (fs := [.int 0, .int 0, .int 0, .int 0, .null, .null, .null, .null, .int 0, .null, .int 0, .null, .null, .null, .null, .null, .null, .null, .int 0, .null, .null, .null, .null, .null, .null, .null, .null]) (C := RX6) (T := TX6) (N := 27) hx hb hts (by exact inlX6) tyX6 tyX6_ok hown (hts (.classLink RL 68 RX6) (by decide +kernel)) (hts (.instantiable RX6 27) (by decide +kernel)) (hts (.initialized RX6) (by decide +kernel)) hK hP hD hS hA rfl (fun j hj => by rcases (show j = 0 ∨ j = 1 ∨ j = 2 ∨ j = 3 ∨ j = 4 ∨ j = 5 ∨ j = 6 ∨ j = 7 ∨ j = 8 ∨ j = 9 ∨ j = 10 ∨ j = 11 ∨ j = 12 ∨ j = 13 ∨ j = 14 ∨ j = 15 ∨ j = 16 ∨ j = 17 ∨ j = 18 ∨ j = 19 ∨ j = 20 ∨ j = 21 ∨ j = 22 ∨ j = 23 ∨ j = 24 ∨ j = 25 ∨ j = 26 by omega) with rfl | rfl | rfl | rfl | rfl | rfl | rfl | rfl | rfl | rfl | rfl | rfl | rfl | rfl | rfl | rfl | rfl | rfl | rfl | rfl | rfl | rfl | rfl | rfl | rfl | rfl | rfl <;> rfl) (Nat.le_of_ble_eq_true rfl) (Nat.le_of_ble_eq_true rfl) dL_law_8 (fun h1 H hP hD hS => ?_)
  have hP : va_P (dC, dI) vwCl (wC cyI cyJ cyZ a S0 ++ [(h1, .inr (5, [.int 0, .int 0, .int 0, .int 0, .null, .null, .null, .null, .int 0, .null, .int 0, .null, .null, .null, .null, .null, .null, .null, .int 0, .null, .null, .null, .null, .null, .null, .null, .null]))]) H := hP
  have hD : va_D (fun q : Nat => s.heap.size ≤ q) (wC cyI cyJ cyZ a S0 ++ [(h1, .inr (5, [.int 0, .int 0, .int 0, .int 0, .null, .null, .null, .null, .int 0, .null, .int 0, .null, .null, .null, .null, .null, .null, .null, .int 0, .null, .null, .null, .null, .null, .null, .null, .null]))]) := hD
  refine W.cs (cells' := 22) (slots' := 1202) rfl rfl ?_
  refine lv_dup hx hb dL_law_11 rfl ?_
  refine xc_Iv (wf := wi_X6_init cyI cyJ cyZ h1) (S := .inl ()) (wr := wC cyI cyJ cyZ a S0) (isC := [21]) (isR := [0, 1, 2, 3, 4, 5, 6, 7, 8, 9, 10, 11, 12, 13, 14, 15, 16, 17, 18, 19, 20]) (As := []) (rest := [.ref h1]) ⟨hx, hb, hml, hown, hts⟩ (t_X6_init (hpure q1 q2)) (cwI 0 hts gL_law_X6_init rfl rfl rfl (hts (.initialized RX6) (by decide +kernel)) (hts (.methodLink RL 70 yX6_init) (by decide +kernel)) (hts (.instanceMethod yX6_init) (by decide +kernel)) rfl (by decide +kernel) ⟨Nat.le_of_ble_eq_true rfl, Nat.le_of_ble_eq_true rfl⟩) ⟨hK, hE, hA, hP, hD, hS, rfl, rfl, rfl, rfl, by decide⟩ rfl rfl hl.1 (Nat.le_of_ble_eq_true rfl) dL_law_12 ⟨Nat.le_of_ble_eq_true rfl, Nat.le_of_ble_eq_true rfl⟩ (fun u H locs h hP hD hS => ?_)
  obtain ⟨mb, M, hmb, rfl, h⟩ := h
  subst hmb
  have hP : va_P (dC, dI) vwCl (wC cyI cyJ cyZ a S0 ++ wM cyI cyJ cyZ mb M) H := hP
  have hD : va_D (fun q : Nat => s.heap.size ≤ q) (wC cyI cyJ cyZ a S0 ++ wM cyI cyJ cyZ mb M) := hD
  refine W.cs (cells' := 42) (slots' := 121934) rfl rfl ?_
  refine lv_astore_n (lv' := [(2, .ref (mb 0)), (1, .ref (a 0)), (0, .ref b)]) hx hb dL_law_15 rfl hl (by decide) rfl (fun ls hl => ?_)
  refine lv_iconst (v := 1) hx hb dL_law_16 (by decide) ?_
  refine va_newa (D := (dC, dI)) (atype := .long) (N' := 1) (a0 := (1, .inr (.inl (fun _ => 0)))) hx hb (hts (.arrayClass .long) (by decide +kernel)) (ty := .long) rfl hK hP hD hS hA (fun _ => rfl) (by decide) (by decide) (by decide +kernel) (Nat.le_of_ble_eq_true rfl) (Nat.le_of_ble_eq_true rfl) dL_law_17 (fun q cA H hK1 hP hD hS => ?_)
  have hcA := xa_same_long hK1
  subst hcA
  refine W.cs (cells' := 43) (slots' := 121935) rfl rfl ?_
  have hP : va_P (dC, dI) vwCl (wW cyI cyJ cyZ a q mb S0 (fun _ => 0) M) H := hP.sub [0, 1, 2, 3, 4, 5, 6, 7, 8, 9, 10, 11, 12, 13, 14, 15, 16, 17, 18, 19, 20, 42, 21, 22, 23, 24, 25, 26, 27, 28, 29, 30, 31, 32, 33, 34, 35, 36, 37, 38, 39, 40, 41] rfl
  have hD : va_D (fun q : Nat => s.heap.size ≤ q) (wW cyI cyJ cyZ a q mb S0 (fun _ => 0) M) := hD.sub [0, 1, 2, 3, 4, 5, 6, 7, 8, 9, 10, 11, 12, 13, 14, 15, 16, 17, 18, 19, 20, 42, 21, 22, 23, 24, 25, 26, 27, 28, 29, 30, 31, 32, 33, 34, 35, 36, 37, 38, 39, 40, 41] (by decide) rfl
  refine lv_astore_n (lv' := [(3, .ref q), (2, .ref (mb 0)), (1, .ref (a 0)), (0, .ref b)]) hx hb dL_law_19 rfl hl (by decide) rfl (fun ls hl => ?_)
  refine lv_iconst (v := 0) hx hb dL_law_20 (by decide) ?_
  refine lv_istore (lv' := [(4, .int 0), (3, .ref q), (2, .ref (mb 0)), (1, .ref (a 0)), (0, .ref b)]) hx hb dL_law_21 hl (by decide) rfl (fun ls hl => ?_)
  rw [hSi] at h
  exact t_law_23 ⟨hx, hb, hml, hown, hts, hr, hlocks, hK, hE, hX, hbl, hl0⟩ h ⟨Nat.le_of_ble_eq_true rfl, Nat.le_of_ble_eq_true rfl⟩ hP hD hS (lv_sub hl [4, 3, 2, 1, 0] rfl)
