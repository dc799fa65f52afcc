
set_option maxHeartbeats 4000000 in
set_option maxRecDepth 100000 in
/-- the law's loop over the pool that the makers leave -/
theorem ws_end {p : Program} {l : Launch} {e : Env} {s : State} {m : MethodId} {below : List Frame} {meth : Method} {c : Code} {D : va_G} {cI cJ cZ cV cR : ClassId} {b L : Nat} {xs : Nat → Int32} (hL : L ≤ 4096) (F : LF p l s m c D cI cJ cZ cV cR b L xs (fun q : Nat => s.heap.size ≤ q)) (hr : meth.sig.returnType = ret) (hlocks : meth.locks = false) (G0 F3 : Nat → va_E) (q1 e1 e2 e3 e4 e5 e6 e7 e8 e9 e10 e11 e12 e13 e14 e15 e16 e17 e18 e19 q2 f1 f2 f3 f4 f5 f6 f7 f8 f9 f10 f11 f12 f13 f14 f15 f16 f17 f18 f19 f20 f21 f22 f23 q3 : Nat) (h0 : F3 q1 = .inr (5, [.ref (e1), .ref (e8), .ref (e11), .ref (e17), .int (nI (0)), .ref (e18), .int (nI (0)), .ref (e19), .int (nI (0)), .int (nI (0))])) (h1 : F3 e1 = .inr (3, [.ref (e2), .ref (e3), .ref (e4), .ref (e5), .ref (e6), .ref (e7), .int (nI (0)), .int (nI (0))])) (h2 : F3 e2 = .inl (cJ, 300, .inr (.inl (fun _ => 0)))) (h3 : F3 e3 = .inl (cJ, 300, .inr (.inl (fun _ => 0)))) (h4 : F3 e4 = .inl (cJ, 300, .inr (.inl (fun _ => 0)))) (h5 : F3 e5 = .inl (cI, 300, .inl (fun j => nI ((fun _ => 0) j)))) (h6 : F3 e6 = .inl (cI, 300, .inl (fun j => nI ((fun _ => 0) j)))) (h7 : F3 e7 = .inl (cZ, 300, .inl (fun j => bI ((fun _ => false) j)))) (h8 : F3 e8 = .inr (2, [.ref (e9), .ref (e10), .int (nI (0))])) (h9 : F3 e9 = .inl (cI, 40, .inl (fun j => nI ((fun _ => 0) j)))) (h10 : F3 e10 = .inl (cI, 40, .inl (fun j => nI ((fun _ => 0) j)))) (h11 : F3 e11 = .inr (0, [.ref (e1), .ref (e12), .ref (e13), .ref (e14), .ref (e15), .ref (e16), .int (nI (0))])) (h12 : F3 e12 = .inl (cI, 300, .inl (fun j => nI ((fun _ => 0) j)))) (h13 : F3 e13 = .inl (cI, 300, .inl (fun j => nI ((fun _ => 0) j)))) (h14 : F3 e14 = .inl (cJ, 300, .inr (.inl (fun _ => 0)))) (h15 : F3 e15 = .inl (cZ, 300, .inl (fun j => bI ((fun _ => false) j)))) (h16 : F3 e16 = .inl (cI, 300, .inl (fun j => nI ((fun _ => 0) j)))) (h17 : F3 e17 = .inl (cV, 30, .inr (.inr (.inr (.inr (fun _ => none)))))) (h18 : F3 e18 = .inl (cR, 60, .inr (.inr (.inr (.inr (fun _ => none)))))) (h19 : F3 e19 = .inl (cI, 50, .inl (fun j => nI ((fun _ => 0) j)))) (h20 : F3 q2 = .inr (6, [.int (nI (0)), .int (nI (0)), .ref (f1), .ref (f2), .ref (f3), .ref (f4), .ref (f5), .ref (f6), .int (nI (0)), .int (nI (0)), .ref (f7), .ref (f8), .ref (f9), .int (nI (0)), .ref (f10), .ref (f11), .ref (f12), .ref (f13), .ref (f14), .ref (f15), .ref (f16), .ref (f17), .ref (f18), .ref (f19), .ref (f20), .ref (f21), .int (nI (0)), .ref (f22), .int (nI (0)), .ref (f23)])) (h21 : F3 f1 = .inl (cJ, 300, .inr (.inl (fun _ => 0)))) (h22 : F3 f2 = .inl (cJ, 300, .inr (.inl (fun _ => 0)))) (h23 : F3 f3 = .inl (cJ, 300, .inr (.inl (fun _ => 0)))) (h24 : F3 f4 = .inl (cI, 300, .inl (fun j => nI ((fun _ => 0) j)))) (h25 : F3 f5 = .inl (cZ, 300, .inl (fun j => bI ((fun _ => false) j)))) (h26 : F3 f6 = .inl (cZ, 300, .inl (fun j => bI ((fun _ => false) j)))) (h27 : F3 f7 = .inl (cI, 30, .inl (fun j => nI ((fun _ => 0) j)))) (h28 : F3 f8 = .inl (cZ, 9000, .inl (fun j => bI ((fun _ => false) j)))) (h29 : F3 f9 = .inl (cZ, 1200, .inl (fun j => bI ((fun _ => false) j)))) (h30 : F3 f10 = .inl (cI, 60, .inl (fun j => nI ((fun _ => 0) j)))) (h31 : F3 f11 = .inl (cI, 60, .inl (fun j => nI ((fun _ => 0) j)))) (h32 : F3 f12 = .inl (cJ, 60, .inr (.inl (fun _ => 0)))) (h33 : F3 f13 = .inl (cZ, 60, .inl (fun j => bI ((fun _ => false) j)))) (h34 : F3 f14 = .inl (cI, 60, .inl (fun j => nI ((fun _ => 0) j)))) (h35 : F3 f15 = .inl (cI, 60, .inl (fun j => nI ((fun _ => 0) j)))) (h36 : F3 f16 = .inl (cI, 60, .inl (fun j => nI ((fun _ => 0) j)))) (h37 : F3 f17 = .inl (cI, 60, .inl (fun j => nI ((fun _ => 0) j)))) (h38 : F3 f18 = .inl (cZ, 60, .inl (fun j => bI ((fun _ => false) j)))) (h39 : F3 f19 = .inl (cJ, 60, .inr (.inl (fun _ => 0)))) (h40 : F3 f20 = .inl (cZ, 60, .inl (fun j => bI ((fun _ => false) j)))) (h41 : F3 f21 = .inl (cI, 60, .inl (fun j => nI ((fun _ => 0) j)))) (h42 : F3 f22 = .inl (cI, 50, .inl (fun j => nI ((fun _ => 0) j)))) (h43 : F3 f23 = .inl (cZ, 300, .inl (fun j => bI ((fun _ => false) j)))) (h44 : F3 q3 = .inl (cJ, 1, .inr (.inl (fun _ => 0)))) (H : Heap) (locs : List Loc) (ls : Array Slot) (hP : va_P D vwCl (va_pl [q1, e1, e2, e3, e4, e5, e6, e7, e8, e9, e10, e11, e12, e13, e14, e15, e16, e17, e18, e19, q2, f1, f2, f3, f4, f5, f6, f7, f8, f9, f10, f11, f12, f13, f14, f15, f16, f17, f18, f19, f20, f21, f22, f23, q3] F3) H) (hD : va_D (fun q : Nat => s.heap.size ≤ q) (va_pl [q1, e1, e2, e3, e4, e5, e6, e7, e8, e9, e10, e11, e12, e13, e14, e15, e16, e17, e18, e19, q2, f1, f2, f3, f4, f5, f6, f7, f8, f9, f10, f11, f12, f13, f14, f15, f16, f17, f18, f19, f20, f21, f22, f23, q3] F3)) (hS : va_S (fun q : Nat => s.heap.size ≤ q) s.heap H locs) (hl : lv_has ls 8 [(4, .int (nI (0))), (3, .ref q3), (2, .ref q2), (1, .ref q1), (0, .ref b)]) : W p l e room_1 s m #[Value.ref b] below meth c H locs 45 17579 (lw_Z below #[Value.ref b] s) (F0 m 23 ls []) := by
  rw [pl_law cI cJ cZ cV cR F3 G0 q1 e1 e2 e3 e4 e5 e6 e7 e8 e9 e10 e11 e12 e13 e14 e15 e16 e17 e18 e19 q2 f1 f2 f3 f4 f5 f6 f7 f8 f9 f10 f11 f12 f13 f14 f15 f16 f17 f18 f19 f20 f21 f22 f23 q3 h0 h1 h2 h3 h4 h5 h6 h7 h8 h9 h10 h11 h12 h13 h14 h15 h16 h17 h18 h19 h20 h21 h22 h23 h24 h25 h26 h27 h28 h29 h30 h31 h32 h33 h34 h35 h36 h37 h38 h39 h40 h41 h42 h43 h44] at hP hD
  rw [kX_mk, mX_mk] at hP hD
  exact law_loop (a := (fun k => [q1, e1, e2, e3, e4, e5, e6, e7, e8, e9, e10, e11, e12, e13, e14, e15, e16, e17, e18, e19].getD k 0)) (a' := (fun k => [q2, f1, f2, f3, f4, f5, f6, f7, f8, f9, f10, f11, f12, f13, f14, f15, f16, f17, f18, f19, f20, f21, f22, f23].getD k 0)) (o := q3) F hr hlocks 4097 0 45 17579 (Nat.zero_le _) (by omega) (by omega) (by omega) (iniC e12 e13 G0) (fun _ => vMk 0 0 0 0 0 0 0 0 0 (fun _ => 0) (fun _ => false)) (fun _ => rMk 0 0 0 false 0 0 0 false 0 (fun _ => 0)) iniM 0 (fun _ => false) (fun _ => 0) H locs (rel_ini cI cZ e12 e13 G0 _ _) (fr_as (fr_comm hP)) (fd_as (fd_comm hD)) hS ls (lv_sub hl [4, 3, 2, 1, 0] rfl)
set_option maxHeartbeats 4000000 in
set_option maxRecDepth 100000 in
/-- THE LAW, from its entry -/
theorem whole_start {p : Program} {e : Env} {s : State} {m : MethodId} {below : List Frame} {meth : Method} {c : Code} (l : Launch) (htr : l.stackTraces = false) {b L : Nat} {xs : Nat → Int32} (hL : L ≤ 4096) (C0 : lw_At p s m meth c b L xs) : W p l e room_1 s m #[Value.ref b] below meth c s.heap [] 0 0 (lw_Z below #[Value.ref b] s) (entryFrame m ([Value.ref b] : List Value).toArray 8) := by
  obtain ⟨hx, hb, hr, hml, hown, htb, hX, hbl, hlocks, hgv⟩ := C0
  have hw : ∀ w ∈ stW, w.before #[Value.ref b] s = true := fun w h => htb w (st_words w h)
  have hts : ∀ w ∈ wsL_law, w.before #[Value.ref b] s = true := fun w h => htb w (wsL_law_in w h)
  have hown : s.vm.findClass RL = some m.cls := hown
  have hb : c.code = cL_law := hb
  have hYE := st_ye hgv htb
  obtain ⟨D, cI, cJ, cZ, cV, cR, hK⟩ := st_k htb
  have hKW : va_K D vwCl (tyW cI cJ cZ) s := hK.sub (tys' := tyW cI cJ cZ) [0, 1, 2] rfl
  have hA : ∀ q : Nat, s.heap.size ≤ q → (fun q : Nat => s.heap.size ≤ q) q := fun _ h => h
  have hbA : ¬ (fun q : Nat => s.heap.size ≤ q) b := Nat.not_le.mpr hbl
  have hO : va_AO "GroupCursors$View" s ∧ va_AO "GroupCursors$Reader" s ∧ va_Nw (.methodLinkNest RX5 9 yX3_init RX5) s ∧ va_Nw (.methodLinkNest RX5 18 yX2_init RX5) s := ⟨va_AO.of (hw (.arrayOver (.object "GroupCursors$View")) (by decide +kernel)), va_AO.of (hw (.arrayOver (.object "GroupCursors$Reader")) (by decide +kernel)), va_Nw.of rfl (hw (.methodLinkNest RX5 9 yX3_init RX5) (by decide +kernel)), va_Nw.of rfl (hw (.methodLinkNest RX5 18 yX2_init RX5) (by decide +kernel))⟩
  have F : LF p l s m c D cI cJ cZ cV cR b L xs (fun q : Nat => s.heap.size ≤ q) := ⟨htr, hx, hb, hml, hown, hts, hX, hbl, hbA, hL, hA, hK, hYE, hw (.constantLong RL 92 4294967295) (by decide +kernel)⟩
  obtain ⟨G0, -⟩ : ∃ G0 : Nat → va_E, G0 = fun _ => .inr (0, []) := ⟨_, rfl⟩
  have hS : va_S (fun q : Nat => s.heap.size ≤ q) s.heap s.heap [] := va_S.rf
  have hP : va_P D vwCl (([] : va_W) ++ va_pl [] G0) s.heap := fun k q h => by cases h
  have hD : va_D (fun q : Nat => s.heap.size ≤ q) (([] : va_W) ++ va_pl [] G0) := ⟨fun i j p q h => (by cases h), fun k q h => (by cases h)⟩
  have hl := lv_entry ([.ref b]) (n := 8) (Nat.le_of_ble_eq_true rfl)
  rw [lg_entry_eq]
  generalize (lg_sl ([.ref b]) ++ List.replicate (8 - (lg_sl ([.ref b])).length) Slot.unset).toArray = ls at hl ⊢
  have hl : lv_has ls 8 [(0, .ref b)] := hl
  refine wp_new (ci := 5) (fs := [.null, .null, .null, .null, .int (nI (0)), .null, .int (nI (0)), .null, .int (nI (0)), .int (nI (0))]) (C := RX5) (T := TX5) (N := 10) hx hb hts inlX5 tyX5 tyX5_ok hown (hw (.classLink RL 8 RX5) (by decide +kernel)) (hw (.instantiable RX5 10) (by decide +kernel)) (hw (.initialized RX5) (by decide +kernel)) hK hP hD hS hA rfl dfX5 (Nat.le_of_ble_eq_true rfl) (Nat.le_of_ble_eq_true rfl) dL_law_0 (fun q1 H hfq1 hP hD hS => ?_)
  refine W.widen (k := 1) (n := 10) (Nat.le_refl _) (Nat.le_refl _) ?_
  refine lv_dup hx hb dL_law_3 rfl ?_
  refine wc_IWvO (As := []) (rest := [.ref q1]) (wf := fun u : List Nat × (Nat → va_E) => qX u.1 u.2) ⟨hx, hb, hml, hown, hts⟩ (c_X5_init l D cI cJ cZ cV cR ([] ++ [q1]) (va_up G0 q1 (.inr (5, [.null, .null, .null, .null, .int (nI (0)), .null, .int (nI (0)), .null, .int (nI (0)), .int (nI (0))]))) q1 (isE.new _ _ _ _) H.size) (cwI 0 hts gL_law_X5_init rfl rfl rfl (hw (.initialized RX5) (by decide +kernel)) (hw (.methodLink RL 88 yX5_init) (by decide +kernel)) (hw (.instanceMethod yX5_init) (by decide +kernel)) rfl (by decide +kernel) ⟨Nat.le_of_ble_eq_true rfl, Nat.le_of_ble_eq_true rfl⟩) hO hP hK hD hS hA rfl hl.1 rfl (Nat.le_of_ble_eq_true rfl) dL_law_4 ⟨Nat.le_of_ble_eq_true rfl, Nat.le_of_ble_eq_true rfl⟩ (fun u1 hu1 H locs hP hD hS => ?_)
  refine W.widen (k := 20) (n := 3548) (Nat.le_refl _) (Nat.le_refl _) ?_
  obtain ⟨L1, F1⟩ := u1
  obtain ⟨e1, e2, e3, e4, e5, e6, e7, e8, e9, e10, e11, e12, e13, e14, e15, e16, e17, e18, e19, hL1, g0, g1, g2, g3, g4, g5, g6, g7, g8, g9, g10, g11, g12, g13, g14, g15, g16, g17, g18, g19, -⟩ := hu1
  dsimp only at hP hD hL1 g0 g1 g2 g3 g4 g5 g6 g7 g8 g9 g10 g11 g12 g13 g14 g15 g16 g17 g18 g19
  refine lv_astore_n (lv' := [(1, .ref q1), (0, .ref b)]) hx hb dL_law_7 rfl hl (by decide) rfl (fun ls hl => ?_)
  have hP : va_P D vwCl (([] : va_W) ++ va_pl L1 F1) H := hP
  have hD : va_D (fun q : Nat => s.heap.size ≤ q) (([] : va_W) ++ va_pl L1 F1) := hD
  refine wp_new (ci := 6) (fs := [.int (nI (0)), .int (nI (0)), .null, .null, .null, .null, .null, .null, .int (nI (0)), .int (nI (0)), .null, .null, .null, .int (nI (0)), .null, .null, .null, .null, .null, .null, .null, .null, .null, .null, .null, .null, .int (nI (0)), .null, .int (nI (0)), .null]) (C := RX6) (T := TX6) (N := 30) hx hb hts inlX6 tyX6 tyX6_ok hown (hw (.classLink RL 89 RX6) (by decide +kernel)) (hw (.instantiable RX6 30) (by decide +kernel)) (hw (.initialized RX6) (by decide +kernel)) hK hP hD hS hA rfl dfX6 (Nat.le_of_ble_eq_true rfl) (Nat.le_of_ble_eq_true rfl) dL_law_8 (fun q2 H hfq2 hP hD hS => ?_)
  refine W.widen (k := 21) (n := 3578) (Nat.le_refl _) (Nat.le_refl _) ?_
  refine lv_dup hx hb dL_law_11 rfl ?_
  refine wc_IWv (As := []) (rest := [.ref q2]) (wf := fun u : List Nat × (Nat → va_E) => qX u.1 u.2) ⟨hx, hb, hml, hown, hts⟩ (c_X6_init l D cI cJ cZ cV cR (L1 ++ [q2]) (va_up F1 q2 (.inr (6, [.int (nI (0)), .int (nI (0)), .null, .null, .null, .null, .null, .null, .int (nI (0)), .int (nI (0)), .null, .null, .null, .int (nI (0)), .null, .null, .null, .null, .null, .null, .null, .null, .null, .null, .null, .null, .int (nI (0)), .null, .int (nI (0)), .null]))) q2 (isE.new _ _ _ _) H.size) (cwI 0 hts gL_law_X6_init rfl rfl rfl (hw (.initialized RX6) (by decide +kernel)) (hw (.methodLink RL 91 yX6_init) (by decide +kernel)) (hw (.instanceMethod yX6_init) (by decide +kernel)) rfl (by decide +kernel) ⟨Nat.le_of_ble_eq_true rfl, Nat.le_of_ble_eq_true rfl⟩) hP hKW hD hS hA rfl hl.1 rfl (Nat.le_of_ble_eq_true rfl) dL_law_12 ⟨Nat.le_of_ble_eq_true rfl, Nat.le_of_ble_eq_true rfl⟩ (fun u2 hu2 H locs hP hD hS => ?_)
  refine W.widen (k := 44) (n := 17578) (Nat.le_refl _) (Nat.le_refl _) ?_
  obtain ⟨L2, F2⟩ := u2
  obtain ⟨f1, f2, f3, f4, f5, f6, f7, f8, f9, f10, f11, f12, f13, f14, f15, f16, f17, f18, f19, f20, f21, f22, f23, hL2, k0, k1, k2, k3, k4, k5, k6, k7, k8, k9, k10, k11, k12, k13, k14, k15, k16, k17, k18, k19, k20, k21, k22, k23, hk2⟩ := hu2
  dsimp only at hP hD hL2 hk2 k0 k1 k2 k3 k4 k5 k6 k7 k8 k9 k10 k11 k12 k13 k14 k15 k16 k17 k18 k19 k20 k21 k22 k23
  refine lv_astore_n (lv' := [(2, .ref q2), (1, .ref q1), (0, .ref b)]) hx hb dL_law_15 rfl hl (by decide) rfl (fun ls hl => ?_)
  have hP : va_P D vwCl (([] : va_W) ++ va_pl L2 F2) H := hP
  have hD : va_D (fun q : Nat => s.heap.size ≤ q) (([] : va_W) ++ va_pl L2 F2) := hD
  refine lv_iconst (v := nI (1)) hx hb dL_law_16 (by decide) ?_
  refine wq_newl (n := 1) hx hb (hw (.arrayClass .long) (by decide +kernel)) hK hP hD hS hA 1 rfl (by omega) (Nat.le_of_ble_eq_true rfl) (Nat.le_of_ble_eq_true rfl) dL_law_17 (fun q3 H hf3 hP hD hS => ?_)
  refine W.widen (k := 45) (n := 17579) (Nat.le_refl _) (Nat.le_refl _) ?_
  refine lv_astore_n (lv' := [(3, .ref q3), (2, .ref q2), (1, .ref q1), (0, .ref b)]) hx hb dL_law_19 rfl hl (by decide) rfl (fun ls hl => ?_)
  refine lv_iconst (v := nI (0)) hx hb dL_law_20 (by decide) ?_
  refine lv_istore (lv' := [(4, .int (nI (0))), (3, .ref q3), (2, .ref q2), (1, .ref q1), (0, .ref b)]) hx hb dL_law_21 hl (by decide) rfl (fun ls hl => ?_)
  have up : ∀ (q : Nat) (e : va_E), isE L1 F1 q e → va_up F2 q3 (.inl (cJ, 1, .inr (.inl (fun _ => 0)))) q = e := fun q e g => (isE.push (e' := (.inl (cJ, 1, .inr (.inl (fun _ => 0))))) (hk2 q e (isE.push g hfq2) (fun z => hfq2 (z ▸ g.1))) hf3).2
  have dn : ∀ (q : Nat) (e : va_E), isE L2 F2 q e → va_up F2 q3 (.inl (cJ, 1, .inr (.inl (fun _ => 0)))) q = e := fun q e g => (isE.push (e' := (.inl (cJ, 1, .inr (.inl (fun _ => 0))))) g hf3).2
  have g0 := up _ _ g0
  have g1 := up _ _ g1
  have g2 := up _ _ g2
  have g3 := up _ _ g3
  have g4 := up _ _ g4
  have g5 := up _ _ g5
  have g6 := up _ _ g6
  have g7 := up _ _ g7
  have g8 := up _ _ g8
  have g9 := up _ _ g9
  have g10 := up _ _ g10
  have g11 := up _ _ g11
  have g12 := up _ _ g12
  have g13 := up _ _ g13
  have g14 := up _ _ g14
  have g15 := up _ _ g15
  have g16 := up _ _ g16
  have g17 := up _ _ g17
  have g18 := up _ _ g18
  have g19 := up _ _ g19
  have k0 := dn _ _ k0
  have k1 := dn _ _ k1
  have k2 := dn _ _ k2
  have k3 := dn _ _ k3
  have k4 := dn _ _ k4
  have k5 := dn _ _ k5
  have k6 := dn _ _ k6
  have k7 := dn _ _ k7
  have k8 := dn _ _ k8
  have k9 := dn _ _ k9
  have k10 := dn _ _ k10
  have k11 := dn _ _ k11
  have k12 := dn _ _ k12
  have k13 := dn _ _ k13
  have k14 := dn _ _ k14
  have k15 := dn _ _ k15
  have k16 := dn _ _ k16
  have k17 := dn _ _ k17
  have k18 := dn _ _ k18
  have k19 := dn _ _ k19
  have k20 := dn _ _ k20
  have k21 := dn _ _ k21
  have k22 := dn _ _ k22
  have k23 := dn _ _ k23
  have n3 := isE.new L2 F2 q3 (.inl (cJ, 1, .inr (.inl (fun _ => 0))))
  have eL : L2 ++ [q3] = [q1, e1, e2, e3, e4, e5, e6, e7, e8, e9, e10, e11, e12, e13, e14, e15, e16, e17, e18, e19, q2, f1, f2, f3, f4, f5, f6, f7, f8, f9, f10, f11, f12, f13, f14, f15, f16, f17, f18, f19, f20, f21, f22, f23, q3] := by
    rw [hL2, hL1]
    simp only [List.nil_append, List.cons_append, List.append_assoc]
  rw [eL, List.nil_append] at hP hD
  exact ws_end hL F hr hlocks G0 (va_up F2 q3 (.inl (cJ, 1, .inr (.inl (fun _ => 0))))) q1 e1 e2 e3 e4 e5 e6 e7 e8 e9 e10 e11 e12 e13 e14 e15 e16 e17 e18 e19 q2 f1 f2 f3 f4 f5 f6 f7 f8 f9 f10 f11 f12 f13 f14 f15 f16 f17 f18 f19 f20 f21 f22 f23 q3 g0 g1 g2 g3 g4 g5 g6 g7 g8 g9 g10 g11 g12 g13 g14 g15 g16 g17 g18 g19 k0 k1 k2 k3 k4 k5 k6 k7 k8 k9 k10 k11 k12 k13 k14 k15 k16 k17 k18 k19 k20 k21 k22 k23 n3.2 H locs ls hP hD hS hl
