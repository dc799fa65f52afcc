/-! the law's beginning -/
theorem st_arr {s : State} {args : Array Value} {ty : FieldType} (h : (Cond.arrayClass ty).before args s = true) : ∃ cA : ClassId, ArrOfT s cA ty ∧ s.vm.findClass ("[" ++ ty.toString) = some cA := by
  obtain ⟨c, k, comp, h1, h2, h3⟩ := Cond.arrayClass_spec h
  exact ⟨c, fun n z => ⟨fun k h => (by cases h), k, h2, comp, h3⟩, h1⟩
theorem st_arro {s : State} {C : String} (h : va_AO C s) : ∃ cA : ClassId, ArrOfT s cA (.object C) ∧ va_RA s cA (.object C) := by
  obtain ⟨comp, c, k, h1, h2, h3, h4, h5⟩ := Cond.arrayOver_spec h
  exact ⟨c, fun n z => ⟨fun k h => (by cases h), k, h3, comp, h4⟩, k, comp, h3, h4, h1, h5⟩
theorem st_str {s : State} {args : Array Value} {own tx : String} {k : Nat} (h : (Cond.stringRef own k tx).before args s = true) : ∃ sa, vk_R own k tx sa s := by
  have hcur : ∃ cur, s.vm.findClass own = some cur := by
    have h1 := h
    simp only [Cond.before, Cond.holds, Cond.value] at h1
    cases hc : s.vm.findClass own with
    | none => simp [hc] at h1
    | some c => exact ⟨c, rfl⟩
  obtain ⟨cur, hcur⟩ := hcur
  obtain ⟨-, -, -, sa, -, -, -, -, -, hev⟩ := Cond.stringRef_spec hcur h
  exact ⟨sa, vk_R.of h hev⟩
theorem st_sup : ∀ Y ∈ xSup, Cond.declares (Bundle.initS Y) ∈ lw_tbl := by decide +kernel
theorem st_cast : ∀ E ∈ xNames, Cond.castable E E ∈ lw_tbl := by decide +kernel
theorem st_strs : ∀ q ∈ xStr, Cond.stringRef q.1 q.2.1 q.2.2 ∈ lw_tbl := by decide +kernel
def stW : List Cond := [.instantiable RX0 7, .instantiable RX1 7, .instantiable RX2 3, .instantiable RX3 8, .instantiable RX4 6, .instantiable RX5 10, .instantiable RX6 30, .arrayClass .int, .arrayClass .long, .arrayClass .boolean, .arrayOver (.object "GroupCursors$View"), .arrayOver (.object "GroupCursors$Reader"), .methodLinkNest RX5 9 yX3_init RX5, .methodLinkNest RX5 18 yX2_init RX5, .laysStatic Bundle.tN "UNASSIGNED_STACK" Bundle.steD, .laysStatic Bundle.tN "SUPPRESSED_SENTINEL" Bundle.listD, .initialized Bundle.tN, .castable "[I" "java/lang/Cloneable", .constantLong RL 92 4294967295, .classLink RL 8 RX5, .classLink RL 89 RX6, .initialized RX5, .initialized RX6, .methodLink RL 88 yX5_init, .methodLink RL 91 yX6_init, .instanceMethod yX5_init, .instanceMethod yX6_init]
theorem st_words : ∀ w ∈ stW, w ∈ lw_tbl := by decide +kernel
theorem st_nc {args : Array Value} {s : State} (h : (Jvm.Cond.and given_1 narrow_1).before args s = true) : NC s := by
  have hs := flat_of_before _ h
  intro q hq
  simp only [xNc, List.mem_cons, List.not_mem_nil, or_false] at hq
  rcases hq with rfl | rfl | rfl | rfl | rfl <;> exact va_Nc.of (hs (.not (.castable _ _)) (by decide +kernel))
theorem st_ye {args : Array Value} {s : State} (h : (Jvm.Cond.and given_1 narrow_1).before args s = true) (ht : ∀ w ∈ lw_tbl, w.before args s = true) : YE (fun q : Nat => s.heap.size ≤ q) s s.heap := by
  have hs := flat_of_before _ h
  have hw : ∀ w ∈ stW, w.before args s = true := fun w h => ht w (st_words w h)
  have hA : ∀ a : Nat, a < s.heap.size → ¬ (fun q : Nat => s.heap.size ≤ q) a := fun a h => Nat.not_le.mpr h
  refine ⟨⟨vx_Zqof (hw (.laysStatic Bundle.tN "UNASSIGNED_STACK" Bundle.steD) (by decide +kernel)) (hw (.initialized Bundle.tN) (by decide +kernel)) (hs (.isRef (.static Bundle.tN "UNASSIGNED_STACK" Bundle.steD)) (by decide +kernel)) hA, vx_Zqof (hw (.laysStatic Bundle.tN "SUPPRESSED_SENTINEL" Bundle.listD) (by decide +kernel)) (hw (.initialized Bundle.tN) (by decide +kernel)) (hs (.isRef (.static Bundle.tN "SUPPRESSED_SENTINEL" Bundle.listD)) (by decide +kernel)) hA, fun Y hY => va_Nw.of rfl (ht _ (st_sup Y hY)), fun E hE => va_Nw.of rfl (ht _ (st_cast E hE)), fun q hq => st_str (ht _ (st_strs q hq))⟩, va_Nw.of rfl (hw (.castable "[I" "java/lang/Cloneable") (by decide +kernel)), st_nc h⟩
theorem st_k {args : Array Value} {s : State} (ht : ∀ w ∈ lw_tbl, w.before args s = true) : ∃ (D : va_G) (cI cJ cZ cV cR : ClassId), va_K D vwCl (tyK cI cJ cZ cV cR) s := by
  have hw : ∀ w ∈ stW, w.before args s = true := fun w h => ht w (st_words w h)
  have hts : ∀ w ∈ wsL_law, w.before args s = true := fun w h => ht w (wsL_law_in w h)
  obtain ⟨c0, i0, h0⟩ := u_known (C := RX0) (T := TX0) (N := 7) (n := 7) hts inlX0 (hw (.instantiable RX0 7) (by decide +kernel))
  obtain ⟨c1, i1, h1⟩ := u_known (C := RX1) (T := TX1) (N := 7) (n := 7) hts inlX1 (hw (.instantiable RX1 7) (by decide +kernel))
  obtain ⟨c2, i2, h2⟩ := u_known (C := RX2) (T := TX2) (N := 3) (n := 3) hts inlX2 (hw (.instantiable RX2 3) (by decide +kernel))
  obtain ⟨c3, i3, h3⟩ := u_known (C := RX3) (T := TX3) (N := 8) (n := 8) hts inlX3 (hw (.instantiable RX3 8) (by decide +kernel))
  obtain ⟨c4, i4, h4⟩ := u_known (C := RX4) (T := TX4) (N := 6) (n := 6) hts inlX4 (hw (.instantiable RX4 6) (by decide +kernel))
  obtain ⟨c5, i5, h5⟩ := u_known (C := RX5) (T := TX5) (N := 10) (n := 10) hts inlX5 (hw (.instantiable RX5 10) (by decide +kernel))
  obtain ⟨c6, i6, h6⟩ := u_known (C := RX6) (T := TX6) (N := 30) (n := 30) hts inlX6 (hw (.instantiable RX6 30) (by decide +kernel))
  obtain ⟨cI, aI, bI⟩ := st_arr (hw (.arrayClass .int) (by decide +kernel))
  obtain ⟨cJ, aJ, bJ⟩ := st_arr (hw (.arrayClass .long) (by decide +kernel))
  obtain ⟨cZ, aZ, bZ⟩ := st_arr (hw (.arrayClass .boolean) (by decide +kernel))
  obtain ⟨cV, aV, bV⟩ := st_arro (va_AO.of (hw (.arrayOver (.object "GroupCursors$View")) (by decide +kernel)))
  obtain ⟨cR, aR, bR⟩ := st_arro (va_AO.of (hw (.arrayOver (.object "GroupCursors$Reader")) (by decide +kernel)))
  refine ⟨(fun k => match k with | 0 => c0 | 1 => c1 | 2 => c2 | 3 => c3 | 4 => c4 | 5 => c5 | _ => c6, fun k => match k with | 0 => i0 | 1 => i1 | 2 => i2 | 3 => i3 | 4 => i4 | 5 => i5 | _ => i6), cI, cJ, cZ, cV, cR, ?_, ?_⟩
  · intro k q hq
    match k, hq with
    | 0, hq => cases hq; exact h0
    | 1, hq => cases hq; exact h1
    | 2, hq => cases hq; exact h2
    | 3, hq => cases hq; exact h3
    | 4, hq => cases hq; exact h4
    | 5, hq => cases hq; exact h5
    | 6, hq => cases hq; exact h6
    | k + 7, hq => simp [vwCl] at hq
  · intro k q hq
    match k, hq with
    | 0, hq => cases hq; exact ⟨aI, bI⟩
    | 1, hq => cases hq; exact ⟨aJ, bJ⟩
    | 2, hq => cases hq; exact ⟨aZ, bZ⟩
    | 3, hq => cases hq; exact ⟨aV, bV⟩
    | 4, hq => cases hq; exact ⟨aR, bR⟩
    | k + 5, hq => simp [tyK] at hq
theorem GO_blind {D : va_G} {tys : List (ClassId × FieldType)} {w : va_W} {sz : Nat} (av : List Value) : FrameBlind (va_Pc av (GO D tys w sz)) := fun a U g mk q => by
  have h := GW_blind av a U g mk ⟨q.1, q.2.1⟩
  exact ⟨h.1, h.2, va_AO.moved (u := U) (U := U.calling g mk a) (Vm.Alike.refl U.vm) q.2.2.1, va_AO.moved (u := U) (U := U.calling g mk a) (Vm.Alike.refl U.vm) q.2.2.2.1, va_Nw.same rfl rfl q.2.2.2.2.1, va_Nw.same rfl rfl q.2.2.2.2.2⟩
section OCalls
variable {p : Program} {l : Launch} {e : Env} {R : Room} {s : State} {m : MethodId} {args : Array Value} {below : List Frame} {meth : Method} {c : Code} {H : Heap} {locs : List Loc} {cells slots : Nat} {Q : State → Prop}
variable {y : MethodName} {bytes cc : ByteArray} {maxL nL n index mc ms : Nat} {ret : Option FieldType} {ws : List Cond} {rm : Room} {Ts : List Cond} {own C : String} {b : Addr} {As rest st0 : List Value} {pc : Nat} {ls : Array Slot}
variable {D : va_G} {tys : List (ClassId × FieldType)} {w : va_W} {A0 : Nat → Prop}
theorem wc_IWvO {S : Type} {post : S → Prop} {wf : S → va_W} (S0 : CallFix p m c cc nL s args Ts own) (hM : Met l y ws rm (va_Pc (.ref b :: As) (GO D tys w H.size)) (va_Qv post (fun u => GB D tys (va_A w H.size) (wf u)) (va_A w H.size)) mc ms (va_A w H.size)) (cw : CallB R s args own index y bytes maxL none ws rm mc ms n ∧ y.name = "<init>" ∧ (Cond.instanceMethod y).before args s = true) (hO : va_AO "GroupCursors$View" s ∧ va_AO "GroupCursors$Reader" s ∧ va_Nw (.methodLinkNest RX5 9 yX3_init RX5) s ∧ va_Nw (.methodLinkNest RX5 18 yX2_init RX5) s) (hP : va_P D vwCl w H) (hK : va_K D vwCl tys s) (hD : va_D A0 w) (hS : va_S A0 s.heap H locs) (hA : ∀ q, s.heap.size ≤ q → A0 q) (hn : As.length = n) (hsize : ls.size = nL) (hst : st0 = As.reverse ++ .ref b :: rest) (hW : (rest.map fun v => v.category).sum ≤ 8) (hdg : decode cc pc = .ok (.invokespecial index, 3)) (hf : cells + mc ≤ R.cells ∧ slots + ms ≤ R.slots)
    (kk : ∀ (u : S), post u → ∀ (H1 : Heap) (locs1 : List Loc), va_P D vwCl (wf u) H1 → va_D A0 (wf u) → va_S A0 s.heap H1 locs1 → W p l e R s m args below meth c H1 locs1 (cells + mc) (slots + ms) Q (F0 m (pc + 3) ls rest)) : W p l e R s m args below meth c H locs cells slots Q (F0 m pc ls st0) :=
  va_callv (va_runI (g := F0 m pc ls st0) S0 hM cw ⟨GO_blind _, fun U hU hw => ⟨rfl, ⟨by rw [hU], by rw [hU]; exact hP, va_K.moved hw.alike hK, hD.weaken (fun _ _ _ _ => trivial)⟩, va_AO.moved hw.alike hO.1, va_AO.moved hw.alike hO.2.1, va_Nw.warmM hw hO.2.2.1, va_Nw.warmM hw hO.2.2.2⟩⟩ rfl hn hsize hst (lv_room hW) hdg hf) hS (fun q _ h => gw_free hD hS hA q h) (gw_free hD hS hA)
    (fun u t H1 locs1 ht _ hw hB _ _ hS1 => kk u hw H1 locs1 (by rw [← ht]; exact hB.1) (hB.2.2.weaken (fun _ q _ h => gw_free hD hS hA q.1 h)) hS1)
end OCalls
set_option maxRecDepth 100000 in
/-- the pool behind the makers, as the law's three -/
theorem pl_law (cI cJ cZ cV cR : ClassId) (F F9 : Nat → va_E) (q1 e1 e2 e3 e4 e5 e6 e7 e8 e9 e10 e11 e12 e13 e14 e15 e16 e17 e18 e19 q2 f1 f2 f3 f4 f5 f6 f7 f8 f9 f10 f11 f12 f13 f14 f15 f16 f17 f18 f19 f20 f21 f22 f23 q3 : Nat) (h0 : F q1 = .inr (5, [.ref (e1), .ref (e8), .ref (e11), .ref (e17), .int (nI (0)), .ref (e18), .int (nI (0)), .ref (e19), .int (nI (0)), .int (nI (0))])) (h1 : F e1 = .inr (3, [.ref (e2), .ref (e3), .ref (e4), .ref (e5), .ref (e6), .ref (e7), .int (nI (0)), .int (nI (0))])) (h2 : F e2 = .inl (cJ, 300, .inr (.inl (fun _ => 0)))) (h3 : F e3 = .inl (cJ, 300, .inr (.inl (fun _ => 0)))) (h4 : F e4 = .inl (cJ, 300, .inr (.inl (fun _ => 0)))) (h5 : F e5 = .inl (cI, 300, .inl (fun j => nI ((fun _ => 0) j)))) (h6 : F e6 = .inl (cI, 300, .inl (fun j => nI ((fun _ => 0) j)))) (h7 : F e7 = .inl (cZ, 300, .inl (fun j => bI ((fun _ => false) j)))) (h8 : F e8 = .inr (2, [.ref (e9), .ref (e10), .int (nI (0))])) (h9 : F e9 = .inl (cI, 40, .inl (fun j => nI ((fun _ => 0) j)))) (h10 : F e10 = .inl (cI, 40, .inl (fun j => nI ((fun _ => 0) j)))) (h11 : F e11 = .inr (0, [.ref (e1), .ref (e12), .ref (e13), .ref (e14), .ref (e15), .ref (e16), .int (nI (0))])) (h12 : F e12 = .inl (cI, 300, .inl (fun j => nI ((fun _ => 0) j)))) (h13 : F e13 = .inl (cI, 300, .inl (fun j => nI ((fun _ => 0) j)))) (h14 : F e14 = .inl (cJ, 300, .inr (.inl (fun _ => 0)))) (h15 : F e15 = .inl (cZ, 300, .inl (fun j => bI ((fun _ => false) j)))) (h16 : F e16 = .inl (cI, 300, .inl (fun j => nI ((fun _ => 0) j)))) (h17 : F e17 = .inl (cV, 30, .inr (.inr (.inr (.inr (fun _ => none)))))) (h18 : F e18 = .inl (cR, 60, .inr (.inr (.inr (.inr (fun _ => none)))))) (h19 : F e19 = .inl (cI, 50, .inl (fun j => nI ((fun _ => 0) j)))) (h20 : F q2 = .inr (6, [.int (nI (0)), .int (nI (0)), .ref (f1), .ref (f2), .ref (f3), .ref (f4), .ref (f5), .ref (f6), .int (nI (0)), .int (nI (0)), .ref (f7), .ref (f8), .ref (f9), .int (nI (0)), .ref (f10), .ref (f11), .ref (f12), .ref (f13), .ref (f14), .ref (f15), .ref (f16), .ref (f17), .ref (f18), .ref (f19), .ref (f20), .ref (f21), .int (nI (0)), .ref (f22), .int (nI (0)), .ref (f23)])) (h21 : F f1 = .inl (cJ, 300, .inr (.inl (fun _ => 0)))) (h22 : F f2 = .inl (cJ, 300, .inr (.inl (fun _ => 0)))) (h23 : F f3 = .inl (cJ, 300, .inr (.inl (fun _ => 0)))) (h24 : F f4 = .inl (cI, 300, .inl (fun j => nI ((fun _ => 0) j)))) (h25 : F f5 = .inl (cZ, 300, .inl (fun j => bI ((fun _ => false) j)))) (h26 : F f6 = .inl (cZ, 300, .inl (fun j => bI ((fun _ => false) j)))) (h27 : F f7 = .inl (cI, 30, .inl (fun j => nI ((fun _ => 0) j)))) (h28 : F f8 = .inl (cZ, 9000, .inl (fun j => bI ((fun _ => false) j)))) (h29 : F f9 = .inl (cZ, 1200, .inl (fun j => bI ((fun _ => false) j)))) (h30 : F f10 = .inl (cI, 60, .inl (fun j => nI ((fun _ => 0) j)))) (h31 : F f11 = .inl (cI, 60, .inl (fun j => nI ((fun _ => 0) j)))) (h32 : F f12 = .inl (cJ, 60, .inr (.inl (fun _ => 0)))) (h33 : F f13 = .inl (cZ, 60, .inl (fun j => bI ((fun _ => false) j)))) (h34 : F f14 = .inl (cI, 60, .inl (fun j => nI ((fun _ => 0) j)))) (h35 : F f15 = .inl (cI, 60, .inl (fun j => nI ((fun _ => 0) j)))) (h36 : F f16 = .inl (cI, 60, .inl (fun j => nI ((fun _ => 0) j)))) (h37 : F f17 = .inl (cI, 60, .inl (fun j => nI ((fun _ => 0) j)))) (h38 : F f18 = .inl (cZ, 60, .inl (fun j => bI ((fun _ => false) j)))) (h39 : F f19 = .inl (cJ, 60, .inr (.inl (fun _ => 0)))) (h40 : F f20 = .inl (cZ, 60, .inl (fun j => bI ((fun _ => false) j)))) (h41 : F f21 = .inl (cI, 60, .inl (fun j => nI ((fun _ => 0) j)))) (h42 : F f22 = .inl (cI, 50, .inl (fun j => nI ((fun _ => 0) j)))) (h43 : F f23 = .inl (cZ, 300, .inl (fun j => bI ((fun _ => false) j)))) (h44 : F q3 = .inl (cJ, 1, .inr (.inl (fun _ => 0)))) : va_pl [q1, e1, e2, e3, e4, e5, e6, e7, e8, e9, e10, e11, e12, e13, e14, e15, e16, e17, e18, e19, q2, f1, f2, f3, f4, f5, f6, f7, f8, f9, f10, f11, f12, f13, f14, f15, f16, f17, f18, f19, f20, f21, f22, f23, q3] F = (kX cI cJ cZ cV cR (fun k => [q1, e1, e2, e3, e4, e5, e6, e7, e8, e9, e10, e11, e12, e13, e14, e15, e16, e17, e18, e19].getD k 0) (e12) (e13) (0) (0) (0) (0) (0) (0) (0) (0) (fun _ => 0) (fun _ => 0) (fun _ => 0) (fun _ => 0) (fun _ => 0) (fun _ => false) (fun _ => false) (fun _ => 0) (fun _ => 0) (fun _ => 0) (fun _ => 0) (fun _ => 0) (fun _ => 0) (fun _ => 0) (fun _ => none) (fun _ => none) ([]) (F9) ++ mX cI cJ cZ (fun k => [q2, f1, f2, f3, f4, f5, f6, f7, f8, f9, f10, f11, f12, f13, f14, f15, f16, f17, f18, f19, f20, f21, f22, f23].getD k 0) 0 (fun _ => false) (0) (0) (0) (0) (0) (0) (fun _ => 0) (fun _ => 0) (fun _ => 0) (fun _ => 0) (fun _ => 0) (fun _ => 0) (fun _ => 0) (fun _ => false) (fun _ => false) (fun _ => false) (fun _ => false) (fun _ => false) (fun _ => false) (fun _ => false) (fun _ => 0) (fun _ => 0) (fun _ => 0) (fun _ => 0) (fun _ => 0) (fun _ => 0) (fun _ => 0) (fun _ => 0)) ++ oW cJ q3 (fun _ => 0) := by
  show [(q1, F q1), (e1, F e1), (e2, F e2), (e3, F e3), (e4, F e4), (e5, F e5), (e6, F e6), (e7, F e7), (e8, F e8), (e9, F e9), (e10, F e10), (e11, F e11), (e12, F e12), (e13, F e13), (e14, F e14), (e15, F e15), (e16, F e16), (e17, F e17), (e18, F e18), (e19, F e19), (q2, F q2), (f1, F f1), (f2, F f2), (f3, F f3), (f4, F f4), (f5, F f5), (f6, F f6), (f7, F f7), (f8, F f8), (f9, F f9), (f10, F f10), (f11, F f11), (f12, F f12), (f13, F f13), (f14, F f14), (f15, F f15), (f16, F f16), (f17, F f17), (f18, F f18), (f19, F f19), (f20, F f20), (f21, F f21), (f22, F f22), (f23, F f23), (q3, F q3)] = _
  rw [h0, h1, h2, h3, h4, h5, h6, h7, h8, h9, h10, h11, h12, h13, h14, h15, h16, h17, h18, h19, h20, h21, h22, h23, h24, h25, h26, h27, h28, h29, h30, h31, h32, h33, h34, h35, h36, h37, h38, h39, h40, h41, h42, h43, h44]
  rfl
