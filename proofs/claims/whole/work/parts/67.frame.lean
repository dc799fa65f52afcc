/-! calls that leave a part of the world alone -/
theorem fr_l {D : va_G} {cl : List vw_C} {X w : va_W} {H : Heap} (h : va_P D cl (X ++ w) H) : va_P D cl X H := fun k q hk => h k q (by rw [List.getElem?_append_left (List.getElem?_eq_some_iff.mp hk).1]; exact hk)
theorem fr_r {D : va_G} {cl : List vw_C} {X w : va_W} {H : Heap} (h : va_P D cl (X ++ w) H) : va_P D cl w H := fun k q hk => h (X.length + k) q (by rw [List.getElem?_append_right (by omega), Nat.add_sub_cancel_left]; exact hk)
theorem fd_at {X w : va_W} {k : Nat} {q : Nat × va_E} (hk : w[k]? = some q) : (X ++ w)[X.length + k]? = some q := by rw [List.getElem?_append_right (by omega), Nat.add_sub_cancel_left]; exact hk
theorem fd_al {X w : va_W} {k : Nat} {q : Nat × va_E} (hk : X[k]? = some q) : (X ++ w)[k]? = some q := by rw [List.getElem?_append_left (List.getElem?_eq_some_iff.mp hk).1]; exact hk
theorem fd_l {A : Nat → Prop} {X w : va_W} (h : va_D A (X ++ w)) : va_D A X := ⟨fun i j p q hi hj e => h.1 i j p q (fd_al hi) (fd_al hj) e, fun k q hk => h.2 k q (fd_al hk)⟩
theorem fd_r {A : Nat → Prop} {X w : va_W} (h : va_D A (X ++ w)) : va_D A w := ⟨fun i j p q hi hj e => by have := h.1 _ _ p q (fd_at (X := X) hi) (fd_at (X := X) hj) e; omega, fun k q hk => h.2 _ q (fd_at (X := X) hk)⟩
theorem fd_x {A : Nat → Prop} {X w : va_W} (h : va_D A (X ++ w)) {i j : Nat} {p q : Nat × va_E} (hi : X[i]? = some p) (hj : w[j]? = some q) : p.1 ≠ q.1 := fun e => by
  have h1 := h.1 _ _ p q (fd_al (w := w) hi) (fd_at (X := X) hj) e
  have h2 := (List.getElem?_eq_some_iff.mp hi).1
  omega
theorem fr_comm {D : va_G} {cl : List vw_C} {X w : va_W} {H : Heap} (h : va_P D cl (X ++ w) H) : va_P D cl (w ++ X) H := (fr_r h).app (fr_l h)
theorem fd_comm {A : Nat → Prop} {X w : va_W} (h : va_D A (X ++ w)) : va_D A (w ++ X) := (fd_r h).app (fd_l h) (fun i j p q hi hj e => fd_x h hj hi e.symm)
theorem fr_join {D : va_G} {cl : List vw_C} {X w w1 : va_W} {H0 H H1 : Heap} {A0 : Nat → Prop} {locs : List Loc} (hP : va_P D cl (X ++ w) H) (hD : va_D A0 (X ++ w)) (hS : va_S A0 H0 H locs) (hA : ∀ q, H0.size ≤ q → A0 q) (hk : ∀ q : Nat, q < H.size → ¬ va_A w H.size q → H1[q]? = H[q]?) (h1 : va_P D cl w1 H1) (h2 : va_D (va_A w H.size) w1) : va_P D cl (X ++ w1) H1 ∧ va_D A0 (X ++ w1) := by
  have hn : ∀ (k : Nat) (q : Nat × va_E), X[k]? = some q → ¬ va_A w H.size q.1 := by
    intro k q hq ha
    rcases ha with ⟨j, e, hj⟩ | h
    · exact fd_x hD hq hj rfl
    · have := (fr_l hP k q hq).lt
      omega
  exact ⟨((fr_l hP).kept (fun k q hq => hk q.1 (fr_l hP k q hq).lt (hn k q hq))).app h1, (fd_l hD).app (h2.weaken (fun _ q _ h => gw_free (fd_r hD) hS hA q.1 h)) (fun i j p q hp hq e => hn i p hp (by rw [e]; exact h2.2 j q hq))⟩
def xNc : List (String × String) := [("java/lang/IllegalArgumentException", "java/lang/IndexOutOfBoundsException"), ("java/lang/IllegalStateException", "java/lang/IndexOutOfBoundsException"), ("java/lang/IllegalStateException", "java/lang/IllegalArgumentException"), ("java/util/NoSuchElementException", "java/lang/IndexOutOfBoundsException"), ("java/util/NoSuchElementException", "java/lang/IllegalArgumentException")]
/-- which exceptions are no others -/
def NC (U : State) : Prop := ∀ q ∈ xNc, va_Nc q.1 q.2 U
/-- what a wrapper needs beside its words -/
def YE (A : Nat → Prop) (U : State) (H : Heap) : Prop := XE A U H ∧ va_Nw (.castable "[I" "java/lang/Cloneable") U ∧ NC U
theorem YE.warm {A : Nat → Prop} {s U : State} {H : Heap} (hW : s.WarmedH U.vm) (h : YE A s H) : YE A U H := ⟨h.1.warm hW, va_Nw.warmC hW h.2.1, fun q hq => va_Nc.moved hW.alike (h.2.2 q hq)⟩
theorem YE.kept {A : Nat → Prop} {s : State} {H0 H : Heap} {locs : List Loc} (hS : va_S A H0 H locs) (h : YE A s H0) : YE A s H := ⟨h.1.kept hS, h.2⟩
theorem YE.narrow {A B : Nat → Prop} {s : State} {H : Heap} (h : YE A s H) (hAB : ∀ q, B q → A q) : YE B s H := ⟨h.1.narrow hAB, h.2⟩
def GY (D : va_G) (tys : List (ClassId × FieldType)) (w : va_W) (sz : Nat) : State → Prop := fun U => GW D tys w sz U ∧ YE (va_A w sz) U U.heap
theorem GY_blind {D : va_G} {tys : List (ClassId × FieldType)} {w : va_W} {sz : Nat} (av : List Value) : FrameBlind (va_Pc av (GY D tys w sz)) := fun a U g mk q => by
  have h := GX_blind av a U g mk ⟨q.1, q.2.1, q.2.2.1⟩
  exact ⟨h.1, h.2.1, h.2.2, va_Nw.same rfl rfl q.2.2.2.1, fun z hz => va_Nc.moved (u := U) (U := U.calling g mk a) (Vm.Alike.refl U.vm) (q.2.2.2.2 z hz)⟩
section Frames
variable {p : Program} {l : Launch} {e : Env} {R : Room} {s : State} {m : MethodId} {args : Array Value} {below : List Frame} {meth : Method} {c : Code} {H : Heap} {locs : List Loc} {cells slots : Nat} {Q : State → Prop}
variable {y : MethodName} {bytes cc : ByteArray} {maxL nL n index mc ms : Nat} {ret : Option FieldType} {ws : List Cond} {rm : Room} {Ts : List Cond} {own C : String} {b : Addr} {As rest st0 : List Value} {pc : Nat} {ls : Array Slot}
variable {D : va_G} {tys : List (ClassId × FieldType)} {w X : va_W} {ci N : Nat} {T : u_T} {fs : List Value} {A0 : Nat → Prop}
theorem wf_VWi {S : Type} {post : Int32 → S → Prop} {wf : S → va_W} (S0 : CallFix p m c cc nL s args Ts own) (hM : Met l y ws rm (va_Pc (.ref b :: As) (GW D tys w H.size)) (va_Qi post (fun u => GB D tys (va_A w H.size) (wf u)) (va_A w H.size)) mc ms (va_A w H.size)) (cw : CallW R s args own C index y bytes maxL ret ws rm mc ms n) (hP : va_P D vwCl (X ++ w) H) (hK : va_K D vwCl tys s) (hD : va_D A0 (X ++ w)) (hS : va_S A0 s.heap H locs) (hA : ∀ q, s.heap.size ≤ q → A0 q) (q0 : Nat) (he : w[q0]? = some (b, .inr (ci, fs))) (hc : vwCl[ci]? = some (C, T, N)) (hn : As.length = n) (hsize : ls.size = nL) (hst : st0 = As.reverse ++ .ref b :: rest) (hW : (rest.map fun v => v.category).sum ≤ 8) (hdg : decode cc pc = .ok (.invokevirtual index, 3)) (hf : cells + mc ≤ R.cells ∧ slots + ms ≤ R.slots)
    (kk : ∀ (r : Int32) (u : S), post r u → ∀ (H1 : Heap) (locs1 : List Loc), va_P D vwCl (X ++ wf u) H1 → va_D A0 (X ++ wf u) → va_S A0 s.heap H1 locs1 → W p l e R s m args below meth c H1 locs1 (cells + mc) (slots + ms) Q (F0 m (pc + 3) ls (.int r :: rest))) : W p l e R s m args below meth c H locs cells slots Q (F0 m pc ls st0) :=
  va_calli (va_runV (g := F0 m pc ls st0) S0 hM cw ⟨GW_blind _, va_recv hK (fr_r hP) hc he, fun U hU hw => ⟨rfl, by rw [hU], by rw [hU]; exact fr_r hP, va_K.moved hw.alike hK, (fd_r hD).weaken (fun _ _ _ _ => trivial)⟩⟩ rfl hn hsize hst (lv_room hW) hdg hf) hS (fun q _ h => gw_free (fd_r hD) hS hA q h) (gw_free (fd_r hD) hS hA)
    (fun r u t H1 locs1 ht _ hw hB _ hk hS1 => by
      have hj := fr_join hP hD hS hA hk (by rw [← ht]; exact hB.1) hB.2.2
      exact kk r u hw H1 locs1 hj.1 hj.2 hS1)
theorem wf_VWl {S : Type} {post : Int64 → S → Prop} {wf : S → va_W} (S0 : CallFix p m c cc nL s args Ts own) (hM : Met l y ws rm (va_Pc (.ref b :: As) (GW D tys w H.size)) (va_Ql post (fun u => GB D tys (va_A w H.size) (wf u)) (va_A w H.size)) mc ms (va_A w H.size)) (cw : CallW R s args own C index y bytes maxL ret ws rm mc ms n) (hP : va_P D vwCl (X ++ w) H) (hK : va_K D vwCl tys s) (hD : va_D A0 (X ++ w)) (hS : va_S A0 s.heap H locs) (hA : ∀ q, s.heap.size ≤ q → A0 q) (q0 : Nat) (he : w[q0]? = some (b, .inr (ci, fs))) (hc : vwCl[ci]? = some (C, T, N)) (hn : As.length = n) (hsize : ls.size = nL) (hst : st0 = As.reverse ++ .ref b :: rest) (hW : (rest.map fun v => v.category).sum ≤ 8) (hdg : decode cc pc = .ok (.invokevirtual index, 3)) (hf : cells + mc ≤ R.cells ∧ slots + ms ≤ R.slots)
    (kk : ∀ (r : Int64) (u : S), post r u → ∀ (H1 : Heap) (locs1 : List Loc), va_P D vwCl (X ++ wf u) H1 → va_D A0 (X ++ wf u) → va_S A0 s.heap H1 locs1 → W p l e R s m args below meth c H1 locs1 (cells + mc) (slots + ms) Q (F0 m (pc + 3) ls (.long r :: rest))) : W p l e R s m args below meth c H locs cells slots Q (F0 m pc ls st0) :=
  va_calll (va_runV (g := F0 m pc ls st0) S0 hM cw ⟨GW_blind _, va_recv hK (fr_r hP) hc he, fun U hU hw => ⟨rfl, by rw [hU], by rw [hU]; exact fr_r hP, va_K.moved hw.alike hK, (fd_r hD).weaken (fun _ _ _ _ => trivial)⟩⟩ rfl hn hsize hst (lv_room hW) hdg hf) hS (fun q _ h => gw_free (fd_r hD) hS hA q h) (gw_free (fd_r hD) hS hA)
    (fun r u t H1 locs1 ht _ hw hB _ hk hS1 => by
      have hj := fr_join hP hD hS hA hk (by rw [← ht]; exact hB.1) hB.2.2
      exact kk r u hw H1 locs1 hj.1 hj.2 hS1)
theorem wf_VWv {S : Type} {post : S → Prop} {wf : S → va_W} (S0 : CallFix p m c cc nL s args Ts own) (hM : Met l y ws rm (va_Pc (.ref b :: As) (GW D tys w H.size)) (va_Qv post (fun u => GB D tys (va_A w H.size) (wf u)) (va_A w H.size)) mc ms (va_A w H.size)) (cw : CallW R s args own C index y bytes maxL ret ws rm mc ms n) (hP : va_P D vwCl (X ++ w) H) (hK : va_K D vwCl tys s) (hD : va_D A0 (X ++ w)) (hS : va_S A0 s.heap H locs) (hA : ∀ q, s.heap.size ≤ q → A0 q) (q0 : Nat) (he : w[q0]? = some (b, .inr (ci, fs))) (hc : vwCl[ci]? = some (C, T, N)) (hn : As.length = n) (hsize : ls.size = nL) (hst : st0 = As.reverse ++ .ref b :: rest) (hW : (rest.map fun v => v.category).sum ≤ 8) (hdg : decode cc pc = .ok (.invokevirtual index, 3)) (hf : cells + mc ≤ R.cells ∧ slots + ms ≤ R.slots)
    (kk : ∀ (u : S), post u → ∀ (H1 : Heap) (locs1 : List Loc), va_P D vwCl (X ++ wf u) H1 → va_D A0 (X ++ wf u) → va_S A0 s.heap H1 locs1 → W p l e R s m args below meth c H1 locs1 (cells + mc) (slots + ms) Q (F0 m (pc + 3) ls (rest))) : W p l e R s m args below meth c H locs cells slots Q (F0 m pc ls st0) :=
  va_callv (va_runV (g := F0 m pc ls st0) S0 hM cw ⟨GW_blind _, va_recv hK (fr_r hP) hc he, fun U hU hw => ⟨rfl, by rw [hU], by rw [hU]; exact fr_r hP, va_K.moved hw.alike hK, (fd_r hD).weaken (fun _ _ _ _ => trivial)⟩⟩ rfl hn hsize hst (lv_room hW) hdg hf) hS (fun q _ h => gw_free (fd_r hD) hS hA q h) (gw_free (fd_r hD) hS hA)
    (fun u t H1 locs1 ht _ hw hB _ hk hS1 => by
      have hj := fr_join hP hD hS hA hk (by rw [← ht]; exact hB.1) hB.2.2
      exact kk u hw H1 locs1 hj.1 hj.2 hS1)
theorem wf_VWin {S : Type} {post : Int32 → S → Prop} {wf : S → va_W} (S0 : CallFix p m c cc nL s args Ts own) (hM : Met l y ws rm (va_Pc (.ref b :: As) (GN D tys w H.size)) (va_Qi post (fun u => GB D tys (va_A w H.size) (wf u)) (va_A w H.size)) mc ms (va_A w H.size)) (cw : CallW R s args own C index y bytes maxL ret ws rm mc ms n) (hP : va_P D vwCl (X ++ w) H) (hK : va_K D vwCl tys s) (hD : va_D A0 (X ++ w)) (hS : va_S A0 s.heap H locs) (hA : ∀ q, s.heap.size ≤ q → A0 q) (hNw : va_Nw (.castable "[I" "java/lang/Cloneable") s) (q0 : Nat) (he : w[q0]? = some (b, .inr (ci, fs))) (hc : vwCl[ci]? = some (C, T, N)) (hn : As.length = n) (hsize : ls.size = nL) (hst : st0 = As.reverse ++ .ref b :: rest) (hW : (rest.map fun v => v.category).sum ≤ 8) (hdg : decode cc pc = .ok (.invokevirtual index, 3)) (hf : cells + mc ≤ R.cells ∧ slots + ms ≤ R.slots)
    (kk : ∀ (r : Int32) (u : S), post r u → ∀ (H1 : Heap) (locs1 : List Loc), va_P D vwCl (X ++ wf u) H1 → va_D A0 (X ++ wf u) → va_S A0 s.heap H1 locs1 → W p l e R s m args below meth c H1 locs1 (cells + mc) (slots + ms) Q (F0 m (pc + 3) ls (.int r :: rest))) : W p l e R s m args below meth c H locs cells slots Q (F0 m pc ls st0) :=
  va_calli (va_runV (g := F0 m pc ls st0) S0 hM cw ⟨GN_blind _, va_recv hK (fr_r hP) hc he, fun U hU hw => ⟨rfl, ⟨by rw [hU], by rw [hU]; exact fr_r hP, va_K.moved hw.alike hK, (fd_r hD).weaken (fun _ _ _ _ => trivial)⟩, va_Nw.warmC hw hNw⟩⟩ rfl hn hsize hst (lv_room hW) hdg hf) hS (fun q _ h => gw_free (fd_r hD) hS hA q h) (gw_free (fd_r hD) hS hA)
    (fun r u t H1 locs1 ht _ hw hB _ hk hS1 => by
      have hj := fr_join hP hD hS hA hk (by rw [← ht]; exact hB.1) hB.2.2
      exact kk r u hw H1 locs1 hj.1 hj.2 hS1)
theorem wf_SWi {S : Type} {post : Int32 → S → Prop} {wf : S → va_W} {hh : List (Nat × Nat × Nat × Nat)} (S0 : CallFix p m c cc nL s args Ts own) (hM : Met l y ws rm (va_Pc As (GY D tys w H.size)) (va_Qi post (fun u => GB D tys (va_A w H.size) (wf u)) (va_A w H.size)) mc ms (va_A w H.size)) (cw : vx_CSW R s args own index y bytes maxL ret hh ws rm mc ms n) (hP : va_P D vwCl (X ++ w) H) (hK : va_K D vwCl tys s) (hD : va_D A0 (X ++ w)) (hS : va_S A0 s.heap H locs) (hA : ∀ q, s.heap.size ≤ q → A0 q) (hYE : YE A0 s s.heap) (hn : As.length = n) (hsize : ls.size = nL) (hst : st0 = As.reverse ++ rest) (hW : (rest.map fun v => v.category).sum ≤ 8) (hdg : decode cc pc = .ok (.invokestatic index, 3)) (hf : cells + mc ≤ R.cells ∧ slots + ms ≤ R.slots)
    (kk : ∀ (r : Int32) (u : S), post r u → ∀ (H1 : Heap) (locs1 : List Loc), va_P D vwCl (X ++ wf u) H1 → va_D A0 (X ++ wf u) → va_S A0 s.heap H1 locs1 → W p l e R s m args below meth c H1 locs1 (cells + mc) (slots + ms) Q (F0 m (pc + 3) ls (.int r :: rest))) : W p l e R s m args below meth c H locs cells slots Q (F0 m pc ls st0) :=
  va_calli (vx_runSW (g := F0 m pc ls st0) S0 hM cw ⟨GY_blind _, fun U hU hw => ⟨rfl, ⟨by rw [hU], by rw [hU]; exact fr_r hP, va_K.moved hw.alike hK, (fd_r hD).weaken (fun _ _ _ _ => trivial)⟩, by rw [hU]; exact ((hYE.kept hS).warm hw).narrow (gw_free (fd_r hD) hS hA)⟩⟩ rfl hn hsize hst (lv_room hW) hdg hf) hS (fun q _ h => gw_free (fd_r hD) hS hA q h) (gw_free (fd_r hD) hS hA)
    (fun r u t H1 locs1 ht _ hw hB _ hk hS1 => by
      have hj := fr_join hP hD hS hA hk (by rw [← ht]; exact hB.1) hB.2.2
      exact kk r u hw H1 locs1 hj.1 hj.2 hS1)
/-- a virtual call that throws, beside a part of the world that is left alone -/
theorem wf_X {S : Type} {post : S → Prop} {wf : S → va_W} {E0 : String} (S0 : CallFix p m c cc nL s args Ts own) (hM : vx_Met l y ws rm (va_Pc (.ref b :: As) (GX D tys w H.size)) xNo (xXC D tys E0 post wf (va_A w H.size)) mc ms (va_A w H.size)) (cw : CallW R s args own C index y bytes maxL ret ws rm mc ms n) (hP : va_P D vwCl (X ++ w) H) (hK : va_K D vwCl tys s) (hD : va_D A0 (X ++ w)) (hS : va_S A0 s.heap H locs) (hA : ∀ q, s.heap.size ≤ q → A0 q) (hXE : XE A0 s s.heap) (q0 : Nat) (he : w[q0]? = some (b, .inr (ci, fs))) (hc : vwCl[ci]? = some (C, T, N)) (hn : As.length = n) (hsize : ls.size = nL) (hst : st0 = As.reverse ++ .ref b :: rest) (hW : (rest.map fun v => v.category).sum ≤ 8) (hdg : decode cc pc = .ok (.invokevirtual index, 3)) (hf : cells + mc ≤ R.cells ∧ slots + ms ≤ R.slots)
    (kx : ∀ (u : S), post u → ∀ (H1 : Heap) (locs1 : List Loc) (ce : Cell) (q9 : Addr), va_P D vwCl (X ++ wf u) H1 → va_D A0 (X ++ wf u) → va_S A0 s.heap H1 locs1 → H1[q9]? = some ce → ce.vm = .none → s.vm.findClass E0 = some ce.cls → vx_W p l e R s m args below meth c H1 locs1 (cells + mc) (slots + ms) Q (F0 m pc ls rest) q9) : W p l e R s m args below meth c H locs cells slots Q (F0 m pc ls st0) :=
  vx_callv (vx_runV (g := F0 m pc ls st0) S0 hM cw ⟨GX_blind _, va_recv hK (fr_r hP) hc he, fun U hU hw => ⟨rfl, ⟨by rw [hU], by rw [hU]; exact fr_r hP, va_K.moved hw.alike hK, (fd_r hD).weaken (fun _ _ _ _ => trivial)⟩, by rw [hU]; exact ((hXE.kept hS).warm hw).narrow (gw_free (fd_r hD) hS hA)⟩⟩ rfl hn hsize hst (lv_room hW) hdg hf) hS (fun _ _ h => h.elim) (gw_free (fd_r hD) hS hA) (fun q _ h => gw_free (fd_r hD) hS hA q h)
    (fun E ce q9 u t H1 locs1 ht _ hpu hB _ hk hS1 hce hcv hcl => by
      obtain ⟨rfl, hB⟩ := hB
      have hj := fr_join hP hD hS hA hk (by rw [← ht]; exact hB.1) hB.2.2
      exact kx u hpu H1 locs1 ce q9 hj.1 hj.2 hS1 hce hcv hcl)
    (fun u t H1 locs1 _ _ h => h.elim)
end Frames
