/-! rows copied by the machine -/
section Copy
variable {p : Program} {l : Launch} {e : Env} {R : Room} {s : State} {m : MethodId} {args : Array Value} {below : List Frame} {meth : Method} {c : Code} {H : Heap} {locs : List Loc} {cells slots : Nat} {Q : State → Prop}
variable {cc : ByteArray} {pc : Nat} {ls : Array Slot} {rest : List Value} {D : va_G} {cl : List vw_C} {A : Nat → Prop} {q : Nat} {tys : List (ClassId × FieldType)} {H0 : Heap}
variable {X : va_W} {L : List Nat} {F : Nat → va_E}
theorem wp_cpyPF (hexec : p.tables.exec = Jvm.exec) (hb : c.code = cc) (hml : c.maxLocals = ls.size) {own : String} {index : Nat} (hown : s.vm.findClass own = some m.cls) (hlink : (Cond.methodLink own index arraycopyName).before args s = true) (hnat : (Cond.native arraycopyName).before args s = true) (hstat : (Cond.static arraycopyName).before args s = true) (hini : (Cond.initialized "java/lang/System").before args s = true)
    (hK : va_K D cl tys s) (hP : va_P D cl (X ++ va_pl L F) H) (hD : va_D A (X ++ va_pl L F)) (hS : va_S A H0 H locs) (q1 t0 : Nat) {a : Nat} {cI : ClassId} {n0 n1 : Nat} {f g : Nat → Nat} (hI : isI cI L F q n0 f) (ha1 : (X ++ va_pl L F)[q1]? = some (a, .inl (cI, n1, .inl (fun j => nI (g j))))) (ht0 : tys[t0]? = some (cI, .int)) {s9 d9 n9 : Nat} (h4 : s9 + n9 ≤ n0) (h5 : d9 + n9 ≤ n1) (hb0 : n0 < 2000) (hb1 : n1 < 2000)
    (hframes : 1 ≤ R.frames) (hlocals : (rest.map fun v => v.category).sum + (nativeFrameWords "java/lang/System" "arraycopy" 5 + 11) ≤ R.locals) (hdg : decode cc pc = .ok (.invokestatic index, 3))
    (kk : ∀ (H1 : Heap) (locs1 : List Loc), va_P D cl ((X ++ va_pl L F).set q1 (a, .inl (cI, n1, .inl (fun j => nI (va_cpy f g s9 d9 n9 j))))) H1 → va_D A ((X ++ va_pl L F).set q1 (a, .inl (cI, n1, .inl (fun j => nI (va_cpy f g s9 d9 n9 j))))) → va_S A H0 H1 locs1 → W p l e R s m args below meth c H1 locs1 cells slots Q (F0 m (pc + 3) ls rest)) : W p l e R s m args below meth c H locs cells slots Q (F0 m pc ls (.int (nI n9) :: .int (nI d9) :: .ref a :: .int (nI s9) :: .ref q :: rest)) := by
  obtain ⟨k9, h9⟩ := va_pl_get (X := X) (f := F) hI.1
  rw [hI.2] at h9
  refine va_copyi hexec hb hml hown hlink hnat hstat hini hK hP hD hS k9 q1 t0 t0 h9 ha1 ht0 ht0 rfl (nI_pos (by omega)) (nI_pos (by omega)) (nI_pos (by omega)) (by rw [nI_cl (by omega), nI_cl (by omega)]; exact h4) (by rw [nI_cl (by omega), nI_cl (by omega)]; exact h5) (fun _ _ => rfl) hframes hlocals hdg (fun H1 locs1 a1 a2 a3 => ?_)
  rw [nI_cl (by omega), nI_cl (by omega), nI_cl (by omega), cpy_nI] at a1 a2
  exact kk H1 locs1 a1 a2 a3
theorem wp_cpyFP (hexec : p.tables.exec = Jvm.exec) (hb : c.code = cc) (hml : c.maxLocals = ls.size) {own : String} {index : Nat} (hown : s.vm.findClass own = some m.cls) (hlink : (Cond.methodLink own index arraycopyName).before args s = true) (hnat : (Cond.native arraycopyName).before args s = true) (hstat : (Cond.static arraycopyName).before args s = true) (hini : (Cond.initialized "java/lang/System").before args s = true)
    (hK : va_K D cl tys s) (hP : va_P D cl (X ++ va_pl L F) H) (hD : va_D A (X ++ va_pl L F)) (hS : va_S A H0 H locs) (q0 t0 : Nat) {a : Nat} {cI : ClassId} {n0 n1 : Nat} {f g : Nat → Nat} (ha0 : (X ++ va_pl L F)[q0]? = some (a, .inl (cI, n0, .inl (fun j => nI (f j))))) (hI : isI cI L F q n1 g) (ht0 : tys[t0]? = some (cI, .int)) {s9 d9 n9 : Nat} (h4 : s9 + n9 ≤ n0) (h5 : d9 + n9 ≤ n1) (hb0 : n0 < 2000) (hb1 : n1 < 2000)
    (hframes : 1 ≤ R.frames) (hlocals : (rest.map fun v => v.category).sum + (nativeFrameWords "java/lang/System" "arraycopy" 5 + 11) ≤ R.locals) (hdg : decode cc pc = .ok (.invokestatic index, 3))
    (kk : ∀ (H1 : Heap) (locs1 : List Loc), va_P D cl (X ++ va_pl L (va_up F q (.inl (cI, n1, .inl (fun j => nI (va_cpy f g s9 d9 n9 j)))))) H1 → va_D A (X ++ va_pl L (va_up F q (.inl (cI, n1, .inl (fun j => nI (va_cpy f g s9 d9 n9 j)))))) → va_S A H0 H1 locs1 → W p l e R s m args below meth c H1 locs1 cells slots Q (F0 m (pc + 3) ls rest)) : W p l e R s m args below meth c H locs cells slots Q (F0 m pc ls (.int (nI n9) :: .int (nI d9) :: .ref q :: .int (nI s9) :: .ref a :: rest)) := by
  obtain ⟨k9, h9⟩ := va_pl_get (X := X) (f := F) hI.1
  have h8 := h9
  rw [hI.2] at h9
  refine va_copyi hexec hb hml hown hlink hnat hstat hini hK hP hD hS q0 k9 t0 t0 ha0 h9 ht0 ht0 rfl (nI_pos (by omega)) (nI_pos (by omega)) (nI_pos (by omega)) (by rw [nI_cl (by omega), nI_cl (by omega)]; exact h4) (by rw [nI_cl (by omega), nI_cl (by omega)]; exact h5) (fun _ _ => rfl) hframes hlocals hdg (fun H1 locs1 a1 a2 a3 => ?_)
  rw [nI_cl (by omega), nI_cl (by omega), nI_cl (by omega), cpy_nI, va_pl_set hD hI.1 h8] at a1 a2
  exact kk H1 locs1 a1 a2 a3
theorem wp_clone (hexec : p.tables.exec = Jvm.exec) (hb : c.code = cc) (hml : c.maxLocals = ls.size) {own : String} {index : Nat} (hown : s.vm.findClass own = some m.cls)
    (hlink : (Cond.methodLink own index ⟨"[I", "clone", "()Ljava/lang/Object;"⟩).before args s = true) (hsame : (Cond.sameMethod "[I" "java/lang/Object" "clone" "()Ljava/lang/Object;").before args s = true)
    (hnat : (Cond.native ⟨"java/lang/Object", "clone", "()Ljava/lang/Object;"⟩).before args s = true) (hinst : (Cond.instanceMethod ⟨"java/lang/Object", "clone", "()Ljava/lang/Object;"⟩).before args s = true)
    (hsel : (Cond.selects "[I" ⟨"[I", "clone", "()Ljava/lang/Object;"⟩ ⟨"java/lang/Object", "clone", "()Ljava/lang/Object;"⟩).before args s = true) (hcl : va_Nw (.castable "[I" "java/lang/Cloneable") s)
    (hK : va_K D cl tys s) (hP : va_P D cl (X ++ va_pl L F) H) (hD : va_D A (X ++ va_pl L F)) (hS : va_S A H0 H locs) (hA : ∀ q, H0.size ≤ q → A q) (q0 t0 : Nat) {a : Nat} {cI : ClassId} {n0 : Nat} {f : Nat → Nat} (ha : (X ++ va_pl L F)[q0]? = some (a, .inl (cI, n0, .inl (fun j => nI (f j))))) (ht : tys[t0]? = some (cI, .int))
    (hframes : 1 ≤ R.frames) (hlocals : (rest.map fun v => v.category).sum + 14 ≤ R.locals) (hcells : cells + 1 ≤ R.cells) (hslots : slots + n0 ≤ R.slots) (hdg : decode cc pc = .ok (.invokevirtual index, 3))
    (kk : ∀ (q : Nat) (H1 : Heap), q ∉ L → va_P D cl (X ++ va_pl (L ++ [q]) (va_up F q (.inl (cI, n0, .inl (fun j => nI (f j)))))) H1 → va_D A (X ++ va_pl (L ++ [q]) (va_up F q (.inl (cI, n0, .inl (fun j => nI (f j)))))) → va_S A H0 H1 locs →
      W p l e R s m args below meth c H1 locs (cells + 1) (slots + n0) Q (F0 m (pc + 3) ls (.ref q :: rest))) : W p l e R s m args below meth c H locs cells slots Q (F0 m pc ls (.ref a :: rest)) := by
  refine va_clone (x := (n0, .inl (fun j => nI (f j)))) hexec hb hml hown hlink hsame hnat hinst hsel hcl hK hP hD hS hA q0 t0 ha ht (hK.2 t0 (cI, .int) ht).2 (fun i v hv => by
    simp only [vp_cell, arrV] at hv
    obtain ⟨h1, h2⟩ := Array.getElem?_eq_some_iff.mp hv
    rw [← h2]; simp [fits]) hframes hlocals hcells hslots hdg (fun q H1 _ hP1 hD1 hS1 => ?_)
  have hf : q ∉ L := va_pl_fresh2 hD1
  rw [List.append_assoc, va_pl_push hf] at hP1 hD1
  exact kk q H1 hf hP1 hD1 hS1
theorem wp_castA (hexec : p.tables.exec = Jvm.exec) (hb : c.code = cc) {own : String} {index : Nat} (hown : s.vm.findClass own = some m.cls) (hlink : (Cond.classLink own index "[I").before args s = true) (hP : va_P D cl (X ++ va_pl L F) H) {cI : ClassId} {n : Nat} {f : Nat → Nat} (hI : isI cI L F q n f) (hK : va_K D cl tys s) (t0 : Nat) (ht : tys[t0]? = some (cI, .int)) (hdg : decode cc pc = .ok (.checkcast index, 3))
    (k : W p l e R s m args below meth c H locs cells slots Q (F0 m (pc + 3) ls (.ref q :: rest))) : W p l e R s m args below meth c H locs cells slots Q (F0 m pc ls (.ref q :: rest)) := by
  obtain ⟨k9, h9⟩ := va_pl_get (X := X) (f := F) hI.1
  rw [hI.2] at h9
  exact va_castA hexec hb hown hlink hP k9 h9 (hK.2 t0 (cI, .int) ht).2 hdg k
end Copy
def coM (cI : ClassId) (C : CT) (n q : Nat) : CT := (mkC (k_ra C) (k_rb C) (k_vc C) (k_rc C) (k_pc C) (k_nw C) (k_n C) (k_fn C) (k_sn C) (k_kc C) (k_grp C) (k_key C) (k_srt C) (k_wt C) (k_home C) (k_drp C) (k_met C) (k_kin C) (k_alv C) (k_srs C) (k_row C) (k_sp C) (k_kis C) (k_pg C) (k_vq C) (k_rq C) (k_L C ++ [q]) (va_up (k_F C) (q) (.inl (cI, n, .inl (fun j => nI (cpR (k_row C) n j))))))
def rm_X0_load : Room := { frames := 1, cells := 0, slots := 0, locals := 40 }
set_option maxHeartbeats 4000000 in
set_option maxRecDepth 100000 in
/-- objects are loaded -/
theorem c_X0_load (l : Launch) (D : va_G) (cI cJ cZ cV cR : ClassId) (a : Nat → Nat) (C : CT) (hM : kOk C) (q n9 m9 : Nat) (f9 : Nat → Nat) (hI : isI cI (k_L C) (k_F C) q n9 f9) (hn9 : n9 ≤ 300) (hm9 : m9 ≤ n9) (sz : Nat) : Met l yX0_load wsX0_load rm_X0_load (va_Pc [.ref (a 11), .ref (q), .int (nI (m9))] (GW D (tyK cI cJ cZ cV cR) (kW cI cJ cZ cV cR a C) sz)) (va_Qv (fun u => u = ldM C f9 m9) (fun u => GB D (tyK cI cJ cZ cV cR) (va_A (kW cI cJ cZ cV cR a C) sz) (kW cI cJ cZ cV cR a u)) (va_A (kW cI cJ cZ cV cR a C) sz)) 0 0 (va_A (kW cI cJ cZ cV cR a C) sz) := by
  obtain ⟨hn, hfn, hsn, hvc, hrc, hpc, hnw, hkc, h_home, h_kin, h_alv, h_srs, h_row, h_sp, h_kis, h_pg⟩ := id hM
  have hmn : min m9 n9 = m9 := Nat.min_eq_left hm9
  refine Met.ofW (cc := cX0_load) (maxL := 3) (ret := none) (by decide) rfl ?_
  intro p e s m args below meth c s₁ B hml hv
  obtain ⟨rfl, hsz, hP, hK, hD0⟩ := hv
  have hx := B.exec
  have hb := B.bytes
  have hr := B.returns
  have hts := atoms_spec (ws := wsX0_load) B.pre
  have hown : s.vm.findClass RX0 = some m.cls := findClass_of_methodNamed B.named
  have hlocks := B.notSynchronized
  subst hsz
  have hD := hD0.self (sz := s.heap.size)
  generalize hAe : va_A (kW cI cJ cZ cV cR a C) s.heap.size = A at hD ⊢
  have hA : ∀ q : Nat, s.heap.size ≤ q → A q := fun q h => by rw [← hAe]; exact Or.inr h
  have hS : va_S A s.heap s.heap [] := va_S.rf
  have hP : va_P D vwCl (kX cI cJ cZ cV cR a (k_ra C) (k_rb C) (k_vc C) (k_rc C) (k_pc C) (k_nw C) (k_n C) (k_fn C) (k_sn C) (k_kc C) (k_grp C) (k_key C) (k_srt C) (k_wt C) (k_home C) (k_drp C) (k_met C) (k_kin C) (k_alv C) (k_srs C) (k_row C) (k_sp C) (k_kis C) (k_pg C) (k_vq C) (k_rq C) (k_L C) (k_F C)) s.heap := hP
  have hD : va_D A (kX cI cJ cZ cV cR a (k_ra C) (k_rb C) (k_vc C) (k_rc C) (k_pc C) (k_nw C) (k_n C) (k_fn C) (k_sn C) (k_kc C) (k_grp C) (k_key C) (k_srt C) (k_wt C) (k_home C) (k_drp C) (k_met C) (k_kin C) (k_alv C) (k_srs C) (k_row C) (k_sp C) (k_kis C) (k_pg C) (k_vq C) (k_rq C) (k_L C) (k_F C)) := hD
  have hiX0 : ∀ w ∈ wsX00, w ∈ wsX0_load := by decide +kernel
  have hf0 := hts (.methodLink RX0 37 Lib.Math.min.name) (by decide +kernel)
  have hf1 := hts (.static Lib.Math.min.name) (by decide +kernel)
  have hf2 := hts (.initialized "java/lang/Math") (by decide +kernel)
  have hf3 := hts (.code Lib.Math.min.name Lib.Math.min.code 2 (some .int)) (by decide +kernel)
  have hf4 := hts (.fieldLink RX0 29 "GroupCursors$Ranking" "count" "I") (by decide +kernel)
  have hf5 := hts (.fieldLink RX0 9 "GroupCursors$Ranking" "row" "[I") (by decide +kernel)
  have hf6 := hts (.methodLink RX0 43 arraycopyName) (by decide +kernel)
  have hf7 := hts (.native arraycopyName) (by decide +kernel)
  have hf8 := hts (.static arraycopyName) (by decide +kernel)
  have hf9 := hts (.initialized "java/lang/System") (by decide +kernel)
  have hl := lv_entry ([.ref (a 11), .ref (q), .int (nI (m9))]) (n := 3) (Nat.le_of_ble_eq_true rfl)
  rw [lg_entry_eq]
  generalize (lg_sl ([.ref (a 11), .ref (q), .int (nI (m9))]) ++ List.replicate (3 - (lg_sl ([.ref (a 11), .ref (q), .int (nI (m9))])).length) Slot.unset).toArray = ls at hl ⊢
  have hl : lv_has ls 3 [(0, .ref (a 11)), (1, .ref (q)), (2, .int (nI (m9)))] := hl
  refine lv_aload_n hx hb dX0_load_0 rfl (lv_at hl 0 rfl) ?_
  refine lv_iload_n hx hb dX0_load_1 rfl (lv_at hl 2 rfl) ?_
  refine lv_aload_n hx hb dX0_load_2 rfl (lv_at hl 1 rfl) ?_
  refine wp_len hx hb hK hP hI.1 0 hI.2 rfl dX0_load_3 ?_
  refine va_mmin hx hb (hml.trans hl.1.symm) hown hf0 hf1 hf2 hf3 (Nat.le_of_ble_eq_true rfl) (Nat.le_of_ble_eq_true rfl) (Nat.zero_le _) (Nat.zero_le _) dX0_load_4 (ww_top (y := nI (min (m9) (n9))) (nmin (by omega) (by omega)) ?_)
  refine va_put (ci := 0) (v := .int (nI (min (m9) (n9)))) (ty := .int) (C := RX0) (T := TX0) (N := 7) hx hb hts hiX0 tyX0 tyX0_ok nmX0 hown hK hP hD hS 11 rfl rfl 6 (by decide) hf4 (fun _ h9 => h9) rfl (by decide +kernel) rfl rfl (Nat.le_of_ble_eq_true rfl) dX0_load_7 (fun H locs hP hD hS => ?_)
  have hP : va_P D vwCl (kX cI cJ cZ cV cR a (k_ra C) (k_rb C) (k_vc C) (k_rc C) (k_pc C) (k_nw C) (k_n C) (k_fn C) (k_sn C) (min (m9) (n9)) (k_grp C) (k_key C) (k_srt C) (k_wt C) (k_home C) (k_drp C) (k_met C) (k_kin C) (k_alv C) (k_srs C) (k_row C) (k_sp C) (k_kis C) (k_pg C) (k_vq C) (k_rq C) (k_L C) (k_F C)) H := hP
  have hD : va_D A (kX cI cJ cZ cV cR a (k_ra C) (k_rb C) (k_vc C) (k_rc C) (k_pc C) (k_nw C) (k_n C) (k_fn C) (k_sn C) (min (m9) (n9)) (k_grp C) (k_key C) (k_srt C) (k_wt C) (k_home C) (k_drp C) (k_met C) (k_kin C) (k_alv C) (k_srs C) (k_row C) (k_sp C) (k_kis C) (k_pg C) (k_vq C) (k_rq C) (k_L C) (k_F C)) := hD
  refine lv_aload_n hx hb dX0_load_10 rfl (lv_at hl 1 rfl) ?_
  refine lv_iconst (v := nI (0)) hx hb dX0_load_11 (by decide) ?_
  refine lv_aload_n hx hb dX0_load_12 rfl (lv_at hl 0 rfl) ?_
  refine va_get (ci := 0) (v := .ref (k_ra C)) (C := RX0) (T := TX0) (N := 7) hx hb hts hiX0 hown hK hP 11 rfl rfl 1 (by decide) hf5 (fun _ h9 => h9) rfl dX0_load_13 ?_
  refine lv_iconst (v := nI (0)) hx hb dX0_load_16 (by decide) ?_
  refine lv_aload_n hx hb dX0_load_17 rfl (lv_at hl 0 rfl) ?_
  refine va_get (ci := 0) (v := .int (nI (min (m9) (n9)))) (C := RX0) (T := TX0) (N := 7) hx hb hts hiX0 hown hK hP 11 rfl rfl 6 (by decide) hf4 (fun _ h9 => h9) rfl dX0_load_18 ?_
  refine wp_cpyPF (f := f9) (g := k_row C) (s9 := 0) (d9 := 0) (n9 := min (m9) (n9)) hx hb (hml.trans hl.1.symm) hown hf6 hf7 hf8 hf9 hK hP hD hS 12 0 hI rfl rfl (by omega) (by omega) (by omega) (by omega) (Nat.le_of_ble_eq_true rfl) (Nat.le_of_ble_eq_true rfl) dX0_load_21 (fun H locs hP hD hS => ?_)
  have hP : va_P D vwCl (kX cI cJ cZ cV cR a (k_ra C) (k_rb C) (k_vc C) (k_rc C) (k_pc C) (k_nw C) (k_n C) (k_fn C) (k_sn C) (min (m9) (n9)) (k_grp C) (k_key C) (k_srt C) (k_wt C) (k_home C) (k_drp C) (k_met C) (k_kin C) (k_alv C) (k_srs C) (va_cpy (f9) (k_row C) (0) (0) (min (m9) (n9))) (k_sp C) (k_kis C) (k_pg C) (k_vq C) (k_rq C) (k_L C) (k_F C)) H := hP
  have hD : va_D A (kX cI cJ cZ cV cR a (k_ra C) (k_rb C) (k_vc C) (k_rc C) (k_pc C) (k_nw C) (k_n C) (k_fn C) (k_sn C) (min (m9) (n9)) (k_grp C) (k_key C) (k_srt C) (k_wt C) (k_home C) (k_drp C) (k_met C) (k_kin C) (k_alv C) (k_srs C) (va_cpy (f9) (k_row C) (0) (0) (min (m9) (n9))) (k_sp C) (k_kis C) (k_pg C) (k_vq C) (k_rq C) (k_L C) (k_F C)) := hD
  have hPm : va_P D vwCl (kW cI cJ cZ cV cR a (mkC (k_ra C) (k_rb C) (k_vc C) (k_rc C) (k_pc C) (k_nw C) (k_n C) (k_fn C) (k_sn C) (min (m9) (n9)) (k_grp C) (k_key C) (k_srt C) (k_wt C) (k_home C) (k_drp C) (k_met C) (k_kin C) (k_alv C) (k_srs C) (va_cpy (f9) (k_row C) (0) (0) (min (m9) (n9))) (k_sp C) (k_kis C) (k_pg C) (k_vq C) (k_rq C) (k_L C) (k_F C))) H := by rw [← kX_mk]; exact hP
  have hDm : va_D A (kW cI cJ cZ cV cR a (mkC (k_ra C) (k_rb C) (k_vc C) (k_rc C) (k_pc C) (k_nw C) (k_n C) (k_fn C) (k_sn C) (min (m9) (n9)) (k_grp C) (k_key C) (k_srt C) (k_wt C) (k_home C) (k_drp C) (k_met C) (k_kin C) (k_alv C) (k_srs C) (va_cpy (f9) (k_row C) (0) (0) (min (m9) (n9))) (k_sp C) (k_kis C) (k_pg C) (k_vq C) (k_rq C) (k_L C) (k_F C))) := by rw [← kX_mk]; exact hD
  exact W.vret hx hb hr (fun t ht hW => ⟨⟨(mkC (k_ra C) (k_rb C) (k_vc C) (k_rc C) (k_pc C) (k_nw C) (k_n C) (k_fn C) (k_sn C) (min (m9) (n9)) (k_grp C) (k_key C) (k_srt C) (k_wt C) (k_home C) (k_drp C) (k_met C) (k_kin C) (k_alv C) (k_srs C) (va_cpy (f9) (k_row C) (0) (0) (min (m9) (n9))) (k_sp C) (k_kis C) (k_pg C) (k_vq C) (k_rq C) (k_L C) (k_F C)), rfl, (by show (_ : CT) = ldM C f9 m9; rw [ldM, hmn]), gb_mk ht hW hPm hK hDm⟩, hS.F ht⟩) hS.2.2 dX0_load_24
def rm_J7_copyOf_59c91 : Room := { frames := 1, cells := 1, slots := 300, locals := 40 }
set_option maxHeartbeats 4000000 in
set_option maxRecDepth 100000 in
/-- a row is copied -/
theorem c_J7_copyOf_59c91 (l : Launch) (D : va_G) (cI cJ cZ cV cR : ClassId) (a : Nat → Nat) (C : CT) (hM : kOk C) (n9 : Nat) (hn9 : n9 ≤ 300) (sz : Nat) : Met l yJ7_copyOf_59c91 wsJ7_copyOf_59c91 rm_J7_copyOf_59c91 (va_Pc [.ref (k_ra C), .int (nI (n9))] (GN D (tyK cI cJ cZ cV cR) (kW cI cJ cZ cV cR a C) sz)) (va_Qr (fun u : Nat × CT => u.1 ∉ k_L C ∧ u.2 = coM cI C n9 u.1) (fun u q t => q = u.1 ∧ GB D (tyK cI cJ cZ cV cR) (va_A (kW cI cJ cZ cV cR a C) sz) (kW cI cJ cZ cV cR a u.2) t) (va_A (kW cI cJ cZ cV cR a C) sz)) 1 300 (va_A (kW cI cJ cZ cV cR a C) sz) := by
  obtain ⟨hn, hfn, hsn, hvc, hrc, hpc, hnw, hkc, h_home, h_kin, h_alv, h_srs, h_row, h_sp, h_kis, h_pg⟩ := id hM
  have hmn : min 300 n9 = n9 := Nat.min_eq_right hn9
  refine Met.ofW (cc := cJ7_copyOf_59c91) (maxL := 3) (ret := (some (.array .int))) (by decide) rfl ?_
  intro p e s m args below meth c s₁ B hml hv
  obtain ⟨rfl, ⟨hsz, hP, hK, hD0⟩, hNw⟩ := hv
  have hx := B.exec
  have hb := B.bytes
  have hr := B.returns
  have hts := atoms_spec (ws := wsJ7_copyOf_59c91) B.pre
  have hown : s.vm.findClass RJ7 = some m.cls := findClass_of_methodNamed B.named
  have hlocks := B.notSynchronized
  subst hsz
  have hD := hD0.self (sz := s.heap.size)
  generalize hAe : va_A (kW cI cJ cZ cV cR a C) s.heap.size = A at hD ⊢
  have hA : ∀ q : Nat, s.heap.size ≤ q → A q := fun q h => by rw [← hAe]; exact Or.inr h
  have hS : va_S A s.heap s.heap [] := va_S.rf
  have hP : va_P D vwCl (kX cI cJ cZ cV cR a (k_ra C) (k_rb C) (k_vc C) (k_rc C) (k_pc C) (k_nw C) (k_n C) (k_fn C) (k_sn C) (k_kc C) (k_grp C) (k_key C) (k_srt C) (k_wt C) (k_home C) (k_drp C) (k_met C) (k_kin C) (k_alv C) (k_srs C) (k_row C) (k_sp C) (k_kis C) (k_pg C) (k_vq C) (k_rq C) (k_L C) (k_F C)) s.heap := hP
  have hD : va_D A (kX cI cJ cZ cV cR a (k_ra C) (k_rb C) (k_vc C) (k_rc C) (k_pc C) (k_nw C) (k_n C) (k_fn C) (k_sn C) (k_kc C) (k_grp C) (k_key C) (k_srt C) (k_wt C) (k_home C) (k_drp C) (k_met C) (k_kin C) (k_alv C) (k_srs C) (k_row C) (k_sp C) (k_kis C) (k_pg C) (k_vq C) (k_rq C) (k_L C) (k_F C)) := hD
  have hf0 := hts (.arrayClass .int) (by decide +kernel)
  have hf1 := hts (.methodLink RJ7 304 Lib.Math.min.name) (by decide +kernel)
  have hf2 := hts (.static Lib.Math.min.name) (by decide +kernel)
  have hf3 := hts (.initialized "java/lang/Math") (by decide +kernel)
  have hf4 := hts (.code Lib.Math.min.name Lib.Math.min.code 2 (some .int)) (by decide +kernel)
  have hf5 := hts (.methodLink RJ7 150 arraycopyName) (by decide +kernel)
  have hf6 := hts (.native arraycopyName) (by decide +kernel)
  have hf7 := hts (.static arraycopyName) (by decide +kernel)
  have hf8 := hts (.initialized "java/lang/System") (by decide +kernel)
  have hf9 := hts (.methodLink RJ7 316 ⟨"[I", "clone", "()Ljava/lang/Object;"⟩) (by decide +kernel)
  have hf10 := hts (.sameMethod "[I" "java/lang/Object" "clone" "()Ljava/lang/Object;") (by decide +kernel)
  have hf11 := hts (.native ⟨"java/lang/Object", "clone", "()Ljava/lang/Object;"⟩) (by decide +kernel)
  have hf12 := hts (.instanceMethod ⟨"java/lang/Object", "clone", "()Ljava/lang/Object;"⟩) (by decide +kernel)
  have hf13 := hts (.selects "[I" ⟨"[I", "clone", "()Ljava/lang/Object;"⟩ ⟨"java/lang/Object", "clone", "()Ljava/lang/Object;"⟩) (by decide +kernel)
  have hf14 := hts (.classLink RJ7 317 "[I") (by decide +kernel)
  have hl := lv_entry ([.ref (k_ra C), .int (nI (n9))]) (n := 3) (Nat.le_of_ble_eq_true rfl)
  rw [lg_entry_eq]
  generalize (lg_sl ([.ref (k_ra C), .int (nI (n9))]) ++ List.replicate (3 - (lg_sl ([.ref (k_ra C), .int (nI (n9))])).length) Slot.unset).toArray = ls at hl ⊢
  have hl : lv_has ls 3 [(0, .ref (k_ra C)), (1, .int (nI (n9)))] := hl
  refine lv_iload_n hx hb dJ7_copyOf_59c91_0 rfl (lv_at hl 1 rfl) ?_
  refine lv_aload_n hx hb dJ7_copyOf_59c91_1 rfl (lv_at hl 0 rfl) ?_
  refine va_alen (v := nI 300) hx hb hK hP 12 0 rfl rfl rfl dJ7_copyOf_59c91_2 ?_
  refine wn_icmp_ne (a := n9) (b := 300) (tgt := 14) hx hb (nI_z (by omega)) (nI_z (by omega)) dJ7_copyOf_59c91_3 (by decide) (fun c3_1 => ?_) (fun c3_1 => ?_)
  · refine lv_iload_n hx hb dJ7_copyOf_59c91_14 rfl (lv_at hl 1 rfl) ?_
    refine wp_newi (n := n9) hx hb hf0 hK hP hD hS hA 0 rfl (by omega) (Nat.le_of_ble_eq_true rfl) (show 0 + (n9) ≤ 300 by omega) dJ7_copyOf_59c91_15 (fun q2 H hfq2 hP hD hS => ?_)
    refine W.widen (k := 1) (n := 300) (Nat.le_refl _) (show 0 + (n9) ≤ 300 by omega) ?_
    have hP : va_P D vwCl (kX cI cJ cZ cV cR a (k_ra C) (k_rb C) (k_vc C) (k_rc C) (k_pc C) (k_nw C) (k_n C) (k_fn C) (k_sn C) (k_kc C) (k_grp C) (k_key C) (k_srt C) (k_wt C) (k_home C) (k_drp C) (k_met C) (k_kin C) (k_alv C) (k_srs C) (k_row C) (k_sp C) (k_kis C) (k_pg C) (k_vq C) (k_rq C) (k_L C ++ [q2]) (va_up (k_F C) (q2) (.inl (cI, n9, .inl (fun j => nI ((fun _ => 0) j)))))) H := hP
    have hD : va_D A (kX cI cJ cZ cV cR a (k_ra C) (k_rb C) (k_vc C) (k_rc C) (k_pc C) (k_nw C) (k_n C) (k_fn C) (k_sn C) (k_kc C) (k_grp C) (k_key C) (k_srt C) (k_wt C) (k_home C) (k_drp C) (k_met C) (k_kin C) (k_alv C) (k_srs C) (k_row C) (k_sp C) (k_kis C) (k_pg C) (k_vq C) (k_rq C) (k_L C ++ [q2]) (va_up (k_F C) (q2) (.inl (cI, n9, .inl (fun j => nI ((fun _ => 0) j)))))) := hD
    have hp3_q : isI cI (k_L C ++ [q2]) (va_up (k_F C) (q2) (.inl (cI, n9, .inl (fun j => nI ((fun _ => 0) j))))) (q2) (n9) (fun _ => 0) := isE.new _ _ _ _
    refine lv_astore_n (lv' := [(2, .ref (q2)), (0, .ref (k_ra C)), (1, .int (nI (n9)))]) hx hb dJ7_copyOf_59c91_17 rfl hl (by decide) rfl (fun ls hl => ?_)
    refine lv_aload_n hx hb dJ7_copyOf_59c91_18 rfl (lv_at hl 1 rfl) ?_
    refine lv_iconst (v := nI (0)) hx hb dJ7_copyOf_59c91_19 (by decide) ?_
    refine lv_aload_n hx hb dJ7_copyOf_59c91_20 rfl (lv_at hl 0 rfl) ?_
    refine lv_iconst (v := nI (0)) hx hb dJ7_copyOf_59c91_21 (by decide) ?_
    refine lv_aload_n hx hb dJ7_copyOf_59c91_22 rfl (lv_at hl 1 rfl) ?_
    refine va_alen (v := nI 300) hx hb hK hP 12 0 rfl rfl rfl dJ7_copyOf_59c91_23 ?_
    refine lv_iload_n hx hb dJ7_copyOf_59c91_24 rfl (lv_at hl 2 rfl) ?_
    refine va_mmin hx hb (hml.trans hl.1.symm) hown hf1 hf2 hf3 hf4 (Nat.le_of_ble_eq_true rfl) (Nat.le_of_ble_eq_true rfl) (Nat.le_of_ble_eq_true rfl) (Nat.le_of_ble_eq_true rfl) dJ7_copyOf_59c91_25 (ww_top (y := nI (min (300) (n9))) (nmin (by omega) (by omega)) ?_)
    refine wp_cpyFP (f := k_row C) (g := fun _ => 0) (s9 := 0) (d9 := 0) (n9 := min (300) (n9)) hx hb (hml.trans hl.1.symm) hown hf5 hf6 hf7 hf8 hK hP hD hS 12 0 rfl hp3_q rfl (by omega) (by omega) (by omega) (by omega) (Nat.le_of_ble_eq_true rfl) (Nat.le_of_ble_eq_true rfl) dJ7_copyOf_59c91_28 (fun H locs hP hD hS => ?_)
    rw [bx_uu] at hP hD
    have hP : va_P D vwCl (kX cI cJ cZ cV cR a (k_ra C) (k_rb C) (k_vc C) (k_rc C) (k_pc C) (k_nw C) (k_n C) (k_fn C) (k_sn C) (k_kc C) (k_grp C) (k_key C) (k_srt C) (k_wt C) (k_home C) (k_drp C) (k_met C) (k_kin C) (k_alv C) (k_srs C) (k_row C) (k_sp C) (k_kis C) (k_pg C) (k_vq C) (k_rq C) (k_L C ++ [q2]) (va_up (k_F C) (q2) (.inl (cI, n9, .inl (fun j => nI ((va_cpy (k_row C) (fun _ => 0) (0) (0) (min (300) (n9))) j)))))) H := hP
    have hD : va_D A (kX cI cJ cZ cV cR a (k_ra C) (k_rb C) (k_vc C) (k_rc C) (k_pc C) (k_nw C) (k_n C) (k_fn C) (k_sn C) (k_kc C) (k_grp C) (k_key C) (k_srt C) (k_wt C) (k_home C) (k_drp C) (k_met C) (k_kin C) (k_alv C) (k_srs C) (k_row C) (k_sp C) (k_kis C) (k_pg C) (k_vq C) (k_rq C) (k_L C ++ [q2]) (va_up (k_F C) (q2) (.inl (cI, n9, .inl (fun j => nI ((va_cpy (k_row C) (fun _ => 0) (0) (0) (min (300) (n9))) j)))))) := hD
    have hp4_q : isI cI (k_L C ++ [q2]) (va_up (k_F C) (q2) (.inl (cI, n9, .inl (fun j => nI ((va_cpy (k_row C) (fun _ => 0) (0) (0) (min (300) (n9))) j))))) (q2) (n9) (va_cpy (k_row C) (fun _ => 0) (0) (0) (min (300) (n9))) := ⟨hp3_q.1, va_up_self _ _ _⟩
    refine lv_aload_n hx hb dJ7_copyOf_59c91_31 rfl (lv_at hl 0 rfl) ?_
    have hPm : va_P D vwCl (kW cI cJ cZ cV cR a (mkC (k_ra C) (k_rb C) (k_vc C) (k_rc C) (k_pc C) (k_nw C) (k_n C) (k_fn C) (k_sn C) (k_kc C) (k_grp C) (k_key C) (k_srt C) (k_wt C) (k_home C) (k_drp C) (k_met C) (k_kin C) (k_alv C) (k_srs C) (k_row C) (k_sp C) (k_kis C) (k_pg C) (k_vq C) (k_rq C) (k_L C ++ [q2]) (va_up (k_F C) (q2) (.inl (cI, n9, .inl (fun j => nI ((va_cpy (k_row C) (fun _ => 0) (0) (0) (min (300) (n9))) j))))))) H := by rw [← kX_mk]; exact hP
    have hDm : va_D A (kW cI cJ cZ cV cR a (mkC (k_ra C) (k_rb C) (k_vc C) (k_rc C) (k_pc C) (k_nw C) (k_n C) (k_fn C) (k_sn C) (k_kc C) (k_grp C) (k_key C) (k_srt C) (k_wt C) (k_home C) (k_drp C) (k_met C) (k_kin C) (k_alv C) (k_srs C) (k_row C) (k_sp C) (k_kis C) (k_pg C) (k_vq C) (k_rq C) (k_L C ++ [q2]) (va_up (k_F C) (q2) (.inl (cI, n9, .inl (fun j => nI ((va_cpy (k_row C) (fun _ => 0) (0) (0) (min (300) (n9))) j))))))) := by rw [← kX_mk]; exact hD
    exact W.aret (v := .ref (q2)) hx hb hr (Or.inr ⟨_, rfl⟩) (Or.inr ⟨_, rfl⟩) (fun t ht hW => ⟨⟨(q2, (mkC (k_ra C) (k_rb C) (k_vc C) (k_rc C) (k_pc C) (k_nw C) (k_n C) (k_fn C) (k_sn C) (k_kc C) (k_grp C) (k_key C) (k_srt C) (k_wt C) (k_home C) (k_drp C) (k_met C) (k_kin C) (k_alv C) (k_srs C) (k_row C) (k_sp C) (k_kis C) (k_pg C) (k_vq C) (k_rq C) (k_L C ++ [q2]) (va_up (k_F C) (q2) (.inl (cI, n9, .inl (fun j => nI ((va_cpy (k_row C) (fun _ => 0) (0) (0) (min (300) (n9))) j))))))), _, rfl, ⟨hfq2, (by show (_ : CT) = coM cI C n9 q2; rw [coM, cpR, if_neg (by omega), hmn])⟩, rfl, gb_mk ht hW hPm hK hDm⟩, hS.F ht⟩) hS.2.2 dJ7_copyOf_59c91_32
  · refine lv_aload_n hx hb dJ7_copyOf_59c91_6 rfl (lv_at hl 0 rfl) ?_
    refine wp_clone (f := k_row C) hx hb (hml.trans hl.1.symm) hown hf9 hf10 hf11 hf12 hf13 hNw hK hP hD hS hA 12 0 rfl rfl (Nat.le_of_ble_eq_true rfl) (Nat.le_of_ble_eq_true rfl) (Nat.le_of_ble_eq_true rfl) (Nat.le_of_ble_eq_true rfl) dJ7_copyOf_59c91_7 (fun q5 H hfq5 hP hD hS => ?_)
    refine W.widen (k := 1) (n := 300) (Nat.le_refl _) (Nat.le_refl _) ?_
    have hP : va_P D vwCl (kX cI cJ cZ cV cR a (k_ra C) (k_rb C) (k_vc C) (k_rc C) (k_pc C) (k_nw C) (k_n C) (k_fn C) (k_sn C) (k_kc C) (k_grp C) (k_key C) (k_srt C) (k_wt C) (k_home C) (k_drp C) (k_met C) (k_kin C) (k_alv C) (k_srs C) (k_row C) (k_sp C) (k_kis C) (k_pg C) (k_vq C) (k_rq C) (k_L C ++ [q5]) (va_up (k_F C) (q5) (.inl (cI, 300, .inl (fun j => nI ((k_row C) j)))))) H := hP
    have hD : va_D A (kX cI cJ cZ cV cR a (k_ra C) (k_rb C) (k_vc C) (k_rc C) (k_pc C) (k_nw C) (k_n C) (k_fn C) (k_sn C) (k_kc C) (k_grp C) (k_key C) (k_srt C) (k_wt C) (k_home C) (k_drp C) (k_met C) (k_kin C) (k_alv C) (k_srs C) (k_row C) (k_sp C) (k_kis C) (k_pg C) (k_vq C) (k_rq C) (k_L C ++ [q5]) (va_up (k_F C) (q5) (.inl (cI, 300, .inl (fun j => nI ((k_row C) j)))))) := hD
    have hp6_q : isI cI (k_L C ++ [q5]) (va_up (k_F C) (q5) (.inl (cI, 300, .inl (fun j => nI ((k_row C) j))))) (q5) (300) (k_row C) := isE.new _ _ _ _
    refine wp_castA hx hb hown hf14 hP hp6_q hK 0 rfl dJ7_copyOf_59c91_10 ?_
    have hPm : va_P D vwCl (kW cI cJ cZ cV cR a (mkC (k_ra C) (k_rb C) (k_vc C) (k_rc C) (k_pc C) (k_nw C) (k_n C) (k_fn C) (k_sn C) (k_kc C) (k_grp C) (k_key C) (k_srt C) (k_wt C) (k_home C) (k_drp C) (k_met C) (k_kin C) (k_alv C) (k_srs C) (k_row C) (k_sp C) (k_kis C) (k_pg C) (k_vq C) (k_rq C) (k_L C ++ [q5]) (va_up (k_F C) (q5) (.inl (cI, 300, .inl (fun j => nI ((k_row C) j))))))) H := by rw [← kX_mk]; exact hP
    have hDm : va_D A (kW cI cJ cZ cV cR a (mkC (k_ra C) (k_rb C) (k_vc C) (k_rc C) (k_pc C) (k_nw C) (k_n C) (k_fn C) (k_sn C) (k_kc C) (k_grp C) (k_key C) (k_srt C) (k_wt C) (k_home C) (k_drp C) (k_met C) (k_kin C) (k_alv C) (k_srs C) (k_row C) (k_sp C) (k_kis C) (k_pg C) (k_vq C) (k_rq C) (k_L C ++ [q5]) (va_up (k_F C) (q5) (.inl (cI, 300, .inl (fun j => nI ((k_row C) j))))))) := by rw [← kX_mk]; exact hD
    exact W.aret (v := .ref (q5)) hx hb hr (Or.inr ⟨_, rfl⟩) (Or.inr ⟨_, rfl⟩) (fun t ht hW => ⟨⟨(q5, (mkC (k_ra C) (k_rb C) (k_vc C) (k_rc C) (k_pc C) (k_nw C) (k_n C) (k_fn C) (k_sn C) (k_kc C) (k_grp C) (k_key C) (k_srt C) (k_wt C) (k_home C) (k_drp C) (k_met C) (k_kin C) (k_alv C) (k_srs C) (k_row C) (k_sp C) (k_kis C) (k_pg C) (k_vq C) (k_rq C) (k_L C ++ [q5]) (va_up (k_F C) (q5) (.inl (cI, 300, .inl (fun j => nI ((k_row C) j))))))), _, rfl, ⟨hfq5, (by show (_ : CT) = coM cI C n9 q5; rw [coM, cpR, if_pos (by omega), (show n9 = 300 by omega)])⟩, rfl, gb_mk ht hW hPm hK hDm⟩, hS.F ht⟩) hS.2.2 dJ7_copyOf_59c91_13
def rm_X0_copyRow : Room := { frames := 2, cells := 1, slots := 300, locals := 62 }
set_option maxHeartbeats 4000000 in
set_option maxRecDepth 100000 in
/-- the row is copied -/
theorem c_X0_copyRow (l : Launch) (D : va_G) (cI cJ cZ cV cR : ClassId) (a : Nat → Nat) (C : CT) (hM : kOk C)  (sz : Nat) : Met l yX0_copyRow wsX0_copyRow rm_X0_copyRow (va_Pc [.ref (a 11)] (GN D (tyK cI cJ cZ cV cR) (kW cI cJ cZ cV cR a C) sz)) (va_Qr (fun u : Nat × CT => u.1 ∉ k_L C ∧ u.2 = cwM cI C u.1) (fun u q t => q = u.1 ∧ GB D (tyK cI cJ cZ cV cR) (va_A (kW cI cJ cZ cV cR a C) sz) (kW cI cJ cZ cV cR a u.2) t) (va_A (kW cI cJ cZ cV cR a C) sz)) 1 300 (va_A (kW cI cJ cZ cV cR a C) sz) := by
  obtain ⟨hn, hfn, hsn, hvc, hrc, hpc, hnw, hkc, h_home, h_kin, h_alv, h_srs, h_row, h_sp, h_kis, h_pg⟩ := id hM
  refine Met.ofW (cc := cX0_copyRow) (maxL := 1) (ret := (some (.array .int))) (by decide) rfl ?_
  intro p e s m args below meth c s₁ B hml hv
  obtain ⟨rfl, ⟨hsz, hP, hK, hD0⟩, hNw⟩ := hv
  have hx := B.exec
  have hb := B.bytes
  have hr := B.returns
  have hts := atoms_spec (ws := wsX0_copyRow) B.pre
  have hown : s.vm.findClass RX0 = some m.cls := findClass_of_methodNamed B.named
  have hlocks := B.notSynchronized
  subst hsz
  have hD := hD0.self (sz := s.heap.size)
  generalize hAe : va_A (kW cI cJ cZ cV cR a C) s.heap.size = A at hD ⊢
  have hA : ∀ q : Nat, s.heap.size ≤ q → A q := fun q h => by rw [← hAe]; exact Or.inr h
  have hS : va_S A s.heap s.heap [] := va_S.rf
  have hP : va_P D vwCl (kX cI cJ cZ cV cR a (k_ra C) (k_rb C) (k_vc C) (k_rc C) (k_pc C) (k_nw C) (k_n C) (k_fn C) (k_sn C) (k_kc C) (k_grp C) (k_key C) (k_srt C) (k_wt C) (k_home C) (k_drp C) (k_met C) (k_kin C) (k_alv C) (k_srs C) (k_row C) (k_sp C) (k_kis C) (k_pg C) (k_vq C) (k_rq C) (k_L C) (k_F C)) s.heap := hP
  have hD : va_D A (kX cI cJ cZ cV cR a (k_ra C) (k_rb C) (k_vc C) (k_rc C) (k_pc C) (k_nw C) (k_n C) (k_fn C) (k_sn C) (k_kc C) (k_grp C) (k_key C) (k_srt C) (k_wt C) (k_home C) (k_drp C) (k_met C) (k_kin C) (k_alv C) (k_srs C) (k_row C) (k_sp C) (k_kis C) (k_pg C) (k_vq C) (k_rq C) (k_L C) (k_F C)) := hD
  have hiX0 : ∀ w ∈ wsX00, w ∈ wsX0_copyRow := by decide +kernel
  have hf0 := hts (.fieldLink RX0 9 "GroupCursors$Ranking" "row" "[I") (by decide +kernel)
  have hf1 := hts (.fieldLink RX0 29 "GroupCursors$Ranking" "count" "I") (by decide +kernel)
  have hl := lv_entry ([.ref (a 11)]) (n := 1) (Nat.le_of_ble_eq_true rfl)
  rw [lg_entry_eq]
  generalize (lg_sl ([.ref (a 11)]) ++ List.replicate (1 - (lg_sl ([.ref (a 11)])).length) Slot.unset).toArray = ls at hl ⊢
  have hl : lv_has ls 1 [(0, .ref (a 11))] := hl
  refine lv_aload_n hx hb dX0_copyRow_0 rfl (lv_at hl 0 rfl) ?_
  refine va_get (ci := 0) (v := .ref (k_ra C)) (C := RX0) (T := TX0) (N := 7) hx hb hts hiX0 hown hK hP 11 rfl rfl 1 (by decide) hf0 (fun _ h9 => h9) rfl dX0_copyRow_1 ?_
  refine lv_aload_n hx hb dX0_copyRow_4 rfl (lv_at hl 0 rfl) ?_
  refine va_get (ci := 0) (v := .int (nI (k_kc C))) (C := RX0) (T := TX0) (N := 7) hx hb hts hiX0 hown hK hP 11 rfl rfl 6 (by decide) hf1 (fun _ h9 => h9) rfl dX0_copyRow_5 ?_
  have hPm : va_P D vwCl (kW cI cJ cZ cV cR a C) s.heap := by exact hP
  have hDm : va_D A (kW cI cJ cZ cV cR a C) := by exact hD
  refine wc_SWrn (As := [.ref (k_ra C), .int (nI (k_kc C))]) (rest := []) (ra := Prod.fst) (wf := fun u => kW cI cJ cZ cV cR a u.2) ⟨hx, hb, hml, hown, hts⟩ (c_J7_copyOf_59c91 l D cI cJ cZ cV cR a C hM (k_kc C) (by omega) s.heap.size) (va_cwS 2 hts gX0_copyRow_J7_copyOf_59c91 rfl rfl rfl (by decide +kernel) ⟨Nat.le_of_ble_eq_true rfl, Nat.le_of_ble_eq_true rfl⟩) hPm hK hDm hS hA hNw rfl hl.1 rfl (Nat.le_of_ble_eq_true rfl) dX0_copyRow_8 ⟨Nat.le_of_ble_eq_true rfl, Nat.le_of_ble_eq_true rfl⟩ (fun u1 hq1 H locs hP hD hS => ?_)
  obtain ⟨q1, u1⟩ := u1
  obtain ⟨hf1, hu1⟩ := hq1
  have hu1 : u1 = coM cI C (k_kc C) q1 := hu1
  subst hu1
  refine W.widen (k := 1) (n := 300) (Nat.le_refl _) (Nat.le_refl _) ?_
  have hp2_q : isI cI (k_L C ++ [q1]) (va_up (k_F C) (q1) (.inl (cI, k_kc C, .inl (fun j => nI ((cpR (k_row C) (k_kc C)) j))))) (q1) (k_kc C) (cpR (k_row C) (k_kc C)) := isE.new _ _ _ _
  have hP : va_P D vwCl (kX cI cJ cZ cV cR a (k_ra C) (k_rb C) (k_vc C) (k_rc C) (k_pc C) (k_nw C) (k_n C) (k_fn C) (k_sn C) (k_kc C) (k_grp C) (k_key C) (k_srt C) (k_wt C) (k_home C) (k_drp C) (k_met C) (k_kin C) (k_alv C) (k_srs C) (k_row C) (k_sp C) (k_kis C) (k_pg C) (k_vq C) (k_rq C) (k_L C ++ [q1]) (va_up (k_F C) (q1) (.inl (cI, k_kc C, .inl (fun j => nI ((cpR (k_row C) (k_kc C)) j)))))) H := hP
  have hD : va_D A (kX cI cJ cZ cV cR a (k_ra C) (k_rb C) (k_vc C) (k_rc C) (k_pc C) (k_nw C) (k_n C) (k_fn C) (k_sn C) (k_kc C) (k_grp C) (k_key C) (k_srt C) (k_wt C) (k_home C) (k_drp C) (k_met C) (k_kin C) (k_alv C) (k_srs C) (k_row C) (k_sp C) (k_kis C) (k_pg C) (k_vq C) (k_rq C) (k_L C ++ [q1]) (va_up (k_F C) (q1) (.inl (cI, k_kc C, .inl (fun j => nI ((cpR (k_row C) (k_kc C)) j)))))) := hD
  have hPm : va_P D vwCl (kW cI cJ cZ cV cR a (mkC (k_ra C) (k_rb C) (k_vc C) (k_rc C) (k_pc C) (k_nw C) (k_n C) (k_fn C) (k_sn C) (k_kc C) (k_grp C) (k_key C) (k_srt C) (k_wt C) (k_home C) (k_drp C) (k_met C) (k_kin C) (k_alv C) (k_srs C) (k_row C) (k_sp C) (k_kis C) (k_pg C) (k_vq C) (k_rq C) (k_L C ++ [q1]) (va_up (k_F C) (q1) (.inl (cI, k_kc C, .inl (fun j => nI ((cpR (k_row C) (k_kc C)) j))))))) H := by rw [← kX_mk]; exact hP
  have hDm : va_D A (kW cI cJ cZ cV cR a (mkC (k_ra C) (k_rb C) (k_vc C) (k_rc C) (k_pc C) (k_nw C) (k_n C) (k_fn C) (k_sn C) (k_kc C) (k_grp C) (k_key C) (k_srt C) (k_wt C) (k_home C) (k_drp C) (k_met C) (k_kin C) (k_alv C) (k_srs C) (k_row C) (k_sp C) (k_kis C) (k_pg C) (k_vq C) (k_rq C) (k_L C ++ [q1]) (va_up (k_F C) (q1) (.inl (cI, k_kc C, .inl (fun j => nI ((cpR (k_row C) (k_kc C)) j))))))) := by rw [← kX_mk]; exact hD
  exact W.aret (v := .ref (q1)) hx hb hr (Or.inr ⟨_, rfl⟩) (Or.inr ⟨_, rfl⟩) (fun t ht hW => ⟨⟨(q1, (mkC (k_ra C) (k_rb C) (k_vc C) (k_rc C) (k_pc C) (k_nw C) (k_n C) (k_fn C) (k_sn C) (k_kc C) (k_grp C) (k_key C) (k_srt C) (k_wt C) (k_home C) (k_drp C) (k_met C) (k_kin C) (k_alv C) (k_srs C) (k_row C) (k_sp C) (k_kis C) (k_pg C) (k_vq C) (k_rq C) (k_L C ++ [q1]) (va_up (k_F C) (q1) (.inl (cI, k_kc C, .inl (fun j => nI ((cpR (k_row C) (k_kc C)) j))))))), _, rfl, ⟨hf1, rfl⟩, rfl, gb_mk ht hW hPm hK hDm⟩, hS.F ht⟩) hS.2.2 dX0_copyRow_11
def rm_X4_init : Room := { frames := 1, cells := 0, slots := 0, locals := 12 }
set_option maxHeartbeats 4000000 in
set_option maxRecDepth 100000 in
/-- a view is made -/
theorem c_X4_init (l : Launch) (D : va_G) (cI cJ cZ cV cR : ClassId) (a : Nat → Nat) (C : CT) (hM : kOk C) (q hs se n9 g9 : Nat) (f9 : Nat → Nat) (hN : isE (k_L C) (k_F C) q (.inr (4, [.null, .null, .int (nI (0)), .int (nI (0)), .int (nI (0)), .int (nI (0))]))) (hI : isI cI (k_L C) (k_F C) hs n9 f9) (hn9 : n9 ≤ 300) (sz : Nat) : Met l yX4_init wsX4_init rm_X4_init (va_Pc [.ref (q), .ref (hs), .int (nI (g9)), .ref (se)] (GW D (tyK cI cJ cZ cV cR) (kW cI cJ cZ cV cR a C) sz)) (va_Qv (fun u => u = viM C q hs se n9 g9) (fun u => GB D (tyK cI cJ cZ cV cR) (va_A (kW cI cJ cZ cV cR a C) sz) (kW cI cJ cZ cV cR a u)) (va_A (kW cI cJ cZ cV cR a C) sz)) 0 0 (va_A (kW cI cJ cZ cV cR a C) sz) := by
  obtain ⟨hn, hfn, hsn, hvc, hrc, hpc, hnw, hkc, h_home, h_kin, h_alv, h_srs, h_row, h_sp, h_kis, h_pg⟩ := id hM
  refine Met.ofW (cc := cX4_init) (maxL := 4) (ret := none) (by decide) rfl ?_
  intro p e s m args below meth c s₁ B hml hv
  obtain ⟨rfl, hsz, hP, hK, hD0⟩ := hv
  have hx := B.exec
  have hb := B.bytes
  have hr := B.returns
  have hts := atoms_spec (ws := wsX4_init) B.pre
  have hown : s.vm.findClass RX4 = some m.cls := findClass_of_methodNamed B.named
  have hlocks := B.notSynchronized
  have hin : meth.name = "<init>" := (name_of_methodNamed B.named B.method).1
  subst hsz
  have hD := hD0.self (sz := s.heap.size)
  generalize hAe : va_A (kW cI cJ cZ cV cR a C) s.heap.size = A at hD ⊢
  have hA : ∀ q : Nat, s.heap.size ≤ q → A q := fun q h => by rw [← hAe]; exact Or.inr h
  have hS : va_S A s.heap s.heap [] := va_S.rf
  have hP : va_P D vwCl (kX cI cJ cZ cV cR a (k_ra C) (k_rb C) (k_vc C) (k_rc C) (k_pc C) (k_nw C) (k_n C) (k_fn C) (k_sn C) (k_kc C) (k_grp C) (k_key C) (k_srt C) (k_wt C) (k_home C) (k_drp C) (k_met C) (k_kin C) (k_alv C) (k_srs C) (k_row C) (k_sp C) (k_kis C) (k_pg C) (k_vq C) (k_rq C) (k_L C) (k_F C)) s.heap := hP
  have hD : va_D A (kX cI cJ cZ cV cR a (k_ra C) (k_rb C) (k_vc C) (k_rc C) (k_pc C) (k_nw C) (k_n C) (k_fn C) (k_sn C) (k_kc C) (k_grp C) (k_key C) (k_srt C) (k_wt C) (k_home C) (k_drp C) (k_met C) (k_kin C) (k_alv C) (k_srs C) (k_row C) (k_sp C) (k_kis C) (k_pg C) (k_vq C) (k_rq C) (k_L C) (k_F C)) := hD
  have hiX4 : ∀ w ∈ wsX40, w ∈ wsX4_init := by decide +kernel
  have hf0 := hts (.methodLink RX4 3 objectInit) (by decide +kernel)
  have hf1 := hts (.instanceMethod objectInit) (by decide +kernel)
  have hf2 := hts (.fieldLink RX4 9 "GroupCursors$View" "state" "I") (by decide +kernel)
  have hf3 := hts (.fieldLink RX4 15 "GroupCursors$View" "readersGoingOn" "I") (by decide +kernel)
  have hf4 := hts (.fieldLink RX4 18 "GroupCursors$View" "has" "[I") (by decide +kernel)
  have hf5 := hts (.fieldLink RX4 22 "GroupCursors$View" "count" "I") (by decide +kernel)
  have hf6 := hts (.fieldLink RX4 25 "GroupCursors$View" "groupCount" "I") (by decide +kernel)
  have hf7 := hts (.fieldLink RX4 28 "GroupCursors$View" "sees" "[Z") (by decide +kernel)
  have hl := lv_entry ([.ref (q), .ref (hs), .int (nI (g9)), .ref (se)]) (n := 4) (Nat.le_of_ble_eq_true rfl)
  rw [lg_entry_eq]
  generalize (lg_sl ([.ref (q), .ref (hs), .int (nI (g9)), .ref (se)]) ++ List.replicate (4 - (lg_sl ([.ref (q), .ref (hs), .int (nI (g9)), .ref (se)])).length) Slot.unset).toArray = ls at hl ⊢
  have hl : lv_has ls 4 [(0, .ref (q)), (1, .ref (hs)), (2, .int (nI (g9))), (3, .ref (se))] := hl
  refine lv_aload_n hx hb dX4_init_0 rfl (lv_at hl 0 rfl) ?_
  refine W.objInit hx hb hown hf0 hf1 (hts _ (List.mem_cons_of_mem _ (List.mem_append_left _ (List.mem_of_getElem? (i := 2) rfl)))) rfl (by rw [hml]; exact hl.1) rfl dX4_init_1 (Nat.le_of_ble_eq_true rfl) (Nat.le_of_ble_eq_true rfl) ?_
  refine lv_aload_n hx hb dX4_init_4 rfl (lv_at hl 0 rfl) ?_
  refine lv_iconst (v := nI (0)) hx hb dX4_init_5 (by decide) ?_
  refine wp_put (ci := 4) (v := .int (nI (0))) (ty := .int) (C := RX4) (T := TX4) (N := 6) hx hb hts hiX4 tyX4 tyX4_ok nmX4 hown hK hP hD hS hN.1 hN.2 rfl 4 (by decide) hf2 (fun _ h9 => h9) rfl (by decide +kernel) rfl rfl (Nat.le_of_ble_eq_true rfl) dX4_init_6 (fun H locs hP hD hS => ?_)
  have hP : va_P D vwCl (kX cI cJ cZ cV cR a (k_ra C) (k_rb C) (k_vc C) (k_rc C) (k_pc C) (k_nw C) (k_n C) (k_fn C) (k_sn C) (k_kc C) (k_grp C) (k_key C) (k_srt C) (k_wt C) (k_home C) (k_drp C) (k_met C) (k_kin C) (k_alv C) (k_srs C) (k_row C) (k_sp C) (k_kis C) (k_pg C) (k_vq C) (k_rq C) (k_L C) (va_up (k_F C) (q) (.inr (4, [.null, .null, .int (nI (0)), .int (nI (0)), .int (nI (0)), .int (nI (0))])))) H := hP
  have hD : va_D A (kX cI cJ cZ cV cR a (k_ra C) (k_rb C) (k_vc C) (k_rc C) (k_pc C) (k_nw C) (k_n C) (k_fn C) (k_sn C) (k_kc C) (k_grp C) (k_key C) (k_srt C) (k_wt C) (k_home C) (k_drp C) (k_met C) (k_kin C) (k_alv C) (k_srs C) (k_row C) (k_sp C) (k_kis C) (k_pg C) (k_vq C) (k_rq C) (k_L C) (va_up (k_F C) (q) (.inr (4, [.null, .null, .int (nI (0)), .int (nI (0)), .int (nI (0)), .int (nI (0))])))) := hD
  have hp1_0 : isI cI (k_L C) (va_up (k_F C) (q) (.inr (4, [.null, .null, .int (nI (0)), .int (nI (0)), .int (nI (0)), .int (nI (0))]))) (hs) (n9) (f9) := isE.keep hI (ne_of_F hI.2 hN.2 (fun h => nomatch h))
  have hp1_q : isE (k_L C) (va_up (k_F C) (q) (.inr (4, [.null, .null, .int (nI (0)), .int (nI (0)), .int (nI (0)), .int (nI (0))]))) (q) (.inr (4, [.null, .null, .int (nI (0)), .int (nI (0)), .int (nI (0)), .int (nI (0))])) := ⟨hN.1, va_up_self _ _ _⟩
  refine lv_aload_n hx hb dX4_init_9 rfl (lv_at hl 0 rfl) ?_
  refine lv_iconst (v := nI (0)) hx hb dX4_init_10 (by decide) ?_
  refine wp_put (ci := 4) (v := .int (nI (0))) (ty := .int) (C := RX4) (T := TX4) (N := 6) hx hb hts hiX4 tyX4 tyX4_ok nmX4 hown hK hP hD hS hp1_q.1 hp1_q.2 rfl 5 (by decide) hf3 (fun _ h9 => h9) rfl (by decide +kernel) rfl rfl (Nat.le_of_ble_eq_true rfl) dX4_init_11 (fun H locs hP hD hS => ?_)
  rw [bx_uu] at hP hD
  have hP : va_P D vwCl (kX cI cJ cZ cV cR a (k_ra C) (k_rb C) (k_vc C) (k_rc C) (k_pc C) (k_nw C) (k_n C) (k_fn C) (k_sn C) (k_kc C) (k_grp C) (k_key C) (k_srt C) (k_wt C) (k_home C) (k_drp C) (k_met C) (k_kin C) (k_alv C) (k_srs C) (k_row C) (k_sp C) (k_kis C) (k_pg C) (k_vq C) (k_rq C) (k_L C) (va_up (k_F C) (q) (.inr (4, [.null, .null, .int (nI (0)), .int (nI (0)), .int (nI (0)), .int (nI (0))])))) H := hP
  have hD : va_D A (kX cI cJ cZ cV cR a (k_ra C) (k_rb C) (k_vc C) (k_rc C) (k_pc C) (k_nw C) (k_n C) (k_fn C) (k_sn C) (k_kc C) (k_grp C) (k_key C) (k_srt C) (k_wt C) (k_home C) (k_drp C) (k_met C) (k_kin C) (k_alv C) (k_srs C) (k_row C) (k_sp C) (k_kis C) (k_pg C) (k_vq C) (k_rq C) (k_L C) (va_up (k_F C) (q) (.inr (4, [.null, .null, .int (nI (0)), .int (nI (0)), .int (nI (0)), .int (nI (0))])))) := hD
  have hp2_0 : isI cI (k_L C) (va_up (k_F C) (q) (.inr (4, [.null, .null, .int (nI (0)), .int (nI (0)), .int (nI (0)), .int (nI (0))]))) (hs) (n9) (f9) := isE.keep2 hp1_0 (ne_of_F hp1_0.2 hp1_q.2 (fun h => nomatch h))
  have hp2_q : isE (k_L C) (va_up (k_F C) (q) (.inr (4, [.null, .null, .int (nI (0)), .int (nI (0)), .int (nI (0)), .int (nI (0))]))) (q) (.inr (4, [.null, .null, .int (nI (0)), .int (nI (0)), .int (nI (0)), .int (nI (0))])) := ⟨hp1_q.1, va_up_self _ _ _⟩
  refine lv_aload_n hx hb dX4_init_14 rfl (lv_at hl 0 rfl) ?_
  refine lv_aload_n hx hb dX4_init_15 rfl (lv_at hl 1 rfl) ?_
  refine wp_putF (ci := 4) (v := .ref (hs)) (ty := .array .int) (C := RX4) (T := TX4) (N := 6) hx hb hts hiX4 tyX4 tyX4_ok nmX4 hown hK hP hD hS hp2_q.1 hp2_q.2 rfl 0 (by decide) hf4 (fun _ h9 => h9) rfl hin rfl (by decide +kernel) rfl rfl (Nat.le_of_ble_eq_true rfl) dX4_init_16 (fun H locs hP hD hS => ?_)
  rw [bx_uu] at hP hD
  have hP : va_P D vwCl (kX cI cJ cZ cV cR a (k_ra C) (k_rb C) (k_vc C) (k_rc C) (k_pc C) (k_nw C) (k_n C) (k_fn C) (k_sn C) (k_kc C) (k_grp C) (k_key C) (k_srt C) (k_wt C) (k_home C) (k_drp C) (k_met C) (k_kin C) (k_alv C) (k_srs C) (k_row C) (k_sp C) (k_kis C) (k_pg C) (k_vq C) (k_rq C) (k_L C) (va_up (k_F C) (q) (.inr (4, [.ref (hs), .null, .int (nI (0)), .int (nI (0)), .int (nI (0)), .int (nI (0))])))) H := hP
  have hD : va_D A (kX cI cJ cZ cV cR a (k_ra C) (k_rb C) (k_vc C) (k_rc C) (k_pc C) (k_nw C) (k_n C) (k_fn C) (k_sn C) (k_kc C) (k_grp C) (k_key C) (k_srt C) (k_wt C) (k_home C) (k_drp C) (k_met C) (k_kin C) (k_alv C) (k_srs C) (k_row C) (k_sp C) (k_kis C) (k_pg C) (k_vq C) (k_rq C) (k_L C) (va_up (k_F C) (q) (.inr (4, [.ref (hs), .null, .int (nI (0)), .int (nI (0)), .int (nI (0)), .int (nI (0))])))) := hD
  have hp3_0 : isI cI (k_L C) (va_up (k_F C) (q) (.inr (4, [.ref (hs), .null, .int (nI (0)), .int (nI (0)), .int (nI (0)), .int (nI (0))]))) (hs) (n9) (f9) := isE.keep2 hp2_0 (ne_of_F hp2_0.2 hp2_q.2 (fun h => nomatch h))
  have hp3_q : isE (k_L C) (va_up (k_F C) (q) (.inr (4, [.ref (hs), .null, .int (nI (0)), .int (nI (0)), .int (nI (0)), .int (nI (0))]))) (q) (.inr (4, [.ref (hs), .null, .int (nI (0)), .int (nI (0)), .int (nI (0)), .int (nI (0))])) := ⟨hp2_q.1, va_up_self _ _ _⟩
  refine lv_aload_n hx hb dX4_init_19 rfl (lv_at hl 0 rfl) ?_
  refine lv_aload_n hx hb dX4_init_20 rfl (lv_at hl 1 rfl) ?_
  refine wp_len hx hb hK hP hp3_0.1 0 hp3_0.2 rfl dX4_init_21 ?_
  refine wp_put (ci := 4) (v := .int (nI (n9))) (ty := .int) (C := RX4) (T := TX4) (N := 6) hx hb hts hiX4 tyX4 tyX4_ok nmX4 hown hK hP hD hS hp3_q.1 hp3_q.2 rfl 2 (by decide) hf5 (fun _ h9 => h9) rfl (by decide +kernel) rfl rfl (Nat.le_of_ble_eq_true rfl) dX4_init_22 (fun H locs hP hD hS => ?_)
  rw [bx_uu] at hP hD
  have hP : va_P D vwCl (kX cI cJ cZ cV cR a (k_ra C) (k_rb C) (k_vc C) (k_rc C) (k_pc C) (k_nw C) (k_n C) (k_fn C) (k_sn C) (k_kc C) (k_grp C) (k_key C) (k_srt C) (k_wt C) (k_home C) (k_drp C) (k_met C) (k_kin C) (k_alv C) (k_srs C) (k_row C) (k_sp C) (k_kis C) (k_pg C) (k_vq C) (k_rq C) (k_L C) (va_up (k_F C) (q) (.inr (4, [.ref (hs), .null, .int (nI (n9)), .int (nI (0)), .int (nI (0)), .int (nI (0))])))) H := hP
  have hD : va_D A (kX cI cJ cZ cV cR a (k_ra C) (k_rb C) (k_vc C) (k_rc C) (k_pc C) (k_nw C) (k_n C) (k_fn C) (k_sn C) (k_kc C) (k_grp C) (k_key C) (k_srt C) (k_wt C) (k_home C) (k_drp C) (k_met C) (k_kin C) (k_alv C) (k_srs C) (k_row C) (k_sp C) (k_kis C) (k_pg C) (k_vq C) (k_rq C) (k_L C) (va_up (k_F C) (q) (.inr (4, [.ref (hs), .null, .int (nI (n9)), .int (nI (0)), .int (nI (0)), .int (nI (0))])))) := hD
  have hp4_0 : isI cI (k_L C) (va_up (k_F C) (q) (.inr (4, [.ref (hs), .null, .int (nI (n9)), .int (nI (0)), .int (nI (0)), .int (nI (0))]))) (hs) (n9) (f9) := isE.keep2 hp3_0 (ne_of_F hp3_0.2 hp3_q.2 (fun h => nomatch h))
  have hp4_q : isE (k_L C) (va_up (k_F C) (q) (.inr (4, [.ref (hs), .null, .int (nI (n9)), .int (nI (0)), .int (nI (0)), .int (nI (0))]))) (q) (.inr (4, [.ref (hs), .null, .int (nI (n9)), .int (nI (0)), .int (nI (0)), .int (nI (0))])) := ⟨hp3_q.1, va_up_self _ _ _⟩
  refine lv_aload_n hx hb dX4_init_25 rfl (lv_at hl 0 rfl) ?_
  refine lv_iload_n hx hb dX4_init_26 rfl (lv_at hl 2 rfl) ?_
  refine wp_put (ci := 4) (v := .int (nI (g9))) (ty := .int) (C := RX4) (T := TX4) (N := 6) hx hb hts hiX4 tyX4 tyX4_ok nmX4 hown hK hP hD hS hp4_q.1 hp4_q.2 rfl 3 (by decide) hf6 (fun _ h9 => h9) rfl (by decide +kernel) rfl rfl (Nat.le_of_ble_eq_true rfl) dX4_init_27 (fun H locs hP hD hS => ?_)
  rw [bx_uu] at hP hD
  have hP : va_P D vwCl (kX cI cJ cZ cV cR a (k_ra C) (k_rb C) (k_vc C) (k_rc C) (k_pc C) (k_nw C) (k_n C) (k_fn C) (k_sn C) (k_kc C) (k_grp C) (k_key C) (k_srt C) (k_wt C) (k_home C) (k_drp C) (k_met C) (k_kin C) (k_alv C) (k_srs C) (k_row C) (k_sp C) (k_kis C) (k_pg C) (k_vq C) (k_rq C) (k_L C) (va_up (k_F C) (q) (.inr (4, [.ref (hs), .null, .int (nI (n9)), .int (nI (g9)), .int (nI (0)), .int (nI (0))])))) H := hP
  have hD : va_D A (kX cI cJ cZ cV cR a (k_ra C) (k_rb C) (k_vc C) (k_rc C) (k_pc C) (k_nw C) (k_n C) (k_fn C) (k_sn C) (k_kc C) (k_grp C) (k_key C) (k_srt C) (k_wt C) (k_home C) (k_drp C) (k_met C) (k_kin C) (k_alv C) (k_srs C) (k_row C) (k_sp C) (k_kis C) (k_pg C) (k_vq C) (k_rq C) (k_L C) (va_up (k_F C) (q) (.inr (4, [.ref (hs), .null, .int (nI (n9)), .int (nI (g9)), .int (nI (0)), .int (nI (0))])))) := hD
  have hp5_0 : isI cI (k_L C) (va_up (k_F C) (q) (.inr (4, [.ref (hs), .null, .int (nI (n9)), .int (nI (g9)), .int (nI (0)), .int (nI (0))]))) (hs) (n9) (f9) := isE.keep2 hp4_0 (ne_of_F hp4_0.2 hp4_q.2 (fun h => nomatch h))
  have hp5_q : isE (k_L C) (va_up (k_F C) (q) (.inr (4, [.ref (hs), .null, .int (nI (n9)), .int (nI (g9)), .int (nI (0)), .int (nI (0))]))) (q) (.inr (4, [.ref (hs), .null, .int (nI (n9)), .int (nI (g9)), .int (nI (0)), .int (nI (0))])) := ⟨hp4_q.1, va_up_self _ _ _⟩
  refine lv_aload_n hx hb dX4_init_30 rfl (lv_at hl 0 rfl) ?_
  refine lv_aload_n hx hb dX4_init_31 rfl (lv_at hl 3 rfl) ?_
  refine wp_putF (ci := 4) (v := .ref (se)) (ty := .array .boolean) (C := RX4) (T := TX4) (N := 6) hx hb hts hiX4 tyX4 tyX4_ok nmX4 hown hK hP hD hS hp5_q.1 hp5_q.2 rfl 1 (by decide) hf7 (fun _ h9 => h9) rfl hin rfl (by decide +kernel) rfl rfl (Nat.le_of_ble_eq_true rfl) dX4_init_32 (fun H locs hP hD hS => ?_)
  rw [bx_uu] at hP hD
  have hP : va_P D vwCl (kX cI cJ cZ cV cR a (k_ra C) (k_rb C) (k_vc C) (k_rc C) (k_pc C) (k_nw C) (k_n C) (k_fn C) (k_sn C) (k_kc C) (k_grp C) (k_key C) (k_srt C) (k_wt C) (k_home C) (k_drp C) (k_met C) (k_kin C) (k_alv C) (k_srs C) (k_row C) (k_sp C) (k_kis C) (k_pg C) (k_vq C) (k_rq C) (k_L C) (va_up (k_F C) (q) (.inr (4, [.ref (hs), .ref (se), .int (nI (n9)), .int (nI (g9)), .int (nI (0)), .int (nI (0))])))) H := hP
  have hD : va_D A (kX cI cJ cZ cV cR a (k_ra C) (k_rb C) (k_vc C) (k_rc C) (k_pc C) (k_nw C) (k_n C) (k_fn C) (k_sn C) (k_kc C) (k_grp C) (k_key C) (k_srt C) (k_wt C) (k_home C) (k_drp C) (k_met C) (k_kin C) (k_alv C) (k_srs C) (k_row C) (k_sp C) (k_kis C) (k_pg C) (k_vq C) (k_rq C) (k_L C) (va_up (k_F C) (q) (.inr (4, [.ref (hs), .ref (se), .int (nI (n9)), .int (nI (g9)), .int (nI (0)), .int (nI (0))])))) := hD
  have hp6_0 : isI cI (k_L C) (va_up (k_F C) (q) (.inr (4, [.ref (hs), .ref (se), .int (nI (n9)), .int (nI (g9)), .int (nI (0)), .int (nI (0))]))) (hs) (n9) (f9) := isE.keep2 hp5_0 (ne_of_F hp5_0.2 hp5_q.2 (fun h => nomatch h))
  have hp6_q : isE (k_L C) (va_up (k_F C) (q) (.inr (4, [.ref (hs), .ref (se), .int (nI (n9)), .int (nI (g9)), .int (nI (0)), .int (nI (0))]))) (q) (.inr (4, [.ref (hs), .ref (se), .int (nI (n9)), .int (nI (g9)), .int (nI (0)), .int (nI (0))])) := ⟨hp5_q.1, va_up_self _ _ _⟩
  have hPm : va_P D vwCl (kW cI cJ cZ cV cR a (mkC (k_ra C) (k_rb C) (k_vc C) (k_rc C) (k_pc C) (k_nw C) (k_n C) (k_fn C) (k_sn C) (k_kc C) (k_grp C) (k_key C) (k_srt C) (k_wt C) (k_home C) (k_drp C) (k_met C) (k_kin C) (k_alv C) (k_srs C) (k_row C) (k_sp C) (k_kis C) (k_pg C) (k_vq C) (k_rq C) (k_L C) (va_up (k_F C) (q) (.inr (4, [.ref (hs), .ref (se), .int (nI (n9)), .int (nI (g9)), .int (nI (0)), .int (nI (0))]))))) H := by rw [← kX_mk]; exact hP
  have hDm : va_D A (kW cI cJ cZ cV cR a (mkC (k_ra C) (k_rb C) (k_vc C) (k_rc C) (k_pc C) (k_nw C) (k_n C) (k_fn C) (k_sn C) (k_kc C) (k_grp C) (k_key C) (k_srt C) (k_wt C) (k_home C) (k_drp C) (k_met C) (k_kin C) (k_alv C) (k_srs C) (k_row C) (k_sp C) (k_kis C) (k_pg C) (k_vq C) (k_rq C) (k_L C) (va_up (k_F C) (q) (.inr (4, [.ref (hs), .ref (se), .int (nI (n9)), .int (nI (g9)), .int (nI (0)), .int (nI (0))]))))) := by rw [← kX_mk]; exact hD
  exact W.vret hx hb hr (fun t ht hW => ⟨⟨(mkC (k_ra C) (k_rb C) (k_vc C) (k_rc C) (k_pc C) (k_nw C) (k_n C) (k_fn C) (k_sn C) (k_kc C) (k_grp C) (k_key C) (k_srt C) (k_wt C) (k_home C) (k_drp C) (k_met C) (k_kin C) (k_alv C) (k_srs C) (k_row C) (k_sp C) (k_kis C) (k_pg C) (k_vq C) (k_rq C) (k_L C) (va_up (k_F C) (q) (.inr (4, [.ref (hs), .ref (se), .int (nI (n9)), .int (nI (g9)), .int (nI (0)), .int (nI (0))])))), rfl, rfl, gb_mk ht hW hPm hK hDm⟩, hS.F ht⟩) hS.2.2 dX4_init_35
def rm_X1_init : Room := { frames := 1, cells := 0, slots := 0, locals := 12 }
set_option maxHeartbeats 4000000 in
set_option maxRecDepth 100000 in
/-- a reader is made -/
theorem c_X1_init (l : Launch) (D : va_G) (cI cJ cZ cV cR : ClassId) (a : Nat → Nat) (C : CT) (hM : kOk C) (q v hs : Nat) (cu : Bool) (kp : Nat) (hN : isE (k_L C) (k_F C) q (.inr (1, [.null, .null, .int (bI (false)), .int (nI (0)), .int (nI (0)), .int (nI (0)), .int (bI (false))]))) (sz : Nat) : Met l yX1_init wsX1_init rm_X1_init (va_Pc [.ref (q), .ref (v), .ref (hs), .int (bI (cu)), .int (nI (kp))] (GW D (tyK cI cJ cZ cV cR) (kW cI cJ cZ cV cR a C) sz)) (va_Qv (fun u => u = riM C q v hs cu kp) (fun u => GB D (tyK cI cJ cZ cV cR) (va_A (kW cI cJ cZ cV cR a C) sz) (kW cI cJ cZ cV cR a u)) (va_A (kW cI cJ cZ cV cR a C) sz)) 0 0 (va_A (kW cI cJ cZ cV cR a C) sz) := by
  obtain ⟨hn, hfn, hsn, hvc, hrc, hpc, hnw, hkc, h_home, h_kin, h_alv, h_srs, h_row, h_sp, h_kis, h_pg⟩ := id hM
  refine Met.ofW (cc := cX1_init) (maxL := 5) (ret := none) (by decide) rfl ?_
  intro p e s m args below meth c s₁ B hml hv
  obtain ⟨rfl, hsz, hP, hK, hD0⟩ := hv
  have hx := B.exec
  have hb := B.bytes
  have hr := B.returns
  have hts := atoms_spec (ws := wsX1_init) B.pre
  have hown : s.vm.findClass RX1 = some m.cls := findClass_of_methodNamed B.named
  have hlocks := B.notSynchronized
  have hin : meth.name = "<init>" := (name_of_methodNamed B.named B.method).1
  subst hsz
  have hD := hD0.self (sz := s.heap.size)
  generalize hAe : va_A (kW cI cJ cZ cV cR a C) s.heap.size = A at hD ⊢
  have hA : ∀ q : Nat, s.heap.size ≤ q → A q := fun q h => by rw [← hAe]; exact Or.inr h
  have hS : va_S A s.heap s.heap [] := va_S.rf
  have hP : va_P D vwCl (kX cI cJ cZ cV cR a (k_ra C) (k_rb C) (k_vc C) (k_rc C) (k_pc C) (k_nw C) (k_n C) (k_fn C) (k_sn C) (k_kc C) (k_grp C) (k_key C) (k_srt C) (k_wt C) (k_home C) (k_drp C) (k_met C) (k_kin C) (k_alv C) (k_srs C) (k_row C) (k_sp C) (k_kis C) (k_pg C) (k_vq C) (k_rq C) (k_L C) (k_F C)) s.heap := hP
  have hD : va_D A (kX cI cJ cZ cV cR a (k_ra C) (k_rb C) (k_vc C) (k_rc C) (k_pc C) (k_nw C) (k_n C) (k_fn C) (k_sn C) (k_kc C) (k_grp C) (k_key C) (k_srt C) (k_wt C) (k_home C) (k_drp C) (k_met C) (k_kin C) (k_alv C) (k_srs C) (k_row C) (k_sp C) (k_kis C) (k_pg C) (k_vq C) (k_rq C) (k_L C) (k_F C)) := hD
  have hiX1 : ∀ w ∈ wsX10, w ∈ wsX1_init := by decide +kernel
  have hf0 := hts (.methodLink RX1 1 objectInit) (by decide +kernel)
  have hf1 := hts (.instanceMethod objectInit) (by decide +kernel)
  have hf2 := hts (.fieldLink RX1 7 "GroupCursors$Reader" "given" "I") (by decide +kernel)
  have hf3 := hts (.fieldLink RX1 13 "GroupCursors$Reader" "end" "I") (by decide +kernel)
  have hf4 := hts (.fieldLink RX1 16 "GroupCursors$Reader" "ended" "Z") (by decide +kernel)
  have hf5 := hts (.fieldLink RX1 20 "GroupCursors$Reader" "view" "LGroupCursors$View;") (by decide +kernel)
  have hf6 := hts (.fieldLink RX1 24 "GroupCursors$Reader" "hits" "[I") (by decide +kernel)
  have hf7 := hts (.fieldLink RX1 28 "GroupCursors$Reader" "isCursor" "Z") (by decide +kernel)
  have hf8 := hts (.fieldLink RX1 31 "GroupCursors$Reader" "keep" "I") (by decide +kernel)
  have hl := lv_entry ([.ref (q), .ref (v), .ref (hs), .int (bI (cu)), .int (nI (kp))]) (n := 5) (Nat.le_of_ble_eq_true rfl)
  rw [lg_entry_eq]
  generalize (lg_sl ([.ref (q), .ref (v), .ref (hs), .int (bI (cu)), .int (nI (kp))]) ++ List.replicate (5 - (lg_sl ([.ref (q), .ref (v), .ref (hs), .int (bI (cu)), .int (nI (kp))])).length) Slot.unset).toArray = ls at hl ⊢
  have hl : lv_has ls 5 [(0, .ref (q)), (1, .ref (v)), (2, .ref (hs)), (3, .int (bI (cu))), (4, .int (nI (kp)))] := hl
  refine lv_aload_n hx hb dX1_init_0 rfl (lv_at hl 0 rfl) ?_
  refine W.objInit hx hb hown hf0 hf1 (hts _ (List.mem_cons_of_mem _ (List.mem_append_left _ (List.mem_of_getElem? (i := 2) rfl)))) rfl (by rw [hml]; exact hl.1) rfl dX1_init_1 (Nat.le_of_ble_eq_true rfl) (Nat.le_of_ble_eq_true rfl) ?_
  refine lv_aload_n hx hb dX1_init_4 rfl (lv_at hl 0 rfl) ?_
  refine lv_iconst (v := nI (0)) hx hb dX1_init_5 (by decide) ?_
  refine wp_put (ci := 1) (v := .int (nI (0))) (ty := .int) (C := RX1) (T := TX1) (N := 7) hx hb hts hiX1 tyX1 tyX1_ok nmX1 hown hK hP hD hS hN.1 hN.2 rfl 4 (by decide) hf2 (fun _ h9 => h9) rfl (by decide +kernel) rfl rfl (Nat.le_of_ble_eq_true rfl) dX1_init_6 (fun H locs hP hD hS => ?_)
  have hP : va_P D vwCl (kX cI cJ cZ cV cR a (k_ra C) (k_rb C) (k_vc C) (k_rc C) (k_pc C) (k_nw C) (k_n C) (k_fn C) (k_sn C) (k_kc C) (k_grp C) (k_key C) (k_srt C) (k_wt C) (k_home C) (k_drp C) (k_met C) (k_kin C) (k_alv C) (k_srs C) (k_row C) (k_sp C) (k_kis C) (k_pg C) (k_vq C) (k_rq C) (k_L C) (va_up (k_F C) (q) (.inr (1, [.null, .null, .int (bI (false)), .int (nI (0)), .int (nI (0)), .int (nI (0)), .int (bI (false))])))) H := hP
  have hD : va_D A (kX cI cJ cZ cV cR a (k_ra C) (k_rb C) (k_vc C) (k_rc C) (k_pc C) (k_nw C) (k_n C) (k_fn C) (k_sn C) (k_kc C) (k_grp C) (k_key C) (k_srt C) (k_wt C) (k_home C) (k_drp C) (k_met C) (k_kin C) (k_alv C) (k_srs C) (k_row C) (k_sp C) (k_kis C) (k_pg C) (k_vq C) (k_rq C) (k_L C) (va_up (k_F C) (q) (.inr (1, [.null, .null, .int (bI (false)), .int (nI (0)), .int (nI (0)), .int (nI (0)), .int (bI (false))])))) := hD
  have hp1_q : isE (k_L C) (va_up (k_F C) (q) (.inr (1, [.null, .null, .int (bI (false)), .int (nI (0)), .int (nI (0)), .int (nI (0)), .int (bI (false))]))) (q) (.inr (1, [.null, .null, .int (bI (false)), .int (nI (0)), .int (nI (0)), .int (nI (0)), .int (bI (false))])) := ⟨hN.1, va_up_self _ _ _⟩
  refine lv_aload_n hx hb dX1_init_9 rfl (lv_at hl 0 rfl) ?_
  refine lv_iconst (v := nI (0)) hx hb dX1_init_10 (by decide) ?_
  refine wp_put (ci := 1) (v := .int (nI (0))) (ty := .int) (C := RX1) (T := TX1) (N := 7) hx hb hts hiX1 tyX1 tyX1_ok nmX1 hown hK hP hD hS hp1_q.1 hp1_q.2 rfl 5 (by decide) hf3 (fun _ h9 => h9) rfl (by decide +kernel) rfl rfl (Nat.le_of_ble_eq_true rfl) dX1_init_11 (fun H locs hP hD hS => ?_)
  rw [bx_uu] at hP hD
  have hP : va_P D vwCl (kX cI cJ cZ cV cR a (k_ra C) (k_rb C) (k_vc C) (k_rc C) (k_pc C) (k_nw C) (k_n C) (k_fn C) (k_sn C) (k_kc C) (k_grp C) (k_key C) (k_srt C) (k_wt C) (k_home C) (k_drp C) (k_met C) (k_kin C) (k_alv C) (k_srs C) (k_row C) (k_sp C) (k_kis C) (k_pg C) (k_vq C) (k_rq C) (k_L C) (va_up (k_F C) (q) (.inr (1, [.null, .null, .int (bI (false)), .int (nI (0)), .int (nI (0)), .int (nI (0)), .int (bI (false))])))) H := hP
  have hD : va_D A (kX cI cJ cZ cV cR a (k_ra C) (k_rb C) (k_vc C) (k_rc C) (k_pc C) (k_nw C) (k_n C) (k_fn C) (k_sn C) (k_kc C) (k_grp C) (k_key C) (k_srt C) (k_wt C) (k_home C) (k_drp C) (k_met C) (k_kin C) (k_alv C) (k_srs C) (k_row C) (k_sp C) (k_kis C) (k_pg C) (k_vq C) (k_rq C) (k_L C) (va_up (k_F C) (q) (.inr (1, [.null, .null, .int (bI (false)), .int (nI (0)), .int (nI (0)), .int (nI (0)), .int (bI (false))])))) := hD
  have hp2_q : isE (k_L C) (va_up (k_F C) (q) (.inr (1, [.null, .null, .int (bI (false)), .int (nI (0)), .int (nI (0)), .int (nI (0)), .int (bI (false))]))) (q) (.inr (1, [.null, .null, .int (bI (false)), .int (nI (0)), .int (nI (0)), .int (nI (0)), .int (bI (false))])) := ⟨hp1_q.1, va_up_self _ _ _⟩
  refine lv_aload_n hx hb dX1_init_14 rfl (lv_at hl 0 rfl) ?_
  refine lv_iconst (v := nI (0)) hx hb dX1_init_15 (by decide) ?_
  refine ww_top (y := bI (false)) rfl ?_
  refine wp_put (ci := 1) (v := .int (bI (false))) (ty := .boolean) (C := RX1) (T := TX1) (N := 7) hx hb hts hiX1 tyX1 tyX1_ok nmX1 hown hK hP hD hS hp2_q.1 hp2_q.2 rfl 6 (by decide) hf4 (fun _ h9 => h9) rfl (by decide +kernel) (bI_nr _) (bI_fit _) (Nat.le_of_ble_eq_true rfl) dX1_init_16 (fun H locs hP hD hS => ?_)
  rw [bx_uu] at hP hD
  have hP : va_P D vwCl (kX cI cJ cZ cV cR a (k_ra C) (k_rb C) (k_vc C) (k_rc C) (k_pc C) (k_nw C) (k_n C) (k_fn C) (k_sn C) (k_kc C) (k_grp C) (k_key C) (k_srt C) (k_wt C) (k_home C) (k_drp C) (k_met C) (k_kin C) (k_alv C) (k_srs C) (k_row C) (k_sp C) (k_kis C) (k_pg C) (k_vq C) (k_rq C) (k_L C) (va_up (k_F C) (q) (.inr (1, [.null, .null, .int (bI (false)), .int (nI (0)), .int (nI (0)), .int (nI (0)), .int (bI (false))])))) H := hP
  have hD : va_D A (kX cI cJ cZ cV cR a (k_ra C) (k_rb C) (k_vc C) (k_rc C) (k_pc C) (k_nw C) (k_n C) (k_fn C) (k_sn C) (k_kc C) (k_grp C) (k_key C) (k_srt C) (k_wt C) (k_home C) (k_drp C) (k_met C) (k_kin C) (k_alv C) (k_srs C) (k_row C) (k_sp C) (k_kis C) (k_pg C) (k_vq C) (k_rq C) (k_L C) (va_up (k_F C) (q) (.inr (1, [.null, .null, .int (bI (false)), .int (nI (0)), .int (nI (0)), .int (nI (0)), .int (bI (false))])))) := hD
  have hp3_q : isE (k_L C) (va_up (k_F C) (q) (.inr (1, [.null, .null, .int (bI (false)), .int (nI (0)), .int (nI (0)), .int (nI (0)), .int (bI (false))]))) (q) (.inr (1, [.null, .null, .int (bI (false)), .int (nI (0)), .int (nI (0)), .int (nI (0)), .int (bI (false))])) := ⟨hp2_q.1, va_up_self _ _ _⟩
  refine lv_aload_n hx hb dX1_init_19 rfl (lv_at hl 0 rfl) ?_
  refine lv_aload_n hx hb dX1_init_20 rfl (lv_at hl 1 rfl) ?_
  refine wp_putF (ci := 1) (v := .ref (v)) (ty := .object "GroupCursors$View") (C := RX1) (T := TX1) (N := 7) hx hb hts hiX1 tyX1 tyX1_ok nmX1 hown hK hP hD hS hp3_q.1 hp3_q.2 rfl 0 (by decide) hf5 (fun _ h9 => h9) rfl hin rfl (by decide +kernel) rfl rfl (Nat.le_of_ble_eq_true rfl) dX1_init_21 (fun H locs hP hD hS => ?_)
  rw [bx_uu] at hP hD
  have hP : va_P D vwCl (kX cI cJ cZ cV cR a (k_ra C) (k_rb C) (k_vc C) (k_rc C) (k_pc C) (k_nw C) (k_n C) (k_fn C) (k_sn C) (k_kc C) (k_grp C) (k_key C) (k_srt C) (k_wt C) (k_home C) (k_drp C) (k_met C) (k_kin C) (k_alv C) (k_srs C) (k_row C) (k_sp C) (k_kis C) (k_pg C) (k_vq C) (k_rq C) (k_L C) (va_up (k_F C) (q) (.inr (1, [.ref (v), .null, .int (bI (false)), .int (nI (0)), .int (nI (0)), .int (nI (0)), .int (bI (false))])))) H := hP
  have hD : va_D A (kX cI cJ cZ cV cR a (k_ra C) (k_rb C) (k_vc C) (k_rc C) (k_pc C) (k_nw C) (k_n C) (k_fn C) (k_sn C) (k_kc C) (k_grp C) (k_key C) (k_srt C) (k_wt C) (k_home C) (k_drp C) (k_met C) (k_kin C) (k_alv C) (k_srs C) (k_row C) (k_sp C) (k_kis C) (k_pg C) (k_vq C) (k_rq C) (k_L C) (va_up (k_F C) (q) (.inr (1, [.ref (v), .null, .int (bI (false)), .int (nI (0)), .int (nI (0)), .int (nI (0)), .int (bI (false))])))) := hD
  have hp4_q : isE (k_L C) (va_up (k_F C) (q) (.inr (1, [.ref (v), .null, .int (bI (false)), .int (nI (0)), .int (nI (0)), .int (nI (0)), .int (bI (false))]))) (q) (.inr (1, [.ref (v), .null, .int (bI (false)), .int (nI (0)), .int (nI (0)), .int (nI (0)), .int (bI (false))])) := ⟨hp3_q.1, va_up_self _ _ _⟩
  refine lv_aload_n hx hb dX1_init_24 rfl (lv_at hl 0 rfl) ?_
  refine lv_aload_n hx hb dX1_init_25 rfl (lv_at hl 2 rfl) ?_
  refine wp_putF (ci := 1) (v := .ref (hs)) (ty := .array .int) (C := RX1) (T := TX1) (N := 7) hx hb hts hiX1 tyX1 tyX1_ok nmX1 hown hK hP hD hS hp4_q.1 hp4_q.2 rfl 1 (by decide) hf6 (fun _ h9 => h9) rfl hin rfl (by decide +kernel) rfl rfl (Nat.le_of_ble_eq_true rfl) dX1_init_26 (fun H locs hP hD hS => ?_)
  rw [bx_uu] at hP hD
  have hP : va_P D vwCl (kX cI cJ cZ cV cR a (k_ra C) (k_rb C) (k_vc C) (k_rc C) (k_pc C) (k_nw C) (k_n C) (k_fn C) (k_sn C) (k_kc C) (k_grp C) (k_key C) (k_srt C) (k_wt C) (k_home C) (k_drp C) (k_met C) (k_kin C) (k_alv C) (k_srs C) (k_row C) (k_sp C) (k_kis C) (k_pg C) (k_vq C) (k_rq C) (k_L C) (va_up (k_F C) (q) (.inr (1, [.ref (v), .ref (hs), .int (bI (false)), .int (nI (0)), .int (nI (0)), .int (nI (0)), .int (bI (false))])))) H := hP
  have hD : va_D A (kX cI cJ cZ cV cR a (k_ra C) (k_rb C) (k_vc C) (k_rc C) (k_pc C) (k_nw C) (k_n C) (k_fn C) (k_sn C) (k_kc C) (k_grp C) (k_key C) (k_srt C) (k_wt C) (k_home C) (k_drp C) (k_met C) (k_kin C) (k_alv C) (k_srs C) (k_row C) (k_sp C) (k_kis C) (k_pg C) (k_vq C) (k_rq C) (k_L C) (va_up (k_F C) (q) (.inr (1, [.ref (v), .ref (hs), .int (bI (false)), .int (nI (0)), .int (nI (0)), .int (nI (0)), .int (bI (false))])))) := hD
  have hp5_q : isE (k_L C) (va_up (k_F C) (q) (.inr (1, [.ref (v), .ref (hs), .int (bI (false)), .int (nI (0)), .int (nI (0)), .int (nI (0)), .int (bI (false))]))) (q) (.inr (1, [.ref (v), .ref (hs), .int (bI (false)), .int (nI (0)), .int (nI (0)), .int (nI (0)), .int (bI (false))])) := ⟨hp4_q.1, va_up_self _ _ _⟩
  refine lv_aload_n hx hb dX1_init_29 rfl (lv_at hl 0 rfl) ?_
  refine lv_iload_n hx hb dX1_init_30 rfl (lv_at hl 3 rfl) ?_
  refine wp_putF (ci := 1) (v := .int (bI (cu))) (ty := .boolean) (C := RX1) (T := TX1) (N := 7) hx hb hts hiX1 tyX1 tyX1_ok nmX1 hown hK hP hD hS hp5_q.1 hp5_q.2 rfl 2 (by decide) hf7 (fun _ h9 => h9) rfl hin rfl (by decide +kernel) (bI_nr _) (bI_fit _) (Nat.le_of_ble_eq_true rfl) dX1_init_31 (fun H locs hP hD hS => ?_)
  rw [bx_uu] at hP hD
  have hP : va_P D vwCl (kX cI cJ cZ cV cR a (k_ra C) (k_rb C) (k_vc C) (k_rc C) (k_pc C) (k_nw C) (k_n C) (k_fn C) (k_sn C) (k_kc C) (k_grp C) (k_key C) (k_srt C) (k_wt C) (k_home C) (k_drp C) (k_met C) (k_kin C) (k_alv C) (k_srs C) (k_row C) (k_sp C) (k_kis C) (k_pg C) (k_vq C) (k_rq C) (k_L C) (va_up (k_F C) (q) (.inr (1, [.ref (v), .ref (hs), .int (bI (cu)), .int (nI (0)), .int (nI (0)), .int (nI (0)), .int (bI (false))])))) H := hP
  have hD : va_D A (kX cI cJ cZ cV cR a (k_ra C) (k_rb C) (k_vc C) (k_rc C) (k_pc C) (k_nw C) (k_n C) (k_fn C) (k_sn C) (k_kc C) (k_grp C) (k_key C) (k_srt C) (k_wt C) (k_home C) (k_drp C) (k_met C) (k_kin C) (k_alv C) (k_srs C) (k_row C) (k_sp C) (k_kis C) (k_pg C) (k_vq C) (k_rq C) (k_L C) (va_up (k_F C) (q) (.inr (1, [.ref (v), .ref (hs), .int (bI (cu)), .int (nI (0)), .int (nI (0)), .int (nI (0)), .int (bI (false))])))) := hD
  have hp6_q : isE (k_L C) (va_up (k_F C) (q) (.inr (1, [.ref (v), .ref (hs), .int (bI (cu)), .int (nI (0)), .int (nI (0)), .int (nI (0)), .int (bI (false))]))) (q) (.inr (1, [.ref (v), .ref (hs), .int (bI (cu)), .int (nI (0)), .int (nI (0)), .int (nI (0)), .int (bI (false))])) := ⟨hp5_q.1, va_up_self _ _ _⟩
  refine lv_aload_n hx hb dX1_init_34 rfl (lv_at hl 0 rfl) ?_
  refine lv_iload hx hb dX1_init_35 (lv_at hl 4 rfl) ?_
  refine wp_putF (ci := 1) (v := .int (nI (kp))) (ty := .int) (C := RX1) (T := TX1) (N := 7) hx hb hts hiX1 tyX1 tyX1_ok nmX1 hown hK hP hD hS hp6_q.1 hp6_q.2 rfl 3 (by decide) hf8 (fun _ h9 => h9) rfl hin rfl (by decide +kernel) rfl rfl (Nat.le_of_ble_eq_true rfl) dX1_init_37 (fun H locs hP hD hS => ?_)
  rw [bx_uu] at hP hD
  have hP : va_P D vwCl (kX cI cJ cZ cV cR a (k_ra C) (k_rb C) (k_vc C) (k_rc C) (k_pc C) (k_nw C) (k_n C) (k_fn C) (k_sn C) (k_kc C) (k_grp C) (k_key C) (k_srt C) (k_wt C) (k_home C) (k_drp C) (k_met C) (k_kin C) (k_alv C) (k_srs C) (k_row C) (k_sp C) (k_kis C) (k_pg C) (k_vq C) (k_rq C) (k_L C) (va_up (k_F C) (q) (.inr (1, [.ref (v), .ref (hs), .int (bI (cu)), .int (nI (kp)), .int (nI (0)), .int (nI (0)), .int (bI (false))])))) H := hP
  have hD : va_D A (kX cI cJ cZ cV cR a (k_ra C) (k_rb C) (k_vc C) (k_rc C) (k_pc C) (k_nw C) (k_n C) (k_fn C) (k_sn C) (k_kc C) (k_grp C) (k_key C) (k_srt C) (k_wt C) (k_home C) (k_drp C) (k_met C) (k_kin C) (k_alv C) (k_srs C) (k_row C) (k_sp C) (k_kis C) (k_pg C) (k_vq C) (k_rq C) (k_L C) (va_up (k_F C) (q) (.inr (1, [.ref (v), .ref (hs), .int (bI (cu)), .int (nI (kp)), .int (nI (0)), .int (nI (0)), .int (bI (false))])))) := hD
  have hp7_q : isE (k_L C) (va_up (k_F C) (q) (.inr (1, [.ref (v), .ref (hs), .int (bI (cu)), .int (nI (kp)), .int (nI (0)), .int (nI (0)), .int (bI (false))]))) (q) (.inr (1, [.ref (v), .ref (hs), .int (bI (cu)), .int (nI (kp)), .int (nI (0)), .int (nI (0)), .int (bI (false))])) := ⟨hp6_q.1, va_up_self _ _ _⟩
  have hPm : va_P D vwCl (kW cI cJ cZ cV cR a (mkC (k_ra C) (k_rb C) (k_vc C) (k_rc C) (k_pc C) (k_nw C) (k_n C) (k_fn C) (k_sn C) (k_kc C) (k_grp C) (k_key C) (k_srt C) (k_wt C) (k_home C) (k_drp C) (k_met C) (k_kin C) (k_alv C) (k_srs C) (k_row C) (k_sp C) (k_kis C) (k_pg C) (k_vq C) (k_rq C) (k_L C) (va_up (k_F C) (q) (.inr (1, [.ref (v), .ref (hs), .int (bI (cu)), .int (nI (kp)), .int (nI (0)), .int (nI (0)), .int (bI (false))]))))) H := by rw [← kX_mk]; exact hP
  have hDm : va_D A (kW cI cJ cZ cV cR a (mkC (k_ra C) (k_rb C) (k_vc C) (k_rc C) (k_pc C) (k_nw C) (k_n C) (k_fn C) (k_sn C) (k_kc C) (k_grp C) (k_key C) (k_srt C) (k_wt C) (k_home C) (k_drp C) (k_met C) (k_kin C) (k_alv C) (k_srs C) (k_row C) (k_sp C) (k_kis C) (k_pg C) (k_vq C) (k_rq C) (k_L C) (va_up (k_F C) (q) (.inr (1, [.ref (v), .ref (hs), .int (bI (cu)), .int (nI (kp)), .int (nI (0)), .int (nI (0)), .int (bI (false))]))))) := by rw [← kX_mk]; exact hD
  exact W.vret hx hb hr (fun t ht hW => ⟨⟨(mkC (k_ra C) (k_rb C) (k_vc C) (k_rc C) (k_pc C) (k_nw C) (k_n C) (k_fn C) (k_sn C) (k_kc C) (k_grp C) (k_key C) (k_srt C) (k_wt C) (k_home C) (k_drp C) (k_met C) (k_kin C) (k_alv C) (k_srs C) (k_row C) (k_sp C) (k_kis C) (k_pg C) (k_vq C) (k_rq C) (k_L C) (va_up (k_F C) (q) (.inr (1, [.ref (v), .ref (hs), .int (bI (cu)), .int (nI (kp)), .int (nI (0)), .int (nI (0)), .int (bI (false))])))), rfl, rfl, gb_mk ht hW hPm hK hDm⟩, hS.F ht⟩) hS.2.2 dX1_init_40
