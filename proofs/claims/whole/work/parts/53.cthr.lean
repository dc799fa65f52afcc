def rmx_X0_memberAt : Room := { frames := 6, cells := 1, slots := 6, locals := 82 }
set_option maxHeartbeats 4000000 in
set_option maxRecDepth 100000 in
/-- no such member -/
theorem x_X0_memberAt (l : Launch) (htr : l.stackTraces = false) (D : va_G) (cI cJ cZ cV cR : ClassId) (a : Nat → Nat) (C : CT) (hM : kOk C) (x : Int32) (hbad : x.toInt < 0 ∨ ((k_kc C : Nat) : Int) ≤ x.toInt) (sz : Nat) : vx_Met l yX0_memberAt wsX0_memberAt rmx_X0_memberAt (va_Pc [.ref (a 11), .int (x)] (GX D (tyK cI cJ cZ cV cR) (kW cI cJ cZ cV cR a C) sz)) xNo (xXC D (tyK cI cJ cZ cV cR) "java/lang/IndexOutOfBoundsException" (fun u : CT => u = C) (kW cI cJ cZ cV cR a) (va_A (kW cI cJ cZ cV cR a C) sz)) 1 6 (va_A (kW cI cJ cZ cV cR a C) sz) := by
  obtain ⟨hn, hfn, hsn, hvc, hrc, hpc, hnw, hkc, h_home, h_kin, h_alv, h_srs, h_row, h_sp, h_kis, h_pg⟩ := id hM
  refine vx_ofW (cc := cX0_memberAt) (maxL := 2) (ret := (some .int)) (by decide) rfl ?_
  intro p e s m args below meth c s₁ B hml hout hv
  obtain ⟨rfl, ⟨hsz, hP, hK, hD0⟩, hXE⟩ := hv
  have hx := B.exec
  have hb := B.bytes
  have hr := B.returns
  have hts := atoms_spec (ws := wsX0_memberAt) B.pre
  have hown : s.vm.findClass RX0 = some m.cls := findClass_of_methodNamed B.named
  have hlocks := B.notSynchronized
  subst hsz
  have hD := hD0.self (sz := s.heap.size)
  generalize hAe : va_A (kW cI cJ cZ cV cR a C) s.heap.size = A at hD hXE ⊢
  have hA : ∀ q : Nat, s.heap.size ≤ q → A q := fun q h => by rw [← hAe]; exact Or.inr h
  have hS : va_S A s.heap s.heap [] := va_S.rf
  have hP : va_P D vwCl (kX cI cJ cZ cV cR a (k_ra C) (k_rb C) (k_vc C) (k_rc C) (k_pc C) (k_nw C) (k_n C) (k_fn C) (k_sn C) (k_kc C) (k_grp C) (k_key C) (k_srt C) (k_wt C) (k_home C) (k_drp C) (k_met C) (k_kin C) (k_alv C) (k_srs C) (k_row C) (k_sp C) (k_kis C) (k_pg C) (k_vq C) (k_rq C) (k_L C) (k_F C)) s.heap := hP
  have hD : va_D A (kX cI cJ cZ cV cR a (k_ra C) (k_rb C) (k_vc C) (k_rc C) (k_pc C) (k_nw C) (k_n C) (k_fn C) (k_sn C) (k_kc C) (k_grp C) (k_key C) (k_srt C) (k_wt C) (k_home C) (k_drp C) (k_met C) (k_kin C) (k_alv C) (k_srs C) (k_row C) (k_sp C) (k_kis C) (k_pg C) (k_vq C) (k_rq C) (k_L C) (k_F C)) := hD
  have hiX0 : ∀ w ∈ wsX00, w ∈ wsX0_memberAt := by decide +kernel
  have hf0 := hts (.classLink RX0 83 "java/lang/IndexOutOfBoundsException") (by decide +kernel)
  have hf1 := hts (.initialized "java/lang/IndexOutOfBoundsException") (by decide +kernel)
  have hf2 := hts (.fieldLink RX0 29 "GroupCursors$Ranking" "count" "I") (by decide +kernel)
  have hl := lv_entry ([.ref (a 11), .int (x)]) (n := 2) (Nat.le_of_ble_eq_true rfl)
  rw [lg_entry_eq]
  generalize (lg_sl ([.ref (a 11), .int (x)]) ++ List.replicate (2 - (lg_sl ([.ref (a 11), .int (x)])).length) Slot.unset).toArray = ls at hl ⊢
  have hl : lv_has ls 2 [(0, .ref (a 11)), (1, .int (x))] := hl
  refine lv_iload_n hx hb dX0_memberAt_0 rfl (lv_at hl 1 rfl) ?_
  refine wz_if_lt (tgt := 12) hx hb ((x).toInt) rfl dX0_memberAt_1 (by decide) (fun c1_1 => ?_) (fun c1_1 => ?_)
  · have hPm : va_P D vwCl (kW cI cJ cZ cV cR a C) s.heap := by exact hP
    have hDm : va_D A (kW cI cJ cZ cV cR a C) := by exact hD
    obtain ⟨sa, hsa⟩ := hXE.2.2.2.2 ("GroupCursors$Ranking", 85, "no such object") (by decide)
    exact vx_throwS hx hb htr hown (by decide) (by decide) hf0 hf1 hsa (xat_X0_87 hXE (fun w hw => hts w (by unfold wsX0_memberAt; simp only [List.mem_cons, List.mem_append, hw, or_true, true_or]))) xgd_X0_87 hXE.1 hXE.2.1 hS (hl.1.trans hml.symm) dX0_memberAt_12 dX0_memberAt_15 dX0_memberAt_16 dX0_memberAt_18 dX0_memberAt_21 (fun x h => (hout x h).elim) (Nat.le_of_ble_eq_true rfl) (Nat.le_of_ble_eq_true rfl) (Nat.le_of_ble_eq_true rfl) (Nat.le_of_ble_eq_true rfl) hlocks (xxc_mk C rfl hPm hK hDm hS) hS.2.2 (Nat.le_refl _) (Nat.le_refl _)
  · refine lv_iload_n hx hb dX0_memberAt_4 rfl (lv_at hl 1 rfl) ?_
    refine lv_aload_n hx hb dX0_memberAt_5 rfl (lv_at hl 0 rfl) ?_
    refine va_get (ci := 0) (v := .int (nI (k_kc C))) (C := RX0) (T := TX0) (N := 7) hx hb hts hiX0 hown hK hP 11 rfl rfl 6 (by decide) hf2 (fun _ h9 => h9) rfl dX0_memberAt_6 ?_
    refine wz_icmp_lt (tgt := 22) hx hb ((x).toInt) (((k_kc C : Nat) : Int)) rfl (nI_z (by omega)) dX0_memberAt_9 (by decide) (fun c9_2 => ?_) (fun c9_2 => ?_)
    · exfalso; omega
    · have hPm : va_P D vwCl (kW cI cJ cZ cV cR a C) s.heap := by exact hP
      have hDm : va_D A (kW cI cJ cZ cV cR a C) := by exact hD
      obtain ⟨sa, hsa⟩ := hXE.2.2.2.2 ("GroupCursors$Ranking", 85, "no such object") (by decide)
      exact vx_throwS hx hb htr hown (by decide) (by decide) hf0 hf1 hsa (xat_X0_87 hXE (fun w hw => hts w (by unfold wsX0_memberAt; simp only [List.mem_cons, List.mem_append, hw, or_true, true_or]))) xgd_X0_87 hXE.1 hXE.2.1 hS (hl.1.trans hml.symm) dX0_memberAt_12 dX0_memberAt_15 dX0_memberAt_16 dX0_memberAt_18 dX0_memberAt_21 (fun x h => (hout x h).elim) (Nat.le_of_ble_eq_true rfl) (Nat.le_of_ble_eq_true rfl) (Nat.le_of_ble_eq_true rfl) (Nat.le_of_ble_eq_true rfl) hlocks (xxc_mk C rfl hPm hK hDm hS) hS.2.2 (Nat.le_refl _) (Nat.le_refl _)
def rmx_X5_checkObject : Room := { frames := 6, cells := 1, slots := 6, locals := 82 }
set_option maxHeartbeats 4000000 in
set_option maxRecDepth 100000 in
/-- no such object -/
theorem x_X5_checkObject (l : Launch) (htr : l.stackTraces = false) (D : va_G) (cI cJ cZ cV cR : ClassId) (a : Nat → Nat) (C : CT) (hM : kOk C) (x : Int32) (hbad : x.toInt < 0 ∨ ((k_n C : Nat) : Int) ≤ x.toInt) (sz : Nat) : vx_Met l yX5_checkObject wsX5_checkObject rmx_X5_checkObject (va_Pc [.ref (a 0), .int (x)] (GX D (tyK cI cJ cZ cV cR) (kW cI cJ cZ cV cR a C) sz)) xNo (xXC D (tyK cI cJ cZ cV cR) "java/lang/IndexOutOfBoundsException" (fun u : CT => u = C) (kW cI cJ cZ cV cR a) (va_A (kW cI cJ cZ cV cR a C) sz)) 1 6 (va_A (kW cI cJ cZ cV cR a C) sz) := by
  obtain ⟨hn, hfn, hsn, hvc, hrc, hpc, hnw, hkc, h_home, h_kin, h_alv, h_srs, h_row, h_sp, h_kis, h_pg⟩ := id hM
  refine vx_ofW (cc := cX5_checkObject) (maxL := 2) (ret := none) (by decide) rfl ?_
  intro p e s m args below meth c s₁ B hml hout hv
  obtain ⟨rfl, ⟨hsz, hP, hK, hD0⟩, hXE⟩ := hv
  have hx := B.exec
  have hb := B.bytes
  have hr := B.returns
  have hts := atoms_spec (ws := wsX5_checkObject) B.pre
  have hown : s.vm.findClass RX5 = some m.cls := findClass_of_methodNamed B.named
  have hlocks := B.notSynchronized
  subst hsz
  have hD := hD0.self (sz := s.heap.size)
  generalize hAe : va_A (kW cI cJ cZ cV cR a C) s.heap.size = A at hD hXE ⊢
  have hA : ∀ q : Nat, s.heap.size ≤ q → A q := fun q h => by rw [← hAe]; exact Or.inr h
  have hS : va_S A s.heap s.heap [] := va_S.rf
  have hP : va_P D vwCl (kX cI cJ cZ cV cR a (k_ra C) (k_rb C) (k_vc C) (k_rc C) (k_pc C) (k_nw C) (k_n C) (k_fn C) (k_sn C) (k_kc C) (k_grp C) (k_key C) (k_srt C) (k_wt C) (k_home C) (k_drp C) (k_met C) (k_kin C) (k_alv C) (k_srs C) (k_row C) (k_sp C) (k_kis C) (k_pg C) (k_vq C) (k_rq C) (k_L C) (k_F C)) s.heap := hP
  have hD : va_D A (kX cI cJ cZ cV cR a (k_ra C) (k_rb C) (k_vc C) (k_rc C) (k_pc C) (k_nw C) (k_n C) (k_fn C) (k_sn C) (k_kc C) (k_grp C) (k_key C) (k_srt C) (k_wt C) (k_home C) (k_drp C) (k_met C) (k_kin C) (k_alv C) (k_srs C) (k_row C) (k_sp C) (k_kis C) (k_pg C) (k_vq C) (k_rq C) (k_L C) (k_F C)) := hD
  have hiX5 : ∀ w ∈ wsX50, w ∈ wsX5_checkObject := by decide +kernel
  have hiX3 : ∀ w ∈ wsX30, w ∈ wsX5_checkObject := by decide +kernel
  have hf0 := hts (.classLink RX5 116 "java/lang/IndexOutOfBoundsException") (by decide +kernel)
  have hf1 := hts (.initialized "java/lang/IndexOutOfBoundsException") (by decide +kernel)
  have hf2 := hts (.fieldLink RX5 10 "GroupCursors" "stock" "LGroupCursors$Stock;") (by decide +kernel)
  have hf3 := hts (.fieldLink RX5 61 "GroupCursors$Stock" "count" "I") (by decide +kernel)
  have hl := lv_entry ([.ref (a 0), .int (x)]) (n := 2) (Nat.le_of_ble_eq_true rfl)
  rw [lg_entry_eq]
  generalize (lg_sl ([.ref (a 0), .int (x)]) ++ List.replicate (2 - (lg_sl ([.ref (a 0), .int (x)])).length) Slot.unset).toArray = ls at hl ⊢
  have hl : lv_has ls 2 [(0, .ref (a 0)), (1, .int (x))] := hl
  refine lv_iload_n hx hb dX5_checkObject_0 rfl (lv_at hl 1 rfl) ?_
  refine wz_if_lt (tgt := 15) hx hb ((x).toInt) rfl dX5_checkObject_1 (by decide) (fun c1_1 => ?_) (fun c1_1 => ?_)
  · have hPm : va_P D vwCl (kW cI cJ cZ cV cR a C) s.heap := by exact hP
    have hDm : va_D A (kW cI cJ cZ cV cR a C) := by exact hD
    obtain ⟨sa, hsa⟩ := hXE.2.2.2.2 ("GroupCursors", 287, "no such object") (by decide)
    exact vx_throwSW hx hb htr hown (by decide) (by decide) hf0 hf1 hsa (xat_X5_120 hXE (fun w hw => hts w (by unfold wsX5_checkObject; simp only [List.mem_cons, List.mem_append, hw, or_true, true_or]))) xgd_X5_120 hXE.1 hXE.2.1 hS (hl.1.trans hml.symm) dX5_checkObject_15 dX5_checkObject_18 dX5_checkObject_19 dX5_checkObject_22 dX5_checkObject_25 (fun x h => (hout x h).elim) (Nat.le_of_ble_eq_true rfl) (Nat.le_of_ble_eq_true rfl) (Nat.le_of_ble_eq_true rfl) (Nat.le_of_ble_eq_true rfl) hlocks (xxc_mk C rfl hPm hK hDm hS) hS.2.2 (Nat.le_refl _) (Nat.le_refl _)
  · refine lv_iload_n hx hb dX5_checkObject_4 rfl (lv_at hl 1 rfl) ?_
    refine lv_aload_n hx hb dX5_checkObject_5 rfl (lv_at hl 0 rfl) ?_
    refine va_get (ci := 5) (v := .ref (a 1)) (C := RX5) (T := TX5) (N := 10) hx hb hts hiX5 hown hK hP 0 rfl rfl 0 (by decide) hf2 (fun _ h9 => h9) rfl dX5_checkObject_6 ?_
    refine va_get (ci := 3) (v := .int (nI (k_n C))) (C := RX3) (T := TX3) (N := 8) hx hb hts hiX3 hown hK hP 1 rfl rfl 6 (by decide) hf3 (fun _ h9 => h9) rfl dX5_checkObject_9 ?_
    refine wz_icmp_lt (tgt := 26) hx hb ((x).toInt) (((k_n C : Nat) : Int)) rfl (nI_z (by omega)) dX5_checkObject_12 (by decide) (fun c12_2 => ?_) (fun c12_2 => ?_)
    · exfalso; omega
    · have hPm : va_P D vwCl (kW cI cJ cZ cV cR a C) s.heap := by exact hP
      have hDm : va_D A (kW cI cJ cZ cV cR a C) := by exact hD
      obtain ⟨sa, hsa⟩ := hXE.2.2.2.2 ("GroupCursors", 287, "no such object") (by decide)
      exact vx_throwSW hx hb htr hown (by decide) (by decide) hf0 hf1 hsa (xat_X5_120 hXE (fun w hw => hts w (by unfold wsX5_checkObject; simp only [List.mem_cons, List.mem_append, hw, or_true, true_or]))) xgd_X5_120 hXE.1 hXE.2.1 hS (hl.1.trans hml.symm) dX5_checkObject_15 dX5_checkObject_18 dX5_checkObject_19 dX5_checkObject_22 dX5_checkObject_25 (fun x h => (hout x h).elim) (Nat.le_of_ble_eq_true rfl) (Nat.le_of_ble_eq_true rfl) (Nat.le_of_ble_eq_true rfl) (Nat.le_of_ble_eq_true rfl) hlocks (xxc_mk C rfl hPm hK hDm hS) hS.2.2 (Nat.le_refl _) (Nat.le_refl _)
def rmx_X5_viewAt : Room := { frames := 6, cells := 1, slots := 6, locals := 82 }
set_option maxHeartbeats 4000000 in
set_option maxRecDepth 100000 in
/-- no such view -/
theorem x_X5_viewAt (l : Launch) (htr : l.stackTraces = false) (D : va_G) (cI cJ cZ cV cR : ClassId) (a : Nat → Nat) (C : CT) (hM : kOk C) (x : Int32) (hbad : x.toInt < 0 ∨ ((k_vc C : Nat) : Int) ≤ x.toInt) (sz : Nat) : vx_Met l yX5_viewAt wsX5_viewAt rmx_X5_viewAt (va_Pc [.ref (a 0), .int (x)] (GX D (tyK cI cJ cZ cV cR) (kW cI cJ cZ cV cR a C) sz)) xNo (xXC D (tyK cI cJ cZ cV cR) "java/lang/IndexOutOfBoundsException" (fun u : CT => u = C) (kW cI cJ cZ cV cR a) (va_A (kW cI cJ cZ cV cR a C) sz)) 1 6 (va_A (kW cI cJ cZ cV cR a C) sz) := by
  obtain ⟨hn, hfn, hsn, hvc, hrc, hpc, hnw, hkc, h_home, h_kin, h_alv, h_srs, h_row, h_sp, h_kis, h_pg⟩ := id hM
  refine vx_ofW (cc := cX5_viewAt) (maxL := 3) (ret := (some (.object "GroupCursors$View"))) (by decide) rfl ?_
  intro p e s m args below meth c s₁ B hml hout hv
  obtain ⟨rfl, ⟨hsz, hP, hK, hD0⟩, hXE⟩ := hv
  have hx := B.exec
  have hb := B.bytes
  have hr := B.returns
  have hts := atoms_spec (ws := wsX5_viewAt) B.pre
  have hown : s.vm.findClass RX5 = some m.cls := findClass_of_methodNamed B.named
  have hlocks := B.notSynchronized
  subst hsz
  have hD := hD0.self (sz := s.heap.size)
  generalize hAe : va_A (kW cI cJ cZ cV cR a C) s.heap.size = A at hD hXE ⊢
  have hA : ∀ q : Nat, s.heap.size ≤ q → A q := fun q h => by rw [← hAe]; exact Or.inr h
  have hS : va_S A s.heap s.heap [] := va_S.rf
  have hP : va_P D vwCl (kX cI cJ cZ cV cR a (k_ra C) (k_rb C) (k_vc C) (k_rc C) (k_pc C) (k_nw C) (k_n C) (k_fn C) (k_sn C) (k_kc C) (k_grp C) (k_key C) (k_srt C) (k_wt C) (k_home C) (k_drp C) (k_met C) (k_kin C) (k_alv C) (k_srs C) (k_row C) (k_sp C) (k_kis C) (k_pg C) (k_vq C) (k_rq C) (k_L C) (k_F C)) s.heap := hP
  have hD : va_D A (kX cI cJ cZ cV cR a (k_ra C) (k_rb C) (k_vc C) (k_rc C) (k_pc C) (k_nw C) (k_n C) (k_fn C) (k_sn C) (k_kc C) (k_grp C) (k_key C) (k_srt C) (k_wt C) (k_home C) (k_drp C) (k_met C) (k_kin C) (k_alv C) (k_srs C) (k_row C) (k_sp C) (k_kis C) (k_pg C) (k_vq C) (k_rq C) (k_L C) (k_F C)) := hD
  have hiX5 : ∀ w ∈ wsX50, w ∈ wsX5_viewAt := by decide +kernel
  have hf0 := hts (.classLink RX5 116 "java/lang/IndexOutOfBoundsException") (by decide +kernel)
  have hf1 := hts (.initialized "java/lang/IndexOutOfBoundsException") (by decide +kernel)
  have hf2 := hts (.fieldLink RX5 38 "GroupCursors" "viewCount" "I") (by decide +kernel)
  have hl := lv_entry ([.ref (a 0), .int (x)]) (n := 3) (Nat.le_of_ble_eq_true rfl)
  rw [lg_entry_eq]
  generalize (lg_sl ([.ref (a 0), .int (x)]) ++ List.replicate (3 - (lg_sl ([.ref (a 0), .int (x)])).length) Slot.unset).toArray = ls at hl ⊢
  have hl : lv_has ls 3 [(0, .ref (a 0)), (1, .int (x))] := hl
  refine lv_iload_n hx hb dX5_viewAt_0 rfl (lv_at hl 1 rfl) ?_
  refine wz_if_lt (tgt := 12) hx hb ((x).toInt) rfl dX5_viewAt_1 (by decide) (fun c1_1 => ?_) (fun c1_1 => ?_)
  · refine lv_null hx hb dX5_viewAt_12 ?_
    refine lv_goto (tgt := 22) hx hb dX5_viewAt_13 (by decide) ?_
    refine lv_astore_nN (lv' := [(2, .null), (0, .ref (a 0)), (1, .int (x))]) hx hb dX5_viewAt_22 rfl hl (by decide) rfl (fun ls hl => ?_)
    refine lv_aload_nN hx hb dX5_viewAt_23 rfl (lv_at hl 0 rfl) ?_
    refine lv_ifnonnullN hx hb dX5_viewAt_24 ?_
    have hPm : va_P D vwCl (kW cI cJ cZ cV cR a C) s.heap := by exact hP
    have hDm : va_D A (kW cI cJ cZ cV cR a C) := by exact hD
    obtain ⟨sa, hsa⟩ := hXE.2.2.2.2 ("GroupCursors", 289, "no such view") (by decide)
    exact vx_throwSW hx hb htr hown (by decide) (by decide) hf0 hf1 hsa (xat_X5_120 hXE (fun w hw => hts w (by unfold wsX5_viewAt; simp only [List.mem_cons, List.mem_append, hw, or_true, true_or]))) xgd_X5_120 hXE.1 hXE.2.1 hS (hl.1.trans hml.symm) dX5_viewAt_27 dX5_viewAt_30 dX5_viewAt_31 dX5_viewAt_34 dX5_viewAt_37 (fun x h => (hout x h).elim) (Nat.le_of_ble_eq_true rfl) (Nat.le_of_ble_eq_true rfl) (Nat.le_of_ble_eq_true rfl) (Nat.le_of_ble_eq_true rfl) hlocks (xxc_mk C rfl hPm hK hDm hS) hS.2.2 (Nat.le_refl _) (Nat.le_refl _)
  · refine lv_iload_n hx hb dX5_viewAt_4 rfl (lv_at hl 1 rfl) ?_
    refine lv_aload_n hx hb dX5_viewAt_5 rfl (lv_at hl 0 rfl) ?_
    refine va_get (ci := 5) (v := .int (nI (k_vc C))) (C := RX5) (T := TX5) (N := 10) hx hb hts hiX5 hown hK hP 0 rfl rfl 4 (by decide) hf2 (fun _ h9 => h9) rfl dX5_viewAt_6 ?_
    refine wz_icmp_lt (tgt := 16) hx hb ((x).toInt) (((k_vc C : Nat) : Int)) rfl (nI_z (by omega)) dX5_viewAt_9 (by decide) (fun c9_2 => ?_) (fun c9_2 => ?_)
    · exfalso; omega
    · refine lv_null hx hb dX5_viewAt_12 ?_
      refine lv_goto (tgt := 22) hx hb dX5_viewAt_13 (by decide) ?_
      refine lv_astore_nN (lv' := [(2, .null), (0, .ref (a 0)), (1, .int (x))]) hx hb dX5_viewAt_22 rfl hl (by decide) rfl (fun ls hl => ?_)
      refine lv_aload_nN hx hb dX5_viewAt_23 rfl (lv_at hl 0 rfl) ?_
      refine lv_ifnonnullN hx hb dX5_viewAt_24 ?_
      have hPm : va_P D vwCl (kW cI cJ cZ cV cR a C) s.heap := by exact hP
      have hDm : va_D A (kW cI cJ cZ cV cR a C) := by exact hD
      obtain ⟨sa, hsa⟩ := hXE.2.2.2.2 ("GroupCursors", 289, "no such view") (by decide)
      exact vx_throwSW hx hb htr hown (by decide) (by decide) hf0 hf1 hsa (xat_X5_120 hXE (fun w hw => hts w (by unfold wsX5_viewAt; simp only [List.mem_cons, List.mem_append, hw, or_true, true_or]))) xgd_X5_120 hXE.1 hXE.2.1 hS (hl.1.trans hml.symm) dX5_viewAt_27 dX5_viewAt_30 dX5_viewAt_31 dX5_viewAt_34 dX5_viewAt_37 (fun x h => (hout x h).elim) (Nat.le_of_ble_eq_true rfl) (Nat.le_of_ble_eq_true rfl) (Nat.le_of_ble_eq_true rfl) (Nat.le_of_ble_eq_true rfl) hlocks (xxc_mk C rfl hPm hK hDm hS) hS.2.2 (Nat.le_refl _) (Nat.le_refl _)
def rmx_X5_readerAt : Room := { frames := 6, cells := 1, slots := 6, locals := 82 }
set_option maxHeartbeats 4000000 in
set_option maxRecDepth 100000 in
/-- no such reader -/
theorem x_X5_readerAt (l : Launch) (htr : l.stackTraces = false) (D : va_G) (cI cJ cZ cV cR : ClassId) (a : Nat → Nat) (C : CT) (hM : kOk C) (x : Int32) (hbad : x.toInt < 0 ∨ ((k_rc C : Nat) : Int) ≤ x.toInt) (sz : Nat) : vx_Met l yX5_readerAt wsX5_readerAt rmx_X5_readerAt (va_Pc [.ref (a 0), .int (x)] (GX D (tyK cI cJ cZ cV cR) (kW cI cJ cZ cV cR a C) sz)) xNo (xXC D (tyK cI cJ cZ cV cR) "java/lang/IndexOutOfBoundsException" (fun u : CT => u = C) (kW cI cJ cZ cV cR a) (va_A (kW cI cJ cZ cV cR a C) sz)) 1 6 (va_A (kW cI cJ cZ cV cR a C) sz) := by
  obtain ⟨hn, hfn, hsn, hvc, hrc, hpc, hnw, hkc, h_home, h_kin, h_alv, h_srs, h_row, h_sp, h_kis, h_pg⟩ := id hM
  refine vx_ofW (cc := cX5_readerAt) (maxL := 3) (ret := (some (.object "GroupCursors$Reader"))) (by decide) rfl ?_
  intro p e s m args below meth c s₁ B hml hout hv
  obtain ⟨rfl, ⟨hsz, hP, hK, hD0⟩, hXE⟩ := hv
  have hx := B.exec
  have hb := B.bytes
  have hr := B.returns
  have hts := atoms_spec (ws := wsX5_readerAt) B.pre
  have hown : s.vm.findClass RX5 = some m.cls := findClass_of_methodNamed B.named
  have hlocks := B.notSynchronized
  subst hsz
  have hD := hD0.self (sz := s.heap.size)
  generalize hAe : va_A (kW cI cJ cZ cV cR a C) s.heap.size = A at hD hXE ⊢
  have hA : ∀ q : Nat, s.heap.size ≤ q → A q := fun q h => by rw [← hAe]; exact Or.inr h
  have hS : va_S A s.heap s.heap [] := va_S.rf
  have hP : va_P D vwCl (kX cI cJ cZ cV cR a (k_ra C) (k_rb C) (k_vc C) (k_rc C) (k_pc C) (k_nw C) (k_n C) (k_fn C) (k_sn C) (k_kc C) (k_grp C) (k_key C) (k_srt C) (k_wt C) (k_home C) (k_drp C) (k_met C) (k_kin C) (k_alv C) (k_srs C) (k_row C) (k_sp C) (k_kis C) (k_pg C) (k_vq C) (k_rq C) (k_L C) (k_F C)) s.heap := hP
  have hD : va_D A (kX cI cJ cZ cV cR a (k_ra C) (k_rb C) (k_vc C) (k_rc C) (k_pc C) (k_nw C) (k_n C) (k_fn C) (k_sn C) (k_kc C) (k_grp C) (k_key C) (k_srt C) (k_wt C) (k_home C) (k_drp C) (k_met C) (k_kin C) (k_alv C) (k_srs C) (k_row C) (k_sp C) (k_kis C) (k_pg C) (k_vq C) (k_rq C) (k_L C) (k_F C)) := hD
  have hiX5 : ∀ w ∈ wsX50, w ∈ wsX5_readerAt := by decide +kernel
  have hf0 := hts (.classLink RX5 116 "java/lang/IndexOutOfBoundsException") (by decide +kernel)
  have hf1 := hts (.initialized "java/lang/IndexOutOfBoundsException") (by decide +kernel)
  have hf2 := hts (.fieldLink RX5 48 "GroupCursors" "readerCount" "I") (by decide +kernel)
  have hl := lv_entry ([.ref (a 0), .int (x)]) (n := 3) (Nat.le_of_ble_eq_true rfl)
  rw [lg_entry_eq]
  generalize (lg_sl ([.ref (a 0), .int (x)]) ++ List.replicate (3 - (lg_sl ([.ref (a 0), .int (x)])).length) Slot.unset).toArray = ls at hl ⊢
  have hl : lv_has ls 3 [(0, .ref (a 0)), (1, .int (x))] := hl
  refine lv_iload_n hx hb dX5_readerAt_0 rfl (lv_at hl 1 rfl) ?_
  refine wz_if_lt (tgt := 12) hx hb ((x).toInt) rfl dX5_readerAt_1 (by decide) (fun c1_1 => ?_) (fun c1_1 => ?_)
  · refine lv_null hx hb dX5_readerAt_12 ?_
    refine lv_goto (tgt := 22) hx hb dX5_readerAt_13 (by decide) ?_
    refine lv_astore_nN (lv' := [(2, .null), (0, .ref (a 0)), (1, .int (x))]) hx hb dX5_readerAt_22 rfl hl (by decide) rfl (fun ls hl => ?_)
    refine lv_aload_nN hx hb dX5_readerAt_23 rfl (lv_at hl 0 rfl) ?_
    refine lv_ifnonnullN hx hb dX5_readerAt_24 ?_
    have hPm : va_P D vwCl (kW cI cJ cZ cV cR a C) s.heap := by exact hP
    have hDm : va_D A (kW cI cJ cZ cV cR a C) := by exact hD
    obtain ⟨sa, hsa⟩ := hXE.2.2.2.2 ("GroupCursors", 291, "no such reader") (by decide)
    exact vx_throwSW hx hb htr hown (by decide) (by decide) hf0 hf1 hsa (xat_X5_120 hXE (fun w hw => hts w (by unfold wsX5_readerAt; simp only [List.mem_cons, List.mem_append, hw, or_true, true_or]))) xgd_X5_120 hXE.1 hXE.2.1 hS (hl.1.trans hml.symm) dX5_readerAt_27 dX5_readerAt_30 dX5_readerAt_31 dX5_readerAt_34 dX5_readerAt_37 (fun x h => (hout x h).elim) (Nat.le_of_ble_eq_true rfl) (Nat.le_of_ble_eq_true rfl) (Nat.le_of_ble_eq_true rfl) (Nat.le_of_ble_eq_true rfl) hlocks (xxc_mk C rfl hPm hK hDm hS) hS.2.2 (Nat.le_refl _) (Nat.le_refl _)
  · refine lv_iload_n hx hb dX5_readerAt_4 rfl (lv_at hl 1 rfl) ?_
    refine lv_aload_n hx hb dX5_readerAt_5 rfl (lv_at hl 0 rfl) ?_
    refine va_get (ci := 5) (v := .int (nI (k_rc C))) (C := RX5) (T := TX5) (N := 10) hx hb hts hiX5 hown hK hP 0 rfl rfl 6 (by decide) hf2 (fun _ h9 => h9) rfl dX5_readerAt_6 ?_
    refine wz_icmp_lt (tgt := 16) hx hb ((x).toInt) (((k_rc C : Nat) : Int)) rfl (nI_z (by omega)) dX5_readerAt_9 (by decide) (fun c9_2 => ?_) (fun c9_2 => ?_)
    · exfalso; omega
    · refine lv_null hx hb dX5_readerAt_12 ?_
      refine lv_goto (tgt := 22) hx hb dX5_readerAt_13 (by decide) ?_
      refine lv_astore_nN (lv' := [(2, .null), (0, .ref (a 0)), (1, .int (x))]) hx hb dX5_readerAt_22 rfl hl (by decide) rfl (fun ls hl => ?_)
      refine lv_aload_nN hx hb dX5_readerAt_23 rfl (lv_at hl 0 rfl) ?_
      refine lv_ifnonnullN hx hb dX5_readerAt_24 ?_
      have hPm : va_P D vwCl (kW cI cJ cZ cV cR a C) s.heap := by exact hP
      have hDm : va_D A (kW cI cJ cZ cV cR a C) := by exact hD
      obtain ⟨sa, hsa⟩ := hXE.2.2.2.2 ("GroupCursors", 291, "no such reader") (by decide)
      exact vx_throwSW hx hb htr hown (by decide) (by decide) hf0 hf1 hsa (xat_X5_120 hXE (fun w hw => hts w (by unfold wsX5_readerAt; simp only [List.mem_cons, List.mem_append, hw, or_true, true_or]))) xgd_X5_120 hXE.1 hXE.2.1 hS (hl.1.trans hml.symm) dX5_readerAt_27 dX5_readerAt_30 dX5_readerAt_31 dX5_readerAt_34 dX5_readerAt_37 (fun x h => (hout x h).elim) (Nat.le_of_ble_eq_true rfl) (Nat.le_of_ble_eq_true rfl) (Nat.le_of_ble_eq_true rfl) (Nat.le_of_ble_eq_true rfl) hlocks (xxc_mk C rfl hPm hK hDm hS) hS.2.2 (Nat.le_refl _) (Nat.le_refl _)
def rmx_X5_checkGroup : Room := { frames := 6, cells := 1, slots := 6, locals := 82 }
set_option maxHeartbeats 4000000 in
set_option maxRecDepth 100000 in
/-- no such group -/
theorem x_X5_checkGroup (l : Launch) (htr : l.stackTraces = false) (D : va_G) (cI cJ cZ cV cR : ClassId) (a : Nat → Nat) (C : CT) (hM : kOk C) (q hs se c9 g9 st9 r9 : Nat) (hV : isV (k_L C) (k_F C) q hs se c9 g9 st9 r9) (hc9 : c9 ≤ 300) (hg9 : g9 ≤ 300) (hst9 : st9 ≤ 2) (hr9 : r9 ≤ 60) (x : Int32) (hbad : x.toInt < 0 ∨ ((g9 : Nat) : Int) ≤ x.toInt) (sz : Nat) : vx_Met l yX5_checkGroup wsX5_checkGroup rmx_X5_checkGroup (va_Pc [.ref (q), .int (x)] (GX D (tyK cI cJ cZ cV cR) (kW cI cJ cZ cV cR a C) sz)) xNo (xXC D (tyK cI cJ cZ cV cR) "java/lang/IndexOutOfBoundsException" (fun u : CT => u = C) (kW cI cJ cZ cV cR a) (va_A (kW cI cJ cZ cV cR a C) sz)) 1 6 (va_A (kW cI cJ cZ cV cR a C) sz) := by
  obtain ⟨hn, hfn, hsn, hvc, hrc, hpc, hnw, hkc, h_home, h_kin, h_alv, h_srs, h_row, h_sp, h_kis, h_pg⟩ := id hM
  refine vx_ofW (cc := cX5_checkGroup) (maxL := 2) (ret := none) (by decide) rfl ?_
  intro p e s m args below meth c s₁ B hml hout hv
  obtain ⟨rfl, ⟨hsz, hP, hK, hD0⟩, hXE⟩ := hv
  have hx := B.exec
  have hb := B.bytes
  have hr := B.returns
  have hts := atoms_spec (ws := wsX5_checkGroup) B.pre
  have hown : s.vm.findClass RX5 = some m.cls := findClass_of_methodNamed B.named
  have hlocks := B.notSynchronized
  subst hsz
  have hD := hD0.self (sz := s.heap.size)
  generalize hAe : va_A (kW cI cJ cZ cV cR a C) s.heap.size = A at hD hXE ⊢
  have hA : ∀ q : Nat, s.heap.size ≤ q → A q := fun q h => by rw [← hAe]; exact Or.inr h
  have hS : va_S A s.heap s.heap [] := va_S.rf
  have hP : va_P D vwCl (kX cI cJ cZ cV cR a (k_ra C) (k_rb C) (k_vc C) (k_rc C) (k_pc C) (k_nw C) (k_n C) (k_fn C) (k_sn C) (k_kc C) (k_grp C) (k_key C) (k_srt C) (k_wt C) (k_home C) (k_drp C) (k_met C) (k_kin C) (k_alv C) (k_srs C) (k_row C) (k_sp C) (k_kis C) (k_pg C) (k_vq C) (k_rq C) (k_L C) (k_F C)) s.heap := hP
  have hD : va_D A (kX cI cJ cZ cV cR a (k_ra C) (k_rb C) (k_vc C) (k_rc C) (k_pc C) (k_nw C) (k_n C) (k_fn C) (k_sn C) (k_kc C) (k_grp C) (k_key C) (k_srt C) (k_wt C) (k_home C) (k_drp C) (k_met C) (k_kin C) (k_alv C) (k_srs C) (k_row C) (k_sp C) (k_kis C) (k_pg C) (k_vq C) (k_rq C) (k_L C) (k_F C)) := hD
  have hiX4 : ∀ w ∈ wsX40, w ∈ wsX5_checkGroup := by decide +kernel
  have hf0 := hts (.classLink RX5 116 "java/lang/IndexOutOfBoundsException") (by decide +kernel)
  have hf1 := hts (.initialized "java/lang/IndexOutOfBoundsException") (by decide +kernel)
  have hf2 := hts (.fieldLink RX5 177 "GroupCursors$View" "groupCount" "I") (by decide +kernel)
  have hl := lv_entry ([.ref (q), .int (x)]) (n := 2) (Nat.le_of_ble_eq_true rfl)
  rw [lg_entry_eq]
  generalize (lg_sl ([.ref (q), .int (x)]) ++ List.replicate (2 - (lg_sl ([.ref (q), .int (x)])).length) Slot.unset).toArray = ls at hl ⊢
  have hl : lv_has ls 2 [(0, .ref (q)), (1, .int (x))] := hl
  refine lv_iload_n hx hb dX5_checkGroup_0 rfl (lv_at hl 1 rfl) ?_
  refine wz_if_lt (tgt := 12) hx hb ((x).toInt) rfl dX5_checkGroup_1 (by decide) (fun c1_1 => ?_) (fun c1_1 => ?_)
  · have hPm : va_P D vwCl (kW cI cJ cZ cV cR a C) s.heap := by exact hP
    have hDm : va_D A (kW cI cJ cZ cV cR a C) := by exact hD
    obtain ⟨sa, hsa⟩ := hXE.2.2.2.2 ("GroupCursors", 293, "no such group") (by decide)
    exact vx_throwSW hx hb htr hown (by decide) (by decide) hf0 hf1 hsa (xat_X5_120 hXE (fun w hw => hts w (by unfold wsX5_checkGroup; simp only [List.mem_cons, List.mem_append, hw, or_true, true_or]))) xgd_X5_120 hXE.1 hXE.2.1 hS (hl.1.trans hml.symm) dX5_checkGroup_12 dX5_checkGroup_15 dX5_checkGroup_16 dX5_checkGroup_19 dX5_checkGroup_22 (fun x h => (hout x h).elim) (Nat.le_of_ble_eq_true rfl) (Nat.le_of_ble_eq_true rfl) (Nat.le_of_ble_eq_true rfl) (Nat.le_of_ble_eq_true rfl) hlocks (xxc_mk C rfl hPm hK hDm hS) hS.2.2 (Nat.le_refl _) (Nat.le_refl _)
  · refine lv_iload_n hx hb dX5_checkGroup_4 rfl (lv_at hl 1 rfl) ?_
    refine lv_aload_n hx hb dX5_checkGroup_5 rfl (lv_at hl 0 rfl) ?_
    refine wp_get (ci := 4) (v := .int (nI (g9))) (C := RX4) (T := TX4) (N := 6) hx hb hts hiX4 hown hK hP hV.1 hV.2 rfl 3 (by decide) hf2 (fun _ h9 => h9) rfl dX5_checkGroup_6 ?_
    refine wz_icmp_lt (tgt := 23) hx hb ((x).toInt) (((g9 : Nat) : Int)) rfl (nI_z (by omega)) dX5_checkGroup_9 (by decide) (fun c9_2 => ?_) (fun c9_2 => ?_)
    · exfalso; omega
    · have hPm : va_P D vwCl (kW cI cJ cZ cV cR a C) s.heap := by exact hP
      have hDm : va_D A (kW cI cJ cZ cV cR a C) := by exact hD
      obtain ⟨sa, hsa⟩ := hXE.2.2.2.2 ("GroupCursors", 293, "no such group") (by decide)
      exact vx_throwSW hx hb htr hown (by decide) (by decide) hf0 hf1 hsa (xat_X5_120 hXE (fun w hw => hts w (by unfold wsX5_checkGroup; simp only [List.mem_cons, List.mem_append, hw, or_true, true_or]))) xgd_X5_120 hXE.1 hXE.2.1 hS (hl.1.trans hml.symm) dX5_checkGroup_12 dX5_checkGroup_15 dX5_checkGroup_16 dX5_checkGroup_19 dX5_checkGroup_22 (fun x h => (hout x h).elim) (Nat.le_of_ble_eq_true rfl) (Nat.le_of_ble_eq_true rfl) (Nat.le_of_ble_eq_true rfl) (Nat.le_of_ble_eq_true rfl) hlocks (xxc_mk C rfl hPm hK hDm hS) hS.2.2 (Nat.le_refl _) (Nat.le_refl _)
def rmx_X5_checkKind : Room := { frames := 6, cells := 1, slots := 6, locals := 82 }
set_option maxHeartbeats 4000000 in
set_option maxRecDepth 100000 in
/-- no such kind -/
theorem x_X5_checkKind (l : Launch) (htr : l.stackTraces = false) (D : va_G) (cI cJ cZ cV cR : ClassId) (a : Nat → Nat) (C : CT) (hM : kOk C) (x : Int32) (hbad : x.toInt < 0 ∨ ((3 : Nat) : Int) ≤ x.toInt) (sz : Nat) : vx_Met l yX5_checkKind wsX5_checkKind rmx_X5_checkKind (va_Pc [.int (x)] (GX D (tyK cI cJ cZ cV cR) (kW cI cJ cZ cV cR a C) sz)) xNo (xXC D (tyK cI cJ cZ cV cR) "java/lang/IllegalArgumentException" (fun u : CT => u = C) (kW cI cJ cZ cV cR a) (va_A (kW cI cJ cZ cV cR a C) sz)) 1 6 (va_A (kW cI cJ cZ cV cR a C) sz) := by
  obtain ⟨hn, hfn, hsn, hvc, hrc, hpc, hnw, hkc, h_home, h_kin, h_alv, h_srs, h_row, h_sp, h_kis, h_pg⟩ := id hM
  refine vx_ofW (cc := cX5_checkKind) (maxL := 1) (ret := none) (by decide) rfl ?_
  intro p e s m args below meth c s₁ B hml hout hv
  obtain ⟨rfl, ⟨hsz, hP, hK, hD0⟩, hXE⟩ := hv
  have hx := B.exec
  have hb := B.bytes
  have hr := B.returns
  have hts := atoms_spec (ws := wsX5_checkKind) B.pre
  have hown : s.vm.findClass RX5 = some m.cls := findClass_of_methodNamed B.named
  have hlocks := B.notSynchronized
  subst hsz
  have hD := hD0.self (sz := s.heap.size)
  generalize hAe : va_A (kW cI cJ cZ cV cR a C) s.heap.size = A at hD hXE ⊢
  have hA : ∀ q : Nat, s.heap.size ≤ q → A q := fun q h => by rw [← hAe]; exact Or.inr h
  have hS : va_S A s.heap s.heap [] := va_S.rf
  have hP : va_P D vwCl (kX cI cJ cZ cV cR a (k_ra C) (k_rb C) (k_vc C) (k_rc C) (k_pc C) (k_nw C) (k_n C) (k_fn C) (k_sn C) (k_kc C) (k_grp C) (k_key C) (k_srt C) (k_wt C) (k_home C) (k_drp C) (k_met C) (k_kin C) (k_alv C) (k_srs C) (k_row C) (k_sp C) (k_kis C) (k_pg C) (k_vq C) (k_rq C) (k_L C) (k_F C)) s.heap := hP
  have hD : va_D A (kX cI cJ cZ cV cR a (k_ra C) (k_rb C) (k_vc C) (k_rc C) (k_pc C) (k_nw C) (k_n C) (k_fn C) (k_sn C) (k_kc C) (k_grp C) (k_key C) (k_srt C) (k_wt C) (k_home C) (k_drp C) (k_met C) (k_kin C) (k_alv C) (k_srs C) (k_row C) (k_sp C) (k_kis C) (k_pg C) (k_vq C) (k_rq C) (k_L C) (k_F C)) := hD
  have hf0 := hts (.classLink RX5 226 "java/lang/IllegalArgumentException") (by decide +kernel)
  have hf1 := hts (.initialized "java/lang/IllegalArgumentException") (by decide +kernel)
  have hl := lv_entry ([.int (x)]) (n := 1) (Nat.le_of_ble_eq_true rfl)
  rw [lg_entry_eq]
  generalize (lg_sl ([.int (x)]) ++ List.replicate (1 - (lg_sl ([.int (x)])).length) Slot.unset).toArray = ls at hl ⊢
  have hl : lv_has ls 1 [(0, .int (x))] := hl
  refine lv_iload_n hx hb dX5_checkKind_0 rfl (lv_at hl 0 rfl) ?_
  refine wz_if_eq (tgt := 25) hx hb ((x).toInt) rfl dX5_checkKind_1 (by decide) (fun c1_1 => ?_) (fun c1_1 => ?_)
  · exfalso; omega
  · refine lv_iload_n hx hb dX5_checkKind_4 rfl (lv_at hl 0 rfl) ?_
    refine lv_iconst (v := nI (1)) hx hb dX5_checkKind_5 (by decide) ?_
    refine wz_icmp_eq (tgt := 25) hx hb ((x).toInt) (((1 : Nat) : Int)) rfl (nI_z (by omega)) dX5_checkKind_6 (by decide) (fun c6_2 => ?_) (fun c6_2 => ?_)
    · exfalso; omega
    · refine lv_iload_n hx hb dX5_checkKind_9 rfl (lv_at hl 0 rfl) ?_
      refine lv_iconst (v := nI (2)) hx hb dX5_checkKind_10 (by decide) ?_
      refine wz_icmp_eq (tgt := 25) hx hb ((x).toInt) (((2 : Nat) : Int)) rfl (nI_z (by omega)) dX5_checkKind_11 (by decide) (fun c11_3 => ?_) (fun c11_3 => ?_)
      · exfalso; omega
      · have hPm : va_P D vwCl (kW cI cJ cZ cV cR a C) s.heap := by exact hP
        have hDm : va_D A (kW cI cJ cZ cV cR a C) := by exact hD
        obtain ⟨sa, hsa⟩ := hXE.2.2.2.2 ("GroupCursors", 295, "kind is not 0 .. 2") (by decide)
        exact vx_throwSW hx hb htr hown (by decide) (by decide) hf0 hf1 hsa (xat_X5_230 hXE (fun w hw => hts w (by unfold wsX5_checkKind; simp only [List.mem_cons, List.mem_append, hw, or_true, true_or]))) xgd_X5_230 hXE.1 hXE.2.1 hS (hl.1.trans hml.symm) dX5_checkKind_14 dX5_checkKind_17 dX5_checkKind_18 dX5_checkKind_21 dX5_checkKind_24 (fun x h => (hout x h).elim) (Nat.le_of_ble_eq_true rfl) (Nat.le_of_ble_eq_true rfl) (Nat.le_of_ble_eq_true rfl) (Nat.le_of_ble_eq_true rfl) hlocks (xxc_mk C rfl hPm hK hDm hS) hS.2.2 (Nat.le_refl _) (Nat.le_refl _)
def rmx_X5_checkSlice : Room := { frames := 6, cells := 1, slots := 6, locals := 82 }
set_option maxHeartbeats 4000000 in
set_option maxRecDepth 100000 in
/-- no such slice -/
theorem x_X5_checkSlice (l : Launch) (htr : l.stackTraces = false) (D : va_G) (cI cJ cZ cV cR : ClassId) (a : Nat → Nat) (C : CT) (hM : kOk C) (x y : Int32) (hbad : x.toInt < 1 ∨ 8 < x.toInt ∨ y.toInt < 0 ∨ x.toInt ≤ y.toInt) (sz : Nat) : vx_Met l yX5_checkSlice wsX5_checkSlice rmx_X5_checkSlice (va_Pc [.int (x), .int (y)] (GX D (tyK cI cJ cZ cV cR) (kW cI cJ cZ cV cR a C) sz)) xNo (xXC D (tyK cI cJ cZ cV cR) "java/lang/IllegalArgumentException" (fun u : CT => u = C) (kW cI cJ cZ cV cR a) (va_A (kW cI cJ cZ cV cR a C) sz)) 1 6 (va_A (kW cI cJ cZ cV cR a C) sz) := by
  obtain ⟨hn, hfn, hsn, hvc, hrc, hpc, hnw, hkc, h_home, h_kin, h_alv, h_srs, h_row, h_sp, h_kis, h_pg⟩ := id hM
  refine vx_ofW (cc := cX5_checkSlice) (maxL := 2) (ret := none) (by decide) rfl ?_
  intro p e s m args below meth c s₁ B hml hout hv
  obtain ⟨rfl, ⟨hsz, hP, hK, hD0⟩, hXE⟩ := hv
  have hx := B.exec
  have hb := B.bytes
  have hr := B.returns
  have hts := atoms_spec (ws := wsX5_checkSlice) B.pre
  have hown : s.vm.findClass RX5 = some m.cls := findClass_of_methodNamed B.named
  have hlocks := B.notSynchronized
  subst hsz
  have hD := hD0.self (sz := s.heap.size)
  generalize hAe : va_A (kW cI cJ cZ cV cR a C) s.heap.size = A at hD hXE ⊢
  have hA : ∀ q : Nat, s.heap.size ≤ q → A q := fun q h => by rw [← hAe]; exact Or.inr h
  have hS : va_S A s.heap s.heap [] := va_S.rf
  have hP : va_P D vwCl (kX cI cJ cZ cV cR a (k_ra C) (k_rb C) (k_vc C) (k_rc C) (k_pc C) (k_nw C) (k_n C) (k_fn C) (k_sn C) (k_kc C) (k_grp C) (k_key C) (k_srt C) (k_wt C) (k_home C) (k_drp C) (k_met C) (k_kin C) (k_alv C) (k_srs C) (k_row C) (k_sp C) (k_kis C) (k_pg C) (k_vq C) (k_rq C) (k_L C) (k_F C)) s.heap := hP
  have hD : va_D A (kX cI cJ cZ cV cR a (k_ra C) (k_rb C) (k_vc C) (k_rc C) (k_pc C) (k_nw C) (k_n C) (k_fn C) (k_sn C) (k_kc C) (k_grp C) (k_key C) (k_srt C) (k_wt C) (k_home C) (k_drp C) (k_met C) (k_kin C) (k_alv C) (k_srs C) (k_row C) (k_sp C) (k_kis C) (k_pg C) (k_vq C) (k_rq C) (k_L C) (k_F C)) := hD
  have hf0 := hts (.classLink RX5 226 "java/lang/IllegalArgumentException") (by decide +kernel)
  have hf1 := hts (.initialized "java/lang/IllegalArgumentException") (by decide +kernel)
  have hl := lv_entry ([.int (x), .int (y)]) (n := 2) (Nat.le_of_ble_eq_true rfl)
  rw [lg_entry_eq]
  generalize (lg_sl ([.int (x), .int (y)]) ++ List.replicate (2 - (lg_sl ([.int (x), .int (y)])).length) Slot.unset).toArray = ls at hl ⊢
  have hl : lv_has ls 2 [(0, .int (x)), (1, .int (y))] := hl
  refine lv_iload_n hx hb dX5_checkSlice_0 rfl (lv_at hl 0 rfl) ?_
  refine lv_iconst (v := nI (1)) hx hb dX5_checkSlice_1 (by decide) ?_
  refine wz_icmp_lt (tgt := 11) hx hb ((x).toInt) (((1 : Nat) : Int)) rfl (nI_z (by omega)) dX5_checkSlice_2 (by decide) (fun c2_1 => ?_) (fun c2_1 => ?_)
  · have hPm : va_P D vwCl (kW cI cJ cZ cV cR a C) s.heap := by exact hP
    have hDm : va_D A (kW cI cJ cZ cV cR a C) := by exact hD
    obtain ⟨sa, hsa⟩ := hXE.2.2.2.2 ("GroupCursors", 297, "slices is not 1 .. 8") (by decide)
    exact vx_throwSW hx hb htr hown (by decide) (by decide) hf0 hf1 hsa (xat_X5_230 hXE (fun w hw => hts w (by unfold wsX5_checkSlice; simp only [List.mem_cons, List.mem_append, hw, or_true, true_or]))) xgd_X5_230 hXE.1 hXE.2.1 hS (hl.1.trans hml.symm) dX5_checkSlice_11 dX5_checkSlice_14 dX5_checkSlice_15 dX5_checkSlice_18 dX5_checkSlice_21 (fun x h => (hout x h).elim) (Nat.le_of_ble_eq_true rfl) (Nat.le_of_ble_eq_true rfl) (Nat.le_of_ble_eq_true rfl) (Nat.le_of_ble_eq_true rfl) hlocks (xxc_mk C rfl hPm hK hDm hS) hS.2.2 (Nat.le_refl _) (Nat.le_refl _)
  · refine lv_iload_n hx hb dX5_checkSlice_5 rfl (lv_at hl 0 rfl) ?_
    refine lv_bipush (v := nI (8)) hx hb dX5_checkSlice_6 (by decide) ?_
    refine wz_icmp_le (tgt := 22) hx hb ((x).toInt) (((8 : Nat) : Int)) rfl (nI_z (by omega)) dX5_checkSlice_8 (by decide) (fun c8_2 => ?_) (fun c8_2 => ?_)
    · refine lv_iload_n hx hb dX5_checkSlice_22 rfl (lv_at hl 1 rfl) ?_
      refine wz_if_lt (tgt := 31) hx hb ((y).toInt) rfl dX5_checkSlice_23 (by decide) (fun c23_3 => ?_) (fun c23_3 => ?_)
      · have hPm : va_P D vwCl (kW cI cJ cZ cV cR a C) s.heap := by exact hP
        have hDm : va_D A (kW cI cJ cZ cV cR a C) := by exact hD
        obtain ⟨sa, hsa⟩ := hXE.2.2.2.2 ("GroupCursors", 299, "slice is not below slices") (by decide)
        exact vx_throwSW hx hb htr hown (by decide) (by decide) hf0 hf1 hsa (xat_X5_230 hXE (fun w hw => hts w (by unfold wsX5_checkSlice; simp only [List.mem_cons, List.mem_append, hw, or_true, true_or]))) xgd_X5_230 hXE.1 hXE.2.1 hS (hl.1.trans hml.symm) dX5_checkSlice_31 dX5_checkSlice_34 dX5_checkSlice_35 dX5_checkSlice_38 dX5_checkSlice_41 (fun x h => (hout x h).elim) (Nat.le_of_ble_eq_true rfl) (Nat.le_of_ble_eq_true rfl) (Nat.le_of_ble_eq_true rfl) (Nat.le_of_ble_eq_true rfl) hlocks (xxc_mk C rfl hPm hK hDm hS) hS.2.2 (Nat.le_refl _) (Nat.le_refl _)
      · refine lv_iload_n hx hb dX5_checkSlice_26 rfl (lv_at hl 1 rfl) ?_
        refine lv_iload_n hx hb dX5_checkSlice_27 rfl (lv_at hl 0 rfl) ?_
        refine wz_icmp_lt (tgt := 42) hx hb ((y).toInt) ((x).toInt) rfl rfl dX5_checkSlice_28 (by decide) (fun c28_4 => ?_) (fun c28_4 => ?_)
        · exfalso; omega
        · have hPm : va_P D vwCl (kW cI cJ cZ cV cR a C) s.heap := by exact hP
          have hDm : va_D A (kW cI cJ cZ cV cR a C) := by exact hD
          obtain ⟨sa, hsa⟩ := hXE.2.2.2.2 ("GroupCursors", 299, "slice is not below slices") (by decide)
          exact vx_throwSW hx hb htr hown (by decide) (by decide) hf0 hf1 hsa (xat_X5_230 hXE (fun w hw => hts w (by unfold wsX5_checkSlice; simp only [List.mem_cons, List.mem_append, hw, or_true, true_or]))) xgd_X5_230 hXE.1 hXE.2.1 hS (hl.1.trans hml.symm) dX5_checkSlice_31 dX5_checkSlice_34 dX5_checkSlice_35 dX5_checkSlice_38 dX5_checkSlice_41 (fun x h => (hout x h).elim) (Nat.le_of_ble_eq_true rfl) (Nat.le_of_ble_eq_true rfl) (Nat.le_of_ble_eq_true rfl) (Nat.le_of_ble_eq_true rfl) hlocks (xxc_mk C rfl hPm hK hDm hS) hS.2.2 (Nat.le_refl _) (Nat.le_refl _)
    · have hPm : va_P D vwCl (kW cI cJ cZ cV cR a C) s.heap := by exact hP
      have hDm : va_D A (kW cI cJ cZ cV cR a C) := by exact hD
      obtain ⟨sa, hsa⟩ := hXE.2.2.2.2 ("GroupCursors", 297, "slices is not 1 .. 8") (by decide)
      exact vx_throwSW hx hb htr hown (by decide) (by decide) hf0 hf1 hsa (xat_X5_230 hXE (fun w hw => hts w (by unfold wsX5_checkSlice; simp only [List.mem_cons, List.mem_append, hw, or_true, true_or]))) xgd_X5_230 hXE.1 hXE.2.1 hS (hl.1.trans hml.symm) dX5_checkSlice_11 dX5_checkSlice_14 dX5_checkSlice_15 dX5_checkSlice_18 dX5_checkSlice_21 (fun x h => (hout x h).elim) (Nat.le_of_ble_eq_true rfl) (Nat.le_of_ble_eq_true rfl) (Nat.le_of_ble_eq_true rfl) (Nat.le_of_ble_eq_true rfl) hlocks (xxc_mk C rfl hPm hK hDm hS) hS.2.2 (Nat.le_refl _) (Nat.le_refl _)
def rmx_X5_checkKeep : Room := { frames := 6, cells := 1, slots := 6, locals := 82 }
set_option maxHeartbeats 4000000 in
set_option maxRecDepth 100000 in
/-- no such keep -/
theorem x_X5_checkKeep (l : Launch) (htr : l.stackTraces = false) (D : va_G) (cI cJ cZ cV cR : ClassId) (a : Nat → Nat) (C : CT) (hM : kOk C) (x : Int32) (hbad : x.toInt < 1 ∨ 1000 < x.toInt) (sz : Nat) : vx_Met l yX5_checkKeep wsX5_checkKeep rmx_X5_checkKeep (va_Pc [.int (x)] (GX D (tyK cI cJ cZ cV cR) (kW cI cJ cZ cV cR a C) sz)) xNo (xXC D (tyK cI cJ cZ cV cR) "java/lang/IllegalArgumentException" (fun u : CT => u = C) (kW cI cJ cZ cV cR a) (va_A (kW cI cJ cZ cV cR a C) sz)) 1 6 (va_A (kW cI cJ cZ cV cR a C) sz) := by
  obtain ⟨hn, hfn, hsn, hvc, hrc, hpc, hnw, hkc, h_home, h_kin, h_alv, h_srs, h_row, h_sp, h_kis, h_pg⟩ := id hM
  refine vx_ofW (cc := cX5_checkKeep) (maxL := 1) (ret := none) (by decide) rfl ?_
  intro p e s m args below meth c s₁ B hml hout hv
  obtain ⟨rfl, ⟨hsz, hP, hK, hD0⟩, hXE⟩ := hv
  have hx := B.exec
  have hb := B.bytes
  have hr := B.returns
  have hts := atoms_spec (ws := wsX5_checkKeep) B.pre
  have hown : s.vm.findClass RX5 = some m.cls := findClass_of_methodNamed B.named
  have hlocks := B.notSynchronized
  subst hsz
  have hD := hD0.self (sz := s.heap.size)
  generalize hAe : va_A (kW cI cJ cZ cV cR a C) s.heap.size = A at hD hXE ⊢
  have hA : ∀ q : Nat, s.heap.size ≤ q → A q := fun q h => by rw [← hAe]; exact Or.inr h
  have hS : va_S A s.heap s.heap [] := va_S.rf
  have hP : va_P D vwCl (kX cI cJ cZ cV cR a (k_ra C) (k_rb C) (k_vc C) (k_rc C) (k_pc C) (k_nw C) (k_n C) (k_fn C) (k_sn C) (k_kc C) (k_grp C) (k_key C) (k_srt C) (k_wt C) (k_home C) (k_drp C) (k_met C) (k_kin C) (k_alv C) (k_srs C) (k_row C) (k_sp C) (k_kis C) (k_pg C) (k_vq C) (k_rq C) (k_L C) (k_F C)) s.heap := hP
  have hD : va_D A (kX cI cJ cZ cV cR a (k_ra C) (k_rb C) (k_vc C) (k_rc C) (k_pc C) (k_nw C) (k_n C) (k_fn C) (k_sn C) (k_kc C) (k_grp C) (k_key C) (k_srt C) (k_wt C) (k_home C) (k_drp C) (k_met C) (k_kin C) (k_alv C) (k_srs C) (k_row C) (k_sp C) (k_kis C) (k_pg C) (k_vq C) (k_rq C) (k_L C) (k_F C)) := hD
  have hf0 := hts (.classLink RX5 226 "java/lang/IllegalArgumentException") (by decide +kernel)
  have hf1 := hts (.initialized "java/lang/IllegalArgumentException") (by decide +kernel)
  have hl := lv_entry ([.int (x)]) (n := 1) (Nat.le_of_ble_eq_true rfl)
  rw [lg_entry_eq]
  generalize (lg_sl ([.int (x)]) ++ List.replicate (1 - (lg_sl ([.int (x)])).length) Slot.unset).toArray = ls at hl ⊢
  have hl : lv_has ls 1 [(0, .int (x))] := hl
  refine lv_iload_n hx hb dX5_checkKeep_0 rfl (lv_at hl 0 rfl) ?_
  refine lv_iconst (v := nI (1)) hx hb dX5_checkKeep_1 (by decide) ?_
  refine wz_icmp_lt (tgt := 12) hx hb ((x).toInt) (((1 : Nat) : Int)) rfl (nI_z (by omega)) dX5_checkKeep_2 (by decide) (fun c2_1 => ?_) (fun c2_1 => ?_)
  · have hPm : va_P D vwCl (kW cI cJ cZ cV cR a C) s.heap := by exact hP
    have hDm : va_D A (kW cI cJ cZ cV cR a C) := by exact hD
    obtain ⟨sa, hsa⟩ := hXE.2.2.2.2 ("GroupCursors", 301, "keep is not 1 .. 1000") (by decide)
    exact vx_throwSW hx hb htr hown (by decide) (by decide) hf0 hf1 hsa (xat_X5_230 hXE (fun w hw => hts w (by unfold wsX5_checkKeep; simp only [List.mem_cons, List.mem_append, hw, or_true, true_or]))) xgd_X5_230 hXE.1 hXE.2.1 hS (hl.1.trans hml.symm) dX5_checkKeep_12 dX5_checkKeep_15 dX5_checkKeep_16 dX5_checkKeep_19 dX5_checkKeep_22 (fun x h => (hout x h).elim) (Nat.le_of_ble_eq_true rfl) (Nat.le_of_ble_eq_true rfl) (Nat.le_of_ble_eq_true rfl) (Nat.le_of_ble_eq_true rfl) hlocks (xxc_mk C rfl hPm hK hDm hS) hS.2.2 (Nat.le_refl _) (Nat.le_refl _)
  · refine lv_iload_n hx hb dX5_checkKeep_5 rfl (lv_at hl 0 rfl) ?_
    refine lv_sipush (v := nI (1000)) hx hb dX5_checkKeep_6 (by decide) ?_
    refine wz_icmp_le (tgt := 23) hx hb ((x).toInt) (((1000 : Nat) : Int)) rfl (nI_z (by omega)) dX5_checkKeep_9 (by decide) (fun c9_2 => ?_) (fun c9_2 => ?_)
    · exfalso; omega
    · have hPm : va_P D vwCl (kW cI cJ cZ cV cR a C) s.heap := by exact hP
      have hDm : va_D A (kW cI cJ cZ cV cR a C) := by exact hD
      obtain ⟨sa, hsa⟩ := hXE.2.2.2.2 ("GroupCursors", 301, "keep is not 1 .. 1000") (by decide)
      exact vx_throwSW hx hb htr hown (by decide) (by decide) hf0 hf1 hsa (xat_X5_230 hXE (fun w hw => hts w (by unfold wsX5_checkKeep; simp only [List.mem_cons, List.mem_append, hw, or_true, true_or]))) xgd_X5_230 hXE.1 hXE.2.1 hS (hl.1.trans hml.symm) dX5_checkKeep_12 dX5_checkKeep_15 dX5_checkKeep_16 dX5_checkKeep_19 dX5_checkKeep_22 (fun x h => (hout x h).elim) (Nat.le_of_ble_eq_true rfl) (Nat.le_of_ble_eq_true rfl) (Nat.le_of_ble_eq_true rfl) (Nat.le_of_ble_eq_true rfl) hlocks (xxc_mk C rfl hPm hK hDm hS) hS.2.2 (Nat.le_refl _) (Nat.le_refl _)
def rmx_X5_checkOpen : Room := { frames := 6, cells := 1, slots := 6, locals := 82 }
set_option maxHeartbeats 4000000 in
set_option maxRecDepth 100000 in
/-- not open -/
theorem x_X5_checkOpen (l : Launch) (htr : l.stackTraces = false) (D : va_G) (cI cJ cZ cV cR : ClassId) (a : Nat → Nat) (C : CT) (hM : kOk C) (q hs se c9 g9 st9 r9 : Nat) (hV : isV (k_L C) (k_F C) q hs se c9 g9 st9 r9) (hc9 : c9 ≤ 300) (hg9 : g9 ≤ 300) (hst9 : st9 ≤ 2) (hr9 : r9 ≤ 60) (hbad : st9 ≠ 0) (sz : Nat) : vx_Met l yX5_checkOpen wsX5_checkOpen rmx_X5_checkOpen (va_Pc [.ref (q)] (GX D (tyK cI cJ cZ cV cR) (kW cI cJ cZ cV cR a C) sz)) xNo (xXC D (tyK cI cJ cZ cV cR) "java/lang/IllegalStateException" (fun u : CT => u = C) (kW cI cJ cZ cV cR a) (va_A (kW cI cJ cZ cV cR a C) sz)) 1 6 (va_A (kW cI cJ cZ cV cR a C) sz) := by
  obtain ⟨hn, hfn, hsn, hvc, hrc, hpc, hnw, hkc, h_home, h_kin, h_alv, h_srs, h_row, h_sp, h_kis, h_pg⟩ := id hM
  refine vx_ofW (cc := cX5_checkOpen) (maxL := 1) (ret := none) (by decide) rfl ?_
  intro p e s m args below meth c s₁ B hml hout hv
  obtain ⟨rfl, ⟨hsz, hP, hK, hD0⟩, hXE⟩ := hv
  have hx := B.exec
  have hb := B.bytes
  have hr := B.returns
  have hts := atoms_spec (ws := wsX5_checkOpen) B.pre
  have hown : s.vm.findClass RX5 = some m.cls := findClass_of_methodNamed B.named
  have hlocks := B.notSynchronized
  subst hsz
  have hD := hD0.self (sz := s.heap.size)
  generalize hAe : va_A (kW cI cJ cZ cV cR a C) s.heap.size = A at hD hXE ⊢
  have hA : ∀ q : Nat, s.heap.size ≤ q → A q := fun q h => by rw [← hAe]; exact Or.inr h
  have hS : va_S A s.heap s.heap [] := va_S.rf
  have hP : va_P D vwCl (kX cI cJ cZ cV cR a (k_ra C) (k_rb C) (k_vc C) (k_rc C) (k_pc C) (k_nw C) (k_n C) (k_fn C) (k_sn C) (k_kc C) (k_grp C) (k_key C) (k_srt C) (k_wt C) (k_home C) (k_drp C) (k_met C) (k_kin C) (k_alv C) (k_srs C) (k_row C) (k_sp C) (k_kis C) (k_pg C) (k_vq C) (k_rq C) (k_L C) (k_F C)) s.heap := hP
  have hD : va_D A (kX cI cJ cZ cV cR a (k_ra C) (k_rb C) (k_vc C) (k_rc C) (k_pc C) (k_nw C) (k_n C) (k_fn C) (k_sn C) (k_kc C) (k_grp C) (k_key C) (k_srt C) (k_wt C) (k_home C) (k_drp C) (k_met C) (k_kin C) (k_alv C) (k_srs C) (k_row C) (k_sp C) (k_kis C) (k_pg C) (k_vq C) (k_rq C) (k_L C) (k_F C)) := hD
  have hiX4 : ∀ w ∈ wsX40, w ∈ wsX5_checkOpen := by decide +kernel
  have hf0 := hts (.fieldLink RX5 157 "GroupCursors$View" "state" "I") (by decide +kernel)
  have hf1 := hts (.classLink RX5 303 "java/lang/IllegalStateException") (by decide +kernel)
  have hf2 := hts (.initialized "java/lang/IllegalStateException") (by decide +kernel)
  have hl := lv_entry ([.ref (q)]) (n := 1) (Nat.le_of_ble_eq_true rfl)
  rw [lg_entry_eq]
  generalize (lg_sl ([.ref (q)]) ++ List.replicate (1 - (lg_sl ([.ref (q)])).length) Slot.unset).toArray = ls at hl ⊢
  have hl : lv_has ls 1 [(0, .ref (q))] := hl
  refine lv_aload_n hx hb dX5_checkOpen_0 rfl (lv_at hl 0 rfl) ?_
  refine wp_get (ci := 4) (v := .int (nI (st9))) (C := RX4) (T := TX4) (N := 6) hx hb hts hiX4 hown hK hP hV.1 hV.2 rfl 4 (by decide) hf0 (fun _ h9 => h9) rfl dX5_checkOpen_1 ?_
  refine wn_if_eq (a := st9) (tgt := 18) hx hb (nI_z (by omega)) dX5_checkOpen_4 (by decide) (fun c4_1 => ?_) (fun c4_1 => ?_)
  · exfalso; omega
  · have hPm : va_P D vwCl (kW cI cJ cZ cV cR a C) s.heap := by exact hP
    have hDm : va_D A (kW cI cJ cZ cV cR a C) := by exact hD
    obtain ⟨sa, hsa⟩ := hXE.2.2.2.2 ("GroupCursors", 305, "the view is not open") (by decide)
    exact vx_throwSW hx hb htr hown (by decide) (by decide) hf1 hf2 hsa (xat_X5_307 hXE (fun w hw => hts w (by unfold wsX5_checkOpen; simp only [List.mem_cons, List.mem_append, hw, or_true, true_or]))) xgd_X5_307 hXE.1 hXE.2.1 hS (hl.1.trans hml.symm) dX5_checkOpen_7 dX5_checkOpen_10 dX5_checkOpen_11 dX5_checkOpen_14 dX5_checkOpen_17 (fun x h => (hout x h).elim) (Nat.le_of_ble_eq_true rfl) (Nat.le_of_ble_eq_true rfl) (Nat.le_of_ble_eq_true rfl) (Nat.le_of_ble_eq_true rfl) hlocks (xxc_mk C rfl hPm hK hDm hS) hS.2.2 (Nat.le_refl _) (Nat.le_refl _)
def rm_X0_memberAt : Room := { frames := 0, cells := 0, slots := 0, locals := 0 }
set_option maxHeartbeats 4000000 in
set_option maxRecDepth 100000 in
/-- a member -/
theorem c_X0_memberAt (l : Launch) (D : va_G) (cI cJ cZ cV cR : ClassId) (a : Nat → Nat) (C : CT) (hM : kOk C) (i : Nat) (hi9 : i < k_kc C) (sz : Nat) : Met l yX0_memberAt wsX0_memberAt rm_X0_memberAt (va_Pc [.ref (a 11), .int (nI (i))] (GW D (tyK cI cJ cZ cV cR) (kW cI cJ cZ cV cR a C) sz)) (va_Qi (fun rr u => rr = nI (k_row C i) ∧ u = C) (fun u => GB D (tyK cI cJ cZ cV cR) (va_A (kW cI cJ cZ cV cR a C) sz) (kW cI cJ cZ cV cR a u)) (va_A (kW cI cJ cZ cV cR a C) sz)) 0 0 (va_A (kW cI cJ cZ cV cR a C) sz) := by
  obtain ⟨hn, hfn, hsn, hvc, hrc, hpc, hnw, hkc, h_home, h_kin, h_alv, h_srs, h_row, h_sp, h_kis, h_pg⟩ := id hM
  refine Met.ofW (cc := cX0_memberAt) (maxL := 2) (ret := (some .int)) (by decide) rfl ?_
  intro p e s m args below meth c s₁ B hml hv
  obtain ⟨rfl, hsz, hP, hK, hD0⟩ := hv
  have hx := B.exec
  have hb := B.bytes
  have hr := B.returns
  have hts := atoms_spec (ws := wsX0_memberAt) B.pre
  have hown : s.vm.findClass RX0 = some m.cls := findClass_of_methodNamed B.named
  have hlocks := B.notSynchronized
  subst hsz
  have hD := hD0.self (sz := s.heap.size)
  generalize hAe : va_A (kW cI cJ cZ cV cR a C) s.heap.size = A at hD ⊢
  have hA : ∀ q : Nat, s.heap.size ≤ q → A q := fun q h => by rw [← hAe]; exact Or.inr h
  have hS : va_S A s.heap s.heap [] := va_S.rf
  have hP : va_P D vwCl (kX cI cJ cZ cV cR a (k_ra C) (k_rb C) (k_vc C) (k_rc C) (k_pc C) (k_nw C) (k_n C) (k_fn C) (k_sn C) (k_kc C) (k_grp C) (k_key C) (k_srt C) (k_wt C) (k_home C) (k_drp C) (k_met C) (k_kin C) (k_alv C) (k_srs C) (k_row C) (k_sp C) (k_kis C) (k_pg C) (k_vq C) (k_rq C) (k_L C) (k_F C)) s.heap := hP
  have hD : va_D A (kX cI cJ cZ cV cR a (k_ra C) (k_rb C) (k_vc C) (k_rc C) (k_pc C) (k_nw C) (k_n C) (k_fn C) (k_sn C) (k_kc C) (k_grp C) (k_key C) (k_srt C) (k_wt C) (k_home C) (k_drp C) (k_met C) (k_kin C) (k_alv C) (k_srs C) (k_row C) (k_sp C) (k_kis C) (k_pg C) (k_vq C) (k_rq C) (k_L C) (k_F C)) := hD
  have hiX0 : ∀ w ∈ wsX00, w ∈ wsX0_memberAt := by decide +kernel
  have hf0 := hts (.fieldLink RX0 29 "GroupCursors$Ranking" "count" "I") (by decide +kernel)
  have hf1 := hts (.fieldLink RX0 9 "GroupCursors$Ranking" "row" "[I") (by decide +kernel)
  have hl := lv_entry ([.ref (a 11), .int (nI (i))]) (n := 2) (Nat.le_of_ble_eq_true rfl)
  rw [lg_entry_eq]
  generalize (lg_sl ([.ref (a 11), .int (nI (i))]) ++ List.replicate (2 - (lg_sl ([.ref (a 11), .int (nI (i))])).length) Slot.unset).toArray = ls at hl ⊢
  have hl : lv_has ls 2 [(0, .ref (a 11)), (1, .int (nI (i)))] := hl
  refine lv_iload_n hx hb dX0_memberAt_0 rfl (lv_at hl 1 rfl) ?_
  refine wz_if_lt (tgt := 12) hx hb (((i : Nat) : Int)) (nI_z (by omega)) dX0_memberAt_1 (by decide) (fun c1_1 => ?_) (fun c1_1 => ?_)
  · exfalso; omega
  · refine lv_iload_n hx hb dX0_memberAt_4 rfl (lv_at hl 1 rfl) ?_
    refine lv_aload_n hx hb dX0_memberAt_5 rfl (lv_at hl 0 rfl) ?_
    refine va_get (ci := 0) (v := .int (nI (k_kc C))) (C := RX0) (T := TX0) (N := 7) hx hb hts hiX0 hown hK hP 11 rfl rfl 6 (by decide) hf0 (fun _ h9 => h9) rfl dX0_memberAt_6 ?_
    refine wn_icmp_lt (a := i) (b := k_kc C) (tgt := 22) hx hb (nI_z (by omega)) (nI_z (by omega)) dX0_memberAt_9 (by decide) (fun c9_2 => ?_) (fun c9_2 => ?_)
    · refine lv_aload_n hx hb dX0_memberAt_22 rfl (lv_at hl 0 rfl) ?_
      refine va_get (ci := 0) (v := .ref (k_ra C)) (C := RX0) (T := TX0) (N := 7) hx hb hts hiX0 hown hK hP 11 rfl rfl 1 (by decide) hf1 (fun _ h9 => h9) rfl dX0_memberAt_23 ?_
      refine lv_iload_n hx hb dX0_memberAt_26 rfl (lv_at hl 1 rfl) ?_
      refine wa_i (i := i) (v := nI (k_row C i)) hx hb hK hP 12 0 rfl rfl rfl (by omega) (by decide) dX0_memberAt_27 ?_
      have hPm : va_P D vwCl (kW cI cJ cZ cV cR a C) s.heap := by exact hP
      have hDm : va_D A (kW cI cJ cZ cV cR a C) := by exact hD
      exact W.iret (v := nI (k_row C i)) hx hb hr (fun t ht hW => ⟨⟨_, C, rfl, ⟨rfl, rfl⟩, gb_mk ht hW hPm hK hDm⟩, hS.F ht⟩) hS.2.2 dX0_memberAt_28
    · exfalso; omega
def rm_X5_checkObject : Room := { frames := 0, cells := 0, slots := 0, locals := 0 }
set_option maxHeartbeats 4000000 in
set_option maxRecDepth 100000 in
/-- there is such an object -/
theorem c_X5_checkObject (l : Launch) (D : va_G) (cI cJ cZ cV cR : ClassId) (a : Nat → Nat) (C : CT) (hM : kOk C) (i : Nat) (hi9 : i < k_n C) (sz : Nat) : Met l yX5_checkObject wsX5_checkObject rm_X5_checkObject (va_Pc [.ref (a 0), .int (nI (i))] (GW D (tyK cI cJ cZ cV cR) (kW cI cJ cZ cV cR a C) sz)) (va_Qv (fun u => u = C) (fun u => GB D (tyK cI cJ cZ cV cR) (va_A (kW cI cJ cZ cV cR a C) sz) (kW cI cJ cZ cV cR a u)) (va_A (kW cI cJ cZ cV cR a C) sz)) 0 0 (va_A (kW cI cJ cZ cV cR a C) sz) := by
  obtain ⟨hn, hfn, hsn, hvc, hrc, hpc, hnw, hkc, h_home, h_kin, h_alv, h_srs, h_row, h_sp, h_kis, h_pg⟩ := id hM
  refine Met.ofW (cc := cX5_checkObject) (maxL := 2) (ret := none) (by decide) rfl ?_
  intro p e s m args below meth c s₁ B hml hv
  obtain ⟨rfl, hsz, hP, hK, hD0⟩ := hv
  have hx := B.exec
  have hb := B.bytes
  have hr := B.returns
  have hts := atoms_spec (ws := wsX5_checkObject) B.pre
  have hown : s.vm.findClass RX5 = some m.cls := findClass_of_methodNamed B.named
  have hlocks := B.notSynchronized
  subst hsz
  have hD := hD0.self (sz := s.heap.size)
  generalize hAe : va_A (kW cI cJ cZ cV cR a C) s.heap.size = A at hD ⊢
  have hA : ∀ q : Nat, s.heap.size ≤ q → A q := fun q h => by rw [← hAe]; exact Or.inr h
  have hS : va_S A s.heap s.heap [] := va_S.rf
  have hP : va_P D vwCl (kX cI cJ cZ cV cR a (k_ra C) (k_rb C) (k_vc C) (k_rc C) (k_pc C) (k_nw C) (k_n C) (k_fn C) (k_sn C) (k_kc C) (k_grp C) (k_key C) (k_srt C) (k_wt C) (k_home C) (k_drp C) (k_met C) (k_kin C) (k_alv C) (k_srs C) (k_row C) (k_sp C) (k_kis C) (k_pg C) (k_vq C) (k_rq C) (k_L C) (k_F C)) s.heap := hP
  have hD : va_D A (kX cI cJ cZ cV cR a (k_ra C) (k_rb C) (k_vc C) (k_rc C) (k_pc C) (k_nw C) (k_n C) (k_fn C) (k_sn C) (k_kc C) (k_grp C) (k_key C) (k_srt C) (k_wt C) (k_home C) (k_drp C) (k_met C) (k_kin C) (k_alv C) (k_srs C) (k_row C) (k_sp C) (k_kis C) (k_pg C) (k_vq C) (k_rq C) (k_L C) (k_F C)) := hD
  have hiX5 : ∀ w ∈ wsX50, w ∈ wsX5_checkObject := by decide +kernel
  have hiX3 : ∀ w ∈ wsX30, w ∈ wsX5_checkObject := by decide +kernel
  have hf0 := hts (.fieldLink RX5 10 "GroupCursors" "stock" "LGroupCursors$Stock;") (by decide +kernel)
  have hf1 := hts (.fieldLink RX5 61 "GroupCursors$Stock" "count" "I") (by decide +kernel)
  have hl := lv_entry ([.ref (a 0), .int (nI (i))]) (n := 2) (Nat.le_of_ble_eq_true rfl)
  rw [lg_entry_eq]
  generalize (lg_sl ([.ref (a 0), .int (nI (i))]) ++ List.replicate (2 - (lg_sl ([.ref (a 0), .int (nI (i))])).length) Slot.unset).toArray = ls at hl ⊢
  have hl : lv_has ls 2 [(0, .ref (a 0)), (1, .int (nI (i)))] := hl
  refine lv_iload_n hx hb dX5_checkObject_0 rfl (lv_at hl 1 rfl) ?_
  refine wz_if_lt (tgt := 15) hx hb (((i : Nat) : Int)) (nI_z (by omega)) dX5_checkObject_1 (by decide) (fun c1_1 => ?_) (fun c1_1 => ?_)
  · exfalso; omega
  · refine lv_iload_n hx hb dX5_checkObject_4 rfl (lv_at hl 1 rfl) ?_
    refine lv_aload_n hx hb dX5_checkObject_5 rfl (lv_at hl 0 rfl) ?_
    refine va_get (ci := 5) (v := .ref (a 1)) (C := RX5) (T := TX5) (N := 10) hx hb hts hiX5 hown hK hP 0 rfl rfl 0 (by decide) hf0 (fun _ h9 => h9) rfl dX5_checkObject_6 ?_
    refine va_get (ci := 3) (v := .int (nI (k_n C))) (C := RX3) (T := TX3) (N := 8) hx hb hts hiX3 hown hK hP 1 rfl rfl 6 (by decide) hf1 (fun _ h9 => h9) rfl dX5_checkObject_9 ?_
    refine wn_icmp_lt (a := i) (b := k_n C) (tgt := 26) hx hb (nI_z (by omega)) (nI_z (by omega)) dX5_checkObject_12 (by decide) (fun c12_2 => ?_) (fun c12_2 => ?_)
    · have hPm : va_P D vwCl (kW cI cJ cZ cV cR a C) s.heap := by exact hP
      have hDm : va_D A (kW cI cJ cZ cV cR a C) := by exact hD
      exact W.vret hx hb hr (fun t ht hW => ⟨⟨C, rfl, rfl, gb_mk ht hW hPm hK hDm⟩, hS.F ht⟩) hS.2.2 dX5_checkObject_26
    · exfalso; omega
def rm_X5_viewAt : Room := { frames := 0, cells := 0, slots := 0, locals := 0 }
set_option maxHeartbeats 4000000 in
set_option maxRecDepth 100000 in
/-- a view -/
theorem c_X5_viewAt (l : Launch) (D : va_G) (cI cJ cZ cV cR : ClassId) (a : Nat → Nat) (C : CT) (hM : kOk C) (i q : Nat) (hi9 : i < k_vc C) (hq9 : k_vq C i = some q) (sz : Nat) : Met l yX5_viewAt wsX5_viewAt rm_X5_viewAt (va_Pc [.ref (a 0), .int (nI (i))] (GW D (tyK cI cJ cZ cV cR) (kW cI cJ cZ cV cR a C) sz)) (va_Qr (fun u : Nat × CT => u = (q, C)) (fun u q t => q = u.1 ∧ GB D (tyK cI cJ cZ cV cR) (va_A (kW cI cJ cZ cV cR a C) sz) (kW cI cJ cZ cV cR a u.2) t) (va_A (kW cI cJ cZ cV cR a C) sz)) 0 0 (va_A (kW cI cJ cZ cV cR a C) sz) := by
  obtain ⟨hn, hfn, hsn, hvc, hrc, hpc, hnw, hkc, h_home, h_kin, h_alv, h_srs, h_row, h_sp, h_kis, h_pg⟩ := id hM
  refine Met.ofW (cc := cX5_viewAt) (maxL := 3) (ret := (some (.object "GroupCursors$View"))) (by decide) rfl ?_
  intro p e s m args below meth c s₁ B hml hv
  obtain ⟨rfl, hsz, hP, hK, hD0⟩ := hv
  have hx := B.exec
  have hb := B.bytes
  have hr := B.returns
  have hts := atoms_spec (ws := wsX5_viewAt) B.pre
  have hown : s.vm.findClass RX5 = some m.cls := findClass_of_methodNamed B.named
  have hlocks := B.notSynchronized
  subst hsz
  have hD := hD0.self (sz := s.heap.size)
  generalize hAe : va_A (kW cI cJ cZ cV cR a C) s.heap.size = A at hD ⊢
  have hA : ∀ q : Nat, s.heap.size ≤ q → A q := fun q h => by rw [← hAe]; exact Or.inr h
  have hS : va_S A s.heap s.heap [] := va_S.rf
  have hP : va_P D vwCl (kX cI cJ cZ cV cR a (k_ra C) (k_rb C) (k_vc C) (k_rc C) (k_pc C) (k_nw C) (k_n C) (k_fn C) (k_sn C) (k_kc C) (k_grp C) (k_key C) (k_srt C) (k_wt C) (k_home C) (k_drp C) (k_met C) (k_kin C) (k_alv C) (k_srs C) (k_row C) (k_sp C) (k_kis C) (k_pg C) (k_vq C) (k_rq C) (k_L C) (k_F C)) s.heap := hP
  have hD : va_D A (kX cI cJ cZ cV cR a (k_ra C) (k_rb C) (k_vc C) (k_rc C) (k_pc C) (k_nw C) (k_n C) (k_fn C) (k_sn C) (k_kc C) (k_grp C) (k_key C) (k_srt C) (k_wt C) (k_home C) (k_drp C) (k_met C) (k_kin C) (k_alv C) (k_srs C) (k_row C) (k_sp C) (k_kis C) (k_pg C) (k_vq C) (k_rq C) (k_L C) (k_F C)) := hD
  have hiX5 : ∀ w ∈ wsX50, w ∈ wsX5_viewAt := by decide +kernel
  have hf0 := hts (.fieldLink RX5 38 "GroupCursors" "viewCount" "I") (by decide +kernel)
  have hf1 := hts (.fieldLink RX5 34 "GroupCursors" "views" "[LGroupCursors$View;") (by decide +kernel)
  have hl := lv_entry ([.ref (a 0), .int (nI (i))]) (n := 3) (Nat.le_of_ble_eq_true rfl)
  rw [lg_entry_eq]
  generalize (lg_sl ([.ref (a 0), .int (nI (i))]) ++ List.replicate (3 - (lg_sl ([.ref (a 0), .int (nI (i))])).length) Slot.unset).toArray = ls at hl ⊢
  have hl : lv_has ls 3 [(0, .ref (a 0)), (1, .int (nI (i)))] := hl
  refine lv_iload_n hx hb dX5_viewAt_0 rfl (lv_at hl 1 rfl) ?_
  refine wz_if_lt (tgt := 12) hx hb (((i : Nat) : Int)) (nI_z (by omega)) dX5_viewAt_1 (by decide) (fun c1_1 => ?_) (fun c1_1 => ?_)
  · refine lv_null hx hb dX5_viewAt_12 ?_
    refine lv_goto (tgt := 22) hx hb dX5_viewAt_13 (by decide) ?_
    refine lv_astore_nN (lv' := [(2, .null), (0, .ref (a 0)), (1, .int (nI (i)))]) hx hb dX5_viewAt_22 rfl hl (by decide) rfl (fun ls hl => ?_)
    refine lv_aload_nN hx hb dX5_viewAt_23 rfl (lv_at hl 0 rfl) ?_
    refine lv_ifnonnullN hx hb dX5_viewAt_24 ?_
    exfalso; omega
  · refine lv_iload_n hx hb dX5_viewAt_4 rfl (lv_at hl 1 rfl) ?_
    refine lv_aload_n hx hb dX5_viewAt_5 rfl (lv_at hl 0 rfl) ?_
    refine va_get (ci := 5) (v := .int (nI (k_vc C))) (C := RX5) (T := TX5) (N := 10) hx hb hts hiX5 hown hK hP 0 rfl rfl 4 (by decide) hf0 (fun _ h9 => h9) rfl dX5_viewAt_6 ?_
    refine wn_icmp_lt (a := i) (b := k_vc C) (tgt := 16) hx hb (nI_z (by omega)) (nI_z (by omega)) dX5_viewAt_9 (by decide) (fun c9_2 => ?_) (fun c9_2 => ?_)
    · refine lv_aload_n hx hb dX5_viewAt_16 rfl (lv_at hl 0 rfl) ?_
      refine va_get (ci := 5) (v := .ref (a 17)) (C := RX5) (T := TX5) (N := 10) hx hb hts hiX5 hown hK hP 0 rfl rfl 3 (by decide) hf1 (fun _ h9 => h9) rfl dX5_viewAt_17 ?_
      refine lv_iload_n hx hb dX5_viewAt_20 rfl (lv_at hl 1 rfl) ?_
      refine wp_aldq (i := i) (v := q) hx hb hK hP 17 3 rfl rfl hq9 (by omega) (by decide) dX5_viewAt_21 ?_
      refine lv_astore_n (lv' := [(2, .ref (q)), (0, .ref (a 0)), (1, .int (nI (i)))]) hx hb dX5_viewAt_22 rfl hl (by decide) rfl (fun ls hl => ?_)
      refine lv_aload_n hx hb dX5_viewAt_23 rfl (lv_at hl 0 rfl) ?_
      refine lv_ifnonnull (tgt := 38) hx hb dX5_viewAt_24 (by decide) ?_
      refine lv_aload_n hx hb dX5_viewAt_38 rfl (lv_at hl 0 rfl) ?_
      have hPm : va_P D vwCl (kW cI cJ cZ cV cR a C) s.heap := by exact hP
      have hDm : va_D A (kW cI cJ cZ cV cR a C) := by exact hD
      exact W.aret (v := .ref (q)) hx hb hr (Or.inl ⟨_, rfl⟩) (Or.inr ⟨_, rfl⟩) (fun t ht hW => ⟨⟨(q, C), _, rfl, rfl, rfl, gb_mk ht hW hPm hK hDm⟩, hS.F ht⟩) hS.2.2 dX5_viewAt_39
    · refine lv_null hx hb dX5_viewAt_12 ?_
      refine lv_goto (tgt := 22) hx hb dX5_viewAt_13 (by decide) ?_
      refine lv_astore_nN (lv' := [(2, .null), (0, .ref (a 0)), (1, .int (nI (i)))]) hx hb dX5_viewAt_22 rfl hl (by decide) rfl (fun ls hl => ?_)
      refine lv_aload_nN hx hb dX5_viewAt_23 rfl (lv_at hl 0 rfl) ?_
      refine lv_ifnonnullN hx hb dX5_viewAt_24 ?_
      exfalso; omega
def rm_X5_readerAt : Room := { frames := 0, cells := 0, slots := 0, locals := 0 }
set_option maxHeartbeats 4000000 in
set_option maxRecDepth 100000 in
/-- a reader -/
theorem c_X5_readerAt (l : Launch) (D : va_G) (cI cJ cZ cV cR : ClassId) (a : Nat → Nat) (C : CT) (hM : kOk C) (i q : Nat) (hi9 : i < k_rc C) (hq9 : k_rq C i = some q) (sz : Nat) : Met l yX5_readerAt wsX5_readerAt rm_X5_readerAt (va_Pc [.ref (a 0), .int (nI (i))] (GW D (tyK cI cJ cZ cV cR) (kW cI cJ cZ cV cR a C) sz)) (va_Qr (fun u : Nat × CT => u = (q, C)) (fun u q t => q = u.1 ∧ GB D (tyK cI cJ cZ cV cR) (va_A (kW cI cJ cZ cV cR a C) sz) (kW cI cJ cZ cV cR a u.2) t) (va_A (kW cI cJ cZ cV cR a C) sz)) 0 0 (va_A (kW cI cJ cZ cV cR a C) sz) := by
  obtain ⟨hn, hfn, hsn, hvc, hrc, hpc, hnw, hkc, h_home, h_kin, h_alv, h_srs, h_row, h_sp, h_kis, h_pg⟩ := id hM
  refine Met.ofW (cc := cX5_readerAt) (maxL := 3) (ret := (some (.object "GroupCursors$Reader"))) (by decide) rfl ?_
  intro p e s m args below meth c s₁ B hml hv
  obtain ⟨rfl, hsz, hP, hK, hD0⟩ := hv
  have hx := B.exec
  have hb := B.bytes
  have hr := B.returns
  have hts := atoms_spec (ws := wsX5_readerAt) B.pre
  have hown : s.vm.findClass RX5 = some m.cls := findClass_of_methodNamed B.named
  have hlocks := B.notSynchronized
  subst hsz
  have hD := hD0.self (sz := s.heap.size)
  generalize hAe : va_A (kW cI cJ cZ cV cR a C) s.heap.size = A at hD ⊢
  have hA : ∀ q : Nat, s.heap.size ≤ q → A q := fun q h => by rw [← hAe]; exact Or.inr h
  have hS : va_S A s.heap s.heap [] := va_S.rf
  have hP : va_P D vwCl (kX cI cJ cZ cV cR a (k_ra C) (k_rb C) (k_vc C) (k_rc C) (k_pc C) (k_nw C) (k_n C) (k_fn C) (k_sn C) (k_kc C) (k_grp C) (k_key C) (k_srt C) (k_wt C) (k_home C) (k_drp C) (k_met C) (k_kin C) (k_alv C) (k_srs C) (k_row C) (k_sp C) (k_kis C) (k_pg C) (k_vq C) (k_rq C) (k_L C) (k_F C)) s.heap := hP
  have hD : va_D A (kX cI cJ cZ cV cR a (k_ra C) (k_rb C) (k_vc C) (k_rc C) (k_pc C) (k_nw C) (k_n C) (k_fn C) (k_sn C) (k_kc C) (k_grp C) (k_key C) (k_srt C) (k_wt C) (k_home C) (k_drp C) (k_met C) (k_kin C) (k_alv C) (k_srs C) (k_row C) (k_sp C) (k_kis C) (k_pg C) (k_vq C) (k_rq C) (k_L C) (k_F C)) := hD
  have hiX5 : ∀ w ∈ wsX50, w ∈ wsX5_readerAt := by decide +kernel
  have hf0 := hts (.fieldLink RX5 48 "GroupCursors" "readerCount" "I") (by decide +kernel)
  have hf1 := hts (.fieldLink RX5 44 "GroupCursors" "readers" "[LGroupCursors$Reader;") (by decide +kernel)
  have hl := lv_entry ([.ref (a 0), .int (nI (i))]) (n := 3) (Nat.le_of_ble_eq_true rfl)
  rw [lg_entry_eq]
  generalize (lg_sl ([.ref (a 0), .int (nI (i))]) ++ List.replicate (3 - (lg_sl ([.ref (a 0), .int (nI (i))])).length) Slot.unset).toArray = ls at hl ⊢
  have hl : lv_has ls 3 [(0, .ref (a 0)), (1, .int (nI (i)))] := hl
  refine lv_iload_n hx hb dX5_readerAt_0 rfl (lv_at hl 1 rfl) ?_
  refine wz_if_lt (tgt := 12) hx hb (((i : Nat) : Int)) (nI_z (by omega)) dX5_readerAt_1 (by decide) (fun c1_1 => ?_) (fun c1_1 => ?_)
  · refine lv_null hx hb dX5_readerAt_12 ?_
    refine lv_goto (tgt := 22) hx hb dX5_readerAt_13 (by decide) ?_
    refine lv_astore_nN (lv' := [(2, .null), (0, .ref (a 0)), (1, .int (nI (i)))]) hx hb dX5_readerAt_22 rfl hl (by decide) rfl (fun ls hl => ?_)
    refine lv_aload_nN hx hb dX5_readerAt_23 rfl (lv_at hl 0 rfl) ?_
    refine lv_ifnonnullN hx hb dX5_readerAt_24 ?_
    exfalso; omega
  · refine lv_iload_n hx hb dX5_readerAt_4 rfl (lv_at hl 1 rfl) ?_
    refine lv_aload_n hx hb dX5_readerAt_5 rfl (lv_at hl 0 rfl) ?_
    refine va_get (ci := 5) (v := .int (nI (k_rc C))) (C := RX5) (T := TX5) (N := 10) hx hb hts hiX5 hown hK hP 0 rfl rfl 6 (by decide) hf0 (fun _ h9 => h9) rfl dX5_readerAt_6 ?_
    refine wn_icmp_lt (a := i) (b := k_rc C) (tgt := 16) hx hb (nI_z (by omega)) (nI_z (by omega)) dX5_readerAt_9 (by decide) (fun c9_2 => ?_) (fun c9_2 => ?_)
    · refine lv_aload_n hx hb dX5_readerAt_16 rfl (lv_at hl 0 rfl) ?_
      refine va_get (ci := 5) (v := .ref (a 18)) (C := RX5) (T := TX5) (N := 10) hx hb hts hiX5 hown hK hP 0 rfl rfl 5 (by decide) hf1 (fun _ h9 => h9) rfl dX5_readerAt_17 ?_
      refine lv_iload_n hx hb dX5_readerAt_20 rfl (lv_at hl 1 rfl) ?_
      refine wp_aldq (i := i) (v := q) hx hb hK hP 18 4 rfl rfl hq9 (by omega) (by decide) dX5_readerAt_21 ?_
      refine lv_astore_n (lv' := [(2, .ref (q)), (0, .ref (a 0)), (1, .int (nI (i)))]) hx hb dX5_readerAt_22 rfl hl (by decide) rfl (fun ls hl => ?_)
      refine lv_aload_n hx hb dX5_readerAt_23 rfl (lv_at hl 0 rfl) ?_
      refine lv_ifnonnull (tgt := 38) hx hb dX5_readerAt_24 (by decide) ?_
      refine lv_aload_n hx hb dX5_readerAt_38 rfl (lv_at hl 0 rfl) ?_
      have hPm : va_P D vwCl (kW cI cJ cZ cV cR a C) s.heap := by exact hP
      have hDm : va_D A (kW cI cJ cZ cV cR a C) := by exact hD
      exact W.aret (v := .ref (q)) hx hb hr (Or.inl ⟨_, rfl⟩) (Or.inr ⟨_, rfl⟩) (fun t ht hW => ⟨⟨(q, C), _, rfl, rfl, rfl, gb_mk ht hW hPm hK hDm⟩, hS.F ht⟩) hS.2.2 dX5_readerAt_39
    · refine lv_null hx hb dX5_readerAt_12 ?_
      refine lv_goto (tgt := 22) hx hb dX5_readerAt_13 (by decide) ?_
      refine lv_astore_nN (lv' := [(2, .null), (0, .ref (a 0)), (1, .int (nI (i)))]) hx hb dX5_readerAt_22 rfl hl (by decide) rfl (fun ls hl => ?_)
      refine lv_aload_nN hx hb dX5_readerAt_23 rfl (lv_at hl 0 rfl) ?_
      refine lv_ifnonnullN hx hb dX5_readerAt_24 ?_
      exfalso; omega
def rm_X5_checkGroup : Room := { frames := 0, cells := 0, slots := 0, locals := 0 }
set_option maxHeartbeats 4000000 in
set_option maxRecDepth 100000 in
/-- there is such a group -/
theorem c_X5_checkGroup (l : Launch) (D : va_G) (cI cJ cZ cV cR : ClassId) (a : Nat → Nat) (C : CT) (hM : kOk C) (q hs se c9 g9 st9 r9 : Nat) (hV : isV (k_L C) (k_F C) q hs se c9 g9 st9 r9) (hc9 : c9 ≤ 300) (hg9 : g9 ≤ 300) (hst9 : st9 ≤ 2) (hr9 : r9 ≤ 60) (k9 : Nat) (hk9 : k9 < g9) (sz : Nat) : Met l yX5_checkGroup wsX5_checkGroup rm_X5_checkGroup (va_Pc [.ref (q), .int (nI (k9))] (GW D (tyK cI cJ cZ cV cR) (kW cI cJ cZ cV cR a C) sz)) (va_Qv (fun u => u = C) (fun u => GB D (tyK cI cJ cZ cV cR) (va_A (kW cI cJ cZ cV cR a C) sz) (kW cI cJ cZ cV cR a u)) (va_A (kW cI cJ cZ cV cR a C) sz)) 0 0 (va_A (kW cI cJ cZ cV cR a C) sz) := by
  obtain ⟨hn, hfn, hsn, hvc, hrc, hpc, hnw, hkc, h_home, h_kin, h_alv, h_srs, h_row, h_sp, h_kis, h_pg⟩ := id hM
  refine Met.ofW (cc := cX5_checkGroup) (maxL := 2) (ret := none) (by decide) rfl ?_
  intro p e s m args below meth c s₁ B hml hv
  obtain ⟨rfl, hsz, hP, hK, hD0⟩ := hv
  have hx := B.exec
  have hb := B.bytes
  have hr := B.returns
  have hts := atoms_spec (ws := wsX5_checkGroup) B.pre
  have hown : s.vm.findClass RX5 = some m.cls := findClass_of_methodNamed B.named
  have hlocks := B.notSynchronized
  subst hsz
  have hD := hD0.self (sz := s.heap.size)
  generalize hAe : va_A (kW cI cJ cZ cV cR a C) s.heap.size = A at hD ⊢
  have hA : ∀ q : Nat, s.heap.size ≤ q → A q := fun q h => by rw [← hAe]; exact Or.inr h
  have hS : va_S A s.heap s.heap [] := va_S.rf
  have hP : va_P D vwCl (kX cI cJ cZ cV cR a (k_ra C) (k_rb C) (k_vc C) (k_rc C) (k_pc C) (k_nw C) (k_n C) (k_fn C) (k_sn C) (k_kc C) (k_grp C) (k_key C) (k_srt C) (k_wt C) (k_home C) (k_drp C) (k_met C) (k_kin C) (k_alv C) (k_srs C) (k_row C) (k_sp C) (k_kis C) (k_pg C) (k_vq C) (k_rq C) (k_L C) (k_F C)) s.heap := hP
  have hD : va_D A (kX cI cJ cZ cV cR a (k_ra C) (k_rb C) (k_vc C) (k_rc C) (k_pc C) (k_nw C) (k_n C) (k_fn C) (k_sn C) (k_kc C) (k_grp C) (k_key C) (k_srt C) (k_wt C) (k_home C) (k_drp C) (k_met C) (k_kin C) (k_alv C) (k_srs C) (k_row C) (k_sp C) (k_kis C) (k_pg C) (k_vq C) (k_rq C) (k_L C) (k_F C)) := hD
  have hiX4 : ∀ w ∈ wsX40, w ∈ wsX5_checkGroup := by decide +kernel
  have hf0 := hts (.fieldLink RX5 177 "GroupCursors$View" "groupCount" "I") (by decide +kernel)
  have hl := lv_entry ([.ref (q), .int (nI (k9))]) (n := 2) (Nat.le_of_ble_eq_true rfl)
  rw [lg_entry_eq]
  generalize (lg_sl ([.ref (q), .int (nI (k9))]) ++ List.replicate (2 - (lg_sl ([.ref (q), .int (nI (k9))])).length) Slot.unset).toArray = ls at hl ⊢
  have hl : lv_has ls 2 [(0, .ref (q)), (1, .int (nI (k9)))] := hl
  refine lv_iload_n hx hb dX5_checkGroup_0 rfl (lv_at hl 1 rfl) ?_
  refine wz_if_lt (tgt := 12) hx hb (((k9 : Nat) : Int)) (nI_z (by omega)) dX5_checkGroup_1 (by decide) (fun c1_1 => ?_) (fun c1_1 => ?_)
  · exfalso; omega
  · refine lv_iload_n hx hb dX5_checkGroup_4 rfl (lv_at hl 1 rfl) ?_
    refine lv_aload_n hx hb dX5_checkGroup_5 rfl (lv_at hl 0 rfl) ?_
    refine wp_get (ci := 4) (v := .int (nI (g9))) (C := RX4) (T := TX4) (N := 6) hx hb hts hiX4 hown hK hP hV.1 hV.2 rfl 3 (by decide) hf0 (fun _ h9 => h9) rfl dX5_checkGroup_6 ?_
    refine wn_icmp_lt (a := k9) (b := g9) (tgt := 23) hx hb (nI_z (by omega)) (nI_z (by omega)) dX5_checkGroup_9 (by decide) (fun c9_2 => ?_) (fun c9_2 => ?_)
    · have hPm : va_P D vwCl (kW cI cJ cZ cV cR a C) s.heap := by exact hP
      have hDm : va_D A (kW cI cJ cZ cV cR a C) := by exact hD
      exact W.vret hx hb hr (fun t ht hW => ⟨⟨C, rfl, rfl, gb_mk ht hW hPm hK hDm⟩, hS.F ht⟩) hS.2.2 dX5_checkGroup_23
    · exfalso; omega
def rm_X5_checkKind : Room := { frames := 0, cells := 0, slots := 0, locals := 0 }
set_option maxHeartbeats 4000000 in
set_option maxRecDepth 100000 in
/-- there is such a kind -/
theorem c_X5_checkKind (l : Launch) (D : va_G) (cI cJ cZ cV cR : ClassId) (a : Nat → Nat) (C : CT) (hM : kOk C) (k9 : Nat) (hk9 : k9 < 3) (sz : Nat) : Met l yX5_checkKind wsX5_checkKind rm_X5_checkKind (va_Pc [.int (nI (k9))] (GW D (tyK cI cJ cZ cV cR) (kW cI cJ cZ cV cR a C) sz)) (va_Qv (fun u => u = C) (fun u => GB D (tyK cI cJ cZ cV cR) (va_A (kW cI cJ cZ cV cR a C) sz) (kW cI cJ cZ cV cR a u)) (va_A (kW cI cJ cZ cV cR a C) sz)) 0 0 (va_A (kW cI cJ cZ cV cR a C) sz) := by
  obtain ⟨hn, hfn, hsn, hvc, hrc, hpc, hnw, hkc, h_home, h_kin, h_alv, h_srs, h_row, h_sp, h_kis, h_pg⟩ := id hM
  refine Met.ofW (cc := cX5_checkKind) (maxL := 1) (ret := none) (by decide) rfl ?_
  intro p e s m args below meth c s₁ B hml hv
  obtain ⟨rfl, hsz, hP, hK, hD0⟩ := hv
  have hx := B.exec
  have hb := B.bytes
  have hr := B.returns
  have hts := atoms_spec (ws := wsX5_checkKind) B.pre
  have hown : s.vm.findClass RX5 = some m.cls := findClass_of_methodNamed B.named
  have hlocks := B.notSynchronized
  subst hsz
  have hD := hD0.self (sz := s.heap.size)
  generalize hAe : va_A (kW cI cJ cZ cV cR a C) s.heap.size = A at hD ⊢
  have hA : ∀ q : Nat, s.heap.size ≤ q → A q := fun q h => by rw [← hAe]; exact Or.inr h
  have hS : va_S A s.heap s.heap [] := va_S.rf
  have hP : va_P D vwCl (kX cI cJ cZ cV cR a (k_ra C) (k_rb C) (k_vc C) (k_rc C) (k_pc C) (k_nw C) (k_n C) (k_fn C) (k_sn C) (k_kc C) (k_grp C) (k_key C) (k_srt C) (k_wt C) (k_home C) (k_drp C) (k_met C) (k_kin C) (k_alv C) (k_srs C) (k_row C) (k_sp C) (k_kis C) (k_pg C) (k_vq C) (k_rq C) (k_L C) (k_F C)) s.heap := hP
  have hD : va_D A (kX cI cJ cZ cV cR a (k_ra C) (k_rb C) (k_vc C) (k_rc C) (k_pc C) (k_nw C) (k_n C) (k_fn C) (k_sn C) (k_kc C) (k_grp C) (k_key C) (k_srt C) (k_wt C) (k_home C) (k_drp C) (k_met C) (k_kin C) (k_alv C) (k_srs C) (k_row C) (k_sp C) (k_kis C) (k_pg C) (k_vq C) (k_rq C) (k_L C) (k_F C)) := hD
  have hl := lv_entry ([.int (nI (k9))]) (n := 1) (Nat.le_of_ble_eq_true rfl)
  rw [lg_entry_eq]
  generalize (lg_sl ([.int (nI (k9))]) ++ List.replicate (1 - (lg_sl ([.int (nI (k9))])).length) Slot.unset).toArray = ls at hl ⊢
  have hl : lv_has ls 1 [(0, .int (nI (k9)))] := hl
  refine lv_iload_n hx hb dX5_checkKind_0 rfl (lv_at hl 0 rfl) ?_
  refine wn_if_eq (a := k9) (tgt := 25) hx hb (nI_z (by omega)) dX5_checkKind_1 (by decide) (fun c1_1 => ?_) (fun c1_1 => ?_)
  · have hPm : va_P D vwCl (kW cI cJ cZ cV cR a C) s.heap := by exact hP
    have hDm : va_D A (kW cI cJ cZ cV cR a C) := by exact hD
    exact W.vret hx hb hr (fun t ht hW => ⟨⟨C, rfl, rfl, gb_mk ht hW hPm hK hDm⟩, hS.F ht⟩) hS.2.2 dX5_checkKind_25
  · refine lv_iload_n hx hb dX5_checkKind_4 rfl (lv_at hl 0 rfl) ?_
    refine lv_iconst (v := nI (1)) hx hb dX5_checkKind_5 (by decide) ?_
    refine wn_icmp_eq (a := k9) (b := 1) (tgt := 25) hx hb (nI_z (by omega)) (nI_z (by omega)) dX5_checkKind_6 (by decide) (fun c6_2 => ?_) (fun c6_2 => ?_)
    · have hPm : va_P D vwCl (kW cI cJ cZ cV cR a C) s.heap := by exact hP
      have hDm : va_D A (kW cI cJ cZ cV cR a C) := by exact hD
      exact W.vret hx hb hr (fun t ht hW => ⟨⟨C, rfl, rfl, gb_mk ht hW hPm hK hDm⟩, hS.F ht⟩) hS.2.2 dX5_checkKind_25
    · refine lv_iload_n hx hb dX5_checkKind_9 rfl (lv_at hl 0 rfl) ?_
      refine lv_iconst (v := nI (2)) hx hb dX5_checkKind_10 (by decide) ?_
      refine wn_icmp_eq (a := k9) (b := 2) (tgt := 25) hx hb (nI_z (by omega)) (nI_z (by omega)) dX5_checkKind_11 (by decide) (fun c11_3 => ?_) (fun c11_3 => ?_)
      · have hPm : va_P D vwCl (kW cI cJ cZ cV cR a C) s.heap := by exact hP
        have hDm : va_D A (kW cI cJ cZ cV cR a C) := by exact hD
        exact W.vret hx hb hr (fun t ht hW => ⟨⟨C, rfl, rfl, gb_mk ht hW hPm hK hDm⟩, hS.F ht⟩) hS.2.2 dX5_checkKind_25
      · exfalso; omega
def rm_X5_checkSlice : Room := { frames := 0, cells := 0, slots := 0, locals := 0 }
set_option maxHeartbeats 4000000 in
set_option maxRecDepth 100000 in
/-- there is such a slice -/
theorem c_X5_checkSlice (l : Launch) (D : va_G) (cI cJ cZ cV cR : ClassId) (a : Nat → Nat) (C : CT) (hM : kOk C) (m9 k9 : Nat) (hm9 : 1 ≤ m9) (hm8 : m9 ≤ 8) (hk9 : k9 < m9) (sz : Nat) : Met l yX5_checkSlice wsX5_checkSlice rm_X5_checkSlice (va_Pc [.int (nI (m9)), .int (nI (k9))] (GW D (tyK cI cJ cZ cV cR) (kW cI cJ cZ cV cR a C) sz)) (va_Qv (fun u => u = C) (fun u => GB D (tyK cI cJ cZ cV cR) (va_A (kW cI cJ cZ cV cR a C) sz) (kW cI cJ cZ cV cR a u)) (va_A (kW cI cJ cZ cV cR a C) sz)) 0 0 (va_A (kW cI cJ cZ cV cR a C) sz) := by
  obtain ⟨hn, hfn, hsn, hvc, hrc, hpc, hnw, hkc, h_home, h_kin, h_alv, h_srs, h_row, h_sp, h_kis, h_pg⟩ := id hM
  refine Met.ofW (cc := cX5_checkSlice) (maxL := 2) (ret := none) (by decide) rfl ?_
  intro p e s m args below meth c s₁ B hml hv
  obtain ⟨rfl, hsz, hP, hK, hD0⟩ := hv
  have hx := B.exec
  have hb := B.bytes
  have hr := B.returns
  have hts := atoms_spec (ws := wsX5_checkSlice) B.pre
  have hown : s.vm.findClass RX5 = some m.cls := findClass_of_methodNamed B.named
  have hlocks := B.notSynchronized
  subst hsz
  have hD := hD0.self (sz := s.heap.size)
  generalize hAe : va_A (kW cI cJ cZ cV cR a C) s.heap.size = A at hD ⊢
  have hA : ∀ q : Nat, s.heap.size ≤ q → A q := fun q h => by rw [← hAe]; exact Or.inr h
  have hS : va_S A s.heap s.heap [] := va_S.rf
  have hP : va_P D vwCl (kX cI cJ cZ cV cR a (k_ra C) (k_rb C) (k_vc C) (k_rc C) (k_pc C) (k_nw C) (k_n C) (k_fn C) (k_sn C) (k_kc C) (k_grp C) (k_key C) (k_srt C) (k_wt C) (k_home C) (k_drp C) (k_met C) (k_kin C) (k_alv C) (k_srs C) (k_row C) (k_sp C) (k_kis C) (k_pg C) (k_vq C) (k_rq C) (k_L C) (k_F C)) s.heap := hP
  have hD : va_D A (kX cI cJ cZ cV cR a (k_ra C) (k_rb C) (k_vc C) (k_rc C) (k_pc C) (k_nw C) (k_n C) (k_fn C) (k_sn C) (k_kc C) (k_grp C) (k_key C) (k_srt C) (k_wt C) (k_home C) (k_drp C) (k_met C) (k_kin C) (k_alv C) (k_srs C) (k_row C) (k_sp C) (k_kis C) (k_pg C) (k_vq C) (k_rq C) (k_L C) (k_F C)) := hD
  have hl := lv_entry ([.int (nI (m9)), .int (nI (k9))]) (n := 2) (Nat.le_of_ble_eq_true rfl)
  rw [lg_entry_eq]
  generalize (lg_sl ([.int (nI (m9)), .int (nI (k9))]) ++ List.replicate (2 - (lg_sl ([.int (nI (m9)), .int (nI (k9))])).length) Slot.unset).toArray = ls at hl ⊢
  have hl : lv_has ls 2 [(0, .int (nI (m9))), (1, .int (nI (k9)))] := hl
  refine lv_iload_n hx hb dX5_checkSlice_0 rfl (lv_at hl 0 rfl) ?_
  refine lv_iconst (v := nI (1)) hx hb dX5_checkSlice_1 (by decide) ?_
  refine wn_icmp_lt (a := m9) (b := 1) (tgt := 11) hx hb (nI_z (by omega)) (nI_z (by omega)) dX5_checkSlice_2 (by decide) (fun c2_1 => ?_) (fun c2_1 => ?_)
  · exfalso; omega
  · refine lv_iload_n hx hb dX5_checkSlice_5 rfl (lv_at hl 0 rfl) ?_
    refine lv_bipush (v := nI (8)) hx hb dX5_checkSlice_6 (by decide) ?_
    refine wn_icmp_le (a := m9) (b := 8) (tgt := 22) hx hb (nI_z (by omega)) (nI_z (by omega)) dX5_checkSlice_8 (by decide) (fun c8_2 => ?_) (fun c8_2 => ?_)
    · refine lv_iload_n hx hb dX5_checkSlice_22 rfl (lv_at hl 1 rfl) ?_
      refine wz_if_lt (tgt := 31) hx hb (((k9 : Nat) : Int)) (nI_z (by omega)) dX5_checkSlice_23 (by decide) (fun c23_3 => ?_) (fun c23_3 => ?_)
      · exfalso; omega
      · refine lv_iload_n hx hb dX5_checkSlice_26 rfl (lv_at hl 1 rfl) ?_
        refine lv_iload_n hx hb dX5_checkSlice_27 rfl (lv_at hl 0 rfl) ?_
        refine wn_icmp_lt (a := k9) (b := m9) (tgt := 42) hx hb (nI_z (by omega)) (nI_z (by omega)) dX5_checkSlice_28 (by decide) (fun c28_4 => ?_) (fun c28_4 => ?_)
        · have hPm : va_P D vwCl (kW cI cJ cZ cV cR a C) s.heap := by exact hP
          have hDm : va_D A (kW cI cJ cZ cV cR a C) := by exact hD
          exact W.vret hx hb hr (fun t ht hW => ⟨⟨C, rfl, rfl, gb_mk ht hW hPm hK hDm⟩, hS.F ht⟩) hS.2.2 dX5_checkSlice_42
        · exfalso; omega
    · exfalso; omega
def rm_X5_checkKeep : Room := { frames := 0, cells := 0, slots := 0, locals := 0 }
set_option maxHeartbeats 4000000 in
set_option maxRecDepth 100000 in
/-- such a keep -/
theorem c_X5_checkKeep (l : Launch) (D : va_G) (cI cJ cZ cV cR : ClassId) (a : Nat → Nat) (C : CT) (hM : kOk C) (k9 : Nat) (hm9 : 1 ≤ k9) (hm8 : k9 ≤ 1000) (sz : Nat) : Met l yX5_checkKeep wsX5_checkKeep rm_X5_checkKeep (va_Pc [.int (nI (k9))] (GW D (tyK cI cJ cZ cV cR) (kW cI cJ cZ cV cR a C) sz)) (va_Qv (fun u => u = C) (fun u => GB D (tyK cI cJ cZ cV cR) (va_A (kW cI cJ cZ cV cR a C) sz) (kW cI cJ cZ cV cR a u)) (va_A (kW cI cJ cZ cV cR a C) sz)) 0 0 (va_A (kW cI cJ cZ cV cR a C) sz) := by
  obtain ⟨hn, hfn, hsn, hvc, hrc, hpc, hnw, hkc, h_home, h_kin, h_alv, h_srs, h_row, h_sp, h_kis, h_pg⟩ := id hM
  refine Met.ofW (cc := cX5_checkKeep) (maxL := 1) (ret := none) (by decide) rfl ?_
  intro p e s m args below meth c s₁ B hml hv
  obtain ⟨rfl, hsz, hP, hK, hD0⟩ := hv
  have hx := B.exec
  have hb := B.bytes
  have hr := B.returns
  have hts := atoms_spec (ws := wsX5_checkKeep) B.pre
  have hown : s.vm.findClass RX5 = some m.cls := findClass_of_methodNamed B.named
  have hlocks := B.notSynchronized
  subst hsz
  have hD := hD0.self (sz := s.heap.size)
  generalize hAe : va_A (kW cI cJ cZ cV cR a C) s.heap.size = A at hD ⊢
  have hA : ∀ q : Nat, s.heap.size ≤ q → A q := fun q h => by rw [← hAe]; exact Or.inr h
  have hS : va_S A s.heap s.heap [] := va_S.rf
  have hP : va_P D vwCl (kX cI cJ cZ cV cR a (k_ra C) (k_rb C) (k_vc C) (k_rc C) (k_pc C) (k_nw C) (k_n C) (k_fn C) (k_sn C) (k_kc C) (k_grp C) (k_key C) (k_srt C) (k_wt C) (k_home C) (k_drp C) (k_met C) (k_kin C) (k_alv C) (k_srs C) (k_row C) (k_sp C) (k_kis C) (k_pg C) (k_vq C) (k_rq C) (k_L C) (k_F C)) s.heap := hP
  have hD : va_D A (kX cI cJ cZ cV cR a (k_ra C) (k_rb C) (k_vc C) (k_rc C) (k_pc C) (k_nw C) (k_n C) (k_fn C) (k_sn C) (k_kc C) (k_grp C) (k_key C) (k_srt C) (k_wt C) (k_home C) (k_drp C) (k_met C) (k_kin C) (k_alv C) (k_srs C) (k_row C) (k_sp C) (k_kis C) (k_pg C) (k_vq C) (k_rq C) (k_L C) (k_F C)) := hD
  have hl := lv_entry ([.int (nI (k9))]) (n := 1) (Nat.le_of_ble_eq_true rfl)
  rw [lg_entry_eq]
  generalize (lg_sl ([.int (nI (k9))]) ++ List.replicate (1 - (lg_sl ([.int (nI (k9))])).length) Slot.unset).toArray = ls at hl ⊢
  have hl : lv_has ls 1 [(0, .int (nI (k9)))] := hl
  refine lv_iload_n hx hb dX5_checkKeep_0 rfl (lv_at hl 0 rfl) ?_
  refine lv_iconst (v := nI (1)) hx hb dX5_checkKeep_1 (by decide) ?_
  refine wn_icmp_lt (a := k9) (b := 1) (tgt := 12) hx hb (nI_z (by omega)) (nI_z (by omega)) dX5_checkKeep_2 (by decide) (fun c2_1 => ?_) (fun c2_1 => ?_)
  · exfalso; omega
  · refine lv_iload_n hx hb dX5_checkKeep_5 rfl (lv_at hl 0 rfl) ?_
    refine lv_sipush (v := nI (1000)) hx hb dX5_checkKeep_6 (by decide) ?_
    refine wn_icmp_le (a := k9) (b := 1000) (tgt := 23) hx hb (nI_z (by omega)) (nI_z (by omega)) dX5_checkKeep_9 (by decide) (fun c9_2 => ?_) (fun c9_2 => ?_)
    · have hPm : va_P D vwCl (kW cI cJ cZ cV cR a C) s.heap := by exact hP
      have hDm : va_D A (kW cI cJ cZ cV cR a C) := by exact hD
      exact W.vret hx hb hr (fun t ht hW => ⟨⟨C, rfl, rfl, gb_mk ht hW hPm hK hDm⟩, hS.F ht⟩) hS.2.2 dX5_checkKeep_23
    · exfalso; omega
def rm_X5_checkOpen : Room := { frames := 0, cells := 0, slots := 0, locals := 0 }
set_option maxHeartbeats 4000000 in
set_option maxRecDepth 100000 in
/-- the view is open -/
theorem c_X5_checkOpen (l : Launch) (D : va_G) (cI cJ cZ cV cR : ClassId) (a : Nat → Nat) (C : CT) (hM : kOk C) (q hs se c9 g9 st9 r9 : Nat) (hV : isV (k_L C) (k_F C) q hs se c9 g9 st9 r9) (hc9 : c9 ≤ 300) (hg9 : g9 ≤ 300) (hst9 : st9 ≤ 2) (hr9 : r9 ≤ 60) (ho9 : st9 = 0) (sz : Nat) : Met l yX5_checkOpen wsX5_checkOpen rm_X5_checkOpen (va_Pc [.ref (q)] (GW D (tyK cI cJ cZ cV cR) (kW cI cJ cZ cV cR a C) sz)) (va_Qv (fun u => u = C) (fun u => GB D (tyK cI cJ cZ cV cR) (va_A (kW cI cJ cZ cV cR a C) sz) (kW cI cJ cZ cV cR a u)) (va_A (kW cI cJ cZ cV cR a C) sz)) 0 0 (va_A (kW cI cJ cZ cV cR a C) sz) := by
  obtain ⟨hn, hfn, hsn, hvc, hrc, hpc, hnw, hkc, h_home, h_kin, h_alv, h_srs, h_row, h_sp, h_kis, h_pg⟩ := id hM
  refine Met.ofW (cc := cX5_checkOpen) (maxL := 1) (ret := none) (by decide) rfl ?_
  intro p e s m args below meth c s₁ B hml hv
  obtain ⟨rfl, hsz, hP, hK, hD0⟩ := hv
  have hx := B.exec
  have hb := B.bytes
  have hr := B.returns
  have hts := atoms_spec (ws := wsX5_checkOpen) B.pre
  have hown : s.vm.findClass RX5 = some m.cls := findClass_of_methodNamed B.named
  have hlocks := B.notSynchronized
  subst hsz
  have hD := hD0.self (sz := s.heap.size)
  generalize hAe : va_A (kW cI cJ cZ cV cR a C) s.heap.size = A at hD ⊢
  have hA : ∀ q : Nat, s.heap.size ≤ q → A q := fun q h => by rw [← hAe]; exact Or.inr h
  have hS : va_S A s.heap s.heap [] := va_S.rf
  have hP : va_P D vwCl (kX cI cJ cZ cV cR a (k_ra C) (k_rb C) (k_vc C) (k_rc C) (k_pc C) (k_nw C) (k_n C) (k_fn C) (k_sn C) (k_kc C) (k_grp C) (k_key C) (k_srt C) (k_wt C) (k_home C) (k_drp C) (k_met C) (k_kin C) (k_alv C) (k_srs C) (k_row C) (k_sp C) (k_kis C) (k_pg C) (k_vq C) (k_rq C) (k_L C) (k_F C)) s.heap := hP
  have hD : va_D A (kX cI cJ cZ cV cR a (k_ra C) (k_rb C) (k_vc C) (k_rc C) (k_pc C) (k_nw C) (k_n C) (k_fn C) (k_sn C) (k_kc C) (k_grp C) (k_key C) (k_srt C) (k_wt C) (k_home C) (k_drp C) (k_met C) (k_kin C) (k_alv C) (k_srs C) (k_row C) (k_sp C) (k_kis C) (k_pg C) (k_vq C) (k_rq C) (k_L C) (k_F C)) := hD
  have hiX4 : ∀ w ∈ wsX40, w ∈ wsX5_checkOpen := by decide +kernel
  have hf0 := hts (.fieldLink RX5 157 "GroupCursors$View" "state" "I") (by decide +kernel)
  have hl := lv_entry ([.ref (q)]) (n := 1) (Nat.le_of_ble_eq_true rfl)
  rw [lg_entry_eq]
  generalize (lg_sl ([.ref (q)]) ++ List.replicate (1 - (lg_sl ([.ref (q)])).length) Slot.unset).toArray = ls at hl ⊢
  have hl : lv_has ls 1 [(0, .ref (q))] := hl
  refine lv_aload_n hx hb dX5_checkOpen_0 rfl (lv_at hl 0 rfl) ?_
  refine wp_get (ci := 4) (v := .int (nI (st9))) (C := RX4) (T := TX4) (N := 6) hx hb hts hiX4 hown hK hP hV.1 hV.2 rfl 4 (by decide) hf0 (fun _ h9 => h9) rfl dX5_checkOpen_1 ?_
  refine wn_if_eq (a := st9) (tgt := 18) hx hb (nI_z (by omega)) dX5_checkOpen_4 (by decide) (fun c4_1 => ?_) (fun c4_1 => ?_)
  · have hPm : va_P D vwCl (kW cI cJ cZ cV cR a C) s.heap := by exact hP
    have hDm : va_D A (kW cI cJ cZ cV cR a C) := by exact hD
    exact W.vret hx hb hr (fun t ht hW => ⟨⟨C, rfl, rfl, gb_mk ht hW hPm hK hDm⟩, hS.F ht⟩) hS.2.2 dX5_checkOpen_18
  · exfalso; omega
