def D_drop (cI cJ cZ cV cR : ClassId) (C : CT) (VT : Nat → VRec) (RT : Nat → RRec) (x : Int32) (ov : Nat → Int64) (rr : Int32) (u : (Nat → Int64) × CT) : Prop := ((bdX x (k_n C)) ∧ rr = nI 1 ∧ u.1 = ov ∧ (u.2 = C)) ∨ (∃ i, i < k_n C ∧ x = nI i ∧ (rr = nI 0 ∧ ∃ rr9, u.1 = va_up ov 0 (dvX rr9) ∧ (rr9 = bI (!k_drp C i) ∧ u.2 = dropC C i)))
def rm_L_drop : Room := { frames := 8, cells := 1, slots := 6, locals := 125 }
set_option maxHeartbeats 4000000 in
set_option maxRecDepth 100000 in
theorem w_L_drop (l : Launch) (htr : l.stackTraces = false) (D : va_G) (cI cJ cZ cV cR : ClassId) (a : Nat → Nat) (C : CT) (VT : Nat → VRec) (RT : Nat → RRec) (hCI : CI cI cZ C VT RT) (o : Nat) (ov : Nat → Int64) (x : Int32) (sz : Nat) : Met l yL_drop wsL_drop rm_L_drop (va_Pc [.ref (a 0), .int (x), .ref (o)] (GY D (tyK cI cJ cZ cV cR) (oW cJ o ov ++ (kW cI cJ cZ cV cR a C)) sz)) (va_Qi (fun rr u => D_drop cI cJ cZ cV cR C VT RT x ov rr u) (fun u => GB D (tyK cI cJ cZ cV cR) (va_A (oW cJ o ov ++ (kW cI cJ cZ cV cR a C)) sz) (oW cJ o u.1 ++ kW cI cJ cZ cV cR a u.2)) (va_A (oW cJ o ov ++ (kW cI cJ cZ cV cR a C)) sz)) 1 6 (va_A (oW cJ o ov ++ (kW cI cJ cZ cV cR a C)) sz) := by
  obtain ⟨hM, hPR, hAI, hal, hgr⟩ := id hCI
  refine met_ofWH (cc := cL_drop) (maxL := 4) (ret := (some .int)) (by decide) rfl ?_
  intro p e s m args below meth c s₁ B hml hv
  obtain ⟨rfl, ⟨hsz, hP, hK, hD0⟩, hYE⟩ := hv
  have hx := B.exec
  have hb := B.bytes
  have hr := B.returns
  have hts := atoms_spec (ws := wsL_drop) B.pre
  have hown : s.vm.findClass RL = some m.cls := findClass_of_methodNamed B.named
  have hlocks := B.notSynchronized
  have htab := vx_table (x := yL_drop) B (hts _ List.mem_cons_self)
  subst hsz
  have hD := hD0.self (sz := s.heap.size)
  generalize hAe : va_A (oW cJ o ov ++ (kW cI cJ cZ cV cR a C)) s.heap.size = A at hD hYE ⊢
  have hA : ∀ q : Nat, s.heap.size ≤ q → A q := fun q h => by rw [← hAe]; exact Or.inr h
  have hS : va_S A s.heap s.heap [] := va_S.rf
  have hf0 := hts (.classLink RL 13 "java/lang/IndexOutOfBoundsException") (by decide +kernel)
  have hl := lv_entry ([.ref (a 0), .int (x), .ref (o)]) (n := 4) (Nat.le_of_ble_eq_true rfl)
  rw [lg_entry_eq]
  generalize (lg_sl ([.ref (a 0), .int (x), .ref (o)]) ++ List.replicate (4 - (lg_sl ([.ref (a 0), .int (x), .ref (o)])).length) Slot.unset).toArray = ls at hl ⊢
  have hl : lv_has ls 4 [(0, .ref (a 0)), (1, .int (x)), (2, .ref (o))] := hl
  refine lv_aload_n hx hb dL_drop_0 rfl (lv_at hl 2 rfl) ?_
  refine lv_iconst (v := nI (0)) hx hb dL_drop_1 (by decide) ?_
  refine lv_aload_n hx hb dL_drop_2 rfl (lv_at hl 0 rfl) ?_
  refine lv_iload_n hx hb dL_drop_3 rfl (lv_at hl 1 rfl) ?_
  rcases Classical.em (bdX x (k_n C)) with hbad | hbad
  · refine wf_X (rest := [.int (nI (0)), .ref (o)]) (X := oW cJ o ov) (wf := kW cI cJ cZ cV cR a) ⟨hx, hb, hml, hown, hts⟩ (x_X5_drop l htr D cI cJ cZ cV cR a C hM x hbad s.heap.size) (cwV 1 hts gL_drop_X5_drop rfl rfl rfl (by decide +kernel) ⟨Nat.le_of_ble_eq_true rfl, Nat.le_of_ble_eq_true rfl⟩) hP hK hD hS hA hYE.1 0 rfl rfl rfl hl.1 rfl (Nat.le_of_ble_eq_true rfl) dL_drop_4 ⟨Nat.le_of_ble_eq_true rfl, Nat.le_of_ble_eq_true rfl⟩ (fun u hu H locs ce q9 hP hD hS hce hcv hcl => ?_)
    refine vx_catch (name := "java/lang/IndexOutOfBoundsException") hown [] ⟨0, 16, 19, 13⟩ [] (htab.trans rfl) (fun z hz => nomatch hz) (by decide) (by decide) hf0 (va_Nw.use rfl (hYE.1.2.2.2.1 "java/lang/IndexOutOfBoundsException" (by decide))) hce hcv hcl ?_
    refine W.widen (k := 1) (n := 6) (Nat.le_refl _) (Nat.le_refl _) ?_
    refine lv_astore_n (lv' := [(3, .ref (q9)), (0, .ref (a 0)), (1, .int (x)), (2, .ref (o))]) hx hb dL_drop_19 rfl hl (by decide) rfl (fun ls hl => ?_)
    refine lv_iconst (v := nI (1)) hx hb dL_drop_20 (by decide) ?_
    exact W.iret (v := nI (1)) hx hb hr (fun t ht hW => ⟨⟨_, (ov, u), rfl, (Or.inl ⟨hbad, ⟨rfl, rfl, hu⟩⟩), gb_mk ht hW hP hK hD⟩, hS.F ht⟩) hS.2.2 dL_drop_21
  · obtain ⟨i, hi, rfl⟩ := nI_ex hbad
    refine wf_VWi (rest := [.int (nI (0)), .ref (o)]) (X := oW cJ o ov) (wf := kW cI cJ cZ cV cR a) ⟨hx, hb, hml, hown, hts⟩ (c_X5_drop l D cI cJ cZ cV cR a C hM i hi (hal i hi) s.heap.size) (cwV 1 hts gL_drop_X5_drop rfl rfl rfl (by decide +kernel) ⟨Nat.le_of_ble_eq_true rfl, Nat.le_of_ble_eq_true rfl⟩) hP hK hD hS hA 0 rfl rfl rfl hl.1 rfl (Nat.le_of_ble_eq_true rfl) dL_drop_4 ⟨Nat.le_of_ble_eq_true rfl, Nat.le_of_ble_eq_true rfl⟩ (fun rr9 u hu H locs hP hD hS => ?_)
    refine W.widen (k := 0) (n := 0) (Nat.le_refl _) (Nat.le_refl _) ?_
    refine wz_if_eq (tgt := 14) hx hb ((rr9).toInt) rfl dL_drop_7 (by decide) (fun c7_1 => ?_) (fun c7_1 => ?_)
    · refine lv_lconst (v := 0) hx hb dL_drop_14 (by decide) ?_
      refine wa_lst (i := 0) hx hb hK hP hD hS 0 1 rfl rfl (by decide) (by decide) dL_drop_15 (fun H locs hP hD hS => ?_)
      have hP : va_P D vwCl (oW cJ o (va_up ov 0 (0)) ++ (kW cI cJ cZ cV cR a u)) H := hP
      have hD : va_D A (oW cJ o (va_up ov 0 (0)) ++ (kW cI cJ cZ cV cR a u)) := hD
      refine lv_goto (tgt := 22) hx hb dL_drop_16 (by decide) ?_
      refine lv_iconst (v := nI (0)) hx hb dL_drop_22 (by decide) ?_
      refine W.widen (k := 1) (n := 6) (Nat.le_of_ble_eq_true rfl) (Nat.le_of_ble_eq_true rfl) ?_
      exact W.iret (v := nI (0)) hx hb hr (fun t ht hW => ⟨⟨_, (va_up ov 0 (0), u), rfl, (Or.inr (⟨i, hi, rfl, ⟨rfl, rr9, (by rw [dvX, if_pos c7_1]), hu⟩⟩)), gb_mk ht hW hP hK hD⟩, hS.F ht⟩) hS.2.2 dL_drop_23
    · refine lv_lconst (v := 1) hx hb dL_drop_10 (by decide) ?_
      refine lv_goto (tgt := 15) hx hb dL_drop_11 (by decide) ?_
      refine wa_lst (i := 0) hx hb hK hP hD hS 0 1 rfl rfl (by decide) (by decide) dL_drop_15 (fun H locs hP hD hS => ?_)
      have hP : va_P D vwCl (oW cJ o (va_up ov 0 (1)) ++ (kW cI cJ cZ cV cR a u)) H := hP
      have hD : va_D A (oW cJ o (va_up ov 0 (1)) ++ (kW cI cJ cZ cV cR a u)) := hD
      refine lv_goto (tgt := 22) hx hb dL_drop_16 (by decide) ?_
      refine lv_iconst (v := nI (0)) hx hb dL_drop_22 (by decide) ?_
      refine W.widen (k := 1) (n := 6) (Nat.le_of_ble_eq_true rfl) (Nat.le_of_ble_eq_true rfl) ?_
      exact W.iret (v := nI (0)) hx hb hr (fun t ht hW => ⟨⟨_, (va_up ov 0 (1), u), rfl, (Or.inr (⟨i, hi, rfl, ⟨rfl, rr9, (by rw [dvX, if_neg c7_1]), hu⟩⟩)), gb_mk ht hW hP hK hD⟩, hS.F ht⟩) hS.2.2 dL_drop_23
def D_object (cI cJ cZ cV cR : ClassId) (C : CT) (VT : Nat → VRec) (RT : Nat → RRec) (x : Int32) (y : Int32) (ov : Nat → Int64) (rr : Int32) (u : (Nat → Int64) × CT) : Prop := ((bdX x (k_n C)) ∧ rr = nI 1 ∧ u.1 = ov ∧ (u.2 = C)) ∨ (∃ i, i < k_n C ∧ x = nI i ∧ (((bdX y (5)) ∧ rr = nI 1 ∧ u.1 = ov ∧ (u.2 = C)) ∨ (∃ w, w < 5 ∧ y = nI w ∧ (rr = nI 0 ∧ ∃ rr9, u.1 = va_up ov 0 (rr9) ∧ (rr9 = objC C i w ∧ u.2 = C)))))
def rm_L_object : Room := { frames := 8, cells := 1, slots := 6, locals := 125 }
set_option maxHeartbeats 4000000 in
set_option maxRecDepth 100000 in
theorem w_L_object (l : Launch) (htr : l.stackTraces = false) (D : va_G) (cI cJ cZ cV cR : ClassId) (a : Nat → Nat) (C : CT) (VT : Nat → VRec) (RT : Nat → RRec) (hCI : CI cI cZ C VT RT) (o : Nat) (ov : Nat → Int64) (x : Int32) (y : Int32) (sz : Nat) : Met l yL_object wsL_object rm_L_object (va_Pc [.ref (a 0), .int (x), .int (y), .ref (o)] (GY D (tyK cI cJ cZ cV cR) (oW cJ o ov ++ (kW cI cJ cZ cV cR a C)) sz)) (va_Qi (fun rr u => D_object cI cJ cZ cV cR C VT RT x y ov rr u) (fun u => GB D (tyK cI cJ cZ cV cR) (va_A (oW cJ o ov ++ (kW cI cJ cZ cV cR a C)) sz) (oW cJ o u.1 ++ kW cI cJ cZ cV cR a u.2)) (va_A (oW cJ o ov ++ (kW cI cJ cZ cV cR a C)) sz)) 1 6 (va_A (oW cJ o ov ++ (kW cI cJ cZ cV cR a C)) sz) := by
  obtain ⟨hM, hPR, hAI, hal, hgr⟩ := id hCI
  refine met_ofWH (cc := cL_object) (maxL := 5) (ret := (some .int)) (by decide) rfl ?_
  intro p e s m args below meth c s₁ B hml hv
  obtain ⟨rfl, ⟨hsz, hP, hK, hD0⟩, hYE⟩ := hv
  have hx := B.exec
  have hb := B.bytes
  have hr := B.returns
  have hts := atoms_spec (ws := wsL_object) B.pre
  have hown : s.vm.findClass RL = some m.cls := findClass_of_methodNamed B.named
  have hlocks := B.notSynchronized
  have htab := vx_table (x := yL_object) B (hts _ List.mem_cons_self)
  subst hsz
  have hD := hD0.self (sz := s.heap.size)
  generalize hAe : va_A (oW cJ o ov ++ (kW cI cJ cZ cV cR a C)) s.heap.size = A at hD hYE ⊢
  have hA : ∀ q : Nat, s.heap.size ≤ q → A q := fun q h => by rw [← hAe]; exact Or.inr h
  have hS : va_S A s.heap s.heap [] := va_S.rf
  have hf0 := hts (.classLink RL 13 "java/lang/IndexOutOfBoundsException") (by decide +kernel)
  have hl := lv_entry ([.ref (a 0), .int (x), .int (y), .ref (o)]) (n := 5) (Nat.le_of_ble_eq_true rfl)
  rw [lg_entry_eq]
  generalize (lg_sl ([.ref (a 0), .int (x), .int (y), .ref (o)]) ++ List.replicate (5 - (lg_sl ([.ref (a 0), .int (x), .int (y), .ref (o)])).length) Slot.unset).toArray = ls at hl ⊢
  have hl : lv_has ls 5 [(0, .ref (a 0)), (1, .int (x)), (2, .int (y)), (3, .ref (o))] := hl
  refine lv_aload_n hx hb dL_object_0 rfl (lv_at hl 3 rfl) ?_
  refine lv_iconst (v := nI (0)) hx hb dL_object_1 (by decide) ?_
  refine lv_aload_n hx hb dL_object_2 rfl (lv_at hl 0 rfl) ?_
  refine lv_iload_n hx hb dL_object_3 rfl (lv_at hl 1 rfl) ?_
  refine lv_iload_n hx hb dL_object_4 rfl (lv_at hl 2 rfl) ?_
  rcases Classical.em (bdX x (k_n C)) with hbad | hbad
  · refine wf_X (rest := [.int (nI (0)), .ref (o)]) (X := oW cJ o ov) (wf := kW cI cJ cZ cV cR a) ⟨hx, hb, hml, hown, hts⟩ (x_X5_object_o l htr D cI cJ cZ cV cR a C hM x y hbad s.heap.size) (cwV 2 hts gL_object_X5_object rfl rfl rfl (by decide +kernel) ⟨Nat.le_of_ble_eq_true rfl, Nat.le_of_ble_eq_true rfl⟩) hP hK hD hS hA hYE.1 0 rfl rfl rfl hl.1 rfl (Nat.le_of_ble_eq_true rfl) dL_object_5 ⟨Nat.le_of_ble_eq_true rfl, Nat.le_of_ble_eq_true rfl⟩ (fun u hu H locs ce q9 hP hD hS hce hcv hcl => ?_)
    refine vx_catch (name := "java/lang/IndexOutOfBoundsException") hown [] ⟨0, 9, 12, 13⟩ [] (htab.trans rfl) (fun z hz => nomatch hz) (by decide) (by decide) hf0 (va_Nw.use rfl (hYE.1.2.2.2.1 "java/lang/IndexOutOfBoundsException" (by decide))) hce hcv hcl ?_
    refine W.widen (k := 1) (n := 6) (Nat.le_refl _) (Nat.le_refl _) ?_
    refine lv_astore (lv' := [(4, .ref (q9)), (0, .ref (a 0)), (1, .int (x)), (2, .int (y)), (3, .ref (o))]) hx hb dL_object_12 hl (by decide) rfl (fun ls hl => ?_)
    refine lv_iconst (v := nI (1)) hx hb dL_object_14 (by decide) ?_
    exact W.iret (v := nI (1)) hx hb hr (fun t ht hW => ⟨⟨_, (ov, u), rfl, (Or.inl ⟨hbad, ⟨rfl, rfl, hu⟩⟩), gb_mk ht hW hP hK hD⟩, hS.F ht⟩) hS.2.2 dL_object_15
  · obtain ⟨i, hi, rfl⟩ := nI_ex hbad
    rcases Classical.em (bdX y (5)) with hbad | hbad
    · refine wf_X (rest := [.int (nI (0)), .ref (o)]) (X := oW cJ o ov) (wf := kW cI cJ cZ cV cR a) ⟨hx, hb, hml, hown, hts⟩ (x_X5_object_w l htr D cI cJ cZ cV cR a C hM i y hi hbad s.heap.size) (cwV 2 hts gL_object_X5_object rfl rfl rfl (by decide +kernel) ⟨Nat.le_of_ble_eq_true rfl, Nat.le_of_ble_eq_true rfl⟩) hP hK hD hS hA hYE.1 0 rfl rfl rfl hl.1 rfl (Nat.le_of_ble_eq_true rfl) dL_object_5 ⟨Nat.le_of_ble_eq_true rfl, Nat.le_of_ble_eq_true rfl⟩ (fun u hu H locs ce q9 hP hD hS hce hcv hcl => ?_)
      refine vx_catch (name := "java/lang/IndexOutOfBoundsException") hown [] ⟨0, 9, 12, 13⟩ [] (htab.trans rfl) (fun z hz => nomatch hz) (by decide) (by decide) hf0 (va_Nw.use rfl (hYE.1.2.2.2.1 "java/lang/IndexOutOfBoundsException" (by decide))) hce hcv hcl ?_
      refine W.widen (k := 1) (n := 6) (Nat.le_refl _) (Nat.le_refl _) ?_
      refine lv_astore (lv' := [(4, .ref (q9)), (0, .ref (a 0)), (1, .int (nI (i))), (2, .int (y)), (3, .ref (o))]) hx hb dL_object_12 hl (by decide) rfl (fun ls hl => ?_)
      refine lv_iconst (v := nI (1)) hx hb dL_object_14 (by decide) ?_
      exact W.iret (v := nI (1)) hx hb hr (fun t ht hW => ⟨⟨_, (ov, u), rfl, (Or.inr (⟨i, hi, rfl, (Or.inl ⟨hbad, ⟨rfl, rfl, hu⟩⟩)⟩)), gb_mk ht hW hP hK hD⟩, hS.F ht⟩) hS.2.2 dL_object_15
    · obtain ⟨w, hw, rfl⟩ := nI_ex hbad
      refine wf_VWl (rest := [.int (nI (0)), .ref (o)]) (X := oW cJ o ov) (wf := kW cI cJ cZ cV cR a) ⟨hx, hb, hml, hown, hts⟩ (c_X5_object l D cI cJ cZ cV cR a C hM i w hi hw s.heap.size) (cwV 2 hts gL_object_X5_object rfl rfl rfl (by decide +kernel) ⟨Nat.le_of_ble_eq_true rfl, Nat.le_of_ble_eq_true rfl⟩) hP hK hD hS hA 0 rfl rfl rfl hl.1 rfl (Nat.le_of_ble_eq_true rfl) dL_object_5 ⟨Nat.le_of_ble_eq_true rfl, Nat.le_of_ble_eq_true rfl⟩ (fun rr9 u hu H locs hP hD hS => ?_)
      refine W.widen (k := 0) (n := 0) (Nat.le_refl _) (Nat.le_refl _) ?_
      refine wa_lst (i := 0) hx hb hK hP hD hS 0 1 rfl rfl (by decide) (by decide) dL_object_8 (fun H locs hP hD hS => ?_)
      have hP : va_P D vwCl (oW cJ o (va_up ov 0 (rr9)) ++ (kW cI cJ cZ cV cR a u)) H := hP
      have hD : va_D A (oW cJ o (va_up ov 0 (rr9)) ++ (kW cI cJ cZ cV cR a u)) := hD
      refine lv_goto (tgt := 16) hx hb dL_object_9 (by decide) ?_
      refine lv_iconst (v := nI (0)) hx hb dL_object_16 (by decide) ?_
      refine W.widen (k := 1) (n := 6) (Nat.le_of_ble_eq_true rfl) (Nat.le_of_ble_eq_true rfl) ?_
      exact W.iret (v := nI (0)) hx hb hr (fun t ht hW => ⟨⟨_, (va_up ov 0 (rr9), u), rfl, (Or.inr (⟨i, hi, rfl, (Or.inr (⟨w, hw, rfl, ⟨rfl, rr9, rfl, hu⟩⟩))⟩)), gb_mk ht hW hP hK hD⟩, hS.F ht⟩) hS.2.2 dL_object_17
def D_segment (cI cJ cZ cV cR : ClassId) (C : CT) (VT : Nat → VRec) (RT : Nat → RRec) (x : Int32) (y : Int32) (ov : Nat → Int64) (rr : Int32) (u : (Nat → Int64) × CT) : Prop := ((bdX x (k_sn C)) ∧ rr = nI 1 ∧ u.1 = ov ∧ (u.2 = C)) ∨ (∃ i, i < k_sn C ∧ x = nI i ∧ (((bdX y (3)) ∧ rr = nI 1 ∧ u.1 = ov ∧ (u.2 = C)) ∨ (∃ w, w < 3 ∧ y = nI w ∧ (rr = nI 0 ∧ ∃ rr9, u.1 = va_up ov 0 ((rr9).toInt64) ∧ (rr9 = nI (segC C i w) ∧ u.2 = C)))))
def rm_L_segment : Room := { frames := 7, cells := 1, slots := 6, locals := 104 }
set_option maxHeartbeats 4000000 in
set_option maxRecDepth 100000 in
theorem w_L_segment (l : Launch) (htr : l.stackTraces = false) (D : va_G) (cI cJ cZ cV cR : ClassId) (a : Nat → Nat) (C : CT) (VT : Nat → VRec) (RT : Nat → RRec) (hCI : CI cI cZ C VT RT) (o : Nat) (ov : Nat → Int64) (x : Int32) (y : Int32) (sz : Nat) : Met l yL_segment wsL_segment rm_L_segment (va_Pc [.ref (a 0), .int (x), .int (y), .ref (o)] (GY D (tyK cI cJ cZ cV cR) (oW cJ o ov ++ (kW cI cJ cZ cV cR a C)) sz)) (va_Qi (fun rr u => D_segment cI cJ cZ cV cR C VT RT x y ov rr u) (fun u => GB D (tyK cI cJ cZ cV cR) (va_A (oW cJ o ov ++ (kW cI cJ cZ cV cR a C)) sz) (oW cJ o u.1 ++ kW cI cJ cZ cV cR a u.2)) (va_A (oW cJ o ov ++ (kW cI cJ cZ cV cR a C)) sz)) 1 6 (va_A (oW cJ o ov ++ (kW cI cJ cZ cV cR a C)) sz) := by
  obtain ⟨hM, hPR, hAI, hal, hgr⟩ := id hCI
  refine met_ofWH (cc := cL_segment) (maxL := 5) (ret := (some .int)) (by decide) rfl ?_
  intro p e s m args below meth c s₁ B hml hv
  obtain ⟨rfl, ⟨hsz, hP, hK, hD0⟩, hYE⟩ := hv
  have hx := B.exec
  have hb := B.bytes
  have hr := B.returns
  have hts := atoms_spec (ws := wsL_segment) B.pre
  have hown : s.vm.findClass RL = some m.cls := findClass_of_methodNamed B.named
  have hlocks := B.notSynchronized
  have htab := vx_table (x := yL_segment) B (hts _ List.mem_cons_self)
  subst hsz
  have hD := hD0.self (sz := s.heap.size)
  generalize hAe : va_A (oW cJ o ov ++ (kW cI cJ cZ cV cR a C)) s.heap.size = A at hD hYE ⊢
  have hA : ∀ q : Nat, s.heap.size ≤ q → A q := fun q h => by rw [← hAe]; exact Or.inr h
  have hS : va_S A s.heap s.heap [] := va_S.rf
  have hf0 := hts (.classLink RL 13 "java/lang/IndexOutOfBoundsException") (by decide +kernel)
  have hl := lv_entry ([.ref (a 0), .int (x), .int (y), .ref (o)]) (n := 5) (Nat.le_of_ble_eq_true rfl)
  rw [lg_entry_eq]
  generalize (lg_sl ([.ref (a 0), .int (x), .int (y), .ref (o)]) ++ List.replicate (5 - (lg_sl ([.ref (a 0), .int (x), .int (y), .ref (o)])).length) Slot.unset).toArray = ls at hl ⊢
  have hl : lv_has ls 5 [(0, .ref (a 0)), (1, .int (x)), (2, .int (y)), (3, .ref (o))] := hl
  refine lv_aload_n hx hb dL_segment_0 rfl (lv_at hl 3 rfl) ?_
  refine lv_iconst (v := nI (0)) hx hb dL_segment_1 (by decide) ?_
  refine lv_aload_n hx hb dL_segment_2 rfl (lv_at hl 0 rfl) ?_
  refine lv_iload_n hx hb dL_segment_3 rfl (lv_at hl 1 rfl) ?_
  refine lv_iload_n hx hb dL_segment_4 rfl (lv_at hl 2 rfl) ?_
  rcases Classical.em (bdX x (k_sn C)) with hbad | hbad
  · refine wf_X (rest := [.int (nI (0)), .ref (o)]) (X := oW cJ o ov) (wf := kW cI cJ cZ cV cR a) ⟨hx, hb, hml, hown, hts⟩ (x_X5_segment_s l htr D cI cJ cZ cV cR a C hM x y hbad s.heap.size) (cwV 2 hts gL_segment_X5_segment rfl rfl rfl (by decide +kernel) ⟨Nat.le_of_ble_eq_true rfl, Nat.le_of_ble_eq_true rfl⟩) hP hK hD hS hA hYE.1 0 rfl rfl rfl hl.1 rfl (Nat.le_of_ble_eq_true rfl) dL_segment_5 ⟨Nat.le_of_ble_eq_true rfl, Nat.le_of_ble_eq_true rfl⟩ (fun u hu H locs ce q9 hP hD hS hce hcv hcl => ?_)
    refine vx_catch (name := "java/lang/IndexOutOfBoundsException") hown [] ⟨0, 10, 13, 13⟩ [] (htab.trans rfl) (fun z hz => nomatch hz) (by decide) (by decide) hf0 (va_Nw.use rfl (hYE.1.2.2.2.1 "java/lang/IndexOutOfBoundsException" (by decide))) hce hcv hcl ?_
    refine W.widen (k := 1) (n := 6) (Nat.le_refl _) (Nat.le_refl _) ?_
    refine lv_astore (lv' := [(4, .ref (q9)), (0, .ref (a 0)), (1, .int (x)), (2, .int (y)), (3, .ref (o))]) hx hb dL_segment_13 hl (by decide) rfl (fun ls hl => ?_)
    refine lv_iconst (v := nI (1)) hx hb dL_segment_15 (by decide) ?_
    exact W.iret (v := nI (1)) hx hb hr (fun t ht hW => ⟨⟨_, (ov, u), rfl, (Or.inl ⟨hbad, ⟨rfl, rfl, hu⟩⟩), gb_mk ht hW hP hK hD⟩, hS.F ht⟩) hS.2.2 dL_segment_16
  · obtain ⟨i, hi, rfl⟩ := nI_ex hbad
    rcases Classical.em (bdX y (3)) with hbad | hbad
    · refine wf_X (rest := [.int (nI (0)), .ref (o)]) (X := oW cJ o ov) (wf := kW cI cJ cZ cV cR a) ⟨hx, hb, hml, hown, hts⟩ (x_X5_segment_w l htr D cI cJ cZ cV cR a C hM i y hi hbad s.heap.size) (cwV 2 hts gL_segment_X5_segment rfl rfl rfl (by decide +kernel) ⟨Nat.le_of_ble_eq_true rfl, Nat.le_of_ble_eq_true rfl⟩) hP hK hD hS hA hYE.1 0 rfl rfl rfl hl.1 rfl (Nat.le_of_ble_eq_true rfl) dL_segment_5 ⟨Nat.le_of_ble_eq_true rfl, Nat.le_of_ble_eq_true rfl⟩ (fun u hu H locs ce q9 hP hD hS hce hcv hcl => ?_)
      refine vx_catch (name := "java/lang/IndexOutOfBoundsException") hown [] ⟨0, 10, 13, 13⟩ [] (htab.trans rfl) (fun z hz => nomatch hz) (by decide) (by decide) hf0 (va_Nw.use rfl (hYE.1.2.2.2.1 "java/lang/IndexOutOfBoundsException" (by decide))) hce hcv hcl ?_
      refine W.widen (k := 1) (n := 6) (Nat.le_refl _) (Nat.le_refl _) ?_
      refine lv_astore (lv' := [(4, .ref (q9)), (0, .ref (a 0)), (1, .int (nI (i))), (2, .int (y)), (3, .ref (o))]) hx hb dL_segment_13 hl (by decide) rfl (fun ls hl => ?_)
      refine lv_iconst (v := nI (1)) hx hb dL_segment_15 (by decide) ?_
      exact W.iret (v := nI (1)) hx hb hr (fun t ht hW => ⟨⟨_, (ov, u), rfl, (Or.inr (⟨i, hi, rfl, (Or.inl ⟨hbad, ⟨rfl, rfl, hu⟩⟩)⟩)), gb_mk ht hW hP hK hD⟩, hS.F ht⟩) hS.2.2 dL_segment_16
    · obtain ⟨w, hw, rfl⟩ := nI_ex hbad
      refine wf_VWi (rest := [.int (nI (0)), .ref (o)]) (X := oW cJ o ov) (wf := kW cI cJ cZ cV cR a) ⟨hx, hb, hml, hown, hts⟩ (c_X5_segment l D cI cJ cZ cV cR a C hM i w hi hw s.heap.size) (cwV 2 hts gL_segment_X5_segment rfl rfl rfl (by decide +kernel) ⟨Nat.le_of_ble_eq_true rfl, Nat.le_of_ble_eq_true rfl⟩) hP hK hD hS hA 0 rfl rfl rfl hl.1 rfl (Nat.le_of_ble_eq_true rfl) dL_segment_5 ⟨Nat.le_of_ble_eq_true rfl, Nat.le_of_ble_eq_true rfl⟩ (fun rr9 u hu H locs hP hD hS => ?_)
      refine W.widen (k := 0) (n := 0) (Nat.le_refl _) (Nat.le_refl _) ?_
      refine lv_i2l (v := (rr9).toInt64) hx hb dL_segment_8 rfl ?_
      refine wa_lst (i := 0) hx hb hK hP hD hS 0 1 rfl rfl (by decide) (by decide) dL_segment_9 (fun H locs hP hD hS => ?_)
      have hP : va_P D vwCl (oW cJ o (va_up ov 0 ((rr9).toInt64)) ++ (kW cI cJ cZ cV cR a u)) H := hP
      have hD : va_D A (oW cJ o (va_up ov 0 ((rr9).toInt64)) ++ (kW cI cJ cZ cV cR a u)) := hD
      refine lv_goto (tgt := 17) hx hb dL_segment_10 (by decide) ?_
      refine lv_iconst (v := nI (0)) hx hb dL_segment_17 (by decide) ?_
      refine W.widen (k := 1) (n := 6) (Nat.le_of_ble_eq_true rfl) (Nat.le_of_ble_eq_true rfl) ?_
      exact W.iret (v := nI (0)) hx hb hr (fun t ht hW => ⟨⟨_, (va_up ov 0 ((rr9).toInt64), u), rfl, (Or.inr (⟨i, hi, rfl, (Or.inr (⟨w, hw, rfl, ⟨rfl, rr9, rfl, hu⟩⟩))⟩)), gb_mk ht hW hP hK hD⟩, hS.F ht⟩) hS.2.2 dL_segment_18
def D_letGo (cI cJ cZ cV cR : ClassId) (C : CT) (VT : Nat → VRec) (RT : Nat → RRec) (x : Int32) (ov : Nat → Int64) (rr : Int32) (u : (Nat → Int64) × CT) : Prop := ((bdX x (k_vc C)) ∧ rr = nI 1 ∧ u.1 = ov ∧ (u.2 = C)) ∨ (∃ i, i < k_vc C ∧ x = nI i ∧ ((((VT i).st ≠ 0) ∧ rr = nI 2 ∧ u.1 = ov ∧ (u.2 = C)) ∨ (¬ ((VT i).st ≠ 0) ∧ (rr = nI 0 ∧ ∃ rr9, u.1 = va_up ov 0 ((rr9).toInt64) ∧ (rr9 = nI (eiR (lgoM C (VT i).q (VT i).hs (VT i).se (VT i).c (VT i).g (VT i).r) 1 (VT i).r (VT i).sn (VT i).sf) ∧ u.2 = eiM (lgoM C (VT i).q (VT i).hs (VT i).se (VT i).c (VT i).g (VT i).r) (VT i).q (VT i).hs (VT i).se (VT i).c (VT i).g 1 (VT i).r (VT i).sn (VT i).sf)))))
def rm_L_letGo : Room := { frames := 8, cells := 1, slots := 6, locals := 126 }
set_option maxHeartbeats 4000000 in
set_option maxRecDepth 100000 in
theorem w_L_letGo (l : Launch) (htr : l.stackTraces = false) (D : va_G) (cI cJ cZ cV cR : ClassId) (a : Nat → Nat) (C : CT) (VT : Nat → VRec) (RT : Nat → RRec) (hCI : CI cI cZ C VT RT) (o : Nat) (ov : Nat → Int64) (x : Int32) (sz : Nat) : Met l yL_letGo wsL_letGo rm_L_letGo (va_Pc [.ref (a 0), .int (x), .ref (o)] (GY D (tyK cI cJ cZ cV cR) (oW cJ o ov ++ (kW cI cJ cZ cV cR a C)) sz)) (va_Qi (fun rr u => D_letGo cI cJ cZ cV cR C VT RT x ov rr u) (fun u => GB D (tyK cI cJ cZ cV cR) (va_A (oW cJ o ov ++ (kW cI cJ cZ cV cR a C)) sz) (oW cJ o u.1 ++ kW cI cJ cZ cV cR a u.2)) (va_A (oW cJ o ov ++ (kW cI cJ cZ cV cR a C)) sz)) 1 6 (va_A (oW cJ o ov ++ (kW cI cJ cZ cV cR a C)) sz) := by
  obtain ⟨hM, hPR, hAI, hal, hgr⟩ := id hCI
  refine met_ofWH (cc := cL_letGo) (maxL := 4) (ret := (some .int)) (by decide) rfl ?_
  intro p e s m args below meth c s₁ B hml hv
  obtain ⟨rfl, ⟨hsz, hP, hK, hD0⟩, hYE⟩ := hv
  have hx := B.exec
  have hb := B.bytes
  have hr := B.returns
  have hts := atoms_spec (ws := wsL_letGo) B.pre
  have hown : s.vm.findClass RL = some m.cls := findClass_of_methodNamed B.named
  have hlocks := B.notSynchronized
  have htab := vx_table (x := yL_letGo) B (hts _ List.mem_cons_self)
  subst hsz
  have hD := hD0.self (sz := s.heap.size)
  generalize hAe : va_A (oW cJ o ov ++ (kW cI cJ cZ cV cR a C)) s.heap.size = A at hD hYE ⊢
  have hA : ∀ q : Nat, s.heap.size ≤ q → A q := fun q h => by rw [← hAe]; exact Or.inr h
  have hS : va_S A s.heap s.heap [] := va_S.rf
  have hf0 := hts (.classLink RL 13 "java/lang/IndexOutOfBoundsException") (by decide +kernel)
  have hf1 := hts (.classLink RL 27 "java/lang/IllegalStateException") (by decide +kernel)
  have hl := lv_entry ([.ref (a 0), .int (x), .ref (o)]) (n := 4) (Nat.le_of_ble_eq_true rfl)
  rw [lg_entry_eq]
  generalize (lg_sl ([.ref (a 0), .int (x), .ref (o)]) ++ List.replicate (4 - (lg_sl ([.ref (a 0), .int (x), .ref (o)])).length) Slot.unset).toArray = ls at hl ⊢
  have hl : lv_has ls 4 [(0, .ref (a 0)), (1, .int (x)), (2, .ref (o))] := hl
  refine lv_aload_n hx hb dL_letGo_0 rfl (lv_at hl 2 rfl) ?_
  refine lv_iconst (v := nI (0)) hx hb dL_letGo_1 (by decide) ?_
  refine lv_aload_n hx hb dL_letGo_2 rfl (lv_at hl 0 rfl) ?_
  refine lv_iload_n hx hb dL_letGo_3 rfl (lv_at hl 1 rfl) ?_
  rcases Classical.em (bdX x (k_vc C)) with hbad | hbad
  · refine wf_X (rest := [.int (nI (0)), .ref (o)]) (X := oW cJ o ov) (wf := kW cI cJ cZ cV cR a) ⟨hx, hb, hml, hown, hts⟩ (x_X5_letGo_v l htr D cI cJ cZ cV cR a C hM x hbad s.heap.size) (cwV 1 hts gL_letGo_X5_letGo rfl rfl rfl (by decide +kernel) ⟨Nat.le_of_ble_eq_true rfl, Nat.le_of_ble_eq_true rfl⟩) hP hK hD hS hA hYE.1 0 rfl rfl rfl hl.1 rfl (Nat.le_of_ble_eq_true rfl) dL_letGo_4 ⟨Nat.le_of_ble_eq_true rfl, Nat.le_of_ble_eq_true rfl⟩ (fun u hu H locs ce q9 hP hD hS hce hcv hcl => ?_)
    refine vx_catch (name := "java/lang/IndexOutOfBoundsException") hown [] ⟨0, 9, 12, 13⟩ [⟨0, 9, 15, 27⟩] (htab.trans rfl) (fun z hz => nomatch hz) (by decide) (by decide) hf0 (va_Nw.use rfl (hYE.1.2.2.2.1 "java/lang/IndexOutOfBoundsException" (by decide))) hce hcv hcl ?_
    refine W.widen (k := 1) (n := 6) (Nat.le_refl _) (Nat.le_refl _) ?_
    refine lv_astore_n (lv' := [(3, .ref (q9)), (0, .ref (a 0)), (1, .int (x)), (2, .ref (o))]) hx hb dL_letGo_12 rfl hl (by decide) rfl (fun ls hl => ?_)
    refine lv_iconst (v := nI (1)) hx hb dL_letGo_13 (by decide) ?_
    exact W.iret (v := nI (1)) hx hb hr (fun t ht hW => ⟨⟨_, (ov, u), rfl, (Or.inl ⟨hbad, ⟨rfl, rfl, hu⟩⟩), gb_mk ht hW hP hK hD⟩, hS.F ht⟩) hS.2.2 dL_letGo_14
  · obtain ⟨i, hi, rfl⟩ := nI_ex hbad
    obtain ⟨hq9, hV, hI, hZ, hb1, hb2, hb3, hb4, hb5, hb6, hb7⟩ := hPR.1 i hi
    rcases Classical.em ((VT i).st ≠ 0) with hbad | hbad
    · refine wf_X (rest := [.int (nI (0)), .ref (o)]) (X := oW cJ o ov) (wf := kW cI cJ cZ cV cR a) ⟨hx, hb, hml, hown, hts⟩ (x_X5_letGo_o l htr D cI cJ cZ cV cR a C hM (VT i).q (VT i).hs (VT i).se (VT i).c (VT i).g (VT i).st (VT i).r (VT i).sn (VT i).sf hV (Nat.le_trans hb1 hb2) hb3 hb4 hb5 hZ hb7 (AI.pos hAI hi) i hi hq9 hbad s.heap.size) (cwV 1 hts gL_letGo_X5_letGo rfl rfl rfl (by decide +kernel) ⟨Nat.le_of_ble_eq_true rfl, Nat.le_of_ble_eq_true rfl⟩) hP hK hD hS hA hYE.1 0 rfl rfl rfl hl.1 rfl (Nat.le_of_ble_eq_true rfl) dL_letGo_4 ⟨Nat.le_of_ble_eq_true rfl, Nat.le_of_ble_eq_true rfl⟩ (fun u hu H locs ce q9 hP hD hS hce hcv hcl => ?_)
      refine vx_catch (name := "java/lang/IllegalStateException") hown [⟨0, 9, 12, 13⟩] ⟨0, 9, 15, 27⟩ [] (htab.trans rfl) (fun z hz => by simp only [List.mem_cons, List.not_mem_nil, or_false] at hz; rcases hz with rfl <;> first | exact Or.inr ⟨by decide, "java/lang/IndexOutOfBoundsException", hf0, hYE.2.2 ("java/lang/IllegalStateException", "java/lang/IndexOutOfBoundsException") (by decide)⟩) (by decide) (by decide) hf1 (va_Nw.use rfl (hYE.1.2.2.2.1 "java/lang/IllegalStateException" (by decide))) hce hcv hcl ?_
      refine W.widen (k := 1) (n := 6) (Nat.le_refl _) (Nat.le_refl _) ?_
      refine lv_astore_n (lv' := [(3, .ref (q9)), (0, .ref (a 0)), (1, .int (nI (i))), (2, .ref (o))]) hx hb dL_letGo_15 rfl hl (by decide) rfl (fun ls hl => ?_)
      refine lv_iconst (v := nI (2)) hx hb dL_letGo_16 (by decide) ?_
      exact W.iret (v := nI (2)) hx hb hr (fun t ht hW => ⟨⟨_, (ov, u), rfl, (Or.inr (⟨i, hi, rfl, (Or.inl ⟨hbad, ⟨rfl, rfl, hu⟩⟩)⟩)), gb_mk ht hW hP hK hD⟩, hS.F ht⟩) hS.2.2 dL_letGo_17
    · refine wf_VWi (rest := [.int (nI (0)), .ref (o)]) (X := oW cJ o ov) (wf := kW cI cJ cZ cV cR a) ⟨hx, hb, hml, hown, hts⟩ (c_X5_letGo l D cI cJ cZ cV cR a C hM (VT i).q (VT i).hs (VT i).se (VT i).c (VT i).g (VT i).st (VT i).r (VT i).sn (VT i).sf hV (Nat.le_trans hb1 hb2) hb3 hb4 hb5 hZ hb7 (AI.pos hAI hi) i hi hq9 (Decidable.not_not.mp hbad) s.heap.size) (cwV 1 hts gL_letGo_X5_letGo rfl rfl rfl (by decide +kernel) ⟨Nat.le_of_ble_eq_true rfl, Nat.le_of_ble_eq_true rfl⟩) hP hK hD hS hA 0 rfl rfl rfl hl.1 rfl (Nat.le_of_ble_eq_true rfl) dL_letGo_4 ⟨Nat.le_of_ble_eq_true rfl, Nat.le_of_ble_eq_true rfl⟩ (fun rr9 u hu H locs hP hD hS => ?_)
      refine W.widen (k := 0) (n := 0) (Nat.le_refl _) (Nat.le_refl _) ?_
      refine lv_i2l (v := (rr9).toInt64) hx hb dL_letGo_7 rfl ?_
      refine wa_lst (i := 0) hx hb hK hP hD hS 0 1 rfl rfl (by decide) (by decide) dL_letGo_8 (fun H locs hP hD hS => ?_)
      have hP : va_P D vwCl (oW cJ o (va_up ov 0 ((rr9).toInt64)) ++ (kW cI cJ cZ cV cR a u)) H := hP
      have hD : va_D A (oW cJ o (va_up ov 0 ((rr9).toInt64)) ++ (kW cI cJ cZ cV cR a u)) := hD
      refine lv_goto (tgt := 18) hx hb dL_letGo_9 (by decide) ?_
      refine lv_iconst (v := nI (0)) hx hb dL_letGo_18 (by decide) ?_
      refine W.widen (k := 1) (n := 6) (Nat.le_of_ble_eq_true rfl) (Nat.le_of_ble_eq_true rfl) ?_
      exact W.iret (v := nI (0)) hx hb hr (fun t ht hW => ⟨⟨_, (va_up ov 0 ((rr9).toInt64), u), rfl, (Or.inr (⟨i, hi, rfl, (Or.inr ⟨hbad, ⟨rfl, rr9, rfl, hu⟩⟩)⟩)), gb_mk ht hW hP hK hD⟩, hS.F ht⟩) hS.2.2 dL_letGo_19
def D_state (cI cJ cZ cV cR : ClassId) (C : CT) (VT : Nat → VRec) (RT : Nat → RRec) (x : Int32) (ov : Nat → Int64) (rr : Int32) (u : (Nat → Int64) × CT) : Prop := ((bdX x (k_vc C)) ∧ rr = nI 1 ∧ u.1 = ov ∧ (u.2 = C)) ∨ (∃ i, i < k_vc C ∧ x = nI i ∧ (rr = nI 0 ∧ ∃ rr9, u.1 = va_up ov 0 ((rr9).toInt64) ∧ (rr9 = nI (VT i).st ∧ u.2 = C)))
def rm_L_state : Room := { frames := 8, cells := 1, slots := 6, locals := 125 }
set_option maxHeartbeats 4000000 in
set_option maxRecDepth 100000 in
theorem w_L_state (l : Launch) (htr : l.stackTraces = false) (D : va_G) (cI cJ cZ cV cR : ClassId) (a : Nat → Nat) (C : CT) (VT : Nat → VRec) (RT : Nat → RRec) (hCI : CI cI cZ C VT RT) (o : Nat) (ov : Nat → Int64) (x : Int32) (sz : Nat) : Met l yL_state wsL_state rm_L_state (va_Pc [.ref (a 0), .int (x), .ref (o)] (GY D (tyK cI cJ cZ cV cR) (oW cJ o ov ++ (kW cI cJ cZ cV cR a C)) sz)) (va_Qi (fun rr u => D_state cI cJ cZ cV cR C VT RT x ov rr u) (fun u => GB D (tyK cI cJ cZ cV cR) (va_A (oW cJ o ov ++ (kW cI cJ cZ cV cR a C)) sz) (oW cJ o u.1 ++ kW cI cJ cZ cV cR a u.2)) (va_A (oW cJ o ov ++ (kW cI cJ cZ cV cR a C)) sz)) 1 6 (va_A (oW cJ o ov ++ (kW cI cJ cZ cV cR a C)) sz) := by
  obtain ⟨hM, hPR, hAI, hal, hgr⟩ := id hCI
  refine met_ofWH (cc := cL_state) (maxL := 4) (ret := (some .int)) (by decide) rfl ?_
  intro p e s m args below meth c s₁ B hml hv
  obtain ⟨rfl, ⟨hsz, hP, hK, hD0⟩, hYE⟩ := hv
  have hx := B.exec
  have hb := B.bytes
  have hr := B.returns
  have hts := atoms_spec (ws := wsL_state) B.pre
  have hown : s.vm.findClass RL = some m.cls := findClass_of_methodNamed B.named
  have hlocks := B.notSynchronized
  have htab := vx_table (x := yL_state) B (hts _ List.mem_cons_self)
  subst hsz
  have hD := hD0.self (sz := s.heap.size)
  generalize hAe : va_A (oW cJ o ov ++ (kW cI cJ cZ cV cR a C)) s.heap.size = A at hD hYE ⊢
  have hA : ∀ q : Nat, s.heap.size ≤ q → A q := fun q h => by rw [← hAe]; exact Or.inr h
  have hS : va_S A s.heap s.heap [] := va_S.rf
  have hf0 := hts (.classLink RL 13 "java/lang/IndexOutOfBoundsException") (by decide +kernel)
  have hl := lv_entry ([.ref (a 0), .int (x), .ref (o)]) (n := 4) (Nat.le_of_ble_eq_true rfl)
  rw [lg_entry_eq]
  generalize (lg_sl ([.ref (a 0), .int (x), .ref (o)]) ++ List.replicate (4 - (lg_sl ([.ref (a 0), .int (x), .ref (o)])).length) Slot.unset).toArray = ls at hl ⊢
  have hl : lv_has ls 4 [(0, .ref (a 0)), (1, .int (x)), (2, .ref (o))] := hl
  refine lv_aload_n hx hb dL_state_0 rfl (lv_at hl 2 rfl) ?_
  refine lv_iconst (v := nI (0)) hx hb dL_state_1 (by decide) ?_
  refine lv_aload_n hx hb dL_state_2 rfl (lv_at hl 0 rfl) ?_
  refine lv_iload_n hx hb dL_state_3 rfl (lv_at hl 1 rfl) ?_
  rcases Classical.em (bdX x (k_vc C)) with hbad | hbad
  · refine wf_X (rest := [.int (nI (0)), .ref (o)]) (X := oW cJ o ov) (wf := kW cI cJ cZ cV cR a) ⟨hx, hb, hml, hown, hts⟩ (x_X5_state l htr D cI cJ cZ cV cR a C hM x hbad s.heap.size) (cwV 1 hts gL_state_X5_state rfl rfl rfl (by decide +kernel) ⟨Nat.le_of_ble_eq_true rfl, Nat.le_of_ble_eq_true rfl⟩) hP hK hD hS hA hYE.1 0 rfl rfl rfl hl.1 rfl (Nat.le_of_ble_eq_true rfl) dL_state_4 ⟨Nat.le_of_ble_eq_true rfl, Nat.le_of_ble_eq_true rfl⟩ (fun u hu H locs ce q9 hP hD hS hce hcv hcl => ?_)
    refine vx_catch (name := "java/lang/IndexOutOfBoundsException") hown [] ⟨0, 9, 12, 13⟩ [] (htab.trans rfl) (fun z hz => nomatch hz) (by decide) (by decide) hf0 (va_Nw.use rfl (hYE.1.2.2.2.1 "java/lang/IndexOutOfBoundsException" (by decide))) hce hcv hcl ?_
    refine W.widen (k := 1) (n := 6) (Nat.le_refl _) (Nat.le_refl _) ?_
    refine lv_astore_n (lv' := [(3, .ref (q9)), (0, .ref (a 0)), (1, .int (x)), (2, .ref (o))]) hx hb dL_state_12 rfl hl (by decide) rfl (fun ls hl => ?_)
    refine lv_iconst (v := nI (1)) hx hb dL_state_13 (by decide) ?_
    exact W.iret (v := nI (1)) hx hb hr (fun t ht hW => ⟨⟨_, (ov, u), rfl, (Or.inl ⟨hbad, ⟨rfl, rfl, hu⟩⟩), gb_mk ht hW hP hK hD⟩, hS.F ht⟩) hS.2.2 dL_state_14
  · obtain ⟨i, hi, rfl⟩ := nI_ex hbad
    obtain ⟨hq9, hV, hI, hZ, hb1, hb2, hb3, hb4, hb5, hb6, hb7⟩ := hPR.1 i hi
    refine wf_VWi (rest := [.int (nI (0)), .ref (o)]) (X := oW cJ o ov) (wf := kW cI cJ cZ cV cR a) ⟨hx, hb, hml, hown, hts⟩ (c_X5_state l D cI cJ cZ cV cR a C hM (VT i).q (VT i).hs (VT i).se (VT i).c (VT i).g (VT i).st (VT i).r (VT i).n (VT i).f hV hI hb1 hb2 hb3 hb4 hb5 hb6 i hi hq9 s.heap.size) (cwV 1 hts gL_state_X5_state rfl rfl rfl (by decide +kernel) ⟨Nat.le_of_ble_eq_true rfl, Nat.le_of_ble_eq_true rfl⟩) hP hK hD hS hA 0 rfl rfl rfl hl.1 rfl (Nat.le_of_ble_eq_true rfl) dL_state_4 ⟨Nat.le_of_ble_eq_true rfl, Nat.le_of_ble_eq_true rfl⟩ (fun rr9 u hu H locs hP hD hS => ?_)
    refine W.widen (k := 0) (n := 0) (Nat.le_refl _) (Nat.le_refl _) ?_
    refine lv_i2l (v := (rr9).toInt64) hx hb dL_state_7 rfl ?_
    refine wa_lst (i := 0) hx hb hK hP hD hS 0 1 rfl rfl (by decide) (by decide) dL_state_8 (fun H locs hP hD hS => ?_)
    have hP : va_P D vwCl (oW cJ o (va_up ov 0 ((rr9).toInt64)) ++ (kW cI cJ cZ cV cR a u)) H := hP
    have hD : va_D A (oW cJ o (va_up ov 0 ((rr9).toInt64)) ++ (kW cI cJ cZ cV cR a u)) := hD
    refine lv_goto (tgt := 15) hx hb dL_state_9 (by decide) ?_
    refine lv_iconst (v := nI (0)) hx hb dL_state_15 (by decide) ?_
    refine W.widen (k := 1) (n := 6) (Nat.le_of_ble_eq_true rfl) (Nat.le_of_ble_eq_true rfl) ?_
    exact W.iret (v := nI (0)) hx hb hr (fun t ht hW => ⟨⟨_, (va_up ov 0 ((rr9).toInt64), u), rfl, (Or.inr (⟨i, hi, rfl, ⟨rfl, rr9, rfl, hu⟩⟩)), gb_mk ht hW hP hK hD⟩, hS.F ht⟩) hS.2.2 dL_state_16
def D_size (cI cJ cZ cV cR : ClassId) (C : CT) (VT : Nat → VRec) (RT : Nat → RRec) (x : Int32) (ov : Nat → Int64) (rr : Int32) (u : (Nat → Int64) × CT) : Prop := ((bdX x (k_vc C)) ∧ rr = nI 1 ∧ u.1 = ov ∧ (u.2 = C)) ∨ (∃ i, i < k_vc C ∧ x = nI i ∧ (rr = nI 0 ∧ ∃ rr9, u.1 = va_up ov 0 ((rr9).toInt64) ∧ (rr9 = nI (VT i).c ∧ u.2 = C)))
def rm_L_size : Room := { frames := 8, cells := 1, slots := 6, locals := 125 }
set_option maxHeartbeats 4000000 in
set_option maxRecDepth 100000 in
theorem w_L_size (l : Launch) (htr : l.stackTraces = false) (D : va_G) (cI cJ cZ cV cR : ClassId) (a : Nat → Nat) (C : CT) (VT : Nat → VRec) (RT : Nat → RRec) (hCI : CI cI cZ C VT RT) (o : Nat) (ov : Nat → Int64) (x : Int32) (sz : Nat) : Met l yL_size wsL_size rm_L_size (va_Pc [.ref (a 0), .int (x), .ref (o)] (GY D (tyK cI cJ cZ cV cR) (oW cJ o ov ++ (kW cI cJ cZ cV cR a C)) sz)) (va_Qi (fun rr u => D_size cI cJ cZ cV cR C VT RT x ov rr u) (fun u => GB D (tyK cI cJ cZ cV cR) (va_A (oW cJ o ov ++ (kW cI cJ cZ cV cR a C)) sz) (oW cJ o u.1 ++ kW cI cJ cZ cV cR a u.2)) (va_A (oW cJ o ov ++ (kW cI cJ cZ cV cR a C)) sz)) 1 6 (va_A (oW cJ o ov ++ (kW cI cJ cZ cV cR a C)) sz) := by
  obtain ⟨hM, hPR, hAI, hal, hgr⟩ := id hCI
  refine met_ofWH (cc := cL_size) (maxL := 4) (ret := (some .int)) (by decide) rfl ?_
  intro p e s m args below meth c s₁ B hml hv
  obtain ⟨rfl, ⟨hsz, hP, hK, hD0⟩, hYE⟩ := hv
  have hx := B.exec
  have hb := B.bytes
  have hr := B.returns
  have hts := atoms_spec (ws := wsL_size) B.pre
  have hown : s.vm.findClass RL = some m.cls := findClass_of_methodNamed B.named
  have hlocks := B.notSynchronized
  have htab := vx_table (x := yL_size) B (hts _ List.mem_cons_self)
  subst hsz
  have hD := hD0.self (sz := s.heap.size)
  generalize hAe : va_A (oW cJ o ov ++ (kW cI cJ cZ cV cR a C)) s.heap.size = A at hD hYE ⊢
  have hA : ∀ q : Nat, s.heap.size ≤ q → A q := fun q h => by rw [← hAe]; exact Or.inr h
  have hS : va_S A s.heap s.heap [] := va_S.rf
  have hf0 := hts (.classLink RL 13 "java/lang/IndexOutOfBoundsException") (by decide +kernel)
  have hl := lv_entry ([.ref (a 0), .int (x), .ref (o)]) (n := 4) (Nat.le_of_ble_eq_true rfl)
  rw [lg_entry_eq]
  generalize (lg_sl ([.ref (a 0), .int (x), .ref (o)]) ++ List.replicate (4 - (lg_sl ([.ref (a 0), .int (x), .ref (o)])).length) Slot.unset).toArray = ls at hl ⊢
  have hl : lv_has ls 4 [(0, .ref (a 0)), (1, .int (x)), (2, .ref (o))] := hl
  refine lv_aload_n hx hb dL_size_0 rfl (lv_at hl 2 rfl) ?_
  refine lv_iconst (v := nI (0)) hx hb dL_size_1 (by decide) ?_
  refine lv_aload_n hx hb dL_size_2 rfl (lv_at hl 0 rfl) ?_
  refine lv_iload_n hx hb dL_size_3 rfl (lv_at hl 1 rfl) ?_
  rcases Classical.em (bdX x (k_vc C)) with hbad | hbad
  · refine wf_X (rest := [.int (nI (0)), .ref (o)]) (X := oW cJ o ov) (wf := kW cI cJ cZ cV cR a) ⟨hx, hb, hml, hown, hts⟩ (x_X5_size l htr D cI cJ cZ cV cR a C hM x hbad s.heap.size) (cwV 1 hts gL_size_X5_size rfl rfl rfl (by decide +kernel) ⟨Nat.le_of_ble_eq_true rfl, Nat.le_of_ble_eq_true rfl⟩) hP hK hD hS hA hYE.1 0 rfl rfl rfl hl.1 rfl (Nat.le_of_ble_eq_true rfl) dL_size_4 ⟨Nat.le_of_ble_eq_true rfl, Nat.le_of_ble_eq_true rfl⟩ (fun u hu H locs ce q9 hP hD hS hce hcv hcl => ?_)
    refine vx_catch (name := "java/lang/IndexOutOfBoundsException") hown [] ⟨0, 9, 12, 13⟩ [] (htab.trans rfl) (fun z hz => nomatch hz) (by decide) (by decide) hf0 (va_Nw.use rfl (hYE.1.2.2.2.1 "java/lang/IndexOutOfBoundsException" (by decide))) hce hcv hcl ?_
    refine W.widen (k := 1) (n := 6) (Nat.le_refl _) (Nat.le_refl _) ?_
    refine lv_astore_n (lv' := [(3, .ref (q9)), (0, .ref (a 0)), (1, .int (x)), (2, .ref (o))]) hx hb dL_size_12 rfl hl (by decide) rfl (fun ls hl => ?_)
    refine lv_iconst (v := nI (1)) hx hb dL_size_13 (by decide) ?_
    exact W.iret (v := nI (1)) hx hb hr (fun t ht hW => ⟨⟨_, (ov, u), rfl, (Or.inl ⟨hbad, ⟨rfl, rfl, hu⟩⟩), gb_mk ht hW hP hK hD⟩, hS.F ht⟩) hS.2.2 dL_size_14
  · obtain ⟨i, hi, rfl⟩ := nI_ex hbad
    obtain ⟨hq9, hV, hI, hZ, hb1, hb2, hb3, hb4, hb5, hb6, hb7⟩ := hPR.1 i hi
    refine wf_VWi (rest := [.int (nI (0)), .ref (o)]) (X := oW cJ o ov) (wf := kW cI cJ cZ cV cR a) ⟨hx, hb, hml, hown, hts⟩ (c_X5_size l D cI cJ cZ cV cR a C hM (VT i).q (VT i).hs (VT i).se (VT i).c (VT i).g (VT i).st (VT i).r (VT i).n (VT i).f hV hI hb1 hb2 hb3 hb4 hb5 hb6 i hi hq9 s.heap.size) (cwV 1 hts gL_size_X5_size rfl rfl rfl (by decide +kernel) ⟨Nat.le_of_ble_eq_true rfl, Nat.le_of_ble_eq_true rfl⟩) hP hK hD hS hA 0 rfl rfl rfl hl.1 rfl (Nat.le_of_ble_eq_true rfl) dL_size_4 ⟨Nat.le_of_ble_eq_true rfl, Nat.le_of_ble_eq_true rfl⟩ (fun rr9 u hu H locs hP hD hS => ?_)
    refine W.widen (k := 0) (n := 0) (Nat.le_refl _) (Nat.le_refl _) ?_
    refine lv_i2l (v := (rr9).toInt64) hx hb dL_size_7 rfl ?_
    refine wa_lst (i := 0) hx hb hK hP hD hS 0 1 rfl rfl (by decide) (by decide) dL_size_8 (fun H locs hP hD hS => ?_)
    have hP : va_P D vwCl (oW cJ o (va_up ov 0 ((rr9).toInt64)) ++ (kW cI cJ cZ cV cR a u)) H := hP
    have hD : va_D A (oW cJ o (va_up ov 0 ((rr9).toInt64)) ++ (kW cI cJ cZ cV cR a u)) := hD
    refine lv_goto (tgt := 15) hx hb dL_size_9 (by decide) ?_
    refine lv_iconst (v := nI (0)) hx hb dL_size_15 (by decide) ?_
    refine W.widen (k := 1) (n := 6) (Nat.le_of_ble_eq_true rfl) (Nat.le_of_ble_eq_true rfl) ?_
    exact W.iret (v := nI (0)) hx hb hr (fun t ht hW => ⟨⟨_, (va_up ov 0 ((rr9).toInt64), u), rfl, (Or.inr (⟨i, hi, rfl, ⟨rfl, rr9, rfl, hu⟩⟩)), gb_mk ht hW hP hK hD⟩, hS.F ht⟩) hS.2.2 dL_size_16
def D_groups (cI cJ cZ cV cR : ClassId) (C : CT) (VT : Nat → VRec) (RT : Nat → RRec) (x : Int32) (ov : Nat → Int64) (rr : Int32) (u : (Nat → Int64) × CT) : Prop := ((bdX x (k_vc C)) ∧ rr = nI 1 ∧ u.1 = ov ∧ (u.2 = C)) ∨ (∃ i, i < k_vc C ∧ x = nI i ∧ (rr = nI 0 ∧ ∃ rr9, u.1 = va_up ov 0 ((rr9).toInt64) ∧ (rr9 = nI (VT i).g ∧ u.2 = C)))
def rm_L_groups : Room := { frames := 8, cells := 1, slots := 6, locals := 125 }
set_option maxHeartbeats 4000000 in
set_option maxRecDepth 100000 in
theorem w_L_groups (l : Launch) (htr : l.stackTraces = false) (D : va_G) (cI cJ cZ cV cR : ClassId) (a : Nat → Nat) (C : CT) (VT : Nat → VRec) (RT : Nat → RRec) (hCI : CI cI cZ C VT RT) (o : Nat) (ov : Nat → Int64) (x : Int32) (sz : Nat) : Met l yL_groups wsL_groups rm_L_groups (va_Pc [.ref (a 0), .int (x), .ref (o)] (GY D (tyK cI cJ cZ cV cR) (oW cJ o ov ++ (kW cI cJ cZ cV cR a C)) sz)) (va_Qi (fun rr u => D_groups cI cJ cZ cV cR C VT RT x ov rr u) (fun u => GB D (tyK cI cJ cZ cV cR) (va_A (oW cJ o ov ++ (kW cI cJ cZ cV cR a C)) sz) (oW cJ o u.1 ++ kW cI cJ cZ cV cR a u.2)) (va_A (oW cJ o ov ++ (kW cI cJ cZ cV cR a C)) sz)) 1 6 (va_A (oW cJ o ov ++ (kW cI cJ cZ cV cR a C)) sz) := by
  obtain ⟨hM, hPR, hAI, hal, hgr⟩ := id hCI
  refine met_ofWH (cc := cL_groups) (maxL := 4) (ret := (some .int)) (by decide) rfl ?_
  intro p e s m args below meth c s₁ B hml hv
  obtain ⟨rfl, ⟨hsz, hP, hK, hD0⟩, hYE⟩ := hv
  have hx := B.exec
  have hb := B.bytes
  have hr := B.returns
  have hts := atoms_spec (ws := wsL_groups) B.pre
  have hown : s.vm.findClass RL = some m.cls := findClass_of_methodNamed B.named
  have hlocks := B.notSynchronized
  have htab := vx_table (x := yL_groups) B (hts _ List.mem_cons_self)
  subst hsz
  have hD := hD0.self (sz := s.heap.size)
  generalize hAe : va_A (oW cJ o ov ++ (kW cI cJ cZ cV cR a C)) s.heap.size = A at hD hYE ⊢
  have hA : ∀ q : Nat, s.heap.size ≤ q → A q := fun q h => by rw [← hAe]; exact Or.inr h
  have hS : va_S A s.heap s.heap [] := va_S.rf
  have hf0 := hts (.classLink RL 13 "java/lang/IndexOutOfBoundsException") (by decide +kernel)
  have hl := lv_entry ([.ref (a 0), .int (x), .ref (o)]) (n := 4) (Nat.le_of_ble_eq_true rfl)
  rw [lg_entry_eq]
  generalize (lg_sl ([.ref (a 0), .int (x), .ref (o)]) ++ List.replicate (4 - (lg_sl ([.ref (a 0), .int (x), .ref (o)])).length) Slot.unset).toArray = ls at hl ⊢
  have hl : lv_has ls 4 [(0, .ref (a 0)), (1, .int (x)), (2, .ref (o))] := hl
  refine lv_aload_n hx hb dL_groups_0 rfl (lv_at hl 2 rfl) ?_
  refine lv_iconst (v := nI (0)) hx hb dL_groups_1 (by decide) ?_
  refine lv_aload_n hx hb dL_groups_2 rfl (lv_at hl 0 rfl) ?_
  refine lv_iload_n hx hb dL_groups_3 rfl (lv_at hl 1 rfl) ?_
  rcases Classical.em (bdX x (k_vc C)) with hbad | hbad
  · refine wf_X (rest := [.int (nI (0)), .ref (o)]) (X := oW cJ o ov) (wf := kW cI cJ cZ cV cR a) ⟨hx, hb, hml, hown, hts⟩ (x_X5_groups l htr D cI cJ cZ cV cR a C hM x hbad s.heap.size) (cwV 1 hts gL_groups_X5_groups rfl rfl rfl (by decide +kernel) ⟨Nat.le_of_ble_eq_true rfl, Nat.le_of_ble_eq_true rfl⟩) hP hK hD hS hA hYE.1 0 rfl rfl rfl hl.1 rfl (Nat.le_of_ble_eq_true rfl) dL_groups_4 ⟨Nat.le_of_ble_eq_true rfl, Nat.le_of_ble_eq_true rfl⟩ (fun u hu H locs ce q9 hP hD hS hce hcv hcl => ?_)
    refine vx_catch (name := "java/lang/IndexOutOfBoundsException") hown [] ⟨0, 9, 12, 13⟩ [] (htab.trans rfl) (fun z hz => nomatch hz) (by decide) (by decide) hf0 (va_Nw.use rfl (hYE.1.2.2.2.1 "java/lang/IndexOutOfBoundsException" (by decide))) hce hcv hcl ?_
    refine W.widen (k := 1) (n := 6) (Nat.le_refl _) (Nat.le_refl _) ?_
    refine lv_astore_n (lv' := [(3, .ref (q9)), (0, .ref (a 0)), (1, .int (x)), (2, .ref (o))]) hx hb dL_groups_12 rfl hl (by decide) rfl (fun ls hl => ?_)
    refine lv_iconst (v := nI (1)) hx hb dL_groups_13 (by decide) ?_
    exact W.iret (v := nI (1)) hx hb hr (fun t ht hW => ⟨⟨_, (ov, u), rfl, (Or.inl ⟨hbad, ⟨rfl, rfl, hu⟩⟩), gb_mk ht hW hP hK hD⟩, hS.F ht⟩) hS.2.2 dL_groups_14
  · obtain ⟨i, hi, rfl⟩ := nI_ex hbad
    obtain ⟨hq9, hV, hI, hZ, hb1, hb2, hb3, hb4, hb5, hb6, hb7⟩ := hPR.1 i hi
    refine wf_VWi (rest := [.int (nI (0)), .ref (o)]) (X := oW cJ o ov) (wf := kW cI cJ cZ cV cR a) ⟨hx, hb, hml, hown, hts⟩ (c_X5_groups l D cI cJ cZ cV cR a C hM (VT i).q (VT i).hs (VT i).se (VT i).c (VT i).g (VT i).st (VT i).r (VT i).n (VT i).f hV hI hb1 hb2 hb3 hb4 hb5 hb6 i hi hq9 s.heap.size) (cwV 1 hts gL_groups_X5_groups rfl rfl rfl (by decide +kernel) ⟨Nat.le_of_ble_eq_true rfl, Nat.le_of_ble_eq_true rfl⟩) hP hK hD hS hA 0 rfl rfl rfl hl.1 rfl (Nat.le_of_ble_eq_true rfl) dL_groups_4 ⟨Nat.le_of_ble_eq_true rfl, Nat.le_of_ble_eq_true rfl⟩ (fun rr9 u hu H locs hP hD hS => ?_)
    refine W.widen (k := 0) (n := 0) (Nat.le_refl _) (Nat.le_refl _) ?_
    refine lv_i2l (v := (rr9).toInt64) hx hb dL_groups_7 rfl ?_
    refine wa_lst (i := 0) hx hb hK hP hD hS 0 1 rfl rfl (by decide) (by decide) dL_groups_8 (fun H locs hP hD hS => ?_)
    have hP : va_P D vwCl (oW cJ o (va_up ov 0 ((rr9).toInt64)) ++ (kW cI cJ cZ cV cR a u)) H := hP
    have hD : va_D A (oW cJ o (va_up ov 0 ((rr9).toInt64)) ++ (kW cI cJ cZ cV cR a u)) := hD
    refine lv_goto (tgt := 15) hx hb dL_groups_9 (by decide) ?_
    refine lv_iconst (v := nI (0)) hx hb dL_groups_15 (by decide) ?_
    refine W.widen (k := 1) (n := 6) (Nat.le_of_ble_eq_true rfl) (Nat.le_of_ble_eq_true rfl) ?_
    exact W.iret (v := nI (0)) hx hb hr (fun t ht hW => ⟨⟨_, (va_up ov 0 ((rr9).toInt64), u), rfl, (Or.inr (⟨i, hi, rfl, ⟨rfl, rr9, rfl, hu⟩⟩)), gb_mk ht hW hP hK hD⟩, hS.F ht⟩) hS.2.2 dL_groups_16
def D_hit (cI cJ cZ cV cR : ClassId) (C : CT) (VT : Nat → VRec) (RT : Nat → RRec) (x : Int32) (y : Int32) (sd : Int64) (k : Int32) (ov : Nat → Int64) (rr : Int32) (u : (Nat → Int64) × CT) : Prop := ((bdX x (k_vc C)) ∧ rr = nI 1 ∧ u.1 = ov ∧ (u.2 = C)) ∨ (∃ i, i < k_vc C ∧ x = nI i ∧ (((bdX k ((VT i).c)) ∧ rr = nI 1 ∧ u.1 = ov ∧ (u.2 = C)) ∨ (∃ k9, k9 < (VT i).c ∧ k = nI k9 ∧ (((bdX y (3)) ∧ rr = nI 2 ∧ u.1 = ov ∧ (u.2 = C)) ∨ (∃ kd, kd < 3 ∧ y = nI kd ∧ (rr = nI 0 ∧ ∃ rr9, u.1 = va_up ov 0 ((rr9).toInt64) ∧ (rr9 = nI (k_row (rkM C (VT i).f (VT i).c kd sd) k9) ∧ u.2 = rkM C (VT i).f (VT i).c kd sd)))))))
def rm_L_hit : Room := { frames := 9, cells := 1, slots := 6, locals := 152 }
set_option maxHeartbeats 4000000 in
set_option maxRecDepth 100000 in
theorem w_L_hit (l : Launch) (htr : l.stackTraces = false) (D : va_G) (cI cJ cZ cV cR : ClassId) (a : Nat → Nat) (C : CT) (VT : Nat → VRec) (RT : Nat → RRec) (hCI : CI cI cZ C VT RT) (o : Nat) (ov : Nat → Int64) (x : Int32) (y : Int32) (sd : Int64) (k : Int32) (sz : Nat) : Met l yL_hit wsL_hit rm_L_hit (va_Pc [.ref (a 0), .int (x), .int (y), .long (sd), .int (k), .ref (o)] (GY D (tyK cI cJ cZ cV cR) (oW cJ o ov ++ (kW cI cJ cZ cV cR a C)) sz)) (va_Qi (fun rr u => D_hit cI cJ cZ cV cR C VT RT x y sd k ov rr u) (fun u => GB D (tyK cI cJ cZ cV cR) (va_A (oW cJ o ov ++ (kW cI cJ cZ cV cR a C)) sz) (oW cJ o u.1 ++ kW cI cJ cZ cV cR a u.2)) (va_A (oW cJ o ov ++ (kW cI cJ cZ cV cR a C)) sz)) 1 6 (va_A (oW cJ o ov ++ (kW cI cJ cZ cV cR a C)) sz) := by
  obtain ⟨hM, hPR, hAI, hal, hgr⟩ := id hCI
  refine met_ofWH (cc := cL_hit) (maxL := 8) (ret := (some .int)) (by decide) rfl ?_
  intro p e s m args below meth c s₁ B hml hv
  obtain ⟨rfl, ⟨hsz, hP, hK, hD0⟩, hYE⟩ := hv
  have hx := B.exec
  have hb := B.bytes
  have hr := B.returns
  have hts := atoms_spec (ws := wsL_hit) B.pre
  have hown : s.vm.findClass RL = some m.cls := findClass_of_methodNamed B.named
  have hlocks := B.notSynchronized
  have htab := vx_table (x := yL_hit) B (hts _ List.mem_cons_self)
  subst hsz
  have hD := hD0.self (sz := s.heap.size)
  generalize hAe : va_A (oW cJ o ov ++ (kW cI cJ cZ cV cR a C)) s.heap.size = A at hD hYE ⊢
  have hA : ∀ q : Nat, s.heap.size ≤ q → A q := fun q h => by rw [← hAe]; exact Or.inr h
  have hS : va_S A s.heap s.heap [] := va_S.rf
  have hf0 := hts (.classLink RL 13 "java/lang/IndexOutOfBoundsException") (by decide +kernel)
  have hf1 := hts (.classLink RL 39 "java/lang/IllegalArgumentException") (by decide +kernel)
  have hl := lv_entry ([.ref (a 0), .int (x), .int (y), .long (sd), .int (k), .ref (o)]) (n := 8) (Nat.le_of_ble_eq_true rfl)
  rw [lg_entry_eq]
  generalize (lg_sl ([.ref (a 0), .int (x), .int (y), .long (sd), .int (k), .ref (o)]) ++ List.replicate (8 - (lg_sl ([.ref (a 0), .int (x), .int (y), .long (sd), .int (k), .ref (o)])).length) Slot.unset).toArray = ls at hl ⊢
  have hl : lv_has ls 8 [(0, .ref (a 0)), (1, .int (x)), (2, .int (y)), (3, .long (sd)), (5, .int (k)), (6, .ref (o))] := hl
  refine lv_aload hx hb dL_hit_0 (lv_at hl 5 rfl) ?_
  refine lv_iconst (v := nI (0)) hx hb dL_hit_2 (by decide) ?_
  refine lv_aload_n hx hb dL_hit_3 rfl (lv_at hl 0 rfl) ?_
  refine lv_iload_n hx hb dL_hit_4 rfl (lv_at hl 1 rfl) ?_
  refine lv_iload_n hx hb dL_hit_5 rfl (lv_at hl 2 rfl) ?_
  refine lv_lload_n hx hb dL_hit_6 rfl (lv_at hl 3 rfl) ?_
  refine lv_iload hx hb dL_hit_7 (lv_at hl 4 rfl) ?_
  rcases Classical.em (bdX x (k_vc C)) with hbad | hbad
  · refine wf_X (rest := [.int (nI (0)), .ref (o)]) (X := oW cJ o ov) (wf := kW cI cJ cZ cV cR a) ⟨hx, hb, hml, hown, hts⟩ (x_X5_hit_v l htr D cI cJ cZ cV cR a C hM x y sd k hbad s.heap.size) (cwV 4 hts gL_hit_X5_hit rfl rfl rfl (by decide +kernel) ⟨Nat.le_of_ble_eq_true rfl, Nat.le_of_ble_eq_true rfl⟩) hP hK hD hS hA hYE.1 0 rfl rfl rfl hl.1 rfl (Nat.le_of_ble_eq_true rfl) dL_hit_9 ⟨Nat.le_of_ble_eq_true rfl, Nat.le_of_ble_eq_true rfl⟩ (fun u hu H locs ce q9 hP hD hS hce hcv hcl => ?_)
    refine vx_catch (name := "java/lang/IndexOutOfBoundsException") hown [] ⟨0, 14, 17, 13⟩ [⟨0, 14, 21, 39⟩] (htab.trans rfl) (fun z hz => nomatch hz) (by decide) (by decide) hf0 (va_Nw.use rfl (hYE.1.2.2.2.1 "java/lang/IndexOutOfBoundsException" (by decide))) hce hcv hcl ?_
    refine W.widen (k := 1) (n := 6) (Nat.le_refl _) (Nat.le_refl _) ?_
    refine lv_astore (lv' := [(7, .ref (q9)), (0, .ref (a 0)), (1, .int (x)), (2, .int (y)), (3, .long (sd)), (5, .int (k)), (6, .ref (o))]) hx hb dL_hit_17 hl (by decide) rfl (fun ls hl => ?_)
    refine lv_iconst (v := nI (1)) hx hb dL_hit_19 (by decide) ?_
    exact W.iret (v := nI (1)) hx hb hr (fun t ht hW => ⟨⟨_, (ov, u), rfl, (Or.inl ⟨hbad, ⟨rfl, rfl, hu⟩⟩), gb_mk ht hW hP hK hD⟩, hS.F ht⟩) hS.2.2 dL_hit_20
  · obtain ⟨i, hi, rfl⟩ := nI_ex hbad
    obtain ⟨hq9, hV, hI, hZ, hb1, hb2, hb3, hb4, hb5, hb6, hb7⟩ := hPR.1 i hi
    rcases Classical.em (bdX k ((VT i).c)) with hbad | hbad
    · refine wf_X (rest := [.int (nI (0)), .ref (o)]) (X := oW cJ o ov) (wf := kW cI cJ cZ cV cR a) ⟨hx, hb, hml, hown, hts⟩ (x_X5_hit_i l htr D cI cJ cZ cV cR a C hM (VT i).q (VT i).hs (VT i).se (VT i).c (VT i).g (VT i).st (VT i).r (VT i).n (VT i).f hV hI hb1 hb2 hb3 hb4 hb5 hb6 i hi hq9 y sd k hbad s.heap.size) (cwV 4 hts gL_hit_X5_hit rfl rfl rfl (by decide +kernel) ⟨Nat.le_of_ble_eq_true rfl, Nat.le_of_ble_eq_true rfl⟩) hP hK hD hS hA hYE.1 0 rfl rfl rfl hl.1 rfl (Nat.le_of_ble_eq_true rfl) dL_hit_9 ⟨Nat.le_of_ble_eq_true rfl, Nat.le_of_ble_eq_true rfl⟩ (fun u hu H locs ce q9 hP hD hS hce hcv hcl => ?_)
      refine vx_catch (name := "java/lang/IndexOutOfBoundsException") hown [] ⟨0, 14, 17, 13⟩ [⟨0, 14, 21, 39⟩] (htab.trans rfl) (fun z hz => nomatch hz) (by decide) (by decide) hf0 (va_Nw.use rfl (hYE.1.2.2.2.1 "java/lang/IndexOutOfBoundsException" (by decide))) hce hcv hcl ?_
      refine W.widen (k := 1) (n := 6) (Nat.le_refl _) (Nat.le_refl _) ?_
      refine lv_astore (lv' := [(7, .ref (q9)), (0, .ref (a 0)), (1, .int (nI (i))), (2, .int (y)), (3, .long (sd)), (5, .int (k)), (6, .ref (o))]) hx hb dL_hit_17 hl (by decide) rfl (fun ls hl => ?_)
      refine lv_iconst (v := nI (1)) hx hb dL_hit_19 (by decide) ?_
      exact W.iret (v := nI (1)) hx hb hr (fun t ht hW => ⟨⟨_, (ov, u), rfl, (Or.inr (⟨i, hi, rfl, (Or.inl ⟨hbad, ⟨rfl, rfl, hu⟩⟩)⟩)), gb_mk ht hW hP hK hD⟩, hS.F ht⟩) hS.2.2 dL_hit_20
    · obtain ⟨k9, hk9, rfl⟩ := nI_ex hbad
      rcases Classical.em (bdX y (3)) with hbad | hbad
      · refine wf_X (rest := [.int (nI (0)), .ref (o)]) (X := oW cJ o ov) (wf := kW cI cJ cZ cV cR a) ⟨hx, hb, hml, hown, hts⟩ (x_X5_hit_k l htr D cI cJ cZ cV cR a C hM (VT i).q (VT i).hs (VT i).se (VT i).c (VT i).g (VT i).st (VT i).r (VT i).n (VT i).f hV hI hb1 hb2 hb3 hb4 hb5 hb6 i hi hq9 y sd k9 hk9 hbad s.heap.size) (cwV 4 hts gL_hit_X5_hit rfl rfl rfl (by decide +kernel) ⟨Nat.le_of_ble_eq_true rfl, Nat.le_of_ble_eq_true rfl⟩) hP hK hD hS hA hYE.1 0 rfl rfl rfl hl.1 rfl (Nat.le_of_ble_eq_true rfl) dL_hit_9 ⟨Nat.le_of_ble_eq_true rfl, Nat.le_of_ble_eq_true rfl⟩ (fun u hu H locs ce q9 hP hD hS hce hcv hcl => ?_)
        refine vx_catch (name := "java/lang/IllegalArgumentException") hown [⟨0, 14, 17, 13⟩] ⟨0, 14, 21, 39⟩ [] (htab.trans rfl) (fun z hz => by simp only [List.mem_cons, List.not_mem_nil, or_false] at hz; rcases hz with rfl <;> first | exact Or.inr ⟨by decide, "java/lang/IndexOutOfBoundsException", hf0, hYE.2.2 ("java/lang/IllegalArgumentException", "java/lang/IndexOutOfBoundsException") (by decide)⟩) (by decide) (by decide) hf1 (va_Nw.use rfl (hYE.1.2.2.2.1 "java/lang/IllegalArgumentException" (by decide))) hce hcv hcl ?_
        refine W.widen (k := 1) (n := 6) (Nat.le_refl _) (Nat.le_refl _) ?_
        refine lv_astore (lv' := [(7, .ref (q9)), (0, .ref (a 0)), (1, .int (nI (i))), (2, .int (y)), (3, .long (sd)), (5, .int (nI (k9))), (6, .ref (o))]) hx hb dL_hit_21 hl (by decide) rfl (fun ls hl => ?_)
        refine lv_iconst (v := nI (2)) hx hb dL_hit_23 (by decide) ?_
        exact W.iret (v := nI (2)) hx hb hr (fun t ht hW => ⟨⟨_, (ov, u), rfl, (Or.inr (⟨i, hi, rfl, (Or.inr (⟨k9, hk9, rfl, (Or.inl ⟨hbad, ⟨rfl, rfl, hu⟩⟩)⟩))⟩)), gb_mk ht hW hP hK hD⟩, hS.F ht⟩) hS.2.2 dL_hit_24
      · obtain ⟨kd, hkd, rfl⟩ := nI_ex hbad
        refine wf_VWi (rest := [.int (nI (0)), .ref (o)]) (X := oW cJ o ov) (wf := kW cI cJ cZ cV cR a) ⟨hx, hb, hml, hown, hts⟩ (c_X5_hit l D cI cJ cZ cV cR a C hM (VT i).q (VT i).hs (VT i).se (VT i).c (VT i).g (VT i).st (VT i).r (VT i).n (VT i).f hV hI hb1 hb2 hb3 hb4 hb5 hb6 i hi hq9 kd sd k9 hkd hk9 s.heap.size) (cwV 4 hts gL_hit_X5_hit rfl rfl rfl (by decide +kernel) ⟨Nat.le_of_ble_eq_true rfl, Nat.le_of_ble_eq_true rfl⟩) hP hK hD hS hA 0 rfl rfl rfl hl.1 rfl (Nat.le_of_ble_eq_true rfl) dL_hit_9 ⟨Nat.le_of_ble_eq_true rfl, Nat.le_of_ble_eq_true rfl⟩ (fun rr9 u hu H locs hP hD hS => ?_)
        refine W.widen (k := 0) (n := 0) (Nat.le_refl _) (Nat.le_refl _) ?_
        refine lv_i2l (v := (rr9).toInt64) hx hb dL_hit_12 rfl ?_
        refine wa_lst (i := 0) hx hb hK hP hD hS 0 1 rfl rfl (by decide) (by decide) dL_hit_13 (fun H locs hP hD hS => ?_)
        have hP : va_P D vwCl (oW cJ o (va_up ov 0 ((rr9).toInt64)) ++ (kW cI cJ cZ cV cR a u)) H := hP
        have hD : va_D A (oW cJ o (va_up ov 0 ((rr9).toInt64)) ++ (kW cI cJ cZ cV cR a u)) := hD
        refine lv_goto (tgt := 25) hx hb dL_hit_14 (by decide) ?_
        refine lv_iconst (v := nI (0)) hx hb dL_hit_25 (by decide) ?_
        refine W.widen (k := 1) (n := 6) (Nat.le_of_ble_eq_true rfl) (Nat.le_of_ble_eq_true rfl) ?_
        exact W.iret (v := nI (0)) hx hb hr (fun t ht hW => ⟨⟨_, (va_up ov 0 ((rr9).toInt64), u), rfl, (Or.inr (⟨i, hi, rfl, (Or.inr (⟨k9, hk9, rfl, (Or.inr (⟨kd, hkd, rfl, ⟨rfl, rr9, rfl, hu⟩⟩))⟩))⟩)), gb_mk ht hW hP hK hD⟩, hS.F ht⟩) hS.2.2 dL_hit_26
def D_place (cI cJ cZ cV cR : ClassId) (C : CT) (VT : Nat → VRec) (RT : Nat → RRec) (x : Int32) (y : Int32) (sd : Int64) (k : Int32) (ov : Nat → Int64) (rr : Int32) (u : (Nat → Int64) × CT) : Prop := ((bdX x (k_vc C)) ∧ rr = nI 1 ∧ u.1 = ov ∧ (u.2 = C)) ∨ (∃ i, i < k_vc C ∧ x = nI i ∧ (((bdX k (k_n C)) ∧ rr = nI 1 ∧ u.1 = ov ∧ (u.2 = C)) ∨ (∃ o9, o9 < k_n C ∧ k = nI o9 ∧ (((bdX y (3)) ∧ rr = nI 2 ∧ u.1 = ov ∧ (u.2 = C)) ∨ (∃ kd, kd < 3 ∧ y = nI kd ∧ (rr = nI 0 ∧ ∃ rr9, u.1 = va_up ov 0 ((rr9).toInt64) ∧ (rr9 = zI (findF (k_row (rkM C (VT i).f (VT i).c kd sd)) (k_kc (rkM C (VT i).f (VT i).c kd sd)) o9) ∧ u.2 = rkM C (VT i).f (VT i).c kd sd)))))))
def rm_L_place : Room := { frames := 9, cells := 1, slots := 6, locals := 152 }
set_option maxHeartbeats 4000000 in
set_option maxRecDepth 100000 in
theorem w_L_place (l : Launch) (htr : l.stackTraces = false) (D : va_G) (cI cJ cZ cV cR : ClassId) (a : Nat → Nat) (C : CT) (VT : Nat → VRec) (RT : Nat → RRec) (hCI : CI cI cZ C VT RT) (o : Nat) (ov : Nat → Int64) (x : Int32) (y : Int32) (sd : Int64) (k : Int32) (sz : Nat) : Met l yL_place wsL_place rm_L_place (va_Pc [.ref (a 0), .int (x), .int (y), .long (sd), .int (k), .ref (o)] (GY D (tyK cI cJ cZ cV cR) (oW cJ o ov ++ (kW cI cJ cZ cV cR a C)) sz)) (va_Qi (fun rr u => D_place cI cJ cZ cV cR C VT RT x y sd k ov rr u) (fun u => GB D (tyK cI cJ cZ cV cR) (va_A (oW cJ o ov ++ (kW cI cJ cZ cV cR a C)) sz) (oW cJ o u.1 ++ kW cI cJ cZ cV cR a u.2)) (va_A (oW cJ o ov ++ (kW cI cJ cZ cV cR a C)) sz)) 1 6 (va_A (oW cJ o ov ++ (kW cI cJ cZ cV cR a C)) sz) := by
  obtain ⟨hM, hPR, hAI, hal, hgr⟩ := id hCI
  refine met_ofWH (cc := cL_place) (maxL := 8) (ret := (some .int)) (by decide) rfl ?_
  intro p e s m args below meth c s₁ B hml hv
  obtain ⟨rfl, ⟨hsz, hP, hK, hD0⟩, hYE⟩ := hv
  have hx := B.exec
  have hb := B.bytes
  have hr := B.returns
  have hts := atoms_spec (ws := wsL_place) B.pre
  have hown : s.vm.findClass RL = some m.cls := findClass_of_methodNamed B.named
  have hlocks := B.notSynchronized
  have htab := vx_table (x := yL_place) B (hts _ List.mem_cons_self)
  subst hsz
  have hD := hD0.self (sz := s.heap.size)
  generalize hAe : va_A (oW cJ o ov ++ (kW cI cJ cZ cV cR a C)) s.heap.size = A at hD hYE ⊢
  have hA : ∀ q : Nat, s.heap.size ≤ q → A q := fun q h => by rw [← hAe]; exact Or.inr h
  have hS : va_S A s.heap s.heap [] := va_S.rf
  have hf0 := hts (.classLink RL 13 "java/lang/IndexOutOfBoundsException") (by decide +kernel)
  have hf1 := hts (.classLink RL 39 "java/lang/IllegalArgumentException") (by decide +kernel)
  have hl := lv_entry ([.ref (a 0), .int (x), .int (y), .long (sd), .int (k), .ref (o)]) (n := 8) (Nat.le_of_ble_eq_true rfl)
  rw [lg_entry_eq]
  generalize (lg_sl ([.ref (a 0), .int (x), .int (y), .long (sd), .int (k), .ref (o)]) ++ List.replicate (8 - (lg_sl ([.ref (a 0), .int (x), .int (y), .long (sd), .int (k), .ref (o)])).length) Slot.unset).toArray = ls at hl ⊢
  have hl : lv_has ls 8 [(0, .ref (a 0)), (1, .int (x)), (2, .int (y)), (3, .long (sd)), (5, .int (k)), (6, .ref (o))] := hl
  refine lv_aload hx hb dL_place_0 (lv_at hl 5 rfl) ?_
  refine lv_iconst (v := nI (0)) hx hb dL_place_2 (by decide) ?_
  refine lv_aload_n hx hb dL_place_3 rfl (lv_at hl 0 rfl) ?_
  refine lv_iload_n hx hb dL_place_4 rfl (lv_at hl 1 rfl) ?_
  refine lv_iload_n hx hb dL_place_5 rfl (lv_at hl 2 rfl) ?_
  refine lv_lload_n hx hb dL_place_6 rfl (lv_at hl 3 rfl) ?_
  refine lv_iload hx hb dL_place_7 (lv_at hl 4 rfl) ?_
  rcases Classical.em (bdX x (k_vc C)) with hbad | hbad
  · refine wf_X (rest := [.int (nI (0)), .ref (o)]) (X := oW cJ o ov) (wf := kW cI cJ cZ cV cR a) ⟨hx, hb, hml, hown, hts⟩ (x_X5_place_v l htr D cI cJ cZ cV cR a C hM x y sd k hbad s.heap.size) (cwV 4 hts gL_place_X5_place rfl rfl rfl (by decide +kernel) ⟨Nat.le_of_ble_eq_true rfl, Nat.le_of_ble_eq_true rfl⟩) hP hK hD hS hA hYE.1 0 rfl rfl rfl hl.1 rfl (Nat.le_of_ble_eq_true rfl) dL_place_9 ⟨Nat.le_of_ble_eq_true rfl, Nat.le_of_ble_eq_true rfl⟩ (fun u hu H locs ce q9 hP hD hS hce hcv hcl => ?_)
    refine vx_catch (name := "java/lang/IndexOutOfBoundsException") hown [] ⟨0, 14, 17, 13⟩ [⟨0, 14, 21, 39⟩] (htab.trans rfl) (fun z hz => nomatch hz) (by decide) (by decide) hf0 (va_Nw.use rfl (hYE.1.2.2.2.1 "java/lang/IndexOutOfBoundsException" (by decide))) hce hcv hcl ?_
    refine W.widen (k := 1) (n := 6) (Nat.le_refl _) (Nat.le_refl _) ?_
    refine lv_astore (lv' := [(7, .ref (q9)), (0, .ref (a 0)), (1, .int (x)), (2, .int (y)), (3, .long (sd)), (5, .int (k)), (6, .ref (o))]) hx hb dL_place_17 hl (by decide) rfl (fun ls hl => ?_)
    refine lv_iconst (v := nI (1)) hx hb dL_place_19 (by decide) ?_
    exact W.iret (v := nI (1)) hx hb hr (fun t ht hW => ⟨⟨_, (ov, u), rfl, (Or.inl ⟨hbad, ⟨rfl, rfl, hu⟩⟩), gb_mk ht hW hP hK hD⟩, hS.F ht⟩) hS.2.2 dL_place_20
  · obtain ⟨i, hi, rfl⟩ := nI_ex hbad
    obtain ⟨hq9, hV, hI, hZ, hb1, hb2, hb3, hb4, hb5, hb6, hb7⟩ := hPR.1 i hi
    rcases Classical.em (bdX k (k_n C)) with hbad | hbad
    · refine wf_X (rest := [.int (nI (0)), .ref (o)]) (X := oW cJ o ov) (wf := kW cI cJ cZ cV cR a) ⟨hx, hb, hml, hown, hts⟩ (x_X5_place_o l htr D cI cJ cZ cV cR a C hM (VT i).q (VT i).hs (VT i).se (VT i).c (VT i).g (VT i).st (VT i).r (VT i).n (VT i).f hV hI hb1 hb2 hb3 hb4 hb5 hb6 i hi hq9 y sd k hbad s.heap.size) (cwV 4 hts gL_place_X5_place rfl rfl rfl (by decide +kernel) ⟨Nat.le_of_ble_eq_true rfl, Nat.le_of_ble_eq_true rfl⟩) hP hK hD hS hA hYE.1 0 rfl rfl rfl hl.1 rfl (Nat.le_of_ble_eq_true rfl) dL_place_9 ⟨Nat.le_of_ble_eq_true rfl, Nat.le_of_ble_eq_true rfl⟩ (fun u hu H locs ce q9 hP hD hS hce hcv hcl => ?_)
      refine vx_catch (name := "java/lang/IndexOutOfBoundsException") hown [] ⟨0, 14, 17, 13⟩ [⟨0, 14, 21, 39⟩] (htab.trans rfl) (fun z hz => nomatch hz) (by decide) (by decide) hf0 (va_Nw.use rfl (hYE.1.2.2.2.1 "java/lang/IndexOutOfBoundsException" (by decide))) hce hcv hcl ?_
      refine W.widen (k := 1) (n := 6) (Nat.le_refl _) (Nat.le_refl _) ?_
      refine lv_astore (lv' := [(7, .ref (q9)), (0, .ref (a 0)), (1, .int (nI (i))), (2, .int (y)), (3, .long (sd)), (5, .int (k)), (6, .ref (o))]) hx hb dL_place_17 hl (by decide) rfl (fun ls hl => ?_)
      refine lv_iconst (v := nI (1)) hx hb dL_place_19 (by decide) ?_
      exact W.iret (v := nI (1)) hx hb hr (fun t ht hW => ⟨⟨_, (ov, u), rfl, (Or.inr (⟨i, hi, rfl, (Or.inl ⟨hbad, ⟨rfl, rfl, hu⟩⟩)⟩)), gb_mk ht hW hP hK hD⟩, hS.F ht⟩) hS.2.2 dL_place_20
    · obtain ⟨o9, ho9, rfl⟩ := nI_ex hbad
      rcases Classical.em (bdX y (3)) with hbad | hbad
      · refine wf_X (rest := [.int (nI (0)), .ref (o)]) (X := oW cJ o ov) (wf := kW cI cJ cZ cV cR a) ⟨hx, hb, hml, hown, hts⟩ (x_X5_place_k l htr D cI cJ cZ cV cR a C hM (VT i).q (VT i).hs (VT i).se (VT i).c (VT i).g (VT i).st (VT i).r (VT i).n (VT i).f hV hI hb1 hb2 hb3 hb4 hb5 hb6 i hi hq9 y sd o9 ho9 hbad s.heap.size) (cwV 4 hts gL_place_X5_place rfl rfl rfl (by decide +kernel) ⟨Nat.le_of_ble_eq_true rfl, Nat.le_of_ble_eq_true rfl⟩) hP hK hD hS hA hYE.1 0 rfl rfl rfl hl.1 rfl (Nat.le_of_ble_eq_true rfl) dL_place_9 ⟨Nat.le_of_ble_eq_true rfl, Nat.le_of_ble_eq_true rfl⟩ (fun u hu H locs ce q9 hP hD hS hce hcv hcl => ?_)
        refine vx_catch (name := "java/lang/IllegalArgumentException") hown [⟨0, 14, 17, 13⟩] ⟨0, 14, 21, 39⟩ [] (htab.trans rfl) (fun z hz => by simp only [List.mem_cons, List.not_mem_nil, or_false] at hz; rcases hz with rfl <;> first | exact Or.inr ⟨by decide, "java/lang/IndexOutOfBoundsException", hf0, hYE.2.2 ("java/lang/IllegalArgumentException", "java/lang/IndexOutOfBoundsException") (by decide)⟩) (by decide) (by decide) hf1 (va_Nw.use rfl (hYE.1.2.2.2.1 "java/lang/IllegalArgumentException" (by decide))) hce hcv hcl ?_
        refine W.widen (k := 1) (n := 6) (Nat.le_refl _) (Nat.le_refl _) ?_
        refine lv_astore (lv' := [(7, .ref (q9)), (0, .ref (a 0)), (1, .int (nI (i))), (2, .int (y)), (3, .long (sd)), (5, .int (nI (o9))), (6, .ref (o))]) hx hb dL_place_21 hl (by decide) rfl (fun ls hl => ?_)
        refine lv_iconst (v := nI (2)) hx hb dL_place_23 (by decide) ?_
        exact W.iret (v := nI (2)) hx hb hr (fun t ht hW => ⟨⟨_, (ov, u), rfl, (Or.inr (⟨i, hi, rfl, (Or.inr (⟨o9, ho9, rfl, (Or.inl ⟨hbad, ⟨rfl, rfl, hu⟩⟩)⟩))⟩)), gb_mk ht hW hP hK hD⟩, hS.F ht⟩) hS.2.2 dL_place_24
      · obtain ⟨kd, hkd, rfl⟩ := nI_ex hbad
        refine wf_VWi (rest := [.int (nI (0)), .ref (o)]) (X := oW cJ o ov) (wf := kW cI cJ cZ cV cR a) ⟨hx, hb, hml, hown, hts⟩ (c_X5_place l D cI cJ cZ cV cR a C hM (VT i).q (VT i).hs (VT i).se (VT i).c (VT i).g (VT i).st (VT i).r (VT i).n (VT i).f hV hI hb1 hb2 hb3 hb4 hb5 hb6 i hi hq9 kd sd o9 hkd ho9 s.heap.size) (cwV 4 hts gL_place_X5_place rfl rfl rfl (by decide +kernel) ⟨Nat.le_of_ble_eq_true rfl, Nat.le_of_ble_eq_true rfl⟩) hP hK hD hS hA 0 rfl rfl rfl hl.1 rfl (Nat.le_of_ble_eq_true rfl) dL_place_9 ⟨Nat.le_of_ble_eq_true rfl, Nat.le_of_ble_eq_true rfl⟩ (fun rr9 u hu H locs hP hD hS => ?_)
        refine W.widen (k := 0) (n := 0) (Nat.le_refl _) (Nat.le_refl _) ?_
        refine lv_i2l (v := (rr9).toInt64) hx hb dL_place_12 rfl ?_
        refine wa_lst (i := 0) hx hb hK hP hD hS 0 1 rfl rfl (by decide) (by decide) dL_place_13 (fun H locs hP hD hS => ?_)
        have hP : va_P D vwCl (oW cJ o (va_up ov 0 ((rr9).toInt64)) ++ (kW cI cJ cZ cV cR a u)) H := hP
        have hD : va_D A (oW cJ o (va_up ov 0 ((rr9).toInt64)) ++ (kW cI cJ cZ cV cR a u)) := hD
        refine lv_goto (tgt := 25) hx hb dL_place_14 (by decide) ?_
        refine lv_iconst (v := nI (0)) hx hb dL_place_25 (by decide) ?_
        refine W.widen (k := 1) (n := 6) (Nat.le_of_ble_eq_true rfl) (Nat.le_of_ble_eq_true rfl) ?_
        exact W.iret (v := nI (0)) hx hb hr (fun t ht hW => ⟨⟨_, (va_up ov 0 ((rr9).toInt64), u), rfl, (Or.inr (⟨i, hi, rfl, (Or.inr (⟨o9, ho9, rfl, (Or.inr (⟨kd, hkd, rfl, ⟨rfl, rr9, rfl, hu⟩⟩))⟩))⟩)), gb_mk ht hW hP hK hD⟩, hS.F ht⟩) hS.2.2 dL_place_26
def D_group (cI cJ cZ cV cR : ClassId) (C : CT) (VT : Nat → VRec) (RT : Nat → RRec) (x : Int32) (y : Int32) (sd : Int64) (k : Int32) (ov : Nat → Int64) (rr : Int32) (u : (Nat → Int64) × CT) : Prop := ((bdX x (k_vc C)) ∧ rr = nI 1 ∧ u.1 = ov ∧ (u.2 = C)) ∨ (∃ i, i < k_vc C ∧ x = nI i ∧ (((bdX k ((VT i).g)) ∧ rr = nI 1 ∧ u.1 = ov ∧ (u.2 = C)) ∨ (∃ k9, k9 < (VT i).g ∧ k = nI k9 ∧ (((bdX y (3)) ∧ rr = nI 2 ∧ u.1 = ov ∧ (u.2 = C)) ∨ (∃ kd, kd < 3 ∧ y = nI kd ∧ (rr = nI 0 ∧ ∃ rr9, u.1 = va_up ov 0 (rr9) ∧ (rr9 = k_grp (ngM (rkM C (VT i).f (VT i).c kd sd) k9) (k_row (ngM (rkM C (VT i).f (VT i).c kd sd) k9) 0) ∧ u.2 = ngM (rkM C (VT i).f (VT i).c kd sd) k9)))))))
def rm_L_group : Room := { frames := 10, cells := 1, slots := 6, locals := 176 }
set_option maxHeartbeats 4000000 in
set_option maxRecDepth 100000 in
theorem w_L_group (l : Launch) (htr : l.stackTraces = false) (D : va_G) (cI cJ cZ cV cR : ClassId) (a : Nat → Nat) (C : CT) (VT : Nat → VRec) (RT : Nat → RRec) (hCI : CI cI cZ C VT RT) (o : Nat) (ov : Nat → Int64) (x : Int32) (y : Int32) (sd : Int64) (k : Int32) (sz : Nat) : Met l yL_group wsL_group rm_L_group (va_Pc [.ref (a 0), .int (x), .int (y), .long (sd), .int (k), .ref (o)] (GY D (tyK cI cJ cZ cV cR) (oW cJ o ov ++ (kW cI cJ cZ cV cR a C)) sz)) (va_Qi (fun rr u => D_group cI cJ cZ cV cR C VT RT x y sd k ov rr u) (fun u => GB D (tyK cI cJ cZ cV cR) (va_A (oW cJ o ov ++ (kW cI cJ cZ cV cR a C)) sz) (oW cJ o u.1 ++ kW cI cJ cZ cV cR a u.2)) (va_A (oW cJ o ov ++ (kW cI cJ cZ cV cR a C)) sz)) 1 6 (va_A (oW cJ o ov ++ (kW cI cJ cZ cV cR a C)) sz) := by
  obtain ⟨hM, hPR, hAI, hal, hgr⟩ := id hCI
  refine met_ofWH (cc := cL_group) (maxL := 8) (ret := (some .int)) (by decide) rfl ?_
  intro p e s m args below meth c s₁ B hml hv
  obtain ⟨rfl, ⟨hsz, hP, hK, hD0⟩, hYE⟩ := hv
  have hx := B.exec
  have hb := B.bytes
  have hr := B.returns
  have hts := atoms_spec (ws := wsL_group) B.pre
  have hown : s.vm.findClass RL = some m.cls := findClass_of_methodNamed B.named
  have hlocks := B.notSynchronized
  have htab := vx_table (x := yL_group) B (hts _ List.mem_cons_self)
  subst hsz
  have hD := hD0.self (sz := s.heap.size)
  generalize hAe : va_A (oW cJ o ov ++ (kW cI cJ cZ cV cR a C)) s.heap.size = A at hD hYE ⊢
  have hA : ∀ q : Nat, s.heap.size ≤ q → A q := fun q h => by rw [← hAe]; exact Or.inr h
  have hS : va_S A s.heap s.heap [] := va_S.rf
  have hf0 := hts (.classLink RL 13 "java/lang/IndexOutOfBoundsException") (by decide +kernel)
  have hf1 := hts (.classLink RL 39 "java/lang/IllegalArgumentException") (by decide +kernel)
  have hl := lv_entry ([.ref (a 0), .int (x), .int (y), .long (sd), .int (k), .ref (o)]) (n := 8) (Nat.le_of_ble_eq_true rfl)
  rw [lg_entry_eq]
  generalize (lg_sl ([.ref (a 0), .int (x), .int (y), .long (sd), .int (k), .ref (o)]) ++ List.replicate (8 - (lg_sl ([.ref (a 0), .int (x), .int (y), .long (sd), .int (k), .ref (o)])).length) Slot.unset).toArray = ls at hl ⊢
  have hl : lv_has ls 8 [(0, .ref (a 0)), (1, .int (x)), (2, .int (y)), (3, .long (sd)), (5, .int (k)), (6, .ref (o))] := hl
  refine lv_aload hx hb dL_group_0 (lv_at hl 5 rfl) ?_
  refine lv_iconst (v := nI (0)) hx hb dL_group_2 (by decide) ?_
  refine lv_aload_n hx hb dL_group_3 rfl (lv_at hl 0 rfl) ?_
  refine lv_iload_n hx hb dL_group_4 rfl (lv_at hl 1 rfl) ?_
  refine lv_iload_n hx hb dL_group_5 rfl (lv_at hl 2 rfl) ?_
  refine lv_lload_n hx hb dL_group_6 rfl (lv_at hl 3 rfl) ?_
  refine lv_iload hx hb dL_group_7 (lv_at hl 4 rfl) ?_
  rcases Classical.em (bdX x (k_vc C)) with hbad | hbad
  · refine wf_X (rest := [.int (nI (0)), .ref (o)]) (X := oW cJ o ov) (wf := kW cI cJ cZ cV cR a) ⟨hx, hb, hml, hown, hts⟩ (x_X5_group_v l htr D cI cJ cZ cV cR a C hM x y sd k hbad s.heap.size) (cwV 4 hts gL_group_X5_group rfl rfl rfl (by decide +kernel) ⟨Nat.le_of_ble_eq_true rfl, Nat.le_of_ble_eq_true rfl⟩) hP hK hD hS hA hYE.1 0 rfl rfl rfl hl.1 rfl (Nat.le_of_ble_eq_true rfl) dL_group_9 ⟨Nat.le_of_ble_eq_true rfl, Nat.le_of_ble_eq_true rfl⟩ (fun u hu H locs ce q9 hP hD hS hce hcv hcl => ?_)
    refine vx_catch (name := "java/lang/IndexOutOfBoundsException") hown [] ⟨0, 13, 16, 13⟩ [⟨0, 13, 20, 39⟩] (htab.trans rfl) (fun z hz => nomatch hz) (by decide) (by decide) hf0 (va_Nw.use rfl (hYE.1.2.2.2.1 "java/lang/IndexOutOfBoundsException" (by decide))) hce hcv hcl ?_
    refine W.widen (k := 1) (n := 6) (Nat.le_refl _) (Nat.le_refl _) ?_
    refine lv_astore (lv' := [(7, .ref (q9)), (0, .ref (a 0)), (1, .int (x)), (2, .int (y)), (3, .long (sd)), (5, .int (k)), (6, .ref (o))]) hx hb dL_group_16 hl (by decide) rfl (fun ls hl => ?_)
    refine lv_iconst (v := nI (1)) hx hb dL_group_18 (by decide) ?_
    exact W.iret (v := nI (1)) hx hb hr (fun t ht hW => ⟨⟨_, (ov, u), rfl, (Or.inl ⟨hbad, ⟨rfl, rfl, hu⟩⟩), gb_mk ht hW hP hK hD⟩, hS.F ht⟩) hS.2.2 dL_group_19
  · obtain ⟨i, hi, rfl⟩ := nI_ex hbad
    obtain ⟨hq9, hV, hI, hZ, hb1, hb2, hb3, hb4, hb5, hb6, hb7⟩ := hPR.1 i hi
    rcases Classical.em (bdX k ((VT i).g)) with hbad | hbad
    · refine wf_X (rest := [.int (nI (0)), .ref (o)]) (X := oW cJ o ov) (wf := kW cI cJ cZ cV cR a) ⟨hx, hb, hml, hown, hts⟩ (x_X5_group_g l htr D cI cJ cZ cV cR a C hM (VT i).q (VT i).hs (VT i).se (VT i).c (VT i).g (VT i).st (VT i).r (VT i).n (VT i).f hV hI hb1 hb2 hb3 hb4 hb5 hb6 i hi hq9 y sd k hbad s.heap.size) (cwV 4 hts gL_group_X5_group rfl rfl rfl (by decide +kernel) ⟨Nat.le_of_ble_eq_true rfl, Nat.le_of_ble_eq_true rfl⟩) hP hK hD hS hA hYE.1 0 rfl rfl rfl hl.1 rfl (Nat.le_of_ble_eq_true rfl) dL_group_9 ⟨Nat.le_of_ble_eq_true rfl, Nat.le_of_ble_eq_true rfl⟩ (fun u hu H locs ce q9 hP hD hS hce hcv hcl => ?_)
      refine vx_catch (name := "java/lang/IndexOutOfBoundsException") hown [] ⟨0, 13, 16, 13⟩ [⟨0, 13, 20, 39⟩] (htab.trans rfl) (fun z hz => nomatch hz) (by decide) (by decide) hf0 (va_Nw.use rfl (hYE.1.2.2.2.1 "java/lang/IndexOutOfBoundsException" (by decide))) hce hcv hcl ?_
      refine W.widen (k := 1) (n := 6) (Nat.le_refl _) (Nat.le_refl _) ?_
      refine lv_astore (lv' := [(7, .ref (q9)), (0, .ref (a 0)), (1, .int (nI (i))), (2, .int (y)), (3, .long (sd)), (5, .int (k)), (6, .ref (o))]) hx hb dL_group_16 hl (by decide) rfl (fun ls hl => ?_)
      refine lv_iconst (v := nI (1)) hx hb dL_group_18 (by decide) ?_
      exact W.iret (v := nI (1)) hx hb hr (fun t ht hW => ⟨⟨_, (ov, u), rfl, (Or.inr (⟨i, hi, rfl, (Or.inl ⟨hbad, ⟨rfl, rfl, hu⟩⟩)⟩)), gb_mk ht hW hP hK hD⟩, hS.F ht⟩) hS.2.2 dL_group_19
    · obtain ⟨k9, hk9, rfl⟩ := nI_ex hbad
      rcases Classical.em (bdX y (3)) with hbad | hbad
      · refine wf_X (rest := [.int (nI (0)), .ref (o)]) (X := oW cJ o ov) (wf := kW cI cJ cZ cV cR a) ⟨hx, hb, hml, hown, hts⟩ (x_X5_group_k l htr D cI cJ cZ cV cR a C hM (VT i).q (VT i).hs (VT i).se (VT i).c (VT i).g (VT i).st (VT i).r (VT i).n (VT i).f hV hI hb1 hb2 hb3 hb4 hb5 hb6 i hi hq9 y sd k9 hk9 hbad s.heap.size) (cwV 4 hts gL_group_X5_group rfl rfl rfl (by decide +kernel) ⟨Nat.le_of_ble_eq_true rfl, Nat.le_of_ble_eq_true rfl⟩) hP hK hD hS hA hYE.1 0 rfl rfl rfl hl.1 rfl (Nat.le_of_ble_eq_true rfl) dL_group_9 ⟨Nat.le_of_ble_eq_true rfl, Nat.le_of_ble_eq_true rfl⟩ (fun u hu H locs ce q9 hP hD hS hce hcv hcl => ?_)
        refine vx_catch (name := "java/lang/IllegalArgumentException") hown [⟨0, 13, 16, 13⟩] ⟨0, 13, 20, 39⟩ [] (htab.trans rfl) (fun z hz => by simp only [List.mem_cons, List.not_mem_nil, or_false] at hz; rcases hz with rfl <;> first | exact Or.inr ⟨by decide, "java/lang/IndexOutOfBoundsException", hf0, hYE.2.2 ("java/lang/IllegalArgumentException", "java/lang/IndexOutOfBoundsException") (by decide)⟩) (by decide) (by decide) hf1 (va_Nw.use rfl (hYE.1.2.2.2.1 "java/lang/IllegalArgumentException" (by decide))) hce hcv hcl ?_
        refine W.widen (k := 1) (n := 6) (Nat.le_refl _) (Nat.le_refl _) ?_
        refine lv_astore (lv' := [(7, .ref (q9)), (0, .ref (a 0)), (1, .int (nI (i))), (2, .int (y)), (3, .long (sd)), (5, .int (nI (k9))), (6, .ref (o))]) hx hb dL_group_20 hl (by decide) rfl (fun ls hl => ?_)
        refine lv_iconst (v := nI (2)) hx hb dL_group_22 (by decide) ?_
        exact W.iret (v := nI (2)) hx hb hr (fun t ht hW => ⟨⟨_, (ov, u), rfl, (Or.inr (⟨i, hi, rfl, (Or.inr (⟨k9, hk9, rfl, (Or.inl ⟨hbad, ⟨rfl, rfl, hu⟩⟩)⟩))⟩)), gb_mk ht hW hP hK hD⟩, hS.F ht⟩) hS.2.2 dL_group_23
      · obtain ⟨kd, hkd, rfl⟩ := nI_ex hbad
        refine wf_VWl (rest := [.int (nI (0)), .ref (o)]) (X := oW cJ o ov) (wf := kW cI cJ cZ cV cR a) ⟨hx, hb, hml, hown, hts⟩ (c_X5_group l D cI cJ cZ cV cR a C hM (VT i).q (VT i).hs (VT i).se (VT i).c (VT i).g (VT i).st (VT i).r (VT i).n (VT i).f hV hI hb1 hb2 hb3 hb4 hb5 hb6 i hi hq9 kd sd k9 hkd hk9 (hgr i hi kd sd k9 hkd hk9).1 (hgr i hi kd sd k9 hkd hk9).2 s.heap.size) (cwV 4 hts gL_group_X5_group rfl rfl rfl (by decide +kernel) ⟨Nat.le_of_ble_eq_true rfl, Nat.le_of_ble_eq_true rfl⟩) hP hK hD hS hA 0 rfl rfl rfl hl.1 rfl (Nat.le_of_ble_eq_true rfl) dL_group_9 ⟨Nat.le_of_ble_eq_true rfl, Nat.le_of_ble_eq_true rfl⟩ (fun rr9 u hu H locs hP hD hS => ?_)
        refine W.widen (k := 0) (n := 0) (Nat.le_refl _) (Nat.le_refl _) ?_
        refine wa_lst (i := 0) hx hb hK hP hD hS 0 1 rfl rfl (by decide) (by decide) dL_group_12 (fun H locs hP hD hS => ?_)
        have hP : va_P D vwCl (oW cJ o (va_up ov 0 (rr9)) ++ (kW cI cJ cZ cV cR a u)) H := hP
        have hD : va_D A (oW cJ o (va_up ov 0 (rr9)) ++ (kW cI cJ cZ cV cR a u)) := hD
        refine lv_goto (tgt := 24) hx hb dL_group_13 (by decide) ?_
        refine lv_iconst (v := nI (0)) hx hb dL_group_24 (by decide) ?_
        refine W.widen (k := 1) (n := 6) (Nat.le_of_ble_eq_true rfl) (Nat.le_of_ble_eq_true rfl) ?_
        exact W.iret (v := nI (0)) hx hb hr (fun t ht hW => ⟨⟨_, (va_up ov 0 (rr9), u), rfl, (Or.inr (⟨i, hi, rfl, (Or.inr (⟨k9, hk9, rfl, (Or.inr (⟨kd, hkd, rfl, ⟨rfl, rr9, rfl, hu⟩⟩))⟩))⟩)), gb_mk ht hW hP hK hD⟩, hS.F ht⟩) hS.2.2 dL_group_25
def D_counted (cI cJ cZ cV cR : ClassId) (C : CT) (VT : Nat → VRec) (RT : Nat → RRec) (x : Int32) (y : Int32) (sd : Int64) (k : Int32) (ov : Nat → Int64) (rr : Int32) (u : (Nat → Int64) × CT) : Prop := ((bdX x (k_vc C)) ∧ rr = nI 1 ∧ u.1 = ov ∧ (u.2 = C)) ∨ (∃ i, i < k_vc C ∧ x = nI i ∧ (((bdX k ((VT i).g)) ∧ rr = nI 1 ∧ u.1 = ov ∧ (u.2 = C)) ∨ (∃ k9, k9 < (VT i).g ∧ k = nI k9 ∧ (((bdX y (3)) ∧ rr = nI 2 ∧ u.1 = ov ∧ (u.2 = C)) ∨ (∃ kd, kd < 3 ∧ y = nI kd ∧ (rr = nI 0 ∧ ∃ rr9, u.1 = va_up ov 0 ((rr9).toInt64) ∧ (rr9 = nI (k_kc (ngM (rkM C (VT i).f (VT i).c kd sd) k9)) ∧ u.2 = ngM (rkM C (VT i).f (VT i).c kd sd) k9)))))))
def rm_L_counted : Room := { frames := 10, cells := 1, slots := 6, locals := 176 }
set_option maxHeartbeats 4000000 in
set_option maxRecDepth 100000 in
theorem w_L_counted (l : Launch) (htr : l.stackTraces = false) (D : va_G) (cI cJ cZ cV cR : ClassId) (a : Nat → Nat) (C : CT) (VT : Nat → VRec) (RT : Nat → RRec) (hCI : CI cI cZ C VT RT) (o : Nat) (ov : Nat → Int64) (x : Int32) (y : Int32) (sd : Int64) (k : Int32) (sz : Nat) : Met l yL_counted wsL_counted rm_L_counted (va_Pc [.ref (a 0), .int (x), .int (y), .long (sd), .int (k), .ref (o)] (GY D (tyK cI cJ cZ cV cR) (oW cJ o ov ++ (kW cI cJ cZ cV cR a C)) sz)) (va_Qi (fun rr u => D_counted cI cJ cZ cV cR C VT RT x y sd k ov rr u) (fun u => GB D (tyK cI cJ cZ cV cR) (va_A (oW cJ o ov ++ (kW cI cJ cZ cV cR a C)) sz) (oW cJ o u.1 ++ kW cI cJ cZ cV cR a u.2)) (va_A (oW cJ o ov ++ (kW cI cJ cZ cV cR a C)) sz)) 1 6 (va_A (oW cJ o ov ++ (kW cI cJ cZ cV cR a C)) sz) := by
  obtain ⟨hM, hPR, hAI, hal, hgr⟩ := id hCI
  refine met_ofWH (cc := cL_counted) (maxL := 8) (ret := (some .int)) (by decide) rfl ?_
  intro p e s m args below meth c s₁ B hml hv
  obtain ⟨rfl, ⟨hsz, hP, hK, hD0⟩, hYE⟩ := hv
  have hx := B.exec
  have hb := B.bytes
  have hr := B.returns
  have hts := atoms_spec (ws := wsL_counted) B.pre
  have hown : s.vm.findClass RL = some m.cls := findClass_of_methodNamed B.named
  have hlocks := B.notSynchronized
  have htab := vx_table (x := yL_counted) B (hts _ List.mem_cons_self)
  subst hsz
  have hD := hD0.self (sz := s.heap.size)
  generalize hAe : va_A (oW cJ o ov ++ (kW cI cJ cZ cV cR a C)) s.heap.size = A at hD hYE ⊢
  have hA : ∀ q : Nat, s.heap.size ≤ q → A q := fun q h => by rw [← hAe]; exact Or.inr h
  have hS : va_S A s.heap s.heap [] := va_S.rf
  have hf0 := hts (.classLink RL 13 "java/lang/IndexOutOfBoundsException") (by decide +kernel)
  have hf1 := hts (.classLink RL 39 "java/lang/IllegalArgumentException") (by decide +kernel)
  have hl := lv_entry ([.ref (a 0), .int (x), .int (y), .long (sd), .int (k), .ref (o)]) (n := 8) (Nat.le_of_ble_eq_true rfl)
  rw [lg_entry_eq]
  generalize (lg_sl ([.ref (a 0), .int (x), .int (y), .long (sd), .int (k), .ref (o)]) ++ List.replicate (8 - (lg_sl ([.ref (a 0), .int (x), .int (y), .long (sd), .int (k), .ref (o)])).length) Slot.unset).toArray = ls at hl ⊢
  have hl : lv_has ls 8 [(0, .ref (a 0)), (1, .int (x)), (2, .int (y)), (3, .long (sd)), (5, .int (k)), (6, .ref (o))] := hl
  refine lv_aload hx hb dL_counted_0 (lv_at hl 5 rfl) ?_
  refine lv_iconst (v := nI (0)) hx hb dL_counted_2 (by decide) ?_
  refine lv_aload_n hx hb dL_counted_3 rfl (lv_at hl 0 rfl) ?_
  refine lv_iload_n hx hb dL_counted_4 rfl (lv_at hl 1 rfl) ?_
  refine lv_iload_n hx hb dL_counted_5 rfl (lv_at hl 2 rfl) ?_
  refine lv_lload_n hx hb dL_counted_6 rfl (lv_at hl 3 rfl) ?_
  refine lv_iload hx hb dL_counted_7 (lv_at hl 4 rfl) ?_
  rcases Classical.em (bdX x (k_vc C)) with hbad | hbad
  · refine wf_X (rest := [.int (nI (0)), .ref (o)]) (X := oW cJ o ov) (wf := kW cI cJ cZ cV cR a) ⟨hx, hb, hml, hown, hts⟩ (x_X5_counted_v l htr D cI cJ cZ cV cR a C hM x y sd k hbad s.heap.size) (cwV 4 hts gL_counted_X5_counted rfl rfl rfl (by decide +kernel) ⟨Nat.le_of_ble_eq_true rfl, Nat.le_of_ble_eq_true rfl⟩) hP hK hD hS hA hYE.1 0 rfl rfl rfl hl.1 rfl (Nat.le_of_ble_eq_true rfl) dL_counted_9 ⟨Nat.le_of_ble_eq_true rfl, Nat.le_of_ble_eq_true rfl⟩ (fun u hu H locs ce q9 hP hD hS hce hcv hcl => ?_)
    refine vx_catch (name := "java/lang/IndexOutOfBoundsException") hown [] ⟨0, 14, 17, 13⟩ [⟨0, 14, 21, 39⟩] (htab.trans rfl) (fun z hz => nomatch hz) (by decide) (by decide) hf0 (va_Nw.use rfl (hYE.1.2.2.2.1 "java/lang/IndexOutOfBoundsException" (by decide))) hce hcv hcl ?_
    refine W.widen (k := 1) (n := 6) (Nat.le_refl _) (Nat.le_refl _) ?_
    refine lv_astore (lv' := [(7, .ref (q9)), (0, .ref (a 0)), (1, .int (x)), (2, .int (y)), (3, .long (sd)), (5, .int (k)), (6, .ref (o))]) hx hb dL_counted_17 hl (by decide) rfl (fun ls hl => ?_)
    refine lv_iconst (v := nI (1)) hx hb dL_counted_19 (by decide) ?_
    exact W.iret (v := nI (1)) hx hb hr (fun t ht hW => ⟨⟨_, (ov, u), rfl, (Or.inl ⟨hbad, ⟨rfl, rfl, hu⟩⟩), gb_mk ht hW hP hK hD⟩, hS.F ht⟩) hS.2.2 dL_counted_20
  · obtain ⟨i, hi, rfl⟩ := nI_ex hbad
    obtain ⟨hq9, hV, hI, hZ, hb1, hb2, hb3, hb4, hb5, hb6, hb7⟩ := hPR.1 i hi
    rcases Classical.em (bdX k ((VT i).g)) with hbad | hbad
    · refine wf_X (rest := [.int (nI (0)), .ref (o)]) (X := oW cJ o ov) (wf := kW cI cJ cZ cV cR a) ⟨hx, hb, hml, hown, hts⟩ (x_X5_counted_g l htr D cI cJ cZ cV cR a C hM (VT i).q (VT i).hs (VT i).se (VT i).c (VT i).g (VT i).st (VT i).r (VT i).n (VT i).f hV hI hb1 hb2 hb3 hb4 hb5 hb6 i hi hq9 y sd k hbad s.heap.size) (cwV 4 hts gL_counted_X5_counted rfl rfl rfl (by decide +kernel) ⟨Nat.le_of_ble_eq_true rfl, Nat.le_of_ble_eq_true rfl⟩) hP hK hD hS hA hYE.1 0 rfl rfl rfl hl.1 rfl (Nat.le_of_ble_eq_true rfl) dL_counted_9 ⟨Nat.le_of_ble_eq_true rfl, Nat.le_of_ble_eq_true rfl⟩ (fun u hu H locs ce q9 hP hD hS hce hcv hcl => ?_)
      refine vx_catch (name := "java/lang/IndexOutOfBoundsException") hown [] ⟨0, 14, 17, 13⟩ [⟨0, 14, 21, 39⟩] (htab.trans rfl) (fun z hz => nomatch hz) (by decide) (by decide) hf0 (va_Nw.use rfl (hYE.1.2.2.2.1 "java/lang/IndexOutOfBoundsException" (by decide))) hce hcv hcl ?_
      refine W.widen (k := 1) (n := 6) (Nat.le_refl _) (Nat.le_refl _) ?_
      refine lv_astore (lv' := [(7, .ref (q9)), (0, .ref (a 0)), (1, .int (nI (i))), (2, .int (y)), (3, .long (sd)), (5, .int (k)), (6, .ref (o))]) hx hb dL_counted_17 hl (by decide) rfl (fun ls hl => ?_)
      refine lv_iconst (v := nI (1)) hx hb dL_counted_19 (by decide) ?_
      exact W.iret (v := nI (1)) hx hb hr (fun t ht hW => ⟨⟨_, (ov, u), rfl, (Or.inr (⟨i, hi, rfl, (Or.inl ⟨hbad, ⟨rfl, rfl, hu⟩⟩)⟩)), gb_mk ht hW hP hK hD⟩, hS.F ht⟩) hS.2.2 dL_counted_20
    · obtain ⟨k9, hk9, rfl⟩ := nI_ex hbad
      rcases Classical.em (bdX y (3)) with hbad | hbad
      · refine wf_X (rest := [.int (nI (0)), .ref (o)]) (X := oW cJ o ov) (wf := kW cI cJ cZ cV cR a) ⟨hx, hb, hml, hown, hts⟩ (x_X5_counted_k l htr D cI cJ cZ cV cR a C hM (VT i).q (VT i).hs (VT i).se (VT i).c (VT i).g (VT i).st (VT i).r (VT i).n (VT i).f hV hI hb1 hb2 hb3 hb4 hb5 hb6 i hi hq9 y sd k9 hk9 hbad s.heap.size) (cwV 4 hts gL_counted_X5_counted rfl rfl rfl (by decide +kernel) ⟨Nat.le_of_ble_eq_true rfl, Nat.le_of_ble_eq_true rfl⟩) hP hK hD hS hA hYE.1 0 rfl rfl rfl hl.1 rfl (Nat.le_of_ble_eq_true rfl) dL_counted_9 ⟨Nat.le_of_ble_eq_true rfl, Nat.le_of_ble_eq_true rfl⟩ (fun u hu H locs ce q9 hP hD hS hce hcv hcl => ?_)
        refine vx_catch (name := "java/lang/IllegalArgumentException") hown [⟨0, 14, 17, 13⟩] ⟨0, 14, 21, 39⟩ [] (htab.trans rfl) (fun z hz => by simp only [List.mem_cons, List.not_mem_nil, or_false] at hz; rcases hz with rfl <;> first | exact Or.inr ⟨by decide, "java/lang/IndexOutOfBoundsException", hf0, hYE.2.2 ("java/lang/IllegalArgumentException", "java/lang/IndexOutOfBoundsException") (by decide)⟩) (by decide) (by decide) hf1 (va_Nw.use rfl (hYE.1.2.2.2.1 "java/lang/IllegalArgumentException" (by decide))) hce hcv hcl ?_
        refine W.widen (k := 1) (n := 6) (Nat.le_refl _) (Nat.le_refl _) ?_
        refine lv_astore (lv' := [(7, .ref (q9)), (0, .ref (a 0)), (1, .int (nI (i))), (2, .int (y)), (3, .long (sd)), (5, .int (nI (k9))), (6, .ref (o))]) hx hb dL_counted_21 hl (by decide) rfl (fun ls hl => ?_)
        refine lv_iconst (v := nI (2)) hx hb dL_counted_23 (by decide) ?_
        exact W.iret (v := nI (2)) hx hb hr (fun t ht hW => ⟨⟨_, (ov, u), rfl, (Or.inr (⟨i, hi, rfl, (Or.inr (⟨k9, hk9, rfl, (Or.inl ⟨hbad, ⟨rfl, rfl, hu⟩⟩)⟩))⟩)), gb_mk ht hW hP hK hD⟩, hS.F ht⟩) hS.2.2 dL_counted_24
      · obtain ⟨kd, hkd, rfl⟩ := nI_ex hbad
        refine wf_VWi (rest := [.int (nI (0)), .ref (o)]) (X := oW cJ o ov) (wf := kW cI cJ cZ cV cR a) ⟨hx, hb, hml, hown, hts⟩ (c_X5_counted l D cI cJ cZ cV cR a C hM (VT i).q (VT i).hs (VT i).se (VT i).c (VT i).g (VT i).st (VT i).r (VT i).n (VT i).f hV hI hb1 hb2 hb3 hb4 hb5 hb6 i hi hq9 kd sd k9 hkd hk9 (hgr i hi kd sd k9 hkd hk9).1 s.heap.size) (cwV 4 hts gL_counted_X5_counted rfl rfl rfl (by decide +kernel) ⟨Nat.le_of_ble_eq_true rfl, Nat.le_of_ble_eq_true rfl⟩) hP hK hD hS hA 0 rfl rfl rfl hl.1 rfl (Nat.le_of_ble_eq_true rfl) dL_counted_9 ⟨Nat.le_of_ble_eq_true rfl, Nat.le_of_ble_eq_true rfl⟩ (fun rr9 u hu H locs hP hD hS => ?_)
        refine W.widen (k := 0) (n := 0) (Nat.le_refl _) (Nat.le_refl _) ?_
        refine lv_i2l (v := (rr9).toInt64) hx hb dL_counted_12 rfl ?_
        refine wa_lst (i := 0) hx hb hK hP hD hS 0 1 rfl rfl (by decide) (by decide) dL_counted_13 (fun H locs hP hD hS => ?_)
        have hP : va_P D vwCl (oW cJ o (va_up ov 0 ((rr9).toInt64)) ++ (kW cI cJ cZ cV cR a u)) H := hP
        have hD : va_D A (oW cJ o (va_up ov 0 ((rr9).toInt64)) ++ (kW cI cJ cZ cV cR a u)) := hD
        refine lv_goto (tgt := 25) hx hb dL_counted_14 (by decide) ?_
        refine lv_iconst (v := nI (0)) hx hb dL_counted_25 (by decide) ?_
        refine W.widen (k := 1) (n := 6) (Nat.le_of_ble_eq_true rfl) (Nat.le_of_ble_eq_true rfl) ?_
        exact W.iret (v := nI (0)) hx hb hr (fun t ht hW => ⟨⟨_, (va_up ov 0 ((rr9).toInt64), u), rfl, (Or.inr (⟨i, hi, rfl, (Or.inr (⟨k9, hk9, rfl, (Or.inr (⟨kd, hkd, rfl, ⟨rfl, rr9, rfl, hu⟩⟩))⟩))⟩)), gb_mk ht hW hP hK hD⟩, hS.F ht⟩) hS.2.2 dL_counted_26
def D_best (cI cJ cZ cV cR : ClassId) (C : CT) (VT : Nat → VRec) (RT : Nat → RRec) (x : Int32) (y : Int32) (sd : Int64) (k : Int32) (j : Int32) (ov : Nat → Int64) (rr : Int32) (u : (Nat → Int64) × CT) : Prop := ((bdX x (k_vc C)) ∧ rr = nI 1 ∧ u.1 = ov ∧ (u.2 = C)) ∨ (∃ i, i < k_vc C ∧ x = nI i ∧ (((bdX k ((VT i).g)) ∧ rr = nI 1 ∧ u.1 = ov ∧ (u.2 = C)) ∨ (∃ k9, k9 < (VT i).g ∧ k = nI k9 ∧ (((bdX y (3)) ∧ rr = nI 2 ∧ u.1 = ov ∧ (u.2 = C)) ∨ (∃ kd, kd < 3 ∧ y = nI kd ∧ (((bdX j (k_kc (ngM (rkM C (VT i).f (VT i).c kd sd) k9))) ∧ rr = nI 1 ∧ u.1 = ov ∧ (u.2 = ngM (rkM C (VT i).f (VT i).c kd sd) k9)) ∨ (∃ j9, j9 < k_kc (ngM (rkM C (VT i).f (VT i).c kd sd) k9) ∧ j = nI j9 ∧ (rr = nI 0 ∧ ∃ rr9, u.1 = va_up ov 0 ((rr9).toInt64) ∧ (rr9 = nI (k_row (ngM (rkM C (VT i).f (VT i).c kd sd) k9) j9) ∧ u.2 = ngM (rkM C (VT i).f (VT i).c kd sd) k9)))))))))
def rm_L_best : Room := { frames := 10, cells := 1, slots := 6, locals := 177 }
set_option maxHeartbeats 4000000 in
set_option maxRecDepth 100000 in
theorem w_L_best (l : Launch) (htr : l.stackTraces = false) (D : va_G) (cI cJ cZ cV cR : ClassId) (a : Nat → Nat) (C : CT) (VT : Nat → VRec) (RT : Nat → RRec) (hCI : CI cI cZ C VT RT) (o : Nat) (ov : Nat → Int64) (x : Int32) (y : Int32) (sd : Int64) (k : Int32) (j : Int32) (sz : Nat) : Met l yL_best wsL_best rm_L_best (va_Pc [.ref (a 0), .int (x), .int (y), .long (sd), .int (k), .int (j), .ref (o)] (GY D (tyK cI cJ cZ cV cR) (oW cJ o ov ++ (kW cI cJ cZ cV cR a C)) sz)) (va_Qi (fun rr u => D_best cI cJ cZ cV cR C VT RT x y sd k j ov rr u) (fun u => GB D (tyK cI cJ cZ cV cR) (va_A (oW cJ o ov ++ (kW cI cJ cZ cV cR a C)) sz) (oW cJ o u.1 ++ kW cI cJ cZ cV cR a u.2)) (va_A (oW cJ o ov ++ (kW cI cJ cZ cV cR a C)) sz)) 1 6 (va_A (oW cJ o ov ++ (kW cI cJ cZ cV cR a C)) sz) := by
  obtain ⟨hM, hPR, hAI, hal, hgr⟩ := id hCI
  refine met_ofWH (cc := cL_best) (maxL := 9) (ret := (some .int)) (by decide) rfl ?_
  intro p e s m args below meth c s₁ B hml hv
  obtain ⟨rfl, ⟨hsz, hP, hK, hD0⟩, hYE⟩ := hv
  have hx := B.exec
  have hb := B.bytes
  have hr := B.returns
  have hts := atoms_spec (ws := wsL_best) B.pre
  have hown : s.vm.findClass RL = some m.cls := findClass_of_methodNamed B.named
  have hlocks := B.notSynchronized
  have htab := vx_table (x := yL_best) B (hts _ List.mem_cons_self)
  subst hsz
  have hD := hD0.self (sz := s.heap.size)
  generalize hAe : va_A (oW cJ o ov ++ (kW cI cJ cZ cV cR a C)) s.heap.size = A at hD hYE ⊢
  have hA : ∀ q : Nat, s.heap.size ≤ q → A q := fun q h => by rw [← hAe]; exact Or.inr h
  have hS : va_S A s.heap s.heap [] := va_S.rf
  have hf0 := hts (.classLink RL 13 "java/lang/IndexOutOfBoundsException") (by decide +kernel)
  have hf1 := hts (.classLink RL 39 "java/lang/IllegalArgumentException") (by decide +kernel)
  have hl := lv_entry ([.ref (a 0), .int (x), .int (y), .long (sd), .int (k), .int (j), .ref (o)]) (n := 9) (Nat.le_of_ble_eq_true rfl)
  rw [lg_entry_eq]
  generalize (lg_sl ([.ref (a 0), .int (x), .int (y), .long (sd), .int (k), .int (j), .ref (o)]) ++ List.replicate (9 - (lg_sl ([.ref (a 0), .int (x), .int (y), .long (sd), .int (k), .int (j), .ref (o)])).length) Slot.unset).toArray = ls at hl ⊢
  have hl : lv_has ls 9 [(0, .ref (a 0)), (1, .int (x)), (2, .int (y)), (3, .long (sd)), (5, .int (k)), (6, .int (j)), (7, .ref (o))] := hl
  refine lv_aload hx hb dL_best_0 (lv_at hl 6 rfl) ?_
  refine lv_iconst (v := nI (0)) hx hb dL_best_2 (by decide) ?_
  refine lv_aload_n hx hb dL_best_3 rfl (lv_at hl 0 rfl) ?_
  refine lv_iload_n hx hb dL_best_4 rfl (lv_at hl 1 rfl) ?_
  refine lv_iload_n hx hb dL_best_5 rfl (lv_at hl 2 rfl) ?_
  refine lv_lload_n hx hb dL_best_6 rfl (lv_at hl 3 rfl) ?_
  refine lv_iload hx hb dL_best_7 (lv_at hl 4 rfl) ?_
  refine lv_iload hx hb dL_best_9 (lv_at hl 5 rfl) ?_
  rcases Classical.em (bdX x (k_vc C)) with hbad | hbad
  · refine wf_X (rest := [.int (nI (0)), .ref (o)]) (X := oW cJ o ov) (wf := kW cI cJ cZ cV cR a) ⟨hx, hb, hml, hown, hts⟩ (x_X5_best_v l htr D cI cJ cZ cV cR a C hM x y sd k j hbad s.heap.size) (cwV 5 hts gL_best_X5_best rfl rfl rfl (by decide +kernel) ⟨Nat.le_of_ble_eq_true rfl, Nat.le_of_ble_eq_true rfl⟩) hP hK hD hS hA hYE.1 0 rfl rfl rfl hl.1 rfl (Nat.le_of_ble_eq_true rfl) dL_best_11 ⟨Nat.le_of_ble_eq_true rfl, Nat.le_of_ble_eq_true rfl⟩ (fun u hu H locs ce q9 hP hD hS hce hcv hcl => ?_)
    refine vx_catch (name := "java/lang/IndexOutOfBoundsException") hown [] ⟨0, 16, 19, 13⟩ [⟨0, 16, 23, 39⟩] (htab.trans rfl) (fun z hz => nomatch hz) (by decide) (by decide) hf0 (va_Nw.use rfl (hYE.1.2.2.2.1 "java/lang/IndexOutOfBoundsException" (by decide))) hce hcv hcl ?_
    refine W.widen (k := 1) (n := 6) (Nat.le_refl _) (Nat.le_refl _) ?_
    refine lv_astore (lv' := [(8, .ref (q9)), (0, .ref (a 0)), (1, .int (x)), (2, .int (y)), (3, .long (sd)), (5, .int (k)), (6, .int (j)), (7, .ref (o))]) hx hb dL_best_19 hl (by decide) rfl (fun ls hl => ?_)
    refine lv_iconst (v := nI (1)) hx hb dL_best_21 (by decide) ?_
    exact W.iret (v := nI (1)) hx hb hr (fun t ht hW => ⟨⟨_, (ov, u), rfl, (Or.inl ⟨hbad, ⟨rfl, rfl, hu⟩⟩), gb_mk ht hW hP hK hD⟩, hS.F ht⟩) hS.2.2 dL_best_22
  · obtain ⟨i, hi, rfl⟩ := nI_ex hbad
    obtain ⟨hq9, hV, hI, hZ, hb1, hb2, hb3, hb4, hb5, hb6, hb7⟩ := hPR.1 i hi
    rcases Classical.em (bdX k ((VT i).g)) with hbad | hbad
    · refine wf_X (rest := [.int (nI (0)), .ref (o)]) (X := oW cJ o ov) (wf := kW cI cJ cZ cV cR a) ⟨hx, hb, hml, hown, hts⟩ (x_X5_best_g l htr D cI cJ cZ cV cR a C hM (VT i).q (VT i).hs (VT i).se (VT i).c (VT i).g (VT i).st (VT i).r (VT i).n (VT i).f hV hI hb1 hb2 hb3 hb4 hb5 hb6 i hi hq9 y sd k j hbad s.heap.size) (cwV 5 hts gL_best_X5_best rfl rfl rfl (by decide +kernel) ⟨Nat.le_of_ble_eq_true rfl, Nat.le_of_ble_eq_true rfl⟩) hP hK hD hS hA hYE.1 0 rfl rfl rfl hl.1 rfl (Nat.le_of_ble_eq_true rfl) dL_best_11 ⟨Nat.le_of_ble_eq_true rfl, Nat.le_of_ble_eq_true rfl⟩ (fun u hu H locs ce q9 hP hD hS hce hcv hcl => ?_)
      refine vx_catch (name := "java/lang/IndexOutOfBoundsException") hown [] ⟨0, 16, 19, 13⟩ [⟨0, 16, 23, 39⟩] (htab.trans rfl) (fun z hz => nomatch hz) (by decide) (by decide) hf0 (va_Nw.use rfl (hYE.1.2.2.2.1 "java/lang/IndexOutOfBoundsException" (by decide))) hce hcv hcl ?_
      refine W.widen (k := 1) (n := 6) (Nat.le_refl _) (Nat.le_refl _) ?_
      refine lv_astore (lv' := [(8, .ref (q9)), (0, .ref (a 0)), (1, .int (nI (i))), (2, .int (y)), (3, .long (sd)), (5, .int (k)), (6, .int (j)), (7, .ref (o))]) hx hb dL_best_19 hl (by decide) rfl (fun ls hl => ?_)
      refine lv_iconst (v := nI (1)) hx hb dL_best_21 (by decide) ?_
      exact W.iret (v := nI (1)) hx hb hr (fun t ht hW => ⟨⟨_, (ov, u), rfl, (Or.inr (⟨i, hi, rfl, (Or.inl ⟨hbad, ⟨rfl, rfl, hu⟩⟩)⟩)), gb_mk ht hW hP hK hD⟩, hS.F ht⟩) hS.2.2 dL_best_22
    · obtain ⟨k9, hk9, rfl⟩ := nI_ex hbad
      rcases Classical.em (bdX y (3)) with hbad | hbad
      · refine wf_X (rest := [.int (nI (0)), .ref (o)]) (X := oW cJ o ov) (wf := kW cI cJ cZ cV cR a) ⟨hx, hb, hml, hown, hts⟩ (x_X5_best_k l htr D cI cJ cZ cV cR a C hM (VT i).q (VT i).hs (VT i).se (VT i).c (VT i).g (VT i).st (VT i).r (VT i).n (VT i).f hV hI hb1 hb2 hb3 hb4 hb5 hb6 i hi hq9 y sd k9 hk9 j hbad s.heap.size) (cwV 5 hts gL_best_X5_best rfl rfl rfl (by decide +kernel) ⟨Nat.le_of_ble_eq_true rfl, Nat.le_of_ble_eq_true rfl⟩) hP hK hD hS hA hYE.1 0 rfl rfl rfl hl.1 rfl (Nat.le_of_ble_eq_true rfl) dL_best_11 ⟨Nat.le_of_ble_eq_true rfl, Nat.le_of_ble_eq_true rfl⟩ (fun u hu H locs ce q9 hP hD hS hce hcv hcl => ?_)
        refine vx_catch (name := "java/lang/IllegalArgumentException") hown [⟨0, 16, 19, 13⟩] ⟨0, 16, 23, 39⟩ [] (htab.trans rfl) (fun z hz => by simp only [List.mem_cons, List.not_mem_nil, or_false] at hz; rcases hz with rfl <;> first | exact Or.inr ⟨by decide, "java/lang/IndexOutOfBoundsException", hf0, hYE.2.2 ("java/lang/IllegalArgumentException", "java/lang/IndexOutOfBoundsException") (by decide)⟩) (by decide) (by decide) hf1 (va_Nw.use rfl (hYE.1.2.2.2.1 "java/lang/IllegalArgumentException" (by decide))) hce hcv hcl ?_
        refine W.widen (k := 1) (n := 6) (Nat.le_refl _) (Nat.le_refl _) ?_
        refine lv_astore (lv' := [(8, .ref (q9)), (0, .ref (a 0)), (1, .int (nI (i))), (2, .int (y)), (3, .long (sd)), (5, .int (nI (k9))), (6, .int (j)), (7, .ref (o))]) hx hb dL_best_23 hl (by decide) rfl (fun ls hl => ?_)
        refine lv_iconst (v := nI (2)) hx hb dL_best_25 (by decide) ?_
        exact W.iret (v := nI (2)) hx hb hr (fun t ht hW => ⟨⟨_, (ov, u), rfl, (Or.inr (⟨i, hi, rfl, (Or.inr (⟨k9, hk9, rfl, (Or.inl ⟨hbad, ⟨rfl, rfl, hu⟩⟩)⟩))⟩)), gb_mk ht hW hP hK hD⟩, hS.F ht⟩) hS.2.2 dL_best_26
      · obtain ⟨kd, hkd, rfl⟩ := nI_ex hbad
        rcases Classical.em (bdX j (k_kc (ngM (rkM C (VT i).f (VT i).c kd sd) k9))) with hbad | hbad
        · refine wf_X (rest := [.int (nI (0)), .ref (o)]) (X := oW cJ o ov) (wf := kW cI cJ cZ cV cR a) ⟨hx, hb, hml, hown, hts⟩ (x_X5_best_j l htr D cI cJ cZ cV cR a C hM (VT i).q (VT i).hs (VT i).se (VT i).c (VT i).g (VT i).st (VT i).r (VT i).n (VT i).f hV hI hb1 hb2 hb3 hb4 hb5 hb6 i hi hq9 kd sd k9 hkd hk9 (hgr i hi kd sd k9 hkd hk9).1 j hbad s.heap.size) (cwV 5 hts gL_best_X5_best rfl rfl rfl (by decide +kernel) ⟨Nat.le_of_ble_eq_true rfl, Nat.le_of_ble_eq_true rfl⟩) hP hK hD hS hA hYE.1 0 rfl rfl rfl hl.1 rfl (Nat.le_of_ble_eq_true rfl) dL_best_11 ⟨Nat.le_of_ble_eq_true rfl, Nat.le_of_ble_eq_true rfl⟩ (fun u hu H locs ce q9 hP hD hS hce hcv hcl => ?_)
          refine vx_catch (name := "java/lang/IndexOutOfBoundsException") hown [] ⟨0, 16, 19, 13⟩ [⟨0, 16, 23, 39⟩] (htab.trans rfl) (fun z hz => nomatch hz) (by decide) (by decide) hf0 (va_Nw.use rfl (hYE.1.2.2.2.1 "java/lang/IndexOutOfBoundsException" (by decide))) hce hcv hcl ?_
          refine W.widen (k := 1) (n := 6) (Nat.le_refl _) (Nat.le_refl _) ?_
          refine lv_astore (lv' := [(8, .ref (q9)), (0, .ref (a 0)), (1, .int (nI (i))), (2, .int (nI (kd))), (3, .long (sd)), (5, .int (nI (k9))), (6, .int (j)), (7, .ref (o))]) hx hb dL_best_19 hl (by decide) rfl (fun ls hl => ?_)
          refine lv_iconst (v := nI (1)) hx hb dL_best_21 (by decide) ?_
          exact W.iret (v := nI (1)) hx hb hr (fun t ht hW => ⟨⟨_, (ov, u), rfl, (Or.inr (⟨i, hi, rfl, (Or.inr (⟨k9, hk9, rfl, (Or.inr (⟨kd, hkd, rfl, (Or.inl ⟨hbad, ⟨rfl, rfl, hu⟩⟩)⟩))⟩))⟩)), gb_mk ht hW hP hK hD⟩, hS.F ht⟩) hS.2.2 dL_best_22
        · obtain ⟨j9, hj9, rfl⟩ := nI_ex hbad
          refine wf_VWi (rest := [.int (nI (0)), .ref (o)]) (X := oW cJ o ov) (wf := kW cI cJ cZ cV cR a) ⟨hx, hb, hml, hown, hts⟩ (c_X5_best l D cI cJ cZ cV cR a C hM (VT i).q (VT i).hs (VT i).se (VT i).c (VT i).g (VT i).st (VT i).r (VT i).n (VT i).f hV hI hb1 hb2 hb3 hb4 hb5 hb6 i hi hq9 kd sd k9 hkd hk9 (hgr i hi kd sd k9 hkd hk9).1 j9 hj9 s.heap.size) (cwV 5 hts gL_best_X5_best rfl rfl rfl (by decide +kernel) ⟨Nat.le_of_ble_eq_true rfl, Nat.le_of_ble_eq_true rfl⟩) hP hK hD hS hA 0 rfl rfl rfl hl.1 rfl (Nat.le_of_ble_eq_true rfl) dL_best_11 ⟨Nat.le_of_ble_eq_true rfl, Nat.le_of_ble_eq_true rfl⟩ (fun rr9 u hu H locs hP hD hS => ?_)
          refine W.widen (k := 0) (n := 0) (Nat.le_refl _) (Nat.le_refl _) ?_
          refine lv_i2l (v := (rr9).toInt64) hx hb dL_best_14 rfl ?_
          refine wa_lst (i := 0) hx hb hK hP hD hS 0 1 rfl rfl (by decide) (by decide) dL_best_15 (fun H locs hP hD hS => ?_)
          have hP : va_P D vwCl (oW cJ o (va_up ov 0 ((rr9).toInt64)) ++ (kW cI cJ cZ cV cR a u)) H := hP
          have hD : va_D A (oW cJ o (va_up ov 0 ((rr9).toInt64)) ++ (kW cI cJ cZ cV cR a u)) := hD
          refine lv_goto (tgt := 27) hx hb dL_best_16 (by decide) ?_
          refine lv_iconst (v := nI (0)) hx hb dL_best_27 (by decide) ?_
          refine W.widen (k := 1) (n := 6) (Nat.le_of_ble_eq_true rfl) (Nat.le_of_ble_eq_true rfl) ?_
          exact W.iret (v := nI (0)) hx hb hr (fun t ht hW => ⟨⟨_, (va_up ov 0 ((rr9).toInt64), u), rfl, (Or.inr (⟨i, hi, rfl, (Or.inr (⟨k9, hk9, rfl, (Or.inr (⟨kd, hkd, rfl, (Or.inr (⟨j9, hj9, rfl, ⟨rfl, rr9, rfl, hu⟩⟩))⟩))⟩))⟩)), gb_mk ht hW hP hK hD⟩, hS.F ht⟩) hS.2.2 dL_best_28
def D_cursor (cI cJ cZ cV cR : ClassId) (C : CT) (VT : Nat → VRec) (RT : Nat → RRec) (x : Int32) (y : Int32) (sd : Int64) (z : Int32) (w : Int32) (kk : Int32) (ov : Nat → Int64) (rr : Int32) (u : (Nat → Int64) × CT) : Prop := ((bdX x (k_vc C)) ∧ rr = nI 1 ∧ u.1 = ov ∧ (u.2 = C)) ∨ (∃ i, i < k_vc C ∧ x = nI i ∧ (((bdX y (3)) ∧ rr = nI 2 ∧ u.1 = ov ∧ (u.2 = C)) ∨ (∃ kd, kd < 3 ∧ y = nI kd ∧ (((z.toInt < 1 ∨ 8 < z.toInt ∨ w.toInt < 0 ∨ z.toInt ≤ w.toInt) ∧ rr = nI 2 ∧ u.1 = ov ∧ (u.2 = C)) ∨ (∃ m k, 1 ≤ m ∧ m ≤ 8 ∧ k < m ∧ z = nI m ∧ w = nI k ∧ (((kk.toInt < ((1 : Nat) : Int) ∨ ((1000 : Nat) : Int) < kk.toInt) ∧ rr = nI 2 ∧ u.1 = ov ∧ (u.2 = C)) ∨ (∃ kp, 1 ≤ kp ∧ kp ≤ 1000 ∧ kk = nI kp ∧ ((((VT i).st ≠ 0) ∧ rr = nI 3 ∧ u.1 = ov ∧ (u.2 = C)) ∨ (¬ ((VT i).st ≠ 0) ∧ (rr = nI 0 ∧ ∃ rr9, u.1 = va_up ov 0 ((rr9).toInt64) ∧ ((60 ≤ k_rc C → rr9 = zI (-4) ∧ u.2 = C) ∧ (k_rc C < 60 → rr9 = nI (k_rc C) ∧ ∃ q1 q2 : Nat, q1 ∉ k_L (nsM (rkM C ((VT i).f) ((VT i).c) (kd) (sd)) (m) (k)) ∧ q2 ∉ k_L (nsM (rkM C ((VT i).f) ((VT i).c) (kd) (sd)) (m) (k)) ++ [q1] ∧ u.2 = cuC cI (nsM (rkM C ((VT i).f) ((VT i).c) (kd) (sd)) (m) (k)) (VT i).q (VT i).hs (VT i).se (VT i).c (VT i).g (VT i).st (VT i).r kp q1 q2))))))))))))
def rm_L_cursor : Room := { frames := 8, cells := 2, slots := 307, locals := 133 }
set_option maxHeartbeats 4000000 in
set_option maxRecDepth 100000 in
theorem w_L_cursor (l : Launch) (htr : l.stackTraces = false) (D : va_G) (cI cJ cZ cV cR : ClassId) (a : Nat → Nat) (C : CT) (VT : Nat → VRec) (RT : Nat → RRec) (hCI : CI cI cZ C VT RT) (o : Nat) (ov : Nat → Int64) (x : Int32) (y : Int32) (sd : Int64) (z : Int32) (w : Int32) (kk : Int32) (sz : Nat) : Met l yL_cursor wsL_cursor rm_L_cursor (va_Pc [.ref (a 0), .int (x), .int (y), .long (sd), .int (z), .int (w), .int (kk), .ref (o)] (GY D (tyK cI cJ cZ cV cR) (oW cJ o ov ++ (kW cI cJ cZ cV cR a C)) sz)) (va_Qi (fun rr u => D_cursor cI cJ cZ cV cR C VT RT x y sd z w kk ov rr u) (fun u => GB D (tyK cI cJ cZ cV cR) (va_A (oW cJ o ov ++ (kW cI cJ cZ cV cR a C)) sz) (oW cJ o u.1 ++ kW cI cJ cZ cV cR a u.2)) (va_A (oW cJ o ov ++ (kW cI cJ cZ cV cR a C)) sz)) 2 307 (va_A (oW cJ o ov ++ (kW cI cJ cZ cV cR a C)) sz) := by
  obtain ⟨hM, hPR, hAI, hal, hgr⟩ := id hCI
  refine met_ofWH (cc := cL_cursor) (maxL := 10) (ret := (some .int)) (by decide) rfl ?_
  intro p e s m args below meth c s₁ B hml hv
  obtain ⟨rfl, ⟨hsz, hP, hK, hD0⟩, hYE⟩ := hv
  have hx := B.exec
  have hb := B.bytes
  have hr := B.returns
  have hts := atoms_spec (ws := wsL_cursor) B.pre
  have hown : s.vm.findClass RL = some m.cls := findClass_of_methodNamed B.named
  have hlocks := B.notSynchronized
  have htab := vx_table (x := yL_cursor) B (hts _ List.mem_cons_self)
  subst hsz
  have hD := hD0.self (sz := s.heap.size)
  generalize hAe : va_A (oW cJ o ov ++ (kW cI cJ cZ cV cR a C)) s.heap.size = A at hD hYE ⊢
  have hA : ∀ q : Nat, s.heap.size ≤ q → A q := fun q h => by rw [← hAe]; exact Or.inr h
  have hS : va_S A s.heap s.heap [] := va_S.rf
  have hf0 := hts (.classLink RL 13 "java/lang/IndexOutOfBoundsException") (by decide +kernel)
  have hf1 := hts (.classLink RL 39 "java/lang/IllegalArgumentException") (by decide +kernel)
  have hf2 := hts (.classLink RL 27 "java/lang/IllegalStateException") (by decide +kernel)
  have hl := lv_entry ([.ref (a 0), .int (x), .int (y), .long (sd), .int (z), .int (w), .int (kk), .ref (o)]) (n := 10) (Nat.le_of_ble_eq_true rfl)
  rw [lg_entry_eq]
  generalize (lg_sl ([.ref (a 0), .int (x), .int (y), .long (sd), .int (z), .int (w), .int (kk), .ref (o)]) ++ List.replicate (10 - (lg_sl ([.ref (a 0), .int (x), .int (y), .long (sd), .int (z), .int (w), .int (kk), .ref (o)])).length) Slot.unset).toArray = ls at hl ⊢
  have hl : lv_has ls 10 [(0, .ref (a 0)), (1, .int (x)), (2, .int (y)), (3, .long (sd)), (5, .int (z)), (6, .int (w)), (7, .int (kk)), (8, .ref (o))] := hl
  refine lv_aload hx hb dL_cursor_0 (lv_at hl 7 rfl) ?_
  refine lv_iconst (v := nI (0)) hx hb dL_cursor_2 (by decide) ?_
  refine lv_aload_n hx hb dL_cursor_3 rfl (lv_at hl 0 rfl) ?_
  refine lv_iload_n hx hb dL_cursor_4 rfl (lv_at hl 1 rfl) ?_
  refine lv_iload_n hx hb dL_cursor_5 rfl (lv_at hl 2 rfl) ?_
  refine lv_lload_n hx hb dL_cursor_6 rfl (lv_at hl 3 rfl) ?_
  refine lv_iload hx hb dL_cursor_7 (lv_at hl 4 rfl) ?_
  refine lv_iload hx hb dL_cursor_9 (lv_at hl 5 rfl) ?_
  refine lv_iload hx hb dL_cursor_11 (lv_at hl 6 rfl) ?_
  rcases Classical.em (bdX x (k_vc C)) with hbad | hbad
  · refine wf_X (rest := [.int (nI (0)), .ref (o)]) (X := oW cJ o ov) (wf := kW cI cJ cZ cV cR a) ⟨hx, hb, hml, hown, hts⟩ (x_X5_cursor_v l htr D cI cJ cZ cV cR a C hM x y sd z w kk hbad s.heap.size) (cwV 6 hts gL_cursor_X5_cursor rfl rfl rfl (by decide +kernel) ⟨Nat.le_of_ble_eq_true rfl, Nat.le_of_ble_eq_true rfl⟩) hP hK hD hS hA hYE.1 0 rfl rfl rfl hl.1 rfl (Nat.le_of_ble_eq_true rfl) dL_cursor_13 ⟨Nat.le_of_ble_eq_true rfl, Nat.le_of_ble_eq_true rfl⟩ (fun u hu H locs ce q9 hP hD hS hce hcv hcl => ?_)
    refine vx_catch (name := "java/lang/IndexOutOfBoundsException") hown [] ⟨0, 18, 21, 13⟩ [⟨0, 18, 25, 39⟩, ⟨0, 18, 29, 27⟩] (htab.trans rfl) (fun z hz => nomatch hz) (by decide) (by decide) hf0 (va_Nw.use rfl (hYE.1.2.2.2.1 "java/lang/IndexOutOfBoundsException" (by decide))) hce hcv hcl ?_
    refine W.widen (k := 1) (n := 6) (Nat.le_refl _) (Nat.le_refl _) ?_
    refine lv_astore (lv' := [(9, .ref (q9)), (0, .ref (a 0)), (1, .int (x)), (2, .int (y)), (3, .long (sd)), (5, .int (z)), (6, .int (w)), (7, .int (kk)), (8, .ref (o))]) hx hb dL_cursor_21 hl (by decide) rfl (fun ls hl => ?_)
    refine lv_iconst (v := nI (1)) hx hb dL_cursor_23 (by decide) ?_
    refine W.widen (k := 2) (n := 307) (Nat.le_of_ble_eq_true rfl) (Nat.le_of_ble_eq_true rfl) ?_
    exact W.iret (v := nI (1)) hx hb hr (fun t ht hW => ⟨⟨_, (ov, u), rfl, (Or.inl ⟨hbad, ⟨rfl, rfl, hu⟩⟩), gb_mk ht hW hP hK hD⟩, hS.F ht⟩) hS.2.2 dL_cursor_24
  · obtain ⟨i, hi, rfl⟩ := nI_ex hbad
    obtain ⟨hq9, hV, hI, hZ, hb1, hb2, hb3, hb4, hb5, hb6, hb7⟩ := hPR.1 i hi
    rcases Classical.em (bdX y (3)) with hbad | hbad
    · refine wf_X (rest := [.int (nI (0)), .ref (o)]) (X := oW cJ o ov) (wf := kW cI cJ cZ cV cR a) ⟨hx, hb, hml, hown, hts⟩ (x_X5_cursor_k l htr D cI cJ cZ cV cR a C hM (VT i).q (VT i).hs (VT i).se (VT i).c (VT i).g (VT i).st (VT i).r (VT i).n (VT i).f hV hI hb1 hb2 hb3 hb4 hb5 hb6 i hi hq9 y sd z w kk hbad s.heap.size) (cwV 6 hts gL_cursor_X5_cursor rfl rfl rfl (by decide +kernel) ⟨Nat.le_of_ble_eq_true rfl, Nat.le_of_ble_eq_true rfl⟩) hP hK hD hS hA hYE.1 0 rfl rfl rfl hl.1 rfl (Nat.le_of_ble_eq_true rfl) dL_cursor_13 ⟨Nat.le_of_ble_eq_true rfl, Nat.le_of_ble_eq_true rfl⟩ (fun u hu H locs ce q9 hP hD hS hce hcv hcl => ?_)
      refine vx_catch (name := "java/lang/IllegalArgumentException") hown [⟨0, 18, 21, 13⟩] ⟨0, 18, 25, 39⟩ [⟨0, 18, 29, 27⟩] (htab.trans rfl) (fun z hz => by simp only [List.mem_cons, List.not_mem_nil, or_false] at hz; rcases hz with rfl <;> first | exact Or.inr ⟨by decide, "java/lang/IndexOutOfBoundsException", hf0, hYE.2.2 ("java/lang/IllegalArgumentException", "java/lang/IndexOutOfBoundsException") (by decide)⟩) (by decide) (by decide) hf1 (va_Nw.use rfl (hYE.1.2.2.2.1 "java/lang/IllegalArgumentException" (by decide))) hce hcv hcl ?_
      refine W.widen (k := 1) (n := 6) (Nat.le_refl _) (Nat.le_refl _) ?_
      refine lv_astore (lv' := [(9, .ref (q9)), (0, .ref (a 0)), (1, .int (nI (i))), (2, .int (y)), (3, .long (sd)), (5, .int (z)), (6, .int (w)), (7, .int (kk)), (8, .ref (o))]) hx hb dL_cursor_25 hl (by decide) rfl (fun ls hl => ?_)
      refine lv_iconst (v := nI (2)) hx hb dL_cursor_27 (by decide) ?_
      refine W.widen (k := 2) (n := 307) (Nat.le_of_ble_eq_true rfl) (Nat.le_of_ble_eq_true rfl) ?_
      exact W.iret (v := nI (2)) hx hb hr (fun t ht hW => ⟨⟨_, (ov, u), rfl, (Or.inr (⟨i, hi, rfl, (Or.inl ⟨hbad, ⟨rfl, rfl, hu⟩⟩)⟩)), gb_mk ht hW hP hK hD⟩, hS.F ht⟩) hS.2.2 dL_cursor_28
    · obtain ⟨kd, hkd, rfl⟩ := nI_ex hbad
      rcases Classical.em (z.toInt < 1 ∨ 8 < z.toInt ∨ w.toInt < 0 ∨ z.toInt ≤ w.toInt) with hbad | hbad
      · refine wf_X (rest := [.int (nI (0)), .ref (o)]) (X := oW cJ o ov) (wf := kW cI cJ cZ cV cR a) ⟨hx, hb, hml, hown, hts⟩ (x_X5_cursor_s l htr D cI cJ cZ cV cR a C hM (VT i).q (VT i).hs (VT i).se (VT i).c (VT i).g (VT i).st (VT i).r (VT i).n (VT i).f hV hI hb1 hb2 hb3 hb4 hb5 hb6 i hi hq9 kd sd z w kk hkd hbad s.heap.size) (cwV 6 hts gL_cursor_X5_cursor rfl rfl rfl (by decide +kernel) ⟨Nat.le_of_ble_eq_true rfl, Nat.le_of_ble_eq_true rfl⟩) hP hK hD hS hA hYE.1 0 rfl rfl rfl hl.1 rfl (Nat.le_of_ble_eq_true rfl) dL_cursor_13 ⟨Nat.le_of_ble_eq_true rfl, Nat.le_of_ble_eq_true rfl⟩ (fun u hu H locs ce q9 hP hD hS hce hcv hcl => ?_)
        refine vx_catch (name := "java/lang/IllegalArgumentException") hown [⟨0, 18, 21, 13⟩] ⟨0, 18, 25, 39⟩ [⟨0, 18, 29, 27⟩] (htab.trans rfl) (fun z hz => by simp only [List.mem_cons, List.not_mem_nil, or_false] at hz; rcases hz with rfl <;> first | exact Or.inr ⟨by decide, "java/lang/IndexOutOfBoundsException", hf0, hYE.2.2 ("java/lang/IllegalArgumentException", "java/lang/IndexOutOfBoundsException") (by decide)⟩) (by decide) (by decide) hf1 (va_Nw.use rfl (hYE.1.2.2.2.1 "java/lang/IllegalArgumentException" (by decide))) hce hcv hcl ?_
        refine W.widen (k := 1) (n := 6) (Nat.le_refl _) (Nat.le_refl _) ?_
        refine lv_astore (lv' := [(9, .ref (q9)), (0, .ref (a 0)), (1, .int (nI (i))), (2, .int (nI (kd))), (3, .long (sd)), (5, .int (z)), (6, .int (w)), (7, .int (kk)), (8, .ref (o))]) hx hb dL_cursor_25 hl (by decide) rfl (fun ls hl => ?_)
        refine lv_iconst (v := nI (2)) hx hb dL_cursor_27 (by decide) ?_
        refine W.widen (k := 2) (n := 307) (Nat.le_of_ble_eq_true rfl) (Nat.le_of_ble_eq_true rfl) ?_
        exact W.iret (v := nI (2)) hx hb hr (fun t ht hW => ⟨⟨_, (ov, u), rfl, (Or.inr (⟨i, hi, rfl, (Or.inr (⟨kd, hkd, rfl, (Or.inl ⟨hbad, ⟨rfl, rfl, hu⟩⟩)⟩))⟩)), gb_mk ht hW hP hK hD⟩, hS.F ht⟩) hS.2.2 dL_cursor_28
      · obtain ⟨m9, k9, hm9, hm8, hk9, rfl, rfl⟩ := nI_ex2 hbad
        rcases Classical.em (kk.toInt < ((1 : Nat) : Int) ∨ ((1000 : Nat) : Int) < kk.toInt) with hbad | hbad
        · refine wf_X (rest := [.int (nI (0)), .ref (o)]) (X := oW cJ o ov) (wf := kW cI cJ cZ cV cR a) ⟨hx, hb, hml, hown, hts⟩ (x_X5_cursor_p l htr D cI cJ cZ cV cR a C hM (VT i).q (VT i).hs (VT i).se (VT i).c (VT i).g (VT i).st (VT i).r (VT i).n (VT i).f hV hI hb1 hb2 hb3 hb4 hb5 hb6 i hi hq9 kd sd m9 k9 kk hkd hm9 hm8 hk9 hbad s.heap.size) (cwV 6 hts gL_cursor_X5_cursor rfl rfl rfl (by decide +kernel) ⟨Nat.le_of_ble_eq_true rfl, Nat.le_of_ble_eq_true rfl⟩) hP hK hD hS hA hYE.1 0 rfl rfl rfl hl.1 rfl (Nat.le_of_ble_eq_true rfl) dL_cursor_13 ⟨Nat.le_of_ble_eq_true rfl, Nat.le_of_ble_eq_true rfl⟩ (fun u hu H locs ce q9 hP hD hS hce hcv hcl => ?_)
          refine vx_catch (name := "java/lang/IllegalArgumentException") hown [⟨0, 18, 21, 13⟩] ⟨0, 18, 25, 39⟩ [⟨0, 18, 29, 27⟩] (htab.trans rfl) (fun z hz => by simp only [List.mem_cons, List.not_mem_nil, or_false] at hz; rcases hz with rfl <;> first | exact Or.inr ⟨by decide, "java/lang/IndexOutOfBoundsException", hf0, hYE.2.2 ("java/lang/IllegalArgumentException", "java/lang/IndexOutOfBoundsException") (by decide)⟩) (by decide) (by decide) hf1 (va_Nw.use rfl (hYE.1.2.2.2.1 "java/lang/IllegalArgumentException" (by decide))) hce hcv hcl ?_
          refine W.widen (k := 1) (n := 6) (Nat.le_refl _) (Nat.le_refl _) ?_
          refine lv_astore (lv' := [(9, .ref (q9)), (0, .ref (a 0)), (1, .int (nI (i))), (2, .int (nI (kd))), (3, .long (sd)), (5, .int (nI (m9))), (6, .int (nI (k9))), (7, .int (kk)), (8, .ref (o))]) hx hb dL_cursor_25 hl (by decide) rfl (fun ls hl => ?_)
          refine lv_iconst (v := nI (2)) hx hb dL_cursor_27 (by decide) ?_
          refine W.widen (k := 2) (n := 307) (Nat.le_of_ble_eq_true rfl) (Nat.le_of_ble_eq_true rfl) ?_
          exact W.iret (v := nI (2)) hx hb hr (fun t ht hW => ⟨⟨_, (ov, u), rfl, (Or.inr (⟨i, hi, rfl, (Or.inr (⟨kd, hkd, rfl, (Or.inr (⟨m9, k9, hm9, hm8, hk9, rfl, rfl, (Or.inl ⟨hbad, ⟨rfl, rfl, hu⟩⟩)⟩))⟩))⟩)), gb_mk ht hW hP hK hD⟩, hS.F ht⟩) hS.2.2 dL_cursor_28
        · obtain ⟨kp9, hkp9, hkp8, rfl⟩ := nI_ex1 hbad
          rcases Classical.em ((VT i).st ≠ 0) with hbad | hbad
          · refine wf_X (rest := [.int (nI (0)), .ref (o)]) (X := oW cJ o ov) (wf := kW cI cJ cZ cV cR a) ⟨hx, hb, hml, hown, hts⟩ (x_X5_cursor_o l htr D cI cJ cZ cV cR a C hM (VT i).q (VT i).hs (VT i).se (VT i).c (VT i).g (VT i).st (VT i).r (VT i).n (VT i).f hV hI hb1 hb2 hb3 hb4 hb5 hb6 i hi hq9 kd sd m9 k9 kp9 hkd hm9 hm8 hk9 hkp9 hkp8 hbad s.heap.size) (cwV 6 hts gL_cursor_X5_cursor rfl rfl rfl (by decide +kernel) ⟨Nat.le_of_ble_eq_true rfl, Nat.le_of_ble_eq_true rfl⟩) hP hK hD hS hA hYE.1 0 rfl rfl rfl hl.1 rfl (Nat.le_of_ble_eq_true rfl) dL_cursor_13 ⟨Nat.le_of_ble_eq_true rfl, Nat.le_of_ble_eq_true rfl⟩ (fun u hu H locs ce q9 hP hD hS hce hcv hcl => ?_)
            refine vx_catch (name := "java/lang/IllegalStateException") hown [⟨0, 18, 21, 13⟩, ⟨0, 18, 25, 39⟩] ⟨0, 18, 29, 27⟩ [] (htab.trans rfl) (fun z hz => by simp only [List.mem_cons, List.not_mem_nil, or_false] at hz; rcases hz with rfl | rfl <;> first | exact Or.inr ⟨by decide, "java/lang/IndexOutOfBoundsException", hf0, hYE.2.2 ("java/lang/IllegalStateException", "java/lang/IndexOutOfBoundsException") (by decide)⟩ | exact Or.inr ⟨by decide, "java/lang/IllegalArgumentException", hf1, hYE.2.2 ("java/lang/IllegalStateException", "java/lang/IllegalArgumentException") (by decide)⟩) (by decide) (by decide) hf2 (va_Nw.use rfl (hYE.1.2.2.2.1 "java/lang/IllegalStateException" (by decide))) hce hcv hcl ?_
            refine W.widen (k := 1) (n := 6) (Nat.le_refl _) (Nat.le_refl _) ?_
            refine lv_astore (lv' := [(9, .ref (q9)), (0, .ref (a 0)), (1, .int (nI (i))), (2, .int (nI (kd))), (3, .long (sd)), (5, .int (nI (m9))), (6, .int (nI (k9))), (7, .int (nI (kp9))), (8, .ref (o))]) hx hb dL_cursor_29 hl (by decide) rfl (fun ls hl => ?_)
            refine lv_iconst (v := nI (3)) hx hb dL_cursor_31 (by decide) ?_
            refine W.widen (k := 2) (n := 307) (Nat.le_of_ble_eq_true rfl) (Nat.le_of_ble_eq_true rfl) ?_
            exact W.iret (v := nI (3)) hx hb hr (fun t ht hW => ⟨⟨_, (ov, u), rfl, (Or.inr (⟨i, hi, rfl, (Or.inr (⟨kd, hkd, rfl, (Or.inr (⟨m9, k9, hm9, hm8, hk9, rfl, rfl, (Or.inr (⟨kp9, hkp9, hkp8, rfl, (Or.inl ⟨hbad, ⟨rfl, rfl, hu⟩⟩)⟩))⟩))⟩))⟩)), gb_mk ht hW hP hK hD⟩, hS.F ht⟩) hS.2.2 dL_cursor_32
          · refine wf_VWin (rest := [.int (nI (0)), .ref (o)]) (X := oW cJ o ov) (wf := kW cI cJ cZ cV cR a) ⟨hx, hb, hml, hown, hts⟩ (c_X5_cursor l D cI cJ cZ cV cR a C hM (VT i).q (VT i).hs (VT i).se (VT i).c (VT i).g (VT i).st (VT i).r (VT i).n (VT i).f hV hI hb1 hb2 hb3 hb4 hb5 hb6 i hi hq9 kd sd m9 k9 kp9 hkd hm9 hm8 hk9 hkp9 hkp8 (Decidable.not_not.mp hbad) s.heap.size) (cwV 6 hts gL_cursor_X5_cursor rfl rfl rfl (by decide +kernel) ⟨Nat.le_of_ble_eq_true rfl, Nat.le_of_ble_eq_true rfl⟩) hP hK hD hS hA hYE.2.1 0 rfl rfl rfl hl.1 rfl (Nat.le_of_ble_eq_true rfl) dL_cursor_13 ⟨Nat.le_of_ble_eq_true rfl, Nat.le_of_ble_eq_true rfl⟩ (fun rr9 u hu H locs hP hD hS => ?_)
            refine W.widen (k := 2) (n := 307) (Nat.le_refl _) (Nat.le_refl _) ?_
            refine lv_i2l (v := (rr9).toInt64) hx hb dL_cursor_16 rfl ?_
            refine wa_lst (i := 0) hx hb hK hP hD hS 0 1 rfl rfl (by decide) (by decide) dL_cursor_17 (fun H locs hP hD hS => ?_)
            have hP : va_P D vwCl (oW cJ o (va_up ov 0 ((rr9).toInt64)) ++ (kW cI cJ cZ cV cR a u)) H := hP
            have hD : va_D A (oW cJ o (va_up ov 0 ((rr9).toInt64)) ++ (kW cI cJ cZ cV cR a u)) := hD
            refine lv_goto (tgt := 33) hx hb dL_cursor_18 (by decide) ?_
            refine lv_iconst (v := nI (0)) hx hb dL_cursor_33 (by decide) ?_
            exact W.iret (v := nI (0)) hx hb hr (fun t ht hW => ⟨⟨_, (va_up ov 0 ((rr9).toInt64), u), rfl, (Or.inr (⟨i, hi, rfl, (Or.inr (⟨kd, hkd, rfl, (Or.inr (⟨m9, k9, hm9, hm8, hk9, rfl, rfl, (Or.inr (⟨kp9, hkp9, hkp8, rfl, (Or.inr ⟨hbad, ⟨rfl, rr9, rfl, hu⟩⟩)⟩))⟩))⟩))⟩)), gb_mk ht hW hP hK hD⟩, hS.F ht⟩) hS.2.2 dL_cursor_34
def D_iterator (cI cJ cZ cV cR : ClassId) (C : CT) (VT : Nat → VRec) (RT : Nat → RRec) (x : Int32) (y : Int32) (sd : Int64) (k : Int32) (ov : Nat → Int64) (rr : Int32) (u : (Nat → Int64) × CT) : Prop := ((bdX x (k_vc C)) ∧ rr = nI 1 ∧ u.1 = ov ∧ (u.2 = C)) ∨ (∃ i, i < k_vc C ∧ x = nI i ∧ (((k = zI (-1)) ∧ (((bdX y (3)) ∧ rr = nI 2 ∧ u.1 = ov ∧ (u.2 = C)) ∨ (∃ kd, kd < 3 ∧ y = nI kd ∧ ((((VT i).st ≠ 0) ∧ rr = nI 3 ∧ u.1 = ov ∧ (u.2 = C)) ∨ (¬ ((VT i).st ≠ 0) ∧ (rr = nI 0 ∧ ∃ rr9, u.1 = va_up ov 0 ((rr9).toInt64) ∧ ((60 ≤ k_rc C → rr9 = zI (-4) ∧ u.2 = C) ∧ (k_rc C < 60 → rr9 = nI (k_rc C) ∧ ∃ q1 q2 : Nat, q1 ∉ k_L (rkM C ((VT i).f) ((VT i).c) (kd) (sd)) ∧ q2 ∉ k_L (rkM C ((VT i).f) ((VT i).c) (kd) (sd)) ++ [q1] ∧ u.2 = egM (itC cI (rkM C ((VT i).f) ((VT i).c) (kd) (sd)) (VT i).q (VT i).hs (VT i).se (VT i).c (VT i).g (VT i).st (VT i).r q1 q2) q1 (VT i).q q2 false 0 0 0 false (k_kc (rkM C ((VT i).f) ((VT i).c) (kd) (sd))) (VT i).hs (VT i).se (VT i).c (VT i).g (VT i).st ((VT i).r + 1) (VT i).sn (VT i).sf)))))))) ∨ (¬ (k = zI (-1)) ∧ (((bdX k ((VT i).g)) ∧ rr = nI 1 ∧ u.1 = ov ∧ (u.2 = C)) ∨ (∃ k9, k9 < (VT i).g ∧ k = nI k9 ∧ (((bdX y (3)) ∧ rr = nI 2 ∧ u.1 = ov ∧ (u.2 = C)) ∨ (∃ kd, kd < 3 ∧ y = nI kd ∧ ((((VT i).st ≠ 0) ∧ rr = nI 3 ∧ u.1 = ov ∧ (u.2 = C)) ∨ (¬ ((VT i).st ≠ 0) ∧ (rr = nI 0 ∧ ∃ rr9, u.1 = va_up ov 0 ((rr9).toInt64) ∧ ((60 ≤ k_rc C → rr9 = zI (-4) ∧ u.2 = C) ∧ (k_rc C < 60 → rr9 = nI (k_rc C) ∧ ∃ q1 q2 : Nat, q1 ∉ k_L (ngM (rkM C ((VT i).f) ((VT i).c) (kd) (sd)) (k9)) ∧ q2 ∉ k_L (ngM (rkM C ((VT i).f) ((VT i).c) (kd) (sd)) (k9)) ++ [q1] ∧ u.2 = egM (itC cI (ngM (rkM C ((VT i).f) ((VT i).c) (kd) (sd)) (k9)) (VT i).q (VT i).hs (VT i).se (VT i).c (VT i).g (VT i).st (VT i).r q1 q2) q1 (VT i).q q2 false 0 0 0 false (k_kc (ngM (rkM C ((VT i).f) ((VT i).c) (kd) (sd)) (k9))) (VT i).hs (VT i).se (VT i).c (VT i).g (VT i).st ((VT i).r + 1) (VT i).sn (VT i).sf))))))))))))
def rm_L_iterator : Room := { frames := 8, cells := 2, slots := 307, locals := 135 }
set_option maxHeartbeats 4000000 in
set_option maxRecDepth 100000 in
theorem w_L_iterator (l : Launch) (htr : l.stackTraces = false) (D : va_G) (cI cJ cZ cV cR : ClassId) (a : Nat → Nat) (C : CT) (VT : Nat → VRec) (RT : Nat → RRec) (hCI : CI cI cZ C VT RT) (o : Nat) (ov : Nat → Int64) (x : Int32) (y : Int32) (sd : Int64) (k : Int32) (sz : Nat) : Met l yL_iterator wsL_iterator rm_L_iterator (va_Pc [.ref (a 0), .int (x), .int (y), .long (sd), .int (k), .ref (o)] (GY D (tyK cI cJ cZ cV cR) (oW cJ o ov ++ (kW cI cJ cZ cV cR a C)) sz)) (va_Qi (fun rr u => D_iterator cI cJ cZ cV cR C VT RT x y sd k ov rr u) (fun u => GB D (tyK cI cJ cZ cV cR) (va_A (oW cJ o ov ++ (kW cI cJ cZ cV cR a C)) sz) (oW cJ o u.1 ++ kW cI cJ cZ cV cR a u.2)) (va_A (oW cJ o ov ++ (kW cI cJ cZ cV cR a C)) sz)) 2 307 (va_A (oW cJ o ov ++ (kW cI cJ cZ cV cR a C)) sz) := by
  obtain ⟨hM, hPR, hAI, hal, hgr⟩ := id hCI
  refine met_ofWH (cc := cL_iterator) (maxL := 8) (ret := (some .int)) (by decide) rfl ?_
  intro p e s m args below meth c s₁ B hml hv
  obtain ⟨rfl, ⟨hsz, hP, hK, hD0⟩, hYE⟩ := hv
  have hx := B.exec
  have hb := B.bytes
  have hr := B.returns
  have hts := atoms_spec (ws := wsL_iterator) B.pre
  have hown : s.vm.findClass RL = some m.cls := findClass_of_methodNamed B.named
  have hlocks := B.notSynchronized
  have htab := vx_table (x := yL_iterator) B (hts _ List.mem_cons_self)
  subst hsz
  have hD := hD0.self (sz := s.heap.size)
  generalize hAe : va_A (oW cJ o ov ++ (kW cI cJ cZ cV cR a C)) s.heap.size = A at hD hYE ⊢
  have hA : ∀ q : Nat, s.heap.size ≤ q → A q := fun q h => by rw [← hAe]; exact Or.inr h
  have hS : va_S A s.heap s.heap [] := va_S.rf
  have hf0 := hts (.classLink RL 13 "java/lang/IndexOutOfBoundsException") (by decide +kernel)
  have hf1 := hts (.classLink RL 39 "java/lang/IllegalArgumentException") (by decide +kernel)
  have hf2 := hts (.classLink RL 27 "java/lang/IllegalStateException") (by decide +kernel)
  have hl := lv_entry ([.ref (a 0), .int (x), .int (y), .long (sd), .int (k), .ref (o)]) (n := 8) (Nat.le_of_ble_eq_true rfl)
  rw [lg_entry_eq]
  generalize (lg_sl ([.ref (a 0), .int (x), .int (y), .long (sd), .int (k), .ref (o)]) ++ List.replicate (8 - (lg_sl ([.ref (a 0), .int (x), .int (y), .long (sd), .int (k), .ref (o)])).length) Slot.unset).toArray = ls at hl ⊢
  have hl : lv_has ls 8 [(0, .ref (a 0)), (1, .int (x)), (2, .int (y)), (3, .long (sd)), (5, .int (k)), (6, .ref (o))] := hl
  refine lv_aload hx hb dL_iterator_0 (lv_at hl 5 rfl) ?_
  refine lv_iconst (v := nI (0)) hx hb dL_iterator_2 (by decide) ?_
  refine lv_aload_n hx hb dL_iterator_3 rfl (lv_at hl 0 rfl) ?_
  refine lv_iload_n hx hb dL_iterator_4 rfl (lv_at hl 1 rfl) ?_
  refine lv_iload_n hx hb dL_iterator_5 rfl (lv_at hl 2 rfl) ?_
  refine lv_lload_n hx hb dL_iterator_6 rfl (lv_at hl 3 rfl) ?_
  refine lv_iload hx hb dL_iterator_7 (lv_at hl 4 rfl) ?_
  rcases Classical.em (bdX x (k_vc C)) with hbad | hbad
  · refine wf_X (rest := [.int (nI (0)), .ref (o)]) (X := oW cJ o ov) (wf := kW cI cJ cZ cV cR a) ⟨hx, hb, hml, hown, hts⟩ (x_X5_iterator_v l htr D cI cJ cZ cV cR a C hM x y sd k hbad s.heap.size) (cwV 4 hts gL_iterator_X5_iterator rfl rfl rfl (by decide +kernel) ⟨Nat.le_of_ble_eq_true rfl, Nat.le_of_ble_eq_true rfl⟩) hP hK hD hS hA hYE.1 0 rfl rfl rfl hl.1 rfl (Nat.le_of_ble_eq_true rfl) dL_iterator_9 ⟨Nat.le_of_ble_eq_true rfl, Nat.le_of_ble_eq_true rfl⟩ (fun u hu H locs ce q9 hP hD hS hce hcv hcl => ?_)
    refine vx_catch (name := "java/lang/IndexOutOfBoundsException") hown [] ⟨0, 14, 17, 13⟩ [⟨0, 14, 21, 39⟩, ⟨0, 14, 25, 27⟩] (htab.trans rfl) (fun z hz => nomatch hz) (by decide) (by decide) hf0 (va_Nw.use rfl (hYE.1.2.2.2.1 "java/lang/IndexOutOfBoundsException" (by decide))) hce hcv hcl ?_
    refine W.widen (k := 1) (n := 6) (Nat.le_refl _) (Nat.le_refl _) ?_
    refine lv_astore (lv' := [(7, .ref (q9)), (0, .ref (a 0)), (1, .int (x)), (2, .int (y)), (3, .long (sd)), (5, .int (k)), (6, .ref (o))]) hx hb dL_iterator_17 hl (by decide) rfl (fun ls hl => ?_)
    refine lv_iconst (v := nI (1)) hx hb dL_iterator_19 (by decide) ?_
    refine W.widen (k := 2) (n := 307) (Nat.le_of_ble_eq_true rfl) (Nat.le_of_ble_eq_true rfl) ?_
    exact W.iret (v := nI (1)) hx hb hr (fun t ht hW => ⟨⟨_, (ov, u), rfl, (Or.inl ⟨hbad, ⟨rfl, rfl, hu⟩⟩), gb_mk ht hW hP hK hD⟩, hS.F ht⟩) hS.2.2 dL_iterator_20
  · obtain ⟨i, hi, rfl⟩ := nI_ex hbad
    obtain ⟨hq9, hV, hI, hZ, hb1, hb2, hb3, hb4, hb5, hb6, hb7⟩ := hPR.1 i hi
    rcases Classical.em (k = zI (-1)) with hbr | hbr
    · subst hbr
      rcases Classical.em (bdX y (3)) with hbad | hbad
      · refine wf_X (rest := [.int (nI (0)), .ref (o)]) (X := oW cJ o ov) (wf := kW cI cJ cZ cV cR a) ⟨hx, hb, hml, hown, hts⟩ (x_X5_iterator_k l htr D cI cJ cZ cV cR a C hM (VT i).q (VT i).hs (VT i).se (VT i).c (VT i).g (VT i).st (VT i).r (VT i).n (VT i).f hV hI hb1 hb2 hb3 hb4 hb5 hb6 i hi hq9 y sd hbad s.heap.size) (cwV 4 hts gL_iterator_X5_iterator rfl rfl rfl (by decide +kernel) ⟨Nat.le_of_ble_eq_true rfl, Nat.le_of_ble_eq_true rfl⟩) hP hK hD hS hA hYE.1 0 rfl rfl rfl hl.1 rfl (Nat.le_of_ble_eq_true rfl) dL_iterator_9 ⟨Nat.le_of_ble_eq_true rfl, Nat.le_of_ble_eq_true rfl⟩ (fun u hu H locs ce q9 hP hD hS hce hcv hcl => ?_)
        refine vx_catch (name := "java/lang/IllegalArgumentException") hown [⟨0, 14, 17, 13⟩] ⟨0, 14, 21, 39⟩ [⟨0, 14, 25, 27⟩] (htab.trans rfl) (fun z hz => by simp only [List.mem_cons, List.not_mem_nil, or_false] at hz; rcases hz with rfl <;> first | exact Or.inr ⟨by decide, "java/lang/IndexOutOfBoundsException", hf0, hYE.2.2 ("java/lang/IllegalArgumentException", "java/lang/IndexOutOfBoundsException") (by decide)⟩) (by decide) (by decide) hf1 (va_Nw.use rfl (hYE.1.2.2.2.1 "java/lang/IllegalArgumentException" (by decide))) hce hcv hcl ?_
        refine W.widen (k := 1) (n := 6) (Nat.le_refl _) (Nat.le_refl _) ?_
        refine lv_astore (lv' := [(7, .ref (q9)), (0, .ref (a 0)), (1, .int (nI (i))), (2, .int (y)), (3, .long (sd)), (5, .int (zI (-1))), (6, .ref (o))]) hx hb dL_iterator_21 hl (by decide) rfl (fun ls hl => ?_)
        refine lv_iconst (v := nI (2)) hx hb dL_iterator_23 (by decide) ?_
        refine W.widen (k := 2) (n := 307) (Nat.le_of_ble_eq_true rfl) (Nat.le_of_ble_eq_true rfl) ?_
        exact W.iret (v := nI (2)) hx hb hr (fun t ht hW => ⟨⟨_, (ov, u), rfl, (Or.inr (⟨i, hi, rfl, (Or.inl ⟨rfl, (Or.inl ⟨hbad, ⟨rfl, rfl, hu⟩⟩)⟩)⟩)), gb_mk ht hW hP hK hD⟩, hS.F ht⟩) hS.2.2 dL_iterator_24
      · obtain ⟨kd, hkd, rfl⟩ := nI_ex hbad
        rcases Classical.em ((VT i).st ≠ 0) with hbad | hbad
        · refine wf_X (rest := [.int (nI (0)), .ref (o)]) (X := oW cJ o ov) (wf := kW cI cJ cZ cV cR a) ⟨hx, hb, hml, hown, hts⟩ (x_X5_iterator_o l htr D cI cJ cZ cV cR a C hM (VT i).q (VT i).hs (VT i).se (VT i).c (VT i).g (VT i).st (VT i).r (VT i).n (VT i).f hV hI hb1 hb2 hb3 hb4 hb5 hb6 i hi hq9 kd sd hkd hbad s.heap.size) (cwV 4 hts gL_iterator_X5_iterator rfl rfl rfl (by decide +kernel) ⟨Nat.le_of_ble_eq_true rfl, Nat.le_of_ble_eq_true rfl⟩) hP hK hD hS hA hYE.1 0 rfl rfl rfl hl.1 rfl (Nat.le_of_ble_eq_true rfl) dL_iterator_9 ⟨Nat.le_of_ble_eq_true rfl, Nat.le_of_ble_eq_true rfl⟩ (fun u hu H locs ce q9 hP hD hS hce hcv hcl => ?_)
          refine vx_catch (name := "java/lang/IllegalStateException") hown [⟨0, 14, 17, 13⟩, ⟨0, 14, 21, 39⟩] ⟨0, 14, 25, 27⟩ [] (htab.trans rfl) (fun z hz => by simp only [List.mem_cons, List.not_mem_nil, or_false] at hz; rcases hz with rfl | rfl <;> first | exact Or.inr ⟨by decide, "java/lang/IndexOutOfBoundsException", hf0, hYE.2.2 ("java/lang/IllegalStateException", "java/lang/IndexOutOfBoundsException") (by decide)⟩ | exact Or.inr ⟨by decide, "java/lang/IllegalArgumentException", hf1, hYE.2.2 ("java/lang/IllegalStateException", "java/lang/IllegalArgumentException") (by decide)⟩) (by decide) (by decide) hf2 (va_Nw.use rfl (hYE.1.2.2.2.1 "java/lang/IllegalStateException" (by decide))) hce hcv hcl ?_
          refine W.widen (k := 1) (n := 6) (Nat.le_refl _) (Nat.le_refl _) ?_
          refine lv_astore (lv' := [(7, .ref (q9)), (0, .ref (a 0)), (1, .int (nI (i))), (2, .int (nI (kd))), (3, .long (sd)), (5, .int (zI (-1))), (6, .ref (o))]) hx hb dL_iterator_25 hl (by decide) rfl (fun ls hl => ?_)
          refine lv_iconst (v := nI (3)) hx hb dL_iterator_27 (by decide) ?_
          refine W.widen (k := 2) (n := 307) (Nat.le_of_ble_eq_true rfl) (Nat.le_of_ble_eq_true rfl) ?_
          exact W.iret (v := nI (3)) hx hb hr (fun t ht hW => ⟨⟨_, (ov, u), rfl, (Or.inr (⟨i, hi, rfl, (Or.inl ⟨rfl, (Or.inr (⟨kd, hkd, rfl, (Or.inl ⟨hbad, ⟨rfl, rfl, hu⟩⟩)⟩))⟩)⟩)), gb_mk ht hW hP hK hD⟩, hS.F ht⟩) hS.2.2 dL_iterator_28
        · refine wf_VWin (rest := [.int (nI (0)), .ref (o)]) (X := oW cJ o ov) (wf := kW cI cJ cZ cV cR a) ⟨hx, hb, hml, hown, hts⟩ (c_X5_iterator l D cI cJ cZ cV cR a C hM (VT i).q (VT i).hs (VT i).se (VT i).c (VT i).g (VT i).st (VT i).r (VT i).n (VT i).f hV hI hb1 hb2 hb3 hb4 hb5 hb6 i hi hq9 (VT i).sn (VT i).sf hZ hb7 (AI.pos hAI hi) (hCI.run hi) kd sd hkd (Decidable.not_not.mp hbad) s.heap.size) (cwV 4 hts gL_iterator_X5_iterator rfl rfl rfl (by decide +kernel) ⟨Nat.le_of_ble_eq_true rfl, Nat.le_of_ble_eq_true rfl⟩) hP hK hD hS hA hYE.2.1 0 rfl rfl rfl hl.1 rfl (Nat.le_of_ble_eq_true rfl) dL_iterator_9 ⟨Nat.le_of_ble_eq_true rfl, Nat.le_of_ble_eq_true rfl⟩ (fun rr9 u hu H locs hP hD hS => ?_)
          refine W.widen (k := 2) (n := 307) (Nat.le_refl _) (Nat.le_refl _) ?_
          refine lv_i2l (v := (rr9).toInt64) hx hb dL_iterator_12 rfl ?_
          refine wa_lst (i := 0) hx hb hK hP hD hS 0 1 rfl rfl (by decide) (by decide) dL_iterator_13 (fun H locs hP hD hS => ?_)
          have hP : va_P D vwCl (oW cJ o (va_up ov 0 ((rr9).toInt64)) ++ (kW cI cJ cZ cV cR a u)) H := hP
          have hD : va_D A (oW cJ o (va_up ov 0 ((rr9).toInt64)) ++ (kW cI cJ cZ cV cR a u)) := hD
          refine lv_goto (tgt := 29) hx hb dL_iterator_14 (by decide) ?_
          refine lv_iconst (v := nI (0)) hx hb dL_iterator_29 (by decide) ?_
          exact W.iret (v := nI (0)) hx hb hr (fun t ht hW => ⟨⟨_, (va_up ov 0 ((rr9).toInt64), u), rfl, (Or.inr (⟨i, hi, rfl, (Or.inl ⟨rfl, (Or.inr (⟨kd, hkd, rfl, (Or.inr ⟨hbad, ⟨rfl, rr9, rfl, hu⟩⟩)⟩))⟩)⟩)), gb_mk ht hW hP hK hD⟩, hS.F ht⟩) hS.2.2 dL_iterator_30
    · have hx1 : k.toInt ≠ -1 := fun h9 => hbr (m1_of h9)
      rcases Classical.em (bdX k ((VT i).g)) with hbad | hbad
      · refine wf_X (rest := [.int (nI (0)), .ref (o)]) (X := oW cJ o ov) (wf := kW cI cJ cZ cV cR a) ⟨hx, hb, hml, hown, hts⟩ (x_X5_iterator_g l htr D cI cJ cZ cV cR a C hM (VT i).q (VT i).hs (VT i).se (VT i).c (VT i).g (VT i).st (VT i).r (VT i).n (VT i).f hV hI hb1 hb2 hb3 hb4 hb5 hb6 i hi hq9 y sd k hx1 hbad s.heap.size) (cwV 4 hts gL_iterator_X5_iterator rfl rfl rfl (by decide +kernel) ⟨Nat.le_of_ble_eq_true rfl, Nat.le_of_ble_eq_true rfl⟩) hP hK hD hS hA hYE.1 0 rfl rfl rfl hl.1 rfl (Nat.le_of_ble_eq_true rfl) dL_iterator_9 ⟨Nat.le_of_ble_eq_true rfl, Nat.le_of_ble_eq_true rfl⟩ (fun u hu H locs ce q9 hP hD hS hce hcv hcl => ?_)
        refine vx_catch (name := "java/lang/IndexOutOfBoundsException") hown [] ⟨0, 14, 17, 13⟩ [⟨0, 14, 21, 39⟩, ⟨0, 14, 25, 27⟩] (htab.trans rfl) (fun z hz => nomatch hz) (by decide) (by decide) hf0 (va_Nw.use rfl (hYE.1.2.2.2.1 "java/lang/IndexOutOfBoundsException" (by decide))) hce hcv hcl ?_
        refine W.widen (k := 1) (n := 6) (Nat.le_refl _) (Nat.le_refl _) ?_
        refine lv_astore (lv' := [(7, .ref (q9)), (0, .ref (a 0)), (1, .int (nI (i))), (2, .int (y)), (3, .long (sd)), (5, .int (k)), (6, .ref (o))]) hx hb dL_iterator_17 hl (by decide) rfl (fun ls hl => ?_)
        refine lv_iconst (v := nI (1)) hx hb dL_iterator_19 (by decide) ?_
        refine W.widen (k := 2) (n := 307) (Nat.le_of_ble_eq_true rfl) (Nat.le_of_ble_eq_true rfl) ?_
        exact W.iret (v := nI (1)) hx hb hr (fun t ht hW => ⟨⟨_, (ov, u), rfl, (Or.inr (⟨i, hi, rfl, (Or.inr ⟨hbr, (Or.inl ⟨hbad, ⟨rfl, rfl, hu⟩⟩)⟩)⟩)), gb_mk ht hW hP hK hD⟩, hS.F ht⟩) hS.2.2 dL_iterator_20
      · obtain ⟨k9, hk9, rfl⟩ := nI_ex hbad
        rcases Classical.em (bdX y (3)) with hbad | hbad
        · refine wf_X (rest := [.int (nI (0)), .ref (o)]) (X := oW cJ o ov) (wf := kW cI cJ cZ cV cR a) ⟨hx, hb, hml, hown, hts⟩ (x_X5_iterator_kg l htr D cI cJ cZ cV cR a C hM (VT i).q (VT i).hs (VT i).se (VT i).c (VT i).g (VT i).st (VT i).r (VT i).n (VT i).f hV hI hb1 hb2 hb3 hb4 hb5 hb6 i hi hq9 y sd k9 hk9 hbad s.heap.size) (cwV 4 hts gL_iterator_X5_iterator rfl rfl rfl (by decide +kernel) ⟨Nat.le_of_ble_eq_true rfl, Nat.le_of_ble_eq_true rfl⟩) hP hK hD hS hA hYE.1 0 rfl rfl rfl hl.1 rfl (Nat.le_of_ble_eq_true rfl) dL_iterator_9 ⟨Nat.le_of_ble_eq_true rfl, Nat.le_of_ble_eq_true rfl⟩ (fun u hu H locs ce q9 hP hD hS hce hcv hcl => ?_)
          refine vx_catch (name := "java/lang/IllegalArgumentException") hown [⟨0, 14, 17, 13⟩] ⟨0, 14, 21, 39⟩ [⟨0, 14, 25, 27⟩] (htab.trans rfl) (fun z hz => by simp only [List.mem_cons, List.not_mem_nil, or_false] at hz; rcases hz with rfl <;> first | exact Or.inr ⟨by decide, "java/lang/IndexOutOfBoundsException", hf0, hYE.2.2 ("java/lang/IllegalArgumentException", "java/lang/IndexOutOfBoundsException") (by decide)⟩) (by decide) (by decide) hf1 (va_Nw.use rfl (hYE.1.2.2.2.1 "java/lang/IllegalArgumentException" (by decide))) hce hcv hcl ?_
          refine W.widen (k := 1) (n := 6) (Nat.le_refl _) (Nat.le_refl _) ?_
          refine lv_astore (lv' := [(7, .ref (q9)), (0, .ref (a 0)), (1, .int (nI (i))), (2, .int (y)), (3, .long (sd)), (5, .int (nI (k9))), (6, .ref (o))]) hx hb dL_iterator_21 hl (by decide) rfl (fun ls hl => ?_)
          refine lv_iconst (v := nI (2)) hx hb dL_iterator_23 (by decide) ?_
          refine W.widen (k := 2) (n := 307) (Nat.le_of_ble_eq_true rfl) (Nat.le_of_ble_eq_true rfl) ?_
          exact W.iret (v := nI (2)) hx hb hr (fun t ht hW => ⟨⟨_, (ov, u), rfl, (Or.inr (⟨i, hi, rfl, (Or.inr ⟨hbr, (Or.inr (⟨k9, hk9, rfl, (Or.inl ⟨hbad, ⟨rfl, rfl, hu⟩⟩)⟩))⟩)⟩)), gb_mk ht hW hP hK hD⟩, hS.F ht⟩) hS.2.2 dL_iterator_24
        · obtain ⟨kd, hkd, rfl⟩ := nI_ex hbad
          rcases Classical.em ((VT i).st ≠ 0) with hbad | hbad
          · refine wf_X (rest := [.int (nI (0)), .ref (o)]) (X := oW cJ o ov) (wf := kW cI cJ cZ cV cR a) ⟨hx, hb, hml, hown, hts⟩ (x_X5_iterator_og l htr D cI cJ cZ cV cR a C hM (VT i).q (VT i).hs (VT i).se (VT i).c (VT i).g (VT i).st (VT i).r (VT i).n (VT i).f hV hI hb1 hb2 hb3 hb4 hb5 hb6 i hi hq9 kd sd k9 hkd hk9 hbad s.heap.size) (cwV 4 hts gL_iterator_X5_iterator rfl rfl rfl (by decide +kernel) ⟨Nat.le_of_ble_eq_true rfl, Nat.le_of_ble_eq_true rfl⟩) hP hK hD hS hA hYE.1 0 rfl rfl rfl hl.1 rfl (Nat.le_of_ble_eq_true rfl) dL_iterator_9 ⟨Nat.le_of_ble_eq_true rfl, Nat.le_of_ble_eq_true rfl⟩ (fun u hu H locs ce q9 hP hD hS hce hcv hcl => ?_)
            refine vx_catch (name := "java/lang/IllegalStateException") hown [⟨0, 14, 17, 13⟩, ⟨0, 14, 21, 39⟩] ⟨0, 14, 25, 27⟩ [] (htab.trans rfl) (fun z hz => by simp only [List.mem_cons, List.not_mem_nil, or_false] at hz; rcases hz with rfl | rfl <;> first | exact Or.inr ⟨by decide, "java/lang/IndexOutOfBoundsException", hf0, hYE.2.2 ("java/lang/IllegalStateException", "java/lang/IndexOutOfBoundsException") (by decide)⟩ | exact Or.inr ⟨by decide, "java/lang/IllegalArgumentException", hf1, hYE.2.2 ("java/lang/IllegalStateException", "java/lang/IllegalArgumentException") (by decide)⟩) (by decide) (by decide) hf2 (va_Nw.use rfl (hYE.1.2.2.2.1 "java/lang/IllegalStateException" (by decide))) hce hcv hcl ?_
            refine W.widen (k := 1) (n := 6) (Nat.le_refl _) (Nat.le_refl _) ?_
            refine lv_astore (lv' := [(7, .ref (q9)), (0, .ref (a 0)), (1, .int (nI (i))), (2, .int (nI (kd))), (3, .long (sd)), (5, .int (nI (k9))), (6, .ref (o))]) hx hb dL_iterator_25 hl (by decide) rfl (fun ls hl => ?_)
            refine lv_iconst (v := nI (3)) hx hb dL_iterator_27 (by decide) ?_
            refine W.widen (k := 2) (n := 307) (Nat.le_of_ble_eq_true rfl) (Nat.le_of_ble_eq_true rfl) ?_
            exact W.iret (v := nI (3)) hx hb hr (fun t ht hW => ⟨⟨_, (ov, u), rfl, (Or.inr (⟨i, hi, rfl, (Or.inr ⟨hbr, (Or.inr (⟨k9, hk9, rfl, (Or.inr (⟨kd, hkd, rfl, (Or.inl ⟨hbad, ⟨rfl, rfl, hu⟩⟩)⟩))⟩))⟩)⟩)), gb_mk ht hW hP hK hD⟩, hS.F ht⟩) hS.2.2 dL_iterator_28
          · refine wf_VWin (rest := [.int (nI (0)), .ref (o)]) (X := oW cJ o ov) (wf := kW cI cJ cZ cV cR a) ⟨hx, hb, hml, hown, hts⟩ (c_X5_iterator_g l D cI cJ cZ cV cR a C hM (VT i).q (VT i).hs (VT i).se (VT i).c (VT i).g (VT i).st (VT i).r (VT i).n (VT i).f hV hI hb1 hb2 hb3 hb4 hb5 hb6 i hi hq9 (VT i).sn (VT i).sf hZ hb7 (AI.pos hAI hi) (hCI.run hi) kd sd k9 hkd (Decidable.not_not.mp hbad) hk9 (hgr i hi kd sd k9 hkd hk9).1 s.heap.size) (cwV 4 hts gL_iterator_X5_iterator rfl rfl rfl (by decide +kernel) ⟨Nat.le_of_ble_eq_true rfl, Nat.le_of_ble_eq_true rfl⟩) hP hK hD hS hA hYE.2.1 0 rfl rfl rfl hl.1 rfl (Nat.le_of_ble_eq_true rfl) dL_iterator_9 ⟨Nat.le_of_ble_eq_true rfl, Nat.le_of_ble_eq_true rfl⟩ (fun rr9 u hu H locs hP hD hS => ?_)
            refine W.widen (k := 2) (n := 307) (Nat.le_refl _) (Nat.le_refl _) ?_
            refine lv_i2l (v := (rr9).toInt64) hx hb dL_iterator_12 rfl ?_
            refine wa_lst (i := 0) hx hb hK hP hD hS 0 1 rfl rfl (by decide) (by decide) dL_iterator_13 (fun H locs hP hD hS => ?_)
            have hP : va_P D vwCl (oW cJ o (va_up ov 0 ((rr9).toInt64)) ++ (kW cI cJ cZ cV cR a u)) H := hP
            have hD : va_D A (oW cJ o (va_up ov 0 ((rr9).toInt64)) ++ (kW cI cJ cZ cV cR a u)) := hD
            refine lv_goto (tgt := 29) hx hb dL_iterator_14 (by decide) ?_
            refine lv_iconst (v := nI (0)) hx hb dL_iterator_29 (by decide) ?_
            exact W.iret (v := nI (0)) hx hb hr (fun t ht hW => ⟨⟨_, (va_up ov 0 ((rr9).toInt64), u), rfl, (Or.inr (⟨i, hi, rfl, (Or.inr ⟨hbr, (Or.inr (⟨k9, hk9, rfl, (Or.inr (⟨kd, hkd, rfl, (Or.inr ⟨hbad, ⟨rfl, rr9, rfl, hu⟩⟩)⟩))⟩))⟩)⟩)), gb_mk ht hW hP hK hD⟩, hS.F ht⟩) hS.2.2 dL_iterator_30
def D_take (cI cJ cZ cV cR : ClassId) (C : CT) (VT : Nat → VRec) (RT : Nat → RRec) (x : Int32) (y : Int32) (ov : Nat → Int64) (rr : Int32) (u : (Nat → Int64) × CT) : Prop := ((bdX x (k_rc C)) ∧ rr = nI 1 ∧ u.1 = ov ∧ (u.2 = C)) ∨ (∃ j, j < k_rc C ∧ x = nI j ∧ (((y.toInt < ((1 : Nat) : Int) ∨ ((50 : Nat) : Int) < y.toInt) ∧ rr = nI 2 ∧ u.1 = ov ∧ (u.2 = C)) ∨ (∃ m, 1 ≤ m ∧ m ≤ 50 ∧ y = nI m ∧ ((((RT j).cu = false) ∧ rr = nI 2 ∧ u.1 = ov ∧ (u.2 = C)) ∨ (¬ ((RT j).cu = false) ∧ (rr = nI 0 ∧ ∃ rr9, u.1 = va_up ov 0 ((rr9).toInt64) ∧ (((RT j).ed = true → rr9 = zI (-1) ∧ u.2 = C) ∧ ((RT j).ed = false → rr9 = nI (min (m) ((RT j).n - (RT j).gv)) ∧ u.2 = takM C (RT j).q (VT (RT j).v).q (RT j).hs (RT j).cu (RT j).kp (RT j).gv (RT j).ed (RT j).f (min (m) ((RT j).n - (RT j).gv))))))))))
def rm_L_take : Room := { frames := 8, cells := 1, slots := 6, locals := 127 }
set_option maxHeartbeats 4000000 in
set_option maxRecDepth 100000 in
theorem w_L_take (l : Launch) (htr : l.stackTraces = false) (D : va_G) (cI cJ cZ cV cR : ClassId) (a : Nat → Nat) (C : CT) (VT : Nat → VRec) (RT : Nat → RRec) (hCI : CI cI cZ C VT RT) (o : Nat) (ov : Nat → Int64) (x : Int32) (y : Int32) (sz : Nat) : Met l yL_take wsL_take rm_L_take (va_Pc [.ref (a 0), .int (x), .int (y), .ref (o)] (GY D (tyK cI cJ cZ cV cR) (oW cJ o ov ++ (kW cI cJ cZ cV cR a C)) sz)) (va_Qi (fun rr u => D_take cI cJ cZ cV cR C VT RT x y ov rr u) (fun u => GB D (tyK cI cJ cZ cV cR) (va_A (oW cJ o ov ++ (kW cI cJ cZ cV cR a C)) sz) (oW cJ o u.1 ++ kW cI cJ cZ cV cR a u.2)) (va_A (oW cJ o ov ++ (kW cI cJ cZ cV cR a C)) sz)) 1 6 (va_A (oW cJ o ov ++ (kW cI cJ cZ cV cR a C)) sz) := by
  obtain ⟨hM, hPR, hAI, hal, hgr⟩ := id hCI
  refine met_ofWH (cc := cL_take) (maxL := 5) (ret := (some .int)) (by decide) rfl ?_
  intro p e s m args below meth c s₁ B hml hv
  obtain ⟨rfl, ⟨hsz, hP, hK, hD0⟩, hYE⟩ := hv
  have hx := B.exec
  have hb := B.bytes
  have hr := B.returns
  have hts := atoms_spec (ws := wsL_take) B.pre
  have hown : s.vm.findClass RL = some m.cls := findClass_of_methodNamed B.named
  have hlocks := B.notSynchronized
  have htab := vx_table (x := yL_take) B (hts _ List.mem_cons_self)
  subst hsz
  have hD := hD0.self (sz := s.heap.size)
  generalize hAe : va_A (oW cJ o ov ++ (kW cI cJ cZ cV cR a C)) s.heap.size = A at hD hYE ⊢
  have hA : ∀ q : Nat, s.heap.size ≤ q → A q := fun q h => by rw [← hAe]; exact Or.inr h
  have hS : va_S A s.heap s.heap [] := va_S.rf
  have hf0 := hts (.classLink RL 13 "java/lang/IndexOutOfBoundsException") (by decide +kernel)
  have hf1 := hts (.classLink RL 39 "java/lang/IllegalArgumentException") (by decide +kernel)
  have hl := lv_entry ([.ref (a 0), .int (x), .int (y), .ref (o)]) (n := 5) (Nat.le_of_ble_eq_true rfl)
  rw [lg_entry_eq]
  generalize (lg_sl ([.ref (a 0), .int (x), .int (y), .ref (o)]) ++ List.replicate (5 - (lg_sl ([.ref (a 0), .int (x), .int (y), .ref (o)])).length) Slot.unset).toArray = ls at hl ⊢
  have hl : lv_has ls 5 [(0, .ref (a 0)), (1, .int (x)), (2, .int (y)), (3, .ref (o))] := hl
  refine lv_aload_n hx hb dL_take_0 rfl (lv_at hl 3 rfl) ?_
  refine lv_iconst (v := nI (0)) hx hb dL_take_1 (by decide) ?_
  refine lv_aload_n hx hb dL_take_2 rfl (lv_at hl 0 rfl) ?_
  refine lv_iload_n hx hb dL_take_3 rfl (lv_at hl 1 rfl) ?_
  refine lv_iload_n hx hb dL_take_4 rfl (lv_at hl 2 rfl) ?_
  rcases Classical.em (bdX x (k_rc C)) with hbad | hbad
  · refine wf_X (rest := [.int (nI (0)), .ref (o)]) (X := oW cJ o ov) (wf := kW cI cJ cZ cV cR a) ⟨hx, hb, hml, hown, hts⟩ (x_X5_take_v l htr D cI cJ cZ cV cR a C hM x y hbad s.heap.size) (cwV 2 hts gL_take_X5_take rfl rfl rfl (by decide +kernel) ⟨Nat.le_of_ble_eq_true rfl, Nat.le_of_ble_eq_true rfl⟩) hP hK hD hS hA hYE.1 0 rfl rfl rfl hl.1 rfl (Nat.le_of_ble_eq_true rfl) dL_take_5 ⟨Nat.le_of_ble_eq_true rfl, Nat.le_of_ble_eq_true rfl⟩ (fun u hu H locs ce q9 hP hD hS hce hcv hcl => ?_)
    refine vx_catch (name := "java/lang/IndexOutOfBoundsException") hown [] ⟨0, 10, 13, 13⟩ [⟨0, 10, 17, 39⟩] (htab.trans rfl) (fun z hz => nomatch hz) (by decide) (by decide) hf0 (va_Nw.use rfl (hYE.1.2.2.2.1 "java/lang/IndexOutOfBoundsException" (by decide))) hce hcv hcl ?_
    refine W.widen (k := 1) (n := 6) (Nat.le_refl _) (Nat.le_refl _) ?_
    refine lv_astore (lv' := [(4, .ref (q9)), (0, .ref (a 0)), (1, .int (x)), (2, .int (y)), (3, .ref (o))]) hx hb dL_take_13 hl (by decide) rfl (fun ls hl => ?_)
    refine lv_iconst (v := nI (1)) hx hb dL_take_15 (by decide) ?_
    exact W.iret (v := nI (1)) hx hb hr (fun t ht hW => ⟨⟨_, (ov, u), rfl, (Or.inl ⟨hbad, ⟨rfl, rfl, hu⟩⟩), gb_mk ht hW hP hK hD⟩, hS.F ht⟩) hS.2.2 dL_take_16
  · obtain ⟨j, hj, rfl⟩ := nI_ex hbad
    obtain ⟨hq9, hR, hI, hv9, hb2, hgv, hkp, hen, hb6⟩ := hPR.2.1 j hj
    rcases Classical.em (y.toInt < ((1 : Nat) : Int) ∨ ((50 : Nat) : Int) < y.toInt) with hbad | hbad
    · refine wf_X (rest := [.int (nI (0)), .ref (o)]) (X := oW cJ o ov) (wf := kW cI cJ cZ cV cR a) ⟨hx, hb, hml, hown, hts⟩ (x_X5_take_n l htr D cI cJ cZ cV cR a C hM (RT j).q (VT (RT j).v).q (RT j).hs (RT j).cu (RT j).kp (RT j).gv (RT j).en (RT j).ed (RT j).n (RT j).f hR hI hb2 hgv hkp hen j hj hq9 y hbad s.heap.size) (cwV 2 hts gL_take_X5_take rfl rfl rfl (by decide +kernel) ⟨Nat.le_of_ble_eq_true rfl, Nat.le_of_ble_eq_true rfl⟩) hP hK hD hS hA hYE.1 0 rfl rfl rfl hl.1 rfl (Nat.le_of_ble_eq_true rfl) dL_take_5 ⟨Nat.le_of_ble_eq_true rfl, Nat.le_of_ble_eq_true rfl⟩ (fun u hu H locs ce q9 hP hD hS hce hcv hcl => ?_)
      refine vx_catch (name := "java/lang/IllegalArgumentException") hown [⟨0, 10, 13, 13⟩] ⟨0, 10, 17, 39⟩ [] (htab.trans rfl) (fun z hz => by simp only [List.mem_cons, List.not_mem_nil, or_false] at hz; rcases hz with rfl <;> first | exact Or.inr ⟨by decide, "java/lang/IndexOutOfBoundsException", hf0, hYE.2.2 ("java/lang/IllegalArgumentException", "java/lang/IndexOutOfBoundsException") (by decide)⟩) (by decide) (by decide) hf1 (va_Nw.use rfl (hYE.1.2.2.2.1 "java/lang/IllegalArgumentException" (by decide))) hce hcv hcl ?_
      refine W.widen (k := 1) (n := 6) (Nat.le_refl _) (Nat.le_refl _) ?_
      refine lv_astore (lv' := [(4, .ref (q9)), (0, .ref (a 0)), (1, .int (nI (j))), (2, .int (y)), (3, .ref (o))]) hx hb dL_take_17 hl (by decide) rfl (fun ls hl => ?_)
      refine lv_iconst (v := nI (2)) hx hb dL_take_19 (by decide) ?_
      exact W.iret (v := nI (2)) hx hb hr (fun t ht hW => ⟨⟨_, (ov, u), rfl, (Or.inr (⟨j, hj, rfl, (Or.inl ⟨hbad, ⟨rfl, rfl, hu⟩⟩)⟩)), gb_mk ht hW hP hK hD⟩, hS.F ht⟩) hS.2.2 dL_take_20
    · obtain ⟨m9, hm9, hm8, rfl⟩ := nI_ex1 hbad
      rcases Classical.em ((RT j).cu = false) with hbad | hbad
      · refine wf_X (rest := [.int (nI (0)), .ref (o)]) (X := oW cJ o ov) (wf := kW cI cJ cZ cV cR a) ⟨hx, hb, hml, hown, hts⟩ (x_X5_take_i l htr D cI cJ cZ cV cR a C hM (RT j).q (VT (RT j).v).q (RT j).hs (RT j).cu (RT j).kp (RT j).gv (RT j).en (RT j).ed (RT j).n (RT j).f hR hI hb2 hgv hkp hen j hj hq9 m9 hm9 hm8 hbad s.heap.size) (cwV 2 hts gL_take_X5_take rfl rfl rfl (by decide +kernel) ⟨Nat.le_of_ble_eq_true rfl, Nat.le_of_ble_eq_true rfl⟩) hP hK hD hS hA hYE.1 0 rfl rfl rfl hl.1 rfl (Nat.le_of_ble_eq_true rfl) dL_take_5 ⟨Nat.le_of_ble_eq_true rfl, Nat.le_of_ble_eq_true rfl⟩ (fun u hu H locs ce q9 hP hD hS hce hcv hcl => ?_)
        refine vx_catch (name := "java/lang/IllegalArgumentException") hown [⟨0, 10, 13, 13⟩] ⟨0, 10, 17, 39⟩ [] (htab.trans rfl) (fun z hz => by simp only [List.mem_cons, List.not_mem_nil, or_false] at hz; rcases hz with rfl <;> first | exact Or.inr ⟨by decide, "java/lang/IndexOutOfBoundsException", hf0, hYE.2.2 ("java/lang/IllegalArgumentException", "java/lang/IndexOutOfBoundsException") (by decide)⟩) (by decide) (by decide) hf1 (va_Nw.use rfl (hYE.1.2.2.2.1 "java/lang/IllegalArgumentException" (by decide))) hce hcv hcl ?_
        refine W.widen (k := 1) (n := 6) (Nat.le_refl _) (Nat.le_refl _) ?_
        refine lv_astore (lv' := [(4, .ref (q9)), (0, .ref (a 0)), (1, .int (nI (j))), (2, .int (nI (m9))), (3, .ref (o))]) hx hb dL_take_17 hl (by decide) rfl (fun ls hl => ?_)
        refine lv_iconst (v := nI (2)) hx hb dL_take_19 (by decide) ?_
        exact W.iret (v := nI (2)) hx hb hr (fun t ht hW => ⟨⟨_, (ov, u), rfl, (Or.inr (⟨j, hj, rfl, (Or.inr (⟨m9, hm9, hm8, rfl, (Or.inl ⟨hbad, ⟨rfl, rfl, hu⟩⟩)⟩))⟩)), gb_mk ht hW hP hK hD⟩, hS.F ht⟩) hS.2.2 dL_take_20
      · refine wf_VWi (rest := [.int (nI (0)), .ref (o)]) (X := oW cJ o ov) (wf := kW cI cJ cZ cV cR a) ⟨hx, hb, hml, hown, hts⟩ (c_X5_take l D cI cJ cZ cV cR a C hM (RT j).q (VT (RT j).v).q (RT j).hs (RT j).cu (RT j).kp (RT j).gv (RT j).en (RT j).ed (RT j).n (RT j).f hR hI hb2 hgv hkp hen j hj hq9 m9 hm9 hm8 (by simpa using hbad) s.heap.size) (cwV 2 hts gL_take_X5_take rfl rfl rfl (by decide +kernel) ⟨Nat.le_of_ble_eq_true rfl, Nat.le_of_ble_eq_true rfl⟩) hP hK hD hS hA 0 rfl rfl rfl hl.1 rfl (Nat.le_of_ble_eq_true rfl) dL_take_5 ⟨Nat.le_of_ble_eq_true rfl, Nat.le_of_ble_eq_true rfl⟩ (fun rr9 u hu H locs hP hD hS => ?_)
        refine W.widen (k := 0) (n := 0) (Nat.le_refl _) (Nat.le_refl _) ?_
        refine lv_i2l (v := (rr9).toInt64) hx hb dL_take_8 rfl ?_
        refine wa_lst (i := 0) hx hb hK hP hD hS 0 1 rfl rfl (by decide) (by decide) dL_take_9 (fun H locs hP hD hS => ?_)
        have hP : va_P D vwCl (oW cJ o (va_up ov 0 ((rr9).toInt64)) ++ (kW cI cJ cZ cV cR a u)) H := hP
        have hD : va_D A (oW cJ o (va_up ov 0 ((rr9).toInt64)) ++ (kW cI cJ cZ cV cR a u)) := hD
        refine lv_goto (tgt := 21) hx hb dL_take_10 (by decide) ?_
        refine lv_iconst (v := nI (0)) hx hb dL_take_21 (by decide) ?_
        refine W.widen (k := 1) (n := 6) (Nat.le_of_ble_eq_true rfl) (Nat.le_of_ble_eq_true rfl) ?_
        exact W.iret (v := nI (0)) hx hb hr (fun t ht hW => ⟨⟨_, (va_up ov 0 ((rr9).toInt64), u), rfl, (Or.inr (⟨j, hj, rfl, (Or.inr (⟨m9, hm9, hm8, rfl, (Or.inr ⟨hbad, ⟨rfl, rr9, rfl, hu⟩⟩)⟩))⟩)), gb_mk ht hW hP hK hD⟩, hS.F ht⟩) hS.2.2 dL_take_22
def D_page (cI cJ cZ cV cR : ClassId) (C : CT) (VT : Nat → VRec) (RT : Nat → RRec) (x : Int32) (ov : Nat → Int64) (rr : Int32) (u : (Nat → Int64) × CT) : Prop := ((bdX x (k_pc C)) ∧ rr = nI 1 ∧ u.1 = ov ∧ (u.2 = C)) ∨ (∃ i, i < k_pc C ∧ x = nI i ∧ (rr = nI 0 ∧ ∃ rr9, u.1 = va_up ov 0 ((rr9).toInt64) ∧ (rr9 = nI (k_pg C i) ∧ u.2 = C)))
def rm_L_page : Room := { frames := 7, cells := 1, slots := 6, locals := 103 }
set_option maxHeartbeats 4000000 in
set_option maxRecDepth 100000 in
theorem w_L_page (l : Launch) (htr : l.stackTraces = false) (D : va_G) (cI cJ cZ cV cR : ClassId) (a : Nat → Nat) (C : CT) (VT : Nat → VRec) (RT : Nat → RRec) (hCI : CI cI cZ C VT RT) (o : Nat) (ov : Nat → Int64) (x : Int32) (sz : Nat) : Met l yL_page wsL_page rm_L_page (va_Pc [.ref (a 0), .int (x), .ref (o)] (GY D (tyK cI cJ cZ cV cR) (oW cJ o ov ++ (kW cI cJ cZ cV cR a C)) sz)) (va_Qi (fun rr u => D_page cI cJ cZ cV cR C VT RT x ov rr u) (fun u => GB D (tyK cI cJ cZ cV cR) (va_A (oW cJ o ov ++ (kW cI cJ cZ cV cR a C)) sz) (oW cJ o u.1 ++ kW cI cJ cZ cV cR a u.2)) (va_A (oW cJ o ov ++ (kW cI cJ cZ cV cR a C)) sz)) 1 6 (va_A (oW cJ o ov ++ (kW cI cJ cZ cV cR a C)) sz) := by
  obtain ⟨hM, hPR, hAI, hal, hgr⟩ := id hCI
  refine met_ofWH (cc := cL_page) (maxL := 4) (ret := (some .int)) (by decide) rfl ?_
  intro p e s m args below meth c s₁ B hml hv
  obtain ⟨rfl, ⟨hsz, hP, hK, hD0⟩, hYE⟩ := hv
  have hx := B.exec
  have hb := B.bytes
  have hr := B.returns
  have hts := atoms_spec (ws := wsL_page) B.pre
  have hown : s.vm.findClass RL = some m.cls := findClass_of_methodNamed B.named
  have hlocks := B.notSynchronized
  have htab := vx_table (x := yL_page) B (hts _ List.mem_cons_self)
  subst hsz
  have hD := hD0.self (sz := s.heap.size)
  generalize hAe : va_A (oW cJ o ov ++ (kW cI cJ cZ cV cR a C)) s.heap.size = A at hD hYE ⊢
  have hA : ∀ q : Nat, s.heap.size ≤ q → A q := fun q h => by rw [← hAe]; exact Or.inr h
  have hS : va_S A s.heap s.heap [] := va_S.rf
  have hf0 := hts (.classLink RL 13 "java/lang/IndexOutOfBoundsException") (by decide +kernel)
  have hl := lv_entry ([.ref (a 0), .int (x), .ref (o)]) (n := 4) (Nat.le_of_ble_eq_true rfl)
  rw [lg_entry_eq]
  generalize (lg_sl ([.ref (a 0), .int (x), .ref (o)]) ++ List.replicate (4 - (lg_sl ([.ref (a 0), .int (x), .ref (o)])).length) Slot.unset).toArray = ls at hl ⊢
  have hl : lv_has ls 4 [(0, .ref (a 0)), (1, .int (x)), (2, .ref (o))] := hl
  refine lv_aload_n hx hb dL_page_0 rfl (lv_at hl 2 rfl) ?_
  refine lv_iconst (v := nI (0)) hx hb dL_page_1 (by decide) ?_
  refine lv_aload_n hx hb dL_page_2 rfl (lv_at hl 0 rfl) ?_
  refine lv_iload_n hx hb dL_page_3 rfl (lv_at hl 1 rfl) ?_
  rcases Classical.em (bdX x (k_pc C)) with hbad | hbad
  · refine wf_X (rest := [.int (nI (0)), .ref (o)]) (X := oW cJ o ov) (wf := kW cI cJ cZ cV cR a) ⟨hx, hb, hml, hown, hts⟩ (x_X5_page l htr D cI cJ cZ cV cR a C hM x hbad s.heap.size) (cwV 1 hts gL_page_X5_page rfl rfl rfl (by decide +kernel) ⟨Nat.le_of_ble_eq_true rfl, Nat.le_of_ble_eq_true rfl⟩) hP hK hD hS hA hYE.1 0 rfl rfl rfl hl.1 rfl (Nat.le_of_ble_eq_true rfl) dL_page_4 ⟨Nat.le_of_ble_eq_true rfl, Nat.le_of_ble_eq_true rfl⟩ (fun u hu H locs ce q9 hP hD hS hce hcv hcl => ?_)
    refine vx_catch (name := "java/lang/IndexOutOfBoundsException") hown [] ⟨0, 9, 12, 13⟩ [] (htab.trans rfl) (fun z hz => nomatch hz) (by decide) (by decide) hf0 (va_Nw.use rfl (hYE.1.2.2.2.1 "java/lang/IndexOutOfBoundsException" (by decide))) hce hcv hcl ?_
    refine W.widen (k := 1) (n := 6) (Nat.le_refl _) (Nat.le_refl _) ?_
    refine lv_astore_n (lv' := [(3, .ref (q9)), (0, .ref (a 0)), (1, .int (x)), (2, .ref (o))]) hx hb dL_page_12 rfl hl (by decide) rfl (fun ls hl => ?_)
    refine lv_iconst (v := nI (1)) hx hb dL_page_13 (by decide) ?_
    exact W.iret (v := nI (1)) hx hb hr (fun t ht hW => ⟨⟨_, (ov, u), rfl, (Or.inl ⟨hbad, ⟨rfl, rfl, hu⟩⟩), gb_mk ht hW hP hK hD⟩, hS.F ht⟩) hS.2.2 dL_page_14
  · obtain ⟨i, hi, rfl⟩ := nI_ex hbad
    refine wf_VWi (rest := [.int (nI (0)), .ref (o)]) (X := oW cJ o ov) (wf := kW cI cJ cZ cV cR a) ⟨hx, hb, hml, hown, hts⟩ (c_X5_page l D cI cJ cZ cV cR a C hM i hi s.heap.size) (cwV 1 hts gL_page_X5_page rfl rfl rfl (by decide +kernel) ⟨Nat.le_of_ble_eq_true rfl, Nat.le_of_ble_eq_true rfl⟩) hP hK hD hS hA 0 rfl rfl rfl hl.1 rfl (Nat.le_of_ble_eq_true rfl) dL_page_4 ⟨Nat.le_of_ble_eq_true rfl, Nat.le_of_ble_eq_true rfl⟩ (fun rr9 u hu H locs hP hD hS => ?_)
    refine W.widen (k := 0) (n := 0) (Nat.le_refl _) (Nat.le_refl _) ?_
    refine lv_i2l (v := (rr9).toInt64) hx hb dL_page_7 rfl ?_
    refine wa_lst (i := 0) hx hb hK hP hD hS 0 1 rfl rfl (by decide) (by decide) dL_page_8 (fun H locs hP hD hS => ?_)
    have hP : va_P D vwCl (oW cJ o (va_up ov 0 ((rr9).toInt64)) ++ (kW cI cJ cZ cV cR a u)) H := hP
    have hD : va_D A (oW cJ o (va_up ov 0 ((rr9).toInt64)) ++ (kW cI cJ cZ cV cR a u)) := hD
    refine lv_goto (tgt := 15) hx hb dL_page_9 (by decide) ?_
    refine lv_iconst (v := nI (0)) hx hb dL_page_15 (by decide) ?_
    refine W.widen (k := 1) (n := 6) (Nat.le_of_ble_eq_true rfl) (Nat.le_of_ble_eq_true rfl) ?_
    exact W.iret (v := nI (0)) hx hb hr (fun t ht hW => ⟨⟨_, (va_up ov 0 ((rr9).toInt64), u), rfl, (Or.inr (⟨i, hi, rfl, ⟨rfl, rr9, rfl, hu⟩⟩)), gb_mk ht hW hP hK hD⟩, hS.F ht⟩) hS.2.2 dL_page_16
def D_next (cI cJ cZ cV cR : ClassId) (C : CT) (VT : Nat → VRec) (RT : Nat → RRec) (x : Int32) (ov : Nat → Int64) (rr : Int32) (u : (Nat → Int64) × CT) : Prop := ((bdX x (k_rc C)) ∧ rr = nI 1 ∧ u.1 = ov ∧ (u.2 = C)) ∨ (∃ j, j < k_rc C ∧ x = nI j ∧ ((((RT j).cu = true) ∧ rr = nI 2 ∧ u.1 = ov ∧ (u.2 = C)) ∨ (¬ ((RT j).cu = true) ∧ ((((RT j).ed = true ∨ (RT j).n - (RT j).gv = 0) ∧ rr = nI 3 ∧ u.1 = ov ∧ (u.2 = C)) ∨ (¬ ((RT j).ed = true ∨ (RT j).n - (RT j).gv = 0) ∧ (rr = nI 0 ∧ ∃ rr9, u.1 = va_up ov 0 ((rr9).toInt64) ∧ (rr9 = nI ((RT j).f (RT j).gv) ∧ u.2 = egM (nxC C (RT j).q (VT (RT j).v).q (RT j).hs (RT j).cu (RT j).kp (RT j).gv (RT j).en (RT j).ed) (RT j).q (VT (RT j).v).q (RT j).hs (RT j).cu (RT j).kp ((RT j).gv + 1) (RT j).en (RT j).ed (RT j).n (VT (RT j).v).hs (VT (RT j).v).se (VT (RT j).v).c (VT (RT j).v).g (VT (RT j).v).st (VT (RT j).v).r (VT (RT j).v).sn (VT (RT j).v).sf)))))))
def rm_L_next : Room := { frames := 8, cells := 1, slots := 6, locals := 130 }
set_option maxHeartbeats 4000000 in
set_option maxRecDepth 100000 in
theorem w_L_next (l : Launch) (htr : l.stackTraces = false) (D : va_G) (cI cJ cZ cV cR : ClassId) (a : Nat → Nat) (C : CT) (VT : Nat → VRec) (RT : Nat → RRec) (hCI : CI cI cZ C VT RT) (o : Nat) (ov : Nat → Int64) (x : Int32) (sz : Nat) : Met l yL_next wsL_next rm_L_next (va_Pc [.ref (a 0), .int (x), .ref (o)] (GY D (tyK cI cJ cZ cV cR) (oW cJ o ov ++ (kW cI cJ cZ cV cR a C)) sz)) (va_Qi (fun rr u => D_next cI cJ cZ cV cR C VT RT x ov rr u) (fun u => GB D (tyK cI cJ cZ cV cR) (va_A (oW cJ o ov ++ (kW cI cJ cZ cV cR a C)) sz) (oW cJ o u.1 ++ kW cI cJ cZ cV cR a u.2)) (va_A (oW cJ o ov ++ (kW cI cJ cZ cV cR a C)) sz)) 1 6 (va_A (oW cJ o ov ++ (kW cI cJ cZ cV cR a C)) sz) := by
  obtain ⟨hM, hPR, hAI, hal, hgr⟩ := id hCI
  refine met_ofWH (cc := cL_next) (maxL := 4) (ret := (some .int)) (by decide) rfl ?_
  intro p e s m args below meth c s₁ B hml hv
  obtain ⟨rfl, ⟨hsz, hP, hK, hD0⟩, hYE⟩ := hv
  have hx := B.exec
  have hb := B.bytes
  have hr := B.returns
  have hts := atoms_spec (ws := wsL_next) B.pre
  have hown : s.vm.findClass RL = some m.cls := findClass_of_methodNamed B.named
  have hlocks := B.notSynchronized
  have htab := vx_table (x := yL_next) B (hts _ List.mem_cons_self)
  subst hsz
  have hD := hD0.self (sz := s.heap.size)
  generalize hAe : va_A (oW cJ o ov ++ (kW cI cJ cZ cV cR a C)) s.heap.size = A at hD hYE ⊢
  have hA : ∀ q : Nat, s.heap.size ≤ q → A q := fun q h => by rw [← hAe]; exact Or.inr h
  have hS : va_S A s.heap s.heap [] := va_S.rf
  have hf0 := hts (.classLink RL 13 "java/lang/IndexOutOfBoundsException") (by decide +kernel)
  have hf1 := hts (.classLink RL 39 "java/lang/IllegalArgumentException") (by decide +kernel)
  have hf2 := hts (.classLink RL 74 "java/util/NoSuchElementException") (by decide +kernel)
  have hl := lv_entry ([.ref (a 0), .int (x), .ref (o)]) (n := 4) (Nat.le_of_ble_eq_true rfl)
  rw [lg_entry_eq]
  generalize (lg_sl ([.ref (a 0), .int (x), .ref (o)]) ++ List.replicate (4 - (lg_sl ([.ref (a 0), .int (x), .ref (o)])).length) Slot.unset).toArray = ls at hl ⊢
  have hl : lv_has ls 4 [(0, .ref (a 0)), (1, .int (x)), (2, .ref (o))] := hl
  refine lv_aload_n hx hb dL_next_0 rfl (lv_at hl 2 rfl) ?_
  refine lv_iconst (v := nI (0)) hx hb dL_next_1 (by decide) ?_
  refine lv_aload_n hx hb dL_next_2 rfl (lv_at hl 0 rfl) ?_
  refine lv_iload_n hx hb dL_next_3 rfl (lv_at hl 1 rfl) ?_
  rcases Classical.em (bdX x (k_rc C)) with hbad | hbad
  · refine wf_X (rest := [.int (nI (0)), .ref (o)]) (X := oW cJ o ov) (wf := kW cI cJ cZ cV cR a) ⟨hx, hb, hml, hown, hts⟩ (x_X5_next_v l htr D cI cJ cZ cV cR a C hM x hbad s.heap.size) (cwV 1 hts gL_next_X5_next rfl rfl rfl (by decide +kernel) ⟨Nat.le_of_ble_eq_true rfl, Nat.le_of_ble_eq_true rfl⟩) hP hK hD hS hA hYE.1 0 rfl rfl rfl hl.1 rfl (Nat.le_of_ble_eq_true rfl) dL_next_4 ⟨Nat.le_of_ble_eq_true rfl, Nat.le_of_ble_eq_true rfl⟩ (fun u hu H locs ce q9 hP hD hS hce hcv hcl => ?_)
    refine vx_catch (name := "java/lang/IndexOutOfBoundsException") hown [] ⟨0, 9, 12, 13⟩ [⟨0, 9, 15, 39⟩, ⟨0, 9, 18, 74⟩] (htab.trans rfl) (fun z hz => nomatch hz) (by decide) (by decide) hf0 (va_Nw.use rfl (hYE.1.2.2.2.1 "java/lang/IndexOutOfBoundsException" (by decide))) hce hcv hcl ?_
    refine W.widen (k := 1) (n := 6) (Nat.le_refl _) (Nat.le_refl _) ?_
    refine lv_astore_n (lv' := [(3, .ref (q9)), (0, .ref (a 0)), (1, .int (x)), (2, .ref (o))]) hx hb dL_next_12 rfl hl (by decide) rfl (fun ls hl => ?_)
    refine lv_iconst (v := nI (1)) hx hb dL_next_13 (by decide) ?_
    exact W.iret (v := nI (1)) hx hb hr (fun t ht hW => ⟨⟨_, (ov, u), rfl, (Or.inl ⟨hbad, ⟨rfl, rfl, hu⟩⟩), gb_mk ht hW hP hK hD⟩, hS.F ht⟩) hS.2.2 dL_next_14
  · obtain ⟨j, hj, rfl⟩ := nI_ex hbad
    obtain ⟨hq9, hR, hI, hv9, hb2, hgv, hkp, hen, hb6⟩ := hPR.2.1 j hj
    obtain ⟨hvq, hV, hI2, hZ, hc1, hc2, hc3, hc4, hc5, hc6, hc7⟩ := hPR.1 _ hv9
    rcases Classical.em ((RT j).cu = true) with hbad | hbad
    · refine wf_X (rest := [.int (nI (0)), .ref (o)]) (X := oW cJ o ov) (wf := kW cI cJ cZ cV cR a) ⟨hx, hb, hml, hown, hts⟩ (x_X5_next_c l htr D cI cJ cZ cV cR a C hM (RT j).q (VT (RT j).v).q (RT j).hs (RT j).cu (RT j).kp (RT j).gv (RT j).en (RT j).ed (RT j).n (RT j).f hR hI hb2 hgv hkp hen j hj hq9 hbad s.heap.size) (cwV 1 hts gL_next_X5_next rfl rfl rfl (by decide +kernel) ⟨Nat.le_of_ble_eq_true rfl, Nat.le_of_ble_eq_true rfl⟩) hP hK hD hS hA hYE.1 0 rfl rfl rfl hl.1 rfl (Nat.le_of_ble_eq_true rfl) dL_next_4 ⟨Nat.le_of_ble_eq_true rfl, Nat.le_of_ble_eq_true rfl⟩ (fun u hu H locs ce q9 hP hD hS hce hcv hcl => ?_)
      refine vx_catch (name := "java/lang/IllegalArgumentException") hown [⟨0, 9, 12, 13⟩] ⟨0, 9, 15, 39⟩ [⟨0, 9, 18, 74⟩] (htab.trans rfl) (fun z hz => by simp only [List.mem_cons, List.not_mem_nil, or_false] at hz; rcases hz with rfl <;> first | exact Or.inr ⟨by decide, "java/lang/IndexOutOfBoundsException", hf0, hYE.2.2 ("java/lang/IllegalArgumentException", "java/lang/IndexOutOfBoundsException") (by decide)⟩) (by decide) (by decide) hf1 (va_Nw.use rfl (hYE.1.2.2.2.1 "java/lang/IllegalArgumentException" (by decide))) hce hcv hcl ?_
      refine W.widen (k := 1) (n := 6) (Nat.le_refl _) (Nat.le_refl _) ?_
      refine lv_astore_n (lv' := [(3, .ref (q9)), (0, .ref (a 0)), (1, .int (nI (j))), (2, .ref (o))]) hx hb dL_next_15 rfl hl (by decide) rfl (fun ls hl => ?_)
      refine lv_iconst (v := nI (2)) hx hb dL_next_16 (by decide) ?_
      exact W.iret (v := nI (2)) hx hb hr (fun t ht hW => ⟨⟨_, (ov, u), rfl, (Or.inr (⟨j, hj, rfl, (Or.inl ⟨hbad, ⟨rfl, rfl, hu⟩⟩)⟩)), gb_mk ht hW hP hK hD⟩, hS.F ht⟩) hS.2.2 dL_next_17
    · have hcu : (RT j).cu = false := by simpa using hbad
      rcases Classical.em ((RT j).ed = true ∨ (RT j).n - (RT j).gv = 0) with hbad2 | hbad2
      · refine wf_X (rest := [.int (nI (0)), .ref (o)]) (X := oW cJ o ov) (wf := kW cI cJ cZ cV cR a) ⟨hx, hb, hml, hown, hts⟩ (x_X5_next_e l htr D cI cJ cZ cV cR a C hM (RT j).q (VT (RT j).v).q (RT j).hs (RT j).cu (RT j).kp (RT j).gv (RT j).en (RT j).ed (RT j).n (RT j).f hR hI hb2 hgv hkp hen j hj hq9 hcu hbad2 s.heap.size) (cwV 1 hts gL_next_X5_next rfl rfl rfl (by decide +kernel) ⟨Nat.le_of_ble_eq_true rfl, Nat.le_of_ble_eq_true rfl⟩) hP hK hD hS hA hYE.1 0 rfl rfl rfl hl.1 rfl (Nat.le_of_ble_eq_true rfl) dL_next_4 ⟨Nat.le_of_ble_eq_true rfl, Nat.le_of_ble_eq_true rfl⟩ (fun u hu H locs ce q9 hP hD hS hce hcv hcl => ?_)
        refine vx_catch (name := "java/util/NoSuchElementException") hown [⟨0, 9, 12, 13⟩, ⟨0, 9, 15, 39⟩] ⟨0, 9, 18, 74⟩ [] (htab.trans rfl) (fun z hz => by simp only [List.mem_cons, List.not_mem_nil, or_false] at hz; rcases hz with rfl | rfl <;> first | exact Or.inr ⟨by decide, "java/lang/IndexOutOfBoundsException", hf0, hYE.2.2 ("java/util/NoSuchElementException", "java/lang/IndexOutOfBoundsException") (by decide)⟩ | exact Or.inr ⟨by decide, "java/lang/IllegalArgumentException", hf1, hYE.2.2 ("java/util/NoSuchElementException", "java/lang/IllegalArgumentException") (by decide)⟩) (by decide) (by decide) hf2 (va_Nw.use rfl (hYE.1.2.2.2.1 "java/util/NoSuchElementException" (by decide))) hce hcv hcl ?_
        refine W.widen (k := 1) (n := 6) (Nat.le_refl _) (Nat.le_refl _) ?_
        refine lv_astore_n (lv' := [(3, .ref (q9)), (0, .ref (a 0)), (1, .int (nI (j))), (2, .ref (o))]) hx hb dL_next_18 rfl hl (by decide) rfl (fun ls hl => ?_)
        refine lv_iconst (v := nI (3)) hx hb dL_next_19 (by decide) ?_
        exact W.iret (v := nI (3)) hx hb hr (fun t ht hW => ⟨⟨_, (ov, u), rfl, (Or.inr (⟨j, hj, rfl, (Or.inr ⟨hbad, (Or.inl ⟨hbad2, ⟨rfl, rfl, hu⟩⟩)⟩)⟩)), gb_mk ht hW hP hK hD⟩, hS.F ht⟩) hS.2.2 dL_next_20
      · have hed : (RT j).ed = false := by simpa using fun h9 => hbad2 (Or.inl h9)
        have hne : (RT j).gv < (RT j).n := by have := fun h9 => hbad2 (Or.inr h9); omega
        refine wf_VWi (rest := [.int (nI (0)), .ref (o)]) (X := oW cJ o ov) (wf := kW cI cJ cZ cV cR a) ⟨hx, hb, hml, hown, hts⟩ (c_X5_next l D cI cJ cZ cV cR a C hM (RT j).q (VT (RT j).v).q (RT j).hs (RT j).cu (RT j).kp (RT j).gv (RT j).en (RT j).ed (RT j).n (RT j).f hR hI hb2 hgv hkp hen (VT (RT j).v).hs (VT (RT j).v).se (VT (RT j).v).c (VT (RT j).v).g (VT (RT j).v).st (VT (RT j).v).r (VT (RT j).v).sn (VT (RT j).v).sf hV (Nat.le_trans hc1 hc2) hc3 hc4 hc5 hZ hc7 (AI.pos hAI hv9) (AI.run hAI hj) j hj hq9 hcu hed hne s.heap.size) (cwV 1 hts gL_next_X5_next rfl rfl rfl (by decide +kernel) ⟨Nat.le_of_ble_eq_true rfl, Nat.le_of_ble_eq_true rfl⟩) hP hK hD hS hA 0 rfl rfl rfl hl.1 rfl (Nat.le_of_ble_eq_true rfl) dL_next_4 ⟨Nat.le_of_ble_eq_true rfl, Nat.le_of_ble_eq_true rfl⟩ (fun rr9 u hu H locs hP hD hS => ?_)
        refine W.widen (k := 0) (n := 0) (Nat.le_refl _) (Nat.le_refl _) ?_
        refine lv_i2l (v := (rr9).toInt64) hx hb dL_next_7 rfl ?_
        refine wa_lst (i := 0) hx hb hK hP hD hS 0 1 rfl rfl (by decide) (by decide) dL_next_8 (fun H locs hP hD hS => ?_)
        have hP : va_P D vwCl (oW cJ o (va_up ov 0 ((rr9).toInt64)) ++ (kW cI cJ cZ cV cR a u)) H := hP
        have hD : va_D A (oW cJ o (va_up ov 0 ((rr9).toInt64)) ++ (kW cI cJ cZ cV cR a u)) := hD
        refine lv_goto (tgt := 21) hx hb dL_next_9 (by decide) ?_
        refine lv_iconst (v := nI (0)) hx hb dL_next_21 (by decide) ?_
        refine W.widen (k := 1) (n := 6) (Nat.le_of_ble_eq_true rfl) (Nat.le_of_ble_eq_true rfl) ?_
        exact W.iret (v := nI (0)) hx hb hr (fun t ht hW => ⟨⟨_, (va_up ov 0 ((rr9).toInt64), u), rfl, (Or.inr (⟨j, hj, rfl, (Or.inr ⟨hbad, (Or.inr ⟨hbad2, ⟨rfl, rr9, rfl, hu⟩⟩)⟩)⟩)), gb_mk ht hW hP hK hD⟩, hS.F ht⟩) hS.2.2 dL_next_22
def D_left (cI cJ cZ cV cR : ClassId) (C : CT) (VT : Nat → VRec) (RT : Nat → RRec) (x : Int32) (ov : Nat → Int64) (rr : Int32) (u : (Nat → Int64) × CT) : Prop := ((bdX x (k_rc C)) ∧ rr = nI 1 ∧ u.1 = ov ∧ (u.2 = C)) ∨ (∃ j, j < k_rc C ∧ x = nI j ∧ (rr = nI 0 ∧ ∃ rr9, u.1 = va_up ov 0 ((rr9).toInt64) ∧ (rr9 = (if (RT j).ed then zI (-1) else nI ((RT j).n - (RT j).gv)) ∧ u.2 = C)))
def rm_L_left : Room := { frames := 8, cells := 1, slots := 6, locals := 126 }
set_option maxHeartbeats 4000000 in
set_option maxRecDepth 100000 in
theorem w_L_left (l : Launch) (htr : l.stackTraces = false) (D : va_G) (cI cJ cZ cV cR : ClassId) (a : Nat → Nat) (C : CT) (VT : Nat → VRec) (RT : Nat → RRec) (hCI : CI cI cZ C VT RT) (o : Nat) (ov : Nat → Int64) (x : Int32) (sz : Nat) : Met l yL_left wsL_left rm_L_left (va_Pc [.ref (a 0), .int (x), .ref (o)] (GY D (tyK cI cJ cZ cV cR) (oW cJ o ov ++ (kW cI cJ cZ cV cR a C)) sz)) (va_Qi (fun rr u => D_left cI cJ cZ cV cR C VT RT x ov rr u) (fun u => GB D (tyK cI cJ cZ cV cR) (va_A (oW cJ o ov ++ (kW cI cJ cZ cV cR a C)) sz) (oW cJ o u.1 ++ kW cI cJ cZ cV cR a u.2)) (va_A (oW cJ o ov ++ (kW cI cJ cZ cV cR a C)) sz)) 1 6 (va_A (oW cJ o ov ++ (kW cI cJ cZ cV cR a C)) sz) := by
  obtain ⟨hM, hPR, hAI, hal, hgr⟩ := id hCI
  refine met_ofWH (cc := cL_left) (maxL := 4) (ret := (some .int)) (by decide) rfl ?_
  intro p e s m args below meth c s₁ B hml hv
  obtain ⟨rfl, ⟨hsz, hP, hK, hD0⟩, hYE⟩ := hv
  have hx := B.exec
  have hb := B.bytes
  have hr := B.returns
  have hts := atoms_spec (ws := wsL_left) B.pre
  have hown : s.vm.findClass RL = some m.cls := findClass_of_methodNamed B.named
  have hlocks := B.notSynchronized
  have htab := vx_table (x := yL_left) B (hts _ List.mem_cons_self)
  subst hsz
  have hD := hD0.self (sz := s.heap.size)
  generalize hAe : va_A (oW cJ o ov ++ (kW cI cJ cZ cV cR a C)) s.heap.size = A at hD hYE ⊢
  have hA : ∀ q : Nat, s.heap.size ≤ q → A q := fun q h => by rw [← hAe]; exact Or.inr h
  have hS : va_S A s.heap s.heap [] := va_S.rf
  have hf0 := hts (.classLink RL 13 "java/lang/IndexOutOfBoundsException") (by decide +kernel)
  have hl := lv_entry ([.ref (a 0), .int (x), .ref (o)]) (n := 4) (Nat.le_of_ble_eq_true rfl)
  rw [lg_entry_eq]
  generalize (lg_sl ([.ref (a 0), .int (x), .ref (o)]) ++ List.replicate (4 - (lg_sl ([.ref (a 0), .int (x), .ref (o)])).length) Slot.unset).toArray = ls at hl ⊢
  have hl : lv_has ls 4 [(0, .ref (a 0)), (1, .int (x)), (2, .ref (o))] := hl
  refine lv_aload_n hx hb dL_left_0 rfl (lv_at hl 2 rfl) ?_
  refine lv_iconst (v := nI (0)) hx hb dL_left_1 (by decide) ?_
  refine lv_aload_n hx hb dL_left_2 rfl (lv_at hl 0 rfl) ?_
  refine lv_iload_n hx hb dL_left_3 rfl (lv_at hl 1 rfl) ?_
  rcases Classical.em (bdX x (k_rc C)) with hbad | hbad
  · refine wf_X (rest := [.int (nI (0)), .ref (o)]) (X := oW cJ o ov) (wf := kW cI cJ cZ cV cR a) ⟨hx, hb, hml, hown, hts⟩ (x_X5_left l htr D cI cJ cZ cV cR a C hM x hbad s.heap.size) (cwV 1 hts gL_left_X5_left rfl rfl rfl (by decide +kernel) ⟨Nat.le_of_ble_eq_true rfl, Nat.le_of_ble_eq_true rfl⟩) hP hK hD hS hA hYE.1 0 rfl rfl rfl hl.1 rfl (Nat.le_of_ble_eq_true rfl) dL_left_4 ⟨Nat.le_of_ble_eq_true rfl, Nat.le_of_ble_eq_true rfl⟩ (fun u hu H locs ce q9 hP hD hS hce hcv hcl => ?_)
    refine vx_catch (name := "java/lang/IndexOutOfBoundsException") hown [] ⟨0, 9, 12, 13⟩ [] (htab.trans rfl) (fun z hz => nomatch hz) (by decide) (by decide) hf0 (va_Nw.use rfl (hYE.1.2.2.2.1 "java/lang/IndexOutOfBoundsException" (by decide))) hce hcv hcl ?_
    refine W.widen (k := 1) (n := 6) (Nat.le_refl _) (Nat.le_refl _) ?_
    refine lv_astore_n (lv' := [(3, .ref (q9)), (0, .ref (a 0)), (1, .int (x)), (2, .ref (o))]) hx hb dL_left_12 rfl hl (by decide) rfl (fun ls hl => ?_)
    refine lv_iconst (v := nI (1)) hx hb dL_left_13 (by decide) ?_
    exact W.iret (v := nI (1)) hx hb hr (fun t ht hW => ⟨⟨_, (ov, u), rfl, (Or.inl ⟨hbad, ⟨rfl, rfl, hu⟩⟩), gb_mk ht hW hP hK hD⟩, hS.F ht⟩) hS.2.2 dL_left_14
  · obtain ⟨j, hj, rfl⟩ := nI_ex hbad
    obtain ⟨hq9, hR, hI, hv9, hb2, hgv, hkp, hen, hb6⟩ := hPR.2.1 j hj
    refine wf_VWi (rest := [.int (nI (0)), .ref (o)]) (X := oW cJ o ov) (wf := kW cI cJ cZ cV cR a) ⟨hx, hb, hml, hown, hts⟩ (c_X5_left l D cI cJ cZ cV cR a C hM (RT j).q (VT (RT j).v).q (RT j).hs (RT j).cu (RT j).kp (RT j).gv (RT j).en (RT j).ed (RT j).n (RT j).f hR hI hb2 hgv hkp hen j hj hq9 s.heap.size) (cwV 1 hts gL_left_X5_left rfl rfl rfl (by decide +kernel) ⟨Nat.le_of_ble_eq_true rfl, Nat.le_of_ble_eq_true rfl⟩) hP hK hD hS hA 0 rfl rfl rfl hl.1 rfl (Nat.le_of_ble_eq_true rfl) dL_left_4 ⟨Nat.le_of_ble_eq_true rfl, Nat.le_of_ble_eq_true rfl⟩ (fun rr9 u hu H locs hP hD hS => ?_)
    refine W.widen (k := 0) (n := 0) (Nat.le_refl _) (Nat.le_refl _) ?_
    refine lv_i2l (v := (rr9).toInt64) hx hb dL_left_7 rfl ?_
    refine wa_lst (i := 0) hx hb hK hP hD hS 0 1 rfl rfl (by decide) (by decide) dL_left_8 (fun H locs hP hD hS => ?_)
    have hP : va_P D vwCl (oW cJ o (va_up ov 0 ((rr9).toInt64)) ++ (kW cI cJ cZ cV cR a u)) H := hP
    have hD : va_D A (oW cJ o (va_up ov 0 ((rr9).toInt64)) ++ (kW cI cJ cZ cV cR a u)) := hD
    refine lv_goto (tgt := 15) hx hb dL_left_9 (by decide) ?_
    refine lv_iconst (v := nI (0)) hx hb dL_left_15 (by decide) ?_
    refine W.widen (k := 1) (n := 6) (Nat.le_of_ble_eq_true rfl) (Nat.le_of_ble_eq_true rfl) ?_
    exact W.iret (v := nI (0)) hx hb hr (fun t ht hW => ⟨⟨_, (va_up ov 0 ((rr9).toInt64), u), rfl, (Or.inr (⟨j, hj, rfl, ⟨rfl, rr9, rfl, hu⟩⟩)), gb_mk ht hW hP hK hD⟩, hS.F ht⟩) hS.2.2 dL_left_16
def D_close (cI cJ cZ cV cR : ClassId) (C : CT) (VT : Nat → VRec) (RT : Nat → RRec) (x : Int32) (ov : Nat → Int64) (rr : Int32) (u : (Nat → Int64) × CT) : Prop := ((bdX x (k_rc C)) ∧ rr = nI 1 ∧ u.1 = ov ∧ (u.2 = C)) ∨ (∃ j, j < k_rc C ∧ x = nI j ∧ (rr = nI 0 ∧ ∃ rr9, u.1 = va_up ov 0 ((rr9).toInt64) ∧ (rr9 = nI (erR C (RT j).ed (VT (RT j).v).st (VT (RT j).v).r (VT (RT j).v).sn (VT (RT j).v).sf) ∧ u.2 = erM C (RT j).q (VT (RT j).v).q (RT j).hs (RT j).cu (RT j).kp (RT j).gv (RT j).en (RT j).ed (VT (RT j).v).hs (VT (RT j).v).se (VT (RT j).v).c (VT (RT j).v).g (VT (RT j).v).st (VT (RT j).v).r (VT (RT j).v).sn (VT (RT j).v).sf)))
def rm_L_close : Room := { frames := 8, cells := 1, slots := 6, locals := 125 }
set_option maxHeartbeats 4000000 in
set_option maxRecDepth 100000 in
theorem w_L_close (l : Launch) (htr : l.stackTraces = false) (D : va_G) (cI cJ cZ cV cR : ClassId) (a : Nat → Nat) (C : CT) (VT : Nat → VRec) (RT : Nat → RRec) (hCI : CI cI cZ C VT RT) (o : Nat) (ov : Nat → Int64) (x : Int32) (sz : Nat) : Met l yL_close wsL_close rm_L_close (va_Pc [.ref (a 0), .int (x), .ref (o)] (GY D (tyK cI cJ cZ cV cR) (oW cJ o ov ++ (kW cI cJ cZ cV cR a C)) sz)) (va_Qi (fun rr u => D_close cI cJ cZ cV cR C VT RT x ov rr u) (fun u => GB D (tyK cI cJ cZ cV cR) (va_A (oW cJ o ov ++ (kW cI cJ cZ cV cR a C)) sz) (oW cJ o u.1 ++ kW cI cJ cZ cV cR a u.2)) (va_A (oW cJ o ov ++ (kW cI cJ cZ cV cR a C)) sz)) 1 6 (va_A (oW cJ o ov ++ (kW cI cJ cZ cV cR a C)) sz) := by
  obtain ⟨hM, hPR, hAI, hal, hgr⟩ := id hCI
  refine met_ofWH (cc := cL_close) (maxL := 4) (ret := (some .int)) (by decide) rfl ?_
  intro p e s m args below meth c s₁ B hml hv
  obtain ⟨rfl, ⟨hsz, hP, hK, hD0⟩, hYE⟩ := hv
  have hx := B.exec
  have hb := B.bytes
  have hr := B.returns
  have hts := atoms_spec (ws := wsL_close) B.pre
  have hown : s.vm.findClass RL = some m.cls := findClass_of_methodNamed B.named
  have hlocks := B.notSynchronized
  have htab := vx_table (x := yL_close) B (hts _ List.mem_cons_self)
  subst hsz
  have hD := hD0.self (sz := s.heap.size)
  generalize hAe : va_A (oW cJ o ov ++ (kW cI cJ cZ cV cR a C)) s.heap.size = A at hD hYE ⊢
  have hA : ∀ q : Nat, s.heap.size ≤ q → A q := fun q h => by rw [← hAe]; exact Or.inr h
  have hS : va_S A s.heap s.heap [] := va_S.rf
  have hf0 := hts (.classLink RL 13 "java/lang/IndexOutOfBoundsException") (by decide +kernel)
  have hl := lv_entry ([.ref (a 0), .int (x), .ref (o)]) (n := 4) (Nat.le_of_ble_eq_true rfl)
  rw [lg_entry_eq]
  generalize (lg_sl ([.ref (a 0), .int (x), .ref (o)]) ++ List.replicate (4 - (lg_sl ([.ref (a 0), .int (x), .ref (o)])).length) Slot.unset).toArray = ls at hl ⊢
  have hl : lv_has ls 4 [(0, .ref (a 0)), (1, .int (x)), (2, .ref (o))] := hl
  refine lv_aload_n hx hb dL_close_0 rfl (lv_at hl 2 rfl) ?_
  refine lv_iconst (v := nI (0)) hx hb dL_close_1 (by decide) ?_
  refine lv_aload_n hx hb dL_close_2 rfl (lv_at hl 0 rfl) ?_
  refine lv_iload_n hx hb dL_close_3 rfl (lv_at hl 1 rfl) ?_
  rcases Classical.em (bdX x (k_rc C)) with hbad | hbad
  · refine wf_X (rest := [.int (nI (0)), .ref (o)]) (X := oW cJ o ov) (wf := kW cI cJ cZ cV cR a) ⟨hx, hb, hml, hown, hts⟩ (x_X5_close l htr D cI cJ cZ cV cR a C hM x hbad s.heap.size) (cwV 1 hts gL_close_X5_close rfl rfl rfl (by decide +kernel) ⟨Nat.le_of_ble_eq_true rfl, Nat.le_of_ble_eq_true rfl⟩) hP hK hD hS hA hYE.1 0 rfl rfl rfl hl.1 rfl (Nat.le_of_ble_eq_true rfl) dL_close_4 ⟨Nat.le_of_ble_eq_true rfl, Nat.le_of_ble_eq_true rfl⟩ (fun u hu H locs ce q9 hP hD hS hce hcv hcl => ?_)
    refine vx_catch (name := "java/lang/IndexOutOfBoundsException") hown [] ⟨0, 9, 12, 13⟩ [] (htab.trans rfl) (fun z hz => nomatch hz) (by decide) (by decide) hf0 (va_Nw.use rfl (hYE.1.2.2.2.1 "java/lang/IndexOutOfBoundsException" (by decide))) hce hcv hcl ?_
    refine W.widen (k := 1) (n := 6) (Nat.le_refl _) (Nat.le_refl _) ?_
    refine lv_astore_n (lv' := [(3, .ref (q9)), (0, .ref (a 0)), (1, .int (x)), (2, .ref (o))]) hx hb dL_close_12 rfl hl (by decide) rfl (fun ls hl => ?_)
    refine lv_iconst (v := nI (1)) hx hb dL_close_13 (by decide) ?_
    exact W.iret (v := nI (1)) hx hb hr (fun t ht hW => ⟨⟨_, (ov, u), rfl, (Or.inl ⟨hbad, ⟨rfl, rfl, hu⟩⟩), gb_mk ht hW hP hK hD⟩, hS.F ht⟩) hS.2.2 dL_close_14
  · obtain ⟨j, hj, rfl⟩ := nI_ex hbad
    obtain ⟨hq9, hR, hI, hv9, hb2, hgv, hkp, hen, hb6⟩ := hPR.2.1 j hj
    obtain ⟨hvq, hV, hI2, hZ, hc1, hc2, hc3, hc4, hc5, hc6, hc7⟩ := hPR.1 _ hv9
    refine wf_VWi (rest := [.int (nI (0)), .ref (o)]) (X := oW cJ o ov) (wf := kW cI cJ cZ cV cR a) ⟨hx, hb, hml, hown, hts⟩ (c_X5_close l D cI cJ cZ cV cR a C hM (RT j).q (VT (RT j).v).q (RT j).hs (RT j).cu (RT j).kp (RT j).gv (RT j).en (RT j).ed (RT j).n (RT j).f hR hI hb2 hgv hkp hen (VT (RT j).v).hs (VT (RT j).v).se (VT (RT j).v).c (VT (RT j).v).g (VT (RT j).v).st (VT (RT j).v).r (VT (RT j).v).sn (VT (RT j).v).sf hV (Nat.le_trans hc1 hc2) hc3 hc4 hc5 hZ hc7 (AI.pos hAI hv9) (AI.run hAI hj) j hj hq9 s.heap.size) (cwV 1 hts gL_close_X5_close rfl rfl rfl (by decide +kernel) ⟨Nat.le_of_ble_eq_true rfl, Nat.le_of_ble_eq_true rfl⟩) hP hK hD hS hA 0 rfl rfl rfl hl.1 rfl (Nat.le_of_ble_eq_true rfl) dL_close_4 ⟨Nat.le_of_ble_eq_true rfl, Nat.le_of_ble_eq_true rfl⟩ (fun rr9 u hu H locs hP hD hS => ?_)
    refine W.widen (k := 0) (n := 0) (Nat.le_refl _) (Nat.le_refl _) ?_
    refine lv_i2l (v := (rr9).toInt64) hx hb dL_close_7 rfl ?_
    refine wa_lst (i := 0) hx hb hK hP hD hS 0 1 rfl rfl (by decide) (by decide) dL_close_8 (fun H locs hP hD hS => ?_)
    have hP : va_P D vwCl (oW cJ o (va_up ov 0 ((rr9).toInt64)) ++ (kW cI cJ cZ cV cR a u)) H := hP
    have hD : va_D A (oW cJ o (va_up ov 0 ((rr9).toInt64)) ++ (kW cI cJ cZ cV cR a u)) := hD
    refine lv_goto (tgt := 15) hx hb dL_close_9 (by decide) ?_
    refine lv_iconst (v := nI (0)) hx hb dL_close_15 (by decide) ?_
    refine W.widen (k := 1) (n := 6) (Nat.le_of_ble_eq_true rfl) (Nat.le_of_ble_eq_true rfl) ?_
    exact W.iret (v := nI (0)) hx hb hr (fun t ht hW => ⟨⟨_, (va_up ov 0 ((rr9).toInt64), u), rfl, (Or.inr (⟨j, hj, rfl, ⟨rfl, rr9, rfl, hu⟩⟩)), gb_mk ht hW hP hK hD⟩, hS.F ht⟩) hS.2.2 dL_close_16
def D_tick (cI cJ cZ cV cR : ClassId) (C : CT) (VT : Nat → VRec) (RT : Nat → RRec) (x : Int32) (ov : Nat → Int64) (rr : Int32) (u : (Nat → Int64) × CT) : Prop := ((x.toInt < 0 ∨ 10000 < x.toInt ∨ 1000000000 - x.toInt < k_nw C) ∧ rr = nI 1 ∧ u.1 = ov ∧ (u.2 = C)) ∨ (∃ n, n ≤ 10000 ∧ k_nw C + n ≤ 1000000000 ∧ x = nI n ∧ (rr = nI 0 ∧ ∃ rr9, u.1 = va_up ov 0 ((rr9).toInt64) ∧ (∃ k VT9 RT9, rr9 = nI k ∧ TI cI cZ (nwM C n) VT RT (k_rc C) k u.2 VT9 RT9)))
def rm_L_tick : Room := { frames := 7, cells := 1, slots := 6, locals := 110 }
set_option maxHeartbeats 4000000 in
set_option maxRecDepth 100000 in
theorem w_L_tick (l : Launch) (htr : l.stackTraces = false) (D : va_G) (cI cJ cZ cV cR : ClassId) (a : Nat → Nat) (C : CT) (VT : Nat → VRec) (RT : Nat → RRec) (hCI : CI cI cZ C VT RT) (o : Nat) (ov : Nat → Int64) (x : Int32) (sz : Nat) : Met l yL_tick wsL_tick rm_L_tick (va_Pc [.ref (a 0), .int (x), .ref (o)] (GY D (tyK cI cJ cZ cV cR) (oW cJ o ov ++ (kW cI cJ cZ cV cR a C)) sz)) (va_Qi (fun rr u => D_tick cI cJ cZ cV cR C VT RT x ov rr u) (fun u => GB D (tyK cI cJ cZ cV cR) (va_A (oW cJ o ov ++ (kW cI cJ cZ cV cR a C)) sz) (oW cJ o u.1 ++ kW cI cJ cZ cV cR a u.2)) (va_A (oW cJ o ov ++ (kW cI cJ cZ cV cR a C)) sz)) 1 6 (va_A (oW cJ o ov ++ (kW cI cJ cZ cV cR a C)) sz) := by
  obtain ⟨hM, hPR, hAI, hal, hgr⟩ := id hCI
  refine met_ofWH (cc := cL_tick) (maxL := 4) (ret := (some .int)) (by decide) rfl ?_
  intro p e s m args below meth c s₁ B hml hv
  obtain ⟨rfl, ⟨hsz, hP, hK, hD0⟩, hYE⟩ := hv
  have hx := B.exec
  have hb := B.bytes
  have hr := B.returns
  have hts := atoms_spec (ws := wsL_tick) B.pre
  have hown : s.vm.findClass RL = some m.cls := findClass_of_methodNamed B.named
  have hlocks := B.notSynchronized
  have htab := vx_table (x := yL_tick) B (hts _ List.mem_cons_self)
  subst hsz
  have hD := hD0.self (sz := s.heap.size)
  generalize hAe : va_A (oW cJ o ov ++ (kW cI cJ cZ cV cR a C)) s.heap.size = A at hD hYE ⊢
  have hA : ∀ q : Nat, s.heap.size ≤ q → A q := fun q h => by rw [← hAe]; exact Or.inr h
  have hS : va_S A s.heap s.heap [] := va_S.rf
  have hf0 := hts (.classLink RL 39 "java/lang/IllegalArgumentException") (by decide +kernel)
  have hl := lv_entry ([.ref (a 0), .int (x), .ref (o)]) (n := 4) (Nat.le_of_ble_eq_true rfl)
  rw [lg_entry_eq]
  generalize (lg_sl ([.ref (a 0), .int (x), .ref (o)]) ++ List.replicate (4 - (lg_sl ([.ref (a 0), .int (x), .ref (o)])).length) Slot.unset).toArray = ls at hl ⊢
  have hl : lv_has ls 4 [(0, .ref (a 0)), (1, .int (x)), (2, .ref (o))] := hl
  refine lv_aload_n hx hb dL_tick_0 rfl (lv_at hl 2 rfl) ?_
  refine lv_iconst (v := nI (0)) hx hb dL_tick_1 (by decide) ?_
  refine lv_aload_n hx hb dL_tick_2 rfl (lv_at hl 0 rfl) ?_
  refine lv_iload_n hx hb dL_tick_3 rfl (lv_at hl 1 rfl) ?_
  rcases Classical.em (x.toInt < 0 ∨ 10000 < x.toInt ∨ 1000000000 - x.toInt < k_nw C) with hbad | hbad
  · refine wf_X (rest := [.int (nI (0)), .ref (o)]) (X := oW cJ o ov) (wf := kW cI cJ cZ cV cR a) ⟨hx, hb, hml, hown, hts⟩ (x_X5_tick l htr D cI cJ cZ cV cR a C hM x hbad s.heap.size) (cwV 1 hts gL_tick_X5_tick rfl rfl rfl (by decide +kernel) ⟨Nat.le_of_ble_eq_true rfl, Nat.le_of_ble_eq_true rfl⟩) hP hK hD hS hA hYE.1 0 rfl rfl rfl hl.1 rfl (Nat.le_of_ble_eq_true rfl) dL_tick_4 ⟨Nat.le_of_ble_eq_true rfl, Nat.le_of_ble_eq_true rfl⟩ (fun u hu H locs ce q9 hP hD hS hce hcv hcl => ?_)
    refine vx_catch (name := "java/lang/IllegalArgumentException") hown [] ⟨0, 9, 12, 39⟩ [] (htab.trans rfl) (fun z hz => nomatch hz) (by decide) (by decide) hf0 (va_Nw.use rfl (hYE.1.2.2.2.1 "java/lang/IllegalArgumentException" (by decide))) hce hcv hcl ?_
    refine W.widen (k := 1) (n := 6) (Nat.le_refl _) (Nat.le_refl _) ?_
    refine lv_astore_n (lv' := [(3, .ref (q9)), (0, .ref (a 0)), (1, .int (x)), (2, .ref (o))]) hx hb dL_tick_12 rfl hl (by decide) rfl (fun ls hl => ?_)
    refine lv_iconst (v := nI (1)) hx hb dL_tick_13 (by decide) ?_
    exact W.iret (v := nI (1)) hx hb hr (fun t ht hW => ⟨⟨_, (ov, u), rfl, (Or.inl ⟨hbad, ⟨rfl, rfl, hu⟩⟩), gb_mk ht hW hP hK hD⟩, hS.F ht⟩) hS.2.2 dL_tick_14
  · obtain ⟨n9, hn9, hnw9, rfl⟩ := tk_ex hbad
    refine wf_VWi (rest := [.int (nI (0)), .ref (o)]) (X := oW cJ o ov) (wf := kW cI cJ cZ cV cR a) ⟨hx, hb, hml, hown, hts⟩ (c_X5_tick l D cI cJ cZ cV cR a C hM VT RT hPR hAI n9 hn9 hnw9 s.heap.size) (cwV 1 hts gL_tick_X5_tick rfl rfl rfl (by decide +kernel) ⟨Nat.le_of_ble_eq_true rfl, Nat.le_of_ble_eq_true rfl⟩) hP hK hD hS hA 0 rfl rfl rfl hl.1 rfl (Nat.le_of_ble_eq_true rfl) dL_tick_4 ⟨Nat.le_of_ble_eq_true rfl, Nat.le_of_ble_eq_true rfl⟩ (fun rr9 u hu H locs hP hD hS => ?_)
    refine W.widen (k := 0) (n := 0) (Nat.le_refl _) (Nat.le_refl _) ?_
    refine lv_i2l (v := (rr9).toInt64) hx hb dL_tick_7 rfl ?_
    refine wa_lst (i := 0) hx hb hK hP hD hS 0 1 rfl rfl (by decide) (by decide) dL_tick_8 (fun H locs hP hD hS => ?_)
    have hP : va_P D vwCl (oW cJ o (va_up ov 0 ((rr9).toInt64)) ++ (kW cI cJ cZ cV cR a u)) H := hP
    have hD : va_D A (oW cJ o (va_up ov 0 ((rr9).toInt64)) ++ (kW cI cJ cZ cV cR a u)) := hD
    refine lv_goto (tgt := 15) hx hb dL_tick_9 (by decide) ?_
    refine lv_iconst (v := nI (0)) hx hb dL_tick_15 (by decide) ?_
    refine W.widen (k := 1) (n := 6) (Nat.le_of_ble_eq_true rfl) (Nat.le_of_ble_eq_true rfl) ?_
    exact W.iret (v := nI (0)) hx hb hr (fun t ht hW => ⟨⟨_, (va_up ov 0 ((rr9).toInt64), u), rfl, (Or.inr (⟨n9, hn9, hnw9, rfl, ⟨rfl, rr9, rfl, hu⟩⟩)), gb_mk ht hW hP hK hD⟩, hS.F ht⟩) hS.2.2 dL_tick_16
def D_told (cI cJ cZ cV cR : ClassId) (C : CT) (VT : Nat → VRec) (RT : Nat → RRec) (x : Int32) (ov : Nat → Int64) (rr : Int32) (u : (Nat → Int64) × CT) : Prop := ((bdX x (12)) ∧ rr = nI 1 ∧ u.1 = ov ∧ (u.2 = C)) ∨ (∃ w, w < 12 ∧ x = nI w ∧ (rr = nI 0 ∧ ∃ rr9, u.1 = va_up ov 0 ((rr9).toInt64) ∧ (rr9 = nI (tldC C VT RT w) ∧ u.2 = C)))
def rm_L_told : Room := { frames := 7, cells := 1, slots := 6, locals := 103 }
set_option maxHeartbeats 4000000 in
set_option maxRecDepth 100000 in
theorem w_L_told (l : Launch) (htr : l.stackTraces = false) (D : va_G) (cI cJ cZ cV cR : ClassId) (a : Nat → Nat) (C : CT) (VT : Nat → VRec) (RT : Nat → RRec) (hCI : CI cI cZ C VT RT) (o : Nat) (ov : Nat → Int64) (x : Int32) (sz : Nat) : Met l yL_told wsL_told rm_L_told (va_Pc [.ref (a 0), .int (x), .ref (o)] (GY D (tyK cI cJ cZ cV cR) (oW cJ o ov ++ (kW cI cJ cZ cV cR a C)) sz)) (va_Qi (fun rr u => D_told cI cJ cZ cV cR C VT RT x ov rr u) (fun u => GB D (tyK cI cJ cZ cV cR) (va_A (oW cJ o ov ++ (kW cI cJ cZ cV cR a C)) sz) (oW cJ o u.1 ++ kW cI cJ cZ cV cR a u.2)) (va_A (oW cJ o ov ++ (kW cI cJ cZ cV cR a C)) sz)) 1 6 (va_A (oW cJ o ov ++ (kW cI cJ cZ cV cR a C)) sz) := by
  obtain ⟨hM, hPR, hAI, hal, hgr⟩ := id hCI
  refine met_ofWH (cc := cL_told) (maxL := 4) (ret := (some .int)) (by decide) rfl ?_
  intro p e s m args below meth c s₁ B hml hv
  obtain ⟨rfl, ⟨hsz, hP, hK, hD0⟩, hYE⟩ := hv
  have hx := B.exec
  have hb := B.bytes
  have hr := B.returns
  have hts := atoms_spec (ws := wsL_told) B.pre
  have hown : s.vm.findClass RL = some m.cls := findClass_of_methodNamed B.named
  have hlocks := B.notSynchronized
  have htab := vx_table (x := yL_told) B (hts _ List.mem_cons_self)
  subst hsz
  have hD := hD0.self (sz := s.heap.size)
  generalize hAe : va_A (oW cJ o ov ++ (kW cI cJ cZ cV cR a C)) s.heap.size = A at hD hYE ⊢
  have hA : ∀ q : Nat, s.heap.size ≤ q → A q := fun q h => by rw [← hAe]; exact Or.inr h
  have hS : va_S A s.heap s.heap [] := va_S.rf
  have hf0 := hts (.classLink RL 13 "java/lang/IndexOutOfBoundsException") (by decide +kernel)
  have hl := lv_entry ([.ref (a 0), .int (x), .ref (o)]) (n := 4) (Nat.le_of_ble_eq_true rfl)
  rw [lg_entry_eq]
  generalize (lg_sl ([.ref (a 0), .int (x), .ref (o)]) ++ List.replicate (4 - (lg_sl ([.ref (a 0), .int (x), .ref (o)])).length) Slot.unset).toArray = ls at hl ⊢
  have hl : lv_has ls 4 [(0, .ref (a 0)), (1, .int (x)), (2, .ref (o))] := hl
  refine lv_aload_n hx hb dL_told_0 rfl (lv_at hl 2 rfl) ?_
  refine lv_iconst (v := nI (0)) hx hb dL_told_1 (by decide) ?_
  refine lv_aload_n hx hb dL_told_2 rfl (lv_at hl 0 rfl) ?_
  refine lv_iload_n hx hb dL_told_3 rfl (lv_at hl 1 rfl) ?_
  rcases Classical.em (bdX x (12)) with hbad | hbad
  · refine wf_X (rest := [.int (nI (0)), .ref (o)]) (X := oW cJ o ov) (wf := kW cI cJ cZ cV cR a) ⟨hx, hb, hml, hown, hts⟩ (x_X5_told l htr D cI cJ cZ cV cR a C hM x hbad s.heap.size) (cwV 1 hts gL_told_X5_told rfl rfl rfl (by decide +kernel) ⟨Nat.le_of_ble_eq_true rfl, Nat.le_of_ble_eq_true rfl⟩) hP hK hD hS hA hYE.1 0 rfl rfl rfl hl.1 rfl (Nat.le_of_ble_eq_true rfl) dL_told_4 ⟨Nat.le_of_ble_eq_true rfl, Nat.le_of_ble_eq_true rfl⟩ (fun u hu H locs ce q9 hP hD hS hce hcv hcl => ?_)
    refine vx_catch (name := "java/lang/IndexOutOfBoundsException") hown [] ⟨0, 9, 12, 13⟩ [] (htab.trans rfl) (fun z hz => nomatch hz) (by decide) (by decide) hf0 (va_Nw.use rfl (hYE.1.2.2.2.1 "java/lang/IndexOutOfBoundsException" (by decide))) hce hcv hcl ?_
    refine W.widen (k := 1) (n := 6) (Nat.le_refl _) (Nat.le_refl _) ?_
    refine lv_astore_n (lv' := [(3, .ref (q9)), (0, .ref (a 0)), (1, .int (x)), (2, .ref (o))]) hx hb dL_told_12 rfl hl (by decide) rfl (fun ls hl => ?_)
    refine lv_iconst (v := nI (1)) hx hb dL_told_13 (by decide) ?_
    exact W.iret (v := nI (1)) hx hb hr (fun t ht hW => ⟨⟨_, (ov, u), rfl, (Or.inl ⟨hbad, ⟨rfl, rfl, hu⟩⟩), gb_mk ht hW hP hK hD⟩, hS.F ht⟩) hS.2.2 dL_told_14
  · obtain ⟨w, hw, rfl⟩ := nI_ex hbad
    refine wf_VWi (rest := [.int (nI (0)), .ref (o)]) (X := oW cJ o ov) (wf := kW cI cJ cZ cV cR a) ⟨hx, hb, hml, hown, hts⟩ (c_X5_told l D cI cJ cZ cV cR a C hM VT RT hPR w hw s.heap.size) (cwV 1 hts gL_told_X5_told rfl rfl rfl (by decide +kernel) ⟨Nat.le_of_ble_eq_true rfl, Nat.le_of_ble_eq_true rfl⟩) hP hK hD hS hA 0 rfl rfl rfl hl.1 rfl (Nat.le_of_ble_eq_true rfl) dL_told_4 ⟨Nat.le_of_ble_eq_true rfl, Nat.le_of_ble_eq_true rfl⟩ (fun rr9 u hu H locs hP hD hS => ?_)
    refine W.widen (k := 0) (n := 0) (Nat.le_refl _) (Nat.le_refl _) ?_
    refine lv_i2l (v := (rr9).toInt64) hx hb dL_told_7 rfl ?_
    refine wa_lst (i := 0) hx hb hK hP hD hS 0 1 rfl rfl (by decide) (by decide) dL_told_8 (fun H locs hP hD hS => ?_)
    have hP : va_P D vwCl (oW cJ o (va_up ov 0 ((rr9).toInt64)) ++ (kW cI cJ cZ cV cR a u)) H := hP
    have hD : va_D A (oW cJ o (va_up ov 0 ((rr9).toInt64)) ++ (kW cI cJ cZ cV cR a u)) := hD
    refine lv_goto (tgt := 15) hx hb dL_told_9 (by decide) ?_
    refine lv_iconst (v := nI (0)) hx hb dL_told_15 (by decide) ?_
    refine W.widen (k := 1) (n := 6) (Nat.le_of_ble_eq_true rfl) (Nat.le_of_ble_eq_true rfl) ?_
    exact W.iret (v := nI (0)) hx hb hr (fun t ht hW => ⟨⟨_, (va_up ov 0 ((rr9).toInt64), u), rfl, (Or.inr (⟨w, hw, rfl, ⟨rfl, rr9, rfl, hu⟩⟩)), gb_mk ht hW hP hK hD⟩, hS.F ht⟩) hS.2.2 dL_told_16
