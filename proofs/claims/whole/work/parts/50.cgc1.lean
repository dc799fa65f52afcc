def rm_X5_add : Room := { frames := 2, cells := 0, slots := 0, locals := 50 }
set_option maxHeartbeats 4000000 in
set_option maxRecDepth 100000 in
/-- an object more -/
theorem c_X5_add (l : Launch) (D : va_G) (cI cJ cZ cV cR : ClassId) (a : Nat → Nat) (C : CT) (hM : kOk C) (g k s9 : Int64) (sz : Nat) : Met l yX5_add wsX5_add rm_X5_add (va_Pc [.ref (a 0), .long (g), .long (k), .long (s9)] (GW D (tyK cI cJ cZ cV cR) (kW cI cJ cZ cV cR a C) sz)) (va_Qi (fun rr u => rr = addRC C ∧ u = addS C g k s9) (fun u => GB D (tyK cI cJ cZ cV cR) (va_A (kW cI cJ cZ cV cR a C) sz) (kW cI cJ cZ cV cR a u)) (va_A (kW cI cJ cZ cV cR a C) sz)) 0 0 (va_A (kW cI cJ cZ cV cR a C) sz) := by
  obtain ⟨hn, hfn, hsn, hvc, hrc, hpc, hnw, hkc, h_home, h_kin, h_alv, h_srs, h_row, h_sp, h_kis, h_pg⟩ := id hM
  refine Met.ofW (cc := cX5_add) (maxL := 7) (ret := (some .int)) (by decide) rfl ?_
  intro p e s m args below meth c s₁ B hml hv
  obtain ⟨rfl, hsz, hP, hK, hD0⟩ := hv
  have hx := B.exec
  have hb := B.bytes
  have hr := B.returns
  have hts := atoms_spec (ws := wsX5_add) B.pre
  have hown : s.vm.findClass RX5 = some m.cls := findClass_of_methodNamed B.named
  have hlocks := B.notSynchronized
  subst hsz
  have hD := hD0.self (sz := s.heap.size)
  generalize hAe : va_A (kW cI cJ cZ cV cR a C) s.heap.size = A at hD ⊢
  have hA : ∀ q : Nat, s.heap.size ≤ q → A q := fun q h => by rw [← hAe]; exact Or.inr h
  have hS : va_S A s.heap s.heap [] := va_S.rf
  have hP : va_P D vwCl (kX cI cJ cZ cV cR a (k_ra C) (k_rb C) (k_vc C) (k_rc C) (k_pc C) (k_nw C) (k_n C) (k_fn C) (k_sn C) (k_kc C) (k_grp C) (k_key C) (k_srt C) (k_wt C) (k_home C) (k_drp C) (k_met C) (k_kin C) (k_alv C) (k_srs C) (k_row C) (k_sp C) (k_kis C) (k_pg C) (k_vq C) (k_rq C) (k_L C) (k_F C)) s.heap := hP
  have hD : va_D A (kX cI cJ cZ cV cR a (k_ra C) (k_rb C) (k_vc C) (k_rc C) (k_pc C) (k_nw C) (k_n C) (k_fn C) (k_sn C) (k_kc C) (k_grp C) (k_key C) (k_srt C) (k_wt C) (k_home C) (k_drp C) (k_met C) (k_kin C) (k_alv C) (k_srs C) (k_row C) (k_sp C) (k_kis C) (k_pg C) (k_vq C) (k_rq C) (k_L C) (k_F C)) := hD
  have hiX5 : ∀ w ∈ wsX50, w ∈ wsX5_add := by decide +kernel
  have hiX3 : ∀ w ∈ wsX30, w ∈ wsX5_add := by decide +kernel
  have hf0 := hts (.fieldLink RX5 10 "GroupCursors" "stock" "LGroupCursors$Stock;") (by decide +kernel)
  have hf1 := hts (.fieldLink RX5 61 "GroupCursors$Stock" "count" "I") (by decide +kernel)
  have hl := lv_entry ([.ref (a 0), .long (g), .long (k), .long (s9)]) (n := 7) (Nat.le_of_ble_eq_true rfl)
  rw [lg_entry_eq]
  generalize (lg_sl ([.ref (a 0), .long (g), .long (k), .long (s9)]) ++ List.replicate (7 - (lg_sl ([.ref (a 0), .long (g), .long (k), .long (s9)])).length) Slot.unset).toArray = ls at hl ⊢
  have hl : lv_has ls 7 [(0, .ref (a 0)), (1, .long (g)), (3, .long (k)), (5, .long (s9))] := hl
  refine lv_aload_n hx hb dX5_add_0 rfl (lv_at hl 0 rfl) ?_
  refine va_get (ci := 5) (v := .ref (a 1)) (C := RX5) (T := TX5) (N := 10) hx hb hts hiX5 hown hK hP 0 rfl rfl 0 (by decide) hf0 (fun _ h9 => h9) rfl dX5_add_1 ?_
  refine va_get (ci := 3) (v := .int (nI (k_n C))) (C := RX3) (T := TX3) (N := 8) hx hb hts hiX3 hown hK hP 1 rfl rfl 6 (by decide) hf1 (fun _ h9 => h9) rfl dX5_add_4 ?_
  refine lv_sipush (v := nI (300)) hx hb dX5_add_7 (by decide) ?_
  refine wn_icmp_lt (a := k_n C) (b := 300) (tgt := 18) hx hb (nI_z (by omega)) (nI_z (by omega)) dX5_add_10 (by decide) (fun c10_1 => ?_) (fun c10_1 => ?_)
  · refine lv_aload_n hx hb dX5_add_18 rfl (lv_at hl 0 rfl) ?_
    refine va_get (ci := 5) (v := .ref (a 1)) (C := RX5) (T := TX5) (N := 10) hx hb hts hiX5 hown hK hP 0 rfl rfl 0 (by decide) hf0 (fun _ h9 => h9) rfl dX5_add_19 ?_
    refine lv_lload_n hx hb dX5_add_22 rfl (lv_at hl 1 rfl) ?_
    refine lv_lload_n hx hb dX5_add_23 rfl (lv_at hl 2 rfl) ?_
    refine lv_lload hx hb dX5_add_24 (lv_at hl 3 rfl) ?_
    have hPm : va_P D vwCl (kW cI cJ cZ cV cR a C) s.heap := by exact hP
    have hDm : va_D A (kW cI cJ cZ cV cR a C) := by exact hD
    refine wc_VWi (As := [.long (g), .long (k), .long (s9)]) (rest := []) (wf := kW cI cJ cZ cV cR a) ⟨hx, hb, hml, hown, hts⟩ (c_X3_append l D cI cJ cZ cV cR a C hM (g) (k) (s9) (show k_n C < 300 by omega) s.heap.size) (cwV 3 hts gX5_add_X3_append rfl rfl rfl (by decide +kernel) ⟨Nat.le_of_ble_eq_true rfl, Nat.le_of_ble_eq_true rfl⟩) hPm hK hDm hS hA 1 rfl rfl rfl hl.1 rfl (Nat.le_of_ble_eq_true rfl) dX5_add_26 ⟨Nat.zero_le _, Nat.zero_le _⟩ (fun rr u2 hq2 H locs hP hD hS => ?_)
    obtain ⟨hr2, hu2⟩ := hq2
    subst hr2
    have hu2 := hu2.symm
    subst hu2
    have hP : va_P D vwCl (kX cI cJ cZ cV cR a (k_ra C) (k_rb C) (k_vc C) (k_rc C) (k_pc C) (k_nw C) (k_n C + 1) (k_fn C) (k_sn C) (k_kc C) (va_up (k_grp C) (k_n C) (g)) (va_up (k_key C) (k_n C) (k)) (va_up (k_srt C) (k_n C) (s9)) (k_wt C) (va_up (k_home C) (k_n C) (((-1) : Int))) (k_drp C) (k_met C) (va_up (k_kin C) (k_n C) (firstF (va_up (k_grp C) (k_n C) (g)) (k_n C) (g))) (k_alv C) (k_srs C) (k_row C) (k_sp C) (k_kis C) (k_pg C) (k_vq C) (k_rq C) (k_L C) (k_F C)) H := hP
    have hD : va_D A (kX cI cJ cZ cV cR a (k_ra C) (k_rb C) (k_vc C) (k_rc C) (k_pc C) (k_nw C) (k_n C + 1) (k_fn C) (k_sn C) (k_kc C) (va_up (k_grp C) (k_n C) (g)) (va_up (k_key C) (k_n C) (k)) (va_up (k_srt C) (k_n C) (s9)) (k_wt C) (va_up (k_home C) (k_n C) (((-1) : Int))) (k_drp C) (k_met C) (va_up (k_kin C) (k_n C) (firstF (va_up (k_grp C) (k_n C) (g)) (k_n C) (g))) (k_alv C) (k_srs C) (k_row C) (k_sp C) (k_kis C) (k_pg C) (k_vq C) (k_rq C) (k_L C) (k_F C)) := hD
    have hPm : va_P D vwCl (kW cI cJ cZ cV cR a (mkC (k_ra C) (k_rb C) (k_vc C) (k_rc C) (k_pc C) (k_nw C) (k_n C + 1) (k_fn C) (k_sn C) (k_kc C) (va_up (k_grp C) (k_n C) (g)) (va_up (k_key C) (k_n C) (k)) (va_up (k_srt C) (k_n C) (s9)) (k_wt C) (va_up (k_home C) (k_n C) (((-1) : Int))) (k_drp C) (k_met C) (va_up (k_kin C) (k_n C) (firstF (va_up (k_grp C) (k_n C) (g)) (k_n C) (g))) (k_alv C) (k_srs C) (k_row C) (k_sp C) (k_kis C) (k_pg C) (k_vq C) (k_rq C) (k_L C) (k_F C))) H := by rw [← kX_mk]; exact hP
    have hDm : va_D A (kW cI cJ cZ cV cR a (mkC (k_ra C) (k_rb C) (k_vc C) (k_rc C) (k_pc C) (k_nw C) (k_n C + 1) (k_fn C) (k_sn C) (k_kc C) (va_up (k_grp C) (k_n C) (g)) (va_up (k_key C) (k_n C) (k)) (va_up (k_srt C) (k_n C) (s9)) (k_wt C) (va_up (k_home C) (k_n C) (((-1) : Int))) (k_drp C) (k_met C) (va_up (k_kin C) (k_n C) (firstF (va_up (k_grp C) (k_n C) (g)) (k_n C) (g))) (k_alv C) (k_srs C) (k_row C) (k_sp C) (k_kis C) (k_pg C) (k_vq C) (k_rq C) (k_L C) (k_F C))) := by rw [← kX_mk]; exact hD
    exact W.iret (v := nI (k_n C)) hx hb hr (fun t ht hW => ⟨⟨_, (mkC (k_ra C) (k_rb C) (k_vc C) (k_rc C) (k_pc C) (k_nw C) (k_n C + 1) (k_fn C) (k_sn C) (k_kc C) (va_up (k_grp C) (k_n C) (g)) (va_up (k_key C) (k_n C) (k)) (va_up (k_srt C) (k_n C) (s9)) (k_wt C) (va_up (k_home C) (k_n C) (((-1) : Int))) (k_drp C) (k_met C) (va_up (k_kin C) (k_n C) (firstF (va_up (k_grp C) (k_n C) (g)) (k_n C) (g))) (k_alv C) (k_srs C) (k_row C) (k_sp C) (k_kis C) (k_pg C) (k_vq C) (k_rq C) (k_L C) (k_F C)), rfl, ⟨by rw [addRC, if_pos (by omega)], by rw [addS, if_pos (by omega)]; rfl⟩, gb_mk ht hW hPm hK hDm⟩, hS.F ht⟩) hS.2.2 dX5_add_29
  · refine lv_bipush (v := zI ((-4))) hx hb dX5_add_13 (by decide) ?_
    refine lv_goto (tgt := 29) hx hb dX5_add_15 (by decide) ?_
    have hPm : va_P D vwCl (kW cI cJ cZ cV cR a C) s.heap := by exact hP
    have hDm : va_D A (kW cI cJ cZ cV cR a C) := by exact hD
    exact W.iret (v := zI ((-4))) hx hb hr (fun t ht hW => ⟨⟨_, C, rfl, ⟨by rw [addRC, if_neg (by omega)], by rw [addS, if_neg (by omega)]⟩, gb_mk ht hW hPm hK hDm⟩, hS.F ht⟩) hS.2.2 dX5_add_29
def rm_X5_moveFromBelow : Room := { frames := 1, cells := 0, slots := 0, locals := 22 }
set_option maxHeartbeats 4000000 in
set_option maxRecDepth 100000 in
/-- objects move -/
theorem c_X5_moveFromBelow (l : Launch) (D : va_G) (cI cJ cZ cV cR : ClassId) (a : Nat → Nat) (C : CT) (hM : kOk C) (x : Int32) (to : Nat) (ht9 : to < 40) (sz : Nat) : Met l yX5_moveFromBelow wsX5_moveFromBelow rm_X5_moveFromBelow (va_Pc [.ref (a 0), .int (x), .int (nI (to))] (GW D (tyK cI cJ cZ cV cR) (kW cI cJ cZ cV cR a C) sz)) (va_Qi (fun rr u => rr = nI (mvL (k_home C) (k_drp C) (k_alv C) x to (k_n C)).1 ∧ u = mvM C x to) (fun u => GB D (tyK cI cJ cZ cV cR) (va_A (kW cI cJ cZ cV cR a C) sz) (kW cI cJ cZ cV cR a u)) (va_A (kW cI cJ cZ cV cR a C) sz)) 0 0 (va_A (kW cI cJ cZ cV cR a C) sz) := by
  obtain ⟨hn, hfn, hsn, hvc, hrc, hpc, hnw, hkc, h_home, h_kin, h_alv, h_srs, h_row, h_sp, h_kis, h_pg⟩ := id hM
  have hixx := ix_c x
  refine Met.ofW (cc := cX5_moveFromBelow) (maxL := 5) (ret := (some .int)) (by decide) rfl ?_
  intro p e s m args below meth c s₁ B hml hv
  obtain ⟨rfl, hsz, hP, hK, hD0⟩ := hv
  have hx := B.exec
  have hb := B.bytes
  have hr := B.returns
  have hts := atoms_spec (ws := wsX5_moveFromBelow) B.pre
  have hown : s.vm.findClass RX5 = some m.cls := findClass_of_methodNamed B.named
  have hlocks := B.notSynchronized
  subst hsz
  have hD := hD0.self (sz := s.heap.size)
  generalize hAe : va_A (kW cI cJ cZ cV cR a C) s.heap.size = A at hD ⊢
  have hA : ∀ q : Nat, s.heap.size ≤ q → A q := fun q h => by rw [← hAe]; exact Or.inr h
  have hS : va_S A s.heap s.heap [] := va_S.rf
  have hP : va_P D vwCl (kX cI cJ cZ cV cR a (k_ra C) (k_rb C) (k_vc C) (k_rc C) (k_pc C) (k_nw C) (k_n C) (k_fn C) (k_sn C) (k_kc C) (k_grp C) (k_key C) (k_srt C) (k_wt C) (k_home C) (k_drp C) (k_met C) (k_kin C) (k_alv C) (k_srs C) (k_row C) (k_sp C) (k_kis C) (k_pg C) (k_vq C) (k_rq C) (k_L C) (k_F C)) s.heap := hP
  have hD : va_D A (kX cI cJ cZ cV cR a (k_ra C) (k_rb C) (k_vc C) (k_rc C) (k_pc C) (k_nw C) (k_n C) (k_fn C) (k_sn C) (k_kc C) (k_grp C) (k_key C) (k_srt C) (k_wt C) (k_home C) (k_drp C) (k_met C) (k_kin C) (k_alv C) (k_srs C) (k_row C) (k_sp C) (k_kis C) (k_pg C) (k_vq C) (k_rq C) (k_L C) (k_F C)) := hD
  have hiX5 : ∀ w ∈ wsX50, w ∈ wsX5_moveFromBelow := by decide +kernel
  have hiX3 : ∀ w ∈ wsX30, w ∈ wsX5_moveFromBelow := by decide +kernel
  have hf0 := hts (.fieldLink RX5 10 "GroupCursors" "stock" "LGroupCursors$Stock;") (by decide +kernel)
  have hf1 := hts (.fieldLink RX5 61 "GroupCursors$Stock" "count" "I") (by decide +kernel)
  have hf2 := hts (.fieldLink RX5 19 "GroupCursors" "segments" "LGroupCursors$Segments;") (by decide +kernel)
  have hf3 := hts (.fieldLink RX5 76 "GroupCursors$Stock" "home" "[I") (by decide +kernel)
  have hl := lv_entry ([.ref (a 0), .int (x), .int (nI (to))]) (n := 5) (Nat.le_of_ble_eq_true rfl)
  rw [lg_entry_eq]
  generalize (lg_sl ([.ref (a 0), .int (x), .int (nI (to))]) ++ List.replicate (5 - (lg_sl ([.ref (a 0), .int (x), .int (nI (to))])).length) Slot.unset).toArray = ls at hl ⊢
  have hl : lv_has ls 5 [(0, .ref (a 0)), (1, .int (x)), (2, .int (nI (to)))] := hl
  refine lv_iconst (v := nI (0)) hx hb dX5_moveFromBelow_0 (by decide) ?_
  refine lv_istore_n (lv' := [(3, .int (nI (0))), (0, .ref (a 0)), (1, .int (x)), (2, .int (nI (to)))]) hx hb dX5_moveFromBelow_1 rfl hl (by decide) rfl (fun ls hl => ?_)
  refine lv_iconst (v := nI (0)) hx hb dX5_moveFromBelow_2 (by decide) ?_
  refine lv_istore (lv' := [(4, .int (nI (0))), (3, .int (nI (0))), (0, .ref (a 0)), (1, .int (x)), (2, .int (nI (to)))]) hx hb dX5_moveFromBelow_3 hl (by decide) rfl (fun ls hl => ?_)
  have hlp5 : ∀ (d : Nat) (i : Nat) (k : Nat) (h9 : Nat → Int) (H : Heap) (locs : List Loc), k_n C - i < d → (i ≤ k_n C) → (mvL (k_home C) (k_drp C) (k_alv C) x to i = (k, h9)) → (∀ j, -1 ≤ h9 j ∧ h9 j < 40) → va_P D vwCl (kX cI cJ cZ cV cR a (k_ra C) (k_rb C) (k_vc C) (k_rc C) (k_pc C) (k_nw C) (k_n C) (k_fn C) (k_sn C) (k_kc C) (k_grp C) (k_key C) (k_srt C) (k_wt C) (h9) (k_drp C) (k_met C) (k_kin C) (k_alv C) (k_srs C) (k_row C) (k_sp C) (k_kis C) (k_pg C) (k_vq C) (k_rq C) (k_L C) (k_F C)) H → va_D A (kX cI cJ cZ cV cR a (k_ra C) (k_rb C) (k_vc C) (k_rc C) (k_pc C) (k_nw C) (k_n C) (k_fn C) (k_sn C) (k_kc C) (k_grp C) (k_key C) (k_srt C) (k_wt C) (h9) (k_drp C) (k_met C) (k_kin C) (k_alv C) (k_srs C) (k_row C) (k_sp C) (k_kis C) (k_pg C) (k_vq C) (k_rq C) (k_L C) (k_F C)) → va_S A s.heap H locs → ∀ (ls : Array Slot), lv_has ls 5 [(0, .ref (a 0)), (1, .int (x)), (2, .int (nI (to))), (3, .int (nI (k))), (4, .int (nI (i)))] → W p l e (headSpec wsX5_moveFromBelow rm_X5_moveFromBelow).room s m ([.ref (a 0), .int (x), .int (nI (to))] : List Value).toArray below meth c H locs (0) (0) (MQ below (va_Qi (fun rr u => rr = nI (mvL (k_home C) (k_drp C) (k_alv C) x to (k_n C)).1 ∧ u = mvM C x to) (fun u => GB D (tyK cI cJ cZ cV cR) A (kW cI cJ cZ cV cR a u)) A) ([.ref (a 0), .int (x), .int (nI (to))] : List Value).toArray s 0 0 A) (F0 m 5 ls []) := by
    intro d
    induction d with
    | zero => intro i k h9 H locs hd5; exact absurd hd5 (Nat.not_lt_zero _)
    | succ d ih5 =>
      intro i k h9 H locs hd5 hik hm hh hP hD hS ls hl
      have hhi := hh i
      have hkl : k ≤ i := by have := mvL_le (k_home C) (k_drp C) (k_alv C) x to i; rw [hm] at this; exact this
      refine lv_iload hx hb dX5_moveFromBelow_5 (lv_at hl 4 rfl) ?_
      refine lv_aload_n hx hb dX5_moveFromBelow_7 rfl (lv_at hl 0 rfl) ?_
      refine va_get (ci := 5) (v := .ref (a 1)) (C := RX5) (T := TX5) (N := 10) hx hb hts hiX5 hown hK hP 0 rfl rfl 0 (by decide) hf0 (fun _ h9 => h9) rfl dX5_moveFromBelow_8 ?_
      refine va_get (ci := 3) (v := .int (nI (k_n C))) (C := RX3) (T := TX3) (N := 8) hx hb hts hiX3 hown hK hP 1 rfl rfl 6 (by decide) hf1 (fun _ h9 => h9) rfl dX5_moveFromBelow_11 ?_
      refine wn_icmp_ge (a := i) (b := k_n C) (tgt := 70) hx hb (nI_z (by omega)) (nI_z (by omega)) dX5_moveFromBelow_14 (by decide) (fun c14_1 => ?_) (fun c14_1 => ?_)
      · refine lv_iload_n hx hb dX5_moveFromBelow_70 rfl (lv_at hl 3 rfl) ?_
        have hPm : va_P D vwCl (kW cI cJ cZ cV cR a (mkC (k_ra C) (k_rb C) (k_vc C) (k_rc C) (k_pc C) (k_nw C) (k_n C) (k_fn C) (k_sn C) (k_kc C) (k_grp C) (k_key C) (k_srt C) (k_wt C) (h9) (k_drp C) (k_met C) (k_kin C) (k_alv C) (k_srs C) (k_row C) (k_sp C) (k_kis C) (k_pg C) (k_vq C) (k_rq C) (k_L C) (k_F C))) H := by rw [← kX_mk]; exact hP
        have hDm : va_D A (kW cI cJ cZ cV cR a (mkC (k_ra C) (k_rb C) (k_vc C) (k_rc C) (k_pc C) (k_nw C) (k_n C) (k_fn C) (k_sn C) (k_kc C) (k_grp C) (k_key C) (k_srt C) (k_wt C) (h9) (k_drp C) (k_met C) (k_kin C) (k_alv C) (k_srs C) (k_row C) (k_sp C) (k_kis C) (k_pg C) (k_vq C) (k_rq C) (k_L C) (k_F C))) := by rw [← kX_mk]; exact hD
        exact W.iret (v := nI (k)) hx hb hr (fun t ht hW => ⟨⟨_, (mkC (k_ra C) (k_rb C) (k_vc C) (k_rc C) (k_pc C) (k_nw C) (k_n C) (k_fn C) (k_sn C) (k_kc C) (k_grp C) (k_key C) (k_srt C) (k_wt C) (h9) (k_drp C) (k_met C) (k_kin C) (k_alv C) (k_srs C) (k_row C) (k_sp C) (k_kis C) (k_pg C) (k_vq C) (k_rq C) (k_L C) (k_F C)), rfl, ⟨by have hm9 := hm; rw [(show i = k_n C by omega)] at hm9; rw [hm9], by have hm9 := hm; rw [(show i = k_n C by omega)] at hm9; rw [mvM, hm9]⟩, gb_mk ht hW hPm hK hDm⟩, hS.F ht⟩) hS.2.2 dX5_moveFromBelow_71
      · refine lv_aload_n hx hb dX5_moveFromBelow_17 rfl (lv_at hl 0 rfl) ?_
        refine va_get (ci := 5) (v := .ref (a 1)) (C := RX5) (T := TX5) (N := 10) hx hb hts hiX5 hown hK hP 0 rfl rfl 0 (by decide) hf0 (fun _ h9 => h9) rfl dX5_moveFromBelow_18 ?_
        refine lv_iload hx hb dX5_moveFromBelow_21 (lv_at hl 4 rfl) ?_
        have hPm : va_P D vwCl (kW cI cJ cZ cV cR a (mkC (k_ra C) (k_rb C) (k_vc C) (k_rc C) (k_pc C) (k_nw C) (k_n C) (k_fn C) (k_sn C) (k_kc C) (k_grp C) (k_key C) (k_srt C) (k_wt C) (h9) (k_drp C) (k_met C) (k_kin C) (k_alv C) (k_srs C) (k_row C) (k_sp C) (k_kis C) (k_pg C) (k_vq C) (k_rq C) (k_L C) (k_F C))) H := by rw [← kX_mk]; exact hP
        refine wc_Vi (As := [.int (nI (i))]) (rest := []) ⟨hx, hb, hml, hown, hts⟩ (c_X3_stands l D cI cJ cZ cV cR a (mkC (k_ra C) (k_rb C) (k_vc C) (k_rc C) (k_pc C) (k_nw C) (k_n C) (k_fn C) (k_sn C) (k_kc C) (k_grp C) (k_key C) (k_srt C) (k_wt C) (h9) (k_drp C) (k_met C) (k_kin C) (k_alv C) (k_srs C) (k_row C) (k_sp C) (k_kis C) (k_pg C) (k_vq C) (k_rq C) (k_L C) (k_F C)) (ok_home hM hh) (i) (by omega)) (cwV 1 hts gX5_moveFromBelow_X3_stands rfl rfl rfl (by decide +kernel) ⟨Nat.le_of_ble_eq_true rfl, Nat.le_of_ble_eq_true rfl⟩) hPm hK 1 rfl rfl rfl hl.1 rfl (Nat.le_of_ble_eq_true rfl) dX5_moveFromBelow_23 ⟨Nat.zero_le _, Nat.zero_le _⟩ (fun rr hq2 => ?_)
        have hq2 : rr = bI (stF h9 (k_drp C) i) := hq2
        subst hq2
        refine wb_if_eq (tgt := 64) hx hb dX5_moveFromBelow_26 (by decide) (fun c26_3 => ?_) (fun c26_3 => ?_)
        · refine lv_iinc (v := nI (i + 1)) (lv' := [(4, .int (nI (i + 1))), (0, .ref (a 0)), (1, .int (x)), (2, .int (nI (to))), (3, .int (nI (k)))]) hx hb dX5_moveFromBelow_64 hl (k := 4) rfl (nI_inc _) (by decide) rfl (fun ls hl => ?_)
          refine lv_goto (tgt := 5) hx hb dX5_moveFromBelow_67 (by decide) ?_
          exact ih5 (i + 1) (k) (h9) _ _ (by omega) (by omega) (mvL_f hm (Or.inl c26_3)) (hh) hP hD hS ls (lv_sub hl [1, 2, 3, 4, 0] rfl)
        · have hne := stF_t c26_3
          refine lv_aload_n hx hb dX5_moveFromBelow_29 rfl (lv_at hl 0 rfl) ?_
          refine va_get (ci := 5) (v := .ref (a 8)) (C := RX5) (T := TX5) (N := 10) hx hb hts hiX5 hown hK hP 0 rfl rfl 1 (by decide) hf2 (fun _ h9 => h9) rfl dX5_moveFromBelow_30 ?_
          refine lv_aload_n hx hb dX5_moveFromBelow_33 rfl (lv_at hl 0 rfl) ?_
          refine va_get (ci := 5) (v := .ref (a 1)) (C := RX5) (T := TX5) (N := 10) hx hb hts hiX5 hown hK hP 0 rfl rfl 0 (by decide) hf0 (fun _ h9 => h9) rfl dX5_moveFromBelow_34 ?_
          refine va_get (ci := 3) (v := .ref (a 6)) (C := RX3) (T := TX3) (N := 8) hx hb hts hiX3 hown hK hP 1 rfl rfl 4 (by decide) hf3 (fun _ h9 => h9) rfl dX5_moveFromBelow_37 ?_
          refine lv_iload hx hb dX5_moveFromBelow_40 (lv_at hl 4 rfl) ?_
          refine wa_i (i := i) (v := zI ((h9) i)) hx hb hK hP 6 0 rfl rfl rfl (by omega) (by decide) dX5_moveFromBelow_42 ?_
          refine ww_top (y := nI ((h9 i).toNat)) (zI_toNat (by omega)) ?_
          refine lv_iload_n hx hb dX5_moveFromBelow_43 rfl (lv_at hl 1 rfl) ?_
          have hPm : va_P D vwCl (kW cI cJ cZ cV cR a (mkC (k_ra C) (k_rb C) (k_vc C) (k_rc C) (k_pc C) (k_nw C) (k_n C) (k_fn C) (k_sn C) (k_kc C) (k_grp C) (k_key C) (k_srt C) (k_wt C) (h9) (k_drp C) (k_met C) (k_kin C) (k_alv C) (k_srs C) (k_row C) (k_sp C) (k_kis C) (k_pg C) (k_vq C) (k_rq C) (k_L C) (k_F C))) H := by rw [← kX_mk]; exact hP
          refine wc_Vi (As := [.int (nI ((h9 i).toNat)), .int (x)]) (rest := []) ⟨hx, hb, hml, hown, hts⟩ (c_X2_isBelow l D cI cJ cZ cV cR a (mkC (k_ra C) (k_rb C) (k_vc C) (k_rc C) (k_pc C) (k_nw C) (k_n C) (k_fn C) (k_sn C) (k_kc C) (k_grp C) (k_key C) (k_srt C) (k_wt C) (h9) (k_drp C) (k_met C) (k_kin C) (k_alv C) (k_srs C) (k_row C) (k_sp C) (k_kis C) (k_pg C) (k_vq C) (k_rq C) (k_L C) (k_F C)) (ok_home hM hh) ((h9 i).toNat) (x) (by omega)) (cwV 2 hts gX5_moveFromBelow_X2_isBelow rfl rfl rfl (by decide +kernel) ⟨Nat.le_of_ble_eq_true rfl, Nat.le_of_ble_eq_true rfl⟩) hPm hK 8 rfl rfl rfl hl.1 rfl (Nat.le_of_ble_eq_true rfl) dX5_moveFromBelow_44 ⟨Nat.zero_le _, Nat.zero_le _⟩ (fun rr hq4 => ?_)
          have hq4 : rr = bI (beF (k_alv C) (x) ((h9 i).toNat)) := hq4
          subst hq4
          refine wb_if_eq (tgt := 64) hx hb dX5_moveFromBelow_47 (by decide) (fun c47_5 => ?_) (fun c47_5 => ?_)
          · refine lv_iinc (v := nI (i + 1)) (lv' := [(4, .int (nI (i + 1))), (0, .ref (a 0)), (1, .int (x)), (2, .int (nI (to))), (3, .int (nI (k)))]) hx hb dX5_moveFromBelow_64 hl (k := 4) rfl (nI_inc _) (by decide) rfl (fun ls hl => ?_)
            refine lv_goto (tgt := 5) hx hb dX5_moveFromBelow_67 (by decide) ?_
            exact ih5 (i + 1) (k) (h9) _ _ (by omega) (by omega) (mvL_f hm (Or.inr c47_5)) (hh) hP hD hS ls (lv_sub hl [1, 2, 3, 4, 0] rfl)
          · refine lv_aload_n hx hb dX5_moveFromBelow_50 rfl (lv_at hl 0 rfl) ?_
            refine va_get (ci := 5) (v := .ref (a 1)) (C := RX5) (T := TX5) (N := 10) hx hb hts hiX5 hown hK hP 0 rfl rfl 0 (by decide) hf0 (fun _ h9 => h9) rfl dX5_moveFromBelow_51 ?_
            refine va_get (ci := 3) (v := .ref (a 6)) (C := RX3) (T := TX3) (N := 8) hx hb hts hiX3 hown hK hP 1 rfl rfl 4 (by decide) hf3 (fun _ h9 => h9) rfl dX5_moveFromBelow_54 ?_
            refine lv_iload hx hb dX5_moveFromBelow_57 (lv_at hl 4 rfl) ?_
            refine lv_iload_n hx hb dX5_moveFromBelow_59 rfl (lv_at hl 2 rfl) ?_
            refine ww_top (y := zI (((to : Nat) : Int))) (zI_n _).symm ?_
            refine wa_ist (i := i) hx hb hK hP hD hS 6 0 rfl rfl (upd_zI (h9) (i) (((to : Nat) : Int))) (by omega) (by decide) dX5_moveFromBelow_60 (fun H locs hP hD hS => ?_)
            have hP : va_P D vwCl (kX cI cJ cZ cV cR a (k_ra C) (k_rb C) (k_vc C) (k_rc C) (k_pc C) (k_nw C) (k_n C) (k_fn C) (k_sn C) (k_kc C) (k_grp C) (k_key C) (k_srt C) (k_wt C) (va_up (h9) (i) (((to : Nat) : Int))) (k_drp C) (k_met C) (k_kin C) (k_alv C) (k_srs C) (k_row C) (k_sp C) (k_kis C) (k_pg C) (k_vq C) (k_rq C) (k_L C) (k_F C)) H := hP
            have hD : va_D A (kX cI cJ cZ cV cR a (k_ra C) (k_rb C) (k_vc C) (k_rc C) (k_pc C) (k_nw C) (k_n C) (k_fn C) (k_sn C) (k_kc C) (k_grp C) (k_key C) (k_srt C) (k_wt C) (va_up (h9) (i) (((to : Nat) : Int))) (k_drp C) (k_met C) (k_kin C) (k_alv C) (k_srs C) (k_row C) (k_sp C) (k_kis C) (k_pg C) (k_vq C) (k_rq C) (k_L C) (k_F C)) := hD
            refine lv_iinc (v := nI (k + 1)) (lv' := [(3, .int (nI (k + 1))), (0, .ref (a 0)), (1, .int (x)), (2, .int (nI (to))), (4, .int (nI (i)))]) hx hb dX5_moveFromBelow_61 hl (k := 3) rfl (nI_inc _) (by decide) rfl (fun ls hl => ?_)
            refine lv_iinc (v := nI (i + 1)) (lv' := [(4, .int (nI (i + 1))), (3, .int (nI (k + 1))), (0, .ref (a 0)), (1, .int (x)), (2, .int (nI (to)))]) hx hb dX5_moveFromBelow_64 hl (k := 4) rfl (nI_inc _) (by decide) rfl (fun ls hl => ?_)
            refine lv_goto (tgt := 5) hx hb dX5_moveFromBelow_67 (by decide) ?_
            exact ih5 (i + 1) (k + 1) (va_up (h9) (i) (((to : Nat) : Int))) _ _ (by omega) (by omega) (mvL_t hm c26_3 c47_5) (up_in hh (by omega)) hP hD hS ls (lv_sub hl [2, 3, 4, 1, 0] rfl)
  exact hlp5 _ (0) (0) (k_home C) _ _ (Nat.lt_succ_self _) (Nat.zero_le _) (rfl) (h_home) hP hD hS ls (lv_sub hl [2, 3, 4, 1, 0] rfl)
def rm_X5_merge : Room := { frames := 2, cells := 0, slots := 0, locals := 46 }
set_option maxHeartbeats 4000000 in
set_option maxRecDepth 100000 in
/-- segments are merged -/
theorem c_X5_merge (l : Launch) (D : va_G) (cI cJ cZ cV cR : ClassId) (a : Nat → Nat) (C : CT) (hM : kOk C) (x : Int32) (sz : Nat) : Met l yX5_merge wsX5_merge rm_X5_merge (va_Pc [.ref (a 0), .int (x)] (GW D (tyK cI cJ cZ cV cR) (kW cI cJ cZ cV cR a C) sz)) (va_Qi (fun rr u => rr = mergeRC C x ∧ u = mergeS C x) (fun u => GB D (tyK cI cJ cZ cV cR) (va_A (kW cI cJ cZ cV cR a C) sz) (kW cI cJ cZ cV cR a u)) (va_A (kW cI cJ cZ cV cR a C) sz)) 0 0 (va_A (kW cI cJ cZ cV cR a C) sz) := by
  obtain ⟨hn, hfn, hsn, hvc, hrc, hpc, hnw, hkc, h_home, h_kin, h_alv, h_srs, h_row, h_sp, h_kis, h_pg⟩ := id hM
  have hixx := ix_c x
  refine Met.ofW (cc := cX5_merge) (maxL := 3) (ret := (some .int)) (by decide) rfl ?_
  intro p e s m args below meth c s₁ B hml hv
  obtain ⟨rfl, hsz, hP, hK, hD0⟩ := hv
  have hx := B.exec
  have hb := B.bytes
  have hr := B.returns
  have hts := atoms_spec (ws := wsX5_merge) B.pre
  have hown : s.vm.findClass RX5 = some m.cls := findClass_of_methodNamed B.named
  have hlocks := B.notSynchronized
  subst hsz
  have hD := hD0.self (sz := s.heap.size)
  generalize hAe : va_A (kW cI cJ cZ cV cR a C) s.heap.size = A at hD ⊢
  have hA : ∀ q : Nat, s.heap.size ≤ q → A q := fun q h => by rw [← hAe]; exact Or.inr h
  have hS : va_S A s.heap s.heap [] := va_S.rf
  have hP : va_P D vwCl (kX cI cJ cZ cV cR a (k_ra C) (k_rb C) (k_vc C) (k_rc C) (k_pc C) (k_nw C) (k_n C) (k_fn C) (k_sn C) (k_kc C) (k_grp C) (k_key C) (k_srt C) (k_wt C) (k_home C) (k_drp C) (k_met C) (k_kin C) (k_alv C) (k_srs C) (k_row C) (k_sp C) (k_kis C) (k_pg C) (k_vq C) (k_rq C) (k_L C) (k_F C)) s.heap := hP
  have hD : va_D A (kX cI cJ cZ cV cR a (k_ra C) (k_rb C) (k_vc C) (k_rc C) (k_pc C) (k_nw C) (k_n C) (k_fn C) (k_sn C) (k_kc C) (k_grp C) (k_key C) (k_srt C) (k_wt C) (k_home C) (k_drp C) (k_met C) (k_kin C) (k_alv C) (k_srs C) (k_row C) (k_sp C) (k_kis C) (k_pg C) (k_vq C) (k_rq C) (k_L C) (k_F C)) := hD
  have hiX5 : ∀ w ∈ wsX50, w ∈ wsX5_merge := by decide +kernel
  have hiX2 : ∀ w ∈ wsX20, w ∈ wsX5_merge := by decide +kernel
  have hf0 := hts (.fieldLink RX5 19 "GroupCursors" "segments" "LGroupCursors$Segments;") (by decide +kernel)
  have hf1 := hts (.fieldLink RX5 89 "GroupCursors$Segments" "count" "I") (by decide +kernel)
  have hl := lv_entry ([.ref (a 0), .int (x)]) (n := 3) (Nat.le_of_ble_eq_true rfl)
  rw [lg_entry_eq]
  generalize (lg_sl ([.ref (a 0), .int (x)]) ++ List.replicate (3 - (lg_sl ([.ref (a 0), .int (x)])).length) Slot.unset).toArray = ls at hl ⊢
  have hl : lv_has ls 3 [(0, .ref (a 0)), (1, .int (x))] := hl
  refine lv_aload_n hx hb dX5_merge_0 rfl (lv_at hl 0 rfl) ?_
  refine va_get (ci := 5) (v := .ref (a 8)) (C := RX5) (T := TX5) (N := 10) hx hb hts hiX5 hown hK hP 0 rfl rfl 1 (by decide) hf0 (fun _ h9 => h9) rfl dX5_merge_1 ?_
  refine lv_iload_n hx hb dX5_merge_4 rfl (lv_at hl 1 rfl) ?_
  have hPm : va_P D vwCl (kW cI cJ cZ cV cR a C) s.heap := by exact hP
  refine wc_Vi (As := [.int (x)]) (rest := []) ⟨hx, hb, hml, hown, hts⟩ (c_X2_countBelow l D cI cJ cZ cV cR a C hM (x)) (cwV 1 hts gX5_merge_X2_countBelow rfl rfl rfl (by decide +kernel) ⟨Nat.le_of_ble_eq_true rfl, Nat.le_of_ble_eq_true rfl⟩) hPm hK 8 rfl rfl rfl hl.1 rfl (Nat.le_of_ble_eq_true rfl) dX5_merge_5 ⟨Nat.zero_le _, Nat.zero_le _⟩ (fun rr hq1 => ?_)
  have hq1 : rr = nI (cnt (beF (k_alv C) (x)) (k_sn C)) := hq1
  subst hq1
  have hle2 : cnt (beF (k_alv C) (x)) (k_sn C) ≤ (k_sn C) := cnt_le _ _
  refine lv_iconst (v := nI (2)) hx hb dX5_merge_8 (by decide) ?_
  refine wn_icmp_ge (a := cnt (beF (k_alv C) (x)) (k_sn C)) (b := 2) (tgt := 14) hx hb (nI_z (by omega)) (nI_z (by omega)) dX5_merge_9 (by decide) (fun c9_3 => ?_) (fun c9_3 => ?_)
  · refine lv_aload_n hx hb dX5_merge_14 rfl (lv_at hl 0 rfl) ?_
    refine va_get (ci := 5) (v := .ref (a 8)) (C := RX5) (T := TX5) (N := 10) hx hb hts hiX5 hown hK hP 0 rfl rfl 1 (by decide) hf0 (fun _ h9 => h9) rfl dX5_merge_15 ?_
    refine va_get (ci := 2) (v := .int (nI (k_sn C))) (C := RX2) (T := TX2) (N := 3) hx hb hts hiX2 hown hK hP 8 rfl rfl 2 (by decide) hf1 (fun _ h9 => h9) rfl dX5_merge_18 ?_
    refine lv_bipush (v := nI (40)) hx hb dX5_merge_21 (by decide) ?_
    refine wn_icmp_lt (a := k_sn C) (b := 40) (tgt := 29) hx hb (nI_z (by omega)) (nI_z (by omega)) dX5_merge_23 (by decide) (fun c23_4 => ?_) (fun c23_4 => ?_)
    · refine lv_aload_n hx hb dX5_merge_29 rfl (lv_at hl 0 rfl) ?_
      refine lv_iload_n hx hb dX5_merge_30 rfl (lv_at hl 1 rfl) ?_
      refine lv_aload_n hx hb dX5_merge_31 rfl (lv_at hl 0 rfl) ?_
      refine va_get (ci := 5) (v := .ref (a 8)) (C := RX5) (T := TX5) (N := 10) hx hb hts hiX5 hown hK hP 0 rfl rfl 1 (by decide) hf0 (fun _ h9 => h9) rfl dX5_merge_32 ?_
      refine va_get (ci := 2) (v := .int (nI (k_sn C))) (C := RX2) (T := TX2) (N := 3) hx hb hts hiX2 hown hK hP 8 rfl rfl 2 (by decide) hf1 (fun _ h9 => h9) rfl dX5_merge_35 ?_
      have hmiQ := mvL_in (drp := k_drp C) (alv := k_alv C) (x := x) h_home (show k_sn C < 40 by omega) (k_n C)
      have hPm : va_P D vwCl (kW cI cJ cZ cV cR a C) s.heap := by exact hP
      have hDm : va_D A (kW cI cJ cZ cV cR a C) := by exact hD
      refine wc_VWi (As := [.int (x), .int (nI (k_sn C))]) (rest := []) (wf := kW cI cJ cZ cV cR a) ⟨hx, hb, hml, hown, hts⟩ (c_X5_moveFromBelow l D cI cJ cZ cV cR a C hM (x) (k_sn C) (by omega) s.heap.size) (cwV 2 hts gX5_merge_X5_moveFromBelow rfl rfl rfl (by decide +kernel) ⟨Nat.le_of_ble_eq_true rfl, Nat.le_of_ble_eq_true rfl⟩) hPm hK hDm hS hA 0 rfl rfl rfl hl.1 rfl (Nat.le_of_ble_eq_true rfl) dX5_merge_38 ⟨Nat.zero_le _, Nat.zero_le _⟩ (fun rr u5 hq5 H locs hP hD hS => ?_)
      obtain ⟨hr5, hu5⟩ := hq5
      subst hr5
      have hu5 := hu5.symm
      subst hu5
      have hmv5 : (mvL (k_home C) (k_drp C) (k_alv C) (x) (k_sn C) (k_n C)).1 ≤ k_n C := mvL_le _ _ _ _ _ _
      have hmi5 := mvL_in (drp := k_drp C) (alv := k_alv C) (x := x) h_home (show k_sn C < 40 by omega) (k_n C)
      have hP : va_P D vwCl (kX cI cJ cZ cV cR a (k_ra C) (k_rb C) (k_vc C) (k_rc C) (k_pc C) (k_nw C) (k_n C) (k_fn C) (k_sn C) (k_kc C) (k_grp C) (k_key C) (k_srt C) (k_wt C) ((mvL (k_home C) (k_drp C) (k_alv C) (x) (k_sn C) (k_n C)).2) (k_drp C) (k_met C) (k_kin C) (k_alv C) (k_srs C) (k_row C) (k_sp C) (k_kis C) (k_pg C) (k_vq C) (k_rq C) (k_L C) (k_F C)) H := hP
      have hD : va_D A (kX cI cJ cZ cV cR a (k_ra C) (k_rb C) (k_vc C) (k_rc C) (k_pc C) (k_nw C) (k_n C) (k_fn C) (k_sn C) (k_kc C) (k_grp C) (k_key C) (k_srt C) (k_wt C) ((mvL (k_home C) (k_drp C) (k_alv C) (x) (k_sn C) (k_n C)).2) (k_drp C) (k_met C) (k_kin C) (k_alv C) (k_srs C) (k_row C) (k_sp C) (k_kis C) (k_pg C) (k_vq C) (k_rq C) (k_L C) (k_F C)) := hD
      refine lv_istore_n (lv' := [(2, .int (nI ((mvL (k_home C) (k_drp C) (k_alv C) (x) (k_sn C) (k_n C)).1))), (0, .ref (a 0)), (1, .int (x))]) hx hb dX5_merge_41 rfl hl (by decide) rfl (fun ls hl => ?_)
      refine lv_aload_n hx hb dX5_merge_42 rfl (lv_at hl 1 rfl) ?_
      refine va_get (ci := 5) (v := .ref (a 8)) (C := RX5) (T := TX5) (N := 10) hx hb hts hiX5 hown hK hP 0 rfl rfl 1 (by decide) hf0 (fun _ h9 => h9) rfl dX5_merge_43 ?_
      refine lv_iload_n hx hb dX5_merge_46 rfl (lv_at hl 2 rfl) ?_
      have hPm : va_P D vwCl (kW cI cJ cZ cV cR a (mkC (k_ra C) (k_rb C) (k_vc C) (k_rc C) (k_pc C) (k_nw C) (k_n C) (k_fn C) (k_sn C) (k_kc C) (k_grp C) (k_key C) (k_srt C) (k_wt C) ((mvL (k_home C) (k_drp C) (k_alv C) (x) (k_sn C) (k_n C)).2) (k_drp C) (k_met C) (k_kin C) (k_alv C) (k_srs C) (k_row C) (k_sp C) (k_kis C) (k_pg C) (k_vq C) (k_rq C) (k_L C) (k_F C))) H := by rw [← kX_mk]; exact hP
      have hDm : va_D A (kW cI cJ cZ cV cR a (mkC (k_ra C) (k_rb C) (k_vc C) (k_rc C) (k_pc C) (k_nw C) (k_n C) (k_fn C) (k_sn C) (k_kc C) (k_grp C) (k_key C) (k_srt C) (k_wt C) ((mvL (k_home C) (k_drp C) (k_alv C) (x) (k_sn C) (k_n C)).2) (k_drp C) (k_met C) (k_kin C) (k_alv C) (k_srs C) (k_row C) (k_sp C) (k_kis C) (k_pg C) (k_vq C) (k_rq C) (k_L C) (k_F C))) := by rw [← kX_mk]; exact hD
      refine wc_VWv (As := [.int (x)]) (rest := []) (wf := kW cI cJ cZ cV cR a) ⟨hx, hb, hml, hown, hts⟩ (c_X2_emptyBelow l D cI cJ cZ cV cR a (mkC (k_ra C) (k_rb C) (k_vc C) (k_rc C) (k_pc C) (k_nw C) (k_n C) (k_fn C) (k_sn C) (k_kc C) (k_grp C) (k_key C) (k_srt C) (k_wt C) ((mvL (k_home C) (k_drp C) (k_alv C) (x) (k_sn C) (k_n C)).2) (k_drp C) (k_met C) (k_kin C) (k_alv C) (k_srs C) (k_row C) (k_sp C) (k_kis C) (k_pg C) (k_vq C) (k_rq C) (k_L C) (k_F C)) (ok_home hM hmiQ) (x) H.size) (cwV 1 hts gX5_merge_X2_emptyBelow rfl rfl rfl (by decide +kernel) ⟨Nat.le_of_ble_eq_true rfl, Nat.le_of_ble_eq_true rfl⟩) hPm hK hDm hS hA 8 rfl rfl rfl hl.1 rfl (Nat.le_of_ble_eq_true rfl) dX5_merge_47 ⟨Nat.zero_le _, Nat.zero_le _⟩ (fun u6 hq6 H locs hP hD hS => ?_)
      have hu6 := hq6
      have hu6 := hu6.symm
      subst hu6
      have hP : va_P D vwCl (kX cI cJ cZ cV cR a (k_ra C) (k_rb C) (k_vc C) (k_rc C) (k_pc C) (k_nw C) (k_n C) (k_fn C) (k_sn C) (k_kc C) (k_grp C) (k_key C) (k_srt C) (k_wt C) ((mvL (k_home C) (k_drp C) (k_alv C) (x) (k_sn C) (k_n C)).2) (k_drp C) (k_met C) (k_kin C) (ebA (k_alv C) (x) (k_sn C)) (k_srs C) (k_row C) (k_sp C) (k_kis C) (k_pg C) (k_vq C) (k_rq C) (k_L C) (k_F C)) H := hP
      have hD : va_D A (kX cI cJ cZ cV cR a (k_ra C) (k_rb C) (k_vc C) (k_rc C) (k_pc C) (k_nw C) (k_n C) (k_fn C) (k_sn C) (k_kc C) (k_grp C) (k_key C) (k_srt C) (k_wt C) ((mvL (k_home C) (k_drp C) (k_alv C) (x) (k_sn C) (k_n C)).2) (k_drp C) (k_met C) (k_kin C) (ebA (k_alv C) (x) (k_sn C)) (k_srs C) (k_row C) (k_sp C) (k_kis C) (k_pg C) (k_vq C) (k_rq C) (k_L C) (k_F C)) := hD
      have hebQ : ∀ j, ebA (k_alv C) x (k_sn C) j < 2000000000 := ebA_lt (by omega) h_alv _
      refine lv_aload_n hx hb dX5_merge_50 rfl (lv_at hl 1 rfl) ?_
      refine va_get (ci := 5) (v := .ref (a 8)) (C := RX5) (T := TX5) (N := 10) hx hb hts hiX5 hown hK hP 0 rfl rfl 1 (by decide) hf0 (fun _ h9 => h9) rfl dX5_merge_51 ?_
      refine lv_iload_n hx hb dX5_merge_54 rfl (lv_at hl 0 rfl) ?_
      have hPm : va_P D vwCl (kW cI cJ cZ cV cR a (mkC (k_ra C) (k_rb C) (k_vc C) (k_rc C) (k_pc C) (k_nw C) (k_n C) (k_fn C) (k_sn C) (k_kc C) (k_grp C) (k_key C) (k_srt C) (k_wt C) ((mvL (k_home C) (k_drp C) (k_alv C) (x) (k_sn C) (k_n C)).2) (k_drp C) (k_met C) (k_kin C) (ebA (k_alv C) (x) (k_sn C)) (k_srs C) (k_row C) (k_sp C) (k_kis C) (k_pg C) (k_vq C) (k_rq C) (k_L C) (k_F C))) H := by rw [← kX_mk]; exact hP
      have hDm : va_D A (kW cI cJ cZ cV cR a (mkC (k_ra C) (k_rb C) (k_vc C) (k_rc C) (k_pc C) (k_nw C) (k_n C) (k_fn C) (k_sn C) (k_kc C) (k_grp C) (k_key C) (k_srt C) (k_wt C) ((mvL (k_home C) (k_drp C) (k_alv C) (x) (k_sn C) (k_n C)).2) (k_drp C) (k_met C) (k_kin C) (ebA (k_alv C) (x) (k_sn C)) (k_srs C) (k_row C) (k_sp C) (k_kis C) (k_pg C) (k_vq C) (k_rq C) (k_L C) (k_F C))) := by rw [← kX_mk]; exact hD
      refine wc_VWi (As := [.int (nI ((mvL (k_home C) (k_drp C) (k_alv C) (x) (k_sn C) (k_n C)).1))]) (rest := []) (wf := kW cI cJ cZ cV cR a) ⟨hx, hb, hml, hown, hts⟩ (c_X2_append l D cI cJ cZ cV cR a (mkC (k_ra C) (k_rb C) (k_vc C) (k_rc C) (k_pc C) (k_nw C) (k_n C) (k_fn C) (k_sn C) (k_kc C) (k_grp C) (k_key C) (k_srt C) (k_wt C) ((mvL (k_home C) (k_drp C) (k_alv C) (x) (k_sn C) (k_n C)).2) (k_drp C) (k_met C) (k_kin C) (ebA (k_alv C) (x) (k_sn C)) (k_srs C) (k_row C) (k_sp C) (k_kis C) (k_pg C) (k_vq C) (k_rq C) (k_L C) (k_F C)) (ok_ha hM hmiQ hebQ) ((mvL (k_home C) (k_drp C) (k_alv C) (x) (k_sn C) (k_n C)).1) (show k_sn C < 40 by omega) H.size) (cwV 1 hts gX5_merge_X2_append rfl rfl rfl (by decide +kernel) ⟨Nat.le_of_ble_eq_true rfl, Nat.le_of_ble_eq_true rfl⟩) hPm hK hDm hS hA 8 rfl rfl rfl hl.1 rfl (Nat.le_of_ble_eq_true rfl) dX5_merge_55 ⟨Nat.zero_le _, Nat.zero_le _⟩ (fun rr u7 hq7 H locs hP hD hS => ?_)
      obtain ⟨hr7, hu7⟩ := hq7
      subst hr7
      have hu7 := hu7.symm
      subst hu7
      have hP : va_P D vwCl (kX cI cJ cZ cV cR a (k_ra C) (k_rb C) (k_vc C) (k_rc C) (k_pc C) (k_nw C) (k_n C) (k_fn C) (k_sn C + 1) (k_kc C) (k_grp C) (k_key C) (k_srt C) (k_wt C) ((mvL (k_home C) (k_drp C) (k_alv C) (x) (k_sn C) (k_n C)).2) (k_drp C) (k_met C) (k_kin C) (va_up (ebA (k_alv C) (x) (k_sn C)) (k_sn C) ((mvL (k_home C) (k_drp C) (k_alv C) (x) (k_sn C) (k_n C)).1)) (k_srs C) (k_row C) (k_sp C) (k_kis C) (k_pg C) (k_vq C) (k_rq C) (k_L C) (k_F C)) H := hP
      have hD : va_D A (kX cI cJ cZ cV cR a (k_ra C) (k_rb C) (k_vc C) (k_rc C) (k_pc C) (k_nw C) (k_n C) (k_fn C) (k_sn C + 1) (k_kc C) (k_grp C) (k_key C) (k_srt C) (k_wt C) ((mvL (k_home C) (k_drp C) (k_alv C) (x) (k_sn C) (k_n C)).2) (k_drp C) (k_met C) (k_kin C) (va_up (ebA (k_alv C) (x) (k_sn C)) (k_sn C) ((mvL (k_home C) (k_drp C) (k_alv C) (x) (k_sn C) (k_n C)).1)) (k_srs C) (k_row C) (k_sp C) (k_kis C) (k_pg C) (k_vq C) (k_rq C) (k_L C) (k_F C)) := hD
      refine lv_pop hx hb dX5_merge_58 rfl ?_
      refine lv_iload_n hx hb dX5_merge_59 rfl (lv_at hl 0 rfl) ?_
      have hPm : va_P D vwCl (kW cI cJ cZ cV cR a (mkC (k_ra C) (k_rb C) (k_vc C) (k_rc C) (k_pc C) (k_nw C) (k_n C) (k_fn C) (k_sn C + 1) (k_kc C) (k_grp C) (k_key C) (k_srt C) (k_wt C) ((mvL (k_home C) (k_drp C) (k_alv C) (x) (k_sn C) (k_n C)).2) (k_drp C) (k_met C) (k_kin C) (va_up (ebA (k_alv C) (x) (k_sn C)) (k_sn C) ((mvL (k_home C) (k_drp C) (k_alv C) (x) (k_sn C) (k_n C)).1)) (k_srs C) (k_row C) (k_sp C) (k_kis C) (k_pg C) (k_vq C) (k_rq C) (k_L C) (k_F C))) H := by rw [← kX_mk]; exact hP
      have hDm : va_D A (kW cI cJ cZ cV cR a (mkC (k_ra C) (k_rb C) (k_vc C) (k_rc C) (k_pc C) (k_nw C) (k_n C) (k_fn C) (k_sn C + 1) (k_kc C) (k_grp C) (k_key C) (k_srt C) (k_wt C) ((mvL (k_home C) (k_drp C) (k_alv C) (x) (k_sn C) (k_n C)).2) (k_drp C) (k_met C) (k_kin C) (va_up (ebA (k_alv C) (x) (k_sn C)) (k_sn C) ((mvL (k_home C) (k_drp C) (k_alv C) (x) (k_sn C) (k_n C)).1)) (k_srs C) (k_row C) (k_sp C) (k_kis C) (k_pg C) (k_vq C) (k_rq C) (k_L C) (k_F C))) := by rw [← kX_mk]; exact hD
      exact W.iret (v := nI ((mvL (k_home C) (k_drp C) (k_alv C) (x) (k_sn C) (k_n C)).1)) hx hb hr (fun t ht hW => ⟨⟨_, (mkC (k_ra C) (k_rb C) (k_vc C) (k_rc C) (k_pc C) (k_nw C) (k_n C) (k_fn C) (k_sn C + 1) (k_kc C) (k_grp C) (k_key C) (k_srt C) (k_wt C) ((mvL (k_home C) (k_drp C) (k_alv C) (x) (k_sn C) (k_n C)).2) (k_drp C) (k_met C) (k_kin C) (va_up (ebA (k_alv C) (x) (k_sn C)) (k_sn C) ((mvL (k_home C) (k_drp C) (k_alv C) (x) (k_sn C) (k_n C)).1)) (k_srs C) (k_row C) (k_sp C) (k_kis C) (k_pg C) (k_vq C) (k_rq C) (k_L C) (k_F C)), rfl, ⟨(by simp only [mergeRC]; (repeat' split) <;> first | rfl | (exfalso; omega)), (by simp only [mergeS]; (repeat' split) <;> first | rfl | (exfalso; omega))⟩, gb_mk ht hW hPm hK hDm⟩, hS.F ht⟩) hS.2.2 dX5_merge_60
    · refine lv_bipush (v := zI ((-4))) hx hb dX5_merge_26 (by decide) ?_
      have hPm : va_P D vwCl (kW cI cJ cZ cV cR a C) s.heap := by exact hP
      have hDm : va_D A (kW cI cJ cZ cV cR a C) := by exact hD
      exact W.iret (v := zI ((-4))) hx hb hr (fun t ht hW => ⟨⟨_, C, rfl, ⟨(by simp only [mergeRC]; (repeat' split) <;> first | rfl | (exfalso; omega)), (by simp only [mergeS]; (repeat' split) <;> first | rfl | (exfalso; omega))⟩, gb_mk ht hW hPm hK hDm⟩, hS.F ht⟩) hS.2.2 dX5_merge_28
  · refine lv_iconst (v := nI (0)) hx hb dX5_merge_12 (by decide) ?_
    have hPm : va_P D vwCl (kW cI cJ cZ cV cR a C) s.heap := by exact hP
    have hDm : va_D A (kW cI cJ cZ cV cR a C) := by exact hD
    exact W.iret (v := nI (0)) hx hb hr (fun t ht hW => ⟨⟨_, C, rfl, ⟨(by simp only [mergeRC]; (repeat' split) <;> first | rfl | (exfalso; omega)), (by simp only [mergeS]; (repeat' split) <;> first | rfl | (exfalso; omega))⟩, gb_mk ht hW hPm hK hDm⟩, hS.F ht⟩) hS.2.2 dX5_merge_13
def rm_X5_commit : Room := { frames := 1, cells := 0, slots := 0, locals := 22 }
set_option maxHeartbeats 4000000 in
set_option maxRecDepth 100000 in
/-- the new ones come into a segment -/
theorem c_X5_commit (l : Launch) (D : va_G) (cI cJ cZ cV cR : ClassId) (a : Nat → Nat) (C : CT) (hM : kOk C)  (sz : Nat) : Met l yX5_commit wsX5_commit rm_X5_commit (va_Pc [.ref (a 0)] (GW D (tyK cI cJ cZ cV cR) (kW cI cJ cZ cV cR a C) sz)) (va_Qi (fun rr u => rr = commitRC C ∧ u = commitS C) (fun u => GB D (tyK cI cJ cZ cV cR) (va_A (kW cI cJ cZ cV cR a C) sz) (kW cI cJ cZ cV cR a u)) (va_A (kW cI cJ cZ cV cR a C) sz)) 0 0 (va_A (kW cI cJ cZ cV cR a C) sz) := by
  obtain ⟨hn, hfn, hsn, hvc, hrc, hpc, hnw, hkc, h_home, h_kin, h_alv, h_srs, h_row, h_sp, h_kis, h_pg⟩ := id hM
  refine Met.ofW (cc := cX5_commit) (maxL := 2) (ret := (some .int)) (by decide) rfl ?_
  intro p e s m args below meth c s₁ B hml hv
  obtain ⟨rfl, hsz, hP, hK, hD0⟩ := hv
  have hx := B.exec
  have hb := B.bytes
  have hr := B.returns
  have hts := atoms_spec (ws := wsX5_commit) B.pre
  have hown : s.vm.findClass RX5 = some m.cls := findClass_of_methodNamed B.named
  have hlocks := B.notSynchronized
  subst hsz
  have hD := hD0.self (sz := s.heap.size)
  generalize hAe : va_A (kW cI cJ cZ cV cR a C) s.heap.size = A at hD ⊢
  have hA : ∀ q : Nat, s.heap.size ≤ q → A q := fun q h => by rw [← hAe]; exact Or.inr h
  have hS : va_S A s.heap s.heap [] := va_S.rf
  have hP : va_P D vwCl (kX cI cJ cZ cV cR a (k_ra C) (k_rb C) (k_vc C) (k_rc C) (k_pc C) (k_nw C) (k_n C) (k_fn C) (k_sn C) (k_kc C) (k_grp C) (k_key C) (k_srt C) (k_wt C) (k_home C) (k_drp C) (k_met C) (k_kin C) (k_alv C) (k_srs C) (k_row C) (k_sp C) (k_kis C) (k_pg C) (k_vq C) (k_rq C) (k_L C) (k_F C)) s.heap := hP
  have hD : va_D A (kX cI cJ cZ cV cR a (k_ra C) (k_rb C) (k_vc C) (k_rc C) (k_pc C) (k_nw C) (k_n C) (k_fn C) (k_sn C) (k_kc C) (k_grp C) (k_key C) (k_srt C) (k_wt C) (k_home C) (k_drp C) (k_met C) (k_kin C) (k_alv C) (k_srs C) (k_row C) (k_sp C) (k_kis C) (k_pg C) (k_vq C) (k_rq C) (k_L C) (k_F C)) := hD
  have hiX5 : ∀ w ∈ wsX50, w ∈ wsX5_commit := by decide +kernel
  have hiX2 : ∀ w ∈ wsX20, w ∈ wsX5_commit := by decide +kernel
  have hiX3 : ∀ w ∈ wsX30, w ∈ wsX5_commit := by decide +kernel
  have hf0 := hts (.fieldLink RX5 10 "GroupCursors" "stock" "LGroupCursors$Stock;") (by decide +kernel)
  have hf1 := hts (.fieldLink RX5 19 "GroupCursors" "segments" "LGroupCursors$Segments;") (by decide +kernel)
  have hf2 := hts (.fieldLink RX5 89 "GroupCursors$Segments" "count" "I") (by decide +kernel)
  have hf3 := hts (.fieldLink RX5 61 "GroupCursors$Stock" "count" "I") (by decide +kernel)
  have hf4 := hts (.fieldLink RX5 86 "GroupCursors$Stock" "firstNew" "I") (by decide +kernel)
  have hl := lv_entry ([.ref (a 0)]) (n := 2) (Nat.le_of_ble_eq_true rfl)
  rw [lg_entry_eq]
  generalize (lg_sl ([.ref (a 0)]) ++ List.replicate (2 - (lg_sl ([.ref (a 0)])).length) Slot.unset).toArray = ls at hl ⊢
  have hl : lv_has ls 2 [(0, .ref (a 0))] := hl
  refine lv_aload_n hx hb dX5_commit_0 rfl (lv_at hl 0 rfl) ?_
  refine va_get (ci := 5) (v := .ref (a 1)) (C := RX5) (T := TX5) (N := 10) hx hb hts hiX5 hown hK hP 0 rfl rfl 0 (by decide) hf0 (fun _ h9 => h9) rfl dX5_commit_1 ?_
  have hPm : va_P D vwCl (kW cI cJ cZ cV cR a C) s.heap := by exact hP
  refine wc_Vi (As := []) (rest := []) ⟨hx, hb, hml, hown, hts⟩ (c_X3_countNew l D cI cJ cZ cV cR a C hM) (cwV 0 hts gX5_commit_X3_countNew rfl rfl rfl (by decide +kernel) ⟨Nat.le_of_ble_eq_true rfl, Nat.le_of_ble_eq_true rfl⟩) hPm hK 1 rfl rfl rfl hl.1 rfl (Nat.le_of_ble_eq_true rfl) dX5_commit_4 ⟨Nat.zero_le _, Nat.zero_le _⟩ (fun rr hq1 => ?_)
  have hq1 : rr = nI (newF (k_fn C) (k_drp C) (k_n C)) := hq1
  subst hq1
  have hle2 : newF (k_fn C) (k_drp C) (k_n C) ≤ (k_n C) := cnt_le _ _
  refine lv_istore_n (lv' := [(1, .int (nI (newF (k_fn C) (k_drp C) (k_n C)))), (0, .ref (a 0))]) hx hb dX5_commit_7 rfl hl (by decide) rfl (fun ls hl => ?_)
  refine lv_iload_n hx hb dX5_commit_8 rfl (lv_at hl 0 rfl) ?_
  refine wn_if_ne (a := newF (k_fn C) (k_drp C) (k_n C)) (tgt := 28) hx hb (nI_z (by omega)) dX5_commit_9 (by decide) (fun c9_3 => ?_) (fun c9_3 => ?_)
  · refine lv_aload_n hx hb dX5_commit_28 rfl (lv_at hl 1 rfl) ?_
    refine va_get (ci := 5) (v := .ref (a 8)) (C := RX5) (T := TX5) (N := 10) hx hb hts hiX5 hown hK hP 0 rfl rfl 1 (by decide) hf1 (fun _ h9 => h9) rfl dX5_commit_29 ?_
    refine va_get (ci := 2) (v := .int (nI (k_sn C))) (C := RX2) (T := TX2) (N := 3) hx hb hts hiX2 hown hK hP 8 rfl rfl 2 (by decide) hf2 (fun _ h9 => h9) rfl dX5_commit_32 ?_
    refine lv_bipush (v := nI (40)) hx hb dX5_commit_35 (by decide) ?_
    refine wn_icmp_lt (a := k_sn C) (b := 40) (tgt := 43) hx hb (nI_z (by omega)) (nI_z (by omega)) dX5_commit_37 (by decide) (fun c37_4 => ?_) (fun c37_4 => ?_)
    · refine lv_aload_n hx hb dX5_commit_43 rfl (lv_at hl 1 rfl) ?_
      refine va_get (ci := 5) (v := .ref (a 1)) (C := RX5) (T := TX5) (N := 10) hx hb hts hiX5 hown hK hP 0 rfl rfl 0 (by decide) hf0 (fun _ h9 => h9) rfl dX5_commit_44 ?_
      refine lv_aload_n hx hb dX5_commit_47 rfl (lv_at hl 1 rfl) ?_
      refine va_get (ci := 5) (v := .ref (a 8)) (C := RX5) (T := TX5) (N := 10) hx hb hts hiX5 hown hK hP 0 rfl rfl 1 (by decide) hf1 (fun _ h9 => h9) rfl dX5_commit_48 ?_
      refine lv_iload_n hx hb dX5_commit_51 rfl (lv_at hl 0 rfl) ?_
      have hPm : va_P D vwCl (kW cI cJ cZ cV cR a C) s.heap := by exact hP
      have hDm : va_D A (kW cI cJ cZ cV cR a C) := by exact hD
      refine wc_VWi (As := [.int (nI (newF (k_fn C) (k_drp C) (k_n C)))]) (rest := [.ref (a 1)]) (wf := kW cI cJ cZ cV cR a) ⟨hx, hb, hml, hown, hts⟩ (c_X2_append l D cI cJ cZ cV cR a C hM (newF (k_fn C) (k_drp C) (k_n C)) (show k_sn C < 40 by omega) s.heap.size) (cwV 1 hts gX5_commit_X2_append rfl rfl rfl (by decide +kernel) ⟨Nat.le_of_ble_eq_true rfl, Nat.le_of_ble_eq_true rfl⟩) hPm hK hDm hS hA 8 rfl rfl rfl hl.1 rfl (Nat.le_of_ble_eq_true rfl) dX5_commit_52 ⟨Nat.zero_le _, Nat.zero_le _⟩ (fun rr u5 hq5 H locs hP hD hS => ?_)
      obtain ⟨hr5, hu5⟩ := hq5
      subst hr5
      have hu5 := hu5.symm
      subst hu5
      have hP : va_P D vwCl (kX cI cJ cZ cV cR a (k_ra C) (k_rb C) (k_vc C) (k_rc C) (k_pc C) (k_nw C) (k_n C) (k_fn C) (k_sn C + 1) (k_kc C) (k_grp C) (k_key C) (k_srt C) (k_wt C) (k_home C) (k_drp C) (k_met C) (k_kin C) (va_up (k_alv C) (k_sn C) (newF (k_fn C) (k_drp C) (k_n C))) (k_srs C) (k_row C) (k_sp C) (k_kis C) (k_pg C) (k_vq C) (k_rq C) (k_L C) (k_F C)) H := hP
      have hD : va_D A (kX cI cJ cZ cV cR a (k_ra C) (k_rb C) (k_vc C) (k_rc C) (k_pc C) (k_nw C) (k_n C) (k_fn C) (k_sn C + 1) (k_kc C) (k_grp C) (k_key C) (k_srt C) (k_wt C) (k_home C) (k_drp C) (k_met C) (k_kin C) (va_up (k_alv C) (k_sn C) (newF (k_fn C) (k_drp C) (k_n C))) (k_srs C) (k_row C) (k_sp C) (k_kis C) (k_pg C) (k_vq C) (k_rq C) (k_L C) (k_F C)) := hD
      have hPm : va_P D vwCl (kW cI cJ cZ cV cR a (mkC (k_ra C) (k_rb C) (k_vc C) (k_rc C) (k_pc C) (k_nw C) (k_n C) (k_fn C) (k_sn C + 1) (k_kc C) (k_grp C) (k_key C) (k_srt C) (k_wt C) (k_home C) (k_drp C) (k_met C) (k_kin C) (va_up (k_alv C) (k_sn C) (newF (k_fn C) (k_drp C) (k_n C))) (k_srs C) (k_row C) (k_sp C) (k_kis C) (k_pg C) (k_vq C) (k_rq C) (k_L C) (k_F C))) H := by rw [← kX_mk]; exact hP
      have hDm : va_D A (kW cI cJ cZ cV cR a (mkC (k_ra C) (k_rb C) (k_vc C) (k_rc C) (k_pc C) (k_nw C) (k_n C) (k_fn C) (k_sn C + 1) (k_kc C) (k_grp C) (k_key C) (k_srt C) (k_wt C) (k_home C) (k_drp C) (k_met C) (k_kin C) (va_up (k_alv C) (k_sn C) (newF (k_fn C) (k_drp C) (k_n C))) (k_srs C) (k_row C) (k_sp C) (k_kis C) (k_pg C) (k_vq C) (k_rq C) (k_L C) (k_F C))) := by rw [← kX_mk]; exact hD
      refine wc_VWv (As := [.int (nI (k_sn C))]) (rest := []) (wf := kW cI cJ cZ cV cR a) ⟨hx, hb, hml, hown, hts⟩ (c_X3_settleNew l D cI cJ cZ cV cR a (mkC (k_ra C) (k_rb C) (k_vc C) (k_rc C) (k_pc C) (k_nw C) (k_n C) (k_fn C) (k_sn C + 1) (k_kc C) (k_grp C) (k_key C) (k_srt C) (k_wt C) (k_home C) (k_drp C) (k_met C) (k_kin C) (va_up (k_alv C) (k_sn C) (newF (k_fn C) (k_drp C) (k_n C))) (k_srs C) (k_row C) (k_sp C) (k_kis C) (k_pg C) (k_vq C) (k_rq C) (k_L C) (k_F C)) (ok_sa hM (show k_sn C + 1 ≤ 40 by omega) (up_lt h_alv (show newF (k_fn C) (k_drp C) (k_n C) < 2000000000 by omega))) (k_sn C) (by omega) H.size) (cwV 1 hts gX5_commit_X3_settleNew rfl rfl rfl (by decide +kernel) ⟨Nat.le_of_ble_eq_true rfl, Nat.le_of_ble_eq_true rfl⟩) hPm hK hDm hS hA 1 rfl rfl rfl hl.1 rfl (Nat.le_of_ble_eq_true rfl) dX5_commit_55 ⟨Nat.zero_le _, Nat.zero_le _⟩ (fun u6 hq6 H locs hP hD hS => ?_)
      have hu6 := hq6
      have hu6 := hu6.symm
      subst hu6
      have hP : va_P D vwCl (kX cI cJ cZ cV cR a (k_ra C) (k_rb C) (k_vc C) (k_rc C) (k_pc C) (k_nw C) (k_n C) (k_n C) (k_sn C + 1) (k_kc C) (k_grp C) (k_key C) (k_srt C) (k_wt C) (snH (k_fn C) (k_drp C) (k_home C) (k_sn C) (k_n C)) (k_drp C) (k_met C) (k_kin C) (va_up (k_alv C) (k_sn C) (newF (k_fn C) (k_drp C) (k_n C))) (k_srs C) (k_row C) (k_sp C) (k_kis C) (k_pg C) (k_vq C) (k_rq C) (k_L C) (k_F C)) H := hP
      have hD : va_D A (kX cI cJ cZ cV cR a (k_ra C) (k_rb C) (k_vc C) (k_rc C) (k_pc C) (k_nw C) (k_n C) (k_n C) (k_sn C + 1) (k_kc C) (k_grp C) (k_key C) (k_srt C) (k_wt C) (snH (k_fn C) (k_drp C) (k_home C) (k_sn C) (k_n C)) (k_drp C) (k_met C) (k_kin C) (va_up (k_alv C) (k_sn C) (newF (k_fn C) (k_drp C) (k_n C))) (k_srs C) (k_row C) (k_sp C) (k_kis C) (k_pg C) (k_vq C) (k_rq C) (k_L C) (k_F C)) := hD
      refine lv_iload_n hx hb dX5_commit_58 rfl (lv_at hl 0 rfl) ?_
      have hPm : va_P D vwCl (kW cI cJ cZ cV cR a (mkC (k_ra C) (k_rb C) (k_vc C) (k_rc C) (k_pc C) (k_nw C) (k_n C) (k_n C) (k_sn C + 1) (k_kc C) (k_grp C) (k_key C) (k_srt C) (k_wt C) (snH (k_fn C) (k_drp C) (k_home C) (k_sn C) (k_n C)) (k_drp C) (k_met C) (k_kin C) (va_up (k_alv C) (k_sn C) (newF (k_fn C) (k_drp C) (k_n C))) (k_srs C) (k_row C) (k_sp C) (k_kis C) (k_pg C) (k_vq C) (k_rq C) (k_L C) (k_F C))) H := by rw [← kX_mk]; exact hP
      have hDm : va_D A (kW cI cJ cZ cV cR a (mkC (k_ra C) (k_rb C) (k_vc C) (k_rc C) (k_pc C) (k_nw C) (k_n C) (k_n C) (k_sn C + 1) (k_kc C) (k_grp C) (k_key C) (k_srt C) (k_wt C) (snH (k_fn C) (k_drp C) (k_home C) (k_sn C) (k_n C)) (k_drp C) (k_met C) (k_kin C) (va_up (k_alv C) (k_sn C) (newF (k_fn C) (k_drp C) (k_n C))) (k_srs C) (k_row C) (k_sp C) (k_kis C) (k_pg C) (k_vq C) (k_rq C) (k_L C) (k_F C))) := by rw [← kX_mk]; exact hD
      exact W.iret (v := nI (newF (k_fn C) (k_drp C) (k_n C))) hx hb hr (fun t ht hW => ⟨⟨_, (mkC (k_ra C) (k_rb C) (k_vc C) (k_rc C) (k_pc C) (k_nw C) (k_n C) (k_n C) (k_sn C + 1) (k_kc C) (k_grp C) (k_key C) (k_srt C) (k_wt C) (snH (k_fn C) (k_drp C) (k_home C) (k_sn C) (k_n C)) (k_drp C) (k_met C) (k_kin C) (va_up (k_alv C) (k_sn C) (newF (k_fn C) (k_drp C) (k_n C))) (k_srs C) (k_row C) (k_sp C) (k_kis C) (k_pg C) (k_vq C) (k_rq C) (k_L C) (k_F C)), rfl, ⟨(by simp only [commitRC]; (repeat' split) <;> first | rfl | (exfalso; omega)), (by simp only [commitS]; (repeat' split) <;> first | rfl | (exfalso; omega))⟩, gb_mk ht hW hPm hK hDm⟩, hS.F ht⟩) hS.2.2 dX5_commit_59
    · refine lv_bipush (v := zI ((-4))) hx hb dX5_commit_40 (by decide) ?_
      have hPm : va_P D vwCl (kW cI cJ cZ cV cR a C) s.heap := by exact hP
      have hDm : va_D A (kW cI cJ cZ cV cR a C) := by exact hD
      exact W.iret (v := zI ((-4))) hx hb hr (fun t ht hW => ⟨⟨_, C, rfl, ⟨(by simp only [commitRC]; (repeat' split) <;> first | rfl | (exfalso; omega)), (by simp only [commitS]; (repeat' split) <;> first | rfl | (exfalso; omega))⟩, gb_mk ht hW hPm hK hDm⟩, hS.F ht⟩) hS.2.2 dX5_commit_42
  · refine lv_aload_n hx hb dX5_commit_12 rfl (lv_at hl 1 rfl) ?_
    refine va_get (ci := 5) (v := .ref (a 1)) (C := RX5) (T := TX5) (N := 10) hx hb hts hiX5 hown hK hP 0 rfl rfl 0 (by decide) hf0 (fun _ h9 => h9) rfl dX5_commit_13 ?_
    refine lv_aload_n hx hb dX5_commit_16 rfl (lv_at hl 1 rfl) ?_
    refine va_get (ci := 5) (v := .ref (a 1)) (C := RX5) (T := TX5) (N := 10) hx hb hts hiX5 hown hK hP 0 rfl rfl 0 (by decide) hf0 (fun _ h9 => h9) rfl dX5_commit_17 ?_
    refine va_get (ci := 3) (v := .int (nI (k_n C))) (C := RX3) (T := TX3) (N := 8) hx hb hts hiX3 hown hK hP 1 rfl rfl 6 (by decide) hf3 (fun _ h9 => h9) rfl dX5_commit_20 ?_
    refine va_put (ci := 3) (v := .int (nI (k_n C))) (ty := .int) (C := RX3) (T := TX3) (N := 8) hx hb hts hiX3 tyX3 tyX3_ok nmX3 hown hK hP hD hS 1 rfl rfl 7 (by decide) hf4 (fun _ h9 => h9) rfl (by decide +kernel) rfl rfl (Nat.le_of_ble_eq_true rfl) dX5_commit_23 (fun H locs hP hD hS => ?_)
    have hP : va_P D vwCl (kX cI cJ cZ cV cR a (k_ra C) (k_rb C) (k_vc C) (k_rc C) (k_pc C) (k_nw C) (k_n C) (k_n C) (k_sn C) (k_kc C) (k_grp C) (k_key C) (k_srt C) (k_wt C) (k_home C) (k_drp C) (k_met C) (k_kin C) (k_alv C) (k_srs C) (k_row C) (k_sp C) (k_kis C) (k_pg C) (k_vq C) (k_rq C) (k_L C) (k_F C)) H := hP
    have hD : va_D A (kX cI cJ cZ cV cR a (k_ra C) (k_rb C) (k_vc C) (k_rc C) (k_pc C) (k_nw C) (k_n C) (k_n C) (k_sn C) (k_kc C) (k_grp C) (k_key C) (k_srt C) (k_wt C) (k_home C) (k_drp C) (k_met C) (k_kin C) (k_alv C) (k_srs C) (k_row C) (k_sp C) (k_kis C) (k_pg C) (k_vq C) (k_rq C) (k_L C) (k_F C)) := hD
    refine lv_iconst (v := nI (0)) hx hb dX5_commit_26 (by decide) ?_
    have hPm : va_P D vwCl (kW cI cJ cZ cV cR a (mkC (k_ra C) (k_rb C) (k_vc C) (k_rc C) (k_pc C) (k_nw C) (k_n C) (k_n C) (k_sn C) (k_kc C) (k_grp C) (k_key C) (k_srt C) (k_wt C) (k_home C) (k_drp C) (k_met C) (k_kin C) (k_alv C) (k_srs C) (k_row C) (k_sp C) (k_kis C) (k_pg C) (k_vq C) (k_rq C) (k_L C) (k_F C))) H := by rw [← kX_mk]; exact hP
    have hDm : va_D A (kW cI cJ cZ cV cR a (mkC (k_ra C) (k_rb C) (k_vc C) (k_rc C) (k_pc C) (k_nw C) (k_n C) (k_n C) (k_sn C) (k_kc C) (k_grp C) (k_key C) (k_srt C) (k_wt C) (k_home C) (k_drp C) (k_met C) (k_kin C) (k_alv C) (k_srs C) (k_row C) (k_sp C) (k_kis C) (k_pg C) (k_vq C) (k_rq C) (k_L C) (k_F C))) := by rw [← kX_mk]; exact hD
    exact W.iret (v := nI (0)) hx hb hr (fun t ht hW => ⟨⟨_, (mkC (k_ra C) (k_rb C) (k_vc C) (k_rc C) (k_pc C) (k_nw C) (k_n C) (k_n C) (k_sn C) (k_kc C) (k_grp C) (k_key C) (k_srt C) (k_wt C) (k_home C) (k_drp C) (k_met C) (k_kin C) (k_alv C) (k_srs C) (k_row C) (k_sp C) (k_kis C) (k_pg C) (k_vq C) (k_rq C) (k_L C) (k_F C)), rfl, ⟨(by simp only [commitRC]; (repeat' split) <;> first | rfl | (exfalso; omega)), (by simp only [commitS]; (repeat' split) <;> first | rfl | (exfalso; omega))⟩, gb_mk ht hW hPm hK hDm⟩, hS.F ht⟩) hS.2.2 dX5_commit_27
