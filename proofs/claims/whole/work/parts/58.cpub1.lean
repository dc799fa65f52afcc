/-! what the class's own methods do and answer -/
def dropC (C : CT) (i : Nat) : CT := if k_drp C i then C else if k_home C i = -1 then (mkC (k_ra C) (k_rb C) (k_vc C) (k_rc C) (k_pc C) (k_nw C) (k_n C) (k_fn C) (k_sn C) (k_kc C) (k_grp C) (k_key C) (k_srt C) (k_wt C) (k_home C) (va_up (k_drp C) (i) (true)) (k_met C) (k_kin C) (k_alv C) (k_srs C) (k_row C) (k_sp C) (k_kis C) (k_pg C) (k_vq C) (k_rq C) (k_L C) (k_F C)) else (mkC (k_ra C) (k_rb C) (k_vc C) (k_rc C) (k_pc C) (k_nw C) (k_n C) (k_fn C) (k_sn C) (k_kc C) (k_grp C) (k_key C) (k_srt C) (k_wt C) (k_home C) (va_up (k_drp C) (i) (true)) (k_met C) (k_kin C) (va_up (k_alv C) ((k_home C i).toNat) (k_alv C ((k_home C i).toNat) - 1)) (k_srs C) (k_row C) (k_sp C) (k_kis C) (k_pg C) (k_vq C) (k_rq C) (k_L C) (k_F C))
def objC (C : CT) (i w : Nat) : Int64 := if w = 0 then k_grp C i else if w = 1 then k_key C i else if w = 2 then k_srt C i else if w = 3 then (zI (k_home C i)).toInt64 else if k_drp C i then 1 else 0
def segC (C : CT) (i w : Nat) : Nat := if w = 0 then k_alv C i else if w = 1 then ssF (k_alv C) (k_srs C) i else k_srs C i
def lgoM (C : CT) (q hs se c g r : Nat) : CT := (mkC (k_ra C) (k_rb C) (k_vc C) (k_rc C) (k_pc C) (k_nw C) (k_n C) (k_fn C) (k_sn C) (k_kc C) (k_grp C) (k_key C) (k_srt C) (k_wt C) (k_home C) (k_drp C) (k_met C) (k_kin C) (k_alv C) (k_srs C) (k_row C) (k_sp C) (k_kis C) (k_pg C) (k_vq C) (k_rq C) (k_L C) (va_up (k_F C) (q) (.inr (4, [.ref (hs), .ref (se), .int (nI (c)), .int (nI (g)), .int (nI (1)), .int (nI (r))]))))
def takM (C : CT) (q v hs : Nat) (cu : Bool) (kp gv : Nat) (ed : Bool) (f : Nat → Nat) (k : Nat) : CT := (mkC (k_ra C) (k_rb C) (k_vc C) (k_rc C) (k) (k_nw C) (k_n C) (k_fn C) (k_sn C) (k_kc C) (k_grp C) (k_key C) (k_srt C) (k_wt C) (k_home C) (k_drp C) (k_met C) (k_kin C) (k_alv C) (k_srs C) (k_row C) (k_sp C) (k_kis C) (va_cpy (f) (k_pg C) (gv) (0) (k)) (k_vq C) (k_rq C) (k_L C) (va_up (k_F C) (q) (.inr (1, [.ref (v), .ref (hs), .int (bI (cu)), .int (nI (kp)), .int (nI (gv + k)), .int (nI (k_nw C + kp)), .int (bI (ed))]))))
def nxC (C : CT) (q v hs : Nat) (cu : Bool) (kp gv en : Nat) (ed : Bool) : CT := (mkC (k_ra C) (k_rb C) (k_vc C) (k_rc C) (k_pc C) (k_nw C) (k_n C) (k_fn C) (k_sn C) (k_kc C) (k_grp C) (k_key C) (k_srt C) (k_wt C) (k_home C) (k_drp C) (k_met C) (k_kin C) (k_alv C) (k_srs C) (k_row C) (k_sp C) (k_kis C) (k_pg C) (k_vq C) (k_rq C) (k_L C) (va_up (k_F C) (q) (.inr (1, [.ref (v), .ref (hs), .int (bI (cu)), .int (nI (kp)), .int (nI (gv + 1)), .int (nI (en)), .int (bI (ed))]))))
def rm_X5_drop : Room := { frames := 1, cells := 0, slots := 0, locals := 21 }
set_option maxHeartbeats 4000000 in
set_option maxRecDepth 100000 in
/-- an object is dropped -/
theorem c_X5_drop (l : Launch) (D : va_G) (cI cJ cZ cV cR : ClassId) (a : Nat → Nat) (C : CT) (hM : kOk C) (i : Nat) (hi9 : i < k_n C) (hal : k_home C i ≠ -1 → k_drp C i = false → 0 < k_alv C (k_home C i).toNat) (sz : Nat) : Met l yX5_drop wsX5_drop rm_X5_drop (va_Pc [.ref (a 0), .int (nI (i))] (GW D (tyK cI cJ cZ cV cR) (kW cI cJ cZ cV cR a C) sz)) (va_Qi (fun rr u => rr = bI (!k_drp C i) ∧ u = dropC C i) (fun u => GB D (tyK cI cJ cZ cV cR) (va_A (kW cI cJ cZ cV cR a C) sz) (kW cI cJ cZ cV cR a u)) (va_A (kW cI cJ cZ cV cR a C) sz)) 0 0 (va_A (kW cI cJ cZ cV cR a C) sz) := by
  obtain ⟨hn, hfn, hsn, hvc, hrc, hpc, hnw, hkc, h_home, h_kin, h_alv, h_srs, h_row, h_sp, h_kis, h_pg⟩ := id hM
  refine Met.ofW (cc := cX5_drop) (maxL := 3) (ret := (some .boolean)) (by decide) rfl ?_
  intro p e s m args below meth c s₁ B hml hv
  obtain ⟨rfl, hsz, hP, hK, hD0⟩ := hv
  have hx := B.exec
  have hb := B.bytes
  have hr := B.returns
  have hts := atoms_spec (ws := wsX5_drop) B.pre
  have hown : s.vm.findClass RX5 = some m.cls := findClass_of_methodNamed B.named
  have hlocks := B.notSynchronized
  subst hsz
  have hD := hD0.self (sz := s.heap.size)
  generalize hAe : va_A (kW cI cJ cZ cV cR a C) s.heap.size = A at hD ⊢
  have hA : ∀ q : Nat, s.heap.size ≤ q → A q := fun q h => by rw [← hAe]; exact Or.inr h
  have hS : va_S A s.heap s.heap [] := va_S.rf
  have hP : va_P D vwCl (kX cI cJ cZ cV cR a (k_ra C) (k_rb C) (k_vc C) (k_rc C) (k_pc C) (k_nw C) (k_n C) (k_fn C) (k_sn C) (k_kc C) (k_grp C) (k_key C) (k_srt C) (k_wt C) (k_home C) (k_drp C) (k_met C) (k_kin C) (k_alv C) (k_srs C) (k_row C) (k_sp C) (k_kis C) (k_pg C) (k_vq C) (k_rq C) (k_L C) (k_F C)) s.heap := hP
  have hD : va_D A (kX cI cJ cZ cV cR a (k_ra C) (k_rb C) (k_vc C) (k_rc C) (k_pc C) (k_nw C) (k_n C) (k_fn C) (k_sn C) (k_kc C) (k_grp C) (k_key C) (k_srt C) (k_wt C) (k_home C) (k_drp C) (k_met C) (k_kin C) (k_alv C) (k_srs C) (k_row C) (k_sp C) (k_kis C) (k_pg C) (k_vq C) (k_rq C) (k_L C) (k_F C)) := hD
  have hiX5 : ∀ w ∈ wsX50, w ∈ wsX5_drop := by decide +kernel
  have hiX3 : ∀ w ∈ wsX30, w ∈ wsX5_drop := by decide +kernel
  have hiX2 : ∀ w ∈ wsX20, w ∈ wsX5_drop := by decide +kernel
  have hf0 := hts (.fieldLink RX5 10 "GroupCursors" "stock" "LGroupCursors$Stock;") (by decide +kernel)
  have hf1 := hts (.fieldLink RX5 72 "GroupCursors$Stock" "dropped" "[Z") (by decide +kernel)
  have hf2 := hts (.fieldLink RX5 76 "GroupCursors$Stock" "home" "[I") (by decide +kernel)
  have hf3 := hts (.fieldLink RX5 19 "GroupCursors" "segments" "LGroupCursors$Segments;") (by decide +kernel)
  have hf4 := hts (.fieldLink RX5 79 "GroupCursors$Segments" "alive" "[I") (by decide +kernel)
  have hl := lv_entry ([.ref (a 0), .int (nI (i))]) (n := 3) (Nat.le_of_ble_eq_true rfl)
  rw [lg_entry_eq]
  generalize (lg_sl ([.ref (a 0), .int (nI (i))]) ++ List.replicate (3 - (lg_sl ([.ref (a 0), .int (nI (i))])).length) Slot.unset).toArray = ls at hl ⊢
  have hl : lv_has ls 3 [(0, .ref (a 0)), (1, .int (nI (i)))] := hl
  refine lv_aload_n hx hb dX5_drop_0 rfl (lv_at hl 0 rfl) ?_
  refine lv_iload_n hx hb dX5_drop_1 rfl (lv_at hl 1 rfl) ?_
  have hPm : va_P D vwCl (kW cI cJ cZ cV cR a C) s.heap := by exact hP
  have hDm : va_D A (kW cI cJ cZ cV cR a C) := by exact hD
  refine wc_VWv (As := [.int (nI (i))]) (rest := []) (wf := kW cI cJ cZ cV cR a) ⟨hx, hb, hml, hown, hts⟩ (c_X5_checkObject l D cI cJ cZ cV cR a C hM (i) (by omega) s.heap.size) (cwV 1 hts gX5_drop_X5_checkObject rfl rfl rfl (by decide +kernel) ⟨Nat.le_of_ble_eq_true rfl, Nat.le_of_ble_eq_true rfl⟩) hPm hK hDm hS hA 0 rfl rfl rfl hl.1 rfl (Nat.le_of_ble_eq_true rfl) dX5_drop_2 ⟨Nat.le_of_ble_eq_true rfl, Nat.le_of_ble_eq_true rfl⟩ (fun u1 hq1 H locs hP hD hS => ?_)
  have hu1 := hq1.symm
  subst hu1
  have hP : va_P D vwCl (kX cI cJ cZ cV cR a (k_ra C) (k_rb C) (k_vc C) (k_rc C) (k_pc C) (k_nw C) (k_n C) (k_fn C) (k_sn C) (k_kc C) (k_grp C) (k_key C) (k_srt C) (k_wt C) (k_home C) (k_drp C) (k_met C) (k_kin C) (k_alv C) (k_srs C) (k_row C) (k_sp C) (k_kis C) (k_pg C) (k_vq C) (k_rq C) (k_L C) (k_F C)) H := hP
  have hD : va_D A (kX cI cJ cZ cV cR a (k_ra C) (k_rb C) (k_vc C) (k_rc C) (k_pc C) (k_nw C) (k_n C) (k_fn C) (k_sn C) (k_kc C) (k_grp C) (k_key C) (k_srt C) (k_wt C) (k_home C) (k_drp C) (k_met C) (k_kin C) (k_alv C) (k_srs C) (k_row C) (k_sp C) (k_kis C) (k_pg C) (k_vq C) (k_rq C) (k_L C) (k_F C)) := hD
  refine lv_aload_n hx hb dX5_drop_5 rfl (lv_at hl 0 rfl) ?_
  refine va_get (ci := 5) (v := .ref (a 1)) (C := RX5) (T := TX5) (N := 10) hx hb hts hiX5 hown hK hP 0 rfl rfl 0 (by decide) hf0 (fun _ h9 => h9) rfl dX5_drop_6 ?_
  refine va_get (ci := 3) (v := .ref (a 7)) (C := RX3) (T := TX3) (N := 8) hx hb hts hiX3 hown hK hP 1 rfl rfl 5 (by decide) hf1 (fun _ h9 => h9) rfl dX5_drop_9 ?_
  refine lv_iload_n hx hb dX5_drop_12 rfl (lv_at hl 1 rfl) ?_
  refine wa_z (i := i) (v := bI (k_drp C i)) hx hb hK hP 7 2 rfl rfl rfl (by omega) (by decide) dX5_drop_13 ?_
  refine wb_if_eq (tgt := 19) hx hb dX5_drop_14 (by decide) (fun c14_2 => ?_) (fun c14_2 => ?_)
  · have hhi := h_home i
    refine lv_aload_n hx hb dX5_drop_19 rfl (lv_at hl 0 rfl) ?_
    refine va_get (ci := 5) (v := .ref (a 1)) (C := RX5) (T := TX5) (N := 10) hx hb hts hiX5 hown hK hP 0 rfl rfl 0 (by decide) hf0 (fun _ h9 => h9) rfl dX5_drop_20 ?_
    refine va_get (ci := 3) (v := .ref (a 7)) (C := RX3) (T := TX3) (N := 8) hx hb hts hiX3 hown hK hP 1 rfl rfl 5 (by decide) hf1 (fun _ h9 => h9) rfl dX5_drop_23 ?_
    refine lv_iload_n hx hb dX5_drop_26 rfl (lv_at hl 1 rfl) ?_
    refine lv_iconst (v := nI (1)) hx hb dX5_drop_27 (by decide) ?_
    refine wa_zst (i := i) (b := true) (f := k_drp C) hx hb hK hP hD hS 7 2 rfl rfl rfl (by omega) (by decide) dX5_drop_28 (fun H locs hP hD hS => ?_)
    have hP : va_P D vwCl (kX cI cJ cZ cV cR a (k_ra C) (k_rb C) (k_vc C) (k_rc C) (k_pc C) (k_nw C) (k_n C) (k_fn C) (k_sn C) (k_kc C) (k_grp C) (k_key C) (k_srt C) (k_wt C) (k_home C) (va_up (k_drp C) (i) (true)) (k_met C) (k_kin C) (k_alv C) (k_srs C) (k_row C) (k_sp C) (k_kis C) (k_pg C) (k_vq C) (k_rq C) (k_L C) (k_F C)) H := hP
    have hD : va_D A (kX cI cJ cZ cV cR a (k_ra C) (k_rb C) (k_vc C) (k_rc C) (k_pc C) (k_nw C) (k_n C) (k_fn C) (k_sn C) (k_kc C) (k_grp C) (k_key C) (k_srt C) (k_wt C) (k_home C) (va_up (k_drp C) (i) (true)) (k_met C) (k_kin C) (k_alv C) (k_srs C) (k_row C) (k_sp C) (k_kis C) (k_pg C) (k_vq C) (k_rq C) (k_L C) (k_F C)) := hD
    refine lv_aload_n hx hb dX5_drop_29 rfl (lv_at hl 0 rfl) ?_
    refine va_get (ci := 5) (v := .ref (a 1)) (C := RX5) (T := TX5) (N := 10) hx hb hts hiX5 hown hK hP 0 rfl rfl 0 (by decide) hf0 (fun _ h9 => h9) rfl dX5_drop_30 ?_
    refine va_get (ci := 3) (v := .ref (a 6)) (C := RX3) (T := TX3) (N := 8) hx hb hts hiX3 hown hK hP 1 rfl rfl 4 (by decide) hf2 (fun _ h9 => h9) rfl dX5_drop_33 ?_
    refine lv_iload_n hx hb dX5_drop_36 rfl (lv_at hl 1 rfl) ?_
    refine wa_i (i := i) (v := zI (k_home C i)) hx hb hK hP 6 0 rfl rfl rfl (by omega) (by decide) dX5_drop_37 ?_
    refine lv_istore_n (lv' := [(2, .int (zI (k_home C i))), (0, .ref (a 0)), (1, .int (nI (i)))]) hx hb dX5_drop_38 rfl hl (by decide) rfl (fun ls hl => ?_)
    refine lv_iload_n hx hb dX5_drop_39 rfl (lv_at hl 0 rfl) ?_
    refine lv_iconst (v := zI ((-1))) hx hb dX5_drop_40 (by decide) ?_
    refine wz_icmp_eq (tgt := 57) hx hb ((k_home C i : Int)) (((-1) : Int)) (zr4 (h_home i)) (zI_toInt (by omega) (by omega)) dX5_drop_41 (by decide) (fun c41_3 => ?_) (fun c41_3 => ?_)
    · refine lv_iconst (v := nI (1)) hx hb dX5_drop_57 (by decide) ?_
      have hPm : va_P D vwCl (kW cI cJ cZ cV cR a (mkC (k_ra C) (k_rb C) (k_vc C) (k_rc C) (k_pc C) (k_nw C) (k_n C) (k_fn C) (k_sn C) (k_kc C) (k_grp C) (k_key C) (k_srt C) (k_wt C) (k_home C) (va_up (k_drp C) (i) (true)) (k_met C) (k_kin C) (k_alv C) (k_srs C) (k_row C) (k_sp C) (k_kis C) (k_pg C) (k_vq C) (k_rq C) (k_L C) (k_F C))) H := by rw [← kX_mk]; exact hP
      have hDm : va_D A (kW cI cJ cZ cV cR a (mkC (k_ra C) (k_rb C) (k_vc C) (k_rc C) (k_pc C) (k_nw C) (k_n C) (k_fn C) (k_sn C) (k_kc C) (k_grp C) (k_key C) (k_srt C) (k_wt C) (k_home C) (va_up (k_drp C) (i) (true)) (k_met C) (k_kin C) (k_alv C) (k_srs C) (k_row C) (k_sp C) (k_kis C) (k_pg C) (k_vq C) (k_rq C) (k_L C) (k_F C))) := by rw [← kX_mk]; exact hD
      exact W.zret (v := nI (1)) hx hb hr rfl (fun t ht hW => ⟨⟨_, (mkC (k_ra C) (k_rb C) (k_vc C) (k_rc C) (k_pc C) (k_nw C) (k_n C) (k_fn C) (k_sn C) (k_kc C) (k_grp C) (k_key C) (k_srt C) (k_wt C) (k_home C) (va_up (k_drp C) (i) (true)) (k_met C) (k_kin C) (k_alv C) (k_srs C) (k_row C) (k_sp C) (k_kis C) (k_pg C) (k_vq C) (k_rq C) (k_L C) (k_F C)), rfl, ⟨by rw [(show k_drp C i = false from c14_2)]; rfl, by rw [dropC, if_neg (by rw [c14_2]; decide), if_pos (by omega)]⟩, gb_mk ht hW hPm hK hDm⟩, hS.F ht⟩) hS.2.2 dX5_drop_58
    · have hh0 := hal (by omega) c14_2
      refine lv_aload_n hx hb dX5_drop_44 rfl (lv_at hl 1 rfl) ?_
      refine va_get (ci := 5) (v := .ref (a 8)) (C := RX5) (T := TX5) (N := 10) hx hb hts hiX5 hown hK hP 0 rfl rfl 1 (by decide) hf3 (fun _ h9 => h9) rfl dX5_drop_45 ?_
      refine va_get (ci := 2) (v := .ref (a 9)) (C := RX2) (T := TX2) (N := 3) hx hb hts hiX2 hown hK hP 8 rfl rfl 0 (by decide) hf4 (fun _ h9 => h9) rfl dX5_drop_48 ?_
      refine lv_iload_n hx hb dX5_drop_51 rfl (lv_at hl 0 rfl) ?_
      refine ww_top (y := nI ((k_home C i).toNat)) (zI_toNat (by omega)) ?_
      refine lv_dup2_11 hx hb dX5_drop_52 rfl rfl ?_
      refine wa_i (i := (k_home C i).toNat) (v := nI (k_alv C ((k_home C i).toNat))) hx hb hK hP 9 0 rfl rfl rfl (by omega) (by decide) dX5_drop_53 ?_
      refine lv_iconst (v := nI (1)) hx hb dX5_drop_54 (by decide) ?_
      refine lv_isub hx hb dX5_drop_55 (ww_top (y := nI (k_alv C ((k_home C i).toNat) - 1)) (pk_sub (by omega)) ?_)
      refine wa_ist (i := (k_home C i).toNat) hx hb hK hP hD hS 9 0 rfl rfl (upd_nI (k_alv C) ((k_home C i).toNat) (k_alv C ((k_home C i).toNat) - 1)) (by omega) (by decide) dX5_drop_56 (fun H locs hP hD hS => ?_)
      have hP : va_P D vwCl (kX cI cJ cZ cV cR a (k_ra C) (k_rb C) (k_vc C) (k_rc C) (k_pc C) (k_nw C) (k_n C) (k_fn C) (k_sn C) (k_kc C) (k_grp C) (k_key C) (k_srt C) (k_wt C) (k_home C) (va_up (k_drp C) (i) (true)) (k_met C) (k_kin C) (va_up (k_alv C) ((k_home C i).toNat) (k_alv C ((k_home C i).toNat) - 1)) (k_srs C) (k_row C) (k_sp C) (k_kis C) (k_pg C) (k_vq C) (k_rq C) (k_L C) (k_F C)) H := hP
      have hD : va_D A (kX cI cJ cZ cV cR a (k_ra C) (k_rb C) (k_vc C) (k_rc C) (k_pc C) (k_nw C) (k_n C) (k_fn C) (k_sn C) (k_kc C) (k_grp C) (k_key C) (k_srt C) (k_wt C) (k_home C) (va_up (k_drp C) (i) (true)) (k_met C) (k_kin C) (va_up (k_alv C) ((k_home C i).toNat) (k_alv C ((k_home C i).toNat) - 1)) (k_srs C) (k_row C) (k_sp C) (k_kis C) (k_pg C) (k_vq C) (k_rq C) (k_L C) (k_F C)) := hD
      refine lv_iconst (v := nI (1)) hx hb dX5_drop_57 (by decide) ?_
      have hPm : va_P D vwCl (kW cI cJ cZ cV cR a (mkC (k_ra C) (k_rb C) (k_vc C) (k_rc C) (k_pc C) (k_nw C) (k_n C) (k_fn C) (k_sn C) (k_kc C) (k_grp C) (k_key C) (k_srt C) (k_wt C) (k_home C) (va_up (k_drp C) (i) (true)) (k_met C) (k_kin C) (va_up (k_alv C) ((k_home C i).toNat) (k_alv C ((k_home C i).toNat) - 1)) (k_srs C) (k_row C) (k_sp C) (k_kis C) (k_pg C) (k_vq C) (k_rq C) (k_L C) (k_F C))) H := by rw [← kX_mk]; exact hP
      have hDm : va_D A (kW cI cJ cZ cV cR a (mkC (k_ra C) (k_rb C) (k_vc C) (k_rc C) (k_pc C) (k_nw C) (k_n C) (k_fn C) (k_sn C) (k_kc C) (k_grp C) (k_key C) (k_srt C) (k_wt C) (k_home C) (va_up (k_drp C) (i) (true)) (k_met C) (k_kin C) (va_up (k_alv C) ((k_home C i).toNat) (k_alv C ((k_home C i).toNat) - 1)) (k_srs C) (k_row C) (k_sp C) (k_kis C) (k_pg C) (k_vq C) (k_rq C) (k_L C) (k_F C))) := by rw [← kX_mk]; exact hD
      exact W.zret (v := nI (1)) hx hb hr rfl (fun t ht hW => ⟨⟨_, (mkC (k_ra C) (k_rb C) (k_vc C) (k_rc C) (k_pc C) (k_nw C) (k_n C) (k_fn C) (k_sn C) (k_kc C) (k_grp C) (k_key C) (k_srt C) (k_wt C) (k_home C) (va_up (k_drp C) (i) (true)) (k_met C) (k_kin C) (va_up (k_alv C) ((k_home C i).toNat) (k_alv C ((k_home C i).toNat) - 1)) (k_srs C) (k_row C) (k_sp C) (k_kis C) (k_pg C) (k_vq C) (k_rq C) (k_L C) (k_F C)), rfl, ⟨by rw [(show k_drp C i = false from c14_2)]; rfl, by rw [dropC, if_neg (by rw [c14_2]; decide), if_neg (by omega)]⟩, gb_mk ht hW hPm hK hDm⟩, hS.F ht⟩) hS.2.2 dX5_drop_58
  · refine lv_iconst (v := nI (0)) hx hb dX5_drop_17 (by decide) ?_
    have hPm : va_P D vwCl (kW cI cJ cZ cV cR a C) H := by exact hP
    have hDm : va_D A (kW cI cJ cZ cV cR a C) := by exact hD
    exact W.zret (v := nI (0)) hx hb hr rfl (fun t ht hW => ⟨⟨_, C, rfl, ⟨by rw [(show k_drp C i = true from c14_2)]; rfl, by rw [dropC, if_pos c14_2]⟩, gb_mk ht hW hPm hK hDm⟩, hS.F ht⟩) hS.2.2 dX5_drop_18
def rmx_X5_drop : Room := { frames := 7, cells := 1, slots := 6, locals := 103 }
set_option maxHeartbeats 4000000 in
set_option maxRecDepth 100000 in
/-- no such object -/
theorem x_X5_drop (l : Launch) (htr : l.stackTraces = false) (D : va_G) (cI cJ cZ cV cR : ClassId) (a : Nat → Nat) (C : CT) (hM : kOk C) (x : Int32) (hbad : x.toInt < 0 ∨ ((k_n C : Nat) : Int) ≤ x.toInt) (sz : Nat) : vx_Met l yX5_drop wsX5_drop rmx_X5_drop (va_Pc [.ref (a 0), .int (x)] (GX D (tyK cI cJ cZ cV cR) (kW cI cJ cZ cV cR a C) sz)) xNo (xXC D (tyK cI cJ cZ cV cR) "java/lang/IndexOutOfBoundsException" (fun u : CT => u = C) (kW cI cJ cZ cV cR a) (va_A (kW cI cJ cZ cV cR a C) sz)) 1 6 (va_A (kW cI cJ cZ cV cR a C) sz) := by
  obtain ⟨hn, hfn, hsn, hvc, hrc, hpc, hnw, hkc, h_home, h_kin, h_alv, h_srs, h_row, h_sp, h_kis, h_pg⟩ := id hM
  refine vx_ofW (cc := cX5_drop) (maxL := 3) (ret := (some .boolean)) (by decide) rfl ?_
  intro p e s m args below meth c s₁ B hml hout hv
  obtain ⟨rfl, ⟨hsz, hP, hK, hD0⟩, hXE⟩ := hv
  have hx := B.exec
  have hb := B.bytes
  have hr := B.returns
  have hts := atoms_spec (ws := wsX5_drop) B.pre
  have hown : s.vm.findClass RX5 = some m.cls := findClass_of_methodNamed B.named
  have hlocks := B.notSynchronized
  subst hsz
  have hD := hD0.self (sz := s.heap.size)
  generalize hAe : va_A (kW cI cJ cZ cV cR a C) s.heap.size = A at hD hXE ⊢
  have hA : ∀ q : Nat, s.heap.size ≤ q → A q := fun q h => by rw [← hAe]; exact Or.inr h
  have hS : va_S A s.heap s.heap [] := va_S.rf
  have hP : va_P D vwCl (kX cI cJ cZ cV cR a (k_ra C) (k_rb C) (k_vc C) (k_rc C) (k_pc C) (k_nw C) (k_n C) (k_fn C) (k_sn C) (k_kc C) (k_grp C) (k_key C) (k_srt C) (k_wt C) (k_home C) (k_drp C) (k_met C) (k_kin C) (k_alv C) (k_srs C) (k_row C) (k_sp C) (k_kis C) (k_pg C) (k_vq C) (k_rq C) (k_L C) (k_F C)) s.heap := hP
  have hD : va_D A (kX cI cJ cZ cV cR a (k_ra C) (k_rb C) (k_vc C) (k_rc C) (k_pc C) (k_nw C) (k_n C) (k_fn C) (k_sn C) (k_kc C) (k_grp C) (k_key C) (k_srt C) (k_wt C) (k_home C) (k_drp C) (k_met C) (k_kin C) (k_alv C) (k_srs C) (k_row C) (k_sp C) (k_kis C) (k_pg C) (k_vq C) (k_rq C) (k_L C) (k_F C)) := hD
  have hl := lv_entry ([.ref (a 0), .int (x)]) (n := 3) (Nat.le_of_ble_eq_true rfl)
  rw [lg_entry_eq]
  generalize (lg_sl ([.ref (a 0), .int (x)]) ++ List.replicate (3 - (lg_sl ([.ref (a 0), .int (x)])).length) Slot.unset).toArray = ls at hl ⊢
  have hl : lv_has ls 3 [(0, .ref (a 0)), (1, .int (x))] := hl
  refine lv_aload_n hx hb dX5_drop_0 rfl (lv_at hl 0 rfl) ?_
  refine lv_iload_n hx hb dX5_drop_1 rfl (lv_at hl 1 rfl) ?_
  have hPm : va_P D vwCl (kW cI cJ cZ cV cR a C) s.heap := by exact hP
  have hDm : va_D A (kW cI cJ cZ cV cR a C) := by exact hD
  refine wx_V (As := [.int (x)]) (rest := []) (wf := kW cI cJ cZ cV cR a) ⟨hx, hb, hml, hown, hts⟩ (x_X5_checkObject l htr D cI cJ cZ cV cR a C hM x hbad s.heap.size) (cwV 1 hts gX5_drop_X5_checkObject rfl rfl rfl (by decide +kernel) ⟨Nat.le_of_ble_eq_true rfl, Nat.le_of_ble_eq_true rfl⟩) hPm hK hDm hS hA hXE 0 rfl rfl rfl hl.1 rfl (Nat.le_of_ble_eq_true rfl) dX5_drop_2 ⟨Nat.le_of_ble_eq_true rfl, Nat.le_of_ble_eq_true rfl⟩ (fun u hu H locs ce q9 hP hD hS hce hcv hcl => ?_)
  exact vx_out (fun x h => (hout x h).elim) hlocks hce hcv hcl (xxc_eq u hu hP hK hD hS) hS.2.2 (Nat.le_refl _) (Nat.le_refl _)
def rm_X5_object : Room := { frames := 1, cells := 0, slots := 0, locals := 21 }
set_option maxHeartbeats 4000000 in
set_option maxRecDepth 100000 in
/-- what an object is -/
theorem c_X5_object (l : Launch) (D : va_G) (cI cJ cZ cV cR : ClassId) (a : Nat → Nat) (C : CT) (hM : kOk C) (i w9 : Nat) (hi9 : i < k_n C) (hw9 : w9 < 5) (sz : Nat) : Met l yX5_object wsX5_object rm_X5_object (va_Pc [.ref (a 0), .int (nI (i)), .int (nI (w9))] (GW D (tyK cI cJ cZ cV cR) (kW cI cJ cZ cV cR a C) sz)) (va_Ql (fun rr u => rr = objC C i w9 ∧ u = C) (fun u => GB D (tyK cI cJ cZ cV cR) (va_A (kW cI cJ cZ cV cR a C) sz) (kW cI cJ cZ cV cR a u)) (va_A (kW cI cJ cZ cV cR a C) sz)) 0 0 (va_A (kW cI cJ cZ cV cR a C) sz) := by
  obtain ⟨hn, hfn, hsn, hvc, hrc, hpc, hnw, hkc, h_home, h_kin, h_alv, h_srs, h_row, h_sp, h_kis, h_pg⟩ := id hM
  refine Met.ofW (cc := cX5_object) (maxL := 3) (ret := (some .long)) (by decide) rfl ?_
  intro p e s m args below meth c s₁ B hml hv
  obtain ⟨rfl, hsz, hP, hK, hD0⟩ := hv
  have hx := B.exec
  have hb := B.bytes
  have hr := B.returns
  have hts := atoms_spec (ws := wsX5_object) B.pre
  have hown : s.vm.findClass RX5 = some m.cls := findClass_of_methodNamed B.named
  have hlocks := B.notSynchronized
  subst hsz
  have hD := hD0.self (sz := s.heap.size)
  generalize hAe : va_A (kW cI cJ cZ cV cR a C) s.heap.size = A at hD ⊢
  have hA : ∀ q : Nat, s.heap.size ≤ q → A q := fun q h => by rw [← hAe]; exact Or.inr h
  have hS : va_S A s.heap s.heap [] := va_S.rf
  have hP : va_P D vwCl (kX cI cJ cZ cV cR a (k_ra C) (k_rb C) (k_vc C) (k_rc C) (k_pc C) (k_nw C) (k_n C) (k_fn C) (k_sn C) (k_kc C) (k_grp C) (k_key C) (k_srt C) (k_wt C) (k_home C) (k_drp C) (k_met C) (k_kin C) (k_alv C) (k_srs C) (k_row C) (k_sp C) (k_kis C) (k_pg C) (k_vq C) (k_rq C) (k_L C) (k_F C)) s.heap := hP
  have hD : va_D A (kX cI cJ cZ cV cR a (k_ra C) (k_rb C) (k_vc C) (k_rc C) (k_pc C) (k_nw C) (k_n C) (k_fn C) (k_sn C) (k_kc C) (k_grp C) (k_key C) (k_srt C) (k_wt C) (k_home C) (k_drp C) (k_met C) (k_kin C) (k_alv C) (k_srs C) (k_row C) (k_sp C) (k_kis C) (k_pg C) (k_vq C) (k_rq C) (k_L C) (k_F C)) := hD
  have hiX5 : ∀ w ∈ wsX50, w ∈ wsX5_object := by decide +kernel
  have hiX3 : ∀ w ∈ wsX30, w ∈ wsX5_object := by decide +kernel
  have hf0 := hts (.fieldLink RX5 10 "GroupCursors" "stock" "LGroupCursors$Stock;") (by decide +kernel)
  have hf1 := hts (.fieldLink RX5 106 "GroupCursors$Stock" "group" "[J") (by decide +kernel)
  have hf2 := hts (.fieldLink RX5 110 "GroupCursors$Stock" "key" "[J") (by decide +kernel)
  have hf3 := hts (.fieldLink RX5 113 "GroupCursors$Stock" "sort" "[J") (by decide +kernel)
  have hf4 := hts (.fieldLink RX5 76 "GroupCursors$Stock" "home" "[I") (by decide +kernel)
  have hf5 := hts (.fieldLink RX5 72 "GroupCursors$Stock" "dropped" "[Z") (by decide +kernel)
  have hl := lv_entry ([.ref (a 0), .int (nI (i)), .int (nI (w9))]) (n := 3) (Nat.le_of_ble_eq_true rfl)
  rw [lg_entry_eq]
  generalize (lg_sl ([.ref (a 0), .int (nI (i)), .int (nI (w9))]) ++ List.replicate (3 - (lg_sl ([.ref (a 0), .int (nI (i)), .int (nI (w9))])).length) Slot.unset).toArray = ls at hl ⊢
  have hl : lv_has ls 3 [(0, .ref (a 0)), (1, .int (nI (i))), (2, .int (nI (w9)))] := hl
  refine lv_aload_n hx hb dX5_object_0 rfl (lv_at hl 0 rfl) ?_
  refine lv_iload_n hx hb dX5_object_1 rfl (lv_at hl 1 rfl) ?_
  have hPm : va_P D vwCl (kW cI cJ cZ cV cR a C) s.heap := by exact hP
  have hDm : va_D A (kW cI cJ cZ cV cR a C) := by exact hD
  refine wc_VWv (As := [.int (nI (i))]) (rest := []) (wf := kW cI cJ cZ cV cR a) ⟨hx, hb, hml, hown, hts⟩ (c_X5_checkObject l D cI cJ cZ cV cR a C hM (i) (by omega) s.heap.size) (cwV 1 hts gX5_object_X5_checkObject rfl rfl rfl (by decide +kernel) ⟨Nat.le_of_ble_eq_true rfl, Nat.le_of_ble_eq_true rfl⟩) hPm hK hDm hS hA 0 rfl rfl rfl hl.1 rfl (Nat.le_of_ble_eq_true rfl) dX5_object_2 ⟨Nat.le_of_ble_eq_true rfl, Nat.le_of_ble_eq_true rfl⟩ (fun u1 hq1 H locs hP hD hS => ?_)
  have hu1 := hq1.symm
  subst hu1
  have hP : va_P D vwCl (kX cI cJ cZ cV cR a (k_ra C) (k_rb C) (k_vc C) (k_rc C) (k_pc C) (k_nw C) (k_n C) (k_fn C) (k_sn C) (k_kc C) (k_grp C) (k_key C) (k_srt C) (k_wt C) (k_home C) (k_drp C) (k_met C) (k_kin C) (k_alv C) (k_srs C) (k_row C) (k_sp C) (k_kis C) (k_pg C) (k_vq C) (k_rq C) (k_L C) (k_F C)) H := hP
  have hD : va_D A (kX cI cJ cZ cV cR a (k_ra C) (k_rb C) (k_vc C) (k_rc C) (k_pc C) (k_nw C) (k_n C) (k_fn C) (k_sn C) (k_kc C) (k_grp C) (k_key C) (k_srt C) (k_wt C) (k_home C) (k_drp C) (k_met C) (k_kin C) (k_alv C) (k_srs C) (k_row C) (k_sp C) (k_kis C) (k_pg C) (k_vq C) (k_rq C) (k_L C) (k_F C)) := hD
  refine lv_iload_n hx hb dX5_object_5 rfl (lv_at hl 2 rfl) ?_
  obtain hsw0 | hsw1 | hsw2 | hsw3 | hsw4 : w9 = 0 ∨ w9 = 1 ∨ w9 = 2 ∨ w9 = 3 ∨ w9 = 4 := by omega
  · refine lv_tableIn (off := 34) (tgt := 40) hx hb dX5_object_6 (by rw [hsw0]; decide) (by rw [hsw0]; decide) (by rw [hsw0]; decide) (by decide) ?_
    refine lv_aload_n hx hb dX5_object_40 rfl (lv_at hl 0 rfl) ?_
    refine va_get (ci := 5) (v := .ref (a 1)) (C := RX5) (T := TX5) (N := 10) hx hb hts hiX5 hown hK hP 0 rfl rfl 0 (by decide) hf0 (fun _ h9 => h9) rfl dX5_object_41 ?_
    refine va_get (ci := 3) (v := .ref (a 2)) (C := RX3) (T := TX3) (N := 8) hx hb hts hiX3 hown hK hP 1 rfl rfl 0 (by decide) hf1 (fun _ h9 => h9) rfl dX5_object_44 ?_
    refine lv_iload_n hx hb dX5_object_47 rfl (lv_at hl 1 rfl) ?_
    refine wa_l (i := i) (v := k_grp C i) hx hb hK hP 2 1 rfl rfl rfl (by omega) (by decide) dX5_object_48 ?_
    have hPm : va_P D vwCl (kW cI cJ cZ cV cR a C) H := by exact hP
    have hDm : va_D A (kW cI cJ cZ cV cR a C) := by exact hD
    exact W.lret (v := k_grp C i) hx hb hr (fun t ht hW => ⟨⟨_, C, rfl, ⟨by rw [objC, if_pos (by omega)], rfl⟩, gb_mk ht hW hPm hK hDm⟩, hS.F ht⟩) hS.2.2 dX5_object_49
  · refine lv_tableIn (off := 44) (tgt := 50) hx hb dX5_object_6 (by rw [hsw1]; decide) (by rw [hsw1]; decide) (by rw [hsw1]; decide) (by decide) ?_
    refine lv_aload_n hx hb dX5_object_50 rfl (lv_at hl 0 rfl) ?_
    refine va_get (ci := 5) (v := .ref (a 1)) (C := RX5) (T := TX5) (N := 10) hx hb hts hiX5 hown hK hP 0 rfl rfl 0 (by decide) hf0 (fun _ h9 => h9) rfl dX5_object_51 ?_
    refine va_get (ci := 3) (v := .ref (a 3)) (C := RX3) (T := TX3) (N := 8) hx hb hts hiX3 hown hK hP 1 rfl rfl 1 (by decide) hf2 (fun _ h9 => h9) rfl dX5_object_54 ?_
    refine lv_iload_n hx hb dX5_object_57 rfl (lv_at hl 1 rfl) ?_
    refine wa_l (i := i) (v := k_key C i) hx hb hK hP 3 1 rfl rfl rfl (by omega) (by decide) dX5_object_58 ?_
    have hPm : va_P D vwCl (kW cI cJ cZ cV cR a C) H := by exact hP
    have hDm : va_D A (kW cI cJ cZ cV cR a C) := by exact hD
    exact W.lret (v := k_key C i) hx hb hr (fun t ht hW => ⟨⟨_, C, rfl, ⟨by rw [objC, if_neg (by omega), if_pos (by omega)], rfl⟩, gb_mk ht hW hPm hK hDm⟩, hS.F ht⟩) hS.2.2 dX5_object_59
  · refine lv_tableIn (off := 54) (tgt := 60) hx hb dX5_object_6 (by rw [hsw2]; decide) (by rw [hsw2]; decide) (by rw [hsw2]; decide) (by decide) ?_
    refine lv_aload_n hx hb dX5_object_60 rfl (lv_at hl 0 rfl) ?_
    refine va_get (ci := 5) (v := .ref (a 1)) (C := RX5) (T := TX5) (N := 10) hx hb hts hiX5 hown hK hP 0 rfl rfl 0 (by decide) hf0 (fun _ h9 => h9) rfl dX5_object_61 ?_
    refine va_get (ci := 3) (v := .ref (a 4)) (C := RX3) (T := TX3) (N := 8) hx hb hts hiX3 hown hK hP 1 rfl rfl 2 (by decide) hf3 (fun _ h9 => h9) rfl dX5_object_64 ?_
    refine lv_iload_n hx hb dX5_object_67 rfl (lv_at hl 1 rfl) ?_
    refine wa_l (i := i) (v := k_srt C i) hx hb hK hP 4 1 rfl rfl rfl (by omega) (by decide) dX5_object_68 ?_
    have hPm : va_P D vwCl (kW cI cJ cZ cV cR a C) H := by exact hP
    have hDm : va_D A (kW cI cJ cZ cV cR a C) := by exact hD
    exact W.lret (v := k_srt C i) hx hb hr (fun t ht hW => ⟨⟨_, C, rfl, ⟨by rw [objC, if_neg (by omega), if_neg (by omega), if_pos (by omega)], rfl⟩, gb_mk ht hW hPm hK hDm⟩, hS.F ht⟩) hS.2.2 dX5_object_69
  · refine lv_tableIn (off := 64) (tgt := 70) hx hb dX5_object_6 (by rw [hsw3]; decide) (by rw [hsw3]; decide) (by rw [hsw3]; decide) (by decide) ?_
    refine lv_aload_n hx hb dX5_object_70 rfl (lv_at hl 0 rfl) ?_
    refine va_get (ci := 5) (v := .ref (a 1)) (C := RX5) (T := TX5) (N := 10) hx hb hts hiX5 hown hK hP 0 rfl rfl 0 (by decide) hf0 (fun _ h9 => h9) rfl dX5_object_71 ?_
    refine va_get (ci := 3) (v := .ref (a 6)) (C := RX3) (T := TX3) (N := 8) hx hb hts hiX3 hown hK hP 1 rfl rfl 4 (by decide) hf4 (fun _ h9 => h9) rfl dX5_object_74 ?_
    refine lv_iload_n hx hb dX5_object_77 rfl (lv_at hl 1 rfl) ?_
    refine wa_i (i := i) (v := zI (k_home C i)) hx hb hK hP 6 0 rfl rfl rfl (by omega) (by decide) dX5_object_78 ?_
    refine lv_i2l (v := (zI (k_home C i)).toInt64) hx hb dX5_object_79 rfl ?_
    have hPm : va_P D vwCl (kW cI cJ cZ cV cR a C) H := by exact hP
    have hDm : va_D A (kW cI cJ cZ cV cR a C) := by exact hD
    exact W.lret (v := (zI (k_home C i)).toInt64) hx hb hr (fun t ht hW => ⟨⟨_, C, rfl, ⟨by rw [objC, if_neg (by omega), if_neg (by omega), if_neg (by omega), if_pos (by omega)], rfl⟩, gb_mk ht hW hPm hK hDm⟩, hS.F ht⟩) hS.2.2 dX5_object_80
  · refine lv_tableIn (off := 75) (tgt := 81) hx hb dX5_object_6 (by rw [hsw4]; decide) (by rw [hsw4]; decide) (by rw [hsw4]; decide) (by decide) ?_
    refine lv_aload_n hx hb dX5_object_81 rfl (lv_at hl 0 rfl) ?_
    refine va_get (ci := 5) (v := .ref (a 1)) (C := RX5) (T := TX5) (N := 10) hx hb hts hiX5 hown hK hP 0 rfl rfl 0 (by decide) hf0 (fun _ h9 => h9) rfl dX5_object_82 ?_
    refine va_get (ci := 3) (v := .ref (a 7)) (C := RX3) (T := TX3) (N := 8) hx hb hts hiX3 hown hK hP 1 rfl rfl 5 (by decide) hf5 (fun _ h9 => h9) rfl dX5_object_85 ?_
    refine lv_iload_n hx hb dX5_object_88 rfl (lv_at hl 1 rfl) ?_
    refine wa_z (i := i) (v := bI (k_drp C i)) hx hb hK hP 7 2 rfl rfl rfl (by omega) (by decide) dX5_object_89 ?_
    refine wb_if_eq (tgt := 97) hx hb dX5_object_90 (by decide) (fun c90_2 => ?_) (fun c90_2 => ?_)
    · refine lv_lconst (v := 0) hx hb dX5_object_97 (by decide) ?_
      have hPm : va_P D vwCl (kW cI cJ cZ cV cR a C) H := by exact hP
      have hDm : va_D A (kW cI cJ cZ cV cR a C) := by exact hD
      exact W.lret (v := 0) hx hb hr (fun t ht hW => ⟨⟨_, C, rfl, ⟨by rw [objC, if_neg (by omega), if_neg (by omega), if_neg (by omega), if_neg (by omega), if_neg (by rw [c90_2]; decide)], rfl⟩, gb_mk ht hW hPm hK hDm⟩, hS.F ht⟩) hS.2.2 dX5_object_98
    · refine lv_lconst (v := 1) hx hb dX5_object_93 (by decide) ?_
      refine lv_goto (tgt := 98) hx hb dX5_object_94 (by decide) ?_
      have hPm : va_P D vwCl (kW cI cJ cZ cV cR a C) H := by exact hP
      have hDm : va_D A (kW cI cJ cZ cV cR a C) := by exact hD
      exact W.lret (v := 1) hx hb hr (fun t ht hW => ⟨⟨_, C, rfl, ⟨by rw [objC, if_neg (by omega), if_neg (by omega), if_neg (by omega), if_neg (by omega), if_pos c90_2], rfl⟩, gb_mk ht hW hPm hK hDm⟩, hS.F ht⟩) hS.2.2 dX5_object_98
def rmx_X5_object_o : Room := { frames := 7, cells := 1, slots := 6, locals := 103 }
set_option maxHeartbeats 4000000 in
set_option maxRecDepth 100000 in
/-- no such object -/
theorem x_X5_object_o (l : Launch) (htr : l.stackTraces = false) (D : va_G) (cI cJ cZ cV cR : ClassId) (a : Nat → Nat) (C : CT) (hM : kOk C) (x y : Int32) (hbad : x.toInt < 0 ∨ ((k_n C : Nat) : Int) ≤ x.toInt) (sz : Nat) : vx_Met l yX5_object wsX5_object rmx_X5_object_o (va_Pc [.ref (a 0), .int (x), .int (y)] (GX D (tyK cI cJ cZ cV cR) (kW cI cJ cZ cV cR a C) sz)) xNo (xXC D (tyK cI cJ cZ cV cR) "java/lang/IndexOutOfBoundsException" (fun u : CT => u = C) (kW cI cJ cZ cV cR a) (va_A (kW cI cJ cZ cV cR a C) sz)) 1 6 (va_A (kW cI cJ cZ cV cR a C) sz) := by
  obtain ⟨hn, hfn, hsn, hvc, hrc, hpc, hnw, hkc, h_home, h_kin, h_alv, h_srs, h_row, h_sp, h_kis, h_pg⟩ := id hM
  refine vx_ofW (cc := cX5_object) (maxL := 3) (ret := (some .long)) (by decide) rfl ?_
  intro p e s m args below meth c s₁ B hml hout hv
  obtain ⟨rfl, ⟨hsz, hP, hK, hD0⟩, hXE⟩ := hv
  have hx := B.exec
  have hb := B.bytes
  have hr := B.returns
  have hts := atoms_spec (ws := wsX5_object) B.pre
  have hown : s.vm.findClass RX5 = some m.cls := findClass_of_methodNamed B.named
  have hlocks := B.notSynchronized
  subst hsz
  have hD := hD0.self (sz := s.heap.size)
  generalize hAe : va_A (kW cI cJ cZ cV cR a C) s.heap.size = A at hD hXE ⊢
  have hA : ∀ q : Nat, s.heap.size ≤ q → A q := fun q h => by rw [← hAe]; exact Or.inr h
  have hS : va_S A s.heap s.heap [] := va_S.rf
  have hP : va_P D vwCl (kX cI cJ cZ cV cR a (k_ra C) (k_rb C) (k_vc C) (k_rc C) (k_pc C) (k_nw C) (k_n C) (k_fn C) (k_sn C) (k_kc C) (k_grp C) (k_key C) (k_srt C) (k_wt C) (k_home C) (k_drp C) (k_met C) (k_kin C) (k_alv C) (k_srs C) (k_row C) (k_sp C) (k_kis C) (k_pg C) (k_vq C) (k_rq C) (k_L C) (k_F C)) s.heap := hP
  have hD : va_D A (kX cI cJ cZ cV cR a (k_ra C) (k_rb C) (k_vc C) (k_rc C) (k_pc C) (k_nw C) (k_n C) (k_fn C) (k_sn C) (k_kc C) (k_grp C) (k_key C) (k_srt C) (k_wt C) (k_home C) (k_drp C) (k_met C) (k_kin C) (k_alv C) (k_srs C) (k_row C) (k_sp C) (k_kis C) (k_pg C) (k_vq C) (k_rq C) (k_L C) (k_F C)) := hD
  have hl := lv_entry ([.ref (a 0), .int (x), .int (y)]) (n := 3) (Nat.le_of_ble_eq_true rfl)
  rw [lg_entry_eq]
  generalize (lg_sl ([.ref (a 0), .int (x), .int (y)]) ++ List.replicate (3 - (lg_sl ([.ref (a 0), .int (x), .int (y)])).length) Slot.unset).toArray = ls at hl ⊢
  have hl : lv_has ls 3 [(0, .ref (a 0)), (1, .int (x)), (2, .int (y))] := hl
  refine lv_aload_n hx hb dX5_object_0 rfl (lv_at hl 0 rfl) ?_
  refine lv_iload_n hx hb dX5_object_1 rfl (lv_at hl 1 rfl) ?_
  have hPm : va_P D vwCl (kW cI cJ cZ cV cR a C) s.heap := by exact hP
  have hDm : va_D A (kW cI cJ cZ cV cR a C) := by exact hD
  refine wx_V (As := [.int (x)]) (rest := []) (wf := kW cI cJ cZ cV cR a) ⟨hx, hb, hml, hown, hts⟩ (x_X5_checkObject l htr D cI cJ cZ cV cR a C hM x hbad s.heap.size) (cwV 1 hts gX5_object_X5_checkObject rfl rfl rfl (by decide +kernel) ⟨Nat.le_of_ble_eq_true rfl, Nat.le_of_ble_eq_true rfl⟩) hPm hK hDm hS hA hXE 0 rfl rfl rfl hl.1 rfl (Nat.le_of_ble_eq_true rfl) dX5_object_2 ⟨Nat.le_of_ble_eq_true rfl, Nat.le_of_ble_eq_true rfl⟩ (fun u hu H locs ce q9 hP hD hS hce hcv hcl => ?_)
  exact vx_out (fun x h => (hout x h).elim) hlocks hce hcv hcl (xxc_eq u hu hP hK hD hS) hS.2.2 (Nat.le_refl _) (Nat.le_refl _)
def rmx_X5_object_w : Room := { frames := 6, cells := 1, slots := 6, locals := 82 }
set_option maxHeartbeats 4000000 in
set_option maxRecDepth 100000 in
/-- no such what -/
theorem x_X5_object_w (l : Launch) (htr : l.stackTraces = false) (D : va_G) (cI cJ cZ cV cR : ClassId) (a : Nat → Nat) (C : CT) (hM : kOk C) (i : Nat) (y : Int32) (hi9 : i < k_n C) (hbad : y.toInt < 0 ∨ 5 ≤ y.toInt) (sz : Nat) : vx_Met l yX5_object wsX5_object rmx_X5_object_w (va_Pc [.ref (a 0), .int (nI (i)), .int (y)] (GX D (tyK cI cJ cZ cV cR) (kW cI cJ cZ cV cR a C) sz)) xNo (xXC D (tyK cI cJ cZ cV cR) "java/lang/IndexOutOfBoundsException" (fun u : CT => u = C) (kW cI cJ cZ cV cR a) (va_A (kW cI cJ cZ cV cR a C) sz)) 1 6 (va_A (kW cI cJ cZ cV cR a C) sz) := by
  obtain ⟨hn, hfn, hsn, hvc, hrc, hpc, hnw, hkc, h_home, h_kin, h_alv, h_srs, h_row, h_sp, h_kis, h_pg⟩ := id hM
  refine vx_ofW (cc := cX5_object) (maxL := 3) (ret := (some .long)) (by decide) rfl ?_
  intro p e s m args below meth c s₁ B hml hout hv
  obtain ⟨rfl, ⟨hsz, hP, hK, hD0⟩, hXE⟩ := hv
  have hx := B.exec
  have hb := B.bytes
  have hr := B.returns
  have hts := atoms_spec (ws := wsX5_object) B.pre
  have hown : s.vm.findClass RX5 = some m.cls := findClass_of_methodNamed B.named
  have hlocks := B.notSynchronized
  subst hsz
  have hD := hD0.self (sz := s.heap.size)
  generalize hAe : va_A (kW cI cJ cZ cV cR a C) s.heap.size = A at hD hXE ⊢
  have hA : ∀ q : Nat, s.heap.size ≤ q → A q := fun q h => by rw [← hAe]; exact Or.inr h
  have hS : va_S A s.heap s.heap [] := va_S.rf
  have hP : va_P D vwCl (kX cI cJ cZ cV cR a (k_ra C) (k_rb C) (k_vc C) (k_rc C) (k_pc C) (k_nw C) (k_n C) (k_fn C) (k_sn C) (k_kc C) (k_grp C) (k_key C) (k_srt C) (k_wt C) (k_home C) (k_drp C) (k_met C) (k_kin C) (k_alv C) (k_srs C) (k_row C) (k_sp C) (k_kis C) (k_pg C) (k_vq C) (k_rq C) (k_L C) (k_F C)) s.heap := hP
  have hD : va_D A (kX cI cJ cZ cV cR a (k_ra C) (k_rb C) (k_vc C) (k_rc C) (k_pc C) (k_nw C) (k_n C) (k_fn C) (k_sn C) (k_kc C) (k_grp C) (k_key C) (k_srt C) (k_wt C) (k_home C) (k_drp C) (k_met C) (k_kin C) (k_alv C) (k_srs C) (k_row C) (k_sp C) (k_kis C) (k_pg C) (k_vq C) (k_rq C) (k_L C) (k_F C)) := hD
  have hf0 := hts (.classLink RX5 116 "java/lang/IndexOutOfBoundsException") (by decide +kernel)
  have hf1 := hts (.initialized "java/lang/IndexOutOfBoundsException") (by decide +kernel)
  have hl := lv_entry ([.ref (a 0), .int (nI (i)), .int (y)]) (n := 3) (Nat.le_of_ble_eq_true rfl)
  rw [lg_entry_eq]
  generalize (lg_sl ([.ref (a 0), .int (nI (i)), .int (y)]) ++ List.replicate (3 - (lg_sl ([.ref (a 0), .int (nI (i)), .int (y)])).length) Slot.unset).toArray = ls at hl ⊢
  have hl : lv_has ls 3 [(0, .ref (a 0)), (1, .int (nI (i))), (2, .int (y))] := hl
  refine lv_aload_n hx hb dX5_object_0 rfl (lv_at hl 0 rfl) ?_
  refine lv_iload_n hx hb dX5_object_1 rfl (lv_at hl 1 rfl) ?_
  have hPm : va_P D vwCl (kW cI cJ cZ cV cR a C) s.heap := by exact hP
  have hDm : va_D A (kW cI cJ cZ cV cR a C) := by exact hD
  refine wc_VWv (As := [.int (nI (i))]) (rest := []) (wf := kW cI cJ cZ cV cR a) ⟨hx, hb, hml, hown, hts⟩ (c_X5_checkObject l D cI cJ cZ cV cR a C hM (i) (by omega) s.heap.size) (cwV 1 hts gX5_object_X5_checkObject rfl rfl rfl (by decide +kernel) ⟨Nat.le_of_ble_eq_true rfl, Nat.le_of_ble_eq_true rfl⟩) hPm hK hDm hS hA 0 rfl rfl rfl hl.1 rfl (Nat.le_of_ble_eq_true rfl) dX5_object_2 ⟨Nat.le_of_ble_eq_true rfl, Nat.le_of_ble_eq_true rfl⟩ (fun u1 hq1 H locs hP hD hS => ?_)
  have hu1 := hq1.symm
  subst hu1
  have hP : va_P D vwCl (kX cI cJ cZ cV cR a (k_ra C) (k_rb C) (k_vc C) (k_rc C) (k_pc C) (k_nw C) (k_n C) (k_fn C) (k_sn C) (k_kc C) (k_grp C) (k_key C) (k_srt C) (k_wt C) (k_home C) (k_drp C) (k_met C) (k_kin C) (k_alv C) (k_srs C) (k_row C) (k_sp C) (k_kis C) (k_pg C) (k_vq C) (k_rq C) (k_L C) (k_F C)) H := hP
  have hD : va_D A (kX cI cJ cZ cV cR a (k_ra C) (k_rb C) (k_vc C) (k_rc C) (k_pc C) (k_nw C) (k_n C) (k_fn C) (k_sn C) (k_kc C) (k_grp C) (k_key C) (k_srt C) (k_wt C) (k_home C) (k_drp C) (k_met C) (k_kin C) (k_alv C) (k_srs C) (k_row C) (k_sp C) (k_kis C) (k_pg C) (k_vq C) (k_rq C) (k_L C) (k_F C)) := hD
  refine lv_iload_n hx hb dX5_object_5 rfl (lv_at hl 2 rfl) ?_
  refine lv_tableOut (tgt := 99) hx hb dX5_object_6 (by omega) (by decide) ?_
  have hPm : va_P D vwCl (kW cI cJ cZ cV cR a C) H := by exact hP
  have hDm : va_D A (kW cI cJ cZ cV cR a C) := by exact hD
  obtain ⟨sa, hsa⟩ := hXE.2.2.2.2 ("GroupCursors", 118, "no such what") (by decide)
  exact vx_throwS hx hb htr hown (by decide) (by decide) hf0 hf1 hsa (xat_X5_120 hXE (fun w hw => hts w (by unfold wsX5_object; simp only [List.mem_cons, List.mem_append, hw, or_true, true_or]))) xgd_X5_120 hXE.1 hXE.2.1 hS (hl.1.trans hml.symm) dX5_object_99 dX5_object_102 dX5_object_103 dX5_object_105 dX5_object_108 (fun x h => (hout x h).elim) (Nat.le_of_ble_eq_true rfl) (Nat.le_of_ble_eq_true rfl) (Nat.le_of_ble_eq_true rfl) (Nat.le_of_ble_eq_true rfl) hlocks (xxc_mk C rfl hPm hK hDm hS) hS.2.2 (Nat.le_refl _) (Nat.le_refl _)
def rm_X5_segment : Room := { frames := 1, cells := 0, slots := 0, locals := 21 }
set_option maxHeartbeats 4000000 in
set_option maxRecDepth 100000 in
/-- what a segment is -/
theorem c_X5_segment (l : Launch) (D : va_G) (cI cJ cZ cV cR : ClassId) (a : Nat → Nat) (C : CT) (hM : kOk C) (i w9 : Nat) (hi9 : i < k_sn C) (hw9 : w9 < 3) (sz : Nat) : Met l yX5_segment wsX5_segment rm_X5_segment (va_Pc [.ref (a 0), .int (nI (i)), .int (nI (w9))] (GW D (tyK cI cJ cZ cV cR) (kW cI cJ cZ cV cR a C) sz)) (va_Qi (fun rr u => rr = nI (segC C i w9) ∧ u = C) (fun u => GB D (tyK cI cJ cZ cV cR) (va_A (kW cI cJ cZ cV cR a C) sz) (kW cI cJ cZ cV cR a u)) (va_A (kW cI cJ cZ cV cR a C) sz)) 0 0 (va_A (kW cI cJ cZ cV cR a C) sz) := by
  obtain ⟨hn, hfn, hsn, hvc, hrc, hpc, hnw, hkc, h_home, h_kin, h_alv, h_srs, h_row, h_sp, h_kis, h_pg⟩ := id hM
  refine Met.ofW (cc := cX5_segment) (maxL := 3) (ret := (some .int)) (by decide) rfl ?_
  intro p e s m args below meth c s₁ B hml hv
  obtain ⟨rfl, hsz, hP, hK, hD0⟩ := hv
  have hx := B.exec
  have hb := B.bytes
  have hr := B.returns
  have hts := atoms_spec (ws := wsX5_segment) B.pre
  have hown : s.vm.findClass RX5 = some m.cls := findClass_of_methodNamed B.named
  have hlocks := B.notSynchronized
  subst hsz
  have hD := hD0.self (sz := s.heap.size)
  generalize hAe : va_A (kW cI cJ cZ cV cR a C) s.heap.size = A at hD ⊢
  have hA : ∀ q : Nat, s.heap.size ≤ q → A q := fun q h => by rw [← hAe]; exact Or.inr h
  have hS : va_S A s.heap s.heap [] := va_S.rf
  have hP : va_P D vwCl (kX cI cJ cZ cV cR a (k_ra C) (k_rb C) (k_vc C) (k_rc C) (k_pc C) (k_nw C) (k_n C) (k_fn C) (k_sn C) (k_kc C) (k_grp C) (k_key C) (k_srt C) (k_wt C) (k_home C) (k_drp C) (k_met C) (k_kin C) (k_alv C) (k_srs C) (k_row C) (k_sp C) (k_kis C) (k_pg C) (k_vq C) (k_rq C) (k_L C) (k_F C)) s.heap := hP
  have hD : va_D A (kX cI cJ cZ cV cR a (k_ra C) (k_rb C) (k_vc C) (k_rc C) (k_pc C) (k_nw C) (k_n C) (k_fn C) (k_sn C) (k_kc C) (k_grp C) (k_key C) (k_srt C) (k_wt C) (k_home C) (k_drp C) (k_met C) (k_kin C) (k_alv C) (k_srs C) (k_row C) (k_sp C) (k_kis C) (k_pg C) (k_vq C) (k_rq C) (k_L C) (k_F C)) := hD
  have hiX5 : ∀ w ∈ wsX50, w ∈ wsX5_segment := by decide +kernel
  have hiX2 : ∀ w ∈ wsX20, w ∈ wsX5_segment := by decide +kernel
  have hf0 := hts (.fieldLink RX5 19 "GroupCursors" "segments" "LGroupCursors$Segments;") (by decide +kernel)
  have hf1 := hts (.fieldLink RX5 89 "GroupCursors$Segments" "count" "I") (by decide +kernel)
  have hf2 := hts (.fieldLink RX5 79 "GroupCursors$Segments" "alive" "[I") (by decide +kernel)
  have hf3 := hts (.fieldLink RX5 128 "GroupCursors$Segments" "seers" "[I") (by decide +kernel)
  have hl := lv_entry ([.ref (a 0), .int (nI (i)), .int (nI (w9))]) (n := 3) (Nat.le_of_ble_eq_true rfl)
  rw [lg_entry_eq]
  generalize (lg_sl ([.ref (a 0), .int (nI (i)), .int (nI (w9))]) ++ List.replicate (3 - (lg_sl ([.ref (a 0), .int (nI (i)), .int (nI (w9))])).length) Slot.unset).toArray = ls at hl ⊢
  have hl : lv_has ls 3 [(0, .ref (a 0)), (1, .int (nI (i))), (2, .int (nI (w9)))] := hl
  refine lv_iload_n hx hb dX5_segment_0 rfl (lv_at hl 1 rfl) ?_
  refine wz_if_lt (tgt := 15) hx hb (((i : Nat) : Int)) (nI_z (by omega)) dX5_segment_1 (by decide) (fun c1_1 => ?_) (fun c1_1 => ?_)
  · exfalso; omega
  · refine lv_iload_n hx hb dX5_segment_4 rfl (lv_at hl 1 rfl) ?_
    refine lv_aload_n hx hb dX5_segment_5 rfl (lv_at hl 0 rfl) ?_
    refine va_get (ci := 5) (v := .ref (a 8)) (C := RX5) (T := TX5) (N := 10) hx hb hts hiX5 hown hK hP 0 rfl rfl 1 (by decide) hf0 (fun _ h9 => h9) rfl dX5_segment_6 ?_
    refine va_get (ci := 2) (v := .int (nI (k_sn C))) (C := RX2) (T := TX2) (N := 3) hx hb hts hiX2 hown hK hP 8 rfl rfl 2 (by decide) hf1 (fun _ h9 => h9) rfl dX5_segment_9 ?_
    refine wn_icmp_lt (a := i) (b := k_sn C) (tgt := 25) hx hb (nI_z (by omega)) (nI_z (by omega)) dX5_segment_12 (by decide) (fun c12_2 => ?_) (fun c12_2 => ?_)
    · refine lv_iload_n hx hb dX5_segment_25 rfl (lv_at hl 2 rfl) ?_
      obtain hsw0 | hsw1 | hsw2 : w9 = 0 ∨ w9 = 1 ∨ w9 = 2 := by omega
      · refine lv_tableIn (off := 26) (tgt := 52) hx hb dX5_segment_26 (by rw [hsw0]; decide) (by rw [hsw0]; decide) (by rw [hsw0]; decide) (by decide) ?_
        refine lv_aload_n hx hb dX5_segment_52 rfl (lv_at hl 0 rfl) ?_
        refine va_get (ci := 5) (v := .ref (a 8)) (C := RX5) (T := TX5) (N := 10) hx hb hts hiX5 hown hK hP 0 rfl rfl 1 (by decide) hf0 (fun _ h9 => h9) rfl dX5_segment_53 ?_
        refine va_get (ci := 2) (v := .ref (a 9)) (C := RX2) (T := TX2) (N := 3) hx hb hts hiX2 hown hK hP 8 rfl rfl 0 (by decide) hf2 (fun _ h9 => h9) rfl dX5_segment_56 ?_
        refine lv_iload_n hx hb dX5_segment_59 rfl (lv_at hl 1 rfl) ?_
        refine wa_i (i := i) (v := nI (k_alv C i)) hx hb hK hP 9 0 rfl rfl rfl (by omega) (by decide) dX5_segment_60 ?_
        have hPm : va_P D vwCl (kW cI cJ cZ cV cR a C) s.heap := by exact hP
        have hDm : va_D A (kW cI cJ cZ cV cR a C) := by exact hD
        exact W.iret (v := nI (k_alv C i)) hx hb hr (fun t ht hW => ⟨⟨_, C, rfl, ⟨by rw [segC, if_pos (by omega)], rfl⟩, gb_mk ht hW hPm hK hDm⟩, hS.F ht⟩) hS.2.2 dX5_segment_61
      · refine lv_tableIn (off := 36) (tgt := 62) hx hb dX5_segment_26 (by rw [hsw1]; decide) (by rw [hsw1]; decide) (by rw [hsw1]; decide) (by decide) ?_
        refine lv_aload_n hx hb dX5_segment_62 rfl (lv_at hl 0 rfl) ?_
        refine va_get (ci := 5) (v := .ref (a 8)) (C := RX5) (T := TX5) (N := 10) hx hb hts hiX5 hown hK hP 0 rfl rfl 1 (by decide) hf0 (fun _ h9 => h9) rfl dX5_segment_63 ?_
        refine lv_iload_n hx hb dX5_segment_66 rfl (lv_at hl 1 rfl) ?_
        have hPm : va_P D vwCl (kW cI cJ cZ cV cR a C) s.heap := by exact hP
        refine wc_Vi (As := [.int (nI (i))]) (rest := []) ⟨hx, hb, hml, hown, hts⟩ (c_X2_stateOf l D cI cJ cZ cV cR a C hM (i) (by omega)) (cwV 1 hts gX5_segment_X2_stateOf rfl rfl rfl (by decide +kernel) ⟨Nat.le_of_ble_eq_true rfl, Nat.le_of_ble_eq_true rfl⟩) hPm hK 8 rfl rfl rfl hl.1 rfl (Nat.le_of_ble_eq_true rfl) dX5_segment_67 ⟨Nat.zero_le _, Nat.zero_le _⟩ (fun rr hq3 => ?_)
        have hq3 : rr = nI (ssF (k_alv C) (k_srs C) i) := hq3
        subst hq3
        have hle4 : ssF (k_alv C) (k_srs C) i ≤ 2 := ssF_le _ _ _
        have hPm : va_P D vwCl (kW cI cJ cZ cV cR a C) s.heap := by exact hP
        have hDm : va_D A (kW cI cJ cZ cV cR a C) := by exact hD
        exact W.iret (v := nI (ssF (k_alv C) (k_srs C) i)) hx hb hr (fun t ht hW => ⟨⟨_, C, rfl, ⟨by rw [segC, if_neg (by omega), if_pos (by omega)], rfl⟩, gb_mk ht hW hPm hK hDm⟩, hS.F ht⟩) hS.2.2 dX5_segment_70
      · refine lv_tableIn (off := 45) (tgt := 71) hx hb dX5_segment_26 (by rw [hsw2]; decide) (by rw [hsw2]; decide) (by rw [hsw2]; decide) (by decide) ?_
        refine lv_aload_n hx hb dX5_segment_71 rfl (lv_at hl 0 rfl) ?_
        refine va_get (ci := 5) (v := .ref (a 8)) (C := RX5) (T := TX5) (N := 10) hx hb hts hiX5 hown hK hP 0 rfl rfl 1 (by decide) hf0 (fun _ h9 => h9) rfl dX5_segment_72 ?_
        refine va_get (ci := 2) (v := .ref (a 10)) (C := RX2) (T := TX2) (N := 3) hx hb hts hiX2 hown hK hP 8 rfl rfl 1 (by decide) hf3 (fun _ h9 => h9) rfl dX5_segment_75 ?_
        refine lv_iload_n hx hb dX5_segment_78 rfl (lv_at hl 1 rfl) ?_
        refine wa_i (i := i) (v := nI (k_srs C i)) hx hb hK hP 10 0 rfl rfl rfl (by omega) (by decide) dX5_segment_79 ?_
        have hPm : va_P D vwCl (kW cI cJ cZ cV cR a C) s.heap := by exact hP
        have hDm : va_D A (kW cI cJ cZ cV cR a C) := by exact hD
        exact W.iret (v := nI (k_srs C i)) hx hb hr (fun t ht hW => ⟨⟨_, C, rfl, ⟨by rw [segC, if_neg (by omega), if_neg (by omega)], rfl⟩, gb_mk ht hW hPm hK hDm⟩, hS.F ht⟩) hS.2.2 dX5_segment_80
    · exfalso; omega
def rmx_X5_segment_s : Room := { frames := 6, cells := 1, slots := 6, locals := 82 }
set_option maxHeartbeats 4000000 in
set_option maxRecDepth 100000 in
/-- no such segment -/
theorem x_X5_segment_s (l : Launch) (htr : l.stackTraces = false) (D : va_G) (cI cJ cZ cV cR : ClassId) (a : Nat → Nat) (C : CT) (hM : kOk C) (x y : Int32) (hbad : x.toInt < 0 ∨ ((k_sn C : Nat) : Int) ≤ x.toInt) (sz : Nat) : vx_Met l yX5_segment wsX5_segment rmx_X5_segment_s (va_Pc [.ref (a 0), .int (x), .int (y)] (GX D (tyK cI cJ cZ cV cR) (kW cI cJ cZ cV cR a C) sz)) xNo (xXC D (tyK cI cJ cZ cV cR) "java/lang/IndexOutOfBoundsException" (fun u : CT => u = C) (kW cI cJ cZ cV cR a) (va_A (kW cI cJ cZ cV cR a C) sz)) 1 6 (va_A (kW cI cJ cZ cV cR a C) sz) := by
  obtain ⟨hn, hfn, hsn, hvc, hrc, hpc, hnw, hkc, h_home, h_kin, h_alv, h_srs, h_row, h_sp, h_kis, h_pg⟩ := id hM
  refine vx_ofW (cc := cX5_segment) (maxL := 3) (ret := (some .int)) (by decide) rfl ?_
  intro p e s m args below meth c s₁ B hml hout hv
  obtain ⟨rfl, ⟨hsz, hP, hK, hD0⟩, hXE⟩ := hv
  have hx := B.exec
  have hb := B.bytes
  have hr := B.returns
  have hts := atoms_spec (ws := wsX5_segment) B.pre
  have hown : s.vm.findClass RX5 = some m.cls := findClass_of_methodNamed B.named
  have hlocks := B.notSynchronized
  subst hsz
  have hD := hD0.self (sz := s.heap.size)
  generalize hAe : va_A (kW cI cJ cZ cV cR a C) s.heap.size = A at hD hXE ⊢
  have hA : ∀ q : Nat, s.heap.size ≤ q → A q := fun q h => by rw [← hAe]; exact Or.inr h
  have hS : va_S A s.heap s.heap [] := va_S.rf
  have hP : va_P D vwCl (kX cI cJ cZ cV cR a (k_ra C) (k_rb C) (k_vc C) (k_rc C) (k_pc C) (k_nw C) (k_n C) (k_fn C) (k_sn C) (k_kc C) (k_grp C) (k_key C) (k_srt C) (k_wt C) (k_home C) (k_drp C) (k_met C) (k_kin C) (k_alv C) (k_srs C) (k_row C) (k_sp C) (k_kis C) (k_pg C) (k_vq C) (k_rq C) (k_L C) (k_F C)) s.heap := hP
  have hD : va_D A (kX cI cJ cZ cV cR a (k_ra C) (k_rb C) (k_vc C) (k_rc C) (k_pc C) (k_nw C) (k_n C) (k_fn C) (k_sn C) (k_kc C) (k_grp C) (k_key C) (k_srt C) (k_wt C) (k_home C) (k_drp C) (k_met C) (k_kin C) (k_alv C) (k_srs C) (k_row C) (k_sp C) (k_kis C) (k_pg C) (k_vq C) (k_rq C) (k_L C) (k_F C)) := hD
  have hiX5 : ∀ w ∈ wsX50, w ∈ wsX5_segment := by decide +kernel
  have hiX2 : ∀ w ∈ wsX20, w ∈ wsX5_segment := by decide +kernel
  have hf0 := hts (.classLink RX5 116 "java/lang/IndexOutOfBoundsException") (by decide +kernel)
  have hf1 := hts (.initialized "java/lang/IndexOutOfBoundsException") (by decide +kernel)
  have hf2 := hts (.fieldLink RX5 19 "GroupCursors" "segments" "LGroupCursors$Segments;") (by decide +kernel)
  have hf3 := hts (.fieldLink RX5 89 "GroupCursors$Segments" "count" "I") (by decide +kernel)
  have hl := lv_entry ([.ref (a 0), .int (x), .int (y)]) (n := 3) (Nat.le_of_ble_eq_true rfl)
  rw [lg_entry_eq]
  generalize (lg_sl ([.ref (a 0), .int (x), .int (y)]) ++ List.replicate (3 - (lg_sl ([.ref (a 0), .int (x), .int (y)])).length) Slot.unset).toArray = ls at hl ⊢
  have hl : lv_has ls 3 [(0, .ref (a 0)), (1, .int (x)), (2, .int (y))] := hl
  refine lv_iload_n hx hb dX5_segment_0 rfl (lv_at hl 1 rfl) ?_
  refine wz_if_lt (tgt := 15) hx hb ((x).toInt) rfl dX5_segment_1 (by decide) (fun c1_1 => ?_) (fun c1_1 => ?_)
  · have hPm : va_P D vwCl (kW cI cJ cZ cV cR a C) s.heap := by exact hP
    have hDm : va_D A (kW cI cJ cZ cV cR a C) := by exact hD
    obtain ⟨sa, hsa⟩ := hXE.2.2.2.2 ("GroupCursors", 123, "no such segment") (by decide)
    exact vx_throwS hx hb htr hown (by decide) (by decide) hf0 hf1 hsa (xat_X5_120 hXE (fun w hw => hts w (by unfold wsX5_segment; simp only [List.mem_cons, List.mem_append, hw, or_true, true_or]))) xgd_X5_120 hXE.1 hXE.2.1 hS (hl.1.trans hml.symm) dX5_segment_15 dX5_segment_18 dX5_segment_19 dX5_segment_21 dX5_segment_24 (fun x h => (hout x h).elim) (Nat.le_of_ble_eq_true rfl) (Nat.le_of_ble_eq_true rfl) (Nat.le_of_ble_eq_true rfl) (Nat.le_of_ble_eq_true rfl) hlocks (xxc_mk C rfl hPm hK hDm hS) hS.2.2 (Nat.le_refl _) (Nat.le_refl _)
  · refine lv_iload_n hx hb dX5_segment_4 rfl (lv_at hl 1 rfl) ?_
    refine lv_aload_n hx hb dX5_segment_5 rfl (lv_at hl 0 rfl) ?_
    refine va_get (ci := 5) (v := .ref (a 8)) (C := RX5) (T := TX5) (N := 10) hx hb hts hiX5 hown hK hP 0 rfl rfl 1 (by decide) hf2 (fun _ h9 => h9) rfl dX5_segment_6 ?_
    refine va_get (ci := 2) (v := .int (nI (k_sn C))) (C := RX2) (T := TX2) (N := 3) hx hb hts hiX2 hown hK hP 8 rfl rfl 2 (by decide) hf3 (fun _ h9 => h9) rfl dX5_segment_9 ?_
    refine wz_icmp_lt (tgt := 25) hx hb ((x).toInt) (((k_sn C : Nat) : Int)) rfl (nI_z (by omega)) dX5_segment_12 (by decide) (fun c12_2 => ?_) (fun c12_2 => ?_)
    · exfalso; omega
    · have hPm : va_P D vwCl (kW cI cJ cZ cV cR a C) s.heap := by exact hP
      have hDm : va_D A (kW cI cJ cZ cV cR a C) := by exact hD
      obtain ⟨sa, hsa⟩ := hXE.2.2.2.2 ("GroupCursors", 123, "no such segment") (by decide)
      exact vx_throwS hx hb htr hown (by decide) (by decide) hf0 hf1 hsa (xat_X5_120 hXE (fun w hw => hts w (by unfold wsX5_segment; simp only [List.mem_cons, List.mem_append, hw, or_true, true_or]))) xgd_X5_120 hXE.1 hXE.2.1 hS (hl.1.trans hml.symm) dX5_segment_15 dX5_segment_18 dX5_segment_19 dX5_segment_21 dX5_segment_24 (fun x h => (hout x h).elim) (Nat.le_of_ble_eq_true rfl) (Nat.le_of_ble_eq_true rfl) (Nat.le_of_ble_eq_true rfl) (Nat.le_of_ble_eq_true rfl) hlocks (xxc_mk C rfl hPm hK hDm hS) hS.2.2 (Nat.le_refl _) (Nat.le_refl _)
def rmx_X5_segment_w : Room := { frames := 6, cells := 1, slots := 6, locals := 82 }
set_option maxHeartbeats 4000000 in
set_option maxRecDepth 100000 in
/-- no such what -/
theorem x_X5_segment_w (l : Launch) (htr : l.stackTraces = false) (D : va_G) (cI cJ cZ cV cR : ClassId) (a : Nat → Nat) (C : CT) (hM : kOk C) (i : Nat) (y : Int32) (hi9 : i < k_sn C) (hbad : y.toInt < 0 ∨ 3 ≤ y.toInt) (sz : Nat) : vx_Met l yX5_segment wsX5_segment rmx_X5_segment_w (va_Pc [.ref (a 0), .int (nI (i)), .int (y)] (GX D (tyK cI cJ cZ cV cR) (kW cI cJ cZ cV cR a C) sz)) xNo (xXC D (tyK cI cJ cZ cV cR) "java/lang/IndexOutOfBoundsException" (fun u : CT => u = C) (kW cI cJ cZ cV cR a) (va_A (kW cI cJ cZ cV cR a C) sz)) 1 6 (va_A (kW cI cJ cZ cV cR a C) sz) := by
  obtain ⟨hn, hfn, hsn, hvc, hrc, hpc, hnw, hkc, h_home, h_kin, h_alv, h_srs, h_row, h_sp, h_kis, h_pg⟩ := id hM
  refine vx_ofW (cc := cX5_segment) (maxL := 3) (ret := (some .int)) (by decide) rfl ?_
  intro p e s m args below meth c s₁ B hml hout hv
  obtain ⟨rfl, ⟨hsz, hP, hK, hD0⟩, hXE⟩ := hv
  have hx := B.exec
  have hb := B.bytes
  have hr := B.returns
  have hts := atoms_spec (ws := wsX5_segment) B.pre
  have hown : s.vm.findClass RX5 = some m.cls := findClass_of_methodNamed B.named
  have hlocks := B.notSynchronized
  subst hsz
  have hD := hD0.self (sz := s.heap.size)
  generalize hAe : va_A (kW cI cJ cZ cV cR a C) s.heap.size = A at hD hXE ⊢
  have hA : ∀ q : Nat, s.heap.size ≤ q → A q := fun q h => by rw [← hAe]; exact Or.inr h
  have hS : va_S A s.heap s.heap [] := va_S.rf
  have hP : va_P D vwCl (kX cI cJ cZ cV cR a (k_ra C) (k_rb C) (k_vc C) (k_rc C) (k_pc C) (k_nw C) (k_n C) (k_fn C) (k_sn C) (k_kc C) (k_grp C) (k_key C) (k_srt C) (k_wt C) (k_home C) (k_drp C) (k_met C) (k_kin C) (k_alv C) (k_srs C) (k_row C) (k_sp C) (k_kis C) (k_pg C) (k_vq C) (k_rq C) (k_L C) (k_F C)) s.heap := hP
  have hD : va_D A (kX cI cJ cZ cV cR a (k_ra C) (k_rb C) (k_vc C) (k_rc C) (k_pc C) (k_nw C) (k_n C) (k_fn C) (k_sn C) (k_kc C) (k_grp C) (k_key C) (k_srt C) (k_wt C) (k_home C) (k_drp C) (k_met C) (k_kin C) (k_alv C) (k_srs C) (k_row C) (k_sp C) (k_kis C) (k_pg C) (k_vq C) (k_rq C) (k_L C) (k_F C)) := hD
  have hiX5 : ∀ w ∈ wsX50, w ∈ wsX5_segment := by decide +kernel
  have hiX2 : ∀ w ∈ wsX20, w ∈ wsX5_segment := by decide +kernel
  have hf0 := hts (.fieldLink RX5 19 "GroupCursors" "segments" "LGroupCursors$Segments;") (by decide +kernel)
  have hf1 := hts (.fieldLink RX5 89 "GroupCursors$Segments" "count" "I") (by decide +kernel)
  have hf2 := hts (.classLink RX5 116 "java/lang/IndexOutOfBoundsException") (by decide +kernel)
  have hf3 := hts (.initialized "java/lang/IndexOutOfBoundsException") (by decide +kernel)
  have hl := lv_entry ([.ref (a 0), .int (nI (i)), .int (y)]) (n := 3) (Nat.le_of_ble_eq_true rfl)
  rw [lg_entry_eq]
  generalize (lg_sl ([.ref (a 0), .int (nI (i)), .int (y)]) ++ List.replicate (3 - (lg_sl ([.ref (a 0), .int (nI (i)), .int (y)])).length) Slot.unset).toArray = ls at hl ⊢
  have hl : lv_has ls 3 [(0, .ref (a 0)), (1, .int (nI (i))), (2, .int (y))] := hl
  refine lv_iload_n hx hb dX5_segment_0 rfl (lv_at hl 1 rfl) ?_
  refine wz_if_lt (tgt := 15) hx hb (((i : Nat) : Int)) (nI_z (by omega)) dX5_segment_1 (by decide) (fun c1_1 => ?_) (fun c1_1 => ?_)
  · exfalso; omega
  · refine lv_iload_n hx hb dX5_segment_4 rfl (lv_at hl 1 rfl) ?_
    refine lv_aload_n hx hb dX5_segment_5 rfl (lv_at hl 0 rfl) ?_
    refine va_get (ci := 5) (v := .ref (a 8)) (C := RX5) (T := TX5) (N := 10) hx hb hts hiX5 hown hK hP 0 rfl rfl 1 (by decide) hf0 (fun _ h9 => h9) rfl dX5_segment_6 ?_
    refine va_get (ci := 2) (v := .int (nI (k_sn C))) (C := RX2) (T := TX2) (N := 3) hx hb hts hiX2 hown hK hP 8 rfl rfl 2 (by decide) hf1 (fun _ h9 => h9) rfl dX5_segment_9 ?_
    refine wn_icmp_lt (a := i) (b := k_sn C) (tgt := 25) hx hb (nI_z (by omega)) (nI_z (by omega)) dX5_segment_12 (by decide) (fun c12_2 => ?_) (fun c12_2 => ?_)
    · refine lv_iload_n hx hb dX5_segment_25 rfl (lv_at hl 2 rfl) ?_
      refine lv_tableOut (tgt := 81) hx hb dX5_segment_26 (by omega) (by decide) ?_
      have hPm : va_P D vwCl (kW cI cJ cZ cV cR a C) s.heap := by exact hP
      have hDm : va_D A (kW cI cJ cZ cV cR a C) := by exact hD
      obtain ⟨sa, hsa⟩ := hXE.2.2.2.2 ("GroupCursors", 118, "no such what") (by decide)
      exact vx_throwS hx hb htr hown (by decide) (by decide) hf2 hf3 hsa (xat_X5_120 hXE (fun w hw => hts w (by unfold wsX5_segment; simp only [List.mem_cons, List.mem_append, hw, or_true, true_or]))) xgd_X5_120 hXE.1 hXE.2.1 hS (hl.1.trans hml.symm) dX5_segment_81 dX5_segment_84 dX5_segment_85 dX5_segment_87 dX5_segment_90 (fun x h => (hout x h).elim) (Nat.le_of_ble_eq_true rfl) (Nat.le_of_ble_eq_true rfl) (Nat.le_of_ble_eq_true rfl) (Nat.le_of_ble_eq_true rfl) hlocks (xxc_mk C rfl hPm hK hDm hS) hS.2.2 (Nat.le_refl _) (Nat.le_refl _)
    · exfalso; omega
def rm_X5_page : Room := { frames := 0, cells := 0, slots := 0, locals := 0 }
set_option maxHeartbeats 4000000 in
set_option maxRecDepth 100000 in
/-- an object of the page -/
theorem c_X5_page (l : Launch) (D : va_G) (cI cJ cZ cV cR : ClassId) (a : Nat → Nat) (C : CT) (hM : kOk C) (i : Nat) (hi9 : i < k_pc C) (sz : Nat) : Met l yX5_page wsX5_page rm_X5_page (va_Pc [.ref (a 0), .int (nI (i))] (GW D (tyK cI cJ cZ cV cR) (kW cI cJ cZ cV cR a C) sz)) (va_Qi (fun rr u => rr = nI (k_pg C i) ∧ u = C) (fun u => GB D (tyK cI cJ cZ cV cR) (va_A (kW cI cJ cZ cV cR a C) sz) (kW cI cJ cZ cV cR a u)) (va_A (kW cI cJ cZ cV cR a C) sz)) 0 0 (va_A (kW cI cJ cZ cV cR a C) sz) := by
  obtain ⟨hn, hfn, hsn, hvc, hrc, hpc, hnw, hkc, h_home, h_kin, h_alv, h_srs, h_row, h_sp, h_kis, h_pg⟩ := id hM
  refine Met.ofW (cc := cX5_page) (maxL := 2) (ret := (some .int)) (by decide) rfl ?_
  intro p e s m args below meth c s₁ B hml hv
  obtain ⟨rfl, hsz, hP, hK, hD0⟩ := hv
  have hx := B.exec
  have hb := B.bytes
  have hr := B.returns
  have hts := atoms_spec (ws := wsX5_page) B.pre
  have hown : s.vm.findClass RX5 = some m.cls := findClass_of_methodNamed B.named
  have hlocks := B.notSynchronized
  subst hsz
  have hD := hD0.self (sz := s.heap.size)
  generalize hAe : va_A (kW cI cJ cZ cV cR a C) s.heap.size = A at hD ⊢
  have hA : ∀ q : Nat, s.heap.size ≤ q → A q := fun q h => by rw [← hAe]; exact Or.inr h
  have hS : va_S A s.heap s.heap [] := va_S.rf
  have hP : va_P D vwCl (kX cI cJ cZ cV cR a (k_ra C) (k_rb C) (k_vc C) (k_rc C) (k_pc C) (k_nw C) (k_n C) (k_fn C) (k_sn C) (k_kc C) (k_grp C) (k_key C) (k_srt C) (k_wt C) (k_home C) (k_drp C) (k_met C) (k_kin C) (k_alv C) (k_srs C) (k_row C) (k_sp C) (k_kis C) (k_pg C) (k_vq C) (k_rq C) (k_L C) (k_F C)) s.heap := hP
  have hD : va_D A (kX cI cJ cZ cV cR a (k_ra C) (k_rb C) (k_vc C) (k_rc C) (k_pc C) (k_nw C) (k_n C) (k_fn C) (k_sn C) (k_kc C) (k_grp C) (k_key C) (k_srt C) (k_wt C) (k_home C) (k_drp C) (k_met C) (k_kin C) (k_alv C) (k_srs C) (k_row C) (k_sp C) (k_kis C) (k_pg C) (k_vq C) (k_rq C) (k_L C) (k_F C)) := hD
  have hiX5 : ∀ w ∈ wsX50, w ∈ wsX5_page := by decide +kernel
  have hf0 := hts (.fieldLink RX5 55 "GroupCursors" "pageCount" "I") (by decide +kernel)
  have hf1 := hts (.fieldLink RX5 51 "GroupCursors" "pageRow" "[I") (by decide +kernel)
  have hl := lv_entry ([.ref (a 0), .int (nI (i))]) (n := 2) (Nat.le_of_ble_eq_true rfl)
  rw [lg_entry_eq]
  generalize (lg_sl ([.ref (a 0), .int (nI (i))]) ++ List.replicate (2 - (lg_sl ([.ref (a 0), .int (nI (i))])).length) Slot.unset).toArray = ls at hl ⊢
  have hl : lv_has ls 2 [(0, .ref (a 0)), (1, .int (nI (i)))] := hl
  refine lv_iload_n hx hb dX5_page_0 rfl (lv_at hl 1 rfl) ?_
  refine wz_if_lt (tgt := 12) hx hb (((i : Nat) : Int)) (nI_z (by omega)) dX5_page_1 (by decide) (fun c1_1 => ?_) (fun c1_1 => ?_)
  · exfalso; omega
  · refine lv_iload_n hx hb dX5_page_4 rfl (lv_at hl 1 rfl) ?_
    refine lv_aload_n hx hb dX5_page_5 rfl (lv_at hl 0 rfl) ?_
    refine va_get (ci := 5) (v := .int (nI (k_pc C))) (C := RX5) (T := TX5) (N := 10) hx hb hts hiX5 hown hK hP 0 rfl rfl 8 (by decide) hf0 (fun _ h9 => h9) rfl dX5_page_6 ?_
    refine wn_icmp_lt (a := i) (b := k_pc C) (tgt := 23) hx hb (nI_z (by omega)) (nI_z (by omega)) dX5_page_9 (by decide) (fun c9_2 => ?_) (fun c9_2 => ?_)
    · refine lv_aload_n hx hb dX5_page_23 rfl (lv_at hl 0 rfl) ?_
      refine va_get (ci := 5) (v := .ref (a 19)) (C := RX5) (T := TX5) (N := 10) hx hb hts hiX5 hown hK hP 0 rfl rfl 7 (by decide) hf1 (fun _ h9 => h9) rfl dX5_page_24 ?_
      refine lv_iload_n hx hb dX5_page_27 rfl (lv_at hl 1 rfl) ?_
      refine wa_i (i := i) (v := nI (k_pg C i)) hx hb hK hP 19 0 rfl rfl rfl (by omega) (by decide) dX5_page_28 ?_
      have hPm : va_P D vwCl (kW cI cJ cZ cV cR a C) s.heap := by exact hP
      have hDm : va_D A (kW cI cJ cZ cV cR a C) := by exact hD
      exact W.iret (v := nI (k_pg C i)) hx hb hr (fun t ht hW => ⟨⟨_, C, rfl, ⟨rfl, rfl⟩, gb_mk ht hW hPm hK hDm⟩, hS.F ht⟩) hS.2.2 dX5_page_29
    · exfalso; omega
def rmx_X5_page : Room := { frames := 6, cells := 1, slots := 6, locals := 82 }
set_option maxHeartbeats 4000000 in
set_option maxRecDepth 100000 in
/-- the page has no such object -/
theorem x_X5_page (l : Launch) (htr : l.stackTraces = false) (D : va_G) (cI cJ cZ cV cR : ClassId) (a : Nat → Nat) (C : CT) (hM : kOk C) (x : Int32) (hbad : x.toInt < 0 ∨ ((k_pc C : Nat) : Int) ≤ x.toInt) (sz : Nat) : vx_Met l yX5_page wsX5_page rmx_X5_page (va_Pc [.ref (a 0), .int (x)] (GX D (tyK cI cJ cZ cV cR) (kW cI cJ cZ cV cR a C) sz)) xNo (xXC D (tyK cI cJ cZ cV cR) "java/lang/IndexOutOfBoundsException" (fun u : CT => u = C) (kW cI cJ cZ cV cR a) (va_A (kW cI cJ cZ cV cR a C) sz)) 1 6 (va_A (kW cI cJ cZ cV cR a C) sz) := by
  obtain ⟨hn, hfn, hsn, hvc, hrc, hpc, hnw, hkc, h_home, h_kin, h_alv, h_srs, h_row, h_sp, h_kis, h_pg⟩ := id hM
  refine vx_ofW (cc := cX5_page) (maxL := 2) (ret := (some .int)) (by decide) rfl ?_
  intro p e s m args below meth c s₁ B hml hout hv
  obtain ⟨rfl, ⟨hsz, hP, hK, hD0⟩, hXE⟩ := hv
  have hx := B.exec
  have hb := B.bytes
  have hr := B.returns
  have hts := atoms_spec (ws := wsX5_page) B.pre
  have hown : s.vm.findClass RX5 = some m.cls := findClass_of_methodNamed B.named
  have hlocks := B.notSynchronized
  subst hsz
  have hD := hD0.self (sz := s.heap.size)
  generalize hAe : va_A (kW cI cJ cZ cV cR a C) s.heap.size = A at hD hXE ⊢
  have hA : ∀ q : Nat, s.heap.size ≤ q → A q := fun q h => by rw [← hAe]; exact Or.inr h
  have hS : va_S A s.heap s.heap [] := va_S.rf
  have hP : va_P D vwCl (kX cI cJ cZ cV cR a (k_ra C) (k_rb C) (k_vc C) (k_rc C) (k_pc C) (k_nw C) (k_n C) (k_fn C) (k_sn C) (k_kc C) (k_grp C) (k_key C) (k_srt C) (k_wt C) (k_home C) (k_drp C) (k_met C) (k_kin C) (k_alv C) (k_srs C) (k_row C) (k_sp C) (k_kis C) (k_pg C) (k_vq C) (k_rq C) (k_L C) (k_F C)) s.heap := hP
  have hD : va_D A (kX cI cJ cZ cV cR a (k_ra C) (k_rb C) (k_vc C) (k_rc C) (k_pc C) (k_nw C) (k_n C) (k_fn C) (k_sn C) (k_kc C) (k_grp C) (k_key C) (k_srt C) (k_wt C) (k_home C) (k_drp C) (k_met C) (k_kin C) (k_alv C) (k_srs C) (k_row C) (k_sp C) (k_kis C) (k_pg C) (k_vq C) (k_rq C) (k_L C) (k_F C)) := hD
  have hiX5 : ∀ w ∈ wsX50, w ∈ wsX5_page := by decide +kernel
  have hf0 := hts (.classLink RX5 116 "java/lang/IndexOutOfBoundsException") (by decide +kernel)
  have hf1 := hts (.initialized "java/lang/IndexOutOfBoundsException") (by decide +kernel)
  have hf2 := hts (.fieldLink RX5 55 "GroupCursors" "pageCount" "I") (by decide +kernel)
  have hl := lv_entry ([.ref (a 0), .int (x)]) (n := 2) (Nat.le_of_ble_eq_true rfl)
  rw [lg_entry_eq]
  generalize (lg_sl ([.ref (a 0), .int (x)]) ++ List.replicate (2 - (lg_sl ([.ref (a 0), .int (x)])).length) Slot.unset).toArray = ls at hl ⊢
  have hl : lv_has ls 2 [(0, .ref (a 0)), (1, .int (x))] := hl
  refine lv_iload_n hx hb dX5_page_0 rfl (lv_at hl 1 rfl) ?_
  refine wz_if_lt (tgt := 12) hx hb ((x).toInt) rfl dX5_page_1 (by decide) (fun c1_1 => ?_) (fun c1_1 => ?_)
  · have hPm : va_P D vwCl (kW cI cJ cZ cV cR a C) s.heap := by exact hP
    have hDm : va_D A (kW cI cJ cZ cV cR a C) := by exact hD
    obtain ⟨sa, hsa⟩ := hXE.2.2.2.2 ("GroupCursors", 263, "the page has no such object") (by decide)
    exact vx_throwSW hx hb htr hown (by decide) (by decide) hf0 hf1 hsa (xat_X5_120 hXE (fun w hw => hts w (by unfold wsX5_page; simp only [List.mem_cons, List.mem_append, hw, or_true, true_or]))) xgd_X5_120 hXE.1 hXE.2.1 hS (hl.1.trans hml.symm) dX5_page_12 dX5_page_15 dX5_page_16 dX5_page_19 dX5_page_22 (fun x h => (hout x h).elim) (Nat.le_of_ble_eq_true rfl) (Nat.le_of_ble_eq_true rfl) (Nat.le_of_ble_eq_true rfl) (Nat.le_of_ble_eq_true rfl) hlocks (xxc_mk C rfl hPm hK hDm hS) hS.2.2 (Nat.le_refl _) (Nat.le_refl _)
  · refine lv_iload_n hx hb dX5_page_4 rfl (lv_at hl 1 rfl) ?_
    refine lv_aload_n hx hb dX5_page_5 rfl (lv_at hl 0 rfl) ?_
    refine va_get (ci := 5) (v := .int (nI (k_pc C))) (C := RX5) (T := TX5) (N := 10) hx hb hts hiX5 hown hK hP 0 rfl rfl 8 (by decide) hf2 (fun _ h9 => h9) rfl dX5_page_6 ?_
    refine wz_icmp_lt (tgt := 23) hx hb ((x).toInt) (((k_pc C : Nat) : Int)) rfl (nI_z (by omega)) dX5_page_9 (by decide) (fun c9_2 => ?_) (fun c9_2 => ?_)
    · exfalso; omega
    · have hPm : va_P D vwCl (kW cI cJ cZ cV cR a C) s.heap := by exact hP
      have hDm : va_D A (kW cI cJ cZ cV cR a C) := by exact hD
      obtain ⟨sa, hsa⟩ := hXE.2.2.2.2 ("GroupCursors", 263, "the page has no such object") (by decide)
      exact vx_throwSW hx hb htr hown (by decide) (by decide) hf0 hf1 hsa (xat_X5_120 hXE (fun w hw => hts w (by unfold wsX5_page; simp only [List.mem_cons, List.mem_append, hw, or_true, true_or]))) xgd_X5_120 hXE.1 hXE.2.1 hS (hl.1.trans hml.symm) dX5_page_12 dX5_page_15 dX5_page_16 dX5_page_19 dX5_page_22 (fun x h => (hout x h).elim) (Nat.le_of_ble_eq_true rfl) (Nat.le_of_ble_eq_true rfl) (Nat.le_of_ble_eq_true rfl) (Nat.le_of_ble_eq_true rfl) hlocks (xxc_mk C rfl hPm hK hDm hS) hS.2.2 (Nat.le_refl _) (Nat.le_refl _)
def rm_X5_state : Room := { frames := 1, cells := 0, slots := 0, locals := 22 }
set_option maxHeartbeats 4000000 in
set_option maxRecDepth 100000 in
/-- of a view -/
theorem c_X5_state (l : Launch) (D : va_G) (cI cJ cZ cV cR : ClassId) (a : Nat → Nat) (C : CT) (hM : kOk C) (q hs se c9 g9 st9 r9 n9 : Nat) (f9 : Nat → Nat) (hV : isV (k_L C) (k_F C) q hs se c9 g9 st9 r9) (hI : isI cI (k_L C) (k_F C) hs n9 f9) (hc9 : c9 ≤ n9) (hn9 : n9 ≤ 300) (hg9 : g9 ≤ 300) (hst9 : st9 ≤ 2) (hr9 : r9 ≤ 60) (hf9 : ∀ j, f9 j < 300) (i : Nat) (hi9 : i < k_vc C) (hq9 : k_vq C i = some q) (sz : Nat) : Met l yX5_state wsX5_state rm_X5_state (va_Pc [.ref (a 0), .int (nI (i))] (GW D (tyK cI cJ cZ cV cR) (kW cI cJ cZ cV cR a C) sz)) (va_Qi (fun rr u => rr = nI st9 ∧ u = C) (fun u => GB D (tyK cI cJ cZ cV cR) (va_A (kW cI cJ cZ cV cR a C) sz) (kW cI cJ cZ cV cR a u)) (va_A (kW cI cJ cZ cV cR a C) sz)) 0 0 (va_A (kW cI cJ cZ cV cR a C) sz) := by
  obtain ⟨hn, hfn, hsn, hvc, hrc, hpc, hnw, hkc, h_home, h_kin, h_alv, h_srs, h_row, h_sp, h_kis, h_pg⟩ := id hM
  refine Met.ofW (cc := cX5_state) (maxL := 2) (ret := (some .int)) (by decide) rfl ?_
  intro p e s m args below meth c s₁ B hml hv
  obtain ⟨rfl, hsz, hP, hK, hD0⟩ := hv
  have hx := B.exec
  have hb := B.bytes
  have hr := B.returns
  have hts := atoms_spec (ws := wsX5_state) B.pre
  have hown : s.vm.findClass RX5 = some m.cls := findClass_of_methodNamed B.named
  have hlocks := B.notSynchronized
  subst hsz
  have hD := hD0.self (sz := s.heap.size)
  generalize hAe : va_A (kW cI cJ cZ cV cR a C) s.heap.size = A at hD ⊢
  have hA : ∀ q : Nat, s.heap.size ≤ q → A q := fun q h => by rw [← hAe]; exact Or.inr h
  have hS : va_S A s.heap s.heap [] := va_S.rf
  have hP : va_P D vwCl (kX cI cJ cZ cV cR a (k_ra C) (k_rb C) (k_vc C) (k_rc C) (k_pc C) (k_nw C) (k_n C) (k_fn C) (k_sn C) (k_kc C) (k_grp C) (k_key C) (k_srt C) (k_wt C) (k_home C) (k_drp C) (k_met C) (k_kin C) (k_alv C) (k_srs C) (k_row C) (k_sp C) (k_kis C) (k_pg C) (k_vq C) (k_rq C) (k_L C) (k_F C)) s.heap := hP
  have hD : va_D A (kX cI cJ cZ cV cR a (k_ra C) (k_rb C) (k_vc C) (k_rc C) (k_pc C) (k_nw C) (k_n C) (k_fn C) (k_sn C) (k_kc C) (k_grp C) (k_key C) (k_srt C) (k_wt C) (k_home C) (k_drp C) (k_met C) (k_kin C) (k_alv C) (k_srs C) (k_row C) (k_sp C) (k_kis C) (k_pg C) (k_vq C) (k_rq C) (k_L C) (k_F C)) := hD
  have hiX4 : ∀ w ∈ wsX40, w ∈ wsX5_state := by decide +kernel
  have hf0 := hts (.fieldLink RX5 157 "GroupCursors$View" "state" "I") (by decide +kernel)
  have hl := lv_entry ([.ref (a 0), .int (nI (i))]) (n := 2) (Nat.le_of_ble_eq_true rfl)
  rw [lg_entry_eq]
  generalize (lg_sl ([.ref (a 0), .int (nI (i))]) ++ List.replicate (2 - (lg_sl ([.ref (a 0), .int (nI (i))])).length) Slot.unset).toArray = ls at hl ⊢
  have hl : lv_has ls 2 [(0, .ref (a 0)), (1, .int (nI (i)))] := hl
  refine lv_aload_n hx hb dX5_state_0 rfl (lv_at hl 0 rfl) ?_
  refine lv_iload_n hx hb dX5_state_1 rfl (lv_at hl 1 rfl) ?_
  have hPm : va_P D vwCl (kW cI cJ cZ cV cR a C) s.heap := by exact hP
  have hDm : va_D A (kW cI cJ cZ cV cR a C) := by exact hD
  refine wc_VWr (As := [.int (nI (i))]) (rest := []) (ra := Prod.fst) (wf := fun u => kW cI cJ cZ cV cR a u.2) ⟨hx, hb, hml, hown, hts⟩ (c_X5_viewAt l D cI cJ cZ cV cR a C hM (i) (q) (by omega) hq9 s.heap.size) (cwV 1 hts gX5_state_X5_viewAt rfl rfl rfl (by decide +kernel) ⟨Nat.le_of_ble_eq_true rfl, Nat.le_of_ble_eq_true rfl⟩) hPm hK hDm hS hA 0 rfl rfl rfl hl.1 rfl (Nat.le_of_ble_eq_true rfl) dX5_state_2 ⟨Nat.le_of_ble_eq_true rfl, Nat.le_of_ble_eq_true rfl⟩ (fun u1 hq1 H locs hP hD hS => ?_)
  have hu1 := hq1
  subst hu1
  have hP : va_P D vwCl (kX cI cJ cZ cV cR a (k_ra C) (k_rb C) (k_vc C) (k_rc C) (k_pc C) (k_nw C) (k_n C) (k_fn C) (k_sn C) (k_kc C) (k_grp C) (k_key C) (k_srt C) (k_wt C) (k_home C) (k_drp C) (k_met C) (k_kin C) (k_alv C) (k_srs C) (k_row C) (k_sp C) (k_kis C) (k_pg C) (k_vq C) (k_rq C) (k_L C) (k_F C)) H := hP
  have hD : va_D A (kX cI cJ cZ cV cR a (k_ra C) (k_rb C) (k_vc C) (k_rc C) (k_pc C) (k_nw C) (k_n C) (k_fn C) (k_sn C) (k_kc C) (k_grp C) (k_key C) (k_srt C) (k_wt C) (k_home C) (k_drp C) (k_met C) (k_kin C) (k_alv C) (k_srs C) (k_row C) (k_sp C) (k_kis C) (k_pg C) (k_vq C) (k_rq C) (k_L C) (k_F C)) := hD
  refine wp_get (ci := 4) (v := .int (nI (st9))) (C := RX4) (T := TX4) (N := 6) hx hb hts hiX4 hown hK hP hV.1 hV.2 rfl 4 (by decide) hf0 (fun _ h9 => h9) rfl dX5_state_5 ?_
  have hPm : va_P D vwCl (kW cI cJ cZ cV cR a C) H := by exact hP
  have hDm : va_D A (kW cI cJ cZ cV cR a C) := by exact hD
  exact W.iret (v := nI (st9)) hx hb hr (fun t ht hW => ⟨⟨_, C, rfl, ⟨rfl, rfl⟩, gb_mk ht hW hPm hK hDm⟩, hS.F ht⟩) hS.2.2 dX5_state_8
def rmx_X5_state : Room := { frames := 7, cells := 1, slots := 6, locals := 104 }
set_option maxHeartbeats 4000000 in
set_option maxRecDepth 100000 in
/-- no such view -/
theorem x_X5_state (l : Launch) (htr : l.stackTraces = false) (D : va_G) (cI cJ cZ cV cR : ClassId) (a : Nat → Nat) (C : CT) (hM : kOk C) (x : Int32) (hbad : x.toInt < 0 ∨ ((k_vc C : Nat) : Int) ≤ x.toInt) (sz : Nat) : vx_Met l yX5_state wsX5_state rmx_X5_state (va_Pc [.ref (a 0), .int (x)] (GX D (tyK cI cJ cZ cV cR) (kW cI cJ cZ cV cR a C) sz)) xNo (xXC D (tyK cI cJ cZ cV cR) "java/lang/IndexOutOfBoundsException" (fun u : CT => u = C) (kW cI cJ cZ cV cR a) (va_A (kW cI cJ cZ cV cR a C) sz)) 1 6 (va_A (kW cI cJ cZ cV cR a C) sz) := by
  obtain ⟨hn, hfn, hsn, hvc, hrc, hpc, hnw, hkc, h_home, h_kin, h_alv, h_srs, h_row, h_sp, h_kis, h_pg⟩ := id hM
  refine vx_ofW (cc := cX5_state) (maxL := 2) (ret := (some .int)) (by decide) rfl ?_
  intro p e s m args below meth c s₁ B hml hout hv
  obtain ⟨rfl, ⟨hsz, hP, hK, hD0⟩, hXE⟩ := hv
  have hx := B.exec
  have hb := B.bytes
  have hr := B.returns
  have hts := atoms_spec (ws := wsX5_state) B.pre
  have hown : s.vm.findClass RX5 = some m.cls := findClass_of_methodNamed B.named
  have hlocks := B.notSynchronized
  subst hsz
  have hD := hD0.self (sz := s.heap.size)
  generalize hAe : va_A (kW cI cJ cZ cV cR a C) s.heap.size = A at hD hXE ⊢
  have hA : ∀ q : Nat, s.heap.size ≤ q → A q := fun q h => by rw [← hAe]; exact Or.inr h
  have hS : va_S A s.heap s.heap [] := va_S.rf
  have hP : va_P D vwCl (kX cI cJ cZ cV cR a (k_ra C) (k_rb C) (k_vc C) (k_rc C) (k_pc C) (k_nw C) (k_n C) (k_fn C) (k_sn C) (k_kc C) (k_grp C) (k_key C) (k_srt C) (k_wt C) (k_home C) (k_drp C) (k_met C) (k_kin C) (k_alv C) (k_srs C) (k_row C) (k_sp C) (k_kis C) (k_pg C) (k_vq C) (k_rq C) (k_L C) (k_F C)) s.heap := hP
  have hD : va_D A (kX cI cJ cZ cV cR a (k_ra C) (k_rb C) (k_vc C) (k_rc C) (k_pc C) (k_nw C) (k_n C) (k_fn C) (k_sn C) (k_kc C) (k_grp C) (k_key C) (k_srt C) (k_wt C) (k_home C) (k_drp C) (k_met C) (k_kin C) (k_alv C) (k_srs C) (k_row C) (k_sp C) (k_kis C) (k_pg C) (k_vq C) (k_rq C) (k_L C) (k_F C)) := hD
  have hl := lv_entry ([.ref (a 0), .int (x)]) (n := 2) (Nat.le_of_ble_eq_true rfl)
  rw [lg_entry_eq]
  generalize (lg_sl ([.ref (a 0), .int (x)]) ++ List.replicate (2 - (lg_sl ([.ref (a 0), .int (x)])).length) Slot.unset).toArray = ls at hl ⊢
  have hl : lv_has ls 2 [(0, .ref (a 0)), (1, .int (x))] := hl
  refine lv_aload_n hx hb dX5_state_0 rfl (lv_at hl 0 rfl) ?_
  refine lv_iload_n hx hb dX5_state_1 rfl (lv_at hl 1 rfl) ?_
  have hPm : va_P D vwCl (kW cI cJ cZ cV cR a C) s.heap := by exact hP
  have hDm : va_D A (kW cI cJ cZ cV cR a C) := by exact hD
  refine wx_V (As := [.int (x)]) (rest := []) (wf := kW cI cJ cZ cV cR a) ⟨hx, hb, hml, hown, hts⟩ (x_X5_viewAt l htr D cI cJ cZ cV cR a C hM x hbad s.heap.size) (cwV 1 hts gX5_state_X5_viewAt rfl rfl rfl (by decide +kernel) ⟨Nat.le_of_ble_eq_true rfl, Nat.le_of_ble_eq_true rfl⟩) hPm hK hDm hS hA hXE 0 rfl rfl rfl hl.1 rfl (Nat.le_of_ble_eq_true rfl) dX5_state_2 ⟨Nat.le_of_ble_eq_true rfl, Nat.le_of_ble_eq_true rfl⟩ (fun u hu H locs ce q9 hP hD hS hce hcv hcl => ?_)
  exact vx_out (fun x h => (hout x h).elim) hlocks hce hcv hcl (xxc_eq u hu hP hK hD hS) hS.2.2 (Nat.le_refl _) (Nat.le_refl _)
def rm_X5_size : Room := { frames := 1, cells := 0, slots := 0, locals := 22 }
set_option maxHeartbeats 4000000 in
set_option maxRecDepth 100000 in
/-- of a view -/
theorem c_X5_size (l : Launch) (D : va_G) (cI cJ cZ cV cR : ClassId) (a : Nat → Nat) (C : CT) (hM : kOk C) (q hs se c9 g9 st9 r9 n9 : Nat) (f9 : Nat → Nat) (hV : isV (k_L C) (k_F C) q hs se c9 g9 st9 r9) (hI : isI cI (k_L C) (k_F C) hs n9 f9) (hc9 : c9 ≤ n9) (hn9 : n9 ≤ 300) (hg9 : g9 ≤ 300) (hst9 : st9 ≤ 2) (hr9 : r9 ≤ 60) (hf9 : ∀ j, f9 j < 300) (i : Nat) (hi9 : i < k_vc C) (hq9 : k_vq C i = some q) (sz : Nat) : Met l yX5_size wsX5_size rm_X5_size (va_Pc [.ref (a 0), .int (nI (i))] (GW D (tyK cI cJ cZ cV cR) (kW cI cJ cZ cV cR a C) sz)) (va_Qi (fun rr u => rr = nI c9 ∧ u = C) (fun u => GB D (tyK cI cJ cZ cV cR) (va_A (kW cI cJ cZ cV cR a C) sz) (kW cI cJ cZ cV cR a u)) (va_A (kW cI cJ cZ cV cR a C) sz)) 0 0 (va_A (kW cI cJ cZ cV cR a C) sz) := by
  obtain ⟨hn, hfn, hsn, hvc, hrc, hpc, hnw, hkc, h_home, h_kin, h_alv, h_srs, h_row, h_sp, h_kis, h_pg⟩ := id hM
  refine Met.ofW (cc := cX5_size) (maxL := 2) (ret := (some .int)) (by decide) rfl ?_
  intro p e s m args below meth c s₁ B hml hv
  obtain ⟨rfl, hsz, hP, hK, hD0⟩ := hv
  have hx := B.exec
  have hb := B.bytes
  have hr := B.returns
  have hts := atoms_spec (ws := wsX5_size) B.pre
  have hown : s.vm.findClass RX5 = some m.cls := findClass_of_methodNamed B.named
  have hlocks := B.notSynchronized
  subst hsz
  have hD := hD0.self (sz := s.heap.size)
  generalize hAe : va_A (kW cI cJ cZ cV cR a C) s.heap.size = A at hD ⊢
  have hA : ∀ q : Nat, s.heap.size ≤ q → A q := fun q h => by rw [← hAe]; exact Or.inr h
  have hS : va_S A s.heap s.heap [] := va_S.rf
  have hP : va_P D vwCl (kX cI cJ cZ cV cR a (k_ra C) (k_rb C) (k_vc C) (k_rc C) (k_pc C) (k_nw C) (k_n C) (k_fn C) (k_sn C) (k_kc C) (k_grp C) (k_key C) (k_srt C) (k_wt C) (k_home C) (k_drp C) (k_met C) (k_kin C) (k_alv C) (k_srs C) (k_row C) (k_sp C) (k_kis C) (k_pg C) (k_vq C) (k_rq C) (k_L C) (k_F C)) s.heap := hP
  have hD : va_D A (kX cI cJ cZ cV cR a (k_ra C) (k_rb C) (k_vc C) (k_rc C) (k_pc C) (k_nw C) (k_n C) (k_fn C) (k_sn C) (k_kc C) (k_grp C) (k_key C) (k_srt C) (k_wt C) (k_home C) (k_drp C) (k_met C) (k_kin C) (k_alv C) (k_srs C) (k_row C) (k_sp C) (k_kis C) (k_pg C) (k_vq C) (k_rq C) (k_L C) (k_F C)) := hD
  have hiX4 : ∀ w ∈ wsX40, w ∈ wsX5_size := by decide +kernel
  have hf0 := hts (.fieldLink RX5 164 "GroupCursors$View" "count" "I") (by decide +kernel)
  have hl := lv_entry ([.ref (a 0), .int (nI (i))]) (n := 2) (Nat.le_of_ble_eq_true rfl)
  rw [lg_entry_eq]
  generalize (lg_sl ([.ref (a 0), .int (nI (i))]) ++ List.replicate (2 - (lg_sl ([.ref (a 0), .int (nI (i))])).length) Slot.unset).toArray = ls at hl ⊢
  have hl : lv_has ls 2 [(0, .ref (a 0)), (1, .int (nI (i)))] := hl
  refine lv_aload_n hx hb dX5_size_0 rfl (lv_at hl 0 rfl) ?_
  refine lv_iload_n hx hb dX5_size_1 rfl (lv_at hl 1 rfl) ?_
  have hPm : va_P D vwCl (kW cI cJ cZ cV cR a C) s.heap := by exact hP
  have hDm : va_D A (kW cI cJ cZ cV cR a C) := by exact hD
  refine wc_VWr (As := [.int (nI (i))]) (rest := []) (ra := Prod.fst) (wf := fun u => kW cI cJ cZ cV cR a u.2) ⟨hx, hb, hml, hown, hts⟩ (c_X5_viewAt l D cI cJ cZ cV cR a C hM (i) (q) (by omega) hq9 s.heap.size) (cwV 1 hts gX5_size_X5_viewAt rfl rfl rfl (by decide +kernel) ⟨Nat.le_of_ble_eq_true rfl, Nat.le_of_ble_eq_true rfl⟩) hPm hK hDm hS hA 0 rfl rfl rfl hl.1 rfl (Nat.le_of_ble_eq_true rfl) dX5_size_2 ⟨Nat.le_of_ble_eq_true rfl, Nat.le_of_ble_eq_true rfl⟩ (fun u1 hq1 H locs hP hD hS => ?_)
  have hu1 := hq1
  subst hu1
  have hP : va_P D vwCl (kX cI cJ cZ cV cR a (k_ra C) (k_rb C) (k_vc C) (k_rc C) (k_pc C) (k_nw C) (k_n C) (k_fn C) (k_sn C) (k_kc C) (k_grp C) (k_key C) (k_srt C) (k_wt C) (k_home C) (k_drp C) (k_met C) (k_kin C) (k_alv C) (k_srs C) (k_row C) (k_sp C) (k_kis C) (k_pg C) (k_vq C) (k_rq C) (k_L C) (k_F C)) H := hP
  have hD : va_D A (kX cI cJ cZ cV cR a (k_ra C) (k_rb C) (k_vc C) (k_rc C) (k_pc C) (k_nw C) (k_n C) (k_fn C) (k_sn C) (k_kc C) (k_grp C) (k_key C) (k_srt C) (k_wt C) (k_home C) (k_drp C) (k_met C) (k_kin C) (k_alv C) (k_srs C) (k_row C) (k_sp C) (k_kis C) (k_pg C) (k_vq C) (k_rq C) (k_L C) (k_F C)) := hD
  refine wp_get (ci := 4) (v := .int (nI (c9))) (C := RX4) (T := TX4) (N := 6) hx hb hts hiX4 hown hK hP hV.1 hV.2 rfl 2 (by decide) hf0 (fun _ h9 => h9) rfl dX5_size_5 ?_
  have hPm : va_P D vwCl (kW cI cJ cZ cV cR a C) H := by exact hP
  have hDm : va_D A (kW cI cJ cZ cV cR a C) := by exact hD
  exact W.iret (v := nI (c9)) hx hb hr (fun t ht hW => ⟨⟨_, C, rfl, ⟨rfl, rfl⟩, gb_mk ht hW hPm hK hDm⟩, hS.F ht⟩) hS.2.2 dX5_size_8
def rmx_X5_size : Room := { frames := 7, cells := 1, slots := 6, locals := 104 }
set_option maxHeartbeats 4000000 in
set_option maxRecDepth 100000 in
/-- no such view -/
theorem x_X5_size (l : Launch) (htr : l.stackTraces = false) (D : va_G) (cI cJ cZ cV cR : ClassId) (a : Nat → Nat) (C : CT) (hM : kOk C) (x : Int32) (hbad : x.toInt < 0 ∨ ((k_vc C : Nat) : Int) ≤ x.toInt) (sz : Nat) : vx_Met l yX5_size wsX5_size rmx_X5_size (va_Pc [.ref (a 0), .int (x)] (GX D (tyK cI cJ cZ cV cR) (kW cI cJ cZ cV cR a C) sz)) xNo (xXC D (tyK cI cJ cZ cV cR) "java/lang/IndexOutOfBoundsException" (fun u : CT => u = C) (kW cI cJ cZ cV cR a) (va_A (kW cI cJ cZ cV cR a C) sz)) 1 6 (va_A (kW cI cJ cZ cV cR a C) sz) := by
  obtain ⟨hn, hfn, hsn, hvc, hrc, hpc, hnw, hkc, h_home, h_kin, h_alv, h_srs, h_row, h_sp, h_kis, h_pg⟩ := id hM
  refine vx_ofW (cc := cX5_size) (maxL := 2) (ret := (some .int)) (by decide) rfl ?_
  intro p e s m args below meth c s₁ B hml hout hv
  obtain ⟨rfl, ⟨hsz, hP, hK, hD0⟩, hXE⟩ := hv
  have hx := B.exec
  have hb := B.bytes
  have hr := B.returns
  have hts := atoms_spec (ws := wsX5_size) B.pre
  have hown : s.vm.findClass RX5 = some m.cls := findClass_of_methodNamed B.named
  have hlocks := B.notSynchronized
  subst hsz
  have hD := hD0.self (sz := s.heap.size)
  generalize hAe : va_A (kW cI cJ cZ cV cR a C) s.heap.size = A at hD hXE ⊢
  have hA : ∀ q : Nat, s.heap.size ≤ q → A q := fun q h => by rw [← hAe]; exact Or.inr h
  have hS : va_S A s.heap s.heap [] := va_S.rf
  have hP : va_P D vwCl (kX cI cJ cZ cV cR a (k_ra C) (k_rb C) (k_vc C) (k_rc C) (k_pc C) (k_nw C) (k_n C) (k_fn C) (k_sn C) (k_kc C) (k_grp C) (k_key C) (k_srt C) (k_wt C) (k_home C) (k_drp C) (k_met C) (k_kin C) (k_alv C) (k_srs C) (k_row C) (k_sp C) (k_kis C) (k_pg C) (k_vq C) (k_rq C) (k_L C) (k_F C)) s.heap := hP
  have hD : va_D A (kX cI cJ cZ cV cR a (k_ra C) (k_rb C) (k_vc C) (k_rc C) (k_pc C) (k_nw C) (k_n C) (k_fn C) (k_sn C) (k_kc C) (k_grp C) (k_key C) (k_srt C) (k_wt C) (k_home C) (k_drp C) (k_met C) (k_kin C) (k_alv C) (k_srs C) (k_row C) (k_sp C) (k_kis C) (k_pg C) (k_vq C) (k_rq C) (k_L C) (k_F C)) := hD
  have hl := lv_entry ([.ref (a 0), .int (x)]) (n := 2) (Nat.le_of_ble_eq_true rfl)
  rw [lg_entry_eq]
  generalize (lg_sl ([.ref (a 0), .int (x)]) ++ List.replicate (2 - (lg_sl ([.ref (a 0), .int (x)])).length) Slot.unset).toArray = ls at hl ⊢
  have hl : lv_has ls 2 [(0, .ref (a 0)), (1, .int (x))] := hl
  refine lv_aload_n hx hb dX5_size_0 rfl (lv_at hl 0 rfl) ?_
  refine lv_iload_n hx hb dX5_size_1 rfl (lv_at hl 1 rfl) ?_
  have hPm : va_P D vwCl (kW cI cJ cZ cV cR a C) s.heap := by exact hP
  have hDm : va_D A (kW cI cJ cZ cV cR a C) := by exact hD
  refine wx_V (As := [.int (x)]) (rest := []) (wf := kW cI cJ cZ cV cR a) ⟨hx, hb, hml, hown, hts⟩ (x_X5_viewAt l htr D cI cJ cZ cV cR a C hM x hbad s.heap.size) (cwV 1 hts gX5_size_X5_viewAt rfl rfl rfl (by decide +kernel) ⟨Nat.le_of_ble_eq_true rfl, Nat.le_of_ble_eq_true rfl⟩) hPm hK hDm hS hA hXE 0 rfl rfl rfl hl.1 rfl (Nat.le_of_ble_eq_true rfl) dX5_size_2 ⟨Nat.le_of_ble_eq_true rfl, Nat.le_of_ble_eq_true rfl⟩ (fun u hu H locs ce q9 hP hD hS hce hcv hcl => ?_)
  exact vx_out (fun x h => (hout x h).elim) hlocks hce hcv hcl (xxc_eq u hu hP hK hD hS) hS.2.2 (Nat.le_refl _) (Nat.le_refl _)
def rm_X5_groups : Room := { frames := 1, cells := 0, slots := 0, locals := 22 }
set_option maxHeartbeats 4000000 in
set_option maxRecDepth 100000 in
/-- of a view -/
theorem c_X5_groups (l : Launch) (D : va_G) (cI cJ cZ cV cR : ClassId) (a : Nat → Nat) (C : CT) (hM : kOk C) (q hs se c9 g9 st9 r9 n9 : Nat) (f9 : Nat → Nat) (hV : isV (k_L C) (k_F C) q hs se c9 g9 st9 r9) (hI : isI cI (k_L C) (k_F C) hs n9 f9) (hc9 : c9 ≤ n9) (hn9 : n9 ≤ 300) (hg9 : g9 ≤ 300) (hst9 : st9 ≤ 2) (hr9 : r9 ≤ 60) (hf9 : ∀ j, f9 j < 300) (i : Nat) (hi9 : i < k_vc C) (hq9 : k_vq C i = some q) (sz : Nat) : Met l yX5_groups wsX5_groups rm_X5_groups (va_Pc [.ref (a 0), .int (nI (i))] (GW D (tyK cI cJ cZ cV cR) (kW cI cJ cZ cV cR a C) sz)) (va_Qi (fun rr u => rr = nI g9 ∧ u = C) (fun u => GB D (tyK cI cJ cZ cV cR) (va_A (kW cI cJ cZ cV cR a C) sz) (kW cI cJ cZ cV cR a u)) (va_A (kW cI cJ cZ cV cR a C) sz)) 0 0 (va_A (kW cI cJ cZ cV cR a C) sz) := by
  obtain ⟨hn, hfn, hsn, hvc, hrc, hpc, hnw, hkc, h_home, h_kin, h_alv, h_srs, h_row, h_sp, h_kis, h_pg⟩ := id hM
  refine Met.ofW (cc := cX5_groups) (maxL := 2) (ret := (some .int)) (by decide) rfl ?_
  intro p e s m args below meth c s₁ B hml hv
  obtain ⟨rfl, hsz, hP, hK, hD0⟩ := hv
  have hx := B.exec
  have hb := B.bytes
  have hr := B.returns
  have hts := atoms_spec (ws := wsX5_groups) B.pre
  have hown : s.vm.findClass RX5 = some m.cls := findClass_of_methodNamed B.named
  have hlocks := B.notSynchronized
  subst hsz
  have hD := hD0.self (sz := s.heap.size)
  generalize hAe : va_A (kW cI cJ cZ cV cR a C) s.heap.size = A at hD ⊢
  have hA : ∀ q : Nat, s.heap.size ≤ q → A q := fun q h => by rw [← hAe]; exact Or.inr h
  have hS : va_S A s.heap s.heap [] := va_S.rf
  have hP : va_P D vwCl (kX cI cJ cZ cV cR a (k_ra C) (k_rb C) (k_vc C) (k_rc C) (k_pc C) (k_nw C) (k_n C) (k_fn C) (k_sn C) (k_kc C) (k_grp C) (k_key C) (k_srt C) (k_wt C) (k_home C) (k_drp C) (k_met C) (k_kin C) (k_alv C) (k_srs C) (k_row C) (k_sp C) (k_kis C) (k_pg C) (k_vq C) (k_rq C) (k_L C) (k_F C)) s.heap := hP
  have hD : va_D A (kX cI cJ cZ cV cR a (k_ra C) (k_rb C) (k_vc C) (k_rc C) (k_pc C) (k_nw C) (k_n C) (k_fn C) (k_sn C) (k_kc C) (k_grp C) (k_key C) (k_srt C) (k_wt C) (k_home C) (k_drp C) (k_met C) (k_kin C) (k_alv C) (k_srs C) (k_row C) (k_sp C) (k_kis C) (k_pg C) (k_vq C) (k_rq C) (k_L C) (k_F C)) := hD
  have hiX4 : ∀ w ∈ wsX40, w ∈ wsX5_groups := by decide +kernel
  have hf0 := hts (.fieldLink RX5 177 "GroupCursors$View" "groupCount" "I") (by decide +kernel)
  have hl := lv_entry ([.ref (a 0), .int (nI (i))]) (n := 2) (Nat.le_of_ble_eq_true rfl)
  rw [lg_entry_eq]
  generalize (lg_sl ([.ref (a 0), .int (nI (i))]) ++ List.replicate (2 - (lg_sl ([.ref (a 0), .int (nI (i))])).length) Slot.unset).toArray = ls at hl ⊢
  have hl : lv_has ls 2 [(0, .ref (a 0)), (1, .int (nI (i)))] := hl
  refine lv_aload_n hx hb dX5_groups_0 rfl (lv_at hl 0 rfl) ?_
  refine lv_iload_n hx hb dX5_groups_1 rfl (lv_at hl 1 rfl) ?_
  have hPm : va_P D vwCl (kW cI cJ cZ cV cR a C) s.heap := by exact hP
  have hDm : va_D A (kW cI cJ cZ cV cR a C) := by exact hD
  refine wc_VWr (As := [.int (nI (i))]) (rest := []) (ra := Prod.fst) (wf := fun u => kW cI cJ cZ cV cR a u.2) ⟨hx, hb, hml, hown, hts⟩ (c_X5_viewAt l D cI cJ cZ cV cR a C hM (i) (q) (by omega) hq9 s.heap.size) (cwV 1 hts gX5_groups_X5_viewAt rfl rfl rfl (by decide +kernel) ⟨Nat.le_of_ble_eq_true rfl, Nat.le_of_ble_eq_true rfl⟩) hPm hK hDm hS hA 0 rfl rfl rfl hl.1 rfl (Nat.le_of_ble_eq_true rfl) dX5_groups_2 ⟨Nat.le_of_ble_eq_true rfl, Nat.le_of_ble_eq_true rfl⟩ (fun u1 hq1 H locs hP hD hS => ?_)
  have hu1 := hq1
  subst hu1
  have hP : va_P D vwCl (kX cI cJ cZ cV cR a (k_ra C) (k_rb C) (k_vc C) (k_rc C) (k_pc C) (k_nw C) (k_n C) (k_fn C) (k_sn C) (k_kc C) (k_grp C) (k_key C) (k_srt C) (k_wt C) (k_home C) (k_drp C) (k_met C) (k_kin C) (k_alv C) (k_srs C) (k_row C) (k_sp C) (k_kis C) (k_pg C) (k_vq C) (k_rq C) (k_L C) (k_F C)) H := hP
  have hD : va_D A (kX cI cJ cZ cV cR a (k_ra C) (k_rb C) (k_vc C) (k_rc C) (k_pc C) (k_nw C) (k_n C) (k_fn C) (k_sn C) (k_kc C) (k_grp C) (k_key C) (k_srt C) (k_wt C) (k_home C) (k_drp C) (k_met C) (k_kin C) (k_alv C) (k_srs C) (k_row C) (k_sp C) (k_kis C) (k_pg C) (k_vq C) (k_rq C) (k_L C) (k_F C)) := hD
  refine wp_get (ci := 4) (v := .int (nI (g9))) (C := RX4) (T := TX4) (N := 6) hx hb hts hiX4 hown hK hP hV.1 hV.2 rfl 3 (by decide) hf0 (fun _ h9 => h9) rfl dX5_groups_5 ?_
  have hPm : va_P D vwCl (kW cI cJ cZ cV cR a C) H := by exact hP
  have hDm : va_D A (kW cI cJ cZ cV cR a C) := by exact hD
  exact W.iret (v := nI (g9)) hx hb hr (fun t ht hW => ⟨⟨_, C, rfl, ⟨rfl, rfl⟩, gb_mk ht hW hPm hK hDm⟩, hS.F ht⟩) hS.2.2 dX5_groups_8
def rmx_X5_groups : Room := { frames := 7, cells := 1, slots := 6, locals := 104 }
set_option maxHeartbeats 4000000 in
set_option maxRecDepth 100000 in
/-- no such view -/
theorem x_X5_groups (l : Launch) (htr : l.stackTraces = false) (D : va_G) (cI cJ cZ cV cR : ClassId) (a : Nat → Nat) (C : CT) (hM : kOk C) (x : Int32) (hbad : x.toInt < 0 ∨ ((k_vc C : Nat) : Int) ≤ x.toInt) (sz : Nat) : vx_Met l yX5_groups wsX5_groups rmx_X5_groups (va_Pc [.ref (a 0), .int (x)] (GX D (tyK cI cJ cZ cV cR) (kW cI cJ cZ cV cR a C) sz)) xNo (xXC D (tyK cI cJ cZ cV cR) "java/lang/IndexOutOfBoundsException" (fun u : CT => u = C) (kW cI cJ cZ cV cR a) (va_A (kW cI cJ cZ cV cR a C) sz)) 1 6 (va_A (kW cI cJ cZ cV cR a C) sz) := by
  obtain ⟨hn, hfn, hsn, hvc, hrc, hpc, hnw, hkc, h_home, h_kin, h_alv, h_srs, h_row, h_sp, h_kis, h_pg⟩ := id hM
  refine vx_ofW (cc := cX5_groups) (maxL := 2) (ret := (some .int)) (by decide) rfl ?_
  intro p e s m args below meth c s₁ B hml hout hv
  obtain ⟨rfl, ⟨hsz, hP, hK, hD0⟩, hXE⟩ := hv
  have hx := B.exec
  have hb := B.bytes
  have hr := B.returns
  have hts := atoms_spec (ws := wsX5_groups) B.pre
  have hown : s.vm.findClass RX5 = some m.cls := findClass_of_methodNamed B.named
  have hlocks := B.notSynchronized
  subst hsz
  have hD := hD0.self (sz := s.heap.size)
  generalize hAe : va_A (kW cI cJ cZ cV cR a C) s.heap.size = A at hD hXE ⊢
  have hA : ∀ q : Nat, s.heap.size ≤ q → A q := fun q h => by rw [← hAe]; exact Or.inr h
  have hS : va_S A s.heap s.heap [] := va_S.rf
  have hP : va_P D vwCl (kX cI cJ cZ cV cR a (k_ra C) (k_rb C) (k_vc C) (k_rc C) (k_pc C) (k_nw C) (k_n C) (k_fn C) (k_sn C) (k_kc C) (k_grp C) (k_key C) (k_srt C) (k_wt C) (k_home C) (k_drp C) (k_met C) (k_kin C) (k_alv C) (k_srs C) (k_row C) (k_sp C) (k_kis C) (k_pg C) (k_vq C) (k_rq C) (k_L C) (k_F C)) s.heap := hP
  have hD : va_D A (kX cI cJ cZ cV cR a (k_ra C) (k_rb C) (k_vc C) (k_rc C) (k_pc C) (k_nw C) (k_n C) (k_fn C) (k_sn C) (k_kc C) (k_grp C) (k_key C) (k_srt C) (k_wt C) (k_home C) (k_drp C) (k_met C) (k_kin C) (k_alv C) (k_srs C) (k_row C) (k_sp C) (k_kis C) (k_pg C) (k_vq C) (k_rq C) (k_L C) (k_F C)) := hD
  have hl := lv_entry ([.ref (a 0), .int (x)]) (n := 2) (Nat.le_of_ble_eq_true rfl)
  rw [lg_entry_eq]
  generalize (lg_sl ([.ref (a 0), .int (x)]) ++ List.replicate (2 - (lg_sl ([.ref (a 0), .int (x)])).length) Slot.unset).toArray = ls at hl ⊢
  have hl : lv_has ls 2 [(0, .ref (a 0)), (1, .int (x))] := hl
  refine lv_aload_n hx hb dX5_groups_0 rfl (lv_at hl 0 rfl) ?_
  refine lv_iload_n hx hb dX5_groups_1 rfl (lv_at hl 1 rfl) ?_
  have hPm : va_P D vwCl (kW cI cJ cZ cV cR a C) s.heap := by exact hP
  have hDm : va_D A (kW cI cJ cZ cV cR a C) := by exact hD
  refine wx_V (As := [.int (x)]) (rest := []) (wf := kW cI cJ cZ cV cR a) ⟨hx, hb, hml, hown, hts⟩ (x_X5_viewAt l htr D cI cJ cZ cV cR a C hM x hbad s.heap.size) (cwV 1 hts gX5_groups_X5_viewAt rfl rfl rfl (by decide +kernel) ⟨Nat.le_of_ble_eq_true rfl, Nat.le_of_ble_eq_true rfl⟩) hPm hK hDm hS hA hXE 0 rfl rfl rfl hl.1 rfl (Nat.le_of_ble_eq_true rfl) dX5_groups_2 ⟨Nat.le_of_ble_eq_true rfl, Nat.le_of_ble_eq_true rfl⟩ (fun u hu H locs ce q9 hP hD hS hce hcv hcl => ?_)
  exact vx_out (fun x h => (hout x h).elim) hlocks hce hcv hcl (xxc_eq u hu hP hK hD hS) hS.2.2 (Nat.le_refl _) (Nat.le_refl _)
def rm_X5_hit : Room := { frames := 4, cells := 0, slots := 0, locals := 98 }
set_option maxHeartbeats 4000000 in
set_option maxRecDepth 100000 in
/-- a hit -/
theorem c_X5_hit (l : Launch) (D : va_G) (cI cJ cZ cV cR : ClassId) (a : Nat → Nat) (C : CT) (hM : kOk C) (q hs se c9 g9 st9 r9 n9 : Nat) (f9 : Nat → Nat) (hV : isV (k_L C) (k_F C) q hs se c9 g9 st9 r9) (hI : isI cI (k_L C) (k_F C) hs n9 f9) (hc9 : c9 ≤ n9) (hn9 : n9 ≤ 300) (hg9 : g9 ≤ 300) (hst9 : st9 ≤ 2) (hr9 : r9 ≤ 60) (hf9 : ∀ j, f9 j < 300) (i : Nat) (hi9 : i < k_vc C) (hq9 : k_vq C i = some q) (kd : Nat) (sd : Int64) (k9 : Nat) (hkd : kd < 3) (hk9 : k9 < c9) (sz : Nat) : Met l yX5_hit wsX5_hit rm_X5_hit (va_Pc [.ref (a 0), .int (nI (i)), .int (nI (kd)), .long (sd), .int (nI (k9))] (GW D (tyK cI cJ cZ cV cR) (kW cI cJ cZ cV cR a C) sz)) (va_Qi (fun rr u => rr = nI (k_row (rkM C f9 c9 kd sd) k9) ∧ u = rkM C f9 c9 kd sd) (fun u => GB D (tyK cI cJ cZ cV cR) (va_A (kW cI cJ cZ cV cR a C) sz) (kW cI cJ cZ cV cR a u)) (va_A (kW cI cJ cZ cV cR a C) sz)) 0 0 (va_A (kW cI cJ cZ cV cR a C) sz) := by
  obtain ⟨hn, hfn, hsn, hvc, hrc, hpc, hnw, hkc, h_home, h_kin, h_alv, h_srs, h_row, h_sp, h_kis, h_pg⟩ := id hM
  refine Met.ofW (cc := cX5_hit) (maxL := 7) (ret := (some .int)) (by decide) rfl ?_
  intro p e s m args below meth c s₁ B hml hv
  obtain ⟨rfl, hsz, hP, hK, hD0⟩ := hv
  have hx := B.exec
  have hb := B.bytes
  have hr := B.returns
  have hts := atoms_spec (ws := wsX5_hit) B.pre
  have hown : s.vm.findClass RX5 = some m.cls := findClass_of_methodNamed B.named
  have hlocks := B.notSynchronized
  subst hsz
  have hD := hD0.self (sz := s.heap.size)
  generalize hAe : va_A (kW cI cJ cZ cV cR a C) s.heap.size = A at hD ⊢
  have hA : ∀ q : Nat, s.heap.size ≤ q → A q := fun q h => by rw [← hAe]; exact Or.inr h
  have hS : va_S A s.heap s.heap [] := va_S.rf
  have hP : va_P D vwCl (kX cI cJ cZ cV cR a (k_ra C) (k_rb C) (k_vc C) (k_rc C) (k_pc C) (k_nw C) (k_n C) (k_fn C) (k_sn C) (k_kc C) (k_grp C) (k_key C) (k_srt C) (k_wt C) (k_home C) (k_drp C) (k_met C) (k_kin C) (k_alv C) (k_srs C) (k_row C) (k_sp C) (k_kis C) (k_pg C) (k_vq C) (k_rq C) (k_L C) (k_F C)) s.heap := hP
  have hD : va_D A (kX cI cJ cZ cV cR a (k_ra C) (k_rb C) (k_vc C) (k_rc C) (k_pc C) (k_nw C) (k_n C) (k_fn C) (k_sn C) (k_kc C) (k_grp C) (k_key C) (k_srt C) (k_wt C) (k_home C) (k_drp C) (k_met C) (k_kin C) (k_alv C) (k_srs C) (k_row C) (k_sp C) (k_kis C) (k_pg C) (k_vq C) (k_rq C) (k_L C) (k_F C)) := hD
  have hiX4 : ∀ w ∈ wsX40, w ∈ wsX5_hit := by decide +kernel
  have hiX5 : ∀ w ∈ wsX50, w ∈ wsX5_hit := by decide +kernel
  have hf0 := hts (.fieldLink RX5 164 "GroupCursors$View" "count" "I") (by decide +kernel)
  have hf1 := hts (.fieldLink RX5 28 "GroupCursors" "ranking" "LGroupCursors$Ranking;") (by decide +kernel)
  have hl := lv_entry ([.ref (a 0), .int (nI (i)), .int (nI (kd)), .long (sd), .int (nI (k9))]) (n := 7) (Nat.le_of_ble_eq_true rfl)
  rw [lg_entry_eq]
  generalize (lg_sl ([.ref (a 0), .int (nI (i)), .int (nI (kd)), .long (sd), .int (nI (k9))]) ++ List.replicate (7 - (lg_sl ([.ref (a 0), .int (nI (i)), .int (nI (kd)), .long (sd), .int (nI (k9))])).length) Slot.unset).toArray = ls at hl ⊢
  have hl : lv_has ls 7 [(0, .ref (a 0)), (1, .int (nI (i))), (2, .int (nI (kd))), (3, .long (sd)), (5, .int (nI (k9)))] := hl
  refine lv_aload_n hx hb dX5_hit_0 rfl (lv_at hl 0 rfl) ?_
  refine lv_iload_n hx hb dX5_hit_1 rfl (lv_at hl 1 rfl) ?_
  have hPm : va_P D vwCl (kW cI cJ cZ cV cR a C) s.heap := by exact hP
  have hDm : va_D A (kW cI cJ cZ cV cR a C) := by exact hD
  refine wc_VWr (As := [.int (nI (i))]) (rest := []) (ra := Prod.fst) (wf := fun u => kW cI cJ cZ cV cR a u.2) ⟨hx, hb, hml, hown, hts⟩ (c_X5_viewAt l D cI cJ cZ cV cR a C hM (i) (q) (by omega) hq9 s.heap.size) (cwV 1 hts gX5_hit_X5_viewAt rfl rfl rfl (by decide +kernel) ⟨Nat.le_of_ble_eq_true rfl, Nat.le_of_ble_eq_true rfl⟩) hPm hK hDm hS hA 0 rfl rfl rfl hl.1 rfl (Nat.le_of_ble_eq_true rfl) dX5_hit_2 ⟨Nat.le_of_ble_eq_true rfl, Nat.le_of_ble_eq_true rfl⟩ (fun u1 hq1 H locs hP hD hS => ?_)
  have hu1 := hq1
  subst hu1
  have hP : va_P D vwCl (kX cI cJ cZ cV cR a (k_ra C) (k_rb C) (k_vc C) (k_rc C) (k_pc C) (k_nw C) (k_n C) (k_fn C) (k_sn C) (k_kc C) (k_grp C) (k_key C) (k_srt C) (k_wt C) (k_home C) (k_drp C) (k_met C) (k_kin C) (k_alv C) (k_srs C) (k_row C) (k_sp C) (k_kis C) (k_pg C) (k_vq C) (k_rq C) (k_L C) (k_F C)) H := hP
  have hD : va_D A (kX cI cJ cZ cV cR a (k_ra C) (k_rb C) (k_vc C) (k_rc C) (k_pc C) (k_nw C) (k_n C) (k_fn C) (k_sn C) (k_kc C) (k_grp C) (k_key C) (k_srt C) (k_wt C) (k_home C) (k_drp C) (k_met C) (k_kin C) (k_alv C) (k_srs C) (k_row C) (k_sp C) (k_kis C) (k_pg C) (k_vq C) (k_rq C) (k_L C) (k_F C)) := hD
  refine lv_astore (lv' := [(6, .ref (q)), (0, .ref (a 0)), (1, .int (nI (i))), (2, .int (nI (kd))), (3, .long (sd)), (5, .int (nI (k9)))]) hx hb dX5_hit_5 hl (by decide) rfl (fun ls hl => ?_)
  refine lv_iload hx hb dX5_hit_7 (lv_at hl 5 rfl) ?_
  refine wz_if_lt (tgt := 22) hx hb (((k9 : Nat) : Int)) (nI_z (by omega)) dX5_hit_9 (by decide) (fun c9_2 => ?_) (fun c9_2 => ?_)
  · exfalso; omega
  · refine lv_iload hx hb dX5_hit_12 (lv_at hl 5 rfl) ?_
    refine lv_aload hx hb dX5_hit_14 (lv_at hl 0 rfl) ?_
    refine wp_get (ci := 4) (v := .int (nI (c9))) (C := RX4) (T := TX4) (N := 6) hx hb hts hiX4 hown hK hP hV.1 hV.2 rfl 2 (by decide) hf0 (fun _ h9 => h9) rfl dX5_hit_16 ?_
    refine wn_icmp_lt (a := k9) (b := c9) (tgt := 32) hx hb (nI_z (by omega)) (nI_z (by omega)) dX5_hit_19 (by decide) (fun c19_3 => ?_) (fun c19_3 => ?_)
    · refine lv_aload_n hx hb dX5_hit_32 rfl (lv_at hl 1 rfl) ?_
      refine lv_aload hx hb dX5_hit_33 (lv_at hl 0 rfl) ?_
      refine lv_iload_n hx hb dX5_hit_35 rfl (lv_at hl 3 rfl) ?_
      refine lv_lload_n hx hb dX5_hit_36 rfl (lv_at hl 4 rfl) ?_
      have hPm : va_P D vwCl (kW cI cJ cZ cV cR a C) H := by exact hP
      have hDm : va_D A (kW cI cJ cZ cV cR a C) := by exact hD
      refine wc_VWv (As := [.ref (q), .int (nI (kd)), .long (sd)]) (rest := []) (wf := kW cI cJ cZ cV cR a) ⟨hx, hb, hml, hown, hts⟩ (c_X5_rankHits l D cI cJ cZ cV cR a C hM (q) (hs) (se) (c9) (g9) (st9) (r9) (n9) (f9) hV hI (by omega) (by omega) (by omega) (by omega) (by omega) hf9 (kd) (sd) (by omega) H.size) (cwV 3 hts gX5_hit_X5_rankHits rfl rfl rfl (by decide +kernel) ⟨Nat.le_of_ble_eq_true rfl, Nat.le_of_ble_eq_true rfl⟩) hPm hK hDm hS hA 0 rfl rfl rfl hl.1 rfl (Nat.le_of_ble_eq_true rfl) dX5_hit_37 ⟨Nat.le_of_ble_eq_true rfl, Nat.le_of_ble_eq_true rfl⟩ (fun u4 hq4 H locs hP hD hS => ?_)
      have hu4 := hq4.symm
      subst hu4
      have hP : va_P D vwCl (kX cI cJ cZ cV cR a (k_ra (rkM C (f9) (c9) (kd) (sd))) (k_rb (rkM C (f9) (c9) (kd) (sd))) (k_vc (rkM C (f9) (c9) (kd) (sd))) (k_rc (rkM C (f9) (c9) (kd) (sd))) (k_pc (rkM C (f9) (c9) (kd) (sd))) (k_nw (rkM C (f9) (c9) (kd) (sd))) (k_n (rkM C (f9) (c9) (kd) (sd))) (k_fn (rkM C (f9) (c9) (kd) (sd))) (k_sn (rkM C (f9) (c9) (kd) (sd))) (k_kc (rkM C (f9) (c9) (kd) (sd))) (k_grp (rkM C (f9) (c9) (kd) (sd))) (k_key (rkM C (f9) (c9) (kd) (sd))) (k_srt (rkM C (f9) (c9) (kd) (sd))) (k_wt (rkM C (f9) (c9) (kd) (sd))) (k_home (rkM C (f9) (c9) (kd) (sd))) (k_drp (rkM C (f9) (c9) (kd) (sd))) (k_met (rkM C (f9) (c9) (kd) (sd))) (k_kin (rkM C (f9) (c9) (kd) (sd))) (k_alv (rkM C (f9) (c9) (kd) (sd))) (k_srs (rkM C (f9) (c9) (kd) (sd))) (k_row (rkM C (f9) (c9) (kd) (sd))) (k_sp (rkM C (f9) (c9) (kd) (sd))) (k_kis (rkM C (f9) (c9) (kd) (sd))) (k_pg (rkM C (f9) (c9) (kd) (sd))) (k_vq (rkM C (f9) (c9) (kd) (sd))) (k_rq (rkM C (f9) (c9) (kd) (sd))) (k_L (rkM C (f9) (c9) (kd) (sd))) (k_F (rkM C (f9) (c9) (kd) (sd)))) H := hP
      have hD : va_D A (kX cI cJ cZ cV cR a (k_ra (rkM C (f9) (c9) (kd) (sd))) (k_rb (rkM C (f9) (c9) (kd) (sd))) (k_vc (rkM C (f9) (c9) (kd) (sd))) (k_rc (rkM C (f9) (c9) (kd) (sd))) (k_pc (rkM C (f9) (c9) (kd) (sd))) (k_nw (rkM C (f9) (c9) (kd) (sd))) (k_n (rkM C (f9) (c9) (kd) (sd))) (k_fn (rkM C (f9) (c9) (kd) (sd))) (k_sn (rkM C (f9) (c9) (kd) (sd))) (k_kc (rkM C (f9) (c9) (kd) (sd))) (k_grp (rkM C (f9) (c9) (kd) (sd))) (k_key (rkM C (f9) (c9) (kd) (sd))) (k_srt (rkM C (f9) (c9) (kd) (sd))) (k_wt (rkM C (f9) (c9) (kd) (sd))) (k_home (rkM C (f9) (c9) (kd) (sd))) (k_drp (rkM C (f9) (c9) (kd) (sd))) (k_met (rkM C (f9) (c9) (kd) (sd))) (k_kin (rkM C (f9) (c9) (kd) (sd))) (k_alv (rkM C (f9) (c9) (kd) (sd))) (k_srs (rkM C (f9) (c9) (kd) (sd))) (k_row (rkM C (f9) (c9) (kd) (sd))) (k_sp (rkM C (f9) (c9) (kd) (sd))) (k_kis (rkM C (f9) (c9) (kd) (sd))) (k_pg (rkM C (f9) (c9) (kd) (sd))) (k_vq (rkM C (f9) (c9) (kd) (sd))) (k_rq (rkM C (f9) (c9) (kd) (sd))) (k_L (rkM C (f9) (c9) (kd) (sd))) (k_F (rkM C (f9) (c9) (kd) (sd)))) := hD
      refine lv_aload_n hx hb dX5_hit_40 rfl (lv_at hl 1 rfl) ?_
      refine va_get (ci := 5) (v := .ref (a 11)) (C := RX5) (T := TX5) (N := 10) hx hb hts hiX5 hown hK hP 0 rfl rfl 2 (by decide) hf1 (fun _ h9 => h9) rfl dX5_hit_41 ?_
      refine lv_iload hx hb dX5_hit_44 (lv_at hl 5 rfl) ?_
      have hPm : va_P D vwCl (kW cI cJ cZ cV cR a (rkM C (f9) (c9) (kd) (sd))) H := by exact hP
      have hDm : va_D A (kW cI cJ cZ cV cR a (rkM C (f9) (c9) (kd) (sd))) := by exact hD
      refine wc_VWi (As := [.int (nI (k9))]) (rest := []) (wf := kW cI cJ cZ cV cR a) ⟨hx, hb, hml, hown, hts⟩ (c_X0_memberAt l D cI cJ cZ cV cR a (rkM C (f9) (c9) (kd) (sd)) (ok_rkM hM (by omega) hf9) (k9) hk9 H.size) (cwV 1 hts gX5_hit_X0_memberAt rfl rfl rfl (by decide +kernel) ⟨Nat.le_of_ble_eq_true rfl, Nat.le_of_ble_eq_true rfl⟩) hPm hK hDm hS hA 11 rfl rfl rfl hl.1 rfl (Nat.le_of_ble_eq_true rfl) dX5_hit_46 ⟨Nat.le_of_ble_eq_true rfl, Nat.le_of_ble_eq_true rfl⟩ (fun rr u5 hq5 H locs hP hD hS => ?_)
      obtain ⟨hr5, hu5⟩ := hq5
      subst hr5
      have hu5 := hu5.symm
      subst hu5
      have hP : va_P D vwCl (kX cI cJ cZ cV cR a (k_ra (rkM C (f9) (c9) (kd) (sd))) (k_rb (rkM C (f9) (c9) (kd) (sd))) (k_vc (rkM C (f9) (c9) (kd) (sd))) (k_rc (rkM C (f9) (c9) (kd) (sd))) (k_pc (rkM C (f9) (c9) (kd) (sd))) (k_nw (rkM C (f9) (c9) (kd) (sd))) (k_n (rkM C (f9) (c9) (kd) (sd))) (k_fn (rkM C (f9) (c9) (kd) (sd))) (k_sn (rkM C (f9) (c9) (kd) (sd))) (k_kc (rkM C (f9) (c9) (kd) (sd))) (k_grp (rkM C (f9) (c9) (kd) (sd))) (k_key (rkM C (f9) (c9) (kd) (sd))) (k_srt (rkM C (f9) (c9) (kd) (sd))) (k_wt (rkM C (f9) (c9) (kd) (sd))) (k_home (rkM C (f9) (c9) (kd) (sd))) (k_drp (rkM C (f9) (c9) (kd) (sd))) (k_met (rkM C (f9) (c9) (kd) (sd))) (k_kin (rkM C (f9) (c9) (kd) (sd))) (k_alv (rkM C (f9) (c9) (kd) (sd))) (k_srs (rkM C (f9) (c9) (kd) (sd))) (k_row (rkM C (f9) (c9) (kd) (sd))) (k_sp (rkM C (f9) (c9) (kd) (sd))) (k_kis (rkM C (f9) (c9) (kd) (sd))) (k_pg (rkM C (f9) (c9) (kd) (sd))) (k_vq (rkM C (f9) (c9) (kd) (sd))) (k_rq (rkM C (f9) (c9) (kd) (sd))) (k_L (rkM C (f9) (c9) (kd) (sd))) (k_F (rkM C (f9) (c9) (kd) (sd)))) H := hP
      have hD : va_D A (kX cI cJ cZ cV cR a (k_ra (rkM C (f9) (c9) (kd) (sd))) (k_rb (rkM C (f9) (c9) (kd) (sd))) (k_vc (rkM C (f9) (c9) (kd) (sd))) (k_rc (rkM C (f9) (c9) (kd) (sd))) (k_pc (rkM C (f9) (c9) (kd) (sd))) (k_nw (rkM C (f9) (c9) (kd) (sd))) (k_n (rkM C (f9) (c9) (kd) (sd))) (k_fn (rkM C (f9) (c9) (kd) (sd))) (k_sn (rkM C (f9) (c9) (kd) (sd))) (k_kc (rkM C (f9) (c9) (kd) (sd))) (k_grp (rkM C (f9) (c9) (kd) (sd))) (k_key (rkM C (f9) (c9) (kd) (sd))) (k_srt (rkM C (f9) (c9) (kd) (sd))) (k_wt (rkM C (f9) (c9) (kd) (sd))) (k_home (rkM C (f9) (c9) (kd) (sd))) (k_drp (rkM C (f9) (c9) (kd) (sd))) (k_met (rkM C (f9) (c9) (kd) (sd))) (k_kin (rkM C (f9) (c9) (kd) (sd))) (k_alv (rkM C (f9) (c9) (kd) (sd))) (k_srs (rkM C (f9) (c9) (kd) (sd))) (k_row (rkM C (f9) (c9) (kd) (sd))) (k_sp (rkM C (f9) (c9) (kd) (sd))) (k_kis (rkM C (f9) (c9) (kd) (sd))) (k_pg (rkM C (f9) (c9) (kd) (sd))) (k_vq (rkM C (f9) (c9) (kd) (sd))) (k_rq (rkM C (f9) (c9) (kd) (sd))) (k_L (rkM C (f9) (c9) (kd) (sd))) (k_F (rkM C (f9) (c9) (kd) (sd)))) := hD
      have hPm : va_P D vwCl (kW cI cJ cZ cV cR a (rkM C (f9) (c9) (kd) (sd))) H := by exact hP
      have hDm : va_D A (kW cI cJ cZ cV cR a (rkM C (f9) (c9) (kd) (sd))) := by exact hD
      exact W.iret (v := nI (k_row (rkM C (f9) (c9) (kd) (sd)) (k9))) hx hb hr (fun t ht hW => ⟨⟨_, (rkM C (f9) (c9) (kd) (sd)), rfl, ⟨rfl, rfl⟩, gb_mk ht hW hPm hK hDm⟩, hS.F ht⟩) hS.2.2 dX5_hit_49
    · exfalso; omega
def rmx_X5_hit_v : Room := { frames := 7, cells := 1, slots := 6, locals := 104 }
set_option maxHeartbeats 4000000 in
set_option maxRecDepth 100000 in
/-- no such view -/
theorem x_X5_hit_v (l : Launch) (htr : l.stackTraces = false) (D : va_G) (cI cJ cZ cV cR : ClassId) (a : Nat → Nat) (C : CT) (hM : kOk C) (x y : Int32) (sd : Int64) (k : Int32) (hbad : x.toInt < 0 ∨ ((k_vc C : Nat) : Int) ≤ x.toInt) (sz : Nat) : vx_Met l yX5_hit wsX5_hit rmx_X5_hit_v (va_Pc [.ref (a 0), .int (x), .int (y), .long (sd), .int (k)] (GX D (tyK cI cJ cZ cV cR) (kW cI cJ cZ cV cR a C) sz)) xNo (xXC D (tyK cI cJ cZ cV cR) "java/lang/IndexOutOfBoundsException" (fun u : CT => u = C) (kW cI cJ cZ cV cR a) (va_A (kW cI cJ cZ cV cR a C) sz)) 1 6 (va_A (kW cI cJ cZ cV cR a C) sz) := by
  obtain ⟨hn, hfn, hsn, hvc, hrc, hpc, hnw, hkc, h_home, h_kin, h_alv, h_srs, h_row, h_sp, h_kis, h_pg⟩ := id hM
  refine vx_ofW (cc := cX5_hit) (maxL := 7) (ret := (some .int)) (by decide) rfl ?_
  intro p e s m args below meth c s₁ B hml hout hv
  obtain ⟨rfl, ⟨hsz, hP, hK, hD0⟩, hXE⟩ := hv
  have hx := B.exec
  have hb := B.bytes
  have hr := B.returns
  have hts := atoms_spec (ws := wsX5_hit) B.pre
  have hown : s.vm.findClass RX5 = some m.cls := findClass_of_methodNamed B.named
  have hlocks := B.notSynchronized
  subst hsz
  have hD := hD0.self (sz := s.heap.size)
  generalize hAe : va_A (kW cI cJ cZ cV cR a C) s.heap.size = A at hD hXE ⊢
  have hA : ∀ q : Nat, s.heap.size ≤ q → A q := fun q h => by rw [← hAe]; exact Or.inr h
  have hS : va_S A s.heap s.heap [] := va_S.rf
  have hP : va_P D vwCl (kX cI cJ cZ cV cR a (k_ra C) (k_rb C) (k_vc C) (k_rc C) (k_pc C) (k_nw C) (k_n C) (k_fn C) (k_sn C) (k_kc C) (k_grp C) (k_key C) (k_srt C) (k_wt C) (k_home C) (k_drp C) (k_met C) (k_kin C) (k_alv C) (k_srs C) (k_row C) (k_sp C) (k_kis C) (k_pg C) (k_vq C) (k_rq C) (k_L C) (k_F C)) s.heap := hP
  have hD : va_D A (kX cI cJ cZ cV cR a (k_ra C) (k_rb C) (k_vc C) (k_rc C) (k_pc C) (k_nw C) (k_n C) (k_fn C) (k_sn C) (k_kc C) (k_grp C) (k_key C) (k_srt C) (k_wt C) (k_home C) (k_drp C) (k_met C) (k_kin C) (k_alv C) (k_srs C) (k_row C) (k_sp C) (k_kis C) (k_pg C) (k_vq C) (k_rq C) (k_L C) (k_F C)) := hD
  have hl := lv_entry ([.ref (a 0), .int (x), .int (y), .long (sd), .int (k)]) (n := 7) (Nat.le_of_ble_eq_true rfl)
  rw [lg_entry_eq]
  generalize (lg_sl ([.ref (a 0), .int (x), .int (y), .long (sd), .int (k)]) ++ List.replicate (7 - (lg_sl ([.ref (a 0), .int (x), .int (y), .long (sd), .int (k)])).length) Slot.unset).toArray = ls at hl ⊢
  have hl : lv_has ls 7 [(0, .ref (a 0)), (1, .int (x)), (2, .int (y)), (3, .long (sd)), (5, .int (k))] := hl
  refine lv_aload_n hx hb dX5_hit_0 rfl (lv_at hl 0 rfl) ?_
  refine lv_iload_n hx hb dX5_hit_1 rfl (lv_at hl 1 rfl) ?_
  have hPm : va_P D vwCl (kW cI cJ cZ cV cR a C) s.heap := by exact hP
  have hDm : va_D A (kW cI cJ cZ cV cR a C) := by exact hD
  refine wx_V (As := [.int (x)]) (rest := []) (wf := kW cI cJ cZ cV cR a) ⟨hx, hb, hml, hown, hts⟩ (x_X5_viewAt l htr D cI cJ cZ cV cR a C hM x hbad s.heap.size) (cwV 1 hts gX5_hit_X5_viewAt rfl rfl rfl (by decide +kernel) ⟨Nat.le_of_ble_eq_true rfl, Nat.le_of_ble_eq_true rfl⟩) hPm hK hDm hS hA hXE 0 rfl rfl rfl hl.1 rfl (Nat.le_of_ble_eq_true rfl) dX5_hit_2 ⟨Nat.le_of_ble_eq_true rfl, Nat.le_of_ble_eq_true rfl⟩ (fun u hu H locs ce q9 hP hD hS hce hcv hcl => ?_)
  exact vx_out (fun x h => (hout x h).elim) hlocks hce hcv hcl (xxc_eq u hu hP hK hD hS) hS.2.2 (Nat.le_refl _) (Nat.le_refl _)
def rmx_X5_hit_i : Room := { frames := 6, cells := 1, slots := 6, locals := 82 }
set_option maxHeartbeats 4000000 in
set_option maxRecDepth 100000 in
/-- no such hit -/
theorem x_X5_hit_i (l : Launch) (htr : l.stackTraces = false) (D : va_G) (cI cJ cZ cV cR : ClassId) (a : Nat → Nat) (C : CT) (hM : kOk C) (q hs se c9 g9 st9 r9 n9 : Nat) (f9 : Nat → Nat) (hV : isV (k_L C) (k_F C) q hs se c9 g9 st9 r9) (hI : isI cI (k_L C) (k_F C) hs n9 f9) (hc9 : c9 ≤ n9) (hn9 : n9 ≤ 300) (hg9 : g9 ≤ 300) (hst9 : st9 ≤ 2) (hr9 : r9 ≤ 60) (hf9 : ∀ j, f9 j < 300) (i : Nat) (hi9 : i < k_vc C) (hq9 : k_vq C i = some q) (y : Int32) (sd : Int64) (x : Int32) (hbad : x.toInt < 0 ∨ ((c9 : Nat) : Int) ≤ x.toInt) (sz : Nat) : vx_Met l yX5_hit wsX5_hit rmx_X5_hit_i (va_Pc [.ref (a 0), .int (nI (i)), .int (y), .long (sd), .int (x)] (GX D (tyK cI cJ cZ cV cR) (kW cI cJ cZ cV cR a C) sz)) xNo (xXC D (tyK cI cJ cZ cV cR) "java/lang/IndexOutOfBoundsException" (fun u : CT => u = C) (kW cI cJ cZ cV cR a) (va_A (kW cI cJ cZ cV cR a C) sz)) 1 6 (va_A (kW cI cJ cZ cV cR a C) sz) := by
  obtain ⟨hn, hfn, hsn, hvc, hrc, hpc, hnw, hkc, h_home, h_kin, h_alv, h_srs, h_row, h_sp, h_kis, h_pg⟩ := id hM
  refine vx_ofW (cc := cX5_hit) (maxL := 7) (ret := (some .int)) (by decide) rfl ?_
  intro p e s m args below meth c s₁ B hml hout hv
  obtain ⟨rfl, ⟨hsz, hP, hK, hD0⟩, hXE⟩ := hv
  have hx := B.exec
  have hb := B.bytes
  have hr := B.returns
  have hts := atoms_spec (ws := wsX5_hit) B.pre
  have hown : s.vm.findClass RX5 = some m.cls := findClass_of_methodNamed B.named
  have hlocks := B.notSynchronized
  subst hsz
  have hD := hD0.self (sz := s.heap.size)
  generalize hAe : va_A (kW cI cJ cZ cV cR a C) s.heap.size = A at hD hXE ⊢
  have hA : ∀ q : Nat, s.heap.size ≤ q → A q := fun q h => by rw [← hAe]; exact Or.inr h
  have hS : va_S A s.heap s.heap [] := va_S.rf
  have hP : va_P D vwCl (kX cI cJ cZ cV cR a (k_ra C) (k_rb C) (k_vc C) (k_rc C) (k_pc C) (k_nw C) (k_n C) (k_fn C) (k_sn C) (k_kc C) (k_grp C) (k_key C) (k_srt C) (k_wt C) (k_home C) (k_drp C) (k_met C) (k_kin C) (k_alv C) (k_srs C) (k_row C) (k_sp C) (k_kis C) (k_pg C) (k_vq C) (k_rq C) (k_L C) (k_F C)) s.heap := hP
  have hD : va_D A (kX cI cJ cZ cV cR a (k_ra C) (k_rb C) (k_vc C) (k_rc C) (k_pc C) (k_nw C) (k_n C) (k_fn C) (k_sn C) (k_kc C) (k_grp C) (k_key C) (k_srt C) (k_wt C) (k_home C) (k_drp C) (k_met C) (k_kin C) (k_alv C) (k_srs C) (k_row C) (k_sp C) (k_kis C) (k_pg C) (k_vq C) (k_rq C) (k_L C) (k_F C)) := hD
  have hiX4 : ∀ w ∈ wsX40, w ∈ wsX5_hit := by decide +kernel
  have hf0 := hts (.classLink RX5 116 "java/lang/IndexOutOfBoundsException") (by decide +kernel)
  have hf1 := hts (.initialized "java/lang/IndexOutOfBoundsException") (by decide +kernel)
  have hf2 := hts (.fieldLink RX5 164 "GroupCursors$View" "count" "I") (by decide +kernel)
  have hl := lv_entry ([.ref (a 0), .int (nI (i)), .int (y), .long (sd), .int (x)]) (n := 7) (Nat.le_of_ble_eq_true rfl)
  rw [lg_entry_eq]
  generalize (lg_sl ([.ref (a 0), .int (nI (i)), .int (y), .long (sd), .int (x)]) ++ List.replicate (7 - (lg_sl ([.ref (a 0), .int (nI (i)), .int (y), .long (sd), .int (x)])).length) Slot.unset).toArray = ls at hl ⊢
  have hl : lv_has ls 7 [(0, .ref (a 0)), (1, .int (nI (i))), (2, .int (y)), (3, .long (sd)), (5, .int (x))] := hl
  refine lv_aload_n hx hb dX5_hit_0 rfl (lv_at hl 0 rfl) ?_
  refine lv_iload_n hx hb dX5_hit_1 rfl (lv_at hl 1 rfl) ?_
  have hPm : va_P D vwCl (kW cI cJ cZ cV cR a C) s.heap := by exact hP
  have hDm : va_D A (kW cI cJ cZ cV cR a C) := by exact hD
  refine wc_VWr (As := [.int (nI (i))]) (rest := []) (ra := Prod.fst) (wf := fun u => kW cI cJ cZ cV cR a u.2) ⟨hx, hb, hml, hown, hts⟩ (c_X5_viewAt l D cI cJ cZ cV cR a C hM (i) (q) (by omega) hq9 s.heap.size) (cwV 1 hts gX5_hit_X5_viewAt rfl rfl rfl (by decide +kernel) ⟨Nat.le_of_ble_eq_true rfl, Nat.le_of_ble_eq_true rfl⟩) hPm hK hDm hS hA 0 rfl rfl rfl hl.1 rfl (Nat.le_of_ble_eq_true rfl) dX5_hit_2 ⟨Nat.le_of_ble_eq_true rfl, Nat.le_of_ble_eq_true rfl⟩ (fun u1 hq1 H locs hP hD hS => ?_)
  have hu1 := hq1
  subst hu1
  have hP : va_P D vwCl (kX cI cJ cZ cV cR a (k_ra C) (k_rb C) (k_vc C) (k_rc C) (k_pc C) (k_nw C) (k_n C) (k_fn C) (k_sn C) (k_kc C) (k_grp C) (k_key C) (k_srt C) (k_wt C) (k_home C) (k_drp C) (k_met C) (k_kin C) (k_alv C) (k_srs C) (k_row C) (k_sp C) (k_kis C) (k_pg C) (k_vq C) (k_rq C) (k_L C) (k_F C)) H := hP
  have hD : va_D A (kX cI cJ cZ cV cR a (k_ra C) (k_rb C) (k_vc C) (k_rc C) (k_pc C) (k_nw C) (k_n C) (k_fn C) (k_sn C) (k_kc C) (k_grp C) (k_key C) (k_srt C) (k_wt C) (k_home C) (k_drp C) (k_met C) (k_kin C) (k_alv C) (k_srs C) (k_row C) (k_sp C) (k_kis C) (k_pg C) (k_vq C) (k_rq C) (k_L C) (k_F C)) := hD
  refine lv_astore (lv' := [(6, .ref (q)), (0, .ref (a 0)), (1, .int (nI (i))), (2, .int (y)), (3, .long (sd)), (5, .int (x))]) hx hb dX5_hit_5 hl (by decide) rfl (fun ls hl => ?_)
  refine lv_iload hx hb dX5_hit_7 (lv_at hl 5 rfl) ?_
  refine wz_if_lt (tgt := 22) hx hb ((x).toInt) rfl dX5_hit_9 (by decide) (fun c9_2 => ?_) (fun c9_2 => ?_)
  · have hPm : va_P D vwCl (kW cI cJ cZ cV cR a C) H := by exact hP
    have hDm : va_D A (kW cI cJ cZ cV cR a C) := by exact hD
    obtain ⟨sa, hsa⟩ := hXE.2.2.2.2 ("GroupCursors", 165, "no such hit") (by decide)
    exact vx_throwS hx hb htr hown (by decide) (by decide) hf0 hf1 hsa (xat_X5_120 hXE (fun w hw => hts w (by unfold wsX5_hit; simp only [List.mem_cons, List.mem_append, hw, or_true, true_or]))) xgd_X5_120 hXE.1 hXE.2.1 hS (hl.1.trans hml.symm) dX5_hit_22 dX5_hit_25 dX5_hit_26 dX5_hit_28 dX5_hit_31 (fun x h => (hout x h).elim) (Nat.le_of_ble_eq_true rfl) (Nat.le_of_ble_eq_true rfl) (Nat.le_of_ble_eq_true rfl) (Nat.le_of_ble_eq_true rfl) hlocks (xxc_mk C rfl hPm hK hDm hS) hS.2.2 (Nat.le_refl _) (Nat.le_refl _)
  · refine lv_iload hx hb dX5_hit_12 (lv_at hl 5 rfl) ?_
    refine lv_aload hx hb dX5_hit_14 (lv_at hl 0 rfl) ?_
    refine wp_get (ci := 4) (v := .int (nI (c9))) (C := RX4) (T := TX4) (N := 6) hx hb hts hiX4 hown hK hP hV.1 hV.2 rfl 2 (by decide) hf2 (fun _ h9 => h9) rfl dX5_hit_16 ?_
    refine wz_icmp_lt (tgt := 32) hx hb ((x).toInt) (((c9 : Nat) : Int)) rfl (nI_z (by omega)) dX5_hit_19 (by decide) (fun c19_3 => ?_) (fun c19_3 => ?_)
    · exfalso; omega
    · have hPm : va_P D vwCl (kW cI cJ cZ cV cR a C) H := by exact hP
      have hDm : va_D A (kW cI cJ cZ cV cR a C) := by exact hD
      obtain ⟨sa, hsa⟩ := hXE.2.2.2.2 ("GroupCursors", 165, "no such hit") (by decide)
      exact vx_throwS hx hb htr hown (by decide) (by decide) hf0 hf1 hsa (xat_X5_120 hXE (fun w hw => hts w (by unfold wsX5_hit; simp only [List.mem_cons, List.mem_append, hw, or_true, true_or]))) xgd_X5_120 hXE.1 hXE.2.1 hS (hl.1.trans hml.symm) dX5_hit_22 dX5_hit_25 dX5_hit_26 dX5_hit_28 dX5_hit_31 (fun x h => (hout x h).elim) (Nat.le_of_ble_eq_true rfl) (Nat.le_of_ble_eq_true rfl) (Nat.le_of_ble_eq_true rfl) (Nat.le_of_ble_eq_true rfl) hlocks (xxc_mk C rfl hPm hK hDm hS) hS.2.2 (Nat.le_refl _) (Nat.le_refl _)
def rmx_X5_hit_k : Room := { frames := 8, cells := 1, slots := 6, locals := 126 }
set_option maxHeartbeats 4000000 in
set_option maxRecDepth 100000 in
/-- no such kind -/
theorem x_X5_hit_k (l : Launch) (htr : l.stackTraces = false) (D : va_G) (cI cJ cZ cV cR : ClassId) (a : Nat → Nat) (C : CT) (hM : kOk C) (q hs se c9 g9 st9 r9 n9 : Nat) (f9 : Nat → Nat) (hV : isV (k_L C) (k_F C) q hs se c9 g9 st9 r9) (hI : isI cI (k_L C) (k_F C) hs n9 f9) (hc9 : c9 ≤ n9) (hn9 : n9 ≤ 300) (hg9 : g9 ≤ 300) (hst9 : st9 ≤ 2) (hr9 : r9 ≤ 60) (hf9 : ∀ j, f9 j < 300) (i : Nat) (hi9 : i < k_vc C) (hq9 : k_vq C i = some q) (x : Int32) (sd : Int64) (k9 : Nat) (hk9 : k9 < c9) (hbad : x.toInt < 0 ∨ ((3 : Nat) : Int) ≤ x.toInt) (sz : Nat) : vx_Met l yX5_hit wsX5_hit rmx_X5_hit_k (va_Pc [.ref (a 0), .int (nI (i)), .int (x), .long (sd), .int (nI (k9))] (GX D (tyK cI cJ cZ cV cR) (kW cI cJ cZ cV cR a C) sz)) xNo (xXC D (tyK cI cJ cZ cV cR) "java/lang/IllegalArgumentException" (fun u : CT => u = C) (kW cI cJ cZ cV cR a) (va_A (kW cI cJ cZ cV cR a C) sz)) 1 6 (va_A (kW cI cJ cZ cV cR a C) sz) := by
  obtain ⟨hn, hfn, hsn, hvc, hrc, hpc, hnw, hkc, h_home, h_kin, h_alv, h_srs, h_row, h_sp, h_kis, h_pg⟩ := id hM
  refine vx_ofW (cc := cX5_hit) (maxL := 7) (ret := (some .int)) (by decide) rfl ?_
  intro p e s m args below meth c s₁ B hml hout hv
  obtain ⟨rfl, ⟨hsz, hP, hK, hD0⟩, hXE⟩ := hv
  have hx := B.exec
  have hb := B.bytes
  have hr := B.returns
  have hts := atoms_spec (ws := wsX5_hit) B.pre
  have hown : s.vm.findClass RX5 = some m.cls := findClass_of_methodNamed B.named
  have hlocks := B.notSynchronized
  subst hsz
  have hD := hD0.self (sz := s.heap.size)
  generalize hAe : va_A (kW cI cJ cZ cV cR a C) s.heap.size = A at hD hXE ⊢
  have hA : ∀ q : Nat, s.heap.size ≤ q → A q := fun q h => by rw [← hAe]; exact Or.inr h
  have hS : va_S A s.heap s.heap [] := va_S.rf
  have hP : va_P D vwCl (kX cI cJ cZ cV cR a (k_ra C) (k_rb C) (k_vc C) (k_rc C) (k_pc C) (k_nw C) (k_n C) (k_fn C) (k_sn C) (k_kc C) (k_grp C) (k_key C) (k_srt C) (k_wt C) (k_home C) (k_drp C) (k_met C) (k_kin C) (k_alv C) (k_srs C) (k_row C) (k_sp C) (k_kis C) (k_pg C) (k_vq C) (k_rq C) (k_L C) (k_F C)) s.heap := hP
  have hD : va_D A (kX cI cJ cZ cV cR a (k_ra C) (k_rb C) (k_vc C) (k_rc C) (k_pc C) (k_nw C) (k_n C) (k_fn C) (k_sn C) (k_kc C) (k_grp C) (k_key C) (k_srt C) (k_wt C) (k_home C) (k_drp C) (k_met C) (k_kin C) (k_alv C) (k_srs C) (k_row C) (k_sp C) (k_kis C) (k_pg C) (k_vq C) (k_rq C) (k_L C) (k_F C)) := hD
  have hiX4 : ∀ w ∈ wsX40, w ∈ wsX5_hit := by decide +kernel
  have hf0 := hts (.fieldLink RX5 164 "GroupCursors$View" "count" "I") (by decide +kernel)
  have hl := lv_entry ([.ref (a 0), .int (nI (i)), .int (x), .long (sd), .int (nI (k9))]) (n := 7) (Nat.le_of_ble_eq_true rfl)
  rw [lg_entry_eq]
  generalize (lg_sl ([.ref (a 0), .int (nI (i)), .int (x), .long (sd), .int (nI (k9))]) ++ List.replicate (7 - (lg_sl ([.ref (a 0), .int (nI (i)), .int (x), .long (sd), .int (nI (k9))])).length) Slot.unset).toArray = ls at hl ⊢
  have hl : lv_has ls 7 [(0, .ref (a 0)), (1, .int (nI (i))), (2, .int (x)), (3, .long (sd)), (5, .int (nI (k9)))] := hl
  refine lv_aload_n hx hb dX5_hit_0 rfl (lv_at hl 0 rfl) ?_
  refine lv_iload_n hx hb dX5_hit_1 rfl (lv_at hl 1 rfl) ?_
  have hPm : va_P D vwCl (kW cI cJ cZ cV cR a C) s.heap := by exact hP
  have hDm : va_D A (kW cI cJ cZ cV cR a C) := by exact hD
  refine wc_VWr (As := [.int (nI (i))]) (rest := []) (ra := Prod.fst) (wf := fun u => kW cI cJ cZ cV cR a u.2) ⟨hx, hb, hml, hown, hts⟩ (c_X5_viewAt l D cI cJ cZ cV cR a C hM (i) (q) (by omega) hq9 s.heap.size) (cwV 1 hts gX5_hit_X5_viewAt rfl rfl rfl (by decide +kernel) ⟨Nat.le_of_ble_eq_true rfl, Nat.le_of_ble_eq_true rfl⟩) hPm hK hDm hS hA 0 rfl rfl rfl hl.1 rfl (Nat.le_of_ble_eq_true rfl) dX5_hit_2 ⟨Nat.le_of_ble_eq_true rfl, Nat.le_of_ble_eq_true rfl⟩ (fun u1 hq1 H locs hP hD hS => ?_)
  have hu1 := hq1
  subst hu1
  have hP : va_P D vwCl (kX cI cJ cZ cV cR a (k_ra C) (k_rb C) (k_vc C) (k_rc C) (k_pc C) (k_nw C) (k_n C) (k_fn C) (k_sn C) (k_kc C) (k_grp C) (k_key C) (k_srt C) (k_wt C) (k_home C) (k_drp C) (k_met C) (k_kin C) (k_alv C) (k_srs C) (k_row C) (k_sp C) (k_kis C) (k_pg C) (k_vq C) (k_rq C) (k_L C) (k_F C)) H := hP
  have hD : va_D A (kX cI cJ cZ cV cR a (k_ra C) (k_rb C) (k_vc C) (k_rc C) (k_pc C) (k_nw C) (k_n C) (k_fn C) (k_sn C) (k_kc C) (k_grp C) (k_key C) (k_srt C) (k_wt C) (k_home C) (k_drp C) (k_met C) (k_kin C) (k_alv C) (k_srs C) (k_row C) (k_sp C) (k_kis C) (k_pg C) (k_vq C) (k_rq C) (k_L C) (k_F C)) := hD
  refine lv_astore (lv' := [(6, .ref (q)), (0, .ref (a 0)), (1, .int (nI (i))), (2, .int (x)), (3, .long (sd)), (5, .int (nI (k9)))]) hx hb dX5_hit_5 hl (by decide) rfl (fun ls hl => ?_)
  refine lv_iload hx hb dX5_hit_7 (lv_at hl 5 rfl) ?_
  refine wz_if_lt (tgt := 22) hx hb (((k9 : Nat) : Int)) (nI_z (by omega)) dX5_hit_9 (by decide) (fun c9_2 => ?_) (fun c9_2 => ?_)
  · exfalso; omega
  · refine lv_iload hx hb dX5_hit_12 (lv_at hl 5 rfl) ?_
    refine lv_aload hx hb dX5_hit_14 (lv_at hl 0 rfl) ?_
    refine wp_get (ci := 4) (v := .int (nI (c9))) (C := RX4) (T := TX4) (N := 6) hx hb hts hiX4 hown hK hP hV.1 hV.2 rfl 2 (by decide) hf0 (fun _ h9 => h9) rfl dX5_hit_16 ?_
    refine wn_icmp_lt (a := k9) (b := c9) (tgt := 32) hx hb (nI_z (by omega)) (nI_z (by omega)) dX5_hit_19 (by decide) (fun c19_3 => ?_) (fun c19_3 => ?_)
    · refine lv_aload_n hx hb dX5_hit_32 rfl (lv_at hl 1 rfl) ?_
      refine lv_aload hx hb dX5_hit_33 (lv_at hl 0 rfl) ?_
      refine lv_iload_n hx hb dX5_hit_35 rfl (lv_at hl 3 rfl) ?_
      refine lv_lload_n hx hb dX5_hit_36 rfl (lv_at hl 4 rfl) ?_
      have hPm : va_P D vwCl (kW cI cJ cZ cV cR a C) H := by exact hP
      have hDm : va_D A (kW cI cJ cZ cV cR a C) := by exact hD
      refine wx_V (As := [.ref (q), .int (x), .long (sd)]) (rest := []) (wf := kW cI cJ cZ cV cR a) ⟨hx, hb, hml, hown, hts⟩ (x_X5_rankHits l htr D cI cJ cZ cV cR a C hM q hs se c9 g9 st9 r9 n9 f9 hV hI hc9 hn9 hg9 hst9 hr9 hf9 x sd hbad H.size) (cwV 3 hts gX5_hit_X5_rankHits rfl rfl rfl (by decide +kernel) ⟨Nat.le_of_ble_eq_true rfl, Nat.le_of_ble_eq_true rfl⟩) hPm hK hDm hS hA hXE 0 rfl rfl rfl hl.1 rfl (Nat.le_of_ble_eq_true rfl) dX5_hit_37 ⟨Nat.le_of_ble_eq_true rfl, Nat.le_of_ble_eq_true rfl⟩ (fun u hu H locs ce q9 hP hD hS hce hcv hcl => ?_)
      exact vx_out (fun x h => (hout x h).elim) hlocks hce hcv hcl (xxc_eq u hu hP hK hD hS) hS.2.2 (Nat.le_refl _) (Nat.le_refl _)
    · exfalso; omega
def rm_X5_place : Room := { frames := 4, cells := 0, slots := 0, locals := 98 }
set_option maxHeartbeats 4000000 in
set_option maxRecDepth 100000 in
/-- the place of an object -/
theorem c_X5_place (l : Launch) (D : va_G) (cI cJ cZ cV cR : ClassId) (a : Nat → Nat) (C : CT) (hM : kOk C) (q hs se c9 g9 st9 r9 n9 : Nat) (f9 : Nat → Nat) (hV : isV (k_L C) (k_F C) q hs se c9 g9 st9 r9) (hI : isI cI (k_L C) (k_F C) hs n9 f9) (hc9 : c9 ≤ n9) (hn9 : n9 ≤ 300) (hg9 : g9 ≤ 300) (hst9 : st9 ≤ 2) (hr9 : r9 ≤ 60) (hf9 : ∀ j, f9 j < 300) (i : Nat) (hi9 : i < k_vc C) (hq9 : k_vq C i = some q) (kd : Nat) (sd : Int64) (o9 : Nat) (hkd : kd < 3) (ho9 : o9 < k_n C) (sz : Nat) : Met l yX5_place wsX5_place rm_X5_place (va_Pc [.ref (a 0), .int (nI (i)), .int (nI (kd)), .long (sd), .int (nI (o9))] (GW D (tyK cI cJ cZ cV cR) (kW cI cJ cZ cV cR a C) sz)) (va_Qi (fun rr u => rr = zI (findF (k_row (rkM C f9 c9 kd sd)) (k_kc (rkM C f9 c9 kd sd)) o9) ∧ u = rkM C f9 c9 kd sd) (fun u => GB D (tyK cI cJ cZ cV cR) (va_A (kW cI cJ cZ cV cR a C) sz) (kW cI cJ cZ cV cR a u)) (va_A (kW cI cJ cZ cV cR a C) sz)) 0 0 (va_A (kW cI cJ cZ cV cR a C) sz) := by
  obtain ⟨hn, hfn, hsn, hvc, hrc, hpc, hnw, hkc, h_home, h_kin, h_alv, h_srs, h_row, h_sp, h_kis, h_pg⟩ := id hM
  refine Met.ofW (cc := cX5_place) (maxL := 7) (ret := (some .int)) (by decide) rfl ?_
  intro p e s m args below meth c s₁ B hml hv
  obtain ⟨rfl, hsz, hP, hK, hD0⟩ := hv
  have hx := B.exec
  have hb := B.bytes
  have hr := B.returns
  have hts := atoms_spec (ws := wsX5_place) B.pre
  have hown : s.vm.findClass RX5 = some m.cls := findClass_of_methodNamed B.named
  have hlocks := B.notSynchronized
  subst hsz
  have hD := hD0.self (sz := s.heap.size)
  generalize hAe : va_A (kW cI cJ cZ cV cR a C) s.heap.size = A at hD ⊢
  have hA : ∀ q : Nat, s.heap.size ≤ q → A q := fun q h => by rw [← hAe]; exact Or.inr h
  have hS : va_S A s.heap s.heap [] := va_S.rf
  have hP : va_P D vwCl (kX cI cJ cZ cV cR a (k_ra C) (k_rb C) (k_vc C) (k_rc C) (k_pc C) (k_nw C) (k_n C) (k_fn C) (k_sn C) (k_kc C) (k_grp C) (k_key C) (k_srt C) (k_wt C) (k_home C) (k_drp C) (k_met C) (k_kin C) (k_alv C) (k_srs C) (k_row C) (k_sp C) (k_kis C) (k_pg C) (k_vq C) (k_rq C) (k_L C) (k_F C)) s.heap := hP
  have hD : va_D A (kX cI cJ cZ cV cR a (k_ra C) (k_rb C) (k_vc C) (k_rc C) (k_pc C) (k_nw C) (k_n C) (k_fn C) (k_sn C) (k_kc C) (k_grp C) (k_key C) (k_srt C) (k_wt C) (k_home C) (k_drp C) (k_met C) (k_kin C) (k_alv C) (k_srs C) (k_row C) (k_sp C) (k_kis C) (k_pg C) (k_vq C) (k_rq C) (k_L C) (k_F C)) := hD
  have hiX5 : ∀ w ∈ wsX50, w ∈ wsX5_place := by decide +kernel
  have hf0 := hts (.fieldLink RX5 28 "GroupCursors" "ranking" "LGroupCursors$Ranking;") (by decide +kernel)
  have hl := lv_entry ([.ref (a 0), .int (nI (i)), .int (nI (kd)), .long (sd), .int (nI (o9))]) (n := 7) (Nat.le_of_ble_eq_true rfl)
  rw [lg_entry_eq]
  generalize (lg_sl ([.ref (a 0), .int (nI (i)), .int (nI (kd)), .long (sd), .int (nI (o9))]) ++ List.replicate (7 - (lg_sl ([.ref (a 0), .int (nI (i)), .int (nI (kd)), .long (sd), .int (nI (o9))])).length) Slot.unset).toArray = ls at hl ⊢
  have hl : lv_has ls 7 [(0, .ref (a 0)), (1, .int (nI (i))), (2, .int (nI (kd))), (3, .long (sd)), (5, .int (nI (o9)))] := hl
  refine lv_aload_n hx hb dX5_place_0 rfl (lv_at hl 0 rfl) ?_
  refine lv_iload_n hx hb dX5_place_1 rfl (lv_at hl 1 rfl) ?_
  have hPm : va_P D vwCl (kW cI cJ cZ cV cR a C) s.heap := by exact hP
  have hDm : va_D A (kW cI cJ cZ cV cR a C) := by exact hD
  refine wc_VWr (As := [.int (nI (i))]) (rest := []) (ra := Prod.fst) (wf := fun u => kW cI cJ cZ cV cR a u.2) ⟨hx, hb, hml, hown, hts⟩ (c_X5_viewAt l D cI cJ cZ cV cR a C hM (i) (q) (by omega) hq9 s.heap.size) (cwV 1 hts gX5_place_X5_viewAt rfl rfl rfl (by decide +kernel) ⟨Nat.le_of_ble_eq_true rfl, Nat.le_of_ble_eq_true rfl⟩) hPm hK hDm hS hA 0 rfl rfl rfl hl.1 rfl (Nat.le_of_ble_eq_true rfl) dX5_place_2 ⟨Nat.le_of_ble_eq_true rfl, Nat.le_of_ble_eq_true rfl⟩ (fun u1 hq1 H locs hP hD hS => ?_)
  have hu1 := hq1
  subst hu1
  have hP : va_P D vwCl (kX cI cJ cZ cV cR a (k_ra C) (k_rb C) (k_vc C) (k_rc C) (k_pc C) (k_nw C) (k_n C) (k_fn C) (k_sn C) (k_kc C) (k_grp C) (k_key C) (k_srt C) (k_wt C) (k_home C) (k_drp C) (k_met C) (k_kin C) (k_alv C) (k_srs C) (k_row C) (k_sp C) (k_kis C) (k_pg C) (k_vq C) (k_rq C) (k_L C) (k_F C)) H := hP
  have hD : va_D A (kX cI cJ cZ cV cR a (k_ra C) (k_rb C) (k_vc C) (k_rc C) (k_pc C) (k_nw C) (k_n C) (k_fn C) (k_sn C) (k_kc C) (k_grp C) (k_key C) (k_srt C) (k_wt C) (k_home C) (k_drp C) (k_met C) (k_kin C) (k_alv C) (k_srs C) (k_row C) (k_sp C) (k_kis C) (k_pg C) (k_vq C) (k_rq C) (k_L C) (k_F C)) := hD
  refine lv_astore (lv' := [(6, .ref (q)), (0, .ref (a 0)), (1, .int (nI (i))), (2, .int (nI (kd))), (3, .long (sd)), (5, .int (nI (o9)))]) hx hb dX5_place_5 hl (by decide) rfl (fun ls hl => ?_)
  refine lv_aload_n hx hb dX5_place_7 rfl (lv_at hl 1 rfl) ?_
  refine lv_iload hx hb dX5_place_8 (lv_at hl 5 rfl) ?_
  have hPm : va_P D vwCl (kW cI cJ cZ cV cR a C) H := by exact hP
  have hDm : va_D A (kW cI cJ cZ cV cR a C) := by exact hD
  refine wc_VWv (As := [.int (nI (o9))]) (rest := []) (wf := kW cI cJ cZ cV cR a) ⟨hx, hb, hml, hown, hts⟩ (c_X5_checkObject l D cI cJ cZ cV cR a C hM (o9) (by omega) H.size) (cwV 1 hts gX5_place_X5_checkObject rfl rfl rfl (by decide +kernel) ⟨Nat.le_of_ble_eq_true rfl, Nat.le_of_ble_eq_true rfl⟩) hPm hK hDm hS hA 0 rfl rfl rfl hl.1 rfl (Nat.le_of_ble_eq_true rfl) dX5_place_10 ⟨Nat.le_of_ble_eq_true rfl, Nat.le_of_ble_eq_true rfl⟩ (fun u2 hq2 H locs hP hD hS => ?_)
  have hu2 := hq2.symm
  subst hu2
  have hP : va_P D vwCl (kX cI cJ cZ cV cR a (k_ra C) (k_rb C) (k_vc C) (k_rc C) (k_pc C) (k_nw C) (k_n C) (k_fn C) (k_sn C) (k_kc C) (k_grp C) (k_key C) (k_srt C) (k_wt C) (k_home C) (k_drp C) (k_met C) (k_kin C) (k_alv C) (k_srs C) (k_row C) (k_sp C) (k_kis C) (k_pg C) (k_vq C) (k_rq C) (k_L C) (k_F C)) H := hP
  have hD : va_D A (kX cI cJ cZ cV cR a (k_ra C) (k_rb C) (k_vc C) (k_rc C) (k_pc C) (k_nw C) (k_n C) (k_fn C) (k_sn C) (k_kc C) (k_grp C) (k_key C) (k_srt C) (k_wt C) (k_home C) (k_drp C) (k_met C) (k_kin C) (k_alv C) (k_srs C) (k_row C) (k_sp C) (k_kis C) (k_pg C) (k_vq C) (k_rq C) (k_L C) (k_F C)) := hD
  refine lv_aload_n hx hb dX5_place_13 rfl (lv_at hl 1 rfl) ?_
  refine lv_aload hx hb dX5_place_14 (lv_at hl 0 rfl) ?_
  refine lv_iload_n hx hb dX5_place_16 rfl (lv_at hl 3 rfl) ?_
  refine lv_lload_n hx hb dX5_place_17 rfl (lv_at hl 4 rfl) ?_
  have hPm : va_P D vwCl (kW cI cJ cZ cV cR a C) H := by exact hP
  have hDm : va_D A (kW cI cJ cZ cV cR a C) := by exact hD
  refine wc_VWv (As := [.ref (q), .int (nI (kd)), .long (sd)]) (rest := []) (wf := kW cI cJ cZ cV cR a) ⟨hx, hb, hml, hown, hts⟩ (c_X5_rankHits l D cI cJ cZ cV cR a C hM (q) (hs) (se) (c9) (g9) (st9) (r9) (n9) (f9) hV hI (by omega) (by omega) (by omega) (by omega) (by omega) hf9 (kd) (sd) (by omega) H.size) (cwV 3 hts gX5_place_X5_rankHits rfl rfl rfl (by decide +kernel) ⟨Nat.le_of_ble_eq_true rfl, Nat.le_of_ble_eq_true rfl⟩) hPm hK hDm hS hA 0 rfl rfl rfl hl.1 rfl (Nat.le_of_ble_eq_true rfl) dX5_place_18 ⟨Nat.le_of_ble_eq_true rfl, Nat.le_of_ble_eq_true rfl⟩ (fun u3 hq3 H locs hP hD hS => ?_)
  have hu3 := hq3.symm
  subst hu3
  have hP : va_P D vwCl (kX cI cJ cZ cV cR a (k_ra (rkM C (f9) (c9) (kd) (sd))) (k_rb (rkM C (f9) (c9) (kd) (sd))) (k_vc (rkM C (f9) (c9) (kd) (sd))) (k_rc (rkM C (f9) (c9) (kd) (sd))) (k_pc (rkM C (f9) (c9) (kd) (sd))) (k_nw (rkM C (f9) (c9) (kd) (sd))) (k_n (rkM C (f9) (c9) (kd) (sd))) (k_fn (rkM C (f9) (c9) (kd) (sd))) (k_sn (rkM C (f9) (c9) (kd) (sd))) (k_kc (rkM C (f9) (c9) (kd) (sd))) (k_grp (rkM C (f9) (c9) (kd) (sd))) (k_key (rkM C (f9) (c9) (kd) (sd))) (k_srt (rkM C (f9) (c9) (kd) (sd))) (k_wt (rkM C (f9) (c9) (kd) (sd))) (k_home (rkM C (f9) (c9) (kd) (sd))) (k_drp (rkM C (f9) (c9) (kd) (sd))) (k_met (rkM C (f9) (c9) (kd) (sd))) (k_kin (rkM C (f9) (c9) (kd) (sd))) (k_alv (rkM C (f9) (c9) (kd) (sd))) (k_srs (rkM C (f9) (c9) (kd) (sd))) (k_row (rkM C (f9) (c9) (kd) (sd))) (k_sp (rkM C (f9) (c9) (kd) (sd))) (k_kis (rkM C (f9) (c9) (kd) (sd))) (k_pg (rkM C (f9) (c9) (kd) (sd))) (k_vq (rkM C (f9) (c9) (kd) (sd))) (k_rq (rkM C (f9) (c9) (kd) (sd))) (k_L (rkM C (f9) (c9) (kd) (sd))) (k_F (rkM C (f9) (c9) (kd) (sd)))) H := hP
  have hD : va_D A (kX cI cJ cZ cV cR a (k_ra (rkM C (f9) (c9) (kd) (sd))) (k_rb (rkM C (f9) (c9) (kd) (sd))) (k_vc (rkM C (f9) (c9) (kd) (sd))) (k_rc (rkM C (f9) (c9) (kd) (sd))) (k_pc (rkM C (f9) (c9) (kd) (sd))) (k_nw (rkM C (f9) (c9) (kd) (sd))) (k_n (rkM C (f9) (c9) (kd) (sd))) (k_fn (rkM C (f9) (c9) (kd) (sd))) (k_sn (rkM C (f9) (c9) (kd) (sd))) (k_kc (rkM C (f9) (c9) (kd) (sd))) (k_grp (rkM C (f9) (c9) (kd) (sd))) (k_key (rkM C (f9) (c9) (kd) (sd))) (k_srt (rkM C (f9) (c9) (kd) (sd))) (k_wt (rkM C (f9) (c9) (kd) (sd))) (k_home (rkM C (f9) (c9) (kd) (sd))) (k_drp (rkM C (f9) (c9) (kd) (sd))) (k_met (rkM C (f9) (c9) (kd) (sd))) (k_kin (rkM C (f9) (c9) (kd) (sd))) (k_alv (rkM C (f9) (c9) (kd) (sd))) (k_srs (rkM C (f9) (c9) (kd) (sd))) (k_row (rkM C (f9) (c9) (kd) (sd))) (k_sp (rkM C (f9) (c9) (kd) (sd))) (k_kis (rkM C (f9) (c9) (kd) (sd))) (k_pg (rkM C (f9) (c9) (kd) (sd))) (k_vq (rkM C (f9) (c9) (kd) (sd))) (k_rq (rkM C (f9) (c9) (kd) (sd))) (k_L (rkM C (f9) (c9) (kd) (sd))) (k_F (rkM C (f9) (c9) (kd) (sd)))) := hD
  refine lv_aload_n hx hb dX5_place_21 rfl (lv_at hl 1 rfl) ?_
  refine va_get (ci := 5) (v := .ref (a 11)) (C := RX5) (T := TX5) (N := 10) hx hb hts hiX5 hown hK hP 0 rfl rfl 2 (by decide) hf0 (fun _ h9 => h9) rfl dX5_place_22 ?_
  refine lv_iload hx hb dX5_place_25 (lv_at hl 5 rfl) ?_
  have hPm : va_P D vwCl (kW cI cJ cZ cV cR a (rkM C (f9) (c9) (kd) (sd))) H := by exact hP
  refine wc_Vi (As := [.int (nI (o9))]) (rest := []) ⟨hx, hb, hml, hown, hts⟩ (c_X0_find l D cI cJ cZ cV cR a (rkM C (f9) (c9) (kd) (sd)) (ok_rkM hM (by omega) hf9) (o9) (by omega)) (cwV 1 hts gX5_place_X0_find rfl rfl rfl (by decide +kernel) ⟨Nat.le_of_ble_eq_true rfl, Nat.le_of_ble_eq_true rfl⟩) hPm hK 11 rfl rfl rfl hl.1 rfl (Nat.le_of_ble_eq_true rfl) dX5_place_27 ⟨Nat.zero_le _, Nat.zero_le _⟩ (fun rr hq4 => ?_)
  have hq4 : rr = zI (findF (k_row (rkM C (f9) (c9) (kd) (sd))) (k_kc (rkM C (f9) (c9) (kd) (sd))) o9) := hq4
  subst hq4
  have hPm : va_P D vwCl (kW cI cJ cZ cV cR a (rkM C (f9) (c9) (kd) (sd))) H := by exact hP
  have hDm : va_D A (kW cI cJ cZ cV cR a (rkM C (f9) (c9) (kd) (sd))) := by exact hD
  exact W.iret (v := zI (findF (k_row (rkM C (f9) (c9) (kd) (sd))) (k_kc (rkM C (f9) (c9) (kd) (sd))) o9)) hx hb hr (fun t ht hW => ⟨⟨_, (rkM C (f9) (c9) (kd) (sd)), rfl, ⟨rfl, rfl⟩, gb_mk ht hW hPm hK hDm⟩, hS.F ht⟩) hS.2.2 dX5_place_30
def rmx_X5_place_v : Room := { frames := 7, cells := 1, slots := 6, locals := 104 }
set_option maxHeartbeats 4000000 in
set_option maxRecDepth 100000 in
/-- no such view -/
theorem x_X5_place_v (l : Launch) (htr : l.stackTraces = false) (D : va_G) (cI cJ cZ cV cR : ClassId) (a : Nat → Nat) (C : CT) (hM : kOk C) (x y : Int32) (sd : Int64) (k : Int32) (hbad : x.toInt < 0 ∨ ((k_vc C : Nat) : Int) ≤ x.toInt) (sz : Nat) : vx_Met l yX5_place wsX5_place rmx_X5_place_v (va_Pc [.ref (a 0), .int (x), .int (y), .long (sd), .int (k)] (GX D (tyK cI cJ cZ cV cR) (kW cI cJ cZ cV cR a C) sz)) xNo (xXC D (tyK cI cJ cZ cV cR) "java/lang/IndexOutOfBoundsException" (fun u : CT => u = C) (kW cI cJ cZ cV cR a) (va_A (kW cI cJ cZ cV cR a C) sz)) 1 6 (va_A (kW cI cJ cZ cV cR a C) sz) := by
  obtain ⟨hn, hfn, hsn, hvc, hrc, hpc, hnw, hkc, h_home, h_kin, h_alv, h_srs, h_row, h_sp, h_kis, h_pg⟩ := id hM
  refine vx_ofW (cc := cX5_place) (maxL := 7) (ret := (some .int)) (by decide) rfl ?_
  intro p e s m args below meth c s₁ B hml hout hv
  obtain ⟨rfl, ⟨hsz, hP, hK, hD0⟩, hXE⟩ := hv
  have hx := B.exec
  have hb := B.bytes
  have hr := B.returns
  have hts := atoms_spec (ws := wsX5_place) B.pre
  have hown : s.vm.findClass RX5 = some m.cls := findClass_of_methodNamed B.named
  have hlocks := B.notSynchronized
  subst hsz
  have hD := hD0.self (sz := s.heap.size)
  generalize hAe : va_A (kW cI cJ cZ cV cR a C) s.heap.size = A at hD hXE ⊢
  have hA : ∀ q : Nat, s.heap.size ≤ q → A q := fun q h => by rw [← hAe]; exact Or.inr h
  have hS : va_S A s.heap s.heap [] := va_S.rf
  have hP : va_P D vwCl (kX cI cJ cZ cV cR a (k_ra C) (k_rb C) (k_vc C) (k_rc C) (k_pc C) (k_nw C) (k_n C) (k_fn C) (k_sn C) (k_kc C) (k_grp C) (k_key C) (k_srt C) (k_wt C) (k_home C) (k_drp C) (k_met C) (k_kin C) (k_alv C) (k_srs C) (k_row C) (k_sp C) (k_kis C) (k_pg C) (k_vq C) (k_rq C) (k_L C) (k_F C)) s.heap := hP
  have hD : va_D A (kX cI cJ cZ cV cR a (k_ra C) (k_rb C) (k_vc C) (k_rc C) (k_pc C) (k_nw C) (k_n C) (k_fn C) (k_sn C) (k_kc C) (k_grp C) (k_key C) (k_srt C) (k_wt C) (k_home C) (k_drp C) (k_met C) (k_kin C) (k_alv C) (k_srs C) (k_row C) (k_sp C) (k_kis C) (k_pg C) (k_vq C) (k_rq C) (k_L C) (k_F C)) := hD
  have hl := lv_entry ([.ref (a 0), .int (x), .int (y), .long (sd), .int (k)]) (n := 7) (Nat.le_of_ble_eq_true rfl)
  rw [lg_entry_eq]
  generalize (lg_sl ([.ref (a 0), .int (x), .int (y), .long (sd), .int (k)]) ++ List.replicate (7 - (lg_sl ([.ref (a 0), .int (x), .int (y), .long (sd), .int (k)])).length) Slot.unset).toArray = ls at hl ⊢
  have hl : lv_has ls 7 [(0, .ref (a 0)), (1, .int (x)), (2, .int (y)), (3, .long (sd)), (5, .int (k))] := hl
  refine lv_aload_n hx hb dX5_place_0 rfl (lv_at hl 0 rfl) ?_
  refine lv_iload_n hx hb dX5_place_1 rfl (lv_at hl 1 rfl) ?_
  have hPm : va_P D vwCl (kW cI cJ cZ cV cR a C) s.heap := by exact hP
  have hDm : va_D A (kW cI cJ cZ cV cR a C) := by exact hD
  refine wx_V (As := [.int (x)]) (rest := []) (wf := kW cI cJ cZ cV cR a) ⟨hx, hb, hml, hown, hts⟩ (x_X5_viewAt l htr D cI cJ cZ cV cR a C hM x hbad s.heap.size) (cwV 1 hts gX5_place_X5_viewAt rfl rfl rfl (by decide +kernel) ⟨Nat.le_of_ble_eq_true rfl, Nat.le_of_ble_eq_true rfl⟩) hPm hK hDm hS hA hXE 0 rfl rfl rfl hl.1 rfl (Nat.le_of_ble_eq_true rfl) dX5_place_2 ⟨Nat.le_of_ble_eq_true rfl, Nat.le_of_ble_eq_true rfl⟩ (fun u hu H locs ce q9 hP hD hS hce hcv hcl => ?_)
  exact vx_out (fun x h => (hout x h).elim) hlocks hce hcv hcl (xxc_eq u hu hP hK hD hS) hS.2.2 (Nat.le_refl _) (Nat.le_refl _)
def rmx_X5_place_o : Room := { frames := 7, cells := 1, slots := 6, locals := 103 }
set_option maxHeartbeats 4000000 in
set_option maxRecDepth 100000 in
/-- no such object -/
theorem x_X5_place_o (l : Launch) (htr : l.stackTraces = false) (D : va_G) (cI cJ cZ cV cR : ClassId) (a : Nat → Nat) (C : CT) (hM : kOk C) (q hs se c9 g9 st9 r9 n9 : Nat) (f9 : Nat → Nat) (hV : isV (k_L C) (k_F C) q hs se c9 g9 st9 r9) (hI : isI cI (k_L C) (k_F C) hs n9 f9) (hc9 : c9 ≤ n9) (hn9 : n9 ≤ 300) (hg9 : g9 ≤ 300) (hst9 : st9 ≤ 2) (hr9 : r9 ≤ 60) (hf9 : ∀ j, f9 j < 300) (i : Nat) (hi9 : i < k_vc C) (hq9 : k_vq C i = some q) (y : Int32) (sd : Int64) (x : Int32) (hbad : x.toInt < 0 ∨ ((k_n C : Nat) : Int) ≤ x.toInt) (sz : Nat) : vx_Met l yX5_place wsX5_place rmx_X5_place_o (va_Pc [.ref (a 0), .int (nI (i)), .int (y), .long (sd), .int (x)] (GX D (tyK cI cJ cZ cV cR) (kW cI cJ cZ cV cR a C) sz)) xNo (xXC D (tyK cI cJ cZ cV cR) "java/lang/IndexOutOfBoundsException" (fun u : CT => u = C) (kW cI cJ cZ cV cR a) (va_A (kW cI cJ cZ cV cR a C) sz)) 1 6 (va_A (kW cI cJ cZ cV cR a C) sz) := by
  obtain ⟨hn, hfn, hsn, hvc, hrc, hpc, hnw, hkc, h_home, h_kin, h_alv, h_srs, h_row, h_sp, h_kis, h_pg⟩ := id hM
  refine vx_ofW (cc := cX5_place) (maxL := 7) (ret := (some .int)) (by decide) rfl ?_
  intro p e s m args below meth c s₁ B hml hout hv
  obtain ⟨rfl, ⟨hsz, hP, hK, hD0⟩, hXE⟩ := hv
  have hx := B.exec
  have hb := B.bytes
  have hr := B.returns
  have hts := atoms_spec (ws := wsX5_place) B.pre
  have hown : s.vm.findClass RX5 = some m.cls := findClass_of_methodNamed B.named
  have hlocks := B.notSynchronized
  subst hsz
  have hD := hD0.self (sz := s.heap.size)
  generalize hAe : va_A (kW cI cJ cZ cV cR a C) s.heap.size = A at hD hXE ⊢
  have hA : ∀ q : Nat, s.heap.size ≤ q → A q := fun q h => by rw [← hAe]; exact Or.inr h
  have hS : va_S A s.heap s.heap [] := va_S.rf
  have hP : va_P D vwCl (kX cI cJ cZ cV cR a (k_ra C) (k_rb C) (k_vc C) (k_rc C) (k_pc C) (k_nw C) (k_n C) (k_fn C) (k_sn C) (k_kc C) (k_grp C) (k_key C) (k_srt C) (k_wt C) (k_home C) (k_drp C) (k_met C) (k_kin C) (k_alv C) (k_srs C) (k_row C) (k_sp C) (k_kis C) (k_pg C) (k_vq C) (k_rq C) (k_L C) (k_F C)) s.heap := hP
  have hD : va_D A (kX cI cJ cZ cV cR a (k_ra C) (k_rb C) (k_vc C) (k_rc C) (k_pc C) (k_nw C) (k_n C) (k_fn C) (k_sn C) (k_kc C) (k_grp C) (k_key C) (k_srt C) (k_wt C) (k_home C) (k_drp C) (k_met C) (k_kin C) (k_alv C) (k_srs C) (k_row C) (k_sp C) (k_kis C) (k_pg C) (k_vq C) (k_rq C) (k_L C) (k_F C)) := hD
  have hl := lv_entry ([.ref (a 0), .int (nI (i)), .int (y), .long (sd), .int (x)]) (n := 7) (Nat.le_of_ble_eq_true rfl)
  rw [lg_entry_eq]
  generalize (lg_sl ([.ref (a 0), .int (nI (i)), .int (y), .long (sd), .int (x)]) ++ List.replicate (7 - (lg_sl ([.ref (a 0), .int (nI (i)), .int (y), .long (sd), .int (x)])).length) Slot.unset).toArray = ls at hl ⊢
  have hl : lv_has ls 7 [(0, .ref (a 0)), (1, .int (nI (i))), (2, .int (y)), (3, .long (sd)), (5, .int (x))] := hl
  refine lv_aload_n hx hb dX5_place_0 rfl (lv_at hl 0 rfl) ?_
  refine lv_iload_n hx hb dX5_place_1 rfl (lv_at hl 1 rfl) ?_
  have hPm : va_P D vwCl (kW cI cJ cZ cV cR a C) s.heap := by exact hP
  have hDm : va_D A (kW cI cJ cZ cV cR a C) := by exact hD
  refine wc_VWr (As := [.int (nI (i))]) (rest := []) (ra := Prod.fst) (wf := fun u => kW cI cJ cZ cV cR a u.2) ⟨hx, hb, hml, hown, hts⟩ (c_X5_viewAt l D cI cJ cZ cV cR a C hM (i) (q) (by omega) hq9 s.heap.size) (cwV 1 hts gX5_place_X5_viewAt rfl rfl rfl (by decide +kernel) ⟨Nat.le_of_ble_eq_true rfl, Nat.le_of_ble_eq_true rfl⟩) hPm hK hDm hS hA 0 rfl rfl rfl hl.1 rfl (Nat.le_of_ble_eq_true rfl) dX5_place_2 ⟨Nat.le_of_ble_eq_true rfl, Nat.le_of_ble_eq_true rfl⟩ (fun u1 hq1 H locs hP hD hS => ?_)
  have hu1 := hq1
  subst hu1
  have hP : va_P D vwCl (kX cI cJ cZ cV cR a (k_ra C) (k_rb C) (k_vc C) (k_rc C) (k_pc C) (k_nw C) (k_n C) (k_fn C) (k_sn C) (k_kc C) (k_grp C) (k_key C) (k_srt C) (k_wt C) (k_home C) (k_drp C) (k_met C) (k_kin C) (k_alv C) (k_srs C) (k_row C) (k_sp C) (k_kis C) (k_pg C) (k_vq C) (k_rq C) (k_L C) (k_F C)) H := hP
  have hD : va_D A (kX cI cJ cZ cV cR a (k_ra C) (k_rb C) (k_vc C) (k_rc C) (k_pc C) (k_nw C) (k_n C) (k_fn C) (k_sn C) (k_kc C) (k_grp C) (k_key C) (k_srt C) (k_wt C) (k_home C) (k_drp C) (k_met C) (k_kin C) (k_alv C) (k_srs C) (k_row C) (k_sp C) (k_kis C) (k_pg C) (k_vq C) (k_rq C) (k_L C) (k_F C)) := hD
  refine lv_astore (lv' := [(6, .ref (q)), (0, .ref (a 0)), (1, .int (nI (i))), (2, .int (y)), (3, .long (sd)), (5, .int (x))]) hx hb dX5_place_5 hl (by decide) rfl (fun ls hl => ?_)
  refine lv_aload_n hx hb dX5_place_7 rfl (lv_at hl 1 rfl) ?_
  refine lv_iload hx hb dX5_place_8 (lv_at hl 5 rfl) ?_
  have hPm : va_P D vwCl (kW cI cJ cZ cV cR a C) H := by exact hP
  have hDm : va_D A (kW cI cJ cZ cV cR a C) := by exact hD
  refine wx_V (As := [.int (x)]) (rest := []) (wf := kW cI cJ cZ cV cR a) ⟨hx, hb, hml, hown, hts⟩ (x_X5_checkObject l htr D cI cJ cZ cV cR a C hM x hbad H.size) (cwV 1 hts gX5_place_X5_checkObject rfl rfl rfl (by decide +kernel) ⟨Nat.le_of_ble_eq_true rfl, Nat.le_of_ble_eq_true rfl⟩) hPm hK hDm hS hA hXE 0 rfl rfl rfl hl.1 rfl (Nat.le_of_ble_eq_true rfl) dX5_place_10 ⟨Nat.le_of_ble_eq_true rfl, Nat.le_of_ble_eq_true rfl⟩ (fun u hu H locs ce q9 hP hD hS hce hcv hcl => ?_)
  exact vx_out (fun x h => (hout x h).elim) hlocks hce hcv hcl (xxc_eq u hu hP hK hD hS) hS.2.2 (Nat.le_refl _) (Nat.le_refl _)
def rmx_X5_place_k : Room := { frames := 8, cells := 1, slots := 6, locals := 126 }
set_option maxHeartbeats 4000000 in
set_option maxRecDepth 100000 in
/-- no such kind -/
theorem x_X5_place_k (l : Launch) (htr : l.stackTraces = false) (D : va_G) (cI cJ cZ cV cR : ClassId) (a : Nat → Nat) (C : CT) (hM : kOk C) (q hs se c9 g9 st9 r9 n9 : Nat) (f9 : Nat → Nat) (hV : isV (k_L C) (k_F C) q hs se c9 g9 st9 r9) (hI : isI cI (k_L C) (k_F C) hs n9 f9) (hc9 : c9 ≤ n9) (hn9 : n9 ≤ 300) (hg9 : g9 ≤ 300) (hst9 : st9 ≤ 2) (hr9 : r9 ≤ 60) (hf9 : ∀ j, f9 j < 300) (i : Nat) (hi9 : i < k_vc C) (hq9 : k_vq C i = some q) (x : Int32) (sd : Int64) (o9 : Nat) (ho9 : o9 < k_n C) (hbad : x.toInt < 0 ∨ ((3 : Nat) : Int) ≤ x.toInt) (sz : Nat) : vx_Met l yX5_place wsX5_place rmx_X5_place_k (va_Pc [.ref (a 0), .int (nI (i)), .int (x), .long (sd), .int (nI (o9))] (GX D (tyK cI cJ cZ cV cR) (kW cI cJ cZ cV cR a C) sz)) xNo (xXC D (tyK cI cJ cZ cV cR) "java/lang/IllegalArgumentException" (fun u : CT => u = C) (kW cI cJ cZ cV cR a) (va_A (kW cI cJ cZ cV cR a C) sz)) 1 6 (va_A (kW cI cJ cZ cV cR a C) sz) := by
  obtain ⟨hn, hfn, hsn, hvc, hrc, hpc, hnw, hkc, h_home, h_kin, h_alv, h_srs, h_row, h_sp, h_kis, h_pg⟩ := id hM
  refine vx_ofW (cc := cX5_place) (maxL := 7) (ret := (some .int)) (by decide) rfl ?_
  intro p e s m args below meth c s₁ B hml hout hv
  obtain ⟨rfl, ⟨hsz, hP, hK, hD0⟩, hXE⟩ := hv
  have hx := B.exec
  have hb := B.bytes
  have hr := B.returns
  have hts := atoms_spec (ws := wsX5_place) B.pre
  have hown : s.vm.findClass RX5 = some m.cls := findClass_of_methodNamed B.named
  have hlocks := B.notSynchronized
  subst hsz
  have hD := hD0.self (sz := s.heap.size)
  generalize hAe : va_A (kW cI cJ cZ cV cR a C) s.heap.size = A at hD hXE ⊢
  have hA : ∀ q : Nat, s.heap.size ≤ q → A q := fun q h => by rw [← hAe]; exact Or.inr h
  have hS : va_S A s.heap s.heap [] := va_S.rf
  have hP : va_P D vwCl (kX cI cJ cZ cV cR a (k_ra C) (k_rb C) (k_vc C) (k_rc C) (k_pc C) (k_nw C) (k_n C) (k_fn C) (k_sn C) (k_kc C) (k_grp C) (k_key C) (k_srt C) (k_wt C) (k_home C) (k_drp C) (k_met C) (k_kin C) (k_alv C) (k_srs C) (k_row C) (k_sp C) (k_kis C) (k_pg C) (k_vq C) (k_rq C) (k_L C) (k_F C)) s.heap := hP
  have hD : va_D A (kX cI cJ cZ cV cR a (k_ra C) (k_rb C) (k_vc C) (k_rc C) (k_pc C) (k_nw C) (k_n C) (k_fn C) (k_sn C) (k_kc C) (k_grp C) (k_key C) (k_srt C) (k_wt C) (k_home C) (k_drp C) (k_met C) (k_kin C) (k_alv C) (k_srs C) (k_row C) (k_sp C) (k_kis C) (k_pg C) (k_vq C) (k_rq C) (k_L C) (k_F C)) := hD
  have hl := lv_entry ([.ref (a 0), .int (nI (i)), .int (x), .long (sd), .int (nI (o9))]) (n := 7) (Nat.le_of_ble_eq_true rfl)
  rw [lg_entry_eq]
  generalize (lg_sl ([.ref (a 0), .int (nI (i)), .int (x), .long (sd), .int (nI (o9))]) ++ List.replicate (7 - (lg_sl ([.ref (a 0), .int (nI (i)), .int (x), .long (sd), .int (nI (o9))])).length) Slot.unset).toArray = ls at hl ⊢
  have hl : lv_has ls 7 [(0, .ref (a 0)), (1, .int (nI (i))), (2, .int (x)), (3, .long (sd)), (5, .int (nI (o9)))] := hl
  refine lv_aload_n hx hb dX5_place_0 rfl (lv_at hl 0 rfl) ?_
  refine lv_iload_n hx hb dX5_place_1 rfl (lv_at hl 1 rfl) ?_
  have hPm : va_P D vwCl (kW cI cJ cZ cV cR a C) s.heap := by exact hP
  have hDm : va_D A (kW cI cJ cZ cV cR a C) := by exact hD
  refine wc_VWr (As := [.int (nI (i))]) (rest := []) (ra := Prod.fst) (wf := fun u => kW cI cJ cZ cV cR a u.2) ⟨hx, hb, hml, hown, hts⟩ (c_X5_viewAt l D cI cJ cZ cV cR a C hM (i) (q) (by omega) hq9 s.heap.size) (cwV 1 hts gX5_place_X5_viewAt rfl rfl rfl (by decide +kernel) ⟨Nat.le_of_ble_eq_true rfl, Nat.le_of_ble_eq_true rfl⟩) hPm hK hDm hS hA 0 rfl rfl rfl hl.1 rfl (Nat.le_of_ble_eq_true rfl) dX5_place_2 ⟨Nat.le_of_ble_eq_true rfl, Nat.le_of_ble_eq_true rfl⟩ (fun u1 hq1 H locs hP hD hS => ?_)
  have hu1 := hq1
  subst hu1
  have hP : va_P D vwCl (kX cI cJ cZ cV cR a (k_ra C) (k_rb C) (k_vc C) (k_rc C) (k_pc C) (k_nw C) (k_n C) (k_fn C) (k_sn C) (k_kc C) (k_grp C) (k_key C) (k_srt C) (k_wt C) (k_home C) (k_drp C) (k_met C) (k_kin C) (k_alv C) (k_srs C) (k_row C) (k_sp C) (k_kis C) (k_pg C) (k_vq C) (k_rq C) (k_L C) (k_F C)) H := hP
  have hD : va_D A (kX cI cJ cZ cV cR a (k_ra C) (k_rb C) (k_vc C) (k_rc C) (k_pc C) (k_nw C) (k_n C) (k_fn C) (k_sn C) (k_kc C) (k_grp C) (k_key C) (k_srt C) (k_wt C) (k_home C) (k_drp C) (k_met C) (k_kin C) (k_alv C) (k_srs C) (k_row C) (k_sp C) (k_kis C) (k_pg C) (k_vq C) (k_rq C) (k_L C) (k_F C)) := hD
  refine lv_astore (lv' := [(6, .ref (q)), (0, .ref (a 0)), (1, .int (nI (i))), (2, .int (x)), (3, .long (sd)), (5, .int (nI (o9)))]) hx hb dX5_place_5 hl (by decide) rfl (fun ls hl => ?_)
  refine lv_aload_n hx hb dX5_place_7 rfl (lv_at hl 1 rfl) ?_
  refine lv_iload hx hb dX5_place_8 (lv_at hl 5 rfl) ?_
  have hPm : va_P D vwCl (kW cI cJ cZ cV cR a C) H := by exact hP
  have hDm : va_D A (kW cI cJ cZ cV cR a C) := by exact hD
  refine wc_VWv (As := [.int (nI (o9))]) (rest := []) (wf := kW cI cJ cZ cV cR a) ⟨hx, hb, hml, hown, hts⟩ (c_X5_checkObject l D cI cJ cZ cV cR a C hM (o9) (by omega) H.size) (cwV 1 hts gX5_place_X5_checkObject rfl rfl rfl (by decide +kernel) ⟨Nat.le_of_ble_eq_true rfl, Nat.le_of_ble_eq_true rfl⟩) hPm hK hDm hS hA 0 rfl rfl rfl hl.1 rfl (Nat.le_of_ble_eq_true rfl) dX5_place_10 ⟨Nat.le_of_ble_eq_true rfl, Nat.le_of_ble_eq_true rfl⟩ (fun u2 hq2 H locs hP hD hS => ?_)
  have hu2 := hq2.symm
  subst hu2
  have hP : va_P D vwCl (kX cI cJ cZ cV cR a (k_ra C) (k_rb C) (k_vc C) (k_rc C) (k_pc C) (k_nw C) (k_n C) (k_fn C) (k_sn C) (k_kc C) (k_grp C) (k_key C) (k_srt C) (k_wt C) (k_home C) (k_drp C) (k_met C) (k_kin C) (k_alv C) (k_srs C) (k_row C) (k_sp C) (k_kis C) (k_pg C) (k_vq C) (k_rq C) (k_L C) (k_F C)) H := hP
  have hD : va_D A (kX cI cJ cZ cV cR a (k_ra C) (k_rb C) (k_vc C) (k_rc C) (k_pc C) (k_nw C) (k_n C) (k_fn C) (k_sn C) (k_kc C) (k_grp C) (k_key C) (k_srt C) (k_wt C) (k_home C) (k_drp C) (k_met C) (k_kin C) (k_alv C) (k_srs C) (k_row C) (k_sp C) (k_kis C) (k_pg C) (k_vq C) (k_rq C) (k_L C) (k_F C)) := hD
  refine lv_aload_n hx hb dX5_place_13 rfl (lv_at hl 1 rfl) ?_
  refine lv_aload hx hb dX5_place_14 (lv_at hl 0 rfl) ?_
  refine lv_iload_n hx hb dX5_place_16 rfl (lv_at hl 3 rfl) ?_
  refine lv_lload_n hx hb dX5_place_17 rfl (lv_at hl 4 rfl) ?_
  have hPm : va_P D vwCl (kW cI cJ cZ cV cR a C) H := by exact hP
  have hDm : va_D A (kW cI cJ cZ cV cR a C) := by exact hD
  refine wx_V (As := [.ref (q), .int (x), .long (sd)]) (rest := []) (wf := kW cI cJ cZ cV cR a) ⟨hx, hb, hml, hown, hts⟩ (x_X5_rankHits l htr D cI cJ cZ cV cR a C hM q hs se c9 g9 st9 r9 n9 f9 hV hI hc9 hn9 hg9 hst9 hr9 hf9 x sd hbad H.size) (cwV 3 hts gX5_place_X5_rankHits rfl rfl rfl (by decide +kernel) ⟨Nat.le_of_ble_eq_true rfl, Nat.le_of_ble_eq_true rfl⟩) hPm hK hDm hS hA hXE 0 rfl rfl rfl hl.1 rfl (Nat.le_of_ble_eq_true rfl) dX5_place_18 ⟨Nat.le_of_ble_eq_true rfl, Nat.le_of_ble_eq_true rfl⟩ (fun u hu H locs ce q9 hP hD hS hce hcv hcl => ?_)
  exact vx_out (fun x h => (hout x h).elim) hlocks hce hcv hcl (xxc_eq u hu hP hK hD hS) hS.2.2 (Nat.le_refl _) (Nat.le_refl _)
