def rm_X5_group : Room := { frames := 5, cells := 0, slots := 0, locals := 123 }
set_option maxHeartbeats 4000000 in
set_option maxRecDepth 100000 in
/-- of a group -/
theorem c_X5_group (l : Launch) (D : va_G) (cI cJ cZ cV cR : ClassId) (a : Nat → Nat) (C : CT) (hM : kOk C) (q hs se c9 g9 st9 r9 n9 : Nat) (f9 : Nat → Nat) (hV : isV (k_L C) (k_F C) q hs se c9 g9 st9 r9) (hI : isI cI (k_L C) (k_F C) hs n9 f9) (hc9 : c9 ≤ n9) (hn9 : n9 ≤ 300) (hg9 : g9 ≤ 300) (hst9 : st9 ≤ 2) (hr9 : r9 ≤ 60) (hf9 : ∀ j, f9 j < 300) (i : Nat) (hi9 : i < k_vc C) (hq9 : k_vq C i = some q) (kd : Nat) (sd : Int64) (k9 : Nat) (hkd : kd < 3) (hk9 : k9 < g9) (hkg : k9 < (lgR (rkM C f9 c9 kd sd)).1) (hne : 0 < k_kc (ngM (rkM C f9 c9 kd sd) k9)) (sz : Nat) : Met l yX5_group wsX5_group rm_X5_group (va_Pc [.ref (a 0), .int (nI (i)), .int (nI (kd)), .long (sd), .int (nI (k9))] (GW D (tyK cI cJ cZ cV cR) (kW cI cJ cZ cV cR a C) sz)) (va_Ql (fun rr u => rr = k_grp (ngM (rkM C f9 c9 kd sd) k9) (k_row (ngM (rkM C f9 c9 kd sd) k9) 0) ∧ u = ngM (rkM C f9 c9 kd sd) k9) (fun u => GB D (tyK cI cJ cZ cV cR) (va_A (kW cI cJ cZ cV cR a C) sz) (kW cI cJ cZ cV cR a u)) (va_A (kW cI cJ cZ cV cR a C) sz)) 0 0 (va_A (kW cI cJ cZ cV cR a C) sz) := by
  obtain ⟨hn, hfn, hsn, hvc, hrc, hpc, hnw, hkc, h_home, h_kin, h_alv, h_srs, h_row, h_sp, h_kis, h_pg⟩ := id hM
  refine Met.ofW (cc := cX5_group) (maxL := 6) (ret := (some .long)) (by decide) rfl ?_
  intro p e s m args below meth c s₁ B hml hv
  obtain ⟨rfl, hsz, hP, hK, hD0⟩ := hv
  have hx := B.exec
  have hb := B.bytes
  have hr := B.returns
  have hts := atoms_spec (ws := wsX5_group) B.pre
  have hown : s.vm.findClass RX5 = some m.cls := findClass_of_methodNamed B.named
  have hlocks := B.notSynchronized
  subst hsz
  have hD := hD0.self (sz := s.heap.size)
  generalize hAe : va_A (kW cI cJ cZ cV cR a C) s.heap.size = A at hD ⊢
  have hA : ∀ q : Nat, s.heap.size ≤ q → A q := fun q h => by rw [← hAe]; exact Or.inr h
  have hS : va_S A s.heap s.heap [] := va_S.rf
  have hP : va_P D vwCl (kX cI cJ cZ cV cR a (k_ra C) (k_rb C) (k_vc C) (k_rc C) (k_pc C) (k_nw C) (k_n C) (k_fn C) (k_sn C) (k_kc C) (k_grp C) (k_key C) (k_srt C) (k_wt C) (k_home C) (k_drp C) (k_met C) (k_kin C) (k_alv C) (k_srs C) (k_row C) (k_sp C) (k_kis C) (k_pg C) (k_vq C) (k_rq C) (k_L C) (k_F C)) s.heap := hP
  have hD : va_D A (kX cI cJ cZ cV cR a (k_ra C) (k_rb C) (k_vc C) (k_rc C) (k_pc C) (k_nw C) (k_n C) (k_fn C) (k_sn C) (k_kc C) (k_grp C) (k_key C) (k_srt C) (k_wt C) (k_home C) (k_drp C) (k_met C) (k_kin C) (k_alv C) (k_srs C) (k_row C) (k_sp C) (k_kis C) (k_pg C) (k_vq C) (k_rq C) (k_L C) (k_F C)) := hD
  have hiX5 : ∀ w ∈ wsX50, w ∈ wsX5_group := by decide +kernel
  have hiX3 : ∀ w ∈ wsX30, w ∈ wsX5_group := by decide +kernel
  have hf0 := hts (.fieldLink RX5 10 "GroupCursors" "stock" "LGroupCursors$Stock;") (by decide +kernel)
  have hf1 := hts (.fieldLink RX5 106 "GroupCursors$Stock" "group" "[J") (by decide +kernel)
  have hf2 := hts (.fieldLink RX5 28 "GroupCursors" "ranking" "LGroupCursors$Ranking;") (by decide +kernel)
  have hl := lv_entry ([.ref (a 0), .int (nI (i)), .int (nI (kd)), .long (sd), .int (nI (k9))]) (n := 6) (Nat.le_of_ble_eq_true rfl)
  rw [lg_entry_eq]
  generalize (lg_sl ([.ref (a 0), .int (nI (i)), .int (nI (kd)), .long (sd), .int (nI (k9))]) ++ List.replicate (6 - (lg_sl ([.ref (a 0), .int (nI (i)), .int (nI (kd)), .long (sd), .int (nI (k9))])).length) Slot.unset).toArray = ls at hl ⊢
  have hl : lv_has ls 6 [(0, .ref (a 0)), (1, .int (nI (i))), (2, .int (nI (kd))), (3, .long (sd)), (5, .int (nI (k9)))] := hl
  refine lv_aload_n hx hb dX5_group_0 rfl (lv_at hl 0 rfl) ?_
  refine lv_aload_n hx hb dX5_group_1 rfl (lv_at hl 0 rfl) ?_
  refine lv_iload_n hx hb dX5_group_2 rfl (lv_at hl 1 rfl) ?_
  have hPm : va_P D vwCl (kW cI cJ cZ cV cR a C) s.heap := by exact hP
  have hDm : va_D A (kW cI cJ cZ cV cR a C) := by exact hD
  refine wc_VWr (As := [.int (nI (i))]) (rest := [.ref (a 0)]) (ra := Prod.fst) (wf := fun u => kW cI cJ cZ cV cR a u.2) ⟨hx, hb, hml, hown, hts⟩ (c_X5_viewAt l D cI cJ cZ cV cR a C hM (i) (q) (by omega) hq9 s.heap.size) (cwV 1 hts gX5_group_X5_viewAt rfl rfl rfl (by decide +kernel) ⟨Nat.le_of_ble_eq_true rfl, Nat.le_of_ble_eq_true rfl⟩) hPm hK hDm hS hA 0 rfl rfl rfl hl.1 rfl (Nat.le_of_ble_eq_true rfl) dX5_group_3 ⟨Nat.le_of_ble_eq_true rfl, Nat.le_of_ble_eq_true rfl⟩ (fun u1 hq1 H locs hP hD hS => ?_)
  have hu1 := hq1
  subst hu1
  have hP : va_P D vwCl (kX cI cJ cZ cV cR a (k_ra C) (k_rb C) (k_vc C) (k_rc C) (k_pc C) (k_nw C) (k_n C) (k_fn C) (k_sn C) (k_kc C) (k_grp C) (k_key C) (k_srt C) (k_wt C) (k_home C) (k_drp C) (k_met C) (k_kin C) (k_alv C) (k_srs C) (k_row C) (k_sp C) (k_kis C) (k_pg C) (k_vq C) (k_rq C) (k_L C) (k_F C)) H := hP
  have hD : va_D A (kX cI cJ cZ cV cR a (k_ra C) (k_rb C) (k_vc C) (k_rc C) (k_pc C) (k_nw C) (k_n C) (k_fn C) (k_sn C) (k_kc C) (k_grp C) (k_key C) (k_srt C) (k_wt C) (k_home C) (k_drp C) (k_met C) (k_kin C) (k_alv C) (k_srs C) (k_row C) (k_sp C) (k_kis C) (k_pg C) (k_vq C) (k_rq C) (k_L C) (k_F C)) := hD
  refine lv_iload_n hx hb dX5_group_6 rfl (lv_at hl 2 rfl) ?_
  refine lv_lload_n hx hb dX5_group_7 rfl (lv_at hl 3 rfl) ?_
  refine lv_iload hx hb dX5_group_8 (lv_at hl 4 rfl) ?_
  have hPm : va_P D vwCl (kW cI cJ cZ cV cR a C) H := by exact hP
  have hDm : va_D A (kW cI cJ cZ cV cR a C) := by exact hD
  refine wc_VWv (As := [.ref (q), .int (nI (kd)), .long (sd), .int (nI (k9))]) (rest := []) (wf := kW cI cJ cZ cV cR a) ⟨hx, hb, hml, hown, hts⟩ (c_X5_rankGroup l D cI cJ cZ cV cR a C hM (q) (hs) (se) (c9) (g9) (st9) (r9) (n9) (f9) hV hI (by omega) (by omega) (by omega) (by omega) (by omega) hf9 (kd) (sd) (k9) (by omega) (by omega) hkg H.size) (cwV 4 hts gX5_group_X5_rankGroup rfl rfl rfl (by decide +kernel) ⟨Nat.le_of_ble_eq_true rfl, Nat.le_of_ble_eq_true rfl⟩) hPm hK hDm hS hA 0 rfl rfl rfl hl.1 rfl (Nat.le_of_ble_eq_true rfl) dX5_group_10 ⟨Nat.le_of_ble_eq_true rfl, Nat.le_of_ble_eq_true rfl⟩ (fun u2 hq2 H locs hP hD hS => ?_)
  have hu2 := hq2.symm
  subst hu2
  have hP : va_P D vwCl (kX cI cJ cZ cV cR a (k_ra (ngM (rkM C (f9) (c9) (kd) (sd)) (k9))) (k_rb (ngM (rkM C (f9) (c9) (kd) (sd)) (k9))) (k_vc (ngM (rkM C (f9) (c9) (kd) (sd)) (k9))) (k_rc (ngM (rkM C (f9) (c9) (kd) (sd)) (k9))) (k_pc (ngM (rkM C (f9) (c9) (kd) (sd)) (k9))) (k_nw (ngM (rkM C (f9) (c9) (kd) (sd)) (k9))) (k_n (ngM (rkM C (f9) (c9) (kd) (sd)) (k9))) (k_fn (ngM (rkM C (f9) (c9) (kd) (sd)) (k9))) (k_sn (ngM (rkM C (f9) (c9) (kd) (sd)) (k9))) (k_kc (ngM (rkM C (f9) (c9) (kd) (sd)) (k9))) (k_grp (ngM (rkM C (f9) (c9) (kd) (sd)) (k9))) (k_key (ngM (rkM C (f9) (c9) (kd) (sd)) (k9))) (k_srt (ngM (rkM C (f9) (c9) (kd) (sd)) (k9))) (k_wt (ngM (rkM C (f9) (c9) (kd) (sd)) (k9))) (k_home (ngM (rkM C (f9) (c9) (kd) (sd)) (k9))) (k_drp (ngM (rkM C (f9) (c9) (kd) (sd)) (k9))) (k_met (ngM (rkM C (f9) (c9) (kd) (sd)) (k9))) (k_kin (ngM (rkM C (f9) (c9) (kd) (sd)) (k9))) (k_alv (ngM (rkM C (f9) (c9) (kd) (sd)) (k9))) (k_srs (ngM (rkM C (f9) (c9) (kd) (sd)) (k9))) (k_row (ngM (rkM C (f9) (c9) (kd) (sd)) (k9))) (k_sp (ngM (rkM C (f9) (c9) (kd) (sd)) (k9))) (k_kis (ngM (rkM C (f9) (c9) (kd) (sd)) (k9))) (k_pg (ngM (rkM C (f9) (c9) (kd) (sd)) (k9))) (k_vq (ngM (rkM C (f9) (c9) (kd) (sd)) (k9))) (k_rq (ngM (rkM C (f9) (c9) (kd) (sd)) (k9))) (k_L (ngM (rkM C (f9) (c9) (kd) (sd)) (k9))) (k_F (ngM (rkM C (f9) (c9) (kd) (sd)) (k9)))) H := hP
  have hD : va_D A (kX cI cJ cZ cV cR a (k_ra (ngM (rkM C (f9) (c9) (kd) (sd)) (k9))) (k_rb (ngM (rkM C (f9) (c9) (kd) (sd)) (k9))) (k_vc (ngM (rkM C (f9) (c9) (kd) (sd)) (k9))) (k_rc (ngM (rkM C (f9) (c9) (kd) (sd)) (k9))) (k_pc (ngM (rkM C (f9) (c9) (kd) (sd)) (k9))) (k_nw (ngM (rkM C (f9) (c9) (kd) (sd)) (k9))) (k_n (ngM (rkM C (f9) (c9) (kd) (sd)) (k9))) (k_fn (ngM (rkM C (f9) (c9) (kd) (sd)) (k9))) (k_sn (ngM (rkM C (f9) (c9) (kd) (sd)) (k9))) (k_kc (ngM (rkM C (f9) (c9) (kd) (sd)) (k9))) (k_grp (ngM (rkM C (f9) (c9) (kd) (sd)) (k9))) (k_key (ngM (rkM C (f9) (c9) (kd) (sd)) (k9))) (k_srt (ngM (rkM C (f9) (c9) (kd) (sd)) (k9))) (k_wt (ngM (rkM C (f9) (c9) (kd) (sd)) (k9))) (k_home (ngM (rkM C (f9) (c9) (kd) (sd)) (k9))) (k_drp (ngM (rkM C (f9) (c9) (kd) (sd)) (k9))) (k_met (ngM (rkM C (f9) (c9) (kd) (sd)) (k9))) (k_kin (ngM (rkM C (f9) (c9) (kd) (sd)) (k9))) (k_alv (ngM (rkM C (f9) (c9) (kd) (sd)) (k9))) (k_srs (ngM (rkM C (f9) (c9) (kd) (sd)) (k9))) (k_row (ngM (rkM C (f9) (c9) (kd) (sd)) (k9))) (k_sp (ngM (rkM C (f9) (c9) (kd) (sd)) (k9))) (k_kis (ngM (rkM C (f9) (c9) (kd) (sd)) (k9))) (k_pg (ngM (rkM C (f9) (c9) (kd) (sd)) (k9))) (k_vq (ngM (rkM C (f9) (c9) (kd) (sd)) (k9))) (k_rq (ngM (rkM C (f9) (c9) (kd) (sd)) (k9))) (k_L (ngM (rkM C (f9) (c9) (kd) (sd)) (k9))) (k_F (ngM (rkM C (f9) (c9) (kd) (sd)) (k9)))) := hD
  refine lv_aload_n hx hb dX5_group_13 rfl (lv_at hl 0 rfl) ?_
  refine va_get (ci := 5) (v := .ref (a 1)) (C := RX5) (T := TX5) (N := 10) hx hb hts hiX5 hown hK hP 0 rfl rfl 0 (by decide) hf0 (fun _ h9 => h9) rfl dX5_group_14 ?_
  refine va_get (ci := 3) (v := .ref (a 2)) (C := RX3) (T := TX3) (N := 8) hx hb hts hiX3 hown hK hP 1 rfl rfl 0 (by decide) hf1 (fun _ h9 => h9) rfl dX5_group_17 ?_
  refine lv_aload_n hx hb dX5_group_20 rfl (lv_at hl 0 rfl) ?_
  refine va_get (ci := 5) (v := .ref (a 11)) (C := RX5) (T := TX5) (N := 10) hx hb hts hiX5 hown hK hP 0 rfl rfl 2 (by decide) hf2 (fun _ h9 => h9) rfl dX5_group_21 ?_
  refine lv_iconst (v := nI (0)) hx hb dX5_group_24 (by decide) ?_
  have hrb : k_row (ngM (rkM C f9 c9 kd sd) k9) 0 < 300 := (ok_ngM (k9 := k9) (ok_rkM (kd := kd) (sd := sd) (n := c9) hM (by omega) hf9)).2.2.2.2.2.2.2.2.2.2.2.2.1 0
  have hPm : va_P D vwCl (kW cI cJ cZ cV cR a (ngM (rkM C (f9) (c9) (kd) (sd)) (k9))) H := by exact hP
  have hDm : va_D A (kW cI cJ cZ cV cR a (ngM (rkM C (f9) (c9) (kd) (sd)) (k9))) := by exact hD
  refine wc_VWi (As := [.int (nI (0))]) (rest := [.ref (a 2)]) (wf := kW cI cJ cZ cV cR a) ⟨hx, hb, hml, hown, hts⟩ (c_X0_memberAt l D cI cJ cZ cV cR a (ngM (rkM C (f9) (c9) (kd) (sd)) (k9)) (ok_ngM (ok_rkM hM (by omega) hf9)) (0) hne H.size) (cwV 1 hts gX5_group_X0_memberAt rfl rfl rfl (by decide +kernel) ⟨Nat.le_of_ble_eq_true rfl, Nat.le_of_ble_eq_true rfl⟩) hPm hK hDm hS hA 11 rfl rfl rfl hl.1 rfl (Nat.le_of_ble_eq_true rfl) dX5_group_25 ⟨Nat.le_of_ble_eq_true rfl, Nat.le_of_ble_eq_true rfl⟩ (fun rr u3 hq3 H locs hP hD hS => ?_)
  obtain ⟨hr3, hu3⟩ := hq3
  subst hr3
  have hu3 := hu3.symm
  subst hu3
  have hP : va_P D vwCl (kX cI cJ cZ cV cR a (k_ra (ngM (rkM C (f9) (c9) (kd) (sd)) (k9))) (k_rb (ngM (rkM C (f9) (c9) (kd) (sd)) (k9))) (k_vc (ngM (rkM C (f9) (c9) (kd) (sd)) (k9))) (k_rc (ngM (rkM C (f9) (c9) (kd) (sd)) (k9))) (k_pc (ngM (rkM C (f9) (c9) (kd) (sd)) (k9))) (k_nw (ngM (rkM C (f9) (c9) (kd) (sd)) (k9))) (k_n (ngM (rkM C (f9) (c9) (kd) (sd)) (k9))) (k_fn (ngM (rkM C (f9) (c9) (kd) (sd)) (k9))) (k_sn (ngM (rkM C (f9) (c9) (kd) (sd)) (k9))) (k_kc (ngM (rkM C (f9) (c9) (kd) (sd)) (k9))) (k_grp (ngM (rkM C (f9) (c9) (kd) (sd)) (k9))) (k_key (ngM (rkM C (f9) (c9) (kd) (sd)) (k9))) (k_srt (ngM (rkM C (f9) (c9) (kd) (sd)) (k9))) (k_wt (ngM (rkM C (f9) (c9) (kd) (sd)) (k9))) (k_home (ngM (rkM C (f9) (c9) (kd) (sd)) (k9))) (k_drp (ngM (rkM C (f9) (c9) (kd) (sd)) (k9))) (k_met (ngM (rkM C (f9) (c9) (kd) (sd)) (k9))) (k_kin (ngM (rkM C (f9) (c9) (kd) (sd)) (k9))) (k_alv (ngM (rkM C (f9) (c9) (kd) (sd)) (k9))) (k_srs (ngM (rkM C (f9) (c9) (kd) (sd)) (k9))) (k_row (ngM (rkM C (f9) (c9) (kd) (sd)) (k9))) (k_sp (ngM (rkM C (f9) (c9) (kd) (sd)) (k9))) (k_kis (ngM (rkM C (f9) (c9) (kd) (sd)) (k9))) (k_pg (ngM (rkM C (f9) (c9) (kd) (sd)) (k9))) (k_vq (ngM (rkM C (f9) (c9) (kd) (sd)) (k9))) (k_rq (ngM (rkM C (f9) (c9) (kd) (sd)) (k9))) (k_L (ngM (rkM C (f9) (c9) (kd) (sd)) (k9))) (k_F (ngM (rkM C (f9) (c9) (kd) (sd)) (k9)))) H := hP
  have hD : va_D A (kX cI cJ cZ cV cR a (k_ra (ngM (rkM C (f9) (c9) (kd) (sd)) (k9))) (k_rb (ngM (rkM C (f9) (c9) (kd) (sd)) (k9))) (k_vc (ngM (rkM C (f9) (c9) (kd) (sd)) (k9))) (k_rc (ngM (rkM C (f9) (c9) (kd) (sd)) (k9))) (k_pc (ngM (rkM C (f9) (c9) (kd) (sd)) (k9))) (k_nw (ngM (rkM C (f9) (c9) (kd) (sd)) (k9))) (k_n (ngM (rkM C (f9) (c9) (kd) (sd)) (k9))) (k_fn (ngM (rkM C (f9) (c9) (kd) (sd)) (k9))) (k_sn (ngM (rkM C (f9) (c9) (kd) (sd)) (k9))) (k_kc (ngM (rkM C (f9) (c9) (kd) (sd)) (k9))) (k_grp (ngM (rkM C (f9) (c9) (kd) (sd)) (k9))) (k_key (ngM (rkM C (f9) (c9) (kd) (sd)) (k9))) (k_srt (ngM (rkM C (f9) (c9) (kd) (sd)) (k9))) (k_wt (ngM (rkM C (f9) (c9) (kd) (sd)) (k9))) (k_home (ngM (rkM C (f9) (c9) (kd) (sd)) (k9))) (k_drp (ngM (rkM C (f9) (c9) (kd) (sd)) (k9))) (k_met (ngM (rkM C (f9) (c9) (kd) (sd)) (k9))) (k_kin (ngM (rkM C (f9) (c9) (kd) (sd)) (k9))) (k_alv (ngM (rkM C (f9) (c9) (kd) (sd)) (k9))) (k_srs (ngM (rkM C (f9) (c9) (kd) (sd)) (k9))) (k_row (ngM (rkM C (f9) (c9) (kd) (sd)) (k9))) (k_sp (ngM (rkM C (f9) (c9) (kd) (sd)) (k9))) (k_kis (ngM (rkM C (f9) (c9) (kd) (sd)) (k9))) (k_pg (ngM (rkM C (f9) (c9) (kd) (sd)) (k9))) (k_vq (ngM (rkM C (f9) (c9) (kd) (sd)) (k9))) (k_rq (ngM (rkM C (f9) (c9) (kd) (sd)) (k9))) (k_L (ngM (rkM C (f9) (c9) (kd) (sd)) (k9))) (k_F (ngM (rkM C (f9) (c9) (kd) (sd)) (k9)))) := hD
  refine wa_l (i := k_row (ngM (rkM C (f9) (c9) (kd) (sd)) (k9)) (0)) (v := k_grp (ngM (rkM C (f9) (c9) (kd) (sd)) (k9)) (k_row (ngM (rkM C (f9) (c9) (kd) (sd)) (k9)) (0))) hx hb hK hP 2 1 rfl rfl rfl (by omega) (by decide) dX5_group_28 ?_
  have hPm : va_P D vwCl (kW cI cJ cZ cV cR a (ngM (rkM C (f9) (c9) (kd) (sd)) (k9))) H := by exact hP
  have hDm : va_D A (kW cI cJ cZ cV cR a (ngM (rkM C (f9) (c9) (kd) (sd)) (k9))) := by exact hD
  exact W.lret (v := k_grp (ngM (rkM C (f9) (c9) (kd) (sd)) (k9)) (k_row (ngM (rkM C (f9) (c9) (kd) (sd)) (k9)) (0))) hx hb hr (fun t ht hW => ⟨⟨_, (ngM (rkM C (f9) (c9) (kd) (sd)) (k9)), rfl, ⟨rfl, rfl⟩, gb_mk ht hW hPm hK hDm⟩, hS.F ht⟩) hS.2.2 dX5_group_29
def rmx_X5_group_v : Room := { frames := 7, cells := 1, slots := 6, locals := 104 }
set_option maxHeartbeats 4000000 in
set_option maxRecDepth 100000 in
/-- no such view -/
theorem x_X5_group_v (l : Launch) (htr : l.stackTraces = false) (D : va_G) (cI cJ cZ cV cR : ClassId) (a : Nat → Nat) (C : CT) (hM : kOk C) (x y : Int32) (sd : Int64) (k : Int32) (hbad : x.toInt < 0 ∨ ((k_vc C : Nat) : Int) ≤ x.toInt) (sz : Nat) : vx_Met l yX5_group wsX5_group rmx_X5_group_v (va_Pc [.ref (a 0), .int (x), .int (y), .long (sd), .int (k)] (GX D (tyK cI cJ cZ cV cR) (kW cI cJ cZ cV cR a C) sz)) xNo (xXC D (tyK cI cJ cZ cV cR) "java/lang/IndexOutOfBoundsException" (fun u : CT => u = C) (kW cI cJ cZ cV cR a) (va_A (kW cI cJ cZ cV cR a C) sz)) 1 6 (va_A (kW cI cJ cZ cV cR a C) sz) := by
  obtain ⟨hn, hfn, hsn, hvc, hrc, hpc, hnw, hkc, h_home, h_kin, h_alv, h_srs, h_row, h_sp, h_kis, h_pg⟩ := id hM
  refine vx_ofW (cc := cX5_group) (maxL := 6) (ret := (some .long)) (by decide) rfl ?_
  intro p e s m args below meth c s₁ B hml hout hv
  obtain ⟨rfl, ⟨hsz, hP, hK, hD0⟩, hXE⟩ := hv
  have hx := B.exec
  have hb := B.bytes
  have hr := B.returns
  have hts := atoms_spec (ws := wsX5_group) B.pre
  have hown : s.vm.findClass RX5 = some m.cls := findClass_of_methodNamed B.named
  have hlocks := B.notSynchronized
  subst hsz
  have hD := hD0.self (sz := s.heap.size)
  generalize hAe : va_A (kW cI cJ cZ cV cR a C) s.heap.size = A at hD hXE ⊢
  have hA : ∀ q : Nat, s.heap.size ≤ q → A q := fun q h => by rw [← hAe]; exact Or.inr h
  have hS : va_S A s.heap s.heap [] := va_S.rf
  have hP : va_P D vwCl (kX cI cJ cZ cV cR a (k_ra C) (k_rb C) (k_vc C) (k_rc C) (k_pc C) (k_nw C) (k_n C) (k_fn C) (k_sn C) (k_kc C) (k_grp C) (k_key C) (k_srt C) (k_wt C) (k_home C) (k_drp C) (k_met C) (k_kin C) (k_alv C) (k_srs C) (k_row C) (k_sp C) (k_kis C) (k_pg C) (k_vq C) (k_rq C) (k_L C) (k_F C)) s.heap := hP
  have hD : va_D A (kX cI cJ cZ cV cR a (k_ra C) (k_rb C) (k_vc C) (k_rc C) (k_pc C) (k_nw C) (k_n C) (k_fn C) (k_sn C) (k_kc C) (k_grp C) (k_key C) (k_srt C) (k_wt C) (k_home C) (k_drp C) (k_met C) (k_kin C) (k_alv C) (k_srs C) (k_row C) (k_sp C) (k_kis C) (k_pg C) (k_vq C) (k_rq C) (k_L C) (k_F C)) := hD
  have hl := lv_entry ([.ref (a 0), .int (x), .int (y), .long (sd), .int (k)]) (n := 6) (Nat.le_of_ble_eq_true rfl)
  rw [lg_entry_eq]
  generalize (lg_sl ([.ref (a 0), .int (x), .int (y), .long (sd), .int (k)]) ++ List.replicate (6 - (lg_sl ([.ref (a 0), .int (x), .int (y), .long (sd), .int (k)])).length) Slot.unset).toArray = ls at hl ⊢
  have hl : lv_has ls 6 [(0, .ref (a 0)), (1, .int (x)), (2, .int (y)), (3, .long (sd)), (5, .int (k))] := hl
  refine lv_aload_n hx hb dX5_group_0 rfl (lv_at hl 0 rfl) ?_
  refine lv_aload_n hx hb dX5_group_1 rfl (lv_at hl 0 rfl) ?_
  refine lv_iload_n hx hb dX5_group_2 rfl (lv_at hl 1 rfl) ?_
  have hPm : va_P D vwCl (kW cI cJ cZ cV cR a C) s.heap := by exact hP
  have hDm : va_D A (kW cI cJ cZ cV cR a C) := by exact hD
  refine wx_V (As := [.int (x)]) (rest := [.ref (a 0)]) (wf := kW cI cJ cZ cV cR a) ⟨hx, hb, hml, hown, hts⟩ (x_X5_viewAt l htr D cI cJ cZ cV cR a C hM x hbad s.heap.size) (cwV 1 hts gX5_group_X5_viewAt rfl rfl rfl (by decide +kernel) ⟨Nat.le_of_ble_eq_true rfl, Nat.le_of_ble_eq_true rfl⟩) hPm hK hDm hS hA hXE 0 rfl rfl rfl hl.1 rfl (Nat.le_of_ble_eq_true rfl) dX5_group_3 ⟨Nat.le_of_ble_eq_true rfl, Nat.le_of_ble_eq_true rfl⟩ (fun u hu H locs ce q9 hP hD hS hce hcv hcl => ?_)
  exact vx_out (fun x h => (hout x h).elim) hlocks hce hcv hcl (xxc_eq u hu hP hK hD hS) hS.2.2 (Nat.le_refl _) (Nat.le_refl _)
def rmx_X5_group_g : Room := { frames := 8, cells := 1, slots := 6, locals := 128 }
set_option maxHeartbeats 4000000 in
set_option maxRecDepth 100000 in
/-- no such group -/
theorem x_X5_group_g (l : Launch) (htr : l.stackTraces = false) (D : va_G) (cI cJ cZ cV cR : ClassId) (a : Nat → Nat) (C : CT) (hM : kOk C) (q hs se c9 g9 st9 r9 n9 : Nat) (f9 : Nat → Nat) (hV : isV (k_L C) (k_F C) q hs se c9 g9 st9 r9) (hI : isI cI (k_L C) (k_F C) hs n9 f9) (hc9 : c9 ≤ n9) (hn9 : n9 ≤ 300) (hg9 : g9 ≤ 300) (hst9 : st9 ≤ 2) (hr9 : r9 ≤ 60) (hf9 : ∀ j, f9 j < 300) (i : Nat) (hi9 : i < k_vc C) (hq9 : k_vq C i = some q) (y : Int32) (sd : Int64) (x : Int32) (hbad : x.toInt < 0 ∨ ((g9 : Nat) : Int) ≤ x.toInt) (sz : Nat) : vx_Met l yX5_group wsX5_group rmx_X5_group_g (va_Pc [.ref (a 0), .int (nI (i)), .int (y), .long (sd), .int (x)] (GX D (tyK cI cJ cZ cV cR) (kW cI cJ cZ cV cR a C) sz)) xNo (xXC D (tyK cI cJ cZ cV cR) "java/lang/IndexOutOfBoundsException" (fun u : CT => u = C) (kW cI cJ cZ cV cR a) (va_A (kW cI cJ cZ cV cR a C) sz)) 1 6 (va_A (kW cI cJ cZ cV cR a C) sz) := by
  obtain ⟨hn, hfn, hsn, hvc, hrc, hpc, hnw, hkc, h_home, h_kin, h_alv, h_srs, h_row, h_sp, h_kis, h_pg⟩ := id hM
  refine vx_ofW (cc := cX5_group) (maxL := 6) (ret := (some .long)) (by decide) rfl ?_
  intro p e s m args below meth c s₁ B hml hout hv
  obtain ⟨rfl, ⟨hsz, hP, hK, hD0⟩, hXE⟩ := hv
  have hx := B.exec
  have hb := B.bytes
  have hr := B.returns
  have hts := atoms_spec (ws := wsX5_group) B.pre
  have hown : s.vm.findClass RX5 = some m.cls := findClass_of_methodNamed B.named
  have hlocks := B.notSynchronized
  subst hsz
  have hD := hD0.self (sz := s.heap.size)
  generalize hAe : va_A (kW cI cJ cZ cV cR a C) s.heap.size = A at hD hXE ⊢
  have hA : ∀ q : Nat, s.heap.size ≤ q → A q := fun q h => by rw [← hAe]; exact Or.inr h
  have hS : va_S A s.heap s.heap [] := va_S.rf
  have hP : va_P D vwCl (kX cI cJ cZ cV cR a (k_ra C) (k_rb C) (k_vc C) (k_rc C) (k_pc C) (k_nw C) (k_n C) (k_fn C) (k_sn C) (k_kc C) (k_grp C) (k_key C) (k_srt C) (k_wt C) (k_home C) (k_drp C) (k_met C) (k_kin C) (k_alv C) (k_srs C) (k_row C) (k_sp C) (k_kis C) (k_pg C) (k_vq C) (k_rq C) (k_L C) (k_F C)) s.heap := hP
  have hD : va_D A (kX cI cJ cZ cV cR a (k_ra C) (k_rb C) (k_vc C) (k_rc C) (k_pc C) (k_nw C) (k_n C) (k_fn C) (k_sn C) (k_kc C) (k_grp C) (k_key C) (k_srt C) (k_wt C) (k_home C) (k_drp C) (k_met C) (k_kin C) (k_alv C) (k_srs C) (k_row C) (k_sp C) (k_kis C) (k_pg C) (k_vq C) (k_rq C) (k_L C) (k_F C)) := hD
  have hl := lv_entry ([.ref (a 0), .int (nI (i)), .int (y), .long (sd), .int (x)]) (n := 6) (Nat.le_of_ble_eq_true rfl)
  rw [lg_entry_eq]
  generalize (lg_sl ([.ref (a 0), .int (nI (i)), .int (y), .long (sd), .int (x)]) ++ List.replicate (6 - (lg_sl ([.ref (a 0), .int (nI (i)), .int (y), .long (sd), .int (x)])).length) Slot.unset).toArray = ls at hl ⊢
  have hl : lv_has ls 6 [(0, .ref (a 0)), (1, .int (nI (i))), (2, .int (y)), (3, .long (sd)), (5, .int (x))] := hl
  refine lv_aload_n hx hb dX5_group_0 rfl (lv_at hl 0 rfl) ?_
  refine lv_aload_n hx hb dX5_group_1 rfl (lv_at hl 0 rfl) ?_
  refine lv_iload_n hx hb dX5_group_2 rfl (lv_at hl 1 rfl) ?_
  have hPm : va_P D vwCl (kW cI cJ cZ cV cR a C) s.heap := by exact hP
  have hDm : va_D A (kW cI cJ cZ cV cR a C) := by exact hD
  refine wc_VWr (As := [.int (nI (i))]) (rest := [.ref (a 0)]) (ra := Prod.fst) (wf := fun u => kW cI cJ cZ cV cR a u.2) ⟨hx, hb, hml, hown, hts⟩ (c_X5_viewAt l D cI cJ cZ cV cR a C hM (i) (q) (by omega) hq9 s.heap.size) (cwV 1 hts gX5_group_X5_viewAt rfl rfl rfl (by decide +kernel) ⟨Nat.le_of_ble_eq_true rfl, Nat.le_of_ble_eq_true rfl⟩) hPm hK hDm hS hA 0 rfl rfl rfl hl.1 rfl (Nat.le_of_ble_eq_true rfl) dX5_group_3 ⟨Nat.le_of_ble_eq_true rfl, Nat.le_of_ble_eq_true rfl⟩ (fun u1 hq1 H locs hP hD hS => ?_)
  have hu1 := hq1
  subst hu1
  have hP : va_P D vwCl (kX cI cJ cZ cV cR a (k_ra C) (k_rb C) (k_vc C) (k_rc C) (k_pc C) (k_nw C) (k_n C) (k_fn C) (k_sn C) (k_kc C) (k_grp C) (k_key C) (k_srt C) (k_wt C) (k_home C) (k_drp C) (k_met C) (k_kin C) (k_alv C) (k_srs C) (k_row C) (k_sp C) (k_kis C) (k_pg C) (k_vq C) (k_rq C) (k_L C) (k_F C)) H := hP
  have hD : va_D A (kX cI cJ cZ cV cR a (k_ra C) (k_rb C) (k_vc C) (k_rc C) (k_pc C) (k_nw C) (k_n C) (k_fn C) (k_sn C) (k_kc C) (k_grp C) (k_key C) (k_srt C) (k_wt C) (k_home C) (k_drp C) (k_met C) (k_kin C) (k_alv C) (k_srs C) (k_row C) (k_sp C) (k_kis C) (k_pg C) (k_vq C) (k_rq C) (k_L C) (k_F C)) := hD
  refine lv_iload_n hx hb dX5_group_6 rfl (lv_at hl 2 rfl) ?_
  refine lv_lload_n hx hb dX5_group_7 rfl (lv_at hl 3 rfl) ?_
  refine lv_iload hx hb dX5_group_8 (lv_at hl 4 rfl) ?_
  have hPm : va_P D vwCl (kW cI cJ cZ cV cR a C) H := by exact hP
  have hDm : va_D A (kW cI cJ cZ cV cR a C) := by exact hD
  refine wx_V (As := [.ref (q), .int (y), .long (sd), .int (x)]) (rest := []) (wf := kW cI cJ cZ cV cR a) ⟨hx, hb, hml, hown, hts⟩ (x_X5_rankGroup_g l htr D cI cJ cZ cV cR a C hM q hs se c9 g9 st9 r9 n9 f9 hV hI hc9 hn9 hg9 hst9 hr9 hf9 y sd x hbad H.size) (cwV 4 hts gX5_group_X5_rankGroup rfl rfl rfl (by decide +kernel) ⟨Nat.le_of_ble_eq_true rfl, Nat.le_of_ble_eq_true rfl⟩) hPm hK hDm hS hA hXE 0 rfl rfl rfl hl.1 rfl (Nat.le_of_ble_eq_true rfl) dX5_group_10 ⟨Nat.le_of_ble_eq_true rfl, Nat.le_of_ble_eq_true rfl⟩ (fun u hu H locs ce q9 hP hD hS hce hcv hcl => ?_)
  exact vx_out (fun x h => (hout x h).elim) hlocks hce hcv hcl (xxc_eq u hu hP hK hD hS) hS.2.2 (Nat.le_refl _) (Nat.le_refl _)
def rmx_X5_group_k : Room := { frames := 9, cells := 1, slots := 6, locals := 151 }
set_option maxHeartbeats 4000000 in
set_option maxRecDepth 100000 in
/-- no such kind -/
theorem x_X5_group_k (l : Launch) (htr : l.stackTraces = false) (D : va_G) (cI cJ cZ cV cR : ClassId) (a : Nat → Nat) (C : CT) (hM : kOk C) (q hs se c9 g9 st9 r9 n9 : Nat) (f9 : Nat → Nat) (hV : isV (k_L C) (k_F C) q hs se c9 g9 st9 r9) (hI : isI cI (k_L C) (k_F C) hs n9 f9) (hc9 : c9 ≤ n9) (hn9 : n9 ≤ 300) (hg9 : g9 ≤ 300) (hst9 : st9 ≤ 2) (hr9 : r9 ≤ 60) (hf9 : ∀ j, f9 j < 300) (i : Nat) (hi9 : i < k_vc C) (hq9 : k_vq C i = some q) (x : Int32) (sd : Int64) (k9 : Nat) (hk9 : k9 < g9) (hbad : x.toInt < 0 ∨ ((3 : Nat) : Int) ≤ x.toInt) (sz : Nat) : vx_Met l yX5_group wsX5_group rmx_X5_group_k (va_Pc [.ref (a 0), .int (nI (i)), .int (x), .long (sd), .int (nI (k9))] (GX D (tyK cI cJ cZ cV cR) (kW cI cJ cZ cV cR a C) sz)) xNo (xXC D (tyK cI cJ cZ cV cR) "java/lang/IllegalArgumentException" (fun u : CT => u = C) (kW cI cJ cZ cV cR a) (va_A (kW cI cJ cZ cV cR a C) sz)) 1 6 (va_A (kW cI cJ cZ cV cR a C) sz) := by
  obtain ⟨hn, hfn, hsn, hvc, hrc, hpc, hnw, hkc, h_home, h_kin, h_alv, h_srs, h_row, h_sp, h_kis, h_pg⟩ := id hM
  refine vx_ofW (cc := cX5_group) (maxL := 6) (ret := (some .long)) (by decide) rfl ?_
  intro p e s m args below meth c s₁ B hml hout hv
  obtain ⟨rfl, ⟨hsz, hP, hK, hD0⟩, hXE⟩ := hv
  have hx := B.exec
  have hb := B.bytes
  have hr := B.returns
  have hts := atoms_spec (ws := wsX5_group) B.pre
  have hown : s.vm.findClass RX5 = some m.cls := findClass_of_methodNamed B.named
  have hlocks := B.notSynchronized
  subst hsz
  have hD := hD0.self (sz := s.heap.size)
  generalize hAe : va_A (kW cI cJ cZ cV cR a C) s.heap.size = A at hD hXE ⊢
  have hA : ∀ q : Nat, s.heap.size ≤ q → A q := fun q h => by rw [← hAe]; exact Or.inr h
  have hS : va_S A s.heap s.heap [] := va_S.rf
  have hP : va_P D vwCl (kX cI cJ cZ cV cR a (k_ra C) (k_rb C) (k_vc C) (k_rc C) (k_pc C) (k_nw C) (k_n C) (k_fn C) (k_sn C) (k_kc C) (k_grp C) (k_key C) (k_srt C) (k_wt C) (k_home C) (k_drp C) (k_met C) (k_kin C) (k_alv C) (k_srs C) (k_row C) (k_sp C) (k_kis C) (k_pg C) (k_vq C) (k_rq C) (k_L C) (k_F C)) s.heap := hP
  have hD : va_D A (kX cI cJ cZ cV cR a (k_ra C) (k_rb C) (k_vc C) (k_rc C) (k_pc C) (k_nw C) (k_n C) (k_fn C) (k_sn C) (k_kc C) (k_grp C) (k_key C) (k_srt C) (k_wt C) (k_home C) (k_drp C) (k_met C) (k_kin C) (k_alv C) (k_srs C) (k_row C) (k_sp C) (k_kis C) (k_pg C) (k_vq C) (k_rq C) (k_L C) (k_F C)) := hD
  have hl := lv_entry ([.ref (a 0), .int (nI (i)), .int (x), .long (sd), .int (nI (k9))]) (n := 6) (Nat.le_of_ble_eq_true rfl)
  rw [lg_entry_eq]
  generalize (lg_sl ([.ref (a 0), .int (nI (i)), .int (x), .long (sd), .int (nI (k9))]) ++ List.replicate (6 - (lg_sl ([.ref (a 0), .int (nI (i)), .int (x), .long (sd), .int (nI (k9))])).length) Slot.unset).toArray = ls at hl ⊢
  have hl : lv_has ls 6 [(0, .ref (a 0)), (1, .int (nI (i))), (2, .int (x)), (3, .long (sd)), (5, .int (nI (k9)))] := hl
  refine lv_aload_n hx hb dX5_group_0 rfl (lv_at hl 0 rfl) ?_
  refine lv_aload_n hx hb dX5_group_1 rfl (lv_at hl 0 rfl) ?_
  refine lv_iload_n hx hb dX5_group_2 rfl (lv_at hl 1 rfl) ?_
  have hPm : va_P D vwCl (kW cI cJ cZ cV cR a C) s.heap := by exact hP
  have hDm : va_D A (kW cI cJ cZ cV cR a C) := by exact hD
  refine wc_VWr (As := [.int (nI (i))]) (rest := [.ref (a 0)]) (ra := Prod.fst) (wf := fun u => kW cI cJ cZ cV cR a u.2) ⟨hx, hb, hml, hown, hts⟩ (c_X5_viewAt l D cI cJ cZ cV cR a C hM (i) (q) (by omega) hq9 s.heap.size) (cwV 1 hts gX5_group_X5_viewAt rfl rfl rfl (by decide +kernel) ⟨Nat.le_of_ble_eq_true rfl, Nat.le_of_ble_eq_true rfl⟩) hPm hK hDm hS hA 0 rfl rfl rfl hl.1 rfl (Nat.le_of_ble_eq_true rfl) dX5_group_3 ⟨Nat.le_of_ble_eq_true rfl, Nat.le_of_ble_eq_true rfl⟩ (fun u1 hq1 H locs hP hD hS => ?_)
  have hu1 := hq1
  subst hu1
  have hP : va_P D vwCl (kX cI cJ cZ cV cR a (k_ra C) (k_rb C) (k_vc C) (k_rc C) (k_pc C) (k_nw C) (k_n C) (k_fn C) (k_sn C) (k_kc C) (k_grp C) (k_key C) (k_srt C) (k_wt C) (k_home C) (k_drp C) (k_met C) (k_kin C) (k_alv C) (k_srs C) (k_row C) (k_sp C) (k_kis C) (k_pg C) (k_vq C) (k_rq C) (k_L C) (k_F C)) H := hP
  have hD : va_D A (kX cI cJ cZ cV cR a (k_ra C) (k_rb C) (k_vc C) (k_rc C) (k_pc C) (k_nw C) (k_n C) (k_fn C) (k_sn C) (k_kc C) (k_grp C) (k_key C) (k_srt C) (k_wt C) (k_home C) (k_drp C) (k_met C) (k_kin C) (k_alv C) (k_srs C) (k_row C) (k_sp C) (k_kis C) (k_pg C) (k_vq C) (k_rq C) (k_L C) (k_F C)) := hD
  refine lv_iload_n hx hb dX5_group_6 rfl (lv_at hl 2 rfl) ?_
  refine lv_lload_n hx hb dX5_group_7 rfl (lv_at hl 3 rfl) ?_
  refine lv_iload hx hb dX5_group_8 (lv_at hl 4 rfl) ?_
  have hPm : va_P D vwCl (kW cI cJ cZ cV cR a C) H := by exact hP
  have hDm : va_D A (kW cI cJ cZ cV cR a C) := by exact hD
  refine wx_V (As := [.ref (q), .int (x), .long (sd), .int (nI (k9))]) (rest := []) (wf := kW cI cJ cZ cV cR a) ⟨hx, hb, hml, hown, hts⟩ (x_X5_rankGroup_k l htr D cI cJ cZ cV cR a C hM q hs se c9 g9 st9 r9 n9 f9 hV hI hc9 hn9 hg9 hst9 hr9 hf9 x sd k9 hk9 hbad H.size) (cwV 4 hts gX5_group_X5_rankGroup rfl rfl rfl (by decide +kernel) ⟨Nat.le_of_ble_eq_true rfl, Nat.le_of_ble_eq_true rfl⟩) hPm hK hDm hS hA hXE 0 rfl rfl rfl hl.1 rfl (Nat.le_of_ble_eq_true rfl) dX5_group_10 ⟨Nat.le_of_ble_eq_true rfl, Nat.le_of_ble_eq_true rfl⟩ (fun u hu H locs ce q9 hP hD hS hce hcv hcl => ?_)
  exact vx_out (fun x h => (hout x h).elim) hlocks hce hcv hcl (xxc_eq u hu hP hK hD hS) hS.2.2 (Nat.le_refl _) (Nat.le_refl _)
def rm_X5_counted : Room := { frames := 5, cells := 0, slots := 0, locals := 123 }
set_option maxHeartbeats 4000000 in
set_option maxRecDepth 100000 in
/-- of a group -/
theorem c_X5_counted (l : Launch) (D : va_G) (cI cJ cZ cV cR : ClassId) (a : Nat → Nat) (C : CT) (hM : kOk C) (q hs se c9 g9 st9 r9 n9 : Nat) (f9 : Nat → Nat) (hV : isV (k_L C) (k_F C) q hs se c9 g9 st9 r9) (hI : isI cI (k_L C) (k_F C) hs n9 f9) (hc9 : c9 ≤ n9) (hn9 : n9 ≤ 300) (hg9 : g9 ≤ 300) (hst9 : st9 ≤ 2) (hr9 : r9 ≤ 60) (hf9 : ∀ j, f9 j < 300) (i : Nat) (hi9 : i < k_vc C) (hq9 : k_vq C i = some q) (kd : Nat) (sd : Int64) (k9 : Nat) (hkd : kd < 3) (hk9 : k9 < g9) (hkg : k9 < (lgR (rkM C f9 c9 kd sd)).1)  (sz : Nat) : Met l yX5_counted wsX5_counted rm_X5_counted (va_Pc [.ref (a 0), .int (nI (i)), .int (nI (kd)), .long (sd), .int (nI (k9))] (GW D (tyK cI cJ cZ cV cR) (kW cI cJ cZ cV cR a C) sz)) (va_Qi (fun rr u => rr = nI (k_kc (ngM (rkM C f9 c9 kd sd) k9)) ∧ u = ngM (rkM C f9 c9 kd sd) k9) (fun u => GB D (tyK cI cJ cZ cV cR) (va_A (kW cI cJ cZ cV cR a C) sz) (kW cI cJ cZ cV cR a u)) (va_A (kW cI cJ cZ cV cR a C) sz)) 0 0 (va_A (kW cI cJ cZ cV cR a C) sz) := by
  obtain ⟨hn, hfn, hsn, hvc, hrc, hpc, hnw, hkc, h_home, h_kin, h_alv, h_srs, h_row, h_sp, h_kis, h_pg⟩ := id hM
  refine Met.ofW (cc := cX5_counted) (maxL := 6) (ret := (some .int)) (by decide) rfl ?_
  intro p e s m args below meth c s₁ B hml hv
  obtain ⟨rfl, hsz, hP, hK, hD0⟩ := hv
  have hx := B.exec
  have hb := B.bytes
  have hr := B.returns
  have hts := atoms_spec (ws := wsX5_counted) B.pre
  have hown : s.vm.findClass RX5 = some m.cls := findClass_of_methodNamed B.named
  have hlocks := B.notSynchronized
  subst hsz
  have hD := hD0.self (sz := s.heap.size)
  generalize hAe : va_A (kW cI cJ cZ cV cR a C) s.heap.size = A at hD ⊢
  have hA : ∀ q : Nat, s.heap.size ≤ q → A q := fun q h => by rw [← hAe]; exact Or.inr h
  have hS : va_S A s.heap s.heap [] := va_S.rf
  have hP : va_P D vwCl (kX cI cJ cZ cV cR a (k_ra C) (k_rb C) (k_vc C) (k_rc C) (k_pc C) (k_nw C) (k_n C) (k_fn C) (k_sn C) (k_kc C) (k_grp C) (k_key C) (k_srt C) (k_wt C) (k_home C) (k_drp C) (k_met C) (k_kin C) (k_alv C) (k_srs C) (k_row C) (k_sp C) (k_kis C) (k_pg C) (k_vq C) (k_rq C) (k_L C) (k_F C)) s.heap := hP
  have hD : va_D A (kX cI cJ cZ cV cR a (k_ra C) (k_rb C) (k_vc C) (k_rc C) (k_pc C) (k_nw C) (k_n C) (k_fn C) (k_sn C) (k_kc C) (k_grp C) (k_key C) (k_srt C) (k_wt C) (k_home C) (k_drp C) (k_met C) (k_kin C) (k_alv C) (k_srs C) (k_row C) (k_sp C) (k_kis C) (k_pg C) (k_vq C) (k_rq C) (k_L C) (k_F C)) := hD
  have hiX5 : ∀ w ∈ wsX50, w ∈ wsX5_counted := by decide +kernel
  have hiX0 : ∀ w ∈ wsX00, w ∈ wsX5_counted := by decide +kernel
  have hf0 := hts (.fieldLink RX5 28 "GroupCursors" "ranking" "LGroupCursors$Ranking;") (by decide +kernel)
  have hf1 := hts (.fieldLink RX5 184 "GroupCursors$Ranking" "count" "I") (by decide +kernel)
  have hl := lv_entry ([.ref (a 0), .int (nI (i)), .int (nI (kd)), .long (sd), .int (nI (k9))]) (n := 6) (Nat.le_of_ble_eq_true rfl)
  rw [lg_entry_eq]
  generalize (lg_sl ([.ref (a 0), .int (nI (i)), .int (nI (kd)), .long (sd), .int (nI (k9))]) ++ List.replicate (6 - (lg_sl ([.ref (a 0), .int (nI (i)), .int (nI (kd)), .long (sd), .int (nI (k9))])).length) Slot.unset).toArray = ls at hl ⊢
  have hl : lv_has ls 6 [(0, .ref (a 0)), (1, .int (nI (i))), (2, .int (nI (kd))), (3, .long (sd)), (5, .int (nI (k9)))] := hl
  refine lv_aload_n hx hb dX5_counted_0 rfl (lv_at hl 0 rfl) ?_
  refine lv_aload_n hx hb dX5_counted_1 rfl (lv_at hl 0 rfl) ?_
  refine lv_iload_n hx hb dX5_counted_2 rfl (lv_at hl 1 rfl) ?_
  have hPm : va_P D vwCl (kW cI cJ cZ cV cR a C) s.heap := by exact hP
  have hDm : va_D A (kW cI cJ cZ cV cR a C) := by exact hD
  refine wc_VWr (As := [.int (nI (i))]) (rest := [.ref (a 0)]) (ra := Prod.fst) (wf := fun u => kW cI cJ cZ cV cR a u.2) ⟨hx, hb, hml, hown, hts⟩ (c_X5_viewAt l D cI cJ cZ cV cR a C hM (i) (q) (by omega) hq9 s.heap.size) (cwV 1 hts gX5_counted_X5_viewAt rfl rfl rfl (by decide +kernel) ⟨Nat.le_of_ble_eq_true rfl, Nat.le_of_ble_eq_true rfl⟩) hPm hK hDm hS hA 0 rfl rfl rfl hl.1 rfl (Nat.le_of_ble_eq_true rfl) dX5_counted_3 ⟨Nat.le_of_ble_eq_true rfl, Nat.le_of_ble_eq_true rfl⟩ (fun u1 hq1 H locs hP hD hS => ?_)
  have hu1 := hq1
  subst hu1
  have hP : va_P D vwCl (kX cI cJ cZ cV cR a (k_ra C) (k_rb C) (k_vc C) (k_rc C) (k_pc C) (k_nw C) (k_n C) (k_fn C) (k_sn C) (k_kc C) (k_grp C) (k_key C) (k_srt C) (k_wt C) (k_home C) (k_drp C) (k_met C) (k_kin C) (k_alv C) (k_srs C) (k_row C) (k_sp C) (k_kis C) (k_pg C) (k_vq C) (k_rq C) (k_L C) (k_F C)) H := hP
  have hD : va_D A (kX cI cJ cZ cV cR a (k_ra C) (k_rb C) (k_vc C) (k_rc C) (k_pc C) (k_nw C) (k_n C) (k_fn C) (k_sn C) (k_kc C) (k_grp C) (k_key C) (k_srt C) (k_wt C) (k_home C) (k_drp C) (k_met C) (k_kin C) (k_alv C) (k_srs C) (k_row C) (k_sp C) (k_kis C) (k_pg C) (k_vq C) (k_rq C) (k_L C) (k_F C)) := hD
  refine lv_iload_n hx hb dX5_counted_6 rfl (lv_at hl 2 rfl) ?_
  refine lv_lload_n hx hb dX5_counted_7 rfl (lv_at hl 3 rfl) ?_
  refine lv_iload hx hb dX5_counted_8 (lv_at hl 4 rfl) ?_
  have hPm : va_P D vwCl (kW cI cJ cZ cV cR a C) H := by exact hP
  have hDm : va_D A (kW cI cJ cZ cV cR a C) := by exact hD
  refine wc_VWv (As := [.ref (q), .int (nI (kd)), .long (sd), .int (nI (k9))]) (rest := []) (wf := kW cI cJ cZ cV cR a) ⟨hx, hb, hml, hown, hts⟩ (c_X5_rankGroup l D cI cJ cZ cV cR a C hM (q) (hs) (se) (c9) (g9) (st9) (r9) (n9) (f9) hV hI (by omega) (by omega) (by omega) (by omega) (by omega) hf9 (kd) (sd) (k9) (by omega) (by omega) hkg H.size) (cwV 4 hts gX5_counted_X5_rankGroup rfl rfl rfl (by decide +kernel) ⟨Nat.le_of_ble_eq_true rfl, Nat.le_of_ble_eq_true rfl⟩) hPm hK hDm hS hA 0 rfl rfl rfl hl.1 rfl (Nat.le_of_ble_eq_true rfl) dX5_counted_10 ⟨Nat.le_of_ble_eq_true rfl, Nat.le_of_ble_eq_true rfl⟩ (fun u2 hq2 H locs hP hD hS => ?_)
  have hu2 := hq2.symm
  subst hu2
  have hP : va_P D vwCl (kX cI cJ cZ cV cR a (k_ra (ngM (rkM C (f9) (c9) (kd) (sd)) (k9))) (k_rb (ngM (rkM C (f9) (c9) (kd) (sd)) (k9))) (k_vc (ngM (rkM C (f9) (c9) (kd) (sd)) (k9))) (k_rc (ngM (rkM C (f9) (c9) (kd) (sd)) (k9))) (k_pc (ngM (rkM C (f9) (c9) (kd) (sd)) (k9))) (k_nw (ngM (rkM C (f9) (c9) (kd) (sd)) (k9))) (k_n (ngM (rkM C (f9) (c9) (kd) (sd)) (k9))) (k_fn (ngM (rkM C (f9) (c9) (kd) (sd)) (k9))) (k_sn (ngM (rkM C (f9) (c9) (kd) (sd)) (k9))) (k_kc (ngM (rkM C (f9) (c9) (kd) (sd)) (k9))) (k_grp (ngM (rkM C (f9) (c9) (kd) (sd)) (k9))) (k_key (ngM (rkM C (f9) (c9) (kd) (sd)) (k9))) (k_srt (ngM (rkM C (f9) (c9) (kd) (sd)) (k9))) (k_wt (ngM (rkM C (f9) (c9) (kd) (sd)) (k9))) (k_home (ngM (rkM C (f9) (c9) (kd) (sd)) (k9))) (k_drp (ngM (rkM C (f9) (c9) (kd) (sd)) (k9))) (k_met (ngM (rkM C (f9) (c9) (kd) (sd)) (k9))) (k_kin (ngM (rkM C (f9) (c9) (kd) (sd)) (k9))) (k_alv (ngM (rkM C (f9) (c9) (kd) (sd)) (k9))) (k_srs (ngM (rkM C (f9) (c9) (kd) (sd)) (k9))) (k_row (ngM (rkM C (f9) (c9) (kd) (sd)) (k9))) (k_sp (ngM (rkM C (f9) (c9) (kd) (sd)) (k9))) (k_kis (ngM (rkM C (f9) (c9) (kd) (sd)) (k9))) (k_pg (ngM (rkM C (f9) (c9) (kd) (sd)) (k9))) (k_vq (ngM (rkM C (f9) (c9) (kd) (sd)) (k9))) (k_rq (ngM (rkM C (f9) (c9) (kd) (sd)) (k9))) (k_L (ngM (rkM C (f9) (c9) (kd) (sd)) (k9))) (k_F (ngM (rkM C (f9) (c9) (kd) (sd)) (k9)))) H := hP
  have hD : va_D A (kX cI cJ cZ cV cR a (k_ra (ngM (rkM C (f9) (c9) (kd) (sd)) (k9))) (k_rb (ngM (rkM C (f9) (c9) (kd) (sd)) (k9))) (k_vc (ngM (rkM C (f9) (c9) (kd) (sd)) (k9))) (k_rc (ngM (rkM C (f9) (c9) (kd) (sd)) (k9))) (k_pc (ngM (rkM C (f9) (c9) (kd) (sd)) (k9))) (k_nw (ngM (rkM C (f9) (c9) (kd) (sd)) (k9))) (k_n (ngM (rkM C (f9) (c9) (kd) (sd)) (k9))) (k_fn (ngM (rkM C (f9) (c9) (kd) (sd)) (k9))) (k_sn (ngM (rkM C (f9) (c9) (kd) (sd)) (k9))) (k_kc (ngM (rkM C (f9) (c9) (kd) (sd)) (k9))) (k_grp (ngM (rkM C (f9) (c9) (kd) (sd)) (k9))) (k_key (ngM (rkM C (f9) (c9) (kd) (sd)) (k9))) (k_srt (ngM (rkM C (f9) (c9) (kd) (sd)) (k9))) (k_wt (ngM (rkM C (f9) (c9) (kd) (sd)) (k9))) (k_home (ngM (rkM C (f9) (c9) (kd) (sd)) (k9))) (k_drp (ngM (rkM C (f9) (c9) (kd) (sd)) (k9))) (k_met (ngM (rkM C (f9) (c9) (kd) (sd)) (k9))) (k_kin (ngM (rkM C (f9) (c9) (kd) (sd)) (k9))) (k_alv (ngM (rkM C (f9) (c9) (kd) (sd)) (k9))) (k_srs (ngM (rkM C (f9) (c9) (kd) (sd)) (k9))) (k_row (ngM (rkM C (f9) (c9) (kd) (sd)) (k9))) (k_sp (ngM (rkM C (f9) (c9) (kd) (sd)) (k9))) (k_kis (ngM (rkM C (f9) (c9) (kd) (sd)) (k9))) (k_pg (ngM (rkM C (f9) (c9) (kd) (sd)) (k9))) (k_vq (ngM (rkM C (f9) (c9) (kd) (sd)) (k9))) (k_rq (ngM (rkM C (f9) (c9) (kd) (sd)) (k9))) (k_L (ngM (rkM C (f9) (c9) (kd) (sd)) (k9))) (k_F (ngM (rkM C (f9) (c9) (kd) (sd)) (k9)))) := hD
  refine lv_aload_n hx hb dX5_counted_13 rfl (lv_at hl 0 rfl) ?_
  refine va_get (ci := 5) (v := .ref (a 11)) (C := RX5) (T := TX5) (N := 10) hx hb hts hiX5 hown hK hP 0 rfl rfl 2 (by decide) hf0 (fun _ h9 => h9) rfl dX5_counted_14 ?_
  refine va_get (ci := 0) (v := .int (nI (k_kc (ngM (rkM C (f9) (c9) (kd) (sd)) (k9))))) (C := RX0) (T := TX0) (N := 7) hx hb hts hiX0 hown hK hP 11 rfl rfl 6 (by decide) hf1 (fun _ h9 => h9) rfl dX5_counted_17 ?_
  have hPm : va_P D vwCl (kW cI cJ cZ cV cR a (ngM (rkM C (f9) (c9) (kd) (sd)) (k9))) H := by exact hP
  have hDm : va_D A (kW cI cJ cZ cV cR a (ngM (rkM C (f9) (c9) (kd) (sd)) (k9))) := by exact hD
  exact W.iret (v := nI (k_kc (ngM (rkM C (f9) (c9) (kd) (sd)) (k9)))) hx hb hr (fun t ht hW => ⟨⟨_, (ngM (rkM C (f9) (c9) (kd) (sd)) (k9)), rfl, ⟨rfl, rfl⟩, gb_mk ht hW hPm hK hDm⟩, hS.F ht⟩) hS.2.2 dX5_counted_20
def rmx_X5_counted_v : Room := { frames := 7, cells := 1, slots := 6, locals := 104 }
set_option maxHeartbeats 4000000 in
set_option maxRecDepth 100000 in
/-- no such view -/
theorem x_X5_counted_v (l : Launch) (htr : l.stackTraces = false) (D : va_G) (cI cJ cZ cV cR : ClassId) (a : Nat → Nat) (C : CT) (hM : kOk C) (x y : Int32) (sd : Int64) (k : Int32) (hbad : x.toInt < 0 ∨ ((k_vc C : Nat) : Int) ≤ x.toInt) (sz : Nat) : vx_Met l yX5_counted wsX5_counted rmx_X5_counted_v (va_Pc [.ref (a 0), .int (x), .int (y), .long (sd), .int (k)] (GX D (tyK cI cJ cZ cV cR) (kW cI cJ cZ cV cR a C) sz)) xNo (xXC D (tyK cI cJ cZ cV cR) "java/lang/IndexOutOfBoundsException" (fun u : CT => u = C) (kW cI cJ cZ cV cR a) (va_A (kW cI cJ cZ cV cR a C) sz)) 1 6 (va_A (kW cI cJ cZ cV cR a C) sz) := by
  obtain ⟨hn, hfn, hsn, hvc, hrc, hpc, hnw, hkc, h_home, h_kin, h_alv, h_srs, h_row, h_sp, h_kis, h_pg⟩ := id hM
  refine vx_ofW (cc := cX5_counted) (maxL := 6) (ret := (some .int)) (by decide) rfl ?_
  intro p e s m args below meth c s₁ B hml hout hv
  obtain ⟨rfl, ⟨hsz, hP, hK, hD0⟩, hXE⟩ := hv
  have hx := B.exec
  have hb := B.bytes
  have hr := B.returns
  have hts := atoms_spec (ws := wsX5_counted) B.pre
  have hown : s.vm.findClass RX5 = some m.cls := findClass_of_methodNamed B.named
  have hlocks := B.notSynchronized
  subst hsz
  have hD := hD0.self (sz := s.heap.size)
  generalize hAe : va_A (kW cI cJ cZ cV cR a C) s.heap.size = A at hD hXE ⊢
  have hA : ∀ q : Nat, s.heap.size ≤ q → A q := fun q h => by rw [← hAe]; exact Or.inr h
  have hS : va_S A s.heap s.heap [] := va_S.rf
  have hP : va_P D vwCl (kX cI cJ cZ cV cR a (k_ra C) (k_rb C) (k_vc C) (k_rc C) (k_pc C) (k_nw C) (k_n C) (k_fn C) (k_sn C) (k_kc C) (k_grp C) (k_key C) (k_srt C) (k_wt C) (k_home C) (k_drp C) (k_met C) (k_kin C) (k_alv C) (k_srs C) (k_row C) (k_sp C) (k_kis C) (k_pg C) (k_vq C) (k_rq C) (k_L C) (k_F C)) s.heap := hP
  have hD : va_D A (kX cI cJ cZ cV cR a (k_ra C) (k_rb C) (k_vc C) (k_rc C) (k_pc C) (k_nw C) (k_n C) (k_fn C) (k_sn C) (k_kc C) (k_grp C) (k_key C) (k_srt C) (k_wt C) (k_home C) (k_drp C) (k_met C) (k_kin C) (k_alv C) (k_srs C) (k_row C) (k_sp C) (k_kis C) (k_pg C) (k_vq C) (k_rq C) (k_L C) (k_F C)) := hD
  have hl := lv_entry ([.ref (a 0), .int (x), .int (y), .long (sd), .int (k)]) (n := 6) (Nat.le_of_ble_eq_true rfl)
  rw [lg_entry_eq]
  generalize (lg_sl ([.ref (a 0), .int (x), .int (y), .long (sd), .int (k)]) ++ List.replicate (6 - (lg_sl ([.ref (a 0), .int (x), .int (y), .long (sd), .int (k)])).length) Slot.unset).toArray = ls at hl ⊢
  have hl : lv_has ls 6 [(0, .ref (a 0)), (1, .int (x)), (2, .int (y)), (3, .long (sd)), (5, .int (k))] := hl
  refine lv_aload_n hx hb dX5_counted_0 rfl (lv_at hl 0 rfl) ?_
  refine lv_aload_n hx hb dX5_counted_1 rfl (lv_at hl 0 rfl) ?_
  refine lv_iload_n hx hb dX5_counted_2 rfl (lv_at hl 1 rfl) ?_
  have hPm : va_P D vwCl (kW cI cJ cZ cV cR a C) s.heap := by exact hP
  have hDm : va_D A (kW cI cJ cZ cV cR a C) := by exact hD
  refine wx_V (As := [.int (x)]) (rest := [.ref (a 0)]) (wf := kW cI cJ cZ cV cR a) ⟨hx, hb, hml, hown, hts⟩ (x_X5_viewAt l htr D cI cJ cZ cV cR a C hM x hbad s.heap.size) (cwV 1 hts gX5_counted_X5_viewAt rfl rfl rfl (by decide +kernel) ⟨Nat.le_of_ble_eq_true rfl, Nat.le_of_ble_eq_true rfl⟩) hPm hK hDm hS hA hXE 0 rfl rfl rfl hl.1 rfl (Nat.le_of_ble_eq_true rfl) dX5_counted_3 ⟨Nat.le_of_ble_eq_true rfl, Nat.le_of_ble_eq_true rfl⟩ (fun u hu H locs ce q9 hP hD hS hce hcv hcl => ?_)
  exact vx_out (fun x h => (hout x h).elim) hlocks hce hcv hcl (xxc_eq u hu hP hK hD hS) hS.2.2 (Nat.le_refl _) (Nat.le_refl _)
def rmx_X5_counted_g : Room := { frames := 8, cells := 1, slots := 6, locals := 128 }
set_option maxHeartbeats 4000000 in
set_option maxRecDepth 100000 in
/-- no such group -/
theorem x_X5_counted_g (l : Launch) (htr : l.stackTraces = false) (D : va_G) (cI cJ cZ cV cR : ClassId) (a : Nat → Nat) (C : CT) (hM : kOk C) (q hs se c9 g9 st9 r9 n9 : Nat) (f9 : Nat → Nat) (hV : isV (k_L C) (k_F C) q hs se c9 g9 st9 r9) (hI : isI cI (k_L C) (k_F C) hs n9 f9) (hc9 : c9 ≤ n9) (hn9 : n9 ≤ 300) (hg9 : g9 ≤ 300) (hst9 : st9 ≤ 2) (hr9 : r9 ≤ 60) (hf9 : ∀ j, f9 j < 300) (i : Nat) (hi9 : i < k_vc C) (hq9 : k_vq C i = some q) (y : Int32) (sd : Int64) (x : Int32) (hbad : x.toInt < 0 ∨ ((g9 : Nat) : Int) ≤ x.toInt) (sz : Nat) : vx_Met l yX5_counted wsX5_counted rmx_X5_counted_g (va_Pc [.ref (a 0), .int (nI (i)), .int (y), .long (sd), .int (x)] (GX D (tyK cI cJ cZ cV cR) (kW cI cJ cZ cV cR a C) sz)) xNo (xXC D (tyK cI cJ cZ cV cR) "java/lang/IndexOutOfBoundsException" (fun u : CT => u = C) (kW cI cJ cZ cV cR a) (va_A (kW cI cJ cZ cV cR a C) sz)) 1 6 (va_A (kW cI cJ cZ cV cR a C) sz) := by
  obtain ⟨hn, hfn, hsn, hvc, hrc, hpc, hnw, hkc, h_home, h_kin, h_alv, h_srs, h_row, h_sp, h_kis, h_pg⟩ := id hM
  refine vx_ofW (cc := cX5_counted) (maxL := 6) (ret := (some .int)) (by decide) rfl ?_
  intro p e s m args below meth c s₁ B hml hout hv
  obtain ⟨rfl, ⟨hsz, hP, hK, hD0⟩, hXE⟩ := hv
  have hx := B.exec
  have hb := B.bytes
  have hr := B.returns
  have hts := atoms_spec (ws := wsX5_counted) B.pre
  have hown : s.vm.findClass RX5 = some m.cls := findClass_of_methodNamed B.named
  have hlocks := B.notSynchronized
  subst hsz
  have hD := hD0.self (sz := s.heap.size)
  generalize hAe : va_A (kW cI cJ cZ cV cR a C) s.heap.size = A at hD hXE ⊢
  have hA : ∀ q : Nat, s.heap.size ≤ q → A q := fun q h => by rw [← hAe]; exact Or.inr h
  have hS : va_S A s.heap s.heap [] := va_S.rf
  have hP : va_P D vwCl (kX cI cJ cZ cV cR a (k_ra C) (k_rb C) (k_vc C) (k_rc C) (k_pc C) (k_nw C) (k_n C) (k_fn C) (k_sn C) (k_kc C) (k_grp C) (k_key C) (k_srt C) (k_wt C) (k_home C) (k_drp C) (k_met C) (k_kin C) (k_alv C) (k_srs C) (k_row C) (k_sp C) (k_kis C) (k_pg C) (k_vq C) (k_rq C) (k_L C) (k_F C)) s.heap := hP
  have hD : va_D A (kX cI cJ cZ cV cR a (k_ra C) (k_rb C) (k_vc C) (k_rc C) (k_pc C) (k_nw C) (k_n C) (k_fn C) (k_sn C) (k_kc C) (k_grp C) (k_key C) (k_srt C) (k_wt C) (k_home C) (k_drp C) (k_met C) (k_kin C) (k_alv C) (k_srs C) (k_row C) (k_sp C) (k_kis C) (k_pg C) (k_vq C) (k_rq C) (k_L C) (k_F C)) := hD
  have hl := lv_entry ([.ref (a 0), .int (nI (i)), .int (y), .long (sd), .int (x)]) (n := 6) (Nat.le_of_ble_eq_true rfl)
  rw [lg_entry_eq]
  generalize (lg_sl ([.ref (a 0), .int (nI (i)), .int (y), .long (sd), .int (x)]) ++ List.replicate (6 - (lg_sl ([.ref (a 0), .int (nI (i)), .int (y), .long (sd), .int (x)])).length) Slot.unset).toArray = ls at hl ⊢
  have hl : lv_has ls 6 [(0, .ref (a 0)), (1, .int (nI (i))), (2, .int (y)), (3, .long (sd)), (5, .int (x))] := hl
  refine lv_aload_n hx hb dX5_counted_0 rfl (lv_at hl 0 rfl) ?_
  refine lv_aload_n hx hb dX5_counted_1 rfl (lv_at hl 0 rfl) ?_
  refine lv_iload_n hx hb dX5_counted_2 rfl (lv_at hl 1 rfl) ?_
  have hPm : va_P D vwCl (kW cI cJ cZ cV cR a C) s.heap := by exact hP
  have hDm : va_D A (kW cI cJ cZ cV cR a C) := by exact hD
  refine wc_VWr (As := [.int (nI (i))]) (rest := [.ref (a 0)]) (ra := Prod.fst) (wf := fun u => kW cI cJ cZ cV cR a u.2) ⟨hx, hb, hml, hown, hts⟩ (c_X5_viewAt l D cI cJ cZ cV cR a C hM (i) (q) (by omega) hq9 s.heap.size) (cwV 1 hts gX5_counted_X5_viewAt rfl rfl rfl (by decide +kernel) ⟨Nat.le_of_ble_eq_true rfl, Nat.le_of_ble_eq_true rfl⟩) hPm hK hDm hS hA 0 rfl rfl rfl hl.1 rfl (Nat.le_of_ble_eq_true rfl) dX5_counted_3 ⟨Nat.le_of_ble_eq_true rfl, Nat.le_of_ble_eq_true rfl⟩ (fun u1 hq1 H locs hP hD hS => ?_)
  have hu1 := hq1
  subst hu1
  have hP : va_P D vwCl (kX cI cJ cZ cV cR a (k_ra C) (k_rb C) (k_vc C) (k_rc C) (k_pc C) (k_nw C) (k_n C) (k_fn C) (k_sn C) (k_kc C) (k_grp C) (k_key C) (k_srt C) (k_wt C) (k_home C) (k_drp C) (k_met C) (k_kin C) (k_alv C) (k_srs C) (k_row C) (k_sp C) (k_kis C) (k_pg C) (k_vq C) (k_rq C) (k_L C) (k_F C)) H := hP
  have hD : va_D A (kX cI cJ cZ cV cR a (k_ra C) (k_rb C) (k_vc C) (k_rc C) (k_pc C) (k_nw C) (k_n C) (k_fn C) (k_sn C) (k_kc C) (k_grp C) (k_key C) (k_srt C) (k_wt C) (k_home C) (k_drp C) (k_met C) (k_kin C) (k_alv C) (k_srs C) (k_row C) (k_sp C) (k_kis C) (k_pg C) (k_vq C) (k_rq C) (k_L C) (k_F C)) := hD
  refine lv_iload_n hx hb dX5_counted_6 rfl (lv_at hl 2 rfl) ?_
  refine lv_lload_n hx hb dX5_counted_7 rfl (lv_at hl 3 rfl) ?_
  refine lv_iload hx hb dX5_counted_8 (lv_at hl 4 rfl) ?_
  have hPm : va_P D vwCl (kW cI cJ cZ cV cR a C) H := by exact hP
  have hDm : va_D A (kW cI cJ cZ cV cR a C) := by exact hD
  refine wx_V (As := [.ref (q), .int (y), .long (sd), .int (x)]) (rest := []) (wf := kW cI cJ cZ cV cR a) ⟨hx, hb, hml, hown, hts⟩ (x_X5_rankGroup_g l htr D cI cJ cZ cV cR a C hM q hs se c9 g9 st9 r9 n9 f9 hV hI hc9 hn9 hg9 hst9 hr9 hf9 y sd x hbad H.size) (cwV 4 hts gX5_counted_X5_rankGroup rfl rfl rfl (by decide +kernel) ⟨Nat.le_of_ble_eq_true rfl, Nat.le_of_ble_eq_true rfl⟩) hPm hK hDm hS hA hXE 0 rfl rfl rfl hl.1 rfl (Nat.le_of_ble_eq_true rfl) dX5_counted_10 ⟨Nat.le_of_ble_eq_true rfl, Nat.le_of_ble_eq_true rfl⟩ (fun u hu H locs ce q9 hP hD hS hce hcv hcl => ?_)
  exact vx_out (fun x h => (hout x h).elim) hlocks hce hcv hcl (xxc_eq u hu hP hK hD hS) hS.2.2 (Nat.le_refl _) (Nat.le_refl _)
def rmx_X5_counted_k : Room := { frames := 9, cells := 1, slots := 6, locals := 151 }
set_option maxHeartbeats 4000000 in
set_option maxRecDepth 100000 in
/-- no such kind -/
theorem x_X5_counted_k (l : Launch) (htr : l.stackTraces = false) (D : va_G) (cI cJ cZ cV cR : ClassId) (a : Nat → Nat) (C : CT) (hM : kOk C) (q hs se c9 g9 st9 r9 n9 : Nat) (f9 : Nat → Nat) (hV : isV (k_L C) (k_F C) q hs se c9 g9 st9 r9) (hI : isI cI (k_L C) (k_F C) hs n9 f9) (hc9 : c9 ≤ n9) (hn9 : n9 ≤ 300) (hg9 : g9 ≤ 300) (hst9 : st9 ≤ 2) (hr9 : r9 ≤ 60) (hf9 : ∀ j, f9 j < 300) (i : Nat) (hi9 : i < k_vc C) (hq9 : k_vq C i = some q) (x : Int32) (sd : Int64) (k9 : Nat) (hk9 : k9 < g9) (hbad : x.toInt < 0 ∨ ((3 : Nat) : Int) ≤ x.toInt) (sz : Nat) : vx_Met l yX5_counted wsX5_counted rmx_X5_counted_k (va_Pc [.ref (a 0), .int (nI (i)), .int (x), .long (sd), .int (nI (k9))] (GX D (tyK cI cJ cZ cV cR) (kW cI cJ cZ cV cR a C) sz)) xNo (xXC D (tyK cI cJ cZ cV cR) "java/lang/IllegalArgumentException" (fun u : CT => u = C) (kW cI cJ cZ cV cR a) (va_A (kW cI cJ cZ cV cR a C) sz)) 1 6 (va_A (kW cI cJ cZ cV cR a C) sz) := by
  obtain ⟨hn, hfn, hsn, hvc, hrc, hpc, hnw, hkc, h_home, h_kin, h_alv, h_srs, h_row, h_sp, h_kis, h_pg⟩ := id hM
  refine vx_ofW (cc := cX5_counted) (maxL := 6) (ret := (some .int)) (by decide) rfl ?_
  intro p e s m args below meth c s₁ B hml hout hv
  obtain ⟨rfl, ⟨hsz, hP, hK, hD0⟩, hXE⟩ := hv
  have hx := B.exec
  have hb := B.bytes
  have hr := B.returns
  have hts := atoms_spec (ws := wsX5_counted) B.pre
  have hown : s.vm.findClass RX5 = some m.cls := findClass_of_methodNamed B.named
  have hlocks := B.notSynchronized
  subst hsz
  have hD := hD0.self (sz := s.heap.size)
  generalize hAe : va_A (kW cI cJ cZ cV cR a C) s.heap.size = A at hD hXE ⊢
  have hA : ∀ q : Nat, s.heap.size ≤ q → A q := fun q h => by rw [← hAe]; exact Or.inr h
  have hS : va_S A s.heap s.heap [] := va_S.rf
  have hP : va_P D vwCl (kX cI cJ cZ cV cR a (k_ra C) (k_rb C) (k_vc C) (k_rc C) (k_pc C) (k_nw C) (k_n C) (k_fn C) (k_sn C) (k_kc C) (k_grp C) (k_key C) (k_srt C) (k_wt C) (k_home C) (k_drp C) (k_met C) (k_kin C) (k_alv C) (k_srs C) (k_row C) (k_sp C) (k_kis C) (k_pg C) (k_vq C) (k_rq C) (k_L C) (k_F C)) s.heap := hP
  have hD : va_D A (kX cI cJ cZ cV cR a (k_ra C) (k_rb C) (k_vc C) (k_rc C) (k_pc C) (k_nw C) (k_n C) (k_fn C) (k_sn C) (k_kc C) (k_grp C) (k_key C) (k_srt C) (k_wt C) (k_home C) (k_drp C) (k_met C) (k_kin C) (k_alv C) (k_srs C) (k_row C) (k_sp C) (k_kis C) (k_pg C) (k_vq C) (k_rq C) (k_L C) (k_F C)) := hD
  have hl := lv_entry ([.ref (a 0), .int (nI (i)), .int (x), .long (sd), .int (nI (k9))]) (n := 6) (Nat.le_of_ble_eq_true rfl)
  rw [lg_entry_eq]
  generalize (lg_sl ([.ref (a 0), .int (nI (i)), .int (x), .long (sd), .int (nI (k9))]) ++ List.replicate (6 - (lg_sl ([.ref (a 0), .int (nI (i)), .int (x), .long (sd), .int (nI (k9))])).length) Slot.unset).toArray = ls at hl ⊢
  have hl : lv_has ls 6 [(0, .ref (a 0)), (1, .int (nI (i))), (2, .int (x)), (3, .long (sd)), (5, .int (nI (k9)))] := hl
  refine lv_aload_n hx hb dX5_counted_0 rfl (lv_at hl 0 rfl) ?_
  refine lv_aload_n hx hb dX5_counted_1 rfl (lv_at hl 0 rfl) ?_
  refine lv_iload_n hx hb dX5_counted_2 rfl (lv_at hl 1 rfl) ?_
  have hPm : va_P D vwCl (kW cI cJ cZ cV cR a C) s.heap := by exact hP
  have hDm : va_D A (kW cI cJ cZ cV cR a C) := by exact hD
  refine wc_VWr (As := [.int (nI (i))]) (rest := [.ref (a 0)]) (ra := Prod.fst) (wf := fun u => kW cI cJ cZ cV cR a u.2) ⟨hx, hb, hml, hown, hts⟩ (c_X5_viewAt l D cI cJ cZ cV cR a C hM (i) (q) (by omega) hq9 s.heap.size) (cwV 1 hts gX5_counted_X5_viewAt rfl rfl rfl (by decide +kernel) ⟨Nat.le_of_ble_eq_true rfl, Nat.le_of_ble_eq_true rfl⟩) hPm hK hDm hS hA 0 rfl rfl rfl hl.1 rfl (Nat.le_of_ble_eq_true rfl) dX5_counted_3 ⟨Nat.le_of_ble_eq_true rfl, Nat.le_of_ble_eq_true rfl⟩ (fun u1 hq1 H locs hP hD hS => ?_)
  have hu1 := hq1
  subst hu1
  have hP : va_P D vwCl (kX cI cJ cZ cV cR a (k_ra C) (k_rb C) (k_vc C) (k_rc C) (k_pc C) (k_nw C) (k_n C) (k_fn C) (k_sn C) (k_kc C) (k_grp C) (k_key C) (k_srt C) (k_wt C) (k_home C) (k_drp C) (k_met C) (k_kin C) (k_alv C) (k_srs C) (k_row C) (k_sp C) (k_kis C) (k_pg C) (k_vq C) (k_rq C) (k_L C) (k_F C)) H := hP
  have hD : va_D A (kX cI cJ cZ cV cR a (k_ra C) (k_rb C) (k_vc C) (k_rc C) (k_pc C) (k_nw C) (k_n C) (k_fn C) (k_sn C) (k_kc C) (k_grp C) (k_key C) (k_srt C) (k_wt C) (k_home C) (k_drp C) (k_met C) (k_kin C) (k_alv C) (k_srs C) (k_row C) (k_sp C) (k_kis C) (k_pg C) (k_vq C) (k_rq C) (k_L C) (k_F C)) := hD
  refine lv_iload_n hx hb dX5_counted_6 rfl (lv_at hl 2 rfl) ?_
  refine lv_lload_n hx hb dX5_counted_7 rfl (lv_at hl 3 rfl) ?_
  refine lv_iload hx hb dX5_counted_8 (lv_at hl 4 rfl) ?_
  have hPm : va_P D vwCl (kW cI cJ cZ cV cR a C) H := by exact hP
  have hDm : va_D A (kW cI cJ cZ cV cR a C) := by exact hD
  refine wx_V (As := [.ref (q), .int (x), .long (sd), .int (nI (k9))]) (rest := []) (wf := kW cI cJ cZ cV cR a) ⟨hx, hb, hml, hown, hts⟩ (x_X5_rankGroup_k l htr D cI cJ cZ cV cR a C hM q hs se c9 g9 st9 r9 n9 f9 hV hI hc9 hn9 hg9 hst9 hr9 hf9 x sd k9 hk9 hbad H.size) (cwV 4 hts gX5_counted_X5_rankGroup rfl rfl rfl (by decide +kernel) ⟨Nat.le_of_ble_eq_true rfl, Nat.le_of_ble_eq_true rfl⟩) hPm hK hDm hS hA hXE 0 rfl rfl rfl hl.1 rfl (Nat.le_of_ble_eq_true rfl) dX5_counted_10 ⟨Nat.le_of_ble_eq_true rfl, Nat.le_of_ble_eq_true rfl⟩ (fun u hu H locs ce q9 hP hD hS hce hcv hcl => ?_)
  exact vx_out (fun x h => (hout x h).elim) hlocks hce hcv hcl (xxc_eq u hu hP hK hD hS) hS.2.2 (Nat.le_refl _) (Nat.le_refl _)
def rm_X5_best : Room := { frames := 5, cells := 0, slots := 0, locals := 123 }
set_option maxHeartbeats 4000000 in
set_option maxRecDepth 100000 in
/-- of a group -/
theorem c_X5_best (l : Launch) (D : va_G) (cI cJ cZ cV cR : ClassId) (a : Nat → Nat) (C : CT) (hM : kOk C) (q hs se c9 g9 st9 r9 n9 : Nat) (f9 : Nat → Nat) (hV : isV (k_L C) (k_F C) q hs se c9 g9 st9 r9) (hI : isI cI (k_L C) (k_F C) hs n9 f9) (hc9 : c9 ≤ n9) (hn9 : n9 ≤ 300) (hg9 : g9 ≤ 300) (hst9 : st9 ≤ 2) (hr9 : r9 ≤ 60) (hf9 : ∀ j, f9 j < 300) (i : Nat) (hi9 : i < k_vc C) (hq9 : k_vq C i = some q) (kd : Nat) (sd : Int64) (k9 : Nat) (hkd : kd < 3) (hk9 : k9 < g9) (hkg : k9 < (lgR (rkM C f9 c9 kd sd)).1) (j9 : Nat) (hj9 : j9 < k_kc (ngM (rkM C f9 c9 kd sd) k9)) (sz : Nat) : Met l yX5_best wsX5_best rm_X5_best (va_Pc [.ref (a 0), .int (nI (i)), .int (nI (kd)), .long (sd), .int (nI (k9)), .int (nI (j9))] (GW D (tyK cI cJ cZ cV cR) (kW cI cJ cZ cV cR a C) sz)) (va_Qi (fun rr u => rr = nI (k_row (ngM (rkM C f9 c9 kd sd) k9) j9) ∧ u = ngM (rkM C f9 c9 kd sd) k9) (fun u => GB D (tyK cI cJ cZ cV cR) (va_A (kW cI cJ cZ cV cR a C) sz) (kW cI cJ cZ cV cR a u)) (va_A (kW cI cJ cZ cV cR a C) sz)) 0 0 (va_A (kW cI cJ cZ cV cR a C) sz) := by
  obtain ⟨hn, hfn, hsn, hvc, hrc, hpc, hnw, hkc, h_home, h_kin, h_alv, h_srs, h_row, h_sp, h_kis, h_pg⟩ := id hM
  refine Met.ofW (cc := cX5_best) (maxL := 7) (ret := (some .int)) (by decide) rfl ?_
  intro p e s m args below meth c s₁ B hml hv
  obtain ⟨rfl, hsz, hP, hK, hD0⟩ := hv
  have hx := B.exec
  have hb := B.bytes
  have hr := B.returns
  have hts := atoms_spec (ws := wsX5_best) B.pre
  have hown : s.vm.findClass RX5 = some m.cls := findClass_of_methodNamed B.named
  have hlocks := B.notSynchronized
  subst hsz
  have hD := hD0.self (sz := s.heap.size)
  generalize hAe : va_A (kW cI cJ cZ cV cR a C) s.heap.size = A at hD ⊢
  have hA : ∀ q : Nat, s.heap.size ≤ q → A q := fun q h => by rw [← hAe]; exact Or.inr h
  have hS : va_S A s.heap s.heap [] := va_S.rf
  have hP : va_P D vwCl (kX cI cJ cZ cV cR a (k_ra C) (k_rb C) (k_vc C) (k_rc C) (k_pc C) (k_nw C) (k_n C) (k_fn C) (k_sn C) (k_kc C) (k_grp C) (k_key C) (k_srt C) (k_wt C) (k_home C) (k_drp C) (k_met C) (k_kin C) (k_alv C) (k_srs C) (k_row C) (k_sp C) (k_kis C) (k_pg C) (k_vq C) (k_rq C) (k_L C) (k_F C)) s.heap := hP
  have hD : va_D A (kX cI cJ cZ cV cR a (k_ra C) (k_rb C) (k_vc C) (k_rc C) (k_pc C) (k_nw C) (k_n C) (k_fn C) (k_sn C) (k_kc C) (k_grp C) (k_key C) (k_srt C) (k_wt C) (k_home C) (k_drp C) (k_met C) (k_kin C) (k_alv C) (k_srs C) (k_row C) (k_sp C) (k_kis C) (k_pg C) (k_vq C) (k_rq C) (k_L C) (k_F C)) := hD
  have hiX5 : ∀ w ∈ wsX50, w ∈ wsX5_best := by decide +kernel
  have hf0 := hts (.fieldLink RX5 28 "GroupCursors" "ranking" "LGroupCursors$Ranking;") (by decide +kernel)
  have hl := lv_entry ([.ref (a 0), .int (nI (i)), .int (nI (kd)), .long (sd), .int (nI (k9)), .int (nI (j9))]) (n := 7) (Nat.le_of_ble_eq_true rfl)
  rw [lg_entry_eq]
  generalize (lg_sl ([.ref (a 0), .int (nI (i)), .int (nI (kd)), .long (sd), .int (nI (k9)), .int (nI (j9))]) ++ List.replicate (7 - (lg_sl ([.ref (a 0), .int (nI (i)), .int (nI (kd)), .long (sd), .int (nI (k9)), .int (nI (j9))])).length) Slot.unset).toArray = ls at hl ⊢
  have hl : lv_has ls 7 [(0, .ref (a 0)), (1, .int (nI (i))), (2, .int (nI (kd))), (3, .long (sd)), (5, .int (nI (k9))), (6, .int (nI (j9)))] := hl
  refine lv_aload_n hx hb dX5_best_0 rfl (lv_at hl 0 rfl) ?_
  refine lv_aload_n hx hb dX5_best_1 rfl (lv_at hl 0 rfl) ?_
  refine lv_iload_n hx hb dX5_best_2 rfl (lv_at hl 1 rfl) ?_
  have hPm : va_P D vwCl (kW cI cJ cZ cV cR a C) s.heap := by exact hP
  have hDm : va_D A (kW cI cJ cZ cV cR a C) := by exact hD
  refine wc_VWr (As := [.int (nI (i))]) (rest := [.ref (a 0)]) (ra := Prod.fst) (wf := fun u => kW cI cJ cZ cV cR a u.2) ⟨hx, hb, hml, hown, hts⟩ (c_X5_viewAt l D cI cJ cZ cV cR a C hM (i) (q) (by omega) hq9 s.heap.size) (cwV 1 hts gX5_best_X5_viewAt rfl rfl rfl (by decide +kernel) ⟨Nat.le_of_ble_eq_true rfl, Nat.le_of_ble_eq_true rfl⟩) hPm hK hDm hS hA 0 rfl rfl rfl hl.1 rfl (Nat.le_of_ble_eq_true rfl) dX5_best_3 ⟨Nat.le_of_ble_eq_true rfl, Nat.le_of_ble_eq_true rfl⟩ (fun u1 hq1 H locs hP hD hS => ?_)
  have hu1 := hq1
  subst hu1
  have hP : va_P D vwCl (kX cI cJ cZ cV cR a (k_ra C) (k_rb C) (k_vc C) (k_rc C) (k_pc C) (k_nw C) (k_n C) (k_fn C) (k_sn C) (k_kc C) (k_grp C) (k_key C) (k_srt C) (k_wt C) (k_home C) (k_drp C) (k_met C) (k_kin C) (k_alv C) (k_srs C) (k_row C) (k_sp C) (k_kis C) (k_pg C) (k_vq C) (k_rq C) (k_L C) (k_F C)) H := hP
  have hD : va_D A (kX cI cJ cZ cV cR a (k_ra C) (k_rb C) (k_vc C) (k_rc C) (k_pc C) (k_nw C) (k_n C) (k_fn C) (k_sn C) (k_kc C) (k_grp C) (k_key C) (k_srt C) (k_wt C) (k_home C) (k_drp C) (k_met C) (k_kin C) (k_alv C) (k_srs C) (k_row C) (k_sp C) (k_kis C) (k_pg C) (k_vq C) (k_rq C) (k_L C) (k_F C)) := hD
  refine lv_iload_n hx hb dX5_best_6 rfl (lv_at hl 2 rfl) ?_
  refine lv_lload_n hx hb dX5_best_7 rfl (lv_at hl 3 rfl) ?_
  refine lv_iload hx hb dX5_best_8 (lv_at hl 4 rfl) ?_
  have hPm : va_P D vwCl (kW cI cJ cZ cV cR a C) H := by exact hP
  have hDm : va_D A (kW cI cJ cZ cV cR a C) := by exact hD
  refine wc_VWv (As := [.ref (q), .int (nI (kd)), .long (sd), .int (nI (k9))]) (rest := []) (wf := kW cI cJ cZ cV cR a) ⟨hx, hb, hml, hown, hts⟩ (c_X5_rankGroup l D cI cJ cZ cV cR a C hM (q) (hs) (se) (c9) (g9) (st9) (r9) (n9) (f9) hV hI (by omega) (by omega) (by omega) (by omega) (by omega) hf9 (kd) (sd) (k9) (by omega) (by omega) hkg H.size) (cwV 4 hts gX5_best_X5_rankGroup rfl rfl rfl (by decide +kernel) ⟨Nat.le_of_ble_eq_true rfl, Nat.le_of_ble_eq_true rfl⟩) hPm hK hDm hS hA 0 rfl rfl rfl hl.1 rfl (Nat.le_of_ble_eq_true rfl) dX5_best_10 ⟨Nat.le_of_ble_eq_true rfl, Nat.le_of_ble_eq_true rfl⟩ (fun u2 hq2 H locs hP hD hS => ?_)
  have hu2 := hq2.symm
  subst hu2
  have hP : va_P D vwCl (kX cI cJ cZ cV cR a (k_ra (ngM (rkM C (f9) (c9) (kd) (sd)) (k9))) (k_rb (ngM (rkM C (f9) (c9) (kd) (sd)) (k9))) (k_vc (ngM (rkM C (f9) (c9) (kd) (sd)) (k9))) (k_rc (ngM (rkM C (f9) (c9) (kd) (sd)) (k9))) (k_pc (ngM (rkM C (f9) (c9) (kd) (sd)) (k9))) (k_nw (ngM (rkM C (f9) (c9) (kd) (sd)) (k9))) (k_n (ngM (rkM C (f9) (c9) (kd) (sd)) (k9))) (k_fn (ngM (rkM C (f9) (c9) (kd) (sd)) (k9))) (k_sn (ngM (rkM C (f9) (c9) (kd) (sd)) (k9))) (k_kc (ngM (rkM C (f9) (c9) (kd) (sd)) (k9))) (k_grp (ngM (rkM C (f9) (c9) (kd) (sd)) (k9))) (k_key (ngM (rkM C (f9) (c9) (kd) (sd)) (k9))) (k_srt (ngM (rkM C (f9) (c9) (kd) (sd)) (k9))) (k_wt (ngM (rkM C (f9) (c9) (kd) (sd)) (k9))) (k_home (ngM (rkM C (f9) (c9) (kd) (sd)) (k9))) (k_drp (ngM (rkM C (f9) (c9) (kd) (sd)) (k9))) (k_met (ngM (rkM C (f9) (c9) (kd) (sd)) (k9))) (k_kin (ngM (rkM C (f9) (c9) (kd) (sd)) (k9))) (k_alv (ngM (rkM C (f9) (c9) (kd) (sd)) (k9))) (k_srs (ngM (rkM C (f9) (c9) (kd) (sd)) (k9))) (k_row (ngM (rkM C (f9) (c9) (kd) (sd)) (k9))) (k_sp (ngM (rkM C (f9) (c9) (kd) (sd)) (k9))) (k_kis (ngM (rkM C (f9) (c9) (kd) (sd)) (k9))) (k_pg (ngM (rkM C (f9) (c9) (kd) (sd)) (k9))) (k_vq (ngM (rkM C (f9) (c9) (kd) (sd)) (k9))) (k_rq (ngM (rkM C (f9) (c9) (kd) (sd)) (k9))) (k_L (ngM (rkM C (f9) (c9) (kd) (sd)) (k9))) (k_F (ngM (rkM C (f9) (c9) (kd) (sd)) (k9)))) H := hP
  have hD : va_D A (kX cI cJ cZ cV cR a (k_ra (ngM (rkM C (f9) (c9) (kd) (sd)) (k9))) (k_rb (ngM (rkM C (f9) (c9) (kd) (sd)) (k9))) (k_vc (ngM (rkM C (f9) (c9) (kd) (sd)) (k9))) (k_rc (ngM (rkM C (f9) (c9) (kd) (sd)) (k9))) (k_pc (ngM (rkM C (f9) (c9) (kd) (sd)) (k9))) (k_nw (ngM (rkM C (f9) (c9) (kd) (sd)) (k9))) (k_n (ngM (rkM C (f9) (c9) (kd) (sd)) (k9))) (k_fn (ngM (rkM C (f9) (c9) (kd) (sd)) (k9))) (k_sn (ngM (rkM C (f9) (c9) (kd) (sd)) (k9))) (k_kc (ngM (rkM C (f9) (c9) (kd) (sd)) (k9))) (k_grp (ngM (rkM C (f9) (c9) (kd) (sd)) (k9))) (k_key (ngM (rkM C (f9) (c9) (kd) (sd)) (k9))) (k_srt (ngM (rkM C (f9) (c9) (kd) (sd)) (k9))) (k_wt (ngM (rkM C (f9) (c9) (kd) (sd)) (k9))) (k_home (ngM (rkM C (f9) (c9) (kd) (sd)) (k9))) (k_drp (ngM (rkM C (f9) (c9) (kd) (sd)) (k9))) (k_met (ngM (rkM C (f9) (c9) (kd) (sd)) (k9))) (k_kin (ngM (rkM C (f9) (c9) (kd) (sd)) (k9))) (k_alv (ngM (rkM C (f9) (c9) (kd) (sd)) (k9))) (k_srs (ngM (rkM C (f9) (c9) (kd) (sd)) (k9))) (k_row (ngM (rkM C (f9) (c9) (kd) (sd)) (k9))) (k_sp (ngM (rkM C (f9) (c9) (kd) (sd)) (k9))) (k_kis (ngM (rkM C (f9) (c9) (kd) (sd)) (k9))) (k_pg (ngM (rkM C (f9) (c9) (kd) (sd)) (k9))) (k_vq (ngM (rkM C (f9) (c9) (kd) (sd)) (k9))) (k_rq (ngM (rkM C (f9) (c9) (kd) (sd)) (k9))) (k_L (ngM (rkM C (f9) (c9) (kd) (sd)) (k9))) (k_F (ngM (rkM C (f9) (c9) (kd) (sd)) (k9)))) := hD
  refine lv_aload_n hx hb dX5_best_13 rfl (lv_at hl 0 rfl) ?_
  refine va_get (ci := 5) (v := .ref (a 11)) (C := RX5) (T := TX5) (N := 10) hx hb hts hiX5 hown hK hP 0 rfl rfl 2 (by decide) hf0 (fun _ h9 => h9) rfl dX5_best_14 ?_
  refine lv_iload hx hb dX5_best_17 (lv_at hl 5 rfl) ?_
  have hPm : va_P D vwCl (kW cI cJ cZ cV cR a (ngM (rkM C (f9) (c9) (kd) (sd)) (k9))) H := by exact hP
  have hDm : va_D A (kW cI cJ cZ cV cR a (ngM (rkM C (f9) (c9) (kd) (sd)) (k9))) := by exact hD
  refine wc_VWi (As := [.int (nI (j9))]) (rest := []) (wf := kW cI cJ cZ cV cR a) ⟨hx, hb, hml, hown, hts⟩ (c_X0_memberAt l D cI cJ cZ cV cR a (ngM (rkM C (f9) (c9) (kd) (sd)) (k9)) (ok_ngM (ok_rkM hM (by omega) hf9)) (j9) hj9 H.size) (cwV 1 hts gX5_best_X0_memberAt rfl rfl rfl (by decide +kernel) ⟨Nat.le_of_ble_eq_true rfl, Nat.le_of_ble_eq_true rfl⟩) hPm hK hDm hS hA 11 rfl rfl rfl hl.1 rfl (Nat.le_of_ble_eq_true rfl) dX5_best_19 ⟨Nat.le_of_ble_eq_true rfl, Nat.le_of_ble_eq_true rfl⟩ (fun rr u3 hq3 H locs hP hD hS => ?_)
  obtain ⟨hr3, hu3⟩ := hq3
  subst hr3
  have hu3 := hu3.symm
  subst hu3
  have hP : va_P D vwCl (kX cI cJ cZ cV cR a (k_ra (ngM (rkM C (f9) (c9) (kd) (sd)) (k9))) (k_rb (ngM (rkM C (f9) (c9) (kd) (sd)) (k9))) (k_vc (ngM (rkM C (f9) (c9) (kd) (sd)) (k9))) (k_rc (ngM (rkM C (f9) (c9) (kd) (sd)) (k9))) (k_pc (ngM (rkM C (f9) (c9) (kd) (sd)) (k9))) (k_nw (ngM (rkM C (f9) (c9) (kd) (sd)) (k9))) (k_n (ngM (rkM C (f9) (c9) (kd) (sd)) (k9))) (k_fn (ngM (rkM C (f9) (c9) (kd) (sd)) (k9))) (k_sn (ngM (rkM C (f9) (c9) (kd) (sd)) (k9))) (k_kc (ngM (rkM C (f9) (c9) (kd) (sd)) (k9))) (k_grp (ngM (rkM C (f9) (c9) (kd) (sd)) (k9))) (k_key (ngM (rkM C (f9) (c9) (kd) (sd)) (k9))) (k_srt (ngM (rkM C (f9) (c9) (kd) (sd)) (k9))) (k_wt (ngM (rkM C (f9) (c9) (kd) (sd)) (k9))) (k_home (ngM (rkM C (f9) (c9) (kd) (sd)) (k9))) (k_drp (ngM (rkM C (f9) (c9) (kd) (sd)) (k9))) (k_met (ngM (rkM C (f9) (c9) (kd) (sd)) (k9))) (k_kin (ngM (rkM C (f9) (c9) (kd) (sd)) (k9))) (k_alv (ngM (rkM C (f9) (c9) (kd) (sd)) (k9))) (k_srs (ngM (rkM C (f9) (c9) (kd) (sd)) (k9))) (k_row (ngM (rkM C (f9) (c9) (kd) (sd)) (k9))) (k_sp (ngM (rkM C (f9) (c9) (kd) (sd)) (k9))) (k_kis (ngM (rkM C (f9) (c9) (kd) (sd)) (k9))) (k_pg (ngM (rkM C (f9) (c9) (kd) (sd)) (k9))) (k_vq (ngM (rkM C (f9) (c9) (kd) (sd)) (k9))) (k_rq (ngM (rkM C (f9) (c9) (kd) (sd)) (k9))) (k_L (ngM (rkM C (f9) (c9) (kd) (sd)) (k9))) (k_F (ngM (rkM C (f9) (c9) (kd) (sd)) (k9)))) H := hP
  have hD : va_D A (kX cI cJ cZ cV cR a (k_ra (ngM (rkM C (f9) (c9) (kd) (sd)) (k9))) (k_rb (ngM (rkM C (f9) (c9) (kd) (sd)) (k9))) (k_vc (ngM (rkM C (f9) (c9) (kd) (sd)) (k9))) (k_rc (ngM (rkM C (f9) (c9) (kd) (sd)) (k9))) (k_pc (ngM (rkM C (f9) (c9) (kd) (sd)) (k9))) (k_nw (ngM (rkM C (f9) (c9) (kd) (sd)) (k9))) (k_n (ngM (rkM C (f9) (c9) (kd) (sd)) (k9))) (k_fn (ngM (rkM C (f9) (c9) (kd) (sd)) (k9))) (k_sn (ngM (rkM C (f9) (c9) (kd) (sd)) (k9))) (k_kc (ngM (rkM C (f9) (c9) (kd) (sd)) (k9))) (k_grp (ngM (rkM C (f9) (c9) (kd) (sd)) (k9))) (k_key (ngM (rkM C (f9) (c9) (kd) (sd)) (k9))) (k_srt (ngM (rkM C (f9) (c9) (kd) (sd)) (k9))) (k_wt (ngM (rkM C (f9) (c9) (kd) (sd)) (k9))) (k_home (ngM (rkM C (f9) (c9) (kd) (sd)) (k9))) (k_drp (ngM (rkM C (f9) (c9) (kd) (sd)) (k9))) (k_met (ngM (rkM C (f9) (c9) (kd) (sd)) (k9))) (k_kin (ngM (rkM C (f9) (c9) (kd) (sd)) (k9))) (k_alv (ngM (rkM C (f9) (c9) (kd) (sd)) (k9))) (k_srs (ngM (rkM C (f9) (c9) (kd) (sd)) (k9))) (k_row (ngM (rkM C (f9) (c9) (kd) (sd)) (k9))) (k_sp (ngM (rkM C (f9) (c9) (kd) (sd)) (k9))) (k_kis (ngM (rkM C (f9) (c9) (kd) (sd)) (k9))) (k_pg (ngM (rkM C (f9) (c9) (kd) (sd)) (k9))) (k_vq (ngM (rkM C (f9) (c9) (kd) (sd)) (k9))) (k_rq (ngM (rkM C (f9) (c9) (kd) (sd)) (k9))) (k_L (ngM (rkM C (f9) (c9) (kd) (sd)) (k9))) (k_F (ngM (rkM C (f9) (c9) (kd) (sd)) (k9)))) := hD
  have hPm : va_P D vwCl (kW cI cJ cZ cV cR a (ngM (rkM C (f9) (c9) (kd) (sd)) (k9))) H := by exact hP
  have hDm : va_D A (kW cI cJ cZ cV cR a (ngM (rkM C (f9) (c9) (kd) (sd)) (k9))) := by exact hD
  exact W.iret (v := nI (k_row (ngM (rkM C (f9) (c9) (kd) (sd)) (k9)) (j9))) hx hb hr (fun t ht hW => ⟨⟨_, (ngM (rkM C (f9) (c9) (kd) (sd)) (k9)), rfl, ⟨rfl, rfl⟩, gb_mk ht hW hPm hK hDm⟩, hS.F ht⟩) hS.2.2 dX5_best_22
def rmx_X5_best_v : Room := { frames := 7, cells := 1, slots := 6, locals := 104 }
set_option maxHeartbeats 4000000 in
set_option maxRecDepth 100000 in
/-- no such view -/
theorem x_X5_best_v (l : Launch) (htr : l.stackTraces = false) (D : va_G) (cI cJ cZ cV cR : ClassId) (a : Nat → Nat) (C : CT) (hM : kOk C) (x y : Int32) (sd : Int64) (k : Int32) (j : Int32) (hbad : x.toInt < 0 ∨ ((k_vc C : Nat) : Int) ≤ x.toInt) (sz : Nat) : vx_Met l yX5_best wsX5_best rmx_X5_best_v (va_Pc [.ref (a 0), .int (x), .int (y), .long (sd), .int (k), .int (j)] (GX D (tyK cI cJ cZ cV cR) (kW cI cJ cZ cV cR a C) sz)) xNo (xXC D (tyK cI cJ cZ cV cR) "java/lang/IndexOutOfBoundsException" (fun u : CT => u = C) (kW cI cJ cZ cV cR a) (va_A (kW cI cJ cZ cV cR a C) sz)) 1 6 (va_A (kW cI cJ cZ cV cR a C) sz) := by
  obtain ⟨hn, hfn, hsn, hvc, hrc, hpc, hnw, hkc, h_home, h_kin, h_alv, h_srs, h_row, h_sp, h_kis, h_pg⟩ := id hM
  refine vx_ofW (cc := cX5_best) (maxL := 7) (ret := (some .int)) (by decide) rfl ?_
  intro p e s m args below meth c s₁ B hml hout hv
  obtain ⟨rfl, ⟨hsz, hP, hK, hD0⟩, hXE⟩ := hv
  have hx := B.exec
  have hb := B.bytes
  have hr := B.returns
  have hts := atoms_spec (ws := wsX5_best) B.pre
  have hown : s.vm.findClass RX5 = some m.cls := findClass_of_methodNamed B.named
  have hlocks := B.notSynchronized
  subst hsz
  have hD := hD0.self (sz := s.heap.size)
  generalize hAe : va_A (kW cI cJ cZ cV cR a C) s.heap.size = A at hD hXE ⊢
  have hA : ∀ q : Nat, s.heap.size ≤ q → A q := fun q h => by rw [← hAe]; exact Or.inr h
  have hS : va_S A s.heap s.heap [] := va_S.rf
  have hP : va_P D vwCl (kX cI cJ cZ cV cR a (k_ra C) (k_rb C) (k_vc C) (k_rc C) (k_pc C) (k_nw C) (k_n C) (k_fn C) (k_sn C) (k_kc C) (k_grp C) (k_key C) (k_srt C) (k_wt C) (k_home C) (k_drp C) (k_met C) (k_kin C) (k_alv C) (k_srs C) (k_row C) (k_sp C) (k_kis C) (k_pg C) (k_vq C) (k_rq C) (k_L C) (k_F C)) s.heap := hP
  have hD : va_D A (kX cI cJ cZ cV cR a (k_ra C) (k_rb C) (k_vc C) (k_rc C) (k_pc C) (k_nw C) (k_n C) (k_fn C) (k_sn C) (k_kc C) (k_grp C) (k_key C) (k_srt C) (k_wt C) (k_home C) (k_drp C) (k_met C) (k_kin C) (k_alv C) (k_srs C) (k_row C) (k_sp C) (k_kis C) (k_pg C) (k_vq C) (k_rq C) (k_L C) (k_F C)) := hD
  have hl := lv_entry ([.ref (a 0), .int (x), .int (y), .long (sd), .int (k), .int (j)]) (n := 7) (Nat.le_of_ble_eq_true rfl)
  rw [lg_entry_eq]
  generalize (lg_sl ([.ref (a 0), .int (x), .int (y), .long (sd), .int (k), .int (j)]) ++ List.replicate (7 - (lg_sl ([.ref (a 0), .int (x), .int (y), .long (sd), .int (k), .int (j)])).length) Slot.unset).toArray = ls at hl ⊢
  have hl : lv_has ls 7 [(0, .ref (a 0)), (1, .int (x)), (2, .int (y)), (3, .long (sd)), (5, .int (k)), (6, .int (j))] := hl
  refine lv_aload_n hx hb dX5_best_0 rfl (lv_at hl 0 rfl) ?_
  refine lv_aload_n hx hb dX5_best_1 rfl (lv_at hl 0 rfl) ?_
  refine lv_iload_n hx hb dX5_best_2 rfl (lv_at hl 1 rfl) ?_
  have hPm : va_P D vwCl (kW cI cJ cZ cV cR a C) s.heap := by exact hP
  have hDm : va_D A (kW cI cJ cZ cV cR a C) := by exact hD
  refine wx_V (As := [.int (x)]) (rest := [.ref (a 0)]) (wf := kW cI cJ cZ cV cR a) ⟨hx, hb, hml, hown, hts⟩ (x_X5_viewAt l htr D cI cJ cZ cV cR a C hM x hbad s.heap.size) (cwV 1 hts gX5_best_X5_viewAt rfl rfl rfl (by decide +kernel) ⟨Nat.le_of_ble_eq_true rfl, Nat.le_of_ble_eq_true rfl⟩) hPm hK hDm hS hA hXE 0 rfl rfl rfl hl.1 rfl (Nat.le_of_ble_eq_true rfl) dX5_best_3 ⟨Nat.le_of_ble_eq_true rfl, Nat.le_of_ble_eq_true rfl⟩ (fun u hu H locs ce q9 hP hD hS hce hcv hcl => ?_)
  exact vx_out (fun x h => (hout x h).elim) hlocks hce hcv hcl (xxc_eq u hu hP hK hD hS) hS.2.2 (Nat.le_refl _) (Nat.le_refl _)
def rmx_X5_best_g : Room := { frames := 8, cells := 1, slots := 6, locals := 128 }
set_option maxHeartbeats 4000000 in
set_option maxRecDepth 100000 in
/-- no such group -/
theorem x_X5_best_g (l : Launch) (htr : l.stackTraces = false) (D : va_G) (cI cJ cZ cV cR : ClassId) (a : Nat → Nat) (C : CT) (hM : kOk C) (q hs se c9 g9 st9 r9 n9 : Nat) (f9 : Nat → Nat) (hV : isV (k_L C) (k_F C) q hs se c9 g9 st9 r9) (hI : isI cI (k_L C) (k_F C) hs n9 f9) (hc9 : c9 ≤ n9) (hn9 : n9 ≤ 300) (hg9 : g9 ≤ 300) (hst9 : st9 ≤ 2) (hr9 : r9 ≤ 60) (hf9 : ∀ j, f9 j < 300) (i : Nat) (hi9 : i < k_vc C) (hq9 : k_vq C i = some q) (y : Int32) (sd : Int64) (x : Int32) (j : Int32) (hbad : x.toInt < 0 ∨ ((g9 : Nat) : Int) ≤ x.toInt) (sz : Nat) : vx_Met l yX5_best wsX5_best rmx_X5_best_g (va_Pc [.ref (a 0), .int (nI (i)), .int (y), .long (sd), .int (x), .int (j)] (GX D (tyK cI cJ cZ cV cR) (kW cI cJ cZ cV cR a C) sz)) xNo (xXC D (tyK cI cJ cZ cV cR) "java/lang/IndexOutOfBoundsException" (fun u : CT => u = C) (kW cI cJ cZ cV cR a) (va_A (kW cI cJ cZ cV cR a C) sz)) 1 6 (va_A (kW cI cJ cZ cV cR a C) sz) := by
  obtain ⟨hn, hfn, hsn, hvc, hrc, hpc, hnw, hkc, h_home, h_kin, h_alv, h_srs, h_row, h_sp, h_kis, h_pg⟩ := id hM
  refine vx_ofW (cc := cX5_best) (maxL := 7) (ret := (some .int)) (by decide) rfl ?_
  intro p e s m args below meth c s₁ B hml hout hv
  obtain ⟨rfl, ⟨hsz, hP, hK, hD0⟩, hXE⟩ := hv
  have hx := B.exec
  have hb := B.bytes
  have hr := B.returns
  have hts := atoms_spec (ws := wsX5_best) B.pre
  have hown : s.vm.findClass RX5 = some m.cls := findClass_of_methodNamed B.named
  have hlocks := B.notSynchronized
  subst hsz
  have hD := hD0.self (sz := s.heap.size)
  generalize hAe : va_A (kW cI cJ cZ cV cR a C) s.heap.size = A at hD hXE ⊢
  have hA : ∀ q : Nat, s.heap.size ≤ q → A q := fun q h => by rw [← hAe]; exact Or.inr h
  have hS : va_S A s.heap s.heap [] := va_S.rf
  have hP : va_P D vwCl (kX cI cJ cZ cV cR a (k_ra C) (k_rb C) (k_vc C) (k_rc C) (k_pc C) (k_nw C) (k_n C) (k_fn C) (k_sn C) (k_kc C) (k_grp C) (k_key C) (k_srt C) (k_wt C) (k_home C) (k_drp C) (k_met C) (k_kin C) (k_alv C) (k_srs C) (k_row C) (k_sp C) (k_kis C) (k_pg C) (k_vq C) (k_rq C) (k_L C) (k_F C)) s.heap := hP
  have hD : va_D A (kX cI cJ cZ cV cR a (k_ra C) (k_rb C) (k_vc C) (k_rc C) (k_pc C) (k_nw C) (k_n C) (k_fn C) (k_sn C) (k_kc C) (k_grp C) (k_key C) (k_srt C) (k_wt C) (k_home C) (k_drp C) (k_met C) (k_kin C) (k_alv C) (k_srs C) (k_row C) (k_sp C) (k_kis C) (k_pg C) (k_vq C) (k_rq C) (k_L C) (k_F C)) := hD
  have hl := lv_entry ([.ref (a 0), .int (nI (i)), .int (y), .long (sd), .int (x), .int (j)]) (n := 7) (Nat.le_of_ble_eq_true rfl)
  rw [lg_entry_eq]
  generalize (lg_sl ([.ref (a 0), .int (nI (i)), .int (y), .long (sd), .int (x), .int (j)]) ++ List.replicate (7 - (lg_sl ([.ref (a 0), .int (nI (i)), .int (y), .long (sd), .int (x), .int (j)])).length) Slot.unset).toArray = ls at hl ⊢
  have hl : lv_has ls 7 [(0, .ref (a 0)), (1, .int (nI (i))), (2, .int (y)), (3, .long (sd)), (5, .int (x)), (6, .int (j))] := hl
  refine lv_aload_n hx hb dX5_best_0 rfl (lv_at hl 0 rfl) ?_
  refine lv_aload_n hx hb dX5_best_1 rfl (lv_at hl 0 rfl) ?_
  refine lv_iload_n hx hb dX5_best_2 rfl (lv_at hl 1 rfl) ?_
  have hPm : va_P D vwCl (kW cI cJ cZ cV cR a C) s.heap := by exact hP
  have hDm : va_D A (kW cI cJ cZ cV cR a C) := by exact hD
  refine wc_VWr (As := [.int (nI (i))]) (rest := [.ref (a 0)]) (ra := Prod.fst) (wf := fun u => kW cI cJ cZ cV cR a u.2) ⟨hx, hb, hml, hown, hts⟩ (c_X5_viewAt l D cI cJ cZ cV cR a C hM (i) (q) (by omega) hq9 s.heap.size) (cwV 1 hts gX5_best_X5_viewAt rfl rfl rfl (by decide +kernel) ⟨Nat.le_of_ble_eq_true rfl, Nat.le_of_ble_eq_true rfl⟩) hPm hK hDm hS hA 0 rfl rfl rfl hl.1 rfl (Nat.le_of_ble_eq_true rfl) dX5_best_3 ⟨Nat.le_of_ble_eq_true rfl, Nat.le_of_ble_eq_true rfl⟩ (fun u1 hq1 H locs hP hD hS => ?_)
  have hu1 := hq1
  subst hu1
  have hP : va_P D vwCl (kX cI cJ cZ cV cR a (k_ra C) (k_rb C) (k_vc C) (k_rc C) (k_pc C) (k_nw C) (k_n C) (k_fn C) (k_sn C) (k_kc C) (k_grp C) (k_key C) (k_srt C) (k_wt C) (k_home C) (k_drp C) (k_met C) (k_kin C) (k_alv C) (k_srs C) (k_row C) (k_sp C) (k_kis C) (k_pg C) (k_vq C) (k_rq C) (k_L C) (k_F C)) H := hP
  have hD : va_D A (kX cI cJ cZ cV cR a (k_ra C) (k_rb C) (k_vc C) (k_rc C) (k_pc C) (k_nw C) (k_n C) (k_fn C) (k_sn C) (k_kc C) (k_grp C) (k_key C) (k_srt C) (k_wt C) (k_home C) (k_drp C) (k_met C) (k_kin C) (k_alv C) (k_srs C) (k_row C) (k_sp C) (k_kis C) (k_pg C) (k_vq C) (k_rq C) (k_L C) (k_F C)) := hD
  refine lv_iload_n hx hb dX5_best_6 rfl (lv_at hl 2 rfl) ?_
  refine lv_lload_n hx hb dX5_best_7 rfl (lv_at hl 3 rfl) ?_
  refine lv_iload hx hb dX5_best_8 (lv_at hl 4 rfl) ?_
  have hPm : va_P D vwCl (kW cI cJ cZ cV cR a C) H := by exact hP
  have hDm : va_D A (kW cI cJ cZ cV cR a C) := by exact hD
  refine wx_V (As := [.ref (q), .int (y), .long (sd), .int (x)]) (rest := []) (wf := kW cI cJ cZ cV cR a) ⟨hx, hb, hml, hown, hts⟩ (x_X5_rankGroup_g l htr D cI cJ cZ cV cR a C hM q hs se c9 g9 st9 r9 n9 f9 hV hI hc9 hn9 hg9 hst9 hr9 hf9 y sd x hbad H.size) (cwV 4 hts gX5_best_X5_rankGroup rfl rfl rfl (by decide +kernel) ⟨Nat.le_of_ble_eq_true rfl, Nat.le_of_ble_eq_true rfl⟩) hPm hK hDm hS hA hXE 0 rfl rfl rfl hl.1 rfl (Nat.le_of_ble_eq_true rfl) dX5_best_10 ⟨Nat.le_of_ble_eq_true rfl, Nat.le_of_ble_eq_true rfl⟩ (fun u hu H locs ce q9 hP hD hS hce hcv hcl => ?_)
  exact vx_out (fun x h => (hout x h).elim) hlocks hce hcv hcl (xxc_eq u hu hP hK hD hS) hS.2.2 (Nat.le_refl _) (Nat.le_refl _)
def rmx_X5_best_k : Room := { frames := 9, cells := 1, slots := 6, locals := 151 }
set_option maxHeartbeats 4000000 in
set_option maxRecDepth 100000 in
/-- no such kind -/
theorem x_X5_best_k (l : Launch) (htr : l.stackTraces = false) (D : va_G) (cI cJ cZ cV cR : ClassId) (a : Nat → Nat) (C : CT) (hM : kOk C) (q hs se c9 g9 st9 r9 n9 : Nat) (f9 : Nat → Nat) (hV : isV (k_L C) (k_F C) q hs se c9 g9 st9 r9) (hI : isI cI (k_L C) (k_F C) hs n9 f9) (hc9 : c9 ≤ n9) (hn9 : n9 ≤ 300) (hg9 : g9 ≤ 300) (hst9 : st9 ≤ 2) (hr9 : r9 ≤ 60) (hf9 : ∀ j, f9 j < 300) (i : Nat) (hi9 : i < k_vc C) (hq9 : k_vq C i = some q) (x : Int32) (sd : Int64) (k9 : Nat) (hk9 : k9 < g9) (j : Int32) (hbad : x.toInt < 0 ∨ ((3 : Nat) : Int) ≤ x.toInt) (sz : Nat) : vx_Met l yX5_best wsX5_best rmx_X5_best_k (va_Pc [.ref (a 0), .int (nI (i)), .int (x), .long (sd), .int (nI (k9)), .int (j)] (GX D (tyK cI cJ cZ cV cR) (kW cI cJ cZ cV cR a C) sz)) xNo (xXC D (tyK cI cJ cZ cV cR) "java/lang/IllegalArgumentException" (fun u : CT => u = C) (kW cI cJ cZ cV cR a) (va_A (kW cI cJ cZ cV cR a C) sz)) 1 6 (va_A (kW cI cJ cZ cV cR a C) sz) := by
  obtain ⟨hn, hfn, hsn, hvc, hrc, hpc, hnw, hkc, h_home, h_kin, h_alv, h_srs, h_row, h_sp, h_kis, h_pg⟩ := id hM
  refine vx_ofW (cc := cX5_best) (maxL := 7) (ret := (some .int)) (by decide) rfl ?_
  intro p e s m args below meth c s₁ B hml hout hv
  obtain ⟨rfl, ⟨hsz, hP, hK, hD0⟩, hXE⟩ := hv
  have hx := B.exec
  have hb := B.bytes
  have hr := B.returns
  have hts := atoms_spec (ws := wsX5_best) B.pre
  have hown : s.vm.findClass RX5 = some m.cls := findClass_of_methodNamed B.named
  have hlocks := B.notSynchronized
  subst hsz
  have hD := hD0.self (sz := s.heap.size)
  generalize hAe : va_A (kW cI cJ cZ cV cR a C) s.heap.size = A at hD hXE ⊢
  have hA : ∀ q : Nat, s.heap.size ≤ q → A q := fun q h => by rw [← hAe]; exact Or.inr h
  have hS : va_S A s.heap s.heap [] := va_S.rf
  have hP : va_P D vwCl (kX cI cJ cZ cV cR a (k_ra C) (k_rb C) (k_vc C) (k_rc C) (k_pc C) (k_nw C) (k_n C) (k_fn C) (k_sn C) (k_kc C) (k_grp C) (k_key C) (k_srt C) (k_wt C) (k_home C) (k_drp C) (k_met C) (k_kin C) (k_alv C) (k_srs C) (k_row C) (k_sp C) (k_kis C) (k_pg C) (k_vq C) (k_rq C) (k_L C) (k_F C)) s.heap := hP
  have hD : va_D A (kX cI cJ cZ cV cR a (k_ra C) (k_rb C) (k_vc C) (k_rc C) (k_pc C) (k_nw C) (k_n C) (k_fn C) (k_sn C) (k_kc C) (k_grp C) (k_key C) (k_srt C) (k_wt C) (k_home C) (k_drp C) (k_met C) (k_kin C) (k_alv C) (k_srs C) (k_row C) (k_sp C) (k_kis C) (k_pg C) (k_vq C) (k_rq C) (k_L C) (k_F C)) := hD
  have hl := lv_entry ([.ref (a 0), .int (nI (i)), .int (x), .long (sd), .int (nI (k9)), .int (j)]) (n := 7) (Nat.le_of_ble_eq_true rfl)
  rw [lg_entry_eq]
  generalize (lg_sl ([.ref (a 0), .int (nI (i)), .int (x), .long (sd), .int (nI (k9)), .int (j)]) ++ List.replicate (7 - (lg_sl ([.ref (a 0), .int (nI (i)), .int (x), .long (sd), .int (nI (k9)), .int (j)])).length) Slot.unset).toArray = ls at hl ⊢
  have hl : lv_has ls 7 [(0, .ref (a 0)), (1, .int (nI (i))), (2, .int (x)), (3, .long (sd)), (5, .int (nI (k9))), (6, .int (j))] := hl
  refine lv_aload_n hx hb dX5_best_0 rfl (lv_at hl 0 rfl) ?_
  refine lv_aload_n hx hb dX5_best_1 rfl (lv_at hl 0 rfl) ?_
  refine lv_iload_n hx hb dX5_best_2 rfl (lv_at hl 1 rfl) ?_
  have hPm : va_P D vwCl (kW cI cJ cZ cV cR a C) s.heap := by exact hP
  have hDm : va_D A (kW cI cJ cZ cV cR a C) := by exact hD
  refine wc_VWr (As := [.int (nI (i))]) (rest := [.ref (a 0)]) (ra := Prod.fst) (wf := fun u => kW cI cJ cZ cV cR a u.2) ⟨hx, hb, hml, hown, hts⟩ (c_X5_viewAt l D cI cJ cZ cV cR a C hM (i) (q) (by omega) hq9 s.heap.size) (cwV 1 hts gX5_best_X5_viewAt rfl rfl rfl (by decide +kernel) ⟨Nat.le_of_ble_eq_true rfl, Nat.le_of_ble_eq_true rfl⟩) hPm hK hDm hS hA 0 rfl rfl rfl hl.1 rfl (Nat.le_of_ble_eq_true rfl) dX5_best_3 ⟨Nat.le_of_ble_eq_true rfl, Nat.le_of_ble_eq_true rfl⟩ (fun u1 hq1 H locs hP hD hS => ?_)
  have hu1 := hq1
  subst hu1
  have hP : va_P D vwCl (kX cI cJ cZ cV cR a (k_ra C) (k_rb C) (k_vc C) (k_rc C) (k_pc C) (k_nw C) (k_n C) (k_fn C) (k_sn C) (k_kc C) (k_grp C) (k_key C) (k_srt C) (k_wt C) (k_home C) (k_drp C) (k_met C) (k_kin C) (k_alv C) (k_srs C) (k_row C) (k_sp C) (k_kis C) (k_pg C) (k_vq C) (k_rq C) (k_L C) (k_F C)) H := hP
  have hD : va_D A (kX cI cJ cZ cV cR a (k_ra C) (k_rb C) (k_vc C) (k_rc C) (k_pc C) (k_nw C) (k_n C) (k_fn C) (k_sn C) (k_kc C) (k_grp C) (k_key C) (k_srt C) (k_wt C) (k_home C) (k_drp C) (k_met C) (k_kin C) (k_alv C) (k_srs C) (k_row C) (k_sp C) (k_kis C) (k_pg C) (k_vq C) (k_rq C) (k_L C) (k_F C)) := hD
  refine lv_iload_n hx hb dX5_best_6 rfl (lv_at hl 2 rfl) ?_
  refine lv_lload_n hx hb dX5_best_7 rfl (lv_at hl 3 rfl) ?_
  refine lv_iload hx hb dX5_best_8 (lv_at hl 4 rfl) ?_
  have hPm : va_P D vwCl (kW cI cJ cZ cV cR a C) H := by exact hP
  have hDm : va_D A (kW cI cJ cZ cV cR a C) := by exact hD
  refine wx_V (As := [.ref (q), .int (x), .long (sd), .int (nI (k9))]) (rest := []) (wf := kW cI cJ cZ cV cR a) ⟨hx, hb, hml, hown, hts⟩ (x_X5_rankGroup_k l htr D cI cJ cZ cV cR a C hM q hs se c9 g9 st9 r9 n9 f9 hV hI hc9 hn9 hg9 hst9 hr9 hf9 x sd k9 hk9 hbad H.size) (cwV 4 hts gX5_best_X5_rankGroup rfl rfl rfl (by decide +kernel) ⟨Nat.le_of_ble_eq_true rfl, Nat.le_of_ble_eq_true rfl⟩) hPm hK hDm hS hA hXE 0 rfl rfl rfl hl.1 rfl (Nat.le_of_ble_eq_true rfl) dX5_best_10 ⟨Nat.le_of_ble_eq_true rfl, Nat.le_of_ble_eq_true rfl⟩ (fun u hu H locs ce q9 hP hD hS hce hcv hcl => ?_)
  exact vx_out (fun x h => (hout x h).elim) hlocks hce hcv hcl (xxc_eq u hu hP hK hD hS) hS.2.2 (Nat.le_refl _) (Nat.le_refl _)
def rmx_X5_best_j : Room := { frames := 7, cells := 1, slots := 6, locals := 123 }
set_option maxHeartbeats 4000000 in
set_option maxRecDepth 100000 in
/-- no such object -/
theorem x_X5_best_j (l : Launch) (htr : l.stackTraces = false) (D : va_G) (cI cJ cZ cV cR : ClassId) (a : Nat → Nat) (C : CT) (hM : kOk C) (q hs se c9 g9 st9 r9 n9 : Nat) (f9 : Nat → Nat) (hV : isV (k_L C) (k_F C) q hs se c9 g9 st9 r9) (hI : isI cI (k_L C) (k_F C) hs n9 f9) (hc9 : c9 ≤ n9) (hn9 : n9 ≤ 300) (hg9 : g9 ≤ 300) (hst9 : st9 ≤ 2) (hr9 : r9 ≤ 60) (hf9 : ∀ j, f9 j < 300) (i : Nat) (hi9 : i < k_vc C) (hq9 : k_vq C i = some q) (kd : Nat) (sd : Int64) (k9 : Nat) (hkd : kd < 3) (hk9 : k9 < g9) (hkg : k9 < (lgR (rkM C f9 c9 kd sd)).1) (x : Int32) (hbad : x.toInt < 0 ∨ ((k_kc (ngM (rkM C f9 c9 kd sd) k9) : Nat) : Int) ≤ x.toInt) (sz : Nat) : vx_Met l yX5_best wsX5_best rmx_X5_best_j (va_Pc [.ref (a 0), .int (nI (i)), .int (nI (kd)), .long (sd), .int (nI (k9)), .int (x)] (GX D (tyK cI cJ cZ cV cR) (kW cI cJ cZ cV cR a C) sz)) xNo (xXC D (tyK cI cJ cZ cV cR) "java/lang/IndexOutOfBoundsException" (fun u : CT => u = ngM (rkM C f9 c9 kd sd) k9) (kW cI cJ cZ cV cR a) (va_A (kW cI cJ cZ cV cR a C) sz)) 1 6 (va_A (kW cI cJ cZ cV cR a C) sz) := by
  obtain ⟨hn, hfn, hsn, hvc, hrc, hpc, hnw, hkc, h_home, h_kin, h_alv, h_srs, h_row, h_sp, h_kis, h_pg⟩ := id hM
  refine vx_ofW (cc := cX5_best) (maxL := 7) (ret := (some .int)) (by decide) rfl ?_
  intro p e s m args below meth c s₁ B hml hout hv
  obtain ⟨rfl, ⟨hsz, hP, hK, hD0⟩, hXE⟩ := hv
  have hx := B.exec
  have hb := B.bytes
  have hr := B.returns
  have hts := atoms_spec (ws := wsX5_best) B.pre
  have hown : s.vm.findClass RX5 = some m.cls := findClass_of_methodNamed B.named
  have hlocks := B.notSynchronized
  subst hsz
  have hD := hD0.self (sz := s.heap.size)
  generalize hAe : va_A (kW cI cJ cZ cV cR a C) s.heap.size = A at hD hXE ⊢
  have hA : ∀ q : Nat, s.heap.size ≤ q → A q := fun q h => by rw [← hAe]; exact Or.inr h
  have hS : va_S A s.heap s.heap [] := va_S.rf
  have hP : va_P D vwCl (kX cI cJ cZ cV cR a (k_ra C) (k_rb C) (k_vc C) (k_rc C) (k_pc C) (k_nw C) (k_n C) (k_fn C) (k_sn C) (k_kc C) (k_grp C) (k_key C) (k_srt C) (k_wt C) (k_home C) (k_drp C) (k_met C) (k_kin C) (k_alv C) (k_srs C) (k_row C) (k_sp C) (k_kis C) (k_pg C) (k_vq C) (k_rq C) (k_L C) (k_F C)) s.heap := hP
  have hD : va_D A (kX cI cJ cZ cV cR a (k_ra C) (k_rb C) (k_vc C) (k_rc C) (k_pc C) (k_nw C) (k_n C) (k_fn C) (k_sn C) (k_kc C) (k_grp C) (k_key C) (k_srt C) (k_wt C) (k_home C) (k_drp C) (k_met C) (k_kin C) (k_alv C) (k_srs C) (k_row C) (k_sp C) (k_kis C) (k_pg C) (k_vq C) (k_rq C) (k_L C) (k_F C)) := hD
  have hiX5 : ∀ w ∈ wsX50, w ∈ wsX5_best := by decide +kernel
  have hf0 := hts (.fieldLink RX5 28 "GroupCursors" "ranking" "LGroupCursors$Ranking;") (by decide +kernel)
  have hl := lv_entry ([.ref (a 0), .int (nI (i)), .int (nI (kd)), .long (sd), .int (nI (k9)), .int (x)]) (n := 7) (Nat.le_of_ble_eq_true rfl)
  rw [lg_entry_eq]
  generalize (lg_sl ([.ref (a 0), .int (nI (i)), .int (nI (kd)), .long (sd), .int (nI (k9)), .int (x)]) ++ List.replicate (7 - (lg_sl ([.ref (a 0), .int (nI (i)), .int (nI (kd)), .long (sd), .int (nI (k9)), .int (x)])).length) Slot.unset).toArray = ls at hl ⊢
  have hl : lv_has ls 7 [(0, .ref (a 0)), (1, .int (nI (i))), (2, .int (nI (kd))), (3, .long (sd)), (5, .int (nI (k9))), (6, .int (x))] := hl
  refine lv_aload_n hx hb dX5_best_0 rfl (lv_at hl 0 rfl) ?_
  refine lv_aload_n hx hb dX5_best_1 rfl (lv_at hl 0 rfl) ?_
  refine lv_iload_n hx hb dX5_best_2 rfl (lv_at hl 1 rfl) ?_
  have hPm : va_P D vwCl (kW cI cJ cZ cV cR a C) s.heap := by exact hP
  have hDm : va_D A (kW cI cJ cZ cV cR a C) := by exact hD
  refine wc_VWr (As := [.int (nI (i))]) (rest := [.ref (a 0)]) (ra := Prod.fst) (wf := fun u => kW cI cJ cZ cV cR a u.2) ⟨hx, hb, hml, hown, hts⟩ (c_X5_viewAt l D cI cJ cZ cV cR a C hM (i) (q) (by omega) hq9 s.heap.size) (cwV 1 hts gX5_best_X5_viewAt rfl rfl rfl (by decide +kernel) ⟨Nat.le_of_ble_eq_true rfl, Nat.le_of_ble_eq_true rfl⟩) hPm hK hDm hS hA 0 rfl rfl rfl hl.1 rfl (Nat.le_of_ble_eq_true rfl) dX5_best_3 ⟨Nat.le_of_ble_eq_true rfl, Nat.le_of_ble_eq_true rfl⟩ (fun u1 hq1 H locs hP hD hS => ?_)
  have hu1 := hq1
  subst hu1
  have hP : va_P D vwCl (kX cI cJ cZ cV cR a (k_ra C) (k_rb C) (k_vc C) (k_rc C) (k_pc C) (k_nw C) (k_n C) (k_fn C) (k_sn C) (k_kc C) (k_grp C) (k_key C) (k_srt C) (k_wt C) (k_home C) (k_drp C) (k_met C) (k_kin C) (k_alv C) (k_srs C) (k_row C) (k_sp C) (k_kis C) (k_pg C) (k_vq C) (k_rq C) (k_L C) (k_F C)) H := hP
  have hD : va_D A (kX cI cJ cZ cV cR a (k_ra C) (k_rb C) (k_vc C) (k_rc C) (k_pc C) (k_nw C) (k_n C) (k_fn C) (k_sn C) (k_kc C) (k_grp C) (k_key C) (k_srt C) (k_wt C) (k_home C) (k_drp C) (k_met C) (k_kin C) (k_alv C) (k_srs C) (k_row C) (k_sp C) (k_kis C) (k_pg C) (k_vq C) (k_rq C) (k_L C) (k_F C)) := hD
  refine lv_iload_n hx hb dX5_best_6 rfl (lv_at hl 2 rfl) ?_
  refine lv_lload_n hx hb dX5_best_7 rfl (lv_at hl 3 rfl) ?_
  refine lv_iload hx hb dX5_best_8 (lv_at hl 4 rfl) ?_
  have hPm : va_P D vwCl (kW cI cJ cZ cV cR a C) H := by exact hP
  have hDm : va_D A (kW cI cJ cZ cV cR a C) := by exact hD
  refine wc_VWv (As := [.ref (q), .int (nI (kd)), .long (sd), .int (nI (k9))]) (rest := []) (wf := kW cI cJ cZ cV cR a) ⟨hx, hb, hml, hown, hts⟩ (c_X5_rankGroup l D cI cJ cZ cV cR a C hM (q) (hs) (se) (c9) (g9) (st9) (r9) (n9) (f9) hV hI (by omega) (by omega) (by omega) (by omega) (by omega) hf9 (kd) (sd) (k9) (by omega) (by omega) hkg H.size) (cwV 4 hts gX5_best_X5_rankGroup rfl rfl rfl (by decide +kernel) ⟨Nat.le_of_ble_eq_true rfl, Nat.le_of_ble_eq_true rfl⟩) hPm hK hDm hS hA 0 rfl rfl rfl hl.1 rfl (Nat.le_of_ble_eq_true rfl) dX5_best_10 ⟨Nat.le_of_ble_eq_true rfl, Nat.le_of_ble_eq_true rfl⟩ (fun u2 hq2 H locs hP hD hS => ?_)
  have hu2 := hq2.symm
  subst hu2
  have hP : va_P D vwCl (kX cI cJ cZ cV cR a (k_ra (ngM (rkM C (f9) (c9) (kd) (sd)) (k9))) (k_rb (ngM (rkM C (f9) (c9) (kd) (sd)) (k9))) (k_vc (ngM (rkM C (f9) (c9) (kd) (sd)) (k9))) (k_rc (ngM (rkM C (f9) (c9) (kd) (sd)) (k9))) (k_pc (ngM (rkM C (f9) (c9) (kd) (sd)) (k9))) (k_nw (ngM (rkM C (f9) (c9) (kd) (sd)) (k9))) (k_n (ngM (rkM C (f9) (c9) (kd) (sd)) (k9))) (k_fn (ngM (rkM C (f9) (c9) (kd) (sd)) (k9))) (k_sn (ngM (rkM C (f9) (c9) (kd) (sd)) (k9))) (k_kc (ngM (rkM C (f9) (c9) (kd) (sd)) (k9))) (k_grp (ngM (rkM C (f9) (c9) (kd) (sd)) (k9))) (k_key (ngM (rkM C (f9) (c9) (kd) (sd)) (k9))) (k_srt (ngM (rkM C (f9) (c9) (kd) (sd)) (k9))) (k_wt (ngM (rkM C (f9) (c9) (kd) (sd)) (k9))) (k_home (ngM (rkM C (f9) (c9) (kd) (sd)) (k9))) (k_drp (ngM (rkM C (f9) (c9) (kd) (sd)) (k9))) (k_met (ngM (rkM C (f9) (c9) (kd) (sd)) (k9))) (k_kin (ngM (rkM C (f9) (c9) (kd) (sd)) (k9))) (k_alv (ngM (rkM C (f9) (c9) (kd) (sd)) (k9))) (k_srs (ngM (rkM C (f9) (c9) (kd) (sd)) (k9))) (k_row (ngM (rkM C (f9) (c9) (kd) (sd)) (k9))) (k_sp (ngM (rkM C (f9) (c9) (kd) (sd)) (k9))) (k_kis (ngM (rkM C (f9) (c9) (kd) (sd)) (k9))) (k_pg (ngM (rkM C (f9) (c9) (kd) (sd)) (k9))) (k_vq (ngM (rkM C (f9) (c9) (kd) (sd)) (k9))) (k_rq (ngM (rkM C (f9) (c9) (kd) (sd)) (k9))) (k_L (ngM (rkM C (f9) (c9) (kd) (sd)) (k9))) (k_F (ngM (rkM C (f9) (c9) (kd) (sd)) (k9)))) H := hP
  have hD : va_D A (kX cI cJ cZ cV cR a (k_ra (ngM (rkM C (f9) (c9) (kd) (sd)) (k9))) (k_rb (ngM (rkM C (f9) (c9) (kd) (sd)) (k9))) (k_vc (ngM (rkM C (f9) (c9) (kd) (sd)) (k9))) (k_rc (ngM (rkM C (f9) (c9) (kd) (sd)) (k9))) (k_pc (ngM (rkM C (f9) (c9) (kd) (sd)) (k9))) (k_nw (ngM (rkM C (f9) (c9) (kd) (sd)) (k9))) (k_n (ngM (rkM C (f9) (c9) (kd) (sd)) (k9))) (k_fn (ngM (rkM C (f9) (c9) (kd) (sd)) (k9))) (k_sn (ngM (rkM C (f9) (c9) (kd) (sd)) (k9))) (k_kc (ngM (rkM C (f9) (c9) (kd) (sd)) (k9))) (k_grp (ngM (rkM C (f9) (c9) (kd) (sd)) (k9))) (k_key (ngM (rkM C (f9) (c9) (kd) (sd)) (k9))) (k_srt (ngM (rkM C (f9) (c9) (kd) (sd)) (k9))) (k_wt (ngM (rkM C (f9) (c9) (kd) (sd)) (k9))) (k_home (ngM (rkM C (f9) (c9) (kd) (sd)) (k9))) (k_drp (ngM (rkM C (f9) (c9) (kd) (sd)) (k9))) (k_met (ngM (rkM C (f9) (c9) (kd) (sd)) (k9))) (k_kin (ngM (rkM C (f9) (c9) (kd) (sd)) (k9))) (k_alv (ngM (rkM C (f9) (c9) (kd) (sd)) (k9))) (k_srs (ngM (rkM C (f9) (c9) (kd) (sd)) (k9))) (k_row (ngM (rkM C (f9) (c9) (kd) (sd)) (k9))) (k_sp (ngM (rkM C (f9) (c9) (kd) (sd)) (k9))) (k_kis (ngM (rkM C (f9) (c9) (kd) (sd)) (k9))) (k_pg (ngM (rkM C (f9) (c9) (kd) (sd)) (k9))) (k_vq (ngM (rkM C (f9) (c9) (kd) (sd)) (k9))) (k_rq (ngM (rkM C (f9) (c9) (kd) (sd)) (k9))) (k_L (ngM (rkM C (f9) (c9) (kd) (sd)) (k9))) (k_F (ngM (rkM C (f9) (c9) (kd) (sd)) (k9)))) := hD
  refine lv_aload_n hx hb dX5_best_13 rfl (lv_at hl 0 rfl) ?_
  refine va_get (ci := 5) (v := .ref (a 11)) (C := RX5) (T := TX5) (N := 10) hx hb hts hiX5 hown hK hP 0 rfl rfl 2 (by decide) hf0 (fun _ h9 => h9) rfl dX5_best_14 ?_
  refine lv_iload hx hb dX5_best_17 (lv_at hl 5 rfl) ?_
  have hPm : va_P D vwCl (kW cI cJ cZ cV cR a (ngM (rkM C (f9) (c9) (kd) (sd)) (k9))) H := by exact hP
  have hDm : va_D A (kW cI cJ cZ cV cR a (ngM (rkM C (f9) (c9) (kd) (sd)) (k9))) := by exact hD
  refine wx_V (As := [.int (x)]) (rest := []) (wf := kW cI cJ cZ cV cR a) ⟨hx, hb, hml, hown, hts⟩ (x_X0_memberAt l htr D cI cJ cZ cV cR a (ngM (rkM C (f9) (c9) (kd) (sd)) (k9)) (ok_ngM (ok_rkM hM (by omega) hf9)) x hbad H.size) (cwV 1 hts gX5_best_X0_memberAt rfl rfl rfl (by decide +kernel) ⟨Nat.le_of_ble_eq_true rfl, Nat.le_of_ble_eq_true rfl⟩) hPm hK hDm hS hA hXE 11 rfl rfl rfl hl.1 rfl (Nat.le_of_ble_eq_true rfl) dX5_best_19 ⟨Nat.le_of_ble_eq_true rfl, Nat.le_of_ble_eq_true rfl⟩ (fun u hu H locs ce q9 hP hD hS hce hcv hcl => ?_)
  exact vx_out (fun x h => (hout x h).elim) hlocks hce hcv hcl (xxc_eq u hu hP hK hD hS) hS.2.2 (Nat.le_refl _) (Nat.le_refl _)
