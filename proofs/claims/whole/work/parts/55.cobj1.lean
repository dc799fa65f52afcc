def rm_X3_listStanding : Room := { frames := 2, cells := 1, slots := 300, locals := 43 }
set_option maxHeartbeats 4000000 in
set_option maxRecDepth 100000 in
/-- the objects that stand -/
theorem c_X3_listStanding (l : Launch) (D : va_G) (cI cJ cZ cV cR : ClassId) (a : Nat → Nat) (C : CT) (hM : kOk C)  (sz : Nat) : Met l yX3_listStanding wsX3_listStanding rm_X3_listStanding (va_Pc [.ref (a 1)] (GW D (tyK cI cJ cZ cV cR) (kW cI cJ cZ cV cR a C) sz)) (va_Qr (fun u : Nat × CT => u.1 ∉ k_L C ∧ u.2 = lsM cI C u.1) (fun u q t => q = u.1 ∧ GB D (tyK cI cJ cZ cV cR) (va_A (kW cI cJ cZ cV cR a C) sz) (kW cI cJ cZ cV cR a u.2) t) (va_A (kW cI cJ cZ cV cR a C) sz)) 1 300 (va_A (kW cI cJ cZ cV cR a C) sz) := by
  obtain ⟨hn, hfn, hsn, hvc, hrc, hpc, hnw, hkc, h_home, h_kin, h_alv, h_srs, h_row, h_sp, h_kis, h_pg⟩ := id hM
  refine Met.ofW (cc := cX3_listStanding) (maxL := 4) (ret := (some (.array .int))) (by decide) rfl ?_
  intro p e s m args below meth c s₁ B hml hv
  obtain ⟨rfl, hsz, hP, hK, hD0⟩ := hv
  have hx := B.exec
  have hb := B.bytes
  have hr := B.returns
  have hts := atoms_spec (ws := wsX3_listStanding) B.pre
  have hown : s.vm.findClass RX3 = some m.cls := findClass_of_methodNamed B.named
  have hlocks := B.notSynchronized
  subst hsz
  have hD := hD0.self (sz := s.heap.size)
  generalize hAe : va_A (kW cI cJ cZ cV cR a C) s.heap.size = A at hD ⊢
  have hA : ∀ q : Nat, s.heap.size ≤ q → A q := fun q h => by rw [← hAe]; exact Or.inr h
  have hS : va_S A s.heap s.heap [] := va_S.rf
  have hP : va_P D vwCl (kX cI cJ cZ cV cR a (k_ra C) (k_rb C) (k_vc C) (k_rc C) (k_pc C) (k_nw C) (k_n C) (k_fn C) (k_sn C) (k_kc C) (k_grp C) (k_key C) (k_srt C) (k_wt C) (k_home C) (k_drp C) (k_met C) (k_kin C) (k_alv C) (k_srs C) (k_row C) (k_sp C) (k_kis C) (k_pg C) (k_vq C) (k_rq C) (k_L C) (k_F C)) s.heap := hP
  have hD : va_D A (kX cI cJ cZ cV cR a (k_ra C) (k_rb C) (k_vc C) (k_rc C) (k_pc C) (k_nw C) (k_n C) (k_fn C) (k_sn C) (k_kc C) (k_grp C) (k_key C) (k_srt C) (k_wt C) (k_home C) (k_drp C) (k_met C) (k_kin C) (k_alv C) (k_srs C) (k_row C) (k_sp C) (k_kis C) (k_pg C) (k_vq C) (k_rq C) (k_L C) (k_F C)) := hD
  have hiX3 : ∀ w ∈ wsX30, w ∈ wsX3_listStanding := by decide +kernel
  have hf0 := hts (.arrayClass .int) (by decide +kernel)
  have hf1 := hts (.fieldLink RX3 32 "GroupCursors$Stock" "count" "I") (by decide +kernel)
  have hl := lv_entry ([.ref (a 1)]) (n := 4) (Nat.le_of_ble_eq_true rfl)
  rw [lg_entry_eq]
  generalize (lg_sl ([.ref (a 1)]) ++ List.replicate (4 - (lg_sl ([.ref (a 1)])).length) Slot.unset).toArray = ls at hl ⊢
  have hl : lv_has ls 4 [(0, .ref (a 1))] := hl
  refine lv_aload_n hx hb dX3_listStanding_0 rfl (lv_at hl 0 rfl) ?_
  have hPm : va_P D vwCl (kW cI cJ cZ cV cR a C) s.heap := by exact hP
  refine wc_Vi (As := []) (rest := []) ⟨hx, hb, hml, hown, hts⟩ (c_X3_countStanding l D cI cJ cZ cV cR a C hM) (cwV 0 hts gX3_listStanding_X3_countStanding rfl rfl rfl (by decide +kernel) ⟨Nat.le_of_ble_eq_true rfl, Nat.le_of_ble_eq_true rfl⟩) hPm hK 1 rfl rfl rfl hl.1 rfl (Nat.le_of_ble_eq_true rfl) dX3_listStanding_1 ⟨Nat.zero_le _, Nat.zero_le _⟩ (fun rr hq1 => ?_)
  have hq1 : rr = nI (cnt (stF (k_home C) (k_drp C)) (k_n C)) := hq1
  subst hq1
  have hle2 : cnt (stF (k_home C) (k_drp C)) (k_n C) ≤ (k_n C) := cnt_le _ _
  refine wp_newi (n := cnt (stF (k_home C) (k_drp C)) (k_n C)) hx hb hf0 hK hP hD hS hA 0 rfl (by omega) (Nat.le_of_ble_eq_true rfl) (show 0 + (cnt (stF (k_home C) (k_drp C)) (k_n C)) ≤ 300 by omega) dX3_listStanding_4 (fun q3 H hfq3 hP hD hS => ?_)
  refine W.widen (k := 1) (n := 300) (Nat.le_refl _) (show 0 + (cnt (stF (k_home C) (k_drp C)) (k_n C)) ≤ 300 by omega) ?_
  have hP : va_P D vwCl (kX cI cJ cZ cV cR a (k_ra C) (k_rb C) (k_vc C) (k_rc C) (k_pc C) (k_nw C) (k_n C) (k_fn C) (k_sn C) (k_kc C) (k_grp C) (k_key C) (k_srt C) (k_wt C) (k_home C) (k_drp C) (k_met C) (k_kin C) (k_alv C) (k_srs C) (k_row C) (k_sp C) (k_kis C) (k_pg C) (k_vq C) (k_rq C) (k_L C ++ [q3]) (va_up (k_F C) (q3) (.inl (cI, cnt (stF (k_home C) (k_drp C)) (k_n C), .inl (fun j => nI ((fun _ => 0) j)))))) H := hP
  have hD : va_D A (kX cI cJ cZ cV cR a (k_ra C) (k_rb C) (k_vc C) (k_rc C) (k_pc C) (k_nw C) (k_n C) (k_fn C) (k_sn C) (k_kc C) (k_grp C) (k_key C) (k_srt C) (k_wt C) (k_home C) (k_drp C) (k_met C) (k_kin C) (k_alv C) (k_srs C) (k_row C) (k_sp C) (k_kis C) (k_pg C) (k_vq C) (k_rq C) (k_L C ++ [q3]) (va_up (k_F C) (q3) (.inl (cI, cnt (stF (k_home C) (k_drp C)) (k_n C), .inl (fun j => nI ((fun _ => 0) j)))))) := hD
  have hp4_q : isI cI (k_L C ++ [q3]) (va_up (k_F C) (q3) (.inl (cI, cnt (stF (k_home C) (k_drp C)) (k_n C), .inl (fun j => nI ((fun _ => 0) j))))) (q3) (cnt (stF (k_home C) (k_drp C)) (k_n C)) (fun _ => 0) := isE.new _ _ _ _
  refine lv_astore_n (lv' := [(1, .ref (q3)), (0, .ref (a 1))]) hx hb dX3_listStanding_6 rfl hl (by decide) rfl (fun ls hl => ?_)
  refine lv_iconst (v := nI (0)) hx hb dX3_listStanding_7 (by decide) ?_
  refine lv_istore_n (lv' := [(2, .int (nI (0))), (1, .ref (q3)), (0, .ref (a 1))]) hx hb dX3_listStanding_8 rfl hl (by decide) rfl (fun ls hl => ?_)
  refine lv_iconst (v := nI (0)) hx hb dX3_listStanding_9 (by decide) ?_
  refine lv_istore_n (lv' := [(3, .int (nI (0))), (2, .int (nI (0))), (1, .ref (q3)), (0, .ref (a 1))]) hx hb dX3_listStanding_10 rfl hl (by decide) rfl (fun ls hl => ?_)
  have hlp11 : ∀ (d : Nat) (i : Nat) (k : Nat) (H : Heap) (locs : List Loc), k_n C - i < d → (i ≤ k_n C) → (k = cnt (stF (k_home C) (k_drp C)) i) → va_P D vwCl (kX cI cJ cZ cV cR a (k_ra C) (k_rb C) (k_vc C) (k_rc C) (k_pc C) (k_nw C) (k_n C) (k_fn C) (k_sn C) (k_kc C) (k_grp C) (k_key C) (k_srt C) (k_wt C) (k_home C) (k_drp C) (k_met C) (k_kin C) (k_alv C) (k_srs C) (k_row C) (k_sp C) (k_kis C) (k_pg C) (k_vq C) (k_rq C) (k_L C ++ [q3]) (va_up (k_F C) (q3) (.inl (cI, cnt (stF (k_home C) (k_drp C)) (k_n C), .inl (fun j => nI ((lsA (stF (k_home C) (k_drp C)) i) j)))))) H → va_D A (kX cI cJ cZ cV cR a (k_ra C) (k_rb C) (k_vc C) (k_rc C) (k_pc C) (k_nw C) (k_n C) (k_fn C) (k_sn C) (k_kc C) (k_grp C) (k_key C) (k_srt C) (k_wt C) (k_home C) (k_drp C) (k_met C) (k_kin C) (k_alv C) (k_srs C) (k_row C) (k_sp C) (k_kis C) (k_pg C) (k_vq C) (k_rq C) (k_L C ++ [q3]) (va_up (k_F C) (q3) (.inl (cI, cnt (stF (k_home C) (k_drp C)) (k_n C), .inl (fun j => nI ((lsA (stF (k_home C) (k_drp C)) i) j)))))) → va_S A s.heap H locs → ∀ (ls : Array Slot), lv_has ls 4 [(0, .ref (a 1)), (1, .ref (q3)), (2, .int (nI (k))), (3, .int (nI (i)))] → W p l e (headSpec wsX3_listStanding rm_X3_listStanding).room s m ([.ref (a 1)] : List Value).toArray below meth c H locs (1) (300) (MQ below (va_Qr (fun u : Nat × CT => u.1 ∉ k_L C ∧ u.2 = lsM cI C u.1) (fun u q t => q = u.1 ∧ GB D (tyK cI cJ cZ cV cR) A (kW cI cJ cZ cV cR a u.2) t) A) ([.ref (a 1)] : List Value).toArray s 1 300 A) (F0 m 11 ls []) := by
    intro d
    induction d with
    | zero => intro i k H locs hd11; exact absurd hd11 (Nat.not_lt_zero _)
    | succ d ih11 =>
      intro i k H locs hd11 hik hk hP hD hS ls hl
      have hcl := cnt_le (stF (k_home C) (k_drp C)) i
      have hcn := cnt_le (stF (k_home C) (k_drp C)) (k_n C)
      have hcm := cnt_mono (stF (k_home C) (k_drp C)) hik
      have hIi : isI cI (k_L C ++ [q3]) (va_up (k_F C) (q3) (.inl (cI, cnt (stF (k_home C) (k_drp C)) (k_n C), .inl (fun j => nI ((lsA (stF (k_home C) (k_drp C)) i) j))))) q3 (cnt (stF (k_home C) (k_drp C)) (k_n C)) (lsA (stF (k_home C) (k_drp C)) i) := isE.new _ _ _ _
      refine lv_iload_n hx hb dX3_listStanding_11 rfl (lv_at hl 3 rfl) ?_
      refine lv_aload_n hx hb dX3_listStanding_12 rfl (lv_at hl 0 rfl) ?_
      refine va_get (ci := 3) (v := .int (nI (k_n C))) (C := RX3) (T := TX3) (N := 8) hx hb hts hiX3 hown hK hP 1 rfl rfl 6 (by decide) hf1 (fun _ h9 => h9) rfl dX3_listStanding_13 ?_
      refine wn_icmp_ge (a := i) (b := k_n C) (tgt := 46) hx hb (nI_z (by omega)) (nI_z (by omega)) dX3_listStanding_16 (by decide) (fun c16_5 => ?_) (fun c16_5 => ?_)
      · refine lv_aload_n hx hb dX3_listStanding_46 rfl (lv_at hl 1 rfl) ?_
        have hPm : va_P D vwCl (kW cI cJ cZ cV cR a (mkC (k_ra C) (k_rb C) (k_vc C) (k_rc C) (k_pc C) (k_nw C) (k_n C) (k_fn C) (k_sn C) (k_kc C) (k_grp C) (k_key C) (k_srt C) (k_wt C) (k_home C) (k_drp C) (k_met C) (k_kin C) (k_alv C) (k_srs C) (k_row C) (k_sp C) (k_kis C) (k_pg C) (k_vq C) (k_rq C) (k_L C ++ [q3]) (va_up (k_F C) (q3) (.inl (cI, cnt (stF (k_home C) (k_drp C)) (k_n C), .inl (fun j => nI ((lsA (stF (k_home C) (k_drp C)) i) j))))))) H := by rw [← kX_mk]; exact hP
        have hDm : va_D A (kW cI cJ cZ cV cR a (mkC (k_ra C) (k_rb C) (k_vc C) (k_rc C) (k_pc C) (k_nw C) (k_n C) (k_fn C) (k_sn C) (k_kc C) (k_grp C) (k_key C) (k_srt C) (k_wt C) (k_home C) (k_drp C) (k_met C) (k_kin C) (k_alv C) (k_srs C) (k_row C) (k_sp C) (k_kis C) (k_pg C) (k_vq C) (k_rq C) (k_L C ++ [q3]) (va_up (k_F C) (q3) (.inl (cI, cnt (stF (k_home C) (k_drp C)) (k_n C), .inl (fun j => nI ((lsA (stF (k_home C) (k_drp C)) i) j))))))) := by rw [← kX_mk]; exact hD
        exact W.aret (v := .ref (q3)) hx hb hr (Or.inr ⟨_, rfl⟩) (Or.inr ⟨_, rfl⟩) (fun t ht hW => ⟨⟨(q3, (mkC (k_ra C) (k_rb C) (k_vc C) (k_rc C) (k_pc C) (k_nw C) (k_n C) (k_fn C) (k_sn C) (k_kc C) (k_grp C) (k_key C) (k_srt C) (k_wt C) (k_home C) (k_drp C) (k_met C) (k_kin C) (k_alv C) (k_srs C) (k_row C) (k_sp C) (k_kis C) (k_pg C) (k_vq C) (k_rq C) (k_L C ++ [q3]) (va_up (k_F C) (q3) (.inl (cI, cnt (stF (k_home C) (k_drp C)) (k_n C), .inl (fun j => nI ((lsA (stF (k_home C) (k_drp C)) i) j))))))), _, rfl, ⟨hfq3, (by show (_ : CT) = lsM cI C q3; rw [lsM, lsN, lsL, (show lsA (stF (k_home C) (k_drp C)) (k_n C) = lsA (stF (k_home C) (k_drp C)) i from lsA_end hik (by first | omega | (rw [(show i = k_n C by omega)]; exact Nat.le_refl _)))])⟩, rfl, gb_mk ht hW hPm hK hDm⟩, hS.F ht⟩) hS.2.2 dX3_listStanding_47
      · refine lv_iload_n hx hb dX3_listStanding_19 rfl (lv_at hl 2 rfl) ?_
        refine lv_aload_n hx hb dX3_listStanding_20 rfl (lv_at hl 1 rfl) ?_
        refine wp_len hx hb hK hP hIi.1 0 hIi.2 rfl dX3_listStanding_21 ?_
        refine wn_icmp_ge (a := k) (b := cnt (stF (k_home C) (k_drp C)) (k_n C)) (tgt := 46) hx hb (nI_z (by omega)) (nI_z (by omega)) dX3_listStanding_22 (by decide) (fun c22_6 => ?_) (fun c22_6 => ?_)
        · refine lv_aload_n hx hb dX3_listStanding_46 rfl (lv_at hl 1 rfl) ?_
          have hPm : va_P D vwCl (kW cI cJ cZ cV cR a (mkC (k_ra C) (k_rb C) (k_vc C) (k_rc C) (k_pc C) (k_nw C) (k_n C) (k_fn C) (k_sn C) (k_kc C) (k_grp C) (k_key C) (k_srt C) (k_wt C) (k_home C) (k_drp C) (k_met C) (k_kin C) (k_alv C) (k_srs C) (k_row C) (k_sp C) (k_kis C) (k_pg C) (k_vq C) (k_rq C) (k_L C ++ [q3]) (va_up (k_F C) (q3) (.inl (cI, cnt (stF (k_home C) (k_drp C)) (k_n C), .inl (fun j => nI ((lsA (stF (k_home C) (k_drp C)) i) j))))))) H := by rw [← kX_mk]; exact hP
          have hDm : va_D A (kW cI cJ cZ cV cR a (mkC (k_ra C) (k_rb C) (k_vc C) (k_rc C) (k_pc C) (k_nw C) (k_n C) (k_fn C) (k_sn C) (k_kc C) (k_grp C) (k_key C) (k_srt C) (k_wt C) (k_home C) (k_drp C) (k_met C) (k_kin C) (k_alv C) (k_srs C) (k_row C) (k_sp C) (k_kis C) (k_pg C) (k_vq C) (k_rq C) (k_L C ++ [q3]) (va_up (k_F C) (q3) (.inl (cI, cnt (stF (k_home C) (k_drp C)) (k_n C), .inl (fun j => nI ((lsA (stF (k_home C) (k_drp C)) i) j))))))) := by rw [← kX_mk]; exact hD
          exact W.aret (v := .ref (q3)) hx hb hr (Or.inr ⟨_, rfl⟩) (Or.inr ⟨_, rfl⟩) (fun t ht hW => ⟨⟨(q3, (mkC (k_ra C) (k_rb C) (k_vc C) (k_rc C) (k_pc C) (k_nw C) (k_n C) (k_fn C) (k_sn C) (k_kc C) (k_grp C) (k_key C) (k_srt C) (k_wt C) (k_home C) (k_drp C) (k_met C) (k_kin C) (k_alv C) (k_srs C) (k_row C) (k_sp C) (k_kis C) (k_pg C) (k_vq C) (k_rq C) (k_L C ++ [q3]) (va_up (k_F C) (q3) (.inl (cI, cnt (stF (k_home C) (k_drp C)) (k_n C), .inl (fun j => nI ((lsA (stF (k_home C) (k_drp C)) i) j))))))), _, rfl, ⟨hfq3, (by show (_ : CT) = lsM cI C q3; rw [lsM, lsN, lsL, (show lsA (stF (k_home C) (k_drp C)) (k_n C) = lsA (stF (k_home C) (k_drp C)) i from lsA_end hik (by first | omega | (rw [(show i = k_n C by omega)]; exact Nat.le_refl _)))])⟩, rfl, gb_mk ht hW hPm hK hDm⟩, hS.F ht⟩) hS.2.2 dX3_listStanding_47
        · refine lv_aload_n hx hb dX3_listStanding_25 rfl (lv_at hl 0 rfl) ?_
          refine lv_iload_n hx hb dX3_listStanding_26 rfl (lv_at hl 3 rfl) ?_
          have hPm : va_P D vwCl (kW cI cJ cZ cV cR a (mkC (k_ra C) (k_rb C) (k_vc C) (k_rc C) (k_pc C) (k_nw C) (k_n C) (k_fn C) (k_sn C) (k_kc C) (k_grp C) (k_key C) (k_srt C) (k_wt C) (k_home C) (k_drp C) (k_met C) (k_kin C) (k_alv C) (k_srs C) (k_row C) (k_sp C) (k_kis C) (k_pg C) (k_vq C) (k_rq C) (k_L C ++ [q3]) (va_up (k_F C) (q3) (.inl (cI, cnt (stF (k_home C) (k_drp C)) (k_n C), .inl (fun j => nI ((lsA (stF (k_home C) (k_drp C)) i) j))))))) H := by rw [← kX_mk]; exact hP
          refine wc_Vi (As := [.int (nI (i))]) (rest := []) ⟨hx, hb, hml, hown, hts⟩ (c_X3_stands l D cI cJ cZ cV cR a (mkC (k_ra C) (k_rb C) (k_vc C) (k_rc C) (k_pc C) (k_nw C) (k_n C) (k_fn C) (k_sn C) (k_kc C) (k_grp C) (k_key C) (k_srt C) (k_wt C) (k_home C) (k_drp C) (k_met C) (k_kin C) (k_alv C) (k_srs C) (k_row C) (k_sp C) (k_kis C) (k_pg C) (k_vq C) (k_rq C) (k_L C ++ [q3]) (va_up (k_F C) (q3) (.inl (cI, cnt (stF (k_home C) (k_drp C)) (k_n C), .inl (fun j => nI ((lsA (stF (k_home C) (k_drp C)) i) j)))))) hM (i) (by omega)) (cwV 1 hts gX3_listStanding_X3_stands rfl rfl rfl (by decide +kernel) ⟨Nat.le_of_ble_eq_true rfl, Nat.le_of_ble_eq_true rfl⟩) hPm hK 1 rfl rfl rfl hl.1 rfl (Nat.le_of_ble_eq_true rfl) dX3_listStanding_27 ⟨Nat.le_of_ble_eq_true rfl, Nat.le_of_ble_eq_true rfl⟩ (fun rr hq7 => ?_)
          have hq7 : rr = bI (stF (k_home C) (k_drp C) i) := hq7
          subst hq7
          refine wb_if_eq (tgt := 40) hx hb dX3_listStanding_30 (by decide) (fun c30_8 => ?_) (fun c30_8 => ?_)
          · refine lv_iinc (v := nI (i + 1)) (lv' := [(3, .int (nI (i + 1))), (0, .ref (a 1)), (1, .ref (q3)), (2, .int (nI (k)))]) hx hb dX3_listStanding_40 hl (k := 3) rfl (nI_inc _) (by decide) rfl (fun ls hl => ?_)
            refine lv_goto (tgt := 11) hx hb dX3_listStanding_43 (by decide) ?_
            have e1 : lsA (stF (k_home C) (k_drp C)) i = lsA (stF (k_home C) (k_drp C)) (i + 1) := by simp only [lsA]; rw [if_neg (by rw [c30_8]; decide)]
            rw [e1] at hP hD
            exact ih11 (i + 1) (k) _ _ (by omega) (by omega) (cnt_f hk c30_8) hP hD hS ls (lv_sub hl [1, 2, 3, 0] rfl)
          · refine lv_aload_n hx hb dX3_listStanding_33 rfl (lv_at hl 1 rfl) ?_
            refine lv_iload_n hx hb dX3_listStanding_34 rfl (lv_at hl 2 rfl) ?_
            refine lv_iload_n hx hb dX3_listStanding_35 rfl (lv_at hl 3 rfl) ?_
            refine wp_ist (i := k) (x := i) (f := lsA (stF (k_home C) (k_drp C)) i) hx hb hK hP hD hS hIi.1 0 hIi.2 rfl (by omega) (by omega) dX3_listStanding_36 (fun H locs hP hD hS => ?_)
            rw [bx_uu] at hP hD
            have hP : va_P D vwCl (kX cI cJ cZ cV cR a (k_ra C) (k_rb C) (k_vc C) (k_rc C) (k_pc C) (k_nw C) (k_n C) (k_fn C) (k_sn C) (k_kc C) (k_grp C) (k_key C) (k_srt C) (k_wt C) (k_home C) (k_drp C) (k_met C) (k_kin C) (k_alv C) (k_srs C) (k_row C) (k_sp C) (k_kis C) (k_pg C) (k_vq C) (k_rq C) (k_L C ++ [q3]) (va_up (k_F C) (q3) (.inl (cI, cnt (stF (k_home C) (k_drp C)) (k_n C), .inl (fun j => nI ((va_up (lsA (stF (k_home C) (k_drp C)) i) (k) (i)) j)))))) H := hP
            have hD : va_D A (kX cI cJ cZ cV cR a (k_ra C) (k_rb C) (k_vc C) (k_rc C) (k_pc C) (k_nw C) (k_n C) (k_fn C) (k_sn C) (k_kc C) (k_grp C) (k_key C) (k_srt C) (k_wt C) (k_home C) (k_drp C) (k_met C) (k_kin C) (k_alv C) (k_srs C) (k_row C) (k_sp C) (k_kis C) (k_pg C) (k_vq C) (k_rq C) (k_L C ++ [q3]) (va_up (k_F C) (q3) (.inl (cI, cnt (stF (k_home C) (k_drp C)) (k_n C), .inl (fun j => nI ((va_up (lsA (stF (k_home C) (k_drp C)) i) (k) (i)) j)))))) := hD
            have hp9_q : isI cI (k_L C ++ [q3]) (va_up (k_F C) (q3) (.inl (cI, cnt (stF (k_home C) (k_drp C)) (k_n C), .inl (fun j => nI ((va_up (lsA (stF (k_home C) (k_drp C)) i) (k) (i)) j))))) (q3) (cnt (stF (k_home C) (k_drp C)) (k_n C)) (va_up (lsA (stF (k_home C) (k_drp C)) i) (k) (i)) := ⟨hIi.1, va_up_self _ _ _⟩
            refine lv_iinc (v := nI (k + 1)) (lv' := [(2, .int (nI (k + 1))), (0, .ref (a 1)), (1, .ref (q3)), (3, .int (nI (i)))]) hx hb dX3_listStanding_37 hl (k := 2) rfl (nI_inc _) (by decide) rfl (fun ls hl => ?_)
            refine lv_iinc (v := nI (i + 1)) (lv' := [(3, .int (nI (i + 1))), (2, .int (nI (k + 1))), (0, .ref (a 1)), (1, .ref (q3))]) hx hb dX3_listStanding_40 hl (k := 3) rfl (nI_inc _) (by decide) rfl (fun ls hl => ?_)
            refine lv_goto (tgt := 11) hx hb dX3_listStanding_43 (by decide) ?_
            have e1 : va_up (lsA (stF (k_home C) (k_drp C)) i) (k) (i) = lsA (stF (k_home C) (k_drp C)) (i + 1) := by simp only [lsA]; rw [if_pos c30_8, ← hk]
            rw [e1] at hP hD
            exact ih11 (i + 1) (k + 1) _ _ (by omega) (by omega) (cnt_t hk c30_8) hP hD hS ls (lv_sub hl [2, 3, 1, 0] rfl)
  exact hlp11 _ (0) (0) _ _ (Nat.lt_succ_self _) (Nat.zero_le _) (rfl) hP hD hS ls (lv_sub hl [3, 2, 1, 0] rfl)
def rm_X2_see : Room := { frames := 0, cells := 1, slots := 40, locals := 0 }
set_option maxHeartbeats 4000000 in
set_option maxRecDepth 100000 in
/-- a view sees the live segments -/
theorem c_X2_see (l : Launch) (D : va_G) (cI cJ cZ cV cR : ClassId) (a : Nat → Nat) (C : CT) (hM : kOk C)  (sz : Nat) : Met l yX2_see wsX2_see rm_X2_see (va_Pc [.ref (a 8)] (GW D (tyK cI cJ cZ cV cR) (kW cI cJ cZ cV cR a C) sz)) (va_Qr (fun u : Nat × CT => u.1 ∉ k_L C ∧ u.2 = seM cZ C u.1) (fun u q t => q = u.1 ∧ GB D (tyK cI cJ cZ cV cR) (va_A (kW cI cJ cZ cV cR a C) sz) (kW cI cJ cZ cV cR a u.2) t) (va_A (kW cI cJ cZ cV cR a C) sz)) 1 40 (va_A (kW cI cJ cZ cV cR a C) sz) := by
  obtain ⟨hn, hfn, hsn, hvc, hrc, hpc, hnw, hkc, h_home, h_kin, h_alv, h_srs, h_row, h_sp, h_kis, h_pg⟩ := id hM
  refine Met.ofW (cc := cX2_see) (maxL := 3) (ret := (some (.array .boolean))) (by decide) rfl ?_
  intro p e s m args below meth c s₁ B hml hv
  obtain ⟨rfl, hsz, hP, hK, hD0⟩ := hv
  have hx := B.exec
  have hb := B.bytes
  have hr := B.returns
  have hts := atoms_spec (ws := wsX2_see) B.pre
  have hown : s.vm.findClass RX2 = some m.cls := findClass_of_methodNamed B.named
  have hlocks := B.notSynchronized
  subst hsz
  have hD := hD0.self (sz := s.heap.size)
  generalize hAe : va_A (kW cI cJ cZ cV cR a C) s.heap.size = A at hD ⊢
  have hA : ∀ q : Nat, s.heap.size ≤ q → A q := fun q h => by rw [← hAe]; exact Or.inr h
  have hS : va_S A s.heap s.heap [] := va_S.rf
  have hP : va_P D vwCl (kX cI cJ cZ cV cR a (k_ra C) (k_rb C) (k_vc C) (k_rc C) (k_pc C) (k_nw C) (k_n C) (k_fn C) (k_sn C) (k_kc C) (k_grp C) (k_key C) (k_srt C) (k_wt C) (k_home C) (k_drp C) (k_met C) (k_kin C) (k_alv C) (k_srs C) (k_row C) (k_sp C) (k_kis C) (k_pg C) (k_vq C) (k_rq C) (k_L C) (k_F C)) s.heap := hP
  have hD : va_D A (kX cI cJ cZ cV cR a (k_ra C) (k_rb C) (k_vc C) (k_rc C) (k_pc C) (k_nw C) (k_n C) (k_fn C) (k_sn C) (k_kc C) (k_grp C) (k_key C) (k_srt C) (k_wt C) (k_home C) (k_drp C) (k_met C) (k_kin C) (k_alv C) (k_srs C) (k_row C) (k_sp C) (k_kis C) (k_pg C) (k_vq C) (k_rq C) (k_L C) (k_F C)) := hD
  have hiX2 : ∀ w ∈ wsX20, w ∈ wsX2_see := by decide +kernel
  have hf0 := hts (.fieldLink RX2 18 "GroupCursors$Segments" "count" "I") (by decide +kernel)
  have hf1 := hts (.arrayClass .boolean) (by decide +kernel)
  have hf2 := hts (.fieldLink RX2 9 "GroupCursors$Segments" "alive" "[I") (by decide +kernel)
  have hf3 := hts (.fieldLink RX2 15 "GroupCursors$Segments" "seers" "[I") (by decide +kernel)
  have hl := lv_entry ([.ref (a 8)]) (n := 3) (Nat.le_of_ble_eq_true rfl)
  rw [lg_entry_eq]
  generalize (lg_sl ([.ref (a 8)]) ++ List.replicate (3 - (lg_sl ([.ref (a 8)])).length) Slot.unset).toArray = ls at hl ⊢
  have hl : lv_has ls 3 [(0, .ref (a 8))] := hl
  refine lv_aload_n hx hb dX2_see_0 rfl (lv_at hl 0 rfl) ?_
  refine va_get (ci := 2) (v := .int (nI (k_sn C))) (C := RX2) (T := TX2) (N := 3) hx hb hts hiX2 hown hK hP 8 rfl rfl 2 (by decide) hf0 (fun _ h9 => h9) rfl dX2_see_1 ?_
  refine wp_newz (n := k_sn C) hx hb hf1 hK hP hD hS hA 2 rfl (by omega) (Nat.le_of_ble_eq_true rfl) (show 0 + (k_sn C) ≤ 40 by omega) dX2_see_4 (fun q1 H hfq1 hP hD hS => ?_)
  refine W.widen (k := 1) (n := 40) (Nat.le_refl _) (show 0 + (k_sn C) ≤ 40 by omega) ?_
  have hP : va_P D vwCl (kX cI cJ cZ cV cR a (k_ra C) (k_rb C) (k_vc C) (k_rc C) (k_pc C) (k_nw C) (k_n C) (k_fn C) (k_sn C) (k_kc C) (k_grp C) (k_key C) (k_srt C) (k_wt C) (k_home C) (k_drp C) (k_met C) (k_kin C) (k_alv C) (k_srs C) (k_row C) (k_sp C) (k_kis C) (k_pg C) (k_vq C) (k_rq C) (k_L C ++ [q1]) (va_up (k_F C) (q1) (.inl (cZ, k_sn C, .inl (fun j => bI ((fun _ => false) j)))))) H := hP
  have hD : va_D A (kX cI cJ cZ cV cR a (k_ra C) (k_rb C) (k_vc C) (k_rc C) (k_pc C) (k_nw C) (k_n C) (k_fn C) (k_sn C) (k_kc C) (k_grp C) (k_key C) (k_srt C) (k_wt C) (k_home C) (k_drp C) (k_met C) (k_kin C) (k_alv C) (k_srs C) (k_row C) (k_sp C) (k_kis C) (k_pg C) (k_vq C) (k_rq C) (k_L C ++ [q1]) (va_up (k_F C) (q1) (.inl (cZ, k_sn C, .inl (fun j => bI ((fun _ => false) j)))))) := hD
  have hp2_q : isZ cZ (k_L C ++ [q1]) (va_up (k_F C) (q1) (.inl (cZ, k_sn C, .inl (fun j => bI ((fun _ => false) j))))) (q1) (k_sn C) (fun _ => false) := isE.new _ _ _ _
  refine lv_astore_n (lv' := [(1, .ref (q1)), (0, .ref (a 8))]) hx hb dX2_see_6 rfl hl (by decide) rfl (fun ls hl => ?_)
  refine lv_iconst (v := nI (0)) hx hb dX2_see_7 (by decide) ?_
  refine lv_istore_n (lv' := [(2, .int (nI (0))), (1, .ref (q1)), (0, .ref (a 8))]) hx hb dX2_see_8 rfl hl (by decide) rfl (fun ls hl => ?_)
  have hlp9 : ∀ (d : Nat) (i : Nat) (H : Heap) (locs : List Loc), k_sn C - i < d → (i ≤ k_sn C) → va_P D vwCl (kX cI cJ cZ cV cR a (k_ra C) (k_rb C) (k_vc C) (k_rc C) (k_pc C) (k_nw C) (k_n C) (k_fn C) (k_sn C) (k_kc C) (k_grp C) (k_key C) (k_srt C) (k_wt C) (k_home C) (k_drp C) (k_met C) (k_kin C) (k_alv C) (seS (k_alv C) (k_srs C) i) (k_row C) (k_sp C) (k_kis C) (k_pg C) (k_vq C) (k_rq C) (k_L C ++ [q1]) (va_up (k_F C) (q1) (.inl (cZ, k_sn C, .inl (fun j => bI ((seZ (k_alv C) i) j)))))) H → va_D A (kX cI cJ cZ cV cR a (k_ra C) (k_rb C) (k_vc C) (k_rc C) (k_pc C) (k_nw C) (k_n C) (k_fn C) (k_sn C) (k_kc C) (k_grp C) (k_key C) (k_srt C) (k_wt C) (k_home C) (k_drp C) (k_met C) (k_kin C) (k_alv C) (seS (k_alv C) (k_srs C) i) (k_row C) (k_sp C) (k_kis C) (k_pg C) (k_vq C) (k_rq C) (k_L C ++ [q1]) (va_up (k_F C) (q1) (.inl (cZ, k_sn C, .inl (fun j => bI ((seZ (k_alv C) i) j)))))) → va_S A s.heap H locs → ∀ (ls : Array Slot), lv_has ls 3 [(0, .ref (a 8)), (1, .ref (q1)), (2, .int (nI (i)))] → W p l e (headSpec wsX2_see rm_X2_see).room s m ([.ref (a 8)] : List Value).toArray below meth c H locs (1) (40) (MQ below (va_Qr (fun u : Nat × CT => u.1 ∉ k_L C ∧ u.2 = seM cZ C u.1) (fun u q t => q = u.1 ∧ GB D (tyK cI cJ cZ cV cR) A (kW cI cJ cZ cV cR a u.2) t) A) ([.ref (a 8)] : List Value).toArray s 1 40 A) (F0 m 9 ls []) := by
    intro d
    induction d with
    | zero => intro i H locs hd9; exact absurd hd9 (Nat.not_lt_zero _)
    | succ d ih9 =>
      intro i H locs hd9 hik hP hD hS ls hl
      have hai := h_alv i
      have hsi := h_srs i
      have hsl := (seS_le (alv := k_alv C) (srs := k_srs C) i i).1
      have hZi : isZ cZ (k_L C ++ [q1]) (va_up (k_F C) (q1) (.inl (cZ, k_sn C, .inl (fun j => bI ((seZ (k_alv C) i) j))))) q1 (k_sn C) (seZ (k_alv C) i) := isE.new _ _ _ _
      refine lv_iload_n hx hb dX2_see_9 rfl (lv_at hl 2 rfl) ?_
      refine lv_aload_n hx hb dX2_see_10 rfl (lv_at hl 1 rfl) ?_
      refine wp_len hx hb hK hP hZi.1 2 hZi.2 rfl dX2_see_11 ?_
      refine wn_icmp_ge (a := i) (b := k_sn C) (tgt := 44) hx hb (nI_z (by omega)) (nI_z (by omega)) dX2_see_12 (by decide) (fun c12_3 => ?_) (fun c12_3 => ?_)
      · refine lv_aload_n hx hb dX2_see_44 rfl (lv_at hl 1 rfl) ?_
        have hPm : va_P D vwCl (kW cI cJ cZ cV cR a (mkC (k_ra C) (k_rb C) (k_vc C) (k_rc C) (k_pc C) (k_nw C) (k_n C) (k_fn C) (k_sn C) (k_kc C) (k_grp C) (k_key C) (k_srt C) (k_wt C) (k_home C) (k_drp C) (k_met C) (k_kin C) (k_alv C) (seS (k_alv C) (k_srs C) i) (k_row C) (k_sp C) (k_kis C) (k_pg C) (k_vq C) (k_rq C) (k_L C ++ [q1]) (va_up (k_F C) (q1) (.inl (cZ, k_sn C, .inl (fun j => bI ((seZ (k_alv C) i) j))))))) H := by rw [← kX_mk]; exact hP
        have hDm : va_D A (kW cI cJ cZ cV cR a (mkC (k_ra C) (k_rb C) (k_vc C) (k_rc C) (k_pc C) (k_nw C) (k_n C) (k_fn C) (k_sn C) (k_kc C) (k_grp C) (k_key C) (k_srt C) (k_wt C) (k_home C) (k_drp C) (k_met C) (k_kin C) (k_alv C) (seS (k_alv C) (k_srs C) i) (k_row C) (k_sp C) (k_kis C) (k_pg C) (k_vq C) (k_rq C) (k_L C ++ [q1]) (va_up (k_F C) (q1) (.inl (cZ, k_sn C, .inl (fun j => bI ((seZ (k_alv C) i) j))))))) := by rw [← kX_mk]; exact hD
        exact W.aret (v := .ref (q1)) hx hb hr (Or.inr ⟨_, rfl⟩) (Or.inr ⟨_, rfl⟩) (fun t ht hW => ⟨⟨(q1, (mkC (k_ra C) (k_rb C) (k_vc C) (k_rc C) (k_pc C) (k_nw C) (k_n C) (k_fn C) (k_sn C) (k_kc C) (k_grp C) (k_key C) (k_srt C) (k_wt C) (k_home C) (k_drp C) (k_met C) (k_kin C) (k_alv C) (seS (k_alv C) (k_srs C) i) (k_row C) (k_sp C) (k_kis C) (k_pg C) (k_vq C) (k_rq C) (k_L C ++ [q1]) (va_up (k_F C) (q1) (.inl (cZ, k_sn C, .inl (fun j => bI ((seZ (k_alv C) i) j))))))), _, rfl, ⟨hfq1, (by show (_ : CT) = seM cZ C q1; rw [seM, ← (show i = k_sn C by omega)])⟩, rfl, gb_mk ht hW hPm hK hDm⟩, hS.F ht⟩) hS.2.2 dX2_see_45
      · refine lv_aload_n hx hb dX2_see_15 rfl (lv_at hl 0 rfl) ?_
        refine va_get (ci := 2) (v := .ref (a 9)) (C := RX2) (T := TX2) (N := 3) hx hb hts hiX2 hown hK hP 8 rfl rfl 0 (by decide) hf2 (fun _ h9 => h9) rfl dX2_see_16 ?_
        refine lv_iload_n hx hb dX2_see_19 rfl (lv_at hl 2 rfl) ?_
        refine wa_i (i := i) (v := nI (k_alv C i)) hx hb hK hP 9 0 rfl rfl rfl (by omega) (by decide) dX2_see_20 ?_
        refine wn_if_le (a := k_alv C i) (tgt := 38) hx hb (nr (h_alv i)) dX2_see_21 (by decide) (fun c21_4 => ?_) (fun c21_4 => ?_)
        · refine lv_iinc (v := nI (i + 1)) (lv' := [(2, .int (nI (i + 1))), (0, .ref (a 8)), (1, .ref (q1))]) hx hb dX2_see_38 hl (k := 2) rfl (nI_inc _) (by decide) rfl (fun ls hl => ?_)
          refine lv_goto (tgt := 9) hx hb dX2_see_41 (by decide) ?_
          have e1 : seZ (k_alv C) i = seZ (k_alv C) (i + 1) := by simp only [seZ]; rw [if_neg (by omega)]
          have e2 : seS (k_alv C) (k_srs C) i = seS (k_alv C) (k_srs C) (i + 1) := by simp only [seS]; rw [if_neg (by omega)]
          rw [e1, e2] at hP hD
          exact ih9 (i + 1) _ _ (by omega) (by omega) hP hD hS ls (lv_sub hl [1, 2, 0] rfl)
        · refine lv_aload_n hx hb dX2_see_24 rfl (lv_at hl 1 rfl) ?_
          refine lv_iload_n hx hb dX2_see_25 rfl (lv_at hl 2 rfl) ?_
          refine lv_iconst (v := nI (1)) hx hb dX2_see_26 (by decide) ?_
          refine wp_zst (i := i) (b := true) (f := seZ (k_alv C) i) hx hb hK hP hD hS hZi.1 2 hZi.2 rfl rfl (by omega) (by omega) dX2_see_27 (fun H locs hP hD hS => ?_)
          rw [bx_uu] at hP hD
          have hP : va_P D vwCl (kX cI cJ cZ cV cR a (k_ra C) (k_rb C) (k_vc C) (k_rc C) (k_pc C) (k_nw C) (k_n C) (k_fn C) (k_sn C) (k_kc C) (k_grp C) (k_key C) (k_srt C) (k_wt C) (k_home C) (k_drp C) (k_met C) (k_kin C) (k_alv C) (seS (k_alv C) (k_srs C) i) (k_row C) (k_sp C) (k_kis C) (k_pg C) (k_vq C) (k_rq C) (k_L C ++ [q1]) (va_up (k_F C) (q1) (.inl (cZ, k_sn C, .inl (fun j => bI ((va_up (seZ (k_alv C) i) (i) (true)) j)))))) H := hP
          have hD : va_D A (kX cI cJ cZ cV cR a (k_ra C) (k_rb C) (k_vc C) (k_rc C) (k_pc C) (k_nw C) (k_n C) (k_fn C) (k_sn C) (k_kc C) (k_grp C) (k_key C) (k_srt C) (k_wt C) (k_home C) (k_drp C) (k_met C) (k_kin C) (k_alv C) (seS (k_alv C) (k_srs C) i) (k_row C) (k_sp C) (k_kis C) (k_pg C) (k_vq C) (k_rq C) (k_L C ++ [q1]) (va_up (k_F C) (q1) (.inl (cZ, k_sn C, .inl (fun j => bI ((va_up (seZ (k_alv C) i) (i) (true)) j)))))) := hD
          have hp5_q : isZ cZ (k_L C ++ [q1]) (va_up (k_F C) (q1) (.inl (cZ, k_sn C, .inl (fun j => bI ((va_up (seZ (k_alv C) i) (i) (true)) j))))) (q1) (k_sn C) (va_up (seZ (k_alv C) i) (i) (true)) := ⟨hZi.1, va_up_self _ _ _⟩
          refine lv_aload_n hx hb dX2_see_28 rfl (lv_at hl 0 rfl) ?_
          refine va_get (ci := 2) (v := .ref (a 10)) (C := RX2) (T := TX2) (N := 3) hx hb hts hiX2 hown hK hP 8 rfl rfl 1 (by decide) hf3 (fun _ h9 => h9) rfl dX2_see_29 ?_
          refine lv_iload_n hx hb dX2_see_32 rfl (lv_at hl 2 rfl) ?_
          refine lv_dup2_11 hx hb dX2_see_33 rfl rfl ?_
          refine wa_i (i := i) (v := nI ((seS (k_alv C) (k_srs C) i) i)) hx hb hK hP 10 0 rfl rfl rfl (by omega) (by decide) dX2_see_34 ?_
          refine lv_iconst (v := nI (1)) hx hb dX2_see_35 (by decide) ?_
          refine lv_iadd hx hb dX2_see_36 (ww_top (y := nI ((seS (k_alv C) (k_srs C) i) i + 1)) (nI_addn _ _) ?_)
          refine wa_ist (i := i) hx hb hK hP hD hS 10 0 rfl rfl (upd_nI (seS (k_alv C) (k_srs C) i) (i) ((seS (k_alv C) (k_srs C) i) i + 1)) (by omega) (by decide) dX2_see_37 (fun H locs hP hD hS => ?_)
          have hP : va_P D vwCl (kX cI cJ cZ cV cR a (k_ra C) (k_rb C) (k_vc C) (k_rc C) (k_pc C) (k_nw C) (k_n C) (k_fn C) (k_sn C) (k_kc C) (k_grp C) (k_key C) (k_srt C) (k_wt C) (k_home C) (k_drp C) (k_met C) (k_kin C) (k_alv C) (va_up (seS (k_alv C) (k_srs C) i) (i) ((seS (k_alv C) (k_srs C) i) i + 1)) (k_row C) (k_sp C) (k_kis C) (k_pg C) (k_vq C) (k_rq C) (k_L C ++ [q1]) (va_up (k_F C) (q1) (.inl (cZ, k_sn C, .inl (fun j => bI ((va_up (seZ (k_alv C) i) (i) (true)) j)))))) H := hP
          have hD : va_D A (kX cI cJ cZ cV cR a (k_ra C) (k_rb C) (k_vc C) (k_rc C) (k_pc C) (k_nw C) (k_n C) (k_fn C) (k_sn C) (k_kc C) (k_grp C) (k_key C) (k_srt C) (k_wt C) (k_home C) (k_drp C) (k_met C) (k_kin C) (k_alv C) (va_up (seS (k_alv C) (k_srs C) i) (i) ((seS (k_alv C) (k_srs C) i) i + 1)) (k_row C) (k_sp C) (k_kis C) (k_pg C) (k_vq C) (k_rq C) (k_L C ++ [q1]) (va_up (k_F C) (q1) (.inl (cZ, k_sn C, .inl (fun j => bI ((va_up (seZ (k_alv C) i) (i) (true)) j)))))) := hD
          refine lv_iinc (v := nI (i + 1)) (lv' := [(2, .int (nI (i + 1))), (0, .ref (a 8)), (1, .ref (q1))]) hx hb dX2_see_38 hl (k := 2) rfl (nI_inc _) (by decide) rfl (fun ls hl => ?_)
          refine lv_goto (tgt := 9) hx hb dX2_see_41 (by decide) ?_
          have e1 : va_up (seZ (k_alv C) i) (i) (true) = seZ (k_alv C) (i + 1) := by simp only [seZ]; rw [if_pos (by omega)]
          have e2 : va_up (seS (k_alv C) (k_srs C) i) (i) ((seS (k_alv C) (k_srs C) i) i + 1) = seS (k_alv C) (k_srs C) (i + 1) := by simp only [seS]; rw [if_pos (by omega)]
          rw [e1, e2] at hP hD
          exact ih9 (i + 1) _ _ (by omega) (by omega) hP hD hS ls (lv_sub hl [1, 2, 0] rfl)
  exact hlp9 _ (0) _ _ (Nat.lt_succ_self _) (Nat.zero_le _) hP hD hS ls (lv_sub hl [2, 1, 0] rfl)
def rm_X2_unsee : Room := { frames := 1, cells := 0, slots := 0, locals := 21 }
set_option maxHeartbeats 4000000 in
set_option maxRecDepth 100000 in
/-- a view sees no more -/
theorem c_X2_unsee (l : Launch) (D : va_G) (cI cJ cZ cV cR : ClassId) (a : Nat → Nat) (C : CT) (hM : kOk C) (z n9 : Nat) (sf : Nat → Bool) (hZ : isZ cZ (k_L C) (k_F C) z n9 sf) (hn9 : n9 ≤ 40) (hpos : ∀ i, i < n9 → sf i = true → 0 < k_srs C i) (sz : Nat) : Met l yX2_unsee wsX2_unsee rm_X2_unsee (va_Pc [.ref (a 8), .ref (z)] (GW D (tyK cI cJ cZ cV cR) (kW cI cJ cZ cV cR a C) sz)) (va_Qi (fun rr u => rr = nI (usK (k_alv C) sf (k_srs C) n9) ∧ u = usM C n9 sf) (fun u => GB D (tyK cI cJ cZ cV cR) (va_A (kW cI cJ cZ cV cR a C) sz) (kW cI cJ cZ cV cR a u)) (va_A (kW cI cJ cZ cV cR a C) sz)) 0 0 (va_A (kW cI cJ cZ cV cR a C) sz) := by
  obtain ⟨hn, hfn, hsn, hvc, hrc, hpc, hnw, hkc, h_home, h_kin, h_alv, h_srs, h_row, h_sp, h_kis, h_pg⟩ := id hM
  refine Met.ofW (cc := cX2_unsee) (maxL := 4) (ret := (some .int)) (by decide) rfl ?_
  intro p e s m args below meth c s₁ B hml hv
  obtain ⟨rfl, hsz, hP, hK, hD0⟩ := hv
  have hx := B.exec
  have hb := B.bytes
  have hr := B.returns
  have hts := atoms_spec (ws := wsX2_unsee) B.pre
  have hown : s.vm.findClass RX2 = some m.cls := findClass_of_methodNamed B.named
  have hlocks := B.notSynchronized
  subst hsz
  have hD := hD0.self (sz := s.heap.size)
  generalize hAe : va_A (kW cI cJ cZ cV cR a C) s.heap.size = A at hD ⊢
  have hA : ∀ q : Nat, s.heap.size ≤ q → A q := fun q h => by rw [← hAe]; exact Or.inr h
  have hS : va_S A s.heap s.heap [] := va_S.rf
  have hP : va_P D vwCl (kX cI cJ cZ cV cR a (k_ra C) (k_rb C) (k_vc C) (k_rc C) (k_pc C) (k_nw C) (k_n C) (k_fn C) (k_sn C) (k_kc C) (k_grp C) (k_key C) (k_srt C) (k_wt C) (k_home C) (k_drp C) (k_met C) (k_kin C) (k_alv C) (k_srs C) (k_row C) (k_sp C) (k_kis C) (k_pg C) (k_vq C) (k_rq C) (k_L C) (k_F C)) s.heap := hP
  have hD : va_D A (kX cI cJ cZ cV cR a (k_ra C) (k_rb C) (k_vc C) (k_rc C) (k_pc C) (k_nw C) (k_n C) (k_fn C) (k_sn C) (k_kc C) (k_grp C) (k_key C) (k_srt C) (k_wt C) (k_home C) (k_drp C) (k_met C) (k_kin C) (k_alv C) (k_srs C) (k_row C) (k_sp C) (k_kis C) (k_pg C) (k_vq C) (k_rq C) (k_L C) (k_F C)) := hD
  have hiX2 : ∀ w ∈ wsX20, w ∈ wsX2_unsee := by decide +kernel
  have hf0 := hts (.fieldLink RX2 15 "GroupCursors$Segments" "seers" "[I") (by decide +kernel)
  have hl := lv_entry ([.ref (a 8), .ref (z)]) (n := 4) (Nat.le_of_ble_eq_true rfl)
  rw [lg_entry_eq]
  generalize (lg_sl ([.ref (a 8), .ref (z)]) ++ List.replicate (4 - (lg_sl ([.ref (a 8), .ref (z)])).length) Slot.unset).toArray = ls at hl ⊢
  have hl : lv_has ls 4 [(0, .ref (a 8)), (1, .ref (z))] := hl
  refine lv_iconst (v := nI (0)) hx hb dX2_unsee_0 (by decide) ?_
  refine lv_istore_n (lv' := [(2, .int (nI (0))), (0, .ref (a 8)), (1, .ref (z))]) hx hb dX2_unsee_1 rfl hl (by decide) rfl (fun ls hl => ?_)
  refine lv_iconst (v := nI (0)) hx hb dX2_unsee_2 (by decide) ?_
  refine lv_istore_n (lv' := [(3, .int (nI (0))), (2, .int (nI (0))), (0, .ref (a 8)), (1, .ref (z))]) hx hb dX2_unsee_3 rfl hl (by decide) rfl (fun ls hl => ?_)
  have hlp4 : ∀ (d : Nat) (i : Nat) (k : Nat) (H : Heap) (locs : List Loc), n9 - i < d → (i ≤ n9) → (k = usK (k_alv C) sf (k_srs C) i) → va_P D vwCl (kX cI cJ cZ cV cR a (k_ra C) (k_rb C) (k_vc C) (k_rc C) (k_pc C) (k_nw C) (k_n C) (k_fn C) (k_sn C) (k_kc C) (k_grp C) (k_key C) (k_srt C) (k_wt C) (k_home C) (k_drp C) (k_met C) (k_kin C) (k_alv C) (usS sf (k_srs C) i) (k_row C) (k_sp C) (k_kis C) (k_pg C) (k_vq C) (k_rq C) (k_L C) (k_F C)) H → va_D A (kX cI cJ cZ cV cR a (k_ra C) (k_rb C) (k_vc C) (k_rc C) (k_pc C) (k_nw C) (k_n C) (k_fn C) (k_sn C) (k_kc C) (k_grp C) (k_key C) (k_srt C) (k_wt C) (k_home C) (k_drp C) (k_met C) (k_kin C) (k_alv C) (usS sf (k_srs C) i) (k_row C) (k_sp C) (k_kis C) (k_pg C) (k_vq C) (k_rq C) (k_L C) (k_F C)) → va_S A s.heap H locs → ∀ (ls : Array Slot), lv_has ls 4 [(0, .ref (a 8)), (1, .ref (z)), (2, .int (nI (k))), (3, .int (nI (i)))] → W p l e (headSpec wsX2_unsee rm_X2_unsee).room s m ([.ref (a 8), .ref (z)] : List Value).toArray below meth c H locs (0) (0) (MQ below (va_Qi (fun rr u => rr = nI (usK (k_alv C) sf (k_srs C) n9) ∧ u = usM C n9 sf) (fun u => GB D (tyK cI cJ cZ cV cR) A (kW cI cJ cZ cV cR a u)) A) ([.ref (a 8), .ref (z)] : List Value).toArray s 0 0 A) (F0 m 4 ls []) := by
    intro d
    induction d with
    | zero => intro i k H locs hd4; exact absurd hd4 (Nat.not_lt_zero _)
    | succ d ih4 =>
      intro i k H locs hd4 hik hk hP hD hS ls hl
      have hsi := h_srs i
      have hpi := hpos i
      have hui := usS_le (sf := sf) (srs := k_srs C) i
      have huu := (hui i).1
      have hue := (hui i).2 (Nat.le_refl _)
      have hus : ∀ j, usS sf (k_srs C) i j < 2000000000 := fun j => Nat.lt_of_le_of_lt (hui j).1 (h_srs j)
      have hkl := usK_le (alv := k_alv C) (sf := sf) (srs := k_srs C) i
      refine lv_iload_n hx hb dX2_unsee_4 rfl (lv_at hl 3 rfl) ?_
      refine lv_aload_n hx hb dX2_unsee_5 rfl (lv_at hl 1 rfl) ?_
      refine wp_len hx hb hK hP hZ.1 2 hZ.2 rfl dX2_unsee_6 ?_
      refine wn_icmp_ge (a := i) (b := n9) (tgt := 44) hx hb (nI_z (by omega)) (nI_z (by omega)) dX2_unsee_7 (by decide) (fun c7_1 => ?_) (fun c7_1 => ?_)
      · refine lv_iload_n hx hb dX2_unsee_44 rfl (lv_at hl 2 rfl) ?_
        have hPm : va_P D vwCl (kW cI cJ cZ cV cR a (mkC (k_ra C) (k_rb C) (k_vc C) (k_rc C) (k_pc C) (k_nw C) (k_n C) (k_fn C) (k_sn C) (k_kc C) (k_grp C) (k_key C) (k_srt C) (k_wt C) (k_home C) (k_drp C) (k_met C) (k_kin C) (k_alv C) (usS sf (k_srs C) i) (k_row C) (k_sp C) (k_kis C) (k_pg C) (k_vq C) (k_rq C) (k_L C) (k_F C))) H := by rw [← kX_mk]; exact hP
        have hDm : va_D A (kW cI cJ cZ cV cR a (mkC (k_ra C) (k_rb C) (k_vc C) (k_rc C) (k_pc C) (k_nw C) (k_n C) (k_fn C) (k_sn C) (k_kc C) (k_grp C) (k_key C) (k_srt C) (k_wt C) (k_home C) (k_drp C) (k_met C) (k_kin C) (k_alv C) (usS sf (k_srs C) i) (k_row C) (k_sp C) (k_kis C) (k_pg C) (k_vq C) (k_rq C) (k_L C) (k_F C))) := by rw [← kX_mk]; exact hD
        exact W.iret (v := nI (k)) hx hb hr (fun t ht hW => ⟨⟨_, (mkC (k_ra C) (k_rb C) (k_vc C) (k_rc C) (k_pc C) (k_nw C) (k_n C) (k_fn C) (k_sn C) (k_kc C) (k_grp C) (k_key C) (k_srt C) (k_wt C) (k_home C) (k_drp C) (k_met C) (k_kin C) (k_alv C) (usS sf (k_srs C) i) (k_row C) (k_sp C) (k_kis C) (k_pg C) (k_vq C) (k_rq C) (k_L C) (k_F C)), rfl, ⟨by rw [hk, (show i = n9 by omega)], by rw [usM, ← (show i = n9 by omega)]⟩, gb_mk ht hW hPm hK hDm⟩, hS.F ht⟩) hS.2.2 dX2_unsee_45
      · refine lv_aload_n hx hb dX2_unsee_10 rfl (lv_at hl 1 rfl) ?_
        refine lv_iload_n hx hb dX2_unsee_11 rfl (lv_at hl 3 rfl) ?_
        refine wp_z (i := i) (v := bI (sf i)) hx hb hK hP hZ.1 2 hZ.2 rfl rfl (by omega) (by omega) dX2_unsee_12 ?_
        refine wb_if_eq (tgt := 38) hx hb dX2_unsee_13 (by decide) (fun c13_2 => ?_) (fun c13_2 => ?_)
        · refine lv_iinc (v := nI (i + 1)) (lv' := [(3, .int (nI (i + 1))), (0, .ref (a 8)), (1, .ref (z)), (2, .int (nI (k)))]) hx hb dX2_unsee_38 hl (k := 3) rfl (nI_inc _) (by decide) rfl (fun ls hl => ?_)
          refine lv_goto (tgt := 4) hx hb dX2_unsee_41 (by decide) ?_
          have e2 : usS sf (k_srs C) i = usS sf (k_srs C) (i + 1) := by simp only [usS]; rw [if_neg (by rw [c13_2]; decide)]
          rw [e2] at hP hD
          exact ih4 (i + 1) (k) _ _ (by omega) (by omega) (by simp only [usK, c13_2]; simpa using hk) hP hD hS ls (lv_sub hl [1, 2, 3, 0] rfl)
        · have hps := hpi (by omega) c13_2
          refine lv_aload_n hx hb dX2_unsee_16 rfl (lv_at hl 0 rfl) ?_
          refine va_get (ci := 2) (v := .ref (a 10)) (C := RX2) (T := TX2) (N := 3) hx hb hts hiX2 hown hK hP 8 rfl rfl 1 (by decide) hf0 (fun _ h9 => h9) rfl dX2_unsee_17 ?_
          refine lv_iload_n hx hb dX2_unsee_20 rfl (lv_at hl 3 rfl) ?_
          refine lv_dup2_11 hx hb dX2_unsee_21 rfl rfl ?_
          refine wa_i (i := i) (v := nI ((usS sf (k_srs C) i) i)) hx hb hK hP 10 0 rfl rfl rfl (by omega) (by decide) dX2_unsee_22 ?_
          refine lv_iconst (v := nI (1)) hx hb dX2_unsee_23 (by decide) ?_
          refine lv_isub hx hb dX2_unsee_24 (ww_top (y := nI ((usS sf (k_srs C) i) i - 1)) (pk_sub (by omega)) ?_)
          refine wa_ist (i := i) hx hb hK hP hD hS 10 0 rfl rfl (upd_nI (usS sf (k_srs C) i) (i) ((usS sf (k_srs C) i) i - 1)) (by omega) (by decide) dX2_unsee_25 (fun H locs hP hD hS => ?_)
          have hP : va_P D vwCl (kX cI cJ cZ cV cR a (k_ra C) (k_rb C) (k_vc C) (k_rc C) (k_pc C) (k_nw C) (k_n C) (k_fn C) (k_sn C) (k_kc C) (k_grp C) (k_key C) (k_srt C) (k_wt C) (k_home C) (k_drp C) (k_met C) (k_kin C) (k_alv C) (va_up (usS sf (k_srs C) i) (i) ((usS sf (k_srs C) i) i - 1)) (k_row C) (k_sp C) (k_kis C) (k_pg C) (k_vq C) (k_rq C) (k_L C) (k_F C)) H := hP
          have hD : va_D A (kX cI cJ cZ cV cR a (k_ra C) (k_rb C) (k_vc C) (k_rc C) (k_pc C) (k_nw C) (k_n C) (k_fn C) (k_sn C) (k_kc C) (k_grp C) (k_key C) (k_srt C) (k_wt C) (k_home C) (k_drp C) (k_met C) (k_kin C) (k_alv C) (va_up (usS sf (k_srs C) i) (i) ((usS sf (k_srs C) i) i - 1)) (k_row C) (k_sp C) (k_kis C) (k_pg C) (k_vq C) (k_rq C) (k_L C) (k_F C)) := hD
          have e2 : va_up (usS sf (k_srs C) i) (i) ((usS sf (k_srs C) i) i - 1) = usS sf (k_srs C) (i + 1) := by simp only [usS]; rw [if_pos c13_2]
          have hus2 : ∀ j, (va_up (usS sf (k_srs C) i) (i) ((usS sf (k_srs C) i) i - 1)) j < 2000000000 := by rw [e2]; exact fun j => Nat.lt_of_le_of_lt (usS_le (i + 1) j).1 (h_srs j)
          refine lv_aload_n hx hb dX2_unsee_26 rfl (lv_at hl 0 rfl) ?_
          refine lv_iload_n hx hb dX2_unsee_27 rfl (lv_at hl 3 rfl) ?_
          have hPm : va_P D vwCl (kW cI cJ cZ cV cR a (mkC (k_ra C) (k_rb C) (k_vc C) (k_rc C) (k_pc C) (k_nw C) (k_n C) (k_fn C) (k_sn C) (k_kc C) (k_grp C) (k_key C) (k_srt C) (k_wt C) (k_home C) (k_drp C) (k_met C) (k_kin C) (k_alv C) (va_up (usS sf (k_srs C) i) (i) ((usS sf (k_srs C) i) i - 1)) (k_row C) (k_sp C) (k_kis C) (k_pg C) (k_vq C) (k_rq C) (k_L C) (k_F C))) H := by rw [← kX_mk]; exact hP
          refine wc_Vi (As := [.int (nI (i))]) (rest := []) ⟨hx, hb, hml, hown, hts⟩ (c_X2_stateOf l D cI cJ cZ cV cR a (mkC (k_ra C) (k_rb C) (k_vc C) (k_rc C) (k_pc C) (k_nw C) (k_n C) (k_fn C) (k_sn C) (k_kc C) (k_grp C) (k_key C) (k_srt C) (k_wt C) (k_home C) (k_drp C) (k_met C) (k_kin C) (k_alv C) (va_up (usS sf (k_srs C) i) (i) ((usS sf (k_srs C) i) i - 1)) (k_row C) (k_sp C) (k_kis C) (k_pg C) (k_vq C) (k_rq C) (k_L C) (k_F C)) (ok_srs hM hus2) (i) (by omega)) (cwV 1 hts gX2_unsee_X2_stateOf rfl rfl rfl (by decide +kernel) ⟨Nat.le_of_ble_eq_true rfl, Nat.le_of_ble_eq_true rfl⟩) hPm hK 8 rfl rfl rfl hl.1 rfl (Nat.le_of_ble_eq_true rfl) dX2_unsee_28 ⟨Nat.zero_le _, Nat.zero_le _⟩ (fun rr hq3 => ?_)
          have hq3 : rr = nI (ssF (k_alv C) (va_up (usS sf (k_srs C) i) (i) ((usS sf (k_srs C) i) i - 1)) i) := hq3
          subst hq3
          have hle4 : ssF (k_alv C) (va_up (usS sf (k_srs C) i) (i) ((usS sf (k_srs C) i) i - 1)) i ≤ 2 := ssF_le _ _ _
          refine lv_iconst (v := nI (2)) hx hb dX2_unsee_31 (by decide) ?_
          refine wn_icmp_ne (a := ssF (k_alv C) (va_up (usS sf (k_srs C) i) (i) ((usS sf (k_srs C) i) i - 1)) i) (b := 2) (tgt := 38) hx hb (nI_z (by omega)) (nI_z (by omega)) dX2_unsee_32 (by decide) (fun c32_5 => ?_) (fun c32_5 => ?_)
          · refine lv_iinc (v := nI (i + 1)) (lv' := [(3, .int (nI (i + 1))), (0, .ref (a 8)), (1, .ref (z)), (2, .int (nI (k)))]) hx hb dX2_unsee_38 hl (k := 3) rfl (nI_inc _) (by decide) rfl (fun ls hl => ?_)
            refine lv_goto (tgt := 4) hx hb dX2_unsee_41 (by decide) ?_
            rw [e2] at hP hD
            exact ih4 (i + 1) (k) _ _ (by omega) (by omega) (by simp only [usK]; rw [if_neg (by rw [← e2, c13_2, Bool.true_and]; exact fun h => c32_5 (of_decide_eq_true h)), Nat.add_zero, hk]) hP hD hS ls (lv_sub hl [1, 2, 3, 0] rfl)
          · refine lv_iinc (v := nI (k + 1)) (lv' := [(2, .int (nI (k + 1))), (0, .ref (a 8)), (1, .ref (z)), (3, .int (nI (i)))]) hx hb dX2_unsee_35 hl (k := 2) rfl (nI_inc _) (by decide) rfl (fun ls hl => ?_)
            refine lv_iinc (v := nI (i + 1)) (lv' := [(3, .int (nI (i + 1))), (2, .int (nI (k + 1))), (0, .ref (a 8)), (1, .ref (z))]) hx hb dX2_unsee_38 hl (k := 3) rfl (nI_inc _) (by decide) rfl (fun ls hl => ?_)
            refine lv_goto (tgt := 4) hx hb dX2_unsee_41 (by decide) ?_
            rw [e2] at hP hD
            exact ih4 (i + 1) (k + 1) _ _ (by omega) (by omega) (by simp only [usK]; rw [if_pos (by rw [← e2, c13_2, Bool.true_and]; exact decide_eq_true c32_5), hk]) hP hD hS ls (lv_sub hl [2, 3, 1, 0] rfl)
  exact hlp4 _ (0) (0) _ _ (Nat.lt_succ_self _) (Nat.zero_le _) (rfl) hP hD hS ls (lv_sub hl [2, 3, 1, 0] rfl)
