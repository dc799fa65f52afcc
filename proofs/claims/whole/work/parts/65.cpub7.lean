def rm_X5_countViewsGoingOn : Room := { frames := 1, cells := 0, slots := 0, locals := 22 }
set_option maxHeartbeats 4000000 in
set_option maxRecDepth 100000 in
/-- how many views have not ended -/
theorem c_X5_countViewsGoingOn (l : Launch) (D : va_G) (cI cJ cZ cV cR : ClassId) (a : Nat → Nat) (C : CT) (hM : kOk C) (VT : Nat → VRec) (RT : Nat → RRec) (hPR : PR cI cZ C VT RT) (sz : Nat) : Met l yX5_countViewsGoingOn wsX5_countViewsGoingOn rm_X5_countViewsGoingOn (va_Pc [.ref (a 0)] (GW D (tyK cI cJ cZ cV cR) (kW cI cJ cZ cV cR a C) sz)) (va_Qi (fun rr u => rr = nI (cnt (stGo VT) (k_vc C)) ∧ u = C) (fun u => GB D (tyK cI cJ cZ cV cR) (va_A (kW cI cJ cZ cV cR a C) sz) (kW cI cJ cZ cV cR a u)) (va_A (kW cI cJ cZ cV cR a C) sz)) 0 0 (va_A (kW cI cJ cZ cV cR a C) sz) := by
  obtain ⟨hn, hfn, hsn, hvc, hrc, hpc, hnw, hkc, h_home, h_kin, h_alv, h_srs, h_row, h_sp, h_kis, h_pg⟩ := id hM
  refine Met.ofW (cc := cX5_countViewsGoingOn) (maxL := 3) (ret := (some .int)) (by decide) rfl ?_
  intro p e s m args below meth c s₁ B hml hv
  obtain ⟨rfl, hsz, hP, hK, hD0⟩ := hv
  have hx := B.exec
  have hb := B.bytes
  have hr := B.returns
  have hts := atoms_spec (ws := wsX5_countViewsGoingOn) B.pre
  have hown : s.vm.findClass RX5 = some m.cls := findClass_of_methodNamed B.named
  have hlocks := B.notSynchronized
  subst hsz
  have hD := hD0.self (sz := s.heap.size)
  generalize hAe : va_A (kW cI cJ cZ cV cR a C) s.heap.size = A at hD ⊢
  have hA : ∀ q : Nat, s.heap.size ≤ q → A q := fun q h => by rw [← hAe]; exact Or.inr h
  have hS : va_S A s.heap s.heap [] := va_S.rf
  have hP : va_P D vwCl (kX cI cJ cZ cV cR a (k_ra C) (k_rb C) (k_vc C) (k_rc C) (k_pc C) (k_nw C) (k_n C) (k_fn C) (k_sn C) (k_kc C) (k_grp C) (k_key C) (k_srt C) (k_wt C) (k_home C) (k_drp C) (k_met C) (k_kin C) (k_alv C) (k_srs C) (k_row C) (k_sp C) (k_kis C) (k_pg C) (k_vq C) (k_rq C) (k_L C) (k_F C)) s.heap := hP
  have hD : va_D A (kX cI cJ cZ cV cR a (k_ra C) (k_rb C) (k_vc C) (k_rc C) (k_pc C) (k_nw C) (k_n C) (k_fn C) (k_sn C) (k_kc C) (k_grp C) (k_key C) (k_srt C) (k_wt C) (k_home C) (k_drp C) (k_met C) (k_kin C) (k_alv C) (k_srs C) (k_row C) (k_sp C) (k_kis C) (k_pg C) (k_vq C) (k_rq C) (k_L C) (k_F C)) := hD
  have hiX5 : ∀ w ∈ wsX50, w ∈ wsX5_countViewsGoingOn := by decide +kernel
  have hiX4 : ∀ w ∈ wsX40, w ∈ wsX5_countViewsGoingOn := by decide +kernel
  have hf0 := hts (.fieldLink RX5 38 "GroupCursors" "viewCount" "I") (by decide +kernel)
  have hf1 := hts (.fieldLink RX5 157 "GroupCursors$View" "state" "I") (by decide +kernel)
  have hl := lv_entry ([.ref (a 0)]) (n := 3) (Nat.le_of_ble_eq_true rfl)
  rw [lg_entry_eq]
  generalize (lg_sl ([.ref (a 0)]) ++ List.replicate (3 - (lg_sl ([.ref (a 0)])).length) Slot.unset).toArray = ls at hl ⊢
  have hl : lv_has ls 3 [(0, .ref (a 0))] := hl
  refine lv_iconst (v := nI (0)) hx hb dX5_countViewsGoingOn_0 (by decide) ?_
  refine lv_istore_n (lv' := [(1, .int (nI (0))), (0, .ref (a 0))]) hx hb dX5_countViewsGoingOn_1 rfl hl (by decide) rfl (fun ls hl => ?_)
  refine lv_iconst (v := nI (0)) hx hb dX5_countViewsGoingOn_2 (by decide) ?_
  refine lv_istore_n (lv' := [(2, .int (nI (0))), (1, .int (nI (0))), (0, .ref (a 0))]) hx hb dX5_countViewsGoingOn_3 rfl hl (by decide) rfl (fun ls hl => ?_)
  have hlp4 : ∀ (d : Nat) (i : Nat) (k : Nat) (H : Heap) (locs : List Loc), k_vc C - i < d → (i ≤ k_vc C) → (k = cnt (stGo VT) i) → va_P D vwCl (kX cI cJ cZ cV cR a (k_ra C) (k_rb C) (k_vc C) (k_rc C) (k_pc C) (k_nw C) (k_n C) (k_fn C) (k_sn C) (k_kc C) (k_grp C) (k_key C) (k_srt C) (k_wt C) (k_home C) (k_drp C) (k_met C) (k_kin C) (k_alv C) (k_srs C) (k_row C) (k_sp C) (k_kis C) (k_pg C) (k_vq C) (k_rq C) (k_L C) (k_F C)) H → va_D A (kX cI cJ cZ cV cR a (k_ra C) (k_rb C) (k_vc C) (k_rc C) (k_pc C) (k_nw C) (k_n C) (k_fn C) (k_sn C) (k_kc C) (k_grp C) (k_key C) (k_srt C) (k_wt C) (k_home C) (k_drp C) (k_met C) (k_kin C) (k_alv C) (k_srs C) (k_row C) (k_sp C) (k_kis C) (k_pg C) (k_vq C) (k_rq C) (k_L C) (k_F C)) → va_S A s.heap H locs → ∀ (ls : Array Slot), lv_has ls 3 [(0, .ref (a 0)), (1, .int (nI (k))), (2, .int (nI (i)))] → W p l e (headSpec wsX5_countViewsGoingOn rm_X5_countViewsGoingOn).room s m ([.ref (a 0)] : List Value).toArray below meth c H locs (0) (0) (MQ below (va_Qi (fun rr u => rr = nI (cnt (stGo VT) (k_vc C)) ∧ u = C) (fun u => GB D (tyK cI cJ cZ cV cR) A (kW cI cJ cZ cV cR a u)) A) ([.ref (a 0)] : List Value).toArray s 0 0 A) (F0 m 4 ls []) := by
    intro d
    induction d with
    | zero => intro i k H locs hd4; exact absurd hd4 (Nat.not_lt_zero _)
    | succ d ih4 =>
      intro i k H locs hd4 hik hk hP hD hS ls hl
      have hcl := cnt_le (stGo VT) i
      refine lv_iload_n hx hb dX5_countViewsGoingOn_4 rfl (lv_at hl 2 rfl) ?_
      refine lv_aload_n hx hb dX5_countViewsGoingOn_5 rfl (lv_at hl 0 rfl) ?_
      refine va_get (ci := 5) (v := .int (nI (k_vc C))) (C := RX5) (T := TX5) (N := 10) hx hb hts hiX5 hown hK hP 0 rfl rfl 4 (by decide) hf0 (fun _ h9 => h9) rfl dX5_countViewsGoingOn_6 ?_
      refine wn_icmp_ge (a := i) (b := k_vc C) (tgt := 33) hx hb (nI_z (by omega)) (nI_z (by omega)) dX5_countViewsGoingOn_9 (by decide) (fun c9_1 => ?_) (fun c9_1 => ?_)
      · refine lv_iload_n hx hb dX5_countViewsGoingOn_33 rfl (lv_at hl 1 rfl) ?_
        have hPm : va_P D vwCl (kW cI cJ cZ cV cR a C) H := by exact hP
        have hDm : va_D A (kW cI cJ cZ cV cR a C) := by exact hD
        exact W.iret (v := nI (k)) hx hb hr (fun t ht hW => ⟨⟨_, C, rfl, ⟨by rw [hk, (show i = k_vc C by omega)], rfl⟩, gb_mk ht hW hPm hK hDm⟩, hS.F ht⟩) hS.2.2 dX5_countViewsGoingOn_34
      · obtain ⟨hq9, hV, hI, hZ, hb1, hb2, hb3, hb4, hb5, hb6, hb7⟩ := hPR.1 i (by omega)
        refine lv_aload_n hx hb dX5_countViewsGoingOn_12 rfl (lv_at hl 0 rfl) ?_
        refine lv_iload_n hx hb dX5_countViewsGoingOn_13 rfl (lv_at hl 2 rfl) ?_
        have hPm : va_P D vwCl (kW cI cJ cZ cV cR a C) H := by exact hP
        have hDm : va_D A (kW cI cJ cZ cV cR a C) := by exact hD
        refine wc_VWr (As := [.int (nI (i))]) (rest := []) (ra := Prod.fst) (wf := fun u => kW cI cJ cZ cV cR a u.2) ⟨hx, hb, hml, hown, hts⟩ (c_X5_viewAt l D cI cJ cZ cV cR a C hM (i) ((VT i).q) (by omega) hq9 H.size) (cwV 1 hts gX5_countViewsGoingOn_X5_viewAt rfl rfl rfl (by decide +kernel) ⟨Nat.le_of_ble_eq_true rfl, Nat.le_of_ble_eq_true rfl⟩) hPm hK hDm hS hA 0 rfl rfl rfl hl.1 rfl (Nat.le_of_ble_eq_true rfl) dX5_countViewsGoingOn_14 ⟨Nat.le_of_ble_eq_true rfl, Nat.le_of_ble_eq_true rfl⟩ (fun u2 hq2 H locs hP hD hS => ?_)
        have hu2 := hq2
        subst hu2
        have hP : va_P D vwCl (kX cI cJ cZ cV cR a (k_ra C) (k_rb C) (k_vc C) (k_rc C) (k_pc C) (k_nw C) (k_n C) (k_fn C) (k_sn C) (k_kc C) (k_grp C) (k_key C) (k_srt C) (k_wt C) (k_home C) (k_drp C) (k_met C) (k_kin C) (k_alv C) (k_srs C) (k_row C) (k_sp C) (k_kis C) (k_pg C) (k_vq C) (k_rq C) (k_L C) (k_F C)) H := hP
        have hD : va_D A (kX cI cJ cZ cV cR a (k_ra C) (k_rb C) (k_vc C) (k_rc C) (k_pc C) (k_nw C) (k_n C) (k_fn C) (k_sn C) (k_kc C) (k_grp C) (k_key C) (k_srt C) (k_wt C) (k_home C) (k_drp C) (k_met C) (k_kin C) (k_alv C) (k_srs C) (k_row C) (k_sp C) (k_kis C) (k_pg C) (k_vq C) (k_rq C) (k_L C) (k_F C)) := hD
        refine wp_get (ci := 4) (v := .int (nI ((VT i).st))) (C := RX4) (T := TX4) (N := 6) hx hb hts hiX4 hown hK hP hV.1 hV.2 rfl 4 (by decide) hf1 (fun _ h9 => h9) rfl dX5_countViewsGoingOn_17 ?_
        refine lv_iconst (v := nI (2)) hx hb dX5_countViewsGoingOn_20 (by decide) ?_
        refine wn_icmp_eq (a := (VT i).st) (b := 2) (tgt := 27) hx hb (nI_z (by omega)) (nI_z (by omega)) dX5_countViewsGoingOn_21 (by decide) (fun c21_3 => ?_) (fun c21_3 => ?_)
        · refine lv_iinc (v := nI (i + 1)) (lv' := [(2, .int (nI (i + 1))), (0, .ref (a 0)), (1, .int (nI (k)))]) hx hb dX5_countViewsGoingOn_27 hl (k := 2) rfl (nI_inc _) (by decide) rfl (fun ls hl => ?_)
          refine lv_goto (tgt := 4) hx hb dX5_countViewsGoingOn_30 (by decide) ?_
          exact ih4 (i + 1) (k) _ _ (by omega) (by omega) (cnt_f hk (decide_eq_false (fun h => h c21_3))) hP hD hS ls (lv_sub hl [1, 2, 0] rfl)
        · refine lv_iinc (v := nI (k + 1)) (lv' := [(1, .int (nI (k + 1))), (0, .ref (a 0)), (2, .int (nI (i)))]) hx hb dX5_countViewsGoingOn_24 hl (k := 1) rfl (nI_inc _) (by decide) rfl (fun ls hl => ?_)
          refine lv_iinc (v := nI (i + 1)) (lv' := [(2, .int (nI (i + 1))), (1, .int (nI (k + 1))), (0, .ref (a 0))]) hx hb dX5_countViewsGoingOn_27 hl (k := 2) rfl (nI_inc _) (by decide) rfl (fun ls hl => ?_)
          refine lv_goto (tgt := 4) hx hb dX5_countViewsGoingOn_30 (by decide) ?_
          exact ih4 (i + 1) (k + 1) _ _ (by omega) (by omega) (cnt_t hk (decide_eq_true c21_3)) hP hD hS ls (lv_sub hl [2, 1, 0] rfl)
  exact hlp4 _ (0) (0) _ _ (Nat.lt_succ_self _) (Nat.zero_le _) (rfl) hP hD hS ls (lv_sub hl [2, 1, 0] rfl)
def rm_X5_countReadersGoingOn : Room := { frames := 1, cells := 0, slots := 0, locals := 22 }
set_option maxHeartbeats 4000000 in
set_option maxRecDepth 100000 in
/-- how many readers have not ended -/
theorem c_X5_countReadersGoingOn (l : Launch) (D : va_G) (cI cJ cZ cV cR : ClassId) (a : Nat → Nat) (C : CT) (hM : kOk C) (VT : Nat → VRec) (RT : Nat → RRec) (hPR : PR cI cZ C VT RT) (sz : Nat) : Met l yX5_countReadersGoingOn wsX5_countReadersGoingOn rm_X5_countReadersGoingOn (va_Pc [.ref (a 0)] (GW D (tyK cI cJ cZ cV cR) (kW cI cJ cZ cV cR a C) sz)) (va_Qi (fun rr u => rr = nI (cnt (rdGo RT) (k_rc C)) ∧ u = C) (fun u => GB D (tyK cI cJ cZ cV cR) (va_A (kW cI cJ cZ cV cR a C) sz) (kW cI cJ cZ cV cR a u)) (va_A (kW cI cJ cZ cV cR a C) sz)) 0 0 (va_A (kW cI cJ cZ cV cR a C) sz) := by
  obtain ⟨hn, hfn, hsn, hvc, hrc, hpc, hnw, hkc, h_home, h_kin, h_alv, h_srs, h_row, h_sp, h_kis, h_pg⟩ := id hM
  refine Met.ofW (cc := cX5_countReadersGoingOn) (maxL := 3) (ret := (some .int)) (by decide) rfl ?_
  intro p e s m args below meth c s₁ B hml hv
  obtain ⟨rfl, hsz, hP, hK, hD0⟩ := hv
  have hx := B.exec
  have hb := B.bytes
  have hr := B.returns
  have hts := atoms_spec (ws := wsX5_countReadersGoingOn) B.pre
  have hown : s.vm.findClass RX5 = some m.cls := findClass_of_methodNamed B.named
  have hlocks := B.notSynchronized
  subst hsz
  have hD := hD0.self (sz := s.heap.size)
  generalize hAe : va_A (kW cI cJ cZ cV cR a C) s.heap.size = A at hD ⊢
  have hA : ∀ q : Nat, s.heap.size ≤ q → A q := fun q h => by rw [← hAe]; exact Or.inr h
  have hS : va_S A s.heap s.heap [] := va_S.rf
  have hP : va_P D vwCl (kX cI cJ cZ cV cR a (k_ra C) (k_rb C) (k_vc C) (k_rc C) (k_pc C) (k_nw C) (k_n C) (k_fn C) (k_sn C) (k_kc C) (k_grp C) (k_key C) (k_srt C) (k_wt C) (k_home C) (k_drp C) (k_met C) (k_kin C) (k_alv C) (k_srs C) (k_row C) (k_sp C) (k_kis C) (k_pg C) (k_vq C) (k_rq C) (k_L C) (k_F C)) s.heap := hP
  have hD : va_D A (kX cI cJ cZ cV cR a (k_ra C) (k_rb C) (k_vc C) (k_rc C) (k_pc C) (k_nw C) (k_n C) (k_fn C) (k_sn C) (k_kc C) (k_grp C) (k_key C) (k_srt C) (k_wt C) (k_home C) (k_drp C) (k_met C) (k_kin C) (k_alv C) (k_srs C) (k_row C) (k_sp C) (k_kis C) (k_pg C) (k_vq C) (k_rq C) (k_L C) (k_F C)) := hD
  have hiX5 : ∀ w ∈ wsX50, w ∈ wsX5_countReadersGoingOn := by decide +kernel
  have hiX1 : ∀ w ∈ wsX10, w ∈ wsX5_countReadersGoingOn := by decide +kernel
  have hf0 := hts (.fieldLink RX5 48 "GroupCursors" "readerCount" "I") (by decide +kernel)
  have hf1 := hts (.fieldLink RX5 237 "GroupCursors$Reader" "ended" "Z") (by decide +kernel)
  have hl := lv_entry ([.ref (a 0)]) (n := 3) (Nat.le_of_ble_eq_true rfl)
  rw [lg_entry_eq]
  generalize (lg_sl ([.ref (a 0)]) ++ List.replicate (3 - (lg_sl ([.ref (a 0)])).length) Slot.unset).toArray = ls at hl ⊢
  have hl : lv_has ls 3 [(0, .ref (a 0))] := hl
  refine lv_iconst (v := nI (0)) hx hb dX5_countReadersGoingOn_0 (by decide) ?_
  refine lv_istore_n (lv' := [(1, .int (nI (0))), (0, .ref (a 0))]) hx hb dX5_countReadersGoingOn_1 rfl hl (by decide) rfl (fun ls hl => ?_)
  refine lv_iconst (v := nI (0)) hx hb dX5_countReadersGoingOn_2 (by decide) ?_
  refine lv_istore_n (lv' := [(2, .int (nI (0))), (1, .int (nI (0))), (0, .ref (a 0))]) hx hb dX5_countReadersGoingOn_3 rfl hl (by decide) rfl (fun ls hl => ?_)
  have hlp4 : ∀ (d : Nat) (i : Nat) (k : Nat) (H : Heap) (locs : List Loc), k_rc C - i < d → (i ≤ k_rc C) → (k = cnt (rdGo RT) i) → va_P D vwCl (kX cI cJ cZ cV cR a (k_ra C) (k_rb C) (k_vc C) (k_rc C) (k_pc C) (k_nw C) (k_n C) (k_fn C) (k_sn C) (k_kc C) (k_grp C) (k_key C) (k_srt C) (k_wt C) (k_home C) (k_drp C) (k_met C) (k_kin C) (k_alv C) (k_srs C) (k_row C) (k_sp C) (k_kis C) (k_pg C) (k_vq C) (k_rq C) (k_L C) (k_F C)) H → va_D A (kX cI cJ cZ cV cR a (k_ra C) (k_rb C) (k_vc C) (k_rc C) (k_pc C) (k_nw C) (k_n C) (k_fn C) (k_sn C) (k_kc C) (k_grp C) (k_key C) (k_srt C) (k_wt C) (k_home C) (k_drp C) (k_met C) (k_kin C) (k_alv C) (k_srs C) (k_row C) (k_sp C) (k_kis C) (k_pg C) (k_vq C) (k_rq C) (k_L C) (k_F C)) → va_S A s.heap H locs → ∀ (ls : Array Slot), lv_has ls 3 [(0, .ref (a 0)), (1, .int (nI (k))), (2, .int (nI (i)))] → W p l e (headSpec wsX5_countReadersGoingOn rm_X5_countReadersGoingOn).room s m ([.ref (a 0)] : List Value).toArray below meth c H locs (0) (0) (MQ below (va_Qi (fun rr u => rr = nI (cnt (rdGo RT) (k_rc C)) ∧ u = C) (fun u => GB D (tyK cI cJ cZ cV cR) A (kW cI cJ cZ cV cR a u)) A) ([.ref (a 0)] : List Value).toArray s 0 0 A) (F0 m 4 ls []) := by
    intro d
    induction d with
    | zero => intro i k H locs hd4; exact absurd hd4 (Nat.not_lt_zero _)
    | succ d ih4 =>
      intro i k H locs hd4 hik hk hP hD hS ls hl
      have hcl := cnt_le (rdGo RT) i
      refine lv_iload_n hx hb dX5_countReadersGoingOn_4 rfl (lv_at hl 2 rfl) ?_
      refine lv_aload_n hx hb dX5_countReadersGoingOn_5 rfl (lv_at hl 0 rfl) ?_
      refine va_get (ci := 5) (v := .int (nI (k_rc C))) (C := RX5) (T := TX5) (N := 10) hx hb hts hiX5 hown hK hP 0 rfl rfl 6 (by decide) hf0 (fun _ h9 => h9) rfl dX5_countReadersGoingOn_6 ?_
      refine wn_icmp_ge (a := i) (b := k_rc C) (tgt := 32) hx hb (nI_z (by omega)) (nI_z (by omega)) dX5_countReadersGoingOn_9 (by decide) (fun c9_1 => ?_) (fun c9_1 => ?_)
      · refine lv_iload_n hx hb dX5_countReadersGoingOn_32 rfl (lv_at hl 1 rfl) ?_
        have hPm : va_P D vwCl (kW cI cJ cZ cV cR a C) H := by exact hP
        have hDm : va_D A (kW cI cJ cZ cV cR a C) := by exact hD
        exact W.iret (v := nI (k)) hx hb hr (fun t ht hW => ⟨⟨_, C, rfl, ⟨by rw [hk, (show i = k_rc C by omega)], rfl⟩, gb_mk ht hW hPm hK hDm⟩, hS.F ht⟩) hS.2.2 dX5_countReadersGoingOn_33
      · obtain ⟨hq9, hR, hI, hv9, hbb⟩ := hPR.2.1 i (by omega)
        refine lv_aload_n hx hb dX5_countReadersGoingOn_12 rfl (lv_at hl 0 rfl) ?_
        refine lv_iload_n hx hb dX5_countReadersGoingOn_13 rfl (lv_at hl 2 rfl) ?_
        have hPm : va_P D vwCl (kW cI cJ cZ cV cR a C) H := by exact hP
        have hDm : va_D A (kW cI cJ cZ cV cR a C) := by exact hD
        refine wc_VWr (As := [.int (nI (i))]) (rest := []) (ra := Prod.fst) (wf := fun u => kW cI cJ cZ cV cR a u.2) ⟨hx, hb, hml, hown, hts⟩ (c_X5_readerAt l D cI cJ cZ cV cR a C hM (i) ((RT i).q) (by omega) hq9 H.size) (cwV 1 hts gX5_countReadersGoingOn_X5_readerAt rfl rfl rfl (by decide +kernel) ⟨Nat.le_of_ble_eq_true rfl, Nat.le_of_ble_eq_true rfl⟩) hPm hK hDm hS hA 0 rfl rfl rfl hl.1 rfl (Nat.le_of_ble_eq_true rfl) dX5_countReadersGoingOn_14 ⟨Nat.le_of_ble_eq_true rfl, Nat.le_of_ble_eq_true rfl⟩ (fun u2 hq2 H locs hP hD hS => ?_)
        have hu2 := hq2
        subst hu2
        have hP : va_P D vwCl (kX cI cJ cZ cV cR a (k_ra C) (k_rb C) (k_vc C) (k_rc C) (k_pc C) (k_nw C) (k_n C) (k_fn C) (k_sn C) (k_kc C) (k_grp C) (k_key C) (k_srt C) (k_wt C) (k_home C) (k_drp C) (k_met C) (k_kin C) (k_alv C) (k_srs C) (k_row C) (k_sp C) (k_kis C) (k_pg C) (k_vq C) (k_rq C) (k_L C) (k_F C)) H := hP
        have hD : va_D A (kX cI cJ cZ cV cR a (k_ra C) (k_rb C) (k_vc C) (k_rc C) (k_pc C) (k_nw C) (k_n C) (k_fn C) (k_sn C) (k_kc C) (k_grp C) (k_key C) (k_srt C) (k_wt C) (k_home C) (k_drp C) (k_met C) (k_kin C) (k_alv C) (k_srs C) (k_row C) (k_sp C) (k_kis C) (k_pg C) (k_vq C) (k_rq C) (k_L C) (k_F C)) := hD
        refine wp_get (ci := 1) (v := .int (bI ((RT i).ed))) (C := RX1) (T := TX1) (N := 7) hx hb hts hiX1 hown hK hP hR.1 hR.2 rfl 6 (by decide) hf1 (fun _ h9 => h9) rfl dX5_countReadersGoingOn_17 ?_
        refine wb_if_ne (tgt := 26) hx hb dX5_countReadersGoingOn_20 (by decide) (fun c20_3 => ?_) (fun c20_3 => ?_)
        · refine lv_iinc (v := nI (i + 1)) (lv' := [(2, .int (nI (i + 1))), (0, .ref (a 0)), (1, .int (nI (k)))]) hx hb dX5_countReadersGoingOn_26 hl (k := 2) rfl (nI_inc _) (by decide) rfl (fun ls hl => ?_)
          refine lv_goto (tgt := 4) hx hb dX5_countReadersGoingOn_29 (by decide) ?_
          exact ih4 (i + 1) (k) _ _ (by omega) (by omega) (cnt_f hk (by show (!(RT i).ed) = false; rw [c20_3]; rfl)) hP hD hS ls (lv_sub hl [1, 2, 0] rfl)
        · refine lv_iinc (v := nI (k + 1)) (lv' := [(1, .int (nI (k + 1))), (0, .ref (a 0)), (2, .int (nI (i)))]) hx hb dX5_countReadersGoingOn_23 hl (k := 1) rfl (nI_inc _) (by decide) rfl (fun ls hl => ?_)
          refine lv_iinc (v := nI (i + 1)) (lv' := [(2, .int (nI (i + 1))), (1, .int (nI (k + 1))), (0, .ref (a 0))]) hx hb dX5_countReadersGoingOn_26 hl (k := 2) rfl (nI_inc _) (by decide) rfl (fun ls hl => ?_)
          refine lv_goto (tgt := 4) hx hb dX5_countReadersGoingOn_29 (by decide) ?_
          exact ih4 (i + 1) (k + 1) _ _ (by omega) (by omega) (cnt_t hk (by show (!(RT i).ed) = true; rw [c20_3]; rfl)) hP hD hS ls (lv_sub hl [2, 1, 0] rfl)
  exact hlp4 _ (0) (0) _ _ (Nat.lt_succ_self _) (Nat.zero_le _) (rfl) hP hD hS ls (lv_sub hl [2, 1, 0] rfl)
def rm_X5_told : Room := { frames := 2, cells := 0, slots := 0, locals := 44 }
set_option maxHeartbeats 4000000 in
set_option maxRecDepth 100000 in
/-- what is told -/
theorem c_X5_told (l : Launch) (D : va_G) (cI cJ cZ cV cR : ClassId) (a : Nat → Nat) (C : CT) (hM : kOk C) (VT : Nat → VRec) (RT : Nat → RRec) (hPR : PR cI cZ C VT RT) (w9 : Nat) (hw9 : w9 < 12) (sz : Nat) : Met l yX5_told wsX5_told rm_X5_told (va_Pc [.ref (a 0), .int (nI (w9))] (GW D (tyK cI cJ cZ cV cR) (kW cI cJ cZ cV cR a C) sz)) (va_Qi (fun rr u => rr = nI (tldC C VT RT w9) ∧ u = C) (fun u => GB D (tyK cI cJ cZ cV cR) (va_A (kW cI cJ cZ cV cR a C) sz) (kW cI cJ cZ cV cR a u)) (va_A (kW cI cJ cZ cV cR a C) sz)) 0 0 (va_A (kW cI cJ cZ cV cR a C) sz) := by
  obtain ⟨hn, hfn, hsn, hvc, hrc, hpc, hnw, hkc, h_home, h_kin, h_alv, h_srs, h_row, h_sp, h_kis, h_pg⟩ := id hM
  refine Met.ofW (cc := cX5_told) (maxL := 2) (ret := (some .int)) (by decide) rfl ?_
  intro p e s m args below meth c s₁ B hml hv
  obtain ⟨rfl, hsz, hP, hK, hD0⟩ := hv
  have hx := B.exec
  have hb := B.bytes
  have hr := B.returns
  have hts := atoms_spec (ws := wsX5_told) B.pre
  have hown : s.vm.findClass RX5 = some m.cls := findClass_of_methodNamed B.named
  have hlocks := B.notSynchronized
  subst hsz
  have hD := hD0.self (sz := s.heap.size)
  generalize hAe : va_A (kW cI cJ cZ cV cR a C) s.heap.size = A at hD ⊢
  have hA : ∀ q : Nat, s.heap.size ≤ q → A q := fun q h => by rw [← hAe]; exact Or.inr h
  have hS : va_S A s.heap s.heap [] := va_S.rf
  have hP : va_P D vwCl (kX cI cJ cZ cV cR a (k_ra C) (k_rb C) (k_vc C) (k_rc C) (k_pc C) (k_nw C) (k_n C) (k_fn C) (k_sn C) (k_kc C) (k_grp C) (k_key C) (k_srt C) (k_wt C) (k_home C) (k_drp C) (k_met C) (k_kin C) (k_alv C) (k_srs C) (k_row C) (k_sp C) (k_kis C) (k_pg C) (k_vq C) (k_rq C) (k_L C) (k_F C)) s.heap := hP
  have hD : va_D A (kX cI cJ cZ cV cR a (k_ra C) (k_rb C) (k_vc C) (k_rc C) (k_pc C) (k_nw C) (k_n C) (k_fn C) (k_sn C) (k_kc C) (k_grp C) (k_key C) (k_srt C) (k_wt C) (k_home C) (k_drp C) (k_met C) (k_kin C) (k_alv C) (k_srs C) (k_row C) (k_sp C) (k_kis C) (k_pg C) (k_vq C) (k_rq C) (k_L C) (k_F C)) := hD
  have hiX5 : ∀ w ∈ wsX50, w ∈ wsX5_told := by decide +kernel
  have hiX3 : ∀ w ∈ wsX30, w ∈ wsX5_told := by decide +kernel
  have hiX2 : ∀ w ∈ wsX20, w ∈ wsX5_told := by decide +kernel
  have hf0 := hts (.fieldLink RX5 10 "GroupCursors" "stock" "LGroupCursors$Stock;") (by decide +kernel)
  have hf1 := hts (.fieldLink RX5 61 "GroupCursors$Stock" "count" "I") (by decide +kernel)
  have hf2 := hts (.fieldLink RX5 19 "GroupCursors" "segments" "LGroupCursors$Segments;") (by decide +kernel)
  have hf3 := hts (.fieldLink RX5 89 "GroupCursors$Segments" "count" "I") (by decide +kernel)
  have hf4 := hts (.fieldLink RX5 38 "GroupCursors" "viewCount" "I") (by decide +kernel)
  have hf5 := hts (.fieldLink RX5 48 "GroupCursors" "readerCount" "I") (by decide +kernel)
  have hf6 := hts (.fieldLink RX5 58 "GroupCursors" "now" "I") (by decide +kernel)
  have hf7 := hts (.fieldLink RX5 55 "GroupCursors" "pageCount" "I") (by decide +kernel)
  have hl := lv_entry ([.ref (a 0), .int (nI (w9))]) (n := 2) (Nat.le_of_ble_eq_true rfl)
  rw [lg_entry_eq]
  generalize (lg_sl ([.ref (a 0), .int (nI (w9))]) ++ List.replicate (2 - (lg_sl ([.ref (a 0), .int (nI (w9))])).length) Slot.unset).toArray = ls at hl ⊢
  have hl : lv_has ls 2 [(0, .ref (a 0)), (1, .int (nI (w9)))] := hl
  refine lv_iload_n hx hb dX5_told_0 rfl (lv_at hl 1 rfl) ?_
  obtain hsw0 | hsw1 | hsw2 | hsw3 | hsw4 | hsw5 | hsw6 | hsw7 | hsw8 | hsw9 | hsw10 | hsw11 : w9 = 0 ∨ w9 = 1 ∨ w9 = 2 ∨ w9 = 3 ∨ w9 = 4 ∨ w9 = 5 ∨ w9 = 6 ∨ w9 = 7 ∨ w9 = 8 ∨ w9 = 9 ∨ w9 = 10 ∨ w9 = 11 := by omega
  · refine lv_tableIn (off := 63) (tgt := 64) hx hb dX5_told_1 (by rw [hsw0]; decide) (by rw [hsw0]; decide) (by rw [hsw0]; decide) (by decide) ?_
    refine lv_aload_n hx hb dX5_told_64 rfl (lv_at hl 0 rfl) ?_
    refine va_get (ci := 5) (v := .ref (a 1)) (C := RX5) (T := TX5) (N := 10) hx hb hts hiX5 hown hK hP 0 rfl rfl 0 (by decide) hf0 (fun _ h9 => h9) rfl dX5_told_65 ?_
    refine va_get (ci := 3) (v := .int (nI (k_n C))) (C := RX3) (T := TX3) (N := 8) hx hb hts hiX3 hown hK hP 1 rfl rfl 6 (by decide) hf1 (fun _ h9 => h9) rfl dX5_told_68 ?_
    have hPm : va_P D vwCl (kW cI cJ cZ cV cR a C) s.heap := by exact hP
    have hDm : va_D A (kW cI cJ cZ cV cR a C) := by exact hD
    exact W.iret (v := nI (k_n C)) hx hb hr (fun t ht hW => ⟨⟨_, C, rfl, ⟨by rw [tldC, if_pos (by omega)], rfl⟩, gb_mk ht hW hPm hK hDm⟩, hS.F ht⟩) hS.2.2 dX5_told_71
  · refine lv_tableIn (off := 71) (tgt := 72) hx hb dX5_told_1 (by rw [hsw1]; decide) (by rw [hsw1]; decide) (by rw [hsw1]; decide) (by decide) ?_
    refine lv_aload_n hx hb dX5_told_72 rfl (lv_at hl 0 rfl) ?_
    refine va_get (ci := 5) (v := .ref (a 1)) (C := RX5) (T := TX5) (N := 10) hx hb hts hiX5 hown hK hP 0 rfl rfl 0 (by decide) hf0 (fun _ h9 => h9) rfl dX5_told_73 ?_
    have hPm : va_P D vwCl (kW cI cJ cZ cV cR a C) s.heap := by exact hP
    refine wc_Vi (As := []) (rest := []) ⟨hx, hb, hml, hown, hts⟩ (c_X3_countNew l D cI cJ cZ cV cR a C hM) (cwV 0 hts gX5_told_X3_countNew rfl rfl rfl (by decide +kernel) ⟨Nat.le_of_ble_eq_true rfl, Nat.le_of_ble_eq_true rfl⟩) hPm hK 1 rfl rfl rfl hl.1 rfl (Nat.le_of_ble_eq_true rfl) dX5_told_76 ⟨Nat.zero_le _, Nat.zero_le _⟩ (fun rr hq1 => ?_)
    have hq1 : rr = nI (newF (k_fn C) (k_drp C) (k_n C)) := hq1
    subst hq1
    have hle2 : newF (k_fn C) (k_drp C) (k_n C) ≤ (k_n C) := cnt_le _ _
    have hPm : va_P D vwCl (kW cI cJ cZ cV cR a C) s.heap := by exact hP
    have hDm : va_D A (kW cI cJ cZ cV cR a C) := by exact hD
    exact W.iret (v := nI (newF (k_fn C) (k_drp C) (k_n C))) hx hb hr (fun t ht hW => ⟨⟨_, C, rfl, ⟨by rw [tldC, if_neg (by omega), if_pos (by omega)], rfl⟩, gb_mk ht hW hPm hK hDm⟩, hS.F ht⟩) hS.2.2 dX5_told_79
  · refine lv_tableIn (off := 79) (tgt := 80) hx hb dX5_told_1 (by rw [hsw2]; decide) (by rw [hsw2]; decide) (by rw [hsw2]; decide) (by decide) ?_
    refine lv_aload_n hx hb dX5_told_80 rfl (lv_at hl 0 rfl) ?_
    refine va_get (ci := 5) (v := .ref (a 8)) (C := RX5) (T := TX5) (N := 10) hx hb hts hiX5 hown hK hP 0 rfl rfl 1 (by decide) hf2 (fun _ h9 => h9) rfl dX5_told_81 ?_
    refine va_get (ci := 2) (v := .int (nI (k_sn C))) (C := RX2) (T := TX2) (N := 3) hx hb hts hiX2 hown hK hP 8 rfl rfl 2 (by decide) hf3 (fun _ h9 => h9) rfl dX5_told_84 ?_
    have hPm : va_P D vwCl (kW cI cJ cZ cV cR a C) s.heap := by exact hP
    have hDm : va_D A (kW cI cJ cZ cV cR a C) := by exact hD
    exact W.iret (v := nI (k_sn C)) hx hb hr (fun t ht hW => ⟨⟨_, C, rfl, ⟨by rw [tldC, if_neg (by omega), if_neg (by omega), if_pos (by omega)], rfl⟩, gb_mk ht hW hPm hK hDm⟩, hS.F ht⟩) hS.2.2 dX5_told_87
  · refine lv_tableIn (off := 87) (tgt := 88) hx hb dX5_told_1 (by rw [hsw3]; decide) (by rw [hsw3]; decide) (by rw [hsw3]; decide) (by decide) ?_
    refine lv_aload_n hx hb dX5_told_88 rfl (lv_at hl 0 rfl) ?_
    refine va_get (ci := 5) (v := .ref (a 8)) (C := RX5) (T := TX5) (N := 10) hx hb hts hiX5 hown hK hP 0 rfl rfl 1 (by decide) hf2 (fun _ h9 => h9) rfl dX5_told_89 ?_
    refine lv_iconst (v := nI (0)) hx hb dX5_told_92 (by decide) ?_
    have hPm : va_P D vwCl (kW cI cJ cZ cV cR a C) s.heap := by exact hP
    refine wc_Vi (As := [.int (nI (0))]) (rest := []) ⟨hx, hb, hml, hown, hts⟩ (c_X2_countIn l D cI cJ cZ cV cR a C hM (0) (by omega)) (cwV 1 hts gX5_told_X2_countIn rfl rfl rfl (by decide +kernel) ⟨Nat.le_of_ble_eq_true rfl, Nat.le_of_ble_eq_true rfl⟩) hPm hK 8 rfl rfl rfl hl.1 rfl (Nat.le_of_ble_eq_true rfl) dX5_told_93 ⟨Nat.zero_le _, Nat.zero_le _⟩ (fun rr hq3 => ?_)
    have hq3 : rr = nI (cnt (pSs (k_alv C) (k_srs C) 0) (k_sn C)) := hq3
    subst hq3
    have hle4 : cnt (pSs (k_alv C) (k_srs C) 0) (k_sn C) ≤ (k_sn C) := cnt_le _ _
    have hPm : va_P D vwCl (kW cI cJ cZ cV cR a C) s.heap := by exact hP
    have hDm : va_D A (kW cI cJ cZ cV cR a C) := by exact hD
    exact W.iret (v := nI (cnt (pSs (k_alv C) (k_srs C) 0) (k_sn C))) hx hb hr (fun t ht hW => ⟨⟨_, C, rfl, ⟨by rw [tldC, if_neg (by omega), if_neg (by omega), if_neg (by omega), if_pos (by omega)], rfl⟩, gb_mk ht hW hPm hK hDm⟩, hS.F ht⟩) hS.2.2 dX5_told_96
  · refine lv_tableIn (off := 96) (tgt := 97) hx hb dX5_told_1 (by rw [hsw4]; decide) (by rw [hsw4]; decide) (by rw [hsw4]; decide) (by decide) ?_
    refine lv_aload_n hx hb dX5_told_97 rfl (lv_at hl 0 rfl) ?_
    refine va_get (ci := 5) (v := .ref (a 8)) (C := RX5) (T := TX5) (N := 10) hx hb hts hiX5 hown hK hP 0 rfl rfl 1 (by decide) hf2 (fun _ h9 => h9) rfl dX5_told_98 ?_
    refine lv_iconst (v := nI (1)) hx hb dX5_told_101 (by decide) ?_
    have hPm : va_P D vwCl (kW cI cJ cZ cV cR a C) s.heap := by exact hP
    refine wc_Vi (As := [.int (nI (1))]) (rest := []) ⟨hx, hb, hml, hown, hts⟩ (c_X2_countIn l D cI cJ cZ cV cR a C hM (1) (by omega)) (cwV 1 hts gX5_told_X2_countIn rfl rfl rfl (by decide +kernel) ⟨Nat.le_of_ble_eq_true rfl, Nat.le_of_ble_eq_true rfl⟩) hPm hK 8 rfl rfl rfl hl.1 rfl (Nat.le_of_ble_eq_true rfl) dX5_told_102 ⟨Nat.zero_le _, Nat.zero_le _⟩ (fun rr hq5 => ?_)
    have hq5 : rr = nI (cnt (pSs (k_alv C) (k_srs C) 1) (k_sn C)) := hq5
    subst hq5
    have hle6 : cnt (pSs (k_alv C) (k_srs C) 1) (k_sn C) ≤ (k_sn C) := cnt_le _ _
    have hPm : va_P D vwCl (kW cI cJ cZ cV cR a C) s.heap := by exact hP
    have hDm : va_D A (kW cI cJ cZ cV cR a C) := by exact hD
    exact W.iret (v := nI (cnt (pSs (k_alv C) (k_srs C) 1) (k_sn C))) hx hb hr (fun t ht hW => ⟨⟨_, C, rfl, ⟨by rw [tldC, if_neg (by omega), if_neg (by omega), if_neg (by omega), if_neg (by omega), if_pos (by omega)], rfl⟩, gb_mk ht hW hPm hK hDm⟩, hS.F ht⟩) hS.2.2 dX5_told_105
  · refine lv_tableIn (off := 105) (tgt := 106) hx hb dX5_told_1 (by rw [hsw5]; decide) (by rw [hsw5]; decide) (by rw [hsw5]; decide) (by decide) ?_
    refine lv_aload_n hx hb dX5_told_106 rfl (lv_at hl 0 rfl) ?_
    refine va_get (ci := 5) (v := .ref (a 8)) (C := RX5) (T := TX5) (N := 10) hx hb hts hiX5 hown hK hP 0 rfl rfl 1 (by decide) hf2 (fun _ h9 => h9) rfl dX5_told_107 ?_
    refine lv_iconst (v := nI (2)) hx hb dX5_told_110 (by decide) ?_
    have hPm : va_P D vwCl (kW cI cJ cZ cV cR a C) s.heap := by exact hP
    refine wc_Vi (As := [.int (nI (2))]) (rest := []) ⟨hx, hb, hml, hown, hts⟩ (c_X2_countIn l D cI cJ cZ cV cR a C hM (2) (by omega)) (cwV 1 hts gX5_told_X2_countIn rfl rfl rfl (by decide +kernel) ⟨Nat.le_of_ble_eq_true rfl, Nat.le_of_ble_eq_true rfl⟩) hPm hK 8 rfl rfl rfl hl.1 rfl (Nat.le_of_ble_eq_true rfl) dX5_told_111 ⟨Nat.zero_le _, Nat.zero_le _⟩ (fun rr hq7 => ?_)
    have hq7 : rr = nI (cnt (pSs (k_alv C) (k_srs C) 2) (k_sn C)) := hq7
    subst hq7
    have hle8 : cnt (pSs (k_alv C) (k_srs C) 2) (k_sn C) ≤ (k_sn C) := cnt_le _ _
    have hPm : va_P D vwCl (kW cI cJ cZ cV cR a C) s.heap := by exact hP
    have hDm : va_D A (kW cI cJ cZ cV cR a C) := by exact hD
    exact W.iret (v := nI (cnt (pSs (k_alv C) (k_srs C) 2) (k_sn C))) hx hb hr (fun t ht hW => ⟨⟨_, C, rfl, ⟨by rw [tldC, if_neg (by omega), if_neg (by omega), if_neg (by omega), if_neg (by omega), if_neg (by omega), if_pos (by omega)], rfl⟩, gb_mk ht hW hPm hK hDm⟩, hS.F ht⟩) hS.2.2 dX5_told_114
  · refine lv_tableIn (off := 114) (tgt := 115) hx hb dX5_told_1 (by rw [hsw6]; decide) (by rw [hsw6]; decide) (by rw [hsw6]; decide) (by decide) ?_
    refine lv_aload_n hx hb dX5_told_115 rfl (lv_at hl 0 rfl) ?_
    refine va_get (ci := 5) (v := .int (nI (k_vc C))) (C := RX5) (T := TX5) (N := 10) hx hb hts hiX5 hown hK hP 0 rfl rfl 4 (by decide) hf4 (fun _ h9 => h9) rfl dX5_told_116 ?_
    have hPm : va_P D vwCl (kW cI cJ cZ cV cR a C) s.heap := by exact hP
    have hDm : va_D A (kW cI cJ cZ cV cR a C) := by exact hD
    exact W.iret (v := nI (k_vc C)) hx hb hr (fun t ht hW => ⟨⟨_, C, rfl, ⟨by rw [tldC, if_neg (by omega), if_neg (by omega), if_neg (by omega), if_neg (by omega), if_neg (by omega), if_neg (by omega), if_pos (by omega)], rfl⟩, gb_mk ht hW hPm hK hDm⟩, hS.F ht⟩) hS.2.2 dX5_told_119
  · refine lv_tableIn (off := 119) (tgt := 120) hx hb dX5_told_1 (by rw [hsw7]; decide) (by rw [hsw7]; decide) (by rw [hsw7]; decide) (by decide) ?_
    refine lv_aload_n hx hb dX5_told_120 rfl (lv_at hl 0 rfl) ?_
    have hPm : va_P D vwCl (kW cI cJ cZ cV cR a C) s.heap := by exact hP
    have hDm : va_D A (kW cI cJ cZ cV cR a C) := by exact hD
    refine wc_VWi (As := []) (rest := []) (wf := kW cI cJ cZ cV cR a) ⟨hx, hb, hml, hown, hts⟩ (c_X5_countViewsGoingOn l D cI cJ cZ cV cR a C hM VT RT hPR s.heap.size) (cwV 0 hts gX5_told_X5_countViewsGoingOn rfl rfl rfl (by decide +kernel) ⟨Nat.le_of_ble_eq_true rfl, Nat.le_of_ble_eq_true rfl⟩) hPm hK hDm hS hA 0 rfl rfl rfl hl.1 rfl (Nat.le_of_ble_eq_true rfl) dX5_told_121 ⟨Nat.le_of_ble_eq_true rfl, Nat.le_of_ble_eq_true rfl⟩ (fun rr u9 hq9 H locs hP hD hS => ?_)
    obtain ⟨hr9, hu9⟩ := hq9
    subst hr9
    have hu9 := hu9.symm
    subst hu9
    have hP : va_P D vwCl (kX cI cJ cZ cV cR a (k_ra C) (k_rb C) (k_vc C) (k_rc C) (k_pc C) (k_nw C) (k_n C) (k_fn C) (k_sn C) (k_kc C) (k_grp C) (k_key C) (k_srt C) (k_wt C) (k_home C) (k_drp C) (k_met C) (k_kin C) (k_alv C) (k_srs C) (k_row C) (k_sp C) (k_kis C) (k_pg C) (k_vq C) (k_rq C) (k_L C) (k_F C)) H := hP
    have hD : va_D A (kX cI cJ cZ cV cR a (k_ra C) (k_rb C) (k_vc C) (k_rc C) (k_pc C) (k_nw C) (k_n C) (k_fn C) (k_sn C) (k_kc C) (k_grp C) (k_key C) (k_srt C) (k_wt C) (k_home C) (k_drp C) (k_met C) (k_kin C) (k_alv C) (k_srs C) (k_row C) (k_sp C) (k_kis C) (k_pg C) (k_vq C) (k_rq C) (k_L C) (k_F C)) := hD
    have hPm : va_P D vwCl (kW cI cJ cZ cV cR a C) H := by exact hP
    have hDm : va_D A (kW cI cJ cZ cV cR a C) := by exact hD
    exact W.iret (v := nI (cnt (stGo VT) (k_vc C))) hx hb hr (fun t ht hW => ⟨⟨_, C, rfl, ⟨by rw [tldC, if_neg (by omega), if_neg (by omega), if_neg (by omega), if_neg (by omega), if_neg (by omega), if_neg (by omega), if_neg (by omega), if_pos (by omega)], rfl⟩, gb_mk ht hW hPm hK hDm⟩, hS.F ht⟩) hS.2.2 dX5_told_124
  · refine lv_tableIn (off := 124) (tgt := 125) hx hb dX5_told_1 (by rw [hsw8]; decide) (by rw [hsw8]; decide) (by rw [hsw8]; decide) (by decide) ?_
    refine lv_aload_n hx hb dX5_told_125 rfl (lv_at hl 0 rfl) ?_
    refine va_get (ci := 5) (v := .int (nI (k_rc C))) (C := RX5) (T := TX5) (N := 10) hx hb hts hiX5 hown hK hP 0 rfl rfl 6 (by decide) hf5 (fun _ h9 => h9) rfl dX5_told_126 ?_
    have hPm : va_P D vwCl (kW cI cJ cZ cV cR a C) s.heap := by exact hP
    have hDm : va_D A (kW cI cJ cZ cV cR a C) := by exact hD
    exact W.iret (v := nI (k_rc C)) hx hb hr (fun t ht hW => ⟨⟨_, C, rfl, ⟨by rw [tldC, if_neg (by omega), if_neg (by omega), if_neg (by omega), if_neg (by omega), if_neg (by omega), if_neg (by omega), if_neg (by omega), if_neg (by omega), if_pos (by omega)], rfl⟩, gb_mk ht hW hPm hK hDm⟩, hS.F ht⟩) hS.2.2 dX5_told_129
  · refine lv_tableIn (off := 129) (tgt := 130) hx hb dX5_told_1 (by rw [hsw9]; decide) (by rw [hsw9]; decide) (by rw [hsw9]; decide) (by decide) ?_
    refine lv_aload_n hx hb dX5_told_130 rfl (lv_at hl 0 rfl) ?_
    have hPm : va_P D vwCl (kW cI cJ cZ cV cR a C) s.heap := by exact hP
    have hDm : va_D A (kW cI cJ cZ cV cR a C) := by exact hD
    refine wc_VWi (As := []) (rest := []) (wf := kW cI cJ cZ cV cR a) ⟨hx, hb, hml, hown, hts⟩ (c_X5_countReadersGoingOn l D cI cJ cZ cV cR a C hM VT RT hPR s.heap.size) (cwV 0 hts gX5_told_X5_countReadersGoingOn rfl rfl rfl (by decide +kernel) ⟨Nat.le_of_ble_eq_true rfl, Nat.le_of_ble_eq_true rfl⟩) hPm hK hDm hS hA 0 rfl rfl rfl hl.1 rfl (Nat.le_of_ble_eq_true rfl) dX5_told_131 ⟨Nat.le_of_ble_eq_true rfl, Nat.le_of_ble_eq_true rfl⟩ (fun rr u10 hq10 H locs hP hD hS => ?_)
    obtain ⟨hr10, hu10⟩ := hq10
    subst hr10
    have hu10 := hu10.symm
    subst hu10
    have hP : va_P D vwCl (kX cI cJ cZ cV cR a (k_ra C) (k_rb C) (k_vc C) (k_rc C) (k_pc C) (k_nw C) (k_n C) (k_fn C) (k_sn C) (k_kc C) (k_grp C) (k_key C) (k_srt C) (k_wt C) (k_home C) (k_drp C) (k_met C) (k_kin C) (k_alv C) (k_srs C) (k_row C) (k_sp C) (k_kis C) (k_pg C) (k_vq C) (k_rq C) (k_L C) (k_F C)) H := hP
    have hD : va_D A (kX cI cJ cZ cV cR a (k_ra C) (k_rb C) (k_vc C) (k_rc C) (k_pc C) (k_nw C) (k_n C) (k_fn C) (k_sn C) (k_kc C) (k_grp C) (k_key C) (k_srt C) (k_wt C) (k_home C) (k_drp C) (k_met C) (k_kin C) (k_alv C) (k_srs C) (k_row C) (k_sp C) (k_kis C) (k_pg C) (k_vq C) (k_rq C) (k_L C) (k_F C)) := hD
    have hPm : va_P D vwCl (kW cI cJ cZ cV cR a C) H := by exact hP
    have hDm : va_D A (kW cI cJ cZ cV cR a C) := by exact hD
    exact W.iret (v := nI (cnt (rdGo RT) (k_rc C))) hx hb hr (fun t ht hW => ⟨⟨_, C, rfl, ⟨by rw [tldC, if_neg (by omega), if_neg (by omega), if_neg (by omega), if_neg (by omega), if_neg (by omega), if_neg (by omega), if_neg (by omega), if_neg (by omega), if_neg (by omega), if_pos (by omega)], rfl⟩, gb_mk ht hW hPm hK hDm⟩, hS.F ht⟩) hS.2.2 dX5_told_134
  · refine lv_tableIn (off := 134) (tgt := 135) hx hb dX5_told_1 (by rw [hsw10]; decide) (by rw [hsw10]; decide) (by rw [hsw10]; decide) (by decide) ?_
    refine lv_aload_n hx hb dX5_told_135 rfl (lv_at hl 0 rfl) ?_
    refine va_get (ci := 5) (v := .int (nI (k_nw C))) (C := RX5) (T := TX5) (N := 10) hx hb hts hiX5 hown hK hP 0 rfl rfl 9 (by decide) hf6 (fun _ h9 => h9) rfl dX5_told_136 ?_
    have hPm : va_P D vwCl (kW cI cJ cZ cV cR a C) s.heap := by exact hP
    have hDm : va_D A (kW cI cJ cZ cV cR a C) := by exact hD
    exact W.iret (v := nI (k_nw C)) hx hb hr (fun t ht hW => ⟨⟨_, C, rfl, ⟨by rw [tldC, if_neg (by omega), if_neg (by omega), if_neg (by omega), if_neg (by omega), if_neg (by omega), if_neg (by omega), if_neg (by omega), if_neg (by omega), if_neg (by omega), if_neg (by omega), if_pos (by omega)], rfl⟩, gb_mk ht hW hPm hK hDm⟩, hS.F ht⟩) hS.2.2 dX5_told_139
  · refine lv_tableIn (off := 139) (tgt := 140) hx hb dX5_told_1 (by rw [hsw11]; decide) (by rw [hsw11]; decide) (by rw [hsw11]; decide) (by decide) ?_
    refine lv_aload_n hx hb dX5_told_140 rfl (lv_at hl 0 rfl) ?_
    refine va_get (ci := 5) (v := .int (nI (k_pc C))) (C := RX5) (T := TX5) (N := 10) hx hb hts hiX5 hown hK hP 0 rfl rfl 8 (by decide) hf7 (fun _ h9 => h9) rfl dX5_told_141 ?_
    have hPm : va_P D vwCl (kW cI cJ cZ cV cR a C) s.heap := by exact hP
    have hDm : va_D A (kW cI cJ cZ cV cR a C) := by exact hD
    exact W.iret (v := nI (k_pc C)) hx hb hr (fun t ht hW => ⟨⟨_, C, rfl, ⟨by rw [tldC, if_neg (by omega), if_neg (by omega), if_neg (by omega), if_neg (by omega), if_neg (by omega), if_neg (by omega), if_neg (by omega), if_neg (by omega), if_neg (by omega), if_neg (by omega), if_neg (by omega)], rfl⟩, gb_mk ht hW hPm hK hDm⟩, hS.F ht⟩) hS.2.2 dX5_told_144
def rmx_X5_told : Room := { frames := 6, cells := 1, slots := 6, locals := 82 }
set_option maxHeartbeats 4000000 in
set_option maxRecDepth 100000 in
/-- no such what -/
theorem x_X5_told (l : Launch) (htr : l.stackTraces = false) (D : va_G) (cI cJ cZ cV cR : ClassId) (a : Nat → Nat) (C : CT) (hM : kOk C) (y : Int32) (hbad : y.toInt < 0 ∨ 12 ≤ y.toInt) (sz : Nat) : vx_Met l yX5_told wsX5_told rmx_X5_told (va_Pc [.ref (a 0), .int (y)] (GX D (tyK cI cJ cZ cV cR) (kW cI cJ cZ cV cR a C) sz)) xNo (xXC D (tyK cI cJ cZ cV cR) "java/lang/IndexOutOfBoundsException" (fun u : CT => u = C) (kW cI cJ cZ cV cR a) (va_A (kW cI cJ cZ cV cR a C) sz)) 1 6 (va_A (kW cI cJ cZ cV cR a C) sz) := by
  obtain ⟨hn, hfn, hsn, hvc, hrc, hpc, hnw, hkc, h_home, h_kin, h_alv, h_srs, h_row, h_sp, h_kis, h_pg⟩ := id hM
  refine vx_ofW (cc := cX5_told) (maxL := 2) (ret := (some .int)) (by decide) rfl ?_
  intro p e s m args below meth c s₁ B hml hout hv
  obtain ⟨rfl, ⟨hsz, hP, hK, hD0⟩, hXE⟩ := hv
  have hx := B.exec
  have hb := B.bytes
  have hr := B.returns
  have hts := atoms_spec (ws := wsX5_told) B.pre
  have hown : s.vm.findClass RX5 = some m.cls := findClass_of_methodNamed B.named
  have hlocks := B.notSynchronized
  subst hsz
  have hD := hD0.self (sz := s.heap.size)
  generalize hAe : va_A (kW cI cJ cZ cV cR a C) s.heap.size = A at hD hXE ⊢
  have hA : ∀ q : Nat, s.heap.size ≤ q → A q := fun q h => by rw [← hAe]; exact Or.inr h
  have hS : va_S A s.heap s.heap [] := va_S.rf
  have hP : va_P D vwCl (kX cI cJ cZ cV cR a (k_ra C) (k_rb C) (k_vc C) (k_rc C) (k_pc C) (k_nw C) (k_n C) (k_fn C) (k_sn C) (k_kc C) (k_grp C) (k_key C) (k_srt C) (k_wt C) (k_home C) (k_drp C) (k_met C) (k_kin C) (k_alv C) (k_srs C) (k_row C) (k_sp C) (k_kis C) (k_pg C) (k_vq C) (k_rq C) (k_L C) (k_F C)) s.heap := hP
  have hD : va_D A (kX cI cJ cZ cV cR a (k_ra C) (k_rb C) (k_vc C) (k_rc C) (k_pc C) (k_nw C) (k_n C) (k_fn C) (k_sn C) (k_kc C) (k_grp C) (k_key C) (k_srt C) (k_wt C) (k_home C) (k_drp C) (k_met C) (k_kin C) (k_alv C) (k_srs C) (k_row C) (k_sp C) (k_kis C) (k_pg C) (k_vq C) (k_rq C) (k_L C) (k_F C)) := hD
  have hf0 := hts (.classLink RX5 116 "java/lang/IndexOutOfBoundsException") (by decide +kernel)
  have hf1 := hts (.initialized "java/lang/IndexOutOfBoundsException") (by decide +kernel)
  have hl := lv_entry ([.ref (a 0), .int (y)]) (n := 2) (Nat.le_of_ble_eq_true rfl)
  rw [lg_entry_eq]
  generalize (lg_sl ([.ref (a 0), .int (y)]) ++ List.replicate (2 - (lg_sl ([.ref (a 0), .int (y)])).length) Slot.unset).toArray = ls at hl ⊢
  have hl : lv_has ls 2 [(0, .ref (a 0)), (1, .int (y))] := hl
  refine lv_iload_n hx hb dX5_told_0 rfl (lv_at hl 1 rfl) ?_
  refine lv_tableOut (tgt := 145) hx hb dX5_told_1 (by omega) (by decide) ?_
  have hPm : va_P D vwCl (kW cI cJ cZ cV cR a C) s.heap := by exact hP
  have hDm : va_D A (kW cI cJ cZ cV cR a C) := by exact hD
  obtain ⟨sa, hsa⟩ := hXE.2.2.2.2 ("GroupCursors", 118, "no such what") (by decide)
  exact vx_throwS hx hb htr hown (by decide) (by decide) hf0 hf1 hsa (xat_X5_120 hXE (fun w hw => hts w (by unfold wsX5_told; simp only [List.mem_cons, List.mem_append, hw, or_true, true_or]))) xgd_X5_120 hXE.1 hXE.2.1 hS (hl.1.trans hml.symm) dX5_told_145 dX5_told_148 dX5_told_149 dX5_told_151 dX5_told_154 (fun x h => (hout x h).elim) (Nat.le_of_ble_eq_true rfl) (Nat.le_of_ble_eq_true rfl) (Nat.le_of_ble_eq_true rfl) (Nat.le_of_ble_eq_true rfl) hlocks (xxc_mk C rfl hPm hK hDm hS) hS.2.2 (Nat.le_refl _) (Nat.le_refl _)
def rm_X5_tick : Room := { frames := 4, cells := 0, slots := 0, locals := 86 }
set_option maxHeartbeats 4000000 in
set_option maxRecDepth 100000 in
/-- time passes -/
theorem c_X5_tick (l : Launch) (D : va_G) (cI cJ cZ cV cR : ClassId) (a : Nat → Nat) (C : CT) (hM : kOk C) (VT : Nat → VRec) (RT : Nat → RRec) (hPR : PR cI cZ C VT RT) (hAI : AIc C VT RT) (n9 : Nat) (hn9 : n9 ≤ 10000) (hnw9 : k_nw C + n9 ≤ 1000000000) (sz : Nat) : Met l yX5_tick wsX5_tick rm_X5_tick (va_Pc [.ref (a 0), .int (nI (n9))] (GW D (tyK cI cJ cZ cV cR) (kW cI cJ cZ cV cR a C) sz)) (va_Qi (fun rr u => ∃ k VT9 RT9, rr = nI k ∧ TI cI cZ (nwM C n9) VT RT (k_rc C) k u VT9 RT9) (fun u => GB D (tyK cI cJ cZ cV cR) (va_A (kW cI cJ cZ cV cR a C) sz) (kW cI cJ cZ cV cR a u)) (va_A (kW cI cJ cZ cV cR a C) sz)) 0 0 (va_A (kW cI cJ cZ cV cR a C) sz) := by
  obtain ⟨hn, hfn, hsn, hvc, hrc, hpc, hnw, hkc, h_home, h_kin, h_alv, h_srs, h_row, h_sp, h_kis, h_pg⟩ := id hM
  have hM0 := ok_nwM hM hnw9
  have hr0 : k_rc (nwM C n9) = k_rc C := rfl
  have hw0 : k_nw (nwM C n9) = k_nw C + n9 := rfl
  refine Met.ofW (cc := cX5_tick) (maxL := 5) (ret := (some .int)) (by decide) rfl ?_
  intro p e s m args below meth c s₁ B hml hv
  obtain ⟨rfl, hsz, hP, hK, hD0⟩ := hv
  have hx := B.exec
  have hb := B.bytes
  have hr := B.returns
  have hts := atoms_spec (ws := wsX5_tick) B.pre
  have hown : s.vm.findClass RX5 = some m.cls := findClass_of_methodNamed B.named
  have hlocks := B.notSynchronized
  subst hsz
  have hD := hD0.self (sz := s.heap.size)
  generalize hAe : va_A (kW cI cJ cZ cV cR a C) s.heap.size = A at hD ⊢
  have hA : ∀ q : Nat, s.heap.size ≤ q → A q := fun q h => by rw [← hAe]; exact Or.inr h
  have hS : va_S A s.heap s.heap [] := va_S.rf
  have hP : va_P D vwCl (kX cI cJ cZ cV cR a (k_ra C) (k_rb C) (k_vc C) (k_rc C) (k_pc C) (k_nw C) (k_n C) (k_fn C) (k_sn C) (k_kc C) (k_grp C) (k_key C) (k_srt C) (k_wt C) (k_home C) (k_drp C) (k_met C) (k_kin C) (k_alv C) (k_srs C) (k_row C) (k_sp C) (k_kis C) (k_pg C) (k_vq C) (k_rq C) (k_L C) (k_F C)) s.heap := hP
  have hD : va_D A (kX cI cJ cZ cV cR a (k_ra C) (k_rb C) (k_vc C) (k_rc C) (k_pc C) (k_nw C) (k_n C) (k_fn C) (k_sn C) (k_kc C) (k_grp C) (k_key C) (k_srt C) (k_wt C) (k_home C) (k_drp C) (k_met C) (k_kin C) (k_alv C) (k_srs C) (k_row C) (k_sp C) (k_kis C) (k_pg C) (k_vq C) (k_rq C) (k_L C) (k_F C)) := hD
  have hiX5 : ∀ w ∈ wsX50, w ∈ wsX5_tick := by decide +kernel
  have hiX1 : ∀ w ∈ wsX10, w ∈ wsX5_tick := by decide +kernel
  have hf0 := hts (.fieldLink RX5 58 "GroupCursors" "now" "I") (by decide +kernel)
  have hf1 := hts (.constant RX5 275 (1000000000)) (by decide +kernel)
  have hf2 := hts (.fieldLink RX5 48 "GroupCursors" "readerCount" "I") (by decide +kernel)
  have hf3 := hts (.fieldLink RX5 231 "GroupCursors$Reader" "isCursor" "Z") (by decide +kernel)
  have hf4 := hts (.fieldLink RX5 237 "GroupCursors$Reader" "ended" "Z") (by decide +kernel)
  have hf5 := hts (.fieldLink RX5 204 "GroupCursors$Reader" "end" "I") (by decide +kernel)
  have hl := lv_entry ([.ref (a 0), .int (nI (n9))]) (n := 5) (Nat.le_of_ble_eq_true rfl)
  rw [lg_entry_eq]
  generalize (lg_sl ([.ref (a 0), .int (nI (n9))]) ++ List.replicate (5 - (lg_sl ([.ref (a 0), .int (nI (n9))])).length) Slot.unset).toArray = ls at hl ⊢
  have hl : lv_has ls 5 [(0, .ref (a 0)), (1, .int (nI (n9)))] := hl
  refine lv_iload_n hx hb dX5_tick_0 rfl (lv_at hl 1 rfl) ?_
  refine wz_if_lt (tgt := 23) hx hb (((n9 : Nat) : Int)) (nI_z (by omega)) dX5_tick_1 (by decide) (fun c1_1 => ?_) (fun c1_1 => ?_)
  · exfalso; omega
  · refine lv_iload_n hx hb dX5_tick_4 rfl (lv_at hl 1 rfl) ?_
    refine lv_sipush (v := nI (10000)) hx hb dX5_tick_5 (by decide) ?_
    refine wn_icmp_gt (a := n9) (b := 10000) (tgt := 23) hx hb (nI_z (by omega)) (nI_z (by omega)) dX5_tick_8 (by decide) (fun c8_2 => ?_) (fun c8_2 => ?_)
    · exfalso; omega
    · refine lv_aload_n hx hb dX5_tick_11 rfl (lv_at hl 0 rfl) ?_
      refine va_get (ci := 5) (v := .int (nI (k_nw C))) (C := RX5) (T := TX5) (N := 10) hx hb hts hiX5 hown hK hP 0 rfl rfl 9 (by decide) hf0 (fun _ h9 => h9) rfl dX5_tick_12 ?_
      refine lv_ldcw (v := (1000000000)) hx hb hown hf1 dX5_tick_15 ?_
      refine ww_top (show ((1000000000) : Int32) = nI (1000000000) by decide) ?_
      refine lv_iload_n hx hb dX5_tick_18 rfl (lv_at hl 1 rfl) ?_
      refine lv_isub hx hb dX5_tick_19 (ww_top (y := nI (1000000000 - n9)) (pk_sub (by omega)) ?_)
      refine wn_icmp_le (a := k_nw C) (b := 1000000000 - n9) (tgt := 34) hx hb (nI_z (by omega)) (nI_z (by omega)) dX5_tick_20 (by decide) (fun c20_3 => ?_) (fun c20_3 => ?_)
      · refine lv_aload_n hx hb dX5_tick_34 rfl (lv_at hl 0 rfl) ?_
        refine lv_dup hx hb dX5_tick_35 rfl ?_
        refine va_get (ci := 5) (v := .int (nI (k_nw C))) (C := RX5) (T := TX5) (N := 10) hx hb hts hiX5 hown hK hP 0 rfl rfl 9 (by decide) hf0 (fun _ h9 => h9) rfl dX5_tick_36 ?_
        refine lv_iload_n hx hb dX5_tick_39 rfl (lv_at hl 1 rfl) ?_
        refine lv_iadd hx hb dX5_tick_40 (ww_top (y := nI (k_nw C + n9)) (nI_addn _ _) ?_)
        refine va_put (ci := 5) (v := .int (nI (k_nw C + n9))) (ty := .int) (C := RX5) (T := TX5) (N := 10) hx hb hts hiX5 tyX5 tyX5_ok nmX5 hown hK hP hD hS 0 rfl rfl 9 (by decide) hf0 (fun _ h9 => h9) rfl (by decide +kernel) rfl rfl (Nat.le_of_ble_eq_true rfl) dX5_tick_41 (fun H locs hP hD hS => ?_)
        have hP : va_P D vwCl (kX cI cJ cZ cV cR a (k_ra C) (k_rb C) (k_vc C) (k_rc C) (k_pc C) (k_nw C + n9) (k_n C) (k_fn C) (k_sn C) (k_kc C) (k_grp C) (k_key C) (k_srt C) (k_wt C) (k_home C) (k_drp C) (k_met C) (k_kin C) (k_alv C) (k_srs C) (k_row C) (k_sp C) (k_kis C) (k_pg C) (k_vq C) (k_rq C) (k_L C) (k_F C)) H := hP
        have hD : va_D A (kX cI cJ cZ cV cR a (k_ra C) (k_rb C) (k_vc C) (k_rc C) (k_pc C) (k_nw C + n9) (k_n C) (k_fn C) (k_sn C) (k_kc C) (k_grp C) (k_key C) (k_srt C) (k_wt C) (k_home C) (k_drp C) (k_met C) (k_kin C) (k_alv C) (k_srs C) (k_row C) (k_sp C) (k_kis C) (k_pg C) (k_vq C) (k_rq C) (k_L C) (k_F C)) := hD
        refine lv_iconst (v := nI (0)) hx hb dX5_tick_44 (by decide) ?_
        refine lv_istore_n (lv' := [(2, .int (nI (0))), (0, .ref (a 0)), (1, .int (nI (n9)))]) hx hb dX5_tick_45 rfl hl (by decide) rfl (fun ls hl => ?_)
        refine lv_iconst (v := nI (0)) hx hb dX5_tick_46 (by decide) ?_
        refine lv_istore_n (lv' := [(3, .int (nI (0))), (2, .int (nI (0))), (0, .ref (a 0)), (1, .int (nI (n9)))]) hx hb dX5_tick_47 rfl hl (by decide) rfl (fun ls hl => ?_)
        have hlp48 : ∀ (d : Nat) (i : Nat) (k : Nat) (C9 : CT) (VT9 : Nat → VRec) (RT9 : Nat → RRec) (H : Heap) (locs : List Loc), k_rc C - i < d → (i ≤ k_rc C) → (TI cI cZ (nwM C n9) VT RT i k C9 VT9 RT9) → va_P D vwCl (kX cI cJ cZ cV cR a (k_ra C9) (k_rb C9) (k_vc C9) (k_rc C9) (k_pc C9) (k_nw C9) (k_n C9) (k_fn C9) (k_sn C9) (k_kc C9) (k_grp C9) (k_key C9) (k_srt C9) (k_wt C9) (k_home C9) (k_drp C9) (k_met C9) (k_kin C9) (k_alv C9) (k_srs C9) (k_row C9) (k_sp C9) (k_kis C9) (k_pg C9) (k_vq C9) (k_rq C9) (k_L C9) (k_F C9)) H → va_D A (kX cI cJ cZ cV cR a (k_ra C9) (k_rb C9) (k_vc C9) (k_rc C9) (k_pc C9) (k_nw C9) (k_n C9) (k_fn C9) (k_sn C9) (k_kc C9) (k_grp C9) (k_key C9) (k_srt C9) (k_wt C9) (k_home C9) (k_drp C9) (k_met C9) (k_kin C9) (k_alv C9) (k_srs C9) (k_row C9) (k_sp C9) (k_kis C9) (k_pg C9) (k_vq C9) (k_rq C9) (k_L C9) (k_F C9)) → va_S A s.heap H locs → ∀ (ls : Array Slot), lv_has ls 5 [(0, .ref (a 0)), (1, .int (nI (n9))), (2, .int (nI (k))), (3, .int (nI (i)))] → W p l e (headSpec wsX5_tick rm_X5_tick).room s m ([.ref (a 0), .int (nI (n9))] : List Value).toArray below meth c H locs (0) (0) (MQ below (va_Qi (fun rr u => ∃ k VT9 RT9, rr = nI k ∧ TI cI cZ (nwM C n9) VT RT (k_rc C) k u VT9 RT9) (fun u => GB D (tyK cI cJ cZ cV cR) A (kW cI cJ cZ cV cR a u)) A) ([.ref (a 0), .int (nI (n9))] : List Value).toArray s 0 0 A) (F0 m 48 ls []) := by
          intro d
          induction d with
          | zero => intro i k C9 VT9 RT9 H locs hd48; exact absurd hd48 (Nat.not_lt_zero _)
          | succ d ih48 =>
            intro i k C9 VT9 RT9 H locs hd48 hik hTI hP hD hS ls hl
            have hM9 := hTI.ok hM0
            have hrc9 : k_rc C9 ≤ 60 := hM9.2.2.2.2.1
            have hnwb : k_nw C9 ≤ 1000000000 := hM9.2.2.2.2.2.2.1
            have erc : k_rc C9 = k_rc C := hTI.rc
            have enw : k_nw C9 = k_nw C + n9 := hTI.nw
            refine lv_iload_n hx hb dX5_tick_48 rfl (lv_at hl 3 rfl) ?_
            refine lv_aload_n hx hb dX5_tick_49 rfl (lv_at hl 0 rfl) ?_
            refine va_get (ci := 5) (v := .int (nI (k_rc C9))) (C := RX5) (T := TX5) (N := 10) hx hb hts hiX5 hown hK hP 0 rfl rfl 6 (by decide) hf2 (fun _ h9 => h9) rfl dX5_tick_50 ?_
            refine wn_icmp_ge (a := i) (b := k_rc C9) (tgt := 107) hx hb (nI_z (by omega)) (nI_z (by omega)) dX5_tick_53 (by decide) (fun c53_4 => ?_) (fun c53_4 => ?_)
            · refine lv_iload_n hx hb dX5_tick_107 rfl (lv_at hl 2 rfl) ?_
              have hPm : va_P D vwCl (kW cI cJ cZ cV cR a C9) H := by exact hP
              have hDm : va_D A (kW cI cJ cZ cV cR a C9) := by exact hD
              exact W.iret (v := nI (k)) hx hb hr (fun t ht hW => ⟨⟨_, C9, rfl, ⟨k, VT9, RT9, rfl, by rw [← (show i = k_rc C by omega)]; exact hTI⟩, gb_mk ht hW hPm hK hDm⟩, hS.F ht⟩) hS.2.2 dX5_tick_108
            · obtain ⟨_, _, _, hPR9, hAI9, _⟩ := id hTI
              obtain ⟨hq9, hR, hI, hv9, hn8, hgv, hkp, hen, hf8⟩ := hPR9.2.1 i (by omega)
              obtain ⟨hvq9, hV, hI2, hZ, hc9, hn7, hg9, hst9, hr9, hf9, hsn9⟩ := hPR9.1 _ hv9
              have hpos := AI.pos hAI9 hv9
              have hrr := AI.run hAI9 (j := i) (by omega)
              refine lv_aload_n hx hb dX5_tick_56 rfl (lv_at hl 0 rfl) ?_
              refine lv_iload_n hx hb dX5_tick_57 rfl (lv_at hl 3 rfl) ?_
              have hPm : va_P D vwCl (kW cI cJ cZ cV cR a C9) H := by exact hP
              have hDm : va_D A (kW cI cJ cZ cV cR a C9) := by exact hD
              refine wc_VWr (As := [.int (nI (i))]) (rest := []) (ra := Prod.fst) (wf := fun u => kW cI cJ cZ cV cR a u.2) ⟨hx, hb, hml, hown, hts⟩ (c_X5_readerAt l D cI cJ cZ cV cR a C9 hM9 (i) ((RT9 i).q) (by omega) hq9 H.size) (cwV 1 hts gX5_tick_X5_readerAt rfl rfl rfl (by decide +kernel) ⟨Nat.le_of_ble_eq_true rfl, Nat.le_of_ble_eq_true rfl⟩) hPm hK hDm hS hA 0 rfl rfl rfl hl.1 rfl (Nat.le_of_ble_eq_true rfl) dX5_tick_58 ⟨Nat.le_of_ble_eq_true rfl, Nat.le_of_ble_eq_true rfl⟩ (fun u5 hq5 H locs hP hD hS => ?_)
              have hu5 := hq5
              subst hu5
              have hP : va_P D vwCl (kX cI cJ cZ cV cR a (k_ra C9) (k_rb C9) (k_vc C9) (k_rc C9) (k_pc C9) (k_nw C9) (k_n C9) (k_fn C9) (k_sn C9) (k_kc C9) (k_grp C9) (k_key C9) (k_srt C9) (k_wt C9) (k_home C9) (k_drp C9) (k_met C9) (k_kin C9) (k_alv C9) (k_srs C9) (k_row C9) (k_sp C9) (k_kis C9) (k_pg C9) (k_vq C9) (k_rq C9) (k_L C9) (k_F C9)) H := hP
              have hD : va_D A (kX cI cJ cZ cV cR a (k_ra C9) (k_rb C9) (k_vc C9) (k_rc C9) (k_pc C9) (k_nw C9) (k_n C9) (k_fn C9) (k_sn C9) (k_kc C9) (k_grp C9) (k_key C9) (k_srt C9) (k_wt C9) (k_home C9) (k_drp C9) (k_met C9) (k_kin C9) (k_alv C9) (k_srs C9) (k_row C9) (k_sp C9) (k_kis C9) (k_pg C9) (k_vq C9) (k_rq C9) (k_L C9) (k_F C9)) := hD
              refine lv_astore (lv' := [(4, .ref ((RT9 i).q)), (0, .ref (a 0)), (1, .int (nI (n9))), (2, .int (nI (k))), (3, .int (nI (i)))]) hx hb dX5_tick_61 hl (by decide) rfl (fun ls hl => ?_)
              refine lv_aload hx hb dX5_tick_63 (lv_at hl 0 rfl) ?_
              refine wp_get (ci := 1) (v := .int (bI ((RT9 i).cu))) (C := RX1) (T := TX1) (N := 7) hx hb hts hiX1 hown hK hP hR.1 hR.2 rfl 2 (by decide) hf3 (fun _ h9 => h9) rfl dX5_tick_65 ?_
              refine wb_if_eq (tgt := 101) hx hb dX5_tick_68 (by decide) (fun c68_6 => ?_) (fun c68_6 => ?_)
              · refine lv_iinc (v := nI (i + 1)) (lv' := [(3, .int (nI (i + 1))), (4, .ref ((RT9 i).q)), (0, .ref (a 0)), (1, .int (nI (n9))), (2, .int (nI (k)))]) hx hb dX5_tick_101 hl (k := 4) rfl (nI_inc _) (by decide) rfl (fun ls hl => ?_)
                refine lv_goto (tgt := 48) hx hb dX5_tick_104 (by decide) ?_
                exact ih48 (i + 1) (k) (C9) (VT9) (RT9) _ _ (by omega) (by omega) (TI.fl hTI (by rw [tkC, c68_6]; rfl)) hP hD hS ls (lv_sub hl [2, 3, 4, 0] rfl)
              · refine lv_aload hx hb dX5_tick_71 (lv_at hl 0 rfl) ?_
                refine wp_get (ci := 1) (v := .int (bI ((RT9 i).ed))) (C := RX1) (T := TX1) (N := 7) hx hb hts hiX1 hown hK hP hR.1 hR.2 rfl 6 (by decide) hf4 (fun _ h9 => h9) rfl dX5_tick_73 ?_
                refine wb_if_ne (tgt := 101) hx hb dX5_tick_76 (by decide) (fun c76_7 => ?_) (fun c76_7 => ?_)
                · refine lv_iinc (v := nI (i + 1)) (lv' := [(3, .int (nI (i + 1))), (4, .ref ((RT9 i).q)), (0, .ref (a 0)), (1, .int (nI (n9))), (2, .int (nI (k)))]) hx hb dX5_tick_101 hl (k := 4) rfl (nI_inc _) (by decide) rfl (fun ls hl => ?_)
                  refine lv_goto (tgt := 48) hx hb dX5_tick_104 (by decide) ?_
                  exact ih48 (i + 1) (k) (C9) (VT9) (RT9) _ _ (by omega) (by omega) (TI.fl hTI (by rw [tkC, c68_6, c76_7]; rfl)) hP hD hS ls (lv_sub hl [2, 3, 4, 0] rfl)
                · refine lv_aload_n hx hb dX5_tick_79 rfl (lv_at hl 1 rfl) ?_
                  refine va_get (ci := 5) (v := .int (nI (k_nw C9))) (C := RX5) (T := TX5) (N := 10) hx hb hts hiX5 hown hK hP 0 rfl rfl 9 (by decide) hf0 (fun _ h9 => h9) rfl dX5_tick_80 ?_
                  refine lv_aload hx hb dX5_tick_83 (lv_at hl 0 rfl) ?_
                  refine wp_get (ci := 1) (v := .int (nI ((RT9 i).en))) (C := RX1) (T := TX1) (N := 7) hx hb hts hiX1 hown hK hP hR.1 hR.2 rfl 5 (by decide) hf5 (fun _ h9 => h9) rfl dX5_tick_85 ?_
                  refine wn_icmp_le (a := k_nw C9) (b := (RT9 i).en) (tgt := 101) hx hb (nI_z (by omega)) (nI_z (by omega)) dX5_tick_88 (by decide) (fun c88_8 => ?_) (fun c88_8 => ?_)
                  · refine lv_iinc (v := nI (i + 1)) (lv' := [(3, .int (nI (i + 1))), (4, .ref ((RT9 i).q)), (0, .ref (a 0)), (1, .int (nI (n9))), (2, .int (nI (k)))]) hx hb dX5_tick_101 hl (k := 4) rfl (nI_inc _) (by decide) rfl (fun ls hl => ?_)
                    refine lv_goto (tgt := 48) hx hb dX5_tick_104 (by decide) ?_
                    exact ih48 (i + 1) (k) (C9) (VT9) (RT9) _ _ (by omega) (by omega) (TI.fl hTI (by rw [tkC, c68_6, c76_7]; exact decide_eq_false (by omega))) hP hD hS ls (lv_sub hl [2, 3, 4, 0] rfl)
                  · refine lv_aload_n hx hb dX5_tick_91 rfl (lv_at hl 1 rfl) ?_
                    refine lv_aload hx hb dX5_tick_92 (lv_at hl 0 rfl) ?_
                    have hPm : va_P D vwCl (kW cI cJ cZ cV cR a C9) H := by exact hP
                    have hDm : va_D A (kW cI cJ cZ cV cR a C9) := by exact hD
                    refine wc_VWi (As := [.ref ((RT9 i).q)]) (rest := []) (wf := kW cI cJ cZ cV cR a) ⟨hx, hb, hml, hown, hts⟩ (c_X5_endReader l D cI cJ cZ cV cR a C9 hM9 ((RT9 i).q) ((VT9 (RT9 i).v).q) ((RT9 i).hs) ((RT9 i).cu) ((RT9 i).kp) ((RT9 i).gv) ((RT9 i).en) ((RT9 i).ed) ((RT9 i).n) ((RT9 i).f) hR hI (by omega) (by omega) (by omega) (by omega) ((VT9 (RT9 i).v).hs) ((VT9 (RT9 i).v).se) ((VT9 (RT9 i).v).c) ((VT9 (RT9 i).v).g) ((VT9 (RT9 i).v).st) ((VT9 (RT9 i).v).r) ((VT9 (RT9 i).v).sn) ((VT9 (RT9 i).v).sf) hV (by omega) (by omega) (by omega) (by omega) hZ (by omega) (fun hz9 => (hpos (by omega))) hrr H.size) (cwV 1 hts gX5_tick_X5_endReader rfl rfl rfl (by decide +kernel) ⟨Nat.le_of_ble_eq_true rfl, Nat.le_of_ble_eq_true rfl⟩) hPm hK hDm hS hA 0 rfl rfl rfl hl.1 rfl (Nat.le_of_ble_eq_true rfl) dX5_tick_94 ⟨Nat.le_of_ble_eq_true rfl, Nat.le_of_ble_eq_true rfl⟩ (fun rr u9 hq9 H locs hP hD hS => ?_)
                    obtain ⟨hr9, hu9⟩ := hq9
                    subst hr9
                    have hu9 := hu9.symm
                    subst hu9
                    have hP : va_P D vwCl (kX cI cJ cZ cV cR a (k_ra (erM C9 ((RT9 i).q) ((VT9 (RT9 i).v).q) ((RT9 i).hs) ((RT9 i).cu) ((RT9 i).kp) ((RT9 i).gv) ((RT9 i).en) ((RT9 i).ed) ((VT9 (RT9 i).v).hs) ((VT9 (RT9 i).v).se) ((VT9 (RT9 i).v).c) ((VT9 (RT9 i).v).g) ((VT9 (RT9 i).v).st) ((VT9 (RT9 i).v).r) ((VT9 (RT9 i).v).sn) ((VT9 (RT9 i).v).sf))) (k_rb (erM C9 ((RT9 i).q) ((VT9 (RT9 i).v).q) ((RT9 i).hs) ((RT9 i).cu) ((RT9 i).kp) ((RT9 i).gv) ((RT9 i).en) ((RT9 i).ed) ((VT9 (RT9 i).v).hs) ((VT9 (RT9 i).v).se) ((VT9 (RT9 i).v).c) ((VT9 (RT9 i).v).g) ((VT9 (RT9 i).v).st) ((VT9 (RT9 i).v).r) ((VT9 (RT9 i).v).sn) ((VT9 (RT9 i).v).sf))) (k_vc (erM C9 ((RT9 i).q) ((VT9 (RT9 i).v).q) ((RT9 i).hs) ((RT9 i).cu) ((RT9 i).kp) ((RT9 i).gv) ((RT9 i).en) ((RT9 i).ed) ((VT9 (RT9 i).v).hs) ((VT9 (RT9 i).v).se) ((VT9 (RT9 i).v).c) ((VT9 (RT9 i).v).g) ((VT9 (RT9 i).v).st) ((VT9 (RT9 i).v).r) ((VT9 (RT9 i).v).sn) ((VT9 (RT9 i).v).sf))) (k_rc (erM C9 ((RT9 i).q) ((VT9 (RT9 i).v).q) ((RT9 i).hs) ((RT9 i).cu) ((RT9 i).kp) ((RT9 i).gv) ((RT9 i).en) ((RT9 i).ed) ((VT9 (RT9 i).v).hs) ((VT9 (RT9 i).v).se) ((VT9 (RT9 i).v).c) ((VT9 (RT9 i).v).g) ((VT9 (RT9 i).v).st) ((VT9 (RT9 i).v).r) ((VT9 (RT9 i).v).sn) ((VT9 (RT9 i).v).sf))) (k_pc (erM C9 ((RT9 i).q) ((VT9 (RT9 i).v).q) ((RT9 i).hs) ((RT9 i).cu) ((RT9 i).kp) ((RT9 i).gv) ((RT9 i).en) ((RT9 i).ed) ((VT9 (RT9 i).v).hs) ((VT9 (RT9 i).v).se) ((VT9 (RT9 i).v).c) ((VT9 (RT9 i).v).g) ((VT9 (RT9 i).v).st) ((VT9 (RT9 i).v).r) ((VT9 (RT9 i).v).sn) ((VT9 (RT9 i).v).sf))) (k_nw (erM C9 ((RT9 i).q) ((VT9 (RT9 i).v).q) ((RT9 i).hs) ((RT9 i).cu) ((RT9 i).kp) ((RT9 i).gv) ((RT9 i).en) ((RT9 i).ed) ((VT9 (RT9 i).v).hs) ((VT9 (RT9 i).v).se) ((VT9 (RT9 i).v).c) ((VT9 (RT9 i).v).g) ((VT9 (RT9 i).v).st) ((VT9 (RT9 i).v).r) ((VT9 (RT9 i).v).sn) ((VT9 (RT9 i).v).sf))) (k_n (erM C9 ((RT9 i).q) ((VT9 (RT9 i).v).q) ((RT9 i).hs) ((RT9 i).cu) ((RT9 i).kp) ((RT9 i).gv) ((RT9 i).en) ((RT9 i).ed) ((VT9 (RT9 i).v).hs) ((VT9 (RT9 i).v).se) ((VT9 (RT9 i).v).c) ((VT9 (RT9 i).v).g) ((VT9 (RT9 i).v).st) ((VT9 (RT9 i).v).r) ((VT9 (RT9 i).v).sn) ((VT9 (RT9 i).v).sf))) (k_fn (erM C9 ((RT9 i).q) ((VT9 (RT9 i).v).q) ((RT9 i).hs) ((RT9 i).cu) ((RT9 i).kp) ((RT9 i).gv) ((RT9 i).en) ((RT9 i).ed) ((VT9 (RT9 i).v).hs) ((VT9 (RT9 i).v).se) ((VT9 (RT9 i).v).c) ((VT9 (RT9 i).v).g) ((VT9 (RT9 i).v).st) ((VT9 (RT9 i).v).r) ((VT9 (RT9 i).v).sn) ((VT9 (RT9 i).v).sf))) (k_sn (erM C9 ((RT9 i).q) ((VT9 (RT9 i).v).q) ((RT9 i).hs) ((RT9 i).cu) ((RT9 i).kp) ((RT9 i).gv) ((RT9 i).en) ((RT9 i).ed) ((VT9 (RT9 i).v).hs) ((VT9 (RT9 i).v).se) ((VT9 (RT9 i).v).c) ((VT9 (RT9 i).v).g) ((VT9 (RT9 i).v).st) ((VT9 (RT9 i).v).r) ((VT9 (RT9 i).v).sn) ((VT9 (RT9 i).v).sf))) (k_kc (erM C9 ((RT9 i).q) ((VT9 (RT9 i).v).q) ((RT9 i).hs) ((RT9 i).cu) ((RT9 i).kp) ((RT9 i).gv) ((RT9 i).en) ((RT9 i).ed) ((VT9 (RT9 i).v).hs) ((VT9 (RT9 i).v).se) ((VT9 (RT9 i).v).c) ((VT9 (RT9 i).v).g) ((VT9 (RT9 i).v).st) ((VT9 (RT9 i).v).r) ((VT9 (RT9 i).v).sn) ((VT9 (RT9 i).v).sf))) (k_grp (erM C9 ((RT9 i).q) ((VT9 (RT9 i).v).q) ((RT9 i).hs) ((RT9 i).cu) ((RT9 i).kp) ((RT9 i).gv) ((RT9 i).en) ((RT9 i).ed) ((VT9 (RT9 i).v).hs) ((VT9 (RT9 i).v).se) ((VT9 (RT9 i).v).c) ((VT9 (RT9 i).v).g) ((VT9 (RT9 i).v).st) ((VT9 (RT9 i).v).r) ((VT9 (RT9 i).v).sn) ((VT9 (RT9 i).v).sf))) (k_key (erM C9 ((RT9 i).q) ((VT9 (RT9 i).v).q) ((RT9 i).hs) ((RT9 i).cu) ((RT9 i).kp) ((RT9 i).gv) ((RT9 i).en) ((RT9 i).ed) ((VT9 (RT9 i).v).hs) ((VT9 (RT9 i).v).se) ((VT9 (RT9 i).v).c) ((VT9 (RT9 i).v).g) ((VT9 (RT9 i).v).st) ((VT9 (RT9 i).v).r) ((VT9 (RT9 i).v).sn) ((VT9 (RT9 i).v).sf))) (k_srt (erM C9 ((RT9 i).q) ((VT9 (RT9 i).v).q) ((RT9 i).hs) ((RT9 i).cu) ((RT9 i).kp) ((RT9 i).gv) ((RT9 i).en) ((RT9 i).ed) ((VT9 (RT9 i).v).hs) ((VT9 (RT9 i).v).se) ((VT9 (RT9 i).v).c) ((VT9 (RT9 i).v).g) ((VT9 (RT9 i).v).st) ((VT9 (RT9 i).v).r) ((VT9 (RT9 i).v).sn) ((VT9 (RT9 i).v).sf))) (k_wt (erM C9 ((RT9 i).q) ((VT9 (RT9 i).v).q) ((RT9 i).hs) ((RT9 i).cu) ((RT9 i).kp) ((RT9 i).gv) ((RT9 i).en) ((RT9 i).ed) ((VT9 (RT9 i).v).hs) ((VT9 (RT9 i).v).se) ((VT9 (RT9 i).v).c) ((VT9 (RT9 i).v).g) ((VT9 (RT9 i).v).st) ((VT9 (RT9 i).v).r) ((VT9 (RT9 i).v).sn) ((VT9 (RT9 i).v).sf))) (k_home (erM C9 ((RT9 i).q) ((VT9 (RT9 i).v).q) ((RT9 i).hs) ((RT9 i).cu) ((RT9 i).kp) ((RT9 i).gv) ((RT9 i).en) ((RT9 i).ed) ((VT9 (RT9 i).v).hs) ((VT9 (RT9 i).v).se) ((VT9 (RT9 i).v).c) ((VT9 (RT9 i).v).g) ((VT9 (RT9 i).v).st) ((VT9 (RT9 i).v).r) ((VT9 (RT9 i).v).sn) ((VT9 (RT9 i).v).sf))) (k_drp (erM C9 ((RT9 i).q) ((VT9 (RT9 i).v).q) ((RT9 i).hs) ((RT9 i).cu) ((RT9 i).kp) ((RT9 i).gv) ((RT9 i).en) ((RT9 i).ed) ((VT9 (RT9 i).v).hs) ((VT9 (RT9 i).v).se) ((VT9 (RT9 i).v).c) ((VT9 (RT9 i).v).g) ((VT9 (RT9 i).v).st) ((VT9 (RT9 i).v).r) ((VT9 (RT9 i).v).sn) ((VT9 (RT9 i).v).sf))) (k_met (erM C9 ((RT9 i).q) ((VT9 (RT9 i).v).q) ((RT9 i).hs) ((RT9 i).cu) ((RT9 i).kp) ((RT9 i).gv) ((RT9 i).en) ((RT9 i).ed) ((VT9 (RT9 i).v).hs) ((VT9 (RT9 i).v).se) ((VT9 (RT9 i).v).c) ((VT9 (RT9 i).v).g) ((VT9 (RT9 i).v).st) ((VT9 (RT9 i).v).r) ((VT9 (RT9 i).v).sn) ((VT9 (RT9 i).v).sf))) (k_kin (erM C9 ((RT9 i).q) ((VT9 (RT9 i).v).q) ((RT9 i).hs) ((RT9 i).cu) ((RT9 i).kp) ((RT9 i).gv) ((RT9 i).en) ((RT9 i).ed) ((VT9 (RT9 i).v).hs) ((VT9 (RT9 i).v).se) ((VT9 (RT9 i).v).c) ((VT9 (RT9 i).v).g) ((VT9 (RT9 i).v).st) ((VT9 (RT9 i).v).r) ((VT9 (RT9 i).v).sn) ((VT9 (RT9 i).v).sf))) (k_alv (erM C9 ((RT9 i).q) ((VT9 (RT9 i).v).q) ((RT9 i).hs) ((RT9 i).cu) ((RT9 i).kp) ((RT9 i).gv) ((RT9 i).en) ((RT9 i).ed) ((VT9 (RT9 i).v).hs) ((VT9 (RT9 i).v).se) ((VT9 (RT9 i).v).c) ((VT9 (RT9 i).v).g) ((VT9 (RT9 i).v).st) ((VT9 (RT9 i).v).r) ((VT9 (RT9 i).v).sn) ((VT9 (RT9 i).v).sf))) (k_srs (erM C9 ((RT9 i).q) ((VT9 (RT9 i).v).q) ((RT9 i).hs) ((RT9 i).cu) ((RT9 i).kp) ((RT9 i).gv) ((RT9 i).en) ((RT9 i).ed) ((VT9 (RT9 i).v).hs) ((VT9 (RT9 i).v).se) ((VT9 (RT9 i).v).c) ((VT9 (RT9 i).v).g) ((VT9 (RT9 i).v).st) ((VT9 (RT9 i).v).r) ((VT9 (RT9 i).v).sn) ((VT9 (RT9 i).v).sf))) (k_row (erM C9 ((RT9 i).q) ((VT9 (RT9 i).v).q) ((RT9 i).hs) ((RT9 i).cu) ((RT9 i).kp) ((RT9 i).gv) ((RT9 i).en) ((RT9 i).ed) ((VT9 (RT9 i).v).hs) ((VT9 (RT9 i).v).se) ((VT9 (RT9 i).v).c) ((VT9 (RT9 i).v).g) ((VT9 (RT9 i).v).st) ((VT9 (RT9 i).v).r) ((VT9 (RT9 i).v).sn) ((VT9 (RT9 i).v).sf))) (k_sp (erM C9 ((RT9 i).q) ((VT9 (RT9 i).v).q) ((RT9 i).hs) ((RT9 i).cu) ((RT9 i).kp) ((RT9 i).gv) ((RT9 i).en) ((RT9 i).ed) ((VT9 (RT9 i).v).hs) ((VT9 (RT9 i).v).se) ((VT9 (RT9 i).v).c) ((VT9 (RT9 i).v).g) ((VT9 (RT9 i).v).st) ((VT9 (RT9 i).v).r) ((VT9 (RT9 i).v).sn) ((VT9 (RT9 i).v).sf))) (k_kis (erM C9 ((RT9 i).q) ((VT9 (RT9 i).v).q) ((RT9 i).hs) ((RT9 i).cu) ((RT9 i).kp) ((RT9 i).gv) ((RT9 i).en) ((RT9 i).ed) ((VT9 (RT9 i).v).hs) ((VT9 (RT9 i).v).se) ((VT9 (RT9 i).v).c) ((VT9 (RT9 i).v).g) ((VT9 (RT9 i).v).st) ((VT9 (RT9 i).v).r) ((VT9 (RT9 i).v).sn) ((VT9 (RT9 i).v).sf))) (k_pg (erM C9 ((RT9 i).q) ((VT9 (RT9 i).v).q) ((RT9 i).hs) ((RT9 i).cu) ((RT9 i).kp) ((RT9 i).gv) ((RT9 i).en) ((RT9 i).ed) ((VT9 (RT9 i).v).hs) ((VT9 (RT9 i).v).se) ((VT9 (RT9 i).v).c) ((VT9 (RT9 i).v).g) ((VT9 (RT9 i).v).st) ((VT9 (RT9 i).v).r) ((VT9 (RT9 i).v).sn) ((VT9 (RT9 i).v).sf))) (k_vq (erM C9 ((RT9 i).q) ((VT9 (RT9 i).v).q) ((RT9 i).hs) ((RT9 i).cu) ((RT9 i).kp) ((RT9 i).gv) ((RT9 i).en) ((RT9 i).ed) ((VT9 (RT9 i).v).hs) ((VT9 (RT9 i).v).se) ((VT9 (RT9 i).v).c) ((VT9 (RT9 i).v).g) ((VT9 (RT9 i).v).st) ((VT9 (RT9 i).v).r) ((VT9 (RT9 i).v).sn) ((VT9 (RT9 i).v).sf))) (k_rq (erM C9 ((RT9 i).q) ((VT9 (RT9 i).v).q) ((RT9 i).hs) ((RT9 i).cu) ((RT9 i).kp) ((RT9 i).gv) ((RT9 i).en) ((RT9 i).ed) ((VT9 (RT9 i).v).hs) ((VT9 (RT9 i).v).se) ((VT9 (RT9 i).v).c) ((VT9 (RT9 i).v).g) ((VT9 (RT9 i).v).st) ((VT9 (RT9 i).v).r) ((VT9 (RT9 i).v).sn) ((VT9 (RT9 i).v).sf))) (k_L (erM C9 ((RT9 i).q) ((VT9 (RT9 i).v).q) ((RT9 i).hs) ((RT9 i).cu) ((RT9 i).kp) ((RT9 i).gv) ((RT9 i).en) ((RT9 i).ed) ((VT9 (RT9 i).v).hs) ((VT9 (RT9 i).v).se) ((VT9 (RT9 i).v).c) ((VT9 (RT9 i).v).g) ((VT9 (RT9 i).v).st) ((VT9 (RT9 i).v).r) ((VT9 (RT9 i).v).sn) ((VT9 (RT9 i).v).sf))) (k_F (erM C9 ((RT9 i).q) ((VT9 (RT9 i).v).q) ((RT9 i).hs) ((RT9 i).cu) ((RT9 i).kp) ((RT9 i).gv) ((RT9 i).en) ((RT9 i).ed) ((VT9 (RT9 i).v).hs) ((VT9 (RT9 i).v).se) ((VT9 (RT9 i).v).c) ((VT9 (RT9 i).v).g) ((VT9 (RT9 i).v).st) ((VT9 (RT9 i).v).r) ((VT9 (RT9 i).v).sn) ((VT9 (RT9 i).v).sf)))) H := hP
                    have hD : va_D A (kX cI cJ cZ cV cR a (k_ra (erM C9 ((RT9 i).q) ((VT9 (RT9 i).v).q) ((RT9 i).hs) ((RT9 i).cu) ((RT9 i).kp) ((RT9 i).gv) ((RT9 i).en) ((RT9 i).ed) ((VT9 (RT9 i).v).hs) ((VT9 (RT9 i).v).se) ((VT9 (RT9 i).v).c) ((VT9 (RT9 i).v).g) ((VT9 (RT9 i).v).st) ((VT9 (RT9 i).v).r) ((VT9 (RT9 i).v).sn) ((VT9 (RT9 i).v).sf))) (k_rb (erM C9 ((RT9 i).q) ((VT9 (RT9 i).v).q) ((RT9 i).hs) ((RT9 i).cu) ((RT9 i).kp) ((RT9 i).gv) ((RT9 i).en) ((RT9 i).ed) ((VT9 (RT9 i).v).hs) ((VT9 (RT9 i).v).se) ((VT9 (RT9 i).v).c) ((VT9 (RT9 i).v).g) ((VT9 (RT9 i).v).st) ((VT9 (RT9 i).v).r) ((VT9 (RT9 i).v).sn) ((VT9 (RT9 i).v).sf))) (k_vc (erM C9 ((RT9 i).q) ((VT9 (RT9 i).v).q) ((RT9 i).hs) ((RT9 i).cu) ((RT9 i).kp) ((RT9 i).gv) ((RT9 i).en) ((RT9 i).ed) ((VT9 (RT9 i).v).hs) ((VT9 (RT9 i).v).se) ((VT9 (RT9 i).v).c) ((VT9 (RT9 i).v).g) ((VT9 (RT9 i).v).st) ((VT9 (RT9 i).v).r) ((VT9 (RT9 i).v).sn) ((VT9 (RT9 i).v).sf))) (k_rc (erM C9 ((RT9 i).q) ((VT9 (RT9 i).v).q) ((RT9 i).hs) ((RT9 i).cu) ((RT9 i).kp) ((RT9 i).gv) ((RT9 i).en) ((RT9 i).ed) ((VT9 (RT9 i).v).hs) ((VT9 (RT9 i).v).se) ((VT9 (RT9 i).v).c) ((VT9 (RT9 i).v).g) ((VT9 (RT9 i).v).st) ((VT9 (RT9 i).v).r) ((VT9 (RT9 i).v).sn) ((VT9 (RT9 i).v).sf))) (k_pc (erM C9 ((RT9 i).q) ((VT9 (RT9 i).v).q) ((RT9 i).hs) ((RT9 i).cu) ((RT9 i).kp) ((RT9 i).gv) ((RT9 i).en) ((RT9 i).ed) ((VT9 (RT9 i).v).hs) ((VT9 (RT9 i).v).se) ((VT9 (RT9 i).v).c) ((VT9 (RT9 i).v).g) ((VT9 (RT9 i).v).st) ((VT9 (RT9 i).v).r) ((VT9 (RT9 i).v).sn) ((VT9 (RT9 i).v).sf))) (k_nw (erM C9 ((RT9 i).q) ((VT9 (RT9 i).v).q) ((RT9 i).hs) ((RT9 i).cu) ((RT9 i).kp) ((RT9 i).gv) ((RT9 i).en) ((RT9 i).ed) ((VT9 (RT9 i).v).hs) ((VT9 (RT9 i).v).se) ((VT9 (RT9 i).v).c) ((VT9 (RT9 i).v).g) ((VT9 (RT9 i).v).st) ((VT9 (RT9 i).v).r) ((VT9 (RT9 i).v).sn) ((VT9 (RT9 i).v).sf))) (k_n (erM C9 ((RT9 i).q) ((VT9 (RT9 i).v).q) ((RT9 i).hs) ((RT9 i).cu) ((RT9 i).kp) ((RT9 i).gv) ((RT9 i).en) ((RT9 i).ed) ((VT9 (RT9 i).v).hs) ((VT9 (RT9 i).v).se) ((VT9 (RT9 i).v).c) ((VT9 (RT9 i).v).g) ((VT9 (RT9 i).v).st) ((VT9 (RT9 i).v).r) ((VT9 (RT9 i).v).sn) ((VT9 (RT9 i).v).sf))) (k_fn (erM C9 ((RT9 i).q) ((VT9 (RT9 i).v).q) ((RT9 i).hs) ((RT9 i).cu) ((RT9 i).kp) ((RT9 i).gv) ((RT9 i).en) ((RT9 i).ed) ((VT9 (RT9 i).v).hs) ((VT9 (RT9 i).v).se) ((VT9 (RT9 i).v).c) ((VT9 (RT9 i).v).g) ((VT9 (RT9 i).v).st) ((VT9 (RT9 i).v).r) ((VT9 (RT9 i).v).sn) ((VT9 (RT9 i).v).sf))) (k_sn (erM C9 ((RT9 i).q) ((VT9 (RT9 i).v).q) ((RT9 i).hs) ((RT9 i).cu) ((RT9 i).kp) ((RT9 i).gv) ((RT9 i).en) ((RT9 i).ed) ((VT9 (RT9 i).v).hs) ((VT9 (RT9 i).v).se) ((VT9 (RT9 i).v).c) ((VT9 (RT9 i).v).g) ((VT9 (RT9 i).v).st) ((VT9 (RT9 i).v).r) ((VT9 (RT9 i).v).sn) ((VT9 (RT9 i).v).sf))) (k_kc (erM C9 ((RT9 i).q) ((VT9 (RT9 i).v).q) ((RT9 i).hs) ((RT9 i).cu) ((RT9 i).kp) ((RT9 i).gv) ((RT9 i).en) ((RT9 i).ed) ((VT9 (RT9 i).v).hs) ((VT9 (RT9 i).v).se) ((VT9 (RT9 i).v).c) ((VT9 (RT9 i).v).g) ((VT9 (RT9 i).v).st) ((VT9 (RT9 i).v).r) ((VT9 (RT9 i).v).sn) ((VT9 (RT9 i).v).sf))) (k_grp (erM C9 ((RT9 i).q) ((VT9 (RT9 i).v).q) ((RT9 i).hs) ((RT9 i).cu) ((RT9 i).kp) ((RT9 i).gv) ((RT9 i).en) ((RT9 i).ed) ((VT9 (RT9 i).v).hs) ((VT9 (RT9 i).v).se) ((VT9 (RT9 i).v).c) ((VT9 (RT9 i).v).g) ((VT9 (RT9 i).v).st) ((VT9 (RT9 i).v).r) ((VT9 (RT9 i).v).sn) ((VT9 (RT9 i).v).sf))) (k_key (erM C9 ((RT9 i).q) ((VT9 (RT9 i).v).q) ((RT9 i).hs) ((RT9 i).cu) ((RT9 i).kp) ((RT9 i).gv) ((RT9 i).en) ((RT9 i).ed) ((VT9 (RT9 i).v).hs) ((VT9 (RT9 i).v).se) ((VT9 (RT9 i).v).c) ((VT9 (RT9 i).v).g) ((VT9 (RT9 i).v).st) ((VT9 (RT9 i).v).r) ((VT9 (RT9 i).v).sn) ((VT9 (RT9 i).v).sf))) (k_srt (erM C9 ((RT9 i).q) ((VT9 (RT9 i).v).q) ((RT9 i).hs) ((RT9 i).cu) ((RT9 i).kp) ((RT9 i).gv) ((RT9 i).en) ((RT9 i).ed) ((VT9 (RT9 i).v).hs) ((VT9 (RT9 i).v).se) ((VT9 (RT9 i).v).c) ((VT9 (RT9 i).v).g) ((VT9 (RT9 i).v).st) ((VT9 (RT9 i).v).r) ((VT9 (RT9 i).v).sn) ((VT9 (RT9 i).v).sf))) (k_wt (erM C9 ((RT9 i).q) ((VT9 (RT9 i).v).q) ((RT9 i).hs) ((RT9 i).cu) ((RT9 i).kp) ((RT9 i).gv) ((RT9 i).en) ((RT9 i).ed) ((VT9 (RT9 i).v).hs) ((VT9 (RT9 i).v).se) ((VT9 (RT9 i).v).c) ((VT9 (RT9 i).v).g) ((VT9 (RT9 i).v).st) ((VT9 (RT9 i).v).r) ((VT9 (RT9 i).v).sn) ((VT9 (RT9 i).v).sf))) (k_home (erM C9 ((RT9 i).q) ((VT9 (RT9 i).v).q) ((RT9 i).hs) ((RT9 i).cu) ((RT9 i).kp) ((RT9 i).gv) ((RT9 i).en) ((RT9 i).ed) ((VT9 (RT9 i).v).hs) ((VT9 (RT9 i).v).se) ((VT9 (RT9 i).v).c) ((VT9 (RT9 i).v).g) ((VT9 (RT9 i).v).st) ((VT9 (RT9 i).v).r) ((VT9 (RT9 i).v).sn) ((VT9 (RT9 i).v).sf))) (k_drp (erM C9 ((RT9 i).q) ((VT9 (RT9 i).v).q) ((RT9 i).hs) ((RT9 i).cu) ((RT9 i).kp) ((RT9 i).gv) ((RT9 i).en) ((RT9 i).ed) ((VT9 (RT9 i).v).hs) ((VT9 (RT9 i).v).se) ((VT9 (RT9 i).v).c) ((VT9 (RT9 i).v).g) ((VT9 (RT9 i).v).st) ((VT9 (RT9 i).v).r) ((VT9 (RT9 i).v).sn) ((VT9 (RT9 i).v).sf))) (k_met (erM C9 ((RT9 i).q) ((VT9 (RT9 i).v).q) ((RT9 i).hs) ((RT9 i).cu) ((RT9 i).kp) ((RT9 i).gv) ((RT9 i).en) ((RT9 i).ed) ((VT9 (RT9 i).v).hs) ((VT9 (RT9 i).v).se) ((VT9 (RT9 i).v).c) ((VT9 (RT9 i).v).g) ((VT9 (RT9 i).v).st) ((VT9 (RT9 i).v).r) ((VT9 (RT9 i).v).sn) ((VT9 (RT9 i).v).sf))) (k_kin (erM C9 ((RT9 i).q) ((VT9 (RT9 i).v).q) ((RT9 i).hs) ((RT9 i).cu) ((RT9 i).kp) ((RT9 i).gv) ((RT9 i).en) ((RT9 i).ed) ((VT9 (RT9 i).v).hs) ((VT9 (RT9 i).v).se) ((VT9 (RT9 i).v).c) ((VT9 (RT9 i).v).g) ((VT9 (RT9 i).v).st) ((VT9 (RT9 i).v).r) ((VT9 (RT9 i).v).sn) ((VT9 (RT9 i).v).sf))) (k_alv (erM C9 ((RT9 i).q) ((VT9 (RT9 i).v).q) ((RT9 i).hs) ((RT9 i).cu) ((RT9 i).kp) ((RT9 i).gv) ((RT9 i).en) ((RT9 i).ed) ((VT9 (RT9 i).v).hs) ((VT9 (RT9 i).v).se) ((VT9 (RT9 i).v).c) ((VT9 (RT9 i).v).g) ((VT9 (RT9 i).v).st) ((VT9 (RT9 i).v).r) ((VT9 (RT9 i).v).sn) ((VT9 (RT9 i).v).sf))) (k_srs (erM C9 ((RT9 i).q) ((VT9 (RT9 i).v).q) ((RT9 i).hs) ((RT9 i).cu) ((RT9 i).kp) ((RT9 i).gv) ((RT9 i).en) ((RT9 i).ed) ((VT9 (RT9 i).v).hs) ((VT9 (RT9 i).v).se) ((VT9 (RT9 i).v).c) ((VT9 (RT9 i).v).g) ((VT9 (RT9 i).v).st) ((VT9 (RT9 i).v).r) ((VT9 (RT9 i).v).sn) ((VT9 (RT9 i).v).sf))) (k_row (erM C9 ((RT9 i).q) ((VT9 (RT9 i).v).q) ((RT9 i).hs) ((RT9 i).cu) ((RT9 i).kp) ((RT9 i).gv) ((RT9 i).en) ((RT9 i).ed) ((VT9 (RT9 i).v).hs) ((VT9 (RT9 i).v).se) ((VT9 (RT9 i).v).c) ((VT9 (RT9 i).v).g) ((VT9 (RT9 i).v).st) ((VT9 (RT9 i).v).r) ((VT9 (RT9 i).v).sn) ((VT9 (RT9 i).v).sf))) (k_sp (erM C9 ((RT9 i).q) ((VT9 (RT9 i).v).q) ((RT9 i).hs) ((RT9 i).cu) ((RT9 i).kp) ((RT9 i).gv) ((RT9 i).en) ((RT9 i).ed) ((VT9 (RT9 i).v).hs) ((VT9 (RT9 i).v).se) ((VT9 (RT9 i).v).c) ((VT9 (RT9 i).v).g) ((VT9 (RT9 i).v).st) ((VT9 (RT9 i).v).r) ((VT9 (RT9 i).v).sn) ((VT9 (RT9 i).v).sf))) (k_kis (erM C9 ((RT9 i).q) ((VT9 (RT9 i).v).q) ((RT9 i).hs) ((RT9 i).cu) ((RT9 i).kp) ((RT9 i).gv) ((RT9 i).en) ((RT9 i).ed) ((VT9 (RT9 i).v).hs) ((VT9 (RT9 i).v).se) ((VT9 (RT9 i).v).c) ((VT9 (RT9 i).v).g) ((VT9 (RT9 i).v).st) ((VT9 (RT9 i).v).r) ((VT9 (RT9 i).v).sn) ((VT9 (RT9 i).v).sf))) (k_pg (erM C9 ((RT9 i).q) ((VT9 (RT9 i).v).q) ((RT9 i).hs) ((RT9 i).cu) ((RT9 i).kp) ((RT9 i).gv) ((RT9 i).en) ((RT9 i).ed) ((VT9 (RT9 i).v).hs) ((VT9 (RT9 i).v).se) ((VT9 (RT9 i).v).c) ((VT9 (RT9 i).v).g) ((VT9 (RT9 i).v).st) ((VT9 (RT9 i).v).r) ((VT9 (RT9 i).v).sn) ((VT9 (RT9 i).v).sf))) (k_vq (erM C9 ((RT9 i).q) ((VT9 (RT9 i).v).q) ((RT9 i).hs) ((RT9 i).cu) ((RT9 i).kp) ((RT9 i).gv) ((RT9 i).en) ((RT9 i).ed) ((VT9 (RT9 i).v).hs) ((VT9 (RT9 i).v).se) ((VT9 (RT9 i).v).c) ((VT9 (RT9 i).v).g) ((VT9 (RT9 i).v).st) ((VT9 (RT9 i).v).r) ((VT9 (RT9 i).v).sn) ((VT9 (RT9 i).v).sf))) (k_rq (erM C9 ((RT9 i).q) ((VT9 (RT9 i).v).q) ((RT9 i).hs) ((RT9 i).cu) ((RT9 i).kp) ((RT9 i).gv) ((RT9 i).en) ((RT9 i).ed) ((VT9 (RT9 i).v).hs) ((VT9 (RT9 i).v).se) ((VT9 (RT9 i).v).c) ((VT9 (RT9 i).v).g) ((VT9 (RT9 i).v).st) ((VT9 (RT9 i).v).r) ((VT9 (RT9 i).v).sn) ((VT9 (RT9 i).v).sf))) (k_L (erM C9 ((RT9 i).q) ((VT9 (RT9 i).v).q) ((RT9 i).hs) ((RT9 i).cu) ((RT9 i).kp) ((RT9 i).gv) ((RT9 i).en) ((RT9 i).ed) ((VT9 (RT9 i).v).hs) ((VT9 (RT9 i).v).se) ((VT9 (RT9 i).v).c) ((VT9 (RT9 i).v).g) ((VT9 (RT9 i).v).st) ((VT9 (RT9 i).v).r) ((VT9 (RT9 i).v).sn) ((VT9 (RT9 i).v).sf))) (k_F (erM C9 ((RT9 i).q) ((VT9 (RT9 i).v).q) ((RT9 i).hs) ((RT9 i).cu) ((RT9 i).kp) ((RT9 i).gv) ((RT9 i).en) ((RT9 i).ed) ((VT9 (RT9 i).v).hs) ((VT9 (RT9 i).v).se) ((VT9 (RT9 i).v).c) ((VT9 (RT9 i).v).g) ((VT9 (RT9 i).v).st) ((VT9 (RT9 i).v).r) ((VT9 (RT9 i).v).sn) ((VT9 (RT9 i).v).sf)))) := hD
                    refine lv_pop hx hb dX5_tick_97 rfl ?_
                    refine lv_iinc (v := nI (k + 1)) (lv' := [(2, .int (nI (k + 1))), (4, .ref ((RT9 i).q)), (0, .ref (a 0)), (1, .int (nI (n9))), (3, .int (nI (i)))]) hx hb dX5_tick_98 hl (k := 3) rfl (nI_inc _) (by decide) rfl (fun ls hl => ?_)
                    refine lv_iinc (v := nI (i + 1)) (lv' := [(3, .int (nI (i + 1))), (2, .int (nI (k + 1))), (4, .ref ((RT9 i).q)), (0, .ref (a 0)), (1, .int (nI (n9)))]) hx hb dX5_tick_101 hl (k := 4) rfl (nI_inc _) (by decide) rfl (fun ls hl => ?_)
                    refine lv_goto (tgt := 48) hx hb dX5_tick_104 (by decide) ?_
                    have hPm : va_P D vwCl (kW cI cJ cZ cV cR a (erM C9 ((RT9 i).q) ((VT9 (RT9 i).v).q) ((RT9 i).hs) ((RT9 i).cu) ((RT9 i).kp) ((RT9 i).gv) ((RT9 i).en) ((RT9 i).ed) ((VT9 (RT9 i).v).hs) ((VT9 (RT9 i).v).se) ((VT9 (RT9 i).v).c) ((VT9 (RT9 i).v).g) ((VT9 (RT9 i).v).st) ((VT9 (RT9 i).v).r) ((VT9 (RT9 i).v).sn) ((VT9 (RT9 i).v).sf))) H := by exact hP
                    have hDm : va_D A (kW cI cJ cZ cV cR a (erM C9 ((RT9 i).q) ((VT9 (RT9 i).v).q) ((RT9 i).hs) ((RT9 i).cu) ((RT9 i).kp) ((RT9 i).gv) ((RT9 i).en) ((RT9 i).ed) ((VT9 (RT9 i).v).hs) ((VT9 (RT9 i).v).se) ((VT9 (RT9 i).v).c) ((VT9 (RT9 i).v).g) ((VT9 (RT9 i).v).st) ((VT9 (RT9 i).v).r) ((VT9 (RT9 i).v).sn) ((VT9 (RT9 i).v).sf))) := by exact hD
                    have hP : va_P D vwCl (kW cI cJ cZ cV cR a (erU C9 VT9 RT9 i)) H := hPm
                    have hD : va_D A (kW cI cJ cZ cV cR a (erU C9 VT9 RT9 i)) := hDm
                    exact ih48 (i + 1) (k + 1) (erU C9 VT9 RT9 i) (erV VT9 RT9 i) (erT RT9 i) _ _ (by omega) (by omega) (TI.tr hTI (by omega) (by rw [tkC, c68_6, c76_7]; exact decide_eq_true (by omega))) hP hD hS ls (lv_sub hl [3, 4, 1, 0] rfl)
        have hPm : va_P D vwCl (kW cI cJ cZ cV cR a (mkC (k_ra C) (k_rb C) (k_vc C) (k_rc C) (k_pc C) (k_nw C + n9) (k_n C) (k_fn C) (k_sn C) (k_kc C) (k_grp C) (k_key C) (k_srt C) (k_wt C) (k_home C) (k_drp C) (k_met C) (k_kin C) (k_alv C) (k_srs C) (k_row C) (k_sp C) (k_kis C) (k_pg C) (k_vq C) (k_rq C) (k_L C) (k_F C))) H := by rw [← kX_mk]; exact hP
        have hDm : va_D A (kW cI cJ cZ cV cR a (mkC (k_ra C) (k_rb C) (k_vc C) (k_rc C) (k_pc C) (k_nw C + n9) (k_n C) (k_fn C) (k_sn C) (k_kc C) (k_grp C) (k_key C) (k_srt C) (k_wt C) (k_home C) (k_drp C) (k_met C) (k_kin C) (k_alv C) (k_srs C) (k_row C) (k_sp C) (k_kis C) (k_pg C) (k_vq C) (k_rq C) (k_L C) (k_F C))) := by rw [← kX_mk]; exact hD
        have hP : va_P D vwCl (kW cI cJ cZ cV cR a (nwM C n9)) H := hPm
        have hD : va_D A (kW cI cJ cZ cV cR a (nwM C n9)) := hDm
        exact hlp48 _ (0) (0) (nwM C n9) (VT) (RT) _ _ (Nat.lt_succ_self _) (Nat.zero_le _) (TI.zero hPR hAI) hP hD hS ls (lv_sub hl [2, 3, 1, 0] rfl)
      · exfalso; omega
def rmx_X5_tick : Room := { frames := 6, cells := 1, slots := 6, locals := 82 }
set_option maxHeartbeats 4000000 in
set_option maxRecDepth 100000 in
/-- no such time -/
theorem x_X5_tick (l : Launch) (htr : l.stackTraces = false) (D : va_G) (cI cJ cZ cV cR : ClassId) (a : Nat → Nat) (C : CT) (hM : kOk C) (x : Int32) (hbad : x.toInt < 0 ∨ 10000 < x.toInt ∨ 1000000000 - x.toInt < k_nw C) (sz : Nat) : vx_Met l yX5_tick wsX5_tick rmx_X5_tick (va_Pc [.ref (a 0), .int (x)] (GX D (tyK cI cJ cZ cV cR) (kW cI cJ cZ cV cR a C) sz)) xNo (xXC D (tyK cI cJ cZ cV cR) "java/lang/IllegalArgumentException" (fun u : CT => u = C) (kW cI cJ cZ cV cR a) (va_A (kW cI cJ cZ cV cR a C) sz)) 1 6 (va_A (kW cI cJ cZ cV cR a C) sz) := by
  obtain ⟨hn, hfn, hsn, hvc, hrc, hpc, hnw, hkc, h_home, h_kin, h_alv, h_srs, h_row, h_sp, h_kis, h_pg⟩ := id hM
  refine vx_ofW (cc := cX5_tick) (maxL := 5) (ret := (some .int)) (by decide) rfl ?_
  intro p e s m args below meth c s₁ B hml hout hv
  obtain ⟨rfl, ⟨hsz, hP, hK, hD0⟩, hXE⟩ := hv
  have hx := B.exec
  have hb := B.bytes
  have hr := B.returns
  have hts := atoms_spec (ws := wsX5_tick) B.pre
  have hown : s.vm.findClass RX5 = some m.cls := findClass_of_methodNamed B.named
  have hlocks := B.notSynchronized
  subst hsz
  have hD := hD0.self (sz := s.heap.size)
  generalize hAe : va_A (kW cI cJ cZ cV cR a C) s.heap.size = A at hD hXE ⊢
  have hA : ∀ q : Nat, s.heap.size ≤ q → A q := fun q h => by rw [← hAe]; exact Or.inr h
  have hS : va_S A s.heap s.heap [] := va_S.rf
  have hP : va_P D vwCl (kX cI cJ cZ cV cR a (k_ra C) (k_rb C) (k_vc C) (k_rc C) (k_pc C) (k_nw C) (k_n C) (k_fn C) (k_sn C) (k_kc C) (k_grp C) (k_key C) (k_srt C) (k_wt C) (k_home C) (k_drp C) (k_met C) (k_kin C) (k_alv C) (k_srs C) (k_row C) (k_sp C) (k_kis C) (k_pg C) (k_vq C) (k_rq C) (k_L C) (k_F C)) s.heap := hP
  have hD : va_D A (kX cI cJ cZ cV cR a (k_ra C) (k_rb C) (k_vc C) (k_rc C) (k_pc C) (k_nw C) (k_n C) (k_fn C) (k_sn C) (k_kc C) (k_grp C) (k_key C) (k_srt C) (k_wt C) (k_home C) (k_drp C) (k_met C) (k_kin C) (k_alv C) (k_srs C) (k_row C) (k_sp C) (k_kis C) (k_pg C) (k_vq C) (k_rq C) (k_L C) (k_F C)) := hD
  have hiX5 : ∀ w ∈ wsX50, w ∈ wsX5_tick := by decide +kernel
  have hf0 := hts (.classLink RX5 226 "java/lang/IllegalArgumentException") (by decide +kernel)
  have hf1 := hts (.initialized "java/lang/IllegalArgumentException") (by decide +kernel)
  have hf2 := hts (.fieldLink RX5 58 "GroupCursors" "now" "I") (by decide +kernel)
  have hf3 := hts (.constant RX5 275 (1000000000)) (by decide +kernel)
  have hl := lv_entry ([.ref (a 0), .int (x)]) (n := 5) (Nat.le_of_ble_eq_true rfl)
  rw [lg_entry_eq]
  generalize (lg_sl ([.ref (a 0), .int (x)]) ++ List.replicate (5 - (lg_sl ([.ref (a 0), .int (x)])).length) Slot.unset).toArray = ls at hl ⊢
  have hl : lv_has ls 5 [(0, .ref (a 0)), (1, .int (x))] := hl
  refine lv_iload_n hx hb dX5_tick_0 rfl (lv_at hl 1 rfl) ?_
  refine wz_if_lt (tgt := 23) hx hb ((x).toInt) rfl dX5_tick_1 (by decide) (fun c1_1 => ?_) (fun c1_1 => ?_)
  · have hPm : va_P D vwCl (kW cI cJ cZ cV cR a C) s.heap := by exact hP
    have hDm : va_D A (kW cI cJ cZ cV cR a C) := by exact hD
    obtain ⟨sa, hsa⟩ := hXE.2.2.2.2 ("GroupCursors", 276, "n is not 0 .. 10000, or too late") (by decide)
    exact vx_throwSW hx hb htr hown (by decide) (by decide) hf0 hf1 hsa (xat_X5_230 hXE (fun w hw => hts w (by unfold wsX5_tick; simp only [List.mem_cons, List.mem_append, hw, or_true, true_or]))) xgd_X5_230 hXE.1 hXE.2.1 hS (hl.1.trans hml.symm) dX5_tick_23 dX5_tick_26 dX5_tick_27 dX5_tick_30 dX5_tick_33 (fun x h => (hout x h).elim) (Nat.le_of_ble_eq_true rfl) (Nat.le_of_ble_eq_true rfl) (Nat.le_of_ble_eq_true rfl) (Nat.le_of_ble_eq_true rfl) hlocks (xxc_mk C rfl hPm hK hDm hS) hS.2.2 (Nat.le_refl _) (Nat.le_refl _)
  · refine lv_iload_n hx hb dX5_tick_4 rfl (lv_at hl 1 rfl) ?_
    refine lv_sipush (v := nI (10000)) hx hb dX5_tick_5 (by decide) ?_
    refine wz_icmp_gt (tgt := 23) hx hb ((x).toInt) (((10000 : Nat) : Int)) rfl (nI_z (by omega)) dX5_tick_8 (by decide) (fun c8_2 => ?_) (fun c8_2 => ?_)
    · have hPm : va_P D vwCl (kW cI cJ cZ cV cR a C) s.heap := by exact hP
      have hDm : va_D A (kW cI cJ cZ cV cR a C) := by exact hD
      obtain ⟨sa, hsa⟩ := hXE.2.2.2.2 ("GroupCursors", 276, "n is not 0 .. 10000, or too late") (by decide)
      exact vx_throwSW hx hb htr hown (by decide) (by decide) hf0 hf1 hsa (xat_X5_230 hXE (fun w hw => hts w (by unfold wsX5_tick; simp only [List.mem_cons, List.mem_append, hw, or_true, true_or]))) xgd_X5_230 hXE.1 hXE.2.1 hS (hl.1.trans hml.symm) dX5_tick_23 dX5_tick_26 dX5_tick_27 dX5_tick_30 dX5_tick_33 (fun x h => (hout x h).elim) (Nat.le_of_ble_eq_true rfl) (Nat.le_of_ble_eq_true rfl) (Nat.le_of_ble_eq_true rfl) (Nat.le_of_ble_eq_true rfl) hlocks (xxc_mk C rfl hPm hK hDm hS) hS.2.2 (Nat.le_refl _) (Nat.le_refl _)
    · refine lv_aload_n hx hb dX5_tick_11 rfl (lv_at hl 0 rfl) ?_
      refine va_get (ci := 5) (v := .int (nI (k_nw C))) (C := RX5) (T := TX5) (N := 10) hx hb hts hiX5 hown hK hP 0 rfl rfl 9 (by decide) hf2 (fun _ h9 => h9) rfl dX5_tick_12 ?_
      refine lv_ldcw (v := (1000000000)) hx hb hown hf3 dX5_tick_15 ?_
      refine ww_top (show ((1000000000) : Int32) = nI (1000000000) by decide) ?_
      refine lv_iload_n hx hb dX5_tick_18 rfl (lv_at hl 1 rfl) ?_
      refine lv_isub hx hb dX5_tick_19 (ww_top (y := zI (((1000000000 : Nat) : Int) - (x).toInt)) (iz_sub (nI_z (by omega)) rfl) ?_)
      refine wz_icmp_le (tgt := 34) hx hb (((k_nw C : Nat) : Int)) ((((1000000000 : Nat) : Int) - (x).toInt : Int)) (nI_z (by omega)) (zI_toInt (by omega) (by omega)) dX5_tick_20 (by decide) (fun c20_3 => ?_) (fun c20_3 => ?_)
      · exfalso; omega
      · have hPm : va_P D vwCl (kW cI cJ cZ cV cR a C) s.heap := by exact hP
        have hDm : va_D A (kW cI cJ cZ cV cR a C) := by exact hD
        obtain ⟨sa, hsa⟩ := hXE.2.2.2.2 ("GroupCursors", 276, "n is not 0 .. 10000, or too late") (by decide)
        exact vx_throwSW hx hb htr hown (by decide) (by decide) hf0 hf1 hsa (xat_X5_230 hXE (fun w hw => hts w (by unfold wsX5_tick; simp only [List.mem_cons, List.mem_append, hw, or_true, true_or]))) xgd_X5_230 hXE.1 hXE.2.1 hS (hl.1.trans hml.symm) dX5_tick_23 dX5_tick_26 dX5_tick_27 dX5_tick_30 dX5_tick_33 (fun x h => (hout x h).elim) (Nat.le_of_ble_eq_true rfl) (Nat.le_of_ble_eq_true rfl) (Nat.le_of_ble_eq_true rfl) (Nat.le_of_ble_eq_true rfl) hlocks (xxc_mk C rfl hPm hK hDm hS) hS.2.2 (Nat.le_refl _) (Nat.le_refl _)
