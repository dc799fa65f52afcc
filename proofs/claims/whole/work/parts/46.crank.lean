def rm_X0_mergeRuns : Room := { frames := 1, cells := 0, slots := 0, locals := 22 }
set_option maxHeartbeats 4000000 in
set_option maxRecDepth 100000 in
/-- two runs are merged -/
theorem c_X0_mergeRuns (l : Launch) (D : va_G) (cI cJ cZ cV cR : ClassId) (a : Nat → Nat) (C : CT) (hM : kOk C) (fr md to : Nat) (h1 : fr ≤ md) (h2 : md ≤ to) (h3 : to ≤ 300) (sz : Nat) : Met l yX0_mergeRuns wsX0_mergeRuns rm_X0_mergeRuns (va_Pc [.ref (a 11), .int (nI (fr)), .int (nI (md)), .int (nI (to))] (GW D (tyK cI cJ cZ cV cR) (kW cI cJ cZ cV cR a C) sz)) (va_Qv (fun u => u = mrM C fr md to) (fun u => GB D (tyK cI cJ cZ cV cR) (va_A (kW cI cJ cZ cV cR a C) sz) (kW cI cJ cZ cV cR a u)) (va_A (kW cI cJ cZ cV cR a C) sz)) 0 0 (va_A (kW cI cJ cZ cV cR a C) sz) := by
  obtain ⟨hn, hfn, hsn, hvc, hrc, hpc, hnw, hkc, h_home, h_kin, h_alv, h_srs, h_row, h_sp, h_kis, h_pg⟩ := id hM
  refine Met.ofW (cc := cX0_mergeRuns) (maxL := 7) (ret := none) (by decide) rfl ?_
  intro p e s m args below meth c s₁ B hml hv
  obtain ⟨rfl, hsz, hP, hK, hD0⟩ := hv
  have hx := B.exec
  have hb := B.bytes
  have hr := B.returns
  have hts := atoms_spec (ws := wsX0_mergeRuns) B.pre
  have hown : s.vm.findClass RX0 = some m.cls := findClass_of_methodNamed B.named
  have hlocks := B.notSynchronized
  subst hsz
  have hD := hD0.self (sz := s.heap.size)
  generalize hAe : va_A (kW cI cJ cZ cV cR a C) s.heap.size = A at hD ⊢
  have hA : ∀ q : Nat, s.heap.size ≤ q → A q := fun q h => by rw [← hAe]; exact Or.inr h
  have hS : va_S A s.heap s.heap [] := va_S.rf
  have hP : va_P D vwCl (kX cI cJ cZ cV cR a (k_ra C) (k_rb C) (k_vc C) (k_rc C) (k_pc C) (k_nw C) (k_n C) (k_fn C) (k_sn C) (k_kc C) (k_grp C) (k_key C) (k_srt C) (k_wt C) (k_home C) (k_drp C) (k_met C) (k_kin C) (k_alv C) (k_srs C) (k_row C) (k_sp C) (k_kis C) (k_pg C) (k_vq C) (k_rq C) (k_L C) (k_F C)) s.heap := hP
  have hD : va_D A (kX cI cJ cZ cV cR a (k_ra C) (k_rb C) (k_vc C) (k_rc C) (k_pc C) (k_nw C) (k_n C) (k_fn C) (k_sn C) (k_kc C) (k_grp C) (k_key C) (k_srt C) (k_wt C) (k_home C) (k_drp C) (k_met C) (k_kin C) (k_alv C) (k_srs C) (k_row C) (k_sp C) (k_kis C) (k_pg C) (k_vq C) (k_rq C) (k_L C) (k_F C)) := hD
  have hiX0 : ∀ w ∈ wsX00, w ∈ wsX0_mergeRuns := by decide +kernel
  have hf0 := hts (.fieldLink RX0 15 "GroupCursors$Ranking" "spare" "[I") (by decide +kernel)
  have hf1 := hts (.fieldLink RX0 9 "GroupCursors$Ranking" "row" "[I") (by decide +kernel)
  have hl := lv_entry ([.ref (a 11), .int (nI (fr)), .int (nI (md)), .int (nI (to))]) (n := 7) (Nat.le_of_ble_eq_true rfl)
  rw [lg_entry_eq]
  generalize (lg_sl ([.ref (a 11), .int (nI (fr)), .int (nI (md)), .int (nI (to))]) ++ List.replicate (7 - (lg_sl ([.ref (a 11), .int (nI (fr)), .int (nI (md)), .int (nI (to))])).length) Slot.unset).toArray = ls at hl ⊢
  have hl : lv_has ls 7 [(0, .ref (a 11)), (1, .int (nI (fr))), (2, .int (nI (md))), (3, .int (nI (to)))] := hl
  refine lv_iload_n hx hb dX0_mergeRuns_0 rfl (lv_at hl 1 rfl) ?_
  refine lv_istore (lv' := [(4, .int (nI (fr))), (0, .ref (a 11)), (1, .int (nI (fr))), (2, .int (nI (md))), (3, .int (nI (to)))]) hx hb dX0_mergeRuns_1 hl (by decide) rfl (fun ls hl => ?_)
  refine lv_iload_n hx hb dX0_mergeRuns_3 rfl (lv_at hl 3 rfl) ?_
  refine lv_istore (lv' := [(5, .int (nI (md))), (4, .int (nI (fr))), (0, .ref (a 11)), (1, .int (nI (fr))), (2, .int (nI (md))), (3, .int (nI (to)))]) hx hb dX0_mergeRuns_4 hl (by decide) rfl (fun ls hl => ?_)
  refine lv_iload_n hx hb dX0_mergeRuns_6 rfl (lv_at hl 3 rfl) ?_
  refine lv_istore (lv' := [(6, .int (nI (fr))), (5, .int (nI (md))), (4, .int (nI (fr))), (0, .ref (a 11)), (1, .int (nI (fr))), (2, .int (nI (md))), (3, .int (nI (to)))]) hx hb dX0_mergeRuns_7 hl (by decide) rfl (fun ls hl => ?_)
  have hlp9 : ∀ (d : Nat) (i : Nat) (aa : Nat) (bb : Nat) (j : Nat) (f : Nat → Nat) (H : Heap) (locs : List Loc), to - i < d → (i = fr + j) → (i ≤ to) → (mrI (k_row C) (k_wt C) (k_key C) (k_sp C) fr md to j = (aa, bb, f)) → (fr ≤ aa) → (aa ≤ md) → (md ≤ bb) → (bb ≤ to) → (aa + bb = fr + md + j) → va_P D vwCl (kX cI cJ cZ cV cR a (k_ra C) (k_rb C) (k_vc C) (k_rc C) (k_pc C) (k_nw C) (k_n C) (k_fn C) (k_sn C) (k_kc C) (k_grp C) (k_key C) (k_srt C) (k_wt C) (k_home C) (k_drp C) (k_met C) (k_kin C) (k_alv C) (k_srs C) (k_row C) (f) (k_kis C) (k_pg C) (k_vq C) (k_rq C) (k_L C) (k_F C)) H → va_D A (kX cI cJ cZ cV cR a (k_ra C) (k_rb C) (k_vc C) (k_rc C) (k_pc C) (k_nw C) (k_n C) (k_fn C) (k_sn C) (k_kc C) (k_grp C) (k_key C) (k_srt C) (k_wt C) (k_home C) (k_drp C) (k_met C) (k_kin C) (k_alv C) (k_srs C) (k_row C) (f) (k_kis C) (k_pg C) (k_vq C) (k_rq C) (k_L C) (k_F C)) → va_S A s.heap H locs → ∀ (ls : Array Slot), lv_has ls 7 [(0, .ref (a 11)), (1, .int (nI (fr))), (2, .int (nI (md))), (3, .int (nI (to))), (4, .int (nI (aa))), (5, .int (nI (bb))), (6, .int (nI (i)))] → W p l e (headSpec wsX0_mergeRuns rm_X0_mergeRuns).room s m ([.ref (a 11), .int (nI (fr)), .int (nI (md)), .int (nI (to))] : List Value).toArray below meth c H locs (0) (0) (MQ below (va_Qv (fun u => u = mrM C fr md to) (fun u => GB D (tyK cI cJ cZ cV cR) A (kW cI cJ cZ cV cR a u)) A) ([.ref (a 11), .int (nI (fr)), .int (nI (md)), .int (nI (to))] : List Value).toArray s 0 0 A) (F0 m 9 ls []) := by
    intro d
    induction d with
    | zero => intro i aa bb j f H locs hd9; exact absurd hd9 (Nat.not_lt_zero _)
    | succ d ih9 =>
      intro i aa bb j f H locs hd9 hij hit hm ha1 ha2 hb1 hb2 hab hP hD hS ls hl
      have hra := h_row aa
      have hrb := h_row bb
      have hfs : ∀ j, f j < 300 := by have := mrI_lt (wt := k_wt C) (key := k_key C) (fr := fr) (md := md) (to := to) h_row h_sp j; rw [hm] at this; exact this
      refine lv_iload hx hb dX0_mergeRuns_9 (lv_at hl 6 rfl) ?_
      refine lv_iload_n hx hb dX0_mergeRuns_11 rfl (lv_at hl 3 rfl) ?_
      refine wn_icmp_ge (a := i) (b := to) (tgt := 91) hx hb (nI_z (by omega)) (nI_z (by omega)) dX0_mergeRuns_12 (by decide) (fun c12_1 => ?_) (fun c12_1 => ?_)
      · have hPm : va_P D vwCl (kW cI cJ cZ cV cR a (mkC (k_ra C) (k_rb C) (k_vc C) (k_rc C) (k_pc C) (k_nw C) (k_n C) (k_fn C) (k_sn C) (k_kc C) (k_grp C) (k_key C) (k_srt C) (k_wt C) (k_home C) (k_drp C) (k_met C) (k_kin C) (k_alv C) (k_srs C) (k_row C) (f) (k_kis C) (k_pg C) (k_vq C) (k_rq C) (k_L C) (k_F C))) H := by rw [← kX_mk]; exact hP
        have hDm : va_D A (kW cI cJ cZ cV cR a (mkC (k_ra C) (k_rb C) (k_vc C) (k_rc C) (k_pc C) (k_nw C) (k_n C) (k_fn C) (k_sn C) (k_kc C) (k_grp C) (k_key C) (k_srt C) (k_wt C) (k_home C) (k_drp C) (k_met C) (k_kin C) (k_alv C) (k_srs C) (k_row C) (f) (k_kis C) (k_pg C) (k_vq C) (k_rq C) (k_L C) (k_F C))) := by rw [← kX_mk]; exact hD
        exact W.vret hx hb hr (fun t ht hW => ⟨⟨(mkC (k_ra C) (k_rb C) (k_vc C) (k_rc C) (k_pc C) (k_nw C) (k_n C) (k_fn C) (k_sn C) (k_kc C) (k_grp C) (k_key C) (k_srt C) (k_wt C) (k_home C) (k_drp C) (k_met C) (k_kin C) (k_alv C) (k_srs C) (k_row C) (f) (k_kis C) (k_pg C) (k_vq C) (k_rq C) (k_L C) (k_F C)), rfl, (by rw [mrM, mrF, (show to - fr = j by omega), hm]), gb_mk ht hW hPm hK hDm⟩, hS.F ht⟩) hS.2.2 dX0_mergeRuns_91
      · refine lv_iload hx hb dX0_mergeRuns_15 (lv_at hl 5 rfl) ?_
        refine lv_iload_n hx hb dX0_mergeRuns_17 rfl (lv_at hl 3 rfl) ?_
        refine wn_icmp_ge (a := bb) (b := to) (tgt := 48) hx hb (nI_z (by omega)) (nI_z (by omega)) dX0_mergeRuns_18 (by decide) (fun c18_2 => ?_) (fun c18_2 => ?_)
        · refine lv_aload_n hx hb dX0_mergeRuns_48 rfl (lv_at hl 0 rfl) ?_
          refine va_get (ci := 0) (v := .ref (k_rb C)) (C := RX0) (T := TX0) (N := 7) hx hb hts hiX0 hown hK hP 11 rfl rfl 2 (by decide) hf0 (fun _ h9 => h9) rfl dX0_mergeRuns_49 ?_
          refine lv_iload hx hb dX0_mergeRuns_52 (lv_at hl 6 rfl) ?_
          refine lv_aload_n hx hb dX0_mergeRuns_54 rfl (lv_at hl 0 rfl) ?_
          refine va_get (ci := 0) (v := .ref (k_ra C)) (C := RX0) (T := TX0) (N := 7) hx hb hts hiX0 hown hK hP 11 rfl rfl 1 (by decide) hf1 (fun _ h9 => h9) rfl dX0_mergeRuns_55 ?_
          refine lv_iload hx hb dX0_mergeRuns_58 (lv_at hl 4 rfl) ?_
          refine wa_i (i := aa) (v := nI (k_row C aa)) hx hb hK hP 12 0 rfl rfl rfl (by omega) (by decide) dX0_mergeRuns_60 ?_
          refine wa_ist (i := i) hx hb hK hP hD hS 13 0 rfl rfl (upd_nI (f) (i) (k_row C aa)) (by omega) (by decide) dX0_mergeRuns_61 (fun H locs hP hD hS => ?_)
          have hP : va_P D vwCl (kX cI cJ cZ cV cR a (k_ra C) (k_rb C) (k_vc C) (k_rc C) (k_pc C) (k_nw C) (k_n C) (k_fn C) (k_sn C) (k_kc C) (k_grp C) (k_key C) (k_srt C) (k_wt C) (k_home C) (k_drp C) (k_met C) (k_kin C) (k_alv C) (k_srs C) (k_row C) (va_up (f) (i) (k_row C aa)) (k_kis C) (k_pg C) (k_vq C) (k_rq C) (k_L C) (k_F C)) H := hP
          have hD : va_D A (kX cI cJ cZ cV cR a (k_ra C) (k_rb C) (k_vc C) (k_rc C) (k_pc C) (k_nw C) (k_n C) (k_fn C) (k_sn C) (k_kc C) (k_grp C) (k_key C) (k_srt C) (k_wt C) (k_home C) (k_drp C) (k_met C) (k_kin C) (k_alv C) (k_srs C) (k_row C) (va_up (f) (i) (k_row C aa)) (k_kis C) (k_pg C) (k_vq C) (k_rq C) (k_L C) (k_F C)) := hD
          refine lv_iinc (v := nI (aa + 1)) (lv' := [(4, .int (nI (aa + 1))), (0, .ref (a 11)), (1, .int (nI (fr))), (2, .int (nI (md))), (3, .int (nI (to))), (5, .int (nI (bb))), (6, .int (nI (i)))]) hx hb dX0_mergeRuns_62 hl (k := 4) rfl (nI_inc _) (by decide) rfl (fun ls hl => ?_)
          refine lv_goto (tgt := 85) hx hb dX0_mergeRuns_65 (by decide) ?_
          refine lv_iinc (v := nI (i + 1)) (lv' := [(6, .int (nI (i + 1))), (4, .int (nI (aa + 1))), (0, .ref (a 11)), (1, .int (nI (fr))), (2, .int (nI (md))), (3, .int (nI (to))), (5, .int (nI (bb)))]) hx hb dX0_mergeRuns_85 hl (k := 6) rfl (nI_inc _) (by decide) rfl (fun ls hl => ?_)
          refine lv_goto (tgt := 9) hx hb dX0_mergeRuns_88 (by decide) ?_
          exact ih9 (i + 1) (aa + 1) (bb) (j + 1) (va_up (f) (i) (k_row C aa)) _ _ (by omega) (by omega) (by omega) (by rw [hij]; exact mrI_t hm (Or.inl (by omega))) (by omega) (by omega) (by omega) (by omega) (by omega) hP hD hS ls (lv_sub hl [2, 3, 4, 5, 1, 6, 0] rfl)
        · refine lv_iload hx hb dX0_mergeRuns_21 (lv_at hl 4 rfl) ?_
          refine lv_iload_n hx hb dX0_mergeRuns_23 rfl (lv_at hl 2 rfl) ?_
          refine wn_icmp_ge (a := aa) (b := md) (tgt := 68) hx hb (nI_z (by omega)) (nI_z (by omega)) dX0_mergeRuns_24 (by decide) (fun c24_3 => ?_) (fun c24_3 => ?_)
          · refine lv_aload_n hx hb dX0_mergeRuns_68 rfl (lv_at hl 0 rfl) ?_
            refine va_get (ci := 0) (v := .ref (k_rb C)) (C := RX0) (T := TX0) (N := 7) hx hb hts hiX0 hown hK hP 11 rfl rfl 2 (by decide) hf0 (fun _ h9 => h9) rfl dX0_mergeRuns_69 ?_
            refine lv_iload hx hb dX0_mergeRuns_72 (lv_at hl 6 rfl) ?_
            refine lv_aload_n hx hb dX0_mergeRuns_74 rfl (lv_at hl 0 rfl) ?_
            refine va_get (ci := 0) (v := .ref (k_ra C)) (C := RX0) (T := TX0) (N := 7) hx hb hts hiX0 hown hK hP 11 rfl rfl 1 (by decide) hf1 (fun _ h9 => h9) rfl dX0_mergeRuns_75 ?_
            refine lv_iload hx hb dX0_mergeRuns_78 (lv_at hl 5 rfl) ?_
            refine wa_i (i := bb) (v := nI (k_row C bb)) hx hb hK hP 12 0 rfl rfl rfl (by omega) (by decide) dX0_mergeRuns_80 ?_
            refine wa_ist (i := i) hx hb hK hP hD hS 13 0 rfl rfl (upd_nI (f) (i) (k_row C bb)) (by omega) (by decide) dX0_mergeRuns_81 (fun H locs hP hD hS => ?_)
            have hP : va_P D vwCl (kX cI cJ cZ cV cR a (k_ra C) (k_rb C) (k_vc C) (k_rc C) (k_pc C) (k_nw C) (k_n C) (k_fn C) (k_sn C) (k_kc C) (k_grp C) (k_key C) (k_srt C) (k_wt C) (k_home C) (k_drp C) (k_met C) (k_kin C) (k_alv C) (k_srs C) (k_row C) (va_up (f) (i) (k_row C bb)) (k_kis C) (k_pg C) (k_vq C) (k_rq C) (k_L C) (k_F C)) H := hP
            have hD : va_D A (kX cI cJ cZ cV cR a (k_ra C) (k_rb C) (k_vc C) (k_rc C) (k_pc C) (k_nw C) (k_n C) (k_fn C) (k_sn C) (k_kc C) (k_grp C) (k_key C) (k_srt C) (k_wt C) (k_home C) (k_drp C) (k_met C) (k_kin C) (k_alv C) (k_srs C) (k_row C) (va_up (f) (i) (k_row C bb)) (k_kis C) (k_pg C) (k_vq C) (k_rq C) (k_L C) (k_F C)) := hD
            refine lv_iinc (v := nI (bb + 1)) (lv' := [(5, .int (nI (bb + 1))), (0, .ref (a 11)), (1, .int (nI (fr))), (2, .int (nI (md))), (3, .int (nI (to))), (4, .int (nI (aa))), (6, .int (nI (i)))]) hx hb dX0_mergeRuns_82 hl (k := 5) rfl (nI_inc _) (by decide) rfl (fun ls hl => ?_)
            refine lv_iinc (v := nI (i + 1)) (lv' := [(6, .int (nI (i + 1))), (5, .int (nI (bb + 1))), (0, .ref (a 11)), (1, .int (nI (fr))), (2, .int (nI (md))), (3, .int (nI (to))), (4, .int (nI (aa)))]) hx hb dX0_mergeRuns_85 hl (k := 6) rfl (nI_inc _) (by decide) rfl (fun ls hl => ?_)
            refine lv_goto (tgt := 9) hx hb dX0_mergeRuns_88 (by decide) ?_
            exact ih9 (i + 1) (aa) (bb + 1) (j + 1) (va_up (f) (i) (k_row C bb)) _ _ (by omega) (by omega) (by omega) (by rw [hij]; exact mrI_f hm (by omega) (Or.inl (by omega))) (by omega) (by omega) (by omega) (by omega) (by omega) hP hD hS ls (lv_sub hl [2, 3, 4, 5, 6, 1, 0] rfl)
          · refine lv_aload_n hx hb dX0_mergeRuns_27 rfl (lv_at hl 0 rfl) ?_
            refine lv_aload_n hx hb dX0_mergeRuns_28 rfl (lv_at hl 0 rfl) ?_
            refine va_get (ci := 0) (v := .ref (k_ra C)) (C := RX0) (T := TX0) (N := 7) hx hb hts hiX0 hown hK hP 11 rfl rfl 1 (by decide) hf1 (fun _ h9 => h9) rfl dX0_mergeRuns_29 ?_
            refine lv_iload hx hb dX0_mergeRuns_32 (lv_at hl 4 rfl) ?_
            refine wa_i (i := aa) (v := nI (k_row C aa)) hx hb hK hP 12 0 rfl rfl rfl (by omega) (by decide) dX0_mergeRuns_34 ?_
            refine lv_aload_n hx hb dX0_mergeRuns_35 rfl (lv_at hl 0 rfl) ?_
            refine va_get (ci := 0) (v := .ref (k_ra C)) (C := RX0) (T := TX0) (N := 7) hx hb hts hiX0 hown hK hP 11 rfl rfl 1 (by decide) hf1 (fun _ h9 => h9) rfl dX0_mergeRuns_36 ?_
            refine lv_iload hx hb dX0_mergeRuns_39 (lv_at hl 5 rfl) ?_
            refine wa_i (i := bb) (v := nI (k_row C bb)) hx hb hK hP 12 0 rfl rfl rfl (by omega) (by decide) dX0_mergeRuns_41 ?_
            have hPm : va_P D vwCl (kW cI cJ cZ cV cR a (mkC (k_ra C) (k_rb C) (k_vc C) (k_rc C) (k_pc C) (k_nw C) (k_n C) (k_fn C) (k_sn C) (k_kc C) (k_grp C) (k_key C) (k_srt C) (k_wt C) (k_home C) (k_drp C) (k_met C) (k_kin C) (k_alv C) (k_srs C) (k_row C) (f) (k_kis C) (k_pg C) (k_vq C) (k_rq C) (k_L C) (k_F C))) H := by rw [← kX_mk]; exact hP
            refine wc_Vi (As := [.int (nI (k_row C aa)), .int (nI (k_row C bb))]) (rest := []) ⟨hx, hb, hml, hown, hts⟩ (c_X0_comesBefore l D cI cJ cZ cV cR a (mkC (k_ra C) (k_rb C) (k_vc C) (k_rc C) (k_pc C) (k_nw C) (k_n C) (k_fn C) (k_sn C) (k_kc C) (k_grp C) (k_key C) (k_srt C) (k_wt C) (k_home C) (k_drp C) (k_met C) (k_kin C) (k_alv C) (k_srs C) (k_row C) (f) (k_kis C) (k_pg C) (k_vq C) (k_rq C) (k_L C) (k_F C)) (ok_sp hM hfs) (k_row C aa) (k_row C bb) (by omega) (by omega)) (cwV 2 hts gX0_mergeRuns_X0_comesBefore rfl rfl rfl (by decide +kernel) ⟨Nat.le_of_ble_eq_true rfl, Nat.le_of_ble_eq_true rfl⟩) hPm hK 11 rfl rfl rfl hl.1 rfl (Nat.le_of_ble_eq_true rfl) dX0_mergeRuns_42 ⟨Nat.zero_le _, Nat.zero_le _⟩ (fun rr hq4 => ?_)
            have hq4 : rr = bI (cbF (k_wt C) (k_key C) (k_row C aa) (k_row C bb)) := hq4
            subst hq4
            refine wb_if_eq (tgt := 68) hx hb dX0_mergeRuns_45 (by decide) (fun c45_5 => ?_) (fun c45_5 => ?_)
            · refine lv_aload_n hx hb dX0_mergeRuns_68 rfl (lv_at hl 0 rfl) ?_
              refine va_get (ci := 0) (v := .ref (k_rb C)) (C := RX0) (T := TX0) (N := 7) hx hb hts hiX0 hown hK hP 11 rfl rfl 2 (by decide) hf0 (fun _ h9 => h9) rfl dX0_mergeRuns_69 ?_
              refine lv_iload hx hb dX0_mergeRuns_72 (lv_at hl 6 rfl) ?_
              refine lv_aload_n hx hb dX0_mergeRuns_74 rfl (lv_at hl 0 rfl) ?_
              refine va_get (ci := 0) (v := .ref (k_ra C)) (C := RX0) (T := TX0) (N := 7) hx hb hts hiX0 hown hK hP 11 rfl rfl 1 (by decide) hf1 (fun _ h9 => h9) rfl dX0_mergeRuns_75 ?_
              refine lv_iload hx hb dX0_mergeRuns_78 (lv_at hl 5 rfl) ?_
              refine wa_i (i := bb) (v := nI (k_row C bb)) hx hb hK hP 12 0 rfl rfl rfl (by omega) (by decide) dX0_mergeRuns_80 ?_
              refine wa_ist (i := i) hx hb hK hP hD hS 13 0 rfl rfl (upd_nI (f) (i) (k_row C bb)) (by omega) (by decide) dX0_mergeRuns_81 (fun H locs hP hD hS => ?_)
              have hP : va_P D vwCl (kX cI cJ cZ cV cR a (k_ra C) (k_rb C) (k_vc C) (k_rc C) (k_pc C) (k_nw C) (k_n C) (k_fn C) (k_sn C) (k_kc C) (k_grp C) (k_key C) (k_srt C) (k_wt C) (k_home C) (k_drp C) (k_met C) (k_kin C) (k_alv C) (k_srs C) (k_row C) (va_up (f) (i) (k_row C bb)) (k_kis C) (k_pg C) (k_vq C) (k_rq C) (k_L C) (k_F C)) H := hP
              have hD : va_D A (kX cI cJ cZ cV cR a (k_ra C) (k_rb C) (k_vc C) (k_rc C) (k_pc C) (k_nw C) (k_n C) (k_fn C) (k_sn C) (k_kc C) (k_grp C) (k_key C) (k_srt C) (k_wt C) (k_home C) (k_drp C) (k_met C) (k_kin C) (k_alv C) (k_srs C) (k_row C) (va_up (f) (i) (k_row C bb)) (k_kis C) (k_pg C) (k_vq C) (k_rq C) (k_L C) (k_F C)) := hD
              refine lv_iinc (v := nI (bb + 1)) (lv' := [(5, .int (nI (bb + 1))), (0, .ref (a 11)), (1, .int (nI (fr))), (2, .int (nI (md))), (3, .int (nI (to))), (4, .int (nI (aa))), (6, .int (nI (i)))]) hx hb dX0_mergeRuns_82 hl (k := 5) rfl (nI_inc _) (by decide) rfl (fun ls hl => ?_)
              refine lv_iinc (v := nI (i + 1)) (lv' := [(6, .int (nI (i + 1))), (5, .int (nI (bb + 1))), (0, .ref (a 11)), (1, .int (nI (fr))), (2, .int (nI (md))), (3, .int (nI (to))), (4, .int (nI (aa)))]) hx hb dX0_mergeRuns_85 hl (k := 6) rfl (nI_inc _) (by decide) rfl (fun ls hl => ?_)
              refine lv_goto (tgt := 9) hx hb dX0_mergeRuns_88 (by decide) ?_
              exact ih9 (i + 1) (aa) (bb + 1) (j + 1) (va_up (f) (i) (k_row C bb)) _ _ (by omega) (by omega) (by omega) (by rw [hij]; exact mrI_f hm (by omega) (Or.inr c45_5)) (by omega) (by omega) (by omega) (by omega) (by omega) hP hD hS ls (lv_sub hl [2, 3, 4, 5, 6, 1, 0] rfl)
            · refine lv_aload_n hx hb dX0_mergeRuns_48 rfl (lv_at hl 0 rfl) ?_
              refine va_get (ci := 0) (v := .ref (k_rb C)) (C := RX0) (T := TX0) (N := 7) hx hb hts hiX0 hown hK hP 11 rfl rfl 2 (by decide) hf0 (fun _ h9 => h9) rfl dX0_mergeRuns_49 ?_
              refine lv_iload hx hb dX0_mergeRuns_52 (lv_at hl 6 rfl) ?_
              refine lv_aload_n hx hb dX0_mergeRuns_54 rfl (lv_at hl 0 rfl) ?_
              refine va_get (ci := 0) (v := .ref (k_ra C)) (C := RX0) (T := TX0) (N := 7) hx hb hts hiX0 hown hK hP 11 rfl rfl 1 (by decide) hf1 (fun _ h9 => h9) rfl dX0_mergeRuns_55 ?_
              refine lv_iload hx hb dX0_mergeRuns_58 (lv_at hl 4 rfl) ?_
              refine wa_i (i := aa) (v := nI (k_row C aa)) hx hb hK hP 12 0 rfl rfl rfl (by omega) (by decide) dX0_mergeRuns_60 ?_
              refine wa_ist (i := i) hx hb hK hP hD hS 13 0 rfl rfl (upd_nI (f) (i) (k_row C aa)) (by omega) (by decide) dX0_mergeRuns_61 (fun H locs hP hD hS => ?_)
              have hP : va_P D vwCl (kX cI cJ cZ cV cR a (k_ra C) (k_rb C) (k_vc C) (k_rc C) (k_pc C) (k_nw C) (k_n C) (k_fn C) (k_sn C) (k_kc C) (k_grp C) (k_key C) (k_srt C) (k_wt C) (k_home C) (k_drp C) (k_met C) (k_kin C) (k_alv C) (k_srs C) (k_row C) (va_up (f) (i) (k_row C aa)) (k_kis C) (k_pg C) (k_vq C) (k_rq C) (k_L C) (k_F C)) H := hP
              have hD : va_D A (kX cI cJ cZ cV cR a (k_ra C) (k_rb C) (k_vc C) (k_rc C) (k_pc C) (k_nw C) (k_n C) (k_fn C) (k_sn C) (k_kc C) (k_grp C) (k_key C) (k_srt C) (k_wt C) (k_home C) (k_drp C) (k_met C) (k_kin C) (k_alv C) (k_srs C) (k_row C) (va_up (f) (i) (k_row C aa)) (k_kis C) (k_pg C) (k_vq C) (k_rq C) (k_L C) (k_F C)) := hD
              refine lv_iinc (v := nI (aa + 1)) (lv' := [(4, .int (nI (aa + 1))), (0, .ref (a 11)), (1, .int (nI (fr))), (2, .int (nI (md))), (3, .int (nI (to))), (5, .int (nI (bb))), (6, .int (nI (i)))]) hx hb dX0_mergeRuns_62 hl (k := 4) rfl (nI_inc _) (by decide) rfl (fun ls hl => ?_)
              refine lv_goto (tgt := 85) hx hb dX0_mergeRuns_65 (by decide) ?_
              refine lv_iinc (v := nI (i + 1)) (lv' := [(6, .int (nI (i + 1))), (4, .int (nI (aa + 1))), (0, .ref (a 11)), (1, .int (nI (fr))), (2, .int (nI (md))), (3, .int (nI (to))), (5, .int (nI (bb)))]) hx hb dX0_mergeRuns_85 hl (k := 6) rfl (nI_inc _) (by decide) rfl (fun ls hl => ?_)
              refine lv_goto (tgt := 9) hx hb dX0_mergeRuns_88 (by decide) ?_
              exact ih9 (i + 1) (aa + 1) (bb) (j + 1) (va_up (f) (i) (k_row C aa)) _ _ (by omega) (by omega) (by omega) (by rw [hij]; exact mrI_t hm (Or.inr ⟨by omega, c45_5⟩)) (by omega) (by omega) (by omega) (by omega) (by omega) hP hD hS ls (lv_sub hl [2, 3, 4, 5, 1, 6, 0] rfl)
  exact hlp9 _ (fr) (fr) (md) (0) (k_sp C) _ _ (Nat.lt_succ_self _) (rfl) (by omega) (rfl) (Nat.le_refl _) (by omega) (Nat.le_refl _) (by omega) (by omega) hP hD hS ls (lv_sub hl [3, 4, 5, 6, 2, 1, 0] rfl)
def rm_X0_listGroups : Room := { frames := 0, cells := 0, slots := 0, locals := 0 }
set_option maxHeartbeats 4000000 in
set_option maxRecDepth 100000 in
/-- the groups are listed -/
theorem c_X0_listGroups (l : Launch) (D : va_G) (cI cJ cZ cV cR : ClassId) (a : Nat → Nat) (C : CT) (hM : kOk C)  (sz : Nat) : Met l yX0_listGroups wsX0_listGroups rm_X0_listGroups (va_Pc [.ref (a 11)] (GW D (tyK cI cJ cZ cV cR) (kW cI cJ cZ cV cR a C) sz)) (va_Qi (fun rr u => rr = nI (lgR C).1 ∧ u = lgM C) (fun u => GB D (tyK cI cJ cZ cV cR) (va_A (kW cI cJ cZ cV cR a C) sz) (kW cI cJ cZ cV cR a u)) (va_A (kW cI cJ cZ cV cR a C) sz)) 0 0 (va_A (kW cI cJ cZ cV cR a C) sz) := by
  obtain ⟨hn, hfn, hsn, hvc, hrc, hpc, hnw, hkc, h_home, h_kin, h_alv, h_srs, h_row, h_sp, h_kis, h_pg⟩ := id hM
  refine Met.ofW (cc := cX0_listGroups) (maxL := 4) (ret := (some .int)) (by decide) rfl ?_
  intro p e s m args below meth c s₁ B hml hv
  obtain ⟨rfl, hsz, hP, hK, hD0⟩ := hv
  have hx := B.exec
  have hb := B.bytes
  have hr := B.returns
  have hts := atoms_spec (ws := wsX0_listGroups) B.pre
  have hown : s.vm.findClass RX0 = some m.cls := findClass_of_methodNamed B.named
  have hlocks := B.notSynchronized
  subst hsz
  have hD := hD0.self (sz := s.heap.size)
  generalize hAe : va_A (kW cI cJ cZ cV cR a C) s.heap.size = A at hD ⊢
  have hA : ∀ q : Nat, s.heap.size ≤ q → A q := fun q h => by rw [← hAe]; exact Or.inr h
  have hS : va_S A s.heap s.heap [] := va_S.rf
  have hP : va_P D vwCl (kX cI cJ cZ cV cR a (k_ra C) (k_rb C) (k_vc C) (k_rc C) (k_pc C) (k_nw C) (k_n C) (k_fn C) (k_sn C) (k_kc C) (k_grp C) (k_key C) (k_srt C) (k_wt C) (k_home C) (k_drp C) (k_met C) (k_kin C) (k_alv C) (k_srs C) (k_row C) (k_sp C) (k_kis C) (k_pg C) (k_vq C) (k_rq C) (k_L C) (k_F C)) s.heap := hP
  have hD : va_D A (kX cI cJ cZ cV cR a (k_ra C) (k_rb C) (k_vc C) (k_rc C) (k_pc C) (k_nw C) (k_n C) (k_fn C) (k_sn C) (k_kc C) (k_grp C) (k_key C) (k_srt C) (k_wt C) (k_home C) (k_drp C) (k_met C) (k_kin C) (k_alv C) (k_srs C) (k_row C) (k_sp C) (k_kis C) (k_pg C) (k_vq C) (k_rq C) (k_L C) (k_F C)) := hD
  have hiX0 : ∀ w ∈ wsX00, w ∈ wsX0_listGroups := by decide +kernel
  have hiX3 : ∀ w ∈ wsX30, w ∈ wsX0_listGroups := by decide +kernel
  have hf0 := hts (.fieldLink RX0 29 "GroupCursors$Ranking" "count" "I") (by decide +kernel)
  have hf1 := hts (.fieldLink RX0 33 "GroupCursors$Ranking" "stock" "LGroupCursors$Stock;") (by decide +kernel)
  have hf2 := hts (.fieldLink RX0 96 "GroupCursors$Stock" "kin" "[I") (by decide +kernel)
  have hf3 := hts (.fieldLink RX0 9 "GroupCursors$Ranking" "row" "[I") (by decide +kernel)
  have hf4 := hts (.fieldLink RX0 22 "GroupCursors$Ranking" "met" "[Z") (by decide +kernel)
  have hf5 := hts (.fieldLink RX0 26 "GroupCursors$Ranking" "kins" "[I") (by decide +kernel)
  have hl := lv_entry ([.ref (a 11)]) (n := 4) (Nat.le_of_ble_eq_true rfl)
  rw [lg_entry_eq]
  generalize (lg_sl ([.ref (a 11)]) ++ List.replicate (4 - (lg_sl ([.ref (a 11)])).length) Slot.unset).toArray = ls at hl ⊢
  have hl : lv_has ls 4 [(0, .ref (a 11))] := hl
  refine lv_iconst (v := nI (0)) hx hb dX0_listGroups_0 (by decide) ?_
  refine lv_istore_n (lv' := [(1, .int (nI (0))), (0, .ref (a 11))]) hx hb dX0_listGroups_1 rfl hl (by decide) rfl (fun ls hl => ?_)
  have hlp2 : ∀ (d : Nat) (i : Nat) (H : Heap) (locs : List Loc), k_kc C - i < d → (i ≤ k_kc C) → va_P D vwCl (kX cI cJ cZ cV cR a (k_ra C) (k_rb C) (k_vc C) (k_rc C) (k_pc C) (k_nw C) (k_n C) (k_fn C) (k_sn C) (k_kc C) (k_grp C) (k_key C) (k_srt C) (k_wt C) (k_home C) (k_drp C) (meL (k_kin C) (k_row C) (k_met C) i) (k_kin C) (k_alv C) (k_srs C) (k_row C) (k_sp C) (k_kis C) (k_pg C) (k_vq C) (k_rq C) (k_L C) (k_F C)) H → va_D A (kX cI cJ cZ cV cR a (k_ra C) (k_rb C) (k_vc C) (k_rc C) (k_pc C) (k_nw C) (k_n C) (k_fn C) (k_sn C) (k_kc C) (k_grp C) (k_key C) (k_srt C) (k_wt C) (k_home C) (k_drp C) (meL (k_kin C) (k_row C) (k_met C) i) (k_kin C) (k_alv C) (k_srs C) (k_row C) (k_sp C) (k_kis C) (k_pg C) (k_vq C) (k_rq C) (k_L C) (k_F C)) → va_S A s.heap H locs → ∀ (ls : Array Slot), lv_has ls 4 [(0, .ref (a 11)), (1, .int (nI (i)))] → W p l e (headSpec wsX0_listGroups rm_X0_listGroups).room s m ([.ref (a 11)] : List Value).toArray below meth c H locs (0) (0) (MQ below (va_Qi (fun rr u => rr = nI (lgR C).1 ∧ u = lgM C) (fun u => GB D (tyK cI cJ cZ cV cR) A (kW cI cJ cZ cV cR a u)) A) ([.ref (a 11)] : List Value).toArray s 0 0 A) (F0 m 2 ls []) := by
    intro d
    induction d with
    | zero => intro i H locs hd2; exact absurd hd2 (Nat.not_lt_zero _)
    | succ d ih2 =>
      intro i H locs hd2 hik hP hD hS ls hl
      have hri := h_row i
      have hki := h_kin (k_row C i)
      refine lv_iload_n hx hb dX0_listGroups_2 rfl (lv_at hl 1 rfl) ?_
      refine lv_aload_n hx hb dX0_listGroups_3 rfl (lv_at hl 0 rfl) ?_
      refine va_get (ci := 0) (v := .int (nI (k_kc C))) (C := RX0) (T := TX0) (N := 7) hx hb hts hiX0 hown hK hP 11 rfl rfl 6 (by decide) hf0 (fun _ h9 => h9) rfl dX0_listGroups_4 ?_
      refine wn_icmp_ge (a := i) (b := k_kc C) (tgt := 36) hx hb (nI_z (by omega)) (nI_z (by omega)) dX0_listGroups_7 (by decide) (fun c7_1 => ?_) (fun c7_1 => ?_)
      · have ei : i = k_kc C := by omega
        rw [ei] at hP hD
        refine lv_iconst (v := nI (0)) hx hb dX0_listGroups_36 (by decide) ?_
        refine lv_istore_n (lv' := [(1, .int (nI (0))), (0, .ref (a 11))]) hx hb dX0_listGroups_37 rfl hl (by decide) rfl (fun ls hl => ?_)
        refine lv_iconst (v := nI (0)) hx hb dX0_listGroups_38 (by decide) ?_
        refine lv_istore_n (lv' := [(2, .int (nI (0))), (1, .int (nI (0))), (0, .ref (a 11))]) hx hb dX0_listGroups_39 rfl hl (by decide) rfl (fun ls hl => ?_)
        have hlp40 : ∀ (d : Nat) (i2 : Nat) (k : Nat) (me : Nat → Bool) (ks : Nat → Nat) (H : Heap) (locs : List Loc), k_kc C - i2 < d → (i2 ≤ k_kc C) → (lgL (k_kin C) (k_row C) (meL (k_kin C) (k_row C) (k_met C) (k_kc C)) (k_kis C) i2 = (k, me, ks)) → (∀ j, ks j < 300) → va_P D vwCl (kX cI cJ cZ cV cR a (k_ra C) (k_rb C) (k_vc C) (k_rc C) (k_pc C) (k_nw C) (k_n C) (k_fn C) (k_sn C) (k_kc C) (k_grp C) (k_key C) (k_srt C) (k_wt C) (k_home C) (k_drp C) (me) (k_kin C) (k_alv C) (k_srs C) (k_row C) (k_sp C) (ks) (k_pg C) (k_vq C) (k_rq C) (k_L C) (k_F C)) H → va_D A (kX cI cJ cZ cV cR a (k_ra C) (k_rb C) (k_vc C) (k_rc C) (k_pc C) (k_nw C) (k_n C) (k_fn C) (k_sn C) (k_kc C) (k_grp C) (k_key C) (k_srt C) (k_wt C) (k_home C) (k_drp C) (me) (k_kin C) (k_alv C) (k_srs C) (k_row C) (k_sp C) (ks) (k_pg C) (k_vq C) (k_rq C) (k_L C) (k_F C)) → va_S A s.heap H locs → ∀ (ls : Array Slot), lv_has ls 4 [(0, .ref (a 11)), (1, .int (nI (k))), (2, .int (nI (i2)))] → W p l e (headSpec wsX0_listGroups rm_X0_listGroups).room s m ([.ref (a 11)] : List Value).toArray below meth c H locs (0) (0) (MQ below (va_Qi (fun rr u => rr = nI (lgR C).1 ∧ u = lgM C) (fun u => GB D (tyK cI cJ cZ cV cR) A (kW cI cJ cZ cV cR a u)) A) ([.ref (a 11)] : List Value).toArray s 0 0 A) (F0 m 40 ls []) := by
          intro d
          induction d with
          | zero => intro i2 k me ks H locs hd40; exact absurd hd40 (Nat.not_lt_zero _)
          | succ d ih40 =>
            intro i2 k me ks H locs hd40 hik2 hm hks hP hD hS ls hl
            have hri := h_row i2
            have hki := h_kin (k_row C i2)
            have hkl : k ≤ i2 := by have := lgL_le (k_kin C) (k_row C) (meL (k_kin C) (k_row C) (k_met C) (k_kc C)) (k_kis C) i2; rw [hm] at this; exact this
            refine lv_iload_n hx hb dX0_listGroups_40 rfl (lv_at hl 2 rfl) ?_
            refine lv_aload_n hx hb dX0_listGroups_41 rfl (lv_at hl 0 rfl) ?_
            refine va_get (ci := 0) (v := .int (nI (k_kc C))) (C := RX0) (T := TX0) (N := 7) hx hb hts hiX0 hown hK hP 11 rfl rfl 6 (by decide) hf0 (fun _ h9 => h9) rfl dX0_listGroups_42 ?_
            refine wn_icmp_ge (a := i2) (b := k_kc C) (tgt := 95) hx hb (nI_z (by omega)) (nI_z (by omega)) dX0_listGroups_45 (by decide) (fun c45_2 => ?_) (fun c45_2 => ?_)
            · refine lv_iload_n hx hb dX0_listGroups_95 rfl (lv_at hl 1 rfl) ?_
              have hPm : va_P D vwCl (kW cI cJ cZ cV cR a (mkC (k_ra C) (k_rb C) (k_vc C) (k_rc C) (k_pc C) (k_nw C) (k_n C) (k_fn C) (k_sn C) (k_kc C) (k_grp C) (k_key C) (k_srt C) (k_wt C) (k_home C) (k_drp C) (me) (k_kin C) (k_alv C) (k_srs C) (k_row C) (k_sp C) (ks) (k_pg C) (k_vq C) (k_rq C) (k_L C) (k_F C))) H := by rw [← kX_mk]; exact hP
              have hDm : va_D A (kW cI cJ cZ cV cR a (mkC (k_ra C) (k_rb C) (k_vc C) (k_rc C) (k_pc C) (k_nw C) (k_n C) (k_fn C) (k_sn C) (k_kc C) (k_grp C) (k_key C) (k_srt C) (k_wt C) (k_home C) (k_drp C) (me) (k_kin C) (k_alv C) (k_srs C) (k_row C) (k_sp C) (ks) (k_pg C) (k_vq C) (k_rq C) (k_L C) (k_F C))) := by rw [← kX_mk]; exact hD
              exact W.iret (v := nI (k)) hx hb hr (fun t ht hW => ⟨⟨_, (mkC (k_ra C) (k_rb C) (k_vc C) (k_rc C) (k_pc C) (k_nw C) (k_n C) (k_fn C) (k_sn C) (k_kc C) (k_grp C) (k_key C) (k_srt C) (k_wt C) (k_home C) (k_drp C) (me) (k_kin C) (k_alv C) (k_srs C) (k_row C) (k_sp C) (ks) (k_pg C) (k_vq C) (k_rq C) (k_L C) (k_F C)), rfl, ⟨by have hm9 := hm; rw [(show i2 = k_kc C by omega)] at hm9; rw [lgR, hm9], by have hm9 := hm; rw [(show i2 = k_kc C by omega)] at hm9; rw [lgM, lgR, hm9]⟩, gb_mk ht hW hPm hK hDm⟩, hS.F ht⟩) hS.2.2 dX0_listGroups_96
            · refine lv_aload_n hx hb dX0_listGroups_48 rfl (lv_at hl 0 rfl) ?_
              refine va_get (ci := 0) (v := .ref (a 1)) (C := RX0) (T := TX0) (N := 7) hx hb hts hiX0 hown hK hP 11 rfl rfl 0 (by decide) hf1 (fun _ h9 => h9) rfl dX0_listGroups_49 ?_
              refine va_get (ci := 3) (v := .ref (a 5)) (C := RX3) (T := TX3) (N := 8) hx hb hts hiX3 hown hK hP 1 rfl rfl 3 (by decide) hf2 (fun _ h9 => h9) rfl dX0_listGroups_52 ?_
              refine lv_aload_n hx hb dX0_listGroups_55 rfl (lv_at hl 0 rfl) ?_
              refine va_get (ci := 0) (v := .ref (k_ra C)) (C := RX0) (T := TX0) (N := 7) hx hb hts hiX0 hown hK hP 11 rfl rfl 1 (by decide) hf3 (fun _ h9 => h9) rfl dX0_listGroups_56 ?_
              refine lv_iload_n hx hb dX0_listGroups_59 rfl (lv_at hl 2 rfl) ?_
              refine wa_i (i := i2) (v := nI (k_row C i2)) hx hb hK hP 12 0 rfl rfl rfl (by omega) (by decide) dX0_listGroups_60 ?_
              refine wa_i (i := k_row C i2) (v := nI (k_kin C (k_row C i2))) hx hb hK hP 5 0 rfl rfl rfl (by omega) (by decide) dX0_listGroups_61 ?_
              refine lv_istore_n (lv' := [(3, .int (nI (k_kin C (k_row C i2)))), (0, .ref (a 11)), (1, .int (nI (k))), (2, .int (nI (i2)))]) hx hb dX0_listGroups_62 rfl hl (by decide) rfl (fun ls hl => ?_)
              refine lv_aload_n hx hb dX0_listGroups_63 rfl (lv_at hl 1 rfl) ?_
              refine va_get (ci := 0) (v := .ref (a 15)) (C := RX0) (T := TX0) (N := 7) hx hb hts hiX0 hown hK hP 11 rfl rfl 4 (by decide) hf4 (fun _ h9 => h9) rfl dX0_listGroups_64 ?_
              refine lv_iload_n hx hb dX0_listGroups_67 rfl (lv_at hl 0 rfl) ?_
              refine wa_z (i := k_kin C (k_row C i2)) (v := bI ((me) (k_kin C (k_row C i2)))) hx hb hK hP 15 2 rfl rfl rfl (by omega) (by decide) dX0_listGroups_68 ?_
              refine wb_if_ne (tgt := 89) hx hb dX0_listGroups_69 (by decide) (fun c69_3 => ?_) (fun c69_3 => ?_)
              · refine lv_iinc (v := nI (i2 + 1)) (lv' := [(2, .int (nI (i2 + 1))), (3, .int (nI (k_kin C (k_row C i2)))), (0, .ref (a 11)), (1, .int (nI (k)))]) hx hb dX0_listGroups_89 hl (k := 3) rfl (nI_inc _) (by decide) rfl (fun ls hl => ?_)
                refine lv_goto (tgt := 40) hx hb dX0_listGroups_92 (by decide) ?_
                exact ih40 (i2 + 1) (k) (me) (ks) _ _ (by omega) (by omega) (lgL_t hm c69_3) (hks) hP hD hS ls (lv_sub hl [2, 3, 0] rfl)
              · refine lv_aload_n hx hb dX0_listGroups_72 rfl (lv_at hl 1 rfl) ?_
                refine va_get (ci := 0) (v := .ref (a 15)) (C := RX0) (T := TX0) (N := 7) hx hb hts hiX0 hown hK hP 11 rfl rfl 4 (by decide) hf4 (fun _ h9 => h9) rfl dX0_listGroups_73 ?_
                refine lv_iload_n hx hb dX0_listGroups_76 rfl (lv_at hl 0 rfl) ?_
                refine lv_iconst (v := nI (1)) hx hb dX0_listGroups_77 (by decide) ?_
                refine wa_zst (i := k_kin C (k_row C i2)) (b := true) (f := me) hx hb hK hP hD hS 15 2 rfl rfl rfl (by omega) (by decide) dX0_listGroups_78 (fun H locs hP hD hS => ?_)
                have hP : va_P D vwCl (kX cI cJ cZ cV cR a (k_ra C) (k_rb C) (k_vc C) (k_rc C) (k_pc C) (k_nw C) (k_n C) (k_fn C) (k_sn C) (k_kc C) (k_grp C) (k_key C) (k_srt C) (k_wt C) (k_home C) (k_drp C) (va_up (me) (k_kin C (k_row C i2)) (true)) (k_kin C) (k_alv C) (k_srs C) (k_row C) (k_sp C) (ks) (k_pg C) (k_vq C) (k_rq C) (k_L C) (k_F C)) H := hP
                have hD : va_D A (kX cI cJ cZ cV cR a (k_ra C) (k_rb C) (k_vc C) (k_rc C) (k_pc C) (k_nw C) (k_n C) (k_fn C) (k_sn C) (k_kc C) (k_grp C) (k_key C) (k_srt C) (k_wt C) (k_home C) (k_drp C) (va_up (me) (k_kin C (k_row C i2)) (true)) (k_kin C) (k_alv C) (k_srs C) (k_row C) (k_sp C) (ks) (k_pg C) (k_vq C) (k_rq C) (k_L C) (k_F C)) := hD
                refine lv_aload_n hx hb dX0_listGroups_79 rfl (lv_at hl 1 rfl) ?_
                refine va_get (ci := 0) (v := .ref (a 16)) (C := RX0) (T := TX0) (N := 7) hx hb hts hiX0 hown hK hP 11 rfl rfl 5 (by decide) hf5 (fun _ h9 => h9) rfl dX0_listGroups_80 ?_
                refine lv_iload_n hx hb dX0_listGroups_83 rfl (lv_at hl 2 rfl) ?_
                refine lv_iload_n hx hb dX0_listGroups_84 rfl (lv_at hl 0 rfl) ?_
                refine wa_ist (i := k) hx hb hK hP hD hS 16 0 rfl rfl (upd_nI (ks) (k) (k_kin C (k_row C i2))) (by omega) (by decide) dX0_listGroups_85 (fun H locs hP hD hS => ?_)
                have hP : va_P D vwCl (kX cI cJ cZ cV cR a (k_ra C) (k_rb C) (k_vc C) (k_rc C) (k_pc C) (k_nw C) (k_n C) (k_fn C) (k_sn C) (k_kc C) (k_grp C) (k_key C) (k_srt C) (k_wt C) (k_home C) (k_drp C) (va_up (me) (k_kin C (k_row C i2)) (true)) (k_kin C) (k_alv C) (k_srs C) (k_row C) (k_sp C) (va_up (ks) (k) (k_kin C (k_row C i2))) (k_pg C) (k_vq C) (k_rq C) (k_L C) (k_F C)) H := hP
                have hD : va_D A (kX cI cJ cZ cV cR a (k_ra C) (k_rb C) (k_vc C) (k_rc C) (k_pc C) (k_nw C) (k_n C) (k_fn C) (k_sn C) (k_kc C) (k_grp C) (k_key C) (k_srt C) (k_wt C) (k_home C) (k_drp C) (va_up (me) (k_kin C (k_row C i2)) (true)) (k_kin C) (k_alv C) (k_srs C) (k_row C) (k_sp C) (va_up (ks) (k) (k_kin C (k_row C i2))) (k_pg C) (k_vq C) (k_rq C) (k_L C) (k_F C)) := hD
                refine lv_iinc (v := nI (k + 1)) (lv' := [(1, .int (nI (k + 1))), (3, .int (nI (k_kin C (k_row C i2)))), (0, .ref (a 11)), (2, .int (nI (i2)))]) hx hb dX0_listGroups_86 hl (k := 2) rfl (nI_inc _) (by decide) rfl (fun ls hl => ?_)
                refine lv_iinc (v := nI (i2 + 1)) (lv' := [(2, .int (nI (i2 + 1))), (1, .int (nI (k + 1))), (3, .int (nI (k_kin C (k_row C i2)))), (0, .ref (a 11))]) hx hb dX0_listGroups_89 hl (k := 3) rfl (nI_inc _) (by decide) rfl (fun ls hl => ?_)
                refine lv_goto (tgt := 40) hx hb dX0_listGroups_92 (by decide) ?_
                exact ih40 (i2 + 1) (k + 1) (va_up (me) (k_kin C (k_row C i2)) (true)) (va_up (ks) (k) (k_kin C (k_row C i2))) _ _ (by omega) (by omega) (lgL_f hm c69_3) (up_lt hks (by omega)) hP hD hS ls (lv_sub hl [3, 1, 0] rfl)
        exact hlp40 _ (0) (0) ((meL (k_kin C) (k_row C) (k_met C) (k_kc C))) (k_kis C) _ _ (Nat.lt_succ_self _) (Nat.zero_le _) (rfl) (h_kis) hP hD hS ls (lv_sub hl [2, 1, 0] rfl)
      · refine lv_aload_n hx hb dX0_listGroups_10 rfl (lv_at hl 0 rfl) ?_
        refine va_get (ci := 0) (v := .ref (a 15)) (C := RX0) (T := TX0) (N := 7) hx hb hts hiX0 hown hK hP 11 rfl rfl 4 (by decide) hf4 (fun _ h9 => h9) rfl dX0_listGroups_11 ?_
        refine lv_aload_n hx hb dX0_listGroups_14 rfl (lv_at hl 0 rfl) ?_
        refine va_get (ci := 0) (v := .ref (a 1)) (C := RX0) (T := TX0) (N := 7) hx hb hts hiX0 hown hK hP 11 rfl rfl 0 (by decide) hf1 (fun _ h9 => h9) rfl dX0_listGroups_15 ?_
        refine va_get (ci := 3) (v := .ref (a 5)) (C := RX3) (T := TX3) (N := 8) hx hb hts hiX3 hown hK hP 1 rfl rfl 3 (by decide) hf2 (fun _ h9 => h9) rfl dX0_listGroups_18 ?_
        refine lv_aload_n hx hb dX0_listGroups_21 rfl (lv_at hl 0 rfl) ?_
        refine va_get (ci := 0) (v := .ref (k_ra C)) (C := RX0) (T := TX0) (N := 7) hx hb hts hiX0 hown hK hP 11 rfl rfl 1 (by decide) hf3 (fun _ h9 => h9) rfl dX0_listGroups_22 ?_
        refine lv_iload_n hx hb dX0_listGroups_25 rfl (lv_at hl 1 rfl) ?_
        refine wa_i (i := i) (v := nI (k_row C i)) hx hb hK hP 12 0 rfl rfl rfl (by omega) (by decide) dX0_listGroups_26 ?_
        refine wa_i (i := k_row C i) (v := nI (k_kin C (k_row C i))) hx hb hK hP 5 0 rfl rfl rfl (by omega) (by decide) dX0_listGroups_27 ?_
        refine lv_iconst (v := nI (0)) hx hb dX0_listGroups_28 (by decide) ?_
        refine wa_zst (i := k_kin C (k_row C i)) (b := false) (f := meL (k_kin C) (k_row C) (k_met C) i) hx hb hK hP hD hS 15 2 rfl rfl rfl (by omega) (by decide) dX0_listGroups_29 (fun H locs hP hD hS => ?_)
        have hP : va_P D vwCl (kX cI cJ cZ cV cR a (k_ra C) (k_rb C) (k_vc C) (k_rc C) (k_pc C) (k_nw C) (k_n C) (k_fn C) (k_sn C) (k_kc C) (k_grp C) (k_key C) (k_srt C) (k_wt C) (k_home C) (k_drp C) (va_up (meL (k_kin C) (k_row C) (k_met C) i) (k_kin C (k_row C i)) (false)) (k_kin C) (k_alv C) (k_srs C) (k_row C) (k_sp C) (k_kis C) (k_pg C) (k_vq C) (k_rq C) (k_L C) (k_F C)) H := hP
        have hD : va_D A (kX cI cJ cZ cV cR a (k_ra C) (k_rb C) (k_vc C) (k_rc C) (k_pc C) (k_nw C) (k_n C) (k_fn C) (k_sn C) (k_kc C) (k_grp C) (k_key C) (k_srt C) (k_wt C) (k_home C) (k_drp C) (va_up (meL (k_kin C) (k_row C) (k_met C) i) (k_kin C (k_row C i)) (false)) (k_kin C) (k_alv C) (k_srs C) (k_row C) (k_sp C) (k_kis C) (k_pg C) (k_vq C) (k_rq C) (k_L C) (k_F C)) := hD
        refine lv_iinc (v := nI (i + 1)) (lv' := [(1, .int (nI (i + 1))), (0, .ref (a 11))]) hx hb dX0_listGroups_30 hl (k := 1) rfl (nI_inc _) (by decide) rfl (fun ls hl => ?_)
        refine lv_goto (tgt := 2) hx hb dX0_listGroups_33 (by decide) ?_
        have e1 : va_up (meL (k_kin C) (k_row C) (k_met C) i) (k_kin C (k_row C i)) (false) = meL (k_kin C) (k_row C) (k_met C) (i + 1) := rfl
        rw [e1] at hP hD
        exact ih2 (i + 1) _ _ (by omega) (by omega) hP hD hS ls (lv_sub hl [1, 0] rfl)
  exact hlp2 _ (0) _ _ (Nat.lt_succ_self _) (Nat.zero_le _) hP hD hS ls (lv_sub hl [1, 0] rfl)
def rm_X0_narrowToGroup : Room := { frames := 1, cells := 0, slots := 0, locals := 23 }
set_option maxHeartbeats 4000000 in
set_option maxRecDepth 100000 in
/-- a group alone is left -/
theorem c_X0_narrowToGroup (l : Launch) (D : va_G) (cI cJ cZ cV cR : ClassId) (a : Nat → Nat) (C : CT) (hM : kOk C) (k9 : Nat) (hk9 : k9 < (lgL (k_kin C) (k_row C) (meL (k_kin C) (k_row C) (k_met C) (k_kc C)) (k_kis C) (k_kc C)).1) (sz : Nat) : Met l yX0_narrowToGroup wsX0_narrowToGroup rm_X0_narrowToGroup (va_Pc [.ref (a 11), .int (nI (k9))] (GW D (tyK cI cJ cZ cV cR) (kW cI cJ cZ cV cR a C) sz)) (va_Qv (fun u => u = ngM C k9) (fun u => GB D (tyK cI cJ cZ cV cR) (va_A (kW cI cJ cZ cV cR a C) sz) (kW cI cJ cZ cV cR a u)) (va_A (kW cI cJ cZ cV cR a C) sz)) 0 0 (va_A (kW cI cJ cZ cV cR a C) sz) := by
  obtain ⟨hn, hfn, hsn, hvc, hrc, hpc, hnw, hkc, h_home, h_kin, h_alv, h_srs, h_row, h_sp, h_kis, h_pg⟩ := id hM
  have hlgl := lgL_le (k_kin C) (k_row C) (meL (k_kin C) (k_row C) (k_met C) (k_kc C)) (k_kis C) (k_kc C)
  have hlgk : ∀ j, (lgL (k_kin C) (k_row C) (meL (k_kin C) (k_row C) (k_met C) (k_kc C)) (k_kis C) (k_kc C)).2.2 j < 300 := lgL_lt h_kin h_kis _
  have hlgk9 := hlgk k9
  refine Met.ofW (cc := cX0_narrowToGroup) (maxL := 5) (ret := none) (by decide) rfl ?_
  intro p e s m args below meth c s₁ B hml hv
  obtain ⟨rfl, hsz, hP, hK, hD0⟩ := hv
  have hx := B.exec
  have hb := B.bytes
  have hr := B.returns
  have hts := atoms_spec (ws := wsX0_narrowToGroup) B.pre
  have hown : s.vm.findClass RX0 = some m.cls := findClass_of_methodNamed B.named
  have hlocks := B.notSynchronized
  subst hsz
  have hD := hD0.self (sz := s.heap.size)
  generalize hAe : va_A (kW cI cJ cZ cV cR a C) s.heap.size = A at hD ⊢
  have hA : ∀ q : Nat, s.heap.size ≤ q → A q := fun q h => by rw [← hAe]; exact Or.inr h
  have hS : va_S A s.heap s.heap [] := va_S.rf
  have hP : va_P D vwCl (kX cI cJ cZ cV cR a (k_ra C) (k_rb C) (k_vc C) (k_rc C) (k_pc C) (k_nw C) (k_n C) (k_fn C) (k_sn C) (k_kc C) (k_grp C) (k_key C) (k_srt C) (k_wt C) (k_home C) (k_drp C) (k_met C) (k_kin C) (k_alv C) (k_srs C) (k_row C) (k_sp C) (k_kis C) (k_pg C) (k_vq C) (k_rq C) (k_L C) (k_F C)) s.heap := hP
  have hD : va_D A (kX cI cJ cZ cV cR a (k_ra C) (k_rb C) (k_vc C) (k_rc C) (k_pc C) (k_nw C) (k_n C) (k_fn C) (k_sn C) (k_kc C) (k_grp C) (k_key C) (k_srt C) (k_wt C) (k_home C) (k_drp C) (k_met C) (k_kin C) (k_alv C) (k_srs C) (k_row C) (k_sp C) (k_kis C) (k_pg C) (k_vq C) (k_rq C) (k_L C) (k_F C)) := hD
  have hiX0 : ∀ w ∈ wsX00, w ∈ wsX0_narrowToGroup := by decide +kernel
  have hiX3 : ∀ w ∈ wsX30, w ∈ wsX0_narrowToGroup := by decide +kernel
  have hf0 := hts (.fieldLink RX0 26 "GroupCursors$Ranking" "kins" "[I") (by decide +kernel)
  have hf1 := hts (.fieldLink RX0 29 "GroupCursors$Ranking" "count" "I") (by decide +kernel)
  have hf2 := hts (.fieldLink RX0 33 "GroupCursors$Ranking" "stock" "LGroupCursors$Stock;") (by decide +kernel)
  have hf3 := hts (.fieldLink RX0 96 "GroupCursors$Stock" "kin" "[I") (by decide +kernel)
  have hf4 := hts (.fieldLink RX0 9 "GroupCursors$Ranking" "row" "[I") (by decide +kernel)
  have hl := lv_entry ([.ref (a 11), .int (nI (k9))]) (n := 5) (Nat.le_of_ble_eq_true rfl)
  rw [lg_entry_eq]
  generalize (lg_sl ([.ref (a 11), .int (nI (k9))]) ++ List.replicate (5 - (lg_sl ([.ref (a 11), .int (nI (k9))])).length) Slot.unset).toArray = ls at hl ⊢
  have hl : lv_has ls 5 [(0, .ref (a 11)), (1, .int (nI (k9)))] := hl
  refine lv_iload_n hx hb dX0_narrowToGroup_0 rfl (lv_at hl 1 rfl) ?_
  refine wz_if_lt (tgt := 21) hx hb (((k9 : Nat) : Int)) (nI_z (by omega)) dX0_narrowToGroup_1 (by decide) (fun c1_1 => ?_) (fun c1_1 => ?_)
  · exact absurd c1_1 (by omega)
  · refine lv_iload_n hx hb dX0_narrowToGroup_4 rfl (lv_at hl 1 rfl) ?_
    refine lv_aload_n hx hb dX0_narrowToGroup_5 rfl (lv_at hl 0 rfl) ?_
    have hPm : va_P D vwCl (kW cI cJ cZ cV cR a C) s.heap := by exact hP
    have hDm : va_D A (kW cI cJ cZ cV cR a C) := by exact hD
    refine wc_VWi (As := []) (rest := [.int (nI (k9))]) (wf := kW cI cJ cZ cV cR a) ⟨hx, hb, hml, hown, hts⟩ (c_X0_listGroups l D cI cJ cZ cV cR a C hM s.heap.size) (cwV 0 hts gX0_narrowToGroup_X0_listGroups rfl rfl rfl (by decide +kernel) ⟨Nat.le_of_ble_eq_true rfl, Nat.le_of_ble_eq_true rfl⟩) hPm hK hDm hS hA 11 rfl rfl rfl hl.1 rfl (Nat.le_of_ble_eq_true rfl) dX0_narrowToGroup_6 ⟨Nat.zero_le _, Nat.zero_le _⟩ (fun rr u2 hq2 H locs hP hD hS => ?_)
    obtain ⟨hr2, hu2⟩ := hq2
    subst hr2
    have hu2 := hu2.symm
    subst hu2
    have hlg2 : (lgL (k_kin C) (k_row C) (meL (k_kin C) (k_row C) (k_met C) (k_kc C)) (k_kis C) (k_kc C)).1 ≤ k_kc C := lgL_le _ _ _ _ _
    have hlk2 : ∀ j, (lgL (k_kin C) (k_row C) (meL (k_kin C) (k_row C) (k_met C) (k_kc C)) (k_kis C) (k_kc C)).2.2 j < 300 := lgL_lt h_kin h_kis _
    have hP : va_P D vwCl (kX cI cJ cZ cV cR a (k_ra C) (k_rb C) (k_vc C) (k_rc C) (k_pc C) (k_nw C) (k_n C) (k_fn C) (k_sn C) (k_kc C) (k_grp C) (k_key C) (k_srt C) (k_wt C) (k_home C) (k_drp C) ((lgL (k_kin C) (k_row C) (meL (k_kin C) (k_row C) (k_met C) (k_kc C)) (k_kis C) (k_kc C)).2.1) (k_kin C) (k_alv C) (k_srs C) (k_row C) (k_sp C) ((lgL (k_kin C) (k_row C) (meL (k_kin C) (k_row C) (k_met C) (k_kc C)) (k_kis C) (k_kc C)).2.2) (k_pg C) (k_vq C) (k_rq C) (k_L C) (k_F C)) H := hP
    have hD : va_D A (kX cI cJ cZ cV cR a (k_ra C) (k_rb C) (k_vc C) (k_rc C) (k_pc C) (k_nw C) (k_n C) (k_fn C) (k_sn C) (k_kc C) (k_grp C) (k_key C) (k_srt C) (k_wt C) (k_home C) (k_drp C) ((lgL (k_kin C) (k_row C) (meL (k_kin C) (k_row C) (k_met C) (k_kc C)) (k_kis C) (k_kc C)).2.1) (k_kin C) (k_alv C) (k_srs C) (k_row C) (k_sp C) ((lgL (k_kin C) (k_row C) (meL (k_kin C) (k_row C) (k_met C) (k_kc C)) (k_kis C) (k_kc C)).2.2) (k_pg C) (k_vq C) (k_rq C) (k_L C) (k_F C)) := hD
    refine wn_icmp_ge (a := k9) (b := (lgL (k_kin C) (k_row C) (meL (k_kin C) (k_row C) (k_met C) (k_kc C)) (k_kis C) (k_kc C)).1) (tgt := 21) hx hb (nI_z (by omega)) (nI_z (by omega)) dX0_narrowToGroup_9 (by decide) (fun c9_3 => ?_) (fun c9_3 => ?_)
    · exact absurd c9_3 (by omega)
    · refine lv_aload_n hx hb dX0_narrowToGroup_12 rfl (lv_at hl 0 rfl) ?_
      refine va_get (ci := 0) (v := .ref (a 16)) (C := RX0) (T := TX0) (N := 7) hx hb hts hiX0 hown hK hP 11 rfl rfl 5 (by decide) hf0 (fun _ h9 => h9) rfl dX0_narrowToGroup_13 ?_
      refine lv_iload_n hx hb dX0_narrowToGroup_16 rfl (lv_at hl 1 rfl) ?_
      refine wa_i (i := k9) (v := nI (((lgL (k_kin C) (k_row C) (meL (k_kin C) (k_row C) (k_met C) (k_kc C)) (k_kis C) (k_kc C)).2.2) k9)) hx hb hK hP 16 0 rfl rfl rfl (by omega) (by decide) dX0_narrowToGroup_17 ?_
      refine lv_goto (tgt := 22) hx hb dX0_narrowToGroup_18 (by decide) ?_
      refine lv_istore_n (lv' := [(2, .int (nI (((lgL (k_kin C) (k_row C) (meL (k_kin C) (k_row C) (k_met C) (k_kc C)) (k_kis C) (k_kc C)).2.2) k9))), (0, .ref (a 11)), (1, .int (nI (k9)))]) hx hb dX0_narrowToGroup_22 rfl hl (by decide) rfl (fun ls hl => ?_)
      refine lv_iconst (v := nI (0)) hx hb dX0_narrowToGroup_23 (by decide) ?_
      refine lv_istore_n (lv' := [(3, .int (nI (0))), (2, .int (nI (((lgL (k_kin C) (k_row C) (meL (k_kin C) (k_row C) (k_met C) (k_kc C)) (k_kis C) (k_kc C)).2.2) k9))), (0, .ref (a 11)), (1, .int (nI (k9)))]) hx hb dX0_narrowToGroup_24 rfl hl (by decide) rfl (fun ls hl => ?_)
      refine lv_iconst (v := nI (0)) hx hb dX0_narrowToGroup_25 (by decide) ?_
      refine lv_istore (lv' := [(4, .int (nI (0))), (3, .int (nI (0))), (2, .int (nI (((lgL (k_kin C) (k_row C) (meL (k_kin C) (k_row C) (k_met C) (k_kc C)) (k_kis C) (k_kc C)).2.2) k9))), (0, .ref (a 11)), (1, .int (nI (k9)))]) hx hb dX0_narrowToGroup_26 hl (by decide) rfl (fun ls hl => ?_)
      have hlp28 : ∀ (d : Nat) (i : Nat) (k : Nat) (f : Nat → Nat) (H : Heap) (locs : List Loc), k_kc C - i < d → (i ≤ k_kc C) → (nrL (pKin (k_kin C) (((lgL (k_kin C) (k_row C) (meL (k_kin C) (k_row C) (k_met C) (k_kc C)) (k_kis C) (k_kc C)).2.2 k9 : Int))) (k_row C) i = (k, f)) → (∀ j, f j < 300) → va_P D vwCl (kX cI cJ cZ cV cR a (k_ra C) (k_rb C) (k_vc C) (k_rc C) (k_pc C) (k_nw C) (k_n C) (k_fn C) (k_sn C) (k_kc C) (k_grp C) (k_key C) (k_srt C) (k_wt C) (k_home C) (k_drp C) ((lgL (k_kin C) (k_row C) (meL (k_kin C) (k_row C) (k_met C) (k_kc C)) (k_kis C) (k_kc C)).2.1) (k_kin C) (k_alv C) (k_srs C) (f) (k_sp C) ((lgL (k_kin C) (k_row C) (meL (k_kin C) (k_row C) (k_met C) (k_kc C)) (k_kis C) (k_kc C)).2.2) (k_pg C) (k_vq C) (k_rq C) (k_L C) (k_F C)) H → va_D A (kX cI cJ cZ cV cR a (k_ra C) (k_rb C) (k_vc C) (k_rc C) (k_pc C) (k_nw C) (k_n C) (k_fn C) (k_sn C) (k_kc C) (k_grp C) (k_key C) (k_srt C) (k_wt C) (k_home C) (k_drp C) ((lgL (k_kin C) (k_row C) (meL (k_kin C) (k_row C) (k_met C) (k_kc C)) (k_kis C) (k_kc C)).2.1) (k_kin C) (k_alv C) (k_srs C) (f) (k_sp C) ((lgL (k_kin C) (k_row C) (meL (k_kin C) (k_row C) (k_met C) (k_kc C)) (k_kis C) (k_kc C)).2.2) (k_pg C) (k_vq C) (k_rq C) (k_L C) (k_F C)) → va_S A s.heap H locs → ∀ (ls : Array Slot), lv_has ls 5 [(0, .ref (a 11)), (1, .int (nI (k9))), (2, .int (nI (((lgL (k_kin C) (k_row C) (meL (k_kin C) (k_row C) (k_met C) (k_kc C)) (k_kis C) (k_kc C)).2.2) k9))), (3, .int (nI (k))), (4, .int (nI (i)))] → W p l e (headSpec wsX0_narrowToGroup rm_X0_narrowToGroup).room s m ([.ref (a 11), .int (nI (k9))] : List Value).toArray below meth c H locs (0) (0) (MQ below (va_Qv (fun u => u = ngM C k9) (fun u => GB D (tyK cI cJ cZ cV cR) A (kW cI cJ cZ cV cR a u)) A) ([.ref (a 11), .int (nI (k9))] : List Value).toArray s 0 0 A) (F0 m 28 ls []) := by
        intro d
        induction d with
        | zero => intro i k f H locs hd28; exact absurd hd28 (Nat.not_lt_zero _)
        | succ d ih28 =>
          intro i k f H locs hd28 hik hm hf hP hD hS ls hl
          have hri := hf i
          have hki := h_kin (f i)
          have hkl : k ≤ i := by have := nrL_le (pKin (k_kin C) (((lgL (k_kin C) (k_row C) (meL (k_kin C) (k_row C) (k_met C) (k_kc C)) (k_kis C) (k_kc C)).2.2 k9 : Int))) (k_row C) i; rw [hm] at this; exact this
          refine lv_iload hx hb dX0_narrowToGroup_28 (lv_at hl 4 rfl) ?_
          refine lv_aload_n hx hb dX0_narrowToGroup_30 rfl (lv_at hl 0 rfl) ?_
          refine va_get (ci := 0) (v := .int (nI (k_kc C))) (C := RX0) (T := TX0) (N := 7) hx hb hts hiX0 hown hK hP 11 rfl rfl 6 (by decide) hf1 (fun _ h9 => h9) rfl dX0_narrowToGroup_31 ?_
          refine wn_icmp_ge (a := i) (b := k_kc C) (tgt := 78) hx hb (nI_z (by omega)) (nI_z (by omega)) dX0_narrowToGroup_34 (by decide) (fun c34_4 => ?_) (fun c34_4 => ?_)
          · refine lv_aload_n hx hb dX0_narrowToGroup_78 rfl (lv_at hl 0 rfl) ?_
            refine lv_iload_n hx hb dX0_narrowToGroup_79 rfl (lv_at hl 3 rfl) ?_
            refine va_put (ci := 0) (v := .int (nI (k))) (ty := .int) (C := RX0) (T := TX0) (N := 7) hx hb hts hiX0 tyX0 tyX0_ok nmX0 hown hK hP hD hS 11 rfl rfl 6 (by decide) hf1 (fun _ h9 => h9) rfl (by decide +kernel) rfl rfl (Nat.le_of_ble_eq_true rfl) dX0_narrowToGroup_80 (fun H locs hP hD hS => ?_)
            have hP : va_P D vwCl (kX cI cJ cZ cV cR a (k_ra C) (k_rb C) (k_vc C) (k_rc C) (k_pc C) (k_nw C) (k_n C) (k_fn C) (k_sn C) (k) (k_grp C) (k_key C) (k_srt C) (k_wt C) (k_home C) (k_drp C) ((lgL (k_kin C) (k_row C) (meL (k_kin C) (k_row C) (k_met C) (k_kc C)) (k_kis C) (k_kc C)).2.1) (k_kin C) (k_alv C) (k_srs C) (f) (k_sp C) ((lgL (k_kin C) (k_row C) (meL (k_kin C) (k_row C) (k_met C) (k_kc C)) (k_kis C) (k_kc C)).2.2) (k_pg C) (k_vq C) (k_rq C) (k_L C) (k_F C)) H := hP
            have hD : va_D A (kX cI cJ cZ cV cR a (k_ra C) (k_rb C) (k_vc C) (k_rc C) (k_pc C) (k_nw C) (k_n C) (k_fn C) (k_sn C) (k) (k_grp C) (k_key C) (k_srt C) (k_wt C) (k_home C) (k_drp C) ((lgL (k_kin C) (k_row C) (meL (k_kin C) (k_row C) (k_met C) (k_kc C)) (k_kis C) (k_kc C)).2.1) (k_kin C) (k_alv C) (k_srs C) (f) (k_sp C) ((lgL (k_kin C) (k_row C) (meL (k_kin C) (k_row C) (k_met C) (k_kc C)) (k_kis C) (k_kc C)).2.2) (k_pg C) (k_vq C) (k_rq C) (k_L C) (k_F C)) := hD
            have hPm : va_P D vwCl (kW cI cJ cZ cV cR a (mkC (k_ra C) (k_rb C) (k_vc C) (k_rc C) (k_pc C) (k_nw C) (k_n C) (k_fn C) (k_sn C) (k) (k_grp C) (k_key C) (k_srt C) (k_wt C) (k_home C) (k_drp C) ((lgL (k_kin C) (k_row C) (meL (k_kin C) (k_row C) (k_met C) (k_kc C)) (k_kis C) (k_kc C)).2.1) (k_kin C) (k_alv C) (k_srs C) (f) (k_sp C) ((lgL (k_kin C) (k_row C) (meL (k_kin C) (k_row C) (k_met C) (k_kc C)) (k_kis C) (k_kc C)).2.2) (k_pg C) (k_vq C) (k_rq C) (k_L C) (k_F C))) H := by rw [← kX_mk]; exact hP
            have hDm : va_D A (kW cI cJ cZ cV cR a (mkC (k_ra C) (k_rb C) (k_vc C) (k_rc C) (k_pc C) (k_nw C) (k_n C) (k_fn C) (k_sn C) (k) (k_grp C) (k_key C) (k_srt C) (k_wt C) (k_home C) (k_drp C) ((lgL (k_kin C) (k_row C) (meL (k_kin C) (k_row C) (k_met C) (k_kc C)) (k_kis C) (k_kc C)).2.1) (k_kin C) (k_alv C) (k_srs C) (f) (k_sp C) ((lgL (k_kin C) (k_row C) (meL (k_kin C) (k_row C) (k_met C) (k_kc C)) (k_kis C) (k_kc C)).2.2) (k_pg C) (k_vq C) (k_rq C) (k_L C) (k_F C))) := by rw [← kX_mk]; exact hD
            exact W.vret hx hb hr (fun t ht hW => ⟨⟨(mkC (k_ra C) (k_rb C) (k_vc C) (k_rc C) (k_pc C) (k_nw C) (k_n C) (k_fn C) (k_sn C) (k) (k_grp C) (k_key C) (k_srt C) (k_wt C) (k_home C) (k_drp C) ((lgL (k_kin C) (k_row C) (meL (k_kin C) (k_row C) (k_met C) (k_kc C)) (k_kis C) (k_kc C)).2.1) (k_kin C) (k_alv C) (k_srs C) (f) (k_sp C) ((lgL (k_kin C) (k_row C) (meL (k_kin C) (k_row C) (k_met C) (k_kc C)) (k_kis C) (k_kc C)).2.2) (k_pg C) (k_vq C) (k_rq C) (k_L C) (k_F C)), rfl, (by have hm9 := hm; rw [(show i = k_kc C by omega)] at hm9; show _ = ngM C k9; rw [ngM, ngR, hm9]), gb_mk ht hW hPm hK hDm⟩, hS.F ht⟩) hS.2.2 dX0_narrowToGroup_83
          · refine lv_aload_n hx hb dX0_narrowToGroup_37 rfl (lv_at hl 0 rfl) ?_
            refine va_get (ci := 0) (v := .ref (a 1)) (C := RX0) (T := TX0) (N := 7) hx hb hts hiX0 hown hK hP 11 rfl rfl 0 (by decide) hf2 (fun _ h9 => h9) rfl dX0_narrowToGroup_38 ?_
            refine va_get (ci := 3) (v := .ref (a 5)) (C := RX3) (T := TX3) (N := 8) hx hb hts hiX3 hown hK hP 1 rfl rfl 3 (by decide) hf3 (fun _ h9 => h9) rfl dX0_narrowToGroup_41 ?_
            refine lv_aload_n hx hb dX0_narrowToGroup_44 rfl (lv_at hl 0 rfl) ?_
            refine va_get (ci := 0) (v := .ref (k_ra C)) (C := RX0) (T := TX0) (N := 7) hx hb hts hiX0 hown hK hP 11 rfl rfl 1 (by decide) hf4 (fun _ h9 => h9) rfl dX0_narrowToGroup_45 ?_
            refine lv_iload hx hb dX0_narrowToGroup_48 (lv_at hl 4 rfl) ?_
            refine wa_i (i := i) (v := nI ((f) i)) hx hb hK hP 12 0 rfl rfl rfl (by omega) (by decide) dX0_narrowToGroup_50 ?_
            refine wa_i (i := (f) i) (v := nI (k_kin C ((f) i))) hx hb hK hP 5 0 rfl rfl rfl (by omega) (by decide) dX0_narrowToGroup_51 ?_
            refine lv_iload_n hx hb dX0_narrowToGroup_52 rfl (lv_at hl 2 rfl) ?_
            refine wn_icmp_ne (a := k_kin C ((f) i)) (b := ((lgL (k_kin C) (k_row C) (meL (k_kin C) (k_row C) (k_met C) (k_kc C)) (k_kis C) (k_kc C)).2.2) k9) (tgt := 72) hx hb (nr3 (h_kin ((f) i))) (nI_z (by omega)) dX0_narrowToGroup_53 (by decide) (fun c53_5 => ?_) (fun c53_5 => ?_)
            · refine lv_iinc (v := nI (i + 1)) (lv' := [(4, .int (nI (i + 1))), (0, .ref (a 11)), (1, .int (nI (k9))), (2, .int (nI (((lgL (k_kin C) (k_row C) (meL (k_kin C) (k_row C) (k_met C) (k_kc C)) (k_kis C) (k_kc C)).2.2) k9))), (3, .int (nI (k)))]) hx hb dX0_narrowToGroup_72 hl (k := 4) rfl (nI_inc _) (by decide) rfl (fun ls hl => ?_)
              refine lv_goto (tgt := 28) hx hb dX0_narrowToGroup_75 (by decide) ?_
              exact ih28 (i + 1) (k) (f) _ _ (by omega) (by omega) (nrL_f hm (by simp only [pKin]; exact decide_eq_false (by omega))) (hf) hP hD hS ls (lv_sub hl [1, 2, 3, 4, 0] rfl)
            · refine lv_aload_n hx hb dX0_narrowToGroup_56 rfl (lv_at hl 0 rfl) ?_
              refine va_get (ci := 0) (v := .ref (k_ra C)) (C := RX0) (T := TX0) (N := 7) hx hb hts hiX0 hown hK hP 11 rfl rfl 1 (by decide) hf4 (fun _ h9 => h9) rfl dX0_narrowToGroup_57 ?_
              refine lv_iload_n hx hb dX0_narrowToGroup_60 rfl (lv_at hl 3 rfl) ?_
              refine lv_aload_n hx hb dX0_narrowToGroup_61 rfl (lv_at hl 0 rfl) ?_
              refine va_get (ci := 0) (v := .ref (k_ra C)) (C := RX0) (T := TX0) (N := 7) hx hb hts hiX0 hown hK hP 11 rfl rfl 1 (by decide) hf4 (fun _ h9 => h9) rfl dX0_narrowToGroup_62 ?_
              refine lv_iload hx hb dX0_narrowToGroup_65 (lv_at hl 4 rfl) ?_
              refine wa_i (i := i) (v := nI ((f) i)) hx hb hK hP 12 0 rfl rfl rfl (by omega) (by decide) dX0_narrowToGroup_67 ?_
              refine wa_ist (i := k) hx hb hK hP hD hS 12 0 rfl rfl (upd_nI (f) (k) ((f) i)) (by omega) (by decide) dX0_narrowToGroup_68 (fun H locs hP hD hS => ?_)
              have hP : va_P D vwCl (kX cI cJ cZ cV cR a (k_ra C) (k_rb C) (k_vc C) (k_rc C) (k_pc C) (k_nw C) (k_n C) (k_fn C) (k_sn C) (k_kc C) (k_grp C) (k_key C) (k_srt C) (k_wt C) (k_home C) (k_drp C) ((lgL (k_kin C) (k_row C) (meL (k_kin C) (k_row C) (k_met C) (k_kc C)) (k_kis C) (k_kc C)).2.1) (k_kin C) (k_alv C) (k_srs C) (va_up (f) (k) ((f) i)) (k_sp C) ((lgL (k_kin C) (k_row C) (meL (k_kin C) (k_row C) (k_met C) (k_kc C)) (k_kis C) (k_kc C)).2.2) (k_pg C) (k_vq C) (k_rq C) (k_L C) (k_F C)) H := hP
              have hD : va_D A (kX cI cJ cZ cV cR a (k_ra C) (k_rb C) (k_vc C) (k_rc C) (k_pc C) (k_nw C) (k_n C) (k_fn C) (k_sn C) (k_kc C) (k_grp C) (k_key C) (k_srt C) (k_wt C) (k_home C) (k_drp C) ((lgL (k_kin C) (k_row C) (meL (k_kin C) (k_row C) (k_met C) (k_kc C)) (k_kis C) (k_kc C)).2.1) (k_kin C) (k_alv C) (k_srs C) (va_up (f) (k) ((f) i)) (k_sp C) ((lgL (k_kin C) (k_row C) (meL (k_kin C) (k_row C) (k_met C) (k_kc C)) (k_kis C) (k_kc C)).2.2) (k_pg C) (k_vq C) (k_rq C) (k_L C) (k_F C)) := hD
              refine lv_iinc (v := nI (k + 1)) (lv' := [(3, .int (nI (k + 1))), (0, .ref (a 11)), (1, .int (nI (k9))), (2, .int (nI (((lgL (k_kin C) (k_row C) (meL (k_kin C) (k_row C) (k_met C) (k_kc C)) (k_kis C) (k_kc C)).2.2) k9))), (4, .int (nI (i)))]) hx hb dX0_narrowToGroup_69 hl (k := 3) rfl (nI_inc _) (by decide) rfl (fun ls hl => ?_)
              refine lv_iinc (v := nI (i + 1)) (lv' := [(4, .int (nI (i + 1))), (3, .int (nI (k + 1))), (0, .ref (a 11)), (1, .int (nI (k9))), (2, .int (nI (((lgL (k_kin C) (k_row C) (meL (k_kin C) (k_row C) (k_met C) (k_kc C)) (k_kis C) (k_kc C)).2.2) k9)))]) hx hb dX0_narrowToGroup_72 hl (k := 4) rfl (nI_inc _) (by decide) rfl (fun ls hl => ?_)
              refine lv_goto (tgt := 28) hx hb dX0_narrowToGroup_75 (by decide) ?_
              exact ih28 (i + 1) (k + 1) (va_up (f) (k) ((f) i)) _ _ (by omega) (by omega) (nrL_t hm (by simp only [pKin]; exact decide_eq_true (by omega))) (up_lt hf (hf _)) hP hD hS ls (lv_sub hl [2, 3, 4, 1, 0] rfl)
      exact hlp28 _ (0) (0) (k_row C) _ _ (Nat.lt_succ_self _) (Nat.zero_le _) (rfl) (h_row) hP hD hS ls (lv_sub hl [3, 4, 2, 1, 0] rfl)
def rm_X0_narrowToSlice : Room := { frames := 2, cells := 0, slots := 0, locals := 49 }
set_option maxHeartbeats 4000000 in
set_option maxRecDepth 100000 in
/-- a slice alone is left -/
theorem c_X0_narrowToSlice (l : Launch) (D : va_G) (cI cJ cZ cV cR : ClassId) (a : Nat → Nat) (C : CT) (hM : kOk C) (mn wh : Nat) (h0 : 0 < mn) (hmn : mn < 300) (hwh : wh < 300) (sz : Nat) : Met l yX0_narrowToSlice wsX0_narrowToSlice rm_X0_narrowToSlice (va_Pc [.ref (a 11), .int (nI (mn)), .int (nI (wh))] (GW D (tyK cI cJ cZ cV cR) (kW cI cJ cZ cV cR a C) sz)) (va_Qv (fun u => u = nsM C mn wh) (fun u => GB D (tyK cI cJ cZ cV cR) (va_A (kW cI cJ cZ cV cR a C) sz) (kW cI cJ cZ cV cR a u)) (va_A (kW cI cJ cZ cV cR a C) sz)) 0 0 (va_A (kW cI cJ cZ cV cR a C) sz) := by
  obtain ⟨hn, hfn, hsn, hvc, hrc, hpc, hnw, hkc, h_home, h_kin, h_alv, h_srs, h_row, h_sp, h_kis, h_pg⟩ := id hM
  refine Met.ofW (cc := cX0_narrowToSlice) (maxL := 5) (ret := none) (by decide) rfl ?_
  intro p e s m args below meth c s₁ B hml hv
  obtain ⟨rfl, hsz, hP, hK, hD0⟩ := hv
  have hx := B.exec
  have hb := B.bytes
  have hr := B.returns
  have hts := atoms_spec (ws := wsX0_narrowToSlice) B.pre
  have hown : s.vm.findClass RX0 = some m.cls := findClass_of_methodNamed B.named
  have hlocks := B.notSynchronized
  subst hsz
  have hD := hD0.self (sz := s.heap.size)
  generalize hAe : va_A (kW cI cJ cZ cV cR a C) s.heap.size = A at hD ⊢
  have hA : ∀ q : Nat, s.heap.size ≤ q → A q := fun q h => by rw [← hAe]; exact Or.inr h
  have hS : va_S A s.heap s.heap [] := va_S.rf
  have hP : va_P D vwCl (kX cI cJ cZ cV cR a (k_ra C) (k_rb C) (k_vc C) (k_rc C) (k_pc C) (k_nw C) (k_n C) (k_fn C) (k_sn C) (k_kc C) (k_grp C) (k_key C) (k_srt C) (k_wt C) (k_home C) (k_drp C) (k_met C) (k_kin C) (k_alv C) (k_srs C) (k_row C) (k_sp C) (k_kis C) (k_pg C) (k_vq C) (k_rq C) (k_L C) (k_F C)) s.heap := hP
  have hD : va_D A (kX cI cJ cZ cV cR a (k_ra C) (k_rb C) (k_vc C) (k_rc C) (k_pc C) (k_nw C) (k_n C) (k_fn C) (k_sn C) (k_kc C) (k_grp C) (k_key C) (k_srt C) (k_wt C) (k_home C) (k_drp C) (k_met C) (k_kin C) (k_alv C) (k_srs C) (k_row C) (k_sp C) (k_kis C) (k_pg C) (k_vq C) (k_rq C) (k_L C) (k_F C)) := hD
  have hiX0 : ∀ w ∈ wsX00, w ∈ wsX0_narrowToSlice := by decide +kernel
  have hiX3 : ∀ w ∈ wsX30, w ∈ wsX0_narrowToSlice := by decide +kernel
  have hf0 := hts (.fieldLink RX0 29 "GroupCursors$Ranking" "count" "I") (by decide +kernel)
  have hf1 := hts (.fieldLink RX0 33 "GroupCursors$Ranking" "stock" "LGroupCursors$Stock;") (by decide +kernel)
  have hf2 := hts (.fieldLink RX0 64 "GroupCursors$Stock" "key" "[J") (by decide +kernel)
  have hf3 := hts (.fieldLink RX0 9 "GroupCursors$Ranking" "row" "[I") (by decide +kernel)
  have hl := lv_entry ([.ref (a 11), .int (nI (mn)), .int (nI (wh))]) (n := 5) (Nat.le_of_ble_eq_true rfl)
  rw [lg_entry_eq]
  generalize (lg_sl ([.ref (a 11), .int (nI (mn)), .int (nI (wh))]) ++ List.replicate (5 - (lg_sl ([.ref (a 11), .int (nI (mn)), .int (nI (wh))])).length) Slot.unset).toArray = ls at hl ⊢
  have hl : lv_has ls 5 [(0, .ref (a 11)), (1, .int (nI (mn))), (2, .int (nI (wh)))] := hl
  refine lv_iconst (v := nI (0)) hx hb dX0_narrowToSlice_0 (by decide) ?_
  refine lv_istore_n (lv' := [(3, .int (nI (0))), (0, .ref (a 11)), (1, .int (nI (mn))), (2, .int (nI (wh)))]) hx hb dX0_narrowToSlice_1 rfl hl (by decide) rfl (fun ls hl => ?_)
  refine lv_iconst (v := nI (0)) hx hb dX0_narrowToSlice_2 (by decide) ?_
  refine lv_istore (lv' := [(4, .int (nI (0))), (3, .int (nI (0))), (0, .ref (a 11)), (1, .int (nI (mn))), (2, .int (nI (wh)))]) hx hb dX0_narrowToSlice_3 hl (by decide) rfl (fun ls hl => ?_)
  have hlp5 : ∀ (d : Nat) (i : Nat) (k : Nat) (f : Nat → Nat) (H : Heap) (locs : List Loc), k_kc C - i < d → (i ≤ k_kc C) → (nrL (pSl (k_key C) mn wh) (k_row C) i = (k, f)) → (∀ j, f j < 300) → va_P D vwCl (kX cI cJ cZ cV cR a (k_ra C) (k_rb C) (k_vc C) (k_rc C) (k_pc C) (k_nw C) (k_n C) (k_fn C) (k_sn C) (k_kc C) (k_grp C) (k_key C) (k_srt C) (k_wt C) (k_home C) (k_drp C) (k_met C) (k_kin C) (k_alv C) (k_srs C) (f) (k_sp C) (k_kis C) (k_pg C) (k_vq C) (k_rq C) (k_L C) (k_F C)) H → va_D A (kX cI cJ cZ cV cR a (k_ra C) (k_rb C) (k_vc C) (k_rc C) (k_pc C) (k_nw C) (k_n C) (k_fn C) (k_sn C) (k_kc C) (k_grp C) (k_key C) (k_srt C) (k_wt C) (k_home C) (k_drp C) (k_met C) (k_kin C) (k_alv C) (k_srs C) (f) (k_sp C) (k_kis C) (k_pg C) (k_vq C) (k_rq C) (k_L C) (k_F C)) → va_S A s.heap H locs → ∀ (ls : Array Slot), lv_has ls 5 [(0, .ref (a 11)), (1, .int (nI (mn))), (2, .int (nI (wh))), (3, .int (nI (k))), (4, .int (nI (i)))] → W p l e (headSpec wsX0_narrowToSlice rm_X0_narrowToSlice).room s m ([.ref (a 11), .int (nI (mn)), .int (nI (wh))] : List Value).toArray below meth c H locs (0) (0) (MQ below (va_Qv (fun u => u = nsM C mn wh) (fun u => GB D (tyK cI cJ cZ cV cR) A (kW cI cJ cZ cV cR a u)) A) ([.ref (a 11), .int (nI (mn)), .int (nI (wh))] : List Value).toArray s 0 0 A) (F0 m 5 ls []) := by
    intro d
    induction d with
    | zero => intro i k f H locs hd5; exact absurd hd5 (Nat.not_lt_zero _)
    | succ d ih5 =>
      intro i k f H locs hd5 hik hm hf hP hD hS ls hl
      have hri := hf i
      have hkl : k ≤ i := by have := nrL_le (pSl (k_key C) mn wh) (k_row C) i; rw [hm] at this; exact this
      refine lv_iload hx hb dX0_narrowToSlice_5 (lv_at hl 4 rfl) ?_
      refine lv_aload_n hx hb dX0_narrowToSlice_7 rfl (lv_at hl 0 rfl) ?_
      refine va_get (ci := 0) (v := .int (nI (k_kc C))) (C := RX0) (T := TX0) (N := 7) hx hb hts hiX0 hown hK hP 11 rfl rfl 6 (by decide) hf0 (fun _ h9 => h9) rfl dX0_narrowToSlice_8 ?_
      refine wn_icmp_ge (a := i) (b := k_kc C) (tgt := 61) hx hb (nI_z (by omega)) (nI_z (by omega)) dX0_narrowToSlice_11 (by decide) (fun c11_1 => ?_) (fun c11_1 => ?_)
      · refine lv_aload_n hx hb dX0_narrowToSlice_61 rfl (lv_at hl 0 rfl) ?_
        refine lv_iload_n hx hb dX0_narrowToSlice_62 rfl (lv_at hl 3 rfl) ?_
        refine va_put (ci := 0) (v := .int (nI (k))) (ty := .int) (C := RX0) (T := TX0) (N := 7) hx hb hts hiX0 tyX0 tyX0_ok nmX0 hown hK hP hD hS 11 rfl rfl 6 (by decide) hf0 (fun _ h9 => h9) rfl (by decide +kernel) rfl rfl (Nat.le_of_ble_eq_true rfl) dX0_narrowToSlice_63 (fun H locs hP hD hS => ?_)
        have hP : va_P D vwCl (kX cI cJ cZ cV cR a (k_ra C) (k_rb C) (k_vc C) (k_rc C) (k_pc C) (k_nw C) (k_n C) (k_fn C) (k_sn C) (k) (k_grp C) (k_key C) (k_srt C) (k_wt C) (k_home C) (k_drp C) (k_met C) (k_kin C) (k_alv C) (k_srs C) (f) (k_sp C) (k_kis C) (k_pg C) (k_vq C) (k_rq C) (k_L C) (k_F C)) H := hP
        have hD : va_D A (kX cI cJ cZ cV cR a (k_ra C) (k_rb C) (k_vc C) (k_rc C) (k_pc C) (k_nw C) (k_n C) (k_fn C) (k_sn C) (k) (k_grp C) (k_key C) (k_srt C) (k_wt C) (k_home C) (k_drp C) (k_met C) (k_kin C) (k_alv C) (k_srs C) (f) (k_sp C) (k_kis C) (k_pg C) (k_vq C) (k_rq C) (k_L C) (k_F C)) := hD
        have hPm : va_P D vwCl (kW cI cJ cZ cV cR a (mkC (k_ra C) (k_rb C) (k_vc C) (k_rc C) (k_pc C) (k_nw C) (k_n C) (k_fn C) (k_sn C) (k) (k_grp C) (k_key C) (k_srt C) (k_wt C) (k_home C) (k_drp C) (k_met C) (k_kin C) (k_alv C) (k_srs C) (f) (k_sp C) (k_kis C) (k_pg C) (k_vq C) (k_rq C) (k_L C) (k_F C))) H := by rw [← kX_mk]; exact hP
        have hDm : va_D A (kW cI cJ cZ cV cR a (mkC (k_ra C) (k_rb C) (k_vc C) (k_rc C) (k_pc C) (k_nw C) (k_n C) (k_fn C) (k_sn C) (k) (k_grp C) (k_key C) (k_srt C) (k_wt C) (k_home C) (k_drp C) (k_met C) (k_kin C) (k_alv C) (k_srs C) (f) (k_sp C) (k_kis C) (k_pg C) (k_vq C) (k_rq C) (k_L C) (k_F C))) := by rw [← kX_mk]; exact hD
        exact W.vret hx hb hr (fun t ht hW => ⟨⟨(mkC (k_ra C) (k_rb C) (k_vc C) (k_rc C) (k_pc C) (k_nw C) (k_n C) (k_fn C) (k_sn C) (k) (k_grp C) (k_key C) (k_srt C) (k_wt C) (k_home C) (k_drp C) (k_met C) (k_kin C) (k_alv C) (k_srs C) (f) (k_sp C) (k_kis C) (k_pg C) (k_vq C) (k_rq C) (k_L C) (k_F C)), rfl, (by have hm9 := hm; rw [(show i = k_kc C by omega)] at hm9; show _ = nsM C mn wh; rw [nsM, nsR, hm9]), gb_mk ht hW hPm hK hDm⟩, hS.F ht⟩) hS.2.2 dX0_narrowToSlice_66
      · refine lv_aload_n hx hb dX0_narrowToSlice_14 rfl (lv_at hl 0 rfl) ?_
        refine va_get (ci := 0) (v := .ref (a 1)) (C := RX0) (T := TX0) (N := 7) hx hb hts hiX0 hown hK hP 11 rfl rfl 0 (by decide) hf1 (fun _ h9 => h9) rfl dX0_narrowToSlice_15 ?_
        refine va_get (ci := 3) (v := .ref (a 3)) (C := RX3) (T := TX3) (N := 8) hx hb hts hiX3 hown hK hP 1 rfl rfl 1 (by decide) hf2 (fun _ h9 => h9) rfl dX0_narrowToSlice_18 ?_
        refine lv_aload_n hx hb dX0_narrowToSlice_21 rfl (lv_at hl 0 rfl) ?_
        refine va_get (ci := 0) (v := .ref (k_ra C)) (C := RX0) (T := TX0) (N := 7) hx hb hts hiX0 hown hK hP 11 rfl rfl 1 (by decide) hf3 (fun _ h9 => h9) rfl dX0_narrowToSlice_22 ?_
        refine lv_iload hx hb dX0_narrowToSlice_25 (lv_at hl 4 rfl) ?_
        refine wa_i (i := i) (v := nI ((f) i)) hx hb hK hP 12 0 rfl rfl rfl (by omega) (by decide) dX0_narrowToSlice_27 ?_
        refine wa_l (i := (f) i) (v := k_key C ((f) i)) hx hb hK hP 3 1 rfl rfl rfl (by omega) (by decide) dX0_narrowToSlice_28 ?_
        refine lv_iload_n hx hb dX0_narrowToSlice_29 rfl (lv_at hl 1 rfl) ?_
        have hPm : va_P D vwCl (kW cI cJ cZ cV cR a (mkC (k_ra C) (k_rb C) (k_vc C) (k_rc C) (k_pc C) (k_nw C) (k_n C) (k_fn C) (k_sn C) (k_kc C) (k_grp C) (k_key C) (k_srt C) (k_wt C) (k_home C) (k_drp C) (k_met C) (k_kin C) (k_alv C) (k_srs C) (f) (k_sp C) (k_kis C) (k_pg C) (k_vq C) (k_rq C) (k_L C) (k_F C))) H := by rw [← kX_mk]; exact hP
        refine wc_Sl (As := [.long (k_key C ((f) i)), .int (nI (mn))]) (rest := []) ⟨hx, hb, hml, hown, hts⟩ (c_X0_sliceOf l D cI cJ cZ cV cR a (mkC (k_ra C) (k_rb C) (k_vc C) (k_rc C) (k_pc C) (k_nw C) (k_n C) (k_fn C) (k_sn C) (k_kc C) (k_grp C) (k_key C) (k_srt C) (k_wt C) (k_home C) (k_drp C) (k_met C) (k_kin C) (k_alv C) (k_srs C) (f) (k_sp C) (k_kis C) (k_pg C) (k_vq C) (k_rq C) (k_L C) (k_F C)) (ok_row hM hf) (k_key C ((f) i)) (mn) (by omega) (by omega)) (va_cwS 2 hts gX0_narrowToSlice_X0_sliceOf rfl rfl rfl (by decide +kernel) ⟨Nat.le_of_ble_eq_true rfl, Nat.le_of_ble_eq_true rfl⟩) hPm hK rfl hl.1 rfl (Nat.le_of_ble_eq_true rfl) dX0_narrowToSlice_30 ⟨Nat.zero_le _, Nat.zero_le _⟩ (fun rr hq2 => ?_)
        have hq2 : rr = (sliceV (k_key C ((f) i)) mn) := hq2
        subst hq2
        refine lv_iload_n hx hb dX0_narrowToSlice_33 rfl (lv_at hl 2 rfl) ?_
        refine lv_i2l (v := (nI (wh)).toInt64) hx hb dX0_narrowToSlice_34 rfl ?_
        refine wl_ne (tgt := 55) hx hb dX0_narrowToSlice_35 dX0_narrowToSlice_36 (by decide) (fun c35_3 => ?_) (fun c35_3 => ?_)
        · refine lv_iinc (v := nI (i + 1)) (lv' := [(4, .int (nI (i + 1))), (0, .ref (a 11)), (1, .int (nI (mn))), (2, .int (nI (wh))), (3, .int (nI (k)))]) hx hb dX0_narrowToSlice_55 hl (k := 4) rfl (nI_inc _) (by decide) rfl (fun ls hl => ?_)
          refine lv_goto (tgt := 5) hx hb dX0_narrowToSlice_58 (by decide) ?_
          exact ih5 (i + 1) (k) (f) _ _ (by omega) (by omega) (nrL_f hm (by simp only [pSl]; exact decide_eq_false c35_3)) (hf) hP hD hS ls (lv_sub hl [1, 2, 3, 4, 0] rfl)
        · refine lv_aload_n hx hb dX0_narrowToSlice_39 rfl (lv_at hl 0 rfl) ?_
          refine va_get (ci := 0) (v := .ref (k_ra C)) (C := RX0) (T := TX0) (N := 7) hx hb hts hiX0 hown hK hP 11 rfl rfl 1 (by decide) hf3 (fun _ h9 => h9) rfl dX0_narrowToSlice_40 ?_
          refine lv_iload_n hx hb dX0_narrowToSlice_43 rfl (lv_at hl 3 rfl) ?_
          refine lv_aload_n hx hb dX0_narrowToSlice_44 rfl (lv_at hl 0 rfl) ?_
          refine va_get (ci := 0) (v := .ref (k_ra C)) (C := RX0) (T := TX0) (N := 7) hx hb hts hiX0 hown hK hP 11 rfl rfl 1 (by decide) hf3 (fun _ h9 => h9) rfl dX0_narrowToSlice_45 ?_
          refine lv_iload hx hb dX0_narrowToSlice_48 (lv_at hl 4 rfl) ?_
          refine wa_i (i := i) (v := nI ((f) i)) hx hb hK hP 12 0 rfl rfl rfl (by omega) (by decide) dX0_narrowToSlice_50 ?_
          refine wa_ist (i := k) hx hb hK hP hD hS 12 0 rfl rfl (upd_nI (f) (k) ((f) i)) (by omega) (by decide) dX0_narrowToSlice_51 (fun H locs hP hD hS => ?_)
          have hP : va_P D vwCl (kX cI cJ cZ cV cR a (k_ra C) (k_rb C) (k_vc C) (k_rc C) (k_pc C) (k_nw C) (k_n C) (k_fn C) (k_sn C) (k_kc C) (k_grp C) (k_key C) (k_srt C) (k_wt C) (k_home C) (k_drp C) (k_met C) (k_kin C) (k_alv C) (k_srs C) (va_up (f) (k) ((f) i)) (k_sp C) (k_kis C) (k_pg C) (k_vq C) (k_rq C) (k_L C) (k_F C)) H := hP
          have hD : va_D A (kX cI cJ cZ cV cR a (k_ra C) (k_rb C) (k_vc C) (k_rc C) (k_pc C) (k_nw C) (k_n C) (k_fn C) (k_sn C) (k_kc C) (k_grp C) (k_key C) (k_srt C) (k_wt C) (k_home C) (k_drp C) (k_met C) (k_kin C) (k_alv C) (k_srs C) (va_up (f) (k) ((f) i)) (k_sp C) (k_kis C) (k_pg C) (k_vq C) (k_rq C) (k_L C) (k_F C)) := hD
          refine lv_iinc (v := nI (k + 1)) (lv' := [(3, .int (nI (k + 1))), (0, .ref (a 11)), (1, .int (nI (mn))), (2, .int (nI (wh))), (4, .int (nI (i)))]) hx hb dX0_narrowToSlice_52 hl (k := 3) rfl (nI_inc _) (by decide) rfl (fun ls hl => ?_)
          refine lv_iinc (v := nI (i + 1)) (lv' := [(4, .int (nI (i + 1))), (3, .int (nI (k + 1))), (0, .ref (a 11)), (1, .int (nI (mn))), (2, .int (nI (wh)))]) hx hb dX0_narrowToSlice_55 hl (k := 4) rfl (nI_inc _) (by decide) rfl (fun ls hl => ?_)
          refine lv_goto (tgt := 5) hx hb dX0_narrowToSlice_58 (by decide) ?_
          exact ih5 (i + 1) (k + 1) (va_up (f) (k) ((f) i)) _ _ (by omega) (by omega) (nrL_t hm (by simp only [pSl]; exact decide_eq_true c35_3)) (up_lt hf (hf _)) hP hD hS ls (lv_sub hl [2, 3, 4, 1, 0] rfl)
  exact hlp5 _ (0) (0) (k_row C) _ _ (Nat.lt_succ_self _) (Nat.zero_le _) (rfl) (h_row) hP hD hS ls (lv_sub hl [2, 3, 4, 1, 0] rfl)
