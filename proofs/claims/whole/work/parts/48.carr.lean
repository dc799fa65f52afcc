def rm_X0_arrange : Room := { frames := 2, cells := 0, slots := 0, locals := 49 }
set_option maxHeartbeats 4000000 in
set_option maxRecDepth 100000 in
/-- the row is put in order -/
theorem c_X0_arrange (l : Launch) (D : va_G) (cI cJ cZ cV cR : ClassId) (a : Nat → Nat) (C : CT) (hM : kOk C) (kd : Nat) (sd : Int64) (hkd : kd < 3) (sz : Nat) : Met l yX0_arrange wsX0_arrange rm_X0_arrange (va_Pc [.ref (a 11), .int (nI (kd)), .long (sd)] (GW D (tyK cI cJ cZ cV cR) (kW cI cJ cZ cV cR a C) sz)) (va_Qv (fun u => u = anM C kd sd) (fun u => GB D (tyK cI cJ cZ cV cR) (va_A (kW cI cJ cZ cV cR a C) sz) (kW cI cJ cZ cV cR a u)) (va_A (kW cI cJ cZ cV cR a C) sz)) 0 0 (va_A (kW cI cJ cZ cV cR a C) sz) := by
  obtain ⟨hn, hfn, hsn, hvc, hrc, hpc, hnw, hkc, h_home, h_kin, h_alv, h_srs, h_row, h_sp, h_kis, h_pg⟩ := id hM
  refine Met.ofW (cc := cX0_arrange) (maxL := 6) (ret := none) (by decide) rfl ?_
  intro p e s m args below meth c s₁ B hml hv
  obtain ⟨rfl, hsz, hP, hK, hD0⟩ := hv
  have hx := B.exec
  have hb := B.bytes
  have hr := B.returns
  have hts := atoms_spec (ws := wsX0_arrange) B.pre
  have hown : s.vm.findClass RX0 = some m.cls := findClass_of_methodNamed B.named
  have hlocks := B.notSynchronized
  subst hsz
  have hD := hD0.self (sz := s.heap.size)
  generalize hAe : va_A (kW cI cJ cZ cV cR a C) s.heap.size = A at hD ⊢
  have hA : ∀ q : Nat, s.heap.size ≤ q → A q := fun q h => by rw [← hAe]; exact Or.inr h
  have hS : va_S A s.heap s.heap [] := va_S.rf
  have hP : va_P D vwCl (kX cI cJ cZ cV cR a (k_ra C) (k_rb C) (k_vc C) (k_rc C) (k_pc C) (k_nw C) (k_n C) (k_fn C) (k_sn C) (k_kc C) (k_grp C) (k_key C) (k_srt C) (k_wt C) (k_home C) (k_drp C) (k_met C) (k_kin C) (k_alv C) (k_srs C) (k_row C) (k_sp C) (k_kis C) (k_pg C) (k_vq C) (k_rq C) (k_L C) (k_F C)) s.heap := hP
  have hD : va_D A (kX cI cJ cZ cV cR a (k_ra C) (k_rb C) (k_vc C) (k_rc C) (k_pc C) (k_nw C) (k_n C) (k_fn C) (k_sn C) (k_kc C) (k_grp C) (k_key C) (k_srt C) (k_wt C) (k_home C) (k_drp C) (k_met C) (k_kin C) (k_alv C) (k_srs C) (k_row C) (k_sp C) (k_kis C) (k_pg C) (k_vq C) (k_rq C) (k_L C) (k_F C)) := hD
  have hiX0 : ∀ w ∈ wsX00, w ∈ wsX0_arrange := by decide +kernel
  have hf0 := hts (.fieldLink RX0 29 "GroupCursors$Ranking" "count" "I") (by decide +kernel)
  have hf1 := hts (.fieldLink RX0 15 "GroupCursors$Ranking" "spare" "[I") (by decide +kernel)
  have hf2 := hts (.fieldLink RX0 9 "GroupCursors$Ranking" "row" "[I") (by decide +kernel)
  have hf3 := hts (.methodLink RX0 37 Lib.Math.min.name) (by decide +kernel)
  have hf4 := hts (.static Lib.Math.min.name) (by decide +kernel)
  have hf5 := hts (.initialized "java/lang/Math") (by decide +kernel)
  have hf6 := hts (.code Lib.Math.min.name Lib.Math.min.code 2 (some .int)) (by decide +kernel)
  have hf7 := hts (.fieldLink RX0 18 "GroupCursors$Ranking" "weight" "[J") (by decide +kernel)
  have hl := lv_entry ([.ref (a 11), .int (nI (kd)), .long (sd)]) (n := 6) (Nat.le_of_ble_eq_true rfl)
  rw [lg_entry_eq]
  generalize (lg_sl ([.ref (a 11), .int (nI (kd)), .long (sd)]) ++ List.replicate (6 - (lg_sl ([.ref (a 11), .int (nI (kd)), .long (sd)])).length) Slot.unset).toArray = ls at hl ⊢
  have hl : lv_has ls 6 [(0, .ref (a 11)), (1, .int (nI (kd))), (2, .long (sd))] := hl
  refine lv_iconst (v := nI (0)) hx hb dX0_arrange_0 (by decide) ?_
  refine lv_istore (lv' := [(4, .int (nI (0))), (0, .ref (a 11)), (1, .int (nI (kd))), (2, .long (sd))]) hx hb dX0_arrange_1 hl (by decide) rfl (fun ls hl => ?_)
  have hlp3 : ∀ (d : Nat) (i : Nat) (H : Heap) (locs : List Loc), k_kc C - i < d → (i ≤ k_kc C) → va_P D vwCl (kX cI cJ cZ cV cR a (k_ra C) (k_rb C) (k_vc C) (k_rc C) (k_pc C) (k_nw C) (k_n C) (k_fn C) (k_sn C) (k_kc C) (k_grp C) (k_key C) (k_srt C) (wgL (k_srt C) (k_key C) (k_wt C) (k_row C) kd sd i) (k_home C) (k_drp C) (k_met C) (k_kin C) (k_alv C) (k_srs C) (k_row C) (k_sp C) (k_kis C) (k_pg C) (k_vq C) (k_rq C) (k_L C) (k_F C)) H → va_D A (kX cI cJ cZ cV cR a (k_ra C) (k_rb C) (k_vc C) (k_rc C) (k_pc C) (k_nw C) (k_n C) (k_fn C) (k_sn C) (k_kc C) (k_grp C) (k_key C) (k_srt C) (wgL (k_srt C) (k_key C) (k_wt C) (k_row C) kd sd i) (k_home C) (k_drp C) (k_met C) (k_kin C) (k_alv C) (k_srs C) (k_row C) (k_sp C) (k_kis C) (k_pg C) (k_vq C) (k_rq C) (k_L C) (k_F C)) → va_S A s.heap H locs → ∀ (ls : Array Slot), lv_has ls 6 [(0, .ref (a 11)), (1, .int (nI (kd))), (2, .long (sd)), (4, .int (nI (i)))] → W p l e (headSpec wsX0_arrange rm_X0_arrange).room s m ([.ref (a 11), .int (nI (kd)), .long (sd)] : List Value).toArray below meth c H locs (0) (0) (MQ below (va_Qv (fun u => u = anM C kd sd) (fun u => GB D (tyK cI cJ cZ cV cR) A (kW cI cJ cZ cV cR a u)) A) ([.ref (a 11), .int (nI (kd)), .long (sd)] : List Value).toArray s 0 0 A) (F0 m 3 ls []) := by
    intro d
    induction d with
    | zero => intro i H locs hd3; exact absurd hd3 (Nat.not_lt_zero _)
    | succ d ih3 =>
      intro i H locs hd3 hik hP hD hS ls hl
      have hri := h_row i
      refine lv_iload hx hb dX0_arrange_3 (lv_at hl 3 rfl) ?_
      refine lv_aload_n hx hb dX0_arrange_5 rfl (lv_at hl 0 rfl) ?_
      refine va_get (ci := 0) (v := .int (nI (k_kc C))) (C := RX0) (T := TX0) (N := 7) hx hb hts hiX0 hown hK hP 11 rfl rfl 6 (by decide) hf0 (fun _ h9 => h9) rfl dX0_arrange_6 ?_
      refine wn_icmp_ge (a := i) (b := k_kc C) (tgt := 43) hx hb (nI_z (by omega)) (nI_z (by omega)) dX0_arrange_9 (by decide) (fun c9_1 => ?_) (fun c9_1 => ?_)
      · have ei : i = k_kc C := by omega
        rw [ei] at hP hD
        refine lv_iconst (v := nI (1)) hx hb dX0_arrange_43 (by decide) ?_
        refine lv_istore (lv' := [(4, .int (nI (1))), (0, .ref (a 11)), (1, .int (nI (kd))), (2, .long (sd))]) hx hb dX0_arrange_44 hl (by decide) rfl (fun ls hl => ?_)
        have hlp46 : ∀ (d : Nat) (w : Nat) (p9 : Nat) (rw9 : Nat → Nat) (sw : Nat → Nat) (xa : Nat) (xb : Nat) (H : Heap) (locs : List Loc), k_kc C - w < d → (w = 2 ^ p9) → (srtL (wgL (k_srt C) (k_key C) (k_wt C) (k_row C) kd sd (k_kc C)) (k_key C) (k_kc C) (k_row C) (k_sp C) (k_ra C) (k_rb C) p9 = (rw9, sw, xa, xb)) → (∀ j, rw9 j < 300) → (∀ j, sw j < 300) → (p9 ≤ fstB (fun p => decide (k_kc C ≤ 2 ^ p)) 10) → (1 ≤ w ∧ w ≤ 1024) → va_P D vwCl (kX cI cJ cZ cV cR a (xa) (xb) (k_vc C) (k_rc C) (k_pc C) (k_nw C) (k_n C) (k_fn C) (k_sn C) (k_kc C) (k_grp C) (k_key C) (k_srt C) (wgL (k_srt C) (k_key C) (k_wt C) (k_row C) kd sd (k_kc C)) (k_home C) (k_drp C) (k_met C) (k_kin C) (k_alv C) (k_srs C) (rw9) (sw) (k_kis C) (k_pg C) (k_vq C) (k_rq C) (k_L C) (k_F C)) H → va_D A (kX cI cJ cZ cV cR a (xa) (xb) (k_vc C) (k_rc C) (k_pc C) (k_nw C) (k_n C) (k_fn C) (k_sn C) (k_kc C) (k_grp C) (k_key C) (k_srt C) (wgL (k_srt C) (k_key C) (k_wt C) (k_row C) kd sd (k_kc C)) (k_home C) (k_drp C) (k_met C) (k_kin C) (k_alv C) (k_srs C) (rw9) (sw) (k_kis C) (k_pg C) (k_vq C) (k_rq C) (k_L C) (k_F C)) → va_S A s.heap H locs → ∀ (ls : Array Slot), lv_has ls 6 [(0, .ref (a 11)), (1, .int (nI (kd))), (2, .long (sd)), (4, .int (nI (w)))] → W p l e (headSpec wsX0_arrange rm_X0_arrange).room s m ([.ref (a 11), .int (nI (kd)), .long (sd)] : List Value).toArray below meth c H locs (0) (0) (MQ below (va_Qv (fun u => u = anM C kd sd) (fun u => GB D (tyK cI cJ cZ cV cR) A (kW cI cJ cZ cV cR a u)) A) ([.ref (a 11), .int (nI (kd)), .long (sd)] : List Value).toArray s 0 0 A) (F0 m 46 ls []) := by
          intro d
          induction d with
          | zero => intro w p9 rw9 sw xa xb H locs hd46; exact absurd hd46 (Nat.not_lt_zero _)
          | succ d ih46 =>
            intro w p9 rw9 sw xa xb H locs hd46 hw hsr hrw hsw hpf hw9 hP hD hS ls hl
            refine lv_iload hx hb dX0_arrange_46 (lv_at hl 3 rfl) ?_
            refine lv_aload_n hx hb dX0_arrange_48 rfl (lv_at hl 0 rfl) ?_
            refine va_get (ci := 0) (v := .int (nI (k_kc C))) (C := RX0) (T := TX0) (N := 7) hx hb hts hiX0 hown hK hP 11 rfl rfl 6 (by decide) hf0 (fun _ h9 => h9) rfl dX0_arrange_49 ?_
            refine wn_icmp_ge (a := w) (b := k_kc C) (tgt := 140) hx hb (nI_z (by omega)) (nI_z (by omega)) dX0_arrange_52 (by decide) (fun c52_2 => ?_) (fun c52_2 => ?_)
            · have hPm : va_P D vwCl (kW cI cJ cZ cV cR a (mkC (xa) (xb) (k_vc C) (k_rc C) (k_pc C) (k_nw C) (k_n C) (k_fn C) (k_sn C) (k_kc C) (k_grp C) (k_key C) (k_srt C) (wgL (k_srt C) (k_key C) (k_wt C) (k_row C) kd sd (k_kc C)) (k_home C) (k_drp C) (k_met C) (k_kin C) (k_alv C) (k_srs C) (rw9) (sw) (k_kis C) (k_pg C) (k_vq C) (k_rq C) (k_L C) (k_F C))) H := by rw [← kX_mk]; exact hP
              have hDm : va_D A (kW cI cJ cZ cV cR a (mkC (xa) (xb) (k_vc C) (k_rc C) (k_pc C) (k_nw C) (k_n C) (k_fn C) (k_sn C) (k_kc C) (k_grp C) (k_key C) (k_srt C) (wgL (k_srt C) (k_key C) (k_wt C) (k_row C) kd sd (k_kc C)) (k_home C) (k_drp C) (k_met C) (k_kin C) (k_alv C) (k_srs C) (rw9) (sw) (k_kis C) (k_pg C) (k_vq C) (k_rq C) (k_L C) (k_F C))) := by rw [← kX_mk]; exact hD
              exact W.vret hx hb hr (fun t ht hW => ⟨⟨(mkC (xa) (xb) (k_vc C) (k_rc C) (k_pc C) (k_nw C) (k_n C) (k_fn C) (k_sn C) (k_kc C) (k_grp C) (k_key C) (k_srt C) (wgL (k_srt C) (k_key C) (k_wt C) (k_row C) kd sd (k_kc C)) (k_home C) (k_drp C) (k_met C) (k_kin C) (k_alv C) (k_srs C) (rw9) (sw) (k_kis C) (k_pg C) (k_vq C) (k_rq C) (k_L C) (k_F C)), rfl, (by have hpn : npass (k_kc C) = p9 := fst_here hpf (by exact decide_eq_true (by rw [← hw]; omega)); show _ = anM C kd sd; rw [anM, hpn, hsr]), gb_mk ht hW hPm hK hDm⟩, hS.F ht⟩) hS.2.2 dX0_arrange_140
            · refine lv_iconst (v := nI (0)) hx hb dX0_arrange_55 (by decide) ?_
              refine lv_istore (lv' := [(5, .int (nI (0))), (0, .ref (a 11)), (1, .int (nI (kd))), (2, .long (sd)), (4, .int (nI (w)))]) hx hb dX0_arrange_56 hl (by decide) rfl (fun ls hl => ?_)
              have hlp58 : ∀ (d : Nat) (fr : Nat) (t : Nat) (sq : Nat → Nat) (H : Heap) (locs : List Loc), k_kc C - fr < d → (fr = 2 * w * t) → (sq = psL rw9 (wgL (k_srt C) (k_key C) (k_wt C) (k_row C) kd sd (k_kc C)) (k_key C) sw (k_kc C) w t) → (∀ j, sq j < 300) → (t = 0 ∨ 2 * w * (t - 1) < k_kc C) → (fr < 5000) → va_P D vwCl (kX cI cJ cZ cV cR a (xa) (xb) (k_vc C) (k_rc C) (k_pc C) (k_nw C) (k_n C) (k_fn C) (k_sn C) (k_kc C) (k_grp C) (k_key C) (k_srt C) (wgL (k_srt C) (k_key C) (k_wt C) (k_row C) kd sd (k_kc C)) (k_home C) (k_drp C) (k_met C) (k_kin C) (k_alv C) (k_srs C) (rw9) (sq) (k_kis C) (k_pg C) (k_vq C) (k_rq C) (k_L C) (k_F C)) H → va_D A (kX cI cJ cZ cV cR a (xa) (xb) (k_vc C) (k_rc C) (k_pc C) (k_nw C) (k_n C) (k_fn C) (k_sn C) (k_kc C) (k_grp C) (k_key C) (k_srt C) (wgL (k_srt C) (k_key C) (k_wt C) (k_row C) kd sd (k_kc C)) (k_home C) (k_drp C) (k_met C) (k_kin C) (k_alv C) (k_srs C) (rw9) (sq) (k_kis C) (k_pg C) (k_vq C) (k_rq C) (k_L C) (k_F C)) → va_S A s.heap H locs → ∀ (ls : Array Slot), lv_has ls 6 [(0, .ref (a 11)), (1, .int (nI (kd))), (2, .long (sd)), (4, .int (nI (w))), (5, .int (nI (fr)))] → W p l e (headSpec wsX0_arrange rm_X0_arrange).room s m ([.ref (a 11), .int (nI (kd)), .long (sd)] : List Value).toArray below meth c H locs (0) (0) (MQ below (va_Qv (fun u => u = anM C kd sd) (fun u => GB D (tyK cI cJ cZ cV cR) A (kW cI cJ cZ cV cR a u)) A) ([.ref (a 11), .int (nI (kd)), .long (sd)] : List Value).toArray s 0 0 A) (F0 m 58 ls []) := by
                intro d
                induction d with
                | zero => intro fr t sq H locs hd58; exact absurd hd58 (Nat.not_lt_zero _)
                | succ d ih58 =>
                  intro fr t sq H locs hd58 hfr hsp hsq hft hf9 hP hD hS ls hl
                  refine lv_iload hx hb dX0_arrange_58 (lv_at hl 4 rfl) ?_
                  refine lv_aload_n hx hb dX0_arrange_60 rfl (lv_at hl 0 rfl) ?_
                  refine va_get (ci := 0) (v := .int (nI (k_kc C))) (C := RX0) (T := TX0) (N := 7) hx hb hts hiX0 hown hK hP 11 rfl rfl 6 (by decide) hf0 (fun _ h9 => h9) rfl dX0_arrange_61 ?_
                  refine wn_icmp_ge (a := fr) (b := k_kc C) (tgt := 111) hx hb (nI_z (by omega)) (nI_z (by omega)) dX0_arrange_64 (by decide) (fun c64_3 => ?_) (fun c64_3 => ?_)
                  · have ht9 : t = blk (k_kc C) w := blk_eq (by omega) (by omega) hft
                    refine lv_aload_n hx hb dX0_arrange_111 rfl (lv_at hl 0 rfl) ?_
                    refine va_get (ci := 0) (v := .ref (xb)) (C := RX0) (T := TX0) (N := 7) hx hb hts hiX0 hown hK hP 11 rfl rfl 2 (by decide) hf1 (fun _ h9 => h9) rfl dX0_arrange_112 ?_
                    refine lv_astore (lv' := [(5, .ref (xb)), (0, .ref (a 11)), (1, .int (nI (kd))), (2, .long (sd)), (4, .int (nI (w)))]) hx hb dX0_arrange_115 hl (by decide) rfl (fun ls hl => ?_)
                    refine lv_aload_n hx hb dX0_arrange_117 rfl (lv_at hl 1 rfl) ?_
                    refine lv_aload_n hx hb dX0_arrange_118 rfl (lv_at hl 1 rfl) ?_
                    refine va_get (ci := 0) (v := .ref (xa)) (C := RX0) (T := TX0) (N := 7) hx hb hts hiX0 hown hK hP 11 rfl rfl 1 (by decide) hf2 (fun _ h9 => h9) rfl dX0_arrange_119 ?_
                    refine va_put (ci := 0) (v := .ref (xa)) (ty := .array .int) (C := RX0) (T := TX0) (N := 7) hx hb hts hiX0 tyX0 tyX0_ok nmX0 hown hK hP hD hS 11 rfl rfl 2 (by decide) hf1 (fun _ h9 => h9) rfl (by decide +kernel) rfl rfl (Nat.le_of_ble_eq_true rfl) dX0_arrange_122 (fun H locs hP hD hS => ?_)
                    have hP : va_P D vwCl ((kX cI cJ cZ cV cR a (xa) (xb) (k_vc C) (k_rc C) (k_pc C) (k_nw C) (k_n C) (k_fn C) (k_sn C) (k_kc C) (k_grp C) (k_key C) (k_srt C) (wgL (k_srt C) (k_key C) (k_wt C) (k_row C) kd sd (k_kc C)) (k_home C) (k_drp C) (k_met C) (k_kin C) (k_alv C) (k_srs C) (rw9) (sq) (k_kis C) (k_pg C) (k_vq C) (k_rq C) (k_L C) (k_F C)).set 11 (a 11, .inr (0, [.ref (a 1), .ref (xa), .ref (xa), .ref (a 14), .ref (a 15), .ref (a 16), .int (nI (k_kc C))]))) H := hP
                    have hD : va_D A ((kX cI cJ cZ cV cR a (xa) (xb) (k_vc C) (k_rc C) (k_pc C) (k_nw C) (k_n C) (k_fn C) (k_sn C) (k_kc C) (k_grp C) (k_key C) (k_srt C) (wgL (k_srt C) (k_key C) (k_wt C) (k_row C) kd sd (k_kc C)) (k_home C) (k_drp C) (k_met C) (k_kin C) (k_alv C) (k_srs C) (rw9) (sq) (k_kis C) (k_pg C) (k_vq C) (k_rq C) (k_L C) (k_F C)).set 11 (a 11, .inr (0, [.ref (a 1), .ref (xa), .ref (xa), .ref (a 14), .ref (a 15), .ref (a 16), .int (nI (k_kc C))]))) := hD
                    refine lv_aload_n hx hb dX0_arrange_125 rfl (lv_at hl 1 rfl) ?_
                    refine lv_aload hx hb dX0_arrange_126 (lv_at hl 0 rfl) ?_
                    refine va_put (ci := 0) (v := .ref (xb)) (ty := .array .int) (C := RX0) (T := TX0) (N := 7) hx hb hts hiX0 tyX0 tyX0_ok nmX0 hown hK hP hD hS 11 rfl rfl 1 (by decide) hf2 (fun _ h9 => h9) rfl (by decide +kernel) rfl rfl (Nat.le_of_ble_eq_true rfl) dX0_arrange_128 (fun H locs hP hD hS => ?_)
                    have hP : va_P D vwCl ((kX cI cJ cZ cV cR a (xa) (xb) (k_vc C) (k_rc C) (k_pc C) (k_nw C) (k_n C) (k_fn C) (k_sn C) (k_kc C) (k_grp C) (k_key C) (k_srt C) (wgL (k_srt C) (k_key C) (k_wt C) (k_row C) kd sd (k_kc C)) (k_home C) (k_drp C) (k_met C) (k_kin C) (k_alv C) (k_srs C) (rw9) (sq) (k_kis C) (k_pg C) (k_vq C) (k_rq C) (k_L C) (k_F C)).set 11 (a 11, .inr (0, [.ref (a 1), .ref (xb), .ref (xa), .ref (a 14), .ref (a 15), .ref (a 16), .int (nI (k_kc C))]))) H := hP
                    have hD : va_D A ((kX cI cJ cZ cV cR a (xa) (xb) (k_vc C) (k_rc C) (k_pc C) (k_nw C) (k_n C) (k_fn C) (k_sn C) (k_kc C) (k_grp C) (k_key C) (k_srt C) (wgL (k_srt C) (k_key C) (k_wt C) (k_row C) kd sd (k_kc C)) (k_home C) (k_drp C) (k_met C) (k_kin C) (k_alv C) (k_srs C) (rw9) (sq) (k_kis C) (k_pg C) (k_vq C) (k_rq C) (k_L C) (k_F C)).set 11 (a 11, .inr (0, [.ref (a 1), .ref (xb), .ref (xa), .ref (a 14), .ref (a 15), .ref (a 16), .int (nI (k_kc C))]))) := hD
                    have hP : va_P D vwCl (kX cI cJ cZ cV cR a (xb) (xa) (k_vc C) (k_rc C) (k_pc C) (k_nw C) (k_n C) (k_fn C) (k_sn C) (k_kc C) (k_grp C) (k_key C) (k_srt C) (wgL (k_srt C) (k_key C) (k_wt C) (k_row C) kd sd (k_kc C)) (k_home C) (k_drp C) (k_met C) (k_kin C) (k_alv C) (k_srs C) (sq) (rw9) (k_kis C) (k_pg C) (k_vq C) (k_rq C) (k_L C) (k_F C)) H := kX_swP hP
                    have hD : va_D A (kX cI cJ cZ cV cR a (xb) (xa) (k_vc C) (k_rc C) (k_pc C) (k_nw C) (k_n C) (k_fn C) (k_sn C) (k_kc C) (k_grp C) (k_key C) (k_srt C) (wgL (k_srt C) (k_key C) (k_wt C) (k_row C) kd sd (k_kc C)) (k_home C) (k_drp C) (k_met C) (k_kin C) (k_alv C) (k_srs C) (sq) (rw9) (k_kis C) (k_pg C) (k_vq C) (k_rq C) (k_L C) (k_F C)) := kX_swD hD
                    refine lv_iload hx hb dX0_arrange_131 (lv_at hl 4 rfl) ?_
                    refine lv_iconst (v := nI (2)) hx hb dX0_arrange_133 (by decide) ?_
                    refine lv_imul hx hb dX0_arrange_134 (ww_top (y := nI (w * 2)) (pk_mul _ _) ?_)
                    refine lv_istore (lv' := [(4, .int (nI (w * 2))), (5, .ref (xb)), (0, .ref (a 11)), (1, .int (nI (kd))), (2, .long (sd))]) hx hb dX0_arrange_135 hl (by decide) rfl (fun ls hl => ?_)
                    refine lv_goto (tgt := 46) hx hb dX0_arrange_137 (by decide) ?_
                    exact ih46 (w * 2) (p9 + 1) (sq) (rw9) (xb) (xa) _ _ (by omega) (by rw [Nat.pow_succ, ← hw]) (by simp only [srtL]; rw [hsr]; dsimp only; rw [← hw, ← ht9, ← hsp]) (hsq) (hrw) (fst_next hpf (by have h10 : p9 < 10 := (Nat.pow_lt_pow_iff_right (a := 2) (by omega)).mp (by rw [← hw]; omega); exact h10) (by exact decide_eq_false (by rw [← hw]; omega))) (by omega) hP hD hS ls (lv_sub hl [2, 3, 4, 0] rfl)
                  · refine lv_aload_n hx hb dX0_arrange_67 rfl (lv_at hl 0 rfl) ?_
                    refine lv_iload hx hb dX0_arrange_68 (lv_at hl 4 rfl) ?_
                    refine lv_iload hx hb dX0_arrange_70 (lv_at hl 4 rfl) ?_
                    refine lv_iload hx hb dX0_arrange_72 (lv_at hl 3 rfl) ?_
                    refine lv_iadd hx hb dX0_arrange_74 (ww_top (y := nI (fr + w)) (nI_addn _ _) ?_)
                    refine lv_aload_n hx hb dX0_arrange_75 rfl (lv_at hl 0 rfl) ?_
                    refine va_get (ci := 0) (v := .int (nI (k_kc C))) (C := RX0) (T := TX0) (N := 7) hx hb hts hiX0 hown hK hP 11 rfl rfl 6 (by decide) hf0 (fun _ h9 => h9) rfl dX0_arrange_76 ?_
                    refine va_mmin hx hb (hml.trans hl.1.symm) hown hf3 hf4 hf5 hf6 (Nat.le_of_ble_eq_true rfl) (Nat.le_of_ble_eq_true rfl) (Nat.zero_le _) (Nat.zero_le _) dX0_arrange_79 (ww_top (y := nI (min (fr + w) (k_kc C))) (nmin (by omega) (by omega)) ?_)
                    refine lv_iload hx hb dX0_arrange_82 (lv_at hl 4 rfl) ?_
                    refine lv_iconst (v := nI (2)) hx hb dX0_arrange_84 (by decide) ?_
                    refine lv_iload hx hb dX0_arrange_85 (lv_at hl 3 rfl) ?_
                    refine lv_imul hx hb dX0_arrange_87 (ww_top (y := nI (2 * w)) (pk_mul _ _) ?_)
                    refine lv_iadd hx hb dX0_arrange_88 (ww_top (y := nI (fr + 2 * w)) (nI_addn _ _) ?_)
                    refine lv_aload_n hx hb dX0_arrange_89 rfl (lv_at hl 0 rfl) ?_
                    refine va_get (ci := 0) (v := .int (nI (k_kc C))) (C := RX0) (T := TX0) (N := 7) hx hb hts hiX0 hown hK hP 11 rfl rfl 6 (by decide) hf0 (fun _ h9 => h9) rfl dX0_arrange_90 ?_
                    refine va_mmin hx hb (hml.trans hl.1.symm) hown hf3 hf4 hf5 hf6 (Nat.le_of_ble_eq_true rfl) (Nat.le_of_ble_eq_true rfl) (Nat.zero_le _) (Nat.zero_le _) dX0_arrange_93 (ww_top (y := nI (min (fr + 2 * w) (k_kc C))) (nmin (by omega) (by omega)) ?_)
                    have hPm : va_P D vwCl (kW cI cJ cZ cV cR a (mkC (xa) (xb) (k_vc C) (k_rc C) (k_pc C) (k_nw C) (k_n C) (k_fn C) (k_sn C) (k_kc C) (k_grp C) (k_key C) (k_srt C) (wgL (k_srt C) (k_key C) (k_wt C) (k_row C) kd sd (k_kc C)) (k_home C) (k_drp C) (k_met C) (k_kin C) (k_alv C) (k_srs C) (rw9) (sq) (k_kis C) (k_pg C) (k_vq C) (k_rq C) (k_L C) (k_F C))) H := by rw [← kX_mk]; exact hP
                    have hDm : va_D A (kW cI cJ cZ cV cR a (mkC (xa) (xb) (k_vc C) (k_rc C) (k_pc C) (k_nw C) (k_n C) (k_fn C) (k_sn C) (k_kc C) (k_grp C) (k_key C) (k_srt C) (wgL (k_srt C) (k_key C) (k_wt C) (k_row C) kd sd (k_kc C)) (k_home C) (k_drp C) (k_met C) (k_kin C) (k_alv C) (k_srs C) (rw9) (sq) (k_kis C) (k_pg C) (k_vq C) (k_rq C) (k_L C) (k_F C))) := by rw [← kX_mk]; exact hD
                    refine wc_VWv (As := [.int (nI (fr)), .int (nI (min (fr + w) (k_kc C))), .int (nI (min (fr + 2 * w) (k_kc C)))]) (rest := []) (wf := kW cI cJ cZ cV cR a) ⟨hx, hb, hml, hown, hts⟩ (c_X0_mergeRuns l D cI cJ cZ cV cR a (mkC (xa) (xb) (k_vc C) (k_rc C) (k_pc C) (k_nw C) (k_n C) (k_fn C) (k_sn C) (k_kc C) (k_grp C) (k_key C) (k_srt C) (wgL (k_srt C) (k_key C) (k_wt C) (k_row C) kd sd (k_kc C)) (k_home C) (k_drp C) (k_met C) (k_kin C) (k_alv C) (k_srs C) (rw9) (sq) (k_kis C) (k_pg C) (k_vq C) (k_rq C) (k_L C) (k_F C)) (ok_rs hM hrw hsq) (fr) (min (fr + w) (k_kc C)) (min (fr + 2 * w) (k_kc C)) (by omega) (by omega) (by omega) H.size) (cwV 3 hts gX0_arrange_X0_mergeRuns rfl rfl rfl (by decide +kernel) ⟨Nat.le_of_ble_eq_true rfl, Nat.le_of_ble_eq_true rfl⟩) hPm hK hDm hS hA 11 rfl rfl rfl hl.1 rfl (Nat.le_of_ble_eq_true rfl) dX0_arrange_96 ⟨Nat.zero_le _, Nat.zero_le _⟩ (fun u4 hq4 H locs hP hD hS => ?_)
                    have hu4 := hq4
                    have hu4 := hu4.symm
                    subst hu4
                    have hP : va_P D vwCl (kX cI cJ cZ cV cR a (xa) (xb) (k_vc C) (k_rc C) (k_pc C) (k_nw C) (k_n C) (k_fn C) (k_sn C) (k_kc C) (k_grp C) (k_key C) (k_srt C) (wgL (k_srt C) (k_key C) (k_wt C) (k_row C) kd sd (k_kc C)) (k_home C) (k_drp C) (k_met C) (k_kin C) (k_alv C) (k_srs C) (rw9) (mrF (rw9) (wgL (k_srt C) (k_key C) (k_wt C) (k_row C) kd sd (k_kc C)) (k_key C) (sq) (fr) (min (fr + w) (k_kc C)) (min (fr + 2 * w) (k_kc C))) (k_kis C) (k_pg C) (k_vq C) (k_rq C) (k_L C) (k_F C)) H := hP
                    have hD : va_D A (kX cI cJ cZ cV cR a (xa) (xb) (k_vc C) (k_rc C) (k_pc C) (k_nw C) (k_n C) (k_fn C) (k_sn C) (k_kc C) (k_grp C) (k_key C) (k_srt C) (wgL (k_srt C) (k_key C) (k_wt C) (k_row C) kd sd (k_kc C)) (k_home C) (k_drp C) (k_met C) (k_kin C) (k_alv C) (k_srs C) (rw9) (mrF (rw9) (wgL (k_srt C) (k_key C) (k_wt C) (k_row C) kd sd (k_kc C)) (k_key C) (sq) (fr) (min (fr + w) (k_kc C)) (min (fr + 2 * w) (k_kc C))) (k_kis C) (k_pg C) (k_vq C) (k_rq C) (k_L C) (k_F C)) := hD
                    refine lv_iload hx hb dX0_arrange_99 (lv_at hl 4 rfl) ?_
                    refine lv_iconst (v := nI (2)) hx hb dX0_arrange_101 (by decide) ?_
                    refine lv_iload hx hb dX0_arrange_102 (lv_at hl 3 rfl) ?_
                    refine lv_imul hx hb dX0_arrange_104 (ww_top (y := nI (2 * w)) (pk_mul _ _) ?_)
                    refine lv_iadd hx hb dX0_arrange_105 (ww_top (y := nI (fr + 2 * w)) (nI_addn _ _) ?_)
                    refine lv_istore (lv' := [(5, .int (nI (fr + 2 * w))), (0, .ref (a 11)), (1, .int (nI (kd))), (2, .long (sd)), (4, .int (nI (w)))]) hx hb dX0_arrange_106 hl (by decide) rfl (fun ls hl => ?_)
                    refine lv_goto (tgt := 58) hx hb dX0_arrange_108 (by decide) ?_
                    exact ih58 (fr + 2 * w) (t + 1) (mrF (rw9) (wgL (k_srt C) (k_key C) (k_wt C) (k_row C) kd sd (k_kc C)) (k_key C) (sq) (fr) (min (fr + w) (k_kc C)) (min (fr + 2 * w) (k_kc C))) _ _ (by omega) (by rw [hfr, Nat.mul_succ]) (by simp only [psL]; rw [← hsp, ← hfr]) (fun j => mrI_lt hrw hsq _ j) (Or.inr (by rw [Nat.add_sub_cancel, ← hfr]; omega)) (by omega) hP hD hS ls (lv_sub hl [1, 2, 3, 4, 0] rfl)
              exact hlp58 _ (0) (0) (sw) _ _ (Nat.lt_succ_self _) (by simp) (rfl) (hsw) (Or.inl rfl) (by omega) hP hD hS ls (lv_sub hl [1, 2, 3, 4, 0] rfl)
        exact hlp46 _ (1) (0) (k_row C) (k_sp C) (k_ra C) (k_rb C) _ _ (Nat.lt_succ_self _) (rfl) (rfl) (h_row) (h_sp) (Nat.zero_le _) (by omega) hP hD hS ls (lv_sub hl [1, 2, 3, 0] rfl)
      · refine lv_aload_n hx hb dX0_arrange_12 rfl (lv_at hl 0 rfl) ?_
        refine va_get (ci := 0) (v := .ref (a 14)) (C := RX0) (T := TX0) (N := 7) hx hb hts hiX0 hown hK hP 11 rfl rfl 3 (by decide) hf7 (fun _ h9 => h9) rfl dX0_arrange_13 ?_
        refine lv_aload_n hx hb dX0_arrange_16 rfl (lv_at hl 0 rfl) ?_
        refine va_get (ci := 0) (v := .ref (k_ra C)) (C := RX0) (T := TX0) (N := 7) hx hb hts hiX0 hown hK hP 11 rfl rfl 1 (by decide) hf2 (fun _ h9 => h9) rfl dX0_arrange_17 ?_
        refine lv_iload hx hb dX0_arrange_20 (lv_at hl 3 rfl) ?_
        refine wa_i (i := i) (v := nI (k_row C i)) hx hb hK hP 12 0 rfl rfl rfl (by omega) (by decide) dX0_arrange_22 ?_
        refine lv_aload_n hx hb dX0_arrange_23 rfl (lv_at hl 0 rfl) ?_
        refine lv_aload_n hx hb dX0_arrange_24 rfl (lv_at hl 0 rfl) ?_
        refine va_get (ci := 0) (v := .ref (k_ra C)) (C := RX0) (T := TX0) (N := 7) hx hb hts hiX0 hown hK hP 11 rfl rfl 1 (by decide) hf2 (fun _ h9 => h9) rfl dX0_arrange_25 ?_
        refine lv_iload hx hb dX0_arrange_28 (lv_at hl 3 rfl) ?_
        refine wa_i (i := i) (v := nI (k_row C i)) hx hb hK hP 12 0 rfl rfl rfl (by omega) (by decide) dX0_arrange_30 ?_
        refine lv_iload_n hx hb dX0_arrange_31 rfl (lv_at hl 1 rfl) ?_
        refine lv_lload_n hx hb dX0_arrange_32 rfl (lv_at hl 2 rfl) ?_
        have hPm : va_P D vwCl (kW cI cJ cZ cV cR a (mkC (k_ra C) (k_rb C) (k_vc C) (k_rc C) (k_pc C) (k_nw C) (k_n C) (k_fn C) (k_sn C) (k_kc C) (k_grp C) (k_key C) (k_srt C) (wgL (k_srt C) (k_key C) (k_wt C) (k_row C) kd sd i) (k_home C) (k_drp C) (k_met C) (k_kin C) (k_alv C) (k_srs C) (k_row C) (k_sp C) (k_kis C) (k_pg C) (k_vq C) (k_rq C) (k_L C) (k_F C))) H := by rw [← kX_mk]; exact hP
        refine wc_Vl (As := [.int (nI (k_row C i)), .int (nI (kd)), .long (sd)]) (rest := [.int (nI (k_row C i)), .ref (a 14)]) ⟨hx, hb, hml, hown, hts⟩ (c_X0_weigh l D cI cJ cZ cV cR a (mkC (k_ra C) (k_rb C) (k_vc C) (k_rc C) (k_pc C) (k_nw C) (k_n C) (k_fn C) (k_sn C) (k_kc C) (k_grp C) (k_key C) (k_srt C) (wgL (k_srt C) (k_key C) (k_wt C) (k_row C) kd sd i) (k_home C) (k_drp C) (k_met C) (k_kin C) (k_alv C) (k_srs C) (k_row C) (k_sp C) (k_kis C) (k_pg C) (k_vq C) (k_rq C) (k_L C) (k_F C)) hM (k_row C i) (kd) (sd) (by omega) (by omega)) (cwV 3 hts gX0_arrange_X0_weigh rfl rfl rfl (by decide +kernel) ⟨Nat.le_of_ble_eq_true rfl, Nat.le_of_ble_eq_true rfl⟩) hPm hK 11 rfl rfl rfl hl.1 rfl (Nat.le_of_ble_eq_true rfl) dX0_arrange_33 ⟨Nat.zero_le _, Nat.zero_le _⟩ (fun rr hq5 => ?_)
        have hq5 : rr = (wtF (k_srt C) (k_key C) kd (sd) (k_row C i)) := hq5
        subst hq5
        refine wa_lst (i := k_row C i) hx hb hK hP hD hS 14 1 rfl rfl (by omega) (by decide) dX0_arrange_36 (fun H locs hP hD hS => ?_)
        have hP : va_P D vwCl (kX cI cJ cZ cV cR a (k_ra C) (k_rb C) (k_vc C) (k_rc C) (k_pc C) (k_nw C) (k_n C) (k_fn C) (k_sn C) (k_kc C) (k_grp C) (k_key C) (k_srt C) (va_up (wgL (k_srt C) (k_key C) (k_wt C) (k_row C) kd sd i) (k_row C i) ((wtF (k_srt C) (k_key C) kd (sd) (k_row C i)))) (k_home C) (k_drp C) (k_met C) (k_kin C) (k_alv C) (k_srs C) (k_row C) (k_sp C) (k_kis C) (k_pg C) (k_vq C) (k_rq C) (k_L C) (k_F C)) H := hP
        have hD : va_D A (kX cI cJ cZ cV cR a (k_ra C) (k_rb C) (k_vc C) (k_rc C) (k_pc C) (k_nw C) (k_n C) (k_fn C) (k_sn C) (k_kc C) (k_grp C) (k_key C) (k_srt C) (va_up (wgL (k_srt C) (k_key C) (k_wt C) (k_row C) kd sd i) (k_row C i) ((wtF (k_srt C) (k_key C) kd (sd) (k_row C i)))) (k_home C) (k_drp C) (k_met C) (k_kin C) (k_alv C) (k_srs C) (k_row C) (k_sp C) (k_kis C) (k_pg C) (k_vq C) (k_rq C) (k_L C) (k_F C)) := hD
        refine lv_iinc (v := nI (i + 1)) (lv' := [(4, .int (nI (i + 1))), (0, .ref (a 11)), (1, .int (nI (kd))), (2, .long (sd))]) hx hb dX0_arrange_37 hl (k := 3) rfl (nI_inc _) (by decide) rfl (fun ls hl => ?_)
        refine lv_goto (tgt := 3) hx hb dX0_arrange_40 (by decide) ?_
        have e1 : va_up (wgL (k_srt C) (k_key C) (k_wt C) (k_row C) kd sd i) (k_row C i) ((wtF (k_srt C) (k_key C) kd (sd) (k_row C i))) = wgL (k_srt C) (k_key C) (k_wt C) (k_row C) kd sd (i + 1) := rfl
        rw [e1] at hP hD
        exact ih3 (i + 1) _ _ (by omega) (by omega) hP hD hS ls (lv_sub hl [1, 2, 3, 0] rfl)
  exact hlp3 _ (0) _ _ (Nat.lt_succ_self _) (Nat.zero_le _) hP hD hS ls (lv_sub hl [1, 2, 3, 0] rfl)
