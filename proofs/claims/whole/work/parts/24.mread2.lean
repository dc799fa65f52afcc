def rm_X6_isAhead : Room := { frames := 1, cells := 0, slots := 0, locals := 25 }
set_option maxHeartbeats 4000000 in
set_option maxRecDepth 100000 in
/-- whether an object is ahead of another -/
theorem c_X6_isAhead (l : Launch) (D : va_G) (cI cJ cZ : ClassId) (a : Nat → Nat) (th : Nat) (lds : Nat → Bool) (M : MT) (hM : mOk M) (x y kd : Nat) (sd : Int64) (hx1 : x < 300) (hy1 : y < 300) (hkd : kd < 3) : Met l yX6_isAhead wsX6_isAhead rm_X6_isAhead (va_Pc [.ref (a 0), .int (nI (x)), .int (nI (y)), .int (nI (kd)), .long (sd)] (GR D (tyW cI cJ cZ) (mW cI cJ cZ a (th) (lds) M))) (vp_Si (fun rr => rr = bI (aheadB M kd sd x y))) 0 0 (fun _ => False) := by
  obtain ⟨hn, hsn, hvn, hrn, hpn, hnw, h_seg, h_la, h_st, h_vo, h_ko, h_sl, h_sc, h_kp, h_en, h_pg, hvo, hko, hsl, hsc⟩ := id hM
  refine Met.ofW (cc := cX6_isAhead) (maxL := 10) (ret := (some .boolean)) (by decide) rfl ?_
  intro p e s m args below meth c s₁ B hml hv
  obtain ⟨rfl, hP, hK⟩ := hv
  have hx := B.exec
  have hb := B.bytes
  have hr := B.returns
  have hts := atoms_spec (ws := wsX6_isAhead) B.pre
  have hown : s.vm.findClass RX6 = some m.cls := findClass_of_methodNamed B.named
  have hlocks := B.notSynchronized
  have hiX6 : ∀ w ∈ wsX60, w ∈ wsX6_isAhead := by decide +kernel
  have hf0 := hts (.fieldLink RX6 13 "GroupCursorsModel" "key" "[J") (by decide +kernel)
  have hf1 := hts (.constantLong RX6 95 (-9223372036854775808)) (by decide +kernel)
  have hf2 := hts (.fieldLink RX6 16 "GroupCursorsModel" "sort" "[J") (by decide +kernel)
  have hl := lv_entry ([.ref (a 0), .int (nI (x)), .int (nI (y)), .int (nI (kd)), .long (sd)]) (n := 10) (Nat.le_of_ble_eq_true rfl)
  rw [lg_entry_eq]
  generalize (lg_sl ([.ref (a 0), .int (nI (x)), .int (nI (y)), .int (nI (kd)), .long (sd)]) ++ List.replicate (10 - (lg_sl ([.ref (a 0), .int (nI (x)), .int (nI (y)), .int (nI (kd)), .long (sd)])).length) Slot.unset).toArray = ls at hl ⊢
  have hl : lv_has ls 10 [(0, .ref (a 0)), (1, .int (nI (x))), (2, .int (nI (y))), (3, .int (nI (kd))), (4, .long (sd))] := hl
  refine lv_iload_n hx hb dX6_isAhead_0 rfl (lv_at hl 3 rfl) ?_
  refine wn_if_ne (a := kd) (tgt := 13) hx hb (nI_z (by omega)) dX6_isAhead_1 (by decide) (fun c1_1 => ?_) (fun c1_1 => ?_)
  · refine lv_iload_n hx hb dX6_isAhead_13 rfl (lv_at hl 3 rfl) ?_
    refine lv_iconst (v := nI (1)) hx hb dX6_isAhead_14 (by decide) ?_
    refine wn_icmp_ne (a := kd) (b := 1) (tgt := 27) hx hb (nI_z (by omega)) (nI_z (by omega)) dX6_isAhead_15 (by decide) (fun c15_2 => ?_) (fun c15_2 => ?_)
    · refine lv_aload_n hx hb dX6_isAhead_27 rfl (lv_at hl 0 rfl) ?_
      refine va_get (ci := 6) (v := .ref (a 2)) (C := RX6) (T := TX6) (N := 30) hx hb hts hiX6 hown hK hP 0 rfl rfl 3 (by decide) hf0 (fun _ h9 => h9) rfl dX6_isAhead_28 ?_
      refine lv_iload_n hx hb dX6_isAhead_31 rfl (lv_at hl 1 rfl) ?_
      refine wa_l (i := x) (v := m_key M x) hx hb hK hP 2 1 rfl rfl rfl (by omega) (by decide) dX6_isAhead_32 ?_
      refine lv_lload hx hb dX6_isAhead_33 (lv_at hl 4 rfl) ?_
      refine wc_Sl (As := [.long (m_key M x), .long (sd)]) (rest := []) ⟨hx, hb, hml, hown, hts⟩ (c_X6_mix l D cI cJ cZ a (th) (lds) M hM (m_key M x) (sd)) (va_cwS 2 hts gX6_isAhead_X6_mix rfl rfl rfl (by decide +kernel) ⟨Nat.le_of_ble_eq_true rfl, Nat.le_of_ble_eq_true rfl⟩) hP hK rfl hl.1 rfl (Nat.le_of_ble_eq_true rfl) dX6_isAhead_35 ⟨Nat.zero_le _, Nat.zero_le _⟩ (fun rr hq3 => ?_)
      have hq3 : rr = (mixv (m_key M x) (sd)) := hq3
      subst hq3
      refine lv_ldc2 (v := (-9223372036854775808)) hx hb hown hf1 dX6_isAhead_38 ?_
      refine lv_lxor hx hb dX6_isAhead_41 ?_
      refine lv_lstore (lv' := [(6, .long (((mixv (m_key M x) (sd)) ^^^ (-9223372036854775808)))), (0, .ref (a 0)), (1, .int (nI (x))), (2, .int (nI (y))), (3, .int (nI (kd))), (4, .long (sd))]) hx hb dX6_isAhead_42 hl (by decide) rfl (fun ls hl => ?_)
      refine lv_iload_n hx hb dX6_isAhead_44 rfl (lv_at hl 4 rfl) ?_
      refine wn_if_ne (a := kd) (tgt := 57) hx hb (nI_z (by omega)) dX6_isAhead_45 (by decide) (fun c45_4 => ?_) (fun c45_4 => ?_)
      · refine lv_iload_n hx hb dX6_isAhead_57 rfl (lv_at hl 4 rfl) ?_
        refine lv_iconst (v := nI (1)) hx hb dX6_isAhead_58 (by decide) ?_
        refine wn_icmp_ne (a := kd) (b := 1) (tgt := 71) hx hb (nI_z (by omega)) (nI_z (by omega)) dX6_isAhead_59 (by decide) (fun c59_5 => ?_) (fun c59_5 => ?_)
        · refine lv_aload_n hx hb dX6_isAhead_71 rfl (lv_at hl 1 rfl) ?_
          refine va_get (ci := 6) (v := .ref (a 2)) (C := RX6) (T := TX6) (N := 30) hx hb hts hiX6 hown hK hP 0 rfl rfl 3 (by decide) hf0 (fun _ h9 => h9) rfl dX6_isAhead_72 ?_
          refine lv_iload_n hx hb dX6_isAhead_75 rfl (lv_at hl 3 rfl) ?_
          refine wa_l (i := y) (v := m_key M y) hx hb hK hP 2 1 rfl rfl rfl (by omega) (by decide) dX6_isAhead_76 ?_
          refine lv_lload hx hb dX6_isAhead_77 (lv_at hl 5 rfl) ?_
          refine wc_Sl (As := [.long (m_key M y), .long (sd)]) (rest := []) ⟨hx, hb, hml, hown, hts⟩ (c_X6_mix l D cI cJ cZ a (th) (lds) M hM (m_key M y) (sd)) (va_cwS 2 hts gX6_isAhead_X6_mix rfl rfl rfl (by decide +kernel) ⟨Nat.le_of_ble_eq_true rfl, Nat.le_of_ble_eq_true rfl⟩) hP hK rfl hl.1 rfl (Nat.le_of_ble_eq_true rfl) dX6_isAhead_79 ⟨Nat.zero_le _, Nat.zero_le _⟩ (fun rr hq6 => ?_)
          have hq6 : rr = (mixv (m_key M y) (sd)) := hq6
          subst hq6
          refine lv_ldc2 (v := (-9223372036854775808)) hx hb hown hf1 dX6_isAhead_82 ?_
          refine lv_lxor hx hb dX6_isAhead_85 ?_
          refine lv_lstore (lv' := [(8, .long (((mixv (m_key M y) (sd)) ^^^ (-9223372036854775808)))), (6, .long (((mixv (m_key M x) (sd)) ^^^ (-9223372036854775808)))), (0, .ref (a 0)), (1, .int (nI (x))), (2, .int (nI (y))), (3, .int (nI (kd))), (4, .long (sd))]) hx hb dX6_isAhead_86 hl (by decide) rfl (fun ls hl => ?_)
          refine lv_lload hx hb dX6_isAhead_88 (lv_at hl 1 rfl) ?_
          refine lv_lload hx hb dX6_isAhead_90 (lv_at hl 0 rfl) ?_
          refine wl_eq (tgt := 110) hx hb dX6_isAhead_92 dX6_isAhead_93 (by decide) (fun c92_7 => ?_) (fun c92_7 => ?_)
          · refine lv_aload_n hx hb dX6_isAhead_110 rfl (lv_at hl 2 rfl) ?_
            refine va_get (ci := 6) (v := .ref (a 2)) (C := RX6) (T := TX6) (N := 30) hx hb hts hiX6 hown hK hP 0 rfl rfl 3 (by decide) hf0 (fun _ h9 => h9) rfl dX6_isAhead_111 ?_
            refine lv_iload_n hx hb dX6_isAhead_114 rfl (lv_at hl 3 rfl) ?_
            refine wa_l (i := x) (v := m_key M x) hx hb hK hP 2 1 rfl rfl rfl (by omega) (by decide) dX6_isAhead_115 ?_
            refine lv_aload_n hx hb dX6_isAhead_116 rfl (lv_at hl 2 rfl) ?_
            refine va_get (ci := 6) (v := .ref (a 2)) (C := RX6) (T := TX6) (N := 30) hx hb hts hiX6 hown hK hP 0 rfl rfl 3 (by decide) hf0 (fun _ h9 => h9) rfl dX6_isAhead_117 ?_
            refine lv_iload_n hx hb dX6_isAhead_120 rfl (lv_at hl 4 rfl) ?_
            refine wa_l (i := y) (v := m_key M y) hx hb hK hP 2 1 rfl rfl rfl (by omega) (by decide) dX6_isAhead_121 ?_
            refine wl_eq (tgt := 150) hx hb dX6_isAhead_122 dX6_isAhead_123 (by decide) (fun c122_8 => ?_) (fun c122_8 => ?_)
            · refine lv_iload_n hx hb dX6_isAhead_150 rfl (lv_at hl 3 rfl) ?_
              refine lv_iload_n hx hb dX6_isAhead_151 rfl (lv_at hl 4 rfl) ?_
              refine wn_icmp_ge (a := x) (b := y) (tgt := 159) hx hb (nI_z (by omega)) (nI_z (by omega)) dX6_isAhead_152 (by decide) (fun c152_9 => ?_) (fun c152_9 => ?_)
              · refine lv_iconst (v := nI (0)) hx hb dX6_isAhead_159 (by decide) ?_
                exact W.zret (v := nI (0)) hx hb hr rfl (fun t ht hW => ⟨_, rfl, (bI_ff (by rw [aheadB, wtA2 (by omega) (by omega), wtA2 (by omega) (by omega)]; simp [c92_7, c122_8, c152_9] <;> omega)), ht⟩) (fun q h => nomatch h) dX6_isAhead_160
              · refine lv_iconst (v := nI (1)) hx hb dX6_isAhead_155 (by decide) ?_
                refine lv_goto (tgt := 160) hx hb dX6_isAhead_156 (by decide) ?_
                exact W.zret (v := nI (1)) hx hb hr rfl (fun t ht hW => ⟨_, rfl, (bI_tt (by rw [aheadB, wtA2 (by omega) (by omega), wtA2 (by omega) (by omega)]; simp [c92_7, c122_8, c152_9] <;> omega)), ht⟩) (fun q h => nomatch h) dX6_isAhead_160
            · refine lv_aload_n hx hb dX6_isAhead_126 rfl (lv_at hl 2 rfl) ?_
              refine va_get (ci := 6) (v := .ref (a 2)) (C := RX6) (T := TX6) (N := 30) hx hb hts hiX6 hown hK hP 0 rfl rfl 3 (by decide) hf0 (fun _ h9 => h9) rfl dX6_isAhead_127 ?_
              refine lv_iload_n hx hb dX6_isAhead_130 rfl (lv_at hl 3 rfl) ?_
              refine wa_l (i := x) (v := m_key M x) hx hb hK hP 2 1 rfl rfl rfl (by omega) (by decide) dX6_isAhead_131 ?_
              refine lv_aload_n hx hb dX6_isAhead_132 rfl (lv_at hl 2 rfl) ?_
              refine va_get (ci := 6) (v := .ref (a 2)) (C := RX6) (T := TX6) (N := 30) hx hb hts hiX6 hown hK hP 0 rfl rfl 3 (by decide) hf0 (fun _ h9 => h9) rfl dX6_isAhead_133 ?_
              refine lv_iload_n hx hb dX6_isAhead_136 rfl (lv_at hl 4 rfl) ?_
              refine wa_l (i := y) (v := m_key M y) hx hb hK hP 2 1 rfl rfl rfl (by omega) (by decide) dX6_isAhead_137 ?_
              refine wl_ge (tgt := 146) hx hb dX6_isAhead_138 dX6_isAhead_139 (by decide) (fun c138_10 => ?_) (fun c138_10 => ?_)
              · refine lv_iconst (v := nI (0)) hx hb dX6_isAhead_146 (by decide) ?_
                refine lv_goto (tgt := 160) hx hb dX6_isAhead_147 (by decide) ?_
                exact W.zret (v := nI (0)) hx hb hr rfl (fun t ht hW => ⟨_, rfl, (bI_ff (by rw [aheadB, wtA2 (by omega) (by omega), wtA2 (by omega) (by omega)]; simp [c92_7, c122_8, c138_10] <;> omega)), ht⟩) (fun q h => nomatch h) dX6_isAhead_160
              · refine lv_iconst (v := nI (1)) hx hb dX6_isAhead_142 (by decide) ?_
                refine lv_goto (tgt := 160) hx hb dX6_isAhead_143 (by decide) ?_
                exact W.zret (v := nI (1)) hx hb hr rfl (fun t ht hW => ⟨_, rfl, (bI_tt (by rw [aheadB, wtA2 (by omega) (by omega), wtA2 (by omega) (by omega)]; simp [c92_7, c122_8, c138_10] <;> omega)), ht⟩) (fun q h => nomatch h) dX6_isAhead_160
          · refine lv_lload hx hb dX6_isAhead_96 (lv_at hl 1 rfl) ?_
            refine lv_lload hx hb dX6_isAhead_98 (lv_at hl 0 rfl) ?_
            refine wl_ge (tgt := 108) hx hb dX6_isAhead_100 dX6_isAhead_101 (by decide) (fun c100_11 => ?_) (fun c100_11 => ?_)
            · refine lv_iconst (v := nI (0)) hx hb dX6_isAhead_108 (by decide) ?_
              exact W.zret (v := nI (0)) hx hb hr rfl (fun t ht hW => ⟨_, rfl, (bI_ff (by rw [aheadB, wtA2 (by omega) (by omega), wtA2 (by omega) (by omega)]; simp [c92_7, c100_11] <;> omega)), ht⟩) (fun q h => nomatch h) dX6_isAhead_109
            · refine lv_iconst (v := nI (1)) hx hb dX6_isAhead_104 (by decide) ?_
              refine lv_goto (tgt := 109) hx hb dX6_isAhead_105 (by decide) ?_
              exact W.zret (v := nI (1)) hx hb hr rfl (fun t ht hW => ⟨_, rfl, (bI_tt (by rw [aheadB, wtA2 (by omega) (by omega), wtA2 (by omega) (by omega)]; simp [c92_7, c100_11] <;> omega)), ht⟩) (fun q h => nomatch h) dX6_isAhead_109
        · exact absurd c59_5 (by omega)
      · exact absurd c45_4 (by omega)
    · refine lv_aload_n hx hb dX6_isAhead_18 rfl (lv_at hl 0 rfl) ?_
      refine va_get (ci := 6) (v := .ref (a 3)) (C := RX6) (T := TX6) (N := 30) hx hb hts hiX6 hown hK hP 0 rfl rfl 4 (by decide) hf2 (fun _ h9 => h9) rfl dX6_isAhead_19 ?_
      refine lv_iload_n hx hb dX6_isAhead_22 rfl (lv_at hl 2 rfl) ?_
      refine wa_l (i := y) (v := m_srt M y) hx hb hK hP 3 1 rfl rfl rfl (by omega) (by decide) dX6_isAhead_23 ?_
      refine lv_goto (tgt := 42) hx hb dX6_isAhead_24 (by decide) ?_
      refine lv_lstore (lv' := [(6, .long (m_srt M y)), (0, .ref (a 0)), (1, .int (nI (x))), (2, .int (nI (y))), (3, .int (nI (kd))), (4, .long (sd))]) hx hb dX6_isAhead_42 hl (by decide) rfl (fun ls hl => ?_)
      refine lv_iload_n hx hb dX6_isAhead_44 rfl (lv_at hl 4 rfl) ?_
      refine wn_if_ne (a := kd) (tgt := 57) hx hb (nI_z (by omega)) dX6_isAhead_45 (by decide) (fun c45_12 => ?_) (fun c45_12 => ?_)
      · refine lv_iload_n hx hb dX6_isAhead_57 rfl (lv_at hl 4 rfl) ?_
        refine lv_iconst (v := nI (1)) hx hb dX6_isAhead_58 (by decide) ?_
        refine wn_icmp_ne (a := kd) (b := 1) (tgt := 71) hx hb (nI_z (by omega)) (nI_z (by omega)) dX6_isAhead_59 (by decide) (fun c59_13 => ?_) (fun c59_13 => ?_)
        · exact absurd c59_13 (by omega)
        · refine lv_aload_n hx hb dX6_isAhead_62 rfl (lv_at hl 1 rfl) ?_
          refine va_get (ci := 6) (v := .ref (a 3)) (C := RX6) (T := TX6) (N := 30) hx hb hts hiX6 hown hK hP 0 rfl rfl 4 (by decide) hf2 (fun _ h9 => h9) rfl dX6_isAhead_63 ?_
          refine lv_iload_n hx hb dX6_isAhead_66 rfl (lv_at hl 2 rfl) ?_
          refine wa_l (i := x) (v := m_srt M x) hx hb hK hP 3 1 rfl rfl rfl (by omega) (by decide) dX6_isAhead_67 ?_
          refine lv_goto (tgt := 86) hx hb dX6_isAhead_68 (by decide) ?_
          refine lv_lstore (lv' := [(8, .long (m_srt M x)), (6, .long (m_srt M y)), (0, .ref (a 0)), (1, .int (nI (x))), (2, .int (nI (y))), (3, .int (nI (kd))), (4, .long (sd))]) hx hb dX6_isAhead_86 hl (by decide) rfl (fun ls hl => ?_)
          refine lv_lload hx hb dX6_isAhead_88 (lv_at hl 1 rfl) ?_
          refine lv_lload hx hb dX6_isAhead_90 (lv_at hl 0 rfl) ?_
          refine wl_eq (tgt := 110) hx hb dX6_isAhead_92 dX6_isAhead_93 (by decide) (fun c92_14 => ?_) (fun c92_14 => ?_)
          · refine lv_aload_n hx hb dX6_isAhead_110 rfl (lv_at hl 2 rfl) ?_
            refine va_get (ci := 6) (v := .ref (a 2)) (C := RX6) (T := TX6) (N := 30) hx hb hts hiX6 hown hK hP 0 rfl rfl 3 (by decide) hf0 (fun _ h9 => h9) rfl dX6_isAhead_111 ?_
            refine lv_iload_n hx hb dX6_isAhead_114 rfl (lv_at hl 3 rfl) ?_
            refine wa_l (i := x) (v := m_key M x) hx hb hK hP 2 1 rfl rfl rfl (by omega) (by decide) dX6_isAhead_115 ?_
            refine lv_aload_n hx hb dX6_isAhead_116 rfl (lv_at hl 2 rfl) ?_
            refine va_get (ci := 6) (v := .ref (a 2)) (C := RX6) (T := TX6) (N := 30) hx hb hts hiX6 hown hK hP 0 rfl rfl 3 (by decide) hf0 (fun _ h9 => h9) rfl dX6_isAhead_117 ?_
            refine lv_iload_n hx hb dX6_isAhead_120 rfl (lv_at hl 4 rfl) ?_
            refine wa_l (i := y) (v := m_key M y) hx hb hK hP 2 1 rfl rfl rfl (by omega) (by decide) dX6_isAhead_121 ?_
            refine wl_eq (tgt := 150) hx hb dX6_isAhead_122 dX6_isAhead_123 (by decide) (fun c122_15 => ?_) (fun c122_15 => ?_)
            · refine lv_iload_n hx hb dX6_isAhead_150 rfl (lv_at hl 3 rfl) ?_
              refine lv_iload_n hx hb dX6_isAhead_151 rfl (lv_at hl 4 rfl) ?_
              refine wn_icmp_ge (a := x) (b := y) (tgt := 159) hx hb (nI_z (by omega)) (nI_z (by omega)) dX6_isAhead_152 (by decide) (fun c152_16 => ?_) (fun c152_16 => ?_)
              · refine lv_iconst (v := nI (0)) hx hb dX6_isAhead_159 (by decide) ?_
                exact W.zret (v := nI (0)) hx hb hr rfl (fun t ht hW => ⟨_, rfl, (bI_ff (by rw [aheadB, wtA1 (by omega), wtA1 (by omega)]; simp [c92_14, c122_15, c152_16] <;> omega)), ht⟩) (fun q h => nomatch h) dX6_isAhead_160
              · refine lv_iconst (v := nI (1)) hx hb dX6_isAhead_155 (by decide) ?_
                refine lv_goto (tgt := 160) hx hb dX6_isAhead_156 (by decide) ?_
                exact W.zret (v := nI (1)) hx hb hr rfl (fun t ht hW => ⟨_, rfl, (bI_tt (by rw [aheadB, wtA1 (by omega), wtA1 (by omega)]; simp [c92_14, c122_15, c152_16] <;> omega)), ht⟩) (fun q h => nomatch h) dX6_isAhead_160
            · refine lv_aload_n hx hb dX6_isAhead_126 rfl (lv_at hl 2 rfl) ?_
              refine va_get (ci := 6) (v := .ref (a 2)) (C := RX6) (T := TX6) (N := 30) hx hb hts hiX6 hown hK hP 0 rfl rfl 3 (by decide) hf0 (fun _ h9 => h9) rfl dX6_isAhead_127 ?_
              refine lv_iload_n hx hb dX6_isAhead_130 rfl (lv_at hl 3 rfl) ?_
              refine wa_l (i := x) (v := m_key M x) hx hb hK hP 2 1 rfl rfl rfl (by omega) (by decide) dX6_isAhead_131 ?_
              refine lv_aload_n hx hb dX6_isAhead_132 rfl (lv_at hl 2 rfl) ?_
              refine va_get (ci := 6) (v := .ref (a 2)) (C := RX6) (T := TX6) (N := 30) hx hb hts hiX6 hown hK hP 0 rfl rfl 3 (by decide) hf0 (fun _ h9 => h9) rfl dX6_isAhead_133 ?_
              refine lv_iload_n hx hb dX6_isAhead_136 rfl (lv_at hl 4 rfl) ?_
              refine wa_l (i := y) (v := m_key M y) hx hb hK hP 2 1 rfl rfl rfl (by omega) (by decide) dX6_isAhead_137 ?_
              refine wl_ge (tgt := 146) hx hb dX6_isAhead_138 dX6_isAhead_139 (by decide) (fun c138_17 => ?_) (fun c138_17 => ?_)
              · refine lv_iconst (v := nI (0)) hx hb dX6_isAhead_146 (by decide) ?_
                refine lv_goto (tgt := 160) hx hb dX6_isAhead_147 (by decide) ?_
                exact W.zret (v := nI (0)) hx hb hr rfl (fun t ht hW => ⟨_, rfl, (bI_ff (by rw [aheadB, wtA1 (by omega), wtA1 (by omega)]; simp [c92_14, c122_15, c138_17] <;> omega)), ht⟩) (fun q h => nomatch h) dX6_isAhead_160
              · refine lv_iconst (v := nI (1)) hx hb dX6_isAhead_142 (by decide) ?_
                refine lv_goto (tgt := 160) hx hb dX6_isAhead_143 (by decide) ?_
                exact W.zret (v := nI (1)) hx hb hr rfl (fun t ht hW => ⟨_, rfl, (bI_tt (by rw [aheadB, wtA1 (by omega), wtA1 (by omega)]; simp [c92_14, c122_15, c138_17] <;> omega)), ht⟩) (fun q h => nomatch h) dX6_isAhead_160
          · refine lv_lload hx hb dX6_isAhead_96 (lv_at hl 1 rfl) ?_
            refine lv_lload hx hb dX6_isAhead_98 (lv_at hl 0 rfl) ?_
            refine wl_ge (tgt := 108) hx hb dX6_isAhead_100 dX6_isAhead_101 (by decide) (fun c100_18 => ?_) (fun c100_18 => ?_)
            · refine lv_iconst (v := nI (0)) hx hb dX6_isAhead_108 (by decide) ?_
              exact W.zret (v := nI (0)) hx hb hr rfl (fun t ht hW => ⟨_, rfl, (bI_ff (by rw [aheadB, wtA1 (by omega), wtA1 (by omega)]; simp [c92_14, c100_18] <;> omega)), ht⟩) (fun q h => nomatch h) dX6_isAhead_109
            · refine lv_iconst (v := nI (1)) hx hb dX6_isAhead_104 (by decide) ?_
              refine lv_goto (tgt := 109) hx hb dX6_isAhead_105 (by decide) ?_
              exact W.zret (v := nI (1)) hx hb hr rfl (fun t ht hW => ⟨_, rfl, (bI_tt (by rw [aheadB, wtA1 (by omega), wtA1 (by omega)]; simp [c92_14, c100_18] <;> omega)), ht⟩) (fun q h => nomatch h) dX6_isAhead_109
      · exact absurd c45_12 (by omega)
  · refine lv_aload_n hx hb dX6_isAhead_4 rfl (lv_at hl 0 rfl) ?_
    refine va_get (ci := 6) (v := .ref (a 3)) (C := RX6) (T := TX6) (N := 30) hx hb hts hiX6 hown hK hP 0 rfl rfl 4 (by decide) hf2 (fun _ h9 => h9) rfl dX6_isAhead_5 ?_
    refine lv_iload_n hx hb dX6_isAhead_8 rfl (lv_at hl 1 rfl) ?_
    refine wa_l (i := x) (v := m_srt M x) hx hb hK hP 3 1 rfl rfl rfl (by omega) (by decide) dX6_isAhead_9 ?_
    refine lv_goto (tgt := 42) hx hb dX6_isAhead_10 (by decide) ?_
    refine lv_lstore (lv' := [(6, .long (m_srt M x)), (0, .ref (a 0)), (1, .int (nI (x))), (2, .int (nI (y))), (3, .int (nI (kd))), (4, .long (sd))]) hx hb dX6_isAhead_42 hl (by decide) rfl (fun ls hl => ?_)
    refine lv_iload_n hx hb dX6_isAhead_44 rfl (lv_at hl 4 rfl) ?_
    refine wn_if_ne (a := kd) (tgt := 57) hx hb (nI_z (by omega)) dX6_isAhead_45 (by decide) (fun c45_19 => ?_) (fun c45_19 => ?_)
    · exact absurd c45_19 (by omega)
    · refine lv_aload_n hx hb dX6_isAhead_48 rfl (lv_at hl 1 rfl) ?_
      refine va_get (ci := 6) (v := .ref (a 3)) (C := RX6) (T := TX6) (N := 30) hx hb hts hiX6 hown hK hP 0 rfl rfl 4 (by decide) hf2 (fun _ h9 => h9) rfl dX6_isAhead_49 ?_
      refine lv_iload_n hx hb dX6_isAhead_52 rfl (lv_at hl 3 rfl) ?_
      refine wa_l (i := y) (v := m_srt M y) hx hb hK hP 3 1 rfl rfl rfl (by omega) (by decide) dX6_isAhead_53 ?_
      refine lv_goto (tgt := 86) hx hb dX6_isAhead_54 (by decide) ?_
      refine lv_lstore (lv' := [(8, .long (m_srt M y)), (6, .long (m_srt M x)), (0, .ref (a 0)), (1, .int (nI (x))), (2, .int (nI (y))), (3, .int (nI (kd))), (4, .long (sd))]) hx hb dX6_isAhead_86 hl (by decide) rfl (fun ls hl => ?_)
      refine lv_lload hx hb dX6_isAhead_88 (lv_at hl 1 rfl) ?_
      refine lv_lload hx hb dX6_isAhead_90 (lv_at hl 0 rfl) ?_
      refine wl_eq (tgt := 110) hx hb dX6_isAhead_92 dX6_isAhead_93 (by decide) (fun c92_20 => ?_) (fun c92_20 => ?_)
      · refine lv_aload_n hx hb dX6_isAhead_110 rfl (lv_at hl 2 rfl) ?_
        refine va_get (ci := 6) (v := .ref (a 2)) (C := RX6) (T := TX6) (N := 30) hx hb hts hiX6 hown hK hP 0 rfl rfl 3 (by decide) hf0 (fun _ h9 => h9) rfl dX6_isAhead_111 ?_
        refine lv_iload_n hx hb dX6_isAhead_114 rfl (lv_at hl 3 rfl) ?_
        refine wa_l (i := x) (v := m_key M x) hx hb hK hP 2 1 rfl rfl rfl (by omega) (by decide) dX6_isAhead_115 ?_
        refine lv_aload_n hx hb dX6_isAhead_116 rfl (lv_at hl 2 rfl) ?_
        refine va_get (ci := 6) (v := .ref (a 2)) (C := RX6) (T := TX6) (N := 30) hx hb hts hiX6 hown hK hP 0 rfl rfl 3 (by decide) hf0 (fun _ h9 => h9) rfl dX6_isAhead_117 ?_
        refine lv_iload_n hx hb dX6_isAhead_120 rfl (lv_at hl 4 rfl) ?_
        refine wa_l (i := y) (v := m_key M y) hx hb hK hP 2 1 rfl rfl rfl (by omega) (by decide) dX6_isAhead_121 ?_
        refine wl_eq (tgt := 150) hx hb dX6_isAhead_122 dX6_isAhead_123 (by decide) (fun c122_21 => ?_) (fun c122_21 => ?_)
        · refine lv_iload_n hx hb dX6_isAhead_150 rfl (lv_at hl 3 rfl) ?_
          refine lv_iload_n hx hb dX6_isAhead_151 rfl (lv_at hl 4 rfl) ?_
          refine wn_icmp_ge (a := x) (b := y) (tgt := 159) hx hb (nI_z (by omega)) (nI_z (by omega)) dX6_isAhead_152 (by decide) (fun c152_22 => ?_) (fun c152_22 => ?_)
          · refine lv_iconst (v := nI (0)) hx hb dX6_isAhead_159 (by decide) ?_
            exact W.zret (v := nI (0)) hx hb hr rfl (fun t ht hW => ⟨_, rfl, (bI_ff (by rw [aheadB, wtA0 (by omega), wtA0 (by omega)]; simp [c92_20, c122_21, c152_22] <;> omega)), ht⟩) (fun q h => nomatch h) dX6_isAhead_160
          · refine lv_iconst (v := nI (1)) hx hb dX6_isAhead_155 (by decide) ?_
            refine lv_goto (tgt := 160) hx hb dX6_isAhead_156 (by decide) ?_
            exact W.zret (v := nI (1)) hx hb hr rfl (fun t ht hW => ⟨_, rfl, (bI_tt (by rw [aheadB, wtA0 (by omega), wtA0 (by omega)]; simp [c92_20, c122_21, c152_22] <;> omega)), ht⟩) (fun q h => nomatch h) dX6_isAhead_160
        · refine lv_aload_n hx hb dX6_isAhead_126 rfl (lv_at hl 2 rfl) ?_
          refine va_get (ci := 6) (v := .ref (a 2)) (C := RX6) (T := TX6) (N := 30) hx hb hts hiX6 hown hK hP 0 rfl rfl 3 (by decide) hf0 (fun _ h9 => h9) rfl dX6_isAhead_127 ?_
          refine lv_iload_n hx hb dX6_isAhead_130 rfl (lv_at hl 3 rfl) ?_
          refine wa_l (i := x) (v := m_key M x) hx hb hK hP 2 1 rfl rfl rfl (by omega) (by decide) dX6_isAhead_131 ?_
          refine lv_aload_n hx hb dX6_isAhead_132 rfl (lv_at hl 2 rfl) ?_
          refine va_get (ci := 6) (v := .ref (a 2)) (C := RX6) (T := TX6) (N := 30) hx hb hts hiX6 hown hK hP 0 rfl rfl 3 (by decide) hf0 (fun _ h9 => h9) rfl dX6_isAhead_133 ?_
          refine lv_iload_n hx hb dX6_isAhead_136 rfl (lv_at hl 4 rfl) ?_
          refine wa_l (i := y) (v := m_key M y) hx hb hK hP 2 1 rfl rfl rfl (by omega) (by decide) dX6_isAhead_137 ?_
          refine wl_ge (tgt := 146) hx hb dX6_isAhead_138 dX6_isAhead_139 (by decide) (fun c138_23 => ?_) (fun c138_23 => ?_)
          · refine lv_iconst (v := nI (0)) hx hb dX6_isAhead_146 (by decide) ?_
            refine lv_goto (tgt := 160) hx hb dX6_isAhead_147 (by decide) ?_
            exact W.zret (v := nI (0)) hx hb hr rfl (fun t ht hW => ⟨_, rfl, (bI_ff (by rw [aheadB, wtA0 (by omega), wtA0 (by omega)]; simp [c92_20, c122_21, c138_23] <;> omega)), ht⟩) (fun q h => nomatch h) dX6_isAhead_160
          · refine lv_iconst (v := nI (1)) hx hb dX6_isAhead_142 (by decide) ?_
            refine lv_goto (tgt := 160) hx hb dX6_isAhead_143 (by decide) ?_
            exact W.zret (v := nI (1)) hx hb hr rfl (fun t ht hW => ⟨_, rfl, (bI_tt (by rw [aheadB, wtA0 (by omega), wtA0 (by omega)]; simp [c92_20, c122_21, c138_23] <;> omega)), ht⟩) (fun q h => nomatch h) dX6_isAhead_160
      · refine lv_lload hx hb dX6_isAhead_96 (lv_at hl 1 rfl) ?_
        refine lv_lload hx hb dX6_isAhead_98 (lv_at hl 0 rfl) ?_
        refine wl_ge (tgt := 108) hx hb dX6_isAhead_100 dX6_isAhead_101 (by decide) (fun c100_24 => ?_) (fun c100_24 => ?_)
        · refine lv_iconst (v := nI (0)) hx hb dX6_isAhead_108 (by decide) ?_
          exact W.zret (v := nI (0)) hx hb hr rfl (fun t ht hW => ⟨_, rfl, (bI_ff (by rw [aheadB, wtA0 (by omega), wtA0 (by omega)]; simp [c92_20, c100_24] <;> omega)), ht⟩) (fun q h => nomatch h) dX6_isAhead_109
        · refine lv_iconst (v := nI (1)) hx hb dX6_isAhead_104 (by decide) ?_
          refine lv_goto (tgt := 109) hx hb dX6_isAhead_105 (by decide) ?_
          exact W.zret (v := nI (1)) hx hb hr rfl (fun t ht hW => ⟨_, rfl, (bI_tt (by rw [aheadB, wtA0 (by omega), wtA0 (by omega)]; simp [c92_20, c100_24] <;> omega)), ht⟩) (fun q h => nomatch h) dX6_isAhead_109
def rm_X6_rank : Room := { frames := 2, cells := 0, slots := 0, locals := 54 }
set_option maxHeartbeats 4000000 in
set_option maxRecDepth 100000 in
/-- how many of a view are ahead of an object -/
theorem c_X6_rank (l : Launch) (D : va_G) (cI cJ cZ : ClassId) (a : Nat → Nat) (th : Nat) (lds : Nat → Bool) (M : MT) (hM : mOk M) (v o kd : Nat) (sd : Int64) (hv : v < 30) (ho : o < 300) (hkd : kd < 3) : Met l yX6_rank wsX6_rank rm_X6_rank (va_Pc [.ref (a 0), .int (nI (v)), .int (nI (o)), .int (nI (kd)), .long (sd)] (GR D (tyW cI cJ cZ) (mW cI cJ cZ a (th) (lds) M))) (vp_Si (fun rr => rr = nI (rankM M v o kd sd))) 0 0 (fun _ => False) := by
  obtain ⟨hn, hsn, hvn, hrn, hpn, hnw, h_seg, h_la, h_st, h_vo, h_ko, h_sl, h_sc, h_kp, h_en, h_pg, hvo, hko, hsl, hsc⟩ := id hM
  refine Met.ofW (cc := cX6_rank) (maxL := 8) (ret := (some .int)) (by decide) rfl ?_
  intro p e s m args below meth c s₁ B hml hv
  obtain ⟨rfl, hP, hK⟩ := hv
  have hx := B.exec
  have hb := B.bytes
  have hr := B.returns
  have hts := atoms_spec (ws := wsX6_rank) B.pre
  have hown : s.vm.findClass RX6 = some m.cls := findClass_of_methodNamed B.named
  have hlocks := B.notSynchronized
  have hiX6 : ∀ w ∈ wsX60, w ∈ wsX6_rank := by decide +kernel
  have hf0 := hts (.fieldLink RX6 97 "GroupCursorsModel" "objects" "I") (by decide +kernel)
  have hl := lv_entry ([.ref (a 0), .int (nI (v)), .int (nI (o)), .int (nI (kd)), .long (sd)]) (n := 8) (Nat.le_of_ble_eq_true rfl)
  rw [lg_entry_eq]
  generalize (lg_sl ([.ref (a 0), .int (nI (v)), .int (nI (o)), .int (nI (kd)), .long (sd)]) ++ List.replicate (8 - (lg_sl ([.ref (a 0), .int (nI (v)), .int (nI (o)), .int (nI (kd)), .long (sd)])).length) Slot.unset).toArray = ls at hl ⊢
  have hl : lv_has ls 8 [(0, .ref (a 0)), (1, .int (nI (v))), (2, .int (nI (o))), (3, .int (nI (kd))), (4, .long (sd))] := hl
  refine lv_iconst (v := nI (0)) hx hb dX6_rank_0 (by decide) ?_
  refine lv_istore (lv' := [(6, .int (nI (0))), (0, .ref (a 0)), (1, .int (nI (v))), (2, .int (nI (o))), (3, .int (nI (kd))), (4, .long (sd))]) hx hb dX6_rank_1 hl (by decide) rfl (fun ls hl => ?_)
  refine lv_iconst (v := nI (0)) hx hb dX6_rank_3 (by decide) ?_
  refine lv_istore (lv' := [(7, .int (nI (0))), (6, .int (nI (0))), (0, .ref (a 0)), (1, .int (nI (v))), (2, .int (nI (o))), (3, .int (nI (kd))), (4, .long (sd))]) hx hb dX6_rank_4 hl (by decide) rfl (fun ls hl => ?_)
  have hlp6 : ∀ (d : Nat) (i : Nat) (k : Nat), m_n M - i < d → (i ≤ m_n M) → (k = cnt (pRank M v o kd sd) i) → ∀ (ls : Array Slot), lv_has ls 8 [(0, .ref (a 0)), (1, .int (nI (v))), (2, .int (nI (o))), (3, .int (nI (kd))), (4, .long (sd)), (6, .int (nI (k))), (7, .int (nI (i)))] → W p l e (headSpec wsX6_rank rm_X6_rank).room s m ([.ref (a 0), .int (nI (v)), .int (nI (o)), .int (nI (kd)), .long (sd)] : List Value).toArray below meth c s.heap [] (0) (0) (MQ below (vp_Si (fun rr => rr = nI (rankM M v o kd sd))) ([.ref (a 0), .int (nI (v)), .int (nI (o)), .int (nI (kd)), .long (sd)] : List Value).toArray s 0 0 (fun _ => False)) (F0 m 6 ls []) := by
    intro d
    induction d with
    | zero => intro i k  hd6; exact absurd hd6 (Nat.not_lt_zero _)
    | succ d ih6 =>
      intro i k  hd6 hik hk  ls hl
      have hcl := cnt_le (pRank M v o kd sd) i
      refine lv_iload hx hb dX6_rank_6 (lv_at hl 6 rfl) ?_
      refine lv_aload_n hx hb dX6_rank_8 rfl (lv_at hl 0 rfl) ?_
      refine va_get (ci := 6) (v := .int (nI (m_n M))) (C := RX6) (T := TX6) (N := 30) hx hb hts hiX6 hown hK hP 0 rfl rfl 1 (by decide) hf0 (fun _ h9 => h9) rfl dX6_rank_9 ?_
      refine wn_icmp_ge (a := i) (b := m_n M) (tgt := 54) hx hb (nI_z (by omega)) (nI_z (by omega)) dX6_rank_12 (by decide) (fun c12_1 => ?_) (fun c12_1 => ?_)
      · refine lv_iload hx hb dX6_rank_54 (lv_at hl 5 rfl) ?_
        exact W.iret (v := nI (k)) hx hb hr (fun t ht hW => ⟨_, rfl, (by show nI k = nI (cnt (pRank M v o kd sd) (m_n M)); rw [hk, (show i = m_n M by omega)]), ht⟩) (fun q h => nomatch h) dX6_rank_56
      · refine lv_iload hx hb dX6_rank_15 (lv_at hl 5 rfl) ?_
        refine lv_aload_n hx hb dX6_rank_17 rfl (lv_at hl 0 rfl) ?_
        refine lv_iload_n hx hb dX6_rank_18 rfl (lv_at hl 1 rfl) ?_
        refine lv_iload hx hb dX6_rank_19 (lv_at hl 6 rfl) ?_
        refine wc_Vi (As := [.int (nI (v)), .int (nI (i))]) (rest := [.int (nI (k))]) ⟨hx, hb, hml, hown, hts⟩ (c_X6_isIn l D cI cJ cZ a (th) (lds) M hM (v) (i) (by omega) (by omega)) (cwV 2 hts gX6_rank_X6_isIn rfl rfl rfl (by decide +kernel) ⟨Nat.le_of_ble_eq_true rfl, Nat.le_of_ble_eq_true rfl⟩) hP hK 0 rfl rfl rfl hl.1 rfl (Nat.le_of_ble_eq_true rfl) dX6_rank_21 ⟨Nat.zero_le _, Nat.zero_le _⟩ (fun rr hq2 => ?_)
        have hq2 : rr = bI (m_in M v i) := hq2
        subst hq2
        refine wb_if_eq (tgt := 44) hx hb dX6_rank_24 (by decide) (fun c24_3 => ?_) (fun c24_3 => ?_)
        · refine lv_iconst (v := nI (0)) hx hb dX6_rank_44 (by decide) ?_
          refine lv_iadd hx hb dX6_rank_45 (ww_top (y := nI (k + 0)) (nI_addn _ _) ?_)
          refine lv_istore (lv' := [(6, .int (nI (k + 0))), (0, .ref (a 0)), (1, .int (nI (v))), (2, .int (nI (o))), (3, .int (nI (kd))), (4, .long (sd)), (7, .int (nI (i)))]) hx hb dX6_rank_46 hl (by decide) rfl (fun ls hl => ?_)
          refine lv_iinc (v := nI (i + 1)) (lv' := [(7, .int (nI (i + 1))), (6, .int (nI (k + 0))), (0, .ref (a 0)), (1, .int (nI (v))), (2, .int (nI (o))), (3, .int (nI (kd))), (4, .long (sd))]) hx hb dX6_rank_48 hl (k := 6) rfl (nI_inc _) (by decide) rfl (fun ls hl => ?_)
          refine lv_goto (tgt := 6) hx hb dX6_rank_51 (by decide) ?_
          exact ih6 (i + 1) (k + 0)  (by omega) (by omega) (cnt_f hk (by simp [pRank, c12_1, c24_3]))  ls (lv_sub hl [2, 3, 4, 5, 6, 1, 0] rfl)
        · refine lv_aload_n hx hb dX6_rank_27 rfl (lv_at hl 0 rfl) ?_
          refine lv_iload hx hb dX6_rank_28 (lv_at hl 6 rfl) ?_
          refine lv_iload_n hx hb dX6_rank_30 rfl (lv_at hl 2 rfl) ?_
          refine lv_iload_n hx hb dX6_rank_31 rfl (lv_at hl 3 rfl) ?_
          refine lv_lload hx hb dX6_rank_32 (lv_at hl 4 rfl) ?_
          refine wc_Vi (As := [.int (nI (i)), .int (nI (o)), .int (nI (kd)), .long (sd)]) (rest := [.int (nI (k))]) ⟨hx, hb, hml, hown, hts⟩ (c_X6_isAhead l D cI cJ cZ a (th) (lds) M hM (i) (o) (kd) (sd) (by omega) (by omega) (by omega)) (cwV 4 hts gX6_rank_X6_isAhead rfl rfl rfl (by decide +kernel) ⟨Nat.le_of_ble_eq_true rfl, Nat.le_of_ble_eq_true rfl⟩) hP hK 0 rfl rfl rfl hl.1 rfl (Nat.le_of_ble_eq_true rfl) dX6_rank_34 ⟨Nat.zero_le _, Nat.zero_le _⟩ (fun rr hq4 => ?_)
          have hq4 : rr = bI (aheadB M kd (sd) i o) := hq4
          subst hq4
          refine wb_if_eq (tgt := 44) hx hb dX6_rank_37 (by decide) (fun c37_5 => ?_) (fun c37_5 => ?_)
          · refine lv_iconst (v := nI (0)) hx hb dX6_rank_44 (by decide) ?_
            refine lv_iadd hx hb dX6_rank_45 (ww_top (y := nI (k + 0)) (nI_addn _ _) ?_)
            refine lv_istore (lv' := [(6, .int (nI (k + 0))), (0, .ref (a 0)), (1, .int (nI (v))), (2, .int (nI (o))), (3, .int (nI (kd))), (4, .long (sd)), (7, .int (nI (i)))]) hx hb dX6_rank_46 hl (by decide) rfl (fun ls hl => ?_)
            refine lv_iinc (v := nI (i + 1)) (lv' := [(7, .int (nI (i + 1))), (6, .int (nI (k + 0))), (0, .ref (a 0)), (1, .int (nI (v))), (2, .int (nI (o))), (3, .int (nI (kd))), (4, .long (sd))]) hx hb dX6_rank_48 hl (k := 6) rfl (nI_inc _) (by decide) rfl (fun ls hl => ?_)
            refine lv_goto (tgt := 6) hx hb dX6_rank_51 (by decide) ?_
            exact ih6 (i + 1) (k + 0)  (by omega) (by omega) (cnt_f hk (by simp [pRank, c12_1, c24_3, c37_5]))  ls (lv_sub hl [2, 3, 4, 5, 6, 1, 0] rfl)
          · refine lv_iconst (v := nI (1)) hx hb dX6_rank_40 (by decide) ?_
            refine lv_goto (tgt := 45) hx hb dX6_rank_41 (by decide) ?_
            refine lv_iadd hx hb dX6_rank_45 (ww_top (y := nI (k + 1)) (nI_addn _ _) ?_)
            refine lv_istore (lv' := [(6, .int (nI (k + 1))), (0, .ref (a 0)), (1, .int (nI (v))), (2, .int (nI (o))), (3, .int (nI (kd))), (4, .long (sd)), (7, .int (nI (i)))]) hx hb dX6_rank_46 hl (by decide) rfl (fun ls hl => ?_)
            refine lv_iinc (v := nI (i + 1)) (lv' := [(7, .int (nI (i + 1))), (6, .int (nI (k + 1))), (0, .ref (a 0)), (1, .int (nI (v))), (2, .int (nI (o))), (3, .int (nI (kd))), (4, .long (sd))]) hx hb dX6_rank_48 hl (k := 6) rfl (nI_inc _) (by decide) rfl (fun ls hl => ?_)
            refine lv_goto (tgt := 6) hx hb dX6_rank_51 (by decide) ?_
            exact ih6 (i + 1) (k + 1)  (by omega) (by omega) (cnt_t hk (by simp [pRank, c12_1, c24_3, c37_5]))  ls (lv_sub hl [2, 3, 4, 5, 6, 1, 0] rfl)
  exact hlp6 _ (0) (0)  (Nat.lt_succ_self _) (Nat.zero_le _) (rfl)  ls (lv_sub hl [2, 3, 4, 5, 6, 1, 0] rfl)
def rm_X6_isFirst : Room := { frames := 2, cells := 0, slots := 0, locals := 54 }
set_option maxHeartbeats 4000000 in
set_option maxRecDepth 100000 in
/-- whether an object is the first of its group -/
theorem c_X6_isFirst (l : Launch) (D : va_G) (cI cJ cZ : ClassId) (a : Nat → Nat) (th : Nat) (lds : Nat → Bool) (M : MT) (hM : mOk M) (v o kd : Nat) (sd : Int64) (hv : v < 30) (ho : o < 300) (hkd : kd < 3) : Met l yX6_isFirst wsX6_isFirst rm_X6_isFirst (va_Pc [.ref (a 0), .int (nI (v)), .int (nI (o)), .int (nI (kd)), .long (sd)] (GR D (tyW cI cJ cZ) (mW cI cJ cZ a (th) (lds) M))) (vp_Si (fun rr => rr = bI (isFirstB M v o kd sd))) 0 0 (fun _ => False) := by
  obtain ⟨hn, hsn, hvn, hrn, hpn, hnw, h_seg, h_la, h_st, h_vo, h_ko, h_sl, h_sc, h_kp, h_en, h_pg, hvo, hko, hsl, hsc⟩ := id hM
  refine Met.ofW (cc := cX6_isFirst) (maxL := 8) (ret := (some .boolean)) (by decide) rfl ?_
  intro p e s m args below meth c s₁ B hml hv
  obtain ⟨rfl, hP, hK⟩ := hv
  have hx := B.exec
  have hb := B.bytes
  have hr := B.returns
  have hts := atoms_spec (ws := wsX6_isFirst) B.pre
  have hown : s.vm.findClass RX6 = some m.cls := findClass_of_methodNamed B.named
  have hlocks := B.notSynchronized
  have hiX6 : ∀ w ∈ wsX60, w ∈ wsX6_isFirst := by decide +kernel
  have hf0 := hts (.fieldLink RX6 97 "GroupCursorsModel" "objects" "I") (by decide +kernel)
  have hf1 := hts (.fieldLink RX6 7 "GroupCursorsModel" "group" "[J") (by decide +kernel)
  have hl := lv_entry ([.ref (a 0), .int (nI (v)), .int (nI (o)), .int (nI (kd)), .long (sd)]) (n := 8) (Nat.le_of_ble_eq_true rfl)
  rw [lg_entry_eq]
  generalize (lg_sl ([.ref (a 0), .int (nI (v)), .int (nI (o)), .int (nI (kd)), .long (sd)]) ++ List.replicate (8 - (lg_sl ([.ref (a 0), .int (nI (v)), .int (nI (o)), .int (nI (kd)), .long (sd)])).length) Slot.unset).toArray = ls at hl ⊢
  have hl : lv_has ls 8 [(0, .ref (a 0)), (1, .int (nI (v))), (2, .int (nI (o))), (3, .int (nI (kd))), (4, .long (sd))] := hl
  refine lv_aload_n hx hb dX6_isFirst_0 rfl (lv_at hl 0 rfl) ?_
  refine lv_iload_n hx hb dX6_isFirst_1 rfl (lv_at hl 1 rfl) ?_
  refine lv_iload_n hx hb dX6_isFirst_2 rfl (lv_at hl 2 rfl) ?_
  refine wc_Vi (As := [.int (nI (v)), .int (nI (o))]) (rest := []) ⟨hx, hb, hml, hown, hts⟩ (c_X6_isIn l D cI cJ cZ a (th) (lds) M hM (v) (o) (by omega) (by omega)) (cwV 2 hts gX6_isFirst_X6_isIn rfl rfl rfl (by decide +kernel) ⟨Nat.le_of_ble_eq_true rfl, Nat.le_of_ble_eq_true rfl⟩) hP hK 0 rfl rfl rfl hl.1 rfl (Nat.le_of_ble_eq_true rfl) dX6_isFirst_3 ⟨Nat.zero_le _, Nat.zero_le _⟩ (fun rr hq1 => ?_)
  have hq1 : rr = bI (m_in M v o) := hq1
  subst hq1
  refine lv_istore (lv' := [(6, .int (bI (m_in M v o))), (0, .ref (a 0)), (1, .int (nI (v))), (2, .int (nI (o))), (3, .int (nI (kd))), (4, .long (sd))]) hx hb dX6_isFirst_6 hl (by decide) rfl (fun ls hl => ?_)
  refine lv_iconst (v := nI (0)) hx hb dX6_isFirst_8 (by decide) ?_
  refine lv_istore (lv' := [(7, .int (nI (0))), (6, .int (bI (m_in M v o))), (0, .ref (a 0)), (1, .int (nI (v))), (2, .int (nI (o))), (3, .int (nI (kd))), (4, .long (sd))]) hx hb dX6_isFirst_9 hl (by decide) rfl (fun ls hl => ?_)
  have hlp11 : ∀ (d : Nat) (i : Nat) (b : Bool), m_n M - i < d → (i ≤ m_n M) → (b = (m_in M v o && allF (pOwn M v o kd sd) i)) → ∀ (ls : Array Slot), lv_has ls 8 [(0, .ref (a 0)), (1, .int (nI (v))), (2, .int (nI (o))), (3, .int (nI (kd))), (4, .long (sd)), (6, .int (bI (b))), (7, .int (nI (i)))] → W p l e (headSpec wsX6_isFirst rm_X6_isFirst).room s m ([.ref (a 0), .int (nI (v)), .int (nI (o)), .int (nI (kd)), .long (sd)] : List Value).toArray below meth c s.heap [] (0) (0) (MQ below (vp_Si (fun rr => rr = bI (isFirstB M v o kd sd))) ([.ref (a 0), .int (nI (v)), .int (nI (o)), .int (nI (kd)), .long (sd)] : List Value).toArray s 0 0 (fun _ => False)) (F0 m 11 ls []) := by
    intro d
    induction d with
    | zero => intro i b  hd11; exact absurd hd11 (Nat.not_lt_zero _)
    | succ d ih11 =>
      intro i b  hd11 hik hbk  ls hl
      refine lv_iload hx hb dX6_isFirst_11 (lv_at hl 6 rfl) ?_
      refine lv_aload_n hx hb dX6_isFirst_13 rfl (lv_at hl 0 rfl) ?_
      refine va_get (ci := 6) (v := .int (nI (m_n M))) (C := RX6) (T := TX6) (N := 30) hx hb hts hiX6 hown hK hP 0 rfl rfl 1 (by decide) hf0 (fun _ h9 => h9) rfl dX6_isFirst_14 ?_
      refine wn_icmp_ge (a := i) (b := m_n M) (tgt := 78) hx hb (nI_z (by omega)) (nI_z (by omega)) dX6_isFirst_17 (by decide) (fun c17_2 => ?_) (fun c17_2 => ?_)
      · refine lv_iload hx hb dX6_isFirst_78 (lv_at hl 5 rfl) ?_
        exact W.zret (v := bI (b)) hx hb hr (bI_nr _) (fun t ht hW => ⟨_, rfl, (by rw [isFirstB, hbk, (show i = m_n M by omega)]), ht⟩) (fun q h => nomatch h) dX6_isFirst_80
      · refine lv_iload hx hb dX6_isFirst_20 (lv_at hl 5 rfl) ?_
        refine wb_if_eq (tgt := 78) hx hb dX6_isFirst_22 (by decide) (fun c22_3 => ?_) (fun c22_3 => ?_)
        · refine lv_iload hx hb dX6_isFirst_78 (lv_at hl 5 rfl) ?_
          exact W.zret (v := bI (b)) hx hb hr (bI_nr _) (fun t ht hW => ⟨_, rfl, (isFirst_end hbk (by omega) c22_3), ht⟩) (fun q h => nomatch h) dX6_isFirst_80
        · refine lv_aload_n hx hb dX6_isFirst_25 rfl (lv_at hl 0 rfl) ?_
          refine lv_iload_n hx hb dX6_isFirst_26 rfl (lv_at hl 1 rfl) ?_
          refine lv_iload hx hb dX6_isFirst_27 (lv_at hl 6 rfl) ?_
          refine wc_Vi (As := [.int (nI (v)), .int (nI (i))]) (rest := []) ⟨hx, hb, hml, hown, hts⟩ (c_X6_isIn l D cI cJ cZ a (th) (lds) M hM (v) (i) (by omega) (by omega)) (cwV 2 hts gX6_isFirst_X6_isIn rfl rfl rfl (by decide +kernel) ⟨Nat.le_of_ble_eq_true rfl, Nat.le_of_ble_eq_true rfl⟩) hP hK 0 rfl rfl rfl hl.1 rfl (Nat.le_of_ble_eq_true rfl) dX6_isFirst_29 ⟨Nat.zero_le _, Nat.zero_le _⟩ (fun rr hq4 => ?_)
          have hq4 : rr = bI (m_in M v i) := hq4
          subst hq4
          refine wb_if_eq (tgt := 65) hx hb dX6_isFirst_32 (by decide) (fun c32_5 => ?_) (fun c32_5 => ?_)
          · refine lv_iconst (v := nI (1)) hx hb dX6_isFirst_65 (by decide) ?_
            refine lv_goto (tgt := 70) hx hb dX6_isFirst_66 (by decide) ?_
            refine ww_top (y := bI (true)) (rfl) ?_
            refine lv_istore (lv' := [(6, .int (bI (true))), (0, .ref (a 0)), (1, .int (nI (v))), (2, .int (nI (o))), (3, .int (nI (kd))), (4, .long (sd)), (7, .int (nI (i)))]) hx hb dX6_isFirst_70 hl (by decide) rfl (fun ls hl => ?_)
            refine lv_iinc (v := nI (i + 1)) (lv' := [(7, .int (nI (i + 1))), (6, .int (bI (true))), (0, .ref (a 0)), (1, .int (nI (v))), (2, .int (nI (o))), (3, .int (nI (kd))), (4, .long (sd))]) hx hb dX6_isFirst_72 hl (k := 6) rfl (nI_inc _) (by decide) rfl (fun ls hl => ?_)
            refine lv_goto (tgt := 11) hx hb dX6_isFirst_75 (by decide) ?_
            exact ih11 (i + 1) (true)  (by omega) (by omega) (by simp only [allF]; rw [← Bool.and_assoc, ← hbk]; simp [pOwn, c22_3, c17_2, c32_5])  ls (lv_sub hl [2, 3, 4, 5, 6, 1, 0] rfl)
          · refine lv_aload_n hx hb dX6_isFirst_35 rfl (lv_at hl 0 rfl) ?_
            refine va_get (ci := 6) (v := .ref (a 1)) (C := RX6) (T := TX6) (N := 30) hx hb hts hiX6 hown hK hP 0 rfl rfl 2 (by decide) hf1 (fun _ h9 => h9) rfl dX6_isFirst_36 ?_
            refine lv_iload hx hb dX6_isFirst_39 (lv_at hl 6 rfl) ?_
            refine wa_l (i := i) (v := m_grp M i) hx hb hK hP 1 1 rfl rfl rfl (by omega) (by decide) dX6_isFirst_41 ?_
            refine lv_aload_n hx hb dX6_isFirst_42 rfl (lv_at hl 0 rfl) ?_
            refine va_get (ci := 6) (v := .ref (a 1)) (C := RX6) (T := TX6) (N := 30) hx hb hts hiX6 hown hK hP 0 rfl rfl 2 (by decide) hf1 (fun _ h9 => h9) rfl dX6_isFirst_43 ?_
            refine lv_iload_n hx hb dX6_isFirst_46 rfl (lv_at hl 2 rfl) ?_
            refine wa_l (i := o) (v := m_grp M o) hx hb hK hP 1 1 rfl rfl rfl (by omega) (by decide) dX6_isFirst_47 ?_
            refine wl_ne (tgt := 65) hx hb dX6_isFirst_48 dX6_isFirst_49 (by decide) (fun c48_6 => ?_) (fun c48_6 => ?_)
            · refine lv_iconst (v := nI (1)) hx hb dX6_isFirst_65 (by decide) ?_
              refine lv_goto (tgt := 70) hx hb dX6_isFirst_66 (by decide) ?_
              refine ww_top (y := bI (true)) (rfl) ?_
              refine lv_istore (lv' := [(6, .int (bI (true))), (0, .ref (a 0)), (1, .int (nI (v))), (2, .int (nI (o))), (3, .int (nI (kd))), (4, .long (sd)), (7, .int (nI (i)))]) hx hb dX6_isFirst_70 hl (by decide) rfl (fun ls hl => ?_)
              refine lv_iinc (v := nI (i + 1)) (lv' := [(7, .int (nI (i + 1))), (6, .int (bI (true))), (0, .ref (a 0)), (1, .int (nI (v))), (2, .int (nI (o))), (3, .int (nI (kd))), (4, .long (sd))]) hx hb dX6_isFirst_72 hl (k := 6) rfl (nI_inc _) (by decide) rfl (fun ls hl => ?_)
              refine lv_goto (tgt := 11) hx hb dX6_isFirst_75 (by decide) ?_
              exact ih11 (i + 1) (true)  (by omega) (by omega) (by simp only [allF]; rw [← Bool.and_assoc, ← hbk]; simp [pOwn, c22_3, c17_2, c32_5, c48_6])  ls (lv_sub hl [2, 3, 4, 5, 6, 1, 0] rfl)
            · refine lv_aload_n hx hb dX6_isFirst_52 rfl (lv_at hl 0 rfl) ?_
              refine lv_iload hx hb dX6_isFirst_53 (lv_at hl 6 rfl) ?_
              refine lv_iload_n hx hb dX6_isFirst_55 rfl (lv_at hl 2 rfl) ?_
              refine lv_iload_n hx hb dX6_isFirst_56 rfl (lv_at hl 3 rfl) ?_
              refine lv_lload hx hb dX6_isFirst_57 (lv_at hl 4 rfl) ?_
              refine wc_Vi (As := [.int (nI (i)), .int (nI (o)), .int (nI (kd)), .long (sd)]) (rest := []) ⟨hx, hb, hml, hown, hts⟩ (c_X6_isAhead l D cI cJ cZ a (th) (lds) M hM (i) (o) (kd) (sd) (by omega) (by omega) (by omega)) (cwV 4 hts gX6_isFirst_X6_isAhead rfl rfl rfl (by decide +kernel) ⟨Nat.le_of_ble_eq_true rfl, Nat.le_of_ble_eq_true rfl⟩) hP hK 0 rfl rfl rfl hl.1 rfl (Nat.le_of_ble_eq_true rfl) dX6_isFirst_59 ⟨Nat.zero_le _, Nat.zero_le _⟩ (fun rr hq7 => ?_)
              have hq7 : rr = bI (aheadB M kd (sd) i o) := hq7
              subst hq7
              refine wb_if_ne (tgt := 69) hx hb dX6_isFirst_62 (by decide) (fun c62_8 => ?_) (fun c62_8 => ?_)
              · refine lv_iconst (v := nI (0)) hx hb dX6_isFirst_69 (by decide) ?_
                refine ww_top (y := bI (false)) (rfl) ?_
                refine lv_istore (lv' := [(6, .int (bI (false))), (0, .ref (a 0)), (1, .int (nI (v))), (2, .int (nI (o))), (3, .int (nI (kd))), (4, .long (sd)), (7, .int (nI (i)))]) hx hb dX6_isFirst_70 hl (by decide) rfl (fun ls hl => ?_)
                refine lv_iinc (v := nI (i + 1)) (lv' := [(7, .int (nI (i + 1))), (6, .int (bI (false))), (0, .ref (a 0)), (1, .int (nI (v))), (2, .int (nI (o))), (3, .int (nI (kd))), (4, .long (sd))]) hx hb dX6_isFirst_72 hl (k := 6) rfl (nI_inc _) (by decide) rfl (fun ls hl => ?_)
                refine lv_goto (tgt := 11) hx hb dX6_isFirst_75 (by decide) ?_
                exact ih11 (i + 1) (false)  (by omega) (by omega) (by simp only [allF]; rw [← Bool.and_assoc, ← hbk]; simp [pOwn, c22_3, c17_2, c32_5, c48_6, c62_8])  ls (lv_sub hl [2, 3, 4, 5, 6, 1, 0] rfl)
              · refine lv_iconst (v := nI (1)) hx hb dX6_isFirst_65 (by decide) ?_
                refine lv_goto (tgt := 70) hx hb dX6_isFirst_66 (by decide) ?_
                refine ww_top (y := bI (true)) (rfl) ?_
                refine lv_istore (lv' := [(6, .int (bI (true))), (0, .ref (a 0)), (1, .int (nI (v))), (2, .int (nI (o))), (3, .int (nI (kd))), (4, .long (sd)), (7, .int (nI (i)))]) hx hb dX6_isFirst_70 hl (by decide) rfl (fun ls hl => ?_)
                refine lv_iinc (v := nI (i + 1)) (lv' := [(7, .int (nI (i + 1))), (6, .int (bI (true))), (0, .ref (a 0)), (1, .int (nI (v))), (2, .int (nI (o))), (3, .int (nI (kd))), (4, .long (sd))]) hx hb dX6_isFirst_72 hl (k := 6) rfl (nI_inc _) (by decide) rfl (fun ls hl => ?_)
                refine lv_goto (tgt := 11) hx hb dX6_isFirst_75 (by decide) ?_
                exact ih11 (i + 1) (true)  (by omega) (by omega) (by simp only [allF]; rw [← Bool.and_assoc, ← hbk]; simp [pOwn, c22_3, c17_2, c32_5, c48_6, c62_8])  ls (lv_sub hl [2, 3, 4, 5, 6, 1, 0] rfl)
  exact hlp11 _ (0) (m_in M v o)  (Nat.lt_succ_self _) (Nat.zero_le _) (by simp [allF])  ls (lv_sub hl [2, 3, 4, 5, 6, 1, 0] rfl)
def rm_X6_groupCount : Room := { frames := 3, cells := 0, slots := 0, locals := 81 }
set_option maxHeartbeats 4000000 in
set_option maxRecDepth 100000 in
/-- how many groups a view has -/
theorem c_X6_groupCount (l : Launch) (D : va_G) (cI cJ cZ : ClassId) (a : Nat → Nat) (th : Nat) (lds : Nat → Bool) (M : MT) (hM : mOk M) (v : Nat) (hv : v < 30) : Met l yX6_groupCount wsX6_groupCount rm_X6_groupCount (va_Pc [.ref (a 0), .int (nI (v))] (GR D (tyW cI cJ cZ) (mW cI cJ cZ a (th) (lds) M))) (vp_Si (fun rr => rr = nI (groupCount M v))) 0 0 (fun _ => False) := by
  obtain ⟨hn, hsn, hvn, hrn, hpn, hnw, h_seg, h_la, h_st, h_vo, h_ko, h_sl, h_sc, h_kp, h_en, h_pg, hvo, hko, hsl, hsc⟩ := id hM
  refine Met.ofW (cc := cX6_groupCount) (maxL := 4) (ret := (some .int)) (by decide) rfl ?_
  intro p e s m args below meth c s₁ B hml hv
  obtain ⟨rfl, hP, hK⟩ := hv
  have hx := B.exec
  have hb := B.bytes
  have hr := B.returns
  have hts := atoms_spec (ws := wsX6_groupCount) B.pre
  have hown : s.vm.findClass RX6 = some m.cls := findClass_of_methodNamed B.named
  have hlocks := B.notSynchronized
  have hiX6 : ∀ w ∈ wsX60, w ∈ wsX6_groupCount := by decide +kernel
  have hf0 := hts (.fieldLink RX6 97 "GroupCursorsModel" "objects" "I") (by decide +kernel)
  have hl := lv_entry ([.ref (a 0), .int (nI (v))]) (n := 4) (Nat.le_of_ble_eq_true rfl)
  rw [lg_entry_eq]
  generalize (lg_sl ([.ref (a 0), .int (nI (v))]) ++ List.replicate (4 - (lg_sl ([.ref (a 0), .int (nI (v))])).length) Slot.unset).toArray = ls at hl ⊢
  have hl : lv_has ls 4 [(0, .ref (a 0)), (1, .int (nI (v)))] := hl
  refine lv_iconst (v := nI (0)) hx hb dX6_groupCount_0 (by decide) ?_
  refine lv_istore_n (lv' := [(2, .int (nI (0))), (0, .ref (a 0)), (1, .int (nI (v)))]) hx hb dX6_groupCount_1 rfl hl (by decide) rfl (fun ls hl => ?_)
  refine lv_iconst (v := nI (0)) hx hb dX6_groupCount_2 (by decide) ?_
  refine lv_istore_n (lv' := [(3, .int (nI (0))), (2, .int (nI (0))), (0, .ref (a 0)), (1, .int (nI (v)))]) hx hb dX6_groupCount_3 rfl hl (by decide) rfl (fun ls hl => ?_)
  have hlp4 : ∀ (d : Nat) (i : Nat) (k : Nat), m_n M - i < d → (i ≤ m_n M) → (k = cnt (fun o => isFirstB M v o 0 0) i) → ∀ (ls : Array Slot), lv_has ls 4 [(0, .ref (a 0)), (1, .int (nI (v))), (2, .int (nI (k))), (3, .int (nI (i)))] → W p l e (headSpec wsX6_groupCount rm_X6_groupCount).room s m ([.ref (a 0), .int (nI (v))] : List Value).toArray below meth c s.heap [] (0) (0) (MQ below (vp_Si (fun rr => rr = nI (groupCount M v))) ([.ref (a 0), .int (nI (v))] : List Value).toArray s 0 0 (fun _ => False)) (F0 m 4 ls []) := by
    intro d
    induction d with
    | zero => intro i k  hd4; exact absurd hd4 (Nat.not_lt_zero _)
    | succ d ih4 =>
      intro i k  hd4 hik hk  ls hl
      have hcl := cnt_le (fun o => isFirstB M v o 0 0) i
      refine lv_iload_n hx hb dX6_groupCount_4 rfl (lv_at hl 3 rfl) ?_
      refine lv_aload_n hx hb dX6_groupCount_5 rfl (lv_at hl 0 rfl) ?_
      refine va_get (ci := 6) (v := .int (nI (m_n M))) (C := RX6) (T := TX6) (N := 30) hx hb hts hiX6 hown hK hP 0 rfl rfl 1 (by decide) hf0 (fun _ h9 => h9) rfl dX6_groupCount_6 ?_
      refine wn_icmp_ge (a := i) (b := m_n M) (tgt := 37) hx hb (nI_z (by omega)) (nI_z (by omega)) dX6_groupCount_9 (by decide) (fun c9_1 => ?_) (fun c9_1 => ?_)
      · refine lv_iload_n hx hb dX6_groupCount_37 rfl (lv_at hl 2 rfl) ?_
        exact W.iret (v := nI (k)) hx hb hr (fun t ht hW => ⟨_, rfl, (by show nI k = nI (cnt (fun o => isFirstB M v o 0 0) (m_n M)); rw [hk, (show i = m_n M by omega)]), ht⟩) (fun q h => nomatch h) dX6_groupCount_38
      · refine lv_iload_n hx hb dX6_groupCount_12 rfl (lv_at hl 2 rfl) ?_
        refine lv_aload_n hx hb dX6_groupCount_13 rfl (lv_at hl 0 rfl) ?_
        refine lv_iload_n hx hb dX6_groupCount_14 rfl (lv_at hl 1 rfl) ?_
        refine lv_iload_n hx hb dX6_groupCount_15 rfl (lv_at hl 3 rfl) ?_
        refine lv_iconst (v := nI (0)) hx hb dX6_groupCount_16 (by decide) ?_
        refine lv_lconst (v := 0) hx hb dX6_groupCount_17 (by decide) ?_
        refine wc_Vi (As := [.int (nI (v)), .int (nI (i)), .int (nI (0)), .long (0)]) (rest := [.int (nI (k))]) ⟨hx, hb, hml, hown, hts⟩ (c_X6_isFirst l D cI cJ cZ a (th) (lds) M hM (v) (i) (0) (0) (by omega) (by omega) (by omega)) (cwV 4 hts gX6_groupCount_X6_isFirst rfl rfl rfl (by decide +kernel) ⟨Nat.le_of_ble_eq_true rfl, Nat.le_of_ble_eq_true rfl⟩) hP hK 0 rfl rfl rfl hl.1 rfl (Nat.le_of_ble_eq_true rfl) dX6_groupCount_18 ⟨Nat.zero_le _, Nat.zero_le _⟩ (fun rr hq2 => ?_)
        have hq2 : rr = bI (isFirstB M v i 0 (0)) := hq2
        subst hq2
        refine wb_if_eq (tgt := 28) hx hb dX6_groupCount_21 (by decide) (fun c21_3 => ?_) (fun c21_3 => ?_)
        · refine lv_iconst (v := nI (0)) hx hb dX6_groupCount_28 (by decide) ?_
          refine lv_iadd hx hb dX6_groupCount_29 (ww_top (y := nI (k + 0)) (nI_addn _ _) ?_)
          refine lv_istore_n (lv' := [(2, .int (nI (k + 0))), (0, .ref (a 0)), (1, .int (nI (v))), (3, .int (nI (i)))]) hx hb dX6_groupCount_30 rfl hl (by decide) rfl (fun ls hl => ?_)
          refine lv_iinc (v := nI (i + 1)) (lv' := [(3, .int (nI (i + 1))), (2, .int (nI (k + 0))), (0, .ref (a 0)), (1, .int (nI (v)))]) hx hb dX6_groupCount_31 hl (k := 3) rfl (nI_inc _) (by decide) rfl (fun ls hl => ?_)
          refine lv_goto (tgt := 4) hx hb dX6_groupCount_34 (by decide) ?_
          exact ih4 (i + 1) (k + 0)  (by omega) (by omega) (cnt_f hk (by simp [c9_1, c21_3]))  ls (lv_sub hl [2, 3, 1, 0] rfl)
        · refine lv_iconst (v := nI (1)) hx hb dX6_groupCount_24 (by decide) ?_
          refine lv_goto (tgt := 29) hx hb dX6_groupCount_25 (by decide) ?_
          refine lv_iadd hx hb dX6_groupCount_29 (ww_top (y := nI (k + 1)) (nI_addn _ _) ?_)
          refine lv_istore_n (lv' := [(2, .int (nI (k + 1))), (0, .ref (a 0)), (1, .int (nI (v))), (3, .int (nI (i)))]) hx hb dX6_groupCount_30 rfl hl (by decide) rfl (fun ls hl => ?_)
          refine lv_iinc (v := nI (i + 1)) (lv' := [(3, .int (nI (i + 1))), (2, .int (nI (k + 1))), (0, .ref (a 0)), (1, .int (nI (v)))]) hx hb dX6_groupCount_31 hl (k := 3) rfl (nI_inc _) (by decide) rfl (fun ls hl => ?_)
          refine lv_goto (tgt := 4) hx hb dX6_groupCount_34 (by decide) ?_
          exact ih4 (i + 1) (k + 1)  (by omega) (by omega) (cnt_t hk (by simp [c9_1, c21_3]))  ls (lv_sub hl [2, 3, 1, 0] rfl)
  exact hlp4 _ (0) (0)  (Nat.lt_succ_self _) (Nat.zero_le _) (rfl)  ls (lv_sub hl [2, 3, 1, 0] rfl)
def rm_X6_countIn : Room := { frames := 1, cells := 0, slots := 0, locals := 22 }
set_option maxHeartbeats 4000000 in
set_option maxRecDepth 100000 in
/-- how many objects of a group a view has -/
theorem c_X6_countIn (l : Launch) (D : va_G) (cI cJ cZ : ClassId) (a : Nat → Nat) (th : Nat) (lds : Nat → Bool) (M : MT) (hM : mOk M) (v : Nat) (g : Int64) (hv : v < 30) : Met l yX6_countIn wsX6_countIn rm_X6_countIn (va_Pc [.ref (a 0), .int (nI (v)), .long (g)] (GR D (tyW cI cJ cZ) (mW cI cJ cZ a (th) (lds) M))) (vp_Si (fun rr => rr = nI (countIn M v g))) 0 0 (fun _ => False) := by
  obtain ⟨hn, hsn, hvn, hrn, hpn, hnw, h_seg, h_la, h_st, h_vo, h_ko, h_sl, h_sc, h_kp, h_en, h_pg, hvo, hko, hsl, hsc⟩ := id hM
  refine Met.ofW (cc := cX6_countIn) (maxL := 6) (ret := (some .int)) (by decide) rfl ?_
  intro p e s m args below meth c s₁ B hml hv
  obtain ⟨rfl, hP, hK⟩ := hv
  have hx := B.exec
  have hb := B.bytes
  have hr := B.returns
  have hts := atoms_spec (ws := wsX6_countIn) B.pre
  have hown : s.vm.findClass RX6 = some m.cls := findClass_of_methodNamed B.named
  have hlocks := B.notSynchronized
  have hiX6 : ∀ w ∈ wsX60, w ∈ wsX6_countIn := by decide +kernel
  have hf0 := hts (.fieldLink RX6 97 "GroupCursorsModel" "objects" "I") (by decide +kernel)
  have hf1 := hts (.fieldLink RX6 7 "GroupCursorsModel" "group" "[J") (by decide +kernel)
  have hl := lv_entry ([.ref (a 0), .int (nI (v)), .long (g)]) (n := 6) (Nat.le_of_ble_eq_true rfl)
  rw [lg_entry_eq]
  generalize (lg_sl ([.ref (a 0), .int (nI (v)), .long (g)]) ++ List.replicate (6 - (lg_sl ([.ref (a 0), .int (nI (v)), .long (g)])).length) Slot.unset).toArray = ls at hl ⊢
  have hl : lv_has ls 6 [(0, .ref (a 0)), (1, .int (nI (v))), (2, .long (g))] := hl
  refine lv_iconst (v := nI (0)) hx hb dX6_countIn_0 (by decide) ?_
  refine lv_istore (lv' := [(4, .int (nI (0))), (0, .ref (a 0)), (1, .int (nI (v))), (2, .long (g))]) hx hb dX6_countIn_1 hl (by decide) rfl (fun ls hl => ?_)
  refine lv_iconst (v := nI (0)) hx hb dX6_countIn_3 (by decide) ?_
  refine lv_istore (lv' := [(5, .int (nI (0))), (4, .int (nI (0))), (0, .ref (a 0)), (1, .int (nI (v))), (2, .long (g))]) hx hb dX6_countIn_4 hl (by decide) rfl (fun ls hl => ?_)
  have hlp6 : ∀ (d : Nat) (i : Nat) (k : Nat), m_n M - i < d → (i ≤ m_n M) → (k = cnt (pOf M v g) i) → ∀ (ls : Array Slot), lv_has ls 6 [(0, .ref (a 0)), (1, .int (nI (v))), (2, .long (g)), (4, .int (nI (k))), (5, .int (nI (i)))] → W p l e (headSpec wsX6_countIn rm_X6_countIn).room s m ([.ref (a 0), .int (nI (v)), .long (g)] : List Value).toArray below meth c s.heap [] (0) (0) (MQ below (vp_Si (fun rr => rr = nI (countIn M v g))) ([.ref (a 0), .int (nI (v)), .long (g)] : List Value).toArray s 0 0 (fun _ => False)) (F0 m 6 ls []) := by
    intro d
    induction d with
    | zero => intro i k  hd6; exact absurd hd6 (Nat.not_lt_zero _)
    | succ d ih6 =>
      intro i k  hd6 hik hk  ls hl
      have hcl := cnt_le (pOf M v g) i
      refine lv_iload hx hb dX6_countIn_6 (lv_at hl 4 rfl) ?_
      refine lv_aload_n hx hb dX6_countIn_8 rfl (lv_at hl 0 rfl) ?_
      refine va_get (ci := 6) (v := .int (nI (m_n M))) (C := RX6) (T := TX6) (N := 30) hx hb hts hiX6 hown hK hP 0 rfl rfl 1 (by decide) hf0 (fun _ h9 => h9) rfl dX6_countIn_9 ?_
      refine wn_icmp_ge (a := i) (b := m_n M) (tgt := 53) hx hb (nI_z (by omega)) (nI_z (by omega)) dX6_countIn_12 (by decide) (fun c12_1 => ?_) (fun c12_1 => ?_)
      · refine lv_iload hx hb dX6_countIn_53 (lv_at hl 3 rfl) ?_
        exact W.iret (v := nI (k)) hx hb hr (fun t ht hW => ⟨_, rfl, (by show nI k = nI (cnt (pOf M v g) (m_n M)); rw [hk, (show i = m_n M by omega)]), ht⟩) (fun q h => nomatch h) dX6_countIn_55
      · refine lv_iload hx hb dX6_countIn_15 (lv_at hl 3 rfl) ?_
        refine lv_aload_n hx hb dX6_countIn_17 rfl (lv_at hl 0 rfl) ?_
        refine lv_iload_n hx hb dX6_countIn_18 rfl (lv_at hl 1 rfl) ?_
        refine lv_iload hx hb dX6_countIn_19 (lv_at hl 4 rfl) ?_
        refine wc_Vi (As := [.int (nI (v)), .int (nI (i))]) (rest := [.int (nI (k))]) ⟨hx, hb, hml, hown, hts⟩ (c_X6_isIn l D cI cJ cZ a (th) (lds) M hM (v) (i) (by omega) (by omega)) (cwV 2 hts gX6_countIn_X6_isIn rfl rfl rfl (by decide +kernel) ⟨Nat.le_of_ble_eq_true rfl, Nat.le_of_ble_eq_true rfl⟩) hP hK 0 rfl rfl rfl hl.1 rfl (Nat.le_of_ble_eq_true rfl) dX6_countIn_21 ⟨Nat.zero_le _, Nat.zero_le _⟩ (fun rr hq2 => ?_)
        have hq2 : rr = bI (m_in M v i) := hq2
        subst hq2
        refine wb_if_eq (tgt := 43) hx hb dX6_countIn_24 (by decide) (fun c24_3 => ?_) (fun c24_3 => ?_)
        · refine lv_iconst (v := nI (0)) hx hb dX6_countIn_43 (by decide) ?_
          refine lv_iadd hx hb dX6_countIn_44 (ww_top (y := nI (k + 0)) (nI_addn _ _) ?_)
          refine lv_istore (lv' := [(4, .int (nI (k + 0))), (0, .ref (a 0)), (1, .int (nI (v))), (2, .long (g)), (5, .int (nI (i)))]) hx hb dX6_countIn_45 hl (by decide) rfl (fun ls hl => ?_)
          refine lv_iinc (v := nI (i + 1)) (lv' := [(5, .int (nI (i + 1))), (4, .int (nI (k + 0))), (0, .ref (a 0)), (1, .int (nI (v))), (2, .long (g))]) hx hb dX6_countIn_47 hl (k := 4) rfl (nI_inc _) (by decide) rfl (fun ls hl => ?_)
          refine lv_goto (tgt := 6) hx hb dX6_countIn_50 (by decide) ?_
          exact ih6 (i + 1) (k + 0)  (by omega) (by omega) (cnt_f hk (by simp [pOf, c12_1, c24_3]))  ls (lv_sub hl [2, 3, 4, 1, 0] rfl)
        · refine lv_aload_n hx hb dX6_countIn_27 rfl (lv_at hl 0 rfl) ?_
          refine va_get (ci := 6) (v := .ref (a 1)) (C := RX6) (T := TX6) (N := 30) hx hb hts hiX6 hown hK hP 0 rfl rfl 2 (by decide) hf1 (fun _ h9 => h9) rfl dX6_countIn_28 ?_
          refine lv_iload hx hb dX6_countIn_31 (lv_at hl 4 rfl) ?_
          refine wa_l (i := i) (v := m_grp M i) hx hb hK hP 1 1 rfl rfl rfl (by omega) (by decide) dX6_countIn_33 ?_
          refine lv_lload_n hx hb dX6_countIn_34 rfl (lv_at hl 2 rfl) ?_
          refine wl_ne (tgt := 43) hx hb dX6_countIn_35 dX6_countIn_36 (by decide) (fun c35_4 => ?_) (fun c35_4 => ?_)
          · refine lv_iconst (v := nI (0)) hx hb dX6_countIn_43 (by decide) ?_
            refine lv_iadd hx hb dX6_countIn_44 (ww_top (y := nI (k + 0)) (nI_addn _ _) ?_)
            refine lv_istore (lv' := [(4, .int (nI (k + 0))), (0, .ref (a 0)), (1, .int (nI (v))), (2, .long (g)), (5, .int (nI (i)))]) hx hb dX6_countIn_45 hl (by decide) rfl (fun ls hl => ?_)
            refine lv_iinc (v := nI (i + 1)) (lv' := [(5, .int (nI (i + 1))), (4, .int (nI (k + 0))), (0, .ref (a 0)), (1, .int (nI (v))), (2, .long (g))]) hx hb dX6_countIn_47 hl (k := 4) rfl (nI_inc _) (by decide) rfl (fun ls hl => ?_)
            refine lv_goto (tgt := 6) hx hb dX6_countIn_50 (by decide) ?_
            exact ih6 (i + 1) (k + 0)  (by omega) (by omega) (cnt_f hk (by simp [pOf, c12_1, c24_3, c35_4]))  ls (lv_sub hl [2, 3, 4, 1, 0] rfl)
          · refine lv_iconst (v := nI (1)) hx hb dX6_countIn_39 (by decide) ?_
            refine lv_goto (tgt := 44) hx hb dX6_countIn_40 (by decide) ?_
            refine lv_iadd hx hb dX6_countIn_44 (ww_top (y := nI (k + 1)) (nI_addn _ _) ?_)
            refine lv_istore (lv' := [(4, .int (nI (k + 1))), (0, .ref (a 0)), (1, .int (nI (v))), (2, .long (g)), (5, .int (nI (i)))]) hx hb dX6_countIn_45 hl (by decide) rfl (fun ls hl => ?_)
            refine lv_iinc (v := nI (i + 1)) (lv' := [(5, .int (nI (i + 1))), (4, .int (nI (k + 1))), (0, .ref (a 0)), (1, .int (nI (v))), (2, .long (g))]) hx hb dX6_countIn_47 hl (k := 4) rfl (nI_inc _) (by decide) rfl (fun ls hl => ?_)
            refine lv_goto (tgt := 6) hx hb dX6_countIn_50 (by decide) ?_
            exact ih6 (i + 1) (k + 1)  (by omega) (by omega) (cnt_t hk (by simp [pOf, c12_1, c24_3, c35_4]))  ls (lv_sub hl [2, 3, 4, 1, 0] rfl)
  exact hlp6 _ (0) (0)  (Nat.lt_succ_self _) (Nat.zero_le _) (rfl)  ls (lv_sub hl [2, 3, 4, 1, 0] rfl)
def rm_X6_isOfSlice : Room := { frames := 1, cells := 0, slots := 0, locals := 25 }
set_option maxHeartbeats 4000000 in
set_option maxRecDepth 100000 in
/-- whether an object is of a slice -/
theorem c_X6_isOfSlice (l : Launch) (D : va_G) (cI cJ cZ : ClassId) (a : Nat → Nat) (th : Nat) (lds : Nat → Bool) (M : MT) (hM : mOk M) (o mn wh : Nat) (ho : o < 300) (h0 : 0 < mn) (hmn : mn < 300) (hwh : wh < 300) : Met l yX6_isOfSlice wsX6_isOfSlice rm_X6_isOfSlice (va_Pc [.ref (a 0), .int (nI (o)), .int (nI (mn)), .int (nI (wh))] (GR D (tyW cI cJ cZ) (mW cI cJ cZ a (th) (lds) M))) (vp_Si (fun rr => rr = bI (sliceB M o mn wh))) 0 0 (fun _ => False) := by
  obtain ⟨hn, hsn, hvn, hrn, hpn, hnw, h_seg, h_la, h_st, h_vo, h_ko, h_sl, h_sc, h_kp, h_en, h_pg, hvo, hko, hsl, hsc⟩ := id hM
  refine Met.ofW (cc := cX6_isOfSlice) (maxL := 8) (ret := (some .boolean)) (by decide) rfl ?_
  intro p e s m args below meth c s₁ B hml hv
  obtain ⟨rfl, hP, hK⟩ := hv
  have hx := B.exec
  have hb := B.bytes
  have hr := B.returns
  have hts := atoms_spec (ws := wsX6_isOfSlice) B.pre
  have hown : s.vm.findClass RX6 = some m.cls := findClass_of_methodNamed B.named
  have hlocks := B.notSynchronized
  have hiX6 : ∀ w ∈ wsX60, w ∈ wsX6_isOfSlice := by decide +kernel
  have hf0 := hts (.fieldLink RX6 13 "GroupCursorsModel" "key" "[J") (by decide +kernel)
  have hf1 := hts (.constantLong RX6 181 (2)) (by decide +kernel)
  have hl := lv_entry ([.ref (a 0), .int (nI (o)), .int (nI (mn)), .int (nI (wh))]) (n := 8) (Nat.le_of_ble_eq_true rfl)
  rw [lg_entry_eq]
  generalize (lg_sl ([.ref (a 0), .int (nI (o)), .int (nI (mn)), .int (nI (wh))]) ++ List.replicate (8 - (lg_sl ([.ref (a 0), .int (nI (o)), .int (nI (mn)), .int (nI (wh))])).length) Slot.unset).toArray = ls at hl ⊢
  have hl : lv_has ls 8 [(0, .ref (a 0)), (1, .int (nI (o))), (2, .int (nI (mn))), (3, .int (nI (wh)))] := hl
  refine lv_aload_n hx hb dX6_isOfSlice_0 rfl (lv_at hl 0 rfl) ?_
  refine va_get (ci := 6) (v := .ref (a 2)) (C := RX6) (T := TX6) (N := 30) hx hb hts hiX6 hown hK hP 0 rfl rfl 3 (by decide) hf0 (fun _ h9 => h9) rfl dX6_isOfSlice_1 ?_
  refine lv_iload_n hx hb dX6_isOfSlice_4 rfl (lv_at hl 1 rfl) ?_
  refine wa_l (i := o) (v := m_key M o) hx hb hK hP 2 1 rfl rfl rfl (by omega) (by decide) dX6_isOfSlice_5 ?_
  refine lv_lconst (v := 0) hx hb dX6_isOfSlice_6 (by decide) ?_
  refine wc_Sl (As := [.long (m_key M o), .long (0)]) (rest := []) ⟨hx, hb, hml, hown, hts⟩ (c_X6_mix l D cI cJ cZ a (th) (lds) M hM (m_key M o) (0)) (va_cwS 2 hts gX6_isOfSlice_X6_mix rfl rfl rfl (by decide +kernel) ⟨Nat.le_of_ble_eq_true rfl, Nat.le_of_ble_eq_true rfl⟩) hP hK rfl hl.1 rfl (Nat.le_of_ble_eq_true rfl) dX6_isOfSlice_7 ⟨Nat.zero_le _, Nat.zero_le _⟩ (fun rr hq1 => ?_)
  have hq1 : rr = (mixv (m_key M o) (0)) := hq1
  subst hq1
  refine lv_lstore (lv' := [(4, .long ((mixv (m_key M o) (0)))), (0, .ref (a 0)), (1, .int (nI (o))), (2, .int (nI (mn))), (3, .int (nI (wh)))]) hx hb dX6_isOfSlice_10 hl (by decide) rfl (fun ls hl => ?_)
  refine lv_lload hx hb dX6_isOfSlice_12 (lv_at hl 0 rfl) ?_
  refine lv_iconst (v := nI (1)) hx hb dX6_isOfSlice_14 (by decide) ?_
  refine lv_lushr (v := ((mixv (m_key M o) (0)).toUInt64 >>> ((nI (1)).toInt64.toUInt64 &&& Int64.toUInt64 63)).toInt64) hx hb dX6_isOfSlice_15 rfl ?_
  refine lv_iload_n hx hb dX6_isOfSlice_16 rfl (lv_at hl 3 rfl) ?_
  refine lv_i2l (v := (nI (mn)).toInt64) hx hb dX6_isOfSlice_17 rfl ?_
  refine lv_lrem hx hb dX6_isOfSlice_18 (nIl_ne (by omega) (by omega)) ?_
  refine lv_ldc2 (v := (2)) hx hb hown hf1 dX6_isOfSlice_19 ?_
  refine lv_lmul hx hb dX6_isOfSlice_22 ?_
  refine lv_lload hx hb dX6_isOfSlice_23 (lv_at hl 0 rfl) ?_
  refine lv_lconst (v := 1) hx hb dX6_isOfSlice_25 (by decide) ?_
  refine lv_land hx hb dX6_isOfSlice_26 ?_
  refine lv_ladd hx hb dX6_isOfSlice_27 ?_
  refine lv_iload_n hx hb dX6_isOfSlice_28 rfl (lv_at hl 3 rfl) ?_
  refine lv_i2l (v := (nI (mn)).toInt64) hx hb dX6_isOfSlice_29 rfl ?_
  refine lv_lrem hx hb dX6_isOfSlice_30 (nIl_ne (by omega) (by omega)) ?_
  refine lv_lstore (lv' := [(6, .long (((((((mixv (m_key M o) (0)).toUInt64 >>> ((nI (1)).toInt64.toUInt64 &&& Int64.toUInt64 63)).toInt64 - ((mixv (m_key M o) (0)).toUInt64 >>> ((nI (1)).toInt64.toUInt64 &&& Int64.toUInt64 63)).toInt64 / (nI (mn)).toInt64 * (nI (mn)).toInt64) * (2)) + ((mixv (m_key M o) (0)) &&& 1)) - (((((mixv (m_key M o) (0)).toUInt64 >>> ((nI (1)).toInt64.toUInt64 &&& Int64.toUInt64 63)).toInt64 - ((mixv (m_key M o) (0)).toUInt64 >>> ((nI (1)).toInt64.toUInt64 &&& Int64.toUInt64 63)).toInt64 / (nI (mn)).toInt64 * (nI (mn)).toInt64) * (2)) + ((mixv (m_key M o) (0)) &&& 1)) / (nI (mn)).toInt64 * (nI (mn)).toInt64))), (4, .long ((mixv (m_key M o) (0)))), (0, .ref (a 0)), (1, .int (nI (o))), (2, .int (nI (mn))), (3, .int (nI (wh)))]) hx hb dX6_isOfSlice_31 hl (by decide) rfl (fun ls hl => ?_)
  refine lv_lload hx hb dX6_isOfSlice_33 (lv_at hl 0 rfl) ?_
  refine lv_iload_n hx hb dX6_isOfSlice_35 rfl (lv_at hl 5 rfl) ?_
  refine lv_i2l (v := (nI (wh)).toInt64) hx hb dX6_isOfSlice_36 rfl ?_
  refine wl_ne (tgt := 45) hx hb dX6_isOfSlice_37 dX6_isOfSlice_38 (by decide) (fun c37_2 => ?_) (fun c37_2 => ?_)
  · refine lv_iconst (v := nI (0)) hx hb dX6_isOfSlice_45 (by decide) ?_
    exact W.zret (v := nI (0)) hx hb hr rfl (fun t ht hW => ⟨_, rfl, (bI_ff (decide_eq_false c37_2)), ht⟩) (fun q h => nomatch h) dX6_isOfSlice_46
  · refine lv_iconst (v := nI (1)) hx hb dX6_isOfSlice_41 (by decide) ?_
    refine lv_goto (tgt := 46) hx hb dX6_isOfSlice_42 (by decide) ?_
    exact W.zret (v := nI (1)) hx hb hr rfl (fun t ht hW => ⟨_, rfl, (bI_tt (decide_eq_true c37_2)), ht⟩) (fun q h => nomatch h) dX6_isOfSlice_46
def rm_X6_following : Room := { frames := 2, cells := 0, slots := 0, locals := 54 }
set_option maxHeartbeats 4000000 in
set_option maxRecDepth 100000 in
/-- the first of a view (or group, or slice) behind an object -/
theorem c_X6_following (l : Launch) (D : va_G) (cI cJ cZ : ClassId) (a : Nat → Nat) (th : Nat) (lds : Nat → Bool) (M : MT) (hM : mOk M) (v kd : Nat) (sd : Int64) (bh : Int) (gd : Bool) (g : Int64) (mn wh : Nat) (hv : v < 30) (hkd : kd < 3) (hb1 : -1 ≤ bh) (hb2 : bh < 300) (hmn : mn < 300) (hwh : wh < 300) : Met l yX6_following wsX6_following rm_X6_following (va_Pc [.ref (a 0), .int (nI (v)), .int (nI (kd)), .long (sd), .int (zI (bh)), .int (bI (gd)), .long (g), .int (nI (mn)), .int (nI (wh))] (GR D (tyW cI cJ cZ) (mW cI cJ cZ a (th) (lds) M))) (vp_Si (fun rr => rr = zI (following M v kd sd bh gd g mn wh))) 0 0 (fun _ => False) := by
  obtain ⟨hn, hsn, hvn, hrn, hpn, hnw, h_seg, h_la, h_st, h_vo, h_ko, h_sl, h_sc, h_kp, h_en, h_pg, hvo, hko, hsl, hsc⟩ := id hM
  refine Met.ofW (cc := cX6_following) (maxL := 14) (ret := (some .int)) (by decide) rfl ?_
  intro p e s m args below meth c s₁ B hml hv
  obtain ⟨rfl, hP, hK⟩ := hv
  have hx := B.exec
  have hb := B.bytes
  have hr := B.returns
  have hts := atoms_spec (ws := wsX6_following) B.pre
  have hown : s.vm.findClass RX6 = some m.cls := findClass_of_methodNamed B.named
  have hlocks := B.notSynchronized
  have hiX6 : ∀ w ∈ wsX60, w ∈ wsX6_following := by decide +kernel
  have hf0 := hts (.fieldLink RX6 97 "GroupCursorsModel" "objects" "I") (by decide +kernel)
  have hf1 := hts (.fieldLink RX6 7 "GroupCursorsModel" "group" "[J") (by decide +kernel)
  have hl := lv_entry ([.ref (a 0), .int (nI (v)), .int (nI (kd)), .long (sd), .int (zI (bh)), .int (bI (gd)), .long (g), .int (nI (mn)), .int (nI (wh))]) (n := 14) (Nat.le_of_ble_eq_true rfl)
  rw [lg_entry_eq]
  generalize (lg_sl ([.ref (a 0), .int (nI (v)), .int (nI (kd)), .long (sd), .int (zI (bh)), .int (bI (gd)), .long (g), .int (nI (mn)), .int (nI (wh))]) ++ List.replicate (14 - (lg_sl ([.ref (a 0), .int (nI (v)), .int (nI (kd)), .long (sd), .int (zI (bh)), .int (bI (gd)), .long (g), .int (nI (mn)), .int (nI (wh))])).length) Slot.unset).toArray = ls at hl ⊢
  have hl : lv_has ls 14 [(0, .ref (a 0)), (1, .int (nI (v))), (2, .int (nI (kd))), (3, .long (sd)), (5, .int (zI (bh))), (6, .int (bI (gd))), (7, .long (g)), (9, .int (nI (mn))), (10, .int (nI (wh)))] := hl
  refine lv_iconst (v := zI ((-1))) hx hb dX6_following_0 (by decide) ?_
  refine lv_istore (lv' := [(11, .int (zI ((-1)))), (0, .ref (a 0)), (1, .int (nI (v))), (2, .int (nI (kd))), (3, .long (sd)), (5, .int (zI (bh))), (6, .int (bI (gd))), (7, .long (g)), (9, .int (nI (mn))), (10, .int (nI (wh)))]) hx hb dX6_following_1 hl (by decide) rfl (fun ls hl => ?_)
  refine lv_iconst (v := nI (0)) hx hb dX6_following_3 (by decide) ?_
  refine lv_istore (lv' := [(12, .int (nI (0))), (11, .int (zI ((-1)))), (0, .ref (a 0)), (1, .int (nI (v))), (2, .int (nI (kd))), (3, .long (sd)), (5, .int (zI (bh))), (6, .int (bI (gd))), (7, .long (g)), (9, .int (nI (mn))), (10, .int (nI (wh)))]) hx hb dX6_following_4 hl (by decide) rfl (fun ls hl => ?_)
  have hlp6 : ∀ (d : Nat) (i : Nat) (b : Int), m_n M - i < d → (i ≤ m_n M) → (b = folB M v kd sd bh gd g mn wh i) → ∀ (ls : Array Slot), lv_has ls 14 [(0, .ref (a 0)), (1, .int (nI (v))), (2, .int (nI (kd))), (3, .long (sd)), (5, .int (zI (bh))), (6, .int (bI (gd))), (7, .long (g)), (9, .int (nI (mn))), (10, .int (nI (wh))), (11, .int (zI (b))), (12, .int (nI (i)))] → W p l e (headSpec wsX6_following rm_X6_following).room s m ([.ref (a 0), .int (nI (v)), .int (nI (kd)), .long (sd), .int (zI (bh)), .int (bI (gd)), .long (g), .int (nI (mn)), .int (nI (wh))] : List Value).toArray below meth c s.heap [] (0) (0) (MQ below (vp_Si (fun rr => rr = zI (following M v kd sd bh gd g mn wh))) ([.ref (a 0), .int (nI (v)), .int (nI (kd)), .long (sd), .int (zI (bh)), .int (bI (gd)), .long (g), .int (nI (mn)), .int (nI (wh))] : List Value).toArray s 0 0 (fun _ => False)) (F0 m 6 ls []) := by
    intro d
    induction d with
    | zero => intro i b  hd6; exact absurd hd6 (Nat.not_lt_zero _)
    | succ d ih6 =>
      intro i b  hd6 hik hbk  ls hl
      have hbi := folB_in M v kd sd bh gd g mn wh i
      rw [← hbk] at hbi
      refine lv_iload hx hb dX6_following_6 (lv_at hl 10 rfl) ?_
      refine lv_aload_n hx hb dX6_following_8 rfl (lv_at hl 0 rfl) ?_
      refine va_get (ci := 6) (v := .int (nI (m_n M))) (C := RX6) (T := TX6) (N := 30) hx hb hts hiX6 hown hK hP 0 rfl rfl 1 (by decide) hf0 (fun _ h9 => h9) rfl dX6_following_9 ?_
      refine wn_icmp_ge (a := i) (b := m_n M) (tgt := 119) hx hb (nI_z (by omega)) (nI_z (by omega)) dX6_following_12 (by decide) (fun c12_1 => ?_) (fun c12_1 => ?_)
      · refine lv_iload hx hb dX6_following_119 (lv_at hl 9 rfl) ?_
        exact W.iret (v := zI (b)) hx hb hr (fun t ht hW => ⟨_, rfl, (by rw [following, hbk, (show i = m_n M by omega)]), ht⟩) (fun q h => nomatch h) dX6_following_121
      · have hct66 : ∀ (bb : Bool), (bb = pFol M v gd g mn wh i) → ∀ (ls : Array Slot), lv_has ls 14 [(0, .ref (a 0)), (1, .int (nI (v))), (2, .int (nI (kd))), (3, .long (sd)), (5, .int (zI (bh))), (6, .int (bI (gd))), (7, .long (g)), (9, .int (nI (mn))), (10, .int (nI (wh))), (11, .int (zI (b))), (12, .int (nI (i)))] → W p l e (headSpec wsX6_following rm_X6_following).room s m ([.ref (a 0), .int (nI (v)), .int (nI (kd)), .long (sd), .int (zI (bh)), .int (bI (gd)), .long (g), .int (nI (mn)), .int (nI (wh))] : List Value).toArray below meth c s.heap [] (0) (0) (MQ below (vp_Si (fun rr => rr = zI (following M v kd sd bh gd g mn wh))) ([.ref (a 0), .int (nI (v)), .int (nI (kd)), .long (sd), .int (zI (bh)), .int (bI (gd)), .long (g), .int (nI (mn)), .int (nI (wh))] : List Value).toArray s 0 0 (fun _ => False)) (F0 m 66 ls [.int (bI (bb))]) := by
          intro bb his ls hl
          refine lv_istore (lv' := [(13, .int (bI (bb))), (0, .ref (a 0)), (1, .int (nI (v))), (2, .int (nI (kd))), (3, .long (sd)), (5, .int (zI (bh))), (6, .int (bI (gd))), (7, .long (g)), (9, .int (nI (mn))), (10, .int (nI (wh))), (11, .int (zI (b))), (12, .int (nI (i)))]) hx hb dX6_following_66 hl (by decide) rfl (fun ls hl => ?_)
          refine lv_iload hx hb dX6_following_68 (lv_at hl 0 rfl) ?_
          refine wb_if_eq (tgt := 113) hx hb dX6_following_70 (by decide) (fun c70_2 => ?_) (fun c70_2 => ?_)
          · refine lv_iinc (v := nI (i + 1)) (lv' := [(12, .int (nI (i + 1))), (13, .int (bI (bb))), (0, .ref (a 0)), (1, .int (nI (v))), (2, .int (nI (kd))), (3, .long (sd)), (5, .int (zI (bh))), (6, .int (bI (gd))), (7, .long (g)), (9, .int (nI (mn))), (10, .int (nI (wh))), (11, .int (zI (b)))]) hx hb dX6_following_113 hl (k := 11) rfl (nI_inc _) (by decide) rfl (fun ls hl => ?_)
            refine lv_goto (tgt := 6) hx hb dX6_following_116 (by decide) ?_
            exact ih6 (i + 1) ((b : Int))  (by omega) (by omega) (by simp only [folB, ← hbk]; rw [if_neg (by simp [← his, c70_2])])  ls (lv_sub hl [2, 3, 4, 5, 6, 7, 8, 9, 10, 11, 0] rfl)
          · refine lv_iload hx hb dX6_following_73 (lv_at hl 5 rfl) ?_
            refine wz_if_lt (tgt := 91) hx hb ((bh : Int)) (zI_toInt (by omega) (by omega)) dX6_following_75 (by decide) (fun c75_3 => ?_) (fun c75_3 => ?_)
            · refine lv_iload hx hb dX6_following_91 (lv_at hl 10 rfl) ?_
              refine wz_if_lt (tgt := 109) hx hb ((b : Int)) (zI_toInt (by omega) (by omega)) dX6_following_93 (by decide) (fun c93_4 => ?_) (fun c93_4 => ?_)
              · refine lv_iload hx hb dX6_following_109 (lv_at hl 11 rfl) ?_
                refine ww_top (y := zI ((i : Int))) ((zI_n i).symm) ?_
                refine lv_istore (lv' := [(11, .int (zI ((i : Int)))), (13, .int (bI (bb))), (0, .ref (a 0)), (1, .int (nI (v))), (2, .int (nI (kd))), (3, .long (sd)), (5, .int (zI (bh))), (6, .int (bI (gd))), (7, .long (g)), (9, .int (nI (mn))), (10, .int (nI (wh))), (12, .int (nI (i)))]) hx hb dX6_following_111 hl (by decide) rfl (fun ls hl => ?_)
                refine lv_iinc (v := nI (i + 1)) (lv' := [(12, .int (nI (i + 1))), (11, .int (zI ((i : Int)))), (13, .int (bI (bb))), (0, .ref (a 0)), (1, .int (nI (v))), (2, .int (nI (kd))), (3, .long (sd)), (5, .int (zI (bh))), (6, .int (bI (gd))), (7, .long (g)), (9, .int (nI (mn))), (10, .int (nI (wh)))]) hx hb dX6_following_113 hl (k := 11) rfl (nI_inc _) (by decide) rfl (fun ls hl => ?_)
                refine lv_goto (tgt := 6) hx hb dX6_following_116 (by decide) ?_
                exact ih6 (i + 1) (((i : Int) : Int))  (by omega) (by omega) (by simp only [folB, ← hbk]; rw [if_pos (by simp [← his, c70_2, c75_3, c93_4])])  ls (lv_sub hl [3, 4, 5, 6, 7, 8, 9, 10, 11, 1, 0] rfl)
              · refine lv_aload_n hx hb dX6_following_96 rfl (lv_at hl 1 rfl) ?_
                refine lv_iload hx hb dX6_following_97 (lv_at hl 11 rfl) ?_
                refine lv_iload hx hb dX6_following_99 (lv_at hl 10 rfl) ?_
                refine ww_top (y := nI (b.toNat)) (zI_toNat (by omega)) ?_
                refine lv_iload_n hx hb dX6_following_101 rfl (lv_at hl 3 rfl) ?_
                refine lv_lload_n hx hb dX6_following_102 rfl (lv_at hl 4 rfl) ?_
                refine wc_Vi (As := [.int (nI (i)), .int (nI (b.toNat)), .int (nI (kd)), .long (sd)]) (rest := []) ⟨hx, hb, hml, hown, hts⟩ (c_X6_isAhead l D cI cJ cZ a (th) (lds) M hM (i) (b.toNat) (kd) (sd) (by omega) (by omega) (by omega)) (cwV 4 hts gX6_following_X6_isAhead rfl rfl rfl (by decide +kernel) ⟨Nat.le_of_ble_eq_true rfl, Nat.le_of_ble_eq_true rfl⟩) hP hK 0 rfl rfl rfl hl.1 rfl (Nat.le_of_ble_eq_true rfl) dX6_following_103 ⟨Nat.zero_le _, Nat.zero_le _⟩ (fun rr hq5 => ?_)
                have hq5 : rr = bI (aheadB M kd (sd) i (b.toNat)) := hq5
                subst hq5
                refine wb_if_eq (tgt := 113) hx hb dX6_following_106 (by decide) (fun c106_6 => ?_) (fun c106_6 => ?_)
                · refine lv_iinc (v := nI (i + 1)) (lv' := [(12, .int (nI (i + 1))), (13, .int (bI (bb))), (0, .ref (a 0)), (1, .int (nI (v))), (2, .int (nI (kd))), (3, .long (sd)), (5, .int (zI (bh))), (6, .int (bI (gd))), (7, .long (g)), (9, .int (nI (mn))), (10, .int (nI (wh))), (11, .int (zI (b)))]) hx hb dX6_following_113 hl (k := 11) rfl (nI_inc _) (by decide) rfl (fun ls hl => ?_)
                  refine lv_goto (tgt := 6) hx hb dX6_following_116 (by decide) ?_
                  exact ih6 (i + 1) ((b : Int))  (by omega) (by omega) (by simp only [folB, ← hbk]; rw [if_neg (by simp [← his, c70_2, c75_3, Int.not_lt.mpr c93_4, c106_6])])  ls (lv_sub hl [2, 3, 4, 5, 6, 7, 8, 9, 10, 11, 0] rfl)
                · refine lv_iload hx hb dX6_following_109 (lv_at hl 11 rfl) ?_
                  refine ww_top (y := zI ((i : Int))) ((zI_n i).symm) ?_
                  refine lv_istore (lv' := [(11, .int (zI ((i : Int)))), (13, .int (bI (bb))), (0, .ref (a 0)), (1, .int (nI (v))), (2, .int (nI (kd))), (3, .long (sd)), (5, .int (zI (bh))), (6, .int (bI (gd))), (7, .long (g)), (9, .int (nI (mn))), (10, .int (nI (wh))), (12, .int (nI (i)))]) hx hb dX6_following_111 hl (by decide) rfl (fun ls hl => ?_)
                  refine lv_iinc (v := nI (i + 1)) (lv' := [(12, .int (nI (i + 1))), (11, .int (zI ((i : Int)))), (13, .int (bI (bb))), (0, .ref (a 0)), (1, .int (nI (v))), (2, .int (nI (kd))), (3, .long (sd)), (5, .int (zI (bh))), (6, .int (bI (gd))), (7, .long (g)), (9, .int (nI (mn))), (10, .int (nI (wh)))]) hx hb dX6_following_113 hl (k := 11) rfl (nI_inc _) (by decide) rfl (fun ls hl => ?_)
                  refine lv_goto (tgt := 6) hx hb dX6_following_116 (by decide) ?_
                  exact ih6 (i + 1) (((i : Int) : Int))  (by omega) (by omega) (by simp only [folB, ← hbk]; rw [if_pos (by simp [← his, c70_2, c75_3, Int.not_lt.mpr c93_4, c106_6])])  ls (lv_sub hl [3, 4, 5, 6, 7, 8, 9, 10, 11, 1, 0] rfl)
            · refine lv_aload_n hx hb dX6_following_78 rfl (lv_at hl 1 rfl) ?_
              refine lv_iload hx hb dX6_following_79 (lv_at hl 5 rfl) ?_
              refine ww_top (y := nI (bh.toNat)) (zI_toNat (by omega)) ?_
              refine lv_iload hx hb dX6_following_81 (lv_at hl 11 rfl) ?_
              refine lv_iload_n hx hb dX6_following_83 rfl (lv_at hl 3 rfl) ?_
              refine lv_lload_n hx hb dX6_following_84 rfl (lv_at hl 4 rfl) ?_
              refine wc_Vi (As := [.int (nI (bh.toNat)), .int (nI (i)), .int (nI (kd)), .long (sd)]) (rest := []) ⟨hx, hb, hml, hown, hts⟩ (c_X6_isAhead l D cI cJ cZ a (th) (lds) M hM (bh.toNat) (i) (kd) (sd) (by omega) (by omega) (by omega)) (cwV 4 hts gX6_following_X6_isAhead rfl rfl rfl (by decide +kernel) ⟨Nat.le_of_ble_eq_true rfl, Nat.le_of_ble_eq_true rfl⟩) hP hK 0 rfl rfl rfl hl.1 rfl (Nat.le_of_ble_eq_true rfl) dX6_following_85 ⟨Nat.zero_le _, Nat.zero_le _⟩ (fun rr hq7 => ?_)
              have hq7 : rr = bI (aheadB M kd (sd) (bh.toNat) i) := hq7
              subst hq7
              refine wb_if_eq (tgt := 113) hx hb dX6_following_88 (by decide) (fun c88_8 => ?_) (fun c88_8 => ?_)
              · refine lv_iinc (v := nI (i + 1)) (lv' := [(12, .int (nI (i + 1))), (13, .int (bI (bb))), (0, .ref (a 0)), (1, .int (nI (v))), (2, .int (nI (kd))), (3, .long (sd)), (5, .int (zI (bh))), (6, .int (bI (gd))), (7, .long (g)), (9, .int (nI (mn))), (10, .int (nI (wh))), (11, .int (zI (b)))]) hx hb dX6_following_113 hl (k := 11) rfl (nI_inc _) (by decide) rfl (fun ls hl => ?_)
                refine lv_goto (tgt := 6) hx hb dX6_following_116 (by decide) ?_
                exact ih6 (i + 1) ((b : Int))  (by omega) (by omega) (by simp only [folB, ← hbk]; rw [if_neg (by simp [← his, c70_2, Int.not_lt.mpr c75_3, c88_8])])  ls (lv_sub hl [2, 3, 4, 5, 6, 7, 8, 9, 10, 11, 0] rfl)
              · refine lv_iload hx hb dX6_following_91 (lv_at hl 10 rfl) ?_
                refine wz_if_lt (tgt := 109) hx hb ((b : Int)) (zI_toInt (by omega) (by omega)) dX6_following_93 (by decide) (fun c93_9 => ?_) (fun c93_9 => ?_)
                · refine lv_iload hx hb dX6_following_109 (lv_at hl 11 rfl) ?_
                  refine ww_top (y := zI ((i : Int))) ((zI_n i).symm) ?_
                  refine lv_istore (lv' := [(11, .int (zI ((i : Int)))), (13, .int (bI (bb))), (0, .ref (a 0)), (1, .int (nI (v))), (2, .int (nI (kd))), (3, .long (sd)), (5, .int (zI (bh))), (6, .int (bI (gd))), (7, .long (g)), (9, .int (nI (mn))), (10, .int (nI (wh))), (12, .int (nI (i)))]) hx hb dX6_following_111 hl (by decide) rfl (fun ls hl => ?_)
                  refine lv_iinc (v := nI (i + 1)) (lv' := [(12, .int (nI (i + 1))), (11, .int (zI ((i : Int)))), (13, .int (bI (bb))), (0, .ref (a 0)), (1, .int (nI (v))), (2, .int (nI (kd))), (3, .long (sd)), (5, .int (zI (bh))), (6, .int (bI (gd))), (7, .long (g)), (9, .int (nI (mn))), (10, .int (nI (wh)))]) hx hb dX6_following_113 hl (k := 11) rfl (nI_inc _) (by decide) rfl (fun ls hl => ?_)
                  refine lv_goto (tgt := 6) hx hb dX6_following_116 (by decide) ?_
                  exact ih6 (i + 1) (((i : Int) : Int))  (by omega) (by omega) (by simp only [folB, ← hbk]; rw [if_pos (by simp [← his, c70_2, Int.not_lt.mpr c75_3, c88_8, c93_9])])  ls (lv_sub hl [3, 4, 5, 6, 7, 8, 9, 10, 11, 1, 0] rfl)
                · refine lv_aload_n hx hb dX6_following_96 rfl (lv_at hl 1 rfl) ?_
                  refine lv_iload hx hb dX6_following_97 (lv_at hl 11 rfl) ?_
                  refine lv_iload hx hb dX6_following_99 (lv_at hl 10 rfl) ?_
                  refine ww_top (y := nI (b.toNat)) (zI_toNat (by omega)) ?_
                  refine lv_iload_n hx hb dX6_following_101 rfl (lv_at hl 3 rfl) ?_
                  refine lv_lload_n hx hb dX6_following_102 rfl (lv_at hl 4 rfl) ?_
                  refine wc_Vi (As := [.int (nI (i)), .int (nI (b.toNat)), .int (nI (kd)), .long (sd)]) (rest := []) ⟨hx, hb, hml, hown, hts⟩ (c_X6_isAhead l D cI cJ cZ a (th) (lds) M hM (i) (b.toNat) (kd) (sd) (by omega) (by omega) (by omega)) (cwV 4 hts gX6_following_X6_isAhead rfl rfl rfl (by decide +kernel) ⟨Nat.le_of_ble_eq_true rfl, Nat.le_of_ble_eq_true rfl⟩) hP hK 0 rfl rfl rfl hl.1 rfl (Nat.le_of_ble_eq_true rfl) dX6_following_103 ⟨Nat.zero_le _, Nat.zero_le _⟩ (fun rr hq10 => ?_)
                  have hq10 : rr = bI (aheadB M kd (sd) i (b.toNat)) := hq10
                  subst hq10
                  refine wb_if_eq (tgt := 113) hx hb dX6_following_106 (by decide) (fun c106_11 => ?_) (fun c106_11 => ?_)
                  · refine lv_iinc (v := nI (i + 1)) (lv' := [(12, .int (nI (i + 1))), (13, .int (bI (bb))), (0, .ref (a 0)), (1, .int (nI (v))), (2, .int (nI (kd))), (3, .long (sd)), (5, .int (zI (bh))), (6, .int (bI (gd))), (7, .long (g)), (9, .int (nI (mn))), (10, .int (nI (wh))), (11, .int (zI (b)))]) hx hb dX6_following_113 hl (k := 11) rfl (nI_inc _) (by decide) rfl (fun ls hl => ?_)
                    refine lv_goto (tgt := 6) hx hb dX6_following_116 (by decide) ?_
                    exact ih6 (i + 1) ((b : Int))  (by omega) (by omega) (by simp only [folB, ← hbk]; rw [if_neg (by simp [← his, c70_2, Int.not_lt.mpr c75_3, c88_8, Int.not_lt.mpr c93_9, c106_11])])  ls (lv_sub hl [2, 3, 4, 5, 6, 7, 8, 9, 10, 11, 0] rfl)
                  · refine lv_iload hx hb dX6_following_109 (lv_at hl 11 rfl) ?_
                    refine ww_top (y := zI ((i : Int))) ((zI_n i).symm) ?_
                    refine lv_istore (lv' := [(11, .int (zI ((i : Int)))), (13, .int (bI (bb))), (0, .ref (a 0)), (1, .int (nI (v))), (2, .int (nI (kd))), (3, .long (sd)), (5, .int (zI (bh))), (6, .int (bI (gd))), (7, .long (g)), (9, .int (nI (mn))), (10, .int (nI (wh))), (12, .int (nI (i)))]) hx hb dX6_following_111 hl (by decide) rfl (fun ls hl => ?_)
                    refine lv_iinc (v := nI (i + 1)) (lv' := [(12, .int (nI (i + 1))), (11, .int (zI ((i : Int)))), (13, .int (bI (bb))), (0, .ref (a 0)), (1, .int (nI (v))), (2, .int (nI (kd))), (3, .long (sd)), (5, .int (zI (bh))), (6, .int (bI (gd))), (7, .long (g)), (9, .int (nI (mn))), (10, .int (nI (wh)))]) hx hb dX6_following_113 hl (k := 11) rfl (nI_inc _) (by decide) rfl (fun ls hl => ?_)
                    refine lv_goto (tgt := 6) hx hb dX6_following_116 (by decide) ?_
                    exact ih6 (i + 1) (((i : Int) : Int))  (by omega) (by omega) (by simp only [folB, ← hbk]; rw [if_pos (by simp [← his, c70_2, Int.not_lt.mpr c75_3, c88_8, Int.not_lt.mpr c93_9, c106_11])])  ls (lv_sub hl [3, 4, 5, 6, 7, 8, 9, 10, 11, 1, 0] rfl)
        refine lv_aload_n hx hb dX6_following_15 rfl (lv_at hl 0 rfl) ?_
        refine lv_iload_n hx hb dX6_following_16 rfl (lv_at hl 1 rfl) ?_
        refine lv_iload hx hb dX6_following_17 (lv_at hl 10 rfl) ?_
        refine wc_Vi (As := [.int (nI (v)), .int (nI (i))]) (rest := []) ⟨hx, hb, hml, hown, hts⟩ (c_X6_isIn l D cI cJ cZ a (th) (lds) M hM (v) (i) (by omega) (by omega)) (cwV 2 hts gX6_following_X6_isIn rfl rfl rfl (by decide +kernel) ⟨Nat.le_of_ble_eq_true rfl, Nat.le_of_ble_eq_true rfl⟩) hP hK 0 rfl rfl rfl hl.1 rfl (Nat.le_of_ble_eq_true rfl) dX6_following_19 ⟨Nat.zero_le _, Nat.zero_le _⟩ (fun rr hq12 => ?_)
        have hq12 : rr = bI (m_in M v i) := hq12
        subst hq12
        refine wb_if_eq (tgt := 65) hx hb dX6_following_22 (by decide) (fun c22_13 => ?_) (fun c22_13 => ?_)
        · refine lv_iconst (v := nI (0)) hx hb dX6_following_65 (by decide) ?_
          refine ww_top (y := bI false) rfl ?_
          exact hct66 (false) (by simp [pFol, c22_13]) ls (lv_sub hl [0, 1, 2, 3, 4, 5, 6, 7, 8, 9, 10] rfl)
        · refine lv_iload hx hb dX6_following_25 (lv_at hl 5 rfl) ?_
          refine wb_if_eq (tgt := 43) hx hb dX6_following_27 (by decide) (fun c27_14 => ?_) (fun c27_14 => ?_)
          · refine lv_iload hx hb dX6_following_43 (lv_at hl 7 rfl) ?_
            refine wn_if_eq (a := mn) (tgt := 61) hx hb (nI_z (by omega)) dX6_following_45 (by decide) (fun c45_15 => ?_) (fun c45_15 => ?_)
            · refine lv_iconst (v := nI (1)) hx hb dX6_following_61 (by decide) ?_
              refine lv_goto (tgt := 66) hx hb dX6_following_62 (by decide) ?_
              refine ww_top (y := bI true) rfl ?_
              exact hct66 (true) (by simp [pFol, c22_13, c27_14, c45_15]) ls (lv_sub hl [0, 1, 2, 3, 4, 5, 6, 7, 8, 9, 10] rfl)
            · refine lv_aload_n hx hb dX6_following_48 rfl (lv_at hl 0 rfl) ?_
              refine lv_iload hx hb dX6_following_49 (lv_at hl 10 rfl) ?_
              refine lv_iload hx hb dX6_following_51 (lv_at hl 7 rfl) ?_
              refine lv_iload hx hb dX6_following_53 (lv_at hl 8 rfl) ?_
              refine wc_Vi (As := [.int (nI (i)), .int (nI (mn)), .int (nI (wh))]) (rest := []) ⟨hx, hb, hml, hown, hts⟩ (c_X6_isOfSlice l D cI cJ cZ a (th) (lds) M hM (i) (mn) (wh) (by omega) (by omega) (by omega) (by omega)) (cwV 3 hts gX6_following_X6_isOfSlice rfl rfl rfl (by decide +kernel) ⟨Nat.le_of_ble_eq_true rfl, Nat.le_of_ble_eq_true rfl⟩) hP hK 0 rfl rfl rfl hl.1 rfl (Nat.le_of_ble_eq_true rfl) dX6_following_55 ⟨Nat.zero_le _, Nat.zero_le _⟩ (fun rr hq16 => ?_)
              have hq16 : rr = bI (sliceB M i mn wh) := hq16
              subst hq16
              refine wb_if_eq (tgt := 65) hx hb dX6_following_58 (by decide) (fun c58_17 => ?_) (fun c58_17 => ?_)
              · refine lv_iconst (v := nI (0)) hx hb dX6_following_65 (by decide) ?_
                refine ww_top (y := bI false) rfl ?_
                exact hct66 (false) (by simp [pFol, c22_13, c27_14, c45_15, c58_17, show ¬ mn = 0 by omega]) ls (lv_sub hl [0, 1, 2, 3, 4, 5, 6, 7, 8, 9, 10] rfl)
              · refine lv_iconst (v := nI (1)) hx hb dX6_following_61 (by decide) ?_
                refine lv_goto (tgt := 66) hx hb dX6_following_62 (by decide) ?_
                refine ww_top (y := bI true) rfl ?_
                exact hct66 (true) (by simp [pFol, c22_13, c27_14, c45_15, c58_17, show ¬ mn = 0 by omega]) ls (lv_sub hl [0, 1, 2, 3, 4, 5, 6, 7, 8, 9, 10] rfl)
          · refine lv_aload_n hx hb dX6_following_30 rfl (lv_at hl 0 rfl) ?_
            refine va_get (ci := 6) (v := .ref (a 1)) (C := RX6) (T := TX6) (N := 30) hx hb hts hiX6 hown hK hP 0 rfl rfl 2 (by decide) hf1 (fun _ h9 => h9) rfl dX6_following_31 ?_
            refine lv_iload hx hb dX6_following_34 (lv_at hl 10 rfl) ?_
            refine wa_l (i := i) (v := m_grp M i) hx hb hK hP 1 1 rfl rfl rfl (by omega) (by decide) dX6_following_36 ?_
            refine lv_lload hx hb dX6_following_37 (lv_at hl 6 rfl) ?_
            refine wl_ne (tgt := 65) hx hb dX6_following_39 dX6_following_40 (by decide) (fun c39_18 => ?_) (fun c39_18 => ?_)
            · refine lv_iconst (v := nI (0)) hx hb dX6_following_65 (by decide) ?_
              refine ww_top (y := bI false) rfl ?_
              exact hct66 (false) (by simp [pFol, c22_13, c27_14, c39_18]) ls (lv_sub hl [0, 1, 2, 3, 4, 5, 6, 7, 8, 9, 10] rfl)
            · refine lv_iload hx hb dX6_following_43 (lv_at hl 7 rfl) ?_
              refine wn_if_eq (a := mn) (tgt := 61) hx hb (nI_z (by omega)) dX6_following_45 (by decide) (fun c45_19 => ?_) (fun c45_19 => ?_)
              · refine lv_iconst (v := nI (1)) hx hb dX6_following_61 (by decide) ?_
                refine lv_goto (tgt := 66) hx hb dX6_following_62 (by decide) ?_
                refine ww_top (y := bI true) rfl ?_
                exact hct66 (true) (by simp [pFol, c22_13, c27_14, c39_18, c45_19]) ls (lv_sub hl [0, 1, 2, 3, 4, 5, 6, 7, 8, 9, 10] rfl)
              · refine lv_aload_n hx hb dX6_following_48 rfl (lv_at hl 0 rfl) ?_
                refine lv_iload hx hb dX6_following_49 (lv_at hl 10 rfl) ?_
                refine lv_iload hx hb dX6_following_51 (lv_at hl 7 rfl) ?_
                refine lv_iload hx hb dX6_following_53 (lv_at hl 8 rfl) ?_
                refine wc_Vi (As := [.int (nI (i)), .int (nI (mn)), .int (nI (wh))]) (rest := []) ⟨hx, hb, hml, hown, hts⟩ (c_X6_isOfSlice l D cI cJ cZ a (th) (lds) M hM (i) (mn) (wh) (by omega) (by omega) (by omega) (by omega)) (cwV 3 hts gX6_following_X6_isOfSlice rfl rfl rfl (by decide +kernel) ⟨Nat.le_of_ble_eq_true rfl, Nat.le_of_ble_eq_true rfl⟩) hP hK 0 rfl rfl rfl hl.1 rfl (Nat.le_of_ble_eq_true rfl) dX6_following_55 ⟨Nat.zero_le _, Nat.zero_le _⟩ (fun rr hq20 => ?_)
                have hq20 : rr = bI (sliceB M i mn wh) := hq20
                subst hq20
                refine wb_if_eq (tgt := 65) hx hb dX6_following_58 (by decide) (fun c58_21 => ?_) (fun c58_21 => ?_)
                · refine lv_iconst (v := nI (0)) hx hb dX6_following_65 (by decide) ?_
                  refine ww_top (y := bI false) rfl ?_
                  exact hct66 (false) (by simp [pFol, c22_13, c27_14, c39_18, c45_19, c58_21, show ¬ mn = 0 by omega]) ls (lv_sub hl [0, 1, 2, 3, 4, 5, 6, 7, 8, 9, 10] rfl)
                · refine lv_iconst (v := nI (1)) hx hb dX6_following_61 (by decide) ?_
                  refine lv_goto (tgt := 66) hx hb dX6_following_62 (by decide) ?_
                  refine ww_top (y := bI true) rfl ?_
                  exact hct66 (true) (by simp [pFol, c22_13, c27_14, c39_18, c45_19, c58_21, show ¬ mn = 0 by omega]) ls (lv_sub hl [0, 1, 2, 3, 4, 5, 6, 7, 8, 9, 10] rfl)
  exact hlp6 _ (0) (((-1) : Int))  (Nat.lt_succ_self _) (Nat.zero_le _) (rfl)  ls (lv_sub hl [2, 3, 4, 5, 6, 7, 8, 9, 10, 1, 0] rfl)
def rm_X6_nextOf : Room := { frames := 3, cells := 0, slots := 0, locals := 87 }
set_option maxHeartbeats 4000000 in
set_option maxRecDepth 100000 in
/-- the next of a reader -/
theorem c_X6_nextOf (l : Launch) (D : va_G) (cI cJ cZ : ClassId) (a : Nat → Nat) (th : Nat) (lds : Nat → Bool) (M : MT) (hM : mOk M) (r : Nat) (hr1 : r < 60) : Met l yX6_nextOf wsX6_nextOf rm_X6_nextOf (va_Pc [.ref (a 0), .int (nI (r))] (GR D (tyW cI cJ cZ) (mW cI cJ cZ a (th) (lds) M))) (vp_Si (fun rr => rr = zI (nextOf M r))) 0 0 (fun _ => False) := by
  obtain ⟨hn, hsn, hvn, hrn, hpn, hnw, h_seg, h_la, h_st, h_vo, h_ko, h_sl, h_sc, h_kp, h_en, h_pg, hvo, hko, hsl, hsc⟩ := id hM
  have q1 := hvo r
  have q2 := hko r
  have q3 := hsl r
  have q4 := hsc r
  have q5 := h_la r
  refine Met.ofW (cc := cX6_nextOf) (maxL := 2) (ret := (some .int)) (by decide) rfl ?_
  intro p e s m args below meth c s₁ B hml hv
  obtain ⟨rfl, hP, hK⟩ := hv
  have hx := B.exec
  have hb := B.bytes
  have hr := B.returns
  have hts := atoms_spec (ws := wsX6_nextOf) B.pre
  have hown : s.vm.findClass RX6 = some m.cls := findClass_of_methodNamed B.named
  have hlocks := B.notSynchronized
  have hiX6 : ∀ w ∈ wsX60, w ∈ wsX6_nextOf := by decide +kernel
  have hf0 := hts (.fieldLink RX6 39 "GroupCursorsModel" "viewOf" "[I") (by decide +kernel)
  have hf1 := hts (.fieldLink RX6 42 "GroupCursorsModel" "kindOf" "[I") (by decide +kernel)
  have hf2 := hts (.fieldLink RX6 45 "GroupCursorsModel" "seedOf" "[J") (by decide +kernel)
  have hf3 := hts (.fieldLink RX6 72 "GroupCursorsModel" "last" "[I") (by decide +kernel)
  have hf4 := hts (.fieldLink RX6 63 "GroupCursorsModel" "isGrouped" "[Z") (by decide +kernel)
  have hf5 := hts (.fieldLink RX6 66 "GroupCursorsModel" "groupOf" "[J") (by decide +kernel)
  have hf6 := hts (.fieldLink RX6 48 "GroupCursorsModel" "isCursor" "[Z") (by decide +kernel)
  have hf7 := hts (.fieldLink RX6 54 "GroupCursorsModel" "slice" "[I") (by decide +kernel)
  have hf8 := hts (.fieldLink RX6 51 "GroupCursorsModel" "slices" "[I") (by decide +kernel)
  have hl := lv_entry ([.ref (a 0), .int (nI (r))]) (n := 2) (Nat.le_of_ble_eq_true rfl)
  rw [lg_entry_eq]
  generalize (lg_sl ([.ref (a 0), .int (nI (r))]) ++ List.replicate (2 - (lg_sl ([.ref (a 0), .int (nI (r))])).length) Slot.unset).toArray = ls at hl ⊢
  have hl : lv_has ls 2 [(0, .ref (a 0)), (1, .int (nI (r)))] := hl
  refine lv_aload_n hx hb dX6_nextOf_0 rfl (lv_at hl 0 rfl) ?_
  refine lv_aload_n hx hb dX6_nextOf_1 rfl (lv_at hl 0 rfl) ?_
  refine va_get (ci := 6) (v := .ref (a 10)) (C := RX6) (T := TX6) (N := 30) hx hb hts hiX6 hown hK hP 0 rfl rfl 14 (by decide) hf0 (fun _ h9 => h9) rfl dX6_nextOf_2 ?_
  refine lv_iload_n hx hb dX6_nextOf_5 rfl (lv_at hl 1 rfl) ?_
  refine wa_i (i := r) (v := nI (m_vo M r)) hx hb hK hP 10 0 rfl rfl rfl (by omega) (by decide) dX6_nextOf_6 ?_
  refine lv_aload_n hx hb dX6_nextOf_7 rfl (lv_at hl 0 rfl) ?_
  refine va_get (ci := 6) (v := .ref (a 11)) (C := RX6) (T := TX6) (N := 30) hx hb hts hiX6 hown hK hP 0 rfl rfl 15 (by decide) hf1 (fun _ h9 => h9) rfl dX6_nextOf_8 ?_
  refine lv_iload_n hx hb dX6_nextOf_11 rfl (lv_at hl 1 rfl) ?_
  refine wa_i (i := r) (v := nI (m_ko M r)) hx hb hK hP 11 0 rfl rfl rfl (by omega) (by decide) dX6_nextOf_12 ?_
  refine lv_aload_n hx hb dX6_nextOf_13 rfl (lv_at hl 0 rfl) ?_
  refine va_get (ci := 6) (v := .ref (a 12)) (C := RX6) (T := TX6) (N := 30) hx hb hts hiX6 hown hK hP 0 rfl rfl 16 (by decide) hf2 (fun _ h9 => h9) rfl dX6_nextOf_14 ?_
  refine lv_iload_n hx hb dX6_nextOf_17 rfl (lv_at hl 1 rfl) ?_
  refine wa_l (i := r) (v := m_sd M r) hx hb hK hP 12 1 rfl rfl rfl (by omega) (by decide) dX6_nextOf_18 ?_
  refine lv_aload_n hx hb dX6_nextOf_19 rfl (lv_at hl 0 rfl) ?_
  refine va_get (ci := 6) (v := .ref (a 21)) (C := RX6) (T := TX6) (N := 30) hx hb hts hiX6 hown hK hP 0 rfl rfl 25 (by decide) hf3 (fun _ h9 => h9) rfl dX6_nextOf_20 ?_
  refine lv_iload_n hx hb dX6_nextOf_23 rfl (lv_at hl 1 rfl) ?_
  refine wa_i (i := r) (v := zI (m_la M r)) hx hb hK hP 21 0 rfl rfl rfl (by omega) (by decide) dX6_nextOf_24 ?_
  refine lv_aload_n hx hb dX6_nextOf_25 rfl (lv_at hl 0 rfl) ?_
  refine va_get (ci := 6) (v := .ref (a 18)) (C := RX6) (T := TX6) (N := 30) hx hb hts hiX6 hown hK hP 0 rfl rfl 22 (by decide) hf4 (fun _ h9 => h9) rfl dX6_nextOf_26 ?_
  refine lv_iload_n hx hb dX6_nextOf_29 rfl (lv_at hl 1 rfl) ?_
  refine wa_z (i := r) (v := bI (m_isG M r)) hx hb hK hP 18 2 rfl rfl rfl (by omega) (by decide) dX6_nextOf_30 ?_
  refine lv_aload_n hx hb dX6_nextOf_31 rfl (lv_at hl 0 rfl) ?_
  refine va_get (ci := 6) (v := .ref (a 19)) (C := RX6) (T := TX6) (N := 30) hx hb hts hiX6 hown hK hP 0 rfl rfl 23 (by decide) hf5 (fun _ h9 => h9) rfl dX6_nextOf_32 ?_
  refine lv_iload_n hx hb dX6_nextOf_35 rfl (lv_at hl 1 rfl) ?_
  refine wa_l (i := r) (v := m_go M r) hx hb hK hP 19 1 rfl rfl rfl (by omega) (by decide) dX6_nextOf_36 ?_
  refine lv_aload_n hx hb dX6_nextOf_37 rfl (lv_at hl 0 rfl) ?_
  refine va_get (ci := 6) (v := .ref (a 13)) (C := RX6) (T := TX6) (N := 30) hx hb hts hiX6 hown hK hP 0 rfl rfl 17 (by decide) hf6 (fun _ h9 => h9) rfl dX6_nextOf_38 ?_
  refine lv_iload_n hx hb dX6_nextOf_41 rfl (lv_at hl 1 rfl) ?_
  refine wa_z (i := r) (v := bI (m_isC M r)) hx hb hK hP 13 2 rfl rfl rfl (by omega) (by decide) dX6_nextOf_42 ?_
  refine wb_if_eq (tgt := 55) hx hb dX6_nextOf_43 (by decide) (fun c43_1 => ?_) (fun c43_1 => ?_)
  · refine lv_iconst (v := nI (0)) hx hb dX6_nextOf_55 (by decide) ?_
    refine lv_aload_n hx hb dX6_nextOf_56 rfl (lv_at hl 0 rfl) ?_
    refine va_get (ci := 6) (v := .ref (a 15)) (C := RX6) (T := TX6) (N := 30) hx hb hts hiX6 hown hK hP 0 rfl rfl 19 (by decide) hf7 (fun _ h9 => h9) rfl dX6_nextOf_57 ?_
    refine lv_iload_n hx hb dX6_nextOf_60 rfl (lv_at hl 1 rfl) ?_
    refine wa_i (i := r) (v := nI (m_sc M r)) hx hb hK hP 15 0 rfl rfl rfl (by omega) (by decide) dX6_nextOf_61 ?_
    refine wc_Vi (As := [.int (nI (m_vo M r)), .int (nI (m_ko M r)), .long (m_sd M r), .int (zI (m_la M r)), .int (bI (m_isG M r)), .long (m_go M r), .int (nI (0)), .int (nI (m_sc M r))]) (rest := []) ⟨hx, hb, hml, hown, hts⟩ (c_X6_following l D cI cJ cZ a (th) (lds) M hM (m_vo M r) (m_ko M r) (m_sd M r) ((m_la M r : Int)) (m_isG M r) (m_go M r) (0) (m_sc M r) (by omega) (by omega) (by omega) (by omega) (by omega) (by omega)) (cwV 8 hts gX6_nextOf_X6_following rfl rfl rfl (by decide +kernel) ⟨Nat.le_of_ble_eq_true rfl, Nat.le_of_ble_eq_true rfl⟩) hP hK 0 rfl rfl rfl hl.1 rfl (Nat.le_of_ble_eq_true rfl) dX6_nextOf_62 ⟨Nat.zero_le _, Nat.zero_le _⟩ (fun rr hq2 => ?_)
    have hq2 : rr = zI (following M (m_vo M r) (m_ko M r) (m_sd M r) ((m_la M r : Int)) (m_isG M r) (m_go M r) 0 (m_sc M r)) := hq2
    subst hq2
    have hfl3 := following_in M (m_vo M r) (m_ko M r) (m_sd M r) ((m_la M r : Int)) (m_isG M r) (m_go M r) 0 (m_sc M r)
    exact W.iret (v := zI (following M (m_vo M r) (m_ko M r) (m_sd M r) ((m_la M r : Int)) (m_isG M r) (m_go M r) 0 (m_sc M r))) hx hb hr (fun t ht hW => ⟨_, rfl, (by rw [nextOf]; simp [c43_1]), ht⟩) (fun q h => nomatch h) dX6_nextOf_65
  · refine lv_aload_n hx hb dX6_nextOf_46 rfl (lv_at hl 0 rfl) ?_
    refine va_get (ci := 6) (v := .ref (a 14)) (C := RX6) (T := TX6) (N := 30) hx hb hts hiX6 hown hK hP 0 rfl rfl 18 (by decide) hf8 (fun _ h9 => h9) rfl dX6_nextOf_47 ?_
    refine lv_iload_n hx hb dX6_nextOf_50 rfl (lv_at hl 1 rfl) ?_
    refine wa_i (i := r) (v := nI (m_sl M r)) hx hb hK hP 14 0 rfl rfl rfl (by omega) (by decide) dX6_nextOf_51 ?_
    refine lv_goto (tgt := 56) hx hb dX6_nextOf_52 (by decide) ?_
    refine lv_aload_n hx hb dX6_nextOf_56 rfl (lv_at hl 0 rfl) ?_
    refine va_get (ci := 6) (v := .ref (a 15)) (C := RX6) (T := TX6) (N := 30) hx hb hts hiX6 hown hK hP 0 rfl rfl 19 (by decide) hf7 (fun _ h9 => h9) rfl dX6_nextOf_57 ?_
    refine lv_iload_n hx hb dX6_nextOf_60 rfl (lv_at hl 1 rfl) ?_
    refine wa_i (i := r) (v := nI (m_sc M r)) hx hb hK hP 15 0 rfl rfl rfl (by omega) (by decide) dX6_nextOf_61 ?_
    refine wc_Vi (As := [.int (nI (m_vo M r)), .int (nI (m_ko M r)), .long (m_sd M r), .int (zI (m_la M r)), .int (bI (m_isG M r)), .long (m_go M r), .int (nI (m_sl M r)), .int (nI (m_sc M r))]) (rest := []) ⟨hx, hb, hml, hown, hts⟩ (c_X6_following l D cI cJ cZ a (th) (lds) M hM (m_vo M r) (m_ko M r) (m_sd M r) ((m_la M r : Int)) (m_isG M r) (m_go M r) (m_sl M r) (m_sc M r) (by omega) (by omega) (by omega) (by omega) (by omega) (by omega)) (cwV 8 hts gX6_nextOf_X6_following rfl rfl rfl (by decide +kernel) ⟨Nat.le_of_ble_eq_true rfl, Nat.le_of_ble_eq_true rfl⟩) hP hK 0 rfl rfl rfl hl.1 rfl (Nat.le_of_ble_eq_true rfl) dX6_nextOf_62 ⟨Nat.zero_le _, Nat.zero_le _⟩ (fun rr hq4 => ?_)
    have hq4 : rr = zI (following M (m_vo M r) (m_ko M r) (m_sd M r) ((m_la M r : Int)) (m_isG M r) (m_go M r) (m_sl M r) (m_sc M r)) := hq4
    subst hq4
    have hfl5 := following_in M (m_vo M r) (m_ko M r) (m_sd M r) ((m_la M r : Int)) (m_isG M r) (m_go M r) (m_sl M r) (m_sc M r)
    exact W.iret (v := zI (following M (m_vo M r) (m_ko M r) (m_sd M r) ((m_la M r : Int)) (m_isG M r) (m_go M r) (m_sl M r) (m_sc M r))) hx hb hr (fun t ht hW => ⟨_, rfl, (by rw [nextOf]; simp [c43_1]), ht⟩) (fun q h => nomatch h) dX6_nextOf_65
def rm_X6_against : Room := { frames := 4, cells := 0, slots := 0, locals := 104 }
set_option maxHeartbeats 4000000 in
set_option maxRecDepth 100000 in
/-- what speaks against group k -/
theorem c_X6_against (l : Launch) (D : va_G) (cI cJ cZ : ClassId) (a : Nat → Nat) (th : Nat) (lds : Nat → Bool) (M : MT) (hM : mOk M) (x y z : Int32) : Met l yX6_against wsX6_against rm_X6_against (va_Pc [.ref (a 0), .int (x), .int (y), .int (z)] (GR D (tyW cI cJ cZ) (mW cI cJ cZ a (th) (lds) M))) (vp_Si (fun rr => rr = nI (againstM M x y z))) 0 0 (fun _ => False) := by
  obtain ⟨hn, hsn, hvn, hrn, hpn, hnw, h_seg, h_la, h_st, h_vo, h_ko, h_sl, h_sc, h_kp, h_en, h_pg, hvo, hko, hsl, hsc⟩ := id hM
  refine Met.ofW (cc := cX6_against) (maxL := 4) (ret := (some .int)) (by decide) rfl ?_
  intro p e s m args below meth c s₁ B hml hv
  obtain ⟨rfl, hP, hK⟩ := hv
  have hx := B.exec
  have hb := B.bytes
  have hr := B.returns
  have hts := atoms_spec (ws := wsX6_against) B.pre
  have hown : s.vm.findClass RX6 = some m.cls := findClass_of_methodNamed B.named
  have hlocks := B.notSynchronized
  have hl := lv_entry ([.ref (a 0), .int (x), .int (y), .int (z)]) (n := 4) (Nat.le_of_ble_eq_true rfl)
  rw [lg_entry_eq]
  generalize (lg_sl ([.ref (a 0), .int (x), .int (y), .int (z)]) ++ List.replicate (4 - (lg_sl ([.ref (a 0), .int (x), .int (y), .int (z)])).length) Slot.unset).toArray = ls at hl ⊢
  have hl : lv_has ls 4 [(0, .ref (a 0)), (1, .int (x)), (2, .int (y)), (3, .int (z))] := hl
  refine lv_aload_n hx hb dX6_against_0 rfl (lv_at hl 0 rfl) ?_
  refine lv_iload_n hx hb dX6_against_1 rfl (lv_at hl 1 rfl) ?_
  refine wc_Vi (As := [.int (x)]) (rest := []) ⟨hx, hb, hml, hown, hts⟩ (c_X6_isView l D cI cJ cZ a (th) (lds) M hM (x)) (cwV 1 hts gX6_against_X6_isView rfl rfl rfl (by decide +kernel) ⟨Nat.le_of_ble_eq_true rfl, Nat.le_of_ble_eq_true rfl⟩) hP hK 0 rfl rfl rfl hl.1 rfl (Nat.le_of_ble_eq_true rfl) dX6_against_2 ⟨Nat.zero_le _, Nat.zero_le _⟩ (fun rr hq1 => ?_)
  have hq1 : rr = bI (decide (0 ≤ (x).toInt ∧ (x).toInt < (m_vn M : Int))) := hq1
  subst hq1
  refine wb_if_eq (tgt := 21) hx hb dX6_against_5 (by decide) (fun c5_2 => ?_) (fun c5_2 => ?_)
  · have c5_2p := of_decide_eq_false c5_2
    refine lv_iconst (v := nI (1)) hx hb dX6_against_21 (by decide) ?_
    refine lv_goto (tgt := 37) hx hb dX6_against_22 (by decide) ?_
    exact W.iret (v := nI (1)) hx hb hr (fun t ht hW => ⟨_, rfl, (by unfold againstM; first | (rw [if_pos (by omega)]) | (rw [if_neg (by omega), if_pos (by omega)]) | (rw [if_neg (by omega), if_neg (by omega)])), ht⟩) (fun q h => nomatch h) dX6_against_37
  · have c5_2p := of_decide_eq_true c5_2
    refine lv_iload_n hx hb dX6_against_8 rfl (lv_at hl 3 rfl) ?_
    refine wz_if_lt (tgt := 21) hx hb ((z).toInt) rfl dX6_against_9 (by decide) (fun c9_3 => ?_) (fun c9_3 => ?_)
    · refine lv_iconst (v := nI (1)) hx hb dX6_against_21 (by decide) ?_
      refine lv_goto (tgt := 37) hx hb dX6_against_22 (by decide) ?_
      exact W.iret (v := nI (1)) hx hb hr (fun t ht hW => ⟨_, rfl, (by unfold againstM; first | (rw [if_pos (by omega)]) | (rw [if_neg (by omega), if_pos (by omega)]) | (rw [if_neg (by omega), if_neg (by omega)])), ht⟩) (fun q h => nomatch h) dX6_against_37
    · refine lv_iload_n hx hb dX6_against_12 rfl (lv_at hl 3 rfl) ?_
      refine lv_aload_n hx hb dX6_against_13 rfl (lv_at hl 0 rfl) ?_
      refine lv_iload_n hx hb dX6_against_14 rfl (lv_at hl 1 rfl) ?_
      refine ww_top (y := nI (x.toInt.toNat)) (zI_nat (by omega)) ?_
      refine wc_Vi (As := [.int (nI (x.toInt.toNat))]) (rest := [.int (z)]) ⟨hx, hb, hml, hown, hts⟩ (c_X6_groupCount l D cI cJ cZ a (th) (lds) M hM (x.toInt.toNat) (by omega)) (cwV 1 hts gX6_against_X6_groupCount rfl rfl rfl (by decide +kernel) ⟨Nat.le_of_ble_eq_true rfl, Nat.le_of_ble_eq_true rfl⟩) hP hK 0 rfl rfl rfl hl.1 rfl (Nat.le_of_ble_eq_true rfl) dX6_against_15 ⟨Nat.zero_le _, Nat.zero_le _⟩ (fun rr hq4 => ?_)
      have hq4 : rr = nI (groupCount M (x.toInt.toNat)) := hq4
      subst hq4
      have hle5 : groupCount M (x.toInt.toNat) ≤ 300 := Nat.le_trans (cnt_le _ _) hn
      refine wz_icmp_lt (tgt := 25) hx hb ((z).toInt) (((groupCount M (x.toInt.toNat) : Nat) : Int)) rfl (nI_z (by omega)) dX6_against_18 (by decide) (fun c18_6 => ?_) (fun c18_6 => ?_)
      · refine lv_iload_n hx hb dX6_against_25 rfl (lv_at hl 2 rfl) ?_
        refine wc_Si (As := [.int (y)]) (rest := []) ⟨hx, hb, hml, hown, hts⟩ (c_X6_isKind l D cI cJ cZ a (th) (lds) M hM (y)) (va_cwS 1 hts gX6_against_X6_isKind rfl rfl rfl (by decide +kernel) ⟨Nat.le_of_ble_eq_true rfl, Nat.le_of_ble_eq_true rfl⟩) hP hK rfl hl.1 rfl (Nat.le_of_ble_eq_true rfl) dX6_against_26 ⟨Nat.zero_le _, Nat.zero_le _⟩ (fun rr hq7 => ?_)
        have hq7 : rr = bI (decide (0 ≤ (y).toInt ∧ (y).toInt < 3)) := hq7
        subst hq7
        refine wb_if_ne (tgt := 36) hx hb dX6_against_29 (by decide) (fun c29_8 => ?_) (fun c29_8 => ?_)
        · have c29_8p := of_decide_eq_true c29_8
          refine lv_iconst (v := nI (0)) hx hb dX6_against_36 (by decide) ?_
          exact W.iret (v := nI (0)) hx hb hr (fun t ht hW => ⟨_, rfl, (by unfold againstM; first | (rw [if_pos (by omega)]) | (rw [if_neg (by omega), if_pos (by omega)]) | (rw [if_neg (by omega), if_neg (by omega)])), ht⟩) (fun q h => nomatch h) dX6_against_37
        · have c29_8p := of_decide_eq_false c29_8
          refine lv_iconst (v := nI (2)) hx hb dX6_against_32 (by decide) ?_
          refine lv_goto (tgt := 37) hx hb dX6_against_33 (by decide) ?_
          exact W.iret (v := nI (2)) hx hb hr (fun t ht hW => ⟨_, rfl, (by unfold againstM; first | (rw [if_pos (by omega)]) | (rw [if_neg (by omega), if_pos (by omega)]) | (rw [if_neg (by omega), if_neg (by omega)])), ht⟩) (fun q h => nomatch h) dX6_against_37
      · refine lv_iconst (v := nI (1)) hx hb dX6_against_21 (by decide) ?_
        refine lv_goto (tgt := 37) hx hb dX6_against_22 (by decide) ?_
        exact W.iret (v := nI (1)) hx hb hr (fun t ht hW => ⟨_, rfl, (by unfold againstM; first | (rw [if_pos (by omega)]) | (rw [if_neg (by omega), if_pos (by omega)]) | (rw [if_neg (by omega), if_neg (by omega)])), ht⟩) (fun q h => nomatch h) dX6_against_37
def rm_X6_thrown : Room := { frames := 0, cells := 0, slots := 0, locals := 0 }
set_option maxHeartbeats 4000000 in
set_option maxRecDepth 100000 in
/-- what was thrown -/
theorem c_X6_thrown (l : Launch) (D : va_G) (cI cJ cZ : ClassId) (a : Nat → Nat) (th : Nat) (lds : Nat → Bool) (M : MT) (hM : mOk M)  : Met l yX6_thrown wsX6_thrown rm_X6_thrown (va_Pc [.ref (a 0)] (GR D (tyW cI cJ cZ) (mW cI cJ cZ a (th) (lds) M))) (vp_Si (fun rr => rr = nI (th))) 0 0 (fun _ => False) := by
  obtain ⟨hn, hsn, hvn, hrn, hpn, hnw, h_seg, h_la, h_st, h_vo, h_ko, h_sl, h_sc, h_kp, h_en, h_pg, hvo, hko, hsl, hsc⟩ := id hM
  refine Met.ofW (cc := cX6_thrown) (maxL := 1) (ret := (some .int)) (by decide) rfl ?_
  intro p e s m args below meth c s₁ B hml hv
  obtain ⟨rfl, hP, hK⟩ := hv
  have hx := B.exec
  have hb := B.bytes
  have hr := B.returns
  have hts := atoms_spec (ws := wsX6_thrown) B.pre
  have hown : s.vm.findClass RX6 = some m.cls := findClass_of_methodNamed B.named
  have hlocks := B.notSynchronized
  have hiX6 : ∀ w ∈ wsX60, w ∈ wsX6_thrown := by decide +kernel
  have hf0 := hts (.fieldLink RX6 81 "GroupCursorsModel" "thrown" "I") (by decide +kernel)
  have hl := lv_entry ([.ref (a 0)]) (n := 1) (Nat.le_of_ble_eq_true rfl)
  rw [lg_entry_eq]
  generalize (lg_sl ([.ref (a 0)]) ++ List.replicate (1 - (lg_sl ([.ref (a 0)])).length) Slot.unset).toArray = ls at hl ⊢
  have hl : lv_has ls 1 [(0, .ref (a 0))] := hl
  refine lv_aload_n hx hb dX6_thrown_0 rfl (lv_at hl 0 rfl) ?_
  refine va_get (ci := 6) (v := .int (nI (th))) (C := RX6) (T := TX6) (N := 30) hx hb hts hiX6 hown hK hP 0 rfl rfl 0 (by decide) hf0 (fun _ h9 => h9) rfl dX6_thrown_1 ?_
  exact W.iret (v := nI (th)) hx hb hr (fun t ht hW => ⟨_, rfl, rfl, ht⟩) (fun q h => nomatch h) dX6_thrown_4
