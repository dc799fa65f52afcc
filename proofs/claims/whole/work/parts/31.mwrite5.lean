def rm_X6_merge : Room := { frames := 1, cells := 0, slots := 0, locals := 23 }
set_option maxHeartbeats 4000000 in
set_option maxRecDepth 100000 in
/-- small segments are merged -/
theorem c_X6_merge (l : Launch) (D : va_G) (cI cJ cZ : ClassId) (a : Nat → Nat) (th : Nat) (lds : Nat → Bool) (M : MT) (hM : mOk M) (x : Int32) (sz : Nat) : Met l yX6_merge wsX6_merge rm_X6_merge (va_Pc [.ref (a 0), .int (x)] (GW D (tyW cI cJ cZ) (mW cI cJ cZ a (th) (lds) M) sz)) (va_Qi (fun rr u => rr = mergeR M x ∧ u.1 = 0 ∧ u.2.2 = mergeM M x) (fun u => GB D (tyW cI cJ cZ) (va_A (mW cI cJ cZ a (th) (lds) M) sz) (mWu cI cJ cZ a u)) (va_A (mW cI cJ cZ a (th) (lds) M) sz)) 0 0 (va_A (mW cI cJ cZ a (th) (lds) M) sz) := by
  obtain ⟨hn, hsn, hvn, hrn, hpn, hnw, h_seg, h_la, h_st, h_vo, h_ko, h_sl, h_sc, h_kp, h_en, h_pg, hvo, hko, hsl, hsc⟩ := id hM
  have hixx := ix_c x
  refine Met.ofW (cc := cX6_merge) (maxL := 8) (ret := (some .int)) (by decide) rfl ?_
  intro p e s m args below meth c s₁ B hml hv
  obtain ⟨rfl, hsz, hP, hK, hD0⟩ := hv
  have hx := B.exec
  have hb := B.bytes
  have hr := B.returns
  have hts := atoms_spec (ws := wsX6_merge) B.pre
  have hown : s.vm.findClass RX6 = some m.cls := findClass_of_methodNamed B.named
  have hlocks := B.notSynchronized
  subst hsz
  have hD := hD0.self (sz := s.heap.size)
  generalize hAe : va_A (mW cI cJ cZ a (th) (lds) M) s.heap.size = A at hD ⊢
  have hA : ∀ q : Nat, s.heap.size ≤ q → A q := fun q h => by rw [← hAe]; exact Or.inr h
  have hS : va_S A s.heap s.heap [] := va_S.rf
  have hP : va_P D vwCl (mX cI cJ cZ a (th) (lds) (m_n M) (m_sn M) (m_vn M) (m_rn M) (m_pn M) (m_nw M) (m_grp M) (m_key M) (m_srt M) (m_sd M) (m_go M) (m_seg M) (m_la M) (m_isN M) (m_drp M) (m_has M) (m_sees M) (m_isC M) (m_isG M) (m_ov M) (m_st M) (m_vo M) (m_ko M) (m_sl M) (m_sc M) (m_kp M) (m_en M) (m_pg M)) s.heap := hP
  have hD : va_D A (mX cI cJ cZ a (th) (lds) (m_n M) (m_sn M) (m_vn M) (m_rn M) (m_pn M) (m_nw M) (m_grp M) (m_key M) (m_srt M) (m_sd M) (m_go M) (m_seg M) (m_la M) (m_isN M) (m_drp M) (m_has M) (m_sees M) (m_isC M) (m_isG M) (m_ov M) (m_st M) (m_vo M) (m_ko M) (m_sl M) (m_sc M) (m_kp M) (m_en M) (m_pg M)) := hD
  have hiX6 : ∀ w ∈ wsX60, w ∈ wsX6_merge := by decide +kernel
  have hf0 := hts (.fieldLink RX6 81 "GroupCursorsModel" "thrown" "I") (by decide +kernel)
  have hf1 := hts (.fieldLink RX6 121 "GroupCursorsModel" "segments" "I") (by decide +kernel)
  have hf2 := hts (.fieldLink RX6 97 "GroupCursorsModel" "objects" "I") (by decide +kernel)
  have hf3 := hts (.fieldLink RX6 19 "GroupCursorsModel" "segment" "[I") (by decide +kernel)
  have hf4 := hts (.fieldLink RX6 27 "GroupCursorsModel" "isDropped" "[Z") (by decide +kernel)
  have hl := lv_entry ([.ref (a 0), .int (x)]) (n := 8) (Nat.le_of_ble_eq_true rfl)
  rw [lg_entry_eq]
  generalize (lg_sl ([.ref (a 0), .int (x)]) ++ List.replicate (8 - (lg_sl ([.ref (a 0), .int (x)])).length) Slot.unset).toArray = ls at hl ⊢
  have hl : lv_has ls 8 [(0, .ref (a 0)), (1, .int (x))] := hl
  refine lv_aload_n hx hb dX6_merge_0 rfl (lv_at hl 0 rfl) ?_
  refine lv_iconst (v := nI (0)) hx hb dX6_merge_1 (by decide) ?_
  refine va_put (ci := 6) (v := .int (nI (0))) (ty := .int) (C := RX6) (T := TX6) (N := 30) hx hb hts hiX6 tyX6 tyX6_ok nmX6 hown hK hP hD hS 0 rfl rfl 0 (by decide) hf0 (fun _ h9 => h9) rfl (by decide +kernel) rfl rfl (Nat.le_of_ble_eq_true rfl) dX6_merge_2 (fun H locs hP hD hS => ?_)
  have hP : va_P D vwCl (mX cI cJ cZ a (0) (lds) (m_n M) (m_sn M) (m_vn M) (m_rn M) (m_pn M) (m_nw M) (m_grp M) (m_key M) (m_srt M) (m_sd M) (m_go M) (m_seg M) (m_la M) (m_isN M) (m_drp M) (m_has M) (m_sees M) (m_isC M) (m_isG M) (m_ov M) (m_st M) (m_vo M) (m_ko M) (m_sl M) (m_sc M) (m_kp M) (m_en M) (m_pg M)) H := hP
  have hD : va_D A (mX cI cJ cZ a (0) (lds) (m_n M) (m_sn M) (m_vn M) (m_rn M) (m_pn M) (m_nw M) (m_grp M) (m_key M) (m_srt M) (m_sd M) (m_go M) (m_seg M) (m_la M) (m_isN M) (m_drp M) (m_has M) (m_sees M) (m_isC M) (m_isG M) (m_ov M) (m_st M) (m_vo M) (m_ko M) (m_sl M) (m_sc M) (m_kp M) (m_en M) (m_pg M)) := hD
  refine lv_iconst (v := nI (0)) hx hb dX6_merge_5 (by decide) ?_
  refine lv_istore_n (lv' := [(2, .int (nI (0))), (0, .ref (a 0)), (1, .int (x))]) hx hb dX6_merge_6 rfl hl (by decide) rfl (fun ls hl => ?_)
  refine lv_iconst (v := nI (0)) hx hb dX6_merge_7 (by decide) ?_
  refine lv_istore_n (lv' := [(3, .int (nI (0))), (2, .int (nI (0))), (0, .ref (a 0)), (1, .int (x))]) hx hb dX6_merge_8 rfl hl (by decide) rfl (fun ls hl => ?_)
  refine lv_iconst (v := nI (0)) hx hb dX6_merge_9 (by decide) ?_
  refine lv_istore (lv' := [(4, .int (nI (0))), (3, .int (nI (0))), (2, .int (nI (0))), (0, .ref (a 0)), (1, .int (x))]) hx hb dX6_merge_10 hl (by decide) rfl (fun ls hl => ?_)
  have hlp12 : ∀ (d : Nat) (i : Nat) (k : Nat) (sm : Nat), m_sn M - i < d → (i ≤ m_sn M) → (k = cnt (pBel M x) i) → (sm = sumB (pBel M x) (liveIn M) i) → ∀ (ls : Array Slot), lv_has ls 8 [(0, .ref (a 0)), (1, .int (x)), (2, .int (nI (k))), (3, .int (nI (sm))), (4, .int (nI (i)))] → W p l e (headSpec wsX6_merge rm_X6_merge).room s m ([.ref (a 0), .int (x)] : List Value).toArray below meth c H locs (0) (0) (MQ below (va_Qi (fun rr u => rr = mergeR M x ∧ u.1 = 0 ∧ u.2.2 = mergeM M x) (fun u => GB D (tyW cI cJ cZ) A (mWu cI cJ cZ a u)) A) ([.ref (a 0), .int (x)] : List Value).toArray s 0 0 A) (F0 m 12 ls []) := by
    intro d
    induction d with
    | zero => intro i k sm  hd12; exact absurd hd12 (Nat.not_lt_zero _)
    | succ d ih12 =>
      intro i k sm  hd12 hik hk hsm  ls hl
      have hcl := cnt_le (pBel M x) i
      refine lv_iload hx hb dX6_merge_12 (lv_at hl 4 rfl) ?_
      refine lv_aload_n hx hb dX6_merge_14 rfl (lv_at hl 0 rfl) ?_
      refine va_get (ci := 6) (v := .int (nI (m_sn M))) (C := RX6) (T := TX6) (N := 30) hx hb hts hiX6 hown hK hP 0 rfl rfl 8 (by decide) hf1 (fun _ h9 => h9) rfl dX6_merge_15 ?_
      refine wn_icmp_ge (a := i) (b := m_sn M) (tgt := 54) hx hb (nI_z (by omega)) (nI_z (by omega)) dX6_merge_18 (by decide) (fun c18_1 => ?_) (fun c18_1 => ?_)
      · refine lv_iload_n hx hb dX6_merge_54 rfl (lv_at hl 2 rfl) ?_
        refine lv_iconst (v := nI (2)) hx hb dX6_merge_55 (by decide) ?_
        refine wn_icmp_ge (a := k) (b := 2) (tgt := 61) hx hb (nI_z (by omega)) (nI_z (by omega)) dX6_merge_56 (by decide) (fun c56_2 => ?_) (fun c56_2 => ?_)
        · refine lv_aload_n hx hb dX6_merge_61 rfl (lv_at hl 0 rfl) ?_
          refine va_get (ci := 6) (v := .int (nI (m_sn M))) (C := RX6) (T := TX6) (N := 30) hx hb hts hiX6 hown hK hP 0 rfl rfl 8 (by decide) hf1 (fun _ h9 => h9) rfl dX6_merge_62 ?_
          refine lv_bipush (v := nI (40)) hx hb dX6_merge_65 (by decide) ?_
          refine wn_icmp_ne (a := m_sn M) (b := 40) (tgt := 73) hx hb (nI_z (by omega)) (nI_z (by omega)) dX6_merge_67 (by decide) (fun c67_3 => ?_) (fun c67_3 => ?_)
          · refine lv_aload_n hx hb dX6_merge_73 rfl (lv_at hl 0 rfl) ?_
            refine va_get (ci := 6) (v := .int (nI (m_sn M))) (C := RX6) (T := TX6) (N := 30) hx hb hts hiX6 hown hK hP 0 rfl rfl 8 (by decide) hf1 (fun _ h9 => h9) rfl dX6_merge_74 ?_
            refine lv_istore (lv' := [(4, .int (nI (m_sn M))), (0, .ref (a 0)), (1, .int (x)), (2, .int (nI (k))), (3, .int (nI (sm)))]) hx hb dX6_merge_77 hl (by decide) rfl (fun ls hl => ?_)
            refine lv_iconst (v := nI (0)) hx hb dX6_merge_79 (by decide) ?_
            refine lv_istore (lv' := [(5, .int (nI (0))), (4, .int (nI (m_sn M))), (0, .ref (a 0)), (1, .int (x)), (2, .int (nI (k))), (3, .int (nI (sm)))]) hx hb dX6_merge_80 hl (by decide) rfl (fun ls hl => ?_)
            have hlp82 : ∀ (d : Nat) (q2 : Nat) (H : Heap) (locs : List Loc), m_sn M - q2 < d → (q2 ≤ m_sn M) → va_P D vwCl (mX cI cJ cZ a (0) (lds) (m_n M) (m_sn M) (m_vn M) (m_rn M) (m_pn M) (m_nw M) (m_grp M) (m_key M) (m_srt M) (m_sd M) (m_go M) (mgO M x q2) (m_la M) (m_isN M) (m_drp M) (m_has M) (m_sees M) (m_isC M) (m_isG M) (m_ov M) (m_st M) (m_vo M) (m_ko M) (m_sl M) (m_sc M) (m_kp M) (m_en M) (m_pg M)) H → va_D A (mX cI cJ cZ a (0) (lds) (m_n M) (m_sn M) (m_vn M) (m_rn M) (m_pn M) (m_nw M) (m_grp M) (m_key M) (m_srt M) (m_sd M) (m_go M) (mgO M x q2) (m_la M) (m_isN M) (m_drp M) (m_has M) (m_sees M) (m_isC M) (m_isG M) (m_ov M) (m_st M) (m_vo M) (m_ko M) (m_sl M) (m_sc M) (m_kp M) (m_en M) (m_pg M)) → va_S A s.heap H locs → ∀ (ls : Array Slot), lv_has ls 8 [(0, .ref (a 0)), (1, .int (x)), (2, .int (nI (k))), (3, .int (nI (sm))), (4, .int (nI (m_sn M))), (5, .int (nI (q2)))] → W p l e (headSpec wsX6_merge rm_X6_merge).room s m ([.ref (a 0), .int (x)] : List Value).toArray below meth c H locs (0) (0) (MQ below (va_Qi (fun rr u => rr = mergeR M x ∧ u.1 = 0 ∧ u.2.2 = mergeM M x) (fun u => GB D (tyW cI cJ cZ) A (mWu cI cJ cZ a u)) A) ([.ref (a 0), .int (x)] : List Value).toArray s 0 0 A) (F0 m 82 ls []) := by
              intro d
              induction d with
              | zero => intro q2 H locs hd82; exact absurd hd82 (Nat.not_lt_zero _)
              | succ d ih82 =>
                intro q2 H locs hd82 hqk hP hD hS ls hl
                have hgi := mgO_in hM (by omega) x q2
                have hMq := ok_mgM hM hgi
                refine lv_iload hx hb dX6_merge_82 (lv_at hl 5 rfl) ?_
                refine lv_iload hx hb dX6_merge_84 (lv_at hl 4 rfl) ?_
                refine wn_icmp_ge (a := q2) (b := m_sn M) (tgt := 163) hx hb (nI_z (by omega)) (nI_z (by omega)) dX6_merge_86 (by decide) (fun c86_4 => ?_) (fun c86_4 => ?_)
                · refine lv_aload_n hx hb dX6_merge_163 rfl (lv_at hl 0 rfl) ?_
                  refine lv_dup hx hb dX6_merge_164 rfl ?_
                  refine va_get (ci := 6) (v := .int (nI (m_sn M))) (C := RX6) (T := TX6) (N := 30) hx hb hts hiX6 hown hK hP 0 rfl rfl 8 (by decide) hf1 (fun _ h9 => h9) rfl dX6_merge_165 ?_
                  refine lv_iconst (v := nI (1)) hx hb dX6_merge_168 (by decide) ?_
                  refine lv_iadd hx hb dX6_merge_169 (ww_top (y := nI (m_sn M + 1)) (nI_addn _ _) ?_)
                  refine va_put (ci := 6) (v := .int (nI (m_sn M + 1))) (ty := .int) (C := RX6) (T := TX6) (N := 30) hx hb hts hiX6 tyX6 tyX6_ok nmX6 hown hK hP hD hS 0 rfl rfl 8 (by decide) hf1 (fun _ h9 => h9) rfl (by decide +kernel) rfl rfl (Nat.le_of_ble_eq_true rfl) dX6_merge_170 (fun H locs hP hD hS => ?_)
                  have hP : va_P D vwCl (mX cI cJ cZ a (0) (lds) (m_n M) (m_sn M + 1) (m_vn M) (m_rn M) (m_pn M) (m_nw M) (m_grp M) (m_key M) (m_srt M) (m_sd M) (m_go M) (mgO M x q2) (m_la M) (m_isN M) (m_drp M) (m_has M) (m_sees M) (m_isC M) (m_isG M) (m_ov M) (m_st M) (m_vo M) (m_ko M) (m_sl M) (m_sc M) (m_kp M) (m_en M) (m_pg M)) H := hP
                  have hD : va_D A (mX cI cJ cZ a (0) (lds) (m_n M) (m_sn M + 1) (m_vn M) (m_rn M) (m_pn M) (m_nw M) (m_grp M) (m_key M) (m_srt M) (m_sd M) (m_go M) (mgO M x q2) (m_la M) (m_isN M) (m_drp M) (m_has M) (m_sees M) (m_isC M) (m_isG M) (m_ov M) (m_st M) (m_vo M) (m_ko M) (m_sl M) (m_sc M) (m_kp M) (m_en M) (m_pg M)) := hD
                  refine lv_iload_n hx hb dX6_merge_173 rfl (lv_at hl 3 rfl) ?_
                  have hPm : va_P D vwCl (mW cI cJ cZ a (0) (lds) (mkM (m_n M) (m_sn M + 1) (m_vn M) (m_rn M) (m_pn M) (m_nw M) (m_grp M) (m_key M) (m_srt M) (m_sd M) (m_go M) (mgO M x q2) (m_la M) (m_isN M) (m_drp M) (m_has M) (m_sees M) (m_isC M) (m_isG M) (m_ov M) (m_st M) (m_vo M) (m_ko M) (m_sl M) (m_sc M) (m_kp M) (m_en M) (m_pg M))) H := by rw [← mX_mk]; exact hP
                  have hDm : va_D A (mW cI cJ cZ a (0) (lds) (mkM (m_n M) (m_sn M + 1) (m_vn M) (m_rn M) (m_pn M) (m_nw M) (m_grp M) (m_key M) (m_srt M) (m_sd M) (m_go M) (mgO M x q2) (m_la M) (m_isN M) (m_drp M) (m_has M) (m_sees M) (m_isC M) (m_isG M) (m_ov M) (m_st M) (m_vo M) (m_ko M) (m_sl M) (m_sc M) (m_kp M) (m_en M) (m_pg M))) := by rw [← mX_mk]; exact hD
                  exact W.iret (v := nI (sm)) hx hb hr (fun t ht hW => ⟨⟨_, (0, lds, (mkM (m_n M) (m_sn M + 1) (m_vn M) (m_rn M) (m_pn M) (m_nw M) (m_grp M) (m_key M) (m_srt M) (m_sd M) (m_go M) (mgO M x q2) (m_la M) (m_isN M) (m_drp M) (m_has M) (m_sees M) (m_isC M) (m_isG M) (m_ov M) (m_st M) (m_vo M) (m_ko M) (m_sl M) (m_sc M) (m_kp M) (m_en M) (m_pg M))), rfl, ⟨by rw [mergeR, if_neg (by rw [← (show i = m_sn M by omega), ← hk]; omega), if_neg (by omega), hsm, (show i = m_sn M by omega)], rfl, by rw [mergeM, if_neg (by rw [← (show i = m_sn M by omega), ← hk]; omega), if_neg (by omega), (show q2 = m_sn M by omega)]⟩, gb_mk ht hW hPm hK hDm⟩, hS.F ht⟩) hS.2.2 dX6_merge_174
                · refine lv_aload_n hx hb dX6_merge_89 rfl (lv_at hl 0 rfl) ?_
                  refine lv_iload hx hb dX6_merge_90 (lv_at hl 5 rfl) ?_
                  have hPm : va_P D vwCl (mW cI cJ cZ a (0) (lds) (mgM M (mgO M x q2))) H := by show va_P D vwCl (mW cI cJ cZ a (0) (lds) (mkM (m_n M) (m_sn M) (m_vn M) (m_rn M) (m_pn M) (m_nw M) (m_grp M) (m_key M) (m_srt M) (m_sd M) (m_go M) (mgO M x q2) (m_la M) (m_isN M) (m_drp M) (m_has M) (m_sees M) (m_isC M) (m_isG M) (m_ov M) (m_st M) (m_vo M) (m_ko M) (m_sl M) (m_sc M) (m_kp M) (m_en M) (m_pg M))) H; rw [← mX_mk]; exact hP
                  refine wc_Vi (As := [.int (nI (q2))]) (rest := []) ⟨hx, hb, hml, hown, hts⟩ (c_X6_liveIn l D cI cJ cZ a (0) (lds) (mgM M (mgO M x q2)) hMq (q2) (by omega)) (cwV 1 hts gX6_merge_X6_liveIn rfl rfl rfl (by decide +kernel) ⟨Nat.le_of_ble_eq_true rfl, Nat.le_of_ble_eq_true rfl⟩) hPm hK 0 rfl rfl rfl hl.1 rfl (Nat.le_of_ble_eq_true rfl) dX6_merge_92 ⟨Nat.zero_le _, Nat.zero_le _⟩ (fun rr hq5 => ?_)
                  have hq5 : rr = nI (liveIn (mgM M (mgO M x q2)) q2) := hq5
                  subst hq5
                  have hle6 : liveIn (mgM M (mgO M x q2)) q2 ≤ 300 := Nat.le_trans (cnt_le _ _) hMq.1
                  refine lv_istore (lv' := [(6, .int (nI (liveIn (mgM M (mgO M x q2)) q2))), (0, .ref (a 0)), (1, .int (x)), (2, .int (nI (k))), (3, .int (nI (sm))), (4, .int (nI (m_sn M))), (5, .int (nI (q2)))]) hx hb dX6_merge_95 hl (by decide) rfl (fun ls hl => ?_)
                  refine lv_iconst (v := nI (0)) hx hb dX6_merge_97 (by decide) ?_
                  refine lv_istore (lv' := [(7, .int (nI (0))), (6, .int (nI (liveIn (mgM M (mgO M x q2)) q2))), (0, .ref (a 0)), (1, .int (x)), (2, .int (nI (k))), (3, .int (nI (sm))), (4, .int (nI (m_sn M))), (5, .int (nI (q2)))]) hx hb dX6_merge_98 hl (by decide) rfl (fun ls hl => ?_)
                  have hlp100 : ∀ (d : Nat) (o : Nat) (H : Heap) (locs : List Loc), m_n M - o < d → (o ≤ m_n M) → (0 < o → pBel (mgM M (mgO M x q2)) x q2 = true) → va_P D vwCl (mX cI cJ cZ a (0) (lds) (m_n M) (m_sn M) (m_vn M) (m_rn M) (m_pn M) (m_nw M) (m_grp M) (m_key M) (m_srt M) (m_sd M) (m_go M) (mgI (m_drp M) q2 (m_sn M : Int) (mgO M x q2) o) (m_la M) (m_isN M) (m_drp M) (m_has M) (m_sees M) (m_isC M) (m_isG M) (m_ov M) (m_st M) (m_vo M) (m_ko M) (m_sl M) (m_sc M) (m_kp M) (m_en M) (m_pg M)) H → va_D A (mX cI cJ cZ a (0) (lds) (m_n M) (m_sn M) (m_vn M) (m_rn M) (m_pn M) (m_nw M) (m_grp M) (m_key M) (m_srt M) (m_sd M) (m_go M) (mgI (m_drp M) q2 (m_sn M : Int) (mgO M x q2) o) (m_la M) (m_isN M) (m_drp M) (m_has M) (m_sees M) (m_isC M) (m_isG M) (m_ov M) (m_st M) (m_vo M) (m_ko M) (m_sl M) (m_sc M) (m_kp M) (m_en M) (m_pg M)) → va_S A s.heap H locs → ∀ (ls : Array Slot), lv_has ls 8 [(0, .ref (a 0)), (1, .int (x)), (2, .int (nI (k))), (3, .int (nI (sm))), (4, .int (nI (m_sn M))), (5, .int (nI (q2))), (6, .int (nI (liveIn (mgM M (mgO M x q2)) q2))), (7, .int (nI (o)))] → W p l e (headSpec wsX6_merge rm_X6_merge).room s m ([.ref (a 0), .int (x)] : List Value).toArray below meth c H locs (0) (0) (MQ below (va_Qi (fun rr u => rr = mergeR M x ∧ u.1 = 0 ∧ u.2.2 = mergeM M x) (fun u => GB D (tyW cI cJ cZ) A (mWu cI cJ cZ a u)) A) ([.ref (a 0), .int (x)] : List Value).toArray s 0 0 A) (F0 m 100 ls []) := by
                    intro d
                    induction d with
                    | zero => intro o H locs hd100; exact absurd hd100 (Nat.not_lt_zero _)
                    | succ d ih100 =>
                      intro o H locs hd100 hok hop hP hD hS ls hl
                      have hmi := mgI_in (d := m_drp M) (q := q2) (to := (m_sn M : Int)) hgi (by omega) o
                      have hmio := hmi o
                      refine lv_iload hx hb dX6_merge_100 (lv_at hl 7 rfl) ?_
                      refine lv_aload_n hx hb dX6_merge_102 rfl (lv_at hl 0 rfl) ?_
                      refine va_get (ci := 6) (v := .int (nI (m_n M))) (C := RX6) (T := TX6) (N := 30) hx hb hts hiX6 hown hK hP 0 rfl rfl 1 (by decide) hf2 (fun _ h9 => h9) rfl dX6_merge_103 ?_
                      refine wn_icmp_ge (a := o) (b := m_n M) (tgt := 157) hx hb (nI_z (by omega)) (nI_z (by omega)) dX6_merge_106 (by decide) (fun c106_7 => ?_) (fun c106_7 => ?_)
                      · refine lv_iinc (v := nI (q2 + 1)) (lv' := [(5, .int (nI (q2 + 1))), (0, .ref (a 0)), (1, .int (x)), (2, .int (nI (k))), (3, .int (nI (sm))), (4, .int (nI (m_sn M))), (6, .int (nI (liveIn (mgM M (mgO M x q2)) q2))), (7, .int (nI (o)))]) hx hb dX6_merge_157 hl (k := 5) rfl (nI_inc _) (by decide) rfl (fun ls hl => ?_)
                        refine lv_goto (tgt := 82) hx hb dX6_merge_160 (by decide) ?_
                        have e0 : mgI (m_drp M) q2 (m_sn M : Int) (mgO M x q2) o = mgO M x (q2 + 1) := by
                          rcases Nat.eq_zero_or_pos (m_n M) with z0 | z0
                          · have ho0 : o = 0 := by omega
                            subst ho0
                            simp only [mgO]; split
                            · rw [z0]
                            · rfl
                          · simp only [mgO]; rw [if_pos (hop (by omega)), (show o = m_n M by omega)]
                        rw [e0] at hP hD
                        exact ih82 (q2 + 1) _ _ (by omega) (by omega) hP hD hS ls (lv_sub hl [1, 2, 3, 4, 5, 0] rfl)
                      · refine lv_iload hx hb dX6_merge_109 (lv_at hl 6 rfl) ?_
                        refine wn_if_le (a := liveIn (mgM M (mgO M x q2)) q2) (tgt := 157) hx hb (nI_z (by omega)) dX6_merge_111 (by decide) (fun c111_8 => ?_) (fun c111_8 => ?_)
                        · refine lv_iinc (v := nI (q2 + 1)) (lv' := [(5, .int (nI (q2 + 1))), (0, .ref (a 0)), (1, .int (x)), (2, .int (nI (k))), (3, .int (nI (sm))), (4, .int (nI (m_sn M))), (6, .int (nI (liveIn (mgM M (mgO M x q2)) q2))), (7, .int (nI (o)))]) hx hb dX6_merge_157 hl (k := 5) rfl (nI_inc _) (by decide) rfl (fun ls hl => ?_)
                          refine lv_goto (tgt := 82) hx hb dX6_merge_160 (by decide) ?_
                          have e0 : mgI (m_drp M) q2 (m_sn M : Int) (mgO M x q2) o = mgO M x (q2 + 1) := by
                            have ho0 : o = 0 := by
                              rcases Nat.eq_zero_or_pos o with q | q
                              · exact q
                              · exfalso; have h9 := hop q; simp only [pBel, Bool.and_eq_true, decide_eq_true_eq] at h9; omega
                            subst ho0
                            simp only [mgO]; rw [if_neg (by simp only [pBel, Bool.and_eq_true, decide_eq_true_eq]; omega)]; rfl
                          rw [e0] at hP hD
                          exact ih82 (q2 + 1) _ _ (by omega) (by omega) hP hD hS ls (lv_sub hl [1, 2, 3, 4, 5, 0] rfl)
                        · refine lv_iload hx hb dX6_merge_114 (lv_at hl 6 rfl) ?_
                          refine lv_iload_n hx hb dX6_merge_116 rfl (lv_at hl 1 rfl) ?_
                          refine wz_icmp_ge (tgt := 157) hx hb (((liveIn (mgM M (mgO M x q2)) q2 : Nat) : Int)) ((x).toInt) (nI_z (by omega)) rfl dX6_merge_117 (by decide) (fun c117_9 => ?_) (fun c117_9 => ?_)
                          · refine lv_iinc (v := nI (q2 + 1)) (lv' := [(5, .int (nI (q2 + 1))), (0, .ref (a 0)), (1, .int (x)), (2, .int (nI (k))), (3, .int (nI (sm))), (4, .int (nI (m_sn M))), (6, .int (nI (liveIn (mgM M (mgO M x q2)) q2))), (7, .int (nI (o)))]) hx hb dX6_merge_157 hl (k := 5) rfl (nI_inc _) (by decide) rfl (fun ls hl => ?_)
                            refine lv_goto (tgt := 82) hx hb dX6_merge_160 (by decide) ?_
                            have e0 : mgI (m_drp M) q2 (m_sn M : Int) (mgO M x q2) o = mgO M x (q2 + 1) := by
                              have ho0 : o = 0 := by
                                rcases Nat.eq_zero_or_pos o with q | q
                                · exact q
                                · exfalso; have h9 := hop q; simp only [pBel, Bool.and_eq_true, decide_eq_true_eq] at h9; omega
                              subst ho0
                              simp only [mgO]; rw [if_neg (by simp only [pBel, Bool.and_eq_true, decide_eq_true_eq]; omega)]; rfl
                            rw [e0] at hP hD
                            exact ih82 (q2 + 1) _ _ (by omega) (by omega) hP hD hS ls (lv_sub hl [1, 2, 3, 4, 5, 0] rfl)
                          · refine lv_aload_n hx hb dX6_merge_120 rfl (lv_at hl 0 rfl) ?_
                            refine va_get (ci := 6) (v := .ref (a 4)) (C := RX6) (T := TX6) (N := 30) hx hb hts hiX6 hown hK hP 0 rfl rfl 5 (by decide) hf3 (fun _ h9 => h9) rfl dX6_merge_121 ?_
                            refine lv_iload hx hb dX6_merge_124 (lv_at hl 7 rfl) ?_
                            refine wa_i (i := o) (v := zI ((mgI (m_drp M) q2 (m_sn M : Int) (mgO M x q2) o) o)) hx hb hK hP 4 0 rfl rfl rfl (by omega) (by decide) dX6_merge_126 ?_
                            refine lv_iload hx hb dX6_merge_127 (lv_at hl 5 rfl) ?_
                            refine wz_icmp_ne (tgt := 151) hx hb (((mgI (m_drp M) q2 (m_sn M : Int) (mgO M x q2) o) o : Int)) (((q2 : Nat) : Int)) (zI_toInt (by omega) (by omega)) (nI_z (by omega)) dX6_merge_129 (by decide) (fun c129_10 => ?_) (fun c129_10 => ?_)
                            · refine lv_iinc (v := nI (o + 1)) (lv' := [(7, .int (nI (o + 1))), (0, .ref (a 0)), (1, .int (x)), (2, .int (nI (k))), (3, .int (nI (sm))), (4, .int (nI (m_sn M))), (5, .int (nI (q2))), (6, .int (nI (liveIn (mgM M (mgO M x q2)) q2)))]) hx hb dX6_merge_151 hl (k := 7) rfl (nI_inc _) (by decide) rfl (fun ls hl => ?_)
                              refine lv_goto (tgt := 100) hx hb dX6_merge_154 (by decide) ?_
                              have e1 : mgI (m_drp M) q2 (m_sn M : Int) (mgO M x q2) o = mgI (m_drp M) q2 (m_sn M : Int) (mgO M x q2) (o + 1) := by simp only [mgI]; rw [if_neg (by rw [decide_eq_false (by omega)]; simp)]
                              rw [e1] at hP hD
                              exact ih100 (o + 1) _ _ (by omega) (by omega) (fun _ => by simp only [pBel]; rw [Bool.and_eq_true]; exact ⟨decide_eq_true (by omega), decide_eq_true (by omega)⟩) hP hD hS ls (lv_sub hl [1, 2, 3, 4, 5, 6, 7, 0] rfl)
                            · refine lv_aload_n hx hb dX6_merge_132 rfl (lv_at hl 0 rfl) ?_
                              refine va_get (ci := 6) (v := .ref (a 6)) (C := RX6) (T := TX6) (N := 30) hx hb hts hiX6 hown hK hP 0 rfl rfl 7 (by decide) hf4 (fun _ h9 => h9) rfl dX6_merge_133 ?_
                              refine lv_iload hx hb dX6_merge_136 (lv_at hl 7 rfl) ?_
                              refine wa_z (i := o) (v := bI (m_drp M o)) hx hb hK hP 6 2 rfl rfl rfl (by omega) (by decide) dX6_merge_138 ?_
                              refine wb_if_ne (tgt := 151) hx hb dX6_merge_139 (by decide) (fun c139_11 => ?_) (fun c139_11 => ?_)
                              · refine lv_iinc (v := nI (o + 1)) (lv' := [(7, .int (nI (o + 1))), (0, .ref (a 0)), (1, .int (x)), (2, .int (nI (k))), (3, .int (nI (sm))), (4, .int (nI (m_sn M))), (5, .int (nI (q2))), (6, .int (nI (liveIn (mgM M (mgO M x q2)) q2)))]) hx hb dX6_merge_151 hl (k := 7) rfl (nI_inc _) (by decide) rfl (fun ls hl => ?_)
                                refine lv_goto (tgt := 100) hx hb dX6_merge_154 (by decide) ?_
                                have e1 : mgI (m_drp M) q2 (m_sn M : Int) (mgO M x q2) o = mgI (m_drp M) q2 (m_sn M : Int) (mgO M x q2) (o + 1) := by simp only [mgI]; rw [if_neg (by rw [c139_11]; simp)]
                                rw [e1] at hP hD
                                exact ih100 (o + 1) _ _ (by omega) (by omega) (fun _ => by simp only [pBel]; rw [Bool.and_eq_true]; exact ⟨decide_eq_true (by omega), decide_eq_true (by omega)⟩) hP hD hS ls (lv_sub hl [1, 2, 3, 4, 5, 6, 7, 0] rfl)
                              · refine lv_aload_n hx hb dX6_merge_142 rfl (lv_at hl 0 rfl) ?_
                                refine va_get (ci := 6) (v := .ref (a 4)) (C := RX6) (T := TX6) (N := 30) hx hb hts hiX6 hown hK hP 0 rfl rfl 5 (by decide) hf3 (fun _ h9 => h9) rfl dX6_merge_143 ?_
                                refine lv_iload hx hb dX6_merge_146 (lv_at hl 7 rfl) ?_
                                refine lv_iload hx hb dX6_merge_148 (lv_at hl 4 rfl) ?_
                                refine ww_top (y := zI (((m_sn M : Nat) : Int))) (zI_n _).symm ?_
                                refine wa_ist (i := o) hx hb hK hP hD hS 4 0 rfl rfl (upd_zI (mgI (m_drp M) q2 (m_sn M : Int) (mgO M x q2) o) (o) (((m_sn M : Nat) : Int))) (by omega) (by decide) dX6_merge_150 (fun H locs hP hD hS => ?_)
                                have hP : va_P D vwCl (mX cI cJ cZ a (0) (lds) (m_n M) (m_sn M) (m_vn M) (m_rn M) (m_pn M) (m_nw M) (m_grp M) (m_key M) (m_srt M) (m_sd M) (m_go M) (va_up (mgI (m_drp M) q2 (m_sn M : Int) (mgO M x q2) o) (o) (((m_sn M : Nat) : Int))) (m_la M) (m_isN M) (m_drp M) (m_has M) (m_sees M) (m_isC M) (m_isG M) (m_ov M) (m_st M) (m_vo M) (m_ko M) (m_sl M) (m_sc M) (m_kp M) (m_en M) (m_pg M)) H := hP
                                have hD : va_D A (mX cI cJ cZ a (0) (lds) (m_n M) (m_sn M) (m_vn M) (m_rn M) (m_pn M) (m_nw M) (m_grp M) (m_key M) (m_srt M) (m_sd M) (m_go M) (va_up (mgI (m_drp M) q2 (m_sn M : Int) (mgO M x q2) o) (o) (((m_sn M : Nat) : Int))) (m_la M) (m_isN M) (m_drp M) (m_has M) (m_sees M) (m_isC M) (m_isG M) (m_ov M) (m_st M) (m_vo M) (m_ko M) (m_sl M) (m_sc M) (m_kp M) (m_en M) (m_pg M)) := hD
                                refine lv_iinc (v := nI (o + 1)) (lv' := [(7, .int (nI (o + 1))), (0, .ref (a 0)), (1, .int (x)), (2, .int (nI (k))), (3, .int (nI (sm))), (4, .int (nI (m_sn M))), (5, .int (nI (q2))), (6, .int (nI (liveIn (mgM M (mgO M x q2)) q2)))]) hx hb dX6_merge_151 hl (k := 7) rfl (nI_inc _) (by decide) rfl (fun ls hl => ?_)
                                refine lv_goto (tgt := 100) hx hb dX6_merge_154 (by decide) ?_
                                have e1 : va_up (mgI (m_drp M) q2 (m_sn M : Int) (mgO M x q2) o) (o) (((m_sn M : Nat) : Int)) = mgI (m_drp M) q2 (m_sn M : Int) (mgO M x q2) (o + 1) := by simp only [mgI]; rw [if_pos (by rw [Bool.and_eq_true]; exact ⟨decide_eq_true (by omega), by rw [c139_11]; rfl⟩)]
                                rw [e1] at hP hD
                                exact ih100 (o + 1) _ _ (by omega) (by omega) (fun _ => by simp only [pBel]; rw [Bool.and_eq_true]; exact ⟨decide_eq_true (by omega), decide_eq_true (by omega)⟩) hP hD hS ls (lv_sub hl [1, 2, 3, 4, 5, 6, 7, 0] rfl)
                  exact hlp100 _ (0) _ _ (Nat.lt_succ_self _) (Nat.zero_le _) (fun h => absurd h (Nat.lt_irrefl 0)) hP hD hS ls (lv_sub hl [2, 3, 4, 5, 6, 7, 1, 0] rfl)
            exact hlp82 _ (0) _ _ (Nat.lt_succ_self _) (Nat.zero_le _) hP hD hS ls (lv_sub hl [2, 3, 4, 5, 1, 0] rfl)
          · refine lv_bipush (v := zI ((-4))) hx hb dX6_merge_70 (by decide) ?_
            have hPm : va_P D vwCl (mW cI cJ cZ a (0) (lds) M) H := by exact hP
            have hDm : va_D A (mW cI cJ cZ a (0) (lds) M) := by exact hD
            exact W.iret (v := zI ((-4))) hx hb hr (fun t ht hW => ⟨⟨_, (0, lds, M), rfl, ⟨by rw [mergeR, if_neg (by rw [← (show i = m_sn M by omega), ← hk]; omega), if_pos (by omega)], rfl, by rw [mergeM, if_neg (by rw [← (show i = m_sn M by omega), ← hk]; omega), if_pos (by omega)]⟩, gb_mk ht hW hPm hK hDm⟩, hS.F ht⟩) hS.2.2 dX6_merge_72
        · refine lv_iconst (v := nI (0)) hx hb dX6_merge_59 (by decide) ?_
          have hPm : va_P D vwCl (mW cI cJ cZ a (0) (lds) M) H := by exact hP
          have hDm : va_D A (mW cI cJ cZ a (0) (lds) M) := by exact hD
          exact W.iret (v := nI (0)) hx hb hr (fun t ht hW => ⟨⟨_, (0, lds, M), rfl, ⟨by rw [mergeR, if_pos (by rw [← (show i = m_sn M by omega), ← hk]; omega)], rfl, by rw [mergeM, if_pos (by rw [← (show i = m_sn M by omega), ← hk]; omega)]⟩, gb_mk ht hW hPm hK hDm⟩, hS.F ht⟩) hS.2.2 dX6_merge_60
      · refine lv_aload_n hx hb dX6_merge_21 rfl (lv_at hl 0 rfl) ?_
        refine lv_iload hx hb dX6_merge_22 (lv_at hl 4 rfl) ?_
        have hPm : va_P D vwCl (mW cI cJ cZ a (0) (lds) M) H := by exact hP
        refine wc_Vi (As := [.int (nI (i))]) (rest := []) ⟨hx, hb, hml, hown, hts⟩ (c_X6_liveIn l D cI cJ cZ a (0) (lds) M hM (i) (by omega)) (cwV 1 hts gX6_merge_X6_liveIn rfl rfl rfl (by decide +kernel) ⟨Nat.le_of_ble_eq_true rfl, Nat.le_of_ble_eq_true rfl⟩) hPm hK 0 rfl rfl rfl hl.1 rfl (Nat.le_of_ble_eq_true rfl) dX6_merge_24 ⟨Nat.zero_le _, Nat.zero_le _⟩ (fun rr hq12 => ?_)
        have hq12 : rr = nI (liveIn M i) := hq12
        subst hq12
        have hle13 : liveIn M i ≤ 300 := Nat.le_trans (cnt_le _ _) hn
        refine lv_istore (lv' := [(5, .int (nI (liveIn M i))), (0, .ref (a 0)), (1, .int (x)), (2, .int (nI (k))), (3, .int (nI (sm))), (4, .int (nI (i)))]) hx hb dX6_merge_27 hl (by decide) rfl (fun ls hl => ?_)
        refine lv_iload hx hb dX6_merge_29 (lv_at hl 0 rfl) ?_
        refine wn_if_le (a := liveIn M i) (tgt := 48) hx hb (nI_z (by omega)) dX6_merge_31 (by decide) (fun c31_14 => ?_) (fun c31_14 => ?_)
        · refine lv_iinc (v := nI (i + 1)) (lv' := [(4, .int (nI (i + 1))), (5, .int (nI (liveIn M i))), (0, .ref (a 0)), (1, .int (x)), (2, .int (nI (k))), (3, .int (nI (sm)))]) hx hb dX6_merge_48 hl (k := 5) rfl (nI_inc _) (by decide) rfl (fun ls hl => ?_)
          refine lv_goto (tgt := 12) hx hb dX6_merge_51 (by decide) ?_
          exact ih12 (i + 1) (k) (sm)  (by omega) (by omega) (cnt_f hk (by simp only [pBel]; rw [Bool.and_eq_false_iff]; first | exact Or.inl (decide_eq_false (by omega)) | exact Or.inr (decide_eq_false (by omega)))) (sum_f hsm (by simp only [pBel]; rw [Bool.and_eq_false_iff]; first | exact Or.inl (decide_eq_false (by omega)) | exact Or.inr (decide_eq_false (by omega))))  ls (lv_sub hl [2, 3, 4, 5, 0] rfl)
        · refine lv_iload hx hb dX6_merge_34 (lv_at hl 0 rfl) ?_
          refine lv_iload_n hx hb dX6_merge_36 rfl (lv_at hl 2 rfl) ?_
          refine wz_icmp_ge (tgt := 48) hx hb (((liveIn M i : Nat) : Int)) ((x).toInt) (nI_z (by omega)) rfl dX6_merge_37 (by decide) (fun c37_15 => ?_) (fun c37_15 => ?_)
          · refine lv_iinc (v := nI (i + 1)) (lv' := [(4, .int (nI (i + 1))), (5, .int (nI (liveIn M i))), (0, .ref (a 0)), (1, .int (x)), (2, .int (nI (k))), (3, .int (nI (sm)))]) hx hb dX6_merge_48 hl (k := 5) rfl (nI_inc _) (by decide) rfl (fun ls hl => ?_)
            refine lv_goto (tgt := 12) hx hb dX6_merge_51 (by decide) ?_
            exact ih12 (i + 1) (k) (sm)  (by omega) (by omega) (cnt_f hk (by simp only [pBel]; rw [Bool.and_eq_false_iff]; first | exact Or.inl (decide_eq_false (by omega)) | exact Or.inr (decide_eq_false (by omega)))) (sum_f hsm (by simp only [pBel]; rw [Bool.and_eq_false_iff]; first | exact Or.inl (decide_eq_false (by omega)) | exact Or.inr (decide_eq_false (by omega))))  ls (lv_sub hl [2, 3, 4, 5, 0] rfl)
          · refine lv_iinc (v := nI (k + 1)) (lv' := [(2, .int (nI (k + 1))), (5, .int (nI (liveIn M i))), (0, .ref (a 0)), (1, .int (x)), (3, .int (nI (sm))), (4, .int (nI (i)))]) hx hb dX6_merge_40 hl (k := 3) rfl (nI_inc _) (by decide) rfl (fun ls hl => ?_)
            refine lv_iload_n hx hb dX6_merge_43 rfl (lv_at hl 4 rfl) ?_
            refine lv_iload hx hb dX6_merge_44 (lv_at hl 1 rfl) ?_
            refine lv_iadd hx hb dX6_merge_46 (ww_top (y := nI (sm + liveIn M i)) (nI_addn _ _) ?_)
            refine lv_istore_n (lv' := [(3, .int (nI (sm + liveIn M i))), (2, .int (nI (k + 1))), (5, .int (nI (liveIn M i))), (0, .ref (a 0)), (1, .int (x)), (4, .int (nI (i)))]) hx hb dX6_merge_47 rfl hl (by decide) rfl (fun ls hl => ?_)
            refine lv_iinc (v := nI (i + 1)) (lv' := [(4, .int (nI (i + 1))), (3, .int (nI (sm + liveIn M i))), (2, .int (nI (k + 1))), (5, .int (nI (liveIn M i))), (0, .ref (a 0)), (1, .int (x))]) hx hb dX6_merge_48 hl (k := 5) rfl (nI_inc _) (by decide) rfl (fun ls hl => ?_)
            refine lv_goto (tgt := 12) hx hb dX6_merge_51 (by decide) ?_
            exact ih12 (i + 1) (k + 1) (sm + liveIn M i)  (by omega) (by omega) (cnt_t hk (by simp only [pBel]; rw [Bool.and_eq_true]; exact ⟨decide_eq_true (by omega), decide_eq_true (by omega)⟩)) (sum_t hsm (by simp only [pBel]; rw [Bool.and_eq_true]; exact ⟨decide_eq_true (by omega), decide_eq_true (by omega)⟩))  ls (lv_sub hl [4, 5, 2, 1, 0] rfl)
  exact hlp12 _ (0) (0) (0)  (Nat.lt_succ_self _) (Nat.zero_le _) (rfl) (rfl)  ls (lv_sub hl [3, 4, 2, 1, 0] rfl)
