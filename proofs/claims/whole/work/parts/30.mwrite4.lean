def rm_X6_take : Room := { frames := 4, cells := 0, slots := 0, locals := 108 }
set_option maxHeartbeats 4000000 in
set_option maxRecDepth 100000 in
/-- a cursor gives a page -/
theorem c_X6_take (l : Launch) (D : va_G) (cI cJ cZ : ClassId) (a : Nat → Nat) (th : Nat) (lds : Nat → Bool) (M : MT) (hM : mOk M) (x w : Int32) (sz : Nat) : Met l yX6_take wsX6_take rm_X6_take (va_Pc [.ref (a 0), .int (x), .int (w)] (GW D (tyW cI cJ cZ) (mW cI cJ cZ a (th) (lds) M) sz)) (va_Qi (fun rr u => rr = takeR M x w ∧ u.1 = takeT M x w ∧ u.2.2 = takeM M x w) (fun u => GB D (tyW cI cJ cZ) (va_A (mW cI cJ cZ a (th) (lds) M) sz) (mWu cI cJ cZ a u)) (va_A (mW cI cJ cZ a (th) (lds) M) sz)) 0 0 (va_A (mW cI cJ cZ a (th) (lds) M) sz) := by
  obtain ⟨hn, hsn, hvn, hrn, hpn, hnw, h_seg, h_la, h_st, h_vo, h_ko, h_sl, h_sc, h_kp, h_en, h_pg, hvo, hko, hsl, hsc⟩ := id hM
  have hixx := ix_c x
  have hixw := ix_c w
  refine Met.ofW (cc := cX6_take) (maxL := 4) (ret := (some .int)) (by decide) rfl ?_
  intro p e s m args below meth c s₁ B hml hv
  obtain ⟨rfl, hsz, hP, hK, hD0⟩ := hv
  have hx := B.exec
  have hb := B.bytes
  have hr := B.returns
  have hts := atoms_spec (ws := wsX6_take) B.pre
  have hown : s.vm.findClass RX6 = some m.cls := findClass_of_methodNamed B.named
  have hlocks := B.notSynchronized
  subst hsz
  have hD := hD0.self (sz := s.heap.size)
  generalize hAe : va_A (mW cI cJ cZ a (th) (lds) M) s.heap.size = A at hD ⊢
  have hA : ∀ q : Nat, s.heap.size ≤ q → A q := fun q h => by rw [← hAe]; exact Or.inr h
  have hS : va_S A s.heap s.heap [] := va_S.rf
  have hP : va_P D vwCl (mX cI cJ cZ a (th) (lds) (m_n M) (m_sn M) (m_vn M) (m_rn M) (m_pn M) (m_nw M) (m_grp M) (m_key M) (m_srt M) (m_sd M) (m_go M) (m_seg M) (m_la M) (m_isN M) (m_drp M) (m_has M) (m_sees M) (m_isC M) (m_isG M) (m_ov M) (m_st M) (m_vo M) (m_ko M) (m_sl M) (m_sc M) (m_kp M) (m_en M) (m_pg M)) s.heap := hP
  have hD : va_D A (mX cI cJ cZ a (th) (lds) (m_n M) (m_sn M) (m_vn M) (m_rn M) (m_pn M) (m_nw M) (m_grp M) (m_key M) (m_srt M) (m_sd M) (m_go M) (m_seg M) (m_la M) (m_isN M) (m_drp M) (m_has M) (m_sees M) (m_isC M) (m_isG M) (m_ov M) (m_st M) (m_vo M) (m_ko M) (m_sl M) (m_sc M) (m_kp M) (m_en M) (m_pg M)) := hD
  have hiX6 : ∀ w ∈ wsX60, w ∈ wsX6_take := by decide +kernel
  have hf0 := hts (.fieldLink RX6 81 "GroupCursorsModel" "thrown" "I") (by decide +kernel)
  have hf1 := hts (.fieldLink RX6 48 "GroupCursorsModel" "isCursor" "[Z") (by decide +kernel)
  have hf2 := hts (.fieldLink RX6 69 "GroupCursorsModel" "isOver" "[Z") (by decide +kernel)
  have hf3 := hts (.fieldLink RX6 196 "GroupCursorsModel" "pages" "I") (by decide +kernel)
  have hf4 := hts (.fieldLink RX6 60 "GroupCursorsModel" "end" "[I") (by decide +kernel)
  have hf5 := hts (.fieldLink RX6 190 "GroupCursorsModel" "now" "I") (by decide +kernel)
  have hf6 := hts (.fieldLink RX6 57 "GroupCursorsModel" "keep" "[I") (by decide +kernel)
  have hf7 := hts (.fieldLink RX6 75 "GroupCursorsModel" "page" "[I") (by decide +kernel)
  have hf8 := hts (.fieldLink RX6 72 "GroupCursorsModel" "last" "[I") (by decide +kernel)
  have hl := lv_entry ([.ref (a 0), .int (x), .int (w)]) (n := 4) (Nat.le_of_ble_eq_true rfl)
  rw [lg_entry_eq]
  generalize (lg_sl ([.ref (a 0), .int (x), .int (w)]) ++ List.replicate (4 - (lg_sl ([.ref (a 0), .int (x), .int (w)])).length) Slot.unset).toArray = ls at hl ⊢
  have hl : lv_has ls 4 [(0, .ref (a 0)), (1, .int (x)), (2, .int (w))] := hl
  refine lv_aload_n hx hb dX6_take_0 rfl (lv_at hl 0 rfl) ?_
  refine lv_iconst (v := nI (0)) hx hb dX6_take_1 (by decide) ?_
  refine va_put (ci := 6) (v := .int (nI (0))) (ty := .int) (C := RX6) (T := TX6) (N := 30) hx hb hts hiX6 tyX6 tyX6_ok nmX6 hown hK hP hD hS 0 rfl rfl 0 (by decide) hf0 (fun _ h9 => h9) rfl (by decide +kernel) rfl rfl (Nat.le_of_ble_eq_true rfl) dX6_take_2 (fun H locs hP hD hS => ?_)
  have hP : va_P D vwCl (mX cI cJ cZ a (0) (lds) (m_n M) (m_sn M) (m_vn M) (m_rn M) (m_pn M) (m_nw M) (m_grp M) (m_key M) (m_srt M) (m_sd M) (m_go M) (m_seg M) (m_la M) (m_isN M) (m_drp M) (m_has M) (m_sees M) (m_isC M) (m_isG M) (m_ov M) (m_st M) (m_vo M) (m_ko M) (m_sl M) (m_sc M) (m_kp M) (m_en M) (m_pg M)) H := hP
  have hD : va_D A (mX cI cJ cZ a (0) (lds) (m_n M) (m_sn M) (m_vn M) (m_rn M) (m_pn M) (m_nw M) (m_grp M) (m_key M) (m_srt M) (m_sd M) (m_go M) (m_seg M) (m_la M) (m_isN M) (m_drp M) (m_has M) (m_sees M) (m_isC M) (m_isG M) (m_ov M) (m_st M) (m_vo M) (m_ko M) (m_sl M) (m_sc M) (m_kp M) (m_en M) (m_pg M)) := hD
  refine lv_aload_n hx hb dX6_take_5 rfl (lv_at hl 0 rfl) ?_
  refine lv_iload_n hx hb dX6_take_6 rfl (lv_at hl 1 rfl) ?_
  have hPm : va_P D vwCl (mW cI cJ cZ a (0) (lds) M) H := by exact hP
  refine wc_Vi (As := [.int (x)]) (rest := []) ⟨hx, hb, hml, hown, hts⟩ (c_X6_isReader l D cI cJ cZ a (0) (lds) M hM (x)) (cwV 1 hts gX6_take_X6_isReader rfl rfl rfl (by decide +kernel) ⟨Nat.le_of_ble_eq_true rfl, Nat.le_of_ble_eq_true rfl⟩) hPm hK 0 rfl rfl rfl hl.1 rfl (Nat.le_of_ble_eq_true rfl) dX6_take_7 ⟨Nat.zero_le _, Nat.zero_le _⟩ (fun rr hq1 => ?_)
  have hq1 : rr = bI (decide (0 ≤ (x).toInt ∧ (x).toInt < (m_rn M : Int))) := hq1
  subst hq1
  refine wb_if_ne (tgt := 19) hx hb dX6_take_10 (by decide) (fun c10_2 => ?_) (fun c10_2 => ?_)
  · have c10_2p := of_decide_eq_true c10_2
    refine lv_iload_n hx hb dX6_take_19 rfl (lv_at hl 2 rfl) ?_
    refine lv_iconst (v := nI (1)) hx hb dX6_take_20 (by decide) ?_
    refine wz_icmp_lt (tgt := 39) hx hb ((w).toInt) (((1 : Nat) : Int)) rfl (nI_z (by omega)) dX6_take_21 (by decide) (fun c21_3 => ?_) (fun c21_3 => ?_)
    · refine lv_aload_n hx hb dX6_take_39 rfl (lv_at hl 0 rfl) ?_
      refine lv_iconst (v := nI (2)) hx hb dX6_take_40 (by decide) ?_
      have hPm : va_P D vwCl (mW cI cJ cZ a (0) (lds) M) H := by exact hP
      have hDm : va_D A (mW cI cJ cZ a (0) (lds) M) := by exact hD
      refine wc_VWi (As := [.int (nI (2))]) (rest := []) (wf := mWu cI cJ cZ a) ⟨hx, hb, hml, hown, hts⟩ (c_X6_fails l D cI cJ cZ a (0) (lds) M hM (2) (by omega) H.size) (cwV 1 hts gX6_take_X6_fails rfl rfl rfl (by decide +kernel) ⟨Nat.le_of_ble_eq_true rfl, Nat.le_of_ble_eq_true rfl⟩) hPm hK hDm hS hA 0 rfl rfl rfl hl.1 rfl (Nat.le_of_ble_eq_true rfl) dX6_take_41 ⟨Nat.zero_le _, Nat.zero_le _⟩ (fun rr u4 hq4 H locs hP hD hS => ?_)
      obtain ⟨hr4, hu4⟩ := hq4
      subst hr4
      subst hu4
      have hP : va_P D vwCl (mX cI cJ cZ a (2) (lds) (m_n M) (m_sn M) (m_vn M) (m_rn M) (m_pn M) (m_nw M) (m_grp M) (m_key M) (m_srt M) (m_sd M) (m_go M) (m_seg M) (m_la M) (m_isN M) (m_drp M) (m_has M) (m_sees M) (m_isC M) (m_isG M) (m_ov M) (m_st M) (m_vo M) (m_ko M) (m_sl M) (m_sc M) (m_kp M) (m_en M) (m_pg M)) H := hP
      have hD : va_D A (mX cI cJ cZ a (2) (lds) (m_n M) (m_sn M) (m_vn M) (m_rn M) (m_pn M) (m_nw M) (m_grp M) (m_key M) (m_srt M) (m_sd M) (m_go M) (m_seg M) (m_la M) (m_isN M) (m_drp M) (m_has M) (m_sees M) (m_isC M) (m_isG M) (m_ov M) (m_st M) (m_vo M) (m_ko M) (m_sl M) (m_sc M) (m_kp M) (m_en M) (m_pg M)) := hD
      have hPm : va_P D vwCl (mW cI cJ cZ a (2) (lds) M) H := by exact hP
      have hDm : va_D A (mW cI cJ cZ a (2) (lds) M) := by exact hD
      exact W.iret (v := nI (0)) hx hb hr (fun t ht hW => ⟨⟨_, (2, lds, M), rfl, ⟨(by simp only [takeR]; (repeat' split) <;> first | rfl | (exfalso; omega)), (by simp only [takeT]; (repeat' split) <;> first | rfl | (exfalso; omega)), (by simp only [takeM]; (repeat' split) <;> first | rfl | (exfalso; omega))⟩, gb_mk ht hW hPm hK hDm⟩, hS.F ht⟩) hS.2.2 dX6_take_44
    · refine lv_iload_n hx hb dX6_take_24 rfl (lv_at hl 2 rfl) ?_
      refine lv_bipush (v := nI (50)) hx hb dX6_take_25 (by decide) ?_
      refine wz_icmp_gt (tgt := 39) hx hb ((w).toInt) (((50 : Nat) : Int)) rfl (nI_z (by omega)) dX6_take_27 (by decide) (fun c27_5 => ?_) (fun c27_5 => ?_)
      · refine lv_aload_n hx hb dX6_take_39 rfl (lv_at hl 0 rfl) ?_
        refine lv_iconst (v := nI (2)) hx hb dX6_take_40 (by decide) ?_
        have hPm : va_P D vwCl (mW cI cJ cZ a (0) (lds) M) H := by exact hP
        have hDm : va_D A (mW cI cJ cZ a (0) (lds) M) := by exact hD
        refine wc_VWi (As := [.int (nI (2))]) (rest := []) (wf := mWu cI cJ cZ a) ⟨hx, hb, hml, hown, hts⟩ (c_X6_fails l D cI cJ cZ a (0) (lds) M hM (2) (by omega) H.size) (cwV 1 hts gX6_take_X6_fails rfl rfl rfl (by decide +kernel) ⟨Nat.le_of_ble_eq_true rfl, Nat.le_of_ble_eq_true rfl⟩) hPm hK hDm hS hA 0 rfl rfl rfl hl.1 rfl (Nat.le_of_ble_eq_true rfl) dX6_take_41 ⟨Nat.zero_le _, Nat.zero_le _⟩ (fun rr u6 hq6 H locs hP hD hS => ?_)
        obtain ⟨hr6, hu6⟩ := hq6
        subst hr6
        subst hu6
        have hP : va_P D vwCl (mX cI cJ cZ a (2) (lds) (m_n M) (m_sn M) (m_vn M) (m_rn M) (m_pn M) (m_nw M) (m_grp M) (m_key M) (m_srt M) (m_sd M) (m_go M) (m_seg M) (m_la M) (m_isN M) (m_drp M) (m_has M) (m_sees M) (m_isC M) (m_isG M) (m_ov M) (m_st M) (m_vo M) (m_ko M) (m_sl M) (m_sc M) (m_kp M) (m_en M) (m_pg M)) H := hP
        have hD : va_D A (mX cI cJ cZ a (2) (lds) (m_n M) (m_sn M) (m_vn M) (m_rn M) (m_pn M) (m_nw M) (m_grp M) (m_key M) (m_srt M) (m_sd M) (m_go M) (m_seg M) (m_la M) (m_isN M) (m_drp M) (m_has M) (m_sees M) (m_isC M) (m_isG M) (m_ov M) (m_st M) (m_vo M) (m_ko M) (m_sl M) (m_sc M) (m_kp M) (m_en M) (m_pg M)) := hD
        have hPm : va_P D vwCl (mW cI cJ cZ a (2) (lds) M) H := by exact hP
        have hDm : va_D A (mW cI cJ cZ a (2) (lds) M) := by exact hD
        exact W.iret (v := nI (0)) hx hb hr (fun t ht hW => ⟨⟨_, (2, lds, M), rfl, ⟨(by simp only [takeR]; (repeat' split) <;> first | rfl | (exfalso; omega)), (by simp only [takeT]; (repeat' split) <;> first | rfl | (exfalso; omega)), (by simp only [takeM]; (repeat' split) <;> first | rfl | (exfalso; omega))⟩, gb_mk ht hW hPm hK hDm⟩, hS.F ht⟩) hS.2.2 dX6_take_44
      · refine lv_aload_n hx hb dX6_take_30 rfl (lv_at hl 0 rfl) ?_
        refine va_get (ci := 6) (v := .ref (a 13)) (C := RX6) (T := TX6) (N := 30) hx hb hts hiX6 hown hK hP 0 rfl rfl 17 (by decide) hf1 (fun _ h9 => h9) rfl dX6_take_31 ?_
        refine lv_iload_n hx hb dX6_take_34 rfl (lv_at hl 1 rfl) ?_
        refine ww_top (y := nI (ix x)) (ix_n (by omega)) ?_
        refine wa_z (i := ix x) (v := bI (m_isC M (ix x))) hx hb hK hP 13 2 rfl rfl rfl (by omega) (by decide) dX6_take_35 ?_
        refine wb_if_ne (tgt := 45) hx hb dX6_take_36 (by decide) (fun c36_7 => ?_) (fun c36_7 => ?_)
        · refine lv_aload_n hx hb dX6_take_45 rfl (lv_at hl 0 rfl) ?_
          refine va_get (ci := 6) (v := .ref (a 20)) (C := RX6) (T := TX6) (N := 30) hx hb hts hiX6 hown hK hP 0 rfl rfl 24 (by decide) hf2 (fun _ h9 => h9) rfl dX6_take_46 ?_
          refine lv_iload_n hx hb dX6_take_49 rfl (lv_at hl 1 rfl) ?_
          refine ww_top (y := nI (ix x)) (ix_n (by omega)) ?_
          refine wa_z (i := ix x) (v := bI (m_ov M (ix x))) hx hb hK hP 20 2 rfl rfl rfl (by omega) (by decide) dX6_take_50 ?_
          refine wb_if_eq (tgt := 56) hx hb dX6_take_51 (by decide) (fun c51_8 => ?_) (fun c51_8 => ?_)
          · refine lv_aload_n hx hb dX6_take_56 rfl (lv_at hl 0 rfl) ?_
            refine lv_iconst (v := nI (0)) hx hb dX6_take_57 (by decide) ?_
            refine va_put (ci := 6) (v := .int (nI (0))) (ty := .int) (C := RX6) (T := TX6) (N := 30) hx hb hts hiX6 tyX6 tyX6_ok nmX6 hown hK hP hD hS 0 rfl rfl 28 (by decide) hf3 (fun _ h9 => h9) rfl (by decide +kernel) rfl rfl (Nat.le_of_ble_eq_true rfl) dX6_take_58 (fun H locs hP hD hS => ?_)
            have hP : va_P D vwCl (mX cI cJ cZ a (0) (lds) (m_n M) (m_sn M) (m_vn M) (m_rn M) (0) (m_nw M) (m_grp M) (m_key M) (m_srt M) (m_sd M) (m_go M) (m_seg M) (m_la M) (m_isN M) (m_drp M) (m_has M) (m_sees M) (m_isC M) (m_isG M) (m_ov M) (m_st M) (m_vo M) (m_ko M) (m_sl M) (m_sc M) (m_kp M) (m_en M) (m_pg M)) H := hP
            have hD : va_D A (mX cI cJ cZ a (0) (lds) (m_n M) (m_sn M) (m_vn M) (m_rn M) (0) (m_nw M) (m_grp M) (m_key M) (m_srt M) (m_sd M) (m_go M) (m_seg M) (m_la M) (m_isN M) (m_drp M) (m_has M) (m_sees M) (m_isC M) (m_isG M) (m_ov M) (m_st M) (m_vo M) (m_ko M) (m_sl M) (m_sc M) (m_kp M) (m_en M) (m_pg M)) := hD
            have hPm : va_P D vwCl (mW cI cJ cZ a (0) (lds) (mkM (m_n M) (m_sn M) (m_vn M) (m_rn M) (0) (m_nw M) (m_grp M) (m_key M) (m_srt M) (m_sd M) (m_go M) (m_seg M) (m_la M) (m_isN M) (m_drp M) (m_has M) (m_sees M) (m_isC M) (m_isG M) (m_ov M) (m_st M) (m_vo M) (m_ko M) (m_sl M) (m_sc M) (m_kp M) (m_en M) (m_pg M))) H := by rw [← mX_mk]; exact hP
            have hDm : va_D A (mW cI cJ cZ a (0) (lds) (mkM (m_n M) (m_sn M) (m_vn M) (m_rn M) (0) (m_nw M) (m_grp M) (m_key M) (m_srt M) (m_sd M) (m_go M) (m_seg M) (m_la M) (m_isN M) (m_drp M) (m_has M) (m_sees M) (m_isC M) (m_isG M) (m_ov M) (m_st M) (m_vo M) (m_ko M) (m_sl M) (m_sc M) (m_kp M) (m_en M) (m_pg M))) := by rw [← mX_mk]; exact hD
            have e9 : (mkM (m_n M) (m_sn M) (m_vn M) (m_rn M) (0) (m_nw M) (m_grp M) (m_key M) (m_srt M) (m_sd M) (m_go M) (m_seg M) (m_la M) (m_isN M) (m_drp M) (m_has M) (m_sees M) (m_isC M) (m_isG M) (m_ov M) (m_st M) (m_vo M) (m_ko M) (m_sl M) (m_sc M) (m_kp M) (m_en M) (m_pg M)) = (tkS M (ix x) 0) := rfl
            rw [e9] at hPm hDm
            have hP : va_P D vwCl (mX cI cJ cZ a (0) (lds) (m_n (tkS M (ix x) 0)) (m_sn (tkS M (ix x) 0)) (m_vn (tkS M (ix x) 0)) (m_rn (tkS M (ix x) 0)) (m_pn (tkS M (ix x) 0)) (m_nw (tkS M (ix x) 0)) (m_grp (tkS M (ix x) 0)) (m_key (tkS M (ix x) 0)) (m_srt (tkS M (ix x) 0)) (m_sd (tkS M (ix x) 0)) (m_go (tkS M (ix x) 0)) (m_seg (tkS M (ix x) 0)) (m_la (tkS M (ix x) 0)) (m_isN (tkS M (ix x) 0)) (m_drp (tkS M (ix x) 0)) (m_has (tkS M (ix x) 0)) (m_sees (tkS M (ix x) 0)) (m_isC (tkS M (ix x) 0)) (m_isG (tkS M (ix x) 0)) (m_ov (tkS M (ix x) 0)) (m_st (tkS M (ix x) 0)) (m_vo (tkS M (ix x) 0)) (m_ko (tkS M (ix x) 0)) (m_sl (tkS M (ix x) 0)) (m_sc (tkS M (ix x) 0)) (m_kp (tkS M (ix x) 0)) (m_en (tkS M (ix x) 0)) (m_pg (tkS M (ix x) 0))) H := hPm
            have hD : va_D A (mX cI cJ cZ a (0) (lds) (m_n (tkS M (ix x) 0)) (m_sn (tkS M (ix x) 0)) (m_vn (tkS M (ix x) 0)) (m_rn (tkS M (ix x) 0)) (m_pn (tkS M (ix x) 0)) (m_nw (tkS M (ix x) 0)) (m_grp (tkS M (ix x) 0)) (m_key (tkS M (ix x) 0)) (m_srt (tkS M (ix x) 0)) (m_sd (tkS M (ix x) 0)) (m_go (tkS M (ix x) 0)) (m_seg (tkS M (ix x) 0)) (m_la (tkS M (ix x) 0)) (m_isN (tkS M (ix x) 0)) (m_drp (tkS M (ix x) 0)) (m_has (tkS M (ix x) 0)) (m_sees (tkS M (ix x) 0)) (m_isC (tkS M (ix x) 0)) (m_isG (tkS M (ix x) 0)) (m_ov (tkS M (ix x) 0)) (m_st (tkS M (ix x) 0)) (m_vo (tkS M (ix x) 0)) (m_ko (tkS M (ix x) 0)) (m_sl (tkS M (ix x) 0)) (m_sc (tkS M (ix x) 0)) (m_kp (tkS M (ix x) 0)) (m_en (tkS M (ix x) 0)) (m_pg (tkS M (ix x) 0))) := hDm
            refine lv_aload_n hx hb dX6_take_61 rfl (lv_at hl 0 rfl) ?_
            refine lv_iload_n hx hb dX6_take_62 rfl (lv_at hl 1 rfl) ?_
            refine ww_top (y := nI (ix x)) (ix_n (by omega)) ?_
            have hPm : va_P D vwCl (mW cI cJ cZ a (0) (lds) (tkS M (ix x) 0)) H := by exact hP
            refine wc_Vi (As := [.int (nI (ix x))]) (rest := []) ⟨hx, hb, hml, hown, hts⟩ (c_X6_nextOf l D cI cJ cZ a (0) (lds) (tkS M (ix x) 0) (ok_tkS hM (ix x) 0 (by omega)) (ix x) (by omega)) (cwV 1 hts gX6_take_X6_nextOf rfl rfl rfl (by decide +kernel) ⟨Nat.le_of_ble_eq_true rfl, Nat.le_of_ble_eq_true rfl⟩) hPm hK 0 rfl rfl rfl hl.1 rfl (Nat.le_of_ble_eq_true rfl) dX6_take_63 ⟨Nat.zero_le _, Nat.zero_le _⟩ (fun rr hq9 => ?_)
            have hq9 : rr = zI (nextOf (tkS M (ix x) 0) (ix x)) := hq9
            subst hq9
            have hnq10 : m_n (tkS M (ix x) 0) ≤ 300 := ((ok_tkS hM (ix x) 0 (by omega))).1
            have hfl11 : -1 ≤ (nextOf (tkS M (ix x) 0) (ix x) : Int) ∧ (nextOf (tkS M (ix x) 0) (ix x) : Int) < (m_n (tkS M (ix x) 0) : Int) := following_in _ _ _ _ _ _ _ _ _
            refine lv_istore_n (lv' := [(3, .int (zI (nextOf (tkS M (ix x) 0) (ix x)))), (0, .ref (a 0)), (1, .int (x)), (2, .int (w))]) hx hb dX6_take_66 rfl hl (by decide) rfl (fun ls hl => ?_)
            have hlp67 : ∀ (d : Nat) (j : Nat) (ob : Int) (H : Heap) (locs : List Loc), ix w + 1 - j < d → (j ≤ ix w) → (ob = if j < ix w then nextOf (tkS M (ix x) j) (ix x) else -1) → (j ≤ fstB (tkP M (ix x)) (ix w)) → va_P D vwCl (mX cI cJ cZ a (0) (lds) (m_n (tkS M (ix x) j)) (m_sn (tkS M (ix x) j)) (m_vn (tkS M (ix x) j)) (m_rn (tkS M (ix x) j)) (m_pn (tkS M (ix x) j)) (m_nw (tkS M (ix x) j)) (m_grp (tkS M (ix x) j)) (m_key (tkS M (ix x) j)) (m_srt (tkS M (ix x) j)) (m_sd (tkS M (ix x) j)) (m_go (tkS M (ix x) j)) (m_seg (tkS M (ix x) j)) (m_la (tkS M (ix x) j)) (m_isN (tkS M (ix x) j)) (m_drp (tkS M (ix x) j)) (m_has (tkS M (ix x) j)) (m_sees (tkS M (ix x) j)) (m_isC (tkS M (ix x) j)) (m_isG (tkS M (ix x) j)) (m_ov (tkS M (ix x) j)) (m_st (tkS M (ix x) j)) (m_vo (tkS M (ix x) j)) (m_ko (tkS M (ix x) j)) (m_sl (tkS M (ix x) j)) (m_sc (tkS M (ix x) j)) (m_kp (tkS M (ix x) j)) (m_en (tkS M (ix x) j)) (m_pg (tkS M (ix x) j))) H → va_D A (mX cI cJ cZ a (0) (lds) (m_n (tkS M (ix x) j)) (m_sn (tkS M (ix x) j)) (m_vn (tkS M (ix x) j)) (m_rn (tkS M (ix x) j)) (m_pn (tkS M (ix x) j)) (m_nw (tkS M (ix x) j)) (m_grp (tkS M (ix x) j)) (m_key (tkS M (ix x) j)) (m_srt (tkS M (ix x) j)) (m_sd (tkS M (ix x) j)) (m_go (tkS M (ix x) j)) (m_seg (tkS M (ix x) j)) (m_la (tkS M (ix x) j)) (m_isN (tkS M (ix x) j)) (m_drp (tkS M (ix x) j)) (m_has (tkS M (ix x) j)) (m_sees (tkS M (ix x) j)) (m_isC (tkS M (ix x) j)) (m_isG (tkS M (ix x) j)) (m_ov (tkS M (ix x) j)) (m_st (tkS M (ix x) j)) (m_vo (tkS M (ix x) j)) (m_ko (tkS M (ix x) j)) (m_sl (tkS M (ix x) j)) (m_sc (tkS M (ix x) j)) (m_kp (tkS M (ix x) j)) (m_en (tkS M (ix x) j)) (m_pg (tkS M (ix x) j))) → va_S A s.heap H locs → ∀ (ls : Array Slot), lv_has ls 4 [(0, .ref (a 0)), (1, .int (x)), (2, .int (w)), (3, .int (zI (ob)))] → W p l e (headSpec wsX6_take rm_X6_take).room s m ([.ref (a 0), .int (x), .int (w)] : List Value).toArray below meth c H locs (0) (0) (MQ below (va_Qi (fun rr u => rr = takeR M x w ∧ u.1 = takeT M x w ∧ u.2.2 = takeM M x w) (fun u => GB D (tyW cI cJ cZ) A (mWu cI cJ cZ a u)) A) ([.ref (a 0), .int (x), .int (w)] : List Value).toArray s 0 0 A) (F0 m 67 ls []) := by
              intro d
              induction d with
              | zero => intro j ob H locs hd67; exact absurd hd67 (Nat.not_lt_zero _)
              | succ d ih67 =>
                intro j ob H locs hd67 hjk hob hjf hP hD hS ls hl
                have epn := tkS_pn M (ix x) j
                have hMj := ok_tkS hM (ix x) j (by omega)
                have hnj : m_n (tkS M (ix x) j) ≤ 300 := hMj.1
                have hobr : -1 ≤ ob ∧ ob < 300 := by
                  have := following_in (tkS M (ix x) j) (m_vo (tkS M (ix x) j) (ix x)) (m_ko (tkS M (ix x) j) (ix x)) (m_sd (tkS M (ix x) j) (ix x)) (m_la (tkS M (ix x) j) (ix x)) (m_isG (tkS M (ix x) j) (ix x)) (m_go (tkS M (ix x) j) (ix x)) (if m_isC (tkS M (ix x) j) (ix x) then m_sl (tkS M (ix x) j) (ix x) else 0) (m_sc (tkS M (ix x) j) (ix x))
                  rw [hob]
                  split
                  · have q : -1 ≤ nextOf (tkS M (ix x) j) (ix x) ∧ nextOf (tkS M (ix x) j) (ix x) < (m_n (tkS M (ix x) j) : Int) := this
                    omega
                  · omega
                refine lv_iload_n hx hb dX6_take_67 rfl (lv_at hl 3 rfl) ?_
                refine wz_if_lt (tgt := 127) hx hb ((ob : Int)) (zI_toInt (by omega) (by omega)) dX6_take_68 (by decide) (fun c68_12 => ?_) (fun c68_12 => ?_)
                · have hjN : tkN M (ix x) (ix w) = j := by
                    unfold tkN
                    rcases Nat.lt_or_ge j (ix w) with q | q
                    · have : nextOf (tkS M (ix x) j) (ix x) < 0 := by rw [if_pos q] at hob; omega
                      exact fst_here hjf (by simp only [tkP]; exact decide_eq_true this)
                    · have := fstB_le (tkP M (ix x)) (ix w); omega
                  refine lv_aload_n hx hb dX6_take_127 rfl (lv_at hl 0 rfl) ?_
                  refine va_get (ci := 6) (v := .ref (a 17)) (C := RX6) (T := TX6) (N := 30) hx hb hts hiX6 hown hK hP 0 rfl rfl 21 (by decide) hf4 (fun _ h9 => h9) rfl dX6_take_128 ?_
                  refine lv_iload_n hx hb dX6_take_131 rfl (lv_at hl 1 rfl) ?_
                  refine ww_top (y := nI (ix x)) (ix_n (by omega)) ?_
                  refine lv_aload_n hx hb dX6_take_132 rfl (lv_at hl 0 rfl) ?_
                  refine va_get (ci := 6) (v := .int (nI (m_nw (tkS M (ix x) j)))) (C := RX6) (T := TX6) (N := 30) hx hb hts hiX6 hown hK hP 0 rfl rfl 26 (by decide) hf5 (fun _ h9 => h9) rfl dX6_take_133 ?_
                  refine lv_aload_n hx hb dX6_take_136 rfl (lv_at hl 0 rfl) ?_
                  refine va_get (ci := 6) (v := .ref (a 16)) (C := RX6) (T := TX6) (N := 30) hx hb hts hiX6 hown hK hP 0 rfl rfl 20 (by decide) hf6 (fun _ h9 => h9) rfl dX6_take_137 ?_
                  refine lv_iload_n hx hb dX6_take_140 rfl (lv_at hl 1 rfl) ?_
                  refine ww_top (y := nI (ix x)) (ix_n (by omega)) ?_
                  refine wa_i (i := ix x) (v := nI (m_kp (tkS M (ix x) j) (ix x))) hx hb hK hP 16 0 rfl rfl rfl (by omega) (by decide) dX6_take_141 ?_
                  refine lv_iadd hx hb dX6_take_142 (ww_top (y := nI (m_nw (tkS M (ix x) j) + m_kp (tkS M (ix x) j) (ix x))) (nI_addn _ _) ?_)
                  refine wa_ist (i := ix x) hx hb hK hP hD hS 17 0 rfl rfl (upd_nI (m_en (tkS M (ix x) j)) (ix x) (m_nw (tkS M (ix x) j) + m_kp (tkS M (ix x) j) (ix x))) (by omega) (by decide) dX6_take_143 (fun H locs hP hD hS => ?_)
                  have hP : va_P D vwCl (mX cI cJ cZ a (0) (lds) (m_n (tkS M (ix x) j)) (m_sn (tkS M (ix x) j)) (m_vn (tkS M (ix x) j)) (m_rn (tkS M (ix x) j)) (m_pn (tkS M (ix x) j)) (m_nw (tkS M (ix x) j)) (m_grp (tkS M (ix x) j)) (m_key (tkS M (ix x) j)) (m_srt (tkS M (ix x) j)) (m_sd (tkS M (ix x) j)) (m_go (tkS M (ix x) j)) (m_seg (tkS M (ix x) j)) (m_la (tkS M (ix x) j)) (m_isN (tkS M (ix x) j)) (m_drp (tkS M (ix x) j)) (m_has (tkS M (ix x) j)) (m_sees (tkS M (ix x) j)) (m_isC (tkS M (ix x) j)) (m_isG (tkS M (ix x) j)) (m_ov (tkS M (ix x) j)) (m_st (tkS M (ix x) j)) (m_vo (tkS M (ix x) j)) (m_ko (tkS M (ix x) j)) (m_sl (tkS M (ix x) j)) (m_sc (tkS M (ix x) j)) (m_kp (tkS M (ix x) j)) (va_up (m_en (tkS M (ix x) j)) (ix x) (m_nw (tkS M (ix x) j) + m_kp (tkS M (ix x) j) (ix x))) (m_pg (tkS M (ix x) j))) H := hP
                  have hD : va_D A (mX cI cJ cZ a (0) (lds) (m_n (tkS M (ix x) j)) (m_sn (tkS M (ix x) j)) (m_vn (tkS M (ix x) j)) (m_rn (tkS M (ix x) j)) (m_pn (tkS M (ix x) j)) (m_nw (tkS M (ix x) j)) (m_grp (tkS M (ix x) j)) (m_key (tkS M (ix x) j)) (m_srt (tkS M (ix x) j)) (m_sd (tkS M (ix x) j)) (m_go (tkS M (ix x) j)) (m_seg (tkS M (ix x) j)) (m_la (tkS M (ix x) j)) (m_isN (tkS M (ix x) j)) (m_drp (tkS M (ix x) j)) (m_has (tkS M (ix x) j)) (m_sees (tkS M (ix x) j)) (m_isC (tkS M (ix x) j)) (m_isG (tkS M (ix x) j)) (m_ov (tkS M (ix x) j)) (m_st (tkS M (ix x) j)) (m_vo (tkS M (ix x) j)) (m_ko (tkS M (ix x) j)) (m_sl (tkS M (ix x) j)) (m_sc (tkS M (ix x) j)) (m_kp (tkS M (ix x) j)) (va_up (m_en (tkS M (ix x) j)) (ix x) (m_nw (tkS M (ix x) j) + m_kp (tkS M (ix x) j) (ix x))) (m_pg (tkS M (ix x) j))) := hD
                  refine lv_aload_n hx hb dX6_take_144 rfl (lv_at hl 0 rfl) ?_
                  refine va_get (ci := 6) (v := .int (nI (m_pn (tkS M (ix x) j)))) (C := RX6) (T := TX6) (N := 30) hx hb hts hiX6 hown hK hP 0 rfl rfl 28 (by decide) hf3 (fun _ h9 => h9) rfl dX6_take_145 ?_
                  have hPm : va_P D vwCl (mW cI cJ cZ a (0) (lds) (mkM (m_n (tkS M (ix x) j)) (m_sn (tkS M (ix x) j)) (m_vn (tkS M (ix x) j)) (m_rn (tkS M (ix x) j)) (m_pn (tkS M (ix x) j)) (m_nw (tkS M (ix x) j)) (m_grp (tkS M (ix x) j)) (m_key (tkS M (ix x) j)) (m_srt (tkS M (ix x) j)) (m_sd (tkS M (ix x) j)) (m_go (tkS M (ix x) j)) (m_seg (tkS M (ix x) j)) (m_la (tkS M (ix x) j)) (m_isN (tkS M (ix x) j)) (m_drp (tkS M (ix x) j)) (m_has (tkS M (ix x) j)) (m_sees (tkS M (ix x) j)) (m_isC (tkS M (ix x) j)) (m_isG (tkS M (ix x) j)) (m_ov (tkS M (ix x) j)) (m_st (tkS M (ix x) j)) (m_vo (tkS M (ix x) j)) (m_ko (tkS M (ix x) j)) (m_sl (tkS M (ix x) j)) (m_sc (tkS M (ix x) j)) (m_kp (tkS M (ix x) j)) (va_up (m_en (tkS M (ix x) j)) (ix x) (m_nw (tkS M (ix x) j) + m_kp (tkS M (ix x) j) (ix x))) (m_pg (tkS M (ix x) j)))) H := by rw [← mX_mk]; exact hP
                  have hDm : va_D A (mW cI cJ cZ a (0) (lds) (mkM (m_n (tkS M (ix x) j)) (m_sn (tkS M (ix x) j)) (m_vn (tkS M (ix x) j)) (m_rn (tkS M (ix x) j)) (m_pn (tkS M (ix x) j)) (m_nw (tkS M (ix x) j)) (m_grp (tkS M (ix x) j)) (m_key (tkS M (ix x) j)) (m_srt (tkS M (ix x) j)) (m_sd (tkS M (ix x) j)) (m_go (tkS M (ix x) j)) (m_seg (tkS M (ix x) j)) (m_la (tkS M (ix x) j)) (m_isN (tkS M (ix x) j)) (m_drp (tkS M (ix x) j)) (m_has (tkS M (ix x) j)) (m_sees (tkS M (ix x) j)) (m_isC (tkS M (ix x) j)) (m_isG (tkS M (ix x) j)) (m_ov (tkS M (ix x) j)) (m_st (tkS M (ix x) j)) (m_vo (tkS M (ix x) j)) (m_ko (tkS M (ix x) j)) (m_sl (tkS M (ix x) j)) (m_sc (tkS M (ix x) j)) (m_kp (tkS M (ix x) j)) (va_up (m_en (tkS M (ix x) j)) (ix x) (m_nw (tkS M (ix x) j) + m_kp (tkS M (ix x) j) (ix x))) (m_pg (tkS M (ix x) j)))) := by rw [← mX_mk]; exact hD
                  exact W.iret (v := nI (m_pn (tkS M (ix x) j))) hx hb hr (fun t ht hW => ⟨⟨_, (0, lds, (mkM (m_n (tkS M (ix x) j)) (m_sn (tkS M (ix x) j)) (m_vn (tkS M (ix x) j)) (m_rn (tkS M (ix x) j)) (m_pn (tkS M (ix x) j)) (m_nw (tkS M (ix x) j)) (m_grp (tkS M (ix x) j)) (m_key (tkS M (ix x) j)) (m_srt (tkS M (ix x) j)) (m_sd (tkS M (ix x) j)) (m_go (tkS M (ix x) j)) (m_seg (tkS M (ix x) j)) (m_la (tkS M (ix x) j)) (m_isN (tkS M (ix x) j)) (m_drp (tkS M (ix x) j)) (m_has (tkS M (ix x) j)) (m_sees (tkS M (ix x) j)) (m_isC (tkS M (ix x) j)) (m_isG (tkS M (ix x) j)) (m_ov (tkS M (ix x) j)) (m_st (tkS M (ix x) j)) (m_vo (tkS M (ix x) j)) (m_ko (tkS M (ix x) j)) (m_sl (tkS M (ix x) j)) (m_sc (tkS M (ix x) j)) (m_kp (tkS M (ix x) j)) (va_up (m_en (tkS M (ix x) j)) (ix x) (m_nw (tkS M (ix x) j) + m_kp (tkS M (ix x) j) (ix x))) (m_pg (tkS M (ix x) j)))), rfl, ⟨by rw [takeR, if_neg (by omega), if_neg (by omega), if_neg (by rw [c36_7]; decide), if_neg (by rw [c51_8]; decide), hjN, epn], by rw [takeT, if_neg (by omega), if_neg (by omega), if_neg (by rw [c36_7]; decide)], by rw [takeM, if_neg (by omega), if_neg (by omega), if_neg (by rw [c36_7]; decide), if_neg (by rw [c51_8]; decide), hjN]⟩, gb_mk ht hW hPm hK hDm⟩, hS.F ht⟩) hS.2.2 dX6_take_148
                · refine lv_aload_n hx hb dX6_take_71 rfl (lv_at hl 0 rfl) ?_
                  refine va_get (ci := 6) (v := .int (nI (m_pn (tkS M (ix x) j)))) (C := RX6) (T := TX6) (N := 30) hx hb hts hiX6 hown hK hP 0 rfl rfl 28 (by decide) hf3 (fun _ h9 => h9) rfl dX6_take_72 ?_
                  refine lv_iload_n hx hb dX6_take_75 rfl (lv_at hl 2 rfl) ?_
                  refine wz_icmp_ge (tgt := 127) hx hb (((m_pn (tkS M (ix x) j) : Nat) : Int)) ((w).toInt) (nI_z (by omega)) rfl dX6_take_76 (by decide) (fun c76_13 => ?_) (fun c76_13 => ?_)
                  · have hjN : tkN M (ix x) (ix w) = j := by
                      unfold tkN
                      rcases Nat.lt_or_ge j (ix w) with q | q
                      · have : nextOf (tkS M (ix x) j) (ix x) < 0 := by rw [if_pos q] at hob; omega
                        exact fst_here hjf (by simp only [tkP]; exact decide_eq_true this)
                      · have := fstB_le (tkP M (ix x)) (ix w); omega
                    refine lv_aload_n hx hb dX6_take_127 rfl (lv_at hl 0 rfl) ?_
                    refine va_get (ci := 6) (v := .ref (a 17)) (C := RX6) (T := TX6) (N := 30) hx hb hts hiX6 hown hK hP 0 rfl rfl 21 (by decide) hf4 (fun _ h9 => h9) rfl dX6_take_128 ?_
                    refine lv_iload_n hx hb dX6_take_131 rfl (lv_at hl 1 rfl) ?_
                    refine ww_top (y := nI (ix x)) (ix_n (by omega)) ?_
                    refine lv_aload_n hx hb dX6_take_132 rfl (lv_at hl 0 rfl) ?_
                    refine va_get (ci := 6) (v := .int (nI (m_nw (tkS M (ix x) j)))) (C := RX6) (T := TX6) (N := 30) hx hb hts hiX6 hown hK hP 0 rfl rfl 26 (by decide) hf5 (fun _ h9 => h9) rfl dX6_take_133 ?_
                    refine lv_aload_n hx hb dX6_take_136 rfl (lv_at hl 0 rfl) ?_
                    refine va_get (ci := 6) (v := .ref (a 16)) (C := RX6) (T := TX6) (N := 30) hx hb hts hiX6 hown hK hP 0 rfl rfl 20 (by decide) hf6 (fun _ h9 => h9) rfl dX6_take_137 ?_
                    refine lv_iload_n hx hb dX6_take_140 rfl (lv_at hl 1 rfl) ?_
                    refine ww_top (y := nI (ix x)) (ix_n (by omega)) ?_
                    refine wa_i (i := ix x) (v := nI (m_kp (tkS M (ix x) j) (ix x))) hx hb hK hP 16 0 rfl rfl rfl (by omega) (by decide) dX6_take_141 ?_
                    refine lv_iadd hx hb dX6_take_142 (ww_top (y := nI (m_nw (tkS M (ix x) j) + m_kp (tkS M (ix x) j) (ix x))) (nI_addn _ _) ?_)
                    refine wa_ist (i := ix x) hx hb hK hP hD hS 17 0 rfl rfl (upd_nI (m_en (tkS M (ix x) j)) (ix x) (m_nw (tkS M (ix x) j) + m_kp (tkS M (ix x) j) (ix x))) (by omega) (by decide) dX6_take_143 (fun H locs hP hD hS => ?_)
                    have hP : va_P D vwCl (mX cI cJ cZ a (0) (lds) (m_n (tkS M (ix x) j)) (m_sn (tkS M (ix x) j)) (m_vn (tkS M (ix x) j)) (m_rn (tkS M (ix x) j)) (m_pn (tkS M (ix x) j)) (m_nw (tkS M (ix x) j)) (m_grp (tkS M (ix x) j)) (m_key (tkS M (ix x) j)) (m_srt (tkS M (ix x) j)) (m_sd (tkS M (ix x) j)) (m_go (tkS M (ix x) j)) (m_seg (tkS M (ix x) j)) (m_la (tkS M (ix x) j)) (m_isN (tkS M (ix x) j)) (m_drp (tkS M (ix x) j)) (m_has (tkS M (ix x) j)) (m_sees (tkS M (ix x) j)) (m_isC (tkS M (ix x) j)) (m_isG (tkS M (ix x) j)) (m_ov (tkS M (ix x) j)) (m_st (tkS M (ix x) j)) (m_vo (tkS M (ix x) j)) (m_ko (tkS M (ix x) j)) (m_sl (tkS M (ix x) j)) (m_sc (tkS M (ix x) j)) (m_kp (tkS M (ix x) j)) (va_up (m_en (tkS M (ix x) j)) (ix x) (m_nw (tkS M (ix x) j) + m_kp (tkS M (ix x) j) (ix x))) (m_pg (tkS M (ix x) j))) H := hP
                    have hD : va_D A (mX cI cJ cZ a (0) (lds) (m_n (tkS M (ix x) j)) (m_sn (tkS M (ix x) j)) (m_vn (tkS M (ix x) j)) (m_rn (tkS M (ix x) j)) (m_pn (tkS M (ix x) j)) (m_nw (tkS M (ix x) j)) (m_grp (tkS M (ix x) j)) (m_key (tkS M (ix x) j)) (m_srt (tkS M (ix x) j)) (m_sd (tkS M (ix x) j)) (m_go (tkS M (ix x) j)) (m_seg (tkS M (ix x) j)) (m_la (tkS M (ix x) j)) (m_isN (tkS M (ix x) j)) (m_drp (tkS M (ix x) j)) (m_has (tkS M (ix x) j)) (m_sees (tkS M (ix x) j)) (m_isC (tkS M (ix x) j)) (m_isG (tkS M (ix x) j)) (m_ov (tkS M (ix x) j)) (m_st (tkS M (ix x) j)) (m_vo (tkS M (ix x) j)) (m_ko (tkS M (ix x) j)) (m_sl (tkS M (ix x) j)) (m_sc (tkS M (ix x) j)) (m_kp (tkS M (ix x) j)) (va_up (m_en (tkS M (ix x) j)) (ix x) (m_nw (tkS M (ix x) j) + m_kp (tkS M (ix x) j) (ix x))) (m_pg (tkS M (ix x) j))) := hD
                    refine lv_aload_n hx hb dX6_take_144 rfl (lv_at hl 0 rfl) ?_
                    refine va_get (ci := 6) (v := .int (nI (m_pn (tkS M (ix x) j)))) (C := RX6) (T := TX6) (N := 30) hx hb hts hiX6 hown hK hP 0 rfl rfl 28 (by decide) hf3 (fun _ h9 => h9) rfl dX6_take_145 ?_
                    have hPm : va_P D vwCl (mW cI cJ cZ a (0) (lds) (mkM (m_n (tkS M (ix x) j)) (m_sn (tkS M (ix x) j)) (m_vn (tkS M (ix x) j)) (m_rn (tkS M (ix x) j)) (m_pn (tkS M (ix x) j)) (m_nw (tkS M (ix x) j)) (m_grp (tkS M (ix x) j)) (m_key (tkS M (ix x) j)) (m_srt (tkS M (ix x) j)) (m_sd (tkS M (ix x) j)) (m_go (tkS M (ix x) j)) (m_seg (tkS M (ix x) j)) (m_la (tkS M (ix x) j)) (m_isN (tkS M (ix x) j)) (m_drp (tkS M (ix x) j)) (m_has (tkS M (ix x) j)) (m_sees (tkS M (ix x) j)) (m_isC (tkS M (ix x) j)) (m_isG (tkS M (ix x) j)) (m_ov (tkS M (ix x) j)) (m_st (tkS M (ix x) j)) (m_vo (tkS M (ix x) j)) (m_ko (tkS M (ix x) j)) (m_sl (tkS M (ix x) j)) (m_sc (tkS M (ix x) j)) (m_kp (tkS M (ix x) j)) (va_up (m_en (tkS M (ix x) j)) (ix x) (m_nw (tkS M (ix x) j) + m_kp (tkS M (ix x) j) (ix x))) (m_pg (tkS M (ix x) j)))) H := by rw [← mX_mk]; exact hP
                    have hDm : va_D A (mW cI cJ cZ a (0) (lds) (mkM (m_n (tkS M (ix x) j)) (m_sn (tkS M (ix x) j)) (m_vn (tkS M (ix x) j)) (m_rn (tkS M (ix x) j)) (m_pn (tkS M (ix x) j)) (m_nw (tkS M (ix x) j)) (m_grp (tkS M (ix x) j)) (m_key (tkS M (ix x) j)) (m_srt (tkS M (ix x) j)) (m_sd (tkS M (ix x) j)) (m_go (tkS M (ix x) j)) (m_seg (tkS M (ix x) j)) (m_la (tkS M (ix x) j)) (m_isN (tkS M (ix x) j)) (m_drp (tkS M (ix x) j)) (m_has (tkS M (ix x) j)) (m_sees (tkS M (ix x) j)) (m_isC (tkS M (ix x) j)) (m_isG (tkS M (ix x) j)) (m_ov (tkS M (ix x) j)) (m_st (tkS M (ix x) j)) (m_vo (tkS M (ix x) j)) (m_ko (tkS M (ix x) j)) (m_sl (tkS M (ix x) j)) (m_sc (tkS M (ix x) j)) (m_kp (tkS M (ix x) j)) (va_up (m_en (tkS M (ix x) j)) (ix x) (m_nw (tkS M (ix x) j) + m_kp (tkS M (ix x) j) (ix x))) (m_pg (tkS M (ix x) j)))) := by rw [← mX_mk]; exact hD
                    exact W.iret (v := nI (m_pn (tkS M (ix x) j))) hx hb hr (fun t ht hW => ⟨⟨_, (0, lds, (mkM (m_n (tkS M (ix x) j)) (m_sn (tkS M (ix x) j)) (m_vn (tkS M (ix x) j)) (m_rn (tkS M (ix x) j)) (m_pn (tkS M (ix x) j)) (m_nw (tkS M (ix x) j)) (m_grp (tkS M (ix x) j)) (m_key (tkS M (ix x) j)) (m_srt (tkS M (ix x) j)) (m_sd (tkS M (ix x) j)) (m_go (tkS M (ix x) j)) (m_seg (tkS M (ix x) j)) (m_la (tkS M (ix x) j)) (m_isN (tkS M (ix x) j)) (m_drp (tkS M (ix x) j)) (m_has (tkS M (ix x) j)) (m_sees (tkS M (ix x) j)) (m_isC (tkS M (ix x) j)) (m_isG (tkS M (ix x) j)) (m_ov (tkS M (ix x) j)) (m_st (tkS M (ix x) j)) (m_vo (tkS M (ix x) j)) (m_ko (tkS M (ix x) j)) (m_sl (tkS M (ix x) j)) (m_sc (tkS M (ix x) j)) (m_kp (tkS M (ix x) j)) (va_up (m_en (tkS M (ix x) j)) (ix x) (m_nw (tkS M (ix x) j) + m_kp (tkS M (ix x) j) (ix x))) (m_pg (tkS M (ix x) j)))), rfl, ⟨by rw [takeR, if_neg (by omega), if_neg (by omega), if_neg (by rw [c36_7]; decide), if_neg (by rw [c51_8]; decide), hjN, epn], by rw [takeT, if_neg (by omega), if_neg (by omega), if_neg (by rw [c36_7]; decide)], by rw [takeM, if_neg (by omega), if_neg (by omega), if_neg (by rw [c36_7]; decide), if_neg (by rw [c51_8]; decide), hjN]⟩, gb_mk ht hW hPm hK hDm⟩, hS.F ht⟩) hS.2.2 dX6_take_148
                  · have hob1 : ob = nextOf (tkS M (ix x) j) (ix x) := by
                      rw [if_pos (by omega)] at hob
                      exact hob
                    refine lv_aload_n hx hb dX6_take_79 rfl (lv_at hl 0 rfl) ?_
                    refine va_get (ci := 6) (v := .ref (a 22)) (C := RX6) (T := TX6) (N := 30) hx hb hts hiX6 hown hK hP 0 rfl rfl 27 (by decide) hf7 (fun _ h9 => h9) rfl dX6_take_80 ?_
                    refine lv_aload_n hx hb dX6_take_83 rfl (lv_at hl 0 rfl) ?_
                    refine va_get (ci := 6) (v := .int (nI (m_pn (tkS M (ix x) j)))) (C := RX6) (T := TX6) (N := 30) hx hb hts hiX6 hown hK hP 0 rfl rfl 28 (by decide) hf3 (fun _ h9 => h9) rfl dX6_take_84 ?_
                    refine lv_iload_n hx hb dX6_take_87 rfl (lv_at hl 3 rfl) ?_
                    refine ww_top (y := nI (ob.toNat)) (zI_toNat (by omega)) ?_
                    refine wa_ist (i := m_pn (tkS M (ix x) j)) hx hb hK hP hD hS 22 0 rfl rfl (upd_nI (m_pg (tkS M (ix x) j)) (m_pn (tkS M (ix x) j)) (ob.toNat)) (by omega) (by decide) dX6_take_88 (fun H locs hP hD hS => ?_)
                    have hP : va_P D vwCl (mX cI cJ cZ a (0) (lds) (m_n (tkS M (ix x) j)) (m_sn (tkS M (ix x) j)) (m_vn (tkS M (ix x) j)) (m_rn (tkS M (ix x) j)) (m_pn (tkS M (ix x) j)) (m_nw (tkS M (ix x) j)) (m_grp (tkS M (ix x) j)) (m_key (tkS M (ix x) j)) (m_srt (tkS M (ix x) j)) (m_sd (tkS M (ix x) j)) (m_go (tkS M (ix x) j)) (m_seg (tkS M (ix x) j)) (m_la (tkS M (ix x) j)) (m_isN (tkS M (ix x) j)) (m_drp (tkS M (ix x) j)) (m_has (tkS M (ix x) j)) (m_sees (tkS M (ix x) j)) (m_isC (tkS M (ix x) j)) (m_isG (tkS M (ix x) j)) (m_ov (tkS M (ix x) j)) (m_st (tkS M (ix x) j)) (m_vo (tkS M (ix x) j)) (m_ko (tkS M (ix x) j)) (m_sl (tkS M (ix x) j)) (m_sc (tkS M (ix x) j)) (m_kp (tkS M (ix x) j)) (m_en (tkS M (ix x) j)) (va_up (m_pg (tkS M (ix x) j)) (m_pn (tkS M (ix x) j)) (ob.toNat))) H := hP
                    have hD : va_D A (mX cI cJ cZ a (0) (lds) (m_n (tkS M (ix x) j)) (m_sn (tkS M (ix x) j)) (m_vn (tkS M (ix x) j)) (m_rn (tkS M (ix x) j)) (m_pn (tkS M (ix x) j)) (m_nw (tkS M (ix x) j)) (m_grp (tkS M (ix x) j)) (m_key (tkS M (ix x) j)) (m_srt (tkS M (ix x) j)) (m_sd (tkS M (ix x) j)) (m_go (tkS M (ix x) j)) (m_seg (tkS M (ix x) j)) (m_la (tkS M (ix x) j)) (m_isN (tkS M (ix x) j)) (m_drp (tkS M (ix x) j)) (m_has (tkS M (ix x) j)) (m_sees (tkS M (ix x) j)) (m_isC (tkS M (ix x) j)) (m_isG (tkS M (ix x) j)) (m_ov (tkS M (ix x) j)) (m_st (tkS M (ix x) j)) (m_vo (tkS M (ix x) j)) (m_ko (tkS M (ix x) j)) (m_sl (tkS M (ix x) j)) (m_sc (tkS M (ix x) j)) (m_kp (tkS M (ix x) j)) (m_en (tkS M (ix x) j)) (va_up (m_pg (tkS M (ix x) j)) (m_pn (tkS M (ix x) j)) (ob.toNat))) := hD
                    refine lv_aload_n hx hb dX6_take_89 rfl (lv_at hl 0 rfl) ?_
                    refine lv_dup hx hb dX6_take_90 rfl ?_
                    refine va_get (ci := 6) (v := .int (nI (m_pn (tkS M (ix x) j)))) (C := RX6) (T := TX6) (N := 30) hx hb hts hiX6 hown hK hP 0 rfl rfl 28 (by decide) hf3 (fun _ h9 => h9) rfl dX6_take_91 ?_
                    refine lv_iconst (v := nI (1)) hx hb dX6_take_94 (by decide) ?_
                    refine lv_iadd hx hb dX6_take_95 (ww_top (y := nI (m_pn (tkS M (ix x) j) + 1)) (nI_addn _ _) ?_)
                    refine va_put (ci := 6) (v := .int (nI (m_pn (tkS M (ix x) j) + 1))) (ty := .int) (C := RX6) (T := TX6) (N := 30) hx hb hts hiX6 tyX6 tyX6_ok nmX6 hown hK hP hD hS 0 rfl rfl 28 (by decide) hf3 (fun _ h9 => h9) rfl (by decide +kernel) rfl rfl (Nat.le_of_ble_eq_true rfl) dX6_take_96 (fun H locs hP hD hS => ?_)
                    have hP : va_P D vwCl (mX cI cJ cZ a (0) (lds) (m_n (tkS M (ix x) j)) (m_sn (tkS M (ix x) j)) (m_vn (tkS M (ix x) j)) (m_rn (tkS M (ix x) j)) (m_pn (tkS M (ix x) j) + 1) (m_nw (tkS M (ix x) j)) (m_grp (tkS M (ix x) j)) (m_key (tkS M (ix x) j)) (m_srt (tkS M (ix x) j)) (m_sd (tkS M (ix x) j)) (m_go (tkS M (ix x) j)) (m_seg (tkS M (ix x) j)) (m_la (tkS M (ix x) j)) (m_isN (tkS M (ix x) j)) (m_drp (tkS M (ix x) j)) (m_has (tkS M (ix x) j)) (m_sees (tkS M (ix x) j)) (m_isC (tkS M (ix x) j)) (m_isG (tkS M (ix x) j)) (m_ov (tkS M (ix x) j)) (m_st (tkS M (ix x) j)) (m_vo (tkS M (ix x) j)) (m_ko (tkS M (ix x) j)) (m_sl (tkS M (ix x) j)) (m_sc (tkS M (ix x) j)) (m_kp (tkS M (ix x) j)) (m_en (tkS M (ix x) j)) (va_up (m_pg (tkS M (ix x) j)) (m_pn (tkS M (ix x) j)) (ob.toNat))) H := hP
                    have hD : va_D A (mX cI cJ cZ a (0) (lds) (m_n (tkS M (ix x) j)) (m_sn (tkS M (ix x) j)) (m_vn (tkS M (ix x) j)) (m_rn (tkS M (ix x) j)) (m_pn (tkS M (ix x) j) + 1) (m_nw (tkS M (ix x) j)) (m_grp (tkS M (ix x) j)) (m_key (tkS M (ix x) j)) (m_srt (tkS M (ix x) j)) (m_sd (tkS M (ix x) j)) (m_go (tkS M (ix x) j)) (m_seg (tkS M (ix x) j)) (m_la (tkS M (ix x) j)) (m_isN (tkS M (ix x) j)) (m_drp (tkS M (ix x) j)) (m_has (tkS M (ix x) j)) (m_sees (tkS M (ix x) j)) (m_isC (tkS M (ix x) j)) (m_isG (tkS M (ix x) j)) (m_ov (tkS M (ix x) j)) (m_st (tkS M (ix x) j)) (m_vo (tkS M (ix x) j)) (m_ko (tkS M (ix x) j)) (m_sl (tkS M (ix x) j)) (m_sc (tkS M (ix x) j)) (m_kp (tkS M (ix x) j)) (m_en (tkS M (ix x) j)) (va_up (m_pg (tkS M (ix x) j)) (m_pn (tkS M (ix x) j)) (ob.toNat))) := hD
                    refine lv_aload_n hx hb dX6_take_99 rfl (lv_at hl 0 rfl) ?_
                    refine va_get (ci := 6) (v := .ref (a 21)) (C := RX6) (T := TX6) (N := 30) hx hb hts hiX6 hown hK hP 0 rfl rfl 25 (by decide) hf8 (fun _ h9 => h9) rfl dX6_take_100 ?_
                    refine lv_iload_n hx hb dX6_take_103 rfl (lv_at hl 1 rfl) ?_
                    refine ww_top (y := nI (ix x)) (ix_n (by omega)) ?_
                    refine lv_iload_n hx hb dX6_take_104 rfl (lv_at hl 3 rfl) ?_
                    refine wa_ist (i := ix x) hx hb hK hP hD hS 21 0 rfl rfl (upd_zI (m_la (tkS M (ix x) j)) (ix x) ((ob : Int))) (by omega) (by decide) dX6_take_105 (fun H locs hP hD hS => ?_)
                    have hP : va_P D vwCl (mX cI cJ cZ a (0) (lds) (m_n (tkS M (ix x) j)) (m_sn (tkS M (ix x) j)) (m_vn (tkS M (ix x) j)) (m_rn (tkS M (ix x) j)) (m_pn (tkS M (ix x) j) + 1) (m_nw (tkS M (ix x) j)) (m_grp (tkS M (ix x) j)) (m_key (tkS M (ix x) j)) (m_srt (tkS M (ix x) j)) (m_sd (tkS M (ix x) j)) (m_go (tkS M (ix x) j)) (m_seg (tkS M (ix x) j)) (va_up (m_la (tkS M (ix x) j)) (ix x) ((ob : Int))) (m_isN (tkS M (ix x) j)) (m_drp (tkS M (ix x) j)) (m_has (tkS M (ix x) j)) (m_sees (tkS M (ix x) j)) (m_isC (tkS M (ix x) j)) (m_isG (tkS M (ix x) j)) (m_ov (tkS M (ix x) j)) (m_st (tkS M (ix x) j)) (m_vo (tkS M (ix x) j)) (m_ko (tkS M (ix x) j)) (m_sl (tkS M (ix x) j)) (m_sc (tkS M (ix x) j)) (m_kp (tkS M (ix x) j)) (m_en (tkS M (ix x) j)) (va_up (m_pg (tkS M (ix x) j)) (m_pn (tkS M (ix x) j)) (ob.toNat))) H := hP
                    have hD : va_D A (mX cI cJ cZ a (0) (lds) (m_n (tkS M (ix x) j)) (m_sn (tkS M (ix x) j)) (m_vn (tkS M (ix x) j)) (m_rn (tkS M (ix x) j)) (m_pn (tkS M (ix x) j) + 1) (m_nw (tkS M (ix x) j)) (m_grp (tkS M (ix x) j)) (m_key (tkS M (ix x) j)) (m_srt (tkS M (ix x) j)) (m_sd (tkS M (ix x) j)) (m_go (tkS M (ix x) j)) (m_seg (tkS M (ix x) j)) (va_up (m_la (tkS M (ix x) j)) (ix x) ((ob : Int))) (m_isN (tkS M (ix x) j)) (m_drp (tkS M (ix x) j)) (m_has (tkS M (ix x) j)) (m_sees (tkS M (ix x) j)) (m_isC (tkS M (ix x) j)) (m_isG (tkS M (ix x) j)) (m_ov (tkS M (ix x) j)) (m_st (tkS M (ix x) j)) (m_vo (tkS M (ix x) j)) (m_ko (tkS M (ix x) j)) (m_sl (tkS M (ix x) j)) (m_sc (tkS M (ix x) j)) (m_kp (tkS M (ix x) j)) (m_en (tkS M (ix x) j)) (va_up (m_pg (tkS M (ix x) j)) (m_pn (tkS M (ix x) j)) (ob.toNat))) := hD
                    have hPm : va_P D vwCl (mW cI cJ cZ a (0) (lds) (mkM (m_n (tkS M (ix x) j)) (m_sn (tkS M (ix x) j)) (m_vn (tkS M (ix x) j)) (m_rn (tkS M (ix x) j)) (m_pn (tkS M (ix x) j) + 1) (m_nw (tkS M (ix x) j)) (m_grp (tkS M (ix x) j)) (m_key (tkS M (ix x) j)) (m_srt (tkS M (ix x) j)) (m_sd (tkS M (ix x) j)) (m_go (tkS M (ix x) j)) (m_seg (tkS M (ix x) j)) (va_up (m_la (tkS M (ix x) j)) (ix x) ((ob : Int))) (m_isN (tkS M (ix x) j)) (m_drp (tkS M (ix x) j)) (m_has (tkS M (ix x) j)) (m_sees (tkS M (ix x) j)) (m_isC (tkS M (ix x) j)) (m_isG (tkS M (ix x) j)) (m_ov (tkS M (ix x) j)) (m_st (tkS M (ix x) j)) (m_vo (tkS M (ix x) j)) (m_ko (tkS M (ix x) j)) (m_sl (tkS M (ix x) j)) (m_sc (tkS M (ix x) j)) (m_kp (tkS M (ix x) j)) (m_en (tkS M (ix x) j)) (va_up (m_pg (tkS M (ix x) j)) (m_pn (tkS M (ix x) j)) (ob.toNat)))) H := by rw [← mX_mk]; exact hP
                    have hDm : va_D A (mW cI cJ cZ a (0) (lds) (mkM (m_n (tkS M (ix x) j)) (m_sn (tkS M (ix x) j)) (m_vn (tkS M (ix x) j)) (m_rn (tkS M (ix x) j)) (m_pn (tkS M (ix x) j) + 1) (m_nw (tkS M (ix x) j)) (m_grp (tkS M (ix x) j)) (m_key (tkS M (ix x) j)) (m_srt (tkS M (ix x) j)) (m_sd (tkS M (ix x) j)) (m_go (tkS M (ix x) j)) (m_seg (tkS M (ix x) j)) (va_up (m_la (tkS M (ix x) j)) (ix x) ((ob : Int))) (m_isN (tkS M (ix x) j)) (m_drp (tkS M (ix x) j)) (m_has (tkS M (ix x) j)) (m_sees (tkS M (ix x) j)) (m_isC (tkS M (ix x) j)) (m_isG (tkS M (ix x) j)) (m_ov (tkS M (ix x) j)) (m_st (tkS M (ix x) j)) (m_vo (tkS M (ix x) j)) (m_ko (tkS M (ix x) j)) (m_sl (tkS M (ix x) j)) (m_sc (tkS M (ix x) j)) (m_kp (tkS M (ix x) j)) (m_en (tkS M (ix x) j)) (va_up (m_pg (tkS M (ix x) j)) (m_pn (tkS M (ix x) j)) (ob.toNat)))) := by rw [← mX_mk]; exact hD
                    have e9 : (mkM (m_n (tkS M (ix x) j)) (m_sn (tkS M (ix x) j)) (m_vn (tkS M (ix x) j)) (m_rn (tkS M (ix x) j)) (m_pn (tkS M (ix x) j) + 1) (m_nw (tkS M (ix x) j)) (m_grp (tkS M (ix x) j)) (m_key (tkS M (ix x) j)) (m_srt (tkS M (ix x) j)) (m_sd (tkS M (ix x) j)) (m_go (tkS M (ix x) j)) (m_seg (tkS M (ix x) j)) (va_up (m_la (tkS M (ix x) j)) (ix x) ((ob : Int))) (m_isN (tkS M (ix x) j)) (m_drp (tkS M (ix x) j)) (m_has (tkS M (ix x) j)) (m_sees (tkS M (ix x) j)) (m_isC (tkS M (ix x) j)) (m_isG (tkS M (ix x) j)) (m_ov (tkS M (ix x) j)) (m_st (tkS M (ix x) j)) (m_vo (tkS M (ix x) j)) (m_ko (tkS M (ix x) j)) (m_sl (tkS M (ix x) j)) (m_sc (tkS M (ix x) j)) (m_kp (tkS M (ix x) j)) (m_en (tkS M (ix x) j)) (va_up (m_pg (tkS M (ix x) j)) (m_pn (tkS M (ix x) j)) (ob.toNat))) = (tkS M (ix x) (j + 1)) := by simp only [tkS, epn]; rw [← (show ob = nextOf (tkS M (ix x) j) (ix x) from hob1)]
                    rw [e9] at hPm hDm
                    have hP : va_P D vwCl (mX cI cJ cZ a (0) (lds) (m_n (tkS M (ix x) (j + 1))) (m_sn (tkS M (ix x) (j + 1))) (m_vn (tkS M (ix x) (j + 1))) (m_rn (tkS M (ix x) (j + 1))) (m_pn (tkS M (ix x) (j + 1))) (m_nw (tkS M (ix x) (j + 1))) (m_grp (tkS M (ix x) (j + 1))) (m_key (tkS M (ix x) (j + 1))) (m_srt (tkS M (ix x) (j + 1))) (m_sd (tkS M (ix x) (j + 1))) (m_go (tkS M (ix x) (j + 1))) (m_seg (tkS M (ix x) (j + 1))) (m_la (tkS M (ix x) (j + 1))) (m_isN (tkS M (ix x) (j + 1))) (m_drp (tkS M (ix x) (j + 1))) (m_has (tkS M (ix x) (j + 1))) (m_sees (tkS M (ix x) (j + 1))) (m_isC (tkS M (ix x) (j + 1))) (m_isG (tkS M (ix x) (j + 1))) (m_ov (tkS M (ix x) (j + 1))) (m_st (tkS M (ix x) (j + 1))) (m_vo (tkS M (ix x) (j + 1))) (m_ko (tkS M (ix x) (j + 1))) (m_sl (tkS M (ix x) (j + 1))) (m_sc (tkS M (ix x) (j + 1))) (m_kp (tkS M (ix x) (j + 1))) (m_en (tkS M (ix x) (j + 1))) (m_pg (tkS M (ix x) (j + 1)))) H := hPm
                    have hD : va_D A (mX cI cJ cZ a (0) (lds) (m_n (tkS M (ix x) (j + 1))) (m_sn (tkS M (ix x) (j + 1))) (m_vn (tkS M (ix x) (j + 1))) (m_rn (tkS M (ix x) (j + 1))) (m_pn (tkS M (ix x) (j + 1))) (m_nw (tkS M (ix x) (j + 1))) (m_grp (tkS M (ix x) (j + 1))) (m_key (tkS M (ix x) (j + 1))) (m_srt (tkS M (ix x) (j + 1))) (m_sd (tkS M (ix x) (j + 1))) (m_go (tkS M (ix x) (j + 1))) (m_seg (tkS M (ix x) (j + 1))) (m_la (tkS M (ix x) (j + 1))) (m_isN (tkS M (ix x) (j + 1))) (m_drp (tkS M (ix x) (j + 1))) (m_has (tkS M (ix x) (j + 1))) (m_sees (tkS M (ix x) (j + 1))) (m_isC (tkS M (ix x) (j + 1))) (m_isG (tkS M (ix x) (j + 1))) (m_ov (tkS M (ix x) (j + 1))) (m_st (tkS M (ix x) (j + 1))) (m_vo (tkS M (ix x) (j + 1))) (m_ko (tkS M (ix x) (j + 1))) (m_sl (tkS M (ix x) (j + 1))) (m_sc (tkS M (ix x) (j + 1))) (m_kp (tkS M (ix x) (j + 1))) (m_en (tkS M (ix x) (j + 1))) (m_pg (tkS M (ix x) (j + 1)))) := hDm
                    have epn1 := tkS_pn M (ix x) (j + 1)
                    refine lv_aload_n hx hb dX6_take_106 rfl (lv_at hl 0 rfl) ?_
                    refine va_get (ci := 6) (v := .int (nI (m_pn (tkS M (ix x) (j + 1))))) (C := RX6) (T := TX6) (N := 30) hx hb hts hiX6 hown hK hP 0 rfl rfl 28 (by decide) hf3 (fun _ h9 => h9) rfl dX6_take_107 ?_
                    refine lv_iload_n hx hb dX6_take_110 rfl (lv_at hl 2 rfl) ?_
                    refine wz_icmp_ge (tgt := 122) hx hb (((m_pn (tkS M (ix x) (j + 1)) : Nat) : Int)) ((w).toInt) (nI_z (by omega)) rfl dX6_take_111 (by decide) (fun c111_14 => ?_) (fun c111_14 => ?_)
                    · refine lv_iconst (v := zI ((-1))) hx hb dX6_take_122 (by decide) ?_
                      refine lv_istore_n (lv' := [(3, .int (zI ((-1)))), (0, .ref (a 0)), (1, .int (x)), (2, .int (w))]) hx hb dX6_take_123 rfl hl (by decide) rfl (fun ls hl => ?_)
                      refine lv_goto (tgt := 67) hx hb dX6_take_124 (by decide) ?_
                      exact ih67 (j + 1) (((-1) : Int)) _ _ (by omega) (by omega) (by rw [if_neg (by omega)]) (fst_next hjf (by omega) (by simp only [tkP]; exact decide_eq_false (by omega))) hP hD hS ls (lv_sub hl [1, 2, 3, 0] rfl)
                    · refine lv_aload_n hx hb dX6_take_114 rfl (lv_at hl 0 rfl) ?_
                      refine lv_iload_n hx hb dX6_take_115 rfl (lv_at hl 1 rfl) ?_
                      refine ww_top (y := nI (ix x)) (ix_n (by omega)) ?_
                      have hPm : va_P D vwCl (mW cI cJ cZ a (0) (lds) (tkS M (ix x) (j + 1))) H := by exact hP
                      refine wc_Vi (As := [.int (nI (ix x))]) (rest := []) ⟨hx, hb, hml, hown, hts⟩ (c_X6_nextOf l D cI cJ cZ a (0) (lds) (tkS M (ix x) (j + 1)) (ok_tkS hM (ix x) (j + 1) (by omega)) (ix x) (by omega)) (cwV 1 hts gX6_take_X6_nextOf rfl rfl rfl (by decide +kernel) ⟨Nat.le_of_ble_eq_true rfl, Nat.le_of_ble_eq_true rfl⟩) hPm hK 0 rfl rfl rfl hl.1 rfl (Nat.le_of_ble_eq_true rfl) dX6_take_116 ⟨Nat.zero_le _, Nat.zero_le _⟩ (fun rr hq15 => ?_)
                      have hq15 : rr = zI (nextOf (tkS M (ix x) (j + 1)) (ix x)) := hq15
                      subst hq15
                      have hnq16 : m_n (tkS M (ix x) (j + 1)) ≤ 300 := ((ok_tkS hM (ix x) (j + 1) (by omega))).1
                      have hfl17 : -1 ≤ (nextOf (tkS M (ix x) (j + 1)) (ix x) : Int) ∧ (nextOf (tkS M (ix x) (j + 1)) (ix x) : Int) < (m_n (tkS M (ix x) (j + 1)) : Int) := following_in _ _ _ _ _ _ _ _ _
                      refine lv_goto (tgt := 123) hx hb dX6_take_119 (by decide) ?_
                      refine lv_istore_n (lv' := [(3, .int (zI (nextOf (tkS M (ix x) (j + 1)) (ix x)))), (0, .ref (a 0)), (1, .int (x)), (2, .int (w))]) hx hb dX6_take_123 rfl hl (by decide) rfl (fun ls hl => ?_)
                      refine lv_goto (tgt := 67) hx hb dX6_take_124 (by decide) ?_
                      exact ih67 (j + 1) ((nextOf (tkS M (ix x) (j + 1)) (ix x) : Int)) _ _ (by omega) (by omega) (by rw [if_pos (by omega)]) (fst_next hjf (by omega) (by simp only [tkP]; exact decide_eq_false (by omega))) hP hD hS ls (lv_sub hl [1, 2, 3, 0] rfl)
            exact hlp67 _ (0) ((nextOf (tkS M (ix x) 0) (ix x) : Int)) _ _ (Nat.lt_succ_self _) (Nat.zero_le _) (by rw [if_pos (by omega)]) (Nat.zero_le _) hP hD hS ls (lv_sub hl [1, 2, 3, 0] rfl)
          · refine lv_iconst (v := zI ((-1))) hx hb dX6_take_54 (by decide) ?_
            have hPm : va_P D vwCl (mW cI cJ cZ a (0) (lds) M) H := by exact hP
            have hDm : va_D A (mW cI cJ cZ a (0) (lds) M) := by exact hD
            exact W.iret (v := zI ((-1))) hx hb hr (fun t ht hW => ⟨⟨_, (0, lds, M), rfl, ⟨(by simp only [takeR, c36_7, c51_8, if_true, if_false, eq_self, Bool.true_eq_false, Bool.false_eq_true, ite_true, ite_false, reduceIte]; (repeat' split) <;> first | rfl | (exfalso; omega)), (by simp only [takeT, c36_7, c51_8, if_true, if_false, eq_self, Bool.true_eq_false, Bool.false_eq_true, ite_true, ite_false, reduceIte]; (repeat' split) <;> first | rfl | (exfalso; omega)), (by simp only [takeM, c36_7, c51_8, if_true, if_false, eq_self, Bool.true_eq_false, Bool.false_eq_true, ite_true, ite_false, reduceIte]; (repeat' split) <;> first | rfl | (exfalso; omega))⟩, gb_mk ht hW hPm hK hDm⟩, hS.F ht⟩) hS.2.2 dX6_take_55
        · refine lv_aload_n hx hb dX6_take_39 rfl (lv_at hl 0 rfl) ?_
          refine lv_iconst (v := nI (2)) hx hb dX6_take_40 (by decide) ?_
          have hPm : va_P D vwCl (mW cI cJ cZ a (0) (lds) M) H := by exact hP
          have hDm : va_D A (mW cI cJ cZ a (0) (lds) M) := by exact hD
          refine wc_VWi (As := [.int (nI (2))]) (rest := []) (wf := mWu cI cJ cZ a) ⟨hx, hb, hml, hown, hts⟩ (c_X6_fails l D cI cJ cZ a (0) (lds) M hM (2) (by omega) H.size) (cwV 1 hts gX6_take_X6_fails rfl rfl rfl (by decide +kernel) ⟨Nat.le_of_ble_eq_true rfl, Nat.le_of_ble_eq_true rfl⟩) hPm hK hDm hS hA 0 rfl rfl rfl hl.1 rfl (Nat.le_of_ble_eq_true rfl) dX6_take_41 ⟨Nat.zero_le _, Nat.zero_le _⟩ (fun rr u18 hq18 H locs hP hD hS => ?_)
          obtain ⟨hr18, hu18⟩ := hq18
          subst hr18
          subst hu18
          have hP : va_P D vwCl (mX cI cJ cZ a (2) (lds) (m_n M) (m_sn M) (m_vn M) (m_rn M) (m_pn M) (m_nw M) (m_grp M) (m_key M) (m_srt M) (m_sd M) (m_go M) (m_seg M) (m_la M) (m_isN M) (m_drp M) (m_has M) (m_sees M) (m_isC M) (m_isG M) (m_ov M) (m_st M) (m_vo M) (m_ko M) (m_sl M) (m_sc M) (m_kp M) (m_en M) (m_pg M)) H := hP
          have hD : va_D A (mX cI cJ cZ a (2) (lds) (m_n M) (m_sn M) (m_vn M) (m_rn M) (m_pn M) (m_nw M) (m_grp M) (m_key M) (m_srt M) (m_sd M) (m_go M) (m_seg M) (m_la M) (m_isN M) (m_drp M) (m_has M) (m_sees M) (m_isC M) (m_isG M) (m_ov M) (m_st M) (m_vo M) (m_ko M) (m_sl M) (m_sc M) (m_kp M) (m_en M) (m_pg M)) := hD
          have hPm : va_P D vwCl (mW cI cJ cZ a (2) (lds) M) H := by exact hP
          have hDm : va_D A (mW cI cJ cZ a (2) (lds) M) := by exact hD
          exact W.iret (v := nI (0)) hx hb hr (fun t ht hW => ⟨⟨_, (2, lds, M), rfl, ⟨(by simp only [takeR, c36_7, if_true, if_false, eq_self, Bool.true_eq_false, Bool.false_eq_true, ite_true, ite_false, reduceIte]; (repeat' split) <;> first | rfl | (exfalso; omega)), (by simp only [takeT, c36_7, if_true, if_false, eq_self, Bool.true_eq_false, Bool.false_eq_true, ite_true, ite_false, reduceIte]; (repeat' split) <;> first | rfl | (exfalso; omega)), (by simp only [takeM, c36_7, if_true, if_false, eq_self, Bool.true_eq_false, Bool.false_eq_true, ite_true, ite_false, reduceIte]; (repeat' split) <;> first | rfl | (exfalso; omega))⟩, gb_mk ht hW hPm hK hDm⟩, hS.F ht⟩) hS.2.2 dX6_take_44
  · have c10_2p := of_decide_eq_false c10_2
    refine lv_aload_n hx hb dX6_take_13 rfl (lv_at hl 0 rfl) ?_
    refine lv_iconst (v := nI (1)) hx hb dX6_take_14 (by decide) ?_
    have hPm : va_P D vwCl (mW cI cJ cZ a (0) (lds) M) H := by exact hP
    have hDm : va_D A (mW cI cJ cZ a (0) (lds) M) := by exact hD
    refine wc_VWi (As := [.int (nI (1))]) (rest := []) (wf := mWu cI cJ cZ a) ⟨hx, hb, hml, hown, hts⟩ (c_X6_fails l D cI cJ cZ a (0) (lds) M hM (1) (by omega) H.size) (cwV 1 hts gX6_take_X6_fails rfl rfl rfl (by decide +kernel) ⟨Nat.le_of_ble_eq_true rfl, Nat.le_of_ble_eq_true rfl⟩) hPm hK hDm hS hA 0 rfl rfl rfl hl.1 rfl (Nat.le_of_ble_eq_true rfl) dX6_take_15 ⟨Nat.zero_le _, Nat.zero_le _⟩ (fun rr u19 hq19 H locs hP hD hS => ?_)
    obtain ⟨hr19, hu19⟩ := hq19
    subst hr19
    subst hu19
    have hP : va_P D vwCl (mX cI cJ cZ a (1) (lds) (m_n M) (m_sn M) (m_vn M) (m_rn M) (m_pn M) (m_nw M) (m_grp M) (m_key M) (m_srt M) (m_sd M) (m_go M) (m_seg M) (m_la M) (m_isN M) (m_drp M) (m_has M) (m_sees M) (m_isC M) (m_isG M) (m_ov M) (m_st M) (m_vo M) (m_ko M) (m_sl M) (m_sc M) (m_kp M) (m_en M) (m_pg M)) H := hP
    have hD : va_D A (mX cI cJ cZ a (1) (lds) (m_n M) (m_sn M) (m_vn M) (m_rn M) (m_pn M) (m_nw M) (m_grp M) (m_key M) (m_srt M) (m_sd M) (m_go M) (m_seg M) (m_la M) (m_isN M) (m_drp M) (m_has M) (m_sees M) (m_isC M) (m_isG M) (m_ov M) (m_st M) (m_vo M) (m_ko M) (m_sl M) (m_sc M) (m_kp M) (m_en M) (m_pg M)) := hD
    have hPm : va_P D vwCl (mW cI cJ cZ a (1) (lds) M) H := by exact hP
    have hDm : va_D A (mW cI cJ cZ a (1) (lds) M) := by exact hD
    exact W.iret (v := nI (0)) hx hb hr (fun t ht hW => ⟨⟨_, (1, lds, M), rfl, ⟨(by simp only [takeR]; (repeat' split) <;> first | rfl | (exfalso; omega)), (by simp only [takeT]; (repeat' split) <;> first | rfl | (exfalso; omega)), (by simp only [takeM]; (repeat' split) <;> first | rfl | (exfalso; omega))⟩, gb_mk ht hW hPm hK hDm⟩, hS.F ht⟩) hS.2.2 dX6_take_18
def rm_X6_next : Room := { frames := 4, cells := 0, slots := 0, locals := 108 }
set_option maxHeartbeats 4000000 in
set_option maxRecDepth 100000 in
/-- an iterator's next object -/
theorem c_X6_next (l : Launch) (D : va_G) (cI cJ cZ : ClassId) (a : Nat → Nat) (th : Nat) (lds : Nat → Bool) (M : MT) (hM : mOk M) (x : Int32) (sz : Nat) : Met l yX6_next wsX6_next rm_X6_next (va_Pc [.ref (a 0), .int (x)] (GW D (tyW cI cJ cZ) (mW cI cJ cZ a (th) (lds) M) sz)) (va_Qi (fun rr u => rr = nxR M x ∧ u.1 = nxT M x ∧ u.2.2 = nxM M x) (fun u => GB D (tyW cI cJ cZ) (va_A (mW cI cJ cZ a (th) (lds) M) sz) (mWu cI cJ cZ a u)) (va_A (mW cI cJ cZ a (th) (lds) M) sz)) 0 0 (va_A (mW cI cJ cZ a (th) (lds) M) sz) := by
  obtain ⟨hn, hsn, hvn, hrn, hpn, hnw, h_seg, h_la, h_st, h_vo, h_ko, h_sl, h_sc, h_kp, h_en, h_pg, hvo, hko, hsl, hsc⟩ := id hM
  have hixx := ix_c x
  refine Met.ofW (cc := cX6_next) (maxL := 3) (ret := (some .int)) (by decide) rfl ?_
  intro p e s m args below meth c s₁ B hml hv
  obtain ⟨rfl, hsz, hP, hK, hD0⟩ := hv
  have hx := B.exec
  have hb := B.bytes
  have hr := B.returns
  have hts := atoms_spec (ws := wsX6_next) B.pre
  have hown : s.vm.findClass RX6 = some m.cls := findClass_of_methodNamed B.named
  have hlocks := B.notSynchronized
  subst hsz
  have hD := hD0.self (sz := s.heap.size)
  generalize hAe : va_A (mW cI cJ cZ a (th) (lds) M) s.heap.size = A at hD ⊢
  have hA : ∀ q : Nat, s.heap.size ≤ q → A q := fun q h => by rw [← hAe]; exact Or.inr h
  have hS : va_S A s.heap s.heap [] := va_S.rf
  have hP : va_P D vwCl (mX cI cJ cZ a (th) (lds) (m_n M) (m_sn M) (m_vn M) (m_rn M) (m_pn M) (m_nw M) (m_grp M) (m_key M) (m_srt M) (m_sd M) (m_go M) (m_seg M) (m_la M) (m_isN M) (m_drp M) (m_has M) (m_sees M) (m_isC M) (m_isG M) (m_ov M) (m_st M) (m_vo M) (m_ko M) (m_sl M) (m_sc M) (m_kp M) (m_en M) (m_pg M)) s.heap := hP
  have hD : va_D A (mX cI cJ cZ a (th) (lds) (m_n M) (m_sn M) (m_vn M) (m_rn M) (m_pn M) (m_nw M) (m_grp M) (m_key M) (m_srt M) (m_sd M) (m_go M) (m_seg M) (m_la M) (m_isN M) (m_drp M) (m_has M) (m_sees M) (m_isC M) (m_isG M) (m_ov M) (m_st M) (m_vo M) (m_ko M) (m_sl M) (m_sc M) (m_kp M) (m_en M) (m_pg M)) := hD
  have hiX6 : ∀ w ∈ wsX60, w ∈ wsX6_next := by decide +kernel
  have hf0 := hts (.fieldLink RX6 81 "GroupCursorsModel" "thrown" "I") (by decide +kernel)
  have hf1 := hts (.fieldLink RX6 48 "GroupCursorsModel" "isCursor" "[Z") (by decide +kernel)
  have hf2 := hts (.fieldLink RX6 69 "GroupCursorsModel" "isOver" "[Z") (by decide +kernel)
  have hf3 := hts (.fieldLink RX6 72 "GroupCursorsModel" "last" "[I") (by decide +kernel)
  have hf4 := hts (.fieldLink RX6 39 "GroupCursorsModel" "viewOf" "[I") (by decide +kernel)
  have hl := lv_entry ([.ref (a 0), .int (x)]) (n := 3) (Nat.le_of_ble_eq_true rfl)
  rw [lg_entry_eq]
  generalize (lg_sl ([.ref (a 0), .int (x)]) ++ List.replicate (3 - (lg_sl ([.ref (a 0), .int (x)])).length) Slot.unset).toArray = ls at hl ⊢
  have hl : lv_has ls 3 [(0, .ref (a 0)), (1, .int (x))] := hl
  refine lv_aload_n hx hb dX6_next_0 rfl (lv_at hl 0 rfl) ?_
  refine lv_iconst (v := nI (0)) hx hb dX6_next_1 (by decide) ?_
  refine va_put (ci := 6) (v := .int (nI (0))) (ty := .int) (C := RX6) (T := TX6) (N := 30) hx hb hts hiX6 tyX6 tyX6_ok nmX6 hown hK hP hD hS 0 rfl rfl 0 (by decide) hf0 (fun _ h9 => h9) rfl (by decide +kernel) rfl rfl (Nat.le_of_ble_eq_true rfl) dX6_next_2 (fun H locs hP hD hS => ?_)
  have hP : va_P D vwCl (mX cI cJ cZ a (0) (lds) (m_n M) (m_sn M) (m_vn M) (m_rn M) (m_pn M) (m_nw M) (m_grp M) (m_key M) (m_srt M) (m_sd M) (m_go M) (m_seg M) (m_la M) (m_isN M) (m_drp M) (m_has M) (m_sees M) (m_isC M) (m_isG M) (m_ov M) (m_st M) (m_vo M) (m_ko M) (m_sl M) (m_sc M) (m_kp M) (m_en M) (m_pg M)) H := hP
  have hD : va_D A (mX cI cJ cZ a (0) (lds) (m_n M) (m_sn M) (m_vn M) (m_rn M) (m_pn M) (m_nw M) (m_grp M) (m_key M) (m_srt M) (m_sd M) (m_go M) (m_seg M) (m_la M) (m_isN M) (m_drp M) (m_has M) (m_sees M) (m_isC M) (m_isG M) (m_ov M) (m_st M) (m_vo M) (m_ko M) (m_sl M) (m_sc M) (m_kp M) (m_en M) (m_pg M)) := hD
  refine lv_aload_n hx hb dX6_next_5 rfl (lv_at hl 0 rfl) ?_
  refine lv_iload_n hx hb dX6_next_6 rfl (lv_at hl 1 rfl) ?_
  have hPm : va_P D vwCl (mW cI cJ cZ a (0) (lds) M) H := by exact hP
  refine wc_Vi (As := [.int (x)]) (rest := []) ⟨hx, hb, hml, hown, hts⟩ (c_X6_isReader l D cI cJ cZ a (0) (lds) M hM (x)) (cwV 1 hts gX6_next_X6_isReader rfl rfl rfl (by decide +kernel) ⟨Nat.le_of_ble_eq_true rfl, Nat.le_of_ble_eq_true rfl⟩) hPm hK 0 rfl rfl rfl hl.1 rfl (Nat.le_of_ble_eq_true rfl) dX6_next_7 ⟨Nat.zero_le _, Nat.zero_le _⟩ (fun rr hq1 => ?_)
  have hq1 : rr = bI (decide (0 ≤ (x).toInt ∧ (x).toInt < (m_rn M : Int))) := hq1
  subst hq1
  refine wb_if_ne (tgt := 19) hx hb dX6_next_10 (by decide) (fun c10_2 => ?_) (fun c10_2 => ?_)
  · have c10_2p := of_decide_eq_true c10_2
    refine lv_aload_n hx hb dX6_next_19 rfl (lv_at hl 0 rfl) ?_
    refine va_get (ci := 6) (v := .ref (a 13)) (C := RX6) (T := TX6) (N := 30) hx hb hts hiX6 hown hK hP 0 rfl rfl 17 (by decide) hf1 (fun _ h9 => h9) rfl dX6_next_20 ?_
    refine lv_iload_n hx hb dX6_next_23 rfl (lv_at hl 1 rfl) ?_
    refine ww_top (y := nI (ix x)) (ix_n (by omega)) ?_
    refine wa_z (i := ix x) (v := bI (m_isC M (ix x))) hx hb hK hP 13 2 rfl rfl rfl (by omega) (by decide) dX6_next_24 ?_
    refine wb_if_eq (tgt := 34) hx hb dX6_next_25 (by decide) (fun c25_3 => ?_) (fun c25_3 => ?_)
    · refine lv_aload_n hx hb dX6_next_34 rfl (lv_at hl 0 rfl) ?_
      refine va_get (ci := 6) (v := .ref (a 20)) (C := RX6) (T := TX6) (N := 30) hx hb hts hiX6 hown hK hP 0 rfl rfl 24 (by decide) hf2 (fun _ h9 => h9) rfl dX6_next_35 ?_
      refine lv_iload_n hx hb dX6_next_38 rfl (lv_at hl 1 rfl) ?_
      refine ww_top (y := nI (ix x)) (ix_n (by omega)) ?_
      refine wa_z (i := ix x) (v := bI (m_ov M (ix x))) hx hb hK hP 20 2 rfl rfl rfl (by omega) (by decide) dX6_next_39 ?_
      refine wb_if_eq (tgt := 49) hx hb dX6_next_40 (by decide) (fun c40_4 => ?_) (fun c40_4 => ?_)
      · refine lv_aload_n hx hb dX6_next_49 rfl (lv_at hl 0 rfl) ?_
        refine lv_iload_n hx hb dX6_next_50 rfl (lv_at hl 1 rfl) ?_
        refine ww_top (y := nI (ix x)) (ix_n (by omega)) ?_
        have hPm : va_P D vwCl (mW cI cJ cZ a (0) (lds) M) H := by exact hP
        refine wc_Vi (As := [.int (nI (ix x))]) (rest := []) ⟨hx, hb, hml, hown, hts⟩ (c_X6_nextOf l D cI cJ cZ a (0) (lds) M hM (ix x) (by omega)) (cwV 1 hts gX6_next_X6_nextOf rfl rfl rfl (by decide +kernel) ⟨Nat.le_of_ble_eq_true rfl, Nat.le_of_ble_eq_true rfl⟩) hPm hK 0 rfl rfl rfl hl.1 rfl (Nat.le_of_ble_eq_true rfl) dX6_next_51 ⟨Nat.zero_le _, Nat.zero_le _⟩ (fun rr hq5 => ?_)
        have hq5 : rr = zI (nextOf M (ix x)) := hq5
        subst hq5
        have hfl6 : -1 ≤ (nextOf M (ix x) : Int) ∧ (nextOf M (ix x) : Int) < (m_n M : Int) := following_in _ _ _ _ _ _ _ _ _
        refine lv_istore_n (lv' := [(2, .int (zI (nextOf M (ix x)))), (0, .ref (a 0)), (1, .int (x))]) hx hb dX6_next_54 rfl hl (by decide) rfl (fun ls hl => ?_)
        refine lv_aload_n hx hb dX6_next_55 rfl (lv_at hl 1 rfl) ?_
        refine va_get (ci := 6) (v := .ref (a 21)) (C := RX6) (T := TX6) (N := 30) hx hb hts hiX6 hown hK hP 0 rfl rfl 25 (by decide) hf3 (fun _ h9 => h9) rfl dX6_next_56 ?_
        refine lv_iload_n hx hb dX6_next_59 rfl (lv_at hl 2 rfl) ?_
        refine ww_top (y := nI (ix x)) (ix_n (by omega)) ?_
        refine lv_iload_n hx hb dX6_next_60 rfl (lv_at hl 0 rfl) ?_
        refine wa_ist (i := ix x) hx hb hK hP hD hS 21 0 rfl rfl (upd_zI (m_la M) (ix x) ((nextOf M (ix x) : Int))) (by omega) (by decide) dX6_next_61 (fun H locs hP hD hS => ?_)
        have hP : va_P D vwCl (mX cI cJ cZ a (0) (lds) (m_n M) (m_sn M) (m_vn M) (m_rn M) (m_pn M) (m_nw M) (m_grp M) (m_key M) (m_srt M) (m_sd M) (m_go M) (m_seg M) (va_up (m_la M) (ix x) ((nextOf M (ix x) : Int))) (m_isN M) (m_drp M) (m_has M) (m_sees M) (m_isC M) (m_isG M) (m_ov M) (m_st M) (m_vo M) (m_ko M) (m_sl M) (m_sc M) (m_kp M) (m_en M) (m_pg M)) H := hP
        have hD : va_D A (mX cI cJ cZ a (0) (lds) (m_n M) (m_sn M) (m_vn M) (m_rn M) (m_pn M) (m_nw M) (m_grp M) (m_key M) (m_srt M) (m_sd M) (m_go M) (m_seg M) (va_up (m_la M) (ix x) ((nextOf M (ix x) : Int))) (m_isN M) (m_drp M) (m_has M) (m_sees M) (m_isC M) (m_isG M) (m_ov M) (m_st M) (m_vo M) (m_ko M) (m_sl M) (m_sc M) (m_kp M) (m_en M) (m_pg M)) := hD
        refine lv_aload_n hx hb dX6_next_62 rfl (lv_at hl 1 rfl) ?_
        refine lv_iload_n hx hb dX6_next_63 rfl (lv_at hl 2 rfl) ?_
        refine ww_top (y := nI (ix x)) (ix_n (by omega)) ?_
        have hPm : va_P D vwCl (mW cI cJ cZ a (0) (lds) (nx1 M (ix x))) H := by show va_P D vwCl (mW cI cJ cZ a (0) (lds) (mkM (m_n M) (m_sn M) (m_vn M) (m_rn M) (m_pn M) (m_nw M) (m_grp M) (m_key M) (m_srt M) (m_sd M) (m_go M) (m_seg M) (va_up (m_la M) (ix x) ((nextOf M (ix x) : Int))) (m_isN M) (m_drp M) (m_has M) (m_sees M) (m_isC M) (m_isG M) (m_ov M) (m_st M) (m_vo M) (m_ko M) (m_sl M) (m_sc M) (m_kp M) (m_en M) (m_pg M))) H; rw [← mX_mk]; exact hP
        refine wc_Vi (As := [.int (nI (ix x))]) (rest := []) ⟨hx, hb, hml, hown, hts⟩ (c_X6_nextOf l D cI cJ cZ a (0) (lds) (nx1 M (ix x)) (ok_nx1 hM (ix x)) (ix x) (by omega)) (cwV 1 hts gX6_next_X6_nextOf rfl rfl rfl (by decide +kernel) ⟨Nat.le_of_ble_eq_true rfl, Nat.le_of_ble_eq_true rfl⟩) hPm hK 0 rfl rfl rfl hl.1 rfl (Nat.le_of_ble_eq_true rfl) dX6_next_64 ⟨Nat.zero_le _, Nat.zero_le _⟩ (fun rr hq7 => ?_)
        have hq7 : rr = zI (nextOf (nx1 M (ix x)) (ix x)) := hq7
        subst hq7
        have hnq8 : m_n (nx1 M (ix x)) ≤ 300 := ((ok_nx1 hM (ix x))).1
        have hfl9 : -1 ≤ (nextOf (nx1 M (ix x)) (ix x) : Int) ∧ (nextOf (nx1 M (ix x)) (ix x) : Int) < (m_n (nx1 M (ix x)) : Int) := following_in _ _ _ _ _ _ _ _ _
        refine wz_if_ge (tgt := 87) hx hb ((nextOf (nx1 M (ix x)) (ix x) : Int)) (zI_toInt (by omega) (by omega)) dX6_next_67 (by decide) (fun c67_10 => ?_) (fun c67_10 => ?_)
        · refine lv_iload_n hx hb dX6_next_87 rfl (lv_at hl 0 rfl) ?_
          have hPm : va_P D vwCl (mW cI cJ cZ a (0) (lds) (nx1 M (ix x))) H := by show va_P D vwCl (mW cI cJ cZ a (0) (lds) (mkM (m_n M) (m_sn M) (m_vn M) (m_rn M) (m_pn M) (m_nw M) (m_grp M) (m_key M) (m_srt M) (m_sd M) (m_go M) (m_seg M) (va_up (m_la M) (ix x) ((nextOf M (ix x) : Int))) (m_isN M) (m_drp M) (m_has M) (m_sees M) (m_isC M) (m_isG M) (m_ov M) (m_st M) (m_vo M) (m_ko M) (m_sl M) (m_sc M) (m_kp M) (m_en M) (m_pg M))) H; rw [← mX_mk]; exact hP
          have hDm : va_D A (mW cI cJ cZ a (0) (lds) (nx1 M (ix x))) := by show va_D A (mW cI cJ cZ a (0) (lds) (mkM (m_n M) (m_sn M) (m_vn M) (m_rn M) (m_pn M) (m_nw M) (m_grp M) (m_key M) (m_srt M) (m_sd M) (m_go M) (m_seg M) (va_up (m_la M) (ix x) ((nextOf M (ix x) : Int))) (m_isN M) (m_drp M) (m_has M) (m_sees M) (m_isC M) (m_isG M) (m_ov M) (m_st M) (m_vo M) (m_ko M) (m_sl M) (m_sc M) (m_kp M) (m_en M) (m_pg M))); rw [← mX_mk]; exact hD
          exact W.iret (v := zI (nextOf M (ix x))) hx hb hr (fun t ht hW => ⟨⟨_, (0, lds, (nx1 M (ix x))), rfl, ⟨by rw [nxR, if_neg (by omega), if_neg (by rw [c25_3]; decide), if_neg (by rw [c40_4]; decide)], by rw [nxT, if_neg (by omega), if_neg (by rw [c25_3]; decide), if_neg (by rw [c40_4]; decide)], by rw [nxM, if_neg (by omega), if_neg (by rw [c25_3]; decide), if_neg (by rw [c40_4]; decide), if_neg (by omega)]⟩, gb_mk ht hW hPm hK hDm⟩, hS.F ht⟩) hS.2.2 dX6_next_88
        · refine lv_aload_n hx hb dX6_next_70 rfl (lv_at hl 1 rfl) ?_
          refine va_get (ci := 6) (v := .ref (a 20)) (C := RX6) (T := TX6) (N := 30) hx hb hts hiX6 hown hK hP 0 rfl rfl 24 (by decide) hf2 (fun _ h9 => h9) rfl dX6_next_71 ?_
          refine lv_iload_n hx hb dX6_next_74 rfl (lv_at hl 2 rfl) ?_
          refine ww_top (y := nI (ix x)) (ix_n (by omega)) ?_
          refine lv_iconst (v := nI (1)) hx hb dX6_next_75 (by decide) ?_
          refine wa_zst (i := ix x) (b := true) (f := m_ov M) hx hb hK hP hD hS 20 2 rfl rfl rfl (by omega) (by decide) dX6_next_76 (fun H locs hP hD hS => ?_)
          have hP : va_P D vwCl (mX cI cJ cZ a (0) (lds) (m_n M) (m_sn M) (m_vn M) (m_rn M) (m_pn M) (m_nw M) (m_grp M) (m_key M) (m_srt M) (m_sd M) (m_go M) (m_seg M) (va_up (m_la M) (ix x) ((nextOf M (ix x) : Int))) (m_isN M) (m_drp M) (m_has M) (m_sees M) (m_isC M) (m_isG M) (va_up (m_ov M) (ix x) (true)) (m_st M) (m_vo M) (m_ko M) (m_sl M) (m_sc M) (m_kp M) (m_en M) (m_pg M)) H := hP
          have hD : va_D A (mX cI cJ cZ a (0) (lds) (m_n M) (m_sn M) (m_vn M) (m_rn M) (m_pn M) (m_nw M) (m_grp M) (m_key M) (m_srt M) (m_sd M) (m_go M) (m_seg M) (va_up (m_la M) (ix x) ((nextOf M (ix x) : Int))) (m_isN M) (m_drp M) (m_has M) (m_sees M) (m_isC M) (m_isG M) (va_up (m_ov M) (ix x) (true)) (m_st M) (m_vo M) (m_ko M) (m_sl M) (m_sc M) (m_kp M) (m_en M) (m_pg M)) := hD
          have hvo0 := hvo (ix x)
          refine lv_aload_n hx hb dX6_next_77 rfl (lv_at hl 1 rfl) ?_
          refine lv_aload_n hx hb dX6_next_78 rfl (lv_at hl 1 rfl) ?_
          refine va_get (ci := 6) (v := .ref (a 10)) (C := RX6) (T := TX6) (N := 30) hx hb hts hiX6 hown hK hP 0 rfl rfl 14 (by decide) hf4 (fun _ h9 => h9) rfl dX6_next_79 ?_
          refine lv_iload_n hx hb dX6_next_82 rfl (lv_at hl 2 rfl) ?_
          refine ww_top (y := nI (ix x)) (ix_n (by omega)) ?_
          refine wa_i (i := ix x) (v := nI (m_vo M (ix x))) hx hb hK hP 10 0 rfl rfl rfl (by omega) (by decide) dX6_next_83 ?_
          have hPm : va_P D vwCl (mW cI cJ cZ a (0) (lds) (nx2 M (ix x))) H := by show va_P D vwCl (mW cI cJ cZ a (0) (lds) (mkM (m_n M) (m_sn M) (m_vn M) (m_rn M) (m_pn M) (m_nw M) (m_grp M) (m_key M) (m_srt M) (m_sd M) (m_go M) (m_seg M) (va_up (m_la M) (ix x) ((nextOf M (ix x) : Int))) (m_isN M) (m_drp M) (m_has M) (m_sees M) (m_isC M) (m_isG M) (va_up (m_ov M) (ix x) (true)) (m_st M) (m_vo M) (m_ko M) (m_sl M) (m_sc M) (m_kp M) (m_en M) (m_pg M))) H; rw [← mX_mk]; exact hP
          have hDm : va_D A (mW cI cJ cZ a (0) (lds) (nx2 M (ix x))) := by show va_D A (mW cI cJ cZ a (0) (lds) (mkM (m_n M) (m_sn M) (m_vn M) (m_rn M) (m_pn M) (m_nw M) (m_grp M) (m_key M) (m_srt M) (m_sd M) (m_go M) (m_seg M) (va_up (m_la M) (ix x) ((nextOf M (ix x) : Int))) (m_isN M) (m_drp M) (m_has M) (m_sees M) (m_isC M) (m_isG M) (va_up (m_ov M) (ix x) (true)) (m_st M) (m_vo M) (m_ko M) (m_sl M) (m_sc M) (m_kp M) (m_en M) (m_pg M))); rw [← mX_mk]; exact hD
          refine wc_VWv (As := [.int (nI (m_vo M (ix x)))]) (rest := []) (wf := mWu cI cJ cZ a) ⟨hx, hb, hml, hown, hts⟩ (c_X6_settle l D cI cJ cZ a (0) (lds) (nx2 M (ix x)) (ok_nx2 hM (ix x)) (m_vo M (ix x)) (by omega) H.size) (cwV 1 hts gX6_next_X6_settle rfl rfl rfl (by decide +kernel) ⟨Nat.le_of_ble_eq_true rfl, Nat.le_of_ble_eq_true rfl⟩) hPm hK hDm hS hA 0 rfl rfl rfl hl.1 rfl (Nat.le_of_ble_eq_true rfl) dX6_next_84 ⟨Nat.zero_le _, Nat.zero_le _⟩ (fun u11 hq11 H locs hP hD hS => ?_)
          obtain ⟨hu11a, hu11b, hu11c⟩ := hq11
          obtain ⟨u111, u112, u113⟩ := u11
          dsimp only at hu11a hu11b hu11c
          have hu11a := hu11a.symm
          have hu11b := hu11b.symm
          have hu11c := hu11c.symm
          subst hu11a
          subst hu11b
          subst hu11c
          have hP : va_P D vwCl (mX cI cJ cZ a (0) (lds) (m_n (settleM (nx2 M (ix x)) (m_vo M (ix x)))) (m_sn (settleM (nx2 M (ix x)) (m_vo M (ix x)))) (m_vn (settleM (nx2 M (ix x)) (m_vo M (ix x)))) (m_rn (settleM (nx2 M (ix x)) (m_vo M (ix x)))) (m_pn (settleM (nx2 M (ix x)) (m_vo M (ix x)))) (m_nw (settleM (nx2 M (ix x)) (m_vo M (ix x)))) (m_grp (settleM (nx2 M (ix x)) (m_vo M (ix x)))) (m_key (settleM (nx2 M (ix x)) (m_vo M (ix x)))) (m_srt (settleM (nx2 M (ix x)) (m_vo M (ix x)))) (m_sd (settleM (nx2 M (ix x)) (m_vo M (ix x)))) (m_go (settleM (nx2 M (ix x)) (m_vo M (ix x)))) (m_seg (settleM (nx2 M (ix x)) (m_vo M (ix x)))) (m_la (settleM (nx2 M (ix x)) (m_vo M (ix x)))) (m_isN (settleM (nx2 M (ix x)) (m_vo M (ix x)))) (m_drp (settleM (nx2 M (ix x)) (m_vo M (ix x)))) (m_has (settleM (nx2 M (ix x)) (m_vo M (ix x)))) (m_sees (settleM (nx2 M (ix x)) (m_vo M (ix x)))) (m_isC (settleM (nx2 M (ix x)) (m_vo M (ix x)))) (m_isG (settleM (nx2 M (ix x)) (m_vo M (ix x)))) (m_ov (settleM (nx2 M (ix x)) (m_vo M (ix x)))) (m_st (settleM (nx2 M (ix x)) (m_vo M (ix x)))) (m_vo (settleM (nx2 M (ix x)) (m_vo M (ix x)))) (m_ko (settleM (nx2 M (ix x)) (m_vo M (ix x)))) (m_sl (settleM (nx2 M (ix x)) (m_vo M (ix x)))) (m_sc (settleM (nx2 M (ix x)) (m_vo M (ix x)))) (m_kp (settleM (nx2 M (ix x)) (m_vo M (ix x)))) (m_en (settleM (nx2 M (ix x)) (m_vo M (ix x)))) (m_pg (settleM (nx2 M (ix x)) (m_vo M (ix x))))) H := hP
          have hD : va_D A (mX cI cJ cZ a (0) (lds) (m_n (settleM (nx2 M (ix x)) (m_vo M (ix x)))) (m_sn (settleM (nx2 M (ix x)) (m_vo M (ix x)))) (m_vn (settleM (nx2 M (ix x)) (m_vo M (ix x)))) (m_rn (settleM (nx2 M (ix x)) (m_vo M (ix x)))) (m_pn (settleM (nx2 M (ix x)) (m_vo M (ix x)))) (m_nw (settleM (nx2 M (ix x)) (m_vo M (ix x)))) (m_grp (settleM (nx2 M (ix x)) (m_vo M (ix x)))) (m_key (settleM (nx2 M (ix x)) (m_vo M (ix x)))) (m_srt (settleM (nx2 M (ix x)) (m_vo M (ix x)))) (m_sd (settleM (nx2 M (ix x)) (m_vo M (ix x)))) (m_go (settleM (nx2 M (ix x)) (m_vo M (ix x)))) (m_seg (settleM (nx2 M (ix x)) (m_vo M (ix x)))) (m_la (settleM (nx2 M (ix x)) (m_vo M (ix x)))) (m_isN (settleM (nx2 M (ix x)) (m_vo M (ix x)))) (m_drp (settleM (nx2 M (ix x)) (m_vo M (ix x)))) (m_has (settleM (nx2 M (ix x)) (m_vo M (ix x)))) (m_sees (settleM (nx2 M (ix x)) (m_vo M (ix x)))) (m_isC (settleM (nx2 M (ix x)) (m_vo M (ix x)))) (m_isG (settleM (nx2 M (ix x)) (m_vo M (ix x)))) (m_ov (settleM (nx2 M (ix x)) (m_vo M (ix x)))) (m_st (settleM (nx2 M (ix x)) (m_vo M (ix x)))) (m_vo (settleM (nx2 M (ix x)) (m_vo M (ix x)))) (m_ko (settleM (nx2 M (ix x)) (m_vo M (ix x)))) (m_sl (settleM (nx2 M (ix x)) (m_vo M (ix x)))) (m_sc (settleM (nx2 M (ix x)) (m_vo M (ix x)))) (m_kp (settleM (nx2 M (ix x)) (m_vo M (ix x)))) (m_en (settleM (nx2 M (ix x)) (m_vo M (ix x)))) (m_pg (settleM (nx2 M (ix x)) (m_vo M (ix x))))) := hD
          refine lv_iload_n hx hb dX6_next_87 rfl (lv_at hl 0 rfl) ?_
          have hPm : va_P D vwCl (mW cI cJ cZ a (0) (lds) (settleM (nx2 M (ix x)) (m_vo M (ix x)))) H := by exact hP
          have hDm : va_D A (mW cI cJ cZ a (0) (lds) (settleM (nx2 M (ix x)) (m_vo M (ix x)))) := by exact hD
          exact W.iret (v := zI (nextOf M (ix x))) hx hb hr (fun t ht hW => ⟨⟨_, (0, lds, (settleM (nx2 M (ix x)) (m_vo M (ix x)))), rfl, ⟨by rw [nxR, if_neg (by omega), if_neg (by rw [c25_3]; decide), if_neg (by rw [c40_4]; decide)], by rw [nxT, if_neg (by omega), if_neg (by rw [c25_3]; decide), if_neg (by rw [c40_4]; decide)], by rw [nxM, if_neg (by omega), if_neg (by rw [c25_3]; decide), if_neg (by rw [c40_4]; decide), if_pos (by omega)]⟩, gb_mk ht hW hPm hK hDm⟩, hS.F ht⟩) hS.2.2 dX6_next_88
      · refine lv_aload_n hx hb dX6_next_43 rfl (lv_at hl 0 rfl) ?_
        refine lv_iconst (v := nI (3)) hx hb dX6_next_44 (by decide) ?_
        have hPm : va_P D vwCl (mW cI cJ cZ a (0) (lds) M) H := by exact hP
        have hDm : va_D A (mW cI cJ cZ a (0) (lds) M) := by exact hD
        refine wc_VWi (As := [.int (nI (3))]) (rest := []) (wf := mWu cI cJ cZ a) ⟨hx, hb, hml, hown, hts⟩ (c_X6_fails l D cI cJ cZ a (0) (lds) M hM (3) (by omega) H.size) (cwV 1 hts gX6_next_X6_fails rfl rfl rfl (by decide +kernel) ⟨Nat.le_of_ble_eq_true rfl, Nat.le_of_ble_eq_true rfl⟩) hPm hK hDm hS hA 0 rfl rfl rfl hl.1 rfl (Nat.le_of_ble_eq_true rfl) dX6_next_45 ⟨Nat.zero_le _, Nat.zero_le _⟩ (fun rr u12 hq12 H locs hP hD hS => ?_)
        obtain ⟨hr12, hu12⟩ := hq12
        subst hr12
        subst hu12
        have hP : va_P D vwCl (mX cI cJ cZ a (3) (lds) (m_n M) (m_sn M) (m_vn M) (m_rn M) (m_pn M) (m_nw M) (m_grp M) (m_key M) (m_srt M) (m_sd M) (m_go M) (m_seg M) (m_la M) (m_isN M) (m_drp M) (m_has M) (m_sees M) (m_isC M) (m_isG M) (m_ov M) (m_st M) (m_vo M) (m_ko M) (m_sl M) (m_sc M) (m_kp M) (m_en M) (m_pg M)) H := hP
        have hD : va_D A (mX cI cJ cZ a (3) (lds) (m_n M) (m_sn M) (m_vn M) (m_rn M) (m_pn M) (m_nw M) (m_grp M) (m_key M) (m_srt M) (m_sd M) (m_go M) (m_seg M) (m_la M) (m_isN M) (m_drp M) (m_has M) (m_sees M) (m_isC M) (m_isG M) (m_ov M) (m_st M) (m_vo M) (m_ko M) (m_sl M) (m_sc M) (m_kp M) (m_en M) (m_pg M)) := hD
        have hPm : va_P D vwCl (mW cI cJ cZ a (3) (lds) M) H := by exact hP
        have hDm : va_D A (mW cI cJ cZ a (3) (lds) M) := by exact hD
        exact W.iret (v := nI (0)) hx hb hr (fun t ht hW => ⟨⟨_, (3, lds, M), rfl, ⟨(by simp only [nxR, c25_3, c40_4, if_true, if_false, eq_self, Bool.true_eq_false, Bool.false_eq_true, ite_true, ite_false, reduceIte]; (repeat' split) <;> first | rfl | (exfalso; omega)), (by simp only [nxT, c25_3, c40_4, if_true, if_false, eq_self, Bool.true_eq_false, Bool.false_eq_true, ite_true, ite_false, reduceIte]; (repeat' split) <;> first | rfl | (exfalso; omega)), (by simp only [nxM, c25_3, c40_4, if_true, if_false, eq_self, Bool.true_eq_false, Bool.false_eq_true, ite_true, ite_false, reduceIte]; (repeat' split) <;> first | rfl | (exfalso; omega))⟩, gb_mk ht hW hPm hK hDm⟩, hS.F ht⟩) hS.2.2 dX6_next_48
    · refine lv_aload_n hx hb dX6_next_28 rfl (lv_at hl 0 rfl) ?_
      refine lv_iconst (v := nI (2)) hx hb dX6_next_29 (by decide) ?_
      have hPm : va_P D vwCl (mW cI cJ cZ a (0) (lds) M) H := by exact hP
      have hDm : va_D A (mW cI cJ cZ a (0) (lds) M) := by exact hD
      refine wc_VWi (As := [.int (nI (2))]) (rest := []) (wf := mWu cI cJ cZ a) ⟨hx, hb, hml, hown, hts⟩ (c_X6_fails l D cI cJ cZ a (0) (lds) M hM (2) (by omega) H.size) (cwV 1 hts gX6_next_X6_fails rfl rfl rfl (by decide +kernel) ⟨Nat.le_of_ble_eq_true rfl, Nat.le_of_ble_eq_true rfl⟩) hPm hK hDm hS hA 0 rfl rfl rfl hl.1 rfl (Nat.le_of_ble_eq_true rfl) dX6_next_30 ⟨Nat.zero_le _, Nat.zero_le _⟩ (fun rr u13 hq13 H locs hP hD hS => ?_)
      obtain ⟨hr13, hu13⟩ := hq13
      subst hr13
      subst hu13
      have hP : va_P D vwCl (mX cI cJ cZ a (2) (lds) (m_n M) (m_sn M) (m_vn M) (m_rn M) (m_pn M) (m_nw M) (m_grp M) (m_key M) (m_srt M) (m_sd M) (m_go M) (m_seg M) (m_la M) (m_isN M) (m_drp M) (m_has M) (m_sees M) (m_isC M) (m_isG M) (m_ov M) (m_st M) (m_vo M) (m_ko M) (m_sl M) (m_sc M) (m_kp M) (m_en M) (m_pg M)) H := hP
      have hD : va_D A (mX cI cJ cZ a (2) (lds) (m_n M) (m_sn M) (m_vn M) (m_rn M) (m_pn M) (m_nw M) (m_grp M) (m_key M) (m_srt M) (m_sd M) (m_go M) (m_seg M) (m_la M) (m_isN M) (m_drp M) (m_has M) (m_sees M) (m_isC M) (m_isG M) (m_ov M) (m_st M) (m_vo M) (m_ko M) (m_sl M) (m_sc M) (m_kp M) (m_en M) (m_pg M)) := hD
      have hPm : va_P D vwCl (mW cI cJ cZ a (2) (lds) M) H := by exact hP
      have hDm : va_D A (mW cI cJ cZ a (2) (lds) M) := by exact hD
      exact W.iret (v := nI (0)) hx hb hr (fun t ht hW => ⟨⟨_, (2, lds, M), rfl, ⟨(by simp only [nxR, c25_3, if_true, if_false, eq_self, Bool.true_eq_false, Bool.false_eq_true, ite_true, ite_false, reduceIte]; (repeat' split) <;> first | rfl | (exfalso; omega)), (by simp only [nxT, c25_3, if_true, if_false, eq_self, Bool.true_eq_false, Bool.false_eq_true, ite_true, ite_false, reduceIte]; (repeat' split) <;> first | rfl | (exfalso; omega)), (by simp only [nxM, c25_3, if_true, if_false, eq_self, Bool.true_eq_false, Bool.false_eq_true, ite_true, ite_false, reduceIte]; (repeat' split) <;> first | rfl | (exfalso; omega))⟩, gb_mk ht hW hPm hK hDm⟩, hS.F ht⟩) hS.2.2 dX6_next_33
  · have c10_2p := of_decide_eq_false c10_2
    refine lv_aload_n hx hb dX6_next_13 rfl (lv_at hl 0 rfl) ?_
    refine lv_iconst (v := nI (1)) hx hb dX6_next_14 (by decide) ?_
    have hPm : va_P D vwCl (mW cI cJ cZ a (0) (lds) M) H := by exact hP
    have hDm : va_D A (mW cI cJ cZ a (0) (lds) M) := by exact hD
    refine wc_VWi (As := [.int (nI (1))]) (rest := []) (wf := mWu cI cJ cZ a) ⟨hx, hb, hml, hown, hts⟩ (c_X6_fails l D cI cJ cZ a (0) (lds) M hM (1) (by omega) H.size) (cwV 1 hts gX6_next_X6_fails rfl rfl rfl (by decide +kernel) ⟨Nat.le_of_ble_eq_true rfl, Nat.le_of_ble_eq_true rfl⟩) hPm hK hDm hS hA 0 rfl rfl rfl hl.1 rfl (Nat.le_of_ble_eq_true rfl) dX6_next_15 ⟨Nat.zero_le _, Nat.zero_le _⟩ (fun rr u14 hq14 H locs hP hD hS => ?_)
    obtain ⟨hr14, hu14⟩ := hq14
    subst hr14
    subst hu14
    have hP : va_P D vwCl (mX cI cJ cZ a (1) (lds) (m_n M) (m_sn M) (m_vn M) (m_rn M) (m_pn M) (m_nw M) (m_grp M) (m_key M) (m_srt M) (m_sd M) (m_go M) (m_seg M) (m_la M) (m_isN M) (m_drp M) (m_has M) (m_sees M) (m_isC M) (m_isG M) (m_ov M) (m_st M) (m_vo M) (m_ko M) (m_sl M) (m_sc M) (m_kp M) (m_en M) (m_pg M)) H := hP
    have hD : va_D A (mX cI cJ cZ a (1) (lds) (m_n M) (m_sn M) (m_vn M) (m_rn M) (m_pn M) (m_nw M) (m_grp M) (m_key M) (m_srt M) (m_sd M) (m_go M) (m_seg M) (m_la M) (m_isN M) (m_drp M) (m_has M) (m_sees M) (m_isC M) (m_isG M) (m_ov M) (m_st M) (m_vo M) (m_ko M) (m_sl M) (m_sc M) (m_kp M) (m_en M) (m_pg M)) := hD
    have hPm : va_P D vwCl (mW cI cJ cZ a (1) (lds) M) H := by exact hP
    have hDm : va_D A (mW cI cJ cZ a (1) (lds) M) := by exact hD
    exact W.iret (v := nI (0)) hx hb hr (fun t ht hW => ⟨⟨_, (1, lds, M), rfl, ⟨(by simp only [nxR]; (repeat' split) <;> first | rfl | (exfalso; omega)), (by simp only [nxT]; (repeat' split) <;> first | rfl | (exfalso; omega)), (by simp only [nxM]; (repeat' split) <;> first | rfl | (exfalso; omega))⟩, gb_mk ht hW hPm hK hDm⟩, hS.F ht⟩) hS.2.2 dX6_next_18
def rm_X6_leftOf : Room := { frames := 4, cells := 0, slots := 0, locals := 108 }
set_option maxHeartbeats 4000000 in
set_option maxRecDepth 100000 in
/-- how many a reader has yet to give -/
theorem c_X6_leftOf (l : Launch) (D : va_G) (cI cJ cZ : ClassId) (a : Nat → Nat) (th : Nat) (lds : Nat → Bool) (M : MT) (hM : mOk M) (r K : Nat) (hr1 : r < 60) (hlK : leftK M r K) (sz : Nat) : Met l yX6_leftOf wsX6_leftOf rm_X6_leftOf (va_Pc [.ref (a 0), .int (nI (r))] (GW D (tyW cI cJ cZ) (mW cI cJ cZ a (th) (lds) M) sz)) (va_Qi (fun rr u => rr = nI K ∧ u.1 = th ∧ u.2.1 = lds ∧ u.2.2 = M) (fun u => GB D (tyW cI cJ cZ) (va_A (mW cI cJ cZ a (th) (lds) M) sz) (mWu cI cJ cZ a u)) (va_A (mW cI cJ cZ a (th) (lds) M) sz)) 0 0 (va_A (mW cI cJ cZ a (th) (lds) M) sz) := by
  obtain ⟨hn, hsn, hvn, hrn, hpn, hnw, h_seg, h_la, h_st, h_vo, h_ko, h_sl, h_sc, h_kp, h_en, h_pg, hvo, hko, hsl, hsc⟩ := id hM
  have hK1 := hlK.1
  refine Met.ofW (cc := cX6_leftOf) (maxL := 4) (ret := (some .int)) (by decide) rfl ?_
  intro p e s m args below meth c s₁ B hml hv
  obtain ⟨rfl, hsz, hP, hK, hD0⟩ := hv
  have hx := B.exec
  have hb := B.bytes
  have hr := B.returns
  have hts := atoms_spec (ws := wsX6_leftOf) B.pre
  have hown : s.vm.findClass RX6 = some m.cls := findClass_of_methodNamed B.named
  have hlocks := B.notSynchronized
  subst hsz
  have hD := hD0.self (sz := s.heap.size)
  generalize hAe : va_A (mW cI cJ cZ a (th) (lds) M) s.heap.size = A at hD ⊢
  have hA : ∀ q : Nat, s.heap.size ≤ q → A q := fun q h => by rw [← hAe]; exact Or.inr h
  have hS : va_S A s.heap s.heap [] := va_S.rf
  have hP : va_P D vwCl (mX cI cJ cZ a (th) (lds) (m_n M) (m_sn M) (m_vn M) (m_rn M) (m_pn M) (m_nw M) (m_grp M) (m_key M) (m_srt M) (m_sd M) (m_go M) (m_seg M) (m_la M) (m_isN M) (m_drp M) (m_has M) (m_sees M) (m_isC M) (m_isG M) (m_ov M) (m_st M) (m_vo M) (m_ko M) (m_sl M) (m_sc M) (m_kp M) (m_en M) (m_pg M)) s.heap := hP
  have hD : va_D A (mX cI cJ cZ a (th) (lds) (m_n M) (m_sn M) (m_vn M) (m_rn M) (m_pn M) (m_nw M) (m_grp M) (m_key M) (m_srt M) (m_sd M) (m_go M) (m_seg M) (m_la M) (m_isN M) (m_drp M) (m_has M) (m_sees M) (m_isC M) (m_isG M) (m_ov M) (m_st M) (m_vo M) (m_ko M) (m_sl M) (m_sc M) (m_kp M) (m_en M) (m_pg M)) := hD
  have hiX6 : ∀ w ∈ wsX60, w ∈ wsX6_leftOf := by decide +kernel
  have hf0 := hts (.fieldLink RX6 72 "GroupCursorsModel" "last" "[I") (by decide +kernel)
  have hl := lv_entry ([.ref (a 0), .int (nI (r))]) (n := 4) (Nat.le_of_ble_eq_true rfl)
  rw [lg_entry_eq]
  generalize (lg_sl ([.ref (a 0), .int (nI (r))]) ++ List.replicate (4 - (lg_sl ([.ref (a 0), .int (nI (r))])).length) Slot.unset).toArray = ls at hl ⊢
  have hl : lv_has ls 4 [(0, .ref (a 0)), (1, .int (nI (r)))] := hl
  refine lv_iconst (v := nI (0)) hx hb dX6_leftOf_0 (by decide) ?_
  refine lv_istore_n (lv' := [(2, .int (nI (0))), (0, .ref (a 0)), (1, .int (nI (r)))]) hx hb dX6_leftOf_1 rfl hl (by decide) rfl (fun ls hl => ?_)
  refine lv_aload_n hx hb dX6_leftOf_2 rfl (lv_at hl 1 rfl) ?_
  refine va_get (ci := 6) (v := .ref (a 21)) (C := RX6) (T := TX6) (N := 30) hx hb hts hiX6 hown hK hP 0 rfl rfl 25 (by decide) hf0 (fun _ h9 => h9) rfl dX6_leftOf_3 ?_
  refine lv_iload_n hx hb dX6_leftOf_6 rfl (lv_at hl 2 rfl) ?_
  refine wa_i (i := r) (v := zI (m_la M r)) hx hb hK hP 21 0 rfl rfl rfl (by omega) (by decide) dX6_leftOf_7 ?_
  refine lv_istore_n (lv' := [(3, .int (zI (m_la M r))), (2, .int (nI (0))), (0, .ref (a 0)), (1, .int (nI (r)))]) hx hb dX6_leftOf_8 rfl hl (by decide) rfl (fun ls hl => ?_)
  have hlp9 : ∀ (d : Nat) (j : Nat) (H : Heap) (locs : List Loc), K + 1 - j < d → (j ≤ K) → va_P D vwCl (mX cI cJ cZ a (th) (lds) (m_n (lfS M r j)) (m_sn (lfS M r j)) (m_vn (lfS M r j)) (m_rn (lfS M r j)) (m_pn (lfS M r j)) (m_nw (lfS M r j)) (m_grp (lfS M r j)) (m_key (lfS M r j)) (m_srt (lfS M r j)) (m_sd (lfS M r j)) (m_go (lfS M r j)) (m_seg (lfS M r j)) (m_la (lfS M r j)) (m_isN (lfS M r j)) (m_drp (lfS M r j)) (m_has (lfS M r j)) (m_sees (lfS M r j)) (m_isC (lfS M r j)) (m_isG (lfS M r j)) (m_ov (lfS M r j)) (m_st (lfS M r j)) (m_vo (lfS M r j)) (m_ko (lfS M r j)) (m_sl (lfS M r j)) (m_sc (lfS M r j)) (m_kp (lfS M r j)) (m_en (lfS M r j)) (m_pg (lfS M r j))) H → va_D A (mX cI cJ cZ a (th) (lds) (m_n (lfS M r j)) (m_sn (lfS M r j)) (m_vn (lfS M r j)) (m_rn (lfS M r j)) (m_pn (lfS M r j)) (m_nw (lfS M r j)) (m_grp (lfS M r j)) (m_key (lfS M r j)) (m_srt (lfS M r j)) (m_sd (lfS M r j)) (m_go (lfS M r j)) (m_seg (lfS M r j)) (m_la (lfS M r j)) (m_isN (lfS M r j)) (m_drp (lfS M r j)) (m_has (lfS M r j)) (m_sees (lfS M r j)) (m_isC (lfS M r j)) (m_isG (lfS M r j)) (m_ov (lfS M r j)) (m_st (lfS M r j)) (m_vo (lfS M r j)) (m_ko (lfS M r j)) (m_sl (lfS M r j)) (m_sc (lfS M r j)) (m_kp (lfS M r j)) (m_en (lfS M r j)) (m_pg (lfS M r j))) → va_S A s.heap H locs → ∀ (ls : Array Slot), lv_has ls 4 [(0, .ref (a 0)), (1, .int (nI (r))), (2, .int (nI (j))), (3, .int (zI (m_la M r)))] → W p l e (headSpec wsX6_leftOf rm_X6_leftOf).room s m ([.ref (a 0), .int (nI (r))] : List Value).toArray below meth c H locs (0) (0) (MQ below (va_Qi (fun rr u => rr = nI K ∧ u.1 = th ∧ u.2.1 = lds ∧ u.2.2 = M) (fun u => GB D (tyW cI cJ cZ) A (mWu cI cJ cZ a u)) A) ([.ref (a 0), .int (nI (r))] : List Value).toArray s 0 0 A) (F0 m 9 ls []) := by
    intro d
    induction d with
    | zero => intro j H locs hd9; exact absurd hd9 (Nat.not_lt_zero _)
    | succ d ih9 =>
      intro j H locs hd9 hjK hP hD hS ls hl
      refine lv_aload_n hx hb dX6_leftOf_9 rfl (lv_at hl 0 rfl) ?_
      refine lv_iload_n hx hb dX6_leftOf_10 rfl (lv_at hl 1 rfl) ?_
      have hPm : va_P D vwCl (mW cI cJ cZ a (th) (lds) (lfS M r j)) H := by exact hP
      refine wc_Vi (As := [.int (nI (r))]) (rest := []) ⟨hx, hb, hml, hown, hts⟩ (c_X6_nextOf l D cI cJ cZ a (th) (lds) (lfS M r j) (ok_lfS hM r j) (r) (by omega)) (cwV 1 hts gX6_leftOf_X6_nextOf rfl rfl rfl (by decide +kernel) ⟨Nat.le_of_ble_eq_true rfl, Nat.le_of_ble_eq_true rfl⟩) hPm hK 0 rfl rfl rfl hl.1 rfl (Nat.le_of_ble_eq_true rfl) dX6_leftOf_11 ⟨Nat.zero_le _, Nat.zero_le _⟩ (fun rr hq1 => ?_)
      have hq1 : rr = zI (nextOf (lfS M r j) r) := hq1
      subst hq1
      have hnq2 : m_n (lfS M r j) ≤ 300 := ((ok_lfS hM r j)).1
      have hfl3 : -1 ≤ (nextOf (lfS M r j) r : Int) ∧ (nextOf (lfS M r j) r : Int) < (m_n (lfS M r j) : Int) := following_in _ _ _ _ _ _ _ _ _
      refine wz_if_lt (tgt := 34) hx hb ((nextOf (lfS M r j) r : Int)) (zI_toInt (by omega) (by omega)) dX6_leftOf_14 (by decide) (fun c14_4 => ?_) (fun c14_4 => ?_)
      · refine lv_aload_n hx hb dX6_leftOf_34 rfl (lv_at hl 0 rfl) ?_
        refine va_get (ci := 6) (v := .ref (a 21)) (C := RX6) (T := TX6) (N := 30) hx hb hts hiX6 hown hK hP 0 rfl rfl 25 (by decide) hf0 (fun _ h9 => h9) rfl dX6_leftOf_35 ?_
        refine lv_iload_n hx hb dX6_leftOf_38 rfl (lv_at hl 1 rfl) ?_
        refine lv_iload_n hx hb dX6_leftOf_39 rfl (lv_at hl 3 rfl) ?_
        refine wa_ist (i := r) hx hb hK hP hD hS 21 0 rfl rfl (upd_zI (m_la (lfS M r j)) (r) ((m_la M r : Int))) (by omega) (by decide) dX6_leftOf_40 (fun H locs hP hD hS => ?_)
        have hP : va_P D vwCl (mX cI cJ cZ a (th) (lds) (m_n (lfS M r j)) (m_sn (lfS M r j)) (m_vn (lfS M r j)) (m_rn (lfS M r j)) (m_pn (lfS M r j)) (m_nw (lfS M r j)) (m_grp (lfS M r j)) (m_key (lfS M r j)) (m_srt (lfS M r j)) (m_sd (lfS M r j)) (m_go (lfS M r j)) (m_seg (lfS M r j)) (va_up (m_la (lfS M r j)) (r) ((m_la M r : Int))) (m_isN (lfS M r j)) (m_drp (lfS M r j)) (m_has (lfS M r j)) (m_sees (lfS M r j)) (m_isC (lfS M r j)) (m_isG (lfS M r j)) (m_ov (lfS M r j)) (m_st (lfS M r j)) (m_vo (lfS M r j)) (m_ko (lfS M r j)) (m_sl (lfS M r j)) (m_sc (lfS M r j)) (m_kp (lfS M r j)) (m_en (lfS M r j)) (m_pg (lfS M r j))) H := hP
        have hD : va_D A (mX cI cJ cZ a (th) (lds) (m_n (lfS M r j)) (m_sn (lfS M r j)) (m_vn (lfS M r j)) (m_rn (lfS M r j)) (m_pn (lfS M r j)) (m_nw (lfS M r j)) (m_grp (lfS M r j)) (m_key (lfS M r j)) (m_srt (lfS M r j)) (m_sd (lfS M r j)) (m_go (lfS M r j)) (m_seg (lfS M r j)) (va_up (m_la (lfS M r j)) (r) ((m_la M r : Int))) (m_isN (lfS M r j)) (m_drp (lfS M r j)) (m_has (lfS M r j)) (m_sees (lfS M r j)) (m_isC (lfS M r j)) (m_isG (lfS M r j)) (m_ov (lfS M r j)) (m_st (lfS M r j)) (m_vo (lfS M r j)) (m_ko (lfS M r j)) (m_sl (lfS M r j)) (m_sc (lfS M r j)) (m_kp (lfS M r j)) (m_en (lfS M r j)) (m_pg (lfS M r j))) := hD
        refine lv_iload_n hx hb dX6_leftOf_41 rfl (lv_at hl 2 rfl) ?_
        have hPm : va_P D vwCl (mW cI cJ cZ a (th) (lds) (mkM (m_n (lfS M r j)) (m_sn (lfS M r j)) (m_vn (lfS M r j)) (m_rn (lfS M r j)) (m_pn (lfS M r j)) (m_nw (lfS M r j)) (m_grp (lfS M r j)) (m_key (lfS M r j)) (m_srt (lfS M r j)) (m_sd (lfS M r j)) (m_go (lfS M r j)) (m_seg (lfS M r j)) (va_up (m_la (lfS M r j)) (r) ((m_la M r : Int))) (m_isN (lfS M r j)) (m_drp (lfS M r j)) (m_has (lfS M r j)) (m_sees (lfS M r j)) (m_isC (lfS M r j)) (m_isG (lfS M r j)) (m_ov (lfS M r j)) (m_st (lfS M r j)) (m_vo (lfS M r j)) (m_ko (lfS M r j)) (m_sl (lfS M r j)) (m_sc (lfS M r j)) (m_kp (lfS M r j)) (m_en (lfS M r j)) (m_pg (lfS M r j)))) H := by rw [← mX_mk]; exact hP
        have hDm : va_D A (mW cI cJ cZ a (th) (lds) (mkM (m_n (lfS M r j)) (m_sn (lfS M r j)) (m_vn (lfS M r j)) (m_rn (lfS M r j)) (m_pn (lfS M r j)) (m_nw (lfS M r j)) (m_grp (lfS M r j)) (m_key (lfS M r j)) (m_srt (lfS M r j)) (m_sd (lfS M r j)) (m_go (lfS M r j)) (m_seg (lfS M r j)) (va_up (m_la (lfS M r j)) (r) ((m_la M r : Int))) (m_isN (lfS M r j)) (m_drp (lfS M r j)) (m_has (lfS M r j)) (m_sees (lfS M r j)) (m_isC (lfS M r j)) (m_isG (lfS M r j)) (m_ov (lfS M r j)) (m_st (lfS M r j)) (m_vo (lfS M r j)) (m_ko (lfS M r j)) (m_sl (lfS M r j)) (m_sc (lfS M r j)) (m_kp (lfS M r j)) (m_en (lfS M r j)) (m_pg (lfS M r j)))) := by rw [← mX_mk]; exact hD
        exact W.iret (v := nI (j)) hx hb hr (fun t ht hW => ⟨⟨_, (th, lds, (mkM (m_n (lfS M r j)) (m_sn (lfS M r j)) (m_vn (lfS M r j)) (m_rn (lfS M r j)) (m_pn (lfS M r j)) (m_nw (lfS M r j)) (m_grp (lfS M r j)) (m_key (lfS M r j)) (m_srt (lfS M r j)) (m_sd (lfS M r j)) (m_go (lfS M r j)) (m_seg (lfS M r j)) (va_up (m_la (lfS M r j)) (r) ((m_la M r : Int))) (m_isN (lfS M r j)) (m_drp (lfS M r j)) (m_has (lfS M r j)) (m_sees (lfS M r j)) (m_isC (lfS M r j)) (m_isG (lfS M r j)) (m_ov (lfS M r j)) (m_st (lfS M r j)) (m_vo (lfS M r j)) (m_ko (lfS M r j)) (m_sl (lfS M r j)) (m_sc (lfS M r j)) (m_kp (lfS M r j)) (m_en (lfS M r j)) (m_pg (lfS M r j)))), rfl, ⟨by have e9 : j = K := (by rcases Nat.lt_or_ge j K with q | q; (have h9 := hlK.2.1 j q; omega); omega); rw [e9], rfl, rfl, lfS_back M r j⟩, gb_mk ht hW hPm hK hDm⟩, hS.F ht⟩) hS.2.2 dX6_leftOf_42
      · refine lv_aload_n hx hb dX6_leftOf_17 rfl (lv_at hl 0 rfl) ?_
        refine va_get (ci := 6) (v := .ref (a 21)) (C := RX6) (T := TX6) (N := 30) hx hb hts hiX6 hown hK hP 0 rfl rfl 25 (by decide) hf0 (fun _ h9 => h9) rfl dX6_leftOf_18 ?_
        refine lv_iload_n hx hb dX6_leftOf_21 rfl (lv_at hl 1 rfl) ?_
        refine lv_aload_n hx hb dX6_leftOf_22 rfl (lv_at hl 0 rfl) ?_
        refine lv_iload_n hx hb dX6_leftOf_23 rfl (lv_at hl 1 rfl) ?_
        have hPm : va_P D vwCl (mW cI cJ cZ a (th) (lds) (lfS M r j)) H := by exact hP
        refine wc_Vi (As := [.int (nI (r))]) (rest := [.int (nI (r)), .ref (a 21)]) ⟨hx, hb, hml, hown, hts⟩ (c_X6_nextOf l D cI cJ cZ a (th) (lds) (lfS M r j) (ok_lfS hM r j) (r) (by omega)) (cwV 1 hts gX6_leftOf_X6_nextOf rfl rfl rfl (by decide +kernel) ⟨Nat.le_of_ble_eq_true rfl, Nat.le_of_ble_eq_true rfl⟩) hPm hK 0 rfl rfl rfl hl.1 rfl (Nat.le_of_ble_eq_true rfl) dX6_leftOf_24 ⟨Nat.zero_le _, Nat.zero_le _⟩ (fun rr hq5 => ?_)
        have hq5 : rr = zI (nextOf (lfS M r j) r) := hq5
        subst hq5
        have hnq6 : m_n (lfS M r j) ≤ 300 := ((ok_lfS hM r j)).1
        have hfl7 : -1 ≤ (nextOf (lfS M r j) r : Int) ∧ (nextOf (lfS M r j) r : Int) < (m_n (lfS M r j) : Int) := following_in _ _ _ _ _ _ _ _ _
        refine wa_ist (i := r) hx hb hK hP hD hS 21 0 rfl rfl (upd_zI (m_la (lfS M r j)) (r) ((nextOf (lfS M r j) r : Int))) (by omega) (by decide) dX6_leftOf_27 (fun H locs hP hD hS => ?_)
        have hP : va_P D vwCl (mX cI cJ cZ a (th) (lds) (m_n (lfS M r j)) (m_sn (lfS M r j)) (m_vn (lfS M r j)) (m_rn (lfS M r j)) (m_pn (lfS M r j)) (m_nw (lfS M r j)) (m_grp (lfS M r j)) (m_key (lfS M r j)) (m_srt (lfS M r j)) (m_sd (lfS M r j)) (m_go (lfS M r j)) (m_seg (lfS M r j)) (va_up (m_la (lfS M r j)) (r) ((nextOf (lfS M r j) r : Int))) (m_isN (lfS M r j)) (m_drp (lfS M r j)) (m_has (lfS M r j)) (m_sees (lfS M r j)) (m_isC (lfS M r j)) (m_isG (lfS M r j)) (m_ov (lfS M r j)) (m_st (lfS M r j)) (m_vo (lfS M r j)) (m_ko (lfS M r j)) (m_sl (lfS M r j)) (m_sc (lfS M r j)) (m_kp (lfS M r j)) (m_en (lfS M r j)) (m_pg (lfS M r j))) H := hP
        have hD : va_D A (mX cI cJ cZ a (th) (lds) (m_n (lfS M r j)) (m_sn (lfS M r j)) (m_vn (lfS M r j)) (m_rn (lfS M r j)) (m_pn (lfS M r j)) (m_nw (lfS M r j)) (m_grp (lfS M r j)) (m_key (lfS M r j)) (m_srt (lfS M r j)) (m_sd (lfS M r j)) (m_go (lfS M r j)) (m_seg (lfS M r j)) (va_up (m_la (lfS M r j)) (r) ((nextOf (lfS M r j) r : Int))) (m_isN (lfS M r j)) (m_drp (lfS M r j)) (m_has (lfS M r j)) (m_sees (lfS M r j)) (m_isC (lfS M r j)) (m_isG (lfS M r j)) (m_ov (lfS M r j)) (m_st (lfS M r j)) (m_vo (lfS M r j)) (m_ko (lfS M r j)) (m_sl (lfS M r j)) (m_sc (lfS M r j)) (m_kp (lfS M r j)) (m_en (lfS M r j)) (m_pg (lfS M r j))) := hD
        refine lv_iinc (v := nI (j + 1)) (lv' := [(2, .int (nI (j + 1))), (0, .ref (a 0)), (1, .int (nI (r))), (3, .int (zI (m_la M r)))]) hx hb dX6_leftOf_28 hl (k := 2) rfl (nI_inc _) (by decide) rfl (fun ls hl => ?_)
        refine lv_goto (tgt := 9) hx hb dX6_leftOf_31 (by decide) ?_
        have hPm : va_P D vwCl (mW cI cJ cZ a (th) (lds) (mkM (m_n (lfS M r j)) (m_sn (lfS M r j)) (m_vn (lfS M r j)) (m_rn (lfS M r j)) (m_pn (lfS M r j)) (m_nw (lfS M r j)) (m_grp (lfS M r j)) (m_key (lfS M r j)) (m_srt (lfS M r j)) (m_sd (lfS M r j)) (m_go (lfS M r j)) (m_seg (lfS M r j)) (va_up (m_la (lfS M r j)) (r) ((nextOf (lfS M r j) r : Int))) (m_isN (lfS M r j)) (m_drp (lfS M r j)) (m_has (lfS M r j)) (m_sees (lfS M r j)) (m_isC (lfS M r j)) (m_isG (lfS M r j)) (m_ov (lfS M r j)) (m_st (lfS M r j)) (m_vo (lfS M r j)) (m_ko (lfS M r j)) (m_sl (lfS M r j)) (m_sc (lfS M r j)) (m_kp (lfS M r j)) (m_en (lfS M r j)) (m_pg (lfS M r j)))) H := by rw [← mX_mk]; exact hP
        have hDm : va_D A (mW cI cJ cZ a (th) (lds) (mkM (m_n (lfS M r j)) (m_sn (lfS M r j)) (m_vn (lfS M r j)) (m_rn (lfS M r j)) (m_pn (lfS M r j)) (m_nw (lfS M r j)) (m_grp (lfS M r j)) (m_key (lfS M r j)) (m_srt (lfS M r j)) (m_sd (lfS M r j)) (m_go (lfS M r j)) (m_seg (lfS M r j)) (va_up (m_la (lfS M r j)) (r) ((nextOf (lfS M r j) r : Int))) (m_isN (lfS M r j)) (m_drp (lfS M r j)) (m_has (lfS M r j)) (m_sees (lfS M r j)) (m_isC (lfS M r j)) (m_isG (lfS M r j)) (m_ov (lfS M r j)) (m_st (lfS M r j)) (m_vo (lfS M r j)) (m_ko (lfS M r j)) (m_sl (lfS M r j)) (m_sc (lfS M r j)) (m_kp (lfS M r j)) (m_en (lfS M r j)) (m_pg (lfS M r j)))) := by rw [← mX_mk]; exact hD
        have e9 : (mkM (m_n (lfS M r j)) (m_sn (lfS M r j)) (m_vn (lfS M r j)) (m_rn (lfS M r j)) (m_pn (lfS M r j)) (m_nw (lfS M r j)) (m_grp (lfS M r j)) (m_key (lfS M r j)) (m_srt (lfS M r j)) (m_sd (lfS M r j)) (m_go (lfS M r j)) (m_seg (lfS M r j)) (va_up (m_la (lfS M r j)) (r) ((nextOf (lfS M r j) r : Int))) (m_isN (lfS M r j)) (m_drp (lfS M r j)) (m_has (lfS M r j)) (m_sees (lfS M r j)) (m_isC (lfS M r j)) (m_isG (lfS M r j)) (m_ov (lfS M r j)) (m_st (lfS M r j)) (m_vo (lfS M r j)) (m_ko (lfS M r j)) (m_sl (lfS M r j)) (m_sc (lfS M r j)) (m_kp (lfS M r j)) (m_en (lfS M r j)) (m_pg (lfS M r j))) = (lfS M r (j + 1)) := rfl
        rw [e9] at hPm hDm
        have hP : va_P D vwCl (mX cI cJ cZ a (th) (lds) (m_n (lfS M r (j + 1))) (m_sn (lfS M r (j + 1))) (m_vn (lfS M r (j + 1))) (m_rn (lfS M r (j + 1))) (m_pn (lfS M r (j + 1))) (m_nw (lfS M r (j + 1))) (m_grp (lfS M r (j + 1))) (m_key (lfS M r (j + 1))) (m_srt (lfS M r (j + 1))) (m_sd (lfS M r (j + 1))) (m_go (lfS M r (j + 1))) (m_seg (lfS M r (j + 1))) (m_la (lfS M r (j + 1))) (m_isN (lfS M r (j + 1))) (m_drp (lfS M r (j + 1))) (m_has (lfS M r (j + 1))) (m_sees (lfS M r (j + 1))) (m_isC (lfS M r (j + 1))) (m_isG (lfS M r (j + 1))) (m_ov (lfS M r (j + 1))) (m_st (lfS M r (j + 1))) (m_vo (lfS M r (j + 1))) (m_ko (lfS M r (j + 1))) (m_sl (lfS M r (j + 1))) (m_sc (lfS M r (j + 1))) (m_kp (lfS M r (j + 1))) (m_en (lfS M r (j + 1))) (m_pg (lfS M r (j + 1)))) H := hPm
        have hD : va_D A (mX cI cJ cZ a (th) (lds) (m_n (lfS M r (j + 1))) (m_sn (lfS M r (j + 1))) (m_vn (lfS M r (j + 1))) (m_rn (lfS M r (j + 1))) (m_pn (lfS M r (j + 1))) (m_nw (lfS M r (j + 1))) (m_grp (lfS M r (j + 1))) (m_key (lfS M r (j + 1))) (m_srt (lfS M r (j + 1))) (m_sd (lfS M r (j + 1))) (m_go (lfS M r (j + 1))) (m_seg (lfS M r (j + 1))) (m_la (lfS M r (j + 1))) (m_isN (lfS M r (j + 1))) (m_drp (lfS M r (j + 1))) (m_has (lfS M r (j + 1))) (m_sees (lfS M r (j + 1))) (m_isC (lfS M r (j + 1))) (m_isG (lfS M r (j + 1))) (m_ov (lfS M r (j + 1))) (m_st (lfS M r (j + 1))) (m_vo (lfS M r (j + 1))) (m_ko (lfS M r (j + 1))) (m_sl (lfS M r (j + 1))) (m_sc (lfS M r (j + 1))) (m_kp (lfS M r (j + 1))) (m_en (lfS M r (j + 1))) (m_pg (lfS M r (j + 1)))) := hDm
        exact ih9 (j + 1) _ _ (by omega) (by rcases Nat.lt_or_ge j K with q | q; (exact q); (exfalso; have h9 := hlK.2.2; rw [← (show j = K by omega)] at h9; omega)) hP hD hS ls (lv_sub hl [1, 2, 0, 3] rfl)
  have hPm : va_P D vwCl (mW cI cJ cZ a (th) (lds) M) s.heap := hP
  have hDm : va_D A (mW cI cJ cZ a (th) (lds) M) := hD
  have e9 : M = (lfS M r 0) := rfl
  rw [e9] at hPm hDm
  have hP : va_P D vwCl (mX cI cJ cZ a (th) (lds) (m_n (lfS M r 0)) (m_sn (lfS M r 0)) (m_vn (lfS M r 0)) (m_rn (lfS M r 0)) (m_pn (lfS M r 0)) (m_nw (lfS M r 0)) (m_grp (lfS M r 0)) (m_key (lfS M r 0)) (m_srt (lfS M r 0)) (m_sd (lfS M r 0)) (m_go (lfS M r 0)) (m_seg (lfS M r 0)) (m_la (lfS M r 0)) (m_isN (lfS M r 0)) (m_drp (lfS M r 0)) (m_has (lfS M r 0)) (m_sees (lfS M r 0)) (m_isC (lfS M r 0)) (m_isG (lfS M r 0)) (m_ov (lfS M r 0)) (m_st (lfS M r 0)) (m_vo (lfS M r 0)) (m_ko (lfS M r 0)) (m_sl (lfS M r 0)) (m_sc (lfS M r 0)) (m_kp (lfS M r 0)) (m_en (lfS M r 0)) (m_pg (lfS M r 0))) s.heap := hPm
  have hD : va_D A (mX cI cJ cZ a (th) (lds) (m_n (lfS M r 0)) (m_sn (lfS M r 0)) (m_vn (lfS M r 0)) (m_rn (lfS M r 0)) (m_pn (lfS M r 0)) (m_nw (lfS M r 0)) (m_grp (lfS M r 0)) (m_key (lfS M r 0)) (m_srt (lfS M r 0)) (m_sd (lfS M r 0)) (m_go (lfS M r 0)) (m_seg (lfS M r 0)) (m_la (lfS M r 0)) (m_isN (lfS M r 0)) (m_drp (lfS M r 0)) (m_has (lfS M r 0)) (m_sees (lfS M r 0)) (m_isC (lfS M r 0)) (m_isG (lfS M r 0)) (m_ov (lfS M r 0)) (m_st (lfS M r 0)) (m_vo (lfS M r 0)) (m_ko (lfS M r 0)) (m_sl (lfS M r 0)) (m_sc (lfS M r 0)) (m_kp (lfS M r 0)) (m_en (lfS M r 0)) (m_pg (lfS M r 0))) := hDm
  exact hlp9 _ (0) _ _ (Nat.lt_succ_self _) (Nat.zero_le _) hP hD hS ls (lv_sub hl [2, 3, 1, 0] rfl)
def rm_X6_left : Room := { frames := 5, cells := 0, slots := 0, locals := 131 }
set_option maxHeartbeats 4000000 in
set_option maxRecDepth 100000 in
/-- how many hits a reader has yet to give -/
theorem c_X6_left (l : Launch) (D : va_G) (cI cJ cZ : ClassId) (a : Nat → Nat) (th : Nat) (lds : Nat → Bool) (M : MT) (hM : mOk M) (x : Int32) (K : Nat) (hlK : (0 ≤ x.toInt ∧ x.toInt < ((m_rn M : Nat) : Int)) → m_ov M (ix x) = false → leftK M (ix x) K) (sz : Nat) : Met l yX6_left wsX6_left rm_X6_left (va_Pc [.ref (a 0), .int (x)] (GW D (tyW cI cJ cZ) (mW cI cJ cZ a (th) (lds) M) sz)) (va_Qi (fun rr u => rr = lfR M x K ∧ u.1 = lfT M x ∧ u.2.2 = M) (fun u => GB D (tyW cI cJ cZ) (va_A (mW cI cJ cZ a (th) (lds) M) sz) (mWu cI cJ cZ a u)) (va_A (mW cI cJ cZ a (th) (lds) M) sz)) 0 0 (va_A (mW cI cJ cZ a (th) (lds) M) sz) := by
  obtain ⟨hn, hsn, hvn, hrn, hpn, hnw, h_seg, h_la, h_st, h_vo, h_ko, h_sl, h_sc, h_kp, h_en, h_pg, hvo, hko, hsl, hsc⟩ := id hM
  have hixx := ix_c x
  refine Met.ofW (cc := cX6_left) (maxL := 2) (ret := (some .int)) (by decide) rfl ?_
  intro p e s m args below meth c s₁ B hml hv
  obtain ⟨rfl, hsz, hP, hK, hD0⟩ := hv
  have hx := B.exec
  have hb := B.bytes
  have hr := B.returns
  have hts := atoms_spec (ws := wsX6_left) B.pre
  have hown : s.vm.findClass RX6 = some m.cls := findClass_of_methodNamed B.named
  have hlocks := B.notSynchronized
  subst hsz
  have hD := hD0.self (sz := s.heap.size)
  generalize hAe : va_A (mW cI cJ cZ a (th) (lds) M) s.heap.size = A at hD ⊢
  have hA : ∀ q : Nat, s.heap.size ≤ q → A q := fun q h => by rw [← hAe]; exact Or.inr h
  have hS : va_S A s.heap s.heap [] := va_S.rf
  have hP : va_P D vwCl (mX cI cJ cZ a (th) (lds) (m_n M) (m_sn M) (m_vn M) (m_rn M) (m_pn M) (m_nw M) (m_grp M) (m_key M) (m_srt M) (m_sd M) (m_go M) (m_seg M) (m_la M) (m_isN M) (m_drp M) (m_has M) (m_sees M) (m_isC M) (m_isG M) (m_ov M) (m_st M) (m_vo M) (m_ko M) (m_sl M) (m_sc M) (m_kp M) (m_en M) (m_pg M)) s.heap := hP
  have hD : va_D A (mX cI cJ cZ a (th) (lds) (m_n M) (m_sn M) (m_vn M) (m_rn M) (m_pn M) (m_nw M) (m_grp M) (m_key M) (m_srt M) (m_sd M) (m_go M) (m_seg M) (m_la M) (m_isN M) (m_drp M) (m_has M) (m_sees M) (m_isC M) (m_isG M) (m_ov M) (m_st M) (m_vo M) (m_ko M) (m_sl M) (m_sc M) (m_kp M) (m_en M) (m_pg M)) := hD
  have hiX6 : ∀ w ∈ wsX60, w ∈ wsX6_left := by decide +kernel
  have hf0 := hts (.fieldLink RX6 81 "GroupCursorsModel" "thrown" "I") (by decide +kernel)
  have hf1 := hts (.fieldLink RX6 69 "GroupCursorsModel" "isOver" "[Z") (by decide +kernel)
  have hl := lv_entry ([.ref (a 0), .int (x)]) (n := 2) (Nat.le_of_ble_eq_true rfl)
  rw [lg_entry_eq]
  generalize (lg_sl ([.ref (a 0), .int (x)]) ++ List.replicate (2 - (lg_sl ([.ref (a 0), .int (x)])).length) Slot.unset).toArray = ls at hl ⊢
  have hl : lv_has ls 2 [(0, .ref (a 0)), (1, .int (x))] := hl
  refine lv_aload_n hx hb dX6_left_0 rfl (lv_at hl 0 rfl) ?_
  refine lv_iconst (v := nI (0)) hx hb dX6_left_1 (by decide) ?_
  refine va_put (ci := 6) (v := .int (nI (0))) (ty := .int) (C := RX6) (T := TX6) (N := 30) hx hb hts hiX6 tyX6 tyX6_ok nmX6 hown hK hP hD hS 0 rfl rfl 0 (by decide) hf0 (fun _ h9 => h9) rfl (by decide +kernel) rfl rfl (Nat.le_of_ble_eq_true rfl) dX6_left_2 (fun H locs hP hD hS => ?_)
  have hP : va_P D vwCl (mX cI cJ cZ a (0) (lds) (m_n M) (m_sn M) (m_vn M) (m_rn M) (m_pn M) (m_nw M) (m_grp M) (m_key M) (m_srt M) (m_sd M) (m_go M) (m_seg M) (m_la M) (m_isN M) (m_drp M) (m_has M) (m_sees M) (m_isC M) (m_isG M) (m_ov M) (m_st M) (m_vo M) (m_ko M) (m_sl M) (m_sc M) (m_kp M) (m_en M) (m_pg M)) H := hP
  have hD : va_D A (mX cI cJ cZ a (0) (lds) (m_n M) (m_sn M) (m_vn M) (m_rn M) (m_pn M) (m_nw M) (m_grp M) (m_key M) (m_srt M) (m_sd M) (m_go M) (m_seg M) (m_la M) (m_isN M) (m_drp M) (m_has M) (m_sees M) (m_isC M) (m_isG M) (m_ov M) (m_st M) (m_vo M) (m_ko M) (m_sl M) (m_sc M) (m_kp M) (m_en M) (m_pg M)) := hD
  refine lv_aload_n hx hb dX6_left_5 rfl (lv_at hl 0 rfl) ?_
  refine lv_iload_n hx hb dX6_left_6 rfl (lv_at hl 1 rfl) ?_
  have hPm : va_P D vwCl (mW cI cJ cZ a (0) (lds) M) H := by exact hP
  refine wc_Vi (As := [.int (x)]) (rest := []) ⟨hx, hb, hml, hown, hts⟩ (c_X6_isReader l D cI cJ cZ a (0) (lds) M hM (x)) (cwV 1 hts gX6_left_X6_isReader rfl rfl rfl (by decide +kernel) ⟨Nat.le_of_ble_eq_true rfl, Nat.le_of_ble_eq_true rfl⟩) hPm hK 0 rfl rfl rfl hl.1 rfl (Nat.le_of_ble_eq_true rfl) dX6_left_7 ⟨Nat.zero_le _, Nat.zero_le _⟩ (fun rr hq1 => ?_)
  have hq1 : rr = bI (decide (0 ≤ (x).toInt ∧ (x).toInt < (m_rn M : Int))) := hq1
  subst hq1
  refine wb_if_ne (tgt := 21) hx hb dX6_left_10 (by decide) (fun c10_2 => ?_) (fun c10_2 => ?_)
  · have c10_2p := of_decide_eq_true c10_2
    refine lv_aload_n hx hb dX6_left_21 rfl (lv_at hl 0 rfl) ?_
    refine va_get (ci := 6) (v := .ref (a 20)) (C := RX6) (T := TX6) (N := 30) hx hb hts hiX6 hown hK hP 0 rfl rfl 24 (by decide) hf1 (fun _ h9 => h9) rfl dX6_left_22 ?_
    refine lv_iload_n hx hb dX6_left_25 rfl (lv_at hl 1 rfl) ?_
    refine ww_top (y := nI (ix x)) (ix_n (by omega)) ?_
    refine wa_z (i := ix x) (v := bI (m_ov M (ix x))) hx hb hK hP 20 2 rfl rfl rfl (by omega) (by decide) dX6_left_26 ?_
    refine wb_if_eq (tgt := 34) hx hb dX6_left_27 (by decide) (fun c27_3 => ?_) (fun c27_3 => ?_)
    · refine lv_aload_n hx hb dX6_left_34 rfl (lv_at hl 0 rfl) ?_
      refine lv_iload_n hx hb dX6_left_35 rfl (lv_at hl 1 rfl) ?_
      refine ww_top (y := nI (ix x)) (ix_n (by omega)) ?_
      have hPm : va_P D vwCl (mW cI cJ cZ a (0) (lds) M) H := by exact hP
      have hDm : va_D A (mW cI cJ cZ a (0) (lds) M) := by exact hD
      refine wc_VWi (As := [.int (nI (ix x))]) (rest := []) (wf := mWu cI cJ cZ a) ⟨hx, hb, hml, hown, hts⟩ (c_X6_leftOf l D cI cJ cZ a (0) (lds) M hM (ix x) K (by omega) (hlK (by omega) c27_3) H.size) (cwV 1 hts gX6_left_X6_leftOf rfl rfl rfl (by decide +kernel) ⟨Nat.le_of_ble_eq_true rfl, Nat.le_of_ble_eq_true rfl⟩) hPm hK hDm hS hA 0 rfl rfl rfl hl.1 rfl (Nat.le_of_ble_eq_true rfl) dX6_left_36 ⟨Nat.zero_le _, Nat.zero_le _⟩ (fun rr u4 hq4 H locs hP hD hS => ?_)
      obtain ⟨hr4, hu4a, hu4b, hu4c⟩ := hq4
      subst hr4
      obtain ⟨u41, u42, u43⟩ := u4
      dsimp only at hu4a hu4b hu4c
      have hu4a := hu4a.symm
      have hu4b := hu4b.symm
      have hu4c := hu4c.symm
      subst hu4a
      subst hu4b
      subst hu4c
      have hP : va_P D vwCl (mX cI cJ cZ a (0) (lds) (m_n M) (m_sn M) (m_vn M) (m_rn M) (m_pn M) (m_nw M) (m_grp M) (m_key M) (m_srt M) (m_sd M) (m_go M) (m_seg M) (m_la M) (m_isN M) (m_drp M) (m_has M) (m_sees M) (m_isC M) (m_isG M) (m_ov M) (m_st M) (m_vo M) (m_ko M) (m_sl M) (m_sc M) (m_kp M) (m_en M) (m_pg M)) H := hP
      have hD : va_D A (mX cI cJ cZ a (0) (lds) (m_n M) (m_sn M) (m_vn M) (m_rn M) (m_pn M) (m_nw M) (m_grp M) (m_key M) (m_srt M) (m_sd M) (m_go M) (m_seg M) (m_la M) (m_isN M) (m_drp M) (m_has M) (m_sees M) (m_isC M) (m_isG M) (m_ov M) (m_st M) (m_vo M) (m_ko M) (m_sl M) (m_sc M) (m_kp M) (m_en M) (m_pg M)) := hD
      have hPm : va_P D vwCl (mW cI cJ cZ a (0) (lds) M) H := by exact hP
      have hDm : va_D A (mW cI cJ cZ a (0) (lds) M) := by exact hD
      exact W.iret (v := nI (K)) hx hb hr (fun t ht hW => ⟨⟨_, (0, lds, M), rfl, ⟨(by simp only [lfR, c27_3, if_true, if_false, eq_self, Bool.true_eq_false, Bool.false_eq_true, ite_true, ite_false, reduceIte]; (repeat' split) <;> first | rfl | (exfalso; omega)), (by simp only [lfT, c27_3, if_true, if_false, eq_self, Bool.true_eq_false, Bool.false_eq_true, ite_true, ite_false, reduceIte]; (repeat' split) <;> first | rfl | (exfalso; omega)), rfl⟩, gb_mk ht hW hPm hK hDm⟩, hS.F ht⟩) hS.2.2 dX6_left_39
    · refine lv_iconst (v := zI ((-1))) hx hb dX6_left_30 (by decide) ?_
      refine lv_goto (tgt := 39) hx hb dX6_left_31 (by decide) ?_
      have hPm : va_P D vwCl (mW cI cJ cZ a (0) (lds) M) H := by exact hP
      have hDm : va_D A (mW cI cJ cZ a (0) (lds) M) := by exact hD
      exact W.iret (v := zI ((-1))) hx hb hr (fun t ht hW => ⟨⟨_, (0, lds, M), rfl, ⟨(by simp only [lfR, c27_3, if_true, if_false, eq_self, Bool.true_eq_false, Bool.false_eq_true, ite_true, ite_false, reduceIte]; (repeat' split) <;> first | rfl | (exfalso; omega)), (by simp only [lfT, c27_3, if_true, if_false, eq_self, Bool.true_eq_false, Bool.false_eq_true, ite_true, ite_false, reduceIte]; (repeat' split) <;> first | rfl | (exfalso; omega)), rfl⟩, gb_mk ht hW hPm hK hDm⟩, hS.F ht⟩) hS.2.2 dX6_left_39
  · have c10_2p := of_decide_eq_false c10_2
    refine lv_aload_n hx hb dX6_left_13 rfl (lv_at hl 0 rfl) ?_
    refine lv_iconst (v := nI (1)) hx hb dX6_left_14 (by decide) ?_
    have hPm : va_P D vwCl (mW cI cJ cZ a (0) (lds) M) H := by exact hP
    have hDm : va_D A (mW cI cJ cZ a (0) (lds) M) := by exact hD
    refine wc_VWi (As := [.int (nI (1))]) (rest := []) (wf := mWu cI cJ cZ a) ⟨hx, hb, hml, hown, hts⟩ (c_X6_fails l D cI cJ cZ a (0) (lds) M hM (1) (by omega) H.size) (cwV 1 hts gX6_left_X6_fails rfl rfl rfl (by decide +kernel) ⟨Nat.le_of_ble_eq_true rfl, Nat.le_of_ble_eq_true rfl⟩) hPm hK hDm hS hA 0 rfl rfl rfl hl.1 rfl (Nat.le_of_ble_eq_true rfl) dX6_left_15 ⟨Nat.zero_le _, Nat.zero_le _⟩ (fun rr u5 hq5 H locs hP hD hS => ?_)
    obtain ⟨hr5, hu5⟩ := hq5
    subst hr5
    subst hu5
    have hP : va_P D vwCl (mX cI cJ cZ a (1) (lds) (m_n M) (m_sn M) (m_vn M) (m_rn M) (m_pn M) (m_nw M) (m_grp M) (m_key M) (m_srt M) (m_sd M) (m_go M) (m_seg M) (m_la M) (m_isN M) (m_drp M) (m_has M) (m_sees M) (m_isC M) (m_isG M) (m_ov M) (m_st M) (m_vo M) (m_ko M) (m_sl M) (m_sc M) (m_kp M) (m_en M) (m_pg M)) H := hP
    have hD : va_D A (mX cI cJ cZ a (1) (lds) (m_n M) (m_sn M) (m_vn M) (m_rn M) (m_pn M) (m_nw M) (m_grp M) (m_key M) (m_srt M) (m_sd M) (m_go M) (m_seg M) (m_la M) (m_isN M) (m_drp M) (m_has M) (m_sees M) (m_isC M) (m_isG M) (m_ov M) (m_st M) (m_vo M) (m_ko M) (m_sl M) (m_sc M) (m_kp M) (m_en M) (m_pg M)) := hD
    refine lv_goto (tgt := 39) hx hb dX6_left_18 (by decide) ?_
    have hPm : va_P D vwCl (mW cI cJ cZ a (1) (lds) M) H := by exact hP
    have hDm : va_D A (mW cI cJ cZ a (1) (lds) M) := by exact hD
    exact W.iret (v := nI (0)) hx hb hr (fun t ht hW => ⟨⟨_, (1, lds, M), rfl, ⟨(by simp only [lfR]; (repeat' split) <;> first | rfl | (exfalso; omega)), (by simp only [lfT]; (repeat' split) <;> first | rfl | (exfalso; omega)), rfl⟩, gb_mk ht hW hPm hK hDm⟩, hS.F ht⟩) hS.2.2 dX6_left_39
def rm_X6_close : Room := { frames := 3, cells := 0, slots := 0, locals := 67 }
set_option maxHeartbeats 4000000 in
set_option maxRecDepth 100000 in
/-- a reader ends -/
theorem c_X6_close (l : Launch) (D : va_G) (cI cJ cZ : ClassId) (a : Nat → Nat) (th : Nat) (lds : Nat → Bool) (M : MT) (hM : mOk M) (x : Int32) (sz : Nat) : Met l yX6_close wsX6_close rm_X6_close (va_Pc [.ref (a 0), .int (x)] (GW D (tyW cI cJ cZ) (mW cI cJ cZ a (th) (lds) M) sz)) (va_Qi (fun rr u => rr = clR M x ∧ u.1 = lfT M x ∧ u.2.2 = clM M x) (fun u => GB D (tyW cI cJ cZ) (va_A (mW cI cJ cZ a (th) (lds) M) sz) (mWu cI cJ cZ a u)) (va_A (mW cI cJ cZ a (th) (lds) M) sz)) 0 0 (va_A (mW cI cJ cZ a (th) (lds) M) sz) := by
  obtain ⟨hn, hsn, hvn, hrn, hpn, hnw, h_seg, h_la, h_st, h_vo, h_ko, h_sl, h_sc, h_kp, h_en, h_pg, hvo, hko, hsl, hsc⟩ := id hM
  have hixx := ix_c x
  refine Met.ofW (cc := cX6_close) (maxL := 3) (ret := (some .int)) (by decide) rfl ?_
  intro p e s m args below meth c s₁ B hml hv
  obtain ⟨rfl, hsz, hP, hK, hD0⟩ := hv
  have hx := B.exec
  have hb := B.bytes
  have hr := B.returns
  have hts := atoms_spec (ws := wsX6_close) B.pre
  have hown : s.vm.findClass RX6 = some m.cls := findClass_of_methodNamed B.named
  have hlocks := B.notSynchronized
  subst hsz
  have hD := hD0.self (sz := s.heap.size)
  generalize hAe : va_A (mW cI cJ cZ a (th) (lds) M) s.heap.size = A at hD ⊢
  have hA : ∀ q : Nat, s.heap.size ≤ q → A q := fun q h => by rw [← hAe]; exact Or.inr h
  have hS : va_S A s.heap s.heap [] := va_S.rf
  have hP : va_P D vwCl (mX cI cJ cZ a (th) (lds) (m_n M) (m_sn M) (m_vn M) (m_rn M) (m_pn M) (m_nw M) (m_grp M) (m_key M) (m_srt M) (m_sd M) (m_go M) (m_seg M) (m_la M) (m_isN M) (m_drp M) (m_has M) (m_sees M) (m_isC M) (m_isG M) (m_ov M) (m_st M) (m_vo M) (m_ko M) (m_sl M) (m_sc M) (m_kp M) (m_en M) (m_pg M)) s.heap := hP
  have hD : va_D A (mX cI cJ cZ a (th) (lds) (m_n M) (m_sn M) (m_vn M) (m_rn M) (m_pn M) (m_nw M) (m_grp M) (m_key M) (m_srt M) (m_sd M) (m_go M) (m_seg M) (m_la M) (m_isN M) (m_drp M) (m_has M) (m_sees M) (m_isC M) (m_isG M) (m_ov M) (m_st M) (m_vo M) (m_ko M) (m_sl M) (m_sc M) (m_kp M) (m_en M) (m_pg M)) := hD
  have hiX6 : ∀ w ∈ wsX60, w ∈ wsX6_close := by decide +kernel
  have hf0 := hts (.fieldLink RX6 81 "GroupCursorsModel" "thrown" "I") (by decide +kernel)
  have hf1 := hts (.fieldLink RX6 69 "GroupCursorsModel" "isOver" "[Z") (by decide +kernel)
  have hf2 := hts (.fieldLink RX6 39 "GroupCursorsModel" "viewOf" "[I") (by decide +kernel)
  have hl := lv_entry ([.ref (a 0), .int (x)]) (n := 3) (Nat.le_of_ble_eq_true rfl)
  rw [lg_entry_eq]
  generalize (lg_sl ([.ref (a 0), .int (x)]) ++ List.replicate (3 - (lg_sl ([.ref (a 0), .int (x)])).length) Slot.unset).toArray = ls at hl ⊢
  have hl : lv_has ls 3 [(0, .ref (a 0)), (1, .int (x))] := hl
  refine lv_aload_n hx hb dX6_close_0 rfl (lv_at hl 0 rfl) ?_
  refine lv_iconst (v := nI (0)) hx hb dX6_close_1 (by decide) ?_
  refine va_put (ci := 6) (v := .int (nI (0))) (ty := .int) (C := RX6) (T := TX6) (N := 30) hx hb hts hiX6 tyX6 tyX6_ok nmX6 hown hK hP hD hS 0 rfl rfl 0 (by decide) hf0 (fun _ h9 => h9) rfl (by decide +kernel) rfl rfl (Nat.le_of_ble_eq_true rfl) dX6_close_2 (fun H locs hP hD hS => ?_)
  have hP : va_P D vwCl (mX cI cJ cZ a (0) (lds) (m_n M) (m_sn M) (m_vn M) (m_rn M) (m_pn M) (m_nw M) (m_grp M) (m_key M) (m_srt M) (m_sd M) (m_go M) (m_seg M) (m_la M) (m_isN M) (m_drp M) (m_has M) (m_sees M) (m_isC M) (m_isG M) (m_ov M) (m_st M) (m_vo M) (m_ko M) (m_sl M) (m_sc M) (m_kp M) (m_en M) (m_pg M)) H := hP
  have hD : va_D A (mX cI cJ cZ a (0) (lds) (m_n M) (m_sn M) (m_vn M) (m_rn M) (m_pn M) (m_nw M) (m_grp M) (m_key M) (m_srt M) (m_sd M) (m_go M) (m_seg M) (m_la M) (m_isN M) (m_drp M) (m_has M) (m_sees M) (m_isC M) (m_isG M) (m_ov M) (m_st M) (m_vo M) (m_ko M) (m_sl M) (m_sc M) (m_kp M) (m_en M) (m_pg M)) := hD
  refine lv_aload_n hx hb dX6_close_5 rfl (lv_at hl 0 rfl) ?_
  refine lv_iload_n hx hb dX6_close_6 rfl (lv_at hl 1 rfl) ?_
  have hPm : va_P D vwCl (mW cI cJ cZ a (0) (lds) M) H := by exact hP
  refine wc_Vi (As := [.int (x)]) (rest := []) ⟨hx, hb, hml, hown, hts⟩ (c_X6_isReader l D cI cJ cZ a (0) (lds) M hM (x)) (cwV 1 hts gX6_close_X6_isReader rfl rfl rfl (by decide +kernel) ⟨Nat.le_of_ble_eq_true rfl, Nat.le_of_ble_eq_true rfl⟩) hPm hK 0 rfl rfl rfl hl.1 rfl (Nat.le_of_ble_eq_true rfl) dX6_close_7 ⟨Nat.zero_le _, Nat.zero_le _⟩ (fun rr hq1 => ?_)
  have hq1 : rr = bI (decide (0 ≤ (x).toInt ∧ (x).toInt < (m_rn M : Int))) := hq1
  subst hq1
  refine wb_if_ne (tgt := 19) hx hb dX6_close_10 (by decide) (fun c10_2 => ?_) (fun c10_2 => ?_)
  · have c10_2p := of_decide_eq_true c10_2
    refine lv_aload_n hx hb dX6_close_19 rfl (lv_at hl 0 rfl) ?_
    refine va_get (ci := 6) (v := .ref (a 20)) (C := RX6) (T := TX6) (N := 30) hx hb hts hiX6 hown hK hP 0 rfl rfl 24 (by decide) hf1 (fun _ h9 => h9) rfl dX6_close_20 ?_
    refine lv_iload_n hx hb dX6_close_23 rfl (lv_at hl 1 rfl) ?_
    refine ww_top (y := nI (ix x)) (ix_n (by omega)) ?_
    refine wa_z (i := ix x) (v := bI (m_ov M (ix x))) hx hb hK hP 20 2 rfl rfl rfl (by omega) (by decide) dX6_close_24 ?_
    refine wb_if_eq (tgt := 30) hx hb dX6_close_25 (by decide) (fun c25_3 => ?_) (fun c25_3 => ?_)
    · refine lv_aload_n hx hb dX6_close_30 rfl (lv_at hl 0 rfl) ?_
      refine lv_iconst (v := nI (2)) hx hb dX6_close_31 (by decide) ?_
      have hPm : va_P D vwCl (mW cI cJ cZ a (0) (lds) M) H := by exact hP
      refine wc_Vi (As := [.int (nI (2))]) (rest := []) ⟨hx, hb, hml, hown, hts⟩ (c_X6_countOf l D cI cJ cZ a (0) (lds) M hM (2) (by omega)) (cwV 1 hts gX6_close_X6_countOf rfl rfl rfl (by decide +kernel) ⟨Nat.le_of_ble_eq_true rfl, Nat.le_of_ble_eq_true rfl⟩) hPm hK 0 rfl rfl rfl hl.1 rfl (Nat.le_of_ble_eq_true rfl) dX6_close_32 ⟨Nat.zero_le _, Nat.zero_le _⟩ (fun rr hq4 => ?_)
      have hq4 : rr = nI (countOf M 2) := hq4
      subst hq4
      have hle5 : countOf M 2 ≤ 40 := Nat.le_trans (cnt_le _ _) hsn
      refine lv_istore_n (lv' := [(2, .int (nI (countOf M 2))), (0, .ref (a 0)), (1, .int (x))]) hx hb dX6_close_35 rfl hl (by decide) rfl (fun ls hl => ?_)
      refine lv_aload_n hx hb dX6_close_36 rfl (lv_at hl 1 rfl) ?_
      refine va_get (ci := 6) (v := .ref (a 20)) (C := RX6) (T := TX6) (N := 30) hx hb hts hiX6 hown hK hP 0 rfl rfl 24 (by decide) hf1 (fun _ h9 => h9) rfl dX6_close_37 ?_
      refine lv_iload_n hx hb dX6_close_40 rfl (lv_at hl 2 rfl) ?_
      refine ww_top (y := nI (ix x)) (ix_n (by omega)) ?_
      refine lv_iconst (v := nI (1)) hx hb dX6_close_41 (by decide) ?_
      refine wa_zst (i := ix x) (b := true) (f := m_ov M) hx hb hK hP hD hS 20 2 rfl rfl rfl (by omega) (by decide) dX6_close_42 (fun H locs hP hD hS => ?_)
      have hP : va_P D vwCl (mX cI cJ cZ a (0) (lds) (m_n M) (m_sn M) (m_vn M) (m_rn M) (m_pn M) (m_nw M) (m_grp M) (m_key M) (m_srt M) (m_sd M) (m_go M) (m_seg M) (m_la M) (m_isN M) (m_drp M) (m_has M) (m_sees M) (m_isC M) (m_isG M) (va_up (m_ov M) (ix x) (true)) (m_st M) (m_vo M) (m_ko M) (m_sl M) (m_sc M) (m_kp M) (m_en M) (m_pg M)) H := hP
      have hD : va_D A (mX cI cJ cZ a (0) (lds) (m_n M) (m_sn M) (m_vn M) (m_rn M) (m_pn M) (m_nw M) (m_grp M) (m_key M) (m_srt M) (m_sd M) (m_go M) (m_seg M) (m_la M) (m_isN M) (m_drp M) (m_has M) (m_sees M) (m_isC M) (m_isG M) (va_up (m_ov M) (ix x) (true)) (m_st M) (m_vo M) (m_ko M) (m_sl M) (m_sc M) (m_kp M) (m_en M) (m_pg M)) := hD
      have hvo0 := hvo (ix x)
      refine lv_aload_n hx hb dX6_close_43 rfl (lv_at hl 1 rfl) ?_
      refine lv_aload_n hx hb dX6_close_44 rfl (lv_at hl 1 rfl) ?_
      refine va_get (ci := 6) (v := .ref (a 10)) (C := RX6) (T := TX6) (N := 30) hx hb hts hiX6 hown hK hP 0 rfl rfl 14 (by decide) hf2 (fun _ h9 => h9) rfl dX6_close_45 ?_
      refine lv_iload_n hx hb dX6_close_48 rfl (lv_at hl 2 rfl) ?_
      refine ww_top (y := nI (ix x)) (ix_n (by omega)) ?_
      refine wa_i (i := ix x) (v := nI (m_vo M (ix x))) hx hb hK hP 10 0 rfl rfl rfl (by omega) (by decide) dX6_close_49 ?_
      have hPm : va_P D vwCl (mW cI cJ cZ a (0) (lds) (cl1 M (ix x))) H := by show va_P D vwCl (mW cI cJ cZ a (0) (lds) (mkM (m_n M) (m_sn M) (m_vn M) (m_rn M) (m_pn M) (m_nw M) (m_grp M) (m_key M) (m_srt M) (m_sd M) (m_go M) (m_seg M) (m_la M) (m_isN M) (m_drp M) (m_has M) (m_sees M) (m_isC M) (m_isG M) (va_up (m_ov M) (ix x) (true)) (m_st M) (m_vo M) (m_ko M) (m_sl M) (m_sc M) (m_kp M) (m_en M) (m_pg M))) H; rw [← mX_mk]; exact hP
      have hDm : va_D A (mW cI cJ cZ a (0) (lds) (cl1 M (ix x))) := by show va_D A (mW cI cJ cZ a (0) (lds) (mkM (m_n M) (m_sn M) (m_vn M) (m_rn M) (m_pn M) (m_nw M) (m_grp M) (m_key M) (m_srt M) (m_sd M) (m_go M) (m_seg M) (m_la M) (m_isN M) (m_drp M) (m_has M) (m_sees M) (m_isC M) (m_isG M) (va_up (m_ov M) (ix x) (true)) (m_st M) (m_vo M) (m_ko M) (m_sl M) (m_sc M) (m_kp M) (m_en M) (m_pg M))); rw [← mX_mk]; exact hD
      refine wc_VWv (As := [.int (nI (m_vo M (ix x)))]) (rest := []) (wf := mWu cI cJ cZ a) ⟨hx, hb, hml, hown, hts⟩ (c_X6_settle l D cI cJ cZ a (0) (lds) (cl1 M (ix x)) (ok_cl1 hM (ix x)) (m_vo M (ix x)) (by omega) H.size) (cwV 1 hts gX6_close_X6_settle rfl rfl rfl (by decide +kernel) ⟨Nat.le_of_ble_eq_true rfl, Nat.le_of_ble_eq_true rfl⟩) hPm hK hDm hS hA 0 rfl rfl rfl hl.1 rfl (Nat.le_of_ble_eq_true rfl) dX6_close_50 ⟨Nat.zero_le _, Nat.zero_le _⟩ (fun u6 hq6 H locs hP hD hS => ?_)
      obtain ⟨hu6a, hu6b, hu6c⟩ := hq6
      obtain ⟨u61, u62, u63⟩ := u6
      dsimp only at hu6a hu6b hu6c
      have hu6a := hu6a.symm
      have hu6b := hu6b.symm
      have hu6c := hu6c.symm
      subst hu6a
      subst hu6b
      subst hu6c
      have hP : va_P D vwCl (mX cI cJ cZ a (0) (lds) (m_n (settleM (cl1 M (ix x)) (m_vo M (ix x)))) (m_sn (settleM (cl1 M (ix x)) (m_vo M (ix x)))) (m_vn (settleM (cl1 M (ix x)) (m_vo M (ix x)))) (m_rn (settleM (cl1 M (ix x)) (m_vo M (ix x)))) (m_pn (settleM (cl1 M (ix x)) (m_vo M (ix x)))) (m_nw (settleM (cl1 M (ix x)) (m_vo M (ix x)))) (m_grp (settleM (cl1 M (ix x)) (m_vo M (ix x)))) (m_key (settleM (cl1 M (ix x)) (m_vo M (ix x)))) (m_srt (settleM (cl1 M (ix x)) (m_vo M (ix x)))) (m_sd (settleM (cl1 M (ix x)) (m_vo M (ix x)))) (m_go (settleM (cl1 M (ix x)) (m_vo M (ix x)))) (m_seg (settleM (cl1 M (ix x)) (m_vo M (ix x)))) (m_la (settleM (cl1 M (ix x)) (m_vo M (ix x)))) (m_isN (settleM (cl1 M (ix x)) (m_vo M (ix x)))) (m_drp (settleM (cl1 M (ix x)) (m_vo M (ix x)))) (m_has (settleM (cl1 M (ix x)) (m_vo M (ix x)))) (m_sees (settleM (cl1 M (ix x)) (m_vo M (ix x)))) (m_isC (settleM (cl1 M (ix x)) (m_vo M (ix x)))) (m_isG (settleM (cl1 M (ix x)) (m_vo M (ix x)))) (m_ov (settleM (cl1 M (ix x)) (m_vo M (ix x)))) (m_st (settleM (cl1 M (ix x)) (m_vo M (ix x)))) (m_vo (settleM (cl1 M (ix x)) (m_vo M (ix x)))) (m_ko (settleM (cl1 M (ix x)) (m_vo M (ix x)))) (m_sl (settleM (cl1 M (ix x)) (m_vo M (ix x)))) (m_sc (settleM (cl1 M (ix x)) (m_vo M (ix x)))) (m_kp (settleM (cl1 M (ix x)) (m_vo M (ix x)))) (m_en (settleM (cl1 M (ix x)) (m_vo M (ix x)))) (m_pg (settleM (cl1 M (ix x)) (m_vo M (ix x))))) H := hP
      have hD : va_D A (mX cI cJ cZ a (0) (lds) (m_n (settleM (cl1 M (ix x)) (m_vo M (ix x)))) (m_sn (settleM (cl1 M (ix x)) (m_vo M (ix x)))) (m_vn (settleM (cl1 M (ix x)) (m_vo M (ix x)))) (m_rn (settleM (cl1 M (ix x)) (m_vo M (ix x)))) (m_pn (settleM (cl1 M (ix x)) (m_vo M (ix x)))) (m_nw (settleM (cl1 M (ix x)) (m_vo M (ix x)))) (m_grp (settleM (cl1 M (ix x)) (m_vo M (ix x)))) (m_key (settleM (cl1 M (ix x)) (m_vo M (ix x)))) (m_srt (settleM (cl1 M (ix x)) (m_vo M (ix x)))) (m_sd (settleM (cl1 M (ix x)) (m_vo M (ix x)))) (m_go (settleM (cl1 M (ix x)) (m_vo M (ix x)))) (m_seg (settleM (cl1 M (ix x)) (m_vo M (ix x)))) (m_la (settleM (cl1 M (ix x)) (m_vo M (ix x)))) (m_isN (settleM (cl1 M (ix x)) (m_vo M (ix x)))) (m_drp (settleM (cl1 M (ix x)) (m_vo M (ix x)))) (m_has (settleM (cl1 M (ix x)) (m_vo M (ix x)))) (m_sees (settleM (cl1 M (ix x)) (m_vo M (ix x)))) (m_isC (settleM (cl1 M (ix x)) (m_vo M (ix x)))) (m_isG (settleM (cl1 M (ix x)) (m_vo M (ix x)))) (m_ov (settleM (cl1 M (ix x)) (m_vo M (ix x)))) (m_st (settleM (cl1 M (ix x)) (m_vo M (ix x)))) (m_vo (settleM (cl1 M (ix x)) (m_vo M (ix x)))) (m_ko (settleM (cl1 M (ix x)) (m_vo M (ix x)))) (m_sl (settleM (cl1 M (ix x)) (m_vo M (ix x)))) (m_sc (settleM (cl1 M (ix x)) (m_vo M (ix x)))) (m_kp (settleM (cl1 M (ix x)) (m_vo M (ix x)))) (m_en (settleM (cl1 M (ix x)) (m_vo M (ix x)))) (m_pg (settleM (cl1 M (ix x)) (m_vo M (ix x))))) := hD
      have hM5 := (ok_settle (ok_cl1 hM (ix x)) (m_vo M (ix x)))
      have hsn5 : m_sn (settleM (cl1 M (ix x)) (m_vo M (ix x))) ≤ 40 := hM5.2.1
      refine lv_aload_n hx hb dX6_close_53 rfl (lv_at hl 1 rfl) ?_
      refine lv_iconst (v := nI (2)) hx hb dX6_close_54 (by decide) ?_
      have hPm : va_P D vwCl (mW cI cJ cZ a (0) (lds) (settleM (cl1 M (ix x)) (m_vo M (ix x)))) H := by exact hP
      refine wc_Vi (As := [.int (nI (2))]) (rest := []) ⟨hx, hb, hml, hown, hts⟩ (c_X6_countOf l D cI cJ cZ a (0) (lds) (settleM (cl1 M (ix x)) (m_vo M (ix x))) (ok_settle (ok_cl1 hM (ix x)) (m_vo M (ix x))) (2) (by omega)) (cwV 1 hts gX6_close_X6_countOf rfl rfl rfl (by decide +kernel) ⟨Nat.le_of_ble_eq_true rfl, Nat.le_of_ble_eq_true rfl⟩) hPm hK 0 rfl rfl rfl hl.1 rfl (Nat.le_of_ble_eq_true rfl) dX6_close_55 ⟨Nat.zero_le _, Nat.zero_le _⟩ (fun rr hq7 => ?_)
      have hq7 : rr = nI (countOf (settleM (cl1 M (ix x)) (m_vo M (ix x))) 2) := hq7
      subst hq7
      have hle8 : countOf (settleM (cl1 M (ix x)) (m_vo M (ix x))) 2 ≤ 40 := Nat.le_trans (cnt_le _ _) hsn5
      refine lv_iload_n hx hb dX6_close_58 rfl (lv_at hl 0 rfl) ?_
      refine lv_isub hx hb dX6_close_59 (ww_top (y := zI (((countOf (settleM (cl1 M (ix x)) (m_vo M (ix x))) 2 : Nat) : Int) - ((countOf M 2 : Nat) : Int))) (nz_sub _ _) ?_)
      have hPm : va_P D vwCl (mW cI cJ cZ a (0) (lds) (settleM (cl1 M (ix x)) (m_vo M (ix x)))) H := by exact hP
      have hDm : va_D A (mW cI cJ cZ a (0) (lds) (settleM (cl1 M (ix x)) (m_vo M (ix x)))) := by exact hD
      exact W.iret (v := zI (((countOf (settleM (cl1 M (ix x)) (m_vo M (ix x))) 2 : Nat) : Int) - ((countOf M 2 : Nat) : Int))) hx hb hr (fun t ht hW => ⟨⟨_, (0, lds, (settleM (cl1 M (ix x)) (m_vo M (ix x)))), rfl, ⟨(by simp only [clR, c25_3, if_true, if_false, eq_self, Bool.true_eq_false, Bool.false_eq_true, ite_true, ite_false, reduceIte]; (repeat' split) <;> first | rfl | (exfalso; omega)), (by simp only [lfT, c25_3, if_true, if_false, eq_self, Bool.true_eq_false, Bool.false_eq_true, ite_true, ite_false, reduceIte]; (repeat' split) <;> first | rfl | (exfalso; omega)), (by simp only [clM, c25_3, if_true, if_false, eq_self, Bool.true_eq_false, Bool.false_eq_true, ite_true, ite_false, reduceIte]; (repeat' split) <;> first | rfl | (exfalso; omega))⟩, gb_mk ht hW hPm hK hDm⟩, hS.F ht⟩) hS.2.2 dX6_close_60
    · refine lv_iconst (v := nI (0)) hx hb dX6_close_28 (by decide) ?_
      have hPm : va_P D vwCl (mW cI cJ cZ a (0) (lds) M) H := by exact hP
      have hDm : va_D A (mW cI cJ cZ a (0) (lds) M) := by exact hD
      exact W.iret (v := nI (0)) hx hb hr (fun t ht hW => ⟨⟨_, (0, lds, M), rfl, ⟨(by simp only [clR, c25_3, if_true, if_false, eq_self, Bool.true_eq_false, Bool.false_eq_true, ite_true, ite_false, reduceIte]; (repeat' split) <;> first | rfl | (exfalso; omega)), (by simp only [lfT, c25_3, if_true, if_false, eq_self, Bool.true_eq_false, Bool.false_eq_true, ite_true, ite_false, reduceIte]; (repeat' split) <;> first | rfl | (exfalso; omega)), (by simp only [clM, c25_3, if_true, if_false, eq_self, Bool.true_eq_false, Bool.false_eq_true, ite_true, ite_false, reduceIte]; (repeat' split) <;> first | rfl | (exfalso; omega))⟩, gb_mk ht hW hPm hK hDm⟩, hS.F ht⟩) hS.2.2 dX6_close_29
  · have c10_2p := of_decide_eq_false c10_2
    refine lv_aload_n hx hb dX6_close_13 rfl (lv_at hl 0 rfl) ?_
    refine lv_iconst (v := nI (1)) hx hb dX6_close_14 (by decide) ?_
    have hPm : va_P D vwCl (mW cI cJ cZ a (0) (lds) M) H := by exact hP
    have hDm : va_D A (mW cI cJ cZ a (0) (lds) M) := by exact hD
    refine wc_VWi (As := [.int (nI (1))]) (rest := []) (wf := mWu cI cJ cZ a) ⟨hx, hb, hml, hown, hts⟩ (c_X6_fails l D cI cJ cZ a (0) (lds) M hM (1) (by omega) H.size) (cwV 1 hts gX6_close_X6_fails rfl rfl rfl (by decide +kernel) ⟨Nat.le_of_ble_eq_true rfl, Nat.le_of_ble_eq_true rfl⟩) hPm hK hDm hS hA 0 rfl rfl rfl hl.1 rfl (Nat.le_of_ble_eq_true rfl) dX6_close_15 ⟨Nat.zero_le _, Nat.zero_le _⟩ (fun rr u9 hq9 H locs hP hD hS => ?_)
    obtain ⟨hr9, hu9⟩ := hq9
    subst hr9
    subst hu9
    have hP : va_P D vwCl (mX cI cJ cZ a (1) (lds) (m_n M) (m_sn M) (m_vn M) (m_rn M) (m_pn M) (m_nw M) (m_grp M) (m_key M) (m_srt M) (m_sd M) (m_go M) (m_seg M) (m_la M) (m_isN M) (m_drp M) (m_has M) (m_sees M) (m_isC M) (m_isG M) (m_ov M) (m_st M) (m_vo M) (m_ko M) (m_sl M) (m_sc M) (m_kp M) (m_en M) (m_pg M)) H := hP
    have hD : va_D A (mX cI cJ cZ a (1) (lds) (m_n M) (m_sn M) (m_vn M) (m_rn M) (m_pn M) (m_nw M) (m_grp M) (m_key M) (m_srt M) (m_sd M) (m_go M) (m_seg M) (m_la M) (m_isN M) (m_drp M) (m_has M) (m_sees M) (m_isC M) (m_isG M) (m_ov M) (m_st M) (m_vo M) (m_ko M) (m_sl M) (m_sc M) (m_kp M) (m_en M) (m_pg M)) := hD
    have hPm : va_P D vwCl (mW cI cJ cZ a (1) (lds) M) H := by exact hP
    have hDm : va_D A (mW cI cJ cZ a (1) (lds) M) := by exact hD
    exact W.iret (v := nI (0)) hx hb hr (fun t ht hW => ⟨⟨_, (1, lds, M), rfl, ⟨(by simp only [clR]; (repeat' split) <;> first | rfl | (exfalso; omega)), (by simp only [lfT]; (repeat' split) <;> first | rfl | (exfalso; omega)), (by simp only [clM]; (repeat' split) <;> first | rfl | (exfalso; omega))⟩, gb_mk ht hW hPm hK hDm⟩, hS.F ht⟩) hS.2.2 dX6_close_18
def rm_X6_tick : Room := { frames := 1, cells := 0, slots := 0, locals := 23 }
set_option maxHeartbeats 4000000 in
set_option maxRecDepth 100000 in
/-- now is more -/
theorem c_X6_tick (l : Launch) (D : va_G) (cI cJ cZ : ClassId) (a : Nat → Nat) (th : Nat) (lds : Nat → Bool) (M : MT) (hM : mOk M) (x : Int32) (sz : Nat) : Met l yX6_tick wsX6_tick rm_X6_tick (va_Pc [.ref (a 0), .int (x)] (GW D (tyW cI cJ cZ) (mW cI cJ cZ a (th) (lds) M) sz)) (va_Qi (fun rr u => rr = tickR M x ∧ u.1 = tickT M x ∧ u.2.2 = tickM M x) (fun u => GB D (tyW cI cJ cZ) (va_A (mW cI cJ cZ a (th) (lds) M) sz) (mWu cI cJ cZ a u)) (va_A (mW cI cJ cZ a (th) (lds) M) sz)) 0 0 (va_A (mW cI cJ cZ a (th) (lds) M) sz) := by
  obtain ⟨hn, hsn, hvn, hrn, hpn, hnw, h_seg, h_la, h_st, h_vo, h_ko, h_sl, h_sc, h_kp, h_en, h_pg, hvo, hko, hsl, hsc⟩ := id hM
  have hixx := ix_c x
  refine Met.ofW (cc := cX6_tick) (maxL := 4) (ret := (some .int)) (by decide) rfl ?_
  intro p e s m args below meth c s₁ B hml hv
  obtain ⟨rfl, hsz, hP, hK, hD0⟩ := hv
  have hx := B.exec
  have hb := B.bytes
  have hr := B.returns
  have hts := atoms_spec (ws := wsX6_tick) B.pre
  have hown : s.vm.findClass RX6 = some m.cls := findClass_of_methodNamed B.named
  have hlocks := B.notSynchronized
  subst hsz
  have hD := hD0.self (sz := s.heap.size)
  generalize hAe : va_A (mW cI cJ cZ a (th) (lds) M) s.heap.size = A at hD ⊢
  have hA : ∀ q : Nat, s.heap.size ≤ q → A q := fun q h => by rw [← hAe]; exact Or.inr h
  have hS : va_S A s.heap s.heap [] := va_S.rf
  have hP : va_P D vwCl (mX cI cJ cZ a (th) (lds) (m_n M) (m_sn M) (m_vn M) (m_rn M) (m_pn M) (m_nw M) (m_grp M) (m_key M) (m_srt M) (m_sd M) (m_go M) (m_seg M) (m_la M) (m_isN M) (m_drp M) (m_has M) (m_sees M) (m_isC M) (m_isG M) (m_ov M) (m_st M) (m_vo M) (m_ko M) (m_sl M) (m_sc M) (m_kp M) (m_en M) (m_pg M)) s.heap := hP
  have hD : va_D A (mX cI cJ cZ a (th) (lds) (m_n M) (m_sn M) (m_vn M) (m_rn M) (m_pn M) (m_nw M) (m_grp M) (m_key M) (m_srt M) (m_sd M) (m_go M) (m_seg M) (m_la M) (m_isN M) (m_drp M) (m_has M) (m_sees M) (m_isC M) (m_isG M) (m_ov M) (m_st M) (m_vo M) (m_ko M) (m_sl M) (m_sc M) (m_kp M) (m_en M) (m_pg M)) := hD
  have hiX6 : ∀ w ∈ wsX60, w ∈ wsX6_tick := by decide +kernel
  have hf0 := hts (.fieldLink RX6 81 "GroupCursorsModel" "thrown" "I") (by decide +kernel)
  have hf1 := hts (.fieldLink RX6 190 "GroupCursorsModel" "now" "I") (by decide +kernel)
  have hf2 := hts (.constant RX6 202 (1000000000)) (by decide +kernel)
  have hf3 := hts (.fieldLink RX6 134 "GroupCursorsModel" "readers" "I") (by decide +kernel)
  have hf4 := hts (.fieldLink RX6 48 "GroupCursorsModel" "isCursor" "[Z") (by decide +kernel)
  have hf5 := hts (.fieldLink RX6 69 "GroupCursorsModel" "isOver" "[Z") (by decide +kernel)
  have hf6 := hts (.fieldLink RX6 60 "GroupCursorsModel" "end" "[I") (by decide +kernel)
  have hf7 := hts (.fieldLink RX6 39 "GroupCursorsModel" "viewOf" "[I") (by decide +kernel)
  have hl := lv_entry ([.ref (a 0), .int (x)]) (n := 4) (Nat.le_of_ble_eq_true rfl)
  rw [lg_entry_eq]
  generalize (lg_sl ([.ref (a 0), .int (x)]) ++ List.replicate (4 - (lg_sl ([.ref (a 0), .int (x)])).length) Slot.unset).toArray = ls at hl ⊢
  have hl : lv_has ls 4 [(0, .ref (a 0)), (1, .int (x))] := hl
  refine lv_aload_n hx hb dX6_tick_0 rfl (lv_at hl 0 rfl) ?_
  refine lv_iconst (v := nI (0)) hx hb dX6_tick_1 (by decide) ?_
  refine va_put (ci := 6) (v := .int (nI (0))) (ty := .int) (C := RX6) (T := TX6) (N := 30) hx hb hts hiX6 tyX6 tyX6_ok nmX6 hown hK hP hD hS 0 rfl rfl 0 (by decide) hf0 (fun _ h9 => h9) rfl (by decide +kernel) rfl rfl (Nat.le_of_ble_eq_true rfl) dX6_tick_2 (fun H locs hP hD hS => ?_)
  have hP : va_P D vwCl (mX cI cJ cZ a (0) (lds) (m_n M) (m_sn M) (m_vn M) (m_rn M) (m_pn M) (m_nw M) (m_grp M) (m_key M) (m_srt M) (m_sd M) (m_go M) (m_seg M) (m_la M) (m_isN M) (m_drp M) (m_has M) (m_sees M) (m_isC M) (m_isG M) (m_ov M) (m_st M) (m_vo M) (m_ko M) (m_sl M) (m_sc M) (m_kp M) (m_en M) (m_pg M)) H := hP
  have hD : va_D A (mX cI cJ cZ a (0) (lds) (m_n M) (m_sn M) (m_vn M) (m_rn M) (m_pn M) (m_nw M) (m_grp M) (m_key M) (m_srt M) (m_sd M) (m_go M) (m_seg M) (m_la M) (m_isN M) (m_drp M) (m_has M) (m_sees M) (m_isC M) (m_isG M) (m_ov M) (m_st M) (m_vo M) (m_ko M) (m_sl M) (m_sc M) (m_kp M) (m_en M) (m_pg M)) := hD
  refine lv_iload_n hx hb dX6_tick_5 rfl (lv_at hl 1 rfl) ?_
  refine wz_if_lt (tgt := 27) hx hb ((x).toInt) rfl dX6_tick_6 (by decide) (fun c6_1 => ?_) (fun c6_1 => ?_)
  · refine lv_aload_n hx hb dX6_tick_27 rfl (lv_at hl 0 rfl) ?_
    refine lv_iconst (v := nI (1)) hx hb dX6_tick_28 (by decide) ?_
    have hPm : va_P D vwCl (mW cI cJ cZ a (0) (lds) M) H := by exact hP
    have hDm : va_D A (mW cI cJ cZ a (0) (lds) M) := by exact hD
    refine wc_VWi (As := [.int (nI (1))]) (rest := []) (wf := mWu cI cJ cZ a) ⟨hx, hb, hml, hown, hts⟩ (c_X6_fails l D cI cJ cZ a (0) (lds) M hM (1) (by omega) H.size) (cwV 1 hts gX6_tick_X6_fails rfl rfl rfl (by decide +kernel) ⟨Nat.le_of_ble_eq_true rfl, Nat.le_of_ble_eq_true rfl⟩) hPm hK hDm hS hA 0 rfl rfl rfl hl.1 rfl (Nat.le_of_ble_eq_true rfl) dX6_tick_29 ⟨Nat.zero_le _, Nat.zero_le _⟩ (fun rr u2 hq2 H locs hP hD hS => ?_)
    obtain ⟨hr2, hu2⟩ := hq2
    subst hr2
    subst hu2
    have hP : va_P D vwCl (mX cI cJ cZ a (1) (lds) (m_n M) (m_sn M) (m_vn M) (m_rn M) (m_pn M) (m_nw M) (m_grp M) (m_key M) (m_srt M) (m_sd M) (m_go M) (m_seg M) (m_la M) (m_isN M) (m_drp M) (m_has M) (m_sees M) (m_isC M) (m_isG M) (m_ov M) (m_st M) (m_vo M) (m_ko M) (m_sl M) (m_sc M) (m_kp M) (m_en M) (m_pg M)) H := hP
    have hD : va_D A (mX cI cJ cZ a (1) (lds) (m_n M) (m_sn M) (m_vn M) (m_rn M) (m_pn M) (m_nw M) (m_grp M) (m_key M) (m_srt M) (m_sd M) (m_go M) (m_seg M) (m_la M) (m_isN M) (m_drp M) (m_has M) (m_sees M) (m_isC M) (m_isG M) (m_ov M) (m_st M) (m_vo M) (m_ko M) (m_sl M) (m_sc M) (m_kp M) (m_en M) (m_pg M)) := hD
    have hPm : va_P D vwCl (mW cI cJ cZ a (1) (lds) M) H := by exact hP
    have hDm : va_D A (mW cI cJ cZ a (1) (lds) M) := by exact hD
    exact W.iret (v := nI (0)) hx hb hr (fun t ht hW => ⟨⟨_, (1, lds, M), rfl, ⟨(by simp only [tickR]; (repeat' split) <;> first | rfl | (exfalso; omega)), (by simp only [tickT]; (repeat' split) <;> first | rfl | (exfalso; omega)), (by simp only [tickM]; (repeat' split) <;> first | rfl | (exfalso; omega))⟩, gb_mk ht hW hPm hK hDm⟩, hS.F ht⟩) hS.2.2 dX6_tick_32
  · refine lv_iload_n hx hb dX6_tick_9 rfl (lv_at hl 1 rfl) ?_
    refine lv_sipush (v := nI (10000)) hx hb dX6_tick_10 (by decide) ?_
    refine wz_icmp_gt (tgt := 27) hx hb ((x).toInt) (((10000 : Nat) : Int)) rfl (nI_z (by omega)) dX6_tick_13 (by decide) (fun c13_3 => ?_) (fun c13_3 => ?_)
    · refine lv_aload_n hx hb dX6_tick_27 rfl (lv_at hl 0 rfl) ?_
      refine lv_iconst (v := nI (1)) hx hb dX6_tick_28 (by decide) ?_
      have hPm : va_P D vwCl (mW cI cJ cZ a (0) (lds) M) H := by exact hP
      have hDm : va_D A (mW cI cJ cZ a (0) (lds) M) := by exact hD
      refine wc_VWi (As := [.int (nI (1))]) (rest := []) (wf := mWu cI cJ cZ a) ⟨hx, hb, hml, hown, hts⟩ (c_X6_fails l D cI cJ cZ a (0) (lds) M hM (1) (by omega) H.size) (cwV 1 hts gX6_tick_X6_fails rfl rfl rfl (by decide +kernel) ⟨Nat.le_of_ble_eq_true rfl, Nat.le_of_ble_eq_true rfl⟩) hPm hK hDm hS hA 0 rfl rfl rfl hl.1 rfl (Nat.le_of_ble_eq_true rfl) dX6_tick_29 ⟨Nat.zero_le _, Nat.zero_le _⟩ (fun rr u4 hq4 H locs hP hD hS => ?_)
      obtain ⟨hr4, hu4⟩ := hq4
      subst hr4
      subst hu4
      have hP : va_P D vwCl (mX cI cJ cZ a (1) (lds) (m_n M) (m_sn M) (m_vn M) (m_rn M) (m_pn M) (m_nw M) (m_grp M) (m_key M) (m_srt M) (m_sd M) (m_go M) (m_seg M) (m_la M) (m_isN M) (m_drp M) (m_has M) (m_sees M) (m_isC M) (m_isG M) (m_ov M) (m_st M) (m_vo M) (m_ko M) (m_sl M) (m_sc M) (m_kp M) (m_en M) (m_pg M)) H := hP
      have hD : va_D A (mX cI cJ cZ a (1) (lds) (m_n M) (m_sn M) (m_vn M) (m_rn M) (m_pn M) (m_nw M) (m_grp M) (m_key M) (m_srt M) (m_sd M) (m_go M) (m_seg M) (m_la M) (m_isN M) (m_drp M) (m_has M) (m_sees M) (m_isC M) (m_isG M) (m_ov M) (m_st M) (m_vo M) (m_ko M) (m_sl M) (m_sc M) (m_kp M) (m_en M) (m_pg M)) := hD
      have hPm : va_P D vwCl (mW cI cJ cZ a (1) (lds) M) H := by exact hP
      have hDm : va_D A (mW cI cJ cZ a (1) (lds) M) := by exact hD
      exact W.iret (v := nI (0)) hx hb hr (fun t ht hW => ⟨⟨_, (1, lds, M), rfl, ⟨(by simp only [tickR]; (repeat' split) <;> first | rfl | (exfalso; omega)), (by simp only [tickT]; (repeat' split) <;> first | rfl | (exfalso; omega)), (by simp only [tickM]; (repeat' split) <;> first | rfl | (exfalso; omega))⟩, gb_mk ht hW hPm hK hDm⟩, hS.F ht⟩) hS.2.2 dX6_tick_32
    · refine lv_aload_n hx hb dX6_tick_16 rfl (lv_at hl 0 rfl) ?_
      refine va_get (ci := 6) (v := .int (nI (m_nw M))) (C := RX6) (T := TX6) (N := 30) hx hb hts hiX6 hown hK hP 0 rfl rfl 26 (by decide) hf1 (fun _ h9 => h9) rfl dX6_tick_17 ?_
      refine lv_iload_n hx hb dX6_tick_20 rfl (lv_at hl 1 rfl) ?_
      refine lv_iadd hx hb dX6_tick_21 (ww_top (y := zI (((m_nw M : Nat) : Int) + (x).toInt)) (iz_add (nI_z (by omega)) rfl) ?_)
      refine lv_ldc (v := (1000000000)) hx hb hown hf2 dX6_tick_22 ?_
      refine ww_top (show ((1000000000) : Int32) = nI (1000000000) by decide) ?_
      refine wz_icmp_le (tgt := 33) hx hb ((((m_nw M : Nat) : Int) + (x).toInt : Int)) (((1000000000 : Nat) : Int)) (zI_toInt (by omega) (by omega)) (nI_z (by omega)) dX6_tick_24 (by decide) (fun c24_5 => ?_) (fun c24_5 => ?_)
      · refine lv_aload_n hx hb dX6_tick_33 rfl (lv_at hl 0 rfl) ?_
        refine lv_dup hx hb dX6_tick_34 rfl ?_
        refine va_get (ci := 6) (v := .int (nI (m_nw M))) (C := RX6) (T := TX6) (N := 30) hx hb hts hiX6 hown hK hP 0 rfl rfl 26 (by decide) hf1 (fun _ h9 => h9) rfl dX6_tick_35 ?_
        refine lv_iload_n hx hb dX6_tick_38 rfl (lv_at hl 1 rfl) ?_
        refine lv_iadd hx hb dX6_tick_39 (ww_top (y := zI (((m_nw M : Nat) : Int) + (x).toInt)) (iz_add (nI_z (by omega)) rfl) ?_)
        refine ww_top (y := nI (m_nw M + ix x)) (cur_add (by omega)) ?_
        refine va_put (ci := 6) (v := .int (nI (m_nw M + ix x))) (ty := .int) (C := RX6) (T := TX6) (N := 30) hx hb hts hiX6 tyX6 tyX6_ok nmX6 hown hK hP hD hS 0 rfl rfl 26 (by decide) hf1 (fun _ h9 => h9) rfl (by decide +kernel) rfl rfl (Nat.le_of_ble_eq_true rfl) dX6_tick_40 (fun H locs hP hD hS => ?_)
        have hP : va_P D vwCl (mX cI cJ cZ a (0) (lds) (m_n M) (m_sn M) (m_vn M) (m_rn M) (m_pn M) (m_nw M + ix x) (m_grp M) (m_key M) (m_srt M) (m_sd M) (m_go M) (m_seg M) (m_la M) (m_isN M) (m_drp M) (m_has M) (m_sees M) (m_isC M) (m_isG M) (m_ov M) (m_st M) (m_vo M) (m_ko M) (m_sl M) (m_sc M) (m_kp M) (m_en M) (m_pg M)) H := hP
        have hD : va_D A (mX cI cJ cZ a (0) (lds) (m_n M) (m_sn M) (m_vn M) (m_rn M) (m_pn M) (m_nw M + ix x) (m_grp M) (m_key M) (m_srt M) (m_sd M) (m_go M) (m_seg M) (m_la M) (m_isN M) (m_drp M) (m_has M) (m_sees M) (m_isC M) (m_isG M) (m_ov M) (m_st M) (m_vo M) (m_ko M) (m_sl M) (m_sc M) (m_kp M) (m_en M) (m_pg M)) := hD
        refine lv_iconst (v := nI (0)) hx hb dX6_tick_43 (by decide) ?_
        refine lv_istore_n (lv' := [(2, .int (nI (0))), (0, .ref (a 0)), (1, .int (x))]) hx hb dX6_tick_44 rfl hl (by decide) rfl (fun ls hl => ?_)
        refine lv_iconst (v := nI (0)) hx hb dX6_tick_45 (by decide) ?_
        refine lv_istore_n (lv' := [(3, .int (nI (0))), (2, .int (nI (0))), (0, .ref (a 0)), (1, .int (x))]) hx hb dX6_tick_46 rfl hl (by decide) rfl (fun ls hl => ?_)
        have hlp47 : ∀ (d : Nat) (j : Nat) (k : Nat) (H : Heap) (locs : List Loc), m_rn M - j < d → (j ≤ m_rn M) → (k = tickC (tk0 M x) j) → va_P D vwCl (mX cI cJ cZ a (0) (lds) (m_n (tickS (tk0 M x) j)) (m_sn (tickS (tk0 M x) j)) (m_vn (tickS (tk0 M x) j)) (m_rn (tickS (tk0 M x) j)) (m_pn (tickS (tk0 M x) j)) (m_nw (tickS (tk0 M x) j)) (m_grp (tickS (tk0 M x) j)) (m_key (tickS (tk0 M x) j)) (m_srt (tickS (tk0 M x) j)) (m_sd (tickS (tk0 M x) j)) (m_go (tickS (tk0 M x) j)) (m_seg (tickS (tk0 M x) j)) (m_la (tickS (tk0 M x) j)) (m_isN (tickS (tk0 M x) j)) (m_drp (tickS (tk0 M x) j)) (m_has (tickS (tk0 M x) j)) (m_sees (tickS (tk0 M x) j)) (m_isC (tickS (tk0 M x) j)) (m_isG (tickS (tk0 M x) j)) (m_ov (tickS (tk0 M x) j)) (m_st (tickS (tk0 M x) j)) (m_vo (tickS (tk0 M x) j)) (m_ko (tickS (tk0 M x) j)) (m_sl (tickS (tk0 M x) j)) (m_sc (tickS (tk0 M x) j)) (m_kp (tickS (tk0 M x) j)) (m_en (tickS (tk0 M x) j)) (m_pg (tickS (tk0 M x) j))) H → va_D A (mX cI cJ cZ a (0) (lds) (m_n (tickS (tk0 M x) j)) (m_sn (tickS (tk0 M x) j)) (m_vn (tickS (tk0 M x) j)) (m_rn (tickS (tk0 M x) j)) (m_pn (tickS (tk0 M x) j)) (m_nw (tickS (tk0 M x) j)) (m_grp (tickS (tk0 M x) j)) (m_key (tickS (tk0 M x) j)) (m_srt (tickS (tk0 M x) j)) (m_sd (tickS (tk0 M x) j)) (m_go (tickS (tk0 M x) j)) (m_seg (tickS (tk0 M x) j)) (m_la (tickS (tk0 M x) j)) (m_isN (tickS (tk0 M x) j)) (m_drp (tickS (tk0 M x) j)) (m_has (tickS (tk0 M x) j)) (m_sees (tickS (tk0 M x) j)) (m_isC (tickS (tk0 M x) j)) (m_isG (tickS (tk0 M x) j)) (m_ov (tickS (tk0 M x) j)) (m_st (tickS (tk0 M x) j)) (m_vo (tickS (tk0 M x) j)) (m_ko (tickS (tk0 M x) j)) (m_sl (tickS (tk0 M x) j)) (m_sc (tickS (tk0 M x) j)) (m_kp (tickS (tk0 M x) j)) (m_en (tickS (tk0 M x) j)) (m_pg (tickS (tk0 M x) j))) → va_S A s.heap H locs → ∀ (ls : Array Slot), lv_has ls 4 [(0, .ref (a 0)), (1, .int (x)), (2, .int (nI (k))), (3, .int (nI (j)))] → W p l e (headSpec wsX6_tick rm_X6_tick).room s m ([.ref (a 0), .int (x)] : List Value).toArray below meth c H locs (0) (0) (MQ below (va_Qi (fun rr u => rr = tickR M x ∧ u.1 = tickT M x ∧ u.2.2 = tickM M x) (fun u => GB D (tyW cI cJ cZ) A (mWu cI cJ cZ a u)) A) ([.ref (a 0), .int (x)] : List Value).toArray s 0 0 A) (F0 m 47 ls []) := by
          intro d
          induction d with
          | zero => intro j k H locs hd47; exact absurd hd47 (Nat.not_lt_zero _)
          | succ d ih47 =>
            intro j k H locs hd47 hjk hk hP hD hS ls hl
            have hMj := ok_tickS (ok_tk0 hM (x := x) (by omega)) j
            have ern := tickS_rn (tk0 M x) j
            have ern2 : m_rn (tk0 M x) = m_rn M := rfl
            obtain ⟨hn, hsn, hvn, hrn, hpn, hnw, h_seg, h_la, h_st, h_vo, h_ko, h_sl, h_sc, h_kp, h_en, h_pg, hvo, hko, hsl, hsc⟩ := id hMj
            have hkl := tickC_le (tk0 M x) j
            refine lv_iload_n hx hb dX6_tick_47 rfl (lv_at hl 3 rfl) ?_
            refine lv_aload_n hx hb dX6_tick_48 rfl (lv_at hl 0 rfl) ?_
            refine va_get (ci := 6) (v := .int (nI (m_rn (tickS (tk0 M x) j)))) (C := RX6) (T := TX6) (N := 30) hx hb hts hiX6 hown hK hP 0 rfl rfl 13 (by decide) hf3 (fun _ h9 => h9) rfl dX6_tick_49 ?_
            refine wn_icmp_ge (a := j) (b := m_rn (tickS (tk0 M x) j)) (tgt := 112) hx hb (nI_z (by omega)) (nI_z (by omega)) dX6_tick_52 (by decide) (fun c52_6 => ?_) (fun c52_6 => ?_)
            · refine lv_iload_n hx hb dX6_tick_112 rfl (lv_at hl 2 rfl) ?_
              have hPm : va_P D vwCl (mW cI cJ cZ a (0) (lds) (tickS (tk0 M x) j)) H := by exact hP
              have hDm : va_D A (mW cI cJ cZ a (0) (lds) (tickS (tk0 M x) j)) := by exact hD
              exact W.iret (v := nI (k)) hx hb hr (fun t ht hW => ⟨⟨_, (0, lds, (tickS (tk0 M x) j)), rfl, ⟨by rw [tickR, if_neg (by omega), hk, (show j = m_rn M by omega)], by rw [tickT, if_neg (by omega)], by rw [tickM, if_neg (by omega), (show j = m_rn M by omega)]⟩, gb_mk ht hW hPm hK hDm⟩, hS.F ht⟩) hS.2.2 dX6_tick_113
            · refine lv_aload_n hx hb dX6_tick_55 rfl (lv_at hl 0 rfl) ?_
              refine va_get (ci := 6) (v := .ref (a 13)) (C := RX6) (T := TX6) (N := 30) hx hb hts hiX6 hown hK hP 0 rfl rfl 17 (by decide) hf4 (fun _ h9 => h9) rfl dX6_tick_56 ?_
              refine lv_iload_n hx hb dX6_tick_59 rfl (lv_at hl 3 rfl) ?_
              refine wa_z (i := j) (v := bI (m_isC (tickS (tk0 M x) j) j)) hx hb hK hP 13 2 rfl rfl rfl (by omega) (by decide) dX6_tick_60 ?_
              refine wb_if_eq (tgt := 106) hx hb dX6_tick_61 (by decide) (fun c61_7 => ?_) (fun c61_7 => ?_)
              · refine lv_iinc (v := nI (j + 1)) (lv' := [(3, .int (nI (j + 1))), (0, .ref (a 0)), (1, .int (x)), (2, .int (nI (k)))]) hx hb dX6_tick_106 hl (k := 3) rfl (nI_inc _) (by decide) rfl (fun ls hl => ?_)
                refine lv_goto (tgt := 47) hx hb dX6_tick_109 (by decide) ?_
                have e0 : ¬ tickP (tickS (tk0 M x) j) j = true := by simp only [tickP]; simp [c61_7]
                have hPm : va_P D vwCl (mW cI cJ cZ a (0) (lds) (tickS (tk0 M x) j)) H := hP
                have hDm : va_D A (mW cI cJ cZ a (0) (lds) (tickS (tk0 M x) j)) := hD
                have e9 : (tickS (tk0 M x) j) = (tickS (tk0 M x) (j + 1)) := by simp only [tickS]; rw [if_neg e0]
                rw [e9] at hPm hDm
                have hP : va_P D vwCl (mX cI cJ cZ a (0) (lds) (m_n (tickS (tk0 M x) (j + 1))) (m_sn (tickS (tk0 M x) (j + 1))) (m_vn (tickS (tk0 M x) (j + 1))) (m_rn (tickS (tk0 M x) (j + 1))) (m_pn (tickS (tk0 M x) (j + 1))) (m_nw (tickS (tk0 M x) (j + 1))) (m_grp (tickS (tk0 M x) (j + 1))) (m_key (tickS (tk0 M x) (j + 1))) (m_srt (tickS (tk0 M x) (j + 1))) (m_sd (tickS (tk0 M x) (j + 1))) (m_go (tickS (tk0 M x) (j + 1))) (m_seg (tickS (tk0 M x) (j + 1))) (m_la (tickS (tk0 M x) (j + 1))) (m_isN (tickS (tk0 M x) (j + 1))) (m_drp (tickS (tk0 M x) (j + 1))) (m_has (tickS (tk0 M x) (j + 1))) (m_sees (tickS (tk0 M x) (j + 1))) (m_isC (tickS (tk0 M x) (j + 1))) (m_isG (tickS (tk0 M x) (j + 1))) (m_ov (tickS (tk0 M x) (j + 1))) (m_st (tickS (tk0 M x) (j + 1))) (m_vo (tickS (tk0 M x) (j + 1))) (m_ko (tickS (tk0 M x) (j + 1))) (m_sl (tickS (tk0 M x) (j + 1))) (m_sc (tickS (tk0 M x) (j + 1))) (m_kp (tickS (tk0 M x) (j + 1))) (m_en (tickS (tk0 M x) (j + 1))) (m_pg (tickS (tk0 M x) (j + 1)))) H := hPm
                have hD : va_D A (mX cI cJ cZ a (0) (lds) (m_n (tickS (tk0 M x) (j + 1))) (m_sn (tickS (tk0 M x) (j + 1))) (m_vn (tickS (tk0 M x) (j + 1))) (m_rn (tickS (tk0 M x) (j + 1))) (m_pn (tickS (tk0 M x) (j + 1))) (m_nw (tickS (tk0 M x) (j + 1))) (m_grp (tickS (tk0 M x) (j + 1))) (m_key (tickS (tk0 M x) (j + 1))) (m_srt (tickS (tk0 M x) (j + 1))) (m_sd (tickS (tk0 M x) (j + 1))) (m_go (tickS (tk0 M x) (j + 1))) (m_seg (tickS (tk0 M x) (j + 1))) (m_la (tickS (tk0 M x) (j + 1))) (m_isN (tickS (tk0 M x) (j + 1))) (m_drp (tickS (tk0 M x) (j + 1))) (m_has (tickS (tk0 M x) (j + 1))) (m_sees (tickS (tk0 M x) (j + 1))) (m_isC (tickS (tk0 M x) (j + 1))) (m_isG (tickS (tk0 M x) (j + 1))) (m_ov (tickS (tk0 M x) (j + 1))) (m_st (tickS (tk0 M x) (j + 1))) (m_vo (tickS (tk0 M x) (j + 1))) (m_ko (tickS (tk0 M x) (j + 1))) (m_sl (tickS (tk0 M x) (j + 1))) (m_sc (tickS (tk0 M x) (j + 1))) (m_kp (tickS (tk0 M x) (j + 1))) (m_en (tickS (tk0 M x) (j + 1))) (m_pg (tickS (tk0 M x) (j + 1)))) := hDm
                exact ih47 (j + 1) (k) _ _ (by omega) (by omega) (by rw [hk]; simp only [tickC]; simp only [e0]; rfl) hP hD hS ls (lv_sub hl [1, 2, 3, 0] rfl)
              · refine lv_aload_n hx hb dX6_tick_64 rfl (lv_at hl 0 rfl) ?_
                refine va_get (ci := 6) (v := .ref (a 20)) (C := RX6) (T := TX6) (N := 30) hx hb hts hiX6 hown hK hP 0 rfl rfl 24 (by decide) hf5 (fun _ h9 => h9) rfl dX6_tick_65 ?_
                refine lv_iload_n hx hb dX6_tick_68 rfl (lv_at hl 3 rfl) ?_
                refine wa_z (i := j) (v := bI (m_ov (tickS (tk0 M x) j) j)) hx hb hK hP 20 2 rfl rfl rfl (by omega) (by decide) dX6_tick_69 ?_
                refine wb_if_ne (tgt := 106) hx hb dX6_tick_70 (by decide) (fun c70_8 => ?_) (fun c70_8 => ?_)
                · refine lv_iinc (v := nI (j + 1)) (lv' := [(3, .int (nI (j + 1))), (0, .ref (a 0)), (1, .int (x)), (2, .int (nI (k)))]) hx hb dX6_tick_106 hl (k := 3) rfl (nI_inc _) (by decide) rfl (fun ls hl => ?_)
                  refine lv_goto (tgt := 47) hx hb dX6_tick_109 (by decide) ?_
                  have e0 : ¬ tickP (tickS (tk0 M x) j) j = true := by simp only [tickP]; simp [c61_7, c70_8]
                  have hPm : va_P D vwCl (mW cI cJ cZ a (0) (lds) (tickS (tk0 M x) j)) H := hP
                  have hDm : va_D A (mW cI cJ cZ a (0) (lds) (tickS (tk0 M x) j)) := hD
                  have e9 : (tickS (tk0 M x) j) = (tickS (tk0 M x) (j + 1)) := by simp only [tickS]; rw [if_neg e0]
                  rw [e9] at hPm hDm
                  have hP : va_P D vwCl (mX cI cJ cZ a (0) (lds) (m_n (tickS (tk0 M x) (j + 1))) (m_sn (tickS (tk0 M x) (j + 1))) (m_vn (tickS (tk0 M x) (j + 1))) (m_rn (tickS (tk0 M x) (j + 1))) (m_pn (tickS (tk0 M x) (j + 1))) (m_nw (tickS (tk0 M x) (j + 1))) (m_grp (tickS (tk0 M x) (j + 1))) (m_key (tickS (tk0 M x) (j + 1))) (m_srt (tickS (tk0 M x) (j + 1))) (m_sd (tickS (tk0 M x) (j + 1))) (m_go (tickS (tk0 M x) (j + 1))) (m_seg (tickS (tk0 M x) (j + 1))) (m_la (tickS (tk0 M x) (j + 1))) (m_isN (tickS (tk0 M x) (j + 1))) (m_drp (tickS (tk0 M x) (j + 1))) (m_has (tickS (tk0 M x) (j + 1))) (m_sees (tickS (tk0 M x) (j + 1))) (m_isC (tickS (tk0 M x) (j + 1))) (m_isG (tickS (tk0 M x) (j + 1))) (m_ov (tickS (tk0 M x) (j + 1))) (m_st (tickS (tk0 M x) (j + 1))) (m_vo (tickS (tk0 M x) (j + 1))) (m_ko (tickS (tk0 M x) (j + 1))) (m_sl (tickS (tk0 M x) (j + 1))) (m_sc (tickS (tk0 M x) (j + 1))) (m_kp (tickS (tk0 M x) (j + 1))) (m_en (tickS (tk0 M x) (j + 1))) (m_pg (tickS (tk0 M x) (j + 1)))) H := hPm
                  have hD : va_D A (mX cI cJ cZ a (0) (lds) (m_n (tickS (tk0 M x) (j + 1))) (m_sn (tickS (tk0 M x) (j + 1))) (m_vn (tickS (tk0 M x) (j + 1))) (m_rn (tickS (tk0 M x) (j + 1))) (m_pn (tickS (tk0 M x) (j + 1))) (m_nw (tickS (tk0 M x) (j + 1))) (m_grp (tickS (tk0 M x) (j + 1))) (m_key (tickS (tk0 M x) (j + 1))) (m_srt (tickS (tk0 M x) (j + 1))) (m_sd (tickS (tk0 M x) (j + 1))) (m_go (tickS (tk0 M x) (j + 1))) (m_seg (tickS (tk0 M x) (j + 1))) (m_la (tickS (tk0 M x) (j + 1))) (m_isN (tickS (tk0 M x) (j + 1))) (m_drp (tickS (tk0 M x) (j + 1))) (m_has (tickS (tk0 M x) (j + 1))) (m_sees (tickS (tk0 M x) (j + 1))) (m_isC (tickS (tk0 M x) (j + 1))) (m_isG (tickS (tk0 M x) (j + 1))) (m_ov (tickS (tk0 M x) (j + 1))) (m_st (tickS (tk0 M x) (j + 1))) (m_vo (tickS (tk0 M x) (j + 1))) (m_ko (tickS (tk0 M x) (j + 1))) (m_sl (tickS (tk0 M x) (j + 1))) (m_sc (tickS (tk0 M x) (j + 1))) (m_kp (tickS (tk0 M x) (j + 1))) (m_en (tickS (tk0 M x) (j + 1))) (m_pg (tickS (tk0 M x) (j + 1)))) := hDm
                  exact ih47 (j + 1) (k) _ _ (by omega) (by omega) (by rw [hk]; simp only [tickC]; simp only [e0]; rfl) hP hD hS ls (lv_sub hl [1, 2, 3, 0] rfl)
                · refine lv_aload_n hx hb dX6_tick_73 rfl (lv_at hl 0 rfl) ?_
                  refine va_get (ci := 6) (v := .int (nI (m_nw (tickS (tk0 M x) j)))) (C := RX6) (T := TX6) (N := 30) hx hb hts hiX6 hown hK hP 0 rfl rfl 26 (by decide) hf1 (fun _ h9 => h9) rfl dX6_tick_74 ?_
                  refine lv_aload_n hx hb dX6_tick_77 rfl (lv_at hl 0 rfl) ?_
                  refine va_get (ci := 6) (v := .ref (a 17)) (C := RX6) (T := TX6) (N := 30) hx hb hts hiX6 hown hK hP 0 rfl rfl 21 (by decide) hf6 (fun _ h9 => h9) rfl dX6_tick_78 ?_
                  refine lv_iload_n hx hb dX6_tick_81 rfl (lv_at hl 3 rfl) ?_
                  refine wa_i (i := j) (v := nI (m_en (tickS (tk0 M x) j) j)) hx hb hK hP 17 0 rfl rfl rfl (by omega) (by decide) dX6_tick_82 ?_
                  refine wn_icmp_le (a := m_nw (tickS (tk0 M x) j)) (b := m_en (tickS (tk0 M x) j) j) (tgt := 106) hx hb (nI_z (by omega)) (nr (h_en j)) dX6_tick_83 (by decide) (fun c83_9 => ?_) (fun c83_9 => ?_)
                  · refine lv_iinc (v := nI (j + 1)) (lv' := [(3, .int (nI (j + 1))), (0, .ref (a 0)), (1, .int (x)), (2, .int (nI (k)))]) hx hb dX6_tick_106 hl (k := 3) rfl (nI_inc _) (by decide) rfl (fun ls hl => ?_)
                    refine lv_goto (tgt := 47) hx hb dX6_tick_109 (by decide) ?_
                    have e0 : ¬ tickP (tickS (tk0 M x) j) j = true := by simp only [tickP]; simp [c61_7, c70_8, c83_9]
                    have hPm : va_P D vwCl (mW cI cJ cZ a (0) (lds) (tickS (tk0 M x) j)) H := hP
                    have hDm : va_D A (mW cI cJ cZ a (0) (lds) (tickS (tk0 M x) j)) := hD
                    have e9 : (tickS (tk0 M x) j) = (tickS (tk0 M x) (j + 1)) := by simp only [tickS]; rw [if_neg e0]
                    rw [e9] at hPm hDm
                    have hP : va_P D vwCl (mX cI cJ cZ a (0) (lds) (m_n (tickS (tk0 M x) (j + 1))) (m_sn (tickS (tk0 M x) (j + 1))) (m_vn (tickS (tk0 M x) (j + 1))) (m_rn (tickS (tk0 M x) (j + 1))) (m_pn (tickS (tk0 M x) (j + 1))) (m_nw (tickS (tk0 M x) (j + 1))) (m_grp (tickS (tk0 M x) (j + 1))) (m_key (tickS (tk0 M x) (j + 1))) (m_srt (tickS (tk0 M x) (j + 1))) (m_sd (tickS (tk0 M x) (j + 1))) (m_go (tickS (tk0 M x) (j + 1))) (m_seg (tickS (tk0 M x) (j + 1))) (m_la (tickS (tk0 M x) (j + 1))) (m_isN (tickS (tk0 M x) (j + 1))) (m_drp (tickS (tk0 M x) (j + 1))) (m_has (tickS (tk0 M x) (j + 1))) (m_sees (tickS (tk0 M x) (j + 1))) (m_isC (tickS (tk0 M x) (j + 1))) (m_isG (tickS (tk0 M x) (j + 1))) (m_ov (tickS (tk0 M x) (j + 1))) (m_st (tickS (tk0 M x) (j + 1))) (m_vo (tickS (tk0 M x) (j + 1))) (m_ko (tickS (tk0 M x) (j + 1))) (m_sl (tickS (tk0 M x) (j + 1))) (m_sc (tickS (tk0 M x) (j + 1))) (m_kp (tickS (tk0 M x) (j + 1))) (m_en (tickS (tk0 M x) (j + 1))) (m_pg (tickS (tk0 M x) (j + 1)))) H := hPm
                    have hD : va_D A (mX cI cJ cZ a (0) (lds) (m_n (tickS (tk0 M x) (j + 1))) (m_sn (tickS (tk0 M x) (j + 1))) (m_vn (tickS (tk0 M x) (j + 1))) (m_rn (tickS (tk0 M x) (j + 1))) (m_pn (tickS (tk0 M x) (j + 1))) (m_nw (tickS (tk0 M x) (j + 1))) (m_grp (tickS (tk0 M x) (j + 1))) (m_key (tickS (tk0 M x) (j + 1))) (m_srt (tickS (tk0 M x) (j + 1))) (m_sd (tickS (tk0 M x) (j + 1))) (m_go (tickS (tk0 M x) (j + 1))) (m_seg (tickS (tk0 M x) (j + 1))) (m_la (tickS (tk0 M x) (j + 1))) (m_isN (tickS (tk0 M x) (j + 1))) (m_drp (tickS (tk0 M x) (j + 1))) (m_has (tickS (tk0 M x) (j + 1))) (m_sees (tickS (tk0 M x) (j + 1))) (m_isC (tickS (tk0 M x) (j + 1))) (m_isG (tickS (tk0 M x) (j + 1))) (m_ov (tickS (tk0 M x) (j + 1))) (m_st (tickS (tk0 M x) (j + 1))) (m_vo (tickS (tk0 M x) (j + 1))) (m_ko (tickS (tk0 M x) (j + 1))) (m_sl (tickS (tk0 M x) (j + 1))) (m_sc (tickS (tk0 M x) (j + 1))) (m_kp (tickS (tk0 M x) (j + 1))) (m_en (tickS (tk0 M x) (j + 1))) (m_pg (tickS (tk0 M x) (j + 1)))) := hDm
                    exact ih47 (j + 1) (k) _ _ (by omega) (by omega) (by rw [hk]; simp only [tickC]; simp only [e0]; rfl) hP hD hS ls (lv_sub hl [1, 2, 3, 0] rfl)
                  · refine lv_aload_n hx hb dX6_tick_86 rfl (lv_at hl 0 rfl) ?_
                    refine va_get (ci := 6) (v := .ref (a 20)) (C := RX6) (T := TX6) (N := 30) hx hb hts hiX6 hown hK hP 0 rfl rfl 24 (by decide) hf5 (fun _ h9 => h9) rfl dX6_tick_87 ?_
                    refine lv_iload_n hx hb dX6_tick_90 rfl (lv_at hl 3 rfl) ?_
                    refine lv_iconst (v := nI (1)) hx hb dX6_tick_91 (by decide) ?_
                    refine wa_zst (i := j) (b := true) (f := m_ov (tickS (tk0 M x) j)) hx hb hK hP hD hS 20 2 rfl rfl rfl (by omega) (by decide) dX6_tick_92 (fun H locs hP hD hS => ?_)
                    have hP : va_P D vwCl (mX cI cJ cZ a (0) (lds) (m_n (tickS (tk0 M x) j)) (m_sn (tickS (tk0 M x) j)) (m_vn (tickS (tk0 M x) j)) (m_rn (tickS (tk0 M x) j)) (m_pn (tickS (tk0 M x) j)) (m_nw (tickS (tk0 M x) j)) (m_grp (tickS (tk0 M x) j)) (m_key (tickS (tk0 M x) j)) (m_srt (tickS (tk0 M x) j)) (m_sd (tickS (tk0 M x) j)) (m_go (tickS (tk0 M x) j)) (m_seg (tickS (tk0 M x) j)) (m_la (tickS (tk0 M x) j)) (m_isN (tickS (tk0 M x) j)) (m_drp (tickS (tk0 M x) j)) (m_has (tickS (tk0 M x) j)) (m_sees (tickS (tk0 M x) j)) (m_isC (tickS (tk0 M x) j)) (m_isG (tickS (tk0 M x) j)) (va_up (m_ov (tickS (tk0 M x) j)) (j) (true)) (m_st (tickS (tk0 M x) j)) (m_vo (tickS (tk0 M x) j)) (m_ko (tickS (tk0 M x) j)) (m_sl (tickS (tk0 M x) j)) (m_sc (tickS (tk0 M x) j)) (m_kp (tickS (tk0 M x) j)) (m_en (tickS (tk0 M x) j)) (m_pg (tickS (tk0 M x) j))) H := hP
                    have hD : va_D A (mX cI cJ cZ a (0) (lds) (m_n (tickS (tk0 M x) j)) (m_sn (tickS (tk0 M x) j)) (m_vn (tickS (tk0 M x) j)) (m_rn (tickS (tk0 M x) j)) (m_pn (tickS (tk0 M x) j)) (m_nw (tickS (tk0 M x) j)) (m_grp (tickS (tk0 M x) j)) (m_key (tickS (tk0 M x) j)) (m_srt (tickS (tk0 M x) j)) (m_sd (tickS (tk0 M x) j)) (m_go (tickS (tk0 M x) j)) (m_seg (tickS (tk0 M x) j)) (m_la (tickS (tk0 M x) j)) (m_isN (tickS (tk0 M x) j)) (m_drp (tickS (tk0 M x) j)) (m_has (tickS (tk0 M x) j)) (m_sees (tickS (tk0 M x) j)) (m_isC (tickS (tk0 M x) j)) (m_isG (tickS (tk0 M x) j)) (va_up (m_ov (tickS (tk0 M x) j)) (j) (true)) (m_st (tickS (tk0 M x) j)) (m_vo (tickS (tk0 M x) j)) (m_ko (tickS (tk0 M x) j)) (m_sl (tickS (tk0 M x) j)) (m_sc (tickS (tk0 M x) j)) (m_kp (tickS (tk0 M x) j)) (m_en (tickS (tk0 M x) j)) (m_pg (tickS (tk0 M x) j))) := hD
                    refine lv_iinc (v := nI (k + 1)) (lv' := [(2, .int (nI (k + 1))), (0, .ref (a 0)), (1, .int (x)), (3, .int (nI (j)))]) hx hb dX6_tick_93 hl (k := 2) rfl (nI_inc _) (by decide) rfl (fun ls hl => ?_)
                    have hvo0 := hvo j
                    refine lv_aload_n hx hb dX6_tick_96 rfl (lv_at hl 1 rfl) ?_
                    refine lv_aload_n hx hb dX6_tick_97 rfl (lv_at hl 1 rfl) ?_
                    refine va_get (ci := 6) (v := .ref (a 10)) (C := RX6) (T := TX6) (N := 30) hx hb hts hiX6 hown hK hP 0 rfl rfl 14 (by decide) hf7 (fun _ h9 => h9) rfl dX6_tick_98 ?_
                    refine lv_iload_n hx hb dX6_tick_101 rfl (lv_at hl 3 rfl) ?_
                    refine wa_i (i := j) (v := nI (m_vo (tickS (tk0 M x) j) j)) hx hb hK hP 10 0 rfl rfl rfl (by omega) (by decide) dX6_tick_102 ?_
                    have hPm : va_P D vwCl (mW cI cJ cZ a (0) (lds) (cl1 (tickS (tk0 M x) j) j)) H := by show va_P D vwCl (mW cI cJ cZ a (0) (lds) (mkM (m_n (tickS (tk0 M x) j)) (m_sn (tickS (tk0 M x) j)) (m_vn (tickS (tk0 M x) j)) (m_rn (tickS (tk0 M x) j)) (m_pn (tickS (tk0 M x) j)) (m_nw (tickS (tk0 M x) j)) (m_grp (tickS (tk0 M x) j)) (m_key (tickS (tk0 M x) j)) (m_srt (tickS (tk0 M x) j)) (m_sd (tickS (tk0 M x) j)) (m_go (tickS (tk0 M x) j)) (m_seg (tickS (tk0 M x) j)) (m_la (tickS (tk0 M x) j)) (m_isN (tickS (tk0 M x) j)) (m_drp (tickS (tk0 M x) j)) (m_has (tickS (tk0 M x) j)) (m_sees (tickS (tk0 M x) j)) (m_isC (tickS (tk0 M x) j)) (m_isG (tickS (tk0 M x) j)) (va_up (m_ov (tickS (tk0 M x) j)) (j) (true)) (m_st (tickS (tk0 M x) j)) (m_vo (tickS (tk0 M x) j)) (m_ko (tickS (tk0 M x) j)) (m_sl (tickS (tk0 M x) j)) (m_sc (tickS (tk0 M x) j)) (m_kp (tickS (tk0 M x) j)) (m_en (tickS (tk0 M x) j)) (m_pg (tickS (tk0 M x) j)))) H; rw [← mX_mk]; exact hP
                    have hDm : va_D A (mW cI cJ cZ a (0) (lds) (cl1 (tickS (tk0 M x) j) j)) := by show va_D A (mW cI cJ cZ a (0) (lds) (mkM (m_n (tickS (tk0 M x) j)) (m_sn (tickS (tk0 M x) j)) (m_vn (tickS (tk0 M x) j)) (m_rn (tickS (tk0 M x) j)) (m_pn (tickS (tk0 M x) j)) (m_nw (tickS (tk0 M x) j)) (m_grp (tickS (tk0 M x) j)) (m_key (tickS (tk0 M x) j)) (m_srt (tickS (tk0 M x) j)) (m_sd (tickS (tk0 M x) j)) (m_go (tickS (tk0 M x) j)) (m_seg (tickS (tk0 M x) j)) (m_la (tickS (tk0 M x) j)) (m_isN (tickS (tk0 M x) j)) (m_drp (tickS (tk0 M x) j)) (m_has (tickS (tk0 M x) j)) (m_sees (tickS (tk0 M x) j)) (m_isC (tickS (tk0 M x) j)) (m_isG (tickS (tk0 M x) j)) (va_up (m_ov (tickS (tk0 M x) j)) (j) (true)) (m_st (tickS (tk0 M x) j)) (m_vo (tickS (tk0 M x) j)) (m_ko (tickS (tk0 M x) j)) (m_sl (tickS (tk0 M x) j)) (m_sc (tickS (tk0 M x) j)) (m_kp (tickS (tk0 M x) j)) (m_en (tickS (tk0 M x) j)) (m_pg (tickS (tk0 M x) j)))); rw [← mX_mk]; exact hD
                    refine wc_VWv (As := [.int (nI (m_vo (tickS (tk0 M x) j) j))]) (rest := []) (wf := mWu cI cJ cZ a) ⟨hx, hb, hml, hown, hts⟩ (c_X6_settle l D cI cJ cZ a (0) (lds) (cl1 (tickS (tk0 M x) j) j) (ok_cl1 hMj j) (m_vo (tickS (tk0 M x) j) j) (by omega) H.size) (cwV 1 hts gX6_tick_X6_settle rfl rfl rfl (by decide +kernel) ⟨Nat.le_of_ble_eq_true rfl, Nat.le_of_ble_eq_true rfl⟩) hPm hK hDm hS hA 0 rfl rfl rfl hl.1 rfl (Nat.le_of_ble_eq_true rfl) dX6_tick_103 ⟨Nat.zero_le _, Nat.zero_le _⟩ (fun u10 hq10 H locs hP hD hS => ?_)
                    obtain ⟨hu10a, hu10b, hu10c⟩ := hq10
                    obtain ⟨u101, u102, u103⟩ := u10
                    dsimp only at hu10a hu10b hu10c
                    have hu10a := hu10a.symm
                    have hu10b := hu10b.symm
                    have hu10c := hu10c.symm
                    subst hu10a
                    subst hu10b
                    subst hu10c
                    have hP : va_P D vwCl (mX cI cJ cZ a (0) (lds) (m_n (settleM (cl1 (tickS (tk0 M x) j) j) (m_vo (tickS (tk0 M x) j) j))) (m_sn (settleM (cl1 (tickS (tk0 M x) j) j) (m_vo (tickS (tk0 M x) j) j))) (m_vn (settleM (cl1 (tickS (tk0 M x) j) j) (m_vo (tickS (tk0 M x) j) j))) (m_rn (settleM (cl1 (tickS (tk0 M x) j) j) (m_vo (tickS (tk0 M x) j) j))) (m_pn (settleM (cl1 (tickS (tk0 M x) j) j) (m_vo (tickS (tk0 M x) j) j))) (m_nw (settleM (cl1 (tickS (tk0 M x) j) j) (m_vo (tickS (tk0 M x) j) j))) (m_grp (settleM (cl1 (tickS (tk0 M x) j) j) (m_vo (tickS (tk0 M x) j) j))) (m_key (settleM (cl1 (tickS (tk0 M x) j) j) (m_vo (tickS (tk0 M x) j) j))) (m_srt (settleM (cl1 (tickS (tk0 M x) j) j) (m_vo (tickS (tk0 M x) j) j))) (m_sd (settleM (cl1 (tickS (tk0 M x) j) j) (m_vo (tickS (tk0 M x) j) j))) (m_go (settleM (cl1 (tickS (tk0 M x) j) j) (m_vo (tickS (tk0 M x) j) j))) (m_seg (settleM (cl1 (tickS (tk0 M x) j) j) (m_vo (tickS (tk0 M x) j) j))) (m_la (settleM (cl1 (tickS (tk0 M x) j) j) (m_vo (tickS (tk0 M x) j) j))) (m_isN (settleM (cl1 (tickS (tk0 M x) j) j) (m_vo (tickS (tk0 M x) j) j))) (m_drp (settleM (cl1 (tickS (tk0 M x) j) j) (m_vo (tickS (tk0 M x) j) j))) (m_has (settleM (cl1 (tickS (tk0 M x) j) j) (m_vo (tickS (tk0 M x) j) j))) (m_sees (settleM (cl1 (tickS (tk0 M x) j) j) (m_vo (tickS (tk0 M x) j) j))) (m_isC (settleM (cl1 (tickS (tk0 M x) j) j) (m_vo (tickS (tk0 M x) j) j))) (m_isG (settleM (cl1 (tickS (tk0 M x) j) j) (m_vo (tickS (tk0 M x) j) j))) (m_ov (settleM (cl1 (tickS (tk0 M x) j) j) (m_vo (tickS (tk0 M x) j) j))) (m_st (settleM (cl1 (tickS (tk0 M x) j) j) (m_vo (tickS (tk0 M x) j) j))) (m_vo (settleM (cl1 (tickS (tk0 M x) j) j) (m_vo (tickS (tk0 M x) j) j))) (m_ko (settleM (cl1 (tickS (tk0 M x) j) j) (m_vo (tickS (tk0 M x) j) j))) (m_sl (settleM (cl1 (tickS (tk0 M x) j) j) (m_vo (tickS (tk0 M x) j) j))) (m_sc (settleM (cl1 (tickS (tk0 M x) j) j) (m_vo (tickS (tk0 M x) j) j))) (m_kp (settleM (cl1 (tickS (tk0 M x) j) j) (m_vo (tickS (tk0 M x) j) j))) (m_en (settleM (cl1 (tickS (tk0 M x) j) j) (m_vo (tickS (tk0 M x) j) j))) (m_pg (settleM (cl1 (tickS (tk0 M x) j) j) (m_vo (tickS (tk0 M x) j) j)))) H := hP
                    have hD : va_D A (mX cI cJ cZ a (0) (lds) (m_n (settleM (cl1 (tickS (tk0 M x) j) j) (m_vo (tickS (tk0 M x) j) j))) (m_sn (settleM (cl1 (tickS (tk0 M x) j) j) (m_vo (tickS (tk0 M x) j) j))) (m_vn (settleM (cl1 (tickS (tk0 M x) j) j) (m_vo (tickS (tk0 M x) j) j))) (m_rn (settleM (cl1 (tickS (tk0 M x) j) j) (m_vo (tickS (tk0 M x) j) j))) (m_pn (settleM (cl1 (tickS (tk0 M x) j) j) (m_vo (tickS (tk0 M x) j) j))) (m_nw (settleM (cl1 (tickS (tk0 M x) j) j) (m_vo (tickS (tk0 M x) j) j))) (m_grp (settleM (cl1 (tickS (tk0 M x) j) j) (m_vo (tickS (tk0 M x) j) j))) (m_key (settleM (cl1 (tickS (tk0 M x) j) j) (m_vo (tickS (tk0 M x) j) j))) (m_srt (settleM (cl1 (tickS (tk0 M x) j) j) (m_vo (tickS (tk0 M x) j) j))) (m_sd (settleM (cl1 (tickS (tk0 M x) j) j) (m_vo (tickS (tk0 M x) j) j))) (m_go (settleM (cl1 (tickS (tk0 M x) j) j) (m_vo (tickS (tk0 M x) j) j))) (m_seg (settleM (cl1 (tickS (tk0 M x) j) j) (m_vo (tickS (tk0 M x) j) j))) (m_la (settleM (cl1 (tickS (tk0 M x) j) j) (m_vo (tickS (tk0 M x) j) j))) (m_isN (settleM (cl1 (tickS (tk0 M x) j) j) (m_vo (tickS (tk0 M x) j) j))) (m_drp (settleM (cl1 (tickS (tk0 M x) j) j) (m_vo (tickS (tk0 M x) j) j))) (m_has (settleM (cl1 (tickS (tk0 M x) j) j) (m_vo (tickS (tk0 M x) j) j))) (m_sees (settleM (cl1 (tickS (tk0 M x) j) j) (m_vo (tickS (tk0 M x) j) j))) (m_isC (settleM (cl1 (tickS (tk0 M x) j) j) (m_vo (tickS (tk0 M x) j) j))) (m_isG (settleM (cl1 (tickS (tk0 M x) j) j) (m_vo (tickS (tk0 M x) j) j))) (m_ov (settleM (cl1 (tickS (tk0 M x) j) j) (m_vo (tickS (tk0 M x) j) j))) (m_st (settleM (cl1 (tickS (tk0 M x) j) j) (m_vo (tickS (tk0 M x) j) j))) (m_vo (settleM (cl1 (tickS (tk0 M x) j) j) (m_vo (tickS (tk0 M x) j) j))) (m_ko (settleM (cl1 (tickS (tk0 M x) j) j) (m_vo (tickS (tk0 M x) j) j))) (m_sl (settleM (cl1 (tickS (tk0 M x) j) j) (m_vo (tickS (tk0 M x) j) j))) (m_sc (settleM (cl1 (tickS (tk0 M x) j) j) (m_vo (tickS (tk0 M x) j) j))) (m_kp (settleM (cl1 (tickS (tk0 M x) j) j) (m_vo (tickS (tk0 M x) j) j))) (m_en (settleM (cl1 (tickS (tk0 M x) j) j) (m_vo (tickS (tk0 M x) j) j))) (m_pg (settleM (cl1 (tickS (tk0 M x) j) j) (m_vo (tickS (tk0 M x) j) j)))) := hD
                    refine lv_iinc (v := nI (j + 1)) (lv' := [(3, .int (nI (j + 1))), (2, .int (nI (k + 1))), (0, .ref (a 0)), (1, .int (x))]) hx hb dX6_tick_106 hl (k := 3) rfl (nI_inc _) (by decide) rfl (fun ls hl => ?_)
                    refine lv_goto (tgt := 47) hx hb dX6_tick_109 (by decide) ?_
                    have e0 : tickP (tickS (tk0 M x) j) j = true := by simp only [tickP]; simp [c61_7, c70_8, c83_9]
                    have hPm : va_P D vwCl (mW cI cJ cZ a (0) (lds) (settleM (cl1 (tickS (tk0 M x) j) j) (m_vo (tickS (tk0 M x) j) j))) H := hP
                    have hDm : va_D A (mW cI cJ cZ a (0) (lds) (settleM (cl1 (tickS (tk0 M x) j) j) (m_vo (tickS (tk0 M x) j) j))) := hD
                    have e9 : (settleM (cl1 (tickS (tk0 M x) j) j) (m_vo (tickS (tk0 M x) j) j)) = (tickS (tk0 M x) (j + 1)) := by simp only [tickS]; rw [if_pos e0]
                    rw [e9] at hPm hDm
                    have hP : va_P D vwCl (mX cI cJ cZ a (0) (lds) (m_n (tickS (tk0 M x) (j + 1))) (m_sn (tickS (tk0 M x) (j + 1))) (m_vn (tickS (tk0 M x) (j + 1))) (m_rn (tickS (tk0 M x) (j + 1))) (m_pn (tickS (tk0 M x) (j + 1))) (m_nw (tickS (tk0 M x) (j + 1))) (m_grp (tickS (tk0 M x) (j + 1))) (m_key (tickS (tk0 M x) (j + 1))) (m_srt (tickS (tk0 M x) (j + 1))) (m_sd (tickS (tk0 M x) (j + 1))) (m_go (tickS (tk0 M x) (j + 1))) (m_seg (tickS (tk0 M x) (j + 1))) (m_la (tickS (tk0 M x) (j + 1))) (m_isN (tickS (tk0 M x) (j + 1))) (m_drp (tickS (tk0 M x) (j + 1))) (m_has (tickS (tk0 M x) (j + 1))) (m_sees (tickS (tk0 M x) (j + 1))) (m_isC (tickS (tk0 M x) (j + 1))) (m_isG (tickS (tk0 M x) (j + 1))) (m_ov (tickS (tk0 M x) (j + 1))) (m_st (tickS (tk0 M x) (j + 1))) (m_vo (tickS (tk0 M x) (j + 1))) (m_ko (tickS (tk0 M x) (j + 1))) (m_sl (tickS (tk0 M x) (j + 1))) (m_sc (tickS (tk0 M x) (j + 1))) (m_kp (tickS (tk0 M x) (j + 1))) (m_en (tickS (tk0 M x) (j + 1))) (m_pg (tickS (tk0 M x) (j + 1)))) H := hPm
                    have hD : va_D A (mX cI cJ cZ a (0) (lds) (m_n (tickS (tk0 M x) (j + 1))) (m_sn (tickS (tk0 M x) (j + 1))) (m_vn (tickS (tk0 M x) (j + 1))) (m_rn (tickS (tk0 M x) (j + 1))) (m_pn (tickS (tk0 M x) (j + 1))) (m_nw (tickS (tk0 M x) (j + 1))) (m_grp (tickS (tk0 M x) (j + 1))) (m_key (tickS (tk0 M x) (j + 1))) (m_srt (tickS (tk0 M x) (j + 1))) (m_sd (tickS (tk0 M x) (j + 1))) (m_go (tickS (tk0 M x) (j + 1))) (m_seg (tickS (tk0 M x) (j + 1))) (m_la (tickS (tk0 M x) (j + 1))) (m_isN (tickS (tk0 M x) (j + 1))) (m_drp (tickS (tk0 M x) (j + 1))) (m_has (tickS (tk0 M x) (j + 1))) (m_sees (tickS (tk0 M x) (j + 1))) (m_isC (tickS (tk0 M x) (j + 1))) (m_isG (tickS (tk0 M x) (j + 1))) (m_ov (tickS (tk0 M x) (j + 1))) (m_st (tickS (tk0 M x) (j + 1))) (m_vo (tickS (tk0 M x) (j + 1))) (m_ko (tickS (tk0 M x) (j + 1))) (m_sl (tickS (tk0 M x) (j + 1))) (m_sc (tickS (tk0 M x) (j + 1))) (m_kp (tickS (tk0 M x) (j + 1))) (m_en (tickS (tk0 M x) (j + 1))) (m_pg (tickS (tk0 M x) (j + 1)))) := hDm
                    exact ih47 (j + 1) (k + 1) _ _ (by omega) (by omega) (by rw [hk]; simp only [tickC]; simp only [e0]; rfl) hP hD hS ls (lv_sub hl [2, 3, 1, 0] rfl)
        have hPm : va_P D vwCl (mW cI cJ cZ a (0) (lds) (mkM (m_n M) (m_sn M) (m_vn M) (m_rn M) (m_pn M) (m_nw M + ix x) (m_grp M) (m_key M) (m_srt M) (m_sd M) (m_go M) (m_seg M) (m_la M) (m_isN M) (m_drp M) (m_has M) (m_sees M) (m_isC M) (m_isG M) (m_ov M) (m_st M) (m_vo M) (m_ko M) (m_sl M) (m_sc M) (m_kp M) (m_en M) (m_pg M))) H := by rw [← mX_mk]; exact hP
        have hDm : va_D A (mW cI cJ cZ a (0) (lds) (mkM (m_n M) (m_sn M) (m_vn M) (m_rn M) (m_pn M) (m_nw M + ix x) (m_grp M) (m_key M) (m_srt M) (m_sd M) (m_go M) (m_seg M) (m_la M) (m_isN M) (m_drp M) (m_has M) (m_sees M) (m_isC M) (m_isG M) (m_ov M) (m_st M) (m_vo M) (m_ko M) (m_sl M) (m_sc M) (m_kp M) (m_en M) (m_pg M))) := by rw [← mX_mk]; exact hD
        have e9 : (mkM (m_n M) (m_sn M) (m_vn M) (m_rn M) (m_pn M) (m_nw M + ix x) (m_grp M) (m_key M) (m_srt M) (m_sd M) (m_go M) (m_seg M) (m_la M) (m_isN M) (m_drp M) (m_has M) (m_sees M) (m_isC M) (m_isG M) (m_ov M) (m_st M) (m_vo M) (m_ko M) (m_sl M) (m_sc M) (m_kp M) (m_en M) (m_pg M)) = (tickS (tk0 M x) 0) := rfl
        rw [e9] at hPm hDm
        have hP : va_P D vwCl (mX cI cJ cZ a (0) (lds) (m_n (tickS (tk0 M x) 0)) (m_sn (tickS (tk0 M x) 0)) (m_vn (tickS (tk0 M x) 0)) (m_rn (tickS (tk0 M x) 0)) (m_pn (tickS (tk0 M x) 0)) (m_nw (tickS (tk0 M x) 0)) (m_grp (tickS (tk0 M x) 0)) (m_key (tickS (tk0 M x) 0)) (m_srt (tickS (tk0 M x) 0)) (m_sd (tickS (tk0 M x) 0)) (m_go (tickS (tk0 M x) 0)) (m_seg (tickS (tk0 M x) 0)) (m_la (tickS (tk0 M x) 0)) (m_isN (tickS (tk0 M x) 0)) (m_drp (tickS (tk0 M x) 0)) (m_has (tickS (tk0 M x) 0)) (m_sees (tickS (tk0 M x) 0)) (m_isC (tickS (tk0 M x) 0)) (m_isG (tickS (tk0 M x) 0)) (m_ov (tickS (tk0 M x) 0)) (m_st (tickS (tk0 M x) 0)) (m_vo (tickS (tk0 M x) 0)) (m_ko (tickS (tk0 M x) 0)) (m_sl (tickS (tk0 M x) 0)) (m_sc (tickS (tk0 M x) 0)) (m_kp (tickS (tk0 M x) 0)) (m_en (tickS (tk0 M x) 0)) (m_pg (tickS (tk0 M x) 0))) H := hPm
        have hD : va_D A (mX cI cJ cZ a (0) (lds) (m_n (tickS (tk0 M x) 0)) (m_sn (tickS (tk0 M x) 0)) (m_vn (tickS (tk0 M x) 0)) (m_rn (tickS (tk0 M x) 0)) (m_pn (tickS (tk0 M x) 0)) (m_nw (tickS (tk0 M x) 0)) (m_grp (tickS (tk0 M x) 0)) (m_key (tickS (tk0 M x) 0)) (m_srt (tickS (tk0 M x) 0)) (m_sd (tickS (tk0 M x) 0)) (m_go (tickS (tk0 M x) 0)) (m_seg (tickS (tk0 M x) 0)) (m_la (tickS (tk0 M x) 0)) (m_isN (tickS (tk0 M x) 0)) (m_drp (tickS (tk0 M x) 0)) (m_has (tickS (tk0 M x) 0)) (m_sees (tickS (tk0 M x) 0)) (m_isC (tickS (tk0 M x) 0)) (m_isG (tickS (tk0 M x) 0)) (m_ov (tickS (tk0 M x) 0)) (m_st (tickS (tk0 M x) 0)) (m_vo (tickS (tk0 M x) 0)) (m_ko (tickS (tk0 M x) 0)) (m_sl (tickS (tk0 M x) 0)) (m_sc (tickS (tk0 M x) 0)) (m_kp (tickS (tk0 M x) 0)) (m_en (tickS (tk0 M x) 0)) (m_pg (tickS (tk0 M x) 0))) := hDm
        exact hlp47 _ (0) (0) _ _ (Nat.lt_succ_self _) (Nat.zero_le _) (rfl) hP hD hS ls (lv_sub hl [2, 3, 1, 0] rfl)
      · refine lv_aload_n hx hb dX6_tick_27 rfl (lv_at hl 0 rfl) ?_
        refine lv_iconst (v := nI (1)) hx hb dX6_tick_28 (by decide) ?_
        have hPm : va_P D vwCl (mW cI cJ cZ a (0) (lds) M) H := by exact hP
        have hDm : va_D A (mW cI cJ cZ a (0) (lds) M) := by exact hD
        refine wc_VWi (As := [.int (nI (1))]) (rest := []) (wf := mWu cI cJ cZ a) ⟨hx, hb, hml, hown, hts⟩ (c_X6_fails l D cI cJ cZ a (0) (lds) M hM (1) (by omega) H.size) (cwV 1 hts gX6_tick_X6_fails rfl rfl rfl (by decide +kernel) ⟨Nat.le_of_ble_eq_true rfl, Nat.le_of_ble_eq_true rfl⟩) hPm hK hDm hS hA 0 rfl rfl rfl hl.1 rfl (Nat.le_of_ble_eq_true rfl) dX6_tick_29 ⟨Nat.zero_le _, Nat.zero_le _⟩ (fun rr u11 hq11 H locs hP hD hS => ?_)
        obtain ⟨hr11, hu11⟩ := hq11
        subst hr11
        subst hu11
        have hP : va_P D vwCl (mX cI cJ cZ a (1) (lds) (m_n M) (m_sn M) (m_vn M) (m_rn M) (m_pn M) (m_nw M) (m_grp M) (m_key M) (m_srt M) (m_sd M) (m_go M) (m_seg M) (m_la M) (m_isN M) (m_drp M) (m_has M) (m_sees M) (m_isC M) (m_isG M) (m_ov M) (m_st M) (m_vo M) (m_ko M) (m_sl M) (m_sc M) (m_kp M) (m_en M) (m_pg M)) H := hP
        have hD : va_D A (mX cI cJ cZ a (1) (lds) (m_n M) (m_sn M) (m_vn M) (m_rn M) (m_pn M) (m_nw M) (m_grp M) (m_key M) (m_srt M) (m_sd M) (m_go M) (m_seg M) (m_la M) (m_isN M) (m_drp M) (m_has M) (m_sees M) (m_isC M) (m_isG M) (m_ov M) (m_st M) (m_vo M) (m_ko M) (m_sl M) (m_sc M) (m_kp M) (m_en M) (m_pg M)) := hD
        have hPm : va_P D vwCl (mW cI cJ cZ a (1) (lds) M) H := by exact hP
        have hDm : va_D A (mW cI cJ cZ a (1) (lds) M) := by exact hD
        exact W.iret (v := nI (0)) hx hb hr (fun t ht hW => ⟨⟨_, (1, lds, M), rfl, ⟨(by simp only [tickR]; (repeat' split) <;> first | rfl | (exfalso; omega)), (by simp only [tickT]; (repeat' split) <;> first | rfl | (exfalso; omega)), (by simp only [tickM]; (repeat' split) <;> first | rfl | (exfalso; omega))⟩, gb_mk ht hW hPm hK hDm⟩, hS.F ht⟩) hS.2.2 dX6_tick_32
def rm_X6_told : Room := { frames := 3, cells := 0, slots := 0, locals := 67 }
set_option maxHeartbeats 4000000 in
set_option maxRecDepth 100000 in
/-- what is told -/
theorem c_X6_told (l : Launch) (D : va_G) (cI cJ cZ : ClassId) (a : Nat → Nat) (th : Nat) (lds : Nat → Bool) (M : MT) (hM : mOk M) (x : Int32) (sz : Nat) : Met l yX6_told wsX6_told rm_X6_told (va_Pc [.ref (a 0), .int (x)] (GW D (tyW cI cJ cZ) (mW cI cJ cZ a (th) (lds) M) sz)) (va_Qi (fun rr u => rr = toldR M x ∧ u.1 = toldT x ∧ u.2.2 = M) (fun u => GB D (tyW cI cJ cZ) (va_A (mW cI cJ cZ a (th) (lds) M) sz) (mWu cI cJ cZ a u)) (va_A (mW cI cJ cZ a (th) (lds) M) sz)) 0 0 (va_A (mW cI cJ cZ a (th) (lds) M) sz) := by
  obtain ⟨hn, hsn, hvn, hrn, hpn, hnw, h_seg, h_la, h_st, h_vo, h_ko, h_sl, h_sc, h_kp, h_en, h_pg, hvo, hko, hsl, hsc⟩ := id hM
  have hixx := ix_c x
  refine Met.ofW (cc := cX6_told) (maxL := 4) (ret := (some .int)) (by decide) rfl ?_
  intro p e s m args below meth c s₁ B hml hv
  obtain ⟨rfl, hsz, hP, hK, hD0⟩ := hv
  have hx := B.exec
  have hb := B.bytes
  have hr := B.returns
  have hts := atoms_spec (ws := wsX6_told) B.pre
  have hown : s.vm.findClass RX6 = some m.cls := findClass_of_methodNamed B.named
  have hlocks := B.notSynchronized
  subst hsz
  have hD := hD0.self (sz := s.heap.size)
  generalize hAe : va_A (mW cI cJ cZ a (th) (lds) M) s.heap.size = A at hD ⊢
  have hA : ∀ q : Nat, s.heap.size ≤ q → A q := fun q h => by rw [← hAe]; exact Or.inr h
  have hS : va_S A s.heap s.heap [] := va_S.rf
  have hP : va_P D vwCl (mX cI cJ cZ a (th) (lds) (m_n M) (m_sn M) (m_vn M) (m_rn M) (m_pn M) (m_nw M) (m_grp M) (m_key M) (m_srt M) (m_sd M) (m_go M) (m_seg M) (m_la M) (m_isN M) (m_drp M) (m_has M) (m_sees M) (m_isC M) (m_isG M) (m_ov M) (m_st M) (m_vo M) (m_ko M) (m_sl M) (m_sc M) (m_kp M) (m_en M) (m_pg M)) s.heap := hP
  have hD : va_D A (mX cI cJ cZ a (th) (lds) (m_n M) (m_sn M) (m_vn M) (m_rn M) (m_pn M) (m_nw M) (m_grp M) (m_key M) (m_srt M) (m_sd M) (m_go M) (m_seg M) (m_la M) (m_isN M) (m_drp M) (m_has M) (m_sees M) (m_isC M) (m_isG M) (m_ov M) (m_st M) (m_vo M) (m_ko M) (m_sl M) (m_sc M) (m_kp M) (m_en M) (m_pg M)) := hD
  have hiX6 : ∀ w ∈ wsX60, w ∈ wsX6_told := by decide +kernel
  have hf0 := hts (.fieldLink RX6 81 "GroupCursorsModel" "thrown" "I") (by decide +kernel)
  have hf1 := hts (.fieldLink RX6 111 "GroupCursorsModel" "views" "I") (by decide +kernel)
  have hf2 := hts (.fieldLink RX6 134 "GroupCursorsModel" "readers" "I") (by decide +kernel)
  have hf3 := hts (.fieldLink RX6 69 "GroupCursorsModel" "isOver" "[Z") (by decide +kernel)
  have hf4 := hts (.fieldLink RX6 30 "GroupCursorsModel" "state" "[I") (by decide +kernel)
  have hf5 := hts (.fieldLink RX6 196 "GroupCursorsModel" "pages" "I") (by decide +kernel)
  have hf6 := hts (.fieldLink RX6 190 "GroupCursorsModel" "now" "I") (by decide +kernel)
  have hf7 := hts (.fieldLink RX6 121 "GroupCursorsModel" "segments" "I") (by decide +kernel)
  have hf8 := hts (.fieldLink RX6 97 "GroupCursorsModel" "objects" "I") (by decide +kernel)
  have hl := lv_entry ([.ref (a 0), .int (x)]) (n := 4) (Nat.le_of_ble_eq_true rfl)
  rw [lg_entry_eq]
  generalize (lg_sl ([.ref (a 0), .int (x)]) ++ List.replicate (4 - (lg_sl ([.ref (a 0), .int (x)])).length) Slot.unset).toArray = ls at hl ⊢
  have hl : lv_has ls 4 [(0, .ref (a 0)), (1, .int (x))] := hl
  refine lv_aload_n hx hb dX6_told_0 rfl (lv_at hl 0 rfl) ?_
  refine lv_iconst (v := nI (0)) hx hb dX6_told_1 (by decide) ?_
  refine va_put (ci := 6) (v := .int (nI (0))) (ty := .int) (C := RX6) (T := TX6) (N := 30) hx hb hts hiX6 tyX6 tyX6_ok nmX6 hown hK hP hD hS 0 rfl rfl 0 (by decide) hf0 (fun _ h9 => h9) rfl (by decide +kernel) rfl rfl (Nat.le_of_ble_eq_true rfl) dX6_told_2 (fun H locs hP hD hS => ?_)
  have hP : va_P D vwCl (mX cI cJ cZ a (0) (lds) (m_n M) (m_sn M) (m_vn M) (m_rn M) (m_pn M) (m_nw M) (m_grp M) (m_key M) (m_srt M) (m_sd M) (m_go M) (m_seg M) (m_la M) (m_isN M) (m_drp M) (m_has M) (m_sees M) (m_isC M) (m_isG M) (m_ov M) (m_st M) (m_vo M) (m_ko M) (m_sl M) (m_sc M) (m_kp M) (m_en M) (m_pg M)) H := hP
  have hD : va_D A (mX cI cJ cZ a (0) (lds) (m_n M) (m_sn M) (m_vn M) (m_rn M) (m_pn M) (m_nw M) (m_grp M) (m_key M) (m_srt M) (m_sd M) (m_go M) (m_seg M) (m_la M) (m_isN M) (m_drp M) (m_has M) (m_sees M) (m_isC M) (m_isG M) (m_ov M) (m_st M) (m_vo M) (m_ko M) (m_sl M) (m_sc M) (m_kp M) (m_en M) (m_pg M)) := hD
  refine lv_iload_n hx hb dX6_told_5 rfl (lv_at hl 1 rfl) ?_
  refine wz_if_lt (tgt := 15) hx hb ((x).toInt) rfl dX6_told_6 (by decide) (fun c6_1 => ?_) (fun c6_1 => ?_)
  · refine lv_aload_n hx hb dX6_told_15 rfl (lv_at hl 0 rfl) ?_
    refine lv_iconst (v := nI (1)) hx hb dX6_told_16 (by decide) ?_
    have hPm : va_P D vwCl (mW cI cJ cZ a (0) (lds) M) H := by exact hP
    have hDm : va_D A (mW cI cJ cZ a (0) (lds) M) := by exact hD
    refine wc_VWi (As := [.int (nI (1))]) (rest := []) (wf := mWu cI cJ cZ a) ⟨hx, hb, hml, hown, hts⟩ (c_X6_fails l D cI cJ cZ a (0) (lds) M hM (1) (by omega) H.size) (cwV 1 hts gX6_told_X6_fails rfl rfl rfl (by decide +kernel) ⟨Nat.le_of_ble_eq_true rfl, Nat.le_of_ble_eq_true rfl⟩) hPm hK hDm hS hA 0 rfl rfl rfl hl.1 rfl (Nat.le_of_ble_eq_true rfl) dX6_told_17 ⟨Nat.zero_le _, Nat.zero_le _⟩ (fun rr u2 hq2 H locs hP hD hS => ?_)
    obtain ⟨hr2, hu2⟩ := hq2
    subst hr2
    subst hu2
    have hP : va_P D vwCl (mX cI cJ cZ a (1) (lds) (m_n M) (m_sn M) (m_vn M) (m_rn M) (m_pn M) (m_nw M) (m_grp M) (m_key M) (m_srt M) (m_sd M) (m_go M) (m_seg M) (m_la M) (m_isN M) (m_drp M) (m_has M) (m_sees M) (m_isC M) (m_isG M) (m_ov M) (m_st M) (m_vo M) (m_ko M) (m_sl M) (m_sc M) (m_kp M) (m_en M) (m_pg M)) H := hP
    have hD : va_D A (mX cI cJ cZ a (1) (lds) (m_n M) (m_sn M) (m_vn M) (m_rn M) (m_pn M) (m_nw M) (m_grp M) (m_key M) (m_srt M) (m_sd M) (m_go M) (m_seg M) (m_la M) (m_isN M) (m_drp M) (m_has M) (m_sees M) (m_isC M) (m_isG M) (m_ov M) (m_st M) (m_vo M) (m_ko M) (m_sl M) (m_sc M) (m_kp M) (m_en M) (m_pg M)) := hD
    have hPm : va_P D vwCl (mW cI cJ cZ a (1) (lds) M) H := by exact hP
    have hDm : va_D A (mW cI cJ cZ a (1) (lds) M) := by exact hD
    exact W.iret (v := nI (0)) hx hb hr (fun t ht hW => ⟨⟨_, (1, lds, M), rfl, ⟨by simp only [toldR]; (repeat' split) <;> first | rfl | (exfalso; omega), by simp only [toldT]; (repeat' split) <;> first | rfl | (exfalso; omega), rfl⟩, gb_mk ht hW hPm hK hDm⟩, hS.F ht⟩) hS.2.2 dX6_told_20
  · refine lv_iload_n hx hb dX6_told_9 rfl (lv_at hl 1 rfl) ?_
    refine lv_bipush (v := nI (11)) hx hb dX6_told_10 (by decide) ?_
    refine wz_icmp_le (tgt := 21) hx hb ((x).toInt) (((11 : Nat) : Int)) rfl (nI_z (by omega)) dX6_told_12 (by decide) (fun c12_3 => ?_) (fun c12_3 => ?_)
    · refine lv_iload_n hx hb dX6_told_21 rfl (lv_at hl 1 rfl) ?_
      refine lv_bipush (v := nI (7)) hx hb dX6_told_22 (by decide) ?_
      refine wz_icmp_eq (tgt := 33) hx hb ((x).toInt) (((7 : Nat) : Int)) rfl (nI_z (by omega)) dX6_told_24 (by decide) (fun c24_4 => ?_) (fun c24_4 => ?_)
      · refine lv_iconst (v := nI (0)) hx hb dX6_told_33 (by decide) ?_
        refine lv_istore_n (lv' := [(2, .int (nI (0))), (0, .ref (a 0)), (1, .int (x))]) hx hb dX6_told_34 rfl hl (by decide) rfl (fun ls hl => ?_)
        refine lv_iconst (v := nI (0)) hx hb dX6_told_35 (by decide) ?_
        refine lv_istore_n (lv' := [(3, .int (nI (0))), (2, .int (nI (0))), (0, .ref (a 0)), (1, .int (x))]) hx hb dX6_told_36 rfl hl (by decide) rfl (fun ls hl => ?_)
        have hlp37 : ∀ (d : Nat) (i : Nat) (k : Nat), m_vn M - i < d → (i ≤ m_vn M) → (k = cnt (pGo M) i) → (x.toInt ≠ 7 → i = 0) → ∀ (ls : Array Slot), lv_has ls 4 [(0, .ref (a 0)), (1, .int (x)), (2, .int (nI (k))), (3, .int (nI (i)))] → W p l e (headSpec wsX6_told rm_X6_told).room s m ([.ref (a 0), .int (x)] : List Value).toArray below meth c H locs (0) (0) (MQ below (va_Qi (fun rr u => rr = toldR M x ∧ u.1 = toldT x ∧ u.2.2 = M) (fun u => GB D (tyW cI cJ cZ) A (mWu cI cJ cZ a u)) A) ([.ref (a 0), .int (x)] : List Value).toArray s 0 0 A) (F0 m 37 ls []) := by
          intro d
          induction d with
          | zero => intro i k  hd37; exact absurd hd37 (Nat.not_lt_zero _)
          | succ d ih37 =>
            intro i k  hd37 hik hk hz  ls hl
            have hcl := cnt_le (pGo M) i
            refine lv_iload_n hx hb dX6_told_37 rfl (lv_at hl 3 rfl) ?_
            refine lv_aload_n hx hb dX6_told_38 rfl (lv_at hl 0 rfl) ?_
            refine va_get (ci := 6) (v := .int (nI (m_vn M))) (C := RX6) (T := TX6) (N := 30) hx hb hts hiX6 hown hK hP 0 rfl rfl 9 (by decide) hf1 (fun _ h9 => h9) rfl dX6_told_39 ?_
            refine wn_icmp_ge (a := i) (b := m_vn M) (tgt := 75) hx hb (nI_z (by omega)) (nI_z (by omega)) dX6_told_42 (by decide) (fun c42_5 => ?_) (fun c42_5 => ?_)
            · refine lv_iconst (v := nI (0)) hx hb dX6_told_75 (by decide) ?_
              refine lv_istore_n (lv' := [(3, .int (nI (0))), (0, .ref (a 0)), (1, .int (x)), (2, .int (nI (k)))]) hx hb dX6_told_76 rfl hl (by decide) rfl (fun ls hl => ?_)
              have hlp77 : ∀ (d : Nat) (i2 : Nat) (k2 : Nat), m_rn M - i2 < d → (i2 ≤ m_rn M) → (k2 = k + cnt (pRun M) i2) → (x.toInt ≠ 9 → i2 = 0) → ∀ (ls : Array Slot), lv_has ls 4 [(0, .ref (a 0)), (1, .int (x)), (2, .int (nI (k2))), (3, .int (nI (i2)))] → W p l e (headSpec wsX6_told rm_X6_told).room s m ([.ref (a 0), .int (x)] : List Value).toArray below meth c H locs (0) (0) (MQ below (va_Qi (fun rr u => rr = toldR M x ∧ u.1 = toldT x ∧ u.2.2 = M) (fun u => GB D (tyW cI cJ cZ) A (mWu cI cJ cZ a u)) A) ([.ref (a 0), .int (x)] : List Value).toArray s 0 0 A) (F0 m 77 ls []) := by
                intro d
                induction d with
                | zero => intro i2 k2  hd77; exact absurd hd77 (Nat.not_lt_zero _)
                | succ d ih77 =>
                  intro i2 k2  hd77 hik2 hk2 hz2  ls hl
                  have hcl2 := cnt_le (pRun M) i2
                  refine lv_iload_n hx hb dX6_told_77 rfl (lv_at hl 3 rfl) ?_
                  refine lv_aload_n hx hb dX6_told_78 rfl (lv_at hl 0 rfl) ?_
                  refine va_get (ci := 6) (v := .int (nI (m_rn M))) (C := RX6) (T := TX6) (N := 30) hx hb hts hiX6 hown hK hP 0 rfl rfl 13 (by decide) hf2 (fun _ h9 => h9) rfl dX6_told_79 ?_
                  refine wn_icmp_ge (a := i2) (b := m_rn M) (tgt := 114) hx hb (nI_z (by omega)) (nI_z (by omega)) dX6_told_82 (by decide) (fun c82_6 => ?_) (fun c82_6 => ?_)
                  · refine lv_iload_n hx hb dX6_told_114 rfl (lv_at hl 2 rfl) ?_
                    have hPm : va_P D vwCl (mW cI cJ cZ a (0) (lds) M) H := by exact hP
                    have hDm : va_D A (mW cI cJ cZ a (0) (lds) M) := by exact hD
                    exact W.iret (v := nI (k2)) hx hb hr (fun t ht hW => ⟨⟨_, (0, lds, M), rfl, ⟨by rw [toldR, if_neg (by omega)]; exact told_end (by omega) (by omega) hz hz2 hk hk2 (by omega) (by omega), by rw [toldT, if_neg (by omega)], rfl⟩, gb_mk ht hW hPm hK hDm⟩, hS.F ht⟩) hS.2.2 dX6_told_115
                  · refine lv_iload_n hx hb dX6_told_85 rfl (lv_at hl 1 rfl) ?_
                    refine lv_bipush (v := nI (9)) hx hb dX6_told_86 (by decide) ?_
                    refine wz_icmp_ne (tgt := 114) hx hb ((x).toInt) (((9 : Nat) : Int)) rfl (nI_z (by omega)) dX6_told_88 (by decide) (fun c88_7 => ?_) (fun c88_7 => ?_)
                    · refine lv_iload_n hx hb dX6_told_114 rfl (lv_at hl 2 rfl) ?_
                      have hPm : va_P D vwCl (mW cI cJ cZ a (0) (lds) M) H := by exact hP
                      have hDm : va_D A (mW cI cJ cZ a (0) (lds) M) := by exact hD
                      exact W.iret (v := nI (k2)) hx hb hr (fun t ht hW => ⟨⟨_, (0, lds, M), rfl, ⟨by rw [toldR, if_neg (by omega)]; exact told_end (by omega) (by omega) hz hz2 hk hk2 (by omega) (by omega), by rw [toldT, if_neg (by omega)], rfl⟩, gb_mk ht hW hPm hK hDm⟩, hS.F ht⟩) hS.2.2 dX6_told_115
                    · refine lv_iload_n hx hb dX6_told_91 rfl (lv_at hl 2 rfl) ?_
                      refine lv_aload_n hx hb dX6_told_92 rfl (lv_at hl 0 rfl) ?_
                      refine va_get (ci := 6) (v := .ref (a 20)) (C := RX6) (T := TX6) (N := 30) hx hb hts hiX6 hown hK hP 0 rfl rfl 24 (by decide) hf3 (fun _ h9 => h9) rfl dX6_told_93 ?_
                      refine lv_iload_n hx hb dX6_told_96 rfl (lv_at hl 3 rfl) ?_
                      refine wa_z (i := i2) (v := bI (m_ov M i2)) hx hb hK hP 20 2 rfl rfl rfl (by omega) (by decide) dX6_told_97 ?_
                      refine wb_if_eq (tgt := 105) hx hb dX6_told_98 (by decide) (fun c98_8 => ?_) (fun c98_8 => ?_)
                      · refine lv_iconst (v := nI (1)) hx hb dX6_told_105 (by decide) ?_
                        refine lv_iadd hx hb dX6_told_106 (ww_top (y := nI (k2 + 1)) (nI_addn _ _) ?_)
                        refine lv_istore_n (lv' := [(2, .int (nI (k2 + 1))), (0, .ref (a 0)), (1, .int (x)), (3, .int (nI (i2)))]) hx hb dX6_told_107 rfl hl (by decide) rfl (fun ls hl => ?_)
                        refine lv_iinc (v := nI (i2 + 1)) (lv' := [(3, .int (nI (i2 + 1))), (2, .int (nI (k2 + 1))), (0, .ref (a 0)), (1, .int (x))]) hx hb dX6_told_108 hl (k := 3) rfl (nI_inc _) (by decide) rfl (fun ls hl => ?_)
                        refine lv_goto (tgt := 77) hx hb dX6_told_111 (by decide) ?_
                        exact ih77 (i2 + 1) (k2 + 1)  (by omega) (by omega) (by have e9 := cnt_t (P := pRun M) (i := i2) rfl (by simp [pRun, c98_8]); omega) (fun q => absurd q (by omega))  ls (lv_sub hl [2, 3, 1, 0] rfl)
                      · refine lv_iconst (v := nI (0)) hx hb dX6_told_101 (by decide) ?_
                        refine lv_goto (tgt := 106) hx hb dX6_told_102 (by decide) ?_
                        refine lv_iadd hx hb dX6_told_106 (ww_top (y := nI (k2 + 0)) (nI_addn _ _) ?_)
                        refine lv_istore_n (lv' := [(2, .int (nI (k2 + 0))), (0, .ref (a 0)), (1, .int (x)), (3, .int (nI (i2)))]) hx hb dX6_told_107 rfl hl (by decide) rfl (fun ls hl => ?_)
                        refine lv_iinc (v := nI (i2 + 1)) (lv' := [(3, .int (nI (i2 + 1))), (2, .int (nI (k2 + 0))), (0, .ref (a 0)), (1, .int (x))]) hx hb dX6_told_108 hl (k := 3) rfl (nI_inc _) (by decide) rfl (fun ls hl => ?_)
                        refine lv_goto (tgt := 77) hx hb dX6_told_111 (by decide) ?_
                        exact ih77 (i2 + 1) (k2 + 0)  (by omega) (by omega) (by have e9 := cnt_f (P := pRun M) (i := i2) rfl (by simp [pRun, c98_8]); omega) (fun q => absurd q (by omega))  ls (lv_sub hl [2, 3, 1, 0] rfl)
              exact hlp77 _ (0) (k)  (Nat.lt_succ_self _) (Nat.zero_le _) (rfl) (fun _ => rfl)  ls (lv_sub hl [1, 2, 3, 0] rfl)
            · refine lv_iload_n hx hb dX6_told_45 rfl (lv_at hl 1 rfl) ?_
              refine lv_bipush (v := nI (7)) hx hb dX6_told_46 (by decide) ?_
              refine wz_icmp_ne (tgt := 75) hx hb ((x).toInt) (((7 : Nat) : Int)) rfl (nI_z (by omega)) dX6_told_48 (by decide) (fun c48_9 => ?_) (fun c48_9 => ?_)
              · refine lv_iconst (v := nI (0)) hx hb dX6_told_75 (by decide) ?_
                refine lv_istore_n (lv' := [(3, .int (nI (0))), (0, .ref (a 0)), (1, .int (x)), (2, .int (nI (k)))]) hx hb dX6_told_76 rfl hl (by decide) rfl (fun ls hl => ?_)
                have hlp77 : ∀ (d : Nat) (i2 : Nat) (k2 : Nat), m_rn M - i2 < d → (i2 ≤ m_rn M) → (k2 = k + cnt (pRun M) i2) → (x.toInt ≠ 9 → i2 = 0) → ∀ (ls : Array Slot), lv_has ls 4 [(0, .ref (a 0)), (1, .int (x)), (2, .int (nI (k2))), (3, .int (nI (i2)))] → W p l e (headSpec wsX6_told rm_X6_told).room s m ([.ref (a 0), .int (x)] : List Value).toArray below meth c H locs (0) (0) (MQ below (va_Qi (fun rr u => rr = toldR M x ∧ u.1 = toldT x ∧ u.2.2 = M) (fun u => GB D (tyW cI cJ cZ) A (mWu cI cJ cZ a u)) A) ([.ref (a 0), .int (x)] : List Value).toArray s 0 0 A) (F0 m 77 ls []) := by
                  intro d
                  induction d with
                  | zero => intro i2 k2  hd77; exact absurd hd77 (Nat.not_lt_zero _)
                  | succ d ih77 =>
                    intro i2 k2  hd77 hik2 hk2 hz2  ls hl
                    have hcl2 := cnt_le (pRun M) i2
                    refine lv_iload_n hx hb dX6_told_77 rfl (lv_at hl 3 rfl) ?_
                    refine lv_aload_n hx hb dX6_told_78 rfl (lv_at hl 0 rfl) ?_
                    refine va_get (ci := 6) (v := .int (nI (m_rn M))) (C := RX6) (T := TX6) (N := 30) hx hb hts hiX6 hown hK hP 0 rfl rfl 13 (by decide) hf2 (fun _ h9 => h9) rfl dX6_told_79 ?_
                    refine wn_icmp_ge (a := i2) (b := m_rn M) (tgt := 114) hx hb (nI_z (by omega)) (nI_z (by omega)) dX6_told_82 (by decide) (fun c82_10 => ?_) (fun c82_10 => ?_)
                    · refine lv_iload_n hx hb dX6_told_114 rfl (lv_at hl 2 rfl) ?_
                      have hPm : va_P D vwCl (mW cI cJ cZ a (0) (lds) M) H := by exact hP
                      have hDm : va_D A (mW cI cJ cZ a (0) (lds) M) := by exact hD
                      exact W.iret (v := nI (k2)) hx hb hr (fun t ht hW => ⟨⟨_, (0, lds, M), rfl, ⟨by rw [toldR, if_neg (by omega)]; exact told_end (by omega) (by omega) hz hz2 hk hk2 (by omega) (by omega), by rw [toldT, if_neg (by omega)], rfl⟩, gb_mk ht hW hPm hK hDm⟩, hS.F ht⟩) hS.2.2 dX6_told_115
                    · refine lv_iload_n hx hb dX6_told_85 rfl (lv_at hl 1 rfl) ?_
                      refine lv_bipush (v := nI (9)) hx hb dX6_told_86 (by decide) ?_
                      refine wz_icmp_ne (tgt := 114) hx hb ((x).toInt) (((9 : Nat) : Int)) rfl (nI_z (by omega)) dX6_told_88 (by decide) (fun c88_11 => ?_) (fun c88_11 => ?_)
                      · refine lv_iload_n hx hb dX6_told_114 rfl (lv_at hl 2 rfl) ?_
                        have hPm : va_P D vwCl (mW cI cJ cZ a (0) (lds) M) H := by exact hP
                        have hDm : va_D A (mW cI cJ cZ a (0) (lds) M) := by exact hD
                        exact W.iret (v := nI (k2)) hx hb hr (fun t ht hW => ⟨⟨_, (0, lds, M), rfl, ⟨by rw [toldR, if_neg (by omega)]; exact told_end (by omega) (by omega) hz hz2 hk hk2 (by omega) (by omega), by rw [toldT, if_neg (by omega)], rfl⟩, gb_mk ht hW hPm hK hDm⟩, hS.F ht⟩) hS.2.2 dX6_told_115
                      · refine lv_iload_n hx hb dX6_told_91 rfl (lv_at hl 2 rfl) ?_
                        refine lv_aload_n hx hb dX6_told_92 rfl (lv_at hl 0 rfl) ?_
                        refine va_get (ci := 6) (v := .ref (a 20)) (C := RX6) (T := TX6) (N := 30) hx hb hts hiX6 hown hK hP 0 rfl rfl 24 (by decide) hf3 (fun _ h9 => h9) rfl dX6_told_93 ?_
                        refine lv_iload_n hx hb dX6_told_96 rfl (lv_at hl 3 rfl) ?_
                        refine wa_z (i := i2) (v := bI (m_ov M i2)) hx hb hK hP 20 2 rfl rfl rfl (by omega) (by decide) dX6_told_97 ?_
                        refine wb_if_eq (tgt := 105) hx hb dX6_told_98 (by decide) (fun c98_12 => ?_) (fun c98_12 => ?_)
                        · refine lv_iconst (v := nI (1)) hx hb dX6_told_105 (by decide) ?_
                          refine lv_iadd hx hb dX6_told_106 (ww_top (y := nI (k2 + 1)) (nI_addn _ _) ?_)
                          refine lv_istore_n (lv' := [(2, .int (nI (k2 + 1))), (0, .ref (a 0)), (1, .int (x)), (3, .int (nI (i2)))]) hx hb dX6_told_107 rfl hl (by decide) rfl (fun ls hl => ?_)
                          refine lv_iinc (v := nI (i2 + 1)) (lv' := [(3, .int (nI (i2 + 1))), (2, .int (nI (k2 + 1))), (0, .ref (a 0)), (1, .int (x))]) hx hb dX6_told_108 hl (k := 3) rfl (nI_inc _) (by decide) rfl (fun ls hl => ?_)
                          refine lv_goto (tgt := 77) hx hb dX6_told_111 (by decide) ?_
                          exact ih77 (i2 + 1) (k2 + 1)  (by omega) (by omega) (by have e9 := cnt_t (P := pRun M) (i := i2) rfl (by simp [pRun, c98_12]); omega) (fun q => absurd q (by omega))  ls (lv_sub hl [2, 3, 1, 0] rfl)
                        · refine lv_iconst (v := nI (0)) hx hb dX6_told_101 (by decide) ?_
                          refine lv_goto (tgt := 106) hx hb dX6_told_102 (by decide) ?_
                          refine lv_iadd hx hb dX6_told_106 (ww_top (y := nI (k2 + 0)) (nI_addn _ _) ?_)
                          refine lv_istore_n (lv' := [(2, .int (nI (k2 + 0))), (0, .ref (a 0)), (1, .int (x)), (3, .int (nI (i2)))]) hx hb dX6_told_107 rfl hl (by decide) rfl (fun ls hl => ?_)
                          refine lv_iinc (v := nI (i2 + 1)) (lv' := [(3, .int (nI (i2 + 1))), (2, .int (nI (k2 + 0))), (0, .ref (a 0)), (1, .int (x))]) hx hb dX6_told_108 hl (k := 3) rfl (nI_inc _) (by decide) rfl (fun ls hl => ?_)
                          refine lv_goto (tgt := 77) hx hb dX6_told_111 (by decide) ?_
                          exact ih77 (i2 + 1) (k2 + 0)  (by omega) (by omega) (by have e9 := cnt_f (P := pRun M) (i := i2) rfl (by simp [pRun, c98_12]); omega) (fun q => absurd q (by omega))  ls (lv_sub hl [2, 3, 1, 0] rfl)
                exact hlp77 _ (0) (k)  (Nat.lt_succ_self _) (Nat.zero_le _) (rfl) (fun _ => rfl)  ls (lv_sub hl [1, 2, 3, 0] rfl)
              · refine lv_iload_n hx hb dX6_told_51 rfl (lv_at hl 2 rfl) ?_
                refine lv_aload_n hx hb dX6_told_52 rfl (lv_at hl 0 rfl) ?_
                refine va_get (ci := 6) (v := .ref (a 7)) (C := RX6) (T := TX6) (N := 30) hx hb hts hiX6 hown hK hP 0 rfl rfl 10 (by decide) hf4 (fun _ h9 => h9) rfl dX6_told_53 ?_
                refine lv_iload_n hx hb dX6_told_56 rfl (lv_at hl 3 rfl) ?_
                refine wa_i (i := i) (v := nI (m_st M i)) hx hb hK hP 7 0 rfl rfl rfl (by omega) (by decide) dX6_told_57 ?_
                refine lv_iconst (v := nI (2)) hx hb dX6_told_58 (by decide) ?_
                refine wn_icmp_eq (a := m_st M i) (b := 2) (tgt := 66) hx hb (nr (h_st i)) (nI_z (by omega)) dX6_told_59 (by decide) (fun c59_13 => ?_) (fun c59_13 => ?_)
                · refine lv_iconst (v := nI (0)) hx hb dX6_told_66 (by decide) ?_
                  refine lv_iadd hx hb dX6_told_67 (ww_top (y := nI (k + 0)) (nI_addn _ _) ?_)
                  refine lv_istore_n (lv' := [(2, .int (nI (k + 0))), (0, .ref (a 0)), (1, .int (x)), (3, .int (nI (i)))]) hx hb dX6_told_68 rfl hl (by decide) rfl (fun ls hl => ?_)
                  refine lv_iinc (v := nI (i + 1)) (lv' := [(3, .int (nI (i + 1))), (2, .int (nI (k + 0))), (0, .ref (a 0)), (1, .int (x))]) hx hb dX6_told_69 hl (k := 3) rfl (nI_inc _) (by decide) rfl (fun ls hl => ?_)
                  refine lv_goto (tgt := 37) hx hb dX6_told_72 (by decide) ?_
                  exact ih37 (i + 1) (k + 0)  (by omega) (by omega) (cnt_f hk (by simp [pGo, c59_13])) (fun q => absurd q (by omega))  ls (lv_sub hl [2, 3, 1, 0] rfl)
                · refine lv_iconst (v := nI (1)) hx hb dX6_told_62 (by decide) ?_
                  refine lv_goto (tgt := 67) hx hb dX6_told_63 (by decide) ?_
                  refine lv_iadd hx hb dX6_told_67 (ww_top (y := nI (k + 1)) (nI_addn _ _) ?_)
                  refine lv_istore_n (lv' := [(2, .int (nI (k + 1))), (0, .ref (a 0)), (1, .int (x)), (3, .int (nI (i)))]) hx hb dX6_told_68 rfl hl (by decide) rfl (fun ls hl => ?_)
                  refine lv_iinc (v := nI (i + 1)) (lv' := [(3, .int (nI (i + 1))), (2, .int (nI (k + 1))), (0, .ref (a 0)), (1, .int (x))]) hx hb dX6_told_69 hl (k := 3) rfl (nI_inc _) (by decide) rfl (fun ls hl => ?_)
                  refine lv_goto (tgt := 37) hx hb dX6_told_72 (by decide) ?_
                  exact ih37 (i + 1) (k + 1)  (by omega) (by omega) (cnt_t hk (by simp [pGo, c59_13])) (fun q => absurd q (by omega))  ls (lv_sub hl [2, 3, 1, 0] rfl)
        exact hlp37 _ (0) (0)  (Nat.lt_succ_self _) (Nat.zero_le _) (rfl) (fun _ => rfl)  ls (lv_sub hl [2, 3, 1, 0] rfl)
      · refine lv_iload_n hx hb dX6_told_27 rfl (lv_at hl 1 rfl) ?_
        refine lv_bipush (v := nI (9)) hx hb dX6_told_28 (by decide) ?_
        refine wz_icmp_ne (tgt := 116) hx hb ((x).toInt) (((9 : Nat) : Int)) rfl (nI_z (by omega)) dX6_told_30 (by decide) (fun c30_14 => ?_) (fun c30_14 => ?_)
        · refine lv_iload_n hx hb dX6_told_116 rfl (lv_at hl 1 rfl) ?_
          refine wz_if_ne (tgt := 127) hx hb ((x).toInt) rfl dX6_told_117 (by decide) (fun c117_15 => ?_) (fun c117_15 => ?_)
          · refine lv_iload_n hx hb dX6_told_127 rfl (lv_at hl 1 rfl) ?_
            refine lv_iconst (v := nI (1)) hx hb dX6_told_128 (by decide) ?_
            refine wz_icmp_ne (tgt := 139) hx hb ((x).toInt) (((1 : Nat) : Int)) rfl (nI_z (by omega)) dX6_told_129 (by decide) (fun c129_16 => ?_) (fun c129_16 => ?_)
            · refine lv_iload_n hx hb dX6_told_139 rfl (lv_at hl 1 rfl) ?_
              refine lv_iconst (v := nI (2)) hx hb dX6_told_140 (by decide) ?_
              refine wz_icmp_ne (tgt := 151) hx hb ((x).toInt) (((2 : Nat) : Int)) rfl (nI_z (by omega)) dX6_told_141 (by decide) (fun c141_17 => ?_) (fun c141_17 => ?_)
              · refine lv_iload_n hx hb dX6_told_151 rfl (lv_at hl 1 rfl) ?_
                refine lv_bipush (v := nI (6)) hx hb dX6_told_152 (by decide) ?_
                refine wz_icmp_ge (tgt := 167) hx hb ((x).toInt) (((6 : Nat) : Int)) rfl (nI_z (by omega)) dX6_told_154 (by decide) (fun c154_18 => ?_) (fun c154_18 => ?_)
                · refine lv_iload_n hx hb dX6_told_167 rfl (lv_at hl 1 rfl) ?_
                  refine lv_bipush (v := nI (6)) hx hb dX6_told_168 (by decide) ?_
                  refine wz_icmp_ne (tgt := 180) hx hb ((x).toInt) (((6 : Nat) : Int)) rfl (nI_z (by omega)) dX6_told_170 (by decide) (fun c170_19 => ?_) (fun c170_19 => ?_)
                  · refine lv_iload_n hx hb dX6_told_180 rfl (lv_at hl 1 rfl) ?_
                    refine lv_bipush (v := nI (8)) hx hb dX6_told_181 (by decide) ?_
                    refine wz_icmp_ne (tgt := 193) hx hb ((x).toInt) (((8 : Nat) : Int)) rfl (nI_z (by omega)) dX6_told_183 (by decide) (fun c183_20 => ?_) (fun c183_20 => ?_)
                    · refine lv_iload_n hx hb dX6_told_193 rfl (lv_at hl 1 rfl) ?_
                      refine lv_bipush (v := nI (10)) hx hb dX6_told_194 (by decide) ?_
                      refine wz_icmp_ne (tgt := 206) hx hb ((x).toInt) (((10 : Nat) : Int)) rfl (nI_z (by omega)) dX6_told_196 (by decide) (fun c196_21 => ?_) (fun c196_21 => ?_)
                      · refine lv_aload_n hx hb dX6_told_206 rfl (lv_at hl 0 rfl) ?_
                        refine va_get (ci := 6) (v := .int (nI (m_pn M))) (C := RX6) (T := TX6) (N := 30) hx hb hts hiX6 hown hK hP 0 rfl rfl 28 (by decide) hf5 (fun _ h9 => h9) rfl dX6_told_207 ?_
                        have hPm : va_P D vwCl (mW cI cJ cZ a (0) (lds) M) H := by exact hP
                        have hDm : va_D A (mW cI cJ cZ a (0) (lds) M) := by exact hD
                        exact W.iret (v := nI (m_pn M)) hx hb hr (fun t ht hW => ⟨⟨_, (0, lds, M), rfl, ⟨by simp only [toldR]; (repeat' split) <;> first | rfl | (exfalso; omega), by simp only [toldT]; (repeat' split) <;> first | rfl | (exfalso; omega), rfl⟩, gb_mk ht hW hPm hK hDm⟩, hS.F ht⟩) hS.2.2 dX6_told_210
                      · refine lv_aload_n hx hb dX6_told_199 rfl (lv_at hl 0 rfl) ?_
                        refine va_get (ci := 6) (v := .int (nI (m_nw M))) (C := RX6) (T := TX6) (N := 30) hx hb hts hiX6 hown hK hP 0 rfl rfl 26 (by decide) hf6 (fun _ h9 => h9) rfl dX6_told_200 ?_
                        refine lv_goto (tgt := 210) hx hb dX6_told_203 (by decide) ?_
                        have hPm : va_P D vwCl (mW cI cJ cZ a (0) (lds) M) H := by exact hP
                        have hDm : va_D A (mW cI cJ cZ a (0) (lds) M) := by exact hD
                        exact W.iret (v := nI (m_nw M)) hx hb hr (fun t ht hW => ⟨⟨_, (0, lds, M), rfl, ⟨by simp only [toldR]; (repeat' split) <;> first | rfl | (exfalso; omega), by simp only [toldT]; (repeat' split) <;> first | rfl | (exfalso; omega), rfl⟩, gb_mk ht hW hPm hK hDm⟩, hS.F ht⟩) hS.2.2 dX6_told_210
                    · refine lv_aload_n hx hb dX6_told_186 rfl (lv_at hl 0 rfl) ?_
                      refine va_get (ci := 6) (v := .int (nI (m_rn M))) (C := RX6) (T := TX6) (N := 30) hx hb hts hiX6 hown hK hP 0 rfl rfl 13 (by decide) hf2 (fun _ h9 => h9) rfl dX6_told_187 ?_
                      refine lv_goto (tgt := 210) hx hb dX6_told_190 (by decide) ?_
                      have hPm : va_P D vwCl (mW cI cJ cZ a (0) (lds) M) H := by exact hP
                      have hDm : va_D A (mW cI cJ cZ a (0) (lds) M) := by exact hD
                      exact W.iret (v := nI (m_rn M)) hx hb hr (fun t ht hW => ⟨⟨_, (0, lds, M), rfl, ⟨by simp only [toldR]; (repeat' split) <;> first | rfl | (exfalso; omega), by simp only [toldT]; (repeat' split) <;> first | rfl | (exfalso; omega), rfl⟩, gb_mk ht hW hPm hK hDm⟩, hS.F ht⟩) hS.2.2 dX6_told_210
                  · refine lv_aload_n hx hb dX6_told_173 rfl (lv_at hl 0 rfl) ?_
                    refine va_get (ci := 6) (v := .int (nI (m_vn M))) (C := RX6) (T := TX6) (N := 30) hx hb hts hiX6 hown hK hP 0 rfl rfl 9 (by decide) hf1 (fun _ h9 => h9) rfl dX6_told_174 ?_
                    refine lv_goto (tgt := 210) hx hb dX6_told_177 (by decide) ?_
                    have hPm : va_P D vwCl (mW cI cJ cZ a (0) (lds) M) H := by exact hP
                    have hDm : va_D A (mW cI cJ cZ a (0) (lds) M) := by exact hD
                    exact W.iret (v := nI (m_vn M)) hx hb hr (fun t ht hW => ⟨⟨_, (0, lds, M), rfl, ⟨by simp only [toldR]; (repeat' split) <;> first | rfl | (exfalso; omega), by simp only [toldT]; (repeat' split) <;> first | rfl | (exfalso; omega), rfl⟩, gb_mk ht hW hPm hK hDm⟩, hS.F ht⟩) hS.2.2 dX6_told_210
                · refine lv_aload_n hx hb dX6_told_157 rfl (lv_at hl 0 rfl) ?_
                  refine lv_iload_n hx hb dX6_told_158 rfl (lv_at hl 1 rfl) ?_
                  refine lv_iconst (v := nI (3)) hx hb dX6_told_159 (by decide) ?_
                  refine lv_isub hx hb dX6_told_160 (ww_top (y := zI ((x).toInt - ((3 : Nat) : Int))) (iz_sub rfl (nI_z (by omega))) ?_)
                  refine ww_top (y := nI (ix x - 3)) (told_sub (by omega)) ?_
                  have hPm : va_P D vwCl (mW cI cJ cZ a (0) (lds) M) H := by exact hP
                  refine wc_Vi (As := [.int (nI (ix x - 3))]) (rest := []) ⟨hx, hb, hml, hown, hts⟩ (c_X6_countOf l D cI cJ cZ a (0) (lds) M hM (ix x - 3) (by omega)) (cwV 1 hts gX6_told_X6_countOf rfl rfl rfl (by decide +kernel) ⟨Nat.le_of_ble_eq_true rfl, Nat.le_of_ble_eq_true rfl⟩) hPm hK 0 rfl rfl rfl hl.1 rfl (Nat.le_of_ble_eq_true rfl) dX6_told_161 ⟨Nat.zero_le _, Nat.zero_le _⟩ (fun rr hq22 => ?_)
                  have hq22 : rr = nI (countOf M (ix x - 3)) := hq22
                  subst hq22
                  have hle23 : countOf M (ix x - 3) ≤ 40 := Nat.le_trans (cnt_le _ _) hsn
                  refine lv_goto (tgt := 210) hx hb dX6_told_164 (by decide) ?_
                  have hPm : va_P D vwCl (mW cI cJ cZ a (0) (lds) M) H := by exact hP
                  have hDm : va_D A (mW cI cJ cZ a (0) (lds) M) := by exact hD
                  exact W.iret (v := nI (countOf M (ix x - 3))) hx hb hr (fun t ht hW => ⟨⟨_, (0, lds, M), rfl, ⟨by simp only [toldR]; (repeat' split) <;> first | rfl | (exfalso; omega), by simp only [toldT]; (repeat' split) <;> first | rfl | (exfalso; omega), rfl⟩, gb_mk ht hW hPm hK hDm⟩, hS.F ht⟩) hS.2.2 dX6_told_210
              · refine lv_aload_n hx hb dX6_told_144 rfl (lv_at hl 0 rfl) ?_
                refine va_get (ci := 6) (v := .int (nI (m_sn M))) (C := RX6) (T := TX6) (N := 30) hx hb hts hiX6 hown hK hP 0 rfl rfl 8 (by decide) hf7 (fun _ h9 => h9) rfl dX6_told_145 ?_
                refine lv_goto (tgt := 210) hx hb dX6_told_148 (by decide) ?_
                have hPm : va_P D vwCl (mW cI cJ cZ a (0) (lds) M) H := by exact hP
                have hDm : va_D A (mW cI cJ cZ a (0) (lds) M) := by exact hD
                exact W.iret (v := nI (m_sn M)) hx hb hr (fun t ht hW => ⟨⟨_, (0, lds, M), rfl, ⟨by simp only [toldR]; (repeat' split) <;> first | rfl | (exfalso; omega), by simp only [toldT]; (repeat' split) <;> first | rfl | (exfalso; omega), rfl⟩, gb_mk ht hW hPm hK hDm⟩, hS.F ht⟩) hS.2.2 dX6_told_210
            · refine lv_aload_n hx hb dX6_told_132 rfl (lv_at hl 0 rfl) ?_
              have hPm : va_P D vwCl (mW cI cJ cZ a (0) (lds) M) H := by exact hP
              refine wc_Vi (As := []) (rest := []) ⟨hx, hb, hml, hown, hts⟩ (c_X6_newOnes l D cI cJ cZ a (0) (lds) M hM) (cwV 0 hts gX6_told_X6_newOnes rfl rfl rfl (by decide +kernel) ⟨Nat.le_of_ble_eq_true rfl, Nat.le_of_ble_eq_true rfl⟩) hPm hK 0 rfl rfl rfl hl.1 rfl (Nat.le_of_ble_eq_true rfl) dX6_told_133 ⟨Nat.zero_le _, Nat.zero_le _⟩ (fun rr hq24 => ?_)
              have hq24 : rr = nI (newOnes M) := hq24
              subst hq24
              have hle25 : newOnes M ≤ 300 := Nat.le_trans (cnt_le _ _) hn
              refine lv_goto (tgt := 210) hx hb dX6_told_136 (by decide) ?_
              have hPm : va_P D vwCl (mW cI cJ cZ a (0) (lds) M) H := by exact hP
              have hDm : va_D A (mW cI cJ cZ a (0) (lds) M) := by exact hD
              exact W.iret (v := nI (newOnes M)) hx hb hr (fun t ht hW => ⟨⟨_, (0, lds, M), rfl, ⟨by simp only [toldR]; (repeat' split) <;> first | rfl | (exfalso; omega), by simp only [toldT]; (repeat' split) <;> first | rfl | (exfalso; omega), rfl⟩, gb_mk ht hW hPm hK hDm⟩, hS.F ht⟩) hS.2.2 dX6_told_210
          · refine lv_aload_n hx hb dX6_told_120 rfl (lv_at hl 0 rfl) ?_
            refine va_get (ci := 6) (v := .int (nI (m_n M))) (C := RX6) (T := TX6) (N := 30) hx hb hts hiX6 hown hK hP 0 rfl rfl 1 (by decide) hf8 (fun _ h9 => h9) rfl dX6_told_121 ?_
            refine lv_goto (tgt := 210) hx hb dX6_told_124 (by decide) ?_
            have hPm : va_P D vwCl (mW cI cJ cZ a (0) (lds) M) H := by exact hP
            have hDm : va_D A (mW cI cJ cZ a (0) (lds) M) := by exact hD
            exact W.iret (v := nI (m_n M)) hx hb hr (fun t ht hW => ⟨⟨_, (0, lds, M), rfl, ⟨by simp only [toldR]; (repeat' split) <;> first | rfl | (exfalso; omega), by simp only [toldT]; (repeat' split) <;> first | rfl | (exfalso; omega), rfl⟩, gb_mk ht hW hPm hK hDm⟩, hS.F ht⟩) hS.2.2 dX6_told_210
        · refine lv_iconst (v := nI (0)) hx hb dX6_told_33 (by decide) ?_
          refine lv_istore_n (lv' := [(2, .int (nI (0))), (0, .ref (a 0)), (1, .int (x))]) hx hb dX6_told_34 rfl hl (by decide) rfl (fun ls hl => ?_)
          refine lv_iconst (v := nI (0)) hx hb dX6_told_35 (by decide) ?_
          refine lv_istore_n (lv' := [(3, .int (nI (0))), (2, .int (nI (0))), (0, .ref (a 0)), (1, .int (x))]) hx hb dX6_told_36 rfl hl (by decide) rfl (fun ls hl => ?_)
          have hlp37 : ∀ (d : Nat) (i : Nat) (k : Nat), m_vn M - i < d → (i ≤ m_vn M) → (k = cnt (pGo M) i) → (x.toInt ≠ 7 → i = 0) → ∀ (ls : Array Slot), lv_has ls 4 [(0, .ref (a 0)), (1, .int (x)), (2, .int (nI (k))), (3, .int (nI (i)))] → W p l e (headSpec wsX6_told rm_X6_told).room s m ([.ref (a 0), .int (x)] : List Value).toArray below meth c H locs (0) (0) (MQ below (va_Qi (fun rr u => rr = toldR M x ∧ u.1 = toldT x ∧ u.2.2 = M) (fun u => GB D (tyW cI cJ cZ) A (mWu cI cJ cZ a u)) A) ([.ref (a 0), .int (x)] : List Value).toArray s 0 0 A) (F0 m 37 ls []) := by
            intro d
            induction d with
            | zero => intro i k  hd37; exact absurd hd37 (Nat.not_lt_zero _)
            | succ d ih37 =>
              intro i k  hd37 hik hk hz  ls hl
              have hcl := cnt_le (pGo M) i
              refine lv_iload_n hx hb dX6_told_37 rfl (lv_at hl 3 rfl) ?_
              refine lv_aload_n hx hb dX6_told_38 rfl (lv_at hl 0 rfl) ?_
              refine va_get (ci := 6) (v := .int (nI (m_vn M))) (C := RX6) (T := TX6) (N := 30) hx hb hts hiX6 hown hK hP 0 rfl rfl 9 (by decide) hf1 (fun _ h9 => h9) rfl dX6_told_39 ?_
              refine wn_icmp_ge (a := i) (b := m_vn M) (tgt := 75) hx hb (nI_z (by omega)) (nI_z (by omega)) dX6_told_42 (by decide) (fun c42_26 => ?_) (fun c42_26 => ?_)
              · refine lv_iconst (v := nI (0)) hx hb dX6_told_75 (by decide) ?_
                refine lv_istore_n (lv' := [(3, .int (nI (0))), (0, .ref (a 0)), (1, .int (x)), (2, .int (nI (k)))]) hx hb dX6_told_76 rfl hl (by decide) rfl (fun ls hl => ?_)
                have hlp77 : ∀ (d : Nat) (i2 : Nat) (k2 : Nat), m_rn M - i2 < d → (i2 ≤ m_rn M) → (k2 = k + cnt (pRun M) i2) → (x.toInt ≠ 9 → i2 = 0) → ∀ (ls : Array Slot), lv_has ls 4 [(0, .ref (a 0)), (1, .int (x)), (2, .int (nI (k2))), (3, .int (nI (i2)))] → W p l e (headSpec wsX6_told rm_X6_told).room s m ([.ref (a 0), .int (x)] : List Value).toArray below meth c H locs (0) (0) (MQ below (va_Qi (fun rr u => rr = toldR M x ∧ u.1 = toldT x ∧ u.2.2 = M) (fun u => GB D (tyW cI cJ cZ) A (mWu cI cJ cZ a u)) A) ([.ref (a 0), .int (x)] : List Value).toArray s 0 0 A) (F0 m 77 ls []) := by
                  intro d
                  induction d with
                  | zero => intro i2 k2  hd77; exact absurd hd77 (Nat.not_lt_zero _)
                  | succ d ih77 =>
                    intro i2 k2  hd77 hik2 hk2 hz2  ls hl
                    have hcl2 := cnt_le (pRun M) i2
                    refine lv_iload_n hx hb dX6_told_77 rfl (lv_at hl 3 rfl) ?_
                    refine lv_aload_n hx hb dX6_told_78 rfl (lv_at hl 0 rfl) ?_
                    refine va_get (ci := 6) (v := .int (nI (m_rn M))) (C := RX6) (T := TX6) (N := 30) hx hb hts hiX6 hown hK hP 0 rfl rfl 13 (by decide) hf2 (fun _ h9 => h9) rfl dX6_told_79 ?_
                    refine wn_icmp_ge (a := i2) (b := m_rn M) (tgt := 114) hx hb (nI_z (by omega)) (nI_z (by omega)) dX6_told_82 (by decide) (fun c82_27 => ?_) (fun c82_27 => ?_)
                    · refine lv_iload_n hx hb dX6_told_114 rfl (lv_at hl 2 rfl) ?_
                      have hPm : va_P D vwCl (mW cI cJ cZ a (0) (lds) M) H := by exact hP
                      have hDm : va_D A (mW cI cJ cZ a (0) (lds) M) := by exact hD
                      exact W.iret (v := nI (k2)) hx hb hr (fun t ht hW => ⟨⟨_, (0, lds, M), rfl, ⟨by rw [toldR, if_neg (by omega)]; exact told_end (by omega) (by omega) hz hz2 hk hk2 (by omega) (by omega), by rw [toldT, if_neg (by omega)], rfl⟩, gb_mk ht hW hPm hK hDm⟩, hS.F ht⟩) hS.2.2 dX6_told_115
                    · refine lv_iload_n hx hb dX6_told_85 rfl (lv_at hl 1 rfl) ?_
                      refine lv_bipush (v := nI (9)) hx hb dX6_told_86 (by decide) ?_
                      refine wz_icmp_ne (tgt := 114) hx hb ((x).toInt) (((9 : Nat) : Int)) rfl (nI_z (by omega)) dX6_told_88 (by decide) (fun c88_28 => ?_) (fun c88_28 => ?_)
                      · refine lv_iload_n hx hb dX6_told_114 rfl (lv_at hl 2 rfl) ?_
                        have hPm : va_P D vwCl (mW cI cJ cZ a (0) (lds) M) H := by exact hP
                        have hDm : va_D A (mW cI cJ cZ a (0) (lds) M) := by exact hD
                        exact W.iret (v := nI (k2)) hx hb hr (fun t ht hW => ⟨⟨_, (0, lds, M), rfl, ⟨by rw [toldR, if_neg (by omega)]; exact told_end (by omega) (by omega) hz hz2 hk hk2 (by omega) (by omega), by rw [toldT, if_neg (by omega)], rfl⟩, gb_mk ht hW hPm hK hDm⟩, hS.F ht⟩) hS.2.2 dX6_told_115
                      · refine lv_iload_n hx hb dX6_told_91 rfl (lv_at hl 2 rfl) ?_
                        refine lv_aload_n hx hb dX6_told_92 rfl (lv_at hl 0 rfl) ?_
                        refine va_get (ci := 6) (v := .ref (a 20)) (C := RX6) (T := TX6) (N := 30) hx hb hts hiX6 hown hK hP 0 rfl rfl 24 (by decide) hf3 (fun _ h9 => h9) rfl dX6_told_93 ?_
                        refine lv_iload_n hx hb dX6_told_96 rfl (lv_at hl 3 rfl) ?_
                        refine wa_z (i := i2) (v := bI (m_ov M i2)) hx hb hK hP 20 2 rfl rfl rfl (by omega) (by decide) dX6_told_97 ?_
                        refine wb_if_eq (tgt := 105) hx hb dX6_told_98 (by decide) (fun c98_29 => ?_) (fun c98_29 => ?_)
                        · refine lv_iconst (v := nI (1)) hx hb dX6_told_105 (by decide) ?_
                          refine lv_iadd hx hb dX6_told_106 (ww_top (y := nI (k2 + 1)) (nI_addn _ _) ?_)
                          refine lv_istore_n (lv' := [(2, .int (nI (k2 + 1))), (0, .ref (a 0)), (1, .int (x)), (3, .int (nI (i2)))]) hx hb dX6_told_107 rfl hl (by decide) rfl (fun ls hl => ?_)
                          refine lv_iinc (v := nI (i2 + 1)) (lv' := [(3, .int (nI (i2 + 1))), (2, .int (nI (k2 + 1))), (0, .ref (a 0)), (1, .int (x))]) hx hb dX6_told_108 hl (k := 3) rfl (nI_inc _) (by decide) rfl (fun ls hl => ?_)
                          refine lv_goto (tgt := 77) hx hb dX6_told_111 (by decide) ?_
                          exact ih77 (i2 + 1) (k2 + 1)  (by omega) (by omega) (by have e9 := cnt_t (P := pRun M) (i := i2) rfl (by simp [pRun, c98_29]); omega) (fun q => absurd q (by omega))  ls (lv_sub hl [2, 3, 1, 0] rfl)
                        · refine lv_iconst (v := nI (0)) hx hb dX6_told_101 (by decide) ?_
                          refine lv_goto (tgt := 106) hx hb dX6_told_102 (by decide) ?_
                          refine lv_iadd hx hb dX6_told_106 (ww_top (y := nI (k2 + 0)) (nI_addn _ _) ?_)
                          refine lv_istore_n (lv' := [(2, .int (nI (k2 + 0))), (0, .ref (a 0)), (1, .int (x)), (3, .int (nI (i2)))]) hx hb dX6_told_107 rfl hl (by decide) rfl (fun ls hl => ?_)
                          refine lv_iinc (v := nI (i2 + 1)) (lv' := [(3, .int (nI (i2 + 1))), (2, .int (nI (k2 + 0))), (0, .ref (a 0)), (1, .int (x))]) hx hb dX6_told_108 hl (k := 3) rfl (nI_inc _) (by decide) rfl (fun ls hl => ?_)
                          refine lv_goto (tgt := 77) hx hb dX6_told_111 (by decide) ?_
                          exact ih77 (i2 + 1) (k2 + 0)  (by omega) (by omega) (by have e9 := cnt_f (P := pRun M) (i := i2) rfl (by simp [pRun, c98_29]); omega) (fun q => absurd q (by omega))  ls (lv_sub hl [2, 3, 1, 0] rfl)
                exact hlp77 _ (0) (k)  (Nat.lt_succ_self _) (Nat.zero_le _) (rfl) (fun _ => rfl)  ls (lv_sub hl [1, 2, 3, 0] rfl)
              · refine lv_iload_n hx hb dX6_told_45 rfl (lv_at hl 1 rfl) ?_
                refine lv_bipush (v := nI (7)) hx hb dX6_told_46 (by decide) ?_
                refine wz_icmp_ne (tgt := 75) hx hb ((x).toInt) (((7 : Nat) : Int)) rfl (nI_z (by omega)) dX6_told_48 (by decide) (fun c48_30 => ?_) (fun c48_30 => ?_)
                · refine lv_iconst (v := nI (0)) hx hb dX6_told_75 (by decide) ?_
                  refine lv_istore_n (lv' := [(3, .int (nI (0))), (0, .ref (a 0)), (1, .int (x)), (2, .int (nI (k)))]) hx hb dX6_told_76 rfl hl (by decide) rfl (fun ls hl => ?_)
                  have hlp77 : ∀ (d : Nat) (i2 : Nat) (k2 : Nat), m_rn M - i2 < d → (i2 ≤ m_rn M) → (k2 = k + cnt (pRun M) i2) → (x.toInt ≠ 9 → i2 = 0) → ∀ (ls : Array Slot), lv_has ls 4 [(0, .ref (a 0)), (1, .int (x)), (2, .int (nI (k2))), (3, .int (nI (i2)))] → W p l e (headSpec wsX6_told rm_X6_told).room s m ([.ref (a 0), .int (x)] : List Value).toArray below meth c H locs (0) (0) (MQ below (va_Qi (fun rr u => rr = toldR M x ∧ u.1 = toldT x ∧ u.2.2 = M) (fun u => GB D (tyW cI cJ cZ) A (mWu cI cJ cZ a u)) A) ([.ref (a 0), .int (x)] : List Value).toArray s 0 0 A) (F0 m 77 ls []) := by
                    intro d
                    induction d with
                    | zero => intro i2 k2  hd77; exact absurd hd77 (Nat.not_lt_zero _)
                    | succ d ih77 =>
                      intro i2 k2  hd77 hik2 hk2 hz2  ls hl
                      have hcl2 := cnt_le (pRun M) i2
                      refine lv_iload_n hx hb dX6_told_77 rfl (lv_at hl 3 rfl) ?_
                      refine lv_aload_n hx hb dX6_told_78 rfl (lv_at hl 0 rfl) ?_
                      refine va_get (ci := 6) (v := .int (nI (m_rn M))) (C := RX6) (T := TX6) (N := 30) hx hb hts hiX6 hown hK hP 0 rfl rfl 13 (by decide) hf2 (fun _ h9 => h9) rfl dX6_told_79 ?_
                      refine wn_icmp_ge (a := i2) (b := m_rn M) (tgt := 114) hx hb (nI_z (by omega)) (nI_z (by omega)) dX6_told_82 (by decide) (fun c82_31 => ?_) (fun c82_31 => ?_)
                      · refine lv_iload_n hx hb dX6_told_114 rfl (lv_at hl 2 rfl) ?_
                        have hPm : va_P D vwCl (mW cI cJ cZ a (0) (lds) M) H := by exact hP
                        have hDm : va_D A (mW cI cJ cZ a (0) (lds) M) := by exact hD
                        exact W.iret (v := nI (k2)) hx hb hr (fun t ht hW => ⟨⟨_, (0, lds, M), rfl, ⟨by rw [toldR, if_neg (by omega)]; exact told_end (by omega) (by omega) hz hz2 hk hk2 (by omega) (by omega), by rw [toldT, if_neg (by omega)], rfl⟩, gb_mk ht hW hPm hK hDm⟩, hS.F ht⟩) hS.2.2 dX6_told_115
                      · refine lv_iload_n hx hb dX6_told_85 rfl (lv_at hl 1 rfl) ?_
                        refine lv_bipush (v := nI (9)) hx hb dX6_told_86 (by decide) ?_
                        refine wz_icmp_ne (tgt := 114) hx hb ((x).toInt) (((9 : Nat) : Int)) rfl (nI_z (by omega)) dX6_told_88 (by decide) (fun c88_32 => ?_) (fun c88_32 => ?_)
                        · refine lv_iload_n hx hb dX6_told_114 rfl (lv_at hl 2 rfl) ?_
                          have hPm : va_P D vwCl (mW cI cJ cZ a (0) (lds) M) H := by exact hP
                          have hDm : va_D A (mW cI cJ cZ a (0) (lds) M) := by exact hD
                          exact W.iret (v := nI (k2)) hx hb hr (fun t ht hW => ⟨⟨_, (0, lds, M), rfl, ⟨by rw [toldR, if_neg (by omega)]; exact told_end (by omega) (by omega) hz hz2 hk hk2 (by omega) (by omega), by rw [toldT, if_neg (by omega)], rfl⟩, gb_mk ht hW hPm hK hDm⟩, hS.F ht⟩) hS.2.2 dX6_told_115
                        · refine lv_iload_n hx hb dX6_told_91 rfl (lv_at hl 2 rfl) ?_
                          refine lv_aload_n hx hb dX6_told_92 rfl (lv_at hl 0 rfl) ?_
                          refine va_get (ci := 6) (v := .ref (a 20)) (C := RX6) (T := TX6) (N := 30) hx hb hts hiX6 hown hK hP 0 rfl rfl 24 (by decide) hf3 (fun _ h9 => h9) rfl dX6_told_93 ?_
                          refine lv_iload_n hx hb dX6_told_96 rfl (lv_at hl 3 rfl) ?_
                          refine wa_z (i := i2) (v := bI (m_ov M i2)) hx hb hK hP 20 2 rfl rfl rfl (by omega) (by decide) dX6_told_97 ?_
                          refine wb_if_eq (tgt := 105) hx hb dX6_told_98 (by decide) (fun c98_33 => ?_) (fun c98_33 => ?_)
                          · refine lv_iconst (v := nI (1)) hx hb dX6_told_105 (by decide) ?_
                            refine lv_iadd hx hb dX6_told_106 (ww_top (y := nI (k2 + 1)) (nI_addn _ _) ?_)
                            refine lv_istore_n (lv' := [(2, .int (nI (k2 + 1))), (0, .ref (a 0)), (1, .int (x)), (3, .int (nI (i2)))]) hx hb dX6_told_107 rfl hl (by decide) rfl (fun ls hl => ?_)
                            refine lv_iinc (v := nI (i2 + 1)) (lv' := [(3, .int (nI (i2 + 1))), (2, .int (nI (k2 + 1))), (0, .ref (a 0)), (1, .int (x))]) hx hb dX6_told_108 hl (k := 3) rfl (nI_inc _) (by decide) rfl (fun ls hl => ?_)
                            refine lv_goto (tgt := 77) hx hb dX6_told_111 (by decide) ?_
                            exact ih77 (i2 + 1) (k2 + 1)  (by omega) (by omega) (by have e9 := cnt_t (P := pRun M) (i := i2) rfl (by simp [pRun, c98_33]); omega) (fun q => absurd q (by omega))  ls (lv_sub hl [2, 3, 1, 0] rfl)
                          · refine lv_iconst (v := nI (0)) hx hb dX6_told_101 (by decide) ?_
                            refine lv_goto (tgt := 106) hx hb dX6_told_102 (by decide) ?_
                            refine lv_iadd hx hb dX6_told_106 (ww_top (y := nI (k2 + 0)) (nI_addn _ _) ?_)
                            refine lv_istore_n (lv' := [(2, .int (nI (k2 + 0))), (0, .ref (a 0)), (1, .int (x)), (3, .int (nI (i2)))]) hx hb dX6_told_107 rfl hl (by decide) rfl (fun ls hl => ?_)
                            refine lv_iinc (v := nI (i2 + 1)) (lv' := [(3, .int (nI (i2 + 1))), (2, .int (nI (k2 + 0))), (0, .ref (a 0)), (1, .int (x))]) hx hb dX6_told_108 hl (k := 3) rfl (nI_inc _) (by decide) rfl (fun ls hl => ?_)
                            refine lv_goto (tgt := 77) hx hb dX6_told_111 (by decide) ?_
                            exact ih77 (i2 + 1) (k2 + 0)  (by omega) (by omega) (by have e9 := cnt_f (P := pRun M) (i := i2) rfl (by simp [pRun, c98_33]); omega) (fun q => absurd q (by omega))  ls (lv_sub hl [2, 3, 1, 0] rfl)
                  exact hlp77 _ (0) (k)  (Nat.lt_succ_self _) (Nat.zero_le _) (rfl) (fun _ => rfl)  ls (lv_sub hl [1, 2, 3, 0] rfl)
                · refine lv_iload_n hx hb dX6_told_51 rfl (lv_at hl 2 rfl) ?_
                  refine lv_aload_n hx hb dX6_told_52 rfl (lv_at hl 0 rfl) ?_
                  refine va_get (ci := 6) (v := .ref (a 7)) (C := RX6) (T := TX6) (N := 30) hx hb hts hiX6 hown hK hP 0 rfl rfl 10 (by decide) hf4 (fun _ h9 => h9) rfl dX6_told_53 ?_
                  refine lv_iload_n hx hb dX6_told_56 rfl (lv_at hl 3 rfl) ?_
                  refine wa_i (i := i) (v := nI (m_st M i)) hx hb hK hP 7 0 rfl rfl rfl (by omega) (by decide) dX6_told_57 ?_
                  refine lv_iconst (v := nI (2)) hx hb dX6_told_58 (by decide) ?_
                  refine wn_icmp_eq (a := m_st M i) (b := 2) (tgt := 66) hx hb (nr (h_st i)) (nI_z (by omega)) dX6_told_59 (by decide) (fun c59_34 => ?_) (fun c59_34 => ?_)
                  · refine lv_iconst (v := nI (0)) hx hb dX6_told_66 (by decide) ?_
                    refine lv_iadd hx hb dX6_told_67 (ww_top (y := nI (k + 0)) (nI_addn _ _) ?_)
                    refine lv_istore_n (lv' := [(2, .int (nI (k + 0))), (0, .ref (a 0)), (1, .int (x)), (3, .int (nI (i)))]) hx hb dX6_told_68 rfl hl (by decide) rfl (fun ls hl => ?_)
                    refine lv_iinc (v := nI (i + 1)) (lv' := [(3, .int (nI (i + 1))), (2, .int (nI (k + 0))), (0, .ref (a 0)), (1, .int (x))]) hx hb dX6_told_69 hl (k := 3) rfl (nI_inc _) (by decide) rfl (fun ls hl => ?_)
                    refine lv_goto (tgt := 37) hx hb dX6_told_72 (by decide) ?_
                    exact ih37 (i + 1) (k + 0)  (by omega) (by omega) (cnt_f hk (by simp [pGo, c59_34])) (fun q => absurd q (by omega))  ls (lv_sub hl [2, 3, 1, 0] rfl)
                  · refine lv_iconst (v := nI (1)) hx hb dX6_told_62 (by decide) ?_
                    refine lv_goto (tgt := 67) hx hb dX6_told_63 (by decide) ?_
                    refine lv_iadd hx hb dX6_told_67 (ww_top (y := nI (k + 1)) (nI_addn _ _) ?_)
                    refine lv_istore_n (lv' := [(2, .int (nI (k + 1))), (0, .ref (a 0)), (1, .int (x)), (3, .int (nI (i)))]) hx hb dX6_told_68 rfl hl (by decide) rfl (fun ls hl => ?_)
                    refine lv_iinc (v := nI (i + 1)) (lv' := [(3, .int (nI (i + 1))), (2, .int (nI (k + 1))), (0, .ref (a 0)), (1, .int (x))]) hx hb dX6_told_69 hl (k := 3) rfl (nI_inc _) (by decide) rfl (fun ls hl => ?_)
                    refine lv_goto (tgt := 37) hx hb dX6_told_72 (by decide) ?_
                    exact ih37 (i + 1) (k + 1)  (by omega) (by omega) (cnt_t hk (by simp [pGo, c59_34])) (fun q => absurd q (by omega))  ls (lv_sub hl [2, 3, 1, 0] rfl)
          exact hlp37 _ (0) (0)  (Nat.lt_succ_self _) (Nat.zero_le _) (rfl) (fun _ => rfl)  ls (lv_sub hl [2, 3, 1, 0] rfl)
    · refine lv_aload_n hx hb dX6_told_15 rfl (lv_at hl 0 rfl) ?_
      refine lv_iconst (v := nI (1)) hx hb dX6_told_16 (by decide) ?_
      have hPm : va_P D vwCl (mW cI cJ cZ a (0) (lds) M) H := by exact hP
      have hDm : va_D A (mW cI cJ cZ a (0) (lds) M) := by exact hD
      refine wc_VWi (As := [.int (nI (1))]) (rest := []) (wf := mWu cI cJ cZ a) ⟨hx, hb, hml, hown, hts⟩ (c_X6_fails l D cI cJ cZ a (0) (lds) M hM (1) (by omega) H.size) (cwV 1 hts gX6_told_X6_fails rfl rfl rfl (by decide +kernel) ⟨Nat.le_of_ble_eq_true rfl, Nat.le_of_ble_eq_true rfl⟩) hPm hK hDm hS hA 0 rfl rfl rfl hl.1 rfl (Nat.le_of_ble_eq_true rfl) dX6_told_17 ⟨Nat.zero_le _, Nat.zero_le _⟩ (fun rr u35 hq35 H locs hP hD hS => ?_)
      obtain ⟨hr35, hu35⟩ := hq35
      subst hr35
      subst hu35
      have hP : va_P D vwCl (mX cI cJ cZ a (1) (lds) (m_n M) (m_sn M) (m_vn M) (m_rn M) (m_pn M) (m_nw M) (m_grp M) (m_key M) (m_srt M) (m_sd M) (m_go M) (m_seg M) (m_la M) (m_isN M) (m_drp M) (m_has M) (m_sees M) (m_isC M) (m_isG M) (m_ov M) (m_st M) (m_vo M) (m_ko M) (m_sl M) (m_sc M) (m_kp M) (m_en M) (m_pg M)) H := hP
      have hD : va_D A (mX cI cJ cZ a (1) (lds) (m_n M) (m_sn M) (m_vn M) (m_rn M) (m_pn M) (m_nw M) (m_grp M) (m_key M) (m_srt M) (m_sd M) (m_go M) (m_seg M) (m_la M) (m_isN M) (m_drp M) (m_has M) (m_sees M) (m_isC M) (m_isG M) (m_ov M) (m_st M) (m_vo M) (m_ko M) (m_sl M) (m_sc M) (m_kp M) (m_en M) (m_pg M)) := hD
      have hPm : va_P D vwCl (mW cI cJ cZ a (1) (lds) M) H := by exact hP
      have hDm : va_D A (mW cI cJ cZ a (1) (lds) M) := by exact hD
      exact W.iret (v := nI (0)) hx hb hr (fun t ht hW => ⟨⟨_, (1, lds, M), rfl, ⟨by simp only [toldR]; (repeat' split) <;> first | rfl | (exfalso; omega), by simp only [toldT]; (repeat' split) <;> first | rfl | (exfalso; omega), rfl⟩, gb_mk ht hW hPm hK hDm⟩, hS.F ht⟩) hS.2.2 dX6_told_20
