def rm_X6_letGo : Room := { frames := 3, cells := 0, slots := 0, locals := 67 }
set_option maxHeartbeats 4000000 in
set_option maxRecDepth 100000 in
/-- a view is let go -/
theorem c_X6_letGo (l : Launch) (D : va_G) (cI cJ cZ : ClassId) (a : Nat → Nat) (th : Nat) (lds : Nat → Bool) (M : MT) (hM : mOk M) (x : Int32) (sz : Nat) : Met l yX6_letGo wsX6_letGo rm_X6_letGo (va_Pc [.ref (a 0), .int (x)] (GW D (tyW cI cJ cZ) (mW cI cJ cZ a (th) (lds) M) sz)) (va_Qi (fun rr u => rr = letGoR M x ∧ u.1 = letGoT M x ∧ u.2.2 = letGoM M x) (fun u => GB D (tyW cI cJ cZ) (va_A (mW cI cJ cZ a (th) (lds) M) sz) (mWu cI cJ cZ a u)) (va_A (mW cI cJ cZ a (th) (lds) M) sz)) 0 0 (va_A (mW cI cJ cZ a (th) (lds) M) sz) := by
  obtain ⟨hn, hsn, hvn, hrn, hpn, hnw, h_seg, h_la, h_st, h_vo, h_ko, h_sl, h_sc, h_kp, h_en, h_pg, hvo, hko, hsl, hsc⟩ := id hM
  have hixx := ix_c x
  refine Met.ofW (cc := cX6_letGo) (maxL := 3) (ret := (some .int)) (by decide) rfl ?_
  intro p e s m args below meth c s₁ B hml hv
  obtain ⟨rfl, hsz, hP, hK, hD0⟩ := hv
  have hx := B.exec
  have hb := B.bytes
  have hr := B.returns
  have hts := atoms_spec (ws := wsX6_letGo) B.pre
  have hown : s.vm.findClass RX6 = some m.cls := findClass_of_methodNamed B.named
  have hlocks := B.notSynchronized
  subst hsz
  have hD := hD0.self (sz := s.heap.size)
  generalize hAe : va_A (mW cI cJ cZ a (th) (lds) M) s.heap.size = A at hD ⊢
  have hA : ∀ q : Nat, s.heap.size ≤ q → A q := fun q h => by rw [← hAe]; exact Or.inr h
  have hS : va_S A s.heap s.heap [] := va_S.rf
  have hP : va_P D vwCl (mX cI cJ cZ a (th) (lds) (m_n M) (m_sn M) (m_vn M) (m_rn M) (m_pn M) (m_nw M) (m_grp M) (m_key M) (m_srt M) (m_sd M) (m_go M) (m_seg M) (m_la M) (m_isN M) (m_drp M) (m_has M) (m_sees M) (m_isC M) (m_isG M) (m_ov M) (m_st M) (m_vo M) (m_ko M) (m_sl M) (m_sc M) (m_kp M) (m_en M) (m_pg M)) s.heap := hP
  have hD : va_D A (mX cI cJ cZ a (th) (lds) (m_n M) (m_sn M) (m_vn M) (m_rn M) (m_pn M) (m_nw M) (m_grp M) (m_key M) (m_srt M) (m_sd M) (m_go M) (m_seg M) (m_la M) (m_isN M) (m_drp M) (m_has M) (m_sees M) (m_isC M) (m_isG M) (m_ov M) (m_st M) (m_vo M) (m_ko M) (m_sl M) (m_sc M) (m_kp M) (m_en M) (m_pg M)) := hD
  have hiX6 : ∀ w ∈ wsX60, w ∈ wsX6_letGo := by decide +kernel
  have hf0 := hts (.fieldLink RX6 81 "GroupCursorsModel" "thrown" "I") (by decide +kernel)
  have hf1 := hts (.fieldLink RX6 30 "GroupCursorsModel" "state" "[I") (by decide +kernel)
  have hl := lv_entry ([.ref (a 0), .int (x)]) (n := 3) (Nat.le_of_ble_eq_true rfl)
  rw [lg_entry_eq]
  generalize (lg_sl ([.ref (a 0), .int (x)]) ++ List.replicate (3 - (lg_sl ([.ref (a 0), .int (x)])).length) Slot.unset).toArray = ls at hl ⊢
  have hl : lv_has ls 3 [(0, .ref (a 0)), (1, .int (x))] := hl
  refine lv_aload_n hx hb dX6_letGo_0 rfl (lv_at hl 0 rfl) ?_
  refine lv_iconst (v := nI (0)) hx hb dX6_letGo_1 (by decide) ?_
  refine va_put (ci := 6) (v := .int (nI (0))) (ty := .int) (C := RX6) (T := TX6) (N := 30) hx hb hts hiX6 tyX6 tyX6_ok nmX6 hown hK hP hD hS 0 rfl rfl 0 (by decide) hf0 (fun _ h9 => h9) rfl (by decide +kernel) rfl rfl (Nat.le_of_ble_eq_true rfl) dX6_letGo_2 (fun H locs hP hD hS => ?_)
  have hP : va_P D vwCl (mX cI cJ cZ a (0) (lds) (m_n M) (m_sn M) (m_vn M) (m_rn M) (m_pn M) (m_nw M) (m_grp M) (m_key M) (m_srt M) (m_sd M) (m_go M) (m_seg M) (m_la M) (m_isN M) (m_drp M) (m_has M) (m_sees M) (m_isC M) (m_isG M) (m_ov M) (m_st M) (m_vo M) (m_ko M) (m_sl M) (m_sc M) (m_kp M) (m_en M) (m_pg M)) H := hP
  have hD : va_D A (mX cI cJ cZ a (0) (lds) (m_n M) (m_sn M) (m_vn M) (m_rn M) (m_pn M) (m_nw M) (m_grp M) (m_key M) (m_srt M) (m_sd M) (m_go M) (m_seg M) (m_la M) (m_isN M) (m_drp M) (m_has M) (m_sees M) (m_isC M) (m_isG M) (m_ov M) (m_st M) (m_vo M) (m_ko M) (m_sl M) (m_sc M) (m_kp M) (m_en M) (m_pg M)) := hD
  refine lv_aload_n hx hb dX6_letGo_5 rfl (lv_at hl 0 rfl) ?_
  refine lv_iload_n hx hb dX6_letGo_6 rfl (lv_at hl 1 rfl) ?_
  have hPm : va_P D vwCl (mW cI cJ cZ a (0) (lds) M) H := by exact hP
  refine wc_Vi (As := [.int (x)]) (rest := []) ⟨hx, hb, hml, hown, hts⟩ (c_X6_isView l D cI cJ cZ a (0) (lds) M hM (x)) (cwV 1 hts gX6_letGo_X6_isView rfl rfl rfl (by decide +kernel) ⟨Nat.le_of_ble_eq_true rfl, Nat.le_of_ble_eq_true rfl⟩) hPm hK 0 rfl rfl rfl hl.1 rfl (Nat.le_of_ble_eq_true rfl) dX6_letGo_7 ⟨Nat.zero_le _, Nat.zero_le _⟩ (fun rr hq1 => ?_)
  have hq1 : rr = bI (decide (0 ≤ (x).toInt ∧ (x).toInt < (m_vn M : Int))) := hq1
  subst hq1
  refine wb_if_ne (tgt := 19) hx hb dX6_letGo_10 (by decide) (fun c10_2 => ?_) (fun c10_2 => ?_)
  · have c10_2p := of_decide_eq_true c10_2
    refine lv_aload_n hx hb dX6_letGo_19 rfl (lv_at hl 0 rfl) ?_
    refine va_get (ci := 6) (v := .ref (a 7)) (C := RX6) (T := TX6) (N := 30) hx hb hts hiX6 hown hK hP 0 rfl rfl 10 (by decide) hf1 (fun _ h9 => h9) rfl dX6_letGo_20 ?_
    refine lv_iload_n hx hb dX6_letGo_23 rfl (lv_at hl 1 rfl) ?_
    refine ww_top (y := nI (ix x)) (ix_n (by omega)) ?_
    refine wa_i (i := ix x) (v := nI (m_st M (ix x))) hx hb hK hP 7 0 rfl rfl rfl (by omega) (by decide) dX6_letGo_24 ?_
    refine wn_if_eq (a := m_st M (ix x)) (tgt := 34) hx hb (nr (h_st (ix x))) dX6_letGo_25 (by decide) (fun c25_3 => ?_) (fun c25_3 => ?_)
    · refine lv_aload_n hx hb dX6_letGo_34 rfl (lv_at hl 0 rfl) ?_
      refine lv_iconst (v := nI (2)) hx hb dX6_letGo_35 (by decide) ?_
      have hPm : va_P D vwCl (mW cI cJ cZ a (0) (lds) M) H := by exact hP
      refine wc_Vi (As := [.int (nI (2))]) (rest := []) ⟨hx, hb, hml, hown, hts⟩ (c_X6_countOf l D cI cJ cZ a (0) (lds) M hM (2) (by omega)) (cwV 1 hts gX6_letGo_X6_countOf rfl rfl rfl (by decide +kernel) ⟨Nat.le_of_ble_eq_true rfl, Nat.le_of_ble_eq_true rfl⟩) hPm hK 0 rfl rfl rfl hl.1 rfl (Nat.le_of_ble_eq_true rfl) dX6_letGo_36 ⟨Nat.zero_le _, Nat.zero_le _⟩ (fun rr hq4 => ?_)
      have hq4 : rr = nI (countOf M 2) := hq4
      subst hq4
      have hle5 : countOf M 2 ≤ 40 := Nat.le_trans (cnt_le _ _) hsn
      refine lv_istore_n (lv' := [(2, .int (nI (countOf M 2))), (0, .ref (a 0)), (1, .int (x))]) hx hb dX6_letGo_39 rfl hl (by decide) rfl (fun ls hl => ?_)
      refine lv_aload_n hx hb dX6_letGo_40 rfl (lv_at hl 1 rfl) ?_
      refine va_get (ci := 6) (v := .ref (a 7)) (C := RX6) (T := TX6) (N := 30) hx hb hts hiX6 hown hK hP 0 rfl rfl 10 (by decide) hf1 (fun _ h9 => h9) rfl dX6_letGo_41 ?_
      refine lv_iload_n hx hb dX6_letGo_44 rfl (lv_at hl 2 rfl) ?_
      refine ww_top (y := nI (ix x)) (ix_n (by omega)) ?_
      refine lv_iconst (v := nI (1)) hx hb dX6_letGo_45 (by decide) ?_
      refine wa_ist (i := ix x) hx hb hK hP hD hS 7 0 rfl rfl (upd_nI (m_st M) (ix x) (1)) (by omega) (by decide) dX6_letGo_46 (fun H locs hP hD hS => ?_)
      have hP : va_P D vwCl (mX cI cJ cZ a (0) (lds) (m_n M) (m_sn M) (m_vn M) (m_rn M) (m_pn M) (m_nw M) (m_grp M) (m_key M) (m_srt M) (m_sd M) (m_go M) (m_seg M) (m_la M) (m_isN M) (m_drp M) (m_has M) (m_sees M) (m_isC M) (m_isG M) (m_ov M) (va_up (m_st M) (ix x) (1)) (m_vo M) (m_ko M) (m_sl M) (m_sc M) (m_kp M) (m_en M) (m_pg M)) H := hP
      have hD : va_D A (mX cI cJ cZ a (0) (lds) (m_n M) (m_sn M) (m_vn M) (m_rn M) (m_pn M) (m_nw M) (m_grp M) (m_key M) (m_srt M) (m_sd M) (m_go M) (m_seg M) (m_la M) (m_isN M) (m_drp M) (m_has M) (m_sees M) (m_isC M) (m_isG M) (m_ov M) (va_up (m_st M) (ix x) (1)) (m_vo M) (m_ko M) (m_sl M) (m_sc M) (m_kp M) (m_en M) (m_pg M)) := hD
      have hP : va_P D vwCl (mX cI cJ cZ a (0) (lds) (m_n (letGo1 M x)) (m_sn (letGo1 M x)) (m_vn (letGo1 M x)) (m_rn (letGo1 M x)) (m_pn (letGo1 M x)) (m_nw (letGo1 M x)) (m_grp (letGo1 M x)) (m_key (letGo1 M x)) (m_srt (letGo1 M x)) (m_sd (letGo1 M x)) (m_go (letGo1 M x)) (m_seg (letGo1 M x)) (m_la (letGo1 M x)) (m_isN (letGo1 M x)) (m_drp (letGo1 M x)) (m_has (letGo1 M x)) (m_sees (letGo1 M x)) (m_isC (letGo1 M x)) (m_isG (letGo1 M x)) (m_ov (letGo1 M x)) (m_st (letGo1 M x)) (m_vo (letGo1 M x)) (m_ko (letGo1 M x)) (m_sl (letGo1 M x)) (m_sc (letGo1 M x)) (m_kp (letGo1 M x)) (m_en (letGo1 M x)) (m_pg (letGo1 M x))) H := hP
      have hD : va_D A (mX cI cJ cZ a (0) (lds) (m_n (letGo1 M x)) (m_sn (letGo1 M x)) (m_vn (letGo1 M x)) (m_rn (letGo1 M x)) (m_pn (letGo1 M x)) (m_nw (letGo1 M x)) (m_grp (letGo1 M x)) (m_key (letGo1 M x)) (m_srt (letGo1 M x)) (m_sd (letGo1 M x)) (m_go (letGo1 M x)) (m_seg (letGo1 M x)) (m_la (letGo1 M x)) (m_isN (letGo1 M x)) (m_drp (letGo1 M x)) (m_has (letGo1 M x)) (m_sees (letGo1 M x)) (m_isC (letGo1 M x)) (m_isG (letGo1 M x)) (m_ov (letGo1 M x)) (m_st (letGo1 M x)) (m_vo (letGo1 M x)) (m_ko (letGo1 M x)) (m_sl (letGo1 M x)) (m_sc (letGo1 M x)) (m_kp (letGo1 M x)) (m_en (letGo1 M x)) (m_pg (letGo1 M x))) := hD
      refine lv_aload_n hx hb dX6_letGo_47 rfl (lv_at hl 1 rfl) ?_
      refine lv_iload_n hx hb dX6_letGo_48 rfl (lv_at hl 2 rfl) ?_
      refine ww_top (y := nI (ix x)) (ix_n (by omega)) ?_
      have hPm : va_P D vwCl (mW cI cJ cZ a (0) (lds) (letGo1 M x)) H := by exact hP
      have hDm : va_D A (mW cI cJ cZ a (0) (lds) (letGo1 M x)) := by exact hD
      refine wc_VWv (As := [.int (nI (ix x))]) (rest := []) (wf := mWu cI cJ cZ a) ⟨hx, hb, hml, hown, hts⟩ (c_X6_settle l D cI cJ cZ a (0) (lds) (letGo1 M x) (ok_letGo1 hM x) (ix x) (by omega) H.size) (cwV 1 hts gX6_letGo_X6_settle rfl rfl rfl (by decide +kernel) ⟨Nat.le_of_ble_eq_true rfl, Nat.le_of_ble_eq_true rfl⟩) hPm hK hDm hS hA 0 rfl rfl rfl hl.1 rfl (Nat.le_of_ble_eq_true rfl) dX6_letGo_49 ⟨Nat.zero_le _, Nat.zero_le _⟩ (fun u6 hq6 H locs hP hD hS => ?_)
      obtain ⟨hu6a, hu6b, hu6c⟩ := hq6
      obtain ⟨u61, u62, u63⟩ := u6
      dsimp only at hu6a hu6b hu6c
      have hu6a := hu6a.symm
      have hu6b := hu6b.symm
      have hu6c := hu6c.symm
      subst hu6a
      subst hu6b
      subst hu6c
      have hP : va_P D vwCl (mX cI cJ cZ a (0) (lds) (m_n (settleM (letGo1 M x) (ix x))) (m_sn (settleM (letGo1 M x) (ix x))) (m_vn (settleM (letGo1 M x) (ix x))) (m_rn (settleM (letGo1 M x) (ix x))) (m_pn (settleM (letGo1 M x) (ix x))) (m_nw (settleM (letGo1 M x) (ix x))) (m_grp (settleM (letGo1 M x) (ix x))) (m_key (settleM (letGo1 M x) (ix x))) (m_srt (settleM (letGo1 M x) (ix x))) (m_sd (settleM (letGo1 M x) (ix x))) (m_go (settleM (letGo1 M x) (ix x))) (m_seg (settleM (letGo1 M x) (ix x))) (m_la (settleM (letGo1 M x) (ix x))) (m_isN (settleM (letGo1 M x) (ix x))) (m_drp (settleM (letGo1 M x) (ix x))) (m_has (settleM (letGo1 M x) (ix x))) (m_sees (settleM (letGo1 M x) (ix x))) (m_isC (settleM (letGo1 M x) (ix x))) (m_isG (settleM (letGo1 M x) (ix x))) (m_ov (settleM (letGo1 M x) (ix x))) (m_st (settleM (letGo1 M x) (ix x))) (m_vo (settleM (letGo1 M x) (ix x))) (m_ko (settleM (letGo1 M x) (ix x))) (m_sl (settleM (letGo1 M x) (ix x))) (m_sc (settleM (letGo1 M x) (ix x))) (m_kp (settleM (letGo1 M x) (ix x))) (m_en (settleM (letGo1 M x) (ix x))) (m_pg (settleM (letGo1 M x) (ix x)))) H := hP
      have hD : va_D A (mX cI cJ cZ a (0) (lds) (m_n (settleM (letGo1 M x) (ix x))) (m_sn (settleM (letGo1 M x) (ix x))) (m_vn (settleM (letGo1 M x) (ix x))) (m_rn (settleM (letGo1 M x) (ix x))) (m_pn (settleM (letGo1 M x) (ix x))) (m_nw (settleM (letGo1 M x) (ix x))) (m_grp (settleM (letGo1 M x) (ix x))) (m_key (settleM (letGo1 M x) (ix x))) (m_srt (settleM (letGo1 M x) (ix x))) (m_sd (settleM (letGo1 M x) (ix x))) (m_go (settleM (letGo1 M x) (ix x))) (m_seg (settleM (letGo1 M x) (ix x))) (m_la (settleM (letGo1 M x) (ix x))) (m_isN (settleM (letGo1 M x) (ix x))) (m_drp (settleM (letGo1 M x) (ix x))) (m_has (settleM (letGo1 M x) (ix x))) (m_sees (settleM (letGo1 M x) (ix x))) (m_isC (settleM (letGo1 M x) (ix x))) (m_isG (settleM (letGo1 M x) (ix x))) (m_ov (settleM (letGo1 M x) (ix x))) (m_st (settleM (letGo1 M x) (ix x))) (m_vo (settleM (letGo1 M x) (ix x))) (m_ko (settleM (letGo1 M x) (ix x))) (m_sl (settleM (letGo1 M x) (ix x))) (m_sc (settleM (letGo1 M x) (ix x))) (m_kp (settleM (letGo1 M x) (ix x))) (m_en (settleM (letGo1 M x) (ix x))) (m_pg (settleM (letGo1 M x) (ix x)))) := hD
      have hM5 := (ok_settle (ok_letGo1 hM x) (ix x))
      have hsn5 : m_sn (settleM (letGo1 M x) (ix x)) ≤ 40 := hM5.2.1
      refine lv_aload_n hx hb dX6_letGo_52 rfl (lv_at hl 1 rfl) ?_
      refine lv_iconst (v := nI (2)) hx hb dX6_letGo_53 (by decide) ?_
      have hPm : va_P D vwCl (mW cI cJ cZ a (0) (lds) (settleM (letGo1 M x) (ix x))) H := by exact hP
      refine wc_Vi (As := [.int (nI (2))]) (rest := []) ⟨hx, hb, hml, hown, hts⟩ (c_X6_countOf l D cI cJ cZ a (0) (lds) (settleM (letGo1 M x) (ix x)) (ok_settle (ok_letGo1 hM x) _) (2) (by omega)) (cwV 1 hts gX6_letGo_X6_countOf rfl rfl rfl (by decide +kernel) ⟨Nat.le_of_ble_eq_true rfl, Nat.le_of_ble_eq_true rfl⟩) hPm hK 0 rfl rfl rfl hl.1 rfl (Nat.le_of_ble_eq_true rfl) dX6_letGo_54 ⟨Nat.zero_le _, Nat.zero_le _⟩ (fun rr hq7 => ?_)
      have hq7 : rr = nI (countOf (settleM (letGo1 M x) (ix x)) 2) := hq7
      subst hq7
      have hle8 : countOf (settleM (letGo1 M x) (ix x)) 2 ≤ 40 := Nat.le_trans (cnt_le _ _) hsn5
      refine lv_iload_n hx hb dX6_letGo_57 rfl (lv_at hl 0 rfl) ?_
      refine lv_isub hx hb dX6_letGo_58 (ww_top (y := zI (((countOf (settleM (letGo1 M x) (ix x)) 2 : Nat) : Int) - ((countOf M 2 : Nat) : Int))) (nz_sub _ _) ?_)
      have hPm : va_P D vwCl (mW cI cJ cZ a (0) (lds) (settleM (letGo1 M x) (ix x))) H := by exact hP
      have hDm : va_D A (mW cI cJ cZ a (0) (lds) (settleM (letGo1 M x) (ix x))) := by exact hD
      exact W.iret (v := zI (((countOf (settleM (letGo1 M x) (ix x)) 2 : Nat) : Int) - ((countOf M 2 : Nat) : Int))) hx hb hr (fun t ht hW => ⟨⟨_, (0, lds, (settleM (letGo1 M x) (ix x))), rfl, ⟨(by simp only [letGoR]; (repeat' split) <;> first | rfl | (exfalso; omega)), (by simp only [letGoT]; (repeat' split) <;> first | rfl | (exfalso; omega)), (by simp only [letGoM]; (repeat' split) <;> first | rfl | (exfalso; omega))⟩, gb_mk ht hW hPm hK hDm⟩, hS.F ht⟩) hS.2.2 dX6_letGo_59
    · refine lv_aload_n hx hb dX6_letGo_28 rfl (lv_at hl 0 rfl) ?_
      refine lv_iconst (v := nI (2)) hx hb dX6_letGo_29 (by decide) ?_
      have hPm : va_P D vwCl (mW cI cJ cZ a (0) (lds) M) H := by exact hP
      have hDm : va_D A (mW cI cJ cZ a (0) (lds) M) := by exact hD
      refine wc_VWi (As := [.int (nI (2))]) (rest := []) (wf := mWu cI cJ cZ a) ⟨hx, hb, hml, hown, hts⟩ (c_X6_fails l D cI cJ cZ a (0) (lds) M hM (2) (by omega) H.size) (cwV 1 hts gX6_letGo_X6_fails rfl rfl rfl (by decide +kernel) ⟨Nat.le_of_ble_eq_true rfl, Nat.le_of_ble_eq_true rfl⟩) hPm hK hDm hS hA 0 rfl rfl rfl hl.1 rfl (Nat.le_of_ble_eq_true rfl) dX6_letGo_30 ⟨Nat.zero_le _, Nat.zero_le _⟩ (fun rr u9 hq9 H locs hP hD hS => ?_)
      obtain ⟨hr9, hu9⟩ := hq9
      subst hr9
      subst hu9
      have hP : va_P D vwCl (mX cI cJ cZ a (2) (lds) (m_n M) (m_sn M) (m_vn M) (m_rn M) (m_pn M) (m_nw M) (m_grp M) (m_key M) (m_srt M) (m_sd M) (m_go M) (m_seg M) (m_la M) (m_isN M) (m_drp M) (m_has M) (m_sees M) (m_isC M) (m_isG M) (m_ov M) (m_st M) (m_vo M) (m_ko M) (m_sl M) (m_sc M) (m_kp M) (m_en M) (m_pg M)) H := hP
      have hD : va_D A (mX cI cJ cZ a (2) (lds) (m_n M) (m_sn M) (m_vn M) (m_rn M) (m_pn M) (m_nw M) (m_grp M) (m_key M) (m_srt M) (m_sd M) (m_go M) (m_seg M) (m_la M) (m_isN M) (m_drp M) (m_has M) (m_sees M) (m_isC M) (m_isG M) (m_ov M) (m_st M) (m_vo M) (m_ko M) (m_sl M) (m_sc M) (m_kp M) (m_en M) (m_pg M)) := hD
      have hPm : va_P D vwCl (mW cI cJ cZ a (2) (lds) M) H := by exact hP
      have hDm : va_D A (mW cI cJ cZ a (2) (lds) M) := by exact hD
      exact W.iret (v := nI (0)) hx hb hr (fun t ht hW => ⟨⟨_, (2, lds, M), rfl, ⟨(by simp only [letGoR]; (repeat' split) <;> first | rfl | (exfalso; omega)), (by simp only [letGoT]; (repeat' split) <;> first | rfl | (exfalso; omega)), (by simp only [letGoM]; (repeat' split) <;> first | rfl | (exfalso; omega))⟩, gb_mk ht hW hPm hK hDm⟩, hS.F ht⟩) hS.2.2 dX6_letGo_33
  · have c10_2p := of_decide_eq_false c10_2
    refine lv_aload_n hx hb dX6_letGo_13 rfl (lv_at hl 0 rfl) ?_
    refine lv_iconst (v := nI (1)) hx hb dX6_letGo_14 (by decide) ?_
    have hPm : va_P D vwCl (mW cI cJ cZ a (0) (lds) M) H := by exact hP
    have hDm : va_D A (mW cI cJ cZ a (0) (lds) M) := by exact hD
    refine wc_VWi (As := [.int (nI (1))]) (rest := []) (wf := mWu cI cJ cZ a) ⟨hx, hb, hml, hown, hts⟩ (c_X6_fails l D cI cJ cZ a (0) (lds) M hM (1) (by omega) H.size) (cwV 1 hts gX6_letGo_X6_fails rfl rfl rfl (by decide +kernel) ⟨Nat.le_of_ble_eq_true rfl, Nat.le_of_ble_eq_true rfl⟩) hPm hK hDm hS hA 0 rfl rfl rfl hl.1 rfl (Nat.le_of_ble_eq_true rfl) dX6_letGo_15 ⟨Nat.zero_le _, Nat.zero_le _⟩ (fun rr u10 hq10 H locs hP hD hS => ?_)
    obtain ⟨hr10, hu10⟩ := hq10
    subst hr10
    subst hu10
    have hP : va_P D vwCl (mX cI cJ cZ a (1) (lds) (m_n M) (m_sn M) (m_vn M) (m_rn M) (m_pn M) (m_nw M) (m_grp M) (m_key M) (m_srt M) (m_sd M) (m_go M) (m_seg M) (m_la M) (m_isN M) (m_drp M) (m_has M) (m_sees M) (m_isC M) (m_isG M) (m_ov M) (m_st M) (m_vo M) (m_ko M) (m_sl M) (m_sc M) (m_kp M) (m_en M) (m_pg M)) H := hP
    have hD : va_D A (mX cI cJ cZ a (1) (lds) (m_n M) (m_sn M) (m_vn M) (m_rn M) (m_pn M) (m_nw M) (m_grp M) (m_key M) (m_srt M) (m_sd M) (m_go M) (m_seg M) (m_la M) (m_isN M) (m_drp M) (m_has M) (m_sees M) (m_isC M) (m_isG M) (m_ov M) (m_st M) (m_vo M) (m_ko M) (m_sl M) (m_sc M) (m_kp M) (m_en M) (m_pg M)) := hD
    have hPm : va_P D vwCl (mW cI cJ cZ a (1) (lds) M) H := by exact hP
    have hDm : va_D A (mW cI cJ cZ a (1) (lds) M) := by exact hD
    exact W.iret (v := nI (0)) hx hb hr (fun t ht hW => ⟨⟨_, (1, lds, M), rfl, ⟨(by simp only [letGoR]; (repeat' split) <;> first | rfl | (exfalso; omega)), (by simp only [letGoT]; (repeat' split) <;> first | rfl | (exfalso; omega)), (by simp only [letGoM]; (repeat' split) <;> first | rfl | (exfalso; omega))⟩, gb_mk ht hW hPm hK hDm⟩, hS.F ht⟩) hS.2.2 dX6_letGo_18
def rm_X6_state : Room := { frames := 1, cells := 0, slots := 0, locals := 21 }
set_option maxHeartbeats 4000000 in
set_option maxRecDepth 100000 in
/-- a view's state -/
theorem c_X6_state (l : Launch) (D : va_G) (cI cJ cZ : ClassId) (a : Nat → Nat) (th : Nat) (lds : Nat → Bool) (M : MT) (hM : mOk M) (x : Int32) (sz : Nat) : Met l yX6_state wsX6_state rm_X6_state (va_Pc [.ref (a 0), .int (x)] (GW D (tyW cI cJ cZ) (mW cI cJ cZ a (th) (lds) M) sz)) (va_Qi (fun rr u => rr = stateR M x ∧ u.1 = vT M x ∧ u.2.2 = M) (fun u => GB D (tyW cI cJ cZ) (va_A (mW cI cJ cZ a (th) (lds) M) sz) (mWu cI cJ cZ a u)) (va_A (mW cI cJ cZ a (th) (lds) M) sz)) 0 0 (va_A (mW cI cJ cZ a (th) (lds) M) sz) := by
  obtain ⟨hn, hsn, hvn, hrn, hpn, hnw, h_seg, h_la, h_st, h_vo, h_ko, h_sl, h_sc, h_kp, h_en, h_pg, hvo, hko, hsl, hsc⟩ := id hM
  have hixx := ix_c x
  refine Met.ofW (cc := cX6_state) (maxL := 2) (ret := (some .int)) (by decide) rfl ?_
  intro p e s m args below meth c s₁ B hml hv
  obtain ⟨rfl, hsz, hP, hK, hD0⟩ := hv
  have hx := B.exec
  have hb := B.bytes
  have hr := B.returns
  have hts := atoms_spec (ws := wsX6_state) B.pre
  have hown : s.vm.findClass RX6 = some m.cls := findClass_of_methodNamed B.named
  have hlocks := B.notSynchronized
  subst hsz
  have hD := hD0.self (sz := s.heap.size)
  generalize hAe : va_A (mW cI cJ cZ a (th) (lds) M) s.heap.size = A at hD ⊢
  have hA : ∀ q : Nat, s.heap.size ≤ q → A q := fun q h => by rw [← hAe]; exact Or.inr h
  have hS : va_S A s.heap s.heap [] := va_S.rf
  have hP : va_P D vwCl (mX cI cJ cZ a (th) (lds) (m_n M) (m_sn M) (m_vn M) (m_rn M) (m_pn M) (m_nw M) (m_grp M) (m_key M) (m_srt M) (m_sd M) (m_go M) (m_seg M) (m_la M) (m_isN M) (m_drp M) (m_has M) (m_sees M) (m_isC M) (m_isG M) (m_ov M) (m_st M) (m_vo M) (m_ko M) (m_sl M) (m_sc M) (m_kp M) (m_en M) (m_pg M)) s.heap := hP
  have hD : va_D A (mX cI cJ cZ a (th) (lds) (m_n M) (m_sn M) (m_vn M) (m_rn M) (m_pn M) (m_nw M) (m_grp M) (m_key M) (m_srt M) (m_sd M) (m_go M) (m_seg M) (m_la M) (m_isN M) (m_drp M) (m_has M) (m_sees M) (m_isC M) (m_isG M) (m_ov M) (m_st M) (m_vo M) (m_ko M) (m_sl M) (m_sc M) (m_kp M) (m_en M) (m_pg M)) := hD
  have hiX6 : ∀ w ∈ wsX60, w ∈ wsX6_state := by decide +kernel
  have hf0 := hts (.fieldLink RX6 81 "GroupCursorsModel" "thrown" "I") (by decide +kernel)
  have hf1 := hts (.fieldLink RX6 30 "GroupCursorsModel" "state" "[I") (by decide +kernel)
  have hl := lv_entry ([.ref (a 0), .int (x)]) (n := 2) (Nat.le_of_ble_eq_true rfl)
  rw [lg_entry_eq]
  generalize (lg_sl ([.ref (a 0), .int (x)]) ++ List.replicate (2 - (lg_sl ([.ref (a 0), .int (x)])).length) Slot.unset).toArray = ls at hl ⊢
  have hl : lv_has ls 2 [(0, .ref (a 0)), (1, .int (x))] := hl
  refine lv_aload_n hx hb dX6_state_0 rfl (lv_at hl 0 rfl) ?_
  refine lv_iconst (v := nI (0)) hx hb dX6_state_1 (by decide) ?_
  refine va_put (ci := 6) (v := .int (nI (0))) (ty := .int) (C := RX6) (T := TX6) (N := 30) hx hb hts hiX6 tyX6 tyX6_ok nmX6 hown hK hP hD hS 0 rfl rfl 0 (by decide) hf0 (fun _ h9 => h9) rfl (by decide +kernel) rfl rfl (Nat.le_of_ble_eq_true rfl) dX6_state_2 (fun H locs hP hD hS => ?_)
  have hP : va_P D vwCl (mX cI cJ cZ a (0) (lds) (m_n M) (m_sn M) (m_vn M) (m_rn M) (m_pn M) (m_nw M) (m_grp M) (m_key M) (m_srt M) (m_sd M) (m_go M) (m_seg M) (m_la M) (m_isN M) (m_drp M) (m_has M) (m_sees M) (m_isC M) (m_isG M) (m_ov M) (m_st M) (m_vo M) (m_ko M) (m_sl M) (m_sc M) (m_kp M) (m_en M) (m_pg M)) H := hP
  have hD : va_D A (mX cI cJ cZ a (0) (lds) (m_n M) (m_sn M) (m_vn M) (m_rn M) (m_pn M) (m_nw M) (m_grp M) (m_key M) (m_srt M) (m_sd M) (m_go M) (m_seg M) (m_la M) (m_isN M) (m_drp M) (m_has M) (m_sees M) (m_isC M) (m_isG M) (m_ov M) (m_st M) (m_vo M) (m_ko M) (m_sl M) (m_sc M) (m_kp M) (m_en M) (m_pg M)) := hD
  refine lv_aload_n hx hb dX6_state_5 rfl (lv_at hl 0 rfl) ?_
  refine lv_iload_n hx hb dX6_state_6 rfl (lv_at hl 1 rfl) ?_
  have hPm : va_P D vwCl (mW cI cJ cZ a (0) (lds) M) H := by exact hP
  refine wc_Vi (As := [.int (x)]) (rest := []) ⟨hx, hb, hml, hown, hts⟩ (c_X6_isView l D cI cJ cZ a (0) (lds) M hM (x)) (cwV 1 hts gX6_state_X6_isView rfl rfl rfl (by decide +kernel) ⟨Nat.le_of_ble_eq_true rfl, Nat.le_of_ble_eq_true rfl⟩) hPm hK 0 rfl rfl rfl hl.1 rfl (Nat.le_of_ble_eq_true rfl) dX6_state_7 ⟨Nat.zero_le _, Nat.zero_le _⟩ (fun rr hq1 => ?_)
  have hq1 : rr = bI (decide (0 ≤ (x).toInt ∧ (x).toInt < (m_vn M : Int))) := hq1
  subst hq1
  refine wb_if_eq (tgt := 22) hx hb dX6_state_10 (by decide) (fun c10_2 => ?_) (fun c10_2 => ?_)
  · have c10_2p := of_decide_eq_false c10_2
    refine lv_aload_n hx hb dX6_state_22 rfl (lv_at hl 0 rfl) ?_
    refine lv_iconst (v := nI (1)) hx hb dX6_state_23 (by decide) ?_
    have hPm : va_P D vwCl (mW cI cJ cZ a (0) (lds) M) H := by exact hP
    have hDm : va_D A (mW cI cJ cZ a (0) (lds) M) := by exact hD
    refine wc_VWi (As := [.int (nI (1))]) (rest := []) (wf := mWu cI cJ cZ a) ⟨hx, hb, hml, hown, hts⟩ (c_X6_fails l D cI cJ cZ a (0) (lds) M hM (1) (by omega) H.size) (cwV 1 hts gX6_state_X6_fails rfl rfl rfl (by decide +kernel) ⟨Nat.le_of_ble_eq_true rfl, Nat.le_of_ble_eq_true rfl⟩) hPm hK hDm hS hA 0 rfl rfl rfl hl.1 rfl (Nat.le_of_ble_eq_true rfl) dX6_state_24 ⟨Nat.zero_le _, Nat.zero_le _⟩ (fun rr u3 hq3 H locs hP hD hS => ?_)
    obtain ⟨hr3, hu3⟩ := hq3
    subst hr3
    subst hu3
    have hP : va_P D vwCl (mX cI cJ cZ a (1) (lds) (m_n M) (m_sn M) (m_vn M) (m_rn M) (m_pn M) (m_nw M) (m_grp M) (m_key M) (m_srt M) (m_sd M) (m_go M) (m_seg M) (m_la M) (m_isN M) (m_drp M) (m_has M) (m_sees M) (m_isC M) (m_isG M) (m_ov M) (m_st M) (m_vo M) (m_ko M) (m_sl M) (m_sc M) (m_kp M) (m_en M) (m_pg M)) H := hP
    have hD : va_D A (mX cI cJ cZ a (1) (lds) (m_n M) (m_sn M) (m_vn M) (m_rn M) (m_pn M) (m_nw M) (m_grp M) (m_key M) (m_srt M) (m_sd M) (m_go M) (m_seg M) (m_la M) (m_isN M) (m_drp M) (m_has M) (m_sees M) (m_isC M) (m_isG M) (m_ov M) (m_st M) (m_vo M) (m_ko M) (m_sl M) (m_sc M) (m_kp M) (m_en M) (m_pg M)) := hD
    have hPm : va_P D vwCl (mW cI cJ cZ a (1) (lds) M) H := by exact hP
    have hDm : va_D A (mW cI cJ cZ a (1) (lds) M) := by exact hD
    exact W.iret (v := nI (0)) hx hb hr (fun t ht hW => ⟨⟨_, (1, lds, M), rfl, ⟨(by simp only [stateR]; (repeat' split) <;> first | rfl | (exfalso; omega)), (by simp only [vT]; (repeat' split) <;> first | rfl | (exfalso; omega)), rfl⟩, gb_mk ht hW hPm hK hDm⟩, hS.F ht⟩) hS.2.2 dX6_state_27
  · have c10_2p := of_decide_eq_true c10_2
    refine lv_aload_n hx hb dX6_state_13 rfl (lv_at hl 0 rfl) ?_
    refine va_get (ci := 6) (v := .ref (a 7)) (C := RX6) (T := TX6) (N := 30) hx hb hts hiX6 hown hK hP 0 rfl rfl 10 (by decide) hf1 (fun _ h9 => h9) rfl dX6_state_14 ?_
    refine lv_iload_n hx hb dX6_state_17 rfl (lv_at hl 1 rfl) ?_
    refine ww_top (y := nI (ix x)) (ix_n (by omega)) ?_
    refine wa_i (i := ix x) (v := nI (m_st M (ix x))) hx hb hK hP 7 0 rfl rfl rfl (by omega) (by decide) dX6_state_18 ?_
    refine lv_goto (tgt := 27) hx hb dX6_state_19 (by decide) ?_
    have hPm : va_P D vwCl (mW cI cJ cZ a (0) (lds) M) H := by exact hP
    have hDm : va_D A (mW cI cJ cZ a (0) (lds) M) := by exact hD
    exact W.iret (v := nI (m_st M (ix x))) hx hb hr (fun t ht hW => ⟨⟨_, (0, lds, M), rfl, ⟨(by simp only [stateR]; (repeat' split) <;> first | rfl | (exfalso; omega)), (by simp only [vT]; (repeat' split) <;> first | rfl | (exfalso; omega)), rfl⟩, gb_mk ht hW hPm hK hDm⟩, hS.F ht⟩) hS.2.2 dX6_state_27
def rm_X6_size : Room := { frames := 2, cells := 0, slots := 0, locals := 45 }
set_option maxHeartbeats 4000000 in
set_option maxRecDepth 100000 in
/-- how many objects a view has -/
theorem c_X6_size (l : Launch) (D : va_G) (cI cJ cZ : ClassId) (a : Nat → Nat) (th : Nat) (lds : Nat → Bool) (M : MT) (hM : mOk M) (x : Int32) (sz : Nat) : Met l yX6_size wsX6_size rm_X6_size (va_Pc [.ref (a 0), .int (x)] (GW D (tyW cI cJ cZ) (mW cI cJ cZ a (th) (lds) M) sz)) (va_Qi (fun rr u => rr = sizeR M x ∧ u.1 = vT M x ∧ u.2.2 = M) (fun u => GB D (tyW cI cJ cZ) (va_A (mW cI cJ cZ a (th) (lds) M) sz) (mWu cI cJ cZ a u)) (va_A (mW cI cJ cZ a (th) (lds) M) sz)) 0 0 (va_A (mW cI cJ cZ a (th) (lds) M) sz) := by
  obtain ⟨hn, hsn, hvn, hrn, hpn, hnw, h_seg, h_la, h_st, h_vo, h_ko, h_sl, h_sc, h_kp, h_en, h_pg, hvo, hko, hsl, hsc⟩ := id hM
  have hixx := ix_c x
  refine Met.ofW (cc := cX6_size) (maxL := 2) (ret := (some .int)) (by decide) rfl ?_
  intro p e s m args below meth c s₁ B hml hv
  obtain ⟨rfl, hsz, hP, hK, hD0⟩ := hv
  have hx := B.exec
  have hb := B.bytes
  have hr := B.returns
  have hts := atoms_spec (ws := wsX6_size) B.pre
  have hown : s.vm.findClass RX6 = some m.cls := findClass_of_methodNamed B.named
  have hlocks := B.notSynchronized
  subst hsz
  have hD := hD0.self (sz := s.heap.size)
  generalize hAe : va_A (mW cI cJ cZ a (th) (lds) M) s.heap.size = A at hD ⊢
  have hA : ∀ q : Nat, s.heap.size ≤ q → A q := fun q h => by rw [← hAe]; exact Or.inr h
  have hS : va_S A s.heap s.heap [] := va_S.rf
  have hP : va_P D vwCl (mX cI cJ cZ a (th) (lds) (m_n M) (m_sn M) (m_vn M) (m_rn M) (m_pn M) (m_nw M) (m_grp M) (m_key M) (m_srt M) (m_sd M) (m_go M) (m_seg M) (m_la M) (m_isN M) (m_drp M) (m_has M) (m_sees M) (m_isC M) (m_isG M) (m_ov M) (m_st M) (m_vo M) (m_ko M) (m_sl M) (m_sc M) (m_kp M) (m_en M) (m_pg M)) s.heap := hP
  have hD : va_D A (mX cI cJ cZ a (th) (lds) (m_n M) (m_sn M) (m_vn M) (m_rn M) (m_pn M) (m_nw M) (m_grp M) (m_key M) (m_srt M) (m_sd M) (m_go M) (m_seg M) (m_la M) (m_isN M) (m_drp M) (m_has M) (m_sees M) (m_isC M) (m_isG M) (m_ov M) (m_st M) (m_vo M) (m_ko M) (m_sl M) (m_sc M) (m_kp M) (m_en M) (m_pg M)) := hD
  have hiX6 : ∀ w ∈ wsX60, w ∈ wsX6_size := by decide +kernel
  have hf0 := hts (.fieldLink RX6 81 "GroupCursorsModel" "thrown" "I") (by decide +kernel)
  have hl := lv_entry ([.ref (a 0), .int (x)]) (n := 2) (Nat.le_of_ble_eq_true rfl)
  rw [lg_entry_eq]
  generalize (lg_sl ([.ref (a 0), .int (x)]) ++ List.replicate (2 - (lg_sl ([.ref (a 0), .int (x)])).length) Slot.unset).toArray = ls at hl ⊢
  have hl : lv_has ls 2 [(0, .ref (a 0)), (1, .int (x))] := hl
  refine lv_aload_n hx hb dX6_size_0 rfl (lv_at hl 0 rfl) ?_
  refine lv_iconst (v := nI (0)) hx hb dX6_size_1 (by decide) ?_
  refine va_put (ci := 6) (v := .int (nI (0))) (ty := .int) (C := RX6) (T := TX6) (N := 30) hx hb hts hiX6 tyX6 tyX6_ok nmX6 hown hK hP hD hS 0 rfl rfl 0 (by decide) hf0 (fun _ h9 => h9) rfl (by decide +kernel) rfl rfl (Nat.le_of_ble_eq_true rfl) dX6_size_2 (fun H locs hP hD hS => ?_)
  have hP : va_P D vwCl (mX cI cJ cZ a (0) (lds) (m_n M) (m_sn M) (m_vn M) (m_rn M) (m_pn M) (m_nw M) (m_grp M) (m_key M) (m_srt M) (m_sd M) (m_go M) (m_seg M) (m_la M) (m_isN M) (m_drp M) (m_has M) (m_sees M) (m_isC M) (m_isG M) (m_ov M) (m_st M) (m_vo M) (m_ko M) (m_sl M) (m_sc M) (m_kp M) (m_en M) (m_pg M)) H := hP
  have hD : va_D A (mX cI cJ cZ a (0) (lds) (m_n M) (m_sn M) (m_vn M) (m_rn M) (m_pn M) (m_nw M) (m_grp M) (m_key M) (m_srt M) (m_sd M) (m_go M) (m_seg M) (m_la M) (m_isN M) (m_drp M) (m_has M) (m_sees M) (m_isC M) (m_isG M) (m_ov M) (m_st M) (m_vo M) (m_ko M) (m_sl M) (m_sc M) (m_kp M) (m_en M) (m_pg M)) := hD
  refine lv_aload_n hx hb dX6_size_5 rfl (lv_at hl 0 rfl) ?_
  refine lv_iload_n hx hb dX6_size_6 rfl (lv_at hl 1 rfl) ?_
  have hPm : va_P D vwCl (mW cI cJ cZ a (0) (lds) M) H := by exact hP
  refine wc_Vi (As := [.int (x)]) (rest := []) ⟨hx, hb, hml, hown, hts⟩ (c_X6_isView l D cI cJ cZ a (0) (lds) M hM (x)) (cwV 1 hts gX6_size_X6_isView rfl rfl rfl (by decide +kernel) ⟨Nat.le_of_ble_eq_true rfl, Nat.le_of_ble_eq_true rfl⟩) hPm hK 0 rfl rfl rfl hl.1 rfl (Nat.le_of_ble_eq_true rfl) dX6_size_7 ⟨Nat.zero_le _, Nat.zero_le _⟩ (fun rr hq1 => ?_)
  have hq1 : rr = bI (decide (0 ≤ (x).toInt ∧ (x).toInt < (m_vn M : Int))) := hq1
  subst hq1
  refine wb_if_eq (tgt := 21) hx hb dX6_size_10 (by decide) (fun c10_2 => ?_) (fun c10_2 => ?_)
  · have c10_2p := of_decide_eq_false c10_2
    refine lv_aload_n hx hb dX6_size_21 rfl (lv_at hl 0 rfl) ?_
    refine lv_iconst (v := nI (1)) hx hb dX6_size_22 (by decide) ?_
    have hPm : va_P D vwCl (mW cI cJ cZ a (0) (lds) M) H := by exact hP
    have hDm : va_D A (mW cI cJ cZ a (0) (lds) M) := by exact hD
    refine wc_VWi (As := [.int (nI (1))]) (rest := []) (wf := mWu cI cJ cZ a) ⟨hx, hb, hml, hown, hts⟩ (c_X6_fails l D cI cJ cZ a (0) (lds) M hM (1) (by omega) H.size) (cwV 1 hts gX6_size_X6_fails rfl rfl rfl (by decide +kernel) ⟨Nat.le_of_ble_eq_true rfl, Nat.le_of_ble_eq_true rfl⟩) hPm hK hDm hS hA 0 rfl rfl rfl hl.1 rfl (Nat.le_of_ble_eq_true rfl) dX6_size_23 ⟨Nat.zero_le _, Nat.zero_le _⟩ (fun rr u3 hq3 H locs hP hD hS => ?_)
    obtain ⟨hr3, hu3⟩ := hq3
    subst hr3
    subst hu3
    have hP : va_P D vwCl (mX cI cJ cZ a (1) (lds) (m_n M) (m_sn M) (m_vn M) (m_rn M) (m_pn M) (m_nw M) (m_grp M) (m_key M) (m_srt M) (m_sd M) (m_go M) (m_seg M) (m_la M) (m_isN M) (m_drp M) (m_has M) (m_sees M) (m_isC M) (m_isG M) (m_ov M) (m_st M) (m_vo M) (m_ko M) (m_sl M) (m_sc M) (m_kp M) (m_en M) (m_pg M)) H := hP
    have hD : va_D A (mX cI cJ cZ a (1) (lds) (m_n M) (m_sn M) (m_vn M) (m_rn M) (m_pn M) (m_nw M) (m_grp M) (m_key M) (m_srt M) (m_sd M) (m_go M) (m_seg M) (m_la M) (m_isN M) (m_drp M) (m_has M) (m_sees M) (m_isC M) (m_isG M) (m_ov M) (m_st M) (m_vo M) (m_ko M) (m_sl M) (m_sc M) (m_kp M) (m_en M) (m_pg M)) := hD
    have hPm : va_P D vwCl (mW cI cJ cZ a (1) (lds) M) H := by exact hP
    have hDm : va_D A (mW cI cJ cZ a (1) (lds) M) := by exact hD
    exact W.iret (v := nI (0)) hx hb hr (fun t ht hW => ⟨⟨_, (1, lds, M), rfl, ⟨(by simp only [sizeR]; (repeat' split) <;> first | rfl | (exfalso; omega)), (by simp only [vT]; (repeat' split) <;> first | rfl | (exfalso; omega)), rfl⟩, gb_mk ht hW hPm hK hDm⟩, hS.F ht⟩) hS.2.2 dX6_size_26
  · have c10_2p := of_decide_eq_true c10_2
    refine lv_aload_n hx hb dX6_size_13 rfl (lv_at hl 0 rfl) ?_
    refine lv_iload_n hx hb dX6_size_14 rfl (lv_at hl 1 rfl) ?_
    refine ww_top (y := nI (ix x)) (ix_n (by omega)) ?_
    have hPm : va_P D vwCl (mW cI cJ cZ a (0) (lds) M) H := by exact hP
    refine wc_Vi (As := [.int (nI (ix x))]) (rest := []) ⟨hx, hb, hml, hown, hts⟩ (c_X6_sizeOf l D cI cJ cZ a (0) (lds) M hM (ix x) (by omega)) (cwV 1 hts gX6_size_X6_sizeOf rfl rfl rfl (by decide +kernel) ⟨Nat.le_of_ble_eq_true rfl, Nat.le_of_ble_eq_true rfl⟩) hPm hK 0 rfl rfl rfl hl.1 rfl (Nat.le_of_ble_eq_true rfl) dX6_size_15 ⟨Nat.zero_le _, Nat.zero_le _⟩ (fun rr hq4 => ?_)
    have hq4 : rr = nI (sizeOf M (ix x)) := hq4
    subst hq4
    have hle5 : sizeOf M (ix x) ≤ 300 := Nat.le_trans (cnt_le _ _) hn
    refine lv_goto (tgt := 26) hx hb dX6_size_18 (by decide) ?_
    have hPm : va_P D vwCl (mW cI cJ cZ a (0) (lds) M) H := by exact hP
    have hDm : va_D A (mW cI cJ cZ a (0) (lds) M) := by exact hD
    exact W.iret (v := nI (sizeOf M (ix x))) hx hb hr (fun t ht hW => ⟨⟨_, (0, lds, M), rfl, ⟨(by simp only [sizeR]; (repeat' split) <;> first | rfl | (exfalso; omega)), (by simp only [vT]; (repeat' split) <;> first | rfl | (exfalso; omega)), rfl⟩, gb_mk ht hW hPm hK hDm⟩, hS.F ht⟩) hS.2.2 dX6_size_26
def rm_X6_groups : Room := { frames := 4, cells := 0, slots := 0, locals := 104 }
set_option maxHeartbeats 4000000 in
set_option maxRecDepth 100000 in
/-- how many groups a view has -/
theorem c_X6_groups (l : Launch) (D : va_G) (cI cJ cZ : ClassId) (a : Nat → Nat) (th : Nat) (lds : Nat → Bool) (M : MT) (hM : mOk M) (x : Int32) (sz : Nat) : Met l yX6_groups wsX6_groups rm_X6_groups (va_Pc [.ref (a 0), .int (x)] (GW D (tyW cI cJ cZ) (mW cI cJ cZ a (th) (lds) M) sz)) (va_Qi (fun rr u => rr = groupsR M x ∧ u.1 = vT M x ∧ u.2.2 = M) (fun u => GB D (tyW cI cJ cZ) (va_A (mW cI cJ cZ a (th) (lds) M) sz) (mWu cI cJ cZ a u)) (va_A (mW cI cJ cZ a (th) (lds) M) sz)) 0 0 (va_A (mW cI cJ cZ a (th) (lds) M) sz) := by
  obtain ⟨hn, hsn, hvn, hrn, hpn, hnw, h_seg, h_la, h_st, h_vo, h_ko, h_sl, h_sc, h_kp, h_en, h_pg, hvo, hko, hsl, hsc⟩ := id hM
  have hixx := ix_c x
  refine Met.ofW (cc := cX6_groups) (maxL := 2) (ret := (some .int)) (by decide) rfl ?_
  intro p e s m args below meth c s₁ B hml hv
  obtain ⟨rfl, hsz, hP, hK, hD0⟩ := hv
  have hx := B.exec
  have hb := B.bytes
  have hr := B.returns
  have hts := atoms_spec (ws := wsX6_groups) B.pre
  have hown : s.vm.findClass RX6 = some m.cls := findClass_of_methodNamed B.named
  have hlocks := B.notSynchronized
  subst hsz
  have hD := hD0.self (sz := s.heap.size)
  generalize hAe : va_A (mW cI cJ cZ a (th) (lds) M) s.heap.size = A at hD ⊢
  have hA : ∀ q : Nat, s.heap.size ≤ q → A q := fun q h => by rw [← hAe]; exact Or.inr h
  have hS : va_S A s.heap s.heap [] := va_S.rf
  have hP : va_P D vwCl (mX cI cJ cZ a (th) (lds) (m_n M) (m_sn M) (m_vn M) (m_rn M) (m_pn M) (m_nw M) (m_grp M) (m_key M) (m_srt M) (m_sd M) (m_go M) (m_seg M) (m_la M) (m_isN M) (m_drp M) (m_has M) (m_sees M) (m_isC M) (m_isG M) (m_ov M) (m_st M) (m_vo M) (m_ko M) (m_sl M) (m_sc M) (m_kp M) (m_en M) (m_pg M)) s.heap := hP
  have hD : va_D A (mX cI cJ cZ a (th) (lds) (m_n M) (m_sn M) (m_vn M) (m_rn M) (m_pn M) (m_nw M) (m_grp M) (m_key M) (m_srt M) (m_sd M) (m_go M) (m_seg M) (m_la M) (m_isN M) (m_drp M) (m_has M) (m_sees M) (m_isC M) (m_isG M) (m_ov M) (m_st M) (m_vo M) (m_ko M) (m_sl M) (m_sc M) (m_kp M) (m_en M) (m_pg M)) := hD
  have hiX6 : ∀ w ∈ wsX60, w ∈ wsX6_groups := by decide +kernel
  have hf0 := hts (.fieldLink RX6 81 "GroupCursorsModel" "thrown" "I") (by decide +kernel)
  have hl := lv_entry ([.ref (a 0), .int (x)]) (n := 2) (Nat.le_of_ble_eq_true rfl)
  rw [lg_entry_eq]
  generalize (lg_sl ([.ref (a 0), .int (x)]) ++ List.replicate (2 - (lg_sl ([.ref (a 0), .int (x)])).length) Slot.unset).toArray = ls at hl ⊢
  have hl : lv_has ls 2 [(0, .ref (a 0)), (1, .int (x))] := hl
  refine lv_aload_n hx hb dX6_groups_0 rfl (lv_at hl 0 rfl) ?_
  refine lv_iconst (v := nI (0)) hx hb dX6_groups_1 (by decide) ?_
  refine va_put (ci := 6) (v := .int (nI (0))) (ty := .int) (C := RX6) (T := TX6) (N := 30) hx hb hts hiX6 tyX6 tyX6_ok nmX6 hown hK hP hD hS 0 rfl rfl 0 (by decide) hf0 (fun _ h9 => h9) rfl (by decide +kernel) rfl rfl (Nat.le_of_ble_eq_true rfl) dX6_groups_2 (fun H locs hP hD hS => ?_)
  have hP : va_P D vwCl (mX cI cJ cZ a (0) (lds) (m_n M) (m_sn M) (m_vn M) (m_rn M) (m_pn M) (m_nw M) (m_grp M) (m_key M) (m_srt M) (m_sd M) (m_go M) (m_seg M) (m_la M) (m_isN M) (m_drp M) (m_has M) (m_sees M) (m_isC M) (m_isG M) (m_ov M) (m_st M) (m_vo M) (m_ko M) (m_sl M) (m_sc M) (m_kp M) (m_en M) (m_pg M)) H := hP
  have hD : va_D A (mX cI cJ cZ a (0) (lds) (m_n M) (m_sn M) (m_vn M) (m_rn M) (m_pn M) (m_nw M) (m_grp M) (m_key M) (m_srt M) (m_sd M) (m_go M) (m_seg M) (m_la M) (m_isN M) (m_drp M) (m_has M) (m_sees M) (m_isC M) (m_isG M) (m_ov M) (m_st M) (m_vo M) (m_ko M) (m_sl M) (m_sc M) (m_kp M) (m_en M) (m_pg M)) := hD
  refine lv_aload_n hx hb dX6_groups_5 rfl (lv_at hl 0 rfl) ?_
  refine lv_iload_n hx hb dX6_groups_6 rfl (lv_at hl 1 rfl) ?_
  have hPm : va_P D vwCl (mW cI cJ cZ a (0) (lds) M) H := by exact hP
  refine wc_Vi (As := [.int (x)]) (rest := []) ⟨hx, hb, hml, hown, hts⟩ (c_X6_isView l D cI cJ cZ a (0) (lds) M hM (x)) (cwV 1 hts gX6_groups_X6_isView rfl rfl rfl (by decide +kernel) ⟨Nat.le_of_ble_eq_true rfl, Nat.le_of_ble_eq_true rfl⟩) hPm hK 0 rfl rfl rfl hl.1 rfl (Nat.le_of_ble_eq_true rfl) dX6_groups_7 ⟨Nat.zero_le _, Nat.zero_le _⟩ (fun rr hq1 => ?_)
  have hq1 : rr = bI (decide (0 ≤ (x).toInt ∧ (x).toInt < (m_vn M : Int))) := hq1
  subst hq1
  refine wb_if_eq (tgt := 21) hx hb dX6_groups_10 (by decide) (fun c10_2 => ?_) (fun c10_2 => ?_)
  · have c10_2p := of_decide_eq_false c10_2
    refine lv_aload_n hx hb dX6_groups_21 rfl (lv_at hl 0 rfl) ?_
    refine lv_iconst (v := nI (1)) hx hb dX6_groups_22 (by decide) ?_
    have hPm : va_P D vwCl (mW cI cJ cZ a (0) (lds) M) H := by exact hP
    have hDm : va_D A (mW cI cJ cZ a (0) (lds) M) := by exact hD
    refine wc_VWi (As := [.int (nI (1))]) (rest := []) (wf := mWu cI cJ cZ a) ⟨hx, hb, hml, hown, hts⟩ (c_X6_fails l D cI cJ cZ a (0) (lds) M hM (1) (by omega) H.size) (cwV 1 hts gX6_groups_X6_fails rfl rfl rfl (by decide +kernel) ⟨Nat.le_of_ble_eq_true rfl, Nat.le_of_ble_eq_true rfl⟩) hPm hK hDm hS hA 0 rfl rfl rfl hl.1 rfl (Nat.le_of_ble_eq_true rfl) dX6_groups_23 ⟨Nat.zero_le _, Nat.zero_le _⟩ (fun rr u3 hq3 H locs hP hD hS => ?_)
    obtain ⟨hr3, hu3⟩ := hq3
    subst hr3
    subst hu3
    have hP : va_P D vwCl (mX cI cJ cZ a (1) (lds) (m_n M) (m_sn M) (m_vn M) (m_rn M) (m_pn M) (m_nw M) (m_grp M) (m_key M) (m_srt M) (m_sd M) (m_go M) (m_seg M) (m_la M) (m_isN M) (m_drp M) (m_has M) (m_sees M) (m_isC M) (m_isG M) (m_ov M) (m_st M) (m_vo M) (m_ko M) (m_sl M) (m_sc M) (m_kp M) (m_en M) (m_pg M)) H := hP
    have hD : va_D A (mX cI cJ cZ a (1) (lds) (m_n M) (m_sn M) (m_vn M) (m_rn M) (m_pn M) (m_nw M) (m_grp M) (m_key M) (m_srt M) (m_sd M) (m_go M) (m_seg M) (m_la M) (m_isN M) (m_drp M) (m_has M) (m_sees M) (m_isC M) (m_isG M) (m_ov M) (m_st M) (m_vo M) (m_ko M) (m_sl M) (m_sc M) (m_kp M) (m_en M) (m_pg M)) := hD
    have hPm : va_P D vwCl (mW cI cJ cZ a (1) (lds) M) H := by exact hP
    have hDm : va_D A (mW cI cJ cZ a (1) (lds) M) := by exact hD
    exact W.iret (v := nI (0)) hx hb hr (fun t ht hW => ⟨⟨_, (1, lds, M), rfl, ⟨(by simp only [groupsR]; (repeat' split) <;> first | rfl | (exfalso; omega)), (by simp only [vT]; (repeat' split) <;> first | rfl | (exfalso; omega)), rfl⟩, gb_mk ht hW hPm hK hDm⟩, hS.F ht⟩) hS.2.2 dX6_groups_26
  · have c10_2p := of_decide_eq_true c10_2
    refine lv_aload_n hx hb dX6_groups_13 rfl (lv_at hl 0 rfl) ?_
    refine lv_iload_n hx hb dX6_groups_14 rfl (lv_at hl 1 rfl) ?_
    refine ww_top (y := nI (ix x)) (ix_n (by omega)) ?_
    have hPm : va_P D vwCl (mW cI cJ cZ a (0) (lds) M) H := by exact hP
    refine wc_Vi (As := [.int (nI (ix x))]) (rest := []) ⟨hx, hb, hml, hown, hts⟩ (c_X6_groupCount l D cI cJ cZ a (0) (lds) M hM (ix x) (by omega)) (cwV 1 hts gX6_groups_X6_groupCount rfl rfl rfl (by decide +kernel) ⟨Nat.le_of_ble_eq_true rfl, Nat.le_of_ble_eq_true rfl⟩) hPm hK 0 rfl rfl rfl hl.1 rfl (Nat.le_of_ble_eq_true rfl) dX6_groups_15 ⟨Nat.zero_le _, Nat.zero_le _⟩ (fun rr hq4 => ?_)
    have hq4 : rr = nI (groupCount M (ix x)) := hq4
    subst hq4
    have hle5 : groupCount M (ix x) ≤ 300 := Nat.le_trans (cnt_le _ _) hn
    refine lv_goto (tgt := 26) hx hb dX6_groups_18 (by decide) ?_
    have hPm : va_P D vwCl (mW cI cJ cZ a (0) (lds) M) H := by exact hP
    have hDm : va_D A (mW cI cJ cZ a (0) (lds) M) := by exact hD
    exact W.iret (v := nI (groupCount M (ix x))) hx hb hr (fun t ht hW => ⟨⟨_, (0, lds, M), rfl, ⟨(by simp only [groupsR]; (repeat' split) <;> first | rfl | (exfalso; omega)), (by simp only [vT]; (repeat' split) <;> first | rfl | (exfalso; omega)), rfl⟩, gb_mk ht hW hPm hK hDm⟩, hS.F ht⟩) hS.2.2 dX6_groups_26
def rm_X6_hit : Room := { frames := 3, cells := 0, slots := 0, locals := 81 }
set_option maxHeartbeats 4000000 in
set_option maxRecDepth 100000 in
/-- hit k -/
theorem c_X6_hit (l : Launch) (D : va_G) (cI cJ cZ : ClassId) (a : Nat → Nat) (th : Nat) (lds : Nat → Bool) (M : MT) (hM : mOk M) (x y : Int32) (sd : Int64) (z : Int32) (hex : hitT M x y z = 0 → fstB (hitP M (ix x) (ix y) sd (ix z)) (m_n M) < m_n M) (sz : Nat) : Met l yX6_hit wsX6_hit rm_X6_hit (va_Pc [.ref (a 0), .int (x), .int (y), .long (sd), .int (z)] (GW D (tyW cI cJ cZ) (mW cI cJ cZ a (th) (lds) M) sz)) (va_Qi (fun rr u => rr = hitR M x y sd z ∧ u.1 = hitT M x y z ∧ u.2.2 = M) (fun u => GB D (tyW cI cJ cZ) (va_A (mW cI cJ cZ a (th) (lds) M) sz) (mWu cI cJ cZ a u)) (va_A (mW cI cJ cZ a (th) (lds) M) sz)) 0 0 (va_A (mW cI cJ cZ a (th) (lds) M) sz) := by
  obtain ⟨hn, hsn, hvn, hrn, hpn, hnw, h_seg, h_la, h_st, h_vo, h_ko, h_sl, h_sc, h_kp, h_en, h_pg, hvo, hko, hsl, hsc⟩ := id hM
  have hixx := ix_c x
  have hixy := ix_c y
  have hixz := ix_c z
  refine Met.ofW (cc := cX6_hit) (maxL := 7) (ret := (some .int)) (by decide) rfl ?_
  intro p e s m args below meth c s₁ B hml hv
  obtain ⟨rfl, hsz, hP, hK, hD0⟩ := hv
  have hx := B.exec
  have hb := B.bytes
  have hr := B.returns
  have hts := atoms_spec (ws := wsX6_hit) B.pre
  have hown : s.vm.findClass RX6 = some m.cls := findClass_of_methodNamed B.named
  have hlocks := B.notSynchronized
  subst hsz
  have hD := hD0.self (sz := s.heap.size)
  generalize hAe : va_A (mW cI cJ cZ a (th) (lds) M) s.heap.size = A at hD ⊢
  have hA : ∀ q : Nat, s.heap.size ≤ q → A q := fun q h => by rw [← hAe]; exact Or.inr h
  have hS : va_S A s.heap s.heap [] := va_S.rf
  have hP : va_P D vwCl (mX cI cJ cZ a (th) (lds) (m_n M) (m_sn M) (m_vn M) (m_rn M) (m_pn M) (m_nw M) (m_grp M) (m_key M) (m_srt M) (m_sd M) (m_go M) (m_seg M) (m_la M) (m_isN M) (m_drp M) (m_has M) (m_sees M) (m_isC M) (m_isG M) (m_ov M) (m_st M) (m_vo M) (m_ko M) (m_sl M) (m_sc M) (m_kp M) (m_en M) (m_pg M)) s.heap := hP
  have hD : va_D A (mX cI cJ cZ a (th) (lds) (m_n M) (m_sn M) (m_vn M) (m_rn M) (m_pn M) (m_nw M) (m_grp M) (m_key M) (m_srt M) (m_sd M) (m_go M) (m_seg M) (m_la M) (m_isN M) (m_drp M) (m_has M) (m_sees M) (m_isC M) (m_isG M) (m_ov M) (m_st M) (m_vo M) (m_ko M) (m_sl M) (m_sc M) (m_kp M) (m_en M) (m_pg M)) := hD
  have hiX6 : ∀ w ∈ wsX60, w ∈ wsX6_hit := by decide +kernel
  have hf0 := hts (.fieldLink RX6 81 "GroupCursorsModel" "thrown" "I") (by decide +kernel)
  have hl := lv_entry ([.ref (a 0), .int (x), .int (y), .long (sd), .int (z)]) (n := 7) (Nat.le_of_ble_eq_true rfl)
  rw [lg_entry_eq]
  generalize (lg_sl ([.ref (a 0), .int (x), .int (y), .long (sd), .int (z)]) ++ List.replicate (7 - (lg_sl ([.ref (a 0), .int (x), .int (y), .long (sd), .int (z)])).length) Slot.unset).toArray = ls at hl ⊢
  have hl : lv_has ls 7 [(0, .ref (a 0)), (1, .int (x)), (2, .int (y)), (3, .long (sd)), (5, .int (z))] := hl
  refine lv_aload_n hx hb dX6_hit_0 rfl (lv_at hl 0 rfl) ?_
  refine lv_iconst (v := nI (0)) hx hb dX6_hit_1 (by decide) ?_
  refine va_put (ci := 6) (v := .int (nI (0))) (ty := .int) (C := RX6) (T := TX6) (N := 30) hx hb hts hiX6 tyX6 tyX6_ok nmX6 hown hK hP hD hS 0 rfl rfl 0 (by decide) hf0 (fun _ h9 => h9) rfl (by decide +kernel) rfl rfl (Nat.le_of_ble_eq_true rfl) dX6_hit_2 (fun H locs hP hD hS => ?_)
  have hP : va_P D vwCl (mX cI cJ cZ a (0) (lds) (m_n M) (m_sn M) (m_vn M) (m_rn M) (m_pn M) (m_nw M) (m_grp M) (m_key M) (m_srt M) (m_sd M) (m_go M) (m_seg M) (m_la M) (m_isN M) (m_drp M) (m_has M) (m_sees M) (m_isC M) (m_isG M) (m_ov M) (m_st M) (m_vo M) (m_ko M) (m_sl M) (m_sc M) (m_kp M) (m_en M) (m_pg M)) H := hP
  have hD : va_D A (mX cI cJ cZ a (0) (lds) (m_n M) (m_sn M) (m_vn M) (m_rn M) (m_pn M) (m_nw M) (m_grp M) (m_key M) (m_srt M) (m_sd M) (m_go M) (m_seg M) (m_la M) (m_isN M) (m_drp M) (m_has M) (m_sees M) (m_isC M) (m_isG M) (m_ov M) (m_st M) (m_vo M) (m_ko M) (m_sl M) (m_sc M) (m_kp M) (m_en M) (m_pg M)) := hD
  refine lv_aload_n hx hb dX6_hit_5 rfl (lv_at hl 0 rfl) ?_
  refine lv_iload_n hx hb dX6_hit_6 rfl (lv_at hl 1 rfl) ?_
  have hPm : va_P D vwCl (mW cI cJ cZ a (0) (lds) M) H := by exact hP
  refine wc_Vi (As := [.int (x)]) (rest := []) ⟨hx, hb, hml, hown, hts⟩ (c_X6_isView l D cI cJ cZ a (0) (lds) M hM (x)) (cwV 1 hts gX6_hit_X6_isView rfl rfl rfl (by decide +kernel) ⟨Nat.le_of_ble_eq_true rfl, Nat.le_of_ble_eq_true rfl⟩) hPm hK 0 rfl rfl rfl hl.1 rfl (Nat.le_of_ble_eq_true rfl) dX6_hit_7 ⟨Nat.zero_le _, Nat.zero_le _⟩ (fun rr hq1 => ?_)
  have hq1 : rr = bI (decide (0 ≤ (x).toInt ∧ (x).toInt < (m_vn M : Int))) := hq1
  subst hq1
  refine wb_if_eq (tgt := 28) hx hb dX6_hit_10 (by decide) (fun c10_2 => ?_) (fun c10_2 => ?_)
  · have c10_2p := of_decide_eq_false c10_2
    refine lv_aload_n hx hb dX6_hit_28 rfl (lv_at hl 0 rfl) ?_
    refine lv_iconst (v := nI (1)) hx hb dX6_hit_29 (by decide) ?_
    have hPm : va_P D vwCl (mW cI cJ cZ a (0) (lds) M) H := by exact hP
    have hDm : va_D A (mW cI cJ cZ a (0) (lds) M) := by exact hD
    refine wc_VWi (As := [.int (nI (1))]) (rest := []) (wf := mWu cI cJ cZ a) ⟨hx, hb, hml, hown, hts⟩ (c_X6_fails l D cI cJ cZ a (0) (lds) M hM (1) (by omega) H.size) (cwV 1 hts gX6_hit_X6_fails rfl rfl rfl (by decide +kernel) ⟨Nat.le_of_ble_eq_true rfl, Nat.le_of_ble_eq_true rfl⟩) hPm hK hDm hS hA 0 rfl rfl rfl hl.1 rfl (Nat.le_of_ble_eq_true rfl) dX6_hit_30 ⟨Nat.zero_le _, Nat.zero_le _⟩ (fun rr u3 hq3 H locs hP hD hS => ?_)
    obtain ⟨hr3, hu3⟩ := hq3
    subst hr3
    subst hu3
    have hP : va_P D vwCl (mX cI cJ cZ a (1) (lds) (m_n M) (m_sn M) (m_vn M) (m_rn M) (m_pn M) (m_nw M) (m_grp M) (m_key M) (m_srt M) (m_sd M) (m_go M) (m_seg M) (m_la M) (m_isN M) (m_drp M) (m_has M) (m_sees M) (m_isC M) (m_isG M) (m_ov M) (m_st M) (m_vo M) (m_ko M) (m_sl M) (m_sc M) (m_kp M) (m_en M) (m_pg M)) H := hP
    have hD : va_D A (mX cI cJ cZ a (1) (lds) (m_n M) (m_sn M) (m_vn M) (m_rn M) (m_pn M) (m_nw M) (m_grp M) (m_key M) (m_srt M) (m_sd M) (m_go M) (m_seg M) (m_la M) (m_isN M) (m_drp M) (m_has M) (m_sees M) (m_isC M) (m_isG M) (m_ov M) (m_st M) (m_vo M) (m_ko M) (m_sl M) (m_sc M) (m_kp M) (m_en M) (m_pg M)) := hD
    have hPm : va_P D vwCl (mW cI cJ cZ a (1) (lds) M) H := by exact hP
    have hDm : va_D A (mW cI cJ cZ a (1) (lds) M) := by exact hD
    exact W.iret (v := nI (0)) hx hb hr (fun t ht hW => ⟨⟨_, (1, lds, M), rfl, ⟨(by simp only [hitR]; (repeat' split) <;> first | rfl | (exfalso; omega)), (by simp only [hitT]; (repeat' split) <;> first | rfl | (exfalso; omega)), rfl⟩, gb_mk ht hW hPm hK hDm⟩, hS.F ht⟩) hS.2.2 dX6_hit_33
  · have c10_2p := of_decide_eq_true c10_2
    refine lv_iload hx hb dX6_hit_13 (lv_at hl 4 rfl) ?_
    refine wz_if_lt (tgt := 28) hx hb ((z).toInt) rfl dX6_hit_15 (by decide) (fun c15_4 => ?_) (fun c15_4 => ?_)
    · refine lv_aload_n hx hb dX6_hit_28 rfl (lv_at hl 0 rfl) ?_
      refine lv_iconst (v := nI (1)) hx hb dX6_hit_29 (by decide) ?_
      have hPm : va_P D vwCl (mW cI cJ cZ a (0) (lds) M) H := by exact hP
      have hDm : va_D A (mW cI cJ cZ a (0) (lds) M) := by exact hD
      refine wc_VWi (As := [.int (nI (1))]) (rest := []) (wf := mWu cI cJ cZ a) ⟨hx, hb, hml, hown, hts⟩ (c_X6_fails l D cI cJ cZ a (0) (lds) M hM (1) (by omega) H.size) (cwV 1 hts gX6_hit_X6_fails rfl rfl rfl (by decide +kernel) ⟨Nat.le_of_ble_eq_true rfl, Nat.le_of_ble_eq_true rfl⟩) hPm hK hDm hS hA 0 rfl rfl rfl hl.1 rfl (Nat.le_of_ble_eq_true rfl) dX6_hit_30 ⟨Nat.zero_le _, Nat.zero_le _⟩ (fun rr u5 hq5 H locs hP hD hS => ?_)
      obtain ⟨hr5, hu5⟩ := hq5
      subst hr5
      subst hu5
      have hP : va_P D vwCl (mX cI cJ cZ a (1) (lds) (m_n M) (m_sn M) (m_vn M) (m_rn M) (m_pn M) (m_nw M) (m_grp M) (m_key M) (m_srt M) (m_sd M) (m_go M) (m_seg M) (m_la M) (m_isN M) (m_drp M) (m_has M) (m_sees M) (m_isC M) (m_isG M) (m_ov M) (m_st M) (m_vo M) (m_ko M) (m_sl M) (m_sc M) (m_kp M) (m_en M) (m_pg M)) H := hP
      have hD : va_D A (mX cI cJ cZ a (1) (lds) (m_n M) (m_sn M) (m_vn M) (m_rn M) (m_pn M) (m_nw M) (m_grp M) (m_key M) (m_srt M) (m_sd M) (m_go M) (m_seg M) (m_la M) (m_isN M) (m_drp M) (m_has M) (m_sees M) (m_isC M) (m_isG M) (m_ov M) (m_st M) (m_vo M) (m_ko M) (m_sl M) (m_sc M) (m_kp M) (m_en M) (m_pg M)) := hD
      have hPm : va_P D vwCl (mW cI cJ cZ a (1) (lds) M) H := by exact hP
      have hDm : va_D A (mW cI cJ cZ a (1) (lds) M) := by exact hD
      exact W.iret (v := nI (0)) hx hb hr (fun t ht hW => ⟨⟨_, (1, lds, M), rfl, ⟨(by simp only [hitR]; (repeat' split) <;> first | rfl | (exfalso; omega)), (by simp only [hitT]; (repeat' split) <;> first | rfl | (exfalso; omega)), rfl⟩, gb_mk ht hW hPm hK hDm⟩, hS.F ht⟩) hS.2.2 dX6_hit_33
    · refine lv_iload hx hb dX6_hit_18 (lv_at hl 4 rfl) ?_
      refine lv_aload_n hx hb dX6_hit_20 rfl (lv_at hl 0 rfl) ?_
      refine lv_iload_n hx hb dX6_hit_21 rfl (lv_at hl 1 rfl) ?_
      refine ww_top (y := nI (ix x)) (ix_n (by omega)) ?_
      have hPm : va_P D vwCl (mW cI cJ cZ a (0) (lds) M) H := by exact hP
      refine wc_Vi (As := [.int (nI (ix x))]) (rest := [.int (z)]) ⟨hx, hb, hml, hown, hts⟩ (c_X6_sizeOf l D cI cJ cZ a (0) (lds) M hM (ix x) (by omega)) (cwV 1 hts gX6_hit_X6_sizeOf rfl rfl rfl (by decide +kernel) ⟨Nat.le_of_ble_eq_true rfl, Nat.le_of_ble_eq_true rfl⟩) hPm hK 0 rfl rfl rfl hl.1 rfl (Nat.le_of_ble_eq_true rfl) dX6_hit_22 ⟨Nat.zero_le _, Nat.zero_le _⟩ (fun rr hq6 => ?_)
      have hq6 : rr = nI (sizeOf M (ix x)) := hq6
      subst hq6
      have hle7 : sizeOf M (ix x) ≤ 300 := Nat.le_trans (cnt_le _ _) hn
      refine wz_icmp_lt (tgt := 34) hx hb ((z).toInt) (((sizeOf M (ix x) : Nat) : Int)) rfl (nI_z (by omega)) dX6_hit_25 (by decide) (fun c25_8 => ?_) (fun c25_8 => ?_)
      · refine lv_iload_n hx hb dX6_hit_34 rfl (lv_at hl 2 rfl) ?_
        have hPm : va_P D vwCl (mW cI cJ cZ a (0) (lds) M) H := by exact hP
        refine wc_Si (As := [.int (y)]) (rest := []) ⟨hx, hb, hml, hown, hts⟩ (c_X6_isKind l D cI cJ cZ a (0) (lds) M hM (y)) (va_cwS 1 hts gX6_hit_X6_isKind rfl rfl rfl (by decide +kernel) ⟨Nat.le_of_ble_eq_true rfl, Nat.le_of_ble_eq_true rfl⟩) hPm hK rfl hl.1 rfl (Nat.le_of_ble_eq_true rfl) dX6_hit_35 ⟨Nat.zero_le _, Nat.zero_le _⟩ (fun rr hq9 => ?_)
        have hq9 : rr = bI (decide (0 ≤ (y).toInt ∧ (y).toInt < 3)) := hq9
        subst hq9
        refine wb_if_ne (tgt := 47) hx hb dX6_hit_38 (by decide) (fun c38_10 => ?_) (fun c38_10 => ?_)
        · have c38_10p := of_decide_eq_true c38_10
          have hw := hex (by rw [hitT, if_neg (by omega), if_neg (by omega)])
          refine lv_iconst (v := nI (0)) hx hb dX6_hit_47 (by decide) ?_
          refine lv_istore (lv' := [(6, .int (nI (0))), (0, .ref (a 0)), (1, .int (x)), (2, .int (y)), (3, .long (sd)), (5, .int (z))]) hx hb dX6_hit_48 hl (by decide) rfl (fun ls hl => ?_)
          have hlp50 : ∀ (d : Nat) (o : Nat), m_n M - o < d → (o ≤ fstB (hitP M (ix x) (ix y) sd (ix z)) (m_n M)) → ∀ (ls : Array Slot), lv_has ls 7 [(0, .ref (a 0)), (1, .int (x)), (2, .int (y)), (3, .long (sd)), (5, .int (z)), (6, .int (nI (o)))] → W p l e (headSpec wsX6_hit rm_X6_hit).room s m ([.ref (a 0), .int (x), .int (y), .long (sd), .int (z)] : List Value).toArray below meth c H locs (0) (0) (MQ below (va_Qi (fun rr u => rr = hitR M x y sd z ∧ u.1 = hitT M x y z ∧ u.2.2 = M) (fun u => GB D (tyW cI cJ cZ) A (mWu cI cJ cZ a u)) A) ([.ref (a 0), .int (x), .int (y), .long (sd), .int (z)] : List Value).toArray s 0 0 A) (F0 m 50 ls []) := by
            intro d
            induction d with
            | zero => intro o  hd50; exact absurd hd50 (Nat.not_lt_zero _)
            | succ d ih50 =>
              intro o  hd50 hio  ls hl
              refine lv_aload_n hx hb dX6_hit_50 rfl (lv_at hl 0 rfl) ?_
              refine lv_iload_n hx hb dX6_hit_51 rfl (lv_at hl 1 rfl) ?_
              refine ww_top (y := nI (ix x)) (ix_n (by omega)) ?_
              refine lv_iload hx hb dX6_hit_52 (lv_at hl 5 rfl) ?_
              have hPm : va_P D vwCl (mW cI cJ cZ a (0) (lds) M) H := by exact hP
              refine wc_Vi (As := [.int (nI (ix x)), .int (nI (o))]) (rest := []) ⟨hx, hb, hml, hown, hts⟩ (c_X6_isIn l D cI cJ cZ a (0) (lds) M hM (ix x) (o) (by omega) (by omega)) (cwV 2 hts gX6_hit_X6_isIn rfl rfl rfl (by decide +kernel) ⟨Nat.le_of_ble_eq_true rfl, Nat.le_of_ble_eq_true rfl⟩) hPm hK 0 rfl rfl rfl hl.1 rfl (Nat.le_of_ble_eq_true rfl) dX6_hit_54 ⟨Nat.zero_le _, Nat.zero_le _⟩ (fun rr hq11 => ?_)
              have hq11 : rr = bI (m_in M (ix x) o) := hq11
              subst hq11
              refine wb_if_eq (tgt := 74) hx hb dX6_hit_57 (by decide) (fun c57_12 => ?_) (fun c57_12 => ?_)
              · refine lv_iinc (v := nI (o + 1)) (lv' := [(6, .int (nI (o + 1))), (0, .ref (a 0)), (1, .int (x)), (2, .int (y)), (3, .long (sd)), (5, .int (z))]) hx hb dX6_hit_74 hl (k := 5) rfl (nI_inc _) (by decide) rfl (fun ls hl => ?_)
                refine lv_goto (tgt := 50) hx hb dX6_hit_77 (by decide) ?_
                exact ih50 (o + 1)  (by omega) (fst_next hio (by omega) (by simp [hitP, c57_12]))  ls (lv_sub hl [1, 2, 3, 4, 5, 0] rfl)
              · refine lv_aload_n hx hb dX6_hit_60 rfl (lv_at hl 0 rfl) ?_
                refine lv_iload_n hx hb dX6_hit_61 rfl (lv_at hl 1 rfl) ?_
                refine ww_top (y := nI (ix x)) (ix_n (by omega)) ?_
                refine lv_iload hx hb dX6_hit_62 (lv_at hl 5 rfl) ?_
                refine lv_iload_n hx hb dX6_hit_64 rfl (lv_at hl 2 rfl) ?_
                refine ww_top (y := nI (ix y)) (ix_n (by omega)) ?_
                refine lv_lload_n hx hb dX6_hit_65 rfl (lv_at hl 3 rfl) ?_
                have hPm : va_P D vwCl (mW cI cJ cZ a (0) (lds) M) H := by exact hP
                refine wc_Vi (As := [.int (nI (ix x)), .int (nI (o)), .int (nI (ix y)), .long (sd)]) (rest := []) ⟨hx, hb, hml, hown, hts⟩ (c_X6_rank l D cI cJ cZ a (0) (lds) M hM (ix x) (o) (ix y) (sd) (by omega) (by omega) (by omega)) (cwV 4 hts gX6_hit_X6_rank rfl rfl rfl (by decide +kernel) ⟨Nat.le_of_ble_eq_true rfl, Nat.le_of_ble_eq_true rfl⟩) hPm hK 0 rfl rfl rfl hl.1 rfl (Nat.le_of_ble_eq_true rfl) dX6_hit_66 ⟨Nat.zero_le _, Nat.zero_le _⟩ (fun rr hq13 => ?_)
                have hq13 : rr = nI (rankM M (ix x) o (ix y) (sd)) := hq13
                subst hq13
                have hle14 : rankM M (ix x) o (ix y) (sd) ≤ 300 := Nat.le_trans (cnt_le _ _) hn
                refine lv_iload hx hb dX6_hit_69 (lv_at hl 4 rfl) ?_
                refine wz_icmp_eq (tgt := 80) hx hb (((rankM M (ix x) o (ix y) (sd) : Nat) : Int)) ((z).toInt) (nI_z (by omega)) rfl dX6_hit_71 (by decide) (fun c71_15 => ?_) (fun c71_15 => ?_)
                · refine lv_iload hx hb dX6_hit_80 (lv_at hl 5 rfl) ?_
                  have hPm : va_P D vwCl (mW cI cJ cZ a (0) (lds) M) H := by exact hP
                  have hDm : va_D A (mW cI cJ cZ a (0) (lds) M) := by exact hD
                  exact W.iret (v := nI (o)) hx hb hr (fun t ht hW => ⟨⟨_, (0, lds, M), rfl, ⟨by have hh := fst_here hio (by have he : rankM M (ix x) o (ix y) (sd) = ix z := (by omega); simp [hitP, he, c57_12]); rw [hitR, if_neg (by omega), if_neg (by omega), hh], by rw [hitT, if_neg (by omega), if_neg (by omega)], rfl⟩, gb_mk ht hW hPm hK hDm⟩, hS.F ht⟩) hS.2.2 dX6_hit_82
                · refine lv_iinc (v := nI (o + 1)) (lv' := [(6, .int (nI (o + 1))), (0, .ref (a 0)), (1, .int (x)), (2, .int (y)), (3, .long (sd)), (5, .int (z))]) hx hb dX6_hit_74 hl (k := 5) rfl (nI_inc _) (by decide) rfl (fun ls hl => ?_)
                  refine lv_goto (tgt := 50) hx hb dX6_hit_77 (by decide) ?_
                  exact ih50 (o + 1)  (by omega) (fst_next hio (by omega) (by have hne : ¬ rankM M (ix x) o (ix y) (sd) = ix z := (by omega); simp [hitP, hne]))  ls (lv_sub hl [1, 2, 3, 4, 5, 0] rfl)
          exact hlp50 _ (0)  (Nat.lt_succ_self _) (Nat.zero_le _)  ls (lv_sub hl [1, 2, 3, 4, 5, 0] rfl)
        · have c38_10p := of_decide_eq_false c38_10
          refine lv_aload_n hx hb dX6_hit_41 rfl (lv_at hl 0 rfl) ?_
          refine lv_iconst (v := nI (2)) hx hb dX6_hit_42 (by decide) ?_
          have hPm : va_P D vwCl (mW cI cJ cZ a (0) (lds) M) H := by exact hP
          have hDm : va_D A (mW cI cJ cZ a (0) (lds) M) := by exact hD
          refine wc_VWi (As := [.int (nI (2))]) (rest := []) (wf := mWu cI cJ cZ a) ⟨hx, hb, hml, hown, hts⟩ (c_X6_fails l D cI cJ cZ a (0) (lds) M hM (2) (by omega) H.size) (cwV 1 hts gX6_hit_X6_fails rfl rfl rfl (by decide +kernel) ⟨Nat.le_of_ble_eq_true rfl, Nat.le_of_ble_eq_true rfl⟩) hPm hK hDm hS hA 0 rfl rfl rfl hl.1 rfl (Nat.le_of_ble_eq_true rfl) dX6_hit_43 ⟨Nat.zero_le _, Nat.zero_le _⟩ (fun rr u16 hq16 H locs hP hD hS => ?_)
          obtain ⟨hr16, hu16⟩ := hq16
          subst hr16
          subst hu16
          have hP : va_P D vwCl (mX cI cJ cZ a (2) (lds) (m_n M) (m_sn M) (m_vn M) (m_rn M) (m_pn M) (m_nw M) (m_grp M) (m_key M) (m_srt M) (m_sd M) (m_go M) (m_seg M) (m_la M) (m_isN M) (m_drp M) (m_has M) (m_sees M) (m_isC M) (m_isG M) (m_ov M) (m_st M) (m_vo M) (m_ko M) (m_sl M) (m_sc M) (m_kp M) (m_en M) (m_pg M)) H := hP
          have hD : va_D A (mX cI cJ cZ a (2) (lds) (m_n M) (m_sn M) (m_vn M) (m_rn M) (m_pn M) (m_nw M) (m_grp M) (m_key M) (m_srt M) (m_sd M) (m_go M) (m_seg M) (m_la M) (m_isN M) (m_drp M) (m_has M) (m_sees M) (m_isC M) (m_isG M) (m_ov M) (m_st M) (m_vo M) (m_ko M) (m_sl M) (m_sc M) (m_kp M) (m_en M) (m_pg M)) := hD
          have hPm : va_P D vwCl (mW cI cJ cZ a (2) (lds) M) H := by exact hP
          have hDm : va_D A (mW cI cJ cZ a (2) (lds) M) := by exact hD
          exact W.iret (v := nI (0)) hx hb hr (fun t ht hW => ⟨⟨_, (2, lds, M), rfl, ⟨(by simp only [hitR]; (repeat' split) <;> first | rfl | (exfalso; omega)), (by simp only [hitT]; (repeat' split) <;> first | rfl | (exfalso; omega)), rfl⟩, gb_mk ht hW hPm hK hDm⟩, hS.F ht⟩) hS.2.2 dX6_hit_46
      · refine lv_aload_n hx hb dX6_hit_28 rfl (lv_at hl 0 rfl) ?_
        refine lv_iconst (v := nI (1)) hx hb dX6_hit_29 (by decide) ?_
        have hPm : va_P D vwCl (mW cI cJ cZ a (0) (lds) M) H := by exact hP
        have hDm : va_D A (mW cI cJ cZ a (0) (lds) M) := by exact hD
        refine wc_VWi (As := [.int (nI (1))]) (rest := []) (wf := mWu cI cJ cZ a) ⟨hx, hb, hml, hown, hts⟩ (c_X6_fails l D cI cJ cZ a (0) (lds) M hM (1) (by omega) H.size) (cwV 1 hts gX6_hit_X6_fails rfl rfl rfl (by decide +kernel) ⟨Nat.le_of_ble_eq_true rfl, Nat.le_of_ble_eq_true rfl⟩) hPm hK hDm hS hA 0 rfl rfl rfl hl.1 rfl (Nat.le_of_ble_eq_true rfl) dX6_hit_30 ⟨Nat.zero_le _, Nat.zero_le _⟩ (fun rr u17 hq17 H locs hP hD hS => ?_)
        obtain ⟨hr17, hu17⟩ := hq17
        subst hr17
        subst hu17
        have hP : va_P D vwCl (mX cI cJ cZ a (1) (lds) (m_n M) (m_sn M) (m_vn M) (m_rn M) (m_pn M) (m_nw M) (m_grp M) (m_key M) (m_srt M) (m_sd M) (m_go M) (m_seg M) (m_la M) (m_isN M) (m_drp M) (m_has M) (m_sees M) (m_isC M) (m_isG M) (m_ov M) (m_st M) (m_vo M) (m_ko M) (m_sl M) (m_sc M) (m_kp M) (m_en M) (m_pg M)) H := hP
        have hD : va_D A (mX cI cJ cZ a (1) (lds) (m_n M) (m_sn M) (m_vn M) (m_rn M) (m_pn M) (m_nw M) (m_grp M) (m_key M) (m_srt M) (m_sd M) (m_go M) (m_seg M) (m_la M) (m_isN M) (m_drp M) (m_has M) (m_sees M) (m_isC M) (m_isG M) (m_ov M) (m_st M) (m_vo M) (m_ko M) (m_sl M) (m_sc M) (m_kp M) (m_en M) (m_pg M)) := hD
        have hPm : va_P D vwCl (mW cI cJ cZ a (1) (lds) M) H := by exact hP
        have hDm : va_D A (mW cI cJ cZ a (1) (lds) M) := by exact hD
        exact W.iret (v := nI (0)) hx hb hr (fun t ht hW => ⟨⟨_, (1, lds, M), rfl, ⟨(by simp only [hitR]; (repeat' split) <;> first | rfl | (exfalso; omega)), (by simp only [hitT]; (repeat' split) <;> first | rfl | (exfalso; omega)), rfl⟩, gb_mk ht hW hPm hK hDm⟩, hS.F ht⟩) hS.2.2 dX6_hit_33
def rm_X6_place : Room := { frames := 3, cells := 0, slots := 0, locals := 81 }
set_option maxHeartbeats 4000000 in
set_option maxRecDepth 100000 in
/-- which hit an object is -/
theorem c_X6_place (l : Launch) (D : va_G) (cI cJ cZ : ClassId) (a : Nat → Nat) (th : Nat) (lds : Nat → Bool) (M : MT) (hM : mOk M) (x y : Int32) (sd : Int64) (z : Int32) (sz : Nat) : Met l yX6_place wsX6_place rm_X6_place (va_Pc [.ref (a 0), .int (x), .int (y), .long (sd), .int (z)] (GW D (tyW cI cJ cZ) (mW cI cJ cZ a (th) (lds) M) sz)) (va_Qi (fun rr u => rr = placeR M x y sd z ∧ u.1 = placeT M x y z ∧ u.2.2 = M) (fun u => GB D (tyW cI cJ cZ) (va_A (mW cI cJ cZ a (th) (lds) M) sz) (mWu cI cJ cZ a u)) (va_A (mW cI cJ cZ a (th) (lds) M) sz)) 0 0 (va_A (mW cI cJ cZ a (th) (lds) M) sz) := by
  obtain ⟨hn, hsn, hvn, hrn, hpn, hnw, h_seg, h_la, h_st, h_vo, h_ko, h_sl, h_sc, h_kp, h_en, h_pg, hvo, hko, hsl, hsc⟩ := id hM
  have hixx := ix_c x
  have hixy := ix_c y
  have hixz := ix_c z
  refine Met.ofW (cc := cX6_place) (maxL := 6) (ret := (some .int)) (by decide) rfl ?_
  intro p e s m args below meth c s₁ B hml hv
  obtain ⟨rfl, hsz, hP, hK, hD0⟩ := hv
  have hx := B.exec
  have hb := B.bytes
  have hr := B.returns
  have hts := atoms_spec (ws := wsX6_place) B.pre
  have hown : s.vm.findClass RX6 = some m.cls := findClass_of_methodNamed B.named
  have hlocks := B.notSynchronized
  subst hsz
  have hD := hD0.self (sz := s.heap.size)
  generalize hAe : va_A (mW cI cJ cZ a (th) (lds) M) s.heap.size = A at hD ⊢
  have hA : ∀ q : Nat, s.heap.size ≤ q → A q := fun q h => by rw [← hAe]; exact Or.inr h
  have hS : va_S A s.heap s.heap [] := va_S.rf
  have hP : va_P D vwCl (mX cI cJ cZ a (th) (lds) (m_n M) (m_sn M) (m_vn M) (m_rn M) (m_pn M) (m_nw M) (m_grp M) (m_key M) (m_srt M) (m_sd M) (m_go M) (m_seg M) (m_la M) (m_isN M) (m_drp M) (m_has M) (m_sees M) (m_isC M) (m_isG M) (m_ov M) (m_st M) (m_vo M) (m_ko M) (m_sl M) (m_sc M) (m_kp M) (m_en M) (m_pg M)) s.heap := hP
  have hD : va_D A (mX cI cJ cZ a (th) (lds) (m_n M) (m_sn M) (m_vn M) (m_rn M) (m_pn M) (m_nw M) (m_grp M) (m_key M) (m_srt M) (m_sd M) (m_go M) (m_seg M) (m_la M) (m_isN M) (m_drp M) (m_has M) (m_sees M) (m_isC M) (m_isG M) (m_ov M) (m_st M) (m_vo M) (m_ko M) (m_sl M) (m_sc M) (m_kp M) (m_en M) (m_pg M)) := hD
  have hiX6 : ∀ w ∈ wsX60, w ∈ wsX6_place := by decide +kernel
  have hf0 := hts (.fieldLink RX6 81 "GroupCursorsModel" "thrown" "I") (by decide +kernel)
  have hf1 := hts (.fieldLink RX6 97 "GroupCursorsModel" "objects" "I") (by decide +kernel)
  have hl := lv_entry ([.ref (a 0), .int (x), .int (y), .long (sd), .int (z)]) (n := 6) (Nat.le_of_ble_eq_true rfl)
  rw [lg_entry_eq]
  generalize (lg_sl ([.ref (a 0), .int (x), .int (y), .long (sd), .int (z)]) ++ List.replicate (6 - (lg_sl ([.ref (a 0), .int (x), .int (y), .long (sd), .int (z)])).length) Slot.unset).toArray = ls at hl ⊢
  have hl : lv_has ls 6 [(0, .ref (a 0)), (1, .int (x)), (2, .int (y)), (3, .long (sd)), (5, .int (z))] := hl
  refine lv_aload_n hx hb dX6_place_0 rfl (lv_at hl 0 rfl) ?_
  refine lv_iconst (v := nI (0)) hx hb dX6_place_1 (by decide) ?_
  refine va_put (ci := 6) (v := .int (nI (0))) (ty := .int) (C := RX6) (T := TX6) (N := 30) hx hb hts hiX6 tyX6 tyX6_ok nmX6 hown hK hP hD hS 0 rfl rfl 0 (by decide) hf0 (fun _ h9 => h9) rfl (by decide +kernel) rfl rfl (Nat.le_of_ble_eq_true rfl) dX6_place_2 (fun H locs hP hD hS => ?_)
  have hP : va_P D vwCl (mX cI cJ cZ a (0) (lds) (m_n M) (m_sn M) (m_vn M) (m_rn M) (m_pn M) (m_nw M) (m_grp M) (m_key M) (m_srt M) (m_sd M) (m_go M) (m_seg M) (m_la M) (m_isN M) (m_drp M) (m_has M) (m_sees M) (m_isC M) (m_isG M) (m_ov M) (m_st M) (m_vo M) (m_ko M) (m_sl M) (m_sc M) (m_kp M) (m_en M) (m_pg M)) H := hP
  have hD : va_D A (mX cI cJ cZ a (0) (lds) (m_n M) (m_sn M) (m_vn M) (m_rn M) (m_pn M) (m_nw M) (m_grp M) (m_key M) (m_srt M) (m_sd M) (m_go M) (m_seg M) (m_la M) (m_isN M) (m_drp M) (m_has M) (m_sees M) (m_isC M) (m_isG M) (m_ov M) (m_st M) (m_vo M) (m_ko M) (m_sl M) (m_sc M) (m_kp M) (m_en M) (m_pg M)) := hD
  refine lv_aload_n hx hb dX6_place_5 rfl (lv_at hl 0 rfl) ?_
  refine lv_iload_n hx hb dX6_place_6 rfl (lv_at hl 1 rfl) ?_
  have hPm : va_P D vwCl (mW cI cJ cZ a (0) (lds) M) H := by exact hP
  refine wc_Vi (As := [.int (x)]) (rest := []) ⟨hx, hb, hml, hown, hts⟩ (c_X6_isView l D cI cJ cZ a (0) (lds) M hM (x)) (cwV 1 hts gX6_place_X6_isView rfl rfl rfl (by decide +kernel) ⟨Nat.le_of_ble_eq_true rfl, Nat.le_of_ble_eq_true rfl⟩) hPm hK 0 rfl rfl rfl hl.1 rfl (Nat.le_of_ble_eq_true rfl) dX6_place_7 ⟨Nat.zero_le _, Nat.zero_le _⟩ (fun rr hq1 => ?_)
  have hq1 : rr = bI (decide (0 ≤ (x).toInt ∧ (x).toInt < (m_vn M : Int))) := hq1
  subst hq1
  refine wb_if_eq (tgt := 27) hx hb dX6_place_10 (by decide) (fun c10_2 => ?_) (fun c10_2 => ?_)
  · have c10_2p := of_decide_eq_false c10_2
    refine lv_aload_n hx hb dX6_place_27 rfl (lv_at hl 0 rfl) ?_
    refine lv_iconst (v := nI (1)) hx hb dX6_place_28 (by decide) ?_
    have hPm : va_P D vwCl (mW cI cJ cZ a (0) (lds) M) H := by exact hP
    have hDm : va_D A (mW cI cJ cZ a (0) (lds) M) := by exact hD
    refine wc_VWi (As := [.int (nI (1))]) (rest := []) (wf := mWu cI cJ cZ a) ⟨hx, hb, hml, hown, hts⟩ (c_X6_fails l D cI cJ cZ a (0) (lds) M hM (1) (by omega) H.size) (cwV 1 hts gX6_place_X6_fails rfl rfl rfl (by decide +kernel) ⟨Nat.le_of_ble_eq_true rfl, Nat.le_of_ble_eq_true rfl⟩) hPm hK hDm hS hA 0 rfl rfl rfl hl.1 rfl (Nat.le_of_ble_eq_true rfl) dX6_place_29 ⟨Nat.zero_le _, Nat.zero_le _⟩ (fun rr u3 hq3 H locs hP hD hS => ?_)
    obtain ⟨hr3, hu3⟩ := hq3
    subst hr3
    subst hu3
    have hP : va_P D vwCl (mX cI cJ cZ a (1) (lds) (m_n M) (m_sn M) (m_vn M) (m_rn M) (m_pn M) (m_nw M) (m_grp M) (m_key M) (m_srt M) (m_sd M) (m_go M) (m_seg M) (m_la M) (m_isN M) (m_drp M) (m_has M) (m_sees M) (m_isC M) (m_isG M) (m_ov M) (m_st M) (m_vo M) (m_ko M) (m_sl M) (m_sc M) (m_kp M) (m_en M) (m_pg M)) H := hP
    have hD : va_D A (mX cI cJ cZ a (1) (lds) (m_n M) (m_sn M) (m_vn M) (m_rn M) (m_pn M) (m_nw M) (m_grp M) (m_key M) (m_srt M) (m_sd M) (m_go M) (m_seg M) (m_la M) (m_isN M) (m_drp M) (m_has M) (m_sees M) (m_isC M) (m_isG M) (m_ov M) (m_st M) (m_vo M) (m_ko M) (m_sl M) (m_sc M) (m_kp M) (m_en M) (m_pg M)) := hD
    have hPm : va_P D vwCl (mW cI cJ cZ a (1) (lds) M) H := by exact hP
    have hDm : va_D A (mW cI cJ cZ a (1) (lds) M) := by exact hD
    exact W.iret (v := nI (0)) hx hb hr (fun t ht hW => ⟨⟨_, (1, lds, M), rfl, ⟨(by simp only [placeR]; (repeat' split) <;> first | rfl | (exfalso; omega)), (by simp only [placeT]; (repeat' split) <;> first | rfl | (exfalso; omega)), rfl⟩, gb_mk ht hW hPm hK hDm⟩, hS.F ht⟩) hS.2.2 dX6_place_32
  · have c10_2p := of_decide_eq_true c10_2
    refine lv_iload hx hb dX6_place_13 (lv_at hl 4 rfl) ?_
    refine wz_if_lt (tgt := 27) hx hb ((z).toInt) rfl dX6_place_15 (by decide) (fun c15_4 => ?_) (fun c15_4 => ?_)
    · refine lv_aload_n hx hb dX6_place_27 rfl (lv_at hl 0 rfl) ?_
      refine lv_iconst (v := nI (1)) hx hb dX6_place_28 (by decide) ?_
      have hPm : va_P D vwCl (mW cI cJ cZ a (0) (lds) M) H := by exact hP
      have hDm : va_D A (mW cI cJ cZ a (0) (lds) M) := by exact hD
      refine wc_VWi (As := [.int (nI (1))]) (rest := []) (wf := mWu cI cJ cZ a) ⟨hx, hb, hml, hown, hts⟩ (c_X6_fails l D cI cJ cZ a (0) (lds) M hM (1) (by omega) H.size) (cwV 1 hts gX6_place_X6_fails rfl rfl rfl (by decide +kernel) ⟨Nat.le_of_ble_eq_true rfl, Nat.le_of_ble_eq_true rfl⟩) hPm hK hDm hS hA 0 rfl rfl rfl hl.1 rfl (Nat.le_of_ble_eq_true rfl) dX6_place_29 ⟨Nat.zero_le _, Nat.zero_le _⟩ (fun rr u5 hq5 H locs hP hD hS => ?_)
      obtain ⟨hr5, hu5⟩ := hq5
      subst hr5
      subst hu5
      have hP : va_P D vwCl (mX cI cJ cZ a (1) (lds) (m_n M) (m_sn M) (m_vn M) (m_rn M) (m_pn M) (m_nw M) (m_grp M) (m_key M) (m_srt M) (m_sd M) (m_go M) (m_seg M) (m_la M) (m_isN M) (m_drp M) (m_has M) (m_sees M) (m_isC M) (m_isG M) (m_ov M) (m_st M) (m_vo M) (m_ko M) (m_sl M) (m_sc M) (m_kp M) (m_en M) (m_pg M)) H := hP
      have hD : va_D A (mX cI cJ cZ a (1) (lds) (m_n M) (m_sn M) (m_vn M) (m_rn M) (m_pn M) (m_nw M) (m_grp M) (m_key M) (m_srt M) (m_sd M) (m_go M) (m_seg M) (m_la M) (m_isN M) (m_drp M) (m_has M) (m_sees M) (m_isC M) (m_isG M) (m_ov M) (m_st M) (m_vo M) (m_ko M) (m_sl M) (m_sc M) (m_kp M) (m_en M) (m_pg M)) := hD
      have hPm : va_P D vwCl (mW cI cJ cZ a (1) (lds) M) H := by exact hP
      have hDm : va_D A (mW cI cJ cZ a (1) (lds) M) := by exact hD
      exact W.iret (v := nI (0)) hx hb hr (fun t ht hW => ⟨⟨_, (1, lds, M), rfl, ⟨(by simp only [placeR]; (repeat' split) <;> first | rfl | (exfalso; omega)), (by simp only [placeT]; (repeat' split) <;> first | rfl | (exfalso; omega)), rfl⟩, gb_mk ht hW hPm hK hDm⟩, hS.F ht⟩) hS.2.2 dX6_place_32
    · refine lv_iload hx hb dX6_place_18 (lv_at hl 4 rfl) ?_
      refine lv_aload_n hx hb dX6_place_20 rfl (lv_at hl 0 rfl) ?_
      refine va_get (ci := 6) (v := .int (nI (m_n M))) (C := RX6) (T := TX6) (N := 30) hx hb hts hiX6 hown hK hP 0 rfl rfl 1 (by decide) hf1 (fun _ h9 => h9) rfl dX6_place_21 ?_
      refine wz_icmp_lt (tgt := 33) hx hb ((z).toInt) (((m_n M : Nat) : Int)) rfl (nI_z (by omega)) dX6_place_24 (by decide) (fun c24_6 => ?_) (fun c24_6 => ?_)
      · refine lv_iload_n hx hb dX6_place_33 rfl (lv_at hl 2 rfl) ?_
        have hPm : va_P D vwCl (mW cI cJ cZ a (0) (lds) M) H := by exact hP
        refine wc_Si (As := [.int (y)]) (rest := []) ⟨hx, hb, hml, hown, hts⟩ (c_X6_isKind l D cI cJ cZ a (0) (lds) M hM (y)) (va_cwS 1 hts gX6_place_X6_isKind rfl rfl rfl (by decide +kernel) ⟨Nat.le_of_ble_eq_true rfl, Nat.le_of_ble_eq_true rfl⟩) hPm hK rfl hl.1 rfl (Nat.le_of_ble_eq_true rfl) dX6_place_34 ⟨Nat.zero_le _, Nat.zero_le _⟩ (fun rr hq7 => ?_)
        have hq7 : rr = bI (decide (0 ≤ (y).toInt ∧ (y).toInt < 3)) := hq7
        subst hq7
        refine wb_if_ne (tgt := 46) hx hb dX6_place_37 (by decide) (fun c37_8 => ?_) (fun c37_8 => ?_)
        · have c37_8p := of_decide_eq_true c37_8
          refine lv_aload_n hx hb dX6_place_46 rfl (lv_at hl 0 rfl) ?_
          refine lv_iload_n hx hb dX6_place_47 rfl (lv_at hl 1 rfl) ?_
          refine ww_top (y := nI (ix x)) (ix_n (by omega)) ?_
          refine lv_iload hx hb dX6_place_48 (lv_at hl 4 rfl) ?_
          refine ww_top (y := nI (ix z)) (ix_n (by omega)) ?_
          have hPm : va_P D vwCl (mW cI cJ cZ a (0) (lds) M) H := by exact hP
          refine wc_Vi (As := [.int (nI (ix x)), .int (nI (ix z))]) (rest := []) ⟨hx, hb, hml, hown, hts⟩ (c_X6_isIn l D cI cJ cZ a (0) (lds) M hM (ix x) (ix z) (by omega) (by omega)) (cwV 2 hts gX6_place_X6_isIn rfl rfl rfl (by decide +kernel) ⟨Nat.le_of_ble_eq_true rfl, Nat.le_of_ble_eq_true rfl⟩) hPm hK 0 rfl rfl rfl hl.1 rfl (Nat.le_of_ble_eq_true rfl) dX6_place_50 ⟨Nat.zero_le _, Nat.zero_le _⟩ (fun rr hq9 => ?_)
          have hq9 : rr = bI (m_in M (ix x) (ix z)) := hq9
          subst hq9
          refine wb_if_eq (tgt := 68) hx hb dX6_place_53 (by decide) (fun c53_10 => ?_) (fun c53_10 => ?_)
          · refine lv_iconst (v := zI ((-1))) hx hb dX6_place_68 (by decide) ?_
            have hPm : va_P D vwCl (mW cI cJ cZ a (0) (lds) M) H := by exact hP
            have hDm : va_D A (mW cI cJ cZ a (0) (lds) M) := by exact hD
            exact W.iret (v := zI ((-1))) hx hb hr (fun t ht hW => ⟨⟨_, (0, lds, M), rfl, ⟨(by simp only [placeR, c53_10, if_true, if_false, eq_self, Bool.true_eq_false, Bool.false_eq_true, ite_true, ite_false, reduceIte]; (repeat' split) <;> first | rfl | (exfalso; omega)), (by simp only [placeT, c53_10, if_true, if_false, eq_self, Bool.true_eq_false, Bool.false_eq_true, ite_true, ite_false, reduceIte]; (repeat' split) <;> first | rfl | (exfalso; omega)), rfl⟩, gb_mk ht hW hPm hK hDm⟩, hS.F ht⟩) hS.2.2 dX6_place_69
          · refine lv_aload_n hx hb dX6_place_56 rfl (lv_at hl 0 rfl) ?_
            refine lv_iload_n hx hb dX6_place_57 rfl (lv_at hl 1 rfl) ?_
            refine ww_top (y := nI (ix x)) (ix_n (by omega)) ?_
            refine lv_iload hx hb dX6_place_58 (lv_at hl 4 rfl) ?_
            refine ww_top (y := nI (ix z)) (ix_n (by omega)) ?_
            refine lv_iload_n hx hb dX6_place_60 rfl (lv_at hl 2 rfl) ?_
            refine ww_top (y := nI (ix y)) (ix_n (by omega)) ?_
            refine lv_lload_n hx hb dX6_place_61 rfl (lv_at hl 3 rfl) ?_
            have hPm : va_P D vwCl (mW cI cJ cZ a (0) (lds) M) H := by exact hP
            refine wc_Vi (As := [.int (nI (ix x)), .int (nI (ix z)), .int (nI (ix y)), .long (sd)]) (rest := []) ⟨hx, hb, hml, hown, hts⟩ (c_X6_rank l D cI cJ cZ a (0) (lds) M hM (ix x) (ix z) (ix y) (sd) (by omega) (by omega) (by omega)) (cwV 4 hts gX6_place_X6_rank rfl rfl rfl (by decide +kernel) ⟨Nat.le_of_ble_eq_true rfl, Nat.le_of_ble_eq_true rfl⟩) hPm hK 0 rfl rfl rfl hl.1 rfl (Nat.le_of_ble_eq_true rfl) dX6_place_62 ⟨Nat.zero_le _, Nat.zero_le _⟩ (fun rr hq11 => ?_)
            have hq11 : rr = nI (rankM M (ix x) (ix z) (ix y) (sd)) := hq11
            subst hq11
            have hle12 : rankM M (ix x) (ix z) (ix y) (sd) ≤ 300 := Nat.le_trans (cnt_le _ _) hn
            refine lv_goto (tgt := 69) hx hb dX6_place_65 (by decide) ?_
            have hPm : va_P D vwCl (mW cI cJ cZ a (0) (lds) M) H := by exact hP
            have hDm : va_D A (mW cI cJ cZ a (0) (lds) M) := by exact hD
            exact W.iret (v := nI (rankM M (ix x) (ix z) (ix y) (sd))) hx hb hr (fun t ht hW => ⟨⟨_, (0, lds, M), rfl, ⟨(by simp only [placeR, c53_10, if_true, if_false, eq_self, Bool.true_eq_false, Bool.false_eq_true, ite_true, ite_false, reduceIte]; (repeat' split) <;> first | rfl | (exfalso; omega)), (by simp only [placeT, c53_10, if_true, if_false, eq_self, Bool.true_eq_false, Bool.false_eq_true, ite_true, ite_false, reduceIte]; (repeat' split) <;> first | rfl | (exfalso; omega)), rfl⟩, gb_mk ht hW hPm hK hDm⟩, hS.F ht⟩) hS.2.2 dX6_place_69
        · have c37_8p := of_decide_eq_false c37_8
          refine lv_aload_n hx hb dX6_place_40 rfl (lv_at hl 0 rfl) ?_
          refine lv_iconst (v := nI (2)) hx hb dX6_place_41 (by decide) ?_
          have hPm : va_P D vwCl (mW cI cJ cZ a (0) (lds) M) H := by exact hP
          have hDm : va_D A (mW cI cJ cZ a (0) (lds) M) := by exact hD
          refine wc_VWi (As := [.int (nI (2))]) (rest := []) (wf := mWu cI cJ cZ a) ⟨hx, hb, hml, hown, hts⟩ (c_X6_fails l D cI cJ cZ a (0) (lds) M hM (2) (by omega) H.size) (cwV 1 hts gX6_place_X6_fails rfl rfl rfl (by decide +kernel) ⟨Nat.le_of_ble_eq_true rfl, Nat.le_of_ble_eq_true rfl⟩) hPm hK hDm hS hA 0 rfl rfl rfl hl.1 rfl (Nat.le_of_ble_eq_true rfl) dX6_place_42 ⟨Nat.zero_le _, Nat.zero_le _⟩ (fun rr u13 hq13 H locs hP hD hS => ?_)
          obtain ⟨hr13, hu13⟩ := hq13
          subst hr13
          subst hu13
          have hP : va_P D vwCl (mX cI cJ cZ a (2) (lds) (m_n M) (m_sn M) (m_vn M) (m_rn M) (m_pn M) (m_nw M) (m_grp M) (m_key M) (m_srt M) (m_sd M) (m_go M) (m_seg M) (m_la M) (m_isN M) (m_drp M) (m_has M) (m_sees M) (m_isC M) (m_isG M) (m_ov M) (m_st M) (m_vo M) (m_ko M) (m_sl M) (m_sc M) (m_kp M) (m_en M) (m_pg M)) H := hP
          have hD : va_D A (mX cI cJ cZ a (2) (lds) (m_n M) (m_sn M) (m_vn M) (m_rn M) (m_pn M) (m_nw M) (m_grp M) (m_key M) (m_srt M) (m_sd M) (m_go M) (m_seg M) (m_la M) (m_isN M) (m_drp M) (m_has M) (m_sees M) (m_isC M) (m_isG M) (m_ov M) (m_st M) (m_vo M) (m_ko M) (m_sl M) (m_sc M) (m_kp M) (m_en M) (m_pg M)) := hD
          have hPm : va_P D vwCl (mW cI cJ cZ a (2) (lds) M) H := by exact hP
          have hDm : va_D A (mW cI cJ cZ a (2) (lds) M) := by exact hD
          exact W.iret (v := nI (0)) hx hb hr (fun t ht hW => ⟨⟨_, (2, lds, M), rfl, ⟨(by simp only [placeR]; (repeat' split) <;> first | rfl | (exfalso; omega)), (by simp only [placeT]; (repeat' split) <;> first | rfl | (exfalso; omega)), rfl⟩, gb_mk ht hW hPm hK hDm⟩, hS.F ht⟩) hS.2.2 dX6_place_45
      · refine lv_aload_n hx hb dX6_place_27 rfl (lv_at hl 0 rfl) ?_
        refine lv_iconst (v := nI (1)) hx hb dX6_place_28 (by decide) ?_
        have hPm : va_P D vwCl (mW cI cJ cZ a (0) (lds) M) H := by exact hP
        have hDm : va_D A (mW cI cJ cZ a (0) (lds) M) := by exact hD
        refine wc_VWi (As := [.int (nI (1))]) (rest := []) (wf := mWu cI cJ cZ a) ⟨hx, hb, hml, hown, hts⟩ (c_X6_fails l D cI cJ cZ a (0) (lds) M hM (1) (by omega) H.size) (cwV 1 hts gX6_place_X6_fails rfl rfl rfl (by decide +kernel) ⟨Nat.le_of_ble_eq_true rfl, Nat.le_of_ble_eq_true rfl⟩) hPm hK hDm hS hA 0 rfl rfl rfl hl.1 rfl (Nat.le_of_ble_eq_true rfl) dX6_place_29 ⟨Nat.zero_le _, Nat.zero_le _⟩ (fun rr u14 hq14 H locs hP hD hS => ?_)
        obtain ⟨hr14, hu14⟩ := hq14
        subst hr14
        subst hu14
        have hP : va_P D vwCl (mX cI cJ cZ a (1) (lds) (m_n M) (m_sn M) (m_vn M) (m_rn M) (m_pn M) (m_nw M) (m_grp M) (m_key M) (m_srt M) (m_sd M) (m_go M) (m_seg M) (m_la M) (m_isN M) (m_drp M) (m_has M) (m_sees M) (m_isC M) (m_isG M) (m_ov M) (m_st M) (m_vo M) (m_ko M) (m_sl M) (m_sc M) (m_kp M) (m_en M) (m_pg M)) H := hP
        have hD : va_D A (mX cI cJ cZ a (1) (lds) (m_n M) (m_sn M) (m_vn M) (m_rn M) (m_pn M) (m_nw M) (m_grp M) (m_key M) (m_srt M) (m_sd M) (m_go M) (m_seg M) (m_la M) (m_isN M) (m_drp M) (m_has M) (m_sees M) (m_isC M) (m_isG M) (m_ov M) (m_st M) (m_vo M) (m_ko M) (m_sl M) (m_sc M) (m_kp M) (m_en M) (m_pg M)) := hD
        have hPm : va_P D vwCl (mW cI cJ cZ a (1) (lds) M) H := by exact hP
        have hDm : va_D A (mW cI cJ cZ a (1) (lds) M) := by exact hD
        exact W.iret (v := nI (0)) hx hb hr (fun t ht hW => ⟨⟨_, (1, lds, M), rfl, ⟨(by simp only [placeR]; (repeat' split) <;> first | rfl | (exfalso; omega)), (by simp only [placeT]; (repeat' split) <;> first | rfl | (exfalso; omega)), rfl⟩, gb_mk ht hW hPm hK hDm⟩, hS.F ht⟩) hS.2.2 dX6_place_32
def rm_X6_leader : Room := { frames := 3, cells := 0, slots := 0, locals := 81 }
set_option maxHeartbeats 4000000 in
set_option maxRecDepth 100000 in
/-- the first object of group k -/
theorem c_X6_leader (l : Launch) (D : va_G) (cI cJ cZ : ClassId) (a : Nat → Nat) (th : Nat) (lds : Nat → Bool) (M : MT) (hM : mOk M) (v kd : Nat) (sd : Int64) (k : Nat) (hv : v < 30) (hkd : kd < 3) (hk9 : k < 300) (sz : Nat) : Met l yX6_leader wsX6_leader rm_X6_leader (va_Pc [.ref (a 0), .int (nI (v)), .int (nI (kd)), .long (sd), .int (nI (k))] (GW D (tyW cI cJ cZ) (mW cI cJ cZ a (th) (lds) M) sz)) (va_Qi (fun rr u => rr = zI (leaderM M v kd sd k) ∧ u.1 = th ∧ u.2.2 = M) (fun u => GB D (tyW cI cJ cZ) (va_A (mW cI cJ cZ a (th) (lds) M) sz) (mWu cI cJ cZ a u)) (va_A (mW cI cJ cZ a (th) (lds) M) sz)) 0 0 (va_A (mW cI cJ cZ a (th) (lds) M) sz) := by
  obtain ⟨hn, hsn, hvn, hrn, hpn, hnw, h_seg, h_la, h_st, h_vo, h_ko, h_sl, h_sc, h_kp, h_en, h_pg, hvo, hko, hsl, hsc⟩ := id hM
  refine Met.ofW (cc := cX6_leader) (maxL := 9) (ret := (some .int)) (by decide) rfl ?_
  intro p e s m args below meth c s₁ B hml hv
  obtain ⟨rfl, hsz, hP, hK, hD0⟩ := hv
  have hx := B.exec
  have hb := B.bytes
  have hr := B.returns
  have hts := atoms_spec (ws := wsX6_leader) B.pre
  have hown : s.vm.findClass RX6 = some m.cls := findClass_of_methodNamed B.named
  have hlocks := B.notSynchronized
  subst hsz
  have hD := hD0.self (sz := s.heap.size)
  generalize hAe : va_A (mW cI cJ cZ a (th) (lds) M) s.heap.size = A at hD ⊢
  have hA : ∀ q : Nat, s.heap.size ≤ q → A q := fun q h => by rw [← hAe]; exact Or.inr h
  have hS : va_S A s.heap s.heap [] := va_S.rf
  have hP : va_P D vwCl (mX cI cJ cZ a (th) (lds) (m_n M) (m_sn M) (m_vn M) (m_rn M) (m_pn M) (m_nw M) (m_grp M) (m_key M) (m_srt M) (m_sd M) (m_go M) (m_seg M) (m_la M) (m_isN M) (m_drp M) (m_has M) (m_sees M) (m_isC M) (m_isG M) (m_ov M) (m_st M) (m_vo M) (m_ko M) (m_sl M) (m_sc M) (m_kp M) (m_en M) (m_pg M)) s.heap := hP
  have hD : va_D A (mX cI cJ cZ a (th) (lds) (m_n M) (m_sn M) (m_vn M) (m_rn M) (m_pn M) (m_nw M) (m_grp M) (m_key M) (m_srt M) (m_sd M) (m_go M) (m_seg M) (m_la M) (m_isN M) (m_drp M) (m_has M) (m_sees M) (m_isC M) (m_isG M) (m_ov M) (m_st M) (m_vo M) (m_ko M) (m_sl M) (m_sc M) (m_kp M) (m_en M) (m_pg M)) := hD
  have hiX6 : ∀ w ∈ wsX60, w ∈ wsX6_leader := by decide +kernel
  have hf0 := hts (.fieldLink RX6 97 "GroupCursorsModel" "objects" "I") (by decide +kernel)
  have hf1 := hts (.fieldLink RX6 78 "GroupCursorsModel" "leads" "[Z") (by decide +kernel)
  have hl := lv_entry ([.ref (a 0), .int (nI (v)), .int (nI (kd)), .long (sd), .int (nI (k))]) (n := 9) (Nat.le_of_ble_eq_true rfl)
  rw [lg_entry_eq]
  generalize (lg_sl ([.ref (a 0), .int (nI (v)), .int (nI (kd)), .long (sd), .int (nI (k))]) ++ List.replicate (9 - (lg_sl ([.ref (a 0), .int (nI (v)), .int (nI (kd)), .long (sd), .int (nI (k))])).length) Slot.unset).toArray = ls at hl ⊢
  have hl : lv_has ls 9 [(0, .ref (a 0)), (1, .int (nI (v))), (2, .int (nI (kd))), (3, .long (sd)), (5, .int (nI (k)))] := hl
  refine lv_iconst (v := nI (0)) hx hb dX6_leader_0 (by decide) ?_
  refine lv_istore (lv' := [(6, .int (nI (0))), (0, .ref (a 0)), (1, .int (nI (v))), (2, .int (nI (kd))), (3, .long (sd)), (5, .int (nI (k)))]) hx hb dX6_leader_1 hl (by decide) rfl (fun ls hl => ?_)
  have hlp3 : ∀ (d : Nat) (i : Nat) (H : Heap) (locs : List Loc), m_n M - i < d → (i ≤ m_n M) → va_P D vwCl (mX cI cJ cZ a (th) (ldL M v kd sd lds i) (m_n M) (m_sn M) (m_vn M) (m_rn M) (m_pn M) (m_nw M) (m_grp M) (m_key M) (m_srt M) (m_sd M) (m_go M) (m_seg M) (m_la M) (m_isN M) (m_drp M) (m_has M) (m_sees M) (m_isC M) (m_isG M) (m_ov M) (m_st M) (m_vo M) (m_ko M) (m_sl M) (m_sc M) (m_kp M) (m_en M) (m_pg M)) H → va_D A (mX cI cJ cZ a (th) (ldL M v kd sd lds i) (m_n M) (m_sn M) (m_vn M) (m_rn M) (m_pn M) (m_nw M) (m_grp M) (m_key M) (m_srt M) (m_sd M) (m_go M) (m_seg M) (m_la M) (m_isN M) (m_drp M) (m_has M) (m_sees M) (m_isC M) (m_isG M) (m_ov M) (m_st M) (m_vo M) (m_ko M) (m_sl M) (m_sc M) (m_kp M) (m_en M) (m_pg M)) → va_S A s.heap H locs → ∀ (ls : Array Slot), lv_has ls 9 [(0, .ref (a 0)), (1, .int (nI (v))), (2, .int (nI (kd))), (3, .long (sd)), (5, .int (nI (k))), (6, .int (nI (i)))] → W p l e (headSpec wsX6_leader rm_X6_leader).room s m ([.ref (a 0), .int (nI (v)), .int (nI (kd)), .long (sd), .int (nI (k))] : List Value).toArray below meth c H locs (0) (0) (MQ below (va_Qi (fun rr u => rr = zI (leaderM M v kd sd k) ∧ u.1 = th ∧ u.2.2 = M) (fun u => GB D (tyW cI cJ cZ) A (mWu cI cJ cZ a u)) A) ([.ref (a 0), .int (nI (v)), .int (nI (kd)), .long (sd), .int (nI (k))] : List Value).toArray s 0 0 A) (F0 m 3 ls []) := by
    intro d
    induction d with
    | zero => intro i H locs hd3; exact absurd hd3 (Nat.not_lt_zero _)
    | succ d ih3 =>
      intro i H locs hd3 hik hP hD hS ls hl
      refine lv_iload hx hb dX6_leader_3 (lv_at hl 5 rfl) ?_
      refine lv_aload_n hx hb dX6_leader_5 rfl (lv_at hl 0 rfl) ?_
      refine va_get (ci := 6) (v := .int (nI (m_n M))) (C := RX6) (T := TX6) (N := 30) hx hb hts hiX6 hown hK hP 0 rfl rfl 1 (by decide) hf0 (fun _ h9 => h9) rfl dX6_leader_6 ?_
      refine wn_icmp_ge (a := i) (b := m_n M) (tgt := 34) hx hb (nI_z (by omega)) (nI_z (by omega)) dX6_leader_9 (by decide) (fun c9_1 => ?_) (fun c9_1 => ?_)
      · have ei : i = m_n M := by omega
        rw [ei] at hP hD
        refine lv_iconst (v := nI (0)) hx hb dX6_leader_34 (by decide) ?_
        refine lv_istore (lv' := [(6, .int (nI (0))), (0, .ref (a 0)), (1, .int (nI (v))), (2, .int (nI (kd))), (3, .long (sd)), (5, .int (nI (k)))]) hx hb dX6_leader_35 hl (by decide) rfl (fun ls hl => ?_)
        have hlp37 : ∀ (d : Nat) (o : Nat), m_n M - o < d → (o ≤ fstB (leadP M v kd sd k) (m_n M)) → ∀ (ls : Array Slot), lv_has ls 9 [(0, .ref (a 0)), (1, .int (nI (v))), (2, .int (nI (kd))), (3, .long (sd)), (5, .int (nI (k))), (6, .int (nI (o)))] → W p l e (headSpec wsX6_leader rm_X6_leader).room s m ([.ref (a 0), .int (nI (v)), .int (nI (kd)), .long (sd), .int (nI (k))] : List Value).toArray below meth c H locs (0) (0) (MQ below (va_Qi (fun rr u => rr = zI (leaderM M v kd sd k) ∧ u.1 = th ∧ u.2.2 = M) (fun u => GB D (tyW cI cJ cZ) A (mWu cI cJ cZ a u)) A) ([.ref (a 0), .int (nI (v)), .int (nI (kd)), .long (sd), .int (nI (k))] : List Value).toArray s 0 0 A) (F0 m 37 ls []) := by
          intro d
          induction d with
          | zero => intro o  hd37; exact absurd hd37 (Nat.not_lt_zero _)
          | succ d ih37 =>
            intro o  hd37 hio  ls hl
            have hfl := fstB_le (leadP M v kd sd k) (m_n M)
            refine lv_iload hx hb dX6_leader_37 (lv_at hl 5 rfl) ?_
            refine lv_aload_n hx hb dX6_leader_39 rfl (lv_at hl 0 rfl) ?_
            refine va_get (ci := 6) (v := .int (nI (m_n M))) (C := RX6) (T := TX6) (N := 30) hx hb hts hiX6 hown hK hP 0 rfl rfl 1 (by decide) hf0 (fun _ h9 => h9) rfl dX6_leader_40 ?_
            refine wn_icmp_ge (a := o) (b := m_n M) (tgt := 136) hx hb (nI_z (by omega)) (nI_z (by omega)) dX6_leader_43 (by decide) (fun c43_2 => ?_) (fun c43_2 => ?_)
            · refine lv_iconst (v := zI ((-1))) hx hb dX6_leader_136 (by decide) ?_
              have hPm : va_P D vwCl (mW cI cJ cZ a (th) (ldL M v kd sd lds (m_n M)) M) H := by exact hP
              have hDm : va_D A (mW cI cJ cZ a (th) (ldL M v kd sd lds (m_n M)) M) := by exact hD
              exact W.iret (v := zI ((-1))) hx hb hr (fun t ht hW => ⟨⟨_, (th, ldL M v kd sd lds (m_n M), M), rfl, ⟨by rw [leaderM, if_neg (by omega)], rfl, rfl⟩, gb_mk ht hW hPm hK hDm⟩, hS.F ht⟩) hS.2.2 dX6_leader_137
            · refine lv_iconst (v := nI (0)) hx hb dX6_leader_46 (by decide) ?_
              refine lv_istore (lv' := [(7, .int (nI (0))), (0, .ref (a 0)), (1, .int (nI (v))), (2, .int (nI (kd))), (3, .long (sd)), (5, .int (nI (k))), (6, .int (nI (o)))]) hx hb dX6_leader_47 hl (by decide) rfl (fun ls hl => ?_)
              refine lv_iconst (v := nI (0)) hx hb dX6_leader_49 (by decide) ?_
              refine lv_istore (lv' := [(8, .int (nI (0))), (7, .int (nI (0))), (0, .ref (a 0)), (1, .int (nI (v))), (2, .int (nI (kd))), (3, .long (sd)), (5, .int (nI (k))), (6, .int (nI (o)))]) hx hb dX6_leader_50 hl (by decide) rfl (fun ls hl => ?_)
              have hlp52 : ∀ (d : Nat) (q : Nat) (k2 : Nat), m_n M - q < d → (q ≤ m_n M) → (k2 = cnt (pLd M v kd sd o) q) → ∀ (ls : Array Slot), lv_has ls 9 [(0, .ref (a 0)), (1, .int (nI (v))), (2, .int (nI (kd))), (3, .long (sd)), (5, .int (nI (k))), (6, .int (nI (o))), (7, .int (nI (k2))), (8, .int (nI (q)))] → W p l e (headSpec wsX6_leader rm_X6_leader).room s m ([.ref (a 0), .int (nI (v)), .int (nI (kd)), .long (sd), .int (nI (k))] : List Value).toArray below meth c H locs (0) (0) (MQ below (va_Qi (fun rr u => rr = zI (leaderM M v kd sd k) ∧ u.1 = th ∧ u.2.2 = M) (fun u => GB D (tyW cI cJ cZ) A (mWu cI cJ cZ a u)) A) ([.ref (a 0), .int (nI (v)), .int (nI (kd)), .long (sd), .int (nI (k))] : List Value).toArray s 0 0 A) (F0 m 52 ls []) := by
                intro d
                induction d with
                | zero => intro q k2  hd52; exact absurd hd52 (Nat.not_lt_zero _)
                | succ d ih52 =>
                  intro q k2  hd52 hqk hk  ls hl
                  have hcl := cnt_le (pLd M v kd sd o) q
                  refine lv_iload hx hb dX6_leader_52 (lv_at hl 7 rfl) ?_
                  refine lv_aload_n hx hb dX6_leader_54 rfl (lv_at hl 0 rfl) ?_
                  refine va_get (ci := 6) (v := .int (nI (m_n M))) (C := RX6) (T := TX6) (N := 30) hx hb hts hiX6 hown hK hP 0 rfl rfl 1 (by decide) hf0 (fun _ h9 => h9) rfl dX6_leader_55 ?_
                  refine wn_icmp_ge (a := q) (b := m_n M) (tgt := 110) hx hb (nI_z (by omega)) (nI_z (by omega)) dX6_leader_58 (by decide) (fun c58_3 => ?_) (fun c58_3 => ?_)
                  · refine lv_aload_n hx hb dX6_leader_110 rfl (lv_at hl 0 rfl) ?_
                    refine va_get (ci := 6) (v := .ref (a 23)) (C := RX6) (T := TX6) (N := 30) hx hb hts hiX6 hown hK hP 0 rfl rfl 29 (by decide) hf1 (fun _ h9 => h9) rfl dX6_leader_111 ?_
                    refine lv_iload hx hb dX6_leader_114 (lv_at hl 5 rfl) ?_
                    refine wa_z (i := o) (v := bI ((ldL M v kd sd lds (m_n M)) o)) hx hb hK hP 23 2 rfl rfl rfl (by omega) (by decide) dX6_leader_116 ?_
                    refine ww_top (y := bI (isFirstB M v o kd sd)) (by rw [ldL_at (by omega)]) ?_
                    refine wb_if_eq (tgt := 130) hx hb dX6_leader_117 (by decide) (fun c117_4 => ?_) (fun c117_4 => ?_)
                    · refine lv_iinc (v := nI (o + 1)) (lv' := [(6, .int (nI (o + 1))), (0, .ref (a 0)), (1, .int (nI (v))), (2, .int (nI (kd))), (3, .long (sd)), (5, .int (nI (k))), (7, .int (nI (k2))), (8, .int (nI (q)))]) hx hb dX6_leader_130 hl (k := 5) rfl (nI_inc _) (by decide) rfl (fun ls hl => ?_)
                      refine lv_goto (tgt := 37) hx hb dX6_leader_133 (by decide) ?_
                      exact ih37 (o + 1)  (by omega) (fst_next hio (by omega) (by simp [leadP, c117_4]))  ls (lv_sub hl [1, 2, 3, 4, 5, 0] rfl)
                    · refine lv_iload hx hb dX6_leader_120 (lv_at hl 6 rfl) ?_
                      refine lv_iload hx hb dX6_leader_122 (lv_at hl 4 rfl) ?_
                      refine wn_icmp_ne (a := k2) (b := k) (tgt := 130) hx hb (nI_z (by omega)) (nI_z (by omega)) dX6_leader_124 (by decide) (fun c124_5 => ?_) (fun c124_5 => ?_)
                      · refine lv_iinc (v := nI (o + 1)) (lv' := [(6, .int (nI (o + 1))), (0, .ref (a 0)), (1, .int (nI (v))), (2, .int (nI (kd))), (3, .long (sd)), (5, .int (nI (k))), (7, .int (nI (k2))), (8, .int (nI (q)))]) hx hb dX6_leader_130 hl (k := 5) rfl (nI_inc _) (by decide) rfl (fun ls hl => ?_)
                        refine lv_goto (tgt := 37) hx hb dX6_leader_133 (by decide) ?_
                        exact ih37 (o + 1)  (by omega) (fst_next hio (by omega) (by have hne : ¬ gRank M v kd sd o = k := (by rw [gRank, ← (show q = m_n M by omega), ← hk]; omega); simp [leadP, hne]))  ls (lv_sub hl [1, 2, 3, 4, 5, 0] rfl)
                      · refine lv_iload hx hb dX6_leader_127 (lv_at hl 5 rfl) ?_
                        have hPm : va_P D vwCl (mW cI cJ cZ a (th) (ldL M v kd sd lds (m_n M)) M) H := by exact hP
                        have hDm : va_D A (mW cI cJ cZ a (th) (ldL M v kd sd lds (m_n M)) M) := by exact hD
                        exact W.iret (v := nI (o)) hx hb hr (fun t ht hW => ⟨⟨_, (th, ldL M v kd sd lds (m_n M), M), rfl, ⟨by have hh := fst_here hio (by have he : gRank M v kd sd o = k := (by rw [gRank, ← (show q = m_n M by omega), ← hk]; omega); simp [leadP, he, c117_4]); rw [leaderM, hh, if_pos (by omega), zI_n], rfl, rfl⟩, gb_mk ht hW hPm hK hDm⟩, hS.F ht⟩) hS.2.2 dX6_leader_129
                  · refine lv_aload_n hx hb dX6_leader_61 rfl (lv_at hl 0 rfl) ?_
                    refine va_get (ci := 6) (v := .ref (a 23)) (C := RX6) (T := TX6) (N := 30) hx hb hts hiX6 hown hK hP 0 rfl rfl 29 (by decide) hf1 (fun _ h9 => h9) rfl dX6_leader_62 ?_
                    refine lv_iload hx hb dX6_leader_65 (lv_at hl 5 rfl) ?_
                    refine wa_z (i := o) (v := bI ((ldL M v kd sd lds (m_n M)) o)) hx hb hK hP 23 2 rfl rfl rfl (by omega) (by decide) dX6_leader_67 ?_
                    refine ww_top (y := bI (isFirstB M v o kd sd)) (by rw [ldL_at (by omega)]) ?_
                    refine wb_if_eq (tgt := 110) hx hb dX6_leader_68 (by decide) (fun c68_6 => ?_) (fun c68_6 => ?_)
                    · refine lv_aload_n hx hb dX6_leader_110 rfl (lv_at hl 0 rfl) ?_
                      refine va_get (ci := 6) (v := .ref (a 23)) (C := RX6) (T := TX6) (N := 30) hx hb hts hiX6 hown hK hP 0 rfl rfl 29 (by decide) hf1 (fun _ h9 => h9) rfl dX6_leader_111 ?_
                      refine lv_iload hx hb dX6_leader_114 (lv_at hl 5 rfl) ?_
                      refine wa_z (i := o) (v := bI ((ldL M v kd sd lds (m_n M)) o)) hx hb hK hP 23 2 rfl rfl rfl (by omega) (by decide) dX6_leader_116 ?_
                      refine ww_top (y := bI (isFirstB M v o kd sd)) (by rw [ldL_at (by omega)]) ?_
                      refine wb_if_eq (tgt := 130) hx hb dX6_leader_117 (by decide) (fun c117_7 => ?_) (fun c117_7 => ?_)
                      · refine lv_iinc (v := nI (o + 1)) (lv' := [(6, .int (nI (o + 1))), (0, .ref (a 0)), (1, .int (nI (v))), (2, .int (nI (kd))), (3, .long (sd)), (5, .int (nI (k))), (7, .int (nI (k2))), (8, .int (nI (q)))]) hx hb dX6_leader_130 hl (k := 5) rfl (nI_inc _) (by decide) rfl (fun ls hl => ?_)
                        refine lv_goto (tgt := 37) hx hb dX6_leader_133 (by decide) ?_
                        exact ih37 (o + 1)  (by omega) (fst_next hio (by omega) (by simp [leadP, c117_7]))  ls (lv_sub hl [1, 2, 3, 4, 5, 0] rfl)
                      · exact absurd (c68_6.symm.trans c117_7) (by decide)
                    · refine lv_iload hx hb dX6_leader_71 (lv_at hl 6 rfl) ?_
                      refine lv_aload_n hx hb dX6_leader_73 rfl (lv_at hl 0 rfl) ?_
                      refine va_get (ci := 6) (v := .ref (a 23)) (C := RX6) (T := TX6) (N := 30) hx hb hts hiX6 hown hK hP 0 rfl rfl 29 (by decide) hf1 (fun _ h9 => h9) rfl dX6_leader_74 ?_
                      refine lv_iload hx hb dX6_leader_77 (lv_at hl 7 rfl) ?_
                      refine wa_z (i := q) (v := bI ((ldL M v kd sd lds (m_n M)) q)) hx hb hK hP 23 2 rfl rfl rfl (by omega) (by decide) dX6_leader_79 ?_
                      refine ww_top (y := bI (isFirstB M v q kd sd)) (by rw [ldL_at (by omega)]) ?_
                      refine wb_if_eq (tgt := 100) hx hb dX6_leader_80 (by decide) (fun c80_8 => ?_) (fun c80_8 => ?_)
                      · refine lv_iconst (v := nI (0)) hx hb dX6_leader_100 (by decide) ?_
                        refine lv_iadd hx hb dX6_leader_101 (ww_top (y := nI (k2 + 0)) (nI_addn _ _) ?_)
                        refine lv_istore (lv' := [(7, .int (nI (k2 + 0))), (0, .ref (a 0)), (1, .int (nI (v))), (2, .int (nI (kd))), (3, .long (sd)), (5, .int (nI (k))), (6, .int (nI (o))), (8, .int (nI (q)))]) hx hb dX6_leader_102 hl (by decide) rfl (fun ls hl => ?_)
                        refine lv_iinc (v := nI (q + 1)) (lv' := [(8, .int (nI (q + 1))), (7, .int (nI (k2 + 0))), (0, .ref (a 0)), (1, .int (nI (v))), (2, .int (nI (kd))), (3, .long (sd)), (5, .int (nI (k))), (6, .int (nI (o)))]) hx hb dX6_leader_104 hl (k := 7) rfl (nI_inc _) (by decide) rfl (fun ls hl => ?_)
                        refine lv_goto (tgt := 52) hx hb dX6_leader_107 (by decide) ?_
                        exact ih52 (q + 1) (k2 + 0)  (by omega) (by omega) (cnt_f hk (by simp [pLd, c80_8]))  ls (lv_sub hl [2, 3, 4, 5, 6, 7, 1, 0] rfl)
                      · refine lv_aload_n hx hb dX6_leader_83 rfl (lv_at hl 0 rfl) ?_
                        refine lv_iload hx hb dX6_leader_84 (lv_at hl 7 rfl) ?_
                        refine lv_iload hx hb dX6_leader_86 (lv_at hl 5 rfl) ?_
                        refine lv_iload_n hx hb dX6_leader_88 rfl (lv_at hl 2 rfl) ?_
                        refine lv_lload_n hx hb dX6_leader_89 rfl (lv_at hl 3 rfl) ?_
                        have hPm : va_P D vwCl (mW cI cJ cZ a (th) (ldL M v kd sd lds (m_n M)) M) H := by exact hP
                        refine wc_Vi (As := [.int (nI (q)), .int (nI (o)), .int (nI (kd)), .long (sd)]) (rest := [.int (nI (k2))]) ⟨hx, hb, hml, hown, hts⟩ (c_X6_isAhead l D cI cJ cZ a (th) (ldL M v kd sd lds (m_n M)) M hM (q) (o) (kd) (sd) (by omega) (by omega) (by omega)) (cwV 4 hts gX6_leader_X6_isAhead rfl rfl rfl (by decide +kernel) ⟨Nat.le_of_ble_eq_true rfl, Nat.le_of_ble_eq_true rfl⟩) hPm hK 0 rfl rfl rfl hl.1 rfl (Nat.le_of_ble_eq_true rfl) dX6_leader_90 ⟨Nat.zero_le _, Nat.zero_le _⟩ (fun rr hq9 => ?_)
                        have hq9 : rr = bI (aheadB M kd (sd) q o) := hq9
                        subst hq9
                        refine wb_if_eq (tgt := 100) hx hb dX6_leader_93 (by decide) (fun c93_10 => ?_) (fun c93_10 => ?_)
                        · refine lv_iconst (v := nI (0)) hx hb dX6_leader_100 (by decide) ?_
                          refine lv_iadd hx hb dX6_leader_101 (ww_top (y := nI (k2 + 0)) (nI_addn _ _) ?_)
                          refine lv_istore (lv' := [(7, .int (nI (k2 + 0))), (0, .ref (a 0)), (1, .int (nI (v))), (2, .int (nI (kd))), (3, .long (sd)), (5, .int (nI (k))), (6, .int (nI (o))), (8, .int (nI (q)))]) hx hb dX6_leader_102 hl (by decide) rfl (fun ls hl => ?_)
                          refine lv_iinc (v := nI (q + 1)) (lv' := [(8, .int (nI (q + 1))), (7, .int (nI (k2 + 0))), (0, .ref (a 0)), (1, .int (nI (v))), (2, .int (nI (kd))), (3, .long (sd)), (5, .int (nI (k))), (6, .int (nI (o)))]) hx hb dX6_leader_104 hl (k := 7) rfl (nI_inc _) (by decide) rfl (fun ls hl => ?_)
                          refine lv_goto (tgt := 52) hx hb dX6_leader_107 (by decide) ?_
                          exact ih52 (q + 1) (k2 + 0)  (by omega) (by omega) (cnt_f hk (by simp [pLd, c80_8, c93_10]))  ls (lv_sub hl [2, 3, 4, 5, 6, 7, 1, 0] rfl)
                        · refine lv_iconst (v := nI (1)) hx hb dX6_leader_96 (by decide) ?_
                          refine lv_goto (tgt := 101) hx hb dX6_leader_97 (by decide) ?_
                          refine lv_iadd hx hb dX6_leader_101 (ww_top (y := nI (k2 + 1)) (nI_addn _ _) ?_)
                          refine lv_istore (lv' := [(7, .int (nI (k2 + 1))), (0, .ref (a 0)), (1, .int (nI (v))), (2, .int (nI (kd))), (3, .long (sd)), (5, .int (nI (k))), (6, .int (nI (o))), (8, .int (nI (q)))]) hx hb dX6_leader_102 hl (by decide) rfl (fun ls hl => ?_)
                          refine lv_iinc (v := nI (q + 1)) (lv' := [(8, .int (nI (q + 1))), (7, .int (nI (k2 + 1))), (0, .ref (a 0)), (1, .int (nI (v))), (2, .int (nI (kd))), (3, .long (sd)), (5, .int (nI (k))), (6, .int (nI (o)))]) hx hb dX6_leader_104 hl (k := 7) rfl (nI_inc _) (by decide) rfl (fun ls hl => ?_)
                          refine lv_goto (tgt := 52) hx hb dX6_leader_107 (by decide) ?_
                          exact ih52 (q + 1) (k2 + 1)  (by omega) (by omega) (cnt_t hk (by simp [pLd, c80_8, c93_10]))  ls (lv_sub hl [2, 3, 4, 5, 6, 7, 1, 0] rfl)
              exact hlp52 _ (0) (0)  (Nat.lt_succ_self _) (Nat.zero_le _) (rfl)  ls (lv_sub hl [2, 3, 4, 5, 6, 7, 1, 0] rfl)
        exact hlp37 _ (0)  (Nat.lt_succ_self _) (Nat.zero_le _)  ls (lv_sub hl [1, 2, 3, 4, 5, 0] rfl)
      · refine lv_aload_n hx hb dX6_leader_12 rfl (lv_at hl 0 rfl) ?_
        refine va_get (ci := 6) (v := .ref (a 23)) (C := RX6) (T := TX6) (N := 30) hx hb hts hiX6 hown hK hP 0 rfl rfl 29 (by decide) hf1 (fun _ h9 => h9) rfl dX6_leader_13 ?_
        refine lv_iload hx hb dX6_leader_16 (lv_at hl 5 rfl) ?_
        refine lv_aload_n hx hb dX6_leader_18 rfl (lv_at hl 0 rfl) ?_
        refine lv_iload_n hx hb dX6_leader_19 rfl (lv_at hl 1 rfl) ?_
        refine lv_iload hx hb dX6_leader_20 (lv_at hl 5 rfl) ?_
        refine lv_iload_n hx hb dX6_leader_22 rfl (lv_at hl 2 rfl) ?_
        refine lv_lload_n hx hb dX6_leader_23 rfl (lv_at hl 3 rfl) ?_
        have hPm : va_P D vwCl (mW cI cJ cZ a (th) (ldL M v kd sd lds i) M) H := by exact hP
        refine wc_Vi (As := [.int (nI (v)), .int (nI (i)), .int (nI (kd)), .long (sd)]) (rest := [.int (nI (i)), .ref (a 23)]) ⟨hx, hb, hml, hown, hts⟩ (c_X6_isFirst l D cI cJ cZ a (th) (ldL M v kd sd lds i) M hM (v) (i) (kd) (sd) (by omega) (by omega) (by omega)) (cwV 4 hts gX6_leader_X6_isFirst rfl rfl rfl (by decide +kernel) ⟨Nat.le_of_ble_eq_true rfl, Nat.le_of_ble_eq_true rfl⟩) hPm hK 0 rfl rfl rfl hl.1 rfl (Nat.le_of_ble_eq_true rfl) dX6_leader_24 ⟨Nat.zero_le _, Nat.zero_le _⟩ (fun rr hq11 => ?_)
        have hq11 : rr = bI (isFirstB M v i kd (sd)) := hq11
        subst hq11
        refine wa_zst (i := i) (b := isFirstB M v i kd (sd)) (f := ldL M v kd sd lds i) hx hb hK hP hD hS 23 2 rfl rfl rfl (by omega) (by decide) dX6_leader_27 (fun H locs hP hD hS => ?_)
        have hP : va_P D vwCl (mX cI cJ cZ a (th) (va_up (ldL M v kd sd lds i) (i) (isFirstB M v i kd (sd))) (m_n M) (m_sn M) (m_vn M) (m_rn M) (m_pn M) (m_nw M) (m_grp M) (m_key M) (m_srt M) (m_sd M) (m_go M) (m_seg M) (m_la M) (m_isN M) (m_drp M) (m_has M) (m_sees M) (m_isC M) (m_isG M) (m_ov M) (m_st M) (m_vo M) (m_ko M) (m_sl M) (m_sc M) (m_kp M) (m_en M) (m_pg M)) H := hP
        have hD : va_D A (mX cI cJ cZ a (th) (va_up (ldL M v kd sd lds i) (i) (isFirstB M v i kd (sd))) (m_n M) (m_sn M) (m_vn M) (m_rn M) (m_pn M) (m_nw M) (m_grp M) (m_key M) (m_srt M) (m_sd M) (m_go M) (m_seg M) (m_la M) (m_isN M) (m_drp M) (m_has M) (m_sees M) (m_isC M) (m_isG M) (m_ov M) (m_st M) (m_vo M) (m_ko M) (m_sl M) (m_sc M) (m_kp M) (m_en M) (m_pg M)) := hD
        refine lv_iinc (v := nI (i + 1)) (lv' := [(6, .int (nI (i + 1))), (0, .ref (a 0)), (1, .int (nI (v))), (2, .int (nI (kd))), (3, .long (sd)), (5, .int (nI (k)))]) hx hb dX6_leader_28 hl (k := 5) rfl (nI_inc _) (by decide) rfl (fun ls hl => ?_)
        refine lv_goto (tgt := 3) hx hb dX6_leader_31 (by decide) ?_
        have e1 : va_up (ldL M v kd sd lds i) (i) (isFirstB M v i kd (sd)) = ldL M v kd sd lds (i + 1) := rfl
        rw [e1] at hP hD
        exact ih3 (i + 1) _ _ (by omega) (by omega) hP hD hS ls (lv_sub hl [1, 2, 3, 4, 5, 0] rfl)
  exact hlp3 _ (0) _ _ (Nat.lt_succ_self _) (Nat.zero_le _) hP hD hS ls (lv_sub hl [1, 2, 3, 4, 5, 0] rfl)
def rm_X6_group : Room := { frames := 5, cells := 0, slots := 0, locals := 127 }
set_option maxHeartbeats 4000000 in
set_option maxRecDepth 100000 in
/-- group k -/
theorem c_X6_group (l : Launch) (D : va_G) (cI cJ cZ : ClassId) (a : Nat → Nat) (th : Nat) (lds : Nat → Bool) (M : MT) (hM : mOk M) (x y : Int32) (sd : Int64) (z : Int32) (hld : againstM M x y z = 0 → 0 ≤ leaderM M (ix x) (ix y) sd (ix z)) (sz : Nat) : Met l yX6_group wsX6_group rm_X6_group (va_Pc [.ref (a 0), .int (x), .int (y), .long (sd), .int (z)] (GW D (tyW cI cJ cZ) (mW cI cJ cZ a (th) (lds) M) sz)) (va_Ql (fun rr u => rr = groupR M x y sd z ∧ u.1 = againstM M x y z ∧ u.2.2 = M) (fun u => GB D (tyW cI cJ cZ) (va_A (mW cI cJ cZ a (th) (lds) M) sz) (mWu cI cJ cZ a u)) (va_A (mW cI cJ cZ a (th) (lds) M) sz)) 0 0 (va_A (mW cI cJ cZ a (th) (lds) M) sz) := by
  obtain ⟨hn, hsn, hvn, hrn, hpn, hnw, h_seg, h_la, h_st, h_vo, h_ko, h_sl, h_sc, h_kp, h_en, h_pg, hvo, hko, hsl, hsc⟩ := id hM
  have hixx := ix_c x
  have hixy := ix_c y
  have hixz := ix_c z
  refine Met.ofW (cc := cX6_group) (maxL := 6) (ret := (some .long)) (by decide) rfl ?_
  intro p e s m args below meth c s₁ B hml hv
  obtain ⟨rfl, hsz, hP, hK, hD0⟩ := hv
  have hx := B.exec
  have hb := B.bytes
  have hr := B.returns
  have hts := atoms_spec (ws := wsX6_group) B.pre
  have hown : s.vm.findClass RX6 = some m.cls := findClass_of_methodNamed B.named
  have hlocks := B.notSynchronized
  subst hsz
  have hD := hD0.self (sz := s.heap.size)
  generalize hAe : va_A (mW cI cJ cZ a (th) (lds) M) s.heap.size = A at hD ⊢
  have hA : ∀ q : Nat, s.heap.size ≤ q → A q := fun q h => by rw [← hAe]; exact Or.inr h
  have hS : va_S A s.heap s.heap [] := va_S.rf
  have hP : va_P D vwCl (mX cI cJ cZ a (th) (lds) (m_n M) (m_sn M) (m_vn M) (m_rn M) (m_pn M) (m_nw M) (m_grp M) (m_key M) (m_srt M) (m_sd M) (m_go M) (m_seg M) (m_la M) (m_isN M) (m_drp M) (m_has M) (m_sees M) (m_isC M) (m_isG M) (m_ov M) (m_st M) (m_vo M) (m_ko M) (m_sl M) (m_sc M) (m_kp M) (m_en M) (m_pg M)) s.heap := hP
  have hD : va_D A (mX cI cJ cZ a (th) (lds) (m_n M) (m_sn M) (m_vn M) (m_rn M) (m_pn M) (m_nw M) (m_grp M) (m_key M) (m_srt M) (m_sd M) (m_go M) (m_seg M) (m_la M) (m_isN M) (m_drp M) (m_has M) (m_sees M) (m_isC M) (m_isG M) (m_ov M) (m_st M) (m_vo M) (m_ko M) (m_sl M) (m_sc M) (m_kp M) (m_en M) (m_pg M)) := hD
  have hiX6 : ∀ w ∈ wsX60, w ∈ wsX6_group := by decide +kernel
  have hf0 := hts (.fieldLink RX6 81 "GroupCursorsModel" "thrown" "I") (by decide +kernel)
  have hf1 := hts (.fieldLink RX6 7 "GroupCursorsModel" "group" "[J") (by decide +kernel)
  have hl := lv_entry ([.ref (a 0), .int (x), .int (y), .long (sd), .int (z)]) (n := 6) (Nat.le_of_ble_eq_true rfl)
  rw [lg_entry_eq]
  generalize (lg_sl ([.ref (a 0), .int (x), .int (y), .long (sd), .int (z)]) ++ List.replicate (6 - (lg_sl ([.ref (a 0), .int (x), .int (y), .long (sd), .int (z)])).length) Slot.unset).toArray = ls at hl ⊢
  have hl : lv_has ls 6 [(0, .ref (a 0)), (1, .int (x)), (2, .int (y)), (3, .long (sd)), (5, .int (z))] := hl
  refine lv_aload_n hx hb dX6_group_0 rfl (lv_at hl 0 rfl) ?_
  refine lv_aload_n hx hb dX6_group_1 rfl (lv_at hl 0 rfl) ?_
  refine lv_iload_n hx hb dX6_group_2 rfl (lv_at hl 1 rfl) ?_
  refine lv_iload_n hx hb dX6_group_3 rfl (lv_at hl 2 rfl) ?_
  refine lv_iload hx hb dX6_group_4 (lv_at hl 4 rfl) ?_
  have hPm : va_P D vwCl (mW cI cJ cZ a (th) (lds) M) s.heap := by exact hP
  refine wc_Vi (As := [.int (x), .int (y), .int (z)]) (rest := [.ref (a 0)]) ⟨hx, hb, hml, hown, hts⟩ (c_X6_against l D cI cJ cZ a (th) (lds) M hM (x) (y) (z)) (cwV 3 hts gX6_group_X6_against rfl rfl rfl (by decide +kernel) ⟨Nat.le_of_ble_eq_true rfl, Nat.le_of_ble_eq_true rfl⟩) hPm hK 0 rfl rfl rfl hl.1 rfl (Nat.le_of_ble_eq_true rfl) dX6_group_6 ⟨Nat.zero_le _, Nat.zero_le _⟩ (fun rr hq1 => ?_)
  have hq1 : rr = nI (againstM M (x) (y) (z)) := hq1
  subst hq1
  have hal2 := against_le M (x) (y) (z)
  refine va_put (ci := 6) (v := .int (nI (againstM M (x) (y) (z)))) (ty := .int) (C := RX6) (T := TX6) (N := 30) hx hb hts hiX6 tyX6 tyX6_ok nmX6 hown hK hP hD hS 0 rfl rfl 0 (by decide) hf0 (fun _ h9 => h9) rfl (by decide +kernel) rfl rfl (Nat.le_of_ble_eq_true rfl) dX6_group_9 (fun H locs hP hD hS => ?_)
  have hP : va_P D vwCl (mX cI cJ cZ a (againstM M (x) (y) (z)) (lds) (m_n M) (m_sn M) (m_vn M) (m_rn M) (m_pn M) (m_nw M) (m_grp M) (m_key M) (m_srt M) (m_sd M) (m_go M) (m_seg M) (m_la M) (m_isN M) (m_drp M) (m_has M) (m_sees M) (m_isC M) (m_isG M) (m_ov M) (m_st M) (m_vo M) (m_ko M) (m_sl M) (m_sc M) (m_kp M) (m_en M) (m_pg M)) H := hP
  have hD : va_D A (mX cI cJ cZ a (againstM M (x) (y) (z)) (lds) (m_n M) (m_sn M) (m_vn M) (m_rn M) (m_pn M) (m_nw M) (m_grp M) (m_key M) (m_srt M) (m_sd M) (m_go M) (m_seg M) (m_la M) (m_isN M) (m_drp M) (m_has M) (m_sees M) (m_isC M) (m_isG M) (m_ov M) (m_st M) (m_vo M) (m_ko M) (m_sl M) (m_sc M) (m_kp M) (m_en M) (m_pg M)) := hD
  refine lv_aload_n hx hb dX6_group_12 rfl (lv_at hl 0 rfl) ?_
  refine va_get (ci := 6) (v := .int (nI (againstM M (x) (y) (z)))) (C := RX6) (T := TX6) (N := 30) hx hb hts hiX6 hown hK hP 0 rfl rfl 0 (by decide) hf0 (fun _ h9 => h9) rfl dX6_group_13 ?_
  refine wn_if_le (a := againstM M (x) (y) (z)) (tgt := 23) hx hb (nI_z (by omega)) dX6_group_16 (by decide) (fun c16_3 => ?_) (fun c16_3 => ?_)
  · have hag := against_0 (M := M) (x := x) (y := y) (z := z) (by omega)
    have hld0 := hld (by omega)
    have hgc : groupCount M (ix x) ≤ 300 := Nat.le_trans (cnt_le _ _) hn
    refine lv_aload_n hx hb dX6_group_23 rfl (lv_at hl 0 rfl) ?_
    refine va_get (ci := 6) (v := .ref (a 1)) (C := RX6) (T := TX6) (N := 30) hx hb hts hiX6 hown hK hP 0 rfl rfl 2 (by decide) hf1 (fun _ h9 => h9) rfl dX6_group_24 ?_
    refine lv_aload_n hx hb dX6_group_27 rfl (lv_at hl 0 rfl) ?_
    refine lv_iload_n hx hb dX6_group_28 rfl (lv_at hl 1 rfl) ?_
    refine ww_top (y := nI (ix x)) (ix_n (by omega)) ?_
    refine lv_iload_n hx hb dX6_group_29 rfl (lv_at hl 2 rfl) ?_
    refine ww_top (y := nI (ix y)) (ix_n (by omega)) ?_
    refine lv_lload_n hx hb dX6_group_30 rfl (lv_at hl 3 rfl) ?_
    refine lv_iload hx hb dX6_group_31 (lv_at hl 4 rfl) ?_
    refine ww_top (y := nI (ix z)) (ix_n (by omega)) ?_
    have hPm : va_P D vwCl (mW cI cJ cZ a (againstM M (x) (y) (z)) (lds) M) H := by exact hP
    have hDm : va_D A (mW cI cJ cZ a (againstM M (x) (y) (z)) (lds) M) := by exact hD
    refine wc_VWi (As := [.int (nI (ix x)), .int (nI (ix y)), .long (sd), .int (nI (ix z))]) (rest := [.ref (a 1)]) (wf := mWu cI cJ cZ a) ⟨hx, hb, hml, hown, hts⟩ (c_X6_leader l D cI cJ cZ a (againstM M (x) (y) (z)) (lds) M hM (ix x) (ix y) (sd) (ix z) (by omega) (by omega) (by omega) H.size) (cwV 4 hts gX6_group_X6_leader rfl rfl rfl (by decide +kernel) ⟨Nat.le_of_ble_eq_true rfl, Nat.le_of_ble_eq_true rfl⟩) hPm hK hDm hS hA 0 rfl rfl rfl hl.1 rfl (Nat.le_of_ble_eq_true rfl) dX6_group_33 ⟨Nat.zero_le _, Nat.zero_le _⟩ (fun rr u4 hq4 H locs hP hD hS => ?_)
    obtain ⟨hr4, hu4a, hu4c⟩ := hq4
    subst hr4
    obtain ⟨u41, u42, u43⟩ := u4
    dsimp only at hu4a hu4c
    have hu4a := hu4a.symm
    have hu4c := hu4c.symm
    subst hu4a
    subst hu4c
    have hlm4 := leaderM_lt M (ix x) (ix y) (sd) (ix z)
    have hP : va_P D vwCl (mX cI cJ cZ a (againstM M (x) (y) (z)) (u42) (m_n M) (m_sn M) (m_vn M) (m_rn M) (m_pn M) (m_nw M) (m_grp M) (m_key M) (m_srt M) (m_sd M) (m_go M) (m_seg M) (m_la M) (m_isN M) (m_drp M) (m_has M) (m_sees M) (m_isC M) (m_isG M) (m_ov M) (m_st M) (m_vo M) (m_ko M) (m_sl M) (m_sc M) (m_kp M) (m_en M) (m_pg M)) H := hP
    have hD : va_D A (mX cI cJ cZ a (againstM M (x) (y) (z)) (u42) (m_n M) (m_sn M) (m_vn M) (m_rn M) (m_pn M) (m_nw M) (m_grp M) (m_key M) (m_srt M) (m_sd M) (m_go M) (m_seg M) (m_la M) (m_isN M) (m_drp M) (m_has M) (m_sees M) (m_isC M) (m_isG M) (m_ov M) (m_st M) (m_vo M) (m_ko M) (m_sl M) (m_sc M) (m_kp M) (m_en M) (m_pg M)) := hD
    refine ww_top (y := nI ((leaderM M (ix x) (ix y) (sd) (ix z)).toNat)) (zI_toNat (by omega)) ?_
    refine wa_l (i := (leaderM M (ix x) (ix y) (sd) (ix z)).toNat) (v := m_grp M ((leaderM M (ix x) (ix y) (sd) (ix z)).toNat)) hx hb hK hP 1 1 rfl rfl rfl (by omega) (by decide) dX6_group_36 ?_
    have hPm : va_P D vwCl (mW cI cJ cZ a (againstM M (x) (y) (z)) (u42) M) H := by exact hP
    have hDm : va_D A (mW cI cJ cZ a (againstM M (x) (y) (z)) (u42) M) := by exact hD
    exact W.lret (v := m_grp M ((leaderM M (ix x) (ix y) (sd) (ix z)).toNat)) hx hb hr (fun t ht hW => ⟨⟨_, (againstM M (x) (y) (z), u42, M), rfl, ⟨(by simp only [groupR]; (repeat' split) <;> first | rfl | (exfalso; omega)), rfl, rfl⟩, gb_mk ht hW hPm hK hDm⟩, hS.F ht⟩) hS.2.2 dX6_group_37
  · refine lv_lconst (v := 0) hx hb dX6_group_19 (by decide) ?_
    refine lv_goto (tgt := 37) hx hb dX6_group_20 (by decide) ?_
    have hPm : va_P D vwCl (mW cI cJ cZ a (againstM M (x) (y) (z)) (lds) M) H := by exact hP
    have hDm : va_D A (mW cI cJ cZ a (againstM M (x) (y) (z)) (lds) M) := by exact hD
    exact W.lret (v := 0) hx hb hr (fun t ht hW => ⟨⟨_, (againstM M (x) (y) (z), lds, M), rfl, ⟨(by simp only [groupR]; (repeat' split) <;> first | rfl | (exfalso; omega)), rfl, rfl⟩, gb_mk ht hW hPm hK hDm⟩, hS.F ht⟩) hS.2.2 dX6_group_37
def rm_X6_counted : Room := { frames := 5, cells := 0, slots := 0, locals := 127 }
set_option maxHeartbeats 4000000 in
set_option maxRecDepth 100000 in
/-- how many objects group k has -/
theorem c_X6_counted (l : Launch) (D : va_G) (cI cJ cZ : ClassId) (a : Nat → Nat) (th : Nat) (lds : Nat → Bool) (M : MT) (hM : mOk M) (x y : Int32) (sd : Int64) (z : Int32) (hld : againstM M x y z = 0 → 0 ≤ leaderM M (ix x) (ix y) sd (ix z)) (sz : Nat) : Met l yX6_counted wsX6_counted rm_X6_counted (va_Pc [.ref (a 0), .int (x), .int (y), .long (sd), .int (z)] (GW D (tyW cI cJ cZ) (mW cI cJ cZ a (th) (lds) M) sz)) (va_Qi (fun rr u => rr = countedR M x y sd z ∧ u.1 = againstM M x y z ∧ u.2.2 = M) (fun u => GB D (tyW cI cJ cZ) (va_A (mW cI cJ cZ a (th) (lds) M) sz) (mWu cI cJ cZ a u)) (va_A (mW cI cJ cZ a (th) (lds) M) sz)) 0 0 (va_A (mW cI cJ cZ a (th) (lds) M) sz) := by
  obtain ⟨hn, hsn, hvn, hrn, hpn, hnw, h_seg, h_la, h_st, h_vo, h_ko, h_sl, h_sc, h_kp, h_en, h_pg, hvo, hko, hsl, hsc⟩ := id hM
  have hixx := ix_c x
  have hixy := ix_c y
  have hixz := ix_c z
  refine Met.ofW (cc := cX6_counted) (maxL := 6) (ret := (some .int)) (by decide) rfl ?_
  intro p e s m args below meth c s₁ B hml hv
  obtain ⟨rfl, hsz, hP, hK, hD0⟩ := hv
  have hx := B.exec
  have hb := B.bytes
  have hr := B.returns
  have hts := atoms_spec (ws := wsX6_counted) B.pre
  have hown : s.vm.findClass RX6 = some m.cls := findClass_of_methodNamed B.named
  have hlocks := B.notSynchronized
  subst hsz
  have hD := hD0.self (sz := s.heap.size)
  generalize hAe : va_A (mW cI cJ cZ a (th) (lds) M) s.heap.size = A at hD ⊢
  have hA : ∀ q : Nat, s.heap.size ≤ q → A q := fun q h => by rw [← hAe]; exact Or.inr h
  have hS : va_S A s.heap s.heap [] := va_S.rf
  have hP : va_P D vwCl (mX cI cJ cZ a (th) (lds) (m_n M) (m_sn M) (m_vn M) (m_rn M) (m_pn M) (m_nw M) (m_grp M) (m_key M) (m_srt M) (m_sd M) (m_go M) (m_seg M) (m_la M) (m_isN M) (m_drp M) (m_has M) (m_sees M) (m_isC M) (m_isG M) (m_ov M) (m_st M) (m_vo M) (m_ko M) (m_sl M) (m_sc M) (m_kp M) (m_en M) (m_pg M)) s.heap := hP
  have hD : va_D A (mX cI cJ cZ a (th) (lds) (m_n M) (m_sn M) (m_vn M) (m_rn M) (m_pn M) (m_nw M) (m_grp M) (m_key M) (m_srt M) (m_sd M) (m_go M) (m_seg M) (m_la M) (m_isN M) (m_drp M) (m_has M) (m_sees M) (m_isC M) (m_isG M) (m_ov M) (m_st M) (m_vo M) (m_ko M) (m_sl M) (m_sc M) (m_kp M) (m_en M) (m_pg M)) := hD
  have hiX6 : ∀ w ∈ wsX60, w ∈ wsX6_counted := by decide +kernel
  have hf0 := hts (.fieldLink RX6 81 "GroupCursorsModel" "thrown" "I") (by decide +kernel)
  have hf1 := hts (.fieldLink RX6 7 "GroupCursorsModel" "group" "[J") (by decide +kernel)
  have hl := lv_entry ([.ref (a 0), .int (x), .int (y), .long (sd), .int (z)]) (n := 6) (Nat.le_of_ble_eq_true rfl)
  rw [lg_entry_eq]
  generalize (lg_sl ([.ref (a 0), .int (x), .int (y), .long (sd), .int (z)]) ++ List.replicate (6 - (lg_sl ([.ref (a 0), .int (x), .int (y), .long (sd), .int (z)])).length) Slot.unset).toArray = ls at hl ⊢
  have hl : lv_has ls 6 [(0, .ref (a 0)), (1, .int (x)), (2, .int (y)), (3, .long (sd)), (5, .int (z))] := hl
  refine lv_aload_n hx hb dX6_counted_0 rfl (lv_at hl 0 rfl) ?_
  refine lv_aload_n hx hb dX6_counted_1 rfl (lv_at hl 0 rfl) ?_
  refine lv_iload_n hx hb dX6_counted_2 rfl (lv_at hl 1 rfl) ?_
  refine lv_iload_n hx hb dX6_counted_3 rfl (lv_at hl 2 rfl) ?_
  refine lv_iload hx hb dX6_counted_4 (lv_at hl 4 rfl) ?_
  have hPm : va_P D vwCl (mW cI cJ cZ a (th) (lds) M) s.heap := by exact hP
  refine wc_Vi (As := [.int (x), .int (y), .int (z)]) (rest := [.ref (a 0)]) ⟨hx, hb, hml, hown, hts⟩ (c_X6_against l D cI cJ cZ a (th) (lds) M hM (x) (y) (z)) (cwV 3 hts gX6_counted_X6_against rfl rfl rfl (by decide +kernel) ⟨Nat.le_of_ble_eq_true rfl, Nat.le_of_ble_eq_true rfl⟩) hPm hK 0 rfl rfl rfl hl.1 rfl (Nat.le_of_ble_eq_true rfl) dX6_counted_6 ⟨Nat.zero_le _, Nat.zero_le _⟩ (fun rr hq1 => ?_)
  have hq1 : rr = nI (againstM M (x) (y) (z)) := hq1
  subst hq1
  have hal2 := against_le M (x) (y) (z)
  refine va_put (ci := 6) (v := .int (nI (againstM M (x) (y) (z)))) (ty := .int) (C := RX6) (T := TX6) (N := 30) hx hb hts hiX6 tyX6 tyX6_ok nmX6 hown hK hP hD hS 0 rfl rfl 0 (by decide) hf0 (fun _ h9 => h9) rfl (by decide +kernel) rfl rfl (Nat.le_of_ble_eq_true rfl) dX6_counted_9 (fun H locs hP hD hS => ?_)
  have hP : va_P D vwCl (mX cI cJ cZ a (againstM M (x) (y) (z)) (lds) (m_n M) (m_sn M) (m_vn M) (m_rn M) (m_pn M) (m_nw M) (m_grp M) (m_key M) (m_srt M) (m_sd M) (m_go M) (m_seg M) (m_la M) (m_isN M) (m_drp M) (m_has M) (m_sees M) (m_isC M) (m_isG M) (m_ov M) (m_st M) (m_vo M) (m_ko M) (m_sl M) (m_sc M) (m_kp M) (m_en M) (m_pg M)) H := hP
  have hD : va_D A (mX cI cJ cZ a (againstM M (x) (y) (z)) (lds) (m_n M) (m_sn M) (m_vn M) (m_rn M) (m_pn M) (m_nw M) (m_grp M) (m_key M) (m_srt M) (m_sd M) (m_go M) (m_seg M) (m_la M) (m_isN M) (m_drp M) (m_has M) (m_sees M) (m_isC M) (m_isG M) (m_ov M) (m_st M) (m_vo M) (m_ko M) (m_sl M) (m_sc M) (m_kp M) (m_en M) (m_pg M)) := hD
  refine lv_aload_n hx hb dX6_counted_12 rfl (lv_at hl 0 rfl) ?_
  refine va_get (ci := 6) (v := .int (nI (againstM M (x) (y) (z)))) (C := RX6) (T := TX6) (N := 30) hx hb hts hiX6 hown hK hP 0 rfl rfl 0 (by decide) hf0 (fun _ h9 => h9) rfl dX6_counted_13 ?_
  refine wn_if_le (a := againstM M (x) (y) (z)) (tgt := 23) hx hb (nI_z (by omega)) dX6_counted_16 (by decide) (fun c16_3 => ?_) (fun c16_3 => ?_)
  · have hag := against_0 (M := M) (x := x) (y := y) (z := z) (by omega)
    have hld0 := hld (by omega)
    have hgc : groupCount M (ix x) ≤ 300 := Nat.le_trans (cnt_le _ _) hn
    refine lv_aload_n hx hb dX6_counted_23 rfl (lv_at hl 0 rfl) ?_
    refine lv_iload_n hx hb dX6_counted_24 rfl (lv_at hl 1 rfl) ?_
    refine ww_top (y := nI (ix x)) (ix_n (by omega)) ?_
    refine lv_aload_n hx hb dX6_counted_25 rfl (lv_at hl 0 rfl) ?_
    refine va_get (ci := 6) (v := .ref (a 1)) (C := RX6) (T := TX6) (N := 30) hx hb hts hiX6 hown hK hP 0 rfl rfl 2 (by decide) hf1 (fun _ h9 => h9) rfl dX6_counted_26 ?_
    refine lv_aload_n hx hb dX6_counted_29 rfl (lv_at hl 0 rfl) ?_
    refine lv_iload_n hx hb dX6_counted_30 rfl (lv_at hl 1 rfl) ?_
    refine ww_top (y := nI (ix x)) (ix_n (by omega)) ?_
    refine lv_iload_n hx hb dX6_counted_31 rfl (lv_at hl 2 rfl) ?_
    refine ww_top (y := nI (ix y)) (ix_n (by omega)) ?_
    refine lv_lload_n hx hb dX6_counted_32 rfl (lv_at hl 3 rfl) ?_
    refine lv_iload hx hb dX6_counted_33 (lv_at hl 4 rfl) ?_
    refine ww_top (y := nI (ix z)) (ix_n (by omega)) ?_
    have hPm : va_P D vwCl (mW cI cJ cZ a (againstM M (x) (y) (z)) (lds) M) H := by exact hP
    have hDm : va_D A (mW cI cJ cZ a (againstM M (x) (y) (z)) (lds) M) := by exact hD
    refine wc_VWi (As := [.int (nI (ix x)), .int (nI (ix y)), .long (sd), .int (nI (ix z))]) (rest := [.ref (a 1), .int (nI (ix x)), .ref (a 0)]) (wf := mWu cI cJ cZ a) ⟨hx, hb, hml, hown, hts⟩ (c_X6_leader l D cI cJ cZ a (againstM M (x) (y) (z)) (lds) M hM (ix x) (ix y) (sd) (ix z) (by omega) (by omega) (by omega) H.size) (cwV 4 hts gX6_counted_X6_leader rfl rfl rfl (by decide +kernel) ⟨Nat.le_of_ble_eq_true rfl, Nat.le_of_ble_eq_true rfl⟩) hPm hK hDm hS hA 0 rfl rfl rfl hl.1 rfl (Nat.le_of_ble_eq_true rfl) dX6_counted_35 ⟨Nat.zero_le _, Nat.zero_le _⟩ (fun rr u4 hq4 H locs hP hD hS => ?_)
    obtain ⟨hr4, hu4a, hu4c⟩ := hq4
    subst hr4
    obtain ⟨u41, u42, u43⟩ := u4
    dsimp only at hu4a hu4c
    have hu4a := hu4a.symm
    have hu4c := hu4c.symm
    subst hu4a
    subst hu4c
    have hlm4 := leaderM_lt M (ix x) (ix y) (sd) (ix z)
    have hP : va_P D vwCl (mX cI cJ cZ a (againstM M (x) (y) (z)) (u42) (m_n M) (m_sn M) (m_vn M) (m_rn M) (m_pn M) (m_nw M) (m_grp M) (m_key M) (m_srt M) (m_sd M) (m_go M) (m_seg M) (m_la M) (m_isN M) (m_drp M) (m_has M) (m_sees M) (m_isC M) (m_isG M) (m_ov M) (m_st M) (m_vo M) (m_ko M) (m_sl M) (m_sc M) (m_kp M) (m_en M) (m_pg M)) H := hP
    have hD : va_D A (mX cI cJ cZ a (againstM M (x) (y) (z)) (u42) (m_n M) (m_sn M) (m_vn M) (m_rn M) (m_pn M) (m_nw M) (m_grp M) (m_key M) (m_srt M) (m_sd M) (m_go M) (m_seg M) (m_la M) (m_isN M) (m_drp M) (m_has M) (m_sees M) (m_isC M) (m_isG M) (m_ov M) (m_st M) (m_vo M) (m_ko M) (m_sl M) (m_sc M) (m_kp M) (m_en M) (m_pg M)) := hD
    refine ww_top (y := nI ((leaderM M (ix x) (ix y) (sd) (ix z)).toNat)) (zI_toNat (by omega)) ?_
    refine wa_l (i := (leaderM M (ix x) (ix y) (sd) (ix z)).toNat) (v := m_grp M ((leaderM M (ix x) (ix y) (sd) (ix z)).toNat)) hx hb hK hP 1 1 rfl rfl rfl (by omega) (by decide) dX6_counted_38 ?_
    have hPm : va_P D vwCl (mW cI cJ cZ a (againstM M (x) (y) (z)) (u42) M) H := by exact hP
    refine wc_Vi (As := [.int (nI (ix x)), .long (m_grp M ((leaderM M (ix x) (ix y) (sd) (ix z)).toNat))]) (rest := []) ⟨hx, hb, hml, hown, hts⟩ (c_X6_countIn l D cI cJ cZ a (againstM M (x) (y) (z)) (u42) M hM (ix x) (m_grp M ((leaderM M (ix x) (ix y) (sd) (ix z)).toNat)) (by omega)) (cwV 2 hts gX6_counted_X6_countIn rfl rfl rfl (by decide +kernel) ⟨Nat.le_of_ble_eq_true rfl, Nat.le_of_ble_eq_true rfl⟩) hPm hK 0 rfl rfl rfl hl.1 rfl (Nat.le_of_ble_eq_true rfl) dX6_counted_39 ⟨Nat.zero_le _, Nat.zero_le _⟩ (fun rr hq5 => ?_)
    have hq5 : rr = nI (countIn M (ix x) (m_grp M ((leaderM M (ix x) (ix y) (sd) (ix z)).toNat))) := hq5
    subst hq5
    have hle6 : countIn M (ix x) (m_grp M ((leaderM M (ix x) (ix y) (sd) (ix z)).toNat)) ≤ 300 := Nat.le_trans (cnt_le _ _) hn
    have hPm : va_P D vwCl (mW cI cJ cZ a (againstM M (x) (y) (z)) (u42) M) H := by exact hP
    have hDm : va_D A (mW cI cJ cZ a (againstM M (x) (y) (z)) (u42) M) := by exact hD
    exact W.iret (v := nI (countIn M (ix x) (m_grp M ((leaderM M (ix x) (ix y) (sd) (ix z)).toNat)))) hx hb hr (fun t ht hW => ⟨⟨_, (againstM M (x) (y) (z), u42, M), rfl, ⟨(by simp only [countedR]; (repeat' split) <;> first | rfl | (exfalso; omega)), rfl, rfl⟩, gb_mk ht hW hPm hK hDm⟩, hS.F ht⟩) hS.2.2 dX6_counted_42
  · refine lv_iconst (v := nI (0)) hx hb dX6_counted_19 (by decide) ?_
    refine lv_goto (tgt := 42) hx hb dX6_counted_20 (by decide) ?_
    have hPm : va_P D vwCl (mW cI cJ cZ a (againstM M (x) (y) (z)) (lds) M) H := by exact hP
    have hDm : va_D A (mW cI cJ cZ a (againstM M (x) (y) (z)) (lds) M) := by exact hD
    exact W.iret (v := nI (0)) hx hb hr (fun t ht hW => ⟨⟨_, (againstM M (x) (y) (z), lds, M), rfl, ⟨(by simp only [countedR]; (repeat' split) <;> first | rfl | (exfalso; omega)), rfl, rfl⟩, gb_mk ht hW hPm hK hDm⟩, hS.F ht⟩) hS.2.2 dX6_counted_42
