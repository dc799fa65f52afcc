def rm_X6_fails : Room := { frames := 0, cells := 0, slots := 0, locals := 0 }
set_option maxHeartbeats 4000000 in
set_option maxRecDepth 100000 in
/-- thrown is set, the answer is 0 -/
theorem c_X6_fails (l : Launch) (D : va_G) (cI cJ cZ : ClassId) (a : Nat → Nat) (th : Nat) (lds : Nat → Bool) (M : MT) (hM : mOk M) (x : Nat) (hx1 : x < 4) (sz : Nat) : Met l yX6_fails wsX6_fails rm_X6_fails (va_Pc [.ref (a 0), .int (nI (x))] (GW D (tyW cI cJ cZ) (mW cI cJ cZ a (th) (lds) M) sz)) (va_Qi (fun rr u => rr = nI 0 ∧ u = (x, lds, M)) (fun u => GB D (tyW cI cJ cZ) (va_A (mW cI cJ cZ a (th) (lds) M) sz) (mWu cI cJ cZ a u)) (va_A (mW cI cJ cZ a (th) (lds) M) sz)) 0 0 (va_A (mW cI cJ cZ a (th) (lds) M) sz) := by
  obtain ⟨hn, hsn, hvn, hrn, hpn, hnw, h_seg, h_la, h_st, h_vo, h_ko, h_sl, h_sc, h_kp, h_en, h_pg, hvo, hko, hsl, hsc⟩ := id hM
  refine Met.ofW (cc := cX6_fails) (maxL := 2) (ret := (some .int)) (by decide) rfl ?_
  intro p e s m args below meth c s₁ B hml hv
  obtain ⟨rfl, hsz, hP, hK, hD0⟩ := hv
  have hx := B.exec
  have hb := B.bytes
  have hr := B.returns
  have hts := atoms_spec (ws := wsX6_fails) B.pre
  have hown : s.vm.findClass RX6 = some m.cls := findClass_of_methodNamed B.named
  have hlocks := B.notSynchronized
  subst hsz
  have hD := hD0.self (sz := s.heap.size)
  generalize hAe : va_A (mW cI cJ cZ a (th) (lds) M) s.heap.size = A at hD ⊢
  have hA : ∀ q : Nat, s.heap.size ≤ q → A q := fun q h => by rw [← hAe]; exact Or.inr h
  have hS : va_S A s.heap s.heap [] := va_S.rf
  have hP : va_P D vwCl (mX cI cJ cZ a (th) (lds) (m_n M) (m_sn M) (m_vn M) (m_rn M) (m_pn M) (m_nw M) (m_grp M) (m_key M) (m_srt M) (m_sd M) (m_go M) (m_seg M) (m_la M) (m_isN M) (m_drp M) (m_has M) (m_sees M) (m_isC M) (m_isG M) (m_ov M) (m_st M) (m_vo M) (m_ko M) (m_sl M) (m_sc M) (m_kp M) (m_en M) (m_pg M)) s.heap := hP
  have hD : va_D A (mX cI cJ cZ a (th) (lds) (m_n M) (m_sn M) (m_vn M) (m_rn M) (m_pn M) (m_nw M) (m_grp M) (m_key M) (m_srt M) (m_sd M) (m_go M) (m_seg M) (m_la M) (m_isN M) (m_drp M) (m_has M) (m_sees M) (m_isC M) (m_isG M) (m_ov M) (m_st M) (m_vo M) (m_ko M) (m_sl M) (m_sc M) (m_kp M) (m_en M) (m_pg M)) := hD
  have hiX6 : ∀ w ∈ wsX60, w ∈ wsX6_fails := by decide +kernel
  have hf0 := hts (.fieldLink RX6 81 "GroupCursorsModel" "thrown" "I") (by decide +kernel)
  have hl := lv_entry ([.ref (a 0), .int (nI (x))]) (n := 2) (Nat.le_of_ble_eq_true rfl)
  rw [lg_entry_eq]
  generalize (lg_sl ([.ref (a 0), .int (nI (x))]) ++ List.replicate (2 - (lg_sl ([.ref (a 0), .int (nI (x))])).length) Slot.unset).toArray = ls at hl ⊢
  have hl : lv_has ls 2 [(0, .ref (a 0)), (1, .int (nI (x)))] := hl
  refine lv_aload_n hx hb dX6_fails_0 rfl (lv_at hl 0 rfl) ?_
  refine lv_iload_n hx hb dX6_fails_1 rfl (lv_at hl 1 rfl) ?_
  refine va_put (ci := 6) (v := .int (nI (x))) (ty := .int) (C := RX6) (T := TX6) (N := 30) hx hb hts hiX6 tyX6 tyX6_ok nmX6 hown hK hP hD hS 0 rfl rfl 0 (by decide) hf0 (fun _ h9 => h9) rfl (by decide +kernel) rfl rfl (Nat.le_of_ble_eq_true rfl) dX6_fails_2 (fun H locs hP hD hS => ?_)
  have hP : va_P D vwCl (mX cI cJ cZ a (x) (lds) (m_n M) (m_sn M) (m_vn M) (m_rn M) (m_pn M) (m_nw M) (m_grp M) (m_key M) (m_srt M) (m_sd M) (m_go M) (m_seg M) (m_la M) (m_isN M) (m_drp M) (m_has M) (m_sees M) (m_isC M) (m_isG M) (m_ov M) (m_st M) (m_vo M) (m_ko M) (m_sl M) (m_sc M) (m_kp M) (m_en M) (m_pg M)) H := hP
  have hD : va_D A (mX cI cJ cZ a (x) (lds) (m_n M) (m_sn M) (m_vn M) (m_rn M) (m_pn M) (m_nw M) (m_grp M) (m_key M) (m_srt M) (m_sd M) (m_go M) (m_seg M) (m_la M) (m_isN M) (m_drp M) (m_has M) (m_sees M) (m_isC M) (m_isG M) (m_ov M) (m_st M) (m_vo M) (m_ko M) (m_sl M) (m_sc M) (m_kp M) (m_en M) (m_pg M)) := hD
  refine lv_iconst (v := nI (0)) hx hb dX6_fails_5 (by decide) ?_
  have hPm : va_P D vwCl (mW cI cJ cZ a (x) (lds) M) H := by exact hP
  have hDm : va_D A (mW cI cJ cZ a (x) (lds) M) := by exact hD
  exact W.iret (v := nI (0)) hx hb hr (fun t ht hW => ⟨⟨_, (x, lds, M), rfl, ⟨rfl, rfl⟩, gb_mk ht hW hPm hK hDm⟩, hS.F ht⟩) hS.2.2 dX6_fails_6
def rm_X6_add : Room := { frames := 0, cells := 0, slots := 0, locals := 0 }
set_option maxHeartbeats 4000000 in
set_option maxRecDepth 100000 in
/-- an object more -/
theorem c_X6_add (l : Launch) (D : va_G) (cI cJ cZ : ClassId) (a : Nat → Nat) (th : Nat) (lds : Nat → Bool) (M : MT) (hM : mOk M) (g k s9 : Int64) (sz : Nat) : Met l yX6_add wsX6_add rm_X6_add (va_Pc [.ref (a 0), .long (g), .long (k), .long (s9)] (GW D (tyW cI cJ cZ) (mW cI cJ cZ a (th) (lds) M) sz)) (va_Qi (fun rr u => rr = addR M ∧ u = (0, lds, addM M g k s9)) (fun u => GB D (tyW cI cJ cZ) (va_A (mW cI cJ cZ a (th) (lds) M) sz) (mWu cI cJ cZ a u)) (va_A (mW cI cJ cZ a (th) (lds) M) sz)) 0 0 (va_A (mW cI cJ cZ a (th) (lds) M) sz) := by
  obtain ⟨hn, hsn, hvn, hrn, hpn, hnw, h_seg, h_la, h_st, h_vo, h_ko, h_sl, h_sc, h_kp, h_en, h_pg, hvo, hko, hsl, hsc⟩ := id hM
  refine Met.ofW (cc := cX6_add) (maxL := 7) (ret := (some .int)) (by decide) rfl ?_
  intro p e s m args below meth c s₁ B hml hv
  obtain ⟨rfl, hsz, hP, hK, hD0⟩ := hv
  have hx := B.exec
  have hb := B.bytes
  have hr := B.returns
  have hts := atoms_spec (ws := wsX6_add) B.pre
  have hown : s.vm.findClass RX6 = some m.cls := findClass_of_methodNamed B.named
  have hlocks := B.notSynchronized
  subst hsz
  have hD := hD0.self (sz := s.heap.size)
  generalize hAe : va_A (mW cI cJ cZ a (th) (lds) M) s.heap.size = A at hD ⊢
  have hA : ∀ q : Nat, s.heap.size ≤ q → A q := fun q h => by rw [← hAe]; exact Or.inr h
  have hS : va_S A s.heap s.heap [] := va_S.rf
  have hP : va_P D vwCl (mX cI cJ cZ a (th) (lds) (m_n M) (m_sn M) (m_vn M) (m_rn M) (m_pn M) (m_nw M) (m_grp M) (m_key M) (m_srt M) (m_sd M) (m_go M) (m_seg M) (m_la M) (m_isN M) (m_drp M) (m_has M) (m_sees M) (m_isC M) (m_isG M) (m_ov M) (m_st M) (m_vo M) (m_ko M) (m_sl M) (m_sc M) (m_kp M) (m_en M) (m_pg M)) s.heap := hP
  have hD : va_D A (mX cI cJ cZ a (th) (lds) (m_n M) (m_sn M) (m_vn M) (m_rn M) (m_pn M) (m_nw M) (m_grp M) (m_key M) (m_srt M) (m_sd M) (m_go M) (m_seg M) (m_la M) (m_isN M) (m_drp M) (m_has M) (m_sees M) (m_isC M) (m_isG M) (m_ov M) (m_st M) (m_vo M) (m_ko M) (m_sl M) (m_sc M) (m_kp M) (m_en M) (m_pg M)) := hD
  have hiX6 : ∀ w ∈ wsX60, w ∈ wsX6_add := by decide +kernel
  have hf0 := hts (.fieldLink RX6 81 "GroupCursorsModel" "thrown" "I") (by decide +kernel)
  have hf1 := hts (.fieldLink RX6 97 "GroupCursorsModel" "objects" "I") (by decide +kernel)
  have hf2 := hts (.fieldLink RX6 7 "GroupCursorsModel" "group" "[J") (by decide +kernel)
  have hf3 := hts (.fieldLink RX6 13 "GroupCursorsModel" "key" "[J") (by decide +kernel)
  have hf4 := hts (.fieldLink RX6 16 "GroupCursorsModel" "sort" "[J") (by decide +kernel)
  have hf5 := hts (.fieldLink RX6 19 "GroupCursorsModel" "segment" "[I") (by decide +kernel)
  have hf6 := hts (.fieldLink RX6 23 "GroupCursorsModel" "isNew" "[Z") (by decide +kernel)
  have hl := lv_entry ([.ref (a 0), .long (g), .long (k), .long (s9)]) (n := 7) (Nat.le_of_ble_eq_true rfl)
  rw [lg_entry_eq]
  generalize (lg_sl ([.ref (a 0), .long (g), .long (k), .long (s9)]) ++ List.replicate (7 - (lg_sl ([.ref (a 0), .long (g), .long (k), .long (s9)])).length) Slot.unset).toArray = ls at hl ⊢
  have hl : lv_has ls 7 [(0, .ref (a 0)), (1, .long (g)), (3, .long (k)), (5, .long (s9))] := hl
  refine lv_aload_n hx hb dX6_add_0 rfl (lv_at hl 0 rfl) ?_
  refine lv_iconst (v := nI (0)) hx hb dX6_add_1 (by decide) ?_
  refine va_put (ci := 6) (v := .int (nI (0))) (ty := .int) (C := RX6) (T := TX6) (N := 30) hx hb hts hiX6 tyX6 tyX6_ok nmX6 hown hK hP hD hS 0 rfl rfl 0 (by decide) hf0 (fun _ h9 => h9) rfl (by decide +kernel) rfl rfl (Nat.le_of_ble_eq_true rfl) dX6_add_2 (fun H locs hP hD hS => ?_)
  have hP : va_P D vwCl (mX cI cJ cZ a (0) (lds) (m_n M) (m_sn M) (m_vn M) (m_rn M) (m_pn M) (m_nw M) (m_grp M) (m_key M) (m_srt M) (m_sd M) (m_go M) (m_seg M) (m_la M) (m_isN M) (m_drp M) (m_has M) (m_sees M) (m_isC M) (m_isG M) (m_ov M) (m_st M) (m_vo M) (m_ko M) (m_sl M) (m_sc M) (m_kp M) (m_en M) (m_pg M)) H := hP
  have hD : va_D A (mX cI cJ cZ a (0) (lds) (m_n M) (m_sn M) (m_vn M) (m_rn M) (m_pn M) (m_nw M) (m_grp M) (m_key M) (m_srt M) (m_sd M) (m_go M) (m_seg M) (m_la M) (m_isN M) (m_drp M) (m_has M) (m_sees M) (m_isC M) (m_isG M) (m_ov M) (m_st M) (m_vo M) (m_ko M) (m_sl M) (m_sc M) (m_kp M) (m_en M) (m_pg M)) := hD
  refine lv_aload_n hx hb dX6_add_5 rfl (lv_at hl 0 rfl) ?_
  refine va_get (ci := 6) (v := .int (nI (m_n M))) (C := RX6) (T := TX6) (N := 30) hx hb hts hiX6 hown hK hP 0 rfl rfl 1 (by decide) hf1 (fun _ h9 => h9) rfl dX6_add_6 ?_
  refine lv_sipush (v := nI (300)) hx hb dX6_add_9 (by decide) ?_
  refine wn_icmp_ne (a := m_n M) (b := 300) (tgt := 18) hx hb (nI_z (by omega)) (nI_z (by omega)) dX6_add_12 (by decide) (fun c12_1 => ?_) (fun c12_1 => ?_)
  · refine lv_aload_n hx hb dX6_add_18 rfl (lv_at hl 0 rfl) ?_
    refine va_get (ci := 6) (v := .ref (a 1)) (C := RX6) (T := TX6) (N := 30) hx hb hts hiX6 hown hK hP 0 rfl rfl 2 (by decide) hf2 (fun _ h9 => h9) rfl dX6_add_19 ?_
    refine lv_aload_n hx hb dX6_add_22 rfl (lv_at hl 0 rfl) ?_
    refine va_get (ci := 6) (v := .int (nI (m_n M))) (C := RX6) (T := TX6) (N := 30) hx hb hts hiX6 hown hK hP 0 rfl rfl 1 (by decide) hf1 (fun _ h9 => h9) rfl dX6_add_23 ?_
    refine lv_lload_n hx hb dX6_add_26 rfl (lv_at hl 1 rfl) ?_
    refine wa_lst (i := m_n M) hx hb hK hP hD hS 1 1 rfl rfl (by omega) (by decide) dX6_add_27 (fun H locs hP hD hS => ?_)
    have hP : va_P D vwCl (mX cI cJ cZ a (0) (lds) (m_n M) (m_sn M) (m_vn M) (m_rn M) (m_pn M) (m_nw M) (va_up (m_grp M) (m_n M) (g)) (m_key M) (m_srt M) (m_sd M) (m_go M) (m_seg M) (m_la M) (m_isN M) (m_drp M) (m_has M) (m_sees M) (m_isC M) (m_isG M) (m_ov M) (m_st M) (m_vo M) (m_ko M) (m_sl M) (m_sc M) (m_kp M) (m_en M) (m_pg M)) H := hP
    have hD : va_D A (mX cI cJ cZ a (0) (lds) (m_n M) (m_sn M) (m_vn M) (m_rn M) (m_pn M) (m_nw M) (va_up (m_grp M) (m_n M) (g)) (m_key M) (m_srt M) (m_sd M) (m_go M) (m_seg M) (m_la M) (m_isN M) (m_drp M) (m_has M) (m_sees M) (m_isC M) (m_isG M) (m_ov M) (m_st M) (m_vo M) (m_ko M) (m_sl M) (m_sc M) (m_kp M) (m_en M) (m_pg M)) := hD
    refine lv_aload_n hx hb dX6_add_28 rfl (lv_at hl 0 rfl) ?_
    refine va_get (ci := 6) (v := .ref (a 2)) (C := RX6) (T := TX6) (N := 30) hx hb hts hiX6 hown hK hP 0 rfl rfl 3 (by decide) hf3 (fun _ h9 => h9) rfl dX6_add_29 ?_
    refine lv_aload_n hx hb dX6_add_32 rfl (lv_at hl 0 rfl) ?_
    refine va_get (ci := 6) (v := .int (nI (m_n M))) (C := RX6) (T := TX6) (N := 30) hx hb hts hiX6 hown hK hP 0 rfl rfl 1 (by decide) hf1 (fun _ h9 => h9) rfl dX6_add_33 ?_
    refine lv_lload_n hx hb dX6_add_36 rfl (lv_at hl 2 rfl) ?_
    refine wa_lst (i := m_n M) hx hb hK hP hD hS 2 1 rfl rfl (by omega) (by decide) dX6_add_37 (fun H locs hP hD hS => ?_)
    have hP : va_P D vwCl (mX cI cJ cZ a (0) (lds) (m_n M) (m_sn M) (m_vn M) (m_rn M) (m_pn M) (m_nw M) (va_up (m_grp M) (m_n M) (g)) (va_up (m_key M) (m_n M) (k)) (m_srt M) (m_sd M) (m_go M) (m_seg M) (m_la M) (m_isN M) (m_drp M) (m_has M) (m_sees M) (m_isC M) (m_isG M) (m_ov M) (m_st M) (m_vo M) (m_ko M) (m_sl M) (m_sc M) (m_kp M) (m_en M) (m_pg M)) H := hP
    have hD : va_D A (mX cI cJ cZ a (0) (lds) (m_n M) (m_sn M) (m_vn M) (m_rn M) (m_pn M) (m_nw M) (va_up (m_grp M) (m_n M) (g)) (va_up (m_key M) (m_n M) (k)) (m_srt M) (m_sd M) (m_go M) (m_seg M) (m_la M) (m_isN M) (m_drp M) (m_has M) (m_sees M) (m_isC M) (m_isG M) (m_ov M) (m_st M) (m_vo M) (m_ko M) (m_sl M) (m_sc M) (m_kp M) (m_en M) (m_pg M)) := hD
    refine lv_aload_n hx hb dX6_add_38 rfl (lv_at hl 0 rfl) ?_
    refine va_get (ci := 6) (v := .ref (a 3)) (C := RX6) (T := TX6) (N := 30) hx hb hts hiX6 hown hK hP 0 rfl rfl 4 (by decide) hf4 (fun _ h9 => h9) rfl dX6_add_39 ?_
    refine lv_aload_n hx hb dX6_add_42 rfl (lv_at hl 0 rfl) ?_
    refine va_get (ci := 6) (v := .int (nI (m_n M))) (C := RX6) (T := TX6) (N := 30) hx hb hts hiX6 hown hK hP 0 rfl rfl 1 (by decide) hf1 (fun _ h9 => h9) rfl dX6_add_43 ?_
    refine lv_lload hx hb dX6_add_46 (lv_at hl 3 rfl) ?_
    refine wa_lst (i := m_n M) hx hb hK hP hD hS 3 1 rfl rfl (by omega) (by decide) dX6_add_48 (fun H locs hP hD hS => ?_)
    have hP : va_P D vwCl (mX cI cJ cZ a (0) (lds) (m_n M) (m_sn M) (m_vn M) (m_rn M) (m_pn M) (m_nw M) (va_up (m_grp M) (m_n M) (g)) (va_up (m_key M) (m_n M) (k)) (va_up (m_srt M) (m_n M) (s9)) (m_sd M) (m_go M) (m_seg M) (m_la M) (m_isN M) (m_drp M) (m_has M) (m_sees M) (m_isC M) (m_isG M) (m_ov M) (m_st M) (m_vo M) (m_ko M) (m_sl M) (m_sc M) (m_kp M) (m_en M) (m_pg M)) H := hP
    have hD : va_D A (mX cI cJ cZ a (0) (lds) (m_n M) (m_sn M) (m_vn M) (m_rn M) (m_pn M) (m_nw M) (va_up (m_grp M) (m_n M) (g)) (va_up (m_key M) (m_n M) (k)) (va_up (m_srt M) (m_n M) (s9)) (m_sd M) (m_go M) (m_seg M) (m_la M) (m_isN M) (m_drp M) (m_has M) (m_sees M) (m_isC M) (m_isG M) (m_ov M) (m_st M) (m_vo M) (m_ko M) (m_sl M) (m_sc M) (m_kp M) (m_en M) (m_pg M)) := hD
    refine lv_aload_n hx hb dX6_add_49 rfl (lv_at hl 0 rfl) ?_
    refine va_get (ci := 6) (v := .ref (a 4)) (C := RX6) (T := TX6) (N := 30) hx hb hts hiX6 hown hK hP 0 rfl rfl 5 (by decide) hf5 (fun _ h9 => h9) rfl dX6_add_50 ?_
    refine lv_aload_n hx hb dX6_add_53 rfl (lv_at hl 0 rfl) ?_
    refine va_get (ci := 6) (v := .int (nI (m_n M))) (C := RX6) (T := TX6) (N := 30) hx hb hts hiX6 hown hK hP 0 rfl rfl 1 (by decide) hf1 (fun _ h9 => h9) rfl dX6_add_54 ?_
    refine lv_iconst (v := zI ((-1))) hx hb dX6_add_57 (by decide) ?_
    refine wa_ist (i := m_n M) hx hb hK hP hD hS 4 0 rfl rfl (upd_zI (m_seg M) (m_n M) (((-1) : Int))) (by omega) (by decide) dX6_add_58 (fun H locs hP hD hS => ?_)
    have hP : va_P D vwCl (mX cI cJ cZ a (0) (lds) (m_n M) (m_sn M) (m_vn M) (m_rn M) (m_pn M) (m_nw M) (va_up (m_grp M) (m_n M) (g)) (va_up (m_key M) (m_n M) (k)) (va_up (m_srt M) (m_n M) (s9)) (m_sd M) (m_go M) (va_up (m_seg M) (m_n M) (((-1) : Int))) (m_la M) (m_isN M) (m_drp M) (m_has M) (m_sees M) (m_isC M) (m_isG M) (m_ov M) (m_st M) (m_vo M) (m_ko M) (m_sl M) (m_sc M) (m_kp M) (m_en M) (m_pg M)) H := hP
    have hD : va_D A (mX cI cJ cZ a (0) (lds) (m_n M) (m_sn M) (m_vn M) (m_rn M) (m_pn M) (m_nw M) (va_up (m_grp M) (m_n M) (g)) (va_up (m_key M) (m_n M) (k)) (va_up (m_srt M) (m_n M) (s9)) (m_sd M) (m_go M) (va_up (m_seg M) (m_n M) (((-1) : Int))) (m_la M) (m_isN M) (m_drp M) (m_has M) (m_sees M) (m_isC M) (m_isG M) (m_ov M) (m_st M) (m_vo M) (m_ko M) (m_sl M) (m_sc M) (m_kp M) (m_en M) (m_pg M)) := hD
    refine lv_aload_n hx hb dX6_add_59 rfl (lv_at hl 0 rfl) ?_
    refine va_get (ci := 6) (v := .ref (a 5)) (C := RX6) (T := TX6) (N := 30) hx hb hts hiX6 hown hK hP 0 rfl rfl 6 (by decide) hf6 (fun _ h9 => h9) rfl dX6_add_60 ?_
    refine lv_aload_n hx hb dX6_add_63 rfl (lv_at hl 0 rfl) ?_
    refine va_get (ci := 6) (v := .int (nI (m_n M))) (C := RX6) (T := TX6) (N := 30) hx hb hts hiX6 hown hK hP 0 rfl rfl 1 (by decide) hf1 (fun _ h9 => h9) rfl dX6_add_64 ?_
    refine lv_iconst (v := nI (1)) hx hb dX6_add_67 (by decide) ?_
    refine wa_zst (i := m_n M) (b := true) (f := m_isN M) hx hb hK hP hD hS 5 2 rfl rfl rfl (by omega) (by decide) dX6_add_68 (fun H locs hP hD hS => ?_)
    have hP : va_P D vwCl (mX cI cJ cZ a (0) (lds) (m_n M) (m_sn M) (m_vn M) (m_rn M) (m_pn M) (m_nw M) (va_up (m_grp M) (m_n M) (g)) (va_up (m_key M) (m_n M) (k)) (va_up (m_srt M) (m_n M) (s9)) (m_sd M) (m_go M) (va_up (m_seg M) (m_n M) (((-1) : Int))) (m_la M) (va_up (m_isN M) (m_n M) (true)) (m_drp M) (m_has M) (m_sees M) (m_isC M) (m_isG M) (m_ov M) (m_st M) (m_vo M) (m_ko M) (m_sl M) (m_sc M) (m_kp M) (m_en M) (m_pg M)) H := hP
    have hD : va_D A (mX cI cJ cZ a (0) (lds) (m_n M) (m_sn M) (m_vn M) (m_rn M) (m_pn M) (m_nw M) (va_up (m_grp M) (m_n M) (g)) (va_up (m_key M) (m_n M) (k)) (va_up (m_srt M) (m_n M) (s9)) (m_sd M) (m_go M) (va_up (m_seg M) (m_n M) (((-1) : Int))) (m_la M) (va_up (m_isN M) (m_n M) (true)) (m_drp M) (m_has M) (m_sees M) (m_isC M) (m_isG M) (m_ov M) (m_st M) (m_vo M) (m_ko M) (m_sl M) (m_sc M) (m_kp M) (m_en M) (m_pg M)) := hD
    refine lv_aload_n hx hb dX6_add_69 rfl (lv_at hl 0 rfl) ?_
    refine lv_dup hx hb dX6_add_70 rfl ?_
    refine va_get (ci := 6) (v := .int (nI (m_n M))) (C := RX6) (T := TX6) (N := 30) hx hb hts hiX6 hown hK hP 0 rfl rfl 1 (by decide) hf1 (fun _ h9 => h9) rfl dX6_add_71 ?_
    refine lv_iconst (v := nI (1)) hx hb dX6_add_74 (by decide) ?_
    refine lv_iadd hx hb dX6_add_75 (ww_top (y := nI (m_n M + 1)) (nI_addn _ _) ?_)
    refine va_put (ci := 6) (v := .int (nI (m_n M + 1))) (ty := .int) (C := RX6) (T := TX6) (N := 30) hx hb hts hiX6 tyX6 tyX6_ok nmX6 hown hK hP hD hS 0 rfl rfl 1 (by decide) hf1 (fun _ h9 => h9) rfl (by decide +kernel) rfl rfl (Nat.le_of_ble_eq_true rfl) dX6_add_76 (fun H locs hP hD hS => ?_)
    have hP : va_P D vwCl (mX cI cJ cZ a (0) (lds) (m_n M + 1) (m_sn M) (m_vn M) (m_rn M) (m_pn M) (m_nw M) (va_up (m_grp M) (m_n M) (g)) (va_up (m_key M) (m_n M) (k)) (va_up (m_srt M) (m_n M) (s9)) (m_sd M) (m_go M) (va_up (m_seg M) (m_n M) (((-1) : Int))) (m_la M) (va_up (m_isN M) (m_n M) (true)) (m_drp M) (m_has M) (m_sees M) (m_isC M) (m_isG M) (m_ov M) (m_st M) (m_vo M) (m_ko M) (m_sl M) (m_sc M) (m_kp M) (m_en M) (m_pg M)) H := hP
    have hD : va_D A (mX cI cJ cZ a (0) (lds) (m_n M + 1) (m_sn M) (m_vn M) (m_rn M) (m_pn M) (m_nw M) (va_up (m_grp M) (m_n M) (g)) (va_up (m_key M) (m_n M) (k)) (va_up (m_srt M) (m_n M) (s9)) (m_sd M) (m_go M) (va_up (m_seg M) (m_n M) (((-1) : Int))) (m_la M) (va_up (m_isN M) (m_n M) (true)) (m_drp M) (m_has M) (m_sees M) (m_isC M) (m_isG M) (m_ov M) (m_st M) (m_vo M) (m_ko M) (m_sl M) (m_sc M) (m_kp M) (m_en M) (m_pg M)) := hD
    refine lv_aload_n hx hb dX6_add_79 rfl (lv_at hl 0 rfl) ?_
    refine va_get (ci := 6) (v := .int (nI (m_n M + 1))) (C := RX6) (T := TX6) (N := 30) hx hb hts hiX6 hown hK hP 0 rfl rfl 1 (by decide) hf1 (fun _ h9 => h9) rfl dX6_add_80 ?_
    refine lv_iconst (v := nI (1)) hx hb dX6_add_83 (by decide) ?_
    refine lv_isub hx hb dX6_add_84 (ww_top (y := nI (m_n M + 1 - 1)) (pk_sub (by omega)) ?_)
    have hPm : va_P D vwCl (mW cI cJ cZ a (0) (lds) (mkM (m_n M + 1) (m_sn M) (m_vn M) (m_rn M) (m_pn M) (m_nw M) (va_up (m_grp M) (m_n M) (g)) (va_up (m_key M) (m_n M) (k)) (va_up (m_srt M) (m_n M) (s9)) (m_sd M) (m_go M) (va_up (m_seg M) (m_n M) (((-1) : Int))) (m_la M) (va_up (m_isN M) (m_n M) (true)) (m_drp M) (m_has M) (m_sees M) (m_isC M) (m_isG M) (m_ov M) (m_st M) (m_vo M) (m_ko M) (m_sl M) (m_sc M) (m_kp M) (m_en M) (m_pg M))) H := by rw [← mX_mk]; exact hP
    have hDm : va_D A (mW cI cJ cZ a (0) (lds) (mkM (m_n M + 1) (m_sn M) (m_vn M) (m_rn M) (m_pn M) (m_nw M) (va_up (m_grp M) (m_n M) (g)) (va_up (m_key M) (m_n M) (k)) (va_up (m_srt M) (m_n M) (s9)) (m_sd M) (m_go M) (va_up (m_seg M) (m_n M) (((-1) : Int))) (m_la M) (va_up (m_isN M) (m_n M) (true)) (m_drp M) (m_has M) (m_sees M) (m_isC M) (m_isG M) (m_ov M) (m_st M) (m_vo M) (m_ko M) (m_sl M) (m_sc M) (m_kp M) (m_en M) (m_pg M))) := by rw [← mX_mk]; exact hD
    exact W.iret (v := nI (m_n M + 1 - 1)) hx hb hr (fun t ht hW => ⟨⟨_, (0, lds, (mkM (m_n M + 1) (m_sn M) (m_vn M) (m_rn M) (m_pn M) (m_nw M) (va_up (m_grp M) (m_n M) (g)) (va_up (m_key M) (m_n M) (k)) (va_up (m_srt M) (m_n M) (s9)) (m_sd M) (m_go M) (va_up (m_seg M) (m_n M) (((-1) : Int))) (m_la M) (va_up (m_isN M) (m_n M) (true)) (m_drp M) (m_has M) (m_sees M) (m_isC M) (m_isG M) (m_ov M) (m_st M) (m_vo M) (m_ko M) (m_sl M) (m_sc M) (m_kp M) (m_en M) (m_pg M))), rfl, ⟨by rw [addR, if_neg (by omega), Nat.add_sub_cancel], by rw [addM, if_neg (by omega)]⟩, gb_mk ht hW hPm hK hDm⟩, hS.F ht⟩) hS.2.2 dX6_add_85
  · refine lv_bipush (v := zI ((-4))) hx hb dX6_add_15 (by decide) ?_
    have hPm : va_P D vwCl (mW cI cJ cZ a (0) (lds) M) H := by exact hP
    have hDm : va_D A (mW cI cJ cZ a (0) (lds) M) := by exact hD
    exact W.iret (v := zI ((-4))) hx hb hr (fun t ht hW => ⟨⟨_, (0, lds, M), rfl, ⟨by rw [addR, if_pos (by omega)], by rw [addM, if_pos (by omega)]⟩, gb_mk ht hW hPm hK hDm⟩, hS.F ht⟩) hS.2.2 dX6_add_17
def rm_X6_drop : Room := { frames := 0, cells := 0, slots := 0, locals := 0 }
set_option maxHeartbeats 4000000 in
set_option maxRecDepth 100000 in
/-- an object is dropped -/
theorem c_X6_drop (l : Launch) (D : va_G) (cI cJ cZ : ClassId) (a : Nat → Nat) (th : Nat) (lds : Nat → Bool) (M : MT) (hM : mOk M) (x : Int32) (sz : Nat) : Met l yX6_drop wsX6_drop rm_X6_drop (va_Pc [.ref (a 0), .int (x)] (GW D (tyW cI cJ cZ) (mW cI cJ cZ a (th) (lds) M) sz)) (va_Qi (fun rr u => rr = bI (dropR M x) ∧ u.1 = dropT M x ∧ u.2.2 = dropM M x) (fun u => GB D (tyW cI cJ cZ) (va_A (mW cI cJ cZ a (th) (lds) M) sz) (mWu cI cJ cZ a u)) (va_A (mW cI cJ cZ a (th) (lds) M) sz)) 0 0 (va_A (mW cI cJ cZ a (th) (lds) M) sz) := by
  obtain ⟨hn, hsn, hvn, hrn, hpn, hnw, h_seg, h_la, h_st, h_vo, h_ko, h_sl, h_sc, h_kp, h_en, h_pg, hvo, hko, hsl, hsc⟩ := id hM
  have hixx := ix_c x
  refine Met.ofW (cc := cX6_drop) (maxL := 3) (ret := (some .boolean)) (by decide) rfl ?_
  intro p e s m args below meth c s₁ B hml hv
  obtain ⟨rfl, hsz, hP, hK, hD0⟩ := hv
  have hx := B.exec
  have hb := B.bytes
  have hr := B.returns
  have hts := atoms_spec (ws := wsX6_drop) B.pre
  have hown : s.vm.findClass RX6 = some m.cls := findClass_of_methodNamed B.named
  have hlocks := B.notSynchronized
  subst hsz
  have hD := hD0.self (sz := s.heap.size)
  generalize hAe : va_A (mW cI cJ cZ a (th) (lds) M) s.heap.size = A at hD ⊢
  have hA : ∀ q : Nat, s.heap.size ≤ q → A q := fun q h => by rw [← hAe]; exact Or.inr h
  have hS : va_S A s.heap s.heap [] := va_S.rf
  have hP : va_P D vwCl (mX cI cJ cZ a (th) (lds) (m_n M) (m_sn M) (m_vn M) (m_rn M) (m_pn M) (m_nw M) (m_grp M) (m_key M) (m_srt M) (m_sd M) (m_go M) (m_seg M) (m_la M) (m_isN M) (m_drp M) (m_has M) (m_sees M) (m_isC M) (m_isG M) (m_ov M) (m_st M) (m_vo M) (m_ko M) (m_sl M) (m_sc M) (m_kp M) (m_en M) (m_pg M)) s.heap := hP
  have hD : va_D A (mX cI cJ cZ a (th) (lds) (m_n M) (m_sn M) (m_vn M) (m_rn M) (m_pn M) (m_nw M) (m_grp M) (m_key M) (m_srt M) (m_sd M) (m_go M) (m_seg M) (m_la M) (m_isN M) (m_drp M) (m_has M) (m_sees M) (m_isC M) (m_isG M) (m_ov M) (m_st M) (m_vo M) (m_ko M) (m_sl M) (m_sc M) (m_kp M) (m_en M) (m_pg M)) := hD
  have hiX6 : ∀ w ∈ wsX60, w ∈ wsX6_drop := by decide +kernel
  have hf0 := hts (.fieldLink RX6 81 "GroupCursorsModel" "thrown" "I") (by decide +kernel)
  have hf1 := hts (.fieldLink RX6 97 "GroupCursorsModel" "objects" "I") (by decide +kernel)
  have hf2 := hts (.fieldLink RX6 27 "GroupCursorsModel" "isDropped" "[Z") (by decide +kernel)
  have hl := lv_entry ([.ref (a 0), .int (x)]) (n := 3) (Nat.le_of_ble_eq_true rfl)
  rw [lg_entry_eq]
  generalize (lg_sl ([.ref (a 0), .int (x)]) ++ List.replicate (3 - (lg_sl ([.ref (a 0), .int (x)])).length) Slot.unset).toArray = ls at hl ⊢
  have hl : lv_has ls 3 [(0, .ref (a 0)), (1, .int (x))] := hl
  refine lv_aload_n hx hb dX6_drop_0 rfl (lv_at hl 0 rfl) ?_
  refine lv_iconst (v := nI (0)) hx hb dX6_drop_1 (by decide) ?_
  refine va_put (ci := 6) (v := .int (nI (0))) (ty := .int) (C := RX6) (T := TX6) (N := 30) hx hb hts hiX6 tyX6 tyX6_ok nmX6 hown hK hP hD hS 0 rfl rfl 0 (by decide) hf0 (fun _ h9 => h9) rfl (by decide +kernel) rfl rfl (Nat.le_of_ble_eq_true rfl) dX6_drop_2 (fun H locs hP hD hS => ?_)
  have hP : va_P D vwCl (mX cI cJ cZ a (0) (lds) (m_n M) (m_sn M) (m_vn M) (m_rn M) (m_pn M) (m_nw M) (m_grp M) (m_key M) (m_srt M) (m_sd M) (m_go M) (m_seg M) (m_la M) (m_isN M) (m_drp M) (m_has M) (m_sees M) (m_isC M) (m_isG M) (m_ov M) (m_st M) (m_vo M) (m_ko M) (m_sl M) (m_sc M) (m_kp M) (m_en M) (m_pg M)) H := hP
  have hD : va_D A (mX cI cJ cZ a (0) (lds) (m_n M) (m_sn M) (m_vn M) (m_rn M) (m_pn M) (m_nw M) (m_grp M) (m_key M) (m_srt M) (m_sd M) (m_go M) (m_seg M) (m_la M) (m_isN M) (m_drp M) (m_has M) (m_sees M) (m_isC M) (m_isG M) (m_ov M) (m_st M) (m_vo M) (m_ko M) (m_sl M) (m_sc M) (m_kp M) (m_en M) (m_pg M)) := hD
  refine lv_iload_n hx hb dX6_drop_5 rfl (lv_at hl 1 rfl) ?_
  refine wz_if_lt (tgt := 17) hx hb ((x).toInt) rfl dX6_drop_6 (by decide) (fun c6_1 => ?_) (fun c6_1 => ?_)
  · refine lv_aload_n hx hb dX6_drop_17 rfl (lv_at hl 0 rfl) ?_
    refine lv_iconst (v := nI (1)) hx hb dX6_drop_18 (by decide) ?_
    refine va_put (ci := 6) (v := .int (nI (1))) (ty := .int) (C := RX6) (T := TX6) (N := 30) hx hb hts hiX6 tyX6 tyX6_ok nmX6 hown hK hP hD hS 0 rfl rfl 0 (by decide) hf0 (fun _ h9 => h9) rfl (by decide +kernel) rfl rfl (Nat.le_of_ble_eq_true rfl) dX6_drop_19 (fun H locs hP hD hS => ?_)
    have hP : va_P D vwCl (mX cI cJ cZ a (1) (lds) (m_n M) (m_sn M) (m_vn M) (m_rn M) (m_pn M) (m_nw M) (m_grp M) (m_key M) (m_srt M) (m_sd M) (m_go M) (m_seg M) (m_la M) (m_isN M) (m_drp M) (m_has M) (m_sees M) (m_isC M) (m_isG M) (m_ov M) (m_st M) (m_vo M) (m_ko M) (m_sl M) (m_sc M) (m_kp M) (m_en M) (m_pg M)) H := hP
    have hD : va_D A (mX cI cJ cZ a (1) (lds) (m_n M) (m_sn M) (m_vn M) (m_rn M) (m_pn M) (m_nw M) (m_grp M) (m_key M) (m_srt M) (m_sd M) (m_go M) (m_seg M) (m_la M) (m_isN M) (m_drp M) (m_has M) (m_sees M) (m_isC M) (m_isG M) (m_ov M) (m_st M) (m_vo M) (m_ko M) (m_sl M) (m_sc M) (m_kp M) (m_en M) (m_pg M)) := hD
    refine lv_iconst (v := nI (0)) hx hb dX6_drop_22 (by decide) ?_
    have hPm : va_P D vwCl (mW cI cJ cZ a (1) (lds) M) H := by exact hP
    have hDm : va_D A (mW cI cJ cZ a (1) (lds) M) := by exact hD
    exact W.zret (v := nI (0)) hx hb hr rfl (fun t ht hW => ⟨⟨_, (1, lds, M), rfl, ⟨bI_ff (by simp only [dropR]; (repeat' split) <;> first | rfl | (exfalso; omega) | simp [c6_1]), (by simp only [dropT]; (repeat' split) <;> first | rfl | (exfalso; omega)), (by simp only [dropM]; (repeat' split) <;> first | rfl | (exfalso; omega))⟩, gb_mk ht hW hPm hK hDm⟩, hS.F ht⟩) hS.2.2 dX6_drop_23
  · refine lv_iload_n hx hb dX6_drop_9 rfl (lv_at hl 1 rfl) ?_
    refine lv_aload_n hx hb dX6_drop_10 rfl (lv_at hl 0 rfl) ?_
    refine va_get (ci := 6) (v := .int (nI (m_n M))) (C := RX6) (T := TX6) (N := 30) hx hb hts hiX6 hown hK hP 0 rfl rfl 1 (by decide) hf1 (fun _ h9 => h9) rfl dX6_drop_11 ?_
    refine wz_icmp_lt (tgt := 24) hx hb ((x).toInt) (((m_n M : Nat) : Int)) rfl (nI_z (by omega)) dX6_drop_14 (by decide) (fun c14_2 => ?_) (fun c14_2 => ?_)
    · refine lv_aload_n hx hb dX6_drop_24 rfl (lv_at hl 0 rfl) ?_
      refine va_get (ci := 6) (v := .ref (a 6)) (C := RX6) (T := TX6) (N := 30) hx hb hts hiX6 hown hK hP 0 rfl rfl 7 (by decide) hf2 (fun _ h9 => h9) rfl dX6_drop_25 ?_
      refine lv_iload_n hx hb dX6_drop_28 rfl (lv_at hl 1 rfl) ?_
      refine ww_top (y := nI (ix x)) (ix_n (by omega)) ?_
      refine wa_z (i := ix x) (v := bI (m_drp M (ix x))) hx hb hK hP 6 2 rfl rfl rfl (by omega) (by decide) dX6_drop_29 ?_
      refine lv_istore_n (lv' := [(2, .int (bI (m_drp M (ix x)))), (0, .ref (a 0)), (1, .int (x))]) hx hb dX6_drop_30 rfl hl (by decide) rfl (fun ls hl => ?_)
      refine lv_aload_n hx hb dX6_drop_31 rfl (lv_at hl 1 rfl) ?_
      refine va_get (ci := 6) (v := .ref (a 6)) (C := RX6) (T := TX6) (N := 30) hx hb hts hiX6 hown hK hP 0 rfl rfl 7 (by decide) hf2 (fun _ h9 => h9) rfl dX6_drop_32 ?_
      refine lv_iload_n hx hb dX6_drop_35 rfl (lv_at hl 2 rfl) ?_
      refine ww_top (y := nI (ix x)) (ix_n (by omega)) ?_
      refine lv_iconst (v := nI (1)) hx hb dX6_drop_36 (by decide) ?_
      refine wa_zst (i := ix x) (b := true) (f := m_drp M) hx hb hK hP hD hS 6 2 rfl rfl rfl (by omega) (by decide) dX6_drop_37 (fun H locs hP hD hS => ?_)
      have hP : va_P D vwCl (mX cI cJ cZ a (0) (lds) (m_n M) (m_sn M) (m_vn M) (m_rn M) (m_pn M) (m_nw M) (m_grp M) (m_key M) (m_srt M) (m_sd M) (m_go M) (m_seg M) (m_la M) (m_isN M) (va_up (m_drp M) (ix x) (true)) (m_has M) (m_sees M) (m_isC M) (m_isG M) (m_ov M) (m_st M) (m_vo M) (m_ko M) (m_sl M) (m_sc M) (m_kp M) (m_en M) (m_pg M)) H := hP
      have hD : va_D A (mX cI cJ cZ a (0) (lds) (m_n M) (m_sn M) (m_vn M) (m_rn M) (m_pn M) (m_nw M) (m_grp M) (m_key M) (m_srt M) (m_sd M) (m_go M) (m_seg M) (m_la M) (m_isN M) (va_up (m_drp M) (ix x) (true)) (m_has M) (m_sees M) (m_isC M) (m_isG M) (m_ov M) (m_st M) (m_vo M) (m_ko M) (m_sl M) (m_sc M) (m_kp M) (m_en M) (m_pg M)) := hD
      refine lv_iload_n hx hb dX6_drop_38 rfl (lv_at hl 0 rfl) ?_
      refine wb_if_ne (tgt := 46) hx hb dX6_drop_39 (by decide) (fun c39_3 => ?_) (fun c39_3 => ?_)
      · refine lv_iconst (v := nI (0)) hx hb dX6_drop_46 (by decide) ?_
        have hPm : va_P D vwCl (mW cI cJ cZ a (0) (lds) (mkM (m_n M) (m_sn M) (m_vn M) (m_rn M) (m_pn M) (m_nw M) (m_grp M) (m_key M) (m_srt M) (m_sd M) (m_go M) (m_seg M) (m_la M) (m_isN M) (va_up (m_drp M) (ix x) (true)) (m_has M) (m_sees M) (m_isC M) (m_isG M) (m_ov M) (m_st M) (m_vo M) (m_ko M) (m_sl M) (m_sc M) (m_kp M) (m_en M) (m_pg M))) H := by rw [← mX_mk]; exact hP
        have hDm : va_D A (mW cI cJ cZ a (0) (lds) (mkM (m_n M) (m_sn M) (m_vn M) (m_rn M) (m_pn M) (m_nw M) (m_grp M) (m_key M) (m_srt M) (m_sd M) (m_go M) (m_seg M) (m_la M) (m_isN M) (va_up (m_drp M) (ix x) (true)) (m_has M) (m_sees M) (m_isC M) (m_isG M) (m_ov M) (m_st M) (m_vo M) (m_ko M) (m_sl M) (m_sc M) (m_kp M) (m_en M) (m_pg M))) := by rw [← mX_mk]; exact hD
        exact W.zret (v := nI (0)) hx hb hr rfl (fun t ht hW => ⟨⟨_, (0, lds, (mkM (m_n M) (m_sn M) (m_vn M) (m_rn M) (m_pn M) (m_nw M) (m_grp M) (m_key M) (m_srt M) (m_sd M) (m_go M) (m_seg M) (m_la M) (m_isN M) (va_up (m_drp M) (ix x) (true)) (m_has M) (m_sees M) (m_isC M) (m_isG M) (m_ov M) (m_st M) (m_vo M) (m_ko M) (m_sl M) (m_sc M) (m_kp M) (m_en M) (m_pg M))), rfl, ⟨bI_ff (by simp only [dropR]; (repeat' split) <;> first | rfl | (exfalso; omega) | simp [c39_3]), (by simp only [dropT, c39_3, if_true, if_false, eq_self, Bool.true_eq_false, Bool.false_eq_true, ite_true, ite_false, reduceIte]; (repeat' split) <;> first | rfl | (exfalso; omega)), (by simp only [dropM, c39_3, if_true, if_false, eq_self, Bool.true_eq_false, Bool.false_eq_true, ite_true, ite_false, reduceIte]; (repeat' split) <;> first | rfl | (exfalso; omega))⟩, gb_mk ht hW hPm hK hDm⟩, hS.F ht⟩) hS.2.2 dX6_drop_47
      · refine lv_iconst (v := nI (1)) hx hb dX6_drop_42 (by decide) ?_
        refine lv_goto (tgt := 47) hx hb dX6_drop_43 (by decide) ?_
        have hPm : va_P D vwCl (mW cI cJ cZ a (0) (lds) (mkM (m_n M) (m_sn M) (m_vn M) (m_rn M) (m_pn M) (m_nw M) (m_grp M) (m_key M) (m_srt M) (m_sd M) (m_go M) (m_seg M) (m_la M) (m_isN M) (va_up (m_drp M) (ix x) (true)) (m_has M) (m_sees M) (m_isC M) (m_isG M) (m_ov M) (m_st M) (m_vo M) (m_ko M) (m_sl M) (m_sc M) (m_kp M) (m_en M) (m_pg M))) H := by rw [← mX_mk]; exact hP
        have hDm : va_D A (mW cI cJ cZ a (0) (lds) (mkM (m_n M) (m_sn M) (m_vn M) (m_rn M) (m_pn M) (m_nw M) (m_grp M) (m_key M) (m_srt M) (m_sd M) (m_go M) (m_seg M) (m_la M) (m_isN M) (va_up (m_drp M) (ix x) (true)) (m_has M) (m_sees M) (m_isC M) (m_isG M) (m_ov M) (m_st M) (m_vo M) (m_ko M) (m_sl M) (m_sc M) (m_kp M) (m_en M) (m_pg M))) := by rw [← mX_mk]; exact hD
        exact W.zret (v := nI (1)) hx hb hr rfl (fun t ht hW => ⟨⟨_, (0, lds, (mkM (m_n M) (m_sn M) (m_vn M) (m_rn M) (m_pn M) (m_nw M) (m_grp M) (m_key M) (m_srt M) (m_sd M) (m_go M) (m_seg M) (m_la M) (m_isN M) (va_up (m_drp M) (ix x) (true)) (m_has M) (m_sees M) (m_isC M) (m_isG M) (m_ov M) (m_st M) (m_vo M) (m_ko M) (m_sl M) (m_sc M) (m_kp M) (m_en M) (m_pg M))), rfl, ⟨bI_tt (by simp only [dropR]; (repeat' split) <;> first | rfl | (exfalso; omega) | simp [c39_3]), (by simp only [dropT, c39_3, if_true, if_false, eq_self, Bool.true_eq_false, Bool.false_eq_true, ite_true, ite_false, reduceIte]; (repeat' split) <;> first | rfl | (exfalso; omega)), (by simp only [dropM, c39_3, if_true, if_false, eq_self, Bool.true_eq_false, Bool.false_eq_true, ite_true, ite_false, reduceIte]; (repeat' split) <;> first | rfl | (exfalso; omega))⟩, gb_mk ht hW hPm hK hDm⟩, hS.F ht⟩) hS.2.2 dX6_drop_47
    · refine lv_aload_n hx hb dX6_drop_17 rfl (lv_at hl 0 rfl) ?_
      refine lv_iconst (v := nI (1)) hx hb dX6_drop_18 (by decide) ?_
      refine va_put (ci := 6) (v := .int (nI (1))) (ty := .int) (C := RX6) (T := TX6) (N := 30) hx hb hts hiX6 tyX6 tyX6_ok nmX6 hown hK hP hD hS 0 rfl rfl 0 (by decide) hf0 (fun _ h9 => h9) rfl (by decide +kernel) rfl rfl (Nat.le_of_ble_eq_true rfl) dX6_drop_19 (fun H locs hP hD hS => ?_)
      have hP : va_P D vwCl (mX cI cJ cZ a (1) (lds) (m_n M) (m_sn M) (m_vn M) (m_rn M) (m_pn M) (m_nw M) (m_grp M) (m_key M) (m_srt M) (m_sd M) (m_go M) (m_seg M) (m_la M) (m_isN M) (m_drp M) (m_has M) (m_sees M) (m_isC M) (m_isG M) (m_ov M) (m_st M) (m_vo M) (m_ko M) (m_sl M) (m_sc M) (m_kp M) (m_en M) (m_pg M)) H := hP
      have hD : va_D A (mX cI cJ cZ a (1) (lds) (m_n M) (m_sn M) (m_vn M) (m_rn M) (m_pn M) (m_nw M) (m_grp M) (m_key M) (m_srt M) (m_sd M) (m_go M) (m_seg M) (m_la M) (m_isN M) (m_drp M) (m_has M) (m_sees M) (m_isC M) (m_isG M) (m_ov M) (m_st M) (m_vo M) (m_ko M) (m_sl M) (m_sc M) (m_kp M) (m_en M) (m_pg M)) := hD
      refine lv_iconst (v := nI (0)) hx hb dX6_drop_22 (by decide) ?_
      have hPm : va_P D vwCl (mW cI cJ cZ a (1) (lds) M) H := by exact hP
      have hDm : va_D A (mW cI cJ cZ a (1) (lds) M) := by exact hD
      exact W.zret (v := nI (0)) hx hb hr rfl (fun t ht hW => ⟨⟨_, (1, lds, M), rfl, ⟨bI_ff (by simp only [dropR]; (repeat' split) <;> first | rfl | (exfalso; omega) | simp [c14_2]), (by simp only [dropT]; (repeat' split) <;> first | rfl | (exfalso; omega)), (by simp only [dropM]; (repeat' split) <;> first | rfl | (exfalso; omega))⟩, gb_mk ht hW hPm hK hDm⟩, hS.F ht⟩) hS.2.2 dX6_drop_23
def rm_X6_commit : Room := { frames := 1, cells := 0, slots := 0, locals := 22 }
set_option maxHeartbeats 4000000 in
set_option maxRecDepth 100000 in
/-- the new ones come into a segment -/
theorem c_X6_commit (l : Launch) (D : va_G) (cI cJ cZ : ClassId) (a : Nat → Nat) (th : Nat) (lds : Nat → Bool) (M : MT) (hM : mOk M)  (sz : Nat) : Met l yX6_commit wsX6_commit rm_X6_commit (va_Pc [.ref (a 0)] (GW D (tyW cI cJ cZ) (mW cI cJ cZ a (th) (lds) M) sz)) (va_Qi (fun rr u => rr = commitR M ∧ u = (0, lds, commitM M)) (fun u => GB D (tyW cI cJ cZ) (va_A (mW cI cJ cZ a (th) (lds) M) sz) (mWu cI cJ cZ a u)) (va_A (mW cI cJ cZ a (th) (lds) M) sz)) 0 0 (va_A (mW cI cJ cZ a (th) (lds) M) sz) := by
  obtain ⟨hn, hsn, hvn, hrn, hpn, hnw, h_seg, h_la, h_st, h_vo, h_ko, h_sl, h_sc, h_kp, h_en, h_pg, hvo, hko, hsl, hsc⟩ := id hM
  refine Met.ofW (cc := cX6_commit) (maxL := 3) (ret := (some .int)) (by decide) rfl ?_
  intro p e s m args below meth c s₁ B hml hv
  obtain ⟨rfl, hsz, hP, hK, hD0⟩ := hv
  have hx := B.exec
  have hb := B.bytes
  have hr := B.returns
  have hts := atoms_spec (ws := wsX6_commit) B.pre
  have hown : s.vm.findClass RX6 = some m.cls := findClass_of_methodNamed B.named
  have hlocks := B.notSynchronized
  subst hsz
  have hD := hD0.self (sz := s.heap.size)
  generalize hAe : va_A (mW cI cJ cZ a (th) (lds) M) s.heap.size = A at hD ⊢
  have hA : ∀ q : Nat, s.heap.size ≤ q → A q := fun q h => by rw [← hAe]; exact Or.inr h
  have hS : va_S A s.heap s.heap [] := va_S.rf
  have hP : va_P D vwCl (mX cI cJ cZ a (th) (lds) (m_n M) (m_sn M) (m_vn M) (m_rn M) (m_pn M) (m_nw M) (m_grp M) (m_key M) (m_srt M) (m_sd M) (m_go M) (m_seg M) (m_la M) (m_isN M) (m_drp M) (m_has M) (m_sees M) (m_isC M) (m_isG M) (m_ov M) (m_st M) (m_vo M) (m_ko M) (m_sl M) (m_sc M) (m_kp M) (m_en M) (m_pg M)) s.heap := hP
  have hD : va_D A (mX cI cJ cZ a (th) (lds) (m_n M) (m_sn M) (m_vn M) (m_rn M) (m_pn M) (m_nw M) (m_grp M) (m_key M) (m_srt M) (m_sd M) (m_go M) (m_seg M) (m_la M) (m_isN M) (m_drp M) (m_has M) (m_sees M) (m_isC M) (m_isG M) (m_ov M) (m_st M) (m_vo M) (m_ko M) (m_sl M) (m_sc M) (m_kp M) (m_en M) (m_pg M)) := hD
  have hiX6 : ∀ w ∈ wsX60, w ∈ wsX6_commit := by decide +kernel
  have hf0 := hts (.fieldLink RX6 81 "GroupCursorsModel" "thrown" "I") (by decide +kernel)
  have hf1 := hts (.fieldLink RX6 97 "GroupCursorsModel" "objects" "I") (by decide +kernel)
  have hf2 := hts (.fieldLink RX6 121 "GroupCursorsModel" "segments" "I") (by decide +kernel)
  have hf3 := hts (.fieldLink RX6 23 "GroupCursorsModel" "isNew" "[Z") (by decide +kernel)
  have hf4 := hts (.fieldLink RX6 19 "GroupCursorsModel" "segment" "[I") (by decide +kernel)
  have hf5 := hts (.fieldLink RX6 27 "GroupCursorsModel" "isDropped" "[Z") (by decide +kernel)
  have hl := lv_entry ([.ref (a 0)]) (n := 3) (Nat.le_of_ble_eq_true rfl)
  rw [lg_entry_eq]
  generalize (lg_sl ([.ref (a 0)]) ++ List.replicate (3 - (lg_sl ([.ref (a 0)])).length) Slot.unset).toArray = ls at hl ⊢
  have hl : lv_has ls 3 [(0, .ref (a 0))] := hl
  refine lv_aload_n hx hb dX6_commit_0 rfl (lv_at hl 0 rfl) ?_
  refine lv_iconst (v := nI (0)) hx hb dX6_commit_1 (by decide) ?_
  refine va_put (ci := 6) (v := .int (nI (0))) (ty := .int) (C := RX6) (T := TX6) (N := 30) hx hb hts hiX6 tyX6 tyX6_ok nmX6 hown hK hP hD hS 0 rfl rfl 0 (by decide) hf0 (fun _ h9 => h9) rfl (by decide +kernel) rfl rfl (Nat.le_of_ble_eq_true rfl) dX6_commit_2 (fun H locs hP hD hS => ?_)
  have hP : va_P D vwCl (mX cI cJ cZ a (0) (lds) (m_n M) (m_sn M) (m_vn M) (m_rn M) (m_pn M) (m_nw M) (m_grp M) (m_key M) (m_srt M) (m_sd M) (m_go M) (m_seg M) (m_la M) (m_isN M) (m_drp M) (m_has M) (m_sees M) (m_isC M) (m_isG M) (m_ov M) (m_st M) (m_vo M) (m_ko M) (m_sl M) (m_sc M) (m_kp M) (m_en M) (m_pg M)) H := hP
  have hD : va_D A (mX cI cJ cZ a (0) (lds) (m_n M) (m_sn M) (m_vn M) (m_rn M) (m_pn M) (m_nw M) (m_grp M) (m_key M) (m_srt M) (m_sd M) (m_go M) (m_seg M) (m_la M) (m_isN M) (m_drp M) (m_has M) (m_sees M) (m_isC M) (m_isG M) (m_ov M) (m_st M) (m_vo M) (m_ko M) (m_sl M) (m_sc M) (m_kp M) (m_en M) (m_pg M)) := hD
  refine lv_aload_n hx hb dX6_commit_5 rfl (lv_at hl 0 rfl) ?_
  have hPm : va_P D vwCl (mW cI cJ cZ a (0) (lds) M) H := by exact hP
  refine wc_Vi (As := []) (rest := []) ⟨hx, hb, hml, hown, hts⟩ (c_X6_newOnes l D cI cJ cZ a (0) (lds) M hM) (cwV 0 hts gX6_commit_X6_newOnes rfl rfl rfl (by decide +kernel) ⟨Nat.le_of_ble_eq_true rfl, Nat.le_of_ble_eq_true rfl⟩) hPm hK 0 rfl rfl rfl hl.1 rfl (Nat.le_of_ble_eq_true rfl) dX6_commit_6 ⟨Nat.zero_le _, Nat.zero_le _⟩ (fun rr hq1 => ?_)
  have hq1 : rr = nI (newOnes M) := hq1
  subst hq1
  have hle2 : newOnes M ≤ 300 := Nat.le_trans (cnt_le _ _) hn
  refine lv_istore_n (lv' := [(1, .int (nI (newOnes M))), (0, .ref (a 0))]) hx hb dX6_commit_9 rfl hl (by decide) rfl (fun ls hl => ?_)
  refine lv_iload_n hx hb dX6_commit_10 rfl (lv_at hl 0 rfl) ?_
  refine wn_if_le (a := newOnes M) (tgt := 26) hx hb (nI_z (by omega)) dX6_commit_11 (by decide) (fun c11_3 => ?_) (fun c11_3 => ?_)
  · refine lv_iconst (v := nI (0)) hx hb dX6_commit_26 (by decide) ?_
    refine lv_istore_n (lv' := [(2, .int (nI (0))), (1, .int (nI (newOnes M))), (0, .ref (a 0))]) hx hb dX6_commit_27 rfl hl (by decide) rfl (fun ls hl => ?_)
    have hlp28 : ∀ (d : Nat) (i : Nat) (H : Heap) (locs : List Loc), m_n M - i < d → (i ≤ m_n M) → va_P D vwCl (mX cI cJ cZ a (0) (lds) (m_n M) (m_sn M) (m_vn M) (m_rn M) (m_pn M) (m_nw M) (m_grp M) (m_key M) (m_srt M) (m_sd M) (m_go M) (cmS M i) (m_la M) (cmN M i) (m_drp M) (m_has M) (m_sees M) (m_isC M) (m_isG M) (m_ov M) (m_st M) (m_vo M) (m_ko M) (m_sl M) (m_sc M) (m_kp M) (m_en M) (m_pg M)) H → va_D A (mX cI cJ cZ a (0) (lds) (m_n M) (m_sn M) (m_vn M) (m_rn M) (m_pn M) (m_nw M) (m_grp M) (m_key M) (m_srt M) (m_sd M) (m_go M) (cmS M i) (m_la M) (cmN M i) (m_drp M) (m_has M) (m_sees M) (m_isC M) (m_isG M) (m_ov M) (m_st M) (m_vo M) (m_ko M) (m_sl M) (m_sc M) (m_kp M) (m_en M) (m_pg M)) → va_S A s.heap H locs → ∀ (ls : Array Slot), lv_has ls 3 [(0, .ref (a 0)), (1, .int (nI (newOnes M))), (2, .int (nI (i)))] → W p l e (headSpec wsX6_commit rm_X6_commit).room s m ([.ref (a 0)] : List Value).toArray below meth c H locs (0) (0) (MQ below (va_Qi (fun rr u => rr = commitR M ∧ u = (0, lds, commitM M)) (fun u => GB D (tyW cI cJ cZ) A (mWu cI cJ cZ a u)) A) ([.ref (a 0)] : List Value).toArray s 0 0 A) (F0 m 28 ls []) := by
      intro d
      induction d with
      | zero => intro i H locs hd28; exact absurd hd28 (Nat.not_lt_zero _)
      | succ d ih28 =>
        intro i H locs hd28 hik hP hD hS ls hl
        refine lv_iload_n hx hb dX6_commit_28 rfl (lv_at hl 2 rfl) ?_
        refine lv_aload_n hx hb dX6_commit_29 rfl (lv_at hl 0 rfl) ?_
        refine va_get (ci := 6) (v := .int (nI (m_n M))) (C := RX6) (T := TX6) (N := 30) hx hb hts hiX6 hown hK hP 0 rfl rfl 1 (by decide) hf1 (fun _ h9 => h9) rfl dX6_commit_30 ?_
        refine wn_icmp_ge (a := i) (b := m_n M) (tgt := 81) hx hb (nI_z (by omega)) (nI_z (by omega)) dX6_commit_33 (by decide) (fun c33_4 => ?_) (fun c33_4 => ?_)
        · refine lv_aload_n hx hb dX6_commit_81 rfl (lv_at hl 0 rfl) ?_
          refine lv_dup hx hb dX6_commit_82 rfl ?_
          refine va_get (ci := 6) (v := .int (nI (m_sn M))) (C := RX6) (T := TX6) (N := 30) hx hb hts hiX6 hown hK hP 0 rfl rfl 8 (by decide) hf2 (fun _ h9 => h9) rfl dX6_commit_83 ?_
          refine lv_iload_n hx hb dX6_commit_86 rfl (lv_at hl 1 rfl) ?_
          refine wn_if_le (a := newOnes M) (tgt := 94) hx hb (nI_z (by omega)) dX6_commit_87 (by decide) (fun c87_5 => ?_) (fun c87_5 => ?_)
          · refine lv_iconst (v := nI (0)) hx hb dX6_commit_94 (by decide) ?_
            refine lv_iadd hx hb dX6_commit_95 (ww_top (y := nI (m_sn M + 0)) (nI_addn _ _) ?_)
            refine va_put (ci := 6) (v := .int (nI (m_sn M + 0))) (ty := .int) (C := RX6) (T := TX6) (N := 30) hx hb hts hiX6 tyX6 tyX6_ok nmX6 hown hK hP hD hS 0 rfl rfl 8 (by decide) hf2 (fun _ h9 => h9) rfl (by decide +kernel) rfl rfl (Nat.le_of_ble_eq_true rfl) dX6_commit_96 (fun H locs hP hD hS => ?_)
            have hP : va_P D vwCl (mX cI cJ cZ a (0) (lds) (m_n M) (m_sn M + 0) (m_vn M) (m_rn M) (m_pn M) (m_nw M) (m_grp M) (m_key M) (m_srt M) (m_sd M) (m_go M) (cmS M i) (m_la M) (cmN M i) (m_drp M) (m_has M) (m_sees M) (m_isC M) (m_isG M) (m_ov M) (m_st M) (m_vo M) (m_ko M) (m_sl M) (m_sc M) (m_kp M) (m_en M) (m_pg M)) H := hP
            have hD : va_D A (mX cI cJ cZ a (0) (lds) (m_n M) (m_sn M + 0) (m_vn M) (m_rn M) (m_pn M) (m_nw M) (m_grp M) (m_key M) (m_srt M) (m_sd M) (m_go M) (cmS M i) (m_la M) (cmN M i) (m_drp M) (m_has M) (m_sees M) (m_isC M) (m_isG M) (m_ov M) (m_st M) (m_vo M) (m_ko M) (m_sl M) (m_sc M) (m_kp M) (m_en M) (m_pg M)) := hD
            refine lv_iload_n hx hb dX6_commit_99 rfl (lv_at hl 1 rfl) ?_
            have hPm : va_P D vwCl (mW cI cJ cZ a (0) (lds) (mkM (m_n M) (m_sn M + 0) (m_vn M) (m_rn M) (m_pn M) (m_nw M) (m_grp M) (m_key M) (m_srt M) (m_sd M) (m_go M) (cmS M i) (m_la M) (cmN M i) (m_drp M) (m_has M) (m_sees M) (m_isC M) (m_isG M) (m_ov M) (m_st M) (m_vo M) (m_ko M) (m_sl M) (m_sc M) (m_kp M) (m_en M) (m_pg M))) H := by rw [← mX_mk]; exact hP
            have hDm : va_D A (mW cI cJ cZ a (0) (lds) (mkM (m_n M) (m_sn M + 0) (m_vn M) (m_rn M) (m_pn M) (m_nw M) (m_grp M) (m_key M) (m_srt M) (m_sd M) (m_go M) (cmS M i) (m_la M) (cmN M i) (m_drp M) (m_has M) (m_sees M) (m_isC M) (m_isG M) (m_ov M) (m_st M) (m_vo M) (m_ko M) (m_sl M) (m_sc M) (m_kp M) (m_en M) (m_pg M))) := by rw [← mX_mk]; exact hD
            exact W.iret (v := nI (newOnes M)) hx hb hr (fun t ht hW => ⟨⟨_, (0, lds, (mkM (m_n M) (m_sn M + 0) (m_vn M) (m_rn M) (m_pn M) (m_nw M) (m_grp M) (m_key M) (m_srt M) (m_sd M) (m_go M) (cmS M i) (m_la M) (cmN M i) (m_drp M) (m_has M) (m_sees M) (m_isC M) (m_isG M) (m_ov M) (m_st M) (m_vo M) (m_ko M) (m_sl M) (m_sc M) (m_kp M) (m_en M) (m_pg M))), rfl, ⟨by rw [commitR, if_neg (by omega)], by rw [commitM, if_neg (by omega), if_neg (by omega), ← (show i = m_n M by omega)]⟩, gb_mk ht hW hPm hK hDm⟩, hS.F ht⟩) hS.2.2 dX6_commit_100
          · refine lv_iconst (v := nI (1)) hx hb dX6_commit_90 (by decide) ?_
            refine lv_goto (tgt := 95) hx hb dX6_commit_91 (by decide) ?_
            refine lv_iadd hx hb dX6_commit_95 (ww_top (y := nI (m_sn M + 1)) (nI_addn _ _) ?_)
            refine va_put (ci := 6) (v := .int (nI (m_sn M + 1))) (ty := .int) (C := RX6) (T := TX6) (N := 30) hx hb hts hiX6 tyX6 tyX6_ok nmX6 hown hK hP hD hS 0 rfl rfl 8 (by decide) hf2 (fun _ h9 => h9) rfl (by decide +kernel) rfl rfl (Nat.le_of_ble_eq_true rfl) dX6_commit_96 (fun H locs hP hD hS => ?_)
            have hP : va_P D vwCl (mX cI cJ cZ a (0) (lds) (m_n M) (m_sn M + 1) (m_vn M) (m_rn M) (m_pn M) (m_nw M) (m_grp M) (m_key M) (m_srt M) (m_sd M) (m_go M) (cmS M i) (m_la M) (cmN M i) (m_drp M) (m_has M) (m_sees M) (m_isC M) (m_isG M) (m_ov M) (m_st M) (m_vo M) (m_ko M) (m_sl M) (m_sc M) (m_kp M) (m_en M) (m_pg M)) H := hP
            have hD : va_D A (mX cI cJ cZ a (0) (lds) (m_n M) (m_sn M + 1) (m_vn M) (m_rn M) (m_pn M) (m_nw M) (m_grp M) (m_key M) (m_srt M) (m_sd M) (m_go M) (cmS M i) (m_la M) (cmN M i) (m_drp M) (m_has M) (m_sees M) (m_isC M) (m_isG M) (m_ov M) (m_st M) (m_vo M) (m_ko M) (m_sl M) (m_sc M) (m_kp M) (m_en M) (m_pg M)) := hD
            refine lv_iload_n hx hb dX6_commit_99 rfl (lv_at hl 1 rfl) ?_
            have hPm : va_P D vwCl (mW cI cJ cZ a (0) (lds) (mkM (m_n M) (m_sn M + 1) (m_vn M) (m_rn M) (m_pn M) (m_nw M) (m_grp M) (m_key M) (m_srt M) (m_sd M) (m_go M) (cmS M i) (m_la M) (cmN M i) (m_drp M) (m_has M) (m_sees M) (m_isC M) (m_isG M) (m_ov M) (m_st M) (m_vo M) (m_ko M) (m_sl M) (m_sc M) (m_kp M) (m_en M) (m_pg M))) H := by rw [← mX_mk]; exact hP
            have hDm : va_D A (mW cI cJ cZ a (0) (lds) (mkM (m_n M) (m_sn M + 1) (m_vn M) (m_rn M) (m_pn M) (m_nw M) (m_grp M) (m_key M) (m_srt M) (m_sd M) (m_go M) (cmS M i) (m_la M) (cmN M i) (m_drp M) (m_has M) (m_sees M) (m_isC M) (m_isG M) (m_ov M) (m_st M) (m_vo M) (m_ko M) (m_sl M) (m_sc M) (m_kp M) (m_en M) (m_pg M))) := by rw [← mX_mk]; exact hD
            exact W.iret (v := nI (newOnes M)) hx hb hr (fun t ht hW => ⟨⟨_, (0, lds, (mkM (m_n M) (m_sn M + 1) (m_vn M) (m_rn M) (m_pn M) (m_nw M) (m_grp M) (m_key M) (m_srt M) (m_sd M) (m_go M) (cmS M i) (m_la M) (cmN M i) (m_drp M) (m_has M) (m_sees M) (m_isC M) (m_isG M) (m_ov M) (m_st M) (m_vo M) (m_ko M) (m_sl M) (m_sc M) (m_kp M) (m_en M) (m_pg M))), rfl, ⟨by rw [commitR, if_neg (by omega)], by rw [commitM, if_neg (by omega), if_pos (by omega), ← (show i = m_n M by omega)]⟩, gb_mk ht hW hPm hK hDm⟩, hS.F ht⟩) hS.2.2 dX6_commit_100
        · refine lv_aload_n hx hb dX6_commit_36 rfl (lv_at hl 0 rfl) ?_
          refine va_get (ci := 6) (v := .ref (a 5)) (C := RX6) (T := TX6) (N := 30) hx hb hts hiX6 hown hK hP 0 rfl rfl 6 (by decide) hf3 (fun _ h9 => h9) rfl dX6_commit_37 ?_
          refine lv_iload_n hx hb dX6_commit_40 rfl (lv_at hl 2 rfl) ?_
          refine wa_z (i := i) (v := bI ((cmN M i) i)) hx hb hK hP 5 2 rfl rfl rfl (by omega) (by decide) dX6_commit_41 ?_
          refine wb_if_eq (tgt := 75) hx hb dX6_commit_42 (by decide) (fun c42_6 => ?_) (fun c42_6 => ?_)
          · refine lv_iinc (v := nI (i + 1)) (lv' := [(2, .int (nI (i + 1))), (0, .ref (a 0)), (1, .int (nI (newOnes M)))]) hx hb dX6_commit_75 hl (k := 2) rfl (nI_inc _) (by decide) rfl (fun ls hl => ?_)
            refine lv_goto (tgt := 28) hx hb dX6_commit_78 (by decide) ?_
            have e1 : cmN M i = cmN M (i + 1) := by simp only [cmN]; rw [if_neg (by rw [← cmN_at M i i (Nat.le_refl _), c42_6]; decide)]
            have e2 : cmS M i = cmS M (i + 1) := by simp only [cmS]; rw [if_neg (by rw [← cmN_at M i i (Nat.le_refl _), c42_6]; decide)]
            rw [e1, e2] at hP hD
            exact ih28 (i + 1) _ _ (by omega) (by omega) hP hD hS ls (lv_sub hl [1, 2, 0] rfl)
          · refine lv_aload_n hx hb dX6_commit_45 rfl (lv_at hl 0 rfl) ?_
            refine va_get (ci := 6) (v := .ref (a 5)) (C := RX6) (T := TX6) (N := 30) hx hb hts hiX6 hown hK hP 0 rfl rfl 6 (by decide) hf3 (fun _ h9 => h9) rfl dX6_commit_46 ?_
            refine lv_iload_n hx hb dX6_commit_49 rfl (lv_at hl 2 rfl) ?_
            refine lv_iconst (v := nI (0)) hx hb dX6_commit_50 (by decide) ?_
            refine wa_zst (i := i) (b := false) (f := cmN M i) hx hb hK hP hD hS 5 2 rfl rfl rfl (by omega) (by decide) dX6_commit_51 (fun H locs hP hD hS => ?_)
            have hP : va_P D vwCl (mX cI cJ cZ a (0) (lds) (m_n M) (m_sn M) (m_vn M) (m_rn M) (m_pn M) (m_nw M) (m_grp M) (m_key M) (m_srt M) (m_sd M) (m_go M) (cmS M i) (m_la M) (va_up (cmN M i) (i) (false)) (m_drp M) (m_has M) (m_sees M) (m_isC M) (m_isG M) (m_ov M) (m_st M) (m_vo M) (m_ko M) (m_sl M) (m_sc M) (m_kp M) (m_en M) (m_pg M)) H := hP
            have hD : va_D A (mX cI cJ cZ a (0) (lds) (m_n M) (m_sn M) (m_vn M) (m_rn M) (m_pn M) (m_nw M) (m_grp M) (m_key M) (m_srt M) (m_sd M) (m_go M) (cmS M i) (m_la M) (va_up (cmN M i) (i) (false)) (m_drp M) (m_has M) (m_sees M) (m_isC M) (m_isG M) (m_ov M) (m_st M) (m_vo M) (m_ko M) (m_sl M) (m_sc M) (m_kp M) (m_en M) (m_pg M)) := hD
            refine lv_aload_n hx hb dX6_commit_52 rfl (lv_at hl 0 rfl) ?_
            refine va_get (ci := 6) (v := .ref (a 4)) (C := RX6) (T := TX6) (N := 30) hx hb hts hiX6 hown hK hP 0 rfl rfl 5 (by decide) hf4 (fun _ h9 => h9) rfl dX6_commit_53 ?_
            refine lv_iload_n hx hb dX6_commit_56 rfl (lv_at hl 2 rfl) ?_
            refine lv_aload_n hx hb dX6_commit_57 rfl (lv_at hl 0 rfl) ?_
            refine va_get (ci := 6) (v := .ref (a 6)) (C := RX6) (T := TX6) (N := 30) hx hb hts hiX6 hown hK hP 0 rfl rfl 7 (by decide) hf5 (fun _ h9 => h9) rfl dX6_commit_58 ?_
            refine lv_iload_n hx hb dX6_commit_61 rfl (lv_at hl 2 rfl) ?_
            refine wa_z (i := i) (v := bI (m_drp M i)) hx hb hK hP 6 2 rfl rfl rfl (by omega) (by decide) dX6_commit_62 ?_
            refine wb_if_eq (tgt := 70) hx hb dX6_commit_63 (by decide) (fun c63_7 => ?_) (fun c63_7 => ?_)
            · refine lv_aload_n hx hb dX6_commit_70 rfl (lv_at hl 0 rfl) ?_
              refine va_get (ci := 6) (v := .int (nI (m_sn M))) (C := RX6) (T := TX6) (N := 30) hx hb hts hiX6 hown hK hP 0 rfl rfl 8 (by decide) hf2 (fun _ h9 => h9) rfl dX6_commit_71 ?_
              refine ww_top (y := zI (((m_sn M : Nat) : Int))) (zI_n _).symm ?_
              refine wa_ist (i := i) hx hb hK hP hD hS 4 0 rfl rfl (upd_zI (cmS M i) (i) (((m_sn M : Nat) : Int))) (by omega) (by decide) dX6_commit_74 (fun H locs hP hD hS => ?_)
              have hP : va_P D vwCl (mX cI cJ cZ a (0) (lds) (m_n M) (m_sn M) (m_vn M) (m_rn M) (m_pn M) (m_nw M) (m_grp M) (m_key M) (m_srt M) (m_sd M) (m_go M) (va_up (cmS M i) (i) (((m_sn M : Nat) : Int))) (m_la M) (va_up (cmN M i) (i) (false)) (m_drp M) (m_has M) (m_sees M) (m_isC M) (m_isG M) (m_ov M) (m_st M) (m_vo M) (m_ko M) (m_sl M) (m_sc M) (m_kp M) (m_en M) (m_pg M)) H := hP
              have hD : va_D A (mX cI cJ cZ a (0) (lds) (m_n M) (m_sn M) (m_vn M) (m_rn M) (m_pn M) (m_nw M) (m_grp M) (m_key M) (m_srt M) (m_sd M) (m_go M) (va_up (cmS M i) (i) (((m_sn M : Nat) : Int))) (m_la M) (va_up (cmN M i) (i) (false)) (m_drp M) (m_has M) (m_sees M) (m_isC M) (m_isG M) (m_ov M) (m_st M) (m_vo M) (m_ko M) (m_sl M) (m_sc M) (m_kp M) (m_en M) (m_pg M)) := hD
              refine lv_iinc (v := nI (i + 1)) (lv' := [(2, .int (nI (i + 1))), (0, .ref (a 0)), (1, .int (nI (newOnes M)))]) hx hb dX6_commit_75 hl (k := 2) rfl (nI_inc _) (by decide) rfl (fun ls hl => ?_)
              refine lv_goto (tgt := 28) hx hb dX6_commit_78 (by decide) ?_
              have e1 : va_up (cmN M i) (i) (false) = cmN M (i + 1) := by simp only [cmN]; rw [if_pos (by rw [← cmN_at M i i (Nat.le_refl _)]; exact c42_6)]
              have e2 : va_up (cmS M i) (i) (((m_sn M : Nat) : Int)) = cmS M (i + 1) := by simp only [cmS]; rw [if_pos (by rw [← cmN_at M i i (Nat.le_refl _)]; exact c42_6)]; simp [c63_7]
              rw [e1, e2] at hP hD
              exact ih28 (i + 1) _ _ (by omega) (by omega) hP hD hS ls (lv_sub hl [1, 2, 0] rfl)
            · refine lv_iconst (v := zI ((-1))) hx hb dX6_commit_66 (by decide) ?_
              refine lv_goto (tgt := 74) hx hb dX6_commit_67 (by decide) ?_
              refine wa_ist (i := i) hx hb hK hP hD hS 4 0 rfl rfl (upd_zI (cmS M i) (i) (((-1) : Int))) (by omega) (by decide) dX6_commit_74 (fun H locs hP hD hS => ?_)
              have hP : va_P D vwCl (mX cI cJ cZ a (0) (lds) (m_n M) (m_sn M) (m_vn M) (m_rn M) (m_pn M) (m_nw M) (m_grp M) (m_key M) (m_srt M) (m_sd M) (m_go M) (va_up (cmS M i) (i) (((-1) : Int))) (m_la M) (va_up (cmN M i) (i) (false)) (m_drp M) (m_has M) (m_sees M) (m_isC M) (m_isG M) (m_ov M) (m_st M) (m_vo M) (m_ko M) (m_sl M) (m_sc M) (m_kp M) (m_en M) (m_pg M)) H := hP
              have hD : va_D A (mX cI cJ cZ a (0) (lds) (m_n M) (m_sn M) (m_vn M) (m_rn M) (m_pn M) (m_nw M) (m_grp M) (m_key M) (m_srt M) (m_sd M) (m_go M) (va_up (cmS M i) (i) (((-1) : Int))) (m_la M) (va_up (cmN M i) (i) (false)) (m_drp M) (m_has M) (m_sees M) (m_isC M) (m_isG M) (m_ov M) (m_st M) (m_vo M) (m_ko M) (m_sl M) (m_sc M) (m_kp M) (m_en M) (m_pg M)) := hD
              refine lv_iinc (v := nI (i + 1)) (lv' := [(2, .int (nI (i + 1))), (0, .ref (a 0)), (1, .int (nI (newOnes M)))]) hx hb dX6_commit_75 hl (k := 2) rfl (nI_inc _) (by decide) rfl (fun ls hl => ?_)
              refine lv_goto (tgt := 28) hx hb dX6_commit_78 (by decide) ?_
              have e1 : va_up (cmN M i) (i) (false) = cmN M (i + 1) := by simp only [cmN]; rw [if_pos (by rw [← cmN_at M i i (Nat.le_refl _)]; exact c42_6)]
              have e2 : va_up (cmS M i) (i) (((-1) : Int)) = cmS M (i + 1) := by simp only [cmS]; rw [if_pos (by rw [← cmN_at M i i (Nat.le_refl _)]; exact c42_6)]; simp [c63_7]
              rw [e1, e2] at hP hD
              exact ih28 (i + 1) _ _ (by omega) (by omega) hP hD hS ls (lv_sub hl [1, 2, 0] rfl)
    exact hlp28 _ (0) _ _ (Nat.lt_succ_self _) (Nat.zero_le _) hP hD hS ls (lv_sub hl [2, 1, 0] rfl)
  · refine lv_aload_n hx hb dX6_commit_14 rfl (lv_at hl 1 rfl) ?_
    refine va_get (ci := 6) (v := .int (nI (m_sn M))) (C := RX6) (T := TX6) (N := 30) hx hb hts hiX6 hown hK hP 0 rfl rfl 8 (by decide) hf2 (fun _ h9 => h9) rfl dX6_commit_15 ?_
    refine lv_bipush (v := nI (40)) hx hb dX6_commit_18 (by decide) ?_
    refine wn_icmp_ne (a := m_sn M) (b := 40) (tgt := 26) hx hb (nI_z (by omega)) (nI_z (by omega)) dX6_commit_20 (by decide) (fun c20_8 => ?_) (fun c20_8 => ?_)
    · refine lv_iconst (v := nI (0)) hx hb dX6_commit_26 (by decide) ?_
      refine lv_istore_n (lv' := [(2, .int (nI (0))), (1, .int (nI (newOnes M))), (0, .ref (a 0))]) hx hb dX6_commit_27 rfl hl (by decide) rfl (fun ls hl => ?_)
      have hlp28 : ∀ (d : Nat) (i : Nat) (H : Heap) (locs : List Loc), m_n M - i < d → (i ≤ m_n M) → va_P D vwCl (mX cI cJ cZ a (0) (lds) (m_n M) (m_sn M) (m_vn M) (m_rn M) (m_pn M) (m_nw M) (m_grp M) (m_key M) (m_srt M) (m_sd M) (m_go M) (cmS M i) (m_la M) (cmN M i) (m_drp M) (m_has M) (m_sees M) (m_isC M) (m_isG M) (m_ov M) (m_st M) (m_vo M) (m_ko M) (m_sl M) (m_sc M) (m_kp M) (m_en M) (m_pg M)) H → va_D A (mX cI cJ cZ a (0) (lds) (m_n M) (m_sn M) (m_vn M) (m_rn M) (m_pn M) (m_nw M) (m_grp M) (m_key M) (m_srt M) (m_sd M) (m_go M) (cmS M i) (m_la M) (cmN M i) (m_drp M) (m_has M) (m_sees M) (m_isC M) (m_isG M) (m_ov M) (m_st M) (m_vo M) (m_ko M) (m_sl M) (m_sc M) (m_kp M) (m_en M) (m_pg M)) → va_S A s.heap H locs → ∀ (ls : Array Slot), lv_has ls 3 [(0, .ref (a 0)), (1, .int (nI (newOnes M))), (2, .int (nI (i)))] → W p l e (headSpec wsX6_commit rm_X6_commit).room s m ([.ref (a 0)] : List Value).toArray below meth c H locs (0) (0) (MQ below (va_Qi (fun rr u => rr = commitR M ∧ u = (0, lds, commitM M)) (fun u => GB D (tyW cI cJ cZ) A (mWu cI cJ cZ a u)) A) ([.ref (a 0)] : List Value).toArray s 0 0 A) (F0 m 28 ls []) := by
        intro d
        induction d with
        | zero => intro i H locs hd28; exact absurd hd28 (Nat.not_lt_zero _)
        | succ d ih28 =>
          intro i H locs hd28 hik hP hD hS ls hl
          refine lv_iload_n hx hb dX6_commit_28 rfl (lv_at hl 2 rfl) ?_
          refine lv_aload_n hx hb dX6_commit_29 rfl (lv_at hl 0 rfl) ?_
          refine va_get (ci := 6) (v := .int (nI (m_n M))) (C := RX6) (T := TX6) (N := 30) hx hb hts hiX6 hown hK hP 0 rfl rfl 1 (by decide) hf1 (fun _ h9 => h9) rfl dX6_commit_30 ?_
          refine wn_icmp_ge (a := i) (b := m_n M) (tgt := 81) hx hb (nI_z (by omega)) (nI_z (by omega)) dX6_commit_33 (by decide) (fun c33_9 => ?_) (fun c33_9 => ?_)
          · refine lv_aload_n hx hb dX6_commit_81 rfl (lv_at hl 0 rfl) ?_
            refine lv_dup hx hb dX6_commit_82 rfl ?_
            refine va_get (ci := 6) (v := .int (nI (m_sn M))) (C := RX6) (T := TX6) (N := 30) hx hb hts hiX6 hown hK hP 0 rfl rfl 8 (by decide) hf2 (fun _ h9 => h9) rfl dX6_commit_83 ?_
            refine lv_iload_n hx hb dX6_commit_86 rfl (lv_at hl 1 rfl) ?_
            refine wn_if_le (a := newOnes M) (tgt := 94) hx hb (nI_z (by omega)) dX6_commit_87 (by decide) (fun c87_10 => ?_) (fun c87_10 => ?_)
            · refine lv_iconst (v := nI (0)) hx hb dX6_commit_94 (by decide) ?_
              refine lv_iadd hx hb dX6_commit_95 (ww_top (y := nI (m_sn M + 0)) (nI_addn _ _) ?_)
              refine va_put (ci := 6) (v := .int (nI (m_sn M + 0))) (ty := .int) (C := RX6) (T := TX6) (N := 30) hx hb hts hiX6 tyX6 tyX6_ok nmX6 hown hK hP hD hS 0 rfl rfl 8 (by decide) hf2 (fun _ h9 => h9) rfl (by decide +kernel) rfl rfl (Nat.le_of_ble_eq_true rfl) dX6_commit_96 (fun H locs hP hD hS => ?_)
              have hP : va_P D vwCl (mX cI cJ cZ a (0) (lds) (m_n M) (m_sn M + 0) (m_vn M) (m_rn M) (m_pn M) (m_nw M) (m_grp M) (m_key M) (m_srt M) (m_sd M) (m_go M) (cmS M i) (m_la M) (cmN M i) (m_drp M) (m_has M) (m_sees M) (m_isC M) (m_isG M) (m_ov M) (m_st M) (m_vo M) (m_ko M) (m_sl M) (m_sc M) (m_kp M) (m_en M) (m_pg M)) H := hP
              have hD : va_D A (mX cI cJ cZ a (0) (lds) (m_n M) (m_sn M + 0) (m_vn M) (m_rn M) (m_pn M) (m_nw M) (m_grp M) (m_key M) (m_srt M) (m_sd M) (m_go M) (cmS M i) (m_la M) (cmN M i) (m_drp M) (m_has M) (m_sees M) (m_isC M) (m_isG M) (m_ov M) (m_st M) (m_vo M) (m_ko M) (m_sl M) (m_sc M) (m_kp M) (m_en M) (m_pg M)) := hD
              refine lv_iload_n hx hb dX6_commit_99 rfl (lv_at hl 1 rfl) ?_
              have hPm : va_P D vwCl (mW cI cJ cZ a (0) (lds) (mkM (m_n M) (m_sn M + 0) (m_vn M) (m_rn M) (m_pn M) (m_nw M) (m_grp M) (m_key M) (m_srt M) (m_sd M) (m_go M) (cmS M i) (m_la M) (cmN M i) (m_drp M) (m_has M) (m_sees M) (m_isC M) (m_isG M) (m_ov M) (m_st M) (m_vo M) (m_ko M) (m_sl M) (m_sc M) (m_kp M) (m_en M) (m_pg M))) H := by rw [← mX_mk]; exact hP
              have hDm : va_D A (mW cI cJ cZ a (0) (lds) (mkM (m_n M) (m_sn M + 0) (m_vn M) (m_rn M) (m_pn M) (m_nw M) (m_grp M) (m_key M) (m_srt M) (m_sd M) (m_go M) (cmS M i) (m_la M) (cmN M i) (m_drp M) (m_has M) (m_sees M) (m_isC M) (m_isG M) (m_ov M) (m_st M) (m_vo M) (m_ko M) (m_sl M) (m_sc M) (m_kp M) (m_en M) (m_pg M))) := by rw [← mX_mk]; exact hD
              exact W.iret (v := nI (newOnes M)) hx hb hr (fun t ht hW => ⟨⟨_, (0, lds, (mkM (m_n M) (m_sn M + 0) (m_vn M) (m_rn M) (m_pn M) (m_nw M) (m_grp M) (m_key M) (m_srt M) (m_sd M) (m_go M) (cmS M i) (m_la M) (cmN M i) (m_drp M) (m_has M) (m_sees M) (m_isC M) (m_isG M) (m_ov M) (m_st M) (m_vo M) (m_ko M) (m_sl M) (m_sc M) (m_kp M) (m_en M) (m_pg M))), rfl, ⟨by rw [commitR, if_neg (by omega)], by rw [commitM, if_neg (by omega), if_neg (by omega), ← (show i = m_n M by omega)]⟩, gb_mk ht hW hPm hK hDm⟩, hS.F ht⟩) hS.2.2 dX6_commit_100
            · refine lv_iconst (v := nI (1)) hx hb dX6_commit_90 (by decide) ?_
              refine lv_goto (tgt := 95) hx hb dX6_commit_91 (by decide) ?_
              refine lv_iadd hx hb dX6_commit_95 (ww_top (y := nI (m_sn M + 1)) (nI_addn _ _) ?_)
              refine va_put (ci := 6) (v := .int (nI (m_sn M + 1))) (ty := .int) (C := RX6) (T := TX6) (N := 30) hx hb hts hiX6 tyX6 tyX6_ok nmX6 hown hK hP hD hS 0 rfl rfl 8 (by decide) hf2 (fun _ h9 => h9) rfl (by decide +kernel) rfl rfl (Nat.le_of_ble_eq_true rfl) dX6_commit_96 (fun H locs hP hD hS => ?_)
              have hP : va_P D vwCl (mX cI cJ cZ a (0) (lds) (m_n M) (m_sn M + 1) (m_vn M) (m_rn M) (m_pn M) (m_nw M) (m_grp M) (m_key M) (m_srt M) (m_sd M) (m_go M) (cmS M i) (m_la M) (cmN M i) (m_drp M) (m_has M) (m_sees M) (m_isC M) (m_isG M) (m_ov M) (m_st M) (m_vo M) (m_ko M) (m_sl M) (m_sc M) (m_kp M) (m_en M) (m_pg M)) H := hP
              have hD : va_D A (mX cI cJ cZ a (0) (lds) (m_n M) (m_sn M + 1) (m_vn M) (m_rn M) (m_pn M) (m_nw M) (m_grp M) (m_key M) (m_srt M) (m_sd M) (m_go M) (cmS M i) (m_la M) (cmN M i) (m_drp M) (m_has M) (m_sees M) (m_isC M) (m_isG M) (m_ov M) (m_st M) (m_vo M) (m_ko M) (m_sl M) (m_sc M) (m_kp M) (m_en M) (m_pg M)) := hD
              refine lv_iload_n hx hb dX6_commit_99 rfl (lv_at hl 1 rfl) ?_
              have hPm : va_P D vwCl (mW cI cJ cZ a (0) (lds) (mkM (m_n M) (m_sn M + 1) (m_vn M) (m_rn M) (m_pn M) (m_nw M) (m_grp M) (m_key M) (m_srt M) (m_sd M) (m_go M) (cmS M i) (m_la M) (cmN M i) (m_drp M) (m_has M) (m_sees M) (m_isC M) (m_isG M) (m_ov M) (m_st M) (m_vo M) (m_ko M) (m_sl M) (m_sc M) (m_kp M) (m_en M) (m_pg M))) H := by rw [← mX_mk]; exact hP
              have hDm : va_D A (mW cI cJ cZ a (0) (lds) (mkM (m_n M) (m_sn M + 1) (m_vn M) (m_rn M) (m_pn M) (m_nw M) (m_grp M) (m_key M) (m_srt M) (m_sd M) (m_go M) (cmS M i) (m_la M) (cmN M i) (m_drp M) (m_has M) (m_sees M) (m_isC M) (m_isG M) (m_ov M) (m_st M) (m_vo M) (m_ko M) (m_sl M) (m_sc M) (m_kp M) (m_en M) (m_pg M))) := by rw [← mX_mk]; exact hD
              exact W.iret (v := nI (newOnes M)) hx hb hr (fun t ht hW => ⟨⟨_, (0, lds, (mkM (m_n M) (m_sn M + 1) (m_vn M) (m_rn M) (m_pn M) (m_nw M) (m_grp M) (m_key M) (m_srt M) (m_sd M) (m_go M) (cmS M i) (m_la M) (cmN M i) (m_drp M) (m_has M) (m_sees M) (m_isC M) (m_isG M) (m_ov M) (m_st M) (m_vo M) (m_ko M) (m_sl M) (m_sc M) (m_kp M) (m_en M) (m_pg M))), rfl, ⟨by rw [commitR, if_neg (by omega)], by rw [commitM, if_neg (by omega), if_pos (by omega), ← (show i = m_n M by omega)]⟩, gb_mk ht hW hPm hK hDm⟩, hS.F ht⟩) hS.2.2 dX6_commit_100
          · refine lv_aload_n hx hb dX6_commit_36 rfl (lv_at hl 0 rfl) ?_
            refine va_get (ci := 6) (v := .ref (a 5)) (C := RX6) (T := TX6) (N := 30) hx hb hts hiX6 hown hK hP 0 rfl rfl 6 (by decide) hf3 (fun _ h9 => h9) rfl dX6_commit_37 ?_
            refine lv_iload_n hx hb dX6_commit_40 rfl (lv_at hl 2 rfl) ?_
            refine wa_z (i := i) (v := bI ((cmN M i) i)) hx hb hK hP 5 2 rfl rfl rfl (by omega) (by decide) dX6_commit_41 ?_
            refine wb_if_eq (tgt := 75) hx hb dX6_commit_42 (by decide) (fun c42_11 => ?_) (fun c42_11 => ?_)
            · refine lv_iinc (v := nI (i + 1)) (lv' := [(2, .int (nI (i + 1))), (0, .ref (a 0)), (1, .int (nI (newOnes M)))]) hx hb dX6_commit_75 hl (k := 2) rfl (nI_inc _) (by decide) rfl (fun ls hl => ?_)
              refine lv_goto (tgt := 28) hx hb dX6_commit_78 (by decide) ?_
              have e1 : cmN M i = cmN M (i + 1) := by simp only [cmN]; rw [if_neg (by rw [← cmN_at M i i (Nat.le_refl _), c42_11]; decide)]
              have e2 : cmS M i = cmS M (i + 1) := by simp only [cmS]; rw [if_neg (by rw [← cmN_at M i i (Nat.le_refl _), c42_11]; decide)]
              rw [e1, e2] at hP hD
              exact ih28 (i + 1) _ _ (by omega) (by omega) hP hD hS ls (lv_sub hl [1, 2, 0] rfl)
            · refine lv_aload_n hx hb dX6_commit_45 rfl (lv_at hl 0 rfl) ?_
              refine va_get (ci := 6) (v := .ref (a 5)) (C := RX6) (T := TX6) (N := 30) hx hb hts hiX6 hown hK hP 0 rfl rfl 6 (by decide) hf3 (fun _ h9 => h9) rfl dX6_commit_46 ?_
              refine lv_iload_n hx hb dX6_commit_49 rfl (lv_at hl 2 rfl) ?_
              refine lv_iconst (v := nI (0)) hx hb dX6_commit_50 (by decide) ?_
              refine wa_zst (i := i) (b := false) (f := cmN M i) hx hb hK hP hD hS 5 2 rfl rfl rfl (by omega) (by decide) dX6_commit_51 (fun H locs hP hD hS => ?_)
              have hP : va_P D vwCl (mX cI cJ cZ a (0) (lds) (m_n M) (m_sn M) (m_vn M) (m_rn M) (m_pn M) (m_nw M) (m_grp M) (m_key M) (m_srt M) (m_sd M) (m_go M) (cmS M i) (m_la M) (va_up (cmN M i) (i) (false)) (m_drp M) (m_has M) (m_sees M) (m_isC M) (m_isG M) (m_ov M) (m_st M) (m_vo M) (m_ko M) (m_sl M) (m_sc M) (m_kp M) (m_en M) (m_pg M)) H := hP
              have hD : va_D A (mX cI cJ cZ a (0) (lds) (m_n M) (m_sn M) (m_vn M) (m_rn M) (m_pn M) (m_nw M) (m_grp M) (m_key M) (m_srt M) (m_sd M) (m_go M) (cmS M i) (m_la M) (va_up (cmN M i) (i) (false)) (m_drp M) (m_has M) (m_sees M) (m_isC M) (m_isG M) (m_ov M) (m_st M) (m_vo M) (m_ko M) (m_sl M) (m_sc M) (m_kp M) (m_en M) (m_pg M)) := hD
              refine lv_aload_n hx hb dX6_commit_52 rfl (lv_at hl 0 rfl) ?_
              refine va_get (ci := 6) (v := .ref (a 4)) (C := RX6) (T := TX6) (N := 30) hx hb hts hiX6 hown hK hP 0 rfl rfl 5 (by decide) hf4 (fun _ h9 => h9) rfl dX6_commit_53 ?_
              refine lv_iload_n hx hb dX6_commit_56 rfl (lv_at hl 2 rfl) ?_
              refine lv_aload_n hx hb dX6_commit_57 rfl (lv_at hl 0 rfl) ?_
              refine va_get (ci := 6) (v := .ref (a 6)) (C := RX6) (T := TX6) (N := 30) hx hb hts hiX6 hown hK hP 0 rfl rfl 7 (by decide) hf5 (fun _ h9 => h9) rfl dX6_commit_58 ?_
              refine lv_iload_n hx hb dX6_commit_61 rfl (lv_at hl 2 rfl) ?_
              refine wa_z (i := i) (v := bI (m_drp M i)) hx hb hK hP 6 2 rfl rfl rfl (by omega) (by decide) dX6_commit_62 ?_
              refine wb_if_eq (tgt := 70) hx hb dX6_commit_63 (by decide) (fun c63_12 => ?_) (fun c63_12 => ?_)
              · refine lv_aload_n hx hb dX6_commit_70 rfl (lv_at hl 0 rfl) ?_
                refine va_get (ci := 6) (v := .int (nI (m_sn M))) (C := RX6) (T := TX6) (N := 30) hx hb hts hiX6 hown hK hP 0 rfl rfl 8 (by decide) hf2 (fun _ h9 => h9) rfl dX6_commit_71 ?_
                refine ww_top (y := zI (((m_sn M : Nat) : Int))) (zI_n _).symm ?_
                refine wa_ist (i := i) hx hb hK hP hD hS 4 0 rfl rfl (upd_zI (cmS M i) (i) (((m_sn M : Nat) : Int))) (by omega) (by decide) dX6_commit_74 (fun H locs hP hD hS => ?_)
                have hP : va_P D vwCl (mX cI cJ cZ a (0) (lds) (m_n M) (m_sn M) (m_vn M) (m_rn M) (m_pn M) (m_nw M) (m_grp M) (m_key M) (m_srt M) (m_sd M) (m_go M) (va_up (cmS M i) (i) (((m_sn M : Nat) : Int))) (m_la M) (va_up (cmN M i) (i) (false)) (m_drp M) (m_has M) (m_sees M) (m_isC M) (m_isG M) (m_ov M) (m_st M) (m_vo M) (m_ko M) (m_sl M) (m_sc M) (m_kp M) (m_en M) (m_pg M)) H := hP
                have hD : va_D A (mX cI cJ cZ a (0) (lds) (m_n M) (m_sn M) (m_vn M) (m_rn M) (m_pn M) (m_nw M) (m_grp M) (m_key M) (m_srt M) (m_sd M) (m_go M) (va_up (cmS M i) (i) (((m_sn M : Nat) : Int))) (m_la M) (va_up (cmN M i) (i) (false)) (m_drp M) (m_has M) (m_sees M) (m_isC M) (m_isG M) (m_ov M) (m_st M) (m_vo M) (m_ko M) (m_sl M) (m_sc M) (m_kp M) (m_en M) (m_pg M)) := hD
                refine lv_iinc (v := nI (i + 1)) (lv' := [(2, .int (nI (i + 1))), (0, .ref (a 0)), (1, .int (nI (newOnes M)))]) hx hb dX6_commit_75 hl (k := 2) rfl (nI_inc _) (by decide) rfl (fun ls hl => ?_)
                refine lv_goto (tgt := 28) hx hb dX6_commit_78 (by decide) ?_
                have e1 : va_up (cmN M i) (i) (false) = cmN M (i + 1) := by simp only [cmN]; rw [if_pos (by rw [← cmN_at M i i (Nat.le_refl _)]; exact c42_11)]
                have e2 : va_up (cmS M i) (i) (((m_sn M : Nat) : Int)) = cmS M (i + 1) := by simp only [cmS]; rw [if_pos (by rw [← cmN_at M i i (Nat.le_refl _)]; exact c42_11)]; simp [c63_12]
                rw [e1, e2] at hP hD
                exact ih28 (i + 1) _ _ (by omega) (by omega) hP hD hS ls (lv_sub hl [1, 2, 0] rfl)
              · refine lv_iconst (v := zI ((-1))) hx hb dX6_commit_66 (by decide) ?_
                refine lv_goto (tgt := 74) hx hb dX6_commit_67 (by decide) ?_
                refine wa_ist (i := i) hx hb hK hP hD hS 4 0 rfl rfl (upd_zI (cmS M i) (i) (((-1) : Int))) (by omega) (by decide) dX6_commit_74 (fun H locs hP hD hS => ?_)
                have hP : va_P D vwCl (mX cI cJ cZ a (0) (lds) (m_n M) (m_sn M) (m_vn M) (m_rn M) (m_pn M) (m_nw M) (m_grp M) (m_key M) (m_srt M) (m_sd M) (m_go M) (va_up (cmS M i) (i) (((-1) : Int))) (m_la M) (va_up (cmN M i) (i) (false)) (m_drp M) (m_has M) (m_sees M) (m_isC M) (m_isG M) (m_ov M) (m_st M) (m_vo M) (m_ko M) (m_sl M) (m_sc M) (m_kp M) (m_en M) (m_pg M)) H := hP
                have hD : va_D A (mX cI cJ cZ a (0) (lds) (m_n M) (m_sn M) (m_vn M) (m_rn M) (m_pn M) (m_nw M) (m_grp M) (m_key M) (m_srt M) (m_sd M) (m_go M) (va_up (cmS M i) (i) (((-1) : Int))) (m_la M) (va_up (cmN M i) (i) (false)) (m_drp M) (m_has M) (m_sees M) (m_isC M) (m_isG M) (m_ov M) (m_st M) (m_vo M) (m_ko M) (m_sl M) (m_sc M) (m_kp M) (m_en M) (m_pg M)) := hD
                refine lv_iinc (v := nI (i + 1)) (lv' := [(2, .int (nI (i + 1))), (0, .ref (a 0)), (1, .int (nI (newOnes M)))]) hx hb dX6_commit_75 hl (k := 2) rfl (nI_inc _) (by decide) rfl (fun ls hl => ?_)
                refine lv_goto (tgt := 28) hx hb dX6_commit_78 (by decide) ?_
                have e1 : va_up (cmN M i) (i) (false) = cmN M (i + 1) := by simp only [cmN]; rw [if_pos (by rw [← cmN_at M i i (Nat.le_refl _)]; exact c42_11)]
                have e2 : va_up (cmS M i) (i) (((-1) : Int)) = cmS M (i + 1) := by simp only [cmS]; rw [if_pos (by rw [← cmN_at M i i (Nat.le_refl _)]; exact c42_11)]; simp [c63_12]
                rw [e1, e2] at hP hD
                exact ih28 (i + 1) _ _ (by omega) (by omega) hP hD hS ls (lv_sub hl [1, 2, 0] rfl)
      exact hlp28 _ (0) _ _ (Nat.lt_succ_self _) (Nat.zero_le _) hP hD hS ls (lv_sub hl [2, 1, 0] rfl)
    · refine lv_bipush (v := zI ((-4))) hx hb dX6_commit_23 (by decide) ?_
      have hPm : va_P D vwCl (mW cI cJ cZ a (0) (lds) M) H := by exact hP
      have hDm : va_D A (mW cI cJ cZ a (0) (lds) M) := by exact hD
      exact W.iret (v := zI ((-4))) hx hb hr (fun t ht hW => ⟨⟨_, (0, lds, M), rfl, ⟨by rw [commitR, if_pos ⟨by omega, by omega⟩], by rw [commitM, if_pos ⟨by omega, by omega⟩]⟩, gb_mk ht hW hPm hK hDm⟩, hS.F ht⟩) hS.2.2 dX6_commit_25
def rm_X6_object : Room := { frames := 1, cells := 0, slots := 0, locals := 21 }
set_option maxHeartbeats 4000000 in
set_option maxRecDepth 100000 in
/-- of an object -/
theorem c_X6_object (l : Launch) (D : va_G) (cI cJ cZ : ClassId) (a : Nat → Nat) (th : Nat) (lds : Nat → Bool) (M : MT) (hM : mOk M) (x y : Int32) (sz : Nat) : Met l yX6_object wsX6_object rm_X6_object (va_Pc [.ref (a 0), .int (x), .int (y)] (GW D (tyW cI cJ cZ) (mW cI cJ cZ a (th) (lds) M) sz)) (va_Ql (fun rr u => rr = objR M x y ∧ u.1 = objT M x y ∧ u.2.2 = M) (fun u => GB D (tyW cI cJ cZ) (va_A (mW cI cJ cZ a (th) (lds) M) sz) (mWu cI cJ cZ a u)) (va_A (mW cI cJ cZ a (th) (lds) M) sz)) 0 0 (va_A (mW cI cJ cZ a (th) (lds) M) sz) := by
  obtain ⟨hn, hsn, hvn, hrn, hpn, hnw, h_seg, h_la, h_st, h_vo, h_ko, h_sl, h_sc, h_kp, h_en, h_pg, hvo, hko, hsl, hsc⟩ := id hM
  have hixx := ix_c x
  have hixy := ix_c y
  refine Met.ofW (cc := cX6_object) (maxL := 3) (ret := (some .long)) (by decide) rfl ?_
  intro p e s m args below meth c s₁ B hml hv
  obtain ⟨rfl, hsz, hP, hK, hD0⟩ := hv
  have hx := B.exec
  have hb := B.bytes
  have hr := B.returns
  have hts := atoms_spec (ws := wsX6_object) B.pre
  have hown : s.vm.findClass RX6 = some m.cls := findClass_of_methodNamed B.named
  have hlocks := B.notSynchronized
  subst hsz
  have hD := hD0.self (sz := s.heap.size)
  generalize hAe : va_A (mW cI cJ cZ a (th) (lds) M) s.heap.size = A at hD ⊢
  have hA : ∀ q : Nat, s.heap.size ≤ q → A q := fun q h => by rw [← hAe]; exact Or.inr h
  have hS : va_S A s.heap s.heap [] := va_S.rf
  have hP : va_P D vwCl (mX cI cJ cZ a (th) (lds) (m_n M) (m_sn M) (m_vn M) (m_rn M) (m_pn M) (m_nw M) (m_grp M) (m_key M) (m_srt M) (m_sd M) (m_go M) (m_seg M) (m_la M) (m_isN M) (m_drp M) (m_has M) (m_sees M) (m_isC M) (m_isG M) (m_ov M) (m_st M) (m_vo M) (m_ko M) (m_sl M) (m_sc M) (m_kp M) (m_en M) (m_pg M)) s.heap := hP
  have hD : va_D A (mX cI cJ cZ a (th) (lds) (m_n M) (m_sn M) (m_vn M) (m_rn M) (m_pn M) (m_nw M) (m_grp M) (m_key M) (m_srt M) (m_sd M) (m_go M) (m_seg M) (m_la M) (m_isN M) (m_drp M) (m_has M) (m_sees M) (m_isC M) (m_isG M) (m_ov M) (m_st M) (m_vo M) (m_ko M) (m_sl M) (m_sc M) (m_kp M) (m_en M) (m_pg M)) := hD
  have hiX6 : ∀ w ∈ wsX60, w ∈ wsX6_object := by decide +kernel
  have hf0 := hts (.fieldLink RX6 81 "GroupCursorsModel" "thrown" "I") (by decide +kernel)
  have hf1 := hts (.fieldLink RX6 97 "GroupCursorsModel" "objects" "I") (by decide +kernel)
  have hf2 := hts (.fieldLink RX6 27 "GroupCursorsModel" "isDropped" "[Z") (by decide +kernel)
  have hf3 := hts (.fieldLink RX6 19 "GroupCursorsModel" "segment" "[I") (by decide +kernel)
  have hf4 := hts (.fieldLink RX6 16 "GroupCursorsModel" "sort" "[J") (by decide +kernel)
  have hf5 := hts (.fieldLink RX6 13 "GroupCursorsModel" "key" "[J") (by decide +kernel)
  have hf6 := hts (.fieldLink RX6 7 "GroupCursorsModel" "group" "[J") (by decide +kernel)
  have hl := lv_entry ([.ref (a 0), .int (x), .int (y)]) (n := 3) (Nat.le_of_ble_eq_true rfl)
  rw [lg_entry_eq]
  generalize (lg_sl ([.ref (a 0), .int (x), .int (y)]) ++ List.replicate (3 - (lg_sl ([.ref (a 0), .int (x), .int (y)])).length) Slot.unset).toArray = ls at hl ⊢
  have hl : lv_has ls 3 [(0, .ref (a 0)), (1, .int (x)), (2, .int (y))] := hl
  refine lv_aload_n hx hb dX6_object_0 rfl (lv_at hl 0 rfl) ?_
  refine lv_iconst (v := nI (0)) hx hb dX6_object_1 (by decide) ?_
  refine va_put (ci := 6) (v := .int (nI (0))) (ty := .int) (C := RX6) (T := TX6) (N := 30) hx hb hts hiX6 tyX6 tyX6_ok nmX6 hown hK hP hD hS 0 rfl rfl 0 (by decide) hf0 (fun _ h9 => h9) rfl (by decide +kernel) rfl rfl (Nat.le_of_ble_eq_true rfl) dX6_object_2 (fun H locs hP hD hS => ?_)
  have hP : va_P D vwCl (mX cI cJ cZ a (0) (lds) (m_n M) (m_sn M) (m_vn M) (m_rn M) (m_pn M) (m_nw M) (m_grp M) (m_key M) (m_srt M) (m_sd M) (m_go M) (m_seg M) (m_la M) (m_isN M) (m_drp M) (m_has M) (m_sees M) (m_isC M) (m_isG M) (m_ov M) (m_st M) (m_vo M) (m_ko M) (m_sl M) (m_sc M) (m_kp M) (m_en M) (m_pg M)) H := hP
  have hD : va_D A (mX cI cJ cZ a (0) (lds) (m_n M) (m_sn M) (m_vn M) (m_rn M) (m_pn M) (m_nw M) (m_grp M) (m_key M) (m_srt M) (m_sd M) (m_go M) (m_seg M) (m_la M) (m_isN M) (m_drp M) (m_has M) (m_sees M) (m_isC M) (m_isG M) (m_ov M) (m_st M) (m_vo M) (m_ko M) (m_sl M) (m_sc M) (m_kp M) (m_en M) (m_pg M)) := hD
  refine lv_iload_n hx hb dX6_object_5 rfl (lv_at hl 1 rfl) ?_
  refine wz_if_lt (tgt := 26) hx hb ((x).toInt) rfl dX6_object_6 (by decide) (fun c6_1 => ?_) (fun c6_1 => ?_)
  · refine lv_aload_n hx hb dX6_object_26 rfl (lv_at hl 0 rfl) ?_
    refine lv_iconst (v := nI (1)) hx hb dX6_object_27 (by decide) ?_
    have hPm : va_P D vwCl (mW cI cJ cZ a (0) (lds) M) H := by exact hP
    have hDm : va_D A (mW cI cJ cZ a (0) (lds) M) := by exact hD
    refine wc_VWi (As := [.int (nI (1))]) (rest := []) (wf := mWu cI cJ cZ a) ⟨hx, hb, hml, hown, hts⟩ (c_X6_fails l D cI cJ cZ a (0) (lds) M hM (1) (by omega) H.size) (cwV 1 hts gX6_object_X6_fails rfl rfl rfl (by decide +kernel) ⟨Nat.le_of_ble_eq_true rfl, Nat.le_of_ble_eq_true rfl⟩) hPm hK hDm hS hA 0 rfl rfl rfl hl.1 rfl (Nat.le_of_ble_eq_true rfl) dX6_object_28 ⟨Nat.zero_le _, Nat.zero_le _⟩ (fun rr u2 hq2 H locs hP hD hS => ?_)
    obtain ⟨hr2, hu2⟩ := hq2
    subst hr2
    subst hu2
    have hP : va_P D vwCl (mX cI cJ cZ a (1) (lds) (m_n M) (m_sn M) (m_vn M) (m_rn M) (m_pn M) (m_nw M) (m_grp M) (m_key M) (m_srt M) (m_sd M) (m_go M) (m_seg M) (m_la M) (m_isN M) (m_drp M) (m_has M) (m_sees M) (m_isC M) (m_isG M) (m_ov M) (m_st M) (m_vo M) (m_ko M) (m_sl M) (m_sc M) (m_kp M) (m_en M) (m_pg M)) H := hP
    have hD : va_D A (mX cI cJ cZ a (1) (lds) (m_n M) (m_sn M) (m_vn M) (m_rn M) (m_pn M) (m_nw M) (m_grp M) (m_key M) (m_srt M) (m_sd M) (m_go M) (m_seg M) (m_la M) (m_isN M) (m_drp M) (m_has M) (m_sees M) (m_isC M) (m_isG M) (m_ov M) (m_st M) (m_vo M) (m_ko M) (m_sl M) (m_sc M) (m_kp M) (m_en M) (m_pg M)) := hD
    refine lv_i2l (v := (nI (0)).toInt64) hx hb dX6_object_31 rfl ?_
    have hPm : va_P D vwCl (mW cI cJ cZ a (1) (lds) M) H := by exact hP
    have hDm : va_D A (mW cI cJ cZ a (1) (lds) M) := by exact hD
    exact W.lret (v := (nI (0)).toInt64) hx hb hr (fun t ht hW => ⟨⟨_, (1, lds, M), rfl, ⟨(by simp only [objR]; (repeat' split) <;> first | rfl | (exfalso; omega)), (by simp only [objT]; (repeat' split) <;> first | rfl | (exfalso; omega)), rfl⟩, gb_mk ht hW hPm hK hDm⟩, hS.F ht⟩) hS.2.2 dX6_object_32
  · refine lv_iload_n hx hb dX6_object_9 rfl (lv_at hl 1 rfl) ?_
    refine lv_aload_n hx hb dX6_object_10 rfl (lv_at hl 0 rfl) ?_
    refine va_get (ci := 6) (v := .int (nI (m_n M))) (C := RX6) (T := TX6) (N := 30) hx hb hts hiX6 hown hK hP 0 rfl rfl 1 (by decide) hf1 (fun _ h9 => h9) rfl dX6_object_11 ?_
    refine wz_icmp_ge (tgt := 26) hx hb ((x).toInt) (((m_n M : Nat) : Int)) rfl (nI_z (by omega)) dX6_object_14 (by decide) (fun c14_3 => ?_) (fun c14_3 => ?_)
    · refine lv_aload_n hx hb dX6_object_26 rfl (lv_at hl 0 rfl) ?_
      refine lv_iconst (v := nI (1)) hx hb dX6_object_27 (by decide) ?_
      have hPm : va_P D vwCl (mW cI cJ cZ a (0) (lds) M) H := by exact hP
      have hDm : va_D A (mW cI cJ cZ a (0) (lds) M) := by exact hD
      refine wc_VWi (As := [.int (nI (1))]) (rest := []) (wf := mWu cI cJ cZ a) ⟨hx, hb, hml, hown, hts⟩ (c_X6_fails l D cI cJ cZ a (0) (lds) M hM (1) (by omega) H.size) (cwV 1 hts gX6_object_X6_fails rfl rfl rfl (by decide +kernel) ⟨Nat.le_of_ble_eq_true rfl, Nat.le_of_ble_eq_true rfl⟩) hPm hK hDm hS hA 0 rfl rfl rfl hl.1 rfl (Nat.le_of_ble_eq_true rfl) dX6_object_28 ⟨Nat.zero_le _, Nat.zero_le _⟩ (fun rr u4 hq4 H locs hP hD hS => ?_)
      obtain ⟨hr4, hu4⟩ := hq4
      subst hr4
      subst hu4
      have hP : va_P D vwCl (mX cI cJ cZ a (1) (lds) (m_n M) (m_sn M) (m_vn M) (m_rn M) (m_pn M) (m_nw M) (m_grp M) (m_key M) (m_srt M) (m_sd M) (m_go M) (m_seg M) (m_la M) (m_isN M) (m_drp M) (m_has M) (m_sees M) (m_isC M) (m_isG M) (m_ov M) (m_st M) (m_vo M) (m_ko M) (m_sl M) (m_sc M) (m_kp M) (m_en M) (m_pg M)) H := hP
      have hD : va_D A (mX cI cJ cZ a (1) (lds) (m_n M) (m_sn M) (m_vn M) (m_rn M) (m_pn M) (m_nw M) (m_grp M) (m_key M) (m_srt M) (m_sd M) (m_go M) (m_seg M) (m_la M) (m_isN M) (m_drp M) (m_has M) (m_sees M) (m_isC M) (m_isG M) (m_ov M) (m_st M) (m_vo M) (m_ko M) (m_sl M) (m_sc M) (m_kp M) (m_en M) (m_pg M)) := hD
      refine lv_i2l (v := (nI (0)).toInt64) hx hb dX6_object_31 rfl ?_
      have hPm : va_P D vwCl (mW cI cJ cZ a (1) (lds) M) H := by exact hP
      have hDm : va_D A (mW cI cJ cZ a (1) (lds) M) := by exact hD
      exact W.lret (v := (nI (0)).toInt64) hx hb hr (fun t ht hW => ⟨⟨_, (1, lds, M), rfl, ⟨(by simp only [objR]; (repeat' split) <;> first | rfl | (exfalso; omega)), (by simp only [objT]; (repeat' split) <;> first | rfl | (exfalso; omega)), rfl⟩, gb_mk ht hW hPm hK hDm⟩, hS.F ht⟩) hS.2.2 dX6_object_32
    · refine lv_iload_n hx hb dX6_object_17 rfl (lv_at hl 2 rfl) ?_
      refine wz_if_lt (tgt := 26) hx hb ((y).toInt) rfl dX6_object_18 (by decide) (fun c18_5 => ?_) (fun c18_5 => ?_)
      · refine lv_aload_n hx hb dX6_object_26 rfl (lv_at hl 0 rfl) ?_
        refine lv_iconst (v := nI (1)) hx hb dX6_object_27 (by decide) ?_
        have hPm : va_P D vwCl (mW cI cJ cZ a (0) (lds) M) H := by exact hP
        have hDm : va_D A (mW cI cJ cZ a (0) (lds) M) := by exact hD
        refine wc_VWi (As := [.int (nI (1))]) (rest := []) (wf := mWu cI cJ cZ a) ⟨hx, hb, hml, hown, hts⟩ (c_X6_fails l D cI cJ cZ a (0) (lds) M hM (1) (by omega) H.size) (cwV 1 hts gX6_object_X6_fails rfl rfl rfl (by decide +kernel) ⟨Nat.le_of_ble_eq_true rfl, Nat.le_of_ble_eq_true rfl⟩) hPm hK hDm hS hA 0 rfl rfl rfl hl.1 rfl (Nat.le_of_ble_eq_true rfl) dX6_object_28 ⟨Nat.zero_le _, Nat.zero_le _⟩ (fun rr u6 hq6 H locs hP hD hS => ?_)
        obtain ⟨hr6, hu6⟩ := hq6
        subst hr6
        subst hu6
        have hP : va_P D vwCl (mX cI cJ cZ a (1) (lds) (m_n M) (m_sn M) (m_vn M) (m_rn M) (m_pn M) (m_nw M) (m_grp M) (m_key M) (m_srt M) (m_sd M) (m_go M) (m_seg M) (m_la M) (m_isN M) (m_drp M) (m_has M) (m_sees M) (m_isC M) (m_isG M) (m_ov M) (m_st M) (m_vo M) (m_ko M) (m_sl M) (m_sc M) (m_kp M) (m_en M) (m_pg M)) H := hP
        have hD : va_D A (mX cI cJ cZ a (1) (lds) (m_n M) (m_sn M) (m_vn M) (m_rn M) (m_pn M) (m_nw M) (m_grp M) (m_key M) (m_srt M) (m_sd M) (m_go M) (m_seg M) (m_la M) (m_isN M) (m_drp M) (m_has M) (m_sees M) (m_isC M) (m_isG M) (m_ov M) (m_st M) (m_vo M) (m_ko M) (m_sl M) (m_sc M) (m_kp M) (m_en M) (m_pg M)) := hD
        refine lv_i2l (v := (nI (0)).toInt64) hx hb dX6_object_31 rfl ?_
        have hPm : va_P D vwCl (mW cI cJ cZ a (1) (lds) M) H := by exact hP
        have hDm : va_D A (mW cI cJ cZ a (1) (lds) M) := by exact hD
        exact W.lret (v := (nI (0)).toInt64) hx hb hr (fun t ht hW => ⟨⟨_, (1, lds, M), rfl, ⟨(by simp only [objR]; (repeat' split) <;> first | rfl | (exfalso; omega)), (by simp only [objT]; (repeat' split) <;> first | rfl | (exfalso; omega)), rfl⟩, gb_mk ht hW hPm hK hDm⟩, hS.F ht⟩) hS.2.2 dX6_object_32
      · refine lv_iload_n hx hb dX6_object_21 rfl (lv_at hl 2 rfl) ?_
        refine lv_iconst (v := nI (4)) hx hb dX6_object_22 (by decide) ?_
        refine wz_icmp_le (tgt := 33) hx hb ((y).toInt) (((4 : Nat) : Int)) rfl (nI_z (by omega)) dX6_object_23 (by decide) (fun c23_7 => ?_) (fun c23_7 => ?_)
        · refine lv_iload_n hx hb dX6_object_33 rfl (lv_at hl 2 rfl) ?_
          refine wz_if_ne (tgt := 46) hx hb ((y).toInt) rfl dX6_object_34 (by decide) (fun c34_8 => ?_) (fun c34_8 => ?_)
          · refine lv_iload_n hx hb dX6_object_46 rfl (lv_at hl 2 rfl) ?_
            refine lv_iconst (v := nI (1)) hx hb dX6_object_47 (by decide) ?_
            refine wz_icmp_ne (tgt := 60) hx hb ((y).toInt) (((1 : Nat) : Int)) rfl (nI_z (by omega)) dX6_object_48 (by decide) (fun c48_9 => ?_) (fun c48_9 => ?_)
            · refine lv_iload_n hx hb dX6_object_60 rfl (lv_at hl 2 rfl) ?_
              refine lv_iconst (v := nI (2)) hx hb dX6_object_61 (by decide) ?_
              refine wz_icmp_ne (tgt := 74) hx hb ((y).toInt) (((2 : Nat) : Int)) rfl (nI_z (by omega)) dX6_object_62 (by decide) (fun c62_10 => ?_) (fun c62_10 => ?_)
              · refine lv_iload_n hx hb dX6_object_74 rfl (lv_at hl 2 rfl) ?_
                refine lv_iconst (v := nI (3)) hx hb dX6_object_75 (by decide) ?_
                refine wz_icmp_ne (tgt := 89) hx hb ((y).toInt) (((3 : Nat) : Int)) rfl (nI_z (by omega)) dX6_object_76 (by decide) (fun c76_11 => ?_) (fun c76_11 => ?_)
                · refine lv_aload_n hx hb dX6_object_89 rfl (lv_at hl 0 rfl) ?_
                  refine va_get (ci := 6) (v := .ref (a 6)) (C := RX6) (T := TX6) (N := 30) hx hb hts hiX6 hown hK hP 0 rfl rfl 7 (by decide) hf2 (fun _ h9 => h9) rfl dX6_object_90 ?_
                  refine lv_iload_n hx hb dX6_object_93 rfl (lv_at hl 1 rfl) ?_
                  refine ww_top (y := nI (ix x)) (ix_n (by omega)) ?_
                  refine wa_z (i := ix x) (v := bI (m_drp M (ix x))) hx hb hK hP 6 2 rfl rfl rfl (by omega) (by decide) dX6_object_94 ?_
                  refine wb_if_eq (tgt := 102) hx hb dX6_object_95 (by decide) (fun c95_12 => ?_) (fun c95_12 => ?_)
                  · refine lv_lconst (v := 0) hx hb dX6_object_102 (by decide) ?_
                    have hPm : va_P D vwCl (mW cI cJ cZ a (0) (lds) M) H := by exact hP
                    have hDm : va_D A (mW cI cJ cZ a (0) (lds) M) := by exact hD
                    exact W.lret (v := 0) hx hb hr (fun t ht hW => ⟨⟨_, (0, lds, M), rfl, ⟨(by simp only [objR, c95_12, if_true, if_false, eq_self, Bool.true_eq_false, Bool.false_eq_true, ite_true, ite_false, reduceIte]; (repeat' split) <;> first | rfl | (exfalso; omega)), (by simp only [objT, c95_12, if_true, if_false, eq_self, Bool.true_eq_false, Bool.false_eq_true, ite_true, ite_false, reduceIte]; (repeat' split) <;> first | rfl | (exfalso; omega)), rfl⟩, gb_mk ht hW hPm hK hDm⟩, hS.F ht⟩) hS.2.2 dX6_object_103
                  · refine lv_lconst (v := 1) hx hb dX6_object_98 (by decide) ?_
                    refine lv_goto (tgt := 103) hx hb dX6_object_99 (by decide) ?_
                    have hPm : va_P D vwCl (mW cI cJ cZ a (0) (lds) M) H := by exact hP
                    have hDm : va_D A (mW cI cJ cZ a (0) (lds) M) := by exact hD
                    exact W.lret (v := 1) hx hb hr (fun t ht hW => ⟨⟨_, (0, lds, M), rfl, ⟨(by simp only [objR, c95_12, if_true, if_false, eq_self, Bool.true_eq_false, Bool.false_eq_true, ite_true, ite_false, reduceIte]; (repeat' split) <;> first | rfl | (exfalso; omega)), (by simp only [objT, c95_12, if_true, if_false, eq_self, Bool.true_eq_false, Bool.false_eq_true, ite_true, ite_false, reduceIte]; (repeat' split) <;> first | rfl | (exfalso; omega)), rfl⟩, gb_mk ht hW hPm hK hDm⟩, hS.F ht⟩) hS.2.2 dX6_object_103
                · refine lv_aload_n hx hb dX6_object_79 rfl (lv_at hl 0 rfl) ?_
                  refine va_get (ci := 6) (v := .ref (a 4)) (C := RX6) (T := TX6) (N := 30) hx hb hts hiX6 hown hK hP 0 rfl rfl 5 (by decide) hf3 (fun _ h9 => h9) rfl dX6_object_80 ?_
                  refine lv_iload_n hx hb dX6_object_83 rfl (lv_at hl 1 rfl) ?_
                  refine ww_top (y := nI (ix x)) (ix_n (by omega)) ?_
                  refine wa_i (i := ix x) (v := zI (m_seg M (ix x))) hx hb hK hP 4 0 rfl rfl rfl (by omega) (by decide) dX6_object_84 ?_
                  refine lv_i2l (v := (zI (m_seg M (ix x))).toInt64) hx hb dX6_object_85 rfl ?_
                  refine lv_goto (tgt := 103) hx hb dX6_object_86 (by decide) ?_
                  have hPm : va_P D vwCl (mW cI cJ cZ a (0) (lds) M) H := by exact hP
                  have hDm : va_D A (mW cI cJ cZ a (0) (lds) M) := by exact hD
                  exact W.lret (v := (zI (m_seg M (ix x))).toInt64) hx hb hr (fun t ht hW => ⟨⟨_, (0, lds, M), rfl, ⟨(by simp only [objR]; (repeat' split) <;> first | rfl | (exfalso; omega)), (by simp only [objT]; (repeat' split) <;> first | rfl | (exfalso; omega)), rfl⟩, gb_mk ht hW hPm hK hDm⟩, hS.F ht⟩) hS.2.2 dX6_object_103
              · refine lv_aload_n hx hb dX6_object_65 rfl (lv_at hl 0 rfl) ?_
                refine va_get (ci := 6) (v := .ref (a 3)) (C := RX6) (T := TX6) (N := 30) hx hb hts hiX6 hown hK hP 0 rfl rfl 4 (by decide) hf4 (fun _ h9 => h9) rfl dX6_object_66 ?_
                refine lv_iload_n hx hb dX6_object_69 rfl (lv_at hl 1 rfl) ?_
                refine ww_top (y := nI (ix x)) (ix_n (by omega)) ?_
                refine wa_l (i := ix x) (v := m_srt M (ix x)) hx hb hK hP 3 1 rfl rfl rfl (by omega) (by decide) dX6_object_70 ?_
                refine lv_goto (tgt := 103) hx hb dX6_object_71 (by decide) ?_
                have hPm : va_P D vwCl (mW cI cJ cZ a (0) (lds) M) H := by exact hP
                have hDm : va_D A (mW cI cJ cZ a (0) (lds) M) := by exact hD
                exact W.lret (v := m_srt M (ix x)) hx hb hr (fun t ht hW => ⟨⟨_, (0, lds, M), rfl, ⟨(by simp only [objR]; (repeat' split) <;> first | rfl | (exfalso; omega)), (by simp only [objT]; (repeat' split) <;> first | rfl | (exfalso; omega)), rfl⟩, gb_mk ht hW hPm hK hDm⟩, hS.F ht⟩) hS.2.2 dX6_object_103
            · refine lv_aload_n hx hb dX6_object_51 rfl (lv_at hl 0 rfl) ?_
              refine va_get (ci := 6) (v := .ref (a 2)) (C := RX6) (T := TX6) (N := 30) hx hb hts hiX6 hown hK hP 0 rfl rfl 3 (by decide) hf5 (fun _ h9 => h9) rfl dX6_object_52 ?_
              refine lv_iload_n hx hb dX6_object_55 rfl (lv_at hl 1 rfl) ?_
              refine ww_top (y := nI (ix x)) (ix_n (by omega)) ?_
              refine wa_l (i := ix x) (v := m_key M (ix x)) hx hb hK hP 2 1 rfl rfl rfl (by omega) (by decide) dX6_object_56 ?_
              refine lv_goto (tgt := 103) hx hb dX6_object_57 (by decide) ?_
              have hPm : va_P D vwCl (mW cI cJ cZ a (0) (lds) M) H := by exact hP
              have hDm : va_D A (mW cI cJ cZ a (0) (lds) M) := by exact hD
              exact W.lret (v := m_key M (ix x)) hx hb hr (fun t ht hW => ⟨⟨_, (0, lds, M), rfl, ⟨(by simp only [objR]; (repeat' split) <;> first | rfl | (exfalso; omega)), (by simp only [objT]; (repeat' split) <;> first | rfl | (exfalso; omega)), rfl⟩, gb_mk ht hW hPm hK hDm⟩, hS.F ht⟩) hS.2.2 dX6_object_103
          · refine lv_aload_n hx hb dX6_object_37 rfl (lv_at hl 0 rfl) ?_
            refine va_get (ci := 6) (v := .ref (a 1)) (C := RX6) (T := TX6) (N := 30) hx hb hts hiX6 hown hK hP 0 rfl rfl 2 (by decide) hf6 (fun _ h9 => h9) rfl dX6_object_38 ?_
            refine lv_iload_n hx hb dX6_object_41 rfl (lv_at hl 1 rfl) ?_
            refine ww_top (y := nI (ix x)) (ix_n (by omega)) ?_
            refine wa_l (i := ix x) (v := m_grp M (ix x)) hx hb hK hP 1 1 rfl rfl rfl (by omega) (by decide) dX6_object_42 ?_
            refine lv_goto (tgt := 103) hx hb dX6_object_43 (by decide) ?_
            have hPm : va_P D vwCl (mW cI cJ cZ a (0) (lds) M) H := by exact hP
            have hDm : va_D A (mW cI cJ cZ a (0) (lds) M) := by exact hD
            exact W.lret (v := m_grp M (ix x)) hx hb hr (fun t ht hW => ⟨⟨_, (0, lds, M), rfl, ⟨(by simp only [objR]; (repeat' split) <;> first | rfl | (exfalso; omega)), (by simp only [objT]; (repeat' split) <;> first | rfl | (exfalso; omega)), rfl⟩, gb_mk ht hW hPm hK hDm⟩, hS.F ht⟩) hS.2.2 dX6_object_103
        · refine lv_aload_n hx hb dX6_object_26 rfl (lv_at hl 0 rfl) ?_
          refine lv_iconst (v := nI (1)) hx hb dX6_object_27 (by decide) ?_
          have hPm : va_P D vwCl (mW cI cJ cZ a (0) (lds) M) H := by exact hP
          have hDm : va_D A (mW cI cJ cZ a (0) (lds) M) := by exact hD
          refine wc_VWi (As := [.int (nI (1))]) (rest := []) (wf := mWu cI cJ cZ a) ⟨hx, hb, hml, hown, hts⟩ (c_X6_fails l D cI cJ cZ a (0) (lds) M hM (1) (by omega) H.size) (cwV 1 hts gX6_object_X6_fails rfl rfl rfl (by decide +kernel) ⟨Nat.le_of_ble_eq_true rfl, Nat.le_of_ble_eq_true rfl⟩) hPm hK hDm hS hA 0 rfl rfl rfl hl.1 rfl (Nat.le_of_ble_eq_true rfl) dX6_object_28 ⟨Nat.zero_le _, Nat.zero_le _⟩ (fun rr u13 hq13 H locs hP hD hS => ?_)
          obtain ⟨hr13, hu13⟩ := hq13
          subst hr13
          subst hu13
          have hP : va_P D vwCl (mX cI cJ cZ a (1) (lds) (m_n M) (m_sn M) (m_vn M) (m_rn M) (m_pn M) (m_nw M) (m_grp M) (m_key M) (m_srt M) (m_sd M) (m_go M) (m_seg M) (m_la M) (m_isN M) (m_drp M) (m_has M) (m_sees M) (m_isC M) (m_isG M) (m_ov M) (m_st M) (m_vo M) (m_ko M) (m_sl M) (m_sc M) (m_kp M) (m_en M) (m_pg M)) H := hP
          have hD : va_D A (mX cI cJ cZ a (1) (lds) (m_n M) (m_sn M) (m_vn M) (m_rn M) (m_pn M) (m_nw M) (m_grp M) (m_key M) (m_srt M) (m_sd M) (m_go M) (m_seg M) (m_la M) (m_isN M) (m_drp M) (m_has M) (m_sees M) (m_isC M) (m_isG M) (m_ov M) (m_st M) (m_vo M) (m_ko M) (m_sl M) (m_sc M) (m_kp M) (m_en M) (m_pg M)) := hD
          refine lv_i2l (v := (nI (0)).toInt64) hx hb dX6_object_31 rfl ?_
          have hPm : va_P D vwCl (mW cI cJ cZ a (1) (lds) M) H := by exact hP
          have hDm : va_D A (mW cI cJ cZ a (1) (lds) M) := by exact hD
          exact W.lret (v := (nI (0)).toInt64) hx hb hr (fun t ht hW => ⟨⟨_, (1, lds, M), rfl, ⟨(by simp only [objR]; (repeat' split) <;> first | rfl | (exfalso; omega)), (by simp only [objT]; (repeat' split) <;> first | rfl | (exfalso; omega)), rfl⟩, gb_mk ht hW hPm hK hDm⟩, hS.F ht⟩) hS.2.2 dX6_object_32
def rm_X6_segment : Room := { frames := 2, cells := 0, slots := 0, locals := 44 }
set_option maxHeartbeats 4000000 in
set_option maxRecDepth 100000 in
/-- of a segment -/
theorem c_X6_segment (l : Launch) (D : va_G) (cI cJ cZ : ClassId) (a : Nat → Nat) (th : Nat) (lds : Nat → Bool) (M : MT) (hM : mOk M) (x y : Int32) (sz : Nat) : Met l yX6_segment wsX6_segment rm_X6_segment (va_Pc [.ref (a 0), .int (x), .int (y)] (GW D (tyW cI cJ cZ) (mW cI cJ cZ a (th) (lds) M) sz)) (va_Qi (fun rr u => rr = segR M x y ∧ u.1 = segT M x y ∧ u.2.2 = M) (fun u => GB D (tyW cI cJ cZ) (va_A (mW cI cJ cZ a (th) (lds) M) sz) (mWu cI cJ cZ a u)) (va_A (mW cI cJ cZ a (th) (lds) M) sz)) 0 0 (va_A (mW cI cJ cZ a (th) (lds) M) sz) := by
  obtain ⟨hn, hsn, hvn, hrn, hpn, hnw, h_seg, h_la, h_st, h_vo, h_ko, h_sl, h_sc, h_kp, h_en, h_pg, hvo, hko, hsl, hsc⟩ := id hM
  have hixx := ix_c x
  have hixy := ix_c y
  refine Met.ofW (cc := cX6_segment) (maxL := 3) (ret := (some .int)) (by decide) rfl ?_
  intro p e s m args below meth c s₁ B hml hv
  obtain ⟨rfl, hsz, hP, hK, hD0⟩ := hv
  have hx := B.exec
  have hb := B.bytes
  have hr := B.returns
  have hts := atoms_spec (ws := wsX6_segment) B.pre
  have hown : s.vm.findClass RX6 = some m.cls := findClass_of_methodNamed B.named
  have hlocks := B.notSynchronized
  subst hsz
  have hD := hD0.self (sz := s.heap.size)
  generalize hAe : va_A (mW cI cJ cZ a (th) (lds) M) s.heap.size = A at hD ⊢
  have hA : ∀ q : Nat, s.heap.size ≤ q → A q := fun q h => by rw [← hAe]; exact Or.inr h
  have hS : va_S A s.heap s.heap [] := va_S.rf
  have hP : va_P D vwCl (mX cI cJ cZ a (th) (lds) (m_n M) (m_sn M) (m_vn M) (m_rn M) (m_pn M) (m_nw M) (m_grp M) (m_key M) (m_srt M) (m_sd M) (m_go M) (m_seg M) (m_la M) (m_isN M) (m_drp M) (m_has M) (m_sees M) (m_isC M) (m_isG M) (m_ov M) (m_st M) (m_vo M) (m_ko M) (m_sl M) (m_sc M) (m_kp M) (m_en M) (m_pg M)) s.heap := hP
  have hD : va_D A (mX cI cJ cZ a (th) (lds) (m_n M) (m_sn M) (m_vn M) (m_rn M) (m_pn M) (m_nw M) (m_grp M) (m_key M) (m_srt M) (m_sd M) (m_go M) (m_seg M) (m_la M) (m_isN M) (m_drp M) (m_has M) (m_sees M) (m_isC M) (m_isG M) (m_ov M) (m_st M) (m_vo M) (m_ko M) (m_sl M) (m_sc M) (m_kp M) (m_en M) (m_pg M)) := hD
  have hiX6 : ∀ w ∈ wsX60, w ∈ wsX6_segment := by decide +kernel
  have hf0 := hts (.fieldLink RX6 81 "GroupCursorsModel" "thrown" "I") (by decide +kernel)
  have hf1 := hts (.fieldLink RX6 121 "GroupCursorsModel" "segments" "I") (by decide +kernel)
  have hl := lv_entry ([.ref (a 0), .int (x), .int (y)]) (n := 3) (Nat.le_of_ble_eq_true rfl)
  rw [lg_entry_eq]
  generalize (lg_sl ([.ref (a 0), .int (x), .int (y)]) ++ List.replicate (3 - (lg_sl ([.ref (a 0), .int (x), .int (y)])).length) Slot.unset).toArray = ls at hl ⊢
  have hl : lv_has ls 3 [(0, .ref (a 0)), (1, .int (x)), (2, .int (y))] := hl
  refine lv_aload_n hx hb dX6_segment_0 rfl (lv_at hl 0 rfl) ?_
  refine lv_iconst (v := nI (0)) hx hb dX6_segment_1 (by decide) ?_
  refine va_put (ci := 6) (v := .int (nI (0))) (ty := .int) (C := RX6) (T := TX6) (N := 30) hx hb hts hiX6 tyX6 tyX6_ok nmX6 hown hK hP hD hS 0 rfl rfl 0 (by decide) hf0 (fun _ h9 => h9) rfl (by decide +kernel) rfl rfl (Nat.le_of_ble_eq_true rfl) dX6_segment_2 (fun H locs hP hD hS => ?_)
  have hP : va_P D vwCl (mX cI cJ cZ a (0) (lds) (m_n M) (m_sn M) (m_vn M) (m_rn M) (m_pn M) (m_nw M) (m_grp M) (m_key M) (m_srt M) (m_sd M) (m_go M) (m_seg M) (m_la M) (m_isN M) (m_drp M) (m_has M) (m_sees M) (m_isC M) (m_isG M) (m_ov M) (m_st M) (m_vo M) (m_ko M) (m_sl M) (m_sc M) (m_kp M) (m_en M) (m_pg M)) H := hP
  have hD : va_D A (mX cI cJ cZ a (0) (lds) (m_n M) (m_sn M) (m_vn M) (m_rn M) (m_pn M) (m_nw M) (m_grp M) (m_key M) (m_srt M) (m_sd M) (m_go M) (m_seg M) (m_la M) (m_isN M) (m_drp M) (m_has M) (m_sees M) (m_isC M) (m_isG M) (m_ov M) (m_st M) (m_vo M) (m_ko M) (m_sl M) (m_sc M) (m_kp M) (m_en M) (m_pg M)) := hD
  refine lv_iload_n hx hb dX6_segment_5 rfl (lv_at hl 1 rfl) ?_
  refine wz_if_lt (tgt := 26) hx hb ((x).toInt) rfl dX6_segment_6 (by decide) (fun c6_1 => ?_) (fun c6_1 => ?_)
  · refine lv_aload_n hx hb dX6_segment_26 rfl (lv_at hl 0 rfl) ?_
    refine lv_iconst (v := nI (1)) hx hb dX6_segment_27 (by decide) ?_
    have hPm : va_P D vwCl (mW cI cJ cZ a (0) (lds) M) H := by exact hP
    have hDm : va_D A (mW cI cJ cZ a (0) (lds) M) := by exact hD
    refine wc_VWi (As := [.int (nI (1))]) (rest := []) (wf := mWu cI cJ cZ a) ⟨hx, hb, hml, hown, hts⟩ (c_X6_fails l D cI cJ cZ a (0) (lds) M hM (1) (by omega) H.size) (cwV 1 hts gX6_segment_X6_fails rfl rfl rfl (by decide +kernel) ⟨Nat.le_of_ble_eq_true rfl, Nat.le_of_ble_eq_true rfl⟩) hPm hK hDm hS hA 0 rfl rfl rfl hl.1 rfl (Nat.le_of_ble_eq_true rfl) dX6_segment_28 ⟨Nat.zero_le _, Nat.zero_le _⟩ (fun rr u2 hq2 H locs hP hD hS => ?_)
    obtain ⟨hr2, hu2⟩ := hq2
    subst hr2
    subst hu2
    have hP : va_P D vwCl (mX cI cJ cZ a (1) (lds) (m_n M) (m_sn M) (m_vn M) (m_rn M) (m_pn M) (m_nw M) (m_grp M) (m_key M) (m_srt M) (m_sd M) (m_go M) (m_seg M) (m_la M) (m_isN M) (m_drp M) (m_has M) (m_sees M) (m_isC M) (m_isG M) (m_ov M) (m_st M) (m_vo M) (m_ko M) (m_sl M) (m_sc M) (m_kp M) (m_en M) (m_pg M)) H := hP
    have hD : va_D A (mX cI cJ cZ a (1) (lds) (m_n M) (m_sn M) (m_vn M) (m_rn M) (m_pn M) (m_nw M) (m_grp M) (m_key M) (m_srt M) (m_sd M) (m_go M) (m_seg M) (m_la M) (m_isN M) (m_drp M) (m_has M) (m_sees M) (m_isC M) (m_isG M) (m_ov M) (m_st M) (m_vo M) (m_ko M) (m_sl M) (m_sc M) (m_kp M) (m_en M) (m_pg M)) := hD
    have hPm : va_P D vwCl (mW cI cJ cZ a (1) (lds) M) H := by exact hP
    have hDm : va_D A (mW cI cJ cZ a (1) (lds) M) := by exact hD
    exact W.iret (v := nI (0)) hx hb hr (fun t ht hW => ⟨⟨_, (1, lds, M), rfl, ⟨(by simp only [segR]; (repeat' split) <;> first | rfl | (exfalso; omega)), (by simp only [segT]; (repeat' split) <;> first | rfl | (exfalso; omega)), rfl⟩, gb_mk ht hW hPm hK hDm⟩, hS.F ht⟩) hS.2.2 dX6_segment_31
  · refine lv_iload_n hx hb dX6_segment_9 rfl (lv_at hl 1 rfl) ?_
    refine lv_aload_n hx hb dX6_segment_10 rfl (lv_at hl 0 rfl) ?_
    refine va_get (ci := 6) (v := .int (nI (m_sn M))) (C := RX6) (T := TX6) (N := 30) hx hb hts hiX6 hown hK hP 0 rfl rfl 8 (by decide) hf1 (fun _ h9 => h9) rfl dX6_segment_11 ?_
    refine wz_icmp_ge (tgt := 26) hx hb ((x).toInt) (((m_sn M : Nat) : Int)) rfl (nI_z (by omega)) dX6_segment_14 (by decide) (fun c14_3 => ?_) (fun c14_3 => ?_)
    · refine lv_aload_n hx hb dX6_segment_26 rfl (lv_at hl 0 rfl) ?_
      refine lv_iconst (v := nI (1)) hx hb dX6_segment_27 (by decide) ?_
      have hPm : va_P D vwCl (mW cI cJ cZ a (0) (lds) M) H := by exact hP
      have hDm : va_D A (mW cI cJ cZ a (0) (lds) M) := by exact hD
      refine wc_VWi (As := [.int (nI (1))]) (rest := []) (wf := mWu cI cJ cZ a) ⟨hx, hb, hml, hown, hts⟩ (c_X6_fails l D cI cJ cZ a (0) (lds) M hM (1) (by omega) H.size) (cwV 1 hts gX6_segment_X6_fails rfl rfl rfl (by decide +kernel) ⟨Nat.le_of_ble_eq_true rfl, Nat.le_of_ble_eq_true rfl⟩) hPm hK hDm hS hA 0 rfl rfl rfl hl.1 rfl (Nat.le_of_ble_eq_true rfl) dX6_segment_28 ⟨Nat.zero_le _, Nat.zero_le _⟩ (fun rr u4 hq4 H locs hP hD hS => ?_)
      obtain ⟨hr4, hu4⟩ := hq4
      subst hr4
      subst hu4
      have hP : va_P D vwCl (mX cI cJ cZ a (1) (lds) (m_n M) (m_sn M) (m_vn M) (m_rn M) (m_pn M) (m_nw M) (m_grp M) (m_key M) (m_srt M) (m_sd M) (m_go M) (m_seg M) (m_la M) (m_isN M) (m_drp M) (m_has M) (m_sees M) (m_isC M) (m_isG M) (m_ov M) (m_st M) (m_vo M) (m_ko M) (m_sl M) (m_sc M) (m_kp M) (m_en M) (m_pg M)) H := hP
      have hD : va_D A (mX cI cJ cZ a (1) (lds) (m_n M) (m_sn M) (m_vn M) (m_rn M) (m_pn M) (m_nw M) (m_grp M) (m_key M) (m_srt M) (m_sd M) (m_go M) (m_seg M) (m_la M) (m_isN M) (m_drp M) (m_has M) (m_sees M) (m_isC M) (m_isG M) (m_ov M) (m_st M) (m_vo M) (m_ko M) (m_sl M) (m_sc M) (m_kp M) (m_en M) (m_pg M)) := hD
      have hPm : va_P D vwCl (mW cI cJ cZ a (1) (lds) M) H := by exact hP
      have hDm : va_D A (mW cI cJ cZ a (1) (lds) M) := by exact hD
      exact W.iret (v := nI (0)) hx hb hr (fun t ht hW => ⟨⟨_, (1, lds, M), rfl, ⟨(by simp only [segR]; (repeat' split) <;> first | rfl | (exfalso; omega)), (by simp only [segT]; (repeat' split) <;> first | rfl | (exfalso; omega)), rfl⟩, gb_mk ht hW hPm hK hDm⟩, hS.F ht⟩) hS.2.2 dX6_segment_31
    · refine lv_iload_n hx hb dX6_segment_17 rfl (lv_at hl 2 rfl) ?_
      refine wz_if_lt (tgt := 26) hx hb ((y).toInt) rfl dX6_segment_18 (by decide) (fun c18_5 => ?_) (fun c18_5 => ?_)
      · refine lv_aload_n hx hb dX6_segment_26 rfl (lv_at hl 0 rfl) ?_
        refine lv_iconst (v := nI (1)) hx hb dX6_segment_27 (by decide) ?_
        have hPm : va_P D vwCl (mW cI cJ cZ a (0) (lds) M) H := by exact hP
        have hDm : va_D A (mW cI cJ cZ a (0) (lds) M) := by exact hD
        refine wc_VWi (As := [.int (nI (1))]) (rest := []) (wf := mWu cI cJ cZ a) ⟨hx, hb, hml, hown, hts⟩ (c_X6_fails l D cI cJ cZ a (0) (lds) M hM (1) (by omega) H.size) (cwV 1 hts gX6_segment_X6_fails rfl rfl rfl (by decide +kernel) ⟨Nat.le_of_ble_eq_true rfl, Nat.le_of_ble_eq_true rfl⟩) hPm hK hDm hS hA 0 rfl rfl rfl hl.1 rfl (Nat.le_of_ble_eq_true rfl) dX6_segment_28 ⟨Nat.zero_le _, Nat.zero_le _⟩ (fun rr u6 hq6 H locs hP hD hS => ?_)
        obtain ⟨hr6, hu6⟩ := hq6
        subst hr6
        subst hu6
        have hP : va_P D vwCl (mX cI cJ cZ a (1) (lds) (m_n M) (m_sn M) (m_vn M) (m_rn M) (m_pn M) (m_nw M) (m_grp M) (m_key M) (m_srt M) (m_sd M) (m_go M) (m_seg M) (m_la M) (m_isN M) (m_drp M) (m_has M) (m_sees M) (m_isC M) (m_isG M) (m_ov M) (m_st M) (m_vo M) (m_ko M) (m_sl M) (m_sc M) (m_kp M) (m_en M) (m_pg M)) H := hP
        have hD : va_D A (mX cI cJ cZ a (1) (lds) (m_n M) (m_sn M) (m_vn M) (m_rn M) (m_pn M) (m_nw M) (m_grp M) (m_key M) (m_srt M) (m_sd M) (m_go M) (m_seg M) (m_la M) (m_isN M) (m_drp M) (m_has M) (m_sees M) (m_isC M) (m_isG M) (m_ov M) (m_st M) (m_vo M) (m_ko M) (m_sl M) (m_sc M) (m_kp M) (m_en M) (m_pg M)) := hD
        have hPm : va_P D vwCl (mW cI cJ cZ a (1) (lds) M) H := by exact hP
        have hDm : va_D A (mW cI cJ cZ a (1) (lds) M) := by exact hD
        exact W.iret (v := nI (0)) hx hb hr (fun t ht hW => ⟨⟨_, (1, lds, M), rfl, ⟨(by simp only [segR]; (repeat' split) <;> first | rfl | (exfalso; omega)), (by simp only [segT]; (repeat' split) <;> first | rfl | (exfalso; omega)), rfl⟩, gb_mk ht hW hPm hK hDm⟩, hS.F ht⟩) hS.2.2 dX6_segment_31
      · refine lv_iload_n hx hb dX6_segment_21 rfl (lv_at hl 2 rfl) ?_
        refine lv_iconst (v := nI (2)) hx hb dX6_segment_22 (by decide) ?_
        refine wz_icmp_le (tgt := 32) hx hb ((y).toInt) (((2 : Nat) : Int)) rfl (nI_z (by omega)) dX6_segment_23 (by decide) (fun c23_7 => ?_) (fun c23_7 => ?_)
        · refine lv_iload_n hx hb dX6_segment_32 rfl (lv_at hl 2 rfl) ?_
          refine wz_if_ne (tgt := 44) hx hb ((y).toInt) rfl dX6_segment_33 (by decide) (fun c33_8 => ?_) (fun c33_8 => ?_)
          · refine lv_iload_n hx hb dX6_segment_44 rfl (lv_at hl 2 rfl) ?_
            refine lv_iconst (v := nI (1)) hx hb dX6_segment_45 (by decide) ?_
            refine wz_icmp_ne (tgt := 57) hx hb ((y).toInt) (((1 : Nat) : Int)) rfl (nI_z (by omega)) dX6_segment_46 (by decide) (fun c46_9 => ?_) (fun c46_9 => ?_)
            · refine lv_aload_n hx hb dX6_segment_57 rfl (lv_at hl 0 rfl) ?_
              refine lv_iload_n hx hb dX6_segment_58 rfl (lv_at hl 1 rfl) ?_
              refine ww_top (y := nI (ix x)) (ix_n (by omega)) ?_
              have hPm : va_P D vwCl (mW cI cJ cZ a (0) (lds) M) H := by exact hP
              refine wc_Vi (As := [.int (nI (ix x))]) (rest := []) ⟨hx, hb, hml, hown, hts⟩ (c_X6_seenBy l D cI cJ cZ a (0) (lds) M hM (ix x) (by omega)) (cwV 1 hts gX6_segment_X6_seenBy rfl rfl rfl (by decide +kernel) ⟨Nat.le_of_ble_eq_true rfl, Nat.le_of_ble_eq_true rfl⟩) hPm hK 0 rfl rfl rfl hl.1 rfl (Nat.le_of_ble_eq_true rfl) dX6_segment_59 ⟨Nat.zero_le _, Nat.zero_le _⟩ (fun rr hq10 => ?_)
              have hq10 : rr = nI (seenBy M (ix x)) := hq10
              subst hq10
              have hle11 : seenBy M (ix x) ≤ 30 := Nat.le_trans (cnt_le _ _) hvn
              have hPm : va_P D vwCl (mW cI cJ cZ a (0) (lds) M) H := by exact hP
              have hDm : va_D A (mW cI cJ cZ a (0) (lds) M) := by exact hD
              exact W.iret (v := nI (seenBy M (ix x))) hx hb hr (fun t ht hW => ⟨⟨_, (0, lds, M), rfl, ⟨(by simp only [segR]; (repeat' split) <;> first | rfl | (exfalso; omega)), (by simp only [segT]; (repeat' split) <;> first | rfl | (exfalso; omega)), rfl⟩, gb_mk ht hW hPm hK hDm⟩, hS.F ht⟩) hS.2.2 dX6_segment_62
            · refine lv_aload_n hx hb dX6_segment_49 rfl (lv_at hl 0 rfl) ?_
              refine lv_iload_n hx hb dX6_segment_50 rfl (lv_at hl 1 rfl) ?_
              refine ww_top (y := nI (ix x)) (ix_n (by omega)) ?_
              have hPm : va_P D vwCl (mW cI cJ cZ a (0) (lds) M) H := by exact hP
              refine wc_Vi (As := [.int (nI (ix x))]) (rest := []) ⟨hx, hb, hml, hown, hts⟩ (c_X6_stateOf l D cI cJ cZ a (0) (lds) M hM (ix x) (by omega)) (cwV 1 hts gX6_segment_X6_stateOf rfl rfl rfl (by decide +kernel) ⟨Nat.le_of_ble_eq_true rfl, Nat.le_of_ble_eq_true rfl⟩) hPm hK 0 rfl rfl rfl hl.1 rfl (Nat.le_of_ble_eq_true rfl) dX6_segment_51 ⟨Nat.zero_le _, Nat.zero_le _⟩ (fun rr hq12 => ?_)
              have hq12 : rr = nI (stateOf M (ix x)) := hq12
              subst hq12
              have hle13 := stateOf_le M (ix x)
              refine lv_goto (tgt := 62) hx hb dX6_segment_54 (by decide) ?_
              have hPm : va_P D vwCl (mW cI cJ cZ a (0) (lds) M) H := by exact hP
              have hDm : va_D A (mW cI cJ cZ a (0) (lds) M) := by exact hD
              exact W.iret (v := nI (stateOf M (ix x))) hx hb hr (fun t ht hW => ⟨⟨_, (0, lds, M), rfl, ⟨(by simp only [segR]; (repeat' split) <;> first | rfl | (exfalso; omega)), (by simp only [segT]; (repeat' split) <;> first | rfl | (exfalso; omega)), rfl⟩, gb_mk ht hW hPm hK hDm⟩, hS.F ht⟩) hS.2.2 dX6_segment_62
          · refine lv_aload_n hx hb dX6_segment_36 rfl (lv_at hl 0 rfl) ?_
            refine lv_iload_n hx hb dX6_segment_37 rfl (lv_at hl 1 rfl) ?_
            refine ww_top (y := nI (ix x)) (ix_n (by omega)) ?_
            have hPm : va_P D vwCl (mW cI cJ cZ a (0) (lds) M) H := by exact hP
            refine wc_Vi (As := [.int (nI (ix x))]) (rest := []) ⟨hx, hb, hml, hown, hts⟩ (c_X6_liveIn l D cI cJ cZ a (0) (lds) M hM (ix x) (by omega)) (cwV 1 hts gX6_segment_X6_liveIn rfl rfl rfl (by decide +kernel) ⟨Nat.le_of_ble_eq_true rfl, Nat.le_of_ble_eq_true rfl⟩) hPm hK 0 rfl rfl rfl hl.1 rfl (Nat.le_of_ble_eq_true rfl) dX6_segment_38 ⟨Nat.zero_le _, Nat.zero_le _⟩ (fun rr hq14 => ?_)
            have hq14 : rr = nI (liveIn M (ix x)) := hq14
            subst hq14
            have hle15 := cnt_le (pLive M (ix x)) (m_n M)
            have hle16 : liveIn M (ix x) ≤ 300 := Nat.le_trans (cnt_le _ _) hn
            refine lv_goto (tgt := 62) hx hb dX6_segment_41 (by decide) ?_
            have hPm : va_P D vwCl (mW cI cJ cZ a (0) (lds) M) H := by exact hP
            have hDm : va_D A (mW cI cJ cZ a (0) (lds) M) := by exact hD
            exact W.iret (v := nI (liveIn M (ix x))) hx hb hr (fun t ht hW => ⟨⟨_, (0, lds, M), rfl, ⟨(by simp only [segR]; (repeat' split) <;> first | rfl | (exfalso; omega)), (by simp only [segT]; (repeat' split) <;> first | rfl | (exfalso; omega)), rfl⟩, gb_mk ht hW hPm hK hDm⟩, hS.F ht⟩) hS.2.2 dX6_segment_62
        · refine lv_aload_n hx hb dX6_segment_26 rfl (lv_at hl 0 rfl) ?_
          refine lv_iconst (v := nI (1)) hx hb dX6_segment_27 (by decide) ?_
          have hPm : va_P D vwCl (mW cI cJ cZ a (0) (lds) M) H := by exact hP
          have hDm : va_D A (mW cI cJ cZ a (0) (lds) M) := by exact hD
          refine wc_VWi (As := [.int (nI (1))]) (rest := []) (wf := mWu cI cJ cZ a) ⟨hx, hb, hml, hown, hts⟩ (c_X6_fails l D cI cJ cZ a (0) (lds) M hM (1) (by omega) H.size) (cwV 1 hts gX6_segment_X6_fails rfl rfl rfl (by decide +kernel) ⟨Nat.le_of_ble_eq_true rfl, Nat.le_of_ble_eq_true rfl⟩) hPm hK hDm hS hA 0 rfl rfl rfl hl.1 rfl (Nat.le_of_ble_eq_true rfl) dX6_segment_28 ⟨Nat.zero_le _, Nat.zero_le _⟩ (fun rr u17 hq17 H locs hP hD hS => ?_)
          obtain ⟨hr17, hu17⟩ := hq17
          subst hr17
          subst hu17
          have hP : va_P D vwCl (mX cI cJ cZ a (1) (lds) (m_n M) (m_sn M) (m_vn M) (m_rn M) (m_pn M) (m_nw M) (m_grp M) (m_key M) (m_srt M) (m_sd M) (m_go M) (m_seg M) (m_la M) (m_isN M) (m_drp M) (m_has M) (m_sees M) (m_isC M) (m_isG M) (m_ov M) (m_st M) (m_vo M) (m_ko M) (m_sl M) (m_sc M) (m_kp M) (m_en M) (m_pg M)) H := hP
          have hD : va_D A (mX cI cJ cZ a (1) (lds) (m_n M) (m_sn M) (m_vn M) (m_rn M) (m_pn M) (m_nw M) (m_grp M) (m_key M) (m_srt M) (m_sd M) (m_go M) (m_seg M) (m_la M) (m_isN M) (m_drp M) (m_has M) (m_sees M) (m_isC M) (m_isG M) (m_ov M) (m_st M) (m_vo M) (m_ko M) (m_sl M) (m_sc M) (m_kp M) (m_en M) (m_pg M)) := hD
          have hPm : va_P D vwCl (mW cI cJ cZ a (1) (lds) M) H := by exact hP
          have hDm : va_D A (mW cI cJ cZ a (1) (lds) M) := by exact hD
          exact W.iret (v := nI (0)) hx hb hr (fun t ht hW => ⟨⟨_, (1, lds, M), rfl, ⟨(by simp only [segR]; (repeat' split) <;> first | rfl | (exfalso; omega)), (by simp only [segT]; (repeat' split) <;> first | rfl | (exfalso; omega)), rfl⟩, gb_mk ht hW hPm hK hDm⟩, hS.F ht⟩) hS.2.2 dX6_segment_31
def rm_X6_view : Room := { frames := 0, cells := 0, slots := 0, locals := 0 }
set_option maxHeartbeats 4000000 in
set_option maxRecDepth 100000 in
/-- a view is opened -/
theorem c_X6_view (l : Launch) (D : va_G) (cI cJ cZ : ClassId) (a : Nat → Nat) (th : Nat) (lds : Nat → Bool) (M : MT) (hM : mOk M)  (sz : Nat) : Met l yX6_view wsX6_view rm_X6_view (va_Pc [.ref (a 0)] (GW D (tyW cI cJ cZ) (mW cI cJ cZ a (th) (lds) M) sz)) (va_Qi (fun rr u => rr = viewR M ∧ u.1 = 0 ∧ u.2.2 = viewM M) (fun u => GB D (tyW cI cJ cZ) (va_A (mW cI cJ cZ a (th) (lds) M) sz) (mWu cI cJ cZ a u)) (va_A (mW cI cJ cZ a (th) (lds) M) sz)) 0 0 (va_A (mW cI cJ cZ a (th) (lds) M) sz) := by
  obtain ⟨hn, hsn, hvn, hrn, hpn, hnw, h_seg, h_la, h_st, h_vo, h_ko, h_sl, h_sc, h_kp, h_en, h_pg, hvo, hko, hsl, hsc⟩ := id hM
  refine Met.ofW (cc := cX6_view) (maxL := 2) (ret := (some .int)) (by decide) rfl ?_
  intro p e s m args below meth c s₁ B hml hv
  obtain ⟨rfl, hsz, hP, hK, hD0⟩ := hv
  have hx := B.exec
  have hb := B.bytes
  have hr := B.returns
  have hts := atoms_spec (ws := wsX6_view) B.pre
  have hown : s.vm.findClass RX6 = some m.cls := findClass_of_methodNamed B.named
  have hlocks := B.notSynchronized
  subst hsz
  have hD := hD0.self (sz := s.heap.size)
  generalize hAe : va_A (mW cI cJ cZ a (th) (lds) M) s.heap.size = A at hD ⊢
  have hA : ∀ q : Nat, s.heap.size ≤ q → A q := fun q h => by rw [← hAe]; exact Or.inr h
  have hS : va_S A s.heap s.heap [] := va_S.rf
  have hP : va_P D vwCl (mX cI cJ cZ a (th) (lds) (m_n M) (m_sn M) (m_vn M) (m_rn M) (m_pn M) (m_nw M) (m_grp M) (m_key M) (m_srt M) (m_sd M) (m_go M) (m_seg M) (m_la M) (m_isN M) (m_drp M) (m_has M) (m_sees M) (m_isC M) (m_isG M) (m_ov M) (m_st M) (m_vo M) (m_ko M) (m_sl M) (m_sc M) (m_kp M) (m_en M) (m_pg M)) s.heap := hP
  have hD : va_D A (mX cI cJ cZ a (th) (lds) (m_n M) (m_sn M) (m_vn M) (m_rn M) (m_pn M) (m_nw M) (m_grp M) (m_key M) (m_srt M) (m_sd M) (m_go M) (m_seg M) (m_la M) (m_isN M) (m_drp M) (m_has M) (m_sees M) (m_isC M) (m_isG M) (m_ov M) (m_st M) (m_vo M) (m_ko M) (m_sl M) (m_sc M) (m_kp M) (m_en M) (m_pg M)) := hD
  have hiX6 : ∀ w ∈ wsX60, w ∈ wsX6_view := by decide +kernel
  have hf0 := hts (.fieldLink RX6 81 "GroupCursorsModel" "thrown" "I") (by decide +kernel)
  have hf1 := hts (.fieldLink RX6 111 "GroupCursorsModel" "views" "I") (by decide +kernel)
  have hf2 := hts (.fieldLink RX6 97 "GroupCursorsModel" "objects" "I") (by decide +kernel)
  have hf3 := hts (.fieldLink RX6 23 "GroupCursorsModel" "isNew" "[Z") (by decide +kernel)
  have hf4 := hts (.fieldLink RX6 27 "GroupCursorsModel" "isDropped" "[Z") (by decide +kernel)
  have hf5 := hts (.fieldLink RX6 19 "GroupCursorsModel" "segment" "[I") (by decide +kernel)
  have hf6 := hts (.fieldLink RX6 33 "GroupCursorsModel" "has" "[Z") (by decide +kernel)
  have hf7 := hts (.fieldLink RX6 36 "GroupCursorsModel" "sees" "[Z") (by decide +kernel)
  have hl := lv_entry ([.ref (a 0)]) (n := 2) (Nat.le_of_ble_eq_true rfl)
  rw [lg_entry_eq]
  generalize (lg_sl ([.ref (a 0)]) ++ List.replicate (2 - (lg_sl ([.ref (a 0)])).length) Slot.unset).toArray = ls at hl ⊢
  have hl : lv_has ls 2 [(0, .ref (a 0))] := hl
  refine lv_aload_n hx hb dX6_view_0 rfl (lv_at hl 0 rfl) ?_
  refine lv_iconst (v := nI (0)) hx hb dX6_view_1 (by decide) ?_
  refine va_put (ci := 6) (v := .int (nI (0))) (ty := .int) (C := RX6) (T := TX6) (N := 30) hx hb hts hiX6 tyX6 tyX6_ok nmX6 hown hK hP hD hS 0 rfl rfl 0 (by decide) hf0 (fun _ h9 => h9) rfl (by decide +kernel) rfl rfl (Nat.le_of_ble_eq_true rfl) dX6_view_2 (fun H locs hP hD hS => ?_)
  have hP : va_P D vwCl (mX cI cJ cZ a (0) (lds) (m_n M) (m_sn M) (m_vn M) (m_rn M) (m_pn M) (m_nw M) (m_grp M) (m_key M) (m_srt M) (m_sd M) (m_go M) (m_seg M) (m_la M) (m_isN M) (m_drp M) (m_has M) (m_sees M) (m_isC M) (m_isG M) (m_ov M) (m_st M) (m_vo M) (m_ko M) (m_sl M) (m_sc M) (m_kp M) (m_en M) (m_pg M)) H := hP
  have hD : va_D A (mX cI cJ cZ a (0) (lds) (m_n M) (m_sn M) (m_vn M) (m_rn M) (m_pn M) (m_nw M) (m_grp M) (m_key M) (m_srt M) (m_sd M) (m_go M) (m_seg M) (m_la M) (m_isN M) (m_drp M) (m_has M) (m_sees M) (m_isC M) (m_isG M) (m_ov M) (m_st M) (m_vo M) (m_ko M) (m_sl M) (m_sc M) (m_kp M) (m_en M) (m_pg M)) := hD
  refine lv_aload_n hx hb dX6_view_5 rfl (lv_at hl 0 rfl) ?_
  refine va_get (ci := 6) (v := .int (nI (m_vn M))) (C := RX6) (T := TX6) (N := 30) hx hb hts hiX6 hown hK hP 0 rfl rfl 9 (by decide) hf1 (fun _ h9 => h9) rfl dX6_view_6 ?_
  refine lv_bipush (v := nI (30)) hx hb dX6_view_9 (by decide) ?_
  refine wn_icmp_ne (a := m_vn M) (b := 30) (tgt := 17) hx hb (nI_z (by omega)) (nI_z (by omega)) dX6_view_11 (by decide) (fun c11_1 => ?_) (fun c11_1 => ?_)
  · refine lv_iconst (v := nI (0)) hx hb dX6_view_17 (by decide) ?_
    refine lv_istore_n (lv' := [(1, .int (nI (0))), (0, .ref (a 0))]) hx hb dX6_view_18 rfl hl (by decide) rfl (fun ls hl => ?_)
    have hlp19 : ∀ (d : Nat) (i : Nat) (H : Heap) (locs : List Loc), m_n M - i < d → (i ≤ m_n M) → va_P D vwCl (mX cI cJ cZ a (0) (lds) (m_n M) (m_sn M) (m_vn M) (m_rn M) (m_pn M) (m_nw M) (m_grp M) (m_key M) (m_srt M) (m_sd M) (m_go M) (m_seg M) (m_la M) (m_isN M) (m_drp M) (vwH M i) (vwS M i) (m_isC M) (m_isG M) (m_ov M) (m_st M) (m_vo M) (m_ko M) (m_sl M) (m_sc M) (m_kp M) (m_en M) (m_pg M)) H → va_D A (mX cI cJ cZ a (0) (lds) (m_n M) (m_sn M) (m_vn M) (m_rn M) (m_pn M) (m_nw M) (m_grp M) (m_key M) (m_srt M) (m_sd M) (m_go M) (m_seg M) (m_la M) (m_isN M) (m_drp M) (vwH M i) (vwS M i) (m_isC M) (m_isG M) (m_ov M) (m_st M) (m_vo M) (m_ko M) (m_sl M) (m_sc M) (m_kp M) (m_en M) (m_pg M)) → va_S A s.heap H locs → ∀ (ls : Array Slot), lv_has ls 2 [(0, .ref (a 0)), (1, .int (nI (i)))] → W p l e (headSpec wsX6_view rm_X6_view).room s m ([.ref (a 0)] : List Value).toArray below meth c H locs (0) (0) (MQ below (va_Qi (fun rr u => rr = viewR M ∧ u.1 = 0 ∧ u.2.2 = viewM M) (fun u => GB D (tyW cI cJ cZ) A (mWu cI cJ cZ a u)) A) ([.ref (a 0)] : List Value).toArray s 0 0 A) (F0 m 19 ls []) := by
      intro d
      induction d with
      | zero => intro i H locs hd19; exact absurd hd19 (Nat.not_lt_zero _)
      | succ d ih19 =>
        intro i H locs hd19 hik hP hD hS ls hl
        have hsi := h_seg i
        refine lv_iload_n hx hb dX6_view_19 rfl (lv_at hl 1 rfl) ?_
        refine lv_aload_n hx hb dX6_view_20 rfl (lv_at hl 0 rfl) ?_
        refine va_get (ci := 6) (v := .int (nI (m_n M))) (C := RX6) (T := TX6) (N := 30) hx hb hts hiX6 hown hK hP 0 rfl rfl 1 (by decide) hf2 (fun _ h9 => h9) rfl dX6_view_21 ?_
        refine wn_icmp_ge (a := i) (b := m_n M) (tgt := 96) hx hb (nI_z (by omega)) (nI_z (by omega)) dX6_view_24 (by decide) (fun c24_2 => ?_) (fun c24_2 => ?_)
        · refine lv_aload_n hx hb dX6_view_96 rfl (lv_at hl 0 rfl) ?_
          refine lv_dup hx hb dX6_view_97 rfl ?_
          refine va_get (ci := 6) (v := .int (nI (m_vn M))) (C := RX6) (T := TX6) (N := 30) hx hb hts hiX6 hown hK hP 0 rfl rfl 9 (by decide) hf1 (fun _ h9 => h9) rfl dX6_view_98 ?_
          refine lv_iconst (v := nI (1)) hx hb dX6_view_101 (by decide) ?_
          refine lv_iadd hx hb dX6_view_102 (ww_top (y := nI (m_vn M + 1)) (nI_addn _ _) ?_)
          refine va_put (ci := 6) (v := .int (nI (m_vn M + 1))) (ty := .int) (C := RX6) (T := TX6) (N := 30) hx hb hts hiX6 tyX6 tyX6_ok nmX6 hown hK hP hD hS 0 rfl rfl 9 (by decide) hf1 (fun _ h9 => h9) rfl (by decide +kernel) rfl rfl (Nat.le_of_ble_eq_true rfl) dX6_view_103 (fun H locs hP hD hS => ?_)
          have hP : va_P D vwCl (mX cI cJ cZ a (0) (lds) (m_n M) (m_sn M) (m_vn M + 1) (m_rn M) (m_pn M) (m_nw M) (m_grp M) (m_key M) (m_srt M) (m_sd M) (m_go M) (m_seg M) (m_la M) (m_isN M) (m_drp M) (vwH M i) (vwS M i) (m_isC M) (m_isG M) (m_ov M) (m_st M) (m_vo M) (m_ko M) (m_sl M) (m_sc M) (m_kp M) (m_en M) (m_pg M)) H := hP
          have hD : va_D A (mX cI cJ cZ a (0) (lds) (m_n M) (m_sn M) (m_vn M + 1) (m_rn M) (m_pn M) (m_nw M) (m_grp M) (m_key M) (m_srt M) (m_sd M) (m_go M) (m_seg M) (m_la M) (m_isN M) (m_drp M) (vwH M i) (vwS M i) (m_isC M) (m_isG M) (m_ov M) (m_st M) (m_vo M) (m_ko M) (m_sl M) (m_sc M) (m_kp M) (m_en M) (m_pg M)) := hD
          refine lv_aload_n hx hb dX6_view_106 rfl (lv_at hl 0 rfl) ?_
          refine va_get (ci := 6) (v := .int (nI (m_vn M + 1))) (C := RX6) (T := TX6) (N := 30) hx hb hts hiX6 hown hK hP 0 rfl rfl 9 (by decide) hf1 (fun _ h9 => h9) rfl dX6_view_107 ?_
          refine lv_iconst (v := nI (1)) hx hb dX6_view_110 (by decide) ?_
          refine lv_isub hx hb dX6_view_111 (ww_top (y := nI (m_vn M + 1 - 1)) (pk_sub (by omega)) ?_)
          have hPm : va_P D vwCl (mW cI cJ cZ a (0) (lds) (mkM (m_n M) (m_sn M) (m_vn M + 1) (m_rn M) (m_pn M) (m_nw M) (m_grp M) (m_key M) (m_srt M) (m_sd M) (m_go M) (m_seg M) (m_la M) (m_isN M) (m_drp M) (vwH M i) (vwS M i) (m_isC M) (m_isG M) (m_ov M) (m_st M) (m_vo M) (m_ko M) (m_sl M) (m_sc M) (m_kp M) (m_en M) (m_pg M))) H := by rw [← mX_mk]; exact hP
          have hDm : va_D A (mW cI cJ cZ a (0) (lds) (mkM (m_n M) (m_sn M) (m_vn M + 1) (m_rn M) (m_pn M) (m_nw M) (m_grp M) (m_key M) (m_srt M) (m_sd M) (m_go M) (m_seg M) (m_la M) (m_isN M) (m_drp M) (vwH M i) (vwS M i) (m_isC M) (m_isG M) (m_ov M) (m_st M) (m_vo M) (m_ko M) (m_sl M) (m_sc M) (m_kp M) (m_en M) (m_pg M))) := by rw [← mX_mk]; exact hD
          exact W.iret (v := nI (m_vn M + 1 - 1)) hx hb hr (fun t ht hW => ⟨⟨_, (0, lds, (mkM (m_n M) (m_sn M) (m_vn M + 1) (m_rn M) (m_pn M) (m_nw M) (m_grp M) (m_key M) (m_srt M) (m_sd M) (m_go M) (m_seg M) (m_la M) (m_isN M) (m_drp M) (vwH M i) (vwS M i) (m_isC M) (m_isG M) (m_ov M) (m_st M) (m_vo M) (m_ko M) (m_sl M) (m_sc M) (m_kp M) (m_en M) (m_pg M))), rfl, ⟨by rw [viewR, if_neg (by omega), Nat.add_sub_cancel], rfl, by rw [viewM, if_neg (by omega), ← (show i = m_n M by omega)]⟩, gb_mk ht hW hPm hK hDm⟩, hS.F ht⟩) hS.2.2 dX6_view_112
        · refine lv_aload_n hx hb dX6_view_27 rfl (lv_at hl 0 rfl) ?_
          refine va_get (ci := 6) (v := .ref (a 5)) (C := RX6) (T := TX6) (N := 30) hx hb hts hiX6 hown hK hP 0 rfl rfl 6 (by decide) hf3 (fun _ h9 => h9) rfl dX6_view_28 ?_
          refine lv_iload_n hx hb dX6_view_31 rfl (lv_at hl 1 rfl) ?_
          refine wa_z (i := i) (v := bI (m_isN M i)) hx hb hK hP 5 2 rfl rfl rfl (by omega) (by decide) dX6_view_32 ?_
          refine wb_if_ne (tgt := 90) hx hb dX6_view_33 (by decide) (fun c33_3 => ?_) (fun c33_3 => ?_)
          · refine lv_iinc (v := nI (i + 1)) (lv' := [(1, .int (nI (i + 1))), (0, .ref (a 0))]) hx hb dX6_view_90 hl (k := 1) rfl (nI_inc _) (by decide) rfl (fun ls hl => ?_)
            refine lv_goto (tgt := 19) hx hb dX6_view_93 (by decide) ?_
            have e0 : ¬ pStand M i = true := by simp [pStand, c33_3]
            have e1 : vwH M i = vwH M (i + 1) := by simp only [vwH]; rw [if_neg e0]
            have e2 : vwS M i = vwS M (i + 1) := by simp only [vwS]; rw [if_neg e0]
            rw [e1, e2] at hP hD
            exact ih19 (i + 1) _ _ (by omega) (by omega) hP hD hS ls (lv_sub hl [1, 0] rfl)
          · refine lv_aload_n hx hb dX6_view_36 rfl (lv_at hl 0 rfl) ?_
            refine va_get (ci := 6) (v := .ref (a 6)) (C := RX6) (T := TX6) (N := 30) hx hb hts hiX6 hown hK hP 0 rfl rfl 7 (by decide) hf4 (fun _ h9 => h9) rfl dX6_view_37 ?_
            refine lv_iload_n hx hb dX6_view_40 rfl (lv_at hl 1 rfl) ?_
            refine wa_z (i := i) (v := bI (m_drp M i)) hx hb hK hP 6 2 rfl rfl rfl (by omega) (by decide) dX6_view_41 ?_
            refine wb_if_ne (tgt := 90) hx hb dX6_view_42 (by decide) (fun c42_4 => ?_) (fun c42_4 => ?_)
            · refine lv_iinc (v := nI (i + 1)) (lv' := [(1, .int (nI (i + 1))), (0, .ref (a 0))]) hx hb dX6_view_90 hl (k := 1) rfl (nI_inc _) (by decide) rfl (fun ls hl => ?_)
              refine lv_goto (tgt := 19) hx hb dX6_view_93 (by decide) ?_
              have e0 : ¬ pStand M i = true := by simp [pStand, c33_3, c42_4]
              have e1 : vwH M i = vwH M (i + 1) := by simp only [vwH]; rw [if_neg e0]
              have e2 : vwS M i = vwS M (i + 1) := by simp only [vwS]; rw [if_neg e0]
              rw [e1, e2] at hP hD
              exact ih19 (i + 1) _ _ (by omega) (by omega) hP hD hS ls (lv_sub hl [1, 0] rfl)
            · refine lv_aload_n hx hb dX6_view_45 rfl (lv_at hl 0 rfl) ?_
              refine va_get (ci := 6) (v := .ref (a 4)) (C := RX6) (T := TX6) (N := 30) hx hb hts hiX6 hown hK hP 0 rfl rfl 5 (by decide) hf5 (fun _ h9 => h9) rfl dX6_view_46 ?_
              refine lv_iload_n hx hb dX6_view_49 rfl (lv_at hl 1 rfl) ?_
              refine wa_i (i := i) (v := zI (m_seg M i)) hx hb hK hP 4 0 rfl rfl rfl (by omega) (by decide) dX6_view_50 ?_
              refine wz_if_lt (tgt := 90) hx hb ((m_seg M i : Int)) (zr4 (h_seg i)) dX6_view_51 (by decide) (fun c51_5 => ?_) (fun c51_5 => ?_)
              · refine lv_iinc (v := nI (i + 1)) (lv' := [(1, .int (nI (i + 1))), (0, .ref (a 0))]) hx hb dX6_view_90 hl (k := 1) rfl (nI_inc _) (by decide) rfl (fun ls hl => ?_)
                refine lv_goto (tgt := 19) hx hb dX6_view_93 (by decide) ?_
                have e0 : ¬ pStand M i = true := by simp [pStand, c33_3, c42_4, Int.not_le.mpr c51_5]
                have e1 : vwH M i = vwH M (i + 1) := by simp only [vwH]; rw [if_neg e0]
                have e2 : vwS M i = vwS M (i + 1) := by simp only [vwS]; rw [if_neg e0]
                rw [e1, e2] at hP hD
                exact ih19 (i + 1) _ _ (by omega) (by omega) hP hD hS ls (lv_sub hl [1, 0] rfl)
              · refine lv_aload_n hx hb dX6_view_54 rfl (lv_at hl 0 rfl) ?_
                refine va_get (ci := 6) (v := .ref (a 8)) (C := RX6) (T := TX6) (N := 30) hx hb hts hiX6 hown hK hP 0 rfl rfl 11 (by decide) hf6 (fun _ h9 => h9) rfl dX6_view_55 ?_
                refine lv_sipush (v := nI (300)) hx hb dX6_view_58 (by decide) ?_
                refine lv_aload_n hx hb dX6_view_61 rfl (lv_at hl 0 rfl) ?_
                refine va_get (ci := 6) (v := .int (nI (m_vn M))) (C := RX6) (T := TX6) (N := 30) hx hb hts hiX6 hown hK hP 0 rfl rfl 9 (by decide) hf1 (fun _ h9 => h9) rfl dX6_view_62 ?_
                refine lv_imul hx hb dX6_view_65 (ww_top (y := nI (300 * (m_vn M))) (pk_mul _ _) ?_)
                refine lv_iload_n hx hb dX6_view_66 rfl (lv_at hl 1 rfl) ?_
                refine lv_iadd hx hb dX6_view_67 (ww_top (y := nI (300 * (m_vn M) + i)) (nI_addn _ _) ?_)
                refine lv_iconst (v := nI (1)) hx hb dX6_view_68 (by decide) ?_
                refine wa_zst (i := 300 * (m_vn M) + i) (b := true) (f := vwH M i) hx hb hK hP hD hS 8 2 rfl rfl rfl (by omega) (by decide) dX6_view_69 (fun H locs hP hD hS => ?_)
                have hP : va_P D vwCl (mX cI cJ cZ a (0) (lds) (m_n M) (m_sn M) (m_vn M) (m_rn M) (m_pn M) (m_nw M) (m_grp M) (m_key M) (m_srt M) (m_sd M) (m_go M) (m_seg M) (m_la M) (m_isN M) (m_drp M) (va_up (vwH M i) (300 * (m_vn M) + i) (true)) (vwS M i) (m_isC M) (m_isG M) (m_ov M) (m_st M) (m_vo M) (m_ko M) (m_sl M) (m_sc M) (m_kp M) (m_en M) (m_pg M)) H := hP
                have hD : va_D A (mX cI cJ cZ a (0) (lds) (m_n M) (m_sn M) (m_vn M) (m_rn M) (m_pn M) (m_nw M) (m_grp M) (m_key M) (m_srt M) (m_sd M) (m_go M) (m_seg M) (m_la M) (m_isN M) (m_drp M) (va_up (vwH M i) (300 * (m_vn M) + i) (true)) (vwS M i) (m_isC M) (m_isG M) (m_ov M) (m_st M) (m_vo M) (m_ko M) (m_sl M) (m_sc M) (m_kp M) (m_en M) (m_pg M)) := hD
                refine lv_aload_n hx hb dX6_view_70 rfl (lv_at hl 0 rfl) ?_
                refine va_get (ci := 6) (v := .ref (a 9)) (C := RX6) (T := TX6) (N := 30) hx hb hts hiX6 hown hK hP 0 rfl rfl 12 (by decide) hf7 (fun _ h9 => h9) rfl dX6_view_71 ?_
                refine lv_bipush (v := nI (40)) hx hb dX6_view_74 (by decide) ?_
                refine lv_aload_n hx hb dX6_view_76 rfl (lv_at hl 0 rfl) ?_
                refine va_get (ci := 6) (v := .int (nI (m_vn M))) (C := RX6) (T := TX6) (N := 30) hx hb hts hiX6 hown hK hP 0 rfl rfl 9 (by decide) hf1 (fun _ h9 => h9) rfl dX6_view_77 ?_
                refine lv_imul hx hb dX6_view_80 (ww_top (y := nI (40 * (m_vn M))) (pk_mul _ _) ?_)
                refine lv_aload_n hx hb dX6_view_81 rfl (lv_at hl 0 rfl) ?_
                refine va_get (ci := 6) (v := .ref (a 4)) (C := RX6) (T := TX6) (N := 30) hx hb hts hiX6 hown hK hP 0 rfl rfl 5 (by decide) hf5 (fun _ h9 => h9) rfl dX6_view_82 ?_
                refine lv_iload_n hx hb dX6_view_85 rfl (lv_at hl 1 rfl) ?_
                refine wa_i (i := i) (v := zI (m_seg M i)) hx hb hK hP 4 0 rfl rfl rfl (by omega) (by decide) dX6_view_86 ?_
                refine ww_top (y := nI ((m_seg M i).toNat)) (zI_toNat (by omega)) ?_
                refine lv_iadd hx hb dX6_view_87 (ww_top (y := nI (40 * (m_vn M) + (m_seg M i).toNat)) (nI_addn _ _) ?_)
                refine lv_iconst (v := nI (1)) hx hb dX6_view_88 (by decide) ?_
                refine wa_zst (i := 40 * (m_vn M) + (m_seg M i).toNat) (b := true) (f := vwS M i) hx hb hK hP hD hS 9 2 rfl rfl rfl (by omega) (by decide) dX6_view_89 (fun H locs hP hD hS => ?_)
                have hP : va_P D vwCl (mX cI cJ cZ a (0) (lds) (m_n M) (m_sn M) (m_vn M) (m_rn M) (m_pn M) (m_nw M) (m_grp M) (m_key M) (m_srt M) (m_sd M) (m_go M) (m_seg M) (m_la M) (m_isN M) (m_drp M) (va_up (vwH M i) (300 * (m_vn M) + i) (true)) (va_up (vwS M i) (40 * (m_vn M) + (m_seg M i).toNat) (true)) (m_isC M) (m_isG M) (m_ov M) (m_st M) (m_vo M) (m_ko M) (m_sl M) (m_sc M) (m_kp M) (m_en M) (m_pg M)) H := hP
                have hD : va_D A (mX cI cJ cZ a (0) (lds) (m_n M) (m_sn M) (m_vn M) (m_rn M) (m_pn M) (m_nw M) (m_grp M) (m_key M) (m_srt M) (m_sd M) (m_go M) (m_seg M) (m_la M) (m_isN M) (m_drp M) (va_up (vwH M i) (300 * (m_vn M) + i) (true)) (va_up (vwS M i) (40 * (m_vn M) + (m_seg M i).toNat) (true)) (m_isC M) (m_isG M) (m_ov M) (m_st M) (m_vo M) (m_ko M) (m_sl M) (m_sc M) (m_kp M) (m_en M) (m_pg M)) := hD
                refine lv_iinc (v := nI (i + 1)) (lv' := [(1, .int (nI (i + 1))), (0, .ref (a 0))]) hx hb dX6_view_90 hl (k := 1) rfl (nI_inc _) (by decide) rfl (fun ls hl => ?_)
                refine lv_goto (tgt := 19) hx hb dX6_view_93 (by decide) ?_
                have e0 : pStand M i = true := by simp [pStand, c33_3, c42_4, c51_5, c51_5]
                have e1 : va_up (vwH M i) (300 * (m_vn M) + i) (true) = vwH M (i + 1) := by simp only [vwH]; rw [if_pos e0]
                have e2 : va_up (vwS M i) (40 * (m_vn M) + (m_seg M i).toNat) (true) = vwS M (i + 1) := by simp only [vwS]; rw [if_pos e0]
                rw [e1, e2] at hP hD
                exact ih19 (i + 1) _ _ (by omega) (by omega) hP hD hS ls (lv_sub hl [1, 0] rfl)
    exact hlp19 _ (0) _ _ (Nat.lt_succ_self _) (Nat.zero_le _) hP hD hS ls (lv_sub hl [1, 0] rfl)
  · refine lv_bipush (v := zI ((-4))) hx hb dX6_view_14 (by decide) ?_
    have hPm : va_P D vwCl (mW cI cJ cZ a (0) (lds) M) H := by exact hP
    have hDm : va_D A (mW cI cJ cZ a (0) (lds) M) := by exact hD
    exact W.iret (v := zI ((-4))) hx hb hr (fun t ht hW => ⟨⟨_, (0, lds, M), rfl, ⟨by rw [viewR, if_pos (by omega)], rfl, by rw [viewM, if_pos (by omega)]⟩, gb_mk ht hW hPm hK hDm⟩, hS.F ht⟩) hS.2.2 dX6_view_16
def rm_X6_settle : Room := { frames := 0, cells := 0, slots := 0, locals := 0 }
set_option maxHeartbeats 4000000 in
set_option maxRecDepth 100000 in
/-- a view that is held ends with its last reader -/
theorem c_X6_settle (l : Launch) (D : va_G) (cI cJ cZ : ClassId) (a : Nat → Nat) (th : Nat) (lds : Nat → Bool) (M : MT) (hM : mOk M) (v : Nat) (hv : v < 30) (sz : Nat) : Met l yX6_settle wsX6_settle rm_X6_settle (va_Pc [.ref (a 0), .int (nI (v))] (GW D (tyW cI cJ cZ) (mW cI cJ cZ a (th) (lds) M) sz)) (va_Qv (fun u => u.1 = th ∧ u.2.1 = lds ∧ u.2.2 = settleM M v) (fun u => GB D (tyW cI cJ cZ) (va_A (mW cI cJ cZ a (th) (lds) M) sz) (mWu cI cJ cZ a u)) (va_A (mW cI cJ cZ a (th) (lds) M) sz)) 0 0 (va_A (mW cI cJ cZ a (th) (lds) M) sz) := by
  obtain ⟨hn, hsn, hvn, hrn, hpn, hnw, h_seg, h_la, h_st, h_vo, h_ko, h_sl, h_sc, h_kp, h_en, h_pg, hvo, hko, hsl, hsc⟩ := id hM
  refine Met.ofW (cc := cX6_settle) (maxL := 4) (ret := none) (by decide) rfl ?_
  intro p e s m args below meth c s₁ B hml hv
  obtain ⟨rfl, hsz, hP, hK, hD0⟩ := hv
  have hx := B.exec
  have hb := B.bytes
  have hr := B.returns
  have hts := atoms_spec (ws := wsX6_settle) B.pre
  have hown : s.vm.findClass RX6 = some m.cls := findClass_of_methodNamed B.named
  have hlocks := B.notSynchronized
  subst hsz
  have hD := hD0.self (sz := s.heap.size)
  generalize hAe : va_A (mW cI cJ cZ a (th) (lds) M) s.heap.size = A at hD ⊢
  have hA : ∀ q : Nat, s.heap.size ≤ q → A q := fun q h => by rw [← hAe]; exact Or.inr h
  have hS : va_S A s.heap s.heap [] := va_S.rf
  have hP : va_P D vwCl (mX cI cJ cZ a (th) (lds) (m_n M) (m_sn M) (m_vn M) (m_rn M) (m_pn M) (m_nw M) (m_grp M) (m_key M) (m_srt M) (m_sd M) (m_go M) (m_seg M) (m_la M) (m_isN M) (m_drp M) (m_has M) (m_sees M) (m_isC M) (m_isG M) (m_ov M) (m_st M) (m_vo M) (m_ko M) (m_sl M) (m_sc M) (m_kp M) (m_en M) (m_pg M)) s.heap := hP
  have hD : va_D A (mX cI cJ cZ a (th) (lds) (m_n M) (m_sn M) (m_vn M) (m_rn M) (m_pn M) (m_nw M) (m_grp M) (m_key M) (m_srt M) (m_sd M) (m_go M) (m_seg M) (m_la M) (m_isN M) (m_drp M) (m_has M) (m_sees M) (m_isC M) (m_isG M) (m_ov M) (m_st M) (m_vo M) (m_ko M) (m_sl M) (m_sc M) (m_kp M) (m_en M) (m_pg M)) := hD
  have hiX6 : ∀ w ∈ wsX60, w ∈ wsX6_settle := by decide +kernel
  have hf0 := hts (.fieldLink RX6 30 "GroupCursorsModel" "state" "[I") (by decide +kernel)
  have hf1 := hts (.fieldLink RX6 134 "GroupCursorsModel" "readers" "I") (by decide +kernel)
  have hf2 := hts (.fieldLink RX6 33 "GroupCursorsModel" "has" "[Z") (by decide +kernel)
  have hf3 := hts (.fieldLink RX6 39 "GroupCursorsModel" "viewOf" "[I") (by decide +kernel)
  have hf4 := hts (.fieldLink RX6 69 "GroupCursorsModel" "isOver" "[Z") (by decide +kernel)
  have hl := lv_entry ([.ref (a 0), .int (nI (v))]) (n := 4) (Nat.le_of_ble_eq_true rfl)
  rw [lg_entry_eq]
  generalize (lg_sl ([.ref (a 0), .int (nI (v))]) ++ List.replicate (4 - (lg_sl ([.ref (a 0), .int (nI (v))])).length) Slot.unset).toArray = ls at hl ⊢
  have hl : lv_has ls 4 [(0, .ref (a 0)), (1, .int (nI (v)))] := hl
  refine lv_aload_n hx hb dX6_settle_0 rfl (lv_at hl 0 rfl) ?_
  refine va_get (ci := 6) (v := .ref (a 7)) (C := RX6) (T := TX6) (N := 30) hx hb hts hiX6 hown hK hP 0 rfl rfl 10 (by decide) hf0 (fun _ h9 => h9) rfl dX6_settle_1 ?_
  refine lv_iload_n hx hb dX6_settle_4 rfl (lv_at hl 1 rfl) ?_
  refine wa_i (i := v) (v := nI (m_st M v)) hx hb hK hP 7 0 rfl rfl rfl (by omega) (by decide) dX6_settle_5 ?_
  refine wn_if_ne (a := m_st M v) (tgt := 10) hx hb (nr (h_st v)) dX6_settle_6 (by decide) (fun c6_1 => ?_) (fun c6_1 => ?_)
  · refine lv_iconst (v := nI (0)) hx hb dX6_settle_10 (by decide) ?_
    refine ww_top (y := bI (false)) (rfl) ?_
    refine lv_istore_n (lv' := [(2, .int (bI (false))), (0, .ref (a 0)), (1, .int (nI (v)))]) hx hb dX6_settle_11 rfl hl (by decide) rfl (fun ls hl => ?_)
    refine lv_iconst (v := nI (0)) hx hb dX6_settle_12 (by decide) ?_
    refine lv_istore_n (lv' := [(3, .int (nI (0))), (2, .int (bI (false))), (0, .ref (a 0)), (1, .int (nI (v)))]) hx hb dX6_settle_13 rfl hl (by decide) rfl (fun ls hl => ?_)
    have hlp14 : ∀ (d : Nat) (i : Nat) (b : Bool), m_rn M - i < d → (i ≤ m_rn M) → (b = anyB (pHeld M v) i) → ∀ (ls : Array Slot), lv_has ls 4 [(0, .ref (a 0)), (1, .int (nI (v))), (2, .int (bI (b))), (3, .int (nI (i)))] → W p l e (headSpec wsX6_settle rm_X6_settle).room s m ([.ref (a 0), .int (nI (v))] : List Value).toArray below meth c s.heap [] (0) (0) (MQ below (va_Qv (fun u => u.1 = th ∧ u.2.1 = lds ∧ u.2.2 = settleM M v) (fun u => GB D (tyW cI cJ cZ) A (mWu cI cJ cZ a u)) A) ([.ref (a 0), .int (nI (v))] : List Value).toArray s 0 0 A) (F0 m 14 ls []) := by
      intro d
      induction d with
      | zero => intro i b  hd14; exact absurd hd14 (Nat.not_lt_zero _)
      | succ d ih14 =>
        intro i b  hd14 hik hbk  ls hl
        refine lv_iload_n hx hb dX6_settle_14 rfl (lv_at hl 3 rfl) ?_
        refine lv_aload_n hx hb dX6_settle_15 rfl (lv_at hl 0 rfl) ?_
        refine va_get (ci := 6) (v := .int (nI (m_rn M))) (C := RX6) (T := TX6) (N := 30) hx hb hts hiX6 hown hK hP 0 rfl rfl 13 (by decide) hf1 (fun _ h9 => h9) rfl dX6_settle_16 ?_
        refine wn_icmp_ge (a := i) (b := m_rn M) (tgt := 55) hx hb (nI_z (by omega)) (nI_z (by omega)) dX6_settle_19 (by decide) (fun c19_2 => ?_) (fun c19_2 => ?_)
        · refine lv_aload_n hx hb dX6_settle_55 rfl (lv_at hl 0 rfl) ?_
          refine va_get (ci := 6) (v := .ref (a 7)) (C := RX6) (T := TX6) (N := 30) hx hb hts hiX6 hown hK hP 0 rfl rfl 10 (by decide) hf0 (fun _ h9 => h9) rfl dX6_settle_56 ?_
          refine lv_iload_n hx hb dX6_settle_59 rfl (lv_at hl 1 rfl) ?_
          refine lv_iload_n hx hb dX6_settle_60 rfl (lv_at hl 2 rfl) ?_
          refine wb_if_eq (tgt := 68) hx hb dX6_settle_61 (by decide) (fun c61_3 => ?_) (fun c61_3 => ?_)
          · refine lv_iconst (v := nI (2)) hx hb dX6_settle_68 (by decide) ?_
            refine wa_ist (i := v) hx hb hK hP hD hS 7 0 rfl rfl (upd_nI (m_st M) (v) (2)) (by omega) (by decide) dX6_settle_69 (fun H locs hP hD hS => ?_)
            have hP : va_P D vwCl (mX cI cJ cZ a (th) (lds) (m_n M) (m_sn M) (m_vn M) (m_rn M) (m_pn M) (m_nw M) (m_grp M) (m_key M) (m_srt M) (m_sd M) (m_go M) (m_seg M) (m_la M) (m_isN M) (m_drp M) (m_has M) (m_sees M) (m_isC M) (m_isG M) (m_ov M) (va_up (m_st M) (v) (2)) (m_vo M) (m_ko M) (m_sl M) (m_sc M) (m_kp M) (m_en M) (m_pg M)) H := hP
            have hD : va_D A (mX cI cJ cZ a (th) (lds) (m_n M) (m_sn M) (m_vn M) (m_rn M) (m_pn M) (m_nw M) (m_grp M) (m_key M) (m_srt M) (m_sd M) (m_go M) (m_seg M) (m_la M) (m_isN M) (m_drp M) (m_has M) (m_sees M) (m_isC M) (m_isG M) (m_ov M) (va_up (m_st M) (v) (2)) (m_vo M) (m_ko M) (m_sl M) (m_sc M) (m_kp M) (m_en M) (m_pg M)) := hD
            refine lv_iconst (v := nI (0)) hx hb dX6_settle_70 (by decide) ?_
            refine lv_istore_n (lv' := [(3, .int (nI (0))), (0, .ref (a 0)), (1, .int (nI (v))), (2, .int (bI (b)))]) hx hb dX6_settle_71 rfl hl (by decide) rfl (fun ls hl => ?_)
            have hlp72 : ∀ (d : Nat) (o : Nat) (H : Heap) (locs : List Loc), 300 - o < d → (o ≤ 300) → (b = true → o = 0) → va_P D vwCl (mX cI cJ cZ a (th) (lds) (m_n M) (m_sn M) (m_vn M) (m_rn M) (m_pn M) (m_nw M) (m_grp M) (m_key M) (m_srt M) (m_sd M) (m_go M) (m_seg M) (m_la M) (m_isN M) (m_drp M) (clrH M v o) (m_sees M) (m_isC M) (m_isG M) (m_ov M) (va_up (m_st M) (v) (2)) (m_vo M) (m_ko M) (m_sl M) (m_sc M) (m_kp M) (m_en M) (m_pg M)) H → va_D A (mX cI cJ cZ a (th) (lds) (m_n M) (m_sn M) (m_vn M) (m_rn M) (m_pn M) (m_nw M) (m_grp M) (m_key M) (m_srt M) (m_sd M) (m_go M) (m_seg M) (m_la M) (m_isN M) (m_drp M) (clrH M v o) (m_sees M) (m_isC M) (m_isG M) (m_ov M) (va_up (m_st M) (v) (2)) (m_vo M) (m_ko M) (m_sl M) (m_sc M) (m_kp M) (m_en M) (m_pg M)) → va_S A s.heap H locs → ∀ (ls : Array Slot), lv_has ls 4 [(0, .ref (a 0)), (1, .int (nI (v))), (2, .int (bI (b))), (3, .int (nI (o)))] → W p l e (headSpec wsX6_settle rm_X6_settle).room s m ([.ref (a 0), .int (nI (v))] : List Value).toArray below meth c H locs (0) (0) (MQ below (va_Qv (fun u => u.1 = th ∧ u.2.1 = lds ∧ u.2.2 = settleM M v) (fun u => GB D (tyW cI cJ cZ) A (mWu cI cJ cZ a u)) A) ([.ref (a 0), .int (nI (v))] : List Value).toArray s 0 0 A) (F0 m 72 ls []) := by
              intro d
              induction d with
              | zero => intro o H locs hd72; exact absurd hd72 (Nat.not_lt_zero _)
              | succ d ih72 =>
                intro o H locs hd72 hok hoz hP hD hS ls hl
                refine lv_iload_n hx hb dX6_settle_72 rfl (lv_at hl 3 rfl) ?_
                refine lv_sipush (v := nI (300)) hx hb dX6_settle_73 (by decide) ?_
                refine wn_icmp_ge (a := o) (b := 300) (tgt := 102) hx hb (nI_z (by omega)) (nI_z (by omega)) dX6_settle_76 (by decide) (fun c76_4 => ?_) (fun c76_4 => ?_)
                · have hPm : va_P D vwCl (mW cI cJ cZ a (th) (lds) (mkM (m_n M) (m_sn M) (m_vn M) (m_rn M) (m_pn M) (m_nw M) (m_grp M) (m_key M) (m_srt M) (m_sd M) (m_go M) (m_seg M) (m_la M) (m_isN M) (m_drp M) (clrH M v o) (m_sees M) (m_isC M) (m_isG M) (m_ov M) (va_up (m_st M) (v) (2)) (m_vo M) (m_ko M) (m_sl M) (m_sc M) (m_kp M) (m_en M) (m_pg M))) H := by rw [← mX_mk]; exact hP
                  have hDm : va_D A (mW cI cJ cZ a (th) (lds) (mkM (m_n M) (m_sn M) (m_vn M) (m_rn M) (m_pn M) (m_nw M) (m_grp M) (m_key M) (m_srt M) (m_sd M) (m_go M) (m_seg M) (m_la M) (m_isN M) (m_drp M) (clrH M v o) (m_sees M) (m_isC M) (m_isG M) (m_ov M) (va_up (m_st M) (v) (2)) (m_vo M) (m_ko M) (m_sl M) (m_sc M) (m_kp M) (m_en M) (m_pg M))) := by rw [← mX_mk]; exact hD
                  exact W.vret hx hb hr (fun t ht hW => ⟨⟨(th, lds, (mkM (m_n M) (m_sn M) (m_vn M) (m_rn M) (m_pn M) (m_nw M) (m_grp M) (m_key M) (m_srt M) (m_sd M) (m_go M) (m_seg M) (m_la M) (m_isN M) (m_drp M) (clrH M v o) (m_sees M) (m_isC M) (m_isG M) (m_ov M) (va_up (m_st M) (v) (2)) (m_vo M) (m_ko M) (m_sl M) (m_sc M) (m_kp M) (m_en M) (m_pg M))), rfl, ⟨rfl, rfl, by rw [settleM, if_neg (by omega), if_neg (by rw [heldB, ← (show i = m_rn M by omega), ← hbk, c61_3]; decide), ← (show o = 300 by omega)]⟩, gb_mk ht hW hPm hK hDm⟩, hS.F ht⟩) hS.2.2 dX6_settle_102
                · refine lv_iload_n hx hb dX6_settle_79 rfl (lv_at hl 2 rfl) ?_
                  refine wb_if_ne (tgt := 102) hx hb dX6_settle_80 (by decide) (fun c80_5 => ?_) (fun c80_5 => ?_)
                  · exact absurd (c61_3.symm.trans c80_5) (by decide)
                  · refine lv_aload_n hx hb dX6_settle_83 rfl (lv_at hl 0 rfl) ?_
                    refine va_get (ci := 6) (v := .ref (a 8)) (C := RX6) (T := TX6) (N := 30) hx hb hts hiX6 hown hK hP 0 rfl rfl 11 (by decide) hf2 (fun _ h9 => h9) rfl dX6_settle_84 ?_
                    refine lv_sipush (v := nI (300)) hx hb dX6_settle_87 (by decide) ?_
                    refine lv_iload_n hx hb dX6_settle_90 rfl (lv_at hl 1 rfl) ?_
                    refine lv_imul hx hb dX6_settle_91 (ww_top (y := nI (300 * v)) (pk_mul _ _) ?_)
                    refine lv_iload_n hx hb dX6_settle_92 rfl (lv_at hl 3 rfl) ?_
                    refine lv_iadd hx hb dX6_settle_93 (ww_top (y := nI (300 * v + o)) (nI_addn _ _) ?_)
                    refine lv_iconst (v := nI (0)) hx hb dX6_settle_94 (by decide) ?_
                    refine wa_zst (i := 300 * v + o) (b := false) (f := clrH M v o) hx hb hK hP hD hS 8 2 rfl rfl rfl (by omega) (by decide) dX6_settle_95 (fun H locs hP hD hS => ?_)
                    have hP : va_P D vwCl (mX cI cJ cZ a (th) (lds) (m_n M) (m_sn M) (m_vn M) (m_rn M) (m_pn M) (m_nw M) (m_grp M) (m_key M) (m_srt M) (m_sd M) (m_go M) (m_seg M) (m_la M) (m_isN M) (m_drp M) (va_up (clrH M v o) (300 * v + o) (false)) (m_sees M) (m_isC M) (m_isG M) (m_ov M) (va_up (m_st M) (v) (2)) (m_vo M) (m_ko M) (m_sl M) (m_sc M) (m_kp M) (m_en M) (m_pg M)) H := hP
                    have hD : va_D A (mX cI cJ cZ a (th) (lds) (m_n M) (m_sn M) (m_vn M) (m_rn M) (m_pn M) (m_nw M) (m_grp M) (m_key M) (m_srt M) (m_sd M) (m_go M) (m_seg M) (m_la M) (m_isN M) (m_drp M) (va_up (clrH M v o) (300 * v + o) (false)) (m_sees M) (m_isC M) (m_isG M) (m_ov M) (va_up (m_st M) (v) (2)) (m_vo M) (m_ko M) (m_sl M) (m_sc M) (m_kp M) (m_en M) (m_pg M)) := hD
                    refine lv_iinc (v := nI (o + 1)) (lv' := [(3, .int (nI (o + 1))), (0, .ref (a 0)), (1, .int (nI (v))), (2, .int (bI (b)))]) hx hb dX6_settle_96 hl (k := 3) rfl (nI_inc _) (by decide) rfl (fun ls hl => ?_)
                    refine lv_goto (tgt := 72) hx hb dX6_settle_99 (by decide) ?_
                    have e1 : va_up (clrH M v o) (300 * v + o) (false) = clrH M v (o + 1) := rfl
                    rw [e1] at hP hD
                    exact ih72 (o + 1) _ _ (by omega) (by omega) (fun q => absurd (q.symm.trans c61_3) (by decide)) hP hD hS ls (lv_sub hl [1, 2, 3, 0] rfl)
            exact hlp72 _ (0) _ _ (Nat.lt_succ_self _) (Nat.zero_le _) (fun _ => rfl) hP hD hS ls (lv_sub hl [1, 2, 3, 0] rfl)
          · refine lv_iconst (v := nI (1)) hx hb dX6_settle_64 (by decide) ?_
            refine lv_goto (tgt := 69) hx hb dX6_settle_65 (by decide) ?_
            refine wa_ist (i := v) hx hb hK hP hD hS 7 0 rfl rfl (upd_nI (m_st M) (v) (1)) (by omega) (by decide) dX6_settle_69 (fun H locs hP hD hS => ?_)
            have hP : va_P D vwCl (mX cI cJ cZ a (th) (lds) (m_n M) (m_sn M) (m_vn M) (m_rn M) (m_pn M) (m_nw M) (m_grp M) (m_key M) (m_srt M) (m_sd M) (m_go M) (m_seg M) (m_la M) (m_isN M) (m_drp M) (m_has M) (m_sees M) (m_isC M) (m_isG M) (m_ov M) (va_up (m_st M) (v) (1)) (m_vo M) (m_ko M) (m_sl M) (m_sc M) (m_kp M) (m_en M) (m_pg M)) H := hP
            have hD : va_D A (mX cI cJ cZ a (th) (lds) (m_n M) (m_sn M) (m_vn M) (m_rn M) (m_pn M) (m_nw M) (m_grp M) (m_key M) (m_srt M) (m_sd M) (m_go M) (m_seg M) (m_la M) (m_isN M) (m_drp M) (m_has M) (m_sees M) (m_isC M) (m_isG M) (m_ov M) (va_up (m_st M) (v) (1)) (m_vo M) (m_ko M) (m_sl M) (m_sc M) (m_kp M) (m_en M) (m_pg M)) := hD
            refine lv_iconst (v := nI (0)) hx hb dX6_settle_70 (by decide) ?_
            refine lv_istore_n (lv' := [(3, .int (nI (0))), (0, .ref (a 0)), (1, .int (nI (v))), (2, .int (bI (b)))]) hx hb dX6_settle_71 rfl hl (by decide) rfl (fun ls hl => ?_)
            have hlp72 : ∀ (d : Nat) (o : Nat) (H : Heap) (locs : List Loc), 300 - o < d → (o ≤ 300) → (b = true → o = 0) → va_P D vwCl (mX cI cJ cZ a (th) (lds) (m_n M) (m_sn M) (m_vn M) (m_rn M) (m_pn M) (m_nw M) (m_grp M) (m_key M) (m_srt M) (m_sd M) (m_go M) (m_seg M) (m_la M) (m_isN M) (m_drp M) (clrH M v o) (m_sees M) (m_isC M) (m_isG M) (m_ov M) (va_up (m_st M) (v) (1)) (m_vo M) (m_ko M) (m_sl M) (m_sc M) (m_kp M) (m_en M) (m_pg M)) H → va_D A (mX cI cJ cZ a (th) (lds) (m_n M) (m_sn M) (m_vn M) (m_rn M) (m_pn M) (m_nw M) (m_grp M) (m_key M) (m_srt M) (m_sd M) (m_go M) (m_seg M) (m_la M) (m_isN M) (m_drp M) (clrH M v o) (m_sees M) (m_isC M) (m_isG M) (m_ov M) (va_up (m_st M) (v) (1)) (m_vo M) (m_ko M) (m_sl M) (m_sc M) (m_kp M) (m_en M) (m_pg M)) → va_S A s.heap H locs → ∀ (ls : Array Slot), lv_has ls 4 [(0, .ref (a 0)), (1, .int (nI (v))), (2, .int (bI (b))), (3, .int (nI (o)))] → W p l e (headSpec wsX6_settle rm_X6_settle).room s m ([.ref (a 0), .int (nI (v))] : List Value).toArray below meth c H locs (0) (0) (MQ below (va_Qv (fun u => u.1 = th ∧ u.2.1 = lds ∧ u.2.2 = settleM M v) (fun u => GB D (tyW cI cJ cZ) A (mWu cI cJ cZ a u)) A) ([.ref (a 0), .int (nI (v))] : List Value).toArray s 0 0 A) (F0 m 72 ls []) := by
              intro d
              induction d with
              | zero => intro o H locs hd72; exact absurd hd72 (Nat.not_lt_zero _)
              | succ d ih72 =>
                intro o H locs hd72 hok hoz hP hD hS ls hl
                refine lv_iload_n hx hb dX6_settle_72 rfl (lv_at hl 3 rfl) ?_
                refine lv_sipush (v := nI (300)) hx hb dX6_settle_73 (by decide) ?_
                refine wn_icmp_ge (a := o) (b := 300) (tgt := 102) hx hb (nI_z (by omega)) (nI_z (by omega)) dX6_settle_76 (by decide) (fun c76_6 => ?_) (fun c76_6 => ?_)
                · have hPm : va_P D vwCl (mW cI cJ cZ a (th) (lds) (mkM (m_n M) (m_sn M) (m_vn M) (m_rn M) (m_pn M) (m_nw M) (m_grp M) (m_key M) (m_srt M) (m_sd M) (m_go M) (m_seg M) (m_la M) (m_isN M) (m_drp M) (clrH M v o) (m_sees M) (m_isC M) (m_isG M) (m_ov M) (va_up (m_st M) (v) (1)) (m_vo M) (m_ko M) (m_sl M) (m_sc M) (m_kp M) (m_en M) (m_pg M))) H := by rw [← mX_mk]; exact hP
                  have hDm : va_D A (mW cI cJ cZ a (th) (lds) (mkM (m_n M) (m_sn M) (m_vn M) (m_rn M) (m_pn M) (m_nw M) (m_grp M) (m_key M) (m_srt M) (m_sd M) (m_go M) (m_seg M) (m_la M) (m_isN M) (m_drp M) (clrH M v o) (m_sees M) (m_isC M) (m_isG M) (m_ov M) (va_up (m_st M) (v) (1)) (m_vo M) (m_ko M) (m_sl M) (m_sc M) (m_kp M) (m_en M) (m_pg M))) := by rw [← mX_mk]; exact hD
                  exact W.vret hx hb hr (fun t ht hW => ⟨⟨(th, lds, (mkM (m_n M) (m_sn M) (m_vn M) (m_rn M) (m_pn M) (m_nw M) (m_grp M) (m_key M) (m_srt M) (m_sd M) (m_go M) (m_seg M) (m_la M) (m_isN M) (m_drp M) (clrH M v o) (m_sees M) (m_isC M) (m_isG M) (m_ov M) (va_up (m_st M) (v) (1)) (m_vo M) (m_ko M) (m_sl M) (m_sc M) (m_kp M) (m_en M) (m_pg M))), rfl, ⟨rfl, rfl, by rw [settleM, if_neg (by omega), if_pos (by rw [heldB, ← (show i = m_rn M by omega), ← hbk]; exact c61_3)]; first | (rw [hoz c61_3]; rfl) | (have := hoz c61_3; omega)⟩, gb_mk ht hW hPm hK hDm⟩, hS.F ht⟩) hS.2.2 dX6_settle_102
                · refine lv_iload_n hx hb dX6_settle_79 rfl (lv_at hl 2 rfl) ?_
                  refine wb_if_ne (tgt := 102) hx hb dX6_settle_80 (by decide) (fun c80_7 => ?_) (fun c80_7 => ?_)
                  · have hPm : va_P D vwCl (mW cI cJ cZ a (th) (lds) (mkM (m_n M) (m_sn M) (m_vn M) (m_rn M) (m_pn M) (m_nw M) (m_grp M) (m_key M) (m_srt M) (m_sd M) (m_go M) (m_seg M) (m_la M) (m_isN M) (m_drp M) (clrH M v o) (m_sees M) (m_isC M) (m_isG M) (m_ov M) (va_up (m_st M) (v) (1)) (m_vo M) (m_ko M) (m_sl M) (m_sc M) (m_kp M) (m_en M) (m_pg M))) H := by rw [← mX_mk]; exact hP
                    have hDm : va_D A (mW cI cJ cZ a (th) (lds) (mkM (m_n M) (m_sn M) (m_vn M) (m_rn M) (m_pn M) (m_nw M) (m_grp M) (m_key M) (m_srt M) (m_sd M) (m_go M) (m_seg M) (m_la M) (m_isN M) (m_drp M) (clrH M v o) (m_sees M) (m_isC M) (m_isG M) (m_ov M) (va_up (m_st M) (v) (1)) (m_vo M) (m_ko M) (m_sl M) (m_sc M) (m_kp M) (m_en M) (m_pg M))) := by rw [← mX_mk]; exact hD
                    exact W.vret hx hb hr (fun t ht hW => ⟨⟨(th, lds, (mkM (m_n M) (m_sn M) (m_vn M) (m_rn M) (m_pn M) (m_nw M) (m_grp M) (m_key M) (m_srt M) (m_sd M) (m_go M) (m_seg M) (m_la M) (m_isN M) (m_drp M) (clrH M v o) (m_sees M) (m_isC M) (m_isG M) (m_ov M) (va_up (m_st M) (v) (1)) (m_vo M) (m_ko M) (m_sl M) (m_sc M) (m_kp M) (m_en M) (m_pg M))), rfl, ⟨rfl, rfl, by rw [settleM, if_neg (by omega), if_pos (by rw [heldB, ← (show i = m_rn M by omega), ← hbk]; exact c61_3)]; first | (rw [hoz c61_3]; rfl) | (have := hoz c61_3; omega)⟩, gb_mk ht hW hPm hK hDm⟩, hS.F ht⟩) hS.2.2 dX6_settle_102
                  · exact absurd (c61_3.symm.trans c80_7) (by decide)
            exact hlp72 _ (0) _ _ (Nat.lt_succ_self _) (Nat.zero_le _) (fun _ => rfl) hP hD hS ls (lv_sub hl [1, 2, 3, 0] rfl)
        · refine lv_iload_n hx hb dX6_settle_22 rfl (lv_at hl 2 rfl) ?_
          refine lv_aload_n hx hb dX6_settle_23 rfl (lv_at hl 0 rfl) ?_
          refine va_get (ci := 6) (v := .ref (a 10)) (C := RX6) (T := TX6) (N := 30) hx hb hts hiX6 hown hK hP 0 rfl rfl 14 (by decide) hf3 (fun _ h9 => h9) rfl dX6_settle_24 ?_
          refine lv_iload_n hx hb dX6_settle_27 rfl (lv_at hl 3 rfl) ?_
          refine wa_i (i := i) (v := nI (m_vo M i)) hx hb hK hP 10 0 rfl rfl rfl (by omega) (by decide) dX6_settle_28 ?_
          refine lv_iload_n hx hb dX6_settle_29 rfl (lv_at hl 1 rfl) ?_
          refine wn_icmp_ne (a := m_vo M i) (b := v) (tgt := 46) hx hb (nr (h_vo i)) (nI_z (by omega)) dX6_settle_30 (by decide) (fun c30_8 => ?_) (fun c30_8 => ?_)
          · refine lv_iconst (v := nI (0)) hx hb dX6_settle_46 (by decide) ?_
            refine ww_top (y := bI (false)) (rfl) ?_
            refine lv_ior hx hb dX6_settle_47 (ww_top (y := bI (b || false)) (bI_or _ _) ?_)
            refine lv_istore_n (lv' := [(2, .int (bI (b || false))), (0, .ref (a 0)), (1, .int (nI (v))), (3, .int (nI (i)))]) hx hb dX6_settle_48 rfl hl (by decide) rfl (fun ls hl => ?_)
            refine lv_iinc (v := nI (i + 1)) (lv' := [(3, .int (nI (i + 1))), (2, .int (bI (b || false))), (0, .ref (a 0)), (1, .int (nI (v)))]) hx hb dX6_settle_49 hl (k := 3) rfl (nI_inc _) (by decide) rfl (fun ls hl => ?_)
            refine lv_goto (tgt := 14) hx hb dX6_settle_52 (by decide) ?_
            exact ih14 (i + 1) (b || false)  (by omega) (by omega) (by simp only [anyB, ← hbk]; simp [pHeld, c19_2, c30_8])  ls (lv_sub hl [2, 3, 1, 0] rfl)
          · refine lv_aload_n hx hb dX6_settle_33 rfl (lv_at hl 0 rfl) ?_
            refine va_get (ci := 6) (v := .ref (a 20)) (C := RX6) (T := TX6) (N := 30) hx hb hts hiX6 hown hK hP 0 rfl rfl 24 (by decide) hf4 (fun _ h9 => h9) rfl dX6_settle_34 ?_
            refine lv_iload_n hx hb dX6_settle_37 rfl (lv_at hl 3 rfl) ?_
            refine wa_z (i := i) (v := bI (m_ov M i)) hx hb hK hP 20 2 rfl rfl rfl (by omega) (by decide) dX6_settle_38 ?_
            refine wb_if_ne (tgt := 46) hx hb dX6_settle_39 (by decide) (fun c39_9 => ?_) (fun c39_9 => ?_)
            · refine lv_iconst (v := nI (0)) hx hb dX6_settle_46 (by decide) ?_
              refine ww_top (y := bI (false)) (rfl) ?_
              refine lv_ior hx hb dX6_settle_47 (ww_top (y := bI (b || false)) (bI_or _ _) ?_)
              refine lv_istore_n (lv' := [(2, .int (bI (b || false))), (0, .ref (a 0)), (1, .int (nI (v))), (3, .int (nI (i)))]) hx hb dX6_settle_48 rfl hl (by decide) rfl (fun ls hl => ?_)
              refine lv_iinc (v := nI (i + 1)) (lv' := [(3, .int (nI (i + 1))), (2, .int (bI (b || false))), (0, .ref (a 0)), (1, .int (nI (v)))]) hx hb dX6_settle_49 hl (k := 3) rfl (nI_inc _) (by decide) rfl (fun ls hl => ?_)
              refine lv_goto (tgt := 14) hx hb dX6_settle_52 (by decide) ?_
              exact ih14 (i + 1) (b || false)  (by omega) (by omega) (by simp only [anyB, ← hbk]; simp [pHeld, c19_2, c30_8, c39_9])  ls (lv_sub hl [2, 3, 1, 0] rfl)
            · refine lv_iconst (v := nI (1)) hx hb dX6_settle_42 (by decide) ?_
              refine lv_goto (tgt := 47) hx hb dX6_settle_43 (by decide) ?_
              refine ww_top (y := bI (true)) (rfl) ?_
              refine lv_ior hx hb dX6_settle_47 (ww_top (y := bI (b || true)) (bI_or _ _) ?_)
              refine lv_istore_n (lv' := [(2, .int (bI (b || true))), (0, .ref (a 0)), (1, .int (nI (v))), (3, .int (nI (i)))]) hx hb dX6_settle_48 rfl hl (by decide) rfl (fun ls hl => ?_)
              refine lv_iinc (v := nI (i + 1)) (lv' := [(3, .int (nI (i + 1))), (2, .int (bI (b || true))), (0, .ref (a 0)), (1, .int (nI (v)))]) hx hb dX6_settle_49 hl (k := 3) rfl (nI_inc _) (by decide) rfl (fun ls hl => ?_)
              refine lv_goto (tgt := 14) hx hb dX6_settle_52 (by decide) ?_
              exact ih14 (i + 1) (b || true)  (by omega) (by omega) (by simp only [anyB, ← hbk]; simp [pHeld, c19_2, c30_8, c39_9])  ls (lv_sub hl [2, 3, 1, 0] rfl)
    exact hlp14 _ (0) (false)  (Nat.lt_succ_self _) (Nat.zero_le _) (rfl)  ls (lv_sub hl [2, 3, 1, 0] rfl)
  · have hPm : va_P D vwCl (mW cI cJ cZ a (th) (lds) M) s.heap := by exact hP
    have hDm : va_D A (mW cI cJ cZ a (th) (lds) M) := by exact hD
    exact W.vret hx hb hr (fun t ht hW => ⟨⟨(th, lds, M), rfl, ⟨rfl, rfl, by rw [settleM, if_pos (by omega)]⟩, gb_mk ht hW hPm hK hDm⟩, hS.F ht⟩) hS.2.2 dX6_settle_9
