def rm_X6_fails : Room := { frames := 0, cells := 0, slots := 0, locals := 0 }
set_option maxHeartbeats 4000000 in
set_option maxRecDepth 100000 in
/-- thrown is set, the answer is 0 -/
theorem c_X6_fails (l : Launch) (D : va_G) (cI cJ cZ : ClassId) (a : Nat → Nat) (th : Nat) (lds : Nat → Bool) (M : MT) (hM : mOk M) (x : Nat) (hx1 : x < 4) (sz : Nat) : Met l yX6_fails wsX6_fails rm_X6_fails (va_Pc [.ref (a 0), .int (nI (x))] (GW D (tyW cI cJ cZ) (mW cI cJ cZ a (th) (lds) M) sz)) (va_Qi (fun rr u => rr = nI 0 ∧ u = (x, lds, M)) (fun u => GB D (tyW cI cJ cZ) (va_A (mW cI cJ cZ a (th) (lds) M) sz) (mWu cI cJ cZ a u)) (va_A (mW cI cJ cZ a (th) (lds) M) sz)) 0 0 (va_A (mW cI cJ cZ a (th) (lds) M) sz) := by
  obtain ⟨hn, hsn, hvn, hrn, hpn, hnw, h_seg, h_la, h_st, h_vo, h_ko, h_sl, h_sc, h_kp, h_en, h_pg, hvo, hko, hsl, hsc⟩ := id hM
  refine Met.ofW (cc := cX6_fails) (maxL := 2) (ret := (some .int)) (by decide) rfl ?_
  intro p e s m args below meth c s₁ B hml hv
  obtain ⟨rfl, hsz, hP, hK, hD0⟩ := hv
  have hx := B.exec
  have hb := B.bytes
  have hr := B.returns
  have hts := atoms_spec (ws := wsX6_fails) B.pre
  have hown : s.vm.findClass RX6 = some m.cls := findClass_of_methodNamed B.named
  have hlocks := B.notSynchronized
  subst hsz
  have hD := hD0.self (sz := s.heap.size)
  generalize hAe : va_A (mW cI cJ cZ a (th) (lds) M) s.heap.size = A at hD ⊢
  have hA : ∀ q : Nat, s.heap.size ≤ q → A q := fun q h => by rw [← hAe]; exact Or.inr h
  have hS : va_S A s.heap s.heap [] := va_S.rf
  have hP : va_P D vwCl (mX cI cJ cZ a (th) (lds) (m_n M) (m_sn M) (m_vn M) (m_rn M) (m_pn M) (m_nw M) (m_grp M) (m_key M) (m_srt M) (m_sd M) (m_go M) (m_seg M) (m_la M) (m_isN M) (m_drp M) (m_has M) (m_sees M) (m_isC M) (m_isG M) (m_ov M) (m_st M) (m_vo M) (m_ko M) (m_sl M) (m_sc M) (m_kp M) (m_en M) (m_pg M)) s.heap := hP
  have hD : va_D A (mX cI cJ cZ a (th) (lds) (m_n M) (m_sn M) (m_vn M) (m_rn M) (m_pn M) (m_nw M) (m_grp M) (m_key M) (m_srt M) (m_sd M) (m_go M) (m_seg M) (m_la M) (m_isN M) (m_drp M) (m_has M) (m_sees M) (m_isC M) (m_isG M) (m_ov M) (m_st M) (m_vo M) (m_ko M) (m_sl M) (m_sc M) (m_kp M) (m_en M) (m_pg M)) := hD
  have hiX6 : ∀ w ∈ wsX60, w ∈ wsX6_fails := by decide +kernel
  have hf0 := hts (.fieldLink RX6 81 "GroupCursorsModel" "thrown" "I") (by decide +kernel)
  have hl := lv_entry ([.ref (a 0), .int (nI (x))]) (n := 2) (Nat.le_of_ble_eq_true rfl)
  rw [lg_entry_eq]
  generalize (lg_sl ([.ref (a 0), .int (nI (x))]) ++ List.replicate (2 - (lg_sl ([.ref (a 0), .int (nI (x))])).length) Slot.unset).toArray = ls at hl ⊢
  have hl : lv_has ls 2 [(0, .ref (a 0)), (1, .int (nI (x)))] := hl
  refine lv_aload_n hx hb dX6_fails_0 rfl (lv_at hl 0 rfl) ?_
  refine lv_iload_n hx hb dX6_fails_1 rfl (lv_at hl 1 rfl) ?_
  refine va_put (ci := 6) (v := .int (nI (x))) (ty := .int) (C := RX6) (T := TX6) (N := 30) hx hb hts hiX6 tyX6 tyX6_ok nmX6 hown hK hP hD hS 0 rfl rfl 0 (by decide) hf0 (fun _ h9 => h9) rfl (by decide +kernel) rfl rfl (Nat.le_of_ble_eq_true rfl) dX6_fails_2 (fun H locs hP hD hS => ?_)
  have hP : va_P D vwCl (mX cI cJ cZ a (x) (lds) (m_n M) (m_sn M) (m_vn M) (m_rn M) (m_pn M) (m_nw M) (m_grp M) (m_key M) (m_srt M) (m_sd M) (m_go M) (m_seg M) (m_la M) (m_isN M) (m_drp M) (m_has M) (m_sees M) (m_isC M) (m_isG M) (m_ov M) (m_st M) (m_vo M) (m_ko M) (m_sl M) (m_sc M) (m_kp M) (m_en M) (m_pg M)) H := hP
  have hD : va_D A (mX cI cJ cZ a (x) (lds) (m_n M) (m_sn M) (m_vn M) (m_rn M) (m_pn M) (m_nw M) (m_grp M) (m_key M) (m_srt M) (m_sd M) (m_go M) (m_seg M) (m_la M) (m_isN M) (m_drp M) (m_has M) (m_sees M) (m_isC M) (m_isG M) (m_ov M) (m_st M) (m_vo M) (m_ko M) (m_sl M) (m_sc M) (m_kp M) (m_en M) (m_pg M)) := hD
  refine lv_iconst (v := nI (0)) hx hb dX6_fails_5 (by decide) ?_
  have hPm : va_P D vwCl (mW cI cJ cZ a (x) (lds) M) H := by exact hP
  have hDm : va_D A (mW cI cJ cZ a (x) (lds) M) := by exact hD
  exact W.iret (v := nI (0)) hx hb hr (fun t ht hW => ⟨⟨_, (x, lds, M), rfl, ⟨rfl, rfl⟩, gb_mk ht hW hPm hK hDm⟩, hS.F ht⟩) hS.2.2 dX6_fails_6
def rm_X6_add : Room := { frames := 0, cells := 0, slots := 0, locals := 0 }
set_option maxHeartbeats 4000000 in
set_option maxRecDepth 100000 in
/-- an object more -/
theorem c_X6_add (l : Launch) (D : va_G) (cI cJ cZ : ClassId) (a : Nat → Nat) (th : Nat) (lds : Nat → Bool) (M : MT) (hM : mOk M) (g k s9 : Int64) (sz : Nat) : Met l yX6_add wsX6_add rm_X6_add (va_Pc [.ref (a 0), .long (g), .long (k), .long (s9)] (GW D (tyW cI cJ cZ) (mW cI cJ cZ a (th) (lds) M) sz)) (va_Qi (fun rr u => rr = addR M ∧ u = (0, lds, addM M g k s9)) (fun u => GB D (tyW cI cJ cZ) (va_A (mW cI cJ cZ a (th) (lds) M) sz) (mWu cI cJ cZ a u)) (va_A (mW cI cJ cZ a (th) (lds) M) sz)) 0 0 (va_A (mW cI cJ cZ a (th) (lds) M) sz) := by
  obtain ⟨hn, hsn, hvn, hrn, hpn, hnw, h_seg, h_la, h_st, h_vo, h_ko, h_sl, h_sc, h_kp, h_en, h_pg, hvo, hko, hsl, hsc⟩ := id hM
  refine Met.ofW (cc := cX6_add) (maxL := 7) (ret := (some .int)) (by decide) rfl ?_
  intro p e s m args below meth c s₁ B hml hv
  obtain ⟨rfl, hsz, hP, hK, hD0⟩ := hv
  have hx := B.exec
  have hb := B.bytes
  have hr := B.returns
  have hts := atoms_spec (ws := wsX6_add) B.pre
  have hown : s.vm.findClass RX6 = some m.cls := findClass_of_methodNamed B.named
  have hlocks := B.notSynchronized
  subst hsz
  have hD := hD0.self (sz := s.heap.size)
  generalize hAe : va_A (mW cI cJ cZ a (th) (lds) M) s.heap.size = A at hD ⊢
  have hA : ∀ q : Nat, s.heap.size ≤ q → A q := fun q h => by rw [← hAe]; exact Or.inr h
  have hS : va_S A s.heap s.heap [] := va_S.rf
  have hP : va_P D vwCl (mX cI cJ cZ a (th) (lds) (m_n M) (m_sn M) (m_vn M) (m_rn M) (m_pn M) (m_nw M) (m_grp M) (m_key M) (m_srt M) (m_sd M) (m_go M) (m_seg M) (m_la M) (m_isN M) (m_drp M) (m_has M) (m_sees M) (m_isC M) (m_isG M) (m_ov M) (m_st M) (m_vo M) (m_ko M) (m_sl M) (m_sc M) (m_kp M) (m_en M) (m_pg M)) s.heap := hP
  have hD : va_D A (mX cI cJ cZ a (th) (lds) (m_n M) (m_sn M) (m_vn M) (m_rn M) (m_pn M) (m_nw M) (m_grp M) (m_key M) (m_srt M) (m_sd M) (m_go M) (m_seg M) (m_la M) (m_isN M) (m_drp M) (m_has M) (m_sees M) (m_isC M) (m_isG M) (m_ov M) (m_st M) (m_vo M) (m_ko M) (m_sl M) (m_sc M) (m_kp M) (m_en M) (m_pg M)) := hD
  have hiX6 : ∀ w ∈ wsX60, w ∈ wsX6_add := by decide +kernel
  have hf0 := hts (.fieldLink RX6 81 "GroupCursorsModel" "thrown" "I") (by decide +kernel)
  have hf1 := hts (.fieldLink RX6 97 "GroupCursorsModel" "objects" "I") (by decide +kernel)
  have hf2 := hts (.fieldLink RX6 7 "GroupCursorsModel" "group" "[J") (by decide +kernel)
  have hf3 := hts (.fieldLink RX6 13 "GroupCursorsModel" "key" "[J") (by decide +kernel)
  have hf4 := hts (.fieldLink RX6 16 "GroupCursorsModel" "sort" "[J") (by decide +kernel)
  have hf5 := hts (.fieldLink RX6 19 "GroupCursorsModel" "segment" "[I") (by decide +kernel)
  have hf6 := hts (.fieldLink RX6 23 "GroupCursorsModel" "isNew" "[Z") (by decide +kernel)
  have hl := lv_entry ([.ref (a 0), .long (g), .long (k), .long (s9)]) (n := 7) (Nat.le_of_ble_eq_true rfl)
  rw [lg_entry_eq]
  generalize (lg_sl ([.ref (a 0), .long (g), .long (k), .long (s9)]) ++ List.replicate (7 - (lg_sl ([.ref (a 0), .long (g), .long (k), .long (s9)])).length) Slot.unset).toArray = ls at hl ⊢
  have hl : lv_has ls 7 [(0, .ref (a 0)), (1, .long (g)), (3, .long (k)), (5, .long (s9))] := hl
  refine lv_aload_n hx hb dX6_add_0 rfl (lv_at hl 0 rfl) ?_
  refine lv_iconst (v := nI (0)) hx hb dX6_add_1 (by decide) ?_
  refine va_put (ci := 6) (v := .int (nI (0))) (ty := .int) (C := RX6) (T := TX6) (N := 30) hx hb hts hiX6 tyX6 tyX6_ok nmX6 hown hK hP hD hS 0 rfl rfl 0 (by decide) hf0 (fun _ h9 => h9) rfl (by decide +kernel) rfl rfl (Nat.le_of_ble_eq_true rfl) dX6_add_2 (fun H locs hP hD hS => ?_)
  have hP : va_P D vwCl (mX cI cJ cZ a (0) (lds) (m_n M) (m_sn M) (m_vn M) (m_rn M) (m_pn M) (m_nw M) (m_grp M) (m_key M) (m_srt M) (m_sd M) (m_go M) (m_seg M) (m_la M) (m_isN M) (m_drp M) (m_has M) (m_sees M) (m_isC M) (m_isG M) (m_ov M) (m_st M) (m_vo M) (m_ko M) (m_sl M) (m_sc M) (m_kp M) (m_en M) (m_pg M)) H := hP
  have hD : va_D A (mX cI cJ cZ a (0) (lds) (m_n M) (m_sn M) (m_vn M) (m_rn M) (m_pn M) (m_nw M) (m_grp M) (m_key M) (m_srt M) (m_sd M) (m_go M) (m_seg M) (m_la M) (m_isN M) (m_drp M) (m_has M) (m_sees M) (m_isC M) (m_isG M) (m_ov M) (m_st M) (m_vo M) (m_ko M) (m_sl M) (m_sc M) (m_kp M) (m_en M) (m_pg M)) := hD
  refine lv_aload_n hx hb dX6_add_5 rfl (lv_at hl 0 rfl) ?_
  refine va_get (ci := 6) (v := .int (nI (m_n M))) (C := RX6) (T := TX6) (N := 30) hx hb hts hiX6 hown hK hP 0 rfl rfl 1 (by decide) hf1 (fun _ h9 => h9) rfl dX6_add_6 ?_
  refine lv_sipush (v := nI (300)) hx hb dX6_add_9 (by decide) ?_
  refine wn_icmp_ne (a := m_n M) (b := 300) (tgt := 18) hx hb (nI_z (by omega)) (nI_z (by omega)) dX6_add_12 (by decide) (fun c12_1 => ?_) (fun c12_1 => ?_)
  · refine lv_aload_n hx hb dX6_add_18 rfl (lv_at hl 0 rfl) ?_
    refine va_get (ci := 6) (v := .ref (a 1)) (C := RX6) (T := TX6) (N := 30) hx hb hts hiX6 hown hK hP 0 rfl rfl 2 (by decide) hf2 (fun _ h9 => h9) rfl dX6_add_19 ?_
    refine lv_aload_n hx hb dX6_add_22 rfl (lv_at hl 0 rfl) ?_
    refine va_get (ci := 6) (v := .int (nI (m_n M))) (C := RX6) (T := TX6) (N := 30) hx hb hts hiX6 hown hK hP 0 rfl rfl 1 (by decide) hf1 (fun _ h9 => h9) rfl dX6_add_23 ?_
    refine lv_lload_n hx hb dX6_add_26 rfl (lv_at hl 1 rfl) ?_
    refine wa_lst (i := m_n M) hx hb hK hP hD hS 1 1 rfl rfl (by omega) (by decide) dX6_add_27 (fun H locs hP hD hS => ?_)
    have hP : va_P D vwCl (mX cI cJ cZ a (0) (lds) (m_n M) (m_sn M) (m_vn M) (m_rn M) (m_pn M) (m_nw M) (va_up (m_grp M) (m_n M) (g)) (m_key M) (m_srt M) (m_sd M) (m_go M) (m_seg M) (m_la M) (m_isN M) (m_drp M) (m_has M) (m_sees M) (m_isC M) (m_isG M) (m_ov M) (m_st M) (m_vo M) (m_ko M) (m_sl M) (m_sc M) (m_kp M) (m_en M) (m_pg M)) H := hP
    have hD : va_D A (mX cI cJ cZ a (0) (lds) (m_n M) (m_sn M) (m_vn M) (m_rn M) (m_pn M) (m_nw M) (va_up (m_grp M) (m_n M) (g)) (m_key M) (m_srt M) (m_sd M) (m_go M) (m_seg M) (m_la M) (m_isN M) (m_drp M) (m_has M) (m_sees M) (m_isC M) (m_isG M) (m_ov M) (m_st M) (m_vo M) (m_ko M) (m_sl M) (m_sc M) (m_kp M) (m_en M) (m_pg M)) := hD
    refine lv_aload_n hx hb dX6_add_28 rfl (lv_at hl 0 rfl) ?_
    refine va_get (ci := 6) (v := .ref (a 2)) (C := RX6) (T := TX6) (N := 30) hx hb hts hiX6 hown hK hP 0 rfl rfl 3 (by decide) hf3 (fun _ h9 => h9) rfl dX6_add_29 ?_
    refine lv_aload_n hx hb dX6_add_32 rfl (lv_at hl 0 rfl) ?_
    refine va_get (ci := 6) (v := .int (nI (m_n M))) (C := RX6) (T := TX6) (N := 30) hx hb hts hiX6 hown hK hP 0 rfl rfl 1 (by decide) hf1 (fun _ h9 => h9) rfl dX6_add_33 ?_
    refine lv_lload_n hx hb dX6_add_36 rfl (lv_at hl 2 rfl) ?_
    refine wa_lst (i := m_n M) hx hb hK hP hD hS 2 1 rfl rfl (by omega) (by decide) dX6_add_37 (fun H locs hP hD hS => ?_)
    have hP : va_P D vwCl (mX cI cJ cZ a (0) (lds) (m_n M) (m_sn M) (m_vn M) (m_rn M) (m_pn M) (m_nw M) (va_up (m_grp M) (m_n M) (g)) (va_up (m_key M) (m_n M) (k)) (m_srt M) (m_sd M) (m_go M) (m_seg M) (m_la M) (m_isN M) (m_drp M) (m_has M) (m_sees M) (m_isC M) (m_isG M) (m_ov M) (m_st M) (m_vo M) (m_ko M) (m_sl M) (m_sc M) (m_kp M) (m_en M) (m_pg M)) H := hP
    have hD : va_D A (mX cI cJ cZ a (0) (lds) (m_n M) (m_sn M) (m_vn M) (m_rn M) (m_pn M) (m_nw M) (va_up (m_grp M) (m_n M) (g)) (va_up (m_key M) (m_n M) (k)) (m_srt M) (m_sd M) (m_go M) (m_seg M) (m_la M) (m_isN M) (m_drp M) (m_has M) (m_sees M) (m_isC M) (m_isG M) (m_ov M) (m_st M) (m_vo M) (m_ko M) (m_sl M) (m_sc M) (m_kp M) (m_en M) (m_pg M)) := hD
    refine lv_aload_n hx hb dX6_add_38 rfl (lv_at hl 0 rfl) ?_
    refine va_get (ci := 6) (v := .ref (a 3)) (C := RX6) (T := TX6) (N := 30) hx hb hts hiX6 hown hK hP 0 rfl rfl 4 (by decide) hf4 (fun _ h9 => h9) rfl dX6_add_39 ?_
    refine lv_aload_n hx hb dX6_add_42 rfl (lv_at hl 0 rfl) ?_
    refine va_get (ci := 6) (v := .int (nI (m_n M))) (C := RX6) (T := TX6) (N := 30) hx hb hts hiX6 hown hK hP 0 rfl rfl 1 (by decide) hf1 (fun _ h9 => h9) rfl dX6_add_43 ?_
    refine lv_lload hx hb dX6_add_46 (lv_at hl 3 rfl) ?_
    refine wa_lst (i := m_n M) hx hb hK hP hD hS 3 1 rfl rfl (by omega) (by decide) dX6_add_48 (fun H locs hP hD hS => ?_)
    have hP : va_P D vwCl (mX cI cJ cZ a (0) (lds) (m_n M) (m_sn M) (m_vn M) (m_rn M) (m_pn M) (m_nw M) (va_up (m_grp M) (m_n M) (g)) (va_up (m_key M) (m_n M) (k)) (va_up (m_srt M) (m_n M) (s9)) (m_sd M) (m_go M) (m_seg M) (m_la M) (m_isN M) (m_drp M) (m_has M) (m_sees M) (m_isC M) (m_isG M) (m_ov M) (m_st M) (m_vo M) (m_ko M) (m_sl M) (m_sc M) (m_kp M) (m_en M) (m_pg M)) H := hP
    have hD : va_D A (mX cI cJ cZ a (0) (lds) (m_n M) (m_sn M) (m_vn M) (m_rn M) (m_pn M) (m_nw M) (va_up (m_grp M) (m_n M) (g)) (va_up (m_key M) (m_n M) (k)) (va_up (m_srt M) (m_n M) (s9)) (m_sd M) (m_go M) (m_seg M) (m_la M) (m_isN M) (m_drp M) (m_has M) (m_sees M) (m_isC M) (m_isG M) (m_ov M) (m_st M) (m_vo M) (m_ko M) (m_sl M) (m_sc M) (m_kp M) (m_en M) (m_pg M)) := hD
    refine lv_aload_n hx hb dX6_add_49 rfl (lv_at hl 0 rfl) ?_
    refine va_get (ci := 6) (v := .ref (a 4)) (C := RX6) (T := TX6) (N := 30) hx hb hts hiX6 hown hK hP 0 rfl rfl 5 (by decide) hf5 (fun _ h9 => h9) rfl dX6_add_50 ?_
    refine lv_aload_n hx hb dX6_add_53 rfl (lv_at hl 0 rfl) ?_
    refine va_get (ci := 6) (v := .int (nI (m_n M))) (C := RX6) (T := TX6) (N := 30) hx hb hts hiX6 hown hK hP 0 rfl rfl 1 (by decide) hf1 (fun _ h9 => h9) rfl dX6_add_54 ?_
    refine lv_iconst (v := zI ((-1))) hx hb dX6_add_57 (by decide) ?_
    refine wa_ist (i := m_n M) hx hb hK hP hD hS 4 0 rfl rfl (upd_zI (m_seg M) (m_n M) (((-1) : Int))) (by omega) (by decide) dX6_add_58 (fun H locs hP hD hS => ?_)
    have hP : va_P D vwCl (mX cI cJ cZ a (0) (lds) (m_n M) (m_sn M) (m_vn M) (m_rn M) (m_pn M) (m_nw M) (va_up (m_grp M) (m_n M) (g)) (va_up (m_key M) (m_n M) (k)) (va_up (m_srt M) (m_n M) (s9)) (m_sd M) (m_go M) (va_up (m_seg M) (m_n M) (((-1) : Int))) (m_la M) (m_isN M) (m_drp M) (m_has M) (m_sees M) (m_isC M) (m_isG M) (m_ov M) (m_st M) (m_vo M) (m_ko M) (m_sl M) (m_sc M) (m_kp M) (m_en M) (m_pg M)) H := hP
    have hD : va_D A (mX cI cJ cZ a (0) (lds) (m_n M) (m_sn M) (m_vn M) (m_rn M) (m_pn M) (m_nw M) (va_up (m_grp M) (m_n M) (g)) (va_up (m_key M) (m_n M) (k)) (va_up (m_srt M) (m_n M) (s9)) (m_sd M) (m_go M) (va_up (m_seg M) (m_n M) (((-1) : Int))) (m_la M) (m_isN M) (m_drp M) (m_has M) (m_sees M) (m_isC M) (m_isG M) (m_ov M) (m_st M) (m_vo M) (m_ko M) (m_sl M) (m_sc M) (m_kp M) (m_en M) (m_pg M)) := hD
    refine lv_aload_n hx hb dX6_add_59 rfl (lv_at hl 0 rfl) ?_
    refine va_get (ci := 6) (v := .ref (a 5)) (C := RX6) (T := TX6) (N := 30) hx hb hts hiX6 hown hK hP 0 rfl rfl 6 (by decide) hf6 (fun _ h9 => h9) rfl dX6_add_60 ?_
    refine lv_aload_n hx hb dX6_add_63 rfl (lv_at hl 0 rfl) ?_
    refine va_get (ci := 6) (v := .int (nI (m_n M))) (C := RX6) (T := TX6) (N := 30) hx hb hts hiX6 hown hK hP 0 rfl rfl 1 (by decide) hf1 (fun _ h9 => h9) rfl dX6_add_64 ?_
    refine lv_iconst (v := nI (1)) hx hb dX6_add_67 (by decide) ?_
    refine wa_zst (i := m_n M) (b := true) (f := m_isN M) hx hb hK hP hD hS 5 2 rfl rfl rfl (by omega) (by decide) dX6_add_68 (fun H locs hP hD hS => ?_)
    have hP : va_P D vwCl (mX cI cJ cZ a (0) (lds) (m_n M) (m_sn M) (m_vn M) (m_rn M) (m_pn M) (m_nw M) (va_up (m_grp M) (m_n M) (g)) (va_up (m_key M) (m_n M) (k)) (va_up (m_srt M) (m_n M) (s9)) (m_sd M) (m_go M) (va_up (m_seg M) (m_n M) (((-1) : Int))) (m_la M) (va_up (m_isN M) (m_n M) (true)) (m_drp M) (m_has M) (m_sees M) (m_isC M) (m_isG M) (m_ov M) (m_st M) (m_vo M) (m_ko M) (m_sl M) (m_sc M) (m_kp M) (m_en M) (m_pg M)) H := hP
    have hD : va_D A (mX cI cJ cZ a (0) (lds) (m_n M) (m_sn M) (m_vn M) (m_rn M) (m_pn M) (m_nw M) (va_up (m_grp M) (m_n M) (g)) (va_up (m_key M) (m_n M) (k)) (va_up (m_srt M) (m_n M) (s9)) (m_sd M) (m_go M) (va_up (m_seg M) (m_n M) (((-1) : Int))) (m_la M) (va_up (m_isN M) (m_n M) (true)) (m_drp M) (m_has M) (m_sees M) (m_isC M) (m_isG M) (m_ov M) (m_st M) (m_vo M) (m_ko M) (m_sl M) (m_sc M) (m_kp M) (m_en M) (m_pg M)) := hD
    refine lv_aload_n hx hb dX6_add_69 rfl (lv_at hl 0 rfl) ?_
    refine lv_dup hx hb dX6_add_70 rfl ?_
    refine va_get (ci := 6) (v := .int (nI (m_n M))) (C := RX6) (T := TX6) (N := 30) hx hb hts hiX6 hown hK hP 0 rfl rfl 1 (by decide) hf1 (fun _ h9 => h9) rfl dX6_add_71 ?_
    refine lv_iconst (v := nI (1)) hx hb dX6_add_74 (by decide) ?_
    refine lv_iadd hx hb dX6_add_75 (ww_top (y := nI (m_n M + 1)) (nI_addn _ _) ?_)
    refine va_put (ci := 6) (v := .int (nI (m_n M + 1))) (ty := .int) (C := RX6) (T := TX6) (N := 30) hx hb hts hiX6 tyX6 tyX6_ok nmX6 hown hK hP hD hS 0 rfl rfl 1 (by decide) hf1 (fun _ h9 => h9) rfl (by decide +kernel) rfl rfl (Nat.le_of_ble_eq_true rfl) dX6_add_76 (fun H locs hP hD hS => ?_)
    have hP : va_P D vwCl (mX cI cJ cZ a (0) (lds) (m_n M + 1) (m_sn M) (m_vn M) (m_rn M) (m_pn M) (m_nw M) (va_up (m_grp M) (m_n M) (g)) (va_up (m_key M) (m_n M) (k)) (va_up (m_srt M) (m_n M) (s9)) (m_sd M) (m_go M) (va_up (m_seg M) (m_n M) (((-1) : Int))) (m_la M) (va_up (m_isN M) (m_n M) (true)) (m_drp M) (m_has M) (m_sees M) (m_isC M) (m_isG M) (m_ov M) (m_st M) (m_vo M) (m_ko M) (m_sl M) (m_sc M) (m_kp M) (m_en M) (m_pg M)) H := hP
    have hD : va_D A (mX cI cJ cZ a (0) (lds) (m_n M + 1) (m_sn M) (m_vn M) (m_rn M) (m_pn M) (m_nw M) (va_up (m_grp M) (m_n M) (g)) (va_up (m_key M) (m_n M) (k)) (va_up (m_srt M) (m_n M) (s9)) (m_sd M) (m_go M) (va_up (m_seg M) (m_n M) (((-1) : Int))) (m_la M) (va_up (m_isN M) (m_n M) (true)) (m_drp M) (m_has M) (m_sees M) (m_isC M) (m_isG M) (m_ov M) (m_st M) (m_vo M) (m_ko M) (m_sl M) (m_sc M) (m_kp M) (m_en M) (m_pg M)) := hD
    refine lv_aload_n hx hb dX6_add_79 rfl (lv_at hl 0 rfl) ?_
    refine va_get (ci := 6) (v := .int (nI (m_n M + 1))) (C := RX6) (T := TX6) (N := 30) hx hb hts hiX6 hown hK hP 0 rfl rfl 1 (by decide) hf1 (fun _ h9 => h9) rfl dX6_add_80 ?_
    refine lv_iconst (v := nI (1)) hx hb dX6_add_83 (by decide) ?_
    refine lv_isub hx hb dX6_add_84 (ww_top (y := nI (m_n M + 1 - 1)) (pk_sub (by omega)) ?_)
    have hPm : va_P D vwCl (mW cI cJ cZ a (0) (lds) (mkM (m_n M + 1) (m_sn M) (m_vn M) (m_rn M) (m_pn M) (m_nw M) (va_up (m_grp M) (m_n M) (g)) (va_up (m_key M) (m_n M) (k)) (va_up (m_srt M) (m_n M) (s9)) (m_sd M) (m_go M) (va_up (m_seg M) (m_n M) (((-1) : Int))) (m_la M) (va_up (m_isN M) (m_n M) (true)) (m_drp M) (m_has M) (m_sees M) (m_isC M) (m_isG M) (m_ov M) (m_st M) (m_vo M) (m_ko M) (m_sl M) (m_sc M) (m_kp M) (m_en M) (m_pg M))) H := by rw [← mX_mk]; exact hP
    have hDm : va_D A (mW cI cJ cZ a (0) (lds) (mkM (m_n M + 1) (m_sn M) (m_vn M) (m_rn M) (m_pn M) (m_nw M) (va_up (m_grp M) (m_n M) (g)) (va_up (m_key M) (m_n M) (k)) (va_up (m_srt M) (m_n M) (s9)) (m_sd M) (m_go M) (va_up (m_seg M) (m_n M) (((-1) : Int))) (m_la M) (va_up (m_isN M) (m_n M) (true)) (m_drp M) (m_has M) (m_sees M) (m_isC M) (m_isG M) (m_ov M) (m_st M) (m_vo M) (m_ko M) (m_sl M) (m_sc M) (m_kp M) (m_en M) (m_pg M))) := by rw [← mX_mk]; exact hD
    exact W.iret (v := nI (m_n M + 1 - 1)) hx hb hr (fun t ht hW => ⟨⟨_, (0, lds, (mkM (m_n M + 1) (m_sn M) (m_vn M) (m_rn M) (m_pn M) (m_nw M) (va_up (m_grp M) (m_n M) (g)) (va_up (m_key M) (m_n M) (k)) (va_up (m_srt M) (m_n M) (s9)) (m_sd M) (m_go M) (va_up (m_seg M) (m_n M) (((-1) : Int))) (m_la M) (va_up (m_isN M) (m_n M) (true)) (m_drp M) (m_has M) (m_sees M) (m_isC M) (m_isG M) (m_ov M) (m_st M) (m_vo M) (m_ko M) (m_sl M) (m_sc M) (m_kp M) (m_en M) (m_pg M))), rfl, ⟨by rw [addR, if_neg (by omega), Nat.add_sub_cancel], by rw [addM, if_neg (by omega)]⟩, gb_mk ht hW hPm hK hDm⟩, hS.F ht⟩) hS.2.2 dX6_add_85
  · refine lv_bipush (v := zI ((-4))) hx hb dX6_add_15 (by decide) ?_
    have hPm : va_P D vwCl (mW cI cJ cZ a (0) (lds) M) H := by exact hP
    have hDm : va_D A (mW cI cJ cZ a (0) (lds) M) := by exact hD
    exact W.iret (v := zI ((-4))) hx hb hr (fun t ht hW => ⟨⟨_, (0, lds, M), rfl, ⟨by rw [addR, if_pos (by omega)], by rw [addM, if_pos (by omega)]⟩, gb_mk ht hW hPm hK hDm⟩, hS.F ht⟩) hS.2.2 dX6_add_17
def rm_X6_drop : Room := { frames := 0, cells := 0, slots := 0, locals := 0 }
set_option maxHeartbeats 4000000 in
set_option maxRecDepth 100000 in
/-- an object is dropped -/
theorem c_X6_drop (l : Launch) (D : va_G) (cI cJ cZ : ClassId) (a : Nat → Nat) (th : Nat) (lds : Nat → Bool) (M : MT) (hM : mOk M) (x : Int32) (sz : Nat) : Met l yX6_drop wsX6_drop rm_X6_drop (va_Pc [.ref (a 0), .int (x)] (GW D (tyW cI cJ cZ) (mW cI cJ cZ a (th) (lds) M) sz)) (va_Qi (fun rr u => rr = bI (dropR M x) ∧ u = (if okx (m_n M) x then 0 else 1, lds, dropM M x)) (fun u => GB D (tyW cI cJ cZ) (va_A (mW cI cJ cZ a (th) (lds) M) sz) (mWu cI cJ cZ a u)) (va_A (mW cI cJ cZ a (th) (lds) M) sz)) 0 0 (va_A (mW cI cJ cZ a (th) (lds) M) sz) := by
  obtain ⟨hn, hsn, hvn, hrn, hpn, hnw, h_seg, h_la, h_st, h_vo, h_ko, h_sl, h_sc, h_kp, h_en, h_pg, hvo, hko, hsl, hsc⟩ := id hM
  refine Met.ofW (cc := cX6_drop) (maxL := 3) (ret := (some .boolean)) (by decide) rfl ?_
  intro p e s m args below meth c s₁ B hml hv
  obtain ⟨rfl, hsz, hP, hK, hD0⟩ := hv
  have hx := B.exec
  have hb := B.bytes
  have hr := B.returns
  have hts := atoms_spec (ws := wsX6_drop) B.pre
  have hown : s.vm.findClass RX6 = some m.cls := findClass_of_methodNamed B.named
  have hlocks := B.notSynchronized
  subst hsz
  have hD := hD0.self (sz := s.heap.size)
  generalize hAe : va_A (mW cI cJ cZ a (th) (lds) M) s.heap.size = A at hD ⊢
  have hA : ∀ q : Nat, s.heap.size ≤ q → A q := fun q h => by rw [← hAe]; exact Or.inr h
  have hS : va_S A s.heap s.heap [] := va_S.rf
  have hP : va_P D vwCl (mX cI cJ cZ a (th) (lds) (m_n M) (m_sn M) (m_vn M) (m_rn M) (m_pn M) (m_nw M) (m_grp M) (m_key M) (m_srt M) (m_sd M) (m_go M) (m_seg M) (m_la M) (m_isN M) (m_drp M) (m_has M) (m_sees M) (m_isC M) (m_isG M) (m_ov M) (m_st M) (m_vo M) (m_ko M) (m_sl M) (m_sc M) (m_kp M) (m_en M) (m_pg M)) s.heap := hP
  have hD : va_D A (mX cI cJ cZ a (th) (lds) (m_n M) (m_sn M) (m_vn M) (m_rn M) (m_pn M) (m_nw M) (m_grp M) (m_key M) (m_srt M) (m_sd M) (m_go M) (m_seg M) (m_la M) (m_isN M) (m_drp M) (m_has M) (m_sees M) (m_isC M) (m_isG M) (m_ov M) (m_st M) (m_vo M) (m_ko M) (m_sl M) (m_sc M) (m_kp M) (m_en M) (m_pg M)) := hD
  have hiX6 : ∀ w ∈ wsX60, w ∈ wsX6_drop := by decide +kernel
  have hf0 := hts (.fieldLink RX6 81 "GroupCursorsModel" "thrown" "I") (by decide +kernel)
  have hf1 := hts (.fieldLink RX6 97 "GroupCursorsModel" "objects" "I") (by decide +kernel)
  have hf2 := hts (.fieldLink RX6 27 "GroupCursorsModel" "isDropped" "[Z") (by decide +kernel)
  have hl := lv_entry ([.ref (a 0), .int (x)]) (n := 3) (Nat.le_of_ble_eq_true rfl)
  rw [lg_entry_eq]
  generalize (lg_sl ([.ref (a 0), .int (x)]) ++ List.replicate (3 - (lg_sl ([.ref (a 0), .int (x)])).length) Slot.unset).toArray = ls at hl ⊢
  have hl : lv_has ls 3 [(0, .ref (a 0)), (1, .int (x))] := hl
  refine lv_aload_n hx hb dX6_drop_0 rfl (lv_at hl 0 rfl) ?_
  refine lv_iconst (v := nI (0)) hx hb dX6_drop_1 (by decide) ?_
  refine va_put (ci := 6) (v := .int (nI (0))) (ty := .int) (C := RX6) (T := TX6) (N := 30) hx hb hts hiX6 tyX6 tyX6_ok nmX6 hown hK hP hD hS 0 rfl rfl 0 (by decide) hf0 (fun _ h9 => h9) rfl (by decide +kernel) rfl rfl (Nat.le_of_ble_eq_true rfl) dX6_drop_2 (fun H locs hP hD hS => ?_)
  have hP : va_P D vwCl (mX cI cJ cZ a (0) (lds) (m_n M) (m_sn M) (m_vn M) (m_rn M) (m_pn M) (m_nw M) (m_grp M) (m_key M) (m_srt M) (m_sd M) (m_go M) (m_seg M) (m_la M) (m_isN M) (m_drp M) (m_has M) (m_sees M) (m_isC M) (m_isG M) (m_ov M) (m_st M) (m_vo M) (m_ko M) (m_sl M) (m_sc M) (m_kp M) (m_en M) (m_pg M)) H := hP
  have hD : va_D A (mX cI cJ cZ a (0) (lds) (m_n M) (m_sn M) (m_vn M) (m_rn M) (m_pn M) (m_nw M) (m_grp M) (m_key M) (m_srt M) (m_sd M) (m_go M) (m_seg M) (m_la M) (m_isN M) (m_drp M) (m_has M) (m_sees M) (m_isC M) (m_isG M) (m_ov M) (m_st M) (m_vo M) (m_ko M) (m_sl M) (m_sc M) (m_kp M) (m_en M) (m_pg M)) := hD
  refine lv_iload_n hx hb dX6_drop_5 rfl (lv_at hl 1 rfl) ?_
  refine wz_if_lt (tgt := 17) hx hb ((x).toInt) rfl dX6_drop_6 (by decide) (fun c6_1 => ?_) (fun c6_1 => ?_)
  · refine lv_aload_n hx hb dX6_drop_17 rfl (lv_at hl 0 rfl) ?_
    refine lv_iconst (v := nI (1)) hx hb dX6_drop_18 (by decide) ?_
    refine va_put (ci := 6) (v := .int (nI (1))) (ty := .int) (C := RX6) (T := TX6) (N := 30) hx hb hts hiX6 tyX6 tyX6_ok nmX6 hown hK hP hD hS 0 rfl rfl 0 (by decide) hf0 (fun _ h9 => h9) rfl (by decide +kernel) rfl rfl (Nat.le_of_ble_eq_true rfl) dX6_drop_19 (fun H locs hP hD hS => ?_)
    have hP : va_P D vwCl (mX cI cJ cZ a (1) (lds) (m_n M) (m_sn M) (m_vn M) (m_rn M) (m_pn M) (m_nw M) (m_grp M) (m_key M) (m_srt M) (m_sd M) (m_go M) (m_seg M) (m_la M) (m_isN M) (m_drp M) (m_has M) (m_sees M) (m_isC M) (m_isG M) (m_ov M) (m_st M) (m_vo M) (m_ko M) (m_sl M) (m_sc M) (m_kp M) (m_en M) (m_pg M)) H := hP
    have hD : va_D A (mX cI cJ cZ a (1) (lds) (m_n M) (m_sn M) (m_vn M) (m_rn M) (m_pn M) (m_nw M) (m_grp M) (m_key M) (m_srt M) (m_sd M) (m_go M) (m_seg M) (m_la M) (m_isN M) (m_drp M) (m_has M) (m_sees M) (m_isC M) (m_isG M) (m_ov M) (m_st M) (m_vo M) (m_ko M) (m_sl M) (m_sc M) (m_kp M) (m_en M) (m_pg M)) := hD
    refine lv_iconst (v := nI (0)) hx hb dX6_drop_22 (by decide) ?_
    have hPm : va_P D vwCl (mW cI cJ cZ a (1) (lds) M) H := by exact hP
    have hDm : va_D A (mW cI cJ cZ a (1) (lds) M) := by exact hD
    exact W.zret (v := nI (0)) hx hb hr rfl (fun t ht hW => ⟨⟨_, (1, lds, M), rfl, ⟨bI_ff (by rw [dropR, okx_f (by omega)]; rfl), by rw [dropM, okx_f (by omega)]; rfl⟩, gb_mk ht hW hPm hK hDm⟩, hS.F ht⟩) hS.2.2 dX6_drop_23
  · refine lv_iload_n hx hb dX6_drop_9 rfl (lv_at hl 1 rfl) ?_
    refine lv_aload_n hx hb dX6_drop_10 rfl (lv_at hl 0 rfl) ?_
    refine va_get (ci := 6) (v := .int (nI (m_n M))) (C := RX6) (T := TX6) (N := 30) hx hb hts hiX6 hown hK hP 0 rfl rfl 1 (by decide) hf1 (fun _ h9 => h9) rfl dX6_drop_11 ?_
    refine wz_icmp_lt (tgt := 24) hx hb ((x).toInt) (((m_n M : Nat) : Int)) rfl (nI_z (by omega)) dX6_drop_14 (by decide) (fun c14_2 => ?_) (fun c14_2 => ?_)
    · refine lv_aload_n hx hb dX6_drop_24 rfl (lv_at hl 0 rfl) ?_
      refine va_get (ci := 6) (v := .ref (a 6)) (C := RX6) (T := TX6) (N := 30) hx hb hts hiX6 hown hK hP 0 rfl rfl 7 (by decide) hf2 (fun _ h9 => h9) rfl dX6_drop_25 ?_
      refine lv_iload_n hx hb dX6_drop_28 rfl (lv_at hl 1 rfl) ?_
      refine ww_top (y := nI (x.toInt.toNat)) (zI_nat (by omega)) ?_
      refine wa_z (i := x.toInt.toNat) (v := bI (m_drp M (x.toInt.toNat))) hx hb hK hP 6 2 rfl rfl rfl (by omega) (by decide) dX6_drop_29 ?_
      refine lv_istore_n (lv' := [(2, .int (bI (m_drp M (x.toInt.toNat)))), (0, .ref (a 0)), (1, .int (x))]) hx hb dX6_drop_30 rfl hl (by decide) rfl (fun ls hl => ?_)
      refine lv_aload_n hx hb dX6_drop_31 rfl (lv_at hl 1 rfl) ?_
      refine va_get (ci := 6) (v := .ref (a 6)) (C := RX6) (T := TX6) (N := 30) hx hb hts hiX6 hown hK hP 0 rfl rfl 7 (by decide) hf2 (fun _ h9 => h9) rfl dX6_drop_32 ?_
      refine lv_iload_n hx hb dX6_drop_35 rfl (lv_at hl 2 rfl) ?_
      refine ww_top (y := nI (x.toInt.toNat)) (zI_nat (by omega)) ?_
      refine lv_iconst (v := nI (1)) hx hb dX6_drop_36 (by decide) ?_
      refine wa_zst (i := x.toInt.toNat) (b := true) (f := m_drp M) hx hb hK hP hD hS 6 2 rfl rfl rfl (by omega) (by decide) dX6_drop_37 (fun H locs hP hD hS => ?_)
      have hP : va_P D vwCl (mX cI cJ cZ a (0) (lds) (m_n M) (m_sn M) (m_vn M) (m_rn M) (m_pn M) (m_nw M) (m_grp M) (m_key M) (m_srt M) (m_sd M) (m_go M) (m_seg M) (m_la M) (m_isN M) (va_up (m_drp M) (x.toInt.toNat) (true)) (m_has M) (m_sees M) (m_isC M) (m_isG M) (m_ov M) (m_st M) (m_vo M) (m_ko M) (m_sl M) (m_sc M) (m_kp M) (m_en M) (m_pg M)) H := hP
      have hD : va_D A (mX cI cJ cZ a (0) (lds) (m_n M) (m_sn M) (m_vn M) (m_rn M) (m_pn M) (m_nw M) (m_grp M) (m_key M) (m_srt M) (m_sd M) (m_go M) (m_seg M) (m_la M) (m_isN M) (va_up (m_drp M) (x.toInt.toNat) (true)) (m_has M) (m_sees M) (m_isC M) (m_isG M) (m_ov M) (m_st M) (m_vo M) (m_ko M) (m_sl M) (m_sc M) (m_kp M) (m_en M) (m_pg M)) := hD
      refine lv_iload_n hx hb dX6_drop_38 rfl (lv_at hl 0 rfl) ?_
      refine wb_if_ne (tgt := 46) hx hb dX6_drop_39 (by decide) (fun c39_3 => ?_) (fun c39_3 => ?_)
      · refine lv_iconst (v := nI (0)) hx hb dX6_drop_46 (by decide) ?_
        have hPm : va_P D vwCl (mW cI cJ cZ a (0) (lds) (mkM (m_n M) (m_sn M) (m_vn M) (m_rn M) (m_pn M) (m_nw M) (m_grp M) (m_key M) (m_srt M) (m_sd M) (m_go M) (m_seg M) (m_la M) (m_isN M) (va_up (m_drp M) (x.toInt.toNat) (true)) (m_has M) (m_sees M) (m_isC M) (m_isG M) (m_ov M) (m_st M) (m_vo M) (m_ko M) (m_sl M) (m_sc M) (m_kp M) (m_en M) (m_pg M))) H := by rw [← mX_mk]; exact hP
        have hDm : va_D A (mW cI cJ cZ a (0) (lds) (mkM (m_n M) (m_sn M) (m_vn M) (m_rn M) (m_pn M) (m_nw M) (m_grp M) (m_key M) (m_srt M) (m_sd M) (m_go M) (m_seg M) (m_la M) (m_isN M) (va_up (m_drp M) (x.toInt.toNat) (true)) (m_has M) (m_sees M) (m_isC M) (m_isG M) (m_ov M) (m_st M) (m_vo M) (m_ko M) (m_sl M) (m_sc M) (m_kp M) (m_en M) (m_pg M))) := by rw [← mX_mk]; exact hD
        exact W.zret (v := nI (0)) hx hb hr rfl (fun t ht hW => ⟨⟨_, (0, lds, (mkM (m_n M) (m_sn M) (m_vn M) (m_rn M) (m_pn M) (m_nw M) (m_grp M) (m_key M) (m_srt M) (m_sd M) (m_go M) (m_seg M) (m_la M) (m_isN M) (va_up (m_drp M) (x.toInt.toNat) (true)) (m_has M) (m_sees M) (m_isC M) (m_isG M) (m_ov M) (m_st M) (m_vo M) (m_ko M) (m_sl M) (m_sc M) (m_kp M) (m_en M) (m_pg M))), rfl, ⟨bI_ff (by rw [dropR, okx_t (by omega) (by omega)]; simp only [ix, c39_3]; rfl), by rw [dropM, okx_t (by omega) (by omega)]; rfl⟩, gb_mk ht hW hPm hK hDm⟩, hS.F ht⟩) hS.2.2 dX6_drop_47
      · refine lv_iconst (v := nI (1)) hx hb dX6_drop_42 (by decide) ?_
        refine lv_goto (tgt := 47) hx hb dX6_drop_43 (by decide) ?_
        have hPm : va_P D vwCl (mW cI cJ cZ a (0) (lds) (mkM (m_n M) (m_sn M) (m_vn M) (m_rn M) (m_pn M) (m_nw M) (m_grp M) (m_key M) (m_srt M) (m_sd M) (m_go M) (m_seg M) (m_la M) (m_isN M) (va_up (m_drp M) (x.toInt.toNat) (true)) (m_has M) (m_sees M) (m_isC M) (m_isG M) (m_ov M) (m_st M) (m_vo M) (m_ko M) (m_sl M) (m_sc M) (m_kp M) (m_en M) (m_pg M))) H := by rw [← mX_mk]; exact hP
        have hDm : va_D A (mW cI cJ cZ a (0) (lds) (mkM (m_n M) (m_sn M) (m_vn M) (m_rn M) (m_pn M) (m_nw M) (m_grp M) (m_key M) (m_srt M) (m_sd M) (m_go M) (m_seg M) (m_la M) (m_isN M) (va_up (m_drp M) (x.toInt.toNat) (true)) (m_has M) (m_sees M) (m_isC M) (m_isG M) (m_ov M) (m_st M) (m_vo M) (m_ko M) (m_sl M) (m_sc M) (m_kp M) (m_en M) (m_pg M))) := by rw [← mX_mk]; exact hD
        exact W.zret (v := nI (1)) hx hb hr rfl (fun t ht hW => ⟨⟨_, (0, lds, (mkM (m_n M) (m_sn M) (m_vn M) (m_rn M) (m_pn M) (m_nw M) (m_grp M) (m_key M) (m_srt M) (m_sd M) (m_go M) (m_seg M) (m_la M) (m_isN M) (va_up (m_drp M) (x.toInt.toNat) (true)) (m_has M) (m_sees M) (m_isC M) (m_isG M) (m_ov M) (m_st M) (m_vo M) (m_ko M) (m_sl M) (m_sc M) (m_kp M) (m_en M) (m_pg M))), rfl, ⟨bI_tt (by rw [dropR, okx_t (by omega) (by omega)]; simp only [ix, c39_3]; rfl), by rw [dropM, okx_t (by omega) (by omega)]; rfl⟩, gb_mk ht hW hPm hK hDm⟩, hS.F ht⟩) hS.2.2 dX6_drop_47
    · refine lv_aload_n hx hb dX6_drop_17 rfl (lv_at hl 0 rfl) ?_
      refine lv_iconst (v := nI (1)) hx hb dX6_drop_18 (by decide) ?_
      refine va_put (ci := 6) (v := .int (nI (1))) (ty := .int) (C := RX6) (T := TX6) (N := 30) hx hb hts hiX6 tyX6 tyX6_ok nmX6 hown hK hP hD hS 0 rfl rfl 0 (by decide) hf0 (fun _ h9 => h9) rfl (by decide +kernel) rfl rfl (Nat.le_of_ble_eq_true rfl) dX6_drop_19 (fun H locs hP hD hS => ?_)
      have hP : va_P D vwCl (mX cI cJ cZ a (1) (lds) (m_n M) (m_sn M) (m_vn M) (m_rn M) (m_pn M) (m_nw M) (m_grp M) (m_key M) (m_srt M) (m_sd M) (m_go M) (m_seg M) (m_la M) (m_isN M) (m_drp M) (m_has M) (m_sees M) (m_isC M) (m_isG M) (m_ov M) (m_st M) (m_vo M) (m_ko M) (m_sl M) (m_sc M) (m_kp M) (m_en M) (m_pg M)) H := hP
      have hD : va_D A (mX cI cJ cZ a (1) (lds) (m_n M) (m_sn M) (m_vn M) (m_rn M) (m_pn M) (m_nw M) (m_grp M) (m_key M) (m_srt M) (m_sd M) (m_go M) (m_seg M) (m_la M) (m_isN M) (m_drp M) (m_has M) (m_sees M) (m_isC M) (m_isG M) (m_ov M) (m_st M) (m_vo M) (m_ko M) (m_sl M) (m_sc M) (m_kp M) (m_en M) (m_pg M)) := hD
      refine lv_iconst (v := nI (0)) hx hb dX6_drop_22 (by decide) ?_
      have hPm : va_P D vwCl (mW cI cJ cZ a (1) (lds) M) H := by exact hP
      have hDm : va_D A (mW cI cJ cZ a (1) (lds) M) := by exact hD
      exact W.zret (v := nI (0)) hx hb hr rfl (fun t ht hW => ⟨⟨_, (1, lds, M), rfl, ⟨bI_ff (by rw [dropR, okx_f (by omega)]; rfl), by rw [dropM, okx_f (by omega)]; rfl⟩, gb_mk ht hW hPm hK hDm⟩, hS.F ht⟩) hS.2.2 dX6_drop_23
def rm_X6_commit : Room := { frames := 1, cells := 0, slots := 0, locals := 22 }
set_option maxHeartbeats 4000000 in
set_option maxRecDepth 100000 in
/-- the new ones come into a segment -/
theorem c_X6_commit (l : Launch) (D : va_G) (cI cJ cZ : ClassId) (a : Nat → Nat) (th : Nat) (lds : Nat → Bool) (M : MT) (hM : mOk M)  (sz : Nat) : Met l yX6_commit wsX6_commit rm_X6_commit (va_Pc [.ref (a 0)] (GW D (tyW cI cJ cZ) (mW cI cJ cZ a (th) (lds) M) sz)) (va_Qi (fun rr u => rr = commitR M ∧ u = (0, lds, commitM M)) (fun u => GB D (tyW cI cJ cZ) (va_A (mW cI cJ cZ a (th) (lds) M) sz) (mWu cI cJ cZ a u)) (va_A (mW cI cJ cZ a (th) (lds) M) sz)) 0 0 (va_A (mW cI cJ cZ a (th) (lds) M) sz) := by
  obtain ⟨hn, hsn, hvn, hrn, hpn, hnw, h_seg, h_la, h_st, h_vo, h_ko, h_sl, h_sc, h_kp, h_en, h_pg, hvo, hko, hsl, hsc⟩ := id hM
  refine Met.ofW (cc := cX6_commit) (maxL := 3) (ret := (some .int)) (by decide) rfl ?_
  intro p e s m args below meth c s₁ B hml hv
  obtain ⟨rfl, hsz, hP, hK, hD0⟩ := hv
  have hx := B.exec
  have hb := B.bytes
  have hr := B.returns
  have hts := atoms_spec (ws := wsX6_commit) B.pre
  have hown : s.vm.findClass RX6 = some m.cls := findClass_of_methodNamed B.named
  have hlocks := B.notSynchronized
  subst hsz
  have hD := hD0.self (sz := s.heap.size)
  generalize hAe : va_A (mW cI cJ cZ a (th) (lds) M) s.heap.size = A at hD ⊢
  have hA : ∀ q : Nat, s.heap.size ≤ q → A q := fun q h => by rw [← hAe]; exact Or.inr h
  have hS : va_S A s.heap s.heap [] := va_S.rf
  have hP : va_P D vwCl (mX cI cJ cZ a (th) (lds) (m_n M) (m_sn M) (m_vn M) (m_rn M) (m_pn M) (m_nw M) (m_grp M) (m_key M) (m_srt M) (m_sd M) (m_go M) (m_seg M) (m_la M) (m_isN M) (m_drp M) (m_has M) (m_sees M) (m_isC M) (m_isG M) (m_ov M) (m_st M) (m_vo M) (m_ko M) (m_sl M) (m_sc M) (m_kp M) (m_en M) (m_pg M)) s.heap := hP
  have hD : va_D A (mX cI cJ cZ a (th) (lds) (m_n M) (m_sn M) (m_vn M) (m_rn M) (m_pn M) (m_nw M) (m_grp M) (m_key M) (m_srt M) (m_sd M) (m_go M) (m_seg M) (m_la M) (m_isN M) (m_drp M) (m_has M) (m_sees M) (m_isC M) (m_isG M) (m_ov M) (m_st M) (m_vo M) (m_ko M) (m_sl M) (m_sc M) (m_kp M) (m_en M) (m_pg M)) := hD
  have hiX6 : ∀ w ∈ wsX60, w ∈ wsX6_commit := by decide +kernel
  have hf0 := hts (.fieldLink RX6 81 "GroupCursorsModel" "thrown" "I") (by decide +kernel)
  have hf1 := hts (.fieldLink RX6 97 "GroupCursorsModel" "objects" "I") (by decide +kernel)
  have hf2 := hts (.fieldLink RX6 121 "GroupCursorsModel" "segments" "I") (by decide +kernel)
  have hf3 := hts (.fieldLink RX6 23 "GroupCursorsModel" "isNew" "[Z") (by decide +kernel)
  have hf4 := hts (.fieldLink RX6 19 "GroupCursorsModel" "segment" "[I") (by decide +kernel)
  have hf5 := hts (.fieldLink RX6 27 "GroupCursorsModel" "isDropped" "[Z") (by decide +kernel)
  have hl := lv_entry ([.ref (a 0)]) (n := 3) (Nat.le_of_ble_eq_true rfl)
  rw [lg_entry_eq]
  generalize (lg_sl ([.ref (a 0)]) ++ List.replicate (3 - (lg_sl ([.ref (a 0)])).length) Slot.unset).toArray = ls at hl ⊢
  have hl : lv_has ls 3 [(0, .ref (a 0))] := hl
  refine lv_aload_n hx hb dX6_commit_0 rfl (lv_at hl 0 rfl) ?_
  refine lv_iconst (v := nI (0)) hx hb dX6_commit_1 (by decide) ?_
  refine va_put (ci := 6) (v := .int (nI (0))) (ty := .int) (C := RX6) (T := TX6) (N := 30) hx hb hts hiX6 tyX6 tyX6_ok nmX6 hown hK hP hD hS 0 rfl rfl 0 (by decide) hf0 (fun _ h9 => h9) rfl (by decide +kernel) rfl rfl (Nat.le_of_ble_eq_true rfl) dX6_commit_2 (fun H locs hP hD hS => ?_)
  have hP : va_P D vwCl (mX cI cJ cZ a (0) (lds) (m_n M) (m_sn M) (m_vn M) (m_rn M) (m_pn M) (m_nw M) (m_grp M) (m_key M) (m_srt M) (m_sd M) (m_go M) (m_seg M) (m_la M) (m_isN M) (m_drp M) (m_has M) (m_sees M) (m_isC M) (m_isG M) (m_ov M) (m_st M) (m_vo M) (m_ko M) (m_sl M) (m_sc M) (m_kp M) (m_en M) (m_pg M)) H := hP
  have hD : va_D A (mX cI cJ cZ a (0) (lds) (m_n M) (m_sn M) (m_vn M) (m_rn M) (m_pn M) (m_nw M) (m_grp M) (m_key M) (m_srt M) (m_sd M) (m_go M) (m_seg M) (m_la M) (m_isN M) (m_drp M) (m_has M) (m_sees M) (m_isC M) (m_isG M) (m_ov M) (m_st M) (m_vo M) (m_ko M) (m_sl M) (m_sc M) (m_kp M) (m_en M) (m_pg M)) := hD
  refine lv_aload_n hx hb dX6_commit_5 rfl (lv_at hl 0 rfl) ?_
  have hPm : va_P D vwCl (mW cI cJ cZ a (0) (lds) M) H := by exact hP
  refine wc_Vi (As := []) (rest := []) ⟨hx, hb, hml, hown, hts⟩ (c_X6_newOnes l D cI cJ cZ a (0) (lds) M hM) (cwV 0 hts gX6_commit_X6_newOnes rfl rfl rfl (by decide +kernel) ⟨Nat.le_of_ble_eq_true rfl, Nat.le_of_ble_eq_true rfl⟩) hPm hK 0 rfl rfl rfl hl.1 rfl (Nat.le_of_ble_eq_true rfl) dX6_commit_6 ⟨Nat.zero_le _, Nat.zero_le _⟩ (fun rr hq1 => ?_)
  have hq1 : rr = nI (newOnes M) := hq1
  subst hq1
  have hle2 : newOnes M ≤ 300 := Nat.le_trans (cnt_le _ _) hn
  refine lv_istore_n (lv' := [(1, .int (nI (newOnes M))), (0, .ref (a 0))]) hx hb dX6_commit_9 rfl hl (by decide) rfl (fun ls hl => ?_)
  refine lv_iload_n hx hb dX6_commit_10 rfl (lv_at hl 0 rfl) ?_
  refine wn_if_le (a := newOnes M) (tgt := 26) hx hb (nI_z (by omega)) dX6_commit_11 (by decide) (fun c11_3 => ?_) (fun c11_3 => ?_)
  · refine lv_iconst (v := nI (0)) hx hb dX6_commit_26 (by decide) ?_
    refine lv_istore_n (lv' := [(2, .int (nI (0))), (1, .int (nI (newOnes M))), (0, .ref (a 0))]) hx hb dX6_commit_27 rfl hl (by decide) rfl (fun ls hl => ?_)
    have hlp28 : ∀ (d : Nat) (i : Nat) (H : Heap) (locs : List Loc), m_n M - i < d → (i ≤ m_n M) → va_P D vwCl (mX cI cJ cZ a (0) (lds) (m_n M) (m_sn M) (m_vn M) (m_rn M) (m_pn M) (m_nw M) (m_grp M) (m_key M) (m_srt M) (m_sd M) (m_go M) (cmS M i) (m_la M) (cmN M i) (m_drp M) (m_has M) (m_sees M) (m_isC M) (m_isG M) (m_ov M) (m_st M) (m_vo M) (m_ko M) (m_sl M) (m_sc M) (m_kp M) (m_en M) (m_pg M)) H → va_D A (mX cI cJ cZ a (0) (lds) (m_n M) (m_sn M) (m_vn M) (m_rn M) (m_pn M) (m_nw M) (m_grp M) (m_key M) (m_srt M) (m_sd M) (m_go M) (cmS M i) (m_la M) (cmN M i) (m_drp M) (m_has M) (m_sees M) (m_isC M) (m_isG M) (m_ov M) (m_st M) (m_vo M) (m_ko M) (m_sl M) (m_sc M) (m_kp M) (m_en M) (m_pg M)) → va_S A s.heap H locs → ∀ (ls : Array Slot), lv_has ls 3 [(0, .ref (a 0)), (1, .int (nI (newOnes M))), (2, .int (nI (i)))] → W p l e (headSpec wsX6_commit rm_X6_commit).room s m ([.ref (a 0)] : List Value).toArray below meth c H locs (0) (0) (MQ below (va_Qi (fun rr u => rr = commitR M ∧ u = (0, lds, commitM M)) (fun u => GB D (tyW cI cJ cZ) A (mWu cI cJ cZ a u)) A) ([.ref (a 0)] : List Value).toArray s 0 0 A) (F0 m 28 ls []) := by
      intro d
      induction d with
      | zero => intro i H locs hd28; exact absurd hd28 (Nat.not_lt_zero _)
      | succ d ih =>
        intro i H locs hd28 hik hP hD hS ls hl
        refine lv_iload_n hx hb dX6_commit_28 rfl (lv_at hl 2 rfl) ?_
        refine lv_aload_n hx hb dX6_commit_29 rfl (lv_at hl 0 rfl) ?_
        refine va_get (ci := 6) (v := .int (nI (m_n M))) (C := RX6) (T := TX6) (N := 30) hx hb hts hiX6 hown hK hP 0 rfl rfl 1 (by decide) hf1 (fun _ h9 => h9) rfl dX6_commit_30 ?_
        refine wn_icmp_ge (a := i) (b := m_n M) (tgt := 81) hx hb (nI_z (by omega)) (nI_z (by omega)) dX6_commit_33 (by decide) (fun c33_4 => ?_) (fun c33_4 => ?_)
        · refine lv_aload_n hx hb dX6_commit_81 rfl (lv_at hl 0 rfl) ?_
          refine lv_dup hx hb dX6_commit_82 rfl ?_
          refine va_get (ci := 6) (v := .int (nI (m_sn M))) (C := RX6) (T := TX6) (N := 30) hx hb hts hiX6 hown hK hP 0 rfl rfl 8 (by decide) hf2 (fun _ h9 => h9) rfl dX6_commit_83 ?_
          refine lv_iload_n hx hb dX6_commit_86 rfl (lv_at hl 1 rfl) ?_
          refine wn_if_le (a := newOnes M) (tgt := 94) hx hb (nI_z (by omega)) dX6_commit_87 (by decide) (fun c87_5 => ?_) (fun c87_5 => ?_)
          · refine lv_iconst (v := nI (0)) hx hb dX6_commit_94 (by decide) ?_
            refine lv_iadd hx hb dX6_commit_95 (ww_top (y := nI (m_sn M + 0)) (nI_addn _ _) ?_)
            refine va_put (ci := 6) (v := .int (nI (m_sn M + 0))) (ty := .int) (C := RX6) (T := TX6) (N := 30) hx hb hts hiX6 tyX6 tyX6_ok nmX6 hown hK hP hD hS 0 rfl rfl 8 (by decide) hf2 (fun _ h9 => h9) rfl (by decide +kernel) rfl rfl (Nat.le_of_ble_eq_true rfl) dX6_commit_96 (fun H locs hP hD hS => ?_)
            have hP : va_P D vwCl (mX cI cJ cZ a (0) (lds) (m_n M) (m_sn M + 0) (m_vn M) (m_rn M) (m_pn M) (m_nw M) (m_grp M) (m_key M) (m_srt M) (m_sd M) (m_go M) (cmS M i) (m_la M) (cmN M i) (m_drp M) (m_has M) (m_sees M) (m_isC M) (m_isG M) (m_ov M) (m_st M) (m_vo M) (m_ko M) (m_sl M) (m_sc M) (m_kp M) (m_en M) (m_pg M)) H := hP
            have hD : va_D A (mX cI cJ cZ a (0) (lds) (m_n M) (m_sn M + 0) (m_vn M) (m_rn M) (m_pn M) (m_nw M) (m_grp M) (m_key M) (m_srt M) (m_sd M) (m_go M) (cmS M i) (m_la M) (cmN M i) (m_drp M) (m_has M) (m_sees M) (m_isC M) (m_isG M) (m_ov M) (m_st M) (m_vo M) (m_ko M) (m_sl M) (m_sc M) (m_kp M) (m_en M) (m_pg M)) := hD
            refine lv_iload_n hx hb dX6_commit_99 rfl (lv_at hl 1 rfl) ?_
            have hPm : va_P D vwCl (mW cI cJ cZ a (0) (lds) (mkM (m_n M) (m_sn M + 0) (m_vn M) (m_rn M) (m_pn M) (m_nw M) (m_grp M) (m_key M) (m_srt M) (m_sd M) (m_go M) (cmS M i) (m_la M) (cmN M i) (m_drp M) (m_has M) (m_sees M) (m_isC M) (m_isG M) (m_ov M) (m_st M) (m_vo M) (m_ko M) (m_sl M) (m_sc M) (m_kp M) (m_en M) (m_pg M))) H := by rw [← mX_mk]; exact hP
            have hDm : va_D A (mW cI cJ cZ a (0) (lds) (mkM (m_n M) (m_sn M + 0) (m_vn M) (m_rn M) (m_pn M) (m_nw M) (m_grp M) (m_key M) (m_srt M) (m_sd M) (m_go M) (cmS M i) (m_la M) (cmN M i) (m_drp M) (m_has M) (m_sees M) (m_isC M) (m_isG M) (m_ov M) (m_st M) (m_vo M) (m_ko M) (m_sl M) (m_sc M) (m_kp M) (m_en M) (m_pg M))) := by rw [← mX_mk]; exact hD
            exact W.iret (v := nI (newOnes M)) hx hb hr (fun t ht hW => ⟨⟨_, (0, lds, (mkM (m_n M) (m_sn M + 0) (m_vn M) (m_rn M) (m_pn M) (m_nw M) (m_grp M) (m_key M) (m_srt M) (m_sd M) (m_go M) (cmS M i) (m_la M) (cmN M i) (m_drp M) (m_has M) (m_sees M) (m_isC M) (m_isG M) (m_ov M) (m_st M) (m_vo M) (m_ko M) (m_sl M) (m_sc M) (m_kp M) (m_en M) (m_pg M))), rfl, ⟨by rw [commitR, if_neg (by omega)], by rw [commitM, if_neg (by omega), if_neg (by omega), ← (show i = m_n M by omega)]⟩, gb_mk ht hW hPm hK hDm⟩, hS.F ht⟩) hS.2.2 dX6_commit_100
          · refine lv_iconst (v := nI (1)) hx hb dX6_commit_90 (by decide) ?_
            refine lv_goto (tgt := 95) hx hb dX6_commit_91 (by decide) ?_
            refine lv_iadd hx hb dX6_commit_95 (ww_top (y := nI (m_sn M + 1)) (nI_addn _ _) ?_)
            refine va_put (ci := 6) (v := .int (nI (m_sn M + 1))) (ty := .int) (C := RX6) (T := TX6) (N := 30) hx hb hts hiX6 tyX6 tyX6_ok nmX6 hown hK hP hD hS 0 rfl rfl 8 (by decide) hf2 (fun _ h9 => h9) rfl (by decide +kernel) rfl rfl (Nat.le_of_ble_eq_true rfl) dX6_commit_96 (fun H locs hP hD hS => ?_)
            have hP : va_P D vwCl (mX cI cJ cZ a (0) (lds) (m_n M) (m_sn M + 1) (m_vn M) (m_rn M) (m_pn M) (m_nw M) (m_grp M) (m_key M) (m_srt M) (m_sd M) (m_go M) (cmS M i) (m_la M) (cmN M i) (m_drp M) (m_has M) (m_sees M) (m_isC M) (m_isG M) (m_ov M) (m_st M) (m_vo M) (m_ko M) (m_sl M) (m_sc M) (m_kp M) (m_en M) (m_pg M)) H := hP
            have hD : va_D A (mX cI cJ cZ a (0) (lds) (m_n M) (m_sn M + 1) (m_vn M) (m_rn M) (m_pn M) (m_nw M) (m_grp M) (m_key M) (m_srt M) (m_sd M) (m_go M) (cmS M i) (m_la M) (cmN M i) (m_drp M) (m_has M) (m_sees M) (m_isC M) (m_isG M) (m_ov M) (m_st M) (m_vo M) (m_ko M) (m_sl M) (m_sc M) (m_kp M) (m_en M) (m_pg M)) := hD
            refine lv_iload_n hx hb dX6_commit_99 rfl (lv_at hl 1 rfl) ?_
            have hPm : va_P D vwCl (mW cI cJ cZ a (0) (lds) (mkM (m_n M) (m_sn M + 1) (m_vn M) (m_rn M) (m_pn M) (m_nw M) (m_grp M) (m_key M) (m_srt M) (m_sd M) (m_go M) (cmS M i) (m_la M) (cmN M i) (m_drp M) (m_has M) (m_sees M) (m_isC M) (m_isG M) (m_ov M) (m_st M) (m_vo M) (m_ko M) (m_sl M) (m_sc M) (m_kp M) (m_en M) (m_pg M))) H := by rw [← mX_mk]; exact hP
            have hDm : va_D A (mW cI cJ cZ a (0) (lds) (mkM (m_n M) (m_sn M + 1) (m_vn M) (m_rn M) (m_pn M) (m_nw M) (m_grp M) (m_key M) (m_srt M) (m_sd M) (m_go M) (cmS M i) (m_la M) (cmN M i) (m_drp M) (m_has M) (m_sees M) (m_isC M) (m_isG M) (m_ov M) (m_st M) (m_vo M) (m_ko M) (m_sl M) (m_sc M) (m_kp M) (m_en M) (m_pg M))) := by rw [← mX_mk]; exact hD
            exact W.iret (v := nI (newOnes M)) hx hb hr (fun t ht hW => ⟨⟨_, (0, lds, (mkM (m_n M) (m_sn M + 1) (m_vn M) (m_rn M) (m_pn M) (m_nw M) (m_grp M) (m_key M) (m_srt M) (m_sd M) (m_go M) (cmS M i) (m_la M) (cmN M i) (m_drp M) (m_has M) (m_sees M) (m_isC M) (m_isG M) (m_ov M) (m_st M) (m_vo M) (m_ko M) (m_sl M) (m_sc M) (m_kp M) (m_en M) (m_pg M))), rfl, ⟨by rw [commitR, if_neg (by omega)], by rw [commitM, if_neg (by omega), if_pos (by omega), ← (show i = m_n M by omega)]⟩, gb_mk ht hW hPm hK hDm⟩, hS.F ht⟩) hS.2.2 dX6_commit_100
        · refine lv_aload_n hx hb dX6_commit_36 rfl (lv_at hl 0 rfl) ?_
          refine va_get (ci := 6) (v := .ref (a 5)) (C := RX6) (T := TX6) (N := 30) hx hb hts hiX6 hown hK hP 0 rfl rfl 6 (by decide) hf3 (fun _ h9 => h9) rfl dX6_commit_37 ?_
          refine lv_iload_n hx hb dX6_commit_40 rfl (lv_at hl 2 rfl) ?_
          refine wa_z (i := i) (v := bI ((cmN M i) i)) hx hb hK hP 5 2 rfl rfl rfl (by omega) (by decide) dX6_commit_41 ?_
          refine wb_if_eq (tgt := 75) hx hb dX6_commit_42 (by decide) (fun c42_6 => ?_) (fun c42_6 => ?_)
          · refine lv_iinc (v := nI (i + 1)) (lv' := [(2, .int (nI (i + 1))), (0, .ref (a 0)), (1, .int (nI (newOnes M)))]) hx hb dX6_commit_75 hl (k := 2) rfl (nI_inc _) (by decide) rfl (fun ls hl => ?_)
            refine lv_goto (tgt := 28) hx hb dX6_commit_78 (by decide) ?_
            have e1 : cmN M i = cmN M (i + 1) := by simp only [cmN]; rw [if_neg (by rw [← cmN_at M i i (Nat.le_refl _), c42_6]; decide)]
            have e2 : cmS M i = cmS M (i + 1) := by simp only [cmS]; rw [if_neg (by rw [← cmN_at M i i (Nat.le_refl _), c42_6]; decide)]
            rw [e1, e2] at hP hD
            exact ih (i + 1) _ _ (by omega) (by omega) hP hD hS ls (lv_sub hl [1, 2, 0] rfl)
          · refine lv_aload_n hx hb dX6_commit_45 rfl (lv_at hl 0 rfl) ?_
            refine va_get (ci := 6) (v := .ref (a 5)) (C := RX6) (T := TX6) (N := 30) hx hb hts hiX6 hown hK hP 0 rfl rfl 6 (by decide) hf3 (fun _ h9 => h9) rfl dX6_commit_46 ?_
            refine lv_iload_n hx hb dX6_commit_49 rfl (lv_at hl 2 rfl) ?_
            refine lv_iconst (v := nI (0)) hx hb dX6_commit_50 (by decide) ?_
            refine wa_zst (i := i) (b := false) (f := cmN M i) hx hb hK hP hD hS 5 2 rfl rfl rfl (by omega) (by decide) dX6_commit_51 (fun H locs hP hD hS => ?_)
            have hP : va_P D vwCl (mX cI cJ cZ a (0) (lds) (m_n M) (m_sn M) (m_vn M) (m_rn M) (m_pn M) (m_nw M) (m_grp M) (m_key M) (m_srt M) (m_sd M) (m_go M) (cmS M i) (m_la M) (va_up (cmN M i) (i) (false)) (m_drp M) (m_has M) (m_sees M) (m_isC M) (m_isG M) (m_ov M) (m_st M) (m_vo M) (m_ko M) (m_sl M) (m_sc M) (m_kp M) (m_en M) (m_pg M)) H := hP
            have hD : va_D A (mX cI cJ cZ a (0) (lds) (m_n M) (m_sn M) (m_vn M) (m_rn M) (m_pn M) (m_nw M) (m_grp M) (m_key M) (m_srt M) (m_sd M) (m_go M) (cmS M i) (m_la M) (va_up (cmN M i) (i) (false)) (m_drp M) (m_has M) (m_sees M) (m_isC M) (m_isG M) (m_ov M) (m_st M) (m_vo M) (m_ko M) (m_sl M) (m_sc M) (m_kp M) (m_en M) (m_pg M)) := hD
            refine lv_aload_n hx hb dX6_commit_52 rfl (lv_at hl 0 rfl) ?_
            refine va_get (ci := 6) (v := .ref (a 4)) (C := RX6) (T := TX6) (N := 30) hx hb hts hiX6 hown hK hP 0 rfl rfl 5 (by decide) hf4 (fun _ h9 => h9) rfl dX6_commit_53 ?_
            refine lv_iload_n hx hb dX6_commit_56 rfl (lv_at hl 2 rfl) ?_
            refine lv_aload_n hx hb dX6_commit_57 rfl (lv_at hl 0 rfl) ?_
            refine va_get (ci := 6) (v := .ref (a 6)) (C := RX6) (T := TX6) (N := 30) hx hb hts hiX6 hown hK hP 0 rfl rfl 7 (by decide) hf5 (fun _ h9 => h9) rfl dX6_commit_58 ?_
            refine lv_iload_n hx hb dX6_commit_61 rfl (lv_at hl 2 rfl) ?_
            refine wa_z (i := i) (v := bI (m_drp M i)) hx hb hK hP 6 2 rfl rfl rfl (by omega) (by decide) dX6_commit_62 ?_
            refine wb_if_eq (tgt := 70) hx hb dX6_commit_63 (by decide) (fun c63_7 => ?_) (fun c63_7 => ?_)
            · refine lv_aload_n hx hb dX6_commit_70 rfl (lv_at hl 0 rfl) ?_
              refine va_get (ci := 6) (v := .int (nI (m_sn M))) (C := RX6) (T := TX6) (N := 30) hx hb hts hiX6 hown hK hP 0 rfl rfl 8 (by decide) hf2 (fun _ h9 => h9) rfl dX6_commit_71 ?_
              refine ww_top (y := zI (((m_sn M : Nat) : Int))) (zI_n _).symm ?_
              refine wa_ist (i := i) hx hb hK hP hD hS 4 0 rfl rfl (upd_zI (cmS M i) (i) (((m_sn M : Nat) : Int))) (by omega) (by decide) dX6_commit_74 (fun H locs hP hD hS => ?_)
              have hP : va_P D vwCl (mX cI cJ cZ a (0) (lds) (m_n M) (m_sn M) (m_vn M) (m_rn M) (m_pn M) (m_nw M) (m_grp M) (m_key M) (m_srt M) (m_sd M) (m_go M) (va_up (cmS M i) (i) (((m_sn M : Nat) : Int))) (m_la M) (va_up (cmN M i) (i) (false)) (m_drp M) (m_has M) (m_sees M) (m_isC M) (m_isG M) (m_ov M) (m_st M) (m_vo M) (m_ko M) (m_sl M) (m_sc M) (m_kp M) (m_en M) (m_pg M)) H := hP
              have hD : va_D A (mX cI cJ cZ a (0) (lds) (m_n M) (m_sn M) (m_vn M) (m_rn M) (m_pn M) (m_nw M) (m_grp M) (m_key M) (m_srt M) (m_sd M) (m_go M) (va_up (cmS M i) (i) (((m_sn M : Nat) : Int))) (m_la M) (va_up (cmN M i) (i) (false)) (m_drp M) (m_has M) (m_sees M) (m_isC M) (m_isG M) (m_ov M) (m_st M) (m_vo M) (m_ko M) (m_sl M) (m_sc M) (m_kp M) (m_en M) (m_pg M)) := hD
              refine lv_iinc (v := nI (i + 1)) (lv' := [(2, .int (nI (i + 1))), (0, .ref (a 0)), (1, .int (nI (newOnes M)))]) hx hb dX6_commit_75 hl (k := 2) rfl (nI_inc _) (by decide) rfl (fun ls hl => ?_)
              refine lv_goto (tgt := 28) hx hb dX6_commit_78 (by decide) ?_
              have e1 : va_up (cmN M i) (i) (false) = cmN M (i + 1) := by simp only [cmN]; rw [if_pos (by rw [← cmN_at M i i (Nat.le_refl _)]; exact c42_6)]
              have e2 : va_up (cmS M i) (i) (((m_sn M : Nat) : Int)) = cmS M (i + 1) := by simp only [cmS]; rw [if_pos (by rw [← cmN_at M i i (Nat.le_refl _)]; exact c42_6)]; simp [c63_7]
              rw [e1, e2] at hP hD
              exact ih (i + 1) _ _ (by omega) (by omega) hP hD hS ls (lv_sub hl [1, 2, 0] rfl)
            · refine lv_iconst (v := zI ((-1))) hx hb dX6_commit_66 (by decide) ?_
              refine lv_goto (tgt := 74) hx hb dX6_commit_67 (by decide) ?_
              refine wa_ist (i := i) hx hb hK hP hD hS 4 0 rfl rfl (upd_zI (cmS M i) (i) (((-1) : Int))) (by omega) (by decide) dX6_commit_74 (fun H locs hP hD hS => ?_)
              have hP : va_P D vwCl (mX cI cJ cZ a (0) (lds) (m_n M) (m_sn M) (m_vn M) (m_rn M) (m_pn M) (m_nw M) (m_grp M) (m_key M) (m_srt M) (m_sd M) (m_go M) (va_up (cmS M i) (i) (((-1) : Int))) (m_la M) (va_up (cmN M i) (i) (false)) (m_drp M) (m_has M) (m_sees M) (m_isC M) (m_isG M) (m_ov M) (m_st M) (m_vo M) (m_ko M) (m_sl M) (m_sc M) (m_kp M) (m_en M) (m_pg M)) H := hP
              have hD : va_D A (mX cI cJ cZ a (0) (lds) (m_n M) (m_sn M) (m_vn M) (m_rn M) (m_pn M) (m_nw M) (m_grp M) (m_key M) (m_srt M) (m_sd M) (m_go M) (va_up (cmS M i) (i) (((-1) : Int))) (m_la M) (va_up (cmN M i) (i) (false)) (m_drp M) (m_has M) (m_sees M) (m_isC M) (m_isG M) (m_ov M) (m_st M) (m_vo M) (m_ko M) (m_sl M) (m_sc M) (m_kp M) (m_en M) (m_pg M)) := hD
              refine lv_iinc (v := nI (i + 1)) (lv' := [(2, .int (nI (i + 1))), (0, .ref (a 0)), (1, .int (nI (newOnes M)))]) hx hb dX6_commit_75 hl (k := 2) rfl (nI_inc _) (by decide) rfl (fun ls hl => ?_)
              refine lv_goto (tgt := 28) hx hb dX6_commit_78 (by decide) ?_
              have e1 : va_up (cmN M i) (i) (false) = cmN M (i + 1) := by simp only [cmN]; rw [if_pos (by rw [← cmN_at M i i (Nat.le_refl _)]; exact c42_6)]
              have e2 : va_up (cmS M i) (i) (((-1) : Int)) = cmS M (i + 1) := by simp only [cmS]; rw [if_pos (by rw [← cmN_at M i i (Nat.le_refl _)]; exact c42_6)]; simp [c63_7]
              rw [e1, e2] at hP hD
              exact ih (i + 1) _ _ (by omega) (by omega) hP hD hS ls (lv_sub hl [1, 2, 0] rfl)
    exact hlp28 _ (0) _ _ (Nat.lt_succ_self _) (Nat.zero_le _) hP hD hS ls (lv_sub hl [2, 1, 0] rfl)
  · refine lv_aload_n hx hb dX6_commit_14 rfl (lv_at hl 1 rfl) ?_
    refine va_get (ci := 6) (v := .int (nI (m_sn M))) (C := RX6) (T := TX6) (N := 30) hx hb hts hiX6 hown hK hP 0 rfl rfl 8 (by decide) hf2 (fun _ h9 => h9) rfl dX6_commit_15 ?_
    refine lv_bipush (v := nI (40)) hx hb dX6_commit_18 (by decide) ?_
    refine wn_icmp_ne (a := m_sn M) (b := 40) (tgt := 26) hx hb (nI_z (by omega)) (nI_z (by omega)) dX6_commit_20 (by decide) (fun c20_8 => ?_) (fun c20_8 => ?_)
    · refine lv_iconst (v := nI (0)) hx hb dX6_commit_26 (by decide) ?_
      refine lv_istore_n (lv' := [(2, .int (nI (0))), (1, .int (nI (newOnes M))), (0, .ref (a 0))]) hx hb dX6_commit_27 rfl hl (by decide) rfl (fun ls hl => ?_)
      have hlp28 : ∀ (d : Nat) (i : Nat) (H : Heap) (locs : List Loc), m_n M - i < d → (i ≤ m_n M) → va_P D vwCl (mX cI cJ cZ a (0) (lds) (m_n M) (m_sn M) (m_vn M) (m_rn M) (m_pn M) (m_nw M) (m_grp M) (m_key M) (m_srt M) (m_sd M) (m_go M) (cmS M i) (m_la M) (cmN M i) (m_drp M) (m_has M) (m_sees M) (m_isC M) (m_isG M) (m_ov M) (m_st M) (m_vo M) (m_ko M) (m_sl M) (m_sc M) (m_kp M) (m_en M) (m_pg M)) H → va_D A (mX cI cJ cZ a (0) (lds) (m_n M) (m_sn M) (m_vn M) (m_rn M) (m_pn M) (m_nw M) (m_grp M) (m_key M) (m_srt M) (m_sd M) (m_go M) (cmS M i) (m_la M) (cmN M i) (m_drp M) (m_has M) (m_sees M) (m_isC M) (m_isG M) (m_ov M) (m_st M) (m_vo M) (m_ko M) (m_sl M) (m_sc M) (m_kp M) (m_en M) (m_pg M)) → va_S A s.heap H locs → ∀ (ls : Array Slot), lv_has ls 3 [(0, .ref (a 0)), (1, .int (nI (newOnes M))), (2, .int (nI (i)))] → W p l e (headSpec wsX6_commit rm_X6_commit).room s m ([.ref (a 0)] : List Value).toArray below meth c H locs (0) (0) (MQ below (va_Qi (fun rr u => rr = commitR M ∧ u = (0, lds, commitM M)) (fun u => GB D (tyW cI cJ cZ) A (mWu cI cJ cZ a u)) A) ([.ref (a 0)] : List Value).toArray s 0 0 A) (F0 m 28 ls []) := by
        intro d
        induction d with
        | zero => intro i H locs hd28; exact absurd hd28 (Nat.not_lt_zero _)
        | succ d ih =>
          intro i H locs hd28 hik hP hD hS ls hl
          refine lv_iload_n hx hb dX6_commit_28 rfl (lv_at hl 2 rfl) ?_
          refine lv_aload_n hx hb dX6_commit_29 rfl (lv_at hl 0 rfl) ?_
          refine va_get (ci := 6) (v := .int (nI (m_n M))) (C := RX6) (T := TX6) (N := 30) hx hb hts hiX6 hown hK hP 0 rfl rfl 1 (by decide) hf1 (fun _ h9 => h9) rfl dX6_commit_30 ?_
          refine wn_icmp_ge (a := i) (b := m_n M) (tgt := 81) hx hb (nI_z (by omega)) (nI_z (by omega)) dX6_commit_33 (by decide) (fun c33_9 => ?_) (fun c33_9 => ?_)
          · refine lv_aload_n hx hb dX6_commit_81 rfl (lv_at hl 0 rfl) ?_
            refine lv_dup hx hb dX6_commit_82 rfl ?_
            refine va_get (ci := 6) (v := .int (nI (m_sn M))) (C := RX6) (T := TX6) (N := 30) hx hb hts hiX6 hown hK hP 0 rfl rfl 8 (by decide) hf2 (fun _ h9 => h9) rfl dX6_commit_83 ?_
            refine lv_iload_n hx hb dX6_commit_86 rfl (lv_at hl 1 rfl) ?_
            refine wn_if_le (a := newOnes M) (tgt := 94) hx hb (nI_z (by omega)) dX6_commit_87 (by decide) (fun c87_10 => ?_) (fun c87_10 => ?_)
            · refine lv_iconst (v := nI (0)) hx hb dX6_commit_94 (by decide) ?_
              refine lv_iadd hx hb dX6_commit_95 (ww_top (y := nI (m_sn M + 0)) (nI_addn _ _) ?_)
              refine va_put (ci := 6) (v := .int (nI (m_sn M + 0))) (ty := .int) (C := RX6) (T := TX6) (N := 30) hx hb hts hiX6 tyX6 tyX6_ok nmX6 hown hK hP hD hS 0 rfl rfl 8 (by decide) hf2 (fun _ h9 => h9) rfl (by decide +kernel) rfl rfl (Nat.le_of_ble_eq_true rfl) dX6_commit_96 (fun H locs hP hD hS => ?_)
              have hP : va_P D vwCl (mX cI cJ cZ a (0) (lds) (m_n M) (m_sn M + 0) (m_vn M) (m_rn M) (m_pn M) (m_nw M) (m_grp M) (m_key M) (m_srt M) (m_sd M) (m_go M) (cmS M i) (m_la M) (cmN M i) (m_drp M) (m_has M) (m_sees M) (m_isC M) (m_isG M) (m_ov M) (m_st M) (m_vo M) (m_ko M) (m_sl M) (m_sc M) (m_kp M) (m_en M) (m_pg M)) H := hP
              have hD : va_D A (mX cI cJ cZ a (0) (lds) (m_n M) (m_sn M + 0) (m_vn M) (m_rn M) (m_pn M) (m_nw M) (m_grp M) (m_key M) (m_srt M) (m_sd M) (m_go M) (cmS M i) (m_la M) (cmN M i) (m_drp M) (m_has M) (m_sees M) (m_isC M) (m_isG M) (m_ov M) (m_st M) (m_vo M) (m_ko M) (m_sl M) (m_sc M) (m_kp M) (m_en M) (m_pg M)) := hD
              refine lv_iload_n hx hb dX6_commit_99 rfl (lv_at hl 1 rfl) ?_
              have hPm : va_P D vwCl (mW cI cJ cZ a (0) (lds) (mkM (m_n M) (m_sn M + 0) (m_vn M) (m_rn M) (m_pn M) (m_nw M) (m_grp M) (m_key M) (m_srt M) (m_sd M) (m_go M) (cmS M i) (m_la M) (cmN M i) (m_drp M) (m_has M) (m_sees M) (m_isC M) (m_isG M) (m_ov M) (m_st M) (m_vo M) (m_ko M) (m_sl M) (m_sc M) (m_kp M) (m_en M) (m_pg M))) H := by rw [← mX_mk]; exact hP
              have hDm : va_D A (mW cI cJ cZ a (0) (lds) (mkM (m_n M) (m_sn M + 0) (m_vn M) (m_rn M) (m_pn M) (m_nw M) (m_grp M) (m_key M) (m_srt M) (m_sd M) (m_go M) (cmS M i) (m_la M) (cmN M i) (m_drp M) (m_has M) (m_sees M) (m_isC M) (m_isG M) (m_ov M) (m_st M) (m_vo M) (m_ko M) (m_sl M) (m_sc M) (m_kp M) (m_en M) (m_pg M))) := by rw [← mX_mk]; exact hD
              exact W.iret (v := nI (newOnes M)) hx hb hr (fun t ht hW => ⟨⟨_, (0, lds, (mkM (m_n M) (m_sn M + 0) (m_vn M) (m_rn M) (m_pn M) (m_nw M) (m_grp M) (m_key M) (m_srt M) (m_sd M) (m_go M) (cmS M i) (m_la M) (cmN M i) (m_drp M) (m_has M) (m_sees M) (m_isC M) (m_isG M) (m_ov M) (m_st M) (m_vo M) (m_ko M) (m_sl M) (m_sc M) (m_kp M) (m_en M) (m_pg M))), rfl, ⟨by rw [commitR, if_neg (by omega)], by rw [commitM, if_neg (by omega), if_neg (by omega), ← (show i = m_n M by omega)]⟩, gb_mk ht hW hPm hK hDm⟩, hS.F ht⟩) hS.2.2 dX6_commit_100
            · refine lv_iconst (v := nI (1)) hx hb dX6_commit_90 (by decide) ?_
              refine lv_goto (tgt := 95) hx hb dX6_commit_91 (by decide) ?_
              refine lv_iadd hx hb dX6_commit_95 (ww_top (y := nI (m_sn M + 1)) (nI_addn _ _) ?_)
              refine va_put (ci := 6) (v := .int (nI (m_sn M + 1))) (ty := .int) (C := RX6) (T := TX6) (N := 30) hx hb hts hiX6 tyX6 tyX6_ok nmX6 hown hK hP hD hS 0 rfl rfl 8 (by decide) hf2 (fun _ h9 => h9) rfl (by decide +kernel) rfl rfl (Nat.le_of_ble_eq_true rfl) dX6_commit_96 (fun H locs hP hD hS => ?_)
              have hP : va_P D vwCl (mX cI cJ cZ a (0) (lds) (m_n M) (m_sn M + 1) (m_vn M) (m_rn M) (m_pn M) (m_nw M) (m_grp M) (m_key M) (m_srt M) (m_sd M) (m_go M) (cmS M i) (m_la M) (cmN M i) (m_drp M) (m_has M) (m_sees M) (m_isC M) (m_isG M) (m_ov M) (m_st M) (m_vo M) (m_ko M) (m_sl M) (m_sc M) (m_kp M) (m_en M) (m_pg M)) H := hP
              have hD : va_D A (mX cI cJ cZ a (0) (lds) (m_n M) (m_sn M + 1) (m_vn M) (m_rn M) (m_pn M) (m_nw M) (m_grp M) (m_key M) (m_srt M) (m_sd M) (m_go M) (cmS M i) (m_la M) (cmN M i) (m_drp M) (m_has M) (m_sees M) (m_isC M) (m_isG M) (m_ov M) (m_st M) (m_vo M) (m_ko M) (m_sl M) (m_sc M) (m_kp M) (m_en M) (m_pg M)) := hD
              refine lv_iload_n hx hb dX6_commit_99 rfl (lv_at hl 1 rfl) ?_
              have hPm : va_P D vwCl (mW cI cJ cZ a (0) (lds) (mkM (m_n M) (m_sn M + 1) (m_vn M) (m_rn M) (m_pn M) (m_nw M) (m_grp M) (m_key M) (m_srt M) (m_sd M) (m_go M) (cmS M i) (m_la M) (cmN M i) (m_drp M) (m_has M) (m_sees M) (m_isC M) (m_isG M) (m_ov M) (m_st M) (m_vo M) (m_ko M) (m_sl M) (m_sc M) (m_kp M) (m_en M) (m_pg M))) H := by rw [← mX_mk]; exact hP
              have hDm : va_D A (mW cI cJ cZ a (0) (lds) (mkM (m_n M) (m_sn M + 1) (m_vn M) (m_rn M) (m_pn M) (m_nw M) (m_grp M) (m_key M) (m_srt M) (m_sd M) (m_go M) (cmS M i) (m_la M) (cmN M i) (m_drp M) (m_has M) (m_sees M) (m_isC M) (m_isG M) (m_ov M) (m_st M) (m_vo M) (m_ko M) (m_sl M) (m_sc M) (m_kp M) (m_en M) (m_pg M))) := by rw [← mX_mk]; exact hD
              exact W.iret (v := nI (newOnes M)) hx hb hr (fun t ht hW => ⟨⟨_, (0, lds, (mkM (m_n M) (m_sn M + 1) (m_vn M) (m_rn M) (m_pn M) (m_nw M) (m_grp M) (m_key M) (m_srt M) (m_sd M) (m_go M) (cmS M i) (m_la M) (cmN M i) (m_drp M) (m_has M) (m_sees M) (m_isC M) (m_isG M) (m_ov M) (m_st M) (m_vo M) (m_ko M) (m_sl M) (m_sc M) (m_kp M) (m_en M) (m_pg M))), rfl, ⟨by rw [commitR, if_neg (by omega)], by rw [commitM, if_neg (by omega), if_pos (by omega), ← (show i = m_n M by omega)]⟩, gb_mk ht hW hPm hK hDm⟩, hS.F ht⟩) hS.2.2 dX6_commit_100
          · refine lv_aload_n hx hb dX6_commit_36 rfl (lv_at hl 0 rfl) ?_
            refine va_get (ci := 6) (v := .ref (a 5)) (C := RX6) (T := TX6) (N := 30) hx hb hts hiX6 hown hK hP 0 rfl rfl 6 (by decide) hf3 (fun _ h9 => h9) rfl dX6_commit_37 ?_
            refine lv_iload_n hx hb dX6_commit_40 rfl (lv_at hl 2 rfl) ?_
            refine wa_z (i := i) (v := bI ((cmN M i) i)) hx hb hK hP 5 2 rfl rfl rfl (by omega) (by decide) dX6_commit_41 ?_
            refine wb_if_eq (tgt := 75) hx hb dX6_commit_42 (by decide) (fun c42_11 => ?_) (fun c42_11 => ?_)
            · refine lv_iinc (v := nI (i + 1)) (lv' := [(2, .int (nI (i + 1))), (0, .ref (a 0)), (1, .int (nI (newOnes M)))]) hx hb dX6_commit_75 hl (k := 2) rfl (nI_inc _) (by decide) rfl (fun ls hl => ?_)
              refine lv_goto (tgt := 28) hx hb dX6_commit_78 (by decide) ?_
              have e1 : cmN M i = cmN M (i + 1) := by simp only [cmN]; rw [if_neg (by rw [← cmN_at M i i (Nat.le_refl _), c42_11]; decide)]
              have e2 : cmS M i = cmS M (i + 1) := by simp only [cmS]; rw [if_neg (by rw [← cmN_at M i i (Nat.le_refl _), c42_11]; decide)]
              rw [e1, e2] at hP hD
              exact ih (i + 1) _ _ (by omega) (by omega) hP hD hS ls (lv_sub hl [1, 2, 0] rfl)
            · refine lv_aload_n hx hb dX6_commit_45 rfl (lv_at hl 0 rfl) ?_
              refine va_get (ci := 6) (v := .ref (a 5)) (C := RX6) (T := TX6) (N := 30) hx hb hts hiX6 hown hK hP 0 rfl rfl 6 (by decide) hf3 (fun _ h9 => h9) rfl dX6_commit_46 ?_
              refine lv_iload_n hx hb dX6_commit_49 rfl (lv_at hl 2 rfl) ?_
              refine lv_iconst (v := nI (0)) hx hb dX6_commit_50 (by decide) ?_
              refine wa_zst (i := i) (b := false) (f := cmN M i) hx hb hK hP hD hS 5 2 rfl rfl rfl (by omega) (by decide) dX6_commit_51 (fun H locs hP hD hS => ?_)
              have hP : va_P D vwCl (mX cI cJ cZ a (0) (lds) (m_n M) (m_sn M) (m_vn M) (m_rn M) (m_pn M) (m_nw M) (m_grp M) (m_key M) (m_srt M) (m_sd M) (m_go M) (cmS M i) (m_la M) (va_up (cmN M i) (i) (false)) (m_drp M) (m_has M) (m_sees M) (m_isC M) (m_isG M) (m_ov M) (m_st M) (m_vo M) (m_ko M) (m_sl M) (m_sc M) (m_kp M) (m_en M) (m_pg M)) H := hP
              have hD : va_D A (mX cI cJ cZ a (0) (lds) (m_n M) (m_sn M) (m_vn M) (m_rn M) (m_pn M) (m_nw M) (m_grp M) (m_key M) (m_srt M) (m_sd M) (m_go M) (cmS M i) (m_la M) (va_up (cmN M i) (i) (false)) (m_drp M) (m_has M) (m_sees M) (m_isC M) (m_isG M) (m_ov M) (m_st M) (m_vo M) (m_ko M) (m_sl M) (m_sc M) (m_kp M) (m_en M) (m_pg M)) := hD
              refine lv_aload_n hx hb dX6_commit_52 rfl (lv_at hl 0 rfl) ?_
              refine va_get (ci := 6) (v := .ref (a 4)) (C := RX6) (T := TX6) (N := 30) hx hb hts hiX6 hown hK hP 0 rfl rfl 5 (by decide) hf4 (fun _ h9 => h9) rfl dX6_commit_53 ?_
              refine lv_iload_n hx hb dX6_commit_56 rfl (lv_at hl 2 rfl) ?_
              refine lv_aload_n hx hb dX6_commit_57 rfl (lv_at hl 0 rfl) ?_
              refine va_get (ci := 6) (v := .ref (a 6)) (C := RX6) (T := TX6) (N := 30) hx hb hts hiX6 hown hK hP 0 rfl rfl 7 (by decide) hf5 (fun _ h9 => h9) rfl dX6_commit_58 ?_
              refine lv_iload_n hx hb dX6_commit_61 rfl (lv_at hl 2 rfl) ?_
              refine wa_z (i := i) (v := bI (m_drp M i)) hx hb hK hP 6 2 rfl rfl rfl (by omega) (by decide) dX6_commit_62 ?_
              refine wb_if_eq (tgt := 70) hx hb dX6_commit_63 (by decide) (fun c63_12 => ?_) (fun c63_12 => ?_)
              · refine lv_aload_n hx hb dX6_commit_70 rfl (lv_at hl 0 rfl) ?_
                refine va_get (ci := 6) (v := .int (nI (m_sn M))) (C := RX6) (T := TX6) (N := 30) hx hb hts hiX6 hown hK hP 0 rfl rfl 8 (by decide) hf2 (fun _ h9 => h9) rfl dX6_commit_71 ?_
                refine ww_top (y := zI (((m_sn M : Nat) : Int))) (zI_n _).symm ?_
                refine wa_ist (i := i) hx hb hK hP hD hS 4 0 rfl rfl (upd_zI (cmS M i) (i) (((m_sn M : Nat) : Int))) (by omega) (by decide) dX6_commit_74 (fun H locs hP hD hS => ?_)
                have hP : va_P D vwCl (mX cI cJ cZ a (0) (lds) (m_n M) (m_sn M) (m_vn M) (m_rn M) (m_pn M) (m_nw M) (m_grp M) (m_key M) (m_srt M) (m_sd M) (m_go M) (va_up (cmS M i) (i) (((m_sn M : Nat) : Int))) (m_la M) (va_up (cmN M i) (i) (false)) (m_drp M) (m_has M) (m_sees M) (m_isC M) (m_isG M) (m_ov M) (m_st M) (m_vo M) (m_ko M) (m_sl M) (m_sc M) (m_kp M) (m_en M) (m_pg M)) H := hP
                have hD : va_D A (mX cI cJ cZ a (0) (lds) (m_n M) (m_sn M) (m_vn M) (m_rn M) (m_pn M) (m_nw M) (m_grp M) (m_key M) (m_srt M) (m_sd M) (m_go M) (va_up (cmS M i) (i) (((m_sn M : Nat) : Int))) (m_la M) (va_up (cmN M i) (i) (false)) (m_drp M) (m_has M) (m_sees M) (m_isC M) (m_isG M) (m_ov M) (m_st M) (m_vo M) (m_ko M) (m_sl M) (m_sc M) (m_kp M) (m_en M) (m_pg M)) := hD
                refine lv_iinc (v := nI (i + 1)) (lv' := [(2, .int (nI (i + 1))), (0, .ref (a 0)), (1, .int (nI (newOnes M)))]) hx hb dX6_commit_75 hl (k := 2) rfl (nI_inc _) (by decide) rfl (fun ls hl => ?_)
                refine lv_goto (tgt := 28) hx hb dX6_commit_78 (by decide) ?_
                have e1 : va_up (cmN M i) (i) (false) = cmN M (i + 1) := by simp only [cmN]; rw [if_pos (by rw [← cmN_at M i i (Nat.le_refl _)]; exact c42_11)]
                have e2 : va_up (cmS M i) (i) (((m_sn M : Nat) : Int)) = cmS M (i + 1) := by simp only [cmS]; rw [if_pos (by rw [← cmN_at M i i (Nat.le_refl _)]; exact c42_11)]; simp [c63_12]
                rw [e1, e2] at hP hD
                exact ih (i + 1) _ _ (by omega) (by omega) hP hD hS ls (lv_sub hl [1, 2, 0] rfl)
              · refine lv_iconst (v := zI ((-1))) hx hb dX6_commit_66 (by decide) ?_
                refine lv_goto (tgt := 74) hx hb dX6_commit_67 (by decide) ?_
                refine wa_ist (i := i) hx hb hK hP hD hS 4 0 rfl rfl (upd_zI (cmS M i) (i) (((-1) : Int))) (by omega) (by decide) dX6_commit_74 (fun H locs hP hD hS => ?_)
                have hP : va_P D vwCl (mX cI cJ cZ a (0) (lds) (m_n M) (m_sn M) (m_vn M) (m_rn M) (m_pn M) (m_nw M) (m_grp M) (m_key M) (m_srt M) (m_sd M) (m_go M) (va_up (cmS M i) (i) (((-1) : Int))) (m_la M) (va_up (cmN M i) (i) (false)) (m_drp M) (m_has M) (m_sees M) (m_isC M) (m_isG M) (m_ov M) (m_st M) (m_vo M) (m_ko M) (m_sl M) (m_sc M) (m_kp M) (m_en M) (m_pg M)) H := hP
                have hD : va_D A (mX cI cJ cZ a (0) (lds) (m_n M) (m_sn M) (m_vn M) (m_rn M) (m_pn M) (m_nw M) (m_grp M) (m_key M) (m_srt M) (m_sd M) (m_go M) (va_up (cmS M i) (i) (((-1) : Int))) (m_la M) (va_up (cmN M i) (i) (false)) (m_drp M) (m_has M) (m_sees M) (m_isC M) (m_isG M) (m_ov M) (m_st M) (m_vo M) (m_ko M) (m_sl M) (m_sc M) (m_kp M) (m_en M) (m_pg M)) := hD
                refine lv_iinc (v := nI (i + 1)) (lv' := [(2, .int (nI (i + 1))), (0, .ref (a 0)), (1, .int (nI (newOnes M)))]) hx hb dX6_commit_75 hl (k := 2) rfl (nI_inc _) (by decide) rfl (fun ls hl => ?_)
                refine lv_goto (tgt := 28) hx hb dX6_commit_78 (by decide) ?_
                have e1 : va_up (cmN M i) (i) (false) = cmN M (i + 1) := by simp only [cmN]; rw [if_pos (by rw [← cmN_at M i i (Nat.le_refl _)]; exact c42_11)]
                have e2 : va_up (cmS M i) (i) (((-1) : Int)) = cmS M (i + 1) := by simp only [cmS]; rw [if_pos (by rw [← cmN_at M i i (Nat.le_refl _)]; exact c42_11)]; simp [c63_12]
                rw [e1, e2] at hP hD
                exact ih (i + 1) _ _ (by omega) (by omega) hP hD hS ls (lv_sub hl [1, 2, 0] rfl)
      exact hlp28 _ (0) _ _ (Nat.lt_succ_self _) (Nat.zero_le _) hP hD hS ls (lv_sub hl [2, 1, 0] rfl)
    · refine lv_bipush (v := zI ((-4))) hx hb dX6_commit_23 (by decide) ?_
      have hPm : va_P D vwCl (mW cI cJ cZ a (0) (lds) M) H := by exact hP
      have hDm : va_D A (mW cI cJ cZ a (0) (lds) M) := by exact hD
      exact W.iret (v := zI ((-4))) hx hb hr (fun t ht hW => ⟨⟨_, (0, lds, M), rfl, ⟨by rw [commitR, if_pos ⟨by omega, by omega⟩], by rw [commitM, if_pos ⟨by omega, by omega⟩]⟩, gb_mk ht hW hPm hK hDm⟩, hS.F ht⟩) hS.2.2 dX6_commit_25
