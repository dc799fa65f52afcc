def rm_X6_best : Room := { frames := 5, cells := 0, slots := 0, locals := 127 }
set_option maxHeartbeats 4000000 in
set_option maxRecDepth 100000 in
/-- object j of group k -/
theorem c_X6_best (l : Launch) (D : va_G) (cI cJ cZ : ClassId) (a : Nat → Nat) (th : Nat) (lds : Nat → Bool) (M : MT) (hM : mOk M) (x y : Int32) (sd : Int64) (z w : Int32) (hld : againstM M x y z = 0 → 0 ≤ leaderM M (ix x) (ix y) sd (ix z)) (bst : againstM M x y z = 0 → w.toInt < ((countIn M (ix x) (m_grp M (leaderM M (ix x) (ix y) sd (ix z)).toNat) : Nat) : Int) → ∀ i, i ≤ ix w → 0 ≤ bstI M (ix x) (ix y) sd (leaderM M (ix x) (ix y) sd (ix z)) i) (sz : Nat) : Met l yX6_best wsX6_best rm_X6_best (va_Pc [.ref (a 0), .int (x), .int (y), .long (sd), .int (z), .int (w)] (GW D (tyW cI cJ cZ) (mW cI cJ cZ a (th) (lds) M) sz)) (va_Qi (fun rr u => rr = bestR M x y sd z w ∧ u.1 = bestT M x y sd z w ∧ u.2.2 = M) (fun u => GB D (tyW cI cJ cZ) (va_A (mW cI cJ cZ a (th) (lds) M) sz) (mWu cI cJ cZ a u)) (va_A (mW cI cJ cZ a (th) (lds) M) sz)) 0 0 (va_A (mW cI cJ cZ a (th) (lds) M) sz) := by
  obtain ⟨hn, hsn, hvn, hrn, hpn, hnw, h_seg, h_la, h_st, h_vo, h_ko, h_sl, h_sc, h_kp, h_en, h_pg, hvo, hko, hsl, hsc⟩ := id hM
  have hixx := ix_c x
  have hixy := ix_c y
  have hixz := ix_c z
  have hixw := ix_c w
  refine Met.ofW (cc := cX6_best) (maxL := 9) (ret := (some .int)) (by decide) rfl ?_
  intro p e s m args below meth c s₁ B hml hv
  obtain ⟨rfl, hsz, hP, hK, hD0⟩ := hv
  have hx := B.exec
  have hb := B.bytes
  have hr := B.returns
  have hts := atoms_spec (ws := wsX6_best) B.pre
  have hown : s.vm.findClass RX6 = some m.cls := findClass_of_methodNamed B.named
  have hlocks := B.notSynchronized
  subst hsz
  have hD := hD0.self (sz := s.heap.size)
  generalize hAe : va_A (mW cI cJ cZ a (th) (lds) M) s.heap.size = A at hD ⊢
  have hA : ∀ q : Nat, s.heap.size ≤ q → A q := fun q h => by rw [← hAe]; exact Or.inr h
  have hS : va_S A s.heap s.heap [] := va_S.rf
  have hP : va_P D vwCl (mX cI cJ cZ a (th) (lds) (m_n M) (m_sn M) (m_vn M) (m_rn M) (m_pn M) (m_nw M) (m_grp M) (m_key M) (m_srt M) (m_sd M) (m_go M) (m_seg M) (m_la M) (m_isN M) (m_drp M) (m_has M) (m_sees M) (m_isC M) (m_isG M) (m_ov M) (m_st M) (m_vo M) (m_ko M) (m_sl M) (m_sc M) (m_kp M) (m_en M) (m_pg M)) s.heap := hP
  have hD : va_D A (mX cI cJ cZ a (th) (lds) (m_n M) (m_sn M) (m_vn M) (m_rn M) (m_pn M) (m_nw M) (m_grp M) (m_key M) (m_srt M) (m_sd M) (m_go M) (m_seg M) (m_la M) (m_isN M) (m_drp M) (m_has M) (m_sees M) (m_isC M) (m_isG M) (m_ov M) (m_st M) (m_vo M) (m_ko M) (m_sl M) (m_sc M) (m_kp M) (m_en M) (m_pg M)) := hD
  have hiX6 : ∀ w ∈ wsX60, w ∈ wsX6_best := by decide +kernel
  have hf0 := hts (.fieldLink RX6 81 "GroupCursorsModel" "thrown" "I") (by decide +kernel)
  have hf1 := hts (.fieldLink RX6 7 "GroupCursorsModel" "group" "[J") (by decide +kernel)
  have hl := lv_entry ([.ref (a 0), .int (x), .int (y), .long (sd), .int (z), .int (w)]) (n := 9) (Nat.le_of_ble_eq_true rfl)
  rw [lg_entry_eq]
  generalize (lg_sl ([.ref (a 0), .int (x), .int (y), .long (sd), .int (z), .int (w)]) ++ List.replicate (9 - (lg_sl ([.ref (a 0), .int (x), .int (y), .long (sd), .int (z), .int (w)])).length) Slot.unset).toArray = ls at hl ⊢
  have hl : lv_has ls 9 [(0, .ref (a 0)), (1, .int (x)), (2, .int (y)), (3, .long (sd)), (5, .int (z)), (6, .int (w))] := hl
  refine lv_aload_n hx hb dX6_best_0 rfl (lv_at hl 0 rfl) ?_
  refine lv_aload_n hx hb dX6_best_1 rfl (lv_at hl 0 rfl) ?_
  refine lv_iload_n hx hb dX6_best_2 rfl (lv_at hl 1 rfl) ?_
  refine lv_iload_n hx hb dX6_best_3 rfl (lv_at hl 2 rfl) ?_
  refine lv_iload hx hb dX6_best_4 (lv_at hl 4 rfl) ?_
  have hPm : va_P D vwCl (mW cI cJ cZ a (th) (lds) M) s.heap := by exact hP
  refine wc_Vi (As := [.int (x), .int (y), .int (z)]) (rest := [.ref (a 0)]) ⟨hx, hb, hml, hown, hts⟩ (c_X6_against l D cI cJ cZ a (th) (lds) M hM (x) (y) (z)) (cwV 3 hts gX6_best_X6_against rfl rfl rfl (by decide +kernel) ⟨Nat.le_of_ble_eq_true rfl, Nat.le_of_ble_eq_true rfl⟩) hPm hK 0 rfl rfl rfl hl.1 rfl (Nat.le_of_ble_eq_true rfl) dX6_best_6 ⟨Nat.zero_le _, Nat.zero_le _⟩ (fun rr hq1 => ?_)
  have hq1 : rr = nI (againstM M (x) (y) (z)) := hq1
  subst hq1
  have hal2 := against_le M (x) (y) (z)
  refine va_put (ci := 6) (v := .int (nI (againstM M (x) (y) (z)))) (ty := .int) (C := RX6) (T := TX6) (N := 30) hx hb hts hiX6 tyX6 tyX6_ok nmX6 hown hK hP hD hS 0 rfl rfl 0 (by decide) hf0 (fun _ h9 => h9) rfl (by decide +kernel) rfl rfl (Nat.le_of_ble_eq_true rfl) dX6_best_9 (fun H locs hP hD hS => ?_)
  have hP : va_P D vwCl (mX cI cJ cZ a (againstM M (x) (y) (z)) (lds) (m_n M) (m_sn M) (m_vn M) (m_rn M) (m_pn M) (m_nw M) (m_grp M) (m_key M) (m_srt M) (m_sd M) (m_go M) (m_seg M) (m_la M) (m_isN M) (m_drp M) (m_has M) (m_sees M) (m_isC M) (m_isG M) (m_ov M) (m_st M) (m_vo M) (m_ko M) (m_sl M) (m_sc M) (m_kp M) (m_en M) (m_pg M)) H := hP
  have hD : va_D A (mX cI cJ cZ a (againstM M (x) (y) (z)) (lds) (m_n M) (m_sn M) (m_vn M) (m_rn M) (m_pn M) (m_nw M) (m_grp M) (m_key M) (m_srt M) (m_sd M) (m_go M) (m_seg M) (m_la M) (m_isN M) (m_drp M) (m_has M) (m_sees M) (m_isC M) (m_isG M) (m_ov M) (m_st M) (m_vo M) (m_ko M) (m_sl M) (m_sc M) (m_kp M) (m_en M) (m_pg M)) := hD
  refine lv_aload_n hx hb dX6_best_12 rfl (lv_at hl 0 rfl) ?_
  refine va_get (ci := 6) (v := .int (nI (againstM M (x) (y) (z)))) (C := RX6) (T := TX6) (N := 30) hx hb hts hiX6 hown hK hP 0 rfl rfl 0 (by decide) hf0 (fun _ h9 => h9) rfl dX6_best_13 ?_
  refine wn_if_le (a := againstM M (x) (y) (z)) (tgt := 21) hx hb (nI_z (by omega)) dX6_best_16 (by decide) (fun c16_3 => ?_) (fun c16_3 => ?_)
  · have hag := against_0 (M := M) (x := x) (y := y) (z := z) (by omega)
    have hld0 := hld (by omega)
    have hgc : groupCount M (ix x) ≤ 300 := Nat.le_trans (cnt_le _ _) hn
    refine lv_aload_n hx hb dX6_best_21 rfl (lv_at hl 0 rfl) ?_
    refine lv_iload_n hx hb dX6_best_22 rfl (lv_at hl 1 rfl) ?_
    refine ww_top (y := nI (ix x)) (ix_n (by omega)) ?_
    refine lv_iload_n hx hb dX6_best_23 rfl (lv_at hl 2 rfl) ?_
    refine ww_top (y := nI (ix y)) (ix_n (by omega)) ?_
    refine lv_lload_n hx hb dX6_best_24 rfl (lv_at hl 3 rfl) ?_
    refine lv_iload hx hb dX6_best_25 (lv_at hl 4 rfl) ?_
    refine ww_top (y := nI (ix z)) (ix_n (by omega)) ?_
    have hPm : va_P D vwCl (mW cI cJ cZ a (againstM M (x) (y) (z)) (lds) M) H := by exact hP
    have hDm : va_D A (mW cI cJ cZ a (againstM M (x) (y) (z)) (lds) M) := by exact hD
    refine wc_VWi (As := [.int (nI (ix x)), .int (nI (ix y)), .long (sd), .int (nI (ix z))]) (rest := []) (wf := mWu cI cJ cZ a) ⟨hx, hb, hml, hown, hts⟩ (c_X6_leader l D cI cJ cZ a (againstM M (x) (y) (z)) (lds) M hM (ix x) (ix y) (sd) (ix z) (by omega) (by omega) (by omega) H.size) (cwV 4 hts gX6_best_X6_leader rfl rfl rfl (by decide +kernel) ⟨Nat.le_of_ble_eq_true rfl, Nat.le_of_ble_eq_true rfl⟩) hPm hK hDm hS hA 0 rfl rfl rfl hl.1 rfl (Nat.le_of_ble_eq_true rfl) dX6_best_27 ⟨Nat.zero_le _, Nat.zero_le _⟩ (fun rr u4 hq4 H locs hP hD hS => ?_)
    obtain ⟨hr4, hu4a, hu4c⟩ := hq4
    subst hr4
    obtain ⟨u41, u42, u43⟩ := u4
    dsimp only at hu4a hu4c
    have hu4a := hu4a.symm
    have hu4c := hu4c.symm
    subst hu4a
    subst hu4c
    have hlm4 := leaderM_lt M (ix x) (ix y) (sd) (ix z)
    have hP : va_P D vwCl (mX cI cJ cZ a (againstM M (x) (y) (z)) (u42) (m_n M) (m_sn M) (m_vn M) (m_rn M) (m_pn M) (m_nw M) (m_grp M) (m_key M) (m_srt M) (m_sd M) (m_go M) (m_seg M) (m_la M) (m_isN M) (m_drp M) (m_has M) (m_sees M) (m_isC M) (m_isG M) (m_ov M) (m_st M) (m_vo M) (m_ko M) (m_sl M) (m_sc M) (m_kp M) (m_en M) (m_pg M)) H := hP
    have hD : va_D A (mX cI cJ cZ a (againstM M (x) (y) (z)) (u42) (m_n M) (m_sn M) (m_vn M) (m_rn M) (m_pn M) (m_nw M) (m_grp M) (m_key M) (m_srt M) (m_sd M) (m_go M) (m_seg M) (m_la M) (m_isN M) (m_drp M) (m_has M) (m_sees M) (m_isC M) (m_isG M) (m_ov M) (m_st M) (m_vo M) (m_ko M) (m_sl M) (m_sc M) (m_kp M) (m_en M) (m_pg M)) := hD
    refine lv_istore (lv' := [(7, .int (zI (leaderM M (ix x) (ix y) (sd) (ix z)))), (0, .ref (a 0)), (1, .int (x)), (2, .int (y)), (3, .long (sd)), (5, .int (z)), (6, .int (w))]) hx hb dX6_best_30 hl (by decide) rfl (fun ls hl => ?_)
    refine lv_iload hx hb dX6_best_32 (lv_at hl 6 rfl) ?_
    refine wz_if_lt (tgt := 54) hx hb ((w).toInt) rfl dX6_best_34 (by decide) (fun c34_5 => ?_) (fun c34_5 => ?_)
    · refine lv_aload_n hx hb dX6_best_54 rfl (lv_at hl 1 rfl) ?_
      refine lv_iconst (v := nI (1)) hx hb dX6_best_55 (by decide) ?_
      have hPm : va_P D vwCl (mW cI cJ cZ a (againstM M (x) (y) (z)) (u42) M) H := by exact hP
      have hDm : va_D A (mW cI cJ cZ a (againstM M (x) (y) (z)) (u42) M) := by exact hD
      refine wc_VWi (As := [.int (nI (1))]) (rest := []) (wf := mWu cI cJ cZ a) ⟨hx, hb, hml, hown, hts⟩ (c_X6_fails l D cI cJ cZ a (againstM M (x) (y) (z)) (u42) M hM (1) (by omega) H.size) (cwV 1 hts gX6_best_X6_fails rfl rfl rfl (by decide +kernel) ⟨Nat.le_of_ble_eq_true rfl, Nat.le_of_ble_eq_true rfl⟩) hPm hK hDm hS hA 0 rfl rfl rfl hl.1 rfl (Nat.le_of_ble_eq_true rfl) dX6_best_56 ⟨Nat.zero_le _, Nat.zero_le _⟩ (fun rr u6 hq6 H locs hP hD hS => ?_)
      obtain ⟨hr6, hu6⟩ := hq6
      subst hr6
      subst hu6
      have hP : va_P D vwCl (mX cI cJ cZ a (1) (u42) (m_n M) (m_sn M) (m_vn M) (m_rn M) (m_pn M) (m_nw M) (m_grp M) (m_key M) (m_srt M) (m_sd M) (m_go M) (m_seg M) (m_la M) (m_isN M) (m_drp M) (m_has M) (m_sees M) (m_isC M) (m_isG M) (m_ov M) (m_st M) (m_vo M) (m_ko M) (m_sl M) (m_sc M) (m_kp M) (m_en M) (m_pg M)) H := hP
      have hD : va_D A (mX cI cJ cZ a (1) (u42) (m_n M) (m_sn M) (m_vn M) (m_rn M) (m_pn M) (m_nw M) (m_grp M) (m_key M) (m_srt M) (m_sd M) (m_go M) (m_seg M) (m_la M) (m_isN M) (m_drp M) (m_has M) (m_sees M) (m_isC M) (m_isG M) (m_ov M) (m_st M) (m_vo M) (m_ko M) (m_sl M) (m_sc M) (m_kp M) (m_en M) (m_pg M)) := hD
      have hPm : va_P D vwCl (mW cI cJ cZ a (1) (u42) M) H := by exact hP
      have hDm : va_D A (mW cI cJ cZ a (1) (u42) M) := by exact hD
      exact W.iret (v := nI (0)) hx hb hr (fun t ht hW => ⟨⟨_, (1, u42, M), rfl, ⟨(by simp only [bestR]; (repeat' split) <;> first | rfl | (exfalso; omega)), (by simp only [bestT]; (repeat' split) <;> first | rfl | (exfalso; omega)), rfl⟩, gb_mk ht hW hPm hK hDm⟩, hS.F ht⟩) hS.2.2 dX6_best_59
    · refine lv_iload hx hb dX6_best_37 (lv_at hl 6 rfl) ?_
      refine lv_aload_n hx hb dX6_best_39 rfl (lv_at hl 1 rfl) ?_
      refine lv_iload_n hx hb dX6_best_40 rfl (lv_at hl 2 rfl) ?_
      refine ww_top (y := nI (ix x)) (ix_n (by omega)) ?_
      refine lv_aload_n hx hb dX6_best_41 rfl (lv_at hl 1 rfl) ?_
      refine va_get (ci := 6) (v := .ref (a 1)) (C := RX6) (T := TX6) (N := 30) hx hb hts hiX6 hown hK hP 0 rfl rfl 2 (by decide) hf1 (fun _ h9 => h9) rfl dX6_best_42 ?_
      refine lv_iload hx hb dX6_best_45 (lv_at hl 0 rfl) ?_
      refine ww_top (y := nI ((leaderM M (ix x) (ix y) (sd) (ix z)).toNat)) (zI_toNat (by omega)) ?_
      refine wa_l (i := (leaderM M (ix x) (ix y) (sd) (ix z)).toNat) (v := m_grp M ((leaderM M (ix x) (ix y) (sd) (ix z)).toNat)) hx hb hK hP 1 1 rfl rfl rfl (by omega) (by decide) dX6_best_47 ?_
      have hPm : va_P D vwCl (mW cI cJ cZ a (againstM M (x) (y) (z)) (u42) M) H := by exact hP
      refine wc_Vi (As := [.int (nI (ix x)), .long (m_grp M ((leaderM M (ix x) (ix y) (sd) (ix z)).toNat))]) (rest := [.int (w)]) ⟨hx, hb, hml, hown, hts⟩ (c_X6_countIn l D cI cJ cZ a (againstM M (x) (y) (z)) (u42) M hM (ix x) (m_grp M ((leaderM M (ix x) (ix y) (sd) (ix z)).toNat)) (by omega)) (cwV 2 hts gX6_best_X6_countIn rfl rfl rfl (by decide +kernel) ⟨Nat.le_of_ble_eq_true rfl, Nat.le_of_ble_eq_true rfl⟩) hPm hK 0 rfl rfl rfl hl.1 rfl (Nat.le_of_ble_eq_true rfl) dX6_best_48 ⟨Nat.zero_le _, Nat.zero_le _⟩ (fun rr hq7 => ?_)
      have hq7 : rr = nI (countIn M (ix x) (m_grp M ((leaderM M (ix x) (ix y) (sd) (ix z)).toNat))) := hq7
      subst hq7
      have hle8 : countIn M (ix x) (m_grp M ((leaderM M (ix x) (ix y) (sd) (ix z)).toNat)) ≤ 300 := Nat.le_trans (cnt_le _ _) hn
      refine wz_icmp_lt (tgt := 60) hx hb ((w).toInt) (((countIn M (ix x) (m_grp M ((leaderM M (ix x) (ix y) (sd) (ix z)).toNat)) : Nat) : Int)) rfl (nI_z (by omega)) dX6_best_51 (by decide) (fun c51_9 => ?_) (fun c51_9 => ?_)
      · have hbst := bst (by omega) (by omega)
        refine lv_iconst (v := nI (0)) hx hb dX6_best_60 (by decide) ?_
        refine lv_istore (lv' := [(8, .int (nI (0))), (7, .int (zI (leaderM M (ix x) (ix y) (sd) (ix z)))), (0, .ref (a 0)), (1, .int (x)), (2, .int (y)), (3, .long (sd)), (5, .int (z)), (6, .int (w))]) hx hb dX6_best_61 hl (by decide) rfl (fun ls hl => ?_)
        have hlp63 : ∀ (d : Nat) (i : Nat) (ob : Int), ix w - i < d → (i ≤ ix w) → (ob = bstI M (ix x) (ix y) sd (leaderM M (ix x) (ix y) (sd) (ix z)) i) → ∀ (ls : Array Slot), lv_has ls 9 [(0, .ref (a 0)), (1, .int (x)), (2, .int (y)), (3, .long (sd)), (5, .int (z)), (6, .int (w)), (7, .int (zI (ob))), (8, .int (nI (i)))] → W p l e (headSpec wsX6_best rm_X6_best).room s m ([.ref (a 0), .int (x), .int (y), .long (sd), .int (z), .int (w)] : List Value).toArray below meth c H locs (0) (0) (MQ below (va_Qi (fun rr u => rr = bestR M x y sd z w ∧ u.1 = bestT M x y sd z w ∧ u.2.2 = M) (fun u => GB D (tyW cI cJ cZ) A (mWu cI cJ cZ a u)) A) ([.ref (a 0), .int (x), .int (y), .long (sd), .int (z), .int (w)] : List Value).toArray s 0 0 A) (F0 m 63 ls []) := by
          intro d
          induction d with
          | zero => intro i ob  hd63; exact absurd hd63 (Nat.not_lt_zero _)
          | succ d ih63 =>
            intro i ob  hd63 hik hob  ls hl
            have hb0 := hbst i hik
            rw [← hob] at hb0
            have hb1 : ob < 300 := by
              rw [hob]
              cases i with
              | zero => show leaderM M (ix x) (ix y) (sd) (ix z) < 300; omega
              | succ i => have := (following_in M (ix x) (ix y) sd (bstI M (ix x) (ix y) sd (leaderM M (ix x) (ix y) (sd) (ix z)) i) true (m_grp M (bstI M (ix x) (ix y) sd (leaderM M (ix x) (ix y) (sd) (ix z)) i).toNat) 0 0).2; simp only [bstI]; omega
            refine lv_iload hx hb dX6_best_63 (lv_at hl 7 rfl) ?_
            refine lv_iload hx hb dX6_best_65 (lv_at hl 5 rfl) ?_
            refine wz_icmp_ge (tgt := 97) hx hb (((i : Nat) : Int)) ((w).toInt) (nI_z (by omega)) rfl dX6_best_67 (by decide) (fun c67_10 => ?_) (fun c67_10 => ?_)
            · refine lv_iload hx hb dX6_best_97 (lv_at hl 6 rfl) ?_
              have hPm : va_P D vwCl (mW cI cJ cZ a (againstM M (x) (y) (z)) (u42) M) H := by exact hP
              have hDm : va_D A (mW cI cJ cZ a (againstM M (x) (y) (z)) (u42) M) := by exact hD
              exact W.iret (v := zI (ob)) hx hb hr (fun t ht hW => ⟨⟨_, (againstM M (x) (y) (z), u42, M), rfl, ⟨by rw [bestR, if_neg (by omega), if_neg (by omega), hob, (show i = ix w by omega)], by rw [bestT, if_neg (by omega), if_neg (by omega)]; omega, rfl⟩, gb_mk ht hW hPm hK hDm⟩, hS.F ht⟩) hS.2.2 dX6_best_99
            · refine lv_aload_n hx hb dX6_best_70 rfl (lv_at hl 0 rfl) ?_
              refine lv_iload_n hx hb dX6_best_71 rfl (lv_at hl 1 rfl) ?_
              refine ww_top (y := nI (ix x)) (ix_n (by omega)) ?_
              refine lv_iload_n hx hb dX6_best_72 rfl (lv_at hl 2 rfl) ?_
              refine ww_top (y := nI (ix y)) (ix_n (by omega)) ?_
              refine lv_lload_n hx hb dX6_best_73 rfl (lv_at hl 3 rfl) ?_
              refine lv_iload hx hb dX6_best_74 (lv_at hl 6 rfl) ?_
              refine lv_iconst (v := nI (1)) hx hb dX6_best_76 (by decide) ?_
              refine ww_top (y := bI (true)) (rfl) ?_
              refine lv_aload_n hx hb dX6_best_77 rfl (lv_at hl 0 rfl) ?_
              refine va_get (ci := 6) (v := .ref (a 1)) (C := RX6) (T := TX6) (N := 30) hx hb hts hiX6 hown hK hP 0 rfl rfl 2 (by decide) hf1 (fun _ h9 => h9) rfl dX6_best_78 ?_
              refine lv_iload hx hb dX6_best_81 (lv_at hl 6 rfl) ?_
              refine ww_top (y := nI (ob.toNat)) (zI_toNat (by omega)) ?_
              refine wa_l (i := ob.toNat) (v := m_grp M (ob.toNat)) hx hb hK hP 1 1 rfl rfl rfl (by omega) (by decide) dX6_best_83 ?_
              refine lv_iconst (v := nI (0)) hx hb dX6_best_84 (by decide) ?_
              refine lv_iconst (v := nI (0)) hx hb dX6_best_85 (by decide) ?_
              have hPm : va_P D vwCl (mW cI cJ cZ a (againstM M (x) (y) (z)) (u42) M) H := by exact hP
              refine wc_Vi (As := [.int (nI (ix x)), .int (nI (ix y)), .long (sd), .int (zI (ob)), .int (bI (true)), .long (m_grp M (ob.toNat)), .int (nI (0)), .int (nI (0))]) (rest := []) ⟨hx, hb, hml, hown, hts⟩ (c_X6_following l D cI cJ cZ a (againstM M (x) (y) (z)) (u42) M hM (ix x) (ix y) (sd) ((ob : Int)) (true) (m_grp M (ob.toNat)) (0) (0) (by omega) (by omega) (by omega) (by omega) (by omega) (by omega)) (cwV 8 hts gX6_best_X6_following rfl rfl rfl (by decide +kernel) ⟨Nat.le_of_ble_eq_true rfl, Nat.le_of_ble_eq_true rfl⟩) hPm hK 0 rfl rfl rfl hl.1 rfl (Nat.le_of_ble_eq_true rfl) dX6_best_86 ⟨Nat.zero_le _, Nat.zero_le _⟩ (fun rr hq11 => ?_)
              have hq11 : rr = zI (following M (ix x) (ix y) (sd) ((ob : Int)) (true) (m_grp M (ob.toNat)) 0 0) := hq11
              subst hq11
              have hfl12 := following_in M (ix x) (ix y) (sd) ((ob : Int)) (true) (m_grp M (ob.toNat)) 0 0
              refine lv_istore (lv' := [(7, .int (zI (following M (ix x) (ix y) (sd) ((ob : Int)) (true) (m_grp M (ob.toNat)) 0 0))), (0, .ref (a 0)), (1, .int (x)), (2, .int (y)), (3, .long (sd)), (5, .int (z)), (6, .int (w)), (8, .int (nI (i)))]) hx hb dX6_best_89 hl (by decide) rfl (fun ls hl => ?_)
              refine lv_iinc (v := nI (i + 1)) (lv' := [(8, .int (nI (i + 1))), (7, .int (zI (following M (ix x) (ix y) (sd) ((ob : Int)) (true) (m_grp M (ob.toNat)) 0 0))), (0, .ref (a 0)), (1, .int (x)), (2, .int (y)), (3, .long (sd)), (5, .int (z)), (6, .int (w))]) hx hb dX6_best_91 hl (k := 7) rfl (nI_inc _) (by decide) rfl (fun ls hl => ?_)
              refine lv_goto (tgt := 63) hx hb dX6_best_94 (by decide) ?_
              exact ih63 (i + 1) ((following M (ix x) (ix y) (sd) ((ob : Int)) (true) (m_grp M (ob.toNat)) 0 0 : Int))  (by omega) (by omega) (by rw [hob]; rfl)  ls (lv_sub hl [2, 3, 4, 5, 6, 7, 1, 0] rfl)
        exact hlp63 _ (0) ((leaderM M (ix x) (ix y) (sd) (ix z) : Int))  (Nat.lt_succ_self _) (Nat.zero_le _) (rfl)  ls (lv_sub hl [2, 3, 4, 5, 6, 7, 1, 0] rfl)
      · refine lv_aload_n hx hb dX6_best_54 rfl (lv_at hl 1 rfl) ?_
        refine lv_iconst (v := nI (1)) hx hb dX6_best_55 (by decide) ?_
        have hPm : va_P D vwCl (mW cI cJ cZ a (againstM M (x) (y) (z)) (u42) M) H := by exact hP
        have hDm : va_D A (mW cI cJ cZ a (againstM M (x) (y) (z)) (u42) M) := by exact hD
        refine wc_VWi (As := [.int (nI (1))]) (rest := []) (wf := mWu cI cJ cZ a) ⟨hx, hb, hml, hown, hts⟩ (c_X6_fails l D cI cJ cZ a (againstM M (x) (y) (z)) (u42) M hM (1) (by omega) H.size) (cwV 1 hts gX6_best_X6_fails rfl rfl rfl (by decide +kernel) ⟨Nat.le_of_ble_eq_true rfl, Nat.le_of_ble_eq_true rfl⟩) hPm hK hDm hS hA 0 rfl rfl rfl hl.1 rfl (Nat.le_of_ble_eq_true rfl) dX6_best_56 ⟨Nat.zero_le _, Nat.zero_le _⟩ (fun rr u13 hq13 H locs hP hD hS => ?_)
        obtain ⟨hr13, hu13⟩ := hq13
        subst hr13
        subst hu13
        have hP : va_P D vwCl (mX cI cJ cZ a (1) (u42) (m_n M) (m_sn M) (m_vn M) (m_rn M) (m_pn M) (m_nw M) (m_grp M) (m_key M) (m_srt M) (m_sd M) (m_go M) (m_seg M) (m_la M) (m_isN M) (m_drp M) (m_has M) (m_sees M) (m_isC M) (m_isG M) (m_ov M) (m_st M) (m_vo M) (m_ko M) (m_sl M) (m_sc M) (m_kp M) (m_en M) (m_pg M)) H := hP
        have hD : va_D A (mX cI cJ cZ a (1) (u42) (m_n M) (m_sn M) (m_vn M) (m_rn M) (m_pn M) (m_nw M) (m_grp M) (m_key M) (m_srt M) (m_sd M) (m_go M) (m_seg M) (m_la M) (m_isN M) (m_drp M) (m_has M) (m_sees M) (m_isC M) (m_isG M) (m_ov M) (m_st M) (m_vo M) (m_ko M) (m_sl M) (m_sc M) (m_kp M) (m_en M) (m_pg M)) := hD
        have hPm : va_P D vwCl (mW cI cJ cZ a (1) (u42) M) H := by exact hP
        have hDm : va_D A (mW cI cJ cZ a (1) (u42) M) := by exact hD
        exact W.iret (v := nI (0)) hx hb hr (fun t ht hW => ⟨⟨_, (1, u42, M), rfl, ⟨(by simp only [bestR]; (repeat' split) <;> first | rfl | (exfalso; omega)), (by simp only [bestT]; (repeat' split) <;> first | rfl | (exfalso; omega)), rfl⟩, gb_mk ht hW hPm hK hDm⟩, hS.F ht⟩) hS.2.2 dX6_best_59
  · refine lv_iconst (v := nI (0)) hx hb dX6_best_19 (by decide) ?_
    have hPm : va_P D vwCl (mW cI cJ cZ a (againstM M (x) (y) (z)) (lds) M) H := by exact hP
    have hDm : va_D A (mW cI cJ cZ a (againstM M (x) (y) (z)) (lds) M) := by exact hD
    exact W.iret (v := nI (0)) hx hb hr (fun t ht hW => ⟨⟨_, (againstM M (x) (y) (z), lds, M), rfl, ⟨(by simp only [bestR]; (repeat' split) <;> first | rfl | (exfalso; omega)), (by simp only [bestT]; (repeat' split) <;> first | rfl | (exfalso; omega)), rfl⟩, gb_mk ht hW hPm hK hDm⟩, hS.F ht⟩) hS.2.2 dX6_best_20
def rm_X6_page : Room := { frames := 1, cells := 0, slots := 0, locals := 21 }
set_option maxHeartbeats 4000000 in
set_option maxRecDepth 100000 in
/-- object i of the page -/
theorem c_X6_page (l : Launch) (D : va_G) (cI cJ cZ : ClassId) (a : Nat → Nat) (th : Nat) (lds : Nat → Bool) (M : MT) (hM : mOk M) (x : Int32) (sz : Nat) : Met l yX6_page wsX6_page rm_X6_page (va_Pc [.ref (a 0), .int (x)] (GW D (tyW cI cJ cZ) (mW cI cJ cZ a (th) (lds) M) sz)) (va_Qi (fun rr u => rr = pageR M x ∧ u.1 = pageT M x ∧ u.2.2 = M) (fun u => GB D (tyW cI cJ cZ) (va_A (mW cI cJ cZ a (th) (lds) M) sz) (mWu cI cJ cZ a u)) (va_A (mW cI cJ cZ a (th) (lds) M) sz)) 0 0 (va_A (mW cI cJ cZ a (th) (lds) M) sz) := by
  obtain ⟨hn, hsn, hvn, hrn, hpn, hnw, h_seg, h_la, h_st, h_vo, h_ko, h_sl, h_sc, h_kp, h_en, h_pg, hvo, hko, hsl, hsc⟩ := id hM
  have hixx := ix_c x
  refine Met.ofW (cc := cX6_page) (maxL := 2) (ret := (some .int)) (by decide) rfl ?_
  intro p e s m args below meth c s₁ B hml hv
  obtain ⟨rfl, hsz, hP, hK, hD0⟩ := hv
  have hx := B.exec
  have hb := B.bytes
  have hr := B.returns
  have hts := atoms_spec (ws := wsX6_page) B.pre
  have hown : s.vm.findClass RX6 = some m.cls := findClass_of_methodNamed B.named
  have hlocks := B.notSynchronized
  subst hsz
  have hD := hD0.self (sz := s.heap.size)
  generalize hAe : va_A (mW cI cJ cZ a (th) (lds) M) s.heap.size = A at hD ⊢
  have hA : ∀ q : Nat, s.heap.size ≤ q → A q := fun q h => by rw [← hAe]; exact Or.inr h
  have hS : va_S A s.heap s.heap [] := va_S.rf
  have hP : va_P D vwCl (mX cI cJ cZ a (th) (lds) (m_n M) (m_sn M) (m_vn M) (m_rn M) (m_pn M) (m_nw M) (m_grp M) (m_key M) (m_srt M) (m_sd M) (m_go M) (m_seg M) (m_la M) (m_isN M) (m_drp M) (m_has M) (m_sees M) (m_isC M) (m_isG M) (m_ov M) (m_st M) (m_vo M) (m_ko M) (m_sl M) (m_sc M) (m_kp M) (m_en M) (m_pg M)) s.heap := hP
  have hD : va_D A (mX cI cJ cZ a (th) (lds) (m_n M) (m_sn M) (m_vn M) (m_rn M) (m_pn M) (m_nw M) (m_grp M) (m_key M) (m_srt M) (m_sd M) (m_go M) (m_seg M) (m_la M) (m_isN M) (m_drp M) (m_has M) (m_sees M) (m_isC M) (m_isG M) (m_ov M) (m_st M) (m_vo M) (m_ko M) (m_sl M) (m_sc M) (m_kp M) (m_en M) (m_pg M)) := hD
  have hiX6 : ∀ w ∈ wsX60, w ∈ wsX6_page := by decide +kernel
  have hf0 := hts (.fieldLink RX6 81 "GroupCursorsModel" "thrown" "I") (by decide +kernel)
  have hf1 := hts (.fieldLink RX6 196 "GroupCursorsModel" "pages" "I") (by decide +kernel)
  have hf2 := hts (.fieldLink RX6 75 "GroupCursorsModel" "page" "[I") (by decide +kernel)
  have hl := lv_entry ([.ref (a 0), .int (x)]) (n := 2) (Nat.le_of_ble_eq_true rfl)
  rw [lg_entry_eq]
  generalize (lg_sl ([.ref (a 0), .int (x)]) ++ List.replicate (2 - (lg_sl ([.ref (a 0), .int (x)])).length) Slot.unset).toArray = ls at hl ⊢
  have hl : lv_has ls 2 [(0, .ref (a 0)), (1, .int (x))] := hl
  refine lv_aload_n hx hb dX6_page_0 rfl (lv_at hl 0 rfl) ?_
  refine lv_iconst (v := nI (0)) hx hb dX6_page_1 (by decide) ?_
  refine va_put (ci := 6) (v := .int (nI (0))) (ty := .int) (C := RX6) (T := TX6) (N := 30) hx hb hts hiX6 tyX6 tyX6_ok nmX6 hown hK hP hD hS 0 rfl rfl 0 (by decide) hf0 (fun _ h9 => h9) rfl (by decide +kernel) rfl rfl (Nat.le_of_ble_eq_true rfl) dX6_page_2 (fun H locs hP hD hS => ?_)
  have hP : va_P D vwCl (mX cI cJ cZ a (0) (lds) (m_n M) (m_sn M) (m_vn M) (m_rn M) (m_pn M) (m_nw M) (m_grp M) (m_key M) (m_srt M) (m_sd M) (m_go M) (m_seg M) (m_la M) (m_isN M) (m_drp M) (m_has M) (m_sees M) (m_isC M) (m_isG M) (m_ov M) (m_st M) (m_vo M) (m_ko M) (m_sl M) (m_sc M) (m_kp M) (m_en M) (m_pg M)) H := hP
  have hD : va_D A (mX cI cJ cZ a (0) (lds) (m_n M) (m_sn M) (m_vn M) (m_rn M) (m_pn M) (m_nw M) (m_grp M) (m_key M) (m_srt M) (m_sd M) (m_go M) (m_seg M) (m_la M) (m_isN M) (m_drp M) (m_has M) (m_sees M) (m_isC M) (m_isG M) (m_ov M) (m_st M) (m_vo M) (m_ko M) (m_sl M) (m_sc M) (m_kp M) (m_en M) (m_pg M)) := hD
  refine lv_iload_n hx hb dX6_page_5 rfl (lv_at hl 1 rfl) ?_
  refine wz_if_lt (tgt := 26) hx hb ((x).toInt) rfl dX6_page_6 (by decide) (fun c6_1 => ?_) (fun c6_1 => ?_)
  · refine lv_aload_n hx hb dX6_page_26 rfl (lv_at hl 0 rfl) ?_
    refine lv_iconst (v := nI (1)) hx hb dX6_page_27 (by decide) ?_
    have hPm : va_P D vwCl (mW cI cJ cZ a (0) (lds) M) H := by exact hP
    have hDm : va_D A (mW cI cJ cZ a (0) (lds) M) := by exact hD
    refine wc_VWi (As := [.int (nI (1))]) (rest := []) (wf := mWu cI cJ cZ a) ⟨hx, hb, hml, hown, hts⟩ (c_X6_fails l D cI cJ cZ a (0) (lds) M hM (1) (by omega) H.size) (cwV 1 hts gX6_page_X6_fails rfl rfl rfl (by decide +kernel) ⟨Nat.le_of_ble_eq_true rfl, Nat.le_of_ble_eq_true rfl⟩) hPm hK hDm hS hA 0 rfl rfl rfl hl.1 rfl (Nat.le_of_ble_eq_true rfl) dX6_page_28 ⟨Nat.zero_le _, Nat.zero_le _⟩ (fun rr u2 hq2 H locs hP hD hS => ?_)
    obtain ⟨hr2, hu2⟩ := hq2
    subst hr2
    subst hu2
    have hP : va_P D vwCl (mX cI cJ cZ a (1) (lds) (m_n M) (m_sn M) (m_vn M) (m_rn M) (m_pn M) (m_nw M) (m_grp M) (m_key M) (m_srt M) (m_sd M) (m_go M) (m_seg M) (m_la M) (m_isN M) (m_drp M) (m_has M) (m_sees M) (m_isC M) (m_isG M) (m_ov M) (m_st M) (m_vo M) (m_ko M) (m_sl M) (m_sc M) (m_kp M) (m_en M) (m_pg M)) H := hP
    have hD : va_D A (mX cI cJ cZ a (1) (lds) (m_n M) (m_sn M) (m_vn M) (m_rn M) (m_pn M) (m_nw M) (m_grp M) (m_key M) (m_srt M) (m_sd M) (m_go M) (m_seg M) (m_la M) (m_isN M) (m_drp M) (m_has M) (m_sees M) (m_isC M) (m_isG M) (m_ov M) (m_st M) (m_vo M) (m_ko M) (m_sl M) (m_sc M) (m_kp M) (m_en M) (m_pg M)) := hD
    have hPm : va_P D vwCl (mW cI cJ cZ a (1) (lds) M) H := by exact hP
    have hDm : va_D A (mW cI cJ cZ a (1) (lds) M) := by exact hD
    exact W.iret (v := nI (0)) hx hb hr (fun t ht hW => ⟨⟨_, (1, lds, M), rfl, ⟨(by simp only [pageR]; (repeat' split) <;> first | rfl | (exfalso; omega)), (by simp only [pageT]; (repeat' split) <;> first | rfl | (exfalso; omega)), rfl⟩, gb_mk ht hW hPm hK hDm⟩, hS.F ht⟩) hS.2.2 dX6_page_31
  · refine lv_iload_n hx hb dX6_page_9 rfl (lv_at hl 1 rfl) ?_
    refine lv_aload_n hx hb dX6_page_10 rfl (lv_at hl 0 rfl) ?_
    refine va_get (ci := 6) (v := .int (nI (m_pn M))) (C := RX6) (T := TX6) (N := 30) hx hb hts hiX6 hown hK hP 0 rfl rfl 28 (by decide) hf1 (fun _ h9 => h9) rfl dX6_page_11 ?_
    refine wz_icmp_ge (tgt := 26) hx hb ((x).toInt) (((m_pn M : Nat) : Int)) rfl (nI_z (by omega)) dX6_page_14 (by decide) (fun c14_3 => ?_) (fun c14_3 => ?_)
    · refine lv_aload_n hx hb dX6_page_26 rfl (lv_at hl 0 rfl) ?_
      refine lv_iconst (v := nI (1)) hx hb dX6_page_27 (by decide) ?_
      have hPm : va_P D vwCl (mW cI cJ cZ a (0) (lds) M) H := by exact hP
      have hDm : va_D A (mW cI cJ cZ a (0) (lds) M) := by exact hD
      refine wc_VWi (As := [.int (nI (1))]) (rest := []) (wf := mWu cI cJ cZ a) ⟨hx, hb, hml, hown, hts⟩ (c_X6_fails l D cI cJ cZ a (0) (lds) M hM (1) (by omega) H.size) (cwV 1 hts gX6_page_X6_fails rfl rfl rfl (by decide +kernel) ⟨Nat.le_of_ble_eq_true rfl, Nat.le_of_ble_eq_true rfl⟩) hPm hK hDm hS hA 0 rfl rfl rfl hl.1 rfl (Nat.le_of_ble_eq_true rfl) dX6_page_28 ⟨Nat.zero_le _, Nat.zero_le _⟩ (fun rr u4 hq4 H locs hP hD hS => ?_)
      obtain ⟨hr4, hu4⟩ := hq4
      subst hr4
      subst hu4
      have hP : va_P D vwCl (mX cI cJ cZ a (1) (lds) (m_n M) (m_sn M) (m_vn M) (m_rn M) (m_pn M) (m_nw M) (m_grp M) (m_key M) (m_srt M) (m_sd M) (m_go M) (m_seg M) (m_la M) (m_isN M) (m_drp M) (m_has M) (m_sees M) (m_isC M) (m_isG M) (m_ov M) (m_st M) (m_vo M) (m_ko M) (m_sl M) (m_sc M) (m_kp M) (m_en M) (m_pg M)) H := hP
      have hD : va_D A (mX cI cJ cZ a (1) (lds) (m_n M) (m_sn M) (m_vn M) (m_rn M) (m_pn M) (m_nw M) (m_grp M) (m_key M) (m_srt M) (m_sd M) (m_go M) (m_seg M) (m_la M) (m_isN M) (m_drp M) (m_has M) (m_sees M) (m_isC M) (m_isG M) (m_ov M) (m_st M) (m_vo M) (m_ko M) (m_sl M) (m_sc M) (m_kp M) (m_en M) (m_pg M)) := hD
      have hPm : va_P D vwCl (mW cI cJ cZ a (1) (lds) M) H := by exact hP
      have hDm : va_D A (mW cI cJ cZ a (1) (lds) M) := by exact hD
      exact W.iret (v := nI (0)) hx hb hr (fun t ht hW => ⟨⟨_, (1, lds, M), rfl, ⟨(by simp only [pageR]; (repeat' split) <;> first | rfl | (exfalso; omega)), (by simp only [pageT]; (repeat' split) <;> first | rfl | (exfalso; omega)), rfl⟩, gb_mk ht hW hPm hK hDm⟩, hS.F ht⟩) hS.2.2 dX6_page_31
    · refine lv_aload_n hx hb dX6_page_17 rfl (lv_at hl 0 rfl) ?_
      refine va_get (ci := 6) (v := .ref (a 22)) (C := RX6) (T := TX6) (N := 30) hx hb hts hiX6 hown hK hP 0 rfl rfl 27 (by decide) hf2 (fun _ h9 => h9) rfl dX6_page_18 ?_
      refine lv_iload_n hx hb dX6_page_21 rfl (lv_at hl 1 rfl) ?_
      refine ww_top (y := nI (ix x)) (ix_n (by omega)) ?_
      refine wa_i (i := ix x) (v := nI (m_pg M (ix x))) hx hb hK hP 22 0 rfl rfl rfl (by omega) (by decide) dX6_page_22 ?_
      refine lv_goto (tgt := 31) hx hb dX6_page_23 (by decide) ?_
      have hPm : va_P D vwCl (mW cI cJ cZ a (0) (lds) M) H := by exact hP
      have hDm : va_D A (mW cI cJ cZ a (0) (lds) M) := by exact hD
      exact W.iret (v := nI (m_pg M (ix x))) hx hb hr (fun t ht hW => ⟨⟨_, (0, lds, M), rfl, ⟨(by simp only [pageR]; (repeat' split) <;> first | rfl | (exfalso; omega)), (by simp only [pageT]; (repeat' split) <;> first | rfl | (exfalso; omega)), rfl⟩, gb_mk ht hW hPm hK hDm⟩, hS.F ht⟩) hS.2.2 dX6_page_31
def rm_X6_addReader : Room := { frames := 0, cells := 0, slots := 0, locals := 0 }
set_option maxHeartbeats 4000000 in
set_option maxRecDepth 100000 in
/-- a reader more -/
theorem c_X6_addReader (l : Launch) (D : va_G) (cI cJ cZ : ClassId) (a : Nat → Nat) (th : Nat) (lds : Nat → Bool) (M : MT) (hM : mOk M) (v kd : Nat) (sd : Int64) (b : Bool) (hr9 : m_rn M < 60) (sz : Nat) : Met l yX6_addReader wsX6_addReader rm_X6_addReader (va_Pc [.ref (a 0), .int (nI (v)), .int (nI (kd)), .long (sd), .int (bI (b))] (GW D (tyW cI cJ cZ) (mW cI cJ cZ a (th) (lds) M) sz)) (va_Qi (fun rr u => rr = nI (m_rn M) ∧ u.1 = th ∧ u.2.1 = lds ∧ u.2.2 = addRd M v kd sd b) (fun u => GB D (tyW cI cJ cZ) (va_A (mW cI cJ cZ a (th) (lds) M) sz) (mWu cI cJ cZ a u)) (va_A (mW cI cJ cZ a (th) (lds) M) sz)) 0 0 (va_A (mW cI cJ cZ a (th) (lds) M) sz) := by
  obtain ⟨hn, hsn, hvn, hrn, hpn, hnw, h_seg, h_la, h_st, h_vo, h_ko, h_sl, h_sc, h_kp, h_en, h_pg, hvo, hko, hsl, hsc⟩ := id hM
  refine Met.ofW (cc := cX6_addReader) (maxL := 6) (ret := (some .int)) (by decide) rfl ?_
  intro p e s m args below meth c s₁ B hml hv
  obtain ⟨rfl, hsz, hP, hK, hD0⟩ := hv
  have hx := B.exec
  have hb := B.bytes
  have hr := B.returns
  have hts := atoms_spec (ws := wsX6_addReader) B.pre
  have hown : s.vm.findClass RX6 = some m.cls := findClass_of_methodNamed B.named
  have hlocks := B.notSynchronized
  subst hsz
  have hD := hD0.self (sz := s.heap.size)
  generalize hAe : va_A (mW cI cJ cZ a (th) (lds) M) s.heap.size = A at hD ⊢
  have hA : ∀ q : Nat, s.heap.size ≤ q → A q := fun q h => by rw [← hAe]; exact Or.inr h
  have hS : va_S A s.heap s.heap [] := va_S.rf
  have hP : va_P D vwCl (mX cI cJ cZ a (th) (lds) (m_n M) (m_sn M) (m_vn M) (m_rn M) (m_pn M) (m_nw M) (m_grp M) (m_key M) (m_srt M) (m_sd M) (m_go M) (m_seg M) (m_la M) (m_isN M) (m_drp M) (m_has M) (m_sees M) (m_isC M) (m_isG M) (m_ov M) (m_st M) (m_vo M) (m_ko M) (m_sl M) (m_sc M) (m_kp M) (m_en M) (m_pg M)) s.heap := hP
  have hD : va_D A (mX cI cJ cZ a (th) (lds) (m_n M) (m_sn M) (m_vn M) (m_rn M) (m_pn M) (m_nw M) (m_grp M) (m_key M) (m_srt M) (m_sd M) (m_go M) (m_seg M) (m_la M) (m_isN M) (m_drp M) (m_has M) (m_sees M) (m_isC M) (m_isG M) (m_ov M) (m_st M) (m_vo M) (m_ko M) (m_sl M) (m_sc M) (m_kp M) (m_en M) (m_pg M)) := hD
  have hiX6 : ∀ w ∈ wsX60, w ∈ wsX6_addReader := by decide +kernel
  have hf0 := hts (.fieldLink RX6 39 "GroupCursorsModel" "viewOf" "[I") (by decide +kernel)
  have hf1 := hts (.fieldLink RX6 134 "GroupCursorsModel" "readers" "I") (by decide +kernel)
  have hf2 := hts (.fieldLink RX6 42 "GroupCursorsModel" "kindOf" "[I") (by decide +kernel)
  have hf3 := hts (.fieldLink RX6 45 "GroupCursorsModel" "seedOf" "[J") (by decide +kernel)
  have hf4 := hts (.fieldLink RX6 48 "GroupCursorsModel" "isCursor" "[Z") (by decide +kernel)
  have hf5 := hts (.fieldLink RX6 72 "GroupCursorsModel" "last" "[I") (by decide +kernel)
  have hl := lv_entry ([.ref (a 0), .int (nI (v)), .int (nI (kd)), .long (sd), .int (bI (b))]) (n := 6) (Nat.le_of_ble_eq_true rfl)
  rw [lg_entry_eq]
  generalize (lg_sl ([.ref (a 0), .int (nI (v)), .int (nI (kd)), .long (sd), .int (bI (b))]) ++ List.replicate (6 - (lg_sl ([.ref (a 0), .int (nI (v)), .int (nI (kd)), .long (sd), .int (bI (b))])).length) Slot.unset).toArray = ls at hl ⊢
  have hl : lv_has ls 6 [(0, .ref (a 0)), (1, .int (nI (v))), (2, .int (nI (kd))), (3, .long (sd)), (5, .int (bI (b)))] := hl
  refine lv_aload_n hx hb dX6_addReader_0 rfl (lv_at hl 0 rfl) ?_
  refine va_get (ci := 6) (v := .ref (a 10)) (C := RX6) (T := TX6) (N := 30) hx hb hts hiX6 hown hK hP 0 rfl rfl 14 (by decide) hf0 (fun _ h9 => h9) rfl dX6_addReader_1 ?_
  refine lv_aload_n hx hb dX6_addReader_4 rfl (lv_at hl 0 rfl) ?_
  refine va_get (ci := 6) (v := .int (nI (m_rn M))) (C := RX6) (T := TX6) (N := 30) hx hb hts hiX6 hown hK hP 0 rfl rfl 13 (by decide) hf1 (fun _ h9 => h9) rfl dX6_addReader_5 ?_
  refine lv_iload_n hx hb dX6_addReader_8 rfl (lv_at hl 1 rfl) ?_
  refine wa_ist (i := m_rn M) hx hb hK hP hD hS 10 0 rfl rfl (upd_nI (m_vo M) (m_rn M) (v)) (by omega) (by decide) dX6_addReader_9 (fun H locs hP hD hS => ?_)
  have hP : va_P D vwCl (mX cI cJ cZ a (th) (lds) (m_n M) (m_sn M) (m_vn M) (m_rn M) (m_pn M) (m_nw M) (m_grp M) (m_key M) (m_srt M) (m_sd M) (m_go M) (m_seg M) (m_la M) (m_isN M) (m_drp M) (m_has M) (m_sees M) (m_isC M) (m_isG M) (m_ov M) (m_st M) (va_up (m_vo M) (m_rn M) (v)) (m_ko M) (m_sl M) (m_sc M) (m_kp M) (m_en M) (m_pg M)) H := hP
  have hD : va_D A (mX cI cJ cZ a (th) (lds) (m_n M) (m_sn M) (m_vn M) (m_rn M) (m_pn M) (m_nw M) (m_grp M) (m_key M) (m_srt M) (m_sd M) (m_go M) (m_seg M) (m_la M) (m_isN M) (m_drp M) (m_has M) (m_sees M) (m_isC M) (m_isG M) (m_ov M) (m_st M) (va_up (m_vo M) (m_rn M) (v)) (m_ko M) (m_sl M) (m_sc M) (m_kp M) (m_en M) (m_pg M)) := hD
  refine lv_aload_n hx hb dX6_addReader_10 rfl (lv_at hl 0 rfl) ?_
  refine va_get (ci := 6) (v := .ref (a 11)) (C := RX6) (T := TX6) (N := 30) hx hb hts hiX6 hown hK hP 0 rfl rfl 15 (by decide) hf2 (fun _ h9 => h9) rfl dX6_addReader_11 ?_
  refine lv_aload_n hx hb dX6_addReader_14 rfl (lv_at hl 0 rfl) ?_
  refine va_get (ci := 6) (v := .int (nI (m_rn M))) (C := RX6) (T := TX6) (N := 30) hx hb hts hiX6 hown hK hP 0 rfl rfl 13 (by decide) hf1 (fun _ h9 => h9) rfl dX6_addReader_15 ?_
  refine lv_iload_n hx hb dX6_addReader_18 rfl (lv_at hl 2 rfl) ?_
  refine wa_ist (i := m_rn M) hx hb hK hP hD hS 11 0 rfl rfl (upd_nI (m_ko M) (m_rn M) (kd)) (by omega) (by decide) dX6_addReader_19 (fun H locs hP hD hS => ?_)
  have hP : va_P D vwCl (mX cI cJ cZ a (th) (lds) (m_n M) (m_sn M) (m_vn M) (m_rn M) (m_pn M) (m_nw M) (m_grp M) (m_key M) (m_srt M) (m_sd M) (m_go M) (m_seg M) (m_la M) (m_isN M) (m_drp M) (m_has M) (m_sees M) (m_isC M) (m_isG M) (m_ov M) (m_st M) (va_up (m_vo M) (m_rn M) (v)) (va_up (m_ko M) (m_rn M) (kd)) (m_sl M) (m_sc M) (m_kp M) (m_en M) (m_pg M)) H := hP
  have hD : va_D A (mX cI cJ cZ a (th) (lds) (m_n M) (m_sn M) (m_vn M) (m_rn M) (m_pn M) (m_nw M) (m_grp M) (m_key M) (m_srt M) (m_sd M) (m_go M) (m_seg M) (m_la M) (m_isN M) (m_drp M) (m_has M) (m_sees M) (m_isC M) (m_isG M) (m_ov M) (m_st M) (va_up (m_vo M) (m_rn M) (v)) (va_up (m_ko M) (m_rn M) (kd)) (m_sl M) (m_sc M) (m_kp M) (m_en M) (m_pg M)) := hD
  refine lv_aload_n hx hb dX6_addReader_20 rfl (lv_at hl 0 rfl) ?_
  refine va_get (ci := 6) (v := .ref (a 12)) (C := RX6) (T := TX6) (N := 30) hx hb hts hiX6 hown hK hP 0 rfl rfl 16 (by decide) hf3 (fun _ h9 => h9) rfl dX6_addReader_21 ?_
  refine lv_aload_n hx hb dX6_addReader_24 rfl (lv_at hl 0 rfl) ?_
  refine va_get (ci := 6) (v := .int (nI (m_rn M))) (C := RX6) (T := TX6) (N := 30) hx hb hts hiX6 hown hK hP 0 rfl rfl 13 (by decide) hf1 (fun _ h9 => h9) rfl dX6_addReader_25 ?_
  refine lv_lload_n hx hb dX6_addReader_28 rfl (lv_at hl 3 rfl) ?_
  refine wa_lst (i := m_rn M) hx hb hK hP hD hS 12 1 rfl rfl (by omega) (by decide) dX6_addReader_29 (fun H locs hP hD hS => ?_)
  have hP : va_P D vwCl (mX cI cJ cZ a (th) (lds) (m_n M) (m_sn M) (m_vn M) (m_rn M) (m_pn M) (m_nw M) (m_grp M) (m_key M) (m_srt M) (va_up (m_sd M) (m_rn M) (sd)) (m_go M) (m_seg M) (m_la M) (m_isN M) (m_drp M) (m_has M) (m_sees M) (m_isC M) (m_isG M) (m_ov M) (m_st M) (va_up (m_vo M) (m_rn M) (v)) (va_up (m_ko M) (m_rn M) (kd)) (m_sl M) (m_sc M) (m_kp M) (m_en M) (m_pg M)) H := hP
  have hD : va_D A (mX cI cJ cZ a (th) (lds) (m_n M) (m_sn M) (m_vn M) (m_rn M) (m_pn M) (m_nw M) (m_grp M) (m_key M) (m_srt M) (va_up (m_sd M) (m_rn M) (sd)) (m_go M) (m_seg M) (m_la M) (m_isN M) (m_drp M) (m_has M) (m_sees M) (m_isC M) (m_isG M) (m_ov M) (m_st M) (va_up (m_vo M) (m_rn M) (v)) (va_up (m_ko M) (m_rn M) (kd)) (m_sl M) (m_sc M) (m_kp M) (m_en M) (m_pg M)) := hD
  refine lv_aload_n hx hb dX6_addReader_30 rfl (lv_at hl 0 rfl) ?_
  refine va_get (ci := 6) (v := .ref (a 13)) (C := RX6) (T := TX6) (N := 30) hx hb hts hiX6 hown hK hP 0 rfl rfl 17 (by decide) hf4 (fun _ h9 => h9) rfl dX6_addReader_31 ?_
  refine lv_aload_n hx hb dX6_addReader_34 rfl (lv_at hl 0 rfl) ?_
  refine va_get (ci := 6) (v := .int (nI (m_rn M))) (C := RX6) (T := TX6) (N := 30) hx hb hts hiX6 hown hK hP 0 rfl rfl 13 (by decide) hf1 (fun _ h9 => h9) rfl dX6_addReader_35 ?_
  refine lv_iload hx hb dX6_addReader_38 (lv_at hl 4 rfl) ?_
  refine wa_zst (i := m_rn M) (b := b) (f := m_isC M) hx hb hK hP hD hS 13 2 rfl rfl rfl (by omega) (by decide) dX6_addReader_40 (fun H locs hP hD hS => ?_)
  have hP : va_P D vwCl (mX cI cJ cZ a (th) (lds) (m_n M) (m_sn M) (m_vn M) (m_rn M) (m_pn M) (m_nw M) (m_grp M) (m_key M) (m_srt M) (va_up (m_sd M) (m_rn M) (sd)) (m_go M) (m_seg M) (m_la M) (m_isN M) (m_drp M) (m_has M) (m_sees M) (va_up (m_isC M) (m_rn M) (b)) (m_isG M) (m_ov M) (m_st M) (va_up (m_vo M) (m_rn M) (v)) (va_up (m_ko M) (m_rn M) (kd)) (m_sl M) (m_sc M) (m_kp M) (m_en M) (m_pg M)) H := hP
  have hD : va_D A (mX cI cJ cZ a (th) (lds) (m_n M) (m_sn M) (m_vn M) (m_rn M) (m_pn M) (m_nw M) (m_grp M) (m_key M) (m_srt M) (va_up (m_sd M) (m_rn M) (sd)) (m_go M) (m_seg M) (m_la M) (m_isN M) (m_drp M) (m_has M) (m_sees M) (va_up (m_isC M) (m_rn M) (b)) (m_isG M) (m_ov M) (m_st M) (va_up (m_vo M) (m_rn M) (v)) (va_up (m_ko M) (m_rn M) (kd)) (m_sl M) (m_sc M) (m_kp M) (m_en M) (m_pg M)) := hD
  refine lv_aload_n hx hb dX6_addReader_41 rfl (lv_at hl 0 rfl) ?_
  refine va_get (ci := 6) (v := .ref (a 21)) (C := RX6) (T := TX6) (N := 30) hx hb hts hiX6 hown hK hP 0 rfl rfl 25 (by decide) hf5 (fun _ h9 => h9) rfl dX6_addReader_42 ?_
  refine lv_aload_n hx hb dX6_addReader_45 rfl (lv_at hl 0 rfl) ?_
  refine va_get (ci := 6) (v := .int (nI (m_rn M))) (C := RX6) (T := TX6) (N := 30) hx hb hts hiX6 hown hK hP 0 rfl rfl 13 (by decide) hf1 (fun _ h9 => h9) rfl dX6_addReader_46 ?_
  refine lv_iconst (v := zI ((-1))) hx hb dX6_addReader_49 (by decide) ?_
  refine wa_ist (i := m_rn M) hx hb hK hP hD hS 21 0 rfl rfl (upd_zI (m_la M) (m_rn M) (((-1) : Int))) (by omega) (by decide) dX6_addReader_50 (fun H locs hP hD hS => ?_)
  have hP : va_P D vwCl (mX cI cJ cZ a (th) (lds) (m_n M) (m_sn M) (m_vn M) (m_rn M) (m_pn M) (m_nw M) (m_grp M) (m_key M) (m_srt M) (va_up (m_sd M) (m_rn M) (sd)) (m_go M) (m_seg M) (va_up (m_la M) (m_rn M) (((-1) : Int))) (m_isN M) (m_drp M) (m_has M) (m_sees M) (va_up (m_isC M) (m_rn M) (b)) (m_isG M) (m_ov M) (m_st M) (va_up (m_vo M) (m_rn M) (v)) (va_up (m_ko M) (m_rn M) (kd)) (m_sl M) (m_sc M) (m_kp M) (m_en M) (m_pg M)) H := hP
  have hD : va_D A (mX cI cJ cZ a (th) (lds) (m_n M) (m_sn M) (m_vn M) (m_rn M) (m_pn M) (m_nw M) (m_grp M) (m_key M) (m_srt M) (va_up (m_sd M) (m_rn M) (sd)) (m_go M) (m_seg M) (va_up (m_la M) (m_rn M) (((-1) : Int))) (m_isN M) (m_drp M) (m_has M) (m_sees M) (va_up (m_isC M) (m_rn M) (b)) (m_isG M) (m_ov M) (m_st M) (va_up (m_vo M) (m_rn M) (v)) (va_up (m_ko M) (m_rn M) (kd)) (m_sl M) (m_sc M) (m_kp M) (m_en M) (m_pg M)) := hD
  refine lv_aload_n hx hb dX6_addReader_51 rfl (lv_at hl 0 rfl) ?_
  refine lv_dup hx hb dX6_addReader_52 rfl ?_
  refine va_get (ci := 6) (v := .int (nI (m_rn M))) (C := RX6) (T := TX6) (N := 30) hx hb hts hiX6 hown hK hP 0 rfl rfl 13 (by decide) hf1 (fun _ h9 => h9) rfl dX6_addReader_53 ?_
  refine lv_iconst (v := nI (1)) hx hb dX6_addReader_56 (by decide) ?_
  refine lv_iadd hx hb dX6_addReader_57 (ww_top (y := nI (m_rn M + 1)) (nI_addn _ _) ?_)
  refine va_put (ci := 6) (v := .int (nI (m_rn M + 1))) (ty := .int) (C := RX6) (T := TX6) (N := 30) hx hb hts hiX6 tyX6 tyX6_ok nmX6 hown hK hP hD hS 0 rfl rfl 13 (by decide) hf1 (fun _ h9 => h9) rfl (by decide +kernel) rfl rfl (Nat.le_of_ble_eq_true rfl) dX6_addReader_58 (fun H locs hP hD hS => ?_)
  have hP : va_P D vwCl (mX cI cJ cZ a (th) (lds) (m_n M) (m_sn M) (m_vn M) (m_rn M + 1) (m_pn M) (m_nw M) (m_grp M) (m_key M) (m_srt M) (va_up (m_sd M) (m_rn M) (sd)) (m_go M) (m_seg M) (va_up (m_la M) (m_rn M) (((-1) : Int))) (m_isN M) (m_drp M) (m_has M) (m_sees M) (va_up (m_isC M) (m_rn M) (b)) (m_isG M) (m_ov M) (m_st M) (va_up (m_vo M) (m_rn M) (v)) (va_up (m_ko M) (m_rn M) (kd)) (m_sl M) (m_sc M) (m_kp M) (m_en M) (m_pg M)) H := hP
  have hD : va_D A (mX cI cJ cZ a (th) (lds) (m_n M) (m_sn M) (m_vn M) (m_rn M + 1) (m_pn M) (m_nw M) (m_grp M) (m_key M) (m_srt M) (va_up (m_sd M) (m_rn M) (sd)) (m_go M) (m_seg M) (va_up (m_la M) (m_rn M) (((-1) : Int))) (m_isN M) (m_drp M) (m_has M) (m_sees M) (va_up (m_isC M) (m_rn M) (b)) (m_isG M) (m_ov M) (m_st M) (va_up (m_vo M) (m_rn M) (v)) (va_up (m_ko M) (m_rn M) (kd)) (m_sl M) (m_sc M) (m_kp M) (m_en M) (m_pg M)) := hD
  refine lv_aload_n hx hb dX6_addReader_61 rfl (lv_at hl 0 rfl) ?_
  refine va_get (ci := 6) (v := .int (nI (m_rn M + 1))) (C := RX6) (T := TX6) (N := 30) hx hb hts hiX6 hown hK hP 0 rfl rfl 13 (by decide) hf1 (fun _ h9 => h9) rfl dX6_addReader_62 ?_
  refine lv_iconst (v := nI (1)) hx hb dX6_addReader_65 (by decide) ?_
  refine lv_isub hx hb dX6_addReader_66 (ww_top (y := nI (m_rn M + 1 - 1)) (pk_sub (by omega)) ?_)
  have hPm : va_P D vwCl (mW cI cJ cZ a (th) (lds) (mkM (m_n M) (m_sn M) (m_vn M) (m_rn M + 1) (m_pn M) (m_nw M) (m_grp M) (m_key M) (m_srt M) (va_up (m_sd M) (m_rn M) (sd)) (m_go M) (m_seg M) (va_up (m_la M) (m_rn M) (((-1) : Int))) (m_isN M) (m_drp M) (m_has M) (m_sees M) (va_up (m_isC M) (m_rn M) (b)) (m_isG M) (m_ov M) (m_st M) (va_up (m_vo M) (m_rn M) (v)) (va_up (m_ko M) (m_rn M) (kd)) (m_sl M) (m_sc M) (m_kp M) (m_en M) (m_pg M))) H := by rw [← mX_mk]; exact hP
  have hDm : va_D A (mW cI cJ cZ a (th) (lds) (mkM (m_n M) (m_sn M) (m_vn M) (m_rn M + 1) (m_pn M) (m_nw M) (m_grp M) (m_key M) (m_srt M) (va_up (m_sd M) (m_rn M) (sd)) (m_go M) (m_seg M) (va_up (m_la M) (m_rn M) (((-1) : Int))) (m_isN M) (m_drp M) (m_has M) (m_sees M) (va_up (m_isC M) (m_rn M) (b)) (m_isG M) (m_ov M) (m_st M) (va_up (m_vo M) (m_rn M) (v)) (va_up (m_ko M) (m_rn M) (kd)) (m_sl M) (m_sc M) (m_kp M) (m_en M) (m_pg M))) := by rw [← mX_mk]; exact hD
  exact W.iret (v := nI (m_rn M + 1 - 1)) hx hb hr (fun t ht hW => ⟨⟨_, (th, lds, (mkM (m_n M) (m_sn M) (m_vn M) (m_rn M + 1) (m_pn M) (m_nw M) (m_grp M) (m_key M) (m_srt M) (va_up (m_sd M) (m_rn M) (sd)) (m_go M) (m_seg M) (va_up (m_la M) (m_rn M) (((-1) : Int))) (m_isN M) (m_drp M) (m_has M) (m_sees M) (va_up (m_isC M) (m_rn M) (b)) (m_isG M) (m_ov M) (m_st M) (va_up (m_vo M) (m_rn M) (v)) (va_up (m_ko M) (m_rn M) (kd)) (m_sl M) (m_sc M) (m_kp M) (m_en M) (m_pg M))), rfl, ⟨by rw [Nat.add_sub_cancel], rfl, rfl, rfl⟩, gb_mk ht hW hPm hK hDm⟩, hS.F ht⟩) hS.2.2 dX6_addReader_67
def rm_X6_cursor : Room := { frames := 1, cells := 0, slots := 0, locals := 25 }
set_option maxHeartbeats 4000000 in
set_option maxRecDepth 100000 in
/-- a cursor -/
theorem c_X6_cursor (l : Launch) (D : va_G) (cI cJ cZ : ClassId) (a : Nat → Nat) (th : Nat) (lds : Nat → Bool) (M : MT) (hM : mOk M) (x y : Int32) (sd : Int64) (sl sc kp : Int32) (sz : Nat) : Met l yX6_cursor wsX6_cursor rm_X6_cursor (va_Pc [.ref (a 0), .int (x), .int (y), .long (sd), .int (sl), .int (sc), .int (kp)] (GW D (tyW cI cJ cZ) (mW cI cJ cZ a (th) (lds) M) sz)) (va_Qi (fun rr u => rr = curR M x y sd sl sc kp ∧ u.1 = curT M x y sd sl sc kp ∧ u.2.2 = curM M x y sd sl sc kp) (fun u => GB D (tyW cI cJ cZ) (va_A (mW cI cJ cZ a (th) (lds) M) sz) (mWu cI cJ cZ a u)) (va_A (mW cI cJ cZ a (th) (lds) M) sz)) 0 0 (va_A (mW cI cJ cZ a (th) (lds) M) sz) := by
  obtain ⟨hn, hsn, hvn, hrn, hpn, hnw, h_seg, h_la, h_st, h_vo, h_ko, h_sl, h_sc, h_kp, h_en, h_pg, hvo, hko, hsl, hsc⟩ := id hM
  have hixx := ix_c x
  have hixy := ix_c y
  have hixsl := ix_c sl
  have hixsc := ix_c sc
  have hixkp := ix_c kp
  refine Met.ofW (cc := cX6_cursor) (maxL := 9) (ret := (some .int)) (by decide) rfl ?_
  intro p e s m args below meth c s₁ B hml hv
  obtain ⟨rfl, hsz, hP, hK, hD0⟩ := hv
  have hx := B.exec
  have hb := B.bytes
  have hr := B.returns
  have hts := atoms_spec (ws := wsX6_cursor) B.pre
  have hown : s.vm.findClass RX6 = some m.cls := findClass_of_methodNamed B.named
  have hlocks := B.notSynchronized
  subst hsz
  have hD := hD0.self (sz := s.heap.size)
  generalize hAe : va_A (mW cI cJ cZ a (th) (lds) M) s.heap.size = A at hD ⊢
  have hA : ∀ q : Nat, s.heap.size ≤ q → A q := fun q h => by rw [← hAe]; exact Or.inr h
  have hS : va_S A s.heap s.heap [] := va_S.rf
  have hP : va_P D vwCl (mX cI cJ cZ a (th) (lds) (m_n M) (m_sn M) (m_vn M) (m_rn M) (m_pn M) (m_nw M) (m_grp M) (m_key M) (m_srt M) (m_sd M) (m_go M) (m_seg M) (m_la M) (m_isN M) (m_drp M) (m_has M) (m_sees M) (m_isC M) (m_isG M) (m_ov M) (m_st M) (m_vo M) (m_ko M) (m_sl M) (m_sc M) (m_kp M) (m_en M) (m_pg M)) s.heap := hP
  have hD : va_D A (mX cI cJ cZ a (th) (lds) (m_n M) (m_sn M) (m_vn M) (m_rn M) (m_pn M) (m_nw M) (m_grp M) (m_key M) (m_srt M) (m_sd M) (m_go M) (m_seg M) (m_la M) (m_isN M) (m_drp M) (m_has M) (m_sees M) (m_isC M) (m_isG M) (m_ov M) (m_st M) (m_vo M) (m_ko M) (m_sl M) (m_sc M) (m_kp M) (m_en M) (m_pg M)) := hD
  have hiX6 : ∀ w ∈ wsX60, w ∈ wsX6_cursor := by decide +kernel
  have hf0 := hts (.fieldLink RX6 81 "GroupCursorsModel" "thrown" "I") (by decide +kernel)
  have hf1 := hts (.fieldLink RX6 30 "GroupCursorsModel" "state" "[I") (by decide +kernel)
  have hf2 := hts (.fieldLink RX6 134 "GroupCursorsModel" "readers" "I") (by decide +kernel)
  have hf3 := hts (.fieldLink RX6 51 "GroupCursorsModel" "slices" "[I") (by decide +kernel)
  have hf4 := hts (.fieldLink RX6 54 "GroupCursorsModel" "slice" "[I") (by decide +kernel)
  have hf5 := hts (.fieldLink RX6 57 "GroupCursorsModel" "keep" "[I") (by decide +kernel)
  have hf6 := hts (.fieldLink RX6 60 "GroupCursorsModel" "end" "[I") (by decide +kernel)
  have hf7 := hts (.fieldLink RX6 190 "GroupCursorsModel" "now" "I") (by decide +kernel)
  have hl := lv_entry ([.ref (a 0), .int (x), .int (y), .long (sd), .int (sl), .int (sc), .int (kp)]) (n := 9) (Nat.le_of_ble_eq_true rfl)
  rw [lg_entry_eq]
  generalize (lg_sl ([.ref (a 0), .int (x), .int (y), .long (sd), .int (sl), .int (sc), .int (kp)]) ++ List.replicate (9 - (lg_sl ([.ref (a 0), .int (x), .int (y), .long (sd), .int (sl), .int (sc), .int (kp)])).length) Slot.unset).toArray = ls at hl ⊢
  have hl : lv_has ls 9 [(0, .ref (a 0)), (1, .int (x)), (2, .int (y)), (3, .long (sd)), (5, .int (sl)), (6, .int (sc)), (7, .int (kp))] := hl
  refine lv_aload_n hx hb dX6_cursor_0 rfl (lv_at hl 0 rfl) ?_
  refine lv_iconst (v := nI (0)) hx hb dX6_cursor_1 (by decide) ?_
  refine va_put (ci := 6) (v := .int (nI (0))) (ty := .int) (C := RX6) (T := TX6) (N := 30) hx hb hts hiX6 tyX6 tyX6_ok nmX6 hown hK hP hD hS 0 rfl rfl 0 (by decide) hf0 (fun _ h9 => h9) rfl (by decide +kernel) rfl rfl (Nat.le_of_ble_eq_true rfl) dX6_cursor_2 (fun H locs hP hD hS => ?_)
  have hP : va_P D vwCl (mX cI cJ cZ a (0) (lds) (m_n M) (m_sn M) (m_vn M) (m_rn M) (m_pn M) (m_nw M) (m_grp M) (m_key M) (m_srt M) (m_sd M) (m_go M) (m_seg M) (m_la M) (m_isN M) (m_drp M) (m_has M) (m_sees M) (m_isC M) (m_isG M) (m_ov M) (m_st M) (m_vo M) (m_ko M) (m_sl M) (m_sc M) (m_kp M) (m_en M) (m_pg M)) H := hP
  have hD : va_D A (mX cI cJ cZ a (0) (lds) (m_n M) (m_sn M) (m_vn M) (m_rn M) (m_pn M) (m_nw M) (m_grp M) (m_key M) (m_srt M) (m_sd M) (m_go M) (m_seg M) (m_la M) (m_isN M) (m_drp M) (m_has M) (m_sees M) (m_isC M) (m_isG M) (m_ov M) (m_st M) (m_vo M) (m_ko M) (m_sl M) (m_sc M) (m_kp M) (m_en M) (m_pg M)) := hD
  refine lv_aload_n hx hb dX6_cursor_5 rfl (lv_at hl 0 rfl) ?_
  refine lv_iload_n hx hb dX6_cursor_6 rfl (lv_at hl 1 rfl) ?_
  have hPm : va_P D vwCl (mW cI cJ cZ a (0) (lds) M) H := by exact hP
  refine wc_Vi (As := [.int (x)]) (rest := []) ⟨hx, hb, hml, hown, hts⟩ (c_X6_isView l D cI cJ cZ a (0) (lds) M hM (x)) (cwV 1 hts gX6_cursor_X6_isView rfl rfl rfl (by decide +kernel) ⟨Nat.le_of_ble_eq_true rfl, Nat.le_of_ble_eq_true rfl⟩) hPm hK 0 rfl rfl rfl hl.1 rfl (Nat.le_of_ble_eq_true rfl) dX6_cursor_7 ⟨Nat.zero_le _, Nat.zero_le _⟩ (fun rr hq1 => ?_)
  have hq1 : rr = bI (decide (0 ≤ (x).toInt ∧ (x).toInt < (m_vn M : Int))) := hq1
  subst hq1
  refine wb_if_ne (tgt := 19) hx hb dX6_cursor_10 (by decide) (fun c10_2 => ?_) (fun c10_2 => ?_)
  · have c10_2p := of_decide_eq_true c10_2
    refine lv_iload_n hx hb dX6_cursor_19 rfl (lv_at hl 2 rfl) ?_
    have hPm : va_P D vwCl (mW cI cJ cZ a (0) (lds) M) H := by exact hP
    refine wc_Si (As := [.int (y)]) (rest := []) ⟨hx, hb, hml, hown, hts⟩ (c_X6_isKind l D cI cJ cZ a (0) (lds) M hM (y)) (va_cwS 1 hts gX6_cursor_X6_isKind rfl rfl rfl (by decide +kernel) ⟨Nat.le_of_ble_eq_true rfl, Nat.le_of_ble_eq_true rfl⟩) hPm hK rfl hl.1 rfl (Nat.le_of_ble_eq_true rfl) dX6_cursor_20 ⟨Nat.zero_le _, Nat.zero_le _⟩ (fun rr hq3 => ?_)
    have hq3 : rr = bI (decide (0 ≤ (y).toInt ∧ (y).toInt < 3)) := hq3
    subst hq3
    refine wb_if_eq (tgt := 65) hx hb dX6_cursor_23 (by decide) (fun c23_4 => ?_) (fun c23_4 => ?_)
    · have c23_4p := of_decide_eq_false c23_4
      refine lv_aload_n hx hb dX6_cursor_65 rfl (lv_at hl 0 rfl) ?_
      refine lv_iconst (v := nI (2)) hx hb dX6_cursor_66 (by decide) ?_
      have hPm : va_P D vwCl (mW cI cJ cZ a (0) (lds) M) H := by exact hP
      have hDm : va_D A (mW cI cJ cZ a (0) (lds) M) := by exact hD
      refine wc_VWi (As := [.int (nI (2))]) (rest := []) (wf := mWu cI cJ cZ a) ⟨hx, hb, hml, hown, hts⟩ (c_X6_fails l D cI cJ cZ a (0) (lds) M hM (2) (by omega) H.size) (cwV 1 hts gX6_cursor_X6_fails rfl rfl rfl (by decide +kernel) ⟨Nat.le_of_ble_eq_true rfl, Nat.le_of_ble_eq_true rfl⟩) hPm hK hDm hS hA 0 rfl rfl rfl hl.1 rfl (Nat.le_of_ble_eq_true rfl) dX6_cursor_67 ⟨Nat.zero_le _, Nat.zero_le _⟩ (fun rr u5 hq5 H locs hP hD hS => ?_)
      obtain ⟨hr5, hu5⟩ := hq5
      subst hr5
      subst hu5
      have hP : va_P D vwCl (mX cI cJ cZ a (2) (lds) (m_n M) (m_sn M) (m_vn M) (m_rn M) (m_pn M) (m_nw M) (m_grp M) (m_key M) (m_srt M) (m_sd M) (m_go M) (m_seg M) (m_la M) (m_isN M) (m_drp M) (m_has M) (m_sees M) (m_isC M) (m_isG M) (m_ov M) (m_st M) (m_vo M) (m_ko M) (m_sl M) (m_sc M) (m_kp M) (m_en M) (m_pg M)) H := hP
      have hD : va_D A (mX cI cJ cZ a (2) (lds) (m_n M) (m_sn M) (m_vn M) (m_rn M) (m_pn M) (m_nw M) (m_grp M) (m_key M) (m_srt M) (m_sd M) (m_go M) (m_seg M) (m_la M) (m_isN M) (m_drp M) (m_has M) (m_sees M) (m_isC M) (m_isG M) (m_ov M) (m_st M) (m_vo M) (m_ko M) (m_sl M) (m_sc M) (m_kp M) (m_en M) (m_pg M)) := hD
      have hPm : va_P D vwCl (mW cI cJ cZ a (2) (lds) M) H := by exact hP
      have hDm : va_D A (mW cI cJ cZ a (2) (lds) M) := by exact hD
      exact W.iret (v := nI (0)) hx hb hr (fun t ht hW => ⟨⟨_, (2, lds, M), rfl, ⟨(by simp only [curR]; (repeat' split) <;> first | rfl | (exfalso; omega)), (by simp only [curT]; (repeat' split) <;> first | rfl | (exfalso; omega)), (by simp only [curM]; (repeat' split) <;> first | rfl | (exfalso; omega))⟩, gb_mk ht hW hPm hK hDm⟩, hS.F ht⟩) hS.2.2 dX6_cursor_70
    · have c23_4p := of_decide_eq_true c23_4
      refine lv_iload hx hb dX6_cursor_26 (lv_at hl 4 rfl) ?_
      refine lv_iconst (v := nI (1)) hx hb dX6_cursor_28 (by decide) ?_
      refine wz_icmp_lt (tgt := 65) hx hb ((sl).toInt) (((1 : Nat) : Int)) rfl (nI_z (by omega)) dX6_cursor_29 (by decide) (fun c29_6 => ?_) (fun c29_6 => ?_)
      · refine lv_aload_n hx hb dX6_cursor_65 rfl (lv_at hl 0 rfl) ?_
        refine lv_iconst (v := nI (2)) hx hb dX6_cursor_66 (by decide) ?_
        have hPm : va_P D vwCl (mW cI cJ cZ a (0) (lds) M) H := by exact hP
        have hDm : va_D A (mW cI cJ cZ a (0) (lds) M) := by exact hD
        refine wc_VWi (As := [.int (nI (2))]) (rest := []) (wf := mWu cI cJ cZ a) ⟨hx, hb, hml, hown, hts⟩ (c_X6_fails l D cI cJ cZ a (0) (lds) M hM (2) (by omega) H.size) (cwV 1 hts gX6_cursor_X6_fails rfl rfl rfl (by decide +kernel) ⟨Nat.le_of_ble_eq_true rfl, Nat.le_of_ble_eq_true rfl⟩) hPm hK hDm hS hA 0 rfl rfl rfl hl.1 rfl (Nat.le_of_ble_eq_true rfl) dX6_cursor_67 ⟨Nat.zero_le _, Nat.zero_le _⟩ (fun rr u7 hq7 H locs hP hD hS => ?_)
        obtain ⟨hr7, hu7⟩ := hq7
        subst hr7
        subst hu7
        have hP : va_P D vwCl (mX cI cJ cZ a (2) (lds) (m_n M) (m_sn M) (m_vn M) (m_rn M) (m_pn M) (m_nw M) (m_grp M) (m_key M) (m_srt M) (m_sd M) (m_go M) (m_seg M) (m_la M) (m_isN M) (m_drp M) (m_has M) (m_sees M) (m_isC M) (m_isG M) (m_ov M) (m_st M) (m_vo M) (m_ko M) (m_sl M) (m_sc M) (m_kp M) (m_en M) (m_pg M)) H := hP
        have hD : va_D A (mX cI cJ cZ a (2) (lds) (m_n M) (m_sn M) (m_vn M) (m_rn M) (m_pn M) (m_nw M) (m_grp M) (m_key M) (m_srt M) (m_sd M) (m_go M) (m_seg M) (m_la M) (m_isN M) (m_drp M) (m_has M) (m_sees M) (m_isC M) (m_isG M) (m_ov M) (m_st M) (m_vo M) (m_ko M) (m_sl M) (m_sc M) (m_kp M) (m_en M) (m_pg M)) := hD
        have hPm : va_P D vwCl (mW cI cJ cZ a (2) (lds) M) H := by exact hP
        have hDm : va_D A (mW cI cJ cZ a (2) (lds) M) := by exact hD
        exact W.iret (v := nI (0)) hx hb hr (fun t ht hW => ⟨⟨_, (2, lds, M), rfl, ⟨(by simp only [curR]; (repeat' split) <;> first | rfl | (exfalso; omega)), (by simp only [curT]; (repeat' split) <;> first | rfl | (exfalso; omega)), (by simp only [curM]; (repeat' split) <;> first | rfl | (exfalso; omega))⟩, gb_mk ht hW hPm hK hDm⟩, hS.F ht⟩) hS.2.2 dX6_cursor_70
      · refine lv_iload hx hb dX6_cursor_32 (lv_at hl 4 rfl) ?_
        refine lv_bipush (v := nI (8)) hx hb dX6_cursor_34 (by decide) ?_
        refine wz_icmp_gt (tgt := 65) hx hb ((sl).toInt) (((8 : Nat) : Int)) rfl (nI_z (by omega)) dX6_cursor_36 (by decide) (fun c36_8 => ?_) (fun c36_8 => ?_)
        · refine lv_aload_n hx hb dX6_cursor_65 rfl (lv_at hl 0 rfl) ?_
          refine lv_iconst (v := nI (2)) hx hb dX6_cursor_66 (by decide) ?_
          have hPm : va_P D vwCl (mW cI cJ cZ a (0) (lds) M) H := by exact hP
          have hDm : va_D A (mW cI cJ cZ a (0) (lds) M) := by exact hD
          refine wc_VWi (As := [.int (nI (2))]) (rest := []) (wf := mWu cI cJ cZ a) ⟨hx, hb, hml, hown, hts⟩ (c_X6_fails l D cI cJ cZ a (0) (lds) M hM (2) (by omega) H.size) (cwV 1 hts gX6_cursor_X6_fails rfl rfl rfl (by decide +kernel) ⟨Nat.le_of_ble_eq_true rfl, Nat.le_of_ble_eq_true rfl⟩) hPm hK hDm hS hA 0 rfl rfl rfl hl.1 rfl (Nat.le_of_ble_eq_true rfl) dX6_cursor_67 ⟨Nat.zero_le _, Nat.zero_le _⟩ (fun rr u9 hq9 H locs hP hD hS => ?_)
          obtain ⟨hr9, hu9⟩ := hq9
          subst hr9
          subst hu9
          have hP : va_P D vwCl (mX cI cJ cZ a (2) (lds) (m_n M) (m_sn M) (m_vn M) (m_rn M) (m_pn M) (m_nw M) (m_grp M) (m_key M) (m_srt M) (m_sd M) (m_go M) (m_seg M) (m_la M) (m_isN M) (m_drp M) (m_has M) (m_sees M) (m_isC M) (m_isG M) (m_ov M) (m_st M) (m_vo M) (m_ko M) (m_sl M) (m_sc M) (m_kp M) (m_en M) (m_pg M)) H := hP
          have hD : va_D A (mX cI cJ cZ a (2) (lds) (m_n M) (m_sn M) (m_vn M) (m_rn M) (m_pn M) (m_nw M) (m_grp M) (m_key M) (m_srt M) (m_sd M) (m_go M) (m_seg M) (m_la M) (m_isN M) (m_drp M) (m_has M) (m_sees M) (m_isC M) (m_isG M) (m_ov M) (m_st M) (m_vo M) (m_ko M) (m_sl M) (m_sc M) (m_kp M) (m_en M) (m_pg M)) := hD
          have hPm : va_P D vwCl (mW cI cJ cZ a (2) (lds) M) H := by exact hP
          have hDm : va_D A (mW cI cJ cZ a (2) (lds) M) := by exact hD
          exact W.iret (v := nI (0)) hx hb hr (fun t ht hW => ⟨⟨_, (2, lds, M), rfl, ⟨(by simp only [curR]; (repeat' split) <;> first | rfl | (exfalso; omega)), (by simp only [curT]; (repeat' split) <;> first | rfl | (exfalso; omega)), (by simp only [curM]; (repeat' split) <;> first | rfl | (exfalso; omega))⟩, gb_mk ht hW hPm hK hDm⟩, hS.F ht⟩) hS.2.2 dX6_cursor_70
        · refine lv_iload hx hb dX6_cursor_39 (lv_at hl 5 rfl) ?_
          refine wz_if_lt (tgt := 65) hx hb ((sc).toInt) rfl dX6_cursor_41 (by decide) (fun c41_10 => ?_) (fun c41_10 => ?_)
          · refine lv_aload_n hx hb dX6_cursor_65 rfl (lv_at hl 0 rfl) ?_
            refine lv_iconst (v := nI (2)) hx hb dX6_cursor_66 (by decide) ?_
            have hPm : va_P D vwCl (mW cI cJ cZ a (0) (lds) M) H := by exact hP
            have hDm : va_D A (mW cI cJ cZ a (0) (lds) M) := by exact hD
            refine wc_VWi (As := [.int (nI (2))]) (rest := []) (wf := mWu cI cJ cZ a) ⟨hx, hb, hml, hown, hts⟩ (c_X6_fails l D cI cJ cZ a (0) (lds) M hM (2) (by omega) H.size) (cwV 1 hts gX6_cursor_X6_fails rfl rfl rfl (by decide +kernel) ⟨Nat.le_of_ble_eq_true rfl, Nat.le_of_ble_eq_true rfl⟩) hPm hK hDm hS hA 0 rfl rfl rfl hl.1 rfl (Nat.le_of_ble_eq_true rfl) dX6_cursor_67 ⟨Nat.zero_le _, Nat.zero_le _⟩ (fun rr u11 hq11 H locs hP hD hS => ?_)
            obtain ⟨hr11, hu11⟩ := hq11
            subst hr11
            subst hu11
            have hP : va_P D vwCl (mX cI cJ cZ a (2) (lds) (m_n M) (m_sn M) (m_vn M) (m_rn M) (m_pn M) (m_nw M) (m_grp M) (m_key M) (m_srt M) (m_sd M) (m_go M) (m_seg M) (m_la M) (m_isN M) (m_drp M) (m_has M) (m_sees M) (m_isC M) (m_isG M) (m_ov M) (m_st M) (m_vo M) (m_ko M) (m_sl M) (m_sc M) (m_kp M) (m_en M) (m_pg M)) H := hP
            have hD : va_D A (mX cI cJ cZ a (2) (lds) (m_n M) (m_sn M) (m_vn M) (m_rn M) (m_pn M) (m_nw M) (m_grp M) (m_key M) (m_srt M) (m_sd M) (m_go M) (m_seg M) (m_la M) (m_isN M) (m_drp M) (m_has M) (m_sees M) (m_isC M) (m_isG M) (m_ov M) (m_st M) (m_vo M) (m_ko M) (m_sl M) (m_sc M) (m_kp M) (m_en M) (m_pg M)) := hD
            have hPm : va_P D vwCl (mW cI cJ cZ a (2) (lds) M) H := by exact hP
            have hDm : va_D A (mW cI cJ cZ a (2) (lds) M) := by exact hD
            exact W.iret (v := nI (0)) hx hb hr (fun t ht hW => ⟨⟨_, (2, lds, M), rfl, ⟨(by simp only [curR]; (repeat' split) <;> first | rfl | (exfalso; omega)), (by simp only [curT]; (repeat' split) <;> first | rfl | (exfalso; omega)), (by simp only [curM]; (repeat' split) <;> first | rfl | (exfalso; omega))⟩, gb_mk ht hW hPm hK hDm⟩, hS.F ht⟩) hS.2.2 dX6_cursor_70
          · refine lv_iload hx hb dX6_cursor_44 (lv_at hl 5 rfl) ?_
            refine lv_iload hx hb dX6_cursor_46 (lv_at hl 4 rfl) ?_
            refine wz_icmp_ge (tgt := 65) hx hb ((sc).toInt) ((sl).toInt) rfl rfl dX6_cursor_48 (by decide) (fun c48_12 => ?_) (fun c48_12 => ?_)
            · refine lv_aload_n hx hb dX6_cursor_65 rfl (lv_at hl 0 rfl) ?_
              refine lv_iconst (v := nI (2)) hx hb dX6_cursor_66 (by decide) ?_
              have hPm : va_P D vwCl (mW cI cJ cZ a (0) (lds) M) H := by exact hP
              have hDm : va_D A (mW cI cJ cZ a (0) (lds) M) := by exact hD
              refine wc_VWi (As := [.int (nI (2))]) (rest := []) (wf := mWu cI cJ cZ a) ⟨hx, hb, hml, hown, hts⟩ (c_X6_fails l D cI cJ cZ a (0) (lds) M hM (2) (by omega) H.size) (cwV 1 hts gX6_cursor_X6_fails rfl rfl rfl (by decide +kernel) ⟨Nat.le_of_ble_eq_true rfl, Nat.le_of_ble_eq_true rfl⟩) hPm hK hDm hS hA 0 rfl rfl rfl hl.1 rfl (Nat.le_of_ble_eq_true rfl) dX6_cursor_67 ⟨Nat.zero_le _, Nat.zero_le _⟩ (fun rr u13 hq13 H locs hP hD hS => ?_)
              obtain ⟨hr13, hu13⟩ := hq13
              subst hr13
              subst hu13
              have hP : va_P D vwCl (mX cI cJ cZ a (2) (lds) (m_n M) (m_sn M) (m_vn M) (m_rn M) (m_pn M) (m_nw M) (m_grp M) (m_key M) (m_srt M) (m_sd M) (m_go M) (m_seg M) (m_la M) (m_isN M) (m_drp M) (m_has M) (m_sees M) (m_isC M) (m_isG M) (m_ov M) (m_st M) (m_vo M) (m_ko M) (m_sl M) (m_sc M) (m_kp M) (m_en M) (m_pg M)) H := hP
              have hD : va_D A (mX cI cJ cZ a (2) (lds) (m_n M) (m_sn M) (m_vn M) (m_rn M) (m_pn M) (m_nw M) (m_grp M) (m_key M) (m_srt M) (m_sd M) (m_go M) (m_seg M) (m_la M) (m_isN M) (m_drp M) (m_has M) (m_sees M) (m_isC M) (m_isG M) (m_ov M) (m_st M) (m_vo M) (m_ko M) (m_sl M) (m_sc M) (m_kp M) (m_en M) (m_pg M)) := hD
              have hPm : va_P D vwCl (mW cI cJ cZ a (2) (lds) M) H := by exact hP
              have hDm : va_D A (mW cI cJ cZ a (2) (lds) M) := by exact hD
              exact W.iret (v := nI (0)) hx hb hr (fun t ht hW => ⟨⟨_, (2, lds, M), rfl, ⟨(by simp only [curR]; (repeat' split) <;> first | rfl | (exfalso; omega)), (by simp only [curT]; (repeat' split) <;> first | rfl | (exfalso; omega)), (by simp only [curM]; (repeat' split) <;> first | rfl | (exfalso; omega))⟩, gb_mk ht hW hPm hK hDm⟩, hS.F ht⟩) hS.2.2 dX6_cursor_70
            · refine lv_iload hx hb dX6_cursor_51 (lv_at hl 6 rfl) ?_
              refine lv_iconst (v := nI (1)) hx hb dX6_cursor_53 (by decide) ?_
              refine wz_icmp_lt (tgt := 65) hx hb ((kp).toInt) (((1 : Nat) : Int)) rfl (nI_z (by omega)) dX6_cursor_54 (by decide) (fun c54_14 => ?_) (fun c54_14 => ?_)
              · refine lv_aload_n hx hb dX6_cursor_65 rfl (lv_at hl 0 rfl) ?_
                refine lv_iconst (v := nI (2)) hx hb dX6_cursor_66 (by decide) ?_
                have hPm : va_P D vwCl (mW cI cJ cZ a (0) (lds) M) H := by exact hP
                have hDm : va_D A (mW cI cJ cZ a (0) (lds) M) := by exact hD
                refine wc_VWi (As := [.int (nI (2))]) (rest := []) (wf := mWu cI cJ cZ a) ⟨hx, hb, hml, hown, hts⟩ (c_X6_fails l D cI cJ cZ a (0) (lds) M hM (2) (by omega) H.size) (cwV 1 hts gX6_cursor_X6_fails rfl rfl rfl (by decide +kernel) ⟨Nat.le_of_ble_eq_true rfl, Nat.le_of_ble_eq_true rfl⟩) hPm hK hDm hS hA 0 rfl rfl rfl hl.1 rfl (Nat.le_of_ble_eq_true rfl) dX6_cursor_67 ⟨Nat.zero_le _, Nat.zero_le _⟩ (fun rr u15 hq15 H locs hP hD hS => ?_)
                obtain ⟨hr15, hu15⟩ := hq15
                subst hr15
                subst hu15
                have hP : va_P D vwCl (mX cI cJ cZ a (2) (lds) (m_n M) (m_sn M) (m_vn M) (m_rn M) (m_pn M) (m_nw M) (m_grp M) (m_key M) (m_srt M) (m_sd M) (m_go M) (m_seg M) (m_la M) (m_isN M) (m_drp M) (m_has M) (m_sees M) (m_isC M) (m_isG M) (m_ov M) (m_st M) (m_vo M) (m_ko M) (m_sl M) (m_sc M) (m_kp M) (m_en M) (m_pg M)) H := hP
                have hD : va_D A (mX cI cJ cZ a (2) (lds) (m_n M) (m_sn M) (m_vn M) (m_rn M) (m_pn M) (m_nw M) (m_grp M) (m_key M) (m_srt M) (m_sd M) (m_go M) (m_seg M) (m_la M) (m_isN M) (m_drp M) (m_has M) (m_sees M) (m_isC M) (m_isG M) (m_ov M) (m_st M) (m_vo M) (m_ko M) (m_sl M) (m_sc M) (m_kp M) (m_en M) (m_pg M)) := hD
                have hPm : va_P D vwCl (mW cI cJ cZ a (2) (lds) M) H := by exact hP
                have hDm : va_D A (mW cI cJ cZ a (2) (lds) M) := by exact hD
                exact W.iret (v := nI (0)) hx hb hr (fun t ht hW => ⟨⟨_, (2, lds, M), rfl, ⟨(by simp only [curR]; (repeat' split) <;> first | rfl | (exfalso; omega)), (by simp only [curT]; (repeat' split) <;> first | rfl | (exfalso; omega)), (by simp only [curM]; (repeat' split) <;> first | rfl | (exfalso; omega))⟩, gb_mk ht hW hPm hK hDm⟩, hS.F ht⟩) hS.2.2 dX6_cursor_70
              · refine lv_iload hx hb dX6_cursor_57 (lv_at hl 6 rfl) ?_
                refine lv_sipush (v := nI (1000)) hx hb dX6_cursor_59 (by decide) ?_
                refine wz_icmp_le (tgt := 71) hx hb ((kp).toInt) (((1000 : Nat) : Int)) rfl (nI_z (by omega)) dX6_cursor_62 (by decide) (fun c62_16 => ?_) (fun c62_16 => ?_)
                · refine lv_aload_n hx hb dX6_cursor_71 rfl (lv_at hl 0 rfl) ?_
                  refine va_get (ci := 6) (v := .ref (a 7)) (C := RX6) (T := TX6) (N := 30) hx hb hts hiX6 hown hK hP 0 rfl rfl 10 (by decide) hf1 (fun _ h9 => h9) rfl dX6_cursor_72 ?_
                  refine lv_iload_n hx hb dX6_cursor_75 rfl (lv_at hl 1 rfl) ?_
                  refine ww_top (y := nI (ix x)) (ix_n (by omega)) ?_
                  refine wa_i (i := ix x) (v := nI (m_st M (ix x))) hx hb hK hP 7 0 rfl rfl rfl (by omega) (by decide) dX6_cursor_76 ?_
                  refine wn_if_eq (a := m_st M (ix x)) (tgt := 86) hx hb (nr (h_st (ix x))) dX6_cursor_77 (by decide) (fun c77_17 => ?_) (fun c77_17 => ?_)
                  · refine lv_aload_n hx hb dX6_cursor_86 rfl (lv_at hl 0 rfl) ?_
                    refine va_get (ci := 6) (v := .int (nI (m_rn M))) (C := RX6) (T := TX6) (N := 30) hx hb hts hiX6 hown hK hP 0 rfl rfl 13 (by decide) hf2 (fun _ h9 => h9) rfl dX6_cursor_87 ?_
                    refine lv_bipush (v := nI (60)) hx hb dX6_cursor_90 (by decide) ?_
                    refine wn_icmp_ne (a := m_rn M) (b := 60) (tgt := 98) hx hb (nI_z (by omega)) (nI_z (by omega)) dX6_cursor_92 (by decide) (fun c92_18 => ?_) (fun c92_18 => ?_)
                    · refine lv_aload_n hx hb dX6_cursor_98 rfl (lv_at hl 0 rfl) ?_
                      refine lv_iload_n hx hb dX6_cursor_99 rfl (lv_at hl 1 rfl) ?_
                      refine ww_top (y := nI (ix x)) (ix_n (by omega)) ?_
                      refine lv_iload_n hx hb dX6_cursor_100 rfl (lv_at hl 2 rfl) ?_
                      refine ww_top (y := nI (ix y)) (ix_n (by omega)) ?_
                      refine lv_lload_n hx hb dX6_cursor_101 rfl (lv_at hl 3 rfl) ?_
                      refine lv_iconst (v := nI (1)) hx hb dX6_cursor_102 (by decide) ?_
                      refine ww_top (y := bI (true)) (rfl) ?_
                      have hPm : va_P D vwCl (mW cI cJ cZ a (0) (lds) M) H := by exact hP
                      have hDm : va_D A (mW cI cJ cZ a (0) (lds) M) := by exact hD
                      refine wc_VWi (As := [.int (nI (ix x)), .int (nI (ix y)), .long (sd), .int (bI (true))]) (rest := []) (wf := mWu cI cJ cZ a) ⟨hx, hb, hml, hown, hts⟩ (c_X6_addReader l D cI cJ cZ a (0) (lds) M hM (ix x) (ix y) (sd) (true) (by omega) H.size) (cwV 4 hts gX6_cursor_X6_addReader rfl rfl rfl (by decide +kernel) ⟨Nat.le_of_ble_eq_true rfl, Nat.le_of_ble_eq_true rfl⟩) hPm hK hDm hS hA 0 rfl rfl rfl hl.1 rfl (Nat.le_of_ble_eq_true rfl) dX6_cursor_103 ⟨Nat.zero_le _, Nat.zero_le _⟩ (fun rr u19 hq19 H locs hP hD hS => ?_)
                      obtain ⟨hr19, hu19a, hu19b, hu19c⟩ := hq19
                      subst hr19
                      obtain ⟨u191, u192, u193⟩ := u19
                      dsimp only at hu19a hu19b hu19c
                      have hu19a := hu19a.symm
                      have hu19b := hu19b.symm
                      have hu19c := hu19c.symm
                      subst hu19a
                      subst hu19b
                      subst hu19c
                      have hP : va_P D vwCl (mX cI cJ cZ a (0) (lds) (m_n M) (m_sn M) (m_vn M) (m_rn M + 1) (m_pn M) (m_nw M) (m_grp M) (m_key M) (m_srt M) (va_up (m_sd M) (m_rn M) (sd)) (m_go M) (m_seg M) (va_up (m_la M) (m_rn M) (((-1) : Int))) (m_isN M) (m_drp M) (m_has M) (m_sees M) (va_up (m_isC M) (m_rn M) (true)) (m_isG M) (m_ov M) (m_st M) (va_up (m_vo M) (m_rn M) (ix x)) (va_up (m_ko M) (m_rn M) (ix y)) (m_sl M) (m_sc M) (m_kp M) (m_en M) (m_pg M)) H := hP
                      have hD : va_D A (mX cI cJ cZ a (0) (lds) (m_n M) (m_sn M) (m_vn M) (m_rn M + 1) (m_pn M) (m_nw M) (m_grp M) (m_key M) (m_srt M) (va_up (m_sd M) (m_rn M) (sd)) (m_go M) (m_seg M) (va_up (m_la M) (m_rn M) (((-1) : Int))) (m_isN M) (m_drp M) (m_has M) (m_sees M) (va_up (m_isC M) (m_rn M) (true)) (m_isG M) (m_ov M) (m_st M) (va_up (m_vo M) (m_rn M) (ix x)) (va_up (m_ko M) (m_rn M) (ix y)) (m_sl M) (m_sc M) (m_kp M) (m_en M) (m_pg M)) := hD
                      refine lv_istore (lv' := [(8, .int (nI (m_rn M))), (0, .ref (a 0)), (1, .int (x)), (2, .int (y)), (3, .long (sd)), (5, .int (sl)), (6, .int (sc)), (7, .int (kp))]) hx hb dX6_cursor_106 hl (by decide) rfl (fun ls hl => ?_)
                      refine lv_aload_n hx hb dX6_cursor_108 rfl (lv_at hl 1 rfl) ?_
                      refine va_get (ci := 6) (v := .ref (a 14)) (C := RX6) (T := TX6) (N := 30) hx hb hts hiX6 hown hK hP 0 rfl rfl 18 (by decide) hf3 (fun _ h9 => h9) rfl dX6_cursor_109 ?_
                      refine lv_iload hx hb dX6_cursor_112 (lv_at hl 0 rfl) ?_
                      refine lv_iload hx hb dX6_cursor_114 (lv_at hl 5 rfl) ?_
                      refine ww_top (y := nI (ix sl)) (ix_n (by omega)) ?_
                      refine wa_ist (i := m_rn M) hx hb hK hP hD hS 14 0 rfl rfl (upd_nI (m_sl M) (m_rn M) (ix sl)) (by omega) (by decide) dX6_cursor_116 (fun H locs hP hD hS => ?_)
                      have hP : va_P D vwCl (mX cI cJ cZ a (0) (lds) (m_n M) (m_sn M) (m_vn M) (m_rn M + 1) (m_pn M) (m_nw M) (m_grp M) (m_key M) (m_srt M) (va_up (m_sd M) (m_rn M) (sd)) (m_go M) (m_seg M) (va_up (m_la M) (m_rn M) (((-1) : Int))) (m_isN M) (m_drp M) (m_has M) (m_sees M) (va_up (m_isC M) (m_rn M) (true)) (m_isG M) (m_ov M) (m_st M) (va_up (m_vo M) (m_rn M) (ix x)) (va_up (m_ko M) (m_rn M) (ix y)) (va_up (m_sl M) (m_rn M) (ix sl)) (m_sc M) (m_kp M) (m_en M) (m_pg M)) H := hP
                      have hD : va_D A (mX cI cJ cZ a (0) (lds) (m_n M) (m_sn M) (m_vn M) (m_rn M + 1) (m_pn M) (m_nw M) (m_grp M) (m_key M) (m_srt M) (va_up (m_sd M) (m_rn M) (sd)) (m_go M) (m_seg M) (va_up (m_la M) (m_rn M) (((-1) : Int))) (m_isN M) (m_drp M) (m_has M) (m_sees M) (va_up (m_isC M) (m_rn M) (true)) (m_isG M) (m_ov M) (m_st M) (va_up (m_vo M) (m_rn M) (ix x)) (va_up (m_ko M) (m_rn M) (ix y)) (va_up (m_sl M) (m_rn M) (ix sl)) (m_sc M) (m_kp M) (m_en M) (m_pg M)) := hD
                      refine lv_aload_n hx hb dX6_cursor_117 rfl (lv_at hl 1 rfl) ?_
                      refine va_get (ci := 6) (v := .ref (a 15)) (C := RX6) (T := TX6) (N := 30) hx hb hts hiX6 hown hK hP 0 rfl rfl 19 (by decide) hf4 (fun _ h9 => h9) rfl dX6_cursor_118 ?_
                      refine lv_iload hx hb dX6_cursor_121 (lv_at hl 0 rfl) ?_
                      refine lv_iload hx hb dX6_cursor_123 (lv_at hl 6 rfl) ?_
                      refine ww_top (y := nI (ix sc)) (ix_n (by omega)) ?_
                      refine wa_ist (i := m_rn M) hx hb hK hP hD hS 15 0 rfl rfl (upd_nI (m_sc M) (m_rn M) (ix sc)) (by omega) (by decide) dX6_cursor_125 (fun H locs hP hD hS => ?_)
                      have hP : va_P D vwCl (mX cI cJ cZ a (0) (lds) (m_n M) (m_sn M) (m_vn M) (m_rn M + 1) (m_pn M) (m_nw M) (m_grp M) (m_key M) (m_srt M) (va_up (m_sd M) (m_rn M) (sd)) (m_go M) (m_seg M) (va_up (m_la M) (m_rn M) (((-1) : Int))) (m_isN M) (m_drp M) (m_has M) (m_sees M) (va_up (m_isC M) (m_rn M) (true)) (m_isG M) (m_ov M) (m_st M) (va_up (m_vo M) (m_rn M) (ix x)) (va_up (m_ko M) (m_rn M) (ix y)) (va_up (m_sl M) (m_rn M) (ix sl)) (va_up (m_sc M) (m_rn M) (ix sc)) (m_kp M) (m_en M) (m_pg M)) H := hP
                      have hD : va_D A (mX cI cJ cZ a (0) (lds) (m_n M) (m_sn M) (m_vn M) (m_rn M + 1) (m_pn M) (m_nw M) (m_grp M) (m_key M) (m_srt M) (va_up (m_sd M) (m_rn M) (sd)) (m_go M) (m_seg M) (va_up (m_la M) (m_rn M) (((-1) : Int))) (m_isN M) (m_drp M) (m_has M) (m_sees M) (va_up (m_isC M) (m_rn M) (true)) (m_isG M) (m_ov M) (m_st M) (va_up (m_vo M) (m_rn M) (ix x)) (va_up (m_ko M) (m_rn M) (ix y)) (va_up (m_sl M) (m_rn M) (ix sl)) (va_up (m_sc M) (m_rn M) (ix sc)) (m_kp M) (m_en M) (m_pg M)) := hD
                      refine lv_aload_n hx hb dX6_cursor_126 rfl (lv_at hl 1 rfl) ?_
                      refine va_get (ci := 6) (v := .ref (a 16)) (C := RX6) (T := TX6) (N := 30) hx hb hts hiX6 hown hK hP 0 rfl rfl 20 (by decide) hf5 (fun _ h9 => h9) rfl dX6_cursor_127 ?_
                      refine lv_iload hx hb dX6_cursor_130 (lv_at hl 0 rfl) ?_
                      refine lv_iload hx hb dX6_cursor_132 (lv_at hl 7 rfl) ?_
                      refine ww_top (y := nI (ix kp)) (ix_n (by omega)) ?_
                      refine wa_ist (i := m_rn M) hx hb hK hP hD hS 16 0 rfl rfl (upd_nI (m_kp M) (m_rn M) (ix kp)) (by omega) (by decide) dX6_cursor_134 (fun H locs hP hD hS => ?_)
                      have hP : va_P D vwCl (mX cI cJ cZ a (0) (lds) (m_n M) (m_sn M) (m_vn M) (m_rn M + 1) (m_pn M) (m_nw M) (m_grp M) (m_key M) (m_srt M) (va_up (m_sd M) (m_rn M) (sd)) (m_go M) (m_seg M) (va_up (m_la M) (m_rn M) (((-1) : Int))) (m_isN M) (m_drp M) (m_has M) (m_sees M) (va_up (m_isC M) (m_rn M) (true)) (m_isG M) (m_ov M) (m_st M) (va_up (m_vo M) (m_rn M) (ix x)) (va_up (m_ko M) (m_rn M) (ix y)) (va_up (m_sl M) (m_rn M) (ix sl)) (va_up (m_sc M) (m_rn M) (ix sc)) (va_up (m_kp M) (m_rn M) (ix kp)) (m_en M) (m_pg M)) H := hP
                      have hD : va_D A (mX cI cJ cZ a (0) (lds) (m_n M) (m_sn M) (m_vn M) (m_rn M + 1) (m_pn M) (m_nw M) (m_grp M) (m_key M) (m_srt M) (va_up (m_sd M) (m_rn M) (sd)) (m_go M) (m_seg M) (va_up (m_la M) (m_rn M) (((-1) : Int))) (m_isN M) (m_drp M) (m_has M) (m_sees M) (va_up (m_isC M) (m_rn M) (true)) (m_isG M) (m_ov M) (m_st M) (va_up (m_vo M) (m_rn M) (ix x)) (va_up (m_ko M) (m_rn M) (ix y)) (va_up (m_sl M) (m_rn M) (ix sl)) (va_up (m_sc M) (m_rn M) (ix sc)) (va_up (m_kp M) (m_rn M) (ix kp)) (m_en M) (m_pg M)) := hD
                      refine lv_aload_n hx hb dX6_cursor_135 rfl (lv_at hl 1 rfl) ?_
                      refine va_get (ci := 6) (v := .ref (a 17)) (C := RX6) (T := TX6) (N := 30) hx hb hts hiX6 hown hK hP 0 rfl rfl 21 (by decide) hf6 (fun _ h9 => h9) rfl dX6_cursor_136 ?_
                      refine lv_iload hx hb dX6_cursor_139 (lv_at hl 0 rfl) ?_
                      refine lv_aload_n hx hb dX6_cursor_141 rfl (lv_at hl 1 rfl) ?_
                      refine va_get (ci := 6) (v := .int (nI (m_nw M))) (C := RX6) (T := TX6) (N := 30) hx hb hts hiX6 hown hK hP 0 rfl rfl 26 (by decide) hf7 (fun _ h9 => h9) rfl dX6_cursor_142 ?_
                      refine lv_iload hx hb dX6_cursor_145 (lv_at hl 7 rfl) ?_
                      refine lv_iadd hx hb dX6_cursor_147 (ww_top (y := zI (((m_nw M : Nat) : Int) + (kp).toInt)) (iz_add (nI_z (by omega)) rfl) ?_)
                      refine ww_top (y := nI (m_nw M + ix kp)) (cur_add (by omega)) ?_
                      refine wa_ist (i := m_rn M) hx hb hK hP hD hS 17 0 rfl rfl (upd_nI (m_en M) (m_rn M) (m_nw M + ix kp)) (by omega) (by decide) dX6_cursor_148 (fun H locs hP hD hS => ?_)
                      have hP : va_P D vwCl (mX cI cJ cZ a (0) (lds) (m_n M) (m_sn M) (m_vn M) (m_rn M + 1) (m_pn M) (m_nw M) (m_grp M) (m_key M) (m_srt M) (va_up (m_sd M) (m_rn M) (sd)) (m_go M) (m_seg M) (va_up (m_la M) (m_rn M) (((-1) : Int))) (m_isN M) (m_drp M) (m_has M) (m_sees M) (va_up (m_isC M) (m_rn M) (true)) (m_isG M) (m_ov M) (m_st M) (va_up (m_vo M) (m_rn M) (ix x)) (va_up (m_ko M) (m_rn M) (ix y)) (va_up (m_sl M) (m_rn M) (ix sl)) (va_up (m_sc M) (m_rn M) (ix sc)) (va_up (m_kp M) (m_rn M) (ix kp)) (va_up (m_en M) (m_rn M) (m_nw M + ix kp)) (m_pg M)) H := hP
                      have hD : va_D A (mX cI cJ cZ a (0) (lds) (m_n M) (m_sn M) (m_vn M) (m_rn M + 1) (m_pn M) (m_nw M) (m_grp M) (m_key M) (m_srt M) (va_up (m_sd M) (m_rn M) (sd)) (m_go M) (m_seg M) (va_up (m_la M) (m_rn M) (((-1) : Int))) (m_isN M) (m_drp M) (m_has M) (m_sees M) (va_up (m_isC M) (m_rn M) (true)) (m_isG M) (m_ov M) (m_st M) (va_up (m_vo M) (m_rn M) (ix x)) (va_up (m_ko M) (m_rn M) (ix y)) (va_up (m_sl M) (m_rn M) (ix sl)) (va_up (m_sc M) (m_rn M) (ix sc)) (va_up (m_kp M) (m_rn M) (ix kp)) (va_up (m_en M) (m_rn M) (m_nw M + ix kp)) (m_pg M)) := hD
                      refine lv_iload hx hb dX6_cursor_149 (lv_at hl 0 rfl) ?_
                      have hPm : va_P D vwCl (mW cI cJ cZ a (0) (lds) (mkM (m_n M) (m_sn M) (m_vn M) (m_rn M + 1) (m_pn M) (m_nw M) (m_grp M) (m_key M) (m_srt M) (va_up (m_sd M) (m_rn M) (sd)) (m_go M) (m_seg M) (va_up (m_la M) (m_rn M) (((-1) : Int))) (m_isN M) (m_drp M) (m_has M) (m_sees M) (va_up (m_isC M) (m_rn M) (true)) (m_isG M) (m_ov M) (m_st M) (va_up (m_vo M) (m_rn M) (ix x)) (va_up (m_ko M) (m_rn M) (ix y)) (va_up (m_sl M) (m_rn M) (ix sl)) (va_up (m_sc M) (m_rn M) (ix sc)) (va_up (m_kp M) (m_rn M) (ix kp)) (va_up (m_en M) (m_rn M) (m_nw M + ix kp)) (m_pg M))) H := by rw [← mX_mk]; exact hP
                      have hDm : va_D A (mW cI cJ cZ a (0) (lds) (mkM (m_n M) (m_sn M) (m_vn M) (m_rn M + 1) (m_pn M) (m_nw M) (m_grp M) (m_key M) (m_srt M) (va_up (m_sd M) (m_rn M) (sd)) (m_go M) (m_seg M) (va_up (m_la M) (m_rn M) (((-1) : Int))) (m_isN M) (m_drp M) (m_has M) (m_sees M) (va_up (m_isC M) (m_rn M) (true)) (m_isG M) (m_ov M) (m_st M) (va_up (m_vo M) (m_rn M) (ix x)) (va_up (m_ko M) (m_rn M) (ix y)) (va_up (m_sl M) (m_rn M) (ix sl)) (va_up (m_sc M) (m_rn M) (ix sc)) (va_up (m_kp M) (m_rn M) (ix kp)) (va_up (m_en M) (m_rn M) (m_nw M + ix kp)) (m_pg M))) := by rw [← mX_mk]; exact hD
                      exact W.iret (v := nI (m_rn M)) hx hb hr (fun t ht hW => ⟨⟨_, (0, lds, (mkM (m_n M) (m_sn M) (m_vn M) (m_rn M + 1) (m_pn M) (m_nw M) (m_grp M) (m_key M) (m_srt M) (va_up (m_sd M) (m_rn M) (sd)) (m_go M) (m_seg M) (va_up (m_la M) (m_rn M) (((-1) : Int))) (m_isN M) (m_drp M) (m_has M) (m_sees M) (va_up (m_isC M) (m_rn M) (true)) (m_isG M) (m_ov M) (m_st M) (va_up (m_vo M) (m_rn M) (ix x)) (va_up (m_ko M) (m_rn M) (ix y)) (va_up (m_sl M) (m_rn M) (ix sl)) (va_up (m_sc M) (m_rn M) (ix sc)) (va_up (m_kp M) (m_rn M) (ix kp)) (va_up (m_en M) (m_rn M) (m_nw M + ix kp)) (m_pg M))), rfl, ⟨(by simp only [curR]; (repeat' split) <;> first | rfl | (exfalso; omega)), (by simp only [curT]; (repeat' split) <;> first | rfl | (exfalso; omega)), (by simp only [curM]; (repeat' split) <;> first | rfl | (exfalso; omega))⟩, gb_mk ht hW hPm hK hDm⟩, hS.F ht⟩) hS.2.2 dX6_cursor_151
                    · refine lv_bipush (v := zI ((-4))) hx hb dX6_cursor_95 (by decide) ?_
                      have hPm : va_P D vwCl (mW cI cJ cZ a (0) (lds) M) H := by exact hP
                      have hDm : va_D A (mW cI cJ cZ a (0) (lds) M) := by exact hD
                      exact W.iret (v := zI ((-4))) hx hb hr (fun t ht hW => ⟨⟨_, (0, lds, M), rfl, ⟨(by simp only [curR]; (repeat' split) <;> first | rfl | (exfalso; omega)), (by simp only [curT]; (repeat' split) <;> first | rfl | (exfalso; omega)), (by simp only [curM]; (repeat' split) <;> first | rfl | (exfalso; omega))⟩, gb_mk ht hW hPm hK hDm⟩, hS.F ht⟩) hS.2.2 dX6_cursor_97
                  · refine lv_aload_n hx hb dX6_cursor_80 rfl (lv_at hl 0 rfl) ?_
                    refine lv_iconst (v := nI (3)) hx hb dX6_cursor_81 (by decide) ?_
                    have hPm : va_P D vwCl (mW cI cJ cZ a (0) (lds) M) H := by exact hP
                    have hDm : va_D A (mW cI cJ cZ a (0) (lds) M) := by exact hD
                    refine wc_VWi (As := [.int (nI (3))]) (rest := []) (wf := mWu cI cJ cZ a) ⟨hx, hb, hml, hown, hts⟩ (c_X6_fails l D cI cJ cZ a (0) (lds) M hM (3) (by omega) H.size) (cwV 1 hts gX6_cursor_X6_fails rfl rfl rfl (by decide +kernel) ⟨Nat.le_of_ble_eq_true rfl, Nat.le_of_ble_eq_true rfl⟩) hPm hK hDm hS hA 0 rfl rfl rfl hl.1 rfl (Nat.le_of_ble_eq_true rfl) dX6_cursor_82 ⟨Nat.zero_le _, Nat.zero_le _⟩ (fun rr u20 hq20 H locs hP hD hS => ?_)
                    obtain ⟨hr20, hu20⟩ := hq20
                    subst hr20
                    subst hu20
                    have hP : va_P D vwCl (mX cI cJ cZ a (3) (lds) (m_n M) (m_sn M) (m_vn M) (m_rn M) (m_pn M) (m_nw M) (m_grp M) (m_key M) (m_srt M) (m_sd M) (m_go M) (m_seg M) (m_la M) (m_isN M) (m_drp M) (m_has M) (m_sees M) (m_isC M) (m_isG M) (m_ov M) (m_st M) (m_vo M) (m_ko M) (m_sl M) (m_sc M) (m_kp M) (m_en M) (m_pg M)) H := hP
                    have hD : va_D A (mX cI cJ cZ a (3) (lds) (m_n M) (m_sn M) (m_vn M) (m_rn M) (m_pn M) (m_nw M) (m_grp M) (m_key M) (m_srt M) (m_sd M) (m_go M) (m_seg M) (m_la M) (m_isN M) (m_drp M) (m_has M) (m_sees M) (m_isC M) (m_isG M) (m_ov M) (m_st M) (m_vo M) (m_ko M) (m_sl M) (m_sc M) (m_kp M) (m_en M) (m_pg M)) := hD
                    have hPm : va_P D vwCl (mW cI cJ cZ a (3) (lds) M) H := by exact hP
                    have hDm : va_D A (mW cI cJ cZ a (3) (lds) M) := by exact hD
                    exact W.iret (v := nI (0)) hx hb hr (fun t ht hW => ⟨⟨_, (3, lds, M), rfl, ⟨(by simp only [curR]; (repeat' split) <;> first | rfl | (exfalso; omega)), (by simp only [curT]; (repeat' split) <;> first | rfl | (exfalso; omega)), (by simp only [curM]; (repeat' split) <;> first | rfl | (exfalso; omega))⟩, gb_mk ht hW hPm hK hDm⟩, hS.F ht⟩) hS.2.2 dX6_cursor_85
                · refine lv_aload_n hx hb dX6_cursor_65 rfl (lv_at hl 0 rfl) ?_
                  refine lv_iconst (v := nI (2)) hx hb dX6_cursor_66 (by decide) ?_
                  have hPm : va_P D vwCl (mW cI cJ cZ a (0) (lds) M) H := by exact hP
                  have hDm : va_D A (mW cI cJ cZ a (0) (lds) M) := by exact hD
                  refine wc_VWi (As := [.int (nI (2))]) (rest := []) (wf := mWu cI cJ cZ a) ⟨hx, hb, hml, hown, hts⟩ (c_X6_fails l D cI cJ cZ a (0) (lds) M hM (2) (by omega) H.size) (cwV 1 hts gX6_cursor_X6_fails rfl rfl rfl (by decide +kernel) ⟨Nat.le_of_ble_eq_true rfl, Nat.le_of_ble_eq_true rfl⟩) hPm hK hDm hS hA 0 rfl rfl rfl hl.1 rfl (Nat.le_of_ble_eq_true rfl) dX6_cursor_67 ⟨Nat.zero_le _, Nat.zero_le _⟩ (fun rr u21 hq21 H locs hP hD hS => ?_)
                  obtain ⟨hr21, hu21⟩ := hq21
                  subst hr21
                  subst hu21
                  have hP : va_P D vwCl (mX cI cJ cZ a (2) (lds) (m_n M) (m_sn M) (m_vn M) (m_rn M) (m_pn M) (m_nw M) (m_grp M) (m_key M) (m_srt M) (m_sd M) (m_go M) (m_seg M) (m_la M) (m_isN M) (m_drp M) (m_has M) (m_sees M) (m_isC M) (m_isG M) (m_ov M) (m_st M) (m_vo M) (m_ko M) (m_sl M) (m_sc M) (m_kp M) (m_en M) (m_pg M)) H := hP
                  have hD : va_D A (mX cI cJ cZ a (2) (lds) (m_n M) (m_sn M) (m_vn M) (m_rn M) (m_pn M) (m_nw M) (m_grp M) (m_key M) (m_srt M) (m_sd M) (m_go M) (m_seg M) (m_la M) (m_isN M) (m_drp M) (m_has M) (m_sees M) (m_isC M) (m_isG M) (m_ov M) (m_st M) (m_vo M) (m_ko M) (m_sl M) (m_sc M) (m_kp M) (m_en M) (m_pg M)) := hD
                  have hPm : va_P D vwCl (mW cI cJ cZ a (2) (lds) M) H := by exact hP
                  have hDm : va_D A (mW cI cJ cZ a (2) (lds) M) := by exact hD
                  exact W.iret (v := nI (0)) hx hb hr (fun t ht hW => ⟨⟨_, (2, lds, M), rfl, ⟨(by simp only [curR]; (repeat' split) <;> first | rfl | (exfalso; omega)), (by simp only [curT]; (repeat' split) <;> first | rfl | (exfalso; omega)), (by simp only [curM]; (repeat' split) <;> first | rfl | (exfalso; omega))⟩, gb_mk ht hW hPm hK hDm⟩, hS.F ht⟩) hS.2.2 dX6_cursor_70
  · have c10_2p := of_decide_eq_false c10_2
    refine lv_aload_n hx hb dX6_cursor_13 rfl (lv_at hl 0 rfl) ?_
    refine lv_iconst (v := nI (1)) hx hb dX6_cursor_14 (by decide) ?_
    have hPm : va_P D vwCl (mW cI cJ cZ a (0) (lds) M) H := by exact hP
    have hDm : va_D A (mW cI cJ cZ a (0) (lds) M) := by exact hD
    refine wc_VWi (As := [.int (nI (1))]) (rest := []) (wf := mWu cI cJ cZ a) ⟨hx, hb, hml, hown, hts⟩ (c_X6_fails l D cI cJ cZ a (0) (lds) M hM (1) (by omega) H.size) (cwV 1 hts gX6_cursor_X6_fails rfl rfl rfl (by decide +kernel) ⟨Nat.le_of_ble_eq_true rfl, Nat.le_of_ble_eq_true rfl⟩) hPm hK hDm hS hA 0 rfl rfl rfl hl.1 rfl (Nat.le_of_ble_eq_true rfl) dX6_cursor_15 ⟨Nat.zero_le _, Nat.zero_le _⟩ (fun rr u22 hq22 H locs hP hD hS => ?_)
    obtain ⟨hr22, hu22⟩ := hq22
    subst hr22
    subst hu22
    have hP : va_P D vwCl (mX cI cJ cZ a (1) (lds) (m_n M) (m_sn M) (m_vn M) (m_rn M) (m_pn M) (m_nw M) (m_grp M) (m_key M) (m_srt M) (m_sd M) (m_go M) (m_seg M) (m_la M) (m_isN M) (m_drp M) (m_has M) (m_sees M) (m_isC M) (m_isG M) (m_ov M) (m_st M) (m_vo M) (m_ko M) (m_sl M) (m_sc M) (m_kp M) (m_en M) (m_pg M)) H := hP
    have hD : va_D A (mX cI cJ cZ a (1) (lds) (m_n M) (m_sn M) (m_vn M) (m_rn M) (m_pn M) (m_nw M) (m_grp M) (m_key M) (m_srt M) (m_sd M) (m_go M) (m_seg M) (m_la M) (m_isN M) (m_drp M) (m_has M) (m_sees M) (m_isC M) (m_isG M) (m_ov M) (m_st M) (m_vo M) (m_ko M) (m_sl M) (m_sc M) (m_kp M) (m_en M) (m_pg M)) := hD
    have hPm : va_P D vwCl (mW cI cJ cZ a (1) (lds) M) H := by exact hP
    have hDm : va_D A (mW cI cJ cZ a (1) (lds) M) := by exact hD
    exact W.iret (v := nI (0)) hx hb hr (fun t ht hW => ⟨⟨_, (1, lds, M), rfl, ⟨(by simp only [curR]; (repeat' split) <;> first | rfl | (exfalso; omega)), (by simp only [curT]; (repeat' split) <;> first | rfl | (exfalso; omega)), (by simp only [curM]; (repeat' split) <;> first | rfl | (exfalso; omega))⟩, gb_mk ht hW hPm hK hDm⟩, hS.F ht⟩) hS.2.2 dX6_cursor_18
def rm_X6_iterator : Room := { frames := 4, cells := 0, slots := 0, locals := 109 }
set_option maxHeartbeats 4000000 in
set_option maxRecDepth 100000 in
/-- an iterator -/
theorem c_X6_iterator (l : Launch) (D : va_G) (cI cJ cZ : ClassId) (a : Nat → Nat) (th : Nat) (lds : Nat → Bool) (M : MT) (hM : mOk M) (x y : Int32) (sd : Int64) (z : Int32) (hld : 0 ≤ z.toInt → itT M x y sd z = 0 → 0 ≤ leaderM (it1 M x y sd true) (ix x) (ix y) sd (ix z)) (sz : Nat) : Met l yX6_iterator wsX6_iterator rm_X6_iterator (va_Pc [.ref (a 0), .int (x), .int (y), .long (sd), .int (z)] (GW D (tyW cI cJ cZ) (mW cI cJ cZ a (th) (lds) M) sz)) (va_Qi (fun rr u => rr = itR M x y sd z ∧ u.1 = itT M x y sd z ∧ u.2.2 = itM M x y sd z) (fun u => GB D (tyW cI cJ cZ) (va_A (mW cI cJ cZ a (th) (lds) M) sz) (mWu cI cJ cZ a u)) (va_A (mW cI cJ cZ a (th) (lds) M) sz)) 0 0 (va_A (mW cI cJ cZ a (th) (lds) M) sz) := by
  obtain ⟨hn, hsn, hvn, hrn, hpn, hnw, h_seg, h_la, h_st, h_vo, h_ko, h_sl, h_sc, h_kp, h_en, h_pg, hvo, hko, hsl, hsc⟩ := id hM
  have hixx := ix_c x
  have hixy := ix_c y
  have hixz := ix_c z
  refine Met.ofW (cc := cX6_iterator) (maxL := 7) (ret := (some .int)) (by decide) rfl ?_
  intro p e s m args below meth c s₁ B hml hv
  obtain ⟨rfl, hsz, hP, hK, hD0⟩ := hv
  have hx := B.exec
  have hb := B.bytes
  have hr := B.returns
  have hts := atoms_spec (ws := wsX6_iterator) B.pre
  have hown : s.vm.findClass RX6 = some m.cls := findClass_of_methodNamed B.named
  have hlocks := B.notSynchronized
  subst hsz
  have hD := hD0.self (sz := s.heap.size)
  generalize hAe : va_A (mW cI cJ cZ a (th) (lds) M) s.heap.size = A at hD ⊢
  have hA : ∀ q : Nat, s.heap.size ≤ q → A q := fun q h => by rw [← hAe]; exact Or.inr h
  have hS : va_S A s.heap s.heap [] := va_S.rf
  have hP : va_P D vwCl (mX cI cJ cZ a (th) (lds) (m_n M) (m_sn M) (m_vn M) (m_rn M) (m_pn M) (m_nw M) (m_grp M) (m_key M) (m_srt M) (m_sd M) (m_go M) (m_seg M) (m_la M) (m_isN M) (m_drp M) (m_has M) (m_sees M) (m_isC M) (m_isG M) (m_ov M) (m_st M) (m_vo M) (m_ko M) (m_sl M) (m_sc M) (m_kp M) (m_en M) (m_pg M)) s.heap := hP
  have hD : va_D A (mX cI cJ cZ a (th) (lds) (m_n M) (m_sn M) (m_vn M) (m_rn M) (m_pn M) (m_nw M) (m_grp M) (m_key M) (m_srt M) (m_sd M) (m_go M) (m_seg M) (m_la M) (m_isN M) (m_drp M) (m_has M) (m_sees M) (m_isC M) (m_isG M) (m_ov M) (m_st M) (m_vo M) (m_ko M) (m_sl M) (m_sc M) (m_kp M) (m_en M) (m_pg M)) := hD
  have hiX6 : ∀ w ∈ wsX60, w ∈ wsX6_iterator := by decide +kernel
  have hf0 := hts (.fieldLink RX6 81 "GroupCursorsModel" "thrown" "I") (by decide +kernel)
  have hf1 := hts (.fieldLink RX6 30 "GroupCursorsModel" "state" "[I") (by decide +kernel)
  have hf2 := hts (.fieldLink RX6 134 "GroupCursorsModel" "readers" "I") (by decide +kernel)
  have hf3 := hts (.fieldLink RX6 63 "GroupCursorsModel" "isGrouped" "[Z") (by decide +kernel)
  have hf4 := hts (.fieldLink RX6 66 "GroupCursorsModel" "groupOf" "[J") (by decide +kernel)
  have hf5 := hts (.fieldLink RX6 69 "GroupCursorsModel" "isOver" "[Z") (by decide +kernel)
  have hf6 := hts (.fieldLink RX6 7 "GroupCursorsModel" "group" "[J") (by decide +kernel)
  have hl := lv_entry ([.ref (a 0), .int (x), .int (y), .long (sd), .int (z)]) (n := 7) (Nat.le_of_ble_eq_true rfl)
  rw [lg_entry_eq]
  generalize (lg_sl ([.ref (a 0), .int (x), .int (y), .long (sd), .int (z)]) ++ List.replicate (7 - (lg_sl ([.ref (a 0), .int (x), .int (y), .long (sd), .int (z)])).length) Slot.unset).toArray = ls at hl ⊢
  have hl : lv_has ls 7 [(0, .ref (a 0)), (1, .int (x)), (2, .int (y)), (3, .long (sd)), (5, .int (z))] := hl
  refine lv_aload_n hx hb dX6_iterator_0 rfl (lv_at hl 0 rfl) ?_
  refine lv_iconst (v := nI (0)) hx hb dX6_iterator_1 (by decide) ?_
  refine va_put (ci := 6) (v := .int (nI (0))) (ty := .int) (C := RX6) (T := TX6) (N := 30) hx hb hts hiX6 tyX6 tyX6_ok nmX6 hown hK hP hD hS 0 rfl rfl 0 (by decide) hf0 (fun _ h9 => h9) rfl (by decide +kernel) rfl rfl (Nat.le_of_ble_eq_true rfl) dX6_iterator_2 (fun H locs hP hD hS => ?_)
  have hP : va_P D vwCl (mX cI cJ cZ a (0) (lds) (m_n M) (m_sn M) (m_vn M) (m_rn M) (m_pn M) (m_nw M) (m_grp M) (m_key M) (m_srt M) (m_sd M) (m_go M) (m_seg M) (m_la M) (m_isN M) (m_drp M) (m_has M) (m_sees M) (m_isC M) (m_isG M) (m_ov M) (m_st M) (m_vo M) (m_ko M) (m_sl M) (m_sc M) (m_kp M) (m_en M) (m_pg M)) H := hP
  have hD : va_D A (mX cI cJ cZ a (0) (lds) (m_n M) (m_sn M) (m_vn M) (m_rn M) (m_pn M) (m_nw M) (m_grp M) (m_key M) (m_srt M) (m_sd M) (m_go M) (m_seg M) (m_la M) (m_isN M) (m_drp M) (m_has M) (m_sees M) (m_isC M) (m_isG M) (m_ov M) (m_st M) (m_vo M) (m_ko M) (m_sl M) (m_sc M) (m_kp M) (m_en M) (m_pg M)) := hD
  refine lv_aload_n hx hb dX6_iterator_5 rfl (lv_at hl 0 rfl) ?_
  refine lv_iload_n hx hb dX6_iterator_6 rfl (lv_at hl 1 rfl) ?_
  have hPm : va_P D vwCl (mW cI cJ cZ a (0) (lds) M) H := by exact hP
  refine wc_Vi (As := [.int (x)]) (rest := []) ⟨hx, hb, hml, hown, hts⟩ (c_X6_isView l D cI cJ cZ a (0) (lds) M hM (x)) (cwV 1 hts gX6_iterator_X6_isView rfl rfl rfl (by decide +kernel) ⟨Nat.le_of_ble_eq_true rfl, Nat.le_of_ble_eq_true rfl⟩) hPm hK 0 rfl rfl rfl hl.1 rfl (Nat.le_of_ble_eq_true rfl) dX6_iterator_7 ⟨Nat.zero_le _, Nat.zero_le _⟩ (fun rr hq1 => ?_)
  have hq1 : rr = bI (decide (0 ≤ (x).toInt ∧ (x).toInt < (m_vn M : Int))) := hq1
  subst hq1
  refine wb_if_eq (tgt := 29) hx hb dX6_iterator_10 (by decide) (fun c10_2 => ?_) (fun c10_2 => ?_)
  · have c10_2p := of_decide_eq_false c10_2
    refine lv_aload_n hx hb dX6_iterator_29 rfl (lv_at hl 0 rfl) ?_
    refine lv_iconst (v := nI (1)) hx hb dX6_iterator_30 (by decide) ?_
    have hPm : va_P D vwCl (mW cI cJ cZ a (0) (lds) M) H := by exact hP
    have hDm : va_D A (mW cI cJ cZ a (0) (lds) M) := by exact hD
    refine wc_VWi (As := [.int (nI (1))]) (rest := []) (wf := mWu cI cJ cZ a) ⟨hx, hb, hml, hown, hts⟩ (c_X6_fails l D cI cJ cZ a (0) (lds) M hM (1) (by omega) H.size) (cwV 1 hts gX6_iterator_X6_fails rfl rfl rfl (by decide +kernel) ⟨Nat.le_of_ble_eq_true rfl, Nat.le_of_ble_eq_true rfl⟩) hPm hK hDm hS hA 0 rfl rfl rfl hl.1 rfl (Nat.le_of_ble_eq_true rfl) dX6_iterator_31 ⟨Nat.zero_le _, Nat.zero_le _⟩ (fun rr u3 hq3 H locs hP hD hS => ?_)
    obtain ⟨hr3, hu3⟩ := hq3
    subst hr3
    subst hu3
    have hP : va_P D vwCl (mX cI cJ cZ a (1) (lds) (m_n M) (m_sn M) (m_vn M) (m_rn M) (m_pn M) (m_nw M) (m_grp M) (m_key M) (m_srt M) (m_sd M) (m_go M) (m_seg M) (m_la M) (m_isN M) (m_drp M) (m_has M) (m_sees M) (m_isC M) (m_isG M) (m_ov M) (m_st M) (m_vo M) (m_ko M) (m_sl M) (m_sc M) (m_kp M) (m_en M) (m_pg M)) H := hP
    have hD : va_D A (mX cI cJ cZ a (1) (lds) (m_n M) (m_sn M) (m_vn M) (m_rn M) (m_pn M) (m_nw M) (m_grp M) (m_key M) (m_srt M) (m_sd M) (m_go M) (m_seg M) (m_la M) (m_isN M) (m_drp M) (m_has M) (m_sees M) (m_isC M) (m_isG M) (m_ov M) (m_st M) (m_vo M) (m_ko M) (m_sl M) (m_sc M) (m_kp M) (m_en M) (m_pg M)) := hD
    have hPm : va_P D vwCl (mW cI cJ cZ a (1) (lds) M) H := by exact hP
    have hDm : va_D A (mW cI cJ cZ a (1) (lds) M) := by exact hD
    exact W.iret (v := nI (0)) hx hb hr (fun t ht hW => ⟨⟨_, (1, lds, M), rfl, ⟨(by simp only [itR]; (repeat' split) <;> first | rfl | (exfalso; omega)), (by simp only [itT]; (repeat' split) <;> first | rfl | (exfalso; omega)), (by simp only [itM]; (repeat' split) <;> first | rfl | (exfalso; omega))⟩, gb_mk ht hW hPm hK hDm⟩, hS.F ht⟩) hS.2.2 dX6_iterator_34
  · have c10_2p := of_decide_eq_true c10_2
    refine lv_iload hx hb dX6_iterator_13 (lv_at hl 4 rfl) ?_
    refine lv_iconst (v := zI ((-1))) hx hb dX6_iterator_15 (by decide) ?_
    refine wz_icmp_lt (tgt := 29) hx hb ((z).toInt) (((-1) : Int)) rfl (zI_toInt (by omega) (by omega)) dX6_iterator_16 (by decide) (fun c16_4 => ?_) (fun c16_4 => ?_)
    · refine lv_aload_n hx hb dX6_iterator_29 rfl (lv_at hl 0 rfl) ?_
      refine lv_iconst (v := nI (1)) hx hb dX6_iterator_30 (by decide) ?_
      have hPm : va_P D vwCl (mW cI cJ cZ a (0) (lds) M) H := by exact hP
      have hDm : va_D A (mW cI cJ cZ a (0) (lds) M) := by exact hD
      refine wc_VWi (As := [.int (nI (1))]) (rest := []) (wf := mWu cI cJ cZ a) ⟨hx, hb, hml, hown, hts⟩ (c_X6_fails l D cI cJ cZ a (0) (lds) M hM (1) (by omega) H.size) (cwV 1 hts gX6_iterator_X6_fails rfl rfl rfl (by decide +kernel) ⟨Nat.le_of_ble_eq_true rfl, Nat.le_of_ble_eq_true rfl⟩) hPm hK hDm hS hA 0 rfl rfl rfl hl.1 rfl (Nat.le_of_ble_eq_true rfl) dX6_iterator_31 ⟨Nat.zero_le _, Nat.zero_le _⟩ (fun rr u5 hq5 H locs hP hD hS => ?_)
      obtain ⟨hr5, hu5⟩ := hq5
      subst hr5
      subst hu5
      have hP : va_P D vwCl (mX cI cJ cZ a (1) (lds) (m_n M) (m_sn M) (m_vn M) (m_rn M) (m_pn M) (m_nw M) (m_grp M) (m_key M) (m_srt M) (m_sd M) (m_go M) (m_seg M) (m_la M) (m_isN M) (m_drp M) (m_has M) (m_sees M) (m_isC M) (m_isG M) (m_ov M) (m_st M) (m_vo M) (m_ko M) (m_sl M) (m_sc M) (m_kp M) (m_en M) (m_pg M)) H := hP
      have hD : va_D A (mX cI cJ cZ a (1) (lds) (m_n M) (m_sn M) (m_vn M) (m_rn M) (m_pn M) (m_nw M) (m_grp M) (m_key M) (m_srt M) (m_sd M) (m_go M) (m_seg M) (m_la M) (m_isN M) (m_drp M) (m_has M) (m_sees M) (m_isC M) (m_isG M) (m_ov M) (m_st M) (m_vo M) (m_ko M) (m_sl M) (m_sc M) (m_kp M) (m_en M) (m_pg M)) := hD
      have hPm : va_P D vwCl (mW cI cJ cZ a (1) (lds) M) H := by exact hP
      have hDm : va_D A (mW cI cJ cZ a (1) (lds) M) := by exact hD
      exact W.iret (v := nI (0)) hx hb hr (fun t ht hW => ⟨⟨_, (1, lds, M), rfl, ⟨(by simp only [itR]; (repeat' split) <;> first | rfl | (exfalso; omega)), (by simp only [itT]; (repeat' split) <;> first | rfl | (exfalso; omega)), (by simp only [itM]; (repeat' split) <;> first | rfl | (exfalso; omega))⟩, gb_mk ht hW hPm hK hDm⟩, hS.F ht⟩) hS.2.2 dX6_iterator_34
    · refine lv_iload hx hb dX6_iterator_19 (lv_at hl 4 rfl) ?_
      refine lv_aload_n hx hb dX6_iterator_21 rfl (lv_at hl 0 rfl) ?_
      refine lv_iload_n hx hb dX6_iterator_22 rfl (lv_at hl 1 rfl) ?_
      refine ww_top (y := nI (ix x)) (ix_n (by omega)) ?_
      have hPm : va_P D vwCl (mW cI cJ cZ a (0) (lds) M) H := by exact hP
      refine wc_Vi (As := [.int (nI (ix x))]) (rest := [.int (z)]) ⟨hx, hb, hml, hown, hts⟩ (c_X6_groupCount l D cI cJ cZ a (0) (lds) M hM (ix x) (by omega)) (cwV 1 hts gX6_iterator_X6_groupCount rfl rfl rfl (by decide +kernel) ⟨Nat.le_of_ble_eq_true rfl, Nat.le_of_ble_eq_true rfl⟩) hPm hK 0 rfl rfl rfl hl.1 rfl (Nat.le_of_ble_eq_true rfl) dX6_iterator_23 ⟨Nat.zero_le _, Nat.zero_le _⟩ (fun rr hq6 => ?_)
      have hq6 : rr = nI (groupCount M (ix x)) := hq6
      subst hq6
      have hle7 : groupCount M (ix x) ≤ 300 := Nat.le_trans (cnt_le _ _) hn
      refine wz_icmp_lt (tgt := 35) hx hb ((z).toInt) (((groupCount M (ix x) : Nat) : Int)) rfl (nI_z (by omega)) dX6_iterator_26 (by decide) (fun c26_8 => ?_) (fun c26_8 => ?_)
      · refine lv_iload_n hx hb dX6_iterator_35 rfl (lv_at hl 2 rfl) ?_
        have hPm : va_P D vwCl (mW cI cJ cZ a (0) (lds) M) H := by exact hP
        refine wc_Si (As := [.int (y)]) (rest := []) ⟨hx, hb, hml, hown, hts⟩ (c_X6_isKind l D cI cJ cZ a (0) (lds) M hM (y)) (va_cwS 1 hts gX6_iterator_X6_isKind rfl rfl rfl (by decide +kernel) ⟨Nat.le_of_ble_eq_true rfl, Nat.le_of_ble_eq_true rfl⟩) hPm hK rfl hl.1 rfl (Nat.le_of_ble_eq_true rfl) dX6_iterator_36 ⟨Nat.zero_le _, Nat.zero_le _⟩ (fun rr hq9 => ?_)
        have hq9 : rr = bI (decide (0 ≤ (y).toInt ∧ (y).toInt < 3)) := hq9
        subst hq9
        refine wb_if_ne (tgt := 48) hx hb dX6_iterator_39 (by decide) (fun c39_10 => ?_) (fun c39_10 => ?_)
        · have c39_10p := of_decide_eq_true c39_10
          refine lv_aload_n hx hb dX6_iterator_48 rfl (lv_at hl 0 rfl) ?_
          refine va_get (ci := 6) (v := .ref (a 7)) (C := RX6) (T := TX6) (N := 30) hx hb hts hiX6 hown hK hP 0 rfl rfl 10 (by decide) hf1 (fun _ h9 => h9) rfl dX6_iterator_49 ?_
          refine lv_iload_n hx hb dX6_iterator_52 rfl (lv_at hl 1 rfl) ?_
          refine ww_top (y := nI (ix x)) (ix_n (by omega)) ?_
          refine wa_i (i := ix x) (v := nI (m_st M (ix x))) hx hb hK hP 7 0 rfl rfl rfl (by omega) (by decide) dX6_iterator_53 ?_
          refine wn_if_eq (a := m_st M (ix x)) (tgt := 63) hx hb (nr (h_st (ix x))) dX6_iterator_54 (by decide) (fun c54_11 => ?_) (fun c54_11 => ?_)
          · refine lv_aload_n hx hb dX6_iterator_63 rfl (lv_at hl 0 rfl) ?_
            refine va_get (ci := 6) (v := .int (nI (m_rn M))) (C := RX6) (T := TX6) (N := 30) hx hb hts hiX6 hown hK hP 0 rfl rfl 13 (by decide) hf2 (fun _ h9 => h9) rfl dX6_iterator_64 ?_
            refine lv_bipush (v := nI (60)) hx hb dX6_iterator_67 (by decide) ?_
            refine wn_icmp_ne (a := m_rn M) (b := 60) (tgt := 75) hx hb (nI_z (by omega)) (nI_z (by omega)) dX6_iterator_69 (by decide) (fun c69_12 => ?_) (fun c69_12 => ?_)
            · have hgc : groupCount M (ix x) ≤ 300 := Nat.le_trans (cnt_le _ _) hn
              refine lv_aload_n hx hb dX6_iterator_75 rfl (lv_at hl 0 rfl) ?_
              refine lv_iload_n hx hb dX6_iterator_76 rfl (lv_at hl 1 rfl) ?_
              refine ww_top (y := nI (ix x)) (ix_n (by omega)) ?_
              refine lv_iload_n hx hb dX6_iterator_77 rfl (lv_at hl 2 rfl) ?_
              refine ww_top (y := nI (ix y)) (ix_n (by omega)) ?_
              refine lv_lload_n hx hb dX6_iterator_78 rfl (lv_at hl 3 rfl) ?_
              refine lv_iconst (v := nI (0)) hx hb dX6_iterator_79 (by decide) ?_
              refine ww_top (y := bI (false)) (rfl) ?_
              have hPm : va_P D vwCl (mW cI cJ cZ a (0) (lds) M) H := by exact hP
              have hDm : va_D A (mW cI cJ cZ a (0) (lds) M) := by exact hD
              refine wc_VWi (As := [.int (nI (ix x)), .int (nI (ix y)), .long (sd), .int (bI (false))]) (rest := []) (wf := mWu cI cJ cZ a) ⟨hx, hb, hml, hown, hts⟩ (c_X6_addReader l D cI cJ cZ a (0) (lds) M hM (ix x) (ix y) (sd) (false) (by omega) H.size) (cwV 4 hts gX6_iterator_X6_addReader rfl rfl rfl (by decide +kernel) ⟨Nat.le_of_ble_eq_true rfl, Nat.le_of_ble_eq_true rfl⟩) hPm hK hDm hS hA 0 rfl rfl rfl hl.1 rfl (Nat.le_of_ble_eq_true rfl) dX6_iterator_80 ⟨Nat.zero_le _, Nat.zero_le _⟩ (fun rr u13 hq13 H locs hP hD hS => ?_)
              obtain ⟨hr13, hu13a, hu13b, hu13c⟩ := hq13
              subst hr13
              obtain ⟨u131, u132, u133⟩ := u13
              dsimp only at hu13a hu13b hu13c
              have hu13a := hu13a.symm
              have hu13b := hu13b.symm
              have hu13c := hu13c.symm
              subst hu13a
              subst hu13b
              subst hu13c
              have hP : va_P D vwCl (mX cI cJ cZ a (0) (lds) (m_n M) (m_sn M) (m_vn M) (m_rn M + 1) (m_pn M) (m_nw M) (m_grp M) (m_key M) (m_srt M) (va_up (m_sd M) (m_rn M) (sd)) (m_go M) (m_seg M) (va_up (m_la M) (m_rn M) (((-1) : Int))) (m_isN M) (m_drp M) (m_has M) (m_sees M) (va_up (m_isC M) (m_rn M) (false)) (m_isG M) (m_ov M) (m_st M) (va_up (m_vo M) (m_rn M) (ix x)) (va_up (m_ko M) (m_rn M) (ix y)) (m_sl M) (m_sc M) (m_kp M) (m_en M) (m_pg M)) H := hP
              have hD : va_D A (mX cI cJ cZ a (0) (lds) (m_n M) (m_sn M) (m_vn M) (m_rn M + 1) (m_pn M) (m_nw M) (m_grp M) (m_key M) (m_srt M) (va_up (m_sd M) (m_rn M) (sd)) (m_go M) (m_seg M) (va_up (m_la M) (m_rn M) (((-1) : Int))) (m_isN M) (m_drp M) (m_has M) (m_sees M) (va_up (m_isC M) (m_rn M) (false)) (m_isG M) (m_ov M) (m_st M) (va_up (m_vo M) (m_rn M) (ix x)) (va_up (m_ko M) (m_rn M) (ix y)) (m_sl M) (m_sc M) (m_kp M) (m_en M) (m_pg M)) := hD
              refine lv_istore (lv' := [(6, .int (nI (m_rn M))), (0, .ref (a 0)), (1, .int (x)), (2, .int (y)), (3, .long (sd)), (5, .int (z))]) hx hb dX6_iterator_83 hl (by decide) rfl (fun ls hl => ?_)
              refine lv_aload_n hx hb dX6_iterator_85 rfl (lv_at hl 1 rfl) ?_
              refine va_get (ci := 6) (v := .ref (a 18)) (C := RX6) (T := TX6) (N := 30) hx hb hts hiX6 hown hK hP 0 rfl rfl 22 (by decide) hf3 (fun _ h9 => h9) rfl dX6_iterator_86 ?_
              refine lv_iload hx hb dX6_iterator_89 (lv_at hl 0 rfl) ?_
              refine lv_iload hx hb dX6_iterator_91 (lv_at hl 5 rfl) ?_
              refine wz_if_lt (tgt := 100) hx hb ((z).toInt) rfl dX6_iterator_93 (by decide) (fun c93_14 => ?_) (fun c93_14 => ?_)
              · refine lv_iconst (v := nI (0)) hx hb dX6_iterator_100 (by decide) ?_
                refine wa_zst (i := m_rn M) (b := false) (f := m_isG M) hx hb hK hP hD hS 18 2 rfl rfl rfl (by omega) (by decide) dX6_iterator_101 (fun H locs hP hD hS => ?_)
                have hP : va_P D vwCl (mX cI cJ cZ a (0) (lds) (m_n M) (m_sn M) (m_vn M) (m_rn M + 1) (m_pn M) (m_nw M) (m_grp M) (m_key M) (m_srt M) (va_up (m_sd M) (m_rn M) (sd)) (m_go M) (m_seg M) (va_up (m_la M) (m_rn M) (((-1) : Int))) (m_isN M) (m_drp M) (m_has M) (m_sees M) (va_up (m_isC M) (m_rn M) (false)) (va_up (m_isG M) (m_rn M) (false)) (m_ov M) (m_st M) (va_up (m_vo M) (m_rn M) (ix x)) (va_up (m_ko M) (m_rn M) (ix y)) (m_sl M) (m_sc M) (m_kp M) (m_en M) (m_pg M)) H := hP
                have hD : va_D A (mX cI cJ cZ a (0) (lds) (m_n M) (m_sn M) (m_vn M) (m_rn M + 1) (m_pn M) (m_nw M) (m_grp M) (m_key M) (m_srt M) (va_up (m_sd M) (m_rn M) (sd)) (m_go M) (m_seg M) (va_up (m_la M) (m_rn M) (((-1) : Int))) (m_isN M) (m_drp M) (m_has M) (m_sees M) (va_up (m_isC M) (m_rn M) (false)) (va_up (m_isG M) (m_rn M) (false)) (m_ov M) (m_st M) (va_up (m_vo M) (m_rn M) (ix x)) (va_up (m_ko M) (m_rn M) (ix y)) (m_sl M) (m_sc M) (m_kp M) (m_en M) (m_pg M)) := hD
                refine lv_aload_n hx hb dX6_iterator_102 rfl (lv_at hl 1 rfl) ?_
                refine va_get (ci := 6) (v := .ref (a 19)) (C := RX6) (T := TX6) (N := 30) hx hb hts hiX6 hown hK hP 0 rfl rfl 23 (by decide) hf4 (fun _ h9 => h9) rfl dX6_iterator_103 ?_
                refine lv_iload hx hb dX6_iterator_106 (lv_at hl 0 rfl) ?_
                refine lv_iload hx hb dX6_iterator_108 (lv_at hl 5 rfl) ?_
                refine wz_if_lt (tgt := 130) hx hb ((z).toInt) rfl dX6_iterator_110 (by decide) (fun c110_15 => ?_) (fun c110_15 => ?_)
                · refine lv_lconst (v := 0) hx hb dX6_iterator_130 (by decide) ?_
                  refine wa_lst (i := m_rn M) hx hb hK hP hD hS 19 1 rfl rfl (by omega) (by decide) dX6_iterator_131 (fun H locs hP hD hS => ?_)
                  have hP : va_P D vwCl (mX cI cJ cZ a (0) (lds) (m_n M) (m_sn M) (m_vn M) (m_rn M + 1) (m_pn M) (m_nw M) (m_grp M) (m_key M) (m_srt M) (va_up (m_sd M) (m_rn M) (sd)) (va_up (m_go M) (m_rn M) (0)) (m_seg M) (va_up (m_la M) (m_rn M) (((-1) : Int))) (m_isN M) (m_drp M) (m_has M) (m_sees M) (va_up (m_isC M) (m_rn M) (false)) (va_up (m_isG M) (m_rn M) (false)) (m_ov M) (m_st M) (va_up (m_vo M) (m_rn M) (ix x)) (va_up (m_ko M) (m_rn M) (ix y)) (m_sl M) (m_sc M) (m_kp M) (m_en M) (m_pg M)) H := hP
                  have hD : va_D A (mX cI cJ cZ a (0) (lds) (m_n M) (m_sn M) (m_vn M) (m_rn M + 1) (m_pn M) (m_nw M) (m_grp M) (m_key M) (m_srt M) (va_up (m_sd M) (m_rn M) (sd)) (va_up (m_go M) (m_rn M) (0)) (m_seg M) (va_up (m_la M) (m_rn M) (((-1) : Int))) (m_isN M) (m_drp M) (m_has M) (m_sees M) (va_up (m_isC M) (m_rn M) (false)) (va_up (m_isG M) (m_rn M) (false)) (m_ov M) (m_st M) (va_up (m_vo M) (m_rn M) (ix x)) (va_up (m_ko M) (m_rn M) (ix y)) (m_sl M) (m_sc M) (m_kp M) (m_en M) (m_pg M)) := hD
                  refine lv_aload_n hx hb dX6_iterator_132 rfl (lv_at hl 1 rfl) ?_
                  refine va_get (ci := 6) (v := .ref (a 20)) (C := RX6) (T := TX6) (N := 30) hx hb hts hiX6 hown hK hP 0 rfl rfl 24 (by decide) hf5 (fun _ h9 => h9) rfl dX6_iterator_133 ?_
                  refine lv_iload hx hb dX6_iterator_136 (lv_at hl 0 rfl) ?_
                  refine lv_aload_n hx hb dX6_iterator_138 rfl (lv_at hl 1 rfl) ?_
                  refine lv_iload hx hb dX6_iterator_139 (lv_at hl 0 rfl) ?_
                  have hPm : va_P D vwCl (mW cI cJ cZ a (0) (lds) (it2 M x y (sd) false (0))) H := by show va_P D vwCl (mW cI cJ cZ a (0) (lds) (mkM (m_n M) (m_sn M) (m_vn M) (m_rn M + 1) (m_pn M) (m_nw M) (m_grp M) (m_key M) (m_srt M) (va_up (m_sd M) (m_rn M) (sd)) (va_up (m_go M) (m_rn M) (0)) (m_seg M) (va_up (m_la M) (m_rn M) (((-1) : Int))) (m_isN M) (m_drp M) (m_has M) (m_sees M) (va_up (m_isC M) (m_rn M) (false)) (va_up (m_isG M) (m_rn M) (false)) (m_ov M) (m_st M) (va_up (m_vo M) (m_rn M) (ix x)) (va_up (m_ko M) (m_rn M) (ix y)) (m_sl M) (m_sc M) (m_kp M) (m_en M) (m_pg M))) H; rw [← mX_mk]; exact hP
                  refine wc_Vi (As := [.int (nI (m_rn M))]) (rest := [.int (nI (m_rn M)), .ref (a 20)]) ⟨hx, hb, hml, hown, hts⟩ (c_X6_nextOf l D cI cJ cZ a (0) (lds) (it2 M x y (sd) false (0)) (ok_it2 hM (sd) false (0) (by omega) (by omega) (by omega)) (m_rn M) (by omega)) (cwV 1 hts gX6_iterator_X6_nextOf rfl rfl rfl (by decide +kernel) ⟨Nat.le_of_ble_eq_true rfl, Nat.le_of_ble_eq_true rfl⟩) hPm hK 0 rfl rfl rfl hl.1 rfl (Nat.le_of_ble_eq_true rfl) dX6_iterator_141 ⟨Nat.zero_le _, Nat.zero_le _⟩ (fun rr hq16 => ?_)
                  have hq16 : rr = zI (nextOf (it2 M x y (sd) false (0)) (m_rn M)) := hq16
                  subst hq16
                  have hnq17 : m_n (it2 M x y (sd) false (0)) ≤ 300 := ((ok_it2 hM (sd) false (0) (by omega) (by omega) (by omega))).1
                  have hfl18 : -1 ≤ (nextOf (it2 M x y (sd) false (0)) (m_rn M) : Int) ∧ (nextOf (it2 M x y (sd) false (0)) (m_rn M) : Int) < (m_n (it2 M x y (sd) false (0)) : Int) := following_in _ _ _ _ _ _ _ _ _
                  refine wz_if_ge (tgt := 151) hx hb ((nextOf (it2 M x y (sd) false (0)) (m_rn M) : Int)) (zI_toInt (by omega) (by omega)) dX6_iterator_144 (by decide) (fun c144_19 => ?_) (fun c144_19 => ?_)
                  · refine lv_iconst (v := nI (0)) hx hb dX6_iterator_151 (by decide) ?_
                    refine ww_top (y := bI (false)) (rfl) ?_
                    refine wa_zst (i := m_rn M) (b := false) (f := m_ov M) hx hb hK hP hD hS 20 2 rfl rfl rfl (by omega) (by decide) dX6_iterator_152 (fun H locs hP hD hS => ?_)
                    have hP : va_P D vwCl (mX cI cJ cZ a (0) (lds) (m_n M) (m_sn M) (m_vn M) (m_rn M + 1) (m_pn M) (m_nw M) (m_grp M) (m_key M) (m_srt M) (va_up (m_sd M) (m_rn M) (sd)) (va_up (m_go M) (m_rn M) (0)) (m_seg M) (va_up (m_la M) (m_rn M) (((-1) : Int))) (m_isN M) (m_drp M) (m_has M) (m_sees M) (va_up (m_isC M) (m_rn M) (false)) (va_up (m_isG M) (m_rn M) (false)) (va_up (m_ov M) (m_rn M) (false)) (m_st M) (va_up (m_vo M) (m_rn M) (ix x)) (va_up (m_ko M) (m_rn M) (ix y)) (m_sl M) (m_sc M) (m_kp M) (m_en M) (m_pg M)) H := hP
                    have hD : va_D A (mX cI cJ cZ a (0) (lds) (m_n M) (m_sn M) (m_vn M) (m_rn M + 1) (m_pn M) (m_nw M) (m_grp M) (m_key M) (m_srt M) (va_up (m_sd M) (m_rn M) (sd)) (va_up (m_go M) (m_rn M) (0)) (m_seg M) (va_up (m_la M) (m_rn M) (((-1) : Int))) (m_isN M) (m_drp M) (m_has M) (m_sees M) (va_up (m_isC M) (m_rn M) (false)) (va_up (m_isG M) (m_rn M) (false)) (va_up (m_ov M) (m_rn M) (false)) (m_st M) (va_up (m_vo M) (m_rn M) (ix x)) (va_up (m_ko M) (m_rn M) (ix y)) (m_sl M) (m_sc M) (m_kp M) (m_en M) (m_pg M)) := hD
                    refine lv_iload hx hb dX6_iterator_153 (lv_at hl 0 rfl) ?_
                    have hPm : va_P D vwCl (mW cI cJ cZ a (0) (lds) (mkM (m_n M) (m_sn M) (m_vn M) (m_rn M + 1) (m_pn M) (m_nw M) (m_grp M) (m_key M) (m_srt M) (va_up (m_sd M) (m_rn M) (sd)) (va_up (m_go M) (m_rn M) (0)) (m_seg M) (va_up (m_la M) (m_rn M) (((-1) : Int))) (m_isN M) (m_drp M) (m_has M) (m_sees M) (va_up (m_isC M) (m_rn M) (false)) (va_up (m_isG M) (m_rn M) (false)) (va_up (m_ov M) (m_rn M) (false)) (m_st M) (va_up (m_vo M) (m_rn M) (ix x)) (va_up (m_ko M) (m_rn M) (ix y)) (m_sl M) (m_sc M) (m_kp M) (m_en M) (m_pg M))) H := by rw [← mX_mk]; exact hP
                    have hDm : va_D A (mW cI cJ cZ a (0) (lds) (mkM (m_n M) (m_sn M) (m_vn M) (m_rn M + 1) (m_pn M) (m_nw M) (m_grp M) (m_key M) (m_srt M) (va_up (m_sd M) (m_rn M) (sd)) (va_up (m_go M) (m_rn M) (0)) (m_seg M) (va_up (m_la M) (m_rn M) (((-1) : Int))) (m_isN M) (m_drp M) (m_has M) (m_sees M) (va_up (m_isC M) (m_rn M) (false)) (va_up (m_isG M) (m_rn M) (false)) (va_up (m_ov M) (m_rn M) (false)) (m_st M) (va_up (m_vo M) (m_rn M) (ix x)) (va_up (m_ko M) (m_rn M) (ix y)) (m_sl M) (m_sc M) (m_kp M) (m_en M) (m_pg M))) := by rw [← mX_mk]; exact hD
                    exact W.iret (v := nI (m_rn M)) hx hb hr (fun t ht hW => ⟨⟨_, (0, lds, (mkM (m_n M) (m_sn M) (m_vn M) (m_rn M + 1) (m_pn M) (m_nw M) (m_grp M) (m_key M) (m_srt M) (va_up (m_sd M) (m_rn M) (sd)) (va_up (m_go M) (m_rn M) (0)) (m_seg M) (va_up (m_la M) (m_rn M) (((-1) : Int))) (m_isN M) (m_drp M) (m_has M) (m_sees M) (va_up (m_isC M) (m_rn M) (false)) (va_up (m_isG M) (m_rn M) (false)) (va_up (m_ov M) (m_rn M) (false)) (m_st M) (va_up (m_vo M) (m_rn M) (ix x)) (va_up (m_ko M) (m_rn M) (ix y)) (m_sl M) (m_sc M) (m_kp M) (m_en M) (m_pg M))), rfl, ⟨by rw [itR, if_neg (by omega), if_neg (by omega), if_pos (by omega), if_neg (by omega)], by rw [itT, if_neg (by omega), if_neg (by omega), if_pos (by omega)], by have eb : itB z = false := (by simp only [itB]; first | exact decide_eq_true (by omega) | exact decide_eq_false (by omega)); have eg : itG M x y sd z = 0 := (by rw [itG]; first | rw [if_pos (by omega)] | rw [if_neg (by omega)]); have ef : decide (nextOf (it2 M x y sd false (0)) (m_rn M) < 0) = false := (by first | exact decide_eq_true (by omega) | exact decide_eq_false (by omega)); rw [itM, if_neg (by omega), if_neg (by omega), if_pos (by omega), if_neg (by omega), eb, eg, ef]; rfl⟩, gb_mk ht hW hPm hK hDm⟩, hS.F ht⟩) hS.2.2 dX6_iterator_155
                  · refine lv_iconst (v := nI (1)) hx hb dX6_iterator_147 (by decide) ?_
                    refine lv_goto (tgt := 152) hx hb dX6_iterator_148 (by decide) ?_
                    refine ww_top (y := bI (true)) (rfl) ?_
                    refine wa_zst (i := m_rn M) (b := true) (f := m_ov M) hx hb hK hP hD hS 20 2 rfl rfl rfl (by omega) (by decide) dX6_iterator_152 (fun H locs hP hD hS => ?_)
                    have hP : va_P D vwCl (mX cI cJ cZ a (0) (lds) (m_n M) (m_sn M) (m_vn M) (m_rn M + 1) (m_pn M) (m_nw M) (m_grp M) (m_key M) (m_srt M) (va_up (m_sd M) (m_rn M) (sd)) (va_up (m_go M) (m_rn M) (0)) (m_seg M) (va_up (m_la M) (m_rn M) (((-1) : Int))) (m_isN M) (m_drp M) (m_has M) (m_sees M) (va_up (m_isC M) (m_rn M) (false)) (va_up (m_isG M) (m_rn M) (false)) (va_up (m_ov M) (m_rn M) (true)) (m_st M) (va_up (m_vo M) (m_rn M) (ix x)) (va_up (m_ko M) (m_rn M) (ix y)) (m_sl M) (m_sc M) (m_kp M) (m_en M) (m_pg M)) H := hP
                    have hD : va_D A (mX cI cJ cZ a (0) (lds) (m_n M) (m_sn M) (m_vn M) (m_rn M + 1) (m_pn M) (m_nw M) (m_grp M) (m_key M) (m_srt M) (va_up (m_sd M) (m_rn M) (sd)) (va_up (m_go M) (m_rn M) (0)) (m_seg M) (va_up (m_la M) (m_rn M) (((-1) : Int))) (m_isN M) (m_drp M) (m_has M) (m_sees M) (va_up (m_isC M) (m_rn M) (false)) (va_up (m_isG M) (m_rn M) (false)) (va_up (m_ov M) (m_rn M) (true)) (m_st M) (va_up (m_vo M) (m_rn M) (ix x)) (va_up (m_ko M) (m_rn M) (ix y)) (m_sl M) (m_sc M) (m_kp M) (m_en M) (m_pg M)) := hD
                    refine lv_iload hx hb dX6_iterator_153 (lv_at hl 0 rfl) ?_
                    have hPm : va_P D vwCl (mW cI cJ cZ a (0) (lds) (mkM (m_n M) (m_sn M) (m_vn M) (m_rn M + 1) (m_pn M) (m_nw M) (m_grp M) (m_key M) (m_srt M) (va_up (m_sd M) (m_rn M) (sd)) (va_up (m_go M) (m_rn M) (0)) (m_seg M) (va_up (m_la M) (m_rn M) (((-1) : Int))) (m_isN M) (m_drp M) (m_has M) (m_sees M) (va_up (m_isC M) (m_rn M) (false)) (va_up (m_isG M) (m_rn M) (false)) (va_up (m_ov M) (m_rn M) (true)) (m_st M) (va_up (m_vo M) (m_rn M) (ix x)) (va_up (m_ko M) (m_rn M) (ix y)) (m_sl M) (m_sc M) (m_kp M) (m_en M) (m_pg M))) H := by rw [← mX_mk]; exact hP
                    have hDm : va_D A (mW cI cJ cZ a (0) (lds) (mkM (m_n M) (m_sn M) (m_vn M) (m_rn M + 1) (m_pn M) (m_nw M) (m_grp M) (m_key M) (m_srt M) (va_up (m_sd M) (m_rn M) (sd)) (va_up (m_go M) (m_rn M) (0)) (m_seg M) (va_up (m_la M) (m_rn M) (((-1) : Int))) (m_isN M) (m_drp M) (m_has M) (m_sees M) (va_up (m_isC M) (m_rn M) (false)) (va_up (m_isG M) (m_rn M) (false)) (va_up (m_ov M) (m_rn M) (true)) (m_st M) (va_up (m_vo M) (m_rn M) (ix x)) (va_up (m_ko M) (m_rn M) (ix y)) (m_sl M) (m_sc M) (m_kp M) (m_en M) (m_pg M))) := by rw [← mX_mk]; exact hD
                    exact W.iret (v := nI (m_rn M)) hx hb hr (fun t ht hW => ⟨⟨_, (0, lds, (mkM (m_n M) (m_sn M) (m_vn M) (m_rn M + 1) (m_pn M) (m_nw M) (m_grp M) (m_key M) (m_srt M) (va_up (m_sd M) (m_rn M) (sd)) (va_up (m_go M) (m_rn M) (0)) (m_seg M) (va_up (m_la M) (m_rn M) (((-1) : Int))) (m_isN M) (m_drp M) (m_has M) (m_sees M) (va_up (m_isC M) (m_rn M) (false)) (va_up (m_isG M) (m_rn M) (false)) (va_up (m_ov M) (m_rn M) (true)) (m_st M) (va_up (m_vo M) (m_rn M) (ix x)) (va_up (m_ko M) (m_rn M) (ix y)) (m_sl M) (m_sc M) (m_kp M) (m_en M) (m_pg M))), rfl, ⟨by rw [itR, if_neg (by omega), if_neg (by omega), if_pos (by omega), if_neg (by omega)], by rw [itT, if_neg (by omega), if_neg (by omega), if_pos (by omega)], by have eb : itB z = false := (by simp only [itB]; first | exact decide_eq_true (by omega) | exact decide_eq_false (by omega)); have eg : itG M x y sd z = 0 := (by rw [itG]; first | rw [if_pos (by omega)] | rw [if_neg (by omega)]); have ef : decide (nextOf (it2 M x y sd false (0)) (m_rn M) < 0) = true := (by first | exact decide_eq_true (by omega) | exact decide_eq_false (by omega)); rw [itM, if_neg (by omega), if_neg (by omega), if_pos (by omega), if_neg (by omega), eb, eg, ef]; rfl⟩, gb_mk ht hW hPm hK hDm⟩, hS.F ht⟩) hS.2.2 dX6_iterator_155
                · exact absurd c110_15 (by omega)
              · refine lv_iconst (v := nI (1)) hx hb dX6_iterator_96 (by decide) ?_
                refine lv_goto (tgt := 101) hx hb dX6_iterator_97 (by decide) ?_
                refine wa_zst (i := m_rn M) (b := true) (f := m_isG M) hx hb hK hP hD hS 18 2 rfl rfl rfl (by omega) (by decide) dX6_iterator_101 (fun H locs hP hD hS => ?_)
                have hP : va_P D vwCl (mX cI cJ cZ a (0) (lds) (m_n M) (m_sn M) (m_vn M) (m_rn M + 1) (m_pn M) (m_nw M) (m_grp M) (m_key M) (m_srt M) (va_up (m_sd M) (m_rn M) (sd)) (m_go M) (m_seg M) (va_up (m_la M) (m_rn M) (((-1) : Int))) (m_isN M) (m_drp M) (m_has M) (m_sees M) (va_up (m_isC M) (m_rn M) (false)) (va_up (m_isG M) (m_rn M) (true)) (m_ov M) (m_st M) (va_up (m_vo M) (m_rn M) (ix x)) (va_up (m_ko M) (m_rn M) (ix y)) (m_sl M) (m_sc M) (m_kp M) (m_en M) (m_pg M)) H := hP
                have hD : va_D A (mX cI cJ cZ a (0) (lds) (m_n M) (m_sn M) (m_vn M) (m_rn M + 1) (m_pn M) (m_nw M) (m_grp M) (m_key M) (m_srt M) (va_up (m_sd M) (m_rn M) (sd)) (m_go M) (m_seg M) (va_up (m_la M) (m_rn M) (((-1) : Int))) (m_isN M) (m_drp M) (m_has M) (m_sees M) (va_up (m_isC M) (m_rn M) (false)) (va_up (m_isG M) (m_rn M) (true)) (m_ov M) (m_st M) (va_up (m_vo M) (m_rn M) (ix x)) (va_up (m_ko M) (m_rn M) (ix y)) (m_sl M) (m_sc M) (m_kp M) (m_en M) (m_pg M)) := hD
                refine lv_aload_n hx hb dX6_iterator_102 rfl (lv_at hl 1 rfl) ?_
                refine va_get (ci := 6) (v := .ref (a 19)) (C := RX6) (T := TX6) (N := 30) hx hb hts hiX6 hown hK hP 0 rfl rfl 23 (by decide) hf4 (fun _ h9 => h9) rfl dX6_iterator_103 ?_
                refine lv_iload hx hb dX6_iterator_106 (lv_at hl 0 rfl) ?_
                refine lv_iload hx hb dX6_iterator_108 (lv_at hl 5 rfl) ?_
                refine wz_if_lt (tgt := 130) hx hb ((z).toInt) rfl dX6_iterator_110 (by decide) (fun c110_20 => ?_) (fun c110_20 => ?_)
                · exact absurd c110_20 (by omega)
                · have hld0 := hld (by omega) (by rw [itT, if_neg (by omega), if_neg (by omega), if_pos (by omega)])
                  have hn1 : m_n (it1 M x y (sd) true) = m_n M := rfl
                  refine lv_aload_n hx hb dX6_iterator_113 rfl (lv_at hl 1 rfl) ?_
                  refine va_get (ci := 6) (v := .ref (a 1)) (C := RX6) (T := TX6) (N := 30) hx hb hts hiX6 hown hK hP 0 rfl rfl 2 (by decide) hf6 (fun _ h9 => h9) rfl dX6_iterator_114 ?_
                  refine lv_aload_n hx hb dX6_iterator_117 rfl (lv_at hl 1 rfl) ?_
                  refine lv_iload_n hx hb dX6_iterator_118 rfl (lv_at hl 2 rfl) ?_
                  refine ww_top (y := nI (ix x)) (ix_n (by omega)) ?_
                  refine lv_iload_n hx hb dX6_iterator_119 rfl (lv_at hl 3 rfl) ?_
                  refine ww_top (y := nI (ix y)) (ix_n (by omega)) ?_
                  refine lv_lload_n hx hb dX6_iterator_120 rfl (lv_at hl 4 rfl) ?_
                  refine lv_iload hx hb dX6_iterator_121 (lv_at hl 5 rfl) ?_
                  refine ww_top (y := nI (ix z)) (ix_n (by omega)) ?_
                  have hPm : va_P D vwCl (mW cI cJ cZ a (0) (lds) (it1 M x y (sd) true)) H := by show va_P D vwCl (mW cI cJ cZ a (0) (lds) (mkM (m_n M) (m_sn M) (m_vn M) (m_rn M + 1) (m_pn M) (m_nw M) (m_grp M) (m_key M) (m_srt M) (va_up (m_sd M) (m_rn M) (sd)) (m_go M) (m_seg M) (va_up (m_la M) (m_rn M) (((-1) : Int))) (m_isN M) (m_drp M) (m_has M) (m_sees M) (va_up (m_isC M) (m_rn M) (false)) (va_up (m_isG M) (m_rn M) (true)) (m_ov M) (m_st M) (va_up (m_vo M) (m_rn M) (ix x)) (va_up (m_ko M) (m_rn M) (ix y)) (m_sl M) (m_sc M) (m_kp M) (m_en M) (m_pg M))) H; rw [← mX_mk]; exact hP
                  have hDm : va_D A (mW cI cJ cZ a (0) (lds) (it1 M x y (sd) true)) := by show va_D A (mW cI cJ cZ a (0) (lds) (mkM (m_n M) (m_sn M) (m_vn M) (m_rn M + 1) (m_pn M) (m_nw M) (m_grp M) (m_key M) (m_srt M) (va_up (m_sd M) (m_rn M) (sd)) (m_go M) (m_seg M) (va_up (m_la M) (m_rn M) (((-1) : Int))) (m_isN M) (m_drp M) (m_has M) (m_sees M) (va_up (m_isC M) (m_rn M) (false)) (va_up (m_isG M) (m_rn M) (true)) (m_ov M) (m_st M) (va_up (m_vo M) (m_rn M) (ix x)) (va_up (m_ko M) (m_rn M) (ix y)) (m_sl M) (m_sc M) (m_kp M) (m_en M) (m_pg M))); rw [← mX_mk]; exact hD
                  refine wc_VWi (As := [.int (nI (ix x)), .int (nI (ix y)), .long (sd), .int (nI (ix z))]) (rest := [.ref (a 1), .int (nI (m_rn M)), .ref (a 19)]) (wf := mWu cI cJ cZ a) ⟨hx, hb, hml, hown, hts⟩ (c_X6_leader l D cI cJ cZ a (0) (lds) (it1 M x y (sd) true) (ok_it1 hM (sd) true (by omega) (by omega) (by omega)) (ix x) (ix y) (sd) (ix z) (by omega) (by omega) (by omega) H.size) (cwV 4 hts gX6_iterator_X6_leader rfl rfl rfl (by decide +kernel) ⟨Nat.le_of_ble_eq_true rfl, Nat.le_of_ble_eq_true rfl⟩) hPm hK hDm hS hA 0 rfl rfl rfl hl.1 rfl (Nat.le_of_ble_eq_true rfl) dX6_iterator_123 ⟨Nat.zero_le _, Nat.zero_le _⟩ (fun rr u21 hq21 H locs hP hD hS => ?_)
                  obtain ⟨hr21, hu21a, hu21c⟩ := hq21
                  subst hr21
                  obtain ⟨u211, u212, u213⟩ := u21
                  dsimp only at hu21a hu21c
                  have hu21a := hu21a.symm
                  have hu21c := hu21c.symm
                  subst hu21a
                  subst hu21c
                  have hlm21 := leaderM_lt (it1 M x y (sd) true) (ix x) (ix y) (sd) (ix z)
                  have hP : va_P D vwCl (mX cI cJ cZ a (0) (u212) (m_n M) (m_sn M) (m_vn M) (m_rn M + 1) (m_pn M) (m_nw M) (m_grp M) (m_key M) (m_srt M) (va_up (m_sd M) (m_rn M) (sd)) (m_go M) (m_seg M) (va_up (m_la M) (m_rn M) (((-1) : Int))) (m_isN M) (m_drp M) (m_has M) (m_sees M) (va_up (m_isC M) (m_rn M) (false)) (va_up (m_isG M) (m_rn M) (true)) (m_ov M) (m_st M) (va_up (m_vo M) (m_rn M) (ix x)) (va_up (m_ko M) (m_rn M) (ix y)) (m_sl M) (m_sc M) (m_kp M) (m_en M) (m_pg M)) H := hP
                  have hD : va_D A (mX cI cJ cZ a (0) (u212) (m_n M) (m_sn M) (m_vn M) (m_rn M + 1) (m_pn M) (m_nw M) (m_grp M) (m_key M) (m_srt M) (va_up (m_sd M) (m_rn M) (sd)) (m_go M) (m_seg M) (va_up (m_la M) (m_rn M) (((-1) : Int))) (m_isN M) (m_drp M) (m_has M) (m_sees M) (va_up (m_isC M) (m_rn M) (false)) (va_up (m_isG M) (m_rn M) (true)) (m_ov M) (m_st M) (va_up (m_vo M) (m_rn M) (ix x)) (va_up (m_ko M) (m_rn M) (ix y)) (m_sl M) (m_sc M) (m_kp M) (m_en M) (m_pg M)) := hD
                  refine ww_top (y := nI ((leaderM (it1 M x y (sd) true) (ix x) (ix y) (sd) (ix z)).toNat)) (zI_toNat (by omega)) ?_
                  refine wa_l (i := (leaderM (it1 M x y (sd) true) (ix x) (ix y) (sd) (ix z)).toNat) (v := m_grp M ((leaderM (it1 M x y (sd) true) (ix x) (ix y) (sd) (ix z)).toNat)) hx hb hK hP 1 1 rfl rfl rfl (by omega) (by decide) dX6_iterator_126 ?_
                  refine lv_goto (tgt := 131) hx hb dX6_iterator_127 (by decide) ?_
                  refine wa_lst (i := m_rn M) hx hb hK hP hD hS 19 1 rfl rfl (by omega) (by decide) dX6_iterator_131 (fun H locs hP hD hS => ?_)
                  have hP : va_P D vwCl (mX cI cJ cZ a (0) (u212) (m_n M) (m_sn M) (m_vn M) (m_rn M + 1) (m_pn M) (m_nw M) (m_grp M) (m_key M) (m_srt M) (va_up (m_sd M) (m_rn M) (sd)) (va_up (m_go M) (m_rn M) (m_grp M ((leaderM (it1 M x y (sd) true) (ix x) (ix y) (sd) (ix z)).toNat))) (m_seg M) (va_up (m_la M) (m_rn M) (((-1) : Int))) (m_isN M) (m_drp M) (m_has M) (m_sees M) (va_up (m_isC M) (m_rn M) (false)) (va_up (m_isG M) (m_rn M) (true)) (m_ov M) (m_st M) (va_up (m_vo M) (m_rn M) (ix x)) (va_up (m_ko M) (m_rn M) (ix y)) (m_sl M) (m_sc M) (m_kp M) (m_en M) (m_pg M)) H := hP
                  have hD : va_D A (mX cI cJ cZ a (0) (u212) (m_n M) (m_sn M) (m_vn M) (m_rn M + 1) (m_pn M) (m_nw M) (m_grp M) (m_key M) (m_srt M) (va_up (m_sd M) (m_rn M) (sd)) (va_up (m_go M) (m_rn M) (m_grp M ((leaderM (it1 M x y (sd) true) (ix x) (ix y) (sd) (ix z)).toNat))) (m_seg M) (va_up (m_la M) (m_rn M) (((-1) : Int))) (m_isN M) (m_drp M) (m_has M) (m_sees M) (va_up (m_isC M) (m_rn M) (false)) (va_up (m_isG M) (m_rn M) (true)) (m_ov M) (m_st M) (va_up (m_vo M) (m_rn M) (ix x)) (va_up (m_ko M) (m_rn M) (ix y)) (m_sl M) (m_sc M) (m_kp M) (m_en M) (m_pg M)) := hD
                  refine lv_aload_n hx hb dX6_iterator_132 rfl (lv_at hl 1 rfl) ?_
                  refine va_get (ci := 6) (v := .ref (a 20)) (C := RX6) (T := TX6) (N := 30) hx hb hts hiX6 hown hK hP 0 rfl rfl 24 (by decide) hf5 (fun _ h9 => h9) rfl dX6_iterator_133 ?_
                  refine lv_iload hx hb dX6_iterator_136 (lv_at hl 0 rfl) ?_
                  refine lv_aload_n hx hb dX6_iterator_138 rfl (lv_at hl 1 rfl) ?_
                  refine lv_iload hx hb dX6_iterator_139 (lv_at hl 0 rfl) ?_
                  have hPm : va_P D vwCl (mW cI cJ cZ a (0) (u212) (it2 M x y (sd) true (m_grp M ((leaderM (it1 M x y (sd) true) (ix x) (ix y) (sd) (ix z)).toNat)))) H := by show va_P D vwCl (mW cI cJ cZ a (0) (u212) (mkM (m_n M) (m_sn M) (m_vn M) (m_rn M + 1) (m_pn M) (m_nw M) (m_grp M) (m_key M) (m_srt M) (va_up (m_sd M) (m_rn M) (sd)) (va_up (m_go M) (m_rn M) (m_grp M ((leaderM (it1 M x y (sd) true) (ix x) (ix y) (sd) (ix z)).toNat))) (m_seg M) (va_up (m_la M) (m_rn M) (((-1) : Int))) (m_isN M) (m_drp M) (m_has M) (m_sees M) (va_up (m_isC M) (m_rn M) (false)) (va_up (m_isG M) (m_rn M) (true)) (m_ov M) (m_st M) (va_up (m_vo M) (m_rn M) (ix x)) (va_up (m_ko M) (m_rn M) (ix y)) (m_sl M) (m_sc M) (m_kp M) (m_en M) (m_pg M))) H; rw [← mX_mk]; exact hP
                  refine wc_Vi (As := [.int (nI (m_rn M))]) (rest := [.int (nI (m_rn M)), .ref (a 20)]) ⟨hx, hb, hml, hown, hts⟩ (c_X6_nextOf l D cI cJ cZ a (0) (u212) (it2 M x y (sd) true (m_grp M ((leaderM (it1 M x y (sd) true) (ix x) (ix y) (sd) (ix z)).toNat))) (ok_it2 hM (sd) true (m_grp M ((leaderM (it1 M x y (sd) true) (ix x) (ix y) (sd) (ix z)).toNat)) (by omega) (by omega) (by omega)) (m_rn M) (by omega)) (cwV 1 hts gX6_iterator_X6_nextOf rfl rfl rfl (by decide +kernel) ⟨Nat.le_of_ble_eq_true rfl, Nat.le_of_ble_eq_true rfl⟩) hPm hK 0 rfl rfl rfl hl.1 rfl (Nat.le_of_ble_eq_true rfl) dX6_iterator_141 ⟨Nat.zero_le _, Nat.zero_le _⟩ (fun rr hq22 => ?_)
                  have hq22 : rr = zI (nextOf (it2 M x y (sd) true (m_grp M ((leaderM (it1 M x y (sd) true) (ix x) (ix y) (sd) (ix z)).toNat))) (m_rn M)) := hq22
                  subst hq22
                  have hnq23 : m_n (it2 M x y (sd) true (m_grp M ((leaderM (it1 M x y (sd) true) (ix x) (ix y) (sd) (ix z)).toNat))) ≤ 300 := ((ok_it2 hM (sd) true (m_grp M ((leaderM (it1 M x y (sd) true) (ix x) (ix y) (sd) (ix z)).toNat)) (by omega) (by omega) (by omega))).1
                  have hfl24 : -1 ≤ (nextOf (it2 M x y (sd) true (m_grp M ((leaderM (it1 M x y (sd) true) (ix x) (ix y) (sd) (ix z)).toNat))) (m_rn M) : Int) ∧ (nextOf (it2 M x y (sd) true (m_grp M ((leaderM (it1 M x y (sd) true) (ix x) (ix y) (sd) (ix z)).toNat))) (m_rn M) : Int) < (m_n (it2 M x y (sd) true (m_grp M ((leaderM (it1 M x y (sd) true) (ix x) (ix y) (sd) (ix z)).toNat))) : Int) := following_in _ _ _ _ _ _ _ _ _
                  refine wz_if_ge (tgt := 151) hx hb ((nextOf (it2 M x y (sd) true (m_grp M ((leaderM (it1 M x y (sd) true) (ix x) (ix y) (sd) (ix z)).toNat))) (m_rn M) : Int)) (zI_toInt (by omega) (by omega)) dX6_iterator_144 (by decide) (fun c144_25 => ?_) (fun c144_25 => ?_)
                  · refine lv_iconst (v := nI (0)) hx hb dX6_iterator_151 (by decide) ?_
                    refine ww_top (y := bI (false)) (rfl) ?_
                    refine wa_zst (i := m_rn M) (b := false) (f := m_ov M) hx hb hK hP hD hS 20 2 rfl rfl rfl (by omega) (by decide) dX6_iterator_152 (fun H locs hP hD hS => ?_)
                    have hP : va_P D vwCl (mX cI cJ cZ a (0) (u212) (m_n M) (m_sn M) (m_vn M) (m_rn M + 1) (m_pn M) (m_nw M) (m_grp M) (m_key M) (m_srt M) (va_up (m_sd M) (m_rn M) (sd)) (va_up (m_go M) (m_rn M) (m_grp M ((leaderM (it1 M x y (sd) true) (ix x) (ix y) (sd) (ix z)).toNat))) (m_seg M) (va_up (m_la M) (m_rn M) (((-1) : Int))) (m_isN M) (m_drp M) (m_has M) (m_sees M) (va_up (m_isC M) (m_rn M) (false)) (va_up (m_isG M) (m_rn M) (true)) (va_up (m_ov M) (m_rn M) (false)) (m_st M) (va_up (m_vo M) (m_rn M) (ix x)) (va_up (m_ko M) (m_rn M) (ix y)) (m_sl M) (m_sc M) (m_kp M) (m_en M) (m_pg M)) H := hP
                    have hD : va_D A (mX cI cJ cZ a (0) (u212) (m_n M) (m_sn M) (m_vn M) (m_rn M + 1) (m_pn M) (m_nw M) (m_grp M) (m_key M) (m_srt M) (va_up (m_sd M) (m_rn M) (sd)) (va_up (m_go M) (m_rn M) (m_grp M ((leaderM (it1 M x y (sd) true) (ix x) (ix y) (sd) (ix z)).toNat))) (m_seg M) (va_up (m_la M) (m_rn M) (((-1) : Int))) (m_isN M) (m_drp M) (m_has M) (m_sees M) (va_up (m_isC M) (m_rn M) (false)) (va_up (m_isG M) (m_rn M) (true)) (va_up (m_ov M) (m_rn M) (false)) (m_st M) (va_up (m_vo M) (m_rn M) (ix x)) (va_up (m_ko M) (m_rn M) (ix y)) (m_sl M) (m_sc M) (m_kp M) (m_en M) (m_pg M)) := hD
                    refine lv_iload hx hb dX6_iterator_153 (lv_at hl 0 rfl) ?_
                    have hPm : va_P D vwCl (mW cI cJ cZ a (0) (u212) (mkM (m_n M) (m_sn M) (m_vn M) (m_rn M + 1) (m_pn M) (m_nw M) (m_grp M) (m_key M) (m_srt M) (va_up (m_sd M) (m_rn M) (sd)) (va_up (m_go M) (m_rn M) (m_grp M ((leaderM (it1 M x y (sd) true) (ix x) (ix y) (sd) (ix z)).toNat))) (m_seg M) (va_up (m_la M) (m_rn M) (((-1) : Int))) (m_isN M) (m_drp M) (m_has M) (m_sees M) (va_up (m_isC M) (m_rn M) (false)) (va_up (m_isG M) (m_rn M) (true)) (va_up (m_ov M) (m_rn M) (false)) (m_st M) (va_up (m_vo M) (m_rn M) (ix x)) (va_up (m_ko M) (m_rn M) (ix y)) (m_sl M) (m_sc M) (m_kp M) (m_en M) (m_pg M))) H := by rw [← mX_mk]; exact hP
                    have hDm : va_D A (mW cI cJ cZ a (0) (u212) (mkM (m_n M) (m_sn M) (m_vn M) (m_rn M + 1) (m_pn M) (m_nw M) (m_grp M) (m_key M) (m_srt M) (va_up (m_sd M) (m_rn M) (sd)) (va_up (m_go M) (m_rn M) (m_grp M ((leaderM (it1 M x y (sd) true) (ix x) (ix y) (sd) (ix z)).toNat))) (m_seg M) (va_up (m_la M) (m_rn M) (((-1) : Int))) (m_isN M) (m_drp M) (m_has M) (m_sees M) (va_up (m_isC M) (m_rn M) (false)) (va_up (m_isG M) (m_rn M) (true)) (va_up (m_ov M) (m_rn M) (false)) (m_st M) (va_up (m_vo M) (m_rn M) (ix x)) (va_up (m_ko M) (m_rn M) (ix y)) (m_sl M) (m_sc M) (m_kp M) (m_en M) (m_pg M))) := by rw [← mX_mk]; exact hD
                    exact W.iret (v := nI (m_rn M)) hx hb hr (fun t ht hW => ⟨⟨_, (0, u212, (mkM (m_n M) (m_sn M) (m_vn M) (m_rn M + 1) (m_pn M) (m_nw M) (m_grp M) (m_key M) (m_srt M) (va_up (m_sd M) (m_rn M) (sd)) (va_up (m_go M) (m_rn M) (m_grp M ((leaderM (it1 M x y (sd) true) (ix x) (ix y) (sd) (ix z)).toNat))) (m_seg M) (va_up (m_la M) (m_rn M) (((-1) : Int))) (m_isN M) (m_drp M) (m_has M) (m_sees M) (va_up (m_isC M) (m_rn M) (false)) (va_up (m_isG M) (m_rn M) (true)) (va_up (m_ov M) (m_rn M) (false)) (m_st M) (va_up (m_vo M) (m_rn M) (ix x)) (va_up (m_ko M) (m_rn M) (ix y)) (m_sl M) (m_sc M) (m_kp M) (m_en M) (m_pg M))), rfl, ⟨by rw [itR, if_neg (by omega), if_neg (by omega), if_pos (by omega), if_neg (by omega)], by rw [itT, if_neg (by omega), if_neg (by omega), if_pos (by omega)], by have eb : itB z = true := (by simp only [itB]; first | exact decide_eq_true (by omega) | exact decide_eq_false (by omega)); have eg : itG M x y sd z = m_grp M ((leaderM (it1 M x y (sd) true) (ix x) (ix y) (sd) (ix z)).toNat) := (by rw [itG]; first | rw [if_pos (by omega)] | rw [if_neg (by omega)]); have ef : decide (nextOf (it2 M x y sd true (m_grp M ((leaderM (it1 M x y (sd) true) (ix x) (ix y) (sd) (ix z)).toNat))) (m_rn M) < 0) = false := (by first | exact decide_eq_true (by omega) | exact decide_eq_false (by omega)); rw [itM, if_neg (by omega), if_neg (by omega), if_pos (by omega), if_neg (by omega), eb, eg, ef]; rfl⟩, gb_mk ht hW hPm hK hDm⟩, hS.F ht⟩) hS.2.2 dX6_iterator_155
                  · refine lv_iconst (v := nI (1)) hx hb dX6_iterator_147 (by decide) ?_
                    refine lv_goto (tgt := 152) hx hb dX6_iterator_148 (by decide) ?_
                    refine ww_top (y := bI (true)) (rfl) ?_
                    refine wa_zst (i := m_rn M) (b := true) (f := m_ov M) hx hb hK hP hD hS 20 2 rfl rfl rfl (by omega) (by decide) dX6_iterator_152 (fun H locs hP hD hS => ?_)
                    have hP : va_P D vwCl (mX cI cJ cZ a (0) (u212) (m_n M) (m_sn M) (m_vn M) (m_rn M + 1) (m_pn M) (m_nw M) (m_grp M) (m_key M) (m_srt M) (va_up (m_sd M) (m_rn M) (sd)) (va_up (m_go M) (m_rn M) (m_grp M ((leaderM (it1 M x y (sd) true) (ix x) (ix y) (sd) (ix z)).toNat))) (m_seg M) (va_up (m_la M) (m_rn M) (((-1) : Int))) (m_isN M) (m_drp M) (m_has M) (m_sees M) (va_up (m_isC M) (m_rn M) (false)) (va_up (m_isG M) (m_rn M) (true)) (va_up (m_ov M) (m_rn M) (true)) (m_st M) (va_up (m_vo M) (m_rn M) (ix x)) (va_up (m_ko M) (m_rn M) (ix y)) (m_sl M) (m_sc M) (m_kp M) (m_en M) (m_pg M)) H := hP
                    have hD : va_D A (mX cI cJ cZ a (0) (u212) (m_n M) (m_sn M) (m_vn M) (m_rn M + 1) (m_pn M) (m_nw M) (m_grp M) (m_key M) (m_srt M) (va_up (m_sd M) (m_rn M) (sd)) (va_up (m_go M) (m_rn M) (m_grp M ((leaderM (it1 M x y (sd) true) (ix x) (ix y) (sd) (ix z)).toNat))) (m_seg M) (va_up (m_la M) (m_rn M) (((-1) : Int))) (m_isN M) (m_drp M) (m_has M) (m_sees M) (va_up (m_isC M) (m_rn M) (false)) (va_up (m_isG M) (m_rn M) (true)) (va_up (m_ov M) (m_rn M) (true)) (m_st M) (va_up (m_vo M) (m_rn M) (ix x)) (va_up (m_ko M) (m_rn M) (ix y)) (m_sl M) (m_sc M) (m_kp M) (m_en M) (m_pg M)) := hD
                    refine lv_iload hx hb dX6_iterator_153 (lv_at hl 0 rfl) ?_
                    have hPm : va_P D vwCl (mW cI cJ cZ a (0) (u212) (mkM (m_n M) (m_sn M) (m_vn M) (m_rn M + 1) (m_pn M) (m_nw M) (m_grp M) (m_key M) (m_srt M) (va_up (m_sd M) (m_rn M) (sd)) (va_up (m_go M) (m_rn M) (m_grp M ((leaderM (it1 M x y (sd) true) (ix x) (ix y) (sd) (ix z)).toNat))) (m_seg M) (va_up (m_la M) (m_rn M) (((-1) : Int))) (m_isN M) (m_drp M) (m_has M) (m_sees M) (va_up (m_isC M) (m_rn M) (false)) (va_up (m_isG M) (m_rn M) (true)) (va_up (m_ov M) (m_rn M) (true)) (m_st M) (va_up (m_vo M) (m_rn M) (ix x)) (va_up (m_ko M) (m_rn M) (ix y)) (m_sl M) (m_sc M) (m_kp M) (m_en M) (m_pg M))) H := by rw [← mX_mk]; exact hP
                    have hDm : va_D A (mW cI cJ cZ a (0) (u212) (mkM (m_n M) (m_sn M) (m_vn M) (m_rn M + 1) (m_pn M) (m_nw M) (m_grp M) (m_key M) (m_srt M) (va_up (m_sd M) (m_rn M) (sd)) (va_up (m_go M) (m_rn M) (m_grp M ((leaderM (it1 M x y (sd) true) (ix x) (ix y) (sd) (ix z)).toNat))) (m_seg M) (va_up (m_la M) (m_rn M) (((-1) : Int))) (m_isN M) (m_drp M) (m_has M) (m_sees M) (va_up (m_isC M) (m_rn M) (false)) (va_up (m_isG M) (m_rn M) (true)) (va_up (m_ov M) (m_rn M) (true)) (m_st M) (va_up (m_vo M) (m_rn M) (ix x)) (va_up (m_ko M) (m_rn M) (ix y)) (m_sl M) (m_sc M) (m_kp M) (m_en M) (m_pg M))) := by rw [← mX_mk]; exact hD
                    exact W.iret (v := nI (m_rn M)) hx hb hr (fun t ht hW => ⟨⟨_, (0, u212, (mkM (m_n M) (m_sn M) (m_vn M) (m_rn M + 1) (m_pn M) (m_nw M) (m_grp M) (m_key M) (m_srt M) (va_up (m_sd M) (m_rn M) (sd)) (va_up (m_go M) (m_rn M) (m_grp M ((leaderM (it1 M x y (sd) true) (ix x) (ix y) (sd) (ix z)).toNat))) (m_seg M) (va_up (m_la M) (m_rn M) (((-1) : Int))) (m_isN M) (m_drp M) (m_has M) (m_sees M) (va_up (m_isC M) (m_rn M) (false)) (va_up (m_isG M) (m_rn M) (true)) (va_up (m_ov M) (m_rn M) (true)) (m_st M) (va_up (m_vo M) (m_rn M) (ix x)) (va_up (m_ko M) (m_rn M) (ix y)) (m_sl M) (m_sc M) (m_kp M) (m_en M) (m_pg M))), rfl, ⟨by rw [itR, if_neg (by omega), if_neg (by omega), if_pos (by omega), if_neg (by omega)], by rw [itT, if_neg (by omega), if_neg (by omega), if_pos (by omega)], by have eb : itB z = true := (by simp only [itB]; first | exact decide_eq_true (by omega) | exact decide_eq_false (by omega)); have eg : itG M x y sd z = m_grp M ((leaderM (it1 M x y (sd) true) (ix x) (ix y) (sd) (ix z)).toNat) := (by rw [itG]; first | rw [if_pos (by omega)] | rw [if_neg (by omega)]); have ef : decide (nextOf (it2 M x y sd true (m_grp M ((leaderM (it1 M x y (sd) true) (ix x) (ix y) (sd) (ix z)).toNat))) (m_rn M) < 0) = true := (by first | exact decide_eq_true (by omega) | exact decide_eq_false (by omega)); rw [itM, if_neg (by omega), if_neg (by omega), if_pos (by omega), if_neg (by omega), eb, eg, ef]; rfl⟩, gb_mk ht hW hPm hK hDm⟩, hS.F ht⟩) hS.2.2 dX6_iterator_155
            · refine lv_bipush (v := zI ((-4))) hx hb dX6_iterator_72 (by decide) ?_
              have hPm : va_P D vwCl (mW cI cJ cZ a (0) (lds) M) H := by exact hP
              have hDm : va_D A (mW cI cJ cZ a (0) (lds) M) := by exact hD
              exact W.iret (v := zI ((-4))) hx hb hr (fun t ht hW => ⟨⟨_, (0, lds, M), rfl, ⟨(by simp only [itR]; (repeat' split) <;> first | rfl | (exfalso; omega)), (by simp only [itT]; (repeat' split) <;> first | rfl | (exfalso; omega)), (by simp only [itM]; (repeat' split) <;> first | rfl | (exfalso; omega))⟩, gb_mk ht hW hPm hK hDm⟩, hS.F ht⟩) hS.2.2 dX6_iterator_74
          · refine lv_aload_n hx hb dX6_iterator_57 rfl (lv_at hl 0 rfl) ?_
            refine lv_iconst (v := nI (3)) hx hb dX6_iterator_58 (by decide) ?_
            have hPm : va_P D vwCl (mW cI cJ cZ a (0) (lds) M) H := by exact hP
            have hDm : va_D A (mW cI cJ cZ a (0) (lds) M) := by exact hD
            refine wc_VWi (As := [.int (nI (3))]) (rest := []) (wf := mWu cI cJ cZ a) ⟨hx, hb, hml, hown, hts⟩ (c_X6_fails l D cI cJ cZ a (0) (lds) M hM (3) (by omega) H.size) (cwV 1 hts gX6_iterator_X6_fails rfl rfl rfl (by decide +kernel) ⟨Nat.le_of_ble_eq_true rfl, Nat.le_of_ble_eq_true rfl⟩) hPm hK hDm hS hA 0 rfl rfl rfl hl.1 rfl (Nat.le_of_ble_eq_true rfl) dX6_iterator_59 ⟨Nat.zero_le _, Nat.zero_le _⟩ (fun rr u26 hq26 H locs hP hD hS => ?_)
            obtain ⟨hr26, hu26⟩ := hq26
            subst hr26
            subst hu26
            have hP : va_P D vwCl (mX cI cJ cZ a (3) (lds) (m_n M) (m_sn M) (m_vn M) (m_rn M) (m_pn M) (m_nw M) (m_grp M) (m_key M) (m_srt M) (m_sd M) (m_go M) (m_seg M) (m_la M) (m_isN M) (m_drp M) (m_has M) (m_sees M) (m_isC M) (m_isG M) (m_ov M) (m_st M) (m_vo M) (m_ko M) (m_sl M) (m_sc M) (m_kp M) (m_en M) (m_pg M)) H := hP
            have hD : va_D A (mX cI cJ cZ a (3) (lds) (m_n M) (m_sn M) (m_vn M) (m_rn M) (m_pn M) (m_nw M) (m_grp M) (m_key M) (m_srt M) (m_sd M) (m_go M) (m_seg M) (m_la M) (m_isN M) (m_drp M) (m_has M) (m_sees M) (m_isC M) (m_isG M) (m_ov M) (m_st M) (m_vo M) (m_ko M) (m_sl M) (m_sc M) (m_kp M) (m_en M) (m_pg M)) := hD
            have hPm : va_P D vwCl (mW cI cJ cZ a (3) (lds) M) H := by exact hP
            have hDm : va_D A (mW cI cJ cZ a (3) (lds) M) := by exact hD
            exact W.iret (v := nI (0)) hx hb hr (fun t ht hW => ⟨⟨_, (3, lds, M), rfl, ⟨(by simp only [itR]; (repeat' split) <;> first | rfl | (exfalso; omega)), (by simp only [itT]; (repeat' split) <;> first | rfl | (exfalso; omega)), (by simp only [itM]; (repeat' split) <;> first | rfl | (exfalso; omega))⟩, gb_mk ht hW hPm hK hDm⟩, hS.F ht⟩) hS.2.2 dX6_iterator_62
        · have c39_10p := of_decide_eq_false c39_10
          refine lv_aload_n hx hb dX6_iterator_42 rfl (lv_at hl 0 rfl) ?_
          refine lv_iconst (v := nI (2)) hx hb dX6_iterator_43 (by decide) ?_
          have hPm : va_P D vwCl (mW cI cJ cZ a (0) (lds) M) H := by exact hP
          have hDm : va_D A (mW cI cJ cZ a (0) (lds) M) := by exact hD
          refine wc_VWi (As := [.int (nI (2))]) (rest := []) (wf := mWu cI cJ cZ a) ⟨hx, hb, hml, hown, hts⟩ (c_X6_fails l D cI cJ cZ a (0) (lds) M hM (2) (by omega) H.size) (cwV 1 hts gX6_iterator_X6_fails rfl rfl rfl (by decide +kernel) ⟨Nat.le_of_ble_eq_true rfl, Nat.le_of_ble_eq_true rfl⟩) hPm hK hDm hS hA 0 rfl rfl rfl hl.1 rfl (Nat.le_of_ble_eq_true rfl) dX6_iterator_44 ⟨Nat.zero_le _, Nat.zero_le _⟩ (fun rr u27 hq27 H locs hP hD hS => ?_)
          obtain ⟨hr27, hu27⟩ := hq27
          subst hr27
          subst hu27
          have hP : va_P D vwCl (mX cI cJ cZ a (2) (lds) (m_n M) (m_sn M) (m_vn M) (m_rn M) (m_pn M) (m_nw M) (m_grp M) (m_key M) (m_srt M) (m_sd M) (m_go M) (m_seg M) (m_la M) (m_isN M) (m_drp M) (m_has M) (m_sees M) (m_isC M) (m_isG M) (m_ov M) (m_st M) (m_vo M) (m_ko M) (m_sl M) (m_sc M) (m_kp M) (m_en M) (m_pg M)) H := hP
          have hD : va_D A (mX cI cJ cZ a (2) (lds) (m_n M) (m_sn M) (m_vn M) (m_rn M) (m_pn M) (m_nw M) (m_grp M) (m_key M) (m_srt M) (m_sd M) (m_go M) (m_seg M) (m_la M) (m_isN M) (m_drp M) (m_has M) (m_sees M) (m_isC M) (m_isG M) (m_ov M) (m_st M) (m_vo M) (m_ko M) (m_sl M) (m_sc M) (m_kp M) (m_en M) (m_pg M)) := hD
          have hPm : va_P D vwCl (mW cI cJ cZ a (2) (lds) M) H := by exact hP
          have hDm : va_D A (mW cI cJ cZ a (2) (lds) M) := by exact hD
          exact W.iret (v := nI (0)) hx hb hr (fun t ht hW => ⟨⟨_, (2, lds, M), rfl, ⟨(by simp only [itR]; (repeat' split) <;> first | rfl | (exfalso; omega)), (by simp only [itT]; (repeat' split) <;> first | rfl | (exfalso; omega)), (by simp only [itM]; (repeat' split) <;> first | rfl | (exfalso; omega))⟩, gb_mk ht hW hPm hK hDm⟩, hS.F ht⟩) hS.2.2 dX6_iterator_47
      · refine lv_aload_n hx hb dX6_iterator_29 rfl (lv_at hl 0 rfl) ?_
        refine lv_iconst (v := nI (1)) hx hb dX6_iterator_30 (by decide) ?_
        have hPm : va_P D vwCl (mW cI cJ cZ a (0) (lds) M) H := by exact hP
        have hDm : va_D A (mW cI cJ cZ a (0) (lds) M) := by exact hD
        refine wc_VWi (As := [.int (nI (1))]) (rest := []) (wf := mWu cI cJ cZ a) ⟨hx, hb, hml, hown, hts⟩ (c_X6_fails l D cI cJ cZ a (0) (lds) M hM (1) (by omega) H.size) (cwV 1 hts gX6_iterator_X6_fails rfl rfl rfl (by decide +kernel) ⟨Nat.le_of_ble_eq_true rfl, Nat.le_of_ble_eq_true rfl⟩) hPm hK hDm hS hA 0 rfl rfl rfl hl.1 rfl (Nat.le_of_ble_eq_true rfl) dX6_iterator_31 ⟨Nat.zero_le _, Nat.zero_le _⟩ (fun rr u28 hq28 H locs hP hD hS => ?_)
        obtain ⟨hr28, hu28⟩ := hq28
        subst hr28
        subst hu28
        have hP : va_P D vwCl (mX cI cJ cZ a (1) (lds) (m_n M) (m_sn M) (m_vn M) (m_rn M) (m_pn M) (m_nw M) (m_grp M) (m_key M) (m_srt M) (m_sd M) (m_go M) (m_seg M) (m_la M) (m_isN M) (m_drp M) (m_has M) (m_sees M) (m_isC M) (m_isG M) (m_ov M) (m_st M) (m_vo M) (m_ko M) (m_sl M) (m_sc M) (m_kp M) (m_en M) (m_pg M)) H := hP
        have hD : va_D A (mX cI cJ cZ a (1) (lds) (m_n M) (m_sn M) (m_vn M) (m_rn M) (m_pn M) (m_nw M) (m_grp M) (m_key M) (m_srt M) (m_sd M) (m_go M) (m_seg M) (m_la M) (m_isN M) (m_drp M) (m_has M) (m_sees M) (m_isC M) (m_isG M) (m_ov M) (m_st M) (m_vo M) (m_ko M) (m_sl M) (m_sc M) (m_kp M) (m_en M) (m_pg M)) := hD
        have hPm : va_P D vwCl (mW cI cJ cZ a (1) (lds) M) H := by exact hP
        have hDm : va_D A (mW cI cJ cZ a (1) (lds) M) := by exact hD
        exact W.iret (v := nI (0)) hx hb hr (fun t ht hW => ⟨⟨_, (1, lds, M), rfl, ⟨(by simp only [itR]; (repeat' split) <;> first | rfl | (exfalso; omega)), (by simp only [itT]; (repeat' split) <;> first | rfl | (exfalso; omega)), (by simp only [itM]; (repeat' split) <;> first | rfl | (exfalso; omega))⟩, gb_mk ht hW hPm hK hDm⟩, hS.F ht⟩) hS.2.2 dX6_iterator_34
