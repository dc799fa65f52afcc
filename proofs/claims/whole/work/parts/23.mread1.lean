def rm_X6_isIn : Room := { frames := 0, cells := 0, slots := 0, locals := 0 }
set_option maxHeartbeats 4000000 in
set_option maxRecDepth 100000 in
/-- whether a view has an object -/
theorem c_X6_isIn (l : Launch) (D : va_G) (cI cJ cZ : ClassId) (a : Nat → Nat) (th : Nat) (lds : Nat → Bool) (M : MT) (hM : mOk M) (v o : Nat) (hv : v < 30) (ho : o < 300) : Met l yX6_isIn wsX6_isIn rm_X6_isIn (va_Pc [.ref (a 0), .int (nI (v)), .int (nI (o))] (GR D (tyW cI cJ cZ) (mW cI cJ cZ a (th) (lds) M))) (vp_Si (fun rr => rr = bI (m_in M v o))) 0 0 (fun _ => False) := by
  obtain ⟨hn, hsn, hvn, hrn, hpn, hnw, h_seg, h_la, h_st, h_vo, h_ko, h_sl, h_sc, h_kp, h_en, h_pg, hvo, hko, hsl, hsc⟩ := id hM
  refine Met.ofW (cc := cX6_isIn) (maxL := 3) (ret := (some .boolean)) (by decide) rfl ?_
  intro p e s m args below meth c s₁ B hml hv
  obtain ⟨rfl, hP, hK⟩ := hv
  have hx := B.exec
  have hb := B.bytes
  have hr := B.returns
  have hts := atoms_spec (ws := wsX6_isIn) B.pre
  have hown : s.vm.findClass RX6 = some m.cls := findClass_of_methodNamed B.named
  have hlocks := B.notSynchronized
  have hiX6 : ∀ w ∈ wsX60, w ∈ wsX6_isIn := by decide +kernel
  have hf0 := hts (.fieldLink RX6 33 "GroupCursorsModel" "has" "[Z") (by decide +kernel)
  have hl := lv_entry ([.ref (a 0), .int (nI (v)), .int (nI (o))]) (n := 3) (Nat.le_of_ble_eq_true rfl)
  rw [lg_entry_eq]
  generalize (lg_sl ([.ref (a 0), .int (nI (v)), .int (nI (o))]) ++ List.replicate (3 - (lg_sl ([.ref (a 0), .int (nI (v)), .int (nI (o))])).length) Slot.unset).toArray = ls at hl ⊢
  have hl : lv_has ls 3 [(0, .ref (a 0)), (1, .int (nI (v))), (2, .int (nI (o)))] := hl
  refine lv_aload_n hx hb dX6_isIn_0 rfl (lv_at hl 0 rfl) ?_
  refine va_get (ci := 6) (v := .ref (a 8)) (C := RX6) (T := TX6) (N := 30) hx hb hts hiX6 hown hK hP 0 rfl rfl 11 (by decide) hf0 (fun _ h9 => h9) rfl dX6_isIn_1 ?_
  refine lv_sipush (v := nI (300)) hx hb dX6_isIn_4 (by decide) ?_
  refine lv_iload_n hx hb dX6_isIn_7 rfl (lv_at hl 1 rfl) ?_
  refine lv_imul hx hb dX6_isIn_8 (ww_top (y := nI (300 * v)) (pk_mul _ _) ?_)
  refine lv_iload_n hx hb dX6_isIn_9 rfl (lv_at hl 2 rfl) ?_
  refine lv_iadd hx hb dX6_isIn_10 (ww_top (y := nI (300 * v + o)) (nI_addn _ _) ?_)
  refine wa_z (i := 300 * v + o) (v := bI (m_has M (300 * v + o))) hx hb hK hP 8 2 rfl rfl rfl (by omega) (by decide) dX6_isIn_11 ?_
  exact W.zret (v := bI (m_has M (300 * v + o))) hx hb hr (bI_nr _) (fun t ht hW => ⟨_, rfl, rfl, ht⟩) (fun q h => nomatch h) dX6_isIn_12
def rm_X6_liveIn : Room := { frames := 0, cells := 0, slots := 0, locals := 0 }
set_option maxHeartbeats 4000000 in
set_option maxRecDepth 100000 in
/-- how many live objects are in a segment -/
theorem c_X6_liveIn (l : Launch) (D : va_G) (cI cJ cZ : ClassId) (a : Nat → Nat) (th : Nat) (lds : Nat → Bool) (M : MT) (hM : mOk M) (q : Nat) (hq : q < 40) : Met l yX6_liveIn wsX6_liveIn rm_X6_liveIn (va_Pc [.ref (a 0), .int (nI (q))] (GR D (tyW cI cJ cZ) (mW cI cJ cZ a (th) (lds) M))) (vp_Si (fun rr => rr = nI (liveIn M q))) 0 0 (fun _ => False) := by
  obtain ⟨hn, hsn, hvn, hrn, hpn, hnw, h_seg, h_la, h_st, h_vo, h_ko, h_sl, h_sc, h_kp, h_en, h_pg, hvo, hko, hsl, hsc⟩ := id hM
  refine Met.ofW (cc := cX6_liveIn) (maxL := 4) (ret := (some .int)) (by decide) rfl ?_
  intro p e s m args below meth c s₁ B hml hv
  obtain ⟨rfl, hP, hK⟩ := hv
  have hx := B.exec
  have hb := B.bytes
  have hr := B.returns
  have hts := atoms_spec (ws := wsX6_liveIn) B.pre
  have hown : s.vm.findClass RX6 = some m.cls := findClass_of_methodNamed B.named
  have hlocks := B.notSynchronized
  have hiX6 : ∀ w ∈ wsX60, w ∈ wsX6_liveIn := by decide +kernel
  have hf0 := hts (.fieldLink RX6 97 "GroupCursorsModel" "objects" "I") (by decide +kernel)
  have hf1 := hts (.fieldLink RX6 19 "GroupCursorsModel" "segment" "[I") (by decide +kernel)
  have hf2 := hts (.fieldLink RX6 23 "GroupCursorsModel" "isNew" "[Z") (by decide +kernel)
  have hf3 := hts (.fieldLink RX6 27 "GroupCursorsModel" "isDropped" "[Z") (by decide +kernel)
  have hl := lv_entry ([.ref (a 0), .int (nI (q))]) (n := 4) (Nat.le_of_ble_eq_true rfl)
  rw [lg_entry_eq]
  generalize (lg_sl ([.ref (a 0), .int (nI (q))]) ++ List.replicate (4 - (lg_sl ([.ref (a 0), .int (nI (q))])).length) Slot.unset).toArray = ls at hl ⊢
  have hl : lv_has ls 4 [(0, .ref (a 0)), (1, .int (nI (q)))] := hl
  refine lv_iconst (v := nI (0)) hx hb dX6_liveIn_0 (by decide) ?_
  refine lv_istore_n (lv' := [(2, .int (nI (0))), (0, .ref (a 0)), (1, .int (nI (q)))]) hx hb dX6_liveIn_1 rfl hl (by decide) rfl (fun ls hl => ?_)
  refine lv_iconst (v := nI (0)) hx hb dX6_liveIn_2 (by decide) ?_
  refine lv_istore_n (lv' := [(3, .int (nI (0))), (2, .int (nI (0))), (0, .ref (a 0)), (1, .int (nI (q)))]) hx hb dX6_liveIn_3 rfl hl (by decide) rfl (fun ls hl => ?_)
  have hlp4 : ∀ (d : Nat) (i : Nat) (k : Nat), m_n M - i < d → (i ≤ m_n M) → (k = cnt (pLive M q) i) → ∀ (ls : Array Slot), lv_has ls 4 [(0, .ref (a 0)), (1, .int (nI (q))), (2, .int (nI (k))), (3, .int (nI (i)))] → W p l e (headSpec wsX6_liveIn rm_X6_liveIn).room s m ([.ref (a 0), .int (nI (q))] : List Value).toArray below meth c s.heap [] (0) (0) (MQ below (vp_Si (fun rr => rr = nI (liveIn M q))) ([.ref (a 0), .int (nI (q))] : List Value).toArray s 0 0 (fun _ => False)) (F0 m 4 ls []) := by
    intro d
    induction d with
    | zero => intro i k  hd4; exact absurd hd4 (Nat.not_lt_zero _)
    | succ d ih4 =>
      intro i k  hd4 hik hk  ls hl
      have hcl := cnt_le (pLive M q) i
      refine lv_iload_n hx hb dX6_liveIn_4 rfl (lv_at hl 3 rfl) ?_
      refine lv_aload_n hx hb dX6_liveIn_5 rfl (lv_at hl 0 rfl) ?_
      refine va_get (ci := 6) (v := .int (nI (m_n M))) (C := RX6) (T := TX6) (N := 30) hx hb hts hiX6 hown hK hP 0 rfl rfl 1 (by decide) hf0 (fun _ h9 => h9) rfl dX6_liveIn_6 ?_
      refine wn_icmp_ge (a := i) (b := m_n M) (tgt := 54) hx hb (nI_z (by omega)) (nI_z (by omega)) dX6_liveIn_9 (by decide) (fun c9_1 => ?_) (fun c9_1 => ?_)
      · refine lv_iload_n hx hb dX6_liveIn_54 rfl (lv_at hl 2 rfl) ?_
        exact W.iret (v := nI (k)) hx hb hr (fun t ht hW => ⟨_, rfl, (by show nI k = nI (cnt (pLive M q) (m_n M)); rw [hk, (show i = m_n M by omega)]), ht⟩) (fun q h => nomatch h) dX6_liveIn_55
      · refine lv_iload_n hx hb dX6_liveIn_12 rfl (lv_at hl 2 rfl) ?_
        refine lv_aload_n hx hb dX6_liveIn_13 rfl (lv_at hl 0 rfl) ?_
        refine va_get (ci := 6) (v := .ref (a 4)) (C := RX6) (T := TX6) (N := 30) hx hb hts hiX6 hown hK hP 0 rfl rfl 5 (by decide) hf1 (fun _ h9 => h9) rfl dX6_liveIn_14 ?_
        refine lv_iload_n hx hb dX6_liveIn_17 rfl (lv_at hl 3 rfl) ?_
        refine wa_i (i := i) (v := zI (m_seg M i)) hx hb hK hP 4 0 rfl rfl rfl (by omega) (by decide) dX6_liveIn_18 ?_
        refine lv_iload_n hx hb dX6_liveIn_19 rfl (lv_at hl 1 rfl) ?_
        refine wz_icmp_ne (tgt := 45) hx hb ((m_seg M i : Int)) (((q : Nat) : Int)) (zr4 (h_seg i)) (nI_z (by omega)) dX6_liveIn_20 (by decide) (fun c20_2 => ?_) (fun c20_2 => ?_)
        · refine lv_iconst (v := nI (0)) hx hb dX6_liveIn_45 (by decide) ?_
          refine lv_iadd hx hb dX6_liveIn_46 (ww_top (y := nI (k + 0)) (nI_addn _ _) ?_)
          refine lv_istore_n (lv' := [(2, .int (nI (k + 0))), (0, .ref (a 0)), (1, .int (nI (q))), (3, .int (nI (i)))]) hx hb dX6_liveIn_47 rfl hl (by decide) rfl (fun ls hl => ?_)
          refine lv_iinc (v := nI (i + 1)) (lv' := [(3, .int (nI (i + 1))), (2, .int (nI (k + 0))), (0, .ref (a 0)), (1, .int (nI (q)))]) hx hb dX6_liveIn_48 hl (k := 3) rfl (nI_inc _) (by decide) rfl (fun ls hl => ?_)
          refine lv_goto (tgt := 4) hx hb dX6_liveIn_51 (by decide) ?_
          exact ih4 (i + 1) (k + 0)  (by omega) (by omega) (cnt_f hk (by simp [pLive, c9_1, c20_2]))  ls (lv_sub hl [2, 3, 1, 0] rfl)
        · refine lv_aload_n hx hb dX6_liveIn_23 rfl (lv_at hl 0 rfl) ?_
          refine va_get (ci := 6) (v := .ref (a 5)) (C := RX6) (T := TX6) (N := 30) hx hb hts hiX6 hown hK hP 0 rfl rfl 6 (by decide) hf2 (fun _ h9 => h9) rfl dX6_liveIn_24 ?_
          refine lv_iload_n hx hb dX6_liveIn_27 rfl (lv_at hl 3 rfl) ?_
          refine wa_z (i := i) (v := bI (m_isN M i)) hx hb hK hP 5 2 rfl rfl rfl (by omega) (by decide) dX6_liveIn_28 ?_
          refine wb_if_ne (tgt := 45) hx hb dX6_liveIn_29 (by decide) (fun c29_3 => ?_) (fun c29_3 => ?_)
          · refine lv_iconst (v := nI (0)) hx hb dX6_liveIn_45 (by decide) ?_
            refine lv_iadd hx hb dX6_liveIn_46 (ww_top (y := nI (k + 0)) (nI_addn _ _) ?_)
            refine lv_istore_n (lv' := [(2, .int (nI (k + 0))), (0, .ref (a 0)), (1, .int (nI (q))), (3, .int (nI (i)))]) hx hb dX6_liveIn_47 rfl hl (by decide) rfl (fun ls hl => ?_)
            refine lv_iinc (v := nI (i + 1)) (lv' := [(3, .int (nI (i + 1))), (2, .int (nI (k + 0))), (0, .ref (a 0)), (1, .int (nI (q)))]) hx hb dX6_liveIn_48 hl (k := 3) rfl (nI_inc _) (by decide) rfl (fun ls hl => ?_)
            refine lv_goto (tgt := 4) hx hb dX6_liveIn_51 (by decide) ?_
            exact ih4 (i + 1) (k + 0)  (by omega) (by omega) (cnt_f hk (by simp [pLive, c9_1, c20_2, c29_3]))  ls (lv_sub hl [2, 3, 1, 0] rfl)
          · refine lv_aload_n hx hb dX6_liveIn_32 rfl (lv_at hl 0 rfl) ?_
            refine va_get (ci := 6) (v := .ref (a 6)) (C := RX6) (T := TX6) (N := 30) hx hb hts hiX6 hown hK hP 0 rfl rfl 7 (by decide) hf3 (fun _ h9 => h9) rfl dX6_liveIn_33 ?_
            refine lv_iload_n hx hb dX6_liveIn_36 rfl (lv_at hl 3 rfl) ?_
            refine wa_z (i := i) (v := bI (m_drp M i)) hx hb hK hP 6 2 rfl rfl rfl (by omega) (by decide) dX6_liveIn_37 ?_
            refine wb_if_ne (tgt := 45) hx hb dX6_liveIn_38 (by decide) (fun c38_4 => ?_) (fun c38_4 => ?_)
            · refine lv_iconst (v := nI (0)) hx hb dX6_liveIn_45 (by decide) ?_
              refine lv_iadd hx hb dX6_liveIn_46 (ww_top (y := nI (k + 0)) (nI_addn _ _) ?_)
              refine lv_istore_n (lv' := [(2, .int (nI (k + 0))), (0, .ref (a 0)), (1, .int (nI (q))), (3, .int (nI (i)))]) hx hb dX6_liveIn_47 rfl hl (by decide) rfl (fun ls hl => ?_)
              refine lv_iinc (v := nI (i + 1)) (lv' := [(3, .int (nI (i + 1))), (2, .int (nI (k + 0))), (0, .ref (a 0)), (1, .int (nI (q)))]) hx hb dX6_liveIn_48 hl (k := 3) rfl (nI_inc _) (by decide) rfl (fun ls hl => ?_)
              refine lv_goto (tgt := 4) hx hb dX6_liveIn_51 (by decide) ?_
              exact ih4 (i + 1) (k + 0)  (by omega) (by omega) (cnt_f hk (by simp [pLive, c9_1, c20_2, c29_3, c38_4]))  ls (lv_sub hl [2, 3, 1, 0] rfl)
            · refine lv_iconst (v := nI (1)) hx hb dX6_liveIn_41 (by decide) ?_
              refine lv_goto (tgt := 46) hx hb dX6_liveIn_42 (by decide) ?_
              refine lv_iadd hx hb dX6_liveIn_46 (ww_top (y := nI (k + 1)) (nI_addn _ _) ?_)
              refine lv_istore_n (lv' := [(2, .int (nI (k + 1))), (0, .ref (a 0)), (1, .int (nI (q))), (3, .int (nI (i)))]) hx hb dX6_liveIn_47 rfl hl (by decide) rfl (fun ls hl => ?_)
              refine lv_iinc (v := nI (i + 1)) (lv' := [(3, .int (nI (i + 1))), (2, .int (nI (k + 1))), (0, .ref (a 0)), (1, .int (nI (q)))]) hx hb dX6_liveIn_48 hl (k := 3) rfl (nI_inc _) (by decide) rfl (fun ls hl => ?_)
              refine lv_goto (tgt := 4) hx hb dX6_liveIn_51 (by decide) ?_
              exact ih4 (i + 1) (k + 1)  (by omega) (by omega) (cnt_t hk (by simp [pLive, c9_1, c20_2, c29_3, c38_4]))  ls (lv_sub hl [2, 3, 1, 0] rfl)
  exact hlp4 _ (0) (0)  (Nat.lt_succ_self _) (Nat.zero_le _) (rfl)  ls (lv_sub hl [2, 3, 1, 0] rfl)
def rm_X6_seenBy : Room := { frames := 0, cells := 0, slots := 0, locals := 0 }
set_option maxHeartbeats 4000000 in
set_option maxRecDepth 100000 in
/-- how many views see a segment -/
theorem c_X6_seenBy (l : Launch) (D : va_G) (cI cJ cZ : ClassId) (a : Nat → Nat) (th : Nat) (lds : Nat → Bool) (M : MT) (hM : mOk M) (q : Nat) (hq : q < 40) : Met l yX6_seenBy wsX6_seenBy rm_X6_seenBy (va_Pc [.ref (a 0), .int (nI (q))] (GR D (tyW cI cJ cZ) (mW cI cJ cZ a (th) (lds) M))) (vp_Si (fun rr => rr = nI (seenBy M q))) 0 0 (fun _ => False) := by
  obtain ⟨hn, hsn, hvn, hrn, hpn, hnw, h_seg, h_la, h_st, h_vo, h_ko, h_sl, h_sc, h_kp, h_en, h_pg, hvo, hko, hsl, hsc⟩ := id hM
  refine Met.ofW (cc := cX6_seenBy) (maxL := 4) (ret := (some .int)) (by decide) rfl ?_
  intro p e s m args below meth c s₁ B hml hv
  obtain ⟨rfl, hP, hK⟩ := hv
  have hx := B.exec
  have hb := B.bytes
  have hr := B.returns
  have hts := atoms_spec (ws := wsX6_seenBy) B.pre
  have hown : s.vm.findClass RX6 = some m.cls := findClass_of_methodNamed B.named
  have hlocks := B.notSynchronized
  have hiX6 : ∀ w ∈ wsX60, w ∈ wsX6_seenBy := by decide +kernel
  have hf0 := hts (.fieldLink RX6 111 "GroupCursorsModel" "views" "I") (by decide +kernel)
  have hf1 := hts (.fieldLink RX6 30 "GroupCursorsModel" "state" "[I") (by decide +kernel)
  have hf2 := hts (.fieldLink RX6 36 "GroupCursorsModel" "sees" "[Z") (by decide +kernel)
  have hl := lv_entry ([.ref (a 0), .int (nI (q))]) (n := 4) (Nat.le_of_ble_eq_true rfl)
  rw [lg_entry_eq]
  generalize (lg_sl ([.ref (a 0), .int (nI (q))]) ++ List.replicate (4 - (lg_sl ([.ref (a 0), .int (nI (q))])).length) Slot.unset).toArray = ls at hl ⊢
  have hl : lv_has ls 4 [(0, .ref (a 0)), (1, .int (nI (q)))] := hl
  refine lv_iconst (v := nI (0)) hx hb dX6_seenBy_0 (by decide) ?_
  refine lv_istore_n (lv' := [(2, .int (nI (0))), (0, .ref (a 0)), (1, .int (nI (q)))]) hx hb dX6_seenBy_1 rfl hl (by decide) rfl (fun ls hl => ?_)
  refine lv_iconst (v := nI (0)) hx hb dX6_seenBy_2 (by decide) ?_
  refine lv_istore_n (lv' := [(3, .int (nI (0))), (2, .int (nI (0))), (0, .ref (a 0)), (1, .int (nI (q)))]) hx hb dX6_seenBy_3 rfl hl (by decide) rfl (fun ls hl => ?_)
  have hlp4 : ∀ (d : Nat) (i : Nat) (k : Nat), m_vn M - i < d → (i ≤ m_vn M) → (k = cnt (pSeen M q) i) → ∀ (ls : Array Slot), lv_has ls 4 [(0, .ref (a 0)), (1, .int (nI (q))), (2, .int (nI (k))), (3, .int (nI (i)))] → W p l e (headSpec wsX6_seenBy rm_X6_seenBy).room s m ([.ref (a 0), .int (nI (q))] : List Value).toArray below meth c s.heap [] (0) (0) (MQ below (vp_Si (fun rr => rr = nI (seenBy M q))) ([.ref (a 0), .int (nI (q))] : List Value).toArray s 0 0 (fun _ => False)) (F0 m 4 ls []) := by
    intro d
    induction d with
    | zero => intro i k  hd4; exact absurd hd4 (Nat.not_lt_zero _)
    | succ d ih4 =>
      intro i k  hd4 hik hk  ls hl
      have hcl := cnt_le (pSeen M q) i
      refine lv_iload_n hx hb dX6_seenBy_4 rfl (lv_at hl 3 rfl) ?_
      refine lv_aload_n hx hb dX6_seenBy_5 rfl (lv_at hl 0 rfl) ?_
      refine va_get (ci := 6) (v := .int (nI (m_vn M))) (C := RX6) (T := TX6) (N := 30) hx hb hts hiX6 hown hK hP 0 rfl rfl 9 (by decide) hf0 (fun _ h9 => h9) rfl dX6_seenBy_6 ?_
      refine wn_icmp_ge (a := i) (b := m_vn M) (tgt := 50) hx hb (nI_z (by omega)) (nI_z (by omega)) dX6_seenBy_9 (by decide) (fun c9_1 => ?_) (fun c9_1 => ?_)
      · refine lv_iload_n hx hb dX6_seenBy_50 rfl (lv_at hl 2 rfl) ?_
        exact W.iret (v := nI (k)) hx hb hr (fun t ht hW => ⟨_, rfl, (by show nI k = nI (cnt (pSeen M q) (m_vn M)); rw [hk, (show i = m_vn M by omega)]), ht⟩) (fun q h => nomatch h) dX6_seenBy_51
      · refine lv_iload_n hx hb dX6_seenBy_12 rfl (lv_at hl 2 rfl) ?_
        refine lv_aload_n hx hb dX6_seenBy_13 rfl (lv_at hl 0 rfl) ?_
        refine va_get (ci := 6) (v := .ref (a 7)) (C := RX6) (T := TX6) (N := 30) hx hb hts hiX6 hown hK hP 0 rfl rfl 10 (by decide) hf1 (fun _ h9 => h9) rfl dX6_seenBy_14 ?_
        refine lv_iload_n hx hb dX6_seenBy_17 rfl (lv_at hl 3 rfl) ?_
        refine wa_i (i := i) (v := nI (m_st M i)) hx hb hK hP 7 0 rfl rfl rfl (by omega) (by decide) dX6_seenBy_18 ?_
        refine lv_iconst (v := nI (2)) hx hb dX6_seenBy_19 (by decide) ?_
        refine wn_icmp_eq (a := m_st M i) (b := 2) (tgt := 41) hx hb (nr (h_st i)) (nI_z (by omega)) dX6_seenBy_20 (by decide) (fun c20_2 => ?_) (fun c20_2 => ?_)
        · refine lv_iconst (v := nI (0)) hx hb dX6_seenBy_41 (by decide) ?_
          refine lv_iadd hx hb dX6_seenBy_42 (ww_top (y := nI (k + 0)) (nI_addn _ _) ?_)
          refine lv_istore_n (lv' := [(2, .int (nI (k + 0))), (0, .ref (a 0)), (1, .int (nI (q))), (3, .int (nI (i)))]) hx hb dX6_seenBy_43 rfl hl (by decide) rfl (fun ls hl => ?_)
          refine lv_iinc (v := nI (i + 1)) (lv' := [(3, .int (nI (i + 1))), (2, .int (nI (k + 0))), (0, .ref (a 0)), (1, .int (nI (q)))]) hx hb dX6_seenBy_44 hl (k := 3) rfl (nI_inc _) (by decide) rfl (fun ls hl => ?_)
          refine lv_goto (tgt := 4) hx hb dX6_seenBy_47 (by decide) ?_
          exact ih4 (i + 1) (k + 0)  (by omega) (by omega) (cnt_f hk (by simp [pSeen, c9_1, c20_2]))  ls (lv_sub hl [2, 3, 1, 0] rfl)
        · refine lv_aload_n hx hb dX6_seenBy_23 rfl (lv_at hl 0 rfl) ?_
          refine va_get (ci := 6) (v := .ref (a 9)) (C := RX6) (T := TX6) (N := 30) hx hb hts hiX6 hown hK hP 0 rfl rfl 12 (by decide) hf2 (fun _ h9 => h9) rfl dX6_seenBy_24 ?_
          refine lv_bipush (v := nI (40)) hx hb dX6_seenBy_27 (by decide) ?_
          refine lv_iload_n hx hb dX6_seenBy_29 rfl (lv_at hl 3 rfl) ?_
          refine lv_imul hx hb dX6_seenBy_30 (ww_top (y := nI (40 * i)) (pk_mul _ _) ?_)
          refine lv_iload_n hx hb dX6_seenBy_31 rfl (lv_at hl 1 rfl) ?_
          refine lv_iadd hx hb dX6_seenBy_32 (ww_top (y := nI (40 * i + q)) (nI_addn _ _) ?_)
          refine wa_z (i := 40 * i + q) (v := bI (m_sees M (40 * i + q))) hx hb hK hP 9 2 rfl rfl rfl (by omega) (by decide) dX6_seenBy_33 ?_
          refine wb_if_eq (tgt := 41) hx hb dX6_seenBy_34 (by decide) (fun c34_3 => ?_) (fun c34_3 => ?_)
          · refine lv_iconst (v := nI (0)) hx hb dX6_seenBy_41 (by decide) ?_
            refine lv_iadd hx hb dX6_seenBy_42 (ww_top (y := nI (k + 0)) (nI_addn _ _) ?_)
            refine lv_istore_n (lv' := [(2, .int (nI (k + 0))), (0, .ref (a 0)), (1, .int (nI (q))), (3, .int (nI (i)))]) hx hb dX6_seenBy_43 rfl hl (by decide) rfl (fun ls hl => ?_)
            refine lv_iinc (v := nI (i + 1)) (lv' := [(3, .int (nI (i + 1))), (2, .int (nI (k + 0))), (0, .ref (a 0)), (1, .int (nI (q)))]) hx hb dX6_seenBy_44 hl (k := 3) rfl (nI_inc _) (by decide) rfl (fun ls hl => ?_)
            refine lv_goto (tgt := 4) hx hb dX6_seenBy_47 (by decide) ?_
            exact ih4 (i + 1) (k + 0)  (by omega) (by omega) (cnt_f hk (by simp [pSeen, c9_1, c20_2, c34_3]))  ls (lv_sub hl [2, 3, 1, 0] rfl)
          · refine lv_iconst (v := nI (1)) hx hb dX6_seenBy_37 (by decide) ?_
            refine lv_goto (tgt := 42) hx hb dX6_seenBy_38 (by decide) ?_
            refine lv_iadd hx hb dX6_seenBy_42 (ww_top (y := nI (k + 1)) (nI_addn _ _) ?_)
            refine lv_istore_n (lv' := [(2, .int (nI (k + 1))), (0, .ref (a 0)), (1, .int (nI (q))), (3, .int (nI (i)))]) hx hb dX6_seenBy_43 rfl hl (by decide) rfl (fun ls hl => ?_)
            refine lv_iinc (v := nI (i + 1)) (lv' := [(3, .int (nI (i + 1))), (2, .int (nI (k + 1))), (0, .ref (a 0)), (1, .int (nI (q)))]) hx hb dX6_seenBy_44 hl (k := 3) rfl (nI_inc _) (by decide) rfl (fun ls hl => ?_)
            refine lv_goto (tgt := 4) hx hb dX6_seenBy_47 (by decide) ?_
            exact ih4 (i + 1) (k + 1)  (by omega) (by omega) (cnt_t hk (by simp [pSeen, c9_1, c20_2, c34_3]))  ls (lv_sub hl [2, 3, 1, 0] rfl)
  exact hlp4 _ (0) (0)  (Nat.lt_succ_self _) (Nat.zero_le _) (rfl)  ls (lv_sub hl [2, 3, 1, 0] rfl)
def rm_X6_stateOf : Room := { frames := 1, cells := 0, slots := 0, locals := 23 }
set_option maxHeartbeats 4000000 in
set_option maxRecDepth 100000 in
/-- whether a segment is live, kept, freed -/
theorem c_X6_stateOf (l : Launch) (D : va_G) (cI cJ cZ : ClassId) (a : Nat → Nat) (th : Nat) (lds : Nat → Bool) (M : MT) (hM : mOk M) (q : Nat) (hq : q < 40) : Met l yX6_stateOf wsX6_stateOf rm_X6_stateOf (va_Pc [.ref (a 0), .int (nI (q))] (GR D (tyW cI cJ cZ) (mW cI cJ cZ a (th) (lds) M))) (vp_Si (fun rr => rr = nI (stateOf M q))) 0 0 (fun _ => False) := by
  obtain ⟨hn, hsn, hvn, hrn, hpn, hnw, h_seg, h_la, h_st, h_vo, h_ko, h_sl, h_sc, h_kp, h_en, h_pg, hvo, hko, hsl, hsc⟩ := id hM
  refine Met.ofW (cc := cX6_stateOf) (maxL := 2) (ret := (some .int)) (by decide) rfl ?_
  intro p e s m args below meth c s₁ B hml hv
  obtain ⟨rfl, hP, hK⟩ := hv
  have hx := B.exec
  have hb := B.bytes
  have hr := B.returns
  have hts := atoms_spec (ws := wsX6_stateOf) B.pre
  have hown : s.vm.findClass RX6 = some m.cls := findClass_of_methodNamed B.named
  have hlocks := B.notSynchronized
  have hl := lv_entry ([.ref (a 0), .int (nI (q))]) (n := 2) (Nat.le_of_ble_eq_true rfl)
  rw [lg_entry_eq]
  generalize (lg_sl ([.ref (a 0), .int (nI (q))]) ++ List.replicate (2 - (lg_sl ([.ref (a 0), .int (nI (q))])).length) Slot.unset).toArray = ls at hl ⊢
  have hl : lv_has ls 2 [(0, .ref (a 0)), (1, .int (nI (q)))] := hl
  refine lv_aload_n hx hb dX6_stateOf_0 rfl (lv_at hl 0 rfl) ?_
  refine lv_iload_n hx hb dX6_stateOf_1 rfl (lv_at hl 1 rfl) ?_
  refine wc_Vi (As := [.int (nI (q))]) (rest := []) ⟨hx, hb, hml, hown, hts⟩ (c_X6_liveIn l D cI cJ cZ a (th) (lds) M hM (q) (by omega)) (cwV 1 hts gX6_stateOf_X6_liveIn rfl rfl rfl (by decide +kernel) ⟨Nat.le_of_ble_eq_true rfl, Nat.le_of_ble_eq_true rfl⟩) hP hK 0 rfl rfl rfl hl.1 rfl (Nat.le_of_ble_eq_true rfl) dX6_stateOf_2 ⟨Nat.zero_le _, Nat.zero_le _⟩ (fun rr hq1 => ?_)
  have hq1 : rr = nI (liveIn M q) := hq1
  subst hq1
  have hle2 := cnt_le (pLive M q) (m_n M)
  have hle3 : liveIn M q ≤ 300 := Nat.le_trans (cnt_le _ _) hn
  refine wn_if_le (a := liveIn M q) (tgt := 12) hx hb (nI_z (by omega)) dX6_stateOf_5 (by decide) (fun c5_4 => ?_) (fun c5_4 => ?_)
  · refine lv_aload_n hx hb dX6_stateOf_12 rfl (lv_at hl 0 rfl) ?_
    refine lv_iload_n hx hb dX6_stateOf_13 rfl (lv_at hl 1 rfl) ?_
    refine wc_Vi (As := [.int (nI (q))]) (rest := []) ⟨hx, hb, hml, hown, hts⟩ (c_X6_seenBy l D cI cJ cZ a (th) (lds) M hM (q) (by omega)) (cwV 1 hts gX6_stateOf_X6_seenBy rfl rfl rfl (by decide +kernel) ⟨Nat.le_of_ble_eq_true rfl, Nat.le_of_ble_eq_true rfl⟩) hP hK 0 rfl rfl rfl hl.1 rfl (Nat.le_of_ble_eq_true rfl) dX6_stateOf_14 ⟨Nat.zero_le _, Nat.zero_le _⟩ (fun rr hq5 => ?_)
    have hq5 : rr = nI (seenBy M q) := hq5
    subst hq5
    have hle6 : seenBy M q ≤ 30 := Nat.le_trans (cnt_le _ _) hvn
    refine wn_if_le (a := seenBy M q) (tgt := 24) hx hb (nI_z (by omega)) dX6_stateOf_17 (by decide) (fun c17_7 => ?_) (fun c17_7 => ?_)
    · refine lv_iconst (v := nI (2)) hx hb dX6_stateOf_24 (by decide) ?_
      exact W.iret (v := nI (2)) hx hb hr (fun t ht hW => ⟨_, rfl, (by unfold stateOf; first | (rw [if_pos (by omega)]) | (rw [if_neg (by omega), if_pos (by omega)]) | (rw [if_neg (by omega), if_neg (by omega)])), ht⟩) (fun q h => nomatch h) dX6_stateOf_25
    · refine lv_iconst (v := nI (1)) hx hb dX6_stateOf_20 (by decide) ?_
      refine lv_goto (tgt := 25) hx hb dX6_stateOf_21 (by decide) ?_
      exact W.iret (v := nI (1)) hx hb hr (fun t ht hW => ⟨_, rfl, (by unfold stateOf; first | (rw [if_pos (by omega)]) | (rw [if_neg (by omega), if_pos (by omega)]) | (rw [if_neg (by omega), if_neg (by omega)])), ht⟩) (fun q h => nomatch h) dX6_stateOf_25
  · refine lv_iconst (v := nI (0)) hx hb dX6_stateOf_8 (by decide) ?_
    refine lv_goto (tgt := 25) hx hb dX6_stateOf_9 (by decide) ?_
    exact W.iret (v := nI (0)) hx hb hr (fun t ht hW => ⟨_, rfl, (by unfold stateOf; first | (rw [if_pos (by omega)]) | (rw [if_neg (by omega), if_pos (by omega)]) | (rw [if_neg (by omega), if_neg (by omega)])), ht⟩) (fun q h => nomatch h) dX6_stateOf_25
def rm_X6_countOf : Room := { frames := 2, cells := 0, slots := 0, locals := 44 }
set_option maxHeartbeats 4000000 in
set_option maxRecDepth 100000 in
/-- how many segments are in a state -/
theorem c_X6_countOf (l : Launch) (D : va_G) (cI cJ cZ : ClassId) (a : Nat → Nat) (th : Nat) (lds : Nat → Bool) (M : MT) (hM : mOk M) (x : Nat) (hx2 : x < 300) : Met l yX6_countOf wsX6_countOf rm_X6_countOf (va_Pc [.ref (a 0), .int (nI (x))] (GR D (tyW cI cJ cZ) (mW cI cJ cZ a (th) (lds) M))) (vp_Si (fun rr => rr = nI (countOf M x))) 0 0 (fun _ => False) := by
  obtain ⟨hn, hsn, hvn, hrn, hpn, hnw, h_seg, h_la, h_st, h_vo, h_ko, h_sl, h_sc, h_kp, h_en, h_pg, hvo, hko, hsl, hsc⟩ := id hM
  refine Met.ofW (cc := cX6_countOf) (maxL := 4) (ret := (some .int)) (by decide) rfl ?_
  intro p e s m args below meth c s₁ B hml hv
  obtain ⟨rfl, hP, hK⟩ := hv
  have hx := B.exec
  have hb := B.bytes
  have hr := B.returns
  have hts := atoms_spec (ws := wsX6_countOf) B.pre
  have hown : s.vm.findClass RX6 = some m.cls := findClass_of_methodNamed B.named
  have hlocks := B.notSynchronized
  have hiX6 : ∀ w ∈ wsX60, w ∈ wsX6_countOf := by decide +kernel
  have hf0 := hts (.fieldLink RX6 121 "GroupCursorsModel" "segments" "I") (by decide +kernel)
  have hl := lv_entry ([.ref (a 0), .int (nI (x))]) (n := 4) (Nat.le_of_ble_eq_true rfl)
  rw [lg_entry_eq]
  generalize (lg_sl ([.ref (a 0), .int (nI (x))]) ++ List.replicate (4 - (lg_sl ([.ref (a 0), .int (nI (x))])).length) Slot.unset).toArray = ls at hl ⊢
  have hl : lv_has ls 4 [(0, .ref (a 0)), (1, .int (nI (x)))] := hl
  refine lv_iconst (v := nI (0)) hx hb dX6_countOf_0 (by decide) ?_
  refine lv_istore_n (lv' := [(2, .int (nI (0))), (0, .ref (a 0)), (1, .int (nI (x)))]) hx hb dX6_countOf_1 rfl hl (by decide) rfl (fun ls hl => ?_)
  refine lv_iconst (v := nI (0)) hx hb dX6_countOf_2 (by decide) ?_
  refine lv_istore_n (lv' := [(3, .int (nI (0))), (2, .int (nI (0))), (0, .ref (a 0)), (1, .int (nI (x)))]) hx hb dX6_countOf_3 rfl hl (by decide) rfl (fun ls hl => ?_)
  have hlp4 : ∀ (d : Nat) (i : Nat) (k : Nat), m_sn M - i < d → (i ≤ m_sn M) → (k = cnt (pState M x) i) → ∀ (ls : Array Slot), lv_has ls 4 [(0, .ref (a 0)), (1, .int (nI (x))), (2, .int (nI (k))), (3, .int (nI (i)))] → W p l e (headSpec wsX6_countOf rm_X6_countOf).room s m ([.ref (a 0), .int (nI (x))] : List Value).toArray below meth c s.heap [] (0) (0) (MQ below (vp_Si (fun rr => rr = nI (countOf M x))) ([.ref (a 0), .int (nI (x))] : List Value).toArray s 0 0 (fun _ => False)) (F0 m 4 ls []) := by
    intro d
    induction d with
    | zero => intro i k  hd4; exact absurd hd4 (Nat.not_lt_zero _)
    | succ d ih4 =>
      intro i k  hd4 hik hk  ls hl
      have hcl := cnt_le (pState M x) i
      refine lv_iload_n hx hb dX6_countOf_4 rfl (lv_at hl 3 rfl) ?_
      refine lv_aload_n hx hb dX6_countOf_5 rfl (lv_at hl 0 rfl) ?_
      refine va_get (ci := 6) (v := .int (nI (m_sn M))) (C := RX6) (T := TX6) (N := 30) hx hb hts hiX6 hown hK hP 0 rfl rfl 8 (by decide) hf0 (fun _ h9 => h9) rfl dX6_countOf_6 ?_
      refine wn_icmp_ge (a := i) (b := m_sn M) (tgt := 35) hx hb (nI_z (by omega)) (nI_z (by omega)) dX6_countOf_9 (by decide) (fun c9_1 => ?_) (fun c9_1 => ?_)
      · refine lv_iload_n hx hb dX6_countOf_35 rfl (lv_at hl 2 rfl) ?_
        exact W.iret (v := nI (k)) hx hb hr (fun t ht hW => ⟨_, rfl, (by show nI k = nI (cnt (pState M x) (m_sn M)); rw [hk, (show i = m_sn M by omega)]), ht⟩) (fun q h => nomatch h) dX6_countOf_36
      · refine lv_iload_n hx hb dX6_countOf_12 rfl (lv_at hl 2 rfl) ?_
        refine lv_aload_n hx hb dX6_countOf_13 rfl (lv_at hl 0 rfl) ?_
        refine lv_iload_n hx hb dX6_countOf_14 rfl (lv_at hl 3 rfl) ?_
        refine wc_Vi (As := [.int (nI (i))]) (rest := [.int (nI (k))]) ⟨hx, hb, hml, hown, hts⟩ (c_X6_stateOf l D cI cJ cZ a (th) (lds) M hM (i) (by omega)) (cwV 1 hts gX6_countOf_X6_stateOf rfl rfl rfl (by decide +kernel) ⟨Nat.le_of_ble_eq_true rfl, Nat.le_of_ble_eq_true rfl⟩) hP hK 0 rfl rfl rfl hl.1 rfl (Nat.le_of_ble_eq_true rfl) dX6_countOf_15 ⟨Nat.zero_le _, Nat.zero_le _⟩ (fun rr hq2 => ?_)
        have hq2 : rr = nI (stateOf M i) := hq2
        subst hq2
        have hle3 := stateOf_le M i
        refine lv_iload_n hx hb dX6_countOf_18 rfl (lv_at hl 1 rfl) ?_
        refine wn_icmp_ne (a := stateOf M i) (b := x) (tgt := 26) hx hb (nI_z (by omega)) (nI_z (by omega)) dX6_countOf_19 (by decide) (fun c19_4 => ?_) (fun c19_4 => ?_)
        · refine lv_iconst (v := nI (0)) hx hb dX6_countOf_26 (by decide) ?_
          refine lv_iadd hx hb dX6_countOf_27 (ww_top (y := nI (k + 0)) (nI_addn _ _) ?_)
          refine lv_istore_n (lv' := [(2, .int (nI (k + 0))), (0, .ref (a 0)), (1, .int (nI (x))), (3, .int (nI (i)))]) hx hb dX6_countOf_28 rfl hl (by decide) rfl (fun ls hl => ?_)
          refine lv_iinc (v := nI (i + 1)) (lv' := [(3, .int (nI (i + 1))), (2, .int (nI (k + 0))), (0, .ref (a 0)), (1, .int (nI (x)))]) hx hb dX6_countOf_29 hl (k := 3) rfl (nI_inc _) (by decide) rfl (fun ls hl => ?_)
          refine lv_goto (tgt := 4) hx hb dX6_countOf_32 (by decide) ?_
          exact ih4 (i + 1) (k + 0)  (by omega) (by omega) (cnt_f hk (by simp [pState, c9_1, c19_4]))  ls (lv_sub hl [2, 3, 1, 0] rfl)
        · refine lv_iconst (v := nI (1)) hx hb dX6_countOf_22 (by decide) ?_
          refine lv_goto (tgt := 27) hx hb dX6_countOf_23 (by decide) ?_
          refine lv_iadd hx hb dX6_countOf_27 (ww_top (y := nI (k + 1)) (nI_addn _ _) ?_)
          refine lv_istore_n (lv' := [(2, .int (nI (k + 1))), (0, .ref (a 0)), (1, .int (nI (x))), (3, .int (nI (i)))]) hx hb dX6_countOf_28 rfl hl (by decide) rfl (fun ls hl => ?_)
          refine lv_iinc (v := nI (i + 1)) (lv' := [(3, .int (nI (i + 1))), (2, .int (nI (k + 1))), (0, .ref (a 0)), (1, .int (nI (x)))]) hx hb dX6_countOf_29 hl (k := 3) rfl (nI_inc _) (by decide) rfl (fun ls hl => ?_)
          refine lv_goto (tgt := 4) hx hb dX6_countOf_32 (by decide) ?_
          exact ih4 (i + 1) (k + 1)  (by omega) (by omega) (cnt_t hk (by simp [pState, c9_1, c19_4]))  ls (lv_sub hl [2, 3, 1, 0] rfl)
  exact hlp4 _ (0) (0)  (Nat.lt_succ_self _) (Nat.zero_le _) (rfl)  ls (lv_sub hl [2, 3, 1, 0] rfl)
def rm_X6_newOnes : Room := { frames := 0, cells := 0, slots := 0, locals := 0 }
set_option maxHeartbeats 4000000 in
set_option maxRecDepth 100000 in
/-- how many new objects are not dropped -/
theorem c_X6_newOnes (l : Launch) (D : va_G) (cI cJ cZ : ClassId) (a : Nat → Nat) (th : Nat) (lds : Nat → Bool) (M : MT) (hM : mOk M)  : Met l yX6_newOnes wsX6_newOnes rm_X6_newOnes (va_Pc [.ref (a 0)] (GR D (tyW cI cJ cZ) (mW cI cJ cZ a (th) (lds) M))) (vp_Si (fun rr => rr = nI (newOnes M))) 0 0 (fun _ => False) := by
  obtain ⟨hn, hsn, hvn, hrn, hpn, hnw, h_seg, h_la, h_st, h_vo, h_ko, h_sl, h_sc, h_kp, h_en, h_pg, hvo, hko, hsl, hsc⟩ := id hM
  refine Met.ofW (cc := cX6_newOnes) (maxL := 3) (ret := (some .int)) (by decide) rfl ?_
  intro p e s m args below meth c s₁ B hml hv
  obtain ⟨rfl, hP, hK⟩ := hv
  have hx := B.exec
  have hb := B.bytes
  have hr := B.returns
  have hts := atoms_spec (ws := wsX6_newOnes) B.pre
  have hown : s.vm.findClass RX6 = some m.cls := findClass_of_methodNamed B.named
  have hlocks := B.notSynchronized
  have hiX6 : ∀ w ∈ wsX60, w ∈ wsX6_newOnes := by decide +kernel
  have hf0 := hts (.fieldLink RX6 97 "GroupCursorsModel" "objects" "I") (by decide +kernel)
  have hf1 := hts (.fieldLink RX6 23 "GroupCursorsModel" "isNew" "[Z") (by decide +kernel)
  have hf2 := hts (.fieldLink RX6 27 "GroupCursorsModel" "isDropped" "[Z") (by decide +kernel)
  have hl := lv_entry ([.ref (a 0)]) (n := 3) (Nat.le_of_ble_eq_true rfl)
  rw [lg_entry_eq]
  generalize (lg_sl ([.ref (a 0)]) ++ List.replicate (3 - (lg_sl ([.ref (a 0)])).length) Slot.unset).toArray = ls at hl ⊢
  have hl : lv_has ls 3 [(0, .ref (a 0))] := hl
  refine lv_iconst (v := nI (0)) hx hb dX6_newOnes_0 (by decide) ?_
  refine lv_istore_n (lv' := [(1, .int (nI (0))), (0, .ref (a 0))]) hx hb dX6_newOnes_1 rfl hl (by decide) rfl (fun ls hl => ?_)
  refine lv_iconst (v := nI (0)) hx hb dX6_newOnes_2 (by decide) ?_
  refine lv_istore_n (lv' := [(2, .int (nI (0))), (1, .int (nI (0))), (0, .ref (a 0))]) hx hb dX6_newOnes_3 rfl hl (by decide) rfl (fun ls hl => ?_)
  have hlp4 : ∀ (d : Nat) (i : Nat) (k : Nat), m_n M - i < d → (i ≤ m_n M) → (k = cnt (pNew M) i) → ∀ (ls : Array Slot), lv_has ls 3 [(0, .ref (a 0)), (1, .int (nI (k))), (2, .int (nI (i)))] → W p l e (headSpec wsX6_newOnes rm_X6_newOnes).room s m ([.ref (a 0)] : List Value).toArray below meth c s.heap [] (0) (0) (MQ below (vp_Si (fun rr => rr = nI (newOnes M))) ([.ref (a 0)] : List Value).toArray s 0 0 (fun _ => False)) (F0 m 4 ls []) := by
    intro d
    induction d with
    | zero => intro i k  hd4; exact absurd hd4 (Nat.not_lt_zero _)
    | succ d ih4 =>
      intro i k  hd4 hik hk  ls hl
      have hcl := cnt_le (pNew M) i
      refine lv_iload_n hx hb dX6_newOnes_4 rfl (lv_at hl 2 rfl) ?_
      refine lv_aload_n hx hb dX6_newOnes_5 rfl (lv_at hl 0 rfl) ?_
      refine va_get (ci := 6) (v := .int (nI (m_n M))) (C := RX6) (T := TX6) (N := 30) hx hb hts hiX6 hown hK hP 0 rfl rfl 1 (by decide) hf0 (fun _ h9 => h9) rfl dX6_newOnes_6 ?_
      refine wn_icmp_ge (a := i) (b := m_n M) (tgt := 44) hx hb (nI_z (by omega)) (nI_z (by omega)) dX6_newOnes_9 (by decide) (fun c9_1 => ?_) (fun c9_1 => ?_)
      · refine lv_iload_n hx hb dX6_newOnes_44 rfl (lv_at hl 1 rfl) ?_
        exact W.iret (v := nI (k)) hx hb hr (fun t ht hW => ⟨_, rfl, (by show nI k = nI (cnt (pNew M) (m_n M)); rw [hk, (show i = m_n M by omega)]), ht⟩) (fun q h => nomatch h) dX6_newOnes_45
      · refine lv_iload_n hx hb dX6_newOnes_12 rfl (lv_at hl 1 rfl) ?_
        refine lv_aload_n hx hb dX6_newOnes_13 rfl (lv_at hl 0 rfl) ?_
        refine va_get (ci := 6) (v := .ref (a 5)) (C := RX6) (T := TX6) (N := 30) hx hb hts hiX6 hown hK hP 0 rfl rfl 6 (by decide) hf1 (fun _ h9 => h9) rfl dX6_newOnes_14 ?_
        refine lv_iload_n hx hb dX6_newOnes_17 rfl (lv_at hl 2 rfl) ?_
        refine wa_z (i := i) (v := bI (m_isN M i)) hx hb hK hP 5 2 rfl rfl rfl (by omega) (by decide) dX6_newOnes_18 ?_
        refine wb_if_eq (tgt := 35) hx hb dX6_newOnes_19 (by decide) (fun c19_2 => ?_) (fun c19_2 => ?_)
        · refine lv_iconst (v := nI (0)) hx hb dX6_newOnes_35 (by decide) ?_
          refine lv_iadd hx hb dX6_newOnes_36 (ww_top (y := nI (k + 0)) (nI_addn _ _) ?_)
          refine lv_istore_n (lv' := [(1, .int (nI (k + 0))), (0, .ref (a 0)), (2, .int (nI (i)))]) hx hb dX6_newOnes_37 rfl hl (by decide) rfl (fun ls hl => ?_)
          refine lv_iinc (v := nI (i + 1)) (lv' := [(2, .int (nI (i + 1))), (1, .int (nI (k + 0))), (0, .ref (a 0))]) hx hb dX6_newOnes_38 hl (k := 2) rfl (nI_inc _) (by decide) rfl (fun ls hl => ?_)
          refine lv_goto (tgt := 4) hx hb dX6_newOnes_41 (by decide) ?_
          exact ih4 (i + 1) (k + 0)  (by omega) (by omega) (cnt_f hk (by simp [pNew, c9_1, c19_2]))  ls (lv_sub hl [2, 1, 0] rfl)
        · refine lv_aload_n hx hb dX6_newOnes_22 rfl (lv_at hl 0 rfl) ?_
          refine va_get (ci := 6) (v := .ref (a 6)) (C := RX6) (T := TX6) (N := 30) hx hb hts hiX6 hown hK hP 0 rfl rfl 7 (by decide) hf2 (fun _ h9 => h9) rfl dX6_newOnes_23 ?_
          refine lv_iload_n hx hb dX6_newOnes_26 rfl (lv_at hl 2 rfl) ?_
          refine wa_z (i := i) (v := bI (m_drp M i)) hx hb hK hP 6 2 rfl rfl rfl (by omega) (by decide) dX6_newOnes_27 ?_
          refine wb_if_ne (tgt := 35) hx hb dX6_newOnes_28 (by decide) (fun c28_3 => ?_) (fun c28_3 => ?_)
          · refine lv_iconst (v := nI (0)) hx hb dX6_newOnes_35 (by decide) ?_
            refine lv_iadd hx hb dX6_newOnes_36 (ww_top (y := nI (k + 0)) (nI_addn _ _) ?_)
            refine lv_istore_n (lv' := [(1, .int (nI (k + 0))), (0, .ref (a 0)), (2, .int (nI (i)))]) hx hb dX6_newOnes_37 rfl hl (by decide) rfl (fun ls hl => ?_)
            refine lv_iinc (v := nI (i + 1)) (lv' := [(2, .int (nI (i + 1))), (1, .int (nI (k + 0))), (0, .ref (a 0))]) hx hb dX6_newOnes_38 hl (k := 2) rfl (nI_inc _) (by decide) rfl (fun ls hl => ?_)
            refine lv_goto (tgt := 4) hx hb dX6_newOnes_41 (by decide) ?_
            exact ih4 (i + 1) (k + 0)  (by omega) (by omega) (cnt_f hk (by simp [pNew, c9_1, c19_2, c28_3]))  ls (lv_sub hl [2, 1, 0] rfl)
          · refine lv_iconst (v := nI (1)) hx hb dX6_newOnes_31 (by decide) ?_
            refine lv_goto (tgt := 36) hx hb dX6_newOnes_32 (by decide) ?_
            refine lv_iadd hx hb dX6_newOnes_36 (ww_top (y := nI (k + 1)) (nI_addn _ _) ?_)
            refine lv_istore_n (lv' := [(1, .int (nI (k + 1))), (0, .ref (a 0)), (2, .int (nI (i)))]) hx hb dX6_newOnes_37 rfl hl (by decide) rfl (fun ls hl => ?_)
            refine lv_iinc (v := nI (i + 1)) (lv' := [(2, .int (nI (i + 1))), (1, .int (nI (k + 1))), (0, .ref (a 0))]) hx hb dX6_newOnes_38 hl (k := 2) rfl (nI_inc _) (by decide) rfl (fun ls hl => ?_)
            refine lv_goto (tgt := 4) hx hb dX6_newOnes_41 (by decide) ?_
            exact ih4 (i + 1) (k + 1)  (by omega) (by omega) (cnt_t hk (by simp [pNew, c9_1, c19_2, c28_3]))  ls (lv_sub hl [2, 1, 0] rfl)
  exact hlp4 _ (0) (0)  (Nat.lt_succ_self _) (Nat.zero_le _) (rfl)  ls (lv_sub hl [2, 1, 0] rfl)
def rm_X6_sizeOf : Room := { frames := 1, cells := 0, slots := 0, locals := 22 }
set_option maxHeartbeats 4000000 in
set_option maxRecDepth 100000 in
/-- how many objects a view has -/
theorem c_X6_sizeOf (l : Launch) (D : va_G) (cI cJ cZ : ClassId) (a : Nat → Nat) (th : Nat) (lds : Nat → Bool) (M : MT) (hM : mOk M) (v : Nat) (hv : v < 30) : Met l yX6_sizeOf wsX6_sizeOf rm_X6_sizeOf (va_Pc [.ref (a 0), .int (nI (v))] (GR D (tyW cI cJ cZ) (mW cI cJ cZ a (th) (lds) M))) (vp_Si (fun rr => rr = nI (sizeOf M v))) 0 0 (fun _ => False) := by
  obtain ⟨hn, hsn, hvn, hrn, hpn, hnw, h_seg, h_la, h_st, h_vo, h_ko, h_sl, h_sc, h_kp, h_en, h_pg, hvo, hko, hsl, hsc⟩ := id hM
  refine Met.ofW (cc := cX6_sizeOf) (maxL := 4) (ret := (some .int)) (by decide) rfl ?_
  intro p e s m args below meth c s₁ B hml hv
  obtain ⟨rfl, hP, hK⟩ := hv
  have hx := B.exec
  have hb := B.bytes
  have hr := B.returns
  have hts := atoms_spec (ws := wsX6_sizeOf) B.pre
  have hown : s.vm.findClass RX6 = some m.cls := findClass_of_methodNamed B.named
  have hlocks := B.notSynchronized
  have hiX6 : ∀ w ∈ wsX60, w ∈ wsX6_sizeOf := by decide +kernel
  have hf0 := hts (.fieldLink RX6 97 "GroupCursorsModel" "objects" "I") (by decide +kernel)
  have hl := lv_entry ([.ref (a 0), .int (nI (v))]) (n := 4) (Nat.le_of_ble_eq_true rfl)
  rw [lg_entry_eq]
  generalize (lg_sl ([.ref (a 0), .int (nI (v))]) ++ List.replicate (4 - (lg_sl ([.ref (a 0), .int (nI (v))])).length) Slot.unset).toArray = ls at hl ⊢
  have hl : lv_has ls 4 [(0, .ref (a 0)), (1, .int (nI (v)))] := hl
  refine lv_iconst (v := nI (0)) hx hb dX6_sizeOf_0 (by decide) ?_
  refine lv_istore_n (lv' := [(2, .int (nI (0))), (0, .ref (a 0)), (1, .int (nI (v)))]) hx hb dX6_sizeOf_1 rfl hl (by decide) rfl (fun ls hl => ?_)
  refine lv_iconst (v := nI (0)) hx hb dX6_sizeOf_2 (by decide) ?_
  refine lv_istore_n (lv' := [(3, .int (nI (0))), (2, .int (nI (0))), (0, .ref (a 0)), (1, .int (nI (v)))]) hx hb dX6_sizeOf_3 rfl hl (by decide) rfl (fun ls hl => ?_)
  have hlp4 : ∀ (d : Nat) (i : Nat) (k : Nat), m_n M - i < d → (i ≤ m_n M) → (k = cnt (m_in M v) i) → ∀ (ls : Array Slot), lv_has ls 4 [(0, .ref (a 0)), (1, .int (nI (v))), (2, .int (nI (k))), (3, .int (nI (i)))] → W p l e (headSpec wsX6_sizeOf rm_X6_sizeOf).room s m ([.ref (a 0), .int (nI (v))] : List Value).toArray below meth c s.heap [] (0) (0) (MQ below (vp_Si (fun rr => rr = nI (sizeOf M v))) ([.ref (a 0), .int (nI (v))] : List Value).toArray s 0 0 (fun _ => False)) (F0 m 4 ls []) := by
    intro d
    induction d with
    | zero => intro i k  hd4; exact absurd hd4 (Nat.not_lt_zero _)
    | succ d ih4 =>
      intro i k  hd4 hik hk  ls hl
      have hcl := cnt_le (m_in M v) i
      refine lv_iload_n hx hb dX6_sizeOf_4 rfl (lv_at hl 3 rfl) ?_
      refine lv_aload_n hx hb dX6_sizeOf_5 rfl (lv_at hl 0 rfl) ?_
      refine va_get (ci := 6) (v := .int (nI (m_n M))) (C := RX6) (T := TX6) (N := 30) hx hb hts hiX6 hown hK hP 0 rfl rfl 1 (by decide) hf0 (fun _ h9 => h9) rfl dX6_sizeOf_6 ?_
      refine wn_icmp_ge (a := i) (b := m_n M) (tgt := 35) hx hb (nI_z (by omega)) (nI_z (by omega)) dX6_sizeOf_9 (by decide) (fun c9_1 => ?_) (fun c9_1 => ?_)
      · refine lv_iload_n hx hb dX6_sizeOf_35 rfl (lv_at hl 2 rfl) ?_
        exact W.iret (v := nI (k)) hx hb hr (fun t ht hW => ⟨_, rfl, (by show nI k = nI (cnt (m_in M v) (m_n M)); rw [hk, (show i = m_n M by omega)]), ht⟩) (fun q h => nomatch h) dX6_sizeOf_36
      · refine lv_iload_n hx hb dX6_sizeOf_12 rfl (lv_at hl 2 rfl) ?_
        refine lv_aload_n hx hb dX6_sizeOf_13 rfl (lv_at hl 0 rfl) ?_
        refine lv_iload_n hx hb dX6_sizeOf_14 rfl (lv_at hl 1 rfl) ?_
        refine lv_iload_n hx hb dX6_sizeOf_15 rfl (lv_at hl 3 rfl) ?_
        refine wc_Vi (As := [.int (nI (v)), .int (nI (i))]) (rest := [.int (nI (k))]) ⟨hx, hb, hml, hown, hts⟩ (c_X6_isIn l D cI cJ cZ a (th) (lds) M hM (v) (i) (by omega) (by omega)) (cwV 2 hts gX6_sizeOf_X6_isIn rfl rfl rfl (by decide +kernel) ⟨Nat.le_of_ble_eq_true rfl, Nat.le_of_ble_eq_true rfl⟩) hP hK 0 rfl rfl rfl hl.1 rfl (Nat.le_of_ble_eq_true rfl) dX6_sizeOf_16 ⟨Nat.zero_le _, Nat.zero_le _⟩ (fun rr hq2 => ?_)
        have hq2 : rr = bI (m_in M v i) := hq2
        subst hq2
        refine wb_if_eq (tgt := 26) hx hb dX6_sizeOf_19 (by decide) (fun c19_3 => ?_) (fun c19_3 => ?_)
        · refine lv_iconst (v := nI (0)) hx hb dX6_sizeOf_26 (by decide) ?_
          refine lv_iadd hx hb dX6_sizeOf_27 (ww_top (y := nI (k + 0)) (nI_addn _ _) ?_)
          refine lv_istore_n (lv' := [(2, .int (nI (k + 0))), (0, .ref (a 0)), (1, .int (nI (v))), (3, .int (nI (i)))]) hx hb dX6_sizeOf_28 rfl hl (by decide) rfl (fun ls hl => ?_)
          refine lv_iinc (v := nI (i + 1)) (lv' := [(3, .int (nI (i + 1))), (2, .int (nI (k + 0))), (0, .ref (a 0)), (1, .int (nI (v)))]) hx hb dX6_sizeOf_29 hl (k := 3) rfl (nI_inc _) (by decide) rfl (fun ls hl => ?_)
          refine lv_goto (tgt := 4) hx hb dX6_sizeOf_32 (by decide) ?_
          exact ih4 (i + 1) (k + 0)  (by omega) (by omega) (cnt_f hk (by simp [c9_1, c19_3]))  ls (lv_sub hl [2, 3, 1, 0] rfl)
        · refine lv_iconst (v := nI (1)) hx hb dX6_sizeOf_22 (by decide) ?_
          refine lv_goto (tgt := 27) hx hb dX6_sizeOf_23 (by decide) ?_
          refine lv_iadd hx hb dX6_sizeOf_27 (ww_top (y := nI (k + 1)) (nI_addn _ _) ?_)
          refine lv_istore_n (lv' := [(2, .int (nI (k + 1))), (0, .ref (a 0)), (1, .int (nI (v))), (3, .int (nI (i)))]) hx hb dX6_sizeOf_28 rfl hl (by decide) rfl (fun ls hl => ?_)
          refine lv_iinc (v := nI (i + 1)) (lv' := [(3, .int (nI (i + 1))), (2, .int (nI (k + 1))), (0, .ref (a 0)), (1, .int (nI (v)))]) hx hb dX6_sizeOf_29 hl (k := 3) rfl (nI_inc _) (by decide) rfl (fun ls hl => ?_)
          refine lv_goto (tgt := 4) hx hb dX6_sizeOf_32 (by decide) ?_
          exact ih4 (i + 1) (k + 1)  (by omega) (by omega) (cnt_t hk (by simp [c9_1, c19_3]))  ls (lv_sub hl [2, 3, 1, 0] rfl)
  exact hlp4 _ (0) (0)  (Nat.lt_succ_self _) (Nat.zero_le _) (rfl)  ls (lv_sub hl [2, 3, 1, 0] rfl)
def rm_X6_isView : Room := { frames := 0, cells := 0, slots := 0, locals := 0 }
set_option maxHeartbeats 4000000 in
set_option maxRecDepth 100000 in
/-- whether a number is a view's -/
theorem c_X6_isView (l : Launch) (D : va_G) (cI cJ cZ : ClassId) (a : Nat → Nat) (th : Nat) (lds : Nat → Bool) (M : MT) (hM : mOk M) (x : Int32) : Met l yX6_isView wsX6_isView rm_X6_isView (va_Pc [.ref (a 0), .int (x)] (GR D (tyW cI cJ cZ) (mW cI cJ cZ a (th) (lds) M))) (vp_Si (fun rr => rr = bI (decide (0 ≤ x.toInt ∧ x.toInt < (m_vn M : Int))))) 0 0 (fun _ => False) := by
  obtain ⟨hn, hsn, hvn, hrn, hpn, hnw, h_seg, h_la, h_st, h_vo, h_ko, h_sl, h_sc, h_kp, h_en, h_pg, hvo, hko, hsl, hsc⟩ := id hM
  refine Met.ofW (cc := cX6_isView) (maxL := 2) (ret := (some .boolean)) (by decide) rfl ?_
  intro p e s m args below meth c s₁ B hml hv
  obtain ⟨rfl, hP, hK⟩ := hv
  have hx := B.exec
  have hb := B.bytes
  have hr := B.returns
  have hts := atoms_spec (ws := wsX6_isView) B.pre
  have hown : s.vm.findClass RX6 = some m.cls := findClass_of_methodNamed B.named
  have hlocks := B.notSynchronized
  have hiX6 : ∀ w ∈ wsX60, w ∈ wsX6_isView := by decide +kernel
  have hf0 := hts (.fieldLink RX6 111 "GroupCursorsModel" "views" "I") (by decide +kernel)
  have hl := lv_entry ([.ref (a 0), .int (x)]) (n := 2) (Nat.le_of_ble_eq_true rfl)
  rw [lg_entry_eq]
  generalize (lg_sl ([.ref (a 0), .int (x)]) ++ List.replicate (2 - (lg_sl ([.ref (a 0), .int (x)])).length) Slot.unset).toArray = ls at hl ⊢
  have hl : lv_has ls 2 [(0, .ref (a 0)), (1, .int (x))] := hl
  refine lv_iload_n hx hb dX6_isView_0 rfl (lv_at hl 1 rfl) ?_
  refine wz_if_lt (tgt := 16) hx hb ((x).toInt) rfl dX6_isView_1 (by decide) (fun c1_1 => ?_) (fun c1_1 => ?_)
  · refine lv_iconst (v := nI (0)) hx hb dX6_isView_16 (by decide) ?_
    exact W.zret (v := nI (0)) hx hb hr rfl (fun t ht hW => ⟨_, rfl, (bI_ff (by simp only [decide_eq_false_iff_not]; omega)), ht⟩) (fun q h => nomatch h) dX6_isView_17
  · refine lv_iload_n hx hb dX6_isView_4 rfl (lv_at hl 1 rfl) ?_
    refine lv_aload_n hx hb dX6_isView_5 rfl (lv_at hl 0 rfl) ?_
    refine va_get (ci := 6) (v := .int (nI (m_vn M))) (C := RX6) (T := TX6) (N := 30) hx hb hts hiX6 hown hK hP 0 rfl rfl 9 (by decide) hf0 (fun _ h9 => h9) rfl dX6_isView_6 ?_
    refine wz_icmp_ge (tgt := 16) hx hb ((x).toInt) (((m_vn M : Nat) : Int)) rfl (nI_z (by omega)) dX6_isView_9 (by decide) (fun c9_2 => ?_) (fun c9_2 => ?_)
    · refine lv_iconst (v := nI (0)) hx hb dX6_isView_16 (by decide) ?_
      exact W.zret (v := nI (0)) hx hb hr rfl (fun t ht hW => ⟨_, rfl, (bI_ff (by simp only [decide_eq_false_iff_not]; omega)), ht⟩) (fun q h => nomatch h) dX6_isView_17
    · refine lv_iconst (v := nI (1)) hx hb dX6_isView_12 (by decide) ?_
      refine lv_goto (tgt := 17) hx hb dX6_isView_13 (by decide) ?_
      exact W.zret (v := nI (1)) hx hb hr rfl (fun t ht hW => ⟨_, rfl, (bI_tt (by simp only [decide_eq_true_eq]; omega)), ht⟩) (fun q h => nomatch h) dX6_isView_17
def rm_X6_isReader : Room := { frames := 0, cells := 0, slots := 0, locals := 0 }
set_option maxHeartbeats 4000000 in
set_option maxRecDepth 100000 in
/-- whether a number is a reader's -/
theorem c_X6_isReader (l : Launch) (D : va_G) (cI cJ cZ : ClassId) (a : Nat → Nat) (th : Nat) (lds : Nat → Bool) (M : MT) (hM : mOk M) (x : Int32) : Met l yX6_isReader wsX6_isReader rm_X6_isReader (va_Pc [.ref (a 0), .int (x)] (GR D (tyW cI cJ cZ) (mW cI cJ cZ a (th) (lds) M))) (vp_Si (fun rr => rr = bI (decide (0 ≤ x.toInt ∧ x.toInt < (m_rn M : Int))))) 0 0 (fun _ => False) := by
  obtain ⟨hn, hsn, hvn, hrn, hpn, hnw, h_seg, h_la, h_st, h_vo, h_ko, h_sl, h_sc, h_kp, h_en, h_pg, hvo, hko, hsl, hsc⟩ := id hM
  refine Met.ofW (cc := cX6_isReader) (maxL := 2) (ret := (some .boolean)) (by decide) rfl ?_
  intro p e s m args below meth c s₁ B hml hv
  obtain ⟨rfl, hP, hK⟩ := hv
  have hx := B.exec
  have hb := B.bytes
  have hr := B.returns
  have hts := atoms_spec (ws := wsX6_isReader) B.pre
  have hown : s.vm.findClass RX6 = some m.cls := findClass_of_methodNamed B.named
  have hlocks := B.notSynchronized
  have hiX6 : ∀ w ∈ wsX60, w ∈ wsX6_isReader := by decide +kernel
  have hf0 := hts (.fieldLink RX6 134 "GroupCursorsModel" "readers" "I") (by decide +kernel)
  have hl := lv_entry ([.ref (a 0), .int (x)]) (n := 2) (Nat.le_of_ble_eq_true rfl)
  rw [lg_entry_eq]
  generalize (lg_sl ([.ref (a 0), .int (x)]) ++ List.replicate (2 - (lg_sl ([.ref (a 0), .int (x)])).length) Slot.unset).toArray = ls at hl ⊢
  have hl : lv_has ls 2 [(0, .ref (a 0)), (1, .int (x))] := hl
  refine lv_iload_n hx hb dX6_isReader_0 rfl (lv_at hl 1 rfl) ?_
  refine wz_if_lt (tgt := 16) hx hb ((x).toInt) rfl dX6_isReader_1 (by decide) (fun c1_1 => ?_) (fun c1_1 => ?_)
  · refine lv_iconst (v := nI (0)) hx hb dX6_isReader_16 (by decide) ?_
    exact W.zret (v := nI (0)) hx hb hr rfl (fun t ht hW => ⟨_, rfl, (bI_ff (by simp only [decide_eq_false_iff_not]; omega)), ht⟩) (fun q h => nomatch h) dX6_isReader_17
  · refine lv_iload_n hx hb dX6_isReader_4 rfl (lv_at hl 1 rfl) ?_
    refine lv_aload_n hx hb dX6_isReader_5 rfl (lv_at hl 0 rfl) ?_
    refine va_get (ci := 6) (v := .int (nI (m_rn M))) (C := RX6) (T := TX6) (N := 30) hx hb hts hiX6 hown hK hP 0 rfl rfl 13 (by decide) hf0 (fun _ h9 => h9) rfl dX6_isReader_6 ?_
    refine wz_icmp_ge (tgt := 16) hx hb ((x).toInt) (((m_rn M : Nat) : Int)) rfl (nI_z (by omega)) dX6_isReader_9 (by decide) (fun c9_2 => ?_) (fun c9_2 => ?_)
    · refine lv_iconst (v := nI (0)) hx hb dX6_isReader_16 (by decide) ?_
      exact W.zret (v := nI (0)) hx hb hr rfl (fun t ht hW => ⟨_, rfl, (bI_ff (by simp only [decide_eq_false_iff_not]; omega)), ht⟩) (fun q h => nomatch h) dX6_isReader_17
    · refine lv_iconst (v := nI (1)) hx hb dX6_isReader_12 (by decide) ?_
      refine lv_goto (tgt := 17) hx hb dX6_isReader_13 (by decide) ?_
      exact W.zret (v := nI (1)) hx hb hr rfl (fun t ht hW => ⟨_, rfl, (bI_tt (by simp only [decide_eq_true_eq]; omega)), ht⟩) (fun q h => nomatch h) dX6_isReader_17
def rm_X6_isKind : Room := { frames := 0, cells := 0, slots := 0, locals := 0 }
set_option maxHeartbeats 4000000 in
set_option maxRecDepth 100000 in
/-- whether a number is a kind's -/
theorem c_X6_isKind (l : Launch) (D : va_G) (cI cJ cZ : ClassId) (a : Nat → Nat) (th : Nat) (lds : Nat → Bool) (M : MT) (hM : mOk M) (x : Int32) : Met l yX6_isKind wsX6_isKind rm_X6_isKind (va_Pc [.int (x)] (GR D (tyW cI cJ cZ) (mW cI cJ cZ a (th) (lds) M))) (vp_Si (fun rr => rr = bI (decide (0 ≤ x.toInt ∧ x.toInt < 3)))) 0 0 (fun _ => False) := by
  obtain ⟨hn, hsn, hvn, hrn, hpn, hnw, h_seg, h_la, h_st, h_vo, h_ko, h_sl, h_sc, h_kp, h_en, h_pg, hvo, hko, hsl, hsc⟩ := id hM
  refine Met.ofW (cc := cX6_isKind) (maxL := 1) (ret := (some .boolean)) (by decide) rfl ?_
  intro p e s m args below meth c s₁ B hml hv
  obtain ⟨rfl, hP, hK⟩ := hv
  have hx := B.exec
  have hb := B.bytes
  have hr := B.returns
  have hts := atoms_spec (ws := wsX6_isKind) B.pre
  have hown : s.vm.findClass RX6 = some m.cls := findClass_of_methodNamed B.named
  have hlocks := B.notSynchronized
  have hl := lv_entry ([.int (x)]) (n := 1) (Nat.le_of_ble_eq_true rfl)
  rw [lg_entry_eq]
  generalize (lg_sl ([.int (x)]) ++ List.replicate (1 - (lg_sl ([.int (x)])).length) Slot.unset).toArray = ls at hl ⊢
  have hl : lv_has ls 1 [(0, .int (x))] := hl
  refine lv_iload_n hx hb dX6_isKind_0 rfl (lv_at hl 0 rfl) ?_
  refine wz_if_lt (tgt := 13) hx hb ((x).toInt) rfl dX6_isKind_1 (by decide) (fun c1_1 => ?_) (fun c1_1 => ?_)
  · refine lv_iconst (v := nI (0)) hx hb dX6_isKind_13 (by decide) ?_
    exact W.zret (v := nI (0)) hx hb hr rfl (fun t ht hW => ⟨_, rfl, (bI_ff (by simp only [decide_eq_false_iff_not]; omega)), ht⟩) (fun q h => nomatch h) dX6_isKind_14
  · refine lv_iload_n hx hb dX6_isKind_4 rfl (lv_at hl 0 rfl) ?_
    refine lv_iconst (v := nI (3)) hx hb dX6_isKind_5 (by decide) ?_
    refine wz_icmp_ge (tgt := 13) hx hb ((x).toInt) (((3 : Nat) : Int)) rfl (nI_z (by omega)) dX6_isKind_6 (by decide) (fun c6_2 => ?_) (fun c6_2 => ?_)
    · refine lv_iconst (v := nI (0)) hx hb dX6_isKind_13 (by decide) ?_
      exact W.zret (v := nI (0)) hx hb hr rfl (fun t ht hW => ⟨_, rfl, (bI_ff (by simp only [decide_eq_false_iff_not]; omega)), ht⟩) (fun q h => nomatch h) dX6_isKind_14
    · refine lv_iconst (v := nI (1)) hx hb dX6_isKind_9 (by decide) ?_
      refine lv_goto (tgt := 14) hx hb dX6_isKind_10 (by decide) ?_
      exact W.zret (v := nI (1)) hx hb hr rfl (fun t ht hW => ⟨_, rfl, (bI_tt (by simp only [decide_eq_true_eq]; omega)), ht⟩) (fun q h => nomatch h) dX6_isKind_14
def rm_X6_mix : Room := { frames := 0, cells := 0, slots := 0, locals := 0 }
set_option maxHeartbeats 4000000 in
set_option maxRecDepth 100000 in
/-- the mix -/
theorem c_X6_mix (l : Launch) (D : va_G) (cI cJ cZ : ClassId) (a : Nat → Nat) (th : Nat) (lds : Nat → Bool) (M : MT) (hM : mOk M) (k sd : Int64) : Met l yX6_mix wsX6_mix rm_X6_mix (va_Pc [.long (k), .long (sd)] (GR D (tyW cI cJ cZ) (mW cI cJ cZ a (th) (lds) M))) (vp_Sl (fun rr => rr = mixv k sd)) 0 0 (fun _ => False) := by
  obtain ⟨hn, hsn, hvn, hrn, hpn, hnw, h_seg, h_la, h_st, h_vo, h_ko, h_sl, h_sc, h_kp, h_en, h_pg, hvo, hko, hsl, hsc⟩ := id hM
  refine Met.ofW (cc := cX6_mix) (maxL := 6) (ret := (some .long)) (by decide) rfl ?_
  intro p e s m args below meth c s₁ B hml hv
  obtain ⟨rfl, hP, hK⟩ := hv
  have hx := B.exec
  have hb := B.bytes
  have hr := B.returns
  have hts := atoms_spec (ws := wsX6_mix) B.pre
  have hown : s.vm.findClass RX6 = some m.cls := findClass_of_methodNamed B.named
  have hlocks := B.notSynchronized
  have hf0 := hts (.constantLong RX6 85 (-7046029254386353131)) (by decide +kernel)
  have hf1 := hts (.constantLong RX6 87 (-4658895280553007687)) (by decide +kernel)
  have hf2 := hts (.constantLong RX6 89 (-7723592293110705685)) (by decide +kernel)
  have hl := lv_entry ([.long (k), .long (sd)]) (n := 6) (Nat.le_of_ble_eq_true rfl)
  rw [lg_entry_eq]
  generalize (lg_sl ([.long (k), .long (sd)]) ++ List.replicate (6 - (lg_sl ([.long (k), .long (sd)])).length) Slot.unset).toArray = ls at hl ⊢
  have hl : lv_has ls 6 [(0, .long (k)), (2, .long (sd))] := hl
  refine lv_lload_n hx hb dX6_mix_0 rfl (lv_at hl 0 rfl) ?_
  refine lv_lload_n hx hb dX6_mix_1 rfl (lv_at hl 1 rfl) ?_
  refine lv_ldc2 (v := (-7046029254386353131)) hx hb hown hf0 dX6_mix_2 ?_
  refine lv_lmul hx hb dX6_mix_5 ?_
  refine lv_lxor hx hb dX6_mix_6 ?_
  refine lv_lstore (lv' := [(4, .long ((k ^^^ (sd * (-7046029254386353131))))), (0, .long (k)), (2, .long (sd))]) hx hb dX6_mix_7 hl (by decide) rfl (fun ls hl => ?_)
  refine lv_lload hx hb dX6_mix_9 (lv_at hl 0 rfl) ?_
  refine lv_lload hx hb dX6_mix_11 (lv_at hl 0 rfl) ?_
  refine lv_bipush (v := nI (30)) hx hb dX6_mix_13 (by decide) ?_
  refine lv_lushr (v := ((k ^^^ (sd * (-7046029254386353131))).toUInt64 >>> ((nI (30)).toInt64.toUInt64 &&& Int64.toUInt64 63)).toInt64) hx hb dX6_mix_15 rfl ?_
  refine lv_lxor hx hb dX6_mix_16 ?_
  refine lv_ldc2 (v := (-4658895280553007687)) hx hb hown hf1 dX6_mix_17 ?_
  refine lv_lmul hx hb dX6_mix_20 ?_
  refine lv_lstore (lv' := [(4, .long ((((k ^^^ (sd * (-7046029254386353131))) ^^^ ((k ^^^ (sd * (-7046029254386353131))).toUInt64 >>> ((nI (30)).toInt64.toUInt64 &&& Int64.toUInt64 63)).toInt64) * (-4658895280553007687)))), (0, .long (k)), (2, .long (sd))]) hx hb dX6_mix_21 hl (by decide) rfl (fun ls hl => ?_)
  refine lv_lload hx hb dX6_mix_23 (lv_at hl 0 rfl) ?_
  refine lv_lload hx hb dX6_mix_25 (lv_at hl 0 rfl) ?_
  refine lv_bipush (v := nI (27)) hx hb dX6_mix_27 (by decide) ?_
  refine lv_lushr (v := ((((k ^^^ (sd * (-7046029254386353131))) ^^^ ((k ^^^ (sd * (-7046029254386353131))).toUInt64 >>> ((nI (30)).toInt64.toUInt64 &&& Int64.toUInt64 63)).toInt64) * (-4658895280553007687)).toUInt64 >>> ((nI (27)).toInt64.toUInt64 &&& Int64.toUInt64 63)).toInt64) hx hb dX6_mix_29 rfl ?_
  refine lv_lxor hx hb dX6_mix_30 ?_
  refine lv_ldc2 (v := (-7723592293110705685)) hx hb hown hf2 dX6_mix_31 ?_
  refine lv_lmul hx hb dX6_mix_34 ?_
  refine lv_lstore (lv' := [(4, .long ((((((k ^^^ (sd * (-7046029254386353131))) ^^^ ((k ^^^ (sd * (-7046029254386353131))).toUInt64 >>> ((nI (30)).toInt64.toUInt64 &&& Int64.toUInt64 63)).toInt64) * (-4658895280553007687)) ^^^ ((((k ^^^ (sd * (-7046029254386353131))) ^^^ ((k ^^^ (sd * (-7046029254386353131))).toUInt64 >>> ((nI (30)).toInt64.toUInt64 &&& Int64.toUInt64 63)).toInt64) * (-4658895280553007687)).toUInt64 >>> ((nI (27)).toInt64.toUInt64 &&& Int64.toUInt64 63)).toInt64) * (-7723592293110705685)))), (0, .long (k)), (2, .long (sd))]) hx hb dX6_mix_35 hl (by decide) rfl (fun ls hl => ?_)
  refine lv_lload hx hb dX6_mix_37 (lv_at hl 0 rfl) ?_
  refine lv_lload hx hb dX6_mix_39 (lv_at hl 0 rfl) ?_
  refine lv_bipush (v := nI (31)) hx hb dX6_mix_41 (by decide) ?_
  refine lv_lushr (v := ((((((k ^^^ (sd * (-7046029254386353131))) ^^^ ((k ^^^ (sd * (-7046029254386353131))).toUInt64 >>> ((nI (30)).toInt64.toUInt64 &&& Int64.toUInt64 63)).toInt64) * (-4658895280553007687)) ^^^ ((((k ^^^ (sd * (-7046029254386353131))) ^^^ ((k ^^^ (sd * (-7046029254386353131))).toUInt64 >>> ((nI (30)).toInt64.toUInt64 &&& Int64.toUInt64 63)).toInt64) * (-4658895280553007687)).toUInt64 >>> ((nI (27)).toInt64.toUInt64 &&& Int64.toUInt64 63)).toInt64) * (-7723592293110705685)).toUInt64 >>> ((nI (31)).toInt64.toUInt64 &&& Int64.toUInt64 63)).toInt64) hx hb dX6_mix_43 rfl ?_
  refine lv_lxor hx hb dX6_mix_44 ?_
  exact W.lret (v := ((((((k ^^^ (sd * (-7046029254386353131))) ^^^ ((k ^^^ (sd * (-7046029254386353131))).toUInt64 >>> ((nI (30)).toInt64.toUInt64 &&& Int64.toUInt64 63)).toInt64) * (-4658895280553007687)) ^^^ ((((k ^^^ (sd * (-7046029254386353131))) ^^^ ((k ^^^ (sd * (-7046029254386353131))).toUInt64 >>> ((nI (30)).toInt64.toUInt64 &&& Int64.toUInt64 63)).toInt64) * (-4658895280553007687)).toUInt64 >>> ((nI (27)).toInt64.toUInt64 &&& Int64.toUInt64 63)).toInt64) * (-7723592293110705685)) ^^^ ((((((k ^^^ (sd * (-7046029254386353131))) ^^^ ((k ^^^ (sd * (-7046029254386353131))).toUInt64 >>> ((nI (30)).toInt64.toUInt64 &&& Int64.toUInt64 63)).toInt64) * (-4658895280553007687)) ^^^ ((((k ^^^ (sd * (-7046029254386353131))) ^^^ ((k ^^^ (sd * (-7046029254386353131))).toUInt64 >>> ((nI (30)).toInt64.toUInt64 &&& Int64.toUInt64 63)).toInt64) * (-4658895280553007687)).toUInt64 >>> ((nI (27)).toInt64.toUInt64 &&& Int64.toUInt64 63)).toInt64) * (-7723592293110705685)).toUInt64 >>> ((nI (31)).toInt64.toUInt64 &&& Int64.toUInt64 63)).toInt64)) hx hb hr (fun t ht hW => ⟨_, rfl, rfl, ht⟩) (fun q h => nomatch h) dX6_mix_45
