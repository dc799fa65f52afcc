def rm_X3_firstOf : Room := { frames := 0, cells := 0, slots := 0, locals := 0 }
set_option maxHeartbeats 4000000 in
set_option maxRecDepth 100000 in
/-- the first object of a group -/
theorem c_X3_firstOf (l : Launch) (D : va_G) (cI cJ cZ cV cR : ClassId) (a : Nat → Nat) (C : CT) (hM : kOk C) (g : Int64) : Met l yX3_firstOf wsX3_firstOf rm_X3_firstOf (va_Pc [.ref (a 1), .long (g)] (GR D (tyK cI cJ cZ cV cR) (kW cI cJ cZ cV cR a C))) (vp_Si (fun rr => rr = nI (firstF (k_grp C) (k_n C) g))) 0 0 (fun _ => False) := by
  obtain ⟨hn, hfn, hsn, hvc, hrc, hpc, hnw, hkc, h_home, h_kin, h_alv, h_srs, h_row, h_sp, h_kis, h_pg⟩ := id hM
  refine Met.ofW (cc := cX3_firstOf) (maxL := 4) (ret := (some .int)) (by decide) rfl ?_
  intro p e s m args below meth c s₁ B hml hv
  obtain ⟨rfl, hP, hK⟩ := hv
  have hx := B.exec
  have hb := B.bytes
  have hr := B.returns
  have hts := atoms_spec (ws := wsX3_firstOf) B.pre
  have hown : s.vm.findClass RX3 = some m.cls := findClass_of_methodNamed B.named
  have hlocks := B.notSynchronized
  have hiX3 : ∀ w ∈ wsX30, w ∈ wsX3_firstOf := by decide +kernel
  have hf0 := hts (.fieldLink RX3 32 "GroupCursors$Stock" "count" "I") (by decide +kernel)
  have hf1 := hts (.fieldLink RX3 9 "GroupCursors$Stock" "group" "[J") (by decide +kernel)
  have hl := lv_entry ([.ref (a 1), .long (g)]) (n := 4) (Nat.le_of_ble_eq_true rfl)
  rw [lg_entry_eq]
  generalize (lg_sl ([.ref (a 1), .long (g)]) ++ List.replicate (4 - (lg_sl ([.ref (a 1), .long (g)])).length) Slot.unset).toArray = ls at hl ⊢
  have hl : lv_has ls 4 [(0, .ref (a 1)), (1, .long (g))] := hl
  refine lv_iconst (v := nI (0)) hx hb dX3_firstOf_0 (by decide) ?_
  refine lv_istore_n (lv' := [(3, .int (nI (0))), (0, .ref (a 1)), (1, .long (g))]) hx hb dX3_firstOf_1 rfl hl (by decide) rfl (fun ls hl => ?_)
  have hlp2 : ∀ (d : Nat) (i : Nat), k_n C - i < d → (i ≤ fstB (pGrp (k_grp C) g) (k_n C)) → ∀ (ls : Array Slot), lv_has ls 4 [(0, .ref (a 1)), (1, .long (g)), (3, .int (nI (i)))] → W p l e (headSpec wsX3_firstOf rm_X3_firstOf).room s m ([.ref (a 1), .long (g)] : List Value).toArray below meth c s.heap [] (0) (0) (MQ below (vp_Si (fun rr => rr = nI (firstF (k_grp C) (k_n C) g))) ([.ref (a 1), .long (g)] : List Value).toArray s 0 0 (fun _ => False)) (F0 m 2 ls []) := by
    intro d
    induction d with
    | zero => intro i  hd2; exact absurd hd2 (Nat.not_lt_zero _)
    | succ d ih2 =>
      intro i  hd2 hio  ls hl
      have hfl := fstB_le (pGrp (k_grp C) g) (k_n C)
      refine lv_iload_n hx hb dX3_firstOf_2 rfl (lv_at hl 2 rfl) ?_
      refine lv_aload_n hx hb dX3_firstOf_3 rfl (lv_at hl 0 rfl) ?_
      refine va_get (ci := 3) (v := .int (nI (k_n C))) (C := RX3) (T := TX3) (N := 8) hx hb hts hiX3 hown hK hP 1 rfl rfl 6 (by decide) hf0 (fun _ h9 => h9) rfl dX3_firstOf_4 ?_
      refine wn_icmp_ge (a := i) (b := k_n C) (tgt := 29) hx hb (nI_z (by omega)) (nI_z (by omega)) dX3_firstOf_7 (by decide) (fun c7_1 => ?_) (fun c7_1 => ?_)
      · refine lv_aload_n hx hb dX3_firstOf_29 rfl (lv_at hl 0 rfl) ?_
        refine va_get (ci := 3) (v := .int (nI (k_n C))) (C := RX3) (T := TX3) (N := 8) hx hb hts hiX3 hown hK hP 1 rfl rfl 6 (by decide) hf0 (fun _ h9 => h9) rfl dX3_firstOf_30 ?_
        exact W.iret (v := nI (k_n C)) hx hb hr (fun t ht hW => ⟨_, rfl, (by have := fstB_le (pGrp (k_grp C) g) (k_n C); rw [firstF, (show fstB (pGrp (k_grp C) g) (k_n C) = k_n C by omega)]), ht⟩) (fun q h => nomatch h) dX3_firstOf_33
      · refine lv_aload_n hx hb dX3_firstOf_10 rfl (lv_at hl 0 rfl) ?_
        refine va_get (ci := 3) (v := .ref (a 2)) (C := RX3) (T := TX3) (N := 8) hx hb hts hiX3 hown hK hP 1 rfl rfl 0 (by decide) hf1 (fun _ h9 => h9) rfl dX3_firstOf_11 ?_
        refine lv_iload_n hx hb dX3_firstOf_14 rfl (lv_at hl 2 rfl) ?_
        refine wa_l (i := i) (v := k_grp C i) hx hb hK hP 2 1 rfl rfl rfl (by omega) (by decide) dX3_firstOf_15 ?_
        refine lv_lload_n hx hb dX3_firstOf_16 rfl (lv_at hl 1 rfl) ?_
        refine wl_ne (tgt := 23) hx hb dX3_firstOf_17 dX3_firstOf_18 (by decide) (fun c17_2 => ?_) (fun c17_2 => ?_)
        · refine lv_iinc (v := nI (i + 1)) (lv' := [(3, .int (nI (i + 1))), (0, .ref (a 1)), (1, .long (g))]) hx hb dX3_firstOf_23 hl (k := 2) rfl (nI_inc _) (by decide) rfl (fun ls hl => ?_)
          refine lv_goto (tgt := 2) hx hb dX3_firstOf_26 (by decide) ?_
          exact ih2 (i + 1)  (by omega) (fst_next hio (by omega) (by simp [pGrp, c17_2]))  ls (lv_sub hl [1, 2, 0] rfl)
        · refine lv_iload_n hx hb dX3_firstOf_21 rfl (lv_at hl 2 rfl) ?_
          exact W.iret (v := nI (i)) hx hb hr (fun t ht hW => ⟨_, rfl, (by rw [firstF, fst_here hio (by simp [pGrp, c17_2])]), ht⟩) (fun q h => nomatch h) dX3_firstOf_22
  exact hlp2 _ (0)  (Nat.lt_succ_self _) (Nat.zero_le _)  ls (lv_sub hl [1, 2, 0] rfl)
def rm_X3_stands : Room := { frames := 0, cells := 0, slots := 0, locals := 0 }
set_option maxHeartbeats 4000000 in
set_option maxRecDepth 100000 in
/-- whether an object stands in a segment -/
theorem c_X3_stands (l : Launch) (D : va_G) (cI cJ cZ cV cR : ClassId) (a : Nat → Nat) (C : CT) (hM : kOk C) (o : Nat) (ho : o < 300) : Met l yX3_stands wsX3_stands rm_X3_stands (va_Pc [.ref (a 1), .int (nI (o))] (GR D (tyK cI cJ cZ cV cR) (kW cI cJ cZ cV cR a C))) (vp_Si (fun rr => rr = bI (stF (k_home C) (k_drp C) o))) 0 0 (fun _ => False) := by
  obtain ⟨hn, hfn, hsn, hvc, hrc, hpc, hnw, hkc, h_home, h_kin, h_alv, h_srs, h_row, h_sp, h_kis, h_pg⟩ := id hM
  refine Met.ofW (cc := cX3_stands) (maxL := 2) (ret := (some .boolean)) (by decide) rfl ?_
  intro p e s m args below meth c s₁ B hml hv
  obtain ⟨rfl, hP, hK⟩ := hv
  have hx := B.exec
  have hb := B.bytes
  have hr := B.returns
  have hts := atoms_spec (ws := wsX3_stands) B.pre
  have hown : s.vm.findClass RX3 = some m.cls := findClass_of_methodNamed B.named
  have hlocks := B.notSynchronized
  have hiX3 : ∀ w ∈ wsX30, w ∈ wsX3_stands := by decide +kernel
  have hf0 := hts (.fieldLink RX3 25 "GroupCursors$Stock" "home" "[I") (by decide +kernel)
  have hf1 := hts (.fieldLink RX3 28 "GroupCursors$Stock" "dropped" "[Z") (by decide +kernel)
  have hl := lv_entry ([.ref (a 1), .int (nI (o))]) (n := 2) (Nat.le_of_ble_eq_true rfl)
  rw [lg_entry_eq]
  generalize (lg_sl ([.ref (a 1), .int (nI (o))]) ++ List.replicate (2 - (lg_sl ([.ref (a 1), .int (nI (o))])).length) Slot.unset).toArray = ls at hl ⊢
  have hl : lv_has ls 2 [(0, .ref (a 1)), (1, .int (nI (o)))] := hl
  refine lv_aload_n hx hb dX3_stands_0 rfl (lv_at hl 0 rfl) ?_
  refine va_get (ci := 3) (v := .ref (a 6)) (C := RX3) (T := TX3) (N := 8) hx hb hts hiX3 hown hK hP 1 rfl rfl 4 (by decide) hf0 (fun _ h9 => h9) rfl dX3_stands_1 ?_
  refine lv_iload_n hx hb dX3_stands_4 rfl (lv_at hl 1 rfl) ?_
  refine wa_i (i := o) (v := zI (k_home C o)) hx hb hK hP 6 0 rfl rfl rfl (by omega) (by decide) dX3_stands_5 ?_
  refine lv_iconst (v := zI ((-1))) hx hb dX3_stands_6 (by decide) ?_
  refine wz_icmp_eq (tgt := 23) hx hb ((k_home C o : Int)) (((-1) : Int)) (zr4 (h_home o)) (zI_toInt (by omega) (by omega)) dX3_stands_7 (by decide) (fun c7_1 => ?_) (fun c7_1 => ?_)
  · refine lv_iconst (v := nI (0)) hx hb dX3_stands_23 (by decide) ?_
    exact W.zret (v := nI (0)) hx hb hr rfl (fun t ht hW => ⟨_, rfl, (bI_ff (by simp [stF, c7_1])), ht⟩) (fun q h => nomatch h) dX3_stands_24
  · refine lv_aload_n hx hb dX3_stands_10 rfl (lv_at hl 0 rfl) ?_
    refine va_get (ci := 3) (v := .ref (a 7)) (C := RX3) (T := TX3) (N := 8) hx hb hts hiX3 hown hK hP 1 rfl rfl 5 (by decide) hf1 (fun _ h9 => h9) rfl dX3_stands_11 ?_
    refine lv_iload_n hx hb dX3_stands_14 rfl (lv_at hl 1 rfl) ?_
    refine wa_z (i := o) (v := bI (k_drp C o)) hx hb hK hP 7 2 rfl rfl rfl (by omega) (by decide) dX3_stands_15 ?_
    refine wb_if_ne (tgt := 23) hx hb dX3_stands_16 (by decide) (fun c16_2 => ?_) (fun c16_2 => ?_)
    · refine lv_iconst (v := nI (0)) hx hb dX3_stands_23 (by decide) ?_
      exact W.zret (v := nI (0)) hx hb hr rfl (fun t ht hW => ⟨_, rfl, (bI_ff (by simp [stF, c7_1, c16_2])), ht⟩) (fun q h => nomatch h) dX3_stands_24
    · refine lv_iconst (v := nI (1)) hx hb dX3_stands_19 (by decide) ?_
      refine lv_goto (tgt := 24) hx hb dX3_stands_20 (by decide) ?_
      exact W.zret (v := nI (1)) hx hb hr rfl (fun t ht hW => ⟨_, rfl, (bI_tt (by simp [stF, c7_1, c16_2])), ht⟩) (fun q h => nomatch h) dX3_stands_24
def rm_X3_countNew : Room := { frames := 0, cells := 0, slots := 0, locals := 0 }
set_option maxHeartbeats 4000000 in
set_option maxRecDepth 100000 in
/-- how many new objects are not dropped -/
theorem c_X3_countNew (l : Launch) (D : va_G) (cI cJ cZ cV cR : ClassId) (a : Nat → Nat) (C : CT) (hM : kOk C)  : Met l yX3_countNew wsX3_countNew rm_X3_countNew (va_Pc [.ref (a 1)] (GR D (tyK cI cJ cZ cV cR) (kW cI cJ cZ cV cR a C))) (vp_Si (fun rr => rr = nI (newF (k_fn C) (k_drp C) (k_n C)))) 0 0 (fun _ => False) := by
  obtain ⟨hn, hfn, hsn, hvc, hrc, hpc, hnw, hkc, h_home, h_kin, h_alv, h_srs, h_row, h_sp, h_kis, h_pg⟩ := id hM
  refine Met.ofW (cc := cX3_countNew) (maxL := 3) (ret := (some .int)) (by decide) rfl ?_
  intro p e s m args below meth c s₁ B hml hv
  obtain ⟨rfl, hP, hK⟩ := hv
  have hx := B.exec
  have hb := B.bytes
  have hr := B.returns
  have hts := atoms_spec (ws := wsX3_countNew) B.pre
  have hown : s.vm.findClass RX3 = some m.cls := findClass_of_methodNamed B.named
  have hlocks := B.notSynchronized
  have hiX3 : ∀ w ∈ wsX30, w ∈ wsX3_countNew := by decide +kernel
  have hf0 := hts (.fieldLink RX3 36 "GroupCursors$Stock" "firstNew" "I") (by decide +kernel)
  have hf1 := hts (.fieldLink RX3 32 "GroupCursors$Stock" "count" "I") (by decide +kernel)
  have hf2 := hts (.fieldLink RX3 28 "GroupCursors$Stock" "dropped" "[Z") (by decide +kernel)
  have hl := lv_entry ([.ref (a 1)]) (n := 3) (Nat.le_of_ble_eq_true rfl)
  rw [lg_entry_eq]
  generalize (lg_sl ([.ref (a 1)]) ++ List.replicate (3 - (lg_sl ([.ref (a 1)])).length) Slot.unset).toArray = ls at hl ⊢
  have hl : lv_has ls 3 [(0, .ref (a 1))] := hl
  refine lv_iconst (v := nI (0)) hx hb dX3_countNew_0 (by decide) ?_
  refine lv_istore_n (lv' := [(1, .int (nI (0))), (0, .ref (a 1))]) hx hb dX3_countNew_1 rfl hl (by decide) rfl (fun ls hl => ?_)
  refine lv_aload_n hx hb dX3_countNew_2 rfl (lv_at hl 1 rfl) ?_
  refine va_get (ci := 3) (v := .int (nI (k_fn C))) (C := RX3) (T := TX3) (N := 8) hx hb hts hiX3 hown hK hP 1 rfl rfl 7 (by decide) hf0 (fun _ h9 => h9) rfl dX3_countNew_3 ?_
  refine lv_istore_n (lv' := [(2, .int (nI (k_fn C))), (1, .int (nI (0))), (0, .ref (a 1))]) hx hb dX3_countNew_6 rfl hl (by decide) rfl (fun ls hl => ?_)
  have hlp7 : ∀ (d : Nat) (i : Nat) (k : Nat), k_n C - i < d → (k_fn C ≤ i) → (i ≤ k_n C) → (k = cnt (pNw (k_fn C) (k_drp C)) i) → ∀ (ls : Array Slot), lv_has ls 3 [(0, .ref (a 1)), (1, .int (nI (k))), (2, .int (nI (i)))] → W p l e (headSpec wsX3_countNew rm_X3_countNew).room s m ([.ref (a 1)] : List Value).toArray below meth c s.heap [] (0) (0) (MQ below (vp_Si (fun rr => rr = nI (newF (k_fn C) (k_drp C) (k_n C)))) ([.ref (a 1)] : List Value).toArray s 0 0 (fun _ => False)) (F0 m 7 ls []) := by
    intro d
    induction d with
    | zero => intro i k  hd7; exact absurd hd7 (Nat.not_lt_zero _)
    | succ d ih7 =>
      intro i k  hd7 hfi hik hk  ls hl
      have hcl := cnt_le (pNw (k_fn C) (k_drp C)) i
      refine lv_iload_n hx hb dX3_countNew_7 rfl (lv_at hl 2 rfl) ?_
      refine lv_aload_n hx hb dX3_countNew_8 rfl (lv_at hl 0 rfl) ?_
      refine va_get (ci := 3) (v := .int (nI (k_n C))) (C := RX3) (T := TX3) (N := 8) hx hb hts hiX3 hown hK hP 1 rfl rfl 6 (by decide) hf1 (fun _ h9 => h9) rfl dX3_countNew_9 ?_
      refine wn_icmp_ge (a := i) (b := k_n C) (tgt := 33) hx hb (nI_z (by omega)) (nI_z (by omega)) dX3_countNew_12 (by decide) (fun c12_1 => ?_) (fun c12_1 => ?_)
      · refine lv_iload_n hx hb dX3_countNew_33 rfl (lv_at hl 1 rfl) ?_
        exact W.iret (v := nI (k)) hx hb hr (fun t ht hW => ⟨_, rfl, (by show nI k = nI (cnt (pNw (k_fn C) (k_drp C)) (k_n C)); rw [hk, (show i = k_n C by omega)]), ht⟩) (fun q h => nomatch h) dX3_countNew_34
      · refine lv_aload_n hx hb dX3_countNew_15 rfl (lv_at hl 0 rfl) ?_
        refine va_get (ci := 3) (v := .ref (a 7)) (C := RX3) (T := TX3) (N := 8) hx hb hts hiX3 hown hK hP 1 rfl rfl 5 (by decide) hf2 (fun _ h9 => h9) rfl dX3_countNew_16 ?_
        refine lv_iload_n hx hb dX3_countNew_19 rfl (lv_at hl 2 rfl) ?_
        refine wa_z (i := i) (v := bI (k_drp C i)) hx hb hK hP 7 2 rfl rfl rfl (by omega) (by decide) dX3_countNew_20 ?_
        refine wb_if_ne (tgt := 27) hx hb dX3_countNew_21 (by decide) (fun c21_2 => ?_) (fun c21_2 => ?_)
        · refine lv_iinc (v := nI (i + 1)) (lv' := [(2, .int (nI (i + 1))), (0, .ref (a 1)), (1, .int (nI (k)))]) hx hb dX3_countNew_27 hl (k := 2) rfl (nI_inc _) (by decide) rfl (fun ls hl => ?_)
          refine lv_goto (tgt := 7) hx hb dX3_countNew_30 (by decide) ?_
          exact ih7 (i + 1) (k)  (by omega) (by omega) (by omega) (cnt_f hk (by simp [pNw, show k_fn C ≤ i by omega, c12_1, c21_2]))  ls (lv_sub hl [1, 2, 0] rfl)
        · refine lv_iinc (v := nI (k + 1)) (lv' := [(1, .int (nI (k + 1))), (0, .ref (a 1)), (2, .int (nI (i)))]) hx hb dX3_countNew_24 hl (k := 1) rfl (nI_inc _) (by decide) rfl (fun ls hl => ?_)
          refine lv_iinc (v := nI (i + 1)) (lv' := [(2, .int (nI (i + 1))), (1, .int (nI (k + 1))), (0, .ref (a 1))]) hx hb dX3_countNew_27 hl (k := 2) rfl (nI_inc _) (by decide) rfl (fun ls hl => ?_)
          refine lv_goto (tgt := 7) hx hb dX3_countNew_30 (by decide) ?_
          exact ih7 (i + 1) (k + 1)  (by omega) (by omega) (by omega) (cnt_t hk (by simp [pNw, show k_fn C ≤ i by omega, c12_1, c21_2]))  ls (lv_sub hl [2, 1, 0] rfl)
  exact hlp7 _ (k_fn C) (0)  (Nat.lt_succ_self _) (Nat.le_refl _) (by omega) (newF_0 _ _)  ls (lv_sub hl [2, 1, 0] rfl)
def rm_X3_countStanding : Room := { frames := 1, cells := 0, slots := 0, locals := 21 }
set_option maxHeartbeats 4000000 in
set_option maxRecDepth 100000 in
/-- how many objects stand in a segment -/
theorem c_X3_countStanding (l : Launch) (D : va_G) (cI cJ cZ cV cR : ClassId) (a : Nat → Nat) (C : CT) (hM : kOk C)  : Met l yX3_countStanding wsX3_countStanding rm_X3_countStanding (va_Pc [.ref (a 1)] (GR D (tyK cI cJ cZ cV cR) (kW cI cJ cZ cV cR a C))) (vp_Si (fun rr => rr = nI (cnt (stF (k_home C) (k_drp C)) (k_n C)))) 0 0 (fun _ => False) := by
  obtain ⟨hn, hfn, hsn, hvc, hrc, hpc, hnw, hkc, h_home, h_kin, h_alv, h_srs, h_row, h_sp, h_kis, h_pg⟩ := id hM
  refine Met.ofW (cc := cX3_countStanding) (maxL := 3) (ret := (some .int)) (by decide) rfl ?_
  intro p e s m args below meth c s₁ B hml hv
  obtain ⟨rfl, hP, hK⟩ := hv
  have hx := B.exec
  have hb := B.bytes
  have hr := B.returns
  have hts := atoms_spec (ws := wsX3_countStanding) B.pre
  have hown : s.vm.findClass RX3 = some m.cls := findClass_of_methodNamed B.named
  have hlocks := B.notSynchronized
  have hiX3 : ∀ w ∈ wsX30, w ∈ wsX3_countStanding := by decide +kernel
  have hf0 := hts (.fieldLink RX3 32 "GroupCursors$Stock" "count" "I") (by decide +kernel)
  have hl := lv_entry ([.ref (a 1)]) (n := 3) (Nat.le_of_ble_eq_true rfl)
  rw [lg_entry_eq]
  generalize (lg_sl ([.ref (a 1)]) ++ List.replicate (3 - (lg_sl ([.ref (a 1)])).length) Slot.unset).toArray = ls at hl ⊢
  have hl : lv_has ls 3 [(0, .ref (a 1))] := hl
  refine lv_iconst (v := nI (0)) hx hb dX3_countStanding_0 (by decide) ?_
  refine lv_istore_n (lv' := [(1, .int (nI (0))), (0, .ref (a 1))]) hx hb dX3_countStanding_1 rfl hl (by decide) rfl (fun ls hl => ?_)
  refine lv_iconst (v := nI (0)) hx hb dX3_countStanding_2 (by decide) ?_
  refine lv_istore_n (lv' := [(2, .int (nI (0))), (1, .int (nI (0))), (0, .ref (a 1))]) hx hb dX3_countStanding_3 rfl hl (by decide) rfl (fun ls hl => ?_)
  have hlp4 : ∀ (d : Nat) (i : Nat) (k : Nat), k_n C - i < d → (i ≤ k_n C) → (k = cnt (stF (k_home C) (k_drp C)) i) → ∀ (ls : Array Slot), lv_has ls 3 [(0, .ref (a 1)), (1, .int (nI (k))), (2, .int (nI (i)))] → W p l e (headSpec wsX3_countStanding rm_X3_countStanding).room s m ([.ref (a 1)] : List Value).toArray below meth c s.heap [] (0) (0) (MQ below (vp_Si (fun rr => rr = nI (cnt (stF (k_home C) (k_drp C)) (k_n C)))) ([.ref (a 1)] : List Value).toArray s 0 0 (fun _ => False)) (F0 m 4 ls []) := by
    intro d
    induction d with
    | zero => intro i k  hd4; exact absurd hd4 (Nat.not_lt_zero _)
    | succ d ih4 =>
      intro i k  hd4 hik hk  ls hl
      have hcl := cnt_le (stF (k_home C) (k_drp C)) i
      refine lv_iload_n hx hb dX3_countStanding_4 rfl (lv_at hl 2 rfl) ?_
      refine lv_aload_n hx hb dX3_countStanding_5 rfl (lv_at hl 0 rfl) ?_
      refine va_get (ci := 3) (v := .int (nI (k_n C))) (C := RX3) (T := TX3) (N := 8) hx hb hts hiX3 hown hK hP 1 rfl rfl 6 (by decide) hf0 (fun _ h9 => h9) rfl dX3_countStanding_6 ?_
      refine wn_icmp_ge (a := i) (b := k_n C) (tgt := 29) hx hb (nI_z (by omega)) (nI_z (by omega)) dX3_countStanding_9 (by decide) (fun c9_1 => ?_) (fun c9_1 => ?_)
      · refine lv_iload_n hx hb dX3_countStanding_29 rfl (lv_at hl 1 rfl) ?_
        exact W.iret (v := nI (k)) hx hb hr (fun t ht hW => ⟨_, rfl, (by show nI k = nI (cnt (stF (k_home C) (k_drp C)) (k_n C)); rw [hk, (show i = k_n C by omega)]), ht⟩) (fun q h => nomatch h) dX3_countStanding_30
      · refine lv_aload_n hx hb dX3_countStanding_12 rfl (lv_at hl 0 rfl) ?_
        refine lv_iload_n hx hb dX3_countStanding_13 rfl (lv_at hl 2 rfl) ?_
        refine wc_Vi (As := [.int (nI (i))]) (rest := []) ⟨hx, hb, hml, hown, hts⟩ (c_X3_stands l D cI cJ cZ cV cR a C hM (i) (by omega)) (cwV 1 hts gX3_countStanding_X3_stands rfl rfl rfl (by decide +kernel) ⟨Nat.le_of_ble_eq_true rfl, Nat.le_of_ble_eq_true rfl⟩) hP hK 1 rfl rfl rfl hl.1 rfl (Nat.le_of_ble_eq_true rfl) dX3_countStanding_14 ⟨Nat.zero_le _, Nat.zero_le _⟩ (fun rr hq2 => ?_)
        have hq2 : rr = bI (stF (k_home C) (k_drp C) i) := hq2
        subst hq2
        refine wb_if_eq (tgt := 23) hx hb dX3_countStanding_17 (by decide) (fun c17_3 => ?_) (fun c17_3 => ?_)
        · refine lv_iinc (v := nI (i + 1)) (lv' := [(2, .int (nI (i + 1))), (0, .ref (a 1)), (1, .int (nI (k)))]) hx hb dX3_countStanding_23 hl (k := 2) rfl (nI_inc _) (by decide) rfl (fun ls hl => ?_)
          refine lv_goto (tgt := 4) hx hb dX3_countStanding_26 (by decide) ?_
          exact ih4 (i + 1) (k)  (by omega) (by omega) (cnt_f hk (by simp [c9_1, c17_3]))  ls (lv_sub hl [1, 2, 0] rfl)
        · refine lv_iinc (v := nI (k + 1)) (lv' := [(1, .int (nI (k + 1))), (0, .ref (a 1)), (2, .int (nI (i)))]) hx hb dX3_countStanding_20 hl (k := 1) rfl (nI_inc _) (by decide) rfl (fun ls hl => ?_)
          refine lv_iinc (v := nI (i + 1)) (lv' := [(2, .int (nI (i + 1))), (1, .int (nI (k + 1))), (0, .ref (a 1))]) hx hb dX3_countStanding_23 hl (k := 2) rfl (nI_inc _) (by decide) rfl (fun ls hl => ?_)
          refine lv_goto (tgt := 4) hx hb dX3_countStanding_26 (by decide) ?_
          exact ih4 (i + 1) (k + 1)  (by omega) (by omega) (cnt_t hk (by simp [c9_1, c17_3]))  ls (lv_sub hl [2, 1, 0] rfl)
  exact hlp4 _ (0) (0)  (Nat.lt_succ_self _) (Nat.zero_le _) (rfl)  ls (lv_sub hl [2, 1, 0] rfl)
def rm_X2_stateOf : Room := { frames := 0, cells := 0, slots := 0, locals := 0 }
set_option maxHeartbeats 4000000 in
set_option maxRecDepth 100000 in
/-- whether a segment is live, kept, freed -/
theorem c_X2_stateOf (l : Launch) (D : va_G) (cI cJ cZ cV cR : ClassId) (a : Nat → Nat) (C : CT) (hM : kOk C) (q : Nat) (hq : q < 40) : Met l yX2_stateOf wsX2_stateOf rm_X2_stateOf (va_Pc [.ref (a 8), .int (nI (q))] (GR D (tyK cI cJ cZ cV cR) (kW cI cJ cZ cV cR a C))) (vp_Si (fun rr => rr = nI (ssF (k_alv C) (k_srs C) q))) 0 0 (fun _ => False) := by
  obtain ⟨hn, hfn, hsn, hvc, hrc, hpc, hnw, hkc, h_home, h_kin, h_alv, h_srs, h_row, h_sp, h_kis, h_pg⟩ := id hM
  refine Met.ofW (cc := cX2_stateOf) (maxL := 2) (ret := (some .int)) (by decide) rfl ?_
  intro p e s m args below meth c s₁ B hml hv
  obtain ⟨rfl, hP, hK⟩ := hv
  have hx := B.exec
  have hb := B.bytes
  have hr := B.returns
  have hts := atoms_spec (ws := wsX2_stateOf) B.pre
  have hown : s.vm.findClass RX2 = some m.cls := findClass_of_methodNamed B.named
  have hlocks := B.notSynchronized
  have hiX2 : ∀ w ∈ wsX20, w ∈ wsX2_stateOf := by decide +kernel
  have hf0 := hts (.fieldLink RX2 9 "GroupCursors$Segments" "alive" "[I") (by decide +kernel)
  have hf1 := hts (.fieldLink RX2 15 "GroupCursors$Segments" "seers" "[I") (by decide +kernel)
  have hl := lv_entry ([.ref (a 8), .int (nI (q))]) (n := 2) (Nat.le_of_ble_eq_true rfl)
  rw [lg_entry_eq]
  generalize (lg_sl ([.ref (a 8), .int (nI (q))]) ++ List.replicate (2 - (lg_sl ([.ref (a 8), .int (nI (q))])).length) Slot.unset).toArray = ls at hl ⊢
  have hl : lv_has ls 2 [(0, .ref (a 8)), (1, .int (nI (q)))] := hl
  refine lv_aload_n hx hb dX2_stateOf_0 rfl (lv_at hl 0 rfl) ?_
  refine va_get (ci := 2) (v := .ref (a 9)) (C := RX2) (T := TX2) (N := 3) hx hb hts hiX2 hown hK hP 8 rfl rfl 0 (by decide) hf0 (fun _ h9 => h9) rfl dX2_stateOf_1 ?_
  refine lv_iload_n hx hb dX2_stateOf_4 rfl (lv_at hl 1 rfl) ?_
  refine wa_i (i := q) (v := nI (k_alv C q)) hx hb hK hP 9 0 rfl rfl rfl (by omega) (by decide) dX2_stateOf_5 ?_
  refine wn_if_le (a := k_alv C q) (tgt := 11) hx hb (nr (h_alv q)) dX2_stateOf_6 (by decide) (fun c6_1 => ?_) (fun c6_1 => ?_)
  · refine lv_aload_n hx hb dX2_stateOf_11 rfl (lv_at hl 0 rfl) ?_
    refine va_get (ci := 2) (v := .ref (a 10)) (C := RX2) (T := TX2) (N := 3) hx hb hts hiX2 hown hK hP 8 rfl rfl 1 (by decide) hf1 (fun _ h9 => h9) rfl dX2_stateOf_12 ?_
    refine lv_iload_n hx hb dX2_stateOf_15 rfl (lv_at hl 1 rfl) ?_
    refine wa_i (i := q) (v := nI (k_srs C q)) hx hb hK hP 10 0 rfl rfl rfl (by omega) (by decide) dX2_stateOf_16 ?_
    refine wn_if_le (a := k_srs C q) (tgt := 24) hx hb (nr (h_srs q)) dX2_stateOf_17 (by decide) (fun c17_2 => ?_) (fun c17_2 => ?_)
    · refine lv_iconst (v := nI (2)) hx hb dX2_stateOf_24 (by decide) ?_
      exact W.iret (v := nI (2)) hx hb hr (fun t ht hW => ⟨_, rfl, (by unfold ssF; first | (rw [if_pos (by omega)]) | (rw [if_neg (by omega), if_pos (by omega)]) | (rw [if_neg (by omega), if_neg (by omega)])), ht⟩) (fun q h => nomatch h) dX2_stateOf_25
    · refine lv_iconst (v := nI (1)) hx hb dX2_stateOf_20 (by decide) ?_
      refine lv_goto (tgt := 25) hx hb dX2_stateOf_21 (by decide) ?_
      exact W.iret (v := nI (1)) hx hb hr (fun t ht hW => ⟨_, rfl, (by unfold ssF; first | (rw [if_pos (by omega)]) | (rw [if_neg (by omega), if_pos (by omega)]) | (rw [if_neg (by omega), if_neg (by omega)])), ht⟩) (fun q h => nomatch h) dX2_stateOf_25
  · refine lv_iconst (v := nI (0)) hx hb dX2_stateOf_9 (by decide) ?_
    exact W.iret (v := nI (0)) hx hb hr (fun t ht hW => ⟨_, rfl, (by unfold ssF; first | (rw [if_pos (by omega)]) | (rw [if_neg (by omega), if_pos (by omega)]) | (rw [if_neg (by omega), if_neg (by omega)])), ht⟩) (fun q h => nomatch h) dX2_stateOf_10
def rm_X2_countIn : Room := { frames := 1, cells := 0, slots := 0, locals := 21 }
set_option maxHeartbeats 4000000 in
set_option maxRecDepth 100000 in
/-- how many segments are in a state -/
theorem c_X2_countIn (l : Launch) (D : va_G) (cI cJ cZ cV cR : ClassId) (a : Nat → Nat) (C : CT) (hM : kOk C) (x : Nat) (hx9 : x < 300) : Met l yX2_countIn wsX2_countIn rm_X2_countIn (va_Pc [.ref (a 8), .int (nI (x))] (GR D (tyK cI cJ cZ cV cR) (kW cI cJ cZ cV cR a C))) (vp_Si (fun rr => rr = nI (cnt (pSs (k_alv C) (k_srs C) x) (k_sn C)))) 0 0 (fun _ => False) := by
  obtain ⟨hn, hfn, hsn, hvc, hrc, hpc, hnw, hkc, h_home, h_kin, h_alv, h_srs, h_row, h_sp, h_kis, h_pg⟩ := id hM
  refine Met.ofW (cc := cX2_countIn) (maxL := 4) (ret := (some .int)) (by decide) rfl ?_
  intro p e s m args below meth c s₁ B hml hv
  obtain ⟨rfl, hP, hK⟩ := hv
  have hx := B.exec
  have hb := B.bytes
  have hr := B.returns
  have hts := atoms_spec (ws := wsX2_countIn) B.pre
  have hown : s.vm.findClass RX2 = some m.cls := findClass_of_methodNamed B.named
  have hlocks := B.notSynchronized
  have hiX2 : ∀ w ∈ wsX20, w ∈ wsX2_countIn := by decide +kernel
  have hf0 := hts (.fieldLink RX2 18 "GroupCursors$Segments" "count" "I") (by decide +kernel)
  have hl := lv_entry ([.ref (a 8), .int (nI (x))]) (n := 4) (Nat.le_of_ble_eq_true rfl)
  rw [lg_entry_eq]
  generalize (lg_sl ([.ref (a 8), .int (nI (x))]) ++ List.replicate (4 - (lg_sl ([.ref (a 8), .int (nI (x))])).length) Slot.unset).toArray = ls at hl ⊢
  have hl : lv_has ls 4 [(0, .ref (a 8)), (1, .int (nI (x)))] := hl
  refine lv_iconst (v := nI (0)) hx hb dX2_countIn_0 (by decide) ?_
  refine lv_istore_n (lv' := [(2, .int (nI (0))), (0, .ref (a 8)), (1, .int (nI (x)))]) hx hb dX2_countIn_1 rfl hl (by decide) rfl (fun ls hl => ?_)
  refine lv_iconst (v := nI (0)) hx hb dX2_countIn_2 (by decide) ?_
  refine lv_istore_n (lv' := [(3, .int (nI (0))), (2, .int (nI (0))), (0, .ref (a 8)), (1, .int (nI (x)))]) hx hb dX2_countIn_3 rfl hl (by decide) rfl (fun ls hl => ?_)
  have hlp4 : ∀ (d : Nat) (i : Nat) (k : Nat), k_sn C - i < d → (i ≤ k_sn C) → (k = cnt (pSs (k_alv C) (k_srs C) x) i) → ∀ (ls : Array Slot), lv_has ls 4 [(0, .ref (a 8)), (1, .int (nI (x))), (2, .int (nI (k))), (3, .int (nI (i)))] → W p l e (headSpec wsX2_countIn rm_X2_countIn).room s m ([.ref (a 8), .int (nI (x))] : List Value).toArray below meth c s.heap [] (0) (0) (MQ below (vp_Si (fun rr => rr = nI (cnt (pSs (k_alv C) (k_srs C) x) (k_sn C)))) ([.ref (a 8), .int (nI (x))] : List Value).toArray s 0 0 (fun _ => False)) (F0 m 4 ls []) := by
    intro d
    induction d with
    | zero => intro i k  hd4; exact absurd hd4 (Nat.not_lt_zero _)
    | succ d ih4 =>
      intro i k  hd4 hik hk  ls hl
      have hcl := cnt_le (pSs (k_alv C) (k_srs C) x) i
      refine lv_iload_n hx hb dX2_countIn_4 rfl (lv_at hl 3 rfl) ?_
      refine lv_aload_n hx hb dX2_countIn_5 rfl (lv_at hl 0 rfl) ?_
      refine va_get (ci := 2) (v := .int (nI (k_sn C))) (C := RX2) (T := TX2) (N := 3) hx hb hts hiX2 hown hK hP 8 rfl rfl 2 (by decide) hf0 (fun _ h9 => h9) rfl dX2_countIn_6 ?_
      refine wn_icmp_ge (a := i) (b := k_sn C) (tgt := 30) hx hb (nI_z (by omega)) (nI_z (by omega)) dX2_countIn_9 (by decide) (fun c9_1 => ?_) (fun c9_1 => ?_)
      · refine lv_iload_n hx hb dX2_countIn_30 rfl (lv_at hl 2 rfl) ?_
        exact W.iret (v := nI (k)) hx hb hr (fun t ht hW => ⟨_, rfl, (by show nI k = nI (cnt (pSs (k_alv C) (k_srs C) x) (k_sn C)); rw [hk, (show i = k_sn C by omega)]), ht⟩) (fun q h => nomatch h) dX2_countIn_31
      · refine lv_aload_n hx hb dX2_countIn_12 rfl (lv_at hl 0 rfl) ?_
        refine lv_iload_n hx hb dX2_countIn_13 rfl (lv_at hl 3 rfl) ?_
        refine wc_Vi (As := [.int (nI (i))]) (rest := []) ⟨hx, hb, hml, hown, hts⟩ (c_X2_stateOf l D cI cJ cZ cV cR a C hM (i) (by omega)) (cwV 1 hts gX2_countIn_X2_stateOf rfl rfl rfl (by decide +kernel) ⟨Nat.le_of_ble_eq_true rfl, Nat.le_of_ble_eq_true rfl⟩) hP hK 8 rfl rfl rfl hl.1 rfl (Nat.le_of_ble_eq_true rfl) dX2_countIn_14 ⟨Nat.zero_le _, Nat.zero_le _⟩ (fun rr hq2 => ?_)
        have hq2 : rr = nI (ssF (k_alv C) (k_srs C) i) := hq2
        subst hq2
        have hle3 : ssF (k_alv C) (k_srs C) i ≤ 2 := ssF_le _ _ _
        refine lv_iload_n hx hb dX2_countIn_17 rfl (lv_at hl 1 rfl) ?_
        refine wn_icmp_ne (a := ssF (k_alv C) (k_srs C) i) (b := x) (tgt := 24) hx hb (nI_z (by omega)) (nI_z (by omega)) dX2_countIn_18 (by decide) (fun c18_4 => ?_) (fun c18_4 => ?_)
        · refine lv_iinc (v := nI (i + 1)) (lv' := [(3, .int (nI (i + 1))), (0, .ref (a 8)), (1, .int (nI (x))), (2, .int (nI (k)))]) hx hb dX2_countIn_24 hl (k := 3) rfl (nI_inc _) (by decide) rfl (fun ls hl => ?_)
          refine lv_goto (tgt := 4) hx hb dX2_countIn_27 (by decide) ?_
          exact ih4 (i + 1) (k)  (by omega) (by omega) (cnt_f hk (by simp [pSs, c9_1, c18_4]))  ls (lv_sub hl [1, 2, 3, 0] rfl)
        · refine lv_iinc (v := nI (k + 1)) (lv' := [(2, .int (nI (k + 1))), (0, .ref (a 8)), (1, .int (nI (x))), (3, .int (nI (i)))]) hx hb dX2_countIn_21 hl (k := 2) rfl (nI_inc _) (by decide) rfl (fun ls hl => ?_)
          refine lv_iinc (v := nI (i + 1)) (lv' := [(3, .int (nI (i + 1))), (2, .int (nI (k + 1))), (0, .ref (a 8)), (1, .int (nI (x)))]) hx hb dX2_countIn_24 hl (k := 3) rfl (nI_inc _) (by decide) rfl (fun ls hl => ?_)
          refine lv_goto (tgt := 4) hx hb dX2_countIn_27 (by decide) ?_
          exact ih4 (i + 1) (k + 1)  (by omega) (by omega) (cnt_t hk (by simp [pSs, c9_1, c18_4]))  ls (lv_sub hl [2, 3, 1, 0] rfl)
  exact hlp4 _ (0) (0)  (Nat.lt_succ_self _) (Nat.zero_le _) (rfl)  ls (lv_sub hl [2, 3, 1, 0] rfl)
def rm_X2_isBelow : Room := { frames := 0, cells := 0, slots := 0, locals := 0 }
set_option maxHeartbeats 4000000 in
set_option maxRecDepth 100000 in
/-- whether a segment is live with less than so many -/
theorem c_X2_isBelow (l : Launch) (D : va_G) (cI cJ cZ cV cR : ClassId) (a : Nat → Nat) (C : CT) (hM : kOk C) (q : Nat) (x : Int32) (hq : q < 40) : Met l yX2_isBelow wsX2_isBelow rm_X2_isBelow (va_Pc [.ref (a 8), .int (nI (q)), .int (x)] (GR D (tyK cI cJ cZ cV cR) (kW cI cJ cZ cV cR a C))) (vp_Si (fun rr => rr = bI (beF (k_alv C) x q))) 0 0 (fun _ => False) := by
  obtain ⟨hn, hfn, hsn, hvc, hrc, hpc, hnw, hkc, h_home, h_kin, h_alv, h_srs, h_row, h_sp, h_kis, h_pg⟩ := id hM
  have hixx := ix_c x
  refine Met.ofW (cc := cX2_isBelow) (maxL := 3) (ret := (some .boolean)) (by decide) rfl ?_
  intro p e s m args below meth c s₁ B hml hv
  obtain ⟨rfl, hP, hK⟩ := hv
  have hx := B.exec
  have hb := B.bytes
  have hr := B.returns
  have hts := atoms_spec (ws := wsX2_isBelow) B.pre
  have hown : s.vm.findClass RX2 = some m.cls := findClass_of_methodNamed B.named
  have hlocks := B.notSynchronized
  have hiX2 : ∀ w ∈ wsX20, w ∈ wsX2_isBelow := by decide +kernel
  have hf0 := hts (.fieldLink RX2 9 "GroupCursors$Segments" "alive" "[I") (by decide +kernel)
  have hl := lv_entry ([.ref (a 8), .int (nI (q)), .int (x)]) (n := 3) (Nat.le_of_ble_eq_true rfl)
  rw [lg_entry_eq]
  generalize (lg_sl ([.ref (a 8), .int (nI (q)), .int (x)]) ++ List.replicate (3 - (lg_sl ([.ref (a 8), .int (nI (q)), .int (x)])).length) Slot.unset).toArray = ls at hl ⊢
  have hl : lv_has ls 3 [(0, .ref (a 8)), (1, .int (nI (q))), (2, .int (x))] := hl
  refine lv_aload_n hx hb dX2_isBelow_0 rfl (lv_at hl 0 rfl) ?_
  refine va_get (ci := 2) (v := .ref (a 9)) (C := RX2) (T := TX2) (N := 3) hx hb hts hiX2 hown hK hP 8 rfl rfl 0 (by decide) hf0 (fun _ h9 => h9) rfl dX2_isBelow_1 ?_
  refine lv_iload_n hx hb dX2_isBelow_4 rfl (lv_at hl 1 rfl) ?_
  refine wa_i (i := q) (v := nI (k_alv C q)) hx hb hK hP 9 0 rfl rfl rfl (by omega) (by decide) dX2_isBelow_5 ?_
  refine wn_if_le (a := k_alv C q) (tgt := 23) hx hb (nr (h_alv q)) dX2_isBelow_6 (by decide) (fun c6_1 => ?_) (fun c6_1 => ?_)
  · refine lv_iconst (v := nI (0)) hx hb dX2_isBelow_23 (by decide) ?_
    exact W.zret (v := nI (0)) hx hb hr rfl (fun t ht hW => ⟨_, rfl, (bI_ff (by simp only [beF]; rw [Bool.and_eq_false_iff]; first | exact Or.inl (decide_eq_false (by omega)) | exact Or.inr (decide_eq_false (by omega)))), ht⟩) (fun q h => nomatch h) dX2_isBelow_24
  · refine lv_aload_n hx hb dX2_isBelow_9 rfl (lv_at hl 0 rfl) ?_
    refine va_get (ci := 2) (v := .ref (a 9)) (C := RX2) (T := TX2) (N := 3) hx hb hts hiX2 hown hK hP 8 rfl rfl 0 (by decide) hf0 (fun _ h9 => h9) rfl dX2_isBelow_10 ?_
    refine lv_iload_n hx hb dX2_isBelow_13 rfl (lv_at hl 1 rfl) ?_
    refine wa_i (i := q) (v := nI (k_alv C q)) hx hb hK hP 9 0 rfl rfl rfl (by omega) (by decide) dX2_isBelow_14 ?_
    refine lv_iload_n hx hb dX2_isBelow_15 rfl (lv_at hl 2 rfl) ?_
    refine wz_icmp_ge (tgt := 23) hx hb (((k_alv C q : Nat) : Int)) ((x).toInt) (nr (h_alv q)) rfl dX2_isBelow_16 (by decide) (fun c16_2 => ?_) (fun c16_2 => ?_)
    · refine lv_iconst (v := nI (0)) hx hb dX2_isBelow_23 (by decide) ?_
      exact W.zret (v := nI (0)) hx hb hr rfl (fun t ht hW => ⟨_, rfl, (bI_ff (by simp only [beF]; rw [Bool.and_eq_false_iff]; first | exact Or.inl (decide_eq_false (by omega)) | exact Or.inr (decide_eq_false (by omega)))), ht⟩) (fun q h => nomatch h) dX2_isBelow_24
    · refine lv_iconst (v := nI (1)) hx hb dX2_isBelow_19 (by decide) ?_
      refine lv_goto (tgt := 24) hx hb dX2_isBelow_20 (by decide) ?_
      exact W.zret (v := nI (1)) hx hb hr rfl (fun t ht hW => ⟨_, rfl, (bI_tt (by simp only [beF]; rw [Bool.and_eq_true]; exact ⟨decide_eq_true (by omega), decide_eq_true (by omega)⟩)), ht⟩) (fun q h => nomatch h) dX2_isBelow_24
def rm_X2_countBelow : Room := { frames := 1, cells := 0, slots := 0, locals := 22 }
set_option maxHeartbeats 4000000 in
set_option maxRecDepth 100000 in
/-- how many segments are such -/
theorem c_X2_countBelow (l : Launch) (D : va_G) (cI cJ cZ cV cR : ClassId) (a : Nat → Nat) (C : CT) (hM : kOk C) (x : Int32) : Met l yX2_countBelow wsX2_countBelow rm_X2_countBelow (va_Pc [.ref (a 8), .int (x)] (GR D (tyK cI cJ cZ cV cR) (kW cI cJ cZ cV cR a C))) (vp_Si (fun rr => rr = nI (cnt (beF (k_alv C) x) (k_sn C)))) 0 0 (fun _ => False) := by
  obtain ⟨hn, hfn, hsn, hvc, hrc, hpc, hnw, hkc, h_home, h_kin, h_alv, h_srs, h_row, h_sp, h_kis, h_pg⟩ := id hM
  have hixx := ix_c x
  refine Met.ofW (cc := cX2_countBelow) (maxL := 4) (ret := (some .int)) (by decide) rfl ?_
  intro p e s m args below meth c s₁ B hml hv
  obtain ⟨rfl, hP, hK⟩ := hv
  have hx := B.exec
  have hb := B.bytes
  have hr := B.returns
  have hts := atoms_spec (ws := wsX2_countBelow) B.pre
  have hown : s.vm.findClass RX2 = some m.cls := findClass_of_methodNamed B.named
  have hlocks := B.notSynchronized
  have hiX2 : ∀ w ∈ wsX20, w ∈ wsX2_countBelow := by decide +kernel
  have hf0 := hts (.fieldLink RX2 18 "GroupCursors$Segments" "count" "I") (by decide +kernel)
  have hl := lv_entry ([.ref (a 8), .int (x)]) (n := 4) (Nat.le_of_ble_eq_true rfl)
  rw [lg_entry_eq]
  generalize (lg_sl ([.ref (a 8), .int (x)]) ++ List.replicate (4 - (lg_sl ([.ref (a 8), .int (x)])).length) Slot.unset).toArray = ls at hl ⊢
  have hl : lv_has ls 4 [(0, .ref (a 8)), (1, .int (x))] := hl
  refine lv_iconst (v := nI (0)) hx hb dX2_countBelow_0 (by decide) ?_
  refine lv_istore_n (lv' := [(2, .int (nI (0))), (0, .ref (a 8)), (1, .int (x))]) hx hb dX2_countBelow_1 rfl hl (by decide) rfl (fun ls hl => ?_)
  refine lv_iconst (v := nI (0)) hx hb dX2_countBelow_2 (by decide) ?_
  refine lv_istore_n (lv' := [(3, .int (nI (0))), (2, .int (nI (0))), (0, .ref (a 8)), (1, .int (x))]) hx hb dX2_countBelow_3 rfl hl (by decide) rfl (fun ls hl => ?_)
  have hlp4 : ∀ (d : Nat) (i : Nat) (k : Nat), k_sn C - i < d → (i ≤ k_sn C) → (k = cnt (beF (k_alv C) x) i) → ∀ (ls : Array Slot), lv_has ls 4 [(0, .ref (a 8)), (1, .int (x)), (2, .int (nI (k))), (3, .int (nI (i)))] → W p l e (headSpec wsX2_countBelow rm_X2_countBelow).room s m ([.ref (a 8), .int (x)] : List Value).toArray below meth c s.heap [] (0) (0) (MQ below (vp_Si (fun rr => rr = nI (cnt (beF (k_alv C) x) (k_sn C)))) ([.ref (a 8), .int (x)] : List Value).toArray s 0 0 (fun _ => False)) (F0 m 4 ls []) := by
    intro d
    induction d with
    | zero => intro i k  hd4; exact absurd hd4 (Nat.not_lt_zero _)
    | succ d ih4 =>
      intro i k  hd4 hik hk  ls hl
      have hcl := cnt_le (beF (k_alv C) x) i
      refine lv_iload_n hx hb dX2_countBelow_4 rfl (lv_at hl 3 rfl) ?_
      refine lv_aload_n hx hb dX2_countBelow_5 rfl (lv_at hl 0 rfl) ?_
      refine va_get (ci := 2) (v := .int (nI (k_sn C))) (C := RX2) (T := TX2) (N := 3) hx hb hts hiX2 hown hK hP 8 rfl rfl 2 (by decide) hf0 (fun _ h9 => h9) rfl dX2_countBelow_6 ?_
      refine wn_icmp_ge (a := i) (b := k_sn C) (tgt := 30) hx hb (nI_z (by omega)) (nI_z (by omega)) dX2_countBelow_9 (by decide) (fun c9_1 => ?_) (fun c9_1 => ?_)
      · refine lv_iload_n hx hb dX2_countBelow_30 rfl (lv_at hl 2 rfl) ?_
        exact W.iret (v := nI (k)) hx hb hr (fun t ht hW => ⟨_, rfl, (by show nI k = nI (cnt (beF (k_alv C) x) (k_sn C)); rw [hk, (show i = k_sn C by omega)]), ht⟩) (fun q h => nomatch h) dX2_countBelow_31
      · refine lv_aload_n hx hb dX2_countBelow_12 rfl (lv_at hl 0 rfl) ?_
        refine lv_iload_n hx hb dX2_countBelow_13 rfl (lv_at hl 3 rfl) ?_
        refine lv_iload_n hx hb dX2_countBelow_14 rfl (lv_at hl 1 rfl) ?_
        refine wc_Vi (As := [.int (nI (i)), .int (x)]) (rest := []) ⟨hx, hb, hml, hown, hts⟩ (c_X2_isBelow l D cI cJ cZ cV cR a C hM (i) (x) (by omega)) (cwV 2 hts gX2_countBelow_X2_isBelow rfl rfl rfl (by decide +kernel) ⟨Nat.le_of_ble_eq_true rfl, Nat.le_of_ble_eq_true rfl⟩) hP hK 8 rfl rfl rfl hl.1 rfl (Nat.le_of_ble_eq_true rfl) dX2_countBelow_15 ⟨Nat.zero_le _, Nat.zero_le _⟩ (fun rr hq2 => ?_)
        have hq2 : rr = bI (beF (k_alv C) (x) i) := hq2
        subst hq2
        refine wb_if_eq (tgt := 24) hx hb dX2_countBelow_18 (by decide) (fun c18_3 => ?_) (fun c18_3 => ?_)
        · refine lv_iinc (v := nI (i + 1)) (lv' := [(3, .int (nI (i + 1))), (0, .ref (a 8)), (1, .int (x)), (2, .int (nI (k)))]) hx hb dX2_countBelow_24 hl (k := 3) rfl (nI_inc _) (by decide) rfl (fun ls hl => ?_)
          refine lv_goto (tgt := 4) hx hb dX2_countBelow_27 (by decide) ?_
          exact ih4 (i + 1) (k)  (by omega) (by omega) (cnt_f hk (by simp [c9_1, c18_3]))  ls (lv_sub hl [1, 2, 3, 0] rfl)
        · refine lv_iinc (v := nI (k + 1)) (lv' := [(2, .int (nI (k + 1))), (0, .ref (a 8)), (1, .int (x)), (3, .int (nI (i)))]) hx hb dX2_countBelow_21 hl (k := 2) rfl (nI_inc _) (by decide) rfl (fun ls hl => ?_)
          refine lv_iinc (v := nI (i + 1)) (lv' := [(3, .int (nI (i + 1))), (2, .int (nI (k + 1))), (0, .ref (a 8)), (1, .int (x))]) hx hb dX2_countBelow_24 hl (k := 3) rfl (nI_inc _) (by decide) rfl (fun ls hl => ?_)
          refine lv_goto (tgt := 4) hx hb dX2_countBelow_27 (by decide) ?_
          exact ih4 (i + 1) (k + 1)  (by omega) (by omega) (cnt_t hk (by simp [c9_1, c18_3]))  ls (lv_sub hl [2, 3, 1, 0] rfl)
  exact hlp4 _ (0) (0)  (Nat.lt_succ_self _) (Nat.zero_le _) (rfl)  ls (lv_sub hl [2, 3, 1, 0] rfl)
def rm_X0_mix : Room := { frames := 0, cells := 0, slots := 0, locals := 0 }
set_option maxHeartbeats 4000000 in
set_option maxRecDepth 100000 in
/-- the mix -/
theorem c_X0_mix (l : Launch) (D : va_G) (cI cJ cZ cV cR : ClassId) (a : Nat → Nat) (C : CT) (hM : kOk C) (k sd : Int64) : Met l yX0_mix wsX0_mix rm_X0_mix (va_Pc [.long (k), .long (sd)] (GR D (tyK cI cJ cZ cV cR) (kW cI cJ cZ cV cR a C))) (vp_Sl (fun rr => rr = mixv k sd)) 0 0 (fun _ => False) := by
  obtain ⟨hn, hfn, hsn, hvc, hrc, hpc, hnw, hkc, h_home, h_kin, h_alv, h_srs, h_row, h_sp, h_kis, h_pg⟩ := id hM
  refine Met.ofW (cc := cX0_mix) (maxL := 6) (ret := (some .long)) (by decide) rfl ?_
  intro p e s m args below meth c s₁ B hml hv
  obtain ⟨rfl, hP, hK⟩ := hv
  have hx := B.exec
  have hb := B.bytes
  have hr := B.returns
  have hts := atoms_spec (ws := wsX0_mix) B.pre
  have hown : s.vm.findClass RX0 = some m.cls := findClass_of_methodNamed B.named
  have hlocks := B.notSynchronized
  have hf0 := hts (.constantLong RX0 73 (-7046029254386353131)) (by decide +kernel)
  have hf1 := hts (.constantLong RX0 75 (-4658895280553007687)) (by decide +kernel)
  have hf2 := hts (.constantLong RX0 77 (-7723592293110705685)) (by decide +kernel)
  have hl := lv_entry ([.long (k), .long (sd)]) (n := 6) (Nat.le_of_ble_eq_true rfl)
  rw [lg_entry_eq]
  generalize (lg_sl ([.long (k), .long (sd)]) ++ List.replicate (6 - (lg_sl ([.long (k), .long (sd)])).length) Slot.unset).toArray = ls at hl ⊢
  have hl : lv_has ls 6 [(0, .long (k)), (2, .long (sd))] := hl
  refine lv_lload_n hx hb dX0_mix_0 rfl (lv_at hl 0 rfl) ?_
  refine lv_lload_n hx hb dX0_mix_1 rfl (lv_at hl 1 rfl) ?_
  refine lv_ldc2 (v := (-7046029254386353131)) hx hb hown hf0 dX0_mix_2 ?_
  refine lv_lmul hx hb dX0_mix_5 ?_
  refine lv_lxor hx hb dX0_mix_6 ?_
  refine lv_lstore (lv' := [(4, .long ((k ^^^ (sd * (-7046029254386353131))))), (0, .long (k)), (2, .long (sd))]) hx hb dX0_mix_7 hl (by decide) rfl (fun ls hl => ?_)
  refine lv_lload hx hb dX0_mix_9 (lv_at hl 0 rfl) ?_
  refine lv_lload hx hb dX0_mix_11 (lv_at hl 0 rfl) ?_
  refine lv_bipush (v := nI (30)) hx hb dX0_mix_13 (by decide) ?_
  refine lv_lushr (v := ((k ^^^ (sd * (-7046029254386353131))).toUInt64 >>> ((nI (30)).toInt64.toUInt64 &&& Int64.toUInt64 63)).toInt64) hx hb dX0_mix_15 rfl ?_
  refine lv_lxor hx hb dX0_mix_16 ?_
  refine lv_ldc2 (v := (-4658895280553007687)) hx hb hown hf1 dX0_mix_17 ?_
  refine lv_lmul hx hb dX0_mix_20 ?_
  refine lv_lstore (lv' := [(4, .long ((((k ^^^ (sd * (-7046029254386353131))) ^^^ ((k ^^^ (sd * (-7046029254386353131))).toUInt64 >>> ((nI (30)).toInt64.toUInt64 &&& Int64.toUInt64 63)).toInt64) * (-4658895280553007687)))), (0, .long (k)), (2, .long (sd))]) hx hb dX0_mix_21 hl (by decide) rfl (fun ls hl => ?_)
  refine lv_lload hx hb dX0_mix_23 (lv_at hl 0 rfl) ?_
  refine lv_lload hx hb dX0_mix_25 (lv_at hl 0 rfl) ?_
  refine lv_bipush (v := nI (27)) hx hb dX0_mix_27 (by decide) ?_
  refine lv_lushr (v := ((((k ^^^ (sd * (-7046029254386353131))) ^^^ ((k ^^^ (sd * (-7046029254386353131))).toUInt64 >>> ((nI (30)).toInt64.toUInt64 &&& Int64.toUInt64 63)).toInt64) * (-4658895280553007687)).toUInt64 >>> ((nI (27)).toInt64.toUInt64 &&& Int64.toUInt64 63)).toInt64) hx hb dX0_mix_29 rfl ?_
  refine lv_lxor hx hb dX0_mix_30 ?_
  refine lv_ldc2 (v := (-7723592293110705685)) hx hb hown hf2 dX0_mix_31 ?_
  refine lv_lmul hx hb dX0_mix_34 ?_
  refine lv_lstore (lv' := [(4, .long ((((((k ^^^ (sd * (-7046029254386353131))) ^^^ ((k ^^^ (sd * (-7046029254386353131))).toUInt64 >>> ((nI (30)).toInt64.toUInt64 &&& Int64.toUInt64 63)).toInt64) * (-4658895280553007687)) ^^^ ((((k ^^^ (sd * (-7046029254386353131))) ^^^ ((k ^^^ (sd * (-7046029254386353131))).toUInt64 >>> ((nI (30)).toInt64.toUInt64 &&& Int64.toUInt64 63)).toInt64) * (-4658895280553007687)).toUInt64 >>> ((nI (27)).toInt64.toUInt64 &&& Int64.toUInt64 63)).toInt64) * (-7723592293110705685)))), (0, .long (k)), (2, .long (sd))]) hx hb dX0_mix_35 hl (by decide) rfl (fun ls hl => ?_)
  refine lv_lload hx hb dX0_mix_37 (lv_at hl 0 rfl) ?_
  refine lv_lload hx hb dX0_mix_39 (lv_at hl 0 rfl) ?_
  refine lv_bipush (v := nI (31)) hx hb dX0_mix_41 (by decide) ?_
  refine lv_lushr (v := ((((((k ^^^ (sd * (-7046029254386353131))) ^^^ ((k ^^^ (sd * (-7046029254386353131))).toUInt64 >>> ((nI (30)).toInt64.toUInt64 &&& Int64.toUInt64 63)).toInt64) * (-4658895280553007687)) ^^^ ((((k ^^^ (sd * (-7046029254386353131))) ^^^ ((k ^^^ (sd * (-7046029254386353131))).toUInt64 >>> ((nI (30)).toInt64.toUInt64 &&& Int64.toUInt64 63)).toInt64) * (-4658895280553007687)).toUInt64 >>> ((nI (27)).toInt64.toUInt64 &&& Int64.toUInt64 63)).toInt64) * (-7723592293110705685)).toUInt64 >>> ((nI (31)).toInt64.toUInt64 &&& Int64.toUInt64 63)).toInt64) hx hb dX0_mix_43 rfl ?_
  refine lv_lxor hx hb dX0_mix_44 ?_
  exact W.lret (v := ((((((k ^^^ (sd * (-7046029254386353131))) ^^^ ((k ^^^ (sd * (-7046029254386353131))).toUInt64 >>> ((nI (30)).toInt64.toUInt64 &&& Int64.toUInt64 63)).toInt64) * (-4658895280553007687)) ^^^ ((((k ^^^ (sd * (-7046029254386353131))) ^^^ ((k ^^^ (sd * (-7046029254386353131))).toUInt64 >>> ((nI (30)).toInt64.toUInt64 &&& Int64.toUInt64 63)).toInt64) * (-4658895280553007687)).toUInt64 >>> ((nI (27)).toInt64.toUInt64 &&& Int64.toUInt64 63)).toInt64) * (-7723592293110705685)) ^^^ ((((((k ^^^ (sd * (-7046029254386353131))) ^^^ ((k ^^^ (sd * (-7046029254386353131))).toUInt64 >>> ((nI (30)).toInt64.toUInt64 &&& Int64.toUInt64 63)).toInt64) * (-4658895280553007687)) ^^^ ((((k ^^^ (sd * (-7046029254386353131))) ^^^ ((k ^^^ (sd * (-7046029254386353131))).toUInt64 >>> ((nI (30)).toInt64.toUInt64 &&& Int64.toUInt64 63)).toInt64) * (-4658895280553007687)).toUInt64 >>> ((nI (27)).toInt64.toUInt64 &&& Int64.toUInt64 63)).toInt64) * (-7723592293110705685)).toUInt64 >>> ((nI (31)).toInt64.toUInt64 &&& Int64.toUInt64 63)).toInt64)) hx hb hr (fun t ht hW => ⟨_, rfl, rfl, ht⟩) (fun q h => nomatch h) dX0_mix_45
def rm_X0_weigh : Room := { frames := 1, cells := 0, slots := 0, locals := 25 }
set_option maxHeartbeats 4000000 in
set_option maxRecDepth 100000 in
/-- what is compared first -/
theorem c_X0_weigh (l : Launch) (D : va_G) (cI cJ cZ cV cR : ClassId) (a : Nat → Nat) (C : CT) (hM : kOk C) (o kd : Nat) (sd : Int64) (ho : o < 300) (hkd : kd < 3) : Met l yX0_weigh wsX0_weigh rm_X0_weigh (va_Pc [.ref (a 11), .int (nI (o)), .int (nI (kd)), .long (sd)] (GR D (tyK cI cJ cZ cV cR) (kW cI cJ cZ cV cR a C))) (vp_Sl (fun rr => rr = wtF (k_srt C) (k_key C) kd sd o)) 0 0 (fun _ => False) := by
  obtain ⟨hn, hfn, hsn, hvc, hrc, hpc, hnw, hkc, h_home, h_kin, h_alv, h_srs, h_row, h_sp, h_kis, h_pg⟩ := id hM
  refine Met.ofW (cc := cX0_weigh) (maxL := 5) (ret := (some .long)) (by decide) rfl ?_
  intro p e s m args below meth c s₁ B hml hv
  obtain ⟨rfl, hP, hK⟩ := hv
  have hx := B.exec
  have hb := B.bytes
  have hr := B.returns
  have hts := atoms_spec (ws := wsX0_weigh) B.pre
  have hown : s.vm.findClass RX0 = some m.cls := findClass_of_methodNamed B.named
  have hlocks := B.notSynchronized
  have hiX0 : ∀ w ∈ wsX00, w ∈ wsX0_weigh := by decide +kernel
  have hiX3 : ∀ w ∈ wsX30, w ∈ wsX0_weigh := by decide +kernel
  have hf0 := hts (.fieldLink RX0 33 "GroupCursors$Ranking" "stock" "LGroupCursors$Stock;") (by decide +kernel)
  have hf1 := hts (.fieldLink RX0 64 "GroupCursors$Stock" "key" "[J") (by decide +kernel)
  have hf2 := hts (.constantLong RX0 71 (-9223372036854775808)) (by decide +kernel)
  have hf3 := hts (.fieldLink RX0 57 "GroupCursors$Stock" "sort" "[J") (by decide +kernel)
  have hf4 := hts (.constantLong RX0 62 (-1)) (by decide +kernel)
  have hl := lv_entry ([.ref (a 11), .int (nI (o)), .int (nI (kd)), .long (sd)]) (n := 5) (Nat.le_of_ble_eq_true rfl)
  rw [lg_entry_eq]
  generalize (lg_sl ([.ref (a 11), .int (nI (o)), .int (nI (kd)), .long (sd)]) ++ List.replicate (5 - (lg_sl ([.ref (a 11), .int (nI (o)), .int (nI (kd)), .long (sd)])).length) Slot.unset).toArray = ls at hl ⊢
  have hl : lv_has ls 5 [(0, .ref (a 11)), (1, .int (nI (o))), (2, .int (nI (kd))), (3, .long (sd))] := hl
  refine lv_iload_n hx hb dX0_weigh_0 rfl (lv_at hl 2 rfl) ?_
  refine wn_if_ne (a := kd) (tgt := 14) hx hb (nI_z (by omega)) dX0_weigh_1 (by decide) (fun c1_1 => ?_) (fun c1_1 => ?_)
  · refine lv_iload_n hx hb dX0_weigh_14 rfl (lv_at hl 2 rfl) ?_
    refine lv_iconst (v := nI (1)) hx hb dX0_weigh_15 (by decide) ?_
    refine wn_icmp_ne (a := kd) (b := 1) (tgt := 33) hx hb (nI_z (by omega)) (nI_z (by omega)) dX0_weigh_16 (by decide) (fun c16_2 => ?_) (fun c16_2 => ?_)
    · refine lv_aload_n hx hb dX0_weigh_33 rfl (lv_at hl 0 rfl) ?_
      refine va_get (ci := 0) (v := .ref (a 1)) (C := RX0) (T := TX0) (N := 7) hx hb hts hiX0 hown hK hP 11 rfl rfl 0 (by decide) hf0 (fun _ h9 => h9) rfl dX0_weigh_34 ?_
      refine va_get (ci := 3) (v := .ref (a 3)) (C := RX3) (T := TX3) (N := 8) hx hb hts hiX3 hown hK hP 1 rfl rfl 1 (by decide) hf1 (fun _ h9 => h9) rfl dX0_weigh_37 ?_
      refine lv_iload_n hx hb dX0_weigh_40 rfl (lv_at hl 1 rfl) ?_
      refine wa_l (i := o) (v := k_key C o) hx hb hK hP 3 1 rfl rfl rfl (by omega) (by decide) dX0_weigh_41 ?_
      refine lv_lload_n hx hb dX0_weigh_42 rfl (lv_at hl 3 rfl) ?_
      refine wc_Sl (As := [.long (k_key C o), .long (sd)]) (rest := []) ⟨hx, hb, hml, hown, hts⟩ (c_X0_mix l D cI cJ cZ cV cR a C hM (k_key C o) (sd)) (va_cwS 2 hts gX0_weigh_X0_mix rfl rfl rfl (by decide +kernel) ⟨Nat.le_of_ble_eq_true rfl, Nat.le_of_ble_eq_true rfl⟩) hP hK rfl hl.1 rfl (Nat.le_of_ble_eq_true rfl) dX0_weigh_43 ⟨Nat.zero_le _, Nat.zero_le _⟩ (fun rr hq3 => ?_)
      have hq3 : rr = (mixv (k_key C o) (sd)) := hq3
      subst hq3
      refine lv_ldc2 (v := (-9223372036854775808)) hx hb hown hf2 dX0_weigh_46 ?_
      refine lv_lxor hx hb dX0_weigh_49 ?_
      exact W.lret (v := ((mixv (k_key C o) (sd)) ^^^ (-9223372036854775808))) hx hb hr (fun t ht hW => ⟨_, rfl, (by unfold wtF; first | (rw [if_pos (by omega)]) | (rw [if_neg (by omega), if_pos (by omega)]) | (rw [if_neg (by omega), if_neg (by omega)])), ht⟩) (fun q h => nomatch h) dX0_weigh_50
    · refine lv_aload_n hx hb dX0_weigh_19 rfl (lv_at hl 0 rfl) ?_
      refine va_get (ci := 0) (v := .ref (a 1)) (C := RX0) (T := TX0) (N := 7) hx hb hts hiX0 hown hK hP 11 rfl rfl 0 (by decide) hf0 (fun _ h9 => h9) rfl dX0_weigh_20 ?_
      refine va_get (ci := 3) (v := .ref (a 4)) (C := RX3) (T := TX3) (N := 8) hx hb hts hiX3 hown hK hP 1 rfl rfl 2 (by decide) hf3 (fun _ h9 => h9) rfl dX0_weigh_23 ?_
      refine lv_iload_n hx hb dX0_weigh_26 rfl (lv_at hl 1 rfl) ?_
      refine wa_l (i := o) (v := k_srt C o) hx hb hK hP 4 1 rfl rfl rfl (by omega) (by decide) dX0_weigh_27 ?_
      refine lv_ldc2 (v := (-1)) hx hb hown hf4 dX0_weigh_28 ?_
      refine lv_lxor hx hb dX0_weigh_31 ?_
      exact W.lret (v := (k_srt C o ^^^ (-1))) hx hb hr (fun t ht hW => ⟨_, rfl, (by unfold wtF; first | (rw [if_pos (by omega)]) | (rw [if_neg (by omega), if_pos (by omega)]) | (rw [if_neg (by omega), if_neg (by omega)])), ht⟩) (fun q h => nomatch h) dX0_weigh_32
  · refine lv_aload_n hx hb dX0_weigh_4 rfl (lv_at hl 0 rfl) ?_
    refine va_get (ci := 0) (v := .ref (a 1)) (C := RX0) (T := TX0) (N := 7) hx hb hts hiX0 hown hK hP 11 rfl rfl 0 (by decide) hf0 (fun _ h9 => h9) rfl dX0_weigh_5 ?_
    refine va_get (ci := 3) (v := .ref (a 4)) (C := RX3) (T := TX3) (N := 8) hx hb hts hiX3 hown hK hP 1 rfl rfl 2 (by decide) hf3 (fun _ h9 => h9) rfl dX0_weigh_8 ?_
    refine lv_iload_n hx hb dX0_weigh_11 rfl (lv_at hl 1 rfl) ?_
    refine wa_l (i := o) (v := k_srt C o) hx hb hK hP 4 1 rfl rfl rfl (by omega) (by decide) dX0_weigh_12 ?_
    exact W.lret (v := k_srt C o) hx hb hr (fun t ht hW => ⟨_, rfl, (by unfold wtF; first | (rw [if_pos (by omega)]) | (rw [if_neg (by omega), if_pos (by omega)]) | (rw [if_neg (by omega), if_neg (by omega)])), ht⟩) (fun q h => nomatch h) dX0_weigh_13
def rm_X0_comesBefore : Room := { frames := 0, cells := 0, slots := 0, locals := 0 }
set_option maxHeartbeats 4000000 in
set_option maxRecDepth 100000 in
/-- whether an object comes before another -/
theorem c_X0_comesBefore (l : Launch) (D : va_G) (cI cJ cZ cV cR : ClassId) (a : Nat → Nat) (C : CT) (hM : kOk C) (x y : Nat) (hx9 : x < 300) (hy9 : y < 300) : Met l yX0_comesBefore wsX0_comesBefore rm_X0_comesBefore (va_Pc [.ref (a 11), .int (nI (x)), .int (nI (y))] (GR D (tyK cI cJ cZ cV cR) (kW cI cJ cZ cV cR a C))) (vp_Si (fun rr => rr = bI (cbF (k_wt C) (k_key C) x y))) 0 0 (fun _ => False) := by
  obtain ⟨hn, hfn, hsn, hvc, hrc, hpc, hnw, hkc, h_home, h_kin, h_alv, h_srs, h_row, h_sp, h_kis, h_pg⟩ := id hM
  refine Met.ofW (cc := cX0_comesBefore) (maxL := 3) (ret := (some .boolean)) (by decide) rfl ?_
  intro p e s m args below meth c s₁ B hml hv
  obtain ⟨rfl, hP, hK⟩ := hv
  have hx := B.exec
  have hb := B.bytes
  have hr := B.returns
  have hts := atoms_spec (ws := wsX0_comesBefore) B.pre
  have hown : s.vm.findClass RX0 = some m.cls := findClass_of_methodNamed B.named
  have hlocks := B.notSynchronized
  have hiX0 : ∀ w ∈ wsX00, w ∈ wsX0_comesBefore := by decide +kernel
  have hiX3 : ∀ w ∈ wsX30, w ∈ wsX0_comesBefore := by decide +kernel
  have hf0 := hts (.fieldLink RX0 18 "GroupCursors$Ranking" "weight" "[J") (by decide +kernel)
  have hf1 := hts (.fieldLink RX0 33 "GroupCursors$Ranking" "stock" "LGroupCursors$Stock;") (by decide +kernel)
  have hf2 := hts (.fieldLink RX0 64 "GroupCursors$Stock" "key" "[J") (by decide +kernel)
  have hl := lv_entry ([.ref (a 11), .int (nI (x)), .int (nI (y))]) (n := 3) (Nat.le_of_ble_eq_true rfl)
  rw [lg_entry_eq]
  generalize (lg_sl ([.ref (a 11), .int (nI (x)), .int (nI (y))]) ++ List.replicate (3 - (lg_sl ([.ref (a 11), .int (nI (x)), .int (nI (y))])).length) Slot.unset).toArray = ls at hl ⊢
  have hl : lv_has ls 3 [(0, .ref (a 11)), (1, .int (nI (x))), (2, .int (nI (y)))] := hl
  refine lv_aload_n hx hb dX0_comesBefore_0 rfl (lv_at hl 0 rfl) ?_
  refine va_get (ci := 0) (v := .ref (a 14)) (C := RX0) (T := TX0) (N := 7) hx hb hts hiX0 hown hK hP 11 rfl rfl 3 (by decide) hf0 (fun _ h9 => h9) rfl dX0_comesBefore_1 ?_
  refine lv_iload_n hx hb dX0_comesBefore_4 rfl (lv_at hl 1 rfl) ?_
  refine wa_l (i := x) (v := k_wt C x) hx hb hK hP 14 1 rfl rfl rfl (by omega) (by decide) dX0_comesBefore_5 ?_
  refine lv_aload_n hx hb dX0_comesBefore_6 rfl (lv_at hl 0 rfl) ?_
  refine va_get (ci := 0) (v := .ref (a 14)) (C := RX0) (T := TX0) (N := 7) hx hb hts hiX0 hown hK hP 11 rfl rfl 3 (by decide) hf0 (fun _ h9 => h9) rfl dX0_comesBefore_7 ?_
  refine lv_iload_n hx hb dX0_comesBefore_10 rfl (lv_at hl 2 rfl) ?_
  refine wa_l (i := y) (v := k_wt C y) hx hb hK hP 14 1 rfl rfl rfl (by omega) (by decide) dX0_comesBefore_11 ?_
  refine wl_eq (tgt := 38) hx hb dX0_comesBefore_12 dX0_comesBefore_13 (by decide) (fun c12_1 => ?_) (fun c12_1 => ?_)
  · refine lv_aload_n hx hb dX0_comesBefore_38 rfl (lv_at hl 0 rfl) ?_
    refine va_get (ci := 0) (v := .ref (a 1)) (C := RX0) (T := TX0) (N := 7) hx hb hts hiX0 hown hK hP 11 rfl rfl 0 (by decide) hf1 (fun _ h9 => h9) rfl dX0_comesBefore_39 ?_
    refine va_get (ci := 3) (v := .ref (a 3)) (C := RX3) (T := TX3) (N := 8) hx hb hts hiX3 hown hK hP 1 rfl rfl 1 (by decide) hf2 (fun _ h9 => h9) rfl dX0_comesBefore_42 ?_
    refine lv_iload_n hx hb dX0_comesBefore_45 rfl (lv_at hl 1 rfl) ?_
    refine wa_l (i := x) (v := k_key C x) hx hb hK hP 3 1 rfl rfl rfl (by omega) (by decide) dX0_comesBefore_46 ?_
    refine lv_aload_n hx hb dX0_comesBefore_47 rfl (lv_at hl 0 rfl) ?_
    refine va_get (ci := 0) (v := .ref (a 1)) (C := RX0) (T := TX0) (N := 7) hx hb hts hiX0 hown hK hP 11 rfl rfl 0 (by decide) hf1 (fun _ h9 => h9) rfl dX0_comesBefore_48 ?_
    refine va_get (ci := 3) (v := .ref (a 3)) (C := RX3) (T := TX3) (N := 8) hx hb hts hiX3 hown hK hP 1 rfl rfl 1 (by decide) hf2 (fun _ h9 => h9) rfl dX0_comesBefore_51 ?_
    refine lv_iload_n hx hb dX0_comesBefore_54 rfl (lv_at hl 2 rfl) ?_
    refine wa_l (i := y) (v := k_key C y) hx hb hK hP 3 1 rfl rfl rfl (by omega) (by decide) dX0_comesBefore_55 ?_
    refine wl_eq (tgt := 88) hx hb dX0_comesBefore_56 dX0_comesBefore_57 (by decide) (fun c56_2 => ?_) (fun c56_2 => ?_)
    · refine lv_iload_n hx hb dX0_comesBefore_88 rfl (lv_at hl 1 rfl) ?_
      refine lv_iload_n hx hb dX0_comesBefore_89 rfl (lv_at hl 2 rfl) ?_
      refine wn_icmp_ge (a := x) (b := y) (tgt := 97) hx hb (nI_z (by omega)) (nI_z (by omega)) dX0_comesBefore_90 (by decide) (fun c90_3 => ?_) (fun c90_3 => ?_)
      · refine lv_iconst (v := nI (0)) hx hb dX0_comesBefore_97 (by decide) ?_
        exact W.zret (v := nI (0)) hx hb hr rfl (fun t ht hW => ⟨_, rfl, (bI_ff (by rw [cbF]; simp [c12_1, c56_2, c90_3] <;> omega)), ht⟩) (fun q h => nomatch h) dX0_comesBefore_98
      · refine lv_iconst (v := nI (1)) hx hb dX0_comesBefore_93 (by decide) ?_
        refine lv_goto (tgt := 98) hx hb dX0_comesBefore_94 (by decide) ?_
        exact W.zret (v := nI (1)) hx hb hr rfl (fun t ht hW => ⟨_, rfl, (bI_tt (by rw [cbF]; simp [c12_1, c56_2, c90_3] <;> omega)), ht⟩) (fun q h => nomatch h) dX0_comesBefore_98
    · refine lv_aload_n hx hb dX0_comesBefore_60 rfl (lv_at hl 0 rfl) ?_
      refine va_get (ci := 0) (v := .ref (a 1)) (C := RX0) (T := TX0) (N := 7) hx hb hts hiX0 hown hK hP 11 rfl rfl 0 (by decide) hf1 (fun _ h9 => h9) rfl dX0_comesBefore_61 ?_
      refine va_get (ci := 3) (v := .ref (a 3)) (C := RX3) (T := TX3) (N := 8) hx hb hts hiX3 hown hK hP 1 rfl rfl 1 (by decide) hf2 (fun _ h9 => h9) rfl dX0_comesBefore_64 ?_
      refine lv_iload_n hx hb dX0_comesBefore_67 rfl (lv_at hl 1 rfl) ?_
      refine wa_l (i := x) (v := k_key C x) hx hb hK hP 3 1 rfl rfl rfl (by omega) (by decide) dX0_comesBefore_68 ?_
      refine lv_aload_n hx hb dX0_comesBefore_69 rfl (lv_at hl 0 rfl) ?_
      refine va_get (ci := 0) (v := .ref (a 1)) (C := RX0) (T := TX0) (N := 7) hx hb hts hiX0 hown hK hP 11 rfl rfl 0 (by decide) hf1 (fun _ h9 => h9) rfl dX0_comesBefore_70 ?_
      refine va_get (ci := 3) (v := .ref (a 3)) (C := RX3) (T := TX3) (N := 8) hx hb hts hiX3 hown hK hP 1 rfl rfl 1 (by decide) hf2 (fun _ h9 => h9) rfl dX0_comesBefore_73 ?_
      refine lv_iload_n hx hb dX0_comesBefore_76 rfl (lv_at hl 2 rfl) ?_
      refine wa_l (i := y) (v := k_key C y) hx hb hK hP 3 1 rfl rfl rfl (by omega) (by decide) dX0_comesBefore_77 ?_
      refine wl_ge (tgt := 86) hx hb dX0_comesBefore_78 dX0_comesBefore_79 (by decide) (fun c78_4 => ?_) (fun c78_4 => ?_)
      · refine lv_iconst (v := nI (0)) hx hb dX0_comesBefore_86 (by decide) ?_
        exact W.zret (v := nI (0)) hx hb hr rfl (fun t ht hW => ⟨_, rfl, (bI_ff (by rw [cbF]; simp [c12_1, c56_2, c78_4] <;> omega)), ht⟩) (fun q h => nomatch h) dX0_comesBefore_87
      · refine lv_iconst (v := nI (1)) hx hb dX0_comesBefore_82 (by decide) ?_
        refine lv_goto (tgt := 87) hx hb dX0_comesBefore_83 (by decide) ?_
        exact W.zret (v := nI (1)) hx hb hr rfl (fun t ht hW => ⟨_, rfl, (bI_tt (by rw [cbF]; simp [c12_1, c56_2, c78_4] <;> omega)), ht⟩) (fun q h => nomatch h) dX0_comesBefore_87
  · refine lv_aload_n hx hb dX0_comesBefore_16 rfl (lv_at hl 0 rfl) ?_
    refine va_get (ci := 0) (v := .ref (a 14)) (C := RX0) (T := TX0) (N := 7) hx hb hts hiX0 hown hK hP 11 rfl rfl 3 (by decide) hf0 (fun _ h9 => h9) rfl dX0_comesBefore_17 ?_
    refine lv_iload_n hx hb dX0_comesBefore_20 rfl (lv_at hl 1 rfl) ?_
    refine wa_l (i := x) (v := k_wt C x) hx hb hK hP 14 1 rfl rfl rfl (by omega) (by decide) dX0_comesBefore_21 ?_
    refine lv_aload_n hx hb dX0_comesBefore_22 rfl (lv_at hl 0 rfl) ?_
    refine va_get (ci := 0) (v := .ref (a 14)) (C := RX0) (T := TX0) (N := 7) hx hb hts hiX0 hown hK hP 11 rfl rfl 3 (by decide) hf0 (fun _ h9 => h9) rfl dX0_comesBefore_23 ?_
    refine lv_iload_n hx hb dX0_comesBefore_26 rfl (lv_at hl 2 rfl) ?_
    refine wa_l (i := y) (v := k_wt C y) hx hb hK hP 14 1 rfl rfl rfl (by omega) (by decide) dX0_comesBefore_27 ?_
    refine wl_ge (tgt := 36) hx hb dX0_comesBefore_28 dX0_comesBefore_29 (by decide) (fun c28_5 => ?_) (fun c28_5 => ?_)
    · refine lv_iconst (v := nI (0)) hx hb dX0_comesBefore_36 (by decide) ?_
      exact W.zret (v := nI (0)) hx hb hr rfl (fun t ht hW => ⟨_, rfl, (bI_ff (by rw [cbF]; simp [c12_1, c28_5] <;> omega)), ht⟩) (fun q h => nomatch h) dX0_comesBefore_37
    · refine lv_iconst (v := nI (1)) hx hb dX0_comesBefore_32 (by decide) ?_
      refine lv_goto (tgt := 37) hx hb dX0_comesBefore_33 (by decide) ?_
      exact W.zret (v := nI (1)) hx hb hr rfl (fun t ht hW => ⟨_, rfl, (bI_tt (by rw [cbF]; simp [c12_1, c28_5] <;> omega)), ht⟩) (fun q h => nomatch h) dX0_comesBefore_37
def rm_X0_find : Room := { frames := 0, cells := 0, slots := 0, locals := 0 }
set_option maxHeartbeats 4000000 in
set_option maxRecDepth 100000 in
/-- where an object is -/
theorem c_X0_find (l : Launch) (D : va_G) (cI cJ cZ cV cR : ClassId) (a : Nat → Nat) (C : CT) (hM : kOk C) (o : Nat) (ho : o < 300) : Met l yX0_find wsX0_find rm_X0_find (va_Pc [.ref (a 11), .int (nI (o))] (GR D (tyK cI cJ cZ cV cR) (kW cI cJ cZ cV cR a C))) (vp_Si (fun rr => rr = zI (findF (k_row C) (k_kc C) o))) 0 0 (fun _ => False) := by
  obtain ⟨hn, hfn, hsn, hvc, hrc, hpc, hnw, hkc, h_home, h_kin, h_alv, h_srs, h_row, h_sp, h_kis, h_pg⟩ := id hM
  refine Met.ofW (cc := cX0_find) (maxL := 3) (ret := (some .int)) (by decide) rfl ?_
  intro p e s m args below meth c s₁ B hml hv
  obtain ⟨rfl, hP, hK⟩ := hv
  have hx := B.exec
  have hb := B.bytes
  have hr := B.returns
  have hts := atoms_spec (ws := wsX0_find) B.pre
  have hown : s.vm.findClass RX0 = some m.cls := findClass_of_methodNamed B.named
  have hlocks := B.notSynchronized
  have hiX0 : ∀ w ∈ wsX00, w ∈ wsX0_find := by decide +kernel
  have hf0 := hts (.fieldLink RX0 29 "GroupCursors$Ranking" "count" "I") (by decide +kernel)
  have hf1 := hts (.fieldLink RX0 9 "GroupCursors$Ranking" "row" "[I") (by decide +kernel)
  have hl := lv_entry ([.ref (a 11), .int (nI (o))]) (n := 3) (Nat.le_of_ble_eq_true rfl)
  rw [lg_entry_eq]
  generalize (lg_sl ([.ref (a 11), .int (nI (o))]) ++ List.replicate (3 - (lg_sl ([.ref (a 11), .int (nI (o))])).length) Slot.unset).toArray = ls at hl ⊢
  have hl : lv_has ls 3 [(0, .ref (a 11)), (1, .int (nI (o)))] := hl
  refine lv_iconst (v := nI (0)) hx hb dX0_find_0 (by decide) ?_
  refine lv_istore_n (lv' := [(2, .int (nI (0))), (0, .ref (a 11)), (1, .int (nI (o)))]) hx hb dX0_find_1 rfl hl (by decide) rfl (fun ls hl => ?_)
  have hlp2 : ∀ (d : Nat) (i : Nat), k_kc C - i < d → (i ≤ fstB (pRow (k_row C) o) (k_kc C)) → ∀ (ls : Array Slot), lv_has ls 3 [(0, .ref (a 11)), (1, .int (nI (o))), (2, .int (nI (i)))] → W p l e (headSpec wsX0_find rm_X0_find).room s m ([.ref (a 11), .int (nI (o))] : List Value).toArray below meth c s.heap [] (0) (0) (MQ below (vp_Si (fun rr => rr = zI (findF (k_row C) (k_kc C) o))) ([.ref (a 11), .int (nI (o))] : List Value).toArray s 0 0 (fun _ => False)) (F0 m 2 ls []) := by
    intro d
    induction d with
    | zero => intro i  hd2; exact absurd hd2 (Nat.not_lt_zero _)
    | succ d ih2 =>
      intro i  hd2 hio  ls hl
      have hfl := fstB_le (pRow (k_row C) o) (k_kc C)
      refine lv_iload_n hx hb dX0_find_2 rfl (lv_at hl 2 rfl) ?_
      refine lv_aload_n hx hb dX0_find_3 rfl (lv_at hl 0 rfl) ?_
      refine va_get (ci := 0) (v := .int (nI (k_kc C))) (C := RX0) (T := TX0) (N := 7) hx hb hts hiX0 hown hK hP 11 rfl rfl 6 (by decide) hf0 (fun _ h9 => h9) rfl dX0_find_4 ?_
      refine wn_icmp_ge (a := i) (b := k_kc C) (tgt := 28) hx hb (nI_z (by omega)) (nI_z (by omega)) dX0_find_7 (by decide) (fun c7_1 => ?_) (fun c7_1 => ?_)
      · refine lv_iconst (v := zI ((-1))) hx hb dX0_find_28 (by decide) ?_
        exact W.iret (v := zI ((-1))) hx hb hr (fun t ht hW => ⟨_, rfl, (by rw [findF, if_neg (by omega)]), ht⟩) (fun q h => nomatch h) dX0_find_29
      · refine lv_aload_n hx hb dX0_find_10 rfl (lv_at hl 0 rfl) ?_
        refine va_get (ci := 0) (v := .ref (k_ra C)) (C := RX0) (T := TX0) (N := 7) hx hb hts hiX0 hown hK hP 11 rfl rfl 1 (by decide) hf1 (fun _ h9 => h9) rfl dX0_find_11 ?_
        refine lv_iload_n hx hb dX0_find_14 rfl (lv_at hl 2 rfl) ?_
        refine wa_i (i := i) (v := nI (k_row C i)) hx hb hK hP 12 0 rfl rfl rfl (by omega) (by decide) dX0_find_15 ?_
        refine lv_iload_n hx hb dX0_find_16 rfl (lv_at hl 1 rfl) ?_
        refine wn_icmp_ne (a := k_row C i) (b := o) (tgt := 22) hx hb (nr3 (h_row i)) (nI_z (by omega)) dX0_find_17 (by decide) (fun c17_2 => ?_) (fun c17_2 => ?_)
        · refine lv_iinc (v := nI (i + 1)) (lv' := [(2, .int (nI (i + 1))), (0, .ref (a 11)), (1, .int (nI (o)))]) hx hb dX0_find_22 hl (k := 2) rfl (nI_inc _) (by decide) rfl (fun ls hl => ?_)
          refine lv_goto (tgt := 2) hx hb dX0_find_25 (by decide) ?_
          exact ih2 (i + 1)  (by omega) (fst_next hio (by omega) (by simp [pRow, c17_2]))  ls (lv_sub hl [1, 2, 0] rfl)
        · refine lv_iload_n hx hb dX0_find_20 rfl (lv_at hl 2 rfl) ?_
          exact W.iret (v := nI (i)) hx hb hr (fun t ht hW => ⟨_, rfl, (by rw [findF, fst_here hio (by simp [pRow, c17_2]), if_pos (by omega), zI_n]), ht⟩) (fun q h => nomatch h) dX0_find_21
  exact hlp2 _ (0)  (Nat.lt_succ_self _) (Nat.zero_le _)  ls (lv_sub hl [1, 2, 0] rfl)
def rm_X0_sliceOf : Room := { frames := 1, cells := 0, slots := 0, locals := 25 }
set_option maxHeartbeats 4000000 in
set_option maxRecDepth 100000 in
/-- the slice of a key -/
theorem c_X0_sliceOf (l : Launch) (D : va_G) (cI cJ cZ cV cR : ClassId) (a : Nat → Nat) (C : CT) (hM : kOk C) (k : Int64) (mn : Nat) (h0 : 0 < mn) (hmn : mn < 300) : Met l yX0_sliceOf wsX0_sliceOf rm_X0_sliceOf (va_Pc [.long (k), .int (nI (mn))] (GR D (tyK cI cJ cZ cV cR) (kW cI cJ cZ cV cR a C))) (vp_Sl (fun rr => rr = sliceV k mn)) 0 0 (fun _ => False) := by
  obtain ⟨hn, hfn, hsn, hvc, hrc, hpc, hnw, hkc, h_home, h_kin, h_alv, h_srs, h_row, h_sp, h_kis, h_pg⟩ := id hM
  refine Met.ofW (cc := cX0_sliceOf) (maxL := 5) (ret := (some .long)) (by decide) rfl ?_
  intro p e s m args below meth c s₁ B hml hv
  obtain ⟨rfl, hP, hK⟩ := hv
  have hx := B.exec
  have hb := B.bytes
  have hr := B.returns
  have hts := atoms_spec (ws := wsX0_sliceOf) B.pre
  have hown : s.vm.findClass RX0 = some m.cls := findClass_of_methodNamed B.named
  have hlocks := B.notSynchronized
  have hf0 := hts (.constantLong RX0 107 (2)) (by decide +kernel)
  have hl := lv_entry ([.long (k), .int (nI (mn))]) (n := 5) (Nat.le_of_ble_eq_true rfl)
  rw [lg_entry_eq]
  generalize (lg_sl ([.long (k), .int (nI (mn))]) ++ List.replicate (5 - (lg_sl ([.long (k), .int (nI (mn))])).length) Slot.unset).toArray = ls at hl ⊢
  have hl : lv_has ls 5 [(0, .long (k)), (2, .int (nI (mn)))] := hl
  refine lv_lload_n hx hb dX0_sliceOf_0 rfl (lv_at hl 0 rfl) ?_
  refine lv_lconst (v := 0) hx hb dX0_sliceOf_1 (by decide) ?_
  refine wc_Sl (As := [.long (k), .long (0)]) (rest := []) ⟨hx, hb, hml, hown, hts⟩ (c_X0_mix l D cI cJ cZ cV cR a C hM (k) (0)) (va_cwS 2 hts gX0_sliceOf_X0_mix rfl rfl rfl (by decide +kernel) ⟨Nat.le_of_ble_eq_true rfl, Nat.le_of_ble_eq_true rfl⟩) hP hK rfl hl.1 rfl (Nat.le_of_ble_eq_true rfl) dX0_sliceOf_2 ⟨Nat.zero_le _, Nat.zero_le _⟩ (fun rr hq1 => ?_)
  have hq1 : rr = (mixv (k) (0)) := hq1
  subst hq1
  refine lv_lstore_n (lv' := [(3, .long ((mixv (k) (0)))), (0, .long (k)), (2, .int (nI (mn)))]) hx hb dX0_sliceOf_5 rfl hl (by decide) rfl (fun ls hl => ?_)
  refine lv_lload_n hx hb dX0_sliceOf_6 rfl (lv_at hl 0 rfl) ?_
  refine lv_iconst (v := nI (1)) hx hb dX0_sliceOf_7 (by decide) ?_
  refine lv_lushr (v := ((mixv (k) (0)).toUInt64 >>> ((nI (1)).toInt64.toUInt64 &&& Int64.toUInt64 63)).toInt64) hx hb dX0_sliceOf_8 rfl ?_
  refine lv_iload_n hx hb dX0_sliceOf_9 rfl (lv_at hl 2 rfl) ?_
  refine lv_i2l (v := (nI (mn)).toInt64) hx hb dX0_sliceOf_10 rfl ?_
  refine lv_lrem hx hb dX0_sliceOf_11 (nIl_ne (by omega) (by omega)) ?_
  refine lv_ldc2 (v := (2)) hx hb hown hf0 dX0_sliceOf_12 ?_
  refine lv_lmul hx hb dX0_sliceOf_15 ?_
  refine lv_lload_n hx hb dX0_sliceOf_16 rfl (lv_at hl 0 rfl) ?_
  refine lv_lconst (v := 1) hx hb dX0_sliceOf_17 (by decide) ?_
  refine lv_land hx hb dX0_sliceOf_18 ?_
  refine lv_ladd hx hb dX0_sliceOf_19 ?_
  refine lv_iload_n hx hb dX0_sliceOf_20 rfl (lv_at hl 2 rfl) ?_
  refine lv_i2l (v := (nI (mn)).toInt64) hx hb dX0_sliceOf_21 rfl ?_
  refine lv_lrem hx hb dX0_sliceOf_22 (nIl_ne (by omega) (by omega)) ?_
  exact W.lret (v := ((((((mixv (k) (0)).toUInt64 >>> ((nI (1)).toInt64.toUInt64 &&& Int64.toUInt64 63)).toInt64 - ((mixv (k) (0)).toUInt64 >>> ((nI (1)).toInt64.toUInt64 &&& Int64.toUInt64 63)).toInt64 / (nI (mn)).toInt64 * (nI (mn)).toInt64) * (2)) + ((mixv (k) (0)) &&& 1)) - (((((mixv (k) (0)).toUInt64 >>> ((nI (1)).toInt64.toUInt64 &&& Int64.toUInt64 63)).toInt64 - ((mixv (k) (0)).toUInt64 >>> ((nI (1)).toInt64.toUInt64 &&& Int64.toUInt64 63)).toInt64 / (nI (mn)).toInt64 * (nI (mn)).toInt64) * (2)) + ((mixv (k) (0)) &&& 1)) / (nI (mn)).toInt64 * (nI (mn)).toInt64)) hx hb hr (fun t ht hW => ⟨_, rfl, rfl, ht⟩) (fun q h => nomatch h) dX0_sliceOf_23
def rm_X3_append : Room := { frames := 1, cells := 0, slots := 0, locals := 23 }
set_option maxHeartbeats 4000000 in
set_option maxRecDepth 100000 in
/-- an object more -/
theorem c_X3_append (l : Launch) (D : va_G) (cI cJ cZ cV cR : ClassId) (a : Nat → Nat) (C : CT) (hM : kOk C) (g k s9 : Int64) (hn9 : k_n C < 300) (sz : Nat) : Met l yX3_append wsX3_append rm_X3_append (va_Pc [.ref (a 1), .long (g), .long (k), .long (s9)] (GW D (tyK cI cJ cZ cV cR) (kW cI cJ cZ cV cR a C) sz)) (va_Qi (fun rr u => rr = nI (k_n C) ∧ u = apM C g k s9) (fun u => GB D (tyK cI cJ cZ cV cR) (va_A (kW cI cJ cZ cV cR a C) sz) (kW cI cJ cZ cV cR a u)) (va_A (kW cI cJ cZ cV cR a C) sz)) 0 0 (va_A (kW cI cJ cZ cV cR a C) sz) := by
  obtain ⟨hn, hfn, hsn, hvc, hrc, hpc, hnw, hkc, h_home, h_kin, h_alv, h_srs, h_row, h_sp, h_kis, h_pg⟩ := id hM
  refine Met.ofW (cc := cX3_append) (maxL := 8) (ret := (some .int)) (by decide) rfl ?_
  intro p e s m args below meth c s₁ B hml hv
  obtain ⟨rfl, hsz, hP, hK, hD0⟩ := hv
  have hx := B.exec
  have hb := B.bytes
  have hr := B.returns
  have hts := atoms_spec (ws := wsX3_append) B.pre
  have hown : s.vm.findClass RX3 = some m.cls := findClass_of_methodNamed B.named
  have hlocks := B.notSynchronized
  subst hsz
  have hD := hD0.self (sz := s.heap.size)
  generalize hAe : va_A (kW cI cJ cZ cV cR a C) s.heap.size = A at hD ⊢
  have hA : ∀ q : Nat, s.heap.size ≤ q → A q := fun q h => by rw [← hAe]; exact Or.inr h
  have hS : va_S A s.heap s.heap [] := va_S.rf
  have hP : va_P D vwCl (kX cI cJ cZ cV cR a (k_ra C) (k_rb C) (k_vc C) (k_rc C) (k_pc C) (k_nw C) (k_n C) (k_fn C) (k_sn C) (k_kc C) (k_grp C) (k_key C) (k_srt C) (k_wt C) (k_home C) (k_drp C) (k_met C) (k_kin C) (k_alv C) (k_srs C) (k_row C) (k_sp C) (k_kis C) (k_pg C) (k_vq C) (k_rq C) (k_L C) (k_F C)) s.heap := hP
  have hD : va_D A (kX cI cJ cZ cV cR a (k_ra C) (k_rb C) (k_vc C) (k_rc C) (k_pc C) (k_nw C) (k_n C) (k_fn C) (k_sn C) (k_kc C) (k_grp C) (k_key C) (k_srt C) (k_wt C) (k_home C) (k_drp C) (k_met C) (k_kin C) (k_alv C) (k_srs C) (k_row C) (k_sp C) (k_kis C) (k_pg C) (k_vq C) (k_rq C) (k_L C) (k_F C)) := hD
  have hiX3 : ∀ w ∈ wsX30, w ∈ wsX3_append := by decide +kernel
  have hf0 := hts (.fieldLink RX3 32 "GroupCursors$Stock" "count" "I") (by decide +kernel)
  have hf1 := hts (.fieldLink RX3 9 "GroupCursors$Stock" "group" "[J") (by decide +kernel)
  have hf2 := hts (.fieldLink RX3 15 "GroupCursors$Stock" "key" "[J") (by decide +kernel)
  have hf3 := hts (.fieldLink RX3 18 "GroupCursors$Stock" "sort" "[J") (by decide +kernel)
  have hf4 := hts (.fieldLink RX3 21 "GroupCursors$Stock" "kin" "[I") (by decide +kernel)
  have hf5 := hts (.fieldLink RX3 25 "GroupCursors$Stock" "home" "[I") (by decide +kernel)
  have hl := lv_entry ([.ref (a 1), .long (g), .long (k), .long (s9)]) (n := 8) (Nat.le_of_ble_eq_true rfl)
  rw [lg_entry_eq]
  generalize (lg_sl ([.ref (a 1), .long (g), .long (k), .long (s9)]) ++ List.replicate (8 - (lg_sl ([.ref (a 1), .long (g), .long (k), .long (s9)])).length) Slot.unset).toArray = ls at hl ⊢
  have hl : lv_has ls 8 [(0, .ref (a 1)), (1, .long (g)), (3, .long (k)), (5, .long (s9))] := hl
  refine lv_aload_n hx hb dX3_append_0 rfl (lv_at hl 0 rfl) ?_
  refine va_get (ci := 3) (v := .int (nI (k_n C))) (C := RX3) (T := TX3) (N := 8) hx hb hts hiX3 hown hK hP 1 rfl rfl 6 (by decide) hf0 (fun _ h9 => h9) rfl dX3_append_1 ?_
  refine lv_istore (lv' := [(7, .int (nI (k_n C))), (0, .ref (a 1)), (1, .long (g)), (3, .long (k)), (5, .long (s9))]) hx hb dX3_append_4 hl (by decide) rfl (fun ls hl => ?_)
  refine lv_aload_n hx hb dX3_append_6 rfl (lv_at hl 1 rfl) ?_
  refine va_get (ci := 3) (v := .ref (a 2)) (C := RX3) (T := TX3) (N := 8) hx hb hts hiX3 hown hK hP 1 rfl rfl 0 (by decide) hf1 (fun _ h9 => h9) rfl dX3_append_7 ?_
  refine lv_iload hx hb dX3_append_10 (lv_at hl 0 rfl) ?_
  refine lv_lload_n hx hb dX3_append_12 rfl (lv_at hl 2 rfl) ?_
  refine wa_lst (i := k_n C) hx hb hK hP hD hS 2 1 rfl rfl (by omega) (by decide) dX3_append_13 (fun H locs hP hD hS => ?_)
  have hP : va_P D vwCl (kX cI cJ cZ cV cR a (k_ra C) (k_rb C) (k_vc C) (k_rc C) (k_pc C) (k_nw C) (k_n C) (k_fn C) (k_sn C) (k_kc C) (va_up (k_grp C) (k_n C) (g)) (k_key C) (k_srt C) (k_wt C) (k_home C) (k_drp C) (k_met C) (k_kin C) (k_alv C) (k_srs C) (k_row C) (k_sp C) (k_kis C) (k_pg C) (k_vq C) (k_rq C) (k_L C) (k_F C)) H := hP
  have hD : va_D A (kX cI cJ cZ cV cR a (k_ra C) (k_rb C) (k_vc C) (k_rc C) (k_pc C) (k_nw C) (k_n C) (k_fn C) (k_sn C) (k_kc C) (va_up (k_grp C) (k_n C) (g)) (k_key C) (k_srt C) (k_wt C) (k_home C) (k_drp C) (k_met C) (k_kin C) (k_alv C) (k_srs C) (k_row C) (k_sp C) (k_kis C) (k_pg C) (k_vq C) (k_rq C) (k_L C) (k_F C)) := hD
  refine lv_aload_n hx hb dX3_append_14 rfl (lv_at hl 1 rfl) ?_
  refine va_get (ci := 3) (v := .ref (a 3)) (C := RX3) (T := TX3) (N := 8) hx hb hts hiX3 hown hK hP 1 rfl rfl 1 (by decide) hf2 (fun _ h9 => h9) rfl dX3_append_15 ?_
  refine lv_iload hx hb dX3_append_18 (lv_at hl 0 rfl) ?_
  refine lv_lload_n hx hb dX3_append_20 rfl (lv_at hl 3 rfl) ?_
  refine wa_lst (i := k_n C) hx hb hK hP hD hS 3 1 rfl rfl (by omega) (by decide) dX3_append_21 (fun H locs hP hD hS => ?_)
  have hP : va_P D vwCl (kX cI cJ cZ cV cR a (k_ra C) (k_rb C) (k_vc C) (k_rc C) (k_pc C) (k_nw C) (k_n C) (k_fn C) (k_sn C) (k_kc C) (va_up (k_grp C) (k_n C) (g)) (va_up (k_key C) (k_n C) (k)) (k_srt C) (k_wt C) (k_home C) (k_drp C) (k_met C) (k_kin C) (k_alv C) (k_srs C) (k_row C) (k_sp C) (k_kis C) (k_pg C) (k_vq C) (k_rq C) (k_L C) (k_F C)) H := hP
  have hD : va_D A (kX cI cJ cZ cV cR a (k_ra C) (k_rb C) (k_vc C) (k_rc C) (k_pc C) (k_nw C) (k_n C) (k_fn C) (k_sn C) (k_kc C) (va_up (k_grp C) (k_n C) (g)) (va_up (k_key C) (k_n C) (k)) (k_srt C) (k_wt C) (k_home C) (k_drp C) (k_met C) (k_kin C) (k_alv C) (k_srs C) (k_row C) (k_sp C) (k_kis C) (k_pg C) (k_vq C) (k_rq C) (k_L C) (k_F C)) := hD
  refine lv_aload_n hx hb dX3_append_22 rfl (lv_at hl 1 rfl) ?_
  refine va_get (ci := 3) (v := .ref (a 4)) (C := RX3) (T := TX3) (N := 8) hx hb hts hiX3 hown hK hP 1 rfl rfl 2 (by decide) hf3 (fun _ h9 => h9) rfl dX3_append_23 ?_
  refine lv_iload hx hb dX3_append_26 (lv_at hl 0 rfl) ?_
  refine lv_lload hx hb dX3_append_28 (lv_at hl 4 rfl) ?_
  refine wa_lst (i := k_n C) hx hb hK hP hD hS 4 1 rfl rfl (by omega) (by decide) dX3_append_30 (fun H locs hP hD hS => ?_)
  have hP : va_P D vwCl (kX cI cJ cZ cV cR a (k_ra C) (k_rb C) (k_vc C) (k_rc C) (k_pc C) (k_nw C) (k_n C) (k_fn C) (k_sn C) (k_kc C) (va_up (k_grp C) (k_n C) (g)) (va_up (k_key C) (k_n C) (k)) (va_up (k_srt C) (k_n C) (s9)) (k_wt C) (k_home C) (k_drp C) (k_met C) (k_kin C) (k_alv C) (k_srs C) (k_row C) (k_sp C) (k_kis C) (k_pg C) (k_vq C) (k_rq C) (k_L C) (k_F C)) H := hP
  have hD : va_D A (kX cI cJ cZ cV cR a (k_ra C) (k_rb C) (k_vc C) (k_rc C) (k_pc C) (k_nw C) (k_n C) (k_fn C) (k_sn C) (k_kc C) (va_up (k_grp C) (k_n C) (g)) (va_up (k_key C) (k_n C) (k)) (va_up (k_srt C) (k_n C) (s9)) (k_wt C) (k_home C) (k_drp C) (k_met C) (k_kin C) (k_alv C) (k_srs C) (k_row C) (k_sp C) (k_kis C) (k_pg C) (k_vq C) (k_rq C) (k_L C) (k_F C)) := hD
  refine lv_aload_n hx hb dX3_append_31 rfl (lv_at hl 1 rfl) ?_
  refine va_get (ci := 3) (v := .ref (a 5)) (C := RX3) (T := TX3) (N := 8) hx hb hts hiX3 hown hK hP 1 rfl rfl 3 (by decide) hf4 (fun _ h9 => h9) rfl dX3_append_32 ?_
  refine lv_iload hx hb dX3_append_35 (lv_at hl 0 rfl) ?_
  refine lv_aload_n hx hb dX3_append_37 rfl (lv_at hl 1 rfl) ?_
  refine lv_lload_n hx hb dX3_append_38 rfl (lv_at hl 2 rfl) ?_
  have hPm : va_P D vwCl (kW cI cJ cZ cV cR a (mkC (k_ra C) (k_rb C) (k_vc C) (k_rc C) (k_pc C) (k_nw C) (k_n C) (k_fn C) (k_sn C) (k_kc C) (va_up (k_grp C) (k_n C) (g)) (va_up (k_key C) (k_n C) (k)) (va_up (k_srt C) (k_n C) (s9)) (k_wt C) (k_home C) (k_drp C) (k_met C) (k_kin C) (k_alv C) (k_srs C) (k_row C) (k_sp C) (k_kis C) (k_pg C) (k_vq C) (k_rq C) (k_L C) (k_F C))) H := by rw [← kX_mk]; exact hP
  refine wc_Vi (As := [.long (g)]) (rest := [.int (nI (k_n C)), .ref (a 5)]) ⟨hx, hb, hml, hown, hts⟩ (c_X3_firstOf l D cI cJ cZ cV cR a (mkC (k_ra C) (k_rb C) (k_vc C) (k_rc C) (k_pc C) (k_nw C) (k_n C) (k_fn C) (k_sn C) (k_kc C) (va_up (k_grp C) (k_n C) (g)) (va_up (k_key C) (k_n C) (k)) (va_up (k_srt C) (k_n C) (s9)) (k_wt C) (k_home C) (k_drp C) (k_met C) (k_kin C) (k_alv C) (k_srs C) (k_row C) (k_sp C) (k_kis C) (k_pg C) (k_vq C) (k_rq C) (k_L C) (k_F C)) hM (g)) (cwV 1 hts gX3_append_X3_firstOf rfl rfl rfl (by decide +kernel) ⟨Nat.le_of_ble_eq_true rfl, Nat.le_of_ble_eq_true rfl⟩) hPm hK 1 rfl rfl rfl hl.1 rfl (Nat.le_of_ble_eq_true rfl) dX3_append_39 ⟨Nat.zero_le _, Nat.zero_le _⟩ (fun rr hq1 => ?_)
  have hq1 : rr = nI (firstF (va_up (k_grp C) (k_n C) (g)) (k_n C) (g)) := hq1
  subst hq1
  have hfl2 : firstF (va_up (k_grp C) (k_n C) (g)) (k_n C) (g) ≤ (k_n C) := fstB_le _ _
  refine wa_ist (i := k_n C) hx hb hK hP hD hS 5 0 rfl rfl (upd_nI (k_kin C) (k_n C) (firstF (va_up (k_grp C) (k_n C) (g)) (k_n C) (g))) (by omega) (by decide) dX3_append_42 (fun H locs hP hD hS => ?_)
  have hP : va_P D vwCl (kX cI cJ cZ cV cR a (k_ra C) (k_rb C) (k_vc C) (k_rc C) (k_pc C) (k_nw C) (k_n C) (k_fn C) (k_sn C) (k_kc C) (va_up (k_grp C) (k_n C) (g)) (va_up (k_key C) (k_n C) (k)) (va_up (k_srt C) (k_n C) (s9)) (k_wt C) (k_home C) (k_drp C) (k_met C) (va_up (k_kin C) (k_n C) (firstF (va_up (k_grp C) (k_n C) (g)) (k_n C) (g))) (k_alv C) (k_srs C) (k_row C) (k_sp C) (k_kis C) (k_pg C) (k_vq C) (k_rq C) (k_L C) (k_F C)) H := hP
  have hD : va_D A (kX cI cJ cZ cV cR a (k_ra C) (k_rb C) (k_vc C) (k_rc C) (k_pc C) (k_nw C) (k_n C) (k_fn C) (k_sn C) (k_kc C) (va_up (k_grp C) (k_n C) (g)) (va_up (k_key C) (k_n C) (k)) (va_up (k_srt C) (k_n C) (s9)) (k_wt C) (k_home C) (k_drp C) (k_met C) (va_up (k_kin C) (k_n C) (firstF (va_up (k_grp C) (k_n C) (g)) (k_n C) (g))) (k_alv C) (k_srs C) (k_row C) (k_sp C) (k_kis C) (k_pg C) (k_vq C) (k_rq C) (k_L C) (k_F C)) := hD
  refine lv_aload_n hx hb dX3_append_43 rfl (lv_at hl 1 rfl) ?_
  refine va_get (ci := 3) (v := .ref (a 6)) (C := RX3) (T := TX3) (N := 8) hx hb hts hiX3 hown hK hP 1 rfl rfl 4 (by decide) hf5 (fun _ h9 => h9) rfl dX3_append_44 ?_
  refine lv_iload hx hb dX3_append_47 (lv_at hl 0 rfl) ?_
  refine lv_iconst (v := zI ((-1))) hx hb dX3_append_49 (by decide) ?_
  refine wa_ist (i := k_n C) hx hb hK hP hD hS 6 0 rfl rfl (upd_zI (k_home C) (k_n C) (((-1) : Int))) (by omega) (by decide) dX3_append_50 (fun H locs hP hD hS => ?_)
  have hP : va_P D vwCl (kX cI cJ cZ cV cR a (k_ra C) (k_rb C) (k_vc C) (k_rc C) (k_pc C) (k_nw C) (k_n C) (k_fn C) (k_sn C) (k_kc C) (va_up (k_grp C) (k_n C) (g)) (va_up (k_key C) (k_n C) (k)) (va_up (k_srt C) (k_n C) (s9)) (k_wt C) (va_up (k_home C) (k_n C) (((-1) : Int))) (k_drp C) (k_met C) (va_up (k_kin C) (k_n C) (firstF (va_up (k_grp C) (k_n C) (g)) (k_n C) (g))) (k_alv C) (k_srs C) (k_row C) (k_sp C) (k_kis C) (k_pg C) (k_vq C) (k_rq C) (k_L C) (k_F C)) H := hP
  have hD : va_D A (kX cI cJ cZ cV cR a (k_ra C) (k_rb C) (k_vc C) (k_rc C) (k_pc C) (k_nw C) (k_n C) (k_fn C) (k_sn C) (k_kc C) (va_up (k_grp C) (k_n C) (g)) (va_up (k_key C) (k_n C) (k)) (va_up (k_srt C) (k_n C) (s9)) (k_wt C) (va_up (k_home C) (k_n C) (((-1) : Int))) (k_drp C) (k_met C) (va_up (k_kin C) (k_n C) (firstF (va_up (k_grp C) (k_n C) (g)) (k_n C) (g))) (k_alv C) (k_srs C) (k_row C) (k_sp C) (k_kis C) (k_pg C) (k_vq C) (k_rq C) (k_L C) (k_F C)) := hD
  refine lv_aload_n hx hb dX3_append_51 rfl (lv_at hl 1 rfl) ?_
  refine lv_dup hx hb dX3_append_52 rfl ?_
  refine va_get (ci := 3) (v := .int (nI (k_n C))) (C := RX3) (T := TX3) (N := 8) hx hb hts hiX3 hown hK hP 1 rfl rfl 6 (by decide) hf0 (fun _ h9 => h9) rfl dX3_append_53 ?_
  refine lv_iconst (v := nI (1)) hx hb dX3_append_56 (by decide) ?_
  refine lv_iadd hx hb dX3_append_57 (ww_top (y := nI (k_n C + 1)) (nI_addn _ _) ?_)
  refine va_put (ci := 3) (v := .int (nI (k_n C + 1))) (ty := .int) (C := RX3) (T := TX3) (N := 8) hx hb hts hiX3 tyX3 tyX3_ok nmX3 hown hK hP hD hS 1 rfl rfl 6 (by decide) hf0 (fun _ h9 => h9) rfl (by decide +kernel) rfl rfl (Nat.le_of_ble_eq_true rfl) dX3_append_58 (fun H locs hP hD hS => ?_)
  have hP : va_P D vwCl (kX cI cJ cZ cV cR a (k_ra C) (k_rb C) (k_vc C) (k_rc C) (k_pc C) (k_nw C) (k_n C + 1) (k_fn C) (k_sn C) (k_kc C) (va_up (k_grp C) (k_n C) (g)) (va_up (k_key C) (k_n C) (k)) (va_up (k_srt C) (k_n C) (s9)) (k_wt C) (va_up (k_home C) (k_n C) (((-1) : Int))) (k_drp C) (k_met C) (va_up (k_kin C) (k_n C) (firstF (va_up (k_grp C) (k_n C) (g)) (k_n C) (g))) (k_alv C) (k_srs C) (k_row C) (k_sp C) (k_kis C) (k_pg C) (k_vq C) (k_rq C) (k_L C) (k_F C)) H := hP
  have hD : va_D A (kX cI cJ cZ cV cR a (k_ra C) (k_rb C) (k_vc C) (k_rc C) (k_pc C) (k_nw C) (k_n C + 1) (k_fn C) (k_sn C) (k_kc C) (va_up (k_grp C) (k_n C) (g)) (va_up (k_key C) (k_n C) (k)) (va_up (k_srt C) (k_n C) (s9)) (k_wt C) (va_up (k_home C) (k_n C) (((-1) : Int))) (k_drp C) (k_met C) (va_up (k_kin C) (k_n C) (firstF (va_up (k_grp C) (k_n C) (g)) (k_n C) (g))) (k_alv C) (k_srs C) (k_row C) (k_sp C) (k_kis C) (k_pg C) (k_vq C) (k_rq C) (k_L C) (k_F C)) := hD
  refine lv_iload hx hb dX3_append_61 (lv_at hl 0 rfl) ?_
  have hPm : va_P D vwCl (kW cI cJ cZ cV cR a (mkC (k_ra C) (k_rb C) (k_vc C) (k_rc C) (k_pc C) (k_nw C) (k_n C + 1) (k_fn C) (k_sn C) (k_kc C) (va_up (k_grp C) (k_n C) (g)) (va_up (k_key C) (k_n C) (k)) (va_up (k_srt C) (k_n C) (s9)) (k_wt C) (va_up (k_home C) (k_n C) (((-1) : Int))) (k_drp C) (k_met C) (va_up (k_kin C) (k_n C) (firstF (va_up (k_grp C) (k_n C) (g)) (k_n C) (g))) (k_alv C) (k_srs C) (k_row C) (k_sp C) (k_kis C) (k_pg C) (k_vq C) (k_rq C) (k_L C) (k_F C))) H := by rw [← kX_mk]; exact hP
  have hDm : va_D A (kW cI cJ cZ cV cR a (mkC (k_ra C) (k_rb C) (k_vc C) (k_rc C) (k_pc C) (k_nw C) (k_n C + 1) (k_fn C) (k_sn C) (k_kc C) (va_up (k_grp C) (k_n C) (g)) (va_up (k_key C) (k_n C) (k)) (va_up (k_srt C) (k_n C) (s9)) (k_wt C) (va_up (k_home C) (k_n C) (((-1) : Int))) (k_drp C) (k_met C) (va_up (k_kin C) (k_n C) (firstF (va_up (k_grp C) (k_n C) (g)) (k_n C) (g))) (k_alv C) (k_srs C) (k_row C) (k_sp C) (k_kis C) (k_pg C) (k_vq C) (k_rq C) (k_L C) (k_F C))) := by rw [← kX_mk]; exact hD
  exact W.iret (v := nI (k_n C)) hx hb hr (fun t ht hW => ⟨⟨_, (mkC (k_ra C) (k_rb C) (k_vc C) (k_rc C) (k_pc C) (k_nw C) (k_n C + 1) (k_fn C) (k_sn C) (k_kc C) (va_up (k_grp C) (k_n C) (g)) (va_up (k_key C) (k_n C) (k)) (va_up (k_srt C) (k_n C) (s9)) (k_wt C) (va_up (k_home C) (k_n C) (((-1) : Int))) (k_drp C) (k_met C) (va_up (k_kin C) (k_n C) (firstF (va_up (k_grp C) (k_n C) (g)) (k_n C) (g))) (k_alv C) (k_srs C) (k_row C) (k_sp C) (k_kis C) (k_pg C) (k_vq C) (k_rq C) (k_L C) (k_F C)), rfl, ⟨rfl, rfl⟩, gb_mk ht hW hPm hK hDm⟩, hS.F ht⟩) hS.2.2 dX3_append_63
def rm_X3_settleNew : Room := { frames := 0, cells := 0, slots := 0, locals := 0 }
set_option maxHeartbeats 4000000 in
set_option maxRecDepth 100000 in
/-- the new ones come into a segment -/
theorem c_X3_settleNew (l : Launch) (D : va_G) (cI cJ cZ cV cR : ClassId) (a : Nat → Nat) (C : CT) (hM : kOk C) (q : Nat) (hq : q < 40) (sz : Nat) : Met l yX3_settleNew wsX3_settleNew rm_X3_settleNew (va_Pc [.ref (a 1), .int (nI (q))] (GW D (tyK cI cJ cZ cV cR) (kW cI cJ cZ cV cR a C) sz)) (va_Qv (fun u => u = snM C q) (fun u => GB D (tyK cI cJ cZ cV cR) (va_A (kW cI cJ cZ cV cR a C) sz) (kW cI cJ cZ cV cR a u)) (va_A (kW cI cJ cZ cV cR a C) sz)) 0 0 (va_A (kW cI cJ cZ cV cR a C) sz) := by
  obtain ⟨hn, hfn, hsn, hvc, hrc, hpc, hnw, hkc, h_home, h_kin, h_alv, h_srs, h_row, h_sp, h_kis, h_pg⟩ := id hM
  refine Met.ofW (cc := cX3_settleNew) (maxL := 3) (ret := none) (by decide) rfl ?_
  intro p e s m args below meth c s₁ B hml hv
  obtain ⟨rfl, hsz, hP, hK, hD0⟩ := hv
  have hx := B.exec
  have hb := B.bytes
  have hr := B.returns
  have hts := atoms_spec (ws := wsX3_settleNew) B.pre
  have hown : s.vm.findClass RX3 = some m.cls := findClass_of_methodNamed B.named
  have hlocks := B.notSynchronized
  subst hsz
  have hD := hD0.self (sz := s.heap.size)
  generalize hAe : va_A (kW cI cJ cZ cV cR a C) s.heap.size = A at hD ⊢
  have hA : ∀ q : Nat, s.heap.size ≤ q → A q := fun q h => by rw [← hAe]; exact Or.inr h
  have hS : va_S A s.heap s.heap [] := va_S.rf
  have hP : va_P D vwCl (kX cI cJ cZ cV cR a (k_ra C) (k_rb C) (k_vc C) (k_rc C) (k_pc C) (k_nw C) (k_n C) (k_fn C) (k_sn C) (k_kc C) (k_grp C) (k_key C) (k_srt C) (k_wt C) (k_home C) (k_drp C) (k_met C) (k_kin C) (k_alv C) (k_srs C) (k_row C) (k_sp C) (k_kis C) (k_pg C) (k_vq C) (k_rq C) (k_L C) (k_F C)) s.heap := hP
  have hD : va_D A (kX cI cJ cZ cV cR a (k_ra C) (k_rb C) (k_vc C) (k_rc C) (k_pc C) (k_nw C) (k_n C) (k_fn C) (k_sn C) (k_kc C) (k_grp C) (k_key C) (k_srt C) (k_wt C) (k_home C) (k_drp C) (k_met C) (k_kin C) (k_alv C) (k_srs C) (k_row C) (k_sp C) (k_kis C) (k_pg C) (k_vq C) (k_rq C) (k_L C) (k_F C)) := hD
  have hiX3 : ∀ w ∈ wsX30, w ∈ wsX3_settleNew := by decide +kernel
  have hf0 := hts (.fieldLink RX3 36 "GroupCursors$Stock" "firstNew" "I") (by decide +kernel)
  have hf1 := hts (.fieldLink RX3 32 "GroupCursors$Stock" "count" "I") (by decide +kernel)
  have hf2 := hts (.fieldLink RX3 28 "GroupCursors$Stock" "dropped" "[Z") (by decide +kernel)
  have hf3 := hts (.fieldLink RX3 25 "GroupCursors$Stock" "home" "[I") (by decide +kernel)
  have hl := lv_entry ([.ref (a 1), .int (nI (q))]) (n := 3) (Nat.le_of_ble_eq_true rfl)
  rw [lg_entry_eq]
  generalize (lg_sl ([.ref (a 1), .int (nI (q))]) ++ List.replicate (3 - (lg_sl ([.ref (a 1), .int (nI (q))])).length) Slot.unset).toArray = ls at hl ⊢
  have hl : lv_has ls 3 [(0, .ref (a 1)), (1, .int (nI (q)))] := hl
  refine lv_aload_n hx hb dX3_settleNew_0 rfl (lv_at hl 0 rfl) ?_
  refine va_get (ci := 3) (v := .int (nI (k_fn C))) (C := RX3) (T := TX3) (N := 8) hx hb hts hiX3 hown hK hP 1 rfl rfl 7 (by decide) hf0 (fun _ h9 => h9) rfl dX3_settleNew_1 ?_
  refine lv_istore_n (lv' := [(2, .int (nI (k_fn C))), (0, .ref (a 1)), (1, .int (nI (q)))]) hx hb dX3_settleNew_4 rfl hl (by decide) rfl (fun ls hl => ?_)
  have hlp5 : ∀ (d : Nat) (i : Nat) (H : Heap) (locs : List Loc), k_n C - i < d → (k_fn C ≤ i) → (i ≤ k_n C) → va_P D vwCl (kX cI cJ cZ cV cR a (k_ra C) (k_rb C) (k_vc C) (k_rc C) (k_pc C) (k_nw C) (k_n C) (k_fn C) (k_sn C) (k_kc C) (k_grp C) (k_key C) (k_srt C) (k_wt C) (snH (k_fn C) (k_drp C) (k_home C) q i) (k_drp C) (k_met C) (k_kin C) (k_alv C) (k_srs C) (k_row C) (k_sp C) (k_kis C) (k_pg C) (k_vq C) (k_rq C) (k_L C) (k_F C)) H → va_D A (kX cI cJ cZ cV cR a (k_ra C) (k_rb C) (k_vc C) (k_rc C) (k_pc C) (k_nw C) (k_n C) (k_fn C) (k_sn C) (k_kc C) (k_grp C) (k_key C) (k_srt C) (k_wt C) (snH (k_fn C) (k_drp C) (k_home C) q i) (k_drp C) (k_met C) (k_kin C) (k_alv C) (k_srs C) (k_row C) (k_sp C) (k_kis C) (k_pg C) (k_vq C) (k_rq C) (k_L C) (k_F C)) → va_S A s.heap H locs → ∀ (ls : Array Slot), lv_has ls 3 [(0, .ref (a 1)), (1, .int (nI (q))), (2, .int (nI (i)))] → W p l e (headSpec wsX3_settleNew rm_X3_settleNew).room s m ([.ref (a 1), .int (nI (q))] : List Value).toArray below meth c H locs (0) (0) (MQ below (va_Qv (fun u => u = snM C q) (fun u => GB D (tyK cI cJ cZ cV cR) A (kW cI cJ cZ cV cR a u)) A) ([.ref (a 1), .int (nI (q))] : List Value).toArray s 0 0 A) (F0 m 5 ls []) := by
    intro d
    induction d with
    | zero => intro i H locs hd5; exact absurd hd5 (Nat.not_lt_zero _)
    | succ d ih5 =>
      intro i H locs hd5 hfi hik hP hD hS ls hl
      refine lv_iload_n hx hb dX3_settleNew_5 rfl (lv_at hl 2 rfl) ?_
      refine lv_aload_n hx hb dX3_settleNew_6 rfl (lv_at hl 0 rfl) ?_
      refine va_get (ci := 3) (v := .int (nI (k_n C))) (C := RX3) (T := TX3) (N := 8) hx hb hts hiX3 hown hK hP 1 rfl rfl 6 (by decide) hf1 (fun _ h9 => h9) rfl dX3_settleNew_7 ?_
      refine wn_icmp_ge (a := i) (b := k_n C) (tgt := 35) hx hb (nI_z (by omega)) (nI_z (by omega)) dX3_settleNew_10 (by decide) (fun c10_1 => ?_) (fun c10_1 => ?_)
      · refine lv_aload_n hx hb dX3_settleNew_35 rfl (lv_at hl 0 rfl) ?_
        refine lv_aload_n hx hb dX3_settleNew_36 rfl (lv_at hl 0 rfl) ?_
        refine va_get (ci := 3) (v := .int (nI (k_n C))) (C := RX3) (T := TX3) (N := 8) hx hb hts hiX3 hown hK hP 1 rfl rfl 6 (by decide) hf1 (fun _ h9 => h9) rfl dX3_settleNew_37 ?_
        refine va_put (ci := 3) (v := .int (nI (k_n C))) (ty := .int) (C := RX3) (T := TX3) (N := 8) hx hb hts hiX3 tyX3 tyX3_ok nmX3 hown hK hP hD hS 1 rfl rfl 7 (by decide) hf0 (fun _ h9 => h9) rfl (by decide +kernel) rfl rfl (Nat.le_of_ble_eq_true rfl) dX3_settleNew_40 (fun H locs hP hD hS => ?_)
        have hP : va_P D vwCl (kX cI cJ cZ cV cR a (k_ra C) (k_rb C) (k_vc C) (k_rc C) (k_pc C) (k_nw C) (k_n C) (k_n C) (k_sn C) (k_kc C) (k_grp C) (k_key C) (k_srt C) (k_wt C) (snH (k_fn C) (k_drp C) (k_home C) q i) (k_drp C) (k_met C) (k_kin C) (k_alv C) (k_srs C) (k_row C) (k_sp C) (k_kis C) (k_pg C) (k_vq C) (k_rq C) (k_L C) (k_F C)) H := hP
        have hD : va_D A (kX cI cJ cZ cV cR a (k_ra C) (k_rb C) (k_vc C) (k_rc C) (k_pc C) (k_nw C) (k_n C) (k_n C) (k_sn C) (k_kc C) (k_grp C) (k_key C) (k_srt C) (k_wt C) (snH (k_fn C) (k_drp C) (k_home C) q i) (k_drp C) (k_met C) (k_kin C) (k_alv C) (k_srs C) (k_row C) (k_sp C) (k_kis C) (k_pg C) (k_vq C) (k_rq C) (k_L C) (k_F C)) := hD
        have hPm : va_P D vwCl (kW cI cJ cZ cV cR a (mkC (k_ra C) (k_rb C) (k_vc C) (k_rc C) (k_pc C) (k_nw C) (k_n C) (k_n C) (k_sn C) (k_kc C) (k_grp C) (k_key C) (k_srt C) (k_wt C) (snH (k_fn C) (k_drp C) (k_home C) q i) (k_drp C) (k_met C) (k_kin C) (k_alv C) (k_srs C) (k_row C) (k_sp C) (k_kis C) (k_pg C) (k_vq C) (k_rq C) (k_L C) (k_F C))) H := by rw [← kX_mk]; exact hP
        have hDm : va_D A (kW cI cJ cZ cV cR a (mkC (k_ra C) (k_rb C) (k_vc C) (k_rc C) (k_pc C) (k_nw C) (k_n C) (k_n C) (k_sn C) (k_kc C) (k_grp C) (k_key C) (k_srt C) (k_wt C) (snH (k_fn C) (k_drp C) (k_home C) q i) (k_drp C) (k_met C) (k_kin C) (k_alv C) (k_srs C) (k_row C) (k_sp C) (k_kis C) (k_pg C) (k_vq C) (k_rq C) (k_L C) (k_F C))) := by rw [← kX_mk]; exact hD
        exact W.vret hx hb hr (fun t ht hW => ⟨⟨(mkC (k_ra C) (k_rb C) (k_vc C) (k_rc C) (k_pc C) (k_nw C) (k_n C) (k_n C) (k_sn C) (k_kc C) (k_grp C) (k_key C) (k_srt C) (k_wt C) (snH (k_fn C) (k_drp C) (k_home C) q i) (k_drp C) (k_met C) (k_kin C) (k_alv C) (k_srs C) (k_row C) (k_sp C) (k_kis C) (k_pg C) (k_vq C) (k_rq C) (k_L C) (k_F C)), rfl, (by rw [snM, ← (show i = k_n C by omega)]), gb_mk ht hW hPm hK hDm⟩, hS.F ht⟩) hS.2.2 dX3_settleNew_43
      · refine lv_aload_n hx hb dX3_settleNew_13 rfl (lv_at hl 0 rfl) ?_
        refine va_get (ci := 3) (v := .ref (a 7)) (C := RX3) (T := TX3) (N := 8) hx hb hts hiX3 hown hK hP 1 rfl rfl 5 (by decide) hf2 (fun _ h9 => h9) rfl dX3_settleNew_14 ?_
        refine lv_iload_n hx hb dX3_settleNew_17 rfl (lv_at hl 2 rfl) ?_
        refine wa_z (i := i) (v := bI (k_drp C i)) hx hb hK hP 7 2 rfl rfl rfl (by omega) (by decide) dX3_settleNew_18 ?_
        refine wb_if_ne (tgt := 29) hx hb dX3_settleNew_19 (by decide) (fun c19_2 => ?_) (fun c19_2 => ?_)
        · refine lv_iinc (v := nI (i + 1)) (lv' := [(2, .int (nI (i + 1))), (0, .ref (a 1)), (1, .int (nI (q)))]) hx hb dX3_settleNew_29 hl (k := 2) rfl (nI_inc _) (by decide) rfl (fun ls hl => ?_)
          refine lv_goto (tgt := 5) hx hb dX3_settleNew_32 (by decide) ?_
          have e1 : snH (k_fn C) (k_drp C) (k_home C) q i = snH (k_fn C) (k_drp C) (k_home C) q (i + 1) := by simp only [snH]; rw [if_neg (by simp [pNw, c19_2])]
          rw [e1] at hP hD
          exact ih5 (i + 1) _ _ (by omega) (by omega) (by omega) hP hD hS ls (lv_sub hl [1, 2, 0] rfl)
        · refine lv_aload_n hx hb dX3_settleNew_22 rfl (lv_at hl 0 rfl) ?_
          refine va_get (ci := 3) (v := .ref (a 6)) (C := RX3) (T := TX3) (N := 8) hx hb hts hiX3 hown hK hP 1 rfl rfl 4 (by decide) hf3 (fun _ h9 => h9) rfl dX3_settleNew_23 ?_
          refine lv_iload_n hx hb dX3_settleNew_26 rfl (lv_at hl 2 rfl) ?_
          refine lv_iload_n hx hb dX3_settleNew_27 rfl (lv_at hl 1 rfl) ?_
          refine ww_top (y := zI (((q : Nat) : Int))) (zI_n _).symm ?_
          refine wa_ist (i := i) hx hb hK hP hD hS 6 0 rfl rfl (upd_zI (snH (k_fn C) (k_drp C) (k_home C) q i) (i) (((q : Nat) : Int))) (by omega) (by decide) dX3_settleNew_28 (fun H locs hP hD hS => ?_)
          have hP : va_P D vwCl (kX cI cJ cZ cV cR a (k_ra C) (k_rb C) (k_vc C) (k_rc C) (k_pc C) (k_nw C) (k_n C) (k_fn C) (k_sn C) (k_kc C) (k_grp C) (k_key C) (k_srt C) (k_wt C) (va_up (snH (k_fn C) (k_drp C) (k_home C) q i) (i) (((q : Nat) : Int))) (k_drp C) (k_met C) (k_kin C) (k_alv C) (k_srs C) (k_row C) (k_sp C) (k_kis C) (k_pg C) (k_vq C) (k_rq C) (k_L C) (k_F C)) H := hP
          have hD : va_D A (kX cI cJ cZ cV cR a (k_ra C) (k_rb C) (k_vc C) (k_rc C) (k_pc C) (k_nw C) (k_n C) (k_fn C) (k_sn C) (k_kc C) (k_grp C) (k_key C) (k_srt C) (k_wt C) (va_up (snH (k_fn C) (k_drp C) (k_home C) q i) (i) (((q : Nat) : Int))) (k_drp C) (k_met C) (k_kin C) (k_alv C) (k_srs C) (k_row C) (k_sp C) (k_kis C) (k_pg C) (k_vq C) (k_rq C) (k_L C) (k_F C)) := hD
          refine lv_iinc (v := nI (i + 1)) (lv' := [(2, .int (nI (i + 1))), (0, .ref (a 1)), (1, .int (nI (q)))]) hx hb dX3_settleNew_29 hl (k := 2) rfl (nI_inc _) (by decide) rfl (fun ls hl => ?_)
          refine lv_goto (tgt := 5) hx hb dX3_settleNew_32 (by decide) ?_
          have e1 : va_up (snH (k_fn C) (k_drp C) (k_home C) q i) (i) (((q : Nat) : Int)) = snH (k_fn C) (k_drp C) (k_home C) q (i + 1) := by simp only [snH]; rw [if_pos (by simp [pNw, c19_2]; omega)]
          rw [e1] at hP hD
          exact ih5 (i + 1) _ _ (by omega) (by omega) (by omega) hP hD hS ls (lv_sub hl [1, 2, 0] rfl)
  have e1 : k_home C = snH (k_fn C) (k_drp C) (k_home C) q (k_fn C) := (snH_0 _ _ _ _ _ (Nat.le_refl _)).symm
  rw [e1] at hP hD
  exact hlp5 _ (k_fn C) _ _ (Nat.lt_succ_self _) (Nat.le_refl _) (by omega) hP hD hS ls (lv_sub hl [1, 2, 0] rfl)
def rm_X2_append : Room := { frames := 0, cells := 0, slots := 0, locals := 0 }
set_option maxHeartbeats 4000000 in
set_option maxRecDepth 100000 in
/-- a segment more -/
theorem c_X2_append (l : Launch) (D : va_G) (cI cJ cZ cV cR : ClassId) (a : Nat → Nat) (C : CT) (hM : kOk C) (x : Nat) (hs9 : k_sn C < 40) (sz : Nat) : Met l yX2_append wsX2_append rm_X2_append (va_Pc [.ref (a 8), .int (nI (x))] (GW D (tyK cI cJ cZ cV cR) (kW cI cJ cZ cV cR a C) sz)) (va_Qi (fun rr u => rr = nI (k_sn C) ∧ u = sgM C x) (fun u => GB D (tyK cI cJ cZ cV cR) (va_A (kW cI cJ cZ cV cR a C) sz) (kW cI cJ cZ cV cR a u)) (va_A (kW cI cJ cZ cV cR a C) sz)) 0 0 (va_A (kW cI cJ cZ cV cR a C) sz) := by
  obtain ⟨hn, hfn, hsn, hvc, hrc, hpc, hnw, hkc, h_home, h_kin, h_alv, h_srs, h_row, h_sp, h_kis, h_pg⟩ := id hM
  refine Met.ofW (cc := cX2_append) (maxL := 2) (ret := (some .int)) (by decide) rfl ?_
  intro p e s m args below meth c s₁ B hml hv
  obtain ⟨rfl, hsz, hP, hK, hD0⟩ := hv
  have hx := B.exec
  have hb := B.bytes
  have hr := B.returns
  have hts := atoms_spec (ws := wsX2_append) B.pre
  have hown : s.vm.findClass RX2 = some m.cls := findClass_of_methodNamed B.named
  have hlocks := B.notSynchronized
  subst hsz
  have hD := hD0.self (sz := s.heap.size)
  generalize hAe : va_A (kW cI cJ cZ cV cR a C) s.heap.size = A at hD ⊢
  have hA : ∀ q : Nat, s.heap.size ≤ q → A q := fun q h => by rw [← hAe]; exact Or.inr h
  have hS : va_S A s.heap s.heap [] := va_S.rf
  have hP : va_P D vwCl (kX cI cJ cZ cV cR a (k_ra C) (k_rb C) (k_vc C) (k_rc C) (k_pc C) (k_nw C) (k_n C) (k_fn C) (k_sn C) (k_kc C) (k_grp C) (k_key C) (k_srt C) (k_wt C) (k_home C) (k_drp C) (k_met C) (k_kin C) (k_alv C) (k_srs C) (k_row C) (k_sp C) (k_kis C) (k_pg C) (k_vq C) (k_rq C) (k_L C) (k_F C)) s.heap := hP
  have hD : va_D A (kX cI cJ cZ cV cR a (k_ra C) (k_rb C) (k_vc C) (k_rc C) (k_pc C) (k_nw C) (k_n C) (k_fn C) (k_sn C) (k_kc C) (k_grp C) (k_key C) (k_srt C) (k_wt C) (k_home C) (k_drp C) (k_met C) (k_kin C) (k_alv C) (k_srs C) (k_row C) (k_sp C) (k_kis C) (k_pg C) (k_vq C) (k_rq C) (k_L C) (k_F C)) := hD
  have hiX2 : ∀ w ∈ wsX20, w ∈ wsX2_append := by decide +kernel
  have hf0 := hts (.fieldLink RX2 9 "GroupCursors$Segments" "alive" "[I") (by decide +kernel)
  have hf1 := hts (.fieldLink RX2 18 "GroupCursors$Segments" "count" "I") (by decide +kernel)
  have hl := lv_entry ([.ref (a 8), .int (nI (x))]) (n := 2) (Nat.le_of_ble_eq_true rfl)
  rw [lg_entry_eq]
  generalize (lg_sl ([.ref (a 8), .int (nI (x))]) ++ List.replicate (2 - (lg_sl ([.ref (a 8), .int (nI (x))])).length) Slot.unset).toArray = ls at hl ⊢
  have hl : lv_has ls 2 [(0, .ref (a 8)), (1, .int (nI (x)))] := hl
  refine lv_aload_n hx hb dX2_append_0 rfl (lv_at hl 0 rfl) ?_
  refine va_get (ci := 2) (v := .ref (a 9)) (C := RX2) (T := TX2) (N := 3) hx hb hts hiX2 hown hK hP 8 rfl rfl 0 (by decide) hf0 (fun _ h9 => h9) rfl dX2_append_1 ?_
  refine lv_aload_n hx hb dX2_append_4 rfl (lv_at hl 0 rfl) ?_
  refine va_get (ci := 2) (v := .int (nI (k_sn C))) (C := RX2) (T := TX2) (N := 3) hx hb hts hiX2 hown hK hP 8 rfl rfl 2 (by decide) hf1 (fun _ h9 => h9) rfl dX2_append_5 ?_
  refine lv_iload_n hx hb dX2_append_8 rfl (lv_at hl 1 rfl) ?_
  refine wa_ist (i := k_sn C) hx hb hK hP hD hS 9 0 rfl rfl (upd_nI (k_alv C) (k_sn C) (x)) (by omega) (by decide) dX2_append_9 (fun H locs hP hD hS => ?_)
  have hP : va_P D vwCl (kX cI cJ cZ cV cR a (k_ra C) (k_rb C) (k_vc C) (k_rc C) (k_pc C) (k_nw C) (k_n C) (k_fn C) (k_sn C) (k_kc C) (k_grp C) (k_key C) (k_srt C) (k_wt C) (k_home C) (k_drp C) (k_met C) (k_kin C) (va_up (k_alv C) (k_sn C) (x)) (k_srs C) (k_row C) (k_sp C) (k_kis C) (k_pg C) (k_vq C) (k_rq C) (k_L C) (k_F C)) H := hP
  have hD : va_D A (kX cI cJ cZ cV cR a (k_ra C) (k_rb C) (k_vc C) (k_rc C) (k_pc C) (k_nw C) (k_n C) (k_fn C) (k_sn C) (k_kc C) (k_grp C) (k_key C) (k_srt C) (k_wt C) (k_home C) (k_drp C) (k_met C) (k_kin C) (va_up (k_alv C) (k_sn C) (x)) (k_srs C) (k_row C) (k_sp C) (k_kis C) (k_pg C) (k_vq C) (k_rq C) (k_L C) (k_F C)) := hD
  refine lv_aload_n hx hb dX2_append_10 rfl (lv_at hl 0 rfl) ?_
  refine lv_dup hx hb dX2_append_11 rfl ?_
  refine va_get (ci := 2) (v := .int (nI (k_sn C))) (C := RX2) (T := TX2) (N := 3) hx hb hts hiX2 hown hK hP 8 rfl rfl 2 (by decide) hf1 (fun _ h9 => h9) rfl dX2_append_12 ?_
  refine lv_iconst (v := nI (1)) hx hb dX2_append_15 (by decide) ?_
  refine lv_iadd hx hb dX2_append_16 (ww_top (y := nI (k_sn C + 1)) (nI_addn _ _) ?_)
  refine va_put (ci := 2) (v := .int (nI (k_sn C + 1))) (ty := .int) (C := RX2) (T := TX2) (N := 3) hx hb hts hiX2 tyX2 tyX2_ok nmX2 hown hK hP hD hS 8 rfl rfl 2 (by decide) hf1 (fun _ h9 => h9) rfl (by decide +kernel) rfl rfl (Nat.le_of_ble_eq_true rfl) dX2_append_17 (fun H locs hP hD hS => ?_)
  have hP : va_P D vwCl (kX cI cJ cZ cV cR a (k_ra C) (k_rb C) (k_vc C) (k_rc C) (k_pc C) (k_nw C) (k_n C) (k_fn C) (k_sn C + 1) (k_kc C) (k_grp C) (k_key C) (k_srt C) (k_wt C) (k_home C) (k_drp C) (k_met C) (k_kin C) (va_up (k_alv C) (k_sn C) (x)) (k_srs C) (k_row C) (k_sp C) (k_kis C) (k_pg C) (k_vq C) (k_rq C) (k_L C) (k_F C)) H := hP
  have hD : va_D A (kX cI cJ cZ cV cR a (k_ra C) (k_rb C) (k_vc C) (k_rc C) (k_pc C) (k_nw C) (k_n C) (k_fn C) (k_sn C + 1) (k_kc C) (k_grp C) (k_key C) (k_srt C) (k_wt C) (k_home C) (k_drp C) (k_met C) (k_kin C) (va_up (k_alv C) (k_sn C) (x)) (k_srs C) (k_row C) (k_sp C) (k_kis C) (k_pg C) (k_vq C) (k_rq C) (k_L C) (k_F C)) := hD
  refine lv_aload_n hx hb dX2_append_20 rfl (lv_at hl 0 rfl) ?_
  refine va_get (ci := 2) (v := .int (nI (k_sn C + 1))) (C := RX2) (T := TX2) (N := 3) hx hb hts hiX2 hown hK hP 8 rfl rfl 2 (by decide) hf1 (fun _ h9 => h9) rfl dX2_append_21 ?_
  refine lv_iconst (v := nI (1)) hx hb dX2_append_24 (by decide) ?_
  refine lv_isub hx hb dX2_append_25 (ww_top (y := nI (k_sn C + 1 - 1)) (pk_sub (by omega)) ?_)
  have hPm : va_P D vwCl (kW cI cJ cZ cV cR a (mkC (k_ra C) (k_rb C) (k_vc C) (k_rc C) (k_pc C) (k_nw C) (k_n C) (k_fn C) (k_sn C + 1) (k_kc C) (k_grp C) (k_key C) (k_srt C) (k_wt C) (k_home C) (k_drp C) (k_met C) (k_kin C) (va_up (k_alv C) (k_sn C) (x)) (k_srs C) (k_row C) (k_sp C) (k_kis C) (k_pg C) (k_vq C) (k_rq C) (k_L C) (k_F C))) H := by rw [← kX_mk]; exact hP
  have hDm : va_D A (kW cI cJ cZ cV cR a (mkC (k_ra C) (k_rb C) (k_vc C) (k_rc C) (k_pc C) (k_nw C) (k_n C) (k_fn C) (k_sn C + 1) (k_kc C) (k_grp C) (k_key C) (k_srt C) (k_wt C) (k_home C) (k_drp C) (k_met C) (k_kin C) (va_up (k_alv C) (k_sn C) (x)) (k_srs C) (k_row C) (k_sp C) (k_kis C) (k_pg C) (k_vq C) (k_rq C) (k_L C) (k_F C))) := by rw [← kX_mk]; exact hD
  exact W.iret (v := nI (k_sn C + 1 - 1)) hx hb hr (fun t ht hW => ⟨⟨_, (mkC (k_ra C) (k_rb C) (k_vc C) (k_rc C) (k_pc C) (k_nw C) (k_n C) (k_fn C) (k_sn C + 1) (k_kc C) (k_grp C) (k_key C) (k_srt C) (k_wt C) (k_home C) (k_drp C) (k_met C) (k_kin C) (va_up (k_alv C) (k_sn C) (x)) (k_srs C) (k_row C) (k_sp C) (k_kis C) (k_pg C) (k_vq C) (k_rq C) (k_L C) (k_F C)), rfl, ⟨by rw [Nat.add_sub_cancel], rfl⟩, gb_mk ht hW hPm hK hDm⟩, hS.F ht⟩) hS.2.2 dX2_append_26
def rm_X2_emptyBelow : Room := { frames := 1, cells := 0, slots := 0, locals := 22 }
set_option maxHeartbeats 4000000 in
set_option maxRecDepth 100000 in
/-- such segments are emptied -/
theorem c_X2_emptyBelow (l : Launch) (D : va_G) (cI cJ cZ cV cR : ClassId) (a : Nat → Nat) (C : CT) (hM : kOk C) (x : Int32) (sz : Nat) : Met l yX2_emptyBelow wsX2_emptyBelow rm_X2_emptyBelow (va_Pc [.ref (a 8), .int (x)] (GW D (tyK cI cJ cZ cV cR) (kW cI cJ cZ cV cR a C) sz)) (va_Qv (fun u => u = ebS C x (k_sn C)) (fun u => GB D (tyK cI cJ cZ cV cR) (va_A (kW cI cJ cZ cV cR a C) sz) (kW cI cJ cZ cV cR a u)) (va_A (kW cI cJ cZ cV cR a C) sz)) 0 0 (va_A (kW cI cJ cZ cV cR a C) sz) := by
  obtain ⟨hn, hfn, hsn, hvc, hrc, hpc, hnw, hkc, h_home, h_kin, h_alv, h_srs, h_row, h_sp, h_kis, h_pg⟩ := id hM
  have hixx := ix_c x
  refine Met.ofW (cc := cX2_emptyBelow) (maxL := 3) (ret := none) (by decide) rfl ?_
  intro p e s m args below meth c s₁ B hml hv
  obtain ⟨rfl, hsz, hP, hK, hD0⟩ := hv
  have hx := B.exec
  have hb := B.bytes
  have hr := B.returns
  have hts := atoms_spec (ws := wsX2_emptyBelow) B.pre
  have hown : s.vm.findClass RX2 = some m.cls := findClass_of_methodNamed B.named
  have hlocks := B.notSynchronized
  subst hsz
  have hD := hD0.self (sz := s.heap.size)
  generalize hAe : va_A (kW cI cJ cZ cV cR a C) s.heap.size = A at hD ⊢
  have hA : ∀ q : Nat, s.heap.size ≤ q → A q := fun q h => by rw [← hAe]; exact Or.inr h
  have hS : va_S A s.heap s.heap [] := va_S.rf
  have hP : va_P D vwCl (kX cI cJ cZ cV cR a (k_ra C) (k_rb C) (k_vc C) (k_rc C) (k_pc C) (k_nw C) (k_n C) (k_fn C) (k_sn C) (k_kc C) (k_grp C) (k_key C) (k_srt C) (k_wt C) (k_home C) (k_drp C) (k_met C) (k_kin C) (k_alv C) (k_srs C) (k_row C) (k_sp C) (k_kis C) (k_pg C) (k_vq C) (k_rq C) (k_L C) (k_F C)) s.heap := hP
  have hD : va_D A (kX cI cJ cZ cV cR a (k_ra C) (k_rb C) (k_vc C) (k_rc C) (k_pc C) (k_nw C) (k_n C) (k_fn C) (k_sn C) (k_kc C) (k_grp C) (k_key C) (k_srt C) (k_wt C) (k_home C) (k_drp C) (k_met C) (k_kin C) (k_alv C) (k_srs C) (k_row C) (k_sp C) (k_kis C) (k_pg C) (k_vq C) (k_rq C) (k_L C) (k_F C)) := hD
  have hiX2 : ∀ w ∈ wsX20, w ∈ wsX2_emptyBelow := by decide +kernel
  have hf0 := hts (.fieldLink RX2 18 "GroupCursors$Segments" "count" "I") (by decide +kernel)
  have hf1 := hts (.fieldLink RX2 9 "GroupCursors$Segments" "alive" "[I") (by decide +kernel)
  have hl := lv_entry ([.ref (a 8), .int (x)]) (n := 3) (Nat.le_of_ble_eq_true rfl)
  rw [lg_entry_eq]
  generalize (lg_sl ([.ref (a 8), .int (x)]) ++ List.replicate (3 - (lg_sl ([.ref (a 8), .int (x)])).length) Slot.unset).toArray = ls at hl ⊢
  have hl : lv_has ls 3 [(0, .ref (a 8)), (1, .int (x))] := hl
  refine lv_iconst (v := nI (0)) hx hb dX2_emptyBelow_0 (by decide) ?_
  refine lv_istore_n (lv' := [(2, .int (nI (0))), (0, .ref (a 8)), (1, .int (x))]) hx hb dX2_emptyBelow_1 rfl hl (by decide) rfl (fun ls hl => ?_)
  have hlp2 : ∀ (d : Nat) (i : Nat) (H : Heap) (locs : List Loc), k_sn C - i < d → (i ≤ k_sn C) → va_P D vwCl (kX cI cJ cZ cV cR a (k_ra C) (k_rb C) (k_vc C) (k_rc C) (k_pc C) (k_nw C) (k_n C) (k_fn C) (k_sn C) (k_kc C) (k_grp C) (k_key C) (k_srt C) (k_wt C) (k_home C) (k_drp C) (k_met C) (k_kin C) (ebA (k_alv C) x i) (k_srs C) (k_row C) (k_sp C) (k_kis C) (k_pg C) (k_vq C) (k_rq C) (k_L C) (k_F C)) H → va_D A (kX cI cJ cZ cV cR a (k_ra C) (k_rb C) (k_vc C) (k_rc C) (k_pc C) (k_nw C) (k_n C) (k_fn C) (k_sn C) (k_kc C) (k_grp C) (k_key C) (k_srt C) (k_wt C) (k_home C) (k_drp C) (k_met C) (k_kin C) (ebA (k_alv C) x i) (k_srs C) (k_row C) (k_sp C) (k_kis C) (k_pg C) (k_vq C) (k_rq C) (k_L C) (k_F C)) → va_S A s.heap H locs → ∀ (ls : Array Slot), lv_has ls 3 [(0, .ref (a 8)), (1, .int (x)), (2, .int (nI (i)))] → W p l e (headSpec wsX2_emptyBelow rm_X2_emptyBelow).room s m ([.ref (a 8), .int (x)] : List Value).toArray below meth c H locs (0) (0) (MQ below (va_Qv (fun u => u = ebS C x (k_sn C)) (fun u => GB D (tyK cI cJ cZ cV cR) A (kW cI cJ cZ cV cR a u)) A) ([.ref (a 8), .int (x)] : List Value).toArray s 0 0 A) (F0 m 2 ls []) := by
    intro d
    induction d with
    | zero => intro i H locs hd2; exact absurd hd2 (Nat.not_lt_zero _)
    | succ d ih2 =>
      intro i H locs hd2 hik hP hD hS ls hl
      have hMi := ok_ebS hM x i
      refine lv_iload_n hx hb dX2_emptyBelow_2 rfl (lv_at hl 2 rfl) ?_
      refine lv_aload_n hx hb dX2_emptyBelow_3 rfl (lv_at hl 0 rfl) ?_
      refine va_get (ci := 2) (v := .int (nI (k_sn C))) (C := RX2) (T := TX2) (N := 3) hx hb hts hiX2 hown hK hP 8 rfl rfl 2 (by decide) hf0 (fun _ h9 => h9) rfl dX2_emptyBelow_4 ?_
      refine wn_icmp_ge (a := i) (b := k_sn C) (tgt := 32) hx hb (nI_z (by omega)) (nI_z (by omega)) dX2_emptyBelow_7 (by decide) (fun c7_1 => ?_) (fun c7_1 => ?_)
      · have hPm : va_P D vwCl (kW cI cJ cZ cV cR a (ebS C x i)) H := by show va_P D vwCl (kW cI cJ cZ cV cR a (mkC (k_ra C) (k_rb C) (k_vc C) (k_rc C) (k_pc C) (k_nw C) (k_n C) (k_fn C) (k_sn C) (k_kc C) (k_grp C) (k_key C) (k_srt C) (k_wt C) (k_home C) (k_drp C) (k_met C) (k_kin C) (ebA (k_alv C) x i) (k_srs C) (k_row C) (k_sp C) (k_kis C) (k_pg C) (k_vq C) (k_rq C) (k_L C) (k_F C))) H; rw [← kX_mk]; exact hP
        have hDm : va_D A (kW cI cJ cZ cV cR a (ebS C x i)) := by show va_D A (kW cI cJ cZ cV cR a (mkC (k_ra C) (k_rb C) (k_vc C) (k_rc C) (k_pc C) (k_nw C) (k_n C) (k_fn C) (k_sn C) (k_kc C) (k_grp C) (k_key C) (k_srt C) (k_wt C) (k_home C) (k_drp C) (k_met C) (k_kin C) (ebA (k_alv C) x i) (k_srs C) (k_row C) (k_sp C) (k_kis C) (k_pg C) (k_vq C) (k_rq C) (k_L C) (k_F C))); rw [← kX_mk]; exact hD
        exact W.vret hx hb hr (fun t ht hW => ⟨⟨(ebS C x i), rfl, (by rw [(show i = k_sn C by omega)]), gb_mk ht hW hPm hK hDm⟩, hS.F ht⟩) hS.2.2 dX2_emptyBelow_32
      · refine lv_aload_n hx hb dX2_emptyBelow_10 rfl (lv_at hl 0 rfl) ?_
        refine lv_iload_n hx hb dX2_emptyBelow_11 rfl (lv_at hl 2 rfl) ?_
        refine lv_iload_n hx hb dX2_emptyBelow_12 rfl (lv_at hl 1 rfl) ?_
        have hPm : va_P D vwCl (kW cI cJ cZ cV cR a (ebS C x i)) H := by show va_P D vwCl (kW cI cJ cZ cV cR a (mkC (k_ra C) (k_rb C) (k_vc C) (k_rc C) (k_pc C) (k_nw C) (k_n C) (k_fn C) (k_sn C) (k_kc C) (k_grp C) (k_key C) (k_srt C) (k_wt C) (k_home C) (k_drp C) (k_met C) (k_kin C) (ebA (k_alv C) x i) (k_srs C) (k_row C) (k_sp C) (k_kis C) (k_pg C) (k_vq C) (k_rq C) (k_L C) (k_F C))) H; rw [← kX_mk]; exact hP
        refine wc_Vi (As := [.int (nI (i)), .int (x)]) (rest := []) ⟨hx, hb, hml, hown, hts⟩ (c_X2_isBelow l D cI cJ cZ cV cR a (ebS C x i) hMi (i) (x) (by omega)) (cwV 2 hts gX2_emptyBelow_X2_isBelow rfl rfl rfl (by decide +kernel) ⟨Nat.le_of_ble_eq_true rfl, Nat.le_of_ble_eq_true rfl⟩) hPm hK 8 rfl rfl rfl hl.1 rfl (Nat.le_of_ble_eq_true rfl) dX2_emptyBelow_13 ⟨Nat.zero_le _, Nat.zero_le _⟩ (fun rr hq2 => ?_)
        have hq2 : rr = bI (beF (ebA (k_alv C) x i) (x) i) := hq2
        subst hq2
        refine wb_if_eq (tgt := 26) hx hb dX2_emptyBelow_16 (by decide) (fun c16_3 => ?_) (fun c16_3 => ?_)
        · refine lv_iinc (v := nI (i + 1)) (lv' := [(2, .int (nI (i + 1))), (0, .ref (a 8)), (1, .int (x))]) hx hb dX2_emptyBelow_26 hl (k := 2) rfl (nI_inc _) (by decide) rfl (fun ls hl => ?_)
          refine lv_goto (tgt := 2) hx hb dX2_emptyBelow_29 (by decide) ?_
          have e1 : ebA (k_alv C) x i = ebA (k_alv C) x (i + 1) := by simp only [ebA]; rw [if_neg (by rw [c16_3]; decide)]
          rw [e1] at hP hD
          exact ih2 (i + 1) _ _ (by omega) (by omega) hP hD hS ls (lv_sub hl [1, 2, 0] rfl)
        · refine lv_aload_n hx hb dX2_emptyBelow_19 rfl (lv_at hl 0 rfl) ?_
          refine va_get (ci := 2) (v := .ref (a 9)) (C := RX2) (T := TX2) (N := 3) hx hb hts hiX2 hown hK hP 8 rfl rfl 0 (by decide) hf1 (fun _ h9 => h9) rfl dX2_emptyBelow_20 ?_
          refine lv_iload_n hx hb dX2_emptyBelow_23 rfl (lv_at hl 2 rfl) ?_
          refine lv_iconst (v := nI (0)) hx hb dX2_emptyBelow_24 (by decide) ?_
          refine wa_ist (i := i) hx hb hK hP hD hS 9 0 rfl rfl (upd_nI (ebA (k_alv C) x i) (i) (0)) (by omega) (by decide) dX2_emptyBelow_25 (fun H locs hP hD hS => ?_)
          have hP : va_P D vwCl (kX cI cJ cZ cV cR a (k_ra C) (k_rb C) (k_vc C) (k_rc C) (k_pc C) (k_nw C) (k_n C) (k_fn C) (k_sn C) (k_kc C) (k_grp C) (k_key C) (k_srt C) (k_wt C) (k_home C) (k_drp C) (k_met C) (k_kin C) (va_up (ebA (k_alv C) x i) (i) (0)) (k_srs C) (k_row C) (k_sp C) (k_kis C) (k_pg C) (k_vq C) (k_rq C) (k_L C) (k_F C)) H := hP
          have hD : va_D A (kX cI cJ cZ cV cR a (k_ra C) (k_rb C) (k_vc C) (k_rc C) (k_pc C) (k_nw C) (k_n C) (k_fn C) (k_sn C) (k_kc C) (k_grp C) (k_key C) (k_srt C) (k_wt C) (k_home C) (k_drp C) (k_met C) (k_kin C) (va_up (ebA (k_alv C) x i) (i) (0)) (k_srs C) (k_row C) (k_sp C) (k_kis C) (k_pg C) (k_vq C) (k_rq C) (k_L C) (k_F C)) := hD
          refine lv_iinc (v := nI (i + 1)) (lv' := [(2, .int (nI (i + 1))), (0, .ref (a 8)), (1, .int (x))]) hx hb dX2_emptyBelow_26 hl (k := 2) rfl (nI_inc _) (by decide) rfl (fun ls hl => ?_)
          refine lv_goto (tgt := 2) hx hb dX2_emptyBelow_29 (by decide) ?_
          have e1 : va_up (ebA (k_alv C) x i) (i) (0) = ebA (k_alv C) x (i + 1) := by simp only [ebA]; rw [if_pos c16_3]
          rw [e1] at hP hD
          exact ih2 (i + 1) _ _ (by omega) (by omega) hP hD hS ls (lv_sub hl [1, 2, 0] rfl)
  exact hlp2 _ (0) _ _ (Nat.lt_succ_self _) (Nat.zero_le _) hP hD hS ls (lv_sub hl [1, 2, 0] rfl)
