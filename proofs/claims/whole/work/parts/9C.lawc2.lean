set_option maxHeartbeats 4000000 in
set_option maxRecDepth 100000 in
theorem lc_size {p : Program} {l : Launch} {e : Env} {s : State} {m : MethodId} {below : List Frame} {meth : Method} {c : Code} {D : va_G} {cI cJ cZ cV cR : ClassId} {b L : Nat} {xs : Nat → Int32} {A : Nat → Prop} {a a' : Nat → Nat} {o cells slots : Nat} {Q : State → Prop} (F : LF p l s m c D cI cJ cZ cV cR b L xs A) (hcl : cells + 3 ≤ room_1.cells) (hsl : slots + 346 ≤ room_1.slots) (i : Nat) (hi : i + 8 ≤ L) (C : CT) (VT : Nat → VRec) (RT : Nat → RRec) (M : MT) (th : Nat) (lds : Nat → Bool) (ov : Nat → Int64) (H : Heap) (locs : List Loc) (hR : Rel cI cZ C VT RT M) (hP : va_P D vwCl ((oW cJ o (ov) ++ kW cI cJ cZ cV cR a (C)) ++ mW cI cJ cZ a' (th) (lds) (M)) H) (hD : va_D A ((oW cJ o (ov) ++ kW cI cJ cZ cV cR a (C)) ++ mW cI cJ cZ a' (th) (lds) (M))) (hS : va_S A s.heap H locs) (ls : Array Slot) (hl : lv_has ls 8 [(0, .ref b), (1, .ref (a 0)), (2, .ref (a' 0)), (3, .ref o), (4, .int (nI (i)))]) (kk : ∀ (C : CT) (VT : Nat → VRec) (RT : Nat → RRec) (M : MT) (th : Nat) (lds : Nat → Bool) (ov : Nat → Int64) (H : Heap) (locs : List Loc), Rel cI cZ C VT RT M → va_P D vwCl ((oW cJ o (ov) ++ kW cI cJ cZ cV cR a (C)) ++ mW cI cJ cZ a' (th) (lds) (M)) H → va_D A ((oW cJ o (ov) ++ kW cI cJ cZ cV cR a (C)) ++ mW cI cJ cZ a' (th) (lds) (M)) → va_S A s.heap H locs → ∀ ls : Array Slot, lv_has ls 8 [(0, .ref b), (1, .ref (a 0)), (2, .ref (a' 0)), (3, .ref o), (4, .int (nI (i)))] → W p l e room_1 s m #[Value.ref b] below meth c H locs (cells + 3) (slots + 346) Q (F0 m 2089 ls [])) : W p l e room_1 s m #[Value.ref b] below meth c H locs (cells) (slots) Q (F0 m 664 ls []) := by
  obtain ⟨htr, hx, hb, hml, hown, hts, hX, hbl, hbA, hL, hA, hK, hYE, hc92⟩ := F
  have hKW : va_K D vwCl (tyW cI cJ cZ) s := hK.sub (tys' := tyW cI cJ cZ) [0, 1, 2] rfl
  refine lv_aload_n hx hb dL_law_664 rfl (lv_at hl 1 rfl) ?_
  refine lv_aload_n hx hb dL_law_665 rfl (lv_at hl 0 rfl) ?_
  refine lv_iload hx hb dL_law_666 (lv_at hl 4 rfl) ?_
  refine lv_iconst (v := nI (1)) hx hb dL_law_668 (by decide) ?_
  refine lv_iadd hx hb dL_law_669 (ww_top (y := nI (i + 1)) (nI_addn _ _) ?_)
  refine ws_sld (i := i + 1) hx hb hX hbl hbA hS (by omega) hL dL_law_670 ?_
  refine lv_aload_n hx hb dL_law_671 rfl (lv_at hl 3 rfl) ?_
  have hP := fr_comm hP
  have hD := fd_comm hD
  refine wf_SWi (rest := []) (X := mW cI cJ cZ a' (th) (lds) (M)) (wf := fun u : (Nat → Int64) × CT => oW cJ o u.1 ++ kW cI cJ cZ cV cR a u.2) ⟨hx, hb, hml, hown, hts⟩ (w_L_size l htr D cI cJ cZ cV cR a C VT RT hR.ci o ov (xs (i + 1)) H.size) (vx_cwSW 3 hts gL_law_L_size rfl rfl rfl (by decide +kernel) ⟨Nat.le_of_ble_eq_true rfl, Nat.le_of_ble_eq_true rfl⟩) hP hK hD hS hA hYE rfl hl.1 rfl (Nat.le_of_ble_eq_true rfl) dL_law_672 ⟨by omega, by omega⟩ (fun rr u hu H locs hP hD hS => ?_)
  obtain ⟨hrr, hout, VT1, RT1, hR1⟩ := J_size hR hu
  subst hrr
  have hP : va_P D vwCl ((oW cJ o (u.1) ++ kW cI cJ cZ cV cR a (u.2)) ++ mW cI cJ cZ a' (th) (lds) (M)) H := fr_comm hP
  have hD : va_D A ((oW cJ o (u.1) ++ kW cI cJ cZ cV cR a (u.2)) ++ mW cI cJ cZ a' (th) (lds) (M)) := fd_comm hD
  refine lv_istore (lv' := [(5, .int (nI (vT M (xs (i + 1))))), (0, .ref (b)), (1, .ref (a 0)), (2, .ref (a' 0)), (3, .ref (o)), (4, .int (nI (i)))]) hx hb dL_law_675 hl (by decide) rfl (fun ls hl => ?_)
  refine lv_aload_n hx hb dL_law_677 rfl (lv_at hl 3 rfl) ?_
  refine lv_aload_n hx hb dL_law_678 rfl (lv_at hl 1 rfl) ?_
  refine lv_iload hx hb dL_law_679 (lv_at hl 5 rfl) ?_
  refine lv_iconst (v := nI (1)) hx hb dL_law_681 (by decide) ?_
  refine lv_iadd hx hb dL_law_682 (ww_top (y := nI (i + 1)) (nI_addn _ _) ?_)
  refine ws_sld (i := i + 1) hx hb hX hbl hbA hS (by omega) hL dL_law_683 ?_
  refine wf_VWi (rest := []) (X := oW cJ o (u.1) ++ kW cI cJ cZ cV cR a (u.2)) (wf := mWu cI cJ cZ a') ⟨hx, hb, hml, hown, hts⟩ (c_X6_size l D cI cJ cZ a' (th) (lds) (M) hR.2.1 (xs (i + 1))  H.size) (cwV 1 hts gL_law_X6_size rfl rfl rfl (by decide +kernel) ⟨Nat.le_of_ble_eq_true rfl, Nat.le_of_ble_eq_true rfl⟩) hP hKW hD hS hA 0 rfl rfl rfl hl.1 rfl (Nat.le_of_ble_eq_true rfl) dL_law_684 ⟨by omega, by omega⟩ (fun rr2 u2 hu2 H locs hP hD hS => ?_)
  obtain ⟨hr2, hth, hM1⟩ := hu2
  have hP : va_P D vwCl ((oW cJ o (u.1) ++ kW cI cJ cZ cV cR a (u.2)) ++ mW cI cJ cZ a' (u2.1) (u2.2.1) (u2.2.2)) H := hP
  have hD : va_D A ((oW cJ o (u.1) ++ kW cI cJ cZ cV cR a (u.2)) ++ mW cI cJ cZ a' (u2.1) (u2.2.1) (u2.2.2)) := hD
  rw [hth, hM1] at hP hD
  subst hr2
  refine lv_istore (lv' := [(6, .int (sizeR M (xs (i + 1)))), (5, .int (nI (vT M (xs (i + 1))))), (0, .ref (b)), (1, .ref (a 0)), (2, .ref (a' 0)), (3, .ref (o)), (4, .int (nI (i)))]) hx hb dL_law_687 hl (by decide) rfl (fun ls hl => ?_)
  refine lv_aload_n hx hb dL_law_689 rfl (lv_at hl 4 rfl) ?_
  refine wc_Vi (As := []) (rest := []) ⟨hx, hb, hml, hown, hts⟩ (c_X6_thrown l D cI cJ cZ a' (vT M (xs (i + 1))) (u2.2.1) (M) hR1.2.1) (cwV 0 hts gL_law_X6_thrown rfl rfl rfl (by decide +kernel) ⟨Nat.le_of_ble_eq_true rfl, Nat.le_of_ble_eq_true rfl⟩) (fr_r hP) hKW 0 rfl rfl rfl hl.1 rfl (Nat.le_of_ble_eq_true rfl) dL_law_690 ⟨by omega, by omega⟩ (fun rr9 hr9 => ?_)
  subst hr9
  refine lv_iload hx hb dL_law_693 (lv_at hl 1 rfl) ?_
  refine lv_icmp_eq (tgt := 700) hx hb dL_law_695 (by decide) (fun c9 => ?_) (fun c9 => absurd rfl c9)
  refine lv_iload hx hb dL_law_700 (lv_at hl 1 rfl) ?_
  refine wn_if_ne (a := vT M (xs (i + 1))) (tgt := 717) hx hb (nI_z (Nat.lt_trans (tb_vT _ _) (by decide))) dL_law_702 (by decide) (fun c0 => ?_) (fun c0 => ?_)
  · refine lv_goto (tgt := 2089) hx hb dL_law_717 (by decide) ?_
    refine W.widen (k := cells + 3) (n := slots + 346) (by omega) (by omega) ?_
    exact kk _ _ _ _ _ _ _ _ _ hR1 hP hD hS ls (lv_sub hl [2, 3, 4, 5, 6] rfl)
  · refine lv_aload_n hx hb dL_law_705 rfl (lv_at hl 5 rfl) ?_
    refine lv_iconst (v := nI (0)) hx hb dL_law_706 (by decide) ?_
    refine wa_l (i := 0) (v := u.1 0) hx hb hK hP 0 1 rfl rfl rfl (by decide) (by decide) dL_law_707 ?_
    refine lv_iload hx hb dL_law_708 (lv_at hl 0 rfl) ?_
    refine lv_i2l (v := (sizeR M (xs (i + 1))).toInt64) hx hb dL_law_710 rfl ?_
    refine wl_eq (tgt := 717) hx hb dL_law_711 dL_law_712 (by decide) (fun c8 => ?_) (fun c8 => absurd (hout c0) c8)
    refine lv_goto (tgt := 2089) hx hb dL_law_717 (by decide) ?_
    refine W.widen (k := cells + 3) (n := slots + 346) (by omega) (by omega) ?_
    exact kk _ _ _ _ _ _ _ _ _ hR1 hP hD hS ls (lv_sub hl [2, 3, 4, 5, 6] rfl)
set_option maxHeartbeats 4000000 in
set_option maxRecDepth 100000 in
theorem lc_hit {p : Program} {l : Launch} {e : Env} {s : State} {m : MethodId} {below : List Frame} {meth : Method} {c : Code} {D : va_G} {cI cJ cZ cV cR : ClassId} {b L : Nat} {xs : Nat → Int32} {A : Nat → Prop} {a a' : Nat → Nat} {o cells slots : Nat} {Q : State → Prop} (F : LF p l s m c D cI cJ cZ cV cR b L xs A) (hcl : cells + 3 ≤ room_1.cells) (hsl : slots + 346 ≤ room_1.slots) (i : Nat) (hi : i + 8 ≤ L) (C : CT) (VT : Nat → VRec) (RT : Nat → RRec) (M : MT) (th : Nat) (lds : Nat → Bool) (ov : Nat → Int64) (H : Heap) (locs : List Loc) (hR : Rel cI cZ C VT RT M) (hP : va_P D vwCl ((oW cJ o (ov) ++ kW cI cJ cZ cV cR a (C)) ++ mW cI cJ cZ a' (th) (lds) (M)) H) (hD : va_D A ((oW cJ o (ov) ++ kW cI cJ cZ cV cR a (C)) ++ mW cI cJ cZ a' (th) (lds) (M))) (hS : va_S A s.heap H locs) (ls : Array Slot) (hl : lv_has ls 8 [(0, .ref b), (1, .ref (a 0)), (2, .ref (a' 0)), (3, .ref o), (4, .int (nI (i)))]) (kk : ∀ (C : CT) (VT : Nat → VRec) (RT : Nat → RRec) (M : MT) (th : Nat) (lds : Nat → Bool) (ov : Nat → Int64) (H : Heap) (locs : List Loc), Rel cI cZ C VT RT M → va_P D vwCl ((oW cJ o (ov) ++ kW cI cJ cZ cV cR a (C)) ++ mW cI cJ cZ a' (th) (lds) (M)) H → va_D A ((oW cJ o (ov) ++ kW cI cJ cZ cV cR a (C)) ++ mW cI cJ cZ a' (th) (lds) (M)) → va_S A s.heap H locs → ∀ ls : Array Slot, lv_has ls 8 [(0, .ref b), (1, .ref (a 0)), (2, .ref (a' 0)), (3, .ref o), (4, .int (nI (i)))] → W p l e room_1 s m #[Value.ref b] below meth c H locs (cells + 3) (slots + 346) Q (F0 m 2089 ls [])) : W p l e room_1 s m #[Value.ref b] below meth c H locs (cells) (slots) Q (F0 m 720 ls []) := by
  obtain ⟨htr, hx, hb, hml, hown, hts, hX, hbl, hbA, hL, hA, hK, hYE, hc92⟩ := F
  have hKW : va_K D vwCl (tyW cI cJ cZ) s := hK.sub (tys' := tyW cI cJ cZ) [0, 1, 2] rfl
  refine lv_aload_n hx hb dL_law_720 rfl (lv_at hl 1 rfl) ?_
  refine lv_aload_n hx hb dL_law_721 rfl (lv_at hl 0 rfl) ?_
  refine lv_iload hx hb dL_law_722 (lv_at hl 4 rfl) ?_
  refine lv_iconst (v := nI (1)) hx hb dL_law_724 (by decide) ?_
  refine lv_iadd hx hb dL_law_725 (ww_top (y := nI (i + 1)) (nI_addn _ _) ?_)
  refine ws_sld (i := i + 1) hx hb hX hbl hbA hS (by omega) hL dL_law_726 ?_
  refine lv_aload_n hx hb dL_law_727 rfl (lv_at hl 0 rfl) ?_
  refine lv_iload hx hb dL_law_728 (lv_at hl 4 rfl) ?_
  refine lv_iconst (v := nI (2)) hx hb dL_law_730 (by decide) ?_
  refine lv_iadd hx hb dL_law_731 (ww_top (y := nI (i + 2)) (nI_addn _ _) ?_)
  refine ws_sld (i := i + 2) hx hb hX hbl hbA hS (by omega) hL dL_law_732 ?_
  refine lv_aload_n hx hb dL_law_733 rfl (lv_at hl 0 rfl) ?_
  refine lv_iload hx hb dL_law_734 (lv_at hl 4 rfl) ?_
  refine lv_iconst (v := nI (3)) hx hb dL_law_736 (by decide) ?_
  refine lv_iadd hx hb dL_law_737 (ww_top (y := nI (i + 3)) (nI_addn _ _) ?_)
  refine ws_sld (i := i + 3) hx hb hX hbl hbA hS (by omega) hL dL_law_738 ?_
  refine lv_i2l (v := (xs (i + 3)).toInt64) hx hb dL_law_739 rfl ?_
  refine lv_bipush (v := nI (32)) hx hb dL_law_740 (by decide) ?_
  refine lv_lshl (v := ((xs (i + 3)).toInt64 <<< ((nI (32)).toInt64 &&& 63))) hx hb dL_law_742 rfl ?_
  refine lv_aload_n hx hb dL_law_743 rfl (lv_at hl 0 rfl) ?_
  refine lv_iload hx hb dL_law_744 (lv_at hl 4 rfl) ?_
  refine lv_iconst (v := nI (4)) hx hb dL_law_746 (by decide) ?_
  refine lv_iadd hx hb dL_law_747 (ww_top (y := nI (i + 4)) (nI_addn _ _) ?_)
  refine ws_sld (i := i + 4) hx hb hX hbl hbA hS (by omega) hL dL_law_748 ?_
  refine lv_i2l (v := (xs (i + 4)).toInt64) hx hb dL_law_749 rfl ?_
  refine lv_ldc2 (v := 4294967295) hx hb hown hc92 dL_law_750 ?_
  refine lv_land hx hb dL_law_753 ?_
  refine lv_lor hx hb dL_law_754 (ww_topl (y := lgJ (xs (i + 3)) (xs (i + 4))) rfl ?_)
  refine lv_aload_n hx hb dL_law_755 rfl (lv_at hl 0 rfl) ?_
  refine lv_iload hx hb dL_law_756 (lv_at hl 4 rfl) ?_
  refine lv_iconst (v := nI (5)) hx hb dL_law_758 (by decide) ?_
  refine lv_iadd hx hb dL_law_759 (ww_top (y := nI (i + 5)) (nI_addn _ _) ?_)
  refine ws_sld (i := i + 5) hx hb hX hbl hbA hS (by omega) hL dL_law_760 ?_
  refine lv_aload_n hx hb dL_law_761 rfl (lv_at hl 3 rfl) ?_
  have hP := fr_comm hP
  have hD := fd_comm hD
  refine wf_SWi (rest := []) (X := mW cI cJ cZ a' (th) (lds) (M)) (wf := fun u : (Nat → Int64) × CT => oW cJ o u.1 ++ kW cI cJ cZ cV cR a u.2) ⟨hx, hb, hml, hown, hts⟩ (w_L_hit l htr D cI cJ cZ cV cR a C VT RT hR.ci o ov (xs (i + 1)) (xs (i + 2)) (lgJ (xs (i + 3)) (xs (i + 4))) (xs (i + 5)) H.size) (vx_cwSW 6 hts gL_law_L_hit rfl rfl rfl (by decide +kernel) ⟨Nat.le_of_ble_eq_true rfl, Nat.le_of_ble_eq_true rfl⟩) hP hK hD hS hA hYE rfl hl.1 rfl (Nat.le_of_ble_eq_true rfl) dL_law_762 ⟨by omega, by omega⟩ (fun rr u hu H locs hP hD hS => ?_)
  obtain ⟨hrr, hout, VT1, RT1, hR1⟩ := J_hit hR hu
  subst hrr
  have hP : va_P D vwCl ((oW cJ o (u.1) ++ kW cI cJ cZ cV cR a (u.2)) ++ mW cI cJ cZ a' (th) (lds) (M)) H := fr_comm hP
  have hD : va_D A ((oW cJ o (u.1) ++ kW cI cJ cZ cV cR a (u.2)) ++ mW cI cJ cZ a' (th) (lds) (M)) := fd_comm hD
  refine lv_istore (lv' := [(5, .int (nI (hitT M (xs (i + 1)) (xs (i + 2)) (xs (i + 5))))), (0, .ref (b)), (1, .ref (a 0)), (2, .ref (a' 0)), (3, .ref (o)), (4, .int (nI (i)))]) hx hb dL_law_765 hl (by decide) rfl (fun ls hl => ?_)
  refine lv_aload_n hx hb dL_law_767 rfl (lv_at hl 3 rfl) ?_
  refine lv_aload_n hx hb dL_law_768 rfl (lv_at hl 1 rfl) ?_
  refine lv_iload hx hb dL_law_769 (lv_at hl 5 rfl) ?_
  refine lv_iconst (v := nI (1)) hx hb dL_law_771 (by decide) ?_
  refine lv_iadd hx hb dL_law_772 (ww_top (y := nI (i + 1)) (nI_addn _ _) ?_)
  refine ws_sld (i := i + 1) hx hb hX hbl hbA hS (by omega) hL dL_law_773 ?_
  refine lv_aload_n hx hb dL_law_774 rfl (lv_at hl 1 rfl) ?_
  refine lv_iload hx hb dL_law_775 (lv_at hl 5 rfl) ?_
  refine lv_iconst (v := nI (2)) hx hb dL_law_777 (by decide) ?_
  refine lv_iadd hx hb dL_law_778 (ww_top (y := nI (i + 2)) (nI_addn _ _) ?_)
  refine ws_sld (i := i + 2) hx hb hX hbl hbA hS (by omega) hL dL_law_779 ?_
  refine lv_aload_n hx hb dL_law_780 rfl (lv_at hl 1 rfl) ?_
  refine lv_iload hx hb dL_law_781 (lv_at hl 5 rfl) ?_
  refine lv_iconst (v := nI (3)) hx hb dL_law_783 (by decide) ?_
  refine lv_iadd hx hb dL_law_784 (ww_top (y := nI (i + 3)) (nI_addn _ _) ?_)
  refine ws_sld (i := i + 3) hx hb hX hbl hbA hS (by omega) hL dL_law_785 ?_
  refine lv_i2l (v := (xs (i + 3)).toInt64) hx hb dL_law_786 rfl ?_
  refine lv_bipush (v := nI (32)) hx hb dL_law_787 (by decide) ?_
  refine lv_lshl (v := ((xs (i + 3)).toInt64 <<< ((nI (32)).toInt64 &&& 63))) hx hb dL_law_789 rfl ?_
  refine lv_aload_n hx hb dL_law_790 rfl (lv_at hl 1 rfl) ?_
  refine lv_iload hx hb dL_law_791 (lv_at hl 5 rfl) ?_
  refine lv_iconst (v := nI (4)) hx hb dL_law_793 (by decide) ?_
  refine lv_iadd hx hb dL_law_794 (ww_top (y := nI (i + 4)) (nI_addn _ _) ?_)
  refine ws_sld (i := i + 4) hx hb hX hbl hbA hS (by omega) hL dL_law_795 ?_
  refine lv_i2l (v := (xs (i + 4)).toInt64) hx hb dL_law_796 rfl ?_
  refine lv_ldc2 (v := 4294967295) hx hb hown hc92 dL_law_797 ?_
  refine lv_land hx hb dL_law_800 ?_
  refine lv_lor hx hb dL_law_801 (ww_topl (y := lgJ (xs (i + 3)) (xs (i + 4))) rfl ?_)
  refine lv_aload_n hx hb dL_law_802 rfl (lv_at hl 1 rfl) ?_
  refine lv_iload hx hb dL_law_803 (lv_at hl 5 rfl) ?_
  refine lv_iconst (v := nI (5)) hx hb dL_law_805 (by decide) ?_
  refine lv_iadd hx hb dL_law_806 (ww_top (y := nI (i + 5)) (nI_addn _ _) ?_)
  refine ws_sld (i := i + 5) hx hb hX hbl hbA hS (by omega) hL dL_law_807 ?_
  refine wf_VWi (rest := []) (X := oW cJ o (u.1) ++ kW cI cJ cZ cV cR a (u.2)) (wf := mWu cI cJ cZ a') ⟨hx, hb, hml, hown, hts⟩ (c_X6_hit l D cI cJ cZ a' (th) (lds) (M) hR.2.1 (xs (i + 1)) (xs (i + 2)) (lgJ (xs (i + 3)) (xs (i + 4))) (xs (i + 5)) (fun hT => P_hit hR hT) H.size) (cwV 4 hts gL_law_X6_hit rfl rfl rfl (by decide +kernel) ⟨Nat.le_of_ble_eq_true rfl, Nat.le_of_ble_eq_true rfl⟩) hP hKW hD hS hA 0 rfl rfl rfl hl.1 rfl (Nat.le_of_ble_eq_true rfl) dL_law_808 ⟨by omega, by omega⟩ (fun rr2 u2 hu2 H locs hP hD hS => ?_)
  obtain ⟨hr2, hth, hM1⟩ := hu2
  have hP : va_P D vwCl ((oW cJ o (u.1) ++ kW cI cJ cZ cV cR a (u.2)) ++ mW cI cJ cZ a' (u2.1) (u2.2.1) (u2.2.2)) H := hP
  have hD : va_D A ((oW cJ o (u.1) ++ kW cI cJ cZ cV cR a (u.2)) ++ mW cI cJ cZ a' (u2.1) (u2.2.1) (u2.2.2)) := hD
  rw [hth, hM1] at hP hD
  subst hr2
  refine lv_istore (lv' := [(6, .int (hitR M (xs (i + 1)) (xs (i + 2)) (lgJ (xs (i + 3)) (xs (i + 4))) (xs (i + 5)))), (5, .int (nI (hitT M (xs (i + 1)) (xs (i + 2)) (xs (i + 5))))), (0, .ref (b)), (1, .ref (a 0)), (2, .ref (a' 0)), (3, .ref (o)), (4, .int (nI (i)))]) hx hb dL_law_811 hl (by decide) rfl (fun ls hl => ?_)
  refine lv_aload_n hx hb dL_law_813 rfl (lv_at hl 4 rfl) ?_
  refine wc_Vi (As := []) (rest := []) ⟨hx, hb, hml, hown, hts⟩ (c_X6_thrown l D cI cJ cZ a' (hitT M (xs (i + 1)) (xs (i + 2)) (xs (i + 5))) (u2.2.1) (M) hR1.2.1) (cwV 0 hts gL_law_X6_thrown rfl rfl rfl (by decide +kernel) ⟨Nat.le_of_ble_eq_true rfl, Nat.le_of_ble_eq_true rfl⟩) (fr_r hP) hKW 0 rfl rfl rfl hl.1 rfl (Nat.le_of_ble_eq_true rfl) dL_law_814 ⟨by omega, by omega⟩ (fun rr9 hr9 => ?_)
  subst hr9
  refine lv_iload hx hb dL_law_817 (lv_at hl 1 rfl) ?_
  refine lv_icmp_eq (tgt := 824) hx hb dL_law_819 (by decide) (fun c9 => ?_) (fun c9 => absurd rfl c9)
  refine lv_iload hx hb dL_law_824 (lv_at hl 1 rfl) ?_
  refine wn_if_ne (a := hitT M (xs (i + 1)) (xs (i + 2)) (xs (i + 5))) (tgt := 841) hx hb (nI_z (Nat.lt_trans (tb_hitT _ _ _ _) (by decide))) dL_law_826 (by decide) (fun c0 => ?_) (fun c0 => ?_)
  · refine lv_goto (tgt := 2089) hx hb dL_law_841 (by decide) ?_
    refine W.widen (k := cells + 3) (n := slots + 346) (by omega) (by omega) ?_
    exact kk _ _ _ _ _ _ _ _ _ hR1 hP hD hS ls (lv_sub hl [2, 3, 4, 5, 6] rfl)
  · refine lv_aload_n hx hb dL_law_829 rfl (lv_at hl 5 rfl) ?_
    refine lv_iconst (v := nI (0)) hx hb dL_law_830 (by decide) ?_
    refine wa_l (i := 0) (v := u.1 0) hx hb hK hP 0 1 rfl rfl rfl (by decide) (by decide) dL_law_831 ?_
    refine lv_iload hx hb dL_law_832 (lv_at hl 0 rfl) ?_
    refine lv_i2l (v := (hitR M (xs (i + 1)) (xs (i + 2)) (lgJ (xs (i + 3)) (xs (i + 4))) (xs (i + 5))).toInt64) hx hb dL_law_834 rfl ?_
    refine wl_eq (tgt := 841) hx hb dL_law_835 dL_law_836 (by decide) (fun c8 => ?_) (fun c8 => absurd (hout c0) c8)
    refine lv_goto (tgt := 2089) hx hb dL_law_841 (by decide) ?_
    refine W.widen (k := cells + 3) (n := slots + 346) (by omega) (by omega) ?_
    exact kk _ _ _ _ _ _ _ _ _ hR1 hP hD hS ls (lv_sub hl [2, 3, 4, 5, 6] rfl)
set_option maxHeartbeats 4000000 in
set_option maxRecDepth 100000 in
theorem lc_place {p : Program} {l : Launch} {e : Env} {s : State} {m : MethodId} {below : List Frame} {meth : Method} {c : Code} {D : va_G} {cI cJ cZ cV cR : ClassId} {b L : Nat} {xs : Nat → Int32} {A : Nat → Prop} {a a' : Nat → Nat} {o cells slots : Nat} {Q : State → Prop} (F : LF p l s m c D cI cJ cZ cV cR b L xs A) (hcl : cells + 3 ≤ room_1.cells) (hsl : slots + 346 ≤ room_1.slots) (i : Nat) (hi : i + 8 ≤ L) (C : CT) (VT : Nat → VRec) (RT : Nat → RRec) (M : MT) (th : Nat) (lds : Nat → Bool) (ov : Nat → Int64) (H : Heap) (locs : List Loc) (hR : Rel cI cZ C VT RT M) (hP : va_P D vwCl ((oW cJ o (ov) ++ kW cI cJ cZ cV cR a (C)) ++ mW cI cJ cZ a' (th) (lds) (M)) H) (hD : va_D A ((oW cJ o (ov) ++ kW cI cJ cZ cV cR a (C)) ++ mW cI cJ cZ a' (th) (lds) (M))) (hS : va_S A s.heap H locs) (ls : Array Slot) (hl : lv_has ls 8 [(0, .ref b), (1, .ref (a 0)), (2, .ref (a' 0)), (3, .ref o), (4, .int (nI (i)))]) (kk : ∀ (C : CT) (VT : Nat → VRec) (RT : Nat → RRec) (M : MT) (th : Nat) (lds : Nat → Bool) (ov : Nat → Int64) (H : Heap) (locs : List Loc), Rel cI cZ C VT RT M → va_P D vwCl ((oW cJ o (ov) ++ kW cI cJ cZ cV cR a (C)) ++ mW cI cJ cZ a' (th) (lds) (M)) H → va_D A ((oW cJ o (ov) ++ kW cI cJ cZ cV cR a (C)) ++ mW cI cJ cZ a' (th) (lds) (M)) → va_S A s.heap H locs → ∀ ls : Array Slot, lv_has ls 8 [(0, .ref b), (1, .ref (a 0)), (2, .ref (a' 0)), (3, .ref o), (4, .int (nI (i)))] → W p l e room_1 s m #[Value.ref b] below meth c H locs (cells + 3) (slots + 346) Q (F0 m 2089 ls [])) : W p l e room_1 s m #[Value.ref b] below meth c H locs (cells) (slots) Q (F0 m 844 ls []) := by
  obtain ⟨htr, hx, hb, hml, hown, hts, hX, hbl, hbA, hL, hA, hK, hYE, hc92⟩ := F
  have hKW : va_K D vwCl (tyW cI cJ cZ) s := hK.sub (tys' := tyW cI cJ cZ) [0, 1, 2] rfl
  refine lv_aload_n hx hb dL_law_844 rfl (lv_at hl 1 rfl) ?_
  refine lv_aload_n hx hb dL_law_845 rfl (lv_at hl 0 rfl) ?_
  refine lv_iload hx hb dL_law_846 (lv_at hl 4 rfl) ?_
  refine lv_iconst (v := nI (1)) hx hb dL_law_848 (by decide) ?_
  refine lv_iadd hx hb dL_law_849 (ww_top (y := nI (i + 1)) (nI_addn _ _) ?_)
  refine ws_sld (i := i + 1) hx hb hX hbl hbA hS (by omega) hL dL_law_850 ?_
  refine lv_aload_n hx hb dL_law_851 rfl (lv_at hl 0 rfl) ?_
  refine lv_iload hx hb dL_law_852 (lv_at hl 4 rfl) ?_
  refine lv_iconst (v := nI (2)) hx hb dL_law_854 (by decide) ?_
  refine lv_iadd hx hb dL_law_855 (ww_top (y := nI (i + 2)) (nI_addn _ _) ?_)
  refine ws_sld (i := i + 2) hx hb hX hbl hbA hS (by omega) hL dL_law_856 ?_
  refine lv_aload_n hx hb dL_law_857 rfl (lv_at hl 0 rfl) ?_
  refine lv_iload hx hb dL_law_858 (lv_at hl 4 rfl) ?_
  refine lv_iconst (v := nI (3)) hx hb dL_law_860 (by decide) ?_
  refine lv_iadd hx hb dL_law_861 (ww_top (y := nI (i + 3)) (nI_addn _ _) ?_)
  refine ws_sld (i := i + 3) hx hb hX hbl hbA hS (by omega) hL dL_law_862 ?_
  refine lv_i2l (v := (xs (i + 3)).toInt64) hx hb dL_law_863 rfl ?_
  refine lv_bipush (v := nI (32)) hx hb dL_law_864 (by decide) ?_
  refine lv_lshl (v := ((xs (i + 3)).toInt64 <<< ((nI (32)).toInt64 &&& 63))) hx hb dL_law_866 rfl ?_
  refine lv_aload_n hx hb dL_law_867 rfl (lv_at hl 0 rfl) ?_
  refine lv_iload hx hb dL_law_868 (lv_at hl 4 rfl) ?_
  refine lv_iconst (v := nI (4)) hx hb dL_law_870 (by decide) ?_
  refine lv_iadd hx hb dL_law_871 (ww_top (y := nI (i + 4)) (nI_addn _ _) ?_)
  refine ws_sld (i := i + 4) hx hb hX hbl hbA hS (by omega) hL dL_law_872 ?_
  refine lv_i2l (v := (xs (i + 4)).toInt64) hx hb dL_law_873 rfl ?_
  refine lv_ldc2 (v := 4294967295) hx hb hown hc92 dL_law_874 ?_
  refine lv_land hx hb dL_law_877 ?_
  refine lv_lor hx hb dL_law_878 (ww_topl (y := lgJ (xs (i + 3)) (xs (i + 4))) rfl ?_)
  refine lv_aload_n hx hb dL_law_879 rfl (lv_at hl 0 rfl) ?_
  refine lv_iload hx hb dL_law_880 (lv_at hl 4 rfl) ?_
  refine lv_iconst (v := nI (5)) hx hb dL_law_882 (by decide) ?_
  refine lv_iadd hx hb dL_law_883 (ww_top (y := nI (i + 5)) (nI_addn _ _) ?_)
  refine ws_sld (i := i + 5) hx hb hX hbl hbA hS (by omega) hL dL_law_884 ?_
  refine lv_aload_n hx hb dL_law_885 rfl (lv_at hl 3 rfl) ?_
  have hP := fr_comm hP
  have hD := fd_comm hD
  refine wf_SWi (rest := []) (X := mW cI cJ cZ a' (th) (lds) (M)) (wf := fun u : (Nat → Int64) × CT => oW cJ o u.1 ++ kW cI cJ cZ cV cR a u.2) ⟨hx, hb, hml, hown, hts⟩ (w_L_place l htr D cI cJ cZ cV cR a C VT RT hR.ci o ov (xs (i + 1)) (xs (i + 2)) (lgJ (xs (i + 3)) (xs (i + 4))) (xs (i + 5)) H.size) (vx_cwSW 6 hts gL_law_L_place rfl rfl rfl (by decide +kernel) ⟨Nat.le_of_ble_eq_true rfl, Nat.le_of_ble_eq_true rfl⟩) hP hK hD hS hA hYE rfl hl.1 rfl (Nat.le_of_ble_eq_true rfl) dL_law_886 ⟨by omega, by omega⟩ (fun rr u hu H locs hP hD hS => ?_)
  obtain ⟨hrr, hout, VT1, RT1, hR1⟩ := J_place hR hu
  subst hrr
  have hP : va_P D vwCl ((oW cJ o (u.1) ++ kW cI cJ cZ cV cR a (u.2)) ++ mW cI cJ cZ a' (th) (lds) (M)) H := fr_comm hP
  have hD : va_D A ((oW cJ o (u.1) ++ kW cI cJ cZ cV cR a (u.2)) ++ mW cI cJ cZ a' (th) (lds) (M)) := fd_comm hD
  refine lv_istore (lv' := [(5, .int (nI (placeT M (xs (i + 1)) (xs (i + 2)) (xs (i + 5))))), (0, .ref (b)), (1, .ref (a 0)), (2, .ref (a' 0)), (3, .ref (o)), (4, .int (nI (i)))]) hx hb dL_law_889 hl (by decide) rfl (fun ls hl => ?_)
  refine lv_aload_n hx hb dL_law_891 rfl (lv_at hl 3 rfl) ?_
  refine lv_aload_n hx hb dL_law_892 rfl (lv_at hl 1 rfl) ?_
  refine lv_iload hx hb dL_law_893 (lv_at hl 5 rfl) ?_
  refine lv_iconst (v := nI (1)) hx hb dL_law_895 (by decide) ?_
  refine lv_iadd hx hb dL_law_896 (ww_top (y := nI (i + 1)) (nI_addn _ _) ?_)
  refine ws_sld (i := i + 1) hx hb hX hbl hbA hS (by omega) hL dL_law_897 ?_
  refine lv_aload_n hx hb dL_law_898 rfl (lv_at hl 1 rfl) ?_
  refine lv_iload hx hb dL_law_899 (lv_at hl 5 rfl) ?_
  refine lv_iconst (v := nI (2)) hx hb dL_law_901 (by decide) ?_
  refine lv_iadd hx hb dL_law_902 (ww_top (y := nI (i + 2)) (nI_addn _ _) ?_)
  refine ws_sld (i := i + 2) hx hb hX hbl hbA hS (by omega) hL dL_law_903 ?_
  refine lv_aload_n hx hb dL_law_904 rfl (lv_at hl 1 rfl) ?_
  refine lv_iload hx hb dL_law_905 (lv_at hl 5 rfl) ?_
  refine lv_iconst (v := nI (3)) hx hb dL_law_907 (by decide) ?_
  refine lv_iadd hx hb dL_law_908 (ww_top (y := nI (i + 3)) (nI_addn _ _) ?_)
  refine ws_sld (i := i + 3) hx hb hX hbl hbA hS (by omega) hL dL_law_909 ?_
  refine lv_i2l (v := (xs (i + 3)).toInt64) hx hb dL_law_910 rfl ?_
  refine lv_bipush (v := nI (32)) hx hb dL_law_911 (by decide) ?_
  refine lv_lshl (v := ((xs (i + 3)).toInt64 <<< ((nI (32)).toInt64 &&& 63))) hx hb dL_law_913 rfl ?_
  refine lv_aload_n hx hb dL_law_914 rfl (lv_at hl 1 rfl) ?_
  refine lv_iload hx hb dL_law_915 (lv_at hl 5 rfl) ?_
  refine lv_iconst (v := nI (4)) hx hb dL_law_917 (by decide) ?_
  refine lv_iadd hx hb dL_law_918 (ww_top (y := nI (i + 4)) (nI_addn _ _) ?_)
  refine ws_sld (i := i + 4) hx hb hX hbl hbA hS (by omega) hL dL_law_919 ?_
  refine lv_i2l (v := (xs (i + 4)).toInt64) hx hb dL_law_920 rfl ?_
  refine lv_ldc2 (v := 4294967295) hx hb hown hc92 dL_law_921 ?_
  refine lv_land hx hb dL_law_924 ?_
  refine lv_lor hx hb dL_law_925 (ww_topl (y := lgJ (xs (i + 3)) (xs (i + 4))) rfl ?_)
  refine lv_aload_n hx hb dL_law_926 rfl (lv_at hl 1 rfl) ?_
  refine lv_iload hx hb dL_law_927 (lv_at hl 5 rfl) ?_
  refine lv_iconst (v := nI (5)) hx hb dL_law_929 (by decide) ?_
  refine lv_iadd hx hb dL_law_930 (ww_top (y := nI (i + 5)) (nI_addn _ _) ?_)
  refine ws_sld (i := i + 5) hx hb hX hbl hbA hS (by omega) hL dL_law_931 ?_
  refine wf_VWi (rest := []) (X := oW cJ o (u.1) ++ kW cI cJ cZ cV cR a (u.2)) (wf := mWu cI cJ cZ a') ⟨hx, hb, hml, hown, hts⟩ (c_X6_place l D cI cJ cZ a' (th) (lds) (M) hR.2.1 (xs (i + 1)) (xs (i + 2)) (lgJ (xs (i + 3)) (xs (i + 4))) (xs (i + 5))  H.size) (cwV 4 hts gL_law_X6_place rfl rfl rfl (by decide +kernel) ⟨Nat.le_of_ble_eq_true rfl, Nat.le_of_ble_eq_true rfl⟩) hP hKW hD hS hA 0 rfl rfl rfl hl.1 rfl (Nat.le_of_ble_eq_true rfl) dL_law_932 ⟨by omega, by omega⟩ (fun rr2 u2 hu2 H locs hP hD hS => ?_)
  obtain ⟨hr2, hth, hM1⟩ := hu2
  have hP : va_P D vwCl ((oW cJ o (u.1) ++ kW cI cJ cZ cV cR a (u.2)) ++ mW cI cJ cZ a' (u2.1) (u2.2.1) (u2.2.2)) H := hP
  have hD : va_D A ((oW cJ o (u.1) ++ kW cI cJ cZ cV cR a (u.2)) ++ mW cI cJ cZ a' (u2.1) (u2.2.1) (u2.2.2)) := hD
  rw [hth, hM1] at hP hD
  subst hr2
  refine lv_istore (lv' := [(6, .int (placeR M (xs (i + 1)) (xs (i + 2)) (lgJ (xs (i + 3)) (xs (i + 4))) (xs (i + 5)))), (5, .int (nI (placeT M (xs (i + 1)) (xs (i + 2)) (xs (i + 5))))), (0, .ref (b)), (1, .ref (a 0)), (2, .ref (a' 0)), (3, .ref (o)), (4, .int (nI (i)))]) hx hb dL_law_935 hl (by decide) rfl (fun ls hl => ?_)
  refine lv_aload_n hx hb dL_law_937 rfl (lv_at hl 4 rfl) ?_
  refine wc_Vi (As := []) (rest := []) ⟨hx, hb, hml, hown, hts⟩ (c_X6_thrown l D cI cJ cZ a' (placeT M (xs (i + 1)) (xs (i + 2)) (xs (i + 5))) (u2.2.1) (M) hR1.2.1) (cwV 0 hts gL_law_X6_thrown rfl rfl rfl (by decide +kernel) ⟨Nat.le_of_ble_eq_true rfl, Nat.le_of_ble_eq_true rfl⟩) (fr_r hP) hKW 0 rfl rfl rfl hl.1 rfl (Nat.le_of_ble_eq_true rfl) dL_law_938 ⟨by omega, by omega⟩ (fun rr9 hr9 => ?_)
  subst hr9
  refine lv_iload hx hb dL_law_941 (lv_at hl 1 rfl) ?_
  refine lv_icmp_eq (tgt := 948) hx hb dL_law_943 (by decide) (fun c9 => ?_) (fun c9 => absurd rfl c9)
  refine lv_iload hx hb dL_law_948 (lv_at hl 1 rfl) ?_
  refine wn_if_ne (a := placeT M (xs (i + 1)) (xs (i + 2)) (xs (i + 5))) (tgt := 965) hx hb (nI_z (Nat.lt_trans (tb_placeT _ _ _ _) (by decide))) dL_law_950 (by decide) (fun c0 => ?_) (fun c0 => ?_)
  · refine lv_goto (tgt := 2089) hx hb dL_law_965 (by decide) ?_
    refine W.widen (k := cells + 3) (n := slots + 346) (by omega) (by omega) ?_
    exact kk _ _ _ _ _ _ _ _ _ hR1 hP hD hS ls (lv_sub hl [2, 3, 4, 5, 6] rfl)
  · refine lv_aload_n hx hb dL_law_953 rfl (lv_at hl 5 rfl) ?_
    refine lv_iconst (v := nI (0)) hx hb dL_law_954 (by decide) ?_
    refine wa_l (i := 0) (v := u.1 0) hx hb hK hP 0 1 rfl rfl rfl (by decide) (by decide) dL_law_955 ?_
    refine lv_iload hx hb dL_law_956 (lv_at hl 0 rfl) ?_
    refine lv_i2l (v := (placeR M (xs (i + 1)) (xs (i + 2)) (lgJ (xs (i + 3)) (xs (i + 4))) (xs (i + 5))).toInt64) hx hb dL_law_958 rfl ?_
    refine wl_eq (tgt := 965) hx hb dL_law_959 dL_law_960 (by decide) (fun c8 => ?_) (fun c8 => absurd (hout c0) c8)
    refine lv_goto (tgt := 2089) hx hb dL_law_965 (by decide) ?_
    refine W.widen (k := cells + 3) (n := slots + 346) (by omega) (by omega) ?_
    exact kk _ _ _ _ _ _ _ _ _ hR1 hP hD hS ls (lv_sub hl [2, 3, 4, 5, 6] rfl)
set_option maxHeartbeats 4000000 in
set_option maxRecDepth 100000 in
theorem lc_groups {p : Program} {l : Launch} {e : Env} {s : State} {m : MethodId} {below : List Frame} {meth : Method} {c : Code} {D : va_G} {cI cJ cZ cV cR : ClassId} {b L : Nat} {xs : Nat → Int32} {A : Nat → Prop} {a a' : Nat → Nat} {o cells slots : Nat} {Q : State → Prop} (F : LF p l s m c D cI cJ cZ cV cR b L xs A) (hcl : cells + 3 ≤ room_1.cells) (hsl : slots + 346 ≤ room_1.slots) (i : Nat) (hi : i + 8 ≤ L) (C : CT) (VT : Nat → VRec) (RT : Nat → RRec) (M : MT) (th : Nat) (lds : Nat → Bool) (ov : Nat → Int64) (H : Heap) (locs : List Loc) (hR : Rel cI cZ C VT RT M) (hP : va_P D vwCl ((oW cJ o (ov) ++ kW cI cJ cZ cV cR a (C)) ++ mW cI cJ cZ a' (th) (lds) (M)) H) (hD : va_D A ((oW cJ o (ov) ++ kW cI cJ cZ cV cR a (C)) ++ mW cI cJ cZ a' (th) (lds) (M))) (hS : va_S A s.heap H locs) (ls : Array Slot) (hl : lv_has ls 8 [(0, .ref b), (1, .ref (a 0)), (2, .ref (a' 0)), (3, .ref o), (4, .int (nI (i)))]) (kk : ∀ (C : CT) (VT : Nat → VRec) (RT : Nat → RRec) (M : MT) (th : Nat) (lds : Nat → Bool) (ov : Nat → Int64) (H : Heap) (locs : List Loc), Rel cI cZ C VT RT M → va_P D vwCl ((oW cJ o (ov) ++ kW cI cJ cZ cV cR a (C)) ++ mW cI cJ cZ a' (th) (lds) (M)) H → va_D A ((oW cJ o (ov) ++ kW cI cJ cZ cV cR a (C)) ++ mW cI cJ cZ a' (th) (lds) (M)) → va_S A s.heap H locs → ∀ ls : Array Slot, lv_has ls 8 [(0, .ref b), (1, .ref (a 0)), (2, .ref (a' 0)), (3, .ref o), (4, .int (nI (i)))] → W p l e room_1 s m #[Value.ref b] below meth c H locs (cells + 3) (slots + 346) Q (F0 m 2089 ls [])) : W p l e room_1 s m #[Value.ref b] below meth c H locs (cells) (slots) Q (F0 m 968 ls []) := by
  obtain ⟨htr, hx, hb, hml, hown, hts, hX, hbl, hbA, hL, hA, hK, hYE, hc92⟩ := F
  have hKW : va_K D vwCl (tyW cI cJ cZ) s := hK.sub (tys' := tyW cI cJ cZ) [0, 1, 2] rfl
  refine lv_aload_n hx hb dL_law_968 rfl (lv_at hl 1 rfl) ?_
  refine lv_aload_n hx hb dL_law_969 rfl (lv_at hl 0 rfl) ?_
  refine lv_iload hx hb dL_law_970 (lv_at hl 4 rfl) ?_
  refine lv_iconst (v := nI (1)) hx hb dL_law_972 (by decide) ?_
  refine lv_iadd hx hb dL_law_973 (ww_top (y := nI (i + 1)) (nI_addn _ _) ?_)
  refine ws_sld (i := i + 1) hx hb hX hbl hbA hS (by omega) hL dL_law_974 ?_
  refine lv_aload_n hx hb dL_law_975 rfl (lv_at hl 3 rfl) ?_
  have hP := fr_comm hP
  have hD := fd_comm hD
  refine wf_SWi (rest := []) (X := mW cI cJ cZ a' (th) (lds) (M)) (wf := fun u : (Nat → Int64) × CT => oW cJ o u.1 ++ kW cI cJ cZ cV cR a u.2) ⟨hx, hb, hml, hown, hts⟩ (w_L_groups l htr D cI cJ cZ cV cR a C VT RT hR.ci o ov (xs (i + 1)) H.size) (vx_cwSW 3 hts gL_law_L_groups rfl rfl rfl (by decide +kernel) ⟨Nat.le_of_ble_eq_true rfl, Nat.le_of_ble_eq_true rfl⟩) hP hK hD hS hA hYE rfl hl.1 rfl (Nat.le_of_ble_eq_true rfl) dL_law_976 ⟨by omega, by omega⟩ (fun rr u hu H locs hP hD hS => ?_)
  obtain ⟨hrr, hout, VT1, RT1, hR1⟩ := J_groups hR hu
  subst hrr
  have hP : va_P D vwCl ((oW cJ o (u.1) ++ kW cI cJ cZ cV cR a (u.2)) ++ mW cI cJ cZ a' (th) (lds) (M)) H := fr_comm hP
  have hD : va_D A ((oW cJ o (u.1) ++ kW cI cJ cZ cV cR a (u.2)) ++ mW cI cJ cZ a' (th) (lds) (M)) := fd_comm hD
  refine lv_istore (lv' := [(5, .int (nI (vT M (xs (i + 1))))), (0, .ref (b)), (1, .ref (a 0)), (2, .ref (a' 0)), (3, .ref (o)), (4, .int (nI (i)))]) hx hb dL_law_979 hl (by decide) rfl (fun ls hl => ?_)
  refine lv_aload_n hx hb dL_law_981 rfl (lv_at hl 3 rfl) ?_
  refine lv_aload_n hx hb dL_law_982 rfl (lv_at hl 1 rfl) ?_
  refine lv_iload hx hb dL_law_983 (lv_at hl 5 rfl) ?_
  refine lv_iconst (v := nI (1)) hx hb dL_law_985 (by decide) ?_
  refine lv_iadd hx hb dL_law_986 (ww_top (y := nI (i + 1)) (nI_addn _ _) ?_)
  refine ws_sld (i := i + 1) hx hb hX hbl hbA hS (by omega) hL dL_law_987 ?_
  refine wf_VWi (rest := []) (X := oW cJ o (u.1) ++ kW cI cJ cZ cV cR a (u.2)) (wf := mWu cI cJ cZ a') ⟨hx, hb, hml, hown, hts⟩ (c_X6_groups l D cI cJ cZ a' (th) (lds) (M) hR.2.1 (xs (i + 1))  H.size) (cwV 1 hts gL_law_X6_groups rfl rfl rfl (by decide +kernel) ⟨Nat.le_of_ble_eq_true rfl, Nat.le_of_ble_eq_true rfl⟩) hP hKW hD hS hA 0 rfl rfl rfl hl.1 rfl (Nat.le_of_ble_eq_true rfl) dL_law_988 ⟨by omega, by omega⟩ (fun rr2 u2 hu2 H locs hP hD hS => ?_)
  obtain ⟨hr2, hth, hM1⟩ := hu2
  have hP : va_P D vwCl ((oW cJ o (u.1) ++ kW cI cJ cZ cV cR a (u.2)) ++ mW cI cJ cZ a' (u2.1) (u2.2.1) (u2.2.2)) H := hP
  have hD : va_D A ((oW cJ o (u.1) ++ kW cI cJ cZ cV cR a (u.2)) ++ mW cI cJ cZ a' (u2.1) (u2.2.1) (u2.2.2)) := hD
  rw [hth, hM1] at hP hD
  subst hr2
  refine lv_istore (lv' := [(6, .int (groupsR M (xs (i + 1)))), (5, .int (nI (vT M (xs (i + 1))))), (0, .ref (b)), (1, .ref (a 0)), (2, .ref (a' 0)), (3, .ref (o)), (4, .int (nI (i)))]) hx hb dL_law_991 hl (by decide) rfl (fun ls hl => ?_)
  refine lv_aload_n hx hb dL_law_993 rfl (lv_at hl 4 rfl) ?_
  refine wc_Vi (As := []) (rest := []) ⟨hx, hb, hml, hown, hts⟩ (c_X6_thrown l D cI cJ cZ a' (vT M (xs (i + 1))) (u2.2.1) (M) hR1.2.1) (cwV 0 hts gL_law_X6_thrown rfl rfl rfl (by decide +kernel) ⟨Nat.le_of_ble_eq_true rfl, Nat.le_of_ble_eq_true rfl⟩) (fr_r hP) hKW 0 rfl rfl rfl hl.1 rfl (Nat.le_of_ble_eq_true rfl) dL_law_994 ⟨by omega, by omega⟩ (fun rr9 hr9 => ?_)
  subst hr9
  refine lv_iload hx hb dL_law_997 (lv_at hl 1 rfl) ?_
  refine lv_icmp_eq (tgt := 1004) hx hb dL_law_999 (by decide) (fun c9 => ?_) (fun c9 => absurd rfl c9)
  refine lv_iload hx hb dL_law_1004 (lv_at hl 1 rfl) ?_
  refine wn_if_ne (a := vT M (xs (i + 1))) (tgt := 1021) hx hb (nI_z (Nat.lt_trans (tb_vT _ _) (by decide))) dL_law_1006 (by decide) (fun c0 => ?_) (fun c0 => ?_)
  · refine lv_goto (tgt := 2089) hx hb dL_law_1021 (by decide) ?_
    refine W.widen (k := cells + 3) (n := slots + 346) (by omega) (by omega) ?_
    exact kk _ _ _ _ _ _ _ _ _ hR1 hP hD hS ls (lv_sub hl [2, 3, 4, 5, 6] rfl)
  · refine lv_aload_n hx hb dL_law_1009 rfl (lv_at hl 5 rfl) ?_
    refine lv_iconst (v := nI (0)) hx hb dL_law_1010 (by decide) ?_
    refine wa_l (i := 0) (v := u.1 0) hx hb hK hP 0 1 rfl rfl rfl (by decide) (by decide) dL_law_1011 ?_
    refine lv_iload hx hb dL_law_1012 (lv_at hl 0 rfl) ?_
    refine lv_i2l (v := (groupsR M (xs (i + 1))).toInt64) hx hb dL_law_1014 rfl ?_
    refine wl_eq (tgt := 1021) hx hb dL_law_1015 dL_law_1016 (by decide) (fun c8 => ?_) (fun c8 => absurd (hout c0) c8)
    refine lv_goto (tgt := 2089) hx hb dL_law_1021 (by decide) ?_
    refine W.widen (k := cells + 3) (n := slots + 346) (by omega) (by omega) ?_
    exact kk _ _ _ _ _ _ _ _ _ hR1 hP hD hS ls (lv_sub hl [2, 3, 4, 5, 6] rfl)
set_option maxHeartbeats 4000000 in
set_option maxRecDepth 100000 in
theorem lc_group {p : Program} {l : Launch} {e : Env} {s : State} {m : MethodId} {below : List Frame} {meth : Method} {c : Code} {D : va_G} {cI cJ cZ cV cR : ClassId} {b L : Nat} {xs : Nat → Int32} {A : Nat → Prop} {a a' : Nat → Nat} {o cells slots : Nat} {Q : State → Prop} (F : LF p l s m c D cI cJ cZ cV cR b L xs A) (hcl : cells + 3 ≤ room_1.cells) (hsl : slots + 346 ≤ room_1.slots) (i : Nat) (hi : i + 8 ≤ L) (C : CT) (VT : Nat → VRec) (RT : Nat → RRec) (M : MT) (th : Nat) (lds : Nat → Bool) (ov : Nat → Int64) (H : Heap) (locs : List Loc) (hR : Rel cI cZ C VT RT M) (hP : va_P D vwCl ((oW cJ o (ov) ++ kW cI cJ cZ cV cR a (C)) ++ mW cI cJ cZ a' (th) (lds) (M)) H) (hD : va_D A ((oW cJ o (ov) ++ kW cI cJ cZ cV cR a (C)) ++ mW cI cJ cZ a' (th) (lds) (M))) (hS : va_S A s.heap H locs) (ls : Array Slot) (hl : lv_has ls 8 [(0, .ref b), (1, .ref (a 0)), (2, .ref (a' 0)), (3, .ref o), (4, .int (nI (i)))]) (kk : ∀ (C : CT) (VT : Nat → VRec) (RT : Nat → RRec) (M : MT) (th : Nat) (lds : Nat → Bool) (ov : Nat → Int64) (H : Heap) (locs : List Loc), Rel cI cZ C VT RT M → va_P D vwCl ((oW cJ o (ov) ++ kW cI cJ cZ cV cR a (C)) ++ mW cI cJ cZ a' (th) (lds) (M)) H → va_D A ((oW cJ o (ov) ++ kW cI cJ cZ cV cR a (C)) ++ mW cI cJ cZ a' (th) (lds) (M)) → va_S A s.heap H locs → ∀ ls : Array Slot, lv_has ls 8 [(0, .ref b), (1, .ref (a 0)), (2, .ref (a' 0)), (3, .ref o), (4, .int (nI (i)))] → W p l e room_1 s m #[Value.ref b] below meth c H locs (cells + 3) (slots + 346) Q (F0 m 2089 ls [])) : W p l e room_1 s m #[Value.ref b] below meth c H locs (cells) (slots) Q (F0 m 1024 ls []) := by
  obtain ⟨htr, hx, hb, hml, hown, hts, hX, hbl, hbA, hL, hA, hK, hYE, hc92⟩ := F
  have hKW : va_K D vwCl (tyW cI cJ cZ) s := hK.sub (tys' := tyW cI cJ cZ) [0, 1, 2] rfl
  refine lv_aload_n hx hb dL_law_1024 rfl (lv_at hl 1 rfl) ?_
  refine lv_aload_n hx hb dL_law_1025 rfl (lv_at hl 0 rfl) ?_
  refine lv_iload hx hb dL_law_1026 (lv_at hl 4 rfl) ?_
  refine lv_iconst (v := nI (1)) hx hb dL_law_1028 (by decide) ?_
  refine lv_iadd hx hb dL_law_1029 (ww_top (y := nI (i + 1)) (nI_addn _ _) ?_)
  refine ws_sld (i := i + 1) hx hb hX hbl hbA hS (by omega) hL dL_law_1030 ?_
  refine lv_aload_n hx hb dL_law_1031 rfl (lv_at hl 0 rfl) ?_
  refine lv_iload hx hb dL_law_1032 (lv_at hl 4 rfl) ?_
  refine lv_iconst (v := nI (2)) hx hb dL_law_1034 (by decide) ?_
  refine lv_iadd hx hb dL_law_1035 (ww_top (y := nI (i + 2)) (nI_addn _ _) ?_)
  refine ws_sld (i := i + 2) hx hb hX hbl hbA hS (by omega) hL dL_law_1036 ?_
  refine lv_aload_n hx hb dL_law_1037 rfl (lv_at hl 0 rfl) ?_
  refine lv_iload hx hb dL_law_1038 (lv_at hl 4 rfl) ?_
  refine lv_iconst (v := nI (3)) hx hb dL_law_1040 (by decide) ?_
  refine lv_iadd hx hb dL_law_1041 (ww_top (y := nI (i + 3)) (nI_addn _ _) ?_)
  refine ws_sld (i := i + 3) hx hb hX hbl hbA hS (by omega) hL dL_law_1042 ?_
  refine lv_i2l (v := (xs (i + 3)).toInt64) hx hb dL_law_1043 rfl ?_
  refine lv_bipush (v := nI (32)) hx hb dL_law_1044 (by decide) ?_
  refine lv_lshl (v := ((xs (i + 3)).toInt64 <<< ((nI (32)).toInt64 &&& 63))) hx hb dL_law_1046 rfl ?_
  refine lv_aload_n hx hb dL_law_1047 rfl (lv_at hl 0 rfl) ?_
  refine lv_iload hx hb dL_law_1048 (lv_at hl 4 rfl) ?_
  refine lv_iconst (v := nI (4)) hx hb dL_law_1050 (by decide) ?_
  refine lv_iadd hx hb dL_law_1051 (ww_top (y := nI (i + 4)) (nI_addn _ _) ?_)
  refine ws_sld (i := i + 4) hx hb hX hbl hbA hS (by omega) hL dL_law_1052 ?_
  refine lv_i2l (v := (xs (i + 4)).toInt64) hx hb dL_law_1053 rfl ?_
  refine lv_ldc2 (v := 4294967295) hx hb hown hc92 dL_law_1054 ?_
  refine lv_land hx hb dL_law_1057 ?_
  refine lv_lor hx hb dL_law_1058 (ww_topl (y := lgJ (xs (i + 3)) (xs (i + 4))) rfl ?_)
  refine lv_aload_n hx hb dL_law_1059 rfl (lv_at hl 0 rfl) ?_
  refine lv_iload hx hb dL_law_1060 (lv_at hl 4 rfl) ?_
  refine lv_iconst (v := nI (5)) hx hb dL_law_1062 (by decide) ?_
  refine lv_iadd hx hb dL_law_1063 (ww_top (y := nI (i + 5)) (nI_addn _ _) ?_)
  refine ws_sld (i := i + 5) hx hb hX hbl hbA hS (by omega) hL dL_law_1064 ?_
  refine lv_aload_n hx hb dL_law_1065 rfl (lv_at hl 3 rfl) ?_
  have hP := fr_comm hP
  have hD := fd_comm hD
  refine wf_SWi (rest := []) (X := mW cI cJ cZ a' (th) (lds) (M)) (wf := fun u : (Nat → Int64) × CT => oW cJ o u.1 ++ kW cI cJ cZ cV cR a u.2) ⟨hx, hb, hml, hown, hts⟩ (w_L_group l htr D cI cJ cZ cV cR a C VT RT hR.ci o ov (xs (i + 1)) (xs (i + 2)) (lgJ (xs (i + 3)) (xs (i + 4))) (xs (i + 5)) H.size) (vx_cwSW 6 hts gL_law_L_group rfl rfl rfl (by decide +kernel) ⟨Nat.le_of_ble_eq_true rfl, Nat.le_of_ble_eq_true rfl⟩) hP hK hD hS hA hYE rfl hl.1 rfl (Nat.le_of_ble_eq_true rfl) dL_law_1066 ⟨by omega, by omega⟩ (fun rr u hu H locs hP hD hS => ?_)
  obtain ⟨hrr, hout, VT1, RT1, hR1⟩ := J_group hR hu
  subst hrr
  have hP : va_P D vwCl ((oW cJ o (u.1) ++ kW cI cJ cZ cV cR a (u.2)) ++ mW cI cJ cZ a' (th) (lds) (M)) H := fr_comm hP
  have hD : va_D A ((oW cJ o (u.1) ++ kW cI cJ cZ cV cR a (u.2)) ++ mW cI cJ cZ a' (th) (lds) (M)) := fd_comm hD
  refine lv_istore (lv' := [(5, .int (nI (againstM M (xs (i + 1)) (xs (i + 2)) (xs (i + 5))))), (0, .ref (b)), (1, .ref (a 0)), (2, .ref (a' 0)), (3, .ref (o)), (4, .int (nI (i)))]) hx hb dL_law_1069 hl (by decide) rfl (fun ls hl => ?_)
  refine lv_aload_n hx hb dL_law_1071 rfl (lv_at hl 3 rfl) ?_
  refine lv_aload_n hx hb dL_law_1072 rfl (lv_at hl 1 rfl) ?_
  refine lv_iload hx hb dL_law_1073 (lv_at hl 5 rfl) ?_
  refine lv_iconst (v := nI (1)) hx hb dL_law_1075 (by decide) ?_
  refine lv_iadd hx hb dL_law_1076 (ww_top (y := nI (i + 1)) (nI_addn _ _) ?_)
  refine ws_sld (i := i + 1) hx hb hX hbl hbA hS (by omega) hL dL_law_1077 ?_
  refine lv_aload_n hx hb dL_law_1078 rfl (lv_at hl 1 rfl) ?_
  refine lv_iload hx hb dL_law_1079 (lv_at hl 5 rfl) ?_
  refine lv_iconst (v := nI (2)) hx hb dL_law_1081 (by decide) ?_
  refine lv_iadd hx hb dL_law_1082 (ww_top (y := nI (i + 2)) (nI_addn _ _) ?_)
  refine ws_sld (i := i + 2) hx hb hX hbl hbA hS (by omega) hL dL_law_1083 ?_
  refine lv_aload_n hx hb dL_law_1084 rfl (lv_at hl 1 rfl) ?_
  refine lv_iload hx hb dL_law_1085 (lv_at hl 5 rfl) ?_
  refine lv_iconst (v := nI (3)) hx hb dL_law_1087 (by decide) ?_
  refine lv_iadd hx hb dL_law_1088 (ww_top (y := nI (i + 3)) (nI_addn _ _) ?_)
  refine ws_sld (i := i + 3) hx hb hX hbl hbA hS (by omega) hL dL_law_1089 ?_
  refine lv_i2l (v := (xs (i + 3)).toInt64) hx hb dL_law_1090 rfl ?_
  refine lv_bipush (v := nI (32)) hx hb dL_law_1091 (by decide) ?_
  refine lv_lshl (v := ((xs (i + 3)).toInt64 <<< ((nI (32)).toInt64 &&& 63))) hx hb dL_law_1093 rfl ?_
  refine lv_aload_n hx hb dL_law_1094 rfl (lv_at hl 1 rfl) ?_
  refine lv_iload hx hb dL_law_1095 (lv_at hl 5 rfl) ?_
  refine lv_iconst (v := nI (4)) hx hb dL_law_1097 (by decide) ?_
  refine lv_iadd hx hb dL_law_1098 (ww_top (y := nI (i + 4)) (nI_addn _ _) ?_)
  refine ws_sld (i := i + 4) hx hb hX hbl hbA hS (by omega) hL dL_law_1099 ?_
  refine lv_i2l (v := (xs (i + 4)).toInt64) hx hb dL_law_1100 rfl ?_
  refine lv_ldc2 (v := 4294967295) hx hb hown hc92 dL_law_1101 ?_
  refine lv_land hx hb dL_law_1104 ?_
  refine lv_lor hx hb dL_law_1105 (ww_topl (y := lgJ (xs (i + 3)) (xs (i + 4))) rfl ?_)
  refine lv_aload_n hx hb dL_law_1106 rfl (lv_at hl 1 rfl) ?_
  refine lv_iload hx hb dL_law_1107 (lv_at hl 5 rfl) ?_
  refine lv_iconst (v := nI (5)) hx hb dL_law_1109 (by decide) ?_
  refine lv_iadd hx hb dL_law_1110 (ww_top (y := nI (i + 5)) (nI_addn _ _) ?_)
  refine ws_sld (i := i + 5) hx hb hX hbl hbA hS (by omega) hL dL_law_1111 ?_
  refine wf_VWl (rest := []) (X := oW cJ o (u.1) ++ kW cI cJ cZ cV cR a (u.2)) (wf := mWu cI cJ cZ a') ⟨hx, hb, hml, hown, hts⟩ (c_X6_group l D cI cJ cZ a' (th) (lds) (M) hR.2.1 (xs (i + 1)) (xs (i + 2)) (lgJ (xs (i + 3)) (xs (i + 4))) (xs (i + 5)) (fun hT => P_grp hR hT) H.size) (cwV 4 hts gL_law_X6_group rfl rfl rfl (by decide +kernel) ⟨Nat.le_of_ble_eq_true rfl, Nat.le_of_ble_eq_true rfl⟩) hP hKW hD hS hA 0 rfl rfl rfl hl.1 rfl (Nat.le_of_ble_eq_true rfl) dL_law_1112 ⟨by omega, by omega⟩ (fun rr2 u2 hu2 H locs hP hD hS => ?_)
  obtain ⟨hr2, hth, hM1⟩ := hu2
  have hP : va_P D vwCl ((oW cJ o (u.1) ++ kW cI cJ cZ cV cR a (u.2)) ++ mW cI cJ cZ a' (u2.1) (u2.2.1) (u2.2.2)) H := hP
  have hD : va_D A ((oW cJ o (u.1) ++ kW cI cJ cZ cV cR a (u.2)) ++ mW cI cJ cZ a' (u2.1) (u2.2.1) (u2.2.2)) := hD
  rw [hth, hM1] at hP hD
  subst hr2
  refine lv_lstore (lv' := [(6, .long (groupR M (xs (i + 1)) (xs (i + 2)) (lgJ (xs (i + 3)) (xs (i + 4))) (xs (i + 5)))), (5, .int (nI (againstM M (xs (i + 1)) (xs (i + 2)) (xs (i + 5))))), (0, .ref (b)), (1, .ref (a 0)), (2, .ref (a' 0)), (3, .ref (o)), (4, .int (nI (i)))]) hx hb dL_law_1115 hl (by decide) rfl (fun ls hl => ?_)
  refine lv_aload_n hx hb dL_law_1117 rfl (lv_at hl 4 rfl) ?_
  refine wc_Vi (As := []) (rest := []) ⟨hx, hb, hml, hown, hts⟩ (c_X6_thrown l D cI cJ cZ a' (againstM M (xs (i + 1)) (xs (i + 2)) (xs (i + 5))) (u2.2.1) (M) hR1.2.1) (cwV 0 hts gL_law_X6_thrown rfl rfl rfl (by decide +kernel) ⟨Nat.le_of_ble_eq_true rfl, Nat.le_of_ble_eq_true rfl⟩) (fr_r hP) hKW 0 rfl rfl rfl hl.1 rfl (Nat.le_of_ble_eq_true rfl) dL_law_1118 ⟨by omega, by omega⟩ (fun rr9 hr9 => ?_)
  subst hr9
  refine lv_iload hx hb dL_law_1121 (lv_at hl 1 rfl) ?_
  refine lv_icmp_eq (tgt := 1128) hx hb dL_law_1123 (by decide) (fun c9 => ?_) (fun c9 => absurd rfl c9)
  refine lv_iload hx hb dL_law_1128 (lv_at hl 1 rfl) ?_
  refine wn_if_ne (a := againstM M (xs (i + 1)) (xs (i + 2)) (xs (i + 5))) (tgt := 1144) hx hb (nI_z (Nat.lt_trans (tb_againstM _ _ _ _) (by decide))) dL_law_1130 (by decide) (fun c0 => ?_) (fun c0 => ?_)
  · refine lv_goto (tgt := 2089) hx hb dL_law_1144 (by decide) ?_
    refine W.widen (k := cells + 3) (n := slots + 346) (by omega) (by omega) ?_
    exact kk _ _ _ _ _ _ _ _ _ hR1 hP hD hS ls (lv_sub hl [2, 3, 4, 5, 6] rfl)
  · refine lv_aload_n hx hb dL_law_1133 rfl (lv_at hl 5 rfl) ?_
    refine lv_iconst (v := nI (0)) hx hb dL_law_1134 (by decide) ?_
    refine wa_l (i := 0) (v := u.1 0) hx hb hK hP 0 1 rfl rfl rfl (by decide) (by decide) dL_law_1135 ?_
    refine lv_lload hx hb dL_law_1136 (lv_at hl 0 rfl) ?_
    refine wl_eq (tgt := 1144) hx hb dL_law_1138 dL_law_1139 (by decide) (fun c8 => ?_) (fun c8 => absurd (hout c0) c8)
    refine lv_goto (tgt := 2089) hx hb dL_law_1144 (by decide) ?_
    refine W.widen (k := cells + 3) (n := slots + 346) (by omega) (by omega) ?_
    exact kk _ _ _ _ _ _ _ _ _ hR1 hP hD hS ls (lv_sub hl [2, 3, 4, 5, 6] rfl)
set_option maxHeartbeats 4000000 in
set_option maxRecDepth 100000 in
theorem lc_counted {p : Program} {l : Launch} {e : Env} {s : State} {m : MethodId} {below : List Frame} {meth : Method} {c : Code} {D : va_G} {cI cJ cZ cV cR : ClassId} {b L : Nat} {xs : Nat → Int32} {A : Nat → Prop} {a a' : Nat → Nat} {o cells slots : Nat} {Q : State → Prop} (F : LF p l s m c D cI cJ cZ cV cR b L xs A) (hcl : cells + 3 ≤ room_1.cells) (hsl : slots + 346 ≤ room_1.slots) (i : Nat) (hi : i + 8 ≤ L) (C : CT) (VT : Nat → VRec) (RT : Nat → RRec) (M : MT) (th : Nat) (lds : Nat → Bool) (ov : Nat → Int64) (H : Heap) (locs : List Loc) (hR : Rel cI cZ C VT RT M) (hP : va_P D vwCl ((oW cJ o (ov) ++ kW cI cJ cZ cV cR a (C)) ++ mW cI cJ cZ a' (th) (lds) (M)) H) (hD : va_D A ((oW cJ o (ov) ++ kW cI cJ cZ cV cR a (C)) ++ mW cI cJ cZ a' (th) (lds) (M))) (hS : va_S A s.heap H locs) (ls : Array Slot) (hl : lv_has ls 8 [(0, .ref b), (1, .ref (a 0)), (2, .ref (a' 0)), (3, .ref o), (4, .int (nI (i)))]) (kk : ∀ (C : CT) (VT : Nat → VRec) (RT : Nat → RRec) (M : MT) (th : Nat) (lds : Nat → Bool) (ov : Nat → Int64) (H : Heap) (locs : List Loc), Rel cI cZ C VT RT M → va_P D vwCl ((oW cJ o (ov) ++ kW cI cJ cZ cV cR a (C)) ++ mW cI cJ cZ a' (th) (lds) (M)) H → va_D A ((oW cJ o (ov) ++ kW cI cJ cZ cV cR a (C)) ++ mW cI cJ cZ a' (th) (lds) (M)) → va_S A s.heap H locs → ∀ ls : Array Slot, lv_has ls 8 [(0, .ref b), (1, .ref (a 0)), (2, .ref (a' 0)), (3, .ref o), (4, .int (nI (i)))] → W p l e room_1 s m #[Value.ref b] below meth c H locs (cells + 3) (slots + 346) Q (F0 m 2089 ls [])) : W p l e room_1 s m #[Value.ref b] below meth c H locs (cells) (slots) Q (F0 m 1147 ls []) := by
  obtain ⟨htr, hx, hb, hml, hown, hts, hX, hbl, hbA, hL, hA, hK, hYE, hc92⟩ := F
  have hKW : va_K D vwCl (tyW cI cJ cZ) s := hK.sub (tys' := tyW cI cJ cZ) [0, 1, 2] rfl
  refine lv_aload_n hx hb dL_law_1147 rfl (lv_at hl 1 rfl) ?_
  refine lv_aload_n hx hb dL_law_1148 rfl (lv_at hl 0 rfl) ?_
  refine lv_iload hx hb dL_law_1149 (lv_at hl 4 rfl) ?_
  refine lv_iconst (v := nI (1)) hx hb dL_law_1151 (by decide) ?_
  refine lv_iadd hx hb dL_law_1152 (ww_top (y := nI (i + 1)) (nI_addn _ _) ?_)
  refine ws_sld (i := i + 1) hx hb hX hbl hbA hS (by omega) hL dL_law_1153 ?_
  refine lv_aload_n hx hb dL_law_1154 rfl (lv_at hl 0 rfl) ?_
  refine lv_iload hx hb dL_law_1155 (lv_at hl 4 rfl) ?_
  refine lv_iconst (v := nI (2)) hx hb dL_law_1157 (by decide) ?_
  refine lv_iadd hx hb dL_law_1158 (ww_top (y := nI (i + 2)) (nI_addn _ _) ?_)
  refine ws_sld (i := i + 2) hx hb hX hbl hbA hS (by omega) hL dL_law_1159 ?_
  refine lv_aload_n hx hb dL_law_1160 rfl (lv_at hl 0 rfl) ?_
  refine lv_iload hx hb dL_law_1161 (lv_at hl 4 rfl) ?_
  refine lv_iconst (v := nI (3)) hx hb dL_law_1163 (by decide) ?_
  refine lv_iadd hx hb dL_law_1164 (ww_top (y := nI (i + 3)) (nI_addn _ _) ?_)
  refine ws_sld (i := i + 3) hx hb hX hbl hbA hS (by omega) hL dL_law_1165 ?_
  refine lv_i2l (v := (xs (i + 3)).toInt64) hx hb dL_law_1166 rfl ?_
  refine lv_bipush (v := nI (32)) hx hb dL_law_1167 (by decide) ?_
  refine lv_lshl (v := ((xs (i + 3)).toInt64 <<< ((nI (32)).toInt64 &&& 63))) hx hb dL_law_1169 rfl ?_
  refine lv_aload_n hx hb dL_law_1170 rfl (lv_at hl 0 rfl) ?_
  refine lv_iload hx hb dL_law_1171 (lv_at hl 4 rfl) ?_
  refine lv_iconst (v := nI (4)) hx hb dL_law_1173 (by decide) ?_
  refine lv_iadd hx hb dL_law_1174 (ww_top (y := nI (i + 4)) (nI_addn _ _) ?_)
  refine ws_sld (i := i + 4) hx hb hX hbl hbA hS (by omega) hL dL_law_1175 ?_
  refine lv_i2l (v := (xs (i + 4)).toInt64) hx hb dL_law_1176 rfl ?_
  refine lv_ldc2 (v := 4294967295) hx hb hown hc92 dL_law_1177 ?_
  refine lv_land hx hb dL_law_1180 ?_
  refine lv_lor hx hb dL_law_1181 (ww_topl (y := lgJ (xs (i + 3)) (xs (i + 4))) rfl ?_)
  refine lv_aload_n hx hb dL_law_1182 rfl (lv_at hl 0 rfl) ?_
  refine lv_iload hx hb dL_law_1183 (lv_at hl 4 rfl) ?_
  refine lv_iconst (v := nI (5)) hx hb dL_law_1185 (by decide) ?_
  refine lv_iadd hx hb dL_law_1186 (ww_top (y := nI (i + 5)) (nI_addn _ _) ?_)
  refine ws_sld (i := i + 5) hx hb hX hbl hbA hS (by omega) hL dL_law_1187 ?_
  refine lv_aload_n hx hb dL_law_1188 rfl (lv_at hl 3 rfl) ?_
  have hP := fr_comm hP
  have hD := fd_comm hD
  refine wf_SWi (rest := []) (X := mW cI cJ cZ a' (th) (lds) (M)) (wf := fun u : (Nat → Int64) × CT => oW cJ o u.1 ++ kW cI cJ cZ cV cR a u.2) ⟨hx, hb, hml, hown, hts⟩ (w_L_counted l htr D cI cJ cZ cV cR a C VT RT hR.ci o ov (xs (i + 1)) (xs (i + 2)) (lgJ (xs (i + 3)) (xs (i + 4))) (xs (i + 5)) H.size) (vx_cwSW 6 hts gL_law_L_counted rfl rfl rfl (by decide +kernel) ⟨Nat.le_of_ble_eq_true rfl, Nat.le_of_ble_eq_true rfl⟩) hP hK hD hS hA hYE rfl hl.1 rfl (Nat.le_of_ble_eq_true rfl) dL_law_1189 ⟨by omega, by omega⟩ (fun rr u hu H locs hP hD hS => ?_)
  obtain ⟨hrr, hout, VT1, RT1, hR1⟩ := J_counted hR hu
  subst hrr
  have hP : va_P D vwCl ((oW cJ o (u.1) ++ kW cI cJ cZ cV cR a (u.2)) ++ mW cI cJ cZ a' (th) (lds) (M)) H := fr_comm hP
  have hD : va_D A ((oW cJ o (u.1) ++ kW cI cJ cZ cV cR a (u.2)) ++ mW cI cJ cZ a' (th) (lds) (M)) := fd_comm hD
  refine lv_istore (lv' := [(5, .int (nI (againstM M (xs (i + 1)) (xs (i + 2)) (xs (i + 5))))), (0, .ref (b)), (1, .ref (a 0)), (2, .ref (a' 0)), (3, .ref (o)), (4, .int (nI (i)))]) hx hb dL_law_1192 hl (by decide) rfl (fun ls hl => ?_)
  refine lv_aload_n hx hb dL_law_1194 rfl (lv_at hl 3 rfl) ?_
  refine lv_aload_n hx hb dL_law_1195 rfl (lv_at hl 1 rfl) ?_
  refine lv_iload hx hb dL_law_1196 (lv_at hl 5 rfl) ?_
  refine lv_iconst (v := nI (1)) hx hb dL_law_1198 (by decide) ?_
  refine lv_iadd hx hb dL_law_1199 (ww_top (y := nI (i + 1)) (nI_addn _ _) ?_)
  refine ws_sld (i := i + 1) hx hb hX hbl hbA hS (by omega) hL dL_law_1200 ?_
  refine lv_aload_n hx hb dL_law_1201 rfl (lv_at hl 1 rfl) ?_
  refine lv_iload hx hb dL_law_1202 (lv_at hl 5 rfl) ?_
  refine lv_iconst (v := nI (2)) hx hb dL_law_1204 (by decide) ?_
  refine lv_iadd hx hb dL_law_1205 (ww_top (y := nI (i + 2)) (nI_addn _ _) ?_)
  refine ws_sld (i := i + 2) hx hb hX hbl hbA hS (by omega) hL dL_law_1206 ?_
  refine lv_aload_n hx hb dL_law_1207 rfl (lv_at hl 1 rfl) ?_
  refine lv_iload hx hb dL_law_1208 (lv_at hl 5 rfl) ?_
  refine lv_iconst (v := nI (3)) hx hb dL_law_1210 (by decide) ?_
  refine lv_iadd hx hb dL_law_1211 (ww_top (y := nI (i + 3)) (nI_addn _ _) ?_)
  refine ws_sld (i := i + 3) hx hb hX hbl hbA hS (by omega) hL dL_law_1212 ?_
  refine lv_i2l (v := (xs (i + 3)).toInt64) hx hb dL_law_1213 rfl ?_
  refine lv_bipush (v := nI (32)) hx hb dL_law_1214 (by decide) ?_
  refine lv_lshl (v := ((xs (i + 3)).toInt64 <<< ((nI (32)).toInt64 &&& 63))) hx hb dL_law_1216 rfl ?_
  refine lv_aload_n hx hb dL_law_1217 rfl (lv_at hl 1 rfl) ?_
  refine lv_iload hx hb dL_law_1218 (lv_at hl 5 rfl) ?_
  refine lv_iconst (v := nI (4)) hx hb dL_law_1220 (by decide) ?_
  refine lv_iadd hx hb dL_law_1221 (ww_top (y := nI (i + 4)) (nI_addn _ _) ?_)
  refine ws_sld (i := i + 4) hx hb hX hbl hbA hS (by omega) hL dL_law_1222 ?_
  refine lv_i2l (v := (xs (i + 4)).toInt64) hx hb dL_law_1223 rfl ?_
  refine lv_ldc2 (v := 4294967295) hx hb hown hc92 dL_law_1224 ?_
  refine lv_land hx hb dL_law_1227 ?_
  refine lv_lor hx hb dL_law_1228 (ww_topl (y := lgJ (xs (i + 3)) (xs (i + 4))) rfl ?_)
  refine lv_aload_n hx hb dL_law_1229 rfl (lv_at hl 1 rfl) ?_
  refine lv_iload hx hb dL_law_1230 (lv_at hl 5 rfl) ?_
  refine lv_iconst (v := nI (5)) hx hb dL_law_1232 (by decide) ?_
  refine lv_iadd hx hb dL_law_1233 (ww_top (y := nI (i + 5)) (nI_addn _ _) ?_)
  refine ws_sld (i := i + 5) hx hb hX hbl hbA hS (by omega) hL dL_law_1234 ?_
  refine wf_VWi (rest := []) (X := oW cJ o (u.1) ++ kW cI cJ cZ cV cR a (u.2)) (wf := mWu cI cJ cZ a') ⟨hx, hb, hml, hown, hts⟩ (c_X6_counted l D cI cJ cZ a' (th) (lds) (M) hR.2.1 (xs (i + 1)) (xs (i + 2)) (lgJ (xs (i + 3)) (xs (i + 4))) (xs (i + 5)) (fun hT => P_grp hR hT) H.size) (cwV 4 hts gL_law_X6_counted rfl rfl rfl (by decide +kernel) ⟨Nat.le_of_ble_eq_true rfl, Nat.le_of_ble_eq_true rfl⟩) hP hKW hD hS hA 0 rfl rfl rfl hl.1 rfl (Nat.le_of_ble_eq_true rfl) dL_law_1235 ⟨by omega, by omega⟩ (fun rr2 u2 hu2 H locs hP hD hS => ?_)
  obtain ⟨hr2, hth, hM1⟩ := hu2
  have hP : va_P D vwCl ((oW cJ o (u.1) ++ kW cI cJ cZ cV cR a (u.2)) ++ mW cI cJ cZ a' (u2.1) (u2.2.1) (u2.2.2)) H := hP
  have hD : va_D A ((oW cJ o (u.1) ++ kW cI cJ cZ cV cR a (u.2)) ++ mW cI cJ cZ a' (u2.1) (u2.2.1) (u2.2.2)) := hD
  rw [hth, hM1] at hP hD
  subst hr2
  refine lv_istore (lv' := [(6, .int (countedR M (xs (i + 1)) (xs (i + 2)) (lgJ (xs (i + 3)) (xs (i + 4))) (xs (i + 5)))), (5, .int (nI (againstM M (xs (i + 1)) (xs (i + 2)) (xs (i + 5))))), (0, .ref (b)), (1, .ref (a 0)), (2, .ref (a' 0)), (3, .ref (o)), (4, .int (nI (i)))]) hx hb dL_law_1238 hl (by decide) rfl (fun ls hl => ?_)
  refine lv_aload_n hx hb dL_law_1240 rfl (lv_at hl 4 rfl) ?_
  refine wc_Vi (As := []) (rest := []) ⟨hx, hb, hml, hown, hts⟩ (c_X6_thrown l D cI cJ cZ a' (againstM M (xs (i + 1)) (xs (i + 2)) (xs (i + 5))) (u2.2.1) (M) hR1.2.1) (cwV 0 hts gL_law_X6_thrown rfl rfl rfl (by decide +kernel) ⟨Nat.le_of_ble_eq_true rfl, Nat.le_of_ble_eq_true rfl⟩) (fr_r hP) hKW 0 rfl rfl rfl hl.1 rfl (Nat.le_of_ble_eq_true rfl) dL_law_1241 ⟨by omega, by omega⟩ (fun rr9 hr9 => ?_)
  subst hr9
  refine lv_iload hx hb dL_law_1244 (lv_at hl 1 rfl) ?_
  refine lv_icmp_eq (tgt := 1251) hx hb dL_law_1246 (by decide) (fun c9 => ?_) (fun c9 => absurd rfl c9)
  refine lv_iload hx hb dL_law_1251 (lv_at hl 1 rfl) ?_
  refine wn_if_ne (a := againstM M (xs (i + 1)) (xs (i + 2)) (xs (i + 5))) (tgt := 1268) hx hb (nI_z (Nat.lt_trans (tb_againstM _ _ _ _) (by decide))) dL_law_1253 (by decide) (fun c0 => ?_) (fun c0 => ?_)
  · refine lv_goto (tgt := 2089) hx hb dL_law_1268 (by decide) ?_
    refine W.widen (k := cells + 3) (n := slots + 346) (by omega) (by omega) ?_
    exact kk _ _ _ _ _ _ _ _ _ hR1 hP hD hS ls (lv_sub hl [2, 3, 4, 5, 6] rfl)
  · refine lv_aload_n hx hb dL_law_1256 rfl (lv_at hl 5 rfl) ?_
    refine lv_iconst (v := nI (0)) hx hb dL_law_1257 (by decide) ?_
    refine wa_l (i := 0) (v := u.1 0) hx hb hK hP 0 1 rfl rfl rfl (by decide) (by decide) dL_law_1258 ?_
    refine lv_iload hx hb dL_law_1259 (lv_at hl 0 rfl) ?_
    refine lv_i2l (v := (countedR M (xs (i + 1)) (xs (i + 2)) (lgJ (xs (i + 3)) (xs (i + 4))) (xs (i + 5))).toInt64) hx hb dL_law_1261 rfl ?_
    refine wl_eq (tgt := 1268) hx hb dL_law_1262 dL_law_1263 (by decide) (fun c8 => ?_) (fun c8 => absurd (hout c0) c8)
    refine lv_goto (tgt := 2089) hx hb dL_law_1268 (by decide) ?_
    refine W.widen (k := cells + 3) (n := slots + 346) (by omega) (by omega) ?_
    exact kk _ _ _ _ _ _ _ _ _ hR1 hP hD hS ls (lv_sub hl [2, 3, 4, 5, 6] rfl)
set_option maxHeartbeats 4000000 in
set_option maxRecDepth 100000 in
theorem lc_best {p : Program} {l : Launch} {e : Env} {s : State} {m : MethodId} {below : List Frame} {meth : Method} {c : Code} {D : va_G} {cI cJ cZ cV cR : ClassId} {b L : Nat} {xs : Nat → Int32} {A : Nat → Prop} {a a' : Nat → Nat} {o cells slots : Nat} {Q : State → Prop} (F : LF p l s m c D cI cJ cZ cV cR b L xs A) (hcl : cells + 3 ≤ room_1.cells) (hsl : slots + 346 ≤ room_1.slots) (i : Nat) (hi : i + 8 ≤ L) (C : CT) (VT : Nat → VRec) (RT : Nat → RRec) (M : MT) (th : Nat) (lds : Nat → Bool) (ov : Nat → Int64) (H : Heap) (locs : List Loc) (hR : Rel cI cZ C VT RT M) (hP : va_P D vwCl ((oW cJ o (ov) ++ kW cI cJ cZ cV cR a (C)) ++ mW cI cJ cZ a' (th) (lds) (M)) H) (hD : va_D A ((oW cJ o (ov) ++ kW cI cJ cZ cV cR a (C)) ++ mW cI cJ cZ a' (th) (lds) (M))) (hS : va_S A s.heap H locs) (ls : Array Slot) (hl : lv_has ls 8 [(0, .ref b), (1, .ref (a 0)), (2, .ref (a' 0)), (3, .ref o), (4, .int (nI (i)))]) (kk : ∀ (C : CT) (VT : Nat → VRec) (RT : Nat → RRec) (M : MT) (th : Nat) (lds : Nat → Bool) (ov : Nat → Int64) (H : Heap) (locs : List Loc), Rel cI cZ C VT RT M → va_P D vwCl ((oW cJ o (ov) ++ kW cI cJ cZ cV cR a (C)) ++ mW cI cJ cZ a' (th) (lds) (M)) H → va_D A ((oW cJ o (ov) ++ kW cI cJ cZ cV cR a (C)) ++ mW cI cJ cZ a' (th) (lds) (M)) → va_S A s.heap H locs → ∀ ls : Array Slot, lv_has ls 8 [(0, .ref b), (1, .ref (a 0)), (2, .ref (a' 0)), (3, .ref o), (4, .int (nI (i)))] → W p l e room_1 s m #[Value.ref b] below meth c H locs (cells + 3) (slots + 346) Q (F0 m 2089 ls [])) : W p l e room_1 s m #[Value.ref b] below meth c H locs (cells) (slots) Q (F0 m 1271 ls []) := by
  obtain ⟨htr, hx, hb, hml, hown, hts, hX, hbl, hbA, hL, hA, hK, hYE, hc92⟩ := F
  have hKW : va_K D vwCl (tyW cI cJ cZ) s := hK.sub (tys' := tyW cI cJ cZ) [0, 1, 2] rfl
  refine lv_aload_n hx hb dL_law_1271 rfl (lv_at hl 1 rfl) ?_
  refine lv_aload_n hx hb dL_law_1272 rfl (lv_at hl 0 rfl) ?_
  refine lv_iload hx hb dL_law_1273 (lv_at hl 4 rfl) ?_
  refine lv_iconst (v := nI (1)) hx hb dL_law_1275 (by decide) ?_
  refine lv_iadd hx hb dL_law_1276 (ww_top (y := nI (i + 1)) (nI_addn _ _) ?_)
  refine ws_sld (i := i + 1) hx hb hX hbl hbA hS (by omega) hL dL_law_1277 ?_
  refine lv_aload_n hx hb dL_law_1278 rfl (lv_at hl 0 rfl) ?_
  refine lv_iload hx hb dL_law_1279 (lv_at hl 4 rfl) ?_
  refine lv_iconst (v := nI (2)) hx hb dL_law_1281 (by decide) ?_
  refine lv_iadd hx hb dL_law_1282 (ww_top (y := nI (i + 2)) (nI_addn _ _) ?_)
  refine ws_sld (i := i + 2) hx hb hX hbl hbA hS (by omega) hL dL_law_1283 ?_
  refine lv_aload_n hx hb dL_law_1284 rfl (lv_at hl 0 rfl) ?_
  refine lv_iload hx hb dL_law_1285 (lv_at hl 4 rfl) ?_
  refine lv_iconst (v := nI (3)) hx hb dL_law_1287 (by decide) ?_
  refine lv_iadd hx hb dL_law_1288 (ww_top (y := nI (i + 3)) (nI_addn _ _) ?_)
  refine ws_sld (i := i + 3) hx hb hX hbl hbA hS (by omega) hL dL_law_1289 ?_
  refine lv_i2l (v := (xs (i + 3)).toInt64) hx hb dL_law_1290 rfl ?_
  refine lv_bipush (v := nI (32)) hx hb dL_law_1291 (by decide) ?_
  refine lv_lshl (v := ((xs (i + 3)).toInt64 <<< ((nI (32)).toInt64 &&& 63))) hx hb dL_law_1293 rfl ?_
  refine lv_aload_n hx hb dL_law_1294 rfl (lv_at hl 0 rfl) ?_
  refine lv_iload hx hb dL_law_1295 (lv_at hl 4 rfl) ?_
  refine lv_iconst (v := nI (4)) hx hb dL_law_1297 (by decide) ?_
  refine lv_iadd hx hb dL_law_1298 (ww_top (y := nI (i + 4)) (nI_addn _ _) ?_)
  refine ws_sld (i := i + 4) hx hb hX hbl hbA hS (by omega) hL dL_law_1299 ?_
  refine lv_i2l (v := (xs (i + 4)).toInt64) hx hb dL_law_1300 rfl ?_
  refine lv_ldc2 (v := 4294967295) hx hb hown hc92 dL_law_1301 ?_
  refine lv_land hx hb dL_law_1304 ?_
  refine lv_lor hx hb dL_law_1305 (ww_topl (y := lgJ (xs (i + 3)) (xs (i + 4))) rfl ?_)
  refine lv_aload_n hx hb dL_law_1306 rfl (lv_at hl 0 rfl) ?_
  refine lv_iload hx hb dL_law_1307 (lv_at hl 4 rfl) ?_
  refine lv_iconst (v := nI (5)) hx hb dL_law_1309 (by decide) ?_
  refine lv_iadd hx hb dL_law_1310 (ww_top (y := nI (i + 5)) (nI_addn _ _) ?_)
  refine ws_sld (i := i + 5) hx hb hX hbl hbA hS (by omega) hL dL_law_1311 ?_
  refine lv_aload_n hx hb dL_law_1312 rfl (lv_at hl 0 rfl) ?_
  refine lv_iload hx hb dL_law_1313 (lv_at hl 4 rfl) ?_
  refine lv_bipush (v := nI (6)) hx hb dL_law_1315 (by decide) ?_
  refine lv_iadd hx hb dL_law_1317 (ww_top (y := nI (i + 6)) (nI_addn _ _) ?_)
  refine ws_sld (i := i + 6) hx hb hX hbl hbA hS (by omega) hL dL_law_1318 ?_
  refine lv_aload_n hx hb dL_law_1319 rfl (lv_at hl 3 rfl) ?_
  have hP := fr_comm hP
  have hD := fd_comm hD
  refine wf_SWi (rest := []) (X := mW cI cJ cZ a' (th) (lds) (M)) (wf := fun u : (Nat → Int64) × CT => oW cJ o u.1 ++ kW cI cJ cZ cV cR a u.2) ⟨hx, hb, hml, hown, hts⟩ (w_L_best l htr D cI cJ cZ cV cR a C VT RT hR.ci o ov (xs (i + 1)) (xs (i + 2)) (lgJ (xs (i + 3)) (xs (i + 4))) (xs (i + 5)) (xs (i + 6)) H.size) (vx_cwSW 7 hts gL_law_L_best rfl rfl rfl (by decide +kernel) ⟨Nat.le_of_ble_eq_true rfl, Nat.le_of_ble_eq_true rfl⟩) hP hK hD hS hA hYE rfl hl.1 rfl (Nat.le_of_ble_eq_true rfl) dL_law_1320 ⟨by omega, by omega⟩ (fun rr u hu H locs hP hD hS => ?_)
  obtain ⟨hrr, hout, VT1, RT1, hR1⟩ := J_best hR hu
  subst hrr
  have hP : va_P D vwCl ((oW cJ o (u.1) ++ kW cI cJ cZ cV cR a (u.2)) ++ mW cI cJ cZ a' (th) (lds) (M)) H := fr_comm hP
  have hD : va_D A ((oW cJ o (u.1) ++ kW cI cJ cZ cV cR a (u.2)) ++ mW cI cJ cZ a' (th) (lds) (M)) := fd_comm hD
  refine lv_istore (lv' := [(5, .int (nI (bestT M (xs (i + 1)) (xs (i + 2)) (lgJ (xs (i + 3)) (xs (i + 4))) (xs (i + 5)) (xs (i + 6))))), (0, .ref (b)), (1, .ref (a 0)), (2, .ref (a' 0)), (3, .ref (o)), (4, .int (nI (i)))]) hx hb dL_law_1323 hl (by decide) rfl (fun ls hl => ?_)
  refine lv_aload_n hx hb dL_law_1325 rfl (lv_at hl 3 rfl) ?_
  refine lv_aload_n hx hb dL_law_1326 rfl (lv_at hl 1 rfl) ?_
  refine lv_iload hx hb dL_law_1327 (lv_at hl 5 rfl) ?_
  refine lv_iconst (v := nI (1)) hx hb dL_law_1329 (by decide) ?_
  refine lv_iadd hx hb dL_law_1330 (ww_top (y := nI (i + 1)) (nI_addn _ _) ?_)
  refine ws_sld (i := i + 1) hx hb hX hbl hbA hS (by omega) hL dL_law_1331 ?_
  refine lv_aload_n hx hb dL_law_1332 rfl (lv_at hl 1 rfl) ?_
  refine lv_iload hx hb dL_law_1333 (lv_at hl 5 rfl) ?_
  refine lv_iconst (v := nI (2)) hx hb dL_law_1335 (by decide) ?_
  refine lv_iadd hx hb dL_law_1336 (ww_top (y := nI (i + 2)) (nI_addn _ _) ?_)
  refine ws_sld (i := i + 2) hx hb hX hbl hbA hS (by omega) hL dL_law_1337 ?_
  refine lv_aload_n hx hb dL_law_1338 rfl (lv_at hl 1 rfl) ?_
  refine lv_iload hx hb dL_law_1339 (lv_at hl 5 rfl) ?_
  refine lv_iconst (v := nI (3)) hx hb dL_law_1341 (by decide) ?_
  refine lv_iadd hx hb dL_law_1342 (ww_top (y := nI (i + 3)) (nI_addn _ _) ?_)
  refine ws_sld (i := i + 3) hx hb hX hbl hbA hS (by omega) hL dL_law_1343 ?_
  refine lv_i2l (v := (xs (i + 3)).toInt64) hx hb dL_law_1344 rfl ?_
  refine lv_bipush (v := nI (32)) hx hb dL_law_1345 (by decide) ?_
  refine lv_lshl (v := ((xs (i + 3)).toInt64 <<< ((nI (32)).toInt64 &&& 63))) hx hb dL_law_1347 rfl ?_
  refine lv_aload_n hx hb dL_law_1348 rfl (lv_at hl 1 rfl) ?_
  refine lv_iload hx hb dL_law_1349 (lv_at hl 5 rfl) ?_
  refine lv_iconst (v := nI (4)) hx hb dL_law_1351 (by decide) ?_
  refine lv_iadd hx hb dL_law_1352 (ww_top (y := nI (i + 4)) (nI_addn _ _) ?_)
  refine ws_sld (i := i + 4) hx hb hX hbl hbA hS (by omega) hL dL_law_1353 ?_
  refine lv_i2l (v := (xs (i + 4)).toInt64) hx hb dL_law_1354 rfl ?_
  refine lv_ldc2 (v := 4294967295) hx hb hown hc92 dL_law_1355 ?_
  refine lv_land hx hb dL_law_1358 ?_
  refine lv_lor hx hb dL_law_1359 (ww_topl (y := lgJ (xs (i + 3)) (xs (i + 4))) rfl ?_)
  refine lv_aload_n hx hb dL_law_1360 rfl (lv_at hl 1 rfl) ?_
  refine lv_iload hx hb dL_law_1361 (lv_at hl 5 rfl) ?_
  refine lv_iconst (v := nI (5)) hx hb dL_law_1363 (by decide) ?_
  refine lv_iadd hx hb dL_law_1364 (ww_top (y := nI (i + 5)) (nI_addn _ _) ?_)
  refine ws_sld (i := i + 5) hx hb hX hbl hbA hS (by omega) hL dL_law_1365 ?_
  refine lv_aload_n hx hb dL_law_1366 rfl (lv_at hl 1 rfl) ?_
  refine lv_iload hx hb dL_law_1367 (lv_at hl 5 rfl) ?_
  refine lv_bipush (v := nI (6)) hx hb dL_law_1369 (by decide) ?_
  refine lv_iadd hx hb dL_law_1371 (ww_top (y := nI (i + 6)) (nI_addn _ _) ?_)
  refine ws_sld (i := i + 6) hx hb hX hbl hbA hS (by omega) hL dL_law_1372 ?_
  refine wf_VWi (rest := []) (X := oW cJ o (u.1) ++ kW cI cJ cZ cV cR a (u.2)) (wf := mWu cI cJ cZ a') ⟨hx, hb, hml, hown, hts⟩ (c_X6_best l D cI cJ cZ a' (th) (lds) (M) hR.2.1 (xs (i + 1)) (xs (i + 2)) (lgJ (xs (i + 3)) (xs (i + 4))) (xs (i + 5)) (xs (i + 6)) (fun hT => P_grp hR hT) (fun hT hw => P_best hR hT hw) H.size) (cwV 5 hts gL_law_X6_best rfl rfl rfl (by decide +kernel) ⟨Nat.le_of_ble_eq_true rfl, Nat.le_of_ble_eq_true rfl⟩) hP hKW hD hS hA 0 rfl rfl rfl hl.1 rfl (Nat.le_of_ble_eq_true rfl) dL_law_1373 ⟨by omega, by omega⟩ (fun rr2 u2 hu2 H locs hP hD hS => ?_)
  obtain ⟨hr2, hth, hM1⟩ := hu2
  have hP : va_P D vwCl ((oW cJ o (u.1) ++ kW cI cJ cZ cV cR a (u.2)) ++ mW cI cJ cZ a' (u2.1) (u2.2.1) (u2.2.2)) H := hP
  have hD : va_D A ((oW cJ o (u.1) ++ kW cI cJ cZ cV cR a (u.2)) ++ mW cI cJ cZ a' (u2.1) (u2.2.1) (u2.2.2)) := hD
  rw [hth, hM1] at hP hD
  subst hr2
  refine lv_istore (lv' := [(6, .int (bestR M (xs (i + 1)) (xs (i + 2)) (lgJ (xs (i + 3)) (xs (i + 4))) (xs (i + 5)) (xs (i + 6)))), (5, .int (nI (bestT M (xs (i + 1)) (xs (i + 2)) (lgJ (xs (i + 3)) (xs (i + 4))) (xs (i + 5)) (xs (i + 6))))), (0, .ref (b)), (1, .ref (a 0)), (2, .ref (a' 0)), (3, .ref (o)), (4, .int (nI (i)))]) hx hb dL_law_1376 hl (by decide) rfl (fun ls hl => ?_)
  refine lv_aload_n hx hb dL_law_1378 rfl (lv_at hl 4 rfl) ?_
  refine wc_Vi (As := []) (rest := []) ⟨hx, hb, hml, hown, hts⟩ (c_X6_thrown l D cI cJ cZ a' (bestT M (xs (i + 1)) (xs (i + 2)) (lgJ (xs (i + 3)) (xs (i + 4))) (xs (i + 5)) (xs (i + 6))) (u2.2.1) (M) hR1.2.1) (cwV 0 hts gL_law_X6_thrown rfl rfl rfl (by decide +kernel) ⟨Nat.le_of_ble_eq_true rfl, Nat.le_of_ble_eq_true rfl⟩) (fr_r hP) hKW 0 rfl rfl rfl hl.1 rfl (Nat.le_of_ble_eq_true rfl) dL_law_1379 ⟨by omega, by omega⟩ (fun rr9 hr9 => ?_)
  subst hr9
  refine lv_iload hx hb dL_law_1382 (lv_at hl 1 rfl) ?_
  refine lv_icmp_eq (tgt := 1389) hx hb dL_law_1384 (by decide) (fun c9 => ?_) (fun c9 => absurd rfl c9)
  refine lv_iload hx hb dL_law_1389 (lv_at hl 1 rfl) ?_
  refine wn_if_ne (a := bestT M (xs (i + 1)) (xs (i + 2)) (lgJ (xs (i + 3)) (xs (i + 4))) (xs (i + 5)) (xs (i + 6))) (tgt := 1406) hx hb (nI_z (Nat.lt_trans (tb_bestT _ _ _ _ _ _) (by decide))) dL_law_1391 (by decide) (fun c0 => ?_) (fun c0 => ?_)
  · refine lv_goto (tgt := 2089) hx hb dL_law_1406 (by decide) ?_
    refine W.widen (k := cells + 3) (n := slots + 346) (by omega) (by omega) ?_
    exact kk _ _ _ _ _ _ _ _ _ hR1 hP hD hS ls (lv_sub hl [2, 3, 4, 5, 6] rfl)
  · refine lv_aload_n hx hb dL_law_1394 rfl (lv_at hl 5 rfl) ?_
    refine lv_iconst (v := nI (0)) hx hb dL_law_1395 (by decide) ?_
    refine wa_l (i := 0) (v := u.1 0) hx hb hK hP 0 1 rfl rfl rfl (by decide) (by decide) dL_law_1396 ?_
    refine lv_iload hx hb dL_law_1397 (lv_at hl 0 rfl) ?_
    refine lv_i2l (v := (bestR M (xs (i + 1)) (xs (i + 2)) (lgJ (xs (i + 3)) (xs (i + 4))) (xs (i + 5)) (xs (i + 6))).toInt64) hx hb dL_law_1399 rfl ?_
    refine wl_eq (tgt := 1406) hx hb dL_law_1400 dL_law_1401 (by decide) (fun c8 => ?_) (fun c8 => absurd (hout c0) c8)
    refine lv_goto (tgt := 2089) hx hb dL_law_1406 (by decide) ?_
    refine W.widen (k := cells + 3) (n := slots + 346) (by omega) (by omega) ?_
    exact kk _ _ _ _ _ _ _ _ _ hR1 hP hD hS ls (lv_sub hl [2, 3, 4, 5, 6] rfl)
