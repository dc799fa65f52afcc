set_option maxHeartbeats 4000000 in
set_option maxRecDepth 100000 in
theorem lc_cursor {p : Program} {l : Launch} {e : Env} {s : State} {m : MethodId} {below : List Frame} {meth : Method} {c : Code} {D : va_G} {cI cJ cZ cV cR : ClassId} {b L : Nat} {xs : Nat → Int32} {A : Nat → Prop} {a a' : Nat → Nat} {o cells slots : Nat} {Q : State → Prop} (F : LF p l s m c D cI cJ cZ cV cR b L xs A) (hcl : cells + 3 ≤ room_1.cells) (hsl : slots + 346 ≤ room_1.slots) (i : Nat) (hi : i + 8 ≤ L) (C : CT) (VT : Nat → VRec) (RT : Nat → RRec) (M : MT) (th : Nat) (lds : Nat → Bool) (ov : Nat → Int64) (H : Heap) (locs : List Loc) (hR : Rel cI cZ C VT RT M) (hP : va_P D vwCl ((oW cJ o (ov) ++ kW cI cJ cZ cV cR a (C)) ++ mW cI cJ cZ a' (th) (lds) (M)) H) (hD : va_D A ((oW cJ o (ov) ++ kW cI cJ cZ cV cR a (C)) ++ mW cI cJ cZ a' (th) (lds) (M))) (hS : va_S A s.heap H locs) (ls : Array Slot) (hl : lv_has ls 8 [(0, .ref b), (1, .ref (a 0)), (2, .ref (a' 0)), (3, .ref o), (4, .int (nI (i)))]) (kk : ∀ (C : CT) (VT : Nat → VRec) (RT : Nat → RRec) (M : MT) (th : Nat) (lds : Nat → Bool) (ov : Nat → Int64) (H : Heap) (locs : List Loc), Rel cI cZ C VT RT M → va_P D vwCl ((oW cJ o (ov) ++ kW cI cJ cZ cV cR a (C)) ++ mW cI cJ cZ a' (th) (lds) (M)) H → va_D A ((oW cJ o (ov) ++ kW cI cJ cZ cV cR a (C)) ++ mW cI cJ cZ a' (th) (lds) (M)) → va_S A s.heap H locs → ∀ ls : Array Slot, lv_has ls 8 [(0, .ref b), (1, .ref (a 0)), (2, .ref (a' 0)), (3, .ref o), (4, .int (nI (i)))] → W p l e room_1 s m #[Value.ref b] below meth c H locs (cells + 3) (slots + 346) Q (F0 m 2089 ls [])) : W p l e room_1 s m #[Value.ref b] below meth c H locs (cells) (slots) Q (F0 m 1409 ls []) := by
  obtain ⟨htr, hx, hb, hml, hown, hts, hX, hbl, hbA, hL, hA, hK, hYE, hc92⟩ := F
  have hKW : va_K D vwCl (tyW cI cJ cZ) s := hK.sub (tys' := tyW cI cJ cZ) [0, 1, 2] rfl
  refine lv_aload_n hx hb dL_law_1409 rfl (lv_at hl 1 rfl) ?_
  refine lv_aload_n hx hb dL_law_1410 rfl (lv_at hl 0 rfl) ?_
  refine lv_iload hx hb dL_law_1411 (lv_at hl 4 rfl) ?_
  refine lv_iconst (v := nI (1)) hx hb dL_law_1413 (by decide) ?_
  refine lv_iadd hx hb dL_law_1414 (ww_top (y := nI (i + 1)) (nI_addn _ _) ?_)
  refine ws_sld (i := i + 1) hx hb hX hbl hbA hS (by omega) hL dL_law_1415 ?_
  refine lv_aload_n hx hb dL_law_1416 rfl (lv_at hl 0 rfl) ?_
  refine lv_iload hx hb dL_law_1417 (lv_at hl 4 rfl) ?_
  refine lv_iconst (v := nI (2)) hx hb dL_law_1419 (by decide) ?_
  refine lv_iadd hx hb dL_law_1420 (ww_top (y := nI (i + 2)) (nI_addn _ _) ?_)
  refine ws_sld (i := i + 2) hx hb hX hbl hbA hS (by omega) hL dL_law_1421 ?_
  refine lv_aload_n hx hb dL_law_1422 rfl (lv_at hl 0 rfl) ?_
  refine lv_iload hx hb dL_law_1423 (lv_at hl 4 rfl) ?_
  refine lv_iconst (v := nI (3)) hx hb dL_law_1425 (by decide) ?_
  refine lv_iadd hx hb dL_law_1426 (ww_top (y := nI (i + 3)) (nI_addn _ _) ?_)
  refine ws_sld (i := i + 3) hx hb hX hbl hbA hS (by omega) hL dL_law_1427 ?_
  refine lv_i2l (v := (xs (i + 3)).toInt64) hx hb dL_law_1428 rfl ?_
  refine lv_bipush (v := nI (32)) hx hb dL_law_1429 (by decide) ?_
  refine lv_lshl (v := ((xs (i + 3)).toInt64 <<< ((nI (32)).toInt64 &&& 63))) hx hb dL_law_1431 rfl ?_
  refine lv_aload_n hx hb dL_law_1432 rfl (lv_at hl 0 rfl) ?_
  refine lv_iload hx hb dL_law_1433 (lv_at hl 4 rfl) ?_
  refine lv_iconst (v := nI (4)) hx hb dL_law_1435 (by decide) ?_
  refine lv_iadd hx hb dL_law_1436 (ww_top (y := nI (i + 4)) (nI_addn _ _) ?_)
  refine ws_sld (i := i + 4) hx hb hX hbl hbA hS (by omega) hL dL_law_1437 ?_
  refine lv_i2l (v := (xs (i + 4)).toInt64) hx hb dL_law_1438 rfl ?_
  refine lv_ldc2 (v := 4294967295) hx hb hown hc92 dL_law_1439 ?_
  refine lv_land hx hb dL_law_1442 ?_
  refine lv_lor hx hb dL_law_1443 (ww_topl (y := lgJ (xs (i + 3)) (xs (i + 4))) rfl ?_)
  refine lv_aload_n hx hb dL_law_1444 rfl (lv_at hl 0 rfl) ?_
  refine lv_iload hx hb dL_law_1445 (lv_at hl 4 rfl) ?_
  refine lv_iconst (v := nI (5)) hx hb dL_law_1447 (by decide) ?_
  refine lv_iadd hx hb dL_law_1448 (ww_top (y := nI (i + 5)) (nI_addn _ _) ?_)
  refine ws_sld (i := i + 5) hx hb hX hbl hbA hS (by omega) hL dL_law_1449 ?_
  refine lv_aload_n hx hb dL_law_1450 rfl (lv_at hl 0 rfl) ?_
  refine lv_iload hx hb dL_law_1451 (lv_at hl 4 rfl) ?_
  refine lv_bipush (v := nI (6)) hx hb dL_law_1453 (by decide) ?_
  refine lv_iadd hx hb dL_law_1455 (ww_top (y := nI (i + 6)) (nI_addn _ _) ?_)
  refine ws_sld (i := i + 6) hx hb hX hbl hbA hS (by omega) hL dL_law_1456 ?_
  refine lv_aload_n hx hb dL_law_1457 rfl (lv_at hl 0 rfl) ?_
  refine lv_iload hx hb dL_law_1458 (lv_at hl 4 rfl) ?_
  refine lv_bipush (v := nI (7)) hx hb dL_law_1460 (by decide) ?_
  refine lv_iadd hx hb dL_law_1462 (ww_top (y := nI (i + 7)) (nI_addn _ _) ?_)
  refine ws_sld (i := i + 7) hx hb hX hbl hbA hS (by omega) hL dL_law_1463 ?_
  refine lv_aload_n hx hb dL_law_1464 rfl (lv_at hl 3 rfl) ?_
  have hP := fr_comm hP
  have hD := fd_comm hD
  refine wf_SWi (rest := []) (X := mW cI cJ cZ a' (th) (lds) (M)) (wf := fun u : (Nat → Int64) × CT => oW cJ o u.1 ++ kW cI cJ cZ cV cR a u.2) ⟨hx, hb, hml, hown, hts⟩ (w_L_cursor l htr D cI cJ cZ cV cR a C VT RT hR.ci o ov (xs (i + 1)) (xs (i + 2)) (lgJ (xs (i + 3)) (xs (i + 4))) (xs (i + 5)) (xs (i + 6)) (xs (i + 7)) H.size) (vx_cwSW 8 hts gL_law_L_cursor rfl rfl rfl (by decide +kernel) ⟨Nat.le_of_ble_eq_true rfl, Nat.le_of_ble_eq_true rfl⟩) hP hK hD hS hA hYE rfl hl.1 rfl (Nat.le_of_ble_eq_true rfl) dL_law_1465 ⟨by omega, by omega⟩ (fun rr u hu H locs hP hD hS => ?_)
  obtain ⟨hrr, hout, VT1, RT1, hR1⟩ := J_cursor hR hu
  subst hrr
  have hP : va_P D vwCl ((oW cJ o (u.1) ++ kW cI cJ cZ cV cR a (u.2)) ++ mW cI cJ cZ a' (th) (lds) (M)) H := fr_comm hP
  have hD : va_D A ((oW cJ o (u.1) ++ kW cI cJ cZ cV cR a (u.2)) ++ mW cI cJ cZ a' (th) (lds) (M)) := fd_comm hD
  refine lv_istore (lv' := [(5, .int (nI (curT M (xs (i + 1)) (xs (i + 2)) (lgJ (xs (i + 3)) (xs (i + 4))) (xs (i + 5)) (xs (i + 6)) (xs (i + 7))))), (0, .ref (b)), (1, .ref (a 0)), (2, .ref (a' 0)), (3, .ref (o)), (4, .int (nI (i)))]) hx hb dL_law_1468 hl (by decide) rfl (fun ls hl => ?_)
  refine lv_aload_n hx hb dL_law_1470 rfl (lv_at hl 3 rfl) ?_
  refine lv_aload_n hx hb dL_law_1471 rfl (lv_at hl 1 rfl) ?_
  refine lv_iload hx hb dL_law_1472 (lv_at hl 5 rfl) ?_
  refine lv_iconst (v := nI (1)) hx hb dL_law_1474 (by decide) ?_
  refine lv_iadd hx hb dL_law_1475 (ww_top (y := nI (i + 1)) (nI_addn _ _) ?_)
  refine ws_sld (i := i + 1) hx hb hX hbl hbA hS (by omega) hL dL_law_1476 ?_
  refine lv_aload_n hx hb dL_law_1477 rfl (lv_at hl 1 rfl) ?_
  refine lv_iload hx hb dL_law_1478 (lv_at hl 5 rfl) ?_
  refine lv_iconst (v := nI (2)) hx hb dL_law_1480 (by decide) ?_
  refine lv_iadd hx hb dL_law_1481 (ww_top (y := nI (i + 2)) (nI_addn _ _) ?_)
  refine ws_sld (i := i + 2) hx hb hX hbl hbA hS (by omega) hL dL_law_1482 ?_
  refine lv_aload_n hx hb dL_law_1483 rfl (lv_at hl 1 rfl) ?_
  refine lv_iload hx hb dL_law_1484 (lv_at hl 5 rfl) ?_
  refine lv_iconst (v := nI (3)) hx hb dL_law_1486 (by decide) ?_
  refine lv_iadd hx hb dL_law_1487 (ww_top (y := nI (i + 3)) (nI_addn _ _) ?_)
  refine ws_sld (i := i + 3) hx hb hX hbl hbA hS (by omega) hL dL_law_1488 ?_
  refine lv_i2l (v := (xs (i + 3)).toInt64) hx hb dL_law_1489 rfl ?_
  refine lv_bipush (v := nI (32)) hx hb dL_law_1490 (by decide) ?_
  refine lv_lshl (v := ((xs (i + 3)).toInt64 <<< ((nI (32)).toInt64 &&& 63))) hx hb dL_law_1492 rfl ?_
  refine lv_aload_n hx hb dL_law_1493 rfl (lv_at hl 1 rfl) ?_
  refine lv_iload hx hb dL_law_1494 (lv_at hl 5 rfl) ?_
  refine lv_iconst (v := nI (4)) hx hb dL_law_1496 (by decide) ?_
  refine lv_iadd hx hb dL_law_1497 (ww_top (y := nI (i + 4)) (nI_addn _ _) ?_)
  refine ws_sld (i := i + 4) hx hb hX hbl hbA hS (by omega) hL dL_law_1498 ?_
  refine lv_i2l (v := (xs (i + 4)).toInt64) hx hb dL_law_1499 rfl ?_
  refine lv_ldc2 (v := 4294967295) hx hb hown hc92 dL_law_1500 ?_
  refine lv_land hx hb dL_law_1503 ?_
  refine lv_lor hx hb dL_law_1504 (ww_topl (y := lgJ (xs (i + 3)) (xs (i + 4))) rfl ?_)
  refine lv_aload_n hx hb dL_law_1505 rfl (lv_at hl 1 rfl) ?_
  refine lv_iload hx hb dL_law_1506 (lv_at hl 5 rfl) ?_
  refine lv_iconst (v := nI (5)) hx hb dL_law_1508 (by decide) ?_
  refine lv_iadd hx hb dL_law_1509 (ww_top (y := nI (i + 5)) (nI_addn _ _) ?_)
  refine ws_sld (i := i + 5) hx hb hX hbl hbA hS (by omega) hL dL_law_1510 ?_
  refine lv_aload_n hx hb dL_law_1511 rfl (lv_at hl 1 rfl) ?_
  refine lv_iload hx hb dL_law_1512 (lv_at hl 5 rfl) ?_
  refine lv_bipush (v := nI (6)) hx hb dL_law_1514 (by decide) ?_
  refine lv_iadd hx hb dL_law_1516 (ww_top (y := nI (i + 6)) (nI_addn _ _) ?_)
  refine ws_sld (i := i + 6) hx hb hX hbl hbA hS (by omega) hL dL_law_1517 ?_
  refine lv_aload_n hx hb dL_law_1518 rfl (lv_at hl 1 rfl) ?_
  refine lv_iload hx hb dL_law_1519 (lv_at hl 5 rfl) ?_
  refine lv_bipush (v := nI (7)) hx hb dL_law_1521 (by decide) ?_
  refine lv_iadd hx hb dL_law_1523 (ww_top (y := nI (i + 7)) (nI_addn _ _) ?_)
  refine ws_sld (i := i + 7) hx hb hX hbl hbA hS (by omega) hL dL_law_1524 ?_
  refine wf_VWi (rest := []) (X := oW cJ o (u.1) ++ kW cI cJ cZ cV cR a (u.2)) (wf := mWu cI cJ cZ a') ⟨hx, hb, hml, hown, hts⟩ (c_X6_cursor l D cI cJ cZ a' (th) (lds) (M) hR.2.1 (xs (i + 1)) (xs (i + 2)) (lgJ (xs (i + 3)) (xs (i + 4))) (xs (i + 5)) (xs (i + 6)) (xs (i + 7))  H.size) (cwV 6 hts gL_law_X6_cursor rfl rfl rfl (by decide +kernel) ⟨Nat.le_of_ble_eq_true rfl, Nat.le_of_ble_eq_true rfl⟩) hP hKW hD hS hA 0 rfl rfl rfl hl.1 rfl (Nat.le_of_ble_eq_true rfl) dL_law_1525 ⟨by omega, by omega⟩ (fun rr2 u2 hu2 H locs hP hD hS => ?_)
  obtain ⟨hr2, hth, hM1⟩ := hu2
  have hP : va_P D vwCl ((oW cJ o (u.1) ++ kW cI cJ cZ cV cR a (u.2)) ++ mW cI cJ cZ a' (u2.1) (u2.2.1) (u2.2.2)) H := hP
  have hD : va_D A ((oW cJ o (u.1) ++ kW cI cJ cZ cV cR a (u.2)) ++ mW cI cJ cZ a' (u2.1) (u2.2.1) (u2.2.2)) := hD
  rw [hth, hM1] at hP hD
  subst hr2
  refine lv_istore (lv' := [(6, .int (curR M (xs (i + 1)) (xs (i + 2)) (lgJ (xs (i + 3)) (xs (i + 4))) (xs (i + 5)) (xs (i + 6)) (xs (i + 7)))), (5, .int (nI (curT M (xs (i + 1)) (xs (i + 2)) (lgJ (xs (i + 3)) (xs (i + 4))) (xs (i + 5)) (xs (i + 6)) (xs (i + 7))))), (0, .ref (b)), (1, .ref (a 0)), (2, .ref (a' 0)), (3, .ref (o)), (4, .int (nI (i)))]) hx hb dL_law_1528 hl (by decide) rfl (fun ls hl => ?_)
  refine lv_aload_n hx hb dL_law_1530 rfl (lv_at hl 4 rfl) ?_
  refine wc_Vi (As := []) (rest := []) ⟨hx, hb, hml, hown, hts⟩ (c_X6_thrown l D cI cJ cZ a' (curT M (xs (i + 1)) (xs (i + 2)) (lgJ (xs (i + 3)) (xs (i + 4))) (xs (i + 5)) (xs (i + 6)) (xs (i + 7))) (u2.2.1) (curM M (xs (i + 1)) (xs (i + 2)) (lgJ (xs (i + 3)) (xs (i + 4))) (xs (i + 5)) (xs (i + 6)) (xs (i + 7))) hR1.2.1) (cwV 0 hts gL_law_X6_thrown rfl rfl rfl (by decide +kernel) ⟨Nat.le_of_ble_eq_true rfl, Nat.le_of_ble_eq_true rfl⟩) (fr_r hP) hKW 0 rfl rfl rfl hl.1 rfl (Nat.le_of_ble_eq_true rfl) dL_law_1531 ⟨by omega, by omega⟩ (fun rr9 hr9 => ?_)
  subst hr9
  refine lv_iload hx hb dL_law_1534 (lv_at hl 1 rfl) ?_
  refine lv_icmp_eq (tgt := 1541) hx hb dL_law_1536 (by decide) (fun c9 => ?_) (fun c9 => absurd rfl c9)
  refine lv_iload hx hb dL_law_1541 (lv_at hl 1 rfl) ?_
  refine wn_if_ne (a := curT M (xs (i + 1)) (xs (i + 2)) (lgJ (xs (i + 3)) (xs (i + 4))) (xs (i + 5)) (xs (i + 6)) (xs (i + 7))) (tgt := 1558) hx hb (nI_z (Nat.lt_trans (tb_curT _ _ _ _ _ _ _) (by decide))) dL_law_1543 (by decide) (fun c0 => ?_) (fun c0 => ?_)
  · refine lv_goto (tgt := 2089) hx hb dL_law_1558 (by decide) ?_
    refine W.widen (k := cells + 3) (n := slots + 346) (by omega) (by omega) ?_
    exact kk _ _ _ _ _ _ _ _ _ hR1 hP hD hS ls (lv_sub hl [2, 3, 4, 5, 6] rfl)
  · refine lv_aload_n hx hb dL_law_1546 rfl (lv_at hl 5 rfl) ?_
    refine lv_iconst (v := nI (0)) hx hb dL_law_1547 (by decide) ?_
    refine wa_l (i := 0) (v := u.1 0) hx hb hK hP 0 1 rfl rfl rfl (by decide) (by decide) dL_law_1548 ?_
    refine lv_iload hx hb dL_law_1549 (lv_at hl 0 rfl) ?_
    refine lv_i2l (v := (curR M (xs (i + 1)) (xs (i + 2)) (lgJ (xs (i + 3)) (xs (i + 4))) (xs (i + 5)) (xs (i + 6)) (xs (i + 7))).toInt64) hx hb dL_law_1551 rfl ?_
    refine wl_eq (tgt := 1558) hx hb dL_law_1552 dL_law_1553 (by decide) (fun c8 => ?_) (fun c8 => absurd (hout c0) c8)
    refine lv_goto (tgt := 2089) hx hb dL_law_1558 (by decide) ?_
    refine W.widen (k := cells + 3) (n := slots + 346) (by omega) (by omega) ?_
    exact kk _ _ _ _ _ _ _ _ _ hR1 hP hD hS ls (lv_sub hl [2, 3, 4, 5, 6] rfl)
set_option maxHeartbeats 4000000 in
set_option maxRecDepth 100000 in
theorem lc_iterator {p : Program} {l : Launch} {e : Env} {s : State} {m : MethodId} {below : List Frame} {meth : Method} {c : Code} {D : va_G} {cI cJ cZ cV cR : ClassId} {b L : Nat} {xs : Nat → Int32} {A : Nat → Prop} {a a' : Nat → Nat} {o cells slots : Nat} {Q : State → Prop} (F : LF p l s m c D cI cJ cZ cV cR b L xs A) (hcl : cells + 3 ≤ room_1.cells) (hsl : slots + 346 ≤ room_1.slots) (i : Nat) (hi : i + 8 ≤ L) (C : CT) (VT : Nat → VRec) (RT : Nat → RRec) (M : MT) (th : Nat) (lds : Nat → Bool) (ov : Nat → Int64) (H : Heap) (locs : List Loc) (hR : Rel cI cZ C VT RT M) (hP : va_P D vwCl ((oW cJ o (ov) ++ kW cI cJ cZ cV cR a (C)) ++ mW cI cJ cZ a' (th) (lds) (M)) H) (hD : va_D A ((oW cJ o (ov) ++ kW cI cJ cZ cV cR a (C)) ++ mW cI cJ cZ a' (th) (lds) (M))) (hS : va_S A s.heap H locs) (ls : Array Slot) (hl : lv_has ls 8 [(0, .ref b), (1, .ref (a 0)), (2, .ref (a' 0)), (3, .ref o), (4, .int (nI (i)))]) (kk : ∀ (C : CT) (VT : Nat → VRec) (RT : Nat → RRec) (M : MT) (th : Nat) (lds : Nat → Bool) (ov : Nat → Int64) (H : Heap) (locs : List Loc), Rel cI cZ C VT RT M → va_P D vwCl ((oW cJ o (ov) ++ kW cI cJ cZ cV cR a (C)) ++ mW cI cJ cZ a' (th) (lds) (M)) H → va_D A ((oW cJ o (ov) ++ kW cI cJ cZ cV cR a (C)) ++ mW cI cJ cZ a' (th) (lds) (M)) → va_S A s.heap H locs → ∀ ls : Array Slot, lv_has ls 8 [(0, .ref b), (1, .ref (a 0)), (2, .ref (a' 0)), (3, .ref o), (4, .int (nI (i)))] → W p l e room_1 s m #[Value.ref b] below meth c H locs (cells + 3) (slots + 346) Q (F0 m 2089 ls [])) : W p l e room_1 s m #[Value.ref b] below meth c H locs (cells) (slots) Q (F0 m 1561 ls []) := by
  obtain ⟨htr, hx, hb, hml, hown, hts, hX, hbl, hbA, hL, hA, hK, hYE, hc92⟩ := F
  have hKW : va_K D vwCl (tyW cI cJ cZ) s := hK.sub (tys' := tyW cI cJ cZ) [0, 1, 2] rfl
  refine lv_aload_n hx hb dL_law_1561 rfl (lv_at hl 1 rfl) ?_
  refine lv_aload_n hx hb dL_law_1562 rfl (lv_at hl 0 rfl) ?_
  refine lv_iload hx hb dL_law_1563 (lv_at hl 4 rfl) ?_
  refine lv_iconst (v := nI (1)) hx hb dL_law_1565 (by decide) ?_
  refine lv_iadd hx hb dL_law_1566 (ww_top (y := nI (i + 1)) (nI_addn _ _) ?_)
  refine ws_sld (i := i + 1) hx hb hX hbl hbA hS (by omega) hL dL_law_1567 ?_
  refine lv_aload_n hx hb dL_law_1568 rfl (lv_at hl 0 rfl) ?_
  refine lv_iload hx hb dL_law_1569 (lv_at hl 4 rfl) ?_
  refine lv_iconst (v := nI (2)) hx hb dL_law_1571 (by decide) ?_
  refine lv_iadd hx hb dL_law_1572 (ww_top (y := nI (i + 2)) (nI_addn _ _) ?_)
  refine ws_sld (i := i + 2) hx hb hX hbl hbA hS (by omega) hL dL_law_1573 ?_
  refine lv_aload_n hx hb dL_law_1574 rfl (lv_at hl 0 rfl) ?_
  refine lv_iload hx hb dL_law_1575 (lv_at hl 4 rfl) ?_
  refine lv_iconst (v := nI (3)) hx hb dL_law_1577 (by decide) ?_
  refine lv_iadd hx hb dL_law_1578 (ww_top (y := nI (i + 3)) (nI_addn _ _) ?_)
  refine ws_sld (i := i + 3) hx hb hX hbl hbA hS (by omega) hL dL_law_1579 ?_
  refine lv_i2l (v := (xs (i + 3)).toInt64) hx hb dL_law_1580 rfl ?_
  refine lv_bipush (v := nI (32)) hx hb dL_law_1581 (by decide) ?_
  refine lv_lshl (v := ((xs (i + 3)).toInt64 <<< ((nI (32)).toInt64 &&& 63))) hx hb dL_law_1583 rfl ?_
  refine lv_aload_n hx hb dL_law_1584 rfl (lv_at hl 0 rfl) ?_
  refine lv_iload hx hb dL_law_1585 (lv_at hl 4 rfl) ?_
  refine lv_iconst (v := nI (4)) hx hb dL_law_1587 (by decide) ?_
  refine lv_iadd hx hb dL_law_1588 (ww_top (y := nI (i + 4)) (nI_addn _ _) ?_)
  refine ws_sld (i := i + 4) hx hb hX hbl hbA hS (by omega) hL dL_law_1589 ?_
  refine lv_i2l (v := (xs (i + 4)).toInt64) hx hb dL_law_1590 rfl ?_
  refine lv_ldc2 (v := 4294967295) hx hb hown hc92 dL_law_1591 ?_
  refine lv_land hx hb dL_law_1594 ?_
  refine lv_lor hx hb dL_law_1595 (ww_topl (y := lgJ (xs (i + 3)) (xs (i + 4))) rfl ?_)
  refine lv_aload_n hx hb dL_law_1596 rfl (lv_at hl 0 rfl) ?_
  refine lv_iload hx hb dL_law_1597 (lv_at hl 4 rfl) ?_
  refine lv_iconst (v := nI (5)) hx hb dL_law_1599 (by decide) ?_
  refine lv_iadd hx hb dL_law_1600 (ww_top (y := nI (i + 5)) (nI_addn _ _) ?_)
  refine ws_sld (i := i + 5) hx hb hX hbl hbA hS (by omega) hL dL_law_1601 ?_
  refine lv_aload_n hx hb dL_law_1602 rfl (lv_at hl 3 rfl) ?_
  have hP := fr_comm hP
  have hD := fd_comm hD
  refine wf_SWi (rest := []) (X := mW cI cJ cZ a' (th) (lds) (M)) (wf := fun u : (Nat → Int64) × CT => oW cJ o u.1 ++ kW cI cJ cZ cV cR a u.2) ⟨hx, hb, hml, hown, hts⟩ (w_L_iterator l htr D cI cJ cZ cV cR a C VT RT hR.ci o ov (xs (i + 1)) (xs (i + 2)) (lgJ (xs (i + 3)) (xs (i + 4))) (xs (i + 5)) H.size) (vx_cwSW 6 hts gL_law_L_iterator rfl rfl rfl (by decide +kernel) ⟨Nat.le_of_ble_eq_true rfl, Nat.le_of_ble_eq_true rfl⟩) hP hK hD hS hA hYE rfl hl.1 rfl (Nat.le_of_ble_eq_true rfl) dL_law_1603 ⟨by omega, by omega⟩ (fun rr u hu H locs hP hD hS => ?_)
  obtain ⟨hrr, hout, VT1, RT1, hR1⟩ := J_iterator hR hu
  subst hrr
  have hP : va_P D vwCl ((oW cJ o (u.1) ++ kW cI cJ cZ cV cR a (u.2)) ++ mW cI cJ cZ a' (th) (lds) (M)) H := fr_comm hP
  have hD : va_D A ((oW cJ o (u.1) ++ kW cI cJ cZ cV cR a (u.2)) ++ mW cI cJ cZ a' (th) (lds) (M)) := fd_comm hD
  refine lv_istore (lv' := [(5, .int (nI (itT M (xs (i + 1)) (xs (i + 2)) (lgJ (xs (i + 3)) (xs (i + 4))) (xs (i + 5))))), (0, .ref (b)), (1, .ref (a 0)), (2, .ref (a' 0)), (3, .ref (o)), (4, .int (nI (i)))]) hx hb dL_law_1606 hl (by decide) rfl (fun ls hl => ?_)
  refine lv_aload_n hx hb dL_law_1608 rfl (lv_at hl 3 rfl) ?_
  refine lv_aload_n hx hb dL_law_1609 rfl (lv_at hl 1 rfl) ?_
  refine lv_iload hx hb dL_law_1610 (lv_at hl 5 rfl) ?_
  refine lv_iconst (v := nI (1)) hx hb dL_law_1612 (by decide) ?_
  refine lv_iadd hx hb dL_law_1613 (ww_top (y := nI (i + 1)) (nI_addn _ _) ?_)
  refine ws_sld (i := i + 1) hx hb hX hbl hbA hS (by omega) hL dL_law_1614 ?_
  refine lv_aload_n hx hb dL_law_1615 rfl (lv_at hl 1 rfl) ?_
  refine lv_iload hx hb dL_law_1616 (lv_at hl 5 rfl) ?_
  refine lv_iconst (v := nI (2)) hx hb dL_law_1618 (by decide) ?_
  refine lv_iadd hx hb dL_law_1619 (ww_top (y := nI (i + 2)) (nI_addn _ _) ?_)
  refine ws_sld (i := i + 2) hx hb hX hbl hbA hS (by omega) hL dL_law_1620 ?_
  refine lv_aload_n hx hb dL_law_1621 rfl (lv_at hl 1 rfl) ?_
  refine lv_iload hx hb dL_law_1622 (lv_at hl 5 rfl) ?_
  refine lv_iconst (v := nI (3)) hx hb dL_law_1624 (by decide) ?_
  refine lv_iadd hx hb dL_law_1625 (ww_top (y := nI (i + 3)) (nI_addn _ _) ?_)
  refine ws_sld (i := i + 3) hx hb hX hbl hbA hS (by omega) hL dL_law_1626 ?_
  refine lv_i2l (v := (xs (i + 3)).toInt64) hx hb dL_law_1627 rfl ?_
  refine lv_bipush (v := nI (32)) hx hb dL_law_1628 (by decide) ?_
  refine lv_lshl (v := ((xs (i + 3)).toInt64 <<< ((nI (32)).toInt64 &&& 63))) hx hb dL_law_1630 rfl ?_
  refine lv_aload_n hx hb dL_law_1631 rfl (lv_at hl 1 rfl) ?_
  refine lv_iload hx hb dL_law_1632 (lv_at hl 5 rfl) ?_
  refine lv_iconst (v := nI (4)) hx hb dL_law_1634 (by decide) ?_
  refine lv_iadd hx hb dL_law_1635 (ww_top (y := nI (i + 4)) (nI_addn _ _) ?_)
  refine ws_sld (i := i + 4) hx hb hX hbl hbA hS (by omega) hL dL_law_1636 ?_
  refine lv_i2l (v := (xs (i + 4)).toInt64) hx hb dL_law_1637 rfl ?_
  refine lv_ldc2 (v := 4294967295) hx hb hown hc92 dL_law_1638 ?_
  refine lv_land hx hb dL_law_1641 ?_
  refine lv_lor hx hb dL_law_1642 (ww_topl (y := lgJ (xs (i + 3)) (xs (i + 4))) rfl ?_)
  refine lv_aload_n hx hb dL_law_1643 rfl (lv_at hl 1 rfl) ?_
  refine lv_iload hx hb dL_law_1644 (lv_at hl 5 rfl) ?_
  refine lv_iconst (v := nI (5)) hx hb dL_law_1646 (by decide) ?_
  refine lv_iadd hx hb dL_law_1647 (ww_top (y := nI (i + 5)) (nI_addn _ _) ?_)
  refine ws_sld (i := i + 5) hx hb hX hbl hbA hS (by omega) hL dL_law_1648 ?_
  refine wf_VWi (rest := []) (X := oW cJ o (u.1) ++ kW cI cJ cZ cV cR a (u.2)) (wf := mWu cI cJ cZ a') ⟨hx, hb, hml, hown, hts⟩ (c_X6_iterator l D cI cJ cZ a' (th) (lds) (M) hR.2.1 (xs (i + 1)) (xs (i + 2)) (lgJ (xs (i + 3)) (xs (i + 4))) (xs (i + 5)) (fun hz hT => P_it hR hz hT) H.size) (cwV 4 hts gL_law_X6_iterator rfl rfl rfl (by decide +kernel) ⟨Nat.le_of_ble_eq_true rfl, Nat.le_of_ble_eq_true rfl⟩) hP hKW hD hS hA 0 rfl rfl rfl hl.1 rfl (Nat.le_of_ble_eq_true rfl) dL_law_1649 ⟨by omega, by omega⟩ (fun rr2 u2 hu2 H locs hP hD hS => ?_)
  obtain ⟨hr2, hth, hM1⟩ := hu2
  have hP : va_P D vwCl ((oW cJ o (u.1) ++ kW cI cJ cZ cV cR a (u.2)) ++ mW cI cJ cZ a' (u2.1) (u2.2.1) (u2.2.2)) H := hP
  have hD : va_D A ((oW cJ o (u.1) ++ kW cI cJ cZ cV cR a (u.2)) ++ mW cI cJ cZ a' (u2.1) (u2.2.1) (u2.2.2)) := hD
  rw [hth, hM1] at hP hD
  subst hr2
  refine lv_istore (lv' := [(6, .int (itR M (xs (i + 1)) (xs (i + 2)) (lgJ (xs (i + 3)) (xs (i + 4))) (xs (i + 5)))), (5, .int (nI (itT M (xs (i + 1)) (xs (i + 2)) (lgJ (xs (i + 3)) (xs (i + 4))) (xs (i + 5))))), (0, .ref (b)), (1, .ref (a 0)), (2, .ref (a' 0)), (3, .ref (o)), (4, .int (nI (i)))]) hx hb dL_law_1652 hl (by decide) rfl (fun ls hl => ?_)
  refine lv_aload_n hx hb dL_law_1654 rfl (lv_at hl 4 rfl) ?_
  refine wc_Vi (As := []) (rest := []) ⟨hx, hb, hml, hown, hts⟩ (c_X6_thrown l D cI cJ cZ a' (itT M (xs (i + 1)) (xs (i + 2)) (lgJ (xs (i + 3)) (xs (i + 4))) (xs (i + 5))) (u2.2.1) (itM M (xs (i + 1)) (xs (i + 2)) (lgJ (xs (i + 3)) (xs (i + 4))) (xs (i + 5))) hR1.2.1) (cwV 0 hts gL_law_X6_thrown rfl rfl rfl (by decide +kernel) ⟨Nat.le_of_ble_eq_true rfl, Nat.le_of_ble_eq_true rfl⟩) (fr_r hP) hKW 0 rfl rfl rfl hl.1 rfl (Nat.le_of_ble_eq_true rfl) dL_law_1655 ⟨by omega, by omega⟩ (fun rr9 hr9 => ?_)
  subst hr9
  refine lv_iload hx hb dL_law_1658 (lv_at hl 1 rfl) ?_
  refine lv_icmp_eq (tgt := 1665) hx hb dL_law_1660 (by decide) (fun c9 => ?_) (fun c9 => absurd rfl c9)
  refine lv_iload hx hb dL_law_1665 (lv_at hl 1 rfl) ?_
  refine wn_if_ne (a := itT M (xs (i + 1)) (xs (i + 2)) (lgJ (xs (i + 3)) (xs (i + 4))) (xs (i + 5))) (tgt := 1682) hx hb (nI_z (Nat.lt_trans (tb_itT _ _ _ _ _) (by decide))) dL_law_1667 (by decide) (fun c0 => ?_) (fun c0 => ?_)
  · refine lv_goto (tgt := 2089) hx hb dL_law_1682 (by decide) ?_
    refine W.widen (k := cells + 3) (n := slots + 346) (by omega) (by omega) ?_
    exact kk _ _ _ _ _ _ _ _ _ hR1 hP hD hS ls (lv_sub hl [2, 3, 4, 5, 6] rfl)
  · refine lv_aload_n hx hb dL_law_1670 rfl (lv_at hl 5 rfl) ?_
    refine lv_iconst (v := nI (0)) hx hb dL_law_1671 (by decide) ?_
    refine wa_l (i := 0) (v := u.1 0) hx hb hK hP 0 1 rfl rfl rfl (by decide) (by decide) dL_law_1672 ?_
    refine lv_iload hx hb dL_law_1673 (lv_at hl 0 rfl) ?_
    refine lv_i2l (v := (itR M (xs (i + 1)) (xs (i + 2)) (lgJ (xs (i + 3)) (xs (i + 4))) (xs (i + 5))).toInt64) hx hb dL_law_1675 rfl ?_
    refine wl_eq (tgt := 1682) hx hb dL_law_1676 dL_law_1677 (by decide) (fun c8 => ?_) (fun c8 => absurd (hout c0) c8)
    refine lv_goto (tgt := 2089) hx hb dL_law_1682 (by decide) ?_
    refine W.widen (k := cells + 3) (n := slots + 346) (by omega) (by omega) ?_
    exact kk _ _ _ _ _ _ _ _ _ hR1 hP hD hS ls (lv_sub hl [2, 3, 4, 5, 6] rfl)
set_option maxHeartbeats 4000000 in
set_option maxRecDepth 100000 in
theorem lc_take {p : Program} {l : Launch} {e : Env} {s : State} {m : MethodId} {below : List Frame} {meth : Method} {c : Code} {D : va_G} {cI cJ cZ cV cR : ClassId} {b L : Nat} {xs : Nat → Int32} {A : Nat → Prop} {a a' : Nat → Nat} {o cells slots : Nat} {Q : State → Prop} (F : LF p l s m c D cI cJ cZ cV cR b L xs A) (hcl : cells + 3 ≤ room_1.cells) (hsl : slots + 346 ≤ room_1.slots) (i : Nat) (hi : i + 8 ≤ L) (C : CT) (VT : Nat → VRec) (RT : Nat → RRec) (M : MT) (th : Nat) (lds : Nat → Bool) (ov : Nat → Int64) (H : Heap) (locs : List Loc) (hR : Rel cI cZ C VT RT M) (hP : va_P D vwCl ((oW cJ o (ov) ++ kW cI cJ cZ cV cR a (C)) ++ mW cI cJ cZ a' (th) (lds) (M)) H) (hD : va_D A ((oW cJ o (ov) ++ kW cI cJ cZ cV cR a (C)) ++ mW cI cJ cZ a' (th) (lds) (M))) (hS : va_S A s.heap H locs) (ls : Array Slot) (hl : lv_has ls 8 [(0, .ref b), (1, .ref (a 0)), (2, .ref (a' 0)), (3, .ref o), (4, .int (nI (i)))]) (kk : ∀ (C : CT) (VT : Nat → VRec) (RT : Nat → RRec) (M : MT) (th : Nat) (lds : Nat → Bool) (ov : Nat → Int64) (H : Heap) (locs : List Loc), Rel cI cZ C VT RT M → va_P D vwCl ((oW cJ o (ov) ++ kW cI cJ cZ cV cR a (C)) ++ mW cI cJ cZ a' (th) (lds) (M)) H → va_D A ((oW cJ o (ov) ++ kW cI cJ cZ cV cR a (C)) ++ mW cI cJ cZ a' (th) (lds) (M)) → va_S A s.heap H locs → ∀ ls : Array Slot, lv_has ls 8 [(0, .ref b), (1, .ref (a 0)), (2, .ref (a' 0)), (3, .ref o), (4, .int (nI (i)))] → W p l e room_1 s m #[Value.ref b] below meth c H locs (cells + 3) (slots + 346) Q (F0 m 2089 ls [])) : W p l e room_1 s m #[Value.ref b] below meth c H locs (cells) (slots) Q (F0 m 1685 ls []) := by
  obtain ⟨htr, hx, hb, hml, hown, hts, hX, hbl, hbA, hL, hA, hK, hYE, hc92⟩ := F
  have hKW : va_K D vwCl (tyW cI cJ cZ) s := hK.sub (tys' := tyW cI cJ cZ) [0, 1, 2] rfl
  refine lv_aload_n hx hb dL_law_1685 rfl (lv_at hl 1 rfl) ?_
  refine lv_aload_n hx hb dL_law_1686 rfl (lv_at hl 0 rfl) ?_
  refine lv_iload hx hb dL_law_1687 (lv_at hl 4 rfl) ?_
  refine lv_iconst (v := nI (1)) hx hb dL_law_1689 (by decide) ?_
  refine lv_iadd hx hb dL_law_1690 (ww_top (y := nI (i + 1)) (nI_addn _ _) ?_)
  refine ws_sld (i := i + 1) hx hb hX hbl hbA hS (by omega) hL dL_law_1691 ?_
  refine lv_aload_n hx hb dL_law_1692 rfl (lv_at hl 0 rfl) ?_
  refine lv_iload hx hb dL_law_1693 (lv_at hl 4 rfl) ?_
  refine lv_iconst (v := nI (2)) hx hb dL_law_1695 (by decide) ?_
  refine lv_iadd hx hb dL_law_1696 (ww_top (y := nI (i + 2)) (nI_addn _ _) ?_)
  refine ws_sld (i := i + 2) hx hb hX hbl hbA hS (by omega) hL dL_law_1697 ?_
  refine lv_aload_n hx hb dL_law_1698 rfl (lv_at hl 3 rfl) ?_
  have hP := fr_comm hP
  have hD := fd_comm hD
  refine wf_SWi (rest := []) (X := mW cI cJ cZ a' (th) (lds) (M)) (wf := fun u : (Nat → Int64) × CT => oW cJ o u.1 ++ kW cI cJ cZ cV cR a u.2) ⟨hx, hb, hml, hown, hts⟩ (w_L_take l htr D cI cJ cZ cV cR a C VT RT hR.ci o ov (xs (i + 1)) (xs (i + 2)) H.size) (vx_cwSW 4 hts gL_law_L_take rfl rfl rfl (by decide +kernel) ⟨Nat.le_of_ble_eq_true rfl, Nat.le_of_ble_eq_true rfl⟩) hP hK hD hS hA hYE rfl hl.1 rfl (Nat.le_of_ble_eq_true rfl) dL_law_1699 ⟨by omega, by omega⟩ (fun rr u hu H locs hP hD hS => ?_)
  obtain ⟨hrr, hout, VT1, RT1, hR1⟩ := J_take hR hu
  subst hrr
  have hP : va_P D vwCl ((oW cJ o (u.1) ++ kW cI cJ cZ cV cR a (u.2)) ++ mW cI cJ cZ a' (th) (lds) (M)) H := fr_comm hP
  have hD : va_D A ((oW cJ o (u.1) ++ kW cI cJ cZ cV cR a (u.2)) ++ mW cI cJ cZ a' (th) (lds) (M)) := fd_comm hD
  refine lv_istore (lv' := [(5, .int (nI (takeT M (xs (i + 1)) (xs (i + 2))))), (0, .ref (b)), (1, .ref (a 0)), (2, .ref (a' 0)), (3, .ref (o)), (4, .int (nI (i)))]) hx hb dL_law_1702 hl (by decide) rfl (fun ls hl => ?_)
  refine lv_aload_n hx hb dL_law_1704 rfl (lv_at hl 3 rfl) ?_
  refine lv_aload_n hx hb dL_law_1705 rfl (lv_at hl 1 rfl) ?_
  refine lv_iload hx hb dL_law_1706 (lv_at hl 5 rfl) ?_
  refine lv_iconst (v := nI (1)) hx hb dL_law_1708 (by decide) ?_
  refine lv_iadd hx hb dL_law_1709 (ww_top (y := nI (i + 1)) (nI_addn _ _) ?_)
  refine ws_sld (i := i + 1) hx hb hX hbl hbA hS (by omega) hL dL_law_1710 ?_
  refine lv_aload_n hx hb dL_law_1711 rfl (lv_at hl 1 rfl) ?_
  refine lv_iload hx hb dL_law_1712 (lv_at hl 5 rfl) ?_
  refine lv_iconst (v := nI (2)) hx hb dL_law_1714 (by decide) ?_
  refine lv_iadd hx hb dL_law_1715 (ww_top (y := nI (i + 2)) (nI_addn _ _) ?_)
  refine ws_sld (i := i + 2) hx hb hX hbl hbA hS (by omega) hL dL_law_1716 ?_
  refine wf_VWi (rest := []) (X := oW cJ o (u.1) ++ kW cI cJ cZ cV cR a (u.2)) (wf := mWu cI cJ cZ a') ⟨hx, hb, hml, hown, hts⟩ (c_X6_take l D cI cJ cZ a' (th) (lds) (M) hR.2.1 (xs (i + 1)) (xs (i + 2))  H.size) (cwV 2 hts gL_law_X6_take rfl rfl rfl (by decide +kernel) ⟨Nat.le_of_ble_eq_true rfl, Nat.le_of_ble_eq_true rfl⟩) hP hKW hD hS hA 0 rfl rfl rfl hl.1 rfl (Nat.le_of_ble_eq_true rfl) dL_law_1717 ⟨by omega, by omega⟩ (fun rr2 u2 hu2 H locs hP hD hS => ?_)
  obtain ⟨hr2, hth, hM1⟩ := hu2
  have hP : va_P D vwCl ((oW cJ o (u.1) ++ kW cI cJ cZ cV cR a (u.2)) ++ mW cI cJ cZ a' (u2.1) (u2.2.1) (u2.2.2)) H := hP
  have hD : va_D A ((oW cJ o (u.1) ++ kW cI cJ cZ cV cR a (u.2)) ++ mW cI cJ cZ a' (u2.1) (u2.2.1) (u2.2.2)) := hD
  rw [hth, hM1] at hP hD
  subst hr2
  refine lv_istore (lv' := [(6, .int (takeR M (xs (i + 1)) (xs (i + 2)))), (5, .int (nI (takeT M (xs (i + 1)) (xs (i + 2))))), (0, .ref (b)), (1, .ref (a 0)), (2, .ref (a' 0)), (3, .ref (o)), (4, .int (nI (i)))]) hx hb dL_law_1720 hl (by decide) rfl (fun ls hl => ?_)
  refine lv_aload_n hx hb dL_law_1722 rfl (lv_at hl 4 rfl) ?_
  refine wc_Vi (As := []) (rest := []) ⟨hx, hb, hml, hown, hts⟩ (c_X6_thrown l D cI cJ cZ a' (takeT M (xs (i + 1)) (xs (i + 2))) (u2.2.1) (takeM M (xs (i + 1)) (xs (i + 2))) hR1.2.1) (cwV 0 hts gL_law_X6_thrown rfl rfl rfl (by decide +kernel) ⟨Nat.le_of_ble_eq_true rfl, Nat.le_of_ble_eq_true rfl⟩) (fr_r hP) hKW 0 rfl rfl rfl hl.1 rfl (Nat.le_of_ble_eq_true rfl) dL_law_1723 ⟨by omega, by omega⟩ (fun rr9 hr9 => ?_)
  subst hr9
  refine lv_iload hx hb dL_law_1726 (lv_at hl 1 rfl) ?_
  refine lv_icmp_eq (tgt := 1733) hx hb dL_law_1728 (by decide) (fun c9 => ?_) (fun c9 => absurd rfl c9)
  refine lv_iload hx hb dL_law_1733 (lv_at hl 1 rfl) ?_
  refine wn_if_ne (a := takeT M (xs (i + 1)) (xs (i + 2))) (tgt := 1750) hx hb (nI_z (Nat.lt_trans (tb_takeT _ _ _) (by decide))) dL_law_1735 (by decide) (fun c0 => ?_) (fun c0 => ?_)
  · refine lv_goto (tgt := 2089) hx hb dL_law_1750 (by decide) ?_
    refine W.widen (k := cells + 3) (n := slots + 346) (by omega) (by omega) ?_
    exact kk _ _ _ _ _ _ _ _ _ hR1 hP hD hS ls (lv_sub hl [2, 3, 4, 5, 6] rfl)
  · refine lv_aload_n hx hb dL_law_1738 rfl (lv_at hl 5 rfl) ?_
    refine lv_iconst (v := nI (0)) hx hb dL_law_1739 (by decide) ?_
    refine wa_l (i := 0) (v := u.1 0) hx hb hK hP 0 1 rfl rfl rfl (by decide) (by decide) dL_law_1740 ?_
    refine lv_iload hx hb dL_law_1741 (lv_at hl 0 rfl) ?_
    refine lv_i2l (v := (takeR M (xs (i + 1)) (xs (i + 2))).toInt64) hx hb dL_law_1743 rfl ?_
    refine wl_eq (tgt := 1750) hx hb dL_law_1744 dL_law_1745 (by decide) (fun c8 => ?_) (fun c8 => absurd (hout c0) c8)
    refine lv_goto (tgt := 2089) hx hb dL_law_1750 (by decide) ?_
    refine W.widen (k := cells + 3) (n := slots + 346) (by omega) (by omega) ?_
    exact kk _ _ _ _ _ _ _ _ _ hR1 hP hD hS ls (lv_sub hl [2, 3, 4, 5, 6] rfl)
set_option maxHeartbeats 4000000 in
set_option maxRecDepth 100000 in
theorem lc_page {p : Program} {l : Launch} {e : Env} {s : State} {m : MethodId} {below : List Frame} {meth : Method} {c : Code} {D : va_G} {cI cJ cZ cV cR : ClassId} {b L : Nat} {xs : Nat → Int32} {A : Nat → Prop} {a a' : Nat → Nat} {o cells slots : Nat} {Q : State → Prop} (F : LF p l s m c D cI cJ cZ cV cR b L xs A) (hcl : cells + 3 ≤ room_1.cells) (hsl : slots + 346 ≤ room_1.slots) (i : Nat) (hi : i + 8 ≤ L) (C : CT) (VT : Nat → VRec) (RT : Nat → RRec) (M : MT) (th : Nat) (lds : Nat → Bool) (ov : Nat → Int64) (H : Heap) (locs : List Loc) (hR : Rel cI cZ C VT RT M) (hP : va_P D vwCl ((oW cJ o (ov) ++ kW cI cJ cZ cV cR a (C)) ++ mW cI cJ cZ a' (th) (lds) (M)) H) (hD : va_D A ((oW cJ o (ov) ++ kW cI cJ cZ cV cR a (C)) ++ mW cI cJ cZ a' (th) (lds) (M))) (hS : va_S A s.heap H locs) (ls : Array Slot) (hl : lv_has ls 8 [(0, .ref b), (1, .ref (a 0)), (2, .ref (a' 0)), (3, .ref o), (4, .int (nI (i)))]) (kk : ∀ (C : CT) (VT : Nat → VRec) (RT : Nat → RRec) (M : MT) (th : Nat) (lds : Nat → Bool) (ov : Nat → Int64) (H : Heap) (locs : List Loc), Rel cI cZ C VT RT M → va_P D vwCl ((oW cJ o (ov) ++ kW cI cJ cZ cV cR a (C)) ++ mW cI cJ cZ a' (th) (lds) (M)) H → va_D A ((oW cJ o (ov) ++ kW cI cJ cZ cV cR a (C)) ++ mW cI cJ cZ a' (th) (lds) (M)) → va_S A s.heap H locs → ∀ ls : Array Slot, lv_has ls 8 [(0, .ref b), (1, .ref (a 0)), (2, .ref (a' 0)), (3, .ref o), (4, .int (nI (i)))] → W p l e room_1 s m #[Value.ref b] below meth c H locs (cells + 3) (slots + 346) Q (F0 m 2089 ls [])) : W p l e room_1 s m #[Value.ref b] below meth c H locs (cells) (slots) Q (F0 m 1753 ls []) := by
  obtain ⟨htr, hx, hb, hml, hown, hts, hX, hbl, hbA, hL, hA, hK, hYE, hc92⟩ := F
  have hKW : va_K D vwCl (tyW cI cJ cZ) s := hK.sub (tys' := tyW cI cJ cZ) [0, 1, 2] rfl
  refine lv_aload_n hx hb dL_law_1753 rfl (lv_at hl 1 rfl) ?_
  refine lv_aload_n hx hb dL_law_1754 rfl (lv_at hl 0 rfl) ?_
  refine lv_iload hx hb dL_law_1755 (lv_at hl 4 rfl) ?_
  refine lv_iconst (v := nI (1)) hx hb dL_law_1757 (by decide) ?_
  refine lv_iadd hx hb dL_law_1758 (ww_top (y := nI (i + 1)) (nI_addn _ _) ?_)
  refine ws_sld (i := i + 1) hx hb hX hbl hbA hS (by omega) hL dL_law_1759 ?_
  refine lv_aload_n hx hb dL_law_1760 rfl (lv_at hl 3 rfl) ?_
  have hP := fr_comm hP
  have hD := fd_comm hD
  refine wf_SWi (rest := []) (X := mW cI cJ cZ a' (th) (lds) (M)) (wf := fun u : (Nat → Int64) × CT => oW cJ o u.1 ++ kW cI cJ cZ cV cR a u.2) ⟨hx, hb, hml, hown, hts⟩ (w_L_page l htr D cI cJ cZ cV cR a C VT RT hR.ci o ov (xs (i + 1)) H.size) (vx_cwSW 3 hts gL_law_L_page rfl rfl rfl (by decide +kernel) ⟨Nat.le_of_ble_eq_true rfl, Nat.le_of_ble_eq_true rfl⟩) hP hK hD hS hA hYE rfl hl.1 rfl (Nat.le_of_ble_eq_true rfl) dL_law_1761 ⟨by omega, by omega⟩ (fun rr u hu H locs hP hD hS => ?_)
  obtain ⟨hrr, hout, VT1, RT1, hR1⟩ := J_page hR hu
  subst hrr
  have hP : va_P D vwCl ((oW cJ o (u.1) ++ kW cI cJ cZ cV cR a (u.2)) ++ mW cI cJ cZ a' (th) (lds) (M)) H := fr_comm hP
  have hD : va_D A ((oW cJ o (u.1) ++ kW cI cJ cZ cV cR a (u.2)) ++ mW cI cJ cZ a' (th) (lds) (M)) := fd_comm hD
  refine lv_istore (lv' := [(5, .int (nI (pageT M (xs (i + 1))))), (0, .ref (b)), (1, .ref (a 0)), (2, .ref (a' 0)), (3, .ref (o)), (4, .int (nI (i)))]) hx hb dL_law_1764 hl (by decide) rfl (fun ls hl => ?_)
  refine lv_aload_n hx hb dL_law_1766 rfl (lv_at hl 3 rfl) ?_
  refine lv_aload_n hx hb dL_law_1767 rfl (lv_at hl 1 rfl) ?_
  refine lv_iload hx hb dL_law_1768 (lv_at hl 5 rfl) ?_
  refine lv_iconst (v := nI (1)) hx hb dL_law_1770 (by decide) ?_
  refine lv_iadd hx hb dL_law_1771 (ww_top (y := nI (i + 1)) (nI_addn _ _) ?_)
  refine ws_sld (i := i + 1) hx hb hX hbl hbA hS (by omega) hL dL_law_1772 ?_
  refine wf_VWi (rest := []) (X := oW cJ o (u.1) ++ kW cI cJ cZ cV cR a (u.2)) (wf := mWu cI cJ cZ a') ⟨hx, hb, hml, hown, hts⟩ (c_X6_page l D cI cJ cZ a' (th) (lds) (M) hR.2.1 (xs (i + 1))  H.size) (cwV 1 hts gL_law_X6_page rfl rfl rfl (by decide +kernel) ⟨Nat.le_of_ble_eq_true rfl, Nat.le_of_ble_eq_true rfl⟩) hP hKW hD hS hA 0 rfl rfl rfl hl.1 rfl (Nat.le_of_ble_eq_true rfl) dL_law_1773 ⟨by omega, by omega⟩ (fun rr2 u2 hu2 H locs hP hD hS => ?_)
  obtain ⟨hr2, hth, hM1⟩ := hu2
  have hP : va_P D vwCl ((oW cJ o (u.1) ++ kW cI cJ cZ cV cR a (u.2)) ++ mW cI cJ cZ a' (u2.1) (u2.2.1) (u2.2.2)) H := hP
  have hD : va_D A ((oW cJ o (u.1) ++ kW cI cJ cZ cV cR a (u.2)) ++ mW cI cJ cZ a' (u2.1) (u2.2.1) (u2.2.2)) := hD
  rw [hth, hM1] at hP hD
  subst hr2
  refine lv_istore (lv' := [(6, .int (pageR M (xs (i + 1)))), (5, .int (nI (pageT M (xs (i + 1))))), (0, .ref (b)), (1, .ref (a 0)), (2, .ref (a' 0)), (3, .ref (o)), (4, .int (nI (i)))]) hx hb dL_law_1776 hl (by decide) rfl (fun ls hl => ?_)
  refine lv_aload_n hx hb dL_law_1778 rfl (lv_at hl 4 rfl) ?_
  refine wc_Vi (As := []) (rest := []) ⟨hx, hb, hml, hown, hts⟩ (c_X6_thrown l D cI cJ cZ a' (pageT M (xs (i + 1))) (u2.2.1) (M) hR1.2.1) (cwV 0 hts gL_law_X6_thrown rfl rfl rfl (by decide +kernel) ⟨Nat.le_of_ble_eq_true rfl, Nat.le_of_ble_eq_true rfl⟩) (fr_r hP) hKW 0 rfl rfl rfl hl.1 rfl (Nat.le_of_ble_eq_true rfl) dL_law_1779 ⟨by omega, by omega⟩ (fun rr9 hr9 => ?_)
  subst hr9
  refine lv_iload hx hb dL_law_1782 (lv_at hl 1 rfl) ?_
  refine lv_icmp_eq (tgt := 1789) hx hb dL_law_1784 (by decide) (fun c9 => ?_) (fun c9 => absurd rfl c9)
  refine lv_iload hx hb dL_law_1789 (lv_at hl 1 rfl) ?_
  refine wn_if_ne (a := pageT M (xs (i + 1))) (tgt := 1806) hx hb (nI_z (Nat.lt_trans (tb_pageT _ _) (by decide))) dL_law_1791 (by decide) (fun c0 => ?_) (fun c0 => ?_)
  · refine lv_goto (tgt := 2089) hx hb dL_law_1806 (by decide) ?_
    refine W.widen (k := cells + 3) (n := slots + 346) (by omega) (by omega) ?_
    exact kk _ _ _ _ _ _ _ _ _ hR1 hP hD hS ls (lv_sub hl [2, 3, 4, 5, 6] rfl)
  · refine lv_aload_n hx hb dL_law_1794 rfl (lv_at hl 5 rfl) ?_
    refine lv_iconst (v := nI (0)) hx hb dL_law_1795 (by decide) ?_
    refine wa_l (i := 0) (v := u.1 0) hx hb hK hP 0 1 rfl rfl rfl (by decide) (by decide) dL_law_1796 ?_
    refine lv_iload hx hb dL_law_1797 (lv_at hl 0 rfl) ?_
    refine lv_i2l (v := (pageR M (xs (i + 1))).toInt64) hx hb dL_law_1799 rfl ?_
    refine wl_eq (tgt := 1806) hx hb dL_law_1800 dL_law_1801 (by decide) (fun c8 => ?_) (fun c8 => absurd (hout c0) c8)
    refine lv_goto (tgt := 2089) hx hb dL_law_1806 (by decide) ?_
    refine W.widen (k := cells + 3) (n := slots + 346) (by omega) (by omega) ?_
    exact kk _ _ _ _ _ _ _ _ _ hR1 hP hD hS ls (lv_sub hl [2, 3, 4, 5, 6] rfl)
set_option maxHeartbeats 4000000 in
set_option maxRecDepth 100000 in
theorem lc_next {p : Program} {l : Launch} {e : Env} {s : State} {m : MethodId} {below : List Frame} {meth : Method} {c : Code} {D : va_G} {cI cJ cZ cV cR : ClassId} {b L : Nat} {xs : Nat → Int32} {A : Nat → Prop} {a a' : Nat → Nat} {o cells slots : Nat} {Q : State → Prop} (F : LF p l s m c D cI cJ cZ cV cR b L xs A) (hcl : cells + 3 ≤ room_1.cells) (hsl : slots + 346 ≤ room_1.slots) (i : Nat) (hi : i + 8 ≤ L) (C : CT) (VT : Nat → VRec) (RT : Nat → RRec) (M : MT) (th : Nat) (lds : Nat → Bool) (ov : Nat → Int64) (H : Heap) (locs : List Loc) (hR : Rel cI cZ C VT RT M) (hP : va_P D vwCl ((oW cJ o (ov) ++ kW cI cJ cZ cV cR a (C)) ++ mW cI cJ cZ a' (th) (lds) (M)) H) (hD : va_D A ((oW cJ o (ov) ++ kW cI cJ cZ cV cR a (C)) ++ mW cI cJ cZ a' (th) (lds) (M))) (hS : va_S A s.heap H locs) (ls : Array Slot) (hl : lv_has ls 8 [(0, .ref b), (1, .ref (a 0)), (2, .ref (a' 0)), (3, .ref o), (4, .int (nI (i)))]) (kk : ∀ (C : CT) (VT : Nat → VRec) (RT : Nat → RRec) (M : MT) (th : Nat) (lds : Nat → Bool) (ov : Nat → Int64) (H : Heap) (locs : List Loc), Rel cI cZ C VT RT M → va_P D vwCl ((oW cJ o (ov) ++ kW cI cJ cZ cV cR a (C)) ++ mW cI cJ cZ a' (th) (lds) (M)) H → va_D A ((oW cJ o (ov) ++ kW cI cJ cZ cV cR a (C)) ++ mW cI cJ cZ a' (th) (lds) (M)) → va_S A s.heap H locs → ∀ ls : Array Slot, lv_has ls 8 [(0, .ref b), (1, .ref (a 0)), (2, .ref (a' 0)), (3, .ref o), (4, .int (nI (i)))] → W p l e room_1 s m #[Value.ref b] below meth c H locs (cells + 3) (slots + 346) Q (F0 m 2089 ls [])) : W p l e room_1 s m #[Value.ref b] below meth c H locs (cells) (slots) Q (F0 m 1809 ls []) := by
  obtain ⟨htr, hx, hb, hml, hown, hts, hX, hbl, hbA, hL, hA, hK, hYE, hc92⟩ := F
  have hKW : va_K D vwCl (tyW cI cJ cZ) s := hK.sub (tys' := tyW cI cJ cZ) [0, 1, 2] rfl
  refine lv_aload_n hx hb dL_law_1809 rfl (lv_at hl 1 rfl) ?_
  refine lv_aload_n hx hb dL_law_1810 rfl (lv_at hl 0 rfl) ?_
  refine lv_iload hx hb dL_law_1811 (lv_at hl 4 rfl) ?_
  refine lv_iconst (v := nI (1)) hx hb dL_law_1813 (by decide) ?_
  refine lv_iadd hx hb dL_law_1814 (ww_top (y := nI (i + 1)) (nI_addn _ _) ?_)
  refine ws_sld (i := i + 1) hx hb hX hbl hbA hS (by omega) hL dL_law_1815 ?_
  refine lv_aload_n hx hb dL_law_1816 rfl (lv_at hl 3 rfl) ?_
  have hP := fr_comm hP
  have hD := fd_comm hD
  refine wf_SWi (rest := []) (X := mW cI cJ cZ a' (th) (lds) (M)) (wf := fun u : (Nat → Int64) × CT => oW cJ o u.1 ++ kW cI cJ cZ cV cR a u.2) ⟨hx, hb, hml, hown, hts⟩ (w_L_next l htr D cI cJ cZ cV cR a C VT RT hR.ci o ov (xs (i + 1)) H.size) (vx_cwSW 3 hts gL_law_L_next rfl rfl rfl (by decide +kernel) ⟨Nat.le_of_ble_eq_true rfl, Nat.le_of_ble_eq_true rfl⟩) hP hK hD hS hA hYE rfl hl.1 rfl (Nat.le_of_ble_eq_true rfl) dL_law_1817 ⟨by omega, by omega⟩ (fun rr u hu H locs hP hD hS => ?_)
  obtain ⟨hrr, hout, VT1, RT1, hR1⟩ := J_next hR hu
  subst hrr
  have hP : va_P D vwCl ((oW cJ o (u.1) ++ kW cI cJ cZ cV cR a (u.2)) ++ mW cI cJ cZ a' (th) (lds) (M)) H := fr_comm hP
  have hD : va_D A ((oW cJ o (u.1) ++ kW cI cJ cZ cV cR a (u.2)) ++ mW cI cJ cZ a' (th) (lds) (M)) := fd_comm hD
  refine lv_istore (lv' := [(5, .int (nI (nxT M (xs (i + 1))))), (0, .ref (b)), (1, .ref (a 0)), (2, .ref (a' 0)), (3, .ref (o)), (4, .int (nI (i)))]) hx hb dL_law_1820 hl (by decide) rfl (fun ls hl => ?_)
  refine lv_aload_n hx hb dL_law_1822 rfl (lv_at hl 3 rfl) ?_
  refine lv_aload_n hx hb dL_law_1823 rfl (lv_at hl 1 rfl) ?_
  refine lv_iload hx hb dL_law_1824 (lv_at hl 5 rfl) ?_
  refine lv_iconst (v := nI (1)) hx hb dL_law_1826 (by decide) ?_
  refine lv_iadd hx hb dL_law_1827 (ww_top (y := nI (i + 1)) (nI_addn _ _) ?_)
  refine ws_sld (i := i + 1) hx hb hX hbl hbA hS (by omega) hL dL_law_1828 ?_
  refine wf_VWi (rest := []) (X := oW cJ o (u.1) ++ kW cI cJ cZ cV cR a (u.2)) (wf := mWu cI cJ cZ a') ⟨hx, hb, hml, hown, hts⟩ (c_X6_next l D cI cJ cZ a' (th) (lds) (M) hR.2.1 (xs (i + 1))  H.size) (cwV 1 hts gL_law_X6_next rfl rfl rfl (by decide +kernel) ⟨Nat.le_of_ble_eq_true rfl, Nat.le_of_ble_eq_true rfl⟩) hP hKW hD hS hA 0 rfl rfl rfl hl.1 rfl (Nat.le_of_ble_eq_true rfl) dL_law_1829 ⟨by omega, by omega⟩ (fun rr2 u2 hu2 H locs hP hD hS => ?_)
  obtain ⟨hr2, hth, hM1⟩ := hu2
  have hP : va_P D vwCl ((oW cJ o (u.1) ++ kW cI cJ cZ cV cR a (u.2)) ++ mW cI cJ cZ a' (u2.1) (u2.2.1) (u2.2.2)) H := hP
  have hD : va_D A ((oW cJ o (u.1) ++ kW cI cJ cZ cV cR a (u.2)) ++ mW cI cJ cZ a' (u2.1) (u2.2.1) (u2.2.2)) := hD
  rw [hth, hM1] at hP hD
  subst hr2
  refine lv_istore (lv' := [(6, .int (nxR M (xs (i + 1)))), (5, .int (nI (nxT M (xs (i + 1))))), (0, .ref (b)), (1, .ref (a 0)), (2, .ref (a' 0)), (3, .ref (o)), (4, .int (nI (i)))]) hx hb dL_law_1832 hl (by decide) rfl (fun ls hl => ?_)
  refine lv_aload_n hx hb dL_law_1834 rfl (lv_at hl 4 rfl) ?_
  refine wc_Vi (As := []) (rest := []) ⟨hx, hb, hml, hown, hts⟩ (c_X6_thrown l D cI cJ cZ a' (nxT M (xs (i + 1))) (u2.2.1) (nxM M (xs (i + 1))) hR1.2.1) (cwV 0 hts gL_law_X6_thrown rfl rfl rfl (by decide +kernel) ⟨Nat.le_of_ble_eq_true rfl, Nat.le_of_ble_eq_true rfl⟩) (fr_r hP) hKW 0 rfl rfl rfl hl.1 rfl (Nat.le_of_ble_eq_true rfl) dL_law_1835 ⟨by omega, by omega⟩ (fun rr9 hr9 => ?_)
  subst hr9
  refine lv_iload hx hb dL_law_1838 (lv_at hl 1 rfl) ?_
  refine lv_icmp_eq (tgt := 1845) hx hb dL_law_1840 (by decide) (fun c9 => ?_) (fun c9 => absurd rfl c9)
  refine lv_iload hx hb dL_law_1845 (lv_at hl 1 rfl) ?_
  refine wn_if_ne (a := nxT M (xs (i + 1))) (tgt := 1862) hx hb (nI_z (Nat.lt_trans (tb_nxT _ _) (by decide))) dL_law_1847 (by decide) (fun c0 => ?_) (fun c0 => ?_)
  · refine lv_goto (tgt := 2089) hx hb dL_law_1862 (by decide) ?_
    refine W.widen (k := cells + 3) (n := slots + 346) (by omega) (by omega) ?_
    exact kk _ _ _ _ _ _ _ _ _ hR1 hP hD hS ls (lv_sub hl [2, 3, 4, 5, 6] rfl)
  · refine lv_aload_n hx hb dL_law_1850 rfl (lv_at hl 5 rfl) ?_
    refine lv_iconst (v := nI (0)) hx hb dL_law_1851 (by decide) ?_
    refine wa_l (i := 0) (v := u.1 0) hx hb hK hP 0 1 rfl rfl rfl (by decide) (by decide) dL_law_1852 ?_
    refine lv_iload hx hb dL_law_1853 (lv_at hl 0 rfl) ?_
    refine lv_i2l (v := (nxR M (xs (i + 1))).toInt64) hx hb dL_law_1855 rfl ?_
    refine wl_eq (tgt := 1862) hx hb dL_law_1856 dL_law_1857 (by decide) (fun c8 => ?_) (fun c8 => absurd (hout c0) c8)
    refine lv_goto (tgt := 2089) hx hb dL_law_1862 (by decide) ?_
    refine W.widen (k := cells + 3) (n := slots + 346) (by omega) (by omega) ?_
    exact kk _ _ _ _ _ _ _ _ _ hR1 hP hD hS ls (lv_sub hl [2, 3, 4, 5, 6] rfl)
set_option maxHeartbeats 4000000 in
set_option maxRecDepth 100000 in
theorem lc_left {p : Program} {l : Launch} {e : Env} {s : State} {m : MethodId} {below : List Frame} {meth : Method} {c : Code} {D : va_G} {cI cJ cZ cV cR : ClassId} {b L : Nat} {xs : Nat → Int32} {A : Nat → Prop} {a a' : Nat → Nat} {o cells slots : Nat} {Q : State → Prop} (F : LF p l s m c D cI cJ cZ cV cR b L xs A) (hcl : cells + 3 ≤ room_1.cells) (hsl : slots + 346 ≤ room_1.slots) (i : Nat) (hi : i + 8 ≤ L) (C : CT) (VT : Nat → VRec) (RT : Nat → RRec) (M : MT) (th : Nat) (lds : Nat → Bool) (ov : Nat → Int64) (H : Heap) (locs : List Loc) (hR : Rel cI cZ C VT RT M) (hP : va_P D vwCl ((oW cJ o (ov) ++ kW cI cJ cZ cV cR a (C)) ++ mW cI cJ cZ a' (th) (lds) (M)) H) (hD : va_D A ((oW cJ o (ov) ++ kW cI cJ cZ cV cR a (C)) ++ mW cI cJ cZ a' (th) (lds) (M))) (hS : va_S A s.heap H locs) (ls : Array Slot) (hl : lv_has ls 8 [(0, .ref b), (1, .ref (a 0)), (2, .ref (a' 0)), (3, .ref o), (4, .int (nI (i)))]) (kk : ∀ (C : CT) (VT : Nat → VRec) (RT : Nat → RRec) (M : MT) (th : Nat) (lds : Nat → Bool) (ov : Nat → Int64) (H : Heap) (locs : List Loc), Rel cI cZ C VT RT M → va_P D vwCl ((oW cJ o (ov) ++ kW cI cJ cZ cV cR a (C)) ++ mW cI cJ cZ a' (th) (lds) (M)) H → va_D A ((oW cJ o (ov) ++ kW cI cJ cZ cV cR a (C)) ++ mW cI cJ cZ a' (th) (lds) (M)) → va_S A s.heap H locs → ∀ ls : Array Slot, lv_has ls 8 [(0, .ref b), (1, .ref (a 0)), (2, .ref (a' 0)), (3, .ref o), (4, .int (nI (i)))] → W p l e room_1 s m #[Value.ref b] below meth c H locs (cells + 3) (slots + 346) Q (F0 m 2089 ls [])) : W p l e room_1 s m #[Value.ref b] below meth c H locs (cells) (slots) Q (F0 m 1865 ls []) := by
  obtain ⟨htr, hx, hb, hml, hown, hts, hX, hbl, hbA, hL, hA, hK, hYE, hc92⟩ := F
  have hKW : va_K D vwCl (tyW cI cJ cZ) s := hK.sub (tys' := tyW cI cJ cZ) [0, 1, 2] rfl
  refine lv_aload_n hx hb dL_law_1865 rfl (lv_at hl 1 rfl) ?_
  refine lv_aload_n hx hb dL_law_1866 rfl (lv_at hl 0 rfl) ?_
  refine lv_iload hx hb dL_law_1867 (lv_at hl 4 rfl) ?_
  refine lv_iconst (v := nI (1)) hx hb dL_law_1869 (by decide) ?_
  refine lv_iadd hx hb dL_law_1870 (ww_top (y := nI (i + 1)) (nI_addn _ _) ?_)
  refine ws_sld (i := i + 1) hx hb hX hbl hbA hS (by omega) hL dL_law_1871 ?_
  refine lv_aload_n hx hb dL_law_1872 rfl (lv_at hl 3 rfl) ?_
  have hP := fr_comm hP
  have hD := fd_comm hD
  refine wf_SWi (rest := []) (X := mW cI cJ cZ a' (th) (lds) (M)) (wf := fun u : (Nat → Int64) × CT => oW cJ o u.1 ++ kW cI cJ cZ cV cR a u.2) ⟨hx, hb, hml, hown, hts⟩ (w_L_left l htr D cI cJ cZ cV cR a C VT RT hR.ci o ov (xs (i + 1)) H.size) (vx_cwSW 3 hts gL_law_L_left rfl rfl rfl (by decide +kernel) ⟨Nat.le_of_ble_eq_true rfl, Nat.le_of_ble_eq_true rfl⟩) hP hK hD hS hA hYE rfl hl.1 rfl (Nat.le_of_ble_eq_true rfl) dL_law_1873 ⟨by omega, by omega⟩ (fun rr u hu H locs hP hD hS => ?_)
  obtain ⟨hrr, hout, VT1, RT1, hR1⟩ := J_left hR hu
  subst hrr
  have hP : va_P D vwCl ((oW cJ o (u.1) ++ kW cI cJ cZ cV cR a (u.2)) ++ mW cI cJ cZ a' (th) (lds) (M)) H := fr_comm hP
  have hD : va_D A ((oW cJ o (u.1) ++ kW cI cJ cZ cV cR a (u.2)) ++ mW cI cJ cZ a' (th) (lds) (M)) := fd_comm hD
  refine lv_istore (lv' := [(5, .int (nI (lfT M (xs (i + 1))))), (0, .ref (b)), (1, .ref (a 0)), (2, .ref (a' 0)), (3, .ref (o)), (4, .int (nI (i)))]) hx hb dL_law_1876 hl (by decide) rfl (fun ls hl => ?_)
  refine lv_aload_n hx hb dL_law_1878 rfl (lv_at hl 3 rfl) ?_
  refine lv_aload_n hx hb dL_law_1879 rfl (lv_at hl 1 rfl) ?_
  refine lv_iload hx hb dL_law_1880 (lv_at hl 5 rfl) ?_
  refine lv_iconst (v := nI (1)) hx hb dL_law_1882 (by decide) ?_
  refine lv_iadd hx hb dL_law_1883 (ww_top (y := nI (i + 1)) (nI_addn _ _) ?_)
  refine ws_sld (i := i + 1) hx hb hX hbl hbA hS (by omega) hL dL_law_1884 ?_
  refine wf_VWi (rest := []) (X := oW cJ o (u.1) ++ kW cI cJ cZ cV cR a (u.2)) (wf := mWu cI cJ cZ a') ⟨hx, hb, hml, hown, hts⟩ (c_X6_left l D cI cJ cZ a' (th) (lds) (M) hR.2.1 (xs (i + 1)) ((RT (ix (xs (i + 1)))).n - (RT (ix (xs (i + 1)))).gv) (fun h8 h9 => P_left hR h8 h9) H.size) (cwV 1 hts gL_law_X6_left rfl rfl rfl (by decide +kernel) ⟨Nat.le_of_ble_eq_true rfl, Nat.le_of_ble_eq_true rfl⟩) hP hKW hD hS hA 0 rfl rfl rfl hl.1 rfl (Nat.le_of_ble_eq_true rfl) dL_law_1885 ⟨by omega, by omega⟩ (fun rr2 u2 hu2 H locs hP hD hS => ?_)
  obtain ⟨hr2, hth, hM1⟩ := hu2
  have hP : va_P D vwCl ((oW cJ o (u.1) ++ kW cI cJ cZ cV cR a (u.2)) ++ mW cI cJ cZ a' (u2.1) (u2.2.1) (u2.2.2)) H := hP
  have hD : va_D A ((oW cJ o (u.1) ++ kW cI cJ cZ cV cR a (u.2)) ++ mW cI cJ cZ a' (u2.1) (u2.2.1) (u2.2.2)) := hD
  rw [hth, hM1] at hP hD
  subst hr2
  refine lv_istore (lv' := [(6, .int (lfR M (xs (i + 1)) ((RT (ix (xs (i + 1)))).n - (RT (ix (xs (i + 1)))).gv))), (5, .int (nI (lfT M (xs (i + 1))))), (0, .ref (b)), (1, .ref (a 0)), (2, .ref (a' 0)), (3, .ref (o)), (4, .int (nI (i)))]) hx hb dL_law_1888 hl (by decide) rfl (fun ls hl => ?_)
  refine lv_aload_n hx hb dL_law_1890 rfl (lv_at hl 4 rfl) ?_
  refine wc_Vi (As := []) (rest := []) ⟨hx, hb, hml, hown, hts⟩ (c_X6_thrown l D cI cJ cZ a' (lfT M (xs (i + 1))) (u2.2.1) (M) hR1.2.1) (cwV 0 hts gL_law_X6_thrown rfl rfl rfl (by decide +kernel) ⟨Nat.le_of_ble_eq_true rfl, Nat.le_of_ble_eq_true rfl⟩) (fr_r hP) hKW 0 rfl rfl rfl hl.1 rfl (Nat.le_of_ble_eq_true rfl) dL_law_1891 ⟨by omega, by omega⟩ (fun rr9 hr9 => ?_)
  subst hr9
  refine lv_iload hx hb dL_law_1894 (lv_at hl 1 rfl) ?_
  refine lv_icmp_eq (tgt := 1901) hx hb dL_law_1896 (by decide) (fun c9 => ?_) (fun c9 => absurd rfl c9)
  refine lv_iload hx hb dL_law_1901 (lv_at hl 1 rfl) ?_
  refine wn_if_ne (a := lfT M (xs (i + 1))) (tgt := 1918) hx hb (nI_z (Nat.lt_trans (tb_lfT _ _) (by decide))) dL_law_1903 (by decide) (fun c0 => ?_) (fun c0 => ?_)
  · refine lv_goto (tgt := 2089) hx hb dL_law_1918 (by decide) ?_
    refine W.widen (k := cells + 3) (n := slots + 346) (by omega) (by omega) ?_
    exact kk _ _ _ _ _ _ _ _ _ hR1 hP hD hS ls (lv_sub hl [2, 3, 4, 5, 6] rfl)
  · refine lv_aload_n hx hb dL_law_1906 rfl (lv_at hl 5 rfl) ?_
    refine lv_iconst (v := nI (0)) hx hb dL_law_1907 (by decide) ?_
    refine wa_l (i := 0) (v := u.1 0) hx hb hK hP 0 1 rfl rfl rfl (by decide) (by decide) dL_law_1908 ?_
    refine lv_iload hx hb dL_law_1909 (lv_at hl 0 rfl) ?_
    refine lv_i2l (v := (lfR M (xs (i + 1)) ((RT (ix (xs (i + 1)))).n - (RT (ix (xs (i + 1)))).gv)).toInt64) hx hb dL_law_1911 rfl ?_
    refine wl_eq (tgt := 1918) hx hb dL_law_1912 dL_law_1913 (by decide) (fun c8 => ?_) (fun c8 => absurd (hout c0) c8)
    refine lv_goto (tgt := 2089) hx hb dL_law_1918 (by decide) ?_
    refine W.widen (k := cells + 3) (n := slots + 346) (by omega) (by omega) ?_
    exact kk _ _ _ _ _ _ _ _ _ hR1 hP hD hS ls (lv_sub hl [2, 3, 4, 5, 6] rfl)
set_option maxHeartbeats 4000000 in
set_option maxRecDepth 100000 in
theorem lc_close {p : Program} {l : Launch} {e : Env} {s : State} {m : MethodId} {below : List Frame} {meth : Method} {c : Code} {D : va_G} {cI cJ cZ cV cR : ClassId} {b L : Nat} {xs : Nat → Int32} {A : Nat → Prop} {a a' : Nat → Nat} {o cells slots : Nat} {Q : State → Prop} (F : LF p l s m c D cI cJ cZ cV cR b L xs A) (hcl : cells + 3 ≤ room_1.cells) (hsl : slots + 346 ≤ room_1.slots) (i : Nat) (hi : i + 8 ≤ L) (C : CT) (VT : Nat → VRec) (RT : Nat → RRec) (M : MT) (th : Nat) (lds : Nat → Bool) (ov : Nat → Int64) (H : Heap) (locs : List Loc) (hR : Rel cI cZ C VT RT M) (hP : va_P D vwCl ((oW cJ o (ov) ++ kW cI cJ cZ cV cR a (C)) ++ mW cI cJ cZ a' (th) (lds) (M)) H) (hD : va_D A ((oW cJ o (ov) ++ kW cI cJ cZ cV cR a (C)) ++ mW cI cJ cZ a' (th) (lds) (M))) (hS : va_S A s.heap H locs) (ls : Array Slot) (hl : lv_has ls 8 [(0, .ref b), (1, .ref (a 0)), (2, .ref (a' 0)), (3, .ref o), (4, .int (nI (i)))]) (kk : ∀ (C : CT) (VT : Nat → VRec) (RT : Nat → RRec) (M : MT) (th : Nat) (lds : Nat → Bool) (ov : Nat → Int64) (H : Heap) (locs : List Loc), Rel cI cZ C VT RT M → va_P D vwCl ((oW cJ o (ov) ++ kW cI cJ cZ cV cR a (C)) ++ mW cI cJ cZ a' (th) (lds) (M)) H → va_D A ((oW cJ o (ov) ++ kW cI cJ cZ cV cR a (C)) ++ mW cI cJ cZ a' (th) (lds) (M)) → va_S A s.heap H locs → ∀ ls : Array Slot, lv_has ls 8 [(0, .ref b), (1, .ref (a 0)), (2, .ref (a' 0)), (3, .ref o), (4, .int (nI (i)))] → W p l e room_1 s m #[Value.ref b] below meth c H locs (cells + 3) (slots + 346) Q (F0 m 2089 ls [])) : W p l e room_1 s m #[Value.ref b] below meth c H locs (cells) (slots) Q (F0 m 1921 ls []) := by
  obtain ⟨htr, hx, hb, hml, hown, hts, hX, hbl, hbA, hL, hA, hK, hYE, hc92⟩ := F
  have hKW : va_K D vwCl (tyW cI cJ cZ) s := hK.sub (tys' := tyW cI cJ cZ) [0, 1, 2] rfl
  refine lv_aload_n hx hb dL_law_1921 rfl (lv_at hl 1 rfl) ?_
  refine lv_aload_n hx hb dL_law_1922 rfl (lv_at hl 0 rfl) ?_
  refine lv_iload hx hb dL_law_1923 (lv_at hl 4 rfl) ?_
  refine lv_iconst (v := nI (1)) hx hb dL_law_1925 (by decide) ?_
  refine lv_iadd hx hb dL_law_1926 (ww_top (y := nI (i + 1)) (nI_addn _ _) ?_)
  refine ws_sld (i := i + 1) hx hb hX hbl hbA hS (by omega) hL dL_law_1927 ?_
  refine lv_aload_n hx hb dL_law_1928 rfl (lv_at hl 3 rfl) ?_
  have hP := fr_comm hP
  have hD := fd_comm hD
  refine wf_SWi (rest := []) (X := mW cI cJ cZ a' (th) (lds) (M)) (wf := fun u : (Nat → Int64) × CT => oW cJ o u.1 ++ kW cI cJ cZ cV cR a u.2) ⟨hx, hb, hml, hown, hts⟩ (w_L_close l htr D cI cJ cZ cV cR a C VT RT hR.ci o ov (xs (i + 1)) H.size) (vx_cwSW 3 hts gL_law_L_close rfl rfl rfl (by decide +kernel) ⟨Nat.le_of_ble_eq_true rfl, Nat.le_of_ble_eq_true rfl⟩) hP hK hD hS hA hYE rfl hl.1 rfl (Nat.le_of_ble_eq_true rfl) dL_law_1929 ⟨by omega, by omega⟩ (fun rr u hu H locs hP hD hS => ?_)
  obtain ⟨hrr, hout, VT1, RT1, hR1⟩ := J_close hR hu
  subst hrr
  have hP : va_P D vwCl ((oW cJ o (u.1) ++ kW cI cJ cZ cV cR a (u.2)) ++ mW cI cJ cZ a' (th) (lds) (M)) H := fr_comm hP
  have hD : va_D A ((oW cJ o (u.1) ++ kW cI cJ cZ cV cR a (u.2)) ++ mW cI cJ cZ a' (th) (lds) (M)) := fd_comm hD
  refine lv_istore (lv' := [(5, .int (nI (lfT M (xs (i + 1))))), (0, .ref (b)), (1, .ref (a 0)), (2, .ref (a' 0)), (3, .ref (o)), (4, .int (nI (i)))]) hx hb dL_law_1932 hl (by decide) rfl (fun ls hl => ?_)
  refine lv_aload_n hx hb dL_law_1934 rfl (lv_at hl 3 rfl) ?_
  refine lv_aload_n hx hb dL_law_1935 rfl (lv_at hl 1 rfl) ?_
  refine lv_iload hx hb dL_law_1936 (lv_at hl 5 rfl) ?_
  refine lv_iconst (v := nI (1)) hx hb dL_law_1938 (by decide) ?_
  refine lv_iadd hx hb dL_law_1939 (ww_top (y := nI (i + 1)) (nI_addn _ _) ?_)
  refine ws_sld (i := i + 1) hx hb hX hbl hbA hS (by omega) hL dL_law_1940 ?_
  refine wf_VWi (rest := []) (X := oW cJ o (u.1) ++ kW cI cJ cZ cV cR a (u.2)) (wf := mWu cI cJ cZ a') ⟨hx, hb, hml, hown, hts⟩ (c_X6_close l D cI cJ cZ a' (th) (lds) (M) hR.2.1 (xs (i + 1))  H.size) (cwV 1 hts gL_law_X6_close rfl rfl rfl (by decide +kernel) ⟨Nat.le_of_ble_eq_true rfl, Nat.le_of_ble_eq_true rfl⟩) hP hKW hD hS hA 0 rfl rfl rfl hl.1 rfl (Nat.le_of_ble_eq_true rfl) dL_law_1941 ⟨by omega, by omega⟩ (fun rr2 u2 hu2 H locs hP hD hS => ?_)
  obtain ⟨hr2, hth, hM1⟩ := hu2
  have hP : va_P D vwCl ((oW cJ o (u.1) ++ kW cI cJ cZ cV cR a (u.2)) ++ mW cI cJ cZ a' (u2.1) (u2.2.1) (u2.2.2)) H := hP
  have hD : va_D A ((oW cJ o (u.1) ++ kW cI cJ cZ cV cR a (u.2)) ++ mW cI cJ cZ a' (u2.1) (u2.2.1) (u2.2.2)) := hD
  rw [hth, hM1] at hP hD
  subst hr2
  refine lv_istore (lv' := [(6, .int (clR M (xs (i + 1)))), (5, .int (nI (lfT M (xs (i + 1))))), (0, .ref (b)), (1, .ref (a 0)), (2, .ref (a' 0)), (3, .ref (o)), (4, .int (nI (i)))]) hx hb dL_law_1944 hl (by decide) rfl (fun ls hl => ?_)
  refine lv_aload_n hx hb dL_law_1946 rfl (lv_at hl 4 rfl) ?_
  refine wc_Vi (As := []) (rest := []) ⟨hx, hb, hml, hown, hts⟩ (c_X6_thrown l D cI cJ cZ a' (lfT M (xs (i + 1))) (u2.2.1) (clM M (xs (i + 1))) hR1.2.1) (cwV 0 hts gL_law_X6_thrown rfl rfl rfl (by decide +kernel) ⟨Nat.le_of_ble_eq_true rfl, Nat.le_of_ble_eq_true rfl⟩) (fr_r hP) hKW 0 rfl rfl rfl hl.1 rfl (Nat.le_of_ble_eq_true rfl) dL_law_1947 ⟨by omega, by omega⟩ (fun rr9 hr9 => ?_)
  subst hr9
  refine lv_iload hx hb dL_law_1950 (lv_at hl 1 rfl) ?_
  refine lv_icmp_eq (tgt := 1957) hx hb dL_law_1952 (by decide) (fun c9 => ?_) (fun c9 => absurd rfl c9)
  refine lv_iload hx hb dL_law_1957 (lv_at hl 1 rfl) ?_
  refine wn_if_ne (a := lfT M (xs (i + 1))) (tgt := 1974) hx hb (nI_z (Nat.lt_trans (tb_lfT _ _) (by decide))) dL_law_1959 (by decide) (fun c0 => ?_) (fun c0 => ?_)
  · refine lv_goto (tgt := 2089) hx hb dL_law_1974 (by decide) ?_
    refine W.widen (k := cells + 3) (n := slots + 346) (by omega) (by omega) ?_
    exact kk _ _ _ _ _ _ _ _ _ hR1 hP hD hS ls (lv_sub hl [2, 3, 4, 5, 6] rfl)
  · refine lv_aload_n hx hb dL_law_1962 rfl (lv_at hl 5 rfl) ?_
    refine lv_iconst (v := nI (0)) hx hb dL_law_1963 (by decide) ?_
    refine wa_l (i := 0) (v := u.1 0) hx hb hK hP 0 1 rfl rfl rfl (by decide) (by decide) dL_law_1964 ?_
    refine lv_iload hx hb dL_law_1965 (lv_at hl 0 rfl) ?_
    refine lv_i2l (v := (clR M (xs (i + 1))).toInt64) hx hb dL_law_1967 rfl ?_
    refine wl_eq (tgt := 1974) hx hb dL_law_1968 dL_law_1969 (by decide) (fun c8 => ?_) (fun c8 => absurd (hout c0) c8)
    refine lv_goto (tgt := 2089) hx hb dL_law_1974 (by decide) ?_
    refine W.widen (k := cells + 3) (n := slots + 346) (by omega) (by omega) ?_
    exact kk _ _ _ _ _ _ _ _ _ hR1 hP hD hS ls (lv_sub hl [2, 3, 4, 5, 6] rfl)
set_option maxHeartbeats 4000000 in
set_option maxRecDepth 100000 in
theorem lc_tick {p : Program} {l : Launch} {e : Env} {s : State} {m : MethodId} {below : List Frame} {meth : Method} {c : Code} {D : va_G} {cI cJ cZ cV cR : ClassId} {b L : Nat} {xs : Nat → Int32} {A : Nat → Prop} {a a' : Nat → Nat} {o cells slots : Nat} {Q : State → Prop} (F : LF p l s m c D cI cJ cZ cV cR b L xs A) (hcl : cells + 3 ≤ room_1.cells) (hsl : slots + 346 ≤ room_1.slots) (i : Nat) (hi : i + 8 ≤ L) (C : CT) (VT : Nat → VRec) (RT : Nat → RRec) (M : MT) (th : Nat) (lds : Nat → Bool) (ov : Nat → Int64) (H : Heap) (locs : List Loc) (hR : Rel cI cZ C VT RT M) (hP : va_P D vwCl ((oW cJ o (ov) ++ kW cI cJ cZ cV cR a (C)) ++ mW cI cJ cZ a' (th) (lds) (M)) H) (hD : va_D A ((oW cJ o (ov) ++ kW cI cJ cZ cV cR a (C)) ++ mW cI cJ cZ a' (th) (lds) (M))) (hS : va_S A s.heap H locs) (ls : Array Slot) (hl : lv_has ls 8 [(0, .ref b), (1, .ref (a 0)), (2, .ref (a' 0)), (3, .ref o), (4, .int (nI (i)))]) (kk : ∀ (C : CT) (VT : Nat → VRec) (RT : Nat → RRec) (M : MT) (th : Nat) (lds : Nat → Bool) (ov : Nat → Int64) (H : Heap) (locs : List Loc), Rel cI cZ C VT RT M → va_P D vwCl ((oW cJ o (ov) ++ kW cI cJ cZ cV cR a (C)) ++ mW cI cJ cZ a' (th) (lds) (M)) H → va_D A ((oW cJ o (ov) ++ kW cI cJ cZ cV cR a (C)) ++ mW cI cJ cZ a' (th) (lds) (M)) → va_S A s.heap H locs → ∀ ls : Array Slot, lv_has ls 8 [(0, .ref b), (1, .ref (a 0)), (2, .ref (a' 0)), (3, .ref o), (4, .int (nI (i)))] → W p l e room_1 s m #[Value.ref b] below meth c H locs (cells + 3) (slots + 346) Q (F0 m 2089 ls [])) : W p l e room_1 s m #[Value.ref b] below meth c H locs (cells) (slots) Q (F0 m 1977 ls []) := by
  obtain ⟨htr, hx, hb, hml, hown, hts, hX, hbl, hbA, hL, hA, hK, hYE, hc92⟩ := F
  have hKW : va_K D vwCl (tyW cI cJ cZ) s := hK.sub (tys' := tyW cI cJ cZ) [0, 1, 2] rfl
  refine lv_aload_n hx hb dL_law_1977 rfl (lv_at hl 1 rfl) ?_
  refine lv_aload_n hx hb dL_law_1978 rfl (lv_at hl 0 rfl) ?_
  refine lv_iload hx hb dL_law_1979 (lv_at hl 4 rfl) ?_
  refine lv_iconst (v := nI (1)) hx hb dL_law_1981 (by decide) ?_
  refine lv_iadd hx hb dL_law_1982 (ww_top (y := nI (i + 1)) (nI_addn _ _) ?_)
  refine ws_sld (i := i + 1) hx hb hX hbl hbA hS (by omega) hL dL_law_1983 ?_
  refine lv_aload_n hx hb dL_law_1984 rfl (lv_at hl 3 rfl) ?_
  have hP := fr_comm hP
  have hD := fd_comm hD
  refine wf_SWi (rest := []) (X := mW cI cJ cZ a' (th) (lds) (M)) (wf := fun u : (Nat → Int64) × CT => oW cJ o u.1 ++ kW cI cJ cZ cV cR a u.2) ⟨hx, hb, hml, hown, hts⟩ (w_L_tick l htr D cI cJ cZ cV cR a C VT RT hR.ci o ov (xs (i + 1)) H.size) (vx_cwSW 3 hts gL_law_L_tick rfl rfl rfl (by decide +kernel) ⟨Nat.le_of_ble_eq_true rfl, Nat.le_of_ble_eq_true rfl⟩) hP hK hD hS hA hYE rfl hl.1 rfl (Nat.le_of_ble_eq_true rfl) dL_law_1985 ⟨by omega, by omega⟩ (fun rr u hu H locs hP hD hS => ?_)
  obtain ⟨hrr, hout, VT1, RT1, hR1⟩ := J_tick hR hu
  subst hrr
  have hP : va_P D vwCl ((oW cJ o (u.1) ++ kW cI cJ cZ cV cR a (u.2)) ++ mW cI cJ cZ a' (th) (lds) (M)) H := fr_comm hP
  have hD : va_D A ((oW cJ o (u.1) ++ kW cI cJ cZ cV cR a (u.2)) ++ mW cI cJ cZ a' (th) (lds) (M)) := fd_comm hD
  refine lv_istore (lv' := [(5, .int (nI (tickT M (xs (i + 1))))), (0, .ref (b)), (1, .ref (a 0)), (2, .ref (a' 0)), (3, .ref (o)), (4, .int (nI (i)))]) hx hb dL_law_1988 hl (by decide) rfl (fun ls hl => ?_)
  refine lv_aload_n hx hb dL_law_1990 rfl (lv_at hl 3 rfl) ?_
  refine lv_aload_n hx hb dL_law_1991 rfl (lv_at hl 1 rfl) ?_
  refine lv_iload hx hb dL_law_1992 (lv_at hl 5 rfl) ?_
  refine lv_iconst (v := nI (1)) hx hb dL_law_1994 (by decide) ?_
  refine lv_iadd hx hb dL_law_1995 (ww_top (y := nI (i + 1)) (nI_addn _ _) ?_)
  refine ws_sld (i := i + 1) hx hb hX hbl hbA hS (by omega) hL dL_law_1996 ?_
  refine wf_VWi (rest := []) (X := oW cJ o (u.1) ++ kW cI cJ cZ cV cR a (u.2)) (wf := mWu cI cJ cZ a') ⟨hx, hb, hml, hown, hts⟩ (c_X6_tick l D cI cJ cZ a' (th) (lds) (M) hR.2.1 (xs (i + 1))  H.size) (cwV 1 hts gL_law_X6_tick rfl rfl rfl (by decide +kernel) ⟨Nat.le_of_ble_eq_true rfl, Nat.le_of_ble_eq_true rfl⟩) hP hKW hD hS hA 0 rfl rfl rfl hl.1 rfl (Nat.le_of_ble_eq_true rfl) dL_law_1997 ⟨by omega, by omega⟩ (fun rr2 u2 hu2 H locs hP hD hS => ?_)
  obtain ⟨hr2, hth, hM1⟩ := hu2
  have hP : va_P D vwCl ((oW cJ o (u.1) ++ kW cI cJ cZ cV cR a (u.2)) ++ mW cI cJ cZ a' (u2.1) (u2.2.1) (u2.2.2)) H := hP
  have hD : va_D A ((oW cJ o (u.1) ++ kW cI cJ cZ cV cR a (u.2)) ++ mW cI cJ cZ a' (u2.1) (u2.2.1) (u2.2.2)) := hD
  rw [hth, hM1] at hP hD
  subst hr2
  refine lv_istore (lv' := [(6, .int (tickR M (xs (i + 1)))), (5, .int (nI (tickT M (xs (i + 1))))), (0, .ref (b)), (1, .ref (a 0)), (2, .ref (a' 0)), (3, .ref (o)), (4, .int (nI (i)))]) hx hb dL_law_2000 hl (by decide) rfl (fun ls hl => ?_)
  refine lv_aload_n hx hb dL_law_2002 rfl (lv_at hl 4 rfl) ?_
  refine wc_Vi (As := []) (rest := []) ⟨hx, hb, hml, hown, hts⟩ (c_X6_thrown l D cI cJ cZ a' (tickT M (xs (i + 1))) (u2.2.1) (tickM M (xs (i + 1))) hR1.2.1) (cwV 0 hts gL_law_X6_thrown rfl rfl rfl (by decide +kernel) ⟨Nat.le_of_ble_eq_true rfl, Nat.le_of_ble_eq_true rfl⟩) (fr_r hP) hKW 0 rfl rfl rfl hl.1 rfl (Nat.le_of_ble_eq_true rfl) dL_law_2003 ⟨by omega, by omega⟩ (fun rr9 hr9 => ?_)
  subst hr9
  refine lv_iload hx hb dL_law_2006 (lv_at hl 1 rfl) ?_
  refine lv_icmp_eq (tgt := 2013) hx hb dL_law_2008 (by decide) (fun c9 => ?_) (fun c9 => absurd rfl c9)
  refine lv_iload hx hb dL_law_2013 (lv_at hl 1 rfl) ?_
  refine wn_if_ne (a := tickT M (xs (i + 1))) (tgt := 2030) hx hb (nI_z (Nat.lt_trans (tb_tickT _ _) (by decide))) dL_law_2015 (by decide) (fun c0 => ?_) (fun c0 => ?_)
  · refine lv_goto (tgt := 2089) hx hb dL_law_2030 (by decide) ?_
    refine W.widen (k := cells + 3) (n := slots + 346) (by omega) (by omega) ?_
    exact kk _ _ _ _ _ _ _ _ _ hR1 hP hD hS ls (lv_sub hl [2, 3, 4, 5, 6] rfl)
  · refine lv_aload_n hx hb dL_law_2018 rfl (lv_at hl 5 rfl) ?_
    refine lv_iconst (v := nI (0)) hx hb dL_law_2019 (by decide) ?_
    refine wa_l (i := 0) (v := u.1 0) hx hb hK hP 0 1 rfl rfl rfl (by decide) (by decide) dL_law_2020 ?_
    refine lv_iload hx hb dL_law_2021 (lv_at hl 0 rfl) ?_
    refine lv_i2l (v := (tickR M (xs (i + 1))).toInt64) hx hb dL_law_2023 rfl ?_
    refine wl_eq (tgt := 2030) hx hb dL_law_2024 dL_law_2025 (by decide) (fun c8 => ?_) (fun c8 => absurd (hout c0) c8)
    refine lv_goto (tgt := 2089) hx hb dL_law_2030 (by decide) ?_
    refine W.widen (k := cells + 3) (n := slots + 346) (by omega) (by omega) ?_
    exact kk _ _ _ _ _ _ _ _ _ hR1 hP hD hS ls (lv_sub hl [2, 3, 4, 5, 6] rfl)
set_option maxHeartbeats 4000000 in
set_option maxRecDepth 100000 in
theorem lc_told {p : Program} {l : Launch} {e : Env} {s : State} {m : MethodId} {below : List Frame} {meth : Method} {c : Code} {D : va_G} {cI cJ cZ cV cR : ClassId} {b L : Nat} {xs : Nat → Int32} {A : Nat → Prop} {a a' : Nat → Nat} {o cells slots : Nat} {Q : State → Prop} (F : LF p l s m c D cI cJ cZ cV cR b L xs A) (hcl : cells + 3 ≤ room_1.cells) (hsl : slots + 346 ≤ room_1.slots) (i : Nat) (hi : i + 8 ≤ L) (C : CT) (VT : Nat → VRec) (RT : Nat → RRec) (M : MT) (th : Nat) (lds : Nat → Bool) (ov : Nat → Int64) (H : Heap) (locs : List Loc) (hR : Rel cI cZ C VT RT M) (hP : va_P D vwCl ((oW cJ o (ov) ++ kW cI cJ cZ cV cR a (C)) ++ mW cI cJ cZ a' (th) (lds) (M)) H) (hD : va_D A ((oW cJ o (ov) ++ kW cI cJ cZ cV cR a (C)) ++ mW cI cJ cZ a' (th) (lds) (M))) (hS : va_S A s.heap H locs) (ls : Array Slot) (hl : lv_has ls 8 [(0, .ref b), (1, .ref (a 0)), (2, .ref (a' 0)), (3, .ref o), (4, .int (nI (i)))]) (kk : ∀ (C : CT) (VT : Nat → VRec) (RT : Nat → RRec) (M : MT) (th : Nat) (lds : Nat → Bool) (ov : Nat → Int64) (H : Heap) (locs : List Loc), Rel cI cZ C VT RT M → va_P D vwCl ((oW cJ o (ov) ++ kW cI cJ cZ cV cR a (C)) ++ mW cI cJ cZ a' (th) (lds) (M)) H → va_D A ((oW cJ o (ov) ++ kW cI cJ cZ cV cR a (C)) ++ mW cI cJ cZ a' (th) (lds) (M)) → va_S A s.heap H locs → ∀ ls : Array Slot, lv_has ls 8 [(0, .ref b), (1, .ref (a 0)), (2, .ref (a' 0)), (3, .ref o), (4, .int (nI (i)))] → W p l e room_1 s m #[Value.ref b] below meth c H locs (cells + 3) (slots + 346) Q (F0 m 2089 ls [])) : W p l e room_1 s m #[Value.ref b] below meth c H locs (cells) (slots) Q (F0 m 2033 ls []) := by
  obtain ⟨htr, hx, hb, hml, hown, hts, hX, hbl, hbA, hL, hA, hK, hYE, hc92⟩ := F
  have hKW : va_K D vwCl (tyW cI cJ cZ) s := hK.sub (tys' := tyW cI cJ cZ) [0, 1, 2] rfl
  refine lv_aload_n hx hb dL_law_2033 rfl (lv_at hl 1 rfl) ?_
  refine lv_aload_n hx hb dL_law_2034 rfl (lv_at hl 0 rfl) ?_
  refine lv_iload hx hb dL_law_2035 (lv_at hl 4 rfl) ?_
  refine lv_iconst (v := nI (1)) hx hb dL_law_2037 (by decide) ?_
  refine lv_iadd hx hb dL_law_2038 (ww_top (y := nI (i + 1)) (nI_addn _ _) ?_)
  refine ws_sld (i := i + 1) hx hb hX hbl hbA hS (by omega) hL dL_law_2039 ?_
  refine lv_aload_n hx hb dL_law_2040 rfl (lv_at hl 3 rfl) ?_
  have hP := fr_comm hP
  have hD := fd_comm hD
  refine wf_SWi (rest := []) (X := mW cI cJ cZ a' (th) (lds) (M)) (wf := fun u : (Nat → Int64) × CT => oW cJ o u.1 ++ kW cI cJ cZ cV cR a u.2) ⟨hx, hb, hml, hown, hts⟩ (w_L_told l htr D cI cJ cZ cV cR a C VT RT hR.ci o ov (xs (i + 1)) H.size) (vx_cwSW 3 hts gL_law_L_told rfl rfl rfl (by decide +kernel) ⟨Nat.le_of_ble_eq_true rfl, Nat.le_of_ble_eq_true rfl⟩) hP hK hD hS hA hYE rfl hl.1 rfl (Nat.le_of_ble_eq_true rfl) dL_law_2041 ⟨by omega, by omega⟩ (fun rr u hu H locs hP hD hS => ?_)
  obtain ⟨hrr, hout, VT1, RT1, hR1⟩ := J_told hR hu
  subst hrr
  have hP : va_P D vwCl ((oW cJ o (u.1) ++ kW cI cJ cZ cV cR a (u.2)) ++ mW cI cJ cZ a' (th) (lds) (M)) H := fr_comm hP
  have hD : va_D A ((oW cJ o (u.1) ++ kW cI cJ cZ cV cR a (u.2)) ++ mW cI cJ cZ a' (th) (lds) (M)) := fd_comm hD
  refine lv_istore (lv' := [(5, .int (nI (toldT (xs (i + 1))))), (0, .ref (b)), (1, .ref (a 0)), (2, .ref (a' 0)), (3, .ref (o)), (4, .int (nI (i)))]) hx hb dL_law_2044 hl (by decide) rfl (fun ls hl => ?_)
  refine lv_aload_n hx hb dL_law_2046 rfl (lv_at hl 3 rfl) ?_
  refine lv_aload_n hx hb dL_law_2047 rfl (lv_at hl 1 rfl) ?_
  refine lv_iload hx hb dL_law_2048 (lv_at hl 5 rfl) ?_
  refine lv_iconst (v := nI (1)) hx hb dL_law_2050 (by decide) ?_
  refine lv_iadd hx hb dL_law_2051 (ww_top (y := nI (i + 1)) (nI_addn _ _) ?_)
  refine ws_sld (i := i + 1) hx hb hX hbl hbA hS (by omega) hL dL_law_2052 ?_
  refine wf_VWi (rest := []) (X := oW cJ o (u.1) ++ kW cI cJ cZ cV cR a (u.2)) (wf := mWu cI cJ cZ a') ⟨hx, hb, hml, hown, hts⟩ (c_X6_told l D cI cJ cZ a' (th) (lds) (M) hR.2.1 (xs (i + 1))  H.size) (cwV 1 hts gL_law_X6_told rfl rfl rfl (by decide +kernel) ⟨Nat.le_of_ble_eq_true rfl, Nat.le_of_ble_eq_true rfl⟩) hP hKW hD hS hA 0 rfl rfl rfl hl.1 rfl (Nat.le_of_ble_eq_true rfl) dL_law_2053 ⟨by omega, by omega⟩ (fun rr2 u2 hu2 H locs hP hD hS => ?_)
  obtain ⟨hr2, hth, hM1⟩ := hu2
  have hP : va_P D vwCl ((oW cJ o (u.1) ++ kW cI cJ cZ cV cR a (u.2)) ++ mW cI cJ cZ a' (u2.1) (u2.2.1) (u2.2.2)) H := hP
  have hD : va_D A ((oW cJ o (u.1) ++ kW cI cJ cZ cV cR a (u.2)) ++ mW cI cJ cZ a' (u2.1) (u2.2.1) (u2.2.2)) := hD
  rw [hth, hM1] at hP hD
  subst hr2
  refine lv_istore (lv' := [(6, .int (toldR M (xs (i + 1)))), (5, .int (nI (toldT (xs (i + 1))))), (0, .ref (b)), (1, .ref (a 0)), (2, .ref (a' 0)), (3, .ref (o)), (4, .int (nI (i)))]) hx hb dL_law_2056 hl (by decide) rfl (fun ls hl => ?_)
  refine lv_aload_n hx hb dL_law_2058 rfl (lv_at hl 4 rfl) ?_
  refine wc_Vi (As := []) (rest := []) ⟨hx, hb, hml, hown, hts⟩ (c_X6_thrown l D cI cJ cZ a' (toldT (xs (i + 1))) (u2.2.1) (M) hR1.2.1) (cwV 0 hts gL_law_X6_thrown rfl rfl rfl (by decide +kernel) ⟨Nat.le_of_ble_eq_true rfl, Nat.le_of_ble_eq_true rfl⟩) (fr_r hP) hKW 0 rfl rfl rfl hl.1 rfl (Nat.le_of_ble_eq_true rfl) dL_law_2059 ⟨by omega, by omega⟩ (fun rr9 hr9 => ?_)
  subst hr9
  refine lv_iload hx hb dL_law_2062 (lv_at hl 1 rfl) ?_
  refine lv_icmp_eq (tgt := 2069) hx hb dL_law_2064 (by decide) (fun c9 => ?_) (fun c9 => absurd rfl c9)
  refine lv_iload hx hb dL_law_2069 (lv_at hl 1 rfl) ?_
  refine wn_if_ne (a := toldT (xs (i + 1))) (tgt := 2086) hx hb (nI_z (Nat.lt_trans (tb_toldT _) (by decide))) dL_law_2071 (by decide) (fun c0 => ?_) (fun c0 => ?_)
  · refine lv_goto (tgt := 2089) hx hb dL_law_2086 (by decide) ?_
    refine W.widen (k := cells + 3) (n := slots + 346) (by omega) (by omega) ?_
    exact kk _ _ _ _ _ _ _ _ _ hR1 hP hD hS ls (lv_sub hl [2, 3, 4, 5, 6] rfl)
  · refine lv_aload_n hx hb dL_law_2074 rfl (lv_at hl 5 rfl) ?_
    refine lv_iconst (v := nI (0)) hx hb dL_law_2075 (by decide) ?_
    refine wa_l (i := 0) (v := u.1 0) hx hb hK hP 0 1 rfl rfl rfl (by decide) (by decide) dL_law_2076 ?_
    refine lv_iload hx hb dL_law_2077 (lv_at hl 0 rfl) ?_
    refine lv_i2l (v := (toldR M (xs (i + 1))).toInt64) hx hb dL_law_2079 rfl ?_
    refine wl_eq (tgt := 2086) hx hb dL_law_2080 dL_law_2081 (by decide) (fun c8 => ?_) (fun c8 => absurd (hout c0) c8)
    refine lv_goto (tgt := 2089) hx hb dL_law_2086 (by decide) ?_
    refine W.widen (k := cells + 3) (n := slots + 346) (by omega) (by omega) ?_
    exact kk _ _ _ _ _ _ _ _ _ hR1 hP hD hS ls (lv_sub hl [2, 3, 4, 5, 6] rfl)
