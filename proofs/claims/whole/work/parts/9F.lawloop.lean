set_option maxHeartbeats 4000000 in
set_option maxRecDepth 100000 in
/-- the law's loop: at its head class and reference stand together -/
theorem law_loop {p : Program} {l : Launch} {e : Env} {s : State} {m : MethodId} {below : List Frame} {meth : Method} {c : Code} {D : va_G} {cI cJ cZ cV cR : ClassId} {b L : Nat} {xs : Nat → Int32} {a a' : Nat → Nat} {o : Nat} (F : LF p l s m c D cI cJ cZ cV cR b L xs (fun q : Nat => s.heap.size ≤ q)) (hr : meth.sig.returnType = ret) (hlocks : meth.locks = false) : ∀ (n i cells slots : Nat), i ≤ L → L + 1 ≤ i + n → cells + 3 * n ≤ 601024 → slots + 346 * n ≤ 7293034 → ∀ (C : CT) (VT : Nat → VRec) (RT : Nat → RRec) (M : MT) (th : Nat) (lds : Nat → Bool) (ov : Nat → Int64) (H : Heap) (locs : List Loc), Rel cI cZ C VT RT M → va_P D vwCl ((oW cJ o (ov) ++ kW cI cJ cZ cV cR a (C)) ++ mW cI cJ cZ a' (th) (lds) (M)) H → va_D (fun q : Nat => s.heap.size ≤ q) ((oW cJ o (ov) ++ kW cI cJ cZ cV cR a (C)) ++ mW cI cJ cZ a' (th) (lds) (M)) → va_S (fun q : Nat => s.heap.size ≤ q) s.heap H locs → ∀ ls : Array Slot, lv_has ls 8 [(0, .ref b), (1, .ref (a 0)), (2, .ref (a' 0)), (3, .ref o), (4, .int (nI (i)))] → W p l e room_1 s m #[Value.ref b] below meth c H locs (cells) (slots) (lw_Z below #[Value.ref b] s) (F0 m 23 ls []) := by
  obtain ⟨htr, hx, hb, hml, hown, hts, hX, hbl, hbA, hL, hA, hK, hYE, hc92⟩ := id F
  intro n
  induction n with
  | zero => intro i cells slots h1 h2; exact absurd h2 (by omega)
  | succ n ih =>
    intro i cells slots hi hin hcl hsl C VT RT M th lds ov H locs hR hP hD hS ls hl
    refine lv_iload hx hb dL_law_23 (lv_at hl 4 rfl) ?_
    refine lv_aload_n hx hb dL_law_25 rfl (lv_at hl 0 rfl) ?_
    refine va_slen hx hb hX hbl hbA hS dL_law_26 ?_
    refine ww_top (y := nI L) rfl ?_
    refine lv_bipush (v := nI (8)) hx hb dL_law_27 (by decide) ?_
    refine lv_isub hx hb dL_law_29 (ww_top (y := zI (((L : Nat) : Int) - ((8 : Nat) : Int))) (nz_sub _ _) ?_)
    refine wz_icmp_gt (tgt := 2095) hx hb ((i : Nat) : Int) (((L : Nat) : Int) - ((8 : Nat) : Int)) (nI_z (by omega)) (zI_toInt (by omega) (by omega)) dL_law_30 (by decide) (fun c1 => ?_) (fun c1 => ?_)
    · refine lv_iconst (v := 1) hx hb dL_law_2095 (by decide) ?_
      refine va_forget (fun q hq => hS.2.2 q hq) ?_
      refine W.widen (k := 601024) (n := 7293034) (by omega) (by omega) ?_
      exact lw_ret hx hb hr hlocks dL_law_2096
    have hi8 : i + 8 ≤ L := by omega
    have kk : ∀ (C : CT) (VT : Nat → VRec) (RT : Nat → RRec) (M : MT) (th : Nat) (lds : Nat → Bool) (ov : Nat → Int64) (H : Heap) (locs : List Loc), Rel cI cZ C VT RT M → va_P D vwCl ((oW cJ o (ov) ++ kW cI cJ cZ cV cR a (C)) ++ mW cI cJ cZ a' (th) (lds) (M)) H → va_D (fun q : Nat => s.heap.size ≤ q) ((oW cJ o (ov) ++ kW cI cJ cZ cV cR a (C)) ++ mW cI cJ cZ a' (th) (lds) (M)) → va_S (fun q : Nat => s.heap.size ≤ q) s.heap H locs → ∀ ls : Array Slot, lv_has ls 8 [(0, .ref b), (1, .ref (a 0)), (2, .ref (a' 0)), (3, .ref o), (4, .int (nI (i)))] → W p l e room_1 s m #[Value.ref b] below meth c H locs (cells + 3) (slots + 346) (lw_Z below #[Value.ref b] s) (F0 m 2089 ls []) := by
      intro C VT RT M th lds ov H locs hR hP hD hS ls hl
      refine lv_iinc (v := nI (i + 8)) (lv' := [(4, .int (nI (i + 8))), (0, .ref b), (1, .ref (a 0)), (2, .ref (a' 0)), (3, .ref o)]) hx hb dL_law_2089 hl (k := 4) rfl (nI_incc _ 8) (by decide) rfl (fun ls hl => ?_)
      refine lv_goto (tgt := 23) hx hb dL_law_2092 (by decide) ?_
      exact ih (i + 8) (cells + 3) (slots + 346) (by omega) (by omega) (by omega) (by omega) C VT RT M th lds ov H locs hR hP hD hS ls (lv_sub hl [1, 2, 3, 4, 0] rfl)
    have hc3 : cells + 3 ≤ room_1.cells := by show cells + 3 ≤ 601024; omega
    have hs3 : slots + 346 ≤ room_1.slots := by show slots + 346 ≤ 7293034; omega
    refine lv_aload_n hx hb dL_law_33 rfl (lv_at hl 0 rfl) ?_
    refine lv_iload hx hb dL_law_34 (lv_at hl 4 rfl) ?_
    refine ws_sld (i := i) hx hb hX hbl hbA hS (by omega) hL dL_law_36 ?_
    refine lv_bipush (v := nI (31)) hx hb dL_law_37 (by decide) ?_
    refine lv_iand hx hb dL_law_39 ?_
    generalize xs i &&& nI 31 = t
    rcases Classical.em (t.toInt < 0 ∨ 24 < t.toInt) with h9 | h9
    · refine lv_tableOut (tgt := 2089) hx hb dL_law_40 h9 (by decide) ?_
      refine W.widen (k := cells + 3) (n := slots + 346) (by omega) (by omega) ?_
      exact kk C VT RT M th lds ov H locs hR hP hD hS ls hl
    obtain ⟨k, hk, ek⟩ : ∃ k : Nat, k < 25 ∧ t.toInt = ((k : Nat) : Int) := ⟨t.toInt.toNat, by omega, by omega⟩
    rcases (show k = 0 ∨ k = 1 ∨ k = 2 ∨ k = 3 ∨ k = 4 ∨ k = 5 ∨ k = 6 ∨ k = 7 ∨ k = 8 ∨ k = 9 ∨ k = 10 ∨ k = 11 ∨ k = 12 ∨ k = 13 ∨ k = 14 ∨ k = 15 ∨ k = 16 ∨ k = 17 ∨ k = 18 ∨ k = 19 ∨ k = 20 ∨ k = 21 ∨ k = 22 ∨ k = 23 ∨ k = 24 by omega) with rfl | rfl | rfl | rfl | rfl | rfl | rfl | rfl | rfl | rfl | rfl | rfl | rfl | rfl | rfl | rfl | rfl | rfl | rfl | rfl | rfl | rfl | rfl | rfl | rfl
    · exact lv_tableIn (off := 116) (tgt := 156) hx hb dL_law_40 (by rw [ek]; decide) (by rw [ek]; decide) (by rw [ek]; rfl) (by decide) (lc_add F hc3 hs3 i hi8 C VT RT M th lds ov H locs hR hP hD hS ls hl kk)
    · exact lv_tableIn (off := 263) (tgt := 303) hx hb dL_law_40 (by rw [ek]; decide) (by rw [ek]; decide) (by rw [ek]; rfl) (by decide) (lc_drop F hc3 hs3 i hi8 C VT RT M th lds ov H locs hR hP hD hS ls hl kk)
    · exact lv_tableIn (off := 326) (tgt := 366) hx hb dL_law_40 (by rw [ek]; decide) (by rw [ek]; decide) (by rw [ek]; rfl) (by decide) (lc_commit F hc3 hs3 i hi8 C VT RT M th lds ov H locs hR hP hD hS ls hl kk)
    · exact lv_tableIn (off := 339) (tgt := 379) hx hb dL_law_40 (by rw [ek]; decide) (by rw [ek]; decide) (by rw [ek]; rfl) (by decide) (lc_merge F hc3 hs3 i hi8 C VT RT M th lds ov H locs hR hP hD hS ls hl kk)
    · exact lv_tableIn (off := 364) (tgt := 404) hx hb dL_law_40 (by rw [ek]; decide) (by rw [ek]; decide) (by rw [ek]; rfl) (by decide) (lc_object F hc3 hs3 i hi8 C VT RT M th lds ov H locs hR hP hD hS ls hl kk)
    · exact lv_tableIn (off := 431) (tgt := 471) hx hb dL_law_40 (by rw [ek]; decide) (by rw [ek]; decide) (by rw [ek]; rfl) (by decide) (lc_segment F hc3 hs3 i hi8 C VT RT M th lds ov H locs hR hP hD hS ls hl kk)
    · exact lv_tableIn (off := 499) (tgt := 539) hx hb dL_law_40 (by rw [ek]; decide) (by rw [ek]; decide) (by rw [ek]; rfl) (by decide) (lc_view F hc3 hs3 i hi8 C VT RT M th lds ov H locs hR hP hD hS ls hl kk)
    · exact lv_tableIn (off := 512) (tgt := 552) hx hb dL_law_40 (by rw [ek]; decide) (by rw [ek]; decide) (by rw [ek]; rfl) (by decide) (lc_letGo F hc3 hs3 i hi8 C VT RT M th lds ov H locs hR hP hD hS ls hl kk)
    · exact lv_tableIn (off := 568) (tgt := 608) hx hb dL_law_40 (by rw [ek]; decide) (by rw [ek]; decide) (by rw [ek]; rfl) (by decide) (lc_state F hc3 hs3 i hi8 C VT RT M th lds ov H locs hR hP hD hS ls hl kk)
    · exact lv_tableIn (off := 624) (tgt := 664) hx hb dL_law_40 (by rw [ek]; decide) (by rw [ek]; decide) (by rw [ek]; rfl) (by decide) (lc_size F hc3 hs3 i hi8 C VT RT M th lds ov H locs hR hP hD hS ls hl kk)
    · exact lv_tableIn (off := 680) (tgt := 720) hx hb dL_law_40 (by rw [ek]; decide) (by rw [ek]; decide) (by rw [ek]; rfl) (by decide) (lc_hit F hc3 hs3 i hi8 C VT RT M th lds ov H locs hR hP hD hS ls hl kk)
    · exact lv_tableIn (off := 804) (tgt := 844) hx hb dL_law_40 (by rw [ek]; decide) (by rw [ek]; decide) (by rw [ek]; rfl) (by decide) (lc_place F hc3 hs3 i hi8 C VT RT M th lds ov H locs hR hP hD hS ls hl kk)
    · exact lv_tableIn (off := 928) (tgt := 968) hx hb dL_law_40 (by rw [ek]; decide) (by rw [ek]; decide) (by rw [ek]; rfl) (by decide) (lc_groups F hc3 hs3 i hi8 C VT RT M th lds ov H locs hR hP hD hS ls hl kk)
    · exact lv_tableIn (off := 984) (tgt := 1024) hx hb dL_law_40 (by rw [ek]; decide) (by rw [ek]; decide) (by rw [ek]; rfl) (by decide) (lc_group F hc3 hs3 i hi8 C VT RT M th lds ov H locs hR hP hD hS ls hl kk)
    · exact lv_tableIn (off := 1107) (tgt := 1147) hx hb dL_law_40 (by rw [ek]; decide) (by rw [ek]; decide) (by rw [ek]; rfl) (by decide) (lc_counted F hc3 hs3 i hi8 C VT RT M th lds ov H locs hR hP hD hS ls hl kk)
    · exact lv_tableIn (off := 1231) (tgt := 1271) hx hb dL_law_40 (by rw [ek]; decide) (by rw [ek]; decide) (by rw [ek]; rfl) (by decide) (lc_best F hc3 hs3 i hi8 C VT RT M th lds ov H locs hR hP hD hS ls hl kk)
    · exact lv_tableIn (off := 1369) (tgt := 1409) hx hb dL_law_40 (by rw [ek]; decide) (by rw [ek]; decide) (by rw [ek]; rfl) (by decide) (lc_cursor F hc3 hs3 i hi8 C VT RT M th lds ov H locs hR hP hD hS ls hl kk)
    · exact lv_tableIn (off := 1521) (tgt := 1561) hx hb dL_law_40 (by rw [ek]; decide) (by rw [ek]; decide) (by rw [ek]; rfl) (by decide) (lc_iterator F hc3 hs3 i hi8 C VT RT M th lds ov H locs hR hP hD hS ls hl kk)
    · exact lv_tableIn (off := 1645) (tgt := 1685) hx hb dL_law_40 (by rw [ek]; decide) (by rw [ek]; decide) (by rw [ek]; rfl) (by decide) (lc_take F hc3 hs3 i hi8 C VT RT M th lds ov H locs hR hP hD hS ls hl kk)
    · exact lv_tableIn (off := 1713) (tgt := 1753) hx hb dL_law_40 (by rw [ek]; decide) (by rw [ek]; decide) (by rw [ek]; rfl) (by decide) (lc_page F hc3 hs3 i hi8 C VT RT M th lds ov H locs hR hP hD hS ls hl kk)
    · exact lv_tableIn (off := 1769) (tgt := 1809) hx hb dL_law_40 (by rw [ek]; decide) (by rw [ek]; decide) (by rw [ek]; rfl) (by decide) (lc_next F hc3 hs3 i hi8 C VT RT M th lds ov H locs hR hP hD hS ls hl kk)
    · exact lv_tableIn (off := 1825) (tgt := 1865) hx hb dL_law_40 (by rw [ek]; decide) (by rw [ek]; decide) (by rw [ek]; rfl) (by decide) (lc_left F hc3 hs3 i hi8 C VT RT M th lds ov H locs hR hP hD hS ls hl kk)
    · exact lv_tableIn (off := 1881) (tgt := 1921) hx hb dL_law_40 (by rw [ek]; decide) (by rw [ek]; decide) (by rw [ek]; rfl) (by decide) (lc_close F hc3 hs3 i hi8 C VT RT M th lds ov H locs hR hP hD hS ls hl kk)
    · exact lv_tableIn (off := 1937) (tgt := 1977) hx hb dL_law_40 (by rw [ek]; decide) (by rw [ek]; decide) (by rw [ek]; rfl) (by decide) (lc_tick F hc3 hs3 i hi8 C VT RT M th lds ov H locs hR hP hD hS ls hl kk)
    · exact lv_tableIn (off := 1993) (tgt := 2033) hx hb dL_law_40 (by rw [ek]; decide) (by rw [ek]; decide) (by rw [ek]; rfl) (by decide) (lc_told F hc3 hs3 i hi8 C VT RT M th lds ov H locs hR hP hD hS ls hl kk)
